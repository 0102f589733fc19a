def Wvi (c j : Nat) : Nat → Nat → Prop := fun b k => b = c + 5 ∧ 4 * j ≤ k ∧ k < 4 * j + 4
def Wwi (c j : Nat) : Nat → Nat → Prop := fun b k => b = c + 4 ∧ 19 * j ≤ k ∧ k < 19 * j + 19
def Wly (c j : Nat) : Nat → Nat → Prop := fun b k => Wwi c j b k ∨ Wvi c j b k
theorem Wly_cc {h h1 : HA} {c j : Nat} {C : CR} (p : ch (Wly c j) h h1) (hs : CC h c C) : CC h1 c C :=
  cc_of p hs (fun k _ w => by unfold Wly Wvi Wwi at w; omega) (fun a k _ _ w => by unfold Wly Wvi Wwi at w; omega)
theorem lt_lit {k n : Nat} (hk : k < n) (hn : n < 2 ^ 31) : nI k < nI n := (lt_n (by omega) hn).mpr hk
theorem nlt_lit {k n : Nat} (hk : n ≤ k) (h2 : k < 2 ^ 31) : ¬ nI k < nI n := by rw [lt_n h2 (by omega)]; omega
theorem layVia_ok {h : HA} {c j : Nat} {C : CR} (hs : CC h c C) (hj : j < 6) (L : Int64) (hv : ∀ s, s < 4 → ∀ f, tb (gj h (c + 5) (4 * j + s)) f = true → op C f = true) :
    ∃ h1, X0_layVia h c (nI j) L = some h1 ∧ ch (Wly c j) h h1 ∧ (∀ a k, a ≠ c + 5 → gj h1 a k = gj h a k) ∧ ∀ s f, s < 4 → f < 64 → tb (gj h1 (c + 5) (4 * j + s)) f = (tb (gj h (c + 5) (4 * j + s)) f || ((op C f && nb C (tb (gj h (c + 5) (4 * j + s))) f) && tb L f)) := by
  have hl := loop_inv (fun fu k (x : HA) => X0_layVia_L3 c (nI j) L fu x (nI k))
    (fun k h1 => ch (Wly c j) h h1 ∧ (∀ a k, a ≠ c + 5 → gj h1 a k = gj h a k) ∧ (∀ s, k ≤ s → s < 4 → gj h1 (c + 5) (4 * j + s) = gj h (c + 5) (4 * j + s)) ∧ ∀ s f, s < k → s < 4 → f < 64 → tb (gj h1 (c + 5) (4 * j + s)) f = (tb (gj h (c + 5) (4 * j + s)) f || ((op C f && nb C (tb (gj h (c + 5) (4 * j + s))) f) && tb L f)))
    (fun h1 => ch (Wly c j) h h1 ∧ (∀ a k, a ≠ c + 5 → gj h1 a k = gj h a k) ∧ ∀ s f, s < 4 → f < 64 → tb (gj h1 (c + 5) (4 * j + s)) f = (tb (gj h (c + 5) (4 * j + s)) f || ((op C f && nb C (tb (gj h (c + 5) (4 * j + s))) f) && tb L f))) 4 ?_ ?_ h FU ⟨ch_rf _ _, fun _ _ _ => rfl, fun _ _ _ => rfl, fun s f h1 => by omega⟩ (FU_gt (by omega))
  · obtain ⟨h1, e1, c1, g1⟩ := hl
    refine ⟨h1, ?_, c1, g1⟩
    unfold X0_layVia
    rw [if_pos (cs_c hs.1), show X0_layVia_L3 c (nI j) L FU h 0 = _ from e1]; rfl
  · rintro k h1 fu hk ⟨i1, i0, i2, i3⟩
    have hs1 := Wly_cc i1 hs
    obtain ⟨G, hG, hGb⟩ := grow_c hs1 (gj h1 (c + 5) (4 * j + k)) (by rw [i2 k (by omega) hk]; exact hv k hk)
    refine ⟨sj h1 (c + 5) (4 * j + k) (gj h1 (c + 5) (4 * j + k) ||| (G &&& L)), ?_, ?_, ?_, ?_, ?_⟩
    · show X0_layVia_L3 c (nI j) L (fu + 1) h1 (nI k) = _
      have e4 : nI j * 4 + nI k = nI (4 * j + k) := by rw [show (4 : Int32) = nI 4 from rfl, nI_mul, nI_add, Nat.mul_comm]
      rw [X0_layVia_L3, if_pos (lt4 hk), cs_r13 hs1.1, Option.bind_some, e4, ldJ_n (cs_k13 hs1.1) (by omega) (by omega)]
      simp only [Option.bind_some]
      rw [hG, Option.bind_some, asJ_n (cs_k13 hs1.1) (by omega) (by omega), Option.bind_some, nI_p1]
    · exact i1.tr (ch_sj (Or.inr ⟨rfl, by omega, by omega⟩))
    · intro a k' ha
      rw [gj_sj, if_neg (fun z => ha z.1)]; exact i0 a k' ha
    · intro s h1 h2
      rw [gj_sj, if_neg (by omega)]; exact i2 s (by omega) h2
    · intro s f h1 h2 hf
      rw [gj_sj]
      by_cases e : s = k
      · subst e
        rw [if_pos ⟨rfl, rfl⟩, tb_or, tb_and, hGb f hf, i2 s (by omega) hk]
      · rw [if_neg (by omega)]; exact i3 s f (by omega) h2 hf
  · rintro h1 fu ⟨i1, i0, i2, i3⟩
    refine ⟨h1, ?_, i1, i0, fun s f h1 h2 => i3 s f h1 h1 h2⟩
    show X0_layVia_L3 c (nI j) L (fu + 1) h1 (nI 4) = _
    rw [X0_layVia_L3, if_neg (by decide)]
def LJ (h : HA) (c : Nat) (C : CR) (j : Nat) : Prop := (∀ d f, d < 19 → f < 64 → tb (gj h (c + 4) (19 * j + d)) f = bl C (jg C j 0) d f) ∧ ∀ s f, s < 4 → f < 64 → tb (gj h (c + 5) (4 * j + s)) f = cmb C (jg C j 0) f s
theorem bl_stab {C : CR} (hw : WFs C) {a d : Nat} (ha : op C a = true) (h : ∀ f, f < 64 → bl C a (d + 1) f = bl C a d f) : ∀ e f, f < 64 → bl C a (d + e) f = bl C a d f := by
  have hF := cF_le hw
  intro e
  induction e with
  | zero => intro f _; rfl
  | succ e ih =>
    intro f hf
    rw [← h f hf]
    rw [Bool.eq_iff_iff, show d + (e + 1) = (d + e) + 1 from rfl, bl_succ, bl_succ, ih f hf]
    refine or_congr Iff.rfl (and_congr Iff.rfl ⟨?_, ?_⟩)
    · rintro ⟨s, g, h1, h2, h3⟩
      have := op_lt (stp_op h2)
      exact ⟨s, g, h1, h2, by rw [← ih g (by omega)]; exact h3⟩
    · rintro ⟨s, g, h1, h2, h3⟩
      have := op_lt (stp_op h2)
      exact ⟨s, g, h1, h2, by rw [ih g (by omega)]; exact h3⟩
theorem cmb_63 {C : CR} {a f s : Nat} (h : cmb C a f s = true) : bl C a 63 f = true := by
  obtain ⟨b, h1, h2⟩ := cmb_iff.mp h
  rw [← ds_le (by omega)]
  have h3 := ds_cases C a f
  have h4 := ds_cases C b f
  omega
theorem jseat {C : CR} (hw : WF C) {j : Nat} (hj : j < cJ C) : op C (jg C j 0) = true := (hw.2.1 j hj).2.1
theorem of_c {h : HA} {c j w : Nat} {C : CR} (hs : CC h c C) (hj : j < cJ C) (hw : w < 5) : X0_of h c (nI j) (nI w) = some (nI (jg C j w)) := by
  obtain ⟨a1, a2, a3, a4, a5, a6, a7, a8, a9, a10, a11, a12⟩ := hs
  have h6 := a2.1.2.2.1.1
  unfold X0_of
  rw [if_pos (cs_c a1), cs_r7 a1, Option.bind_some, show nI j * 5 + nI w = nI (5 * j + w) by rw [show (5 : Int32) = nI 5 from rfl, nI_mul, nI_add, Nat.mul_comm], ldI_n (cs_k7 a1) (by omega) (by omega), Option.bind_some, a11 _ (by omega), ← (a2.2.1 j hj).1 w hw]
  rw [show 4 + (5 * j + w) = 4 + 5 * j + w by omega]
theorem layOf_ok {h : HA} {c j : Nat} {C : CR} (hs : CC h c C) (hj : j < cJ C) : ∃ h1, X0_layOf h c (nI j) = some h1 ∧ ch (Wly c j) h h1 ∧ LJ h1 c C j := by
  have hw := hs.2.1.1
  have hF := cF_le hw
  have h6 := hw.2.2.1.1
  have hso := jseat hs.2.1 hj
  have hsF := op_lt hso
  generalize hseat : jg C j 0 = seat at *
  unfold X0_layOf LJ
  rw [if_pos (cs_c hs.1), show X0_of h c (nI j) 0 = some (nI seat) by rw [← hseat]; exact of_c (w := 0) hs hj (by omega), Option.bind_some, cs_r12 hs.1, Option.bind_some, show nI j * 19 = nI (19 * j) by rw [show (19 : Int32) = nI 19 from rfl, nI_mul, Nat.mul_comm],
    asJ_n (cs_k12 hs.1) (by omega) (by omega), Option.bind_some, hseat]
  have c1 : ch (Wly c j) h (sj h (c + 4) (19 * j) (shlJ 1 (nI seat))) := ch_sj (Or.inl ⟨rfl, by omega, by omega⟩)
  have g1 : gj (sj h (c + 4) (19 * j) (shlJ 1 (nI seat))) (c + 4) (19 * j) = shlJ 1 (nI seat) := by rw [gj_sj, if_pos ⟨rfl, rfl⟩]
  generalize sj h (c + 4) (19 * j) (shlJ 1 (nI seat)) = h1 at *
  have hs1 := Wly_cc c1 hs
  have hl := loop_inv (fun fu k (x : HA) => X0_layOf_L24 c (nI j) (nI seat) fu x (nI k))
    (fun k h2 => ch (Wly c j) h1 h2 ∧ gj h2 (c + 4) (19 * j) = shlJ 1 (nI seat) ∧ ∀ s, s < k → gj h2 (c + 5) (4 * j + s) = sb (stp C seat s))
    (fun h2 => ch (Wly c j) h1 h2 ∧ gj h2 (c + 4) (19 * j) = shlJ 1 (nI seat) ∧ ∀ s, s < 4 → gj h2 (c + 5) (4 * j + s) = sb (stp C seat s)) 4 ?_ ?_ h1 FU ⟨ch_rf _ _, g1, fun s h1 => by omega⟩ (FU_gt (by omega))
  · obtain ⟨h2, e2, c2, g2, v2⟩ := hl
    rw [show X0_layOf_L24 c (nI j) (nI seat) FU h1 0 = _ from e2, Option.bind_some]
    have hlt : ∀ s g, stp C seat s = some g → g < 64 := fun s g h => by have := op_lt (stp_op h); omega
    have key : ∀ n d fu (h3 : HA) S, d + n = 64 → n < fu → 1 ≤ d → ch (Wly c j) h h3 → (∀ f, f < 64 → tb S f = bl C seat (d - 1) f) → (∀ e f, e < d → e < 19 → f < 64 → tb (gj h3 (c + 4) (19 * j + e)) f = bl C seat e f) →
        (∀ s, s < 4 → if d = 1 then ∀ f, f < 64 → tb (gj h3 (c + 5) (4 * j + s)) f = decide (stp C seat s = some f) else ∀ f, f < 64 → tb (gj h3 (c + 5) (4 * j + s)) f = (cmb C seat f s && bl C seat (d - 1) f)) →
        ∃ h4, X0_layOf_L57 c (nI j) fu h3 S (nI d) = some h4 ∧ ch (Wly c j) h h4 ∧ (∀ d f, d < 19 → f < 64 → tb (gj h4 (c + 4) (19 * j + d)) f = bl C seat d f) ∧ ∀ s f, s < 4 → f < 64 → tb (gj h4 (c + 5) (4 * j + s)) f = cmb C seat f s := by
      intro n
      induction n with
      | zero =>
        intro d fu h3 S hd hfu hd1 i1 i2 i3 i4
        obtain ⟨fu, rfl⟩ : ∃ q, fu = q + 1 := ⟨fu - 1, by omega⟩
        have : d = 64 := by omega
        subst this
        refine ⟨h3, by rw [X0_layOf_L57, if_neg (by decide)], i1, fun e f h1 h2 => i3 e f (by omega) h1 h2, fun s f h1 h2 => ?_⟩
        have := i4 s h1
        rw [if_neg (by omega)] at this
        rw [this f h2]
        cases hc : cmb C seat f s
        · rfl
        · rw [show (64 - 1 : Nat) = 63 from rfl, cmb_63 hc]; rfl
      | succ n ih =>
        intro d fu h3 S hd hfu hd1 i1 i2 i3 i4
        obtain ⟨fu, rfl⟩ : ∃ q, fu = q + 1 := ⟨fu - 1, by omega⟩
        have hs3 := Wly_cc i1 hs
        obtain ⟨G, hG, hGb⟩ := grow_c hs3 S (tb_op hso i2)
        rw [X0_layOf_L57, if_pos (show nI d < 64 from lt_lit (n := 64) (by omega) (by omega)), hG, Option.bind_some]
        have hSG := bl_grow hso S G i2 hGb hF
        rw [show d - 1 + 1 = d by omega] at hSG
        have hL : ∀ f, f < 64 → tb (G &&& (S ^^^ -1)) f = (bl C seat d f && !bl C seat (d - 1) f) := by
          intro f hf
          rw [tb_and, tb_xor, tb_m1, ← hSG f hf, tb_or, i2 f hf]
          simp only [hf, decide_true]
          cases tb G f <;> cases bl C seat (d - 1) f <;> rfl
        have hSL : ∀ f, f < 64 → tb (S ||| (G &&& (S ^^^ -1))) f = bl C seat d f := by
          intro f hf
          rw [tb_or, hL f hf, i2 f hf]
          cases h1 : bl C seat (d - 1) f
          · simp
          · rw [bl_mono (show d - 1 ≤ d by omega) h1]; rfl
        generalize hLe : G &&& (S ^^^ -1) = L at *
        generalize hSe : S ||| L = S2 at *
        have hvop : ∀ (h5 : HA), (∀ s, s < 4 → gj h5 (c + 5) (4 * j + s) = gj h3 (c + 5) (4 * j + s)) → ∀ s, s < 4 → ∀ f, tb (gj h5 (c + 5) (4 * j + s)) f = true → op C f = true := by
          intro h5 he s hs4 f hf
          rw [he s hs4] at hf
          by_cases h64 : f < 64
          · have h7 := i4 s hs4
            by_cases e1 : d = 1
            · rw [if_pos e1] at h7
              rw [h7 f h64] at hf
              exact stp_op (by simpa using hf)
            · rw [if_neg e1] at h7
              rw [h7 f h64, Bool.and_eq_true] at hf
              exact bl_op hso hf.2
          · rw [tb_ge (by omega)] at hf; simp at hf
        have hL0 : L = 0 → ∀ f, f < 64 → bl C seat d f = bl C seat (d - 1) f := by
          intro e f hf
          have h1 := hL f hf
          rw [e, tb_0] at h1
          cases h2 : bl C seat (d - 1) f
          · rw [h2] at h1; simpa using h1.symm
          · exact bl_mono (show d - 1 ≤ d by omega) h2
        -- what a turn leaves, whether something was laid or not
        have turn : ∀ (h5 : HA), ch (Wly c j) h h5 → (∀ s, s < 4 → gj h5 (c + 5) (4 * j + s) = gj h3 (c + 5) (4 * j + s)) → (∀ e f, e < d + 1 → e < 19 → f < 64 → tb (gj h5 (c + 4) (19 * j + e)) f = bl C seat e f) →
            (L = 0 → ∃ h4, X0_layOf_L57 c (nI j) fu h5 S2 (nI d + 1) = some h4 ∧ ch (Wly c j) h h4 ∧ (∀ d f, d < 19 → f < 64 → tb (gj h4 (c + 4) (19 * j + d)) f = bl C seat d f) ∧ ∀ s f, s < 4 → f < 64 → tb (gj h4 (c + 5) (4 * j + s)) f = cmb C seat f s) ∧
            ∃ h4, ((X0_layVia h5 c (nI j) L).bind fun h16 => X0_layOf_L57 c (nI j) fu h16 S2 (nI d + 1)) = some h4 ∧ ch (Wly c j) h h4 ∧ (∀ d f, d < 19 → f < 64 → tb (gj h4 (c + 4) (19 * j + d)) f = bl C seat d f) ∧ ∀ s f, s < 4 → f < 64 → tb (gj h4 (c + 5) (4 * j + s)) f = cmb C seat f s := by
          intro h5 k1 k2 k3
          have nv : ∀ s f, s < 4 → f < 64 → (tb (gj h5 (c + 5) (4 * j + s)) f || ((op C f && nb C (tb (gj h5 (c + 5) (4 * j + s))) f) && tb L f)) = (cmb C seat f s && bl C seat d f) := by
            intro s f hs4 hf
            rw [hL f hf]
            refine via_step hw hso hs4 (by omega) _ ?_ hd1 f hf
            rw [k2 s hs4]; exact i4 s hs4
          constructor
          · intro e
            rw [nI_p1]
            refine ih (d + 1) fu h5 S2 (by omega) (by omega) (by omega) k1 (fun f hf => hSL f hf) k3 (fun s hs4 => ?_)
            rw [if_neg (by omega)]
            intro f hf
            have := nv s f hs4 hf
            rw [e, tb_0, Bool.and_false, Bool.or_false] at this
            exact this
          · obtain ⟨h6, e6, c6, o6, v6⟩ := layVia_ok (Wly_cc k1 hs) (show j < 6 by omega) L (hvop h5 k2)
            rw [e6, Option.bind_some, nI_p1]
            refine ih (d + 1) fu h6 S2 (by omega) (by omega) (by omega) (k1.tr c6) (fun f hf => hSL f hf) (fun e f h1 h2 h3 => ?_) (fun s hs4 => ?_)
            · rw [o6 _ _ (by omega)]; exact k3 e f h1 h2 h3
            · rw [if_neg (by omega)]
              intro f hf
              rw [v6 s f hs4 hf]
              exact nv s f hs4 hf
        by_cases hd19 : d < 19
        · rw [if_pos (show nI d < 19 from lt_lit (n := 19) hd19 (by omega)), cs_r12 hs3.1, Option.bind_some, show nI j * 19 + nI d = nI (19 * j + d) by rw [show (19 : Int32) = nI 19 from rfl, nI_mul, nI_add, Nat.mul_comm],
            asJ_n (cs_k12 hs3.1) (by omega) (by omega), Option.bind_some]
          have t := turn (sj h3 (c + 4) (19 * j + d) S2) (i1.tr (ch_sj (Or.inl ⟨rfl, by omega, by omega⟩))) (fun s _ => by rw [gj_sj, if_neg (by omega)]) (fun e f h1 h2 h3 => by
            rw [gj_sj]
            by_cases e1 : e = d
            · subst e1; rw [if_pos ⟨rfl, rfl⟩]; exact hSL f h3
            · rw [if_neg (by omega)]; exact i3 e f (by omega) h2 h3)
          by_cases e0 : L = 0
          · rw [if_pos e0]; exact t.1 e0
          · rw [if_neg e0]; exact t.2
        · rw [if_neg (show ¬ nI d < 19 from nlt_lit (n := 19) (by omega) (by omega))]
          by_cases e0 : L = 0
          · rw [if_pos e0]
            refine ⟨h3, rfl, i1, fun e f h1 h2 => i3 e f (by omega) h1 h2, fun s f hs4 hf => ?_⟩
            have := i4 s hs4
            rw [if_neg (by omega)] at this
            rw [this f hf]
            cases hc : cmb C seat f s
            · rfl
            · have h63 := cmb_63 hc
              have hst := bl_stab (d := d - 1) hw hso (fun f hf => by rw [show d - 1 + 1 = d by omega]; exact hL0 e0 f hf) (63 - (d - 1)) f hf
              rw [show d - 1 + (63 - (d - 1)) = 63 by omega, h63] at hst
              rw [← hst]; rfl
          · rw [if_neg e0, if_neg e0]
            exact (turn h3 i1 (fun _ _ => rfl) (fun e f h1 h2 h3 => i3 e f (by omega) h2 h3)).2
    obtain ⟨h4, e4, c4, w4, v4⟩ := key 63 1 FU h2 (shlJ 1 (nI seat)) (by omega) (FU_gt (by omega)) (by omega) (c1.tr c2) (bit_bl C (by omega)) (fun e f h1 _ h3 => by
      have : e = 0 := by omega
      subst this
      show tb (gj h2 (c + 4) (19 * j)) f = _
      rw [g2]; exact bit_bl C (by omega) f h3) (fun s hs4 => by
      rw [if_pos rfl, v2 s hs4]
      intro f _
      exact sb_tb _ (hlt s) f)
    refine ⟨h4, ?_, c4, w4, v4⟩
    rw [show X0_layOf_L57 c (nI j) FU h2 (shlJ 1 (nI seat)) 1 = _ from e4]; rfl
  · rintro k h2 fu hk ⟨i1, i2, i3⟩
    have hs2 := Wly_cc i1 hs1
    refine ⟨sj h2 (c + 5) (4 * j + k) (sb (stp C seat k)), ?_, i1.tr (ch_sj (Or.inr ⟨rfl, by omega, by omega⟩)), ?_, ?_⟩
    · show X0_layOf_L24 c (nI j) (nI seat) (fu + 1) h2 (nI k) = _
      rw [X0_layOf_L24, if_pos (lt4 hk), cs_r13 hs2.1, Option.bind_some, beside_c hs2 hso hk, Option.bind_some, show nI j * 4 + nI k = nI (4 * j + k) by rw [show (4 : Int32) = nI 4 from rfl, nI_mul, nI_add, Nat.mul_comm], asJ_n (cs_k13 hs2.1) (by omega) (by omega), Option.bind_some, nI_p1]
    · rw [gj_sj, if_neg (by omega)]; exact i2
    · intro s h1
      rw [gj_sj]
      by_cases e : s = k
      · subst e; rw [if_pos ⟨rfl, rfl⟩]
      · rw [if_neg (by omega)]; exact i3 s (by omega)
  · rintro h2 fu hI
    refine ⟨h2, ?_, hI⟩
    show X0_layOf_L24 c (nI j) (nI seat) (fu + 1) h2 (nI 4) = _
    rw [X0_layOf_L24, if_neg (by decide)]

/-- a COURT, laid or to be laid -/
def CQ (h : HA) (c : Nat) (C : CR) : Prop := CC h c C ∧ (gi h c 11 = 0 ∨ ∀ j, j < cJ C → LJ h c C j)
def CL (h : HA) (c : Nat) (C : CR) : Prop := CC h c C ∧ ∀ j, j < cJ C → LJ h c C j
def Wla (c : Nat) : Nat → Nat → Prop := fun b k => (b = c ∧ k = 11) ∨ b = c + 4 ∨ b = c + 5
theorem Wla_cc {h h1 : HA} {c : Nat} {C : CR} (p : ch (Wla c) h h1) (hs : CC h c C) : CC h1 c C :=
  cc_of p hs (fun k _ w => by unfold Wla at w; omega) (fun a k _ _ w => by unfold Wla at w; omega)
theorem lay_ok {h : HA} {c : Nat} {C : CR} (hs : CQ h c C) : ∃ h1, X0_lay h c = some h1 ∧ ch (Wla c) h h1 ∧ CL h1 c C ∧ (gi h1 c 11 = 0 → False) := by
  obtain ⟨hs, hq⟩ := hs
  have h6 := hs.2.1.1.2.2.1.1
  unfold X0_lay
  rw [if_pos (cs_c hs.1), cs_I hs.1, Option.bind_some]
  by_cases h0 : gi h c 11 = 0
  · rw [if_pos h0]
    have hl := loop_inv (fun fu k (x : HA) => X0_lay_L10 c fu x (nI k)) (fun k h1 => ch (Wla c) h h1 ∧ ∀ j, j < k → LJ h1 c C j) (fun h1 => ch (Wla c) h h1 ∧ ∀ j, j < cJ C → LJ h1 c C j) (cJ C) ?_ ?_ h FU ⟨ch_rf _ _, fun j h1 => by omega⟩ (FU_gt (by omega))
    · obtain ⟨h1, e1, c1, g1⟩ := hl
      rw [show X0_lay_L10 c FU h 0 = _ from e1, Option.bind_some, cs_pI (Wla_cc c1 hs).1, Option.bind_some]
      have c2 : ch (Wla c) h1 (si h1 c 11 1) := ch_si (Or.inl ⟨rfl, rfl⟩)
      refine ⟨_, rfl, c1.tr c2, ⟨Wla_cc (c1.tr c2) hs, fun j hj => g1 j hj⟩, fun z => ?_⟩
      rw [gi_si, if_pos ⟨rfl, rfl⟩] at z
      exact absurd z (by decide)
    · rintro k h1 fu hk ⟨i1, i2⟩
      have hs1 := Wla_cc i1 hs
      obtain ⟨h2, e2, c2, l2⟩ := layOf_ok hs1 hk
      refine ⟨h2, ?_, i1.tr (c2.mo fun b j w => by unfold Wly Wvi Wwi at w; unfold Wla; omega), fun j hj => ?_⟩
      · show X0_lay_L10 c (fu + 1) h1 (nI k) = _
        rw [X0_lay_L10, cs_I hs1.1, hs1.2.2.2.2.2.2.2.2.1, Option.bind_some, if_pos (lt_lit hk (by omega)), e2, Option.bind_some, nI_p1]
      · by_cases e : j = k
        · subst e; exact l2
        · obtain ⟨w1, v1⟩ := i2 j (by omega)
          constructor
          · intro d f hd hf
            rw [c2.gj (by unfold Wly Wvi Wwi; omega)]; exact w1 d f hd hf
          · intro s f hs4 hf
            rw [c2.gj (by unfold Wly Wvi Wwi; omega)]; exact v1 s f hs4 hf
    · rintro h1 fu hI
      have hs1 := Wla_cc hI.1 hs
      refine ⟨h1, ?_, hI⟩
      show X0_lay_L10 c (fu + 1) h1 (nI (cJ C)) = _
      rw [X0_lay_L10, cs_I hs1.1, hs1.2.2.2.2.2.2.2.2.1, Option.bind_some, if_neg (nlt_lit (Nat.le_refl _) (by omega))]
  · rw [if_neg h0]
    exact ⟨h, rfl, ch_rf _ _, ⟨hs, hq.resolve_left h0⟩, h0⟩
