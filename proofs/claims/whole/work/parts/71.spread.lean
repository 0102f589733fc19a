/-! ROUND: the class's layers -/
def sN (f hd t : Nat) : Nat := 256 * f + 4 * hd + t % 4
/-- from there to here in an hour -/
def SU (C : CR) (l t hd f hd2 f2 : Nat) : Prop := (hd2 = hd ∧ f2 = f) ∨ (hd2 = hd ∧ ∃ s, s < 4 ∧ stp C f s = some f2) ∨ (f2 = f ∧ hd2 = hd ||| ea C f (t % 4) l)
theorem sN_e {f hd t : Nat} (hd6 : hd < 64) : sN f hd t / 256 = f ∧ sN f hd t / 4 % 64 = hd ∧ sN f hd t % 4 = t % 4 := by unfold sN; omega
theorem sN_inj {f hd t f2 hd2 t2 : Nat} (h1 : hd < 64) (h2 : hd2 < 64) (e : sN f hd t = sN f2 hd2 t2) : f = f2 ∧ hd = hd2 := by unfold sN at e; omega
theorem nx_SU {C : CR} (hw : WFs C) {l t f hd f2 hd2 : Nat} (hf : op C f = true) (h1 : hd < 2 ^ cJ C) (h2 : hd2 < 64) : (∃ a, a < 6 ∧ nxC C l (sN f hd t) a = some (sN f2 hd2 (t + 1))) ↔ SU C l t hd f hd2 f2 := by
  have d6 := hd_64 hw h1
  obtain ⟨e1, e2, e3⟩ := sN_e (f := f) (t := t) d6
  have e4 : (sN f hd t + 1) % 4 = (t + 1) % 4 := by omega
  have o6 := hd_64 hw (Nat.or_lt_two_pow h1 (ea_lt C f (t % 4) l))
  have form : ∀ x y, 256 * x + 4 * y + (sN f hd t + 1) % 4 = sN x y (t + 1) := fun x y => by unfold sN at e4 ⊢; omega
  constructor
  · rintro ⟨a, ha, hn⟩
    unfold nxC at hn
    rw [e1, e2, e3] at hn
    by_cases h4 : a < 4
    · rw [if_pos h4] at hn
      cases hs : stp C f a with
      | none => rw [hs] at hn; exact absurd hn (by simp)
      | some g =>
        rw [hs] at hn
        have e := Option.some.inj hn
        rw [form] at e
        obtain ⟨r1, r2⟩ := sN_inj d6 h2 e
        subst r1 r2
        exact Or.inr (Or.inl ⟨rfl, a, h4, hs⟩)
    · rw [if_neg h4] at hn
      by_cases h5 : a = 4
      · rw [if_pos h5] at hn
        have e := Option.some.inj hn
        rw [form] at e
        obtain ⟨r1, r2⟩ := sN_inj o6 h2 e
        exact Or.inr (Or.inr ⟨r1.symm, r2.symm⟩)
      · rw [if_neg h5] at hn
        have e := Option.some.inj hn
        rw [form] at e
        obtain ⟨r1, r2⟩ := sN_inj d6 h2 e
        exact Or.inl ⟨r2.symm, r1.symm⟩
  · rintro (⟨rfl, rfl⟩ | ⟨rfl, s, hs, hst⟩ | ⟨rfl, rfl⟩)
    · refine ⟨5, by omega, ?_⟩
      unfold nxC
      rw [e1, e2, e3, if_neg (by omega), if_neg (by omega), form]
    · refine ⟨s, by omega, ?_⟩
      unfold nxC
      rw [e1, e2, e3, if_pos hs, hst]
      show some _ = _
      rw [form]
    · refine ⟨4, by omega, ?_⟩
      unfold nxC
      rw [e1, e2, e3, if_neg (by omega), if_pos rfl, form]
theorem RE_sN {C : CR} (hw : WFs C) {l f0 : Nat} (hf : op C f0 = true) {t s : Nat} (h : RE (nxC C l) (256 * f0) t s) : ∃ f hd, s = sN f hd t ∧ op C f = true ∧ hd < 2 ^ cJ C := by
  obtain ⟨v1, v2, v3, v4⟩ := RE_VC hw hf t s h
  exact ⟨s / 256, s / 4 % 64, by unfold sN; omega, v3, v4⟩
theorem RE_op {C : CR} (hw : WFs C) {l f0 : Nat} (hf : op C f0 = true) {t f hd : Nat} (h6 : hd < 64) (h : RE (nxC C l) (256 * f0) t (sN f hd t)) : op C f = true ∧ hd < 2 ^ cJ C := by
  obtain ⟨v1, v2, v3, v4⟩ := RE_VC hw hf t _ h
  obtain ⟨e1, e2, _⟩ := sN_e (f := f) (t := t) h6
  rw [e1] at v3; rw [e2] at v4
  exact ⟨v3, v4⟩
/-- a layer as the class holds it -/
def Lay (h : HA) (w : Nat) (C : CR) (l f0 t : Nat) : Prop := ∀ hd f, hd < 64 → f < 64 → (tb (gj h (w + 1) (64 * t + hd)) f = true ↔ RE (nxC C l) (256 * f0) t (sN f hd t))
theorem op_of {C : CR} {S : Int64} (h : ∀ f, f < 64 → tb S f = true → op C f = true) : ∀ f, tb S f = true → op C f = true := fun f hf => by
  by_cases h6 : f < 64
  · exact h f h6 hf
  · rw [tb_ge (by omega)] at hf; exact absurd hf (by decide)
theorem spread80 {h : HA} {w c f0 l t k : Nat} {C : CR} (wk : WK h w c C f0) (bd : BD h w C l) (ht : t < 60) (hk : k < 2 ^ cJ C) (H : Int64) (hH : ∀ f, tb H f = true → op C f = true) :
    ∃ h1, X6_spread_L80 w (nI t) (nI (64 * (t + 1))) (nI k) H FU h 1 = some h1 ∧ ch (fun a i => a = w + 1 ∧ 64 * (t + 1) ≤ i ∧ i < 64 * (t + 1) + 64) h h1 ∧
      ∀ hd f, hd < 64 → f < 64 → (tb (gj h1 (w + 1) (64 * (t + 1) + hd)) f = true ↔ tb (gj h (w + 1) (64 * (t + 1) + hd)) f = true ∨ (tb H f = true ∧ 1 ≤ ea C f (t % 4) l ∧ hd = k ||| ea C f (t % 4) l)) := by
  have hw := wk.2.2.2.2.1.1.2.1.1
  obtain ⟨p1, p2⟩ := p2_le hw
  have k6 := hd_64 hw hk
  have hgo := loop_inv (fun fu i (h : HA) => X6_spread_L80 w (nI t) (nI (64 * (t + 1))) (nI k) H fu h (nI (i + 1))) (fun i h1 => ch (fun a i => a = w + 1 ∧ 64 * (t + 1) ≤ i ∧ i < 64 * (t + 1) + 64) h h1 ∧ ∀ hd f, hd < 64 → f < 64 → (tb (gj h1 (w + 1) (64 * (t + 1) + hd)) f = true ↔ tb (gj h (w + 1) (64 * (t + 1) + hd)) f = true ∨ (tb H f = true ∧ 1 ≤ ea C f (t % 4) l ∧ ea C f (t % 4) l ≤ i ∧ hd = k ||| ea C f (t % 4) l)))
    (fun h1 => ch (fun a i => a = w + 1 ∧ 64 * (t + 1) ≤ i ∧ i < 64 * (t + 1) + 64) h h1 ∧ ∀ hd f, hd < 64 → f < 64 → (tb (gj h1 (w + 1) (64 * (t + 1) + hd)) f = true ↔ tb (gj h (w + 1) (64 * (t + 1) + hd)) f = true ∨ (tb H f = true ∧ 1 ≤ ea C f (t % 4) l ∧ hd = k ||| ea C f (t % 4) l))) (2 ^ cJ C - 1) (by
    intro i h1 fu hi hI
    obtain ⟨c1, g1⟩ := hI
    have k1 := WK_ch wk (c1.mo fun a i q => by unfold Wwk; omega)
    have bd1 : BD h1 w C l := fun hr e f h2 h3 h4 => by rw [c1.gj (by omega)]; exact bd hr e f h2 h3 h4
    have o1 : k ||| (i + 1) < 2 ^ cJ C := Nat.or_lt_two_pow hk (by omega)
    have o6 := hd_64 hw o1
    obtain ⟨B, eB, gB⟩ := band_c (t := t) (e := i + 1) k1 bd1 (by omega) (by omega)
    show ∃ a', X6_spread_L80 w (nI t) (nI (64 * (t + 1))) (nI k) H (fu + 1) h1 (nI (i + 1)) = X6_spread_L80 w (nI t) (nI (64 * (t + 1))) (nI k) H fu a' (nI (i + 1 + 1)) ∧ _
    rw [X6_spread_L80, wk_4 k1, Option.bind_some, if_neg (nlt_lit (by omega) (by omega)), wk_0 k1, Option.bind_some, nI_or, nI_add, ldJ_n (wk_k1 k1) (by omega) (by omega), Option.bind_some, eB, Option.bind_some, asJ_n (wk_k1 k1) (by omega) (by omega), Option.bind_some, nI_p1]
    refine ⟨_, rfl, c1.tr (ch_sj ⟨rfl, by omega, by omega⟩), fun hd f h2 h3 => ?_⟩
    rw [gj_sj]
    by_cases e : hd = k ||| (i + 1)
    · rw [if_pos ⟨rfl, by omega⟩, tb_or, tb_and, gB f h3, ← e, Bool.or_eq_true, g1 hd f h2 h3, Bool.and_eq_true, Bool.and_eq_true, decide_eq_true_eq]
      constructor
      · rintro ((z | ⟨z1, z2, z3, z4⟩) | ⟨z1, z2, z3⟩)
        · exact Or.inl z
        · exact Or.inr ⟨z1, z2, by omega, z4⟩
        · exact Or.inr ⟨z1, by omega, by omega, by rw [z3]; exact e⟩
      · rintro (z | ⟨z1, z2, z3, z4⟩)
        · exact Or.inl (Or.inl z)
        · by_cases ei : ea C f (t % 4) l = i + 1
          · exact Or.inr ⟨z1, hH f z1, ei⟩
          · exact Or.inl (Or.inr ⟨z1, z2, by omega, z4⟩)
    · rw [if_neg (by omega), g1 hd f h2 h3]
      constructor
      · rintro (z | ⟨z1, z2, z3, z4⟩)
        · exact Or.inl z
        · exact Or.inr ⟨z1, z2, by omega, z4⟩
      · rintro (z | ⟨z1, z2, z3, z4⟩)
        · exact Or.inl z
        · refine Or.inr ⟨z1, z2, ?_, z4⟩
          by_cases ei : ea C f (t % 4) l = i + 1
          · rw [ei] at z4; exact absurd z4 e
          · omega) (by
    intro h1 fu hI
    have k1 := WK_ch wk (hI.1.mo fun a i q => by unfold Wwk; omega)
    refine ⟨h1, ?_, hI.1, fun hd f h2 h3 => ?_⟩
    · show X6_spread_L80 w (nI t) (nI (64 * (t + 1))) (nI k) H (fu + 1) h1 (nI (2 ^ cJ C - 1 + 1)) = _
      rw [X6_spread_L80, wk_4 k1, Option.bind_some, if_pos (lt_lit (by omega) (by omega))]
    · rw [hI.2 hd f h2 h3]
      have := ea_lt C f (t % 4) l
      constructor
      · rintro (z | ⟨z1, z2, z3, z4⟩)
        · exact Or.inl z
        · exact Or.inr ⟨z1, z2, z4⟩
      · rintro (z | ⟨z1, z2, z4⟩)
        · exact Or.inl z
        · exact Or.inr ⟨z1, z2, by omega, z4⟩) h FU ⟨ch_rf _ _, fun hd f h2 h3 => ⟨fun z => Or.inl z, fun z => z.resolve_right (fun q => by omega)⟩⟩ (FU_gt (by omega))
  exact hgo
theorem grow_iff {C : CR} (hw : WFs C) {S G : Int64} (hS : ∀ f, tb S f = true → op C f = true) (hG : ∀ g, g < 64 → tb G g = (op C g && nb C (tb S) g)) {g : Nat} (hg : g < 64) : tb G g = true ↔ ∃ f s, s < 4 ∧ tb S f = true ∧ stp C f s = some g := by
  rw [hG g hg, Bool.and_eq_true, nb_iff]
  constructor
  · rintro ⟨h1, s, c, h2, h3, h4⟩
    exact ⟨c, (s + 2) % 4, by omega, h4, stp_sym hw h1 h2 h3⟩
  · rintro ⟨f, s, h1, h2, h3⟩
    exact ⟨stp_op h3, (s + 2) % 4, f, by omega, stp_sym hw (hS f h2) h1 h3, h2⟩
theorem spread_ok {h : HA} {w c f0 l t : Nat} {C : CR} (wk : WK h w c C f0) (bd : BD h w C l) (hf : op C f0 = true) (ht : t < 60) (ly : Lay h w C l f0 t) :
    ∃ h1, X6_spread h w (nI t) = some h1 ∧ ch (fun a i => a = w + 1 ∧ 64 * (t + 1) ≤ i ∧ i < 64 * (t + 1) + 64) h h1 ∧ Lay h1 w C l f0 (t + 1) := by
  have hw := wk.2.2.2.2.1.1.2.1.1
  obtain ⟨p1, p2⟩ := p2_le hw
  unfold X6_spread
  obtain ⟨h1, e1, c1, z1⟩ := fill_w1 (x := 64 * (t + 1)) wk (by omega)
  rw [if_pos (wk_t wk), wk_0 wk, Option.bind_some, show (64 : Int32) = nI 64 from rfl, nI_mul, nI_add, nI_add, show t * 64 + 64 = 64 * (t + 1) by omega, e1, Option.bind_some, Nat.mul_comm t 64]
  have k1 := WK_ch wk (c1.mo fun a i q => by unfold Wwk; omega)
  have bd1 : BD h1 w C l := fun hr e f h2 h3 h4 => by rw [c1.gj (by omega)]; exact bd hr e f h2 h3 h4
  have ly1 : Lay h1 w C l f0 t := fun hd f h2 h3 => by rw [c1.gj (by omega)]; exact ly hd f h2 h3
  have hgo := loop_inv (fun fu k (h : HA) => X6_spread_L26 w (nI t) (nI (64 * t)) (nI (64 * (t + 1))) fu h (nI k)) (fun k h2 => ch (fun a i => a = w + 1 ∧ 64 * (t + 1) ≤ i ∧ i < 64 * (t + 1) + 64) h1 h2 ∧ ∀ hd2 f2, hd2 < 64 → f2 < 64 → (tb (gj h2 (w + 1) (64 * (t + 1) + hd2)) f2 = true ↔ ∃ hd f, hd < k ∧ f < 64 ∧ RE (nxC C l) (256 * f0) t (sN f hd t) ∧ SU C l t hd f hd2 f2))
    (fun h2 => ch (fun a i => a = w + 1 ∧ 64 * (t + 1) ≤ i ∧ i < 64 * (t + 1) + 64) h1 h2 ∧ Lay h2 w C l f0 (t + 1)) (2 ^ cJ C) (by
    intro k h2 fu hk hI
    obtain ⟨c2, g2⟩ := hI
    have k2 := WK_ch k1 (c2.mo fun a i q => by unfold Wwk; omega)
    have bd2 : BD h2 w C l := fun hr e f h2 h3 h4 => by rw [c2.gj (by omega)]; exact bd1 hr e f h2 h3 h4
    have ly2 : Lay h2 w C l f0 t := fun hd f h2 h3 => by rw [c2.gj (by omega)]; exact ly1 hd f h2 h3
    have hkL := ly2 k
    obtain ⟨H, hHe⟩ : ∃ H, H = gj h2 (w + 1) (64 * t + k) := ⟨_, rfl⟩
    rw [← hHe] at hkL
    have hH : ∀ f, tb H f = true → op C f = true := op_of fun f h3 h4 => (RE_op hw hf (by omega) ((hkL f (by omega) h3).mp h4)).1
    show ∃ a', X6_spread_L26 w (nI t) (nI (64 * t)) (nI (64 * (t + 1))) (fu + 1) h2 (nI k) = X6_spread_L26 w (nI t) (nI (64 * t)) (nI (64 * (t + 1))) fu a' (nI (k + 1)) ∧ _
    rw [X6_spread_L26, wk_4 k2, Option.bind_some, if_neg (nlt_lit (by omega) (by omega)), wk_0 k2, Option.bind_some, nI_add, ldJ_n (wk_k1 k2) (by omega) (by omega), ← hHe, Option.bind_some, nI_p1]
    by_cases h0 : H = 0
    · rw [if_pos h0]
      refine ⟨h2, rfl, c2, fun hd2 f2 h3 h4 => ?_⟩
      rw [g2 hd2 f2 h3 h4]
      constructor
      · rintro ⟨hd, f, q1, q2, q3, q4⟩; exact ⟨hd, f, by omega, q2, q3, q4⟩
      · rintro ⟨hd, f, q1, q2, q3, q4⟩
        by_cases e : hd = k
        · subst e
          have := (hkL f (by omega) q2).mpr q3
          rw [h0, tb_0] at this; exact absurd this (by decide)
        · exact ⟨hd, f, by omega, q2, q3, q4⟩
    · obtain ⟨G, eG, gG⟩ := grow_c k2.2.2.2.2.1.1 H hH
      rw [if_neg h0, Option.bind_some, nI_add, ldJ_n (wk_k1 k2) (by omega) (by omega), Option.bind_some, wk_2 k2, Option.bind_some, eG, Option.bind_some, asJ_n (wk_k1 k2) (by omega) (by omega), Option.bind_some]
      obtain ⟨Q, hQ⟩ : ∃ Q, Q = sj h2 (w + 1) (64 * (t + 1) + k) (gj h2 (w + 1) (64 * (t + 1) + k) ||| (H ||| G)) := ⟨_, rfl⟩
      rw [← hQ]
      have c3 : ch (fun a i => a = w + 1 ∧ 64 * (t + 1) ≤ i ∧ i < 64 * (t + 1) + 64) h2 Q := by rw [hQ]; exact ch_sj ⟨rfl, by omega, by omega⟩
      have k3 := WK_ch k2 (c3.mo fun a i q => by unfold Wwk; omega)
      have bd3 : BD Q w C l := fun hr e f h2 h3 h4 => by rw [c3.gj (by omega)]; exact bd2 hr e f h2 h3 h4
      obtain ⟨h4, e4, c4, g4⟩ := spread80 k3 bd3 ht hk H hH
      rw [e4, Option.bind_some]
      refine ⟨h4, rfl, c2.tr (c3.tr c4), fun hd2 f2 h5 h6 => ?_⟩
      rw [g4 hd2 f2 h5 h6]
      have gQ : tb (gj Q (w + 1) (64 * (t + 1) + hd2)) f2 = true ↔ tb (gj h2 (w + 1) (64 * (t + 1) + hd2)) f2 = true ∨ (hd2 = k ∧ (tb H f2 = true ∨ tb G f2 = true)) := by
        rw [hQ, gj_sj]
        by_cases e : hd2 = k
        · subst e
          rw [if_pos ⟨rfl, rfl⟩, tb_or, tb_or, Bool.or_eq_true, Bool.or_eq_true]
          exact ⟨fun z => z.imp id (fun q => ⟨rfl, q⟩), fun z => z.imp id (fun q => q.2)⟩
        · rw [if_neg (by omega)]
          exact ⟨Or.inl, fun z => z.resolve_right (fun q => e q.1)⟩
      rw [gQ, g2 hd2 f2 h5 h6, grow_iff hw hH gG h6]
      constructor
      · rintro ((⟨hd, f, q1, q2, q3, q4⟩ | ⟨rfl, q | ⟨f, s, q1, q2, q3⟩⟩) | ⟨q1, q2, q3⟩)
        · exact ⟨hd, f, by omega, q2, q3, q4⟩
        · exact ⟨hd2, f2, by omega, h6, (hkL f2 (by omega) h6).mp q, Or.inl ⟨rfl, rfl⟩⟩
        · have f6 := op_64 hw (hH f q2)
          exact ⟨hd2, f, by omega, f6, (hkL f (by omega) f6).mp q2, Or.inr (Or.inl ⟨rfl, s, q1, q3⟩)⟩
        · exact ⟨k, f2, by omega, h6, (hkL f2 (by omega) h6).mp q1, Or.inr (Or.inr ⟨rfl, q3⟩)⟩
      · rintro ⟨hd, f, q1, q2, q3, q4⟩
        by_cases e : hd = k
        · subst e
          have hf2 := (hkL f (by omega) q2).mpr q3
          rcases q4 with ⟨r1, r2⟩ | ⟨r1, s, r2, r3⟩ | ⟨r1, r2⟩
          · subst r1 r2; exact Or.inl (Or.inr ⟨rfl, Or.inl hf2⟩)
          · subst r1; exact Or.inl (Or.inr ⟨rfl, Or.inr ⟨f, s, r2, hf2, r3⟩⟩)
          · subst r1
            by_cases e0 : ea C f2 (t % 4) l = 0
            · rw [e0, Nat.or_zero] at r2
              exact Or.inl (Or.inr ⟨r2, Or.inl hf2⟩)
            · exact Or.inr ⟨hf2, by omega, r2⟩
        · exact Or.inl (Or.inl ⟨hd, f, by omega, q2, q3, q4⟩)) (by
    intro h2 fu hI
    have k2 := WK_ch k1 (hI.1.mo fun a i q => by unfold Wwk; omega)
    refine ⟨h2, ?_, hI.1, fun hd2 f2 h3 h4 => ?_⟩
    · show X6_spread_L26 w (nI t) (nI (64 * t)) (nI (64 * (t + 1))) (fu + 1) h2 (nI (2 ^ cJ C)) = _
      rw [X6_spread_L26, wk_4 k2, Option.bind_some, if_pos (lt_lit (by omega) (by omega))]
    · rw [hI.2 hd2 f2 h3 h4]
      constructor
      · rintro ⟨hd, f, q1, q2, q3, q4⟩
        obtain ⟨a, ha, hn⟩ := (nx_SU hw (RE_op hw hf (by omega) q3).1 q1 h3).mpr q4
        exact ⟨_, a, ha, q3, hn⟩
      · rintro ⟨p, a, ha, hp, hn⟩
        obtain ⟨f, hd, rfl, r1, r2⟩ := RE_sN hw hf hp
        exact ⟨hd, f, r2, op_64 hw r1, hp, (nx_SU hw r1 r2 h3).mp ⟨a, ha, hn⟩⟩) h1 FU ⟨ch_rf _ _, fun hd2 f2 h3 h4 => by
      rw [z1 hd2 h3, tb_0]
      exact ⟨fun z => absurd z (by decide), fun ⟨hd, f, q1, _⟩ => by omega⟩⟩ (FU_gt (by omega))
  obtain ⟨h2, e2, c2, l2⟩ := hgo
  exact ⟨h2, by rw [show X6_spread_L26 w (nI t) (nI (64 * t)) (nI (64 * (t + 1))) FU h1 0 = _ from e2]; rfl, c1.tr c2, l2⟩
