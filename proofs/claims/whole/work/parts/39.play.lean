/-! TRIALS -/
def dK (L : CR) (k w : Nat) : Int32 := L (1 + 4 * k + w)
def who (L : CR) (k : Nat) : Nat := tn (dK L k 1)
def wrd (L : CR) (k : Nat) : Nat := tn (dK L k 2)
def lud (L : CR) (k : Nat) : Nat := tn (dK L k 3)
def sd (L : CR) (k : Nat) : Bool := decide (dK L k 0 = 1)
abbrev ZT : Type := Nat → Int32
def ntw (C : CR) (x : Int32) (s : Nat) : Int32 := if x = -1 then -1 else match stp C (tn x) ((s + 2) % 4) with
  | none => x
  | some g => nI g
def zgo (Z : ZT) (p : Nat) (x y : Int32) : ZT := fun i => if i = 2 * p then x else if i = 2 * p + 1 then y else Z i
/-- one DEED -/
def dnx (C L : CR) (k : Nat) (Z : ZT) : Option ZT :=
  if dK L k 0 = 2 then some Z else if cP C ≤ who L k then none else if dK L k 0 = 1 then some Z else
  match stp C (tn (Z (2 * who L k))) (wrd L k) with
  | none => none
  | some g => some (zgo Z (who L k) (nI g) (ntw C (Z (2 * who L k + 1)) (wrd L k)))
/-- the STATE behind the first k -/
def dz (C L : CR) : Nat → Option ZT
  | 0 => some (fun k => C (34 + k))
  | k + 1 => (dz C L k).bind (dnx C L k)
/-- STOP, of the first n -/
def so (C L : CR) : Nat → Nat
  | 0 => 0
  | n + 1 => if (dz C L (n + 1)).isSome = true then n + 1 else so C L n
theorem dz_none {C L : CR} {k : Nat} (h : dz C L k = none) : ∀ j, k ≤ j → dz C L j = none := by
  intro j
  induction j with
  | zero => intro h1; have : k = 0 := by omega
            subst this; exact h
  | succ j ih =>
    intro h1
    by_cases e : k = j + 1
    · subst e; exact h
    · rw [dz, ih (by omega)]; rfl
theorem so_u {C L : CR} {n N : Nat} (h1 : n ≤ N) (h2 : (dz C L n).isSome = true) (h3 : n = N ∨ dz C L (n + 1) = none) : so C L N = n := by
  induction N with
  | zero => have : n = 0 := by omega
            subst this; rfl
  | succ N ih =>
    rw [so]
    by_cases e : n = N + 1
    · subst e; rw [if_pos h2]
    · have h4 : dz C L (n + 1) = none := h3.resolve_left e
      rw [dz_none h4 (N + 1) (by omega), if_neg (by simp)]
      exact ih (by omega) (Or.inr h4)
theorem so_spec (C L : CR) (N : Nat) : so C L N ≤ N ∧ (dz C L (so C L N)).isSome = true ∧ (so C L N = N ∨ dz C L (so C L N + 1) = none) := by
  induction N with
  | zero => exact ⟨Nat.le_refl _, rfl, Or.inl rfl⟩
  | succ N ih =>
    rw [so]
    split
    · rename_i h; exact ⟨Nat.le_refl _, h, Or.inl rfl⟩
    · rename_i h
      obtain ⟨i1, i2, i3⟩ := ih
      have hN : dz C L (N + 1) = none := by simpa using h
      refine ⟨by omega, i2, Or.inr ?_⟩
      rcases i3 with e | e
      · rw [e]; exact hN
      · exact e
def ZV (C : CR) (Z : ZT) : Prop := ∀ p, p < cP C → (∃ g, Z (2 * p) = nI g ∧ op C g = true) ∧ (Z (2 * p + 1) = -1 ∨ ∃ g, Z (2 * p + 1) = nI g ∧ op C g = true)
/-- what a row of a TRIAL can be -/
theorem deed_c {L : CR} (hL : WL 1 L) {k : Nat} (hk : k < llen L) : (dK L k 0 = 0 ∧ ∃ p d, p < 4 ∧ d < 4 ∧ dK L k 1 = nI p ∧ dK L k 2 = nI d ∧ dK L k 3 = -1) ∨ (dK L k 0 = 1 ∧ ∃ p w l, p < 4 ∧ w < 10 ∧ l < 10 ∧ dK L k 1 = nI p ∧ dK L k 2 = nI w ∧ dK L k 3 = nI l) ∨ (dK L k 0 = 2 ∧ dK L k 1 = -1 ∧ dK L k 2 = -1 ∧ dK L k 3 = -1) := by
  have h := hL.2.2 k hk
  unfold WLr at h
  rw [if_pos rfl] at h
  unfold dK
  rw [show 1 + 4 * k + 0 = 1 + 4 * k by omega, show 1 + 4 * k + 1 = 2 + 4 * k by omega, show 1 + 4 * k + 2 = 3 + 4 * k by omega, show 1 + 4 * k + 3 = 4 + 4 * k by omega]
  exact h
theorem llen_30 {L : CR} (hL : WL 1 L) : llen L ≤ 30 := hL.1
theorem dnx_ZV {C L : CR} (hw : WF C) (hL : WL 1 L) {k : Nat} (hk : k < llen L) {Z Z1 : ZT} (hz : ZV C Z) (h : dnx C L k Z = some Z1) : ZV C Z1 := by
  have hF := cF_le hw.1
  unfold dnx at h
  split at h
  · simp at h; subst h; exact hz
  · split at h
    · simp at h
    · rename_i hnp
      split at h
      · simp at h; subst h; exact hz
      · rename_i h2 h1
        have hgo := deed_c hL hk
        rcases hgo with ⟨_, p, d, hp, hd, e1, e2, _⟩ | ⟨e0, _⟩ | ⟨e0, _⟩
        · have ewho : who L k = p := by unfold who; rw [e1, tn_nI (by omega)]
          have ewrd : wrd L k = d := by unfold wrd; rw [e2, tn_nI (by omega)]
          rw [ewho, ewrd] at h
          rw [ewho] at hnp
          split at h
          · simp at h
          · rename_i g hg
            simp at h
            subst h
            intro q hq
            unfold zgo
            by_cases e : q = p
            · subst e
              rw [if_pos rfl, if_neg (by omega), if_pos rfl]
              refine ⟨⟨g, rfl, stp_op hg⟩, ?_⟩
              unfold ntw
              rcases (hz q hq).2 with h3 | ⟨g2, h3, h4⟩
              · left; rw [if_pos h3]
              · have := op_lt h4
                rw [h3, if_neg (nI_nm1 (by omega)), tn_nI (by omega)]
                right
                split
                · exact ⟨g2, rfl, h4⟩
                · rename_i g3 hg3; exact ⟨g3, rfl, stp_op hg3⟩
            · rw [if_neg (by omega), if_neg (by omega), if_neg (by omega), if_neg (by omega)]; exact hz q hq
        · exact absurd e0 h1
        · exact absurd e0 h2
theorem dz_ZV {C L : CR} (hw : WF C) (hL : WL 1 L) : ∀ {k : Nat} {Z : ZT}, k ≤ llen L → dz C L k = some Z → ZV C Z := by
  intro k
  induction k with
  | zero =>
    intro Z _ h
    simp [dz] at h
    subst h
    intro p hp
    have := hw.2.2 p hp
    refine ⟨⟨ps C p, this.1, this.2.1⟩, ?_⟩
    show C (34 + (2 * p + 1)) = -1 ∨ ∃ g, C (34 + (2 * p + 1)) = nI g ∧ _
    rw [show 34 + (2 * p + 1) = 35 + 2 * p by omega]
    exact this.2.2
  | succ k ih =>
    intro Z hk h
    rw [dz] at h
    cases h1 : dz C L k with
    | none => rw [h1] at h; simp at h
    | some Z0 =>
      rw [h1] at h
      exact dnx_ZV hw hL (by omega) (ih (by omega) h1) h
/-! the class's Hall -/
theorem ch.sm {W : Nat → Nat → Prop} {h h1 : HA} (p : ch W h h1) {a : Nat} (hn : ∀ k, ¬ W a k) : sm h h1 a := ⟨p.2.1 a, fun k => p.gi (hn k), fun k => p.gj (hn k), fun k => p.2.2.1 a k⟩
theorem fx_hk {h : HA} {b : Nat} (hf : FX h b) : kd h (b + 46) = (2, 0) := hf.1 (46, (2, 0)) (by decide)
theorem fx_k47 {h : HA} {b : Nat} (hf : FX h b) : kd h (b + 47) = (20, 4) := hf.1 (47, (20, 4)) (by decide)
theorem fx_k48 {h : HA} {b : Nat} (hf : FX h b) : kd h (b + 48) = (20, 4) := hf.1 (48, (20, 4)) (by decide)
theorem fx_k49 {h : HA} {b : Nat} (hf : FX h b) : kd h (b + 49) = (20, 6) := hf.1 (49, (20, 6)) (by decide)
theorem fx_k50 {h : HA} {b : Nat} (hf : FX h b) : kd h (b + 50) = (21, 30) := hf.1 (50, (21, 30)) (by decide)
theorem fx_k51 {h : HA} {b : Nat} (hf : FX h b) : kd h (b + 51) = (20, 30) := hf.1 (51, (20, 30)) (by decide)
theorem fx_r3 {h : HA} {b : Nat} (hf : FX h b) : gR h (b + 46) 2 3 = some (b + 47) := by rw [gR_n (fx_hk hf)]; exact hf.2.1 (46, 3, 47) (by decide)
theorem fx_r4 {h : HA} {b : Nat} (hf : FX h b) : gR h (b + 46) 2 4 = some (b + 48) := by rw [gR_n (fx_hk hf)]; exact hf.2.1 (46, 4, 48) (by decide)
theorem fx_r5 {h : HA} {b : Nat} (hf : FX h b) : gR h (b + 46) 2 5 = some (b + 49) := by rw [gR_n (fx_hk hf)]; exact hf.2.1 (46, 5, 49) (by decide)
theorem fx_r6 {h : HA} {b : Nat} (hf : FX h b) : gR h (b + 46) 2 6 = some (b + 50) := by rw [gR_n (fx_hk hf)]; exact hf.2.1 (46, 6, 50) (by decide)
theorem fx_r7 {h : HA} {b : Nat} (hf : FX h b) : gR h (b + 46) 2 7 = some (b + 51) := by rw [gR_n (fx_hk hf)]; exact hf.2.1 (46, 7, 51) (by decide)
/-- where all lies that a Hall needs -/
def HB (h : HA) (b c l : Nat) (C L : CR) : Prop := FX h b ∧ ga h (b + 46) 0 = some c ∧ ga h (b + 46) 1 = some l ∧ c + 6 ≤ b + 46 ∧ l + 2 ≤ b + 46 ∧ CL h c C ∧ LL h l 1 L ∧ WL 1 L
theorem hb_c {h : HA} {b c l : Nat} {C L : CR} (hb : HB h b c l C L) : gR h (b + 46) 2 0 = some c := by rw [gR_n (fx_hk hb.1)]; exact hb.2.1
theorem hb_l {h : HA} {b c l : Nat} {C L : CR} (hb : HB h b c l C L) : gR h (b + 46) 2 1 = some l := by rw [gR_n (fx_hk hb.1)]; exact hb.2.2.1
theorem hb_cc {h : HA} {b c l : Nat} {C L : CR} (hb : HB h b c l C L) : CC h c C := hb.2.2.2.2.2.1.1
theorem hb_t {h : HA} {b c l : Nat} {C L : CR} (hb : HB h b c l C L) : (kd h (b + 46)).1 = 2 := by rw [fx_hk hb.1]
theorem HB_ch {W : Nat → Nat → Prop} {h h1 : HA} {b c l : Nat} {C L : CR} (hb : HB h b c l C L) (p : ch W h h1) (hw : ∀ a k, a < b + 46 → ¬ W a k) : HB h1 b c l C L := by
  obtain ⟨b1, b2, b3, b4, b5, b6, b7, b8⟩ := hb
  exact ⟨FX_ch b1 p, by rw [p.2.2.1]; exact b2, by rw [p.2.2.1]; exact b3, b4, b5, CL_sm b6 (fun a _ h2 => p.sm (fun k => hw a k (by omega))), LL_sm b7 (p.sm (fun k => hw l k (by omega))) (p.sm (fun k => hw (l + 1) k (by omega))), b8⟩
theorem hb_at {h : HA} {b c l k w : Nat} {C L : CR} (hb : HB h b c l C L) (hk : k < llen L) (hw : w < 4) : X2_at h l (nI k) (nI w) = some (dK L k w) := at_c hb.2.2.2.2.2.2.1 hb.2.2.2.2.2.2.2 hk hw
def HZ (h : HA) (b : Nat) (C : CR) (Z : ZT) : Prop := ∀ p, p < cP C → gi h (b + 47) p = Z (2 * p) ∧ gi h (b + 48) p = Z (2 * p + 1)
/-- a FIELD from which it is said -/
def fbz (L : CR) (k : Nat) (Z : ZT) (f : Nat) : Bool := sd L k && (decide (Z (2 * who L k) = nI f) || decide (Z (2 * who L k + 1) = nI f))
def Wcb (b k : Nat) : Nat → Nat → Prop := fun a i => a = b + 47 ∨ a = b + 48 ∨ (a = b + 50 ∧ i = k)
theorem step_c {h : HA} {b c l p d : Nat} {C L : CR} {Z : ZT} (hb : HB h b c l C L) (hp : p < cP C) (hd : d < 4) (hz : HZ h b C Z) (zv : ZV C Z) (k : Nat) :
    ∃ h1, X1_step h (b + 46) (nI p) (nI d) = some (bI (stp C (tn (Z (2 * p))) d).isSome, h1) ∧ ch (Wcb b k) h h1 ∧ gj h1 = gj h ∧ (stp C (tn (Z (2 * p))) d = none → h1 = h) ∧ ∀ g, stp C (tn (Z (2 * p))) d = some g → HZ h1 b C (zgo Z p (nI g) (ntw C (Z (2 * p + 1)) d)) := by
  have cc := hb_cc hb
  have hw := cc.2.1.1
  have hF := cF_le hw
  have h4 := hw.2.2.2.1.1
  obtain ⟨⟨g0, z1, z2⟩, z3⟩ := zv p hp
  have hg0 := op_lt z2
  have hx := hz p hp
  unfold X1_step
  rw [if_pos (hb_t hb), hb_c hb, Option.bind_some, fx_r3 hb.1, Option.bind_some, ldI_n (fx_k47 hb.1) (by omega) (by omega), Option.bind_some, hx.1, z1, stepTo_c cc z2 hd, Option.bind_some, tn_nI (by omega)]
  cases hg : stp C g0 d with
  | none => exact ⟨h, by rw [on_n, if_pos rfl]; rfl, ch_rf _ _, rfl, fun _ => rfl, fun g hg => by simp at hg⟩
  | some g =>
    have hgF := op_lt (stp_op hg)
    rw [on_s, if_neg (nI_nm1 (by omega)), Option.bind_some, asI_n (fx_k47 hb.1) (by omega) (by omega), Option.bind_some]
    have c1 : ch (Wcb b k) h (si h (b + 47) p (nI g)) := ch_si (Or.inl rfl)
    have hb1 := HB_ch hb c1 (fun a i ha w => by unfold Wcb at w; omega)
    have hrd : ldI (si h (b + 47) p (nI g)) (b + 48) 20 (nI p) = some (Z (2 * p + 1)) := by rw [ldI_n (fx_k48 hb1.1) (by omega) (by omega), gi_si, if_neg (by omega), hx.2]
    rw [fx_r4 hb1.1, Option.bind_some, hrd, Option.bind_some]
    have key : ∀ (y : Int32), y = ntw C (Z (2 * p + 1)) d → HZ (si (si h (b + 47) p (nI g)) (b + 48) p y) b C (zgo Z p (nI g) (ntw C (Z (2 * p + 1)) d)) := by
      intro y hy q hq
      rw [gi_si, if_neg (by omega), gi_si, gi_si, gi_si]
      unfold zgo
      by_cases e : q = p
      · subst e
        rw [if_pos ⟨rfl, rfl⟩, if_pos rfl, if_pos ⟨rfl, rfl⟩, if_neg (by omega), if_pos rfl]; exact ⟨rfl, hy⟩
      · rw [if_neg (by omega), if_neg (by omega), if_neg (by omega), if_neg (by omega), if_neg (by omega), if_neg (by omega), if_neg (by omega)]; exact hz q hq
    rcases z3 with h5 | ⟨t, h5, h6⟩
    · rw [if_pos h5]
      refine ⟨_, rfl, c1, rfl, fun z => by simp at z, fun g' hg' => ?_⟩
      simp at hg'; subst hg'
      intro q hq
      rw [gi_si, gi_si]
      unfold zgo
      by_cases e : q = p
      · subst e
        rw [if_pos ⟨rfl, rfl⟩, if_pos rfl, if_neg (by omega), if_neg (by omega), if_pos rfl]
        exact ⟨rfl, by unfold ntw; rw [if_pos h5, hx.2]; exact h5⟩
      · rw [if_neg (by omega), if_neg (by omega), if_neg (by omega), if_neg (by omega), if_neg (by omega), if_neg (by omega)]; exact hz q hq
    · have htF := op_lt h6
      rw [if_neg (by rw [h5]; exact nI_nm1 (by omega)), hb_c hb1, Option.bind_some, Option.bind_some, hrd, Option.bind_some, h5]
      rw [show (nI d + 2) &&& 3 = nI ((d + 2) % 4) by rw [show (2 : Int32) = nI 2 from rfl, nI_add, and3], stepTo_c (hb_cc hb1) h6 (Nat.mod_lt _ (by omega)), Option.bind_some, Option.bind_some]
      cases hg2 : stp C t ((d + 2) % 4) with
      | none =>
        rw [on_n, if_pos rfl, Option.bind_some, hrd, Option.bind_some, asI_n (fx_k48 hb1.1) (by omega) (by omega), Option.bind_some]
        refine ⟨_, rfl, c1.tr (ch_si (Or.inr (Or.inl rfl))), rfl, fun z => by simp at z, fun g' hg' => ?_⟩
        simp at hg'; subst hg'
        rw [← h5]
        apply key
        unfold ntw; rw [h5, if_neg (nI_nm1 (by omega)), tn_nI (by omega), hg2]
      | some g2 =>
        have := op_lt (stp_op hg2)
        rw [on_s, if_neg (nI_nm1 (by omega)), asI_n (fx_k48 hb1.1) (by omega) (by omega), Option.bind_some]
        refine ⟨_, rfl, c1.tr (ch_si (Or.inr (Or.inl rfl))), rfl, fun z => by simp at z, fun g' hg' => ?_⟩
        simp at hg'; subst hg'
        rw [← h5]
        apply key
        unfold ntw; rw [h5, if_neg (nI_nm1 (by omega)), tn_nI (by omega), hg2]
theorem canBe_c {h : HA} {b c l k : Nat} {C L : CR} {Z : ZT} (hb : HB h b c l C L) (hk : k < llen L) (hz : HZ h b C Z) (zv : ZV C Z) (h50 : gj h (b + 50) k = 0) :
    ∃ h1, X1_canBe h (b + 46) (nI k) = some (bI (dnx C L k Z).isSome, h1) ∧ ch (Wcb b k) h h1 ∧ (dnx C L k Z = none → h1 = h) ∧ ∀ Z1, dnx C L k Z = some Z1 → HZ h1 b C Z1 ∧ ∀ f, f < 64 → tb (gj h1 (b + 50) k) f = fbz L k Z f := by
  have cc := hb_cc hb
  have hw := cc.2.1.1
  have hF := cF_le hw
  have h4 := hw.2.2.2.1.1
  have h30 := llen_30 hb.2.2.2.2.2.2.2
  unfold X1_canBe
  rw [if_pos (hb_t hb), hb_l hb, Option.bind_some, show X2_at h l (nI k) 0 = _ from hb_at (w := 0) hb hk (by omega), Option.bind_some, Option.bind_some, show X2_at h l (nI k) 1 = _ from hb_at (w := 1) hb hk (by omega), Option.bind_some]
  have esd : ∀ Z, dK L k 0 ≠ 1 → ∀ f, f < 64 → tb (gj h (b + 50) k) f = fbz L k Z f := by
    intro Z hne f _
    rw [h50, tb_0]; unfold fbz sd; simp [hne]
  rcases deed_c hb.2.2.2.2.2.2.2 hk with ⟨e0, p, d, hp, hd, e1, e2, _⟩ | ⟨e0, p, w, lo, hp, hwd, hlo, e1, e2, e3⟩ | ⟨e0, e1, _⟩
  · have ewho : who L k = p := by unfold who; rw [e1, tn_nI (by omega)]
    have ewrd : wrd L k = d := by unfold wrd; rw [e2, tn_nI (by omega)]
    have edn : dnx C L k Z = if cP C ≤ p then none else match stp C (tn (Z (2 * p))) d with | none => none | some g => some (zgo Z p (nI g) (ntw C (Z (2 * p + 1)) d)) := by
      unfold dnx
      rw [if_neg (by rw [e0]; decide), ewho, ewrd, if_neg (show ¬ dK L k 0 = 1 by rw [e0]; decide)]
    rw [e0, e1, if_pos rfl, Option.bind_some]
    dsimp only
    rw [hb_c hb, Option.bind_some, hasPleader_c cc, rg_n (by omega), Option.bind_some, edn]
    by_cases hpp : p < cP C
    · rw [if_neg (show ¬ bI (decide (p < cP C)) = 0 by simp [hpp, bI]), if_pos rfl, Option.bind_some, show X2_at h l (nI k) 2 = _ from hb_at (w := 2) hb hk (by omega), Option.bind_some, e2, if_neg (by omega)]
      obtain ⟨h1, s1, s2, s3, s5, s4⟩ := step_c hb hpp hd hz zv k
      refine ⟨h1, ?_, s2, fun z => ?_, fun Z1 hZ1 => ?_⟩
      · rw [s1, Option.bind_some]
        dsimp only
        rw [bz_b, Option.bind_some]
        cases stp C (tn (Z (2 * p))) d <;> rfl
      · cases hg : stp C (tn (Z (2 * p))) d with
        | none => exact s5 hg
        | some g => rw [hg] at z; simp at z
      · cases hg : stp C (tn (Z (2 * p))) d with
        | none => rw [hg] at hZ1; simp at hZ1
        | some g =>
          rw [hg] at hZ1
          simp at hZ1
          subst hZ1
          refine ⟨s4 g hg, fun f hf => ?_⟩
          rw [s3]; exact esd _ (by rw [e0]; decide) f hf
    · rw [if_pos (show bI (decide (p < cP C)) = 0 by simp [hpp, bI]), if_pos (by omega)]
      exact ⟨h, rfl, ch_rf _ _, fun _ => rfl, fun Z1 hZ1 => by simp at hZ1⟩
  · have ewho : who L k = p := by unfold who; rw [e1, tn_nI (by omega)]
    have edn : dnx C L k Z = if cP C ≤ p then none else some Z := by
      unfold dnx
      rw [if_neg (by rw [e0]; decide), ewho, if_pos (show dK L k 0 = 1 by rw [e0])]
    rw [e0, e1, if_neg (by decide), if_pos rfl, Option.bind_some]
    dsimp only
    rw [hb_c hb, Option.bind_some, hasPleader_c cc, rg_n (by omega), Option.bind_some, edn]
    by_cases hpp : p < cP C
    · obtain ⟨⟨g0, z1, z2⟩, z3⟩ := zv p hpp
      have hg0 := op_lt z2
      have hx := hz p hpp
      rw [if_neg (show ¬ bI (decide (p < cP C)) = 0 by simp [hpp, bI]), if_neg (by decide), fx_r6 hb.1, Option.bind_some, fx_r3 hb.1, Option.bind_some, ldI_n (fx_k47 hb.1) (by omega) (by omega), Option.bind_some, hx.1, z1, asJ_n (fx_k50 hb.1) (by omega) (by omega), Option.bind_some, if_neg (by omega)]
      have c1 : ch (Wcb b k) h (sj h (b + 50) k (shlJ 1 (nI g0))) := ch_sj (Or.inr (Or.inr ⟨rfl, rfl⟩))
      have hb1 := HB_ch hb c1 (fun a i ha w => by unfold Wcb at w; omega)
      have hz1 : HZ (sj h (b + 50) k (shlJ 1 (nI g0))) b C Z := fun q hq => hz q hq
      have hrd : ldI (sj h (b + 50) k (shlJ 1 (nI g0))) (b + 48) 20 (nI p) = some (Z (2 * p + 1)) := by rw [ldI_n (fx_k48 hb1.1) (by omega) (by omega), gi_sj, hx.2]
      rw [fx_r4 hb1.1, Option.bind_some, hrd, Option.bind_some]
      have hsd : sd L k = true := by unfold sd; simp [e0]
      rcases z3 with h5 | ⟨t, h5, h6⟩
      · rw [if_pos h5]
        refine ⟨_, rfl, c1, fun z => by simp at z, fun Z1 hZ1 => ?_⟩
        simp at hZ1; subst hZ1
        refine ⟨hz1, fun f hf => ?_⟩
        rw [gj_sj, if_pos ⟨rfl, rfl⟩, tb_bit (by omega)]
        unfold fbz
        rw [hsd, ewho, z1, h5, Bool.true_and]
        have : ¬ (-1 : Int32) = nI f := fun z => nI_nm1 (show f < 2 ^ 31 by omega) z.symm
        simp only [this, decide_false, Bool.or_false]
        apply decide_eq_decide.mpr
        exact ⟨fun e => by rw [e], fun e => (nI_inj (by omega) (by omega) e).symm⟩
      · have htF := op_lt h6
        rw [if_neg (by rw [h5]; exact nI_nm1 (by omega)), fx_r6 hb1.1, Option.bind_some, ldJ_n (fx_k50 hb1.1) (by omega) (by omega), Option.bind_some, Option.bind_some, hrd, Option.bind_some, h5, gj_sj, if_pos ⟨rfl, rfl⟩, asJ_n (fx_k50 hb1.1) (by omega) (by omega), Option.bind_some]
        refine ⟨_, rfl, c1.tr (ch_sj (Or.inr (Or.inr ⟨rfl, rfl⟩))), fun z => by simp at z, fun Z1 hZ1 => ?_⟩
        simp at hZ1; subst hZ1
        refine ⟨hz1, fun f hf => ?_⟩
        rw [gj_sj, if_pos ⟨rfl, rfl⟩, tb_or, tb_bit (by omega), tb_bit (by omega)]
        unfold fbz
        rw [hsd, ewho, z1, h5, Bool.true_and]
        have q1 : (f = g0) = (nI g0 = nI f) := propext ⟨fun e => by rw [e], fun e => (nI_inj (by omega) (by omega) e).symm⟩
        have q2 : (f = t) = (nI t = nI f) := propext ⟨fun e => by rw [e], fun e => (nI_inj (by omega) (by omega) e).symm⟩
        simp only [q1, q2]
    · rw [if_pos (show bI (decide (p < cP C)) = 0 by simp [hpp, bI]), if_pos (by omega)]
      exact ⟨h, rfl, ch_rf _ _, fun _ => rfl, fun Z1 hZ1 => by simp at hZ1⟩
  · have edn : dnx C L k Z = some Z := by unfold dnx; rw [if_pos e0]
    rw [e0, edn, if_neg (by decide), if_neg (by decide), Option.bind_some]
    refine ⟨h, rfl, ch_rf _ _, fun _ => rfl, fun Z1 hZ1 => ?_⟩
    simp at hZ1; subst hZ1
    exact ⟨hz, esd _ (by rw [e0]; decide)⟩
