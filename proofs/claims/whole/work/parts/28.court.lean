/-! THE CLASS'S COURT -/
def CS (h : HA) (c : Nat) : Prop := kd h c = (1, 0) ∧ (ga h c 7 = some (c + 1) ∧ kd h (c + 1) = (20, 30)) ∧ (ga h c 9 = some (c + 2) ∧ kd h (c + 2) = (20, 4)) ∧ (ga h c 10 = some (c + 3) ∧ kd h (c + 3) = (20, 4)) ∧ (ga h c 12 = some (c + 4) ∧ kd h (c + 4) = (21, 114)) ∧ (ga h c 13 = some (c + 5) ∧ kd h (c + 5) = (21, 24))
theorem cs_c {h : HA} {c : Nat} (hs : CS h c) : (kd h c).1 = 1 := by rw [hs.1]
theorem cs_I {h : HA} {c : Nat} (hs : CS h c) (k : Nat) : gI h c 1 k = some (gi h c k) := gI_n hs.1
theorem cs_J {h : HA} {c : Nat} (hs : CS h c) (k : Nat) : gJ h c 1 k = some (gj h c k) := gJ_n hs.1
theorem cs_pI {h : HA} {c : Nat} (hs : CS h c) (k : Nat) (v : Int32) : pI h c 1 k v = some (si h c k v) := pI_n hs.1
theorem cs_pJ {h : HA} {c : Nat} (hs : CS h c) (k : Nat) (v : Int64) : pJ h c 1 k v = some (sj h c k v) := pJ_n hs.1
theorem cs_r7 {h : HA} {c : Nat} (hs : CS h c) : gR h c 1 7 = some (c + 1) := by rw [gR_n hs.1]; exact hs.2.1.1
theorem cs_r9 {h : HA} {c : Nat} (hs : CS h c) : gR h c 1 9 = some (c + 2) := by rw [gR_n hs.1]; exact hs.2.2.1.1
theorem cs_r10 {h : HA} {c : Nat} (hs : CS h c) : gR h c 1 10 = some (c + 3) := by rw [gR_n hs.1]; exact hs.2.2.2.1.1
theorem cs_r12 {h : HA} {c : Nat} (hs : CS h c) : gR h c 1 12 = some (c + 4) := by rw [gR_n hs.1]; exact hs.2.2.2.2.1.1
theorem cs_r13 {h : HA} {c : Nat} (hs : CS h c) : gR h c 1 13 = some (c + 5) := by rw [gR_n hs.1]; exact hs.2.2.2.2.2.1
theorem cs_k7 {h : HA} {c : Nat} (hs : CS h c) : kd h (c + 1) = (20, 30) := hs.2.1.2
theorem cs_k9 {h : HA} {c : Nat} (hs : CS h c) : kd h (c + 2) = (20, 4) := hs.2.2.1.2
theorem cs_k10 {h : HA} {c : Nat} (hs : CS h c) : kd h (c + 3) = (20, 4) := hs.2.2.2.1.2
theorem cs_k12 {h : HA} {c : Nat} (hs : CS h c) : kd h (c + 4) = (21, 114) := hs.2.2.2.2.1.2
theorem cs_k13 {h : HA} {c : Nat} (hs : CS h c) : kd h (c + 5) = (21, 24) := hs.2.2.2.2.2.2
theorem CS_same {h h1 : HA} {c : Nat} (hs : CS h c) (hk : ∀ a, c ≤ a → a ≤ c + 5 → kd h1 a = kd h a) (ha : ∀ k, ga h1 c k = ga h c k) : CS h1 c := by
  obtain ⟨a1, ⟨a2, a3⟩, ⟨a4, a5⟩, ⟨a6, a7⟩, ⟨a8, a9⟩, a10, a11⟩ := hs
  refine ⟨?_, ⟨?_, ?_⟩, ⟨?_, ?_⟩, ⟨?_, ?_⟩, ⟨?_, ?_⟩, ?_, ?_⟩ <;> first | (rw [ha]; assumption) | (rw [hk _ (by omega) (by omega)]; assumption)
/-- the COURT as told and measured -/
def CC (h : HA) (c : Nat) (C : CR) : Prop := CS h c ∧ WF C ∧ gi h c 0 = nI (cW C) ∧ gi h c 1 = nI (cH C) ∧ (∀ f, f < 64 → tb (gj h c 2) f = wl C f) ∧
  (∀ f, f < 64 → tb (gj h c 3) f = op C f) ∧ (∀ f, f < 64 → tb (gj h c 4) f = (op C f && !decide (f % cW C = 0))) ∧ (∀ f, f < 64 → tb (gj h c 5) f = (op C f && !decide (f % cW C + 1 = cW C))) ∧
  gi h c 6 = nI (cJ C) ∧ gi h c 8 = nI (cP C) ∧ (∀ k, k < 5 * cJ C → gi h (c + 1) k = C (4 + k)) ∧ (∀ p, p < cP C → gi h (c + 2) p = C (34 + 2 * p) ∧ gi h (c + 3) p = C (35 + 2 * p))
theorem CC_same {h h1 : HA} {c : Nat} {C : CR} (hs : CC h c C) (hk : ∀ a, c ≤ a → a ≤ c + 5 → kd h1 a = kd h a) (ha : ∀ k, ga h1 c k = ga h c k) (hi : ∀ k, k ≠ 11 → gi h1 c k = gi h c k) (hj : ∀ k, k ≠ 11 → gj h1 c k = gj h c k)
    (hr : ∀ a k, c + 1 ≤ a → a ≤ c + 3 → gi h1 a k = gi h a k) : CC h1 c C := by
  obtain ⟨a1, a2, a3, a4, a5, a6, a7, a8, a9, a10, a11, a12⟩ := hs
  refine ⟨CS_same a1 hk ha, a2, ?_, ?_, ?_, ?_, ?_, ?_, ?_, ?_, ?_, ?_⟩
  · rw [hi _ (by omega)]; exact a3
  · rw [hi _ (by omega)]; exact a4
  · rw [hj _ (by omega)]; exact a5
  · rw [hj _ (by omega)]; exact a6
  · rw [hj _ (by omega)]; exact a7
  · rw [hj _ (by omega)]; exact a8
  · rw [hi _ (by omega)]; exact a9
  · rw [hi _ (by omega)]; exact a10
  · intro k hk; rw [hr _ _ (by omega) (by omega)]; exact a11 k hk
  · intro p hp; rw [hr _ _ (by omega) (by omega), hr _ _ (by omega) (by omega)]; exact a12 p hp
theorem cc_of {W : Nat → Nat → Prop} {h h1 : HA} (p : ch W h h1) {c : Nat} {C : CR} (hs : CC h c C) (hw : ∀ k, k ≠ 11 → ¬ W c k) (hr : ∀ a k, c + 1 ≤ a → a ≤ c + 3 → ¬ W a k) : CC h1 c C :=
  CC_same hs (fun a _ _ => p.2.1 a) (fun k => p.2.2.1 c k) (fun k hk => p.gi (hw k hk)) (fun k hk => p.gj (hw k hk)) (fun a k h1 h2 => p.gi (hr a k h1 h2))
theorem has_n (x : Int64) {k : Nat} (hk : k < 64) : X7_has x (nI k) = some (bI (tb x k)) := by
  unfold X7_has
  have h1 : (ushJ x (nI k)) &&& 1 = 0 ↔ tb x k = false := by
    rw [tb_eq0]
    constructor
    · intro h
      have := h 0 (by omega)
      rw [tb_and, tb_shr _ hk, tb_1] at this
      simpa using this
    · intro h f _
      rw [tb_and, tb_shr _ hk, tb_1]
      by_cases e : f = 0
      · subst e; simp [h]
      · simp [e]
  cases h2 : tb x k
  · rw [if_pos (h1.mpr h2)]; rfl
  · rw [if_neg (fun z => by rw [h1.mp z] at h2; simp at h2)]; rfl
/-- a set of at most one FIELD -/
def sb : Option Nat → Int64
  | none => 0
  | some g => shlJ 1 (nI g)
theorem sb_tb (o : Option Nat) (ho : ∀ g, o = some g → g < 64) (f : Nat) : tb (sb o) f = decide (o = some f) := by
  cases o with
  | none => simp [sb, tb_0]
  | some g =>
    show tb (shlJ 1 (nI g)) f = _
    rw [tb_bit (ho g rfl)]
    apply decide_eq_decide.mpr
    simp [eq_comm]
theorem beside_c {h : HA} {c f s : Nat} {C : CR} (hs : CC h c C) (hf : op C f = true) (h4 : s < 4) : X0_beside h c (nI f) (nI s) = some (sb (stp C f s)) := by
  obtain ⟨a1, a2, a3, a4, a5, a6, a7, a8, a9, a10, a11, a12⟩ := hs
  have hw := a2.1
  have hF := cF_le hw
  have hfF := op_lt hf
  have hW := hw.1
  have hlt : ∀ g, stp C f s = some g → g < 64 := fun g h => by have := op_lt (stp_op h); omega
  have key : ∀ (x : Int64), (∀ g, g < 64 → tb x g = decide (stp C f s = some g)) → x = sb (stp C f s) := fun x hx => tb_ext fun g hg => by rw [hx g hg, sb_tb _ hlt]
  unfold X0_beside
  rw [if_pos (cs_c a1)]
  have c4 : s = 0 ∨ s = 1 ∨ s = 2 ∨ s = 3 := by omega
  rcases c4 with rfl | rfl | rfl | rfl
  · rw [if_pos (by decide), cs_I a1, a3, Option.bind_some, cs_J a1, Option.bind_some]
    congr 1
    apply key
    intro g hg
    rw [tb_and, tb_shr _ (by omega), tb_bit (by omega), a6 g hg]
    rw [Bool.eq_iff_iff, Bool.and_eq_true, decide_eq_true_iff, decide_eq_true_iff, stp_some]
    refine and_congr ?_ Iff.rfl
    show _ ↔ (if cW C ≤ f then some (f - cW C) else none) = some g
    split
    · simp; omega
    · simp; omega
  · rw [if_neg (by decide), if_pos (by decide), cs_J a1, Option.bind_some, cs_J a1, Option.bind_some]
    congr 1
    apply key
    intro g hg
    rw [tb_and, show (1 : Int32) = nI 1 from rfl, tb_shl _ (by omega), tb_and, tb_bit (by omega), a6 g hg]
    rw [Bool.eq_iff_iff, decide_eq_true_iff, stp_some]
    show _ ↔ (if f % cW C + 1 < cW C then some (f + 1) else none) = some g ∧ _
    by_cases e : g = f + 1
    · subst e
      rw [show f + 1 - 1 = f by omega, a8 f (by omega), hf]
      have := Nat.mod_lt f (show 0 < cW C by omega)
      by_cases e2 : f % cW C + 1 = cW C
      · rw [if_neg (by omega)]; simp [e2]
      · rw [if_pos (by omega)]; simp [e2]; omega
    · have e1 : ((if f % cW C + 1 < cW C then some (f + 1) else none) = some g) ↔ False := by
        split
        · simp; omega
        · simp
      rw [e1]
      simp
      intro _ _ h3; omega
  · rw [if_neg (by decide), if_neg (by decide), if_pos (by decide), cs_I a1, a3, Option.bind_some, cs_J a1, Option.bind_some]
    congr 1
    apply key
    intro g hg
    rw [tb_and, tb_shl _ (by omega), tb_bit (by omega), a6 g hg]
    rw [Bool.eq_iff_iff, decide_eq_true_iff, stp_some]
    show _ ↔ (if f + cW C < cF C then some (f + cW C) else none) = some g ∧ _
    by_cases e : g = f + cW C
    · subst e
      by_cases e2 : op C (f + cW C) = true
      · have := op_lt e2
        rw [if_pos this]; simp [e2]; omega
      · simp [e2]
    · have e1 : ((if f + cW C < cF C then some (f + cW C) else none) = some g) ↔ False := by
        split
        · simp; omega
        · simp
      rw [e1]
      simp
      intro _ _ h3; omega
  · rw [if_neg (by decide), if_neg (by decide), if_neg (by decide), cs_J a1, Option.bind_some, cs_J a1, Option.bind_some]
    congr 1
    apply key
    intro g hg
    rw [tb_and, show (1 : Int32) = nI 1 from rfl, tb_shr _ (by omega), tb_and, tb_bit (by omega), a6 g hg]
    rw [Bool.eq_iff_iff, decide_eq_true_iff, stp_some]
    show _ ↔ (if 0 < f % cW C then some (f - 1) else none) = some g ∧ _
    by_cases e : f = g + 1
    · subst e
      rw [a7 (g + 1) (by omega), hf]
      by_cases e2 : (g + 1) % cW C = 0
      · rw [if_neg (by omega)]; simp [e2]
      · rw [if_pos (by omega)]; simp [e2]
    · have e1 : ((if 0 < f % cW C then some (f - 1) else none) = some g) ↔ False := by
        split
        · have : 0 < f := by
            rcases Nat.eq_zero_or_pos f with z | z
            · subst z; simp at *
            · exact z
          simp; omega
        · simp
      rw [e1]
      simp
      intro h3; omega
theorem sb_0 (o : Option Nat) (ho : ∀ g, o = some g → g < 64) : sb o = 0 ↔ o = none := by
  cases o with
  | none => exact ⟨fun _ => rfl, fun _ => rfl⟩
  | some g =>
    refine ⟨fun e => ?_, fun e => by simp at e⟩
    have := sb_tb (some g) ho g
    rw [e, tb_0] at this
    simp at this
theorem stepTo_c {h : HA} {c f s : Nat} {C : CR} (hs : CC h c C) (hf : op C f = true) (h4 : s < 4) : X0_stepTo h c (nI f) (nI s) = some (on (stp C f s)) := by
  have hF := cF_le hs.2.1.1
  have hlt : ∀ g, stp C f s = some g → g < 64 := fun g h => by have := op_lt (stp_op h); omega
  unfold X0_stepTo
  rw [if_pos (cs_c hs.1), beside_c hs hf h4, Option.bind_some]
  cases hg : stp C f s with
  | none => rfl
  | some g =>
    have hg64 := hlt g hg
    rw [if_neg (fun e => by rw [← hg, sb_0 _ hlt, hg] at e; simp at e)]
    show (J13_numberOfTrailingZeros_95d88 (shlJ 1 (nI g))).bind _ = _
    rw [ntz_n g hg64]; rfl
theorem any_b {C : CR} {S : Nat → Bool} (hS : ∀ f, S f = true → op C f = true) (g s : Nat) : (stp C g s).any S = (bsd C g s).any S := by
  unfold stp
  cases bsd C g s with
  | none => rfl
  | some f =>
    simp only [Option.filter_some, Option.any_some]
    cases h : op C f
    · cases h2 : S f
      · rfl
      · have := hS f h2; rw [h] at this; simp at this
    · rfl
theorem grow_c {h : HA} {c : Nat} {C : CR} (hs : CC h c C) (S : Int64) (hS : ∀ f, tb S f = true → op C f = true) : ∃ G, X0_grow h c S = some G ∧ ∀ g, g < 64 → tb G g = (op C g && nb C (tb S) g) := by
  obtain ⟨a1, a2, a3, a4, a5, a6, a7, a8, a9, a10, a11, a12⟩ := hs
  have hw := a2.1
  have hF := cF_le hw
  have hW := hw.1
  unfold X0_grow
  rw [if_pos (cs_c a1), cs_J a1, cs_J a1, cs_J a1, cs_I a1, a3]
  simp only [Option.bind_some]
  refine ⟨_, rfl, fun g hg => ?_⟩
  rw [show (1 : Int32) = nI 1 from rfl, tb_and, tb_or, tb_or, tb_or, tb_shr _ (by omega), tb_shr _ (by omega), tb_shl _ (by omega), tb_shl _ (by omega), tb_and, tb_and, a6 g hg, Bool.and_comm]
  cases ho : op C g with
  | false => rfl
  | true =>
    have hgF := op_lt ho
    simp only [Bool.true_and]
    unfold nb
    rw [any_b hS, any_b hS, any_b hS, any_b hS]
    have e0 : (bsd C g 0).any (tb S) = (decide (cW C ≤ g) && tb S (g - cW C)) := by
      show (if cW C ≤ g then some (g - cW C) else none).any (tb S) = _
      split <;> simp [*]
    have e1 : (bsd C g 1).any (tb S) = (tb S (g + 1) && tb (gj h c 4) (g + 1)) := by
      show (if g % cW C + 1 < cW C then some (g + 1) else none).any (tb S) = _
      cases hs1 : tb S (g + 1)
      · split <;> simp [*]
      · have hop := hS _ hs1
        have := op_lt hop
        rw [a7 (g + 1) (by omega), hop]
        have hm : (g + 1) % cW C = 0 ↔ ¬ g % cW C + 1 < cW C := by
          rcases cW_c hw with e | e | e | e | e | e | e <;> rw [e] <;> omega
        by_cases e2 : g % cW C + 1 < cW C
        · rw [if_pos e2]; simp [hs1, hm, e2]
        · rw [if_neg e2]; simp [hm, e2]
    have e2 : (bsd C g 2).any (tb S) = tb S (g + cW C) := by
      show (if g + cW C < cF C then some (g + cW C) else none).any (tb S) = _
      cases hs1 : tb S (g + cW C)
      · split <;> simp [*]
      · rw [if_pos (op_lt (hS _ hs1))]; simp [hs1]
    have e3 : (bsd C g 3).any (tb S) = (decide (1 ≤ g) && (tb S (g - 1) && tb (gj h c 5) (g - 1))) := by
      show (if 0 < g % cW C then some (g - 1) else none).any (tb S) = _
      by_cases hg0 : g = 0
      · subst hg0; simp
      · obtain ⟨q, rfl⟩ : ∃ q, g = q + 1 := ⟨g - 1, by omega⟩
        rw [show q + 1 - 1 = q by omega]
        cases hs1 : tb S q
        · split <;> simp [*]
        · have hop := hS _ hs1
          rw [a8 q (by omega), hop]
          have hm : q % cW C + 1 = cW C ↔ ¬ 0 < (q + 1) % cW C := by
            rcases cW_c hw with e | e | e | e | e | e | e <;> rw [e] <;> omega
          by_cases e2 : 0 < (q + 1) % cW C
          · rw [if_pos e2]; simp [hs1, hm, e2]
          · rw [if_neg e2]; simp [hm, e2]
    rw [e0, e1, e2, e3]
    simp only [hg, decide_true, Bool.true_and]
    cases tb S (g + 1) && tb (gj h c 4) (g + 1) <;> cases (decide (1 ≤ g) && (tb S (g - 1) && tb (gj h c 5) (g - 1))) <;> cases tb S (g + cW C) <;> cases (decide (cW C ≤ g) && tb S (g - cW C)) <;> rfl
