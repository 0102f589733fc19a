/-! THE MODEL'S COURT in hand -/
def HS (h : HA) (m c : Nat) (C : CR) : Prop := MS h m ∧ WFs C ∧ c < 2 ∧ gi h m 24 = nI c ∧ gi h m 25 = nI (cW C) ∧ gi h m 26 = nI (cH C) ∧ gi h m 27 = nI (cF C) ∧ gi h m 28 = nI (cJ C) ∧ gi h m 29 = nI (cP C) ∧ ∀ k, k < 106 → gi h (m + 6) (106 * c + k) = C k
theorem of_n {h : HA} {m c k : Nat} {C : CR} (hs : HS h m c C) (hk : k < 106) : X8_of h m (nI k) = some (C k) := by
  obtain ⟨h1, h2, h3, h4, h5, h6, h7, h8, h9, h10⟩ := hs
  unfold X8_of
  rw [if_pos (ms_c h1), ms_r6 h1, ms_I h1, h4]
  simp only [Option.bind_some]
  rw [show (106 : Int32) = nI 106 from rfl, nI_mul, nI_add, ldI_n (ms_k6 h1) (by omega) (by omega), h10 k hk]
  rfl
theorem wl_C {C : CR} (hw : WFs C) {f : Nat} (hf : f < 64) : C (42 + f) = bI (wl C f) := by
  unfold wl
  rcases hw.2.2.2.2.1 f hf with e | e <;> rw [e] <;> decide
theorem isWall_n {h : HA} {m c f : Nat} {C : CR} (hs : HS h m c C) (hf : f < 64) : X8_isWall h m (nI f) = some (bI (wl C f)) := by
  unfold X8_isWall
  rw [if_pos (ms_c hs.1), show (42 : Int32) = nI 42 from rfl, nI_add, of_n hs (by omega), wl_C hs.2.1 hf]
  simp only [Option.bind_some]
  cases wl C f <;> decide
theorem isField_n {h : HA} {m c : Nat} {C : CR} (hs : HS h m c C) (x : Int32) : X8_isField h m x = some (bI (rg x (cF C))) := by
  have hF := cF_le hs.2.1
  unfold X8_isField
  rw [if_pos (ms_c hs.1), ms_I hs.1, hs.2.2.2.2.2.2.1]
  simp only [Option.bind_some]
  rw [in_rg x (by omega)]
  simp only [Option.bind_some, bz_b]
theorem beside_n {h : HA} {m c f s : Nat} {C : CR} (hs : HS h m c C) (hf : f < cF C) (h4 : s < 4) : X8_beside h m (nI f) (nI s) = some (on (bsd C f s)) := by
  obtain ⟨h1, h2, h3, _, h5, h6, h7, h8, h9, h10⟩ := hs
  have hW := h2.1
  have hH := h2.2.1
  have hF := cF_le h2
  have hx : f % cW C < cW C := Nat.mod_lt _ (by omega)
  have hyx := Nat.div_add_mod f (cW C)
  have hy : f / cW C < cH C := by
    apply Nat.div_lt_of_lt_mul; exact hf
  have hyW : f / cW C * cW C + f % cW C = f := by rw [Nat.mul_comm]; exact hyx
  have hFe : cF C = cH C * cW C := Nat.mul_comm _ _
  unfold X8_beside
  rw [if_pos (ms_c h1), ms_I h1, ms_I h1, h5, h6]
  simp only [Option.bind_some]
  rw [rm_n (by omega) (by omega) (by omega), dv_n (by omega) (by omega) (by omega)]
  simp only [Option.bind_some, lett]
  generalize hX : f % cW C = x at *
  generalize hY : f / cW C = y at *
  have c4 : s = 0 ∨ s = 1 ∨ s = 2 ∨ s = 3 := by omega
  rcases c4 with rfl | rfl | rfl | rfl
  · rw [if_neg (by decide), if_neg (by decide), if_neg (by decide), if_pos (by decide), Int32.add_zero, in_rg _ (by omega), rg_n (by omega), nI_pm]
    rw [show bsd C f 0 = if cW C ≤ f then some (f - cW C) else none from rfl]
    simp only [hx, decide_true, bI_t, Option.bind_some, if_neg (show ¬ (1 : Int32) = 0 by decide)]
    by_cases hy0 : y = 0
    · subst hy0
      rw [if_pos rfl, in_rg _ (by omega), if_neg (by omega)]
      rfl
    · have e1 : (y - 1) * cW C + cW C = y * cW C := by rw [← Nat.succ_mul]; congr 1; omega
      rw [if_neg hy0, in_rg _ (by omega), rg_n (by omega), show decide (y - 1 < cH C) = true by simp; omega, if_pos (by omega)]
      simp only [bI_t, Option.bind_some, if_neg (show ¬ (1 : Int32) = 0 by decide)]
      rw [nI_mul, nI_add, on_s]
      congr 2; omega
  · rw [if_pos (by decide), if_neg (by decide), if_neg (by decide), Int32.add_zero, in_rg _ (by omega), in_rg _ (by omega), nI_p1, rg_n (by omega), rg_n (by omega)]
    rw [show bsd C f 1 = if f % cW C + 1 < cW C then some (f + 1) else none from rfl, hX]
    by_cases hx1 : x + 1 < cW C
    · simp only [hx1, hy, decide_true, bI_t, Option.bind_some, if_neg (show ¬ (1 : Int32) = 0 by decide), if_true]
      rw [nI_mul, nI_add, on_s]
      congr 2; omega
    · simp only [hx1, decide_false, bI_f, Option.bind_some, if_true, if_false]
      rfl
  · rw [if_neg (by decide), if_neg (by decide), if_pos (by decide), Int32.add_zero, in_rg _ (by omega), in_rg _ (by omega), nI_p1, rg_n (by omega), rg_n (by omega)]
    rw [show bsd C f 2 = if f + cW C < cF C then some (f + cW C) else none from rfl]
    simp only [hx, decide_true, bI_t, Option.bind_some, if_neg (show ¬ (1 : Int32) = 0 by decide)]
    have e1 : (y + 1) * cW C = y * cW C + cW C := Nat.succ_mul _ _
    by_cases hy1 : y + 1 < cH C
    · have e2 : (y + 1 + 1) * cW C ≤ cH C * cW C := Nat.mul_le_mul_right _ (by omega)
      have e3 : (y + 1 + 1) * cW C = (y + 1) * cW C + cW C := Nat.succ_mul _ _
      rw [if_neg (show ¬ bI (decide (y + 1 < cH C)) = 0 by simp [hy1, bI]), if_pos (show f + cW C < cF C by omega)]
      rw [nI_mul, nI_add, on_s]
      congr 2; omega
    · have e2 : y + 1 = cH C := by omega
      rw [if_pos (show bI (decide (y + 1 < cH C)) = 0 by simp [hy1, bI])]
      rw [e2] at e1
      rw [if_neg (by omega)]
      rfl
  · rw [if_neg (by decide), if_pos (by decide), if_neg (by decide), if_neg (by decide), Int32.add_zero, in_rg _ (by omega), in_rg _ (by omega), nI_pm, rg_n (by omega)]
    rw [show bsd C f 3 = if 0 < f % cW C then some (f - 1) else none from rfl, hX]
    by_cases hx0 : x = 0
    · rw [if_pos hx0, if_neg (by omega)]
      rfl
    · rw [if_neg hx0, if_pos (by omega), rg_n (by omega), show decide (x - 1 < cW C) = true by simp; omega]
      simp only [hy, decide_true, bI_t, Option.bind_some, if_neg (show ¬ (1 : Int32) = 0 by decide)]
      rw [nI_mul, nI_add, on_s]
      congr 2; omega
theorem stp_op_eq {C : CR} (hw : WFs C) {f s : Nat} (hf : f < cF C) : stp C f s = match bsd C f s with
    | none => none
    | some g => if wl C g = true then none else some g := by
  unfold stp
  cases h : bsd C f s with
  | none => rfl
  | some g =>
    have := bsd_lt hw hf h
    simp only [Option.filter_some, op, this, decide_true, Bool.true_and]
    cases wl C g <;> rfl
theorem stepTo_n {h : HA} {m c f s : Nat} {C : CR} (hs : HS h m c C) (hf : f < cF C) (h4 : s < 4) : X8_stepTo h m (nI f) (nI s) = some (on (stp C f s)) := by
  have hF := cF_le hs.2.1
  unfold X8_stepTo
  rw [if_pos (ms_c hs.1), beside_n hs hf h4, stp_op_eq hs.2.1 hf]
  simp only [Option.bind_some]
  cases hb : bsd C f s with
  | none => rfl
  | some g =>
    have hg := bsd_lt hs.2.1 hf hb
    rw [on_s, if_neg (nI_nm1 (by omega)), isWall_n hs (by omega)]
    simp only [Option.bind_some]
    cases wl C g
    · rw [if_pos (by decide)]; rfl
    · rw [if_neg (by decide)]; rfl
theorem on_m1 {o : Option Nat} (h : ∀ g, o = some g → g < 2 ^ 31) : on o = -1 ↔ o = none := by
  cases o with
  | none => exact ⟨fun _ => rfl, fun _ => rfl⟩
  | some g => exact ⟨fun e => absurd e (nI_nm1 (h g rfl)), fun e => by simp at e⟩
theorem HS_same {h h1 : HA} {m c : Nat} {C : CR} (hs : HS h m c C) (hk : ∀ a, kd h1 a = kd h a) (ha : ∀ a k, ga h1 a k = ga h a k) (hm : ∀ k, 24 ≤ k → k ≤ 29 → gi h1 m k = gi h m k) (hc : ∀ k, gi h1 (m + 6) k = gi h (m + 6) k) : HS h1 m c C := by
  obtain ⟨h1', h2, h3, h4, h5, h6, h7, h8, h9, h10⟩ := hs
  refine ⟨⟨?_, fun i hi => ?_⟩, h2, h3, ?_, ?_, ?_, ?_, ?_, ?_, fun k hk => ?_⟩
  · rw [hk]; exact h1'.1
  · rw [hk, ha]; exact h1'.2 i hi
  · rw [hm _ (by omega) (by omega)]; exact h4
  · rw [hm _ (by omega) (by omega)]; exact h5
  · rw [hm _ (by omega) (by omega)]; exact h6
  · rw [hm _ (by omega) (by omega)]; exact h7
  · rw [hm _ (by omega) (by omega)]; exact h8
  · rw [hm _ (by omega) (by omega)]; exact h9
  · rw [hc]; exact h10 k hk
