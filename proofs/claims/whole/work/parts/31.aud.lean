/-! the class's hearing -/
theorem turned_c : ∀ e, e < 16 → ∀ f, f < 4 → X0_turned (nI e) (nI f) = some (nI (trl e f)) := by decide +kernel
theorem and3 (a : Nat) : nI a &&& 3 = nI (a % 4) := by
  rw [show (3 : Int32) = nI 3 from rfl, nI_and, show (3 : Nat) = 2 ^ 2 - 1 from rfl, Nat.and_two_pow_sub_one_eq_mod]
theorem turned_3 (e x : Int32) : X0_turned e x = X0_turned e (x &&& 3) := by
  unfold X0_turned
  rw [Int32.and_assoc, Int32.and_self]
theorem bitI : ∀ e, e < 16 → ∀ s, s < 4 → ((ushI (nI e) (nI s)) &&& 1 = 0 ↔ e.testBit s = false) := by decide +kernel
theorem faces_c {h : HA} {c j hour : Nat} {C : CR} (hs : CC h c C) (hj : j < cJ C) : X0_faces h c (nI j) (nI hour) = some (nI (fc C j hour)) := by
  unfold X0_faces fc
  rw [if_pos (cs_c hs.1), show X0_of h c (nI j) 1 = _ from of_c (w := 1) hs hj (by omega), Option.bind_some, show X0_of h c (nI j) 4 = _ from of_c (w := 4) hs hj (by omega), Option.bind_some, nI_mul, nI_add, and3]
theorem and_msk {e n : Nat} {p : Nat → Bool} : e &&& msk p n = 0 ↔ ∀ s, s < n → ¬ (e.testBit s = true ∧ p s = true) := by
  constructor
  · rintro h s hs ⟨h1, h2⟩
    have : (e &&& msk p n).testBit s = false := by rw [h]; simp
    rw [Nat.testBit_and, msk_bit, h1, h2] at this
    simp [hs] at this
  · intro h
    apply Nat.eq_of_testBit_eq
    intro s
    rw [Nat.testBit_and, msk_bit, Nat.zero_testBit]
    cases h1 : e.testBit s
    · rfl
    · cases h2 : p s
      · simp
      · have : ¬ s < n := fun z => h s z ⟨h1, h2⟩
        simp [this]
theorem hr_iff {C : CR} {a e r f : Nat} (ha : op C a = true) (hr1 : r < 64) : hr C a e r f = true ↔ bl C a r f = true ∧ (f = a ∨ ∃ s, s < 4 ∧ e.testBit s = true ∧ cmb C a f s = true) := by
  unfold hr cm
  rw [Bool.and_eq_true, Bool.and_eq_true, decide_eq_true_iff, ds_le hr1, Bool.or_eq_true, decide_eq_true_iff, Bool.not_eq_true', decide_eq_false_iff_not, and_msk]
  constructor
  · rintro ⟨h1, h2, h3⟩
    refine ⟨h2, ?_⟩
    rcases h3 with h3 | h3
    · exact Or.inl h3.symm
    · right
      apply Classical.byContradiction
      intro h4
      exact h3 fun s hs h5 => h4 ⟨s, hs, h5⟩
  · rintro ⟨h1, h2⟩
    refine ⟨bl_op ha h1, h1, ?_⟩
    rcases h2 with h2 | ⟨s, hs, h3⟩
    · exact Or.inl h2.symm
    · exact Or.inr fun h4 => h4 s hs h3
theorem audF {h : HA} {c j e r : Nat} {C : CR} (hs : CL h c C) (hj : j < cJ C) (he : e < 16) (hr1 : r < 19) : ∃ X, X0_audibleFrom h c (nI j) (nI e) (nI r) = some X ∧ ∀ f, f < 64 → tb X f = hr C (jg C j 0) e r f := by
  obtain ⟨hs, hL⟩ := hs
  obtain ⟨hw1, hv1⟩ := hL j hj
  have hF := cF_le hs.2.1.1
  have h6 := hs.2.1.1.2.2.1.1
  have hso := jseat hs.2.1 hj
  have hsF := op_lt hso
  unfold X0_audibleFrom
  have e19 : nI j * 19 = nI (19 * j) := by rw [show (19 : Int32) = nI 19 from rfl, nI_mul, Nat.mul_comm]
  rw [if_pos (cs_c hs.1), cs_r12 hs.1, Option.bind_some, e19, ldJ_n (cs_k12 hs.1) (by omega) (by omega), Option.bind_some]
  have hl := loop_inv (fun fu k (x : Int64) => X0_audibleFrom_L14 h c (nI j) (nI e) fu x (nI k))
    (fun k x => ∀ f, f < 64 → (tb x f = true ↔ f = jg C j 0 ∨ ∃ s, s < k ∧ e.testBit s = true ∧ cmb C (jg C j 0) f s = true))
    (fun x => ∀ f, f < 64 → (tb x f = true ↔ f = jg C j 0 ∨ ∃ s, s < 4 ∧ e.testBit s = true ∧ cmb C (jg C j 0) f s = true)) 4 ?_ ?_ (gj h (c + 4) (19 * j)) FU ?_ (FU_gt (by omega))
  · obtain ⟨x, e1, g1⟩ := hl
    rw [show X0_audibleFrom_L14 h c (nI j) (nI e) FU (gj h (c + 4) (19 * j)) 0 = _ from e1, Option.bind_some, Option.bind_some, nI_add, ldJ_n (cs_k12 hs.1) (by omega) (by omega), Option.bind_some]
    refine ⟨_, rfl, fun f hf => ?_⟩
    rw [tb_and, hw1 r f hr1 hf, Bool.eq_iff_iff, Bool.and_eq_true, g1 f hf, hr_iff hso (by omega)]
    exact and_comm
  · intro k x fu hk hI
    have hb := bitI e he k hk
    rw [X0_audibleFrom_L14, if_pos (lt4 hk)]
    cases hb1 : e.testBit k
    · refine ⟨x, by rw [if_pos (hb.mpr hb1), nI_p1], fun f hf => ?_⟩
      rw [hI f hf]
      refine or_congr Iff.rfl ⟨fun ⟨s, h1, h2⟩ => ⟨s, by omega, h2⟩, fun ⟨s, h1, h2⟩ => ⟨s, ?_, h2⟩⟩
      by_cases e1 : s = k
      · subst e1; rw [hb1] at h2; simp at h2
      · omega
    · refine ⟨_, by rw [if_neg (fun z => by rw [hb.mp z] at hb1; simp at hb1), cs_r13 hs.1, Option.bind_some, show nI j * 4 + nI k = nI (4 * j + k) by rw [show (4 : Int32) = nI 4 from rfl, nI_mul, nI_add, Nat.mul_comm], ldJ_n (cs_k13 hs.1) (by omega) (by omega), Option.bind_some, nI_p1], fun f hf => ?_⟩
      rw [tb_or, Bool.or_eq_true, hI f hf, hv1 k f hk hf, or_assoc]
      refine or_congr Iff.rfl ⟨?_, ?_⟩
      · rintro (⟨s, h1, h2⟩ | h1)
        · exact ⟨s, by omega, h2⟩
        · exact ⟨k, by omega, hb1, h1⟩
      · rintro ⟨s, h1, h2⟩
        by_cases e1 : s = k
        · subst e1; exact Or.inr h2.2
        · exact Or.inl ⟨s, by omega, h2⟩
  · intro x fu hI
    refine ⟨x, ?_, hI⟩
    rw [X0_audibleFrom_L14, if_neg (by decide)]
  · intro f hf
    rw [show tb (gj h (c + 4) (19 * j)) f = _ from hw1 0 f (by omega) hf, bl]
    simp
theorem sidesOf_c {C : CR} {j : Nat} (h1 : jg C j 2 < 2) : X0_sidesOf (nI (jg C j 2)) = some (nI (eW C j)) := by
  unfold X0_sidesOf eW
  by_cases e : jg C j 2 = 0
  · rw [if_pos (by rw [e]; rfl), if_pos e]; rfl
  · rw [if_neg (show ¬ nI _ = 0 from fun z => e (nI_inj (b := 0) (by omega) (by omega) z)), if_neg e]; rfl
theorem aud {h : HA} {c j hour loud : Nat} {C : CR} (hs : CL h c C) (hj1 : j < cJ C) (hl : loud < 10) : ∃ X, X0_audible h c (nI j) (nI hour) (nI loud) = some X ∧ ∀ f, f < 64 → tb X f = hj C j hour loud f := by
  obtain ⟨_, w1, w2, w3, w4, w5⟩ := hs.1.2.1.2.1 j hj1
  obtain ⟨X, hX, hXb⟩ := audF hs hj1 (trl_lt _ (eW_lt C j) _ (fc_lt C j hour)) (show jg C j 3 + loud < 19 by omega)
  refine ⟨X, ?_, hXb⟩
  unfold X0_audible
  rw [if_pos (cs_c hs.1.1), show X0_of h c (nI j) 2 = _ from of_c (w := 2) hs.1 hj1 (by omega), Option.bind_some, sidesOf_c w3, Option.bind_some, faces_c hs.1 hj1, Option.bind_some, turned_c _ (eW_lt C j) _ (fc_lt C j hour), Option.bind_some,
    show X0_of h c (nI j) 3 = _ from of_c (w := 3) hs.1 hj1 (by omega), Option.bind_some, nI_add, hX]
  rfl
theorem earsAt_c {h : HA} {c f hour loud : Nat} {C : CR} (hs : CL h c C) (hf : f < 64) (hl : loud < 10) : X0_earsAt h c (nI f) (nI hour) (nI loud) = some (nI (ea C f hour loud)) := by
  have hJ := hs.1.2.1.1.2.2.1.1
  unfold X0_earsAt
  rw [if_pos (cs_c hs.1.1)]
  have hl2 := loop_st (fun fu k a => X0_earsAt_L6 h c (nI f) (nI hour) (nI loud) fu a (nI k)) (fun k => nI (msk (fun j => hj C j hour loud f) k)) (some (nI (ea C f hour loud))) (cJ C) (fun k fu hk => by
      obtain ⟨X, hX, hXb⟩ := aud (hour := hour) hs hk hl
      try simp only []
      rw [X0_earsAt_L6, cs_I hs.1.1, hs.1.2.2.2.2.2.2.2.2.1, Option.bind_some, if_pos (lt_lit hk (by omega)), hX, Option.bind_some, has_n X hf, Option.bind_some, hXb f hf, ← msk_step (by omega), nI_p1]
      cases hj C k hour loud f
      · rw [if_pos (by decide), if_neg (by decide)]
      · rw [if_neg (by decide), if_pos rfl])
      (fun fu => by (try simp only []); rw [X0_earsAt_L6, cs_I hs.1.1, hs.1.2.2.2.2.2.2.2.2.1, Option.bind_some, if_neg (nlt_lit (Nat.le_refl _) (by omega))]; rfl) FU (FU_gt (by omega))
  rw [show X0_earsAt_L6 h c (nI f) (nI hour) (nI loud) FU 0 0 = _ from hl2]
  rfl
theorem msk_0 {p : Nat → Bool} {n : Nat} : msk p n = 0 ↔ ∀ i, i < n → p i = false := by
  constructor
  · intro h i hi
    have := msk_bit p n i
    rw [h, Nat.zero_testBit] at this
    simpa [hi] using this.symm
  · intro h
    apply Nat.eq_of_testBit_eq
    intro i
    rw [msk_bit, Nat.zero_testBit]
    by_cases hi : i < n
    · simp [h i hi]
    · simp [hi]
theorem cnt_ext {p : Nat → Bool} {n m : Nat} (hn : n ≤ m) (h : ∀ i, n ≤ i → i < m → p i = false) : cnt p m = cnt p n := by
  induction m with
  | zero => have : n = 0 := by omega
            subst this; rfl
  | succ m ih =>
    by_cases e : n = m + 1
    · subst e; rfl
    · show cnt p m + _ = _
      rw [ih (by omega) (fun i h1 h2 => h i h1 (by omega)), h m (by omega) (by omega)]; rfl
theorem op_ge {C : CR} {f : Nat} (h : cF C ≤ f) : op C f = false := by
  cases e : op C f
  · rfl
  · have := op_lt e; omega
theorem blind_c {h : HA} {c hour loud : Nat} {C : CR} (hs : CL h c C) (hl : loud < 10) : X0_blind h c (nI hour) (nI loud) = some (nI (bd C hour loud)) := by
  have hJ := hs.1.2.1.1.2.2.1.1
  have hF := cF_le hs.1.2.1.1
  unfold X0_blind
  rw [if_pos (cs_c hs.1.1), cs_J hs.1.1, Option.bind_some]
  obtain ⟨x, e1, g1⟩ := loop_inv (fun fu k (x : Int64) => X0_blind_L8 h c (nI hour) (nI loud) fu x (nI k))
    (fun k x => ∀ f, f < 64 → (tb x f = true ↔ op C f = true ∧ ∀ j, j < k → hj C j hour loud f = false))
    (fun x => ∀ f, f < 64 → (tb x f = true ↔ op C f = true ∧ ∀ j, j < cJ C → hj C j hour loud f = false)) (cJ C) (fun k x fu hk hI => by
      obtain ⟨X, hX, hXb⟩ := aud (hour := hour) hs hk hl
      try simp only []
      refine ⟨x &&& (X ^^^ -1), by rw [X0_blind_L8, cs_I hs.1.1, hs.1.2.2.2.2.2.2.2.2.1, Option.bind_some, if_pos (lt_lit hk (by omega)), hX, Option.bind_some, nI_p1], fun f hf => ?_⟩
      rw [tb_and, tb_xor, tb_m1, Bool.and_eq_true, hI f hf, hXb f hf, and_assoc]
      refine and_congr Iff.rfl ⟨fun ⟨h1, h2⟩ j hj => ?_, fun h1 => ⟨fun j hj => h1 j (by omega), ?_⟩⟩
      · by_cases e : j = k
        · subst e; simpa [hf] using h2
        · exact h1 j (by omega)
      · rw [h1 k (by omega)]; simpa using hf)
    (fun x fu hI => ⟨x, by (try simp only []); rw [X0_blind_L8, cs_I hs.1.1, hs.1.2.2.2.2.2.2.2.2.1, Option.bind_some, if_neg (nlt_lit (Nat.le_refl _) (by omega))], hI⟩)
    (gj h c 3) FU (fun f hf => by rw [hs.1.2.2.2.2.2.1 f hf]; exact ⟨fun h1 => ⟨h1, fun j hj => by omega⟩, fun h1 => h1.1⟩) (FU_gt (by omega))
  rw [show X0_blind_L8 h c (nI hour) (nI loud) FU (gj h c 3) 0 = _ from e1, Option.bind_some, bc_n, Option.bind_some]
  congr 2
  unfold bd
  rw [← cnt_ext hF (fun i h1 h2 => by rw [op_ge h1]; rfl)]
  apply cnt_cong
  intro f hf
  rw [Bool.eq_iff_iff, g1 f hf, Bool.and_eq_true, decide_eq_true_iff]
  unfold ea
  rw [msk_0]
theorem quarter_c {h : HA} {c : Nat} {C : CR} (hs : CL h c C) : X0_quarter h c = some (nI (qt C)) := by
  have hb := bd_le hs.1.2.1.1
  have st : ∀ fu k b, k < 4 → b < 4 → X0_quarter_L4 h c (fu + 1) (nI b) (nI k) = X0_quarter_L4 h c fu (nI (qs C k b)) (nI (k + 1)) := by
    intro fu k b hk hbb
    have b1 := hb k 0
    have b2 := hb b 0
    rw [X0_quarter_L4, if_pos (lt4 hk), show X0_blind h c (nI k) 0 = _ from blind_c (loud := 0) hs (by omega), Option.bind_some, show X0_blind h c (nI b) 0 = _ from blind_c (loud := 0) hs (by omega), Option.bind_some, nI_p1]
    unfold qs
    by_cases e : bd C k 0 < bd C b 0
    · rw [if_pos ((lt_n (by omega) (by omega)).mpr e), if_pos e]
    · rw [if_neg (fun z => e ((lt_n (by omega) (by omega)).mp z)), if_neg e]
  have q1 : ∀ k b, k < 4 → b < 4 → qs C k b < 4 := by intro k b h1 h2; unfold qs; split <;> omega
  unfold X0_quarter
  rw [if_pos (cs_c hs.1.1)]
  have e1 : X0_quarter_L4 h c FU 0 1 = some (nI (qt C)) := by
    show X0_quarter_L4 h c (19996 + 1 + 1 + 1 + 1) (nI 0) (nI 1) = _
    rw [st _ 1 0 (by omega) (by omega), st _ 2 _ (by omega) (q1 _ _ (by omega) (by omega)), st _ 3 _ (by omega) (q1 _ _ (by omega) (q1 _ _ (by omega) (by omega))), X0_quarter_L4, if_neg (by decide)]
    rfl
  rw [e1]
  rfl
theorem sidesFrom_c {h : HA} {c j f : Nat} {C : CR} (hs : CL h c C) (hj : j < cJ C) (hf : f < 64) : X0_sidesFrom h c (nI j) (nI f) = some (nI (cm C (jg C j 0) f)) := by
  obtain ⟨hw1, hv1⟩ := hs.2 j hj
  have h6 := hs.1.2.1.1.2.2.1.1
  unfold X0_sidesFrom
  rw [if_pos (cs_c hs.1.1)]
  have hl2 := loop_st (fun fu k a => X0_sidesFrom_L5 h c (nI j) (nI f) fu a (nI k)) (fun k => nI (msk (cmb C (jg C j 0) f) k)) (some (nI (cm C (jg C j 0) f))) 4 (fun k fu hk => by
      try simp only []
      rw [X0_sidesFrom_L5, if_pos (lt4 hk), cs_r13 hs.1.1, Option.bind_some, show nI j * 4 + nI k = nI (4 * j + k) by rw [show (4 : Int32) = nI 4 from rfl, nI_mul, nI_add, Nat.mul_comm], ldJ_n (cs_k13 hs.1.1) (by omega) (by omega), Option.bind_some, has_n _ hf, Option.bind_some, hv1 k f hk hf, ← msk_step (by omega), nI_p1]
      cases cmb C (jg C j 0) f k
      · rw [if_pos (by decide), if_neg (by decide)]
      · rw [if_neg (by decide), if_pos rfl])
      (fun fu => by (try simp only []); rw [X0_sidesFrom_L5, if_neg (by decide)]; rfl) FU (FU_gt (by omega))
  rw [show X0_sidesFrom_L5 h c (nI j) (nI f) FU 0 0 = _ from hl2]
  rfl
theorem isOpen_c {h : HA} {c : Nat} {C : CR} (hs : CC h c C) (x : Int32) : X0_isOpen h c x = some (bI (rg x 64 && op C (tn x))) := by
  unfold X0_isOpen
  rw [if_pos (cs_c hs.1)]
  rcases i_nat x with h1 | ⟨a, ha, rfl⟩
  · rw [if_pos h1]
    have : rg x 64 = false := by
      rw [Int32.lt_iff_toInt_lt] at h1
      have e0 : (0 : Int32).toInt = 0 := by decide
      unfold rg; simp; omega
    rw [this]; rfl
  · rw [if_neg (nI_lt0 ha), rg_n ha, tn_nI ha]
    by_cases h2 : a < 64
    · rw [if_pos (show nI a < 64 from lt_lit (n := 64) h2 (by omega)), cs_J hs.1, Option.bind_some, has_n _ h2, Option.bind_some, hs.2.2.2.2.2.1 a h2]
      cases op C a <;> simp [h2, bI]
    · rw [if_neg (show ¬ nI a < 64 from nlt_lit (n := 64) (by omega) ha)]
      simp [h2, bI]
theorem hasJudge_c {h : HA} {c : Nat} {C : CR} (hs : CC h c C) (x : Int32) : X0_hasJudge h c x = some (bI (rg x (cJ C))) := by
  have h6 := hs.2.1.1.2.2.1.1
  unfold X0_hasJudge
  rw [if_pos (cs_c hs.1)]
  rcases i_nat x with h1 | ⟨a, ha, rfl⟩
  · rw [if_pos h1]
    have : rg x (cJ C) = false := by
      rw [Int32.lt_iff_toInt_lt] at h1
      have e0 : (0 : Int32).toInt = 0 := by decide
      unfold rg; simp; omega
    rw [this]; rfl
  · rw [if_neg (nI_lt0 ha), rg_n ha, cs_I hs.1, hs.2.2.2.2.2.2.2.2.1, Option.bind_some]
    by_cases h2 : a < cJ C
    · rw [if_pos (lt_lit h2 (by omega))]; simp [h2, bI]
    · rw [if_neg (nlt_lit (by omega) ha)]; simp [h2, bI]
theorem hasPleader_c {h : HA} {c : Nat} {C : CR} (hs : CC h c C) (x : Int32) : X0_hasPleader h c x = some (bI (rg x (cP C))) := by
  have h6 := hs.2.1.1.2.2.2.1.1
  unfold X0_hasPleader
  rw [if_pos (cs_c hs.1)]
  rcases i_nat x with h1 | ⟨a, ha, rfl⟩
  · rw [if_pos h1]
    have : rg x (cP C) = false := by
      rw [Int32.lt_iff_toInt_lt] at h1
      have e0 : (0 : Int32).toInt = 0 := by decide
      unfold rg; simp; omega
    rw [this]; rfl
  · rw [if_neg (nI_lt0 ha), rg_n ha, cs_I hs.1, hs.2.2.2.2.2.2.2.2.2.1, Option.bind_some]
    by_cases h2 : a < cP C
    · rw [if_pos (lt_lit h2 (by omega))]; simp [h2, bI]
    · rw [if_neg (nlt_lit (by omega) ha)]; simp [h2, bI]
