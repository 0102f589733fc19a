/-- a call that only asks: class and model answer alike, and all that is told stays -/
def ASK (b : Nat) (D : DT) (α : Nat → Nat) (lm : Nat → Nat → Nat) (im : Nat → Option (Nat × DT)) (h : HA) (F G : HA → Option (Int32 × HA)) : Prop :=
  ∃ r h1 h2, F h = some (r, h1) ∧ G h1 = some (r, h2) ∧ IV h2 b D α lm im
/-- the answer of a question to the class, to the model -/
def AC (b : Nat) (D : DT) (α : Nat → Nat) (lm : Nat → Nat → Nat) (im : Nat → Option (Nat × DT)) (o : Option (Int32 × HA)) (r : Int32) : Prop := ∃ h1, o = some (r, h1) ∧ IV h1 b D α lm im
theorem ask_of {b : Nat} {D : DT} {α : Nat → Nat} {lm : Nat → Nat → Nat} {im : Nat → Option (Nat × DT)} {h : HA} {F G : HA → Option (Int32 × HA)} (r : Int32) (h1 : AC b D α lm im (F h) r) (h2 : ∀ h1, IV h1 b D α lm im → AC b D α lm im (G h1) r) : ASK b D α lm im h F G := by
  obtain ⟨g, e1, i1⟩ := h1
  obtain ⟨g2, e2, i2⟩ := h2 g i1
  exact ⟨r, g, g2, e1, e2, i2⟩
theorem fx_c {h : HA} {b : Nat} (hf : FX h b) : (kd h b).1 = 8 := by rw [fx_x hf]
theorem eq_lit {a n : Nat} (ha : a < 2 ^ 31) (hn : n < 2 ^ 31) : nI a = nI n ↔ a = n := nI_eq ha hn
def wcnt (C : CR) : Nat := cnt (fun f => wl C f) (cF C)
def qcourt (D : DT) (x y : Int32) : Int32 := if rg x (dN D 0) = true then (let C := dC D (tn x); if y = 0 then nI (cW C) else if y = 1 then nI (cH C) else if y = 2 then nI (wcnt C) else if y = 3 then nI (cJ C) else if y = 4 then nI (cP C) else if y = 5 then nI (qt C) else -1) else -1
theorem walls_c {h : HA} {c : Nat} {C : CR} (hs : CC h c C) : J13_bitCount_95d88 (gj h c 2) = some (nI (wcnt C)) := by
  have hF := cF_le hs.2.1.1
  rw [bc_n]
  congr 2
  unfold wcnt
  rw [← cnt_ext (p := fun f => wl C f) hF (fun i h1 h2 => by
    cases e : wl C i
    · rfl
    · have := hs.2.1.1.2.2.2.2.2 i h2 e; omega)]
  exact cnt_cong (fun f hf => hs.2.2.2.2.1 f hf)
theorem c_court {h : HA} {b : Nat} {D : DT} {α : Nat → Nat} {lm : Nat → Nat → Nat} {im : Nat → Option (Nat × DT)} (hi : IV h b D α lm im) (x y : Int32) : AC b D α lm im (X7_court h b x y) (qcourt D x y) := by
  unfold X7_court qcourt
  rw [if_pos (fx_c hi.1)]
  rcases courtAt_ok hi x with ⟨h1, h2⟩ | ⟨a, h1, ha, rfl, hr, e1, i1, l1⟩
  · rw [h2, h1]; exact ⟨h, rfl, hi⟩
  · rw [e1, hr, if_pos rfl, tn_nI (by have := (iv_w hi).2.1 0 (by omega); omega)]
    have cc := l1.1
    refine ⟨h1, ?_, i1⟩
    simp only [Option.bind_some, cs_I cc.1, cs_J cc.1, cc.2.2.1, cc.2.2.2.1, cc.2.2.2.2.2.2.2.2.1, cc.2.2.2.2.2.2.2.2.2.1, walls_c cc, quarter_c l1]
    repeat' split
    all_goals rfl
theorem court20 {h : HA} {m c : Nat} {C : CR} (hs : HS h m c C) : X8_court_L20 h m FU 0 0 = some (nI (wcnt C)) := by
  have hF := cF_le hs.2.1
  have hl2 := loop_st (fun fu k a => X8_court_L20 h m fu a (nI k)) (fun k => nI (cnt (fun f => wl C f) k)) (some (nI (wcnt C))) (cF C) (fun k fu hk => by
      try simp only []
      rw [X8_court_L20, ms_I hs.1, hs.2.2.2.2.2.2.1, Option.bind_some, if_pos (lt_lit hk (by omega)), isWall_n hs (by omega), Option.bind_some, nI_p1, nI_p1, Int32.add_zero]
      rw [show cnt (fun f => wl C f) (k + 1) = cnt (fun f => wl C f) k + (if wl C k = true then 1 else 0) from rfl]
      cases wl C k
      · rw [if_pos (by decide)]; rfl
      · rw [if_neg (by decide)]; rfl)
      (fun fu => by (try simp only []); rw [X8_court_L20, ms_I hs.1, hs.2.2.2.2.2.2.1, Option.bind_some, if_neg (nlt_lit (Nat.le_refl _) (by omega))]; rfl) FU (FU_gt (by omega))
  exact hl2
theorem m_court {h : HA} {b : Nat} {D : DT} {α : Nat → Nat} {lm : Nat → Nat → Nat} {im : Nat → Option (Nat × DT)} (hi : IV h b D α lm im) (x y : Int32) : AC b D α lm im (X8_court h (b + 55) x y) (qcourt D x y) := by
  unfold X8_court qcourt
  rw [if_pos (ms_c (iv_ms hi)), ms_p (iv_ms hi), Option.bind_some]
  have hi0 := IV_m0 hi 0 0
  rcases hand_ok hi0 x with ⟨h1, h2⟩ | ⟨a, h1, ha, rfl, hr, e1, i1, t1⟩
  · rw [h2, h1, Option.bind_some]
    exact ⟨_, by simp only [if_true]; rfl, hi0⟩
  · have hw := (iv_w hi).2.2.1 a ha
    rw [e1, hr, if_pos rfl, tn_nI (by have := (iv_w hi).2.1 0 (by omega); omega), Option.bind_some]
    have m1 := t1.1.1
    refine ⟨h1, ?_, i1⟩
    simp only [if_neg (show ¬ (1 : Int32) = 0 by decide), court20 t1.1, Option.bind_some, ms_I m1, t1.1.2.2.2.2.1, t1.1.2.2.2.2.2.1, t1.1.2.2.2.2.2.2.2.1, t1.1.2.2.2.2.2.2.2.2.1, quarter_n t1 hw.2.1]
    repeat' split
    all_goals rfl
def qwall (D : DT) (x y : Int32) : Int32 := bI (rg x (dN D 0) && (rg y 64 && wl (dC D (tn x)) (tn y)))
theorem c_wall {h : HA} {b : Nat} {D : DT} {α : Nat → Nat} {lm : Nat → Nat → Nat} {im : Nat → Option (Nat × DT)} (hi : IV h b D α lm im) (x y : Int32) : AC b D α lm im (X7_wall h b x y) (qwall D x y) := by
  unfold X7_wall qwall
  rw [if_pos (fx_c hi.1)]
  rcases courtAt_ok hi x with ⟨h1, h2⟩ | ⟨a, h1, ha, rfl, hr, e1, i1, l1⟩
  · rw [h2, h1]; exact ⟨h, rfl, hi⟩
  · rw [e1, hr, tn_nI (by have := (iv_w hi).2.1 0 (by omega); omega)]
    have cc := l1.1
    refine ⟨h1, ?_, i1⟩
    simp only [Option.bind_some, Bool.true_and]
    rcases i_nat y with hy | ⟨f, hf, rfl⟩
    · rw [if_pos hy, neg_rg hy]; rfl
    · rw [if_neg (nI_lt0 hf), rg_n hf, tn_nI hf]
      by_cases h2 : f < 64
      · rw [if_pos (show nI f < 64 from lt_lit (n := 64) h2 (by omega)), cs_J cc.1, Option.bind_some, has_n _ h2, Option.bind_some, cc.2.2.2.2.1 f h2]
        cases wl (dC D a) f <;> simp [h2, bI]
      · rw [if_neg (show ¬ nI f < 64 from nlt_lit (n := 64) (by omega) hf)]; simp [h2, bI]
theorem m_wall {h : HA} {b : Nat} {D : DT} {α : Nat → Nat} {lm : Nat → Nat → Nat} {im : Nat → Option (Nat × DT)} (hi : IV h b D α lm im) (x y : Int32) : AC b D α lm im (X8_wall h (b + 55) x y) (qwall D x y) := by
  unfold X8_wall qwall
  rw [if_pos (ms_c (iv_ms hi)), ms_p (iv_ms hi), Option.bind_some]
  have hi0 := IV_m0 hi 0 0
  rcases hand_ok hi0 x with ⟨h1, h2⟩ | ⟨a, h1, ha, rfl, hr, e1, i1, t1⟩
  · rw [h2, h1, Option.bind_some]
    exact ⟨_, by simp only [if_true]; rfl, hi0⟩
  · have hw := (iv_w hi).2.2.1 a ha
    have hF := cF_le hw.1
    rw [e1, hr, tn_nI (by have := (iv_w hi).2.1 0 (by omega); omega), Option.bind_some]
    refine ⟨h1, ?_, i1⟩
    simp only [if_neg (show ¬ (1 : Int32) = 0 by decide), isField_n t1.1, Option.bind_some, Bool.true_and]
    rcases i_nat y with hy | ⟨f, hf, rfl⟩
    · rw [neg_rg hy, neg_rg hy]; rfl
    · rw [rg_n hf, rg_n hf, tn_nI hf]
      by_cases h2 : f < cF (dC D a)
      · rw [isWall_n t1.1 (by omega)]
        simp only [h2, show f < 64 by omega, decide_true, Bool.true_and, Option.bind_some]
        cases wl (dC D a) f <;> rfl
      · simp only [h2, decide_false]
        have : (decide (f < 64) && wl (dC D a) f) = false := by
          by_cases h3 : f < 64
          · cases e : wl (dC D a) f
            · simp
            · exact absurd (hw.1.2.2.2.2.2 f h3 e) h2
          · simp [h3]
        rw [this]; rfl
theorem isJudge_n {h : HA} {m c : Nat} {C : CR} (hs : HS h m c C) (x : Int32) : X8_isJudge h m x = some (bI (rg x (cJ C))) := by
  have h6 := hs.2.1.2.2.1.1
  unfold X8_isJudge
  rw [if_pos (ms_c hs.1), ms_I hs.1, hs.2.2.2.2.2.2.2.1, Option.bind_some, in_rg x (by omega), Option.bind_some, bz_b, Option.bind_some]
theorem isPleader_n {h : HA} {m c : Nat} {C : CR} (hs : HS h m c C) (x : Int32) : X8_isPleader h m x = some (bI (rg x (cP C))) := by
  have h6 := hs.2.1.2.2.2.1.1
  unfold X8_isPleader
  rw [if_pos (ms_c hs.1), ms_I hs.1, hs.2.2.2.2.2.2.2.2.1, Option.bind_some, in_rg x (by omega), Option.bind_some, bz_b, Option.bind_some]
/-- from n up to n + k -/
theorem sub_n {a n : Nat} (h : n ≤ a) : nI a - nI n = nI (a - n) := nI_sub h
def rg2 (x : Int32) (l n : Nat) : Bool := decide ((l : Int) ≤ x.toInt ∧ x.toInt ≤ (n : Int))
theorem in_l (x : Int32) {l n : Nat} (hl : l < 2 ^ 31) (hn : n < 2 ^ 31) : X8_in x (nI l) (nI n) = some (bI (rg2 x l n)) := by
  unfold X8_in rg2
  have q1 : x < nI l ↔ x.toInt < (l : Int) := by rw [Int32.lt_iff_toInt_lt, nI_toInt hl]
  have q2 : nI n < x ↔ (n : Int) < x.toInt := by rw [Int32.lt_iff_toInt_lt, nI_toInt hn]
  by_cases h1 : x.toInt < (l : Int)
  · rw [if_pos (q1.mpr h1), show decide ((l : Int) ≤ x.toInt ∧ x.toInt ≤ (n : Int)) = false by simp; omega]; rfl
  · rw [if_neg (fun z => h1 (q1.mp z))]
    by_cases h2 : (n : Int) < x.toInt
    · rw [if_pos (q2.mpr h2), show decide ((l : Int) ≤ x.toInt ∧ x.toInt ≤ (n : Int)) = false by simp; omega]; rfl
    · rw [if_neg (fun z => h2 (q2.mp z)), show decide ((l : Int) ≤ x.toInt ∧ x.toInt ≤ (n : Int)) = true by simp; omega]; rfl
theorem rg2_iff {x : Int32} {l n : Nat} (hn : n < 2 ^ 31) : rg2 x l n = true ↔ ∃ a, l ≤ a ∧ a ≤ n ∧ x = nI a := by
  constructor
  · intro h
    rcases i_nat x with h1 | ⟨a, ha, rfl⟩
    · unfold rg2 at h
      rw [Int32.lt_iff_toInt_lt] at h1
      have e0 : (0 : Int32).toInt = 0 := by decide
      simp at h; omega
    · unfold rg2 at h
      rw [nI_toInt ha] at h
      simp at h
      exact ⟨a, by omega, by omega, rfl⟩
  · rintro ⟨a, h1, h2, rfl⟩
    unfold rg2
    rw [nI_toInt (by omega)]
    simp; omega
theorem rg2_lt {x : Int32} {l n : Nat} (hl : l < 2 ^ 31) (hn : n < 2 ^ 31) (h : rg2 x l n = false) : x < nI l ∨ nI n < x := by
  unfold rg2 at h
  rw [Int32.lt_iff_toInt_lt, Int32.lt_iff_toInt_lt, nI_toInt hl, nI_toInt hn]
  simp at h
  omega
def qjudge (D : DT) (x j w : Int32) : Int32 := if (rg x (dN D 0) && rg j (cJ (dC D (tn x)))) = true then (let C := dC D (tn x); if rg w 5 = true then nI (jg C (tn j) (tn w)) else if rg2 w 10 109 = true then nI (fc C (tn j) (tn w - 10)) else -1) else -1
theorem c_judge {h : HA} {b : Nat} {D : DT} {α : Nat → Nat} {lm : Nat → Nat → Nat} {im : Nat → Option (Nat × DT)} (hi : IV h b D α lm im) (x j w : Int32) : AC b D α lm im (X7_judge h b x j w) (qjudge D x j w) := by
  unfold X7_judge qjudge
  rw [if_pos (fx_c hi.1)]
  rcases courtAt_ok hi x with ⟨h1, h2⟩ | ⟨a, h1, ha, rfl, hr, e1, i1, l1⟩
  · rw [h2, h1]; exact ⟨h, rfl, hi⟩
  · rw [e1, hr, tn_nI (by have := (iv_w hi).2.1 0 (by omega); omega)]
    have cc := l1.1
    have h6 := cc.2.1.1.2.2.1.1
    refine ⟨h1, ?_, i1⟩
    simp only [Option.bind_some, Bool.true_and, hasJudge_c cc]
    cases hj : rg j (cJ (dC D a)) with
    | false => rfl
    | true =>
      obtain ⟨q, hq, rfl⟩ := (rg_iff (by omega)).mp hj
      rw [if_neg (by decide), if_pos rfl, tn_nI (by omega)]
      rcases i_nat w with hw | ⟨f, hf, rfl⟩
      · rw [if_pos hw, neg_rg hw, Option.bind_some]
        have h2 : rg2 w 10 109 = false := by
          rw [Int32.lt_iff_toInt_lt] at hw
          have e0 : (0 : Int32).toInt = 0 := by decide
          unfold rg2; simp; omega
        have h3 : w < 10 := by
          rw [Int32.lt_iff_toInt_lt] at hw ⊢
          have e0 : (0 : Int32).toInt = 0 := by decide
          have e1 : (10 : Int32).toInt = 10 := by decide
          omega
        rw [h2]; simp [h3]
      · rw [if_neg (nI_lt0 hf), rg_n hf, tn_nI hf]
        by_cases h5 : f < 5
        · rw [if_pos (show nI f < 5 from lt_lit (n := 5) h5 (by omega)), of_c cc hq h5]
          simp [h5]
        · rw [if_neg (show ¬ nI f < 5 from nlt_lit (n := 5) (by omega) hf), Option.bind_some]
          simp only [h5, decide_false]
          by_cases h10 : f < 10
          · have h2 : rg2 (nI f) 10 109 = false := by unfold rg2; rw [nI_toInt hf]; simp; omega
            rw [if_pos (show nI f < 10 from lt_lit (n := 10) h10 (by omega)), h2]; rfl
          · rw [if_neg (show ¬ nI f < 10 from nlt_lit (n := 10) (by omega) hf)]
            by_cases h109 : 109 < f
            · have h2 : rg2 (nI f) 10 109 = false := by unfold rg2; rw [nI_toInt hf]; simp; omega
              rw [if_pos (show 109 < nI f from (lt_n (a := 109) (by omega) hf).mpr h109), h2]; rfl
            · have h2 : rg2 (nI f) 10 109 = true := by unfold rg2; rw [nI_toInt hf]; simp; omega
              rw [if_neg (show ¬ 109 < nI f from fun z => h109 ((lt_n (a := 109) (by omega) hf).mp z)), h2, show nI f - 10 = nI (f - 10) from sub_n (n := 10) (by omega), faces_c cc hq]; rfl
theorem m_judge {h : HA} {b : Nat} {D : DT} {α : Nat → Nat} {lm : Nat → Nat → Nat} {im : Nat → Option (Nat × DT)} (hi : IV h b D α lm im) (x j w : Int32) : AC b D α lm im (X8_judge h (b + 55) x j w) (qjudge D x j w) := by
  unfold X8_judge qjudge
  rw [if_pos (ms_c (iv_ms hi)), ms_p (iv_ms hi), Option.bind_some]
  have hi0 := IV_m0 hi 0 0
  rcases hand_ok hi0 x with ⟨h1, h2⟩ | ⟨a, h1, ha, rfl, hr, e1, i1, t1⟩
  · rw [h2, h1, Option.bind_some]
    exact ⟨_, by simp only [if_true]; rfl, hi0⟩
  · have hw := (iv_w hi).2.2.1 a ha
    have h6 := hw.1.2.2.1.1
    rw [e1, hr, tn_nI (by have := (iv_w hi).2.1 0 (by omega); omega), Option.bind_some]
    refine ⟨h1, ?_, i1⟩
    simp only [if_neg (show ¬ (1 : Int32) = 0 by decide), isJudge_n t1.1, Option.bind_some, Bool.true_and]
    cases hj : rg j (cJ (dC D a)) with
    | false => rfl
    | true =>
      obtain ⟨q, hq, rfl⟩ := (rg_iff (by omega)).mp hj
      obtain ⟨_, w1, w2, w3, w4, w5⟩ := hw.2.1 q hq
      rw [if_neg (by decide), show X8_in w 0 4 = _ from in_rn w (n := 4) (by omega), Option.bind_some, show X8_in w 10 109 = _ from in_l w (l := 10) (n := 109) (by omega) (by omega), Option.bind_some]
      rw [tn_nI (show q < 2 ^ 31 by omega)]
      cases h5 : rg w (4 + 1) with
      | true =>
        obtain ⟨f, hf, rfl⟩ := (rg_iff (by omega)).mp h5
        rw [if_neg (by decide), judgeOf_n t1.1 hw.2.1 hq (by omega), tn_nI (by omega)]
        simp [show rg (nI f) 5 = true from h5]
      | false =>
        rw [if_pos (by decide)]
        cases h10 : rg2 w 10 109 with
        | true =>
          obtain ⟨f, hf1, hf2, rfl⟩ := (rg2_iff (by omega)).mp h10
          rw [if_neg (by decide), jo1 t1.1 hw.2.1 hq, Option.bind_some, jo4 t1.1 hw.2.1 hq, Option.bind_some, show nI f - 10 = nI (f - 10) from sub_n (n := 10) (by omega), faces_n t1.1 (by omega) (by omega) (by omega), tn_nI (by omega)]
          simp [show rg (nI f) 5 = false from h5, fc]
        | false =>
          simp [show rg w 5 = false from h5, bI]
def qpleader (D : DT) (x p v : Int32) : Int32 := if (rg x (dN D 0) && rg p (cP (dC D (tn x)))) = true then (if v = 0 then nI (ps (dC D (tn x)) (tn p)) else tw (dC D (tn x)) (tn p)) else -2
theorem c_pleader {h : HA} {b : Nat} {D : DT} {α : Nat → Nat} {lm : Nat → Nat → Nat} {im : Nat → Option (Nat × DT)} (hi : IV h b D α lm im) (x p v : Int32) : AC b D α lm im (X7_pleader h b x p v) (qpleader D x p v) := by
  unfold X7_pleader qpleader
  rw [if_pos (fx_c hi.1)]
  rcases courtAt_ok hi x with ⟨h1, h2⟩ | ⟨a, h1, ha, rfl, hr, e1, i1, l1⟩
  · rw [h2, h1]; exact ⟨h, rfl, hi⟩
  · rw [e1, hr, tn_nI (by have := (iv_w hi).2.1 0 (by omega); omega)]
    have cc := l1.1
    have h6 := cc.2.1.1.2.2.2.1.1
    refine ⟨h1, ?_, i1⟩
    simp only [Option.bind_some, Bool.true_and, hasPleader_c cc]
    cases hj : rg p (cP (dC D a)) with
    | false => rfl
    | true =>
      obtain ⟨q, hq, rfl⟩ := (rg_iff (by omega)).mp hj
      have hg := cc.2.2.2.2.2.2.2.2.2.2.2 q hq
      have hp := (cc.2.1.2.2 q hq).1
      rw [if_neg (by decide), if_pos rfl, tn_nI (by omega)]
      by_cases hv : v = 0
      · rw [if_pos hv, if_pos hv, cs_r9 cc.1, Option.bind_some, ldI_n (cs_k9 cc.1) (by omega) (by omega), hg.1, hp]; rfl
      · rw [if_neg hv, if_neg hv, cs_r10 cc.1, Option.bind_some, ldI_n (cs_k10 cc.1) (by omega) (by omega), hg.2]; rfl
theorem m_pleader {h : HA} {b : Nat} {D : DT} {α : Nat → Nat} {lm : Nat → Nat → Nat} {im : Nat → Option (Nat × DT)} (hi : IV h b D α lm im) (x p v : Int32) : AC b D α lm im (X8_pleader h (b + 55) x p v) (qpleader D x p v) := by
  unfold X8_pleader qpleader
  rw [if_pos (ms_c (iv_ms hi)), ms_p (iv_ms hi), Option.bind_some]
  have hi0 := IV_m0 hi 0 0
  rcases hand_ok hi0 x with ⟨h1, h2⟩ | ⟨a, h1, ha, rfl, hr, e1, i1, t1⟩
  · rw [h2, h1, Option.bind_some]
    exact ⟨_, by simp only [if_true]; rfl, hi0⟩
  · have hw := (iv_w hi).2.2.1 a ha
    have h6 := hw.1.2.2.2.1.1
    rw [e1, hr, tn_nI (by have := (iv_w hi).2.1 0 (by omega); omega), Option.bind_some]
    refine ⟨h1, ?_, i1⟩
    simp only [if_neg (show ¬ (1 : Int32) = 0 by decide), isPleader_n t1.1, Option.bind_some, Bool.true_and]
    cases hj : rg p (cP (dC D a)) with
    | false => rfl
    | true =>
      obtain ⟨q, hq, rfl⟩ := (rg_iff (by omega)).mp hj
      have hp := (hw.2.2 q hq).1
      rw [if_neg (by decide), if_pos rfl, tn_nI (by omega)]
      unfold lett
      by_cases hv : v = 0
      · rw [if_pos hv, if_pos hv]
        dsimp only
        rw [show (34 : Int32) + 2 * nI q + 0 = nI (34 + 2 * q) by rw [show (34 : Int32) = nI 34 from rfl, show (2 : Int32) = nI 2 from rfl, nI_mul, nI_add, Int32.add_zero], of_n t1.1 (by omega), hp]; rfl
      · rw [if_neg hv, if_neg hv]
        dsimp only
        rw [show (34 : Int32) + 2 * nI q + 1 = nI (35 + 2 * q) by rw [show (34 : Int32) = nI 34 from rfl, show (2 : Int32) = nI 2 from rfl, nI_mul, nI_add, nI_p1]; congr 1; omega, of_n t1.1 (by omega)]; rfl
