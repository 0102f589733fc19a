theorem greater_n (a b : Int32) : X8_greater a b = some (if a < b then b else a) := by
  unfold X8_greater
  by_cases h1 : b < a
  · rw [if_pos h1, if_neg (fun h2 => by rw [Int32.lt_iff_toInt_lt] at h1 h2; omega)]
  · rw [if_neg h1]
    by_cases h2 : a < b
    · rw [if_pos h2]
    · rw [if_neg h2]
      congr 1
      apply Int32.toInt_inj.mp
      rw [Int32.lt_iff_toInt_lt] at h1 h2
      omega
/-- the first with the most -/
def am (p : Nat → Bool) (v : Nat → Nat) (b0 m0 : Int32) : Nat → Int32 × Int32
  | 0 => (b0, m0)
  | n + 1 => if (p n && decide ((am p v b0 m0 n).2 < nI (v n))) = true then (nI n, nI (v n)) else am p v b0 m0 n
theorem am_m (p : Nat → Bool) (v : Nat → Nat) (b0 m0 : Int32) (n : Nat) : (am p v b0 m0 n).2 = m0 ∨ ∃ q, q < n ∧ (am p v b0 m0 n).2 = nI (v q) := by
  induction n with
  | zero => exact Or.inl rfl
  | succ n ih =>
    rw [am]
    split
    · exact Or.inr ⟨n, by omega, rfl⟩
    · rcases ih with h | ⟨q, h1, h2⟩
      · exact Or.inl h
      · exact Or.inr ⟨q, by omega, h2⟩
theorem am_ge {p : Nat → Bool} {v : Nat → Nat} {b0 m0 : Int32} {n : Nat} (h0 : ¬ m0 < -1) (hv : ∀ q, q < n → v q < 2 ^ 31) : ¬ (am p v b0 m0 n).2 < -1 := by
  rcases am_m p v b0 m0 n with h | ⟨q, h1, h2⟩
  · rw [h]; exact h0
  · rw [h2]
    have := m1_lt (hv q h1)
    intro z
    rw [Int32.lt_iff_toInt_lt] at this z
    omega
theorem am_ext {p : Nat → Bool} {v : Nat → Nat} {b0 m0 : Int32} {n m : Nat} (hn : n ≤ m) (h : ∀ i, n ≤ i → i < m → p i = false) : am p v b0 m0 m = am p v b0 m0 n := by
  induction m with
  | zero => have : n = 0 := by omega
            subst this; rfl
  | succ m ih =>
    by_cases e : n = m + 1
    · rw [e]
    · rw [am, h m (by omega) (by omega), ← ih (by omega) (fun i h1 h2 => h i h1 (by omega))]; rfl
theorem am_cong {p q : Nat → Bool} {v w : Nat → Nat} {b0 m0 : Int32} {n : Nat} (h : ∀ i, i < n → p i = q i ∧ v i = w i) : am p v b0 m0 n = am q w b0 m0 n := by
  induction n with
  | zero => rfl
  | succ n ih => rw [am, am, ih (fun i hi => h i (by omega)), (h n (by omega)).1, (h n (by omega)).2]
theorem pc_le (a : Nat) : pc a ≤ 16 := cnt_le _ _
def ppl (C : CR) (t l : Nat) : Nat → Int32 × Int32 := am (fun f => op C f) (fun f => pc (ea C f t l)) (-1) (-1)
def qpulpit (D : DT) (x t l m : Int32) : Int32 := if (rg x (dN D 0) && (rg t 100 && rg l 10)) = true then (let s := ppl (dC D (tn x)) (tn t) (tn l) (cF (dC D (tn x))); if m = 0 then s.1 else s.2) else -1
theorem c_pulpit {h : HA} {b : Nat} {D : DT} {α : Nat → Nat} {lm : Nat → Nat → Nat} {im : Nat → Option (Nat × DT)} (hi : IV h b D α lm im) (x t l m : Int32) : AC b D α lm im (X7_pulpit h b x t l m) (qpulpit D x t l m) := by
  unfold X7_pulpit qpulpit
  rw [if_pos (fx_c hi.1)]
  rcases courtAt_ok hi x with ⟨h1, h2⟩ | ⟨a, h1, ha, rfl, hr, e1, i1, l1⟩
  · rw [h2, h1]; exact ⟨h, rfl, hi⟩
  · rw [e1, hr, tnD (iv_w hi) ha]
    have cc := l1.1
    have hw := cc.2.1.1
    have hF := cF_le hw
    refine ⟨h1, ?_, i1⟩
    simp only [Option.bind_some, Bool.true_and, isHour_c, isLoud_c]
    cases ht : rg t 100 with
    | false => rfl
    | true =>
      cases hl : rg l 10 with
      | false => rfl
      | true =>
        obtain ⟨r, hr2, rfl⟩ := (rg_iff (by omega)).mp ht
        obtain ⟨s, hs2, rfl⟩ := (rg_iff (by omega)).mp hl
        simp only [bi_t, if_false, Bool.and_self, if_true]
        rw [tn_nI (by omega), tn_nI (by omega)]
        have hl2 := loop_st (fun fu k (z : Int32 × Int32) => X7_pulpit_L37 h1 (nI r) (nI s) (α a) fu z.1 z.2 (nI k)) (fun k => ppl (dC D a) r s k) (some (ppl (dC D a) r s 64)) 64 (fun k fu hk => by
          try simp only []
          rw [X7_pulpit_L37, if_pos (show nI k < 64 from lt_lit (n := 64) hk (by omega)), isOpen_f cc, Option.bind_some, fo_n hw (by omega), nI_p1]
          have e2 : ppl (dC D a) r s (k + 1) = if (op (dC D a) k && decide ((ppl (dC D a) r s k).2 < nI (pc (ea (dC D a) k r s)))) = true then (nI k, nI (pc (ea (dC D a) k r s))) else ppl (dC D a) r s k := rfl
          cases ho : op (dC D a) k with
          | false => rw [if_pos (by decide), e2, ho]; rfl
          | true =>
            have h64 := ea_64 hw k r s
            rw [if_neg (by decide), earsAt_c l1 hk hs2, Option.bind_some, bitc_n _ (by omega), Option.bind_some, e2, ho]
            by_cases e3 : (ppl (dC D a) r s k).2 < nI (pc (ea (dC D a) k r s))
            · rw [if_pos e3, if_pos (by simp [e3])]
            · rw [if_neg e3, if_neg (by simp [e3])])
          (fun fu => by (try simp only []); rw [X7_pulpit_L37, if_neg (by decide)]) FU (FU_gt (by omega))
        rw [show X7_pulpit_L37 h1 (nI r) (nI s) (α a) FU (-1) (-1) 0 = _ from hl2, Option.bind_some]
        have e4 : ppl (dC D a) r s 64 = ppl (dC D a) r s (cF (dC D a)) := am_ext hF (fun i h1 _ => op_ge h1)
        rw [e4]
        by_cases hm : m = 0
        · rw [if_pos hm, if_pos hm]
        · rw [if_neg hm, if_neg hm]
theorem m_pulpit {h : HA} {b : Nat} {D : DT} {α : Nat → Nat} {lm : Nat → Nat → Nat} {im : Nat → Option (Nat × DT)} (hi : IV h b D α lm im) (x t l m : Int32) : AC b D α lm im (X8_pulpit h (b + 55) x t l m) (qpulpit D x t l m) := by
  unfold X8_pulpit qpulpit
  rw [if_pos (ms_c (iv_ms hi)), ms_p (iv_ms hi), Option.bind_some, isLoud_n, Option.bind_some]
  have hi0 := IV_m0 hi 0 0
  cases htl : rg t 100 && rg l 10 with
  | false => exact ⟨_, by simp only [bi_f, if_true, Bool.and_false]; rfl, hi0⟩
  | true =>
    simp only [bi_t, if_false, Bool.and_true]
    rw [Bool.and_eq_true] at htl
    obtain ⟨r, hr2, rfl⟩ := (rg_iff (by omega)).mp htl.1
    obtain ⟨s, hs2, rfl⟩ := (rg_iff (by omega)).mp htl.2
    rcases hand_ok hi0 x with ⟨h1, h2⟩ | ⟨a, h1, ha, rfl, hr, e1, i1, t1⟩
    · rw [h2, h1, Option.bind_some]
      exact ⟨_, by simp only [if_true]; rfl, hi0⟩
    · have hw := (iv_w hi).2.2.1 a ha
      have hF := cF_le hw.1
      rw [e1, hr, tnD (iv_w hi) ha, Option.bind_some]
      refine ⟨h1, ?_, i1⟩
      simp only [if_neg (show ¬ (1 : Int32) = 0 by decide), if_true]
      rw [tn_nI (by omega), tn_nI (by omega)]
      have hl2 := loop_st (fun fu k (z : Int32 × Int32) => X8_pulpit_L32 h1 (b + 55) (nI r) (nI s) fu z.1 z.2 (nI k)) (fun k => ppl (dC D a) r s k) (some (ppl (dC D a) r s (cF (dC D a)))) (cF (dC D a)) (fun k fu hk => by
        try simp only []
        have e2 : ppl (dC D a) r s (k + 1) = if (op (dC D a) k && decide ((ppl (dC D a) r s k).2 < nI (pc (ea (dC D a) k r s)))) = true then (nI k, nI (pc (ea (dC D a) k r s))) else ppl (dC D a) r s k := rfl
        rw [X8_pulpit_L32, ms_I t1.1.1, t1.1.2.2.2.2.2.2.1, Option.bind_some, if_pos (lt_lit hk (by omega)), isWall_n t1.1 (by omega), Option.bind_some, nI_p1]
        have ho : op (dC D a) k = !wl (dC D a) k := op_nw hk
        cases hwl : wl (dC D a) k with
        | false =>
          rw [hwl] at ho
          have h64 := ea_64 hw.1 k r s
          simp only [bi_f, if_true]
          rw [earsAt_n t1 hw.2.1 hk (by omega) (by omega), Option.bind_some, ones_n _ (by omega), Option.bind_some, Option.bind_some, greater_n]
          dsimp only [lett]
          rw [Option.bind_some, e2, ho]
          by_cases e3 : (ppl (dC D a) r s k).2 < nI (pc (ea (dC D a) k r s))
          · simp only [if_pos e3, e3, decide_true, Bool.not_false, Bool.true_and, if_true]
          · simp only [if_neg e3, e3, decide_false, Bool.not_false, Bool.and_false]; rfl
        | true =>
          rw [hwl] at ho
          simp only [bi_t, if_false]
          have e3 : ¬ (ppl (dC D a) r s k).2 < -1 := am_ge (by decide) (fun q _ => by have := pc_le (ea (dC D a) q r s); omega)
          rw [Option.bind_some, greater_n]
          dsimp only [lett]
          rw [Option.bind_some, e2, ho, if_neg e3, if_neg e3]; rfl)
        (fun fu => by (try simp only []); rw [X8_pulpit_L32, ms_I t1.1.1, t1.1.2.2.2.2.2.2.1, Option.bind_some, if_neg (nlt_lit (Nat.le_refl _) (by omega))]) FU (FU_gt (by omega))
      rw [show X8_pulpit_L32 h1 (b + 55) (nI r) (nI s) FU (-1) (-1) 0 = _ from hl2, Option.bind_some]
      by_cases hm : m = 0
      · simp only [if_pos hm]
      · simp only [if_neg hm]
/-! NEAR -/
def mnm (p : Nat → Bool) (v : Nat → Nat) : Nat → Nat
  | 0 => 1000
  | n + 1 => if (decide (v n < mnm p v n) && p n) = true then v n else mnm p v n
theorem mnm_spec (p : Nat → Bool) (v : Nat → Nat) (n : Nat) : mnm p v n ≤ 1000 ∧ (mnm p v n = 1000 ∨ ∃ k, k < n ∧ p k = true ∧ v k = mnm p v n) ∧ ∀ k, k < n → p k = true → mnm p v n ≤ v k := by
  induction n with
  | zero => exact ⟨Nat.le_refl _, Or.inl rfl, fun k hk => by omega⟩
  | succ n ih =>
    obtain ⟨i1, i2, i3⟩ := ih
    rw [mnm]
    by_cases h1 : v n < mnm p v n
    · cases h2 : p n with
      | true =>
        rw [if_pos (by simp [h1])]
        refine ⟨by omega, Or.inr ⟨n, by omega, h2, rfl⟩, fun k hk hp => ?_⟩
        by_cases e : k = n
        · subst e; exact Nat.le_refl _
        · have := i3 k (by omega) hp; omega
      | false =>
        rw [if_neg (by simp)]
        refine ⟨i1, ?_, fun k hk hp => ?_⟩
        · rcases i2 with h | ⟨k, h3, h4⟩
          · exact Or.inl h
          · exact Or.inr ⟨k, by omega, h4⟩
        · by_cases e : k = n
          · subst e; rw [h2] at hp; simp at hp
          · exact i3 k (by omega) hp
    · rw [if_neg (by simp [h1])]
      refine ⟨i1, ?_, fun k hk hp => ?_⟩
      · rcases i2 with h | ⟨k, h3, h4⟩
        · exact Or.inl h
        · exact Or.inr ⟨k, by omega, h4⟩
      · by_cases e : k = n
        · subst e; omega
        · exact i3 k (by omega) hp
theorem hj_op {C : CR} {j t l f : Nat} (h : hj C j t l f = true) : op C f = true := by
  unfold hj hr at h
  rw [Bool.and_eq_true] at h; exact h.1
theorem mnm_stq {C : CR} (hw : WFs C) {s : Nat} {G : Nat → Bool} (hG : ∀ f, f < 64 → G f = true → f < cF C) : mnm G (fun f => ds C s f) (cF C) = stq C s G := by
  have hF := cF_le hw
  obtain ⟨i1, i2, i3⟩ := mnm_spec G (fun f => ds C s f) (cF C)
  generalize mnm G (fun f => ds C s f) (cF C) = L at *
  unfold stq
  have hst : ∀ k, k < cF C → G k = true → ∀ d, d < 64 → ds C s k = d → stg C s G d = true := by
    intro k h1 h2 d hd h3
    rw [stg_iff]
    exact ⟨k, by omega, (ds_le hd).mp (by omega), h2⟩
  rcases fst1_spec (stg C s G) 64 0 with ⟨i, h1, h2, h3, h4, h5⟩ | ⟨h1, h2⟩
  · rw [h5]
    obtain ⟨f, f1, f2, f3⟩ := stg_iff.mp h3
    have h6 := i3 f (hG f f1 f3) f3
    have h7 : ds C s f ≤ i := (ds_le (by omega)).mpr f2
    rcases i2 with h8 | ⟨k, k1, k2, k3⟩
    · omega
    · rcases Nat.lt_or_ge L i with h9 | h9
      · have h10 := hst k k1 k2 L (by omega) k3
        rw [h4 L (by omega) h9] at h10; simp at h10
      · omega
  · rw [h2]
    rcases i2 with h8 | ⟨k, k1, k2, k3⟩
    · exact h8
    · rcases ds_cases C s k with ⟨h9, _⟩ | ⟨h9, _⟩
      · have h10 := hst k k1 k2 _ h9 rfl
        rw [h1 _ (by omega) (by omega)] at h10; simp at h10
      · omega
theorem stg_cong {C : CR} {s d : Nat} {G H : Nat → Bool} (h : ∀ f, f < 64 → G f = H f) : stg C s G d = stg C s H d := by
  rw [Bool.eq_iff_iff, stg_iff, stg_iff]
  constructor
  · rintro ⟨f, h1, h2, h3⟩; exact ⟨f, h1, h2, by rw [← h f h1]; exact h3⟩
  · rintro ⟨f, h1, h2, h3⟩; exact ⟨f, h1, h2, by rw [h f h1]; exact h3⟩
theorem stq_cong {C : CR} {s : Nat} {G H : Nat → Bool} (h : ∀ f, f < 64 → G f = H f) : stq C s G = stq C s H := by
  unfold stq; congr 1; funext d; exact stg_cong h
def qnear (D : DT) (x j p l : Int32) : Int32 := if (rg x (dN D 0) && (rg j (cJ (dC D (tn x))) && (rg p (cP (dC D (tn x))) && rg l 10))) = true then
  (let C := dC D (tn x); onk (stq C (ps C (tn p)) (hj C (tn j) 0 (tn l)))) else -1
theorem c_near {h : HA} {b : Nat} {D : DT} {α : Nat → Nat} {lm : Nat → Nat → Nat} {im : Nat → Option (Nat × DT)} (hi : IV h b D α lm im) (x j p l : Int32) : AC b D α lm im (X7_near h b x j p l) (qnear D x j p l) := by
  unfold X7_near qnear
  rw [if_pos (fx_c hi.1)]
  rcases courtAt_ok hi x with ⟨h1, h2⟩ | ⟨a, h1, ha, rfl, hr, e1, i1, l1⟩
  · rw [h2, h1]; exact ⟨h, rfl, hi⟩
  · rw [e1, hr, tnD (iv_w hi) ha]
    have cc := l1.1
    have hw := cc.2.1.1
    have hF := cF_le hw
    have h6 := hw.2.2.1.1
    have h6p := hw.2.2.2.1.1
    refine ⟨h1, ?_, i1⟩
    simp only [Option.bind_some, Bool.true_and, hasJudge_c cc, hasPleader_c cc, isLoud_c]
    cases hj1 : rg j (cJ (dC D a)) with
    | false => rfl
    | true =>
      cases hp1 : rg p (cP (dC D a)) with
      | false => rfl
      | true =>
        cases hl : rg l 10 with
        | false => rfl
        | true =>
          obtain ⟨q, hq, rfl⟩ := (rg_iff (by omega)).mp hj1
          obtain ⟨r, hr2, rfl⟩ := (rg_iff (by omega)).mp hp1
          obtain ⟨s, hs2, rfl⟩ := (rg_iff (by omega)).mp hl
          simp only [bi_t, if_false, Bool.and_self, if_true]
          have hg := cc.2.2.2.2.2.2.2.2.2.2.2 r hr2
          have hp := cc.2.1.2.2 r hr2
          obtain ⟨X, hX, hXb⟩ := aud (hour := 0) l1 hq hs2
          rw [cs_r9 cc.1, Option.bind_some, ldI_n (cs_k9 cc.1) (by omega) (by omega), hg.1, hp.1, Option.bind_some, show X0_audible h1 (α a) (nI q) 0 (nI s) = _ from hX, Option.bind_some, steps_c cc hp.2.1, Option.bind_some, tn_nI (by omega), tn_nI (by omega), tn_nI (by omega), stq_cong hXb]
theorem m_near {h : HA} {b : Nat} {D : DT} {α : Nat → Nat} {lm : Nat → Nat → Nat} {im : Nat → Option (Nat × DT)} (hi : IV h b D α lm im) (x j p l : Int32) : AC b D α lm im (X8_near h (b + 55) x j p l) (qnear D x j p l) := by
  unfold X8_near qnear
  rw [if_pos (ms_c (iv_ms hi)), ms_p (iv_ms hi), Option.bind_some, in9, Option.bind_some]
  have hi0 := IV_m0 hi 0 0
  cases hl : rg l 10 with
  | false => exact ⟨_, by simp only [bi_f, if_true, Bool.and_false]; rfl, hi0⟩
  | true =>
    simp only [bi_t, if_false, Bool.and_true]
    obtain ⟨s, hs2, rfl⟩ := (rg_iff (by omega)).mp hl
    rcases hand_ok hi0 x with ⟨h1, h2⟩ | ⟨a, h1, ha, rfl, hr, e1, i1, t1⟩
    · rw [h2, h1, Option.bind_some]
      exact ⟨_, by simp only [if_true]; rfl, hi0⟩
    · have hw := (iv_w hi).2.2.1 a ha
      have hF := cF_le hw.1
      have h6 := hw.1.2.2.1.1
      have h6p := hw.1.2.2.2.1.1
      rw [e1, hr, tnD (iv_w hi) ha, Option.bind_some]
      refine ⟨h1, ?_, i1⟩
      simp only [if_neg (show ¬ (1 : Int32) = 0 by decide), isJudge_n t1.1, isPleader_n t1.1, Option.bind_some, Bool.true_and]
      cases hj1 : rg j (cJ (dC D a)) with
      | false => rfl
      | true =>
        cases hp1 : rg p (cP (dC D a)) with
        | false => rfl
        | true =>
          obtain ⟨q, hq, rfl⟩ := (rg_iff (by omega)).mp hj1
          obtain ⟨r, hr2, rfl⟩ := (rg_iff (by omega)).mp hp1
          simp only [bi_t, if_false, Bool.and_self, if_true]
          have hp := hw.2.2 r hr2
          have hpl := op_lt hp.2.1
          rw [show (34 : Int32) + 2 * nI r = nI (34 + 2 * r) by rw [show (34 : Int32) = nI 34 from rfl, show (2 : Int32) = nI 2 from rfl, nI_mul, nI_add], of_n t1.1 (by omega), Option.bind_some, hp.1, tn_nI (by omega), tn_nI (by omega), tn_nI (by omega)]
          have hmv : ∀ k, k < cF (dC D a) → md (dC D a) (ps (dC D a) r) k = ds (dC D a) (ps (dC D a) r) k := fun k _ => by unfold md; rw [if_pos hp.2.1]
          have hl2 := loop_st (fun fu k (z : Int32) => X8_near_L62 h1 (b + 55) (nI q) (nI s) (nI (ps (dC D a) r)) fu z (nI k)) (fun k => nI (mnm (hj (dC D a) q 0 s) (fun f => ds (dC D a) (ps (dC D a) r) f) k)) (some (nI (stq (dC D a) (ps (dC D a) r) (hj (dC D a) q 0 s)))) (cF (dC D a)) (fun k fu hk => by
            try simp only []
            have hm1 := (mnm_spec (hj (dC D a) q 0 s) (fun f => ds (dC D a) (ps (dC D a) r) f) k).1
            have hm2 := ds_le1000 (dC D a) (ps (dC D a) r) k
            rw [X8_near_L62, ms_I t1.1.1, t1.1.2.2.2.2.2.2.1, Option.bind_some, if_pos (lt_lit hk (by omega)), farOf_n t1 hpl hk, Option.bind_some, hmv k hk, nI_p1, mnm]
            by_cases e2 : ds (dC D a) (ps (dC D a) r) k < mnm (hj (dC D a) q 0 s) (fun f => ds (dC D a) (ps (dC D a) r) f) k
            · rw [if_pos (lt_lit e2 (by omega)), show X8_hears h1 (b + 55) (nI q) (nI k) 0 (nI s) = _ from hears_n (hour := 0) t1 hw.2.1 hq hk (by omega) (by omega), Option.bind_some]
              cases hj (dC D a) q 0 s k
              · rw [if_pos (by decide), if_neg (by simp)]
              · rw [if_neg (by decide), Option.bind_some, if_pos (by simp [e2])]
            · rw [if_neg (nlt_lit (by omega) (by omega)), if_neg (by simp [e2])])
            (fun fu => by
              try simp only []
              rw [X8_near_L62, ms_I t1.1.1, t1.1.2.2.2.2.2.2.1, Option.bind_some, if_neg (nlt_lit (Nat.le_refl _) (by omega)), mnm_stq hw.1 (fun f _ h => op_lt (hj_op h))]) FU (FU_gt (by omega))
          rw [show X8_near_L62 h1 (b + 55) (nI q) (nI s) (nI (ps (dC D a) r)) FU 1000 0 = _ from hl2, Option.bind_some]
          have h64 : stq (dC D a) (ps (dC D a) r) (hj (dC D a) q 0 s) ≤ 1000 := by
            rw [← mnm_stq hw.1 (fun f _ h => op_lt (hj_op h))]; exact (mnm_spec _ _ _).1
          unfold onk
          by_cases e3 : stq (dC D a) (ps (dC D a) r) (hj (dC D a) q 0 s) = 1000
          · rw [if_pos (by rw [e3]; rfl), if_pos e3]
          · rw [if_neg (show ¬ nI _ = 1000 from fun z => e3 (nI_inj (b := 1000) (by omega) (by omega) z)), if_neg e3]
