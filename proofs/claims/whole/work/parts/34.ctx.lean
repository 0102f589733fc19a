theorem fx_x {h : HA} {b : Nat} (hf : FX h b) : kd h b = (8, 0) := hf.1 (0, (8, 0)) (by decide)
theorem fx_told {h : HA} {b : Nat} (hf : FX h b) : gR h b 8 0 = some (b + 1) := by rw [gR_n (fx_x hf)]; exact hf.2.1 (0, 0, 1) (by decide)
theorem fx_cnt {h : HA} {b : Nat} (hf : FX h b) : gR h (b + 1) 6 4 = some (b + 3) := by rw [gR_n hf.2.2.1.1]; exact hf.2.2.1.2.2.1.1
theorem fx_crt {h : HA} {b : Nat} (hf : FX h b) : gR h (b + 1) 6 5 = some (b + 4) := by rw [gR_n hf.2.2.1.1]; exact hf.2.2.1.2.2.2.1.1
theorem fx_lst {h : HA} {b : Nat} (hf : FX h b) : gR h (b + 1) 6 6 = some (b + 5) := by rw [gR_n hf.2.2.1.1]; exact hf.2.2.1.2.2.2.2.1
theorem fx_hall {h : HA} {b : Nat} (hf : FX h b) : gR h b 8 3 = some (b + 46) := by rw [gR_n (fx_x hf)]; exact hf.2.1 (0, 3, 46) (by decide)
theorem fx_kcnt {h : HA} {b : Nat} (hf : FX h b) : kd h (b + 3) = (20, 4) := hf.2.2.1.2.2.1.2
theorem fx_kcrt {h : HA} {b : Nat} (hf : FX h b) : kd h (b + 4) = (25, 2) := hf.2.2.1.2.2.2.1.2
theorem fx_klst {h : HA} {b : Nat} (hf : FX h b) : kd h (b + 5) = (26, 8) := hf.2.2.1.2.2.2.2.2
theorem iv_n {h : HA} {b : Nat} {D : DT} {α : Nat → Nat} {lm : Nat → Nat → Nat} {im : Nat → Option (Nat × DT)} (hi : IV h b D α lm im) {s : Nat} (hs : s < 4) : gi h (b + 3) s = nI (dN D s) := hi.2.2.2.2.2.1.2.2.2.2.1 s hs
theorem iv_c {h : HA} {b : Nat} {D : DT} {α : Nat → Nat} {lm : Nat → Nat → Nat} {im : Nat → Option (Nat × DT)} (hi : IV h b D α lm im) {j : Nat} (hj : j < 2) : ga h (b + 4) j = some (α j) := hi.2.2.2.2.2.1.2.2.2.2.2.1 j hj
theorem iv_l {h : HA} {b : Nat} {D : DT} {α : Nat → Nat} {lm : Nat → Nat → Nat} {im : Nat → Option (Nat × DT)} (hi : IV h b D α lm im) {s j : Nat} (h1 : 1 ≤ s) (h2 : s < 4) (hj : j < 2) : ga h (b + 5) (2 * s + j) = some (lm s j) := hi.2.2.2.2.2.1.2.2.2.2.2.2.1 s j h1 h2 hj
theorem iv_w {h : HA} {b : Nat} {D : DT} {α : Nat → Nat} {lm : Nat → Nat → Nat} {im : Nat → Option (Nat × DT)} (hi : IV h b D α lm im) : WD D := hi.2.2.2.2.2.2.2.2.2.1
theorem iv_q {h : HA} {b : Nat} {D : DT} {α : Nat → Nat} {lm : Nat → Nat → Nat} {im : Nat → Option (Nat × DT)} (hi : IV h b D α lm im) {j : Nat} (hj : j < dN D 0) : CQ h (α j) (dC D j) := hi.2.2.2.2.2.1.2.2.2.2.2.2.2.1 j hj
theorem iv_ll {h : HA} {b : Nat} {D : DT} {α : Nat → Nat} {lm : Nat → Nat → Nat} {im : Nat → Option (Nat × DT)} (hi : IV h b D α lm im) {s j : Nat} (h1 : 1 ≤ s) (h2 : s < 4) (hj : j < dN D s) : LL h (lm s j) s (dR D s j) := hi.2.2.2.2.2.1.2.2.2.2.2.2.2.2 s j h1 h2 hj
theorem iv_m {h : HA} {b : Nat} {D : DT} {α : Nat → Nat} {lm : Nat → Nat → Nat} {im : Nat → Option (Nat × DT)} (hi : IV h b D α lm im) : MD h (b + 55) 0 D := hi.2.2.2.2.2.2.2.2.1
theorem iv_ms {h : HA} {b : Nat} {D : DT} {α : Nat → Nat} {lm : Nat → Nat → Nat} {im : Nat → Option (Nat × DT)} (hi : IV h b D α lm im) : MS h (b + 55) := hi.1.2.2.2.1
theorem neg_rg {x : Int32} (h1 : x < 0) (n : Nat) : rg x n = false := by
  rw [Int32.lt_iff_toInt_lt] at h1
  have e0 : (0 : Int32).toInt = 0 := by decide
  unfold rg; simp; omega
/-- the COURT a call speaks of, laid -/
theorem courtAt_ok {h : HA} {b : Nat} {D : DT} {α : Nat → Nat} {lm : Nat → Nat → Nat} {im : Nat → Option (Nat × DT)} (hi : IV h b D α lm im) (x : Int32) :
    (rg x (dN D 0) = false ∧ X7_courtAt h b x = some (none, h)) ∨ (∃ a h1, a < dN D 0 ∧ x = nI a ∧ rg x (dN D 0) = true ∧ X7_courtAt h b x = some (some (α a), h1) ∧ IV h1 b D α lm im ∧ CL h1 (α a) (dC D a)) := by
  have hf := hi.1
  have hn := (iv_w hi).2.1 0 (by omega)
  unfold X7_courtAt
  rw [if_pos (by rw [fx_x hf])]
  rcases i_nat x with h1 | ⟨a, ha, rfl⟩
  · left
    rw [if_pos h1]
    exact ⟨neg_rg h1 _, rfl⟩
  · rw [if_neg (nI_lt0 ha), fx_told hf, Option.bind_some, fx_cnt hf, Option.bind_some, show (0 : Int32) = nI 0 from rfl, ldI_n (fx_kcnt hf) (by omega) (by omega), Option.bind_some, iv_n hi (by omega), rg_n ha]
    by_cases h2 : a < dN D 0
    · right
      rw [if_pos (lt_lit h2 (by omega)), Option.bind_some, fx_crt hf, Option.bind_some, ldR_n (fx_kcrt hf) (by omega) (by omega), iv_c hi (by omega), Option.bind_some]
      obtain ⟨h3, e3, c3, l3, n3⟩ := lay_ok (iv_q hi h2)
      have hi3 : IV h3 b D α lm im := by
        refine IV_fr (fun j => j = a) hi (c3.fr.mo fun c k _ w => ?_) (FX_ch hf c3) (fun j hj e => ?_) (fun j hj e => ?_) (fun w _ hs => WS_ch hs c3)
        · unfold Wla at w
          exact Or.inr (Or.inr (Or.inl ⟨a, by omega, rfl, by omega, by omega⟩))
        · subst e; exact l3.1.1
        · subst e; exact ⟨l3.1, Or.inr l3.2⟩
      refine ⟨a, h3, h2, rfl, by simpa using h2, ?_, hi3, l3⟩
      rw [e3, Option.bind_some, fx_told hi3.1, Option.bind_some, fx_crt hi3.1, Option.bind_some, ldR_n (fx_kcrt hi3.1) (by omega) (by omega), iv_c hi3 (by omega), Option.bind_some]
    · left
      rw [if_neg (nlt_lit (by omega) ha)]
      exact ⟨by simpa using h2, rfl⟩
/-- the list a call speaks of -/
theorem listAt_ok {h : HA} {b : Nat} {D : DT} {α : Nat → Nat} {lm : Nat → Nat → Nat} {im : Nat → Option (Nat × DT)} (hi : IV h b D α lm im) {s : Nat} (h1s : 1 ≤ s) (h4s : s < 4) (x : Int32) :
    (rg x (dN D s) = false ∧ X7_listAt h b (nI s) x = some none) ∨ (∃ a, a < dN D s ∧ x = nI a ∧ rg x (dN D s) = true ∧ X7_listAt h b (nI s) x = some (some (lm s a))) := by
  have hf := hi.1
  have hn := (iv_w hi).2.1 s h4s
  unfold X7_listAt
  rw [if_pos (by rw [fx_x hf])]
  rcases i_nat x with h1 | ⟨a, ha, rfl⟩
  · left
    rw [if_pos h1]
    exact ⟨neg_rg h1 _, rfl⟩
  · rw [if_neg (nI_lt0 ha), fx_told hf, Option.bind_some, fx_cnt hf, Option.bind_some, ldI_n (fx_kcnt hf) (by omega) (by omega), Option.bind_some, iv_n hi (by omega), rg_n ha]
    by_cases h2 : a < dN D s
    · right
      refine ⟨a, h2, rfl, by simpa using h2, ?_⟩
      rw [if_pos (lt_lit h2 (by omega))]
      simp only [Option.bind_some]
      rw [if_neg (by decide), fx_lst hf, Option.bind_some]
      unfold X5_slotOf
      rw [show (nI s * 2 + nI a) = nI (2 * s + a) by rw [show (2 : Int32) = nI 2 from rfl, nI_mul, nI_add, Nat.mul_comm], Option.bind_some, ldR_n (fx_klst hf) (by omega) (by omega), iv_l hi h1s h4s (by omega), Option.bind_some]
    · left
      rw [if_neg (nlt_lit (by omega) ha)]
      exact ⟨by simpa using h2, rfl⟩
/-! the model's side -/
theorem is_ok {h : HA} {b : Nat} {D : DT} {α : Nat → Nat} {lm : Nat → Nat → Nat} {im : Nat → Option (Nat × DT)} (hi : IV h b D α lm im) {s : Nat} (hs : s < 4) (x : Int32) : X8_is h (b + 55) (nI s) x = some (bI (rg x (dN D s))) := by
  have hn := (iv_w hi).2.1 s hs
  unfold X8_is
  have := (iv_m hi).2.2.2.2.1 s hs
  rw [show 4 * 0 + s = s by omega] at this
  rw [if_pos (ms_c (iv_ms hi)), ms_r5 (iv_ms hi), Option.bind_some, ldI_n (ms_k5 (iv_ms hi)) (by omega) (by omega), this, Option.bind_some, in_rg x (by omega), Option.bind_some, bz_b, Option.bind_some]
theorem Sc_m {h : HA} {b : Nat} {α : Nat → Nat} {X : Nat → Prop} {a : Nat} (h1 : a = b + 55 ∨ (b + 65 ≤ a ∧ a ≤ b + 84)) : Sc h b α X a := by
  unfold Sc
  rcases h1 with h1 | h1
  · left; omega
  · right; left; exact h1
theorem IV_m0 {h : HA} {b : Nat} {D : DT} {α : Nat → Nat} {lm : Nat → Nat → Nat} {im : Nat → Option (Nat × DT)} (hi : IV h b D α lm im) (k : Nat) (v : Int32) : IV (si h (b + 55) k v) b D α lm im :=
  IV_ch hi (W := fun a _ => a = b + 55) (ch_si rfl) (fun a k w => Sc_m (Or.inl w))
/-- the COURT in the model's hand -/
theorem hand_ok {h : HA} {b : Nat} {D : DT} {α : Nat → Nat} {lm : Nat → Nat → Nat} {im : Nat → Option (Nat × DT)} (hi : IV h b D α lm im) (x : Int32) :
    (rg x (dN D 0) = false ∧ X8_hand h (b + 55) x = some (0, h)) ∨ (∃ a h1, a < dN D 0 ∧ x = nI a ∧ rg x (dN D 0) = true ∧ X8_hand h (b + 55) x = some (1, h1) ∧ IV h1 b D α lm im ∧ HT h1 (b + 55) a (dC D a)) := by
  have hn := (iv_w hi).2.1 0 (by omega)
  have hm := iv_ms hi
  unfold X8_hand
  rw [if_pos (ms_c hm), show X8_is h (b + 55) 0 x = _ from is_ok hi (s := 0) (by omega) x, Option.bind_some]
  cases hr : rg x (dN D 0) with
  | false => left; rw [if_pos (by decide)]; exact ⟨rfl, rfl⟩
  | true =>
    right
    obtain ⟨a, ha, rfl⟩ := (rg_iff (by omega)).mp hr
    rw [if_neg (by decide)]
    have hC : ∀ k, k < 106 → gi h (b + 55 + 6) (106 * a + k) = dC D a k := fun k hk => by
      have := (iv_m hi).2.2.2.2.2.1 a k ha hk
      rw [← this]; congr 1; omega
    have hw := ((iv_w hi).2.2.1 a ha)
    obtain ⟨C, hCe⟩ : ∃ C, C = dC D a := ⟨_, rfl⟩
    rw [← hCe] at hC hw
    have hws := hw.1
    have ofk : ∀ (h0 : HA), MS h0 (b + 55) → gi h0 (b + 55) 24 = nI a → (∀ k, gi h0 (b + 55 + 6) k = gi h (b + 55 + 6) k) → ∀ k, k < 106 → X8_of h0 (b + 55) (nI k) = some (C k) := by
      intro h0 m0 g0 g1 k hk
      unfold X8_of
      rw [if_pos (ms_c m0), ms_r6 m0, ms_I m0, g0]
      simp only [Option.bind_some]
      rw [show (106 : Int32) = nI 106 from rfl, nI_mul, nI_add, ldI_n (ms_k6 m0) (by omega) (by omega), g1, hC k hk]
      rfl
    have stp : ∀ (h0 : HA) (k : Nat) (v : Int32), MS h0 (b + 55) → MS (si h0 (b + 55) k v) (b + 55) := fun h0 k v m0 => (ch_si (W := fun _ _ => True) trivial).ms m0
    have g6 : ∀ (h0 : HA) (k : Nat) (v : Int32), (∀ j, gi h0 (b + 55 + 6) j = gi h (b + 55 + 6) j) → ∀ j, gi (si h0 (b + 55) k v) (b + 55 + 6) j = gi h (b + 55 + 6) j := fun h0 k v g j => by rw [gi_si, if_neg (by omega)]; exact g j
    rw [ms_p hm, Option.bind_some]
    have m1 := stp h 24 (nI a) hm
    have q1 := g6 h 24 (nI a) (fun _ => rfl)
    have v1 : gi (si h (b + 55) 24 (nI a)) (b + 55) 24 = nI a := by rw [gi_si, if_pos ⟨rfl, rfl⟩]
    have hi1 := IV_m0 hi 24 (nI a)
    generalize si h (b + 55) 24 (nI a) = h1 at *
    rw [show X8_of h1 (b + 55) 0 = _ from ofk h1 m1 v1 q1 0 (by omega), Option.bind_some, ms_p m1, Option.bind_some, hws.1.2.2]
    have m2 := stp h1 25 (nI (cW C)) m1
    have q2 := g6 h1 25 (nI (cW C)) q1
    have v2 : gi (si h1 (b + 55) 25 (nI (cW C))) (b + 55) 24 = nI a := by rw [gi_si, if_neg (by omega)]; exact v1
    have w2 : gi (si h1 (b + 55) 25 (nI (cW C))) (b + 55) 25 = nI (cW C) := by rw [gi_si, if_pos ⟨rfl, rfl⟩]
    have hi2 := IV_m0 hi1 25 (nI (cW C))
    generalize si h1 (b + 55) 25 (nI (cW C)) = h2 at *
    rw [show X8_of h2 (b + 55) 1 = _ from ofk h2 m2 v2 q2 1 (by omega), Option.bind_some, ms_p m2, Option.bind_some, hws.2.1.2.2]
    have m3 := stp h2 26 (nI (cH C)) m2
    have q3 := g6 h2 26 (nI (cH C)) q2
    have v3 : gi (si h2 (b + 55) 26 (nI (cH C))) (b + 55) 24 = nI a := by rw [gi_si, if_neg (by omega)]; exact v2
    have w3 : gi (si h2 (b + 55) 26 (nI (cH C))) (b + 55) 25 = nI (cW C) := by rw [gi_si, if_neg (by omega)]; exact w2
    have y3 : gi (si h2 (b + 55) 26 (nI (cH C))) (b + 55) 26 = nI (cH C) := by rw [gi_si, if_pos ⟨rfl, rfl⟩]
    have hi3 := IV_m0 hi2 26 (nI (cH C))
    generalize si h2 (b + 55) 26 (nI (cH C)) = h3 at *
    rw [ms_I m3, Option.bind_some, ms_I m3, Option.bind_some, ms_p m3, Option.bind_some, w3, y3, nI_mul, show cW C * cH C = cF C from rfl]
    have m4 := stp h3 27 (nI (cF C)) m3
    have q4 := g6 h3 27 (nI (cF C)) q3
    have v4 : gi (si h3 (b + 55) 27 (nI (cF C))) (b + 55) 24 = nI a := by rw [gi_si, if_neg (by omega)]; exact v3
    have w4 : gi (si h3 (b + 55) 27 (nI (cF C))) (b + 55) 25 = nI (cW C) := by rw [gi_si, if_neg (by omega)]; exact w3
    have y4 : gi (si h3 (b + 55) 27 (nI (cF C))) (b + 55) 26 = nI (cH C) := by rw [gi_si, if_neg (by omega)]; exact y3
    have z4 : gi (si h3 (b + 55) 27 (nI (cF C))) (b + 55) 27 = nI (cF C) := by rw [gi_si, if_pos ⟨rfl, rfl⟩]
    have hi4 := IV_m0 hi3 27 (nI (cF C))
    generalize si h3 (b + 55) 27 (nI (cF C)) = h4 at *
    rw [show X8_of h4 (b + 55) 2 = _ from ofk h4 m4 v4 q4 2 (by omega), Option.bind_some, ms_p m4, Option.bind_some, hws.2.2.1.2]
    have m5 := stp h4 28 (nI (cJ C)) m4
    have q5 := g6 h4 28 (nI (cJ C)) q4
    have v5 : gi (si h4 (b + 55) 28 (nI (cJ C))) (b + 55) 24 = nI a := by rw [gi_si, if_neg (by omega)]; exact v4
    have w5 : gi (si h4 (b + 55) 28 (nI (cJ C))) (b + 55) 25 = nI (cW C) := by rw [gi_si, if_neg (by omega)]; exact w4
    have y5 : gi (si h4 (b + 55) 28 (nI (cJ C))) (b + 55) 26 = nI (cH C) := by rw [gi_si, if_neg (by omega)]; exact y4
    have z5 : gi (si h4 (b + 55) 28 (nI (cJ C))) (b + 55) 27 = nI (cF C) := by rw [gi_si, if_neg (by omega)]; exact z4
    have u5 : gi (si h4 (b + 55) 28 (nI (cJ C))) (b + 55) 28 = nI (cJ C) := by rw [gi_si, if_pos ⟨rfl, rfl⟩]
    have hi5 := IV_m0 hi4 28 (nI (cJ C))
    generalize si h4 (b + 55) 28 (nI (cJ C)) = h5 at *
    rw [show X8_of h5 (b + 55) 3 = _ from ofk h5 m5 v5 q5 3 (by omega), Option.bind_some, ms_p m5, Option.bind_some, hws.2.2.2.1.2]
    have m6 := stp h5 29 (nI (cP C)) m5
    have q6 := g6 h5 29 (nI (cP C)) q5
    have hs6 : HS (si h5 (b + 55) 29 (nI (cP C))) (b + 55) a C := by
      refine ⟨m6, hws, by omega, ?_, ?_, ?_, ?_, ?_, ?_, fun k hk => ?_⟩
      · rw [gi_si, if_neg (by omega)]; exact v5
      · rw [gi_si, if_neg (by omega)]; exact w5
      · rw [gi_si, if_neg (by omega)]; exact y5
      · rw [gi_si, if_neg (by omega)]; exact z5
      · rw [gi_si, if_neg (by omega)]; exact u5
      · rw [gi_si, if_pos ⟨rfl, rfl⟩]
      · rw [q6]; exact hC k hk
    have hi6 := IV_m0 hi5 29 (nI (cP C))
    generalize si h5 (b + 55) 29 (nI (cP C)) = h6 at *
    obtain ⟨h7, e7, c7, t7⟩ := hand67 hs6
    refine ⟨a, h7, ha, rfl, rfl, ?_, IV_ch hi6 c7 (fun c k w => Sc_m (by unfold Whd at w; omega)), hCe ▸ t7⟩
    rw [show X8_hand_L67 (b + 55) FU h6 0 = _ from e7]; rfl
