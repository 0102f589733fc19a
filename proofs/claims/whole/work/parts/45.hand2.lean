theorem hand_ok2 {h : HA} {b : Nat} {D : DT} {α : Nat → Nat} {lm : Nat → Nat → Nat} {im : Nat → Option (Nat × DT)} (hi : IV h b D α lm im) (x : Int32) :
    (rg x (dN D 0) = false ∧ X8_hand h (b + 55) x = some (0, h)) ∨ (∃ a h1, a < dN D 0 ∧ x = nI a ∧ rg x (dN D 0) = true ∧ X8_hand h (b + 55) x = some (1, h1) ∧ IV h1 b D α lm im ∧ HT h1 (b + 55) a (dC D a) ∧ ∀ k, 30 ≤ k → gi h1 (b + 55) k = gi h (b + 55) k) := by
  have hn := (iv_w hi).2.1 0 (by omega)
  have hm := iv_ms hi
  unfold X8_hand
  rw [if_pos (ms_c hm), show X8_is h (b + 55) 0 x = _ from is_ok hi (s := 0) (by omega) x, Option.bind_some]
  cases hr : rg x (dN D 0) with
  | false => left; rw [if_pos (by decide)]; exact ⟨rfl, rfl⟩
  | true =>
    right
    obtain ⟨a, ha, rfl⟩ := (rg_iff (by omega)).mp hr
    rw [if_neg (by decide)]
    have hC : ∀ k, k < 106 → gi h (b + 55 + 6) (106 * a + k) = dC D a k := fun k hk => by
      have := (iv_m hi).2.2.2.2.2.1 a k ha hk
      rw [← this]; congr 1; omega
    have hw := ((iv_w hi).2.2.1 a ha)
    obtain ⟨C, hCe⟩ : ∃ C, C = dC D a := ⟨_, rfl⟩
    rw [← hCe] at hC hw
    have hws := hw.1
    have ofk : ∀ (h0 : HA), MS h0 (b + 55) → gi h0 (b + 55) 24 = nI a → (∀ k, gi h0 (b + 55 + 6) k = gi h (b + 55 + 6) k) → ∀ k, k < 106 → X8_of h0 (b + 55) (nI k) = some (C k) := by
      intro h0 m0 g0 g1 k hk
      unfold X8_of
      rw [if_pos (ms_c m0), ms_r6 m0, ms_I m0, g0]
      simp only [Option.bind_some]
      rw [show (106 : Int32) = nI 106 from rfl, nI_mul, nI_add, ldI_n (ms_k6 m0) (by omega) (by omega), g1, hC k hk]
      rfl
    have stp : ∀ (h0 : HA) (k : Nat) (v : Int32), MS h0 (b + 55) → MS (si h0 (b + 55) k v) (b + 55) := fun h0 k v m0 => (ch_si (W := fun _ _ => True) trivial).ms m0
    have g6 : ∀ (h0 : HA) (k : Nat) (v : Int32), (∀ j, gi h0 (b + 55 + 6) j = gi h (b + 55 + 6) j) → ∀ j, gi (si h0 (b + 55) k v) (b + 55 + 6) j = gi h (b + 55 + 6) j := fun h0 k v g j => by rw [gi_si, if_neg (by omega)]; exact g j
    have f0 : ∀ k, 30 ≤ k → gi h (b + 55) k = gi h (b + 55) k := fun k _ => rfl
    rw [ms_p hm, Option.bind_some]
    have m1 := stp h 24 (nI a) hm
    have q1 := g6 h 24 (nI a) (fun _ => rfl)
    have v1 : gi (si h (b + 55) 24 (nI a)) (b + 55) 24 = nI a := by rw [gi_si, if_pos ⟨rfl, rfl⟩]
    have hi1 := IV_m0 hi 24 (nI a)
    have f1 : ∀ k, 30 ≤ k → gi (si h (b + 55) 24 (nI a)) (b + 55) k = gi h (b + 55) k := fun k hk => by rw [gi_si, if_neg (by omega)]
    generalize si h (b + 55) 24 (nI a) = h1 at *
    rw [show X8_of h1 (b + 55) 0 = _ from ofk h1 m1 v1 q1 0 (by omega), Option.bind_some, ms_p m1, Option.bind_some, hws.1.2.2]
    have m2 := stp h1 25 (nI (cW C)) m1
    have q2 := g6 h1 25 (nI (cW C)) q1
    have v2 : gi (si h1 (b + 55) 25 (nI (cW C))) (b + 55) 24 = nI a := by rw [gi_si, if_neg (by omega)]; exact v1
    have w2 : gi (si h1 (b + 55) 25 (nI (cW C))) (b + 55) 25 = nI (cW C) := by rw [gi_si, if_pos ⟨rfl, rfl⟩]
    have hi2 := IV_m0 hi1 25 (nI (cW C))
    have f2 : ∀ k, 30 ≤ k → gi (si h1 (b + 55) 25 (nI (cW C))) (b + 55) k = gi h (b + 55) k := fun k hk => by rw [gi_si, if_neg (by omega)]; exact f1 k hk
    generalize si h1 (b + 55) 25 (nI (cW C)) = h2 at *
    rw [show X8_of h2 (b + 55) 1 = _ from ofk h2 m2 v2 q2 1 (by omega), Option.bind_some, ms_p m2, Option.bind_some, hws.2.1.2.2]
    have m3 := stp h2 26 (nI (cH C)) m2
    have q3 := g6 h2 26 (nI (cH C)) q2
    have v3 : gi (si h2 (b + 55) 26 (nI (cH C))) (b + 55) 24 = nI a := by rw [gi_si, if_neg (by omega)]; exact v2
    have w3 : gi (si h2 (b + 55) 26 (nI (cH C))) (b + 55) 25 = nI (cW C) := by rw [gi_si, if_neg (by omega)]; exact w2
    have y3 : gi (si h2 (b + 55) 26 (nI (cH C))) (b + 55) 26 = nI (cH C) := by rw [gi_si, if_pos ⟨rfl, rfl⟩]
    have hi3 := IV_m0 hi2 26 (nI (cH C))
    have f3 : ∀ k, 30 ≤ k → gi (si h2 (b + 55) 26 (nI (cH C))) (b + 55) k = gi h (b + 55) k := fun k hk => by rw [gi_si, if_neg (by omega)]; exact f2 k hk
    generalize si h2 (b + 55) 26 (nI (cH C)) = h3 at *
    rw [ms_I m3, Option.bind_some, ms_I m3, Option.bind_some, ms_p m3, Option.bind_some, w3, y3, nI_mul, show cW C * cH C = cF C from rfl]
    have m4 := stp h3 27 (nI (cF C)) m3
    have q4 := g6 h3 27 (nI (cF C)) q3
    have v4 : gi (si h3 (b + 55) 27 (nI (cF C))) (b + 55) 24 = nI a := by rw [gi_si, if_neg (by omega)]; exact v3
    have w4 : gi (si h3 (b + 55) 27 (nI (cF C))) (b + 55) 25 = nI (cW C) := by rw [gi_si, if_neg (by omega)]; exact w3
    have y4 : gi (si h3 (b + 55) 27 (nI (cF C))) (b + 55) 26 = nI (cH C) := by rw [gi_si, if_neg (by omega)]; exact y3
    have z4 : gi (si h3 (b + 55) 27 (nI (cF C))) (b + 55) 27 = nI (cF C) := by rw [gi_si, if_pos ⟨rfl, rfl⟩]
    have hi4 := IV_m0 hi3 27 (nI (cF C))
    have f4 : ∀ k, 30 ≤ k → gi (si h3 (b + 55) 27 (nI (cF C))) (b + 55) k = gi h (b + 55) k := fun k hk => by rw [gi_si, if_neg (by omega)]; exact f3 k hk
    generalize si h3 (b + 55) 27 (nI (cF C)) = h4 at *
    rw [show X8_of h4 (b + 55) 2 = _ from ofk h4 m4 v4 q4 2 (by omega), Option.bind_some, ms_p m4, Option.bind_some, hws.2.2.1.2]
    have m5 := stp h4 28 (nI (cJ C)) m4
    have q5 := g6 h4 28 (nI (cJ C)) q4
    have v5 : gi (si h4 (b + 55) 28 (nI (cJ C))) (b + 55) 24 = nI a := by rw [gi_si, if_neg (by omega)]; exact v4
    have w5 : gi (si h4 (b + 55) 28 (nI (cJ C))) (b + 55) 25 = nI (cW C) := by rw [gi_si, if_neg (by omega)]; exact w4
    have y5 : gi (si h4 (b + 55) 28 (nI (cJ C))) (b + 55) 26 = nI (cH C) := by rw [gi_si, if_neg (by omega)]; exact y4
    have z5 : gi (si h4 (b + 55) 28 (nI (cJ C))) (b + 55) 27 = nI (cF C) := by rw [gi_si, if_neg (by omega)]; exact z4
    have u5 : gi (si h4 (b + 55) 28 (nI (cJ C))) (b + 55) 28 = nI (cJ C) := by rw [gi_si, if_pos ⟨rfl, rfl⟩]
    have hi5 := IV_m0 hi4 28 (nI (cJ C))
    have f5 : ∀ k, 30 ≤ k → gi (si h4 (b + 55) 28 (nI (cJ C))) (b + 55) k = gi h (b + 55) k := fun k hk => by rw [gi_si, if_neg (by omega)]; exact f4 k hk
    generalize si h4 (b + 55) 28 (nI (cJ C)) = h5 at *
    rw [show X8_of h5 (b + 55) 3 = _ from ofk h5 m5 v5 q5 3 (by omega), Option.bind_some, ms_p m5, Option.bind_some, hws.2.2.2.1.2]
    have m6 := stp h5 29 (nI (cP C)) m5
    have q6 := g6 h5 29 (nI (cP C)) q5
    have hs6 : HS (si h5 (b + 55) 29 (nI (cP C))) (b + 55) a C := by
      refine ⟨m6, hws, by omega, ?_, ?_, ?_, ?_, ?_, ?_, fun k hk => ?_⟩
      · rw [gi_si, if_neg (by omega)]; exact v5
      · rw [gi_si, if_neg (by omega)]; exact w5
      · rw [gi_si, if_neg (by omega)]; exact y5
      · rw [gi_si, if_neg (by omega)]; exact z5
      · rw [gi_si, if_neg (by omega)]; exact u5
      · rw [gi_si, if_pos ⟨rfl, rfl⟩]
      · rw [q6]; exact hC k hk
    have hi6 := IV_m0 hi5 29 (nI (cP C))
    have f6 : ∀ k, 30 ≤ k → gi (si h5 (b + 55) 29 (nI (cP C))) (b + 55) k = gi h (b + 55) k := fun k hk => by rw [gi_si, if_neg (by omega)]; exact f5 k hk
    generalize si h5 (b + 55) 29 (nI (cP C)) = h6 at *
    obtain ⟨h7, e7, c7, t7⟩ := hand67 hs6
    refine ⟨a, h7, ha, rfl, rfl, ?_, IV_ch hi6 c7 (fun c k w => Sc_m (by unfold Whd at w; omega)), hCe ▸ t7, fun k hk => by rw [c7.gi (by unfold Whd; omega)]; exact f6 k hk⟩
    rw [show X8_hand_L67 (b + 55) FU h6 0 = _ from e7]; rfl
theorem layTrial_ok2 {h : HA} {b : Nat} {D : DT} {α : Nat → Nat} {lm : Nat → Nat → Nat} {im : Nat → Option (Nat × DT)} (hi : IV h b D α lm im) (x y : Int32) :
    ((rg x (dN D 0) && rg y (dN D 1)) = false ∧ ∃ h1, X8_layTrial h (b + 55) x y = some (0, h1) ∧ IV h1 b D α lm im) ∨
    (∃ a t h1, a < dN D 0 ∧ t < dN D 1 ∧ x = nI a ∧ y = nI t ∧ (rg x (dN D 0) && rg y (dN D 1)) = true ∧ X8_layTrial h (b + 55) x y = some (1, h1) ∧ IV h1 b D α lm im ∧ MP h1 (b + 55) a t (dC D a) (dR D 1 t) (fun _ => 0) (so (dC D a) (dR D 1 t) (llen (dR D 1 t))) ∧ ∀ k, 41 ≤ k → gi h1 (b + 55) k = gi h (b + 55) k) := by
  have hn := (iv_w hi).2.1 1 (by omega)
  unfold X8_layTrial
  rw [if_pos (ms_c (iv_ms hi)), show X8_is h (b + 55) 1 y = _ from is_ok hi (s := 1) (by omega) y, Option.bind_some]
  cases hr : rg y (dN D 1) with
  | false => left; exact ⟨Bool.and_false _, h, rfl, hi⟩
  | true =>
    obtain ⟨t, ht, rfl⟩ := (rg_iff (by omega)).mp hr
    rw [if_neg (by decide)]
    rcases hand_ok2 hi x with ⟨h1, h2⟩ | ⟨a, h1, ha, rfl, hr2, e1, i1, t1, f1⟩
    · left; rw [h2, h1]; exact ⟨rfl, h, rfl, hi⟩
    · right
      rw [e1, Option.bind_some]
      dsimp only
      rw [if_neg (by decide), ms_p (iv_ms i1), Option.bind_some]
      have i2 := IV_m0 i1 38 (nI t)
      have f2 : ∀ k, 41 ≤ k → gi (si h1 (b + 55) 38 (nI t)) (b + 55) k = gi h (b + 55) k := fun k hk => by rw [gi_si, if_neg (by omega)]; exact f1 k (by omega)
      have g2 : gi (si h1 (b + 55) 38 (nI t)) (b + 55) 38 = nI t := iv_si
      have t2 : HT (si h1 (b + 55) 38 (nI t)) (b + 55) a (dC D a) := HT_ch (W := fun a k => a = b + 55 ∧ k = 38) t1 (ch_si ⟨rfl, rfl⟩) (fun k _ _ w => by omega) (fun k w => by omega) (fun k w => by omega)
      generalize si h1 (b + 55) 38 (nI t) = h2 at *
      obtain ⟨h3, e3, c3, p3⟩ := play_n t2 ((iv_w hi).2.2.1 a ha) (iv_tp i2 ht g2) (Nat.le_refl _)
      refine ⟨a, t, h3, ha, ht, rfl, rfl, by rw [hr2]; rfl, ?_, ?_, p3, fun k hk => by rw [c3.gi (by unfold Wpl; omega)]; exact f2 k hk⟩
      · rw [deeds_n i2 ht g2, Option.bind_some, e3, Option.bind_some]
      · exact IV_ch i2 c3 (fun x k w => Sc_m (by unfold Wpl at w; omega))
