/-! TEXT: the class keeps a line, form by form -/
theorem kp_nt (B : Nat → Nat) (n f : Nat) (v : Nat → Int32) (σ : ZS) : nt B n (kp f v σ) = kp f v (nt B n σ) := rfl
theorem Wkc_ln {r nr c l a k : Nat} (w : Wkc r c a k) : Wln r nr c l 0 a k := by
  rcases w with w | w
  · exact Or.inl ⟨w.1, by omega⟩
  · exact Or.inr (Or.inr (Or.inl ⟨rfl, w⟩))
theorem keepJudge_c {h : HA} {r tp nr ls c l n f : Nat} {B : Nat → Nat} {σ : ZS} {v : Nat → Int32} (x : RX h r tp nr ls c l n B 0 σ) (hP : PK B n 0 σ) (hf : f = 2 ∨ f = 3) (hv : ∀ i, i < 4 → gi h nr i = v i) (h6 : tn (zC σ 2) < 6) :
    ∃ h1, X3_keepJudge h r (nI f) = some h1 ∧ ch (Wkc r c) h h1 ∧ RX h1 r tp nr ls c l n B 0 (zi σ, σ.2.1, zF σ, zG σ, (fun x => if x = 2 then nI (tn (zC σ 2) + 1) else if x = 4 + 5 * tn (zC σ 2) then v 0 else if x = 5 + 5 * tn (zC σ 2) then v 1 else if x = 6 + 5 * tn (zC σ 2) then nI (f - 2) else if x = 7 + 5 * tn (zC σ 2) then v 2 else if x = 8 + 5 * tn (zC σ 2) then v 3 else zC σ x), zT σ) := by
  have rt := x.1.1
  obtain ⟨q1, q2, q3, q4⟩ := hP.2.2.2.1 rfl
  obtain ⟨N, hN⟩ : ∃ N, N = tn (zC σ 2) := ⟨_, rfl⟩
  rw [← hN] at q1 q2 h6
  obtain ⟨a1, a2, a3, a4, a5, a6, a7, a8, a9⟩ := x.2.2.2.1 rfl
  have x6 := x.2.2.1.2.1
  obtain ⟨x4, x5⟩ := x.2.2.1.1
  have ncr : ∀ a, c ≤ a → a ≤ c + 5 → a ≠ r ∧ a ≠ tp ∧ a ≠ nr ∧ a ≠ ls := x.2.2.2.2.2.1
  rw [← hN]
  have W1 : ∀ k, Wkc r c (c + 1) k := fun k => Or.inr ⟨by omega, by omega⟩
  have nrc : nr ≠ c + 1 := fun z => (ncr (c + 1) (by omega) (by omega)).2.2.1 z.symm
  have step : ∀ (h0 : HA) (w : Nat) (val : Int32), w < 5 → ch (Wkc r c) h h0 → (∀ i, i < 4 → gi h0 nr i = v i) → gi h0 c 6 = nI N → ch (Wkc r c) h (si h0 (c + 1) (5 * N + w) val) ∧ (∀ i, i < 4 → gi (si h0 (c + 1) (5 * N + w) val) nr i = v i) ∧ gi (si h0 (c + 1) (5 * N + w) val) c 6 = nI N := by
    intro h0 w val hw c0 n0 g0
    refine ⟨c0.tr (ch_si (W1 _)), fun i hi => ?_, ?_⟩
    · rw [gi_si, if_neg (fun z => nrc z.1)]; exact n0 i hi
    · rw [gi_si, if_neg (by omega)]; exact g0
  have k0 : ∀ h0, ch (Wkc r c) h h0 → gR h0 r 4 0 = some c ∧ gR h0 c 1 7 = some (c + 1) ∧ gR h0 r 4 10 = some nr ∧ kd h0 (c + 1) = (20, 30) ∧ kd h0 nr = (20, 4) ∧ kd h0 c = (1, 0) := by
    intro h0 c0
    have kr : kd h0 r = (4, 0) := by rw [c0.2.1]; exact rt.1
    have kc : kd h0 c = (1, 0) := by rw [c0.2.1]; exact a1.1
    exact ⟨by rw [gR_n kr, c0.2.2.1]; exact x6, by rw [gR_n kc, c0.2.2.1]; exact a1.2.1.1, by rw [gR_n kr, c0.2.2.1]; exact x4, by rw [c0.2.1]; exact a1.2.1.2, by rw [c0.2.1]; exact x5, kc⟩
  have ld : ∀ h0 i, ch (Wkc r c) h h0 → (∀ i, i < 4 → gi h0 nr i = v i) → i < 4 → ldI h0 nr 20 (nI i) = some (v i) := fun h0 i c0 n0 hi => by
    rw [ldI_n (k0 h0 c0).2.2.2.2.1 (by omega) (by omega), n0 i hi]
  have stz : ∀ h0 w (val : Int32), ch (Wkc r c) h h0 → w < 5 → asI h0 (c + 1) 20 (nI N * 5 + nI w) val = some (si h0 (c + 1) (5 * N + w) val) := fun h0 w val c0 hw => by
    rw [show (5 : Int32) = nI 5 from rfl, nI_mul, nI_add, asI_n (k0 h0 c0).2.2.2.1 (by omega) (by omega), Nat.mul_comm N 5]
  unfold X3_keepJudge
  have c0 := ch_rf (Wkc r c) h
  have g0 : gi h c 6 = nI N := a5.trans q1
  obtain ⟨b1, b2, b3, b4, b5, b6⟩ := k0 h c0
  obtain ⟨c1, n1, g1⟩ := step h 0 (v 0) (by omega) c0 hv g0
  rw [if_pos (rt_t rt), b1, Option.bind_some, gI_n b6, g0, Option.bind_some, Option.bind_some, b2, Option.bind_some, b3, Option.bind_some, show ldI h nr 20 0 = _ from ld h 0 c0 hv (by omega), Option.bind_some, show asI h (c + 1) 20 (nI N * 5 + 0) (v 0) = _ from stz h 0 (v 0) c0 (by omega), Option.bind_some]
  obtain ⟨h1, e1⟩ : ∃ h1, h1 = si h (c + 1) (5 * N + 0) (v 0) := ⟨_, rfl⟩
  rw [← e1] at c1 n1 g1 ⊢
  obtain ⟨b1, b2, b3, b4, b5, b6⟩ := k0 h1 c1
  obtain ⟨c2, n2, g2⟩ := step h1 1 (v 1) (by omega) c1 n1 g1
  rw [b1, Option.bind_some, b2, Option.bind_some, b3, Option.bind_some, show ldI h1 nr 20 1 = _ from ld h1 1 c1 n1 (by omega), Option.bind_some, show asI h1 (c + 1) 20 (nI N * 5 + 1) (v 1) = _ from stz h1 1 (v 1) c1 (by omega), Option.bind_some]
  obtain ⟨h2, e2⟩ : ∃ h2, h2 = si h1 (c + 1) (5 * N + 1) (v 1) := ⟨_, rfl⟩
  rw [← e2] at c2 n2 g2 ⊢
  obtain ⟨b1, b2, b3, b4, b5, b6⟩ := k0 h2 c2
  obtain ⟨c3, n3, g3⟩ := step h2 2 (nI (f - 2)) (by omega) c2 n2 g2
  have ef : (if nI f = 2 then (0 : Int32) else 1) = nI (f - 2) := by
    rcases hf with e | e <;> subst e <;> decide
  rw [b1, Option.bind_some, b2, Option.bind_some]
  dsimp only [lett]
  rw [ef, show asI h2 (c + 1) 20 (nI N * 5 + 2) (nI (f - 2)) = _ from stz h2 2 (nI (f - 2)) c2 (by omega), Option.bind_some]
  obtain ⟨h3, e3⟩ : ∃ h3, h3 = si h2 (c + 1) (5 * N + 2) (nI (f - 2)) := ⟨_, rfl⟩
  rw [← e3] at c3 n3 g3 ⊢
  obtain ⟨b1, b2, b3, b4, b5, b6⟩ := k0 h3 c3
  obtain ⟨c4, n4, g4⟩ := step h3 3 (v 2) (by omega) c3 n3 g3
  rw [b1, Option.bind_some, b2, Option.bind_some, b3, Option.bind_some, show ldI h3 nr 20 2 = _ from ld h3 2 c3 n3 (by omega), Option.bind_some, show asI h3 (c + 1) 20 (nI N * 5 + 3) (v 2) = _ from stz h3 3 (v 2) c3 (by omega), Option.bind_some]
  obtain ⟨h4, e4⟩ : ∃ h4, h4 = si h3 (c + 1) (5 * N + 3) (v 2) := ⟨_, rfl⟩
  rw [← e4] at c4 n4 g4 ⊢
  obtain ⟨b1, b2, b3, b4, b5, b6⟩ := k0 h4 c4
  obtain ⟨c5, n5, g5⟩ := step h4 4 (v 3) (by omega) c4 n4 g4
  rw [b1, Option.bind_some, b2, Option.bind_some, b3, Option.bind_some, show ldI h4 nr 20 3 = _ from ld h4 3 c4 n4 (by omega), Option.bind_some, show asI h4 (c + 1) 20 (nI N * 5 + 4) (v 3) = _ from stz h4 4 (v 3) c4 (by omega), Option.bind_some]
  obtain ⟨h5, e5⟩ : ∃ h5, h5 = si h4 (c + 1) (5 * N + 4) (v 3) := ⟨_, rfl⟩
  rw [← e5] at c5 n5 g5 ⊢
  obtain ⟨b1, b2, b3, b4, b5, b6⟩ := k0 h5 c5
  have c6 : ch (Wkc r c) h (si h5 c 6 (nI (N + 1))) := c5.tr (ch_si (Or.inr ⟨by omega, by omega⟩))
  rw [b1, Option.bind_some, gI_n b6, g5, Option.bind_some, nI_p1, pI_n b6]
  have gp : ∀ k, gi h5 (c + 1) k = if k = 5 * N + 4 then v 3 else if k = 5 * N + 3 then v 2 else if k = 5 * N + 2 then nI (f - 2) else if k = 5 * N + 1 then v 1 else if k = 5 * N + 0 then v 0 else gi h (c + 1) k := by
    intro k
    rw [e5, gi_si, e4, gi_si, e3, gi_si, e2, gi_si, e1, gi_si]
    simp only [true_and]
  have go : ∀ a k, a ≠ c + 1 → gi h5 a k = gi h a k := by
    intro a k ha
    rw [e5, gi_si, if_neg (fun z => ha z.1), e4, gi_si, if_neg (fun z => ha z.1), e3, gi_si, if_neg (fun z => ha z.1), e2, gi_si, if_neg (fun z => ha z.1), e1, gi_si, if_neg (fun z => ha z.1)]
  have gjo : ∀ a k, gj h5 a k = gj h a k := by
    intro a k
    rw [e5, gj_si, e4, gj_si, e3, gj_si, e2, gj_si, e1, gj_si]
  refine ⟨_, rfl, c6, RX_c x c6 ?_ ⟨?_, ?_, ?_, fun g hg => ?_, ?_, ?_, fun k hk => ?_, fun p hp => ?_, fun p hp => ?_⟩⟩
  · rw [gi_si, if_neg (fun z => (ncr c (by omega) (by omega)).1 z.1.symm), go r 12 (fun z => (ncr (c + 1) (by omega) (by omega)).1 z.symm)]
    exact x.2.1.2.2.2
  · exact CS_same a1 (fun a _ _ => c6.2.1 a) (fun k => c6.2.2.1 c k)
  · rw [gi_si, if_neg (by omega), go c 0 (by omega)]
    simp only [show ¬ (0 = 2) by decide, if_false, show ¬ 0 = 4 + 5 * N by omega, show ¬ 0 = 5 + 5 * N by omega, show ¬ 0 = 6 + 5 * N by omega, show ¬ 0 = 7 + 5 * N by omega, show ¬ 0 = 8 + 5 * N by omega]
    exact a2
  · rw [gi_si, if_neg (by omega), go c 1 (by omega)]
    simp only [show ¬ (1 = 2) by decide, if_false, show ¬ 1 = 4 + 5 * N by omega, show ¬ 1 = 5 + 5 * N by omega, show ¬ 1 = 6 + 5 * N by omega, show ¬ 1 = 7 + 5 * N by omega, show ¬ 1 = 8 + 5 * N by omega]
    exact a3
  · rw [gj_si, gjo, a4 g hg]
    unfold wl
    simp only [show ¬ 42 + g = 2 by omega, if_false, show ¬ 42 + g = 4 + 5 * N by omega, show ¬ 42 + g = 5 + 5 * N by omega, show ¬ 42 + g = 6 + 5 * N by omega, show ¬ 42 + g = 7 + 5 * N by omega, show ¬ 42 + g = 8 + 5 * N by omega]
  · rw [gi_si, if_pos ⟨rfl, rfl⟩]; exact (if_pos rfl).symm
  · rw [gi_si, if_neg (by omega), go c 8 (by omega)]
    simp only [show ¬ (3 = 2) by decide, if_false, show ¬ 3 = 4 + 5 * N by omega, show ¬ 3 = 5 + 5 * N by omega, show ¬ 3 = 6 + 5 * N by omega, show ¬ 3 = 7 + 5 * N by omega, show ¬ 3 = 8 + 5 * N by omega]
    exact a6
  · simp only [if_true] at hk
    rw [tn_nI (by omega)] at hk
    dsimp only
    rw [gi_si, if_neg (by omega), gp k, if_neg (show ¬ 4 + k = 2 by omega)]
    by_cases d0 : k = 5 * N + 0
    · rw [if_neg (by omega), if_neg (by omega), if_neg (by omega), if_neg (by omega), if_pos d0, if_pos (by omega)]
    · by_cases d1 : k = 5 * N + 1
      · rw [if_neg (by omega), if_neg (by omega), if_neg (by omega), if_pos d1, if_neg (by omega), if_pos (by omega)]
      · by_cases d2 : k = 5 * N + 2
        · rw [if_neg (by omega), if_neg (by omega), if_pos d2, if_neg (by omega), if_neg (by omega), if_pos (by omega)]
        · by_cases d3 : k = 5 * N + 3
          · rw [if_neg (by omega), if_pos d3, if_neg (by omega), if_neg (by omega), if_neg (by omega), if_pos (by omega)]
          · by_cases d4 : k = 5 * N + 4
            · rw [if_pos d4, if_neg (by omega), if_neg (by omega), if_neg (by omega), if_neg (by omega), if_pos (by omega)]
            · rw [if_neg d4, if_neg d3, if_neg d2, if_neg d1, if_neg d0, if_neg (by omega), if_neg (by omega), if_neg (by omega), if_neg (by omega), if_neg (by omega)]
              exact a7 k (by rw [← hN]; omega)
  · have e3' : (if 3 = 2 then nI (N + 1) else if 3 = 4 + 5 * N then v 0 else if 3 = 5 + 5 * N then v 1 else if 3 = 6 + 5 * N then nI (f - 2) else if 3 = 7 + 5 * N then v 2 else if 3 = 8 + 5 * N then v 3 else zC σ 3) = zC σ 3 := by
      rw [if_neg (by omega), if_neg (by omega), if_neg (by omega), if_neg (by omega), if_neg (by omega), if_neg (by omega)]
    dsimp only at hp
    rw [e3'] at hp
    dsimp only
    rw [gi_si, if_neg (by omega), go (c + 2) p (by omega), if_neg (by omega), if_neg (by omega), if_neg (by omega), if_neg (by omega), if_neg (by omega), if_neg (by omega)]
    exact a8 p hp
  · rw [gi_si, if_neg (by omega), go (c + 3) p (by omega)]
    exact a9 p hp
