/-! IMAGES -/
theorem IV_im {h h2 : HA} {b : Nat} {D : DT} {α : Nat → Nat} {lm : Nat → Nat → Nat} {im : Nat → Option (Nat × DT)} (hi : IV h b D α lm im) {k t : Nat} (hz1 : hz h ≤ hz h2) (hkd : ∀ a, a < hz h → kd h2 a = kd h a) (hlo : ∀ a, a < b + 46 → a ≠ b + 30 → sm h h2 a) (hfx : FX h2 b)
    (hrow : ∀ i, i ≠ k + 1 → ∀ a j, 1 ≤ a → a ≤ 9 → mwd a * i ≤ j → j < mwd a * i + mwd a → gi h2 (b + 55 + a) j = gi h (b + 55 + a) j) (h30 : ∀ i, i ≠ k → ga h2 (b + 30) i = ga h (b + 30) i) (h85 : ∀ i, i ≠ k → gi h2 (b + 85) i = gi h (b + 85) i)
    (hfar : ∀ a, b + 86 ≤ a → a < hz h → (a < t ∨ t + 29 ≤ a) → sm h h2 a) (hga : ∀ w, b + 86 ≤ w → w < hz h → ∀ j, ga h2 w j = ga h w j) (ht : ∀ i, i < 3 → i ≠ k → ∀ t1 D1, im i = some (t1, D1) → t1 ≠ t ∧ (t1 + 29 ≤ t ∨ t + 29 ≤ t1)) (new : IMk h2 b k (some (t, D))) :
    IV h2 b D α lm (fun i => if i = k then some (t, D) else im i) := by
  obtain ⟨a1, a2, a3, a4, a5, a6, a7, a8, a9, a10, a11, a12, a13⟩ := hi
  have hb := a1.2.2.2.2
  have k30 : kd h (b + 30) = (24, 3) := a1.1 (30, (24, 3)) (by decide)
  have qC : ∀ j, j < 3 → ∀ a, α j ≤ a → a ≤ α j + 5 → sm h h2 a := by
    intro j hj a h1 h3
    have := (a2 j hj).2
    refine hlo a (by omega) (fun e => ?_)
    rcases cs_kk (a2 j hj).1 h1 h3 with ⟨_, z⟩ | ⟨_, z | z | z | z⟩ <;> rw [e, k30] at z <;> exact absurd z (by decide)
  have qL : ∀ s j, 1 ≤ s → s < 4 → j < 3 → sm h h2 (lm s j) ∧ sm h h2 (lm s j + 1) := by
    intro s j h1 h3 hj
    obtain ⟨l1, l2, l3⟩ := a4 s j h1 h3 hj
    have z1 := l1.1
    have z2 := l1.2.2.2
    refine ⟨hlo _ (by omega) (fun e => ?_), hlo _ (by omega) (fun e => ?_)⟩
    · rw [e, k30] at z1; exact absurd z1 (by decide)
    · rw [e, k30] at z2; exact absurd (congrArg Prod.fst z2) (fun z => by simp at z)
  have s31 := hlo (b + 31) (by omega) (by omega)
  have s38 := hlo (b + 38) (by omega) (by omega)
  have s0 := hlo b (by omega) (by omega)
  refine ⟨hfx, fun j hj => ⟨CS_sm (a2 j hj).1 (qC j hj), (a2 j hj).2⟩, a3, fun s j h1 h3 hj => ⟨LiS_sm (a4 s j h1 h3 hj).1 (qL s j h1 h3 hj).1 (qL s j h1 h3 hj).2, (a4 s j h1 h3 hj).2⟩, a5, ?_, by rw [s31.2.2.2]; exact a7, fun s h1 h3 => by rw [s38.2.2.2]; exact a8 s h1 h3, ?_, a10, fun i hi => ?_, ?_, ?_⟩
  · refine TD_sm a6 a10 (fun a h1 h3 => hlo a (by omega) (by omega)) (fun j hj => CQ_sm (a6.2.2.2.2.2.2.2.1 j hj) (qC j (by have := a10.2.1 0 (by omega); omega))) (fun s j h1 h3 hj => qL s j h1 h3 (by omega))
  · exact MD_keep2 a9 a10 (fun a j h1 h3 h4 h5 => hrow 0 (by omega) a j h1 h3 h4 h5)
  · show IMk h2 b i (if i = k then some (t, D) else im i)
    by_cases e : i = k
    · subst e; rw [if_pos rfl]; exact new
    · rw [if_neg e]
      have hk0 := a11 i hi
      unfold IMk at hk0 ⊢
      cases hik : im i with
      | none =>
        rw [hik] at hk0
        simp only at hk0 ⊢
        rw [h30 i e, h85 i e]; exact hk0
      | some q =>
        obtain ⟨t1, D1⟩ := q
        rw [hik] at hk0
        simp only at hk0 ⊢
        obtain ⟨k1, k2, k3, k4, k5, k6, k7, k8, k9, k10⟩ := hk0
        have hd := (ht i hi e t1 D1 hik).2
        have smt : ∀ a, t1 ≤ a → a < t1 + 29 → sm h h2 a := fun a h1 h3 => hfar a (by omega) (by omega) (by omega)
        have eα : ∀ j, iα t1 j = t1 + 5 + 12 * j := fun _ => rfl
        have el : ∀ s j, il t1 s j = t1 + 9 + 2 * s + 12 * j := fun _ _ => rfl
        have pC : ∀ j, j < 2 → ∀ a, iα t1 j ≤ a → a ≤ iα t1 j + 5 → sm h h2 a := fun j hj a h1 h3 => by
          have := eα j
          exact smt a (by omega) (by omega)
        have pL : ∀ s j, 1 ≤ s → s < 4 → j < 2 → sm h h2 (il t1 s j) ∧ sm h h2 (il t1 s j + 1) := fun s j h1 h3 hj => by
          have := el s j
          exact ⟨smt _ (by omega) (by omega), smt _ (by omega) (by omega)⟩
        have pT : ∀ a, t1 ≤ a → a ≤ t1 + 4 → sm h h2 a := fun a h1 h3 => smt a h1 (by omega)
        exact ⟨by rw [h30 i e]; exact k1, by rw [h85 i e]; exact k2, k3, by omega, ToS_sm k5 pT, fun j hj => CS_sm (k6 j hj) (pC j hj), fun s j h1 h3 hj => LiS_sm (k7 s j h1 h3 hj) (pL s j h1 h3 hj).1 (pL s j h1 h3 hj).2,
          TD_sm k8 k10 pT (fun j hj => CQ_sm (k8.2.2.2.2.2.2.2.1 j hj) (pC j (by have := k10.2.1 0 (by omega); omega))) pL, MD_keep2 k9 k10 (fun a j h1 h3 h4 h5 => hrow (i + 1) (by omega) a j h1 h3 h4 h5), k10⟩
  · intro i j t1 D1 D2 hi hj e1 e2
    simp only at e1 e2
    by_cases ei : i = k
    · by_cases ej : j = k
      · omega
      · rw [if_pos ei] at e1
        rw [if_neg ej] at e2
        simp at e1
        exact absurd e1.1.symm (ht j hj ej t1 D2 e2).1
    · by_cases ej : j = k
      · rw [if_pos ej] at e2
        rw [if_neg ei] at e1
        simp at e2
        exact absurd e2.1.symm (ht i hi ei t1 D1 e1).1
      · rw [if_neg ei] at e1
        rw [if_neg ej] at e2
        exact a12 i j t1 D1 D2 hi hj e1 e2
  · rw [s0.2.2.2 5]
    rcases a13 with w | ⟨w, w1, w2, w3, w4, ⟨w5, w6⟩, w7, w8⟩
    · exact Or.inl w
    · refine Or.inr ⟨w, w1, w2, by omega, by rw [hkd _ (by omega)]; exact w4, ⟨by rw [hga _ w2 (by omega)]; exact w5, by rw [hkd _ (by omega)]; exact w6⟩, by rw [hga _ w2 (by omega)]; exact w7, by rw [hkd _ (by omega)]; exact w8⟩
theorem iv_to {h : HA} {b : Nat} {D : DT} {α : Nat → Nat} {lm : Nat → Nat → Nat} {im : Nat → Option (Nat × DT)} (hi : IV h b D α lm im) : TO h (b + 1) α lm :=
  ⟨hi.1.2.2.1, fun j hj => ⟨iv_c hi hj, (hi.2.1 j (by omega)).1⟩, fun s j h1 h2 hj => ⟨iv_l hi h1 h2 hj, (hi.2.2.2.1 s j h1 h2 (by omega)).1⟩, fun e => absurd (hi.2.2.1 0 1 (by omega) (by omega) e) (by omega), fun s h1 h2 e => absurd (hi.2.2.2.2.1 s 0 1 h1 h2 (by omega) (by omega) e) (by omega)⟩
theorem TW_im {t a k : Nat} (w : TW t (iα t) (il t) a k) : t ≤ a ∧ a < t + 29 := by
  have eα : ∀ i, iα t i = t + 5 + 12 * i := fun _ => rfl
  have el : ∀ s i, il t s i = t + 9 + 2 * s + 12 * i := fun _ _ => rfl
  rcases w with w | w | w | ⟨j, hj, h1, h2⟩ | ⟨s, j, h1, h2, h3, w⟩
  · omega
  · omega
  · omega
  · have := eα j; omega
  · have := el s j; omega
theorem SA_im {t a : Nat} (w : SA t (iα t) (il t) a) : t ≤ a ∧ a < t + 29 := by
  have eα : ∀ i, iα t i = t + 5 + 12 * i := fun _ => rfl
  have el : ∀ s i, il t s i = t + 9 + 2 * s + 12 * i := fun _ _ => rfl
  rcases w with w | ⟨j, hj, h1, h2⟩ | ⟨s, j, h1, h2, h3, w⟩
  · omega
  · have := eα j; omega
  · have := el s j; omega
theorem SA_lo {h : HA} {b : Nat} {D : DT} {α : Nat → Nat} {lm : Nat → Nat → Nat} {im : Nat → Option (Nat × DT)} (hi : IV h b D α lm im) {a : Nat} (w : SA (b + 1) α lm a) : b ≤ a ∧ a < b + 46 := by
  rcases w with w | ⟨j, hj, h1, h2⟩ | ⟨s, j, h1, h2, h3, w⟩
  · omega
  · have := (hi.2.1 j (by omega)).2; omega
  · have := (hi.2.2.2.1 s j h1 h2 (by omega)).2; omega
theorem TW_lo {h : HA} {b : Nat} {D : DT} {α : Nat → Nat} {lm : Nat → Nat → Nat} {im : Nat → Option (Nat × DT)} (hi : IV h b D α lm im) {a k : Nat} (w : TW (b + 1) α lm a k) : b ≤ a ∧ a < b + 46 := by
  rcases w with w | w | w | ⟨j, hj, h1, h2⟩ | ⟨s, j, h1, h2, h3, w⟩
  · omega
  · omega
  · omega
  · have := (hi.2.1 j (by omega)).2; omega
  · have := (hi.2.2.2.1 s j h1 h2 (by omega)).2; omega
theorem fx_rim {h : HA} {b : Nat} (hf : FX h b) : gR h b 8 1 = some (b + 30) := by rw [gR_n (fx_x hf)]; exact hf.2.1 (0, 1, 30) (by decide)
theorem fx_kim {h : HA} {b : Nat} (hf : FX h b) : kd h (b + 30) = (24, 3) := hf.1 (30, (24, 3)) (by decide)
/-- from where the class and the model copy into an image -/
theorem image_fin {h g : HA} {b : Nat} {D : DT} {α : Nat → Nat} {lm : Nat → Nat → Nat} {im : Nat → Option (Nat × DT)} (hi : IV h b D α lm im) {k t : Nat} (hk : k < 3) (hz1 : hz h ≤ hz g) (hsm : ∀ a, a < hz h → a ≠ b + 30 → sm h g a) (h30k : kd g (b + 30) = (24, 3)) (h30 : ∀ i, i ≠ k → ga g (b + 30) i = ga h (b + 30) i) (h30t : ga g (b + 30) k = some t)
    (to : TO g t (iα t) (il t)) (ht1 : b + 86 ≤ t) (ht2 : t + 29 ≤ hz g) (hne : ∀ i, i < 3 → i ≠ k → ∀ t1 D1, im i = some (t1, D1) → t1 ≠ t ∧ (t1 + 29 ≤ t ∨ t + 29 ≤ t1)) :
    ∃ g1 g2, X5_copyFrom g t (b + 1) = some g1 ∧ X8_image g1 (b + 55) (nI k) = some (1, g2) ∧ IV g2 b D α lm (fun i => if i = k then some (t, D) else im i) := by
  have hb := hi.1.2.2.2.2
  have hd := iv_w hi
  have k30 := fx_kim hi.1
  have smg : ∀ a, SA (b + 1) α lm a → sm h g a := by
    intro a w
    have := SA_lo hi w
    refine hsm a (by omega) (fun e => ?_)
    rcases w with w | ⟨j, hj, h1, h2⟩ | ⟨s, j, h1, h2, h3, w⟩
    · omega
    · rcases cs_kk (hi.2.1 j (by omega)).1 h1 h2 with ⟨_, z⟩ | ⟨_, z | z | z | z⟩ <;> rw [e, k30] at z <;> exact absurd z (by decide)
    · have l1 := (hi.2.2.2.1 s j h1 h2 (by omega)).1
      rcases w with w | w
      · have z := l1.1
        rw [← w, e, k30] at z; exact absurd z (by decide)
      · have z := l1.2.2.2
        rw [← w, e, k30] at z; exact absurd (congrArg Prod.fst z) (fun z => by simp at z)
  have tsg : ToS g (b + 1) := ToS_sm hi.1.2.2.1 (fun a h1 h2 => smg a (Or.inl ⟨h1, h2⟩))
  have tdg : TD g (b + 1) α lm D := TD_sm hi.2.2.2.2.2.1 hd (fun a h1 h2 => smg a (Or.inl ⟨h1, h2⟩)) (fun j hj => CQ_sm (iv_q hi hj) (fun a h1 h2 => smg a (Or.inr (Or.inl ⟨j, by have := hd.2.1 0 (by omega); omega, h1, h2⟩)))) (fun s j h1 h2 h3 => ⟨smg _ (Or.inr (Or.inr ⟨s, j, h1, h2, h3, Or.inl rfl⟩)), smg _ (Or.inr (Or.inr ⟨s, j, h1, h2, h3, Or.inr rfl⟩))⟩)
  have lsg : ∀ u j, 1 ≤ u → u < 4 → j < 2 → LiS g (lm u j) u := fun u j h1 h2 h3 => LiS_sm (hi.2.2.2.1 u j h1 h2 (by omega)).1 (smg _ (Or.inr (Or.inr ⟨u, j, h1, h2, h3, Or.inl rfl⟩))) (smg _ (Or.inr (Or.inr ⟨u, j, h1, h2, h3, Or.inr rfl⟩)))
  obtain ⟨g1, e1, c1, td1⟩ := told_copy to tsg tdg hd lsg (fun a ha i w => by have := SA_lo hi ha; have := TW_im w; omega)
  have to1 := TO_ch to c1
  have n1 : ∀ a, a < t → ∀ i, ¬ TW t (iα t) (il t) a i := fun a ha i w => by have := TW_im w; omega
  have sm1 : ∀ a, a < b + 86 → a ≠ b + 30 → sm h g1 a := fun a ha hne => (hsm a (by omega) hne).tr (c1.sm (n1 a (by omega)))
  have hm1 : MS g1 (b + 55) := by
    refine ⟨by rw [(sm1 (b + 55) (by omega) (by omega)).1]; exact (iv_ms hi).1, fun i hi2 => ?_⟩
    rw [(sm1 (b + 55) (by omega) (by omega)).2.2.2, (sm1 (b + 55 + (i + 1)) (by omega) (by omega)).1]
    exact (iv_ms hi).2 i hi2
  have c2 : ch (fun a i => a = b + 55 ∧ i = 0) g1 (si g1 (b + 55) 0 0) := ch_si ⟨rfl, rfl⟩
  have hm2 := c2.ms hm1
  obtain ⟨g3, e3, c3, t3, r3⟩ := copyAll_n (f := 0) (t := k + 1) hm2 (by omega) (by omega) (by omega)
  have hm3 := c3.ms hm2
  have c4 : ch (fun a i => a = b + 85 ∧ i = k) g3 (si g3 (b + 85) k 1) := ch_si ⟨rfl, rfl⟩
  obtain ⟨g4, hg4⟩ : ∃ g4, g4 = si g3 (b + 85) k 1 := ⟨_, rfl⟩
  rw [← hg4] at c4
  -- the model's part of the change
  have cM : ch (fun a i => (a = b + 55 ∧ i = 0) ∨ WCA (b + 55) (k + 1) a i ∨ (a = b + 85 ∧ i = k)) g1 g4 := ((c2.mo (fun a i w => Or.inl w)).tr (c3.mo (fun a i w => Or.inr (Or.inl w)))).tr (c4.mo (fun a i w => Or.inr (Or.inr w)))
  have nM : ∀ a i, ((a = b + 55 ∧ i = 0) ∨ WCA (b + 55) (k + 1) a i ∨ (a = b + 85 ∧ i = k)) → b + 55 ≤ a ∧ a ≤ b + 85 := by
    rintro a i (w | ⟨j, j1, j2, j3, _⟩ | w) <;> omega
  have sm4 : ∀ a, (a < b + 55 ∨ b + 86 ≤ a) → sm g1 g4 a := fun a ha => cM.sm (fun i w => by have := nM a i w; omega)
  have hfx : FX g4 b := by
    refine FX_kd hi.1 (by rw [cM.1, c1.1]; exact hz1) (fun a ha => ?_) (fun x hx => ?_) (fun j hj => ?_) (fun j => ?_)
    · rw [cM.2.1, c1.2.1]
      by_cases e : a = b + 30
      · rw [e, h30k, k30]
      · exact (hsm a ha e).1
    · have : x.1 ≤ 54 ∧ x.1 ≠ 30 := by
        have : ∀ x, x ∈ fxr → x.1 ≤ 54 ∧ x.1 ≠ 30 := by decide
        exact this x hx
      rw [cM.2.2.1, (sm1 _ (by omega) (by omega)).2.2.2]
    · rw [cM.2.2.1, (sm1 _ (by omega) (by omega)).2.2.2]
    · rw [cM.2.2.1, (sm1 _ (by omega) (by omega)).2.2.2]
  refine ⟨g1, g4, e1, ?_, ?_⟩
  · unfold X8_image
    rw [if_pos (ms_c hm1), ms_p hm1, Option.bind_some, show X8_in (nI k) 0 2 = _ from in_rn (nI k) (n := 2) (by omega), Option.bind_some, rg_n (by omega), if_neg (show ¬ bI (decide (k < 2 + 1)) = 0 by simp [hk, bI]), nI_p1, show X8_copyAll (si g1 (b + 55) 0 0) (b + 55) 0 (nI (k + 1)) = _ from e3, Option.bind_some, ms_r54 hm3, Option.bind_some, asI_n (ms_k54 hm3) hk (by omega), Option.bind_some, hg4]
  · have sA : ∀ a, a < b + 46 → a ≠ b + 30 → sm h g4 a := fun a ha hne => (sm1 a (by omega) hne).tr (sm4 a (by omega))
    have g30 : ∀ i, ga g4 (b + 30) i = ga g (b + 30) i := fun i => by rw [cM.2.2.1, c1.2.2.1]
    refine IV_im hi (by rw [cM.1, c1.1]; exact hz1) (fun a ha => ?_) sA hfx ?_ (fun i hne => by rw [g30, h30 i hne]) (fun i hne => ?_) (fun a h1 h2 h3 => ?_) (fun w h1 h2 j => ?_) hne ?_
    · rw [cM.2.1, c1.2.1]
      by_cases e : a = b + 30
      · rw [e, h30k, k30]
      · exact (hsm a ha e).1
    · intro i hne a j h1 h2 h3 h4
      rw [cM.gi, (sm1 _ (by omega) (by omega)).2.1]
      rintro (w | ⟨u, u1, u2, u3, u4, u5⟩ | w)
      · omega
      · have : u = a := by omega
        subst this
        rcases Nat.lt_or_ge i (k + 1) with h5 | h5
        · have : mwd u * i + mwd u ≤ mwd u * (k + 1) := by rw [← Nat.mul_succ]; exact Nat.mul_le_mul_left _ h5
          omega
        · have : mwd u * (k + 1) + mwd u ≤ mwd u * i := by rw [← Nat.mul_succ]; exact Nat.mul_le_mul_left _ (by omega)
          omega
      · omega
    · rw [cM.gi, (sm1 _ (by omega) (by omega)).2.1]
      rintro (w | ⟨u, u1, u2, u3, _⟩ | w)
      · omega
      · omega
      · exact hne w.2
    · exact ((hsm a h2 (by omega)).tr (c1.sm (fun i w => by have := TW_im w; omega))).tr (sm4 a (by omega))
    · rw [cM.2.2.1, c1.2.2.1]; exact (hsm w h2 (by omega)).2.2.2 j
    · unfold IMk
      simp only
      have q : ∀ a, t ≤ a → sm g1 g4 a := fun a ha => sm4 a (by omega)
      have eα : ∀ j, iα t j = t + 5 + 12 * j := fun _ => rfl
      have el : ∀ s j, il t s j = t + 9 + 2 * s + 12 * j := fun _ _ => rfl
      refine ⟨by rw [g30]; exact h30t, by rw [hg4, gi_si, if_pos ⟨rfl, rfl⟩], ht1, by rw [cM.1, c1.1]; exact ht2, ToS_sm to1.1 (fun a h1 _ => q a h1), fun j hj => CS_sm (to1.2.1 j hj).2 (fun a h1 _ => q a (by have := eα j; omega)), fun s j h1 h2 h3 => LiS_sm (to1.2.2.1 s j h1 h2 h3).2 (q _ (by have := el s j; omega)) (q _ (by have := el s j; omega)), ?_, ?_, hd⟩
      · exact TD_sm td1 hd (fun a h1 _ => q a h1) (fun j hj => CQ_sm (td1.2.2.2.2.2.2.2.1 j hj) (fun a h1 _ => q a (by have := eα j; omega))) (fun s j h1 h2 h3 => ⟨q _ (by have := el s j; omega), q _ (by have := el s j; omega)⟩)
      · have hmd0 : MD (si g1 (b + 55) 0 0) (b + 55) 0 D := MD_keep2 (iv_m hi) hd (fun a j h1 h2 _ _ => by rw [gi_si, if_neg (by omega)]; exact (sm1 _ (by omega) (by omega)).2.1 j)
        have hmd := MD_copy (t := k + 1) hmd0 hd t3 r3
        exact MD_keep2 hmd hd (fun a j h1 h2 _ _ => by rw [hg4, gi_si, if_neg (by omega)])
theorem s_image {h : HA} {b : Nat} {D : DT} {α : Nat → Nat} {lm : Nat → Nat → Nat} {im : Nat → Option (Nat × DT)} (hi : IV h b D α lm im) (x : Int32) : STP b h (fun h => X7_image h b x) (fun h => X8_image h (b + 55) x) := by
  have hb := hi.1.2.2.2.2
  have kx := fx_x hi.1
  have i2 := IV_m0 hi 0 0
  have no : ∀ h1, IV h1 b D α lm im → rg x 3 = false → X8_image h1 (b + 55) x = some (0, si h1 (b + 55) 0 0) := by
    intro h1 i1 hr
    unfold X8_image
    rw [if_pos (ms_c (iv_ms i1)), ms_p (iv_ms i1), Option.bind_some, show X8_in x 0 2 = _ from in_rn x (n := 2) (by omega), Option.bind_some, show rg x (2 + 1) = false from hr, if_pos (by decide)]
  rcases i_nat x with hx | ⟨k, hk31, rfl⟩
  · refine ⟨0, h, _, D, α, lm, im, ?_, no h hi (neg_rg hx 3), i2⟩
    show X7_image h b x = _
    unfold X7_image
    rw [if_pos (fx_c hi.1), if_pos hx]
  · by_cases hk : k < 3
    · -- an image that is there, or a new one
      have fin : ∀ (g : HA) (t : Nat), hz h ≤ hz g → (∀ a, a < hz h → a ≠ b + 30 → sm h g a) → kd g (b + 30) = (24, 3) → (∀ i, i ≠ k → ga g (b + 30) i = ga h (b + 30) i) → ga g (b + 30) k = some t → TO g t (iα t) (il t) → b + 86 ≤ t → t + 29 ≤ hz g → (∀ i, i < 3 → i ≠ k → ∀ t1 D1, im i = some (t1, D1) → t1 ≠ t ∧ (t1 + 29 ≤ t ∨ t + 29 ≤ t1)) →
          (∀ g1, X5_copyFrom g t (b + 1) = some g1 → X7_image h b (nI k) = some (1, g1)) → STP b h (fun h => X7_image h b (nI k)) (fun h => X8_image h (b + 55) (nI k)) := by
        intro g t q1 q2 q3 q4 q5 q6 q7 q8 q9 q10
        obtain ⟨g1, g2, e1, e2, i3⟩ := image_fin hi hk q1 q2 q3 q4 q5 q6 q7 q8 q9
        exact ⟨1, g1, g2, D, α, lm, _, q10 g1 e1, e2, i3⟩
      have hk0 := hi.2.2.2.2.2.2.2.2.2.2.1 k hk
      have r30 := fx_rim hi.1
      have ld0 : ldN h (b + 30) 24 (nI k) = some (ga h (b + 30) k) := ldN_n (fx_kim hi.1) hk (by omega)
      unfold IMk at hk0
      cases hik : im k with
      | none =>
        rw [hik] at hk0
        simp only at hk0
        obtain ⟨h7, e7, z7, o7, p7⟩ := told_new h
        obtain ⟨t1, t2, t3, t4, _⟩ := p7
        have k30 : kd h7 (b + 30) = (24, 3) := by rw [(o7.2 _ (by omega)).1]; exact fx_kim hi.1
        have e8 : asR h7 (b + 30) 24 (nI k) (hz h) = some (sa h7 (b + 30) k (some (hz h))) := by
          unfold asR
          rw [k30, t1.1, inb_n (by omega), nI_clamp (by omega), if_pos ⟨rfl, by simpa using hk, rfl⟩]
        have eα : ∀ j, iα (hz h) j = hz h + 5 + 12 * j := fun _ => rfl
        have el : ∀ s j, il (hz h) s j = hz h + 9 + 2 * s + 12 * j := fun _ _ => rfl
        have q : ∀ a, hz h ≤ a → sm h7 (sa h7 (b + 30) k (some (hz h))) a := fun a ha => sm_sa (by omega)
        refine fin (sa h7 (b + 30) k (some (hz h))) (hz h) (by rw [hz_sa]; omega) (fun a ha hne => (o7.2 a ha).tr (sm_sa hne)) k30 (fun i hne => by rw [ga_sa, if_neg (fun z => hne z.2)]; exact (o7.2 _ (by omega)).2.2.2 i) (by rw [ga_sa, if_pos ⟨rfl, rfl⟩]) ?_ (by omega) (by rw [hz_sa]; omega) (fun i hi3 hne t1' D1' him => ?_) (fun g1 e1 => ?_)
        · refine ⟨ToS_sm t1 (fun a h1 _ => q a h1), fun j hj => ⟨?_, CS_sm (t3 j hj trivial).2.2 (fun a h1 _ => q a (by have := eα j; omega))⟩, fun s j h1 h2 h3 => ⟨?_, LiS_sm (t4 s j h1 h2 h3 trivial).2.2 (q _ (by have := el s j; omega)) (q _ (by have := el s j; omega))⟩, ?_, fun s h1 h2 => ?_⟩
          · rw [(q (hz h + 3) (by omega)).2.2.2]; exact (t3 j hj trivial).1
          · rw [(q (hz h + 4) (by omega)).2.2.2]; exact (t4 s j h1 h2 h3 trivial).1
          · have := eα 0; have := eα 1; omega
          · have := el s 0; have := el s 1; omega
        · have hk1 := hi.2.2.2.2.2.2.2.2.2.2.1 i hi3
          unfold IMk at hk1
          rw [him] at hk1
          simp only at hk1
          have := hk1.2.2.2.1
          omega
        · have kx7 : kd h7 b = (8, 0) := by rw [(o7.2 b (by omega)).1]; exact kx
          have rx : gR (sa h7 (b + 30) k (some (hz h))) b 8 1 = some (b + 30) := by
            rw [gR_n (show kd (sa h7 (b + 30) k (some (hz h))) b = (8, 0) from kx7), ga_sa, if_neg (by omega), (o7.2 b (by omega)).2.2.2]; exact hi.1.2.1 (0, 1, 30) (by decide)
          have rt : gR (sa h7 (b + 30) k (some (hz h))) b 8 0 = some (b + 1) := by
            rw [gR_n (show kd (sa h7 (b + 30) k (some (hz h))) b = (8, 0) from kx7), ga_sa, if_neg (by omega), (o7.2 b (by omega)).2.2.2]; exact hi.1.2.1 (0, 0, 1) (by decide)
          have ld8 : ldN (sa h7 (b + 30) k (some (hz h))) (b + 30) 24 (nI k) = some (some (hz h)) := by
            rw [ldN_n (show kd (sa h7 (b + 30) k (some (hz h))) (b + 30) = (24, 3) from k30) hk (by omega), ga_sa, if_pos ⟨rfl, rfl⟩]
          unfold X7_image
          rw [if_pos (fx_c hi.1), if_neg (nI_lt0 hk31), if_pos (show nI k < 3 from lt_lit (n := 3) hk (by omega)), r30, Option.bind_some, ld0, hk0.1, Option.bind_some]
          dsimp only [lett]
          rw [Option.bind_some, e7, Option.bind_some, e8, Option.bind_some, rx, Option.bind_some, ld8, Option.bind_some]
          dsimp only
          rw [rt, Option.bind_some, e1, Option.bind_some]
      | some qq =>
        obtain ⟨t, Dk⟩ := qq
        rw [hik] at hk0
        simp only at hk0
        obtain ⟨k1, k2, k3, k4, k5, k6, k7, k8, k9, k10⟩ := hk0
        have eα : ∀ j, iα t j = t + 5 + 12 * j := fun _ => rfl
        have el : ∀ s j, il t s j = t + 9 + 2 * s + 12 * j := fun _ _ => rfl
        refine fin h t (Nat.le_refl _) (fun a _ _ => sm_rf h a) (fx_kim hi.1) (fun i _ => rfl) k1 ?_ k3 k4 (fun i hi3 hne t1' D1' him => ?_) (fun g1 e1 => ?_)
        · exact ⟨k5, fun j hj => ⟨k8.2.2.2.2.2.1 j hj, k6 j hj⟩, fun s j h1 h2 h3 => ⟨k8.2.2.2.2.2.2.1 s j h1 h2 h3, k7 s j h1 h2 h3⟩, by have := eα 0; have := eα 1; omega, fun s h1 h2 => by have := el s 0; have := el s 1; omega⟩
        · have hne2 : t1' ≠ t := fun e => hne (hi.2.2.2.2.2.2.2.2.2.2.2.1 i k t D1' Dk hi3 hk (by rw [him, e]) hik)
          have hk1 := hi.2.2.2.2.2.2.2.2.2.2.1 i hi3
          unfold IMk at hk1
          rw [him] at hk1
          simp only at hk1
          obtain ⟨_, _, _, j4, j5, j6, j7, _⟩ := hk1
          refine ⟨hne2, ?_⟩
          rcases Nat.lt_or_ge t1' t with h1 | h1
          · rcases Nat.lt_or_ge t (t1' + 29) with h2 | h2
            · exact absurd k5.1 (img_kd j5 j6 j7 t h1 h2)
            · exact Or.inl h2
          · rcases Nat.lt_or_ge t1' (t + 29) with h2 | h2
            · exact absurd j5.1 (img_kd k5 k6 k7 t1' (by omega) h2)
            · exact Or.inr h2
        · unfold X7_image
          rw [if_pos (fx_c hi.1), if_neg (nI_lt0 hk31), if_pos (show nI k < 3 from lt_lit (n := 3) hk (by omega)), r30, Option.bind_some, ld0, k1, Option.bind_some]
          dsimp only
          rw [Option.bind_some, ld0, k1, Option.bind_some]
          dsimp only
          rw [fx_told hi.1, Option.bind_some, e1, Option.bind_some]
    · refine ⟨0, h, _, D, α, lm, im, ?_, no h hi (by rw [rg_n hk31]; simpa using hk), i2⟩
      show X7_image h b (nI k) = _
      unfold X7_image
      rw [if_pos (fx_c hi.1), if_neg (nI_lt0 hk31), if_neg (show ¬ nI k < 3 from nlt_lit (n := 3) (by omega) hk31)]
theorem nTW0 {h : HA} {t a : Nat} {α : Nat → Nat} {lm : Nat → Nat → Nat} (to : TO h t α lm) (hk : kd h a = (3, 0)) : ¬ TW t α lm a 0 := by
  rintro (⟨e, _⟩ | e | e | ⟨i, hi, e1, e2⟩ | ⟨u, i, u1, u2, u3, ⟨_, e⟩ | e⟩)
  · rw [e, to.1.1] at hk; exact absurd hk (by decide)
  · rw [e, to.1.2.1.2] at hk; exact absurd hk (by decide)
  · rw [e, to.1.2.2.1.2] at hk; exact absurd hk (by decide)
  · exact nk3 (to.2.1 i hi).2 e1 e2 hk
  · omega
  · have := (to.2.2.1 u i u1 u2 u3).2.2.2.2
    rw [e, this] at hk
    exact absurd (congrArg Prod.fst hk) (fun z => by simp at z)
theorem s_again {h : HA} {b : Nat} {D : DT} {α : Nat → Nat} {lm : Nat → Nat → Nat} {im : Nat → Option (Nat × DT)} (hi : IV h b D α lm im) (x : Int32) : STP b h (fun h => X7_again h b x) (fun h => X8_again h (b + 55) x) := by
  have hb := hi.1.2.2.2.2
  have i2 := IV_m0 hi 0 0
  have no : ∀ h1, IV h1 b D α lm im → (rg x 3 = false ∨ ∃ k, k < 3 ∧ x = nI k ∧ gi h1 (b + 85) k = 0) → X8_again h1 (b + 55) x = some (0, si h1 (b + 55) 0 0) := by
    intro h1 i1 hr
    have i3 := IV_m0 i1 0 0
    unfold X8_again
    rw [if_pos (ms_c (iv_ms i1)), ms_p (iv_ms i1), Option.bind_some, show X8_in x 0 2 = _ from in_rn x (n := 2) (by omega), Option.bind_some]
    rcases hr with hr | ⟨k, hk, rfl, hg⟩
    · rw [show rg x (2 + 1) = false from hr, if_pos (by decide)]
    · rw [rg_n (by omega), if_neg (show ¬ bI (decide (k < 2 + 1)) = 0 by simp [hk, bI]), ms_r54 (iv_ms i3), Option.bind_some, ldI_n (ms_k54 (iv_ms i3)) hk (by omega), show gi (si h1 (b + 55) 0 0) (b + 55 + 30) k = 0 by rw [gi_si, if_neg (by omega)]; exact hg, Option.bind_some, if_pos rfl]
  rcases i_nat x with hx | ⟨k, hk31, rfl⟩
  · refine ⟨0, h, _, D, α, lm, im, ?_, no h hi (Or.inl (neg_rg hx 3)), i2⟩
    show X7_again h b x = _
    unfold X7_again
    rw [if_pos (fx_c hi.1), if_pos hx]
  · by_cases hk : k < 3
    · have hk0 := hi.2.2.2.2.2.2.2.2.2.2.1 k hk
      have ld0 : ldN h (b + 30) 24 (nI k) = some (ga h (b + 30) k) := ldN_n (fx_kim hi.1) hk (by omega)
      unfold IMk at hk0
      cases hik : im k with
      | none =>
        rw [hik] at hk0
        simp only at hk0
        refine ⟨0, h, _, D, α, lm, im, ?_, no h hi (Or.inr ⟨k, hk, rfl, hk0.2⟩), i2⟩
        show X7_again h b (nI k) = _
        unfold X7_again
        rw [if_pos (fx_c hi.1), if_neg (nI_lt0 hk31), if_pos (show nI k < 3 from lt_lit (n := 3) hk (by omega)), fx_rim hi.1, Option.bind_some, ld0, hk0.1, Option.bind_some]
      | some qq =>
        obtain ⟨t, Dk⟩ := qq
        rw [hik] at hk0
        simp only at hk0
        obtain ⟨k1, k2, k3, k4, k5, k6, k7, k8, k9, k10⟩ := hk0
        have to := iv_to hi
        obtain ⟨g1, e1, c1, td1⟩ := told_copy to k5 k8 k10 k7 (fun a ha i w => by have := SA_im ha; have := TW_lo hi w; omega)
        have to1 := TO_ch to c1
        have nT : ∀ a, b + 46 ≤ a → ∀ i, ¬ TW (b + 1) α lm a i := fun a ha i w => by have := TW_lo hi w; omega
        have sm1 : ∀ a, b + 46 ≤ a → sm h g1 a := fun a ha => c1.sm (nT a ha)
        have hm1 : MS g1 (b + 55) := c1.ms (iv_ms hi)
        have c2 : ch (fun a i => a = b + 55 ∧ i = 0) g1 (si g1 (b + 55) 0 0) := ch_si ⟨rfl, rfl⟩
        have hm2 := c2.ms hm1
        obtain ⟨g3, e3, c3, t3, r3⟩ := copyAll_n (f := k + 1) (t := 0) hm2 (by omega) (by omega) (by omega)
        have cM : ch (fun a i => (a = b + 55 ∧ i = 0) ∨ WCA (b + 55) 0 a i) g1 g3 := (c2.mo (fun a i w => Or.inl w)).tr (c3.mo (fun a i w => Or.inr w))
        have nM : ∀ a i, ((a = b + 55 ∧ i = 0) ∨ WCA (b + 55) 0 a i) → b + 55 ≤ a ∧ a ≤ b + 64 := by
          rintro a i (w | ⟨j, j1, j2, j3, _⟩) <;> omega
        have sm3 : ∀ a, (a < b + 55 ∨ b + 65 ≤ a) → sm g1 g3 a := fun a ha => cM.sm (fun i w => by have := nM a i w; omega)
        have cA : ch (fun a i => TW (b + 1) α lm a i ∨ ((a = b + 55 ∧ i = 0) ∨ WCA (b + 55) 0 a i)) h g3 := (c1.mo (fun a i w => Or.inl w)).tr (cM.mo (fun a i w => Or.inr w))
        refine ⟨1, g1, g3, Dk, α, lm, im, ?_, ?_, ?_⟩
        · show X7_again h b (nI k) = _
          unfold X7_again
          rw [if_pos (fx_c hi.1), if_neg (nI_lt0 hk31), if_pos (show nI k < 3 from lt_lit (n := 3) hk (by omega)), fx_rim hi.1, Option.bind_some, ld0, k1, Option.bind_some]
          dsimp only
          rw [fx_told hi.1, Option.bind_some, Option.bind_some, ld0, k1, Option.bind_some]
          dsimp only
          rw [e1, Option.bind_some]
        · show X8_again g1 (b + 55) (nI k) = _
          unfold X8_again
          have g85 : gi (si g1 (b + 55) 0 0) (b + 55 + 30) k = 1 := by rw [gi_si, if_neg (by omega)]; exact ((sm1 (b + 85) (by omega)).2.1 k).trans k2
          rw [if_pos (ms_c hm1), ms_p hm1, Option.bind_some, show X8_in (nI k) 0 2 = _ from in_rn (nI k) (n := 2) (by omega), Option.bind_some, rg_n (by omega), if_neg (show ¬ bI (decide (k < 2 + 1)) = 0 by simp [hk, bI]), ms_r54 hm2, Option.bind_some, ldI_n (ms_k54 hm2) hk (by omega), g85, Option.bind_some, if_neg (by decide), nI_p1, show X8_copyAll (si g1 (b + 55) 0 0) (b + 55) (nI (k + 1)) 0 = _ from e3, Option.bind_some]
        · obtain ⟨a1, a2, a3, a4, a5, a6, a7, a8, a9, a10, a11, a12, a13⟩ := hi
          have to3 : ∀ a, (a < b + 55 ∨ b + 65 ≤ a) → sm g1 g3 a := sm3
          have ls3 : ∀ s j, 1 ≤ s → s < 4 → j < 3 → LiS g3 (lm s j) s := by
            intro s j h1 h2 hj
            obtain ⟨⟨l1, l2, l3, l4⟩, l5, l6⟩ := a4 s j h1 h2 hj
            refine ⟨by rw [cA.2.1]; exact l1, ?_, by rw [cA.2.2.1]; exact l3, by rw [cA.2.1]; exact l4⟩
            rw [cA.gi]
            · exact l2
            · rintro (w | w)
              · exact nTW0 to l1 w
              · have := nM _ _ w; omega
          have eTc := td1.2.2.2.2.2.1
          refine ⟨FX_ch a1 cA, fun j hj => ⟨CS_same (a2 j hj).1 (fun a _ _ => cA.2.1 a) (fun i => cA.2.2.1 _ i), (a2 j hj).2⟩, a3, fun s j h1 h2 hj => ⟨ls3 s j h1 h2 hj, (a4 s j h1 h2 hj).2⟩, a5, ?_, by rw [cA.2.2.1]; exact a7, fun s h1 h2 => by rw [cA.2.2.1]; exact a8 s h1 h2, ?_, k10, fun i hi3 => ?_, a12, ?_⟩
          · exact TD_sm td1 k10 (fun a h1 h2 => sm3 a (by omega)) (fun j hj => CQ_sm (td1.2.2.2.2.2.2.2.1 j hj) (fun a h1 h2 => sm3 a (by have := (a2 j (by have := k10.2.1 0 (by omega); omega)).2; omega))) (fun s j h1 h2 hj => ⟨sm3 _ (by have := (a4 s j h1 h2 (by omega)).2; omega), sm3 _ (by have := (a4 s j h1 h2 (by omega)).2; omega)⟩)
          · have hmd0 : MD (si g1 (b + 55) 0 0) (b + 55) (k + 1) Dk := MD_keep2 k9 k10 (fun a j h1 h2 _ _ => by rw [gi_si, if_neg (by omega)]; exact (sm1 _ (by omega)).2.1 j)
            exact MD_copy (t := 0) hmd0 k10 t3 r3
          · refine IMk_keep (a11 i hi3) (Nat.le_of_eq cA.1.symm) (fun a h1 _ => (sm1 a (by omega)).tr (sm3 a (by omega))) (by rw [cA.2.2.1]) (by rw [((sm1 (b + 85) (by omega)).tr (sm3 (b + 85) (by omega))).2.1]) (fun a j h1 h2 h3 => ?_)
            rw [cA.gi]
            rintro (w | w | ⟨u, u1, u2, u3, u4, u5⟩)
            · exact nT _ (by omega) j w
            · omega
            · have : u = a := by omega
              subst this
              rw [Nat.mul_zero, Nat.zero_add] at u5
              omega
          · rw [cA.2.2.1]
            rcases a13 with w | ⟨w, w1, w2, w3, w4⟩
            · exact Or.inl w
            · exact Or.inr ⟨w, w1, w2, by rw [cA.1]; exact w3, WS_ch w4 cA⟩
    · refine ⟨0, h, _, D, α, lm, im, ?_, no h hi (Or.inl (by rw [rg_n hk31]; simpa using hk)), i2⟩
      show X7_again h b (nI k) = _
      unfold X7_again
      rw [if_pos (fx_c hi.1), if_neg (nI_lt0 hk31), if_neg (show ¬ nI k < 3 from nlt_lit (n := 3) (by omega) hk31)]
