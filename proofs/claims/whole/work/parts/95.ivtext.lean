/-! TEXT: the whole state after a text -/
theorem iv_nc {h : HA} {b : Nat} {D : DT} {α : Nat → Nat} {lm : Nat → Nat → Nat} {im : Nat → Option (Nat × DT)} (hi : IV h b D α lm im) {j a : Nat} (hj : j < 3) (h1 : α j ≤ a) (h2 : a ≤ α j + 5) : a ≠ b ∧ a ≠ b + 1 ∧ a ≠ b + 2 ∧ a ≠ b + 3 ∧ a ≠ b + 4 ∧ a ≠ b + 5 ∧ a ≠ b + 31 ∧ a ≠ b + 38 ∧ a ≠ b + 39 ∧ a < b + 46 ∧ b ≤ a := by
  obtain ⟨cs, r1, r2⟩ := hi.2.1 j hj
  have hf := hi.1
  have ts := hf.2.2.1
  have kb : kd h b = (8, 0) := fx_x hf
  have k1 : kd h (b + 1) = (6, 0) := ts.1
  have k2 : kd h (b + 2) = (22, 600) := ts.2.1.2
  have k3 : kd h (b + 3) = (20, 4) := fx_kcnt hf
  have k4 : kd h (b + 4) = (25, 2) := fx_kcrt hf
  have k5 : kd h (b + 5) = (26, 8) := fx_klst hf
  have k31 : kd h (b + 31) = (4, 0) := hf.1 (31, (4, 0)) (by decide)
  have k38 : kd h (b + 38) = (26, 4) := hf.1 (38, (26, 4)) (by decide)
  have k39 : kd h (b + 39) = (20, 4) := hf.1 (39, (20, 4)) (by decide)
  have q0 := cs.1
  have q1 := cs_k7 cs
  have q2 := cs_k9 cs
  have ne : ∀ x p, kd h x = p → p.1 ≠ 1 → p.1 ≠ 20 → p.1 ≠ 21 → a ≠ x := by
    intro x p hx h3 h4 h5 e
    rcases cs_kk cs h1 h2 with ⟨_, z⟩ | ⟨_, z | z | z | z⟩ <;> (rw [e, hx] at z; rw [z] at h3 h4 h5; simp at h3 h4 h5)
  have pl : a ≠ b + 3 ∧ a ≠ b + 39 := by
    have c6 : a = α j ∨ a = α j + 1 ∨ a = α j + 2 ∨ a = α j + 3 ∨ a = α j + 4 ∨ a = α j + 5 := by omega
    refine ⟨fun e => ?_, fun e => ?_⟩
    · rcases c6 with z | z | z | z | z | z
      · rw [← z, e, k3] at q0; exact absurd q0 (by decide)
      · rw [← z, e, k3] at q1; exact absurd q1 (by decide)
      · rw [show α j = b + 1 by omega, k1] at q0; exact absurd q0 (by decide)
      · rw [show α j = b by omega, kb] at q0; exact absurd q0 (by decide)
      · omega
      · omega
    · rcases c6 with z | z | z | z | z | z
      · rw [← z, e, k39] at q0; exact absurd q0 (by decide)
      · rw [← z, e, k39] at q1; exact absurd q1 (by decide)
      · rw [show α j + 1 = b + 38 by omega, k38] at q1; exact absurd q1 (by decide)
      · rw [show α j + 2 = b + 38 by omega, k38] at q2; exact absurd q2 (by decide)
      · have q4 := cs_k12 cs
        rw [← z, e, k39] at q4; exact absurd q4 (by decide)
      · have q5 := cs_k13 cs
        rw [← z, e, k39] at q5; exact absurd q5 (by decide)
  refine ⟨ne b _ kb (by decide) (by decide) (by decide), ne _ _ k1 (by decide) (by decide) (by decide), ne _ _ k2 (by decide) (by decide) (by decide), pl.1, ne _ _ k4 (by decide) (by decide) (by decide), ne _ _ k5 (by decide) (by decide) (by decide), ne _ _ k31 (by decide) (by decide) (by decide), ne _ _ k38 (by decide) (by decide) (by decide), pl.2, by omega, by omega⟩
theorem iv_nl {h : HA} {b : Nat} {D : DT} {α : Nat → Nat} {lm : Nat → Nat → Nat} {im : Nat → Option (Nat × DT)} (hi : IV h b D α lm im) {s j a : Nat} (s1 : 1 ≤ s) (s4 : s < 4) (hj : j < 3) (ha : a = lm s j ∨ a = lm s j + 1) : a ≠ b ∧ a ≠ b + 1 ∧ a ≠ b + 2 ∧ a ≠ b + 3 ∧ a ≠ b + 4 ∧ a ≠ b + 5 ∧ a ≠ b + 31 ∧ a ≠ b + 38 ∧ a ≠ b + 39 ∧ a < b + 46 ∧ b ≤ a := by
  obtain ⟨li, r1, r2⟩ := hi.2.2.2.1 s j s1 s4 hj
  have hf := hi.1
  have ts := hf.2.2.1
  have hk : kd h a = (3, 0) ∨ kd h a = (20, 120) ∨ kd h a = (20, 24) := by
    rcases ha with e | e
    · rw [e]; exact Or.inl li.1
    · rw [e, li.2.2.2]
      rcases lwx s with z | z <;> rw [z]
      · exact Or.inr (Or.inl rfl)
      · exact Or.inr (Or.inr rfl)
  have ne : ∀ x p, kd h x = p → p ≠ (3, 0) → p ≠ (20, 120) → p ≠ (20, 24) → a ≠ x := by
    intro x p hx h3 h4 h5 e
    rw [e, hx] at hk
    rcases hk with z | z | z
    · exact h3 z
    · exact h4 z
    · exact h5 z
  refine ⟨ne b _ (fx_x hf) (by decide) (by decide) (by decide), ne _ _ ts.1 (by decide) (by decide) (by decide), ne _ _ ts.2.1.2 (by decide) (by decide) (by decide), ne _ _ (fx_kcnt hf) (by decide) (by decide) (by decide), ne _ _ (fx_kcrt hf) (by decide) (by decide) (by decide), ne _ _ (fx_klst hf) (by decide) (by decide) (by decide), ne _ _ (hf.1 (31, (4, 0)) (by decide)) (by decide) (by decide) (by decide), ne _ _ (hf.1 (38, (26, 4)) (by decide)) (by decide) (by decide) (by decide), ne _ _ (hf.1 (39, (20, 4)) (by decide)) (by decide) (by decide) (by decide), by omega, by omega⟩
theorem sep_CC {h : HA} {c d a : Nat} (hc : CS h c) (hd : CS h d) (h1 : c ≤ a) (h2 : a ≤ c + 5) (h3 : d ≤ a) (h4 : a ≤ d + 5) : d = c := by
  refine own hc h1 h2 h3 (by rw [hd.1]; decide) (fun x h5 h6 => ?_)
  rcases cs_kk hd (show d ≤ x by omega) (by omega) with ⟨z, _⟩ | ⟨_, z | z | z | z⟩
  · omega
  all_goals rw [z]; decide
theorem sep_CL {h : HA} {c l s a : Nat} (hc : CS h c) (hl : LiS h l s) (ha : a = l ∨ a = l + 1) (h1 : c ≤ a) (h2 : a ≤ c + 5) : False := by
  rcases ha with e | e
  · exact nk3 hc h1 h2 (by rw [e]; exact hl.1)
  · exact nkl (s := s) hc h1 h2 (by rw [e]; exact hl.2.2.2)
theorem sep_LL {h : HA} {l d u s a : Nat} (hl : LiS h l u) (hd : LiS h d s) (u1 : 1 ≤ u) (u4 : u < 4) (s1 : 1 ≤ s) (s4 : s < 4) (ha : a = l ∨ a = l + 1) (hb : a = d ∨ a = d + 1) : l = d ∧ u = s := by
  have e : l = d := by
    have z1 := hl.1
    have z2 := hl.2.2.2
    have w1 := hd.1
    have w2 := hd.2.2.2
    rcases ha with e1 | e1 <;> rcases hb with e2 | e2
    · omega
    · rw [show l = d + 1 by omega, w2] at z1
      exact absurd (congrArg Prod.fst z1) (fun z => by simp at z)
    · rw [show d = l + 1 by omega, z2] at w1
      exact absurd (congrArg Prod.fst w1) (fun z => by simp at z)
    · omega
  refine ⟨e, ?_⟩
  have z := hl.2.1
  rw [e, hd.2.1] at z
  have q : ∀ s, 1 ≤ s → s < 4 → lwd s = 5 - s := by
    intro s h1 h2
    have : s = 1 ∨ s = 2 ∨ s = 3 := by omega
    rcases this with e | e | e <;> subst e <;> rfl
  have e3 : lwd s = lwd u := nI_inj (by rw [q s s1 s4]; omega) (by rw [q u u1 u4]; omega) z
  rw [q s s1 s4, q u u1 u4] at e3
  omega
def Wti (b : Nat) (α : Nat → Nat) (lm : Nat → Nat → Nat) (s : Nat) : Nat → Nat → Prop := fun a k => (a = b + 1 ∧ 1 ≤ k ∧ k ≤ 3) ∨ a = b + 3 ∨ a = b + 31 ∨ a = b + 39 ∨ (α 2 ≤ a ∧ a ≤ α 2 + 5) ∨ (1 ≤ s ∧ ((a = lm s 2 ∧ k = 2) ∨ a = lm s 2 + 1)) ∨ a = b + 55 ∨ (∃ i, 1 ≤ i ∧ i ≤ 9 ∧ a = b + 55 + i ∧ k < mwd i) ∨ (b + 65 ≤ a ∧ a ≤ b + 67)
def Wtg (b : Nat) : Nat → Nat → Prop := fun a k => (a = b + 31 ∧ (k = 0 ∨ k = 4)) ∨ a = b + 4 ∨ a = b + 5 ∨ a = b + 38
theorem IV_text {h h2 : HA} {b : Nat} {D : DT} {α : Nat → Nat} {lm : Nat → Nat → Nat} {im : Nat → Option (Nat × DT)} (hi : IV h b D α lm im) {s : Nat} (s4 : s < 4) (hzE : hz h2 = hz h) (hkd : ∀ a, kd h2 a = kd h a) (hij : ∀ a k, ¬ Wti b α lm s a k → gi h2 a k = gi h a k ∧ gj h2 a k = gj h a k) (hg : ∀ a k, ¬ Wtg b a k → ga h2 a k = ga h a k)
    {D' : DT} {α' : Nat → Nat} {lm' : Nat → Nat → Nat} (hα : ∀ j, j < 3 → ∃ i, i < 3 ∧ α' j = α i) (hαi : ∀ i j, i < 3 → j < 3 → α' i = α' j → i = j)
    (hl : ∀ u j, 1 ≤ u → u < 4 → j < 3 → ∃ i, i < 3 ∧ lm' u j = lm u i) (hli : ∀ u i j, 1 ≤ u → u < 4 → i < 3 → j < 3 → lm' u i = lm' u j → i = j)
    (d0 : dL D' = 0) (t1 : gi h2 (b + 1) 1 = 0 ∧ gi h2 (b + 1) 2 = dF D' ∧ gi h2 (b + 1) 3 = dP D') (t5 : ∀ u, u < 4 → gi h2 (b + 3) u = nI (dN D' u)) (t6 : ∀ j, j < 2 → ga h2 (b + 4) j = some (α' j)) (t7 : ∀ u j, 1 ≤ u → u < 4 → j < 2 → ga h2 (b + 5) (2 * u + j) = some (lm' u j))
    (t8 : ∀ j, j < dN D' 0 → (∃ i, i < dN D 0 ∧ α' j = α i ∧ dC D' j = dC D i) ∨ CQ h2 (α' j) (dC D' j))
    (t9 : ∀ u j, 1 ≤ u → u < 4 → j < dN D' u → (∃ i, i < dN D u ∧ lm' u j = lm u i ∧ dR D' u j = dR D u i) ∨ LL h2 (lm' u j) u (dR D' u j))
    (t10 : ga h2 (b + 31) 0 = some (α' 2)) (t11 : ∀ u, 1 ≤ u → u < 4 → ga h2 (b + 38) u = some (lm' u 2)) (t12 : MD h2 (b + 55) 0 D') (t13 : WD D') : IV h2 b D' α' lm' im := by
  have hi0 := hi
  obtain ⟨a1, a2, a3, a4, a5, a6, a7, a8, a9, a10, a11, a12, a13⟩ := hi
  have gaC : ∀ j, j < 3 → ∀ a, α j ≤ a → a ≤ α j + 5 → ∀ k, ga h2 a k = ga h a k := fun j hj a h1 h3 k => by
    have n := iv_nc hi0 hj h1 h3
    exact hg a k (by unfold Wtg; omega)
  have gaL : ∀ u j, 1 ≤ u → u < 4 → j < 3 → ∀ a, (a = lm u j ∨ a = lm u j + 1) → ∀ k, ga h2 a k = ga h a k := fun u j h1 h3 hj a ha k => by
    have n := iv_nl hi0 h1 h3 hj ha
    exact hg a k (by unfold Wtg; omega)
  have cs2 : ∀ j, j < 3 → CS h2 (α j) := fun j hj => CS_same (a2 j hj).1 (fun a _ _ => hkd a) (fun k => gaC j hj _ (Nat.le_refl _) (by omega) k)
  have li2 : ∀ u j, 1 ≤ u → u < 4 → j < 3 → LiS h2 (lm u j) u := by
    intro u j h1 h3 hj
    have q := (a4 u j h1 h3 hj).1
    have n := iv_nl hi0 h1 h3 hj (Or.inl rfl)
    refine ⟨by rw [hkd]; exact q.1, ?_, by rw [gaL u j h1 h3 hj _ (Or.inl rfl)]; exact q.2.2.1, by rw [hkd]; exact q.2.2.2⟩
    rw [(hij (lm u j) 0 (fun w => ?_)).1]
    · exact q.2.1
    · rcases w with w | w | w | w | w | ⟨s1, w⟩ | w | ⟨i, _, _, w, _⟩ | w
      · omega
      · omega
      · omega
      · omega
      · exact sep_CL (a2 2 (by omega)).1 q (Or.inl rfl) w.1 w.2
      · rcases w with w | w
        · omega
        · have q2 := (a4 s 2 s1 s4 (by omega)).1.2.2.2
          rw [← w, q.1] at q2
          exact absurd (congrArg Prod.fst q2) (fun z => by simp at z)
      · omega
      · omega
      · omega
  have smC : ∀ j, j < 2 → ∀ a, α j ≤ a → a ≤ α j + 5 → sm h h2 a := by
    intro j hj a h1 h3
    have n := iv_nc hi0 (show j < 3 by omega) h1 h3
    have nw : ∀ k, ¬ Wti b α lm s a k := by
      intro k w
      rcases w with w | w | w | w | w | ⟨s1, w⟩ | w | ⟨i, _, _, w, _⟩ | w
      · omega
      · omega
      · omega
      · omega
      · have := sep_CC (a2 j (by omega)).1 (a2 2 (by omega)).1 h1 h3 w.1 w.2
        have := a3 2 j (by omega) (by omega) this
        omega
      · exact sep_CL (a2 j (by omega)).1 (a4 s 2 s1 s4 (by omega)).1 (by omega) h1 h3
      · omega
      · omega
      · omega
    exact ⟨hkd a, fun k => (hij a k (nw k)).1, fun k => (hij a k (nw k)).2, fun k => gaC j (by omega) a h1 h3 k⟩
  have smL : ∀ u j, 1 ≤ u → u < 4 → j < 2 → sm h h2 (lm u j) ∧ sm h h2 (lm u j + 1) := by
    intro u j h1 h3 hj
    have q := (a4 u j h1 h3 (by omega)).1
    have key : ∀ a, (a = lm u j ∨ a = lm u j + 1) → sm h h2 a := by
      intro a ha
      have n := iv_nl hi0 h1 h3 (show j < 3 by omega) ha
      have nw : ∀ k, ¬ Wti b α lm s a k := by
        intro k w
        rcases w with w | w | w | w | w | ⟨s1, w⟩ | w | ⟨i, _, _, w, _⟩ | w
        · omega
        · omega
        · omega
        · omega
        · exact sep_CL (a2 2 (by omega)).1 q ha w.1 w.2
        · obtain ⟨e1, e2⟩ := sep_LL q (a4 s 2 s1 s4 (by omega)).1 h1 h3 s1 s4 ha (by omega)
          subst e2
          have := a5 u j 2 h1 h3 (by omega) (by omega) e1
          omega
        · omega
        · omega
        · omega
      exact ⟨hkd a, fun k => (hij a k (nw k)).1, fun k => (hij a k (nw k)).2, fun k => gaL u j h1 h3 (by omega) a ha k⟩
    exact ⟨key _ (Or.inl rfl), key _ (Or.inr rfl)⟩
  have hb46 : ∀ a k, b + 86 ≤ a → ¬ Wti b α lm s a k := by
    intro a k ha w
    have r2 := (a2 2 (by omega)).2
    rcases w with w | w | w | w | w | ⟨s1, w⟩ | w | ⟨i, _, _, w, _⟩ | w
    · omega
    · omega
    · omega
    · omega
    · omega
    · have r3 := (a4 s 2 s1 s4 (by omega)).2
      omega
    · omega
    · omega
    · omega
  have far : ∀ a, b + 86 ≤ a → sm h h2 a := fun a ha => ⟨hkd a, fun k => (hij a k (hb46 a k ha)).1, fun k => (hij a k (hb46 a k ha)).2, fun k => hg a k (by unfold Wtg; omega)⟩
  have hfx : FX h2 b := by
    refine FX_kd a1 (Nat.le_of_eq hzE.symm) (fun a _ => hkd a) (fun x hx => ?_) (fun k _ => ?_) (fun k => ?_)
    · have : ∀ x, x ∈ fxr → x.1 ≠ 4 ∧ x.1 ≠ 5 ∧ x.1 ≠ 38 ∧ (x.1 = 31 → x.2.1 ≠ 0 ∧ x.2.1 ≠ 4) := by decide
      have := this x hx
      exact hg _ _ (by unfold Wtg; omega)
    · exact hg _ _ (by unfold Wtg; omega)
    · exact hg _ _ (by unfold Wtg; omega)
  have n2 := a10.2.1
  refine ⟨hfx, fun j hj => ?_, hαi, fun u j h1 h3 hj => ?_, hli, ?_, t10, t11, t12, t13, fun k hk => ?_, a12, ?_⟩
  · obtain ⟨i, i1, i2⟩ := hα j hj
    rw [i2]; exact ⟨cs2 i i1, (a2 i i1).2⟩
  · obtain ⟨i, i1, i2⟩ := hl u j h1 h3 hj
    rw [i2]; exact ⟨li2 u i h1 h3 i1, (a4 u i h1 h3 i1).2⟩
  · refine ⟨by rw [t1.1, d0]; rfl, t1.2.1, t1.2.2, fun f hf => by omega, t5, t6, t7, fun j hj => ?_, fun u j h1 h3 hj => ?_⟩
    · rcases t8 j hj with ⟨i, i1, i2, i3⟩ | z
      · rw [i2, i3]
        exact CQ_sm (a6.2.2.2.2.2.2.2.1 i i1) (smC i (by have := n2 0 (by omega); omega))
      · exact z
    · rcases t9 u j h1 h3 hj with ⟨i, i1, i2, i3⟩ | z
      · rw [i2, i3]
        have := smL u i h1 h3 (by have := n2 u h3; omega)
        exact LL_sm (a6.2.2.2.2.2.2.2.2 u i h1 h3 i1) this.1 this.2
      · exact z
  · refine IMk_keep (a11 k hk) (Nat.le_of_eq hzE.symm) (fun a h1 _ => far a h1) (hg _ _ (by unfold Wtg; omega)) ?_ (fun a j h1 h3 h4 => ?_)
    · refine (hij _ _ (fun w => ?_)).1
      have r2 := (a2 2 (by omega)).2
      rcases w with w | w | w | w | w | ⟨s1, w⟩ | w | ⟨i, _, _, w, _⟩ | w
      · omega
      · omega
      · omega
      · omega
      · omega
      · have r3 := (a4 s 2 s1 s4 (by omega)).2
        omega
      · omega
      · omega
      · omega
    · refine (hij _ _ (fun w => ?_)).1
      have r2 := (a2 2 (by omega)).2
      rcases w with w | w | w | w | w | ⟨s1, w⟩ | w | ⟨i, i1, i2, w, w'⟩ | w
      · omega
      · omega
      · omega
      · omega
      · omega
      · have r3 := (a4 s 2 s1 s4 (by omega)).2
        omega
      · omega
      · rw [show i = a by omega] at w'; omega
      · omega
  · rw [hg _ _ (by unfold Wtg; omega)]
    rcases a13 with w | ⟨w, w1, w2, w3, w4, ⟨w5, w6⟩, w7, w8⟩
    · exact Or.inl w
    · exact Or.inr ⟨w, w1, w2, by rw [hzE]; exact w3, by rw [hkd]; exact w4, ⟨by rw [(far w w2).2.2.2]; exact w5, by rw [hkd]; exact w6⟩, by rw [(far w w2).2.2.2]; exact w7, by rw [hkd]; exact w8⟩
