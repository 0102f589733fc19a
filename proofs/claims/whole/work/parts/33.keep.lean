/-! what stays, if only working cells change -/
def Sc (h : HA) (b : Nat) (α : Nat → Nat) (X : Nat → Prop) (a : Nat) : Prop := (b + 46 ≤ a ∧ a ≤ b + 55) ∨ (b + 65 ≤ a ∧ a ≤ b + 84) ∨ (∃ j, j < 3 ∧ X j ∧ α j ≤ a ∧ a ≤ α j + 5) ∨ kd h a = (21, 3904) ∨ kd h a = (21, 256) ∨ kd h a = (7, 0)
theorem cs_kk {h : HA} {c a : Nat} (hs : CS h c) (h1 : c ≤ a) (h2 : a ≤ c + 5) : (a = c ∧ kd h a = (1, 0)) ∨ (c < a ∧ (kd h a = (20, 30) ∨ kd h a = (20, 4) ∨ kd h a = (21, 114) ∨ kd h a = (21, 24))) := by
  have : a = c ∨ a = c + 1 ∨ a = c + 2 ∨ a = c + 3 ∨ a = c + 4 ∨ a = c + 5 := by omega
  rcases this with rfl | rfl | rfl | rfl | rfl | rfl
  · exact Or.inl ⟨rfl, hs.1⟩
  · exact Or.inr ⟨by omega, Or.inl (cs_k7 hs)⟩
  · exact Or.inr ⟨by omega, Or.inr (Or.inl (cs_k9 hs))⟩
  · exact Or.inr ⟨by omega, Or.inr (Or.inl (cs_k10 hs))⟩
  · exact Or.inr ⟨by omega, Or.inr (Or.inr (Or.inl (cs_k12 hs)))⟩
  · exact Or.inr ⟨by omega, Or.inr (Or.inr (Or.inr (cs_k13 hs)))⟩
theorem own {h : HA} {c a o : Nat} (hs : CS h c) (h1 : c ≤ a) (h2 : a ≤ c + 5) (h3 : o ≤ a) (h4 : (kd h o).1 < 20) (h5 : ∀ x, o < x → x ≤ a → 20 ≤ (kd h x).1) : o = c := by
  rcases Nat.lt_trichotomy o c with h6 | h6 | h6
  · have := h5 c h6 h1
    rw [hs.1] at this
    exact absurd this (by decide)
  · exact h6
  · rcases cs_kk hs (show c ≤ o by omega) (by omega) with ⟨z, _⟩ | ⟨_, z | z | z | z⟩
    · omega
    all_goals rw [z] at h4; exact absurd h4 (by decide)
theorem ts_kk {h : HA} {t a : Nat} (hs : ToS h t) (h1 : t ≤ a) (h2 : a ≤ t + 4) : (a = t ∧ kd h a = (6, 0)) ∨ (t < a ∧ (kd h a = (22, 600) ∨ kd h a = (20, 4) ∨ kd h a = (25, 2) ∨ kd h a = (26, 8))) := by
  obtain ⟨a1, ⟨a2, a3⟩, ⟨a4, a5⟩, ⟨a6, a7⟩, a8, a9⟩ := hs
  have : a = t ∨ a = t + 1 ∨ a = t + 2 ∨ a = t + 3 ∨ a = t + 4 := by omega
  rcases this with rfl | rfl | rfl | rfl | rfl
  · exact Or.inl ⟨rfl, a1⟩
  · exact Or.inr ⟨by omega, Or.inl a3⟩
  · exact Or.inr ⟨by omega, Or.inr (Or.inl a5)⟩
  · exact Or.inr ⟨by omega, Or.inr (Or.inr (Or.inl a7))⟩
  · exact Or.inr ⟨by omega, Or.inr (Or.inr (Or.inr a9))⟩
theorem lwx (s : Nat) : lwd s * lmx s = 120 ∨ lwd s * lmx s = 24 := by
  unfold lwd lmx
  split
  · left; rfl
  · split
    · right; rfl
    · right; rfl
/-- no walk's cell -/
def nwk (p : Nat × Nat) : Prop := p ≠ (21, 3904) ∧ p ≠ (21, 256) ∧ p ≠ (7, 0)
theorem nwk_c {h : HA} {c a : Nat} (hs : CS h c) (h1 : c ≤ a) (h2 : a ≤ c + 5) : nwk (kd h a) := by
  rcases cs_kk hs h1 h2 with ⟨_, z⟩ | ⟨_, z | z | z | z⟩ <;> rw [z] <;> unfold nwk <;> decide
theorem nwk_t {h : HA} {t a : Nat} (hs : ToS h t) (h1 : t ≤ a) (h2 : a ≤ t + 4) : nwk (kd h a) := by
  rcases ts_kk hs h1 h2 with ⟨_, z⟩ | ⟨_, z | z | z | z⟩ <;> rw [z] <;> unfold nwk <;> decide
theorem nwk_l {h : HA} {l s a : Nat} (hs : LiS h l s) (h1 : a = l ∨ a = l + 1) : nwk (kd h a) := by
  rcases h1 with rfl | rfl
  · rw [hs.1]; unfold nwk; decide
  · rw [hs.2.2.2]
    rcases lwx s with z | z <;> rw [z] <;> unfold nwk <;> decide
theorem nsc {h : HA} {b a : Nat} {α : Nat → Nat} {X : Nat → Prop} (h1 : a < b + 46 ∨ (b + 56 ≤ a ∧ a ≤ b + 64) ∨ b + 85 ≤ a) (h2 : nwk (kd h a)) (h3 : ¬ ∃ j, j < 3 ∧ X j ∧ α j ≤ a ∧ a ≤ α j + 5) : ¬ Sc h b α X a := by
  unfold Sc
  unfold nwk at h2
  rintro (w | w | w | w | w | w)
  · omega
  · omega
  · exact h3 w
  · exact h2.1 w
  · exact h2.2.1 w
  · exact h2.2.2 w
theorem ms_kk {h : HA} {m i : Nat} (hs : MS h m) (h1 : 1 ≤ i) (h2 : i ≤ 30) : (kd h (m + i)).1 = 20 ∨ (kd h (m + i)).1 = 22 ∨ (kd h (m + i)).1 = 23 := by
  have h3 := (hs.2 (i - 1) (by omega)).2
  rw [show i - 1 + 1 = i by omega] at h3
  rw [h3]
  have : ∀ j, j < 30 → (mrw.getD j (0, 0, 0)).2.1 = 20 ∨ (mrw.getD j (0, 0, 0)).2.1 = 22 ∨ (mrw.getD j (0, 0, 0)).2.1 = 23 := by decide
  exact this (i - 1) (by omega)
theorem FX_kd {h h1 : HA} {b : Nat} (hf : FX h b) (hz1 : hz h ≤ hz h1) (hk : ∀ a, a < hz h → kd h1 a = kd h a) (hr : ∀ x, x ∈ fxr → ga h1 (b + x.1) x.2.1 = ga h (b + x.1) x.2.1) (ht : ∀ k, k = 0 ∨ k = 4 ∨ k = 5 ∨ k = 6 → ga h1 (b + 1) k = ga h (b + 1) k) (hm : ∀ k, ga h1 (b + 55) k = ga h (b + 55) k) : FX h1 b := by
  obtain ⟨f1, f2, f3, f4, f5⟩ := hf
  refine ⟨fun x hx => ?_, fun x hx => ?_, ?_, ?_, by omega⟩
  · have : x.1 ≤ 54 := by
      have : ∀ x, x ∈ fxk → x.1 ≤ 54 := by decide
      exact this x hx
    rw [hk _ (by omega)]; exact f1 x hx
  · rw [hr x hx]; exact f2 x hx
  · obtain ⟨a1, ⟨a2, a3⟩, ⟨a4, a5⟩, ⟨a6, a7⟩, a8, a9⟩ := f3
    exact ⟨by rw [hk _ (by omega)]; exact a1, ⟨by rw [ht 0 (by omega)]; exact a2, by rw [hk _ (by omega)]; exact a3⟩, ⟨by rw [ht 4 (by omega)]; exact a4, by rw [hk _ (by omega)]; exact a5⟩, ⟨by rw [ht 5 (by omega)]; exact a6, by rw [hk _ (by omega)]; exact a7⟩, by rw [ht 6 (by omega)]; exact a8, by rw [hk _ (by omega)]; exact a9⟩
  · refine ⟨by rw [hk _ (by omega)]; exact f4.1, fun i hi => ?_⟩
    rw [hm, hk _ (by omega)]; exact f4.2 i hi
theorem FX_ch {W : Nat → Nat → Prop} {h h1 : HA} {b : Nat} (hf : FX h b) (p : ch W h h1) : FX h1 b :=
  FX_kd hf (Nat.le_of_eq p.1.symm) (fun a _ => p.2.1 a) (fun _ _ => p.2.2.1 _ _) (fun _ _ => p.2.2.1 _ _) (fun _ => p.2.2.1 _ _)
theorem WS_ch {W : Nat → Nat → Prop} {h h1 : HA} {w : Nat} (hf : WS h w) (p : ch W h h1) : WS h1 w := by
  obtain ⟨a1, ⟨a2, a3⟩, a4, a5⟩ := hf
  exact ⟨by rw [p.2.1]; exact a1, ⟨by rw [p.2.2.1]; exact a2, by rw [p.2.1]; exact a3⟩, by rw [p.2.2.1]; exact a4, by rw [p.2.1]; exact a5⟩
theorem IV_fr {h h1 : HA} {b : Nat} {D : DT} {α : Nat → Nat} {lm : Nat → Nat → Nat} {im : Nat → Option (Nat × DT)} (X : Nat → Prop) (hi : IV h b D α lm im) (f : fr (fun a _ => Sc h b α X a) h h1) (hx : FX h1 b) (hcs : ∀ j, j < 3 → X j → CS h1 (α j)) (hcq : ∀ j, j < dN D 0 → X j → CQ h1 (α j) (dC D j)) (hw : ∀ w, ga h b 5 = some w → WS h w → WS h1 w) :
    IV h1 b D α lm im := by
  obtain ⟨a1, a2, a3, a4, a5, a6, a7, a8, a9, a10, a11, a12, a13⟩ := hi
  obtain ⟨f1, f2, f3, f4, f5⟩ := a1
  have hz1 := f.1
  have smo : ∀ a, a < hz h → ¬ Sc h b α X a → sm h h1 a := fun a h1 h2 => fr.sm f h1 (fun _ => h2)
  -- the cells of a COURT that is not among these
  have sC : ∀ c, CS h c → (∀ j, j < 3 → X j → c ≠ α j) → c + 6 ≤ hz h → (c + 6 ≤ b + 46 ∨ b + 86 ≤ c) → ∀ a, c ≤ a → a ≤ c + 5 → sm h h1 a := by
    intro c hc hne hz2 hr a h2 h3
    refine smo a (by omega) (nsc (by omega) (nwk_c hc h2 h3) fun ⟨j, hj, hX, h4, h5⟩ => hne j hj hX ?_)
    refine own (a2 j hj).1 h4 h5 h2 (by rw [hc.1]; decide) fun x h6 h7 => ?_
    rcases cs_kk hc (show c ≤ x by omega) (by omega) with ⟨z, _⟩ | ⟨_, z | z | z | z⟩
    · omega
    all_goals rw [z]; decide
  have sT : ∀ t, ToS h t → t + 5 ≤ hz h → (t + 5 ≤ b + 46 ∨ b + 86 ≤ t) → ∀ a, t ≤ a → a ≤ t + 4 → sm h h1 a := by
    intro t ht hz2 hr a h2 h3
    refine smo a (by omega) (nsc (by omega) (nwk_t ht h2 h3) fun ⟨j, hj, hX, h4, h5⟩ => ?_)
    have e := own (a2 j hj).1 h4 h5 h2 (by rw [ht.1]; decide) fun x h6 h7 => ?_
    · have h8 := ht.1
      rw [e, (a2 j hj).1.1] at h8
      exact absurd h8 (by decide)
    · rcases ts_kk ht (show t ≤ x by omega) (by omega) with ⟨z, _⟩ | ⟨_, z | z | z | z⟩
      · omega
      all_goals rw [z]; decide
  have sL : ∀ l s, LiS h l s → l + 2 ≤ hz h → (l + 2 ≤ b + 46 ∨ b + 86 ≤ l) → sm h h1 l ∧ sm h h1 (l + 1) := by
    intro l s hl hz2 hr
    have key : ∀ a, a = l ∨ a = l + 1 → sm h h1 a := by
      intro a ha
      refine smo a (by omega) (nsc (by omega) (nwk_l hl ha) fun ⟨j, hj, hX, h4, h5⟩ => ?_)
      have e := own (a2 j hj).1 h4 h5 (show l ≤ a by omega) (by rw [hl.1]; decide) fun x h6 h7 => ?_
      · have h8 := hl.1
        rw [e, (a2 j hj).1.1] at h8
        exact absurd h8 (by decide)
      · have : x = l + 1 := by omega
        rw [this, hl.2.2.2]; exact Nat.le_refl 20
    exact ⟨key l (Or.inl rfl), key (l + 1) (Or.inr rfl)⟩
  have sK : ∀ o p, (o, p) ∈ fxk → o < 46 → (p ≠ (1, 0) ∧ p ≠ (20, 30) ∧ p ≠ (20, 4) ∧ p ≠ (21, 114) ∧ p ≠ (21, 24)) → nwk p → sm h h1 (b + o) := by
    intro o p hop ho hp hn
    have hk := f1 (o, p) hop
    simp only at hk
    refine smo _ (by omega) (nsc (by omega) (by rw [hk]; exact hn) fun ⟨j, hj, hX, h4, h5⟩ => ?_)
    rcases cs_kk (a2 j hj).1 h4 h5 with ⟨_, z⟩ | ⟨_, z | z | z | z⟩ <;> rw [hk] at z
    · exact hp.1 z
    · exact hp.2.1 z
    · exact hp.2.2.1 z
    · exact hp.2.2.2.1 z
    · exact hp.2.2.2.2 z
  have sM : ∀ i, (1 ≤ i ∧ i ≤ 9) ∨ i = 30 → sm h h1 (b + 55 + i) := by
    intro i hi
    refine smo _ (by omega) (nsc (by omega) ?_ fun ⟨j, hj, hX, h4, h5⟩ => by have := (a2 j hj).2; omega)
    unfold nwk
    refine ⟨?_, ?_, ?_⟩ <;>
    · intro z
      rcases ms_kk f4 (show 1 ≤ i by omega) (by omega) with w | w | w <;> rw [z] at w <;> exact absurd w (by decide)
  have s0 := sK 0 (8, 0) (by decide) (by omega) (by decide) (by unfold nwk; decide)
  have s30 := sK 30 (24, 3) (by decide) (by omega) (by decide) (by unfold nwk; decide)
  have s31 := sK 31 (4, 0) (by decide) (by omega) (by decide) (by unfold nwk; decide)
  have s38 := sK 38 (26, 4) (by decide) (by omega) (by decide) (by unfold nwk; decide)
  have smM : ∀ a, b + 55 + 1 ≤ a → a ≤ b + 55 + 9 → sm h h1 a := by
    intro a h2 h3
    have := sM (a - (b + 55)) (by omega)
    rwa [show b + 55 + (a - (b + 55)) = a by omega] at this
  have neα : ∀ i, i < 3 → ¬ X i → ∀ j, j < 3 → X j → α i ≠ α j := by
    intro i hi hn j hj hX e
    have := a3 i j hi hj e
    subst this; exact hn hX
  have sα : ∀ j, j < 3 → ¬ X j → ∀ a, α j ≤ a → a ≤ α j + 5 → sm h h1 a := by
    intro j hj hn
    have := a2 j hj
    exact sC (α j) this.1 (neα j hj hn) (by omega) (Or.inl this.2.2)
  refine ⟨hx, fun j hj => ?_, a3, fun s j h2 h3 h4 => ?_, a5, ?_, ?_, fun s h2 h3 => ?_, MD_sm a9 smM, a10, fun k hk => ?_, a12, ?_⟩
  · refine ⟨?_, (a2 j hj).2⟩
    by_cases e : X j
    · exact hcs j hj e
    · exact CS_sm (a2 j hj).1 (sα j hj e)
  · have := a4 s j h2 h3 h4
    have q := sL (lm s j) s this.1 (by omega) (Or.inl this.2.2)
    exact ⟨LiS_sm this.1 q.1 q.2, this.2⟩
  · refine TD_sm a6 a10 (sT (b + 1) f3 (by omega) (Or.inl (by omega))) (fun j hj => ?_) (fun s j h2 h3 h4 => ?_)
    · by_cases e : X j
      · exact hcq j hj e
      · exact CQ_sm (a6.2.2.2.2.2.2.2.1 j hj) (sα j (by have := a10.2.1 0 (by omega); omega) e)
    · have := a4 s j h2 h3 (by omega)
      exact sL (lm s j) s this.1 (by omega) (Or.inl this.2.2)
  · rw [s31.2.2.2]; exact a7
  · rw [s38.2.2.2]; exact a8 s h2 h3
  · have hk0 := a11 k hk
    unfold IMk at hk0 ⊢
    cases hik : im k with
    | none =>
      rw [hik] at hk0
      simp only at hk0 ⊢
      rw [s30.2.2.2, show b + 85 = b + 55 + 30 by omega, (sM 30 (by omega)).2.1]
      exact hk0
    | some q =>
      obtain ⟨t, Dk⟩ := q
      rw [hik] at hk0
      simp only at hk0 ⊢
      obtain ⟨k1, k2, k3, k4, k5, k6, k7, k8, k9, k10⟩ := hk0
      have qC : ∀ j, j < 2 → ∀ a, iα t j ≤ a → a ≤ iα t j + 5 → sm h h1 a := by
        intro j hj
        have e : iα t j = t + 5 + 12 * j := rfl
        exact sC (iα t j) (k6 j hj) (fun i hi _ => by have := (a2 i hi).2; omega) (by omega) (Or.inr (by omega))
      have qL : ∀ s j, 1 ≤ s → s < 4 → j < 2 → sm h h1 (il t s j) ∧ sm h h1 (il t s j + 1) := by
        intro s j h2 h3 h4
        have e : il t s j = t + 9 + 2 * s + 12 * j := rfl
        exact sL (il t s j) s (k7 s j h2 h3 h4) (by omega) (Or.inr (by omega))
      have qT := sT t k5 (by omega) (Or.inr (by omega))
      refine ⟨by rw [s30.2.2.2]; exact k1, by rw [show b + 85 = b + 55 + 30 by omega, (sM 30 (by omega)).2.1]; exact k2, k3, by omega, ToS_sm k5 qT, fun j hj => CS_sm (k6 j hj) (qC j hj), fun s j h2 h3 h4 => LiS_sm (k7 s j h2 h3 h4) (qL s j h2 h3 h4).1 (qL s j h2 h3 h4).2, TD_sm k8 k10 qT (fun j hj => CQ_sm (k8.2.2.2.2.2.2.2.1 j hj) (qC j (by have := k10.2.1 0 (by omega); omega))) qL, MD_sm k9 smM, k10⟩
  · rw [show ga h1 b 5 = ga h b 5 from s0.2.2.2 5]
    rcases a13 with w | ⟨w, w1, w2, w3, w4⟩
    · exact Or.inl w
    · exact Or.inr ⟨w, w1, w2, by omega, hw w w1 w4⟩
theorem IV_ch {W : Nat → Nat → Prop} {h h1 : HA} {b : Nat} {D : DT} {α : Nat → Nat} {lm : Nat → Nat → Nat} {im : Nat → Option (Nat × DT)} (hi : IV h b D α lm im) (p : ch W h h1) (hw : ∀ a k, W a k → Sc h b α (fun j => j = 2) a) : IV h1 b D α lm im := by
  refine IV_fr (fun j => j = 2) hi (p.fr.mo fun a k _ w => hw a k w) (FX_ch hi.1 p) (fun j hj e => ?_) (fun j hj e => ?_) (fun w _ hs => WS_ch hs p)
  · exact CS_same (hi.2.1 j hj).1 (fun a _ _ => p.2.1 a) (fun k => p.2.2.1 _ k)
  · have := hi.2.2.2.2.2.2.2.2.2.1.2.1 0 (by omega); omega
