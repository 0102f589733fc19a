/-! A SEARCH IN BREADTH by acts in their order: hours A, those come to q (n of them), where from cm, by which act dd, the way's number e (6 times the place, and the act); E ways are done -/
def BQ (nx : Nat → Nat → Option Nat) (V : Nat → Nat → Prop) (g0 : Nat) (A q cm dd e : Nat → Nat) (n E : Nat) : Prop :=
  (1 ≤ n ∧ q 0 = g0 ∧ A g0 = 0 ∧ E ≤ 6 * n) ∧ (n + cnt (fun f => decide (A f = 1000)) 16384 = 16384) ∧
  (∀ i, i < n → q i < 16384 ∧ A (q i) ≤ 60 ∧ V (q i) (A (q i))) ∧
  (∀ f, f < 16384 → A f = 1000 ∨ ∃ i, i < n ∧ q i = f) ∧
  (∀ j, 1 ≤ j → j < n → e j < E ∧ e j / 6 < j ∧ A (q (e j / 6)) < 60 ∧ nx (q (e j / 6)) (e j % 6) = some (q j) ∧ A (q j) = A (q (e j / 6)) + 1 ∧ cm (q j) = q (e j / 6) ∧ dd (q j) = e j % 6) ∧
  (∀ i j, 1 ≤ i → i < j → j < n → e i < e j) ∧
  (∀ i j, i ≤ j → j < n → A (q i) ≤ A (q j)) ∧
  (∀ j, j < n → E / 6 < n → A (q j) ≤ A (q (E / 6)) + 1) ∧
  (∀ x s, x < E → x / 6 < n → A (q (x / 6)) < 60 → nx (q (x / 6)) (x % 6) = some s → ∃ j, j < n ∧ q j = s ∧ A s ≤ A (q (x / 6)) + 1 ∧ (j = 0 ∨ e j ≤ x))
theorem BQ_init {nx : Nat → Nat → Option Nat} {V : Nat → Nat → Prop} {g0 : Nat} (hg : g0 < 16384) (hv : V g0 0) (cm dd e : Nat → Nat) : BQ nx V g0 (fset (fun _ => 1000) g0 0) (fset (fun _ => 0) 0 g0) cm dd e 1 0 := by
  refine ⟨⟨Nat.le_refl _, fset_eq _ _ _, fset_eq _ _ _, by omega⟩, ?_, ?_, ?_, ?_, ?_, ?_, ?_, ?_⟩
  · have h1 := cnt_off (p := fun _ => true) (q := fun f => decide (fset (fun _ => 1000) g0 0 f = 1000)) hg rfl (by simp [fset]) (fun i _ hi => by simp [fset, hi])
    rw [cnt_all] at h1
    omega
  · intro i hi
    have : i = 0 := by omega
    subst this
    rw [fset_eq, fset_eq]
    exact ⟨hg, by omega, hv⟩
  · intro f _
    by_cases h : f = g0
    · right; exact ⟨0, by omega, by rw [fset_eq, h]⟩
    · left; rw [fset_ne h]
  · intro j h1 h2; omega
  · intro i j _ _ h; omega
  · intro i j h1 h2
    have : j = 0 := by omega
    have : i = 0 := by omega
    subst_vars; exact Nat.le_refl _
  · intro j h1 _
    have : j = 0 := by omega
    subst_vars; rw [fset_eq, fset_eq]; omega
  · intro x s h; omega
theorem BQ_n {nx : Nat → Nat → Option Nat} {V : Nat → Nat → Prop} {g0 : Nat} {A q cm dd e : Nat → Nat} {n E : Nat} (h : BQ nx V g0 A q cm dd e n E) : n ≤ 16384 := by have := h.2.1; omega
theorem BQ_skip {nx : Nat → Nat → Option Nat} {V : Nat → Nat → Prop} {g0 : Nat} {A q cm dd e : Nat → Nat} {n E : Nat} (h : BQ nx V g0 A q cm dd e n E) (hk : E / 6 < n) (h1 : ∀ s, nx (q (E / 6)) (E % 6) = some s → A (q (E / 6)) < 60 → A s ≠ 1000 ∧ s < 16384) : BQ nx V g0 A q cm dd e n (E + 1) := by
  obtain ⟨⟨a1, a2, a0, aE⟩, a3, a4, a5, a6, a7, a8, a9, a10⟩ := h
  refine ⟨⟨a1, a2, a0, by omega⟩, a3, a4, a5, fun j h2 h3 => ?_, a7, a8, fun j hj hE => ?_, fun x s h2 h3 h4 h5 => ?_⟩
  · obtain ⟨b1, b2⟩ := a6 j h2 h3
    exact ⟨by omega, b2⟩
  · have h2 := a9 j hj hk
    have h3 := a8 (E / 6) ((E + 1) / 6) (by omega) hE
    omega
  · by_cases ex : x = E
    · subst ex
      obtain ⟨b1, b2⟩ := h1 s h5 h4
      rcases a5 s b2 with h6 | ⟨i, h6, rfl⟩
      · exact absurd h6 b1
      · refine ⟨i, h6, rfl, a9 i h6 hk, ?_⟩
        by_cases ei : i = 0
        · exact Or.inl ei
        · exact Or.inr (by have := (a6 i (by omega) h6).1; omega)
    · exact a10 x s (by omega) h3 h4 h5
theorem BQ_push {nx : Nat → Nat → Option Nat} {V : Nat → Nat → Prop} {g0 : Nat} {A q cm dd e : Nat → Nat} {n E s : Nat} (h : BQ nx V g0 A q cm dd e n E) (hk : E / 6 < n) (h0 : A (q (E / 6)) < 60) (hn : nx (q (E / 6)) (E % 6) = some s) (hs : s < 16384) (hv : V s (A (q (E / 6)) + 1)) (h1 : A s = 1000) :
    BQ nx V g0 (fset A s (A (q (E / 6)) + 1)) (fset q n s) (fset cm s (q (E / 6))) (fset dd s (E % 6)) (fset e n E) (n + 1) (E + 1) ∧ n < 16384 := by
  obtain ⟨⟨a1, a2, a0, aE⟩, a3, a4, a5, a6, a7, a8, a9, a10⟩ := h
  have hc := cnt_off (p := fun f => decide (A f = 1000)) (q := fun f => decide (fset A s (A (q (E / 6)) + 1) f = 1000)) hs (by simp [h1]) (by rw [fset_eq]; simp; omega) (fun i _ hi => by simp [fset, hi])
  have hne : ∀ i, i < n → q i ≠ s := by
    intro i hi e
    have := (a4 i hi).2.1
    rw [e, h1] at this; omega
  have hA : ∀ i, i < n → fset A s (A (q (E / 6)) + 1) (q i) = A (q i) := fun i hi => fset_ne (hne i hi)
  have hq : ∀ i, i < n → fset q n s i = q i := fun i hi => fset_ne (by omega)
  have hE : ∀ i, i < n → fset e n E i = e i := fun i hi => fset_ne (by omega)
  have hA' : ∀ f, A f ≠ 1000 → fset A s (A (q (E / 6)) + 1) f = A f := fun f hf => fset_ne (fun e => hf (e ▸ h1))
  refine ⟨⟨⟨by omega, ?_, ?_, by omega⟩, by omega, ?_, ?_, ?_, ?_, ?_, ?_, ?_⟩, by omega⟩
  · rw [hq 0 (by omega)]; exact a2
  · rw [hA' g0 (by omega)]; exact a0
  · intro i hi
    by_cases ei : i = n
    · subst ei; rw [fset_eq, fset_eq]; exact ⟨hs, by omega, hv⟩
    · rw [hq i (by omega), hA i (by omega)]; exact a4 i (by omega)
  · intro f hf
    by_cases ef : f = s
    · right; exact ⟨n, by omega, by rw [fset_eq, ef]⟩
    · rcases a5 f hf with h2 | ⟨i, h2, h3⟩
      · left; rw [fset_ne ef]; exact h2
      · right; exact ⟨i, by omega, by rw [hq i h2]; exact h3⟩
  · intro j h2 h3
    by_cases ej : j = n
    · subst ej
      rw [fset_eq e j E, hq _ hk, hA _ hk, fset_eq q j s, fset_eq A, fset_eq cm, fset_eq dd]
      exact ⟨by omega, hk, h0, hn, rfl, rfl, rfl⟩
    · obtain ⟨b1, b2, b3, b4, b5, b6, b7⟩ := a6 j h2 (by omega)
      rw [hE j (by omega), hq _ (by omega), hq j (by omega), hA _ (by omega), hA j (by omega), fset_ne (hne j (by omega)), fset_ne (hne j (by omega))]
      exact ⟨by omega, b2, b3, b4, b5, b6, b7⟩
  · intro i j h2 h3 h4
    by_cases ej : j = n
    · subst ej
      rw [fset_eq, hE i h3]
      exact (a6 i h2 h3).1
    · rw [hE j (by omega), hE i (by omega)]
      exact a7 i j h2 h3 (by omega)
  · intro i j h2 h3
    by_cases ej : j = n
    · subst ej
      rw [fset_eq q, fset_eq A]
      by_cases ei : i = j
      · subst ei; rw [fset_eq, fset_eq]; exact Nat.le_refl _
      · rw [hq i (by omega), hA i (by omega)]
        exact a9 i (by omega) hk
    · rw [hq j (by omega), hA j (by omega), hq i (by omega), hA i (by omega)]
      exact a8 i j h2 (by omega)
  · intro j h2 h3
    have kk : A (q (E / 6)) ≤ fset A s (A (q (E / 6)) + 1) (fset q n s ((E + 1) / 6)) := by
      by_cases ek : (E + 1) / 6 = n
      · rw [ek, fset_eq, fset_eq]; omega
      · rw [hq _ (by omega), hA _ (by omega)]; exact a8 _ _ (by omega) (by omega)
    by_cases ej : j = n
    · subst ej; rw [fset_eq q, fset_eq A]; omega
    · rw [hq j (by omega), hA j (by omega)]
      have := a9 j (by omega) hk
      omega
  · intro x t h2 h3 h4 h5
    by_cases ex : x = E
    · subst ex
      rw [hq _ hk] at h5 h4
      rw [hA _ hk] at h4
      rw [hn] at h5
      have : s = t := Option.some.inj h5
      subst this
      refine ⟨n, by omega, fset_eq _ _ _, ?_, Or.inr (by rw [fset_eq]; exact Nat.le_refl _)⟩
      rw [fset_eq, hq _ hk, hA _ hk]; exact Nat.le_refl _
    · have hx : x / 6 < n := by omega
      rw [hq _ hx] at h5 h4
      rw [hA _ hx] at h4
      obtain ⟨j, b1, b2, b3, b4⟩ := a10 x t (by omega) hx h4 h5
      refine ⟨j, by omega, by rw [hq j b1]; exact b2, ?_, ?_⟩
      · rw [hq _ hx, hA _ hx, ← b2, hA j b1, b2]; exact b3
      · rw [hE j b1]; exact b4
/-! ways of so many hours -/
def RE (nx : Nat → Nat → Option Nat) (g0 : Nat) : Nat → Nat → Prop
  | 0, s => s = g0
  | h + 1, s => ∃ p a, a < 6 ∧ RE nx g0 h p ∧ nx p a = some s
def Gb (nx : Nat → Nat → Option Nat) (goal : Nat → Bool) : Nat → Nat → Bool
  | 0, s => goal s
  | r + 1, s => decide (fst1 (fun a => match nx s a with | some s' => Gb nx goal r s' | none => false) 6 0 < 6)
/-- the first act that leads on -/
def gac (nx : Nat → Nat → Option Nat) (goal : Nat → Bool) (r s : Nat) : Nat := fst1 (fun a => match nx s a with | some s' => Gb nx goal r s' | none => false) 6 0
theorem Gb_of {nx : Nat → Nat → Option Nat} {goal : Nat → Bool} {r s a s' : Nat} (ha : a < 6) (hn : nx s a = some s') (hg : Gb nx goal r s' = true) : Gb nx goal (r + 1) s = true ∧ gac nx goal r s ≤ a := by
  have key : fst1 (fun a => match nx s a with | some s' => Gb nx goal r s' | none => false) 6 0 ≤ a := by
    rcases fst1_spec (fun a => match nx s a with | some s' => Gb nx goal r s' | none => false) 6 0 with ⟨i, _, _, _, h4, h5⟩ | ⟨h2, _⟩
    · rw [h5]
      by_cases hl : a < i
      · have := h4 a (by omega) hl
        simp only [hn, hg] at this
        exact absurd this (by decide)
      · omega
    · have := h2 a (by omega) (by omega)
      simp only [hn, hg] at this
      exact absurd this (by decide)
  refine ⟨?_, key⟩
  rw [Gb]
  simp only [decide_eq_true_eq]
  omega
theorem Gb_to {nx : Nat → Nat → Option Nat} {goal : Nat → Bool} {r s : Nat} (h : Gb nx goal (r + 1) s = true) : ∃ s', gac nx goal r s < 6 ∧ nx s (gac nx goal r s) = some s' ∧ Gb nx goal r s' = true := by
  rw [Gb] at h
  simp only [decide_eq_true_eq] at h
  rcases fst1_spec (fun a => match nx s a with | some s' => Gb nx goal r s' | none => false) 6 0 with ⟨i, _, h2, h3, _, h5⟩ | ⟨_, h2⟩
  · have e : gac nx goal r s = i := h5
    rw [e]
    cases hn : nx s i with
    | none => rw [hn] at h3; exact absurd h3 (by simp)
    | some s' => rw [hn] at h3; exact ⟨s', by omega, rfl, h3⟩
  · rw [h2] at h; omega
/-- the way found -/
def wy (nx : Nat → Nat → Option Nat) (goal : Nat → Bool) (g0 T : Nat) : Nat → Nat
  | 0 => g0
  | h + 1 => (nx (wy nx goal g0 T h) (gac nx goal (T - (h + 1)) (wy nx goal g0 T h))).getD 0
def wa (nx : Nat → Nat → Option Nat) (goal : Nat → Bool) (g0 T h : Nat) : Nat := gac nx goal (T - (h + 1)) (wy nx goal g0 T h)
/-- nothing found: all that can be come to in 60 hours was seen -/
theorem BQ_none {nx : Nat → Nat → Option Nat} {V : Nat → Nat → Prop} {g0 : Nat} {A q cm dd e : Nat → Nat} {n : Nat} (h : BQ nx V g0 A q cm dd e n (6 * n)) : ∀ t, t ≤ 60 → ∀ s, RE nx g0 t s → ∃ i, i < n ∧ q i = s ∧ A s ≤ t := by
  obtain ⟨⟨a1, a2, a0, aE⟩, a3, a4, a5, a6, a7, a8, a9, a10⟩ := h
  intro t
  induction t with
  | zero => intro _ s hs; exact ⟨0, by omega, by rw [a2]; exact hs.symm, by rw [show s = g0 from hs, a0]; exact Nat.le_refl _⟩
  | succ t ih =>
    rintro ht s ⟨p, a, ha, hp, hn⟩
    obtain ⟨i, h1, rfl, h3⟩ := ih (by omega) p hp
    have e1 : (6 * i + a) / 6 = i := by omega
    have e2 : (6 * i + a) % 6 = a := by omega
    obtain ⟨j, b1, b2, b3, _⟩ := a10 (6 * i + a) s (by omega) (by omega) (by rw [e1]; omega) (by rw [e1, e2]; exact hn)
    rw [e1] at b3
    exact ⟨j, b1, b2, by omega⟩
/-- found: the first that is a goal -/
theorem BQ_found {nx : Nat → Nat → Option Nat} {V : Nat → Nat → Prop} {g0 : Nat} {A q cm dd e : Nat → Nat} {n k : Nat} {goal : Nat → Bool} (h : BQ nx V g0 A q cm dd e n (6 * k)) (hk : k < n) (hg : goal (q k) = true) (hb : ∀ i, i < k → goal (q i) = false) :
    (∀ t, t < A (q k) → ∀ s, RE nx g0 t s → goal s = false) ∧ Gb nx goal (A (q k)) g0 = true ∧ wy nx goal g0 (A (q k)) (A (q k)) = q k ∧
    ∀ t, t < A (q k) → (∃ j, 1 ≤ j ∧ j < n ∧ q j = wy nx goal g0 (A (q k)) (t + 1)) ∧ cm (wy nx goal g0 (A (q k)) (t + 1)) = wy nx goal g0 (A (q k)) t ∧ dd (wy nx goal g0 (A (q k)) (t + 1)) = wa nx goal g0 (A (q k)) t := by
  obtain ⟨⟨a1, a2, a0, aE⟩, a3, a4, a5, a6, a7, a8, a9, a10⟩ := h
  obtain ⟨T, hT⟩ : ∃ T, T = A (q k) := ⟨_, rfl⟩
  rw [← hT]
  have hT60 : T ≤ 60 := by rw [hT]; exact (a4 k hk).2.1
  have below : ∀ i, i < n → A (q i) < T → i < k := fun i hi h2 => by
    by_cases c : i < k
    · exact c
    · have := a8 k i (by omega) hi; omega
  have suc : ∀ i a s, i < n → a < 6 → A (q i) < T → nx (q i) a = some s → ∃ j, j < n ∧ q j = s ∧ A s ≤ A (q i) + 1 ∧ (j = 0 ∨ e j ≤ 6 * i + a) := by
    intro i a s hi ha h2 h3
    have h4 := below i hi h2
    have e1 : (6 * i + a) / 6 = i := by omega
    have e2 : (6 * i + a) % 6 = a := by omega
    have := a10 (6 * i + a) s (by omega) (by omega) (by rw [e1]; omega) (by rw [e1, e2]; exact h3)
    rw [e1] at this
    exact this
  have reach : ∀ t, t ≤ T → ∀ s, RE nx g0 t s → ∃ i, i < n ∧ q i = s ∧ A s ≤ t := by
    intro t
    induction t with
    | zero => intro _ s hs; exact ⟨0, by omega, by rw [a2]; exact hs.symm, by rw [show s = g0 from hs, a0]; exact Nat.le_refl _⟩
    | succ t ih =>
      rintro ht s ⟨p, a, ha, hp, hn⟩
      obtain ⟨i, h1, rfl, h3⟩ := ih (by omega) p hp
      obtain ⟨j, b1, b2, b3, _⟩ := suc i a s h1 ha (by omega) hn
      exact ⟨j, b1, b2, by omega⟩
  have far : ∀ r j, j < n → Gb nx goal r (q j) = true → T ≤ A (q j) + r := by
    intro r
    induction r with
    | zero =>
      intro j hj hg2
      by_cases c : A (q j) < T
      · have h1 := below j hj c
        rw [Gb, hb j h1] at hg2
        exact absurd hg2 (by decide)
      · omega
    | succ r ih =>
      intro j hj hg2
      by_cases c : A (q j) < T
      · obtain ⟨s, h1, h2, h3⟩ := Gb_to hg2
        obtain ⟨j2, b1, b2, b3, _⟩ := suc j _ s hj h1 c h2
        subst b2
        have := ih j2 b1 h3
        omega
      · omega
  have up : ∀ r, r ≤ T → ∃ i, i < n ∧ A (q i) = T - r ∧ Gb nx goal r (q i) = true := by
    intro r
    induction r with
    | zero => intro _; exact ⟨k, hk, by omega, hg⟩
    | succ r ih =>
      intro hr
      obtain ⟨i, h1, h2, h3⟩ := ih (by omega)
      have hi0 : i ≠ 0 := fun z => by subst z; rw [a2, a0] at h2; omega
      obtain ⟨b1, b2, b3, b4, b5, _⟩ := a6 i (by omega) h1
      exact ⟨e i / 6, by omega, by omega, (Gb_of (Nat.mod_lt _ (by omega)) b4 h3).1⟩
  have top : Gb nx goal T g0 = true := by
    obtain ⟨i, h1, h2, h3⟩ := up T (Nat.le_refl _)
    have : i = 0 := by
      by_cases c : i = 0
      · exact c
      · have := (a6 i (by omega) h1).2.2.2.2.1; omega
    subst this
    rw [a2] at h3; exact h3
  have main : ∀ t, t ≤ T → ∃ i, i < n ∧ q i = wy nx goal g0 T t ∧ A (q i) = t ∧ Gb nx goal (T - t) (q i) = true ∧ (∀ j, j < n → A (q j) = t → Gb nx goal (T - t) (q j) = true → i ≤ j) ∧
      (∀ u, t = u + 1 → (∃ j, 1 ≤ j ∧ j < n ∧ q j = wy nx goal g0 T (u + 1)) ∧ cm (wy nx goal g0 T (u + 1)) = wy nx goal g0 T u ∧ dd (wy nx goal g0 T (u + 1)) = wa nx goal g0 T u) := by
    intro t
    induction t with
    | zero => intro _; exact ⟨0, by omega, a2, by rw [a2, a0], by rw [a2]; exact top, fun j _ _ _ => Nat.zero_le _, fun u hu => by omega⟩
    | succ t ih =>
      intro ht
      obtain ⟨i, h1, h2, h3, h4, h5, _⟩ := ih (by omega)
      have er : T - t = (T - (t + 1)) + 1 := by omega
      rw [er] at h4
      obtain ⟨s, g1, g2, g3⟩ := Gb_to h4
      obtain ⟨j, b1, b2, b3, b4⟩ := suc i _ s h1 g1 (by omega) g2
      have hA : A s = t + 1 := by
        have := far _ j b1 (by rw [b2]; exact g3)
        rw [b2] at this
        omega
      have hj0 : j ≠ 0 := fun z => by subst z; rw [a2] at b2; rw [← b2, a0] at hA; omega
      have b5 : e j ≤ 6 * i + gac nx goal (T - (t + 1)) (q i) := b4.resolve_left hj0
      obtain ⟨c1, c2, c3, c4, c5, c6, c7⟩ := a6 j (by omega) b1
      rw [b2] at c4 c5 c6 c7
      have c8 := Gb_of (Nat.mod_lt _ (by omega)) c4 g3
      have c9 := h5 (e j / 6) (by omega) (by omega) (by rw [er]; exact c8.1)
      have c10 : e j / 6 = i := by omega
      rw [c10] at c4 c6 c8
      have c11 : e j % 6 = gac nx goal (T - (t + 1)) (q i) := by have := c8.2; omega
      have hw : wy nx goal g0 T (t + 1) = s := by rw [wy, ← h2, g2]; rfl
      refine ⟨j, b1, by rw [hw]; exact b2, by rw [b2]; exact hA, by rw [b2]; exact g3, fun j2 d1 d2 d3 => ?_, fun u hu => ?_⟩
      · have hj2 : j2 ≠ 0 := fun z => by subst z; rw [a2, a0] at d2; omega
        obtain ⟨f1, f2, f3, f4, f5, _⟩ := a6 j2 (by omega) d1
        have f8 := Gb_of (Nat.mod_lt _ (by omega)) f4 d3
        have f9 := h5 (e j2 / 6) (by omega) (by omega) (by rw [er]; exact f8.1)
        have f10 : e j ≤ e j2 := by
          by_cases c : e j2 / 6 = i
          · rw [c] at f8
            have := f8.2
            omega
          · omega
        by_cases c : j ≤ j2
        · exact c
        · have := a7 j2 j (by omega) (by omega) b1; omega
      · have : u = t := by omega
        subst this
        rw [hw]
        refine ⟨⟨j, by omega, b1, b2⟩, by rw [c6, h2], ?_⟩
        unfold wa
        rw [c7, c11, h2]
  refine ⟨fun t ht s hs => ?_, top, ?_, fun t ht => ?_⟩
  · obtain ⟨i, h1, rfl, h3⟩ := reach t (by omega) s hs
    exact hb i (below i h1 (by omega))
  · obtain ⟨i, h1, h2, h3, h4, h5, _⟩ := main T (Nat.le_refl _)
    rw [Nat.sub_self] at h4 h5
    have h6 := h5 k hk hT.symm hg
    by_cases c : i < k
    · have := hb i c
      rw [Gb, this] at h4
      exact absurd h4 (by decide)
    · have : i = k := by omega
      subst this
      exact h2.symm
  · obtain ⟨i, _, _, _, _, _, h6⟩ := main (t + 1) (by omega)
    exact h6 t rfl
