/-! COUNTS -/
def cnt (p : Nat → Bool) : Nat → Nat
  | 0 => 0
  | n + 1 => cnt p n + (if p n = true then 1 else 0)
theorem cnt_cong {p q : Nat → Bool} {n : Nat} (h : ∀ i, i < n → p i = q i) : cnt p n = cnt q n := by
  induction n with
  | zero => rfl
  | succ n ih => show cnt p n + _ = cnt q n + _; rw [ih (fun i hi => h i (by omega)), h n (by omega)]
theorem cnt_all (n : Nat) : cnt (fun _ => true) n = n := by
  induction n with
  | zero => rfl
  | succ n ih => show cnt _ n + _ = _; rw [ih]; simp
theorem cnt_le (p : Nat → Bool) (n : Nat) : cnt p n ≤ n := by
  induction n with
  | zero => exact Nat.le_refl _
  | succ n ih => show cnt _ n + _ ≤ _; split <;> omega
theorem cnt_pos {p : Nat → Bool} {n i : Nat} (hi : i < n) (h : p i = true) : 1 ≤ cnt p n := by
  induction n with
  | zero => omega
  | succ n ih =>
    show 1 ≤ cnt p n + _
    by_cases e : i = n
    · subst e; rw [if_pos h]; omega
    · have := ih (by omega); omega
theorem cnt_off {p q : Nat → Bool} {n k : Nat} (hk : k < n) (hp : p k = true) (hq : q k = false) (h : ∀ i, i < n → i ≠ k → q i = p i) : cnt q n + 1 = cnt p n := by
  induction n with
  | zero => omega
  | succ n ih =>
    show cnt q n + _ + 1 = cnt p n + _
    by_cases e : k = n
    · subst e
      rw [cnt_cong (p := q) (q := p) (fun i hi => h i (by omega) (by omega)), if_pos hp, hq]; simp
    · have := ih (by omega) (fun i hi => h i (by omega))
      rw [h n (by omega) (by omega)]; omega
def fset (A : Nat → Nat) (k v : Nat) : Nat → Nat := fun i => if i = k then v else A i
theorem fset_eq (A : Nat → Nat) (k v : Nat) : fset A k v k = v := by simp [fset]
theorem fset_ne {A : Nat → Nat} {k v i : Nat} (h : i ≠ k) : fset A k v i = A i := by simp [fset, h]
/-! a search in breadth: labels A, those come to q (n of them), at work on the k-th, s sides of it done -/
def BI (C : CR) (a : Nat) (A q : Nat → Nat) (n k s : Nat) : Prop :=
  1 ≤ n ∧ q 0 = a ∧ k ≤ n ∧ (n + cnt (fun f => decide (A f = 1000)) (cF C) = cF C) ∧
  (∀ i, i < n → op C (q i) = true ∧ A (q i) ≤ i ∧ bl C a (A (q i)) (q i) = true) ∧
  (∀ f, f < cF C → A f = 1000 ∨ ∃ i, i < n ∧ q i = f) ∧
  (∀ i j, i ≤ j → j < n → A (q i) ≤ A (q j)) ∧
  (∀ j, j < n → k < n → A (q j) ≤ A (q k) + 1) ∧
  (∀ i s' g, i < k → i < n → s' < 4 → stp C (q i) s' = some g → A g ≤ A (q i) + 1) ∧
  (∀ s' g, k < n → s' < s → s' < 4 → stp C (q k) s' = some g → A g ≤ A (q k) + 1)
theorem BI_init {C : CR} {a : Nat} (ha : op C a = true) : BI C a (fset (fun _ => 1000) a 0) (fset (fun _ => 0) 0 a) 1 0 0 := by
  refine ⟨Nat.le_refl _, fset_eq _ _ _, Nat.zero_le _, ?_, ?_, ?_, ?_, ?_, ?_, ?_⟩
  · have h1 := cnt_off (p := fun _ => true) (q := fun f => decide (fset (fun _ => 1000) a 0 f = 1000)) (op_lt ha) rfl (by simp [fset]) (fun i _ hi => by simp [fset, hi])
    rw [cnt_all] at h1
    omega
  · intro i hi
    have : i = 0 := by omega
    subst this
    simp only [fset_eq]
    exact ⟨ha, Nat.le_refl _, bl_self⟩
  · intro f _
    by_cases h : f = a
    · right; exact ⟨0, by omega, by rw [fset_eq, h]⟩
    · left; rw [fset_ne h]
  · intro i j h1 h2
    have : j = 0 := by omega
    have : i = 0 := by omega
    subst_vars; exact Nat.le_refl _
  · intro j h1 _
    have : j = 0 := by omega
    subst_vars; omega
  · intro i _ _ h; omega
  · intro s' _ _ h; omega
theorem BI_n {C : CR} {a : Nat} {A q : Nat → Nat} {n k s : Nat} (h : BI C a A q n k s) : n ≤ cF C := by
  have := h.2.2.2.1; omega
theorem BI_skip {C : CR} {a : Nat} {A q : Nat → Nat} {n k s : Nat} (hw : WFs C) (h : BI C a A q n k s) (hk : k < n) (h1 : ∀ g, stp C (q k) s = some g → A g ≠ 1000) : BI C a A q n k (s + 1) := by
  obtain ⟨a1, a2, a3, a4, a5, a6, a7, a8, a9, a10⟩ := h
  refine ⟨a1, a2, a3, a4, a5, a6, a7, a8, a9, ?_⟩
  intro s' g h2 h3 h4 h5
  by_cases e : s' = s
  · subst e
    rcases a6 g (op_lt (stp_op h5)) with h6 | ⟨i, h6, rfl⟩
    · exact absurd h6 (h1 g h5)
    · exact a8 i h6 hk
  · exact a10 s' g h2 (by omega) h4 h5
theorem BI_push {C : CR} {a : Nat} {A q : Nat → Nat} {n k s g : Nat} (hw : WFs C) (h : BI C a A q n k s) (hk : k < n) (hs : s < 4) (hg : stp C (q k) s = some g) (h1 : A g = 1000) :
    BI C a (fset A g (A (q k) + 1)) (fset q n g) (n + 1) k (s + 1) ∧ n < cF C := by
  have hn := BI_n h
  have hF := cF_le hw
  obtain ⟨a1, a2, a3, a4, a5, a6, a7, a8, a9, a10⟩ := h
  have hgo := stp_op hg
  have hgF := op_lt hgo
  have hne : ∀ i, i < n → q i ≠ g := by
    intro i hi e
    have := (a5 i hi).2.1
    rw [e, h1] at this; omega
  have hA : ∀ i, i < n → fset A g (A (q k) + 1) (q i) = A (q i) := fun i hi => fset_ne (hne i hi)
  have hq : ∀ i, i < n → fset q n g i = q i := fun i hi => fset_ne (by omega)
  have hc := cnt_off (p := fun f => decide (A f = 1000)) (q := fun f => decide (fset A g (A (q k) + 1) f = 1000)) hgF (by simp [h1]) (by rw [fset_eq]; have := (a5 k hk).2.1; simp; omega) (fun i _ hi => by simp [fset, hi])
  have hkb := (a5 k hk).2.1
  have hgA : ∀ f, A f ≠ 1000 → fset A g (A (q k) + 1) f = A f := by
    intro f hf
    exact fset_ne (fun e => hf (e ▸ h1))
  refine ⟨⟨by omega, ?_, by omega, by omega, ?_, ?_, ?_, ?_, ?_, ?_⟩, by omega⟩
  · rw [hq 0 (by omega)]; exact a2
  · intro i hi
    by_cases e : i = n
    · subst e
      rw [fset_eq, fset_eq]
      refine ⟨hgo, by omega, ?_⟩
      exact bl_succ.mpr (Or.inr ⟨hgo, (s + 2) % 4, q k, by omega, stp_sym hw (a5 k hk).1 hs hg, (a5 k hk).2.2⟩)
    · rw [hq i (by omega), hA i (by omega)]
      exact a5 i (by omega)
  · intro f hf
    by_cases e : f = g
    · right; exact ⟨n, by omega, by rw [fset_eq, e]⟩
    · rcases a6 f hf with h2 | ⟨i, h2, h3⟩
      · left; rw [fset_ne e]; exact h2
      · right; exact ⟨i, by omega, by rw [hq i h2]; exact h3⟩
  · intro i j h2 h3
    by_cases ej : j = n
    · subst ej
      rw [fset_eq, fset_eq]
      by_cases ei : i = j
      · subst ei; rw [fset_eq, fset_eq]; exact Nat.le_refl _
      · rw [hq i (by omega), hA i (by omega)]
        exact a8 i (by omega) hk
    · rw [hq j (by omega), hA j (by omega), hq i (by omega), hA i (by omega)]
      exact a7 i j h2 (by omega)
  · intro j h2 _
    rw [hq k hk, hA k hk]
    by_cases ej : j = n
    · subst ej; rw [fset_eq, fset_eq]; exact Nat.le_refl _
    · rw [hq j (by omega), hA j (by omega)]
      exact a8 j (by omega) hk
  · intro i s' g' h2 _ h4 h5
    rw [hq i (by omega)] at h5
    rw [hq i (by omega), hA i (by omega)]
    have h6 := a9 i s' g' h2 (by omega) h4 h5
    have := (a5 i (by omega)).2.1
    rw [hgA g' (by omega)]
    exact h6
  · intro s' g' _ h3 h4 h5
    rw [hq k hk] at h5
    rw [hq k hk, hA k hk]
    by_cases e : g' = g
    · subst e; rw [fset_eq]; exact Nat.le_refl _
    · rw [fset_ne e]
      by_cases es : s' = s
      · subst es
        rw [hg] at h5
        simp at h5; exact absurd h5.symm e
      · exact a10 s' g' hk (by omega) h4 h5
theorem BI_adv {C : CR} {a : Nat} {A q : Nat → Nat} {n k : Nat} (h : BI C a A q n k 4) (hk : k < n) : BI C a A q n (k + 1) 0 := by
  obtain ⟨a1, a2, a3, a4, a5, a6, a7, a8, a9, a10⟩ := h
  refine ⟨a1, a2, by omega, a4, a5, a6, a7, ?_, ?_, ?_⟩
  · intro j h1 h2
    have := a7 k (k + 1) (by omega) h2
    have := a8 j h1 hk
    omega
  · intro i s' g h1 h2 h3 h4
    by_cases e : i = k
    · subst e; exact a10 s' g hk h3 h3 h4
    · exact a9 i s' g (by omega) h2 h3 h4
  · intro s' _ _ h; omega
theorem BI_end {C : CR} {a : Nat} {A q : Nat → Nat} {n : Nat} (hw : WFs C) (h : BI C a A q n n 0) : ∀ f, f < cF C → A f = ds C a f := by
  have hn := BI_n h
  have hF := cF_le hw
  obtain ⟨a1, a2, a3, a4, a5, a6, a7, a8, a9, a10⟩ := h
  have ha : op C a = true := by rw [← a2]; exact (a5 0 (by omega)).1
  have key : ∀ d f, bl C a d f = true → A f ≤ d ∧ A f < 64 := by
    intro d
    induction d with
    | zero =>
      intro f h1
      simp [bl] at h1
      subst h1
      have := (a5 0 (by omega)).2.1
      rw [a2] at this
      omega
    | succ d ih =>
      intro f h1
      rcases bl_succ.mp h1 with h1 | ⟨h0, s, c, hs, hc, h2⟩
      · have := ih f h1; omega
      · obtain ⟨h3, h4⟩ := ih c h2
        have hco := bl_op ha h2
        rcases a6 c (op_lt hco) with h5 | ⟨i, h5, rfl⟩
        · omega
        · have h6 := a9 i ((s + 2) % 4) f h5 h5 (by omega) (stp_sym hw h0 hs hc)
          have h7 := (a5 i h5).2.1
          refine ⟨by omega, ?_⟩
          rcases a6 f (op_lt h0) with h8 | ⟨i2, h8, h9⟩
          · omega
          · have := (a5 i2 h8).2.1
            rw [h9] at this; omega
  intro f hf
  rcases a6 f hf with h1 | ⟨i, h1, rfl⟩
  · rw [h1]
    exact (ds_none (fun d hd => by have := key d f hd; omega)).symm
  · have h2 := a5 i h1
    exact (ds_uniq (by omega) h2.2.2 (fun d hd => (key d _ hd).1)).symm
/-- a search has an end -/
theorem bl_63 {C : CR} (hw : WFs C) {a d f : Nat} (ha : op C a = true) (h : bl C a d f = true) : bl C a 63 f = true := by
  have hgo : ∀ (m : Nat) (A q : Nat → Nat) (n k s : Nat), BI C a A q n k s → s ≤ 4 → (64 - k) * 5 + (4 - s) + 1 ≤ m → ∃ A q n, BI C a A q n n 0 := by
    intro m
    induction m with
    | zero => intro A q n k s _ _ h2; omega
    | succ m ih =>
      intro A q n k s h1 hs h2
      have hn := BI_n h1
      have hF := cF_le hw
      by_cases hk : k < n
      · by_cases hs4 : s = 4
        · subst hs4
          exact ih A q n (k + 1) 0 (BI_adv h1 hk) (by omega) (by omega)
        · cases hg : stp C (q k) s with
          | none => exact ih A q n k (s + 1) (BI_skip hw h1 hk (fun g h => by rw [hg] at h; simp at h)) (by omega) (by omega)
          | some g =>
            by_cases hA : A g = 1000
            · exact ih _ _ _ k (s + 1) (BI_push hw h1 hk (by omega) hg hA).1 (by omega) (by omega)
            · exact ih A q n k (s + 1) (BI_skip hw h1 hk (fun g' h => by rw [hg] at h; simp at h; subst h; exact hA)) (by omega) (by omega)
      · have hkn : k = n := by have := h1.2.2.1; omega
        subst hkn
        obtain ⟨a1, a2, a3, a4, a5, a6, a7, a8, a9, a10⟩ := h1
        exact ⟨A, q, k, ⟨a1, a2, a3, a4, a5, a6, a7, a8, a9, fun s' _ _ h => by omega⟩⟩
  obtain ⟨A, q, n, hI⟩ := hgo 325 _ _ _ _ _ (BI_init ha) (by omega) (by omega)
  have he := BI_end hw hI f (op_lt (bl_op ha h))
  have hI2 := hI
  have hn := BI_n hI
  have hF := cF_le hw
  obtain ⟨a1, a2, a3, a4, a5, a6, a7, a8, a9, a10⟩ := hI2
  have key : ∀ d f, bl C a d f = true → A f < 64 := by
    intro d
    induction d with
    | zero =>
      intro f h1
      simp [bl] at h1
      subst h1
      have := (a5 0 (by omega)).2.1
      rw [a2] at this
      omega
    | succ d ih =>
      intro f h1
      rcases bl_succ.mp h1 with h1 | ⟨h0, s, c, hs, hc, h2⟩
      · exact ih f h1
      · have h4 := ih c h2
        have hco := bl_op ha h2
        rcases a6 c (op_lt hco) with h5 | ⟨i, h5, rfl⟩
        · omega
        · have h6 := a9 i ((s + 2) % 4) f h5 h5 (by omega) (stp_sym hw h0 hs hc)
          have h7 := (a5 i h5).2.1
          rcases a6 f (op_lt h0) with h8 | ⟨i2, h8, h9⟩
          · omega
          · have := (a5 i2 h8).2.1
            rw [h9] at this; omega
  exact (ds_le (by omega)).mp (by have := key d f h; omega)
