/-! TEXT: the class reads a line's numbers -/
def Wln (r nr c l s : Nat) : Nat → Nat → Prop := fun a k => (a = r ∧ k ≠ 5) ∨ a = nr ∨ (s = 0 ∧ c ≤ a ∧ a ≤ c + 5) ∨ (1 ≤ s ∧ ((a = l ∧ k = 2) ∨ a = l + 1))
theorem fnm_4 : ∀ f, f < 12 → fnm f ≤ 4 ∧ 0 ≤ fnm f := by decide +kernel
theorem Wrn_ln {r nr c l s a k : Nat} (h0 : s = 0) (w : Wrn r nr c a k) : Wln r nr c l s a k := by
  rcases w with w | w | w
  · exact Or.inl w
  · exact Or.inr (Or.inl w)
  · exact Or.inr (Or.inr (Or.inl ⟨h0, by omega, by omega⟩))
theorem slots_c {r tp nr ls c l n f : Nat} {B : Nat → Nat} (hf : f < 12) : ∀ d k (h : HA) (σ : ZS) (v : Nat → Int32) fu, k + d = fnm f → d < fu → RX h r tp nr ls c l n B (fsr f) σ → PJ B n (fsr f) σ → (∀ i, i < 4 → gi h nr i = v i) → (∀ i, k ≤ i → v i = -1) → vok v →
    match slots B n f d k σ v with
    | .inl q => ∃ h1, X3_readLine_L44 r (nI f) fu h (nI k) = some (.inl (0, h1)) ∧ ch (Wrn r nr c) h h1 ∧ gi h1 r 8 = nI q
    | .inr z => ∃ h1, X3_readLine_L44 r (nI f) fu h (nI k) = some (.inr h1) ∧ ch (Wrn r nr c) h h1 ∧ RX h1 r tp nr ls c l n B (fsr f) z.1 ∧ PJ B n (fsr f) z.1 ∧ (∀ i, i < 4 → gi h1 nr i = z.2 i) ∧ vok z.2 ∧ zi σ ≤ zi z.1 := by
  intro d
  induction d with
  | zero =>
    intro k h σ v fu hk hfu x hP hv hm hok
    obtain ⟨g, rfl⟩ : ∃ g, fu = g + 1 := ⟨fu - 1, by omega⟩
    have h4 := fnm_4 f hf
    rw [slots]
    refine ⟨h, ?_, ch_rf _ _, x, hP, hv, hok, Nat.le_refl _⟩
    rw [X3_readLine_L44, sl_n f hf, Option.bind_some, if_neg (nlt_lit (by omega) (by omega))]
  | succ d ih =>
    intro k h σ v fu hk hfu x hP hv hm hok
    obtain ⟨g, rfl⟩ : ∃ g, fu = g + 1 := ⟨fu - 1, by omega⟩
    have h4 := fnm_4 f hf
    have hrn := readNumber_c x hP hf (show k < 4 by omega)
    rw [slots]
    cases e : slot B n f k σ with
    | inl q =>
      rw [e] at hrn
      obtain ⟨r1, r2⟩ := hrn
      refine ⟨h, ?_, ch_rf _ _, r2⟩
      rw [X3_readLine_L44, sl_n f hf, Option.bind_some, if_pos (lt_lit (by omega) (by omega)), r1]
      rfl
    | inr z =>
      rw [e] at hrn
      obtain ⟨h1, r1, c1, x1, n1, n2⟩ := hrn
      obtain ⟨s1, s2, s3⟩ := slot_ok hP e
      have hrow : ∀ i, i < 4 → gi h1 nr i = iset v k z.2 i := fun i hi => by
        by_cases ei : i = k
        · subst ei; rw [iset_eq]; exact n2 (Or.inl (by rw [hv i hi]; exact hm i (Nat.le_refl _)))
        · rw [iset_ne ei, n1 i ei]; exact hv i hi
      have hih := ih (k + 1) h1 z.1 (iset v k z.2) g (by omega) (by omega) x1 s1 hrow (fun i hi => by rw [iset_ne (by omega)]; exact hm i (by omega)) (fun i => by
        by_cases ei : i = k
        · subst ei; rw [iset_eq]; exact s3
        · rw [iset_ne ei]; exact hok i)
      have el : X3_readLine_L44 r (nI f) (g + 1) h (nI k) = X3_readLine_L44 r (nI f) g h1 (nI (k + 1)) := by
        rw [X3_readLine_L44, sl_n f hf, Option.bind_some, if_pos (lt_lit (by omega) (by omega)), r1, Option.bind_some, nI_p1]
        rfl
      dsimp only
      rw [el]
      cases e2 : slots B n f d (k + 1) z.1 (iset v k z.2) with
      | inl q =>
        rw [e2] at hih
        obtain ⟨h2, f1, f2, f3⟩ := hih
        exact ⟨h2, f1, c1.tr f2, f3⟩
      | inr y =>
        rw [e2] at hih
        obtain ⟨h2, f1, f2, f3, f4, f5, f6, f7⟩ := hih
        exact ⟨h2, f1, c1.tr f2, f3, f4, f5, f6, by omega⟩
theorem slot_wall {B : Nat → Nat} {n : Nat} {σ : ZS} (hk : tK B n (zi σ) = 2) : ∃ z, slot B n 1 0 σ = .inr z := by
  unfold slot
  rw [if_neg (by omega), if_pos hk]
  exact ⟨_, rfl⟩
theorem tK_n {B : Nat → Nat} {n i : Nat} (h : n ≤ i) : tK B n i = 0 := by
  unfold tK
  have : tB B n i = i := RN_stop (Or.inl h)
  rw [this, if_pos h]
theorem wall_nx {B : Nat → Nat} {n : Nat} {τ : ZS} {y : ZS × Int32} (q1 : zi τ ≤ n) (q3 : tK B n (zi τ) = 2) (ey : slot B n 1 0 τ = .inr y) : zi τ < zi y.1 ∧ zi y.1 ≤ n := by
  unfold slot at ey
  rw [if_neg (by omega), if_pos q3] at ey
  have := Sum.inr.inj ey
  subst this
  have q6 : zi (tkn 1 0 (tV B n (zi τ)) (if bad 1 0 (tV B n (zi τ)) = true then ft 2 (tB B n (zi τ)) τ else τ)) = zi τ := by
    rw [(zi_tkn _ _ _ _).1]
    split
    · exact zi_ft _ _ _
    · rfl
  show zi τ < tR B n (zi (tkn _ _ _ _)) ∧ tR B n (zi (tkn _ _ _ _)) ≤ n
  rw [q6]
  exact ⟨(tRR q1 (by omega)).2, (tR_le q1).2.1⟩
theorem wlp_fu {B : Nat → Nat} {n : Nat} : ∀ m m' (τ : ZS), zi τ ≤ n → n - zi τ ≤ m → n - zi τ ≤ m' → wlp B n m τ = wlp B n m' τ := by
  intro m
  induction m with
  | zero =>
    intro m' τ q1 q2 q3
    cases m' with
    | zero => rfl
    | succ m' => rw [wlp, wlp, if_neg (by rw [tK_n (by omega)]; omega)]
  | succ m im =>
    intro m' τ q1 q2 q3
    by_cases q4 : tK B n (zi τ) = 2
    · obtain ⟨y, ey⟩ := slot_wall q4
      have q5 := wall_nx q1 q4 ey
      cases m' with
      | zero => omega
      | succ m' =>
        rw [wlp, wlp, if_pos q4, if_pos q4, ey]
        exact im m' y.1 q5.2 (by omega) (by omega)
    · cases m' with
      | zero => rw [wlp, wlp, if_neg q4]
      | succ m' => rw [wlp, wlp, if_neg q4, if_neg q4]
theorem wallz_c {r tp nr ls c l n : Nat} {B : Nat → Nat} : ∀ d t (h : HA) (σ : ZS) fu, n - zi σ ≤ d → t ≤ zi σ → d < fu → RX h r tp nr ls c l n B 0 σ → PJ B n 0 σ →
    ∃ h1, X3_readLine_L72 r 1 fu h (nI t) = some h1 ∧ ch (Wrn r nr c) h h1 ∧ RX h1 r tp nr ls c l n B 0 (wlp B n (n - zi σ) σ) ∧ PJ B n 0 (wlp B n (n - zi σ) σ) ∧ zi σ ≤ zi (wlp B n (n - zi σ) σ) := by
  intro d
  induction d with
  | zero =>
    intro t h σ fu h1 h2 h3 x hP
    obtain ⟨g, rfl⟩ : ∃ g, fu = g + 1 := ⟨fu - 1, by omega⟩
    have hn := x.1.1.2.2.2.2.1
    have hi := hP.1
    have k0 := tK_n (B := B) (n := n) (i := zi σ) (by omega)
    rw [show n - zi σ = 0 by omega, wlp]
    refine ⟨h, ?_, ch_rf _ _, x, hP, Nat.le_refl _⟩
    rw [X3_readLine_L72, rt_I x.1.1, x.1.1.2.2.2.1, Option.bind_some, if_pos rfl, rt_I x.1.1, x.1.2.2.1, k0, Option.bind_some, if_neg (show ¬ nI 0 = 2 by decide)]
    split <;> rfl
  | succ d ih =>
    intro t h σ fu h1 h2 h3 x hP
    obtain ⟨g, rfl⟩ : ∃ g, fu = g + 1 := ⟨fu - 1, by omega⟩
    have hn := x.1.1.2.2.2.2.1
    have hi := hP.1
    have hk5 : tK B n (zi σ) < 6 := by unfold tK; repeat' split
                                       all_goals omega
    by_cases e2 : tK B n (zi σ) = 2
    · have hlt : zi σ < n := by
        by_cases c : n ≤ zi σ
        · have := tK_n (B := B) c; omega
        · omega
      obtain ⟨z, ez⟩ := slot_wall e2
      have hrn := readNumber_c (f := 1) (k := 0) x hP (by omega) (by omega)
      rw [ez] at hrn
      obtain ⟨h4, r1, c1, x1, n1, n2⟩ := hrn
      obtain ⟨s1, s2, s3⟩ := slot_ok (s := 0) hP ez
      obtain ⟨h5, f1, f2, f3, f4, f5⟩ := ih (t + 1) h4 z.1 g (by omega) (by omega) (by omega) x1 s1
      have ewl : wlp B n (n - zi σ) σ = wlp B n (n - zi z.1) z.1 := by
        rw [show n - zi σ = (n - zi σ - 1) + 1 by omega, wlp, if_pos e2, ez]
        exact wlp_fu _ _ z.1 s1.1 (by omega) (Nat.le_refl _)
      rw [ewl]
      refine ⟨h5, ?_, c1.tr f2, f3, f4, by omega⟩
      rw [X3_readLine_L72, rt_I x.1.1, x.1.1.2.2.2.1, Option.bind_some, if_pos (lt_lit (by omega) (by omega)), if_pos rfl, rt_I x.1.1, x.1.2.2.1, e2, Option.bind_some, if_pos (show nI 2 = 2 by rfl), show X3_readNumber h r 1 0 = _ from r1, Option.bind_some, nI_p1]
      exact f1
    · have ewl : wlp B n (n - zi σ) σ = σ := by
        cases n - zi σ with
        | zero => rfl
        | succ j => rw [wlp, if_neg e2]
      rw [ewl]
      refine ⟨h, ?_, ch_rf _ _, x, hP, Nat.le_refl _⟩
      rw [X3_readLine_L72, rt_I x.1.1, x.1.1.2.2.2.1, Option.bind_some, if_pos rfl, rt_I x.1.1, x.1.2.2.1, Option.bind_some, if_neg (show ¬ nI (tK B n (zi σ)) = 2 from fun z => e2 (nI_inj (b := 2) (by omega) (by omega) z))]
      split <;> rfl
