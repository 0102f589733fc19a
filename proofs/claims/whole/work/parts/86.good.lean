/-! TEXT: what a text without FAULT tells is in order -/
theorem bad_iff {f k y : Nat} : bad f k y = false ↔ y ≤ fgr f k ∧ (f = 0 → 2 ≤ y) := by
  unfold bad
  by_cases h0 : f = 0
  · simp [h0]
  · simp [h0]
theorem zf_ft {c : Int32} {q : Nat} {σ : ZS} (hc : c ≠ 0) : zf (ft c q σ) ≠ 0 := by
  unfold ft
  by_cases e : zf σ = 0
  · rw [if_pos e]; exact hc
  · rw [if_neg e]; exact e
theorem slot_g {B : Nat → Nat} {n f k : Nat} {σ : ZS} {z : ZS × Int32} (e : slot B n f k σ = .inr z) (h0 : zf z.1 = 0) : zf σ = 0 ∧ ((fsr f = 2 ∧ z.2 = -1 ∧ z.1 = nt B n σ) ∨ ∃ y, bad f k y = false ∧ z.2 = nI y ∧ z.1 = nt B n (tkn f k y σ)) := by
  unfold slot at e
  by_cases h1 : tK B n (zi σ) = 3 ∧ fsr f = 2
  · rw [if_pos h1] at e
    have := Sum.inr.inj e
    subst this
    exact ⟨h0, Or.inl ⟨h1.2, rfl, rfl⟩⟩
  · rw [if_neg h1] at e
    by_cases h2 : tK B n (zi σ) = 2
    · rw [if_pos h2] at e
      have := Sum.inr.inj e
      subst this
      have h3 : zf (tkn f k (tV B n (zi σ)) (if bad f k (tV B n (zi σ)) = true then ft 2 (tB B n (zi σ)) σ else σ)) = 0 := h0
      rw [(zi_tkn _ _ _ _).2.1] at h3
      by_cases hb : bad f k (tV B n (zi σ)) = true
      · rw [if_pos hb] at h3
        exact absurd h3 (zf_ft (by decide))
      · rw [if_neg hb] at h3
        refine ⟨h3, Or.inr ⟨tV B n (zi σ), by simpa using hb, rfl, ?_⟩⟩
        show nt B n (tkn f k _ (if bad f k _ = true then _ else σ)) = _
        rw [if_neg hb]
    · rw [if_neg h2] at e; exact absurd e (by simp)
/-- a COURT so far in order -/
def GC (σ : ZS) : Prop := ((∃ w, 2 ≤ w ∧ w ≤ 8 ∧ zC σ 0 = nI w) ∧ ∃ w, 2 ≤ w ∧ w ≤ 8 ∧ zC σ 1 = nI w) ∧ ((∀ q, q < 64 → zC σ (42 + q) = 0 ∨ zC σ (42 + q) = 1) ∧ ∀ q, q < 64 → wl (zC σ) q = true → zF σ q = true) ∧
  (∀ j, j < tn (zC σ 2) → ∃ a s e r t, (a < 64 ∧ s < 4 ∧ e < 2 ∧ r < 10 ∧ t < 4) ∧ (zC σ (4 + 5 * j) = nI a ∧ zC σ (5 + 5 * j) = nI s ∧ zC σ (6 + 5 * j) = nI e ∧ zC σ (7 + 5 * j) = nI r ∧ zC σ (8 + 5 * j) = nI t) ∧ zF σ a = true) ∧
  (∀ p, p < tn (zC σ 3) → ∃ a, a < 64 ∧ zC σ (34 + 2 * p) = nI a ∧ zF σ a = true) ∧ (∀ p, p < 4 → zT σ p = -1 ∨ ∃ a, a < 64 ∧ zT σ p = nI a ∧ zF σ a = true) ∧ (∀ q, 64 ≤ q → zF σ q = false) ∧ ∀ p, 4 ≤ p → zG σ p = false
def GL (s : Nat) (σ : ZS) : Prop := ∀ k, k < tn (zC σ 0) → WLr s (zC σ) k
theorem badd_t {F : Nat → Bool} {v q : Nat} (h : F q = true) : badd F v q = true := by unfold badd; simp [h]
theorem GC_tkn {f k y : Nat} {σ : ZS} (hf : f < 12) (hk : k < 4) (hb : bad f k y = false) (hP : tn (zC σ 2) ≤ 6 ∧ tn (zC σ 3) ≤ 4) (g : GC σ) : GC (tkn f k y σ) := by
  unfold tkn
  by_cases h : bad f k y = false ∧ fgr f k = 63
  · rw [if_pos h]
    obtain ⟨⟨g1, g2⟩, ⟨g3, g4⟩, g5, g6, g7, g8, g9⟩ := g
    have hy : y ≤ 63 := by have := (bad_iff.mp hb).1; omega
    have eC : ∀ i, i < 42 → (if f = 1 then iset (zC σ) (42 + y) 1 else zC σ) i = zC σ i := fun i hi => by
      split
      · rw [iset_ne (by omega)]
      · rfl
    have eW : ∀ q, (if f = 1 then iset (zC σ) (42 + y) 1 else zC σ) (42 + q) = zC σ (42 + q) ∨ (q = y ∧ (if f = 1 then iset (zC σ) (42 + y) 1 else zC σ) (42 + q) = 1) := fun q => by
      split
      · by_cases e : q = y
        · right; exact ⟨e, by rw [e, iset_eq]⟩
        · left; rw [iset_ne (by omega)]
      · exact Or.inl rfl
    show ((∃ w, 2 ≤ w ∧ w ≤ 8 ∧ (if f = 1 then iset (zC σ) (42 + y) 1 else zC σ) 0 = nI w) ∧ ∃ w, 2 ≤ w ∧ w ≤ 8 ∧ (if f = 1 then iset (zC σ) (42 + y) 1 else zC σ) 1 = nI w) ∧ ((∀ q, q < 64 → (if f = 1 then iset (zC σ) (42 + y) 1 else zC σ) (42 + q) = 0 ∨ (if f = 1 then iset (zC σ) (42 + y) 1 else zC σ) (42 + q) = 1) ∧ ∀ q, q < 64 → wl (if f = 1 then iset (zC σ) (42 + y) 1 else zC σ) q = true → badd (zF σ) y q = true) ∧
      (∀ j, j < tn ((if f = 1 then iset (zC σ) (42 + y) 1 else zC σ) 2) → ∃ a s e r t, (a < 64 ∧ s < 4 ∧ e < 2 ∧ r < 10 ∧ t < 4) ∧ ((if f = 1 then iset (zC σ) (42 + y) 1 else zC σ) (4 + 5 * j) = nI a ∧ (if f = 1 then iset (zC σ) (42 + y) 1 else zC σ) (5 + 5 * j) = nI s ∧ (if f = 1 then iset (zC σ) (42 + y) 1 else zC σ) (6 + 5 * j) = nI e ∧ (if f = 1 then iset (zC σ) (42 + y) 1 else zC σ) (7 + 5 * j) = nI r ∧ (if f = 1 then iset (zC σ) (42 + y) 1 else zC σ) (8 + 5 * j) = nI t) ∧ badd (zF σ) y a = true) ∧
      (∀ p, p < tn ((if f = 1 then iset (zC σ) (42 + y) 1 else zC σ) 3) → ∃ a, a < 64 ∧ (if f = 1 then iset (zC σ) (42 + y) 1 else zC σ) (34 + 2 * p) = nI a ∧ badd (zF σ) y a = true) ∧ (∀ p, p < 4 → zT σ p = -1 ∨ ∃ a, a < 64 ∧ zT σ p = nI a ∧ badd (zF σ) y a = true) ∧ (∀ q, 64 ≤ q → badd (zF σ) y q = false) ∧ ∀ p, 4 ≤ p → zG σ p = false
    refine ⟨⟨by rw [eC 0 (by omega)]; exact g1, by rw [eC 1 (by omega)]; exact g2⟩, ⟨fun q hq => ?_, fun q hq h1 => ?_⟩, fun j hj => ?_, fun p hp => ?_, fun p hp => ?_, fun q hq => ?_, g9⟩
    · rcases eW q with e | ⟨_, e⟩
      · rw [e]; exact g3 q hq
      · exact Or.inr e
    · rcases eW q with e | ⟨e, _⟩
      · exact badd_t (g4 q hq (by unfold wl at h1 ⊢; rw [e] at h1; exact h1))
      · unfold badd; simp [e]
    · rw [eC 2 (by omega)] at hj
      obtain ⟨a, s, e, r, t, b1, b2, b3⟩ := g5 j hj
      refine ⟨a, s, e, r, t, b1, ?_, badd_t b3⟩
      rw [eC _ (by omega), eC _ (by omega), eC _ (by omega), eC _ (by omega), eC _ (by omega)]
      exact b2
    · rw [eC 3 (by omega)] at hp
      obtain ⟨a, b1, b2, b3⟩ := g6 p hp
      exact ⟨a, b1, by rw [eC _ (by omega)]; exact b2, badd_t b3⟩
    · rcases g7 p hp with e | ⟨a, b1, b2, b3⟩
      · exact Or.inl e
      · exact Or.inr ⟨a, b1, b2, badd_t b3⟩
    · unfold badd
      rw [g8 q hq, Bool.or_false, decide_eq_false (by omega)]
  · rw [if_neg h]; exact g
theorem tkn_b (f k y : Nat) (σ : ZS) : tn (zC (tkn f k y σ) 2) = tn (zC σ 2) ∧ tn (zC (tkn f k y σ) 3) = tn (zC σ 3) := by
  rw [zC_tkn _ _ _ _ 2 (by omega), zC_tkn _ _ _ _ 3 (by omega)]; exact ⟨rfl, rfl⟩
theorem tkn_F {f k y q : Nat} {σ : ZS} (h : zF σ q = true) : zF (tkn f k y σ) q = true := by
  unfold tkn
  split
  · exact badd_t h
  · exact h
theorem tkn_C {f k y : Nat} {σ : ZS} (h : f ≠ 1) : zC (tkn f k y σ) = zC σ := by
  unfold tkn
  by_cases hh : bad f k y = false ∧ fgr f k = 63
  · rw [if_pos hh]
    show (if f = 1 then iset (zC σ) (42 + y) 1 else zC σ) = _
    rw [if_neg h]
  · rw [if_neg hh]
/-- a number in its place is in order -/
def VO (f i : Nat) (x : Int32) (F : Nat → Bool) : Prop := (fsr f = 2 ∧ x = -1) ∨ ∃ y, bad f i y = false ∧ x = nI y ∧ (fgr f i = 63 → F y = true)
theorem slots_g {B : Nat → Nat} {n f : Nat} (hf : f < 12) : ∀ d k (σ : ZS) (v : Nat → Int32) z, k + d ≤ 4 → slots B n f d k σ v = .inr z → zf z.1 = 0 → zf σ = 0 ∧ (tn (zC σ 2) ≤ 6 ∧ tn (zC σ 3) ≤ 4 → GC σ → GC z.1) ∧ (f ≠ 1 → zC z.1 = zC σ) ∧ (∀ q, zF σ q = true → zF z.1 q = true) ∧ (∀ i, k ≤ i → i < k + d → VO f i (z.2 i) (zF z.1)) ∧ (∀ i, i < k ∨ k + d ≤ i → z.2 i = v i) ∧ tn (zC z.1 2) = tn (zC σ 2) ∧ tn (zC z.1 3) = tn (zC σ 3) := by
  intro d
  induction d with
  | zero =>
    intro k σ v z h4 e h0
    have := Sum.inr.inj e
    subst this
    exact ⟨h0, fun _ g => g, fun _ => rfl, fun _ h => h, fun i h1 h2 => by omega, fun _ _ => rfl, rfl, rfl⟩
  | succ d ih =>
    intro k σ v z h4 e h0
    rw [slots] at e
    cases es : slot B n f k σ with
    | inl q => rw [es] at e; exact absurd e (by simp)
    | inr y =>
      rw [es] at e
      dsimp only at e
      obtain ⟨i1, i2, i3, i4, i5, i6, i7, i8⟩ := ih (k + 1) y.1 _ z (by omega) e h0
      obtain ⟨s1, s2⟩ := slot_g es i1
      have vk : z.2 k = y.2 := by rw [i6 k (Or.inl (by omega)), iset_eq]
      have vo : ∀ i, i < k ∨ k + (d + 1) ≤ i → z.2 i = v i := fun i hi => by rw [i6 i (by omega), iset_ne (by omega)]
      rcases s2 with ⟨a1, a2, a3⟩ | ⟨w, a1, a2, a3⟩
      · rw [a3] at i2 i3 i4 i7 i8
        refine ⟨s1, i2, i3, i4, fun i h1 h2 => ?_, vo, i7, i8⟩
        by_cases ei : i = k
        · subst ei; rw [vk]; exact Or.inl ⟨a1, a2⟩
        · exact i5 i (by omega) (by omega)
      · rw [a3] at i2 i3 i4 i7 i8
        have tb := tkn_b f k w σ
        refine ⟨s1, fun hb g => i2 (by show tn (zC (tkn f k w σ) 2) ≤ 6 ∧ tn (zC (tkn f k w σ) 3) ≤ 4; rw [tb.1, tb.2]; exact hb) (GC_tkn hf (by omega) a1 hb g), fun h1 => (i3 h1).trans (tkn_C h1), fun q hq => i4 q (tkn_F hq), fun i h1 h2 => ?_, vo, i7.trans tb.1, i8.trans tb.2⟩
        by_cases ei : i = k
        · subst ei
          rw [vk]
          refine Or.inr ⟨w, a1, a2, fun h63 => i4 w ?_⟩
          show zF (tkn f i w σ) w = true
          unfold tkn
          rw [if_pos ⟨a1, h63⟩]
          show badd (zF σ) w w = true
          unfold badd; simp
        · exact i5 i (by omega) (by omega)
theorem wlp_g {B : Nat → Nat} {n : Nat} : ∀ d (σ : ZS), zf (wlp B n d σ) = 0 → zf σ = 0 ∧ (tn (zC σ 2) ≤ 6 ∧ tn (zC σ 3) ≤ 4 → GC σ → GC (wlp B n d σ)) ∧ tn (zC (wlp B n d σ) 2) = tn (zC σ 2) ∧ tn (zC (wlp B n d σ) 3) = tn (zC σ 3) := by
  intro d
  induction d with
  | zero => intro σ h; exact ⟨h, fun _ g => g, rfl, rfl⟩
  | succ d ih =>
    intro σ h
    rw [wlp] at h ⊢
    by_cases hk : tK B n (zi σ) = 2
    · rw [if_pos hk] at h ⊢
      obtain ⟨y, ey⟩ := slot_wall hk
      rw [ey] at h ⊢
      dsimp only at h ⊢
      obtain ⟨i1, i2, i3, i4⟩ := ih y.1 h
      obtain ⟨s1, s2⟩ := slot_g ey i1
      rcases s2 with ⟨a1, _⟩ | ⟨w, a1, a2, a3⟩
      · exact absurd a1 (by decide)
      · rw [a3] at i2 i3 i4 ⊢
        have tb := tkn_b 1 0 w σ
        exact ⟨s1, fun hb g => i2 (by show tn (zC (tkn 1 0 w σ) 2) ≤ 6 ∧ tn (zC (tkn 1 0 w σ) 3) ≤ 4; rw [tb.1, tb.2]; exact hb) (GC_tkn (by omega) (by omega) a1 hb g), i3.trans tb.1, i4.trans tb.2⟩
    · rw [if_neg hk] at h ⊢
      exact ⟨h, fun _ g => g, rfl, rfl⟩
theorem VO_n {f i : Nat} {x : Int32} {F : Nat → Bool} (h : VO f i x F) (h2 : fsr f ≠ 2) : ∃ y, y ≤ fgr f i ∧ (f = 0 → 2 ≤ y) ∧ x = nI y ∧ (fgr f i = 63 → F y = true) := by
  rcases h with ⟨a, _⟩ | ⟨y, a1, a2, a3⟩
  · exact absurd a h2
  · exact ⟨y, (bad_iff.mp a1).1, (bad_iff.mp a1).2, a2, a3⟩
theorem GC_kp {f : Nat} {v : Nat → Int32} {σ : ZS} (hf : f < 6) (ht : tmy f (zC σ) = false) (hP : tn (zC σ 2) ≤ 6 ∧ tn (zC σ 3) ≤ 4) (hv : f ≠ 1 → ∀ i, i < fnm f → VO f i (v i) (zF σ)) (g : GC σ) : GC (kp f v σ) := by
  obtain ⟨⟨g1, g2⟩, ⟨g3, g4⟩, g5, g6, g7, g8, g9⟩ := g
  have cf : f = 0 ∨ f = 1 ∨ f = 2 ∨ f = 3 ∨ f = 4 ∨ f = 5 := by omega
  have jud : (f = 2 ∨ f = 3) → GC (kp f v σ) := by
    intro hj
    have hf1 : f ≠ 1 := by omega
    have e4 : fnm f = 4 := by rcases hj with e | e <;> subst e <;> rfl
    have e0 : fsr f ≠ 2 := by rcases hj with e | e <;> subst e <;> decide
    obtain ⟨y0, a1, _, a2, a3⟩ := VO_n (hv hf1 0 (by omega)) e0
    obtain ⟨y1, b1, _, b2, _⟩ := VO_n (hv hf1 1 (by omega)) e0
    obtain ⟨y2, c1, _, c2, _⟩ := VO_n (hv hf1 2 (by omega)) e0
    obtain ⟨y3, d1, _, d2, _⟩ := VO_n (hv hf1 3 (by omega)) e0
    have q0 : fgr f 0 = 63 ∧ fgr f 1 = 3 ∧ fgr f 2 = 9 ∧ fgr f 3 = 3 := by rcases hj with e | e <;> subst e <;> decide
    have h6 : tn (zC σ 2) < 6 := by
      unfold tmy at ht
      rw [if_pos hj] at ht
      simpa using ht
    obtain ⟨N, hN⟩ : ∃ N, N = tn (zC σ 2) := ⟨_, rfl⟩
    have eC : ∀ x, zC (kp f v σ) x = if x = 2 then nI (N + 1) else if x = 4 + 5 * N then v 0 else if x = 5 + 5 * N then v 1 else if x = 6 + 5 * N then nI (f - 2) else if x = 7 + 5 * N then v 2 else if x = 8 + 5 * N then v 3 else zC σ x := by
      intro x
      show kpC f v (zC σ) x = _
      unfold kpC
      rw [if_neg (by rw [ht]; decide), if_neg (by omega), if_neg (by omega), if_pos hj, hN]
    rw [← hN] at g5 h6
    have eo : ∀ x, x ≠ 2 → (x < 4 + 5 * N ∨ 9 + 5 * N ≤ x) → zC (kp f v σ) x = zC σ x := fun x h1 h2 => by
      rw [eC, if_neg h1, if_neg (by omega), if_neg (by omega), if_neg (by omega), if_neg (by omega), if_neg (by omega)]
    refine ⟨⟨by rw [eo 0 (by omega) (by omega)]; exact g1, by rw [eo 1 (by omega) (by omega)]; exact g2⟩, ⟨fun q hq => by rw [eo _ (by omega) (by omega)]; exact g3 q hq, fun q hq h1 => g4 q hq (by unfold wl at h1 ⊢; rw [eo _ (by omega) (by omega)] at h1; exact h1)⟩, fun j hj2 => ?_, fun p hp => ?_, ?_, g8, ?_⟩
    · rw [eC 2, if_pos rfl, tn_nI (by omega)] at hj2
      by_cases ej : j = N
      · subst ej
        refine ⟨y0, y1, f - 2, y2, y3, ⟨by omega, by omega, by omega, by omega, by omega⟩, ⟨?_, ?_, ?_, ?_, ?_⟩, a3 q0.1⟩
        · rw [eC, if_neg (by omega), if_pos (by omega)]; exact a2
        · rw [eC, if_neg (by omega), if_neg (by omega), if_pos (by omega)]; exact b2
        · rw [eC, if_neg (by omega), if_neg (by omega), if_neg (by omega), if_pos (by omega)]
        · rw [eC, if_neg (by omega), if_neg (by omega), if_neg (by omega), if_neg (by omega), if_pos (by omega)]; exact c2
        · rw [eC, if_neg (by omega), if_neg (by omega), if_neg (by omega), if_neg (by omega), if_neg (by omega), if_pos (by omega)]; exact d2
      · rw [eo _ (by omega) (by omega), eo _ (by omega) (by omega), eo _ (by omega) (by omega), eo _ (by omega) (by omega), eo _ (by omega) (by omega)]
        exact g5 j (by omega)
    · rw [eo 3 (by omega) (by omega)] at hp
      rw [eo _ (by omega) (by omega)]
      exact g6 p hp
    · show ∀ p, p < 4 → (if f = 5 ∧ tn (v 0) < 4 then iset (zT σ) (tn (v 0)) (v 1) else zT σ) p = -1 ∨ ∃ a, a < 64 ∧ (if f = 5 ∧ tn (v 0) < 4 then iset (zT σ) (tn (v 0)) (v 1) else zT σ) p = nI a ∧ zF σ a = true
      rw [if_neg (by omega)]; exact g7
    · show ∀ p, 4 ≤ p → (if f = 5 ∧ tn (v 0) < 4 then badd (zG σ) (tn (v 0)) else zG σ) p = false
      rw [if_neg (by omega)]; exact g9
  -- forms that leave TWINS alone
  have rest : f ≠ 5 → ∀ C : CR, kpC f v (zC σ) = C → ((∃ w, 2 ≤ w ∧ w ≤ 8 ∧ C 0 = nI w) ∧ ∃ w, 2 ≤ w ∧ w ≤ 8 ∧ C 1 = nI w) → (∀ q, q < 64 → C (42 + q) = zC σ (42 + q)) →
      (∀ j, j < tn (C 2) → ∃ a s e r t, (a < 64 ∧ s < 4 ∧ e < 2 ∧ r < 10 ∧ t < 4) ∧ (C (4 + 5 * j) = nI a ∧ C (5 + 5 * j) = nI s ∧ C (6 + 5 * j) = nI e ∧ C (7 + 5 * j) = nI r ∧ C (8 + 5 * j) = nI t) ∧ zF σ a = true) →
      (∀ p, p < tn (C 3) → ∃ a, a < 64 ∧ C (34 + 2 * p) = nI a ∧ zF σ a = true) → GC (kp f v σ) := by
    intro h5 C hC r1 r2 r3 r4
    have e1 : kp f v σ = (zi σ, σ.2.1, zF σ, zG σ, C, zT σ) := by
      unfold kp
      rw [if_neg (fun z => h5 z.1), if_neg (fun z => h5 z.1), hC]
    rw [e1]
    exact ⟨r1, ⟨fun q hq => by show C (42 + q) = 0 ∨ C (42 + q) = 1; rw [r2 q hq]; exact g3 q hq, fun q hq h1 => g4 q hq (by
      have h1' : decide (C (42 + q) = 1) = true := h1
      rw [r2 q hq] at h1'; exact h1')⟩, r3, r4, g7, g8, g9⟩
  rcases cf with e | e | e | e | e | e
  · subst e
    obtain ⟨y0, a1, a4, a2, a3⟩ := VO_n (hv (by omega) 0 (by decide)) (by decide)
    obtain ⟨y1, b1, b4, b2, _⟩ := VO_n (hv (by omega) 1 (by decide)) (by decide)
    have q0 : fgr 0 0 = 8 ∧ fgr 0 1 = 8 := by decide
    refine rest (by omega) (iset (iset (zC σ) 0 (v 0)) 1 (v 1)) ?_ ⟨⟨y0, a4 rfl, by omega, ?_⟩, ⟨y1, b4 rfl, by omega, ?_⟩⟩ (fun q hq => ?_) (fun j hj => ?_) (fun p hp => ?_)
    · unfold kpC; rw [if_neg (by rw [ht]; decide), if_pos rfl]
    · rw [iset_ne (by omega), iset_eq]; exact a2
    · rw [iset_eq]; exact b2
    · rw [iset_ne (by omega), iset_ne (by omega)]
    · rw [iset_ne (by omega), iset_ne (by omega)] at hj
      have := g5 j hj
      rw [iset_ne (by omega), iset_ne (by omega), iset_ne (by omega), iset_ne (by omega), iset_ne (by omega), iset_ne (by omega), iset_ne (by omega), iset_ne (by omega), iset_ne (by omega), iset_ne (by omega)]
      exact this
    · rw [iset_ne (by omega), iset_ne (by omega)] at hp
      rw [iset_ne (by omega), iset_ne (by omega)]
      exact g6 p hp
  · subst e
    exact rest (by omega) (zC σ) (by unfold kpC; rw [if_neg (by rw [ht]; decide), if_neg (by omega), if_pos rfl]) ⟨g1, g2⟩ (fun _ _ => rfl) g5 g6
  · exact jud (Or.inl e)
  · exact jud (Or.inr e)
  · subst e
    obtain ⟨y0, a1, a4, a2, a3⟩ := VO_n (hv (by omega) 0 (by decide)) (by decide)
    have q0 : fgr 4 0 = 63 := by decide
    have h4 : tn (zC σ 3) < 4 := by
      unfold tmy at ht
      rw [if_neg (by omega), if_pos rfl] at ht
      simpa using ht
    obtain ⟨N, hN⟩ : ∃ N, N = tn (zC σ 3) := ⟨_, rfl⟩
    rw [← hN] at g6 h4
    refine rest (by omega) (fun x => if x = 3 then nI (N + 1) else if x = 34 + 2 * N then v 0 else zC σ x) ?_ ?_ (fun q hq => ?_) (fun j hj => ?_) (fun p hp => ?_)
    · unfold kpC; rw [if_neg (by rw [ht]; decide), if_neg (by omega), if_neg (by omega), if_neg (by omega), if_pos rfl, hN]
    · rw [if_neg (by omega), if_neg (by omega), if_neg (by omega), if_neg (by omega)]
      exact ⟨g1, g2⟩
    · rw [if_neg (by omega), if_neg (by omega)]
    · rw [if_neg (by omega), if_neg (by omega)] at hj
      rw [if_neg (by omega), if_neg (by omega), if_neg (by omega), if_neg (by omega), if_neg (by omega), if_neg (by omega), if_neg (by omega), if_neg (by omega), if_neg (by omega), if_neg (by omega)]
      exact g5 j hj
    · rw [if_pos rfl, tn_nI (by omega)] at hp
      rw [if_neg (by omega)]
      by_cases ep : p = N
      · rw [if_pos (by omega)]; exact ⟨y0, by omega, a2, a3 q0⟩
      · rw [if_neg (by omega)]; exact g6 p (by omega)
  · subst e
    obtain ⟨y0, a1, a4, a2, a3⟩ := VO_n (hv (by omega) 0 (by decide)) (by decide)
    obtain ⟨y1, b1, b4, b2, b3⟩ := VO_n (hv (by omega) 1 (by decide)) (by decide)
    have q0 : fgr 5 0 = 3 ∧ fgr 5 1 = 63 := by decide
    have e0 : tn (v 0) = y0 := by rw [a2, tn_nI (by omega)]
    have e1 : kp 5 v σ = (zi σ, σ.2.1, zF σ, badd (zG σ) y0, zC σ, iset (zT σ) y0 (v 1)) := by
      unfold kp
      rw [e0, if_pos ⟨rfl, by omega⟩, if_pos ⟨rfl, by omega⟩]
      unfold kpC
      rw [if_neg (by rw [ht]; decide), if_neg (by omega), if_neg (by omega), if_neg (by omega), if_neg (by omega), if_pos rfl]
    rw [e1]
    refine ⟨⟨g1, g2⟩, ⟨g3, g4⟩, g5, g6, fun p hp => ?_, g8, fun p hp => ?_⟩
    · show iset (zT σ) y0 (v 1) p = -1 ∨ ∃ a, a < 64 ∧ iset (zT σ) y0 (v 1) p = nI a ∧ zF σ a = true
      by_cases ep : p = y0
      · rw [ep, iset_eq]; exact Or.inr ⟨y1, by omega, b2, b3 q0.2⟩
      · rw [iset_ne ep]; exact g7 p hp
    · show badd (zG σ) y0 p = false
      unfold badd
      rw [g9 p hp, Bool.or_false, decide_eq_false (by omega)]
theorem GL_kp {f : Nat} {v : Nat → Int32} {σ : ZS} (hf : f < 12) (h6 : 6 ≤ f) (ht : tmy f (zC σ) = false) (hv : ∀ i, i < fnm f → VO f i (v i) (zF σ)) (hm : ∀ i, fnm f ≤ i → v i = -1) (g : GL (fsr f) σ) : GL (fsr f) (kp f v σ) := by
  obtain ⟨s1, s4, hlw⟩ := fhd_lw f hf h6
  have hN : tn (zC σ 0) < lmx (fsr f) := by
    unfold tmy at ht
    rw [if_neg (by omega), if_neg (by omega), if_neg (by omega)] at ht
    simpa using ht
  have hl30 : lmx (fsr f) ≤ 30 := (lmw _ s1 s4).1
  obtain ⟨N, eN⟩ : ∃ N, N = tn (zC σ 0) := ⟨_, rfl⟩
  unfold GL at g ⊢
  have eC : ∀ x, zC (kp f v σ) x = if x = 0 then nI (N + 1) else if 1 + lwd (fsr f) * N ≤ x ∧ x < 1 + lwd (fsr f) * N + lwd (fsr f) then rowv f v (x - (1 + lwd (fsr f) * N)) else zC σ x := by
    intro x
    show kpC f v (zC σ) x = _
    unfold kpC
    rw [if_neg (by rw [ht]; decide), if_neg (by omega), if_neg (by omega), if_neg (by omega), if_neg (by omega), if_neg (by omega), eN]
  rw [← eN] at g hN
  intro k hk
  rw [eC 0, if_pos rfl, tn_nI (by omega)] at hk
  have old : k < N → ∀ i, 1 ≤ i → i ≤ lwd (fsr f) → zC (kp f v σ) (i + lwd (fsr f) * k) = zC σ (i + lwd (fsr f) * k) := by
    intro h1 i h2 h3
    have h4 : lwd (fsr f) * (k + 1) ≤ lwd (fsr f) * N := Nat.mul_le_mul_left _ (by omega)
    rw [Nat.mul_succ] at h4
    rw [eC, if_neg (by omega), if_neg (by omega)]
  have new : ∀ i, 1 ≤ i → i ≤ lwd (fsr f) → zC (kp f v σ) (i + lwd (fsr f) * N) = rowv f v (i - 1) := by
    intro i h2 h3
    rw [eC, if_neg (by omega), if_pos (by omega)]
    congr 1; omega
  have cf : f = 6 ∨ f = 7 ∨ f = 8 ∨ f = 9 ∨ f = 10 ∨ f = 11 := by omega
  have rv : ∀ i, f ≠ 11 → 1 ≤ i → rowv f v i = v (i - 1) := fun i h1 h2 => by unfold rowv; rw [if_neg h1, if_neg (by omega)]
  have r0 : f ≠ 11 → rowv f v 0 = nI (fhd f) := fun h1 => by unfold rowv; rw [if_neg h1, if_pos rfl]
  by_cases ek : k = N
  · subst ek
    rcases cf with e | e | e | e | e | e
    · subst e
      obtain ⟨y0, a1, _, a2, _⟩ := VO_n (hv 0 (by decide)) (by decide)
      obtain ⟨y1, b1, _, b2, _⟩ := VO_n (hv 1 (by decide)) (by decide)
      have q0 : fgr 6 0 = 3 ∧ fgr 6 1 = 3 := by decide
      have w := new
      rw [show lwd (fsr 6) = 4 from rfl] at w
      unfold WLr
      rw [if_pos (by decide)]
      left
      refine ⟨?_, y0, y1, by omega, by omega, ?_, ?_, ?_⟩
      · rw [w 1 (by omega) (by omega), r0 (by omega)]; rfl
      · rw [w 2 (by omega) (by omega), rv _ (by omega) (by omega)]; exact a2
      · rw [w 3 (by omega) (by omega), rv _ (by omega) (by omega)]; exact b2
      · rw [w 4 (by omega) (by omega), rv _ (by omega) (by omega)]; exact hm 2 (by decide)
    · subst e
      obtain ⟨y0, a1, _, a2, _⟩ := VO_n (hv 0 (by decide)) (by decide)
      obtain ⟨y1, b1, _, b2, _⟩ := VO_n (hv 1 (by decide)) (by decide)
      obtain ⟨y2, c1, _, c2, _⟩ := VO_n (hv 2 (by decide)) (by decide)
      have q0 : fgr 7 0 = 3 ∧ fgr 7 1 = 9 ∧ fgr 7 2 = 9 := by decide
      have w := new
      rw [show lwd (fsr 7) = 4 from rfl] at w
      unfold WLr
      rw [if_pos (by decide)]
      right; left
      refine ⟨?_, y0, y1, y2, by omega, by omega, by omega, ?_, ?_, ?_⟩
      · rw [w 1 (by omega) (by omega), r0 (by omega)]; rfl
      · rw [w 2 (by omega) (by omega), rv _ (by omega) (by omega)]; exact a2
      · rw [w 3 (by omega) (by omega), rv _ (by omega) (by omega)]; exact b2
      · rw [w 4 (by omega) (by omega), rv _ (by omega) (by omega)]; exact c2
    · subst e
      have w := new
      rw [show lwd (fsr 8) = 4 from rfl] at w
      unfold WLr
      rw [if_pos (by decide)]
      right; right
      refine ⟨?_, ?_, ?_, ?_⟩
      · rw [w 1 (by omega) (by omega), r0 (by omega)]; rfl
      · rw [w 2 (by omega) (by omega), rv _ (by omega) (by omega)]; exact hm 0 (by decide)
      · rw [w 3 (by omega) (by omega), rv _ (by omega) (by omega)]; exact hm 1 (by decide)
      · rw [w 4 (by omega) (by omega), rv _ (by omega) (by omega)]; exact hm 2 (by decide)
    · have law : ∀ i, i < 2 → (v i = -1 ∨ ∃ w, w < 10 ∧ v i = nI w) := by
        intro i hi
        rcases hv i (by rw [e]; exact hi) with ⟨_, z⟩ | ⟨y, z1, z2, _⟩
        · exact Or.inl z
        · have := (bad_iff.mp z1).1
          have q0 : fgr f i ≤ 9 := by
            rw [e]
            have : i = 0 ∨ i = 1 := by omega
            rcases this with e | e <;> subst e <;> decide
          exact Or.inr ⟨y, by omega, z2⟩
      have w := new
      subst e
      rw [show lwd (fsr 9) = 3 from rfl] at w
      unfold WLr
      rw [if_neg (by decide), if_pos (by decide)]
      refine ⟨Or.inr ?_, ?_, ?_⟩
      · rw [w 1 (by omega) (by omega), r0 (by omega)]; rfl
      · rw [w 2 (by omega) (by omega), rv _ (by omega) (by omega)]; exact law 0 (by omega)
      · rw [w 3 (by omega) (by omega), rv _ (by omega) (by omega)]; exact law 1 (by omega)
    · have law : ∀ i, i < 2 → (v i = -1 ∨ ∃ w, w < 10 ∧ v i = nI w) := by
        intro i hi
        rcases hv i (by rw [e]; exact hi) with ⟨_, z⟩ | ⟨y, z1, z2, _⟩
        · exact Or.inl z
        · have := (bad_iff.mp z1).1
          have q0 : fgr f i ≤ 9 := by
            rw [e]
            have : i = 0 ∨ i = 1 := by omega
            rcases this with e | e <;> subst e <;> decide
          exact Or.inr ⟨y, by omega, z2⟩
      have w := new
      subst e
      rw [show lwd (fsr 10) = 3 from rfl] at w
      unfold WLr
      rw [if_neg (by decide), if_pos (by decide)]
      refine ⟨Or.inl ?_, ?_, ?_⟩
      · rw [w 1 (by omega) (by omega), r0 (by omega)]; rfl
      · rw [w 2 (by omega) (by omega), rv _ (by omega) (by omega)]; exact law 0 (by omega)
      · rw [w 3 (by omega) (by omega), rv _ (by omega) (by omega)]; exact law 1 (by omega)
    · subst e
      obtain ⟨y0, a1, _, a2, _⟩ := VO_n (hv 0 (by decide)) (by decide)
      obtain ⟨y1, b1, _, b2, _⟩ := VO_n (hv 1 (by decide)) (by decide)
      have q0 : fgr 11 0 = 5 ∧ fgr 11 1 = 9 := by decide
      have w := new
      rw [show lwd (fsr 11) = 2 from rfl] at w
      have rw11 : ∀ i, rowv 11 v i = v i := fun i => by unfold rowv; rw [if_pos rfl]
      unfold WLr
      rw [if_neg (by decide), if_neg (by decide)]
      refine ⟨y0, y1, by omega, by omega, ?_, ?_⟩
      · rw [w 1 (by omega) (by omega), rw11]; exact a2
      · rw [w 2 (by omega) (by omega), rw11]; exact b2
  · have hkN : k < N := by omega
    have o := old hkN
    have gk := g k hkN
    have cs : fsr f = 1 ∨ fsr f = 2 ∨ fsr f = 3 := by omega
    unfold WLr at gk ⊢
    rcases cs with e | e | e
    · rw [e] at o gk ⊢
      rw [show lwd 1 = 4 from rfl] at o
      rw [if_pos rfl] at gk ⊢
      rw [o 1 (by omega) (by omega), o 2 (by omega) (by omega), o 3 (by omega) (by omega), o 4 (by omega) (by omega)]
      exact gk
    · rw [e] at o gk ⊢
      rw [show lwd 2 = 3 from rfl] at o
      rw [if_neg (by omega), if_pos rfl] at gk ⊢
      rw [o 1 (by omega) (by omega), o 2 (by omega) (by omega), o 3 (by omega) (by omega)]
      exact gk
    · rw [e] at o gk ⊢
      rw [show lwd 3 = 2 from rfl] at o
      rw [if_neg (by omega), if_neg (by omega)] at gk ⊢
      rw [o 1 (by omega) (by omega), o 2 (by omega) (by omega)]
      exact gk
/-- a text so far in order -/
def GI (s : Nat) (σ : ZS) : Prop := zf σ = 0 → (s = 0 → GC σ) ∧ (1 ≤ s → GL s σ)
theorem GC_nt {B : Nat → Nat} {n : Nat} {σ : ZS} (g : GC σ) : GC (nt B n σ) := g
theorem GI_ln {B : Nat → Nat} {n s : Nat} {σ τ : ZS} (hs : s < 4) (hP : PJ B n s σ) (g : GI s σ) (e : lnS s B n σ = .inr τ) : GI s τ := by
  intro h0
  unfold lnS at e
  rcases fmO_c s B n (zi σ) with e1 | ⟨hf, hfs, hw, hk1⟩
  · rw [if_pos e1] at e; exact absurd e (by simp)
  · rw [if_neg (by omega)] at e
    obtain ⟨f, ef⟩ : ∃ f, f = fmO s B n (zi σ) := ⟨_, rfl⟩
    rw [← ef] at hf hfs e
    subst hfs
    unfold lnF at e
    have h4 := (fnm_4 f hf).1
    cases es : slots B n f (fnm f) 0 (nt B n (if tmy f (zC σ) = true then ft 3 (tB B n (zi σ)) σ else σ)) (fun _ => -1) with
    | inl q => rw [es] at e; exact absurd e (by simp)
    | inr z =>
      rw [es] at e
      dsimp only at e
      by_cases hk : tK B n (zi (if f = 1 then wlp B n (n - zi z.1) z.1 else z.1)) = 4
      · rw [if_pos hk] at e
        have := Sum.inr.inj e
        subst this
        have h0' : zf (if f = 1 then wlp B n (n - zi z.1) z.1 else z.1) = 0 := h0
        have key : zf z.1 = 0 ∧ (tn (zC z.1 2) ≤ 6 ∧ tn (zC z.1 3) ≤ 4 → GC z.1 → GC (if f = 1 then wlp B n (n - zi z.1) z.1 else z.1)) ∧ tn (zC (if f = 1 then wlp B n (n - zi z.1) z.1 else z.1) 2) = tn (zC z.1 2) ∧ tn (zC (if f = 1 then wlp B n (n - zi z.1) z.1 else z.1) 3) = tn (zC z.1 3) := by
          by_cases f1 : f = 1
          · rw [if_pos f1] at h0' ⊢
            exact wlp_g _ _ h0'
          · rw [if_neg f1] at h0' ⊢
            exact ⟨h0', fun _ g => g, rfl, rfl⟩
        obtain ⟨k1, k2, k3, k4⟩ := key
        obtain ⟨s1, s2, s3, s4, s5, s6, s7, s8⟩ := slots_g hf (fnm f) 0 _ _ z (by omega) es k1
        have ht : tmy f (zC σ) = false := by
          cases ht : tmy f (zC σ) with
          | false => rfl
          | true =>
            rw [ht, if_pos rfl] at s1
            exact absurd s1 (zf_ft (by decide))
        rw [ht, if_neg (by decide)] at s1 s2 s3 s4 s7 s8
        have s1' : zf σ = 0 := s1
        obtain ⟨g1, g2⟩ := g s1'
        refine ⟨fun z0 => ?_, fun z1 => ?_⟩
        · have f6 := (fsr_4 f hf).2.mp z0
          obtain ⟨q1, q2, q3, q4⟩ := hP.2.2.2.1 z0
          have gz : GC z.1 := s2 ⟨q2, q4⟩ (g1 z0)
          have s7' : tn (zC z.1 2) = tn (zC σ 2) := s7
          have s8' : tn (zC z.1 3) = tn (zC σ 3) := s8
          have gw := k2 ⟨by omega, by omega⟩ gz
          refine GC_nt (GC_kp f6 ?_ ⟨by omega, by omega⟩ (fun f1 i hi => ?_) gw)
          · unfold tmy at ht ⊢
            by_cases f23 : f = 2 ∨ f = 3
            · rw [if_pos f23] at ht ⊢; rw [k3, s7']; exact ht
            · rw [if_neg f23] at ht ⊢
              by_cases f4 : f = 4
              · rw [if_pos f4] at ht ⊢; rw [k4, s8']; exact ht
              · rw [if_neg f4, if_pos f6]
          · rw [if_neg f1]
            exact s5 i (Nat.zero_le _) (by omega)
        · have f6 : 6 ≤ f := by
            have := (fsr_4 f hf).2
            omega
          have f1 : f ≠ 1 := by omega
          rw [if_neg f1]
          have eC : zC z.1 = zC σ := s3 f1
          have gz : GL (fsr f) z.1 := by
            unfold GL
            rw [eC]
            exact g2 z1
          exact GL_kp hf f6 (by rw [eC]; exact ht) (fun i hi => s5 i (Nat.zero_le _) (by omega)) (fun i hi => s6 i (Or.inr (by omega))) gz
      · rw [if_neg hk] at e; exact absurd e (by simp)
theorem GI_0 (s : Nat) : GI s (z0 s) := by
  intro _
  refine ⟨fun z => ?_, fun z => ?_⟩
  · subst z
    have e : ∀ x, 2 ≤ x → (if 0 = 0 ∧ x < 2 then (5 : Int32) else 0) = 0 := fun x hx => if_neg (by omega)
    refine ⟨⟨⟨5, by omega, by omega, rfl⟩, ⟨5, by omega, by omega, rfl⟩⟩, ⟨fun q _ => Or.inl (e (42 + q) (by omega)), fun q _ h => ?_⟩, fun j hj => ?_, fun p hp => ?_, fun p _ => Or.inl rfl, fun _ _ => rfl, fun _ _ => rfl⟩
    · have h' : decide ((if 0 = 0 ∧ 42 + q < 2 then (5 : Int32) else 0) = 1) = true := h
      rw [e _ (by omega)] at h'
      exact absurd h' (by decide)
    · have hj' : j < tn (if 0 = 0 ∧ 2 < 2 then (5 : Int32) else 0) := hj
      rw [e 2 (by omega)] at hj'
      exact absurd hj' (by show ¬ j < tn (nI 0); rw [tn_nI (by omega)]; omega)
    · have hp' : p < tn (if 0 = 0 ∧ 3 < 2 then (5 : Int32) else 0) := hp
      rw [e 3 (by omega)] at hp'
      exact absurd hp' (by show ¬ p < tn (nI 0); rw [tn_nI (by omega)]; omega)
  · intro k hk
    have hk' : k < tn (if s = 0 ∧ 0 < 2 then (5 : Int32) else 0) := hk
    rw [if_neg (by omega)] at hk'
    exact absurd hk' (by show ¬ k < tn (nI 0); rw [tn_nI (by omega)]; omega)
theorem zTC_o {C : CR} {T : Nat → Int32} {x : Nat} (h : x < 35 ∨ x % 2 = 0 ∨ 35 + 2 * tn (C 3) ≤ x) : zTC C T x = C x := by
  unfold zTC; rw [if_neg (by omega)]
theorem zTC_t {C : CR} {T : Nat → Int32} {p : Nat} (h : p < tn (C 3)) : zTC C T (35 + 2 * p) = T p := by
  unfold zTC
  rw [if_pos (by omega), show (35 + 2 * p - 35) / 2 = p by omega]
theorem zTC_w {C : CR} {T : Nat → Int32} (h : tn (C 3) ≤ 4) (q : Nat) : wl (zTC C T) q = wl C q := by
  unfold wl
  rw [zTC_o (by omega)]
theorem wrg_f {σ : ZS} : wrg σ = false ↔ (∀ f, f < 64 → zF σ f = true → f < tn (zC σ 0) * tn (zC σ 1)) ∧ (∀ p, p < 4 → zG σ p = true → p < tn (zC σ 3)) ∧ (∀ j, j < tn (zC σ 2) → wl (zC σ) (tn (zC σ (4 + 5 * j))) = false) ∧ ∀ p, p < tn (zC σ 3) → wl (zC σ) (tn (zC σ (34 + 2 * p))) = false ∧ (zT σ p = -1 ∨ wl (zC σ) (tn (zT σ p)) = false) := by
  unfold wrg
  rw [Bool.or_eq_false_iff, Bool.or_eq_false_iff, Bool.or_eq_false_iff, Bool.not_eq_false', Bool.not_eq_false', Bool.not_eq_false', Bool.not_eq_false', List.all_eq_true, List.all_eq_true, List.all_eq_true, List.all_eq_true]
  constructor
  · rintro ⟨⟨⟨h1, h2⟩, h3⟩, h4⟩
    refine ⟨fun f hf hz => ?_, fun p hp hz => ?_, fun j hj => ?_, fun p hp => ?_⟩
    · have := h1 f (List.mem_range.mpr hf)
      rw [hz] at this; simpa using this
    · have := h2 p (List.mem_range.mpr hp)
      rw [hz] at this; simpa using this
    · have := h3 j (List.mem_range.mpr hj)
      simpa using this
    · have := h4 p (List.mem_range.mpr hp)
      simpa using this
  · rintro ⟨h1, h2, h3, h4⟩
    refine ⟨⟨⟨fun f hf => ?_, fun p hp => ?_⟩, fun j hj => ?_⟩, fun p hp => ?_⟩
    · have := h1 f (List.mem_range.mp hf)
      cases hz : zF σ f with
      | false => rfl
      | true => simpa using this hz
    · have := h2 p (List.mem_range.mp hp)
      cases hz : zG σ p with
      | false => rfl
      | true => simpa using this hz
    · have := h3 j (List.mem_range.mp hj)
      simpa using this
    · have := h4 p (List.mem_range.mp hp)
      simpa using this
theorem good_wf {B : Nat → Nat} {n : Nat} {σ : ZS} (hP : PJ B n 0 σ) (g : GC σ) (hw : wrg σ = false) : WF (zTC (zC σ) (zT σ)) := by
  obtain ⟨q1, q2, q3, q4⟩ := hP.2.2.2.1 rfl
  obtain ⟨⟨⟨w, a1, a2, a3⟩, ⟨v, b1, b2, b3⟩⟩, ⟨g3, g4⟩, g5, g6, g7, g8, g9⟩ := g
  obtain ⟨w1, w2, w3, w4⟩ := wrg_f.mp hw
  have e0 : zTC (zC σ) (zT σ) 0 = zC σ 0 := zTC_o (by omega)
  have e1 : zTC (zC σ) (zT σ) 1 = zC σ 1 := zTC_o (by omega)
  have e2 : zTC (zC σ) (zT σ) 2 = zC σ 2 := zTC_o (by omega)
  have e3 : zTC (zC σ) (zT σ) 3 = zC σ 3 := zTC_o (by omega)
  have eW : cW (zTC (zC σ) (zT σ)) = w := by unfold cW; rw [e0, a3, tn_nI (by omega)]
  have eH : cH (zTC (zC σ) (zT σ)) = v := by unfold cH; rw [e1, b3, tn_nI (by omega)]
  have eJ : cJ (zTC (zC σ) (zT σ)) = tn (zC σ 2) := by unfold cJ; rw [e2]
  have eP : cP (zTC (zC σ) (zT σ)) = tn (zC σ 3) := by unfold cP; rw [e3]
  have eF : cF (zTC (zC σ) (zT σ)) = tn (zC σ 0) * tn (zC σ 1) := by unfold cF; rw [eW, eH, a3, b3, tn_nI (by omega), tn_nI (by omega)]
  have opq : ∀ a, a < 64 → zF σ a = true → wl (zC σ) a = false → op (zTC (zC σ) (zT σ)) a = true := by
    intro a h1 h2 h3
    unfold op
    rw [zTC_w q4, h3, eF, decide_eq_true (w1 a h1 h2)]; rfl
  refine ⟨⟨⟨by omega, by omega, by rw [e0, eW]; exact a3⟩, ⟨by omega, by omega, by rw [e1, eH]; exact b3⟩, ⟨by omega, by rw [e2, eJ]; exact q1⟩, ⟨by omega, by rw [e3, eP]; exact q3⟩, fun f hf => by rw [zTC_o (by omega)]; exact g3 f hf, fun f hf h1 => ?_⟩, fun j hj => ?_, fun p hp => ?_⟩
  · rw [zTC_w q4] at h1
    rw [eF]; exact w1 f hf (g4 f hf h1)
  · rw [eJ] at hj
    obtain ⟨a, s, e, r, t, ⟨b1, b2, b3, b4, b5⟩, ⟨c1, c2, c3, c4, c5⟩, c6⟩ := g5 j hj
    have d0 : jg (zTC (zC σ) (zT σ)) j 0 = a := by unfold jg; rw [zTC_o (by omega), show 4 + 5 * j + 0 = 4 + 5 * j by omega, c1, tn_nI (by omega)]
    have d1 : jg (zTC (zC σ) (zT σ)) j 1 = s := by unfold jg; rw [zTC_o (by omega), show 4 + 5 * j + 1 = 5 + 5 * j by omega, c2, tn_nI (by omega)]
    have d2 : jg (zTC (zC σ) (zT σ)) j 2 = e := by unfold jg; rw [zTC_o (by omega), show 4 + 5 * j + 2 = 6 + 5 * j by omega, c3, tn_nI (by omega)]
    have d3 : jg (zTC (zC σ) (zT σ)) j 3 = r := by unfold jg; rw [zTC_o (by omega), show 4 + 5 * j + 3 = 7 + 5 * j by omega, c4, tn_nI (by omega)]
    have d4 : jg (zTC (zC σ) (zT σ)) j 4 = t := by unfold jg; rw [zTC_o (by omega), show 4 + 5 * j + 4 = 8 + 5 * j by omega, c5, tn_nI (by omega)]
    refine ⟨fun k hk => ?_, by rw [d0]; exact opq a b1 c6 (by have := w3 j hj; rw [c1, tn_nI (by omega)] at this; exact this), by omega, by omega, by omega, by omega⟩
    rw [zTC_o (by omega)]
    have : k = 0 ∨ k = 1 ∨ k = 2 ∨ k = 3 ∨ k = 4 := by omega
    rcases this with e | e | e | e | e
    · subst e; rw [d0]; exact c1
    · subst e; rw [d1, show 4 + 5 * j + 1 = 5 + 5 * j by omega]; exact c2
    · subst e; rw [d2, show 4 + 5 * j + 2 = 6 + 5 * j by omega]; exact c3
    · subst e; rw [d3, show 4 + 5 * j + 3 = 7 + 5 * j by omega]; exact c4
    · subst e; rw [d4, show 4 + 5 * j + 4 = 8 + 5 * j by omega]; exact c5
  · rw [eP] at hp
    obtain ⟨a, b1, b2, b3⟩ := g6 p hp
    obtain ⟨v1, v2⟩ := w4 p hp
    have d0 : ps (zTC (zC σ) (zT σ)) p = a := by unfold ps; rw [zTC_o (by omega), b2, tn_nI (by omega)]
    rw [b2, tn_nI (by omega)] at v1
    refine ⟨by rw [d0, zTC_o (by omega)]; exact b2, by rw [d0]; exact opq a b1 b3 v1, ?_⟩
    unfold tw
    rw [zTC_t hp]
    rcases g7 p (by omega) with e | ⟨t, t1, t2, t3⟩
    · exact Or.inl e
    · rcases v2 with z | z
      · exact Or.inl z
      · rw [t2, tn_nI (by omega)] at z
        exact Or.inr ⟨t, t2, opq t t1 t3 z⟩
