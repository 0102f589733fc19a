/-! TEXT: the model reads a text -/
theorem isWalled_n {h : HA} {m a : Nat} {C : CR} (ms : MS h m) (ha : a < 64) (hC : gi h (m + 10) (42 + a) = C (42 + a)) : X8_isWalled h m (nI a) = some (bI (wl C a)) := by
  unfold X8_isWalled
  rw [if_pos (ms_c ms), if_neg (nI_nm1 (by omega)), ms_r19 ms, Option.bind_some, show (42 : Int32) + nI a = nI (42 + a) from by rw [show (42 : Int32) = nI 42 from rfl, nI_add], ldI_n (ms_k19 ms) (by omega) (by omega), hC, Option.bind_some]
  unfold wl
  by_cases e : C (42 + a) = 1
  · rw [if_pos e, decide_eq_true e]; rfl
  · rw [if_neg e, decide_eq_false e]; rfl
theorem isWalled_m1 {h : HA} {m : Nat} (ms : MS h m) : X8_isWalled h m (-1) = some 0 := by
  unfold X8_isWalled
  rw [if_pos (ms_c ms), if_pos rfl]
theorem wrong37 {h : HA} {m J : Nat} {C : CR} (ms : MS h m) (hC : ∀ i, i < 121 → gi h (m + 10) i = C i) (hJ : C 2 = nI J) (hJ6 : J ≤ 6) (fa : ∀ j, j < J → ∃ a, a < 64 ∧ C (4 + 5 * j) = nI a) :
    ∀ d k fu, k + d = J → d < fu → ((∀ j, k ≤ j → j < J → wl C (tn (C (4 + 5 * j))) = false) → X8_isWrongCourt_L37 h m fu (nI k) = some (.inr ())) ∧ (¬ (∀ j, k ≤ j → j < J → wl C (tn (C (4 + 5 * j))) = false) → X8_isWrongCourt_L37 h m fu (nI k) = some (.inl (1, h))) := by
  have l2 : ldI h (m + 10) 20 2 = some (nI J) := by
    rw [show ldI h (m + 10) 20 2 = _ from ldI_n (i := 2) (ms_k19 ms) (by omega) (by omega), hC 2 (by omega), hJ]
  intro d
  induction d with
  | zero =>
    intro k fu hk hfu
    obtain ⟨g, rfl⟩ : ∃ g, fu = g + 1 := ⟨fu - 1, by omega⟩
    rw [X8_isWrongCourt_L37, ms_r19 ms, Option.bind_some, l2, Option.bind_some, if_neg (nlt_lit (by omega) (by omega))]
    exact ⟨fun _ => rfl, fun h => absurd (fun j h1 h2 => by omega) h⟩
  | succ d ih =>
    intro k fu hk hfu
    obtain ⟨g, rfl⟩ : ∃ g, fu = g + 1 := ⟨fu - 1, by omega⟩
    obtain ⟨a, ha, ea⟩ := fa k (by omega)
    obtain ⟨i1, i2⟩ := ih (k + 1) g (by omega) (by omega)
    have ta : tn (C (4 + 5 * k)) = a := by rw [ea, tn_nI (by omega)]
    rw [X8_isWrongCourt_L37, ms_r19 ms, Option.bind_some, l2, Option.bind_some, if_pos (lt_lit (by omega) (by omega)), Option.bind_some, show (4 : Int32) + 5 * nI k = nI (4 + 5 * k) from by rw [show (5 : Int32) = nI 5 from rfl, nI_mul, show (4 : Int32) = nI 4 from rfl, nI_add], ldI_n (ms_k19 ms) (by omega) (by omega), hC _ (by omega), ea, Option.bind_some, isWalled_n ms ha (hC _ (by omega)), Option.bind_some, nI_p1]
    cases hw : wl C a with
    | true =>
      rw [if_neg (show ¬ bI true = 0 by decide)]
      exact ⟨fun h => absurd (h k (Nat.le_refl _) (by omega)) (by rw [ta, hw]; decide), fun _ => rfl⟩
    | false =>
      rw [if_pos (show bI false = 0 by decide)]
      refine ⟨fun h => i1 (fun j h1 h2 => h j (by omega) h2), fun h => i2 (fun h' => h (fun j h1 h2 => ?_))⟩
      by_cases e : j = k
      · subst e; rw [ta]; exact hw
      · exact h' j (by omega) h2
def twk (C : CR) (T : Nat → Int32) (k : Nat) : CR := fun i => if 35 ≤ i ∧ i < 35 + 2 * k ∧ i % 2 = 1 then T ((i - 35) / 2) else C i
theorem wrong74 {m P : Nat} {C : CR} {T : Nat → Int32} (hP : C 3 = nI P) (hP4 : P ≤ 4) (fb : ∀ p, p < P → ∃ a, a < 64 ∧ C (34 + 2 * p) = nI a) (ft' : ∀ p, p < 4 → T p = -1 ∨ ∃ t, t < 64 ∧ T p = nI t) :
    ∀ d k (h : HA) fu, k + d = P → d < fu → MS h m → (∀ i, i < 121 → gi h (m + 10) i = twk C T k i) → (∀ p, p < 4 → gi h (m + 12) p = T p) →
      ((∀ p, k ≤ p → p < P → wl C (tn (C (34 + 2 * p))) = false ∧ (T p = -1 ∨ wl C (tn (T p)) = false)) → ∃ h1, X8_isWrongCourt_L74 m fu h (nI k) = some (0, h1) ∧ ch (fun a _ => a = m + 10) h h1 ∧ ∀ i, i < 121 → gi h1 (m + 10) i = twk C T P i) ∧
      (¬ (∀ p, k ≤ p → p < P → wl C (tn (C (34 + 2 * p))) = false ∧ (T p = -1 ∨ wl C (tn (T p)) = false)) → ∃ h1, X8_isWrongCourt_L74 m fu h (nI k) = some (1, h1) ∧ ch (fun a _ => a = m + 10) h h1) := by
  intro d
  induction d with
  | zero =>
    intro k h fu hk hfu ms hC hT
    obtain ⟨g, rfl⟩ : ∃ g, fu = g + 1 := ⟨fu - 1, by omega⟩
    have l3 : ldI h (m + 10) 20 3 = some (nI P) := by
      rw [show ldI h (m + 10) 20 3 = _ from ldI_n (i := 3) (ms_k19 ms) (by omega) (by omega), hC 3 (by omega)]
      unfold twk
      rw [if_neg (by omega), hP]
    have ek : k = P := by omega
    rw [X8_isWrongCourt_L74, ms_r19 ms, Option.bind_some, l3, Option.bind_some, if_neg (nlt_lit (by omega) (by omega))]
    exact ⟨fun _ => ⟨h, rfl, ch_rf _ _, by rw [← ek]; exact hC⟩, fun z => absurd (fun p h1 h2 => by omega) z⟩
  | succ d ih =>
    intro k h fu hk hfu ms hC hT
    obtain ⟨g, rfl⟩ : ∃ g, fu = g + 1 := ⟨fu - 1, by omega⟩
    have l3 : ldI h (m + 10) 20 3 = some (nI P) := by
      rw [show ldI h (m + 10) 20 3 = _ from ldI_n (i := 3) (ms_k19 ms) (by omega) (by omega), hC 3 (by omega)]
      unfold twk
      rw [if_neg (by omega), hP]
    obtain ⟨h2, hh2⟩ : ∃ h2, h2 = si h (m + 10) (35 + 2 * k) (T k) := ⟨_, rfl⟩
    have c2 : ch (fun a _ => a = m + 10) h h2 := by rw [hh2]; exact ch_si rfl
    have ms2 := c2.ms ms
    have hC2 : ∀ i, i < 121 → gi h2 (m + 10) i = twk C T (k + 1) i := by
      intro i hi
      rw [hh2, gi_si]
      unfold twk
      by_cases e : i = 35 + 2 * k
      · rw [if_pos ⟨rfl, e⟩, if_pos (by omega), show (i - 35) / 2 = k by omega]
      · rw [if_neg (fun z => e z.2), hC i hi]
        unfold twk
        by_cases e2 : 35 ≤ i ∧ i < 35 + 2 * k ∧ i % 2 = 1
        · rw [if_pos e2, if_pos (by omega)]
        · rw [if_neg e2, if_neg (by omega)]
    have hT2 : ∀ p, p < 4 → gi h2 (m + 12) p = T p := fun p hp => by rw [c2.gi (by omega)]; exact hT p hp
    have w2 : ∀ a, a < 64 → gi h2 (m + 10) (42 + a) = C (42 + a) := fun a ha => by
      rw [hC2 _ (by omega)]
      unfold twk
      rw [if_neg (by omega)]
    obtain ⟨a, ha, ea⟩ := fb k (by omega)
    have ta : tn (C (34 + 2 * k)) = a := by rw [ea, tn_nI (by omega)]
    obtain ⟨i1, i2⟩ := ih (k + 1) h2 g (by omega) (by omega) ms2 hC2 hT2
    have x34 : (34 : Int32) + 2 * nI k = nI (34 + 2 * k) := by rw [show (2 : Int32) = nI 2 from rfl, nI_mul, show (34 : Int32) = nI 34 from rfl, nI_add]
    have lk : ∀ g : HA, MS g m → (∀ p, p < 4 → gi g (m + 12) p = T p) → ldI g (m + 12) 20 (nI k) = some (T k) := fun g hg ht => by
      rw [ldI_n (ms_k23 hg) (by omega) (by omega), ht k (by omega)]
    have start : X8_isWrongCourt_L74 m (g + 1) h (nI k) = (X8_isWalled h2 m (nI a)).bind fun x25 => if x25 = 0 then (X8_isWalled h2 m (T k)).bind fun x29 => if x29 = 0 then X8_isWrongCourt_L74 m g h2 (nI (k + 1)) else some (1, h2) else some (1, h2) := by
      rw [X8_isWrongCourt_L74, ms_r19 ms, Option.bind_some, l3, Option.bind_some, if_pos (lt_lit (by omega) (by omega)), Option.bind_some, ms_r23 ms, Option.bind_some, lk h ms hT, Option.bind_some, x34, nI_p1, show 34 + 2 * k + 1 = 35 + 2 * k by omega, asI_n (ms_k19 ms) (by omega) (by omega), Option.bind_some, ← hh2, ms_r19 ms2, Option.bind_some, ldI_n (ms_k19 ms2) (by omega) (by omega), hC2 _ (by omega)]
      unfold twk
      rw [if_neg (by omega), ea, Option.bind_some, ms_r23 ms2]
      simp only [Option.bind_some, lk h2 ms2 hT2, nI_p1]
    rw [start, isWalled_n ms2 ha (w2 a ha), Option.bind_some]
    cases hw : wl C a with
    | true =>
      rw [if_neg (show ¬ bI true = 0 by decide)]
      exact ⟨fun z => absurd (z k (Nat.le_refl _) (by omega)).1 (by rw [ta, hw]; decide), fun _ => ⟨h2, rfl, c2⟩⟩
    | false =>
      rw [if_pos (show bI false = 0 by decide)]
      have go : X8_isWalled h2 m (T k) = some 0 → (T k = -1 ∨ wl C (tn (T k)) = false) → ((∀ p, k ≤ p → p < P → wl C (tn (C (34 + 2 * p))) = false ∧ (T p = -1 ∨ wl C (tn (T p)) = false)) → ∃ h1, ((X8_isWalled h2 m (T k)).bind fun x29 => if x29 = 0 then X8_isWrongCourt_L74 m g h2 (nI (k + 1)) else some (1, h2)) = some (0, h1) ∧ ch (fun a _ => a = m + 10) h h1 ∧ ∀ i, i < 121 → gi h1 (m + 10) i = twk C T P i) ∧
          (¬ (∀ p, k ≤ p → p < P → wl C (tn (C (34 + 2 * p))) = false ∧ (T p = -1 ∨ wl C (tn (T p)) = false)) → ∃ h1, ((X8_isWalled h2 m (T k)).bind fun x29 => if x29 = 0 then X8_isWrongCourt_L74 m g h2 (nI (k + 1)) else some (1, h2)) = some (1, h1) ∧ ch (fun a _ => a = m + 10) h h1) := by
        intro e1 e2
        rw [e1, Option.bind_some, if_pos rfl]
        refine ⟨fun z => ?_, fun z => ?_⟩
        · obtain ⟨h3, a1, a2, a3⟩ := i1 (fun p h1 h2 => z p (by omega) h2)
          exact ⟨h3, a1, c2.tr a2, a3⟩
        · obtain ⟨h3, a1, a2⟩ := i2 (fun z' => z (fun p h1 h2 => by
            by_cases e : p = k
            · subst e; exact ⟨by rw [ta]; exact hw, e2⟩
            · exact z' p (by omega) h2))
          exact ⟨h3, a1, c2.tr a2⟩
      rcases ft' k (by omega) with e | ⟨t, t1, t2⟩
      · exact go (by rw [e]; exact isWalled_m1 ms2) (Or.inl e)
      · have tt : tn (T k) = t := by rw [t2, tn_nI (by omega)]
        have it : X8_isWalled h2 m (T k) = some (bI (wl C t)) := by rw [t2]; exact isWalled_n ms2 t1 (w2 t t1)
        cases hwt : wl C t with
        | false => exact go (by rw [it, hwt]; rfl) (Or.inr (by rw [tt]; exact hwt))
        | true =>
          rw [it, hwt, Option.bind_some, if_neg (show ¬ bI true = 0 by decide)]
          refine ⟨fun z => ?_, fun _ => ⟨h2, rfl, c2⟩⟩
          rcases (z k (Nat.le_refl _) (by omega)).2 with e | e
          · rw [t2] at e; exact absurd e (nI_nm1 (by omega))
          · rw [tt, hwt] at e; exact absurd e (by decide)
theorem wrong_n {h : HA} {m n : Nat} {B : Nat → Nat} {σ : ZS} (y : MZ h m n B σ) (hP : PJ B n 0 σ) (h0 : zf σ = 0) (g : GC σ) :
    ∃ h1, X8_isWrongCourt h m = some (bI (wrg σ), h1) ∧ ch (fun a _ => a = m + 10) h h1 ∧ (wrg σ = false → ∀ i, i < 121 → gi h1 (m + 10) i = zTC (zC σ) (zT σ) i) := by
  have ms := y.1.1.1
  obtain ⟨q1, q2, q3, q4⟩ := hP.2.2.2.1 rfl
  obtain ⟨⟨⟨w, w1, w2, w3⟩, ⟨v, v1, v2, v3⟩⟩, ⟨g3, g4⟩, g5, g6, g7, g8, g9⟩ := g
  obtain ⟨m1, m2⟩ := y.2.1 h0
  have hw := wrg_f (σ := σ)
  have ew : tn (zC σ 0) * tn (zC σ 1) = w * v := by rw [w3, v3, tn_nI (by omega), tn_nI (by omega)]
  rw [ew] at hw
  have hwv : w * v ≤ 8 * 8 := Nat.mul_le_mul w2 v2
  have hC := y.2.2.1
  have l0 : ldI h (m + 10) 20 0 = some (nI w) := by rw [show ldI h (m + 10) 20 0 = _ from ldI_n (i := 0) (ms_k19 ms) (by omega) (by omega), hC 0 (by omega), w3]
  have l1 : ldI h (m + 10) 20 1 = some (nI v) := by rw [show ldI h (m + 10) 20 1 = _ from ldI_n (i := 1) (ms_k19 ms) (by omega) (by omega), hC 1 (by omega), v3]
  have l3 : ldI h (m + 10) 20 3 = some (nI (tn (zC σ 3))) := by rw [show ldI h (m + 10) 20 3 = _ from ldI_n (i := 3) (ms_k19 ms) (by omega) (by omega), hC 3 (by omega)]; exact congrArg some q3
  have d1 : gi h m 21 < nI (w * v) ↔ ∀ f, f < 64 → zF σ f = true → f < w * v := FMx_lt m1 (by omega)
  have d2 : gi h m 22 < nI (tn (zC σ 3)) ↔ ∀ p, p < 4 → zG σ p = true → p < tn (zC σ 3) := by
    rw [FMx_lt m2 (by omega)]
    refine ⟨fun z p hp => z p (by omega), fun z q hq hG => ?_⟩
    by_cases e : q < 4
    · exact z q e hG
    · rw [g9 q (by omega)] at hG; exact absurd hG (by decide)
  have bad' : ∀ {p : Prop}, ¬ p → (wrg σ = false → p) → ∃ h1, some ((1 : Int32), h) = some (bI (wrg σ), h1) ∧ ch (fun a _ => a = m + 10) h h1 ∧ (wrg σ = false → ∀ i, i < 121 → gi h1 (m + 10) i = zTC (zC σ) (zT σ) i) := by
    intro p hn hp
    cases e : wrg σ with
    | true => exact ⟨h, rfl, ch_rf _ _, fun z => absurd z (by decide)⟩
    | false => exact absurd (hp e) hn
  unfold X8_isWrongCourt
  rw [if_pos (ms_c ms), ms_I ms, Option.bind_some, ms_r19 ms, Option.bind_some, l0, Option.bind_some, Option.bind_some, l1, Option.bind_some, nI_mul]
  by_cases c1 : gi h m 21 < nI (w * v)
  · rw [if_pos c1, ms_I ms, Option.bind_some, Option.bind_some, l3, Option.bind_some]
    by_cases c2 : gi h m 22 < nI (tn (zC σ 3))
    · rw [if_pos c2]
      obtain ⟨a1, a2⟩ := wrong37 (J := tn (zC σ 2)) ms hC q1 q2 (fun j hj => by
        obtain ⟨a, s, e, r, t, ⟨b1, _⟩, ⟨c1, _⟩, _⟩ := g5 j hj
        exact ⟨a, b1, c1⟩) (tn (zC σ 2)) 0 FU (by omega) (FU_gt (by omega))
      by_cases c3 : ∀ j, 0 ≤ j → j < tn (zC σ 2) → wl (zC σ) (tn (zC σ (4 + 5 * j))) = false
      · rw [show X8_isWrongCourt_L37 h m FU 0 = _ from a1 c3, Option.bind_some]
        dsimp only
        have t0 : ∀ i, i < 121 → gi h (m + 10) i = twk (zC σ) (zT σ) 0 i := fun i hi => by
          unfold twk
          rw [if_neg (by omega)]; exact hC i hi
        obtain ⟨b1, b2⟩ := wrong74 (m := m) (P := tn (zC σ 3)) (C := zC σ) (T := zT σ) q3 q4 (fun p hp => by
          obtain ⟨a, b1, b2, _⟩ := g6 p hp
          exact ⟨a, b1, b2⟩) (fun p hp => by
          rcases g7 p hp with e | ⟨t, t1, t2, _⟩
          · exact Or.inl e
          · exact Or.inr ⟨t, t1, t2⟩) (tn (zC σ 3)) 0 h FU (by omega) (FU_gt (by omega)) ms t0 y.2.2.2
        by_cases c4 : ∀ p, 0 ≤ p → p < tn (zC σ 3) → wl (zC σ) (tn (zC σ (34 + 2 * p))) = false ∧ (zT σ p = -1 ∨ wl (zC σ) (tn (zT σ p)) = false)
        · obtain ⟨h1, e1, x1, x2⟩ := b1 c4
          have hwf : wrg σ = false := hw.mpr ⟨d1.mp c1, d2.mp c2, fun j hj => c3 j (Nat.zero_le _) hj, fun p hp => c4 p (Nat.zero_le _) hp⟩
          rw [show X8_isWrongCourt_L74 m FU h 0 = _ from e1, hwf]
          exact ⟨h1, rfl, x1, fun _ => x2⟩
        · obtain ⟨h1, e1, x1⟩ := b2 c4
          rw [show X8_isWrongCourt_L74 m FU h 0 = _ from e1]
          cases e : wrg σ with
          | true => exact ⟨h1, rfl, x1, fun z => absurd z (by decide)⟩
          | false => exact absurd (fun p _ hp => (hw.mp e).2.2.2 p hp) c4
      · rw [show X8_isWrongCourt_L37 h m FU 0 = _ from a2 c3, Option.bind_some]
        exact bad' c3 (fun z j _ hj => (hw.mp z).2.2.1 j hj)
    · rw [if_neg c2]
      exact bad' c2 (fun z => d2.mpr (hw.mp z).2.1)
  · rw [if_neg c1]
    exact bad' c1 (fun z => d1.mpr (hw.mp z).1)
/-- what is written at the end -/
theorem tailM_n {h : HA} {m : Nat} {F P : Int32} (ms : MS h m) (e17 : gi h m 17 = F) (e18 : F ≠ 0 → gi h m 18 = P) (hF : F = 0 ∨ F = 2 ∨ F = 3 ∨ F = 4) :
    ((gR h m 9 3).bind fun x38 => (if (1 : Int32) = 0 then some 1 else (gI h m 9 17).bind fun x42 => some x42).bind fun j39 => (asI h x38 20 0 j39).bind fun h43 => (gR h43 m 9 4).bind fun x44 => (if (1 : Int32) = 0 then (gI h43 m 9 16).bind fun x48 => some x48 else (gI h43 m 9 17).bind fun x49 => if 0 < x49 then (gI h43 m 9 18).bind fun x50 => some x50 else some (-1)).bind fun j45 => (asI h43 x44 20 0 j45).bind fun h51 => (gR h51 m 9 3).bind fun x52 => (ldI h51 x52 20 0).bind fun x53 => if x53 = 0 then some ((1 : Int32), h51) else some (0, h51)) = some (bI (decide (F = 0)), si (si h (m + 3) 0 F) (m + 4) 0 (if F = 0 then -1 else P)) := by
  have c1 : ch (fun _ _ => True) h (si h (m + 3) 0 F) := ch_si trivial
  have ms1 := c1.ms ms
  have c2 : ch (fun _ _ => True) h (si (si h (m + 3) 0 F) (m + 4) 0 (if F = 0 then -1 else P)) := c1.tr (ch_si trivial)
  have ms2 := c2.ms ms
  have g17 : gi (si h (m + 3) 0 F) m 17 = F := by rw [gi_si, if_neg (by omega)]; exact e17
  have sel : (if (1 : Int32) = 0 then (gI (si h (m + 3) 0 F) m 9 16).bind fun x48 => some x48 else (gI (si h (m + 3) 0 F) m 9 17).bind fun x49 => if 0 < x49 then (gI (si h (m + 3) 0 F) m 9 18).bind fun x50 => some x50 else some (-1)) = some (if F = 0 then -1 else P) := by
    rw [if_neg (show ¬ (1 : Int32) = 0 by decide), ms_I ms1, g17, Option.bind_some]
    by_cases e : F = 0
    · rw [if_pos e, e, if_neg (by decide)]
    · rw [if_neg e, if_pos (by rcases hF with z | z | z | z <;> first | exact absurd z e | (rw [z]; decide)), ms_I ms1, gi_si, if_neg (by omega), e18 e, Option.bind_some]
  rw [ms_r3 ms, Option.bind_some, if_neg (show ¬ (1 : Int32) = 0 by decide), ms_I ms, e17, Option.bind_some, Option.bind_some, show asI h (m + 3) 20 0 F = _ from asI_n (i := 0) (ms_k3 ms) (by omega) (by omega), Option.bind_some, ms_r4 ms1, Option.bind_some, sel, Option.bind_some, show asI (si h (m + 3) 0 F) (m + 4) 20 0 (if F = 0 then -1 else P) = _ from asI_n (i := 0) (ms_k4 ms1) (by omega) (by omega), Option.bind_some, ms_r3 ms2, Option.bind_some, show ldI (si (si h (m + 3) 0 F) (m + 4) 0 (if F = 0 then -1 else P)) (m + 3) 20 0 = _ from ldI_n (i := 0) (ms_k3 ms2) (by omega) (by omega), gi_si, if_neg (by omega), gi_si, if_pos ⟨rfl, rfl⟩, Option.bind_some]
  by_cases e : F = 0
  · rw [if_pos e, decide_eq_true e]; rfl
  · rw [if_neg e, decide_eq_false e]; rfl
theorem tail0_n {h : HA} {m : Nat} {P : Int32} (ms : MS h m) (e16 : gi h m 16 = P) :
    ((gR h m 9 3).bind fun x38 => (if (0 : Int32) = 0 then some 1 else (gI h m 9 17).bind fun x42 => some x42).bind fun j39 => (asI h x38 20 0 j39).bind fun h43 => (gR h43 m 9 4).bind fun x44 => (if (0 : Int32) = 0 then (gI h43 m 9 16).bind fun x48 => some x48 else (gI h43 m 9 17).bind fun x49 => if 0 < x49 then (gI h43 m 9 18).bind fun x50 => some x50 else some (-1)).bind fun j45 => (asI h43 x44 20 0 j45).bind fun h51 => (gR h51 m 9 3).bind fun x52 => (ldI h51 x52 20 0).bind fun x53 => if x53 = 0 then some ((1 : Int32), h51) else some (0, h51)) = some (0, si (si h (m + 3) 0 1) (m + 4) 0 P) := by
  have c1 : ch (fun _ _ => True) h (si h (m + 3) 0 1) := ch_si trivial
  have ms1 := c1.ms ms
  have c2 : ch (fun _ _ => True) h (si (si h (m + 3) 0 1) (m + 4) 0 P) := c1.tr (ch_si trivial)
  have ms2 := c2.ms ms
  have g16 : gi (si h (m + 3) 0 1) m 16 = P := by rw [gi_si, if_neg (by omega)]; exact e16
  have sel : (if (0 : Int32) = 0 then (gI (si h (m + 3) 0 1) m 9 16).bind fun x48 => some x48 else (gI (si h (m + 3) 0 1) m 9 17).bind fun x49 => if 0 < x49 then (gI (si h (m + 3) 0 1) m 9 18).bind fun x50 => some x50 else some (-1)) = some P := by
    rw [if_pos rfl, ms_I ms1, g16, Option.bind_some]
  rw [ms_r3 ms, Option.bind_some, if_pos rfl, Option.bind_some, show asI h (m + 3) 20 0 1 = _ from asI_n (i := 0) (ms_k3 ms) (by omega) (by omega), Option.bind_some, ms_r4 ms1, Option.bind_some, sel, Option.bind_some, show asI (si h (m + 3) 0 1) (m + 4) 20 0 P = _ from asI_n (i := 0) (ms_k4 ms1) (by omega) (by omega), Option.bind_some, ms_r3 ms2, Option.bind_some, show ldI (si (si h (m + 3) 0 1) (m + 4) 0 P) (m + 3) 20 0 = _ from ldI_n (i := 0) (ms_k3 ms2) (by omega) (by omega), gi_si, if_neg (by omega), gi_si, if_pos ⟨rfl, rfl⟩, Option.bind_some, if_neg (show ¬ (1 : Int32) = 0 by decide)]
theorem rt2 {h : HA} {m : Nat} (ms : MS h m) : ∃ h1, X8_readText_L2 m FU h 0 = some h1 ∧ ch (fun a _ => a = m + 10) h h1 ∧ ∀ i, i < 121 → gi h1 (m + 10) i = 0 := by
  obtain ⟨h1, e1, c1, g1⟩ := loop_inv (fun fu k (h : HA) => X8_readText_L2 m fu h (nI k)) (fun k h1 => ch (fun a _ => a = m + 10) h h1 ∧ ∀ i, i < k → gi h1 (m + 10) i = 0) (fun h1 => ch (fun a _ => a = m + 10) h h1 ∧ ∀ i, i < 121 → gi h1 (m + 10) i = 0) 121 (by
    intro k h1 fu hk hI
    have ms1 := hI.1.ms ms
    refine ⟨si h1 (m + 10) k 0, ?_, hI.1.tr (ch_si rfl), fun i hi => ?_⟩
    · show X8_readText_L2 m (fu + 1) h1 (nI k) = _
      rw [X8_readText_L2, if_pos (show nI k < 121 from lt_lit (n := 121) hk (by omega)), ms_r19 ms1, Option.bind_some, asI_n (ms_k19 ms1) hk (by omega), Option.bind_some, nI_p1]
    · rw [rd_si]
      by_cases e : i = k
      · rw [if_pos e]
      · rw [if_neg e]; exact hI.2 i (by omega)) (by
    intro h1 fu hI
    refine ⟨h1, ?_, hI⟩
    show X8_readText_L2 m (fu + 1) h1 (nI 121) = _
    rw [X8_readText_L2, if_neg (show ¬ nI 121 < 121 from nlt_lit (n := 121) (Nat.le_refl _) (by omega))]) h FU ⟨ch_rf _ _, fun i hi => by omega⟩ (FU_gt (by omega))
  exact ⟨h1, e1, c1, g1⟩
theorem rt23 {h : HA} {m : Nat} (ms : MS h m) : ∃ h1, X8_readText_L23 m FU h 0 = some h1 ∧ ch (fun a _ => a = m + 12) h h1 ∧ ∀ i, i < 4 → gi h1 (m + 12) i = -1 := by
  obtain ⟨h1, e1, c1, g1⟩ := loop_inv (fun fu k (h : HA) => X8_readText_L23 m fu h (nI k)) (fun k h1 => ch (fun a _ => a = m + 12) h h1 ∧ ∀ i, i < k → gi h1 (m + 12) i = -1) (fun h1 => ch (fun a _ => a = m + 12) h h1 ∧ ∀ i, i < 4 → gi h1 (m + 12) i = -1) 4 (by
    intro k h1 fu hk hI
    have ms1 := hI.1.ms ms
    refine ⟨si h1 (m + 12) k (-1), ?_, hI.1.tr (ch_si rfl), fun i hi => ?_⟩
    · show X8_readText_L23 m (fu + 1) h1 (nI k) = _
      rw [X8_readText_L23, if_pos (show nI k < 4 from lt_lit (n := 4) hk (by omega)), ms_r23 ms1, Option.bind_some, asI_n (ms_k23 ms1) hk (by omega), Option.bind_some, nI_p1]
    · rw [rd_si]
      by_cases e : i = k
      · rw [if_pos e]
      · rw [if_neg e]; exact hI.2 i (by omega)) (by
    intro h1 fu hI
    refine ⟨h1, ?_, hI⟩
    show X8_readText_L23 m (fu + 1) h1 (nI 4) = _
    rw [X8_readText_L23, if_neg (show ¬ nI 4 < 4 from nlt_lit (n := 4) (Nat.le_refl _) (by omega))]) h FU ⟨ch_rf _ _, fun i hi => by omega⟩ (FU_gt (by omega))
  exact ⟨h1, e1, c1, g1⟩
def Wmt (m : Nat) : Nat → Nat → Prop := fun a k => Wty m a k ∨ ((a = m + 3 ∨ a = m + 4) ∧ k = 0)
theorem tB_end {B : Nat → Nat} {n i : Nat} (hi : i ≤ n) (hk : tK B n i = 0) : tB B n i = n := by
  obtain ⟨b1, b2⟩ := tB_le (B := B) hi
  by_cases e : n ≤ tB B n i
  · omega
  · exfalso
    unfold tK at hk
    rw [if_neg e] at hk
    revert hk
    repeat' split
    all_goals (intro hk; omega)
theorem readText_n {h : HA} {m n s : Nat} {B : Nat → Nat} (hs : s < 4) (mt : MT0 h m n B) :
    ∃ h1, X8_readText h m (nI s) = some (bI (decide ((txG B n s).1.1 = 0)), h1) ∧ ch (Wmt m) h h1 ∧ gi h1 (m + 3) 0 = (txG B n s).1.1 ∧ gi h1 (m + 4) 0 = (txG B n s).1.2 ∧ ((txG B n s).1.1 = 0 → ∀ i, i < 121 → gi h1 (m + 10) i = (txG B n s).2 i) := by
  have ms := mt.1
  have hn := mt.2.2.1
  obtain ⟨a1, e1, c1, g1⟩ := rt2 ms
  have ms1 := c1.ms ms
  obtain ⟨a2, e2, c2, g2⟩ := rt23 ms1
  have ms2 := c2.ms ms1
  obtain ⟨z, hz'⟩ : ∃ z : Int32, z = if s = 0 then 5 else 0 := ⟨_, rfl⟩
  have ez : (if nI s = 0 then (5 : Int32) else 0) = z := by
    rw [hz']
    by_cases e : s = 0
    · rw [if_pos e, if_pos (show nI s = 0 by rw [e]; rfl)]
    · rw [if_neg e, if_neg (show ¬ nI s = 0 from fun w => e (nI_inj (b := 0) (by omega) (by omega) w))]
  obtain ⟨a3, h3⟩ : ∃ a3, a3 = si (si a2 (m + 10) 0 z) (m + 10) 1 z := ⟨_, rfl⟩
  obtain ⟨a4, h4⟩ : ∃ a4, a4 = si (si (si (si a3 m 21 (-1)) m 22 (-1)) m 10 0) m 17 0 := ⟨_, rfl⟩
  have c3 : ch (Wty m) h a3 := by
    rw [h3]
    exact (((c1.mo fun a k w => Or.inr (Or.inl w)).tr (c2.mo fun a k w => Or.inr (Or.inr (Or.inr w)))).tr (ch_si (Or.inr (Or.inl rfl)))).tr (ch_si (Or.inr (Or.inl rfl)))
  have c4 : ch (Wty m) h a4 := by
    rw [h4]
    exact (((c3.tr (ch_si (Or.inl ⟨rfl, by omega, by omega⟩))).tr (ch_si (Or.inl ⟨rfl, by omega, by omega⟩))).tr (ch_si (Or.inl ⟨rfl, by omega, by omega⟩))).tr (ch_si (Or.inl ⟨rfl, by omega, by omega⟩))
  have mt4 : MT0 a4 m n B := MT0_ch mt c4 (by unfold Wty; omega) (fun k => by unfold Wty; omega)
  obtain ⟨a5, e5, c5, t5⟩ := token_n mt4 (Nat.zero_le n) (show gi a4 m 10 = nI 0 by rw [h4, gi_si, if_neg (by omega), gi_si, if_pos ⟨rfl, rfl⟩]; rfl)
  have y5 : MZ a5 m n B (z0 s) := by
    refine ⟨⟨MT0_tk mt4 c5, t5, ?_, fun w => absurd rfl w⟩, fun _ => ⟨Or.inl ⟨?_, fun _ => rfl⟩, Or.inl ⟨?_, fun _ => rfl⟩⟩, fun i hi => ?_, fun p hp => ?_⟩
    · rw [c5.gi (by unfold Wtk; omega), h4, gi_si, if_pos ⟨rfl, rfl⟩]; rfl
    · rw [c5.gi (by unfold Wtk; omega), h4, gi_si, if_neg (by omega), gi_si, if_neg (by omega), gi_si, if_neg (by omega), gi_si, if_pos ⟨rfl, rfl⟩]
    · rw [c5.gi (by unfold Wtk; omega), h4, gi_si, if_neg (by omega), gi_si, if_neg (by omega), gi_si, if_pos ⟨rfl, rfl⟩]
    · rw [c5.gi (by unfold Wtk; omega), h4, gi_si, if_neg (by omega), gi_si, if_neg (by omega), gi_si, if_neg (by omega), gi_si, if_neg (by omega), h3, rd_si, rd_si]
      show _ = if s = 0 ∧ i < 2 then (5 : Int32) else 0
      have hb : gi a2 (m + 10) i = 0 := by rw [c2.gi (by omega)]; exact g1 i hi
      by_cases i1 : i = 1
      · rw [if_pos i1, hz']
        by_cases e : s = 0
        · rw [if_pos e, if_pos ⟨e, by omega⟩]
        · rw [if_neg e, if_neg (fun w => e w.1)]
      · rw [if_neg i1]
        by_cases i0 : i = 0
        · rw [if_pos i0, hz']
          by_cases e : s = 0
          · rw [if_pos e, if_pos ⟨e, by omega⟩]
          · rw [if_neg e, if_neg (fun w => e w.1)]
        · rw [if_neg i0, hb, if_neg (by omega)]
    · rw [c5.gi (by unfold Wtk; omega), h4, gi_si, if_neg (by omega), gi_si, if_neg (by omega), gi_si, if_neg (by omega), gi_si, if_neg (by omega), h3, gi_si, if_neg (by omega), gi_si, if_neg (by omega)]
      exact g2 p hp
  have c05 : ch (Wty m) h a5 := c4.tr (c5.mo fun a k w => Wtk_y w)
  have fu2 : n + 2 < FU := FU_gt (by omega)
  have L := linesM_n hs (n + 1) a5 (z0 s) FU (by show n - 0 < n + 1; omega) (by omega) y5 (PJ_0 B n s)
  have ms5 := y5.1.1.1
  -- as far as the lines
  have q3 : ch (fun _ _ => True) a2 (si a2 (m + 10) 0 z) := ch_si trivial
  have start : ∀ x27 a6, X8_lines_L2 m (nI s) FU a5 1 = some (x27, a6) → bz x27 = some x27 → X8_readText h m (nI s) = (if x27 = 0 then some a6 else if nI s = 0 then (gI a6 m 9 17).bind fun x31 => if x31 = 0 then (X8_isWrongCourt a6 m).bind fun (x34, h33) => if x34 = 0 then some h33 else (gI h33 m 9 12).bind fun x35 => (X8_later h33 m 4 x35).bind fun h37 => some h37 else some a6 else some a6).bind fun h28 => (gR h28 m 9 3).bind fun x38 => (if x27 = 0 then some 1 else (gI h28 m 9 17).bind fun x42 => some x42).bind fun j39 => (asI h28 x38 20 0 j39).bind fun h43 => (gR h43 m 9 4).bind fun x44 => (if x27 = 0 then (gI h43 m 9 16).bind fun x48 => some x48 else (gI h43 m 9 17).bind fun x49 => if 0 < x49 then (gI h43 m 9 18).bind fun x50 => some x50 else some (-1)).bind fun j45 => (asI h43 x44 20 0 j45).bind fun h51 => (gR h51 m 9 3).bind fun x52 => (ldI h51 x52 20 0).bind fun x53 => if x53 = 0 then some ((1 : Int32), h51) else some (0, h51) := by
    intro x27 a6 hx hb
    have ms3 : MS (si (si a2 (m + 10) 0 z) (m + 10) 1 z) m := (ch_si (W := fun _ _ => True) trivial).ms (q3.ms ms2)
    have msA : ∀ k v, MS (si a3 m k v) m := fun k v => (ch_si (W := fun _ _ => True) trivial).ms (by rw [h3]; exact ms3)
    have msB : ∀ k v k' v', MS (si (si a3 m k v) m k' v') m := fun k v k' v' => (ch_si (W := fun _ _ => True) trivial).ms (msA k v)
    have msC : ∀ k v k' v' k2 v2, MS (si (si (si a3 m k v) m k' v') m k2 v2) m := fun k v k' v' k2 v2 => (ch_si (W := fun _ _ => True) trivial).ms (msB k v k' v')
    unfold X8_readText
    rw [if_pos (ms_c ms), e1, Option.bind_some, e2, Option.bind_some, ms_r19 ms2, Option.bind_some]
    dsimp only [lett]
    rw [ez, show asI a2 (m + 10) 20 0 z = _ from asI_n (i := 0) (ms_k19 ms2) (by omega) (by omega), Option.bind_some, ms_r19 (q3.ms ms2), Option.bind_some, show asI (si a2 (m + 10) 0 z) (m + 10) 20 1 z = _ from asI_n (i := 1) (ms_k19 (q3.ms ms2)) (by omega) (by omega), Option.bind_some, ← h3, ms_p (by rw [h3]; exact ms3), Option.bind_some, ms_p (msA _ _), Option.bind_some, ms_p (msB _ _ _ _), Option.bind_some, ms_p (msC _ _ _ _ _ _), Option.bind_some, ← h4, e5, Option.bind_some]
    unfold X8_lines
    rw [if_pos (ms_c ms5), hx, Option.bind_some]
    dsimp only
    rw [hb, Option.bind_some, Option.bind_some]
  have fin : ∀ (a7 : HA) (F P : Int32) (R : CR), MS a7 m → ch (Wty m) h a7 → gi a7 m 17 = F → (F ≠ 0 → gi a7 m 18 = P) → (F = 0 ∨ F = 2 ∨ F = 3 ∨ F = 4) → (F = 0 → ∀ i, i < 121 → gi a7 (m + 10) i = R i) →
      ∃ h1, some (bI (decide (F = 0)), si (si a7 (m + 3) 0 F) (m + 4) 0 (if F = 0 then -1 else P)) = some (bI (decide (F = 0)), h1) ∧ ch (Wmt m) h h1 ∧ gi h1 (m + 3) 0 = F ∧ gi h1 (m + 4) 0 = (if F = 0 then -1 else P) ∧ (F = 0 → ∀ i, i < 121 → gi h1 (m + 10) i = R i) := by
    intro a7 F P R ms7 c7 f17 f18 hF hR
    refine ⟨_, rfl, ((c7.mo fun a k w => Or.inl w).tr (ch_si (Or.inr ⟨Or.inl rfl, rfl⟩))).tr (ch_si (Or.inr ⟨Or.inr rfl, rfl⟩)), ?_, ?_, fun z i hi => ?_⟩
    · rw [gi_si, if_neg (by omega), gi_si, if_pos ⟨rfl, rfl⟩]
    · rw [gi_si, if_pos ⟨rfl, rfl⟩]
    · rw [gi_si, if_neg (by omega), gi_si, if_neg (by omega)]; exact hR z i hi
  cases eL : lnsF B n s (n + 1) (z0 s) with
  | inl q =>
    have eT : txG B n s = ((1, nI q), fun _ => 0) := by unfold txG; rw [eL]
    rw [eL] at L
    obtain ⟨a6, e6, c6, g6⟩ := L
    rw [eT, start 0 a6 e6 bz0, if_pos rfl, Option.bind_some, tail0_n (c6.ms ms5) g6]
    refine ⟨_, rfl, (((c05.tr c6).mo fun a k w => Or.inl w).tr (ch_si (Or.inr ⟨Or.inl rfl, rfl⟩))).tr (ch_si (Or.inr ⟨Or.inr rfl, rfl⟩)), ?_, ?_, fun z => absurd (show (1 : Int32) = 0 from z) (by decide)⟩
    · rw [gi_si, if_neg (by omega), gi_si, if_pos ⟨rfl, rfl⟩]
    · rw [gi_si, if_pos ⟨rfl, rfl⟩]
  | inr τ =>
    have eT0 : txG B n s = if s = 0 ∧ zf τ = 0 ∧ wrg τ = true then ((4, nI n), fun _ => 0) else ((zf τ, if zf τ = 0 then -1 else zp τ), if s = 0 then zTC (zC τ) (zT τ) else zC τ) := by unfold txG; rw [eL]
    rw [eL] at L
    obtain ⟨a6, e6, c6, y6, P6, k6⟩ := L
    have ms6 := y6.1.1.1
    have c06 := c05.tr c6
    have gi6 : GI s τ := GI_lns hs (fun σ τ h1 h2 => (PJ_ln h1 h2).1) (n + 1) (z0 s) τ (PJ_0 B n s) (GI_0 s) eL
    have hF6 : zf τ = 0 ∨ zf τ = 2 ∨ zf τ = 3 ∨ zf τ = 4 := by
      rcases P6.2.2.1 with z | z | z
      · exact Or.inl z
      · exact Or.inr (Or.inl z)
      · exact Or.inr (Or.inr (Or.inl z))
    rw [start 1 a6 e6 bz1, if_neg (show ¬ (1 : Int32) = 0 by decide)]
    by_cases s0 : s = 0
    · subst s0
      rw [if_pos (show nI 0 = 0 from rfl), ms_I ms6, y6.1.2.2.1, Option.bind_some]
      by_cases z0' : zf τ = 0
      · obtain ⟨a7, e7, c7, g7⟩ := wrong_n y6 P6 z0' ((gi6 z0').1 rfl)
        have x7 : MXa a7 m n B τ := MXa_ch y6.1 c7 (fun k _ => by omega) (fun k => by omega)
        rw [if_pos z0', e7, Option.bind_some]
        by_cases ew : wrg τ = true
        · have eT : txG B n 0 = ((4, nI n), fun _ => 0) := by rw [eT0, if_pos ⟨rfl, z0', ew⟩]
          dsimp only
          rw [eT, ew, if_neg (show ¬ bI true = 0 by decide), ms_I x7.1.1, x7.2.1.2.2.1, Option.bind_some]
          obtain ⟨a8, e8, c8, x8⟩ := later_n (cd := 4) x7 P6.1 P6.2.1
          rw [e8, Option.bind_some, Option.bind_some]
          have ef : ft 4 (tB B n (zi τ)) τ = (zi τ, (4, nI n), zF τ, zG τ, zC τ, zT τ) := by
            unfold ft; rw [if_pos z0', tB_end P6.1 k6]
          rw [ef] at x8
          rw [tailM_n (F := 4) (P := nI n) x8.1.1 x8.2.2.1 (fun z => x8.2.2.2 z) (Or.inr (Or.inr (Or.inr rfl)))]
          obtain ⟨h1, b1, b2, b3, b4, b5⟩ := fin a8 4 (nI n) (fun _ => 0) x8.1.1 ((c06.tr (c7.mo fun a k w => Or.inr (Or.inl w))).tr (c8.mo fun a k w => Or.inl ⟨w.1, by omega, by omega⟩)) x8.2.2.1 (fun z => x8.2.2.2 z) (Or.inr (Or.inr (Or.inr rfl))) (fun z => absurd z (by decide))
          exact ⟨h1, b1, b2, b3, b4.trans (if_neg (by decide)), fun z => absurd (show (4 : Int32) = 0 from z) (by decide)⟩
        · have ewf : wrg τ = false := by simpa using ew
          have eT : txG B n 0 = ((zf τ, if zf τ = 0 then -1 else zp τ), zTC (zC τ) (zT τ)) := by rw [eT0, if_neg (fun z => ew z.2.2), if_pos rfl]
          dsimp only
          rw [eT, ewf, if_pos (show bI false = 0 by decide), Option.bind_some, tailM_n (F := zf τ) (P := zp τ) x7.1.1 x7.2.2.1 x7.2.2.2 hF6]
          exact fin a7 (zf τ) (zp τ) (zTC (zC τ) (zT τ)) x7.1.1 (c06.tr (c7.mo fun a k w => Or.inr (Or.inl w))) x7.2.2.1 x7.2.2.2 hF6 (fun _ => g7 ewf)
      · have eT : txG B n 0 = ((zf τ, if zf τ = 0 then -1 else zp τ), zTC (zC τ) (zT τ)) := by rw [eT0, if_neg (fun z => z0' z.2.1), if_pos rfl]
        rw [eT, if_neg z0', Option.bind_some, tailM_n (F := zf τ) (P := zp τ) ms6 y6.1.2.2.1 y6.1.2.2.2 hF6]
        exact fin a6 (zf τ) (zp τ) (zTC (zC τ) (zT τ)) ms6 c06 y6.1.2.2.1 y6.1.2.2.2 hF6 (fun z => absurd z z0')
    · have eT : txG B n s = ((zf τ, if zf τ = 0 then -1 else zp τ), zC τ) := by rw [eT0, if_neg (fun z => s0 z.1), if_neg s0]
      rw [eT, if_neg (show ¬ nI s = 0 from fun z => s0 (nI_inj (b := 0) (by omega) (by omega) z)), Option.bind_some, tailM_n (F := zf τ) (P := zp τ) ms6 y6.1.2.2.1 y6.1.2.2.2 hF6]
      exact fin a6 (zf τ) (zp τ) (zC τ) ms6 c06 y6.1.2.2.1 y6.1.2.2.2 hF6 (fun _ => y6.2.2.1)
