/-! SEATS: the model, by all rows of seats in their order -/
def SR (h : HA) (m n : Nat) (p : List Nat) : Prop := p.length = n ∧ (∀ i, i < n → gp p i < 7) ∧ ∀ i, i < n → gi h (m + 28) i = nI (gp p i)
theorem gp_swp {p : List Nat} {i j x : Nat} (hi : i < p.length) (hj : j < p.length) : gp (swp p i j) x = if x = j then gp p i else if x = i then gp p j else gp p x := by
  have e : ∀ (l : List Nat) (k v y : Nat), k < l.length → gp (l.set k v) y = if y = k then v else gp l y := by
    intro l k v y hk
    unfold gp
    simp only [List.getD_eq_getElem?_getD, List.getElem?_set]
    by_cases h : y = k
    · subst h; simp [hk]
    · rw [if_neg (fun z => h z.symm), if_neg h]
  unfold swp
  rw [e _ _ _ _ (by rw [List.length_set]; exact hj), e _ _ _ _ hi]
theorem swp_len (p : List Nat) (i j : Nat) : (swp p i j).length = p.length := by unfold swp; rw [List.length_set, List.length_set]
def W28 (m : Nat) : Nat → Nat → Prop := fun a _ => a = m + 28
theorem swap_n {h : HA} {m n i j : Nat} {p : List Nat} (hm : MS h m) (hn : n < 7) (hs : SR h m n p) (hi : i < n) (hj : j < n) : ∃ h1, X8_swap h m (nI i) (nI j) = some h1 ∧ ch (W28 m) h h1 ∧ SR h1 m n (swp p i j) := by
  obtain ⟨s1, s2, s3⟩ := hs
  have c1 : ch (W28 m) h (si h (m + 28) i (nI (gp p j))) := ch_si rfl
  have m1 := c1.ms hm
  unfold X8_swap
  rw [if_pos (ms_c hm), ms_r50 hm, Option.bind_some, ldI_n (ms_k50 hm) (by omega) (by omega), s3 i hi, Option.bind_some, Option.bind_some, Option.bind_some, ldI_n (ms_k50 hm) (by omega) (by omega), s3 j hj, Option.bind_some, asI_n (ms_k50 hm) (by omega) (by omega), Option.bind_some, ms_r50 m1, Option.bind_some, asI_n (ms_k50 m1) (by omega) (by omega), Option.bind_some]
  refine ⟨_, rfl, c1.tr (ch_si rfl), by rw [swp_len]; exact s1, fun x hx => ?_, fun x hx => ?_⟩
  · rw [gp_swp (by omega) (by omega)]
    split
    · exact s2 i hi
    · split
      · exact s2 j hj
      · exact s2 x hx
  · rw [gp_swp (by omega) (by omega), gi_si]
    by_cases e : x = j
    · rw [if_pos ⟨rfl, e⟩, if_pos e]
    · rw [if_neg (by omega), if_neg e, gi_si]
      by_cases e2 : x = i
      · rw [if_pos ⟨rfl, e2⟩, if_pos e2]
      · rw [if_neg (by omega), if_neg e2]; exact s3 x hx
def onp : Nat → Int32
  | 0 => -1
  | k + 1 => nI k
def ofd : Option Nat → Int32
  | none => -1
  | some k => nI k
theorem onp_m (k : Nat) : nI k + -1 = onp k := by
  rw [nI_pm]
  cases k with
  | zero => rfl
  | succ k => rw [if_neg (by omega)]; rfl
theorem next7 {h : HA} {m n : Nat} {p : List Nat} (hm : MS h m) (hn : n < 7) (hs : SR h m n p) : ∀ k fu, k < fu → k + 1 ≤ n → X8_nextSeats_L7 h m fu (onp k) = some (ofd (fdn (fun i => decide (gp p i ≤ gp p (i + 1))) k)) := by
  intro k
  induction k with
  | zero =>
    intro fu hf _
    obtain ⟨g, rfl⟩ : ∃ g, fu = g + 1 := ⟨fu - 1, by omega⟩
    rw [X8_nextSeats_L7]; rfl
  | succ k ih =>
    intro fu hf hk
    obtain ⟨g, rfl⟩ : ∃ g, fu = g + 1 := ⟨fu - 1, by omega⟩
    have r1 := hs.2.1 k (by omega)
    have r2 := hs.2.1 (k + 1) (by omega)
    show X8_nextSeats_L7 h m (g + 1) (nI k) = _
    rw [X8_nextSeats_L7, if_neg (nI_lt0 (by omega)), ms_r50 hm, Option.bind_some, ldI_n (ms_k50 hm) (by omega) (by omega), hs.2.2 k (by omega), Option.bind_some, Option.bind_some, nI_p1, ldI_n (ms_k50 hm) (by omega) (by omega), hs.2.2 (k + 1) (by omega), Option.bind_some, onp_m, fdn]
    by_cases e : gp p (k + 1) < gp p k
    · rw [if_pos ((lt_n (by omega) (by omega)).mpr e), if_neg (by simpa using e)]
      exact ih g (by omega) (by omega)
    · rw [if_neg (by rw [lt_n (by omega) (by omega)]; exact e), if_pos (by simp; omega)]; rfl
theorem next47 {h : HA} {m n : Nat} {p : List Nat} (hm : MS h m) (hn : n < 7) (hs : SR h m n p) {i : Nat} (hi : i < n) : ∀ k fu, i < k → k < fu → k ≤ n → X8_nextSeats_L47 h m (nI i) fu (onp k) = some (ofd (fdn (fun k => decide (gp p i ≤ gp p k)) k)) := by
  intro k
  induction k with
  | zero => intro fu h; omega
  | succ k ih =>
    intro fu h0 hf hk
    obtain ⟨g, rfl⟩ : ∃ g, fu = g + 1 := ⟨fu - 1, by omega⟩
    have r1 := hs.2.1 k (by omega)
    have r2 := hs.2.1 i hi
    show X8_nextSeats_L47 h m (nI i) (g + 1) (nI k) = _
    rw [X8_nextSeats_L47, ms_r50 hm, Option.bind_some, ldI_n (ms_k50 hm) (by omega) (by omega), hs.2.2 k (by omega), Option.bind_some, Option.bind_some, ldI_n (ms_k50 hm) (by omega) (by omega), hs.2.2 i hi, Option.bind_some, onp_m, fdn]
    by_cases e : gp p k < gp p i
    · rw [if_pos ((lt_n (by omega) (by omega)).mpr e), if_neg (by simpa using e)]
      have : k ≠ i := fun z => by subst z; omega
      exact ih g (by omega) (by omega) (by omega)
    · rw [if_neg (by rw [lt_n (by omega) (by omega)]; exact e), if_pos (by simp; omega)]; rfl
theorem fdn_lt {q : Nat → Bool} : ∀ {k i : Nat}, fdn q k = some i → i < k ∧ q i = true := by
  intro k
  induction k with
  | zero => intro i h; exact absurd h (by simp [fdn])
  | succ k ih =>
    intro i h
    rw [fdn] at h
    by_cases e : q k = true
    · rw [if_pos e] at h
      have : k = i := Option.some.inj h
      subst this
      exact ⟨by omega, e⟩
    · rw [if_neg e] at h
      have := ih h
      exact ⟨by omega, this.2⟩
theorem fdn_some {q : Nat → Bool} : ∀ {k i : Nat}, i < k → q i = true → ∃ j, fdn q k = some j := by
  intro k
  induction k with
  | zero => intro i h; omega
  | succ k ih =>
    intro i h hq
    rw [fdn]
    by_cases e : q k = true
    · rw [if_pos e]; exact ⟨k, rfl⟩
    · rw [if_neg e]
      have : i ≠ k := fun z => e (z ▸ hq)
      exact ih (by omega) hq
theorem next86 {m n : Nat} (hn : n < 7) : ∀ f (h : HA) (p : List Nat) a b fu, MS h m → SR h m n p → f < fu → b < a + 2 * f → b < n → a ≤ n → ∃ h1, X8_nextSeats_L86 m fu h (nI a) (nI b) = some h1 ∧ ch (W28 m) h h1 ∧ SR h1 m n (rvs f p a b) := by
  intro f
  induction f with
  | zero =>
    intro h p a b fu hm hs hf h1 h2 h3
    obtain ⟨g, rfl⟩ : ∃ g, fu = g + 1 := ⟨fu - 1, by omega⟩
    rw [X8_nextSeats_L86, if_neg (nlt_lit (by omega) (by omega))]
    exact ⟨h, rfl, ch_rf _ _, hs⟩
  | succ f ih =>
    intro h p a b fu hm hs hf h1 h2 h3
    obtain ⟨g, rfl⟩ : ∃ g, fu = g + 1 := ⟨fu - 1, by omega⟩
    rw [X8_nextSeats_L86, rvs]
    by_cases e : a < b
    · rw [if_pos (lt_lit e (by omega)), if_pos e]
      obtain ⟨h5, e5, c5, s5⟩ := swap_n hm hn hs (show a < n by omega) h2
      rw [e5, Option.bind_some, nI_p1, nI_pm, if_neg (by omega)]
      obtain ⟨h6, e6, c6, s6⟩ := ih h5 _ (a + 1) (b - 1) g (c5.ms hm) s5 (by omega) (by omega) (by omega) (by omega)
      exact ⟨h6, e6, c5.tr c6, s6⟩
    · rw [if_neg (nlt_lit (by omega) (by omega)), if_neg e]
      exact ⟨h, rfl, ch_rf _ _, hs⟩
theorem next_n {h : HA} {m n : Nat} {p : List Nat} (hm : MS h m) (hj : gi h m 28 = nI n) (hn : n < 7) (hs : SR h m n p) :
    ∃ h1, X8_nextSeats h m = some (if (nxt n p).isSome = true then 1 else 0, h1) ∧ ch (W28 m) h h1 ∧ ∀ q, nxt n p = some q → SR h1 m n q := by
  unfold X8_nextSeats
  rw [if_pos (ms_c hm), ms_I hm, hj, Option.bind_some]
  have e7 : X8_nextSeats_L7 h m FU (nI n - 2) = some (if n = 0 then -2 else ofd (fdn (fun i => decide (gp p i ≤ gp p (i + 1))) (n - 1))) := by
    by_cases h0 : n = 0
    · subst h0
      rw [if_pos rfl, show nI 0 - 2 = (-2 : Int32) by decide]
      rfl
    · rw [if_neg h0, show nI n - 2 = onp (n - 1) by rw [← onp_m, ← nI_m1 (by omega), Int32.sub_eq_add_neg, Int32.sub_eq_add_neg, Int32.add_assoc]; rfl]
      exact next7 hm hn hs (n - 1) FU (FU_gt (by omega)) (by omega)
  rw [e7, Option.bind_some]
  by_cases h0 : n = 0
  · have hx : nxt n p = none := by subst h0; rfl
    rw [hx, if_pos h0, if_pos (by decide)]
    exact ⟨h, rfl, ch_rf _ _, fun q hq => by simp at hq⟩
  · rw [if_neg h0]
    cases e1 : fdn (fun i => decide (gp p i ≤ gp p (i + 1))) (n - 1) with
    | none =>
      have hx : nxt n p = none := by unfold nxt; rw [e1]
      rw [hx]
      exact ⟨h, by rw [show ofd none = -1 from rfl, if_pos (by decide)]; rfl, ch_rf _ _, fun q hq => by simp at hq⟩
    | some i =>
      have hi := (fdn_lt e1).1
      obtain ⟨k, e2⟩ := fdn_some (q := fun k => decide (gp p i ≤ gp p k)) (k := n) (show i < n by omega) (by simp)
      have hk := (fdn_lt e2).1
      have e3 := next47 hm hn hs (show i < n by omega) n FU (by omega) (FU_gt (by omega)) (Nat.le_refl _)
      rw [e2] at e3
      have hx : nxt n p = some (rvs n (swp p i k) (i + 1) (n - 1)) := by unfold nxt; rw [e1]; dsimp only; rw [e2]
      obtain ⟨h5, e5, c5, s5⟩ := swap_n hm hn hs (show i < n by omega) hk
      have m5 := c5.ms hm
      have g5 : gi h5 m 28 = nI n := by rw [c5.gi (by unfold W28; omega)]; exact hj
      obtain ⟨h6, e6, c6, s6⟩ := next86 hn n h5 _ (i + 1) (n - 1) FU m5 s5 (FU_gt (by omega)) (by omega) (by omega) (by omega)
      rw [show ofd (some i) = nI i from rfl, if_neg (nI_lt0 (by omega)), Option.bind_some, show nI n - 1 = onp n by rw [← onp_m, Int32.sub_eq_add_neg], e3, Option.bind_some, show ofd (some k) = nI k from rfl, e5, Option.bind_some, ms_I m5, g5, Option.bind_some, nI_p1, nI_m1 (by omega), e6, Option.bind_some, hx]
      exact ⟨h6, rfl, c5.tr c6, fun q hq => by have := Option.some.inj hq; rw [← this]; exact s6⟩
