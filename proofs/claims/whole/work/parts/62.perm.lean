/-! SEATINGS: the rows of seats in their order, the best of them, and the first of the best -/
def pm (n : Nat) : Nat → Nat → List (List Nat)
  | 0, _ => [[]]
  | f + 1, t => (List.range n).flatMap fun s => if t.testBit s = true then [] else (pm n f (t ||| 2 ^ s)).map (s :: ·)
def fdn (q : Nat → Bool) : Nat → Option Nat
  | 0 => none
  | k + 1 => if q k = true then some k else fdn q k
def gp (p : List Nat) (i : Nat) : Nat := p.getD i 0
def swp (p : List Nat) (i j : Nat) : List Nat := (p.set i (gp p j)).set j (gp p i)
def rvs : Nat → List Nat → Nat → Nat → List Nat
  | 0, p, _, _ => p
  | f + 1, p, a, b => if a < b then rvs f (swp p a b) (a + 1) (b - 1) else p
def nxt (n : Nat) (p : List Nat) : Option (List Nat) :=
  match fdn (fun i => decide (gp p i ≤ gp p (i + 1))) (n - 1) with
  | none => none
  | some i => match fdn (fun k => decide (gp p i ≤ gp p k)) n with
    | none => none
    | some k => some (rvs n (swp p i k) (i + 1) (n - 1))
def wlk (n : Nat) : Nat → List Nat → Option (List (List Nat))
  | 0, _ => none
  | f + 1, p => match nxt n p with
    | none => some [p]
    | some q => (wlk n f q).map (p :: ·)
theorem wlk_pm : ∀ n, n < 7 → wlk n 721 (List.range n) = some (pm n n 0) := by decide +kernel
theorem pm_ok : ∀ n, n < 7 → ∀ p, p ∈ pm n n 0 → p.length = n ∧ ∀ x, x ∈ p → x < n := by decide +kernel
theorem pc_or : ∀ t, t < 64 → ∀ s, s < 6 → t.testBit s = false → pc (t ||| 2 ^ s) = pc t + 1 ∧ t < t ||| 2 ^ s := by decide +kernel
theorem pc_free : ∀ n, n < 7 → ∀ t, t < 2 ^ n → pc t < n → fst1 (fun s => !t.testBit s) n 0 < n := by decide +kernel
theorem pc_full : ∀ n, n < 7 → ∀ t, t < 2 ^ n → pc t ≤ n ∧ (pc t = n ↔ t = 2 ^ n - 1) := by decide +kernel
/-- the worth of a row -/
def val (W : Nat → Nat → Nat) : Nat → List Nat → Nat
  | _, [] => 0
  | j, s :: l => W j s + val W (j + 1) l
def mxs (q : Nat → Bool) (v : Nat → Int) : Nat → Int
  | 0 => -1
  | k + 1 => if q k = true then mxs q v k else if mxs q v k < v k then v k else mxs q v k
def bs (n : Nat) (W : Nat → Nat → Nat) : Nat → Nat → Int
  | 0, _ => 0
  | f + 1, t => mxs (fun s => t.testBit s) (fun s => (W (n - (f + 1)) s : Int) + bs n W f (t ||| 2 ^ s)) n
def ls (n : Nat) (W : Nat → Nat → Nat) (f t : Nat) : Nat := fst1 (fun s => !t.testBit s && decide ((W (n - (f + 1)) s : Int) + bs n W f (t ||| 2 ^ s) = bs n W (f + 1) t)) n 0
def gr (n : Nat) (W : Nat → Nat → Nat) : Nat → Nat → List Nat
  | 0, _ => []
  | f + 1, t => ls n W f t :: gr n W f (t ||| 2 ^ ls n W f t)
def FM (v : List Nat → Nat) (l : List (List Nat)) (p : List Nat) : Prop := ∃ l1 l2, l = l1 ++ p :: l2 ∧ (∀ q, q ∈ l1 → v q < v p) ∧ ∀ q, q ∈ l2 → v q ≤ v p
theorem FM_le {v : List Nat → Nat} {l : List (List Nat)} {p : List Nat} (h : FM v l p) : ∀ q, q ∈ l → v q ≤ v p := by
  obtain ⟨l1, l2, rfl, h1, h2⟩ := h
  intro q hq
  rcases List.mem_append.mp hq with h3 | h3
  · exact Nat.le_of_lt (h1 q h3)
  · rcases List.mem_cons.mp h3 with rfl | h4
    · exact Nat.le_refl _
    · exact h2 q h4
theorem FM_lt {v : List Nat → Nat} {l m : List (List Nat)} {p q : List Nat} (h : FM v l p) (g : FM v m q) (hv : v p < v q) : FM v (l ++ m) q := by
  have hl := FM_le h
  obtain ⟨m1, m2, rfl, g1, g2⟩ := g
  refine ⟨l ++ m1, m2, by rw [List.append_assoc], fun r hr => ?_, g2⟩
  rcases List.mem_append.mp hr with h3 | h3
  · exact Nat.lt_of_le_of_lt (hl r h3) hv
  · exact g1 r h3
theorem FM_ge {v : List Nat → Nat} {l m : List (List Nat)} {p q : List Nat} (h : FM v l p) (g : FM v m q) (hv : ¬ v p < v q) : FM v (l ++ m) p := by
  have hm := FM_le g
  obtain ⟨l1, l2, rfl, g1, g2⟩ := h
  refine ⟨l1, l2 ++ m, by rw [List.append_assoc]; rfl, g1, fun r hr => ?_⟩
  rcases List.mem_append.mp hr with h3 | h3
  · exact g2 r h3
  · have := hm r h3; omega
theorem FM_map {W : Nat → Nat → Nat} {j s : Nat} {l : List (List Nat)} {p : List Nat} (h : FM (val W (j + 1)) l p) : FM (val W j) (l.map (s :: ·)) (s :: p) := by
  obtain ⟨l1, l2, rfl, h1, h2⟩ := h
  refine ⟨l1.map (s :: ·), l2.map (s :: ·), by simp, fun q hq => ?_, fun q hq => ?_⟩
  · obtain ⟨r, hr, rfl⟩ := List.mem_map.mp hq
    have := h1 r hr
    show W j s + val W (j + 1) r < W j s + val W (j + 1) p
    omega
  · obtain ⟨r, hr, rfl⟩ := List.mem_map.mp hq
    have := h2 r hr
    show W j s + val W (j + 1) r ≤ W j s + val W (j + 1) p
    omega
theorem fst1_is {q : Nat → Bool} {n s : Nat} (hs : s < n) (h1 : q s = true) (h2 : ∀ i, i < s → q i = false) : fst1 q n 0 = s := by
  rcases fst1_spec q n 0 with ⟨i, _, _, h3, h4, h5⟩ | ⟨h3, _⟩
  · rw [h5]
    rcases Nat.lt_trichotomy i s with h | h | h
    · rw [h2 i h] at h3; simp at h3
    · exact h
    · rw [h4 s (by omega) h] at h1; simp at h1
  · rw [h3 s (by omega) (by omega)] at h1; simp at h1
theorem pm_best {n : Nat} (hn : n < 7) (W : Nat → Nat → Nat) : ∀ f t, t < 2 ^ n → pc t + f = n → FM (val W (n - f)) (pm n f t) (gr n W f t) ∧ (val W (n - f) (gr n W f t) : Int) = bs n W f t := by
  intro f
  induction f with
  | zero => intro t _ _; exact ⟨⟨[], [], rfl, by simp, by simp⟩, rfl⟩
  | succ f ih =>
    intro t ht hp
    have hn6 : 2 ^ n ≤ 2 ^ 6 := Nat.pow_le_pow_right (by omega) (by omega)
    have hor : ∀ s, s < n → t.testBit s = false → t ||| 2 ^ s < 2 ^ n ∧ pc (t ||| 2 ^ s) + f = n := by
      intro s hs h
      have h1 := (pc_or t (by omega) s (by omega) h).1
      exact ⟨Nat.or_lt_two_pow ht (Nat.pow_lt_pow_right (by omega) hs), by omega⟩
    have hj : n - (f + 1) + 1 = n - f := by omega
    have inv : ∀ k, k ≤ n → (((List.range k).flatMap fun s => if t.testBit s = true then [] else (pm n f (t ||| 2 ^ s)).map (s :: ·)) = [] ∧ mxs (fun s => t.testBit s) (fun s => (W (n - (f + 1)) s : Int) + bs n W f (t ||| 2 ^ s)) k = -1 ∧ ∀ s, s < k → t.testBit s = true) ∨
        (∃ s, s < k ∧ t.testBit s = false ∧ FM (val W (n - (f + 1))) ((List.range k).flatMap fun s => if t.testBit s = true then [] else (pm n f (t ||| 2 ^ s)).map (s :: ·)) (s :: gr n W f (t ||| 2 ^ s)) ∧ (W (n - (f + 1)) s : Int) + bs n W f (t ||| 2 ^ s) = mxs (fun s => t.testBit s) (fun s => (W (n - (f + 1)) s : Int) + bs n W f (t ||| 2 ^ s)) k ∧
          ∀ i, i < s → t.testBit i = false → (W (n - (f + 1)) i : Int) + bs n W f (t ||| 2 ^ i) < mxs (fun s => t.testBit s) (fun s => (W (n - (f + 1)) s : Int) + bs n W f (t ||| 2 ^ s)) k) := by
      intro k
      induction k with
      | zero => intro _; exact Or.inl ⟨rfl, rfl, fun s h => by omega⟩
      | succ k ik =>
        intro hk
        rw [List.range_succ, List.flatMap_append, List.flatMap_singleton, mxs]
        by_cases hb : t.testBit k = true
        · rw [if_pos hb, if_pos hb, List.append_nil]
          rcases ik (by omega) with ⟨h1, h2, h3⟩ | ⟨s, h1, h2, h3, h4, h5⟩
          · refine Or.inl ⟨h1, h2, fun s hs => ?_⟩
            by_cases e : s = k
            · rw [e]; exact hb
            · exact h3 s (by omega)
          · exact Or.inr ⟨s, by omega, h2, h3, h4, h5⟩
        · have hb' : t.testBit k = false := by simpa using hb
          obtain ⟨o1, o2⟩ := hor k (by omega) hb'
          obtain ⟨i1, i2⟩ := ih _ o1 o2
          rw [← hj] at i1 i2
          have i3 := FM_map (s := k) i1
          have iv : ((val W (n - (f + 1)) (k :: gr n W f (t ||| 2 ^ k)) : Nat) : Int) = (W (n - (f + 1)) k : Int) + bs n W f (t ||| 2 ^ k) := by
            rw [← i2]; rfl
          rw [if_neg hb, if_neg hb]
          rcases ik (by omega) with ⟨h1, h2, h3⟩ | ⟨s, h1, h2, h3, h4, h5⟩
          · rw [h1, List.nil_append, h2, if_pos (by omega)]
            exact Or.inr ⟨k, by omega, hb', i3, rfl, fun i hi h => by rw [h3 i hi] at h; simp at h⟩
          · obtain ⟨p1, p2⟩ := hor s (by omega) h2
            obtain ⟨q1, q2⟩ := ih _ p1 p2
            rw [← hj] at q1 q2
            have sv : ((val W (n - (f + 1)) (s :: gr n W f (t ||| 2 ^ s)) : Nat) : Int) = (W (n - (f + 1)) s : Int) + bs n W f (t ||| 2 ^ s) := by
              rw [← q2]; rfl
            by_cases hc : mxs (fun s => t.testBit s) (fun s => (W (n - (f + 1)) s : Int) + bs n W f (t ||| 2 ^ s)) k < (W (n - (f + 1)) k : Int) + bs n W f (t ||| 2 ^ k)
            · rw [if_pos hc]
              refine Or.inr ⟨k, by omega, hb', FM_lt h3 i3 (by omega), rfl, fun i hi h => ?_⟩
              rcases Nat.lt_trichotomy i s with hl | hl | hl
              · have := h5 i hl h; omega
              · rw [hl]; omega
              · have hlast : (W (n - (f + 1)) i : Int) + bs n W f (t ||| 2 ^ i) ≤ mxs (fun s => t.testBit s) (fun s => (W (n - (f + 1)) s : Int) + bs n W f (t ||| 2 ^ s)) k := by
                  have gen : ∀ m, i < m → (W (n - (f + 1)) i : Int) + bs n W f (t ||| 2 ^ i) ≤ mxs (fun s => t.testBit s) (fun s => (W (n - (f + 1)) s : Int) + bs n W f (t ||| 2 ^ s)) m := by
                    intro m
                    induction m with
                    | zero => intro h; omega
                    | succ m im =>
                      intro hm
                      rw [mxs]
                      by_cases e : i = m
                      · subst e
                        rw [if_neg (by rw [h]; simp)]
                        split <;> omega
                      · have := im (by omega)
                        split
                        · exact this
                        · split <;> omega
                  exact gen k hi
                omega
            · rw [if_neg hc]
              exact Or.inr ⟨s, by omega, h2, FM_ge h3 i3 (by omega), h4, h5⟩
    rcases inv n (Nat.le_refl n) with ⟨_, _, h3⟩ | ⟨s, h1, h2, h3, h4, h5⟩
    · have hfr := pc_free n hn t ht (by omega)
      rcases fst1_spec (fun s => !t.testBit s) n 0 with ⟨i, _, g2, g3, _, _⟩ | ⟨_, g2⟩
      · rw [h3 i (by omega)] at g3; simp at g3
      · omega
    · have hls : ls n W f t = s := by
        unfold ls
        refine fst1_is h1 ?_ (fun i hi => ?_)
        · simp only [h2, Bool.not_false, Bool.true_and]
          exact decide_eq_true h4
        · cases hb : t.testBit i with
          | true => rfl
          | false =>
            have := h5 i hi hb
            simp only [Bool.not_false, Bool.true_and]
            apply decide_eq_false
            intro z
            rw [z] at this
            exact absurd this (Int.lt_irrefl _)
      have eg : gr n W (f + 1) t = s :: gr n W f (t ||| 2 ^ s) := by rw [gr, hls]
      rw [eg]
      refine ⟨h3, ?_⟩
      obtain ⟨p1, p2⟩ := hor s h1 h2
      obtain ⟨q1, q2⟩ := ih _ p1 p2
      rw [← hj] at q2
      rw [bs, ← h4, ← q2]; rfl
theorem FM_fold {v : List Nat → Nat} {l : List (List Nat)} {p : List Nat} (h : FM v l p) (p0 : List Nat) : l.foldl (fun (z : Int × List Nat) q => if z.1 < (v q : Int) then ((v q : Int), q) else z) (-1, p0) = ((v p : Int), p) := by
  obtain ⟨l1, l2, rfl, h1, h2⟩ := h
  have a : ∀ (l : List (List Nat)) (z : Int × List Nat), (∀ q, q ∈ l → v q < v p) → z.1 < (v p : Int) → (l.foldl (fun (z : Int × List Nat) q => if z.1 < (v q : Int) then ((v q : Int), q) else z) z).1 < (v p : Int) := by
    intro l
    induction l with
    | nil => intro z _ h; exact h
    | cons q l ih =>
      intro z hq hz
      rw [List.foldl_cons]
      apply ih _ (fun r hr => hq r (List.mem_cons_of_mem _ hr))
      have := hq q List.mem_cons_self
      split
      · show (v q : Int) < v p; omega
      · exact hz
  have b : ∀ (l : List (List Nat)), (∀ q, q ∈ l → v q ≤ v p) → l.foldl (fun (z : Int × List Nat) q => if z.1 < (v q : Int) then ((v q : Int), q) else z) ((v p : Int), p) = ((v p : Int), p) := by
    intro l
    induction l with
    | nil => intro _; rfl
    | cons q l ih =>
      intro hq
      have := hq q List.mem_cons_self
      rw [List.foldl_cons, if_neg (show ¬ (v p : Int) < (v q : Int) by omega)]
      exact ih (fun r hr => hq r (List.mem_cons_of_mem _ hr))
  rw [List.foldl_append, List.foldl_cons, if_pos (a l1 _ h1 (show (-1 : Int) < v p by omega))]
  exact b l2 h2
