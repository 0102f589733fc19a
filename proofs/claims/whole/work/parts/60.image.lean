/-! the model's copies -/
theorem copyRow_n {h : HA} {a N n f t : Nat} (hk : kd h a = (20, N)) (hf : n * f + n ≤ N) (ht : n * t + n ≤ N) (hne : n * f + n ≤ n * t ∨ n * t + n ≤ n * f) (hN : N < 2 ^ 31) (hn : n < 1000) : ∃ h1, X8_copyRow h a (nI n) (nI f) (nI t) = some h1 ∧ ch (fun b k => b = a ∧ n * t ≤ k ∧ k < n * t + n) h h1 ∧ ∀ i, i < n → gi h1 a (n * t + i) = gi h a (n * f + i) := by
  obtain ⟨h1, e1, c1, g1⟩ := loop_inv (fun fu k (g : HA) => X8_copyRow_L3 a (nI n) (nI f) (nI t) fu g (nI k)) (fun k g => ch (fun b k => b = a ∧ n * t ≤ k ∧ k < n * t + n) h g ∧ ∀ i, i < k → gi g a (n * t + i) = gi h a (n * f + i))
    (fun g => ch (fun b k => b = a ∧ n * t ≤ k ∧ k < n * t + n) h g ∧ ∀ i, i < n → gi g a (n * t + i) = gi h a (n * f + i)) n (by
      rintro k g fu hk2 ⟨j1, j2⟩
      have kg : kd g a = (20, N) := by rw [j1.2.1]; exact hk
      refine ⟨si g a (n * t + k) (gi h a (n * f + k)), ?_, j1.tr (ch_si ⟨rfl, by omega, by omega⟩), fun i hi => ?_⟩
      · show X8_copyRow_L3 a (nI n) (nI f) (nI t) (fu + 1) g (nI k) = _
        rw [X8_copyRow_L3, if_pos (lt_lit hk2 (by omega)), nI_mul, nI_add, ldI_n kg (by omega) (by omega), Option.bind_some, nI_mul, nI_add, asI_n kg (by omega) (by omega), Option.bind_some, nI_p1, j1.gi (by omega)]
      · rw [gi_si]
        by_cases e : i = k
        · subst e; rw [if_pos ⟨rfl, rfl⟩]
        · rw [if_neg (by omega)]; exact j2 i (by omega)) (by
      rintro g fu ⟨j1, j2⟩
      exact ⟨g, by show X8_copyRow_L3 a (nI n) (nI f) (nI t) (fu + 1) g (nI n) = _; rw [X8_copyRow_L3, if_neg (nlt_lit (Nat.le_refl _) (by omega))], j1, j2⟩) h FU ⟨ch_rf _ _, fun i hi => by omega⟩ (FU_gt (by omega))
  refine ⟨h1, ?_, c1, g1⟩
  unfold X8_copyRow
  rw [show X8_copyRow_L3 a (nI n) (nI f) (nI t) FU h 0 = _ from e1]; rfl
def WCA (m t : Nat) : Nat → Nat → Prop := fun a k => ∃ i, 1 ≤ i ∧ i ≤ 9 ∧ a = m + i ∧ mwd i * t ≤ k ∧ k < mwd i * t + mwd i
theorem copyAll_n {h : HA} {m f t : Nat} (hm : MS h m) (hf : f ≤ 3) (ht : t ≤ 3) (hne : f ≠ t) : ∃ h1, X8_copyAll h m (nI f) (nI t) = some h1 ∧ ch (WCA m t) h h1 ∧ (∀ i, i < 600 → gi h1 (m + 1) (600 * t + i) = toB (gi h (m + 1) (600 * f + i))) ∧ ∀ a, 2 ≤ a → a ≤ 9 → ∀ j, j < mwd a → gi h1 (m + a) (mwd a * t + j) = gi h (m + a) (mwd a * f + j) := by
  have hft : f < t ∨ t < f := by omega
  obtain ⟨h1, e1, c1, g1⟩ := loop_inv (fun fu k (g : HA) => X8_copyAll_L2 m (nI f) (nI t) fu g (nI k)) (fun k g => ch (fun b k => b = m + 1 ∧ 600 * t ≤ k ∧ k < 600 * t + 600) h g ∧ ∀ i, i < k → gi g (m + 1) (600 * t + i) = toB (gi h (m + 1) (600 * f + i)))
    (fun g => ch (fun b k => b = m + 1 ∧ 600 * t ≤ k ∧ k < 600 * t + 600) h g ∧ ∀ i, i < 600 → gi g (m + 1) (600 * t + i) = toB (gi h (m + 1) (600 * f + i))) 600 (by
      rintro k g fu hk2 ⟨j1, j2⟩
      have mg := j1.ms hm
      refine ⟨si g (m + 1) (600 * t + k) (toB (gi h (m + 1) (600 * f + k))), ?_, j1.tr (ch_si ⟨rfl, by omega, by omega⟩), fun i hi => ?_⟩
      · show X8_copyAll_L2 m (nI f) (nI t) (fu + 1) g (nI k) = _
        rw [X8_copyAll_L2, if_pos (show nI k < 600 from lt_lit (n := 600) hk2 (by omega)), ms_r1 mg, Option.bind_some, Option.bind_some, show (600 : Int32) = nI 600 from rfl, nI_mul, nI_add, ldI_n (ms_k1 mg) (by omega) (by omega), Option.bind_some, nI_mul, nI_add, asI_n (ms_k1 mg) (by omega) (by omega), Option.bind_some, nI_p1, j1.gi (by omega)]
      · rw [gi_si]
        by_cases e : i = k
        · subst e; rw [if_pos ⟨rfl, rfl⟩]
        · rw [if_neg (by omega)]; exact j2 i (by omega)) (by
      rintro g fu ⟨j1, j2⟩
      exact ⟨g, by show X8_copyAll_L2 m (nI f) (nI t) (fu + 1) g (nI 600) = _; rw [X8_copyAll_L2, if_neg (by decide)], j1, j2⟩) h FU ⟨ch_rf _ _, fun i hi => by omega⟩ (FU_gt (by omega))
  have hm1 := c1.ms hm
  obtain ⟨h2, e2, c2, g2⟩ := copyRow_n (n := 1) (f := f) (t := t) (ms_k2 hm1) (by omega) (by omega) (by omega) (by omega) (by omega)
  have hm2 := c2.ms hm1
  obtain ⟨h3, e3, c3, g3⟩ := copyRow_n (n := 1) (f := f) (t := t) (ms_k3 hm2) (by omega) (by omega) (by omega) (by omega) (by omega)
  have hm3 := c3.ms hm2
  obtain ⟨h4, e4, c4, g4⟩ := copyRow_n (n := 1) (f := f) (t := t) (ms_k4 hm3) (by omega) (by omega) (by omega) (by omega) (by omega)
  have hm4 := c4.ms hm3
  obtain ⟨h5, e5, c5, g5⟩ := copyRow_n (n := 4) (f := f) (t := t) (ms_k5 hm4) (by omega) (by omega) (by omega) (by omega) (by omega)
  have hm5 := c5.ms hm4
  obtain ⟨h6, e6, c6, g6⟩ := copyRow_n (n := 212) (f := f) (t := t) (ms_k6 hm5) (by omega) (by omega) (by omega) (by omega) (by omega)
  have hm6 := c6.ms hm5
  obtain ⟨h7, e7, c7, g7⟩ := copyRow_n (n := 242) (f := f) (t := t) (ms_k7 hm6) (by omega) (by omega) (by omega) (by omega) (by omega)
  have hm7 := c7.ms hm6
  obtain ⟨h8, e8, c8, g8⟩ := copyRow_n (n := 50) (f := f) (t := t) (ms_k8 hm7) (by omega) (by omega) (by omega) (by omega) (by omega)
  have hm8 := c8.ms hm7
  obtain ⟨h9, e9, c9, g9⟩ := copyRow_n (n := 50) (f := f) (t := t) (ms_k9 hm8) (by omega) (by omega) (by omega) (by omega) (by omega)
  have w : ∀ i, 1 ≤ i → i ≤ 9 → ∀ {g g1 : HA}, ch (fun b k => b = m + i ∧ mwd i * t ≤ k ∧ k < mwd i * t + mwd i) g g1 → ch (WCA m t) g g1 := fun i h1 h2 g g1 p => p.mo (fun a k w => ⟨i, h1, h2, w.1, w.2⟩)
  refine ⟨h9, ?_, (((((((((w 1 (by omega) (by omega) c1).tr (w 2 (by omega) (by omega) c2)).tr (w 3 (by omega) (by omega) c3)).tr (w 4 (by omega) (by omega) c4)).tr (w 5 (by omega) (by omega) c5)).tr (w 6 (by omega) (by omega) c6)).tr (w 7 (by omega) (by omega) c7)).tr (w 8 (by omega) (by omega) c8)).tr (w 9 (by omega) (by omega) c9)), fun i hi => ?_, fun a a2 a9 j hj => ?_⟩
  · unfold X8_copyAll
    rw [if_pos (ms_c hm), show X8_copyAll_L2 m (nI f) (nI t) FU h 0 = _ from e1, Option.bind_some, ms_r2 hm1, Option.bind_some, show X8_copyRow h1 (m + 2) 1 (nI f) (nI t) = _ from e2, Option.bind_some, ms_r3 hm2, Option.bind_some, show X8_copyRow h2 (m + 3) 1 (nI f) (nI t) = _ from e3, Option.bind_some, ms_r4 hm3, Option.bind_some, show X8_copyRow h3 (m + 4) 1 (nI f) (nI t) = _ from e4, Option.bind_some, ms_r5 hm4, Option.bind_some, show X8_copyRow h4 (m + 5) 4 (nI f) (nI t) = _ from e5, Option.bind_some, ms_r6 hm5, Option.bind_some, show X8_copyRow h5 (m + 6) 212 (nI f) (nI t) = _ from e6, Option.bind_some, ms_r7 hm6, Option.bind_some, show X8_copyRow h6 (m + 7) 242 (nI f) (nI t) = _ from e7, Option.bind_some, ms_r8 hm7, Option.bind_some, show X8_copyRow h7 (m + 8) 50 (nI f) (nI t) = _ from e8, Option.bind_some, ms_r9 hm8, Option.bind_some, show X8_copyRow h8 (m + 9) 50 (nI f) (nI t) = _ from e9, Option.bind_some]
  · rw [c9.gi (by omega), c8.gi (by omega), c7.gi (by omega), c6.gi (by omega), c5.gi (by omega), c4.gi (by omega), c3.gi (by omega), c2.gi (by omega)]; exact g1 i hi
  · have ha : a = 2 ∨ a = 3 ∨ a = 4 ∨ a = 5 ∨ a = 6 ∨ a = 7 ∨ a = 8 ∨ a = 9 := by omega
    rcases ha with rfl | rfl | rfl | rfl | rfl | rfl | rfl | rfl
    · rw [c9.gi (by omega), c8.gi (by omega), c7.gi (by omega), c6.gi (by omega), c5.gi (by omega), c4.gi (by omega), c3.gi (by omega)]; exact (g2 j hj).trans (c1.gi (by omega))
    · rw [c9.gi (by omega), c8.gi (by omega), c7.gi (by omega), c6.gi (by omega), c5.gi (by omega), c4.gi (by omega)]; exact (g3 j hj).trans (by rw [c2.gi (by omega), c1.gi (by omega)]; rfl)
    · rw [c9.gi (by omega), c8.gi (by omega), c7.gi (by omega), c6.gi (by omega), c5.gi (by omega)]; exact (g4 j hj).trans (by rw [c3.gi (by omega), c2.gi (by omega), c1.gi (by omega)]; rfl)
    · rw [c9.gi (by omega), c8.gi (by omega), c7.gi (by omega), c6.gi (by omega)]; exact (g5 j hj).trans (by rw [c4.gi (by omega), c3.gi (by omega), c2.gi (by omega), c1.gi (by omega)]; rfl)
    · rw [c9.gi (by omega), c8.gi (by omega), c7.gi (by omega)]; exact (g6 j hj).trans (by rw [c5.gi (by omega), c4.gi (by omega), c3.gi (by omega), c2.gi (by omega), c1.gi (by omega)]; rfl)
    · rw [c9.gi (by omega), c8.gi (by omega)]; exact (g7 j hj).trans (by rw [c6.gi (by omega), c5.gi (by omega), c4.gi (by omega), c3.gi (by omega), c2.gi (by omega), c1.gi (by omega)]; rfl)
    · rw [c9.gi (by omega)]; exact (g8 j hj).trans (by rw [c7.gi (by omega), c6.gi (by omega), c5.gi (by omega), c4.gi (by omega), c3.gi (by omega), c2.gi (by omega), c1.gi (by omega)]; rfl)
    · exact (g9 j hj).trans (by rw [c8.gi (by omega), c7.gi (by omega), c6.gi (by omega), c5.gi (by omega), c4.gi (by omega), c3.gi (by omega), c2.gi (by omega), c1.gi (by omega)]; rfl)
/-- the model's rows, copied -/
theorem MD_copy {h h1 : HA} {m f t : Nat} {D : DT} (hm : MD h m f D) (hd : WD D) (ht : ∀ i, i < 600 → gi h1 (m + 1) (600 * t + i) = toB (gi h (m + 1) (600 * f + i))) (hr : ∀ a, 2 ≤ a → a ≤ 9 → ∀ j, j < mwd a → gi h1 (m + a) (mwd a * t + j) = gi h (m + a) (mwd a * f + j)) : MD h1 m t D := by
  obtain ⟨a1, a2, a3, a4, a5, a6, a7⟩ := hm
  have n := hd.2.1
  have e1 : ∀ a, 2 ≤ a → a ≤ 4 → gi h1 (m + a) t = gi h (m + a) f := by
    intro a h1' h2'
    have hw : mwd a = 1 := by unfold mwd; rw [if_neg (by omega), if_neg (by omega), if_neg (by omega), if_neg (by omega), if_neg (by omega), if_neg (by omega)]
    have := hr a h1' (by omega) 0 (by omega)
    rw [hw] at this
    rw [show 1 * t + 0 = t by omega, show 1 * f + 0 = f by omega] at this
    exact this
  refine ⟨by rw [e1 2 (by omega) (by omega)]; exact a1, by rw [e1 3 (by omega) (by omega)]; exact a2, by rw [e1 4 (by omega) (by omega)]; exact a3, fun i hi => ?_, fun s hs => ?_, fun j k h1 h2 => ?_, fun s j k h1 h2 h3 h4 => ?_⟩
  · have := hd.1
    rw [ht i (by omega), a4 i hi]; exact hd.2.2.2.2 i hi
  · have := hr 5 (by omega) (by omega) s hs
    rw [show mwd 5 * t + s = 4 * t + s from rfl, show mwd 5 * f + s = 4 * f + s from rfl] at this
    rw [this]; exact a5 s hs
  · have := n 0 (by omega)
    have := hr 6 (by omega) (by omega) (106 * j + k) (by show _ < 212; omega)
    rw [show mwd 6 * t + (106 * j + k) = 212 * t + (106 * j + k) from rfl, show mwd 6 * f + (106 * j + k) = 212 * f + (106 * j + k) from rfl] at this
    rw [this]; exact a6 j k h1 h2
  · have := n s h2
    have hs : s = 1 ∨ s = 2 ∨ s = 3 := by omega
    have hlt : lrw s * j + k < mwd (6 + s) := by
      rcases hs with rfl | rfl | rfl
      · have h4' : k < 121 := h4
        show 121 * j + k < 242; omega
      · have h4' : k < 25 := h4
        show 25 * j + k < 50; omega
      · have h4' : k < 25 := h4
        show 25 * j + k < 50; omega
    have hw : mwd (6 + s) = 2 * lrw s := by rcases hs with rfl | rfl | rfl <;> rfl
    have := hr (6 + s) (by omega) (by omega) _ hlt
    rw [hw] at this
    rw [this]; exact a7 s j k h1 h2 h3 h4
theorem MD_keep2 {h h1 : HA} {m i : Nat} {D : DT} (hm : MD h m i D) (hd : WD D) (hr : ∀ a j, 1 ≤ a → a ≤ 9 → mwd a * i ≤ j → j < mwd a * i + mwd a → gi h1 (m + a) j = gi h (m + a) j) : MD h1 m i D := by
  obtain ⟨a1, a2, a3, a4, a5, a6, a7⟩ := hm
  have n := hd.2.1
  have hL := hd.1
  refine ⟨?_, ?_, ?_, fun f hf => ?_, fun s hs => ?_, fun j k h1 h2 => ?_, fun s j k h1 h2 h3 h4 => ?_⟩
  · rw [hr 2 i (by omega) (by omega) (by show 1 * i ≤ i; omega) (by show i < 1 * i + 1; omega)]; exact a1
  · rw [hr 3 i (by omega) (by omega) (by show 1 * i ≤ i; omega) (by show i < 1 * i + 1; omega)]; exact a2
  · rw [hr 4 i (by omega) (by omega) (by show 1 * i ≤ i; omega) (by show i < 1 * i + 1; omega)]; exact a3
  · rw [hr 1 _ (by omega) (by omega) (by show 600 * i ≤ _; omega) (by show _ < 600 * i + 600; omega)]; exact a4 f hf
  · rw [hr 5 _ (by omega) (by omega) (by show 4 * i ≤ _; omega) (by show _ < 4 * i + 4; omega)]; exact a5 s hs
  · have := n 0 (by omega)
    rw [hr 6 _ (by omega) (by omega) (by show 212 * i ≤ _; omega) (by show _ < 212 * i + 212; omega)]; exact a6 j k h1 h2
  · have := n s h2
    have hs : s = 1 ∨ s = 2 ∨ s = 3 := by omega
    rw [hr (6 + s) _ (by omega) (by omega) ?_ ?_]
    · exact a7 s j k h1 h2 h3 h4
    · rcases hs with rfl | rfl | rfl
      · show 242 * i ≤ 2 * 121 * i + _; omega
      · show 50 * i ≤ 2 * 25 * i + _; omega
      · show 50 * i ≤ 2 * 25 * i + _; omega
    · rcases hs with rfl | rfl | rfl
      · have h4' : k < 121 := h4
        show 2 * 121 * i + (121 * j + k) < 242 * i + 242; omega
      · have h4' : k < 25 := h4
        show 2 * 25 * i + (25 * j + k) < 50 * i + 50; omega
      · have h4' : k < 25 := h4
        show 2 * 25 * i + (25 * j + k) < 50 * i + 50; omega
/-- no object of its kind lies within an image -/
theorem img_kd {h : HA} {t : Nat} (ts : ToS h t) (cs : ∀ j, j < 2 → CS h (iα t j)) (ls : ∀ s j, 1 ≤ s → s < 4 → j < 2 → LiS h (il t s j) s) : ∀ a, t < a → a < t + 29 → kd h a ≠ (6, 0) := by
  intro a h1 h2 e
  have eα : ∀ i, iα t i = t + 5 + 12 * i := fun _ => rfl
  have el : ∀ s i, il t s i = t + 9 + 2 * s + 12 * i := fun _ _ => rfl
  have hc : ∀ j, j < 2 → iα t j ≤ a → a ≤ iα t j + 5 → False := fun j hj h3 h4 => by
    rcases cs_kk (cs j hj) h3 h4 with ⟨_, z⟩ | ⟨_, z | z | z | z⟩ <;> rw [z] at e <;> exact absurd e (by decide)
  have hl : ∀ s j, 1 ≤ s → s < 4 → j < 2 → (a = il t s j ∨ a = il t s j + 1) → False := fun s j h3 h4 h5 h6 => by
    rcases h6 with rfl | rfl
    · rw [(ls s j h3 h4 h5).1] at e; exact absurd e (by decide)
    · rw [(ls s j h3 h4 h5).2.2.2] at e; exact absurd (congrArg Prod.fst e) (fun z => by simp at z)
  by_cases h3 : a ≤ t + 4
  · rcases ts_kk ts (by omega) h3 with ⟨z, _⟩ | ⟨_, z | z | z | z⟩
    · omega
    all_goals rw [z] at e; exact absurd e (by decide)
  · by_cases h4 : a ≤ t + 10
    · exact hc 0 (by omega) (by have := eα 0; omega) (by have := eα 0; omega)
    · by_cases h5 : a ≤ t + 16
      · have := el ((a - t - 9) / 2) 0
        exact hl ((a - t - 9) / 2) 0 (by omega) (by omega) (by omega) (by omega)
      · by_cases h6 : a ≤ t + 22
        · exact hc 1 (by omega) (by have := eα 1; omega) (by have := eα 1; omega)
        · have := el ((a - t - 21) / 2) 1
          exact hl ((a - t - 21) / 2) 1 (by omega) (by omega) (by omega) (by omega)
