/-! WHAT IS TOLD: length, FAULT, place; tape; counts; COURTS; TRIALS, LAWS, ROLLS (by sort and number), each as the model's row -/
abbrev DT : Type := (Nat × Int32 × Int32) × (Nat → Int32) × (Nat → Nat) × (Nat → CR) × (Nat → Nat → CR)
def dL (D : DT) : Nat := D.1.1
def dF (D : DT) : Int32 := D.1.2.1
def dP (D : DT) : Int32 := D.1.2.2
def dT (D : DT) : Nat → Int32 := D.2.1
def dN (D : DT) : Nat → Nat := D.2.2.1
def dC (D : DT) : Nat → CR := D.2.2.2.1
def dR (D : DT) : Nat → Nat → CR := D.2.2.2.2
/-- how many rows a list of a sort can have, how wide they are; the model's row of it -/
def lmx (s : Nat) : Nat := if s = 1 then 30 else if s = 2 then 8 else 12
def lwd (s : Nat) : Nat := if s = 1 then 4 else if s = 2 then 3 else 2
def lrw (s : Nat) : Nat := if s = 1 then 121 else 25
def llen (L : CR) : Nat := tn (L 0)
def WLr (s : Nat) (L : CR) (k : Nat) : Prop :=
  if s = 1 then (L (1 + 4 * k) = 0 ∧ (∃ p d, p < 4 ∧ d < 4 ∧ L (2 + 4 * k) = nI p ∧ L (3 + 4 * k) = nI d ∧ L (4 + 4 * k) = -1)) ∨ (L (1 + 4 * k) = 1 ∧ (∃ p w l, p < 4 ∧ w < 10 ∧ l < 10 ∧ L (2 + 4 * k) = nI p ∧ L (3 + 4 * k) = nI w ∧ L (4 + 4 * k) = nI l)) ∨ (L (1 + 4 * k) = 2 ∧ L (2 + 4 * k) = -1 ∧ L (3 + 4 * k) = -1 ∧ L (4 + 4 * k) = -1)
  else if s = 2 then (L (1 + 3 * k) = 0 ∨ L (1 + 3 * k) = 1) ∧ (L (2 + 3 * k) = -1 ∨ ∃ w, w < 10 ∧ L (2 + 3 * k) = nI w) ∧ (L (3 + 3 * k) = -1 ∨ ∃ w, w < 10 ∧ L (3 + 3 * k) = nI w)
  else ∃ j w, j < 6 ∧ w < 10 ∧ L (1 + 2 * k) = nI j ∧ L (2 + 2 * k) = nI w
def WL (s : Nat) (L : CR) : Prop := llen L ≤ lmx s ∧ L 0 = nI (llen L) ∧ ∀ k, k < llen L → WLr s L k
def WD (D : DT) : Prop := dL D ≤ 600 ∧ (∀ s, s < 4 → dN D s ≤ 2) ∧ (∀ j, j < dN D 0 → WF (dC D j)) ∧ (∀ s j, 1 ≤ s → s < 4 → j < dN D s → WL s (dR D s j)) ∧ ∀ f, f < dL D → (dT D f).toInt8.toInt32 = dT D f
/-- the model holds it, as its i-th -/
def MD (h : HA) (m i : Nat) (D : DT) : Prop := gi h (m + 2) i = nI (dL D) ∧ gi h (m + 3) i = dF D ∧ gi h (m + 4) i = dP D ∧ (∀ f, f < dL D → gi h (m + 1) (600 * i + f) = dT D f) ∧ (∀ s, s < 4 → gi h (m + 5) (4 * i + s) = nI (dN D s)) ∧
  (∀ j k, j < dN D 0 → k < 106 → gi h (m + 6) (212 * i + (106 * j + k)) = dC D j k) ∧ (∀ s j k, 1 ≤ s → s < 4 → j < dN D s → k < lrw s → gi h (m + (6 + s)) (2 * lrw s * i + (lrw s * j + k)) = dR D s j k)
/-- a listing of a sort -/
def LiS (h : HA) (a s : Nat) : Prop := kd h a = (3, 0) ∧ gi h a 0 = nI (lwd s) ∧ ga h a 1 = some (a + 1) ∧ kd h (a + 1) = (20, lwd s * lmx s)
def LL (h : HA) (a s : Nat) (L : CR) : Prop := LiS h a s ∧ gi h a 2 = L 0 ∧ ∀ i, i < lwd s * llen L → gi h (a + 1) i = L (1 + i)
/-- the class's Told -/
def ToS (h : HA) (t : Nat) : Prop := kd h t = (6, 0) ∧ (ga h t 0 = some (t + 1) ∧ kd h (t + 1) = (22, 600)) ∧ (ga h t 4 = some (t + 2) ∧ kd h (t + 2) = (20, 4)) ∧ (ga h t 5 = some (t + 3) ∧ kd h (t + 3) = (25, 2)) ∧ (ga h t 6 = some (t + 4) ∧ kd h (t + 4) = (26, 8))
def TD (h : HA) (t : Nat) (α : Nat → Nat) (lm : Nat → Nat → Nat) (D : DT) : Prop := gi h t 1 = nI (dL D) ∧ gi h t 2 = dF D ∧ gi h t 3 = dP D ∧ (∀ f, f < dL D → gi h (t + 1) f = dT D f) ∧ (∀ s, s < 4 → gi h (t + 2) s = nI (dN D s)) ∧
  (∀ j, j < 2 → ga h (t + 3) j = some (α j)) ∧ (∀ s j, 1 ≤ s → s < 4 → j < 2 → ga h (t + 4) (2 * s + j) = some (lm s j)) ∧ (∀ j, j < dN D 0 → CQ h (α j) (dC D j)) ∧ (∀ s j, 1 ≤ s → s < 4 → j < dN D s → LL h (lm s j) s (dR D s j))
def iα (t : Nat) : Nat → Nat := fun j => t + 5 + 12 * j
def il (t : Nat) : Nat → Nat → Nat := fun s j => t + 9 + 2 * s + 12 * j
/-- cells that stand fast, and their references -/
def fxk : List (Nat × Nat × Nat) := [(0, 8, 0), (30, 24, 3), (31, 4, 0), (38, 26, 4), (39, 20, 4), (46, 2, 0), (47, 20, 4), (48, 20, 4), (49, 20, 6), (50, 21, 30), (51, 20, 30), (52, 5, 0), (53, 20, 36), (54, 20, 64)]
def fxr : List (Nat × Nat × Nat) := [(0, 0, 1), (0, 1, 30), (0, 2, 31), (0, 3, 46), (0, 4, 52), (31, 1, 38), (31, 10, 39), (46, 3, 47), (46, 4, 48), (46, 5, 49), (46, 6, 50), (46, 7, 51), (52, 0, 53), (52, 1, 54)]
def FX (h : HA) (b : Nat) : Prop := (∀ x, x ∈ fxk → kd h (b + x.1) = x.2) ∧ (∀ x, x ∈ fxr → ga h (b + x.1) x.2.1 = some (b + x.2.2)) ∧ ToS h (b + 1) ∧ MS h (b + 55) ∧ b + 86 ≤ hz h
def WS (h : HA) (w : Nat) : Prop := kd h w = (7, 0) ∧ (ga h w 0 = some (w + 1) ∧ kd h (w + 1) = (21, 3904)) ∧ (ga h w 1 = some (w + 2) ∧ kd h (w + 2) = (21, 256))
def IMk (h : HA) (b k : Nat) (o : Option (Nat × DT)) : Prop := match o with
  | none => ga h (b + 30) k = none ∧ gi h (b + 85) k = 0
  | some (t, D) => ga h (b + 30) k = some t ∧ gi h (b + 85) k = 1 ∧ b + 86 ≤ t ∧ t + 29 ≤ hz h ∧ ToS h t ∧ (∀ j, j < 2 → CS h (iα t j)) ∧ (∀ s j, 1 ≤ s → s < 4 → j < 2 → LiS h (il t s j) s) ∧ TD h t (iα t) (il t) D ∧ MD h (b + 55) (k + 1) D ∧ WD D
def IV (h : HA) (b : Nat) (D : DT) (α : Nat → Nat) (lm : Nat → Nat → Nat) (im : Nat → Option (Nat × DT)) : Prop :=
  FX h b ∧ (∀ j, j < 3 → CS h (α j) ∧ b ≤ α j ∧ α j + 6 ≤ b + 46) ∧ (∀ i j, i < 3 → j < 3 → α i = α j → i = j) ∧ (∀ s j, 1 ≤ s → s < 4 → j < 3 → LiS h (lm s j) s ∧ b ≤ lm s j ∧ lm s j + 2 ≤ b + 46) ∧
  (∀ s i j, 1 ≤ s → s < 4 → i < 3 → j < 3 → lm s i = lm s j → i = j) ∧ TD h (b + 1) α lm D ∧ ga h (b + 31) 0 = some (α 2) ∧ (∀ s, 1 ≤ s → s < 4 → ga h (b + 38) s = some (lm s 2)) ∧ MD h (b + 55) 0 D ∧ WD D ∧
  (∀ k, k < 3 → IMk h b k (im k)) ∧ (∀ i j t D D', i < 3 → j < 3 → im i = some (t, D) → im j = some (t, D') → i = j) ∧ (ga h b 5 = none ∨ ∃ w, ga h b 5 = some w ∧ b + 86 ≤ w ∧ w + 3 ≤ hz h ∧ WS h w)
/-! the same at cells -/
def fr (W : Nat → Nat → Prop) (h h1 : HA) : Prop := hz h ≤ hz h1 ∧ (∀ a, a < hz h → kd h1 a = kd h a) ∧ ∀ a k, a < hz h → W a k ∨ (gi h1 a k = gi h a k ∧ gj h1 a k = gj h a k ∧ ga h1 a k = ga h a k)
theorem fr_rf (W : Nat → Nat → Prop) (h : HA) : fr W h h := ⟨Nat.le_refl _, fun _ _ => rfl, fun _ _ _ => Or.inr ⟨rfl, rfl, rfl⟩⟩
theorem fr.tr {W : Nat → Nat → Prop} {h h1 h2 : HA} (p : fr W h h1) (q : fr W h1 h2) : fr W h h2 := by
  refine ⟨Nat.le_trans p.1 q.1, fun a ha => (q.2.1 a (Nat.lt_of_lt_of_le ha p.1)).trans (p.2.1 a ha), fun a k ha => ?_⟩
  rcases p.2.2 a k ha with w | ⟨w1, w2, w3⟩
  · exact Or.inl w
  · rcases q.2.2 a k (Nat.lt_of_lt_of_le ha p.1) with v | ⟨v1, v2, v3⟩
    · exact Or.inl v
    · exact Or.inr ⟨v1.trans w1, v2.trans w2, v3.trans w3⟩
theorem fr.mo {W W' : Nat → Nat → Prop} {h h1 : HA} (p : fr W h h1) (q : ∀ a k, a < hz h → W a k → W' a k) : fr W' h h1 :=
  ⟨p.1, p.2.1, fun a k ha => (p.2.2 a k ha).imp (q a k ha) id⟩
theorem ch.fr {W : Nat → Nat → Prop} {h h1 : HA} (p : ch W h h1) : fr W h h1 := by
  refine ⟨Nat.le_of_eq p.1.symm, fun a _ => p.2.1 a, fun a k _ => ?_⟩
  rcases p.2.2.2.1 a k with w | w
  · exact Or.inl w
  · rcases p.2.2.2.2 a k with v | v
    · exact Or.inl v
    · exact Or.inr ⟨w, v, p.2.2.1 a k⟩
theorem fr.sm {W : Nat → Nat → Prop} {h h1 : HA} (p : fr W h h1) {a : Nat} (ha : a < hz h) (hw : ∀ k, ¬ W a k) : sm h h1 a :=
  ⟨p.2.1 a ha, fun k => ((p.2.2 a k ha).resolve_left (hw k)).1, fun k => ((p.2.2 a k ha).resolve_left (hw k)).2.1, fun k => ((p.2.2 a k ha).resolve_left (hw k)).2.2⟩
theorem CS_sm {h h1 : HA} {c : Nat} (hs : CS h c) (p : ∀ a, c ≤ a → a ≤ c + 5 → sm h h1 a) : CS h1 c :=
  CS_same hs (fun a h1 h2 => (p a h1 h2).1) (fun k => (p c (by omega) (by omega)).2.2.2 k)
theorem CC_sm {h h1 : HA} {c : Nat} {C : CR} (hs : CC h c C) (p : ∀ a, c ≤ a → a ≤ c + 5 → sm h h1 a) : CC h1 c C :=
  CC_same hs (fun a h1 h2 => (p a h1 h2).1) (fun k => (p c (by omega) (by omega)).2.2.2 k) (fun k _ => (p c (by omega) (by omega)).2.1 k) (fun k _ => (p c (by omega) (by omega)).2.2.1 k) (fun a k h1 h2 => (p a (by omega) (by omega)).2.1 k)
theorem LJ_sm {h h1 : HA} {c j : Nat} {C : CR} (hs : LJ h c C j) (p : ∀ a, c ≤ a → a ≤ c + 5 → sm h h1 a) : LJ h1 c C j :=
  ⟨fun d f h1 h2 => by rw [(p (c + 4) (by omega) (by omega)).2.2.1]; exact hs.1 d f h1 h2, fun s f h1 h2 => by rw [(p (c + 5) (by omega) (by omega)).2.2.1]; exact hs.2 s f h1 h2⟩
theorem CQ_sm {h h1 : HA} {c : Nat} {C : CR} (hs : CQ h c C) (p : ∀ a, c ≤ a → a ≤ c + 5 → sm h h1 a) : CQ h1 c C := by
  refine ⟨CC_sm hs.1 p, hs.2.imp (fun e => ?_) (fun e j hj => LJ_sm (e j hj) p)⟩
  rw [(p c (by omega) (by omega)).2.1]; exact e
theorem CL_sm {h h1 : HA} {c : Nat} {C : CR} (hs : CL h c C) (p : ∀ a, c ≤ a → a ≤ c + 5 → sm h h1 a) : CL h1 c C :=
  ⟨CC_sm hs.1 p, fun j hj => LJ_sm (hs.2 j hj) p⟩
theorem LiS_sm {h h1 : HA} {a s : Nat} (hs : LiS h a s) (p : sm h h1 a) (q : sm h h1 (a + 1)) : LiS h1 a s := by
  obtain ⟨a1, a2, a3, a4⟩ := hs
  exact ⟨by rw [p.1]; exact a1, by rw [p.2.1]; exact a2, by rw [p.2.2.2]; exact a3, by rw [q.1]; exact a4⟩
theorem LL_sm {h h1 : HA} {a s : Nat} {L : CR} (hs : LL h a s L) (p : sm h h1 a) (q : sm h h1 (a + 1)) : LL h1 a s L := by
  obtain ⟨a1, a2, a3⟩ := hs
  exact ⟨LiS_sm a1 p q, by rw [p.2.1]; exact a2, fun i hi => by rw [q.2.1]; exact a3 i hi⟩
theorem ToS_sm {h h1 : HA} {t : Nat} (hs : ToS h t) (p : ∀ a, t ≤ a → a ≤ t + 4 → sm h h1 a) : ToS h1 t := by
  obtain ⟨a1, ⟨a2, a3⟩, ⟨a4, a5⟩, ⟨a6, a7⟩, a8, a9⟩ := hs
  refine ⟨?_, ⟨?_, ?_⟩, ⟨?_, ?_⟩, ⟨?_, ?_⟩, ?_, ?_⟩ <;> first | (rw [(p _ (by omega) (by omega)).1]; assumption) | (rw [(p _ (by omega) (by omega)).2.2.2]; assumption)
theorem TD_sm {h h1 : HA} {t : Nat} {α : Nat → Nat} {lm : Nat → Nat → Nat} {D : DT} (hs : TD h t α lm D) (hd : WD D) (p : ∀ a, t ≤ a → a ≤ t + 4 → sm h h1 a) (q : ∀ j, j < dN D 0 → CQ h1 (α j) (dC D j)) (r : ∀ s j, 1 ≤ s → s < 4 → j < 2 → sm h h1 (lm s j) ∧ sm h h1 (lm s j + 1)) : TD h1 t α lm D := by
  obtain ⟨a1, a2, a3, a4, a5, a6, a7, a8, a9⟩ := hs
  have p0 := p t (by omega) (by omega)
  refine ⟨by rw [p0.2.1]; exact a1, by rw [p0.2.1]; exact a2, by rw [p0.2.1]; exact a3, fun f hf => ?_, fun s hs => ?_, fun j hj => ?_, fun s j h1 h2 h3 => ?_, fun j hj => ?_, fun s j h1 h2 h3 => ?_⟩
  · rw [(p (t + 1) (by omega) (by omega)).2.1]; exact a4 f hf
  · rw [(p (t + 2) (by omega) (by omega)).2.1]; exact a5 s hs
  · rw [(p (t + 3) (by omega) (by omega)).2.2.2]; exact a6 j hj
  · rw [(p (t + 4) (by omega) (by omega)).2.2.2]; exact a7 s j h1 h2 h3
  · exact q j hj
  · have hr := r s j h1 h2 (by have := hd.2.1 s h2; omega)
    exact LL_sm (a9 s j h1 h2 h3) hr.1 hr.2
theorem MD_sm {h h1 : HA} {m i : Nat} {D : DT} (hs : MD h m i D) (p : ∀ a, m + 1 ≤ a → a ≤ m + 9 → sm h h1 a) : MD h1 m i D := by
  obtain ⟨a1, a2, a3, a4, a5, a6, a7⟩ := hs
  refine ⟨?_, ?_, ?_, fun f hf => ?_, fun s hs => ?_, fun j k h1 h2 => ?_, fun s j k h1 h2 h3 h4 => ?_⟩
  · rw [(p _ (by omega) (by omega)).2.1]; exact a1
  · rw [(p _ (by omega) (by omega)).2.1]; exact a2
  · rw [(p _ (by omega) (by omega)).2.1]; exact a3
  · rw [(p _ (by omega) (by omega)).2.1]; exact a4 f hf
  · rw [(p _ (by omega) (by omega)).2.1]; exact a5 s hs
  · rw [(p _ (by omega) (by omega)).2.1]; exact a6 j k h1 h2
  · rw [(p _ (by omega) (by omega)).2.1]; exact a7 s j k h1 h2 h3 h4
