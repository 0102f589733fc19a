/-! making objects -/
def old (h h1 : HA) : Prop := hz h ≤ hz h1 ∧ ∀ a, a < hz h → sm h h1 a
theorem old_rf (h : HA) : old h h := ⟨Nat.le_refl _, fun a _ => sm_rf h a⟩
theorem old.tr {h h1 h2 : HA} (p : old h h1) (q : old h1 h2) : old h h2 := ⟨Nat.le_trans p.1 q.1, fun a ha => (p.2 a ha).tr (q.2 a (Nat.lt_of_lt_of_le ha p.1))⟩
theorem kd_nw (h : HA) (c n a : Nat) : kd (nw h c n) a = if a = hz h then (c, n) else kd h a := rfl
theorem gi_nw (h : HA) (c n a k : Nat) : gi (nw h c n) a k = if a = hz h then 0 else gi h a k := rfl
theorem gj_nw (h : HA) (c n a k : Nat) : gj (nw h c n) a k = if a = hz h then 0 else gj h a k := rfl
theorem ga_nw (h : HA) (c n a k : Nat) : ga (nw h c n) a k = if a = hz h then none else ga h a k := rfl
theorem hz_nw (h : HA) (c n : Nat) : hz (nw h c n) = hz h + 1 := rfl
theorem old_nw (h : HA) (c n : Nat) : old h (nw h c n) := by
  refine ⟨by rw [hz_nw]; omega, fun a ha => ⟨?_, fun k => ?_, fun k => ?_, fun k => ?_⟩⟩
  · rw [kd_nw, if_neg (by omega)]
  · rw [gi_nw, if_neg (by omega)]
  · rw [gj_nw, if_neg (by omega)]
  · rw [ga_nw, if_neg (by omega)]
theorem nA_n {h : HA} {c n most : Nat} (h1 : n ≤ most) (h2 : most < 2 ^ 31) : nA h c (nI n) most = some (nw h c n) := by
  unfold nA
  rw [nI_toInt (by omega), nI_clamp (by omega), if_pos ⟨by omega, by omega⟩]
/-- a row made for an object -/
def mk (h : HA) (t k c n : Nat) : HA := sa (nw h c n) t k (some (hz h))
def mkl (h : HA) (t : Nat) : List (Nat × Nat × Nat) → HA
  | [] => h
  | x :: l => mkl (mk h t x.1 x.2.1 x.2.2) t l
def rrK (h : HA) (t cls : Nat) : List (Nat × Nat × Int32 × Nat) → (HA → Option HA) → Option HA
  | [], K => K h
  | x :: l, K => (nA h x.2.1 x.2.2.1 x.2.2.2).bind fun h1 => (pR h1 t cls x.1 (some (hz h))).bind fun h2 => rrK h2 t cls l K
theorem rrK_ok {t cls : Nat} (K : HA → Option HA) : ∀ (l : List (Nat × Nat × Int32 × Nat)) (r : List (Nat × Nat × Nat)) (h : HA), (kd h t).1 = cls → t < hz h → l.length = r.length → (∀ i, i < r.length → (l.getD i (0, 0, 0, 0)).1 = (r.getD i (0, 0, 0)).1 ∧ (l.getD i (0, 0, 0, 0)).2.1 = (r.getD i (0, 0, 0)).2.1 ∧ (l.getD i (0, 0, 0, 0)).2.2.1 = nI (r.getD i (0, 0, 0)).2.2 ∧ (r.getD i (0, 0, 0)).2.2 ≤ (l.getD i (0, 0, 0, 0)).2.2.2 ∧ (l.getD i (0, 0, 0, 0)).2.2.2 < 2 ^ 31) → rrK h t cls l K = K (mkl h t r) := by
  intro l
  induction l with
  | nil =>
    intro r h _ _ hl _
    cases r with
    | nil => rfl
    | cons y r => simp at hl
  | cons x l ih =>
    intro r h hk ht hl hx
    cases r with
    | nil => simp at hl
    | cons y r =>
      obtain ⟨x1, x2, x3, x4⟩ := x
      obtain ⟨y1, y2, y3⟩ := y
      have h0 := hx 0 (by simp)
      simp at h0
      obtain ⟨e1, e2, e3, e4, e5⟩ := h0
      subst e1 e2 e3
      show ((nA h x2 (nI y3) x4).bind fun h1 => (pR h1 t cls x1 (some (hz h))).bind fun h2 => rrK h2 t cls l K) = _
      have hk1 : (kd (nw h x2 y3) t).1 = cls := by rw [kd_nw, if_neg (by omega)]; exact hk
      have e6 : pR (nw h x2 y3) t cls x1 (some (hz h)) = some (mk h t x1 x2 y3) := by unfold pR; rw [if_pos hk1]; rfl
      rw [nA_n e4 (by omega), Option.bind_some, e6, Option.bind_some]
      refine ih r (mk h t x1 x2 y3) hk1 (by show t < hz h + 1; omega) (by simpa using hl) (fun i hi => ?_)
      have := hx (i + 1) (by simpa using hi)
      simpa using this
theorem mk_h (h : HA) (t k c n : Nat) (ht : t < hz h) : hz (mk h t k c n) = hz h + 1 ∧ (∀ a, kd (mk h t k c n) a = if a = hz h then (c, n) else kd h a) ∧ (∀ a j, gi (mk h t k c n) a j = if a = hz h then 0 else gi h a j) ∧ (∀ a j, gj (mk h t k c n) a j = if a = hz h then 0 else gj h a j) ∧ (∀ a j, ga (mk h t k c n) a j = if a = t ∧ j = k then some (hz h) else if a = hz h then none else ga h a j) :=
  ⟨rfl, fun _ => rfl, fun _ _ => rfl, fun _ _ => rfl, fun _ _ => rfl⟩
theorem mkl_ok {t : Nat} : ∀ (l : List (Nat × Nat × Nat)) (h : HA), t < hz h →
    hz (mkl h t l) = hz h + l.length ∧ (∀ a, a < hz h → kd (mkl h t l) a = kd h a ∧ (∀ j, gi (mkl h t l) a j = gi h a j) ∧ ∀ j, gj (mkl h t l) a j = gj h a j) ∧ (∀ a j, a < hz h → a ≠ t → ga (mkl h t l) a j = ga h a j) ∧
    (∀ j, (∀ i, i < l.length → (l.getD i (0, 0, 0)).1 ≠ j) → ga (mkl h t l) t j = ga h t j) ∧
    (∀ i, i < l.length → kd (mkl h t l) (hz h + i) = (l.getD i (0, 0, 0)).2 ∧ ∀ j, gi (mkl h t l) (hz h + i) j = 0) ∧
    ((∀ i, i < l.length → ∀ k, k < l.length → (l.getD i (0, 0, 0)).1 = (l.getD k (0, 0, 0)).1 → i = k) → ∀ i, i < l.length → ga (mkl h t l) t (l.getD i (0, 0, 0)).1 = some (hz h + i)) := by
  intro l
  induction l with
  | nil => intro h _; exact ⟨rfl, fun _ _ => ⟨rfl, fun _ => rfl, fun _ => rfl⟩, fun _ _ _ _ => rfl, fun _ _ => rfl, fun i hi => by simp at hi, fun _ i hi => by simp at hi⟩
  | cons x l ih =>
    intro h ht
    obtain ⟨x1, x2, x3⟩ := x
    obtain ⟨m1, m2, m3, m4, m5⟩ := mk_h h t x1 x2 x3 ht
    obtain ⟨i1, i2, i3, i4, i5, i6⟩ := ih (mk h t x1 x2 x3) (by rw [m1]; omega)
    show hz (mkl (mk h t x1 x2 x3) t l) = _ ∧ _
    rw [m1] at i1 i2 i3 i5 i6
    refine ⟨by rw [i1]; simp; omega, fun a ha => ?_, fun a j ha hne => ?_, fun j hj => ?_, fun i hi => ?_, fun hn i hi => ?_⟩
    · obtain ⟨q1, q2, q3⟩ := i2 a (by omega)
      refine ⟨?_, fun j => ?_, fun j => ?_⟩
      · show kd (mkl (mk h t x1 x2 x3) t l) a = _
        rw [q1, m2, if_neg (by omega)]
      · show gi (mkl (mk h t x1 x2 x3) t l) a j = _
        rw [q2, m3, if_neg (by omega)]
      · show gj (mkl (mk h t x1 x2 x3) t l) a j = _
        rw [q3, m4, if_neg (by omega)]
    · show ga (mkl (mk h t x1 x2 x3) t l) a j = _
      rw [i3 a j (by omega) hne, m5, if_neg (fun z => hne z.1), if_neg (by omega)]
    · show ga (mkl (mk h t x1 x2 x3) t l) t j = _
      have h0 := hj 0 (by simp)
      simp at h0
      rw [i4 j (fun i hi => by have := hj (i + 1) (by simpa using hi); simpa using this), m5, if_neg (fun z => h0 z.2.symm), if_neg (by omega)]
    · show kd (mkl (mk h t x1 x2 x3) t l) _ = _ ∧ ∀ j, gi (mkl (mk h t x1 x2 x3) t l) _ j = 0
      cases i with
      | zero =>
        obtain ⟨q1, q2, _⟩ := i2 (hz h) (by omega)
        rw [Nat.add_zero]
        refine ⟨by rw [q1, m2, if_pos rfl]; rfl, fun j => by rw [q2, m3, if_pos rfl]⟩
      | succ i =>
        have := i5 i (by simpa using hi)
        rw [show hz h + (i + 1) = hz h + 1 + i by omega]
        simpa using this
    · show ga (mkl (mk h t x1 x2 x3) t l) t _ = _
      cases i with
      | zero =>
        simp only [List.getD_cons_zero]
        rw [i4 x1 (fun k hk e => by
          have := hn 0 (by simp) (k + 1) (by simpa using hk) (by simpa using e.symm)
          omega), m5, if_pos ⟨rfl, rfl⟩]; rfl
      | succ i =>
        have := i6 (fun a ha c hc e => by
          have := hn (a + 1) (by simpa using ha) (c + 1) (by simpa using hc) (by simpa using e)
          omega) i (by simpa using hi)
        rw [show hz h + (i + 1) = hz h + 1 + i by omega]
        simpa using this
theorem old_mkl {h0 h : HA} {t : Nat} {l : List (Nat × Nat × Nat)} (hl : hz h0 ≤ t) (ht : t < hz h) (o : old h0 h) : old h0 (mkl h t l) := by
  obtain ⟨i1, i2, i3, _⟩ := mkl_ok l h ht
  refine ⟨by rw [i1]; have := o.1; omega, fun a ha => (o.2 a ha).tr ?_⟩
  have h1 := o.1
  obtain ⟨q1, q2, q3⟩ := i2 a (by omega)
  exact ⟨q1, q2, q3, fun k => i3 a k (by omega) (by omega)⟩
/-- a new COURT -/
theorem court_new (h : HA) : ∃ h1, X0_init (nw h 1 0) (hz h) = some h1 ∧ hz h1 = hz h + 6 ∧ old h h1 ∧ CS h1 (hz h) := by
  have hk : kd (nw h 1 0) (hz h) = (1, 0) := by rw [kd_nw, if_pos rfl]
  have ht : hz h < hz (nw h 1 0) := by rw [hz_nw]; omega
  obtain ⟨i1, i2, i3, i4, i5, i6⟩ := mkl_ok [(7, 20, 30), (9, 20, 4), (10, 20, 4), (12, 21, 114), (13, 21, 24)] (nw h 1 0) ht
  have e : X0_init (nw h 1 0) (hz h) = some (mkl (nw h 1 0) (hz h) [(7, 20, 30), (9, 20, 4), (10, 20, 4), (12, 21, 114), (13, 21, 24)]) := by
    show (if (kd (nw h 1 0) (hz h)).1 = 1 then rrK (nw h 1 0) (hz h) 1 [(7, 20, 30, 30), (9, 20, 4, 4), (10, 20, 4, 4), (12, 21, 114, 114), (13, 21, 24, 24)] some else none) = _
    rw [if_pos (by rw [hk]), rrK_ok some _ [(7, 20, 30), (9, 20, 4), (10, 20, 4), (12, 21, 114), (13, 21, 24)] _ (by rw [hk]) ht rfl (by decide)]
  have g6 := i6 (by decide)
  rw [hz_nw] at i1 i5 g6
  refine ⟨_, e, by rw [i1]; rfl, old_mkl (Nat.le_refl _) ht (old_nw h 1 0), ?_, ⟨?_, ?_⟩, ⟨?_, ?_⟩, ⟨?_, ?_⟩, ⟨?_, ?_⟩, ?_, ?_⟩
  · rw [(i2 (hz h) ht).1, hk]
  · exact g6 0 (by decide)
  · exact (i5 0 (by decide)).1
  · exact g6 1 (by decide)
  · exact (i5 1 (by decide)).1
  · exact g6 2 (by decide)
  · exact (i5 2 (by decide)).1
  · exact g6 3 (by decide)
  · exact (i5 3 (by decide)).1
  · exact g6 4 (by decide)
  · exact (i5 4 (by decide)).1
/-- a new list -/
theorem list_new (h : HA) {s : Nat} (h1 : 1 ≤ s) (h4 : s < 4) : ∃ h2, X2_ofSort h (nI s) = some (hz h, h2) ∧ hz h2 = hz h + 2 ∧ old h h2 ∧ LiS h2 (hz h) s := by
  have core : ∀ (r w : Nat), r * w ≤ 120 → r < 100 → w < 100 → ∃ h2, X2_init (nw h 3 0) (hz h) (nI r) (nI w) = some h2 ∧ hz h2 = hz h + 2 ∧ old h h2 ∧ kd h2 (hz h) = (3, 0) ∧ gi h2 (hz h) 0 = nI w ∧ ga h2 (hz h) 1 = some (hz h + 1) ∧ kd h2 (hz h + 1) = (20, r * w) := by
    intro r w hr _ _
    have hk : kd (nw h 3 0) (hz h) = (3, 0) := by rw [kd_nw, if_pos rfl]
    have hk2 : kd (si (nw h 3 0) (hz h) 0 (nI w)) (hz h) = (3, 0) := hk
    have hk3 : kd (nw (si (nw h 3 0) (hz h) 0 (nI w)) 20 (r * w)) (hz h) = (3, 0) := by rw [kd_nw, if_neg (by show ¬ hz h = hz h + 1; omega)]; exact hk
    refine ⟨mk (si (nw h 3 0) (hz h) 0 (nI w)) (hz h) 1 20 (r * w), ?_, rfl, ?_, ?_, ?_, ?_, ?_⟩
    · unfold X2_init
      rw [if_pos (by rw [hk]), pI_n hk, Option.bind_some, nI_mul, nA_n hr (by omega), Option.bind_some, pR_n hk3, Option.bind_some]
      rfl
    · have o1 := old_nw h 3 0
      refine ⟨by show hz h ≤ hz h + 1 + 1; omega, fun a ha => (o1.2 a ha).tr ⟨?_, fun k => ?_, fun k => ?_, fun k => ?_⟩⟩
      · show (if a = hz h + 1 then _ else _) = _
        rw [if_neg (by omega)]; rfl
      · show (if a = hz h + 1 then _ else _) = _
        rw [if_neg (by omega)]
        show gi (si (nw h 3 0) (hz h) 0 (nI w)) a k = _
        rw [gi_si, if_neg (by omega)]
      · show (if a = hz h + 1 then _ else _) = _
        rw [if_neg (by omega)]; rfl
      · show (if a = hz h ∧ k = 1 then _ else if a = hz h + 1 then _ else _) = _
        rw [if_neg (by omega), if_neg (by omega)]; rfl
    · show (if hz h = hz h + 1 then _ else _) = _
      rw [if_neg (by omega)]; exact hk
    · show (if hz h = hz h + 1 then _ else _) = _
      rw [if_neg (by omega)]
      show gi (si (nw h 3 0) (hz h) 0 (nI w)) (hz h) 0 = _
      rw [gi_si, if_pos ⟨rfl, rfl⟩]
    · show (if hz h = hz h ∧ 1 = 1 then some (hz h + 1) else _) = _
      rw [if_pos ⟨rfl, rfl⟩]
    · show (if hz h + 1 = hz h + 1 then (20, r * w) else _) = _
      rw [if_pos rfl]
  have hs : s = 1 ∨ s = 2 ∨ s = 3 := by omega
  rcases hs with rfl | rfl | rfl
  · obtain ⟨h2, a1, a2, a3, a4, a5, a6, a7⟩ := core 30 4 (by omega) (by omega) (by omega)
    refine ⟨h2, ?_, a2, a3, a4, a5, a6, a7⟩
    show ((X2_init (nw h 3 0) (hz h) 30 4).bind fun h3 => some (hz h, h3)) = _
    rw [show X2_init (nw h 3 0) (hz h) 30 4 = _ from a1]; rfl
  · obtain ⟨h2, a1, a2, a3, a4, a5, a6, a7⟩ := core 8 3 (by omega) (by omega) (by omega)
    refine ⟨h2, ?_, a2, a3, a4, a5, a6, a7⟩
    show ((X2_init (nw h 3 0) (hz h) 8 3).bind fun h3 => some (hz h, h3)) = _
    rw [show X2_init (nw h 3 0) (hz h) 8 3 = _ from a1]; rfl
  · obtain ⟨h2, a1, a2, a3, a4, a5, a6, a7⟩ := core 12 2 (by omega) (by omega) (by omega)
    refine ⟨h2, ?_, a2, a3, a4, a5, a6, a7⟩
    show ((X2_init (nw h 3 0) (hz h) 12 2).bind fun h3 => some (hz h, h3)) = _
    rw [show X2_init (nw h 3 0) (hz h) 12 2 = _ from a1]; rfl
/-- a Told, as far as it is made -/
def PT (h : HA) (t : Nat) (dc : Nat → Prop) (dl : Nat → Nat → Prop) : Prop := ToS h t ∧ t + 5 ≤ hz h ∧ (∀ i, i < 2 → dc i → ga h (t + 3) i = some (iα t i) ∧ iα t i + 6 ≤ hz h ∧ CS h (iα t i)) ∧ (∀ s i, 1 ≤ s → s < 4 → i < 2 → dl s i → ga h (t + 4) (2 * s + i) = some (il t s i) ∧ il t s i + 2 ≤ hz h ∧ LiS h (il t s i) s) ∧
  gi h t 1 = 0 ∧ gi h t 2 = 0 ∧ gi h t 3 = -1 ∧ ∀ k, gi h (t + 2) k = 0
theorem PT_sm {h h1 : HA} {t : Nat} {dc : Nat → Prop} {dl : Nat → Nat → Prop} (pt : PT h t dc dl) (hz1 : hz h ≤ hz h1) (p : ∀ a, t ≤ a → a < hz h → a ≠ t + 3 → a ≠ t + 4 → sm h h1 a) (k3 : kd h1 (t + 3) = kd h (t + 3)) (k4 : kd h1 (t + 4) = kd h (t + 4))
    (r3 : ∀ i, i < 2 → dc i → ga h1 (t + 3) i = ga h (t + 3) i) (r4 : ∀ s i, 1 ≤ s → s < 4 → i < 2 → dl s i → ga h1 (t + 4) (2 * s + i) = ga h (t + 4) (2 * s + i)) : PT h1 t dc dl := by
  obtain ⟨a1, a2, a3, a4, a5, a6, a7, a8⟩ := pt
  have p0 := p t (by omega) (by omega) (by omega) (by omega)
  have eα : ∀ i, iα t i = t + 5 + 12 * i := fun _ => rfl
  have el : ∀ s i, il t s i = t + 9 + 2 * s + 12 * i := fun _ _ => rfl
  refine ⟨?_, by omega, fun i hi hd => ?_, fun s i h1 h2 h3 hd => ?_, by rw [p0.2.1]; exact a5, by rw [p0.2.1]; exact a6, by rw [p0.2.1]; exact a7, fun k => by rw [(p (t + 2) (by omega) (by omega) (by omega) (by omega)).2.1]; exact a8 k⟩
  · obtain ⟨b1, ⟨b2, b3⟩, ⟨b4, b5⟩, ⟨b6, b7⟩, b8, b9⟩ := a1
    exact ⟨by rw [p0.1]; exact b1, ⟨by rw [p0.2.2.2]; exact b2, by rw [(p (t + 1) (by omega) (by omega) (by omega) (by omega)).1]; exact b3⟩, ⟨by rw [p0.2.2.2]; exact b4, by rw [(p (t + 2) (by omega) (by omega) (by omega) (by omega)).1]; exact b5⟩, ⟨by rw [p0.2.2.2]; exact b6, by rw [k3]; exact b7⟩, by rw [p0.2.2.2]; exact b8, by rw [k4]; exact b9⟩
  · obtain ⟨b1, b2, b3⟩ := a3 i hi hd
    have := eα i
    exact ⟨by rw [r3 i hi hd]; exact b1, by omega, CS_sm b3 (fun a h1 h2 => p a (by omega) (by omega) (by omega) (by omega))⟩
  · obtain ⟨b1, b2, b3⟩ := a4 s i h1 h2 h3 hd
    have := el s i
    exact ⟨by rw [r4 s i h1 h2 h3 hd]; exact b1, by omega, LiS_sm b3 (p _ (by omega) (by omega) (by omega) (by omega)) (p _ (by omega) (by omega) (by omega) (by omega))⟩
theorem add_court {h0 h : HA} {t j : Nat} {dc : Nat → Prop} {dl : Nat → Nat → Prop} (pt : PT h t dc dl) (hz0 : hz h0 ≤ t) (o : old h0 h) (hj : j < 2) (hd : ¬ dc j) (hh : hz h = iα t j) :
    ∃ h1 h2, X0_init (nw h 1 0) (hz h) = some h1 ∧ asR h1 (t + 3) 25 (nI j) (hz h) = some h2 ∧ PT h2 t (fun i => dc i ∨ i = j) dl ∧ old h0 h2 ∧ hz h2 = iα t j + 6 := by
  obtain ⟨h1, e1, z1, o1, cs⟩ := court_new h
  have eα : ∀ i, iα t i = t + 5 + 12 * i := fun _ => rfl
  have := eα j
  have k3 : kd h1 (t + 3) = (25, 2) := by rw [(o1.2 (t + 3) (by omega)).1]; exact pt.1.2.2.2.1.2
  have e2 : asR h1 (t + 3) 25 (nI j) (hz h) = some (sa h1 (t + 3) j (some (hz h))) := by
    unfold asR
    rw [k3, cs.1, inb_n (by omega), nI_clamp (by omega), if_pos ⟨rfl, by simpa using hj, rfl⟩]
  have p1 : PT h1 t dc dl := PT_sm pt o1.1 (fun a _ ha _ _ => o1.2 a ha) (o1.2 _ (by omega)).1 (o1.2 _ (by omega)).1 (fun i _ _ => (o1.2 _ (by omega)).2.2.2 _) (fun s i _ _ _ _ => (o1.2 _ (by omega)).2.2.2 _)
  have p2 : PT (sa h1 (t + 3) j (some (hz h))) t dc dl := PT_sm p1 (Nat.le_refl _) (fun a _ _ h3 _ => sm_sa h3) rfl rfl (fun i _ hdi => by rw [ga_sa, if_neg (fun z => hd (by rw [← z.2]; exact hdi))]) (fun s i _ _ _ _ => by rw [ga_sa, if_neg (by omega)])
  obtain ⟨a1, a2, a3, a4, a5⟩ := p2
  refine ⟨h1, _, e1, e2, ⟨a1, a2, fun i hi hdi => ?_, a4, a5⟩, ?_, by rw [← hh]; exact z1⟩
  · rcases hdi with hdi | rfl
    · exact a3 i hi hdi
    · refine ⟨?_, ?_, ?_⟩
      · rw [ga_sa, if_pos ⟨rfl, rfl⟩, hh]
      · show iα t i + 6 ≤ hz h1; omega
      · rw [← hh]; exact CS_sm cs (fun a h2 h3 => sm_sa (by omega))
  · refine ⟨by have := o.1; show hz h0 ≤ hz h1; omega, fun a ha => ((o.2 a ha).tr (o1.2 a (by omega))).tr (sm_sa (by omega))⟩
theorem add_list {h0 h : HA} {t j s : Nat} {dc : Nat → Prop} {dl : Nat → Nat → Prop} (pt : PT h t dc dl) (hz0 : hz h0 ≤ t) (o : old h0 h) (hj : j < 2) (hs1 : 1 ≤ s) (hs4 : s < 4) (hd : ¬ dl s j) (hh : hz h = il t s j) :
    ∃ h1 h2, X2_ofSort h (nI s) = some (hz h, h1) ∧ asR h1 (t + 4) 26 (nI (2 * s + j)) (hz h) = some h2 ∧ PT h2 t dc (fun u i => dl u i ∨ (u = s ∧ i = j)) ∧ old h0 h2 ∧ hz h2 = il t s j + 2 := by
  obtain ⟨h1, e1, z1, o1, ls⟩ := list_new h hs1 hs4
  have el : ∀ s i, il t s i = t + 9 + 2 * s + 12 * i := fun _ _ => rfl
  have := el s j
  have k4 : kd h1 (t + 4) = (26, 8) := by rw [(o1.2 (t + 4) (by omega)).1]; exact pt.1.2.2.2.2.2
  have e2 : asR h1 (t + 4) 26 (nI (2 * s + j)) (hz h) = some (sa h1 (t + 4) (2 * s + j) (some (hz h))) := by
    unfold asR
    rw [k4, ls.1, inb_n (by omega), nI_clamp (by omega), if_pos ⟨rfl, by simp; omega, rfl⟩]
  have p1 : PT h1 t dc dl := PT_sm pt o1.1 (fun a _ ha _ _ => o1.2 a ha) (o1.2 _ (by omega)).1 (o1.2 _ (by omega)).1 (fun i _ _ => (o1.2 _ (by omega)).2.2.2 _) (fun s i _ _ _ _ => (o1.2 _ (by omega)).2.2.2 _)
  have p2 : PT (sa h1 (t + 4) (2 * s + j) (some (hz h))) t dc dl := PT_sm p1 (Nat.le_refl _) (fun a _ _ _ h3 => sm_sa h3) rfl rfl (fun i _ _ => by rw [ga_sa, if_neg (by omega)]) (fun u i u1 u2 u3 hdi => by
    rw [ga_sa, if_neg (fun z => hd (by have e3 : u = s := by omega
                                       have e4 : i = j := by omega
                                       rw [← e3, ← e4]; exact hdi))])
  obtain ⟨a1, a2, a3, a4, a5⟩ := p2
  refine ⟨h1, _, e1, e2, ⟨a1, a2, a3, fun u i u1 u2 u3 hdi => ?_, a5⟩, ?_, by rw [← hh]; exact z1⟩
  · rcases hdi with hdi | ⟨rfl, rfl⟩
    · exact a4 u i u1 u2 u3 hdi
    · refine ⟨?_, ?_, ?_⟩
      · rw [ga_sa, if_pos ⟨rfl, rfl⟩, hh]
      · show il t u i + 2 ≤ hz h1; omega
      · rw [← hh]; exact LiS_sm ls (sm_sa (by omega)) (sm_sa (by omega))
  · refine ⟨by have := o.1; show hz h0 ≤ hz h1; omega, fun a ha => ((o.2 a ha).tr (o1.2 a (by omega))).tr (sm_sa (by omega))⟩
theorem told44 {h0 h : HA} {t j n : Nat} {dc : Nat → Prop} {dl : Nat → Nat → Prop} (pt : PT h t dc dl) (hz0 : hz h0 ≤ t) (o : old h0 h) (hj : j < 2) (hd : ¬ dc j) (hdl : ∀ s, ¬ dl s j) (hh : hz h = iα t j) :
    ∃ h1, X5_init_L44 t (n + 1) h (nI j) = X5_init_L44 t n h1 (nI (j + 1)) ∧ PT h1 t (fun i => dc i ∨ i = j) (fun u i => dl u i ∨ i = j) ∧ old h0 h1 ∧ hz h1 = iα t (j + 1) := by
  have eα : ∀ i, iα t i = t + 5 + 12 * i := fun _ => rfl
  have el : ∀ s i, il t s i = t + 9 + 2 * s + 12 * i := fun _ _ => rfl
  have q0 := eα j
  have q1 := el 1 j
  have q2 := el 2 j
  have q3 := el 3 j
  have q4 := eα (j + 1)
  obtain ⟨g1, h1, e1, f1, p1, o1, z1⟩ := add_court pt hz0 o hj hd hh
  obtain ⟨g2, h2, e2, f2, p2, o2, z2⟩ := add_list (s := 1) p1 hz0 o1 hj (by omega) (by omega) (hdl 1) (by omega)
  obtain ⟨g3, h3, e3, f3, p3, o3, z3⟩ := add_list (s := 2) p2 hz0 o2 hj (by omega) (by omega) (fun z => z.elim (hdl 2) (fun w => absurd w.1 (by omega))) (by omega)
  obtain ⟨g4, h4, e4, f4, p4, o4, z4⟩ := add_list (s := 3) p3 hz0 o3 hj (by omega) (by omega) (fun z => z.elim (fun z => z.elim (hdl 3) (fun w => absurd w.1 (by omega))) (fun w => absurd w.1 (by omega))) (by omega)
  have tk : ∀ {g : HA} {c1 : Nat → Prop} {c2 : Nat → Nat → Prop}, PT g t c1 c2 → kd g t = (6, 0) := fun p => p.1.1
  have r5 : ∀ {g : HA} {c1 : Nat → Prop} {c2 : Nat → Nat → Prop}, PT g t c1 c2 → gR g t 6 5 = some (t + 3) := fun p => by rw [gR_n (tk p)]; exact p.1.2.2.2.1.1
  have r6 : ∀ {g : HA} {c1 : Nat → Prop} {c2 : Nat → Nat → Prop}, PT g t c1 c2 → gR g t 6 6 = some (t + 4) := fun p => by rw [gR_n (tk p)]; exact p.1.2.2.2.2.1
  refine ⟨h4, ?_, ?_, o4, by omega⟩
  · rw [X5_init_L44, if_pos (show nI j < 2 from lt_lit (n := 2) hj (by omega)), r5 pt, Option.bind_some]
    dsimp only [lett]
    rw [e1, Option.bind_some, f1, Option.bind_some]
    have s1 : X5_init_L64 t (nI j) 4 h1 1 = X5_init_L64 t (nI j) 3 h2 2 := by
      rw [X5_init_L64, if_pos (by decide), r6 p1, Option.bind_some]
      unfold X5_slotOf
      rw [Option.bind_some, show X2_ofSort h1 1 = _ from e2, Option.bind_some]
      dsimp only
      rw [show (1 : Int32) * 2 + nI j = nI (2 * 1 + j) from nI_add 2 j, f2, Option.bind_some]; rfl
    have s2 : X5_init_L64 t (nI j) 3 h2 2 = X5_init_L64 t (nI j) 2 h3 3 := by
      rw [X5_init_L64, if_pos (by decide), r6 p2, Option.bind_some]
      unfold X5_slotOf
      rw [Option.bind_some, show X2_ofSort h2 2 = _ from e3, Option.bind_some]
      dsimp only
      rw [show (2 : Int32) * 2 + nI j = nI (2 * 2 + j) from nI_add 4 j, f3, Option.bind_some]; rfl
    have s3 : X5_init_L64 t (nI j) 2 h3 3 = X5_init_L64 t (nI j) 1 h4 4 := by
      rw [X5_init_L64, if_pos (by decide), r6 p3, Option.bind_some]
      unfold X5_slotOf
      rw [Option.bind_some, show X2_ofSort h3 3 = _ from e4, Option.bind_some]
      dsimp only
      rw [show (3 : Int32) * 2 + nI j = nI (2 * 3 + j) from nI_add 6 j, f4, Option.bind_some]; rfl
    rw [s1, s2, s3, X5_init_L64, if_neg (by decide), Option.bind_some, nI_p1]
  · obtain ⟨a1, a2, a3, a4, a5⟩ := p4
    refine ⟨a1, a2, a3, fun s i u1 u2 u3 hdi => a4 s i u1 u2 u3 ?_, a5⟩
    rcases hdi with hdi | rfl
    · exact Or.inl (Or.inl (Or.inl hdi))
    · have : s = 1 ∨ s = 2 ∨ s = 3 := by omega
      rcases this with rfl | rfl | rfl
      · exact Or.inl (Or.inl (Or.inr ⟨rfl, rfl⟩))
      · exact Or.inl (Or.inr ⟨rfl, rfl⟩)
      · exact Or.inr ⟨rfl, rfl⟩
theorem told_new (h : HA) : ∃ h1, X5_init (nw h 6 0) (hz h) = some h1 ∧ hz h1 = hz h + 29 ∧ old h h1 ∧ PT h1 (hz h) (fun _ => True) (fun _ _ => True) := by
  have hk : kd (nw h 6 0) (hz h) = (6, 0) := by rw [kd_nw, if_pos rfl]
  have ht : hz h < hz (nw h 6 0) := by rw [hz_nw]; omega
  -- the tape, then its place, then the rest
  have e1 : X5_init (nw h 6 0) (hz h) = (pI (mk (nw h 6 0) (hz h) 0 22 600) (hz h) 6 3 (-1)).bind fun h3 => rrK h3 (hz h) 6 [(4, 20, 4, 4), (5, 25, 2, 2), (6, 26, 8, 8)] (fun h9 => (X5_init_L44 (hz h) 3 h9 0).bind fun h25 => some h25) := by
    show (if (kd (nw h 6 0) (hz h)).1 = 6 then rrK (nw h 6 0) (hz h) 6 [(0, 22, 600, 600)] (fun h2 => (pI h2 (hz h) 6 3 (-1)).bind fun h3 => rrK h3 (hz h) 6 [(4, 20, 4, 4), (5, 25, 2, 2), (6, 26, 8, 8)] (fun h9 => (X5_init_L44 (hz h) 3 h9 0).bind fun h25 => some h25)) else none) = _
    rw [if_pos (by rw [hk]), rrK_ok _ _ [(0, 22, 600)] _ (by rw [hk]) ht rfl (by decide)]
    rfl
  obtain ⟨m1, m2, m3, m4, m5⟩ := mk_h (nw h 6 0) (hz h) 0 22 600 ht
  have hk1 : kd (mk (nw h 6 0) (hz h) 0 22 600) (hz h) = (6, 0) := by rw [m2, if_neg (by rw [hz_nw]; omega)]; exact hk
  obtain ⟨g, hg⟩ : ∃ g, g = si (mk (nw h 6 0) (hz h) 0 22 600) (hz h) 3 (-1) := ⟨_, rfl⟩
  have hkg : kd g (hz h) = (6, 0) := by rw [hg]; exact hk1
  have hzg : hz g = hz h + 2 := by rw [hg, hz_si, m1, hz_nw]
  obtain ⟨i1, i2, i3, i4, i5, i6⟩ := mkl_ok [(4, 20, 4), (5, 25, 2), (6, 26, 8)] g (show hz h < hz g by omega)
  have og : old h g := by
    have o1 := old_nw h 6 0
    refine ⟨by omega, fun a ha => (o1.2 a ha).tr ?_⟩
    rw [hg]
    refine ⟨?_, fun k => ?_, fun k => ?_, fun k => ?_⟩
    · rw [kd_si, m2, if_neg (by rw [hz_nw]; omega)]
    · rw [gi_si, if_neg (by omega), m3, if_neg (by rw [hz_nw]; omega)]
    · rw [gj_si, m4, if_neg (by rw [hz_nw]; omega)]
    · rw [ga_si, m5, if_neg (by omega), if_neg (by rw [hz_nw]; omega)]
  have o9 := old_mkl (l := [(4, 20, 4), (5, 25, 2), (6, 26, 8)]) (Nat.le_refl _) (show hz h < hz g by omega) og
  have g6 := i6 (by decide)
  rw [hzg] at i1 i2 i3 i5 g6
  have hgi : ∀ k, gi g (hz h) k = if k = 3 then -1 else 0 := by
    intro k
    rw [hg, gi_si]
    by_cases e : k = 3
    · rw [if_pos ⟨rfl, e⟩, if_pos e]
    · rw [if_neg (fun z => e z.2), if_neg e, m3, if_neg (by rw [hz_nw]; omega), gi_nw, if_pos rfl]
  have p9 : PT (mkl g (hz h) [(4, 20, 4), (5, 25, 2), (6, 26, 8)]) (hz h) (fun _ => False) (fun _ _ => False) := by
    have q := i2 (hz h) (by omega)
    refine ⟨⟨?_, ⟨?_, ?_⟩, ⟨?_, ?_⟩, ⟨?_, ?_⟩, ?_, ?_⟩, by rw [i1]; show hz h + 5 ≤ hz h + 2 + 3; omega, fun i _ z => z.elim, fun s i _ _ _ z => z.elim, ?_, ?_, ?_, fun k => ?_⟩
    · rw [q.1]; exact hkg
    · rw [i4 0 (by decide), hg, ga_si, m5, if_pos ⟨rfl, rfl⟩, hz_nw]
    · rw [(i2 (hz h + 1) (by omega)).1, hg, kd_si, m2, if_pos (by rw [hz_nw])]
    · exact g6 0 (by decide)
    · exact (i5 0 (by decide)).1
    · exact g6 1 (by decide)
    · exact (i5 1 (by decide)).1
    · exact g6 2 (by decide)
    · exact (i5 2 (by decide)).1
    · rw [q.2.1, hgi]; rfl
    · rw [q.2.1, hgi]; rfl
    · rw [q.2.1, hgi]; rfl
    · exact (i5 0 (by decide)).2 k
  generalize hG : mkl g (hz h) [(4, 20, 4), (5, 25, 2), (6, 26, 8)] = G at *
  have eα : ∀ i, iα (hz h) i = hz h + 5 + 12 * i := fun _ => rfl
  obtain ⟨h1, f1, p1, o1, z1⟩ := told44 (n := 2) (j := 0) p9 (Nat.le_refl _) o9 (by omega) (fun z => z) (fun _ z => z) (by rw [i1]; rfl)
  obtain ⟨h2, f2, p2, o2, z2⟩ := told44 (n := 1) (j := 1) p1 (Nat.le_refl _) o1 (by omega) (fun z => z.elim (fun w => w) (fun w => absurd w (by omega))) (fun _ z => z.elim (fun w => w) (fun w => absurd w (by omega))) (by rw [z1])
  refine ⟨h2, ?_, by rw [z2]; rfl, o2, ?_⟩
  · rw [e1, pI_n hk1, Option.bind_some, ← hg, rrK_ok _ _ [(4, 20, 4), (5, 25, 2), (6, 26, 8)] _ (by rw [hkg]) (by omega) rfl (by decide), hG, show X5_init_L44 (hz h) 3 G 0 = _ from f1, f2, X5_init_L44, if_neg (by decide)]
    rfl
  · obtain ⟨a1, a2, a3, a4, a5⟩ := p2
    refine ⟨a1, a2, fun i hi _ => a3 i hi ?_, fun s i u1 u2 u3 _ => a4 s i u1 u2 u3 ?_, a5⟩
    · have : i = 0 ∨ i = 1 := by omega
      rcases this with rfl | rfl
      · exact Or.inl (Or.inr rfl)
      · exact Or.inr rfl
    · have : i = 0 ∨ i = 1 := by omega
      rcases this with rfl | rfl
      · exact Or.inl (Or.inr rfl)
      · exact Or.inr rfl
