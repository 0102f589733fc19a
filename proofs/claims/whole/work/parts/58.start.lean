/-! the start -/
def RD (h : HA) (t : Nat) (dl : Nat → Prop) : Prop := kd h t = (4, 0) ∧ ga h t 0 = some (t + 1) ∧ CS h (t + 1) ∧ ga h t 1 = some (t + 7) ∧ kd h (t + 7) = (26, 4) ∧ ga h t 10 = some (t + 8) ∧ kd h (t + 8) = (20, 4) ∧ t + 9 ≤ hz h ∧ ∀ s, 1 ≤ s → s < 4 → dl s → ga h (t + 7) s = some (t + 7 + 2 * s) ∧ LiS h (t + 7 + 2 * s) s ∧ t + 9 + 2 * s ≤ hz h
theorem RD_sm {h h1 : HA} {t : Nat} {dl : Nat → Prop} (rd : RD h t dl) (hz1 : hz h ≤ hz h1) (p : ∀ a, t ≤ a → a < hz h → a ≠ t + 7 → sm h h1 a) (k7 : kd h1 (t + 7) = kd h (t + 7)) (r7 : ∀ s, 1 ≤ s → s < 4 → dl s → ga h1 (t + 7) s = ga h (t + 7) s) : RD h1 t dl := by
  obtain ⟨a1, a2, a3, a4, a5, a6, a7, a8, a9⟩ := rd
  have p0 := p t (by omega) (by omega) (by omega)
  refine ⟨by rw [p0.1]; exact a1, by rw [p0.2.2.2]; exact a2, CS_sm a3 (fun a h1 h2 => p a (by omega) (by omega) (by omega)), by rw [p0.2.2.2]; exact a4, by rw [k7]; exact a5, by rw [p0.2.2.2]; exact a6, by rw [(p (t + 8) (by omega) (by omega) (by omega)).1]; exact a7, by omega, fun s h1 h2 h3 => ?_⟩
  obtain ⟨b1, b2, b3⟩ := a9 s h1 h2 h3
  exact ⟨by rw [r7 s h1 h2 h3]; exact b1, LiS_sm b2 (p _ (by omega) (by omega) (by omega)) (p _ (by omega) (by omega) (by omega)), by omega⟩
theorem add_rl {h0 h : HA} {t s n : Nat} {dl : Nat → Prop} (rd : RD h t dl) (hz0 : hz h0 ≤ t) (o : old h0 h) (hs1 : 1 ≤ s) (hs4 : s < 4) (hd : ¬ dl s) (hh : hz h = t + 7 + 2 * s) :
    ∃ h2, X3_init_L32 t (n + 1) h (nI s) = X3_init_L32 t n h2 (nI (s + 1)) ∧ RD h2 t (fun u => dl u ∨ u = s) ∧ old h0 h2 ∧ hz h2 = t + 7 + 2 * (s + 1) := by
  obtain ⟨h1, e1, z1, o1, ls⟩ := list_new h hs1 hs4
  have k7 : kd h1 (t + 7) = (26, 4) := by rw [(o1.2 (t + 7) (by omega)).1]; exact rd.2.2.2.2.1
  have e2 : asR h1 (t + 7) 26 (nI s) (hz h) = some (sa h1 (t + 7) s (some (hz h))) := by
    unfold asR
    rw [k7, ls.1, inb_n (by omega), nI_clamp (by omega), if_pos ⟨rfl, by simpa using hs4, rfl⟩]
  have p1 : RD h1 t dl := RD_sm rd o1.1 (fun a _ ha _ => o1.2 a ha) (o1.2 _ (by have := rd.2.2.2.2.2.2.2.1; omega)).1 (fun s _ _ _ => (o1.2 _ (by have := rd.2.2.2.2.2.2.2.1; omega)).2.2.2 _)
  have p2 : RD (sa h1 (t + 7) s (some (hz h))) t dl := RD_sm p1 (Nat.le_refl _) (fun a _ _ h3 => sm_sa h3) rfl (fun u _ _ hdu => by rw [ga_sa, if_neg (fun z => hd (by rw [← z.2]; exact hdu))])
  refine ⟨sa h1 (t + 7) s (some (hz h)), ?_, ?_, ?_, by show hz h1 = _; omega⟩
  · rw [X3_init_L32, if_pos (lt4 hs4), gR_n rd.1, rd.2.2.2.1, Option.bind_some, e1, Option.bind_some]
    dsimp only
    rw [e2, Option.bind_some, nI_p1]
  · obtain ⟨a1, a2, a3, a4, a5, a6, a7, a8, a9⟩ := p2
    refine ⟨a1, a2, a3, a4, a5, a6, a7, a8, fun u u1 u2 hdu => ?_⟩
    rcases hdu with hdu | rfl
    · exact a9 u u1 u2 hdu
    · refine ⟨?_, ?_, ?_⟩
      · rw [ga_sa, if_pos ⟨rfl, rfl⟩, hh]
      · rw [← hh]; exact LiS_sm ls (sm_sa (by omega)) (sm_sa (by omega))
      · show t + 9 + 2 * u ≤ hz h1; omega
  · exact ⟨by have := o.1; show hz h0 ≤ hz h1; omega, fun a ha => ((o.2 a ha).tr (o1.2 a (by have := o.1; omega))).tr (sm_sa (by omega))⟩
theorem reader_new (h : HA) : ∃ h1, X3_init (nw h 4 0) (hz h) = some h1 ∧ hz h1 = hz h + 15 ∧ old h h1 ∧ RD h1 (hz h) (fun _ => True) := by
  have hk : kd (nw h 4 0) (hz h) = (4, 0) := by rw [kd_nw, if_pos rfl]
  obtain ⟨c1, e1, z1, o1, cs⟩ := court_new (nw h 4 0)
  rw [hz_nw] at z1 cs e1
  have hk1 : kd c1 (hz h) = (4, 0) := by rw [(o1.2 (hz h) (by rw [hz_nw]; omega)).1]; exact hk
  obtain ⟨g, hg⟩ : ∃ g, g = sa c1 (hz h) 0 (some (hz h + 1)) := ⟨_, rfl⟩
  have hkg : kd g (hz h) = (4, 0) := by rw [hg]; exact hk1
  have hzg : hz g = hz h + 7 := by rw [hg, hz_sa]; omega
  have e2 : X3_init (nw h 4 0) (hz h) = rrK g (hz h) 4 [(1, 26, 4, 4), (10, 20, 4, 4)] (fun h8 => (X3_init_L32 (hz h) 4 h8 1).bind fun h15 => some h15) := by
    show (if (kd (nw h 4 0) (hz h)).1 = 4 then (X0_init (nw (nw h 4 0) 1 0) (hz h + 1)).bind fun h3 => (pR h3 (hz h) 4 0 (some (hz h + 1))).bind fun h4 => rrK h4 (hz h) 4 [(1, 26, 4, 4), (10, 20, 4, 4)] (fun h8 => (X3_init_L32 (hz h) 4 h8 1).bind fun h15 => some h15) else none) = _
    rw [if_pos (by rw [hk]), e1, Option.bind_some, pR_n hk1, Option.bind_some, ← hg]
  obtain ⟨i1, i2, i3, i4, i5, i6⟩ := mkl_ok [(1, 26, 4), (10, 20, 4)] g (show hz h < hz g by omega)
  have og : old h g := by
    have o0 := old_nw h 4 0
    refine ⟨by omega, fun a ha => ((o0.2 a ha).tr (o1.2 a (by rw [hz_nw]; omega))).tr ?_⟩
    rw [hg]; exact sm_sa (by omega)
  have o9 := old_mkl (l := [(1, 26, 4), (10, 20, 4)]) (Nat.le_refl _) (show hz h < hz g by omega) og
  have g6 := i6 (by decide)
  rw [hzg] at i1 i2 i3 i5 g6
  have r9 : RD (mkl g (hz h) [(1, 26, 4), (10, 20, 4)]) (hz h) (fun _ => False) := by
    have q := i2 (hz h) (by omega)
    refine ⟨by rw [q.1]; exact hkg, ?_, ?_, g6 0 (by decide), (i5 0 (by decide)).1, g6 1 (by decide), (i5 1 (by decide)).1, by rw [i1]; show hz h + 9 ≤ hz h + 7 + 2; omega, fun s _ _ z => z.elim⟩
    · rw [i4 0 (by decide), hg, ga_sa, if_pos ⟨rfl, rfl⟩]
    · have cg : CS g (hz h + 1) := by rw [hg]; exact CS_sm cs (fun a h1 h2 => sm_sa (by omega))
      exact CS_sm cg (fun a h1 h2 => by
        obtain ⟨q1, q2, q3⟩ := i2 a (by omega)
        exact ⟨q1, q2, q3, fun k => i3 a k (by omega) (by omega)⟩)
  generalize hG : mkl g (hz h) [(1, 26, 4), (10, 20, 4)] = G at *
  obtain ⟨h1, f1, p1, o1', z1'⟩ := add_rl (n := 3) (s := 1) r9 (Nat.le_refl _) o9 (by omega) (by omega) (fun z => z) (by rw [i1]; rfl)
  obtain ⟨h2, f2, p2, o2, z2⟩ := add_rl (n := 2) (s := 2) p1 (Nat.le_refl _) o1' (by omega) (by omega) (fun z => z.elim (fun w => w) (fun w => absurd w (by omega))) (by rw [z1'])
  obtain ⟨h3, f3, p3, o3, z3⟩ := add_rl (n := 1) (s := 3) p2 (Nat.le_refl _) o2 (by omega) (by omega) (fun z => z.elim (fun z => z.elim (fun w => w) (fun w => absurd w (by omega))) (fun w => absurd w (by omega))) (by rw [z2])
  refine ⟨h3, ?_, by rw [z3], o3, ?_⟩
  · rw [e2, rrK_ok _ _ [(1, 26, 4), (10, 20, 4)] _ (by rw [hkg]) (by omega) rfl (by decide), hG, show X3_init_L32 (hz h) 4 G 1 = _ from f1, f2, f3, X3_init_L32, if_neg (by decide)]
    rfl
  · obtain ⟨a1, a2, a3, a4, a5, a6, a7, a8, a9⟩ := p3
    refine ⟨a1, a2, a3, a4, a5, a6, a7, a8, fun s h1 h2 _ => a9 s h1 h2 ?_⟩
    have : s = 1 ∨ s = 2 ∨ s = 3 := by omega
    rcases this with rfl | rfl | rfl
    · exact Or.inl (Or.inl (Or.inr rfl))
    · exact Or.inl (Or.inr rfl)
    · exact Or.inr rfl
theorem hall_new (h : HA) : ∃ h1, X1_init (nw h 2 0) (hz h) = some h1 ∧ hz h1 = hz h + 6 ∧ old h h1 ∧ kd h1 (hz h) = (2, 0) ∧ (ga h1 (hz h) 3 = some (hz h + 1) ∧ kd h1 (hz h + 1) = (20, 4)) ∧ (ga h1 (hz h) 4 = some (hz h + 2) ∧ kd h1 (hz h + 2) = (20, 4)) ∧ (ga h1 (hz h) 5 = some (hz h + 3) ∧ kd h1 (hz h + 3) = (20, 6)) ∧ (ga h1 (hz h) 6 = some (hz h + 4) ∧ kd h1 (hz h + 4) = (21, 30)) ∧ (ga h1 (hz h) 7 = some (hz h + 5) ∧ kd h1 (hz h + 5) = (20, 30)) := by
  have hk : kd (nw h 2 0) (hz h) = (2, 0) := by rw [kd_nw, if_pos rfl]
  have ht : hz h < hz (nw h 2 0) := by rw [hz_nw]; omega
  obtain ⟨i1, i2, i3, i4, i5, i6⟩ := mkl_ok [(3, 20, 4), (4, 20, 4), (5, 20, 6), (6, 21, 30), (7, 20, 30)] (nw h 2 0) ht
  have e : X1_init (nw h 2 0) (hz h) = some (mkl (nw h 2 0) (hz h) [(3, 20, 4), (4, 20, 4), (5, 20, 6), (6, 21, 30), (7, 20, 30)]) := by
    show (if (kd (nw h 2 0) (hz h)).1 = 2 then rrK (nw h 2 0) (hz h) 2 [(3, 20, 4, 4), (4, 20, 4, 4), (5, 20, 6, 6), (6, 21, 30, 30), (7, 20, 30, 30)] some else none) = _
    rw [if_pos (by rw [hk]), rrK_ok some _ [(3, 20, 4), (4, 20, 4), (5, 20, 6), (6, 21, 30), (7, 20, 30)] _ (by rw [hk]) ht rfl (by decide)]
  have g6 := i6 (by decide)
  rw [hz_nw] at i1 i5 g6
  exact ⟨_, e, by rw [i1]; rfl, old_mkl (Nat.le_refl _) ht (old_nw h 2 0), by rw [(i2 (hz h) ht).1, hk], ⟨g6 0 (by decide), (i5 0 (by decide)).1⟩, ⟨g6 1 (by decide), (i5 1 (by decide)).1⟩, ⟨g6 2 (by decide), (i5 2 (by decide)).1⟩, ⟨g6 3 (by decide), (i5 3 (by decide)).1⟩, ⟨g6 4 (by decide), (i5 4 (by decide)).1⟩⟩
theorem seat_new (h : HA) : ∃ h1, X4_init (nw h 5 0) (hz h) = some h1 ∧ hz h1 = hz h + 3 ∧ old h h1 ∧ kd h1 (hz h) = (5, 0) ∧ (ga h1 (hz h) 0 = some (hz h + 1) ∧ kd h1 (hz h + 1) = (20, 36)) ∧ (ga h1 (hz h) 1 = some (hz h + 2) ∧ kd h1 (hz h + 2) = (20, 64)) := by
  have hk : kd (nw h 5 0) (hz h) = (5, 0) := by rw [kd_nw, if_pos rfl]
  have ht : hz h < hz (nw h 5 0) := by rw [hz_nw]; omega
  obtain ⟨i1, i2, i3, i4, i5, i6⟩ := mkl_ok [(0, 20, 36), (1, 20, 64)] (nw h 5 0) ht
  have e : X4_init (nw h 5 0) (hz h) = some (mkl (nw h 5 0) (hz h) [(0, 20, 36), (1, 20, 64)]) := by
    show (if (kd (nw h 5 0) (hz h)).1 = 5 then rrK (nw h 5 0) (hz h) 5 [(0, 20, 36, 36), (1, 20, 64, 64)] some else none) = _
    rw [if_pos (by rw [hk]), rrK_ok some _ [(0, 20, 36), (1, 20, 64)] _ (by rw [hk]) ht rfl (by decide)]
  have g6 := i6 (by decide)
  rw [hz_nw] at i1 i5 g6
  exact ⟨_, e, by rw [i1]; rfl, old_mkl (Nat.le_refl _) ht (old_nw h 5 0), by rw [(i2 (hz h) ht).1, hk], ⟨g6 0 (by decide), (i5 0 (by decide)).1⟩, ⟨g6 1 (by decide), (i5 1 (by decide)).1⟩⟩
/-- a new walk -/
theorem walk_new (h : HA) : ∃ h1, X6_init (nw h 7 0) (hz h) = some h1 ∧ hz h1 = hz h + 3 ∧ old h h1 ∧ WS h1 (hz h) := by
  have hk : kd (nw h 7 0) (hz h) = (7, 0) := by rw [kd_nw, if_pos rfl]
  have ht : hz h < hz (nw h 7 0) := by rw [hz_nw]; omega
  obtain ⟨i1, i2, i3, i4, i5, i6⟩ := mkl_ok [(0, 21, 3904), (1, 21, 256)] (nw h 7 0) ht
  have e : X6_init (nw h 7 0) (hz h) = some (mkl (nw h 7 0) (hz h) [(0, 21, 3904), (1, 21, 256)]) := by
    show (if (kd (nw h 7 0) (hz h)).1 = 7 then rrK (nw h 7 0) (hz h) 7 [(0, 21, 3904, 3904), (1, 21, 256, 256)] some else none) = _
    rw [if_pos (by rw [hk]), rrK_ok some _ [(0, 21, 3904), (1, 21, 256)] _ (by rw [hk]) ht rfl (by decide)]
  have g6 := i6 (by decide)
  rw [hz_nw] at i1 i5 g6
  exact ⟨_, e, by rw [i1]; rfl, old_mkl (Nat.le_refl _) ht (old_nw h 7 0), by rw [(i2 (hz h) ht).1, hk], ⟨g6 0 (by decide), (i5 0 (by decide)).1⟩, ⟨g6 1 (by decide), (i5 1 (by decide)).1⟩⟩
def mrx : List (Nat × Nat × Int32 × Nat) := [(1, 22, 2400, 2400), (2, 20, 4, 4), (3, 20, 4, 4), (4, 20, 4, 4), (5, 20, 16, 16), (6, 20, 848, 848), (7, 20, 968, 968), (8, 20, 200, 200), (9, 20, 200, 200), (19, 20, 121, 121), (20, 20, 5, 5), (23, 20, 4, 4), (30, 20, 4096, 4096), (31, 20, 64, 64), (32, 20, 16384, 16384), (33, 20, 16384, 16384), (34, 22, 16384, 16384), (35, 20, 16384, 16384), (36, 20, 60, 60), (41, 20, 8, 8), (42, 20, 30, 30), (43, 20, 30, 30), (44, 20, 30, 30), (45, 20, 30, 30), (46, 20, 30, 30), (48, 20, 6, 6), (49, 20, 36, 36), (50, 20, 6, 6), (51, 20, 6, 6), (54, 23, 3, 3)]
theorem model_new (h : HA) : ∃ h1, X8_init (nw h 9 0) (hz h) = some h1 ∧ hz h1 = hz h + 31 ∧ old h h1 ∧ MS h1 (hz h) ∧ ∀ i j, 1 ≤ i → i ≤ 30 → gi h1 (hz h + i) j = if i = 4 ∧ j = 0 then -1 else 0 := by
  have hk : kd (nw h 9 0) (hz h) = (9, 0) := by rw [kd_nw, if_pos rfl]
  have ht : hz h < hz (nw h 9 0) := by rw [hz_nw]; omega
  obtain ⟨i1, i2, i3, i4, i5, i6⟩ := mkl_ok mrw (nw h 9 0) ht
  have e : X8_init (nw h 9 0) (hz h) = (gR (mkl (nw h 9 0) (hz h) mrw) (hz h) 9 4).bind fun x61 => (asI (mkl (nw h 9 0) (hz h) mrw) x61 20 0 (-1)).bind fun h62 => some h62 := by
    have : X8_init (nw h 9 0) (hz h) = (if (kd (nw h 9 0) (hz h)).1 = 9 then rrK (nw h 9 0) (hz h) 9 mrx (fun h60 => (gR h60 (hz h) 9 4).bind fun x61 => (asI h60 x61 20 0 (-1)).bind fun h62 => some h62) else none) := rfl
    rw [this, if_pos (by rw [hk]), rrK_ok _ _ mrw _ (by rw [hk]) ht rfl (by decide)]
  have g6 := i6 (by decide)
  have hl : mrw.length = 30 := rfl
  rw [hl] at i1 i5 g6
  rw [hz_nw] at i1 i5 g6
  have om := old_mkl (l := mrw) (Nat.le_refl _) ht (old_nw h 9 0)
  have hk2 := (i2 (hz h) ht).1
  generalize mkl (nw h 9 0) (hz h) mrw = G at *
  have hm : MS G (hz h) := by
    refine ⟨by rw [hk2, hk], fun i hi => ?_⟩
    have := g6 i hi
    have h2 := (i5 i hi).1
    rw [show hz h + (i + 1) = hz h + 1 + i by omega]
    exact ⟨this, h2⟩
  refine ⟨si G (hz h + 4) 0 (-1), ?_, by rw [hz_si, i1], ⟨by rw [hz_si]; exact om.1, fun a ha => (om.2 a ha).tr (sm_si (by omega))⟩, (ch_si (W := fun _ _ => True) trivial).ms hm, fun i j h1 h2 => ?_⟩
  · rw [e, ms_r4 hm, Option.bind_some, show asI G (hz h + 4) 20 0 (-1) = some (si G (hz h + 4) 0 (-1)) from asI_n (i := 0) (ms_k4 hm) (by omega) (by omega)]; rfl
  · rw [gi_si]
    by_cases e : i = 4 ∧ j = 0
    · rw [if_pos (by omega), if_pos e]
    · rw [if_neg (by omega), if_neg e]
      have := (i5 (i - 1) (by omega)).2 j
      rw [show hz h + 1 + (i - 1) = hz h + i by omega] at this
      exact this
def D0 : DT := ((0, 0, -1), (fun _ => 0), (fun _ => 0), (fun _ _ => 0), (fun _ _ _ => 0))
def α0 (b : Nat) : Nat → Nat := fun j => if j = 0 then b + 6 else if j = 1 then b + 18 else b + 32
def lm0 (b : Nat) : Nat → Nat → Nat := fun s j => if j = 0 then b + 10 + 2 * s else if j = 1 then b + 22 + 2 * s else b + 38 + 2 * s
theorem old_sa {h h1 : HA} {b k : Nat} {v : Option Nat} (o : old h h1) : ∀ a, a < hz h → a ≠ b → sm h (sa h1 b k v) a := fun a ha hb => (o.2 a ha).tr (sm_sa hb)
theorem start_a (h : HA) : ∃ h1 h2, X7_init (nw h 8 0) (hz h) = some h1 ∧ hz h1 = hz h + 55 ∧ X8_init (nw h1 9 0) (hz h1) = some h2 ∧ hz h2 = hz h + 86 ∧ kd h2 (hz h) = (8, 0) ∧
    (∀ k, ga h2 (hz h) k = if k = 4 then some (hz h + 52) else if k = 3 then some (hz h + 46) else if k = 2 then some (hz h + 31) else if k = 1 then some (hz h + 30) else if k = 0 then some (hz h + 1) else none) ∧
    PT h2 (hz h + 1) (fun _ => True) (fun _ _ => True) ∧ (kd h2 (hz h + 30) = (24, 3) ∧ ∀ k, ga h2 (hz h + 30) k = none) ∧ RD h2 (hz h + 31) (fun _ => True) ∧
    (kd h2 (hz h + 46) = (2, 0) ∧ (ga h2 (hz h + 46) 3 = some (hz h + 47) ∧ kd h2 (hz h + 47) = (20, 4)) ∧ (ga h2 (hz h + 46) 4 = some (hz h + 48) ∧ kd h2 (hz h + 48) = (20, 4)) ∧ (ga h2 (hz h + 46) 5 = some (hz h + 49) ∧ kd h2 (hz h + 49) = (20, 6)) ∧ (ga h2 (hz h + 46) 6 = some (hz h + 50) ∧ kd h2 (hz h + 50) = (21, 30)) ∧ (ga h2 (hz h + 46) 7 = some (hz h + 51) ∧ kd h2 (hz h + 51) = (20, 30))) ∧
    (kd h2 (hz h + 52) = (5, 0) ∧ (ga h2 (hz h + 52) 0 = some (hz h + 53) ∧ kd h2 (hz h + 53) = (20, 36)) ∧ (ga h2 (hz h + 52) 1 = some (hz h + 54) ∧ kd h2 (hz h + 54) = (20, 64))) ∧
    MS h2 (hz h + 55) ∧ ∀ i j, 1 ≤ i → i ≤ 30 → gi h2 (hz h + 55 + i) j = if i = 4 ∧ j = 0 then -1 else 0 := by
  obtain ⟨b, hb⟩ : ∃ b, b = hz h := ⟨_, rfl⟩
  rw [← hb]
  obtain ⟨A0, hA0⟩ : ∃ g, g = nw h 8 0 := ⟨_, rfl⟩
  have z0 : hz A0 = b + 1 := by rw [hA0, hz_nw, hb]
  have k0 : kd A0 b = (8, 0) := by rw [hA0, kd_nw, if_pos hb]
  have r0 : ∀ k, ga A0 b k = none := fun k => by rw [hA0, ga_nw, if_pos hb]
  -- Told
  obtain ⟨T1, eT, zT, oT, pT⟩ := told_new A0
  rw [z0] at eT zT pT
  have kT : kd T1 b = (8, 0) := by rw [(oT.2 b (by omega)).1]; exact k0
  have rT : ∀ k, ga T1 b k = none := fun k => by rw [(oT.2 b (by omega)).2.2.2]; exact r0 k
  obtain ⟨A1, hA1⟩ : ∃ g, g = sa T1 b 0 (some (b + 1)) := ⟨_, rfl⟩
  have k1 : kd A1 b = (8, 0) := by rw [hA1]; exact kT
  have z1 : hz A1 = b + 30 := by rw [hA1, hz_sa]; omega
  have s1 : ∀ a, a < hz T1 → a ≠ b → sm T1 A1 a := fun a _ hne => by rw [hA1]; exact sm_sa hne
  -- images
  obtain ⟨m1, m2, m3, m4, m5⟩ := mk_h A1 b 1 24 3 (by omega)
  obtain ⟨A2, hA2⟩ : ∃ g, g = mk A1 b 1 24 3 := ⟨_, rfl⟩
  rw [← hA2] at m1 m2 m3 m4 m5
  have z2 : hz A2 = b + 31 := by omega
  have k2 : kd A2 b = (8, 0) := by rw [m2, if_neg (by omega)]; exact k1
  have s2 : ∀ a, a < hz A1 → a ≠ b → sm A1 A2 a := fun a ha hne => ⟨by rw [m2, if_neg (by omega)], fun k => by rw [m3, if_neg (by omega)], fun k => by rw [m4, if_neg (by omega)], fun k => by rw [m5, if_neg (fun z => hne z.1), if_neg (by omega)]⟩
  -- the reader
  obtain ⟨R1, eR, zR, oR, pR'⟩ := reader_new A2
  rw [z2] at eR zR pR'
  have kR : kd R1 b = (8, 0) := by rw [(oR.2 b (by omega)).1]; exact k2
  obtain ⟨A3, hA3⟩ : ∃ g, g = sa R1 b 2 (some (b + 31)) := ⟨_, rfl⟩
  have k3 : kd A3 b = (8, 0) := by rw [hA3]; exact kR
  have z3 : hz A3 = b + 46 := by rw [hA3, hz_sa]; omega
  have s3 : ∀ a, a < hz A2 → a ≠ b → sm A2 A3 a := fun a ha hne => by rw [hA3]; exact old_sa oR a ha hne
  have s3r : ∀ a, a < hz R1 → a ≠ b → sm R1 A3 a := fun a _ hne => by rw [hA3]; exact sm_sa hne
  -- the hall
  obtain ⟨H1, eH, zH, oH, pH⟩ := hall_new A3
  rw [z3] at eH zH pH
  have kH : kd H1 b = (8, 0) := by rw [(oH.2 b (by omega)).1]; exact k3
  obtain ⟨A4, hA4⟩ : ∃ g, g = sa H1 b 3 (some (b + 46)) := ⟨_, rfl⟩
  have k4 : kd A4 b = (8, 0) := by rw [hA4]; exact kH
  have z4 : hz A4 = b + 52 := by rw [hA4, hz_sa]; omega
  have s4 : ∀ a, a < hz A3 → a ≠ b → sm A3 A4 a := fun a ha hne => by rw [hA4]; exact old_sa oH a ha hne
  have s4r : ∀ a, a < hz H1 → a ≠ b → sm H1 A4 a := fun a _ hne => by rw [hA4]; exact sm_sa hne
  -- the seating
  obtain ⟨S1, eS, zS, oS, pS⟩ := seat_new A4
  rw [z4] at eS zS pS
  have kS : kd S1 b = (8, 0) := by rw [(oS.2 b (by omega)).1]; exact k4
  obtain ⟨A5, hA5⟩ : ∃ g, g = sa S1 b 4 (some (b + 52)) := ⟨_, rfl⟩
  have k5 : kd A5 b = (8, 0) := by rw [hA5]; exact kS
  have z5 : hz A5 = b + 55 := by rw [hA5, hz_sa]; omega
  have s5 : ∀ a, a < hz A4 → a ≠ b → sm A4 A5 a := fun a ha hne => by rw [hA5]; exact old_sa oS a ha hne
  have s5r : ∀ a, a < hz S1 → a ≠ b → sm S1 A5 a := fun a _ hne => by rw [hA5]; exact sm_sa hne
  -- the model
  obtain ⟨M1, eM, zM, oM, pM, gM⟩ := model_new A5
  rw [z5] at eM zM pM gM
  have sM : ∀ a, a < b + 55 → sm A5 M1 a := fun a ha => oM.2 a (by omega)
  -- from each of them to the end
  have f5 : ∀ a, a < b + 55 → a ≠ b → sm S1 M1 a := fun a ha hne => (s5r a (by omega) hne).tr (sM a ha)
  have f4 : ∀ a, a < b + 52 → a ≠ b → sm H1 M1 a := fun a ha hne => ((s4r a (by omega) hne).tr (s5 a (by omega) hne)).tr (sM a (by omega))
  have f3 : ∀ a, a < b + 46 → a ≠ b → sm R1 M1 a := fun a ha hne => (((s3r a (by omega) hne).tr (s4 a (by omega) hne)).tr (s5 a (by omega) hne)).tr (sM a (by omega))
  have f2 : ∀ a, a < b + 31 → a ≠ b → sm A2 M1 a := fun a ha hne => (((s3 a (by omega) hne).tr (s4 a (by omega) hne)).tr (s5 a (by omega) hne)).tr (sM a (by omega))
  have f1 : ∀ a, a < b + 30 → a ≠ b → sm T1 M1 a := fun a ha hne => ((s1 a (by omega) hne).tr (s2 a (by omega) hne)).tr (f2 a (by omega) hne)
  -- the object's own references
  have g5 : ∀ k, ga M1 b k = if k = 4 then some (b + 52) else ga S1 b k := fun k => by
    rw [(sM b (by omega)).2.2.2, hA5, ga_sa]
    by_cases e : k = 4
    · rw [if_pos ⟨rfl, e⟩, if_pos e]
    · rw [if_neg (fun z => e z.2), if_neg e]
  have g4 : ∀ k, ga S1 b k = if k = 3 then some (b + 46) else ga H1 b k := fun k => by
    rw [(oS.2 b (by omega)).2.2.2, hA4, ga_sa]
    by_cases e : k = 3
    · rw [if_pos ⟨rfl, e⟩, if_pos e]
    · rw [if_neg (fun z => e z.2), if_neg e]
  have g3 : ∀ k, ga H1 b k = if k = 2 then some (b + 31) else ga R1 b k := fun k => by
    rw [(oH.2 b (by omega)).2.2.2, hA3, ga_sa]
    by_cases e : k = 2
    · rw [if_pos ⟨rfl, e⟩, if_pos e]
    · rw [if_neg (fun z => e z.2), if_neg e]
  have g2 : ∀ k, ga R1 b k = if k = 1 then some (b + 30) else if k = 0 then some (b + 1) else none := fun k => by
    rw [(oR.2 b (by omega)).2.2.2, m5, z1]
    by_cases e : k = 1
    · rw [if_pos ⟨rfl, e⟩, if_pos e]
    · rw [if_neg (fun z => e z.2), if_neg e, if_neg (by omega), hA1, ga_sa]
      by_cases e2 : k = 0
      · rw [if_pos ⟨rfl, e2⟩, if_pos e2]
      · rw [if_neg (fun z => e2 z.2), if_neg e2]; exact rT k
  have gb : ∀ k, ga M1 b k = if k = 4 then some (b + 52) else if k = 3 then some (b + 46) else if k = 2 then some (b + 31) else if k = 1 then some (b + 30) else if k = 0 then some (b + 1) else none := fun k => by rw [g5, g4, g3, g2]
  obtain ⟨v1, ⟨v2, v3⟩, ⟨v4, v5⟩, ⟨v6, v7⟩, ⟨v8, v9⟩, v10, v11⟩ := pH
  obtain ⟨w1, ⟨w2, w3⟩, w4, w5⟩ := pS
  have ek : ∀ {g : HA} {a : Nat} {p : Nat × Nat}, sm g M1 a → kd g a = p → kd M1 a = p := fun s e => by rw [s.1]; exact e
  have eg : ∀ {g : HA} {a k : Nat} {p : Option Nat}, sm g M1 a → ga g a k = p → ga M1 a k = p := fun s e => by rw [s.2.2.2]; exact e
  have q46 := f4 (b + 46) (by omega) (by omega)
  have q52 := f5 (b + 52) (by omega) (by omega)
  refine ⟨A5, M1, ?_, z5, by rw [z5]; exact eM, by omega, by rw [(sM b (by omega)).1]; exact k5, gb, ?_, ?_, ?_, ?_, ?_, pM, gM⟩
  · have e0 : X7_init A0 b = (if (kd A0 b).1 = 8 then (X5_init (nw A0 6 0) (hz A0)).bind fun h3 => (pR h3 b 8 0 (some (hz A0))).bind fun h4 => (nA h4 24 3 3).bind fun h5 => (pR h5 b 8 1 (some (hz h4))).bind fun h6 => (X3_init (nw h6 4 0) (hz h6)).bind fun h9 => (pR h9 b 8 2 (some (hz h6))).bind fun h10 => (X1_init (nw h10 2 0) (hz h10)).bind fun h13 => (pR h13 b 8 3 (some (hz h10))).bind fun h14 => (X4_init (nw h14 5 0) (hz h14)).bind fun h17 => (pR h17 b 8 4 (some (hz h14))).bind fun h18 => some h18 else none) := rfl
    have hkn : kd (nw A1 24 3) b = (8, 0) := by rw [kd_nw, if_neg (by omega)]; exact k1
    rw [← hA0, e0, if_pos (by rw [k0]), z0, eT, Option.bind_some, pR_n kT, Option.bind_some, ← hA1, show nA A1 24 3 3 = some (nw A1 24 3) from nA_n (n := 3) (by omega) (by omega), Option.bind_some, pR_n hkn, Option.bind_some, show sa (nw A1 24 3) b 1 (some (hz A1)) = A2 from hA2.symm, z2, eR, Option.bind_some, pR_n kR, Option.bind_some, ← hA3, z3, eH, Option.bind_some, pR_n kH, Option.bind_some, ← hA4, z4, eS, Option.bind_some, pR_n kS, Option.bind_some, ← hA5]
  · exact PT_sm pT (by omega) (fun a h1 h2 _ _ => f1 a (by omega) (by omega)) (f1 _ (by omega) (by omega)).1 (f1 _ (by omega) (by omega)).1 (fun i _ _ => (f1 _ (by omega) (by omega)).2.2.2 _) (fun s i _ _ _ _ => (f1 _ (by omega) (by omega)).2.2.2 _)
  · refine ⟨ek (f2 (b + 30) (by omega) (by omega)) (by rw [m2, if_pos (by omega)]), fun k => ?_⟩
    rw [(f2 (b + 30) (by omega) (by omega)).2.2.2, m5, if_neg (by omega), if_pos (by omega)]
  · exact RD_sm pR' (by omega) (fun a h1 h2 _ => f3 a (by omega) (by omega)) (f3 _ (by omega) (by omega)).1 (fun s _ _ _ => (f3 _ (by omega) (by omega)).2.2.2 _)
  · exact ⟨ek q46 v1, ⟨eg q46 v2, ek (f4 (b + 47) (by omega) (by omega)) v3⟩, ⟨eg q46 v4, ek (f4 (b + 48) (by omega) (by omega)) v5⟩, ⟨eg q46 v6, ek (f4 (b + 49) (by omega) (by omega)) v7⟩, ⟨eg q46 v8, ek (f4 (b + 50) (by omega) (by omega)) v9⟩, ⟨eg q46 v10, ek (f4 (b + 51) (by omega) (by omega)) v11⟩⟩
  · exact ⟨ek q52 w1, ⟨eg q52 w2, ek (f5 (b + 53) (by omega) (by omega)) w3⟩, ⟨eg q52 w4, ek (f5 (b + 54) (by omega) (by omega)) w5⟩⟩
theorem α0_inj (b i j : Nat) (hi : i < 3) (hj : j < 3) (e : α0 b i = α0 b j) : i = j := by
  unfold α0 at e
  repeat' split at e
  all_goals omega
theorem lm0_inj (b s i j : Nat) (hi : i < 3) (hj : j < 3) (e : lm0 b s i = lm0 b s j) : i = j := by
  unfold lm0 at e
  repeat' split at e
  all_goals omega
theorem start_fx {M1 : HA} {b : Nat} (k5 : kd M1 b = (8, 0)) (gb : ∀ k, ga M1 b k = if k = 4 then some (b + 52) else if k = 3 then some (b + 46) else if k = 2 then some (b + 31) else if k = 1 then some (b + 30) else if k = 0 then some (b + 1) else none) (hto : ToS M1 (b + 1)) (k30 : kd M1 (b + 30) = (24, 3)) {dl : Nat → Prop} (rd : RD M1 (b + 31) dl)
    (hl : kd M1 (b + 46) = (2, 0) ∧ (ga M1 (b + 46) 3 = some (b + 47) ∧ kd M1 (b + 47) = (20, 4)) ∧ (ga M1 (b + 46) 4 = some (b + 48) ∧ kd M1 (b + 48) = (20, 4)) ∧ (ga M1 (b + 46) 5 = some (b + 49) ∧ kd M1 (b + 49) = (20, 6)) ∧ (ga M1 (b + 46) 6 = some (b + 50) ∧ kd M1 (b + 50) = (21, 30)) ∧ (ga M1 (b + 46) 7 = some (b + 51) ∧ kd M1 (b + 51) = (20, 30)))
    (st : kd M1 (b + 52) = (5, 0) ∧ (ga M1 (b + 52) 0 = some (b + 53) ∧ kd M1 (b + 53) = (20, 36)) ∧ (ga M1 (b + 52) 1 = some (b + 54) ∧ kd M1 (b + 54) = (20, 64))) (hm : MS M1 (b + 55)) (hz1 : b + 86 ≤ hz M1) : FX M1 b := by
  obtain ⟨u1, u2, u3, u4, u5, u6, u7, u8, u9⟩ := rd
  obtain ⟨v1, ⟨v2, v3⟩, ⟨v4, v5⟩, ⟨v6, v7⟩, ⟨v8, v9⟩, v10, v11⟩ := hl
  obtain ⟨w1, ⟨w2, w3⟩, w4, w5⟩ := st
  refine ⟨?_, ?_, hto, hm, hz1⟩
  · intro x hx
    simp only [fxk, List.mem_cons, List.not_mem_nil, or_false] at hx
    rcases hx with rfl | rfl | rfl | rfl | rfl | rfl | rfl | rfl | rfl | rfl | rfl | rfl | rfl | rfl
    · exact k5
    · exact k30
    · exact u1
    · exact u5
    · exact u7
    · exact v1
    · exact v3
    · exact v5
    · exact v7
    · exact v9
    · exact v11
    · exact w1
    · exact w3
    · exact w5
  · intro x hx
    simp only [fxr, List.mem_cons, List.not_mem_nil, or_false] at hx
    rcases hx with rfl | rfl | rfl | rfl | rfl | rfl | rfl | rfl | rfl | rfl | rfl | rfl | rfl | rfl
    · exact gb 0
    · exact gb 1
    · exact gb 2
    · exact gb 3
    · exact gb 4
    · exact u4
    · exact u6
    · exact v2
    · exact v4
    · exact v6
    · exact v8
    · exact v10
    · exact w2
    · exact w4
theorem start_iv (h : HA) : ∃ h1 h2, X7_init (nw h 8 0) (hz h) = some h1 ∧ hz h1 = hz h + 55 ∧ X8_init (nw h1 9 0) (hz h1) = some h2 ∧ IV h2 (hz h) D0 (α0 (hz h)) (lm0 (hz h)) (fun _ => none) := by
  obtain ⟨A5, M1, e1, z1, e2, z2, k5, gb, pt, ⟨k30, g30⟩, rd, hl, st, hm, gM⟩ := start_a h
  refine ⟨A5, M1, e1, z1, e2, ?_⟩
  clear e1 z1 e2
  generalize hz h = b at *
  have hfx := start_fx k5 gb pt.1 k30 rd hl st hm (by omega)
  obtain ⟨t1, t2, t3, t4, t5, t6, t7, t8⟩ := pt
  obtain ⟨u1, u2, u3, u4, u5, u6, u7, u8, u9⟩ := rd
  have eα : ∀ i, iα (b + 1) i = b + 1 + 5 + 12 * i := fun _ => rfl
  have el : ∀ s i, il (b + 1) s i = b + 1 + 9 + 2 * s + 12 * i := fun _ _ => rfl
  have hcs : ∀ j, j < 3 → CS M1 (α0 b j) ∧ b ≤ α0 b j ∧ α0 b j + 6 ≤ b + 46 := by
    intro j hj
    have : j = 0 ∨ j = 1 ∨ j = 2 := by omega
    rcases this with rfl | rfl | rfl
    · have e0 := eα 0
      rw [show α0 b 0 = iα (b + 1) 0 from rfl]
      exact ⟨(t3 0 (by omega) trivial).2.2, by omega, by omega⟩
    · have e0 := eα 1
      rw [show α0 b 1 = iα (b + 1) 1 from rfl]
      exact ⟨(t3 1 (by omega) trivial).2.2, by omega, by omega⟩
    · rw [show α0 b 2 = b + 31 + 1 from rfl]
      exact ⟨u3, by omega, by omega⟩
  have hls : ∀ s j, 1 ≤ s → s < 4 → j < 3 → LiS M1 (lm0 b s j) s ∧ b ≤ lm0 b s j ∧ lm0 b s j + 2 ≤ b + 46 := by
    intro s j h1 h2 hj
    have : j = 0 ∨ j = 1 ∨ j = 2 := by omega
    rcases this with rfl | rfl | rfl
    · have e0 : lm0 b s 0 = il (b + 1) s 0 := by show b + 10 + 2 * s = b + 1 + 9 + 2 * s + 12 * 0; omega
      have e1 := el s 0
      rw [e0]
      exact ⟨(t4 s 0 h1 h2 (by omega) trivial).2.2, by omega, by omega⟩
    · have e0 : lm0 b s 1 = il (b + 1) s 1 := by show b + 22 + 2 * s = b + 1 + 9 + 2 * s + 12 * 1; omega
      have e1 := el s 1
      rw [e0]
      exact ⟨(t4 s 1 h1 h2 (by omega) trivial).2.2, by omega, by omega⟩
    · have e0 : lm0 b s 2 = b + 31 + 7 + 2 * s := by show b + 38 + 2 * s = _; omega
      rw [e0]
      exact ⟨(u9 s h1 h2 trivial).2.1, by omega, by omega⟩
  refine ⟨hfx, hcs, fun i j hi hj e => α0_inj b i j hi hj e, hls, fun s i j _ _ hi hj e => lm0_inj b s i j hi hj e, ?_, u2, ?_, ?_, ?_, fun k hk => ?_, ?_, Or.inl (gb 5)⟩
  · refine ⟨t5, t6, t7, fun f hf => absurd hf (Nat.not_lt_zero f), fun s _ => t8 s, fun j hj => ?_, fun s j h1 h2 hj => ?_, fun j hj => absurd hj (Nat.not_lt_zero j), fun s j _ _ hj => absurd hj (Nat.not_lt_zero j)⟩
    · rw [(t3 j hj trivial).1]
      have : j = 0 ∨ j = 1 := by omega
      rcases this with rfl | rfl <;> rfl
    · rw [(t4 s j h1 h2 hj trivial).1]
      have : j = 0 ∨ j = 1 := by omega
      rcases this with rfl | rfl
      · show some (b + 1 + 9 + 2 * s + 12 * 0) = some (b + 10 + 2 * s); rw [show b + 1 + 9 + 2 * s + 12 * 0 = b + 10 + 2 * s by omega]
      · show some (b + 1 + 9 + 2 * s + 12 * 1) = some (b + 22 + 2 * s); rw [show b + 1 + 9 + 2 * s + 12 * 1 = b + 22 + 2 * s by omega]
  · intro s h1 h2
    have := (u9 s h1 h2 trivial).1
    rw [show b + 31 + 7 = b + 38 from rfl] at this
    rw [this]; rfl
  · refine ⟨?_, ?_, ?_, fun f hf => absurd hf (Nat.not_lt_zero f), fun s _ => ?_, fun j k hj _ => absurd hj (Nat.not_lt_zero j), fun s j k _ _ hj _ => absurd hj (Nat.not_lt_zero j)⟩
    · exact gM 2 0 (by omega) (by omega)
    · exact gM 3 0 (by omega) (by omega)
    · exact gM 4 0 (by omega) (by omega)
    · rw [gM 5 _ (by omega) (by omega), if_neg (by omega)]; rfl
  · exact ⟨by show 0 ≤ 600; omega, fun s _ => by show 0 ≤ 2; omega, fun j hj => absurd hj (Nat.not_lt_zero j), fun s j _ _ hj => absurd hj (Nat.not_lt_zero j), fun f hf => absurd hf (Nat.not_lt_zero f)⟩
  · show ga M1 (b + 30) k = none ∧ gi M1 (b + 85) k = 0
    refine ⟨g30 k, ?_⟩
    have := gM 30 k (by omega) (by omega)
    rw [show b + 55 + 30 = b + 85 from rfl] at this
    rw [this, if_neg (by omega)]
  · intro i j t D D' _ _ h1 _; simp at h1
