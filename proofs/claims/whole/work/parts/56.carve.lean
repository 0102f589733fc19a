/-! the COURT in hand, by itself -/
def Wha (m : Nat) : Nat → Nat → Prop := fun a k => (a = m ∧ 24 ≤ k ∧ k ≤ 29) ∨ a = m + 13 ∨ a = m + 14
theorem hand_raw {h : HA} {m a N : Nat} {C : CR} (hm : MS h m) (hN : gi h (m + 5) 0 = nI N) (hN2 : N ≤ 2) (ha : a < N) (hC : ∀ k, k < 106 → gi h (m + 6) (106 * a + k) = C k) (hw : WF C) :
    ∃ h1, X8_hand h m (nI a) = some (1, h1) ∧ ch (Wha m) h h1 ∧ HT h1 m a C := by
  have hws := hw.1
  have eis : X8_is h m 0 (nI a) = some 1 := by
    unfold X8_is
    rw [if_pos (ms_c hm), ms_r5 hm, Option.bind_some, ldI_0 (ms_k5 hm) (by omega) hN, Option.bind_some, in_rg _ (by omega), rg_n (by omega), Option.bind_some, show bI (decide (a < N)) = 1 by simp [ha, bI]]
    rfl
  unfold X8_hand
  rw [if_pos (ms_c hm), eis, Option.bind_some, if_neg (by decide)]
  have ofk : ∀ (h0 : HA), MS h0 m → gi h0 m 24 = nI a → (∀ k, gi h0 (m + 6) k = gi h (m + 6) k) → ∀ k, k < 106 → X8_of h0 m (nI k) = some (C k) := by
    intro h0 m0 g0 g1 k hk
    unfold X8_of
    rw [if_pos (ms_c m0), ms_r6 m0, ms_I m0, g0]
    simp only [Option.bind_some]
    rw [show (106 : Int32) = nI 106 from rfl, nI_mul, nI_add, ldI_n (ms_k6 m0) (by omega) (by omega), g1, hC k hk]
    rfl
  have stp : ∀ (h0 : HA) (k : Nat) (v : Int32), MS h0 m → MS (si h0 m k v) m := fun h0 k v m0 => (ch_si (W := fun _ _ => True) trivial).ms m0
  have g6 : ∀ (h0 : HA) (k : Nat) (v : Int32), (∀ j, gi h0 (m + 6) j = gi h (m + 6) j) → ∀ j, gi (si h0 m k v) (m + 6) j = gi h (m + 6) j := fun h0 k v g j => by rw [gi_si, if_neg (by omega)]; exact g j
  have g0 : ch (Wha m) h h := ch_rf _ _
  rw [ms_p hm, Option.bind_some]
  have m1 := stp h 24 (nI a) hm
  have q1 := g6 h 24 (nI a) (fun _ => rfl)
  have v1 : gi (si h m 24 (nI a)) m 24 = nI a := by rw [gi_si, if_pos ⟨rfl, rfl⟩]
  have g1 : ch (Wha m) h (si h m 24 (nI a)) := g0.tr (ch_si (Or.inl ⟨rfl, by omega, by omega⟩))
  generalize si h m 24 (nI a) = h1 at *
  rw [show X8_of h1 m 0 = _ from ofk h1 m1 v1 q1 0 (by omega), Option.bind_some, ms_p m1, Option.bind_some, hws.1.2.2]
  have m2 := stp h1 25 (nI (cW C)) m1
  have q2 := g6 h1 25 (nI (cW C)) q1
  have v2 : gi (si h1 m 25 (nI (cW C))) m 24 = nI a := by rw [gi_si, if_neg (by omega)]; exact v1
  have w2 : gi (si h1 m 25 (nI (cW C))) m 25 = nI (cW C) := by rw [gi_si, if_pos ⟨rfl, rfl⟩]
  have g2 : ch (Wha m) h (si h1 m 25 (nI (cW C))) := g1.tr (ch_si (Or.inl ⟨rfl, by omega, by omega⟩))
  generalize si h1 m 25 (nI (cW C)) = h2 at *
  rw [show X8_of h2 m 1 = _ from ofk h2 m2 v2 q2 1 (by omega), Option.bind_some, ms_p m2, Option.bind_some, hws.2.1.2.2]
  have m3 := stp h2 26 (nI (cH C)) m2
  have q3 := g6 h2 26 (nI (cH C)) q2
  have v3 : gi (si h2 m 26 (nI (cH C))) m 24 = nI a := by rw [gi_si, if_neg (by omega)]; exact v2
  have w3 : gi (si h2 m 26 (nI (cH C))) m 25 = nI (cW C) := by rw [gi_si, if_neg (by omega)]; exact w2
  have y3 : gi (si h2 m 26 (nI (cH C))) m 26 = nI (cH C) := by rw [gi_si, if_pos ⟨rfl, rfl⟩]
  have g3 : ch (Wha m) h (si h2 m 26 (nI (cH C))) := g2.tr (ch_si (Or.inl ⟨rfl, by omega, by omega⟩))
  generalize si h2 m 26 (nI (cH C)) = h3 at *
  rw [ms_I m3, Option.bind_some, ms_I m3, Option.bind_some, ms_p m3, Option.bind_some, w3, y3, nI_mul, show cW C * cH C = cF C from rfl]
  have m4 := stp h3 27 (nI (cF C)) m3
  have q4 := g6 h3 27 (nI (cF C)) q3
  have v4 : gi (si h3 m 27 (nI (cF C))) m 24 = nI a := by rw [gi_si, if_neg (by omega)]; exact v3
  have w4 : gi (si h3 m 27 (nI (cF C))) m 25 = nI (cW C) := by rw [gi_si, if_neg (by omega)]; exact w3
  have y4 : gi (si h3 m 27 (nI (cF C))) m 26 = nI (cH C) := by rw [gi_si, if_neg (by omega)]; exact y3
  have z4 : gi (si h3 m 27 (nI (cF C))) m 27 = nI (cF C) := by rw [gi_si, if_pos ⟨rfl, rfl⟩]
  have g4 : ch (Wha m) h (si h3 m 27 (nI (cF C))) := g3.tr (ch_si (Or.inl ⟨rfl, by omega, by omega⟩))
  generalize si h3 m 27 (nI (cF C)) = h4 at *
  rw [show X8_of h4 m 2 = _ from ofk h4 m4 v4 q4 2 (by omega), Option.bind_some, ms_p m4, Option.bind_some, hws.2.2.1.2]
  have m5 := stp h4 28 (nI (cJ C)) m4
  have q5 := g6 h4 28 (nI (cJ C)) q4
  have v5 : gi (si h4 m 28 (nI (cJ C))) m 24 = nI a := by rw [gi_si, if_neg (by omega)]; exact v4
  have w5 : gi (si h4 m 28 (nI (cJ C))) m 25 = nI (cW C) := by rw [gi_si, if_neg (by omega)]; exact w4
  have y5 : gi (si h4 m 28 (nI (cJ C))) m 26 = nI (cH C) := by rw [gi_si, if_neg (by omega)]; exact y4
  have z5 : gi (si h4 m 28 (nI (cJ C))) m 27 = nI (cF C) := by rw [gi_si, if_neg (by omega)]; exact z4
  have u5 : gi (si h4 m 28 (nI (cJ C))) m 28 = nI (cJ C) := by rw [gi_si, if_pos ⟨rfl, rfl⟩]
  have g5 : ch (Wha m) h (si h4 m 28 (nI (cJ C))) := g4.tr (ch_si (Or.inl ⟨rfl, by omega, by omega⟩))
  generalize si h4 m 28 (nI (cJ C)) = h5 at *
  rw [show X8_of h5 m 3 = _ from ofk h5 m5 v5 q5 3 (by omega), Option.bind_some, ms_p m5, Option.bind_some, hws.2.2.2.1.2]
  have m6 := stp h5 29 (nI (cP C)) m5
  have q6 := g6 h5 29 (nI (cP C)) q5
  have hs6 : HS (si h5 m 29 (nI (cP C))) m a C := by
    refine ⟨m6, hws, by omega, ?_, ?_, ?_, ?_, ?_, ?_, fun k hk => ?_⟩
    · rw [gi_si, if_neg (by omega)]; exact v5
    · rw [gi_si, if_neg (by omega)]; exact w5
    · rw [gi_si, if_neg (by omega)]; exact y5
    · rw [gi_si, if_neg (by omega)]; exact z5
    · rw [gi_si, if_neg (by omega)]; exact u5
    · rw [gi_si, if_pos ⟨rfl, rfl⟩]
    · rw [q6]; exact hC k hk
  have g6 : ch (Wha m) h (si h5 m 29 (nI (cP C))) := g5.tr (ch_si (Or.inl ⟨rfl, by omega, by omega⟩))
  generalize si h5 m 29 (nI (cP C)) = h6 at *
  obtain ⟨h7, e7, c7, t7⟩ := hand67 hs6
  refine ⟨h7, ?_, g6.tr (c7.mo (fun a k w => by unfold Whd at w; unfold Wha; omega)), t7⟩
  rw [show X8_hand_L67 m FU h6 0 = _ from e7]; rfl
theorem carved_n {h : HA} {m a N l : Nat} {C : CR} (hN : gi h (m + 5) 0 = nI N) (hN2 : N ≤ 2) (ha : a < N) (ht : HT h m a C) (hw : WF C) (hl10 : l < 10) :
    ∃ h1, X8_carved h m (nI a) (nI l) = some (crv C l, h1) ∧ ch (Wha m) h h1 := by
  have hF := cF_le hw.1
  have hm := ht.1.1
  unfold X8_carved
  rw [if_pos (ms_c hm)]
  obtain ⟨⟨ro, h3⟩, e3, e4, c3⟩ := loop_inv (fun fu k (z : (Int32 × Int32) × HA) => X8_carved_L10 m (nI a) (nI l) fu z.2 z.1.1 z.1.2 (nI k)) (fun k z => z.1 = amn (wl C) (cvv C l) 1000 k ∧ ch (Wha m) h z.2 ∧ HS z.2 m a C)
    (fun z => z.1 = (amn (wl C) (cvv C l) 1000 (cF C)).1 ∧ ch (Wha m) h z.2) (cF C) (by
      rintro k ⟨s, h1⟩ fu hk ⟨j0, j1, j2⟩
      simp only at j0 j1 j2
      subst j0
      have hm1 := j2.1
      simp only
      rw [X8_carved_L10, ms_I hm1, j2.2.2.2.2.2.2.1, Option.bind_some, if_pos (lt_lit hk (by omega)), isWall_n j2 (by omega), Option.bind_some, nI_p1]
      have hv := cvv_lt hw l k
      cases hwk : wl C k with
      | false =>
        refine ⟨(amn (wl C) (cvv C l) 1000 (k + 1), h1), ?_, rfl, j1, j2⟩
        rw [if_pos (by decide), amn, hwk]; rfl
      | true =>
        have hC1 : C (42 + k) = 1 := by unfold wl at hwk; simpa using hwk
        have eix : (106 : Int32) * nI a + 42 + nI k = nI (106 * a + (42 + k)) := by
          rw [show (106 : Int32) = nI 106 from rfl, show (42 : Int32) = nI 42 from rfl, nI_mul, nI_add, nI_add]; congr 1; omega
        have hm2 : MS (si h1 (m + 6) (106 * a + (42 + k)) 0) m := (ch_si (W := fun _ _ => True) trivial).ms hm1
        have hrow : ∀ i, i < 106 → gi (si h1 (m + 6) (106 * a + (42 + k)) 0) (m + 6) (106 * a + i) = cut C k i := by
          intro i hi
          rw [gi_si]
          unfold cut
          by_cases e : i = 42 + k
          · rw [if_pos ⟨rfl, by omega⟩, if_pos e]
          · rw [if_neg (by omega), if_neg e]; exact j2.2.2.2.2.2.2.2.2.2 i hi
        obtain ⟨h4, e4, c4, t4⟩ := hand_raw hm2 (a := a) (N := N) (by rw [gi_si, if_neg (by omega), j1.gi (by unfold Wha; omega)]; exact hN) hN2 ha hrow (cut_WF hw k)
        have hm4 := t4.1.1
        obtain ⟨d1, d2, d3, d4, d5⟩ := cut_d C k
        -- as it was
        have c5 : ch (Wha m) h1 (si h4 (m + 6) (106 * a + (42 + k)) 1) := by
          refine ⟨c4.1, c4.2.1, c4.2.2.1, fun b j => ?_, fun b j => ?_⟩
          · rw [gi_si]
            by_cases e : b = m + 6 ∧ j = 106 * a + (42 + k)
            · right
              rw [if_pos e, e.1, e.2, j2.2.2.2.2.2.2.2.2.2 (42 + k) (by omega), hC1]
            · rw [if_neg e]
              rcases c4.2.2.2.1 b j with w | w
              · exact Or.inl w
              · right; rw [w, gi_si, if_neg e]
          · exact c4.2.2.2.2 b j
        have hs5 : HS (si h4 (m + 6) (106 * a + (42 + k)) 1) m a C := by
          have q := t4.1
          refine ⟨c5.ms hm1, hw.1, j2.2.2.1, ?_, ?_, ?_, ?_, ?_, ?_, fun i hi => ?_⟩
          · rw [gi_si, if_neg (by omega)]; exact q.2.2.2.1
          · rw [gi_si, if_neg (by omega)]; rw [← d1]; exact q.2.2.2.2.1
          · rw [gi_si, if_neg (by omega)]; rw [← d2]; exact q.2.2.2.2.2.1
          · rw [gi_si, if_neg (by omega)]; rw [← d5]; exact q.2.2.2.2.2.2.1
          · rw [gi_si, if_neg (by omega)]; rw [← d3]; exact q.2.2.2.2.2.2.2.1
          · rw [gi_si, if_neg (by omega)]; rw [← d4]; exact q.2.2.2.2.2.2.2.2.1
          · rw [c5.gi (by unfold Wha; omega)]; exact j2.2.2.2.2.2.2.2.2.2 i hi
        refine ⟨(amn (wl C) (cvv C l) 1000 (k + 1), si h4 (m + 6) (106 * a + (42 + k)) 1), ?_, rfl, j1.tr c5, hs5⟩
        rw [if_neg (by decide), ms_r6 hm1, Option.bind_some, eix, asI_n (ms_k6 hm1) (by omega) (by omega), Option.bind_some, e4, Option.bind_some]
        dsimp only
        rw [show X8_blind h4 m 0 (nI l) = some (nI (cvv C l k)) from blind_n (hour := 0) t4 (cut_WF hw k).2.1 (by omega) (by omega), Option.bind_some, ms_r6 hm4, Option.bind_some, asI_n (ms_k6 hm4) (by omega) (by omega), Option.bind_some, amn, hwk]
        dsimp only [lett]
        by_cases e : nI (cvv C l k) < (amn (wl C) (cvv C l) 1000 k).2
        · rw [if_pos e, if_pos e, if_pos (by simp [e])]
        · rw [if_neg e, if_neg e, if_neg (by simp [e])]) (by
      rintro ⟨s, h1⟩ fu ⟨j0, j1, j2⟩
      simp only at j0 j1 j2
      refine ⟨(s.1, h1), ?_, by simp only; rw [j0], j1⟩
      simp only
      rw [X8_carved_L10, ms_I j2.1, j2.2.2.2.2.2.2.1, Option.bind_some, if_neg (nlt_lit (Nat.le_refl _) (by omega))]) ((-1, 1000), h) FU ⟨rfl, ch_rf _ _, ht.1⟩ (FU_gt (by omega))
  simp only at e3 e4 c3
  have hv := fun k => cvv_lt hw l k
  have e5 : (amn (wl C) (cvv C l) 1000 (cF C)).1 = crv C l := by
    unfold crv
    rw [amn_ext (n := cF C) (m := 64) hF (fun i h1 h2 => by
      cases e : wl C i
      · rfl
      · have := hw.1.2.2.2.2.2 i h2 e; omega)]
    rcases amn_2 (p := wl C) hv (cF C) with ⟨q1, q2⟩ | q1
    · rw [q1, q2]
    · rw [q1]
  rw [show X8_carved_L10 m (nI a) (nI l) FU h (-1) 1000 0 = _ from e3, Option.bind_some]
  exact ⟨h3, by rw [e4, e5], c3⟩
theorem m_areas {h : HA} {b : Nat} {D : DT} {α : Nat → Nat} {lm : Nat → Nat → Nat} {im : Nat → Option (Nat × DT)} (hi : IV h b D α lm im) (x l : Int32) : AC b D α lm im (X8_areas h (b + 55) x l) (qareas D x l) := by
  unfold X8_areas qareas
  rw [if_pos (ms_c (iv_ms hi)), ms_p (iv_ms hi), Option.bind_some]
  have hi0 := IV_m0 hi 0 0
  have e9 : X8_in l (-1) 9 = some (bI (decide (l = -1) || rg l 10)) := in_m1 l (n := 10) (by omega)
  rw [e9, Option.bind_some]
  cases hl : (decide (l = -1) || rg l 10) with
  | false => rw [Bool.and_false]; exact ⟨_, rfl, hi0⟩
  | true =>
    rw [if_neg (by decide), Bool.and_true]
    rcases hand_ok hi0 x with ⟨h1, h2⟩ | ⟨a, h1, ha, rfl, hr, e1, i1, t1⟩
    · rw [h2, h1, Option.bind_some]; exact ⟨_, rfl, hi0⟩
    · have hn := (iv_w hi).2.1 0 (by omega)
      rw [e1, hr, tnD (iv_w hi) ha, Option.bind_some, if_pos rfl]
      dsimp only
      rw [if_neg (by decide)]
      by_cases hl1 : l = -1
      · rw [if_pos hl1, if_pos hl1, parts_n t1]; exact ⟨h1, rfl, i1⟩
      · rw [if_neg hl1, if_neg hl1]
        simp only [hl1, decide_false, Bool.false_or] at hl
        obtain ⟨s, hs2, rfl⟩ := (rg_iff (by omega)).mp hl
        have g5 := (iv_m i1).2.2.2.2.1 0 (by omega)
        obtain ⟨h5, e5, c5⟩ := carved_n g5 hn ha t1 ((iv_w hi).2.2.1 a ha) hs2
        rw [e5, tn_nI (show s < 2 ^ 31 by omega)]
        exact ⟨h5, rfl, IV_ch i1 c5 (fun x k w => Sc_m (by unfold Wha at w; omega))⟩
