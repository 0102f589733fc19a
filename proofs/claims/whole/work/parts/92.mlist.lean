/-! TEXT: the model reads a line of a list -/
theorem kp_row {f : Nat} {v : Nat → Int32} {C : CR} {N : Nat} {rd : Nat → Int32} (hf : f < 12) (h6 : 6 ≤ f) (eN : N = tn (C 0)) (hN : N ≤ lmx (fsr f)) (hr : ∀ k, k < lwd (fsr f) → rd k = rowv f v k) (i : Nat) :
    (if N = lmx (fsr f) then C i else if i = 0 then nI (N + 1) else if 1 + lwd (fsr f) * N ≤ i ∧ i < 1 + lwd (fsr f) * N + lwd (fsr f) then rd (i - (1 + lwd (fsr f) * N)) else C i) = kpC f v C i := by
  unfold kpC tmy
  rw [if_neg (show ¬ (f = 2 ∨ f = 3) by omega), if_neg (show ¬ f = 4 by omega), if_neg (show ¬ f < 6 by omega), ← eN]
  by_cases e : N = lmx (fsr f)
  · rw [if_pos e, decide_eq_true (show lmx (fsr f) ≤ N by omega), if_pos rfl]
  · rw [if_neg e, decide_eq_false (show ¬ lmx (fsr f) ≤ N by omega), if_neg (show ¬ (false = true) by decide), if_neg (show ¬ f = 0 by omega), if_neg (show ¬ f = 1 by omega), if_neg (show ¬ (f = 2 ∨ f = 3) by omega), if_neg (show ¬ f = 4 by omega), if_neg (show ¬ f = 5 by omega)]
    by_cases e0 : i = 0
    · rw [if_pos e0, if_pos e0]
    · rw [if_neg e0, if_neg e0]
      by_cases e1 : 1 + lwd (fsr f) * N ≤ i ∧ i < 1 + lwd (fsr f) * N + lwd (fsr f)
      · rw [if_pos e1, if_pos e1]; exact hr _ (by omega)
      · rw [if_neg e1, if_neg e1]
theorem kGT {f : Nat} (h : f ≠ 5) (v : Nat → Int32) (G : Nat → Bool) (T : Nat → Int32) : kG f v G = G ∧ kT f v T = T := ⟨by unfold kG; rw [if_neg (fun z => h z.1)], by unfold kT; rw [if_neg (fun z => h z.1)]⟩
/-- the row kept by the model -/
theorem keepR_n {h h0 : HA} {m n f : Nat} {B : Nat → Nat} {C : CR} {G : Nat → Bool} {T : Nat → Int32} {ρ : ZS} {v : Nat → Int32} (hf : f < 12) (h6 : 6 ≤ f) (y : MY h m n B C G T ρ) (e : ch (Wty m) h0 h) (hN : tn (C 0) ≤ lmx (fsr f)) (hC : C 0 = nI (tn (C 0))) (hr : ∀ k, k < lwd (fsr f) → gi h (m + 11) k = rowv f v k) :
    ∃ h1, X8_keep h m 0 1 (nI (lwd (fsr f))) (nI (lmx (fsr f))) = some h1 ∧ ch (Wty m) h0 h1 ∧ MY h1 m n B (kpC f v C) (kG f v G) (kT f v T) ρ := by
  obtain ⟨s1, s4, hlw⟩ := fhd_lw f hf h6
  obtain ⟨m1, m2, m3, m4⟩ := lmw _ s1 s4
  have hb : 1 + lwd (fsr f) * lmx (fsr f) ≤ 121 := by
    have : ∀ f, f < 12 → 6 ≤ f → 1 + lwd (fsr f) * lmx (fsr f) ≤ 121 := by decide +kernel
    exact this f hf h6
  obtain ⟨h7, f7, c7, g7⟩ := keep_n (ci := 0) (fr := 1) (wd := lwd (fsr f)) (most := lmx (fsr f)) y.1.1.1 y.2.2.1 (by omega) hb hC hN (by omega) (by omega)
  refine ⟨h7, f7, e.tr (c7.mo fun a k w => Or.inr (Or.inl w)), ?_⟩
  rw [(kGT (by omega) _ G T).1, (kGT (by omega) _ G T).2]
  refine MY_told y c7 (fun i hi => ?_)
  rw [g7 i hi]
  exact kp_row hf h6 rfl hN hr i
theorem rd_si (h : HA) (a k : Nat) (v : Int32) (j : Nat) : gi (si h a k v) a j = if j = k then v else gi h a j := by
  rw [gi_si]
  by_cases e : j = k
  · rw [if_pos ⟨rfl, e⟩, if_pos e]
  · rw [if_neg (fun z => e z.2), if_neg e]
/-- what holds of a list's line at its head -/
theorem hd_n {B : Nat → Nat} {n f : Nat} {σ : ZS} (hf : f < 12) (h6 : 6 ≤ f) (hP : PJ B n (fsr f) σ) : zC σ 0 = nI (tn (zC σ 0)) ∧ tn (zC σ 0) ≤ lmx (fsr f) ∧ tmy f (zC σ) = decide (lmx (fsr f) ≤ tn (zC σ 0)) := by
  obtain ⟨s1, s4, hlw⟩ := fhd_lw f hf h6
  obtain ⟨q1, q2⟩ := hP.2.2.2.2 s1
  refine ⟨q1, q2, ?_⟩
  unfold tmy
  rw [if_neg (show ¬ (f = 2 ∨ f = 3) by omega), if_neg (show ¬ f = 4 by omega), if_neg (show ¬ f < 6 by omega)]
theorem trial6_n {h : HA} {m n : Nat} {B : Nat → Nat} {σ : ZS} (y : MZ h m n B σ) (hP : PJ B n 1 σ) (hk : tK B n (zi σ) ≠ 0) : ML h m n B 6 σ (X8_trialLine h m 26479 (nI (tB B n (zi σ)))) := by
  obtain ⟨q1, q2, q3⟩ := hd_n (f := 6) (by omega) (by omega) hP
  obtain ⟨g1, g2, f1, f2, c2, y2, P2⟩ := start_n (f := 6) (ci := 0) (most := 30) y hP hk (by omega) q1 q2 (by omega) q3
  refine ML_of (by omega) ?_
  show match slots B n 6 2 0 (snM B n 6 σ) (fun _ => -1) with | .inl q => _ | .inr z => _
  have msy : MS h m := y.1.1.1
  have ms2 := y2.1.1.1
  obtain ⟨b1, hb1⟩ : ∃ b1, b1 = si g2 (m + 11) 0 0 := ⟨_, rfl⟩
  obtain ⟨b2, hb2⟩ : ∃ b2, b2 = si b1 (m + 11) 1 (-1) := ⟨_, rfl⟩
  obtain ⟨b3, hb3⟩ : ∃ b3, b3 = si b2 (m + 11) 2 (-1) := ⟨_, rfl⟩
  obtain ⟨b4, hb4⟩ : ∃ b4, b4 = si b3 (m + 11) 3 (-1) := ⟨_, rfl⟩
  have d1 : ch (fun a _ => a = m + 11) g2 b1 := by rw [hb1]; exact ch_si rfl
  have d2 : ch (fun a _ => a = m + 11) g2 b2 := by rw [hb2]; exact d1.tr (ch_si rfl)
  have d3 : ch (fun a _ => a = m + 11) g2 b3 := by rw [hb3]; exact d2.tr (ch_si rfl)
  have d4 : ch (fun a _ => a = m + 11) g2 b4 := by rw [hb4]; exact d3.tr (ch_si rfl)
  have yb := MY_row y2 d4
  have eb : ch (Wty m) h b4 := c2.tr (d4.mo fun a k w => Or.inr (Or.inr (Or.inl w)))
  have rw0 : ∀ j, gi b4 (m + 11) j = if j = 3 then -1 else if j = 2 then -1 else if j = 1 then -1 else if j = 0 then 0 else gi g2 (m + 11) j := fun j => by
    rw [hb4, rd_si, hb3, rd_si, hb2, rd_si, hb1, rd_si]
  unfold X8_trialLine
  rw [if_pos (ms_c msy)]
  dsimp only [lett]
  repeat rw [if_pos (show (26479 : Int64) = 26479 from rfl)]
  repeat rw [if_neg (show ¬ (26479 : Int64) = 7561593 by decide +kernel)]
  repeat rw [if_neg (show ¬ (26479 : Int64) = 2002872692 by decide +kernel)]
  rw [Option.bind_some]
  dsimp only
  rw [show X8_full h m 0 30 (nI (tB B n (zi σ))) = _ from f1, Option.bind_some, f2, Option.bind_some, ms_r20 ms2, Option.bind_some, show asI g2 (m + 11) 20 0 0 = _ from asI_n (i := 0) (ms_k20 ms2) (by omega) (by omega), Option.bind_some, ← hb1, ms_r20 (d1.ms ms2), Option.bind_some, show asI b1 (m + 11) 20 1 (-1) = _ from asI_n (i := 1) (ms_k20 (d1.ms ms2)) (by omega) (by omega), Option.bind_some, ← hb2, ms_r20 (d2.ms ms2), Option.bind_some, show asI b2 (m + 11) 20 2 (-1) = _ from asI_n (i := 2) (ms_k20 (d2.ms ms2)) (by omega) (by omega), Option.bind_some, ← hb3, ms_r20 (d3.ms ms2), Option.bind_some, show asI b3 (m + 11) 20 3 (-1) = _ from asI_n (i := 3) (ms_k20 (d3.ms ms2)) (by omega) (by omega), Option.bind_some, ← hb4]
  repeat rw [if_neg (show ¬ (26479 : Int64) = 2002872692 by decide +kernel)]
  have t0 := takeN (j := 1) (k := 0) (lo := 0) (hi := 3) yb P2 (by omega) (Or.inl (by decide)) (in_bd (g := 3) (by decide) (by omega) (by omega)) (by decide)
  cases s0 : slot B n 6 0 (snM B n 6 σ) with
  | inl q =>
    rw [s0] at t0
    obtain ⟨h9, f9, c9, g9⟩ := t0
    rw [slots_l s0]
    dsimp only
    rw [show X8_take b4 m 1 0 3 = _ from f9, Option.bind_some]
    dsimp only
    rw [if_pos rfl, Option.bind_some]
    exact ⟨h9, rfl, eb.tr c9, g9⟩
  | inr z0 =>
    rw [s0] at t0
    obtain ⟨a0, f9, c9, y0, ⟨r0, u0⟩, w0, P0⟩ := t0
    rw [slots_r (k1 := 1) rfl s0, show X8_take b4 m 1 0 3 = _ from f9, Option.bind_some]
    dsimp only
    have e0 : ch (Wty m) h a0 := eb.tr c9
    rw [if_neg (show ¬ (1 : Int32) = 0 by decide)]
    have t1 := takeN (j := 2) (k := 1) (lo := 0) (hi := 3) y0 P0 (by omega) (Or.inl (by decide)) (in_bd (g := 3) (by decide) (by omega) (by omega)) (by decide)
    cases s1 : slot B n 6 1 z0.1 with
    | inl q =>
      rw [s1] at t1
      obtain ⟨h9, f9, c9, g9⟩ := t1
      rw [slots_l s1]
      dsimp only
      rw [show X8_take a0 m 2 0 3 = _ from f9, Option.bind_some]
      dsimp only
      rw [if_pos rfl, Option.bind_some]
      exact ⟨h9, rfl, e0.tr c9, g9⟩
    | inr z1 =>
      rw [s1] at t1
      obtain ⟨a1, f9, c9, y1, ⟨r1, u1⟩, w1, P1⟩ := t1
      rw [slots_r (k1 := 2) rfl s1, show X8_take a0 m 2 0 3 = _ from f9, Option.bind_some]
      dsimp only
      have e1 : ch (Wty m) h a1 := e0.tr c9
      rw [if_neg (show ¬ (1 : Int32) = 0 by decide), Option.bind_some]
      dsimp only
      repeat rw [if_neg (show ¬ (26479 : Int64) = 7561593 by decide +kernel)]
      rw [slots]
      dsimp only
      have row : ∀ k, k < lwd (fsr 6) → gi a1 (m + 11) k = rowv 6 (iset (iset (fun _ => -1) 0 z0.2) 1 z1.2) k := by
        intro k hk
        have hk4 : k < 4 := hk
        have k4 : k = 0 ∨ k = 1 ∨ k = 2 ∨ k = 3 := by omega
        unfold rowv
        rw [if_neg (show ¬ 6 = 11 by omega)]
        rcases k4 with e | e | e | e
        · subst e; rw [if_pos rfl]; rw [u1 0 (by omega), u0 0 (by omega), rw0]; rfl
        · subst e; rw [if_neg (by omega)]; rw [u1 1 (by omega), r0, iset_ne (by omega), iset_eq]
        · subst e; rw [if_neg (by omega)]; rw [r1, iset_eq]
        · subst e; rw [if_neg (by omega)]; rw [u1 3 (by omega), u0 3 (by omega), rw0, iset_ne (by omega), iset_ne (by omega)]; rfl
      obtain ⟨h7, f7, c7, y7⟩ := keepR_n (f := 6) (v := (iset (iset (fun _ => -1) 0 z0.2) 1 z1.2)) (by omega) (by omega) y1 e1 q2 q1 row
      rw [show X8_keep a1 m 0 1 4 30 = _ from f7, Option.bind_some]
      exact ⟨h7, rfl, c7, y7⟩
theorem trial7_n {h : HA} {m n : Nat} {B : Nat → Nat} {σ : ZS} (y : MZ h m n B σ) (hP : PJ B n 1 σ) (hk : tK B n (zi σ) ≠ 0) : ML h m n B 7 σ (X8_trialLine h m 7561593 (nI (tB B n (zi σ)))) := by
  obtain ⟨q1, q2, q3⟩ := hd_n (f := 7) (by omega) (by omega) hP
  obtain ⟨g1, g2, f1, f2, c2, y2, P2⟩ := start_n (f := 7) (ci := 0) (most := 30) y hP hk (by omega) q1 q2 (by omega) q3
  refine ML_of (by omega) ?_
  show match slots B n 7 3 0 (snM B n 7 σ) (fun _ => -1) with | .inl q => _ | .inr z => _
  have msy : MS h m := y.1.1.1
  have ms2 := y2.1.1.1
  obtain ⟨b1, hb1⟩ : ∃ b1, b1 = si g2 (m + 11) 0 1 := ⟨_, rfl⟩
  obtain ⟨b2, hb2⟩ : ∃ b2, b2 = si b1 (m + 11) 1 (-1) := ⟨_, rfl⟩
  obtain ⟨b3, hb3⟩ : ∃ b3, b3 = si b2 (m + 11) 2 (-1) := ⟨_, rfl⟩
  obtain ⟨b4, hb4⟩ : ∃ b4, b4 = si b3 (m + 11) 3 (-1) := ⟨_, rfl⟩
  have d1 : ch (fun a _ => a = m + 11) g2 b1 := by rw [hb1]; exact ch_si rfl
  have d2 : ch (fun a _ => a = m + 11) g2 b2 := by rw [hb2]; exact d1.tr (ch_si rfl)
  have d3 : ch (fun a _ => a = m + 11) g2 b3 := by rw [hb3]; exact d2.tr (ch_si rfl)
  have d4 : ch (fun a _ => a = m + 11) g2 b4 := by rw [hb4]; exact d3.tr (ch_si rfl)
  have yb := MY_row y2 d4
  have eb : ch (Wty m) h b4 := c2.tr (d4.mo fun a k w => Or.inr (Or.inr (Or.inl w)))
  have rw0 : ∀ j, gi b4 (m + 11) j = if j = 3 then -1 else if j = 2 then -1 else if j = 1 then -1 else if j = 0 then 1 else gi g2 (m + 11) j := fun j => by
    rw [hb4, rd_si, hb3, rd_si, hb2, rd_si, hb1, rd_si]
  unfold X8_trialLine
  rw [if_pos (ms_c msy)]
  dsimp only [lett]
  repeat rw [if_neg (show ¬ (7561593 : Int64) = 26479 by decide +kernel)]
  repeat rw [if_pos (show (7561593 : Int64) = 7561593 from rfl)]
  repeat rw [if_neg (show ¬ (7561593 : Int64) = 2002872692 by decide +kernel)]
  rw [Option.bind_some]
  dsimp only
  rw [show X8_full h m 0 30 (nI (tB B n (zi σ))) = _ from f1, Option.bind_some, f2, Option.bind_some, ms_r20 ms2, Option.bind_some, show asI g2 (m + 11) 20 0 1 = _ from asI_n (i := 0) (ms_k20 ms2) (by omega) (by omega), Option.bind_some, ← hb1, ms_r20 (d1.ms ms2), Option.bind_some, show asI b1 (m + 11) 20 1 (-1) = _ from asI_n (i := 1) (ms_k20 (d1.ms ms2)) (by omega) (by omega), Option.bind_some, ← hb2, ms_r20 (d2.ms ms2), Option.bind_some, show asI b2 (m + 11) 20 2 (-1) = _ from asI_n (i := 2) (ms_k20 (d2.ms ms2)) (by omega) (by omega), Option.bind_some, ← hb3, ms_r20 (d3.ms ms2), Option.bind_some, show asI b3 (m + 11) 20 3 (-1) = _ from asI_n (i := 3) (ms_k20 (d3.ms ms2)) (by omega) (by omega), Option.bind_some, ← hb4]
  repeat rw [if_neg (show ¬ (7561593 : Int64) = 2002872692 by decide +kernel)]
  have t0 := takeN (j := 1) (k := 0) (lo := 0) (hi := 3) yb P2 (by omega) (Or.inl (by decide)) (in_bd (g := 3) (by decide) (by omega) (by omega)) (by decide)
  cases s0 : slot B n 7 0 (snM B n 7 σ) with
  | inl q =>
    rw [s0] at t0
    obtain ⟨h9, f9, c9, g9⟩ := t0
    rw [slots_l s0]
    dsimp only
    rw [show X8_take b4 m 1 0 3 = _ from f9, Option.bind_some]
    dsimp only
    rw [if_pos rfl, Option.bind_some]
    exact ⟨h9, rfl, eb.tr c9, g9⟩
  | inr z0 =>
    rw [s0] at t0
    obtain ⟨a0, f9, c9, y0, ⟨r0, u0⟩, w0, P0⟩ := t0
    rw [slots_r (k1 := 1) rfl s0, show X8_take b4 m 1 0 3 = _ from f9, Option.bind_some]
    dsimp only
    have e0 : ch (Wty m) h a0 := eb.tr c9
    rw [if_neg (show ¬ (1 : Int32) = 0 by decide)]
    have t1 := takeN (j := 2) (k := 1) (lo := 0) (hi := 9) y0 P0 (by omega) (Or.inl (by decide)) (in_bd (g := 9) (by decide) (by omega) (by omega)) (by decide)
    cases s1 : slot B n 7 1 z0.1 with
    | inl q =>
      rw [s1] at t1
      obtain ⟨h9, f9, c9, g9⟩ := t1
      rw [slots_l s1]
      dsimp only
      rw [show X8_take a0 m 2 0 9 = _ from f9, Option.bind_some]
      dsimp only
      rw [if_pos rfl, Option.bind_some]
      exact ⟨h9, rfl, e0.tr c9, g9⟩
    | inr z1 =>
      rw [s1] at t1
      obtain ⟨a1, f9, c9, y1, ⟨r1, u1⟩, w1, P1⟩ := t1
      rw [slots_r (k1 := 2) rfl s1, show X8_take a0 m 2 0 9 = _ from f9, Option.bind_some]
      dsimp only
      have e1 : ch (Wty m) h a1 := e0.tr c9
      rw [if_neg (show ¬ (1 : Int32) = 0 by decide), Option.bind_some]
      dsimp only
      repeat rw [if_pos (show (7561593 : Int64) = 7561593 from rfl)]
      have t2 := takeN (j := 3) (k := 2) (lo := 0) (hi := 9) y1 P1 (by omega) (Or.inl (by decide)) (in_bd (g := 9) (by decide) (by omega) (by omega)) (by decide)
      cases s2 : slot B n 7 2 z1.1 with
      | inl q =>
        rw [s2] at t2
        obtain ⟨h9, f9, c9, g9⟩ := t2
        rw [slots_l s2]
        dsimp only
        rw [show X8_take a1 m 3 0 9 = _ from f9, Option.bind_some]
        dsimp only
        rw [if_pos rfl]
        exact ⟨h9, rfl, e1.tr c9, g9⟩
      | inr z2 =>
        rw [s2] at t2
        obtain ⟨a2, f9, c9, y2, ⟨r2, u2⟩, w2, P2⟩ := t2
        rw [slots_r (k1 := 3) rfl s2, show X8_take a1 m 3 0 9 = _ from f9, Option.bind_some]
        dsimp only
        have e2 : ch (Wty m) h a2 := e1.tr c9
        rw [if_neg (by decide)]
        rw [slots]
        dsimp only
        have row : ∀ k, k < lwd (fsr 7) → gi a2 (m + 11) k = rowv 7 (iset (iset (iset (fun _ => -1) 0 z0.2) 1 z1.2) 2 z2.2) k := by
          intro k hk
          have hk4 : k < 4 := hk
          have k4 : k = 0 ∨ k = 1 ∨ k = 2 ∨ k = 3 := by omega
          unfold rowv
          rw [if_neg (show ¬ 7 = 11 by omega)]
          rcases k4 with e | e | e | e
          · subst e; rw [if_pos rfl]; rw [u2 0 (by omega), u1 0 (by omega), u0 0 (by omega), rw0]; rfl
          · subst e; rw [if_neg (by omega)]; rw [u2 1 (by omega), u1 1 (by omega), r0, iset_ne (by omega), iset_ne (by omega), iset_eq]
          · subst e; rw [if_neg (by omega)]; rw [u2 2 (by omega), r1, iset_ne (by omega), iset_eq]
          · subst e; rw [if_neg (by omega)]; rw [r2, iset_eq]
        obtain ⟨h7, f7, c7, y7⟩ := keepR_n (f := 7) (v := (iset (iset (iset (fun _ => -1) 0 z0.2) 1 z1.2) 2 z2.2)) (by omega) (by omega) y2 e2 q2 q1 row
        rw [show X8_keep a2 m 0 1 4 30 = _ from f7, Option.bind_some]
        exact ⟨h7, rfl, c7, y7⟩
theorem trial8_n {h : HA} {m n : Nat} {B : Nat → Nat} {σ : ZS} (y : MZ h m n B σ) (hP : PJ B n 1 σ) (hk : tK B n (zi σ) ≠ 0) : ML h m n B 8 σ (X8_trialLine h m 2002872692 (nI (tB B n (zi σ)))) := by
  obtain ⟨q1, q2, q3⟩ := hd_n (f := 8) (by omega) (by omega) hP
  obtain ⟨g1, g2, f1, f2, c2, y2, P2⟩ := start_n (f := 8) (ci := 0) (most := 30) y hP hk (by omega) q1 q2 (by omega) q3
  refine ML_of (by omega) ?_
  rw [show fnm 8 = 0 from rfl]
  have msy : MS h m := y.1.1.1
  have ms2 := y2.1.1.1
  obtain ⟨b1, hb1⟩ : ∃ b1, b1 = si g2 (m + 11) 0 2 := ⟨_, rfl⟩
  obtain ⟨b2, hb2⟩ : ∃ b2, b2 = si b1 (m + 11) 1 (-1) := ⟨_, rfl⟩
  obtain ⟨b3, hb3⟩ : ∃ b3, b3 = si b2 (m + 11) 2 (-1) := ⟨_, rfl⟩
  obtain ⟨b4, hb4⟩ : ∃ b4, b4 = si b3 (m + 11) 3 (-1) := ⟨_, rfl⟩
  have d1 : ch (fun a _ => a = m + 11) g2 b1 := by rw [hb1]; exact ch_si rfl
  have d2 : ch (fun a _ => a = m + 11) g2 b2 := by rw [hb2]; exact d1.tr (ch_si rfl)
  have d3 : ch (fun a _ => a = m + 11) g2 b3 := by rw [hb3]; exact d2.tr (ch_si rfl)
  have d4 : ch (fun a _ => a = m + 11) g2 b4 := by rw [hb4]; exact d3.tr (ch_si rfl)
  have yb := MY_row y2 d4
  have eb : ch (Wty m) h b4 := c2.tr (d4.mo fun a k w => Or.inr (Or.inr (Or.inl w)))
  have rw0 : ∀ j, gi b4 (m + 11) j = if j = 3 then -1 else if j = 2 then -1 else if j = 1 then -1 else if j = 0 then 2 else gi g2 (m + 11) j := fun j => by
    rw [hb4, rd_si, hb3, rd_si, hb2, rd_si, hb1, rd_si]
  unfold X8_trialLine
  rw [if_pos (ms_c msy)]
  dsimp only [lett]
  repeat rw [if_neg (show ¬ (2002872692 : Int64) = 26479 by decide +kernel)]
  repeat rw [if_neg (show ¬ (2002872692 : Int64) = 7561593 by decide +kernel)]
  repeat rw [if_pos (show (2002872692 : Int64) = 2002872692 from rfl)]
  rw [Option.bind_some]
  dsimp only
  rw [show X8_full h m 0 30 (nI (tB B n (zi σ))) = _ from f1, Option.bind_some, f2, Option.bind_some, ms_r20 ms2, Option.bind_some, show asI g2 (m + 11) 20 0 2 = _ from asI_n (i := 0) (ms_k20 ms2) (by omega) (by omega), Option.bind_some, ← hb1, ms_r20 (d1.ms ms2), Option.bind_some, show asI b1 (m + 11) 20 1 (-1) = _ from asI_n (i := 1) (ms_k20 (d1.ms ms2)) (by omega) (by omega), Option.bind_some, ← hb2, ms_r20 (d2.ms ms2), Option.bind_some, show asI b2 (m + 11) 20 2 (-1) = _ from asI_n (i := 2) (ms_k20 (d2.ms ms2)) (by omega) (by omega), Option.bind_some, ← hb3, ms_r20 (d3.ms ms2), Option.bind_some, show asI b3 (m + 11) 20 3 (-1) = _ from asI_n (i := 3) (ms_k20 (d3.ms ms2)) (by omega) (by omega), Option.bind_some, ← hb4]
  repeat rw [if_pos (show (2002872692 : Int64) = 2002872692 from rfl)]
  rw [Option.bind_some]
  dsimp only
  repeat rw [if_neg (show ¬ (2002872692 : Int64) = 7561593 by decide +kernel)]
  rw [slots]
  dsimp only
  have row : ∀ k, k < lwd (fsr 8) → gi b4 (m + 11) k = rowv 8 (fun _ => -1) k := by
    intro k hk
    have hk4 : k < 4 := hk
    have k4 : k = 0 ∨ k = 1 ∨ k = 2 ∨ k = 3 := by omega
    unfold rowv
    rw [if_neg (show ¬ 8 = 11 by omega)]
    rcases k4 with e | e | e | e
    · subst e; rw [if_pos rfl]; rw [rw0]; rfl
    · subst e; rw [if_neg (by omega)]; rw [rw0]; rfl
    · subst e; rw [if_neg (by omega)]; rw [rw0]; rfl
    · subst e; rw [if_neg (by omega)]; rw [rw0]; rfl
  obtain ⟨h7, f7, c7, y7⟩ := keepR_n (f := 8) (v := (fun _ => -1)) (by omega) (by omega) yb eb q2 q1 row
  rw [show X8_keep b4 m 0 1 4 30 = _ from f7, Option.bind_some]
  exact ⟨h7, rfl, c7, y7⟩
theorem maybe_n {h : HA} {m n f k j : Nat} {B : Nat → Nat} {C : CR} {G : Nat → Bool} {T : Nat → Int32} {ρ : ZS} (hf : f = 9 ∨ f = 10) (hk : k < 2) (hj : j < 5) (y : MY h m n B C G T ρ) (hP : PJ B n (fsr f) ρ) :
    match slot B n f k ρ with
    | .inl q => ∃ h1, X8_takeMaybe h m (nI j) = some (0, h1) ∧ ch (Wty m) h h1 ∧ gi h1 m 16 = nI q
    | .inr z => ∃ h1, X8_takeMaybe h m (nI j) = some (1, h1) ∧ ch (Wty m) h h1 ∧ MY h1 m n B C G T z.1 ∧ RDm h h1 m j z.2 ∧ True ∧ PJ B n (fsr f) z.1 := by
  have s2 : fsr f = 2 := by rcases hf with e | e <;> subst e <;> rfl
  have q0 : fgr f k = 9 := by
    have : k = 0 ∨ k = 1 := by omega
    rcases hf with e | e <;> rcases this with e' | e' <;> subst e <;> subst e' <;> rfl
  have ms := y.1.1.1
  have cb : ch (fun a _ => a = m + 11) h (si h (m + 11) j (-1)) := ch_si rfl
  have yb := MY_row y cb
  have eb : ch (Wty m) h (si h (m + 11) j (-1)) := cb.mo fun a k w => Or.inr (Or.inr (Or.inl w))
  have msb := yb.1.1.1
  have k6 := tK_6 B n (zi ρ)
  obtain ⟨m1, m2, m3, m4, m5, m6⟩ := mK_3 _ k6
  have start : X8_takeMaybe h m (nI j) = if nI (mK (tK B n (zi ρ))) = 5 then (X8_token (si h (m + 11) j (-1)) m).bind fun h5 => some (1, h5) else (X8_take (si h (m + 11) j (-1)) m (nI j) 0 9).bind fun (x8, h7) => (bz x8).bind fun x9 => some (x9, h7) := by
    unfold X8_takeMaybe
    rw [if_pos (ms_c ms), ms_r20 ms, Option.bind_some, asI_n (ms_k20 ms) hj (by omega), Option.bind_some, ms_I msb, yb.1.2.1.2.1, Option.bind_some]
  rw [start]
  by_cases h3 : tK B n (zi ρ) = 3
  · have es : slot B n f k ρ = .inr (nt B n ρ, -1) := by unfold slot; rw [if_pos ⟨h3, s2⟩]
    obtain ⟨h4, e4, c4, y4⟩ := MY_tok yb hP.1
    rw [es, if_pos (show nI (mK (tK B n (zi ρ))) = 5 by rw [m6.mpr h3]; rfl), e4, Option.bind_some]
    have P4 := (slot_ok hP es).1
    -- a token leaves the row alone
    have rr : ∀ i, gi h4 (m + 11) i = gi (si h (m + 11) j (-1)) (m + 11) i := by
      obtain ⟨h5, e5, c5, _⟩ := token_x yb.1 hP.1
      rw [e4] at e5
      have := Option.some.inj e5
      subst this
      exact fun i => c5.gi (by unfold Wtk; omega)
    refine ⟨h4, rfl, eb.tr c4, y4, ⟨?_, fun i hi => ?_⟩, trivial, P4⟩
    · rw [rr, rd_si, if_pos rfl]
    · rw [rr, rd_si, if_neg hi]
  · rw [if_neg (show ¬ nI (mK (tK B n (zi ρ))) = 5 from fun z => h3 (m6.mp (nI_inj (b := 5) (by omega) (by omega) z)))]
    have t0 := takeN (j := j) (k := k) (lo := 0) (hi := 9) yb hP hj (Or.inr h3) (in_bd (g := 9) q0 (by omega) (by omega)) (by omega)
    cases s0 : slot B n f k ρ with
    | inl q =>
      rw [s0] at t0
      obtain ⟨h9, f9, c9, g9⟩ := t0
      dsimp only
      rw [f9, Option.bind_some]
      dsimp only
      rw [bz0, Option.bind_some]
      exact ⟨h9, rfl, eb.tr c9, g9⟩
    | inr z =>
      rw [s0] at t0
      obtain ⟨h9, f9, c9, y9, ⟨r9, u9⟩, w9, P9⟩ := t0
      dsimp only
      rw [f9, Option.bind_some]
      dsimp only
      rw [bz1, Option.bind_some]
      exact ⟨h9, rfl, eb.tr c9, y9, ⟨r9, fun i hi => by rw [u9 i hi, rd_si, if_neg hi]⟩, trivial, P9⟩
theorem law9_n {h : HA} {m n : Nat} {B : Nat → Nat} {σ : ZS} (y : MZ h m n B σ) (hP : PJ B n 2 σ) (hk : tK B n (zi σ) ≠ 0) : ML h m n B 9 σ (X8_lawLine h m 7955827 (nI (tB B n (zi σ)))) := by
  obtain ⟨q1, q2, q3⟩ := hd_n (f := 9) (by omega) (by omega) hP
  obtain ⟨g1, g2, f1, f2, c2, y2, P2⟩ := start_n (f := 9) (ci := 0) (most := 8) y hP hk (by omega) q1 q2 (by omega) q3
  refine ML_of (by omega) ?_
  show match slots B n 9 2 0 (snM B n 9 σ) (fun _ => -1) with
      | .inl q => _
      | .inr z => _
  have msy : MS h m := y.1.1.1
  have ms2 := y2.1.1.1
  obtain ⟨b1, hb1⟩ : ∃ b1, b1 = si g2 (m + 11) 0 1 := ⟨_, rfl⟩
  have d1 : ch (fun a _ => a = m + 11) g2 b1 := by rw [hb1]; exact ch_si rfl
  have yb := MY_row y2 d1
  have eb : ch (Wty m) h b1 := c2.tr (d1.mo fun a k w => Or.inr (Or.inr (Or.inl w)))
  have rw0 : gi b1 (m + 11) 0 = 1 := by rw [hb1, rd_si, if_pos rfl]
  unfold X8_lawLine
  rw [if_pos (ms_c msy)]
  dsimp only [lett]
  repeat rw [if_pos (show (7955827 : Int64) = 7955827 from rfl)]
  rw [Option.bind_some]
  dsimp only
  rw [show X8_full h m 0 8 (nI (tB B n (zi σ))) = _ from f1, Option.bind_some, f2, Option.bind_some, ms_r20 ms2, Option.bind_some, show asI g2 (m + 11) 20 0 1 = _ from asI_n (i := 0) (ms_k20 ms2) (by omega) (by omega), Option.bind_some, ← hb1]
  have t0 := maybe_n (f := 9) (j := 1) (k := 0) (by omega) (by omega) (by omega) yb P2
  cases s0 : slot B n 9 0 (snM B n 9 σ) with
  | inl q =>
    rw [s0] at t0
    obtain ⟨h9, f9, c9, g9⟩ := t0
    rw [slots_l s0]
    dsimp only
    rw [show X8_takeMaybe b1 m 1 = _ from f9, Option.bind_some]
    dsimp only
    rw [if_pos rfl]
    exact ⟨h9, rfl, eb.tr c9, g9⟩
  | inr z0 =>
    rw [s0] at t0
    obtain ⟨a0, f9, c9, y0, ⟨r0, u0⟩, w0, P0⟩ := t0
    rw [slots_r (k1 := 1) rfl s0, show X8_takeMaybe b1 m 1 = _ from f9, Option.bind_some]
    dsimp only
    have e0 : ch (Wty m) h a0 := eb.tr c9
    rw [if_neg (by decide)]
    have t1 := maybe_n (f := 9) (j := 2) (k := 1) (by omega) (by omega) (by omega) y0 P0
    cases s1 : slot B n 9 1 z0.1 with
    | inl q =>
      rw [s1] at t1
      obtain ⟨h9, f9, c9, g9⟩ := t1
      rw [slots_l s1]
      dsimp only
      rw [show X8_takeMaybe a0 m 2 = _ from f9, Option.bind_some]
      dsimp only
      rw [if_pos rfl]
      exact ⟨h9, rfl, e0.tr c9, g9⟩
    | inr z1 =>
      rw [s1] at t1
      obtain ⟨a1, f9, c9, y1, ⟨r1, u1⟩, w1, P1⟩ := t1
      rw [slots_r (k1 := 2) rfl s1, show X8_takeMaybe a0 m 2 = _ from f9, Option.bind_some]
      dsimp only
      have e1 : ch (Wty m) h a1 := e0.tr c9
      rw [if_neg (by decide)]
      rw [slots]
      dsimp only
      have row : ∀ k, k < lwd (fsr 9) → gi a1 (m + 11) k = rowv 9 (iset (iset (fun _ => -1) 0 z0.2) 1 z1.2) k := by
        intro k hk
        have hk3 : k < 3 := hk
        have k3 : k = 0 ∨ k = 1 ∨ k = 2 := by omega
        unfold rowv
        rw [if_neg (show ¬ 9 = 11 by omega)]
        rcases k3 with e | e | e
        · subst e; rw [if_pos rfl, u1 0 (by omega), u0 0 (by omega), rw0]; rfl
        · subst e; rw [if_neg (by omega), u1 1 (by omega), r0, iset_ne (by omega), iset_eq]
        · subst e; rw [if_neg (by omega), r1, iset_eq]
      obtain ⟨h7, f7, c7, y7⟩ := keepR_n (f := 9) (v := (iset (iset (fun _ => -1) 0 z0.2) 1 z1.2)) (by omega) (by omega) y1 e1 q2 q1 row
      rw [show X8_keep a1 m 0 1 3 8 = _ from f7, Option.bind_some]
      exact ⟨h7, rfl, c7, y7⟩
theorem law10_n {h : HA} {m n : Nat} {B : Nat → Nat} {σ : ZS} (y : MZ h m n B σ) (hP : PJ B n 2 σ) (hk : tK B n (zi σ) ≠ 0) : ML h m n B 10 σ (X8_lawLine h m 28271 (nI (tB B n (zi σ)))) := by
  obtain ⟨q1, q2, q3⟩ := hd_n (f := 10) (by omega) (by omega) hP
  obtain ⟨g1, g2, f1, f2, c2, y2, P2⟩ := start_n (f := 10) (ci := 0) (most := 8) y hP hk (by omega) q1 q2 (by omega) q3
  refine ML_of (by omega) ?_
  show match slots B n 10 2 0 (snM B n 10 σ) (fun _ => -1) with
      | .inl q => _
      | .inr z => _
  have msy : MS h m := y.1.1.1
  have ms2 := y2.1.1.1
  obtain ⟨b1, hb1⟩ : ∃ b1, b1 = si g2 (m + 11) 0 0 := ⟨_, rfl⟩
  have d1 : ch (fun a _ => a = m + 11) g2 b1 := by rw [hb1]; exact ch_si rfl
  have yb := MY_row y2 d1
  have eb : ch (Wty m) h b1 := c2.tr (d1.mo fun a k w => Or.inr (Or.inr (Or.inl w)))
  have rw0 : gi b1 (m + 11) 0 = 0 := by rw [hb1, rd_si, if_pos rfl]
  unfold X8_lawLine
  rw [if_pos (ms_c msy)]
  dsimp only [lett]
  repeat rw [if_neg (show ¬ (28271 : Int64) = 7955827 by decide +kernel)]
  repeat rw [if_pos (show (28271 : Int64) = 28271 from rfl)]
  rw [Option.bind_some]
  dsimp only
  rw [show X8_full h m 0 8 (nI (tB B n (zi σ))) = _ from f1, Option.bind_some, f2, Option.bind_some, ms_r20 ms2, Option.bind_some, show asI g2 (m + 11) 20 0 0 = _ from asI_n (i := 0) (ms_k20 ms2) (by omega) (by omega), Option.bind_some, ← hb1]
  have t0 := maybe_n (f := 10) (j := 1) (k := 0) (by omega) (by omega) (by omega) yb P2
  cases s0 : slot B n 10 0 (snM B n 10 σ) with
  | inl q =>
    rw [s0] at t0
    obtain ⟨h9, f9, c9, g9⟩ := t0
    rw [slots_l s0]
    dsimp only
    rw [show X8_takeMaybe b1 m 1 = _ from f9, Option.bind_some]
    dsimp only
    rw [if_pos rfl]
    exact ⟨h9, rfl, eb.tr c9, g9⟩
  | inr z0 =>
    rw [s0] at t0
    obtain ⟨a0, f9, c9, y0, ⟨r0, u0⟩, w0, P0⟩ := t0
    rw [slots_r (k1 := 1) rfl s0, show X8_takeMaybe b1 m 1 = _ from f9, Option.bind_some]
    dsimp only
    have e0 : ch (Wty m) h a0 := eb.tr c9
    rw [if_neg (by decide)]
    have t1 := maybe_n (f := 10) (j := 2) (k := 1) (by omega) (by omega) (by omega) y0 P0
    cases s1 : slot B n 10 1 z0.1 with
    | inl q =>
      rw [s1] at t1
      obtain ⟨h9, f9, c9, g9⟩ := t1
      rw [slots_l s1]
      dsimp only
      rw [show X8_takeMaybe a0 m 2 = _ from f9, Option.bind_some]
      dsimp only
      rw [if_pos rfl]
      exact ⟨h9, rfl, e0.tr c9, g9⟩
    | inr z1 =>
      rw [s1] at t1
      obtain ⟨a1, f9, c9, y1, ⟨r1, u1⟩, w1, P1⟩ := t1
      rw [slots_r (k1 := 2) rfl s1, show X8_takeMaybe a0 m 2 = _ from f9, Option.bind_some]
      dsimp only
      have e1 : ch (Wty m) h a1 := e0.tr c9
      rw [if_neg (by decide)]
      rw [slots]
      dsimp only
      have row : ∀ k, k < lwd (fsr 10) → gi a1 (m + 11) k = rowv 10 (iset (iset (fun _ => -1) 0 z0.2) 1 z1.2) k := by
        intro k hk
        have hk3 : k < 3 := hk
        have k3 : k = 0 ∨ k = 1 ∨ k = 2 := by omega
        unfold rowv
        rw [if_neg (show ¬ 10 = 11 by omega)]
        rcases k3 with e | e | e
        · subst e; rw [if_pos rfl, u1 0 (by omega), u0 0 (by omega), rw0]; rfl
        · subst e; rw [if_neg (by omega), u1 1 (by omega), r0, iset_ne (by omega), iset_eq]
        · subst e; rw [if_neg (by omega), r1, iset_eq]
      obtain ⟨h7, f7, c7, y7⟩ := keepR_n (f := 10) (v := (iset (iset (fun _ => -1) 0 z0.2) 1 z1.2)) (by omega) (by omega) y1 e1 q2 q1 row
      rw [show X8_keep a1 m 0 1 3 8 = _ from f7, Option.bind_some]
      exact ⟨h7, rfl, c7, y7⟩
theorem roll_n {h : HA} {m n : Nat} {B : Nat → Nat} {σ : ZS} (y : MZ h m n B σ) (hP : PJ B n 3 σ) (hk : tK B n (zi σ) ≠ 0) : ML h m n B 11 σ (X8_rollLine h m 1802399607 (nI (tB B n (zi σ)))) := by
  obtain ⟨q1, q2, q3⟩ := hd_n (f := 11) (by omega) (by omega) hP
  obtain ⟨g1, g2, f1, f2, c2, y2, P2⟩ := start_n (f := 11) (ci := 0) (most := 12) y hP hk (by omega) q1 q2 (by omega) q3
  refine ML_of (by omega) ?_
  show match slots B n 11 2 0 (snM B n 11 σ) (fun _ => -1) with
      | .inl q => _
      | .inr z => _
  have msy : MS h m := y.1.1.1
  unfold X8_rollLine
  rw [if_pos (ms_c msy), if_pos (show (1802399607 : Int64) = 1802399607 from rfl), show X8_full h m 0 12 (nI (tB B n (zi σ))) = _ from f1, Option.bind_some, f2, Option.bind_some]
  have t0 := takeN (j := 0) (k := 0) (lo := 0) (hi := 5) y2 P2 (by omega) (Or.inl (by decide)) (in_bd (g := 5) (by decide) (by omega) (by omega)) (by decide)
  cases s0 : slot B n 11 0 (snM B n 11 σ) with
  | inl q =>
    rw [s0] at t0
    obtain ⟨h9, f9, c9, g9⟩ := t0
    rw [slots_l s0]
    dsimp only
    rw [show X8_take g2 m 0 0 5 = _ from f9, Option.bind_some]
    dsimp only
    rw [if_pos rfl]
    exact ⟨h9, rfl, c2.tr c9, g9⟩
  | inr z0 =>
    rw [s0] at t0
    obtain ⟨a0, f9, c9, y0, ⟨r0, u0⟩, w0, P0⟩ := t0
    rw [slots_r (k1 := 1) rfl s0, show X8_take g2 m 0 0 5 = _ from f9, Option.bind_some]
    dsimp only
    have e0 : ch (Wty m) h a0 := c2.tr c9
    rw [if_neg (by decide)]
    have t1 := takeN (j := 1) (k := 1) (lo := 0) (hi := 9) y0 P0 (by omega) (Or.inl (by decide)) (in_bd (g := 9) (by decide) (by omega) (by omega)) (by decide)
    cases s1 : slot B n 11 1 z0.1 with
    | inl q =>
      rw [s1] at t1
      obtain ⟨h9, f9, c9, g9⟩ := t1
      rw [slots_l s1]
      dsimp only
      rw [show X8_take a0 m 1 0 9 = _ from f9, Option.bind_some]
      dsimp only
      rw [if_pos rfl]
      exact ⟨h9, rfl, e0.tr c9, g9⟩
    | inr z1 =>
      rw [s1] at t1
      obtain ⟨a1, f9, c9, y1, ⟨r1, u1⟩, w1, P1⟩ := t1
      rw [slots_r (k1 := 2) rfl s1, show X8_take a0 m 1 0 9 = _ from f9, Option.bind_some]
      dsimp only
      have e1 : ch (Wty m) h a1 := e0.tr c9
      rw [if_neg (by decide)]
      rw [slots]
      dsimp only
      have row : ∀ k, k < lwd (fsr 11) → gi a1 (m + 11) k = rowv 11 (iset (iset (fun _ => -1) 0 z0.2) 1 z1.2) k := by
        intro k hk
        have hk2 : k < 2 := hk
        have k2 : k = 0 ∨ k = 1 := by omega
        unfold rowv
        rw [if_pos rfl]
        rcases k2 with e | e
        · subst e; rw [u1 0 (by omega), r0, iset_ne (by omega), iset_eq]
        · subst e; rw [r1, iset_eq]
      obtain ⟨h7, f7, c7, y7⟩ := keepR_n (f := 11) (v := (iset (iset (fun _ => -1) 0 z0.2) 1 z1.2)) (by omega) (by omega) y1 e1 q2 q1 row
      rw [show X8_keep a1 m 0 1 2 12 = _ from f7, Option.bind_some]
      exact ⟨h7, rfl, c7, y7⟩
