/-! TEXT: the model reads a line of a COURT -/
theorem size_n {h : HA} {m n : Nat} {B : Nat → Nat} {C : CR} {G : Nat → Bool} {T : Nat → Int32} {ρ : ZS} (y : MY h m n B C G T ρ) (hP : PJ B n (fsr 0) ρ) :
    match slots B n 0 2 0 ρ (fun _ => -1) with
    | .inl q => ∃ h1, X8_sizeLine h m = some (0, h1) ∧ ch (Wty m) h h1 ∧ gi h1 m 16 = nI q
    | .inr z => ∃ h1, X8_sizeLine h m = some (1, h1) ∧ ch (Wty m) h h1 ∧ MY h1 m n B (kpC 0 z.2 C) (kG 0 z.2 G) (kT 0 z.2 T) z.1 := by
  have fp : 3 < FU := FU_gt (by omega)
  obtain ⟨g, hg⟩ : ∃ g, FU = g + 3 := ⟨FU - 3, by omega⟩
  unfold X8_sizeLine
  rw [if_pos (ms_c y.1.1.1), hg, X8_sizeLine_L2, if_pos (show (0 : Int32) < 2 by decide)]
  have t0 := takeN (j := 0) (k := 0) (lo := 2) (hi := 8) y hP (by omega) (Or.inl (by decide)) (fun v hv => (hin_s v hv).1) (by decide)
  cases s0 : slot B n 0 0 ρ with
  | inl q =>
    rw [s0] at t0
    obtain ⟨h9, f9, c9, g9⟩ := t0
    rw [slots_l s0]
    dsimp only
    rw [show X8_take h m 0 2 8 = _ from f9, Option.bind_some]
    dsimp only
    rw [if_pos rfl]
    exact ⟨h9, rfl, c9, g9⟩
  | inr z0 =>
    rw [s0] at t0
    obtain ⟨a0, f9, c9, y0, ⟨r0, u0⟩, w0, P0⟩ := t0
    rw [slots_r (k1 := 1) rfl s0, show X8_take h m 0 2 8 = _ from f9, Option.bind_some]
    dsimp only
    have e0 : ch (Wty m) h a0 := c9
    rw [if_neg (by decide)]
    have ms0 := y0.1.1.1
    rw [ms_r19 ms0, Option.bind_some, ms_r20 ms0, Option.bind_some, show ldI a0 (m + 11) 20 0 = _ from ldI_n (i := 0) (ms_k20 ms0) (by omega) (by omega), r0, Option.bind_some, show asI a0 (m + 10) 20 0 z0.2 = _ from asI_n (i := 0) (ms_k19 ms0) (by omega) (by omega), Option.bind_some]
    have cb : ch (fun a _ => a = m + 10) a0 (si a0 (m + 10) 0 z0.2) := ch_si rfl
    have yb : MY (si a0 (m + 10) 0 z0.2) m n B (iset C 0 z0.2) G T z0.1 := MY_told y0 cb (fun i hi => by
      rw [gi_si]
      by_cases e : i = 0
      · rw [if_pos ⟨rfl, e⟩, e, iset_eq]
      · rw [if_neg (fun z => e z.2), iset_ne e]; exact y0.2.2.1 i hi)
    have eb : ch (Wty m) h (si a0 (m + 10) 0 z0.2) := e0.tr (cb.mo fun a k w => Or.inr (Or.inl w))
    rw [X8_sizeLine_L2, if_pos (show (0 : Int32) + 1 < 2 by decide)]
    have t1 := takeN (j := 0) (k := 1) (lo := 2) (hi := 8) yb P0 (by omega) (Or.inl (by decide)) (fun v hv => (hin_s v hv).2) (by decide)
    cases s1 : slot B n 0 1 z0.1 with
    | inl q =>
      rw [s1] at t1
      obtain ⟨h9, f9, c9, g9⟩ := t1
      rw [slots_l s1]
      dsimp only
      rw [show X8_take (si a0 (m + 10) 0 z0.2) m 0 2 8 = _ from f9, Option.bind_some]
      dsimp only
      rw [if_pos rfl]
      exact ⟨h9, rfl, eb.tr c9, g9⟩
    | inr z1 =>
      rw [s1] at t1
      obtain ⟨a1, f9, c9, y1, ⟨r1, u1⟩, w1, P1⟩ := t1
      rw [slots_r (k1 := 2) rfl s1, show X8_take (si a0 (m + 10) 0 z0.2) m 0 2 8 = _ from f9, Option.bind_some]
      dsimp only
      have e1 : ch (Wty m) h a1 := eb.tr c9
      rw [if_neg (by decide)]
      have ms1 := y1.1.1.1
      rw [ms_r19 ms1, Option.bind_some, ms_r20 ms1, Option.bind_some, show ldI a1 (m + 11) 20 0 = _ from ldI_n (i := 0) (ms_k20 ms1) (by omega) (by omega), r1, Option.bind_some, show asI a1 (m + 10) 20 (0 + 1) z1.2 = _ from asI_n (i := 1) (ms_k19 ms1) (by omega) (by omega), Option.bind_some, X8_sizeLine_L2, if_neg (show ¬ (0 : Int32) + 1 + 1 < 2 by decide), slots]
      dsimp only
      have cc : ch (fun a _ => a = m + 10) a1 (si a1 (m + 10) 1 z1.2) := ch_si rfl
      refine ⟨_, rfl, e1.tr (cc.mo fun a k w => Or.inr (Or.inl w)), ?_⟩
      have ek : ∀ v, kG 0 v G = G ∧ kT 0 v T = T := fun v => ⟨by unfold kG; rw [if_neg (by omega)], by unfold kT; rw [if_neg (by omega)]⟩
      rw [(ek _).1, (ek _).2]
      refine MY_told y1 cc (fun i hi => ?_)
      have i0 : (iset (iset (fun _ => -1) 0 z0.2) 1 z1.2) 0 = z0.2 := by rw [iset_ne (by omega), iset_eq]
      have i1 : (iset (iset (fun _ => -1) 0 z0.2) 1 z1.2) 1 = z1.2 := iset_eq _ _ _
      generalize (iset (iset (fun _ => -1) 0 z0.2) 1 z1.2) = v at i0 i1 ⊢
      have ekp : kpC 0 v C = iset (iset C 0 z0.2) 1 z1.2 := by
        unfold kpC tmy
        rw [if_neg (show ¬ (0 = 2 ∨ 0 = 3) by omega), if_neg (show ¬ 0 = 4 by omega), if_pos (show 0 < 6 by omega), if_neg (show ¬ (false = true) by decide), if_pos rfl, i0, i1]
      rw [ekp, gi_si]
      by_cases e : i = 1
      · rw [if_pos ⟨rfl, e⟩, e, iset_eq]
      · rw [if_neg (fun z => e z.2), iset_ne e]; exact y1.2.2.1 i hi
theorem plead_n {h : HA} {m n : Nat} {B : Nat → Nat} {C : CR} {G : Nat → Bool} {T : Nat → Int32} {ρ : ZS} (y : MY h m n B C G T ρ) (hP : PJ B n (fsr 4) ρ) (hN4 : tn (C 3) ≤ 4) (hN : C 3 = nI (tn (C 3))) :
    match slots B n 4 1 0 ρ (fun _ => -1) with
    | .inl q => ∃ h1, ((X8_takeField h m 0).bind fun (x30, h29) => (gR h29 m 9 20).bind fun x31 => (asI h29 x31 20 1 (-1)).bind fun h32 => if x30 = 0 then (bz x30).bind fun x33 => some (x33, h32) else (X8_pleads h32 m).bind fun h35 => (bz x30).bind fun x36 => some (x36, h35)) = some (0, h1) ∧ ch (Wty m) h h1 ∧ gi h1 m 16 = nI q
    | .inr z => ∃ h1, ((X8_takeField h m 0).bind fun (x30, h29) => (gR h29 m 9 20).bind fun x31 => (asI h29 x31 20 1 (-1)).bind fun h32 => if x30 = 0 then (bz x30).bind fun x33 => some (x33, h32) else (X8_pleads h32 m).bind fun h35 => (bz x30).bind fun x36 => some (x36, h35)) = some (1, h1) ∧ ch (Wty m) h h1 ∧ MY h1 m n B (kpC 4 z.2 C) (kG 4 z.2 G) (kT 4 z.2 T) z.1 := by
  have t0 := takeF (j := 0) (k := 0) y hP (by omega) (by omega) (by omega) (by decide)
  cases s0 : slot B n 4 0 ρ with
  | inl q =>
    rw [s0] at t0
    obtain ⟨h9, f9, c9, g9⟩ := t0
    rw [slots_l s0]
    dsimp only
    rw [show X8_takeField h m 0 = _ from f9, Option.bind_some]
    dsimp only
    have ms9 := c9.ms y.1.1.1
    rw [ms_r20 ms9, Option.bind_some, show asI h9 (m + 11) 20 1 (-1) = _ from asI_n (i := 1) (ms_k20 ms9) (by omega) (by omega), Option.bind_some, if_pos rfl, bz0, Option.bind_some]
    refine ⟨_, rfl, c9.tr (ch_si (Or.inr (Or.inr (Or.inl rfl)))), ?_⟩
    rw [gi_si, if_neg (by omega)]; exact g9
  | inr z0 =>
    rw [s0] at t0
    obtain ⟨a0, f9, c9, y0, ⟨r0, u0⟩, w0, P0⟩ := t0
    rw [slots_r (k1 := 1) rfl s0, show X8_takeField h m 0 = _ from f9, Option.bind_some]
    dsimp only
    have e0 : ch (Wty m) h a0 := c9
    have ms0 := y0.1.1.1
    have cb : ch (fun a _ => a = m + 11) a0 (si a0 (m + 11) 1 (-1)) := ch_si rfl
    have yb := MY_row y0 cb
    have eb : ch (Wty m) h (si a0 (m + 11) 1 (-1)) := e0.tr (cb.mo fun a k w => Or.inr (Or.inr (Or.inl w)))
    have rb : gi (si a0 (m + 11) 1 (-1)) (m + 11) 0 = z0.2 := by rw [gi_si, if_neg (by omega)]; exact r0
    rw [ms_r20 ms0, Option.bind_some, show asI a0 (m + 11) 20 1 (-1) = _ from asI_n (i := 1) (ms_k20 ms0) (by omega) (by omega), Option.bind_some, if_neg (show ¬ (1 : Int32) = 0 by decide), bz1, slots]
    dsimp only
    have msb := yb.1.1.1
    obtain ⟨b, hb⟩ : ∃ b, b = si a0 (m + 11) 1 (-1) := ⟨_, rfl⟩
    rw [← hb] at yb eb rb msb ⊢
    have ek : ∀ v, kG 4 v G = G ∧ kT 4 v T = T := fun v => ⟨by unfold kG; rw [if_neg (by omega)], by unfold kT; rw [if_neg (by omega)]⟩
    rw [(ek _).1, (ek _).2]
    have i0 : (iset (fun _ => -1) 0 z0.2) 0 = z0.2 := iset_eq _ _ _
    generalize (iset (fun _ => -1) 0 z0.2) = v at i0 ⊢
    obtain ⟨N, eN⟩ : ∃ N, N = tn (C 3) := ⟨_, rfl⟩
    have l3 : ldI b (m + 10) 20 3 = some (nI N) := by
      rw [show ldI b (m + 10) 20 3 = _ from ldI_n (i := 3) (ms_k19 msb) (by omega) (by omega), yb.2.2.1 3 (by omega), hN, eN]
    unfold X8_pleads kpC tmy
    rw [if_pos (ms_c msb), ms_r19 msb, Option.bind_some, l3, Option.bind_some, if_neg (show ¬ (4 = 2 ∨ 4 = 3) by omega), if_pos (show 4 = 4 from rfl), ← eN]
    by_cases e4 : N < 4
    · rw [if_pos (show nI N < 4 from lt_lit (n := 4) e4 (by omega)), Option.bind_some, Option.bind_some, l3, Option.bind_some, ms_r20 msb, Option.bind_some, show ldI b (m + 11) 20 0 = _ from ldI_n (i := 0) (ms_k20 msb) (by omega) (by omega), rb, Option.bind_some, show (34 : Int32) + 2 * nI N = nI (34 + 2 * N) by rw [show (2 : Int32) = nI 2 from rfl, nI_mul, show (34 : Int32) = nI 34 from rfl, nI_add], asI_n (ms_k19 msb) (by omega) (by omega), Option.bind_some]
      have cc : ch (fun a _ => a = m + 10) b (si b (m + 10) (34 + 2 * N) z0.2) := ch_si rfl
      have msc := cc.ms msb
      have l4 : ldI (si b (m + 10) (34 + 2 * N) z0.2) (m + 10) 20 3 = some (nI N) := by
        rw [show ldI (si b (m + 10) (34 + 2 * N) z0.2) (m + 10) 20 3 = _ from ldI_n (i := 3) (ms_k19 msc) (by omega) (by omega), gi_si, if_neg (by omega), yb.2.2.1 3 (by omega), hN, eN]
      rw [ms_r19 msc, Option.bind_some, l4, Option.bind_some, nI_p1, show asI (si b (m + 10) (34 + 2 * N) z0.2) (m + 10) 20 3 (nI (N + 1)) = _ from asI_n (i := 3) (ms_k19 msc) (by omega) (by omega), Option.bind_some, Option.bind_some, Option.bind_some]
      have cd := cc.tr (ch_si (h := si b (m + 10) (34 + 2 * N) z0.2) (k := 3) (v := nI (N + 1)) (show (fun (a _ : Nat) => a = m + 10) (m + 10) 3 from rfl))
      refine ⟨_, rfl, eb.tr (cd.mo fun a k w => Or.inr (Or.inl w)), ?_⟩
      refine MY_told yb cd (fun i hi => ?_)
      rw [decide_eq_false (show ¬ 4 ≤ N by omega), if_neg (show ¬ (false = true) by decide), if_neg (show ¬ 4 = 0 by omega), if_neg (show ¬ 4 = 1 by omega), if_neg (show ¬ (4 = 2 ∨ 4 = 3) by omega), if_pos (show 4 = 4 from rfl)]
      rw [gi_si]
      by_cases d3 : i = 3
      · rw [if_pos ⟨rfl, d3⟩, if_pos d3]
      · rw [if_neg (fun z => d3 z.2), if_neg d3, gi_si]
        by_cases d4 : i = 34 + 2 * N
        · rw [if_pos ⟨rfl, d4⟩, if_pos d4, i0]
        · rw [if_neg (fun z => d4 z.2), if_neg d4]; exact yb.2.2.1 i hi
    · rw [if_neg (show ¬ nI N < 4 from nlt_lit (n := 4) (by omega) (by omega)), Option.bind_some, Option.bind_some, decide_eq_true (show 4 ≤ N by omega), if_pos rfl]
      exact ⟨b, rfl, eb, yb⟩
theorem twin_n {h : HA} {m n : Nat} {B : Nat → Nat} {C : CR} {G : Nat → Bool} {T : Nat → Int32} {ρ : ZS} (y : MY h m n B C G T ρ) (hP : PJ B n (fsr 5) ρ) :
    match slots B n 5 2 0 ρ (fun _ => -1) with
    | .inl q => ∃ h1, X8_twinLine h m = some (0, h1) ∧ ch (Wty m) h h1 ∧ gi h1 m 16 = nI q
    | .inr z => ∃ h1, X8_twinLine h m = some (1, h1) ∧ ch (Wty m) h h1 ∧ MY h1 m n B (kpC 5 z.2 C) (kG 5 z.2 G) (kT 5 z.2 T) z.1 := by
  unfold X8_twinLine
  rw [if_pos (ms_c y.1.1.1)]
  have t0 := takeN (j := 0) (k := 0) (lo := 0) (hi := 3) y hP (by omega) (Or.inl (by decide)) (in_bd (g := 3) (by decide) (by omega) (by omega)) (by decide)
  cases s0 : slot B n 5 0 ρ with
  | inl q =>
    rw [s0] at t0
    obtain ⟨h9, f9, c9, g9⟩ := t0
    rw [slots_l s0]
    dsimp only
    rw [show X8_take h m 0 0 3 = _ from f9, Option.bind_some]
    dsimp only
    rw [if_pos rfl]
    exact ⟨h9, rfl, c9, g9⟩
  | inr z0 =>
    rw [s0] at t0
    obtain ⟨a0, f9, c9, y0, ⟨r0, u0⟩, w0, P0⟩ := t0
    rw [slots_r (k1 := 1) rfl s0, show X8_take h m 0 0 3 = _ from f9, Option.bind_some]
    dsimp only
    have e0 : ch (Wty m) h a0 := c9
    rw [if_neg (by decide)]
    obtain ⟨p, p1, p2⟩ := w0
    rw [p2] at r0
    have ms0 := y0.1.1.1
    obtain ⟨g, eg⟩ := greater_s (gi a0 m 22) (nI p)
    rw [ms_I ms0, Option.bind_some, ms_r20 ms0, Option.bind_some, show ldI a0 (m + 11) 20 0 = _ from ldI_n (i := 0) (ms_k20 ms0) (by omega) (by omega), r0, Option.bind_some, eg, Option.bind_some, ms_p ms0, Option.bind_some]
    have yb : MY (si a0 m 22 g) m n B C (if p < 4 then badd G p else G) T z0.1 := by
      refine ⟨MXa_ch (W := fun a k => a = m ∧ k = 22) y0.1 (ch_si ⟨rfl, rfl⟩) (fun k hk => by omega) (fun k => by omega), fun z => ?_, fun i hi => by rw [gi_si, if_neg (by omega)]; exact y0.2.2.1 i hi, fun q hq => by rw [gi_si, if_neg (by omega)]; exact y0.2.2.2 q hq⟩
      obtain ⟨m1, m2⟩ := y0.2.1 z
      rw [gi_si, if_neg (by omega), gi_si, if_pos ⟨rfl, rfl⟩]
      refine ⟨m1, ?_⟩
      rcases (slot_g s0 z).2 with ⟨b1, _⟩ | ⟨x, b1, b2, _⟩
      · exact absurd b1 (by decide)
      · have hx := (bad_iff.mp b1).1
        have : x = p := nI_inj (by have : fgr 5 0 = 3 := rfl
                                   omega) (by omega) (b2.symm.trans p2)
        rw [this] at hx
        have hp4 : p < 4 := by have : fgr 5 0 = 3 := rfl
                               omega
        rw [if_pos hp4]
        obtain ⟨g', eg', fg'⟩ := FMx_g (v := p) m2 (by omega)
        rw [eg] at eg'
        rw [Option.some.inj eg']; exact fg'
    have eb : ch (Wty m) h (si a0 m 22 g) := e0.tr (ch_si (Or.inl ⟨rfl, by omega, by omega⟩))
    have rb : gi (si a0 m 22 g) (m + 11) 0 = nI p := by rw [gi_si, if_neg (by omega)]; exact r0
    have t1 := takeF (j := 1) (k := 1) yb P0 (by omega) (by omega) (by omega) (by decide)
    cases s1 : slot B n 5 1 z0.1 with
    | inl q =>
      rw [s1] at t1
      obtain ⟨h9, f9, c9, g9⟩ := t1
      rw [slots_l s1]
      dsimp only
      rw [show X8_takeField (si a0 m 22 g) m 1 = _ from f9, Option.bind_some]
      dsimp only
      rw [if_pos rfl]
      exact ⟨h9, rfl, eb.tr c9, g9⟩
    | inr z1 =>
      rw [s1] at t1
      obtain ⟨a1, f9, c9, y1, ⟨r1, u1⟩, w1, P1⟩ := t1
      rw [slots_r (k1 := 2) rfl s1, show X8_takeField (si a0 m 22 g) m 1 = _ from f9, Option.bind_some]
      dsimp only
      have e1 : ch (Wty m) h a1 := eb.tr c9
      rw [if_neg (by decide)]
      have ms1 := y1.1.1.1
      have rc : gi a1 (m + 11) 0 = nI p := by rw [u1 0 (by omega)]; exact rb
      have lc : ldI a1 (m + 11) 20 0 = some (nI p) := by rw [show ldI a1 (m + 11) 20 0 = _ from ldI_n (i := 0) (ms_k20 ms1) (by omega) (by omega), rc]
      have i0 : (iset (iset (fun _ => -1) 0 z0.2) 1 z1.2) 0 = nI p := by rw [iset_ne (by omega), iset_eq]; exact p2
      have i1 : (iset (iset (fun _ => -1) 0 z0.2) 1 z1.2) 1 = z1.2 := iset_eq _ _ _
      rw [ms_r20 ms1, Option.bind_some, lc, Option.bind_some, slots]
      dsimp only
      generalize (iset (iset (fun _ => -1) 0 z0.2) 1 z1.2) = v at i0 i1 ⊢
      have ekp : kpC 5 v C = C := by
        unfold kpC tmy
        rw [if_neg (show ¬ (5 = 2 ∨ 5 = 3) by omega), if_neg (show ¬ 5 = 4 by omega), if_pos (show 5 < 6 by omega), if_neg (show ¬ (false = true) by decide), if_neg (show ¬ 5 = 0 by omega), if_neg (show ¬ 5 = 1 by omega), if_neg (show ¬ (5 = 2 ∨ 5 = 3) by omega), if_neg (show ¬ 5 = 4 by omega), if_pos (show 5 = 5 from rfl)]
      unfold kG kT
      rw [ekp, i0, i1, tn_nI (by omega)]
      by_cases hp4 : p < 4
      · rw [if_pos (show nI p < 4 from lt_lit (n := 4) hp4 (by omega)), ms_r23 ms1, Option.bind_some, Option.bind_some, lc, Option.bind_some, Option.bind_some, show ldI a1 (m + 11) 20 1 = _ from ldI_n (i := 1) (ms_k20 ms1) (by omega) (by omega), r1, Option.bind_some, asI_n (ms_k23 ms1) hp4 (by omega), Option.bind_some, if_pos ⟨rfl, hp4⟩, if_pos ⟨rfl, hp4⟩]
        rw [if_pos hp4] at y1
        have cd : ch (fun a _ => a = m + 12) a1 (si a1 (m + 12) p z1.2) := ch_si rfl
        refine ⟨_, rfl, e1.tr (cd.mo fun a k w => Or.inr (Or.inr (Or.inr w))), MXa_ch y1.1 cd (fun k _ => by omega) (fun k => by omega), fun z => by rw [cd.gi (by omega), cd.gi (by omega)]; exact y1.2.1 z, fun i hi => by rw [cd.gi (by omega)]; exact y1.2.2.1 i hi, fun q hq => ?_⟩
        rw [gi_si]
        by_cases eq : q = p
        · rw [if_pos ⟨rfl, eq⟩, eq, iset_eq]
        · rw [if_neg (fun z => eq z.2), iset_ne eq]; exact y1.2.2.2 q hq
      · rw [if_neg (show ¬ nI p < 4 from nlt_lit (n := 4) (by omega) (by omega)), if_neg (fun z => hp4 z.2), if_neg (fun z => hp4 z.2)]
        rw [if_neg hp4] at y1
        exact ⟨a1, rfl, e1, y1⟩
theorem wall1_n {h : HA} {m n : Nat} {B : Nat → Nat} {G : Nat → Bool} {T : Nat → Int32} {ρ : ZS} (y : MY h m n B (zC ρ) G T ρ) (hP : PJ B n (fsr 1) ρ) (fu : Nat) :
    match slot B n 1 0 ρ with
    | .inl q => ∃ h1, X8_wallLine_L0 m (fu + 1) h = some (0, h1) ∧ ch (Wty m) h h1 ∧ gi h1 m 16 = nI q
    | .inr z => ∃ h1, X8_wallLine_L0 m (fu + 1) h = (if tK B n (zi z.1) = 2 then X8_wallLine_L0 m fu h1 else some (1, h1)) ∧ ch (Wty m) h h1 ∧ MY h1 m n B (zC z.1) G T z.1 ∧ PJ B n (fsr 1) z.1 := by
  rw [X8_wallLine_L0]
  have t0 := takeF (j := 0) (k := 0) y hP (by omega) (by omega) (by omega) (by decide)
  cases s0 : slot B n 1 0 ρ with
  | inl q =>
    rw [s0] at t0
    obtain ⟨h9, f9, c9, g9⟩ := t0
    dsimp only
    rw [show X8_takeField h m 0 = _ from f9, Option.bind_some]
    dsimp only
    rw [if_pos rfl]
    exact ⟨h9, rfl, c9, g9⟩
  | inr z =>
    rw [s0] at t0
    obtain ⟨a0, f9, c9, y0, ⟨r0, u0⟩, ⟨v, v1, v2⟩, P0⟩ := t0
    have ms0 := y0.1.1.1
    dsimp only
    rw [show X8_takeField h m 0 = _ from f9, Option.bind_some]
    dsimp only
    have lv : ldI a0 (m + 11) 20 0 = some (nI v) := by rw [show ldI a0 (m + 11) 20 0 = _ from ldI_n (i := 0) (ms_k20 ms0) (by omega) (by omega), r0, v2]
    rw [if_neg (show ¬ (1 : Int32) = 0 by decide), ms_r20 ms0, Option.bind_some, lv, Option.bind_some]
    -- the token was a number
    have hk2 : tK B n (zi ρ) = 2 := by
      unfold slot at s0
      rw [if_neg (show ¬ (tK B n (zi ρ) = 3 ∧ fsr 1 = 2) from fun z => absurd z.2 (by decide))] at s0
      by_cases h2 : tK B n (zi ρ) = 2
      · exact h2
      · rw [if_neg h2] at s0; exact absurd s0 (by simp)
    have ez : z.2 = nI (tV B n (zi ρ)) ∧ zC z.1 = if bad 1 0 (tV B n (zi ρ)) = false then iset (zC ρ) (42 + tV B n (zi ρ)) 1 else zC ρ := by
      unfold slot at s0
      rw [if_neg (show ¬ (tK B n (zi ρ) = 3 ∧ fsr 1 = 2) from fun z => absurd z.2 (by decide)), if_pos hk2] at s0
      have := Sum.inr.inj s0
      subst this
      refine ⟨rfl, ?_⟩
      show zC (tkn 1 0 (tV B n (zi ρ)) _) = _
      unfold tkn
      cases hb : bad 1 0 (tV B n (zi ρ)) with
      | true =>
        rw [if_neg (fun z => absurd z.1 (by decide)), if_pos rfl, if_neg (by decide)]
        exact zC_ft _ _ _
      | false =>
        rw [if_pos ⟨rfl, by decide⟩, if_neg (by decide), if_pos rfl]
        show (if 1 = 1 then iset (zC ρ) (42 + tV B n (zi ρ)) 1 else zC ρ) = _
        rw [if_pos (show 1 = 1 from rfl), if_pos (show false = false from rfl)]
    have ev : tV B n (zi ρ) = v := nI_inj (by have := tV_lt hP.1 hk2; omega) (by omega) (ez.1.symm.trans v2)
    rw [ev] at ez
    have hb : bad 1 0 v = decide (63 < v) := by
      unfold bad
      rw [show fgr 1 0 = 63 from rfl]
      simp
    have mid : ∃ h1, (show Option HA from if nI v < 64 then (gR a0 m 9 19).bind fun x9 => (gR a0 m 9 20).bind fun x10 => (ldI a0 x10 20 0).bind fun x11 => (asI a0 x9 20 (42 + x11) 1).bind fun h12 => some h12 else some a0) = some h1 ∧ ch (fun a _ => a = m + 10) a0 h1 ∧ ∀ i, i < 121 → gi h1 (m + 10) i = zC z.1 i := by
      show ∃ h1, (if nI v < 64 then (gR a0 m 9 19).bind fun x9 => (gR a0 m 9 20).bind fun x10 => (ldI a0 x10 20 0).bind fun x11 => (asI a0 x9 20 (42 + x11) 1).bind fun h12 => some h12 else some a0) = some h1 ∧ _
      rw [ez.2, hb]
      by_cases h64 : v < 64
      · rw [if_pos (show nI v < 64 from lt_lit (n := 64) h64 (by omega)), ms_r19 ms0, Option.bind_some, ms_r20 ms0, Option.bind_some, lv, Option.bind_some, show (42 : Int32) + nI v = nI (42 + v) from by rw [show (42 : Int32) = nI 42 from rfl, nI_add], asI_n (ms_k19 ms0) (by omega) (by omega), Option.bind_some]
        refine ⟨_, rfl, ch_si rfl, fun i hi => ?_⟩
        rw [decide_eq_false (show ¬ 63 < v by omega), if_pos rfl, gi_si]
        by_cases e : i = 42 + v
        · rw [if_pos ⟨rfl, e⟩, e, iset_eq]
        · rw [if_neg (fun z => e z.2), iset_ne e]; exact y0.2.2.1 i hi
      · rw [if_neg (show ¬ nI v < 64 from nlt_lit (n := 64) (by omega) (by omega))]
        refine ⟨a0, rfl, ch_rf _ _, fun i hi => ?_⟩
        rw [decide_eq_true (show 63 < v by omega), if_neg (by decide)]; exact y0.2.2.1 i hi
    obtain ⟨h1, f1, c1, g1⟩ := mid
    dsimp only at f1 ⊢
    rw [ms_r20 ms0] at f1
    rw [f1, Option.bind_some]
    have y1 := MY_told y0 c1 g1
    have k6 := tK_6 B n (zi z.1)
    obtain ⟨m1, m2, _⟩ := mK_3 _ k6
    rw [ms_I y1.1.1.1, y1.1.2.1.2.1, Option.bind_some]
    refine ⟨h1, ?_, c9.tr (c1.mo fun a k w => Or.inr (Or.inl w)), y1, P0⟩
    by_cases h2 : tK B n (zi z.1) = 2
    · rw [if_pos h2, if_pos (show nI (mK (tK B n (zi z.1))) = 3 by rw [m1.mpr h2]; rfl)]
    · rw [if_neg h2, if_neg (show ¬ nI (mK (tK B n (zi z.1))) = 3 from fun w => h2 (m1.mp (nI_inj (b := 3) (by omega) (by omega) w)))]
theorem wall_n {m n : Nat} {B : Nat → Nat} {G : Nat → Bool} {T : Nat → Int32} : ∀ d (h : HA) (ρ : ZS) fu, n - zi ρ < d → d < fu → MY h m n B (zC ρ) G T ρ → PJ B n (fsr 1) ρ →
    match slot B n 1 0 ρ with
    | .inl q => ∃ h1, X8_wallLine_L0 m fu h = some (0, h1) ∧ ch (Wty m) h h1 ∧ gi h1 m 16 = nI q
    | .inr z => ∃ h1, X8_wallLine_L0 m fu h = some (1, h1) ∧ ch (Wty m) h h1 ∧ MY h1 m n B (zC (wlp B n (n - zi z.1) z.1)) G T (wlp B n (n - zi z.1) z.1) := by
  intro d
  induction d with
  | zero => intro h ρ fu h1; omega
  | succ d ih =>
    intro h ρ fu h1 h2 y hP
    obtain ⟨g, rfl⟩ : ∃ g, fu = g + 1 := ⟨fu - 1, by omega⟩
    have w := wall1_n y hP g
    cases s0 : slot B n 1 0 ρ with
    | inl q => rw [s0] at w; exact w
    | inr z =>
      rw [s0] at w
      obtain ⟨h3, e3, c3, y3, P3⟩ := w
      dsimp only
      rw [e3]
      have zl := (slot_ok hP s0).2.1
      have zn := P3.1
      by_cases hk : tK B n (zi z.1) = 2
      · obtain ⟨x, ex⟩ := slot_wall hk
        have hih := ih h3 z.1 g (by omega) (by omega) y3 P3
        rw [ex] at hih
        obtain ⟨h4, e4, c4, y4⟩ := hih
        have xl := (slot_ok P3 ex).2.1
        have xn := (slot_ok P3 ex).1.1
        have ew : wlp B n (n - zi z.1) z.1 = wlp B n (n - zi x.1) x.1 := by
          rw [show n - zi z.1 = (n - zi z.1 - 1) + 1 by omega, wlp, if_pos hk, ex]
          exact wlp_fu _ _ x.1 xn (by omega) (Nat.le_refl _)
        rw [if_pos hk, ew]
        exact ⟨h4, e4, c3.tr c4, y4⟩
      · have ew : wlp B n (n - zi z.1) z.1 = z.1 := by
          cases n - zi z.1 with
          | zero => rfl
          | succ j => rw [wlp, if_neg hk]
        rw [if_neg hk, ew]
        exact ⟨h3, rfl, c3, y3⟩
