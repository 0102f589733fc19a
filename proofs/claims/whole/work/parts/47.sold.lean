/-! SOLD, BENCH, IDLE -/
def klo (C L : CR) (n e j : Nat) : Nat := kwd C L (fun _ => 0) n j e (jg C j 3) (jg C j 1) 0
def lss (C L : CR) (n e j : Nat) : Int32 := nI (pc (kn C L (fun _ => 0) n j)) - nI (pc (klo C L n e j))
theorem loss_c {h : HA} {b c l j : Nat} {C L : CR} {n : Nat} (hp : HP h b c l C L (fun _ => 0) n) (k : KN h b C L (fun _ => 0) n) (hj : j < cJ C) : X1_lossOfSold h (b + 46) (nI j) = some (lss C L n 1 j) := by
  have hL := hp_L hp
  unfold X1_lossOfSold
  rw [if_pos (hb_t hp.1), fx_r5 hp.1.1, Option.bind_some, kn_ld hp k hj, Option.bind_some, bitc_n _ (kn_lt hL hp.2.2.1), Option.bind_some, show X1_learnedFrom h (b + 46) (nI j) 1 = _ from learnedFrom_c (e := 1) hp hj (by omega), Option.bind_some, bitc_n _ (kwd_lt hL hp.2.2.1), Option.bind_some]
  rfl
theorem gain_c {h : HA} {b c l j : Nat} {C L : CR} {n : Nat} (hp : HP h b c l C L (fun _ => 0) n) (k : KN h b C L (fun _ => 0) n) (hj : j < cJ C) : X1_gainOfThird h (b + 46) (nI j) = some (- lss C L n 11 j) := by
  have hL := hp_L hp
  unfold X1_gainOfThird
  rw [if_pos (hb_t hp.1), show X1_learnedFrom h (b + 46) (nI j) 11 = _ from learnedFrom_c (e := 11) hp hj (by omega), Option.bind_some, bitc_n _ (kwd_lt hL hp.2.2.1), Option.bind_some, fx_r5 hp.1.1, Option.bind_some, kn_ld hp k hj, Option.bind_some, bitc_n _ (kn_lt hL hp.2.2.1), Option.bind_some]
  unfold lss
  rw [Int32.neg_sub]
  rfl
theorem soldBy_n {h : HA} {m c t j e : Nat} {C L : CR} {n : Nat} (mp : MP h m c t C L (fun _ => 0) n) (hj : j < cJ C) (he : e < 16) : X8_soldBy h m (nI j) (nI e) = some (lss C L n e j) := by
  have hL := mp_L mp
  have hw := mp.2.1
  unfold X8_soldBy
  rw [if_pos (ms_c mp.1.1.1), known_n mp hj, Option.bind_some, ones_n _ (kn_lt hL mp.2.2.2.2.1), Option.bind_some, jo3 mp.1.1 hw.2.1 hj, Option.bind_some, knownIn_n mp hj he (hw.2.1 j hj).2.2.2.2.1, Option.bind_some, ones_n _ (kwd_lt hL mp.2.2.2.2.1), Option.bind_some]
  rfl
def dea (C L : CR) (n : Nat) : Int32 := (amx (lss C L n 1) (-1) (-1) (cJ C)).1
theorem dearest_c {h : HA} {b c l : Nat} {C L : CR} {n : Nat} (hp : HP h b c l C L (fun _ => 0) n) (k : KN h b C L (fun _ => 0) n) : X1_dearest h (b + 46) = some (dea C L n) := by
  have h6 := hb_6 hp.1
  unfold X1_dearest
  have hl2 := loop_st (fun fu j (z : Int32 × Int32) => X1_dearest_L6 h (b + 46) fu z.1 z.2 (nI j)) (fun j => amx (lss C L n 1) (-1) (-1) j) (some (dea C L n)) (cJ C) (fun j fu hj => by
    try simp only []
    rw [X1_dearest_L6, hb_c hp.1, Option.bind_some, hb_nj hp.1, Option.bind_some, if_pos (lt_lit hj (by omega)), loss_c hp k hj, Option.bind_some, nI_p1, amx]
    by_cases e : (amx (lss C L n 1) (-1) (-1) j).2 < lss C L n 1 j
    · rw [if_pos e, if_pos e]
    · rw [if_neg e, if_neg e])
    (fun fu => by (try simp only []); rw [X1_dearest_L6, hb_c hp.1, Option.bind_some, hb_nj hp.1, Option.bind_some, if_neg (nlt_lit (Nat.le_refl _) (by omega))]; rfl) FU (FU_gt (by omega))
  rw [if_pos (hb_t hp.1), show X1_dearest_L6 h (b + 46) FU (-1) (-1) 0 = _ from hl2, Option.bind_some]
theorem dearest_n {h : HA} {m c t : Nat} {C L : CR} {n : Nat} (mp : MP h m c t C L (fun _ => 0) n) : X8_dearest h m = some (dea C L n) := by
  have hs := mp.1.1
  have h6 := hs.2.1.2.2.1.1
  unfold X8_dearest
  have hl2 := loop_st (fun fu j (z : Int32 × Int32) => X8_dearest_L6 h m fu z.1 z.2 (nI j)) (fun j => amx (lss C L n 1) (-1) (-1) j) (some (dea C L n)) (cJ C) (fun j fu hj => by
    try simp only []
    rw [X8_dearest_L6, ms_I hs.1, hs.2.2.2.2.2.2.2.1, Option.bind_some, if_pos (lt_lit hj (by omega)), show X8_soldBy h m (nI j) 1 = _ from soldBy_n (e := 1) mp hj (by omega), Option.bind_some, nI_p1, greater_n, amx]
    dsimp only [lett]
    rw [Option.bind_some]
    by_cases e : (amx (lss C L n 1) (-1) (-1) j).2 < lss C L n 1 j
    · rw [if_pos e, if_pos e, if_pos e]
    · rw [if_neg e, if_neg e, if_neg e])
    (fun fu => by (try simp only []); rw [X8_dearest_L6, ms_I hs.1, hs.2.2.2.2.2.2.2.1, Option.bind_some, if_neg (nlt_lit (Nat.le_refl _) (by omega))]; rfl) FU (FU_gt (by omega))
  rw [if_pos (ms_c hs.1), show X8_dearest_L6 h m FU (-1) (-1) 0 = _ from hl2, Option.bind_some]
def qsold (D : DT) (x y j v : Int32) : Int32 := if (rg x (dN D 0) && rg y (dN D 1)) = true then (let C := dC D (tn x); let L := dR D 1 (tn y);
  if cJ C = 0 then -1 else if j = -1 then dea C L (stD D x y) else if rg j (cJ C) = true then (if v = 0 then lss C L (stD D x y) 1 (tn j) else - lss C L (stD D x y) 11 (tn j)) else -1) else -1
theorem c_sold {h : HA} {b : Nat} {D : DT} {α : Nat → Nat} {lm : Nat → Nat → Nat} {im : Nat → Option (Nat × DT)} (hi : IV h b D α lm im) (x y j v : Int32) : AC b D α lm im (X7_sold h b x y j v) (qsold D x y j v) := by
  unfold X7_sold qsold
  rw [if_pos (fx_c hi.1)]
  rcases hallOf_ok hi x y with ⟨h1, h2, e2, i2⟩ | ⟨a, t, h2, ha, ht, rfl, rfl, hr, e2, i2, hp⟩
  · rw [e2, h1]; exact ⟨h2, rfl, i2⟩
  · have h6 := hb_6 hp.1
    rw [e2, hr, Option.bind_some, if_pos rfl, est (iv_w hi) ha ht, tnE (iv_w hi) (by omega) ha, tnE (iv_w hi) (by omega) ht]
    dsimp only
    rw [hb_c hp.1, Option.bind_some, hb_nj hp.1, Option.bind_some]
    by_cases h0 : cJ (dC D a) = 0
    · rw [if_pos (by rw [h0]; rfl), if_pos h0]; exact ⟨h2, rfl, i2⟩
    · obtain ⟨h5, e5, i5, p5, k5⟩ := learnAll_ok i2 hp
      rw [if_neg (show ¬ nI _ = 0 from fun z => h0 (nI_inj (b := 0) (by omega) (by omega) z)), if_neg h0, e5, Option.bind_some]
      refine ⟨h5, ?_, i5⟩
      by_cases hj1 : j = -1
      · rw [if_pos hj1, if_pos hj1, dearest_c p5 k5]; rfl
      · rw [if_neg hj1, if_neg hj1, hb_c p5.1, Option.bind_some, hasJudge_c (hb_cc p5.1), Option.bind_some]
        cases hj : rg j (cJ (dC D a)) with
        | false => rfl
        | true =>
          obtain ⟨q, hq, rfl⟩ := (rg_iff (by omega)).mp hj
          rw [if_neg (by decide), if_pos rfl, tn_nI (show q < 2 ^ 31 by omega)]
          by_cases hv : v = 0
          · rw [if_pos hv, if_pos hv, loss_c p5 k5 hq]; rfl
          · rw [if_neg hv, if_neg hv, gain_c p5 k5 hq]; rfl
theorem m_sold {h : HA} {b : Nat} {D : DT} {α : Nat → Nat} {lm : Nat → Nat → Nat} {im : Nat → Option (Nat × DT)} (hi : IV h b D α lm im) (x y j v : Int32) : AC b D α lm im (X8_sold h (b + 55) x y j v) (qsold D x y j v) := by
  unfold X8_sold qsold
  rw [if_pos (ms_c (iv_ms hi)), ms_p (iv_ms hi), Option.bind_some]
  have hi0 := IV_m0 hi 0 0
  rcases layTrial_ok hi0 x y with ⟨h1, h2, e2, i2⟩ | ⟨a, t, h2, ha, ht, rfl, rfl, hr, e2, i2, mp⟩
  · rw [e2, h1]; exact ⟨h2, rfl, i2⟩
  · have hs := mp.1.1
    have h6 := hs.2.1.2.2.1.1
    rw [e2, hr, Option.bind_some, if_pos rfl, est (iv_w hi) ha ht, tnE (iv_w hi) (by omega) ha, tnE (iv_w hi) (by omega) ht]
    dsimp only
    refine ⟨h2, ?_, i2⟩
    rw [if_neg (by decide), ms_I hs.1, hs.2.2.2.2.2.2.2.1, Option.bind_some, Option.bind_some]
    by_cases h0 : cJ (dC D a) = 0
    · rw [if_pos (by rw [h0]; rfl), if_pos h0]
    · rw [if_neg (show ¬ nI _ = 0 from fun z => h0 (nI_inj (b := 0) (by omega) (by omega) z)), if_neg h0, in_m1 j (by omega), Option.bind_some]
      by_cases hj1 : j = -1
      · rw [if_neg (by simp [hj1, bI]), if_pos hj1, if_pos hj1, dearest_n mp]; rfl
      · rw [if_neg hj1, if_neg hj1]
        simp only [hj1, decide_false, Bool.false_or]
        cases hj : rg j (cJ (dC D a)) with
        | false => rfl
        | true =>
          obtain ⟨q, hq, rfl⟩ := (rg_iff (by omega)).mp hj
          rw [if_neg (by decide), if_pos rfl, tn_nI (show q < 2 ^ 31 by omega)]
          by_cases hv : v = 0
          · rw [if_pos hv, if_pos hv, show X8_soldBy h2 (b + 55) (nI q) 1 = _ from soldBy_n (e := 1) mp hq (by omega)]; rfl
          · rw [if_neg hv, if_neg hv, show X8_soldBy h2 (b + 55) (nI q) 11 = _ from soldBy_n (e := 11) mp hq (by omega)]; rfl
/-! BENCH, START -/
def sumf (v : Nat → Nat) : Nat → Nat
  | 0 => 0
  | n + 1 => sumf v n + v n
def all1 (C L : CR) (th : Nat → Nat) (n s j : Nat) : Nat := pc (kwd C L th n j (eW C j) (jg C j 3) (jg C j 1) s)
def allK (C L : CR) (th : Nat → Nat) (n s : Nat) : Nat := sumf (all1 C L th n s) (cJ C)
def fcK (C L : CR) (n j s : Nat) : Nat := pc (kwd C L (fun _ => 0) n j (eW C j) (jg C j 3) s 0)
theorem allLearned_c {h : HA} {b c l s : Nat} {C L : CR} {th : Nat → Nat} {n : Nat} (hp : HP h b c l C L th n) : X1_allLearned h (b + 46) (nI s) = some (nI (allK C L th n s)) := by
  have h6 := hb_6 hp.1
  have hL := hp_L hp
  unfold X1_allLearned
  have hl2 := loop_st (fun fu j (z : Int32) => X1_allLearned_L4 h (b + 46) (nI s) fu z (nI j)) (fun j => nI (sumf (all1 C L th n s) j)) (some (nI (allK C L th n s))) (cJ C) (fun j fu hj => by
    try simp only []
    have h3 := ((hp_wf hp).2.1 j hj).2.2.2.2.1
    rw [X1_allLearned_L4, hb_c hp.1, Option.bind_some, hb_nj hp.1, Option.bind_some, if_pos (lt_lit hj (by omega)), Option.bind_some, hb_o3 hp.1 hj, Option.bind_some, ownSides_c hp.1 hj, Option.bind_some, gI_n (fx_hk hp.1.1), hp.2.1, Option.bind_some, wordsOn_0 hp (Nat.le_refl _) hj (eW_lt C j) h3, Option.bind_some, bitc_n _ (kwd_lt hL hp.2.2.1), Option.bind_some, nI_add, nI_p1]; rfl)
    (fun fu => by (try simp only []); rw [X1_allLearned_L4, hb_c hp.1, Option.bind_some, hb_nj hp.1, Option.bind_some, if_neg (nlt_lit (Nat.le_refl _) (by omega))]; rfl) FU (FU_gt (by omega))
  rw [if_pos (hb_t hp.1), show X1_allLearned_L4 h (b + 46) (nI s) FU 0 0 = _ from hl2, Option.bind_some]
theorem knownFacing_c {h : HA} {b c l s j : Nat} {C L : CR} {n : Nat} (hp : HP h b c l C L (fun _ => 0) n) (hj : j < cJ C) (hs : s < 4) : X1_knownFacing h (b + 46) (nI j) (nI s) = some (nI (fcK C L n j s)) := by
  have hL := hp_L hp
  have h3 := ((hp_wf hp).2.1 j hj).2.2.2.2.1
  unfold X1_knownFacing
  rw [if_pos (hb_t hp.1), hb_c hp.1, Option.bind_some, show X0_of h c (nI j) 1 = _ from of_c (w := 1) (hb_cc hp.1) hj (by omega), Option.bind_some, Option.bind_some, hb_o3 hp.1 hj, Option.bind_some, ownSides_c hp.1 hj, Option.bind_some, gI_n (fx_hk hp.1.1), hp.2.1, Option.bind_some, show X1_wordsOn h (b + 46) (nI j) (nI (jg C j 3)) (nI (eW C j)) (nI s - nI (jg C j 1)) 0 (nI n) = _ from wordsOn_c (later := 0) hp (Nat.le_refl _) hj (eW_lt C j) h3 hs, Option.bind_some, bitc_n _ (kwd_lt hL hp.2.2.1), Option.bind_some]
  rfl
def bch (C L : CR) (n j : Nat) : Int32 := (amx (fun s => nI (fcK C L n j s)) 0 (-1) 4).1
def sth (C L : CR) (n : Nat) : Int32 := (amx (fun s => nI (allK C L (fun _ => 0) n s)) 0 (-1) 4).1
def qbench (D : DT) (x y j : Int32) : Int32 := if (rg x (dN D 0) && rg y (dN D 1)) = true then (let C := dC D (tn x); let L := dR D 1 (tn y);
  if j = -1 then sth C L (stD D x y) else if rg j (cJ C) = true then bch C L (stD D x y) (tn j) else -1) else -1
theorem bench41 {h : HA} {c : Nat} {j : Int32} (v : Nat → Nat) (hv : ∀ s, s < 4 → (if j = -1 then (X1_allLearned h c (nI s)).bind fun x14 => some x14 else (X1_knownFacing h c j (nI s)).bind fun x16 => some x16) = some (nI (v s))) :
    X7_bench_L41 h j c FU 0 (-1) 0 = some (amx (fun s => nI (v s)) 0 (-1) 4).1 := by
  have hl2 := loop_st (fun fu s (z : Int32 × Int32) => X7_bench_L41 h j c fu z.1 z.2 (nI s)) (fun s => amx (fun s => nI (v s)) 0 (-1) s) (some (amx (fun s => nI (v s)) 0 (-1) 4).1) 4 (fun s fu hs => by
    try simp only []
    rw [X7_bench_L41, if_pos (lt4 hs)]
    dsimp only
    rw [hv s hs, Option.bind_some, nI_p1, amx]
    by_cases e : (amx (fun s => nI (v s)) 0 (-1) s).2 < nI (v s)
    · rw [if_pos e, if_pos e]
    · rw [if_neg e, if_neg e])
    (fun fu => by (try simp only []); rw [X7_bench_L41, if_neg (by decide)]) FU (FU_gt (by omega))
  exact hl2
theorem c_bench {h : HA} {b : Nat} {D : DT} {α : Nat → Nat} {lm : Nat → Nat → Nat} {im : Nat → Option (Nat × DT)} (hi : IV h b D α lm im) (x y j : Int32) : AC b D α lm im (X7_bench h b x y j) (qbench D x y j) := by
  unfold X7_bench qbench
  rw [if_pos (fx_c hi.1)]
  rcases hallOf_ok hi x y with ⟨h1, h2, e2, i2⟩ | ⟨a, t, h2, ha, ht, rfl, rfl, hr, e2, i2, hp⟩
  · rw [e2, h1]; exact ⟨h2, rfl, i2⟩
  · have h6 := hb_6 hp.1
    rw [e2, hr, Option.bind_some, if_pos rfl, est (iv_w hi) ha ht, tnE (iv_w hi) (by omega) ha, tnE (iv_w hi) (by omega) ht]
    dsimp only
    refine ⟨h2, ?_, i2⟩
    by_cases hj1 : j = -1
    · rw [if_pos hj1, if_pos hj1, Option.bind_some]
      dsimp only
      rw [bench41 (fun s => allK (dC D a) (dR D 1 t) (fun _ => 0) (so (dC D a) (dR D 1 t) (llen (dR D 1 t))) s) (fun s _ => by rw [if_pos hj1, allLearned_c hp]; rfl)]; rfl
    · rw [if_neg hj1, if_neg hj1, hb_c hp.1, Option.bind_some, hasJudge_c (hb_cc hp.1), Option.bind_some]
      cases hj : rg j (cJ (dC D a)) with
      | false => rfl
      | true =>
        obtain ⟨q, hq, rfl⟩ := (rg_iff (by omega)).mp hj
        rw [if_neg (by decide), if_pos rfl, Option.bind_some, tn_nI (show q < 2 ^ 31 by omega)]
        dsimp only
        rw [bench41 (fun s => fcK (dC D a) (dR D 1 t) (so (dC D a) (dR D 1 t) (llen (dR D 1 t))) q s) (fun s hs => by rw [if_neg hj1, knownFacing_c hp hq hs]; rfl)]; rfl
theorem benchOf_n {h : HA} {m c t j : Nat} {C L : CR} {n : Nat} (mp : MP h m c t C L (fun _ => 0) n) (hj : j < cJ C) : X8_benchOf h m (nI j) = some (bch C L n j) := by
  have hs := mp.1.1
  have hw := mp.2.1
  have hL := mp_L mp
  unfold X8_benchOf
  have hl2 := loop_st (fun fu s (z : Int32 × Int32) => X8_benchOf_L7 h m (nI j) fu z.1 z.2 (nI s)) (fun s => amx (fun s => nI (fcK C L n j s)) 0 (-1) s) (some (bch C L n j)) 4 (fun s fu hs4 => by
    try simp only []
    rw [X8_benchOf_L7, if_pos (lt4 hs4), earsOf_n hs hw.2.1 hj, Option.bind_some, jo3 hs hw.2.1 hj, Option.bind_some, show X8_knownFrom h m (nI j) (nI s) 0 (nI (eW C j)) (nI (jg C j 3)) = _ from knownFrom_n (later := 0) mp hj hs4 (by omega) (eW_lt C j) (hw.2.1 j hj).2.2.2.2.1, Option.bind_some, ones_n _ (kwd_lt hL mp.2.2.2.2.1), Option.bind_some, nI_p1, greater_n, amx]
    dsimp only [lett]
    rw [Option.bind_some]
    show X8_benchOf_L7 h m (nI j) fu (if _ < nI (fcK C L n j s) then _ else _) (if _ < nI (fcK C L n j s) then _ else _) _ = _
    by_cases e : (amx (fun s => nI (fcK C L n j s)) 0 (-1) s).2 < nI (fcK C L n j s)
    · rw [if_pos e, if_pos e, if_pos e]; rfl
    · rw [if_neg e, if_neg e, if_neg e])
    (fun fu => by (try simp only []); rw [X8_benchOf_L7, if_neg (by decide)]; rfl) FU (FU_gt (by omega))
  rw [if_pos (ms_c hs.1), show X8_benchOf_L7 h m (nI j) FU 0 (-1) 0 = _ from hl2, Option.bind_some]
theorem start17 {h : HA} {m c t s : Nat} {C L : CR} {n : Nat} (mp : MP h m c t C L (fun _ => 0) n) (hs4 : s < 4) : X8_startHour_L17 h m (nI s) FU 0 0 = some (nI (allK C L (fun _ => 0) n s)) := by
  have hs := mp.1.1
  have hw := mp.2.1
  have hL := mp_L mp
  have h6 := hs.2.1.2.2.1.1
  exact loop_st (fun fu j (z : Int32) => X8_startHour_L17 h m (nI s) fu z (nI j)) (fun j => nI (sumf (all1 C L (fun _ => 0) n s) j)) (some (nI (allK C L (fun _ => 0) n s))) (cJ C) (fun j fu hj => by
    try simp only []
    rw [X8_startHour_L17, ms_I hs.1, hs.2.2.2.2.2.2.2.1, Option.bind_some, if_pos (lt_lit hj (by omega)), jo1 hs hw.2.1 hj, Option.bind_some, earsOf_n hs hw.2.1 hj, Option.bind_some, jo3 hs hw.2.1 hj, Option.bind_some, knownFrom_n mp hj (hw.2.1 j hj).2.2.1 (by omega) (eW_lt C j) (hw.2.1 j hj).2.2.2.2.1, Option.bind_some, ones_n _ (kwd_lt hL mp.2.2.2.2.1), Option.bind_some, nI_add, nI_p1]; rfl)
    (fun fu => by (try simp only []); rw [X8_startHour_L17, ms_I hs.1, hs.2.2.2.2.2.2.2.1, Option.bind_some, if_neg (nlt_lit (Nat.le_refl _) (by omega))]; rfl) FU (FU_gt (by omega))
theorem startHour_n {h : HA} {m c t : Nat} {C L : CR} {n : Nat} (mp : MP h m c t C L (fun _ => 0) n) : X8_startHour h m = some (sth C L n) := by
  have hs := mp.1.1
  unfold X8_startHour
  have hl2 := loop_st (fun fu s (z : Int32 × Int32) => X8_startHour_L6 h m fu z.1 z.2 (nI s)) (fun s => amx (fun s => nI (allK C L (fun _ => 0) n s)) 0 (-1) s) (some (sth C L n)) 4 (fun s fu hs4 => by
    try simp only []
    rw [X8_startHour_L6, if_pos (lt4 hs4), start17 mp hs4, Option.bind_some, nI_p1, greater_n, amx]
    dsimp only [lett]
    rw [Option.bind_some]
    by_cases e : (amx (fun s => nI (allK C L (fun _ => 0) n s)) 0 (-1) s).2 < nI (allK C L (fun _ => 0) n s)
    · rw [if_pos e, if_pos e, if_pos e]
    · rw [if_neg e, if_neg e, if_neg e])
    (fun fu => by (try simp only []); rw [X8_startHour_L6, if_neg (by decide)]; rfl) FU (FU_gt (by omega))
  rw [if_pos (ms_c hs.1), show X8_startHour_L6 h m FU 0 (-1) 0 = _ from hl2, Option.bind_some]
theorem m_bench {h : HA} {b : Nat} {D : DT} {α : Nat → Nat} {lm : Nat → Nat → Nat} {im : Nat → Option (Nat × DT)} (hi : IV h b D α lm im) (x y j : Int32) : AC b D α lm im (X8_bench h (b + 55) x y j) (qbench D x y j) := by
  unfold X8_bench qbench
  rw [if_pos (ms_c (iv_ms hi)), ms_p (iv_ms hi), Option.bind_some]
  have hi0 := IV_m0 hi 0 0
  rcases layTrial_ok hi0 x y with ⟨h1, h2, e2, i2⟩ | ⟨a, t, h2, ha, ht, rfl, rfl, hr, e2, i2, mp⟩
  · rw [e2, h1]; exact ⟨h2, rfl, i2⟩
  · have hs := mp.1.1
    have h6 := hs.2.1.2.2.1.1
    rw [e2, hr, Option.bind_some, if_pos rfl, est (iv_w hi) ha ht, tnE (iv_w hi) (by omega) ha, tnE (iv_w hi) (by omega) ht]
    dsimp only
    refine ⟨h2, ?_, i2⟩
    rw [if_neg (by decide), ms_I hs.1, hs.2.2.2.2.2.2.2.1, Option.bind_some, in_m1 j (by omega), Option.bind_some]
    by_cases hj1 : j = -1
    · rw [if_neg (by simp [hj1, bI]), if_pos hj1, if_pos hj1, startHour_n mp]; rfl
    · rw [if_neg hj1, if_neg hj1]
      simp only [hj1, decide_false, Bool.false_or]
      cases hj : rg j (cJ (dC D a)) with
      | false => rfl
      | true =>
        obtain ⟨q, hq, rfl⟩ := (rg_iff (by omega)).mp hj
        rw [if_neg (by decide), if_pos rfl, tn_nI (show q < 2 ^ 31 by omega), benchOf_n mp hq]; rfl
/-! IDLE -/
def idf (R : CR) (k : Nat → Nat) : Nat → Int32
  | 0 => shlI 1 (nI (llen R)) - 1
  | n + 1 => if rby R (k n) = 1000 then idf R k n else idf R k n &&& (shlI 1 (nI (rby R (k n))) ^^^ (-1))
def qidle (D : DT) (x y l : Int32) : Int32 := if ((rg x (dN D 0) && rg y (dN D 1)) && rg l (dN D 2)) = true then idf (dR D 2 (tn l)) (KD D x y) (cJ (dC D (tn x))) else -1
theorem c_idle {h : HA} {b : Nat} {D : DT} {α : Nat → Nat} {lm : Nat → Nat → Nat} {im : Nat → Option (Nat × DT)} (hi : IV h b D α lm im) (x y l : Int32) : AC b D α lm im (X7_idle h b x y l) (qidle D x y l) := by
  unfold X7_idle qidle
  rw [if_pos (fx_c hi.1)]
  rcases listAt_ok hi (s := 2) (by omega) (by omega) l with ⟨h3, h4⟩ | ⟨r, hr, rfl, hr2, e4⟩
  · rw [show X7_listAt h b 2 l = _ from h4, h3, Bool.and_false, Option.bind_some]
    dsimp only
    rcases hallOf_ok hi x y with ⟨h1, h2, e2, i2⟩ | ⟨a, t, h2, ha, ht, rfl, rfl, hr, e2, i2, hp⟩
    · rw [e2]; exact ⟨h2, rfl, i2⟩
    · rw [e2]; exact ⟨h2, rfl, i2⟩
  · rw [show X7_listAt h b 2 (nI r) = _ from e4, hr2, Bool.and_true, Option.bind_some]
    dsimp only
    rcases hallOf_ok hi x y with ⟨h1, h2, e2, i2⟩ | ⟨a, t, h2, ha, ht, rfl, rfl, hr3, e2, i2, hp⟩
    · rw [e2, h1]; exact ⟨h2, rfl, i2⟩
    · obtain ⟨h5, e5, i5, p5, k5⟩ := learnAll_ok i2 hp
      have hL := hp_L hp
      have hll := iv_ll i5 (by omega) (by omega) hr
      have hR := iv_wl i5 (by omega) (by omega) hr
      have h6 := hb_6 hp.1
      rw [e2, hr3, Option.bind_some, if_pos rfl, eKD (iv_w hi) ha ht, tnE (iv_w hi) (by omega) ha, tnE (iv_w hi) (by omega) hr]
      dsimp only
      rw [e5, Option.bind_some, ll_len hll hR, Option.bind_some]
      refine ⟨h5, ?_, i5⟩
      generalize so (dC D a) (dR D 1 t) (llen (dR D 1 t)) = n at *
      have hl2 := loop_st (fun fu j (z : Int32) => X7_idle_L47 h5 (lm 2 r) (b + 46) fu z (nI j)) (fun j => idf (dR D 2 r) (kn (dC D a) (dR D 1 t) (fun _ => 0) n) j) (some (idf (dR D 2 r) (kn (dC D a) (dR D 1 t) (fun _ => 0) n) (cJ (dC D a)))) (cJ (dC D a)) (fun j fu hj => by
        try simp only []
        have hr8 := rby_c (dR D 2 r) (kn (dC D a) (dR D 1 t) (fun _ => 0) n j)
        have h8 := llen_8 hR
        rw [X7_idle_L47, hb_c p5.1, Option.bind_some, hb_nj p5.1, Option.bind_some, if_pos (lt_lit hj (by omega)), fx_r5 p5.1.1, Option.bind_some, kn_ld p5 k5 hj, Option.bind_some, ruleFor_c hll hR (kn_lt hL p5.2.2.1), Option.bind_some, nI_p1, idf]
        by_cases e : rby (dR D 2 r) (kn (dC D a) (dR D 1 t) (fun _ => 0) n j) = 1000
        · rw [if_pos ((onk_m1 (by omega)).mpr e), if_pos e]
        · rw [if_neg (fun z => e ((onk_m1 (by omega)).mp z)), if_neg e]
          unfold onk; rw [if_neg e])
        (fun fu => by (try simp only []); rw [X7_idle_L47, hb_c p5.1, Option.bind_some, hb_nj p5.1, Option.bind_some, if_neg (nlt_lit (Nat.le_refl _) (by omega))]) FU (FU_gt (by omega))
      rw [show X7_idle_L47 h5 (lm 2 r) (b + 46) FU (shlI 1 (nI (llen (dR D 2 r))) - 1) 0 = _ from hl2]; rfl
theorem m_idle {h : HA} {b : Nat} {D : DT} {α : Nat → Nat} {lm : Nat → Nat → Nat} {im : Nat → Option (Nat × DT)} (hi : IV h b D α lm im) (x y l : Int32) : AC b D α lm im (X8_idle h (b + 55) x y l) (qidle D x y l) := by
  have hn2 := (iv_w hi).2.1 2 (by omega)
  unfold X8_idle qidle
  rw [if_pos (ms_c (iv_ms hi)), ms_p (iv_ms hi), Option.bind_some]
  have hi0 := IV_m0 hi 0 0
  rw [hasLaw_n hi0, Option.bind_some]
  have i0 := IV_m0 hi0 47 l
  dsimp only
  cases hr : rg l (dN D 2) with
  | false => rw [Bool.and_false]; exact ⟨_, rfl, i0⟩
  | true =>
    obtain ⟨r, hr2, rfl⟩ := (rg_iff (by omega)).mp hr
    rw [if_neg (by decide), Bool.and_true]
    rcases layTrial_ok2 i0 x y with ⟨h1, h2, e2, i2⟩ | ⟨a, t, h2, ha, ht, rfl, rfl, hr3, e2, i2, mp, f2⟩
    · rw [e2, h1]; exact ⟨h2, rfl, i2⟩
    · have g47 : gi h2 (b + 55) 47 = nI r := by rw [f2 47 (by omega), iv_si]
      have hs := mp.1.1
      have h6 := mp.2.1.1.2.2.1.1
      have hL := mp_L mp
      have hR := iv_wl i2 (s := 2) (by omega) (by omega) hr2
      rw [e2, hr3, Option.bind_some, if_pos rfl, eKD (iv_w hi) ha ht, tnE (iv_w hi) (by omega) ha, tnE (iv_w hi) (by omega) hr2]
      dsimp only
      rw [if_neg (by decide), rules_n i2 hr2 g47, Option.bind_some]
      refine ⟨h2, ?_, i2⟩
      generalize so (dC D a) (dR D 1 t) (llen (dR D 1 t)) = n at *
      have hl2 := loop_st (fun fu j (z : Int32) => X8_idle_L37 h2 (b + 55) fu z (nI j)) (fun j => idf (dR D 2 r) (kn (dC D a) (dR D 1 t) (fun _ => 0) n) j) (some (idf (dR D 2 r) (kn (dC D a) (dR D 1 t) (fun _ => 0) n) (cJ (dC D a)))) (cJ (dC D a)) (fun j fu hj => by
        try simp only []
        have hr8 := rby_c (dR D 2 r) (kn (dC D a) (dR D 1 t) (fun _ => 0) n j)
        have h8 := llen_8 hR
        rw [X8_idle_L37, ms_I hs.1, hs.2.2.2.2.2.2.2.1, Option.bind_some, if_pos (lt_lit hj (by omega)), known_n mp hj, Option.bind_some, ruleBy_n i2 hr2 g47 (kn_lt hL mp.2.2.2.2.1), Option.bind_some, nI_p1, idf]
        by_cases e : rby (dR D 2 r) (kn (dC D a) (dR D 1 t) (fun _ => 0) n j) = 1000
        · rw [if_pos ((onk_m1 (by omega)).mpr e), if_pos e, Int32.and_self]
        · rw [if_neg (fun z => e ((onk_m1 (by omega)).mp z)), if_neg e]
          unfold onk; rw [if_neg e])
        (fun fu => by (try simp only []); rw [X8_idle_L37, ms_I hs.1, hs.2.2.2.2.2.2.2.1, Option.bind_some, if_neg (nlt_lit (Nat.le_refl _) (by omega))]) FU (FU_gt (by omega))
      rw [show X8_idle_L37 h2 (b + 55) FU (shlI 1 (nI (llen (dR D 2 r))) - 1) 0 = _ from hl2]; rfl
