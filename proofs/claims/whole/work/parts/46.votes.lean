/-! VOTES -/
theorem layVotes_ok {h : HA} {b : Nat} {D : DT} {α : Nat → Nat} {lm : Nat → Nat → Nat} {im : Nat → Option (Nat × DT)} (hi : IV h b D α lm im) (x y l : Int32) :
    (((rg x (dN D 0) && rg y (dN D 1)) && rg l (dN D 2)) = false ∧ ∃ h1, X8_layVotes h (b + 55) x y l = some (0, h1) ∧ IV h1 b D α lm im) ∨
    (∃ a t r h1, a < dN D 0 ∧ t < dN D 1 ∧ r < dN D 2 ∧ x = nI a ∧ y = nI t ∧ l = nI r ∧ ((rg x (dN D 0) && rg y (dN D 1)) && rg l (dN D 2)) = true ∧ X8_layVotes h (b + 55) x y l = some (1, h1) ∧ IV h1 b D α lm im ∧ MP h1 (b + 55) a t (dC D a) (dR D 1 t) (fun _ => 0) (so (dC D a) (dR D 1 t) (llen (dR D 1 t))) ∧ gi h1 (b + 55) 47 = nI r ∧
      ∀ j, j < cJ (dC D a) → gi h1 (b + 81) j = vby (dR D 2 r) (kn (dC D a) (dR D 1 t) (fun _ => 0) (so (dC D a) (dR D 1 t) (llen (dR D 1 t))) j)) := by
  have hn := (iv_w hi).2.1 2 (by omega)
  unfold X8_layVotes
  rw [if_pos (ms_c (iv_ms hi)), hasLaw_n hi, Option.bind_some]
  have i0 := IV_m0 hi 47 l
  dsimp only
  cases hr : rg l (dN D 2) with
  | false => left; exact ⟨Bool.and_false _, _, rfl, i0⟩
  | true =>
    obtain ⟨r, hr2, rfl⟩ := (rg_iff (by omega)).mp hr
    rw [if_neg (by decide)]
    rcases layTrial_ok2 i0 x y with ⟨h1, h2, e2, i2⟩ | ⟨a, t, h2, ha, ht, rfl, rfl, hr3, e2, i2, mp, f2⟩
    · left; rw [h1, e2]; exact ⟨rfl, h2, rfl, i2⟩
    · right
      have g47 : gi h2 (b + 55) 47 = nI r := by rw [f2 47 (by omega), iv_si]
      have h6 := mp.2.1.1.2.2.1.1
      rw [e2, Option.bind_some, hr3]
      dsimp only
      rw [if_neg (by decide)]
      unfold X8_findVotes
      rw [if_pos (ms_c (iv_ms i2))]
      obtain ⟨h3, e3, c3, v3⟩ := loop_inv (fun fu k (h : HA) => X8_findVotes_L2 (b + 55) fu h (nI k)) (fun k h1 => ch (fun a _ => a = b + 81) h2 h1 ∧ ∀ j, j < k → gi h1 (b + 81) j = vby (dR D 2 r) (kn (dC D a) (dR D 1 t) (fun _ => 0) (so (dC D a) (dR D 1 t) (llen (dR D 1 t))) j))
        (fun h1 => ch (fun a _ => a = b + 81) h2 h1 ∧ ∀ j, j < cJ (dC D a) → gi h1 (b + 81) j = vby (dR D 2 r) (kn (dC D a) (dR D 1 t) (fun _ => 0) (so (dC D a) (dR D 1 t) (llen (dR D 1 t))) j)) (cJ (dC D a)) (by
          intro k h1 fu hk hI
          obtain ⟨j1, j2⟩ := hI
          have mp1 := MP_ch mp j1 (fun a k w => by omega)
          have iv1 := IV_ch i2 j1 (fun x k w => Sc_m (by omega))
          have hs := mp1.1.1
          refine ⟨si h1 (b + 81) k (vby (dR D 2 r) (kn (dC D a) (dR D 1 t) (fun _ => 0) (so (dC D a) (dR D 1 t) (llen (dR D 1 t))) k)), ?_, j1.tr (ch_si rfl), fun j hj => ?_⟩
          · show X8_findVotes_L2 (b + 55) (fu + 1) h1 (nI k) = _
            rw [X8_findVotes_L2, ms_I hs.1, hs.2.2.2.2.2.2.2.1, Option.bind_some, if_pos (lt_lit hk (by omega)), ms_r48 hs.1, Option.bind_some, known_n mp1 hk, Option.bind_some, voteBy_n iv1 hr2 (by rw [j1.gi (by omega)]; exact g47) (kn_lt (mp_L mp1) mp1.2.2.2.2.1), Option.bind_some, asI_n (ms_k48 hs.1) (by omega) (by omega), Option.bind_some, nI_p1]
          · rw [gi_si]
            by_cases e : j = k
            · subst e; rw [if_pos ⟨rfl, rfl⟩]
            · rw [if_neg (by omega)]; exact j2 j (by omega)) (by
          intro h1 fu hI
          have hs := (MP_ch mp hI.1 (fun a k w => by omega)).1.1
          refine ⟨h1, ?_, hI⟩
          show X8_findVotes_L2 (b + 55) (fu + 1) h1 (nI (cJ (dC D a))) = _
          rw [X8_findVotes_L2, ms_I hs.1, hs.2.2.2.2.2.2.2.1, Option.bind_some, if_neg (nlt_lit (Nat.le_refl _) (by omega))]) h2 FU ⟨ch_rf _ _, fun j hj => by omega⟩ (FU_gt (by omega))
      refine ⟨a, t, r, h3, ha, ht, hr2, rfl, rfl, rfl, rfl, ?_, IV_ch i2 c3 (fun x k w => Sc_m (by omega)), MP_ch mp c3 (fun a k w => by omega), by rw [c3.gi (by omega)]; exact g47, v3⟩
      rw [show X8_findVotes_L2 (b + 55) FU h2 0 = _ from e3]; rfl
def KD (D : DT) (x y : Int32) (j : Nat) : Nat := kn (dC D (tn x)) (dR D 1 (tn y)) (fun _ => 0) (stD D x y) j
def VD (D : DT) (x y l : Int32) (j : Nat) : Int32 := vby (dR D 2 (tn l)) (KD D x y j)
theorem est {D : DT} (hd : WD D) {a t : Nat} (ha : a < dN D 0) (ht : t < dN D 1) : stD D (nI a) (nI t) = so (dC D a) (dR D 1 t) (llen (dR D 1 t)) := by unfold stD; rw [tnE hd (by omega) ha, tnE hd (by omega) ht]
theorem eKD {D : DT} (hd : WD D) {a t : Nat} (ha : a < dN D 0) (ht : t < dN D 1) : KD D (nI a) (nI t) = kn (dC D a) (dR D 1 t) (fun _ => 0) (so (dC D a) (dR D 1 t) (llen (dR D 1 t))) := by
  funext j; unfold KD; rw [est hd ha ht, tnE hd (by omega) ha, tnE hd (by omega) ht]
theorem eVD {D : DT} (hd : WD D) {a t r : Nat} (ha : a < dN D 0) (ht : t < dN D 1) (hr : r < dN D 2) : VD D (nI a) (nI t) (nI r) = fun j => vby (dR D 2 r) (kn (dC D a) (dR D 1 t) (fun _ => 0) (so (dC D a) (dR D 1 t) (llen (dR D 1 t))) j) := by
  funext j; unfold VD; rw [eKD hd ha ht, tnE hd (by omega) hr]
def qvotes (D : DT) (x y l j : Int32) : Int32 := if ((rg x (dN D 0) && rg y (dN D 1)) && rg l (dN D 2)) = true then (if j = -1 then vdI (vsum (VD D x y l) (cJ (dC D (tn x)))) else if rg j (cJ (dC D (tn x))) = true then VD D x y l (tn j) else -2) else -2
theorem c_votes {h : HA} {b : Nat} {D : DT} {α : Nat → Nat} {lm : Nat → Nat → Nat} {im : Nat → Option (Nat × DT)} (hi : IV h b D α lm im) (x y l j : Int32) : AC b D α lm im (X7_votes h b x y l j) (qvotes D x y l j) := by
  unfold X7_votes qvotes
  rw [if_pos (fx_c hi.1)]
  rcases listAt_ok hi (s := 2) (by omega) (by omega) l with ⟨h3, h4⟩ | ⟨r, hr, rfl, hr2, e4⟩
  · rw [show X7_listAt h b 2 l = _ from h4, h3, Bool.and_false, Option.bind_some]
    dsimp only
    rcases hallOf_ok hi x y with ⟨h1, h2, e2, i2⟩ | ⟨a, t, h2, ha, ht, rfl, rfl, hr, e2, i2, hp⟩
    · rw [e2]; exact ⟨h2, rfl, i2⟩
    · rw [e2]; exact ⟨h2, rfl, i2⟩
  · rw [show X7_listAt h b 2 (nI r) = _ from e4, hr2, Bool.and_true, Option.bind_some]
    dsimp only
    rcases hallOf_ok hi x y with ⟨h1, h2, e2, i2⟩ | ⟨a, t, h2, ha, ht, rfl, rfl, hr3, e2, i2, hp⟩
    · rw [e2, h1]; exact ⟨h2, rfl, i2⟩
    · obtain ⟨h5, e5, i5, p5, k5⟩ := learnAll_ok i2 hp
      have hL := hp_L hp
      have hll := iv_ll i5 (by omega) (by omega) hr
      have hR := iv_wl i5 (by omega) (by omega) hr
      have h6 := hb_6 hp.1
      rw [e2, hr3, Option.bind_some, if_pos rfl, eVD (iv_w hi) ha ht hr, tnE (iv_w hi) (by omega) ha]
      dsimp only
      rw [e5, Option.bind_some]
      refine ⟨h5, ?_, i5⟩
      by_cases hj1 : j = -1
      · have := vsum_b (fun j => vby (dR D 2 r) (kn (dC D a) (dR D 1 t) (fun _ => 0) (so (dC D a) (dR D 1 t) (llen (dR D 1 t))) j)) (cJ (dC D a))
        rw [if_pos hj1, if_pos hj1, show X7_tally h5 (b + 46) (lm 2 r) 0 = _ from tally_c (f := 0) p5 k5 hll hR (by omega), Option.bind_some]
        simp only [Nat.or_zero]
        rw [verdictOf_c (by omega) (by omega), Option.bind_some]
      · rw [if_neg hj1, if_neg hj1, hb_c p5.1, Option.bind_some, hasJudge_c (hb_cc p5.1), Option.bind_some]
        cases hj : rg j (cJ (dC D a)) with
        | false => rfl
        | true =>
          obtain ⟨q, hq, rfl⟩ := (rg_iff (by omega)).mp hj
          rw [if_neg (by decide), if_pos rfl, fx_r5 p5.1.1, Option.bind_some, kn_ld p5 k5 hq, Option.bind_some, voteBy_c hll hR (kn_lt hL p5.2.2.1), Option.bind_some, tn_nI (show q < 2 ^ 31 by omega)]
theorem m_votes {h : HA} {b : Nat} {D : DT} {α : Nat → Nat} {lm : Nat → Nat → Nat} {im : Nat → Option (Nat × DT)} (hi : IV h b D α lm im) (x y l j : Int32) : AC b D α lm im (X8_votes h (b + 55) x y l j) (qvotes D x y l j) := by
  unfold X8_votes qvotes
  rw [if_pos (ms_c (iv_ms hi)), ms_p (iv_ms hi), Option.bind_some]
  have hi0 := IV_m0 hi 0 0
  rcases layVotes_ok hi0 x y l with ⟨h1, h2, e2, i2⟩ | ⟨a, t, r, h2, ha, ht, hr, rfl, rfl, rfl, hc, e2, i2, mp, g47, vt⟩
  · rw [e2, h1]; exact ⟨h2, rfl, i2⟩
  · have hs := mp.1.1
    have h6 := hs.2.1.2.2.1.1
    rw [e2, hc, Option.bind_some, if_pos rfl, eVD (iv_w hi) ha ht hr, tnE (iv_w hi) (by omega) ha]
    refine ⟨h2, ?_, i2⟩
    dsimp only
    rw [if_neg (by decide), ms_I hs.1, hs.2.2.2.2.2.2.2.1, Option.bind_some, in_m1 j (by omega), Option.bind_some]
    by_cases hj1 : j = -1
    · rw [if_pos hj1, if_pos hj1, if_neg (by simp [hj1, bI]), verdict_n hs, Option.bind_some]
      rw [vsum_cong (g := fun j => vby (dR D 2 r) (kn (dC D a) (dR D 1 t) (fun _ => 0) (so (dC D a) (dR D 1 t) (llen (dR D 1 t))) j)) vt]
    · rw [if_neg hj1, if_neg hj1]
      simp only [hj1, decide_false, Bool.false_or]
      cases hj : rg j (cJ (dC D a)) with
      | false => rfl
      | true =>
        obtain ⟨q, hq, rfl⟩ := (rg_iff (by omega)).mp hj
        rw [if_neg (by decide), if_pos rfl, ms_r48 hs.1, Option.bind_some, ldI_n (ms_k48 hs.1) (by omega) (by omega), show b + 55 + 26 = b + 81 from rfl, vt q hq, Option.bind_some, tn_nI (show q < 2 ^ 31 by omega)]
/-! SWAY -/
def eO (C : CR) (j : Nat) : Nat := if jg C j 2 = 0 then 3 else 9
theorem eO_lt (C : CR) (j : Nat) : eO C j < 16 := by unfold eO; split <;> omega
def kno (C L : CR) (n j : Nat) : Nat := kwd C L (fun _ => 0) n j (eO C j) (jg C j 3) (jg C j 1) 0
def swb (C L R : CR) (n w j : Nat) : Bool := !decide (vdI (vsum (fun j => vby R (kn C L (fun _ => 0) n j)) (cJ C) - wgt (vby R (kn C L (fun _ => 0) n j)) + (if w = 0 then - wgt (vby R (kn C L (fun _ => 0) n j)) else wgt (vby R (kno C L n j)))) = vdI (vsum (fun j => vby R (kn C L (fun _ => 0) n j)) (cJ C)))
theorem lbo_c {h : HA} {b c l j : Nat} {C L : CR} {n : Nat} (hp : HP h b c l C L (fun _ => 0) n) (hj : j < cJ C) : X1_learnedByOtherEar h (b + 46) (nI j) = some (nI (kno C L n j)) := by
  have h2 := ((hp_wf hp).2.1 j hj).2.2.2.1
  unfold X1_learnedByOtherEar
  rw [if_pos (hb_t hp.1), hb_c hp.1, Option.bind_some, show X0_of h c (nI j) 2 = _ from of_c (w := 2) (hb_cc hp.1) hj (by omega), Option.bind_some]
  dsimp only [lett]
  have e : X0_sidesOf (if nI (jg C j 2) = 0 then 1 else 0) = some (nI (eO C j)) := by
    unfold eO
    by_cases e : jg C j 2 = 0
    · rw [if_pos (by rw [e]; rfl), if_pos e]; rfl
    · rw [if_neg (show ¬ nI _ = 0 from fun z => e (nI_inj (b := 0) (by omega) (by omega) z)), if_neg e]; rfl
  rw [e, Option.bind_some, learnedFrom_c hp hj (eO_lt C j)]; rfl
def qsway (D : DT) (x y l w : Int32) : Int32 := if (((rg x (dN D 0) && rg y (dN D 1)) && rg l (dN D 2)) && rg w 2) = true then nI (msk (swb (dC D (tn x)) (dR D 1 (tn y)) (dR D 2 (tn l)) (stD D x y) (tn w)) (cJ (dC D (tn x)))) else -1
theorem c_sway {h : HA} {b : Nat} {D : DT} {α : Nat → Nat} {lm : Nat → Nat → Nat} {im : Nat → Option (Nat × DT)} (hi : IV h b D α lm im) (x y l w : Int32) : AC b D α lm im (X7_sway h b x y l w) (qsway D x y l w) := by
  unfold X7_sway qsway
  rw [if_pos (fx_c hi.1)]
  rcases listAt_ok hi (s := 2) (by omega) (by omega) l with ⟨h3, h4⟩ | ⟨r, hr, rfl, hr2, e4⟩
  · rw [show X7_listAt h b 2 l = _ from h4, h3, Bool.and_false, Option.bind_some]
    dsimp only
    rcases hallOf_ok hi x y with ⟨h1, h2, e2, i2⟩ | ⟨a, t, h2, ha, ht, rfl, rfl, hr, e2, i2, hp⟩
    · rw [e2]; exact ⟨h2, rfl, i2⟩
    · rw [e2]; exact ⟨h2, rfl, i2⟩
  · rw [show X7_listAt h b 2 (nI r) = _ from e4, hr2, Bool.and_true, Option.bind_some]
    dsimp only
    rcases hallOf_ok hi x y with ⟨h1, h2, e2, i2⟩ | ⟨a, t, h2, ha, ht, rfl, rfl, hr3, e2, i2, hp⟩
    · rw [e2, h1]; exact ⟨h2, rfl, i2⟩
    · obtain ⟨h5, e5, i5, p5, k5⟩ := learnAll_ok i2 hp
      have hL := hp_L hp
      have hll := iv_ll i5 (by omega) (by omega) hr
      have hR := iv_wl i5 (by omega) (by omega) hr
      have h6 := hb_6 hp.1
      rw [e2, hr3, Option.bind_some, Bool.true_and, est (iv_w hi) ha ht, tnE (iv_w hi) (by omega) ha, tnE (iv_w hi) (by omega) ht, tnE (iv_w hi) (by omega) hr]
      dsimp only
      rcases i_nat w with hw | ⟨v, hv, rfl⟩
      · rw [if_pos hw, neg_rg hw]; exact ⟨h2, rfl, i2⟩
      · rw [if_neg (nI_lt0 hv), rg_n hv, tn_nI hv]
        by_cases hv2 : v < 2
        · rw [if_neg (show ¬ 1 < nI v from fun z => by have := (lt_n (a := 1) (by omega) hv).mp z; omega), if_pos (by simpa using hv2), e5, Option.bind_some, show X7_tally h5 (b + 46) (lm 2 r) 0 = _ from tally_c (f := 0) p5 k5 hll hR (by omega), Option.bind_some]
          simp only [Nat.or_zero]
          refine ⟨h5, ?_, i5⟩
          have hb := vsum_b (fun j => vby (dR D 2 r) (kn (dC D a) (dR D 1 t) (fun _ => 0) (so (dC D a) (dR D 1 t) (llen (dR D 1 t))) j)) (cJ (dC D a))
          have hl2 := loop_st (fun fu j (z : Int32) => X7_sway_L60 h5 (nI v) (lm 2 r) (b + 46) (iI (vsum (fun j => vby (dR D 2 r) (kn (dC D a) (dR D 1 t) (fun _ => 0) (so (dC D a) (dR D 1 t) (llen (dR D 1 t))) j)) (cJ (dC D a)))) fu z (nI j)) (fun j => nI (msk (swb (dC D a) (dR D 1 t) (dR D 2 r) (so (dC D a) (dR D 1 t) (llen (dR D 1 t))) v) j)) (some (nI (msk (swb (dC D a) (dR D 1 t) (dR D 2 r) (so (dC D a) (dR D 1 t) (llen (dR D 1 t))) v) (cJ (dC D a))))) (cJ (dC D a)) (fun j fu hj => by
            try simp only []
            have hkl := kn_lt (C := dC D a) hL (th := fun _ => 0) (n := so (dC D a) (dR D 1 t) (llen (dR D 1 t))) (j := j) p5.2.2.1
            have hkl2 : kno (dC D a) (dR D 1 t) (so (dC D a) (dR D 1 t) (llen (dR D 1 t))) j < 1024 := kwd_lt hL p5.2.2.1
            have w1 := wgt_b (vby (dR D 2 r) (kn (dC D a) (dR D 1 t) (fun _ => 0) (so (dC D a) (dR D 1 t) (llen (dR D 1 t))) j))
            have w2 := wgt_b (vby (dR D 2 r) (kno (dC D a) (dR D 1 t) (so (dC D a) (dR D 1 t) (llen (dR D 1 t))) j))
            have ej : (if nI v = 0 then some (-iI (wgt (vby (dR D 2 r) (kn (dC D a) (dR D 1 t) (fun _ => 0) (so (dC D a) (dR D 1 t) (llen (dR D 1 t))) j)))) else (X1_learnedByOtherEar h5 (b + 46) (nI j)).bind fun x28 => (X7_voteBy h5 (lm 2 r) x28).bind fun x30 => (X7_weight x30).bind fun x32 => some x32) = some (iI (if v = 0 then - wgt (vby (dR D 2 r) (kn (dC D a) (dR D 1 t) (fun _ => 0) (so (dC D a) (dR D 1 t) (llen (dR D 1 t))) j)) else wgt (vby (dR D 2 r) (kno (dC D a) (dR D 1 t) (so (dC D a) (dR D 1 t) (llen (dR D 1 t))) j)))) := by
              by_cases e : v = 0
              · rw [if_pos (by rw [e]; rfl), if_pos e, iI_neg]
              · rw [if_neg (show ¬ nI _ = 0 from fun z => e (nI_inj (b := 0) hv (by omega) z)), if_neg e, lbo_c p5 hj, Option.bind_some, voteBy_c hll hR hkl2, Option.bind_some, weight_c, Option.bind_some]
            have hbo : -1 ≤ (if v = 0 then - wgt (vby (dR D 2 r) (kn (dC D a) (dR D 1 t) (fun _ => 0) (so (dC D a) (dR D 1 t) (llen (dR D 1 t))) j)) else wgt (vby (dR D 2 r) (kno (dC D a) (dR D 1 t) (so (dC D a) (dR D 1 t) (llen (dR D 1 t))) j))) ∧ (if v = 0 then - wgt (vby (dR D 2 r) (kn (dC D a) (dR D 1 t) (fun _ => 0) (so (dC D a) (dR D 1 t) (llen (dR D 1 t))) j)) else wgt (vby (dR D 2 r) (kno (dC D a) (dR D 1 t) (so (dC D a) (dR D 1 t) (llen (dR D 1 t))) j))) ≤ 1 := by split <;> omega
            rw [X7_sway_L60, hb_c p5.1, Option.bind_some, hb_nj p5.1, Option.bind_some, if_pos (lt_lit hj (by omega)), fx_r5 p5.1.1, Option.bind_some, kn_ld p5 k5 hj, Option.bind_some, voteBy_c hll hR hkl, Option.bind_some, weight_c, Option.bind_some]
            dsimp only
            rw [ej, Option.bind_some, iI_sub, iI_add, verdictOf_c (by omega) (by omega), Option.bind_some, verdictOf_c (by omega) (by omega), Option.bind_some, nI_p1, ← msk_step (by omega)]
            by_cases e : vdI (vsum (fun j => vby (dR D 2 r) (kn (dC D a) (dR D 1 t) (fun _ => 0) (so (dC D a) (dR D 1 t) (llen (dR D 1 t))) j)) (cJ (dC D a)) - wgt (vby (dR D 2 r) (kn (dC D a) (dR D 1 t) (fun _ => 0) (so (dC D a) (dR D 1 t) (llen (dR D 1 t))) j)) + (if v = 0 then - wgt (vby (dR D 2 r) (kn (dC D a) (dR D 1 t) (fun _ => 0) (so (dC D a) (dR D 1 t) (llen (dR D 1 t))) j)) else wgt (vby (dR D 2 r) (kno (dC D a) (dR D 1 t) (so (dC D a) (dR D 1 t) (llen (dR D 1 t))) j)))) = vdI (vsum (fun j => vby (dR D 2 r) (kn (dC D a) (dR D 1 t) (fun _ => 0) (so (dC D a) (dR D 1 t) (llen (dR D 1 t))) j)) (cJ (dC D a)))
            · rw [if_pos e, if_neg (by unfold swb; simp only [e]; simp)]
            · rw [if_neg e, if_pos (by unfold swb; simp only [e]; simp)])
            (fun fu => by (try simp only []); rw [X7_sway_L60, hb_c p5.1, Option.bind_some, hb_nj p5.1, Option.bind_some, if_neg (nlt_lit (Nat.le_refl _) (by omega))]) FU (FU_gt (by omega))
          rw [show X7_sway_L60 h5 (nI v) (lm 2 r) (b + 46) (iI (vsum (fun j => vby (dR D 2 r) (kn (dC D a) (dR D 1 t) (fun _ => 0) (so (dC D a) (dR D 1 t) (llen (dR D 1 t))) j)) (cJ (dC D a)))) FU 0 0 = _ from hl2]; rfl
        · rw [if_pos (show 1 < nI v from (lt_n (a := 1) (by omega) hv).mpr (by omega)), if_neg (by simpa using hv2)]
          exact ⟨h2, rfl, i2⟩
theorem vby_v {R : CR} (hR : WL 2 R) (w : Nat) : vby R w = -1 ∨ vby R w = 0 ∨ vby R w = 1 := by
  unfold vby
  split
  · exact Or.inl rfl
  · rename_i h
    rcases rby_c R w with h1 | h1
    · exact Or.inr (rule_c hR h1).1
    · exact absurd h1 h
theorem m_sway {h : HA} {b : Nat} {D : DT} {α : Nat → Nat} {lm : Nat → Nat → Nat} {im : Nat → Option (Nat × DT)} (hi : IV h b D α lm im) (x y l w : Int32) : AC b D α lm im (X8_sway h (b + 55) x y l w) (qsway D x y l w) := by
  unfold X8_sway qsway
  rw [if_pos (ms_c (iv_ms hi)), ms_p (iv_ms hi), Option.bind_some]
  have hi0 := IV_m0 hi 0 0
  rw [show X8_in w 0 1 = _ from in_rn w (n := 1) (by omega), Option.bind_some]
  cases hw : rg w (1 + 1) with
  | false => rw [Bool.and_false]; exact ⟨_, rfl, hi0⟩
  | true =>
    obtain ⟨v, hv2, rfl⟩ := (rg_iff (by omega)).mp hw
    rw [if_neg (by decide), Bool.and_true]
    rcases layVotes_ok hi0 x y l with ⟨h1, h2, e2, i2⟩ | ⟨a, t, r, h2, ha, ht, hr, rfl, rfl, rfl, hc, e2, i2, mp, g47, vt⟩
    · rw [e2, h1]; exact ⟨h2, rfl, i2⟩
    · have hs := mp.1.1
      have h6 := hs.2.1.2.2.1.1
      have hL := mp_L mp
      have hwf := mp.2.1
      have hR := iv_wl i2 (s := 2) (by omega) (by omega) hr
      rw [e2, hc, Option.bind_some, if_pos rfl, est (iv_w hi) ha ht, tnE (iv_w hi) (by omega) ha, tnE (iv_w hi) (by omega) ht, tnE (iv_w hi) (by omega) hr, tn_nI (show v < 2 ^ 31 by omega)]
      dsimp only
      rw [if_neg (by decide), verdict_n hs, Option.bind_some, show b + 55 + 26 = b + 81 from rfl, vsum_cong (g := fun j => vby (dR D 2 r) (kn (dC D a) (dR D 1 t) (fun _ => 0) (so (dC D a) (dR D 1 t) (llen (dR D 1 t))) j)) vt]
      generalize hn : so (dC D a) (dR D 1 t) (llen (dR D 1 t)) = n at *
      generalize hf : (fun j => vby (dR D 2 r) (kn (dC D a) (dR D 1 t) (fun _ => 0) n j)) = f at *
      have hfj : ∀ j, vby (dR D 2 r) (kn (dC D a) (dR D 1 t) (fun _ => 0) n j) = f j := fun j => congrFun hf j
      obtain ⟨⟨ro, h3⟩, e3, e4, c3⟩ := loop_inv (fun fu j (z : Int32 × HA) => X8_sway_L39 (b + 55) (nI v) (vdI (vsum f (cJ (dC D a)))) fu z.2 z.1 (nI j)) (fun j z => z.1 = nI (msk (swb (dC D a) (dR D 1 t) (dR D 2 r) n v) j) ∧ ch (fun a _ => a = b + 81) h2 z.2 ∧ ∀ i, i < cJ (dC D a) → gi z.2 (b + 81) i = f i)
        (fun z => z.1 = nI (msk (swb (dC D a) (dR D 1 t) (dR D 2 r) n v) (cJ (dC D a))) ∧ ch (fun a _ => a = b + 81) h2 z.2) (cJ (dC D a)) (by
          rintro j ⟨z, h1⟩ fu hj ⟨j0, j1, j2⟩
          simp only at j0 j1 j2
          subst j0
          have mp1 := MP_ch mp j1 (fun a k w => by omega)
          have iv1 := IV_ch i2 j1 (fun x k w => Sc_m (by omega))
          have hs1 := mp1.1.1
          have g1 : gi h1 (b + 55) 47 = nI r := by rw [j1.gi (by omega)]; exact g47
          have hkl2 : kno (dC D a) (dR D 1 t) n j < 1024 := kwd_lt hL mp1.2.2.2.2.1
          have hld : ldI h1 (b + 81) 20 (nI j) = some (f j) := by rw [ldI_n (ms_k48 hs1.1) (by omega) (by omega), show b + 55 + 26 = b + 81 from rfl, j2 j hj]
          have hvb := vby_v hR (kn (dC D a) (dR D 1 t) (fun _ => 0) n j)
          rw [hfj] at hvb
          -- the changed votes
          have key : ∃ h4, (if nI v = 1 then (gR h1 (b + 55) 9 48).bind fun x15 => (X8_otherEars h1 (b + 55) (nI j)).bind fun x17 => (X8_judgeOf h1 (b + 55) (nI j) 3).bind fun x19 => (X8_knownIn h1 (b + 55) (nI j) x17 x19).bind fun x21 => (X8_voteBy h1 (b + 55) x21).bind fun x23 => (asI h1 x15 20 (nI j) x23).bind fun h24 => some h24
              else if f j = (-1) then some h1 else (gR h1 (b + 55) 9 48).bind fun x25 => (asI h1 x25 20 (nI j) (1 - f j)).bind fun h26 => some h26) = some h4 ∧ ch (fun a _ => a = b + 81) h1 h4 ∧ (∀ i, i ≠ j → gi h4 (b + 81) i = gi h1 (b + 81) i) ∧ vsum (fun i => gi h4 (b + 81) i) (cJ (dC D a)) = vsum f (cJ (dC D a)) - wgt (f j) + (if v = 0 then - wgt (f j) else wgt (vby (dR D 2 r) (kno (dC D a) (dR D 1 t) n j))) := by
            have upd : ∀ u, vsum (fun i => gi (si h1 (b + 81) j u) (b + 81) i) (cJ (dC D a)) = vsum f (cJ (dC D a)) - wgt (f j) + wgt u := by
              intro u
              rw [← vsum_upd hj u]
              apply vsum_cong
              intro i hi3
              rw [gi_si]
              by_cases e : i = j
              · rw [if_pos ⟨rfl, e⟩, if_pos e]
              · rw [if_neg (by omega), if_neg e]; exact j2 i hi3
            by_cases e : v = 0
            · subst e
              rw [if_neg (by decide)]
              simp only [if_true]
              by_cases e5 : f j = -1
              · rw [if_pos e5]
                refine ⟨h1, rfl, ch_rf _ _, fun _ _ => rfl, ?_⟩
                rw [vsum_cong (g := f) j2, e5]
                show _ = _ - 0 + (-0)
                omega
              · rw [if_neg e5, ms_r48 hs1.1, Option.bind_some, asI_n (ms_k48 hs1.1) (by omega) (by omega), Option.bind_some]
                refine ⟨_, rfl, ch_si rfl, fun i hi3 => by rw [gi_si, if_neg (fun z => hi3 z.2)], ?_⟩
                rw [show b + 55 + 26 = b + 81 from rfl, upd]
                congr 1
                rcases hvb with e6 | e6 | e6
                · exact absurd e6 e5
                · rw [e6]; rfl
                · rw [e6]; rfl
            · have e1v : v = 1 := by omega
              subst e1v
              have eo : X8_otherEars h1 (b + 55) (nI j) = some (nI (eO (dC D a) j)) := by
                have h2j := (hwf.2.1 j hj).2.2.2.1
                unfold X8_otherEars eO
                rw [if_pos (ms_c hs1.1), jo2 hs1 hwf.2.1 hj, Option.bind_some]
                by_cases e : jg (dC D a) j 2 = 0
                · rw [if_pos (by rw [e]; rfl), if_pos e]; rfl
                · rw [if_neg (show ¬ nI _ = 0 from fun z => e (nI_inj (b := 0) (by omega) (by omega) z)), if_neg e]; rfl
              rw [if_pos (by rfl), ms_r48 hs1.1, Option.bind_some, eo, Option.bind_some, jo3 hs1 hwf.2.1 hj, Option.bind_some, knownIn_n mp1 hj (eO_lt _ _) (hwf.2.1 j hj).2.2.2.2.1, Option.bind_some, show kwd (dC D a) (dR D 1 t) (fun _ => 0) n j (eO (dC D a) j) (jg (dC D a) j 3) (jg (dC D a) j 1) 0 = kno (dC D a) (dR D 1 t) n j from rfl, voteBy_n iv1 hr g1 hkl2, Option.bind_some, asI_n (ms_k48 hs1.1) (by omega) (by omega), Option.bind_some]
              refine ⟨_, rfl, ch_si rfl, fun i hi3 => by rw [gi_si, if_neg (fun z => hi3 z.2)], ?_⟩
              rw [show b + 55 + 26 = b + 81 from rfl, upd]; rfl
          obtain ⟨h4, k1, k2, k3, k4⟩ := key
          have mp4 := MP_ch mp1 k2 (fun a k w => by omega)
          have hs4 := mp4.1.1
          refine ⟨(nI (msk (swb (dC D a) (dR D 1 t) (dR D 2 r) n v) (j + 1)), si h4 (b + 81) j (f j)), ?_, rfl, (j1.tr k2).tr (ch_si rfl), fun i hi3 => ?_⟩
          · simp only
            rw [X8_sway_L39, ms_I hs1.1, hs1.2.2.2.2.2.2.2.1, Option.bind_some, if_pos (lt_lit hj (by omega)), ms_r48 hs1.1, Option.bind_some, show b + 55 + 26 = b + 81 from rfl, hld, Option.bind_some]
            rw [ms_r48 hs1.1, show b + 55 + 26 = b + 81 from rfl] at k1
            dsimp only
            rw [k1, Option.bind_some, verdict_n hs4, Option.bind_some, show b + 55 + 26 = b + 81 from rfl, k4]
            dsimp only [lett]
            rw [ms_r48 hs4.1, Option.bind_some, show b + 55 + 26 = b + 81 from rfl, show asI h4 (b + 81) 20 (nI j) (f j) = some (si h4 (b + 81) j (f j)) from asI_n (ms_k48 hs4.1) (by omega) (by omega), Option.bind_some, nI_p1, ← msk_step (by omega)]
            have esw : swb (dC D a) (dR D 1 t) (dR D 2 r) n v j = !decide (vdI (vsum f (cJ (dC D a)) - wgt (f j) + (if v = 0 then - wgt (f j) else wgt (vby (dR D 2 r) (kno (dC D a) (dR D 1 t) n j)))) = vdI (vsum f (cJ (dC D a)))) := by
              unfold swb; rw [hf, hfj]
            rw [esw]
            by_cases e : vdI (vsum f (cJ (dC D a)) - wgt (f j) + (if v = 0 then - wgt (f j) else wgt (vby (dR D 2 r) (kno (dC D a) (dR D 1 t) n j)))) = vdI (vsum f (cJ (dC D a)))
            · rw [if_pos e, if_neg (by simp [e]), or_0]
            · rw [if_neg e, if_pos (by simp [e])]
          · simp only
            rw [gi_si]
            by_cases e : i = j
            · rw [if_pos ⟨rfl, e⟩, e]
            · rw [if_neg (by omega), k3 i e]; exact j2 i hi3) (by
          rintro ⟨z, h1⟩ fu ⟨j0, j1, j2⟩
          simp only at j0 j1 j2
          have hs1 := (MP_ch mp j1 (fun a k w => by omega)).1.1
          refine ⟨(z, h1), ?_, j0, j1⟩
          simp only
          rw [X8_sway_L39, ms_I hs1.1, hs1.2.2.2.2.2.2.2.1, Option.bind_some, if_neg (nlt_lit (Nat.le_refl _) (by omega))]) (0, h2) FU ⟨rfl, ch_rf _ _, fun i hi3 => by rw [← hfj i]; exact vt i hi3⟩ (FU_gt (by omega))
      simp only at e3 e4 c3
      rw [show X8_sway_L39 (b + 55) (nI v) (vdI (vsum f (cJ (dC D a)))) FU h2 0 0 = _ from e3]
      exact ⟨h3, by rw [e4]; rfl, IV_ch i2 c3 (fun x k w => Sc_m (by omega))⟩
