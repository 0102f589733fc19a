/-! questions about TRIALS -/
theorem so_le {C L : CR} {n N : Nat} (hn : n ≤ N) (h : (dz C L n).isSome = true) : n ≤ so C L N := by
  obtain ⟨h1, h2, h3⟩ := so_spec C L N
  rcases h3 with e | e
  · omega
  · by_cases h4 : n ≤ so C L N
    · exact h4
    · rw [dz_none e n (by omega)] at h; simp at h
theorem so_fix {C L : CR} {n N : Nat} (h : n ≤ so C L N) : so C L n = n := by
  obtain ⟨Z, hZ⟩ := dz_lt (so_spec C L N).2.1 h
  exact so_u (Nat.le_refl _) (by rw [hZ]; rfl) (Or.inl rfl)
def stD (D : DT) (x y : Int32) : Nat := so (dC D (tn x)) (dR D 1 (tn y)) (llen (dR D 1 (tn y)))
def qstop (D : DT) (x y : Int32) : Int32 := if (rg x (dN D 0) && rg y (dN D 1)) = true then nI (stD D x y) else -1
theorem tnE {D : DT} (hd : WD D) {s a : Nat} (hs : s < 4) (ha : a < dN D s) : tn (nI a) = a := tn_nI (by have := hd.2.1 s hs; omega)
theorem c_stop {h : HA} {b : Nat} {D : DT} {α : Nat → Nat} {lm : Nat → Nat → Nat} {im : Nat → Option (Nat × DT)} (hi : IV h b D α lm im) (x y : Int32) : AC b D α lm im (X7_stop h b x y) (qstop D x y) := by
  unfold X7_stop qstop
  rw [if_pos (fx_c hi.1)]
  rcases hallOf_ok hi x y with ⟨h1, h2, e2, i2⟩ | ⟨a, t, h2, ha, ht, rfl, rfl, hr, e2, i2, hp⟩
  · rw [e2, h1]; exact ⟨h2, rfl, i2⟩
  · unfold stD
    rw [e2, hr, Option.bind_some, tnE (iv_w hi) (by omega) ha, tnE (iv_w hi) (by omega) ht]
    refine ⟨h2, ?_, i2⟩
    dsimp only
    rw [gI_n (fx_hk hp.1.1), hp.2.1]; rfl
theorem m_stop {h : HA} {b : Nat} {D : DT} {α : Nat → Nat} {lm : Nat → Nat → Nat} {im : Nat → Option (Nat × DT)} (hi : IV h b D α lm im) (x y : Int32) : AC b D α lm im (X8_stop h (b + 55) x y) (qstop D x y) := by
  unfold X8_stop qstop
  rw [if_pos (ms_c (iv_ms hi)), ms_p (iv_ms hi), Option.bind_some]
  have hi0 := IV_m0 hi 0 0
  rcases layTrial_ok hi0 x y with ⟨h1, h2, e2, i2⟩ | ⟨a, t, h2, ha, ht, rfl, rfl, hr, e2, i2, mp⟩
  · rw [e2, h1]; exact ⟨h2, rfl, i2⟩
  · unfold stD
    rw [e2, hr, Option.bind_some, tnE (iv_w hi) (by omega) ha, tnE (iv_w hi) (by omega) ht]
    refine ⟨h2, ?_, i2⟩
    dsimp only
    rw [if_neg (by decide), ms_I mp.1.1.1, mp.2.2.2.1]; rfl
/-- the model's STATE -/
theorem layState_ok {h : HA} {b : Nat} {D : DT} {α : Nat → Nat} {lm : Nat → Nat → Nat} {im : Nat → Option (Nat × DT)} (hi : IV h b D α lm im) (x y n : Int32) :
    ((rg x (dN D 0) && (rg y (dN D 1) && rg n (stD D x y + 1))) = false ∧ ∃ h1, X8_layState h (b + 55) x y n = some (0, h1) ∧ IV h1 b D α lm im) ∨
    (∃ a t k h1, a < dN D 0 ∧ t < dN D 1 ∧ x = nI a ∧ y = nI t ∧ n = nI k ∧ k ≤ so (dC D a) (dR D 1 t) (llen (dR D 1 t)) ∧ (rg x (dN D 0) && (rg y (dN D 1) && rg n (stD D x y + 1))) = true ∧ X8_layState h (b + 55) x y n = some (1, h1) ∧ IV h1 b D α lm im ∧ MP h1 (b + 55) a t (dC D a) (dR D 1 t) (fun _ => 0) k) := by
  unfold X8_layState
  rw [if_pos (ms_c (iv_ms hi))]
  rcases i_nat n with h1 | ⟨k, hk, rfl⟩
  · left
    rw [if_pos h1, neg_rg h1, Bool.and_false, Bool.and_false]
    exact ⟨rfl, h, rfl, hi⟩
  · rw [if_neg (nI_lt0 hk)]
    rcases layTrial_ok hi x y with ⟨h1, h2, e2, i2⟩ | ⟨a, t, h2, ha, ht, rfl, rfl, hr, e2, i2, mp⟩
    · left
      rw [e2, ← Bool.and_assoc, h1]; exact ⟨rfl, h2, rfl, i2⟩
    · have hL := mp_L mp
      have h30 := llen_30 hL
      have hso := (so_spec (dC D a) (dR D 1 t) (llen (dR D 1 t))).1
      have est : stD D (nI a) (nI t) = so (dC D a) (dR D 1 t) (llen (dR D 1 t)) := by unfold stD; rw [tnE (iv_w hi) (by omega) ha, tnE (iv_w hi) (by omega) ht]
      rw [e2, ← Bool.and_assoc, hr, Bool.true_and, Option.bind_some, est, rg_n hk]
      dsimp only
      rw [if_neg (by decide), ms_I mp.1.1.1, mp.2.2.2.1, Option.bind_some]
      by_cases h3 : k ≤ so (dC D a) (dR D 1 t) (llen (dR D 1 t))
      · right
        rw [if_neg (nlt_lit h3 (by omega))]
        obtain ⟨h5, e5, c5, p5⟩ := play_n mp.1 mp.2.1 mp.2.2.1 (N := k) (by omega)
        rw [so_fix h3] at e5 p5
        refine ⟨a, t, k, h5, ha, ht, rfl, rfl, rfl, h3, by simpa using (by omega : k < so (dC D a) (dR D 1 t) (llen (dR D 1 t)) + 1), ?_, IV_ch i2 c5 (fun x k w => Sc_m (by unfold Wpl at w; omega)), p5⟩
        rw [e5, Option.bind_some]
        dsimp only
        rw [if_pos rfl]
      · left
        rw [if_pos (lt_lit (by omega) hk)]
        exact ⟨by simp; omega, h2, rfl, i2⟩
def qstands (D : DT) (x y n p v : Int32) : Int32 := if ((rg x (dN D 0) && (rg y (dN D 1) && rg n (stD D x y + 1))) && rg p (cP (dC D (tn x)))) = true then (let C := dC D (tn x); let L := dR D 1 (tn y); if v = 0 then zs C L (tn n) (2 * tn p) else zs C L (tn n) (2 * tn p + 1)) else -2
theorem c_stands {h : HA} {b : Nat} {D : DT} {α : Nat → Nat} {lm : Nat → Nat → Nat} {im : Nat → Option (Nat × DT)} (hi : IV h b D α lm im) (x y n p v : Int32) : AC b D α lm im (X7_stands h b x y n p v) (qstands D x y n p v) := by
  unfold X7_stands qstands
  rw [if_pos (fx_c hi.1)]
  rcases courtAt_ok hi x with ⟨h1, h2⟩ | ⟨a, h1, ha, rfl, hr, e1, i1, l1⟩
  · rw [h2, h1, Option.bind_some]
    refine ⟨h, ?_, hi⟩
    dsimp only
    rcases listAt_ok hi (s := 1) (by omega) (by omega) y with ⟨h3, h4⟩ | ⟨t, ht, rfl, hr, e2⟩
    · rw [show X7_listAt h b 1 y = _ from h4]; rfl
    · rw [show X7_listAt h b 1 (nI t) = _ from e2]; rfl
  · rw [e1, Option.bind_some, hr, Bool.true_and]
    dsimp only
    rcases listAt_ok i1 (s := 1) (by omega) (by omega) y with ⟨h3, h4⟩ | ⟨t, ht, rfl, hr2, e2⟩
    · rw [show X7_listAt h1 b 1 y = _ from h4, h3]
      exact ⟨h1, rfl, i1⟩
    · have cc := l1.1
      have h4 := cc.2.1.1.2.2.2.1.1
      have est : stD D (nI a) (nI t) = so (dC D a) (dR D 1 t) (llen (dR D 1 t)) := by unfold stD; rw [tnE (iv_w hi) (by omega) ha, tnE (iv_w hi) (by omega) ht]
      have hL := iv_wl i1 (s := 1) (by omega) (by omega) ht
      have h30 := llen_30 hL
      have hso := (so_spec (dC D a) (dR D 1 t) (llen (dR D 1 t))).1
      rw [show X7_listAt h1 b 1 (nI t) = _ from e2, hr2, Option.bind_some, Bool.true_and, est, tnE (iv_w hi) (by omega) ha, tnE (iv_w hi) (by omega) ht]
      dsimp only
      rw [hasPleader_c cc, Option.bind_some]
      cases hp : rg p (cP (dC D a)) with
      | false => rw [Bool.and_false]; exact ⟨h1, rfl, i1⟩
      | true =>
        obtain ⟨q, hq, rfl⟩ := (rg_iff (by omega)).mp hp
        rw [if_neg (by decide), Bool.and_true]
        rcases i_nat n with hn | ⟨k, hk, rfl⟩
        · rw [if_pos hn, neg_rg hn]; exact ⟨h1, rfl, i1⟩
        · obtain ⟨h5, e5, i5, p5⟩ := play_ok i1 ha ht l1 (m := k) hk
          rw [if_neg (nI_lt0 hk), fx_hall i1.1, Option.bind_some, e5, Option.bind_some, fx_hall i5.1, Option.bind_some, gI_n (fx_hk p5.1.1), p5.2.1, Option.bind_some, rg_n hk, tn_nI hk, tn_nI (show q < 2 ^ 31 by omega)]
          have hs5 := (so_spec (dC D a) (dR D 1 t) (min k (llen (dR D 1 t)))).1
          refine ⟨h5, ?_, i5⟩
          by_cases h3 : k ≤ so (dC D a) (dR D 1 t) (llen (dR D 1 t))
          · have hmin : min k (llen (dR D 1 t)) = k := by omega
            rw [hmin, so_fix h3] at p5 ⊢
            rw [if_neg (nlt_lit (Nat.le_refl _) hk), if_pos (show decide (k < so (dC D a) (dR D 1 t) (llen (dR D 1 t)) + 1) = true by simp; omega)]
            obtain ⟨Z, hZ, hz⟩ := p5.2.2.2.1
            have hzq := hz q hq
            rw [zs_eq hZ, zs_eq hZ]
            by_cases hv : v = 0
            · rw [if_pos hv, if_pos hv, Option.bind_some, fx_r3 p5.1.1, Option.bind_some, ldI_n (fx_k47 p5.1.1) (by omega) (by omega), hzq.1]; rfl
            · rw [if_neg hv, if_neg hv, Option.bind_some, fx_r4 p5.1.1, Option.bind_some, ldI_n (fx_k48 p5.1.1) (by omega) (by omega), hzq.2]; rfl
          · have hlt : so (dC D a) (dR D 1 t) (min k (llen (dR D 1 t))) < k := by
              by_cases h6 : k ≤ llen (dR D 1 t)
              · rw [show min k (llen (dR D 1 t)) = k by omega] at hs5 ⊢
                rcases Nat.lt_or_ge (so (dC D a) (dR D 1 t) k) k with h7 | h7
                · exact h7
                · have h8 := (so_spec (dC D a) (dR D 1 t) k).2.1
                  rw [show so (dC D a) (dR D 1 t) k = k by omega] at h8
                  exact absurd (so_le h6 h8) h3
              · omega
            rw [if_pos (lt_lit hlt hk), if_neg (show ¬ decide (k < so (dC D a) (dR D 1 t) (llen (dR D 1 t)) + 1) = true by simp; omega)]
theorem m_stands {h : HA} {b : Nat} {D : DT} {α : Nat → Nat} {lm : Nat → Nat → Nat} {im : Nat → Option (Nat × DT)} (hi : IV h b D α lm im) (x y n p v : Int32) : AC b D α lm im (X8_stands h (b + 55) x y n p v) (qstands D x y n p v) := by
  unfold X8_stands qstands
  rw [if_pos (ms_c (iv_ms hi)), ms_p (iv_ms hi), Option.bind_some]
  have hi0 := IV_m0 hi 0 0
  rcases layState_ok hi0 x y n with ⟨h1, h2, e2, i2⟩ | ⟨a, t, k, h2, ha, ht, rfl, rfl, rfl, hk, hr, e2, i2, mp⟩
  · rw [e2, h1]; exact ⟨h2, rfl, i2⟩
  · have h4 := mp.2.1.1.2.2.2.1.1
    have h30 := llen_30 (mp_L mp)
    have hkl := mp.2.2.2.2.1
    rw [e2, hr, Option.bind_some, tnE (iv_w hi) (by omega) ha, tnE (iv_w hi) (by omega) ht, tn_nI (show k < 2 ^ 31 by omega), Bool.true_and]
    refine ⟨h2, ?_, i2⟩
    dsimp only
    rw [if_neg (by decide), isPleader_n mp.1.1, Option.bind_some]
    cases hp : rg p (cP (dC D a)) with
    | false => rfl
    | true =>
      obtain ⟨q, hq, rfl⟩ := (rg_iff (by omega)).mp hp
      obtain ⟨Z, hZ, hz⟩ := mp.2.2.2.2.2.1
      rw [if_neg (by decide), if_pos rfl, ms_r41 mp.1.1.1, Option.bind_some, tn_nI (show q < 2 ^ 31 by omega), zs_eq hZ, zs_eq hZ, Int32.add_zero, show (2 : Int32) * nI q = nI (2 * q) from nI_mul 2 q, nI_p1]
      by_cases hv : v = 0
      · rw [if_pos hv, if_pos hv, ldI_n (ms_k41 mp.1.1.1) (by omega) (by omega), hz _ (by omega)]; rfl
      · rw [if_neg hv, if_neg hv, ldI_n (ms_k41 mp.1.1.1) (by omega) (by omega), hz _ (by omega)]; rfl
/-! KNOWS -/
def andf (v : Nat → Nat) (i : Nat) : Nat → Nat
  | 0 => i
  | n + 1 => andf v i n &&& v n
def nanf (v : Nat → Nat) (i : Nat) : Nat → Int32
  | 0 => nI i
  | n + 1 => nanf v i n &&& (nI (v n) ^^^ (-1))
def cmn (C L : CR) (n : Nat) : Nat := andf (kn C L (fun _ => 0) n) (if cJ C = 0 then 0 else 1023) (cJ C)
def lst (C L : CR) (n : Nat) : Int32 := nanf (kn C L (fun _ => 0) n) (orf (sd L) (wrd L) n) (cJ C)
def qknows (D : DT) (x y n j : Int32) : Int32 := if (rg x (dN D 0) && (rg y (dN D 1) && rg n (stD D x y + 1))) = true then (let C := dC D (tn x); let L := dR D 1 (tn y);
  if j = -1 then nI (cmn C L (tn n)) else if j = -2 then lst C L (tn n) else if rg j (cJ C) = true then nI (kn C L (fun _ => 0) (tn n) (tn j)) else -1) else -1
theorem lit_0 {a : Nat} (ha : a < 2 ^ 31) : (nI a = 0) = (a = 0) := propext ⟨fun e => nI_inj (b := 0) ha (by omega) e, fun e => by rw [e]; rfl⟩
theorem common_c {h : HA} {b c l m : Nat} {C L : CR} {n : Nat} (hp : HP h b c l C L (fun _ => 0) n) (hm : m ≤ n) : X1_common h (b + 46) (nI m) = some (nI (cmn C L m)) := by
  have hb := hp.1
  have cc := hb_cc hb
  have h6 := cc.2.1.1.2.2.1.1
  have hj : gI h c 1 6 = some (nI (cJ C)) := by rw [cs_I cc.1, cc.2.2.2.2.2.2.2.2.1]
  unfold X1_common
  rw [if_pos (hb_t hb), hb_c hb, Option.bind_some, hj, Option.bind_some]
  have hl2 := loop_st (fun fu k (a : Int32) => X1_common_L20 h (b + 46) (nI m) fu a (nI k)) (fun k => nI (andf (kn C L (fun _ => 0) m) (if cJ C = 0 then 0 else 1023) k)) (some (nI (cmn C L m))) (cJ C) (fun k fu hk => by
    try simp only []
    rw [X1_common_L20, hb_c hb, Option.bind_some, hj, Option.bind_some, if_pos (lt_lit hk (by omega)), learned_c hp hm hk, Option.bind_some, nI_and, nI_p1]; rfl)
    (fun fu => by (try simp only []); rw [X1_common_L20, hb_c hb, Option.bind_some, hj, Option.bind_some, if_neg (nlt_lit (Nat.le_refl _) (by omega))]; rfl) FU (FU_gt (by omega))
  dsimp only [lett]
  have hif : (if nI (cJ C) = 0 then (0 : Int32) else 1023) = nI (andf (kn C L (fun _ => 0) m) (if cJ C = 0 then 0 else 1023) 0) := by
    unfold andf
    by_cases e : cJ C = 0
    · rw [if_pos (by rw [e]; rfl), if_pos e]; rfl
    · rw [if_neg (show ¬ nI _ = 0 from fun z => e (nI_inj (b := 0) (by omega) (by omega) z)), if_neg e]; rfl
  rw [hif]
  rw [show X1_common_L20 h (b + 46) (nI m) FU _ 0 = _ from hl2]
  rfl
theorem lost_c {h : HA} {b c l m : Nat} {C L : CR} {n : Nat} (hp : HP h b c l C L (fun _ => 0) n) (hm : m ≤ n) : X1_lost h (b + 46) (nI m) = some (lst C L m) := by
  have hb := hp.1
  have cc := hb_cc hb
  have h6 := cc.2.1.1.2.2.1.1
  have hL := hp_L hp
  have h30 := llen_30 hL
  have hn := hp.2.2.1
  have hj : gI h c 1 6 = some (nI (cJ C)) := by rw [cs_I cc.1, cc.2.2.2.2.2.2.2.2.1]
  unfold X1_lost
  have hl1 := loop_st (fun fu k (a : Int32) => X1_lost_L4 h (b + 46) (nI m) fu a (nI k)) (fun k => nI (orf (sd L) (wrd L) k)) (some (nI (orf (sd L) (wrd L) m))) m (fun k fu hk => by
    try simp only []
    rw [X1_lost_L4, if_pos (lt_lit hk (by omega)), isSaid_c hb (by omega), Option.bind_some, nI_p1, orf]
    cases hs : sd L k with
    | false => rw [if_pos (by decide), or_0, if_neg (by simp)]
    | true =>
      obtain ⟨s0, s1, s2, s3, s4, s5, s6⟩ := say_c hL (show k < llen L by omega) hs
      rw [if_neg (by decide), hb_l hb, Option.bind_some, show X2_at h l (nI k) 2 = _ from hb_at (w := 2) hb (by omega) (by omega), Option.bind_some, s5, shl1 _ (by omega), nI_or, if_pos rfl])
    (fun fu => by (try simp only []); rw [X1_lost_L4, if_neg (nlt_lit (Nat.le_refl _) (by omega))]) FU (FU_gt (by omega))
  have hl2 := loop_st (fun fu k (a : Int32) => X1_lost_L43 h (b + 46) (nI m) fu a (nI k)) (fun k => nanf (kn C L (fun _ => 0) m) (orf (sd L) (wrd L) m) k) (some (lst C L m)) (cJ C) (fun k fu hk => by
    try simp only []
    rw [X1_lost_L43, hb_c hb, Option.bind_some, hj, Option.bind_some, if_pos (lt_lit hk (by omega)), learned_c hp hm hk, Option.bind_some, nI_p1]; rfl)
    (fun fu => by (try simp only []); rw [X1_lost_L43, hb_c hb, Option.bind_some, hj, Option.bind_some, if_neg (nlt_lit (Nat.le_refl _) (by omega))]; rfl) FU (FU_gt (by omega))
  rw [if_pos (hb_t hb), show X1_lost_L4 h (b + 46) (nI m) FU 0 0 = _ from hl1, Option.bind_some, show X1_lost_L43 h (b + 46) (nI m) FU (nI (orf (sd L) (wrd L) m)) 0 = _ from hl2, Option.bind_some]
theorem common_n {h : HA} {m c t : Nat} {C L : CR} {n : Nat} (mp : MP h m c t C L (fun _ => 0) n) : X8_common h m = some (nI (cmn C L n)) := by
  have hs := mp.1.1
  have h6 := hs.2.1.2.2.1.1
  unfold X8_common
  rw [if_pos (ms_c hs.1), ms_I hs.1, hs.2.2.2.2.2.2.2.1, Option.bind_some]
  have hl2 := loop_st (fun fu k (a : Int32) => X8_common_L17 h m fu a (nI k)) (fun k => nI (andf (kn C L (fun _ => 0) n) (if cJ C = 0 then 0 else 1023) k)) (some (nI (cmn C L n))) (cJ C) (fun k fu hk => by
    try simp only []
    rw [X8_common_L17, ms_I hs.1, hs.2.2.2.2.2.2.2.1, Option.bind_some, if_pos (lt_lit hk (by omega)), known_n mp hk, Option.bind_some, nI_and, nI_p1]; rfl)
    (fun fu => by (try simp only []); rw [X8_common_L17, ms_I hs.1, hs.2.2.2.2.2.2.2.1, Option.bind_some, if_neg (nlt_lit (Nat.le_refl _) (by omega))]; rfl) FU (FU_gt (by omega))
  dsimp only [lett]
  have hif : (if nI (cJ C) = 0 then (0 : Int32) else 1023) = nI (andf (kn C L (fun _ => 0) n) (if cJ C = 0 then 0 else 1023) 0) := by
    unfold andf
    by_cases e : cJ C = 0
    · rw [if_pos (by rw [e]; rfl), if_pos e]; rfl
    · rw [if_neg (show ¬ nI _ = 0 from fun z => e (nI_inj (b := 0) (by omega) (by omega) z)), if_neg e]; rfl
  rw [hif]
  rw [show X8_common_L17 h m FU _ 0 = _ from hl2]
  rfl
theorem lost_n {h : HA} {m c t : Nat} {C L : CR} {n : Nat} (mp : MP h m c t C L (fun _ => 0) n) : X8_lost h m = some (lst C L n) := by
  have hs := mp.1.1
  have h6 := hs.2.1.2.2.1.1
  have hL := mp_L mp
  have h30 := llen_30 hL
  have hn := mp.2.2.2.2.1
  unfold X8_lost
  have hl1 := loop_st (fun fu k (a : Int32) => X8_lost_L4 h m fu a (nI k)) (fun k => nI (orf (sd L) (wrd L) k)) (some (nI (orf (sd L) (wrd L) n))) n (fun k fu hk => by
    try simp only []
    rw [X8_lost_L4, ms_I hs.1, mp.2.2.2.1, Option.bind_some, if_pos (lt_lit hk (by omega)), ms_r42 hs.1, Option.bind_some, mp_said mp hk, Option.bind_some, nI_p1, orf]
    cases hs1 : sd L k with
    | false => rw [if_pos (show (if false = true then nI (wrd L k) else -1) = -1 from rfl), or_0, if_neg (by simp)]
    | true =>
      obtain ⟨s0, s1, s2, s3, s4, s5, s6⟩ := say_c hL (show k < llen L by omega) hs1
      simp only [if_true]
      rw [if_neg (nI_nm1 (by omega)), Option.bind_some, mp_said mp hk, hs1, Option.bind_some, if_pos rfl, shl1 _ (by omega), nI_or])
    (fun fu => by (try simp only []); rw [X8_lost_L4, ms_I hs.1, mp.2.2.2.1, Option.bind_some, if_neg (nlt_lit (Nat.le_refl _) (by omega))]) FU (FU_gt (by omega))
  have hl2 := loop_st (fun fu k (a : Int32) => X8_lost_L45 h m fu a (nI k)) (fun k => nanf (kn C L (fun _ => 0) n) (orf (sd L) (wrd L) n) k) (some (lst C L n)) (cJ C) (fun k fu hk => by
    try simp only []
    rw [X8_lost_L45, ms_I hs.1, hs.2.2.2.2.2.2.2.1, Option.bind_some, if_pos (lt_lit hk (by omega)), known_n mp hk, Option.bind_some, nI_p1]; rfl)
    (fun fu => by (try simp only []); rw [X8_lost_L45, ms_I hs.1, hs.2.2.2.2.2.2.2.1, Option.bind_some, if_neg (nlt_lit (Nat.le_refl _) (by omega))]; rfl) FU (FU_gt (by omega))
  rw [if_pos (ms_c hs.1), show X8_lost_L4 h m FU 0 0 = _ from hl1, Option.bind_some, show X8_lost_L45 h m FU (nI (orf (sd L) (wrd L) n)) 0 = _ from hl2, Option.bind_some]
theorem c_knows {h : HA} {b : Nat} {D : DT} {α : Nat → Nat} {lm : Nat → Nat → Nat} {im : Nat → Option (Nat × DT)} (hi : IV h b D α lm im) (x y n j : Int32) : AC b D α lm im (X7_knows h b x y n j) (qknows D x y n j) := by
  unfold X7_knows qknows
  rw [if_pos (fx_c hi.1)]
  rcases hallOf_ok hi x y with ⟨h1, h2, e2, i2⟩ | ⟨a, t, h2, ha, ht, rfl, rfl, hr, e2, i2, hp⟩
  · rw [e2, ← Bool.and_assoc, h1]; exact ⟨h2, rfl, i2⟩
  · have est : stD D (nI a) (nI t) = so (dC D a) (dR D 1 t) (llen (dR D 1 t)) := by unfold stD; rw [tnE (iv_w hi) (by omega) ha, tnE (iv_w hi) (by omega) ht]
    have hL := hp_L hp
    have h30 := llen_30 hL
    have h6 := (hp_wf hp).1.2.2.1.1
    have hso := (so_spec (dC D a) (dR D 1 t) (llen (dR D 1 t))).1
    rw [e2, ← Bool.and_assoc, hr, Option.bind_some, Bool.true_and, est, tnE (iv_w hi) (by omega) ha, tnE (iv_w hi) (by omega) ht]
    refine ⟨h2, ?_, i2⟩
    dsimp only
    rcases i_nat n with hn | ⟨k, hk, rfl⟩
    · rw [if_pos hn, neg_rg hn]; rfl
    · rw [if_neg (nI_lt0 hk), gI_n (fx_hk hp.1.1), hp.2.1, Option.bind_some, rg_n hk, tn_nI hk]
      by_cases h3 : k ≤ so (dC D a) (dR D 1 t) (llen (dR D 1 t))
      · rw [if_neg (nlt_lit h3 (by omega)), if_pos (show decide (k < so (dC D a) (dR D 1 t) (llen (dR D 1 t)) + 1) = true by simp; omega)]
        by_cases hj1 : j = -1
        · rw [if_pos hj1, if_pos hj1, common_c hp h3]; rfl
        · rw [if_neg hj1, if_neg hj1]
          by_cases hj2 : j = -2
          · rw [if_pos hj2, if_pos hj2, lost_c hp h3]; rfl
          · rw [if_neg hj2, if_neg hj2, hb_c hp.1, Option.bind_some, hasJudge_c (hb_cc hp.1), Option.bind_some]
            cases hj : rg j (cJ (dC D a)) with
            | false => rfl
            | true =>
              obtain ⟨q, hq, rfl⟩ := (rg_iff (by omega)).mp hj
              rw [if_neg (by decide), if_pos rfl, learned_c hp h3 hq, tn_nI (show q < 2 ^ 31 by omega)]; rfl
      · rw [if_pos (lt_lit (by omega) hk), if_neg (show ¬ decide (k < so (dC D a) (dR D 1 t) (llen (dR D 1 t)) + 1) = true by simp; omega)]
theorem m_knows {h : HA} {b : Nat} {D : DT} {α : Nat → Nat} {lm : Nat → Nat → Nat} {im : Nat → Option (Nat × DT)} (hi : IV h b D α lm im) (x y n j : Int32) : AC b D α lm im (X8_knows h (b + 55) x y n j) (qknows D x y n j) := by
  unfold X8_knows qknows
  rw [if_pos (ms_c (iv_ms hi)), ms_p (iv_ms hi), Option.bind_some]
  have hi0 := IV_m0 hi 0 0
  rcases layState_ok hi0 x y n with ⟨h1, h2, e2, i2⟩ | ⟨a, t, k, h2, ha, ht, rfl, rfl, rfl, hk, hr, e2, i2, mp⟩
  · rw [e2, h1]; exact ⟨h2, rfl, i2⟩
  · have hs := mp.1.1
    have h6 := hs.2.1.2.2.1.1
    have h30 := llen_30 (mp_L mp)
    have hkl := mp.2.2.2.2.1
    rw [e2, hr, Option.bind_some, tnE (iv_w hi) (by omega) ha, tnE (iv_w hi) (by omega) ht, tn_nI (show k < 2 ^ 31 by omega)]
    refine ⟨h2, ?_, i2⟩
    dsimp only
    rw [if_neg (by decide), if_pos rfl, ms_I hs.1, hs.2.2.2.2.2.2.2.1, Option.bind_some]
    by_cases hj1 : j = -1
    · subst hj1
      rw [if_neg (by decide), if_pos (m1_lt (by omega)), if_pos rfl, if_pos rfl, common_n mp]; rfl
    · rw [if_neg hj1]
      by_cases hj2 : j = -2
      · subst hj2
        have : (-2 : Int32) < nI (cJ (dC D a)) := by
          rw [Int32.lt_iff_toInt_lt, nI_toInt (by omega)]
          have e1 : (-2 : Int32).toInt = -2 := by decide
          omega
        rw [if_neg (by decide), if_pos this, if_pos rfl, lost_n mp, if_neg (by decide), if_pos rfl]; rfl
      · rw [if_neg hj2]
        cases hj : rg j (cJ (dC D a)) with
        | false =>
          simp only [hj1, hj2, if_false]
          have : j < -2 ∨ ¬ j < nI (cJ (dC D a)) := by
            rcases i_nat j with h7 | ⟨q, hq, rfl⟩
            · left
              rw [Int32.lt_iff_toInt_lt] at h7 ⊢
              have e1 : (-2 : Int32).toInt = -2 := by decide
              have e2 : (-1 : Int32).toInt = -1 := by decide
              have e0 : (0 : Int32).toInt = 0 := by decide
              have n1 : j.toInt ≠ -1 := fun z => hj1 (Int32.toInt_inj.mp (by rw [z, e2]))
              have n2 : j.toInt ≠ -2 := fun z => hj2 (Int32.toInt_inj.mp (by rw [z, e1]))
              omega
            · right
              rw [rg_n hq] at hj
              exact nlt_lit (by simpa using hj) hq
          rcases this with h7 | h7
          · rw [if_pos h7]; rfl
          · rw [if_neg h7]; split <;> rfl
        | true =>
          obtain ⟨q, hq, rfl⟩ := (rg_iff (by omega)).mp hj
          have : ¬ nI q < -2 := by
            rw [Int32.lt_iff_toInt_lt, nI_toInt (by omega)]
            have e1 : (-2 : Int32).toInt = -2 := by decide
            omega
          rw [if_neg this, if_pos (lt_lit hq (by omega)), if_neg hj1, if_neg hj2, known_n mp hq, if_pos rfl, tn_nI (show q < 2 ^ 31 by omega)]; rfl
/-! who HEARD a DEED -/
def hdj (C L : CR) (th : Nat → Nat) (k j : Nat) : Bool := hd C L th k (jg C j 0) (trl (eW C j) (fc C j k)) (jg C j 3)
def hrs (C L : CR) (th : Nat → Nat) (k : Nat) : Nat := msk (hdj C L th k) (cJ C)
theorem hearers_c {h : HA} {b c l k : Nat} {C L : CR} {th : Nat → Nat} {n : Nat} (hp : HP h b c l C L th n) (hk : k < n) (hs : sd L k = true) : X1_hearers h (b + 46) (nI k) = some (nI (hrs C L th k)) := by
  have hb := hp.1
  have cc := hb_cc hb
  have h6 := cc.2.1.1.2.2.1.1
  have hj : gI h c 1 6 = some (nI (cJ C)) := by rw [cs_I cc.1, cc.2.2.2.2.2.2.2.2.1]
  unfold X1_hearers
  rw [if_pos (hb_t hb)]
  have hl2 := loop_st (fun fu j (a : Int32) => X1_hearers_L4 h (b + 46) (nI k) fu a (nI j)) (fun j => nI (msk (hdj C L th k) j)) (some (nI (hrs C L th k))) (cJ C) (fun j fu hj2 => by
    try simp only []
    have w3 := ((hp_wf hp).2.1 j hj2).2.2.2.2.1
    rw [X1_hearers_L4, hb_c hb, Option.bind_some, hj, Option.bind_some, if_pos (lt_lit hj2 (by omega)), ownSides_c hb hj2, Option.bind_some, Option.bind_some, faces_c cc hj2, Option.bind_some, turned_c _ (eW_lt C j) _ (fc_lt C j k), Option.bind_some, Option.bind_some, hb_o3 hb hj2, Option.bind_some, isHeard_c hp hk hs hj2 (trl_lt _ (eW_lt C j) _ (fc_lt C j k)) w3, Option.bind_some, nI_p1, ← msk_step (by omega)]
    show (if bI (hdj C L th k j) = 0 then _ else _) = _
    cases hdj C L th k j
    · rw [if_pos (by decide), if_neg (by decide)]
    · rw [if_neg (by decide), if_pos rfl])
    (fun fu => by (try simp only []); rw [X1_hearers_L4, hb_c hb, Option.bind_some, hj, Option.bind_some, if_neg (nlt_lit (Nat.le_refl _) (by omega))]; rfl) FU (FU_gt (by omega))
  rw [show X1_hearers_L4 h (b + 46) (nI k) FU 0 0 = _ from hl2]
  rfl
theorem hdj_n {h : HA} {m c t k j : Nat} {C L : CR} {th : Nat → Nat} {n : Nat} (mp : MP h m c t C L th n) (hk : k < n) (hj : j < cJ C) :
    X8_hearsDeed h m (nI k) (nI (jg C j 0)) (nI (fc C j k)) (nI (eW C j)) (nI (jg C j 3)) = some (bI (hdj C L th k j)) := by
  obtain ⟨_, w1, w2, w3, w4, w5⟩ := mp.2.1.2.1 j hj
  exact hearsDeed_n mp hk w1 (fc_lt C j k) (eW_lt C j) w4
def qheard (D : DT) (x y k : Int32) : Int32 := if ((rg x (dN D 0) && rg y (dN D 1)) && (rg k (stD D x y) && sd (dR D 1 (tn y)) (tn k))) = true then nI (hrs (dC D (tn x)) (dR D 1 (tn y)) (fun _ => 0) (tn k)) else -1
theorem c_heard {h : HA} {b : Nat} {D : DT} {α : Nat → Nat} {lm : Nat → Nat → Nat} {im : Nat → Option (Nat × DT)} (hi : IV h b D α lm im) (x y k : Int32) : AC b D α lm im (X7_heard h b x y k) (qheard D x y k) := by
  unfold X7_heard qheard
  rw [if_pos (fx_c hi.1)]
  rcases hallOf_ok hi x y with ⟨h1, h2, e2, i2⟩ | ⟨a, t, h2, ha, ht, rfl, rfl, hr, e2, i2, hp⟩
  · rw [e2, h1]; exact ⟨h2, rfl, i2⟩
  · have est : stD D (nI a) (nI t) = so (dC D a) (dR D 1 t) (llen (dR D 1 t)) := by unfold stD; rw [tnE (iv_w hi) (by omega) ha, tnE (iv_w hi) (by omega) ht]
    have h30 := llen_30 (hp_L hp)
    have hso := (so_spec (dC D a) (dR D 1 t) (llen (dR D 1 t))).1
    rw [e2, hr, Option.bind_some, Bool.true_and, est, tnE (iv_w hi) (by omega) ha, tnE (iv_w hi) (by omega) ht]
    refine ⟨h2, ?_, i2⟩
    dsimp only
    rcases i_nat k with hn | ⟨q, hq, rfl⟩
    · rw [if_pos hn, neg_rg hn]; rfl
    · rw [if_neg (nI_lt0 hq), gI_n (fx_hk hp.1.1), hp.2.1, Option.bind_some, rg_n hq, tn_nI hq]
      by_cases h3 : q < so (dC D a) (dR D 1 t) (llen (dR D 1 t))
      · rw [if_pos (lt_lit h3 (by omega)), isSaid_c hp.1 (by omega), Option.bind_some]
        cases hs : sd (dR D 1 t) q with
        | false => rw [Bool.and_false]; rfl
        | true => rw [if_neg (by decide), hearers_c hp h3 hs, if_pos (by simp [h3])]; rfl
      · rw [if_neg (nlt_lit (by omega) hq), if_neg (by simp [h3])]
theorem m_heard {h : HA} {b : Nat} {D : DT} {α : Nat → Nat} {lm : Nat → Nat → Nat} {im : Nat → Option (Nat × DT)} (hi : IV h b D α lm im) (x y k : Int32) : AC b D α lm im (X8_heard h (b + 55) x y k) (qheard D x y k) := by
  unfold X8_heard qheard
  rw [if_pos (ms_c (iv_ms hi)), ms_p (iv_ms hi), Option.bind_some]
  have hi0 := IV_m0 hi 0 0
  rcases layTrial_ok hi0 x y with ⟨h1, h2, e2, i2⟩ | ⟨a, t, h2, ha, ht, rfl, rfl, hr, e2, i2, mp⟩
  · rw [e2, h1]; exact ⟨h2, rfl, i2⟩
  · have est : stD D (nI a) (nI t) = so (dC D a) (dR D 1 t) (llen (dR D 1 t)) := by unfold stD; rw [tnE (iv_w hi) (by omega) ha, tnE (iv_w hi) (by omega) ht]
    have hs := mp.1.1
    have h6 := hs.2.1.2.2.1.1
    have hw := mp.2.1
    have h30 := llen_30 (mp_L mp)
    have hso := (so_spec (dC D a) (dR D 1 t) (llen (dR D 1 t))).1
    rw [e2, hr, Option.bind_some, Bool.true_and, est, tnE (iv_w hi) (by omega) ha, tnE (iv_w hi) (by omega) ht]
    refine ⟨h2, ?_, i2⟩
    dsimp only
    rw [if_neg (by decide), ms_I hs.1, mp.2.2.2.1, Option.bind_some, in_rg k (by omega), Option.bind_some]
    cases hk : rg k (so (dC D a) (dR D 1 t) (llen (dR D 1 t))) with
    | false => rfl
    | true =>
      obtain ⟨q, hq, rfl⟩ := (rg_iff (by omega)).mp hk
      rw [if_neg (by decide), ms_r42 hs.1, Option.bind_some, mp_said mp hq, Option.bind_some, tn_nI (show q < 2 ^ 31 by omega)]
      cases hsd : sd (dR D 1 t) q with
      | false => rfl
      | true =>
        have s2 := (say_c (mp_L mp) (show q < llen (dR D 1 t) by omega) hsd).2.2.1
        rw [if_pos rfl, if_neg (nI_nm1 (by omega))]
        have hl2 := loop_st (fun fu j (a : Int32) => X8_heard_L46 h2 (b + 55) (nI q) fu a (nI j)) (fun j => nI (msk (hdj (dC D a) (dR D 1 t) (fun _ => 0) q) j)) (some (nI (hrs (dC D a) (dR D 1 t) (fun _ => 0) q))) (cJ (dC D a)) (fun j fu hj2 => by
          try simp only []
          obtain ⟨_, w1, w2, w3, w4, w5⟩ := hw.2.1 j hj2
          rw [X8_heard_L46, ms_I hs.1, hs.2.2.2.2.2.2.2.1, Option.bind_some, if_pos (lt_lit hj2 (by omega)), jo0 hs hw.2.1 hj2, Option.bind_some, jo1 hs hw.2.1 hj2, Option.bind_some, jo4 hs hw.2.1 hj2, Option.bind_some, faces_n hs (by omega) (by omega) (by omega), Option.bind_some, earsOf_n hs hw.2.1 hj2, Option.bind_some, jo3 hs hw.2.1 hj2, Option.bind_some,
            show (jg (dC D a) j 1 + q * jg (dC D a) j 4) % 4 = fc (dC D a) j q from rfl, hdj_n mp hq hj2, Option.bind_some, nI_p1, ← msk_step (by omega)]
          cases hdj (dC D a) (dR D 1 t) (fun _ => 0) q j
          · rw [if_pos (by decide), if_neg (by decide), or_0]
          · rw [if_neg (by decide), if_pos rfl])
          (fun fu => by (try simp only []); rw [X8_heard_L46, ms_I hs.1, hs.2.2.2.2.2.2.2.1, Option.bind_some, if_neg (nlt_lit (Nat.le_refl _) (by omega))]; rfl) FU (FU_gt (by omega))
        rw [show X8_heard_L46 h2 (b + 55) (nI q) FU 0 0 = _ from hl2]
        rfl
