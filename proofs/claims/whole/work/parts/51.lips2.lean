/-! CLAIMS -/
def cK (Q : CR) (k w : Nat) : Int32 := Q (1 + 2 * k + w)
def cj (Q : CR) (k : Nat) : Nat := tn (cK Q k 0)
def cw (Q : CR) (k : Nat) : Nat := tn (cK Q k 1)
theorem claim_c {Q : CR} (hQ : WL 3 Q) {k : Nat} (hk : k < llen Q) : cj Q k < 6 ∧ cw Q k < 10 ∧ cK Q k 0 = nI (cj Q k) ∧ cK Q k 1 = nI (cw Q k) := by
  have h := hQ.2.2 k hk
  unfold WLr at h
  rw [if_neg (by decide), if_neg (by decide)] at h
  obtain ⟨j, w, h1, h2, h3, h4⟩ := h
  unfold cj cw cK
  rw [show 1 + 2 * k + 0 = 1 + 2 * k by omega, show 1 + 2 * k + 1 = 2 + 2 * k by omega, h3, h4, tn_nI (by omega), tn_nI (by omega)]
  exact ⟨h1, h2, rfl, rfl⟩
theorem llen_12 {Q : CR} (hQ : WL 3 Q) : llen Q ≤ 12 := hQ.1
def lrb (C L Q : CR) (n k : Nat) : Bool := !decide (cj Q k < cJ C) || !(kn C L (fun _ => 0) n (cj Q k)).testBit (cw Q k)
def lpb (C L Q : CR) (n k : Nat) : Bool := lrb C L Q n k && (decide (cj Q k < cJ C) && (wsn C L n (cj Q k)).testBit (cw Q k))
def lrm (C L Q : CR) (n : Nat) : Nat := msk (lrb C L Q n) (llen Q)
def lpm (C L Q : CR) (n : Nat) : Nat := msk (lpb C L Q n) (llen Q)
theorem m12 (p : Nat → Bool) {Q : CR} (hQ : WL 3 Q) : msk p (llen Q) < 2 ^ 31 := Nat.lt_of_lt_of_le (msk_lt _ _) (Nat.pow_le_pow_right (by omega) (by have := llen_12 hQ; omega))
theorem wsn_lt {C L : CR} (hL : WL 1 L) {n j : Nat} (hn : n ≤ llen L) : wsn C L n j < 1024 := orf_lt (fun k hk h => (say_c hL (by omega) (sn_sd h)).2.2.1)
theorem at3 {h : HA} {l k w : Nat} {Q : CR} (hl : LL h l 3 Q) (hQ : WL 3 Q) (hk : k < llen Q) (hw : w < 2) : X2_at h l (nI k) (nI w) = some (cK Q k w) := at_c hl hQ hk hw
theorem lips54 {h : HA} {b c l q : Nat} {C L Q : CR} {n : Nat} (hp : HP h b c l C L (fun _ => 0) n) (k0 : KN h b C L (fun _ => 0) n) (hl : LL h q 3 Q) (hQ : WL 3 Q) : X7_lips_L54 h q (b + 46) FU 0 0 0 = some (nI (lrm C L Q n), nI (lpm C L Q n)) := by
  have h6 := hb_6 hp.1
  have h12 := llen_12 hQ
  have hL := hp_L hp
  have hn := hp.2.2.1
  exact loop_st (fun fu k (z : Int32 × Int32) => X7_lips_L54 h q (b + 46) fu z.1 z.2 (nI k)) (fun k => (nI (msk (lrb C L Q n) k), nI (msk (lpb C L Q n) k))) (some (nI (lrm C L Q n), nI (lpm C L Q n))) (llen Q) (fun k fu hk => by
    try simp only []
    obtain ⟨c1, c2, c3, c4⟩ := claim_c hQ hk
    have sr := msk_step (p := lrb C L Q n) (n := k) (by omega)
    have sp := msk_step (p := lpb C L Q n) (n := k) (by omega)
    rw [X7_lips_L54, ll_len hl hQ, Option.bind_some, if_pos (lt_lit hk (by omega)), show X2_at h q (nI k) 0 = _ from at3 (w := 0) hl hQ hk (by omega), Option.bind_some, show X2_at h q (nI k) 1 = _ from at3 (w := 1) hl hQ hk (by omega), Option.bind_some, hb_c hp.1, Option.bind_some, c3, c4, hasJudge_c (hb_cc hp.1), rg_n (by omega), Option.bind_some, nI_p1, ← sr, ← sp]
    by_cases hj : cj Q k < cJ C
    · have er : lrb C L Q n k = !(kn C L (fun _ => 0) n (cj Q k)).testBit (cw Q k) := by unfold lrb; simp [hj]
      have ep : lpb C L Q n k = (!(kn C L (fun _ => 0) n (cj Q k)).testBit (cw Q k) && (wsn C L n (cj Q k)).testBit (cw Q k)) := by unfold lpb; rw [er]; simp [hj]
      have hkl := kn_lt (C := C) hL (th := fun _ => 0) (n := n) (j := cj Q k) hn
      have hwl := wsn_lt (C := C) hL (n := n) (j := cj Q k) hn
      simp only [show decide (cj Q k < cJ C) = true by simpa using hj, bi_t, if_false]
      rw [fx_r5 hp.1.1, Option.bind_some, kn_ld hp k0 hj, Option.bind_some, has_w (by omega) (by omega), Option.bind_some, wordsSeen_c hp hj, Option.bind_some, has_w (by omega) (by omega), Option.bind_some, er, ep]
      cases (kn C L (fun _ => 0) n (cj Q k)).testBit (cw Q k)
      · cases (wsn C L n (cj Q k)).testBit (cw Q k) <;> rfl
      · rfl
    · have er : lrb C L Q n k = true := by unfold lrb; simp [hj]
      have ep : lpb C L Q n k = false := by unfold lpb; simp [hj]
      simp only [show decide (cj Q k < cJ C) = false by simpa using hj, bi_f, if_true]
      rw [er, ep, if_pos rfl, if_neg (by simp)])
    (fun fu => by (try simp only []); rw [X7_lips_L54, ll_len hl hQ, Option.bind_some, if_neg (nlt_lit (Nat.le_refl _) (by omega))]; rfl) FU (FU_gt (by omega))
def rdc (C L Q : CR) (n j : Nat) : Nat := cnt (fun k => lpb C L Q n k && decide (cj Q k = j)) (llen Q)
def rdr (C L Q : CR) (n : Nat) : Int32 := (amx (fun j => nI (rdc C L Q n j)) (-1) 0 (cJ C)).1
theorem rdc_0 {C L Q : CR} {n j : Nat} (hj : cJ C ≤ j) : rdc C L Q n j = 0 := by
  have : ∀ m, cnt (fun k => lpb C L Q n k && decide (cj Q k = j)) m = 0 := by
    intro m
    induction m with
    | zero => rfl
    | succ m ih =>
      show cnt _ m + _ = 0
      rw [ih, if_neg]
      intro z
      rw [Bool.and_eq_true] at z
      have h1 : cj Q m = j := by simpa using z.2
      have h2 := z.1
      unfold lpb at h2
      rw [h1] at h2
      simp at h2; omega
  exact this _
theorem amx_nn {v : Nat → Nat} (hv : ∀ i, v i < 2 ^ 31) (n : Nat) : ∃ q, q < 2 ^ 31 ∧ (amx (fun j => nI (v j)) (-1) 0 n).2 = nI q := by
  induction n with
  | zero => exact ⟨0, by omega, rfl⟩
  | succ n ih =>
    rw [amx]
    split
    · exact ⟨v n, hv n, rfl⟩
    · exact ih
theorem amx_six {C L Q : CR} {n : Nat} (hQ : WL 3 Q) : ∀ m, cJ C ≤ m → amx (fun j => nI (rdc C L Q n j)) (-1) 0 m = amx (fun j => nI (rdc C L Q n j)) (-1) 0 (cJ C) := by
  intro m
  induction m with
  | zero => intro h; have : cJ C = 0 := by omega
            rw [this]
  | succ m ih =>
    intro h
    by_cases e : cJ C = m + 1
    · rw [e]
    · rw [amx, ← ih (by omega), if_neg]
      have hv : ∀ i, rdc C L Q n i < 2 ^ 31 := fun i => by have := cnt_le (fun k => lpb C L Q n k && decide (cj Q k = i)) (llen Q); have := llen_12 hQ; unfold rdc; omega
      obtain ⟨q, q1, q2⟩ := amx_nn hv m
      show ¬ (amx (fun j => nI (rdc C L Q n j)) (-1) 0 m).2 < nI (rdc C L Q n m)
      rw [q2, rdc_0 (by omega)]
      exact nlt_lit (by omega) q1
theorem lpm_bit {C L Q : CR} {n k : Nat} (hk : k < llen Q) : (lpm C L Q n).testBit k = lpb C L Q n k := by unfold lpm; rw [msk_bit]; simp [hk]
theorem readerOf_c {h : HA} {q n : Nat} {C L Q : CR} (h6 : cJ C ≤ 6) (hl : LL h q 3 Q) (hQ : WL 3 Q) : X7_readerOf h q (nI (lpm C L Q n)) = some (rdr C L Q n) := by
  have h12 := llen_12 hQ
  have hm : lpm C L Q n < 2 ^ 31 := m12 (lpb C L Q n) hQ
  have hl20 : ∀ j, j < 6 → X7_readerOf_L20 h q (nI (lpm C L Q n)) (nI j) FU 0 0 = some (nI (rdc C L Q n j)) := fun j hj =>
    loop_st (fun fu k (z : Int32) => X7_readerOf_L20 h q (nI (lpm C L Q n)) (nI j) fu z (nI k)) (fun k => nI (cnt (fun k => lpb C L Q n k && decide (cj Q k = j)) k)) (some (nI (rdc C L Q n j))) (llen Q) (fun k fu hk => by
      try simp only []
      obtain ⟨c1, c2, c3, c4⟩ := claim_c hQ hk
      rw [X7_readerOf_L20, ll_len hl hQ, Option.bind_some, if_pos (lt_lit hk (by omega)), has_w hm (by omega), Option.bind_some, lpm_bit hk, nI_p1, nI_p1]
      rw [show cnt (fun k => lpb C L Q n k && decide (cj Q k = j)) (k + 1) = cnt (fun k => lpb C L Q n k && decide (cj Q k = j)) k + (if (lpb C L Q n k && decide (cj Q k = j)) = true then 1 else 0) from rfl]
      cases lpb C L Q n k with
      | false => rw [if_pos (by decide)]; rfl
      | true =>
        rw [if_neg (by decide), show X2_at h q (nI k) 0 = _ from at3 (w := 0) hl hQ hk (by omega), Option.bind_some, c3]
        by_cases e : cj Q k = j
        · rw [if_pos (by rw [e]), if_pos (by simp [e])]
        · rw [if_neg (fun z => e (nI_inj (by omega) (by omega) z)), if_neg (by simp [e])]; rfl)
      (fun fu => by (try simp only []); rw [X7_readerOf_L20, ll_len hl hQ, Option.bind_some, if_neg (nlt_lit (Nat.le_refl _) (by omega))]; rfl) FU (FU_gt (by omega))
  unfold X7_readerOf
  have hl7 := loop_st (fun fu j (z : Int32 × Int32) => X7_readerOf_L7 h q (nI (lpm C L Q n)) fu z.1 z.2 (nI j)) (fun j => amx (fun j => nI (rdc C L Q n j)) (-1) 0 j) (some (rdr C L Q n)) 6 (fun j fu hj => by
    try simp only []
    rw [X7_readerOf_L7, if_pos (show nI j < 6 from lt_lit (n := 6) hj (by omega)), hl20 j hj, Option.bind_some, nI_p1, amx]
    by_cases e : (amx (fun j => nI (rdc C L Q n j)) (-1) 0 j).2 < nI (rdc C L Q n j)
    · rw [if_pos e, if_pos e]
    · rw [if_neg e, if_neg e])
    (fun fu => by (try simp only []); rw [X7_readerOf_L7, if_neg (by decide), amx_six hQ 6 h6]; rfl) FU (FU_gt (by omega))
  rw [show X7_readerOf_L7 h q (nI (lpm C L Q n)) FU (-1) 0 0 = _ from hl7, Option.bind_some]
def qlips (D : DT) (x y l w : Int32) : Int32 := if (((rg x (dN D 0) && rg y (dN D 1)) && rg l (dN D 3)) && rg w 4) = true then (let C := dC D (tn x); let L := dR D 1 (tn y); let Q := dR D 3 (tn l); let n := stD D x y;
  if w = 0 then nI (lrm C L Q n) else if w = 1 then nI (lpm C L Q n) else if w = 2 then nI (lrm C L Q n) &&& (nI (lpm C L Q n) ^^^ (-1)) else rdr C L Q n) else -2
theorem c_lips {h : HA} {b : Nat} {D : DT} {α : Nat → Nat} {lm : Nat → Nat → Nat} {im : Nat → Option (Nat × DT)} (hi : IV h b D α lm im) (x y l w : Int32) : AC b D α lm im (X7_lips h b x y l w) (qlips D x y l w) := by
  unfold X7_lips qlips
  rw [if_pos (fx_c hi.1)]
  rcases listAt_ok hi (s := 3) (by omega) (by omega) l with ⟨h3, h4⟩ | ⟨r, hr, rfl, hr2, e4⟩
  · rw [show X7_listAt h b 3 l = _ from h4, h3, Bool.and_false, Option.bind_some]
    dsimp only
    rcases hallOf_ok hi x y with ⟨h1, h2, e2, i2⟩ | ⟨a, t, h2, ha, ht, rfl, rfl, hr, e2, i2, hp⟩
    · rw [e2]; exact ⟨h2, rfl, i2⟩
    · rw [e2]; exact ⟨h2, rfl, i2⟩
  · rw [show X7_listAt h b 3 (nI r) = _ from e4, hr2, Bool.and_true, Option.bind_some]
    dsimp only
    rcases hallOf_ok hi x y with ⟨h1, h2, e2, i2⟩ | ⟨a, t, h2, ha, ht, rfl, rfl, hr3, e2, i2, hp⟩
    · rw [e2, h1]; exact ⟨h2, rfl, i2⟩
    · obtain ⟨h5, e5, i5, p5, k5⟩ := learnAll_ok i2 hp
      have hll := iv_ll i5 (by omega) (by omega) hr
      have hQ := iv_wl i5 (by omega) (by omega) hr
      have h6 := hb_6 hp.1
      rw [e2, hr3, Option.bind_some, Bool.true_and, est (iv_w hi) ha ht, tnE (iv_w hi) (by omega) ha, tnE (iv_w hi) (by omega) ht, tnE (iv_w hi) (by omega) hr]
      dsimp only
      rcases i_nat w with hw | ⟨v, hv, rfl⟩
      · rw [if_pos hw, neg_rg hw]; exact ⟨h2, rfl, i2⟩
      · rw [if_neg (nI_lt0 hv), rg_n hv]
        by_cases hv2 : v < 4
        · rw [if_neg (show ¬ 3 < nI v from fun z => by have := (lt_n (a := 3) (by omega) hv).mp z; omega), if_pos (show decide (v < 4) = true by simpa using hv2), e5, Option.bind_some, lips54 p5 k5 hll hQ, Option.bind_some]
          refine ⟨h5, ?_, i5⟩
          dsimp only
          rw [readerOf_c h6 hll hQ, Option.bind_some]
          repeat' split
          all_goals rfl
        · rw [if_pos (show 3 < nI v from (lt_n (a := 3) (by omega) hv).mpr (by omega)), if_neg (show ¬ decide (v < 4) = true by simpa using hv2)]
          exact ⟨h2, rfl, i2⟩
theorem m_lips {h : HA} {b : Nat} {D : DT} {α : Nat → Nat} {lm : Nat → Nat → Nat} {im : Nat → Option (Nat × DT)} (hi : IV h b D α lm im) (x y l w : Int32) : AC b D α lm im (X8_lips h (b + 55) x y l w) (qlips D x y l w) := by
  have hn3 := (iv_w hi).2.1 3 (by omega)
  unfold X8_lips qlips
  rw [if_pos (ms_c (iv_ms hi)), ms_p (iv_ms hi), Option.bind_some]
  have hi0 := IV_m0 hi 0 0
  rw [show X8_in w 0 3 = _ from in_rn w (n := 3) (by omega), Option.bind_some]
  cases hw : rg w (3 + 1) with
  | false => rw [Bool.and_false]; exact ⟨_, rfl, hi0⟩
  | true =>
    rw [if_neg (by decide), Bool.and_true, hasRoll_n hi0, Option.bind_some]
    have i0 := IV_m0 hi0 52 l
    dsimp only
    cases hr : rg l (dN D 3) with
    | false => rw [Bool.and_false]; exact ⟨_, rfl, i0⟩
    | true =>
      obtain ⟨r, hr2, rfl⟩ := (rg_iff (by omega)).mp hr
      rw [if_neg (by decide), Bool.and_true]
      rcases layTrial_ok2 i0 x y with ⟨h1, h2, e2, i2⟩ | ⟨a, t, h2, ha, ht, rfl, rfl, hr3, e2, i2, mp, f2⟩
      · rw [e2, h1]; exact ⟨h2, rfl, i2⟩
      · have g52 : gi h2 (b + 55) 52 = nI r := by rw [f2 52 (by omega), iv_si]
        have hs := mp.1.1
        have h6 := mp.2.1.1.2.2.1.1
        have hL := mp_L mp
        have hQ := iv_wl i2 (s := 3) (by omega) (by omega) hr2
        have h12 := llen_12 hQ
        have hn := mp.2.2.2.2.1
        rw [e2, hr3, Option.bind_some, if_pos rfl, est (iv_w hi) ha ht, tnE (iv_w hi) (by omega) ha, tnE (iv_w hi) (by omega) ht, tnE (iv_w hi) (by omega) hr2]
        dsimp only
        generalize so (dC D a) (dR D 1 t) (llen (dR D 1 t)) = n at *
        generalize hCe : dC D a = C at *
        generalize hLe : dR D 1 t = L at *
        generalize hQe : dR D 3 r = Q at *
        have kl := claims_n i2 hr2 g52
        have kc : ∀ k w, k < llen Q → w < 2 → X8_claimOf h2 (b + 55) (nI k) (nI w) = some (cK Q k w) := fun k w hk hw2 => by
          rw [claimOf_n i2 hr2 g52 (by omega) hw2, hQe]; rfl
        rw [hQe] at kl
        have elr : X8_liars h2 (b + 55) = some (nI (lrm C L Q n)) := by
          unfold X8_liars
          have hl2 := loop_st (fun fu k (z : Int32) => X8_liars_L4 h2 (b + 55) fu z (nI k)) (fun k => nI (msk (lrb C L Q n) k)) (some (nI (lrm C L Q n))) (llen Q) (fun k fu hk => by
            try simp only []
            obtain ⟨c1, c2, c3, c4⟩ := claim_c hQ hk
            have sr := msk_step (p := lrb C L Q n) (n := k) (by omega)
            rw [X8_liars_L4, kl, Option.bind_some, if_pos (lt_lit hk (by omega)), show X8_claimOf h2 (b + 55) (nI k) 0 = _ from kc k 0 hk (by omega), Option.bind_some, c3, isJudge_n hs, rg_n (by omega), Option.bind_some, nI_p1, ← sr]
            by_cases hj : cj Q k < cJ C
            · have er : lrb C L Q n k = !(kn C L (fun _ => 0) n (cj Q k)).testBit (cw Q k) := by unfold lrb; simp [hj]
              have hkl := kn_lt (C := C) hL (th := fun _ => 0) (n := n) (j := cj Q k) hn
              simp only [show decide (cj Q k < cJ C) = true by simpa using hj, bi_t, if_false]
              rw [known_n mp hj, Option.bind_some, show X8_claimOf h2 (b + 55) (nI k) 1 = _ from kc k 1 hk (by omega), Option.bind_some, c4, hasM (by omega) (by omega), Option.bind_some, er, or_0]
              cases (kn C L (fun _ => 0) n (cj Q k)).testBit (cw Q k) <;> rfl
            · have er : lrb C L Q n k = true := by unfold lrb; simp [hj]
              simp only [show decide (cj Q k < cJ C) = false by simpa using hj, bi_f, if_true]
              rw [er, if_pos rfl])
            (fun fu => by (try simp only []); rw [X8_liars_L4, kl, Option.bind_some, if_neg (nlt_lit (Nat.le_refl _) (by omega))]; rfl) FU (FU_gt (by omega))
          rw [if_pos (ms_c hs.1), show X8_liars_L4 h2 (b + 55) FU 0 0 = _ from hl2, Option.bind_some]
        have elp : X8_lipsOf h2 (b + 55) (nI (lrm C L Q n)) = some (nI (lpm C L Q n)) := by
          have hm : lrm C L Q n < 2 ^ 31 := m12 (lrb C L Q n) hQ
          unfold X8_lipsOf
          have hl2 := loop_st (fun fu k (z : Int32) => X8_lipsOf_L4 h2 (b + 55) (nI (lrm C L Q n)) fu z (nI k)) (fun k => nI (msk (lpb C L Q n) k)) (some (nI (lpm C L Q n))) (llen Q) (fun k fu hk => by
            try simp only []
            obtain ⟨c1, c2, c3, c4⟩ := claim_c hQ hk
            have sp := msk_step (p := lpb C L Q n) (n := k) (by omega)
            have eb : (lrm C L Q n).testBit k = lrb C L Q n k := by unfold lrm; rw [msk_bit]; simp [hk]
            rw [X8_lipsOf_L4, kl, Option.bind_some, if_pos (lt_lit hk (by omega)), show X8_claimOf h2 (b + 55) (nI k) 0 = _ from kc k 0 hk (by omega), Option.bind_some, c3, hasM hm (by omega), Option.bind_some, eb, nI_p1, ← sp, or_0]
            have ep : lpb C L Q n k = (lrb C L Q n k && (decide (cj Q k < cJ C) && (wsn C L n (cj Q k)).testBit (cw Q k))) := rfl
            rw [ep]
            cases lrb C L Q n k with
            | false => rfl
            | true =>
              rw [if_neg (by decide), isJudge_n hs, rg_n (by omega), Option.bind_some]
              by_cases hj : cj Q k < cJ C
              · have hwl := wsn_lt (C := C) hL (n := n) (j := cj Q k) hn
                simp only [show decide (cj Q k < cJ C) = true by simpa using hj, bi_t, if_false]
                rw [show X8_claimOf h2 (b + 55) (nI k) 1 = _ from kc k 1 hk (by omega), Option.bind_some, c4, couldSee_n mp hj c2, Option.bind_some]
                cases (wsn C L n (cj Q k)).testBit (cw Q k) <;> rfl
              · simp only [show decide (cj Q k < cJ C) = false by simpa using hj, bi_f, if_true]; rfl)
            (fun fu => by (try simp only []); rw [X8_lipsOf_L4, kl, Option.bind_some, if_neg (nlt_lit (Nat.le_refl _) (by omega))]; rfl) FU (FU_gt (by omega))
          rw [if_pos (ms_c hs.1), show X8_lipsOf_L4 h2 (b + 55) (nI (lrm C L Q n)) FU 0 0 = _ from hl2, Option.bind_some]
        have erd : X8_reader h2 (b + 55) (nI (lpm C L Q n)) = some (rdr C L Q n) := by
          have hm : lpm C L Q n < 2 ^ 31 := m12 (lpb C L Q n) hQ
          have hl22 : ∀ j, j < 6 → X8_reader_L22 h2 (b + 55) (nI (lpm C L Q n)) (nI j) FU 0 0 = some (nI (rdc C L Q n j)) := fun j hj =>
            loop_st (fun fu k (z : Int32) => X8_reader_L22 h2 (b + 55) (nI (lpm C L Q n)) (nI j) fu z (nI k)) (fun k => nI (cnt (fun k => lpb C L Q n k && decide (cj Q k = j)) k)) (some (nI (rdc C L Q n j))) (llen Q) (fun k fu hk => by
              try simp only []
              obtain ⟨c1, c2, c3, c4⟩ := claim_c hQ hk
              rw [X8_reader_L22, kl, Option.bind_some, if_pos (lt_lit hk (by omega)), hasM hm (by omega), Option.bind_some, lpm_bit hk, nI_p1, nI_p1, Int32.add_zero]
              rw [show cnt (fun k => lpb C L Q n k && decide (cj Q k = j)) (k + 1) = cnt (fun k => lpb C L Q n k && decide (cj Q k = j)) k + (if (lpb C L Q n k && decide (cj Q k = j)) = true then 1 else 0) from rfl]
              cases lpb C L Q n k with
              | false => rw [if_pos (by decide)]; rfl
              | true =>
                rw [if_neg (by decide), show X8_claimOf h2 (b + 55) (nI k) 0 = _ from kc k 0 hk (by omega), Option.bind_some, c3]
                by_cases e : cj Q k = j
                · rw [if_pos (by rw [e]), if_pos (by simp [e])]
                · rw [if_neg (fun z => e (nI_inj (by omega) (by omega) z)), if_neg (by simp [e])]; rfl)
              (fun fu => by (try simp only []); rw [X8_reader_L22, kl, Option.bind_some, if_neg (nlt_lit (Nat.le_refl _) (by omega))]; rfl) FU (FU_gt (by omega))
          unfold X8_reader
          have hl7 := loop_st (fun fu j (z : Int32 × Int32) => X8_reader_L7 h2 (b + 55) (nI (lpm C L Q n)) fu z.1 z.2 (nI j)) (fun j => amx (fun j => nI (rdc C L Q n j)) (-1) 0 j) (some (rdr C L Q n)) (cJ C) (fun j fu hj => by
            try simp only []
            rw [X8_reader_L7, ms_I hs.1, hs.2.2.2.2.2.2.2.1, Option.bind_some, if_pos (lt_lit hj (by omega)), hl22 j (by omega), Option.bind_some, nI_p1, greater_n, amx]
            dsimp only [lett]
            rw [Option.bind_some]
            by_cases e : (amx (fun j => nI (rdc C L Q n j)) (-1) 0 j).2 < nI (rdc C L Q n j)
            · rw [if_pos e, if_pos e, if_pos e]
            · rw [if_neg e, if_neg e, if_neg e])
            (fun fu => by (try simp only []); rw [X8_reader_L7, ms_I hs.1, hs.2.2.2.2.2.2.2.1, Option.bind_some, if_neg (nlt_lit (Nat.le_refl _) (by omega))]; rfl) FU (FU_gt (by omega))
          rw [if_pos (ms_c hs.1), show X8_reader_L7 h2 (b + 55) (nI (lpm C L Q n)) FU (-1) 0 0 = _ from hl7, Option.bind_some]
        refine ⟨h2, ?_, i2⟩
        rw [if_neg (by decide), elr, Option.bind_some, elp, Option.bind_some, erd, Option.bind_some]
        repeat' split
        all_goals rfl
