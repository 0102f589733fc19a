/-! LAWS -/
theorem nI_64 {w : Nat} (hw : w < 2 ^ 31) : (nI w).toInt64 = nJ w := by
  apply Int64.toInt_inj.mp
  rw [Int32.toInt_toInt64, nI_toInt hw]
  exact (Int64.toInt_ofNat_of_lt (by omega)).symm
theorem has_w {w k : Nat} (hw : w < 2 ^ 31) (hk : k < 64) : X7_has (nI w).toInt64 (nI k) = some (bI (w.testBit k)) := by
  rw [nI_64 hw, has_n _ hk, nJ_tb (by omega)]
theorem sh_k : ∀ k, k < 31 → (nI k &&& 31).toBitVec.smod 32 = BitVec.ofNat 32 k := by decide +kernel
theorem shr_n {w k : Nat} (hw : w < 2 ^ 31) (hk : k < 31) : shrI (nI w) (nI k) = nI (w / 2 ^ k) := by
  unfold shrI
  apply Int32.toBitVec_inj.mp
  rw [Int32.toBitVec_shiftRight, sh_k k hk]
  have h1 : (nI w).toBitVec = BitVec.ofNat 32 w := rfl
  have h2 : (nI (w / 2 ^ k)).toBitVec = BitVec.ofNat 32 (w / 2 ^ k) := rfl
  have hq : w / 2 ^ k < 2 ^ 31 := Nat.lt_of_le_of_lt (Nat.div_le_self _ _) hw
  rw [h1, h2, BitVec.sshiftRight', BitVec.sshiftRight_eq_of_msb_false]
  · apply BitVec.eq_of_toNat_eq
    rw [BitVec.toNat_ushiftRight, BitVec.toNat_ofNat, BitVec.toNat_ofNat, BitVec.toNat_ofNat, Nat.mod_eq_of_lt (by omega), Nat.mod_eq_of_lt (show k < 2 ^ 32 by omega), Nat.mod_eq_of_lt (by omega), Nat.shiftRight_eq_div_pow]
  · rw [BitVec.msb_eq_decide, BitVec.toNat_ofNat, Nat.mod_eq_of_lt (by omega)]; simp; omega
theorem hasM {w k : Nat} (hw : w < 2 ^ 31) (hk : k < 31) : X8_has (nI w) (nI k) = some (bI (w.testBit k)) := by
  unfold X8_has
  have hq : w / 2 ^ k < 2 ^ 31 := Nat.lt_of_le_of_lt (Nat.div_le_self _ _) hw
  rw [shr_n hw hk, show (1 : Int32) = nI 1 from rfl, nI_and, Nat.and_one_is_mod]
  have e : w.testBit k = decide (w / 2 ^ k % 2 = 1) := by
    rw [Nat.testBit_eq_decide_div_mod_eq]
  rw [e]
  by_cases h : w / 2 ^ k % 2 = 1
  · rw [if_pos (by rw [h])]; simp [h, bI]; rfl
  · rw [if_neg (fun z => h (nI_inj (by omega) (by omega) z))]; simp [h, bI]
theorem in_m1 (x : Int32) {n : Nat} (hn : n < 2 ^ 31) : X8_in x (-1) (nI n - 1) = some (bI (decide (x = -1) || rg x n)) := by
  unfold X8_in
  rcases i_nat x with h1 | ⟨a, ha, rfl⟩
  · rw [neg_rg h1, Bool.or_false]
    have e0 : (0 : Int32).toInt = 0 := by decide
    have e1 : (-1 : Int32).toInt = -1 := by decide
    rw [Int32.lt_iff_toInt_lt] at h1
    by_cases h2 : x = -1
    · subst h2
      rw [if_neg (by decide), if_neg]
      · rfl
      · rw [Int32.lt_iff_toInt_lt]
        by_cases h0 : n = 0
        · subst h0; decide
        · rw [nI_m1 (by omega), nI_toInt (by omega)]; omega
    · rw [if_pos]
      · simp [h2, bI]
      · rw [Int32.lt_iff_toInt_lt]
        have : x.toInt ≠ -1 := fun z => h2 (Int32.toInt_inj.mp (by rw [z, e1]))
        omega
  · have h2 : ¬ nI a = -1 := nI_nm1 ha
    have h3 : ¬ nI a < -1 := by
      have := m1_lt ha
      intro z
      rw [Int32.lt_iff_toInt_lt] at this z
      omega
    rw [if_neg h3, rg_n ha]
    simp only [h2, decide_false, Bool.false_or]
    by_cases h0 : n = 0
    · subst h0
      rw [show nI 0 - 1 = (-1 : Int32) by decide, if_pos (m1_lt ha)]; simp [bI]
    · rw [nI_m1 (by omega)]
      by_cases h : a < n
      · rw [if_neg (by rw [lt_n (by omega) ha]; omega)]; simp [h, bI]
      · rw [if_pos (by rw [lt_n (by omega) ha]; omega)]; simp [h, bI]
/-- the first with the most, of any numbers -/
def amx (v : Nat → Int32) (b0 m0 : Int32) : Nat → Int32 × Int32
  | 0 => (b0, m0)
  | n + 1 => if (amx v b0 m0 n).2 < v n then (nI n, v n) else amx v b0 m0 n
theorem amx_cong {v w : Nat → Int32} {b0 m0 : Int32} {n : Nat} (h : ∀ i, i < n → v i = w i) : amx v b0 m0 n = amx w b0 m0 n := by
  induction n with
  | zero => rfl
  | succ n ih => rw [amx, amx, ih (fun i hi => h i (by omega)), h n (by omega)]
theorem HP_ch {W : Nat → Nat → Prop} {h h1 : HA} {b c l : Nat} {C L : CR} {th : Nat → Nat} {n : Nat} (hp : HP h b c l C L th n) (p : ch W h h1) (hw : ∀ a k, W a k → a = b + 49 ∨ (b + 52 ≤ a ∧ a ≤ b + 54)) : HP h1 b c l C L th n := by
  obtain ⟨hb, p1, p2, ⟨Z, hZ, hz⟩, p4⟩ := hp
  have nw : ∀ a k, a ≠ b + 49 → ¬ (b + 52 ≤ a ∧ a ≤ b + 54) → ¬ W a k := fun a k h1 h2 w => by have := hw a k w; omega
  refine ⟨HB_ch hb p (fun a k ha w => by have := hw a k w; omega), ?_, p2, ⟨Z, hZ, fun q hq => ?_⟩, fun k hk => ⟨?_, fun Z hZ f hf => ?_⟩⟩
  · rw [p.gi (nw _ _ (by omega) (by omega))]; exact p1
  · rw [p.gi (nw _ _ (by omega) (by omega)), p.gi (nw _ _ (by omega) (by omega))]; exact hz q hq
  · rw [p.gi (nw _ _ (by omega) (by omega))]; exact (p4 k hk).1
  · rw [p.gj (nw _ _ (by omega) (by omega))]; exact (p4 k hk).2 Z hZ f hf
theorem MP_ch {W : Nat → Nat → Prop} {h h1 : HA} {m c t : Nat} {C L : CR} {th : Nat → Nat} {n : Nat} (mp : MP h m c t C L th n) (p : ch W h h1) (hw : ∀ a k, W a k → m + 26 ≤ a ∧ a ≤ m + 29) : MP h1 m c t C L th n := by
  obtain ⟨ht, w, tp, p40, pl, ⟨Z, hZ, nz⟩, pth, pdm⟩ := mp
  have nw : ∀ a k, a < m + 26 → ¬ W a k := fun a k h1 w => by have := hw a k w; omega
  refine ⟨HT_ch ht p (fun k _ _ => nw _ _ (by omega)) (fun k => nw _ _ (by omega)) (fun k => nw _ _ (by omega)), w, TP_ch tp p (nw _ _ (by omega)) (fun k => nw _ _ (by omega)), by rw [p.gi (nw _ _ (by omega))]; exact p40, pl, ⟨Z, hZ, fun i hi => by rw [p.gi (nw _ _ (by omega))]; exact nz i hi⟩, fun k hk => by rw [p.gi (nw _ _ (by omega))]; exact pth k hk, fun k hk Z hZ => ?_⟩
  have := pdm k hk Z hZ
  unfold DM at this ⊢
  rw [p.gi (nw _ _ (by omega)), p.gi (nw _ _ (by omega)), p.gi (nw _ _ (by omega)), p.gi (nw _ _ (by omega))]; exact this
/-- what is learned lies in the Hall -/
def KN (h : HA) (b : Nat) (C L : CR) (th : Nat → Nat) (n : Nat) : Prop := ∀ j, j < cJ C → gi h (b + 49) j = nI (kn C L th n j)
theorem hb_nj {h : HA} {b c l : Nat} {C L : CR} (hb : HB h b c l C L) : gI h c 1 6 = some (nI (cJ C)) := by rw [cs_I (hb_cc hb).1, (hb_cc hb).2.2.2.2.2.2.2.2.1]
theorem hb_np {h : HA} {b c l : Nat} {C L : CR} (hb : HB h b c l C L) : gI h c 1 8 = some (nI (cP C)) := by rw [cs_I (hb_cc hb).1, (hb_cc hb).2.2.2.2.2.2.2.2.2.1]
theorem hb_6 {h : HA} {b c l : Nat} {C L : CR} (hb : HB h b c l C L) : cJ C ≤ 6 := (hb_cc hb).2.1.1.2.2.1.1
theorem learnAll_c {h : HA} {b c l : Nat} {C L : CR} {th : Nat → Nat} {n : Nat} (hp : HP h b c l C L th n) : ∃ h1, X1_learnAll h (b + 46) = some h1 ∧ ch (fun a _ => a = b + 49) h h1 ∧ HP h1 b c l C L th n ∧ KN h1 b C L th n := by
  have h6 := hb_6 hp.1
  unfold X1_learnAll
  rw [if_pos (hb_t hp.1)]
  obtain ⟨h1, e1, c1, k1⟩ := loop_inv (fun fu k (h : HA) => X1_learnAll_L2 (b + 46) fu h (nI k)) (fun k h1 => ch (fun a _ => a = b + 49) h h1 ∧ ∀ j, j < k → gi h1 (b + 49) j = nI (kn C L th n j))
    (fun h1 => ch (fun a _ => a = b + 49) h h1 ∧ ∀ j, j < cJ C → gi h1 (b + 49) j = nI (kn C L th n j)) (cJ C) (by
      intro k h1 fu hk hI
      obtain ⟨i1, i2⟩ := hI
      have hp1 := HP_ch hp i1 (fun a k w => Or.inl w)
      refine ⟨si h1 (b + 49) k (nI (kn C L th n k)), ?_, i1.tr (ch_si rfl), fun j hj => ?_⟩
      · show X1_learnAll_L2 (b + 46) (fu + 1) h1 (nI k) = _
        rw [X1_learnAll_L2, hb_c hp1.1, Option.bind_some, hb_nj hp1.1, Option.bind_some, if_pos (lt_lit hk (by omega)), fx_r5 hp1.1.1, Option.bind_some, gI_n (fx_hk hp1.1.1), hp1.2.1, Option.bind_some, learned_c hp1 (Nat.le_refl _) hk, Option.bind_some, asI_n (fx_k49 hp1.1.1) (by omega) (by omega), Option.bind_some, nI_p1]
      · rw [gi_si]
        by_cases e : j = k
        · subst e; rw [if_pos ⟨rfl, rfl⟩]
        · rw [if_neg (by omega)]; exact i2 j (by omega)) (by
      intro h1 fu hI
      have hp1 := HP_ch hp hI.1 (fun a k w => Or.inl w)
      refine ⟨h1, ?_, hI⟩
      show X1_learnAll_L2 (b + 46) (fu + 1) h1 (nI (cJ C)) = _
      rw [X1_learnAll_L2, hb_c hp1.1, Option.bind_some, hb_nj hp1.1, Option.bind_some, if_neg (nlt_lit (Nat.le_refl _) (by omega))]) h FU ⟨ch_rf _ _, fun j hj => by omega⟩ (FU_gt (by omega))
  refine ⟨h1, ?_, c1, HP_ch hp c1 (fun a k w => Or.inl w), k1⟩
  rw [show X1_learnAll_L2 (b + 46) FU h 0 = _ from e1]; rfl
theorem learnAll_ok {h : HA} {b : Nat} {D : DT} {α : Nat → Nat} {lm : Nat → Nat → Nat} {im : Nat → Option (Nat × DT)} (hi : IV h b D α lm im) {c l : Nat} {C L : CR} {th : Nat → Nat} {n : Nat} (hp : HP h b c l C L th n) :
    ∃ h1, X1_learnAll h (b + 46) = some h1 ∧ IV h1 b D α lm im ∧ HP h1 b c l C L th n ∧ KN h1 b C L th n := by
  obtain ⟨h1, e1, c1, p1, k1⟩ := learnAll_c hp
  exact ⟨h1, e1, IV_ch hi c1 (fun x k w => by unfold Sc; left; omega), p1, k1⟩
theorem kn_ld {h : HA} {b c l j : Nat} {C L : CR} {th : Nat → Nat} {n : Nat} (hp : HP h b c l C L th n) (k : KN h b C L th n) (hj : j < cJ C) : ldI h (b + 49) 20 (nI j) = some (nI (kn C L th n j)) := by
  have h6 := hb_6 hp.1
  rw [ldI_n (fx_k49 hp.1.1) (by omega) (by omega), k j hj]
/-! RULES -/
def rK (R : CR) (k w : Nat) : Int32 := R (1 + 3 * k + w)
theorem rule_c {R : CR} (hR : WL 2 R) {k : Nat} (hk : k < llen R) : (rK R k 0 = 0 ∨ rK R k 0 = 1) ∧ (rK R k 1 = -1 ∨ ∃ w, w < 10 ∧ rK R k 1 = nI w) ∧ (rK R k 2 = -1 ∨ ∃ w, w < 10 ∧ rK R k 2 = nI w) := by
  have h := hR.2.2 k hk
  unfold WLr at h
  rw [if_neg (by decide), if_pos rfl] at h
  unfold rK
  rw [show 1 + 3 * k + 0 = 1 + 3 * k by omega, show 1 + 3 * k + 1 = 2 + 3 * k by omega, show 1 + 3 * k + 2 = 3 + 3 * k by omega]
  exact h
def fit (R : CR) (w k : Nat) : Bool := (decide (rK R k 1 = -1) || w.testBit (tn (rK R k 1))) && (decide (rK R k 2 = -1) || !w.testBit (tn (rK R k 2)))
def rby (R : CR) (w : Nat) : Nat := fst1 (fit R w) (llen R) 0
theorem rby_c (R : CR) (w : Nat) : (rby R w < llen R) ∨ rby R w = 1000 := by
  unfold rby
  rcases fst1_spec (fit R w) (llen R) 0 with ⟨i, h1, h2, _, _, h5⟩ | ⟨_, h2⟩
  · left; omega
  · right; exact h2
def vby (R : CR) (w : Nat) : Int32 := if rby R w = 1000 then -1 else rK R (rby R w) 0
theorem llen_8 {R : CR} (hR : WL 2 R) : llen R ≤ 8 := hR.1
theorem ll_len {h : HA} {l s : Nat} {R : CR} (hl : LL h l s R) (hR : WL s R) : gI h l 3 2 = some (nI (llen R)) := by rw [gI_n hl.1.1, hl.2.1, hR.2.1]
theorem ruleFor_c {h : HA} {l w : Nat} {R : CR} (hl : LL h l 2 R) (hR : WL 2 R) (hw : w < 1024) : X7_ruleFor h l (nI w) = some (onk (rby R w)) := by
  have h8 := llen_8 hR
  have core : ∀ k fu, k < llen R → X7_ruleFor_L2 h l (nI w) (fu + 1) (nI k) = if fit R w k = true then some (nI k) else X7_ruleFor_L2 h l (nI w) fu (nI (k + 1)) := by
    intro k fu hk
    obtain ⟨r0, r1, r2⟩ := rule_c hR hk
    rw [X7_ruleFor_L2, ll_len hl hR, Option.bind_some, if_pos (lt_lit hk (by omega)), show X2_at h l (nI k) 1 = some (rK R k 1) from at_c (w := 1) hl hR hk (by decide), Option.bind_some, show X2_at h l (nI k) 2 = some (rK R k 2) from at_c (w := 2) hl hR hk (by decide), Option.bind_some, nI_p1]
    unfold fit
    rcases r1 with e1 | ⟨u, hu, e1⟩
    · rw [e1]
      rcases r2 with e2 | ⟨v, hv, e2⟩
      · rw [e2]; rfl
      · rw [e2, if_pos rfl, if_neg (nI_nm1 (by omega)), has_w (by omega) (by omega), Option.bind_some, tn_nI (show v < 2 ^ 31 by omega)]
        have : ¬ nI v = -1 := nI_nm1 (by omega)
        simp only [this, decide_false, Bool.false_or, decide_true, Bool.true_or, Bool.true_and]
        cases w.testBit v <;> rfl
    · have n1 : ¬ nI u = -1 := nI_nm1 (by omega)
      rw [e1, if_neg n1, has_w (by omega) (by omega), Option.bind_some, tn_nI (show u < 2 ^ 31 by omega)]
      simp only [n1, decide_false, Bool.false_or]
      cases w.testBit u with
      | false => rfl
      | true =>
        rw [if_neg (by decide)]
        rcases r2 with e2 | ⟨v, hv, e2⟩
        · rw [e2]; rfl
        · have n2 : ¬ nI v = -1 := nI_nm1 (by omega)
          rw [e2, if_neg n2, has_w (by omega) (by omega), Option.bind_some, tn_nI (show v < 2 ^ 31 by omega)]
          simp only [n2, decide_false, Bool.false_or, Bool.true_and]
          cases w.testBit v <;> rfl
  unfold X7_ruleFor
  exact loop_fst (fun fu k => X7_ruleFor_L2 h l (nI w) fu (nI k)) (fit R w) (fun k => some (onk k)) (llen R)
    (fun k fu hk hp => by (try simp only []); rw [core k fu hk, if_pos hp]; unfold onk; rw [if_neg (by omega)])
    (fun k fu hk hp => by (try simp only []); rw [core k fu hk, if_neg (by rw [hp]; simp)])
    (fun fu => by (try simp only []); rw [X7_ruleFor_L2, ll_len hl hR, Option.bind_some, if_neg (nlt_lit (Nat.le_refl _) (by omega))]; rfl) FU (FU_gt (by omega))
theorem onk_m1 {n : Nat} (h : n < 1000 ∨ n = 1000) : onk n = -1 ↔ n = 1000 := by
  unfold onk
  rcases h with h | h
  · rw [if_neg (by omega)]
    exact ⟨fun e => absurd e (nI_nm1 (by omega)), fun e => by omega⟩
  · rw [if_pos h]; exact ⟨fun _ => h, fun _ => rfl⟩
theorem voteBy_c {h : HA} {l w : Nat} {R : CR} (hl : LL h l 2 R) (hR : WL 2 R) (hw : w < 1024) : X7_voteBy h l (nI w) = some (vby R w) := by
  have h8 := llen_8 hR
  have hr := rby_c R w
  unfold X7_voteBy vby
  rw [ruleFor_c hl hR hw, Option.bind_some]
  by_cases e : rby R w = 1000
  · rw [if_pos ((onk_m1 (by omega)).mpr e), if_pos e]
  · rw [if_neg (fun z => e ((onk_m1 (by omega)).mp z)), if_neg e]
    unfold onk
    rw [if_neg e, show X2_at h l (nI (rby R w)) 0 = some (rK R (rby R w) 0) from at_c (w := 0) hl hR (by omega) (by decide)]; rfl
/-- the model's law in hand -/
theorem ruleBy_n {h : HA} {b : Nat} {D : DT} {α : Nat → Nat} {lm : Nat → Nat → Nat} {im : Nat → Option (Nat × DT)} (hi : IV h b D α lm im) {r w : Nat} (hr : r < dN D 2) (hg : gi h (b + 55) 47 = nI r) (hw : w < 1024) : X8_ruleBy h (b + 55) (nI w) = some (onk (rby (dR D 2 r) w)) := by
  have hR := iv_wl hi (s := 2) (by omega) (by omega) hr
  have h8 := llen_8 hR
  have core : ∀ k fu, k < llen (dR D 2 r) → X8_ruleBy_L2 h (b + 55) (nI w) (fu + 1) (nI k) = if fit (dR D 2 r) w k = true then some (nI k) else X8_ruleBy_L2 h (b + 55) (nI w) fu (nI (k + 1)) := by
    intro k fu hk
    obtain ⟨r0, r1, r2⟩ := rule_c hR hk
    rw [X8_ruleBy_L2, rules_n hi hr hg, Option.bind_some, if_pos (lt_lit hk (by omega)), show X8_ruleOf h (b + 55) (nI k) 1 = some (rK (dR D 2 r) k 1) from ruleOf_n (w := 1) hi hr hg (by omega) (by omega), Option.bind_some, show X8_ruleOf h (b + 55) (nI k) 2 = some (rK (dR D 2 r) k 2) from ruleOf_n (w := 2) hi hr hg (by omega) (by omega), nI_p1]
    unfold fit
    rcases r1 with e1 | ⟨u, hu, e1⟩
    · rw [e1, if_pos rfl, Option.bind_some, if_neg (by decide), Option.bind_some]
      rcases r2 with e2 | ⟨v, hv, e2⟩
      · rw [e2]; rfl
      · rw [e2, if_neg (nI_nm1 (by omega)), Option.bind_some, hasM (by omega) (by omega), Option.bind_some, tn_nI (show v < 2 ^ 31 by omega)]
        have : ¬ nI v = -1 := nI_nm1 (by omega)
        simp only [this, decide_false, Bool.false_or, decide_true, Bool.true_or, Bool.true_and]
        cases w.testBit v <;> rfl
    · have n1 : ¬ nI u = -1 := nI_nm1 (by omega)
      rw [e1, if_neg n1, Option.bind_some, hasM (by omega) (by omega), Option.bind_some, tn_nI (show u < 2 ^ 31 by omega)]
      simp only [n1, decide_false, Bool.false_or]
      cases w.testBit u with
      | false => rfl
      | true =>
        rw [if_neg (by decide), Option.bind_some, if_neg (by decide), Option.bind_some]
        rcases r2 with e2 | ⟨v, hv, e2⟩
        · rw [e2]; rfl
        · have n2 : ¬ nI v = -1 := nI_nm1 (by omega)
          rw [e2, if_neg n2, Option.bind_some, hasM (by omega) (by omega), Option.bind_some, tn_nI (show v < 2 ^ 31 by omega)]
          simp only [n2, decide_false, Bool.false_or, Bool.true_and]
          cases w.testBit v <;> rfl
  unfold X8_ruleBy
  rw [if_pos (ms_c (iv_ms hi))]
  exact loop_fst (fun fu k => X8_ruleBy_L2 h (b + 55) (nI w) fu (nI k)) (fit (dR D 2 r) w) (fun k => some (onk k)) (llen (dR D 2 r))
    (fun k fu hk hp => by (try simp only []); rw [core k fu hk, if_pos hp]; unfold onk; rw [if_neg (by omega)])
    (fun k fu hk hp => by (try simp only []); rw [core k fu hk, if_neg (by rw [hp]; simp)])
    (fun fu => by (try simp only []); rw [X8_ruleBy_L2, rules_n hi hr hg, Option.bind_some, if_neg (nlt_lit (Nat.le_refl _) (by omega))]; rfl) FU (FU_gt (by omega))
theorem voteBy_n {h : HA} {b : Nat} {D : DT} {α : Nat → Nat} {lm : Nat → Nat → Nat} {im : Nat → Option (Nat × DT)} (hi : IV h b D α lm im) {r w : Nat} (hr : r < dN D 2) (hg : gi h (b + 55) 47 = nI r) (hw : w < 1024) : X8_voteBy h (b + 55) (nI w) = some (vby (dR D 2 r) w) := by
  have hR := iv_wl hi (s := 2) (by omega) (by omega) hr
  have h8 := llen_8 hR
  have hq := rby_c (dR D 2 r) w
  unfold X8_voteBy vby
  rw [if_pos (ms_c (iv_ms hi)), ruleBy_n hi hr hg hw, Option.bind_some]
  by_cases e : rby (dR D 2 r) w = 1000
  · rw [if_pos ((onk_m1 (by omega)).mpr e), if_pos e]
  · rw [if_neg (fun z => e ((onk_m1 (by omega)).mp z)), if_neg e]
    unfold onk
    rw [if_neg e, show X8_ruleOf h (b + 55) (nI (rby (dR D 2 r) w)) 0 = some (rK (dR D 2 r) (rby (dR D 2 r) w) 0) from ruleOf_n (w := 0) hi hr hg (by omega) (by omega)]; rfl
/-! VERDICTS -/
def iI (i : Int) : Int32 := Int32.ofInt i
theorem iI_add (a b : Int) : iI a + iI b = iI (a + b) := (Int32.ofInt_add a b).symm
theorem iI_sub (a b : Int) : iI a - iI b = iI (a - b) := (Int32.ofInt_sub a b).symm
theorem iI_neg (a : Int) : - iI a = iI (-a) := (Int32.ofInt_neg a).symm
theorem iI_toInt {a : Int} (h1 : -1000 ≤ a) (h2 : a ≤ 1000) : (iI a).toInt = a := Int32.toInt_ofInt_of_le (by omega) (by omega)
def wgt (v : Int32) : Int := if v = -1 then 0 else if v = 1 then 1 else -1
theorem wgt_b (v : Int32) : -1 ≤ wgt v ∧ wgt v ≤ 1 := by
  unfold wgt
  split
  · omega
  · split <;> omega
def vsum (f : Nat → Int32) : Nat → Int
  | 0 => 0
  | n + 1 => vsum f n + wgt (f n)
theorem vsum_b (f : Nat → Int32) (n : Nat) : -(n : Int) ≤ vsum f n ∧ vsum f n ≤ n := by
  induction n with
  | zero => exact ⟨Int.le_refl _, Int.le_refl _⟩
  | succ n ih => have := wgt_b (f n); show -((n + 1 : Nat) : Int) ≤ vsum f n + wgt (f n) ∧ vsum f n + wgt (f n) ≤ ((n + 1 : Nat) : Int); omega
theorem vsum_cong {f g : Nat → Int32} {n : Nat} (h : ∀ i, i < n → f i = g i) : vsum f n = vsum g n := by
  induction n with
  | zero => rfl
  | succ n ih => show vsum f n + wgt (f n) = vsum g n + wgt (g n); rw [ih (fun i hi => h i (by omega)), h n (by omega)]
theorem vsum_upd {f : Nat → Int32} {n j : Nat} (hj : j < n) (v : Int32) : vsum (fun i => if i = j then v else f i) n = vsum f n - wgt (f j) + wgt v := by
  induction n with
  | zero => omega
  | succ n ih =>
    show vsum (fun i => if i = j then v else f i) n + wgt (if n = j then v else f n) = vsum f n + wgt (f n) - wgt (f j) + wgt v
    by_cases e : n = j
    · subst e
      rw [if_pos rfl, vsum_cong (g := f) (fun i hi => by rw [if_neg (by omega)])]; omega
    · rw [if_neg e, ih (by omega)]; omega
def vdI (s : Int) : Int32 := if s = 0 then -1 else if 0 < s then 1 else 0
theorem iI_z {s : Int} (h1 : -1000 ≤ s) (h2 : s ≤ 1000) : iI s = 0 ↔ s = 0 := by
  constructor
  · intro h
    have := iI_toInt h1 h2
    rw [h] at this
    have e0 : (0 : Int32).toInt = 0 := by decide
    omega
  · intro h; rw [h]; rfl
theorem iI_p {s : Int} (h1 : -1000 ≤ s) (h2 : s ≤ 1000) : 0 < iI s ↔ 0 < s := by
  have e0 : (0 : Int32).toInt = 0 := by decide
  rw [Int32.lt_iff_toInt_lt, iI_toInt h1 h2, e0]
theorem iI_n {s : Int} (h1 : -1000 ≤ s) (h2 : s ≤ 1000) : iI s < 0 ↔ s < 0 := by
  have e0 : (0 : Int32).toInt = 0 := by decide
  rw [Int32.lt_iff_toInt_lt, iI_toInt h1 h2, e0]
theorem verdictOf_c {s : Int} (h1 : -1000 ≤ s) (h2 : s ≤ 1000) : X7_verdictOf (iI s) = some (vdI s) := by
  unfold X7_verdictOf vdI
  by_cases e : s = 0
  · rw [if_pos ((iI_z h1 h2).mpr e), if_pos e]
  · rw [if_neg (fun z => e ((iI_z h1 h2).mp z)), if_neg e]
    by_cases e2 : 0 < s
    · rw [if_pos ((iI_p h1 h2).mpr e2), if_pos e2]
    · rw [if_neg (fun z => e2 ((iI_p h1 h2).mp z)), if_neg e2]
theorem weight_c (v : Int32) : X7_weight v = some (iI (wgt v)) := by
  unfold X7_weight wgt
  by_cases e : v = -1
  · rw [if_pos e, if_pos e]; rfl
  · rw [if_neg e, if_neg e]
    by_cases e2 : v = 1
    · rw [if_pos e2, if_pos e2]; rfl
    · rw [if_neg e2, if_neg e2]; rfl
theorem or_1024 {a c : Nat} (ha : a < 1024) (hc : c < 1024) : a ||| c < 1024 := Nat.or_lt_two_pow (n := 10) ha hc
theorem tally_c {h : HA} {b c l r f : Nat} {C L R : CR} {th : Nat → Nat} {n : Nat} (hp : HP h b c l C L th n) (k : KN h b C L th n) (hl : LL h r 2 R) (hR : WL 2 R) (hf : f < 1024) :
    X7_tally h (b + 46) r (nI f) = some (iI (vsum (fun j => vby R (kn C L th n j ||| f)) (cJ C))) := by
  have h6 := hb_6 hp.1
  unfold X7_tally
  have hl2 := loop_st (fun fu j (a : Int32) => X7_tally_L5 h (b + 46) r (nI f) fu a (nI j)) (fun j => iI (vsum (fun j => vby R (kn C L th n j ||| f)) j)) (some (iI (vsum (fun j => vby R (kn C L th n j ||| f)) (cJ C)))) (cJ C) (fun j fu hj => by
    try simp only []
    rw [X7_tally_L5, hb_c hp.1, Option.bind_some, hb_nj hp.1, Option.bind_some, if_pos (lt_lit hj (by omega)), fx_r5 hp.1.1, Option.bind_some, kn_ld hp k hj, Option.bind_some, nI_or, voteBy_c hl hR (or_1024 (kn_lt (hp_L hp) hp.2.2.1) hf), Option.bind_some, weight_c, Option.bind_some, iI_add, nI_p1]; rfl)
    (fun fu => by (try simp only []); rw [X7_tally_L5, hb_c hp.1, Option.bind_some, hb_nj hp.1, Option.bind_some, if_neg (nlt_lit (Nat.le_refl _) (by omega))]) FU (FU_gt (by omega))
  rw [show X7_tally_L5 h (b + 46) r (nI f) FU 0 0 = _ from hl2]; rfl
theorem verdict_n {h : HA} {m c : Nat} {C : CR} (hs : HS h m c C) : X8_verdict h m = some (vdI (vsum (fun j => gi h (m + 26) j) (cJ C))) := by
  have h6 := hs.2.1.2.2.1.1
  unfold X8_verdict
  have hl2 := loop_st (fun fu j (a : Int32) => X8_verdict_L4 h m fu a (nI j)) (fun j => iI (vsum (fun j => gi h (m + 26) j) j)) (some (iI (vsum (fun j => gi h (m + 26) j) (cJ C)))) (cJ C) (fun j fu hj => by
    try simp only []
    have hld : ldI h (m + 26) 20 (nI j) = some (gi h (m + 26) j) := ldI_n (ms_k48 hs.1) (by omega) (by omega)
    have e2 : vsum (fun j => gi h (m + 26) j) (j + 1) = vsum (fun j => gi h (m + 26) j) j + wgt (gi h (m + 26) j) := rfl
    rw [X8_verdict_L4, ms_I hs.1, hs.2.2.2.2.2.2.2.1, Option.bind_some, if_pos (lt_lit hj (by omega)), ms_r48 hs.1, Option.bind_some, hld, Option.bind_some, Option.bind_some, hld, Option.bind_some, nI_p1, e2, ← iI_add]
    unfold wgt
    by_cases e : gi h (m + 26) j = -1
    · rw [if_pos e, if_pos e]; rfl
    · rw [if_neg e, if_neg e]
      by_cases e2 : gi h (m + 26) j = 1
      · rw [if_pos e2, if_pos e2]; rfl
      · rw [if_neg e2, if_neg e2]; rfl)
    (fun fu => by (try simp only []); rw [X8_verdict_L4, ms_I hs.1, hs.2.2.2.2.2.2.2.1, Option.bind_some, if_neg (nlt_lit (Nat.le_refl _) (by omega))]) FU (FU_gt (by omega))
  rw [if_pos (ms_c hs.1), show X8_verdict_L4 h m FU 0 0 = _ from hl2, Option.bind_some]
  have hb := vsum_b (fun j => gi h (m + 26) j) (cJ C)
  generalize vsum (fun j => gi h (m + 26) j) (cJ C) = s at *
  unfold vdI
  by_cases e : s = 0
  · subst e; rfl
  · rw [if_neg e]
    by_cases e2 : 0 < s
    · rw [if_pos ((iI_p (by omega) (by omega)).mpr e2), if_pos e2]
    · rw [if_neg (fun z => e2 ((iI_p (by omega) (by omega)).mp z)), if_neg e2, if_pos ((iI_n (by omega) (by omega)).mpr (by omega))]
