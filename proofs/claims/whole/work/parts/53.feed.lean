/-! what is told is told anew -/
theorem ldI_0 {h : HA} {a n : Nat} {v : Int32} (hk : kd h a = (20, n)) (hn : 0 < n) (hv : gi h a 0 = v) : ldI h a 20 0 = some v := by
  show ldI h a 20 (nI 0) = _
  rw [ldI_n hk hn (by omega), hv]
def mwd (i : Nat) : Nat := if i = 1 then 600 else if i = 5 then 4 else if i = 6 then 212 else if i = 7 then 242 else if i = 8 then 50 else if i = 9 then 50 else 1
theorem MD_keep {h h1 : HA} {m i : Nat} {D : DT} (hm : MD h m (i + 1) D) (hd : WD D) (hr : ∀ a j, 1 ≤ a → a ≤ 9 → mwd a ≤ j → gi h1 (m + a) j = gi h (m + a) j) : MD h1 m (i + 1) D := by
  obtain ⟨a1, a2, a3, a4, a5, a6, a7⟩ := hm
  refine ⟨?_, ?_, ?_, fun f hf => ?_, fun s hs => ?_, fun j k h1 h2 => ?_, fun s j k h1 h2 h3 h4 => ?_⟩
  · rw [hr 2 _ (by omega) (by omega) (by show 1 ≤ _; omega)]; exact a1
  · rw [hr 3 _ (by omega) (by omega) (by show 1 ≤ _; omega)]; exact a2
  · rw [hr 4 _ (by omega) (by omega) (by show 1 ≤ _; omega)]; exact a3
  · rw [hr 1 _ (by omega) (by omega) (by show 600 ≤ _; omega)]; exact a4 f hf
  · rw [hr 5 _ (by omega) (by omega) (by show 4 ≤ _; omega)]; exact a5 s hs
  · rw [hr 6 _ (by omega) (by omega) (by show 212 ≤ _; omega)]; exact a6 j k h1 h2
  · rw [hr (6 + s) _ (by omega) (by omega) ?_]
    · exact a7 s j k h1 h2 h3 h4
    · have : s = 1 ∨ s = 2 ∨ s = 3 := by omega
      rcases this with rfl | rfl | rfl
      · show 242 ≤ 2 * 121 * (i + 1) + _; omega
      · show 50 ≤ 2 * 25 * (i + 1) + _; omega
      · show 50 ≤ 2 * 25 * (i + 1) + _; omega
theorem IMk_keep {h h1 : HA} {b k : Nat} {o : Option (Nat × DT)} (hk : IMk h b k o) (hz1 : hz h ≤ hz h1) (far : ∀ a, b + 86 ≤ a → a < hz h → sm h h1 a) (s30 : ga h1 (b + 30) k = ga h (b + 30) k) (s85 : gi h1 (b + 85) k = gi h (b + 85) k)
    (hr : ∀ a j, 1 ≤ a → a ≤ 9 → mwd a ≤ j → gi h1 (b + 55 + a) j = gi h (b + 55 + a) j) : IMk h1 b k o := by
  unfold IMk at hk ⊢
  cases o with
  | none => simp only at hk ⊢; rw [s30, s85]; exact hk
  | some q =>
    obtain ⟨t, Dk⟩ := q
    simp only at hk ⊢
    obtain ⟨k1, k2, k3, k4, k5, k6, k7, k8, k9, k10⟩ := hk
    have smt : ∀ a, t ≤ a → a < t + 29 → sm h h1 a := fun a h2 h3 => far a (by omega) (by omega)
    have eα : ∀ j, iα t j = t + 5 + 12 * j := fun _ => rfl
    have el : ∀ s j, il t s j = t + 9 + 2 * s + 12 * j := fun _ _ => rfl
    have qC : ∀ j, j < 2 → ∀ a, iα t j ≤ a → a ≤ iα t j + 5 → sm h h1 a := fun j hj a h2 h3 => by
      have := eα j
      exact smt a (by omega) (by omega)
    have qL : ∀ s j, 1 ≤ s → s < 4 → j < 2 → sm h h1 (il t s j) ∧ sm h h1 (il t s j + 1) := fun s j h2 h3 h4 => by
      have := el s j
      exact ⟨smt _ (by omega) (by omega), smt _ (by omega) (by omega)⟩
    have qT : ∀ a, t ≤ a → a ≤ t + 4 → sm h h1 a := fun a h2 h3 => smt a h2 (by omega)
    exact ⟨by rw [s30]; exact k1, by rw [s85]; exact k2, k3, by omega, ToS_sm k5 qT, fun j hj => CS_sm (k6 j hj) (qC j hj), fun s j h2 h3 h4 => LiS_sm (k7 s j h2 h3 h4) (qL s j h2 h3 h4).1 (qL s j h2 h3 h4).2,
      TD_sm k8 k10 qT (fun j hj => CQ_sm (k8.2.2.2.2.2.2.2.1 j hj) (qC j (by have := k10.2.1 0 (by omega); omega))) qL, MD_keep k9 k10 hr, k10⟩
/-- where the tape and what goes with it changes -/
def Wt (b : Nat) : Nat → Nat → Prop := fun a k => (a = b + 1 ∧ 1 ≤ k ∧ k ≤ 3) ∨ a = b + 2 ∨ (a = b + 56 ∧ k < 600) ∨ ((a = b + 57 ∨ a = b + 58 ∨ a = b + 59) ∧ k = 0) ∨ a = b + 55
def dset (D : DT) (L : Nat) (F P : Int32) (T : Nat → Int32) : DT := ((L, F, P), T, D.2.2)
theorem IV_told {h h1 : HA} {b : Nat} {D : DT} {α : Nat → Nat} {lm : Nat → Nat → Nat} {im : Nat → Option (Nat × DT)} (hi : IV h b D α lm im) (p : ch (Wt b) h h1) {L : Nat} {F P : Int32} {T : Nat → Int32} (hL : L ≤ 600) (hT : ∀ f, f < L → (T f).toInt8.toInt32 = T f)
    (c1 : gi h1 (b + 1) 1 = nI L) (c2 : gi h1 (b + 1) 2 = F) (c3 : gi h1 (b + 1) 3 = P) (c4 : ∀ f, f < L → gi h1 (b + 2) f = T f) (m1 : gi h1 (b + 57) 0 = nI L) (m2 : gi h1 (b + 58) 0 = F) (m3 : gi h1 (b + 59) 0 = P) (m4 : ∀ f, f < L → gi h1 (b + 56) f = T f) :
    IV h1 b (dset D L F P T) α lm im := by
  obtain ⟨a1, a2, a3, a4, a5, a6, a7, a8, a9, a10, a11, a12, a13⟩ := hi
  have nw : ∀ a k, ¬ (a = b + 1) → ¬ (a = b + 2) → (a < b + 55 ∨ b + 59 < a) → ¬ Wt b a k := fun a k h2 h3 h4 w => by unfold Wt at w; omega
  have smc : ∀ a, a ≠ b + 1 → a ≠ b + 2 → (a < b + 55 ∨ b + 59 < a) → sm h h1 a := fun a h2 h3 h4 => p.sm (fun k => nw a k h2 h3 h4)
  have k1 : kd h (b + 1) = (6, 0) := a1.2.2.1.1
  have k2 : kd h (b + 2) = (22, 600) := a1.2.2.1.2.1.2
  have qC : ∀ j, j < 3 → ∀ a, α j ≤ a → a ≤ α j + 5 → sm h h1 a := by
    intro j hj a h2 h3
    have hr := (a2 j hj).2
    refine smc a (fun e => ?_) (fun e => ?_) (by omega)
    · rcases cs_kk (a2 j hj).1 h2 h3 with ⟨_, z⟩ | ⟨_, z | z | z | z⟩ <;> rw [e, k1] at z <;> exact absurd z (by decide)
    · rcases cs_kk (a2 j hj).1 h2 h3 with ⟨_, z⟩ | ⟨_, z | z | z | z⟩ <;> rw [e, k2] at z <;> exact absurd z (by decide)
  have qL : ∀ s j, 1 ≤ s → s < 4 → j < 3 → sm h h1 (lm s j) ∧ sm h h1 (lm s j + 1) := by
    intro s j h2 h3 h4
    obtain ⟨l1, l2, l3⟩ := a4 s j h2 h3 h4
    have z1 := l1.1
    have z2 := l1.2.2.2
    refine ⟨smc _ (fun e => ?_) (fun e => ?_) (by omega), smc _ (fun e => ?_) (fun e => ?_) (by omega)⟩
    · rw [e, k1] at z1; exact absurd z1 (by decide)
    · rw [e, k2] at z1; exact absurd z1 (by decide)
    · rw [e, k1] at z2; exact absurd (congrArg Prod.fst z2) (fun z => by simp at z)
    · rw [e, k2] at z2; exact absurd (congrArg Prod.fst z2) (fun z => by simp at z)
  obtain ⟨t1, t2, t3, t4, t5, t6, t7, t8, t9⟩ := a6
  obtain ⟨d1', d2', d3', d4', d5', d6', d7'⟩ := a9
  have n2 := a10.2.1
  refine ⟨FX_ch a1 p, fun j hj => ⟨CS_sm (a2 j hj).1 (qC j hj), (a2 j hj).2⟩, a3, fun s j h2 h3 h4 => ⟨LiS_sm (a4 s j h2 h3 h4).1 (qL s j h2 h3 h4).1 (qL s j h2 h3 h4).2, (a4 s j h2 h3 h4).2⟩, a5, ?_, by rw [p.2.2.1]; exact a7, fun s h2 h3 => by rw [p.2.2.1]; exact a8 s h2 h3, ?_, ?_, fun k hk => ?_, a12, ?_⟩
  · refine ⟨c1, c2, c3, c4, fun s hs => ?_, fun j hj => ?_, fun s j h2 h3 h4 => ?_, fun j hj => ?_, fun s j h2 h3 h4 => ?_⟩
    · rw [(smc (b + 1 + 2) (by omega) (by omega) (by omega)).2.1]; exact t5 s hs
    · rw [p.2.2.1]; exact t6 j hj
    · rw [p.2.2.1]; exact t7 s j h2 h3 h4
    · exact CQ_sm (t8 j hj) (qC j (by have := n2 0 (by omega); have : j < dN D 0 := hj; omega))
    · have hj : j < dN D s := h4
      have hq := qL s j h2 h3 (by have := n2 s h3; omega)
      exact LL_sm (t9 s j h2 h3 h4) hq.1 hq.2
  · refine ⟨m1, m2, m3, fun f hf => ?_, fun s hs => ?_, fun j k h2 h3 => ?_, fun s j k h2 h3 h4 h5 => ?_⟩
    · rw [show 600 * 0 + f = f by omega]; exact m4 f hf
    · rw [(smc (b + 55 + 5) (by omega) (by omega) (by omega)).2.1]; exact d5' s hs
    · rw [(smc (b + 55 + 6) (by omega) (by omega) (by omega)).2.1]; exact d6' j k h2 h3
    · rw [(smc (b + 55 + (6 + s)) (by omega) (by omega) (by omega)).2.1]; exact d7' s j k h2 h3 h4 h5
  · exact ⟨hL, a10.2.1, a10.2.2.1, a10.2.2.2.1, hT⟩
  · refine IMk_keep (a11 k hk) (Nat.le_of_eq p.1.symm) (fun a h2 _ => smc a (by omega) (by omega) (by omega)) (by rw [p.2.2.1]) (by rw [(smc (b + 85) (by omega) (by omega) (by omega)).2.1]) (fun a j h2 h3 h4 => ?_)
    refine p.gi (fun w => ?_)
    unfold Wt at w
    unfold mwd at h4
    rcases w with w | w | w | w | w
    · omega
    · omega
    · rw [if_pos (by omega)] at h4; omega
    · rw [if_neg (by omega), if_neg (by omega), if_neg (by omega), if_neg (by omega), if_neg (by omega), if_neg (by omega)] at h4; omega
    · omega
  · rw [p.2.2.1]
    rcases a13 with w | ⟨w, w1, w2, w3, w4⟩
    · exact Or.inl w
    · exact Or.inr ⟨w, w1, w2, by rw [p.1]; exact w3, WS_ch w4 p⟩
/-- a call, both sides -/
def STP (b : Nat) (h : HA) (F G : HA → Option (Int32 × HA)) : Prop := ∃ r h1 h2 D α lm im, F h = some (r, h1) ∧ G h1 = some (r, h2) ∧ IV h2 b D α lm im
theorem stp_ac {b : Nat} {D : DT} {α : Nat → Nat} {lm : Nat → Nat → Nat} {im : Nat → Option (Nat × DT)} {h : HA} {F G : HA → Option (Int32 × HA)} (r : Int32) (h1 : AC b D α lm im (F h) r) (h2 : ∀ h1, IV h1 b D α lm im → AC b D α lm im (G h1) r) : STP b h F G := by
  obtain ⟨g, e1, i1⟩ := h1
  obtain ⟨g2, e2, i2⟩ := h2 g i1
  exact ⟨r, g, g2, D, α, lm, im, e1, e2, i2⟩
theorem iv_tk {h : HA} {b : Nat} {D : DT} {α : Nat → Nat} {lm : Nat → Nat → Nat} {im : Nat → Option (Nat × DT)} (hi : IV h b D α lm im) : gi h (b + 1) 1 = nI (dL D) ∧ gi h (b + 1) 2 = dF D ∧ gi h (b + 1) 3 = dP D ∧ (∀ f, f < dL D → gi h (b + 2) f = dT D f) ∧ gi h (b + 57) 0 = nI (dL D) ∧ gi h (b + 58) 0 = dF D ∧ gi h (b + 59) 0 = dP D ∧ ∀ f, f < dL D → gi h (b + 56) f = dT D f := by
  obtain ⟨t1, t2, t3, t4, _⟩ := hi.2.2.2.2.2.1
  obtain ⟨m1, m2, m3, m4, _⟩ := iv_m hi
  exact ⟨t1, t2, t3, t4, m1, m2, m3, fun f hf => by have := m4 f hf; rw [show 600 * 0 + f = f by omega] at this; exact this⟩
theorem s_end {h : HA} {b : Nat} {D : DT} {α : Nat → Nat} {lm : Nat → Nat → Nat} {im : Nat → Option (Nat × DT)} (hi : IV h b D α lm im) (x : Int32) : STP b h (fun h => X7_end h b x) (fun h => X8_end h (b + 55) x) := by
  obtain ⟨t1, t2, t3, t4, m1, m2, m3, m4⟩ := iv_tk hi
  have hL := (iv_w hi).1
  have e8 : ∀ h1, IV h1 b D α lm im → X8_end h1 (b + 55) x = if rg x (dL D + 1) = true then some (x, si (si h1 (b + 55) 0 0) (b + 57) 0 x) else some (-1, si h1 (b + 55) 0 0) := by
    intro h1 i1
    have i2 := IV_m0 i1 0 0
    have g := (iv_m i2).1
    unfold X8_end
    rw [if_pos (ms_c (iv_ms i1)), ms_p (iv_ms i1), Option.bind_some, ms_r2 (iv_ms i2), Option.bind_some, show ldI (si h1 (b + 55) 0 0) (b + 55 + 2) 20 0 = _ from ldI_n (i := 0) (ms_k2 (iv_ms i2)) (by omega) (by omega), g, Option.bind_some, in_rn x (by omega), Option.bind_some, Option.bind_some, show asI (si h1 (b + 55) 0 0) (b + 55 + 2) 20 0 x = some (si (si h1 (b + 55) 0 0) (b + 57) 0 x) from asI_n (i := 0) (ms_k2 (iv_ms i2)) (by omega) (by omega), Option.bind_some]
    cases rg x (dL D + 1) <;> rfl
  have e7 : X7_end h b x = if rg x (dL D + 1) = true then some (x, si h (b + 1) 1 x) else some (-1, h) := by
    unfold X7_end
    rw [if_pos (fx_c hi.1)]
    rcases i_nat x with hx | ⟨n, hn, rfl⟩
    · rw [if_pos hx, neg_rg hx]; rfl
    · rw [if_neg (nI_lt0 hn), fx_told hi.1, Option.bind_some, gI_n (fx_kt hi.1), t1, Option.bind_some, rg_n hn, Option.bind_some, pI_n (fx_kt hi.1), Option.bind_some]
      by_cases h1 : n ≤ dL D
      · rw [if_neg (nlt_lit h1 (by omega)), if_pos (by simp; omega)]
      · rw [if_pos (lt_lit (by omega) hn), if_neg (by simp; omega)]
  unfold STP
  simp only [e7]
  cases hr : rg x (dL D + 1) with
  | false =>
    refine ⟨-1, h, si h (b + 55) 0 0, D, α, lm, im, rfl, ?_, IV_m0 hi 0 0⟩
    rw [e8 h hi, hr]; rfl
  | true =>
    obtain ⟨n, hn, rfl⟩ := (rg_iff (by omega)).mp hr
    have hm1 : MS (si h (b + 1) 1 (nI n)) (b + 55) := (ch_si (W := fun _ _ => True) trivial).ms (iv_ms hi)
    have hm2 : MS (si (si h (b + 1) 1 (nI n)) (b + 55) 0 0) (b + 55) := (ch_si (W := fun _ _ => True) trivial).ms hm1
    refine ⟨nI n, si h (b + 1) 1 (nI n), si (si (si h (b + 1) 1 (nI n)) (b + 55) 0 0) (b + 57) 0 (nI n), dset D n (dF D) (dP D) (dT D), α, lm, im, rfl, ?_, ?_⟩
    · unfold X8_end
      rw [if_pos (ms_c hm1), ms_p hm1, Option.bind_some, ms_r2 hm2, Option.bind_some, ldI_0 (ms_k2 hm2) (by omega) (show gi (si (si h (b + 1) 1 (nI n)) (b + 55) 0 0) (b + 55 + 2) 0 = nI (dL D) by rw [gi_si, if_neg (by omega), gi_si, if_neg (by omega)]; exact m1), Option.bind_some, in_rn (nI n) (by omega), hr, Option.bind_some, if_neg (by decide), Option.bind_some, show asI (si (si h (b + 1) 1 (nI n)) (b + 55) 0 0) (b + 55 + 2) 20 0 (nI n) = some (si (si (si h (b + 1) 1 (nI n)) (b + 55) 0 0) (b + 57) 0 (nI n)) from asI_n (i := 0) (ms_k2 hm2) (by omega) (by omega), Option.bind_some]
    · have c : ch (Wt b) h (si (si (si h (b + 1) 1 (nI n)) (b + 55) 0 0) (b + 57) 0 (nI n)) := ((ch_si (Or.inl ⟨rfl, by omega, by omega⟩)).tr (ch_si (Or.inr (Or.inr (Or.inr (Or.inr rfl)))))).tr (ch_si (Or.inr (Or.inr (Or.inr (Or.inl ⟨Or.inl rfl, rfl⟩)))))
      refine IV_told hi c (by omega) (fun f hf => (iv_w hi).2.2.2.2 f (by omega)) ?_ ?_ ?_ (fun f hf => ?_) ?_ ?_ ?_ (fun f hf => ?_)
      · rw [gi_si, if_neg (by omega), gi_si, if_neg (by omega), gi_si, if_pos ⟨rfl, rfl⟩]
      · rw [gi_si, if_neg (by omega), gi_si, if_neg (by omega), gi_si, if_neg (by omega)]; exact t2
      · rw [gi_si, if_neg (by omega), gi_si, if_neg (by omega), gi_si, if_neg (by omega)]; exact t3
      · rw [gi_si, if_neg (by omega), gi_si, if_neg (by omega), gi_si, if_neg (by omega)]; exact t4 f (by omega)
      · rw [gi_si, if_pos ⟨rfl, rfl⟩]
      · rw [gi_si, if_neg (by omega), gi_si, if_neg (by omega), gi_si, if_neg (by omega)]; exact m2
      · rw [gi_si, if_neg (by omega), gi_si, if_neg (by omega), gi_si, if_neg (by omega)]; exact m3
      · rw [gi_si, if_neg (by omega), gi_si, if_neg (by omega), gi_si, if_neg (by omega)]; exact m4 f (by omega)
/-! FEED -/
theorem toB_idem (x : Int32) : toB (toB x) = toB x := by
  unfold toB; simp
theorem sh_u32 : ∀ k, k < 31 → ((nI k).toUInt32 &&& Int32.toUInt32 31).toBitVec % 32 = BitVec.ofNat 32 k := by decide +kernel
theorem toB_sh (x : Int32) {k : Nat} (hk : k ≤ 24) : toB (shrI x (nI k)) = toB (ushI x (nI k)) := by
  unfold toB
  congr 1
  apply Int8.toBitVec_inj.mp
  rw [Int32.toBitVec_toInt8, Int32.toBitVec_toInt8]
  unfold shrI ushI
  rw [Int32.toBitVec_shiftRight, sh_k k (by omega)]
  have e : ((x.toUInt32 >>> ((nI k).toUInt32 &&& Int32.toUInt32 31)).toInt32).toBitVec = x.toBitVec >>> k := by
    show (x.toUInt32 >>> ((nI k).toUInt32 &&& Int32.toUInt32 31)).toBitVec = _
    rw [UInt32.toBitVec_shiftRight, sh_u32 k (by omega)]
    simp only [BitVec.ushiftRight_eq', BitVec.toNat_ofNat]
    rw [Nat.mod_eq_of_lt (by omega)]; rfl
  rw [e, BitVec.sshiftRight']
  apply BitVec.eq_of_getLsbD_eq
  intro i hi
  rw [BitVec.getLsbD_signExtend, BitVec.getLsbD_signExtend, BitVec.getLsbD_sshiftRight, BitVec.getLsbD_ushiftRight, BitVec.toNat_ofNat, Nat.mod_eq_of_lt (show k < 2 ^ 32 by omega)]
  have h1 : ¬ 32 ≤ i := by omega
  have h2 : k + i < 32 := by omega
  have h3 : i < 32 := by omega
  simp [h1, h2, h3, hi]
def bt (x : Int32) (k : Nat) : Int32 := toB (toB (ushI x (nI k)))
abbrev TPS : Type := Nat × (Nat → Int32)
def ap1 (s : TPS) (v : Int32) : TPS := (s.1 + 1, fun f => if f = s.1 then v else s.2 f)
def ap4 (s : TPS) (x : Int32) : TPS := ap1 (ap1 (ap1 (ap1 s (bt x 24)) (bt x 16)) (bt x 8)) (bt x 0)
def TA (h : HA) (b : Nat) (s : TPS) : Prop := gi h (b + 1) 1 = nI s.1 ∧ ∀ f, f < s.1 → gi h (b + 2) f = s.2 f
def TM (h : HA) (m : Nat) (s : TPS) : Prop := gi h (m + 2) 0 = nI s.1 ∧ ∀ f, f < s.1 → gi h (m + 1) f = s.2 f
def Wa (b : Nat) : Nat → Nat → Prop := fun a k => (a = b + 1 ∧ k = 1) ∨ a = b + 2
def Wf (b : Nat) : Nat → Nat → Prop := fun a k => (a = b + 57 ∧ k = 0) ∨ (a = b + 56 ∧ k < 600)
theorem fx_tape {h : HA} {b : Nat} (hf : FX h b) : gR h (b + 1) 6 0 = some (b + 2) := by rw [gR_n (fx_kt hf)]; exact hf.2.2.1.2.1.1
theorem fx_ktape {h : HA} {b : Nat} (hf : FX h b) : kd h (b + 2) = (22, 600) := hf.2.2.1.2.1.2
theorem app1 {h : HA} {b fu k : Nat} {x : Int32} {s : TPS} (hf : FX h b) (ta : TA h b s) (hs : s.1 < 600) (hk : k < 100) :
    ∃ h1, X5_append_L3 (b + 1) x (fu + 1) h (nI k) = X5_append_L3 (b + 1) x fu h1 (nI k + (-8)) ∧ ch (Wa b) h h1 ∧ TA h1 b (ap1 s (bt x k)) := by
  have c1 : ch (Wa b) h (si h (b + 2) s.1 (bt x k)) := ch_si (Or.inr rfl)
  have hf1 := FX_ch hf c1
  refine ⟨si (si h (b + 2) s.1 (bt x k)) (b + 1) 1 (nI (s.1 + 1)), ?_, c1.tr (ch_si (Or.inl ⟨rfl, rfl⟩)), ?_, fun f hf2 => ?_⟩
  · rw [X5_append_L3, if_neg (nI_lt0 (by omega)), gI_n (fx_kt hf), ta.1, Option.bind_some, if_pos (show nI s.1 < 600 from lt_lit (n := 600) hs (by omega)), fx_tape hf, Option.bind_some, Option.bind_some, asI_n (fx_ktape hf) hs (by omega), Option.bind_some]
    show ((gI (si h (b + 2) s.1 (bt x k)) (b + 1) 6 1).bind _) = _
    rw [gI_n (fx_kt hf1), gi_si, if_neg (by omega), ta.1, Option.bind_some, nI_p1]
    show ((pI (si h (b + 2) s.1 (bt x k)) (b + 1) 6 1 (nI (s.1 + 1))).bind _) = _
    rw [pI_n (fx_kt hf1), Option.bind_some]
  · rw [gi_si, if_pos ⟨rfl, rfl⟩]; rfl
  · rw [gi_si, if_neg (by omega), gi_si]
    unfold ap1 at hf2 ⊢
    simp only at hf2 ⊢
    by_cases e : f = s.1
    · rw [if_pos ⟨trivial, e⟩, if_pos e]
    · rw [if_neg (by omega), if_neg e]; exact ta.2 f (by omega)
theorem append_c {h : HA} {b : Nat} {x : Int32} {s : TPS} (hf : FX h b) (ta : TA h b s) (hs : s.1 + 4 ≤ 600) : ∃ h1, X5_append h (b + 1) x = some h1 ∧ ch (Wa b) h h1 ∧ TA h1 b (ap4 s x) := by
  obtain ⟨h1, e1, c1, t1⟩ := app1 (fu := 19999) (k := 24) (x := x) hf ta (by omega) (by omega)
  obtain ⟨h2, e2, c2, t2⟩ := app1 (fu := 19998) (k := 16) (x := x) (FX_ch hf c1) t1 (by show s.1 + 1 < 600; omega) (by omega)
  have c12 := c1.tr c2
  obtain ⟨h3, e3, c3, t3⟩ := app1 (fu := 19997) (k := 8) (x := x) (FX_ch hf c12) t2 (by show s.1 + 1 + 1 < 600; omega) (by omega)
  have c123 := c12.tr c3
  obtain ⟨h4, e4, c4, t4⟩ := app1 (fu := 19996) (k := 0) (x := x) (FX_ch hf c123) t3 (by show s.1 + 1 + 1 + 1 < 600; omega) (by omega)
  refine ⟨h4, ?_, c123.tr c4, t4⟩
  unfold X5_append
  rw [if_pos (by rw [fx_kt hf]), show X5_append_L3 (b + 1) x FU h 24 = _ from e1, show nI 24 + -8 = nI 16 by decide, e2, show nI 16 + -8 = nI 8 by decide, e3, show nI 8 + -8 = nI 0 by decide, e4, X5_append_L3, if_pos (by decide)]
  rfl
theorem four1 {h : HA} {b fu k : Nat} {x : Int32} {s : TPS} (hm : MS h (b + 55)) (ta : TM h (b + 55) s) (hs : s.1 < 600) (hk : k ≤ 24) :
    ∃ h1, X8_four_L3 (b + 55) x (fu + 1) h (nI k) = X8_four_L3 (b + 55) x fu h1 (nI k + (-8)) ∧ ch (Wf b) h h1 ∧ TM h1 (b + 55) (ap1 s (bt x k)) := by
  have c1 : ch (Wf b) h (si h (b + 55 + 1) s.1 (bt x k)) := ch_si (Or.inr ⟨rfl, hs⟩)
  have hm1 := c1.ms hm
  have g1 : ldI h (b + 55 + 2) 20 0 = some (nI s.1) := ldI_0 (ms_k2 hm) (by omega) ta.1
  have g2 : ldI (si h (b + 55 + 1) s.1 (bt x k)) (b + 55 + 2) 20 0 = some (nI s.1) := ldI_0 (ms_k2 hm1) (by omega) (by rw [gi_si, if_neg (by omega)]; exact ta.1)
  refine ⟨si (si h (b + 55 + 1) s.1 (bt x k)) (b + 55 + 2) 0 (nI (s.1 + 1)), ?_, c1.tr (ch_si (Or.inl ⟨rfl, rfl⟩)), ?_, fun f hf2 => ?_⟩
  · rw [X8_four_L3, if_neg (nI_lt0 (by omega)), ms_r1 hm, Option.bind_some, ms_r2 hm, Option.bind_some, g1, Option.bind_some, toB_sh x hk, asI_n (ms_k1 hm) (by omega) (by omega), Option.bind_some]
    show ((gR (si h (b + 55 + 1) s.1 (bt x k)) (b + 55) 9 2).bind _) = _
    rw [ms_r2 hm1, Option.bind_some]
    show ((ldI (si h (b + 55 + 1) s.1 (bt x k)) (b + 55 + 2) 20 0).bind _) = _
    rw [g2, Option.bind_some, nI_p1]
    show ((asI (si h (b + 55 + 1) s.1 (bt x k)) (b + 55 + 2) 20 (nI 0) (nI (s.1 + 1))).bind _) = _
    rw [asI_n (ms_k2 hm1) (by omega) (by omega), Option.bind_some]
  · rw [gi_si, if_pos ⟨rfl, rfl⟩]; rfl
  · rw [gi_si, if_neg (by omega), gi_si]
    unfold ap1 at hf2 ⊢
    simp only at hf2 ⊢
    by_cases e : f = s.1
    · rw [if_pos ⟨trivial, e⟩, if_pos e]
    · rw [if_neg (by omega), if_neg e]; exact ta.2 f (by omega)
theorem four_n {h : HA} {b : Nat} {x : Int32} {s : TPS} (hm : MS h (b + 55)) (ta : TM h (b + 55) s) (hs : s.1 + 4 ≤ 600) : ∃ h1, X8_four h (b + 55) x = some h1 ∧ ch (Wf b) h h1 ∧ TM h1 (b + 55) (ap4 s x) := by
  obtain ⟨h1, e1, c1, t1⟩ := four1 (fu := 19999) (k := 24) (x := x) hm ta (by omega) (by omega)
  obtain ⟨h2, e2, c2, t2⟩ := four1 (fu := 19998) (k := 16) (x := x) (c1.ms hm) t1 (by show s.1 + 1 < 600; omega) (by omega)
  have c12 := c1.tr c2
  obtain ⟨h3, e3, c3, t3⟩ := four1 (fu := 19997) (k := 8) (x := x) (c12.ms hm) t2 (by show s.1 + 1 + 1 < 600; omega) (by omega)
  have c123 := c12.tr c3
  obtain ⟨h4, e4, c4, t4⟩ := four1 (fu := 19996) (k := 0) (x := x) (c123.ms hm) t3 (by show s.1 + 1 + 1 + 1 < 600; omega) (by omega)
  refine ⟨h4, ?_, c123.tr c4, t4⟩
  unfold X8_four
  rw [if_pos (ms_c hm), show X8_four_L3 (b + 55) x FU h 24 = _ from e1, show nI 24 + -8 = nI 16 by decide, e2, show nI 16 + -8 = nI 8 by decide, e3, show nI 8 + -8 = nI 0 by decide, e4, X8_four_L3, if_pos (by decide)]
  rfl
def bok (s : TPS) : Prop := ∀ f, f < s.1 → toB (s.2 f) = s.2 f
theorem ap4_ok {s : TPS} {x : Int32} (h : bok s) : bok (ap4 s x) := by
  have a1 : ∀ (s : TPS) (k : Nat), bok s → bok (ap1 s (bt x k)) := by
    intro s k h f hf
    unfold ap1 at hf ⊢
    simp only at hf ⊢
    split
    · unfold bt; rw [toB_idem]
    · exact h f (by omega)
  exact a1 _ _ (a1 _ _ (a1 _ _ (a1 _ _ h)))
theorem s_feed {h : HA} {b : Nat} {D : DT} {α : Nat → Nat} {lm : Nat → Nat → Nat} {im : Nat → Option (Nat × DT)} (hi : IV h b D α lm im) (x1 x2 x3 x4 x5 : Int32) : STP b h (fun h => X7_feed h b x1 x2 x3 x4 x5) (fun h => X8_feed h (b + 55) x1 x2 x3 x4 x5) := by
  obtain ⟨t1, t2, t3, t4, m1, m2, m3, m4⟩ := iv_tk hi
  have hL := (iv_w hi).1
  have l20 : ∀ n, nI n + 20 = nI (n + 20) := fun n => nI_add n 20
  by_cases hbig : 600 < dL D + 20
  · refine ⟨-1, h, si h (b + 55) 0 0, D, α, lm, im, ?_, ?_, IV_m0 hi 0 0⟩
    · show X7_feed h b x1 x2 x3 x4 x5 = _
      unfold X7_feed
      rw [if_pos (fx_c hi.1), fx_told hi.1, Option.bind_some, gI_n (fx_kt hi.1), t1, Option.bind_some, l20, if_pos (show 600 < nI (dL D + 20) from (lt_n (a := 600) (by omega) (by omega)).mpr hbig)]
    · show X8_feed h (b + 55) x1 x2 x3 x4 x5 = _
      have i2 := IV_m0 hi 0 0
      unfold X8_feed
      rw [if_pos (ms_c (iv_ms hi)), ms_p (iv_ms hi), Option.bind_some, ms_r2 (iv_ms i2), Option.bind_some, ldI_0 (ms_k2 (iv_ms i2)) (by omega) (iv_m i2).1, Option.bind_some, l20, if_pos (show 600 < nI (dL D + 20) from (lt_n (a := 600) (by omega) (by omega)).mpr hbig)]
  · obtain ⟨h1, e1, c1, a1⟩ := append_c (x := x1) (s := (dL D, dT D)) hi.1 ⟨t1, t4⟩ (by show dL D + 4 ≤ 600; omega)
    obtain ⟨h2, e2, c2, a2⟩ := append_c (x := x2) (FX_ch hi.1 c1) a1 (by show dL D + 1 + 1 + 1 + 1 + 4 ≤ 600; omega)
    have c12 := c1.tr c2
    obtain ⟨h3, e3, c3, a3⟩ := append_c (x := x3) (FX_ch hi.1 c12) a2 (by show dL D + 1 + 1 + 1 + 1 + 1 + 1 + 1 + 1 + 4 ≤ 600; omega)
    have c123 := c12.tr c3
    obtain ⟨h4, e4, c4, a4⟩ := append_c (x := x4) (FX_ch hi.1 c123) a3 (by show dL D + 1 + 1 + 1 + 1 + 1 + 1 + 1 + 1 + 1 + 1 + 1 + 1 + 4 ≤ 600; omega)
    have c1234 := c123.tr c4
    obtain ⟨h5, e5, c5, a5⟩ := append_c (x := x5) (FX_ch hi.1 c1234) a4 (by show dL D + 1 + 1 + 1 + 1 + 1 + 1 + 1 + 1 + 1 + 1 + 1 + 1 + 1 + 1 + 1 + 1 + 4 ≤ 600; omega)
    have cA := c1234.tr c5
    have hf5 := FX_ch hi.1 cA
    have hbk : bok (ap4 (ap4 (ap4 (ap4 (ap4 (dL D, dT D) x1) x2) x3) x4) x5) := ap4_ok (ap4_ok (ap4_ok (ap4_ok (ap4_ok (fun f hf => (iv_w hi).2.2.2.2 f hf)))))
    have hS1 : (ap4 (ap4 (ap4 (ap4 (ap4 (dL D, dT D) x1) x2) x3) x4) x5).1 = dL D + 20 := rfl
    have hm5 := cA.ms (iv_ms hi)
    have cM0 : ch (fun a _ => a = b + 55) h5 (si h5 (b + 55) 0 0) := ch_si rfl
    have hm6 := cM0.ms hm5
    have ng : ∀ a k, a ≠ b + 1 → a ≠ b + 2 → gi h5 a k = gi h a k := fun a k h2 h3 => cA.gi (fun w => by unfold Wa at w; omega)
    have tm0 : TM (si h5 (b + 55) 0 0) (b + 55) (dL D, dT D) := by
      refine ⟨?_, fun f hf => ?_⟩
      · rw [gi_si, if_neg (by omega), ng _ _ (by omega) (by omega)]; exact m1
      · rw [gi_si, if_neg (by omega), ng _ _ (by omega) (by omega)]; exact m4 f hf
    obtain ⟨g1, f1, d1, b1⟩ := four_n (x := x1) hm6 tm0 (by show dL D + 4 ≤ 600; omega)
    obtain ⟨g2, f2, d2, b2⟩ := four_n (x := x2) (d1.ms hm6) b1 (by show dL D + 1 + 1 + 1 + 1 + 4 ≤ 600; omega)
    have d12 := d1.tr d2
    obtain ⟨g3, f3, d3, b3⟩ := four_n (x := x3) (d12.ms hm6) b2 (by show dL D + 1 + 1 + 1 + 1 + 1 + 1 + 1 + 1 + 4 ≤ 600; omega)
    have d123 := d12.tr d3
    obtain ⟨g4, f4, d4, b4⟩ := four_n (x := x4) (d123.ms hm6) b3 (by show dL D + 1 + 1 + 1 + 1 + 1 + 1 + 1 + 1 + 1 + 1 + 1 + 1 + 4 ≤ 600; omega)
    have d1234 := d123.tr d4
    obtain ⟨g5, f5, d5, b5⟩ := four_n (x := x5) (d1234.ms hm6) b4 (by show dL D + 1 + 1 + 1 + 1 + 1 + 1 + 1 + 1 + 1 + 1 + 1 + 1 + 1 + 1 + 1 + 1 + 4 ≤ 600; omega)
    have dA := d1234.tr d5
    have hmE := dA.ms hm6
    generalize ap4 (ap4 (ap4 (ap4 (ap4 (dL D, dT D) x1) x2) x3) x4) x5 = S at *
    obtain ⟨Sn, ST⟩ := S
    simp only at hS1
    subst hS1
    refine ⟨nI (dL D + 20), h5, g5, dset D (dL D + 20) (dF D) (dP D) ST, α, lm, im, ?_, ?_, ?_⟩
    · show X7_feed h b x1 x2 x3 x4 x5 = _
      unfold X7_feed
      rw [if_pos (fx_c hi.1), fx_told hi.1, Option.bind_some, gI_n (fx_kt hi.1), t1, Option.bind_some, l20, if_neg (show ¬ 600 < nI (dL D + 20) from fun z => hbig ((lt_n (a := 600) (by omega) (by omega)).mp z)), Option.bind_some, e1, Option.bind_some, fx_told (FX_ch hi.1 c1), Option.bind_some, e2, Option.bind_some, fx_told (FX_ch hi.1 c12), Option.bind_some, e3, Option.bind_some, fx_told (FX_ch hi.1 c123), Option.bind_some, e4, Option.bind_some, fx_told (FX_ch hi.1 c1234), Option.bind_some, e5, Option.bind_some, fx_told hf5, Option.bind_some, gI_n (fx_kt hf5), a5.1, Option.bind_some]
    · show X8_feed h5 (b + 55) x1 x2 x3 x4 x5 = _
      unfold X8_feed
      have gE : ldI g5 (b + 55 + 2) 20 0 = some (nI (dL D + 20)) := ldI_0 (ms_k2 hmE) (by omega) b5.1
      rw [if_pos (ms_c hm5), ms_p hm5, Option.bind_some, ms_r2 hm6, Option.bind_some, ldI_0 (ms_k2 hm6) (by omega) tm0.1, Option.bind_some, l20, if_neg (show ¬ 600 < nI (dL D + 20) from fun z => hbig ((lt_n (a := 600) (by omega) (by omega)).mp z)), f1, Option.bind_some, f2, Option.bind_some, f3, Option.bind_some, f4, Option.bind_some, f5, Option.bind_some, ms_r2 hmE, Option.bind_some, gE, Option.bind_some]
    · have cT : ch (Wt b) h g5 := ((cA.mo (fun a k w => by unfold Wa at w; unfold Wt; omega)).tr (cM0.mo (fun a k w => by unfold Wt; omega))).tr (dA.mo (fun a k w => by unfold Wf at w; unfold Wt; omega))
      have nM : ∀ a k, a < b + 55 → gi g5 a k = gi h5 a k := fun a k ha => by rw [dA.gi (fun w => by unfold Wf at w; omega), cM0.gi (by omega)]
      refine IV_told hi cT (by omega) (fun f hf => hbk f hf) ?_ ?_ ?_ (fun f hf => ?_) b5.1 ?_ ?_ (fun f hf => b5.2 f hf)
      · rw [nM _ _ (by omega)]; exact a5.1
      · rw [nM _ _ (by omega), cA.gi (fun w => by unfold Wa at w; omega)]; exact t2
      · rw [nM _ _ (by omega), cA.gi (fun w => by unfold Wa at w; omega)]; exact t3
      · rw [nM _ _ (by omega)]; exact a5.2 f hf
      · rw [dA.gi (fun w => by unfold Wf at w; omega), cM0.gi (by omega), ng _ _ (by omega) (by omega)]; exact m2
      · rw [dA.gi (fun w => by unfold Wf at w; omega), cM0.gi (by omega), ng _ _ (by omega) (by omega)]; exact m3
