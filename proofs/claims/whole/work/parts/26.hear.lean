/-! HEARING -/
/-- bits turned right, left, of four -/
def trn (s f : Nat) : Nat := s / 2 ^ f + s % 2 ^ f * 2 ^ (4 - f)
def trl (s f : Nat) : Nat := s * 2 ^ f % 16 + s / 2 ^ (4 - f)
theorem turned_m : ∀ s, s < 16 → ∀ f, f < 4 → X8_turned (nI s) (nI f) = some (nI (trn s f)) := by decide +kernel
theorem trn_and : ∀ s, s < 16 → ∀ f, f < 4 → ∀ e, e < 16 → (trn s f &&& e = 0 ↔ trl e f &&& s = 0) := by decide +kernel
theorem trn_lt : ∀ s, s < 16 → ∀ f, f < 4 → trn s f < 16 := by decide +kernel
theorem trl_lt : ∀ s, s < 16 → ∀ f, f < 4 → trl s f < 16 := by decide +kernel
theorem and_not : ∀ a, a < 16 → ∀ b, b < 16 → nI a &&& (nI b ^^^ (-1)) = nI (a &&& (15 ^^^ b)) := by decide +kernel
/-- the sides from which a word said on src comes to the seat -/
def cmb (C : CR) (seat src s : Nat) : Bool := match stp C seat s with
  | some g => decide (ds C g src + 1 = ds C seat src)
  | none => false
def cm (C : CR) (seat src : Nat) : Nat := msk (cmb C seat src) 4
theorem cm_lt (C : CR) (seat src : Nat) : cm C seat src < 16 := msk_lt _ 4
/-- heard from src on the seat, from these sides as the COURT lies -/
def hr (C : CR) (seat ew rng src : Nat) : Bool := op C src && (decide (ds C seat src ≤ rng) && (decide (seat = src) || !decide (ew &&& cm C seat src = 0)))
theorem lt4 {k : Nat} (hk : k < 4) : nI k < 4 := (lt_n (b := 4) (by omega) (by omega)).mpr hk
theorem farOf_n {h : HA} {m c a f : Nat} {C : CR} (ht : HT h m c C) (ha : a < cF C) (hf : f < cF C) : X8_farOf h m (nI a) (nI f) = some (nI (md C a f)) := by
  have hF := cF_le ht.1.2.1
  unfold X8_farOf
  rw [if_pos (ms_c ht.1.1), ms_r30 ht.1.1, Option.bind_some, show (64 : Int32) * nI a = nI (64 * a) from nI_mul 64 a, nI_add, ldI_n (ms_k30 ht.1.1) (by omega) (by omega), ht.2 a f ha hf]
  rfl
theorem md_sym {C : CR} (hw : WFs C) {a f : Nat} (ha : op C a = true) (hf : op C f = true) : md C f a = ds C a f := by
  unfold md
  rw [if_pos hf, ds_sym hw hf ha]
theorem cameFrom_n {h : HA} {m c seat src : Nat} {C : CR} (ht : HT h m c C) (hs : op C seat = true) (hf : op C src = true) :
    X8_cameFrom h m (nI seat) (nI src) = some (nI (if seat = src then 15 else cm C seat src)) := by
  have hw := ht.1.2.1
  have hF := cF_le hw
  have hsF := op_lt hs
  have hfF := op_lt hf
  unfold X8_cameFrom
  rw [if_pos (ms_c ht.1.1)]
  by_cases e : seat = src
  · rw [if_pos (by rw [e]), if_pos e]; rfl
  · rw [if_neg (fun z => e (nI_inj (by omega) (by omega) z)), if_neg e]
    have hl := loop_st (fun fu k a => X8_cameFrom_L13 h m (nI seat) (nI src) fu a (nI k)) (fun k => nI (msk (cmb C seat src) k)) (some (nI (cm C seat src))) 4 (fun k fu hk => by
      try simp only []
      rw [X8_cameFrom_L13, if_pos (lt4 hk), stepTo_n ht.1 hsF hk, Option.bind_some, ← msk_step (by omega), nI_p1]
      cases hg : stp C seat k with
      | none =>
        rw [on_n, if_pos rfl, or_0, if_neg]
        unfold cmb; rw [hg]; simp
      | some g =>
        have hgo := stp_op hg
        have hgF := op_lt hgo
        have m1 := md_le C src g
        have m2 := md_le C src seat
        have hc : cmb C seat src k = decide (md C src g + 1 = md C src seat) := by
          unfold cmb; rw [hg, md_sym hw hgo hf, md_sym hw hs hf]
        rw [on_s, if_neg (nI_nm1 (by omega)), farOf_n ht hfF hgF, Option.bind_some, farOf_n ht hfF hsF, Option.bind_some, hc, nI_p1]
        by_cases e2 : md C src g + 1 = md C src seat
        · rw [if_pos (by rw [e2]), if_pos (by simp [e2])]
        · rw [if_neg (fun z => e2 (nI_inj (by omega) (by omega) z)), if_neg (by simp [e2]), or_0])
      (fun fu => by (try simp only []); rw [X8_cameFrom_L13, if_neg (by decide)]; rfl) FU (FU_gt (by omega))
    have h0 : nI (msk (cmb C seat src) 0) = 0 := rfl
    rw [show X8_cameFrom_L13 h m (nI seat) (nI src) FU 0 0 = _ from hl]
    rfl
theorem hearsAt_n {h : HA} {m c seat face ears reach src loud th : Nat} {C : CR} (ht : HT h m c C) (hs : op C seat = true) (hf : src < cF C) (h4 : face < 4) (he : ears < 16) (hr1 : reach < 50) (hl : loud < 50) (hth : th < 16) :
    X8_hearsAt h m (nI seat) (nI face) (nI ears) (nI reach) (nI src) (nI loud) (nI th) = some (bI (hr C seat (trl ears face &&& (15 ^^^ th)) (reach + loud) src)) := by
  have hw := ht.1.2.1
  have hF := cF_le hw
  have hsF := op_lt hs
  have hml := md_le C src seat
  unfold X8_hearsAt hr
  rw [if_pos (ms_c ht.1.1), farOf_n ht hf hsF, Option.bind_some]
  by_cases ho : op C src = true
  · have hd : md C src seat = ds C seat src := md_sym hw hs ho
    rw [hd] at hml ⊢
    by_cases h1 : ds C seat src = 1000
    · rw [if_pos (by rw [h1]; rfl), ho, h1, show decide (1000 ≤ reach + loud) = false by simp; omega]; rfl
    · rw [if_neg (show ¬ nI (ds C seat src) = 1000 from fun z => h1 (nI_inj (b := 1000) (by omega) (by omega) z)), nI_add]
      by_cases h2 : ds C seat src ≤ reach + loud
      · rw [if_neg (by rw [lt_n (by omega) (by omega)]; omega)]
        by_cases h3 : seat = src
        · rw [if_pos (by rw [h3]), ho]; simp [h2, h3 ▸ h2, h3, bI]
        · rw [if_neg (fun z => h3 (nI_inj (by omega) (by omega) z)), cameFrom_n ht hs ho, Option.bind_some, if_neg h3]
          have hc := cm_lt C seat src
          have hc2 : cm C seat src &&& (15 ^^^ th) < 16 := Nat.lt_of_le_of_lt Nat.and_le_left hc
          rw [and_not _ hc _ hth, turned_m _ hc2 _ h4, Option.bind_some, nI_and]
          have e1 := trn_and _ hc2 _ h4 _ he
          have e2 : trl ears face &&& (cm C seat src &&& (15 ^^^ th)) = trl ears face &&& (15 ^^^ th) &&& cm C seat src := by
            rw [Nat.and_assoc, Nat.and_comm (cm C seat src)]
          rw [e2] at e1
          have h5 : trn (cm C seat src &&& (15 ^^^ th)) face &&& ears < 2 ^ 31 := by
            have := Nat.and_le_right (n := trn (cm C seat src &&& (15 ^^^ th)) face) (m := ears); omega
          by_cases h6 : trl ears face &&& (15 ^^^ th) &&& cm C seat src = 0
          · rw [if_pos (by rw [e1.mpr h6]; rfl), ho]; simp [h2, h3, h6, bI]
          · rw [if_neg (show ¬ nI _ = 0 from fun z => h6 (e1.mp (nI_inj (b := 0) h5 (by omega) z))), ho]; simp [h2, h3, h6, bI]
      · rw [if_pos ((lt_n (by omega) (by omega)).mpr (by omega)), ho]; simp [h2, bI]
  · have hd : md C src seat = 1000 := by unfold md; rw [if_neg ho]
    rw [hd, if_pos (show nI 1000 = 1000 from rfl), show op C src = false by simpa using ho]; rfl
/-! JUDGES -/
def fc (C : CR) (j hour : Nat) : Nat := (jg C j 1 + hour * jg C j 4) % 4
def eW (C : CR) (j : Nat) : Nat := if jg C j 2 = 0 then 9 else 3
def hj (C : CR) (j hour loud f : Nat) : Bool := hr C (jg C j 0) (trl (eW C j) (fc C j hour)) (jg C j 3 + loud) f
def ea (C : CR) (f hour loud : Nat) : Nat := msk (fun j => hj C j hour loud f) (cJ C)
def bd (C : CR) (hour loud : Nat) : Nat := cnt (fun f => op C f && decide (ea C f hour loud = 0)) (cF C)
def pc (a : Nat) : Nat := cnt (fun i => a.testBit i) 16
theorem eW_lt (C : CR) (j : Nat) : eW C j < 16 := by unfold eW; split <;> omega
theorem fc_lt (C : CR) (j hour : Nat) : fc C j hour < 4 := Nat.mod_lt _ (by omega)
theorem and15 : ∀ x, x < 16 → x &&& (15 ^^^ 0) = x := by decide +kernel
theorem judgeOf_n {h : HA} {m c j w : Nat} {C : CR} (hs : HS h m c C) (hj : WFj C) (h1 : j < cJ C) (hw : w < 5) : X8_judgeOf h m (nI j) (nI w) = some (nI (jg C j w)) := by
  have h6 := hs.2.1.2.2.1.1
  unfold X8_judgeOf
  rw [if_pos (ms_c hs.1), show (5 : Int32) * nI j = nI (5 * j) from nI_mul 5 j, show (4 : Int32) + nI (5 * j) = nI (4 + 5 * j) from nI_add 4 _, nI_add, of_n hs (by omega), (hj j h1).1 w hw]
  rfl
theorem jo0 {h : HA} {m c j : Nat} {C : CR} (hs : HS h m c C) (hj : WFj C) (h1 : j < cJ C) : X8_judgeOf h m (nI j) 0 = some (nI (jg C j 0)) := judgeOf_n (w := 0) hs hj h1 (by omega)
theorem jo1 {h : HA} {m c j : Nat} {C : CR} (hs : HS h m c C) (hj : WFj C) (h1 : j < cJ C) : X8_judgeOf h m (nI j) 1 = some (nI (jg C j 1)) := judgeOf_n (w := 1) hs hj h1 (by omega)
theorem jo2 {h : HA} {m c j : Nat} {C : CR} (hs : HS h m c C) (hj : WFj C) (h1 : j < cJ C) : X8_judgeOf h m (nI j) 2 = some (nI (jg C j 2)) := judgeOf_n (w := 2) hs hj h1 (by omega)
theorem jo3 {h : HA} {m c j : Nat} {C : CR} (hs : HS h m c C) (hj : WFj C) (h1 : j < cJ C) : X8_judgeOf h m (nI j) 3 = some (nI (jg C j 3)) := judgeOf_n (w := 3) hs hj h1 (by omega)
theorem jo4 {h : HA} {m c j : Nat} {C : CR} (hs : HS h m c C) (hj : WFj C) (h1 : j < cJ C) : X8_judgeOf h m (nI j) 4 = some (nI (jg C j 4)) := judgeOf_n (w := 4) hs hj h1 (by omega)
theorem faces_n {h : HA} {m c s t r : Nat} {C : CR} (hs : HS h m c C) (h1 : s < 1000) (h2 : t < 10) (h3 : r < 1000) : X8_faces h m (nI s) (nI t) (nI r) = some (nI ((s + r * t) % 4)) := by
  have : r * t ≤ 1000 * 10 := Nat.mul_le_mul (by omega) (by omega)
  unfold X8_faces
  rw [if_pos (ms_c hs.1), nI_mul, nI_add, show (4 : Int32) = nI 4 from rfl, rm_n (by omega) (by omega) (by omega)]
  rfl
theorem earsOf_n {h : HA} {m c j : Nat} {C : CR} (hs : HS h m c C) (hj : WFj C) (h1 : j < cJ C) : X8_earsOf h m (nI j) = some (nI (eW C j)) := by
  have h2 := (hj j h1).2.2.2.1
  unfold X8_earsOf eW
  rw [if_pos (ms_c hs.1), show (2 : Int32) = nI 2 from rfl, judgeOf_n hs hj h1 (by omega), Option.bind_some]
  by_cases e : jg C j 2 = 0
  · rw [if_pos (by rw [e]; rfl), if_pos e]; rfl
  · rw [if_neg (show ¬ nI _ = 0 from fun z => e (nI_inj (b := 0) (by omega) (by omega) z)), if_neg e]; rfl
theorem hears_n {h : HA} {m c j f hour loud : Nat} {C : CR} (ht : HT h m c C) (hj1 : WFj C) (h1 : j < cJ C) (hf : f < cF C) (hh : hour < 1000) (hl : loud < 40) : X8_hears h m (nI j) (nI f) (nI hour) (nI loud) = some (bI (hj C j hour loud f)) := by
  obtain ⟨_, w1, w2, w3, w4, w5⟩ := hj1 j h1
  unfold X8_hears hj
  rw [if_pos (ms_c ht.1.1), jo0 ht.1 hj1 h1, Option.bind_some, jo1 ht.1 hj1 h1, Option.bind_some,
    jo4 ht.1 hj1 h1, Option.bind_some, faces_n ht.1 (by omega) (by omega) hh, Option.bind_some, earsOf_n ht.1 hj1 h1, Option.bind_some,
    jo3 ht.1 hj1 h1, Option.bind_some, show (0 : Int32) = nI 0 from rfl, show (jg C j 1 + hour * jg C j 4) % 4 = fc C j hour from rfl, hearsAt_n ht w1 hf (fc_lt C j hour) (eW_lt C j) (by omega) (by omega) (by omega), Option.bind_some, bz_b, Option.bind_some]
  rw [and15 _ (trl_lt _ (eW_lt C j) _ (fc_lt C j hour))]
theorem earsAt_n {h : HA} {m c f hour loud : Nat} {C : CR} (ht : HT h m c C) (hj1 : WFj C) (hf : f < cF C) (hh : hour < 1000) (hl : loud < 40) : X8_earsAt h m (nI f) (nI hour) (nI loud) = some (nI (ea C f hour loud)) := by
  have hJ := ht.1.2.1.2.2.1.1
  unfold X8_earsAt
  rw [if_pos (ms_c ht.1.1)]
  have hl2 := loop_st (fun fu k a => X8_earsAt_L6 h m (nI f) (nI hour) (nI loud) fu a (nI k)) (fun k => nI (msk (fun j => hj C j hour loud f) k)) (some (nI (ea C f hour loud))) (cJ C) (fun k fu hk => by
      try simp only []
      rw [X8_earsAt_L6, ms_I ht.1.1, ht.1.2.2.2.2.2.2.2.1, Option.bind_some, if_pos ((lt_n (by omega) (by omega)).mpr hk), hears_n ht hj1 hk hf hh hl, Option.bind_some, ← msk_step (by omega), nI_p1]
      cases hj C k hour loud f
      · rw [if_pos (by decide), or_0, if_neg (by decide)]
      · rw [if_neg (by decide), if_pos rfl])
      (fun fu => by (try simp only []); rw [X8_earsAt_L6, ms_I ht.1.1, ht.1.2.2.2.2.2.2.2.1, Option.bind_some, if_neg (by rw [lt_n (by omega) (by omega)]; omega)]; rfl) FU (FU_gt (by omega))
  rw [show X8_earsAt_L6 h m (nI f) (nI hour) (nI loud) FU 0 0 = _ from hl2]
  rfl
theorem ea_lt (C : CR) (f hour loud : Nat) : ea C f hour loud < 2 ^ cJ C := msk_lt _ _
theorem ea_64 {C : CR} (hw : WFs C) (f hour loud : Nat) : ea C f hour loud < 64 :=
  Nat.lt_of_lt_of_le (ea_lt C f hour loud) (Nat.pow_le_pow_right (by omega) (show cJ C ≤ 6 from hw.2.2.1.1))
theorem blind_n {h : HA} {m c hour loud : Nat} {C : CR} (ht : HT h m c C) (hj1 : WFj C) (hh : hour < 1000) (hl : loud < 40) : X8_blind h m (nI hour) (nI loud) = some (nI (bd C hour loud)) := by
  have hF := cF_le ht.1.2.1
  unfold X8_blind
  rw [if_pos (ms_c ht.1.1)]
  have hl2 := loop_st (fun fu k a => X8_blind_L5 h m (nI hour) (nI loud) fu a (nI k)) (fun k => nI (cnt (fun f => op C f && decide (ea C f hour loud = 0)) k)) (some (nI (bd C hour loud))) (cF C) (fun k fu hk => by
      try simp only []
      have h64 := ea_64 ht.1.2.1 k hour loud
      rw [X8_blind_L5, ms_I ht.1.1, ht.1.2.2.2.2.2.2.1, Option.bind_some, if_pos ((lt_n (by omega) (by omega)).mpr hk), isWall_n ht.1 (by omega), Option.bind_some, earsAt_n ht hj1 hk hh hl, Option.bind_some, nI_p1, nI_p1, Int32.add_zero]
      have ho : op C k = !wl C k := by unfold op; simp [hk]
      rw [show cnt (fun f => op C f && decide (ea C f hour loud = 0)) (k + 1) = cnt (fun f => op C f && decide (ea C f hour loud = 0)) k + (if (op C k && decide (ea C k hour loud = 0)) = true then 1 else 0) from rfl, ho]
      cases wl C k
      · rw [if_pos (by decide)]
        by_cases e : ea C k hour loud = 0
        · rw [if_pos (by rw [e]; rfl), if_pos (by simp [e])]
        · rw [if_neg (show ¬ nI _ = 0 from fun z => e (nI_inj (b := 0) (by omega) (by omega) z)), if_neg (by simp [e])]; rfl
      · rw [if_neg (by decide)]; rfl)
      (fun fu => by (try simp only []); rw [X8_blind_L5, ms_I ht.1.1, ht.1.2.2.2.2.2.2.1, Option.bind_some, if_neg (by rw [lt_n (by omega) (by omega)]; omega)]; rfl) FU (FU_gt (by omega))
  rw [show X8_blind_L5 h m (nI hour) (nI loud) FU 0 0 = _ from hl2]
  rfl
def qs (C : CR) (n best : Nat) : Nat := if bd C n 0 < bd C best 0 then n else best
def qt (C : CR) : Nat := qs C 3 (qs C 2 (qs C 1 0))
theorem bd_le {C : CR} (hw : WFs C) (hour loud : Nat) : bd C hour loud ≤ 64 := Nat.le_trans (cnt_le _ _) (cF_le hw)
theorem quarter_n {h : HA} {m c : Nat} {C : CR} (ht : HT h m c C) (hj1 : WFj C) : X8_quarter h m = some (nI (qt C)) := by
  have hw := ht.1.2.1
  have hb := bd_le hw
  have st : ∀ fu k b, k < 4 → b < 4 → X8_quarter_L11 h m (fu + 1) (nI b) (nI (bd C b 0)) (nI k) = X8_quarter_L11 h m fu (nI (qs C k b)) (nI (bd C (qs C k b) 0)) (nI (k + 1)) := by
    intro fu k b hk hbb
    have b1 := hb k 0
    have b2 := hb b 0
    rw [X8_quarter_L11, if_pos (lt4 hk), show X8_blind h m (nI k) 0 = _ from blind_n (loud := 0) ht hj1 (by omega) (by omega), Option.bind_some, nI_p1]
    unfold lett qs
    by_cases e : bd C k 0 < bd C b 0
    · have e2 : nI (bd C k 0) < nI (bd C b 0) := (lt_n (by omega) (by omega)).mpr e
      simp only [e2, e, if_true]
    · have e2 : ¬ nI (bd C k 0) < nI (bd C b 0) := fun z => e ((lt_n (by omega) (by omega)).mp z)
      simp only [e2, e, if_false]
  have q1 : ∀ k b, k < 4 → b < 4 → qs C k b < 4 := by intro k b h1 h2; unfold qs; split <;> omega
  unfold X8_quarter
  rw [if_pos (ms_c ht.1.1), show X8_blind h m 0 0 = _ from blind_n (hour := 0) (loud := 0) ht hj1 (by omega) (by omega), Option.bind_some]
  have e1 : X8_quarter_L11 h m FU 0 (nI (bd C 0 0)) 1 = some (nI (qt C)) := by
    show X8_quarter_L11 h m (19996 + 1 + 1 + 1 + 1) (nI 0) (nI (bd C 0 0)) (nI 1) = _
    rw [st _ 1 0 (by omega) (by omega), st _ 2 _ (by omega) (q1 _ _ (by omega) (by omega)), st _ 3 _ (by omega) (q1 _ _ (by omega) (q1 _ _ (by omega) (by omega))), X8_quarter_L11, if_neg (by decide)]
    rfl
  rw [e1]
  rfl
theorem ones_n : ∀ a, a < 1024 → X8_ones (nI a) = some (nI (pc a)) := by decide +kernel
theorem bitc_n : ∀ a, a < 1024 → J6_bitCount_0f7a4 (nI a) = some (nI (pc a)) := by decide +kernel
