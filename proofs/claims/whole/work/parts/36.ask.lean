/-! more questions to a COURT -/
theorem bi_f : (bI false = (0 : Int32)) = True := eq_true (by decide)
theorem bi_t : (bI true = (0 : Int32)) = False := eq_false (by decide)
def fo (C : CR) (x : Int32) : Bool := rg x 64 && op C (tn x)
theorem isOpen_f {h : HA} {c : Nat} {C : CR} (hs : CC h c C) (x : Int32) : X0_isOpen h c x = some (bI (fo C x)) := isOpen_c hs x
theorem fo_n {C : CR} (hw : WFs C) {f : Nat} (hf : f < 2 ^ 31) : fo C (nI f) = op C f := by
  have hF := cF_le hw
  unfold fo
  rw [rg_n hf, tn_nI hf]
  by_cases h : f < 64
  · simp [h]
  · rw [op_ge (C := C) (by omega)]; simp
theorem fo_iff {C : CR} (hw : WFs C) {x : Int32} : fo C x = true ↔ ∃ f, f < cF C ∧ op C f = true ∧ x = nI f := by
  have hF := cF_le hw
  constructor
  · intro h
    unfold fo at h
    rw [Bool.and_eq_true] at h
    obtain ⟨a, ha, rfl⟩ := (rg_iff (by omega)).mp h.1
    rw [tn_nI (by omega)] at h
    exact ⟨a, op_lt h.2, h.2, rfl⟩
  · rintro ⟨f, h1, h2, rfl⟩
    rw [fo_n hw (by omega)]; exact h2
theorem fo_no {C : CR} (hw : WFs C) {x : Int32} (h : rg x (cF C) = false) : fo C x = false := by
  cases h1 : fo C x
  · rfl
  · obtain ⟨f, h2, h3, rfl⟩ := (fo_iff hw).mp h1
    have hF := cF_le hw
    rw [rg_n (by omega)] at h
    simp at h; omega
theorem isHour_c (x : Int32) : X7_isHour x = some (bI (rg x 100)) := by
  unfold X7_isHour
  rcases i_nat x with h1 | ⟨a, ha, rfl⟩
  · rw [if_pos h1, neg_rg h1]; rfl
  · rw [if_neg (nI_lt0 ha), rg_n ha]
    by_cases h : a < 100
    · rw [if_neg (show ¬ 99 < nI a from fun z => by have := (lt_n (a := 99) (by omega) ha).mp z; omega)]; simp [h, bI]
    · rw [if_pos (show 99 < nI a from (lt_n (a := 99) (by omega) ha).mpr (by omega))]; simp [h, bI]
theorem isLoud_c (x : Int32) : X7_isLoud x = some (bI (rg x 10)) := by
  unfold X7_isLoud
  rcases i_nat x with h1 | ⟨a, ha, rfl⟩
  · rw [if_pos h1, neg_rg h1]; rfl
  · rw [if_neg (nI_lt0 ha), rg_n ha]
    by_cases h : a < 10
    · rw [if_neg (show ¬ 9 < nI a from fun z => by have := (lt_n (a := 9) (by omega) ha).mp z; omega)]; simp [h, bI]
    · rw [if_pos (show 9 < nI a from (lt_n (a := 9) (by omega) ha).mpr (by omega))]; simp [h, bI]
theorem in99 (x : Int32) : X8_in x 0 99 = some (bI (rg x 100)) := in_rn x (n := 99) (by omega)
theorem in9 (x : Int32) : X8_in x 0 9 = some (bI (rg x 10)) := in_rn x (n := 9) (by omega)
theorem isLoud_n (x y : Int32) : X8_isLoud x y = some (bI (rg x 100 && rg y 10)) := by
  unfold X8_isLoud
  rw [in99, Option.bind_some, in9, Option.bind_some]
  cases rg x 100 <;> cases rg y 10 <;> rfl
/-- from the model's start: a COURT in hand -/
theorem ds_nop {C : CR} {a b : Nat} (ha : op C a = true) (hb : op C b = false) : ds C a b = 1000 :=
  ds_none (fun d hd => by rw [bl_op ha hd] at hb; simp at hb)
theorem ds_le1000 (C : CR) (a b : Nat) : ds C a b ≤ 1000 := by
  rcases ds_cases C a b with h | h <;> omega
theorem stq_bit {C : CR} {a b : Nat} (hb : b < 64) : stq C a (tb (shlJ 1 (nI b))) = ds C a b := by
  unfold stq ds
  congr 1
  funext d
  rw [Bool.eq_iff_iff, stg_iff]
  constructor
  · rintro ⟨f, h1, h2, h3⟩
    rw [tb_bit hb] at h3
    have : f = b := by simpa using h3
    rw [← this]; exact h2
  · intro h
    exact ⟨b, hb, h, by rw [tb_bit hb]; simp⟩
theorem tnD {D : DT} (hd : WD D) {a : Nat} (ha : a < dN D 0) : tn (nI a) = a := tn_nI (by have := hd.2.1 0 (by omega); omega)
def qfar (D : DT) (x a b : Int32) : Int32 := if (rg x (dN D 0) && (fo (dC D (tn x)) a && fo (dC D (tn x)) b)) = true then onk (ds (dC D (tn x)) (tn a) (tn b)) else -1
theorem c_far {h : HA} {b : Nat} {D : DT} {α : Nat → Nat} {lm : Nat → Nat → Nat} {im : Nat → Option (Nat × DT)} (hi : IV h b D α lm im) (x y z : Int32) : AC b D α lm im (X7_far h b x y z) (qfar D x y z) := by
  unfold X7_far qfar
  rw [if_pos (fx_c hi.1)]
  rcases courtAt_ok hi x with ⟨h1, h2⟩ | ⟨a, h1, ha, rfl, hr, e1, i1, l1⟩
  · rw [h2, h1]; exact ⟨h, rfl, hi⟩
  · rw [e1, hr, tnD (iv_w hi) ha]
    have cc := l1.1
    have hw := cc.2.1.1
    have hF := cF_le hw
    refine ⟨h1, ?_, i1⟩
    simp only [Option.bind_some, Bool.true_and, isOpen_f cc]
    cases hy : fo (dC D a) y with
    | false => rfl
    | true =>
      cases hz : fo (dC D a) z with
      | false => rfl
      | true =>
        obtain ⟨f, f1, f2, rfl⟩ := (fo_iff hw).mp hy
        obtain ⟨g, g1, g2, rfl⟩ := (fo_iff hw).mp hz
        simp only [bi_t, if_false, Bool.and_self, if_true]
        rw [steps_c cc f2, Option.bind_some, stq_bit (by omega), tn_nI (by omega), tn_nI (by omega)]
theorem m_far {h : HA} {b : Nat} {D : DT} {α : Nat → Nat} {lm : Nat → Nat → Nat} {im : Nat → Option (Nat × DT)} (hi : IV h b D α lm im) (x y z : Int32) : AC b D α lm im (X8_far h (b + 55) x y z) (qfar D x y z) := by
  unfold X8_far qfar
  rw [if_pos (ms_c (iv_ms hi)), ms_p (iv_ms hi), Option.bind_some]
  have hi0 := IV_m0 hi 0 0
  rcases hand_ok hi0 x with ⟨h1, h2⟩ | ⟨a, h1, ha, rfl, hr, e1, i1, t1⟩
  · rw [h2, h1, Option.bind_some]
    exact ⟨_, by simp only [if_true]; rfl, hi0⟩
  · have hw := (iv_w hi).2.2.1 a ha
    have hF := cF_le hw.1
    rw [e1, hr, tnD (iv_w hi) ha, Option.bind_some]
    refine ⟨h1, ?_, i1⟩
    simp only [if_neg (show ¬ (1 : Int32) = 0 by decide), isField_n t1.1, Option.bind_some, Bool.true_and]
    cases hy : rg y (cF (dC D a)) with
    | false => rw [fo_no hw.1 hy]; rfl
    | true =>
      cases hz : rg z (cF (dC D a)) with
      | false => rw [fo_no hw.1 hz, Bool.and_false]; rfl
      | true =>
        obtain ⟨f, f1, rfl⟩ := (rg_iff (by omega)).mp hy
        obtain ⟨g, g1, rfl⟩ := (rg_iff (by omega)).mp hz
        simp only [bi_t, if_false]
        rw [farOf_n t1 f1 g1, Option.bind_some, fo_n hw.1 (by omega), fo_n hw.1 (by omega), tn_nI (by omega), tn_nI (by omega)]
        have hml := md_le (dC D a) f g
        by_cases h2 : md (dC D a) f g < 1000
        · rw [if_pos (show nI (md (dC D a) f g) < 1000 from lt_lit (n := 1000) h2 (by omega)), Option.bind_some]
          have ho : op (dC D a) f = true := by
            cases e : op (dC D a) f
            · unfold md at h2; rw [e] at h2; simp at h2
            · rfl
          have he : md (dC D a) f g = ds (dC D a) f g := by unfold md; rw [if_pos ho]
          have hg : op (dC D a) g = true := by
            cases e : op (dC D a) g
            · rw [he, ds_nop ho e] at h2; omega
            · rfl
          rw [ho, hg, he]
          unfold onk
          rw [if_neg (show ¬ ds (dC D a) f g = 1000 by omega)]; rfl
        · rw [if_neg (show ¬ nI (md (dC D a) f g) < 1000 from nlt_lit (n := 1000) (by omega) (by omega))]
          cases ho : op (dC D a) f with
          | false => rfl
          | true =>
            cases hg : op (dC D a) g with
            | false => rfl
            | true =>
              have he : md (dC D a) f g = ds (dC D a) f g := by unfold md; rw [if_pos ho]
              have : ds (dC D a) f g = 1000 := by omega
              rw [this]; rfl
theorem ds_some {C : CR} {a b : Nat} (h : ds C a b < 64) : bl C a (ds C a b) b = true := (ds_le h).mp (Nat.le_refl _)
theorem cm_0 {C : CR} (hw : WFs C) {a f : Nat} (ha : op C a = true) (hf : op C f = true) (hne : a ≠ f) : cm C a f = 0 ↔ ds C a f = 1000 := by
  unfold cm
  rw [msk_0]
  constructor
  · intro h
    rcases ds_cases C a f with ⟨h1, h2, h3⟩ | ⟨h1, _⟩
    · exfalso
      cases hd : ds C a f with
      | zero =>
        rw [hd] at h2
        simp [bl] at h2
        exact hne h2.symm
      | succ d =>
        have h4 : bl C f (d + 1) a = true := by rw [← hd]; exact bl_sym hw ha h2
        rcases bl_succ.mp h4 with h5 | ⟨_, s, c, hs, h6, h7⟩
        · have h8 := h3 d (by omega)
          rw [bl_syme hw ha hf, h5] at h8; simp at h8
        · have h9 := h s hs
          have hco := stp_op h6
          have : cmb C a f s = true := by
            rw [cmb_iff]
            refine ⟨c, h6, ?_⟩
            have h10 : ds C c f ≤ d := by rw [ds_le (by omega), bl_syme hw hco hf]; exact h7
            have h11 := ds_step hw (f := f) ha hs h6 (by omega)
            omega
          rw [h9] at this; simp at this
    · exact h1
  · intro h s hs
    cases h1 : cmb C a f s
    · rfl
    · obtain ⟨b, h2, h3⟩ := cmb_iff.mp h1
      have := ds_cases C b f
      omega
theorem turned_x : ∀ s, s < 16 → ∀ q, q < 4 → X0_turned (nI s) (4 - nI q) = some (nI (trn s q)) := by decide +kernel
theorem trn_15 : ∀ q, q < 4 → trn 15 q = 15 := by decide
def qcomes (D : DT) (x j f t : Int32) : Int32 := if (rg x (dN D 0) && (rg j (cJ (dC D (tn x))) && (fo (dC D (tn x)) f && rg t 100))) = true then
  (let C := dC D (tn x); let s := jg C (tn j) 0; if s = tn f then 15 else if cm C s (tn f) = 0 then -1 else nI (trn (cm C s (tn f)) (fc C (tn j) (tn t)))) else -1
theorem c_comes {h : HA} {b : Nat} {D : DT} {α : Nat → Nat} {lm : Nat → Nat → Nat} {im : Nat → Option (Nat × DT)} (hi : IV h b D α lm im) (x j f t : Int32) : AC b D α lm im (X7_comes h b x j f t) (qcomes D x j f t) := by
  unfold X7_comes qcomes
  rw [if_pos (fx_c hi.1)]
  rcases courtAt_ok hi x with ⟨h1, h2⟩ | ⟨a, h1, ha, rfl, hr, e1, i1, l1⟩
  · rw [h2, h1]; exact ⟨h, rfl, hi⟩
  · rw [e1, hr, tnD (iv_w hi) ha]
    have cc := l1.1
    have hw := cc.2.1.1
    have hF := cF_le hw
    have h6 := hw.2.2.1.1
    refine ⟨h1, ?_, i1⟩
    simp only [Option.bind_some, Bool.true_and, isOpen_f cc, hasJudge_c cc, isHour_c]
    cases hj : rg j (cJ (dC D a)) with
    | false => rfl
    | true =>
      cases hf : fo (dC D a) f with
      | false => rfl
      | true =>
        cases ht : rg t 100 with
        | false => rfl
        | true =>
          obtain ⟨q, hq, rfl⟩ := (rg_iff (by omega)).mp hj
          obtain ⟨g, g1, g2, rfl⟩ := (fo_iff hw).mp hf
          obtain ⟨r, hr2, rfl⟩ := (rg_iff (by omega)).mp ht
          have hse := jseat cc.2.1 hq
          have hsl := op_lt hse
          have hcl := cm_lt (dC D a) (jg (dC D a) q 0) g
          simp only [bi_t, if_false, Bool.and_self, if_true]
          rw [show X0_of h1 (α a) (nI q) 0 = _ from of_c (w := 0) cc hq (by omega), Option.bind_some, tn_nI (by omega), tn_nI (by omega), tn_nI (by omega)]
          by_cases e : jg (dC D a) q 0 = g
          · rw [if_pos (by rw [e]), if_pos e]
          · rw [if_neg (fun z => e (nI_inj (by omega) (by omega) z.symm)), if_neg e, sidesFrom_c l1 hq (by omega), Option.bind_some]
            by_cases e2 : cm (dC D a) (jg (dC D a) q 0) g = 0
            · rw [if_pos (by rw [e2]; rfl), if_pos e2]
            · rw [if_neg (show ¬ nI _ = 0 from fun z => e2 (nI_inj (b := 0) (by omega) (by omega) z)), if_neg e2, faces_c cc hq, Option.bind_some, turned_x _ hcl _ (fc_lt _ _ _), Option.bind_some]
theorem m_comes {h : HA} {b : Nat} {D : DT} {α : Nat → Nat} {lm : Nat → Nat → Nat} {im : Nat → Option (Nat × DT)} (hi : IV h b D α lm im) (x j f t : Int32) : AC b D α lm im (X8_comes h (b + 55) x j f t) (qcomes D x j f t) := by
  unfold X8_comes qcomes
  rw [if_pos (ms_c (iv_ms hi)), ms_p (iv_ms hi), Option.bind_some, in99, Option.bind_some]
  have hi0 := IV_m0 hi 0 0
  cases ht : rg t 100 with
  | false => exact ⟨_, by simp only [bi_f, if_true, Bool.and_false]; rfl, hi0⟩
  | true =>
    simp only [bi_t, if_false, Bool.and_true]
    obtain ⟨r, hr2, rfl⟩ := (rg_iff (by omega)).mp ht
    rcases hand_ok hi0 x with ⟨h1, h2⟩ | ⟨a, h1, ha, rfl, hr, e1, i1, t1⟩
    · rw [h2, h1, Option.bind_some]
      exact ⟨_, by simp only [if_true]; rfl, hi0⟩
    · have hw := (iv_w hi).2.2.1 a ha
      have hF := cF_le hw.1
      have h6 := hw.1.2.2.1.1
      rw [e1, hr, tnD (iv_w hi) ha, Option.bind_some]
      refine ⟨h1, ?_, i1⟩
      simp only [if_neg (show ¬ (1 : Int32) = 0 by decide), isJudge_n t1.1, isField_n t1.1, Option.bind_some, Bool.true_and]
      cases hj : rg j (cJ (dC D a)) with
      | false => rfl
      | true =>
        cases hf : rg f (cF (dC D a)) with
        | false => rw [fo_no hw.1 hf]; rfl
        | true =>
          obtain ⟨q, hq, rfl⟩ := (rg_iff (by omega)).mp hj
          obtain ⟨g, g1, rfl⟩ := (rg_iff (by omega)).mp hf
          obtain ⟨_, w1, w2, w3, w4, w5⟩ := hw.2.1 q hq
          have hsl := op_lt w1
          simp only [bi_t, if_false, Bool.true_and]
          rw [jo0 t1.1 hw.2.1 hq, Option.bind_some, farOf_n t1 g1 hsl, Option.bind_some, fo_n hw.1 (by omega), tn_nI (by omega), tn_nI (by omega), tn_nI (by omega)]
          have hml := md_le (dC D a) g (jg (dC D a) q 0)
          cases ho : op (dC D a) g with
          | false =>
            have : md (dC D a) g (jg (dC D a) q 0) = 1000 := by unfold md; rw [ho]; rfl
            rw [this, if_pos (show nI 1000 = 1000 from rfl)]; rfl
          | true =>
            rw [md_sym hw.1 w1 ho] at hml ⊢
            simp only [if_true]
            have hcl := cm_lt (dC D a) (jg (dC D a) q 0) g
            by_cases e : jg (dC D a) q 0 = g
            · have h0 : ds (dC D a) (jg (dC D a) q 0) g = 0 := by rw [e]; exact ds_self _ _
              rw [h0, if_neg (by decide), cameFrom_n t1 w1 ho, if_pos e, if_pos e]
              simp only [Option.bind_some]
              rw [jo1 t1.1 hw.2.1 hq, Option.bind_some, jo4 t1.1 hw.2.1 hq, Option.bind_some, faces_n t1.1 (by omega) (by omega) (by omega), Option.bind_some, turned_m _ (by omega) _ (Nat.mod_lt _ (by omega)), trn_15 _ (Nat.mod_lt _ (by omega))]; rfl
            · rw [if_neg e]
              have hc := cm_0 hw.1 w1 ho e
              by_cases e2 : ds (dC D a) (jg (dC D a) q 0) g = 1000
              · rw [if_pos (by rw [e2]; rfl), if_pos (hc.mpr e2)]
              · rw [if_neg (show ¬ nI _ = 1000 from fun z => e2 (nI_inj (b := 1000) (by omega) (by omega) z)), if_neg (fun z => e2 (hc.mp z)), cameFrom_n t1 w1 ho, if_neg e]
                simp only [Option.bind_some]
                rw [jo1 t1.1 hw.2.1 hq, Option.bind_some, jo4 t1.1 hw.2.1 hq, Option.bind_some, faces_n t1.1 (by omega) (by omega) (by omega), Option.bind_some, turned_m _ hcl _ (Nat.mod_lt _ (by omega)), Option.bind_some]; rfl
def qears (D : DT) (x f t l : Int32) : Int32 := if (rg x (dN D 0) && (fo (dC D (tn x)) f && (rg t 100 && rg l 10))) = true then nI (ea (dC D (tn x)) (tn f) (tn t) (tn l)) else -1
theorem c_ears {h : HA} {b : Nat} {D : DT} {α : Nat → Nat} {lm : Nat → Nat → Nat} {im : Nat → Option (Nat × DT)} (hi : IV h b D α lm im) (x f t l : Int32) : AC b D α lm im (X7_ears h b x f t l) (qears D x f t l) := by
  unfold X7_ears qears
  rw [if_pos (fx_c hi.1)]
  rcases courtAt_ok hi x with ⟨h1, h2⟩ | ⟨a, h1, ha, rfl, hr, e1, i1, l1⟩
  · rw [h2, h1]; exact ⟨h, rfl, hi⟩
  · rw [e1, hr, tnD (iv_w hi) ha]
    have cc := l1.1
    have hw := cc.2.1.1
    have hF := cF_le hw
    refine ⟨h1, ?_, i1⟩
    simp only [Option.bind_some, Bool.true_and, isOpen_f cc, isHour_c, isLoud_c]
    cases hf : fo (dC D a) f with
    | false => rfl
    | true =>
      cases ht : rg t 100 with
      | false => rfl
      | true =>
        cases hl : rg l 10 with
        | false => rfl
        | true =>
          obtain ⟨g, g1, g2, rfl⟩ := (fo_iff hw).mp hf
          obtain ⟨r, hr2, rfl⟩ := (rg_iff (by omega)).mp ht
          obtain ⟨s, hs2, rfl⟩ := (rg_iff (by omega)).mp hl
          simp only [bi_t, if_false, Bool.and_self, if_true]
          rw [earsAt_c l1 (by omega) hs2, Option.bind_some, tn_nI (by omega), tn_nI (by omega), tn_nI (by omega)]
theorem op_nw {C : CR} {f : Nat} (h : f < cF C) : op C f = !wl C f := by unfold op; simp [h]
theorem m_ears {h : HA} {b : Nat} {D : DT} {α : Nat → Nat} {lm : Nat → Nat → Nat} {im : Nat → Option (Nat × DT)} (hi : IV h b D α lm im) (x f t l : Int32) : AC b D α lm im (X8_ears h (b + 55) x f t l) (qears D x f t l) := by
  unfold X8_ears qears
  rw [if_pos (ms_c (iv_ms hi)), ms_p (iv_ms hi), Option.bind_some, isLoud_n, Option.bind_some]
  have hi0 := IV_m0 hi 0 0
  cases htl : rg t 100 && rg l 10 with
  | false => exact ⟨_, by simp only [bi_f, if_true, Bool.and_false]; rfl, hi0⟩
  | true =>
    simp only [bi_t, if_false, Bool.and_true]
    rw [Bool.and_eq_true] at htl
    obtain ⟨r, hr2, rfl⟩ := (rg_iff (by omega)).mp htl.1
    obtain ⟨s, hs2, rfl⟩ := (rg_iff (by omega)).mp htl.2
    rcases hand_ok hi0 x with ⟨h1, h2⟩ | ⟨a, h1, ha, rfl, hr, e1, i1, t1⟩
    · rw [h2, h1, Option.bind_some]
      exact ⟨_, by simp only [if_true]; rfl, hi0⟩
    · have hw := (iv_w hi).2.2.1 a ha
      have hF := cF_le hw.1
      rw [e1, hr, tnD (iv_w hi) ha, Option.bind_some]
      refine ⟨h1, ?_, i1⟩
      simp only [if_neg (show ¬ (1 : Int32) = 0 by decide), isField_n t1.1, Option.bind_some, Bool.true_and]
      cases hf : rg f (cF (dC D a)) with
      | false => rw [fo_no hw.1 hf]; rfl
      | true =>
        obtain ⟨g, g1, rfl⟩ := (rg_iff (by omega)).mp hf
        simp only [bi_t, if_false]
        rw [isWall_n t1.1 (by omega), Option.bind_some, fo_n hw.1 (by omega), op_nw g1, tn_nI (by omega), tn_nI (by omega), tn_nI (by omega)]
        cases wl (dC D a) g
        · simp only [bi_f, if_true, Bool.not_false]
          rw [earsAt_n t1 hw.2.1 g1 (by omega) (by omega), Option.bind_some]
        · rfl
