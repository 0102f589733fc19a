/-! copying, measuring -/
theorem cpy_hd (h : HA) (src sp dst dp n : Nat) : kd (cpy h src sp dst dp n) = kd h ∧ gj (cpy h src sp dst dp n) = gj h ∧ ga (cpy h src sp dst dp n) = ga h ∧ hz (cpy h src sp dst dp n) = hz h := ⟨rfl, rfl, rfl, rfl⟩
theorem gi_cpy0 (h : HA) (src dst n b j : Nat) : gi (cpy h src 0 dst 0 n) b j = if b = dst ∧ j < n then gi h src j else gi h b j := by
  show (if b = dst then va_cpy (h.2.1 src) (h.2.1 dst) 0 0 n j else h.2.1 b j) = _
  unfold va_cpy
  by_cases e : b = dst
  · subst e
    by_cases e2 : j < n
    · simp [e2, gi]
    · simp [e2, gi]
  · simp [e, gi]
theorem cpI_0 {h : HA} {c src dst n a a1 : Nat} (h1 : kd h src = (c, a)) (h2 : kd h dst = (c, a1)) (ha : n ≤ a) (ha1 : n ≤ a1) (hn : n < 2 ^ 31) (hb : c = 22 → ∀ i, i < n → (gi h src i).toInt8.toInt32 = gi h src i) : cpI h c src 0 dst 0 (nI n) = some (cpy h src 0 dst 0 n) := by
  have e0 : (0 : Int32).toInt = 0 := by decide
  have e1 : (0 : Int32).toNatClampNeg = 0 := by decide
  unfold cpI
  rw [h1, h2, e0, e1, nI_toInt hn, nI_clamp hn]
  rw [if_pos]
  refine ⟨rfl, rfl, by omega, by omega, by omega, by simp only; omega, by simp only; omega, fun i hi hc => ?_⟩
  rw [Nat.zero_add]; exact hb hc i hi
theorem ch_cpy {W : Nat → Nat → Prop} {h : HA} {src dst n : Nat} (hw : ∀ j, j < n → W dst j) : ch W h (cpy h src 0 dst 0 n) := by
  refine ⟨rfl, fun _ => rfl, fun _ _ => rfl, fun a k => ?_, fun _ _ => Or.inr rfl⟩
  rw [gi_cpy0]
  by_cases e : a = dst ∧ k < n
  · left; rw [e.1]; exact hw k e.2
  · right; rw [if_neg e]
theorem one_m : ∀ n, n < 64 → ∀ f, f < 64 → tb (shlJ 1 (nI n) - 1) f = decide (f < n) := by decide +kernel
/-- measured -/
def ME (h : HA) (c : Nat) (C : CR) : Prop := (∀ f, f < 64 → tb (gj h c 3) f = op C f) ∧ (∀ f, f < 64 → tb (gj h c 4) f = (op C f && !decide (f % cW C = 0))) ∧ (∀ f, f < 64 → tb (gj h c 5) f = (op C f && !decide (f % cW C + 1 = cW C)))
def Wme (c : Nat) : Nat → Nat → Prop := fun a k => a = c ∧ (k = 3 ∨ k = 4 ∨ k = 5 ∨ k = 11)
theorem all_c {h : HA} {c : Nat} {C : CR} (hs : CS h c) (hw : WFs C) (h0 : gi h c 0 = nI (cW C)) (h1 : gi h c 1 = nI (cH C)) : ∃ X, X0_all h c = some X ∧ ∀ f, f < 64 → tb X f = decide (f < cF C) := by
  have hF := cF_le hw
  unfold X0_all
  rw [if_pos (cs_c hs), cs_I hs, h0, Option.bind_some, cs_I hs, h1, Option.bind_some, nI_mul, show cW C * cH C = cF C from rfl]
  by_cases e : cF C < 64
  · rw [if_pos (show nI (cF C) < 64 from lt_lit (n := 64) e (by omega))]
    exact ⟨_, rfl, fun f hf => one_m _ e f hf⟩
  · rw [if_neg (show ¬ nI (cF C) < 64 from nlt_lit (n := 64) (by omega) (by omega))]
    refine ⟨_, rfl, fun f hf => ?_⟩
    rw [tb_m1]
    simp [hf]; omega
theorem measure_ok {h : HA} {c : Nat} {C : CR} (hs : CS h c) (hw : WFs C) (h0 : gi h c 0 = nI (cW C)) (h1 : gi h c 1 = nI (cH C)) (h2 : ∀ f, f < 64 → tb (gj h c 2) f = wl C f) :
    ∃ h3, X0_measure h c = some h3 ∧ ch (Wme c) h h3 ∧ ME h3 c C ∧ gi h3 c 11 = 0 := by
  have hF := cF_le hw
  have hW := hw.1
  have hH := hw.2.1
  have hl := loop_inv (fun fu y (S : Int64) => X0_measure_L4 h c fu S (nI y)) (fun y S => ∀ f, f < 64 → tb S f = decide (∃ z, z < y ∧ f = z * cW C)) (fun S => ∀ f, f < 64 → tb S f = decide (∃ z, z < cH C ∧ f = z * cW C)) (cH C) (by
    intro y S fu hy hS
    refine ⟨S ||| shlJ 1 (nI (y * cW C)), ?_, fun f hf => ?_⟩
    · show X0_measure_L4 h c (fu + 1) S (nI y) = _
      rw [X0_measure_L4, cs_I hs, h1, Option.bind_some, if_pos (lt_lit hy (by omega)), cs_I hs, h0, Option.bind_some, nI_mul, nI_p1]
    · have hyw : y * cW C < 64 := by
        have e1 : (y + 1) * cW C ≤ cH C * cW C := Nat.mul_le_mul_right _ (by omega)
        rw [Nat.succ_mul] at e1
        have e2 : cH C * cW C = cF C := Nat.mul_comm _ _
        omega
      rw [tb_or, hS f hf, tb_bit hyw, Bool.eq_iff_iff, Bool.or_eq_true, decide_eq_true_iff, decide_eq_true_iff, decide_eq_true_iff]
      constructor
      · rintro (⟨z, z1, z2⟩ | z)
        · exact ⟨z, by omega, z2⟩
        · exact ⟨y, by omega, z⟩
      · rintro ⟨z, z1, z2⟩
        by_cases e : z = y
        · subst e; exact Or.inr z2
        · exact Or.inl ⟨z, by omega, z2⟩) (by
    intro S fu hS
    refine ⟨S, ?_, hS⟩
    show X0_measure_L4 h c (fu + 1) S (nI (cH C)) = _
    rw [X0_measure_L4, cs_I hs, h1, Option.bind_some, if_neg (nlt_lit (Nat.le_refl _) (by omega))]) 0 FU (fun f _ => by rw [tb_0]; simp) (FU_gt (by omega))
  obtain ⟨S, eS, bS⟩ := hl
  obtain ⟨X, eX, bX⟩ := all_c hs hw h0 h1
  -- the first column
  have col : ∀ f, f < cF C → (tb S f = decide (f % cW C = 0)) := by
    intro f hf
    rw [bS f (by omega), Bool.eq_iff_iff, decide_eq_true_iff, decide_eq_true_iff]
    constructor
    · rintro ⟨z, _, rfl⟩; exact Nat.mul_mod_left _ _
    · intro h3
      have h4 := Nat.div_add_mod f (cW C)
      rw [h3, Nat.add_zero, Nat.mul_comm] at h4
      refine ⟨f / cW C, ?_, h4.symm⟩
      apply Nat.div_lt_of_lt_mul
      exact hf
  have hop : ∀ f, f < 64 → tb (X &&& (gj h c 2 ^^^ -1)) f = op C f := by
    intro f hf
    rw [tb_and, tb_xor, tb_m1, bX f hf, h2 f hf]
    unfold op
    simp [hf]
  generalize hO : X &&& (gj h c 2 ^^^ -1) = O at *
  have k4 : ∀ f, f < 64 → tb (O &&& (S ^^^ -1)) f = (op C f && !decide (f % cW C = 0)) := by
    intro f hf
    rw [tb_and, tb_xor, tb_m1, hop f hf]
    cases ho : op C f with
    | false => rfl
    | true => rw [col f (op_lt ho)]; simp [hf]
  have k5 : ∀ f, f < 64 → tb (O &&& (shlJ S (nI (cW C - 1)) ^^^ -1)) f = (op C f && !decide (f % cW C + 1 = cW C)) := by
    intro f hf
    rw [tb_and, tb_xor, tb_m1, tb_shl _ (show cW C - 1 < 64 by omega), hop f hf]
    cases ho : op C f with
    | false => rfl
    | true =>
      have hfF := op_lt ho
      have e1 : (decide (cW C - 1 ≤ f) && tb S (f - (cW C - 1))) = decide (f % cW C + 1 = cW C) := by
        by_cases e2 : cW C - 1 ≤ f
        · rw [col (f - (cW C - 1)) (by omega), decide_eq_true e2, Bool.true_and]
          apply decide_eq_decide.mpr
          rcases cW_c hw with e | e | e | e | e | e | e <;> rw [e] at e2 ⊢ <;> omega
        · have : f % cW C = f := Nat.mod_eq_of_lt (by omega)
          rw [this, decide_eq_false e2, Bool.false_and]
          symm; simp; omega
      rw [Bool.and_assoc, e1]
      simp [hf]
  have hs1 : ∀ k v, CS (sj h c k v) c := fun k v => CS_same hs (fun _ _ _ => rfl) (fun _ => rfl)
  refine ⟨si (sj (sj (sj h c 3 O) c 4 (O &&& (S ^^^ -1))) c 5 (O &&& (shlJ S (nI (cW C - 1)) ^^^ -1))) c 11 0, ?_, ?_, ⟨fun f hf => ?_, fun f hf => ?_, fun f hf => ?_⟩, ?_⟩
  · unfold X0_measure
    have s3 := hs1 3 O
    have s4 : CS (sj (sj h c 3 O) c 4 (O &&& (S ^^^ -1))) c := CS_same s3 (fun _ _ _ => rfl) (fun _ => rfl)
    have s5 : CS (sj (sj (sj h c 3 O) c 4 (O &&& (S ^^^ -1))) c 5 (O &&& (shlJ S (nI (cW C - 1)) ^^^ -1))) c := CS_same s4 (fun _ _ _ => rfl) (fun _ => rfl)
    rw [if_pos (cs_c hs), show X0_measure_L4 h c FU 0 0 = _ from eS, Option.bind_some, eX, Option.bind_some, cs_J hs, Option.bind_some, hO, cs_pJ hs, Option.bind_some, cs_J s3, Option.bind_some, gj_sj, if_pos ⟨rfl, rfl⟩, cs_pJ s3, Option.bind_some, cs_J s4, Option.bind_some, gj_sj, if_neg (by omega), gj_sj, if_pos ⟨rfl, rfl⟩, cs_I s4, Option.bind_some]
    show ((pJ (sj (sj h c 3 O) c 4 (O &&& (S ^^^ -1))) c 1 5 (O &&& (shlJ S (gi h c 0 - 1) ^^^ -1))).bind _) = _
    rw [h0, nI_m1 (by omega), cs_pJ s4, Option.bind_some, cs_pI s5, Option.bind_some]
  · exact (((ch_sj ⟨rfl, Or.inl rfl⟩).tr (ch_sj ⟨rfl, Or.inr (Or.inl rfl)⟩)).tr (ch_sj ⟨rfl, Or.inr (Or.inr (Or.inl rfl))⟩)).tr (ch_si ⟨rfl, Or.inr (Or.inr (Or.inr rfl))⟩)
  · rw [gj_si, gj_sj, if_neg (by omega), gj_sj, if_neg (by omega), gj_sj, if_pos ⟨rfl, rfl⟩]; exact hop f hf
  · rw [gj_si, gj_sj, if_neg (by omega), gj_sj, if_pos ⟨rfl, rfl⟩]; exact k4 f hf
  · rw [gj_si, gj_sj, if_pos ⟨rfl, rfl⟩]; exact k5 f hf
  · rw [gi_si, if_pos ⟨rfl, rfl⟩]
/-- a COURT as told, measured or not -/
def CT (h : HA) (c : Nat) (C : CR) : Prop := CS h c ∧ gi h c 0 = nI (cW C) ∧ gi h c 1 = nI (cH C) ∧ (∀ f, f < 64 → tb (gj h c 2) f = wl C f) ∧ gi h c 6 = nI (cJ C) ∧ gi h c 8 = nI (cP C) ∧ (∀ k, k < 5 * cJ C → gi h (c + 1) k = C (4 + k)) ∧ (∀ p, p < cP C → gi h (c + 2) p = C (34 + 2 * p) ∧ gi h (c + 3) p = C (35 + 2 * p))
theorem CT_ch {W : Nat → Nat → Prop} {h h1 : HA} {c : Nat} {C : CR} (ct : CT h c C) (p : ch W h h1) (hw : ∀ k, k ≤ 2 ∨ k = 6 ∨ k = 8 → ¬ W c k) (hr : ∀ a k, c + 1 ≤ a → a ≤ c + 3 → ¬ W a k) : CT h1 c C := by
  obtain ⟨a1, a2, a3, a4, a5, a6, a7, a8⟩ := ct
  refine ⟨CS_same a1 (fun a _ _ => p.2.1 a) (fun k => p.2.2.1 c k), by rw [p.gi (hw 0 (by omega))]; exact a2, by rw [p.gi (hw 1 (by omega))]; exact a3, fun f hf => by rw [p.gj (hw 2 (by omega))]; exact a4 f hf, by rw [p.gi (hw 6 (by omega))]; exact a5, by rw [p.gi (hw 8 (by omega))]; exact a6, fun k hk => by rw [p.gi (hr _ _ (by omega) (by omega))]; exact a7 k hk, fun q hq => by rw [p.gi (hr _ _ (by omega) (by omega)), p.gi (hr _ _ (by omega) (by omega))]; exact a8 q hq⟩
theorem measured {h : HA} {c : Nat} {C : CR} (ct : CT h c C) (hw : WF C) : ∃ h3, X0_measure h c = some h3 ∧ ch (Wme c) h h3 ∧ CQ h3 c C := by
  obtain ⟨h3, e3, c3, m3, l3⟩ := measure_ok ct.1 hw.1 ct.2.1 ct.2.2.1 ct.2.2.2.1
  obtain ⟨b1, b2, b3, b4, b5, b6, b7, b8⟩ := CT_ch ct c3 (fun k hk w => by unfold Wme at w; omega) (fun a k h1 h2 w => by unfold Wme at w; omega)
  exact ⟨h3, e3, c3, ⟨b1, hw, b2, b3, b4, m3.1, m3.2.1, m3.2.2, b5, b6, b7, b8⟩, Or.inl l3⟩
theorem CC_CT {h : HA} {c : Nat} {C : CR} (hs : CC h c C) : CT h c C := by
  obtain ⟨a1, a2, a3, a4, a5, a6, a7, a8, a9, a10, a11, a12⟩ := hs
  exact ⟨a1, a3, a4, a5, a9, a10, a11, a12⟩
/-- where a COURT lies -/
def Wct (c : Nat) : Nat → Nat → Prop := fun a _ => c ≤ a ∧ a ≤ c + 5
theorem copy_court {h : HA} {c d : Nat} {C : CR} (hd : CS h d) (hc : CC h c C) (hne : ∀ a, d ≤ a → a ≤ d + 5 → ¬ (c ≤ a ∧ a ≤ c + 5)) : ∃ h3, X0_copyFrom h d c = some h3 ∧ ch (Wct d) h h3 ∧ CQ h3 d C := by
  obtain ⟨a1, a2, a3, a4, a5, a6, a7, a8, a9, a10, a11, a12⟩ := hc
  have hn0 := hne d (by omega) (by omega)
  have hdc : d + 5 < c ∨ c + 5 < d := by
    rcases Nat.lt_or_ge d c with h1 | h1
    · left
      rcases Nat.lt_or_ge (d + 5) c with h2 | h2
      · exact h2
      · exact absurd ⟨Nat.le_refl c, by omega⟩ (hne c (by omega) (by omega))
    · right; omega
  have j6 := a2.1.2.2.1.1
  have p4' := a2.1.2.2.2.1.1
  -- the fields
  obtain ⟨h1, hh1⟩ : ∃ h1, h1 = si (si (sj (si (si h d 0 (nI (cW C))) d 1 (nI (cH C))) d 2 (gj h c 2)) d 6 (nI (cJ C))) d 8 (nI (cP C)) := ⟨_, rfl⟩
  have c1 : ch (Wct d) h h1 := by
    rw [hh1]
    exact ((((ch_si ⟨by omega, by omega⟩).tr (ch_si ⟨by omega, by omega⟩)).tr (ch_sj ⟨by omega, by omega⟩)).tr (ch_si ⟨by omega, by omega⟩)).tr (ch_si ⟨by omega, by omega⟩)
  have cs : ∀ {g : HA}, ch (Wct d) h g → CS g c := fun p => CS_same a1 (fun a _ _ => p.2.1 a) (fun k => p.2.2.1 c k)
  have ds : ∀ {g : HA}, ch (Wct d) h g → CS g d := fun p => CS_same hd (fun a _ _ => p.2.1 a) (fun k => p.2.2.1 d k)
  have ng : ∀ {g : HA}, ch (Wct d) h g → ∀ a k, c ≤ a → a ≤ c + 5 → gi g a k = gi h a k := fun p a k h1 h2 => p.gi (fun w => by unfold Wct at w; omega)
  have ngj : ∀ {g : HA}, ch (Wct d) h g → ∀ k, gj g c k = gj h c k := fun p k => p.gj (fun w => by unfold Wct at w; omega)
  have c2 : ch (Wct d) h (cpy h1 (c + 1) 0 (d + 1) 0 30) := c1.tr (ch_cpy (fun j _ => ⟨by omega, by omega⟩))
  have c3 : ch (Wct d) h (cpy (cpy h1 (c + 1) 0 (d + 1) 0 30) (c + 2) 0 (d + 2) 0 4) := c2.tr (ch_cpy (fun j _ => ⟨by omega, by omega⟩))
  have c4 : ch (Wct d) h (cpy (cpy (cpy h1 (c + 1) 0 (d + 1) 0 30) (c + 2) 0 (d + 2) 0 4) (c + 3) 0 (d + 3) 0 4) := c3.tr (ch_cpy (fun j _ => ⟨by omega, by omega⟩))
  obtain ⟨h4, hh4⟩ : ∃ h4, h4 = cpy (cpy (cpy h1 (c + 1) 0 (d + 1) 0 30) (c + 2) 0 (d + 2) 0 4) (c + 3) 0 (d + 3) 0 4 := ⟨_, rfl⟩
  have ct : CT h4 d C := by
    have f1 : ∀ k, gi h4 d k = gi h1 d k := fun k => by rw [hh4, gi_cpy0, if_neg (by omega), gi_cpy0, if_neg (by omega), gi_cpy0, if_neg (by omega)]
    have fj : ∀ k, gj h4 d k = gj h1 d k := fun k => by rw [hh4]; rfl
    refine ⟨by rw [hh4]; exact ds c4, ?_, ?_, fun f hf => ?_, ?_, ?_, fun k hk => ?_, fun p hp => ⟨?_, ?_⟩⟩
    · rw [f1, hh1, gi_si, if_neg (by omega), gi_si, if_neg (by omega), gi_sj, gi_si, if_neg (by omega), gi_si, if_pos ⟨rfl, rfl⟩]
    · rw [f1, hh1, gi_si, if_neg (by omega), gi_si, if_neg (by omega), gi_sj, gi_si, if_pos ⟨rfl, rfl⟩]
    · rw [fj, hh1, gj_si, gj_si, gj_sj, if_pos ⟨rfl, rfl⟩]; exact a5 f hf
    · rw [f1, hh1, gi_si, if_neg (by omega), gi_si, if_pos ⟨rfl, rfl⟩]
    · rw [f1, hh1, gi_si, if_pos ⟨rfl, rfl⟩]
    · rw [hh4, gi_cpy0, if_neg (by omega), gi_cpy0, if_neg (by omega), gi_cpy0, if_pos ⟨rfl, by omega⟩, ng c1 _ _ (by omega) (by omega)]; exact a11 k hk
    · rw [hh4, gi_cpy0, if_neg (by omega), gi_cpy0, if_pos ⟨rfl, by omega⟩, ng c2 _ _ (by omega) (by omega)]; exact (a12 p hp).1
    · rw [hh4, gi_cpy0, if_pos ⟨rfl, by omega⟩, ng c3 _ _ (by omega) (by omega)]; exact (a12 p hp).2
  obtain ⟨h5, e5, c5, q5⟩ := measured ct a2
  rw [← hh4] at c4
  refine ⟨h5, ?_, c4.tr (c5.mo (fun a k w => by unfold Wme at w; unfold Wct; omega)), q5⟩
  unfold X0_copyFrom
  have g0 := hd
  have s1 : ∀ k v, CS (si h d k v) d := fun k v => CS_same hd (fun _ _ _ => rfl) (fun _ => rfl)
  rw [if_pos (cs_c hd), cs_I a1, a3, Option.bind_some, cs_pI hd, Option.bind_some]
  have p1 : ch (Wct d) h (si h d 0 (nI (cW C))) := ch_si ⟨by omega, by omega⟩
  rw [cs_I (cs p1), ng p1 _ _ (by omega) (by omega), a4, Option.bind_some, cs_pI (ds p1), Option.bind_some]
  have p2 : ch (Wct d) h (si (si h d 0 (nI (cW C))) d 1 (nI (cH C))) := p1.tr (ch_si ⟨by omega, by omega⟩)
  rw [cs_J (cs p2), ngj p2, Option.bind_some, cs_pJ (ds p2), Option.bind_some]
  have p3 : ch (Wct d) h (sj (si (si h d 0 (nI (cW C))) d 1 (nI (cH C))) d 2 (gj h c 2)) := p2.tr (ch_sj ⟨by omega, by omega⟩)
  rw [cs_I (cs p3), ng p3 _ _ (by omega) (by omega), a9, Option.bind_some, cs_pI (ds p3), Option.bind_some]
  have p4 : ch (Wct d) h (si (sj (si (si h d 0 (nI (cW C))) d 1 (nI (cH C))) d 2 (gj h c 2)) d 6 (nI (cJ C))) := p3.tr (ch_si ⟨by omega, by omega⟩)
  rw [cs_I (cs p4), ng p4 _ _ (by omega) (by omega), a10, Option.bind_some, cs_pI (ds p4), Option.bind_some, ← hh1, cs_r7 (cs c1), Option.bind_some, cs_r7 (ds c1), Option.bind_some, Option.bind_some]
  have al : aL h1 (d + 1) = some (nI 30) := by unfold aL; rw [cs_k7 (ds c1)]; rfl
  rw [al, Option.bind_some, cpI_0 (cs_k7 (cs c1)) (cs_k7 (ds c1)) (by omega) (by omega) (by omega) (fun h => by simp at h), Option.bind_some, cs_r9 (cs c2), Option.bind_some, cs_r9 (ds c2), Option.bind_some, show cpI (cpy h1 (c + 1) 0 (d + 1) 0 30) 20 (c + 2) 0 (d + 2) 0 4 = _ from cpI_0 (n := 4) (cs_k9 (cs c2)) (cs_k9 (ds c2)) (by omega) (by omega) (by omega) (fun h => by simp at h), Option.bind_some, cs_r10 (cs c3), Option.bind_some, cs_r10 (ds c3), Option.bind_some, show cpI (cpy (cpy h1 (c + 1) 0 (d + 1) 0 30) (c + 2) 0 (d + 2) 0 4) 20 (c + 3) 0 (d + 3) 0 4 = _ from cpI_0 (n := 4) (cs_k10 (cs c3)) (cs_k10 (ds c3)) (by omega) (by omega) (by omega) (fun h => by simp at h), Option.bind_some, ← hh4, e5, Option.bind_some]
