/-! ROUND: the class's Walk, what it hears -/
theorem IV_wk {h h2 : HA} {b w : Nat} {D : DT} {α : Nat → Nat} {lm : Nat → Nat → Nat} {im : Nat → Option (Nat × DT)} (hi : IV h b D α lm im) (hz1 : hz h ≤ hz h2) (hsm : ∀ a, a < hz h → a ≠ b → sm h h2 a) (hkb : kd h2 b = kd h b) (hgb : ∀ j, j ≠ 5 → ga h2 b j = ga h b j) (h5 : ga h2 b 5 = some w) (w1 : b + 86 ≤ w) (w2 : w + 3 ≤ hz h2) (w3 : WS h2 w) : IV h2 b D α lm im := by
  obtain ⟨a1, a2, a3, a4, a5, a6, a7, a8, a9, a10, a11, a12, a13⟩ := hi
  have hb := a1.2.2.2.2
  have k0 : kd h b = (8, 0) := fx_x a1
  have qC : ∀ j, j < 3 → ∀ a, α j ≤ a → a ≤ α j + 5 → sm h h2 a := by
    intro j hj a h1 h3
    have := (a2 j hj).2
    refine hsm a (by omega) (fun e => ?_)
    rcases cs_kk (a2 j hj).1 h1 h3 with ⟨_, z⟩ | ⟨_, z | z | z | z⟩ <;> rw [e, k0] at z <;> exact absurd z (by decide)
  have qL : ∀ s j, 1 ≤ s → s < 4 → j < 3 → sm h h2 (lm s j) ∧ sm h h2 (lm s j + 1) := by
    intro s j h1 h3 hj
    obtain ⟨l1, l2, l3⟩ := a4 s j h1 h3 hj
    have z1 := l1.1
    have z2 := l1.2.2.2
    refine ⟨hsm _ (by omega) (fun e => ?_), hsm _ (by omega) (fun e => ?_)⟩
    · rw [e, k0] at z1; exact absurd z1 (by decide)
    · rw [e, k0] at z2; exact absurd (congrArg Prod.fst z2) (fun z => by simp at z)
  have ne : ∀ x, 1 ≤ x → x < 86 → sm h h2 (b + x) := fun x h1 h3 => hsm _ (by omega) (by omega)
  have hfx : FX h2 b := by
    refine FX_kd a1 hz1 (fun a ha => ?_) (fun x hx => ?_) (fun k _ => (ne 1 (by omega) (by omega)).2.2.2 k) (fun k => (ne 55 (by omega) (by omega)).2.2.2 k)
    · by_cases e : a = b
      · rw [e]; exact hkb
      · exact (hsm a ha e).1
    · have l1 : ∀ x, x ∈ fxr → x.1 ≤ 52 ∧ (x.1 = 0 → x.2.1 ≠ 5) := by decide
      obtain ⟨l2, l3⟩ := l1 x hx
      by_cases e : x.1 = 0
      · rw [e]; exact hgb _ (l3 e)
      · exact (ne x.1 (by omega) (by omega)).2.2.2 _
  refine ⟨hfx, fun j hj => ⟨CS_sm (a2 j hj).1 (qC j hj), (a2 j hj).2⟩, a3, fun s j h1 h3 hj => ⟨LiS_sm (a4 s j h1 h3 hj).1 (qL s j h1 h3 hj).1 (qL s j h1 h3 hj).2, (a4 s j h1 h3 hj).2⟩, a5, ?_, by rw [(ne 31 (by omega) (by omega)).2.2.2]; exact a7, fun s h1 h3 => by rw [(ne 38 (by omega) (by omega)).2.2.2]; exact a8 s h1 h3, ?_, a10, fun i hi => ?_, a12, Or.inr ⟨w, h5, w1, w2, w3⟩⟩
  · refine TD_sm a6 a10 (fun a h1 h3 => hsm a (by omega) (by omega)) (fun j hj => CQ_sm (a6.2.2.2.2.2.2.2.1 j hj) (qC j (by have := a10.2.1 0 (by omega); omega))) (fun s j h1 h3 hj => qL s j h1 h3 (by omega))
  · exact MD_sm a9 (fun a h1 h3 => hsm a (by omega) (by omega))
  · exact IMk_keep (a11 i hi) hz1 (fun a h1 h3 => hsm a h3 (by omega)) ((ne 30 (by omega) (by omega)).2.2.2 i) ((ne 85 (by omega) (by omega)).2.1 i) (fun a j h1 h3 _ => by
      have := (ne (55 + a) (by omega) (by omega)).2.1 j
      rw [← Nat.add_assoc] at this; exact this)
/-- the Walk with its COURT, start and full set -/
def WK (h : HA) (w c : Nat) (C : CR) (f0 : Nat) : Prop := WS h w ∧ ga h w 2 = some c ∧ gi h w 3 = nI f0 ∧ gi h w 4 = nI (2 ^ cJ C - 1) ∧ CL h c C ∧ c + 6 ≤ w
def Wwk (w : Nat) : Nat → Nat → Prop := fun a _ => a = w + 1 ∨ a = w + 2
theorem wk_k {h : HA} {w c f0 : Nat} {C : CR} (k : WK h w c C f0) : kd h w = (7, 0) := k.1.1
theorem wk_t {h : HA} {w c f0 : Nat} {C : CR} (k : WK h w c C f0) : (kd h w).1 = 7 := by rw [k.1.1]
theorem wk_0 {h : HA} {w c f0 : Nat} {C : CR} (k : WK h w c C f0) : gR h w 7 0 = some (w + 1) := by rw [gR_n k.1.1]; exact k.1.2.1.1
theorem wk_1 {h : HA} {w c f0 : Nat} {C : CR} (k : WK h w c C f0) : gR h w 7 1 = some (w + 2) := by rw [gR_n k.1.1]; exact k.1.2.2.1
theorem wk_2 {h : HA} {w c f0 : Nat} {C : CR} (k : WK h w c C f0) : gR h w 7 2 = some c := by rw [gR_n k.1.1]; exact k.2.1
theorem wk_3 {h : HA} {w c f0 : Nat} {C : CR} (k : WK h w c C f0) : gI h w 7 3 = some (nI f0) := by rw [gI_n k.1.1, k.2.2.1]
theorem wk_4 {h : HA} {w c f0 : Nat} {C : CR} (k : WK h w c C f0) : gI h w 7 4 = some (nI (2 ^ cJ C - 1)) := by rw [gI_n k.1.1, k.2.2.2.1]
theorem wk_k1 {h : HA} {w c f0 : Nat} {C : CR} (k : WK h w c C f0) : kd h (w + 1) = (21, 3904) := k.1.2.1.2
theorem wk_k2 {h : HA} {w c f0 : Nat} {C : CR} (k : WK h w c C f0) : kd h (w + 2) = (21, 256) := k.1.2.2.2
theorem WK_ch {h h1 : HA} {w c f0 : Nat} {C : CR} (k : WK h w c C f0) (p : ch (Wwk w) h h1) : WK h1 w c C f0 := by
  obtain ⟨k1, k2, k3, k4, k5, k6⟩ := k
  refine ⟨WS_ch k1 p, by rw [p.2.2.1]; exact k2, by rw [p.gi (by unfold Wwk; omega)]; exact k3, by rw [p.gi (by unfold Wwk; omega)]; exact k4, CL_sm k5 (fun a h1 h2 => p.sm (fun i => by unfold Wwk; omega)), k6⟩
theorem p2_le {C : CR} (hw : WFs C) : 1 ≤ 2 ^ cJ C ∧ 2 ^ cJ C ≤ 64 := by
  have p0 := Nat.two_pow_pos (cJ C)
  have := hd_64 hw (x := 2 ^ cJ C - 1) (by omega); omega
def BD (h : HA) (w : Nat) (C : CR) (l : Nat) : Prop := ∀ hr e f, hr < 4 → e < 64 → f < 64 → tb (gj h (w + 2) (64 * hr + e)) f = (op C f && decide (ea C f hr l = e))
theorem fill_w2 {h : HA} {w c f0 : Nat} {C : CR} (k : WK h w c C f0) : ∃ h1, J7_fill_d0a16 h (w + 2) 0 = some h1 ∧ ch (fun a _ => a = w + 2) h h1 ∧ ∀ i, i < 256 → gj h1 (w + 2) i = 0 := by
  have ea1 : aL h (w + 2) = some (nI 256) := by unfold aL; rw [wk_k2 k]; rfl
  unfold J7_fill_d0a16
  rw [ea1, Option.bind_some]
  obtain ⟨h1, e1, c1, g1⟩ := loop_inv (fun fu k (h : HA) => J7_fill_d0a16_L6 (w + 2) 0 (nI 256) fu h (nI k)) (fun k h1 => ch (fun a _ => a = w + 2) h h1 ∧ ∀ i, i < k → gj h1 (w + 2) i = 0) (fun h1 => ch (fun a _ => a = w + 2) h h1 ∧ ∀ i, i < 256 → gj h1 (w + 2) i = 0) 256 (by
    intro i h1 fu hi hI
    have k2 : kd h1 (w + 2) = (21, 256) := by rw [hI.1.2.1]; exact wk_k2 k
    refine ⟨sj h1 (w + 2) i 0, ?_, hI.1.tr (ch_sj rfl), fun j hj => ?_⟩
    · show J7_fill_d0a16_L6 (w + 2) 0 (nI 256) (fu + 1) h1 (nI i) = _
      rw [J7_fill_d0a16_L6, if_pos (lt_lit hi (by omega)), asJ_n k2 (by omega) (by omega), Option.bind_some, nI_p1]
    · rw [gj_sj]
      by_cases e : j = i
      · rw [if_pos ⟨rfl, e⟩]
      · rw [if_neg (by omega)]; exact hI.2 j (by omega)) (by
    intro h1 fu hI
    refine ⟨h1, ?_, hI⟩
    show J7_fill_d0a16_L6 (w + 2) 0 (nI 256) (fu + 1) h1 (nI 256) = _
    rw [J7_fill_d0a16_L6, if_neg (nlt_lit (Nat.le_refl _) (by omega))]) h FU ⟨ch_rf _ _, fun i hi => by omega⟩ (FU_gt (by omega))
  exact ⟨h1, by rw [show J7_fill_d0a16_L6 (w + 2) 0 (nI 256) FU h 0 = _ from e1]; rfl, c1, g1⟩
theorem fill_w1 {h : HA} {w c f0 : Nat} {C : CR} (k : WK h w c C f0) {x : Nat} (hx : x + 64 ≤ 3904) : ∃ h1, J7_fill_bad5a h (w + 1) (nI x) (nI (x + 64)) 0 = some h1 ∧ ch (fun a i => a = w + 1 ∧ x ≤ i ∧ i < x + 64) h h1 ∧ ∀ i, i < 64 → gj h1 (w + 1) (x + i) = 0 := by
  have ea1 : aL h (w + 1) = some (nI 3904) := by unfold aL; rw [wk_k1 k]; rfl
  have er : J7_rangeCheck_23922 (nI 3904) (nI x) (nI (x + 64)) = some () := by
    unfold J7_rangeCheck_23922
    rw [if_neg (nlt_lit (by omega) (by omega)), if_neg (nI_lt0 (by omega)), if_neg (nlt_lit (by omega) (by omega))]
  unfold J7_fill_bad5a
  rw [ea1, Option.bind_some, er, Option.bind_some]
  obtain ⟨h1, e1, c1, g1⟩ := loop_inv (fun fu k (h : HA) => J7_fill_bad5a_L10 (w + 1) (nI (x + 64)) 0 fu h (nI (x + k))) (fun k h1 => ch (fun a i => a = w + 1 ∧ x ≤ i ∧ i < x + 64) h h1 ∧ ∀ i, i < k → gj h1 (w + 1) (x + i) = 0) (fun h1 => ch (fun a i => a = w + 1 ∧ x ≤ i ∧ i < x + 64) h h1 ∧ ∀ i, i < 64 → gj h1 (w + 1) (x + i) = 0) 64 (by
    intro i h1 fu hi hI
    have k2 : kd h1 (w + 1) = (21, 3904) := by rw [hI.1.2.1]; exact wk_k1 k
    refine ⟨sj h1 (w + 1) (x + i) 0, ?_, hI.1.tr (ch_sj ⟨rfl, by omega, by omega⟩), fun j hj => ?_⟩
    · show J7_fill_bad5a_L10 (w + 1) (nI (x + 64)) 0 (fu + 1) h1 (nI (x + i)) = _
      rw [J7_fill_bad5a_L10, if_pos (lt_lit (by omega) (by omega)), asJ_n k2 (by omega) (by omega), Option.bind_some, nI_p1]; rfl
    · rw [gj_sj]
      by_cases e : j = i
      · subst e; rw [if_pos ⟨rfl, rfl⟩]
      · rw [if_neg (by omega)]; exact hI.2 j (by omega)) (by
    intro h1 fu hI
    refine ⟨h1, ?_, hI⟩
    show J7_fill_bad5a_L10 (w + 1) (nI (x + 64)) 0 (fu + 1) h1 (nI (x + 64)) = _
    rw [J7_fill_bad5a_L10, if_neg (nlt_lit (Nat.le_refl _) (by omega))]) h FU ⟨ch_rf _ _, fun i hi => by omega⟩ (FU_gt (by omega))
  exact ⟨h1, by rw [show J7_fill_bad5a_L10 (w + 1) (nI (x + 64)) 0 FU h (nI x) = _ from e1]; rfl, c1, g1⟩
theorem wl_cell {f : Nat} (hf : f < 64) : tn (nI f) = f := tn_nI (by omega)
theorem bands17 {h : HA} {w c f0 l hr : Nat} {C : CR} (k : WK h w c C f0) (hl : l < 10) (hr4 : hr < 4) (g0 : ∀ e, e < 64 → gj h (w + 2) (64 * hr + e) = 0) :
    ∃ h1, X6_layBands_L17 w (nI l) (nI hr) FU h 0 = some h1 ∧ ch (fun a i => a = w + 2 ∧ 64 * hr ≤ i ∧ i < 64 * hr + 64) h h1 ∧ ∀ e f, e < 64 → f < 64 → tb (gj h1 (w + 2) (64 * hr + e)) f = (op C f && decide (ea C f hr l = e)) := by
  have hw := k.2.2.2.2.1.1.2.1
  have key := loop_inv (fun fu i (h : HA) => X6_layBands_L17 w (nI l) (nI hr) fu h (nI i)) (fun i h1 => ch (fun a i => a = w + 2 ∧ 64 * hr ≤ i ∧ i < 64 * hr + 64) h h1 ∧ ∀ e f, e < 64 → f < 64 → tb (gj h1 (w + 2) (64 * hr + e)) f = (decide (f < i) && (op C f && decide (ea C f hr l = e))))
    (fun h1 => ch (fun a i => a = w + 2 ∧ 64 * hr ≤ i ∧ i < 64 * hr + 64) h h1 ∧ ∀ e f, e < 64 → f < 64 → tb (gj h1 (w + 2) (64 * hr + e)) f = (op C f && decide (ea C f hr l = e))) 64 (by
    intro i h1 fu hi hI
    obtain ⟨c1, g1⟩ := hI
    have k1 := WK_ch k (c1.mo fun a i q => by unfold Wwk; omega)
    have e64 := ea_64 hw.1 i hr l
    have hea := earsAt_c (hour := hr) k1.2.2.2.2.1 hi hl
    show ∃ a', X6_layBands_L17 w (nI l) (nI hr) (fu + 1) h1 (nI i) = X6_layBands_L17 w (nI l) (nI hr) fu a' (nI (i + 1)) ∧ _
    rw [X6_layBands_L17, if_pos (show nI i < 64 from lt_lit (n := 64) hi (by omega)), wk_2 k1, Option.bind_some, isOpen_c k1.2.2.2.2.1.1, Option.bind_some, rg_n (by omega), wl_cell hi, nI_p1]
    simp only [hi, decide_true, Bool.true_and]
    cases ho : op C i with
    | false =>
      rw [if_pos (by decide)]
      refine ⟨h1, rfl, c1, fun e f h2 h3 => ?_⟩
      rw [g1 e f h2 h3]
      by_cases ef : f = i
      · subst ef; simp [ho]
      · have : (f < i + 1) ↔ f < i := by omega
        simp [this]
    | true =>
      rw [if_neg (by decide), Option.bind_some, hea, Option.bind_some, wk_1 k1, Option.bind_some, show (64 : Int32) = nI 64 from rfl, nI_mul, nI_add, ldJ_n (wk_k2 k1) (by omega) (by omega), Option.bind_some, asJ_n (wk_k2 k1) (by omega) (by omega), Option.bind_some]
      refine ⟨_, rfl, c1.tr (ch_sj ⟨rfl, by omega, by omega⟩), fun e f h2 h3 => ?_⟩
      rw [gj_sj]
      by_cases ee : e = ea C i hr l
      · rw [if_pos ⟨rfl, by omega⟩, tb_or, tb_bit hi, show hr * 64 + ea C i hr l = 64 * hr + e by omega, g1 e f h2 h3]
        by_cases ef : f = i
        · subst ef; simp [ho, ee]
        · have : (f < i + 1) ↔ f < i := by omega
          simp [this, ef]
      · rw [if_neg (by omega), g1 e f h2 h3]
        by_cases ef : f = i
        · subst ef
          have : ¬ ea C f hr l = e := fun z => ee z.symm
          simp [this]
        · have : (f < i + 1) ↔ f < i := by omega
          simp [this]) (by
    intro h1 fu hI
    refine ⟨h1, ?_, hI.1, fun e f h2 h3 => ?_⟩
    · show X6_layBands_L17 w (nI l) (nI hr) (fu + 1) h1 (nI 64) = _
      rw [X6_layBands_L17, if_neg (by decide)]
    · rw [hI.2 e f h2 h3]; simp [h3]) h FU ⟨ch_rf _ _, fun e f h2 h3 => by rw [g0 e h2, tb_0]; simp⟩ (FU_gt (by omega))
  exact key
theorem layBands_ok {h : HA} {w c f0 l : Nat} {C : CR} (k : WK h w c C f0) (hl : l < 10) : ∃ h1, X6_layBands h w (nI l) = some h1 ∧ ch (fun a _ => a = w + 2) h h1 ∧ BD h1 w C l := by
  unfold X6_layBands
  obtain ⟨h1, e1, c1, g1⟩ := fill_w2 k
  rw [if_pos (wk_t k), wk_1 k, Option.bind_some, e1, Option.bind_some]
  have k1 := WK_ch k (c1.mo fun a i q => by unfold Wwk; omega)
  obtain ⟨h2, e2, c2, g2⟩ := loop_inv (fun fu i (h : HA) => X6_layBands_L10 w (nI l) fu h (nI i)) (fun i h2 => ch (fun a _ => a = w + 2) h1 h2 ∧ (∀ hr e, i ≤ hr → hr < 4 → e < 64 → gj h2 (w + 2) (64 * hr + e) = 0) ∧ ∀ hr e f, hr < i → e < 64 → f < 64 → tb (gj h2 (w + 2) (64 * hr + e)) f = (op C f && decide (ea C f hr l = e)))
    (fun h2 => ch (fun a _ => a = w + 2) h1 h2 ∧ BD h2 w C l) 4 (by
    intro i h2 fu hi hI
    obtain ⟨c2, z2, g2⟩ := hI
    have k2 := WK_ch k1 (c2.mo fun a i q => by unfold Wwk; omega)
    obtain ⟨h3, e3, c3, g3⟩ := bands17 k2 hl hi (fun e he => z2 i e (Nat.le_refl _) hi he)
    refine ⟨h3, ?_, c2.tr (c3.mo fun a i q => q.1), fun hr e h4 h5 h6 => ?_, fun hr e f h4 h5 h6 => ?_⟩
    · show X6_layBands_L10 w (nI l) (fu + 1) h2 (nI i) = _
      rw [X6_layBands_L10, if_pos (lt4 hi), e3, Option.bind_some, nI_p1]
    · rw [c3.gj (by omega)]; exact z2 hr e (by omega) h5 h6
    · by_cases ei : hr = i
      · subst ei; exact g3 e f h5 h6
      · rw [c3.gj (by omega)]; exact g2 hr e f (by omega) h5 h6) (by
    intro h2 fu hI
    refine ⟨h2, ?_, hI.1, fun hr e f h3 h4 h5 => hI.2.2 hr e f h3 h4 h5⟩
    show X6_layBands_L10 w (nI l) (fu + 1) h2 (nI 4) = _
    rw [X6_layBands_L10, if_neg (by decide)]) h1 FU ⟨ch_rf _ _, fun hr e _ h4 h6 => g1 _ (by omega), fun hr e f h4 => by omega⟩ (FU_gt (by omega))
  exact ⟨h2, by rw [show X6_layBands_L10 w (nI l) FU h1 0 = _ from e2]; rfl, c1.tr c2, g2⟩
theorem band_c {h : HA} {w c f0 l t e : Nat} {C : CR} (k : WK h w c C f0) (bd : BD h w C l) (ht : t < 1000) (he : e < 64) : ∃ B, X6_band h w (nI t) (nI e) = some B ∧ ∀ f, f < 64 → tb B f = (op C f && decide (ea C f (t % 4) l = e)) := by
  unfold X6_band
  rw [if_pos (wk_t k), wk_1 k, Option.bind_some, and3, show (64 : Int32) = nI 64 from rfl, nI_mul, nI_add, ldJ_n (wk_k2 k) (by omega) (by omega), Option.bind_some]
  refine ⟨_, rfl, fun f hf => ?_⟩
  rw [Nat.mul_comm]
  exact bd _ _ _ (Nat.mod_lt _ (by omega)) he hf
