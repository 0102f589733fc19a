/-! TEXT: the model reads a line -/
theorem slots_l {B : Nat → Nat} {n f d k : Nat} {σ : ZS} {v : Nat → Int32} {q : Nat} (e : slot B n f k σ = .inl q) : slots B n f (d + 1) k σ v = .inl q := by
  rw [slots, e]
theorem slots_r {B : Nat → Nat} {n f d k k1 : Nat} {σ : ZS} {v : Nat → Int32} {z : ZS × Int32} (hk : k1 = k + 1) (e : slot B n f k σ = .inr z) : slots B n f (d + 1) k σ v = slots B n f d k1 z.1 (iset v k z.2) := by
  rw [slots, e, hk]
theorem slot_C {B : Nat → Nat} {n f k : Nat} {σ : ZS} {z : ZS × Int32} (e : slot B n f k σ = .inr z) : (f ≠ 1 → zC z.1 = zC σ) ∧ zG z.1 = zG σ ∧ zT z.1 = zT σ := by
  unfold slot at e
  by_cases h1 : tK B n (zi σ) = 3 ∧ fsr f = 2
  · rw [if_pos h1] at e
    have := Sum.inr.inj e
    subst this
    exact ⟨fun _ => rfl, rfl, rfl⟩
  · rw [if_neg h1] at e
    by_cases h2 : tK B n (zi σ) = 2
    · rw [if_pos h2] at e
      have := Sum.inr.inj e
      subst this
      obtain ⟨_, _, _, g, t⟩ := zi_tkn f k (tV B n (zi σ)) (if bad f k (tV B n (zi σ)) = true then ft 2 (tB B n (zi σ)) σ else σ)
      refine ⟨fun hf => ?_, ?_, ?_⟩
      · refine Eq.trans (show zC (nt B n (tkn f k (tV B n (zi σ)) (if bad f k (tV B n (zi σ)) = true then ft 2 (tB B n (zi σ)) σ else σ))) = _ from tkn_C hf) ?_
        split
        · exact zC_ft _ _ _
        · rfl
      · refine Eq.trans (show zG (nt B n (tkn f k (tV B n (zi σ)) (if bad f k (tV B n (zi σ)) = true then ft 2 (tB B n (zi σ)) σ else σ))) = _ from g) ?_
        split
        · exact zG_ft _ _ _
        · rfl
      · refine Eq.trans (show zT (nt B n (tkn f k (tV B n (zi σ)) (if bad f k (tV B n (zi σ)) = true then ft 2 (tB B n (zi σ)) σ else σ))) = _ from t) ?_
        split
        · exact zT_ft _ _ _
        · rfl
    · rw [if_neg h2] at e; exact absurd e (by simp)
theorem slots_C {B : Nat → Nat} {n f : Nat} : ∀ d k (σ : ZS) (v : Nat → Int32) z, slots B n f d k σ v = .inr z → (f ≠ 1 → zC z.1 = zC σ) ∧ zG z.1 = zG σ ∧ zT z.1 = zT σ := by
  intro d
  induction d with
  | zero =>
    intro k σ v z e
    have := Sum.inr.inj e
    subst this
    exact ⟨fun _ => rfl, rfl, rfl⟩
  | succ d ih =>
    intro k σ v z e
    cases es : slot B n f k σ with
    | inl q => rw [slots_l es] at e; exact absurd e (by simp)
    | inr y =>
      rw [slots_r rfl es] at e
      obtain ⟨a1, a2, a3⟩ := ih (k + 1) y.1 _ z e
      obtain ⟨b1, b2, b3⟩ := slot_C es
      exact ⟨fun h => (a1 h).trans (b1 h), a2.trans b2, a3.trans b3⟩
theorem MY_told {h h1 : HA} {m n : Nat} {B : Nat → Nat} {C C' : CR} {G : Nat → Bool} {T : Nat → Int32} {σ : ZS} (y : MY h m n B C G T σ) (p : ch (fun a _ => a = m + 10) h h1) (hc : ∀ i, i < 121 → gi h1 (m + 10) i = C' i) : MY h1 m n B C' G T σ :=
  ⟨MXa_ch y.1 p (fun k _ => by omega) (fun k => by omega), fun z => by rw [p.gi (by omega), p.gi (by omega)]; exact y.2.1 z, hc, fun q hq => by rw [p.gi (by omega)]; exact y.2.2.2 q hq⟩
theorem MY_row {h h1 : HA} {m n : Nat} {B : Nat → Nat} {C : CR} {G : Nat → Bool} {T : Nat → Int32} {σ : ZS} (y : MY h m n B C G T σ) (p : ch (fun a _ => a = m + 11) h h1) : MY h1 m n B C G T σ :=
  ⟨MXa_ch y.1 p (fun k _ => by omega) (fun k => by omega), fun z => by rw [p.gi (by omega), p.gi (by omega)]; exact y.2.1 z, fun i hi => by rw [p.gi (by omega)]; exact y.2.2.1 i hi, fun q hq => by rw [p.gi (by omega)]; exact y.2.2.2 q hq⟩
theorem MY_tok {h : HA} {m n : Nat} {B : Nat → Nat} {C : CR} {G : Nat → Bool} {T : Nat → Int32} {σ : ZS} (y : MY h m n B C G T σ) (hi : zi σ ≤ n) : ∃ h1, X8_token h m = some h1 ∧ ch (Wty m) h h1 ∧ MY h1 m n B C G T (nt B n σ) := by
  obtain ⟨h1, e1, c1, x1⟩ := token_x y.1 hi
  exact ⟨h1, e1, c1.mo fun a k w => Wtk_y w, x1, fun z => by rw [c1.gi (by unfold Wtk; omega), c1.gi (by unfold Wtk; omega)]; exact y.2.1 z, fun i hi => by rw [c1.gi (by unfold Wtk; omega)]; exact y.2.2.1 i hi, fun q hq => by rw [c1.gi (by unfold Wtk; omega)]; exact y.2.2.2 q hq⟩
theorem fullM_n {h : HA} {m n f ci most N : Nat} {B : Nat → Nat} {C : CR} {G : Nat → Bool} {T : Nat → Int32} {σ : ZS} (y : MY h m n B C G T σ) (hP : PJ B n (fsr f) σ) (hci : ci < 121) (hN : C ci = nI N) (h1 : N ≤ most) (h2 : most < 100) (ht : tmy f (zC σ) = decide (most ≤ N)) :
    ∃ h1, X8_full h m (nI ci) (nI most) (nI (tB B n (zi σ))) = some h1 ∧ ch (Wty m) h h1 ∧ MY h1 m n B C G T (if tmy f (zC σ) = true then ft 3 (tB B n (zi σ)) σ else σ) := by
  have ms := y.1.1.1
  unfold X8_full
  rw [if_pos (ms_c ms), ms_r19 ms, Option.bind_some, ldI_n (ms_k19 ms) hci (by omega), y.2.2.1 ci hci, hN, Option.bind_some]
  by_cases e : most ≤ N
  · rw [decide_eq_true e] at ht
    obtain ⟨h3, e3, c3, x3⟩ := later_n (cd := 3) y.1 hP.1 hP.2.1
    rw [if_pos (show nI N = nI most by rw [show N = most by omega]), e3, Option.bind_some, ht, if_pos rfl]
    exact ⟨h3, rfl, c3.mo fun a k w => Or.inl ⟨w.1, by omega, by omega⟩, x3, fun z => absurd z (zf_ft (by decide)), fun i hi => by rw [c3.gi (by omega)]; exact y.2.2.1 i hi, fun q hq => by rw [c3.gi (by omega)]; exact y.2.2.2 q hq⟩
  · rw [decide_eq_false e] at ht
    rw [if_neg (show ¬ nI N = nI most from fun z => by have := nI_inj (by omega) (by omega) z; omega), ht, if_neg (by decide)]
    exact ⟨h, rfl, ch_rf _ _, y⟩
theorem keep_n {h : HA} {m ci fr wd most N : Nat} {C : CR} (ms : MS h m) (hC : ∀ i, i < 121 → gi h (m + 10) i = C i) (hci : ci < fr) (hb : fr + wd * most ≤ 121) (hN : C ci = nI N) (hNm : N ≤ most) (hm : most < 100) (hwd : wd ≤ 5) :
    ∃ h1, X8_keep h m (nI ci) (nI fr) (nI wd) (nI most) = some h1 ∧ ch (fun a _ => a = m + 10) h h1 ∧ ∀ i, i < 121 → gi h1 (m + 10) i = if N = most then C i else if i = ci then nI (N + 1) else if fr + wd * N ≤ i ∧ i < fr + wd * N + wd then gi h (m + 11) (i - (fr + wd * N)) else C i := by
  unfold X8_keep
  rw [if_pos (ms_c ms), ms_r19 ms, Option.bind_some, ldI_n (ms_k19 ms) (by omega) (by omega), hC ci (by omega), hN, Option.bind_some]
  by_cases e : N = most
  · rw [if_pos (by rw [e])]
    exact ⟨h, rfl, ch_rf _ _, fun i hi => by rw [if_pos e]; exact hC i hi⟩
  · rw [if_neg (fun z => e (nI_inj (by omega) (by omega) z))]
    have hmul : wd * (N + 1) ≤ wd * most := Nat.mul_le_mul_left _ (by omega)
    rw [Nat.mul_succ] at hmul
    obtain ⟨h2, e2, c2, g2⟩ := loop_inv (fun fu k (h : HA) => X8_keep_L19 m (nI fr) (nI wd) (nI N) fu h (nI k)) (fun k h1 => ch (fun a _ => a = m + 10) h h1 ∧ ∀ i, i < 121 → gi h1 (m + 10) i = if fr + wd * N ≤ i ∧ i < fr + wd * N + k then gi h (m + 11) (i - (fr + wd * N)) else C i) (fun h1 => ch (fun a _ => a = m + 10) h h1 ∧ ∀ i, i < 121 → gi h1 (m + 10) i = if fr + wd * N ≤ i ∧ i < fr + wd * N + wd then gi h (m + 11) (i - (fr + wd * N)) else C i) wd (by
      intro k h1 fu hk hI
      obtain ⟨i1, i2⟩ := hI
      have ms1 := i1.ms ms
      refine ⟨si h1 (m + 10) (fr + wd * N + k) (gi h (m + 11) k), ?_, i1.tr (ch_si rfl), fun i hi => ?_⟩
      · show X8_keep_L19 m (nI fr) (nI wd) (nI N) (fu + 1) h1 (nI k) = _
        rw [X8_keep_L19, if_pos (lt_lit hk (by omega)), ms_r19 ms1, Option.bind_some, ms_r20 ms1, Option.bind_some, ldI_n (ms_k20 ms1) (by omega) (by omega), i1.gi (by omega), Option.bind_some, nI_mul, nI_add, nI_add, asI_n (ms_k19 ms1) (by omega) (by omega), Option.bind_some, nI_p1]
      · rw [gi_si]
        by_cases ei : i = fr + wd * N + k
        · rw [if_pos ⟨rfl, ei⟩, if_pos (by omega), show i - (fr + wd * N) = k by omega]
        · rw [if_neg (fun z => ei z.2), i2 i hi]
          by_cases e2 : fr + wd * N ≤ i ∧ i < fr + wd * N + k
          · rw [if_pos e2, if_pos (by omega)]
          · rw [if_neg e2, if_neg (by omega)]) (by
      intro h1 fu hI
      refine ⟨h1, ?_, hI⟩
      show X8_keep_L19 m (nI fr) (nI wd) (nI N) (fu + 1) h1 (nI wd) = _
      rw [X8_keep_L19, if_neg (nlt_lit (Nat.le_refl _) (by omega))]) h FU ⟨ch_rf _ _, fun i hi => by rw [if_neg (by omega)]; exact hC i hi⟩ (FU_gt (by omega))
    have ms2 := c2.ms ms
    rw [show X8_keep_L19 m (nI fr) (nI wd) (nI N) FU h 0 = _ from e2, Option.bind_some, ms_r19 ms2, Option.bind_some, ldI_n (ms_k19 ms2) (by omega) (by omega), g2 ci (by omega), if_neg (by omega), hN, Option.bind_some, nI_p1, asI_n (ms_k19 ms2) (by omega) (by omega), Option.bind_some]
    refine ⟨_, rfl, c2.tr (ch_si rfl), fun i hi => ?_⟩
    rw [gi_si, if_neg e]
    by_cases ei : i = ci
    · rw [if_pos ⟨rfl, ei⟩, if_pos ei]
    · rw [if_neg (fun z => ei z.2), if_neg ei]; exact g2 i hi
theorem in_bd {f k g : Nat} (hg : fgr f k = g) (h1 : g < 1000) (h0 : f ≠ 0) : ∀ v, v < 100 → X8_in (nI v) 0 (nI g) = some (bI (!bad f k v)) := by
  intro v hv
  rw [in_rn (nI v) (n := g) (by omega), rg_n (by omega)]
  congr 2
  unfold bad
  rw [hg]
  by_cases e : v < g + 1
  · simp [e, h0]; omega
  · simp [e]; omega
theorem bz0 : bz 0 = some 0 := by decide +kernel
theorem bz1 : bz 1 = some 1 := by decide +kernel
/-- a line's numbers, read by the model -/
def snM (B : Nat → Nat) (n f : Nat) (σ : ZS) : ZS := nt B n (if tmy f (zC σ) = true then ft 3 (tB B n (zi σ)) σ else σ)
theorem sn_C (B : Nat → Nat) (n f : Nat) (σ : ZS) : zC (snM B n f σ) = zC σ ∧ zG (snM B n f σ) = zG σ ∧ zT (snM B n f σ) = zT σ := by
  unfold snM
  by_cases h : tmy f (zC σ) = true
  · rw [if_pos h]; exact ⟨zC_ft _ _ _, zG_ft _ _ _, zT_ft _ _ _⟩
  · rw [if_neg h]; exact ⟨rfl, rfl, rfl⟩
def MZ (h : HA) (m n : Nat) (B : Nat → Nat) (σ : ZS) : Prop := MY h m n B (zC σ) (zG σ) (zT σ) σ
def ML (h : HA) (m n : Nat) (B : Nat → Nat) (f : Nat) (σ : ZS) (R : Option (Int32 × HA)) : Prop := match lnG B n f σ with
  | .inl q => ∃ h1, R = some (0, h1) ∧ ch (Wty m) h h1 ∧ gi h1 m 16 = nI q
  | .inr τ => ∃ h1, R = some (1, h1) ∧ ch (Wty m) h h1 ∧ MZ h1 m n B τ
def kG (f : Nat) (v : Nat → Int32) (G : Nat → Bool) : Nat → Bool := if f = 5 ∧ tn (v 0) < 4 then badd G (tn (v 0)) else G
def kT (f : Nat) (v : Nat → Int32) (T : Nat → Int32) : Nat → Int32 := if f = 5 ∧ tn (v 0) < 4 then iset T (tn (v 0)) (v 1) else T
theorem ML_of {h : HA} {m n f : Nat} {B : Nat → Nat} {σ : ZS} {R : Option (Int32 × HA)} (f1 : f ≠ 1) (H : match slots B n f (fnm f) 0 (snM B n f σ) (fun _ => -1) with
      | .inl q => ∃ h1, R = some (0, h1) ∧ ch (Wty m) h h1 ∧ gi h1 m 16 = nI q
      | .inr z => ∃ h1, R = some (1, h1) ∧ ch (Wty m) h h1 ∧ MY h1 m n B (kpC f z.2 (zC σ)) (kG f z.2 (zG σ)) (kT f z.2 (zT σ)) z.1) : ML h m n B f σ R := by
  unfold ML lnG
  have e := sn_C B n f σ
  unfold snM at H e
  cases es : slots B n f (fnm f) 0 (nt B n (if tmy f (zC σ) = true then ft 3 (tB B n (zi σ)) σ else σ)) (fun _ => -1) with
  | inl q => rw [es] at H; exact H
  | inr z =>
    rw [es] at H
    dsimp only at H ⊢
    rw [if_neg f1]
    obtain ⟨h1, e1, c1, y1⟩ := H
    refine ⟨h1, e1, c1, ?_⟩
    obtain ⟨a1, a2, a3⟩ := slots_C _ _ _ _ z es
    have b1 := (a1 f1).trans e.1
    have b2 := a2.trans e.2.1
    have b3 := a3.trans e.2.2
    unfold kG kT at y1
    rw [← b1, ← b2, ← b3] at y1
    exact y1
theorem start_n {h : HA} {m n f ci most N : Nat} {B : Nat → Nat} {σ : ZS} (y : MZ h m n B σ) (hP : PJ B n (fsr f) σ) (hk : tK B n (zi σ) ≠ 0) (hci : ci < 121) (hN : zC σ ci = nI N) (h1 : N ≤ most) (h2 : most < 100) (ht : tmy f (zC σ) = decide (most ≤ N)) :
    ∃ h1 h2, X8_full h m (nI ci) (nI most) (nI (tB B n (zi σ))) = some h1 ∧ X8_token h1 m = some h2 ∧ ch (Wty m) h h2 ∧ MY h2 m n B (zC σ) (zG σ) (zT σ) (snM B n f σ) ∧ PJ B n (fsr f) (snM B n f σ) := by
  obtain ⟨p1, p2⟩ := PK_1 hP
  obtain ⟨h3, e3, c3, y3⟩ := fullM_n (f := f) y hP hci hN h1 h2 ht
  obtain ⟨h4, e4, c4, y4⟩ := MY_tok y3 (by rw [p2]; exact hP.1)
  exact ⟨h3, h4, e3, e4, c3.tr c4, y4, PK_nt p1 (by rw [p2]; exact hk)⟩
theorem start_0 {h : HA} {m n f : Nat} {B : Nat → Nat} {σ : ZS} (y : MZ h m n B σ) (hP : PJ B n (fsr f) σ) (hk : tK B n (zi σ) ≠ 0) (ht : tmy f (zC σ) = false) :
    ∃ h2, X8_token h m = some h2 ∧ ch (Wty m) h h2 ∧ MY h2 m n B (zC σ) (zG σ) (zT σ) (snM B n f σ) ∧ PJ B n (fsr f) (snM B n f σ) := by
  obtain ⟨p1, p2⟩ := PK_1 hP
  obtain ⟨h4, e4, c4, y4⟩ := MY_tok y hP.1
  have e : snM B n f σ = nt B n σ := by unfold snM; rw [ht, if_neg (by decide)]
  rw [ht, if_neg (by decide)] at p1
  rw [e]
  exact ⟨h4, e4, c4, y4, PK_nt p1 hk⟩
theorem hin_s : ∀ v, v < 100 → X8_in (nI v) 2 8 = some (bI (!bad 0 0 v)) ∧ X8_in (nI v) 2 8 = some (bI (!bad 0 1 v)) := by decide +kernel
theorem judge_n {h : HA} {m n f : Nat} {B : Nat → Nat} {C : CR} {G : Nat → Bool} {T : Nat → Int32} {ρ : ZS} (hj : f = 2 ∨ f = 3) (y : MY h m n B C G T ρ) (hP : PJ B n (fsr f) ρ) (hN6 : tn (C 2) ≤ 6) (hN : C 2 = nI (tn (C 2))) :
    match slots B n f 4 0 ρ (fun _ => -1) with
    | .inl q => ∃ h1, X8_judgeLine h m (nI (f - 2)) = some (0, h1) ∧ ch (Wty m) h h1 ∧ gi h1 m 16 = nI q
    | .inr z => ∃ h1, X8_judgeLine h m (nI (f - 2)) = some (1, h1) ∧ ch (Wty m) h h1 ∧ MY h1 m n B (kpC f z.2 C) (kG f z.2 G) (kT f z.2 T) z.1 := by
  have hf : f < 12 := by omega
  have e00 : fsr f = 0 := (fsr_4 f hf).2.mpr (by omega)
  have q0 : fgr f 0 = 63 ∧ fgr f 1 = 3 ∧ fgr f 2 = 9 ∧ fgr f 3 = 3 := by rcases hj with e | e <;> subst e <;> decide
  unfold X8_judgeLine
  rw [if_pos (ms_c y.1.1.1)]
  have t0 := takeF (j := 0) (k := 0) y hP hf (by omega) (by omega) q0.1
  cases s0 : slot B n f 0 ρ with
  | inl q =>
    rw [s0] at t0
    obtain ⟨h9, f9, c9, g9⟩ := t0
    rw [slots_l s0]
    dsimp only
    rw [show X8_takeField h m 0 = _ from f9, Option.bind_some]
    dsimp only
    rw [if_pos rfl]
    exact ⟨h9, rfl, c9, g9⟩
  | inr z0 =>
    rw [s0] at t0
    obtain ⟨a0, f9, c9, y0, ⟨r0, u0⟩, w0, P0⟩ := t0
    rw [slots_r (k1 := 1) rfl s0, show X8_takeField h m 0 = _ from f9, Option.bind_some]
    dsimp only
    have e0 : ch (Wty m) h a0 := c9
    rw [if_neg (by decide)]
    have t1 := takeN (j := 1) (k := 1) (lo := 0) (hi := 3) y0 P0 (by omega) (Or.inl (by omega)) (in_bd (g := 3) q0.2.1 (by omega) (by omega)) (by omega)
    cases s1 : slot B n f 1 z0.1 with
    | inl q =>
      rw [s1] at t1
      obtain ⟨h9, f9, c9, g9⟩ := t1
      rw [slots_l s1]
      dsimp only
      rw [show X8_take a0 m 1 0 3 = _ from f9, Option.bind_some]
      dsimp only
      rw [if_pos rfl]
      exact ⟨h9, rfl, e0.tr c9, g9⟩
    | inr z1 =>
      rw [s1] at t1
      obtain ⟨a1, f9, c9, y1, ⟨r1, u1⟩, w1, P1⟩ := t1
      rw [slots_r (k1 := 2) rfl s1, show X8_take a0 m 1 0 3 = _ from f9, Option.bind_some]
      dsimp only
      have e1 : ch (Wty m) h a1 := e0.tr c9
      rw [if_neg (by decide)]
      have msa := y1.1.1.1
      rw [ms_r20 msa, Option.bind_some, show asI a1 (m + 11) 20 2 (nI (f - 2)) = _ from asI_n (i := 2) (ms_k20 msa) (by omega) (by omega), Option.bind_some]
      have cb : ch (fun a _ => a = m + 11) a1 (si a1 (m + 11) 2 (nI (f - 2))) := ch_si rfl
      have yb := MY_row y1 cb
      have eb : ch (Wty m) h (si a1 (m + 11) 2 (nI (f - 2))) := e1.tr (cb.mo fun a k w => Or.inr (Or.inr (Or.inl w)))
      have t2 := takeN (j := 3) (k := 2) (lo := 0) (hi := 9) yb P1 (by omega) (Or.inl (by omega)) (in_bd (g := 9) q0.2.2.1 (by omega) (by omega)) (by omega)
      cases s2 : slot B n f 2 z1.1 with
      | inl q =>
        rw [s2] at t2
        obtain ⟨h9, f9, c9, g9⟩ := t2
        rw [slots_l s2]
        dsimp only
        rw [show X8_take (si a1 (m + 11) 2 (nI (f - 2))) m 3 0 9 = _ from f9, Option.bind_some]
        dsimp only
        rw [if_pos rfl]
        exact ⟨h9, rfl, eb.tr c9, g9⟩
      | inr z2 =>
        rw [s2] at t2
        obtain ⟨a2, f9, c9, y2, ⟨r2, u2⟩, w2, P2⟩ := t2
        rw [slots_r (k1 := 3) rfl s2, show X8_take (si a1 (m + 11) 2 (nI (f - 2))) m 3 0 9 = _ from f9, Option.bind_some]
        dsimp only
        have e2 : ch (Wty m) h a2 := eb.tr c9
        rw [if_neg (by decide)]
        have t3 := takeN (j := 4) (k := 3) (lo := 0) (hi := 3) y2 P2 (by omega) (Or.inl (by omega)) (in_bd (g := 3) q0.2.2.2 (by omega) (by omega)) (by omega)
        cases s3 : slot B n f 3 z2.1 with
        | inl q =>
          rw [s3] at t3
          obtain ⟨h9, f9, c9, g9⟩ := t3
          rw [slots_l s3]
          dsimp only
          rw [show X8_take a2 m 4 0 3 = _ from f9, Option.bind_some]
          dsimp only
          rw [if_pos rfl]
          exact ⟨h9, rfl, e2.tr c9, g9⟩
        | inr z3 =>
          rw [s3] at t3
          obtain ⟨a3, f9, c9, y3, ⟨r3, u3⟩, w3, P3⟩ := t3
          rw [slots_r (k1 := 4) rfl s3, show X8_take a2 m 4 0 3 = _ from f9, Option.bind_some]
          dsimp only
          have e3 : ch (Wty m) h a3 := e2.tr c9
          rw [if_neg (by decide)]
          obtain ⟨h7, f7, c7, g7⟩ := keep_n (ci := 2) (fr := 4) (wd := 5) (most := 6) y3.1.1.1 y3.2.2.1 (by omega) (by omega) hN hN6 (by omega) (by omega)
          rw [slots]
          dsimp only
          rw [show X8_keep a3 m 2 4 5 6 = _ from f7, Option.bind_some]
          refine ⟨h7, rfl, e3.tr (c7.mo fun a k w => Or.inr (Or.inl w)), ?_⟩
          have ek : ∀ v, kG f v G = G ∧ kT f v T = T := fun v => ⟨by unfold kG; rw [if_neg (by omega)], by unfold kT; rw [if_neg (by omega)]⟩
          rw [(ek _).1, (ek _).2]
          refine MY_told y3 c7 (fun i hi => ?_)
          rw [g7 i hi]
          obtain ⟨N, eN⟩ : ∃ N, N = tn (C 2) := ⟨_, rfl⟩
          have v0 : gi a3 (m + 11) 0 = z0.2 := by rw [u3 0 (by omega), u2 0 (by omega), gi_si, if_neg (by omega), u1 0 (by omega), r0]
          have v1 : gi a3 (m + 11) 1 = z1.2 := by rw [u3 1 (by omega), u2 1 (by omega), gi_si, if_neg (by omega), r1]
          have v2 : gi a3 (m + 11) 2 = nI (f - 2) := by rw [u3 2 (by omega), u2 2 (by omega), gi_si, if_pos ⟨rfl, rfl⟩]
          have v3 : gi a3 (m + 11) 3 = z2.2 := by rw [u3 3 (by omega), r2]
          have v4 : gi a3 (m + 11) 4 = z3.2 := r3
          have i0 : (iset (iset (iset (iset (fun _ => -1) 0 z0.2) 1 z1.2) 2 z2.2) 3 z3.2) 0 = z0.2 := by rw [iset_ne (by omega), iset_ne (by omega), iset_ne (by omega), iset_eq]
          have i1 : (iset (iset (iset (iset (fun _ => -1) 0 z0.2) 1 z1.2) 2 z2.2) 3 z3.2) 1 = z1.2 := by rw [iset_ne (by omega), iset_ne (by omega), iset_eq]
          have i2 : (iset (iset (iset (iset (fun _ => -1) 0 z0.2) 1 z1.2) 2 z2.2) 3 z3.2) 2 = z2.2 := by rw [iset_ne (by omega), iset_eq]
          have i3 : (iset (iset (iset (iset (fun _ => -1) 0 z0.2) 1 z1.2) 2 z2.2) 3 z3.2) 3 = z3.2 := iset_eq _ _ _
          generalize (iset (iset (iset (iset (fun _ => -1) 0 z0.2) 1 z1.2) 2 z2.2) 3 z3.2) = v at i0 i1 i2 i3 ⊢
          unfold kpC tmy
          rw [if_pos hj, ← eN]
          by_cases e6 : N = 6
          · rw [if_pos e6, decide_eq_true (show 6 ≤ N by omega), if_pos rfl]
          · rw [if_neg e6, decide_eq_false (show ¬ 6 ≤ N by omega), if_neg (show ¬ (false = true) by decide), if_neg (show ¬ f = 0 by omega), if_neg (show ¬ f = 1 by omega), if_pos hj]
            by_cases d2 : i = 2
            · rw [if_pos d2, if_pos d2]
            · rw [if_neg d2, if_neg d2]
              by_cases d4 : i = 4 + 5 * N
              · rw [if_pos (show 4 + 5 * N ≤ i ∧ i < 4 + 5 * N + 5 by omega), if_pos d4, show i - (4 + 5 * N) = 0 by omega, v0, i0]
              · rw [if_neg d4]
                by_cases d5 : i = 5 + 5 * N
                · rw [if_pos (show 4 + 5 * N ≤ i ∧ i < 4 + 5 * N + 5 by omega), if_pos d5, show i - (4 + 5 * N) = 1 by omega, v1, i1]
                · rw [if_neg d5]
                  by_cases d6 : i = 6 + 5 * N
                  · rw [if_pos (show 4 + 5 * N ≤ i ∧ i < 4 + 5 * N + 5 by omega), if_pos d6, show i - (4 + 5 * N) = 2 by omega, v2]
                  · rw [if_neg d6]
                    by_cases d7 : i = 7 + 5 * N
                    · rw [if_pos (show 4 + 5 * N ≤ i ∧ i < 4 + 5 * N + 5 by omega), if_pos d7, show i - (4 + 5 * N) = 3 by omega, v3, i2]
                    · rw [if_neg d7]
                      by_cases d8 : i = 8 + 5 * N
                      · rw [if_pos (show 4 + 5 * N ≤ i ∧ i < 4 + 5 * N + 5 by omega), if_pos d8, show i - (4 + 5 * N) = 4 by omega, v4, i3]
                      · rw [if_neg d8, if_neg (show ¬ (4 + 5 * N ≤ i ∧ i < 4 + 5 * N + 5) by omega)]
