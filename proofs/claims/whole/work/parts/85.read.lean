/-! TEXT: the class reads a line -/
theorem Wln_r {r nr c l s k : Nat} (h : k ≠ 5) : Wln r nr c l s r k := Or.inl ⟨rfl, h⟩
theorem Wad_ln {r nr c l s a k : Nat} (w : Wad r a k) : Wln r nr c l s a k := Or.inl ⟨w.1, by have := w.2; omega⟩
theorem slots_num {B : Nat → Nat} {n f : Nat} (h2 : fsr f ≠ 2) : ∀ d k (σ : ZS) (v : Nat → Int32) z, zi σ ≤ n → slots B n f d k σ v = .inr z → (∀ i, i < k → z.2 i = v i) ∧ ∀ i, k ≤ i → i < k + d → ∃ x, x < 100 ∧ z.2 i = nI x := by
  intro d
  induction d with
  | zero =>
    intro k σ v z hi e
    have := Sum.inr.inj e
    subst this
    exact ⟨fun _ _ => rfl, fun i h1 h2 => by omega⟩
  | succ d ih =>
    intro k σ v z hi e
    rw [slots] at e
    unfold slot at e
    rw [if_neg (fun z => h2 z.2)] at e
    by_cases hk : tK B n (zi σ) = 2
    · rw [if_pos hk] at e
      dsimp only at e
      have hv := tV_lt hi hk
      have hzi : zi (nt B n (tkn f k (tV B n (zi σ)) (if bad f k (tV B n (zi σ)) = true then ft 2 (tB B n (zi σ)) σ else σ))) ≤ n := by
        show tR B n (zi (tkn _ _ _ _)) ≤ n
        rw [(zi_tkn _ _ _ _).1]
        have : zi (if bad f k (tV B n (zi σ)) = true then ft 2 (tB B n (zi σ)) σ else σ) = zi σ := by split; exact zi_ft _ _ _; rfl
        rw [this]
        exact (tR_le hi).2.1
      obtain ⟨j1, j2⟩ := ih (k + 1) _ _ z hzi e
      refine ⟨fun i hi2 => by rw [j1 i (by omega), iset_ne (by omega)], fun i h3 h4 => ?_⟩
      by_cases ei : i = k
      · subst ei
        exact ⟨_, hv, by rw [j1 i (by omega), iset_eq]⟩
      · exact j2 i (by omega) (by omega)
    · rw [if_neg hk] at e
      exact absurd e (by simp)
theorem zi_kp (f : Nat) (v : Nat → Int32) (σ : ZS) : zi (kp f v σ) = zi σ ∧ zf (kp f v σ) = zf σ ∧ zp (kp f v σ) = zp σ ∧ zF (kp f v σ) = zF σ := ⟨rfl, rfl, rfl, rfl⟩
theorem fsr_4 : ∀ f, f < 12 → fsr f < 4 ∧ (fsr f = 0 ↔ f < 6) := by decide +kernel
theorem PK_kp {B : Nat → Nat} {n f : Nat} {v : Nat → Int32} {σ : ZS} (hf : f < 12) (h : PK B n (fsr f) σ) : PK B n (fsr f) (kp f v σ) := by
  obtain ⟨h1, h2, h3, h4, h5⟩ := h
  refine ⟨h1, h2, h3, fun z => ?_, fun z => ?_⟩
  · obtain ⟨q1, q2, q3, q4⟩ := h4 z
    have f6 := (fsr_4 f hf).2.mp z
    show kpC f v (zC σ) 2 = nI (tn (kpC f v (zC σ) 2)) ∧ tn (kpC f v (zC σ) 2) ≤ 6 ∧ kpC f v (zC σ) 3 = nI (tn (kpC f v (zC σ) 3)) ∧ tn (kpC f v (zC σ) 3) ≤ 4
    unfold kpC
    cases ht : tmy f (zC σ) with
    | true => rw [if_pos rfl]; exact ⟨q1, q2, q3, q4⟩
    | false =>
      rw [if_neg (by decide)]
      unfold tmy at ht
      by_cases f0 : f = 0
      · rw [if_pos f0, iset_ne (by omega), iset_ne (by omega), iset_ne (by omega), iset_ne (by omega)]; exact ⟨q1, q2, q3, q4⟩
      · rw [if_neg f0]
        by_cases f1 : f = 1
        · rw [if_pos f1]; exact ⟨q1, q2, q3, q4⟩
        · rw [if_neg f1]
          by_cases f2 : f = 2 ∨ f = 3
          · rw [if_pos f2] at ht ⊢
            have h6 : tn (zC σ 2) < 6 := by simpa using ht
            simp only [if_true]
            rw [if_neg (show ¬ 3 = 2 by omega), if_neg (by omega), if_neg (by omega), if_neg (by omega), if_neg (by omega), if_neg (by omega), tn_nI (by omega)]
            exact ⟨rfl, by omega, q3, q4⟩
          · rw [if_neg f2] at ht ⊢
            by_cases f4 : f = 4
            · rw [if_pos f4] at ht ⊢
              have h4 : tn (zC σ 3) < 4 := by simpa using ht
              simp only [if_true]
              rw [if_neg (show ¬ 2 = 3 by omega), if_neg (by omega), tn_nI (by omega)]
              exact ⟨q1, q2, rfl, by omega⟩
            · rw [if_neg f4, if_pos (by omega)]; exact ⟨q1, q2, q3, q4⟩
  · obtain ⟨q1, q2⟩ := h5 z
    have f6 : ¬ f < 6 := fun y => by have := (fsr_4 f hf).2.mpr y; omega
    show kpC f v (zC σ) 0 = nI (tn (kpC f v (zC σ) 0)) ∧ tn (kpC f v (zC σ) 0) ≤ lmx (fsr f)
    unfold kpC
    cases ht : tmy f (zC σ) with
    | true => rw [if_pos rfl]; exact ⟨q1, q2⟩
    | false =>
      rw [if_neg (by decide), if_neg (by omega), if_neg (by omega), if_neg (by omega), if_neg (by omega), if_neg (by omega), if_pos rfl]
      unfold tmy at ht
      rw [if_neg (by omega), if_neg (by omega), if_neg (by omega)] at ht
      have h6 : tn (zC σ 0) < lmx (fsr f) := by simpa using ht
      have : lmx (fsr f) ≤ 30 := by unfold lmx; repeat' split
                                    all_goals omega
      rw [tn_nI (by omega)]
      exact ⟨rfl, by omega⟩
theorem Wrn_l {f r nr c l a k : Nat} (hf : f < 12) (x : fsr f = 0 ∨ ¬ fsr f = 0) (w : Wrn r nr c a k) (hc : fsr f = 0 ∨ ¬ (a = c ∧ k = 2)) : Wln r nr c l (fsr f) a k := by
  rcases w with w | w | w
  · exact Or.inl w
  · exact Or.inr (Or.inl w)
  · rcases hc with h | h
    · exact Or.inr (Or.inr (Or.inl ⟨h, by omega, by omega⟩))
    · exact absurd w h
theorem kp_1 (v w : Nat → Int32) (ρ : ZS) : kp 1 v ρ = kp 1 w ρ := by
  have e : ∀ v : Nat → Int32, kp 1 v ρ = (zi ρ, ρ.2.1, zF ρ, zG ρ, zC ρ, zT ρ) := by
    intro v
    unfold kp kpC
    rw [if_neg (show ¬ (1 = 5 ∧ tn (v 0) < 4) by omega), if_neg (show ¬ (1 = 5 ∧ tn (v 0) < 4) by omega), if_neg (show ¬ 1 = 0 by omega), if_pos (show 1 = 1 from rfl)]
    cases tmy 1 (zC ρ)
    · rw [if_neg (by decide)]
    · rw [if_pos rfl]
  rw [e v, e w]
/-- where reading a line changes things -/
def Wrl (r nr c l s : Nat) : Nat → Nat → Prop := fun a k => Wln r nr c l s a k ∨ (a = c ∧ k = 2)
theorem Wrn_rl {r nr c l s a k : Nat} (w : Wrn r nr c a k) : Wrl r nr c l s a k := by
  rcases w with w | w | w
  · exact Or.inl (Or.inl w)
  · exact Or.inl (Or.inr (Or.inl w))
  · exact Or.inr w
def lnS (s : Nat) (B : Nat → Nat) (n : Nat) (σ : ZS) : Nat ⊕ ZS := if fmO s B n (zi σ) = 1000 then .inl (tB B n (zi σ)) else lnF B n (fmO s B n (zi σ)) σ
theorem readLine_c {h : HA} {r tp nr ls c l n s : Nat} {B : Nat → Nat} {σ : ZS} (hs : s < 4) (x : RX h r tp nr ls c l n B s σ) (hP : PJ B n s σ) :
    match lnS s B n σ with
    | .inl q => ∃ h1, X3_readLine h r (nI s) = some (0, h1) ∧ ch (Wrl r nr c l s) h h1 ∧ gi h1 r 8 = nI q
    | .inr τ => ∃ h1, X3_readLine h r (nI s) = some (1, h1) ∧ ch (Wrl r nr c l s) h h1 ∧ RX h1 r tp nr ls c l n B s τ ∧ PJ B n s τ ∧ zi σ < zi τ := by
  have rt := x.1.1
  have hi := hP.1
  have hn := rt.2.2.2.2.1
  have e0 : X3_formHere h r (nI s) = some (if fmO s B n (zi σ) = 1000 then -1 else nI (fmO s B n (zi σ))) := formHere_c rt x.1.2 hi hs
  unfold lnS X3_readLine
  rw [if_pos (rt_t rt), e0, Option.bind_some]
  rcases fmO_c s B n (zi σ) with e1 | ⟨hf, hfs, hw, hk1⟩
  · rw [e1, if_pos rfl, if_pos rfl, if_pos rfl]
    exact ⟨h, rfl, ch_rf _ _, x.1.2.2.2.1⟩
  · have hne : ¬ fmO s B n (zi σ) = 1000 := by omega
    rw [if_neg hne, if_neg hne]
    obtain ⟨f, ef⟩ : ∃ f, f = fmO s B n (zi σ) := ⟨_, rfl⟩
    rw [← ef] at hf hfs hw ⊢
    subst hfs
    rw [if_neg (show ¬ nI f = -1 from nI_nm1 (by omega)), many_c x (PJ_PK hP) hf, Option.bind_some]
    -- the fault noted
    obtain ⟨σ1, es1⟩ : ∃ σ1, σ1 = if tmy f (zC σ) = true then ft 3 (tB B n (zi σ)) σ else σ := ⟨_, rfl⟩
    have z1 : zi σ1 = zi σ := by rw [es1]; split; exact zi_ft _ _ _; rfl
    have P1 : PK B n (fsr f) σ1 := by
      rw [es1]; split
      · exact PJ_ft (Or.inr rfl) hP
      · exact PJ_PK hP
    have nte : ∃ h1, (show Option HA from if bI (tmy f (zC σ)) = 0 then some h else (gI h r 4 8).bind fun x8 => (X3_note h r 3 x8).bind fun h10 => some h10) = some h1 ∧ ch (Wrl r nr c l (fsr f)) h h1 ∧ RX h1 r tp nr ls c l n B (fsr f) σ1 := by
      show ∃ h1, (if bI (tmy f (zC σ)) = 0 then some h else (gI h r 4 8).bind fun x8 => (X3_note h r 3 x8).bind fun h10 => some h10) = some h1 ∧ _
      cases ht : tmy f (zC σ) with
      | false =>
        rw [if_pos (by decide)]
        refine ⟨h, rfl, ch_rf _ _, ?_⟩
        rw [es1, ht, if_neg (by decide)]; exact x
      | true =>
        rw [if_neg (by decide), rt_I rt, x.1.2.2.2.1, Option.bind_some]
        obtain ⟨h1, e2, c1, x1⟩ := rx_note (cd := 3) (q := tB B n (zi σ)) x
        rw [e2, Option.bind_some]
        refine ⟨h1, rfl, c1.mo fun a k w => Or.inl (Or.inl ⟨w.1, by omega⟩), ?_⟩
        rw [es1, ht, if_pos rfl]; exact x1
    obtain ⟨h1, f1, c1, x1⟩ := nte
    dsimp only at f1 ⊢
    rw [f1, Option.bind_some]
    obtain ⟨h2, f2, c2, x2⟩ := rx_adv x1 (by rw [z1]; exact hi)
    rw [f2, Option.bind_some, gR_n x2.1.1.1, x2.2.2.1.1.1, Option.bind_some]
    obtain ⟨h3, f3, c3, g3⟩ := fill4 x2.2.2.1.1.2
    rw [f3, Option.bind_some]
    have x3 := rx_ch x2 c3 (fun a k w => w)
    have P3 : PJ B n (fsr f) (nt B n σ1) := PK_nt P1 (by rw [z1, hk1]; omega)
    have c13 : ch (Wrl r nr c l (fsr f)) h h3 := (c1.tr (c2.mo fun a k w => Or.inl (Wad_ln w))).tr (c3.mo fun a k w => Or.inl (Or.inr (Or.inl w)))
    have zlt : zi σ < zi (nt B n σ1) := by
      show zi σ < tR B n (zi σ1)
      rw [z1]; exact (tRR hi (by omega)).2
    have hsl := slots_c (l := l) hf (fnm f) 0 h3 (nt B n σ1) (fun _ => -1) FU (by omega) (FU_gt (by have := (fnm_4 f hf).1; omega)) x3 P3 g3 (fun _ _ => rfl) (fun _ => Or.inl rfl)
    unfold lnF
    rw [← es1]
    cases es : slots B n f (fnm f) 0 (nt B n σ1) (fun _ => -1) with
    | inl q =>
      rw [es] at hsl
      obtain ⟨h4, f4, c4, g4⟩ := hsl
      dsimp only
      rw [show X3_readLine_L44 r (nI f) FU h3 0 = _ from f4]
      exact ⟨h4, rfl, c13.tr (c4.mo fun a k w => Wrn_rl w), g4⟩
    | inr z =>
      rw [es] at hsl
      obtain ⟨h4, f4, c4, x4, P4, g4, v4, z4⟩ := hsl
      dsimp only
      rw [show X3_readLine_L44 r (nI f) FU h3 0 = _ from f4, Option.bind_some]
      dsimp only
      have c14 : ch (Wrl r nr c l (fsr f)) h h4 := c13.tr (c4.mo fun a k w => Wrn_rl w)
      obtain ⟨τ, eτ⟩ : ∃ τ, τ = if f = 1 then wlp B n (n - zi z.1) z.1 else z.1 := ⟨_, rfl⟩
      rw [← eτ]
      have wls : ∃ h5 v, X3_readLine_L72 r (nI f) FU h4 0 = some h5 ∧ ch (Wrl r nr c l (fsr f)) h h5 ∧ RX h5 r tp nr ls c l n B (fsr f) τ ∧ PJ B n (fsr f) τ ∧ zi z.1 ≤ zi τ ∧ (∀ i, i < 4 → gi h5 nr i = v i) ∧ (∀ ρ, kp f v ρ = kp f z.2 ρ) ∧ (f = 5 → ∃ w, w < 100 ∧ v 0 = nI w) := by
        by_cases hf1 : f = 1
        · subst hf1
          obtain ⟨h5, f5, c5, x5, P5, z5⟩ := wallz_c (l := l) (n - zi z.1) 0 h4 z.1 FU (Nat.le_refl _) (by omega) (FU_gt (by omega)) x4 P4
          rw [if_pos rfl] at eτ
          rw [← eτ] at x5 P5 z5
          exact ⟨h5, fun i => gi h5 nr i, f5, c14.tr (c5.mo fun a k w => Wrn_rl w), x5, P5, z5, fun _ _ => rfl, fun ρ => kp_1 _ _ ρ, fun z => by omega⟩
        · rw [if_neg hf1] at eτ
          subst eτ
          refine ⟨h4, z.2, ?_, c14, x4, P4, Nat.le_refl _, g4, fun _ => rfl, fun z5 => ?_⟩
          · have fp : 0 < FU := FU_gt (by omega)
            obtain ⟨g, hg⟩ : ∃ g, FU = g + 1 := ⟨FU - 1, by omega⟩
            rw [hg, X3_readLine_L72, rt_I x4.1.1, Option.bind_some, if_neg (show ¬ nI f = 1 from fne hf (j := 1) (by omega) hf1)]
            split <;> rfl
          · subst z5
            exact (slots_num (by decide) (fnm 5) 0 (nt B n σ1) _ z P3.1 es).2 0 (Nat.le_refl _) (by decide)
      obtain ⟨h5, v, f5, c5, x5, P5, z5, g5, k5, w5⟩ := wls
      rw [f5, Option.bind_some, rt_I x5.1.1, x5.1.2.2.1, Option.bind_some]
      have hk5 : tK B n (zi τ) < 6 := by unfold tK; repeat' split
                                         all_goals omega
      by_cases h4' : tK B n (zi τ) = 4
      · rw [if_pos h4', if_pos (show nI (tK B n (zi τ)) = 4 by rw [h4']; rfl)]
        obtain ⟨h6, f6, c6, x6⟩ := rx_adv x5 P5.1
        have P6 := PK_nt (PJ_PK P5) (by omega)
        have n6 : ∀ i, i < 4 → gi h6 nr i = v i := fun i hi => by
          rw [c6.gi (fun w => x5.2.2.2.2.2.2.2.1 w.1)]; exact g5 i hi
        obtain ⟨h7, f7, c7, x7⟩ := keepLine_c hf x6 (PJ_PK P6) n6 w5
        rw [f6, Option.bind_some, f7, Option.bind_some]
        refine ⟨h7, rfl, (c5.tr (c6.mo fun a k w => Or.inl (Wad_ln w))).tr (c7.mo fun a k w => Or.inl w), ?_, ?_, ?_⟩
        · rw [kp_nt, ← k5]; exact x7
        · exact PK_nt (PK_kp hf (PJ_PK P5)) (by rw [(zi_kp _ _ _).1]; omega)
        · show zi σ < tR B n (zi (kp f z.2 τ))
          rw [(zi_kp _ _ _).1]
          have := (tRR P5.1 (show tK B n (zi τ) ≠ 0 by omega)).2
          omega
      · rw [if_neg h4', if_neg (show ¬ nI (tK B n (zi τ)) = 4 from fun z => h4' (nI_inj (b := 4) (by omega) (by omega) z))]
        exact ⟨h5, rfl, c5, x5.1.2.2.2.1⟩
theorem lnsF_S {B : Nat → Nat} {n s d : Nat} {σ : ZS} (hk : ¬ tK B n (zi σ) = 0) : lnsF B n s (d + 1) σ = match lnS s B n σ with
  | .inl q => .inl q
  | .inr τ => lnsF B n s d τ := by
  rw [lnsF, if_neg hk]
  unfold lnS
  by_cases e : fmO s B n (zi σ) = 1000
  · rw [if_pos e, if_pos e]
  · rw [if_neg e, if_neg e]
    all_goals (cases lnF B n (fmO s B n (zi σ)) σ <;> rfl)
/-- all lines -/
theorem lines_c {r tp nr ls c l n s : Nat} {B : Nat → Nat} (hs : s < 4) : ∀ d (σ : ZS) j (h : HA) fu, n - zi σ < d → j ≤ zi σ → d < fu → RX h r tp nr ls c l n B s σ → PJ B n s σ →
    match lnsF B n s d σ with
    | .inl q => ∃ h1, X3_read_L47 r (nI s) fu h (nI j) = some (.inl h1) ∧ ch (Wrl r nr c l s) h h1 ∧ gi h1 r 2 = 1 ∧ gi h1 r 3 = nI q
    | .inr τ => ∃ h1, X3_read_L47 r (nI s) fu h (nI j) = some (.inr h1) ∧ ch (Wrl r nr c l s) h h1 ∧ RX h1 r tp nr ls c l n B s τ ∧ PJ B n s τ ∧ tK B n (zi τ) = 0 := by
  intro d
  induction d with
  | zero => intro σ j h fu h1; omega
  | succ d ih =>
    intro σ j h fu h1 h2 h3 x hP
    obtain ⟨g, rfl⟩ : ∃ g, fu = g + 1 := ⟨fu - 1, by omega⟩
    have rt := x.1.1
    have hn := rt.2.2.2.2.1
    have hi := hP.1
    have hk5 : tK B n (zi σ) < 6 := by unfold tK; repeat' split
                                       all_goals omega
    rw [X3_read_L47, rt_I rt, rt.2.2.2.1, Option.bind_some, if_neg (nlt_lit (by omega) (by omega)), rt_I rt, x.1.2.2.1, Option.bind_some]
    by_cases hk : tK B n (zi σ) = 0
    · rw [lnsF, if_pos hk, if_pos (show nI (tK B n (zi σ)) = 0 by rw [hk]; rfl)]
      exact ⟨h, rfl, ch_rf _ _, x, hP, hk⟩
    · rw [lnsF_S hk, if_neg (show ¬ nI (tK B n (zi σ)) = 0 from fun z => hk (nI_inj (b := 0) (by omega) (by omega) z))]
      have hl := readLine_c hs x hP
      cases eS : lnS s B n σ with
      | inl q =>
        rw [eS] at hl
        obtain ⟨h4, e4, c4, g4⟩ := hl
        dsimp only
        rw [e4, Option.bind_some]
        dsimp only
        have k4 : kd h4 r = (4, 0) := by rw [c4.2.1]; exact rt.1
        have k5 : kd (si h4 r 2 1) r = (4, 0) := k4
        rw [if_pos rfl, pI_n k4, Option.bind_some, gI_n k5, gi_si, if_neg (by omega), g4, Option.bind_some, pI_n k5]
        refine ⟨_, rfl, (c4.tr (ch_si (Or.inl (Wln_r (by omega))))).tr (ch_si (Or.inl (Wln_r (by omega)))), ?_, ?_⟩
        · rw [gi_si, if_neg (by omega), gi_si, if_pos ⟨rfl, rfl⟩]
        · rw [gi_si, if_pos ⟨rfl, rfl⟩]
      | inr τ =>
        rw [eS] at hl
        obtain ⟨h4, e4, c4, x4, P4, z4⟩ := hl
        dsimp only
        have p41 := P4.1
        have hih := ih τ (j + 1) h4 g (by omega) (by omega) (by omega) x4 P4
        rw [e4, Option.bind_some]
        dsimp only
        rw [if_neg (by decide), nI_p1]
        cases eL : lnsF B n s d τ with
        | inl q =>
          rw [eL] at hih
          obtain ⟨h5, e5, c5, g5⟩ := hih
          exact ⟨h5, e5, c4.tr c5, g5⟩
        | inr ρ =>
          rw [eL] at hih
          obtain ⟨h5, e5, c5, x5⟩ := hih
          exact ⟨h5, e5, c4.tr c5, x5⟩
