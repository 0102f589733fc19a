/-! ROUND: the model's answer -/
def RQ (h1 : HA) (m : Nat) (C : CR) (l f : Nat) (r : Int32) : Prop := (r = -1 ∧ RT C l f = 1000) ∨ ∃ T, T ≤ 60 ∧ r = nI T ∧ RT C l f = T ∧ ∀ t, t < T → gi h1 (m + 19) t = nI (wa (nxC C l) (goC C) (256 * f) T t)
theorem full_n {C : CR} (hw : WFs C) : shlI 1 (nI (cJ C)) - 1 = nI (2 ^ cJ C - 1) := by
  have h6 := hw.2.2.1.1
  have h0 := Nat.two_pow_pos (cJ C)
  rw [shl1 _ (by omega), nI_m1 (by omega)]
theorem round57 {m c : Nat} {C : CR} (hw : WF C) {l f : Nat} (hl : l < 10) : ∀ d k (h : HA) fu A q cm dd e n, k + d = 16385 → d < fu → BQ (nxC C l) (VC C) (256 * f) A q cm dd e n (6 * k) → MQr h m A q cm dd n → HT h m c C → k ≤ n → (∀ i, i < k → goC C (q i) = false) →
    ∃ r h1, X8_findRound_L57 m (nI l) (nI (2 ^ cJ C - 1)) fu h (nI k) = some (r, h1) ∧ ch (Wrd m) h h1 ∧ RQ h1 m C l f r := by
  intro d
  induction d with
  | zero => intro k h fu A q cm dd e n hk _ bq _ _ hkn; have := BQ_n bq; omega
  | succ d ih =>
    intro k h fu A q cm dd e n hk hf bq mq ht hkn hgo
    obtain ⟨g, rfl⟩ : ∃ g, fu = g + 1 := ⟨fu - 1, by omega⟩
    have hn := BQ_n bq
    have hm := ht.1.1
    rw [X8_findRound_L57, ms_I hm, mq.1, Option.bind_some]
    by_cases hkn2 : k < n
    · obtain ⟨s, hs⟩ : ∃ s, s = q k := ⟨_, rfl⟩
      obtain ⟨hh, hhe⟩ : ∃ hh, hh = A s := ⟨_, rfl⟩
      have hb := bq.2.2.1 k hkn2
      rw [← hs, ← hhe] at hb
      obtain ⟨hs1, hh60, v1, v2, v3, v4⟩ := hb
      have v5 := op_lt v3
      have v6 := op_64 hw.1 v3
      have hgA : gi h (m + 18) s = nI hh := by rw [mq.2.1 s hs1, if_neg (by omega), hhe]
      have hd6 := hd_64 hw.1 v4
      rw [if_pos (lt_lit hkn2 (by omega)), ms_r32 hm, Option.bind_some, ldI_n (ms_k32 hm) (by omega) (by omega), mq.2.2.1 k hkn2, ← hs, Option.bind_some, ms_r35 hm, Option.bind_some, ldI_n (ms_k35 hm) (by omega) (by omega), hgA, Option.bind_some, show (256 : Int32) = nI 256 from rfl, dv_n (by omega) (by omega) (by omega), Option.bind_some, show (4 : Int32) = nI 4 from rfl, dv_n (by omega) (by omega) (by omega), Option.bind_some, show (64 : Int32) = nI 64 from rfl, rm_n (by omega) (by omega) (by omega), Option.bind_some]
      have p0 := Nat.two_pow_pos (cJ C)
      have p6 : 2 ^ cJ C ≤ 64 := by have := hd_64 hw.1 (x := 2 ^ cJ C - 1) (by omega); omega
      by_cases hg : s / 4 % 64 = 2 ^ cJ C - 1
      · rw [if_pos (by rw [hg])]
        have hgoal : goC C (q k) = true := by unfold goC; rw [← hs]; simpa using hg
        obtain ⟨f1, f2, f3, f4⟩ := BQ_found bq hkn2 hgoal hgo
        rw [← hs, ← hhe] at f1 f2 f3 f4
        have hrow := layRow_n (T := hh) hm mq (wy (nxC C l) (goC C) (256 * f) hh) (wa (nxC C l) (goC C) (256 * f) hh) hh60 (fun i hi => (bq.2.2.1 i hi).1) f4
        rw [f3] at hrow
        obtain ⟨h1, e1, c1, g1⟩ := hrow
        rw [e1, Option.bind_some]
        exact ⟨_, h1, rfl, c1.mo fun a k w => by unfold Wrd; omega, Or.inr ⟨hh, hh60, rfl, RT_some hh60 f2 f1, g1⟩⟩
      · rw [if_neg (fun z => hg (nI_inj (by omega) (by omega) z))]
        have r0 : RW h m c C l f k s hh (6 * k) n := ⟨A, q, cm, dd, e, bq, mq, ht, hkn2, hs.symm, hhe.symm, fun i hi => by
          by_cases ei : i = k
          · subst ei; unfold goC; rw [← hs]; simpa using hg
          · exact hgo i (by omega)⟩
        have fin : ∀ h2 n2, ch (Wrd m) h h2 → RW h2 m c C l f k s hh (6 * k + 6) n2 → ∃ r h1, X8_findRound_L57 m (nI l) (nI (2 ^ cJ C - 1)) g h2 (nI (k + 1)) = some (r, h1) ∧ ch (Wrd m) h h1 ∧ RQ h1 m C l f r := by
          intro h2 n2 c2 r2
          obtain ⟨A2, q2, cm2, dd2, e2, bq2, mq2, ht2, hk2, hq2, hA2, hgo2⟩ := r2
          obtain ⟨r, h4, e4, c4, r4⟩ := ih (k + 1) h2 g A2 q2 cm2 dd2 e2 n2 (by omega) (by omega) (by rw [show 6 * (k + 1) = 6 * k + 6 by omega]; exact bq2) mq2 ht2 (by omega) (fun i hi => hgo2 i (by omega))
          exact ⟨r, h4, e4, c2.tr c4, r4⟩
        by_cases h60 : hh < 60
        · obtain ⟨h1, n1, e1, c1, r1⟩ := round121 hw r0 h60
          have hs1' : HT h1 m c C := HT_rd ht c1
          rw [e1, Option.bind_some, if_pos (show nI hh < 60 from lt_lit (n := 60) h60 (by omega)), rm_n (by omega) (by omega) (by omega), Option.bind_some, earsAt_n hs1' hw.2.1 v5 (by omega) (by omega), Option.bind_some, nI_or]
          have hor := hd_64 hw.1 (Nat.or_lt_two_pow v4 (ea_lt C (s / 256) (hh % 4) l))
          rw [nI_p1, stateOf_n v6 hor (by omega), Option.bind_some]
          have n4 : nxC C l s ((6 * k + 4) % 6) = some (256 * (s / 256) + 4 * (s / 4 % 64 ||| ea C (s / 256) (hh % 4) l) + (hh + 1) % 4) := by
            rw [show (6 * k + 4) % 6 = 4 by omega]
            unfold nxC
            rw [if_neg (by omega), if_pos rfl, show s % 4 = hh % 4 from v2, show (s + 1) % 4 = (hh + 1) % 4 by omega]
          obtain ⟨h2, n2, e2, c2, r2⟩ := act_n hw.1 r1 (by omega) h60 n4
          rw [show (6 * k + 4) % 6 = 4 by omega] at e2
          rw [show X8_comeTo h1 m _ (nI s) (nI 4) (nI (hh + 1)) = _ from e2, Option.bind_some, stateOf_n v6 hd6 (by omega), Option.bind_some]
          have n5 : nxC C l s ((6 * k + 4 + 1) % 6) = some (256 * (s / 256) + 4 * (s / 4 % 64) + (hh + 1) % 4) := by
            rw [show (6 * k + 4 + 1) % 6 = 5 by omega]
            unfold nxC
            rw [if_neg (by omega), if_neg (by omega), show (s + 1) % 4 = (hh + 1) % 4 by omega]
          obtain ⟨h3, n3, e3, c3, r3⟩ := act_n hw.1 r2 (by omega) h60 n5
          rw [show (6 * k + 4 + 1) % 6 = 5 by omega] at e3
          rw [show X8_comeTo h2 m _ (nI s) 5 (nI (hh + 1)) = _ from e3, Option.bind_some, nI_p1]
          exact fin h3 n3 (c1.tr (c2.tr c3)) r3
        · have e1 : X8_findRound_L121 m (nI s) (nI hh) (nI (s / 256)) (nI (s / 4 % 64)) FU h 0 = some h := by
            show X8_findRound_L121 m (nI s) (nI hh) (nI (s / 256)) (nI (s / 4 % 64)) (19999 + 1) h 0 = some h
            rw [X8_findRound_L121, if_pos (by decide), if_neg (show ¬ nI hh < 60 from nlt_lit (n := 60) (by omega) (by omega))]
          rw [e1, Option.bind_some, if_neg (show ¬ nI hh < 60 from nlt_lit (n := 60) (by omega) (by omega)), nI_p1]
          have r1 := act_0 r0 (by omega) (fun z => absurd z h60)
          have r2 := act_0 r1 (by omega) (fun z => absurd z h60)
          have r3 := act_0 r2 (by omega) (fun z => absurd z h60)
          have r4 := act_0 r3 (by omega) (fun z => absurd z h60)
          have r5 := act_0 r4 (by omega) (fun z => absurd z h60)
          have r6 := act_0 r5 (by omega) (fun z => absurd z h60)
          exact fin h n (ch_rf _ _) r6
    · have hk2 : k = n := by omega
      rw [if_neg (nlt_lit (by omega) (by omega))]
      subst hk2
      refine ⟨-1, h, rfl, ch_rf _ _, Or.inl ⟨rfl, RT_none fun t ht2 s hs => ?_⟩⟩
      obtain ⟨i, h1, h2, _⟩ := BQ_none bq t ht2 s hs
      rw [← h2]; exact hgo i h1
theorem round12 {h : HA} {m : Nat} (hm : MS h m) : ∃ h1, X8_findRound_L12 m FU h 0 = some h1 ∧ ch (Wrd m) h h1 ∧ ∀ s, s < 16384 → gi h1 (m + 18) s = -1 := by
  refine loop_inv (fun fu k (h : HA) => X8_findRound_L12 m fu h (nI k)) (fun k h1 => ch (Wrd m) h h1 ∧ ∀ s, s < k → gi h1 (m + 18) s = -1) (fun h1 => ch (Wrd m) h h1 ∧ ∀ s, s < 16384 → gi h1 (m + 18) s = -1) 16384 (fun k h1 fu hk hI => ?_) (fun h1 fu hI => ?_) h FU ⟨ch_rf _ _, fun s hs => by omega⟩ (FU_gt (by omega))
  · have m1 := hI.1.ms hm
    have ea : aL h1 (m + 18) = some (nI 16384) := by unfold aL; rw [ms_k35 m1]; rfl
    refine ⟨si h1 (m + 18) k (-1), ?_, hI.1.tr (ch_si (Or.inr ⟨by omega, by omega⟩)), fun s hs => ?_⟩
    · show X8_findRound_L12 m (fu + 1) h1 (nI k) = _
      rw [X8_findRound_L12, ms_r35 m1, Option.bind_some, ea, Option.bind_some, if_pos (lt_lit hk (by omega)), Option.bind_some, asI_n (ms_k35 m1) (by omega) (by omega), Option.bind_some, nI_p1]
    · rw [gi_si]
      by_cases e : s = k
      · rw [if_pos ⟨rfl, e⟩]
      · rw [if_neg (by omega)]; exact hI.2 s (by omega)
  · have m1 := hI.1.ms hm
    have ea : aL h1 (m + 18) = some (nI 16384) := by unfold aL; rw [ms_k35 m1]; rfl
    refine ⟨h1, ?_, hI⟩
    show X8_findRound_L12 m (fu + 1) h1 (nI 16384) = _
    rw [X8_findRound_L12, ms_r35 m1, Option.bind_some, ea, Option.bind_some, if_neg (nlt_lit (Nat.le_refl _) (by omega))]
theorem findRound_n {h : HA} {m c : Nat} {C : CR} (hw : WF C) (ht : HT h m c C) {l f : Nat} (hl : l < 10) (hf : op C f = true) :
    ∃ r h1, X8_findRound h m (nI f) (nI l) = some (r, h1) ∧ ch (Wrd m) h h1 ∧ RQ h1 m C l f r := by
  have hm := ht.1.1
  have f6 := op_64 hw.1 hf
  unfold X8_findRound
  obtain ⟨h1, e1, c1, g1⟩ := round12 hm
  have m1 := c1.ms hm
  have c2 : ch (Wrd m) h1 (si h1 m 37 0) := ch_si (Or.inl ⟨rfl, rfl⟩)
  have m2 := c2.ms m1
  rw [if_pos (ms_c hm), ms_I hm, ht.1.2.2.2.2.2.2.2.1, Option.bind_some, e1, Option.bind_some, ms_p m1, Option.bind_some, show X8_stateOf (nI f) 0 0 = _ from stateOf_n (hd := 0) (hh := 0) f6 (by omega) (by omega), Option.bind_some, full_n hw.1]
  have mq0 : MQr (si h1 m 37 0) m (fun _ => 1000) (fun _ => 0) (fun _ => 0) (fun _ => 0) 0 := by
    refine ⟨by rw [gi_si, if_pos ⟨rfl, rfl⟩]; rfl, fun s hs => ?_, fun i hi => by omega, fun i _ hi => by omega⟩
    rw [if_pos rfl, gi_si, if_neg (by omega)]; exact g1 s hs
  obtain ⟨h3, e3, c3, mq3⟩ := comeTo_new (s := 256 * f) (p := 0) (a := 0) (v2 := -1) (v3 := -1) (hh := 0) m2 mq0 (by omega) rfl (by omega) (by omega) (fun i hi => by omega) (Or.inl rfl)
  have hv : VC C (256 * f) 0 := RE_VC (l := l) hw.1 hf 0 _ rfl
  have bq := BQ_init (nx := nxC C l) (V := VC C) hv.1 hv (fset (fun _ => 0) (256 * f) 0) (fset (fun _ => 0) (256 * f) 0) (fun _ => 0)
  have ht3 : HT h3 m c C := HT_rd ht (c1.tr (c2.tr c3))
  rw [show 256 * f + 4 * 0 + 0 % 4 = 256 * f by omega, show X8_comeTo (si h1 m 37 0) m (nI (256 * f)) (-1) (-1) 0 = _ from e3, Option.bind_some]
  obtain ⟨r, h4, e4, c4, r4⟩ := round57 hw hl 16385 0 h3 FU _ _ _ _ _ 1 (by omega) (FU_gt (by omega)) bq mq3 ht3 (by omega) (fun i hi => by omega)
  exact ⟨r, h4, e4, c1.tr (c2.tr (c3.tr c4)), r4⟩
def qround (D : DT) (x p l w : Int32) : Int32 := if (rg x (dN D 0) && rg p (cP (dC D (tn x))) && rg l 10) = true then (let C := dC D (tn x); let f := ps C (tn p); let T := RT C (tn l) f;
  if cJ C = 0 then -1 else if T = 1000 then -1 else if w = 0 then nI T else if rg (w - 10) T = true then nI (wa (nxC C (tn l)) (goC C) (256 * f) T (tn (w - 10))) else -1) else -1
theorem in10 {w : Int32} {T : Nat} (hT : T ≤ 60) : X8_in w 10 (9 + nI T) = some (bI (rg (w - 10) T)) ∧ X8_in w 10 (9 + (-1)) = some (bI false) := by
  rcases i_nat w with h1 | ⟨a, ha, rfl⟩
  · have e1 : w < 10 := by rw [Int32.lt_iff_toInt_lt] at h1 ⊢; have e0 : (0 : Int32).toInt = 0 := by decide
                           have e1 : (10 : Int32).toInt = 10 := by decide
                           omega
    have e2 : rg (w - 10) T = false := by
      cases hr : rg (w - 10) T with
      | false => rfl
      | true =>
        obtain ⟨q, hq, e⟩ := (rg_iff (by omega)).mp hr
        exfalso
        have : w = nI (q + 10) := by rw [← nI_add, ← e]; show w = w - 10 + 10; rw [Int32.sub_add_cancel]
        rw [this] at h1
        exact nI_lt0 (by omega) h1
    rw [e2]
    unfold X8_in
    rw [if_pos e1, if_pos e1]
    exact ⟨rfl, rfl⟩
  · unfold X8_in
    rw [show (10 : Int32) = nI 10 from rfl, show (9 : Int32) = nI 9 from rfl, nI_add, show nI 9 + -1 = nI 8 by rfl]
    by_cases h1 : a < 10
    · have e2 : rg (nI a - nI 10) T = false := by
        cases hr : rg (nI a - nI 10) T with
        | false => rfl
        | true =>
          obtain ⟨q, hq, e⟩ := (rg_iff (by omega)).mp hr
          exfalso
          have : nI a = nI (q + 10) := by rw [← nI_add, ← e, Int32.sub_add_cancel]
          have := nI_inj ha (by omega) this
          omega
      rw [if_pos (lt_lit h1 (by omega)), if_pos (lt_lit h1 (by omega)), e2]
      exact ⟨rfl, rfl⟩
    · rw [if_neg (nlt_lit (by omega) ha), if_neg (nlt_lit (by omega) ha), nI_sub (by omega), rg_n (by omega)]
      refine ⟨?_, by rw [if_pos (lt_lit (by omega) ha)]; rfl⟩
      by_cases h2 : 9 + T < a
      · rw [if_pos (lt_lit h2 ha), show decide (a - 10 < T) = false by simp; omega]; rfl
      · rw [if_neg (nlt_lit (by omega) (by omega)), show decide (a - 10 < T) = true by simp; omega]; rfl
theorem m_round {h : HA} {b : Nat} {D : DT} {α : Nat → Nat} {lm : Nat → Nat → Nat} {im : Nat → Option (Nat × DT)} (hi : IV h b D α lm im) (x p l w : Int32) : AC b D α lm im (X8_round h (b + 55) x p l w) (qround D x p l w) := by
  unfold X8_round qround
  rw [if_pos (ms_c (iv_ms hi)), ms_p (iv_ms hi), Option.bind_some, in9, Option.bind_some]
  have hi0 := IV_m0 hi 0 0
  cases hl : rg l 10 with
  | false => exact ⟨_, by simp only [bi_f, if_true, Bool.and_false]; rfl, hi0⟩
  | true =>
    simp only [bi_t, if_false, Bool.and_true]
    obtain ⟨s, hs2, rfl⟩ := (rg_iff (by omega)).mp hl
    rcases hand_ok hi0 x with ⟨h1, h2⟩ | ⟨a, h1, ha, rfl, hr, e1, i1, t1⟩
    · rw [h2, h1, Option.bind_some]
      exact ⟨_, by simp only [if_true]; rfl, hi0⟩
    · have hw := (iv_w hi).2.2.1 a ha
      have h6 := hw.1.2.2.1.1
      have h6p := hw.1.2.2.2.1.1
      rw [e1, hr, tnD (iv_w hi) ha, Option.bind_some]
      simp only [if_neg (show ¬ (1 : Int32) = 0 by decide), isPleader_n t1.1, Option.bind_some, Bool.true_and]
      cases hp1 : rg p (cP (dC D a)) with
      | false => exact ⟨h1, rfl, i1⟩
      | true =>
        obtain ⟨r, hr2, rfl⟩ := (rg_iff (by omega)).mp hp1
        have hp := hw.2.2 r hr2
        simp only [bi_t, if_false, if_true]
        rw [ms_I t1.1.1, t1.1.2.2.2.2.2.2.2.1, Option.bind_some]
        by_cases h0 : cJ (dC D a) = 0
        · rw [if_pos (by rw [h0]; rfl), if_pos h0]; exact ⟨h1, rfl, i1⟩
        · rw [if_neg (show ¬ nI _ = 0 from fun z => h0 (nI_inj (b := 0) (by omega) (by omega) z)), if_neg h0, show (34 : Int32) + 2 * nI r = nI (34 + 2 * r) by rw [show (34 : Int32) = nI 34 from rfl, show (2 : Int32) = nI 2 from rfl, nI_mul, nI_add], of_n t1.1 (by omega), Option.bind_some, hp.1, tn_nI (show s < 2 ^ 31 by omega), tn_nI (show r < 2 ^ 31 by omega)]
          obtain ⟨v, h3, e3, c3, r3⟩ := findRound_n hw t1 hs2 hp.2.1
          have i3 := IV_ch i1 c3 (fun x k w => Sc_m (by unfold Wrd at w; omega))
          rw [e3, Option.bind_some]
          dsimp only
          rcases r3 with ⟨rfl, r4⟩ | ⟨T, hT, rfl, r4, r5⟩
          · rw [r4, if_pos rfl]
            by_cases hw0 : w = 0
            · rw [if_pos hw0]; exact ⟨h3, rfl, i3⟩
            · rw [if_neg hw0, (in10 (T := 0) (by omega)).2, Option.bind_some, if_pos (by decide)]; exact ⟨h3, rfl, i3⟩
          · rw [r4, if_neg (show ¬ T = 1000 by omega)]
            by_cases hw0 : w = 0
            · rw [if_pos hw0, if_pos hw0]; exact ⟨h3, rfl, i3⟩
            · rw [if_neg hw0, if_neg hw0, (in10 hT).1, Option.bind_some]
              cases hr5 : rg (w - 10) T with
              | false => rw [if_pos (by decide), if_neg (by decide)]; exact ⟨h3, rfl, i3⟩
              | true =>
                obtain ⟨t, ht, et⟩ := (rg_iff (by omega)).mp hr5
                rw [if_neg (by decide), if_pos rfl, ms_r36 (iv_ms i3), Option.bind_some, et, ldI_n (ms_k36 (iv_ms i3)) (by omega) (by omega), r5 t ht, Option.bind_some, tn_nI (show t < 2 ^ 31 by omega)]
                exact ⟨h3, rfl, i3⟩
