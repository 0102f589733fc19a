/-! LIPS -/
/-- the FIELDS straight on -/
def wk (C : CR) (seat s : Nat) : Nat → Option Nat
  | 0 => stp C seat s
  | i + 1 => (wk C seat s i).bind (fun g => stp C g s)
def rbn (C : CR) (seat s f : Nat) : Nat → Bool
  | 0 => false
  | i + 1 => rbn C seat s f i || decide (wk C seat s i = some f)
theorem wk_op {C : CR} {seat s : Nat} : ∀ {i g : Nat}, wk C seat s i = some g → op C g = true := by
  intro i
  cases i with
  | zero => intro g h; exact stp_op h
  | succ i =>
    intro g h
    rw [wk] at h
    cases h1 : wk C seat s i with
    | none => rw [h1] at h; simp at h
    | some g1 => rw [h1] at h; exact stp_op h
theorem bsd_mv {C : CR} (hw : WFs C) {f s g : Nat} (h : bsd C f s = some g) : if s = 1 ∨ s = 2 then f + 1 ≤ g else g + 1 ≤ f := by
  have hW := hw.1
  unfold bsd at h
  by_cases h0 : s = 0
  · rw [if_pos h0] at h
    rw [if_neg (by omega)]
    split at h
    · simp at h; omega
    · simp at h
  · rw [if_neg h0] at h
    by_cases h1 : s = 1
    · rw [if_pos h1] at h
      rw [if_pos (by omega)]
      split at h
      · simp at h; omega
      · simp at h
    · rw [if_neg h1] at h
      by_cases h2 : s = 2
      · rw [if_pos h2] at h
        rw [if_pos (by omega)]
        split at h
        · simp at h; omega
        · simp at h
      · rw [if_neg h2] at h
        rw [if_neg (by omega)]
        split at h
        · rename_i h3
          have : 0 < f := by
            rcases Nat.eq_zero_or_pos f with z | z
            · subst z; simp at h3
            · exact z
          simp at h; omega
        · simp at h
theorem wk_mv {C : CR} (hw : WFs C) {seat s : Nat} : ∀ {i g : Nat}, wk C seat s i = some g → if s = 1 ∨ s = 2 then seat + i + 1 ≤ g else g + i + 1 ≤ seat := by
  intro i
  induction i with
  | zero =>
    intro g h
    have := bsd_mv hw (stp_some.mp h).1
    split
    · rename_i hs; rw [if_pos hs] at this; omega
    · rename_i hs; rw [if_neg hs] at this; omega
  | succ i ih =>
    intro g h
    rw [wk] at h
    cases h1 : wk C seat s i with
    | none => rw [h1] at h; simp at h
    | some g1 =>
      rw [h1] at h
      have h2 := bsd_mv hw (stp_some.mp h).1
      have h3 := ih h1
      split
      · rename_i hs; rw [if_pos hs] at h2 h3; omega
      · rename_i hs; rw [if_neg hs] at h2 h3; omega
theorem wk_lt {C : CR} (hw : WFs C) {seat s : Nat} (hse : seat < 64) {i g : Nat} (h : wk C seat s i = some g) : i < 64 := by
  have h1 := wk_mv hw h
  have h2 := op_lt (wk_op h)
  have hF := cF_le hw
  split at h1 <;> omega
theorem rbn_end {C : CR} {seat s f i : Nat} (h : wk C seat s i = none) : ∀ n, i ≤ n → rbn C seat s f n = rbn C seat s f i := by
  have hn : ∀ n, i ≤ n → wk C seat s n = none := by
    intro n
    induction n with
    | zero => intro h1; have : i = 0 := by omega
              subst this; exact h
    | succ n ih =>
      intro h1
      by_cases e : i = n + 1
      · subst e; exact h
      · rw [wk, ih (by omega)]; rfl
  intro n
  induction n with
  | zero => intro h1; have : i = 0 := by omega
            subst this; rfl
  | succ n ih =>
    intro h1
    by_cases e : i = n + 1
    · subst e; rfl
    · rw [rbn, hn n (by omega), ih (by omega)]; simp
/-- seen straight ahead -/
def rb (C : CR) (seat s f : Nat) : Bool := rbn C seat s f 64
theorem ray_c {h : HA} {c seat s : Nat} {C : CR} (hs : CC h c C) (hse : op C seat = true) (h4 : s < 4) : ∃ X, X0_ray h c (nI seat) (nI s) = some X ∧ ∀ f, f < 64 → tb X f = rb C seat s f := by
  have hw := hs.2.1.1
  have hF := cF_le hw
  have hsF := op_lt hse
  have key : ∀ n i fu (S : Int64), i + n = 64 → n < fu → (∀ f, f < 64 → tb S f = rbn C seat s f i) → ∃ X, X0_ray_L13 h c (nI s) fu S (on (wk C seat s i)) (nI i) = some X ∧ ∀ f, f < 64 → tb X f = rb C seat s f := by
    intro n
    induction n with
    | zero =>
      intro i fu S hi hfu hS
      obtain ⟨fu, rfl⟩ : ∃ q, fu = q + 1 := ⟨fu - 1, by omega⟩
      have : i = 64 := by omega
      subst this
      exact ⟨S, by rw [X0_ray_L13, if_neg (by decide)], hS⟩
    | succ n ih =>
      intro i fu S hi hfu hS
      obtain ⟨fu, rfl⟩ : ∃ q, fu = q + 1 := ⟨fu - 1, by omega⟩
      rw [X0_ray_L13, if_pos (show nI i < 64 from lt_lit (n := 64) (by omega) (by omega))]
      cases hg : wk C seat s i with
      | none =>
        rw [on_n, if_pos rfl]
        exact ⟨S, rfl, fun f hf => by rw [hS f hf]; exact (rbn_end hg 64 (by omega)).symm⟩
      | some g =>
        have hgo := wk_op hg
        have hgF := op_lt hgo
        rw [on_s, if_neg (nI_nm1 (by omega)), stepTo_c hs hgo h4, Option.bind_some, nI_p1]
        have e : stp C g s = wk C seat s (i + 1) := by rw [wk, hg]; rfl
        rw [e]
        refine ih (i + 1) fu _ (by omega) (by omega) (fun f hf => ?_)
        rw [tb_or, hS f hf, tb_bit (by omega), rbn, hg]
        congr 1
        apply decide_eq_decide.mpr
        simp [eq_comm]
  unfold X0_ray
  obtain ⟨X, h1, h2⟩ := key 64 0 FU 0 (by omega) (FU_gt (by omega)) (fun f _ => tb_0 f)
  refine ⟨X, ?_, h2⟩
  rw [if_pos (cs_c hs.1), stepTo_c hs hse h4, Option.bind_some, show on (stp C seat s) = on (wk C seat s 0) from rfl, show X0_ray_L13 h c (nI s) FU 0 (on (wk C seat s 0)) 0 = _ from h1, Option.bind_some]
theorem sees_n {h : HA} {m c seat s f : Nat} {C : CR} (hs : HS h m c C) (hse : seat < cF C) (h4 : s < 4) (hf : f < 64) : X8_sees h m (nI seat) (nI s) (nI f) = some (bI (rb C seat s f)) := by
  have hw := hs.2.1
  have hF := cF_le hw
  have key : ∀ n i fu, i + n = 65 → n < fu → rbn C seat s f i = false → X8_sees_L8 h m (nI s) (nI f) fu (on (wk C seat s i)) = some (bI (rb C seat s f)) := by
    intro n
    induction n with
    | zero =>
      intro i fu hi hfu hr
      obtain ⟨fu, rfl⟩ : ∃ q, fu = q + 1 := ⟨fu - 1, by omega⟩
      have hn : wk C seat s i = none := by
        cases hg : wk C seat s i with
        | none => rfl
        | some g => have := wk_lt hw (by omega) hg; omega
      rw [X8_sees_L8, hn, on_n, if_pos rfl]
      have h64 : wk C seat s 64 = none := by
        cases hg : wk C seat s 64 with
        | none => rfl
        | some g => have := wk_lt hw (by omega) hg; omega
      have : rb C seat s f = false := by
        have h1 := rbn_end (f := f) h64 i (by omega)
        unfold rb; rw [← h1]; exact hr
      rw [this]; rfl
    | succ n ih =>
      intro i fu hi hfu hr
      obtain ⟨fu, rfl⟩ : ∃ q, fu = q + 1 := ⟨fu - 1, by omega⟩
      rw [X8_sees_L8]
      cases hg : wk C seat s i with
      | none =>
        rw [on_n, if_pos rfl]
        have : rb C seat s f = false := by
          unfold rb
          by_cases e : i ≤ 64
          · rw [rbn_end hg 64 e]; exact hr
          · omega
        rw [this]; rfl
      | some g =>
        have hgo := wk_op hg
        have hgF := op_lt hgo
        have hi64 := wk_lt hw (by omega) hg
        rw [on_s, if_neg (nI_nm1 (by omega))]
        by_cases e : g = f
        · rw [if_pos (by rw [e])]
          have hmono : ∀ n, i + 1 ≤ n → rbn C seat s f n = true := by
            intro n
            induction n with
            | zero => intro h; omega
            | succ n ih2 =>
              intro h1
              rw [rbn]
              by_cases e2 : n = i
              · subst e2; rw [hg, e]; simp
              · rw [ih2 (by omega)]; rfl
          have : rb C seat s f = true := hmono 64 (by omega)
          rw [this]; rfl
        · rw [if_neg (fun z => e (nI_inj (by omega) (by omega) z)), stepTo_n hs hgF h4, Option.bind_some]
          have e3 : stp C g s = wk C seat s (i + 1) := by rw [wk, hg]; rfl
          rw [e3]
          refine ih (i + 1) fu (by omega) (by omega) ?_
          rw [rbn, hr, hg]
          simp [e]
  unfold X8_sees
  rw [if_pos (ms_c hs.1), stepTo_n hs hse h4, Option.bind_some, show on (stp C seat s) = on (wk C seat s 0) from rfl]
  exact key 65 0 FU (by omega) (FU_gt (by omega)) rfl
/-- the JUDGE could have seen it said -/
def sn (C L : CR) (j k : Nat) : Bool := sd L k && (rb C (jg C j 0) (fc C j k) (tn (zs C L k (2 * who L k))) || (!decide (zs C L k (2 * who L k + 1) = -1) && rb C (jg C j 0) (fc C j k) (tn (zs C L k (2 * who L k + 1)))))
def wsn (C L : CR) (n j : Nat) : Nat := orf (sn C L j) (wrd L) n
theorem sn_sd {C L : CR} {j k : Nat} (h : sn C L j k = true) : sd L k = true := by unfold sn at h; rw [Bool.and_eq_true] at h; exact h.1
theorem orf_bit (p : Nat → Bool) (w : Nat → Nat) (n i : Nat) : (orf p w n).testBit i = true ↔ ∃ k, k < n ∧ p k = true ∧ w k = i := by
  induction n with
  | zero => simp [orf]
  | succ n ih =>
    rw [orf]
    by_cases hp : p n = true
    · rw [if_pos hp, Nat.testBit_or, Bool.or_eq_true, ih, Nat.testBit_two_pow]
      constructor
      · rintro (⟨k, h1, h2, h3⟩ | h)
        · exact ⟨k, by omega, h2, h3⟩
        · exact ⟨n, by omega, hp, by simpa using h⟩
      · rintro ⟨k, h1, h2, h3⟩
        by_cases e : k = n
        · subst e; right; simpa using h3
        · left; exact ⟨k, by omega, h2, h3⟩
    · rw [if_neg hp, ih]
      constructor
      · rintro ⟨k, h1, h2, h3⟩; exact ⟨k, by omega, h2, h3⟩
      · rintro ⟨k, h1, h2, h3⟩
        by_cases e : k = n
        · subst e; exact absurd h2 hp
        · exact ⟨k, by omega, h2, h3⟩
theorem wordsSeen_c {h : HA} {b c l j : Nat} {C L : CR} {n : Nat} (hp : HP h b c l C L (fun _ => 0) n) (hj : j < cJ C) : X1_wordsSeen h (b + 46) (nI j) = some (nI (wsn C L n j)) := by
  have hb := hp.1
  have hL := hp_L hp
  have h30 := llen_30 hL
  have hn := hp.2.2.1
  have hw := hp_wf hp
  have hF := cF_le hw.1
  have cc := hb_cc hb
  have hse := jseat hw hj
  unfold X1_wordsSeen
  have hl2 := loop_st (fun fu k (a : Int32) => X1_wordsSeen_L4 h (b + 46) (nI j) fu a (nI k)) (fun k => nI (orf (sn C L j) (wrd L) k)) (some (nI (wsn C L n j))) n (fun k fu hk => by
    try simp only []
    rw [X1_wordsSeen_L4, gI_n (fx_hk hp.1.1), hp.2.1, Option.bind_some, if_pos (lt_lit hk (by omega)), isSaid_c hb (by omega), Option.bind_some, nI_p1, orf]
    cases hs : sd L k with
    | false =>
      rw [if_pos (by decide), if_neg]
      intro z; have := sn_sd z; rw [hs] at this; simp at this
    | true =>
      obtain ⟨s0, s1, s2, s3, s4, s5, s6⟩ := say_c hL (show k < llen L by omega) hs
      obtain ⟨q1, ⟨g, q2, q3⟩, q4⟩ := src_c hw hL hn (hp_z hp) hk hs
      obtain ⟨Z, hZ⟩ := dz_lt (hp_z hp) (show k ≤ n by omega)
      have hgF := op_lt q3
      have t4 := (hp.2.2.2.2 k hk).2 Z hZ
      obtain ⟨X, hX, hXb⟩ := ray_c cc hse (fc_lt C j k)
      rw [if_neg (by decide), hb_c hb, Option.bind_some, Option.bind_some, show X0_of h c (nI j) 0 = _ from of_c (w := 0) cc hj (by omega), Option.bind_some, Option.bind_some, faces_c cc hj, Option.bind_some, hX, Option.bind_some, fx_r6 hb.1, Option.bind_some, ldJ_n (fx_k50 hb.1) (by omega) (by omega), Option.bind_some]
      have key : (X &&& gj h (b + 50) k) = 0 ↔ sn C L j k = false := by
        rw [tb_eq0]
        unfold sn
        rw [hs, Bool.true_and, q2, tn_nI (show g < 2 ^ 31 by omega)]
        have hfb : ∀ f, f < 64 → (tb (X &&& gj h (b + 50) k) f = (rb C (jg C j 0) (fc C j k) f && (decide (nI g = nI f) || decide (zs C L k (2 * who L k + 1) = nI f)))) := by
          intro f hf
          rw [tb_and, hXb f hf, t4 f hf]
          unfold fbz
          rw [hs, Bool.true_and, ← zs_eq hZ, ← zs_eq hZ, q2]
        constructor
        · intro h1
          rw [Bool.or_eq_false_iff]
          constructor
          · have := h1 g (by omega)
            rw [hfb g (by omega)] at this
            simpa using this
          · rcases q4 with q5 | ⟨g2, q5, q6⟩
            · rw [q5]; rfl
            · have h2 := op_lt q6
              have := h1 g2 (by omega)
              rw [hfb g2 (by omega), q5] at this
              rw [q5, tn_nI (by omega)]
              have h3 : rb C (jg C j 0) (fc C j k) g2 = false := by simpa using this
              rw [h3, Bool.and_false]
        · intro h1 f hf
          rw [Bool.or_eq_false_iff] at h1
          rw [hfb f hf]
          cases h2 : decide (nI g = nI f) with
          | true =>
            have : g = f := nI_inj (by omega) (by omega) (by simpa using h2)
            rw [← this, h1.1]; rfl
          | false =>
            cases h3 : decide (zs C L k (2 * who L k + 1) = nI f) with
            | false => rw [Bool.or_false, Bool.and_false]
            | true =>
              have h4 : zs C L k (2 * who L k + 1) = nI f := by simpa using h3
              have h5 := h1.2
              rw [h4, tn_nI (by omega)] at h5
              have : ¬ nI f = -1 := nI_nm1 (by omega)
              simp only [this, decide_false, Bool.not_false, Bool.true_and] at h5
              rw [h5]; rfl
      cases h1 : sn C L j k with
      | false => rw [if_pos (key.mpr h1), or_0, if_neg (by simp)]
      | true => rw [if_neg (fun z => by rw [key.mp z] at h1; simp at h1), hb_l hb, Option.bind_some, show X2_at h l (nI k) 2 = _ from hb_at (w := 2) hb (by omega) (by omega), Option.bind_some, s5, shl1 _ (by omega), nI_or, if_pos rfl])
    (fun fu => by (try simp only []); rw [X1_wordsSeen_L4, gI_n (fx_hk hp.1.1), hp.2.1, Option.bind_some, if_neg (nlt_lit (Nat.le_refl _) (by omega))]; rfl) FU (FU_gt (by omega))
  rw [if_pos (hb_t hb), show X1_wordsSeen_L4 h (b + 46) (nI j) FU 0 0 = _ from hl2, Option.bind_some]
theorem couldSee_n {h : HA} {m c t j w : Nat} {C L : CR} {n : Nat} (mp : MP h m c t C L (fun _ => 0) n) (hj : j < cJ C) (hw10 : w < 10) : X8_couldSee h m (nI j) (nI w) = some (bI ((wsn C L n j).testBit w)) := by
  have hs := mp.1.1
  have hL := mp_L mp
  have h30 := llen_30 hL
  have hn := mp.2.2.2.2.1
  have hw := mp.2.1
  have hF := cF_le hw.1
  have hm := hs.1
  obtain ⟨_, w1, w2, w3, w4, w5⟩ := hw.2.1 j hj
  have hse := op_lt w1
  have core : ∀ k fu, k < n → X8_couldSee_L2 h m (nI j) (nI w) (fu + 1) (nI k) = if (sn C L j k && decide (wrd L k = w)) = true then some 1 else X8_couldSee_L2 h m (nI j) (nI w) fu (nI (k + 1)) := by
    intro k fu hk
    rw [X8_couldSee_L2, ms_I hm, mp.2.2.2.1, Option.bind_some, if_pos (lt_lit hk (by omega)), jo1 hs hw.2.1 hj, Option.bind_some, jo4 hs hw.2.1 hj, Option.bind_some, faces_n hs (by omega) (by omega) (by omega), Option.bind_some, show (jg C j 1 + k * jg C j 4) % 4 = fc C j k from rfl, ms_r42 hm, Option.bind_some, mp_said mp hk, Option.bind_some, nI_p1]
    unfold sn
    cases hsd : sd L k with
    | false =>
      rw [if_neg (show ¬ (if false = true then nI (wrd L k) else -1) = nI w from fun z => nI_nm1 (show w < 2 ^ 31 by omega) z.symm)]; rfl
    | true =>
      obtain ⟨s0, s1, s2, s3, s4, s5, s6⟩ := say_c hL (show k < llen L by omega) hsd
      obtain ⟨Z, hZ⟩ := dz_lt (mp_z mp) (show k ≤ n by omega)
      obtain ⟨d1', d2, d3⟩ := (mp.2.2.2.2.2.2.2 k hk Z hZ).2 hsd
      obtain ⟨q1, ⟨g, q2, q3⟩, q4⟩ := src_c hw hL hn (mp_z mp) hk hsd
      rw [← zs_eq hZ] at d2 d3
      have hgF := op_lt q3
      rw [if_pos rfl, Bool.true_and]
      by_cases e : wrd L k = w
      · rw [if_pos (by rw [e]), jo0 hs hw.2.1 hj, Option.bind_some, ms_r44 hm, Option.bind_some, ldI_n (ms_k44 hm) (by omega) (by omega), d2, q2, Option.bind_some, sees_n hs hse (fc_lt C j k) (by omega), Option.bind_some, tn_nI (show g < 2 ^ 31 by omega)]
        simp only [e, decide_true, Bool.and_true]
        cases h1 : rb C (jg C j 0) (fc C j k) g with
        | true => rw [if_neg (by decide)]; rfl
        | false =>
          have r1 : ldI h (m + 24) 20 (nI k) = some (zs C L k (2 * who L k + 1)) := by rw [ldI_n (ms_k45 hm) (by omega) (by omega), d3]
          rw [if_pos (by decide), ms_r45 hm, Option.bind_some, r1, Option.bind_some]
          rcases q4 with q5 | ⟨g2, q5, q6⟩
          · rw [if_pos q5, q5]; rfl
          · have h2 := op_lt q6
            have n2 : ¬ nI g2 = -1 := nI_nm1 (by omega)
            rw [q5] at r1
            rw [q5, if_neg n2, Option.bind_some, Option.bind_some, r1, Option.bind_some, sees_n hs hse (fc_lt C j k) (by omega), Option.bind_some, tn_nI (show g2 < 2 ^ 31 by omega)]
            simp only [n2, decide_false, Bool.not_false, Bool.true_and, Bool.false_or]
            cases rb C (jg C j 0) (fc C j k) g2 <;> rfl
      · rw [if_neg (fun z => e (nI_inj (by omega) (by omega) z)), if_neg (by simp [e])]
  unfold X8_couldSee
  rw [if_pos (ms_c hm)]
  have hl := loop_fst (fun fu k => X8_couldSee_L2 h m (nI j) (nI w) fu (nI k)) (fun k => sn C L j k && decide (wrd L k = w)) (fun k => some (bI (!decide (k = 1000)))) n
    (fun k fu hk hp => by (try simp only []); rw [core k fu hk, if_pos hp, show decide (k = 1000) = false by simp; omega]; rfl)
    (fun k fu hk hp => by (try simp only []); rw [core k fu hk, if_neg (by rw [hp]; simp)])
    (fun fu => by (try simp only []); rw [X8_couldSee_L2, ms_I hm, mp.2.2.2.1, Option.bind_some, if_neg (nlt_lit (Nat.le_refl _) (by omega))]; rfl) FU (FU_gt (by omega))
  rw [show X8_couldSee_L2 h m (nI j) (nI w) FU 0 = _ from hl]
  congr 2
  rw [Bool.eq_iff_iff]
  unfold wsn
  rw [orf_bit]
  rcases fst1_spec (fun k => sn C L j k && decide (wrd L k = w)) n 0 with ⟨i, h1, h2, h3, h4, h5⟩ | ⟨h1, h2⟩
  · rw [h5, Bool.and_eq_true] at *
    constructor
    · intro _; exact ⟨i, by omega, h3.1, by simpa using h3.2⟩
    · intro _; simp; omega
  · rw [h2]
    constructor
    · intro h; simp at h
    · rintro ⟨k, k1, k2, k3⟩
      have := h1 k (by omega) (by omega)
      rw [k2, k3] at this; simp at this
