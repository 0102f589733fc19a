/-! ROUND: the states of a COURT; the model's search -/
def nxC (C : CR) (l s a : Nat) : Option Nat :=
  if a < 4 then (match stp C (s / 256) a with | some g => some (256 * g + 4 * (s / 4 % 64) + (s + 1) % 4) | none => none)
  else if a = 4 then some (256 * (s / 256) + 4 * (s / 4 % 64 ||| ea C (s / 256) (s % 4) l) + (s + 1) % 4)
  else some (256 * (s / 256) + 4 * (s / 4 % 64) + (s + 1) % 4)
def goC (C : CR) (s : Nat) : Bool := decide (s / 4 % 64 = 2 ^ cJ C - 1)
def VC (C : CR) (s hh : Nat) : Prop := s < 16384 ∧ s % 4 = hh % 4 ∧ op C (s / 256) = true ∧ s / 4 % 64 < 2 ^ cJ C
theorem op_64 {C : CR} (hw : WFs C) {f : Nat} (h : op C f = true) : f < 64 := by have := op_lt h; have := cF_le hw; omega
theorem hd_64 {C : CR} (hw : WFs C) {x : Nat} (h : x < 2 ^ cJ C) : x < 64 := by
  have h6 := hw.2.2.1.1
  have : 2 ^ cJ C ≤ 2 ^ 6 := Nat.pow_le_pow_right (by omega) h6
  omega
theorem VC_nx {C : CR} (hw : WFs C) {l s a hh s' : Nat} (hv : VC C s hh) (hn : nxC C l s a = some s') : VC C s' (hh + 1) := by
  obtain ⟨v1, v2, v3, v4⟩ := hv
  have v5 := op_64 hw v3
  unfold nxC at hn
  by_cases h4 : a < 4
  · rw [if_pos h4] at hn
    cases hs : stp C (s / 256) a with
    | none => rw [hs] at hn; exact absurd hn (by simp)
    | some g =>
      rw [hs] at hn
      have e := Option.some.inj hn
      have g1 := stp_op hs
      have g2 := op_64 hw g1
      subst e
      refine ⟨by omega, by omega, ?_, ?_⟩
      · rw [show (256 * g + 4 * (s / 4 % 64) + (s + 1) % 4) / 256 = g by omega]; exact g1
      · rw [show (256 * g + 4 * (s / 4 % 64) + (s + 1) % 4) / 4 % 64 = s / 4 % 64 by omega]; exact v4
  · rw [if_neg h4] at hn
    by_cases h5 : a = 4
    · rw [if_pos h5] at hn
      have e := Option.some.inj hn
      have o1 : (s / 4 % 64 ||| ea C (s / 256) (s % 4) l) < 2 ^ cJ C := Nat.or_lt_two_pow v4 (ea_lt _ _ _ _)
      have o2 := hd_64 hw o1
      subst e
      generalize (s / 4 % 64 ||| ea C (s / 256) (s % 4) l) = x at *
      refine ⟨by omega, by omega, ?_, ?_⟩
      · rw [show (256 * (s / 256) + 4 * x + (s + 1) % 4) / 256 = s / 256 by omega]; exact v3
      · rw [show (256 * (s / 256) + 4 * x + (s + 1) % 4) / 4 % 64 = x by omega]; exact o1
    · rw [if_neg h5] at hn
      have e := Option.some.inj hn
      subst e
      refine ⟨by omega, by omega, ?_, ?_⟩
      · rw [show (256 * (s / 256) + 4 * (s / 4 % 64) + (s + 1) % 4) / 256 = s / 256 by omega]; exact v3
      · rw [show (256 * (s / 256) + 4 * (s / 4 % 64) + (s + 1) % 4) / 4 % 64 = s / 4 % 64 by omega]; exact v4
theorem RE_VC {C : CR} (hw : WFs C) {l f : Nat} (hf : op C f = true) : ∀ t s, RE (nxC C l) (256 * f) t s → VC C s t := by
  intro t
  have hf6 := op_64 hw hf
  induction t with
  | zero =>
    intro s hs
    have : s = 256 * f := hs
    subst this
    refine ⟨by omega, by omega, ?_, ?_⟩
    · rw [show 256 * f / 256 = f by omega]; exact hf
    · rw [show 256 * f / 4 % 64 = 0 by omega]; exact Nat.two_pow_pos _
  | succ t ih =>
    rintro s ⟨p, a, _, hp, hn⟩
    exact VC_nx hw (ih p hp) hn
/-- how many hours; 1000 if there is no way -/
def RT (C : CR) (l f : Nat) : Nat := fst1 (fun t => Gb (nxC C l) (goC C) t (256 * f)) 61 0
theorem Gb_RE {nx : Nat → Nat → Option Nat} {goal : Nat → Bool} {g0 : Nat} : ∀ r t s, RE nx g0 t s → Gb nx goal r s = true → ∃ s', RE nx g0 (t + r) s' ∧ goal s' = true := by
  intro r
  induction r with
  | zero => intro t s h1 h2; exact ⟨s, h1, h2⟩
  | succ r ih =>
    intro t s h1 h2
    obtain ⟨s', g1, g2, g3⟩ := Gb_to h2
    have := ih (t + 1) s' ⟨s, _, g1, h1, g2⟩ g3
    rw [show t + (r + 1) = t + 1 + r by omega]; exact this
theorem RE_Gb {nx : Nat → Nat → Option Nat} {goal : Nat → Bool} {g0 : Nat} : ∀ t r s, RE nx g0 t s → Gb nx goal r s = true → Gb nx goal (t + r) g0 = true := by
  intro t
  induction t with
  | zero => intro r s h1 h2; have : s = g0 := h1; subst this; rw [Nat.zero_add]; exact h2
  | succ t ih =>
    rintro r s ⟨p, a, ha, hp, hn⟩ h2
    have := ih (r + 1) p hp (Gb_of ha hn h2).1
    rw [show t + 1 + r = t + (r + 1) by omega]; exact this
theorem RT_none {C : CR} {l f : Nat} (h : ∀ t, t ≤ 60 → ∀ s, RE (nxC C l) (256 * f) t s → goC C s = false) : RT C l f = 1000 := by
  unfold RT
  rcases fst1_spec (fun t => Gb (nxC C l) (goC C) t (256 * f)) 61 0 with ⟨i, _, h2, h3, _, _⟩ | ⟨_, h2⟩
  · obtain ⟨s', h4, h5⟩ := Gb_RE i 0 (256 * f) rfl h3
    rw [Nat.zero_add] at h4
    rw [h i (by omega) s' h4] at h5
    exact absurd h5 (by decide)
  · exact h2
theorem RT_some {C : CR} {l f T : Nat} (hT : T ≤ 60) (hg : Gb (nxC C l) (goC C) T (256 * f) = true) (h : ∀ t, t < T → ∀ s, RE (nxC C l) (256 * f) t s → goC C s = false) : RT C l f = T := by
  unfold RT
  refine fst1_is (by omega) hg (fun i hi => ?_)
  cases hb : Gb (nxC C l) (goC C) i (256 * f) with
  | false => rfl
  | true =>
    obtain ⟨s', h4, h5⟩ := Gb_RE i 0 (256 * f) rfl hb
    rw [Nat.zero_add] at h4
    rw [h i hi s' h4] at h5
    exact absurd h5 (by decide)
/-! the model's rows -/
def Wrd (m : Nat) : Nat → Nat → Prop := fun a k => (a = m ∧ k = 37) ∨ (m + 15 ≤ a ∧ a ≤ m + 19)
def MQr (h : HA) (m : Nat) (A q cm dd : Nat → Nat) (n : Nat) : Prop := gi h m 37 = nI n ∧ (∀ s, s < 16384 → gi h (m + 18) s = if A s = 1000 then -1 else nI (A s)) ∧ (∀ i, i < n → gi h (m + 15) i = nI (q i)) ∧ ∀ i, 1 ≤ i → i < n → gi h (m + 16) (q i) = nI (cm (q i)) ∧ gi h (m + 17) (q i) = nI (dd (q i))
theorem HT_rd {h h1 : HA} {m c : Nat} {C : CR} (ht : HT h m c C) (p : ch (Wrd m) h h1) : HT h1 m c C := HT_ch ht p (fun k _ _ w => by unfold Wrd at w; omega) (fun k w => by unfold Wrd at w; omega) (fun k w => by unfold Wrd at w; omega)
theorem stateOf_n {f hd hh : Nat} (hf : f < 64) (hd6 : hd < 64) (h1 : hh < 1000) : X8_stateOf (nI f) (nI hd) (nI hh) = some (nI (256 * f + 4 * hd + hh % 4)) := by
  unfold X8_stateOf
  rw [show (4 : Int32) = nI 4 from rfl, rm_n (by omega) (by omega) (by omega), Option.bind_some, show (256 : Int32) = nI 256 from rfl, nI_mul, nI_mul, nI_add, nI_add]
theorem tob_6 : ∀ a, a < 6 → toB (toB (nI a)) = nI a := by decide +kernel
theorem comeTo_old {h : HA} {m s n : Nat} {A q cm dd : Nat → Nat} {v2 v3 v4 : Int32} (hm : MS h m) (mq : MQr h m A q cm dd n) (hs : s < 16384) (hA : A s ≠ 1000) (hA2 : A s < 1000) : X8_comeTo h m (nI s) v2 v3 v4 = some h := by
  unfold X8_comeTo
  rw [if_pos (ms_c hm), ms_r35 hm, Option.bind_some, ldI_n (ms_k35 hm) (by omega) (by omega), mq.2.1 s hs, if_neg hA, Option.bind_some, if_neg (nI_nm1 (by omega))]
theorem comeTo_new {h : HA} {m s n p a hh : Nat} {A q cm dd : Nat → Nat} {v2 v3 : Int32} (hm : MS h m) (mq : MQr h m A q cm dd n) (hs : s < 16384) (hA : A s = 1000) (hn : n < 16384) (hh1 : hh < 1000) (hq : ∀ i, i < n → q i ≠ s) (hv : n = 0 ∨ (v2 = nI p ∧ toB (toB v3) = nI a)) :
    ∃ h1, X8_comeTo h m (nI s) v2 v3 (nI hh) = some h1 ∧ ch (Wrd m) h h1 ∧ MQr h1 m (fset A s hh) (fset q n s) (fset cm s p) (fset dd s a) (n + 1) := by
  obtain ⟨q1, q2, q3, q4⟩ := mq
  have w18 : Wrd m (m + 18) s := Or.inr ⟨by omega, by omega⟩
  have w16 : Wrd m (m + 16) s := Or.inr ⟨by omega, by omega⟩
  have w17 : Wrd m (m + 17) s := Or.inr ⟨by omega, by omega⟩
  have w15 : Wrd m (m + 15) n := Or.inr ⟨by omega, by omega⟩
  have w0 : Wrd m m 37 := Or.inl ⟨rfl, rfl⟩
  unfold X8_comeTo
  rw [if_pos (ms_c hm), ms_r35 hm, Option.bind_some, ldI_n (ms_k35 hm) (by omega) (by omega), q2 s hs, if_pos hA, Option.bind_some, if_pos rfl, Option.bind_some, asI_n (ms_k35 hm) (by omega) (by omega), Option.bind_some]
  have c1 : ch (Wrd m) h (si h (m + 18) s (nI hh)) := ch_si w18
  have m1 := c1.ms hm
  rw [ms_r33 m1, Option.bind_some, asI_n (ms_k33 m1) (by omega) (by omega), Option.bind_some]
  have c2 : ch (Wrd m) _ (si (si h (m + 18) s (nI hh)) (m + 16) s v2) := c1.tr (ch_si w16)
  have m2 := c2.ms hm
  rw [ms_r34 m2, Option.bind_some, asI_n (ms_k34 m2) (by omega) (by omega), Option.bind_some]
  have c3 : ch (Wrd m) _ (si (si (si h (m + 18) s (nI hh)) (m + 16) s v2) (m + 17) s (toB (toB v3))) := c2.tr (ch_si w17)
  have m3 := c3.ms hm
  have g3 : gi (si (si (si h (m + 18) s (nI hh)) (m + 16) s v2) (m + 17) s (toB (toB v3))) m 37 = nI n := by
    rw [gi_si, if_neg (by omega), gi_si, if_neg (by omega), gi_si, if_neg (by omega)]; exact q1
  rw [ms_r32 m3, Option.bind_some, ms_I m3, g3, Option.bind_some, asI_n (ms_k32 m3) (by omega) (by omega), Option.bind_some]
  have c4 := c3.tr (ch_si (h := si (si (si h (m + 18) s (nI hh)) (m + 16) s v2) (m + 17) s (toB (toB v3))) (v := nI s) w15)
  have m4 := c4.ms hm
  rw [ms_I m4, gi_si, if_neg (by omega), g3, Option.bind_some, ms_p m4, Option.bind_some, nI_p1]
  refine ⟨_, rfl, c4.tr (ch_si w0), ?_, fun u hu => ?_, fun i hi => ?_, fun i h1 hi => ?_⟩
  · rw [gi_si, if_pos ⟨rfl, rfl⟩]
  · rw [gi_si, if_neg (by omega), gi_si, if_neg (by omega), gi_si, if_neg (by omega), gi_si, if_neg (by omega), gi_si]
    by_cases e : u = s
    · subst e; rw [if_pos ⟨rfl, rfl⟩, fset_eq, if_neg (by omega)]
    · rw [if_neg (by omega), fset_ne e]; exact q2 u hu
  · rw [gi_si, if_neg (by omega), gi_si]
    by_cases e : i = n
    · subst e; rw [if_pos ⟨rfl, rfl⟩, fset_eq]
    · rw [if_neg (by omega), gi_si, if_neg (by omega), gi_si, if_neg (by omega), gi_si, if_neg (by omega), fset_ne e]; exact q3 i (by omega)
  · by_cases e : i = n
    · subst e
      obtain ⟨v1, v2e⟩ := hv.resolve_left (by omega)
      rw [fset_eq, fset_eq, fset_eq]
      constructor
      · rw [gi_si, if_neg (by omega), gi_si, if_neg (by omega), gi_si, if_neg (by omega), gi_si, if_pos ⟨rfl, rfl⟩]; exact v1
      · rw [gi_si, if_neg (by omega), gi_si, if_neg (by omega), gi_si, if_pos ⟨rfl, rfl⟩]; exact v2e
    · have hne := hq i (by omega)
      rw [fset_ne (show i ≠ n from e), fset_ne hne, fset_ne hne]
      obtain ⟨r1, r2⟩ := q4 i h1 (by omega)
      constructor
      · rw [gi_si, if_neg (by omega), gi_si, if_neg (by omega), gi_si, if_neg (by omega), gi_si, if_neg (fun z => hne z.2), gi_si, if_neg (by omega)]; exact r1
      · rw [gi_si, if_neg (by omega), gi_si, if_neg (by omega), gi_si, if_neg (fun z => hne z.2), gi_si, if_neg (by omega), gi_si, if_neg (by omega)]; exact r2
/-- the search at work on the k-th, which is s at hour hh -/
def RW (h : HA) (m c : Nat) (C : CR) (l f k s hh E n : Nat) : Prop := ∃ A q cm dd e, BQ (nxC C l) (VC C) (256 * f) A q cm dd e n E ∧ MQr h m A q cm dd n ∧ HT h m c C ∧ k < n ∧ q k = s ∧ A s = hh ∧ ∀ i, i ≤ k → goC C (q i) = false
/-- one act -/
theorem act_n {h : HA} {m c : Nat} {C : CR} (hw : WFs C) {l f k s hh E n s' : Nat} (r : RW h m c C l f k s hh E n) (hE : E / 6 = k) (h60 : hh < 60) (hn : nxC C l s (E % 6) = some s') :
    ∃ h1 n1, X8_comeTo h m (nI s') (nI s) (nI (E % 6)) (nI (hh + 1)) = some h1 ∧ ch (Wrd m) h h1 ∧ RW h1 m c C l f k s hh (E + 1) n1 := by
  obtain ⟨A, q, cm, dd, e, bq, mq, ht, hk, hq, hA, hgo⟩ := r
  have hv := (bq.2.2.1 k hk).2.2
  rw [hq, hA] at hv
  have hv' := VC_nx hw hv hn
  have hqE : q (E / 6) = s := by rw [hE]; exact hq
  by_cases c1 : A s' = 1000
  · have bp := BQ_push bq (by omega) (by rw [hqE, hA]; exact h60) (by rw [hqE]; exact hn) hv'.1 (by rw [hqE, hA]; exact hv') c1
    rw [hqE, hA] at bp
    obtain ⟨h1, e1, c2, mq1⟩ := comeTo_new (p := s) (a := E % 6) (v2 := nI s) (v3 := nI (E % 6)) ht.1.1 mq hv'.1 c1 bp.2 (hh := hh + 1) (by omega) (fun i hi z => by have := (bq.2.2.1 i hi).2.1; rw [z, c1] at this; omega) (Or.inr ⟨rfl, tob_6 _ (Nat.mod_lt _ (by omega))⟩)
    refine ⟨h1, n + 1, e1, c2, _, _, _, _, _, bp.1, mq1, HT_rd ht c2, by omega, ?_, ?_, fun i hi => ?_⟩
    · rw [fset_ne (by omega)]; exact hq
    · rw [fset_ne (fun z => by rw [z, c1] at hA; omega)]; exact hA
    · rw [fset_ne (by omega)]; exact hgo i hi
  · have hlt : A s' < 1000 := by
      rcases bq.2.2.2.1 s' hv'.1 with h2 | ⟨i, h2, h3⟩
      · exact absurd h2 c1
      · have := (bq.2.2.1 i h2).2.1; rw [h3] at this; omega
    refine ⟨h, n, comeTo_old ht.1.1 mq hv'.1 c1 hlt, ch_rf _ _, A, q, cm, dd, e, BQ_skip bq (by omega) (fun t h2 _ => ?_), mq, ht, hk, hq, hA, hgo⟩
    rw [hqE, hn] at h2
    have := Option.some.inj h2
    subst this
    exact ⟨c1, hv'.1⟩
/-- an act that cannot be -/
theorem act_0 {h : HA} {m c : Nat} {C : CR} {l f k s hh E n : Nat} (r : RW h m c C l f k s hh E n) (hE : E / 6 = k) (hn : hh < 60 → nxC C l s (E % 6) = none) : RW h m c C l f k s hh (E + 1) n := by
  obtain ⟨A, q, cm, dd, e, bq, mq, ht, hk, hq, hA, hgo⟩ := r
  refine ⟨A, q, cm, dd, e, BQ_skip bq (by omega) (fun t h2 h3 => ?_), mq, ht, hk, hq, hA, hgo⟩
  rw [hE, hq] at h2
  rw [hE, hq, hA] at h3
  rw [hn h3] at h2
  exact absurd h2 (by simp)
theorem round121 {h : HA} {m c : Nat} {C : CR} (hw : WF C) {l f k s hh n : Nat} (r : RW h m c C l f k s hh (6 * k) n) (h60 : hh < 60) :
    ∃ h1 n1, X8_findRound_L121 m (nI s) (nI hh) (nI (s / 256)) (nI (s / 4 % 64)) FU h 0 = some h1 ∧ ch (Wrd m) h h1 ∧ RW h1 m c C l f k s hh (6 * k + 4) n1 := by
  have hv : VC C s hh := by
    obtain ⟨A, q, cm, dd, e, bq, mq, ht, hk, hq, hA, hgo⟩ := r
    have hv := (bq.2.2.1 k hk).2.2
    rw [hq, hA] at hv; exact hv
  obtain ⟨v1, v2, v3, v4⟩ := hv
  have v5 := op_lt v3
  have v6 := op_64 hw.1 v3
  have key := loop_inv (fun fu a (h : HA) => X8_findRound_L121 m (nI s) (nI hh) (nI (s / 256)) (nI (s / 4 % 64)) fu h (nI a)) (fun a h1 => ch (Wrd m) h h1 ∧ ∃ n1, RW h1 m c C l f k s hh (6 * k + a) n1) (fun h1 => ch (Wrd m) h h1 ∧ ∃ n1, RW h1 m c C l f k s hh (6 * k + 4) n1) 4 (by
    intro a h1 fu ha hI
    obtain ⟨c1, n1, r1⟩ := hI
    have hs : HS h1 m c C := by obtain ⟨A, q, cm, dd, e, bq, mq, ht, _⟩ := r1; exact ht.1
    have e1 : (6 * k + a) / 6 = k := by omega
    have e2 : (6 * k + a) % 6 = a := by omega
    show ∃ a', X8_findRound_L121 m (nI s) (nI hh) (nI (s / 256)) (nI (s / 4 % 64)) (fu + 1) h1 (nI a) = X8_findRound_L121 m (nI s) (nI hh) (nI (s / 256)) (nI (s / 4 % 64)) fu a' (nI (a + 1)) ∧ _
    rw [X8_findRound_L121, if_pos (lt4 ha), if_pos (show nI hh < 60 from lt_lit (n := 60) h60 (by omega)), stepTo_n hs v5 ha, Option.bind_some, nI_p1, nI_p1]
    cases hst : stp C (s / 256) a with
    | none =>
      rw [if_pos (show on none = -1 from rfl)]
      refine ⟨h1, rfl, c1, n1, ?_⟩
      have := act_0 r1 e1 (fun _ => by rw [e2]; unfold nxC; rw [if_pos ha, hst])
      rw [show 6 * k + (a + 1) = 6 * k + a + 1 by omega]; exact this
    | some g =>
      have g2 := op_64 hw.1 (stp_op hst)
      rw [on_s, if_neg (nI_nm1 (by omega)), stateOf_n g2 (by omega) (by omega), Option.bind_some]
      have hnx : nxC C l s ((6 * k + a) % 6) = some (256 * g + 4 * (s / 4 % 64) + (hh + 1) % 4) := by
        rw [e2]; unfold nxC; rw [if_pos ha, hst]
        show some (256 * g + 4 * (s / 4 % 64) + (s + 1) % 4) = _
        rw [show (s + 1) % 4 = (hh + 1) % 4 by omega]
      obtain ⟨h2, n2, e3, c2, r2⟩ := act_n hw.1 r1 e1 h60 hnx
      rw [e2] at e3
      rw [e3, Option.bind_some]
      exact ⟨h2, rfl, c1.tr c2, n2, by rw [show 6 * k + (a + 1) = 6 * k + a + 1 by omega]; exact r2⟩) (by
    intro h1 fu hI
    refine ⟨h1, ?_, hI⟩
    show X8_findRound_L121 m _ _ _ _ (fu + 1) h1 (nI 4) = _
    rw [X8_findRound_L121, if_neg (by decide)]) h FU ⟨ch_rf _ _, n, r⟩ (FU_gt (by omega))
  obtain ⟨h1, e1, c1, n1, r1⟩ := key
  exact ⟨h1, n1, e1, c1, r1⟩
theorem layRow_n {h : HA} {m n T : Nat} {A q cm dd : Nat → Nat} (hm : MS h m) (mq : MQr h m A q cm dd n) (w a : Nat → Nat) (hT : T ≤ 60) (hq : ∀ i, i < n → q i < 16384) (hwy : ∀ t, t < T → (∃ j, 1 ≤ j ∧ j < n ∧ q j = w (t + 1)) ∧ cm (w (t + 1)) = w t ∧ dd (w (t + 1)) = a t) :
    ∃ h1, X8_layRow h m (nI (w T)) (nI T) = some h1 ∧ ch (fun a _ => a = m + 19) h h1 ∧ ∀ t, t < T → gi h1 (m + 19) t = nI (a t) := by
  unfold X8_layRow
  rw [if_pos (ms_c hm)]
  have key := loop_inv (fun fu k (h : HA) => X8_layRow_L7 m fu h (nI (w (T - k))) (dwn T k)) (fun k h1 => ch (fun a _ => a = m + 19) h h1 ∧ ∀ t, T - k ≤ t → t < T → gi h1 (m + 19) t = nI (a t)) (fun h1 => ch (fun a _ => a = m + 19) h h1 ∧ ∀ t, t < T → gi h1 (m + 19) t = nI (a t)) T (by
    intro k h1 fu hk hI
    obtain ⟨c1, g1⟩ := hI
    have m1 := c1.ms hm
    obtain ⟨⟨j, j1, j2, j3⟩, w1, w2⟩ := hwy (T - 1 - k) (by omega)
    rw [show T - 1 - k + 1 = T - k by omega] at j3 w1 w2
    have hlt := hq j j2
    rw [j3] at hlt
    obtain ⟨r1, r2⟩ := mq.2.2.2 j j1 j2
    rw [j3, w1] at r1
    rw [j3, w2] at r2
    show ∃ a', X8_layRow_L7 m (fu + 1) h1 (nI (w (T - k))) (dwn T k) = X8_layRow_L7 m fu a' (nI (w (T - (k + 1)))) (dwn T (k + 1)) ∧ _
    have e1 : dwn T k = nI (T - 1 - k) := by unfold dwn; rw [if_neg (by omega)]
    have e2 : nI (T - 1 - k) + -1 = dwn T (k + 1) := by
      rw [nI_pm]; unfold dwn
      by_cases hz : T - 1 - k = 0
      · rw [if_pos hz, if_pos (by omega)]
      · rw [if_neg hz, if_neg (by omega)]; congr 1
    have c2 : ch (fun a _ => a = m + 19) h1 (si h1 (m + 19) (T - 1 - k) (nI (a (T - 1 - k)))) := ch_si rfl
    have m2 := c2.ms m1
    rw [X8_layRow_L7, e1, if_neg (nI_lt0 (by omega)), ms_r36 m1, Option.bind_some, ms_r34 m1, Option.bind_some, ldI_n (ms_k34 m1) (by omega) (by omega), c1.gi (by omega), r2, Option.bind_some, asI_n (ms_k36 m1) (by omega) (by omega), Option.bind_some, ms_r33 m2, Option.bind_some, ldI_n (ms_k33 m2) (by omega) (by omega), c2.gi (by omega), c1.gi (by omega), r1, Option.bind_some, e2]
    refine ⟨_, by rw [show T - (k + 1) = T - 1 - k by omega], c1.tr c2, fun t h3 h4 => ?_⟩
    rw [gi_si]
    by_cases e : t = T - 1 - k
    · rw [if_pos ⟨rfl, e⟩, e]
    · rw [if_neg (by omega)]; exact g1 t (by omega) h4) (by
    intro h1 fu hI
    refine ⟨h1, ?_, hI.1, fun t ht => hI.2 t (by omega) ht⟩
    show X8_layRow_L7 m (fu + 1) h1 _ (dwn T T) = _
    rw [X8_layRow_L7, show dwn T T = -1 by unfold dwn; rw [if_pos (Nat.le_refl _)], if_pos (by decide)]) h FU ⟨ch_rf _ _, fun t h1 h2 => by omega⟩ (FU_gt (by omega))
  obtain ⟨h1, e1, c1, g1⟩ := key
  refine ⟨h1, ?_, c1, g1⟩
  have e3 : nI T - 1 = dwn T 0 := by
    rw [Int32.sub_eq_add_neg, show -(1 : Int32) = -1 from rfl, nI_pm]; unfold dwn
    by_cases hz : T = 0
    · rw [if_pos hz, if_pos (by omega)]
    · rw [if_neg hz, if_neg (by omega)]; rfl
  rw [e3, show X8_layRow_L7 m FU h (nI (w T)) (dwn T 0) = some h1 from e1, Option.bind_some]
