/-! PERSUADE -/
theorem cnt_mono {p q : Nat → Bool} {n : Nat} (h : ∀ i, i < n → p i = true → q i = true) : cnt p n ≤ cnt q n ∧ (cnt p n = cnt q n → ∀ i, i < n → p i = q i) := by
  induction n with
  | zero => exact ⟨Nat.le_refl _, fun _ i hi => by omega⟩
  | succ n ih =>
    obtain ⟨i1, i2⟩ := ih (fun i hi => h i (by omega))
    have h1 := h n (by omega)
    show cnt p n + _ ≤ cnt q n + _ ∧ (cnt p n + _ = cnt q n + _ → _)
    cases hp : p n with
    | true =>
      rw [h1 hp, if_pos rfl]
      refine ⟨by omega, fun e i hi => ?_⟩
      by_cases e2 : i = n
      · subst e2; rw [hp, h1 hp]
      · exact i2 (by omega) i (by omega)
    | false =>
      rw [if_neg (by simp)]
      cases hq : q n with
      | true =>
        rw [if_pos rfl]
        exact ⟨by omega, fun e => by omega⟩
      | false =>
        rw [if_neg (by simp)]
        refine ⟨by omega, fun e i hi => ?_⟩
        by_cases e2 : i = n
        · subst e2; rw [hp, hq]
        · exact i2 (by omega) i (by omega)
theorem tb10 {s i : Nat} (hs : s < 1024) (hi : 10 ≤ i) : s.testBit i = false := by
  rw [Nat.testBit_lt_two_pow]
  exact Nat.lt_of_lt_of_le hs (Nat.pow_le_pow_right (n := 2) (i := 10) (by omega) hi)
theorem pc_10 {s : Nat} (hs : s < 1024) : pc s ≤ 10 := by
  unfold pc
  rw [cnt_ext (n := 10) (m := 16) (by omega) (fun i h1 _ => tb10 hs h1)]
  exact cnt_le _ _
theorem pc_and {s m : Nat} (hs : s < 1024) : pc (s &&& m) ≤ pc s ∧ (pc (s &&& m) = pc s → s &&& m = s) := by
  have h := cnt_mono (p := fun i => (s &&& m).testBit i) (q := fun i => s.testBit i) (n := 16) (fun i _ hp => by
    simp only [Nat.testBit_and, Bool.and_eq_true] at hp; exact hp.1)
  refine ⟨h.1, fun e => ?_⟩
  have h2 := h.2 e
  apply Nat.eq_of_testBit_eq
  intro i
  by_cases hi : i < 16
  · exact h2 i hi
  · rw [Nat.testBit_and, tb10 hs (by omega)]; rfl
theorem sub_0 {s m : Nat} (hs : s < 1024) : (nI s &&& (nI m ^^^ (-1)) = 0) ↔ s &&& m = s := by
  rw [show (-1 : Int32) = nI 4294967295 by decide, nI_xor, nI_and]
  have hle := Nat.and_le_left (n := s) (m := m ^^^ 4294967295)
  have e : nI (s &&& (m ^^^ 4294967295)) = 0 ↔ s &&& (m ^^^ 4294967295) = 0 :=
    ⟨fun z => nI_inj (b := 0) (by omega) (by omega) z, fun z => by rw [z]; rfl⟩
  rw [e]
  have hb : ∀ i, (s &&& (m ^^^ 4294967295)).testBit i = (s.testBit i && !m.testBit i) := by
    intro i
    rw [Nat.testBit_and, Nat.testBit_xor]
    by_cases hi : i < 32
    · have : (4294967295 : Nat).testBit i = true := by
        rw [show (4294967295 : Nat) = 2 ^ 32 - 1 from rfl, Nat.testBit_two_pow_sub_one]; simp [hi]
      rw [this, Bool.xor_true]
    · rw [tb10 hs (by omega)]; rfl
  constructor
  · intro h
    apply Nat.eq_of_testBit_eq
    intro i
    have h1 := hb i
    rw [h, Nat.zero_testBit] at h1
    rw [Nat.testBit_and]
    cases h2 : s.testBit i
    · rfl
    · rw [h2] at h1
      cases h3 : m.testBit i
      · rw [h3] at h1; simp at h1
      · rfl
  · intro h
    apply Nat.eq_of_testBit_eq
    intro i
    rw [hb i, Nat.zero_testBit]
    rw [← h, Nat.testBit_and]
    cases s.testBit i <;> cases m.testBit i <;> rfl
/-- the WORDS that RULES name -/
def nb1 (x : Int32) : Nat := if x = -1 then 0 else 2 ^ tn x
def nmd (R : CR) : Nat → Nat
  | 0 => 0
  | k + 1 => (nmd R k ||| nb1 (rK R k 1)) ||| nb1 (rK R k 2)
theorem nb1_c {x : Int32} (h : x = -1 ∨ ∃ w, w < 10 ∧ x = nI w) : nb1 x < 1024 ∧ (if x = -1 then 0 else shlI 1 x) = nI (nb1 x) := by
  unfold nb1
  rcases h with h | ⟨w, h1, rfl⟩
  · rw [if_pos h, if_pos h]; exact ⟨by omega, rfl⟩
  · have n1 : ¬ nI w = -1 := nI_nm1 (by omega)
    rw [if_neg n1, if_neg n1, tn_nI (by omega), shl1 _ (by omega)]
    exact ⟨Nat.pow_lt_pow_right (n := 10) (by omega) h1, rfl⟩
theorem nmd_lt {R : CR} (hR : WL 2 R) : ∀ {k : Nat}, k ≤ llen R → nmd R k < 1024 := by
  intro k
  induction k with
  | zero => intro _; show 0 < 1024; omega
  | succ k ih =>
    intro h
    obtain ⟨_, r1, r2⟩ := rule_c hR (show k < llen R by omega)
    exact or_1024 (or_1024 (ih (by omega)) (nb1_c r1).1) (nb1_c r2).1
theorem nmd_bit {R : CR} : ∀ {n k : Nat}, k < n → ∀ i, (nb1 (rK R k 1)).testBit i = true ∨ (nb1 (rK R k 2)).testBit i = true → (nmd R n).testBit i = true := by
  intro n
  induction n with
  | zero => intro k h; omega
  | succ n ih =>
    intro k h i hi
    rw [nmd, Nat.testBit_or, Nat.testBit_or]
    by_cases e : k = n
    · subst e
      rcases hi with h1 | h1 <;> rw [h1] <;> simp
    · rw [ih (by omega) i hi]; simp
theorem fst1_cong {p q : Nat → Bool} : ∀ {n k : Nat}, (∀ i, k ≤ i → i < k + n → p i = q i) → fst1 p n k = fst1 q n k := by
  intro n
  induction n with
  | zero => intro k _; rfl
  | succ n ih =>
    intro k h
    rw [fst1, fst1, h k (by omega) (by omega), ih (fun i h1 h2 => h i (by omega) (by omega))]
theorem fit_sub {R : CR} (hR : WL 2 R) {K s k : Nat} (hk : k < llen R) : fit R (K ||| (s &&& nmd R (llen R))) k = fit R (K ||| s) k := by
  obtain ⟨_, r1, r2⟩ := rule_c hR hk
  have hb := nmd_bit (R := R) hk
  unfold fit
  congr 1
  · rcases r1 with e | ⟨u, hu, e⟩
    · rw [e]; rfl
    · have : (nmd R (llen R)).testBit u = true := hb u (Or.inl (by unfold nb1; rw [e, if_neg (nI_nm1 (by omega)), tn_nI (by omega), Nat.testBit_two_pow]; simp))
      rw [e, tn_nI (by omega), Nat.testBit_or, Nat.testBit_or, Nat.testBit_and, this, Bool.and_true]
  · rcases r2 with e | ⟨u, hu, e⟩
    · rw [e]; rfl
    · have : (nmd R (llen R)).testBit u = true := hb u (Or.inr (by unfold nb1; rw [e, if_neg (nI_nm1 (by omega)), tn_nI (by omega), Nat.testBit_two_pow]; simp))
      rw [e, tn_nI (by omega), Nat.testBit_or, Nat.testBit_or, Nat.testBit_and, this, Bool.and_true]
theorem vby_sub {R : CR} (hR : WL 2 R) (K s : Nat) : vby R (K ||| (s &&& nmd R (llen R))) = vby R (K ||| s) := by
  have : rby R (K ||| (s &&& nmd R (llen R))) = rby R (K ||| s) := fst1_cong (fun i _ h2 => fit_sub hR (by omega))
  unfold vby; rw [this]
/-- the VERDICT, if all KNEW these WORDS, too -/
def pv (C L R : CR) (n s : Nat) : Int32 := vdI (vsum (fun j => vby R (kn C L (fun _ => 0) n j ||| s)) (cJ C))
theorem pv_sub {C L R : CR} (hR : WL 2 R) (n s : Nat) : pv C L R n (s &&& nmd R (llen R)) = pv C L R n s := by
  unfold pv
  congr 1
  exact vsum_cong (fun j _ => vby_sub hR _ s)
/-- s is the answer among those that fit -/
def bst (p : Nat → Bool) (s : Nat) : Prop := s < 1024 ∧ p s = true ∧ ∀ t, t < 1024 → p t = true → pc s < pc t ∨ (pc s = pc t ∧ s ≤ t)
theorem bst_u {p : Nat → Bool} {s t : Nat} (h1 : bst p s) (h2 : bst p t) : s = t := by
  have a := h1.2.2 t h2.1 h2.2.1
  have b := h2.2.2 s h1.1 h1.2.1
  omega
/-- the answer as it is asked for -/
def PA (p : Nat → Bool) (r : Int32) : Prop := (∃ s, bst p s ∧ r = nI s) ∨ ((∀ t, t < 1024 → p t = false) ∧ r = -1)
theorem PA_u {p : Nat → Bool} {r1 r2 : Int32} (h1 : PA p r1) (h2 : PA p r2) : r1 = r2 := by
  rcases h1 with ⟨s, h3, rfl⟩ | ⟨h3, rfl⟩
  · rcases h2 with ⟨t, h4, rfl⟩ | ⟨h4, rfl⟩
    · rw [bst_u h3 h4]
    · have := h4 s h3.1; rw [h3.2.1] at this; simp at this
  · rcases h2 with ⟨t, h4, rfl⟩ | ⟨h4, rfl⟩
    · have := h3 t h4.1; rw [h4.2.1] at this; simp at this
    · rfl
theorem namedIn_c {h : HA} {l : Nat} {R : CR} (hl : LL h l 2 R) (hR : WL 2 R) : X7_namedIn h l = some (nI (nmd R (llen R))) := by
  have h8 := llen_8 hR
  unfold X7_namedIn
  have hl2 := loop_st (fun fu k (z : Int32) => X7_namedIn_L4 h l fu z (nI k)) (fun k => nI (nmd R k)) (some (nI (nmd R (llen R)))) (llen R) (fun k fu hk => by
    try simp only []
    obtain ⟨_, r1, r2⟩ := rule_c hR hk
    have b1 := (nb1_c r1).2
    have b2 := (nb1_c r2).2
    rw [X7_namedIn_L4, ll_len hl hR, Option.bind_some, if_pos (lt_lit hk (by omega)), show X2_at h l (nI k) 1 = some (rK R k 1) from at_c (w := 1) hl hR hk (by decide), Option.bind_some, show X2_at h l (nI k) 2 = some (rK R k 2) from at_c (w := 2) hl hR hk (by decide), Option.bind_some, nI_p1]
    dsimp only [lett]
    rw [b1, nI_or]
    by_cases e : rK R k 2 = -1
    · rw [if_pos e] at b2
      rw [if_pos e, b2, nI_or]; rfl
    · rw [if_neg e] at b2
      rw [if_neg e, b2, nI_or]; rfl)
    (fun fu => by (try simp only []); rw [X7_namedIn_L4, ll_len hl hR, Option.bind_some, if_neg (nlt_lit (Nat.le_refl _) (by omega))]) FU (FU_gt (by omega))
  rw [show X7_namedIn_L4 h l FU 0 0 = _ from hl2, Option.bind_some]
/-- what the class holds, when it has looked at the first k -/
def PI (p : Nat → Bool) (m k : Nat) (z : Int32 × Int32) : Prop :=
  (z = (-1, nI (pc m + 1)) ∧ ∀ t, t < k → t &&& m = t → p t = false) ∨ (∃ s, s < k ∧ s &&& m = s ∧ p s = true ∧ z = (nI s, nI (pc s)) ∧ ∀ t, t < k → t &&& m = t → p t = true → pc s < pc t ∨ (pc s = pc t ∧ s ≤ t))
theorem pers_c {h : HA} {b c l r v : Nat} {C L R : CR} {n : Nat} (hp : HP h b c l C L (fun _ => 0) n) (k0 : KN h b C L (fun _ => 0) n) (hl : LL h r 2 R) (hR : WL 2 R) (hv : v < 2) :
    ∃ a, X7_persuade_L66 h (nI v) r (b + 46) (nI (nmd R (llen R))) FU (-1) (nI (pc (nmd R (llen R))) + 1) 0 = some a ∧ PA (fun s => decide (pv C L R n s = nI v)) a := by
  have h6 := hb_6 hp.1
  have hm := nmd_lt hR (Nat.le_refl _)
  have hps := pv_sub (C := C) (L := L) hR n
  generalize nmd R (llen R) = m at *
  have hpm := pc_le m
  obtain ⟨a, e, ha⟩ := loop_inv (fun fu s (z : Int32 × Int32) => X7_persuade_L66 h (nI v) r (b + 46) (nI m) fu z.1 z.2 (nI s)) (fun s z => PI (fun s => decide (pv C L R n s = nI v)) m s z)
    (fun a => PA (fun s => decide (pv C L R n s = nI v)) a) 1024 (by
      intro s z fu hs hI
      have hps1 := pc_le s
      have hvb := vsum_b (fun j => vby R (kn C L (fun _ => 0) n j ||| s)) (cJ C)
      rw [X7_persuade_L66, if_pos (show nI s < 1024 from lt_lit (n := 1024) hs (by omega)), nI_p1]
      by_cases hsub : s &&& m = s
      · rw [if_pos ((sub_0 hs).mpr hsub), bitc_n _ (by omega), Option.bind_some, tally_c hp k0 hl hR (by omega), Option.bind_some, verdictOf_c (by omega) (by omega), Option.bind_some, Option.bind_some]
        show ∃ a', (if nI (pc s) < z.2 then (if pv C L R n s = nI v then _ else _) else _) = _ ∧ _
        have hle : pc s ≤ pc m := by
          have := (pc_and (s := m) (m := s) hm).1
          rw [Nat.and_comm, hsub] at this; exact this
        rcases hI with ⟨rfl, hI⟩ | ⟨q, q1, q2, q3, rfl, q4⟩
        · simp only
          rw [if_pos (lt_lit (by omega) (by omega))]
          by_cases hpv : pv C L R n s = nI v
          · rw [if_pos hpv]
            refine ⟨(nI s, nI (pc s)), rfl, Or.inr ⟨s, by omega, hsub, by simpa using hpv, rfl, fun t ht ht2 ht3 => ?_⟩⟩
            by_cases e : t = s
            · subst e; right; exact ⟨rfl, Nat.le_refl _⟩
            · have := hI t (by omega) ht2; rw [this] at ht3; simp at ht3
          · rw [if_neg hpv]
            refine ⟨(-1, nI (pc m + 1)), rfl, Or.inl ⟨rfl, fun t ht ht2 => ?_⟩⟩
            by_cases e : t = s
            · subst e; simpa using hpv
            · exact hI t (by omega) ht2
        · simp only
          have hpq := pc_le q
          by_cases hlt : pc s < pc q
          · rw [if_pos (lt_lit hlt (by omega))]
            by_cases hpv : pv C L R n s = nI v
            · rw [if_pos hpv]
              refine ⟨(nI s, nI (pc s)), rfl, Or.inr ⟨s, by omega, hsub, by simpa using hpv, rfl, fun t ht ht2 ht3 => ?_⟩⟩
              by_cases e : t = s
              · subst e; right; exact ⟨rfl, Nat.le_refl _⟩
              · have := q4 t (by omega) ht2 ht3; omega
            · rw [if_neg hpv]
              refine ⟨(nI q, nI (pc q)), rfl, Or.inr ⟨q, by omega, q2, q3, rfl, fun t ht ht2 ht3 => ?_⟩⟩
              by_cases e : t = s
              · subst e; exact absurd (by simpa using ht3) hpv
              · exact q4 t (by omega) ht2 ht3
          · rw [if_neg (nlt_lit (by omega) (by omega))]
            refine ⟨(nI q, nI (pc q)), rfl, Or.inr ⟨q, by omega, q2, q3, rfl, fun t ht ht2 ht3 => ?_⟩⟩
            by_cases e : t = s
            · subst e; omega
            · exact q4 t (by omega) ht2 ht3
      · rw [if_neg (fun z => hsub ((sub_0 hs).mp z))]
        refine ⟨z, rfl, ?_⟩
        rcases hI with ⟨rfl, hI⟩ | ⟨q, q1, q2, q3, rfl, q4⟩
        · refine Or.inl ⟨rfl, fun t ht ht2 => ?_⟩
          by_cases e : t = s
          · subst e; exact absurd ht2 hsub
          · exact hI t (by omega) ht2
        · refine Or.inr ⟨q, by omega, q2, q3, rfl, fun t ht ht2 ht3 => ?_⟩
          by_cases e : t = s
          · subst e; exact absurd ht2 hsub
          · exact q4 t (by omega) ht2 ht3) (by
      intro z fu hI
      refine ⟨z.1, by rw [X7_persuade_L66, if_neg (by decide)], ?_⟩
      have hand : ∀ t, t < 1024 → t &&& m < 1024 := fun t ht => Nat.lt_of_le_of_lt Nat.and_le_left ht
      have hidm : ∀ t, (t &&& m) &&& m = t &&& m := fun t => by rw [Nat.and_assoc, Nat.and_self]
      rcases hI with ⟨rfl, hI⟩ | ⟨q, q1, q2, q3, rfl, q4⟩
      · refine Or.inr ⟨fun t ht => ?_, rfl⟩
        have := hI (t &&& m) (hand t ht) (hidm t)
        simp only [hps] at this; exact this
      · refine Or.inl ⟨q, ⟨q1, q3, fun t ht ht3 => ?_⟩, rfl⟩
        have h1 := q4 (t &&& m) (hand t ht) (hidm t) (by simp only [hps]; exact ht3)
        have h2 := pc_and (m := m) ht
        by_cases e : pc (t &&& m) = pc t
        · rw [h2.2 e] at h1; exact h1
        · omega) (-1, nI (pc m + 1)) FU (Or.inl ⟨rfl, fun t ht => by omega⟩) (FU_gt (by omega))
  exact ⟨a, by rw [nI_p1]; exact e, ha⟩
/-! the model's -/
def PS (h : HA) (b : Nat) (D : DT) (α : Nat → Nat) (lm : Nat → Nat → Nat) (im : Nat → Option (Nat × DT)) (c t r : Nat) (C L : CR) (n : Nat) : Prop := IV h b D α lm im ∧ MP h (b + 55) c t C L (fun _ => 0) n ∧ gi h (b + 55) 47 = nI r ∧ r < dN D 2 ∧ ∀ j, j < cJ C → gi h (b + 82) j = nI (kn C L (fun _ => 0) n j)
theorem PS_ch {h h1 : HA} {b : Nat} {D : DT} {α : Nat → Nat} {lm : Nat → Nat → Nat} {im : Nat → Option (Nat × DT)} {c t r : Nat} {C L : CR} {n : Nat} (ps : PS h b D α lm im c t r C L n) (p : ch (fun a _ => a = b + 81) h h1) : PS h1 b D α lm im c t r C L n :=
  ⟨IV_ch ps.1 p (fun x k w => Sc_m (by omega)), MP_ch ps.2.1 p (fun a k w => by omega), by rw [p.gi (by omega)]; exact ps.2.2.1, ps.2.2.2.1, fun j hj => by rw [p.gi (by omega)]; exact ps.2.2.2.2 j hj⟩
theorem pers92 {h : HA} {b : Nat} {D : DT} {α : Nat → Nat} {lm : Nat → Nat → Nat} {im : Nat → Option (Nat × DT)} {c t r s : Nat} {C L : CR} {n : Nat} (ps : PS h b D α lm im c t r C L n) (hs10 : s < 1024) :
    ∃ h1, X8_persuade_L92 (b + 55) (nI s) FU h 0 = some h1 ∧ PS h1 b D α lm im c t r C L n ∧ X8_verdict h1 (b + 55) = some (pv C L (dR D 2 r) n s) := by
  have h6 := ps.2.1.1.1.2.1.2.2.1.1
  obtain ⟨h1, e1, c1, v1⟩ := loop_inv (fun fu k (h : HA) => X8_persuade_L92 (b + 55) (nI s) fu h (nI k)) (fun k h1 => ch (fun a _ => a = b + 81) h h1 ∧ ∀ j, j < k → gi h1 (b + 81) j = vby (dR D 2 r) (kn C L (fun _ => 0) n j ||| s))
    (fun h1 => ch (fun a _ => a = b + 81) h h1 ∧ ∀ j, j < cJ C → gi h1 (b + 81) j = vby (dR D 2 r) (kn C L (fun _ => 0) n j ||| s)) (cJ C) (by
      intro k h1 fu hk hI
      obtain ⟨i1, i2⟩ := hI
      have p1 := PS_ch ps i1
      have hs := p1.2.1.1.1
      refine ⟨si h1 (b + 81) k (vby (dR D 2 r) (kn C L (fun _ => 0) n k ||| s)), ?_, i1.tr (ch_si rfl), fun j hj => ?_⟩
      · show X8_persuade_L92 (b + 55) (nI s) (fu + 1) h1 (nI k) = _
        rw [X8_persuade_L92, ms_I hs.1, hs.2.2.2.2.2.2.2.1, Option.bind_some, if_pos (lt_lit hk (by omega)), ms_r48 hs.1, Option.bind_some, ms_r49 hs.1, Option.bind_some, ldI_n (ms_k49 hs.1) (by omega) (by omega), show b + 55 + 27 = b + 82 from rfl, p1.2.2.2.2 k hk, Option.bind_some, nI_or, voteBy_n p1.1 p1.2.2.2.1 p1.2.2.1 (or_1024 (kn_lt (mp_L p1.2.1) p1.2.1.2.2.2.2.1) hs10), Option.bind_some, asI_n (ms_k48 hs.1) (by omega) (by omega), Option.bind_some, nI_p1]
      · rw [gi_si]
        by_cases e : j = k
        · subst e; rw [if_pos ⟨rfl, rfl⟩]
        · rw [if_neg (by omega)]; exact i2 j (by omega)) (by
      intro h1 fu hI
      have hs := (PS_ch ps hI.1).2.1.1.1
      refine ⟨h1, ?_, hI⟩
      show X8_persuade_L92 (b + 55) (nI s) (fu + 1) h1 (nI (cJ C)) = _
      rw [X8_persuade_L92, ms_I hs.1, hs.2.2.2.2.2.2.2.1, Option.bind_some, if_neg (nlt_lit (Nat.le_refl _) (by omega))]) h FU ⟨ch_rf _ _, fun j hj => by omega⟩ (FU_gt (by omega))
  have p1 := PS_ch ps c1
  refine ⟨h1, e1, p1, ?_⟩
  rw [verdict_n p1.2.1.1.1, show b + 55 + 26 = b + 81 from rfl, vsum_cong (g := fun j => vby (dR D 2 r) (kn C L (fun _ => 0) n j ||| s)) v1]; rfl
theorem pers71 {b : Nat} {D : DT} {α : Nat → Nat} {lm : Nat → Nat → Nat} {im : Nat → Option (Nat × DT)} {c t r v q : Nat} {C L : CR} {n : Nat} (hq : q < 100) : ∀ (d s fu : Nat) (h : HA), s + d = 1024 → d < fu → PS h b D α lm im c t r C L n →
    ∃ z, X8_persuade_L71 (b + 55) (nI v) (nI q) fu h (nI s) = some z ∧
      ((∃ s1 h1, z = .inl (nI s1, h1) ∧ IV h1 b D α lm im ∧ s ≤ s1 ∧ s1 < 1024 ∧ pc s1 = q ∧ pv C L (dR D 2 r) n s1 = nI v ∧ ∀ u, s ≤ u → u < s1 → pc u = q → ¬ pv C L (dR D 2 r) n u = nI v) ∨
       (∃ h1, z = .inr h1 ∧ PS h1 b D α lm im c t r C L n ∧ ∀ u, s ≤ u → u < 1024 → pc u = q → ¬ pv C L (dR D 2 r) n u = nI v)) := by
  intro d
  induction d with
  | zero =>
    intro s fu h hs hfu ps
    obtain ⟨fu, rfl⟩ : ∃ q, fu = q + 1 := ⟨fu - 1, by omega⟩
    have : s = 1024 := by omega
    subst this
    exact ⟨_, by rw [X8_persuade_L71, if_neg (by decide)], Or.inr ⟨h, rfl, ps, fun u h1 h2 => by omega⟩⟩
  | succ d ih =>
    intro s fu h hs hfu ps
    obtain ⟨fu, rfl⟩ : ∃ q, fu = q + 1 := ⟨fu - 1, by omega⟩
    have hpc := pc_le s
    rw [X8_persuade_L71, if_pos (show nI s < 1024 from lt_lit (n := 1024) (by omega) (by omega)), ones_n _ (by omega), Option.bind_some, nI_p1]
    by_cases e : pc s = q
    · rw [if_pos (by rw [e])]
      obtain ⟨h1, e1, p1, v1⟩ := pers92 ps (show s < 1024 by omega)
      rw [e1, Option.bind_some, v1, Option.bind_some]
      by_cases e2 : pv C L (dR D 2 r) n s = nI v
      · rw [if_pos e2]
        exact ⟨_, rfl, Or.inl ⟨s, h1, rfl, p1.1, Nat.le_refl _, by omega, e, e2, fun u h2 h3 => by omega⟩⟩
      · rw [if_neg e2]
        obtain ⟨z, z1, z2⟩ := ih (s + 1) fu h1 (by omega) (by omega) p1
        refine ⟨z, z1, ?_⟩
        rcases z2 with ⟨s1, h2, a1, a2, a3, a4, a5, a6, a7⟩ | ⟨h2, a1, a2, a3⟩
        · refine Or.inl ⟨s1, h2, a1, a2, by omega, a4, a5, a6, fun u u1 u2 u3 => ?_⟩
          by_cases e3 : u = s
          · subst e3; exact e2
          · exact a7 u (by omega) u2 u3
        · refine Or.inr ⟨h2, a1, a2, fun u u1 u2 u3 => ?_⟩
          by_cases e3 : u = s
          · subst e3; exact e2
          · exact a3 u (by omega) u2 u3
    · rw [if_neg (fun z => e (nI_inj (by omega) (by omega) z))]
      obtain ⟨z, z1, z2⟩ := ih (s + 1) fu h (by omega) (by omega) ps
      refine ⟨z, z1, ?_⟩
      rcases z2 with ⟨s1, h2, a1, a2, a3, a4, a5, a6, a7⟩ | ⟨h2, a1, a2, a3⟩
      · refine Or.inl ⟨s1, h2, a1, a2, by omega, a4, a5, a6, fun u u1 u2 u3 => ?_⟩
        by_cases e3 : u = s
        · subst e3; exact absurd u3 e
        · exact a7 u (by omega) u2 u3
      · refine Or.inr ⟨h2, a1, a2, fun u u1 u2 u3 => ?_⟩
        by_cases e3 : u = s
        · subst e3; exact absurd u3 e
        · exact a3 u (by omega) u2 u3
theorem pers61 {b : Nat} {D : DT} {α : Nat → Nat} {lm : Nat → Nat → Nat} {im : Nat → Option (Nat × DT)} {c t r v : Nat} {C L : CR} {n : Nat} : ∀ (d q fu : Nat) (h : HA), q + d = 11 → d < fu → PS h b D α lm im c t r C L n → (∀ u, u < 1024 → pv C L (dR D 2 r) n u = nI v → q ≤ pc u) →
    ∃ a h1, X8_persuade_L61 (b + 55) (nI v) fu h (nI q) = some (a, h1) ∧ IV h1 b D α lm im ∧ PA (fun s => decide (pv C L (dR D 2 r) n s = nI v)) a := by
  intro d
  induction d with
  | zero =>
    intro q fu h hq hfu ps hI
    obtain ⟨fu, rfl⟩ : ∃ q, fu = q + 1 := ⟨fu - 1, by omega⟩
    have : q = 11 := by omega
    subst this
    refine ⟨-1, h, by rw [X8_persuade_L61, if_pos (by decide)], ps.1, Or.inr ⟨fun u hu => ?_, rfl⟩⟩
    cases e : decide (pv C L (dR D 2 r) n u = nI v)
    · exact e
    · have := hI u hu (by simpa using e)
      have := pc_10 hu
      omega
  | succ d ih =>
    intro q fu h hq hfu ps hI
    obtain ⟨fu, rfl⟩ : ∃ q, fu = q + 1 := ⟨fu - 1, by omega⟩
    obtain ⟨z, z1, z2⟩ := pers71 (v := v) (q := q) (by omega) 1024 0 FU h (by omega) (FU_gt (by omega)) ps
    rw [X8_persuade_L61, if_neg (show ¬ 10 < nI q from fun z => by have := (lt_n (a := 10) (by omega) (by omega)).mp z; omega), show X8_persuade_L71 (b + 55) (nI v) (nI q) FU h 0 = _ from z1, Option.bind_some]
    rcases z2 with ⟨s1, h2, rfl, a2, a3, a4, a5, a6, a7⟩ | ⟨h2, rfl, a2, a3⟩
    · refine ⟨nI s1, h2, rfl, a2, Or.inl ⟨s1, ⟨a4, by simpa using a6, fun u hu hu2 => ?_⟩, rfl⟩⟩
      have hu3 : pv C L (dR D 2 r) n u = nI v := by simpa using hu2
      have h3 := hI u hu hu3
      by_cases e : pc u = q
      · right
        refine ⟨by omega, ?_⟩
        by_cases e2 : s1 ≤ u
        · exact e2
        · exact absurd hu3 (a7 u (by omega) (by omega) e)
      · left; omega
    · dsimp only
      rw [nI_p1]
      refine ih (q + 1) fu h2 (by omega) (by omega) a2 (fun u hu hu3 => ?_)
      have h3 := hI u hu hu3
      by_cases e : pc u = q
      · exact absurd hu3 (a3 u (by omega) hu e)
      · omega
def PQ (D : DT) (x y l w : Int32) (r : Int32) : Prop := if (((rg x (dN D 0) && rg y (dN D 1)) && rg l (dN D 2)) && rg w 2) = true then PA (fun s => decide (pv (dC D (tn x)) (dR D 1 (tn y)) (dR D 2 (tn l)) (stD D x y) s = w)) r else r = -1
theorem PQ_u {D : DT} {x y l w r1 r2 : Int32} (h1 : PQ D x y l w r1) (h2 : PQ D x y l w r2) : r1 = r2 := by
  unfold PQ at h1 h2
  split at h1
  · rename_i h; rw [if_pos h] at h2; exact PA_u h1 h2
  · rename_i h; rw [if_neg h] at h2; rw [h1, h2]
theorem PQ_f {D : DT} {x y l w : Int32} (h : (((rg x (dN D 0) && rg y (dN D 1)) && rg l (dN D 2)) && rg w 2) = false) : PQ D x y l w (-1) := by
  unfold PQ; rw [h]; rfl
theorem PQ_t {D : DT} (hd : WD D) {a t r v : Nat} {z : Int32} (ha : a < dN D 0) (ht : t < dN D 1) (hr : r < dN D 2) (hv : v < 2) (h : PA (fun s => decide (pv (dC D a) (dR D 1 t) (dR D 2 r) (so (dC D a) (dR D 1 t) (llen (dR D 1 t))) s = nI v)) z) : PQ D (nI a) (nI t) (nI r) (nI v) z := by
  have h0 := hd.2.1 0 (by omega)
  have h1 := hd.2.1 1 (by omega)
  have h2 := hd.2.1 2 (by omega)
  unfold PQ
  rw [if_pos (by rw [rg_n (by omega), rg_n (by omega), rg_n (by omega), rg_n (by omega)]; simp [ha, ht, hr, hv]), est hd ha ht, tnE hd (by omega) ha, tnE hd (by omega) ht, tnE hd (by omega) hr]
  exact h
theorem c_persuade {h : HA} {b : Nat} {D : DT} {α : Nat → Nat} {lm : Nat → Nat → Nat} {im : Nat → Option (Nat × DT)} (hi : IV h b D α lm im) (x y l w : Int32) : ∃ r, AC b D α lm im (X7_persuade h b x y l w) r ∧ PQ D x y l w r := by
  unfold X7_persuade
  rw [if_pos (fx_c hi.1)]
  rcases listAt_ok hi (s := 2) (by omega) (by omega) l with ⟨h3, h4⟩ | ⟨r, hr, rfl, hr2, e4⟩
  · rw [show X7_listAt h b 2 l = _ from h4, Option.bind_some]
    have hq : PQ D x y l w (-1) := PQ_f (by rw [h3, Bool.and_false]; rfl)
    dsimp only
    rcases hallOf_ok hi x y with ⟨h1, h2, e2, i2⟩ | ⟨a, t, h2, ha, ht, rfl, rfl, hr, e2, i2, hp⟩
    · rw [e2]; exact ⟨-1, ⟨h2, rfl, i2⟩, hq⟩
    · rw [e2]; exact ⟨-1, ⟨h2, rfl, i2⟩, hq⟩
  · rw [show X7_listAt h b 2 (nI r) = _ from e4, Option.bind_some]
    dsimp only
    rcases hallOf_ok hi x y with ⟨h1, h2, e2, i2⟩ | ⟨a, t, h2, ha, ht, rfl, rfl, hr3, e2, i2, hp⟩
    · rw [e2]; exact ⟨-1, ⟨h2, rfl, i2⟩, PQ_f (by rw [h1]; rfl)⟩
    · obtain ⟨h5, e5, i5, p5, k5⟩ := learnAll_ok i2 hp
      have hL := hp_L hp
      have hll := iv_ll i5 (by omega) (by omega) hr
      have hR := iv_wl i5 (by omega) (by omega) hr
      have h6 := hb_6 hp.1
      rw [e2, Option.bind_some]
      dsimp only
      rcases i_nat w with hw | ⟨v, hv, rfl⟩
      · rw [if_pos hw]; exact ⟨-1, ⟨h2, rfl, i2⟩, PQ_f (by rw [neg_rg hw, Bool.and_false])⟩
      · rw [if_neg (nI_lt0 hv)]
        by_cases hv2 : v < 2
        · obtain ⟨z, z1, z2⟩ := pers_c p5 k5 hll hR hv2
          rw [if_neg (show ¬ 1 < nI v from fun z => by have := (lt_n (a := 1) (by omega) hv).mp z; omega), e5, Option.bind_some, namedIn_c hll hR, Option.bind_some, bitc_n _ (nmd_lt hR (Nat.le_refl _)), Option.bind_some, z1, Option.bind_some]
          exact ⟨z, ⟨h5, rfl, i5⟩, PQ_t (iv_w hi) ha ht hr hv2 z2⟩
        · rw [if_pos (show 1 < nI v from (lt_n (a := 1) (by omega) hv).mpr (by omega))]
          exact ⟨-1, ⟨h2, rfl, i2⟩, PQ_f (by rw [rg_n hv, show decide (v < 2) = false by simpa using hv2, Bool.and_false])⟩
theorem m_persuade {h : HA} {b : Nat} {D : DT} {α : Nat → Nat} {lm : Nat → Nat → Nat} {im : Nat → Option (Nat × DT)} (hi : IV h b D α lm im) (x y l w : Int32) : ∃ r, AC b D α lm im (X8_persuade h (b + 55) x y l w) r ∧ PQ D x y l w r := by
  unfold X8_persuade
  rw [if_pos (ms_c (iv_ms hi)), ms_p (iv_ms hi), Option.bind_some]
  have hi0 := IV_m0 hi 0 0
  rw [show X8_in w 0 1 = _ from in_rn w (n := 1) (by omega), Option.bind_some]
  cases hw : rg w (1 + 1) with
  | false => exact ⟨-1, ⟨_, rfl, hi0⟩, PQ_f (by rw [show rg w 2 = false from hw, Bool.and_false])⟩
  | true =>
    obtain ⟨v, hv2, rfl⟩ := (rg_iff (by omega)).mp hw
    rw [if_neg (by decide)]
    rcases layVotes_ok hi0 x y l with ⟨h1, h2, e2, i2⟩ | ⟨a, t, r, h2, ha, ht, hr, rfl, rfl, rfl, hc, e2, i2, mp, g47, vt⟩
    · rw [e2]; exact ⟨-1, ⟨h2, rfl, i2⟩, PQ_f (by rw [h1]; rfl)⟩
    · have h6 := mp.2.1.1.2.2.1.1
      rw [e2, Option.bind_some]
      dsimp only
      rw [if_neg (by decide)]
      obtain ⟨h3, e3, c3, v3⟩ := loop_inv (fun fu k (h : HA) => X8_persuade_L30 (b + 55) fu h (nI k)) (fun k h1 => ch (fun a _ => a = b + 82) h2 h1 ∧ ∀ j, j < k → gi h1 (b + 82) j = nI (kn (dC D a) (dR D 1 t) (fun _ => 0) (so (dC D a) (dR D 1 t) (llen (dR D 1 t))) j))
        (fun h1 => ch (fun a _ => a = b + 82) h2 h1 ∧ ∀ j, j < cJ (dC D a) → gi h1 (b + 82) j = nI (kn (dC D a) (dR D 1 t) (fun _ => 0) (so (dC D a) (dR D 1 t) (llen (dR D 1 t))) j)) (cJ (dC D a)) (by
          intro k h1 fu hk hI
          obtain ⟨j1, j2⟩ := hI
          have mp1 := MP_ch mp j1 (fun a k w => by omega)
          have hs := mp1.1.1
          refine ⟨si h1 (b + 82) k (nI (kn (dC D a) (dR D 1 t) (fun _ => 0) (so (dC D a) (dR D 1 t) (llen (dR D 1 t))) k)), ?_, j1.tr (ch_si rfl), fun j hj => ?_⟩
          · show X8_persuade_L30 (b + 55) (fu + 1) h1 (nI k) = _
            rw [X8_persuade_L30, ms_I hs.1, hs.2.2.2.2.2.2.2.1, Option.bind_some, if_pos (lt_lit hk (by omega)), ms_r49 hs.1, Option.bind_some, known_n mp1 hk, Option.bind_some, asI_n (ms_k49 hs.1) (by omega) (by omega), Option.bind_some, nI_p1]
          · rw [gi_si]
            by_cases e : j = k
            · subst e; rw [if_pos ⟨rfl, rfl⟩]
            · rw [if_neg (by omega)]; exact j2 j (by omega)) (by
          intro h1 fu hI
          have hs := (MP_ch mp hI.1 (fun a k w => by omega)).1.1
          refine ⟨h1, ?_, hI⟩
          show X8_persuade_L30 (b + 55) (fu + 1) h1 (nI (cJ (dC D a))) = _
          rw [X8_persuade_L30, ms_I hs.1, hs.2.2.2.2.2.2.2.1, Option.bind_some, if_neg (nlt_lit (Nat.le_refl _) (by omega))]) h2 FU ⟨ch_rf _ _, fun j hj => by omega⟩ (FU_gt (by omega))
      have ps : PS h3 b D α lm im a t r (dC D a) (dR D 1 t) (so (dC D a) (dR D 1 t) (llen (dR D 1 t))) := ⟨IV_ch i2 c3 (fun x k w => Sc_m (by omega)), MP_ch mp c3 (fun a k w => by omega), by rw [c3.gi (by omega)]; exact g47, hr, v3⟩
      obtain ⟨z, h5, z1, z2, z3⟩ := pers61 (v := v) 11 0 FU h3 (by omega) (FU_gt (by omega)) ps (fun u _ _ => by omega)
      refine ⟨z, ⟨h5, ?_, z2⟩, PQ_t (iv_w hi) ha ht hr hv2 z3⟩
      rw [show X8_persuade_L30 (b + 55) FU h2 0 = _ from e3, Option.bind_some]; exact z1
