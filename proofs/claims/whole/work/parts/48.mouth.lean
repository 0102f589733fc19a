/-! MOUTH -/
theorem pc_msk {p : Nat → Bool} {n : Nat} (hn : n ≤ 16) : pc (msk p n) = cnt p n := by
  unfold pc
  rw [cnt_ext (n := n) (m := 16) hn (fun i h1 _ => by rw [msk_bit]; simp; omega)]
  exact cnt_cong (fun i hi => by rw [msk_bit]; simp [hi])
def mob (C L : CR) (p k : Nat) : Nat := if (sd L k && decide (who L k = p)) = true then cnt (hdj C L (fun _ => 0) k) (cJ C) else 0
def mos (C L : CR) (n p : Nat) : Nat := sumf (mob C L p) n
theorem sumf_le {v : Nat → Nat} {m n : Nat} (h : ∀ i, i < n → v i ≤ m) : sumf v n ≤ m * n := by
  induction n with
  | zero => exact Nat.le_refl _
  | succ n ih => have := ih (fun i hi => h i (by omega)); have := h n (by omega); show sumf v n + v n ≤ _; rw [Nat.mul_succ]; omega
theorem hearersOf_c {h : HA} {b c l p : Nat} {C L : CR} {n : Nat} (hp : HP h b c l C L (fun _ => 0) n) (hpp : p < 4) : X1_hearersOf h (b + 46) (nI p) = some (nI (mos C L n p)) := by
  have h6 := hb_6 hp.1
  have hL := hp_L hp
  have h30 := llen_30 hL
  have hn := hp.2.2.1
  unfold X1_hearersOf
  have hl2 := loop_st (fun fu k (z : Int32) => X1_hearersOf_L4 h (b + 46) (nI p) fu z (nI k)) (fun k => nI (sumf (mob C L p) k)) (some (nI (mos C L n p))) n (fun k fu hk => by
    try simp only []
    rw [X1_hearersOf_L4, gI_n (fx_hk hp.1.1), hp.2.1, Option.bind_some, if_pos (lt_lit hk (by omega)), isSaid_c hp.1 (by omega), Option.bind_some, nI_p1, sumf]
    unfold mob
    cases hs : sd L k with
    | false => rw [if_pos (by decide)]; rfl
    | true =>
      obtain ⟨s0, s1, s2, s3, s4, s5, s6⟩ := say_c hL (show k < llen L by omega) hs
      rw [if_neg (by decide), hb_l hp.1, Option.bind_some, show X2_at h l (nI k) 1 = _ from hb_at (w := 1) hp.1 (by omega) (by omega), Option.bind_some, s4, Bool.true_and]
      by_cases e : who L k = p
      · have h64 : hrs C L (fun _ => 0) k < 64 := Nat.lt_of_lt_of_le (msk_lt _ _) (Nat.pow_le_pow_right (by omega) h6)
        rw [if_pos (by rw [e]), hearers_c hp hk hs, Option.bind_some, bitc_n _ (by omega), Option.bind_some, nI_add, if_pos (by simpa using e)]
        unfold hrs
        rw [pc_msk (by omega)]
      · rw [if_neg (fun z => e (nI_inj (by omega) (by omega) z)), if_neg (by simpa using e)]; rfl)
    (fun fu => by (try simp only []); rw [X1_hearersOf_L4, gI_n (fx_hk hp.1.1), hp.2.1, Option.bind_some, if_neg (nlt_lit (Nat.le_refl _) (by omega))]; rfl) FU (FU_gt (by omega))
  rw [if_pos (hb_t hp.1), show X1_hearersOf_L4 h (b + 46) (nI p) FU 0 0 = _ from hl2, Option.bind_some]
def mth (C L : CR) (n : Nat) : Int32 × Int32 := amx (fun p => nI (mos C L n p)) (-1) 0 (cP C)
def qmouth (D : DT) (x y v : Int32) : Int32 := if (rg x (dN D 0) && rg y (dN D 1)) = true then (let s := mth (dC D (tn x)) (dR D 1 (tn y)) (stD D x y); if s.1 = -1 then -1 else if v = 0 then s.1 else s.2) else -1
theorem c_mouth {h : HA} {b : Nat} {D : DT} {α : Nat → Nat} {lm : Nat → Nat → Nat} {im : Nat → Option (Nat × DT)} (hi : IV h b D α lm im) (x y v : Int32) : AC b D α lm im (X7_mouth h b x y v) (qmouth D x y v) := by
  unfold X7_mouth qmouth
  rw [if_pos (fx_c hi.1)]
  rcases hallOf_ok hi x y with ⟨h1, h2, e2, i2⟩ | ⟨a, t, h2, ha, ht, rfl, rfl, hr, e2, i2, hp⟩
  · rw [e2, h1]; exact ⟨h2, rfl, i2⟩
  · have h4 := (hp_wf hp).1.2.2.2.1.1
    rw [e2, hr, Option.bind_some, if_pos rfl, est (iv_w hi) ha ht, tnE (iv_w hi) (by omega) ha, tnE (iv_w hi) (by omega) ht]
    dsimp only
    refine ⟨h2, ?_, i2⟩
    generalize so (dC D a) (dR D 1 t) (llen (dR D 1 t)) = n at *
    have hl2 := loop_st (fun fu p (z : Int32 × Int32) => X7_mouth_L24 h2 (b + 46) fu z.1 z.2 (nI p)) (fun p => amx (fun p => nI (mos (dC D a) (dR D 1 t) n p)) (-1) 0 p) (some (mth (dC D a) (dR D 1 t) n)) (cP (dC D a)) (fun p fu hpp => by
      try simp only []
      rw [X7_mouth_L24, hb_c hp.1, Option.bind_some, hb_np hp.1, Option.bind_some, if_pos (lt_lit hpp (by omega)), hearersOf_c hp (by omega), Option.bind_some, nI_p1, amx]
      by_cases e : (amx (fun p => nI (mos (dC D a) (dR D 1 t) n p)) (-1) 0 p).2 < nI (mos (dC D a) (dR D 1 t) n p)
      · rw [if_pos e, if_pos e]
      · rw [if_neg e, if_neg e])
      (fun fu => by (try simp only []); rw [X7_mouth_L24, hb_c hp.1, Option.bind_some, hb_np hp.1, Option.bind_some, if_neg (nlt_lit (Nat.le_refl _) (by omega))]; rfl) FU (FU_gt (by omega))
    rw [show X7_mouth_L24 h2 (b + 46) FU (-1) 0 0 = _ from hl2, Option.bind_some]
    generalize mth (dC D a) (dR D 1 t) n = s
    obtain ⟨s1, s2⟩ := s
    dsimp only
    by_cases hv : v = 0
    · rw [if_pos hv]
      by_cases e : s1 = -1
      · rw [if_pos e, e]
      · rw [if_neg e, if_pos hv]
    · rw [if_neg hv]
      by_cases e : s1 = -1
      · rw [if_pos e, if_pos e, e]
      · rw [if_neg e, if_neg e, if_neg hv]
theorem mouth52 {h : HA} {m c t k p a0 : Nat} {C L : CR} {n : Nat} (mp : MP h m c t C L (fun _ => 0) n) (hk : k < n) (hpp : p < 4) (ha0 : a0 < 10000) : X8_mouth_L52 h m (nI p) (nI k) FU (nI a0) 0 = some (nI (a0 + mob C L p k)) := by
  have hs := mp.1.1
  have h6 := hs.2.1.2.2.1.1
  have hw := mp.2.1
  have hL := mp_L mp
  have h30 := llen_30 hL
  have hn := mp.2.2.2.2.1
  have e0 : mob C L p k = cnt (fun j => (sd L k && decide (who L k = p)) && hdj C L (fun _ => 0) k j) (cJ C) := by
    unfold mob
    cases sd L k && decide (who L k = p)
    · rw [if_neg (by decide)]
      have : ∀ n, cnt (fun j => false && hdj C L (fun _ => 0) k j) n = 0 := by
        intro n
        induction n with
        | zero => rfl
        | succ n ih => show cnt _ n + _ = 0; rw [ih]; rfl
      rw [this]
    · rw [if_pos rfl]; exact cnt_cong (fun _ _ => rfl)
  rw [e0]
  exact loop_st (fun fu j (z : Int32) => X8_mouth_L52 h m (nI p) (nI k) fu z (nI j)) (fun j => nI (a0 + cnt (fun j => (sd L k && decide (who L k = p)) && hdj C L (fun _ => 0) k j) j)) (some (nI (a0 + cnt (fun j => (sd L k && decide (who L k = p)) && hdj C L (fun _ => 0) k j) (cJ C)))) (cJ C) (fun j fu hj => by
    try simp only []
    obtain ⟨_, w1, w2, w3, w4, w5⟩ := hw.2.1 j hj
    rw [X8_mouth_L52, ms_I hs.1, hs.2.2.2.2.2.2.2.1, Option.bind_some, if_pos (lt_lit hj (by omega)), ms_r42 hs.1, Option.bind_some, mp_said mp hk, Option.bind_some, nI_p1, nI_p1, Int32.add_zero]
    rw [show cnt (fun j => (sd L k && decide (who L k = p)) && hdj C L (fun _ => 0) k j) (j + 1) = cnt (fun j => (sd L k && decide (who L k = p)) && hdj C L (fun _ => 0) k j) j + (if ((sd L k && decide (who L k = p)) && hdj C L (fun _ => 0) k j) = true then 1 else 0) from rfl]
    cases hsd : sd L k with
    | false =>
      rw [if_pos (show (if false = true then nI (wrd L k) else -1) = -1 from rfl), Option.bind_some, if_pos rfl]; rfl
    | true =>
      obtain ⟨s0, s1, s2, s3, s4, s5, s6⟩ := say_c hL (show k < llen L by omega) hsd
      rw [if_neg (show ¬ (if true = true then nI (wrd L k) else -1) = -1 from nI_nm1 (by omega)), show X8_deedOf h m (nI k) 1 = _ from deedT (w := 1) hs.1 mp.2.2.1 (by omega) (by omega), Option.bind_some, s4, Bool.true_and]
      by_cases e : who L k = p
      · rw [if_pos (by rw [e]), jo0 hs hw.2.1 hj, Option.bind_some, jo1 hs hw.2.1 hj, Option.bind_some, jo4 hs hw.2.1 hj, Option.bind_some, faces_n hs (by omega) (by omega) (by omega), Option.bind_some, earsOf_n hs hw.2.1 hj, Option.bind_some, jo3 hs hw.2.1 hj, Option.bind_some,
          show (jg C j 1 + k * jg C j 4) % 4 = fc C j k from rfl, hdj_n mp hk hj, Option.bind_some]
        simp only [e, decide_true, Bool.true_and]
        cases hdj C L (fun _ => 0) k j <;> rfl
      · rw [if_neg (fun z => e (nI_inj (by omega) (by omega) z))]
        simp only [e, decide_false, Bool.false_and]; rfl)
    (fun fu => by (try simp only []); rw [X8_mouth_L52, ms_I hs.1, hs.2.2.2.2.2.2.2.1, Option.bind_some, if_neg (nlt_lit (Nat.le_refl _) (by omega))]) FU (FU_gt (by omega))
theorem mob_le (C L : CR) (p k : Nat) (h : cJ C ≤ 6) : mob C L p k ≤ 6 := by
  unfold mob
  split
  · exact Nat.le_trans (cnt_le _ _) h
  · omega
theorem mouth40 {h : HA} {m c t p : Nat} {C L : CR} {n : Nat} (mp : MP h m c t C L (fun _ => 0) n) (hpp : p < 4) : X8_mouth_L40 h m (nI p) FU 0 0 = some (nI (mos C L n p)) := by
  have hs := mp.1.1
  have h6 := hs.2.1.2.2.1.1
  have hL := mp_L mp
  have h30 := llen_30 hL
  have hn := mp.2.2.2.2.1
  exact loop_st (fun fu k (z : Int32) => X8_mouth_L40 h m (nI p) fu z (nI k)) (fun k => nI (sumf (mob C L p) k)) (some (nI (mos C L n p))) n (fun k fu hk => by
    try simp only []
    have := sumf_le (v := mob C L p) (m := 6) (n := k) (fun i _ => mob_le C L p i h6)
    rw [X8_mouth_L40, ms_I hs.1, mp.2.2.2.1, Option.bind_some, if_pos (lt_lit hk (by omega)), mouth52 mp hk hpp (by omega), Option.bind_some, nI_p1]; rfl)
    (fun fu => by (try simp only []); rw [X8_mouth_L40, ms_I hs.1, mp.2.2.2.1, Option.bind_some, if_neg (nlt_lit (Nat.le_refl _) (by omega))]; rfl) FU (FU_gt (by omega))
theorem m_mouth {h : HA} {b : Nat} {D : DT} {α : Nat → Nat} {lm : Nat → Nat → Nat} {im : Nat → Option (Nat × DT)} (hi : IV h b D α lm im) (x y v : Int32) : AC b D α lm im (X8_mouth h (b + 55) x y v) (qmouth D x y v) := by
  unfold X8_mouth qmouth
  rw [if_pos (ms_c (iv_ms hi)), ms_p (iv_ms hi), Option.bind_some]
  have hi0 := IV_m0 hi 0 0
  rcases layTrial_ok hi0 x y with ⟨h1, h2, e2, i2⟩ | ⟨a, t, h2, ha, ht, rfl, rfl, hr, e2, i2, mp⟩
  · rw [e2, h1]; exact ⟨h2, rfl, i2⟩
  · have hs := mp.1.1
    have h4 := hs.2.1.2.2.2.1.1
    rw [e2, hr, Option.bind_some, if_pos rfl, est (iv_w hi) ha ht, tnE (iv_w hi) (by omega) ha, tnE (iv_w hi) (by omega) ht]
    dsimp only
    refine ⟨h2, ?_, i2⟩
    generalize so (dC D a) (dR D 1 t) (llen (dR D 1 t)) = n at *
    have hl2 := loop_st (fun fu p (z : Int32 × Int32) => X8_mouth_L25 h2 (b + 55) fu z.1 z.2 (nI p)) (fun p => amx (fun p => nI (mos (dC D a) (dR D 1 t) n p)) (-1) 0 p) (some (mth (dC D a) (dR D 1 t) n)) (cP (dC D a)) (fun p fu hpp => by
      try simp only []
      rw [X8_mouth_L25, ms_I hs.1, hs.2.2.2.2.2.2.2.2.1, Option.bind_some, if_pos (lt_lit hpp (by omega)), mouth40 mp (by omega), Option.bind_some, nI_p1, greater_n, amx]
      dsimp only [lett]
      rw [Option.bind_some]
      by_cases e : (amx (fun p => nI (mos (dC D a) (dR D 1 t) n p)) (-1) 0 p).2 < nI (mos (dC D a) (dR D 1 t) n p)
      · rw [if_pos e, if_pos e, if_pos e]
      · rw [if_neg e, if_neg e, if_neg e])
      (fun fu => by (try simp only []); rw [X8_mouth_L25, ms_I hs.1, hs.2.2.2.2.2.2.2.2.1, Option.bind_some, if_neg (nlt_lit (Nat.le_refl _) (by omega))]; rfl) FU (FU_gt (by omega))
    rw [if_neg (by decide), show X8_mouth_L25 h2 (b + 55) FU (-1) 0 0 = _ from hl2, Option.bind_some]
    generalize mth (dC D a) (dR D 1 t) n = s
    obtain ⟨s1, s2⟩ := s
    dsimp only
    by_cases e : s1 = -1
    · rw [if_pos e, if_pos e]
    · rw [if_neg e, if_neg e]
      by_cases hv : v = 0
      · rw [if_pos hv, if_pos hv]
      · rw [if_neg hv, if_neg hv]
/-! RIFT -/
theorem loop_st2 {α β : Type} (L : Nat → Nat → α → Option β) (S : Nat → α) (r : Option β) (N k0 : Nat) (h0 : k0 ≤ N)
    (step : ∀ k fu, k0 ≤ k → k < N → L (fu + 1) k (S k) = L fu (k + 1) (S (k + 1))) (fin : ∀ fu, L (fu + 1) N (S N) = r) (fu : Nat) (hf : N < fu) :
    L fu k0 (S k0) = r := by
  have key : ∀ n k fu, k0 ≤ k → k + n = N → n < fu → L fu k (S k) = r := by
    intro n
    induction n with
    | zero =>
      intro k fu _ hk hfu
      obtain ⟨q, rfl⟩ : ∃ q, fu = q + 1 := ⟨fu - 1, by omega⟩
      have : k = N := by omega
      subst this
      exact fin q
    | succ n ih =>
      intro k fu h1 hk hfu
      obtain ⟨q, rfl⟩ : ∃ q, fu = q + 1 := ⟨fu - 1, by omega⟩
      rw [step k q h1 (by omega)]
      exact ih (k + 1) q (by omega) (by omega) (by omega)
  exact key (N - k0) k0 fu (Nat.le_refl _) (by omega) (by omega)
abbrev RS : Type := Option (Nat × Nat) × Int32
def rst (K : Nat → Nat) (a b : Nat) (s : RS) : RS := if s.2 < nI (pc (K a ^^^ K b)) then (some (a, b), nI (pc (K a ^^^ K b))) else s
/-- the b's from a + 1 on, the first i of them -/
def rin (K : Nat → Nat) (a : Nat) (s : RS) : Nat → RS
  | 0 => s
  | i + 1 => rst K a (a + 1 + i) (rin K a s i)
def rou (K : Nat → Nat) (n : Nat) : Nat → RS
  | 0 => (none, -1)
  | a + 1 => rin K a (rou K n a) (n - (a + 1))
def rfa (s : RS) : Int32 := match s.1 with | none => 0 | some p => nI p.1
def rfb (s : RS) : Int32 := match s.1 with | none => 1 | some p => nI p.2
def rfm (s : RS) : Int32 := match s.1 with | none => -1 | some p => nI (6 * p.1 + p.2)
def rok (n : Nat) (s : RS) : Prop := ∀ p, s.1 = some p → p.1 < n ∧ p.2 < n
theorem rin_ok {K : Nat → Nat} {n a : Nat} {s : RS} (hs : rok n s) : ∀ {i : Nat}, a + 1 + i ≤ n → rok n (rin K a s i) := by
  intro i
  induction i with
  | zero => intro _; exact hs
  | succ i ih =>
    intro h
    have h1 := ih (by omega)
    rw [rin, rst]
    split
    · intro p hp; simp at hp; subst hp; exact ⟨by omega, by omega⟩
    · exact h1
theorem rou_ok {K : Nat → Nat} {n : Nat} : ∀ {a : Nat}, a ≤ n → rok n (rou K n a) := by
  intro a
  induction a with
  | zero => intro _ p hp; simp [rou] at hp
  | succ a ih =>
    intro h
    rw [rou]
    exact rin_ok (ih (by omega)) (by omega)
theorem rin_so {K : Nat → Nat} {a : Nat} {s : RS} (hs : s.1.isSome = true) : ∀ i, (rin K a s i).1.isSome = true := by
  intro i
  induction i with
  | zero => exact hs
  | succ i ih =>
    rw [rin, rst]
    split
    · rfl
    · exact ih
theorem rou_so {K : Nat → Nat} {n : Nat} (hn : 2 ≤ n) : ∀ a, 1 ≤ a → (rou K n a).1.isSome = true := by
  intro a
  induction a with
  | zero => intro h; omega
  | succ a ih =>
    intro _
    rw [rou]
    by_cases e : a = 0
    · subst e
      have h2 : ∀ i, 1 ≤ i → (rin K 0 (rou K n 0) i).1.isSome = true := by
        intro i
        induction i with
        | zero => intro h; omega
        | succ i ih2 =>
          intro _
          rw [rin, rst]
          split
          · rfl
          · rename_i h3
            by_cases e2 : i = 0
            · subst e2
              exact absurd (m1_lt (by have := pc_le (K 0 ^^^ K (0 + 1 + 0)); omega)) h3
            · exact ih2 (by omega)
      exact h2 (n - (0 + 1)) (by omega)
    · exact rin_so (ih (by omega)) _
theorem pcx (K : Nat → Nat) (hK : ∀ j, K j < 1024) (a b : Nat) : K a ^^^ K b < 1024 := Nat.xor_lt_two_pow (n := 10) (hK a) (hK b)
theorem rift63 {h : HA} {b c l a : Nat} {C L : CR} {n : Nat} (hp : HP h b c l C L (fun _ => 0) n) (k : KN h b C L (fun _ => 0) n) (ha : a < cJ C) (s : RS) : X7_rift_L63 h (b + 46) (nI a) FU (rfa s) (rfb s) s.2 (nI a + 1) = some (rfa (rin (kn C L (fun _ => 0) n) a s (cJ C - (a + 1))), rfb (rin (kn C L (fun _ => 0) n) a s (cJ C - (a + 1))), (rin (kn C L (fun _ => 0) n) a s (cJ C - (a + 1))).2) := by
  have h6 := hb_6 hp.1
  have hK : ∀ j, kn C L (fun _ => 0) n j < 1024 := fun j => kn_lt (hp_L hp) hp.2.2.1
  have hk9 : ∀ j, j < cJ C → gi h (b + 49) j = nI (kn C L (fun _ => 0) n j) := k
  clear k
  generalize kn C L (fun _ => 0) n = K at *
  have hl2 := loop_st2 (fun fu i (z : RS) => X7_rift_L63 h (b + 46) (nI a) fu (rfa z) (rfb z) z.2 (nI i)) (fun i => rin K a s (i - (a + 1))) (some (rfa (rin K a s (cJ C - (a + 1))), rfb (rin K a s (cJ C - (a + 1))), (rin K a s (cJ C - (a + 1))).2)) (cJ C) (a + 1) (by omega) (fun i fu h1 hi => by
    try simp only []
    have hpc := pc_le (K a ^^^ K i)
    have hka : ldI h (b + 49) 20 (nI a) = some (nI (K a)) := by rw [ldI_n (fx_k49 hp.1.1) (by omega) (by omega), hk9 a ha]
    have hki : ldI h (b + 49) 20 (nI i) = some (nI (K i)) := by rw [ldI_n (fx_k49 hp.1.1) (by omega) (by omega), hk9 i hi]
    rw [X7_rift_L63, hb_c hp.1, Option.bind_some, hb_nj hp.1, Option.bind_some, if_pos (lt_lit hi (by omega)), fx_r5 hp.1.1, Option.bind_some, hka, Option.bind_some, Option.bind_some, hki, Option.bind_some, nI_xor, bitc_n _ (pcx K hK a i), Option.bind_some, nI_p1]
    rw [show i + 1 - (a + 1) = (i - (a + 1)) + 1 by omega, rin, rst, show a + 1 + (i - (a + 1)) = i by omega]
    by_cases e : (rin K a s (i - (a + 1))).2 < nI (pc (K a ^^^ K i))
    · rw [if_pos e, if_pos e]; rfl
    · rw [if_neg e, if_neg e])
    (fun fu => by (try simp only []); rw [X7_rift_L63, hb_c hp.1, Option.bind_some, hb_nj hp.1, Option.bind_some, if_neg (nlt_lit (Nat.le_refl _) (by omega))]) FU (FU_gt (by omega))
  rw [nI_p1]
  have e0 : rin K a s (a + 1 - (a + 1)) = s := by rw [Nat.sub_self]; rfl
  simp only [e0] at hl2
  exact hl2
theorem rift44 {h : HA} {b c l : Nat} {C L : CR} {n : Nat} (hp : HP h b c l C L (fun _ => 0) n) (k : KN h b C L (fun _ => 0) n) : X7_rift_L44 h (b + 46) FU 0 1 (-1) 0 = some (rfa (rou (kn C L (fun _ => 0) n) (cJ C) (cJ C)), rfb (rou (kn C L (fun _ => 0) n) (cJ C) (cJ C)), (rou (kn C L (fun _ => 0) n) (cJ C) (cJ C)).2) := by
  have h6 := hb_6 hp.1
  exact loop_st (fun fu i (z : RS) => X7_rift_L44 h (b + 46) fu (rfa z) (rfb z) z.2 (nI i)) (fun i => rou (kn C L (fun _ => 0) n) (cJ C) i) (some (rfa (rou (kn C L (fun _ => 0) n) (cJ C) (cJ C)), rfb (rou (kn C L (fun _ => 0) n) (cJ C) (cJ C)), (rou (kn C L (fun _ => 0) n) (cJ C) (cJ C)).2)) (cJ C) (fun i fu hi => by
    try simp only []
    rw [X7_rift_L44, hb_c hp.1, Option.bind_some, hb_nj hp.1, Option.bind_some, if_pos (lt_lit hi (by omega)), rift63 hp k hi, Option.bind_some, nI_p1]; rfl)
    (fun fu => by (try simp only []); rw [X7_rift_L44, hb_c hp.1, Option.bind_some, hb_nj hp.1, Option.bind_some, if_neg (nlt_lit (Nat.le_refl _) (by omega))]) FU (FU_gt (by omega))
theorem rift49 {h : HA} {m c t a : Nat} {C L : CR} {n : Nat} (mp : MP h m c t C L (fun _ => 0) n) (ha : a < cJ C) (s : RS) : X8_rift_L49 h m (nI a) FU (rfm s) s.2 (nI a + 1) = some (rfm (rin (kn C L (fun _ => 0) n) a s (cJ C - (a + 1))), (rin (kn C L (fun _ => 0) n) a s (cJ C - (a + 1))).2) := by
  have hs := mp.1.1
  have h6 := hs.2.1.2.2.1.1
  have hK : ∀ j, kn C L (fun _ => 0) n j < 1024 := fun j => kn_lt (mp_L mp) mp.2.2.2.2.1
  have hkn : ∀ j, j < cJ C → X8_known h m (nI j) = some (nI (kn C L (fun _ => 0) n j)) := fun j hj => known_n mp hj
  generalize kn C L (fun _ => 0) n = K at *
  have hl2 := loop_st2 (fun fu i (z : RS) => X8_rift_L49 h m (nI a) fu (rfm z) z.2 (nI i)) (fun i => rin K a s (i - (a + 1))) (some (rfm (rin K a s (cJ C - (a + 1))), (rin K a s (cJ C - (a + 1))).2)) (cJ C) (a + 1) (by omega) (fun i fu h1 hi => by
    try simp only []
    rw [X8_rift_L49, ms_I hs.1, hs.2.2.2.2.2.2.2.1, Option.bind_some, if_pos (lt_lit hi (by omega)), hkn a ha, Option.bind_some, hkn i hi, Option.bind_some, nI_xor, ones_n _ (pcx K hK a i), Option.bind_some, nI_p1, greater_n]
    rw [show i + 1 - (a + 1) = (i - (a + 1)) + 1 by omega, rin, rst, show a + 1 + (i - (a + 1)) = i by omega]
    dsimp only [lett]
    rw [Option.bind_some]
    by_cases e : (rin K a s (i - (a + 1))).2 < nI (pc (K a ^^^ K i))
    · rw [if_pos e, if_pos e, if_pos e, show (6 : Int32) = nI 6 from rfl, nI_mul, nI_add]; rfl
    · rw [if_neg e, if_neg e, if_neg e])
    (fun fu => by (try simp only []); rw [X8_rift_L49, ms_I hs.1, hs.2.2.2.2.2.2.2.1, Option.bind_some, if_neg (nlt_lit (Nat.le_refl _) (by omega))]) FU (FU_gt (by omega))
  rw [nI_p1]
  have e0 : rin K a s (a + 1 - (a + 1)) = s := by rw [Nat.sub_self]; rfl
  simp only [e0] at hl2
  exact hl2
theorem rift34 {h : HA} {m c t : Nat} {C L : CR} {n : Nat} (mp : MP h m c t C L (fun _ => 0) n) : X8_rift_L34 h m FU (-1) (-1) 0 = some (rfm (rou (kn C L (fun _ => 0) n) (cJ C) (cJ C)), (rou (kn C L (fun _ => 0) n) (cJ C) (cJ C)).2) := by
  have hs := mp.1.1
  have h6 := hs.2.1.2.2.1.1
  exact loop_st (fun fu i (z : RS) => X8_rift_L34 h m fu (rfm z) z.2 (nI i)) (fun i => rou (kn C L (fun _ => 0) n) (cJ C) i) (some (rfm (rou (kn C L (fun _ => 0) n) (cJ C) (cJ C)), (rou (kn C L (fun _ => 0) n) (cJ C) (cJ C)).2)) (cJ C) (fun i fu hi => by
    try simp only []
    rw [X8_rift_L34, ms_I hs.1, hs.2.2.2.2.2.2.2.1, Option.bind_some, if_pos (lt_lit hi (by omega)), rift49 mp hi, Option.bind_some, nI_p1]; rfl)
    (fun fu => by (try simp only []); rw [X8_rift_L34, ms_I hs.1, hs.2.2.2.2.2.2.2.1, Option.bind_some, if_neg (nlt_lit (Nat.le_refl _) (by omega))]) FU (FU_gt (by omega))
def qrift (D : DT) (x y w : Int32) : Int32 := if ((rg x (dN D 0) && rg y (dN D 1)) && decide (2 ≤ cJ (dC D (tn x)))) = true then (let s := rou (KD D x y) (cJ (dC D (tn x))) (cJ (dC D (tn x))); if w = 0 then rfa s else if w = 1 then rfb s else if w = 2 then s.2 else -1) else -1
theorem c_rift {h : HA} {b : Nat} {D : DT} {α : Nat → Nat} {lm : Nat → Nat → Nat} {im : Nat → Option (Nat × DT)} (hi : IV h b D α lm im) (x y w : Int32) : AC b D α lm im (X7_rift h b x y w) (qrift D x y w) := by
  unfold X7_rift qrift
  rw [if_pos (fx_c hi.1)]
  rcases hallOf_ok hi x y with ⟨h1, h2, e2, i2⟩ | ⟨a, t, h2, ha, ht, rfl, rfl, hr, e2, i2, hp⟩
  · rw [e2, h1]; exact ⟨h2, rfl, i2⟩
  · have h6 := hb_6 hp.1
    rw [e2, hr, Option.bind_some, Bool.true_and, eKD (iv_w hi) ha ht, tnE (iv_w hi) (by omega) ha]
    dsimp only
    rw [hb_c hp.1, Option.bind_some, hb_nj hp.1, Option.bind_some]
    by_cases h2j : 2 ≤ cJ (dC D a)
    · obtain ⟨h5, e5, i5, p5, k5⟩ := learnAll_ok i2 hp
      rw [if_neg (show ¬ nI (cJ (dC D a)) < 2 from nlt_lit (n := 2) h2j (by omega)), if_pos (by simpa using h2j), e5, Option.bind_some, rift44 p5 k5, Option.bind_some]
      refine ⟨h5, ?_, i5⟩
      dsimp only
      repeat' split
      all_goals rfl
    · rw [if_pos (show nI (cJ (dC D a)) < 2 from lt_lit (n := 2) (by omega) (by omega)), if_neg (by simpa using h2j)]
      exact ⟨h2, rfl, i2⟩
theorem m_rift {h : HA} {b : Nat} {D : DT} {α : Nat → Nat} {lm : Nat → Nat → Nat} {im : Nat → Option (Nat × DT)} (hi : IV h b D α lm im) (x y w : Int32) : AC b D α lm im (X8_rift h (b + 55) x y w) (qrift D x y w) := by
  unfold X8_rift qrift
  rw [if_pos (ms_c (iv_ms hi)), ms_p (iv_ms hi), Option.bind_some]
  have hi0 := IV_m0 hi 0 0
  rw [show X8_in w 0 2 = _ from in_rn w (n := 2) (by omega), Option.bind_some]
  cases hw : rg w (2 + 1) with
  | false =>
    have n0 : ¬ w = 0 := fun e => by rw [e] at hw; exact absurd hw (by decide)
    have n1 : ¬ w = 1 := fun e => by rw [e] at hw; exact absurd hw (by decide)
    have n2 : ¬ w = 2 := fun e => by rw [e] at hw; exact absurd hw (by decide)
    refine ⟨_, ?_, hi0⟩
    rw [if_pos (by decide)]
    dsimp only
    rw [if_neg n0, if_neg n1, if_neg n2, ite_self]
  | true =>
    rw [if_neg (by decide)]
    rcases layTrial_ok hi0 x y with ⟨h1, h2, e2, i2⟩ | ⟨a, t, h2, ha, ht, rfl, rfl, hr, e2, i2, mp⟩
    · rw [e2, h1]; exact ⟨h2, rfl, i2⟩
    · have hs := mp.1.1
      have h6 := hs.2.1.2.2.1.1
      rw [e2, hr, Option.bind_some, Bool.true_and, eKD (iv_w hi) ha ht, tnE (iv_w hi) (by omega) ha]
      dsimp only
      refine ⟨h2, ?_, i2⟩
      rw [if_neg (by decide), rift34 mp, Option.bind_some]
      generalize so (dC D a) (dR D 1 t) (llen (dR D 1 t)) = n at *
      by_cases h2j : 2 ≤ cJ (dC D a)
      · rw [show decide (2 ≤ cJ (dC D a)) = true by simpa using h2j]
        have hsome := rou_so (K := kn (dC D a) (dR D 1 t) (fun _ => 0) n) h2j (cJ (dC D a)) (by omega)
        have hok := rou_ok (K := kn (dC D a) (dR D 1 t) (fun _ => 0) n) (n := cJ (dC D a)) (Nat.le_refl _)
        generalize rou (kn (dC D a) (dR D 1 t) (fun _ => 0) n) (cJ (dC D a)) (cJ (dC D a)) = s at *
        obtain ⟨s1, s2⟩ := s
        cases s1 with
        | none => simp at hsome
        | some p =>
          have hp := hok p rfl
          show (if nI (6 * p.1 + p.2) = -1 then _ else _) = _
          rw [if_neg (nI_nm1 (by omega))]
          obtain ⟨q, hq, rfl⟩ := (rg_iff (by omega)).mp hw
          show (if nI q = 0 then (dv (nI (6 * p.1 + p.2)) 6).bind _ else if nI q = 1 then (rm (nI (6 * p.1 + p.2)) 6).bind _ else some (s2, h2)) = some ((if nI q = 0 then nI p.1 else if nI q = 1 then nI p.2 else if nI q = 2 then s2 else -1), h2)
          rw [show dv (nI (6 * p.1 + p.2)) 6 = _ from dv_n (b := 6) (by omega) (by omega) (by omega), show rm (nI (6 * p.1 + p.2)) 6 = _ from rm_n (b := 6) (by omega) (by omega) (by omega), show (6 * p.1 + p.2) / 6 = p.1 by omega, show (6 * p.1 + p.2) % 6 = p.2 by omega]
          have hq3 : q = 0 ∨ q = 1 ∨ q = 2 := by omega
          rcases hq3 with rfl | rfl | rfl
          · rfl
          · rfl
          · rfl
      · rw [show decide (2 ≤ cJ (dC D a)) = false by simpa using h2j]
        have hj2 : cJ (dC D a) = 0 ∨ cJ (dC D a) = 1 := by omega
        have e0 : rou (kn (dC D a) (dR D 1 t) (fun _ => 0) n) (cJ (dC D a)) (cJ (dC D a)) = (none, -1) := by
          rcases hj2 with e | e <;> rw [e] <;> rfl
        rw [e0]; rfl
