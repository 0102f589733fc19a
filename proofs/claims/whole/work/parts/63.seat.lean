/-! SEATS: the class, by sets of seats taken -/
def wth (C L : CR) (n j s : Nat) : Nat := pc (kwd C L (fun _ => 0) n s (eW C j) (jg C j 3) (jg C s 1) 0)
theorem wth_le (C L : CR) (n j s : Nat) : wth C L n j s ≤ 16 := pc_le _
def iz (z : Int) : Int32 := Int32.ofInt z
theorem iz_nat (n : Nat) : iz (n : Int) = nI n := rfl
theorem iz_toInt {z : Int} (h1 : -1000 ≤ z) (h2 : z ≤ 1000) : (iz z).toInt = z := by
  unfold iz
  exact Int32.toInt_ofInt_of_le (by omega) (by omega)
theorem iz_lt {a c : Int} (h1 : -1000 ≤ a) (h2 : a ≤ 1000) (h3 : -1000 ≤ c) (h4 : c ≤ 1000) : iz a < iz c ↔ a < c := by
  rw [Int32.lt_iff_toInt_lt, iz_toInt h1 h2, iz_toInt h3 h4]
theorem iz_eq {a c : Int} (h1 : -1000 ≤ a) (h2 : a ≤ 1000) (h3 : -1000 ≤ c) (h4 : c ≤ 1000) : iz a = iz c ↔ a = c := by
  constructor
  · intro h
    rw [← iz_toInt h1 h2, ← iz_toInt h3 h4, h]
  · intro h; rw [h]
theorem iz_add (a c : Int) : iz a + iz c = iz (a + c) := by unfold iz; rw [Int32.ofInt_add]
theorem val_le {W : Nat → Nat → Nat} (hW : ∀ j s, W j s ≤ 16) : ∀ (l : List Nat) (j : Nat), val W j l ≤ 16 * l.length := by
  intro l
  induction l with
  | nil => intro j; exact Nat.zero_le _
  | cons s l ih =>
    intro j
    have h1 := ih (j + 1)
    have h2 := hW j s
    show W j s + val W (j + 1) l ≤ 16 * (l.length + 1)
    omega
theorem gr_len (n : Nat) (W : Nat → Nat → Nat) : ∀ f t, (gr n W f t).length = f := by
  intro f
  induction f with
  | zero => intro t; rfl
  | succ f ih => intro t; show (gr n W f _).length + 1 = f + 1; rw [ih]
theorem bs_rg {n : Nat} (hn : n < 7) {W : Nat → Nat → Nat} (hW : ∀ j s, W j s ≤ 16) {f t : Nat} (ht : t < 2 ^ n) (hp : pc t + f = n) : 0 ≤ bs n W f t ∧ bs n W f t ≤ 96 := by
  have h1 := (pm_best hn W f t ht hp).2
  have h2 := val_le hW (gr n W f t) (n - f)
  rw [gr_len] at h2
  omega
/-- the best with t taken -/
def bst7 (n : Nat) (W : Nat → Nat → Nat) (t : Nat) : Int := bs n W (n - pc t) t
theorem bst_rg {n : Nat} (hn : n < 7) {W : Nat → Nat → Nat} (hW : ∀ j s, W j s ≤ 16) {t : Nat} (ht : t < 2 ^ n) : 0 ≤ bst7 n W t ∧ bst7 n W t ≤ 96 := by
  have h1 := (pc_full n hn t ht).1
  exact bs_rg hn hW ht (by omega)
/-- the worth of the next JUDGE's seat s with t taken -/
def bw (n : Nat) (W : Nat → Nat → Nat) (t s : Nat) : Int := (W (pc t) s : Int) + bst7 n W (t ||| 2 ^ s)
theorem pow7 {n : Nat} (hn : n < 7) : 2 ^ n ≤ 64 := by
  have : 2 ^ n ≤ 2 ^ 6 := Nat.pow_le_pow_right (by omega) (by omega)
  omega
theorem or_lt7 {n t s : Nat} (ht : t < 2 ^ n) (hs : s < n) : t ||| 2 ^ s < 2 ^ n := Nat.or_lt_two_pow ht (Nat.pow_lt_pow_right (by omega) hs)
theorem bst_un {n : Nat} (hn : n < 7) {W : Nat → Nat → Nat} {t : Nat} (ht : t < 2 ^ n) (hf : t < 2 ^ n - 1) : bst7 n W t = mxs (fun s => t.testBit s) (bw n W t) n ∧ pc t < n := by
  have h1 := pc_full n hn t ht
  have h2 : pc t < n := by omega
  have h3 := pow7 hn
  refine ⟨?_, h2⟩
  have hz : n - pc t = (n - pc t - 1) + 1 := by omega
  unfold bst7
  rw [hz, bs, show n - (n - pc t - 1 + 1) = pc t by omega]
  have key : ∀ k, k ≤ n → mxs (fun s => t.testBit s) (fun s => (W (pc t) s : Int) + bs n W (n - pc t - 1) (t ||| 2 ^ s)) k = mxs (fun s => t.testBit s) (bw n W t) k := by
    intro k
    induction k with
    | zero => intro _; rfl
    | succ k ih =>
      intro hk
      rw [mxs, mxs, ih (by omega)]
      by_cases hb : t.testBit k = true
      · rw [if_pos hb, if_pos hb]
      · have hb' : t.testBit k = false := by simpa using hb
        have e := (pc_or t (by omega) k (by omega) hb').1
        have : (W (pc t) k : Int) + bs n W (n - pc t - 1) (t ||| 2 ^ k) = bw n W t k := by
          unfold bw bst7
          rw [e, show n - (pc t + 1) = n - pc t - 1 by omega]
        rw [if_neg hb, if_neg hb, this]
  exact key n (Nat.le_refl _)
theorem bst_full {n : Nat} (hn : n < 7) {W : Nat → Nat → Nat} : bst7 n W (2 ^ n - 1) = 0 := by
  have h0 : 0 < 2 ^ n := Nat.two_pow_pos n
  have h1 := (pc_full n hn (2 ^ n - 1) (by omega)).2.mpr rfl
  unfold bst7
  rw [h1, Nat.sub_self]; rfl
theorem mxs_rg {q : Nat → Bool} {v : Nat → Int} (hv : ∀ s, q s = false → 0 ≤ v s ∧ v s ≤ 200) : ∀ k, -1 ≤ mxs q v k ∧ mxs q v k ≤ 200 := by
  intro k
  induction k with
  | zero => show (-1 : Int) ≤ -1 ∧ (-1 : Int) ≤ 200; omega
  | succ k ih =>
    rw [mxs]
    by_cases hb : q k = true
    · rw [if_pos hb]; exact ih
    · have := hv k (by simpa using hb)
      rw [if_neg hb]
      split
      · omega
      · exact ih
theorem pc_63 : ∀ t, t < 64 → J6_bitCount_0f7a4 (nI t) = some (nI (pc t)) ∧ pc t ≤ 6 := by decide +kernel
theorem fx_sk {h : HA} {b : Nat} (hf : FX h b) : kd h (b + 52) = (5, 0) := hf.1 (52, (5, 0)) (by decide)
theorem fx_k53 {h : HA} {b : Nat} (hf : FX h b) : kd h (b + 53) = (20, 36) := hf.1 (53, (20, 36)) (by decide)
theorem fx_k54 {h : HA} {b : Nat} (hf : FX h b) : kd h (b + 54) = (20, 64) := hf.1 (54, (20, 64)) (by decide)
theorem fx_s0 {h : HA} {b : Nat} (hf : FX h b) : gR h (b + 52) 5 0 = some (b + 53) := by rw [gR_n (fx_sk hf)]; exact hf.2.1 (52, 0, 53) (by decide)
theorem fx_s1 {h : HA} {b : Nat} (hf : FX h b) : gR h (b + 52) 5 1 = some (b + 54) := by rw [gR_n (fx_sk hf)]; exact hf.2.1 (52, 1, 54) (by decide)
theorem fx_seat {h : HA} {b : Nat} (hf : FX h b) : gR h b 8 4 = some (b + 52) := by rw [gR_n (fx_x hf)]; exact hf.2.1 (0, 4, 52) (by decide)
theorem fx_st {h : HA} {b : Nat} (hf : FX h b) : (kd h (b + 52)).1 = 5 := by rw [fx_sk hf]
/-- the seating: worth told, the best told from lo on -/
def SW (h : HA) (b n : Nat) (W : Nat → Nat → Nat) : Prop := FX h b ∧ gi h (b + 52) 2 = nI n ∧ ∀ j s, j < n → s < n → gi h (b + 53) (6 * j + s) = nI (W j s)
def SB (h : HA) (b n : Nat) (W : Nat → Nat → Nat) (lo : Nat) : Prop := ∀ t, lo ≤ t → t < 2 ^ n → gi h (b + 54) t = iz (bst7 n W t)
def W54 (b : Nat) : Nat → Nat → Prop := fun a _ => a = b + 54
theorem SW_ch {h h1 : HA} {b n : Nat} {W : Nat → Nat → Nat} (hs : SW h b n W) (p : ch (W54 b) h h1) : SW h1 b n W := by
  refine ⟨FX_ch hs.1 p, ?_, fun j s h2 h3 => ?_⟩
  · rw [p.gi (by unfold W54; omega)]; exact hs.2.1
  · rw [p.gi (by unfold W54; omega)]; exact hs.2.2 j s h2 h3
theorem worthWith_c {h : HA} {b n : Nat} (hn : n < 7) {W : Nat → Nat → Nat} (hs : SW h b n W) {lo t s : Nat} (hb : SB h b n W lo) (ht : t < 2 ^ n) (hp : pc t < n) (hsn : s < n) (hl : lo ≤ t ||| 2 ^ s) : X4_worthWith h (b + 52) (nI t) (nI s) = some (iz (bw n W t s)) := by
  have h6 := pow7 hn
  have hor := or_lt7 ht hsn
  have hf := hs.1
  unfold X4_worthWith
  rw [if_pos (fx_st hf), (pc_63 t (by omega)).1, Option.bind_some, fx_s0 hf, Option.bind_some, show (6 : Int32) = nI 6 from rfl, nI_mul, nI_add, ldI_n (fx_k53 hf) (by omega) (by omega), Nat.mul_comm, hs.2.2 _ _ hp hsn, Option.bind_some, fx_s1 hf, Option.bind_some, shl1 s (by omega), nI_or, ldI_n (fx_k54 hf) (by omega) (by omega), hb _ hl hor, Option.bind_some, ← iz_nat, iz_add]
  rfl
theorem settle94 {h : HA} {b n : Nat} (hn : n < 7) {W : Nat → Nat → Nat} (hW : ∀ j s, W j s ≤ 16) (hs : SW h b n W) {t : Nat} (hb : SB h b n W (t + 1)) (ht : t < 2 ^ n - 1) (h0 : gi h (b + 54) t = -1) :
    ∃ h1, X4_settle_L94 (b + 52) (nI t) FU h 0 = some h1 ∧ ch (W54 b) h h1 ∧ SB h1 b n W t := by
  have h6 := pow7 hn
  obtain ⟨hun, hpc⟩ := bst_un hn (W := W) (show t < 2 ^ n by omega) ht
  have hv : ∀ s, s < n → t.testBit s = false → 0 ≤ bw n W t s ∧ bw n W t s ≤ 200 := by
    intro s hs h
    have h1 := bst_rg hn hW (or_lt7 (s := s) (show t < 2 ^ n by omega) hs)
    have h2 := hW (pc t) s
    unfold bw; omega
  have hm : ∀ k, k ≤ n → -1 ≤ mxs (fun s => t.testBit s) (bw n W t) k ∧ mxs (fun s => t.testBit s) (bw n W t) k ≤ 200 := by
    intro k
    induction k with
    | zero => intro _; show (-1 : Int) ≤ -1 ∧ (-1 : Int) ≤ 200; omega
    | succ k ih =>
      intro hk
      rw [mxs]
      by_cases hb : t.testBit k = true
      · rw [if_pos hb]; exact ih (by omega)
      · have := hv k (by omega) (by simpa using hb)
        rw [if_neg hb]
        split
        · omega
        · exact ih (by omega)
  obtain ⟨h1, e1, c1, g1, g2⟩ := loop_inv (fun fu k (h : HA) => X4_settle_L94 (b + 52) (nI t) fu h (nI k)) (fun k h1 => ch (W54 b) h h1 ∧ gi h1 (b + 54) t = iz (mxs (fun s => t.testBit s) (bw n W t) k) ∧ ∀ u, t < u → gi h1 (b + 54) u = gi h (b + 54) u)
    (fun h1 => ch (W54 b) h h1 ∧ gi h1 (b + 54) t = iz (mxs (fun s => t.testBit s) (bw n W t) n) ∧ ∀ u, t < u → gi h1 (b + 54) u = gi h (b + 54) u) n (by
      intro k h1 fu hk hI
      obtain ⟨c1, g1, g2⟩ := hI
      have hs1 := SW_ch hs c1
      have hf := hs1.1
      show ∃ a', X4_settle_L94 (b + 52) (nI t) (fu + 1) h1 (nI k) = X4_settle_L94 (b + 52) (nI t) fu a' (nI (k + 1)) ∧ _
      rw [X4_settle_L94, gI_n (fx_sk hf), hs1.2.1, Option.bind_some, if_pos (lt_lit hk (by omega)), has_w (by omega) (by omega), Option.bind_some, nI_p1]
      by_cases hb1 : t.testBit k = true
      · rw [hb1, if_neg (by decide)]
        exact ⟨h1, rfl, c1, by rw [g1, mxs, if_pos hb1], g2⟩
      · have hb' : t.testBit k = false := by simpa using hb1
        have hle : t + 1 ≤ t ||| 2 ^ k := by
          have := (pc_or t (by omega) k (by omega) hb').2; omega
        have hb2 : SB h1 b n W (t + 1) := fun u hu h2 => by rw [g2 u (by omega)]; exact hb u hu h2
        have r1 := hm k (by omega)
        have r2 := hv k hk hb'
        rw [hb', if_pos (by decide), fx_s1 hf, Option.bind_some, Option.bind_some, ldI_n (fx_k54 hf) (by omega) (by omega), g1, Option.bind_some, worthWith_c hn hs1 hb2 (by omega) hpc hk hle, Option.bind_some, asI_n (fx_k54 hf) (by omega) (by omega), Option.bind_some]
        refine ⟨_, rfl, c1.tr (ch_si rfl), ?_, fun u hu => ?_⟩
        · rw [gi_si, if_pos ⟨rfl, rfl⟩, mxs, if_neg hb1]
          unfold mxI
          by_cases hl : mxs (fun s => t.testBit s) (bw n W t) k < bw n W t k
          · rw [if_pos ((iz_lt (by omega) (by omega) (by omega) (by omega)).mpr hl), if_pos hl]
          · rw [if_neg (fun z => hl ((iz_lt (by omega) (by omega) (by omega) (by omega)).mp z)), if_neg hl]
        · rw [gi_si, if_neg (by omega)]; exact g2 u hu) (by
      intro h1 fu hI
      have hs1 := SW_ch hs hI.1
      refine ⟨h1, ?_, hI⟩
      show X4_settle_L94 (b + 52) (nI t) (fu + 1) h1 (nI n) = _
      rw [X4_settle_L94, gI_n (fx_sk hs1.1), hs1.2.1, Option.bind_some, if_neg (nlt_lit (Nat.le_refl _) (by omega))]) h FU ⟨ch_rf _ _, by rw [h0]; rfl, fun _ _ => rfl⟩ (FU_gt (by omega))
  refine ⟨h1, e1, c1, fun u hu h2 => ?_⟩
  by_cases e : u = t
  · subst e; rw [g1, hun]
  · rw [g2 u (by omega)]; exact hb u (by omega) h2
def dwn (N k : Nat) : Int32 := if N ≤ k then -1 else nI (N - 1 - k)
theorem settle80 {h : HA} {b n : Nat} (hn : n < 7) {W : Nat → Nat → Nat} (hW : ∀ j s, W j s ≤ 16) (hs : SW h b n W) (hb : SB h b n W (2 ^ n - 1)) :
    ∃ h1, X4_settle_L80 (b + 52) FU h (nI (2 ^ n - 1) - 1) = some h1 ∧ ch (W54 b) h h1 ∧ SB h1 b n W 0 := by
  have h6 := pow7 hn
  obtain ⟨N, hN⟩ : ∃ N, N = 2 ^ n - 1 := ⟨_, rfl⟩
  have key := loop_inv (fun fu k (h : HA) => X4_settle_L80 (b + 52) fu h (dwn N k)) (fun k h1 => ch (W54 b) h h1 ∧ SB h1 b n W (N - k)) (fun h1 => ch (W54 b) h h1 ∧ SB h1 b n W 0) N (by
      intro k h1 fu hk hI
      obtain ⟨c1, g1⟩ := hI
      have hs1 := SW_ch hs c1
      have hf := hs1.1
      show ∃ a', X4_settle_L80 (b + 52) (fu + 1) h1 (dwn N k) = X4_settle_L80 (b + 52) fu a' (dwn N (k + 1)) ∧ _
      have e1 : dwn N k = nI (N - 1 - k) := by unfold dwn; rw [if_neg (by omega)]
      have e2 : nI (N - 1 - k) + -1 = dwn N (k + 1) := by
        rw [nI_pm]; unfold dwn
        by_cases hz : N - 1 - k = 0
        · rw [if_pos hz, if_pos (by omega)]
        · rw [if_neg hz, if_neg (by omega)]; congr 1
      rw [X4_settle_L80, e1, if_neg (nI_lt0 (by omega)), fx_s1 hf, Option.bind_some, asI_n (fx_k54 hf) (by omega) (by omega), Option.bind_some]
      have c2 : ch (W54 b) h1 (si h1 (b + 54) (N - 1 - k) (-1)) := ch_si rfl
      obtain ⟨h2, e3, c3, s3⟩ := settle94 hn hW (SW_ch hs1 c2) (t := N - 1 - k) (fun u hu h2 => by rw [gi_si, if_neg (by omega)]; exact g1 u (by omega) h2) (by omega) (by rw [gi_si, if_pos ⟨rfl, rfl⟩])
      rw [e3, Option.bind_some, e2]
      exact ⟨h2, rfl, c1.tr (c2.tr c3), by rw [show N - (k + 1) = N - 1 - k by omega]; exact s3⟩) (by
      intro h1 fu hI
      refine ⟨h1, ?_, hI.1, by have := hI.2; rw [Nat.sub_self] at this; exact this⟩
      show X4_settle_L80 (b + 52) (fu + 1) h1 (dwn N N) = _
      rw [X4_settle_L80, show dwn N N = -1 by unfold dwn; rw [if_pos (Nat.le_refl _)], if_pos (by decide)]) h FU ⟨ch_rf _ _, by rw [Nat.sub_zero, hN]; exact hb⟩ (FU_gt (by omega))
  obtain ⟨h1, e1, q1, q2⟩ := key
  refine ⟨h1, ?_, q1, q2⟩
  have e2 : nI N - 1 = dwn N 0 := by
    rw [Int32.sub_eq_add_neg, show -(1 : Int32) = -1 from rfl, nI_pm]; unfold dwn
    by_cases hz : N = 0
    · rw [if_pos hz, if_pos (by omega)]
    · rw [if_neg hz, if_neg (by omega)]; rfl
  rw [← hN, e2]
  exact e1
