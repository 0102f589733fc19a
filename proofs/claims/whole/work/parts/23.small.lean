/-! SMALL THINGS -/
def bI (b : Bool) : Int32 := if b = true then 1 else 0
theorem bI_t : bI true = 1 := rfl
theorem bI_f : bI false = 0 := rfl
theorem bI_0 {b : Bool} : bI b = 0 ↔ b = false := by cases b <;> decide
theorem bI_1 {b : Bool} : bI b = 1 ↔ b = true := by cases b <;> decide
theorem bz_b (b : Bool) : bz (bI b) = some (bI b) := by cases b <;> decide
theorem bI_ite (b : Bool) : (if b = true then (1 : Int32) else 0) = bI b := rfl
/-- a number or -1 -/
def on : Option Nat → Int32
  | none => -1
  | some n => nI n
theorem on_s (n : Nat) : on (some n) = nI n := rfl
theorem on_n : on none = -1 := rfl
theorem nI_p1 (a : Nat) : nI a + 1 = nI (a + 1) := nI_add a 1
theorem nI_m1 {a : Nat} (h : 1 ≤ a) : nI a - 1 = nI (a - 1) := nI_sub h
theorem nI_pm (a : Nat) : nI a + -1 = if a = 0 then -1 else nI (a - 1) := by
  split
  · rename_i h; subst h; rfl
  · rw [← nI_m1 (by omega), Int32.sub_eq_add_neg]
theorem lt_n {a b : Nat} (ha : a < 2 ^ 31) (hb : b < 2 ^ 31) : nI a < nI b ↔ a < b := nI_ltI ha hb
theorem m1_lt {n : Nat} (hn : n < 2 ^ 31) : (-1 : Int32) < nI n := by
  rw [Int32.lt_iff_toInt_lt, nI_toInt hn]
  have e1 : (-1 : Int32).toInt = -1 := by decide
  omega
/-- between nought and n, n left out -/
def rg (x : Int32) (n : Nat) : Bool := decide (0 ≤ x.toInt ∧ x.toInt < (n : Int))
theorem rg_n {a n : Nat} (ha : a < 2 ^ 31) : rg (nI a) n = decide (a < n) := by
  unfold rg; rw [nI_toInt ha]; apply decide_eq_decide.mpr; omega
theorem rg_iff {x : Int32} {n : Nat} (hn : n < 2 ^ 31) : rg x n = true ↔ ∃ a, a < n ∧ x = nI a := by
  constructor
  · intro h
    rcases i_nat x with h1 | ⟨a, ha, rfl⟩
    · unfold rg at h
      rw [Int32.lt_iff_toInt_lt] at h1
      have e0 : (0 : Int32).toInt = 0 := by decide
      simp at h; omega
    · rw [rg_n ha] at h; exact ⟨a, by simpa using h, rfl⟩
  · rintro ⟨a, ha, rfl⟩
    rw [rg_n (by omega)]; simpa using ha
theorem in_rg (x : Int32) {n : Nat} (hn : n < 2 ^ 31) : X8_in x 0 (nI n - 1) = some (bI (rg x n)) := by
  unfold X8_in
  rcases i_nat x with h1 | ⟨a, ha, rfl⟩
  · rw [if_pos h1]
    have : rg x n = false := by
      rw [Int32.lt_iff_toInt_lt] at h1
      have e0 : (0 : Int32).toInt = 0 := by decide
      unfold rg; simp; omega
    rw [this]; rfl
  · rw [if_neg (nI_lt0 ha), rg_n ha]
    by_cases h0 : n = 0
    · subst h0
      rw [show nI 0 - 1 = (-1 : Int32) by decide, if_pos (m1_lt ha)]
      simp [bI]
    · rw [nI_m1 (by omega)]
      by_cases h : a < n
      · rw [if_neg (by rw [lt_n (by omega) ha]; omega)]; simp [h, bI]
      · rw [if_pos (by rw [lt_n (by omega) ha]; omega)]; simp [h, bI]
theorem in_rn (x : Int32) {n : Nat} (hn : n < 2 ^ 31 - 1) : X8_in x 0 (nI n) = some (bI (rg x (n + 1))) := by
  rw [← in_rg x (n := n + 1) (by omega), nI_m1 (by omega)]; rfl
/-! masks -/
def msk (p : Nat → Bool) : Nat → Nat
  | 0 => 0
  | n + 1 => msk p n + (if p n = true then 2 ^ n else 0)
theorem msk_lt (p : Nat → Bool) (n : Nat) : msk p n < 2 ^ n := by
  induction n with
  | zero => exact Nat.one_pos
  | succ n ih => show msk p n + _ < _; rw [Nat.pow_succ]; split <;> omega
theorem msk_cong {p q : Nat → Bool} {n : Nat} (h : ∀ i, i < n → p i = q i) : msk p n = msk q n := by
  induction n with
  | zero => rfl
  | succ n ih => show msk p n + _ = msk q n + _; rw [ih (fun i hi => h i (by omega)), h n (by omega)]
theorem msk_bit (p : Nat → Bool) (n i : Nat) : (msk p n).testBit i = (decide (i < n) && p i) := by
  induction n with
  | zero => simp [msk]
  | succ n ih =>
    have hl := msk_lt p n
    show (msk p n + _).testBit i = _
    by_cases hp : p n = true
    · rw [if_pos hp]
      rw [Nat.add_comm]
      by_cases e : i = n
      · subst e; rw [Nat.testBit_two_pow_add_eq, ih]; simp [hp]
      · by_cases h2 : i < n
        · rw [Nat.testBit_two_pow_add_gt h2, ih]; simp [h2]; omega
        · have h3 : 2 ^ n + msk p n < 2 ^ i := by
            have : 2 ^ (n + 1) ≤ 2 ^ i := Nat.pow_le_pow_right (by omega) (by omega)
            rw [Nat.pow_succ] at this; omega
          rw [Nat.testBit_lt_two_pow h3]; simp; omega
    · rw [if_neg hp, Nat.add_zero, ih]
      by_cases e : i = n
      · subst e; simp [hp]
      · by_cases h2 : i < n
        · simp [h2]; omega
        · simp [h2]; omega
theorem shl1 : ∀ n, n < 31 → shlI 1 (nI n) = nI (2 ^ n) := by decide +kernel
theorem nI_or (a b : Nat) : nI a ||| nI b = nI (a ||| b) := by
  apply Int32.toBitVec_inj.mp
  simp [nI, Int32.toBitVec_or]
theorem nI_and (a b : Nat) : nI a &&& nI b = nI (a &&& b) := by
  apply Int32.toBitVec_inj.mp
  simp [nI, Int32.toBitVec_and]
theorem nI_xor (a b : Nat) : nI a ^^^ nI b = nI (a ^^^ b) := by
  apply Int32.toBitVec_inj.mp
  simp [nI, Int32.toBitVec_xor]
theorem msk_or {p : Nat → Bool} {n : Nat} : msk p (n + 1) = msk p n ||| (if p n = true then 2 ^ n else 0) := by
  apply Nat.eq_of_testBit_eq
  intro i
  rw [msk_bit, Nat.testBit_or, msk_bit]
  by_cases hp : p n = true
  · rw [if_pos hp, Nat.testBit_two_pow]
    by_cases e : i = n
    · subst e; simp [hp]
    · have e2 : ¬ n = i := fun z => e z.symm
      by_cases h2 : i < n
      · simp [h2, e2]; omega
      · simp [h2, e2]; omega
  · rw [if_neg hp]
    by_cases e : i = n
    · subst e; simp [hp]
    · by_cases h2 : i < n
      · simp [h2]; omega
      · simp [h2]; omega
theorem msk_step {p : Nat → Bool} {n : Nat} (hn : n < 31) : (if p n = true then nI (msk p n) ||| shlI 1 (nI n) else nI (msk p n)) = nI (msk p (n + 1)) := by
  rw [msk_or]
  split
  · rw [shl1 n hn, nI_or]
  · rw [Nat.or_zero]
theorem or_0 (x : Int32) : x ||| 0 = x := by simp
theorem or_00 (x : Int32) : (0 : Int32) ||| x = x := by simp
/-! loops of one kind -/
theorem loop_it {α β : Type} (L : Nat → Nat → α → Option β) (f : Nat → α → α) (g : α → Option β) (N : Nat)
    (step : ∀ k a fu, k < N → L (fu + 1) k a = L fu (k + 1) (f k a)) (fin : ∀ a fu, L (fu + 1) N a = g a) (a : α) (fu : Nat) (hf : N < fu) :
    L fu 0 a = g (itr f N 0 a) :=
  (loop_to L f g (fun _ _ => True) N (fun k a fu hk _ => ⟨step k a fu hk, trivial⟩) (fun a fu _ => fin a fu) N 0 a fu (by omega) trivial hf).1
/-- a loop whose state is known at each turn -/
theorem loop_st {α β : Type} (L : Nat → Nat → α → Option β) (S : Nat → α) (r : Option β) (N : Nat)
    (step : ∀ k fu, k < N → L (fu + 1) k (S k) = L fu (k + 1) (S (k + 1))) (fin : ∀ fu, L (fu + 1) N (S N) = r) (fu : Nat) (hf : N < fu) :
    L fu 0 (S 0) = r := by
  have key : ∀ n k fu, k + n = N → n < fu → L fu k (S k) = r := by
    intro n
    induction n with
    | zero =>
      intro k fu hk hfu
      obtain ⟨q, rfl⟩ : ∃ q, fu = q + 1 := ⟨fu - 1, by omega⟩
      have : k = N := by omega
      subst this
      exact fin q
    | succ n ih =>
      intro k fu hk hfu
      obtain ⟨q, rfl⟩ : ∃ q, fu = q + 1 := ⟨fu - 1, by omega⟩
      rw [step k q (by omega)]
      exact ih (k + 1) q (by omega) (by omega)
  exact key N 0 fu (by omega) hf
/-! THE MODEL as it lies: its rows behind it, in their order -/
def mrw : List (Nat × Nat × Nat) := [(1, 22, 2400), (2, 20, 4), (3, 20, 4), (4, 20, 4), (5, 20, 16), (6, 20, 848), (7, 20, 968), (8, 20, 200), (9, 20, 200), (19, 20, 121), (20, 20, 5), (23, 20, 4), (30, 20, 4096), (31, 20, 64), (32, 20, 16384), (33, 20, 16384), (34, 22, 16384), (35, 20, 16384), (36, 20, 60), (41, 20, 8), (42, 20, 30), (43, 20, 30), (44, 20, 30), (45, 20, 30), (46, 20, 30), (48, 20, 6), (49, 20, 36), (50, 20, 6), (51, 20, 6), (54, 23, 3)]
def MS (h : HA) (m : Nat) : Prop := kd h m = (9, 0) ∧ ∀ i, i < 30 → ga h m (mrw.getD i (0, 0, 0)).1 = some (m + (i + 1)) ∧ kd h (m + (i + 1)) = (mrw.getD i (0, 0, 0)).2
theorem ms_c {h : HA} {m : Nat} (hs : MS h m) : (kd h m).1 = 9 := by rw [hs.1]
theorem ms_I {h : HA} {m : Nat} (hs : MS h m) (k : Nat) : gI h m 9 k = some (gi h m k) := gI_n hs.1
theorem ms_J {h : HA} {m : Nat} (hs : MS h m) (k : Nat) : gJ h m 9 k = some (gj h m k) := gJ_n hs.1
theorem ms_p {h : HA} {m : Nat} (hs : MS h m) (k : Nat) (v : Int32) : pI h m 9 k v = some (si h m k v) := pI_n hs.1
theorem ms_r1 {h : HA} {m : Nat} (hs : MS h m) : gR h m 9 1 = some (m + 1) := by rw [gR_n hs.1]; exact (hs.2 0 (by omega)).1
theorem ms_k1 {h : HA} {m : Nat} (hs : MS h m) : kd h (m + 1) = (22, 2400) := (hs.2 0 (by omega)).2
theorem ms_r2 {h : HA} {m : Nat} (hs : MS h m) : gR h m 9 2 = some (m + 2) := by rw [gR_n hs.1]; exact (hs.2 1 (by omega)).1
theorem ms_k2 {h : HA} {m : Nat} (hs : MS h m) : kd h (m + 2) = (20, 4) := (hs.2 1 (by omega)).2
theorem ms_r3 {h : HA} {m : Nat} (hs : MS h m) : gR h m 9 3 = some (m + 3) := by rw [gR_n hs.1]; exact (hs.2 2 (by omega)).1
theorem ms_k3 {h : HA} {m : Nat} (hs : MS h m) : kd h (m + 3) = (20, 4) := (hs.2 2 (by omega)).2
theorem ms_r4 {h : HA} {m : Nat} (hs : MS h m) : gR h m 9 4 = some (m + 4) := by rw [gR_n hs.1]; exact (hs.2 3 (by omega)).1
theorem ms_k4 {h : HA} {m : Nat} (hs : MS h m) : kd h (m + 4) = (20, 4) := (hs.2 3 (by omega)).2
theorem ms_r5 {h : HA} {m : Nat} (hs : MS h m) : gR h m 9 5 = some (m + 5) := by rw [gR_n hs.1]; exact (hs.2 4 (by omega)).1
theorem ms_k5 {h : HA} {m : Nat} (hs : MS h m) : kd h (m + 5) = (20, 16) := (hs.2 4 (by omega)).2
theorem ms_r6 {h : HA} {m : Nat} (hs : MS h m) : gR h m 9 6 = some (m + 6) := by rw [gR_n hs.1]; exact (hs.2 5 (by omega)).1
theorem ms_k6 {h : HA} {m : Nat} (hs : MS h m) : kd h (m + 6) = (20, 848) := (hs.2 5 (by omega)).2
theorem ms_r7 {h : HA} {m : Nat} (hs : MS h m) : gR h m 9 7 = some (m + 7) := by rw [gR_n hs.1]; exact (hs.2 6 (by omega)).1
theorem ms_k7 {h : HA} {m : Nat} (hs : MS h m) : kd h (m + 7) = (20, 968) := (hs.2 6 (by omega)).2
theorem ms_r8 {h : HA} {m : Nat} (hs : MS h m) : gR h m 9 8 = some (m + 8) := by rw [gR_n hs.1]; exact (hs.2 7 (by omega)).1
theorem ms_k8 {h : HA} {m : Nat} (hs : MS h m) : kd h (m + 8) = (20, 200) := (hs.2 7 (by omega)).2
theorem ms_r9 {h : HA} {m : Nat} (hs : MS h m) : gR h m 9 9 = some (m + 9) := by rw [gR_n hs.1]; exact (hs.2 8 (by omega)).1
theorem ms_k9 {h : HA} {m : Nat} (hs : MS h m) : kd h (m + 9) = (20, 200) := (hs.2 8 (by omega)).2
theorem ms_r19 {h : HA} {m : Nat} (hs : MS h m) : gR h m 9 19 = some (m + 10) := by rw [gR_n hs.1]; exact (hs.2 9 (by omega)).1
theorem ms_k19 {h : HA} {m : Nat} (hs : MS h m) : kd h (m + 10) = (20, 121) := (hs.2 9 (by omega)).2
theorem ms_r20 {h : HA} {m : Nat} (hs : MS h m) : gR h m 9 20 = some (m + 11) := by rw [gR_n hs.1]; exact (hs.2 10 (by omega)).1
theorem ms_k20 {h : HA} {m : Nat} (hs : MS h m) : kd h (m + 11) = (20, 5) := (hs.2 10 (by omega)).2
theorem ms_r23 {h : HA} {m : Nat} (hs : MS h m) : gR h m 9 23 = some (m + 12) := by rw [gR_n hs.1]; exact (hs.2 11 (by omega)).1
theorem ms_k23 {h : HA} {m : Nat} (hs : MS h m) : kd h (m + 12) = (20, 4) := (hs.2 11 (by omega)).2
theorem ms_r30 {h : HA} {m : Nat} (hs : MS h m) : gR h m 9 30 = some (m + 13) := by rw [gR_n hs.1]; exact (hs.2 12 (by omega)).1
theorem ms_k30 {h : HA} {m : Nat} (hs : MS h m) : kd h (m + 13) = (20, 4096) := (hs.2 12 (by omega)).2
theorem ms_r31 {h : HA} {m : Nat} (hs : MS h m) : gR h m 9 31 = some (m + 14) := by rw [gR_n hs.1]; exact (hs.2 13 (by omega)).1
theorem ms_k31 {h : HA} {m : Nat} (hs : MS h m) : kd h (m + 14) = (20, 64) := (hs.2 13 (by omega)).2
theorem ms_r32 {h : HA} {m : Nat} (hs : MS h m) : gR h m 9 32 = some (m + 15) := by rw [gR_n hs.1]; exact (hs.2 14 (by omega)).1
theorem ms_k32 {h : HA} {m : Nat} (hs : MS h m) : kd h (m + 15) = (20, 16384) := (hs.2 14 (by omega)).2
theorem ms_r33 {h : HA} {m : Nat} (hs : MS h m) : gR h m 9 33 = some (m + 16) := by rw [gR_n hs.1]; exact (hs.2 15 (by omega)).1
theorem ms_k33 {h : HA} {m : Nat} (hs : MS h m) : kd h (m + 16) = (20, 16384) := (hs.2 15 (by omega)).2
theorem ms_r34 {h : HA} {m : Nat} (hs : MS h m) : gR h m 9 34 = some (m + 17) := by rw [gR_n hs.1]; exact (hs.2 16 (by omega)).1
theorem ms_k34 {h : HA} {m : Nat} (hs : MS h m) : kd h (m + 17) = (22, 16384) := (hs.2 16 (by omega)).2
theorem ms_r35 {h : HA} {m : Nat} (hs : MS h m) : gR h m 9 35 = some (m + 18) := by rw [gR_n hs.1]; exact (hs.2 17 (by omega)).1
theorem ms_k35 {h : HA} {m : Nat} (hs : MS h m) : kd h (m + 18) = (20, 16384) := (hs.2 17 (by omega)).2
theorem ms_r36 {h : HA} {m : Nat} (hs : MS h m) : gR h m 9 36 = some (m + 19) := by rw [gR_n hs.1]; exact (hs.2 18 (by omega)).1
theorem ms_k36 {h : HA} {m : Nat} (hs : MS h m) : kd h (m + 19) = (20, 60) := (hs.2 18 (by omega)).2
theorem ms_r41 {h : HA} {m : Nat} (hs : MS h m) : gR h m 9 41 = some (m + 20) := by rw [gR_n hs.1]; exact (hs.2 19 (by omega)).1
theorem ms_k41 {h : HA} {m : Nat} (hs : MS h m) : kd h (m + 20) = (20, 8) := (hs.2 19 (by omega)).2
theorem ms_r42 {h : HA} {m : Nat} (hs : MS h m) : gR h m 9 42 = some (m + 21) := by rw [gR_n hs.1]; exact (hs.2 20 (by omega)).1
theorem ms_k42 {h : HA} {m : Nat} (hs : MS h m) : kd h (m + 21) = (20, 30) := (hs.2 20 (by omega)).2
theorem ms_r43 {h : HA} {m : Nat} (hs : MS h m) : gR h m 9 43 = some (m + 22) := by rw [gR_n hs.1]; exact (hs.2 21 (by omega)).1
theorem ms_k43 {h : HA} {m : Nat} (hs : MS h m) : kd h (m + 22) = (20, 30) := (hs.2 21 (by omega)).2
theorem ms_r44 {h : HA} {m : Nat} (hs : MS h m) : gR h m 9 44 = some (m + 23) := by rw [gR_n hs.1]; exact (hs.2 22 (by omega)).1
theorem ms_k44 {h : HA} {m : Nat} (hs : MS h m) : kd h (m + 23) = (20, 30) := (hs.2 22 (by omega)).2
theorem ms_r45 {h : HA} {m : Nat} (hs : MS h m) : gR h m 9 45 = some (m + 24) := by rw [gR_n hs.1]; exact (hs.2 23 (by omega)).1
theorem ms_k45 {h : HA} {m : Nat} (hs : MS h m) : kd h (m + 24) = (20, 30) := (hs.2 23 (by omega)).2
theorem ms_r46 {h : HA} {m : Nat} (hs : MS h m) : gR h m 9 46 = some (m + 25) := by rw [gR_n hs.1]; exact (hs.2 24 (by omega)).1
theorem ms_k46 {h : HA} {m : Nat} (hs : MS h m) : kd h (m + 25) = (20, 30) := (hs.2 24 (by omega)).2
theorem ms_r48 {h : HA} {m : Nat} (hs : MS h m) : gR h m 9 48 = some (m + 26) := by rw [gR_n hs.1]; exact (hs.2 25 (by omega)).1
theorem ms_k48 {h : HA} {m : Nat} (hs : MS h m) : kd h (m + 26) = (20, 6) := (hs.2 25 (by omega)).2
theorem ms_r49 {h : HA} {m : Nat} (hs : MS h m) : gR h m 9 49 = some (m + 27) := by rw [gR_n hs.1]; exact (hs.2 26 (by omega)).1
theorem ms_k49 {h : HA} {m : Nat} (hs : MS h m) : kd h (m + 27) = (20, 36) := (hs.2 26 (by omega)).2
theorem ms_r50 {h : HA} {m : Nat} (hs : MS h m) : gR h m 9 50 = some (m + 28) := by rw [gR_n hs.1]; exact (hs.2 27 (by omega)).1
theorem ms_k50 {h : HA} {m : Nat} (hs : MS h m) : kd h (m + 28) = (20, 6) := (hs.2 27 (by omega)).2
theorem ms_r51 {h : HA} {m : Nat} (hs : MS h m) : gR h m 9 51 = some (m + 29) := by rw [gR_n hs.1]; exact (hs.2 28 (by omega)).1
theorem ms_k51 {h : HA} {m : Nat} (hs : MS h m) : kd h (m + 29) = (20, 6) := (hs.2 28 (by omega)).2
theorem ms_r54 {h : HA} {m : Nat} (hs : MS h m) : gR h m 9 54 = some (m + 30) := by rw [gR_n hs.1]; exact (hs.2 29 (by omega)).1
theorem ms_k54 {h : HA} {m : Nat} (hs : MS h m) : kd h (m + 30) = (23, 3) := (hs.2 29 (by omega)).2
