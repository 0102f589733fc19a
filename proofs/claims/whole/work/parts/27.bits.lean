/-! BITS of longs, counted -/
def nJ (n : Nat) : Int64 := Int64.ofNat n
theorem nJ_x (x : Int64) : x = nJ x.toBitVec.toNat := by
  apply Int64.toBitVec_inj.mp
  show x.toBitVec = BitVec.ofNat 64 x.toBitVec.toNat
  simp
theorem nJ_add (a b : Nat) : nJ a + nJ b = nJ (a + b) := by
  apply Int64.toBitVec_inj.mp
  simp [nJ, Int64.toBitVec_add, BitVec.ofNat_add]
theorem nJ_sub {a b : Nat} (h : b ≤ a) : nJ a - nJ b = nJ (a - b) := by
  have h1 : nJ a = nJ (a - b) + nJ b := by rw [nJ_add, Nat.sub_add_cancel h]
  rw [h1, Int64.add_sub_cancel]
theorem nJ_and (a b : Nat) : nJ a &&& nJ b = nJ (a &&& b) := by
  apply Int64.toBitVec_inj.mp
  simp [nJ, Int64.toBitVec_and]
theorem nJ_tb {a : Nat} (ha : a < 2 ^ 64) (f : Nat) : tb (nJ a) f = a.testBit f := by
  show (BitVec.ofNat 64 a).getLsbD f = _
  rw [BitVec.getLsbD_ofNat]
  by_cases h : f < 64
  · simp [h]
  · rw [Nat.testBit_lt_two_pow (Nat.lt_of_lt_of_le ha (Nat.pow_le_pow_right (by omega) (by omega)))]; simp
theorem nJ_shr {a k : Nat} (ha : a < 2 ^ 64) (hk : k < 64) : ushJ (nJ a) (nI k) = nJ (a / 2 ^ k) := by
  apply tb_ext
  intro f hf
  rw [tb_shr _ hk, nJ_tb ha, nJ_tb (Nat.lt_of_le_of_lt (Nat.div_le_self _ _) ha), Nat.testBit_div_two_pow, Nat.add_comm]
theorem nJ_I (a : Nat) : (nJ a).toInt32 = nI a := by
  apply Int32.toBitVec_inj.mp
  simp [nJ, nI]
theorem and_split (a c r s : Nat) (ha : a < 256) (hc : c < 256) : (a + 256 * r) &&& (c + 256 * s) = (a &&& c) + 256 * (r &&& s) := by
  have h1 := Nat.and_mod_two_pow (a := a + 256 * r) (b := c + 256 * s) (n := 8)
  have h2 := Nat.and_div_two_pow (a := a + 256 * r) (b := c + 256 * s) (n := 8)
  rw [show (a + 256 * r) % 2 ^ 8 = a by omega, show (c + 256 * s) % 2 ^ 8 = c by omega] at h1
  rw [show (a + 256 * r) / 2 ^ 8 = r by omega, show (c + 256 * s) / 2 ^ 8 = s by omega] at h2
  omega
def f1 (n M : Nat) : Nat := n - (n / 2 &&& M)
def f2 (n M : Nat) : Nat := (n &&& M) + (n / 4 &&& M)
def f3 (n M : Nat) : Nat := n + n / 16 &&& M
def p1 (a : Nat) : Nat := a - (a / 2 &&& 85)
def p2 (a : Nat) : Nat := (a &&& 51) + (a / 4 &&& 51)
def p3 (a : Nat) : Nat := a + a / 16 &&& 15
theorem by1 : ∀ a, a < 256 → ∀ t, t < 2 → (a / 2 + 128 * t) &&& 85 = a / 2 &&& 85 := by decide +kernel
theorem by2 : ∀ a, a < 256 → ∀ t, t < 4 → (a / 4 + 64 * t) &&& 51 = a / 4 &&& 51 := by decide +kernel
theorem by3 : ∀ a, a < 256 → ∀ t, t < 5 → (p2 (p1 a) + p2 (p1 a) / 16 + 16 * t) &&& 15 = p3 (p2 (p1 a)) := by decide +kernel
theorem by4 : ∀ a, a < 256 → p1 a < 256 ∧ p2 (p1 a) < 70 ∧ p2 (p1 a) % 16 < 5 ∧ p3 (p2 (p1 a)) = cnt (fun i => a.testBit i) 8 ∧ p3 (p2 (p1 a)) ≤ 8 := by decide +kernel
theorem f1_c {a r s : Nat} (ha : a < 256) : f1 (a + 256 * r) (85 + 256 * s) = p1 a + 256 * f1 r s := by
  unfold f1 p1
  have e : (a + 256 * r) / 2 = (a / 2 + 128 * (r % 2)) + 256 * (r / 2) := by omega
  rw [e, and_split _ _ _ _ (by omega) (by omega), by1 a ha _ (Nat.mod_lt _ (by omega))]
  have h1 := Nat.and_le_left (n := a / 2) (m := 85)
  have h2 := Nat.and_le_left (n := r / 2) (m := s)
  omega
theorem f2_c {a r s : Nat} (ha : a < 256) : f2 (a + 256 * r) (51 + 256 * s) = p2 a + 256 * f2 r s := by
  unfold f2 p2
  have e : (a + 256 * r) / 4 = (a / 4 + 64 * (r % 4)) + 256 * (r / 4) := by omega
  rw [e, and_split _ _ _ _ ha (by omega), and_split _ _ _ _ (by omega) (by omega), by2 a ha _ (Nat.mod_lt _ (by omega))]
  omega
theorem f3_c {a r s : Nat} (ha : a < 256) (hr : r % 16 < 5) : f3 (p2 (p1 a) + 256 * r) (15 + 256 * s) = p3 (p2 (p1 a)) + 256 * f3 r s := by
  have h := by4 a ha
  have e : p2 (p1 a) + 256 * r + (p2 (p1 a) + 256 * r) / 16 = (p2 (p1 a) + p2 (p1 a) / 16 + 16 * (r % 16)) + 256 * (r + r / 16) := by omega
  show p2 (p1 a) + 256 * r + (p2 (p1 a) + 256 * r) / 16 &&& (15 + 256 * s) = _
  rw [e, and_split _ _ _ _ (by omega) (by omega), by3 a ha _ hr]
  rfl
def V8 (b : Nat → Nat) : Nat := b 0 + 256 * (b 1 + 256 * (b 2 + 256 * (b 3 + 256 * (b 4 + 256 * (b 5 + 256 * (b 6 + 256 * (b 7 + 256 * 0)))))))
theorem f0_1 : f1 0 0 = 0 := rfl
theorem f0_2 : f2 0 0 = 0 := rfl
theorem f0_3 : f3 0 0 = 0 := rfl
theorem f1_V {b : Nat → Nat} (hb : ∀ i, i < 8 → b i < 256) : f1 (V8 b) 6148914691236517205 = V8 (fun i => p1 (b i)) := by
  rw [show 6148914691236517205 = 85 + 256 * (85 + 256 * (85 + 256 * (85 + 256 * (85 + 256 * (85 + 256 * (85 + 256 * (85 + 256 * 0))))))) from rfl]
  unfold V8
  rw [f1_c (hb 0 (by omega)), f1_c (hb 1 (by omega)), f1_c (hb 2 (by omega)), f1_c (hb 3 (by omega)), f1_c (hb 4 (by omega)), f1_c (hb 5 (by omega)), f1_c (hb 6 (by omega)), f1_c (hb 7 (by omega)), Nat.mul_zero, f0_1]
theorem f2_V {b : Nat → Nat} (hb : ∀ i, i < 8 → b i < 256) : f2 (V8 b) 3689348814741910323 = V8 (fun i => p2 (b i)) := by
  rw [show 3689348814741910323 = 51 + 256 * (51 + 256 * (51 + 256 * (51 + 256 * (51 + 256 * (51 + 256 * (51 + 256 * (51 + 256 * 0))))))) from rfl]
  unfold V8
  rw [f2_c (hb 0 (by omega)), f2_c (hb 1 (by omega)), f2_c (hb 2 (by omega)), f2_c (hb 3 (by omega)), f2_c (hb 4 (by omega)), f2_c (hb 5 (by omega)), f2_c (hb 6 (by omega)), f2_c (hb 7 (by omega)), Nat.mul_zero, f0_2]
theorem f3_V {b : Nat → Nat} (hb : ∀ i, i < 8 → b i < 256) : f3 (V8 (fun i => p2 (p1 (b i)))) 1085102592571150095 = V8 (fun i => p3 (p2 (p1 (b i)))) := by
  have h0 := by4 _ (hb 0 (by omega)); have h1 := by4 _ (hb 1 (by omega)); have h2 := by4 _ (hb 2 (by omega)); have h3 := by4 _ (hb 3 (by omega))
  have h4 := by4 _ (hb 4 (by omega)); have h5 := by4 _ (hb 5 (by omega)); have h6 := by4 _ (hb 6 (by omega)); have h7 := by4 _ (hb 7 (by omega))
  rw [show 1085102592571150095 = 15 + 256 * (15 + 256 * (15 + 256 * (15 + 256 * (15 + 256 * (15 + 256 * (15 + 256 * (15 + 256 * 0))))))) from rfl]
  unfold V8
  dsimp only
  rw [f3_c (hb 0 (by omega)), f3_c (hb 1 (by omega)), f3_c (hb 2 (by omega)), f3_c (hb 3 (by omega)), f3_c (hb 4 (by omega)), f3_c (hb 5 (by omega)), f3_c (hb 6 (by omega)), f3_c (hb 7 (by omega)), Nat.mul_zero, f0_3]
  all_goals omega
theorem V8_x (n : Nat) (h : n < 2 ^ 64) : n = V8 (fun i => n / 256 ^ i % 256) := by
  unfold V8
  simp only [Nat.pow_zero, Nat.reducePow]
  omega
theorem cnt_add (p : Nat → Bool) (a b : Nat) : cnt p (a + b) = cnt p a + cnt (fun i => p (a + i)) b := by
  induction b with
  | zero => rfl
  | succ b ih => show cnt p (a + b) + (if p (a + b) = true then 1 else 0) = cnt p a + (cnt (fun i => p (a + i)) b + (if p (a + b) = true then 1 else 0)); rw [ih]; omega
theorem by_bit (n i k : Nat) (hk : k < 8) : (n / 256 ^ i % 256).testBit k = n.testBit (8 * i + k) := by
  rw [show (256 : Nat) = 2 ^ 8 from rfl, ← Nat.pow_mul, Nat.testBit_mod_two_pow, Nat.testBit_div_two_pow]
  simp [hk, Nat.add_comm]
theorem bc_end {q0 q1 q2 q3 q4 q5 q6 q7 : Nat} (w0 : q0 ≤ 8) (w1 : q1 ≤ 8) (w2 : q2 ≤ 8) (w3 : q3 ≤ 8) (w4 : q4 ≤ 8) (w5 : q5 ≤ 8) (w6 : q6 ≤ 8) (w7 : q7 ≤ 8) :
    let z := q0 + 256 * (q1 + 256 * (q2 + 256 * (q3 + 256 * (q4 + 256 * (q5 + 256 * (q6 + 256 * q7))))))
    some ((nJ z + ushJ (nJ z) 8 + ushJ (nJ z + ushJ (nJ z) 8) 16 + ushJ (nJ z + ushJ (nJ z) 8 + ushJ (nJ z + ushJ (nJ z) 8) 16) 32).toInt32 &&& 127) = some (nI (q0 + q1 + q2 + q3 + q4 + q5 + q6 + q7)) := by
  intro z
  have hz : z = q0 + 256 * (q1 + 256 * (q2 + 256 * (q3 + 256 * (q4 + 256 * (q5 + 256 * (q6 + 256 * q7)))))) := rfl
  clear_value z
  have a1 : ushJ (nJ z) 8 = nJ (z / 256) := nJ_shr (k := 8) (by omega) (by omega)
  have a2 : ushJ (nJ (z + z / 256)) 16 = nJ ((z + z / 256) / 65536) := nJ_shr (k := 16) (by omega) (by omega)
  rw [a1, nJ_add, a2, nJ_add]
  have b2 : z + z / 256 = (q0 + q1) + 256 * ((q1 + q2) + 256 * ((q2 + q3) + 256 * ((q3 + q4) + 256 * ((q4 + q5) + 256 * ((q5 + q6) + 256 * ((q6 + q7) + 256 * q7)))))) := by omega
  generalize z + z / 256 = y at *
  have b3 : y + y / 65536 = (q0 + q1 + q2 + q3) + 256 * ((q1 + q2 + q3 + q4) + 256 * ((q2 + q3 + q4 + q5) + 256 * ((q3 + q4 + q5 + q6) + 256 * ((q4 + q5 + q6 + q7) + 256 * ((q5 + q6 + q7) + 256 * ((q6 + q7) + 256 * q7)))))) := by omega
  generalize y + y / 65536 = x at *
  have a3 : ushJ (nJ x) 32 = nJ (x / 4294967296) := nJ_shr (k := 32) (by omega) (by omega)
  rw [a3, nJ_add, nJ_I, show (127 : Int32) = nI 127 from rfl, nI_and, show (127 : Nat) = 2 ^ 7 - 1 from rfl, Nat.and_two_pow_sub_one_eq_mod]
  have b4 : x / 4294967296 = (q4 + q5 + q6 + q7) + 256 * ((q5 + q6 + q7) + 256 * ((q6 + q7) + 256 * q7)) := by omega
  rw [b4, b3]
  clear b4 b3 b2 a1 a2 a3 hz
  congr 2
  generalize ((q1 + q2 + q3 + q4) + 256 * ((q2 + q3 + q4 + q5) + 256 * ((q3 + q4 + q5 + q6) + 256 * ((q4 + q5 + q6 + q7) + 256 * ((q5 + q6 + q7) + 256 * ((q6 + q7) + 256 * q7)))))) = R
  generalize ((q5 + q6 + q7) + 256 * ((q6 + q7) + 256 * q7)) = T
  omega
theorem bc_n (x : Int64) : J13_bitCount_95d88 x = some (nI (cnt (tb x) 64)) := by
  have hn : x.toBitVec.toNat < 2 ^ 64 := x.toBitVec.isLt
  have hx := nJ_x x
  generalize x.toBitVec.toNat = n at hn hx
  subst hx
  have hV := V8_x n hn
  have hbb : ∀ i, i < 8 → n / 256 ^ i % 256 < 256 := fun i _ => Nat.mod_lt _ (by omega)
  have hc : cnt (tb (nJ n)) 64 = p3 (p2 (p1 (n / 256 ^ 0 % 256))) + p3 (p2 (p1 (n / 256 ^ 1 % 256))) + p3 (p2 (p1 (n / 256 ^ 2 % 256))) + p3 (p2 (p1 (n / 256 ^ 3 % 256))) + p3 (p2 (p1 (n / 256 ^ 4 % 256))) + p3 (p2 (p1 (n / 256 ^ 5 % 256))) + p3 (p2 (p1 (n / 256 ^ 6 % 256))) + p3 (p2 (p1 (n / 256 ^ 7 % 256))) := by
    have hp : ∀ i, i < 8 → cnt (fun k => tb (nJ n) (8 * i + k)) 8 = p3 (p2 (p1 (n / 256 ^ i % 256))) := by
      intro i hi
      rw [(by4 _ (hbb i hi)).2.2.2.1]
      exact cnt_cong (fun k hk => by rw [nJ_tb hn, by_bit n i k hk])
    rw [← hp 0 (by omega), ← hp 1 (by omega), ← hp 2 (by omega), ← hp 3 (by omega), ← hp 4 (by omega), ← hp 5 (by omega), ← hp 6 (by omega), ← hp 7 (by omega)]
    rw [show 64 = 8 + (8 + (8 + (8 + (8 + (8 + (8 + 8)))))) from rfl]
    rw [cnt_add, cnt_add, cnt_add, cnt_add, cnt_add, cnt_add, cnt_add]
    simp only [← Nat.add_assoc, Nat.reduceMul, Nat.reduceAdd, Nat.zero_add]
  have hb4 : ∀ i, i < 8 → _ := fun i hi => by4 _ (hbb i hi)
  generalize hbe : (fun i => n / 256 ^ i % 256) = b at *
  have hbi : ∀ i, n / 256 ^ i % 256 = b i := fun i => congrFun hbe i
  simp only [hbi] at hc hbb hb4
  rw [hc]
  have g0 := hb4 0 (by omega); have g1 := hb4 1 (by omega); have g2 := hb4 2 (by omega); have g3 := hb4 3 (by omega)
  have g4 := hb4 4 (by omega); have g5 := hb4 5 (by omega); have g6 := hb4 6 (by omega); have g7 := hb4 7 (by omega)
  unfold J13_bitCount_95d88 lett
  have hle := Nat.and_le_left (n := n / 2) (m := 6148914691236517205)
  have e1 : nJ n - (ushJ (nJ n) 1 &&& 6148914691236517205) = nJ (V8 (fun i => p1 (b i))) := by
    rw [show ushJ (nJ n) 1 = nJ (n / 2) from nJ_shr (k := 1) hn (by omega), show (6148914691236517205 : Int64) = nJ 6148914691236517205 from rfl, nJ_and, nJ_sub (a := n) (b := n / 2 &&& 6148914691236517205) (by omega), ← f1_V hbb, ← hV]
    rfl
  have v1 : V8 (fun i => p1 (b i)) < 2 ^ 64 := by unfold V8; dsimp only; omega
  have e2 : nJ (V8 (fun i => p1 (b i))) &&& 3689348814741910323 = nJ (V8 (fun i => p1 (b i)) &&& 3689348814741910323) := nJ_and _ _
  have e3 : ushJ (nJ (V8 (fun i => p1 (b i)))) 2 = nJ (V8 (fun i => p1 (b i)) / 4) := nJ_shr (k := 2) v1 (by omega)
  have e4 : nJ (V8 (fun i => p1 (b i)) / 4) &&& 3689348814741910323 = nJ (V8 (fun i => p1 (b i)) / 4 &&& 3689348814741910323) := nJ_and _ _
  have e5 : (V8 (fun i => p1 (b i)) &&& 3689348814741910323) + (V8 (fun i => p1 (b i)) / 4 &&& 3689348814741910323) = V8 (fun i => p2 (p1 (b i))) := f2_V (b := fun i => p1 (b i)) (fun i hi => (hb4 i hi).1)
  have v2 : V8 (fun i => p2 (p1 (b i))) < 2 ^ 64 := by unfold V8; dsimp only; omega
  rw [e1, e2, e3, e4, nJ_add, e5]
  dsimp only
  have e6 : ushJ (nJ (V8 (fun i => p2 (p1 (b i))))) 4 = nJ (V8 (fun i => p2 (p1 (b i))) / 16) := nJ_shr (k := 4) v2 (by omega)
  have e7 : nJ (V8 (fun i => p2 (p1 (b i))) + V8 (fun i => p2 (p1 (b i))) / 16) &&& 1085102592571150095 = nJ (V8 (fun i => p3 (p2 (p1 (b i))))) := by
    rw [← f3_V hbb]; exact nJ_and _ _
  rw [e6, nJ_add, e7]
  clear e1 e2 e3 e4 e5 e6 e7 v1 v2 hV hle hc hb4
  have hvv : V8 (fun i => p3 (p2 (p1 (b i)))) = p3 (p2 (p1 (b 0))) + 256 * (p3 (p2 (p1 (b 1))) + 256 * (p3 (p2 (p1 (b 2))) + 256 * (p3 (p2 (p1 (b 3))) + 256 * (p3 (p2 (p1 (b 4))) + 256 * (p3 (p2 (p1 (b 5))) + 256 * (p3 (p2 (p1 (b 6))) + 256 * p3 (p2 (p1 (b 7))))))))) := rfl
  generalize p3 (p2 (p1 (b 0))) = q0 at *; generalize p3 (p2 (p1 (b 1))) = q1 at *; generalize p3 (p2 (p1 (b 2))) = q2 at *; generalize p3 (p2 (p1 (b 3))) = q3 at *
  generalize p3 (p2 (p1 (b 4))) = q4 at *; generalize p3 (p2 (p1 (b 5))) = q5 at *; generalize p3 (p2 (p1 (b 6))) = q6 at *; generalize p3 (p2 (p1 (b 7))) = q7 at *
  have w0 := g0.2.2.2.2; have w1 := g1.2.2.2.2; have w2 := g2.2.2.2.2; have w3 := g3.2.2.2.2; have w4 := g4.2.2.2.2; have w5 := g5.2.2.2.2; have w6 := g6.2.2.2.2; have w7 := g7.2.2.2.2
  clear g0 g1 g2 g3 g4 g5 g6 g7
  have hv : V8 (fun i => p3 (p2 (p1 (b i)))) = q0 + 256 * (q1 + 256 * (q2 + 256 * (q3 + 256 * (q4 + 256 * (q5 + 256 * (q6 + 256 * q7)))))) := hvv
  rw [hv]
  exact bc_end w0 w1 w2 w3 w4 w5 w6 w7
theorem ntz_n : ∀ k, k < 64 → J13_numberOfTrailingZeros_95d88 (shlJ 1 (nI k)) = some (nI k) := by decide +kernel
theorem low_tb (x : Int64) (f : Nat) : tb (x &&& -x) f = (tb x f && !decide (∃ j, j < f ∧ tb x j = true)) := by
  by_cases hf : f < 64
  · rw [tb_and]
    have : tb (-x) f = (tb x f ^^ decide (∃ j, j < f ∧ tb x j = true)) := by
      unfold tb
      rw [Int64.toBitVec_neg, BitVec.getLsbD_neg]
      simp [hf]
    rw [this]
    cases tb x f <;> cases decide (∃ j, j < f ∧ tb x j = true) <;> rfl
  · rw [tb_ge (by omega), tb_ge (by omega)]; rfl
