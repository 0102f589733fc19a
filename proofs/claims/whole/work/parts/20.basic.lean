/-! NUMBERS -/
def tn (x : Int32) : Nat := x.toNatClampNeg
theorem tn_nI {n : Nat} (h : n < 2 ^ 31) : tn (nI n) = n := nI_clamp h
theorem nI_mul (a b : Nat) : nI a * nI b = nI (a * b) := by
  apply Int32.toBitVec_inj.mp
  simp [nI, Int32.toBitVec_mul, BitVec.ofNat_mul]
theorem nI_sub {a b : Nat} (h : b ≤ a) : nI a - nI b = nI (a - b) := by
  have h1 : nI a = nI (a - b) + nI b := by rw [nI_add, Nat.sub_add_cancel h]
  rw [h1, Int32.add_sub_cancel]
theorem nI_inj {a b : Nat} (ha : a < 2 ^ 31) (hb : b < 2 ^ 31) (h : nI a = nI b) : a = b := (nI_eq ha hb).mp h
theorem nI_div {a b : Nat} (ha : a < 2 ^ 31) (hb : b < 2 ^ 31) : nI a / nI b = nI (a / b) := by
  apply Int32.toInt_inj.mp
  rw [Int32.toInt_div, nI_toInt ha, nI_toInt hb, nI_toInt (Nat.lt_of_le_of_lt (Nat.div_le_self _ _) ha)]
  have e : Int.tdiv (a : Int) (b : Int) = ((a / b : Nat) : Int) := by rw [Int.tdiv_eq_ediv_of_nonneg (by omega)]; simp
  rw [e]
  have hq : a / b < 2 ^ 31 := Nat.lt_of_le_of_lt (Nat.div_le_self a b) ha
  generalize a / b = q at hq ⊢
  rw [Int.bmod_eq_of_le (by omega) (by omega)]
theorem dv_n {a b : Nat} (ha : a < 2 ^ 31) (hb : b < 2 ^ 31) (h0 : 0 < b) : dv (nI a) (nI b) = some (nI (a / b)) := by
  unfold dv
  rw [if_neg, nI_div ha hb]
  intro h
  have : b = 0 := nI_inj hb (by decide) (h.trans (rfl : (0 : Int32) = nI 0))
  omega
theorem rm_n {a b : Nat} (ha : a < 2 ^ 31) (hb : b < 2 ^ 31) (h0 : 0 < b) : rm (nI a) (nI b) = some (nI (a % b)) := by
  unfold rm
  rw [if_neg, nI_div ha hb, nI_mul, nI_sub (Nat.div_mul_le_self a b)]
  · congr 2
    have := Nat.div_add_mod a b
    rw [Nat.mul_comm] at this
    omega
  · intro h
    have : b = 0 := nI_inj hb (by decide) (h.trans (rfl : (0 : Int32) = nI 0))
    omega
theorem nI_lt0 {n : Nat} (h : n < 2 ^ 31) : ¬ nI n < 0 := nI_pos h
theorem m1_lt0 : (-1 : Int32) < 0 := by decide
theorem nI_nm1 {n : Nat} (h : n < 2 ^ 31) : ¬ nI n = -1 := by
  intro e
  have := nI_toInt h
  rw [e] at this
  have e1 : (-1 : Int32).toInt = -1 := by decide
  omega
/-- an int that is not below nought is a number -/
theorem i_nat (x : Int32) : x < 0 ∨ ∃ n, n < 2 ^ 31 ∧ x = nI n := by
  by_cases h : x < 0
  · exact Or.inl h
  · exact Or.inr (nI_of h)
theorem inb_n {i n : Nat} (hi : i < 2 ^ 31) : inb (nI i) n = decide (i < n) := by
  unfold inb
  rw [nI_toInt hi]
  apply decide_eq_decide.mpr
  omega
theorem ldI_n {h : HA} {a c n i : Nat} (hk : kd h a = (c, n)) (hi : i < n) (hn : i < 2 ^ 31) : ldI h a c (nI i) = some (gi h a i) := by
  unfold ldI
  rw [hk, inb_n hn, nI_clamp hn, if_pos ⟨rfl, by simpa using hi⟩]
theorem ldJ_n {h : HA} {a n i : Nat} (hk : kd h a = (21, n)) (hi : i < n) (hn : i < 2 ^ 31) : ldJ h a (nI i) = some (gj h a i) := by
  unfold ldJ
  rw [hk, inb_n hn, nI_clamp hn, if_pos ⟨rfl, by simpa using hi⟩]
theorem ldN_n {h : HA} {a c n i : Nat} (hk : kd h a = (c, n)) (hi : i < n) (hn : i < 2 ^ 31) : ldN h a c (nI i) = some (ga h a i) := by
  unfold ldN
  rw [hk, inb_n hn, nI_clamp hn, if_pos ⟨rfl, by simpa using hi⟩]
theorem ldR_n {h : HA} {a c n i : Nat} (hk : kd h a = (c, n)) (hi : i < n) (hn : i < 2 ^ 31) : ldR h a c (nI i) = ga h a i := by
  unfold ldR
  rw [hk, inb_n hn, nI_clamp hn, if_pos ⟨rfl, by simpa using hi⟩]
theorem asI_n {h : HA} {a c n i : Nat} {v : Int32} (hk : kd h a = (c, n)) (hi : i < n) (hn : i < 2 ^ 31) : asI h a c (nI i) v = some (si h a i v) := by
  unfold asI
  rw [hk, inb_n hn, nI_clamp hn, if_pos ⟨rfl, by simpa using hi⟩]
theorem asJ_n {h : HA} {a n i : Nat} {v : Int64} (hk : kd h a = (21, n)) (hi : i < n) (hn : i < 2 ^ 31) : asJ h a (nI i) v = some (sj h a i v) := by
  unfold asJ
  rw [hk, inb_n hn, nI_clamp hn, if_pos ⟨rfl, by simpa using hi⟩]
theorem gI_n {h : HA} {a c n k : Nat} (hk : kd h a = (c, n)) : gI h a c k = some (gi h a k) := by unfold gI; rw [hk, if_pos rfl]
theorem gJ_n {h : HA} {a c n k : Nat} (hk : kd h a = (c, n)) : gJ h a c k = some (gj h a k) := by unfold gJ; rw [hk, if_pos rfl]
theorem gR_n {h : HA} {a c n k : Nat} (hk : kd h a = (c, n)) : gR h a c k = ga h a k := by unfold gR; rw [hk, if_pos rfl]
theorem gN_n {h : HA} {a c n k : Nat} (hk : kd h a = (c, n)) : gN h a c k = some (ga h a k) := by unfold gN; rw [hk, if_pos rfl]
theorem pI_n {h : HA} {a c n k : Nat} {v : Int32} (hk : kd h a = (c, n)) : pI h a c k v = some (si h a k v) := by unfold pI; rw [hk, if_pos rfl]
theorem pJ_n {h : HA} {a c n k : Nat} {v : Int64} (hk : kd h a = (c, n)) : pJ h a c k v = some (sj h a k v) := by unfold pJ; rw [hk, if_pos rfl]
theorem pR_n {h : HA} {a c n k : Nat} {v : Option Nat} (hk : kd h a = (c, n)) : pR h a c k v = some (sa h a k v) := by unfold pR; rw [hk, if_pos rfl]
/-! what a write leaves -/
theorem kd_si (h : HA) (a k : Nat) (v : Int32) (b : Nat) : kd (si h a k v) b = kd h b := rfl
theorem kd_sj (h : HA) (a k : Nat) (v : Int64) (b : Nat) : kd (sj h a k v) b = kd h b := rfl
theorem kd_sa (h : HA) (a k : Nat) (v : Option Nat) (b : Nat) : kd (sa h a k v) b = kd h b := rfl
theorem hz_si (h : HA) (a k : Nat) (v : Int32) : hz (si h a k v) = hz h := rfl
theorem hz_sj (h : HA) (a k : Nat) (v : Int64) : hz (sj h a k v) = hz h := rfl
theorem hz_sa (h : HA) (a k : Nat) (v : Option Nat) : hz (sa h a k v) = hz h := rfl
theorem gi_si (h : HA) (a k : Nat) (v : Int32) (b j : Nat) : gi (si h a k v) b j = if b = a ∧ j = k then v else gi h b j := rfl
theorem gi_sj (h : HA) (a k : Nat) (v : Int64) (b j : Nat) : gi (sj h a k v) b j = gi h b j := rfl
theorem gi_sa (h : HA) (a k : Nat) (v : Option Nat) (b j : Nat) : gi (sa h a k v) b j = gi h b j := rfl
theorem gj_si (h : HA) (a k : Nat) (v : Int32) (b j : Nat) : gj (si h a k v) b j = gj h b j := rfl
theorem gj_sj (h : HA) (a k : Nat) (v : Int64) (b j : Nat) : gj (sj h a k v) b j = if b = a ∧ j = k then v else gj h b j := rfl
theorem gj_sa (h : HA) (a k : Nat) (v : Option Nat) (b j : Nat) : gj (sa h a k v) b j = gj h b j := rfl
theorem ga_si (h : HA) (a k : Nat) (v : Int32) (b j : Nat) : ga (si h a k v) b j = ga h b j := rfl
theorem ga_sj (h : HA) (a k : Nat) (v : Int64) (b j : Nat) : ga (sj h a k v) b j = ga h b j := rfl
theorem ga_sa (h : HA) (a k : Nat) (v : Option Nat) (b j : Nat) : ga (sa h a k v) b j = if b = a ∧ j = k then v else ga h b j := rfl
/-- same at a cell -/
def sm (h h1 : HA) (a : Nat) : Prop := kd h1 a = kd h a ∧ (∀ k, gi h1 a k = gi h a k) ∧ (∀ k, gj h1 a k = gj h a k) ∧ ∀ k, ga h1 a k = ga h a k
theorem sm_rf (h : HA) (a : Nat) : sm h h a := ⟨rfl, fun _ => rfl, fun _ => rfl, fun _ => rfl⟩
theorem sm.tr {h h1 h2 : HA} {a : Nat} (p : sm h h1 a) (q : sm h1 h2 a) : sm h h2 a := ⟨q.1.trans p.1, fun k => (q.2.1 k).trans (p.2.1 k), fun k => (q.2.2.1 k).trans (p.2.2.1 k), fun k => (q.2.2.2 k).trans (p.2.2.2 k)⟩
theorem sm_si {h : HA} {a k : Nat} {v : Int32} {b : Nat} (hb : b ≠ a) : sm h (si h a k v) b := ⟨rfl, fun _ => if_neg fun z => hb z.1, fun _ => rfl, fun _ => rfl⟩
theorem sm_sj {h : HA} {a k : Nat} {v : Int64} {b : Nat} (hb : b ≠ a) : sm h (sj h a k v) b := ⟨rfl, fun _ => rfl, fun _ => if_neg fun z => hb z.1, fun _ => rfl⟩
theorem sm_sa {h : HA} {a k : Nat} {v : Option Nat} {b : Nat} (hb : b ≠ a) : sm h (sa h a k v) b := ⟨rfl, fun _ => rfl, fun _ => rfl, fun _ => if_neg fun z => hb z.1⟩
/-! LOOPS -/
def itr {α : Type} (f : Nat → α → α) : Nat → Nat → α → α
  | 0, _, a => a
  | n + 1, k, a => itr f n (k + 1) (f k a)
theorem itr_succ {α : Type} (f : Nat → α → α) (n : Nat) : ∀ (k : Nat) (a : α), itr f (n + 1) k a = f (k + n) (itr f n k a) := by
  induction n with
  | zero => intro k a; rfl
  | succ n ih =>
    intro k a
    show itr f (n + 1) (k + 1) (f k a) = f (k + (n + 1)) (itr f n (k + 1) (f k a))
    rw [ih (k + 1) (f k a), show k + 1 + n = k + (n + 1) by omega]
/-- a counted loop: each turn is a step, the end gives the answer -/
theorem loop_to {α β : Type} (L : Nat → Nat → α → Option β) (f : Nat → α → α) (g : α → Option β) (P : Nat → α → Prop) (N : Nat)
    (step : ∀ k a fu, k < N → P k a → L (fu + 1) k a = L fu (k + 1) (f k a) ∧ P (k + 1) (f k a)) (fin : ∀ a fu, P N a → L (fu + 1) N a = g a) :
    ∀ (n k : Nat) (a : α) (fu : Nat), k + n = N → P k a → n < fu → L fu k a = g (itr f n k a) ∧ P N (itr f n k a) := by
  intro n
  induction n with
  | zero =>
    intro k a fu hk hp hf
    obtain ⟨fu, rfl⟩ : ∃ q, fu = q + 1 := ⟨fu - 1, by omega⟩
    have : k = N := by omega
    subst this
    exact ⟨fin a fu hp, hp⟩
  | succ n ih =>
    intro k a fu hk hp hf
    obtain ⟨fu, rfl⟩ : ∃ q, fu = q + 1 := ⟨fu - 1, by omega⟩
    obtain ⟨h1, h2⟩ := step k a fu (by omega) hp
    obtain ⟨h3, h4⟩ := ih (k + 1) (f k a) fu (by omega) h2 (by omega)
    exact ⟨h1.trans h3, h4⟩
theorem FU_gt {n : Nat} (h : n < 20000) : n < FU := h
/-! SETS OF BITS -/
def tb (x : Int64) (f : Nat) : Bool := x.toBitVec.getLsbD f
theorem tb_ge {x : Int64} {f : Nat} (h : 64 ≤ f) : tb x f = false := BitVec.getLsbD_of_ge _ _ h
theorem tb_and (x y : Int64) (f : Nat) : tb (x &&& y) f = (tb x f && tb y f) := by simp [tb]
theorem tb_or (x y : Int64) (f : Nat) : tb (x ||| y) f = (tb x f || tb y f) := by simp [tb]
theorem tb_xor (x y : Int64) (f : Nat) : tb (x ^^^ y) f = (tb x f ^^ tb y f) := by simp [tb]
theorem tb_0 (f : Nat) : tb 0 f = false := by simp [tb]
theorem tb_m1 (f : Nat) : tb (-1) f = decide (f < 64) := by
  by_cases h : f < 64
  · have : ∀ f, f < 64 → tb (-1) f = true := by decide +kernel
    rw [this f h]; simp [h]
  · rw [tb_ge (by omega)]; simp [h]
theorem tb_ext {x y : Int64} (h : ∀ f, f < 64 → tb x f = tb y f) : x = y := by
  apply Int64.toBitVec_inj.mp
  exact BitVec.eq_of_getLsbD_eq (fun i hi => h i hi)
theorem tb_eq0 {x : Int64} : x = 0 ↔ ∀ f, f < 64 → tb x f = false := by
  constructor
  · intro h f _; rw [h, tb_0]
  · intro h; exact tb_ext (fun f hf => by rw [h f hf, tb_0])
theorem sh_m : ∀ k, k < 64 → (nI k).toInt64 &&& 63 = Int64.ofNat k := by decide +kernel
theorem sh_s : ∀ k, k < 64 → ((Int64.ofNat k).toBitVec.smod 64) = BitVec.ofNat 64 k := by decide +kernel
theorem tb_shl (x : Int64) {k : Nat} (hk : k < 64) (f : Nat) : tb (shlJ x (nI k)) f = (decide (f < 64) && decide (k ≤ f) && tb x (f - k)) := by
  unfold shlJ tb
  rw [sh_m k hk, Int64.toBitVec_shiftLeft, sh_s k hk]
  simp only [BitVec.shiftLeft_eq', BitVec.toNat_ofNat, BitVec.getLsbD_shiftLeft]
  rw [Nat.mod_eq_of_lt (by omega)]
  by_cases h1 : f < 64 <;> by_cases h2 : k ≤ f <;> simp [h1, h2] <;> omega
theorem sh_u : ∀ k, k < 64 → ((nI k).toInt64.toUInt64 &&& Int64.toUInt64 63).toBitVec % 64 = BitVec.ofNat 64 k := by decide +kernel
theorem tb_shr (x : Int64) {k : Nat} (hk : k < 64) (f : Nat) : tb (ushJ x (nI k)) f = tb x (f + k) := by
  unfold ushJ tb
  show (x.toUInt64 >>> ((nI k).toInt64.toUInt64 &&& Int64.toUInt64 63)).toBitVec.getLsbD f = _
  rw [UInt64.toBitVec_shiftRight, sh_u k hk]
  simp only [BitVec.ushiftRight_eq', BitVec.toNat_ofNat, BitVec.getLsbD_ushiftRight]
  rw [Nat.mod_eq_of_lt (by omega), Nat.add_comm]
  rfl
theorem tb_1 (f : Nat) : tb 1 f = decide (f = 0) := by
  by_cases h : f < 64
  · have : ∀ f, f < 64 → tb 1 f = decide (f = 0) := by decide +kernel
    exact this f h
  · rw [tb_ge (by omega)]; simp; omega
theorem tb_bit {k : Nat} (hk : k < 64) (f : Nat) : tb (shlJ 1 (nI k)) f = decide (f = k) := by
  rw [tb_shl _ hk, tb_1]
  by_cases h : f = k
  · subst h; simp [hk]
  · simp [h]; omega
