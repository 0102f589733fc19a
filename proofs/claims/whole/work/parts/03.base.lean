/-! THE ABSTRACT HEAP: kinds, ints, longs, references, by address and place; how many cells there are -/
abbrev HA : Type := (Nat → Nat × Nat) × (Nat → Nat → Int32) × (Nat → Nat → Int64) × (Nat → Nat → Option Nat) × Nat
def kd (h : HA) (a : Nat) : Nat × Nat := h.1 a
def gi (h : HA) (a k : Nat) : Int32 := h.2.1 a k
def gj (h : HA) (a k : Nat) : Int64 := h.2.2.1 a k
def ga (h : HA) (a k : Nat) : Option Nat := h.2.2.2.1 a k
def hz (h : HA) : Nat := h.2.2.2.2
def si (h : HA) (a k : Nat) (v : Int32) : HA := (h.1, (fun b j => if b = a ∧ j = k then v else h.2.1 b j), h.2.2)
def sj (h : HA) (a k : Nat) (v : Int64) : HA := (h.1, h.2.1, (fun b j => if b = a ∧ j = k then v else h.2.2.1 b j), h.2.2.2)
def sa (h : HA) (a k : Nat) (v : Option Nat) : HA := (h.1, h.2.1, h.2.2.1, (fun b j => if b = a ∧ j = k then v else h.2.2.2.1 b j), h.2.2.2.2)
/-- a new cell, of a kind, all noughts -/
def nw (h : HA) (c n : Nat) : HA := ((fun b => if b = hz h then (c, n) else h.1 b), (fun b j => if b = hz h then 0 else h.2.1 b j), (fun b j => if b = hz h then 0 else h.2.2.1 b j), (fun b j => if b = hz h then none else h.2.2.2.1 b j), hz h + 1)
/-! reads and writes that look first -/
def gI (h : HA) (a c k : Nat) : Option Int32 := if (kd h a).1 = c then some (gi h a k) else none
def gJ (h : HA) (a c k : Nat) : Option Int64 := if (kd h a).1 = c then some (gj h a k) else none
def gN (h : HA) (a c k : Nat) : Option (Option Nat) := if (kd h a).1 = c then some (ga h a k) else none
def gR (h : HA) (a c k : Nat) : Option Nat := if (kd h a).1 = c then ga h a k else none
def pI (h : HA) (a c k : Nat) (v : Int32) : Option HA := if (kd h a).1 = c then some (si h a k v) else none
def pJ (h : HA) (a c k : Nat) (v : Int64) : Option HA := if (kd h a).1 = c then some (sj h a k v) else none
def pR (h : HA) (a c k : Nat) (v : Option Nat) : Option HA := if (kd h a).1 = c then some (sa h a k v) else none
def inb (i : Int32) (n : Nat) : Bool := decide (0 ≤ i.toInt ∧ i.toInt < (n : Int))
def ldI (h : HA) (a c : Nat) (i : Int32) : Option Int32 := if (kd h a).1 = c ∧ inb i (kd h a).2 = true then some (gi h a i.toNatClampNeg) else none
def ldJ (h : HA) (a : Nat) (i : Int32) : Option Int64 := if (kd h a).1 = 21 ∧ inb i (kd h a).2 = true then some (gj h a i.toNatClampNeg) else none
def ldN (h : HA) (a c : Nat) (i : Int32) : Option (Option Nat) := if (kd h a).1 = c ∧ inb i (kd h a).2 = true then some (ga h a i.toNatClampNeg) else none
def ldR (h : HA) (a c : Nat) (i : Int32) : Option Nat := if (kd h a).1 = c ∧ inb i (kd h a).2 = true then ga h a i.toNatClampNeg else none
def asI (h : HA) (a c : Nat) (i : Int32) (v : Int32) : Option HA := if (kd h a).1 = c ∧ inb i (kd h a).2 = true then some (si h a i.toNatClampNeg v) else none
def asJ (h : HA) (a : Nat) (i : Int32) (v : Int64) : Option HA := if (kd h a).1 = 21 ∧ inb i (kd h a).2 = true then some (sj h a i.toNatClampNeg v) else none
def elc (c : Nat) : Nat := match c with
  | 24 => 6
  | 25 => 1
  | _ => 3
/-- storing a reference into a row of references: to an object of the row's class -/
def asR (h : HA) (a c : Nat) (i : Int32) (v : Nat) : Option HA := if (kd h a).1 = c ∧ inb i (kd h a).2 = true ∧ (kd h v).1 = elc c then some (sa h a i.toNatClampNeg (some v)) else none
def aL (h : HA) (a : Nat) : Option Int32 := if 20 ≤ (kd h a).1 then some (Int32.ofNat (kd h a).2) else none
def nA (h : HA) (c : Nat) (n : Int32) (most : Nat) : Option HA := if 0 ≤ n.toInt ∧ n.toInt ≤ (most : Int) then some (nw h c n.toNatClampNeg) else none
def dv (x y : Int32) : Option Int32 := if y = 0 then none else some (x / y)
def rm (x y : Int32) : Option Int32 := if y = 0 then none else some (x - x / y * y)
theorem ob {α β : Type} {o : Option α} {f : α → Option β} {r : β} (h : o.bind f = some r) : ∃ x, o = some x ∧ f x = some r := Option.bind_eq_some_iff.mp h
theorem oi {α : Type} {c : Prop} {hd : Decidable c} {a b r : Option α} (h : (if c then a else b) = r) : (c ∧ a = r) ∨ (¬ c ∧ b = r) := by
  by_cases hc : c
  · rw [if_pos hc] at h; exact Or.inl ⟨hc, h⟩
  · rw [if_neg hc] at h; exact Or.inr ⟨hc, h⟩
theorem inb_iff {i : Int32} {n : Nat} : inb i n = true ↔ 0 ≤ i.toInt ∧ i.toInt < (n : Int) := by simp [inb]
theorem inb_vp {i : Int32} {n : Nat} (h : inb i n = true) : vp_in i n := by
  have h1 := inb_iff.mp h
  intro q
  rcases q with q | q
  · rw [Int32.lt_iff_toInt_lt] at q; simp at q; omega
  · have : i.toNatClampNeg = i.toInt.toNat := rfl
    omega
/-! THE ENVIRONMENT of one run of the law: classes, array classes, addresses of what was there before, base, the heap at the start, the script -/
abbrev EV : Type := va_G × (Nat → ClassId) × (Nat → Nat) × Nat × Heap × Nat × (Nat → Int32)
def vD (V : EV) : va_G := V.1
def vA (V : EV) : Nat → ClassId := V.2.1
def vE (V : EV) : Nat → Nat := V.2.2.1
def vB (V : EV) : Nat := V.2.2.2.1
def vH (V : EV) : Heap := V.2.2.2.2.1
def vL (V : EV) : Nat := V.2.2.2.2.2.1
def vX (V : EV) : Nat → Int32 := V.2.2.2.2.2.2
def fty (c k : Nat) : FieldType := match c with
  | 1 => tyX0 k
  | 2 => tyX1 k
  | 3 => tyX2 k
  | 4 => tyX3 k
  | 5 => tyX4 k
  | 6 => tyX5 k
  | 7 => tyX6 k
  | 8 => tyX7 k
  | _ => tyX8 k
def nfd (c : Nat) : Nat := match c with
  | 1 => 14
  | 2 => 9
  | 3 => 3
  | 4 => 13
  | 5 => 3
  | 6 => 7
  | 7 => 5
  | 8 => 6
  | _ => 55
def tval (h : HA) (t : FieldType) (a k : Nat) : Value := match t with
  | .long => .long (gj h a k)
  | .int => .int (gi h a k)
  | .boolean => .int (gi h a k)
  | .byte => .int (gi h a k)
  | _ => va_rf (ga h a k)
def ety (c : Nat) : FieldType := match c with
  | 20 => .int
  | 21 => .long
  | 22 => .byte
  | 23 => .boolean
  | 24 => .object "OneEared$Told"
  | 25 => .object "OneEared$Court"
  | _ => .object "OneEared$Listing"
def tyl (V : EV) : List (ClassId × FieldType) := [(vA V 20, ety 20), (vA V 21, ety 21), (vA V 22, ety 22), (vA V 23, ety 23), (vA V 24, ety 24), (vA V 25, ety 25), (vA V 26, ety 26)]
/-- the heap is as the picture says -/
def HRel (V : EV) (h : HA) (H : Heap) : Prop :=
  H.size = hz h ∧ vB V ≤ hz h ∧ (∀ q : Nat, q < vB V → H[q]? = (vH V)[q]?) ∧
  (∀ (a c : Nat), (kd h a).1 = c → 1 ≤ c → c ≤ 9 → vB V ≤ a ∧ t_OB a ((vD V).1 (c - 1)) (nfd c) ((vD V).2 (c - 1)) H (fun k => tval h (fty c k) a k)) ∧
  (∀ (a c : Nat), (kd h a).1 = c → 20 ≤ c → c ≤ 26 ∧ vB V ≤ a ∧ H[a]? = some (arrV (vA V c) (kd h a).2 (fun k => tval h (ety c) a k)))
/-- the static rows of numbers, by their number -/
def stN (k : Nat) : Nat := match k with
  | 3 => 48
  | _ => 12
def stI (k j : Nat) : Int32 := match k with
  | 0 => ([0, 0, 0, 0, 0, 0, 1, 1, 1, 2, 2, 3] : List Int32).getD j 0
  | 1 => ([2, 1, 4, 4, 1, 2, 2, 3, 0, 2, 2, 2] : List Int32).getD j 0
  | 2 => ([0, 0, 0, 1, 0, 0, 0, 1, 2, 1, 0, 0] : List Int32).getD j 0
  | _ => ([8, 8, 0, 0, 63, 0, 0, 0, 63, 3, 9, 3, 63, 3, 9, 3, 63, 0, 0, 0, 3, 63, 0, 0, 3, 3, 0, 0, 3, 9, 9, 0, 0, 0, 0, 0, 9, 9, 0, 0, 9, 9, 0, 0, 5, 9, 0, 0] : List Int32).getD j 0
def stF (k : Nat) : String := match k with
  | 0 => "SORT_OF"
  | 1 => "NUMBERS"
  | 2 => "HEAD"
  | _ => "GREATEST"
def txL : List Nat := [4, 4, 4, 5, 5, 4, 2, 3, 4, 3, 2, 4]
def txB : List (List Int32) := [[115, 105, 122, 101], [119, 97, 108, 108], [108, 101, 102, 116], [114, 105, 103, 104, 116], [112, 108, 101, 97, 100], [116, 119, 105, 110], [103, 111], [115, 97, 121], [119, 97, 105, 116], [121, 101, 115], [110, 111], [107, 110, 111, 119]]
def txS : List String := ["size", "wall", "left", "right", "plead", "twin", "go", "say", "wait", "yes", "no", "know"]
/-- copying a stretch of a row of numbers -/
def cpy (h : HA) (src sp dst dp n : Nat) : HA := (h.1, (fun b j => if b = dst then va_cpy (h.2.1 src) (h.2.1 dst) sp dp n j else h.2.1 b j), h.2.2)
def cpI (h : HA) (c src : Nat) (sp : Int32) (dst : Nat) (dp n : Int32) : Option HA :=
  if (kd h src).1 = c ∧ (kd h dst).1 = c ∧ 0 ≤ sp.toInt ∧ 0 ≤ dp.toInt ∧ 0 ≤ n.toInt ∧ sp.toInt + n.toInt ≤ ((kd h src).2 : Int) ∧ dp.toInt + n.toInt ≤ ((kd h dst).2 : Int) ∧ (∀ i, i < n.toNatClampNeg → c = 22 → (gi h src (sp.toNatClampNeg + i)).toInt8.toInt32 = gi h src (sp.toNatClampNeg + i))
  then some (cpy h src sp.toNatClampNeg dst dp.toNatClampNeg n.toNatClampNeg) else none
/-- reading a static row, the text's length and signs -/
def sld (k : Nat) (i : Int32) : Option Int32 := if inb i (stN k) = true then some (stI k i.toNatClampNeg) else none
def txl (k : Nat) : Option Int32 := if k < 12 then some (Int32.ofNat (txL.getD k 0)) else none
def txc (k : Nat) (i : Int32) : Option Int32 := if k < 12 ∧ inb i (txL.getD k 0) = true then some ((txB.getD k []).getD i.toNatClampNeg 0) else none
def wI (V : EV) : Nat → Prop := fun q => vB V ≤ q
/-- the tables' words that stay true by themselves; those of nest mates -/
def gTbl : List Cond := lw_tbl.filter goodWord
def isNest (w : Cond) : Bool := match w with
  | .methodLinkNest _ _ _ _ => true
  | _ => false
/-- what stays known of the machine's tables, and of what was there before -/
def SK (V : EV) (U : State) : Prop :=
  va_K (vD V) vwCl (tyl V) U ∧
  (∀ k, k < 4 → va_Z "OneEared$Reader" (stF k) "[I" (.ref (vE V k)) (wI V) U (vH V) ∧ va_T .int (vE V k) (stN k) (fun j => .int (stI k j)) (wI V) U (vH V)) ∧
  va_Z "java/lang/String" "COMPACT_STRINGS" "Z" (.int 1) (wI V) U (vH V) ∧
  va_Zq "jdk/internal/util/Preconditions" "SIOOBE_FORMATTER" "Ljava/util/function/BiFunction;" (wI V) U (vH V) ∧
  vk_S 12 txL txB (fun i => vE V (10 + i)) (fun i => vE V (30 + i)) (wI V) U (vH V) ∧
  (∀ k, k < 12 → vk_R "OneEared$Reader" (txN.getD k 0) (txS.getD k "") (vE V (10 + k)) U) ∧
  va_X (vE V 9) (vL V) (vX V) U (vH V) ∧ (∀ w ∈ lw_tbl, isNest w = true → va_Nw w U) ∧ (∀ C ∈ ["OneEared$Told", "OneEared$Court", "OneEared$Listing"], va_AO C U) ∧ vE V 9 < vB V ∧ vB V = (vH V).size
