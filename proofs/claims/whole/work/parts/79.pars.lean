/-! TEXT: the reader as a function: where it is; FAULT and place; FIELDS told; PLEADERS told; what is told; twins -/
abbrev ZS : Type := Nat × (Int32 × Int32) × (Nat → Bool) × (Nat → Bool) × CR × (Nat → Int32)
def zi (σ : ZS) : Nat := σ.1
def zf (σ : ZS) : Int32 := σ.2.1.1
def zp (σ : ZS) : Int32 := σ.2.1.2
def zF (σ : ZS) : Nat → Bool := σ.2.2.1
def zG (σ : ZS) : Nat → Bool := σ.2.2.2.1
def zC (σ : ZS) : CR := σ.2.2.2.2.1
def zT (σ : ZS) : Nat → Int32 := σ.2.2.2.2.2
def iset (A : Nat → Int32) (k : Nat) (v : Int32) : Nat → Int32 := fun i => if i = k then v else A i
theorem iset_eq (A : Nat → Int32) (k : Nat) (v : Int32) : iset A k v k = v := by simp [iset]
theorem iset_ne {A : Nat → Int32} {k i : Nat} {v : Int32} (h : i ≠ k) : iset A k v i = A i := by simp [iset, h]
def badd (F : Nat → Bool) (v : Nat) : Nat → Bool := fun i => decide (i = v) || F i
/-- a fault noted here -/
def ft (c : Int32) (q : Nat) (σ : ZS) : ZS := if zf σ = 0 then (zi σ, (c, nI q), zF σ, zG σ, zC σ, zT σ) else σ
def nt (B : Nat → Nat) (n : Nat) (σ : ZS) : ZS := (tR B n (zi σ), σ.2)
def bad (f k v : Nat) : Bool := decide (fgr f k < v) || (decide (f = 0) && decide (v < 2))
/-- a number taken: FIELDS and WALLS noted -/
def tkn (f k v : Nat) (σ : ZS) : ZS := if bad f k v = false ∧ fgr f k = 63 then (zi σ, σ.2.1, badd (zF σ) v, zG σ, (if f = 1 then iset (zC σ) (42 + v) 1 else zC σ), zT σ) else σ
def slot (B : Nat → Nat) (n f k : Nat) (σ : ZS) : Nat ⊕ (ZS × Int32) :=
  if tK B n (zi σ) = 3 ∧ fsr f = 2 then .inr (nt B n σ, -1)
  else if tK B n (zi σ) = 2 then .inr (nt B n (tkn f k (tV B n (zi σ)) (if bad f k (tV B n (zi σ)) = true then ft 2 (tB B n (zi σ)) σ else σ)), nI (tV B n (zi σ)))
  else .inl (tB B n (zi σ))
def slots (B : Nat → Nat) (n f : Nat) : Nat → Nat → ZS → (Nat → Int32) → Nat ⊕ (ZS × (Nat → Int32))
  | 0, _, σ, v => .inr (σ, v)
  | d + 1, k, σ, v => match slot B n f k σ with
    | .inl q => .inl q
    | .inr z => slots B n f d (k + 1) z.1 (iset v k z.2)
/-- more FIELDS of a wall -/
def wlp (B : Nat → Nat) (n : Nat) : Nat → ZS → ZS
  | 0, σ => σ
  | d + 1, σ => if tK B n (zi σ) = 2 then (match slot B n 1 0 σ with
    | .inl _ => σ
    | .inr z => wlp B n d z.1) else σ
/-- one too many -/
def tmy (f : Nat) (C : CR) : Bool := if f = 2 ∨ f = 3 then decide (6 ≤ tn (C 2)) else if f = 4 then decide (4 ≤ tn (C 3)) else if f < 6 then false else decide (lmx (fsr f) ≤ tn (C 0))
/-- the row of a list's line -/
def rowv (f : Nat) (v : Nat → Int32) (i : Nat) : Int32 := if f = 11 then v i else if i = 0 then nI (fhd f) else v (i - 1)
def kpC (f : Nat) (v : Nat → Int32) (C : CR) : CR :=
  if tmy f C = true then C
  else if f = 0 then iset (iset C 0 (v 0)) 1 (v 1)
  else if f = 1 then C
  else if f = 2 ∨ f = 3 then (fun x => if x = 2 then nI (tn (C 2) + 1) else if x = 4 + 5 * tn (C 2) then v 0 else if x = 5 + 5 * tn (C 2) then v 1 else if x = 6 + 5 * tn (C 2) then nI (f - 2) else if x = 7 + 5 * tn (C 2) then v 2 else if x = 8 + 5 * tn (C 2) then v 3 else C x)
  else if f = 4 then (fun x => if x = 3 then nI (tn (C 3) + 1) else if x = 34 + 2 * tn (C 3) then v 0 else C x)
  else if f = 5 then C
  else (fun x => if x = 0 then nI (tn (C 0) + 1) else if 1 + lwd (fsr f) * tn (C 0) ≤ x ∧ x < 1 + lwd (fsr f) * tn (C 0) + lwd (fsr f) then rowv f v (x - (1 + lwd (fsr f) * tn (C 0))) else C x)
def kp (f : Nat) (v : Nat → Int32) (σ : ZS) : ZS :=
  (zi σ, σ.2.1, zF σ, (if f = 5 ∧ tn (v 0) < 4 then badd (zG σ) (tn (v 0)) else zG σ), kpC f v (zC σ), (if f = 5 ∧ tn (v 0) < 4 then iset (zT σ) (tn (v 0)) (v 1) else zT σ))
def lnF (B : Nat → Nat) (n f : Nat) (σ : ZS) : Nat ⊕ ZS :=
  match slots B n f (fnm f) 0 (nt B n (if tmy f (zC σ) = true then ft 3 (tB B n (zi σ)) σ else σ)) (fun _ => -1) with
  | .inl q => .inl q
  | .inr z => (fun τ => if tK B n (zi τ) = 4 then .inr (nt B n (kp f z.2 τ)) else .inl (tB B n (zi τ))) (if f = 1 then wlp B n (n - zi z.1) z.1 else z.1)
def lnsF (B : Nat → Nat) (n s : Nat) : Nat → ZS → Nat ⊕ ZS
  | 0, σ => .inr σ
  | d + 1, σ => if tK B n (zi σ) = 0 then .inr σ else if fmO s B n (zi σ) = 1000 then .inl (tB B n (zi σ)) else match lnF B n (fmO s B n (zi σ)) σ with
    | .inl q => .inl q
    | .inr τ => lnsF B n s d τ
def z0 (s : Nat) : ZS := (0, (0, -1), (fun _ => false), (fun _ => false), (fun k => if s = 0 ∧ k < 2 then 5 else 0), fun _ => -1)
/-- the twins put in -/
def zTC (C : CR) (T : Nat → Int32) : CR := fun x => if 35 ≤ x ∧ x < 35 + 2 * tn (C 3) ∧ x % 2 = 1 then T ((x - 35) / 2) else C x
/-- a COURT that cannot be -/
def wrg (σ : ZS) : Bool :=
  !((List.range 64).all fun f => !(zF σ f) || decide (f < tn (zC σ 0) * tn (zC σ 1))) || !((List.range 4).all fun p => !(zG σ p) || decide (p < tn (zC σ 3))) ||
  !((List.range (tn (zC σ 2))).all fun j => !wl (zC σ) (tn (zC σ (4 + 5 * j)))) || !((List.range (tn (zC σ 3))).all fun p => !wl (zC σ) (tn (zC σ (34 + 2 * p))) && (decide (zT σ p = -1) || !wl (zC σ) (tn (zT σ p))))
/-- what a text comes to: FAULT and place, what is told -/
def txF (B : Nat → Nat) (n s : Nat) : (Int32 × Int32) × CR := match lnsF B n s (n + 1) (nt B n (z0 s)) with
  | .inl q => ((1, nI q), fun _ => 0)
  | .inr σ => if s = 0 ∧ zf σ = 0 ∧ wrg σ = true then ((4, nI n), fun _ => 0) else (σ.2.1, if s = 0 then zTC (zC σ) (zT σ) else zC σ)
/-! what holds of it -/
/-- counts, and places of faults behind us -/
def PJ (B : Nat → Nat) (n s : Nat) (σ : ZS) : Prop := zi σ ≤ n ∧ (zf σ ≠ 0 → ∃ q, zp σ = nI q ∧ q < tB B n (zi σ)) ∧ (zf σ = 0 ∨ zf σ = 2 ∨ zf σ = 3) ∧
  (s = 0 → zC σ 2 = nI (tn (zC σ 2)) ∧ tn (zC σ 2) ≤ 6 ∧ zC σ 3 = nI (tn (zC σ 3)) ∧ tn (zC σ 3) ≤ 4) ∧ (1 ≤ s → zC σ 0 = nI (tn (zC σ 0)) ∧ tn (zC σ 0) ≤ lmx s)
/-- the same in the middle of a line: the fault's place may be the token just read -/
def vok (v : Nat → Int32) : Prop := ∀ k, v k = -1 ∨ ∃ x, x < 100 ∧ v k = nI x
theorem tRR {B : Nat → Nat} {n i : Nat} (hi : i ≤ n) (hk : tK B n i ≠ 0) : tB B n i < tB B n (tR B n i) ∧ i < tR B n i := by
  obtain ⟨l1, l2, l3⟩ := tR_le (B := B) hi
  have l4 := l3 hk
  obtain ⟨b1, b2⟩ := tB_le (B := B) (n := n) (i := tR B n i) l2
  obtain ⟨b3, b4⟩ := tB_le (B := B) hi
  exact ⟨by omega, by omega⟩
theorem zi_ft (c : Int32) (q : Nat) (σ : ZS) : zi (ft c q σ) = zi σ := by unfold ft; split <;> rfl
theorem zC_ft (c : Int32) (q : Nat) (σ : ZS) : zC (ft c q σ) = zC σ := by unfold ft; split <;> rfl
theorem zF_ft (c : Int32) (q : Nat) (σ : ZS) : zF (ft c q σ) = zF σ := by unfold ft; split <;> rfl
theorem zG_ft (c : Int32) (q : Nat) (σ : ZS) : zG (ft c q σ) = zG σ := by unfold ft; split <;> rfl
theorem zT_ft (c : Int32) (q : Nat) (σ : ZS) : zT (ft c q σ) = zT σ := by unfold ft; split <;> rfl
theorem zi_tkn (f k v : Nat) (σ : ZS) : zi (tkn f k v σ) = zi σ ∧ zf (tkn f k v σ) = zf σ ∧ zp (tkn f k v σ) = zp σ ∧ zG (tkn f k v σ) = zG σ ∧ zT (tkn f k v σ) = zT σ := by
  unfold tkn; split <;> exact ⟨rfl, rfl, rfl, rfl, rfl⟩
theorem zC_tkn (f k v : Nat) (σ : ZS) (x : Nat) (hx : x < 42) : zC (tkn f k v σ) x = zC σ x := by
  unfold tkn
  split
  · show (if f = 1 then iset (zC σ) (42 + v) 1 else zC σ) x = _
    split
    · rw [iset_ne (by omega)]
    · rfl
  · rfl
/-- the fault and its place with a token read, before it is passed -/
def PK (B : Nat → Nat) (n s : Nat) (σ : ZS) : Prop := zi σ ≤ n ∧ (zf σ ≠ 0 → ∃ q, zp σ = nI q ∧ q ≤ tB B n (zi σ)) ∧ (zf σ = 0 ∨ zf σ = 2 ∨ zf σ = 3) ∧
  (s = 0 → zC σ 2 = nI (tn (zC σ 2)) ∧ tn (zC σ 2) ≤ 6 ∧ zC σ 3 = nI (tn (zC σ 3)) ∧ tn (zC σ 3) ≤ 4) ∧ (1 ≤ s → zC σ 0 = nI (tn (zC σ 0)) ∧ tn (zC σ 0) ≤ lmx s)
theorem PJ_PK {B : Nat → Nat} {n s : Nat} {σ : ZS} (h : PJ B n s σ) : PK B n s σ := ⟨h.1, fun z => by obtain ⟨q, h1, h2⟩ := h.2.1 z; exact ⟨q, h1, by omega⟩, h.2.2⟩
theorem PK_nt {B : Nat → Nat} {n s : Nat} {σ : ZS} (h : PK B n s σ) (hk : tK B n (zi σ) ≠ 0) : PJ B n s (nt B n σ) := by
  obtain ⟨h1, h2, h3⟩ := h
  obtain ⟨t1, t2⟩ := tRR h1 hk
  obtain ⟨l1, l2, _⟩ := tR_le (B := B) h1
  refine ⟨l2, fun z => ?_, h3⟩
  obtain ⟨q, q1, q2⟩ := h2 z
  exact ⟨q, q1, by show q < tB B n (tR B n (zi σ)); omega⟩
theorem PJ_ft {B : Nat → Nat} {n s : Nat} {σ : ZS} {c : Int32} (hc : c = 2 ∨ c = 3) (h : PJ B n s σ) : PK B n s (ft c (tB B n (zi σ)) σ) := by
  have h0 := PJ_PK h
  unfold ft
  by_cases e : zf σ = 0
  · rw [if_pos e]
    exact ⟨h.1, fun _ => ⟨_, rfl, Nat.le_refl _⟩, Or.inr hc, h.2.2.2⟩
  · rw [if_neg e]; exact h0
theorem PK_tkn {B : Nat → Nat} {n s f k v : Nat} {σ : ZS} (h : PK B n s σ) : PK B n s (tkn f k v σ) := by
  obtain ⟨e1, e2, e3, _, _⟩ := zi_tkn f k v σ
  unfold PK
  rw [e1, e2, e3, zC_tkn _ _ _ _ 0 (by omega), zC_tkn _ _ _ _ 2 (by omega), zC_tkn _ _ _ _ 3 (by omega)]
  exact h
theorem PJ_slot {B : Nat → Nat} {n s f k : Nat} {σ : ZS} (h : PJ B n s σ) {z : ZS × Int32} (e : slot B n f k σ = .inr z) : PJ B n s z.1 ∧ zi σ < zi z.1 ∧ (z.2 = -1 ∨ ∃ x, x < 100 ∧ z.2 = nI x) ∨ 100 ≤ tV B n (zi σ) := by
  unfold slot at e
  by_cases h1 : tK B n (zi σ) = 3 ∧ fsr f = 2
  · rw [if_pos h1] at e
    have := Sum.inr.inj e
    subst this
    exact Or.inl ⟨PK_nt (PJ_PK h) (by omega), (tRR h.1 (by omega)).2, Or.inl rfl⟩
  · rw [if_neg h1] at e
    by_cases h2 : tK B n (zi σ) = 2
    · rw [if_pos h2] at e
      have := Sum.inr.inj e
      subst this
      by_cases h3 : tV B n (zi σ) < 100
      · left
        refine ⟨?_, ?_, Or.inr ⟨_, h3, rfl⟩⟩
        · by_cases hb : bad f k (tV B n (zi σ)) = true
          · rw [if_pos hb]
            have hk := PK_tkn (f := f) (k := k) (v := tV B n (zi σ)) (PJ_ft (Or.inl rfl) h)
            exact PK_nt hk (by rw [(zi_tkn _ _ _ _).1, zi_ft]; omega)
          · rw [if_neg hb]
            exact PK_nt (PK_tkn (PJ_PK h)) (by rw [(zi_tkn _ _ _ _).1]; omega)
        · show zi σ < tR B n (zi (tkn _ _ _ _))
          rw [(zi_tkn _ _ _ _).1]
          have : zi (if bad f k (tV B n (zi σ)) = true then ft 2 (tB B n (zi σ)) σ else σ) = zi σ := by split; exact zi_ft _ _ _; rfl
          rw [this]
          exact (tRR h.1 (by omega)).2
      · right; omega
    · rw [if_neg h2] at e; exact absurd e (by simp)
