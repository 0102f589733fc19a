/-! A COURT as its row of numbers -/
abbrev CR : Type := Nat → Int32
def cW (C : CR) : Nat := tn (C 0)
def cH (C : CR) : Nat := tn (C 1)
def cJ (C : CR) : Nat := tn (C 2)
def cP (C : CR) : Nat := tn (C 3)
def cF (C : CR) : Nat := cW C * cH C
def jg (C : CR) (j w : Nat) : Nat := tn (C (4 + 5 * j + w))
def ps (C : CR) (p : Nat) : Nat := tn (C (34 + 2 * p))
def tw (C : CR) (p : Nat) : Int32 := C (35 + 2 * p)
def wl (C : CR) (f : Nat) : Bool := decide (C (42 + f) = 1)
def op (C : CR) (f : Nat) : Bool := decide (f < cF C) && !wl C f
def WFs (C : CR) : Prop := (2 ≤ cW C ∧ cW C ≤ 8 ∧ C 0 = nI (cW C)) ∧ (2 ≤ cH C ∧ cH C ≤ 8 ∧ C 1 = nI (cH C)) ∧ (cJ C ≤ 6 ∧ C 2 = nI (cJ C)) ∧ (cP C ≤ 4 ∧ C 3 = nI (cP C)) ∧
  (∀ f, f < 64 → C (42 + f) = 0 ∨ C (42 + f) = 1) ∧ (∀ f, f < 64 → wl C f = true → f < cF C)
def WFj (C : CR) : Prop := ∀ j, j < cJ C → (∀ w, w < 5 → C (4 + 5 * j + w) = nI (jg C j w)) ∧ op C (jg C j 0) = true ∧ jg C j 1 < 4 ∧ jg C j 2 < 2 ∧ jg C j 3 < 10 ∧ jg C j 4 < 4
def WFp (C : CR) : Prop := ∀ p, p < cP C → C (34 + 2 * p) = nI (ps C p) ∧ op C (ps C p) = true ∧ (tw C p = -1 ∨ ∃ t, tw C p = nI t ∧ op C t = true)
def WF (C : CR) : Prop := WFs C ∧ WFj C ∧ WFp C
theorem cF_le {C : CR} (hw : WFs C) : cF C ≤ 64 := by
  exact Nat.mul_le_mul hw.1.2.1 hw.2.1.2.1
theorem op_lt {C : CR} {f : Nat} (h : op C f = true) : f < cF C := by
  unfold op at h; simp at h; exact h.1
theorem op_wl {C : CR} {f : Nat} (h : op C f = true) : wl C f = false := by
  unfold op at h; simp at h; exact h.2
theorem cW_c {C : CR} (hw : WFs C) : cW C = 2 ∨ cW C = 3 ∨ cW C = 4 ∨ cW C = 5 ∨ cW C = 6 ∨ cW C = 7 ∨ cW C = 8 := by
  have := hw.1; omega
/-- the FIELD on that side, on the board -/
def bsd (C : CR) (f s : Nat) : Option Nat :=
  if s = 0 then (if cW C ≤ f then some (f - cW C) else none)
  else if s = 1 then (if f % cW C + 1 < cW C then some (f + 1) else none)
  else if s = 2 then (if f + cW C < cF C then some (f + cW C) else none)
  else (if 0 < f % cW C then some (f - 1) else none)
def stp (C : CR) (f s : Nat) : Option Nat := (bsd C f s).filter fun g => op C g
theorem stp_some {C : CR} {f s g : Nat} : stp C f s = some g ↔ bsd C f s = some g ∧ op C g = true := by
  unfold stp; rw [Option.filter_eq_some_iff]
theorem bsd_lt {C : CR} (hw : WFs C) {f s g : Nat} (hf : f < cF C) (h : bsd C f s = some g) : g < cF C := by
  unfold bsd at h
  unfold cF at *
  rcases cW_c hw with e | e | e | e | e | e | e <;> rw [e] at h hf ⊢ <;> (repeat' split at h) <;> simp at h <;> omega
theorem bsd_sym {C : CR} (hw : WFs C) {f s g : Nat} (hf : f < cF C) (hs : s < 4) (h : bsd C f s = some g) : bsd C g ((s + 2) % 4) = some f := by
  have h4 : s = 0 ∨ s = 1 ∨ s = 2 ∨ s = 3 := by omega
  unfold bsd at *
  unfold cF at *
  rcases h4 with rfl | rfl | rfl | rfl
  all_goals
    simp at h ⊢
    obtain ⟨h1, rfl⟩ := h
    rcases cW_c hw with e | e | e | e | e | e | e <;> rw [e] at h1 hf ⊢ <;> omega
theorem stp_sym {C : CR} (hw : WFs C) {f s g : Nat} (hf : op C f = true) (hs : s < 4) (h : stp C f s = some g) : stp C g ((s + 2) % 4) = some f := by
  obtain ⟨h1, _⟩ := stp_some.mp h
  exact stp_some.mpr ⟨bsd_sym hw (op_lt hf) hs h1, hf⟩
theorem stp_op {C : CR} {f s g : Nat} (h : stp C f s = some g) : op C g = true := (stp_some.mp h).2
/-- some FIELD beside is in the set -/
def nb (C : CR) (S : Nat → Bool) (g : Nat) : Bool := (stp C g 0).any S || (stp C g 1).any S || (stp C g 2).any S || (stp C g 3).any S
theorem nb_iff {C : CR} {S : Nat → Bool} {g : Nat} : nb C S g = true ↔ ∃ s c, s < 4 ∧ stp C g s = some c ∧ S c = true := by
  unfold nb
  simp only [Bool.or_eq_true, Option.any_eq_true]
  constructor
  · rintro (((⟨c, h⟩ | ⟨c, h⟩) | ⟨c, h⟩) | ⟨c, h⟩)
    · exact ⟨0, c, by omega, h⟩
    · exact ⟨1, c, by omega, h⟩
    · exact ⟨2, c, by omega, h⟩
    · exact ⟨3, c, by omega, h⟩
  · rintro ⟨s, c, hs, h⟩
    have h4 : s = 0 ∨ s = 1 ∨ s = 2 ∨ s = 3 := by omega
    rcases h4 with rfl | rfl | rfl | rfl
    · exact Or.inl (Or.inl (Or.inl ⟨c, h⟩))
    · exact Or.inl (Or.inl (Or.inr ⟨c, h⟩))
    · exact Or.inl (Or.inr ⟨c, h⟩)
    · exact Or.inr ⟨c, h⟩
/-- the FIELDS up to d steps away -/
def bl (C : CR) (a : Nat) : Nat → Nat → Bool
  | 0, b => decide (b = a)
  | d + 1, b => bl C a d b || (op C b && nb C (bl C a d) b)
theorem bl_succ {C : CR} {a d b : Nat} : bl C a (d + 1) b = true ↔ bl C a d b = true ∨ (op C b = true ∧ ∃ s c, s < 4 ∧ stp C b s = some c ∧ bl C a d c = true) := by
  show (bl C a d b || (op C b && nb C (bl C a d) b)) = true ↔ _
  rw [Bool.or_eq_true, Bool.and_eq_true, nb_iff]
theorem bl_mono1 {C : CR} {a d b : Nat} (h : bl C a d b = true) : bl C a (d + 1) b = true := bl_succ.mpr (Or.inl h)
theorem bl_mono {C : CR} {a d e b : Nat} (hd : d ≤ e) (h : bl C a d b = true) : bl C a e b = true := by
  induction e with
  | zero => have : d = 0 := by omega
            subst this; exact h
  | succ e ih =>
    by_cases h1 : d = e + 1
    · subst h1; exact h
    · exact bl_mono1 (ih (by omega))
theorem bl_self {C : CR} {a d : Nat} : bl C a d a = true := bl_mono (Nat.zero_le d) (by simp [bl])
theorem bl_op {C : CR} {a : Nat} (ha : op C a = true) : ∀ {d b : Nat}, bl C a d b = true → op C b = true := by
  intro d
  induction d with
  | zero => intro b h; simp [bl] at h; rw [h]; exact ha
  | succ d ih =>
    intro b h
    rcases bl_succ.mp h with h | h
    · exact ih h
    · exact h.1
theorem bl_left {C : CR} (hw : WFs C) {a c s : Nat} (ha : op C a = true) (hs : s < 4) (hc : stp C a s = some c) : ∀ {d b : Nat}, bl C c d b = true → bl C a (d + 1) b = true := by
  intro d
  induction d with
  | zero =>
    intro b h
    simp [bl] at h
    subst h
    exact bl_succ.mpr (Or.inr ⟨stp_op hc, (s + 2) % 4, a, by omega, stp_sym hw ha hs hc, bl_self⟩)
  | succ d ih =>
    intro b h
    rcases bl_succ.mp h with h | ⟨h0, s1, e, hs1, h1, h2⟩
    · exact bl_mono1 (ih h)
    · exact bl_succ.mpr (Or.inr ⟨h0, s1, e, hs1, h1, ih h2⟩)
theorem bl_sym {C : CR} (hw : WFs C) {a : Nat} (ha : op C a = true) : ∀ {d b : Nat}, bl C a d b = true → bl C b d a = true := by
  intro d
  induction d with
  | zero => intro b h; simp [bl] at h ⊢; exact h.symm
  | succ d ih =>
    intro b h
    rcases bl_succ.mp h with h | ⟨h0, s1, e, hs1, h1, h2⟩
    · exact bl_mono1 (ih h)
    · exact bl_left hw h0 hs1 h1 (ih h2)
theorem bl_syme {C : CR} (hw : WFs C) {a b : Nat} (ha : op C a = true) (hb : op C b = true) (d : Nat) : bl C a d b = bl C b d a := by
  rw [Bool.eq_iff_iff]
  exact ⟨bl_sym hw ha, bl_sym hw hb⟩
/-- the first number below n (from k on) that fits; 1000 if none -/
def fst1 (p : Nat → Bool) : Nat → Nat → Nat
  | 0, _ => 1000
  | n + 1, k => if p k = true then k else fst1 p n (k + 1)
theorem fst1_spec (p : Nat → Bool) : ∀ (n k : Nat), (∃ i, k ≤ i ∧ i < k + n ∧ p i = true ∧ (∀ j, k ≤ j → j < i → p j = false) ∧ fst1 p n k = i) ∨ ((∀ j, k ≤ j → j < k + n → p j = false) ∧ fst1 p n k = 1000) := by
  intro n
  induction n with
  | zero => intro k; exact Or.inr ⟨fun j h1 h2 => absurd h2 (by omega), rfl⟩
  | succ n ih =>
    intro k
    by_cases h : p k = true
    · exact Or.inl ⟨k, Nat.le_refl k, by omega, h, fun j h1 h2 => absurd h2 (by omega), by unfold fst1; rw [if_pos h]⟩
    · have e : fst1 p (n + 1) k = fst1 p n (k + 1) := by rw [fst1, if_neg h]
      have hf : p k = false := by simpa using h
      rcases ih (k + 1) with ⟨i, h1, h2, h3, h4, h5⟩ | ⟨h1, h2⟩
      · refine Or.inl ⟨i, by omega, by omega, h3, fun j hj1 hj2 => ?_, e.trans h5⟩
        by_cases hjk : j = k
        · subst hjk; exact hf
        · exact h4 j (by omega) hj2
      · refine Or.inr ⟨fun j hj1 hj2 => ?_, e.trans h2⟩
        by_cases hjk : j = k
        · subst hjk; exact hf
        · exact h1 j (by omega) (by omega)
/-- how many steps; 1000: none lead there -/
def ds (C : CR) (a b : Nat) : Nat := fst1 (fun d => bl C a d b) 64 0
theorem ds_cases (C : CR) (a b : Nat) : (ds C a b < 64 ∧ bl C a (ds C a b) b = true ∧ ∀ d, d < ds C a b → bl C a d b = false) ∨ (ds C a b = 1000 ∧ ∀ d, d < 64 → bl C a d b = false) := by
  rcases fst1_spec (fun d => bl C a d b) 64 0 with ⟨i, _, h2, h3, h4, h5⟩ | ⟨h1, h2⟩
  · left
    have : ds C a b = i := h5
    rw [this]
    exact ⟨by omega, h3, fun d hd => h4 d (Nat.zero_le d) hd⟩
  · exact Or.inr ⟨h2, fun d hd => h1 d (Nat.zero_le d) (by omega)⟩
theorem ds_le {C : CR} {a b d : Nat} (hd : d < 64) : ds C a b ≤ d ↔ bl C a d b = true := by
  rcases ds_cases C a b with ⟨h1, h2, h3⟩ | ⟨h1, h2⟩
  · constructor
    · intro h; exact bl_mono h h2
    · intro h
      by_cases h4 : ds C a b ≤ d
      · exact h4
      · rw [h3 d (by omega)] at h; simp at h
  · constructor
    · intro h; omega
    · intro h; rw [h2 d hd] at h; simp at h
theorem ds_self (C : CR) (a : Nat) : ds C a a = 0 := by
  have := (ds_le (C := C) (a := a) (b := a) (d := 0) (by omega)).mpr bl_self
  omega
theorem ds_lt {C : CR} {a b : Nat} (h : ds C a b ≠ 1000) : ds C a b < 64 := by
  rcases ds_cases C a b with h1 | h1
  · exact h1.1
  · exact absurd h1.1 h
theorem ds_uniq {C : CR} {a b n : Nat} (hn : n < 64) (h1 : bl C a n b = true) (h2 : ∀ d, bl C a d b = true → n ≤ d) : ds C a b = n := by
  have h3 := (ds_le hn).mpr h1
  rcases ds_cases C a b with ⟨h4, h5, _⟩ | ⟨h4, _⟩
  · have := h2 _ h5; omega
  · omega
theorem ds_none {C : CR} {a b : Nat} (h : ∀ d, bl C a d b = true → False) : ds C a b = 1000 := by
  rcases ds_cases C a b with ⟨_, h5, _⟩ | ⟨h4, _⟩
  · exact absurd h5 (fun z => h _ z)
  · exact h4
theorem ds_sym {C : CR} (hw : WFs C) {a b : Nat} (ha : op C a = true) (hb : op C b = true) : ds C a b = ds C b a := by
  unfold ds
  congr 1
  funext d
  exact bl_syme hw ha hb d
