theorem bl_grow {C : CR} {a d : Nat} (ha : op C a = true) (S G : Int64) (hS : ∀ f, f < 64 → tb S f = bl C a d f) (hG : ∀ g, g < 64 → tb G g = (op C g && nb C (tb S) g)) (hF : cF C ≤ 64) :
    ∀ g, g < 64 → tb (S ||| G) g = bl C a (d + 1) g := by
  intro g hg
  rw [tb_or, hS g hg, hG g hg]
  show _ = (bl C a d g || (op C g && nb C (bl C a d) g))
  congr 2
  rw [Bool.eq_iff_iff, nb_iff, nb_iff]
  constructor
  · rintro ⟨s, e, h1, h2, h3⟩
    have := op_lt (stp_op h2)
    exact ⟨s, e, h1, h2, by rw [← hS e (by omega)]; exact h3⟩
  · rintro ⟨s, e, h1, h2, h3⟩
    have := op_lt (stp_op h2)
    exact ⟨s, e, h1, h2, by rw [hS e (by omega)]; exact h3⟩
theorem tb_op {C : CR} {a d : Nat} (ha : op C a = true) {S : Int64} (hS : ∀ f, f < 64 → tb S f = bl C a d f) : ∀ f, tb S f = true → op C f = true := by
  intro f hf
  by_cases h : f < 64
  · rw [hS f h] at hf; exact bl_op ha hf
  · rw [tb_ge (by omega)] at hf; simp at hf
theorem bit_bl (C : CR) {a : Nat} (ha : a < 64) : ∀ f, f < 64 → tb (shlJ 1 (nI a)) f = bl C a 0 f := fun f _ => tb_bit ha f
/-- steps to a set -/
def stg (C : CR) (a : Nat) (G : Nat → Bool) (d : Nat) : Bool := (List.range 64).any fun f => bl C a d f && G f
theorem stg_iff {C : CR} {a d : Nat} {G : Nat → Bool} : stg C a G d = true ↔ ∃ f, f < 64 ∧ bl C a d f = true ∧ G f = true := by
  unfold stg
  simp [List.any_eq_true]
def stq (C : CR) (a : Nat) (G : Nat → Bool) : Nat := fst1 (stg C a G) 64 0
def onk (n : Nat) : Int32 := if n = 1000 then -1 else nI n
theorem steps_c {h : HA} {c a : Nat} {C : CR} (hs : CC h c C) (ha : op C a = true) (G : Int64) : X0_steps h c (nI a) G = some (onk (stq C a (tb G))) := by
  have hF := cF_le hs.2.1.1
  have haF := op_lt ha
  unfold X0_steps
  rw [if_pos (cs_c hs.1)]
  have key : ∀ n k fu S, k + n = 64 → n < fu → (∀ f, f < 64 → tb S f = bl C a k f) → X0_steps_L8 h c G fu S (nI k) = some (onk (fst1 (stg C a (tb G)) n k)) := by
    intro n
    induction n with
    | zero =>
      intro k fu S hk hf hS
      obtain ⟨fu, rfl⟩ : ∃ q, fu = q + 1 := ⟨fu - 1, by omega⟩
      have : k = 64 := by omega
      subst this
      rw [X0_steps_L8, if_neg (by decide)]; rfl
    | succ n ih =>
      intro k fu S hk hf hS
      obtain ⟨fu, rfl⟩ : ∃ q, fu = q + 1 := ⟨fu - 1, by omega⟩
      rw [X0_steps_L8, if_pos (show nI k < 64 from (lt_n (b := 64) (by omega) (by omega)).mpr (by omega)), fst1]
      have e : (S &&& G) = 0 ↔ ¬ stg C a (tb G) k = true := by
        rw [tb_eq0, stg_iff]
        constructor
        · rintro h1 ⟨f, h2, h3, h4⟩
          have := h1 f h2
          rw [tb_and, hS f h2, h3, h4] at this; simp at this
        · intro h1 f hf
          rw [tb_and, hS f hf]
          cases h2 : bl C a k f
          · rfl
          · cases h3 : tb G f
            · rfl
            · exact absurd ⟨f, hf, h2, h3⟩ h1
      by_cases h1 : stg C a (tb G) k = true
      · rw [if_neg (fun z => e.mp z h1), if_pos h1]
        unfold onk; rw [if_neg (by omega)]
      · rw [if_pos (e.mpr h1), if_neg h1]
        obtain ⟨X, hX, hXb⟩ := grow_c hs S (tb_op ha hS)
        rw [hX, Option.bind_some, nI_p1]
        exact ih (k + 1) fu (S ||| X) (by omega) (by omega) (bl_grow ha S X hS hXb hF)
  exact key 64 0 FU _ rfl (FU_gt (by omega)) (bit_bl C (by omega))
/-! laying out -/
theorem bsd_col {C : CR} (hw : WFs C) {f s g : Nat} (hf : f < cF C) (hs : s < 4) (h : bsd C f s = some g) : (g % cW C + g / cW C) % 2 ≠ (f % cW C + f / cW C) % 2 := by
  have h4 : s = 0 ∨ s = 1 ∨ s = 2 ∨ s = 3 := by omega
  unfold bsd at *
  unfold cF at *
  rcases h4 with rfl | rfl | rfl | rfl
  all_goals
    simp at h
    obtain ⟨h1, rfl⟩ := h
    rcases cW_c hw with e | e | e | e | e | e | e <;> rw [e] at h1 hf ⊢ <;> omega
theorem cmb_iff {C : CR} {a f s : Nat} : cmb C a f s = true ↔ ∃ b, stp C a s = some b ∧ ds C b f + 1 = ds C a f := by
  unfold cmb
  cases h : stp C a s with
  | none => simp
  | some b => simp
theorem ds_step {C : CR} (hw : WFs C) {a b s f : Nat} (ha : op C a = true) (hs : s < 4) (hb : stp C a s = some b) (h : ds C b f < 63) : ds C a f ≤ ds C b f + 1 := by
  rw [ds_le (by omega)]
  exact bl_left hw ha hs hb ((ds_le (by omega)).mp (Nat.le_refl _))
theorem cmb_1 {C : CR} (hw : WFs C) {a b s f : Nat} (ha : op C a = true) (hs : s < 4) (hb : stp C a s = some b) : (cmb C a f s && bl C a 1 f) = decide (f = b) := by
  rw [Bool.eq_iff_iff, Bool.and_eq_true, cmb_iff, decide_eq_true_iff, ← ds_le (by omega)]
  have hba := stp_op hb
  constructor
  · rintro ⟨⟨b', h1, h2⟩, h3⟩
    rw [hb] at h1; simp at h1; subst h1
    have h4 : ds C b f ≤ 0 := by omega
    rw [ds_le (by omega)] at h4
    simpa [bl] using h4
  · rintro rfl
    have h0 := ds_self C f
    have h1 := ds_step hw (f := f) ha hs hb (by omega)
    have h2 : ds C a f ≠ 0 := by
      intro h
      have : ds C a f ≤ 0 := by omega
      rw [ds_le (by omega)] at this
      simp [bl] at this
      obtain ⟨h5, _⟩ := stp_some.mp hb
      have h6 := bsd_col hw (op_lt ha) hs h5
      rw [this] at h6; exact h6 rfl
    exact ⟨⟨f, hb, by omega⟩, by omega⟩
/-- one layer further -/
theorem via_step {C : CR} (hw : WFs C) {a s d : Nat} (ha : op C a = true) (hs : s < 4) (hd : d < 64) (v : Nat → Bool)
    (hv : if d = 1 then ∀ f, f < 64 → v f = decide (stp C a s = some f) else ∀ f, f < 64 → v f = (cmb C a f s && bl C a (d - 1) f)) (h1 : 1 ≤ d) (f : Nat) (hf : f < 64) :
    (v f || ((op C f && nb C v f) && (bl C a d f && !bl C a (d - 1) f))) = (cmb C a f s && bl C a d f) := by
  have hF := cF_le hw
  by_cases e1 : d = 1
  · subst e1
    rw [if_pos rfl] at hv
    cases hb : stp C a s with
    | none =>
      have hv0 : ∀ f, f < 64 → v f = false := fun f h => by rw [hv f h, hb]; simp
      have : nb C v f = false := by
        cases h : nb C v f
        · rfl
        · obtain ⟨s', e, _, h3, h4⟩ := nb_iff.mp h
          have := op_lt (stp_op h3)
          rw [hv0 e (by omega)] at h4; simp at h4
      rw [hv0 f hf, this]
      unfold cmb; rw [hb]; simp
    | some b =>
      rw [cmb_1 hw ha hs hb, hv f hf, hb]
      have hbF := op_lt (stp_op hb)
      have : (op C f && nb C v f && (bl C a 1 f && !bl C a (1 - 1) f)) = false := by
        cases h : (op C f && nb C v f && (bl C a 1 f && !bl C a (1 - 1) f))
        · rfl
        · exfalso
          rw [Bool.and_eq_true, Bool.and_eq_true, Bool.and_eq_true] at h
          obtain ⟨⟨h2, h3⟩, h4, h5⟩ := h
          obtain ⟨s', e, h6, h7, h8⟩ := nb_iff.mp h3
          have heF := op_lt (stp_op h7)
          rw [hv e (by omega), hb] at h8
          simp at h8
          subst h8
          have h9 : bl C a 0 f = false := by simpa using h5
          rcases bl_succ.mp h4 with h10 | ⟨_, s2, e2, h11, h12, h13⟩
          · rw [h9] at h10; simp at h10
          · simp [bl] at h13
            subst h13
            have c1 := bsd_col hw (op_lt h2) h6 (stp_some.mp h7).1
            have c2 := bsd_col hw (op_lt h2) h11 (stp_some.mp h12).1
            have c3 := bsd_col hw (op_lt ha) hs (stp_some.mp hb).1
            omega
      rw [this]
      simp [eq_comm]
  · rw [if_neg e1] at hv
    rw [hv f hf]
    cases hm : bl C a (d - 1) f with
    | true =>
      have := bl_mono (show d - 1 ≤ d by omega) hm
      simp [this]
    | false =>
      simp only [Bool.and_false, Bool.false_or, Bool.not_false, Bool.and_true]
      cases hd1 : bl C a d f with
      | false => simp
      | true =>
        have hop := bl_op ha hd1
        simp only [Bool.and_true, hop, Bool.true_and]
        have hdf : ds C a f = d := by
          have h2 := (ds_le hd).mpr hd1
          have h3 : ¬ ds C a f ≤ d - 1 := by rw [ds_le (by omega), hm]; simp
          omega
        rw [Bool.eq_iff_iff, nb_iff, cmb_iff]
        constructor
        · rintro ⟨s', e, h3, h4, h5⟩
          have heo := stp_op h4
          have heF := op_lt heo
          rw [hv e (by omega), Bool.and_eq_true, cmb_iff, ← ds_le (by omega)] at h5
          obtain ⟨⟨b, h6, h7⟩, h8⟩ := h5
          refine ⟨b, h6, ?_⟩
          have hbo := stp_op h6
          have h9 : ds C b f ≤ ds C b e + 1 := by
            rw [ds_le (by omega)]
            exact bl_succ.mpr (Or.inr ⟨hop, s', e, h3, h4, (ds_le (by omega)).mp (Nat.le_refl _)⟩)
          have h10 := ds_step hw (f := f) ha hs h6 (by omega)
          omega
        · rintro ⟨b, h3, h4⟩
          have hbo := stp_op h3
          have h5 : bl C b (d - 2 + 1) f = true := by rw [← ds_le (by omega)]; omega
          have h6 : ¬ bl C b (d - 2) f = true := by rw [← ds_le (by omega)]; omega
          rcases bl_succ.mp h5 with h7 | ⟨_, s', e, h8, h9, h10⟩
          · exact absurd h7 h6
          · have heF := op_lt (stp_op h9)
            have h11 := (ds_le (by omega)).mpr h10
            have h12 := ds_step hw (f := e) ha hs h3 (by omega)
            have h13 : ds C a f ≤ ds C a e + 1 := by
              rw [ds_le (by omega)]
              exact bl_succ.mpr (Or.inr ⟨hop, s', e, h8, h9, (ds_le (by omega)).mp (Nat.le_refl _)⟩)
            refine ⟨s', e, h8, h9, ?_⟩
            rw [hv e (by omega), Bool.and_eq_true, cmb_iff, ← ds_le (by omega)]
            exact ⟨⟨b, h3, by omega⟩, by omega⟩
