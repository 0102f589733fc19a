/-! TEXT: the class ends a COURT -/
theorem inwall_c {h : HA} {r tp nr ls c l n : Nat} {B : Nat → Nat} {σ : ZS} (x : RX h r tp nr ls c l n B 0 σ) (hP : PJ B n 0 σ) (g : GC σ) :
    ∃ b, X3_isSomebodyInWall h r = some (bI b) ∧ (b = false ↔ (∀ j, j < tn (zC σ 2) → wl (zC σ) (tn (zC σ (4 + 5 * j))) = false) ∧ ∀ p, p < tn (zC σ 3) → wl (zC σ) (tn (zC σ (34 + 2 * p))) = false ∧ (zT σ p = -1 ∨ wl (zC σ) (tn (zT σ p)) = false)) := by
  have rt := x.1.1
  obtain ⟨q1, q2, q3, q4⟩ := hP.2.2.2.1 rfl
  obtain ⟨a1, a2, a3, a4, a5, a6, a7, a8, a9⟩ := x.2.2.2.1 rfl
  have x6 := x.2.2.1.2.1
  obtain ⟨g1, ⟨g3, g4⟩, g5, g6, g7, g8, g9⟩ := g
  have r0 : gR h r 4 0 = some c := by rw [gR_n rt.1]; exact x6
  obtain ⟨C, hC⟩ : ∃ C, C = zC σ := ⟨_, rfl⟩
  obtain ⟨T, hT⟩ : ∃ T, T = zT σ := ⟨_, rfl⟩
  obtain ⟨J, hJ⟩ : ∃ J, J = tn (C 2) := ⟨_, rfl⟩
  obtain ⟨P, hPp⟩ : ∃ P, P = tn (C 3) := ⟨_, rfl⟩
  rw [← hC] at q1 q2 q3 q4 a2 a3 a4 a5 a6 a7 a8 g3 g4 g5 g6 ⊢
  rw [← hT] at a9 g7 ⊢
  rw [← hJ] at q1 q2 a7 g5 ⊢
  rw [← hPp] at q3 q4 a8 g6 ⊢
  have fa : ∀ j, j < J → ∃ a, a < 64 ∧ C (4 + 5 * j) = nI a ∧ tn (C (4 + 5 * j)) = a := fun j hj => by
    obtain ⟨a, s, e, r, t, ⟨b1, _⟩, ⟨c1, _⟩, _⟩ := g5 j hj
    exact ⟨a, b1, c1, by rw [c1, tn_nI (by omega)]⟩
  have fb : ∀ p, p < P → ∃ a, a < 64 ∧ C (34 + 2 * p) = nI a ∧ tn (C (34 + 2 * p)) = a := fun p hp => by
    obtain ⟨a, b1, b2, _⟩ := g6 p hp
    exact ⟨a, b1, b2, by rw [b2, tn_nI (by omega)]⟩
  have ofj : ∀ j, j < J → X0_of h c (nI j) 0 = some (C (4 + 5 * j)) := fun j hj => by
    unfold X0_of
    rw [if_pos (cs_c a1), cs_r7 a1, Option.bind_some, show (5 : Int32) = nI 5 from rfl, show (0 : Int32) = nI 0 from rfl, nI_mul, nI_add, ldI_n (cs_k7 a1) (by omega) (by omega), a7 _ (by omega), Option.bind_some, show j * 5 + 0 = 5 * j by omega]
  obtain ⟨S, eS, bS⟩ := loop_inv (fun fu k (S : Int64) => X3_isSomebodyInWall_L4 h r fu S (nI k)) (fun k S => ∀ f, f < 64 → tb S f = decide (∃ z, z < k ∧ f = tn (C (4 + 5 * z)))) (fun S => ∀ f, f < 64 → tb S f = decide (∃ z, z < J ∧ f = tn (C (4 + 5 * z)))) J (by
    intro k S fu hk hS
    obtain ⟨a, ha, e1, e2⟩ := fa k hk
    refine ⟨S ||| shlJ 1 (nI a), ?_, fun f hf => ?_⟩
    · show X3_isSomebodyInWall_L4 h r (fu + 1) S (nI k) = _
      rw [X3_isSomebodyInWall_L4, r0, Option.bind_some, cs_I a1, a5, q1, Option.bind_some, if_pos (lt_lit hk (by omega)), Option.bind_some, ofj k hk, Option.bind_some, nI_p1, e1]
    · rw [tb_or, hS f hf, tb_bit ha, Bool.eq_iff_iff, Bool.or_eq_true, decide_eq_true_iff, decide_eq_true_iff, decide_eq_true_iff]
      constructor
      · rintro (⟨z, z1, z2⟩ | z)
        · exact ⟨z, by omega, z2⟩
        · exact ⟨k, by omega, by rw [z, e2]⟩
      · rintro ⟨z, z1, z2⟩
        by_cases e : z = k
        · subst e; right; rw [z2, e2]
        · exact Or.inl ⟨z, by omega, z2⟩) (by
    intro S fu hS
    refine ⟨S, ?_, hS⟩
    show X3_isSomebodyInWall_L4 h r (fu + 1) S (nI J) = _
    rw [X3_isSomebodyInWall_L4, r0, Option.bind_some, cs_I a1, a5, q1, Option.bind_some, if_neg (nlt_lit (Nat.le_refl _) (by omega))]) 0 FU (fun f _ => by rw [tb_0]; simp) (FU_gt (by omega))
  obtain ⟨R, eR, bR⟩ := loop_inv (fun fu k (S : Int64) => X3_isSomebodyInWall_L37 h r fu S (nI k)) (fun k R => ∀ f, f < 64 → tb R f = (tb S f || decide (∃ z, z < k ∧ (f = tn (C (34 + 2 * z)) ∨ (T z ≠ -1 ∧ f = tn (T z)))))) (fun R => ∀ f, f < 64 → tb R f = (tb S f || decide (∃ z, z < P ∧ (f = tn (C (34 + 2 * z)) ∨ (T z ≠ -1 ∧ f = tn (T z)))))) P (by
    intro k R fu hk hR
    obtain ⟨a, ha, e1, e2⟩ := fb k hk
    have l9 : ldI h (c + 2) 20 (nI k) = some (nI a) := by rw [ldI_n (cs_k9 a1) (by omega) (by omega), a8 k hk, e1]
    have l10 : ldI h (c + 3) 20 (nI k) = some (T k) := by rw [ldI_n (cs_k10 a1) (by omega) (by omega), a9 k (by omega)]
    have pre : ∀ X, X = X3_isSomebodyInWall_L37 h r (fu + 1) R (nI k) → X = (if T k = -1 then X3_isSomebodyInWall_L37 h r fu ((R ||| shlJ 1 (nI a)) ||| 0) (nI k + 1) else X3_isSomebodyInWall_L37 h r fu ((R ||| shlJ 1 (nI a)) ||| shlJ 1 (T k)) (nI k + 1)) := by
      intro X hX
      rw [hX, X3_isSomebodyInWall_L37, r0, Option.bind_some, cs_I a1, a6, q3, Option.bind_some, if_pos (lt_lit hk (by omega)), Option.bind_some, cs_r9 a1, Option.bind_some, l9, Option.bind_some, Option.bind_some, cs_r10 a1, Option.bind_some, l10, Option.bind_some, Option.bind_some, cs_r10 a1, Option.bind_some, l10, Option.bind_some]
    by_cases ht : T k = -1
    · refine ⟨(R ||| shlJ 1 (nI a)) ||| 0, ?_, fun f hf => ?_⟩
      · show X3_isSomebodyInWall_L37 h r (fu + 1) R (nI k) = _
        rw [pre _ rfl, if_pos ht, nI_p1]
      · rw [tb_or, tb_0, Bool.or_false, tb_or, hR f hf, tb_bit ha, Bool.or_assoc]
        congr 1
        rw [Bool.eq_iff_iff, Bool.or_eq_true, decide_eq_true_iff, decide_eq_true_iff, decide_eq_true_iff]
        constructor
        · rintro (⟨z, z1, z2⟩ | z)
          · exact ⟨z, by omega, z2⟩
          · exact ⟨k, by omega, Or.inl (by rw [z, e2])⟩
        · rintro ⟨z, z1, z2⟩
          by_cases e : z = k
          · subst e
            rcases z2 with z2 | z2
            · right; rw [z2, e2]
            · exact absurd ht z2.1
          · exact Or.inl ⟨z, by omega, z2⟩
    · obtain ⟨t, t1, t2⟩ : ∃ t, t < 64 ∧ T k = nI t := by
        rcases g7 k (by omega) with e | ⟨t, t1, t2, _⟩
        · exact absurd e ht
        · exact ⟨t, t1, t2⟩
      refine ⟨(R ||| shlJ 1 (nI a)) ||| shlJ 1 (nI t), ?_, fun f hf => ?_⟩
      · show X3_isSomebodyInWall_L37 h r (fu + 1) R (nI k) = _
        rw [pre _ rfl, if_neg ht, nI_p1, t2]
      · rw [tb_or, tb_or, hR f hf, tb_bit ha, tb_bit t1, Bool.or_assoc, Bool.or_assoc]
        congr 1
        have e3 : tn (T k) = t := by rw [t2, tn_nI (by omega)]
        rw [Bool.eq_iff_iff, Bool.or_eq_true, Bool.or_eq_true, decide_eq_true_iff, decide_eq_true_iff, decide_eq_true_iff, decide_eq_true_iff]
        constructor
        · rintro (⟨z, z1, z2⟩ | z | z)
          · exact ⟨z, by omega, z2⟩
          · exact ⟨k, by omega, Or.inl (by rw [z, e2])⟩
          · exact ⟨k, by omega, Or.inr ⟨ht, by rw [z, e3]⟩⟩
        · rintro ⟨z, z1, z2⟩
          by_cases e : z = k
          · subst e
            rcases z2 with z2 | z2
            · right; left; rw [z2, e2]
            · right; right; rw [z2.2, e3]
          · exact Or.inl ⟨z, by omega, z2⟩) (by
    intro R fu hR
    refine ⟨R, ?_, hR⟩
    show X3_isSomebodyInWall_L37 h r (fu + 1) R (nI P) = _
    rw [X3_isSomebodyInWall_L37, r0, Option.bind_some, cs_I a1, a6, q3, Option.bind_some, if_neg (nlt_lit (Nat.le_refl _) (by omega))]) S FU (fun f _ => by simp) (FU_gt (by omega))
  refine ⟨!decide (R &&& gj h c 2 = 0), ?_, ?_⟩
  · unfold X3_isSomebodyInWall
    rw [if_pos (rt_t rt), show X3_isSomebodyInWall_L4 h r FU 0 0 = _ from eS, Option.bind_some, show X3_isSomebodyInWall_L37 h r FU S 0 = _ from eR, Option.bind_some, r0, Option.bind_some, cs_J a1, Option.bind_some]
    by_cases e : R &&& gj h c 2 = 0
    · rw [if_pos e, decide_eq_true e]; rfl
    · rw [if_neg e, decide_eq_false e]; rfl
  · rw [Bool.not_eq_false', decide_eq_true_iff, tb_eq0]
    have hb : ∀ f, f < 64 → (tb (R &&& gj h c 2) f = false ↔ ((∃ z, z < J ∧ f = tn (C (4 + 5 * z))) ∨ ∃ z, z < P ∧ (f = tn (C (34 + 2 * z)) ∨ (T z ≠ -1 ∧ f = tn (T z)))) → wl C f = false) := by
      intro f hf
      rw [tb_and, bR f hf, bS f hf, a4 f hf, ← Bool.decide_or]
      by_cases e : (∃ z, z < J ∧ f = tn (C (4 + 5 * z))) ∨ ∃ z, z < P ∧ (f = tn (C (34 + 2 * z)) ∨ (T z ≠ -1 ∧ f = tn (T z)))
      · rw [decide_eq_true e, Bool.true_and]
        exact ⟨fun h _ => h, fun h => h e⟩
      · rw [decide_eq_false e, Bool.false_and]
        exact ⟨fun _ h => absurd h e, fun _ => rfl⟩
    constructor
    · intro h1
      refine ⟨fun j hj => ?_, fun p hp => ⟨?_, ?_⟩⟩
      · obtain ⟨a, b1, b2, b3⟩ := fa j hj
        rw [b3]
        exact (hb a b1).mp (h1 a b1) (Or.inl ⟨j, hj, b3.symm⟩)
      · obtain ⟨a, b1, b2, b3⟩ := fb p hp
        rw [b3]
        exact (hb a b1).mp (h1 a b1) (Or.inr ⟨p, hp, Or.inl b3.symm⟩)
      · rcases g7 p (by omega) with e | ⟨t, t1, t2, _⟩
        · exact Or.inl e
        · right
          have e3 : tn (T p) = t := by rw [t2, tn_nI (by omega)]
          rw [e3]
          exact (hb t t1).mp (h1 t t1) (Or.inr ⟨p, hp, Or.inr ⟨by rw [t2]; exact nI_nm1 (by omega), e3.symm⟩⟩)
    · rintro ⟨h1, h2⟩ f hf
      refine (hb f hf).mpr ?_
      rintro (⟨z, z1, z2⟩ | ⟨z, z1, z2 | ⟨z2, z3⟩⟩)
      · rw [z2]; exact h1 z z1
      · rw [z2]; exact (h2 z z1).1
      · rcases (h2 z z1).2 with e | e
        · exact absurd e z2
        · rw [z3]; exact e
theorem ush_z : ∀ m, m < 16 → ∀ P, P < 5 → (ushI (nI m) (nI P) = 0 ↔ m < 2 ^ P) := by decide +kernel
theorem msk_P {G : Nat → Bool} {P : Nat} : msk G 4 < 2 ^ P ↔ ∀ p, p < 4 → G p = true → p < P := by
  constructor
  · intro h p hp hG
    by_cases e : p < P
    · exact e
    · have h2 : msk G 4 < 2 ^ p := Nat.lt_of_lt_of_le h (Nat.pow_le_pow_right (by omega) (by omega))
      have h3 := Nat.testBit_lt_two_pow h2
      rw [msk_bit, hG] at h3
      simp at h3; omega
  · intro h
    apply Nat.lt_pow_two_of_testBit
    intro i hi
    rw [msk_bit]
    by_cases e : i < 4
    · cases hG : G i with
      | false => simp
      | true => have := h i e hG; omega
    · simp [e]
theorem flds_c {h : HA} {c : Nat} {C : CR} {w v : Nat} (hs : CS h c) (w1 : 2 ≤ w) (w2 : w ≤ 8) (v1 : 2 ≤ v) (v2 : v ≤ 8) (h0 : gi h c 0 = nI w) (h1 : gi h c 1 = nI v) : ∃ X, X0_all h c = some X ∧ ∀ f, f < 64 → tb X f = decide (f < w * v) := by
  have hle : w * v ≤ 8 * 8 := Nat.mul_le_mul w2 v2
  unfold X0_all
  rw [if_pos (cs_c hs), cs_I hs, h0, Option.bind_some, cs_I hs, h1, Option.bind_some, nI_mul]
  by_cases e : w * v < 64
  · rw [if_pos (show nI (w * v) < 64 from lt_lit (n := 64) e (by omega))]
    exact ⟨_, rfl, fun f hf => one_m _ e f hf⟩
  · rw [if_neg (show ¬ nI (w * v) < 64 from nlt_lit (n := 64) (by omega) (by omega))]
    refine ⟨_, rfl, fun f hf => ?_⟩
    rw [tb_m1]
    simp [hf]; omega
def Wfc (r c : Nat) : Nat → Nat → Prop := fun a k => (a = r ∧ (k = 2 ∨ k = 3)) ∨ (c ≤ a ∧ a ≤ c + 5)
theorem finish_c {h : HA} {r tp nr ls c l n : Nat} {B : Nat → Nat} {σ : ZS} (x : RX h r tp nr ls c l n B 0 σ) (hP : PJ B n 0 σ) (h0 : zf σ = 0) (g : GC σ) :
    ∃ h1, X3_finishCourt h r = some h1 ∧ ch (Wfc r c) h h1 ∧ (wrg σ = true → gi h1 r 2 = 4 ∧ gi h1 r 3 = nI n) ∧ (wrg σ = false → gi h1 r 2 = 0 ∧ CQ h1 c (zTC (zC σ) (zT σ))) := by
  have rt := x.1.1
  obtain ⟨q1, q2, q3, q4⟩ := hP.2.2.2.1 rfl
  obtain ⟨a1, a2, a3, a4, a5, a6, a7, a8, a9⟩ := x.2.2.2.1 rfl
  have x6 := x.2.2.1.2.1
  have r0 : gR h r 4 0 = some c := by rw [gR_n rt.1]; exact x6
  obtain ⟨⟨w, w1, w2, w3⟩, ⟨v, v1, v2, v3⟩⟩ := g.1
  obtain ⟨X, eX, bX⟩ := flds_c (C := zC σ) a1 w1 w2 v1 v2 (a2.trans w3) (a3.trans v3)
  obtain ⟨b, eb, hb⟩ := inwall_c x hP g
  have hw := wrg_f (σ := σ)
  have ew : tn (zC σ 0) * tn (zC σ 1) = w * v := by rw [w3, v3, tn_nI (by omega), tn_nI (by omega)]
  rw [ew] at hw
  have c1 : (gj h r 11 &&& (X ^^^ -1) = 0) ↔ ∀ f, f < 64 → zF σ f = true → f < w * v := by
    rw [tb_eq0]
    refine forall_congr' fun f => ?_
    constructor
    · intro z hf hF
      have := z hf
      rw [tb_and, tb_xor, tb_m1, x.2.1.2.2.1 f hf, hF, bX f hf] at this
      simpa [hf] using this
    · intro z hf
      rw [tb_and, tb_xor, tb_m1, x.2.1.2.2.1 f hf, bX f hf]
      cases hF : zF σ f with
      | false => simp
      | true => have := z hf hF; simp [hf, this]
  have c2 : ushI (gi h r 12) (gi h c 8) = 0 ↔ ∀ p, p < 4 → zG σ p = true → p < tn (zC σ 3) := by
    rw [x.2.1.2.2.2, show gi h c 8 = nI (tn (zC σ 3)) from a6.trans q3, ush_z _ (by have := msk_lt (zG σ) 4; omega) _ (by omega), msk_P]
  have noted : wrg σ = true → ∃ h1, ((gI h r 4 5).bind fun x16 => (X3_note h r 4 x16).bind fun h18 => some h18) = some h1 ∧ ch (Wfc r c) h h1 ∧ (wrg σ = true → gi h1 r 2 = 4 ∧ gi h1 r 3 = nI n) ∧ (wrg σ = false → gi h1 r 2 = 0 ∧ CQ h1 c (zTC (zC σ) (zT σ))) := by
    intro hwt
    obtain ⟨h1, e1, c1, x1⟩ := rx_note (cd := 4) (q := n) x
    rw [rt_I rt, rt.2.2.2.1, Option.bind_some, e1, Option.bind_some]
    have ef : ft 4 n σ = (zi σ, (4, nI n), zF σ, zG σ, zC σ, zT σ) := by unfold ft; rw [if_pos h0]
    rw [ef] at x1
    exact ⟨h1, rfl, c1.mo fun a k w => Or.inl w, fun _ => ⟨x1.2.1.1, x1.2.1.2.1⟩, fun z => by rw [hwt] at z; exact absurd z (by decide)⟩
  have tru : ∀ {p : Prop}, ¬ p → (wrg σ = false → p) → wrg σ = true := fun h1 h2 => by
    cases e : wrg σ with
    | true => rfl
    | false => exact absurd (h2 e) h1
  unfold X3_finishCourt
  rw [if_pos (rt_t rt), gJ_n rt.1, Option.bind_some, r0, Option.bind_some, eX, Option.bind_some]
  by_cases d1 : gj h r 11 &&& (X ^^^ -1) = 0
  · rw [if_pos d1, rt_I rt, Option.bind_some, Option.bind_some, cs_I a1, Option.bind_some]
    by_cases d2 : ushI (gi h r 12) (gi h c 8) = 0
    · rw [if_pos d2, Option.bind_some, if_pos rfl, eb, Option.bind_some]
      cases hbb : b with
      | true =>
        rw [if_neg (show ¬ bI true = 0 by decide)]
        refine noted (tru (p := b = false) (by rw [hbb]; decide) (fun z => hb.mpr ⟨(hw.mp z).2.2.1, (hw.mp z).2.2.2⟩))
      | false =>
        have hwf : wrg σ = false := hw.mpr ⟨c1.mp d1, c2.mp d2, hb.mp hbb⟩
        have wf := good_wf hP g hwf
        have e0 : zTC (zC σ) (zT σ) 0 = zC σ 0 := zTC_o (by omega)
        have e1 : zTC (zC σ) (zT σ) 1 = zC σ 1 := zTC_o (by omega)
        have e2 : zTC (zC σ) (zT σ) 2 = zC σ 2 := zTC_o (by omega)
        have e3 : zTC (zC σ) (zT σ) 3 = zC σ 3 := zTC_o (by omega)
        have eJ : cJ (zTC (zC σ) (zT σ)) = tn (zC σ 2) := by unfold cJ; rw [e2]
        have eP : cP (zTC (zC σ) (zT σ)) = tn (zC σ 3) := by unfold cP; rw [e3]
        have ct : CT h c (zTC (zC σ) (zT σ)) := by
          refine ⟨a1, ?_, ?_, fun f hf => by rw [zTC_w q4]; exact a4 f hf, ?_, ?_, fun k hk => ?_, fun p hp => ⟨?_, ?_⟩⟩
          · rw [a2, ← e0]; exact wf.1.1.2.2
          · rw [a3, ← e1]; exact wf.1.2.1.2.2
          · rw [a5, ← e2]; exact wf.1.2.2.1.2
          · rw [a6, ← e3]; exact wf.1.2.2.2.1.2
          · rw [eJ] at hk
            rw [zTC_o (by omega)]; exact a7 k hk
          · rw [eP] at hp
            rw [zTC_o (by omega)]; exact a8 p hp
          · rw [eP] at hp
            rw [zTC_t hp]; exact a9 p (by omega)
        obtain ⟨h3, e3', c3, q3'⟩ := measured ct wf
        rw [if_pos (show bI false = 0 by decide), Option.bind_some, e3', Option.bind_some]
        refine ⟨h3, rfl, c3.mo fun a k w => ?_, fun z => by rw [hwf] at z; exact absurd z (by decide), fun _ => ⟨?_, q3'⟩⟩
        · unfold Wme at w; exact Or.inr ⟨by omega, by omega⟩
        · have nc := x.2.2.2.2.2.1 c (by omega) (by omega)
          rw [c3.gi (fun w => by unfold Wme at w; exact nc.1 w.1.symm), x.2.1.1]
          exact h0
    · rw [if_neg d2, Option.bind_some, if_neg (by decide)]
      exact noted (tru d2 (fun z => c2.mpr (hw.mp z).2.1))
  · rw [if_neg d1, Option.bind_some, if_neg (by decide)]
    exact noted (tru d1 (fun z => c1.mpr (hw.mp z).1))
/-! the class takes a text in hand -/
theorem reset_c {h : HA} {c : Nat} (hs : CS h c) : ∃ h1, X0_reset h c = some h1 ∧ ch (Wct c) h h1 ∧ DCo h1 c (zC (z0 0)) (zT (z0 0)) := by
  obtain ⟨C, hC⟩ : ∃ C, C = zC (z0 0) := ⟨_, rfl⟩
  have eC : ∀ x, C x = if x < 2 then 5 else 0 := fun x => by
    rw [hC]
    show (if 0 = 0 ∧ x < 2 then (5 : Int32) else 0) = _
    by_cases e : x < 2
    · rw [if_pos ⟨rfl, e⟩, if_pos e]
    · rw [if_neg (fun z => e z.2), if_neg e]
  have t0 : tn 0 = 0 := tn_nI (n := 0) (by omega)
  have ew : ∀ q, wl C q = false := fun q => by unfold wl; rw [eC, if_neg (by omega)]; rfl
  obtain ⟨g, hg⟩ : ∃ g, g = si (si (sj (si (si h c 0 5) c 1 5) c 2 0) c 6 0) c 8 0 := ⟨_, rfl⟩
  have cg : ch (Wct c) h g := by
    rw [hg]
    exact ((((ch_si ⟨by omega, by omega⟩).tr (ch_si ⟨by omega, by omega⟩)).tr (ch_sj ⟨by omega, by omega⟩)).tr (ch_si ⟨by omega, by omega⟩)).tr (ch_si ⟨by omega, by omega⟩)
  have st : ∀ {k : HA}, ch (Wct c) h k → CS k c := fun p => CS_same hs (fun a _ _ => p.2.1 a) (fun k => p.2.2.1 c k)
  have sg := st cg
  obtain ⟨g2, e2, c2, n2⟩ := fill4 (cs_k10 sg)
  have c12 : ch (Wct c) h g2 := cg.tr (c2.mo fun a k w => ⟨by omega, by omega⟩)
  have s2 := st c12
  have f0 : gi g2 c 0 = 5 := by rw [c2.gi (by omega), hg, gi_si, if_neg (by omega), gi_si, if_neg (by omega), gi_sj, gi_si, if_neg (by omega), gi_si, if_pos ⟨rfl, rfl⟩]
  have f1 : gi g2 c 1 = 5 := by rw [c2.gi (by omega), hg, gi_si, if_neg (by omega), gi_si, if_neg (by omega), gi_sj, gi_si, if_pos ⟨rfl, rfl⟩]
  have f6 : gi g2 c 6 = 0 := by rw [c2.gi (by omega), hg, gi_si, if_neg (by omega), gi_si, if_pos ⟨rfl, rfl⟩]
  have f8 : gi g2 c 8 = 0 := by rw [c2.gi (by omega), hg, gi_si, if_pos ⟨rfl, rfl⟩]
  have f2 : ∀ f, f < 64 → tb (gj g2 c 2) f = wl C f := fun f hf => by
    rw [c2.gj (by omega), hg, gj_si, gj_si, gj_sj, if_pos ⟨rfl, rfl⟩, tb_0, ew]
  refine ⟨g2, ?_, c12, ?_⟩
  · unfold X0_reset
    have p1 : ch (Wct c) h (si h c 0 5) := ch_si ⟨by omega, by omega⟩
    have p2 : ch (Wct c) h (si (si h c 0 5) c 1 5) := p1.tr (ch_si ⟨by omega, by omega⟩)
    have p3 : ch (Wct c) h (sj (si (si h c 0 5) c 1 5) c 2 0) := p2.tr (ch_sj ⟨by omega, by omega⟩)
    have p4 : ch (Wct c) h (si (sj (si (si h c 0 5) c 1 5) c 2 0) c 6 0) := p3.tr (ch_si ⟨by omega, by omega⟩)
    rw [if_pos (cs_c hs), cs_pI hs, Option.bind_some, cs_pI (st p1), Option.bind_some, cs_pJ (st p2), Option.bind_some, cs_pI (st p3), Option.bind_some, cs_pI (st p4), Option.bind_some, ← hg, cs_r10 sg, Option.bind_some, e2, Option.bind_some]
  · rw [← hC]
    refine ⟨s2, ?_, ?_, fun f hf => ?_, ?_, ?_, fun k hk => ?_, fun p hp => ?_, fun p hp => ?_⟩
    · rw [f0, eC, if_pos (by omega)]
    · rw [f1, eC, if_pos (by omega)]
    · exact f2 f hf
    · rw [f6, eC, if_neg (by omega)]
    · rw [f8, eC, if_neg (by omega)]
    · rw [eC, if_neg (by omega), t0] at hk; omega
    · rw [eC, if_neg (by omega), t0] at hp; omega
    · rw [n2 p hp]; rfl
/-- what a text comes to -/
def txG (B : Nat → Nat) (n s : Nat) : (Int32 × Int32) × CR := match lnsF B n s (n + 1) (z0 s) with
  | .inl q => ((1, nI q), fun _ => 0)
  | .inr σ => if s = 0 ∧ zf σ = 0 ∧ wrg σ = true then ((4, nI n), fun _ => 0) else ((zf σ, if zf σ = 0 then -1 else zp σ), if s = 0 then zTC (zC σ) (zT σ) else zC σ)
theorem PJ_0 (B : Nat → Nat) (n s : Nat) : PJ B n s (z0 s) := by
  have t0 : tn 0 = 0 := tn_nI (n := 0) (by omega)
  refine ⟨Nat.zero_le _, fun z => absurd rfl z, Or.inl rfl, fun z => ?_, fun z => ?_⟩
  · have e2 : zC (z0 s) 2 = 0 := if_neg (by omega)
    have e3 : zC (z0 s) 3 = 0 := if_neg (by omega)
    rw [e2, e3, t0]
    exact ⟨rfl, by omega, rfl, by omega⟩
  · have e0 : zC (z0 s) 0 = 0 := if_neg (by omega)
    rw [e0, t0]
    exact ⟨rfl, by omega⟩
theorem GI_lns {B : Nat → Nat} {n s : Nat} (hs : s < 4) (ok : ∀ σ τ, PJ B n s σ → lnS s B n σ = .inr τ → PJ B n s τ) : ∀ d (σ τ : ZS), PJ B n s σ → GI s σ → lnsF B n s d σ = .inr τ → GI s τ := by
  intro d
  induction d with
  | zero =>
    intro σ τ hP g e
    have := Sum.inr.inj e
    subst this; exact g
  | succ d ih =>
    intro σ τ hP g e
    rw [lnsF] at e
    by_cases hk : tK B n (zi σ) = 0
    · rw [if_pos hk] at e
      have := Sum.inr.inj e
      subst this; exact g
    · rw [if_neg hk] at e
      by_cases h1 : fmO s B n (zi σ) = 1000
      · rw [if_pos h1] at e; exact absurd e (by simp)
      · rw [if_neg h1] at e
        have el : lnS s B n σ = lnF B n (fmO s B n (zi σ)) σ := by unfold lnS; rw [if_neg h1]
        rw [← el] at e
        cases eS : lnS s B n σ with
        | inl q => rw [eS] at e; exact absurd e (by simp)
        | inr ρ =>
          rw [eS] at e
          exact ih ρ τ (ok σ ρ hP eS) (GI_ln hs hP g eS) e
