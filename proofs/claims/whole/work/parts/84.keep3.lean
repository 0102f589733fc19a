/-! TEXT: the class keeps a line: PLEADERS, TWINS, size, rows of lists -/
theorem wl_cg {C C' : CR} {g : Nat} (h : C (42 + g) = C' (42 + g)) : wl C g = wl C' g := by unfold wl; rw [h]
theorem msk_badd (G : Nat → Bool) : ∀ v, v < 4 → nI (msk G 4) ||| shlI 1 (nI v) = nI (msk (badd G v) 4) := by
  intro v hv
  rw [shl1 v (by omega), nI_or]
  congr 1
  apply Nat.eq_of_testBit_eq
  intro i
  rw [Nat.testBit_or, msk_bit, msk_bit, Nat.testBit_two_pow]
  unfold badd
  by_cases e : i = v
  · subst e; simp [hv]
  · have e2 : ¬ v = i := fun z => e z.symm
    simp [e, e2]
theorem keepPlead_c {h : HA} {r tp nr ls c l n : Nat} {B : Nat → Nat} {σ : ZS} {v : Nat → Int32} (x : RX h r tp nr ls c l n B 0 σ) (hP : PK B n 0 σ) (hv : ∀ i, i < 4 → gi h nr i = v i) (h4 : tn (zC σ 3) < 4) :
    ∃ h1, ((gR h r 4 0).bind fun x15 => (gR h x15 1 9).bind fun x16 => (gR h r 4 0).bind fun x17 => (gI h x17 1 8).bind fun x18 => (gR h r 4 10).bind fun x19 => (ldI h x19 20 0).bind fun x20 => (asI h x16 20 x18 x20).bind fun h21 => (gR h21 r 4 0).bind fun x22 => (gI h21 x22 1 8).bind fun x23 => (pI h21 x22 1 8 (x23 + 1)).bind fun h24 => some h24) = some h1 ∧ ch (Wkc r c) h h1 ∧
      RX h1 r tp nr ls c l n B 0 (zi σ, σ.2.1, zF σ, zG σ, (fun x => if x = 3 then nI (tn (zC σ 3) + 1) else if x = 34 + 2 * tn (zC σ 3) then v 0 else zC σ x), zT σ) := by
  have rt := x.1.1
  obtain ⟨q1, q2, q3, q4⟩ := hP.2.2.2.1 rfl
  obtain ⟨N, hN⟩ : ∃ N, N = tn (zC σ 3) := ⟨_, rfl⟩
  rw [← hN] at q3 q4 h4 ⊢
  obtain ⟨a1, a2, a3, a4, a5, a6, a7, a8, a9⟩ := x.2.2.2.1 rfl
  have x6 := x.2.2.1.2.1
  obtain ⟨x4, x5⟩ := x.2.2.1.1
  have ncr : ∀ a, c ≤ a → a ≤ c + 5 → a ≠ r ∧ a ≠ tp ∧ a ≠ nr ∧ a ≠ ls := x.2.2.2.2.2.1
  have g0 : gi h c 8 = nI N := a6.trans q3
  have c1 : ch (Wkc r c) h (si h (c + 2) N (v 0)) := ch_si (Or.inr ⟨by omega, by omega⟩)
  have c2 : ch (Wkc r c) h (si (si h (c + 2) N (v 0)) c 8 (nI (N + 1))) := c1.tr (ch_si (Or.inr ⟨by omega, by omega⟩))
  have kr1 : kd (si h (c + 2) N (v 0)) r = (4, 0) := rt.1
  have kc1 : kd (si h (c + 2) N (v 0)) c = (1, 0) := a1.1
  have g1 : gi (si h (c + 2) N (v 0)) c 8 = nI N := by rw [gi_si, if_neg (by omega)]; exact g0
  have e0 : ldI h nr 20 0 = some (v 0) := by
    rw [show (0 : Int32) = nI 0 from rfl, ldI_n x5 (by omega) (by omega), hv 0 (by omega)]
  rw [gR_n rt.1, x6, Option.bind_some, cs_r9 a1, Option.bind_some, Option.bind_some, cs_I a1, g0, Option.bind_some, gR_n rt.1, x4, Option.bind_some, e0, Option.bind_some, asI_n (cs_k9 a1) (by omega) (by omega), Option.bind_some, gR_n kr1, ga_si, x6, Option.bind_some, gI_n kc1, g1, Option.bind_some, nI_p1, pI_n kc1]
  refine ⟨_, rfl, c2, RX_c x c2 ?_ ⟨?_, ?_, ?_, fun g hg => ?_, ?_, ?_, fun k hk => ?_, fun p hp => ?_, fun p hp => ?_⟩⟩
  · rw [gi_si, if_neg (fun z => (ncr c (by omega) (by omega)).1 z.1.symm), gi_si, if_neg (fun z => (ncr (c + 2) (by omega) (by omega)).1 z.1.symm)]
    exact x.2.1.2.2.2
  · exact CS_same a1 (fun a _ _ => c2.2.1 a) (fun k => c2.2.2.1 c k)
  · dsimp only
    rw [gi_si, if_neg (by omega), gi_si, if_neg (by omega), if_neg (by omega), if_neg (by omega)]; exact a2
  · dsimp only
    rw [gi_si, if_neg (by omega), gi_si, if_neg (by omega), if_neg (by omega), if_neg (by omega)]; exact a3
  · rw [gj_si, gj_si, a4 g hg]
    exact wl_cg ((if_neg (show ¬ 42 + g = 3 by omega)).trans (if_neg (show ¬ 42 + g = 34 + 2 * N by omega))).symm
  · dsimp only
    rw [gi_si, if_neg (by omega), gi_si, if_neg (by omega), if_neg (by omega), if_neg (by omega)]; exact a5
  · rw [gi_si, if_pos ⟨rfl, rfl⟩]; exact (if_pos rfl).symm
  · have e2 : (if 2 = 3 then nI (N + 1) else if 2 = 34 + 2 * N then v 0 else zC σ 2) = zC σ 2 := by rw [if_neg (by omega), if_neg (by omega)]
    dsimp only at hk
    rw [e2] at hk
    dsimp only
    rw [gi_si, if_neg (by omega), gi_si, if_neg (by omega), if_neg (by omega), if_neg (by omega)]; exact a7 k hk
  · simp only [if_true] at hp
    rw [tn_nI (by omega)] at hp
    dsimp only
    rw [gi_si, if_neg (by omega), gi_si, if_neg (show ¬ 34 + 2 * p = 3 by omega)]
    by_cases e : p = N
    · rw [if_pos ⟨rfl, e⟩, if_pos (by omega)]
    · rw [if_neg (by omega), if_neg (by omega)]; exact a8 p (by rw [← hN]; omega)
  · rw [gi_si, if_neg (by omega), gi_si, if_neg (by omega)]; exact a9 p hp
theorem keepSize_c {h : HA} {r tp nr ls c l n : Nat} {B : Nat → Nat} {σ : ZS} {v : Nat → Int32} (x : RX h r tp nr ls c l n B 0 σ) (hP : PK B n 0 σ) (hv : ∀ i, i < 4 → gi h nr i = v i) :
    ∃ h1, ((gR h r 4 0).bind fun x3 => (gR h r 4 10).bind fun x4 => (ldI h x4 20 0).bind fun x5 => (pI h x3 1 0 x5).bind fun h6 => (gR h6 r 4 0).bind fun x7 => (gR h6 r 4 10).bind fun x8 => (ldI h6 x8 20 1).bind fun x9 => (pI h6 x7 1 1 x9).bind fun h10 => some h10) = some h1 ∧ ch (Wkc r c) h h1 ∧
      RX h1 r tp nr ls c l n B 0 (zi σ, σ.2.1, zF σ, zG σ, iset (iset (zC σ) 0 (v 0)) 1 (v 1), zT σ) := by
  have rt := x.1.1
  obtain ⟨q1, q2, q3, q4⟩ := hP.2.2.2.1 rfl
  obtain ⟨a1, a2, a3, a4, a5, a6, a7, a8, a9⟩ := x.2.2.2.1 rfl
  have x6 := x.2.2.1.2.1
  obtain ⟨x4, x5⟩ := x.2.2.1.1
  have ncr : ∀ a, c ≤ a → a ≤ c + 5 → a ≠ r ∧ a ≠ tp ∧ a ≠ nr ∧ a ≠ ls := x.2.2.2.2.2.1
  have n0 := ncr c (by omega) (by omega)
  have c1 : ch (Wkc r c) h (si h c 0 (v 0)) := ch_si (Or.inr ⟨by omega, by omega⟩)
  have c2 : ch (Wkc r c) h (si (si h c 0 (v 0)) c 1 (v 1)) := c1.tr (ch_si (Or.inr ⟨by omega, by omega⟩))
  have kr1 : kd (si h c 0 (v 0)) r = (4, 0) := rt.1
  have kc1 : kd (si h c 0 (v 0)) c = (1, 0) := a1.1
  have kn1 : kd (si h c 0 (v 0)) nr = (20, 4) := x5
  have e0 : ldI h nr 20 0 = some (v 0) := by
    rw [show (0 : Int32) = nI 0 from rfl, ldI_n x5 (by omega) (by omega), hv 0 (by omega)]
  have e1 : ldI (si h c 0 (v 0)) nr 20 1 = some (v 1) := by
    rw [show (1 : Int32) = nI 1 from rfl, ldI_n kn1 (by omega) (by omega), gi_si, if_neg (fun z => n0.2.2.1 z.1.symm), hv 1 (by omega)]
  have eC : ∀ i, 2 ≤ i → iset (iset (zC σ) 0 (v 0)) 1 (v 1) i = zC σ i := fun i hi => by rw [iset_ne (by omega), iset_ne (by omega)]
  rw [gR_n rt.1, x6, Option.bind_some, gR_n rt.1, x4, Option.bind_some, e0, Option.bind_some, cs_pI a1, Option.bind_some, gR_n kr1, ga_si, x6, Option.bind_some, gR_n kr1, ga_si, x4, Option.bind_some, e1, Option.bind_some, pI_n kc1]
  refine ⟨_, rfl, c2, RX_c x c2 ?_ ⟨?_, ?_, ?_, fun g hg => ?_, ?_, ?_, fun k hk => ?_, fun p hp => ?_, fun p hp => ?_⟩⟩
  · rw [gi_si, if_neg (fun z => n0.1 z.1.symm), gi_si, if_neg (fun z => n0.1 z.1.symm)]
    exact x.2.1.2.2.2
  · exact CS_same a1 (fun a _ _ => c2.2.1 a) (fun k => c2.2.2.1 c k)
  · rw [gi_si, if_neg (by omega), gi_si, if_pos ⟨rfl, rfl⟩, iset_ne (by omega), iset_eq]
  · rw [gi_si, if_pos ⟨rfl, rfl⟩, iset_eq]
  · rw [gj_si, gj_si, a4 g hg]
    unfold wl
    rw [eC _ (by omega)]
  · rw [gi_si, if_neg (by omega), gi_si, if_neg (by omega), eC _ (by omega)]; exact a5
  · rw [gi_si, if_neg (by omega), gi_si, if_neg (by omega), eC _ (by omega)]; exact a6
  · rw [eC _ (by omega)] at hk
    rw [gi_si, if_neg (by omega), gi_si, if_neg (by omega), eC _ (by omega)]; exact a7 k hk
  · rw [eC _ (by omega)] at hp
    rw [gi_si, if_neg (by omega), gi_si, if_neg (by omega), eC _ (by omega)]; exact a8 p hp
  · rw [gi_si, if_neg (by omega), gi_si, if_neg (by omega)]; exact a9 p hp
theorem keepTwin_c {h : HA} {r tp nr ls c l n w : Nat} {B : Nat → Nat} {σ : ZS} {v : Nat → Int32} (x : RX h r tp nr ls c l n B 0 σ) (hv : ∀ i, i < 4 → gi h nr i = v i) (h0 : v 0 = nI w) (hw : w < 100) :
    ∃ h1, X3_keepTwin h r = some h1 ∧ ch (Wkc r c) h h1 ∧ RX h1 r tp nr ls c l n B 0 (zi σ, σ.2.1, zF σ, (if w < 4 then badd (zG σ) w else zG σ), zC σ, (if w < 4 then iset (zT σ) w (v 1) else zT σ)) := by
  have rt := x.1.1
  have dc := x.2.2.2.1 rfl
  obtain ⟨a1, a2, a3, a4, a5, a6, a7, a8, a9⟩ := dc
  have x6 := x.2.2.1.2.1
  obtain ⟨x4, x5⟩ := x.2.2.1.1
  have ncr : ∀ a, c ≤ a → a ≤ c + 5 → a ≠ r ∧ a ≠ tp ∧ a ≠ nr ∧ a ≠ ls := x.2.2.2.2.2.1
  have n3 := ncr (c + 3) (by omega) (by omega)
  have nn : nr ≠ r := x.2.2.2.2.2.2.2.1
  have e0 : ldI h nr 20 0 = some (nI w) := by
    rw [show (0 : Int32) = nI 0 from rfl, ldI_n x5 (by omega) (by omega), hv 0 (by omega), h0]
  unfold X3_keepTwin
  rw [if_pos (rt_t rt), gR_n rt.1, x4, Option.bind_some, e0, Option.bind_some, if_neg (nI_lt0 (by omega))]
  by_cases h4 : w < 4
  · rw [if_pos (show nI w < 4 from lt_lit (n := 4) h4 (by omega)), rt_I rt, x.2.1.2.2.2, Option.bind_some, msk_badd _ w h4, rt_p rt, Option.bind_some, if_pos h4, if_pos h4]
    have c1 : ch (Wkc r c) h (si h r 12 (nI (msk (badd (zG σ) w) 4))) := ch_si (Or.inl ⟨rfl, rfl⟩)
    have c2 : ch (Wkc r c) h (si (si h r 12 (nI (msk (badd (zG σ) w) 4))) (c + 3) w (v 1)) := c1.tr (ch_si (Or.inr ⟨by omega, by omega⟩))
    have kr1 : kd (si h r 12 (nI (msk (badd (zG σ) w) 4))) r = (4, 0) := rt.1
    have kn1 : kd (si h r 12 (nI (msk (badd (zG σ) w) 4))) nr = (20, 4) := x5
    have s1 : CS (si h r 12 (nI (msk (badd (zG σ) w) 4))) c := CS_same a1 (fun a _ _ => rfl) (fun k => rfl)
    have e1 : ldI (si h r 12 (nI (msk (badd (zG σ) w) 4))) nr 20 1 = some (v 1) := by
      rw [show (1 : Int32) = nI 1 from rfl, ldI_n kn1 (by omega) (by omega), gi_si, if_neg (fun z => nn z.1), hv 1 (by omega)]
    rw [gR_n kr1, ga_si, x6, Option.bind_some, cs_r10 s1, Option.bind_some, gR_n kr1, ga_si, x4, Option.bind_some, e1, Option.bind_some, asI_n (cs_k10 s1) (by omega) (by omega)]
    have gc : ∀ a k, c ≤ a → a ≤ c + 2 → gi (si (si h r 12 (nI (msk (badd (zG σ) w) 4))) (c + 3) w (v 1)) a k = gi h a k := fun a k h1 h2 => by
      rw [gi_si, if_neg (by omega), gi_si, if_neg (fun z => (ncr a (by omega) (by omega)).1 z.1)]
    refine ⟨_, rfl, c2, RX_c x c2 ?_ ⟨?_, ?_, ?_, fun g hg => ?_, ?_, ?_, fun k hk => ?_, fun p hp => ?_, fun p hp => ?_⟩⟩
    · rw [gi_si, if_neg (fun z => n3.1 z.1.symm), gi_si, if_pos ⟨rfl, rfl⟩]
    · exact CS_same a1 (fun a _ _ => c2.2.1 a) (fun k => c2.2.2.1 c k)
    · rw [gc _ _ (by omega) (by omega)]; exact a2
    · rw [gc _ _ (by omega) (by omega)]; exact a3
    · rw [gj_si, gj_si]; exact a4 g hg
    · rw [gc _ _ (by omega) (by omega)]; exact a5
    · rw [gc _ _ (by omega) (by omega)]; exact a6
    · rw [gc _ _ (by omega) (by omega)]; exact a7 k hk
    · rw [gc _ _ (by omega) (by omega)]; exact a8 p hp
    · rw [gi_si]
      by_cases e : p = w
      · subst e; rw [if_pos ⟨rfl, rfl⟩, iset_eq]
      · rw [if_neg (fun z => e z.2), gi_si, if_neg (fun z => n3.1 z.1), iset_ne e]; exact a9 p hp
  · rw [if_neg (show ¬ nI w < 4 from nlt_lit (n := 4) (by omega) (by omega)), if_neg h4, if_neg h4]
    exact ⟨h, rfl, ch_rf _ _, x⟩
/-! rows of lists -/
theorem put_c {h : HA} {l s N k : Nat} {val : Int32} (hl : LiS h l s) (h1 : 1 ≤ s) (h4 : s < 4) (hN : gi h l 2 = nI N) (hm : N < lmx s) (hk : k < lwd s) : X2_put h l (nI k) val = some (si h (l + 1) (lwd s * N + k) val) := by
  obtain ⟨m1, m2, m3, m4⟩ := lmw s h1 h4
  obtain ⟨a1, a2, a3, a4⟩ := hl
  have hmul : lwd s * (N + 1) ≤ lwd s * lmx s := Nat.mul_le_mul_left _ (by omega)
  rw [Nat.mul_succ] at hmul
  have hmul2 : lwd s * lmx s ≤ 4 * 30 := Nat.mul_le_mul m2 m1
  unfold X2_put
  rw [if_pos (by rw [a1]), gR_n a1, a3, Option.bind_some, gI_n a1, hN, Option.bind_some, gI_n a1, a2, Option.bind_some, nI_mul, nI_add, asI_n a4 (by rw [Nat.mul_comm N]; omega) (by rw [Nat.mul_comm N]; omega), Nat.mul_comm N]
  rfl
theorem fhd_lw : ∀ f, f < 12 → 6 ≤ f → 1 ≤ fsr f ∧ fsr f < 4 ∧ (f = 11 ∧ lwd (fsr f) = 2 ∨ f ≠ 11 ∧ 3 ≤ lwd (fsr f) ∧ lwd (fsr f) ≤ 4) := by decide +kernel
/-- a row kept, as far as place k -/
def RK (h h1 : HA) (l s N k : Nat) (rv : Nat → Int32) : Prop := ch (fun a _ => a = l + 1) h h1 ∧ (∀ i, i < lwd s * N → gi h1 (l + 1) i = gi h (l + 1) i) ∧ ∀ i, i < k → gi h1 (l + 1) (lwd s * N + i) = rv i
theorem RK_put {h h1 : HA} {l s N k : Nat} {rv : Nat → Int32} (x : RK h h1 l s N k rv) : RK h (si h1 (l + 1) (lwd s * N + k) (rv k)) l s N (k + 1) rv := by
  obtain ⟨x1, x2, x3⟩ := x
  refine ⟨x1.tr (ch_si rfl), fun i hi => ?_, fun i hi => ?_⟩
  · rw [gi_si, if_neg (by omega)]; exact x2 i hi
  · rw [gi_si]
    by_cases e : i = k
    · rw [if_pos ⟨rfl, by omega⟩, e]
    · rw [if_neg (by omega)]; exact x3 i (by omega)
theorem keepRow_c {h : HA} {r tp nr ls c l n f : Nat} {B : Nat → Nat} {σ : ZS} {v : Nat → Int32} (hf : f < 12) (h6 : 6 ≤ f) (x : RX h r tp nr ls c l n B (fsr f) σ) (hP : PK B n (fsr f) σ) (hv : ∀ i, i < 4 → gi h nr i = v i) (hm : tn (zC σ 0) < lmx (fsr f)) :
    ∃ h1, X3_keepRow h r (nI f) = some h1 ∧ ch (Wkl l) h h1 ∧ RX h1 r tp nr ls c l n B (fsr f) (zi σ, σ.2.1, zF σ, zG σ, (fun x => if x = 0 then nI (tn (zC σ 0) + 1) else if 1 + lwd (fsr f) * tn (zC σ 0) ≤ x ∧ x < 1 + lwd (fsr f) * tn (zC σ 0) + lwd (fsr f) then rowv f v (x - (1 + lwd (fsr f) * tn (zC σ 0))) else zC σ x), zT σ) := by
  have rt := x.1.1
  obtain ⟨s1, s4, hlw⟩ := fhd_lw f hf h6
  obtain ⟨q1, q2⟩ := hP.2.2.2.2 s1
  obtain ⟨y1, y2⟩ := x.2.2.2.2.1 s1
  obtain ⟨z1, z2, z3⟩ := y2
  obtain ⟨N, hN⟩ : ∃ N, N = tn (zC σ 0) := ⟨_, rfl⟩
  rw [← hN] at q1 q2 hm z3 ⊢
  obtain ⟨s, hs⟩ : ∃ s, s = fsr f := ⟨_, rfl⟩
  rw [← hs] at s1 s4 hlw q2 hm y1 z1 z3 x ⊢
  obtain ⟨m1, m2, m3, m4⟩ := lmw s s1 s4
  have x8 := x.2.2.1.2.2.2
  have x7 := x.2.2.1.2.2.1
  obtain ⟨x4, x5⟩ := x.2.2.1.1
  have nl := x.2.2.2.2.2.2.1
  have nl0 := nl l (by omega) (by omega)
  have nl1 := nl (l + 1) (by omega) (by omega)
  have gN : gi h l 2 = nI N := z2.trans q1
  have keep : ∀ {h1 k}, RK h h1 l s N k (rowv f v) → LiS h1 l s ∧ gi h1 l 2 = nI N ∧ kd h1 r = (4, 0) ∧ gR h1 r 4 10 = some nr ∧ kd h1 nr = (20, 4) ∧ ∀ i, i < 4 → gi h1 nr i = v i := by
    intro h1 k y
    have p := y.1
    have kr : kd h1 r = (4, 0) := by rw [p.2.1]; exact rt.1
    exact ⟨⟨by rw [p.2.1]; exact z1.1, by rw [p.gi (by omega)]; exact z1.2.1, by rw [p.2.2.1]; exact z1.2.2.1, by rw [p.2.1]; exact z1.2.2.2⟩, by rw [p.gi (by omega)]; exact gN, kr, by rw [gR_n kr, p.2.2.1]; exact x4, by rw [p.2.1]; exact x5, fun i hi => by rw [p.gi (fun z => nl1.2.2.1 z.symm)]; exact hv i hi⟩
  have RK0 : RK h h l s N 0 (rowv f v) := ⟨ch_rf _ _, fun _ _ => rfl, fun i hi => by omega⟩
  -- the row's own numbers, from place j on
  have loop : ∀ d j i h1 fu, d + (j + i) = lwd s → d < fu → (j + i ≤ lwd s) → (j = 0 ∧ lwd s = 2 ∧ f = 11 ∨ j = 1 ∧ f ≠ 11 ∧ lwd s ≤ 4) → RK h h1 l s N (j + i) (rowv f v) → ∃ h2, X3_keepRow_L34 r l (nI j) fu h1 (nI i) = some h2 ∧ RK h h2 l s N (lwd s) (rowv f v) := by
    intro d
    induction d with
    | zero =>
      intro j i h1 fu e1 e2 e3 e4 y
      obtain ⟨g, rfl⟩ : ∃ g, fu = g + 1 := ⟨fu - 1, by omega⟩
      obtain ⟨k1, k2, k3, k4, k5, k6⟩ := keep y
      refine ⟨h1, ?_, by rw [show lwd s = j + i by omega]; exact y⟩
      rw [X3_keepRow_L34, gI_n k1.1, k1.2.1, Option.bind_some, nI_add, if_neg (nlt_lit (by omega) (by omega))]
    | succ d ih =>
      intro j i h1 fu e1 e2 e3 e4 y
      obtain ⟨g, rfl⟩ : ∃ g, fu = g + 1 := ⟨fu - 1, by omega⟩
      obtain ⟨k1, k2, k3, k4, k5, k6⟩ := keep y
      have ev : v i = rowv f v (j + i) := by
        unfold rowv
        rcases e4 with ⟨e4, e5, e6⟩ | ⟨e4, e5, e6⟩
        · rw [if_pos e6, e4, Nat.zero_add]
        · rw [if_neg e5, if_neg (by omega), e4, show 1 + i - 1 = i by omega]
      obtain ⟨h2, f1, f2⟩ := ih j (i + 1) (si h1 (l + 1) (lwd s * N + (j + i)) (rowv f v (j + i))) g (by omega) (by omega) (by omega) e4 (RK_put y)
      refine ⟨h2, ?_, f2⟩
      rw [X3_keepRow_L34, gI_n k1.1, k1.2.1, Option.bind_some, nI_add, if_pos (lt_lit (by omega) (by omega)), if_pos (show nI i < 4 from lt_lit (n := 4) (by omega) (by omega)), k4, Option.bind_some, ldI_n k5 (by omega) (by omega), k6 i (by omega), Option.bind_some, put_c k1 s1 s4 k2 hm (by omega), Option.bind_some, nI_p1, ev]
      exact f1
  have fin : ∀ h2, RK h h2 l s N (lwd s) (rowv f v) → ∃ h1, ((gI h2 l 3 2).bind fun x18 => (pI h2 l 3 2 (x18 + 1)).bind fun h19 => some h19) = some h1 ∧ ch (Wkl l) h h1 ∧ RX h1 r tp nr ls c l n B s (zi σ, σ.2.1, zF σ, zG σ, (fun x => if x = 0 then nI (N + 1) else if 1 + lwd s * N ≤ x ∧ x < 1 + lwd s * N + lwd s then rowv f v (x - (1 + lwd s * N)) else zC σ x), zT σ) := by
    intro h2 y
    obtain ⟨k1, k2, k3, k4, k5, k6⟩ := keep y
    have c2 : ch (Wkl l) h (si h2 l 2 (nI (N + 1))) := (y.1.mo fun a k w => Or.inr w).tr (ch_si (Or.inl ⟨rfl, rfl⟩))
    rw [gI_n k1.1, k2, Option.bind_some, nI_p1, pI_n k1.1]
    refine ⟨_, rfl, c2, RX_l x s1 c2 ⟨⟨?_, ?_, ?_, ?_⟩, ?_, fun i hi => ?_⟩⟩
    · exact k1.1
    · rw [gi_si, if_neg (by omega)]; exact k1.2.1
    · exact k1.2.2.1
    · exact k1.2.2.2
    · rw [gi_si, if_pos ⟨rfl, rfl⟩]; exact (if_pos rfl).symm
    · simp only [if_true] at hi
      rw [tn_nI (by omega), Nat.mul_succ] at hi
      dsimp only
      rw [gi_si, if_neg (by omega), if_neg (by omega)]
      by_cases e : i < lwd s * N
      · rw [if_neg (by omega), y.2.1 i e]; exact z3 i e
      · rw [if_pos (by omega), show i = lwd s * N + (i - lwd s * N) by omega, y.2.2 (i - lwd s * N) (by omega)]
        congr 1; omega
  unfold X3_keepRow
  rw [if_pos (rt_t rt), gR_n rt.1, x7, Option.bind_some, sl_s f hf, ← hs, Option.bind_some, ldR_n x8 (by omega) (by omega), y1, Option.bind_some]
  by_cases e11 : f = 11
  · rw [if_pos (show nI f = 11 by rw [e11]; rfl), Option.bind_some]
    dsimp only
    have hw2 : lwd s = 2 := by omega
    obtain ⟨h2, f1, f2⟩ := loop (lwd s) 0 0 h FU (by omega) (FU_gt (by omega)) (by omega) (Or.inl ⟨rfl, hw2, e11⟩) RK0
    rw [show X3_keepRow_L34 r l 0 FU h 0 = _ from f1, Option.bind_some]
    exact fin h2 f2
  · rw [if_neg (show ¬ nI f = 11 from fne hf (j := 11) (by omega) e11), sl_h f hf, Option.bind_some, show X2_put h l 0 (nI (fhd f)) = _ from put_c (k := 0) z1 s1 s4 gN hm (by omega), Option.bind_some, Option.bind_some]
    dsimp only
    have er : nI (fhd f) = rowv f v 0 := by unfold rowv; rw [if_neg e11, if_pos rfl]
    rw [er]
    obtain ⟨h2, f1, f2⟩ := loop (lwd s - 1) 1 0 (si h (l + 1) (lwd s * N + 0) (rowv f v 0)) FU (by omega) (FU_gt (by omega)) (by omega) (Or.inr ⟨rfl, e11, by omega⟩) (RK_put RK0)
    rw [show X3_keepRow_L34 r l 1 FU _ 0 = _ from f1, Option.bind_some]
    exact fin h2 f2
/-- a line kept -/
theorem keepLine_c {h : HA} {r tp nr ls c l n f : Nat} {B : Nat → Nat} {σ : ZS} {v : Nat → Int32} (hf : f < 12) (x : RX h r tp nr ls c l n B (fsr f) σ) (hP : PK B n (fsr f) σ) (hv : ∀ i, i < 4 → gi h nr i = v i) (h5 : f = 5 → ∃ w, w < 100 ∧ v 0 = nI w) :
    ∃ h1, X3_keepLine h r (nI f) = some h1 ∧ ch (Wln r nr c l (fsr f)) h h1 ∧ RX h1 r tp nr ls c l n B (fsr f) (kp f v σ) := by
  have rt := x.1.1
  unfold X3_keepLine
  rw [if_pos (rt_t rt), many_c x hP hf, Option.bind_some]
  unfold kp
  cases ht : tmy f (zC σ) with
  | true =>
    rw [if_neg (show ¬ bI true = 0 by decide)]
    have hn5 : ¬ f = 5 := fun z => by
      rw [z] at ht
      exact absurd ht (by unfold tmy; rw [if_neg (by omega), if_neg (by omega), if_pos (by omega)]; decide)
    refine ⟨h, rfl, ch_rf _ _, ?_⟩
    rw [if_neg (fun z => hn5 z.1), if_neg (fun z => hn5 z.1)]
    unfold kpC
    rw [if_pos ht]
    exact x
  | false =>
    rw [if_pos (show bI false = 0 by decide)]
    have hfs : f < 6 → fsr f = 0 := fun z => by unfold fsr; rw [if_pos z]
    unfold kpC
    rw [if_neg (show ¬ tmy f (zC σ) = true by rw [ht]; decide)]
    by_cases f0 : f = 0
    · subst f0
      rw [if_pos (show nI 0 = 0 from rfl), if_neg (show ¬ (0 = 5 ∧ tn (v 0) < 4) by omega), if_neg (show ¬ (0 = 5 ∧ tn (v 0) < 4) by omega), if_pos (show 0 = 0 from rfl)]
      obtain ⟨h1, e1, c1, x1⟩ := keepSize_c x hP hv
      exact ⟨h1, e1, c1.mo fun a k w => Wkc_ln w, x1⟩
    · rw [if_neg (show ¬ nI f = 0 from fne hf (j := 0) (by omega) f0), if_neg f0]
      by_cases f1 : f = 1
      · subst f1
        rw [if_pos (show nI 1 = 1 from rfl), if_neg (show ¬ (1 = 5 ∧ tn (v 0) < 4) by omega), if_neg (show ¬ (1 = 5 ∧ tn (v 0) < 4) by omega), if_pos (show 1 = 1 from rfl)]
        exact ⟨h, rfl, ch_rf _ _, x⟩
      · rw [if_neg (show ¬ nI f = 1 from fne hf (j := 1) (by omega) f1), if_neg f1]
        have jud : (f = 2 ∨ f = 3) → ∃ h1, ((X3_keepJudge h r (nI f)).bind fun h12 => some h12) = some h1 ∧ ch (Wln r nr c l (fsr f)) h h1 ∧ RX h1 r tp nr ls c l n B (fsr f) (zi σ, σ.2.1, zF σ, zG σ, (fun x => if x = 2 then nI (tn (zC σ 2) + 1) else if x = 4 + 5 * tn (zC σ 2) then v 0 else if x = 5 + 5 * tn (zC σ 2) then v 1 else if x = 6 + 5 * tn (zC σ 2) then nI (f - 2) else if x = 7 + 5 * tn (zC σ 2) then v 2 else if x = 8 + 5 * tn (zC σ 2) then v 3 else zC σ x), zT σ) := by
          intro hj
          have s0 := hfs (by omega)
          rw [s0] at x hP ⊢
          have h6 : tn (zC σ 2) < 6 := by
            unfold tmy at ht
            rw [if_pos hj] at ht
            simpa using ht
          obtain ⟨h1, e1, c1, x1⟩ := keepJudge_c x hP hj hv h6
          exact ⟨h1, by rw [e1]; rfl, c1.mo fun a k w => Wkc_ln w, x1⟩
        by_cases f2 : f = 2
        · rw [if_pos (show nI f = 2 by rw [f2]; rfl), if_pos (Or.inl f2), if_neg (show ¬ (f = 5 ∧ tn (v 0) < 4) by omega), if_neg (show ¬ (f = 5 ∧ tn (v 0) < 4) by omega)]
          exact jud (Or.inl f2)
        · rw [if_neg (show ¬ nI f = 2 from fne hf (j := 2) (by omega) f2)]
          by_cases f3 : f = 3
          · rw [if_pos (show nI f = 3 by rw [f3]; rfl), if_pos (Or.inr f3), if_neg (show ¬ (f = 5 ∧ tn (v 0) < 4) by omega), if_neg (show ¬ (f = 5 ∧ tn (v 0) < 4) by omega)]
            exact jud (Or.inr f3)
          · rw [if_neg (show ¬ nI f = 3 from fne hf (j := 3) (by omega) f3), if_neg (show ¬ (f = 2 ∨ f = 3) by omega)]
            by_cases f4 : f = 4
            · subst f4
              rw [if_pos (show nI 4 = 4 from rfl), if_pos (show 4 = 4 from rfl), if_neg (show ¬ (4 = 5 ∧ tn (v 0) < 4) by omega), if_neg (show ¬ (4 = 5 ∧ tn (v 0) < 4) by omega)]
              have h4 : tn (zC σ 3) < 4 := by
                unfold tmy at ht
                rw [if_neg (by omega), if_pos rfl] at ht
                simpa using ht
              obtain ⟨h1, e1, c1, x1⟩ := keepPlead_c x hP hv h4
              exact ⟨h1, e1, c1.mo fun a k w => Wkc_ln w, x1⟩
            · rw [if_neg (show ¬ nI f = 4 from fne hf (j := 4) (by omega) f4), if_neg f4]
              by_cases f5 : f = 5
              · obtain ⟨w, w1, w2⟩ := h5 f5
                subst f5
                rw [if_pos (show nI 5 = 5 from rfl), if_pos (show 5 = 5 from rfl), w2, tn_nI (by omega)]
                obtain ⟨h1, e1, c1, x1⟩ := keepTwin_c x hv w2 w1
                refine ⟨h1, by rw [e1]; rfl, c1.mo fun a k w => Wkc_ln w, ?_⟩
                by_cases hw4 : w < 4
                · rw [if_pos ⟨rfl, hw4⟩, if_pos ⟨rfl, hw4⟩]
                  rw [if_pos hw4, if_pos hw4] at x1
                  exact x1
                · rw [if_neg (fun z => hw4 z.2), if_neg (fun z => hw4 z.2)]
                  rw [if_neg hw4, if_neg hw4] at x1
                  exact x1
              · rw [if_neg (show ¬ nI f = 5 from fne hf (j := 5) (by omega) f5), if_neg f5, if_neg (fun z => f5 z.1), if_neg (fun z => f5 z.1)]
                have hm : tn (zC σ 0) < lmx (fsr f) := by
                  unfold tmy at ht
                  rw [if_neg (by omega), if_neg f4, if_neg (by omega)] at ht
                  simpa using ht
                obtain ⟨h1, e1, c1, x1⟩ := keepRow_c hf (by omega) x hP hv hm
                obtain ⟨s1, s4, _⟩ := fhd_lw f hf (by omega)
                exact ⟨h1, by rw [e1]; rfl, c1.mo fun a k w => Or.inr (Or.inr (Or.inr ⟨s1, w⟩)), x1⟩
