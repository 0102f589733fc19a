/-! TEXT: the class keeps a line -/
theorem fne {f j : Nat} (hf : f < 12) (hj : j < 12) (h : f ≠ j) : ¬ nI f = nI j := fun z => h (nI_inj (by omega) (by omega) z)
theorem lmw : ∀ s, 1 ≤ s → s < 4 → lmx s ≤ 30 ∧ lwd s ≤ 4 ∧ 2 ≤ lwd s ∧ 1 ≤ lmx s := by
  intro s h1 h4
  have : s = 1 ∨ s = 2 ∨ s = 3 := by omega
  rcases this with e | e | e <;> subst e <;> decide
theorem isFull_c {h : HA} {l s : Nat} {C : CR} (d : DLi h l s C) (h1 : 1 ≤ s) (h4 : s < 4) (hC : C 0 = nI (tn (C 0))) (hm : tn (C 0) ≤ lmx s) : X2_isFull h l = some (bI (decide (lmx s ≤ tn (C 0)))) := by
  obtain ⟨⟨a1, a2, a3, a4⟩, b1, b2⟩ := d
  obtain ⟨m1, m2, m3, m4⟩ := lmw s h1 h4
  have hmul : lwd s * lmx s ≤ 4 * 30 := Nat.mul_le_mul m2 m1
  have hmul2 : (tn (C 0) + 1) * lwd s ≤ 31 * 4 := Nat.mul_le_mul (by omega) m2
  have ea1 : aL h (l + 1) = some (nI (lwd s * lmx s)) := by unfold aL; rw [a4]; rfl
  unfold X2_isFull
  rw [if_pos (by rw [a1]), gI_n a1, show gi h l 2 = nI (tn (C 0)) from b1.trans hC, Option.bind_some, gI_n a1, a2, Option.bind_some, gR_n a1, a3, Option.bind_some, ea1, Option.bind_some, nI_p1, nI_mul]
  by_cases e : lmx s ≤ tn (C 0)
  · have : lwd s * lmx s < (tn (C 0) + 1) * lwd s := by
      rw [Nat.mul_comm (tn (C 0) + 1)]
      exact Nat.mul_lt_mul_of_pos_left (by omega) (by omega)
    rw [if_pos (lt_lit this (by omega)), decide_eq_true e]; rfl
  · have : (tn (C 0) + 1) * lwd s ≤ lwd s * lmx s := by
      rw [Nat.mul_comm (tn (C 0) + 1)]
      exact Nat.mul_le_mul_left _ (by omega)
    rw [if_neg (nlt_lit this (by omega)), decide_eq_false e]; rfl
theorem many_c {h : HA} {r tp nr ls c l n f : Nat} {B : Nat → Nat} {σ : ZS} (x : RX h r tp nr ls c l n B (fsr f) σ) (hP : PK B n (fsr f) σ) (hf : f < 12) : X3_isOneTooMany h r (nI f) = some (bI (tmy f (zC σ))) := by
  have rt := x.1.1
  unfold X3_isOneTooMany tmy
  rw [if_pos (rt_t rt)]
  have hj : fsr f = 0 → ∀ k : Nat, (∃ h1 : Nat, k = h1) := fun _ k => ⟨k, rfl⟩
  have jud : fsr f = 0 → ((gR h r 4 0).bind fun x1 => (gI h x1 1 6).bind fun x2 => if x2 < 6 then some (0 : Int32) else some 1) = some (bI (decide (6 ≤ tn (zC σ 2)))) := by
    intro s0
    obtain ⟨q1, q2, _⟩ := hP.2.2.2.1 s0
    have dc := x.2.2.2.1 s0
    rw [gR_n rt.1, x.2.2.1.2.1, Option.bind_some, gI_n dc.1.1, dc.2.2.2.2.1, q1, Option.bind_some, tn_nI (by omega)]
    by_cases e : 6 ≤ tn (zC σ 2)
    · rw [if_neg (show ¬ nI (tn (zC σ 2)) < 6 from nlt_lit (n := 6) e (by omega)), decide_eq_true e]; rfl
    · rw [if_pos (show nI (tn (zC σ 2)) < 6 from lt_lit (n := 6) (by omega) (by omega)), decide_eq_false e]; rfl
  by_cases f0 : f = 0
  · subst f0; rfl
  · rw [if_neg (show ¬ nI f = 0 from fne hf (j := 0) (by omega) f0)]
    by_cases f1 : f = 1
    · subst f1; rfl
    · rw [if_neg (show ¬ nI f = 1 from fne hf (j := 1) (by omega) f1)]
      by_cases f2 : f = 2
      · subst f2; rw [if_pos (by rfl), if_pos (Or.inl rfl)]; exact jud rfl
      · rw [if_neg (show ¬ nI f = 2 from fne hf (j := 2) (by omega) f2)]
        by_cases f3 : f = 3
        · subst f3; rw [if_pos (by rfl), if_pos (Or.inr rfl)]; exact jud rfl
        · rw [if_neg (show ¬ nI f = 3 from fne hf (j := 3) (by omega) f3), if_neg (show ¬ (f = 2 ∨ f = 3) by omega)]
          by_cases f4 : f = 4
          · subst f4
            obtain ⟨_, _, q3, q4⟩ := hP.2.2.2.1 rfl
            have dc := x.2.2.2.1 rfl
            rw [if_pos (by rfl), if_pos rfl, gR_n rt.1, x.2.2.1.2.1, Option.bind_some, gI_n dc.1.1, dc.2.2.2.2.2.1, q3, Option.bind_some, tn_nI (by omega)]
            by_cases e : 4 ≤ tn (zC σ 3)
            · rw [if_neg (show ¬ nI (tn (zC σ 3)) < 4 from nlt_lit (n := 4) e (by omega)), decide_eq_true e]; rfl
            · rw [if_pos (show nI (tn (zC σ 3)) < 4 from lt_lit (n := 4) (by omega) (by omega)), decide_eq_false e]; rfl
          · rw [if_neg (show ¬ nI f = 4 from fne hf (j := 4) (by omega) f4), if_neg f4]
            by_cases f5 : f = 5
            · subst f5; rfl
            · have s1 : 1 ≤ fsr f ∧ fsr f < 4 := by
                have : ∀ f, f < 12 → 6 ≤ f → 1 ≤ fsr f ∧ fsr f < 4 := by decide
                exact this f hf (by omega)
              obtain ⟨q1, q2⟩ := hP.2.2.2.2 s1.1
              obtain ⟨y1, y2⟩ := x.2.2.2.2.1 s1.1
              rw [if_neg (show ¬ nI f = 5 from fne hf (j := 5) (by omega) f5), if_neg (show ¬ f < 6 by omega), gR_n rt.1, x.2.2.1.2.2.1, Option.bind_some, sl_s f hf, Option.bind_some, ldR_n x.2.2.1.2.2.2 (by omega) (by omega), y1, Option.bind_some, isFull_c y2 s1.1 s1.2 q1 q2, Option.bind_some, bz_b]; rfl
theorem fill4 {h : HA} {nr : Nat} (hk : kd h nr = (20, 4)) : ∃ h1, J7_fill_53178 h nr (-1) = some h1 ∧ ch (fun a _ => a = nr) h h1 ∧ ∀ i, i < 4 → gi h1 nr i = -1 := by
  have ea1 : aL h nr = some (nI 4) := by unfold aL; rw [hk]; rfl
  unfold J7_fill_53178
  rw [ea1, Option.bind_some]
  obtain ⟨h1, e1, c1, g1⟩ := loop_inv (fun fu k (h : HA) => J7_fill_53178_L5 nr (-1) (nI 4) fu h (nI k)) (fun k h1 => ch (fun a _ => a = nr) h h1 ∧ ∀ i, i < k → gi h1 nr i = -1) (fun h1 => ch (fun a _ => a = nr) h h1 ∧ ∀ i, i < 4 → gi h1 nr i = -1) 4 (by
    intro i h1 fu hi hI
    have k2 : kd h1 nr = (20, 4) := by rw [hI.1.2.1]; exact hk
    refine ⟨si h1 nr i (-1), ?_, hI.1.tr (ch_si rfl), fun j hj => ?_⟩
    · show J7_fill_53178_L5 nr (-1) (nI 4) (fu + 1) h1 (nI i) = _
      rw [J7_fill_53178_L5, if_pos (lt_lit hi (by omega)), asI_n k2 (by omega) (by omega), Option.bind_some, nI_p1]
    · rw [gi_si]
      by_cases e : j = i
      · rw [if_pos ⟨rfl, e⟩]
      · rw [if_neg (by omega)]; exact hI.2 j (by omega)) (by
    intro h1 fu hI
    refine ⟨h1, ?_, hI⟩
    show J7_fill_53178_L5 nr (-1) (nI 4) (fu + 1) h1 (nI 4) = _
    rw [J7_fill_53178_L5, if_neg (nlt_lit (Nat.le_refl _) (by omega))]) h FU ⟨ch_rf _ _, fun i hi => by omega⟩ (FU_gt (by omega))
  exact ⟨h1, by rw [show J7_fill_53178_L5 nr (-1) (nI 4) FU h 0 = _ from e1]; rfl, c1, g1⟩
/-- what is kept in a COURT's draft -/
def Wkc (r c : Nat) : Nat → Nat → Prop := fun a k => (a = r ∧ k = 12) ∨ (c ≤ a ∧ a ≤ c + 5)
theorem RX_c {h h1 : HA} {r tp nr ls c l n : Nat} {B : Nat → Nat} {σ : ZS} {G : Nat → Bool} {C : CR} {T : Nat → Int32} (x : RX h r tp nr ls c l n B 0 σ) (p : ch (Wkc r c) h h1) (e4 : gi h1 r 12 = nI (msk G 4)) (dc : DCo h1 c C T) : RX h1 r tp nr ls c l n B 0 (zi σ, σ.2.1, zF σ, G, C, T) := by
  obtain ⟨⟨x1, x2⟩, ⟨y1, y2, y3, y4⟩, ⟨⟨x4, x5⟩, x6, x7, x8⟩, x9, x10, x11⟩ := x
  have nc : ∀ a k, Wkc r c a k → (a = r ∧ k = 12) ∨ (a ≠ r ∧ a ≠ tp ∧ a ≠ nr ∧ a ≠ ls) := fun a k w => by
    rcases w with w | w
    · exact Or.inl w
    · exact Or.inr (x11.1 a w.1 w.2)
  have nr12 : ∀ k, k ≠ 12 → ¬ Wkc r c r k := fun k hk w => by
    rcases nc _ _ w with z | z
    · exact hk z.2
    · exact z.1 rfl
  have ntp : ∀ k, ¬ Wkc r c tp k := fun k w => by
    rcases nc _ _ w with z | z
    · exact rt_ne x1 z.1
    · exact z.2.1 rfl
  refine ⟨⟨RT0_ch x1 p (nr12 5 (by omega)) ntp, ?_⟩, ⟨?_, ?_, fun f hf => ?_, e4⟩, ⟨⟨by rw [p.2.2.1]; exact x4, by rw [p.2.1]; exact x5⟩, by rw [p.2.2.1]; exact x6, by rw [p.2.2.1]; exact x7, by rw [p.2.1]; exact x8⟩, fun _ => dc, fun z => by omega, x11⟩
  · obtain ⟨t1, t2, t3, t4⟩ := x2
    exact ⟨by rw [p.gi (nr12 _ (by omega))]; exact t1, by rw [p.gi (nr12 _ (by omega))]; exact t2, by rw [p.gi (nr12 _ (by omega))]; exact t3, fun z => by rw [p.gi (nr12 _ (by omega))]; exact t4 z⟩
  · rw [p.gi (nr12 _ (by omega))]; exact y1
  · rw [p.gi (nr12 _ (by omega))]; exact y2
  · rw [p.gj (nr12 _ (by omega))]; exact y3 f hf
def Wkl (l : Nat) : Nat → Nat → Prop := fun a k => (a = l ∧ k = 2) ∨ a = l + 1
theorem RX_l {h h1 : HA} {r tp nr ls c l n s : Nat} {B : Nat → Nat} {σ : ZS} {C : CR} (x : RX h r tp nr ls c l n B s σ) (hs : 1 ≤ s) (p : ch (Wkl l) h h1) (dl : DLi h1 l s C) : RX h1 r tp nr ls c l n B s (zi σ, σ.2.1, zF σ, zG σ, C, zT σ) := by
  obtain ⟨⟨x1, x2⟩, ⟨y1, y2, y3, y4⟩, ⟨⟨x4, x5⟩, x6, x7, x8⟩, x9, x10, x11⟩ := x
  have nc : ∀ a k, Wkl l a k → (a ≠ r ∧ a ≠ tp ∧ a ≠ nr ∧ a ≠ ls) := fun a k w => x11.2.1 a (by unfold Wkl at w; omega) (by unfold Wkl at w; omega)
  have nw : ∀ k, ¬ Wkl l r k := fun k w => (nc _ _ w).1 rfl
  refine ⟨⟨RT0_ch x1 p (nw 5) (fun k w => (nc _ _ w).2.1 rfl), ?_⟩, ⟨?_, ?_, fun f hf => ?_, ?_⟩, ⟨⟨by rw [p.2.2.1]; exact x4, by rw [p.2.1]; exact x5⟩, by rw [p.2.2.1]; exact x6, by rw [p.2.2.1]; exact x7, by rw [p.2.1]; exact x8⟩, fun z => by omega, fun _ => ⟨by rw [p.2.2.1]; exact (x10 hs).1, dl⟩, x11⟩
  · obtain ⟨t1, t2, t3, t4⟩ := x2
    exact ⟨by rw [p.gi (nw _)]; exact t1, by rw [p.gi (nw _)]; exact t2, by rw [p.gi (nw _)]; exact t3, fun z => by rw [p.gi (nw _)]; exact t4 z⟩
  · rw [p.gi (nw _)]; exact y1
  · rw [p.gi (nw _)]; exact y2
  · rw [p.gj (nw _)]; exact y3 f hf
  · rw [p.gi (nw _)]; exact y4
