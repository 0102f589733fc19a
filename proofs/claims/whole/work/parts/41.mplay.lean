/-! the model plays -/
def TP (h : HA) (m t : Nat) (L : CR) : Prop := t < 2 ∧ gi h m 38 = nI t ∧ (∀ i, i < 121 → gi h (m + 7) (121 * t + i) = L i) ∧ WL 1 L
theorem deedT {h : HA} {m t k w : Nat} {L : CR} (hm : MS h m) (tp : TP h m t L) (hk : k < 30) (hw : w < 4) : X8_deedOf h m (nI k) (nI w) = some (dK L k w) := by
  obtain ⟨t1, t2, t3, _⟩ := tp
  unfold X8_deedOf
  rw [if_pos (ms_c hm), ms_r7 hm, Option.bind_some, ms_I hm, t2, Option.bind_some, show (121 : Int32) = nI 121 from rfl, nI_mul, show (4 : Int32) = nI 4 from rfl, nI_mul, nI_p1, nI_add, nI_add, ldI_n (ms_k7 hm) (by omega) (by omega), show 121 * t + 1 + 4 * k + w = 121 * t + (1 + 4 * k + w) by omega, t3 _ (by omega)]
  rfl
theorem HT_ch {W : Nat → Nat → Prop} {h h1 : HA} {m c : Nat} {C : CR} (ht : HT h m c C) (p : ch W h h1) (hm : ∀ k, 24 ≤ k → k ≤ 29 → ¬ W m k) (hc : ∀ k, ¬ W (m + 6) k) (ha : ∀ k, ¬ W (m + 13) k) : HT h1 m c C :=
  ⟨p.hs ht.1 hm hc, fun a f h1 h2 => by rw [p.gi (ha _)]; exact ht.2 a f h1 h2⟩
theorem TP_ch {W : Nat → Nat → Prop} {h h1 : HA} {m t : Nat} {L : CR} (tp : TP h m t L) (p : ch W h h1) (hm : ¬ W m 38) (hc : ∀ k, ¬ W (m + 7) k) : TP h1 m t L :=
  ⟨tp.1, by rw [p.gi hm]; exact tp.2.1, fun i hi => by rw [p.gi (hc _)]; exact tp.2.2.1 i hi, tp.2.2.2⟩
def NZ (h : HA) (m : Nat) (C : CR) (Z : ZT) : Prop := ∀ i, i < 2 * cP C → gi h (m + 20) i = Z i
def Wdo (m k : Nat) : Nat → Nat → Prop := fun a i => a = m + 20 ∨ ((a = m + 21 ∨ a = m + 22 ∨ a = m + 23 ∨ a = m + 24) ∧ i = k)
def Wpl (m : Nat) : Nat → Nat → Prop := fun a i => (m + 20 ≤ a ∧ a ≤ m + 25) ∨ (a = m ∧ i = 40)
/-- what is known of a DEED that was -/
def DM (h : HA) (m : Nat) (L : CR) (k : Nat) (Z : ZT) : Prop := gi h (m + 21) k = (if sd L k = true then dK L k 2 else -1) ∧ (sd L k = true → gi h (m + 22) k = dK L k 3 ∧ gi h (m + 23) k = Z (2 * who L k) ∧ gi h (m + 24) k = Z (2 * who L k + 1))
theorem does_n {h : HA} {m c t k : Nat} {C L : CR} {Z : ZT} (ht : HT h m c C) (hw : WF C) (tp : TP h m t L) (hk : k < llen L) (nz : NZ h m C Z) (zv : ZV C Z) :
    ∃ h1, X8_does h m (nI k) = some (bI (dnx C L k Z).isSome, h1) ∧ ch (Wdo m k) h h1 ∧ (dnx C L k Z = none → NZ h1 m C Z) ∧ ∀ Z1, dnx C L k Z = some Z1 → NZ h1 m C Z1 ∧ DM h1 m L k Z := by
  have hm := ht.1.1
  have hF := cF_le hw.1
  have h4 := hw.1.2.2.2.1.1
  have h30 := llen_30 tp.2.2.2
  unfold X8_does
  rw [if_pos (ms_c hm), ms_r42 hm, Option.bind_some, asI_n (ms_k42 hm) (by omega) (by omega), Option.bind_some]
  have c1 : ch (Wdo m k) h (si h (m + 21) k (-1)) := ch_si (Or.inr ⟨Or.inl rfl, rfl⟩)
  have hh : ∀ {h1 : HA}, ch (Wdo m k) h h1 → HT h1 m c C := fun p => HT_ch ht p (fun k _ _ w => by unfold Wdo at w; omega) (fun k w => by unfold Wdo at w; omega) (fun k w => by unfold Wdo at w; omega)
  have tt : ∀ {h1 : HA}, ch (Wdo m k) h h1 → TP h1 m t L := fun p => TP_ch tp p (fun w => by unfold Wdo at w; omega) (fun k w => by unfold Wdo at w; omega)
  have g21 : gi (si h (m + 21) k (-1)) (m + 21) k = -1 := by rw [gi_si, if_pos ⟨rfl, rfl⟩]
  have nz1 : NZ (si h (m + 21) k (-1)) m C Z := fun i hi => by rw [gi_si, if_neg (by omega)]; exact nz i hi
  generalize si h (m + 21) k (-1) = h1 at *
  have ht1 := hh c1
  have tp1 := tt c1
  have hm1 := ht1.1.1
  rw [show X8_deedOf h1 m (nI k) 1 = _ from deedT (w := 1) hm1 tp1 (by omega) (by omega), Option.bind_some, show X8_deedOf h1 m (nI k) 0 = _ from deedT (w := 0) hm1 tp1 (by omega) (by omega), Option.bind_some]
  rcases deed_c tp.2.2.2 hk with ⟨e0, p, d, hp, hd, e1, e2, _⟩ | ⟨e0, p, w, lo, hp, hwd, hlo, e1, e2, e3⟩ | ⟨e0, e1, _⟩
  · have ewho : who L k = p := by unfold who; rw [e1, tn_nI (by omega)]
    have ewrd : wrd L k = d := by unfold wrd; rw [e2, tn_nI (by omega)]
    have hsd : sd L k = false := by unfold sd; rw [e0]; decide
    have edn : dnx C L k Z = if cP C ≤ p then none else match stp C (tn (Z (2 * p))) d with | none => none | some g => some (zgo Z p (nI g) (ntw C (Z (2 * p + 1)) d)) := by
      unfold dnx
      rw [if_neg (by rw [e0]; decide), ewho, ewrd, if_neg (show ¬ dK L k 0 = 1 by rw [e0]; decide)]
      rfl
    rw [e0, e1, if_neg (by decide), isPleader_n ht1.1, Option.bind_some, rg_n (by omega), edn]
    by_cases hpp : p < cP C
    · obtain ⟨⟨g0, z1, z2⟩, z3⟩ := zv p hpp
      have hg0 := op_lt z2
      rw [if_neg (show ¬ bI (decide (p < cP C)) = 0 by simp [hpp, bI]), show X8_deedOf h1 m (nI k) 2 = _ from deedT (w := 2) hm1 tp1 (by omega) (by omega), Option.bind_some, Option.bind_some, if_neg (by decide), e2, if_neg (by omega)]
      have hr1 : ldI h1 (m + 20) 20 (2 * nI p) = some (nI g0) := by rw [show (2 : Int32) = nI 2 from rfl, nI_mul, ldI_n (ms_k41 hm1) (by omega) (by omega), nz1 _ (by omega), z1]
      rw [ms_r41 hm1, Option.bind_some, hr1, Option.bind_some, stepTo_n ht1.1 hg0 hd, Option.bind_some, z1, tn_nI (by omega)]
      cases hg : stp C g0 d with
      | none => exact ⟨h1, by rw [on_n, if_pos rfl]; rfl, c1, fun _ => nz1, fun Z1 hZ1 => by simp at hZ1⟩
      | some g =>
        have hgF := op_lt (stp_op hg)
        rw [on_s, if_neg (nI_nm1 (by omega)), Option.bind_some, show (2 : Int32) * nI p = nI (2 * p) from nI_mul 2 p, asI_n (ms_k41 hm1) (by omega) (by omega), Option.bind_some, nI_p1]
        have c2 : ch (Wdo m k) h (si h1 (m + 20) (2 * p) (nI g)) := c1.tr (ch_si (Or.inl rfl))
        have ht2 := hh c2
        have hm2 := ht2.1.1
        have hr2 : ldI (si h1 (m + 20) (2 * p) (nI g)) (m + 20) 20 (nI (2 * p + 1)) = some (Z (2 * p + 1)) := by rw [ldI_n (ms_k41 hm2) (by omega) (by omega), gi_si, if_neg (by omega), nz1 _ (by omega)]
        rw [ms_r41 hm2, Option.bind_some, hr2, Option.bind_some]
        have key : ∀ (y : Int32), y = ntw C (Z (2 * p + 1)) d → ch (Wdo m k) h (si (si h1 (m + 20) (2 * p) (nI g)) (m + 20) (2 * p + 1) y) ∧ ∀ Z1, some (zgo Z p (nI g) (ntw C (Z (2 * p + 1)) d)) = some Z1 → NZ (si (si h1 (m + 20) (2 * p) (nI g)) (m + 20) (2 * p + 1) y) m C Z1 ∧ DM (si (si h1 (m + 20) (2 * p) (nI g)) (m + 20) (2 * p + 1) y) m L k Z := by
          intro y hy
          refine ⟨c2.tr (ch_si (Or.inl rfl)), fun Z1 hZ1 => ?_⟩
          simp at hZ1; subst hZ1
          refine ⟨fun i hi => ?_, ?_, fun z => by rw [hsd] at z; simp at z⟩
          · rw [gi_si, gi_si]
            unfold zgo
            by_cases e4 : i = 2 * p
            · rw [if_neg (by omega), if_pos ⟨rfl, e4⟩, if_pos e4]
            · by_cases e5 : i = 2 * p + 1
              · rw [if_pos ⟨rfl, e5⟩, if_neg e4, if_pos e5]; exact hy
              · rw [if_neg (by omega), if_neg (by omega), if_neg e4, if_neg e5]; exact nz1 i hi
          · rw [gi_si, if_neg (by omega), gi_si, if_neg (by omega), hsd]; exact g21
        rcases z3 with h5 | ⟨u, h5, h6⟩
        · rw [if_pos h5, Option.bind_some, Option.bind_some, if_pos rfl, asI_n (ms_k41 hm2) (by omega) (by omega), Option.bind_some]
          have := key (Z (2 * p + 1)) (by unfold ntw; rw [if_pos h5]; exact h5)
          exact ⟨_, rfl, this.1, fun z => by simp at z, this.2⟩
        · have huF := op_lt h6
          rw [if_neg (by rw [h5]; exact nI_nm1 (by omega)), show (4 : Int32) = nI 4 from rfl, show (2 : Int32) = nI 2 from rfl, nI_add, rm_n (by omega) (by omega) (by omega), Option.bind_some, h5, stepTo_n ht2.1 huF (Nat.mod_lt _ (by omega)), Option.bind_some, Option.bind_some]
          cases hg2 : stp C u ((d + 2) % 4) with
          | none =>
            rw [on_n, Option.bind_some, if_pos rfl, asI_n (ms_k41 hm2) (by omega) (by omega), Option.bind_some]
            have := key (nI u) (by unfold ntw; rw [h5, if_neg (nI_nm1 (by omega)), tn_nI (by omega), hg2])
            rw [← h5] at this ⊢
            exact ⟨_, rfl, this.1, fun z => by simp at z, this.2⟩
          | some g2 =>
            have := op_lt (stp_op hg2)
            rw [on_s, Option.bind_some, if_neg (nI_nm1 (by omega)), asI_n (ms_k41 hm2) (by omega) (by omega), Option.bind_some]
            have := key (nI g2) (by unfold ntw; rw [h5, if_neg (nI_nm1 (by omega)), tn_nI (by omega), hg2])
            rw [← h5]
            exact ⟨_, rfl, this.1, fun z => by simp at z, this.2⟩
    · rw [if_pos (show bI (decide (p < cP C)) = 0 by simp [hpp, bI]), if_pos (by omega)]
      exact ⟨h1, rfl, c1, fun _ => nz1, fun Z1 hZ1 => by simp at hZ1⟩
  · have ewho : who L k = p := by unfold who; rw [e1, tn_nI (by omega)]
    have hsd : sd L k = true := by unfold sd; rw [e0]; decide
    have edn : dnx C L k Z = if cP C ≤ p then none else some Z := by
      unfold dnx
      rw [if_neg (by rw [e0]; decide), ewho, if_pos (show dK L k 0 = 1 by rw [e0])]
    rw [e0, e1, if_neg (by decide), isPleader_n ht1.1, Option.bind_some, rg_n (by omega), edn]
    by_cases hpp : p < cP C
    · rw [if_neg (show ¬ bI (decide (p < cP C)) = 0 by simp [hpp, bI]), show X8_deedOf h1 m (nI k) 2 = _ from deedT (w := 2) hm1 tp1 (by omega) (by omega), Option.bind_some, Option.bind_some, if_pos rfl, if_neg (by omega)]
      rw [ms_r42 hm1, Option.bind_some, asI_n (ms_k42 hm1) (by omega) (by omega), Option.bind_some]
      have c2 : ch (Wdo m k) h (si h1 (m + 21) k (dK L k 2)) := c1.tr (ch_si (Or.inr ⟨Or.inl rfl, rfl⟩))
      have hm2 := (hh c2).1.1
      rw [ms_r43 hm2, Option.bind_some, show X8_deedOf (si h1 (m + 21) k (dK L k 2)) m (nI k) 3 = _ from deedT (w := 3) hm2 (tt c2) (by omega) (by omega), Option.bind_some, asI_n (ms_k43 hm2) (by omega) (by omega), Option.bind_some]
      have c3 : ch (Wdo m k) h (si (si h1 (m + 21) k (dK L k 2)) (m + 22) k (dK L k 3)) := c2.tr (ch_si (Or.inr ⟨Or.inr (Or.inl rfl), rfl⟩))
      have hm3 := (hh c3).1.1
      have nz3 : ∀ i, i < 2 * cP C → ldI (si (si h1 (m + 21) k (dK L k 2)) (m + 22) k (dK L k 3)) (m + 20) 20 (nI i) = some (Z i) := fun i hi => by
        rw [ldI_n (ms_k41 hm3) (by omega) (by omega), gi_si, if_neg (by omega), gi_si, if_neg (by omega), nz1 i hi]
      rw [ms_r44 hm3, Option.bind_some, ms_r41 hm3, Option.bind_some, show (2 : Int32) * nI p = nI (2 * p) from nI_mul 2 p, nz3 _ (by omega), Option.bind_some, asI_n (ms_k44 hm3) (by omega) (by omega), Option.bind_some, nI_p1]
      have c4 : ch (Wdo m k) h (si (si (si h1 (m + 21) k (dK L k 2)) (m + 22) k (dK L k 3)) (m + 23) k (Z (2 * p))) := c3.tr (ch_si (Or.inr ⟨Or.inr (Or.inr (Or.inl rfl)), rfl⟩))
      have hm4 := (hh c4).1.1
      have nz4 : ldI (si (si (si h1 (m + 21) k (dK L k 2)) (m + 22) k (dK L k 3)) (m + 23) k (Z (2 * p))) (m + 20) 20 (nI (2 * p + 1)) = some (Z (2 * p + 1)) := by
        rw [ldI_n (ms_k41 hm4) (by omega) (by omega), gi_si, if_neg (by omega), gi_si, if_neg (by omega), gi_si, if_neg (by omega), nz1 _ (by omega)]
      rw [ms_r45 hm4, Option.bind_some, ms_r41 hm4, Option.bind_some, nz4, Option.bind_some, asI_n (ms_k45 hm4) (by omega) (by omega), Option.bind_some]
      refine ⟨_, rfl, c4.tr (ch_si (Or.inr ⟨Or.inr (Or.inr (Or.inr rfl)), rfl⟩)), fun z => by simp at z, fun Z1 hZ1 => ?_⟩
      simp at hZ1; subst hZ1
      refine ⟨fun i hi => ?_, ?_, fun _ => ⟨?_, ?_, ?_⟩⟩
      · rw [gi_si, if_neg (by omega), gi_si, if_neg (by omega), gi_si, if_neg (by omega), gi_si, if_neg (by omega)]; exact nz1 i hi
      · rw [gi_si, if_neg (by omega), gi_si, if_neg (by omega), gi_si, if_neg (by omega), gi_si, if_pos ⟨rfl, rfl⟩, hsd]; rfl
      · rw [gi_si, if_neg (by omega), gi_si, if_neg (by omega), gi_si, if_pos ⟨rfl, rfl⟩]
      · rw [gi_si, if_neg (by omega), gi_si, if_pos ⟨rfl, rfl⟩, ewho]
      · rw [gi_si, if_pos ⟨rfl, rfl⟩, ewho]
    · rw [if_pos (show bI (decide (p < cP C)) = 0 by simp [hpp, bI]), if_pos (by omega)]
      exact ⟨h1, rfl, c1, fun _ => nz1, fun Z1 hZ1 => by simp at hZ1⟩
  · have edn : dnx C L k Z = some Z := by unfold dnx; rw [if_pos e0]
    have hsd : sd L k = false := by unfold sd; rw [e0]; decide
    rw [e0, edn, if_pos rfl]
    refine ⟨h1, rfl, c1, fun _ => nz1, fun Z1 hZ1 => ?_⟩
    simp at hZ1; subst hZ1
    exact ⟨nz1, by rw [hsd]; exact g21, fun z => by rw [hsd] at z; simp at z⟩
/-- the model's picture of a TRIAL played -/
def MP (h : HA) (m c t : Nat) (C L : CR) (th : Nat → Nat) (n : Nat) : Prop := HT h m c C ∧ WF C ∧ TP h m t L ∧ gi h m 40 = nI n ∧ n ≤ llen L ∧ (∃ Z, dz C L n = some Z ∧ NZ h m C Z) ∧ (∀ k, k < n → gi h (m + 25) k = nI (th k) ∧ th k < 16) ∧ ∀ k, k < n → ∀ Z, dz C L k = some Z → DM h m L k Z
theorem mp2 {h : HA} {m c : Nat} {C : CR} (ht : HT h m c C) : ∃ h1, X8_play_L2 m FU h 0 = some h1 ∧ ch (Wpl m) h h1 ∧ NZ h1 m C (fun k => C (34 + k)) := by
  have h4 := ht.1.2.1.2.2.2.1.1
  have hh : ∀ {h1 : HA}, ch (Wpl m) h h1 → HT h1 m c C := fun p => HT_ch ht p (fun k _ _ w => by unfold Wpl at w; omega) (fun k w => by unfold Wpl at w; omega) (fun k w => by unfold Wpl at w; omega)
  refine loop_inv (fun fu k (h : HA) => X8_play_L2 m fu h (nI k)) (fun k h1 => ch (Wpl m) h h1 ∧ ∀ i, i < k → gi h1 (m + 20) i = C (34 + i))
    _ (2 * cP C) ?_ ?_ h FU ⟨ch_rf _ _, fun f hf => by omega⟩ (FU_gt (by omega))
  · intro k h1 fu hk hI
    obtain ⟨i1, i2⟩ := hI
    have ht1 := hh i1
    refine ⟨si h1 (m + 20) k (C (34 + k)), ?_, i1.tr (ch_si (Or.inl ⟨by omega, by omega⟩)), fun i hi => ?_⟩
    · show X8_play_L2 m (fu + 1) h1 (nI k) = _
      rw [X8_play_L2, ms_I ht1.1.1, ht1.1.2.2.2.2.2.2.2.2.1, Option.bind_some, show (2 : Int32) * nI (cP C) = nI (2 * cP C) from nI_mul 2 _, if_pos (lt_lit hk (by omega)), ms_r41 ht1.1.1, Option.bind_some, show (34 : Int32) + nI k = nI (34 + k) from nI_add 34 k, of_n ht1.1 (by omega), Option.bind_some, asI_n (ms_k41 ht1.1.1) (by omega) (by omega), Option.bind_some, nI_p1]
    · rw [gi_si]
      by_cases e : i = k
      · subst e; rw [if_pos ⟨rfl, rfl⟩]
      · rw [if_neg (by omega)]; exact i2 i (by omega)
  · intro h1 fu hI
    have ht1 := hh hI.1
    refine ⟨h1, ?_, hI.1, fun i hi => hI.2 i hi⟩
    show X8_play_L2 m (fu + 1) h1 (nI (2 * cP C)) = _
    rw [X8_play_L2, ms_I ht1.1.1, ht1.1.2.2.2.2.2.2.2.2.1, Option.bind_some, show (2 : Int32) * nI (cP C) = nI (2 * cP C) from nI_mul 2 _, if_neg (nlt_lit (Nat.le_refl _) (by omega))]
theorem mp34 {h : HA} {m : Nat} (hm : MS h m) : ∃ h1, X8_play_L34 m FU h 0 = some h1 ∧ ch (fun a _ => a = m + 25) h h1 ∧ ∀ k, k < 30 → gi h1 (m + 25) k = 0 := by
  refine loop_inv (fun fu k (h : HA) => X8_play_L34 m fu h (nI k)) (fun k h1 => ch (fun a _ => a = m + 25) h h1 ∧ ∀ i, i < k → gi h1 (m + 25) i = 0)
    _ 30 ?_ ?_ h FU ⟨ch_rf _ _, fun f hf => by omega⟩ (FU_gt (by omega))
  · intro k h1 fu hk hI
    obtain ⟨i1, i2⟩ := hI
    have hm1 := i1.ms hm
    refine ⟨si h1 (m + 25) k 0, ?_, i1.tr (ch_si rfl), fun i hi => ?_⟩
    · show X8_play_L34 m (fu + 1) h1 (nI k) = _
      rw [X8_play_L34, if_pos (show nI k < 30 from lt_lit (n := 30) hk (by omega)), ms_r46 hm1, Option.bind_some, asI_n (ms_k46 hm1) (by omega) (by omega), Option.bind_some, nI_p1]
    · rw [gi_si]
      by_cases e : i = k
      · subst e; rw [if_pos ⟨rfl, rfl⟩]
      · rw [if_neg (by omega)]; exact i2 i (by omega)
  · intro h1 fu hI
    refine ⟨h1, ?_, hI.1, fun i hi => hI.2 i hi⟩
    show X8_play_L34 m (fu + 1) h1 (nI 30) = _
    rw [X8_play_L34, if_neg (by decide)]
theorem mp58 {m c t N : Nat} {C L : CR} (hN : N ≤ llen L) : ∀ (d k fu : Nat) (h : HA), k + d = N → d < fu → MP h m c t C L (fun _ => 0) k → (∀ j, j < 30 → gi h (m + 25) j = 0) →
    ∃ h1, X8_play_L58 m (nI N) fu h = some h1 ∧ ch (Wpl m) h h1 ∧ ∃ n, MP h1 m c t C L (fun _ => 0) n ∧ n = so C L N := by
  intro d
  induction d with
  | zero =>
    intro k fu h hk hfu hp _
    obtain ⟨fu, rfl⟩ : ∃ q, fu = q + 1 := ⟨fu - 1, by omega⟩
    have h30 := llen_30 hp.2.2.1.2.2.2
    refine ⟨h, ?_, ch_rf _ _, k, hp, ?_⟩
    · rw [X8_play_L58, ms_I hp.1.1.1, hp.2.2.2.1, Option.bind_some, if_neg (nlt_lit (by omega) (by omega))]
    · obtain ⟨Z, hZ, _⟩ := hp.2.2.2.2.2.1
      rw [so_u (n := k) (by omega) (by rw [hZ]; rfl) (Or.inl (by omega))]
  | succ d ih =>
    intro k fu h hk hfu hp h25
    obtain ⟨fu, rfl⟩ : ∃ q, fu = q + 1 := ⟨fu - 1, by omega⟩
    have h30 := llen_30 hp.2.2.1.2.2.2
    obtain ⟨ht, hw, tp, p40, pl, ⟨Z, hZ, nz⟩, pth, pdm⟩ := hp
    have zv := dz_ZV hw tp.2.2.2 (by omega) hZ
    have hm := ht.1.1
    obtain ⟨h2, s1, s2, sN, s3⟩ := does_n ht hw tp (show k < llen L by omega) nz zv
    have c2 : ch (Wpl m) h h2 := s2.mo (fun a i w => by unfold Wdo at w; unfold Wpl; omega)
    have ht2 : HT h2 m c C := HT_ch ht c2 (fun k _ _ w => by unfold Wpl at w; omega) (fun k w => by unfold Wpl at w; omega) (fun k w => by unfold Wpl at w; omega)
    have tp2 : TP h2 m t L := TP_ch tp c2 (fun w => by unfold Wpl at w; omega) (fun k w => by unfold Wpl at w; omega)
    have hm2 := ht2.1.1
    have g40 : gi h2 m 40 = nI k := by rw [s2.gi (by unfold Wdo; omega)]; exact p40
    have h252 : ∀ j, j < 30 → gi h2 (m + 25) j = 0 := fun j hj => by rw [s2.gi (by unfold Wdo; omega)]; exact h25 j hj
    have dm2 : ∀ j, j < k → ∀ Z, dz C L j = some Z → DM h2 m L j Z := by
      intro j hj Z2 hZ2
      have := pdm j hj Z2 hZ2
      unfold DM at this ⊢
      rw [s2.gi (by unfold Wdo; omega), s2.gi (by unfold Wdo; omega), s2.gi (by unfold Wdo; omega), s2.gi (by unfold Wdo; omega)]; exact this
    have th2 : ∀ j, j < 30 → gi h2 (m + 25) j = nI 0 ∧ 0 < 16 := fun j hj => ⟨h252 j hj, by omega⟩
    rw [X8_play_L58, ms_I hm, p40, Option.bind_some, if_pos (lt_lit (by omega) (by omega)), Option.bind_some, s1, Option.bind_some]
    dsimp only
    cases hd : dnx C L k Z with
    | none =>
      refine ⟨h2, by rw [if_pos (by rfl)], c2, so C L N, ?_, rfl⟩
      rw [so_u (n := k) (by omega) (by rw [hZ]; rfl) (Or.inr (by rw [dz, hZ]; exact hd))]
      exact ⟨ht2, hw, tp2, g40, by omega, ⟨Z, hZ, sN hd⟩, fun j hj => th2 j (by omega), dm2⟩
    | some Z1 =>
      have hs3 := s3 Z1 hd
      rw [if_neg (show ¬ bI (some Z1).isSome = 0 from (by decide : ¬ bI true = 0)), ms_I hm2, Option.bind_some, ms_p hm2, Option.bind_some, g40, nI_p1]
      have c3 : ch (Wpl m) h2 (si h2 m 40 (nI (k + 1))) := ch_si (Or.inr ⟨rfl, rfl⟩)
      have ht3 : HT (si h2 m 40 (nI (k + 1))) m c C := HT_ch ht2 c3 (fun k _ _ w => by unfold Wpl at w; omega) (fun k w => by unfold Wpl at w; omega) (fun k w => by unfold Wpl at w; omega)
      have tp3 : TP (si h2 m 40 (nI (k + 1))) m t L := TP_ch tp2 c3 (fun w => by unfold Wpl at w; omega) (fun k w => by unfold Wpl at w; omega)
      have gs : ∀ a i, a ≠ m → gi (si h2 m 40 (nI (k + 1))) a i = gi h2 a i := fun a i ha => by rw [gi_si, if_neg (fun z => ha z.1)]
      obtain ⟨h5, q1, q2, q3⟩ := ih (k + 1) fu (si h2 m 40 (nI (k + 1))) (by omega) (by omega) ⟨ht3, hw, tp3, by rw [gi_si, if_pos ⟨rfl, rfl⟩], by omega, ⟨Z1, by rw [dz, hZ]; exact hd, fun i hi => by rw [gs _ _ (by omega)]; exact hs3.1 i hi⟩, fun j hj => by rw [gs _ _ (by omega)]; exact th2 j (by omega), fun j hj Z2 hZ2 => by
        unfold DM
        rw [gs _ _ (by omega), gs _ _ (by omega), gs _ _ (by omega), gs _ _ (by omega)]
        by_cases e : j = k
        · subst e
          rw [hZ] at hZ2; simp at hZ2; subst hZ2; exact hs3.2
        · exact dm2 j (by omega) Z2 hZ2⟩ (fun j hj => by rw [gs _ _ (by omega)]; exact h252 j hj)
      exact ⟨h5, q1, (c2.tr c3).tr q2, q3⟩

theorem mp_hh {h h1 : HA} {m c : Nat} {C : CR} (ht : HT h m c C) (p : ch (Wpl m) h h1) : HT h1 m c C := HT_ch ht p (fun k _ _ w => by unfold Wpl at w; omega) (fun k w => by unfold Wpl at w; omega) (fun k w => by unfold Wpl at w; omega)
theorem mp_tt {h h1 : HA} {m t : Nat} {L : CR} (tp : TP h m t L) (p : ch (Wpl m) h h1) : TP h1 m t L := TP_ch tp p (fun w => by unfold Wpl at w; omega) (fun k w => by unfold Wpl at w; omega)
theorem play_n {h : HA} {m c t N : Nat} {C L : CR} (ht : HT h m c C) (hw : WF C) (tp : TP h m t L) (hN : N ≤ llen L) : ∃ h1, X8_play h m (nI N) = some (nI (so C L N), h1) ∧ ch (Wpl m) h h1 ∧ MP h1 m c t C L (fun _ => 0) (so C L N) := by
  have h30 := llen_30 tp.2.2.2
  obtain ⟨h1, e1, c1, z1⟩ := mp2 ht
  have ht1 := mp_hh ht c1
  obtain ⟨h2, e2, c2, z2⟩ := mp34 ht1.1.1
  have c2' : ch (Wpl m) h1 h2 := c2.mo (fun a i w => Or.inl (by omega))
  have ht2 := mp_hh ht1 c2'
  have c3 : ch (Wpl m) h2 (si h2 m 40 0) := ch_si (Or.inr ⟨rfl, rfl⟩)
  have c123 := (c1.tr c2').tr c3
  have gs : ∀ a i, a ≠ m → gi (si h2 m 40 0) a i = gi h2 a i := fun a i ha => by rw [gi_si, if_neg (fun z => ha z.1)]
  obtain ⟨h5, q1, q2, n, q3, rfl⟩ := mp58 (m := m) (c := c) (t := t) (C := C) hN N 0 FU (si h2 m 40 0) (by omega) (FU_gt (by omega)) ⟨mp_hh ht c123, hw, mp_tt tp c123, by rw [gi_si, if_pos ⟨rfl, rfl⟩]; rfl, by omega, ⟨_, rfl, fun i hi => by rw [gs _ _ (by omega), c2.gi (by omega)]; exact z1 i hi⟩, fun k hk => by omega, fun k hk => by omega⟩
    (fun j hj => by rw [gs _ _ (by omega)]; exact z2 j hj)
  refine ⟨h5, ?_, c123.tr q2, q3⟩
  unfold X8_play
  rw [if_pos (ms_c ht.1.1), e1, Option.bind_some, e2, Option.bind_some, ms_p ht2.1.1, Option.bind_some, q1, Option.bind_some, ms_I q3.1.1.1, q3.2.2.2.1, Option.bind_some]
theorem iv_tp {h : HA} {b : Nat} {D : DT} {α : Nat → Nat} {lm : Nat → Nat → Nat} {im : Nat → Option (Nat × DT)} (hi : IV h b D α lm im) {t : Nat} (ht : t < dN D 1) (hg : gi h (b + 55) 38 = nI t) : TP h (b + 55) t (dR D 1 t) := by
  have := (iv_w hi).2.1 1 (by omega)
  refine ⟨by omega, hg, fun i hi2 => ?_, iv_wl hi (by omega) (by omega) ht⟩
  have := md_row hi (s := 1) (j := t) (k := i) (by omega) (by omega) ht hi2
  exact this
theorem layTrial_ok {h : HA} {b : Nat} {D : DT} {α : Nat → Nat} {lm : Nat → Nat → Nat} {im : Nat → Option (Nat × DT)} (hi : IV h b D α lm im) (x y : Int32) :
    ((rg x (dN D 0) && rg y (dN D 1)) = false ∧ ∃ h1, X8_layTrial h (b + 55) x y = some (0, h1) ∧ IV h1 b D α lm im) ∨
    (∃ a t h1, a < dN D 0 ∧ t < dN D 1 ∧ x = nI a ∧ y = nI t ∧ (rg x (dN D 0) && rg y (dN D 1)) = true ∧ X8_layTrial h (b + 55) x y = some (1, h1) ∧ IV h1 b D α lm im ∧ MP h1 (b + 55) a t (dC D a) (dR D 1 t) (fun _ => 0) (so (dC D a) (dR D 1 t) (llen (dR D 1 t)))) := by
  have hn := (iv_w hi).2.1 1 (by omega)
  unfold X8_layTrial
  rw [if_pos (ms_c (iv_ms hi)), show X8_is h (b + 55) 1 y = _ from is_ok hi (s := 1) (by omega) y, Option.bind_some]
  cases hr : rg y (dN D 1) with
  | false => left; exact ⟨Bool.and_false _, h, rfl, hi⟩
  | true =>
    obtain ⟨t, ht, rfl⟩ := (rg_iff (by omega)).mp hr
    rw [if_neg (by decide)]
    rcases hand_ok hi x with ⟨h1, h2⟩ | ⟨a, h1, ha, rfl, hr2, e1, i1, t1⟩
    · left; rw [h2, h1]; exact ⟨rfl, h, rfl, hi⟩
    · right
      rw [e1, Option.bind_some]
      dsimp only
      rw [if_neg (by decide), ms_p (iv_ms i1), Option.bind_some]
      have i2 := IV_m0 i1 38 (nI t)
      have g2 : gi (si h1 (b + 55) 38 (nI t)) (b + 55) 38 = nI t := iv_si
      have t2 : HT (si h1 (b + 55) 38 (nI t)) (b + 55) a (dC D a) := HT_ch (W := fun a k => a = b + 55 ∧ k = 38) t1 (ch_si ⟨rfl, rfl⟩) (fun k _ _ w => by omega) (fun k w => by omega) (fun k w => by omega)
      generalize si h1 (b + 55) 38 (nI t) = h2 at *
      obtain ⟨h3, e3, c3, p3⟩ := play_n t2 ((iv_w hi).2.2.1 a ha) (iv_tp i2 ht g2) (Nat.le_refl _)
      refine ⟨a, t, h3, ha, ht, rfl, rfl, by rw [hr2]; rfl, ?_, ?_, p3⟩
      · rw [deeds_n i2 ht g2, Option.bind_some, e3, Option.bind_some]
      · exact IV_ch i2 c3 (fun x k w => Sc_m (by unfold Wpl at w; omega))
