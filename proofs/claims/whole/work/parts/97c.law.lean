/-! THE LAW -/
def LST (b : Nat) (K : HA → Option (Int32 × HA)) (E : Option (Int32 × HA)) : Prop := ∃ h2 D α lm im, E = K h2 ∧ IV h2 b D α lm im
theorem st2 {b : Nat} {h : HA} {F G : HA → Option (Int32 × HA)} (hs : STP b h F G) (K : HA → Option (Int32 × HA)) : LST b K ((F h).bind fun p => (G p.2).bind fun q => if p.1 = q.1 then K q.2 else some (0, q.2)) := by
  obtain ⟨r, h1, h2, D, α, lm, im, e1, e2, i2⟩ := hs
  refine ⟨h2, D, α, lm, im, ?_, i2⟩
  rw [e1, Option.bind_some, e2, Option.bind_some, if_pos rfl]
theorem st1 {b : Nat} {D : DT} {α : Nat → Nat} {lm : Nat → Nat → Nat} {im : Nat → Option (Nat × DT)} {F : Option Int32} {G : Option (Int32 × HA)} {r : Int32} (e : F = some r) (hs : AC b D α lm im G r) (K : HA → Option (Int32 × HA)) : LST b K (F.bind fun x => G.bind fun q => if x = q.1 then K q.2 else some (0, q.2)) := by
  obtain ⟨h2, e2, i2⟩ := hs
  refine ⟨h2, D, α, lm, im, ?_, i2⟩
  rw [e, Option.bind_some, e2, Option.bind_some, if_pos rfl]
theorem scr_n {V : EV} {k : Nat} (hk : k < vL V) (h2 : k < 2 ^ 31) : scr V (nI k) = some (vX V k) := by
  unfold scr
  rw [inb_n h2, nI_clamp h2, if_pos (by simpa using hk)]
theorem s_pers {h : HA} {b : Nat} {D : DT} {α : Nat → Nat} {lm : Nat → Nat → Nat} {im : Nat → Option (Nat × DT)} (hi : IV h b D α lm im) (x y l w : Int32) : STP b h (fun h => X7_persuade h b x y l w) (fun h => X8_persuade h (b + 55) x y l w) := by
  obtain ⟨r, h1, q1⟩ := c_persuade hi x y l w
  refine stp_ac r h1 (fun g ig => ?_)
  obtain ⟨r', h2, q2⟩ := m_persuade ig x y l w
  rw [PQ_u q1 q2]; exact h2
set_option maxHeartbeats 4000000 in
theorem law_step {V : EV} {fu i : Nat} {h : HA} {b : Nat} {D : DT} {α : Nat → Nat} {lm : Nat → Nat → Nat} {im : Nat → Option (Nat × DT)} (hi : IV h b D α lm im) (hL : 6 * i + 6 ≤ vL V) (hV : vL V ≤ 3072) : LST b (fun h => L_law_L18 V b (b + 55) fu h (nI (6 * i) + 6)) (L_law_L18 V b (b + 55) (fu + 1) h (nI (6 * i))) := by
  have s0 : scr V (nI (6 * i)) = some (vX V (6 * i)) := scr_n (by omega) (by omega)
  have s1 : scr V (nI (6 * i) + 1) = some (vX V (6 * i + 1)) := by rw [nI_p1]; exact scr_n (by omega) (by omega)
  have s2 : scr V (nI (6 * i) + 2) = some (vX V (6 * i + 2)) := by rw [show nI (6 * i) + 2 = nI (6 * i + 2) from nI_add _ 2]; exact scr_n (by omega) (by omega)
  have s3 : scr V (nI (6 * i) + 3) = some (vX V (6 * i + 3)) := by rw [show nI (6 * i) + 3 = nI (6 * i + 3) from nI_add _ 3]; exact scr_n (by omega) (by omega)
  have s4 : scr V (nI (6 * i) + 4) = some (vX V (6 * i + 4)) := by rw [show nI (6 * i) + 4 = nI (6 * i + 4) from nI_add _ 4]; exact scr_n (by omega) (by omega)
  have s5 : scr V (nI (6 * i) + 5) = some (vX V (6 * i + 5)) := by rw [show nI (6 * i) + 5 = nI (6 * i + 5) from nI_add _ 5]; exact scr_n (by omega) (by omega)
  generalize vX V (6 * i) = x at s0
  generalize vX V (6 * i + 1) = x1 at s1
  generalize vX V (6 * i + 2) = x2 at s2
  generalize vX V (6 * i + 3) = x3 at s3
  generalize vX V (6 * i + 4) = x4 at s4
  generalize vX V (6 * i + 5) = x5 at s5
  have hc : ¬ (Int32.ofNat (vL V) - 6) < nI (6 * i) := by
    rw [show Int32.ofNat (vL V) - 6 = nI (vL V - 6) from nI_sub (a := vL V) (b := 6) (by omega)]
    exact nlt_lit (by omega) (by omega)
  rw [L_law_L18, if_neg hc, s0, Option.bind_some]
  by_cases e0 : x &&& 63 = 0
  · rw [if_pos e0]
    dsimp only [lett]
    simp only [s1, s2, s3, s4, s5, Option.bind_some]
    exact st2 (s_feed hi x1 x2 x3 x4 x5) (fun h => L_law_L18 V b (b + 55) fu h (nI (6 * i) + 6))
  rw [if_neg e0]
  by_cases e1 : x &&& 63 = 1
  · rw [if_pos e1]
    dsimp only [lett]
    simp only [s1, Option.bind_some]
    exact st2 (s_end hi x1) (fun h => L_law_L18 V b (b + 55) fu h (nI (6 * i) + 6))
  rw [if_neg e1]
  by_cases e2 : x &&& 63 = 2
  · rw [if_pos e2]
    dsimp only [lett]
    simp only [s1, s2, Option.bind_some]
    exact st2 (s_text hi x1 x2) (fun h => L_law_L18 V b (b + 55) fu h (nI (6 * i) + 6))
  rw [if_neg e2]
  by_cases e3 : x &&& 63 = 3
  · rw [if_pos e3]
    dsimp only [lett]
    simp only [s1, Option.bind_some]
    exact st1 (c_fault hi x1) (m_fault hi x1) (fun h => L_law_L18 V b (b + 55) fu h (nI (6 * i) + 6))
  rw [if_neg e3]
  by_cases e4 : x &&& 63 = 4
  · rw [if_pos e4]
    dsimp only [lett]
    simp only [s1, s2, Option.bind_some]
    exact st2 (stp_ac (h := h) (F := fun h => X7_court h b x1 x2) (G := fun h => X8_court h (b + 55) x1 x2) _ (c_court hi x1 x2) (fun _ i1 => m_court i1 x1 x2)) (fun h => L_law_L18 V b (b + 55) fu h (nI (6 * i) + 6))
  rw [if_neg e4]
  by_cases e5 : x &&& 63 = 5
  · rw [if_pos e5]
    dsimp only [lett]
    simp only [s1, s2, Option.bind_some]
    exact st2 (stp_ac (h := h) (F := fun h => X7_wall h b x1 x2) (G := fun h => X8_wall h (b + 55) x1 x2) _ (c_wall hi x1 x2) (fun _ i1 => m_wall i1 x1 x2)) (fun h => L_law_L18 V b (b + 55) fu h (nI (6 * i) + 6))
  rw [if_neg e5]
  by_cases e6 : x &&& 63 = 6
  · rw [if_pos e6]
    dsimp only [lett]
    simp only [s1, s2, s3, Option.bind_some]
    exact st2 (stp_ac (h := h) (F := fun h => X7_judge h b x1 x2 x3) (G := fun h => X8_judge h (b + 55) x1 x2 x3) _ (c_judge hi x1 x2 x3) (fun _ i1 => m_judge i1 x1 x2 x3)) (fun h => L_law_L18 V b (b + 55) fu h (nI (6 * i) + 6))
  rw [if_neg e6]
  by_cases e7 : x &&& 63 = 7
  · rw [if_pos e7]
    dsimp only [lett]
    simp only [s1, s2, s3, Option.bind_some]
    exact st2 (stp_ac (h := h) (F := fun h => X7_pleader h b x1 x2 (if x3 = 0 then 0 else 1)) (G := fun h => X8_pleader h (b + 55) x1 x2 (if x3 = 0 then 0 else 1)) _ (c_pleader hi x1 x2 (if x3 = 0 then 0 else 1)) (fun _ i1 => m_pleader i1 x1 x2 (if x3 = 0 then 0 else 1))) (fun h => L_law_L18 V b (b + 55) fu h (nI (6 * i) + 6))
  rw [if_neg e7]
  by_cases e8 : x &&& 63 = 8
  · rw [if_pos e8]
    dsimp only [lett]
    simp only [s1, s2, s3, Option.bind_some]
    exact st2 (stp_ac (h := h) (F := fun h => X7_far h b x1 x2 x3) (G := fun h => X8_far h (b + 55) x1 x2 x3) _ (c_far hi x1 x2 x3) (fun _ i1 => m_far i1 x1 x2 x3)) (fun h => L_law_L18 V b (b + 55) fu h (nI (6 * i) + 6))
  rw [if_neg e8]
  by_cases e9 : x &&& 63 = 9
  · rw [if_pos e9]
    dsimp only [lett]
    simp only [s1, s2, s3, s4, Option.bind_some]
    exact st2 (stp_ac (h := h) (F := fun h => X7_comes h b x1 x2 x3 x4) (G := fun h => X8_comes h (b + 55) x1 x2 x3 x4) _ (c_comes hi x1 x2 x3 x4) (fun _ i1 => m_comes i1 x1 x2 x3 x4)) (fun h => L_law_L18 V b (b + 55) fu h (nI (6 * i) + 6))
  rw [if_neg e9]
  by_cases e10 : x &&& 63 = 10
  · rw [if_pos e10]
    dsimp only [lett]
    simp only [s1, s2, s3, s4, Option.bind_some]
    exact st2 (stp_ac (h := h) (F := fun h => X7_ears h b x1 x2 x3 x4) (G := fun h => X8_ears h (b + 55) x1 x2 x3 x4) _ (c_ears hi x1 x2 x3 x4) (fun _ i1 => m_ears i1 x1 x2 x3 x4)) (fun h => L_law_L18 V b (b + 55) fu h (nI (6 * i) + 6))
  rw [if_neg e10]
  by_cases e11 : x &&& 63 = 11
  · rw [if_pos e11]
    dsimp only [lett]
    simp only [s1, s2, s3, s4, Option.bind_some]
    exact st2 (stp_ac (h := h) (F := fun h => X7_pulpit h b x1 x2 x3 (if x4 = 0 then 0 else 1)) (G := fun h => X8_pulpit h (b + 55) x1 x2 x3 (if x4 = 0 then 0 else 1)) _ (c_pulpit hi x1 x2 x3 (if x4 = 0 then 0 else 1)) (fun _ i1 => m_pulpit i1 x1 x2 x3 (if x4 = 0 then 0 else 1))) (fun h => L_law_L18 V b (b + 55) fu h (nI (6 * i) + 6))
  rw [if_neg e11]
  by_cases e12 : x &&& 63 = 12
  · rw [if_pos e12]
    dsimp only [lett]
    simp only [s1, s2, s3, s4, Option.bind_some]
    exact st2 (stp_ac (h := h) (F := fun h => X7_near h b x1 x2 x3 x4) (G := fun h => X8_near h (b + 55) x1 x2 x3 x4) _ (c_near hi x1 x2 x3 x4) (fun _ i1 => m_near i1 x1 x2 x3 x4)) (fun h => L_law_L18 V b (b + 55) fu h (nI (6 * i) + 6))
  rw [if_neg e12]
  by_cases e13 : x &&& 63 = 13
  · rw [if_pos e13]
    dsimp only [lett]
    simp only [s1, s2, s3, s4, Option.bind_some]
    exact st2 (stp_ac (h := h) (F := fun h => X7_round h b x1 x2 x3 x4) (G := fun h => X8_round h (b + 55) x1 x2 x3 x4) _ (c_round hi x1 x2 x3 x4) (fun _ i1 => m_round i1 x1 x2 x3 x4)) (fun h => L_law_L18 V b (b + 55) fu h (nI (6 * i) + 6))
  rw [if_neg e13]
  by_cases e14 : x &&& 63 = 14
  · rw [if_pos e14]
    dsimp only [lett]
    simp only [s1, s2, s3, s4, Option.bind_some]
    exact st2 (stp_ac (h := h) (F := fun h => X7_echo h b x1 x2 x3 x4) (G := fun h => X8_echo h (b + 55) x1 x2 x3 x4) _ (c_echo hi x1 x2 x3 x4) (fun _ i1 => m_echo i1 x1 x2 x3 x4)) (fun h => L_law_L18 V b (b + 55) fu h (nI (6 * i) + 6))
  rw [if_neg e14]
  by_cases e15 : x &&& 63 = 15
  · rw [if_pos e15]
    dsimp only [lett]
    simp only [s1, s2, s3, Option.bind_some]
    exact st1 (c_deed hi x1 x2 x3) (m_deed hi x1 x2 x3) (fun h => L_law_L18 V b (b + 55) fu h (nI (6 * i) + 6))
  rw [if_neg e15]
  by_cases e16 : x &&& 63 = 16
  · rw [if_pos e16]
    dsimp only [lett]
    simp only [s1, s2, Option.bind_some]
    exact st2 (stp_ac (h := h) (F := fun h => X7_stop h b x1 x2) (G := fun h => X8_stop h (b + 55) x1 x2) _ (c_stop hi x1 x2) (fun _ i1 => m_stop i1 x1 x2)) (fun h => L_law_L18 V b (b + 55) fu h (nI (6 * i) + 6))
  rw [if_neg e16]
  by_cases e17 : x &&& 63 = 17
  · rw [if_pos e17]
    dsimp only [lett]
    simp only [s1, s2, s3, s4, s5, Option.bind_some]
    exact st2 (stp_ac (h := h) (F := fun h => X7_stands h b x1 x2 x3 x4 (if x5 = 0 then 0 else 1)) (G := fun h => X8_stands h (b + 55) x1 x2 x3 x4 (if x5 = 0 then 0 else 1)) _ (c_stands hi x1 x2 x3 x4 (if x5 = 0 then 0 else 1)) (fun _ i1 => m_stands i1 x1 x2 x3 x4 (if x5 = 0 then 0 else 1))) (fun h => L_law_L18 V b (b + 55) fu h (nI (6 * i) + 6))
  rw [if_neg e17]
  by_cases e18 : x &&& 63 = 18
  · rw [if_pos e18]
    dsimp only [lett]
    simp only [s1, s2, s3, s4, Option.bind_some]
    exact st2 (stp_ac (h := h) (F := fun h => X7_knows h b x1 x2 x3 x4) (G := fun h => X8_knows h (b + 55) x1 x2 x3 x4) _ (c_knows hi x1 x2 x3 x4) (fun _ i1 => m_knows i1 x1 x2 x3 x4)) (fun h => L_law_L18 V b (b + 55) fu h (nI (6 * i) + 6))
  rw [if_neg e18]
  by_cases e19 : x &&& 63 = 19
  · rw [if_pos e19]
    dsimp only [lett]
    simp only [s1, s2, s3, Option.bind_some]
    exact st2 (stp_ac (h := h) (F := fun h => X7_heard h b x1 x2 x3) (G := fun h => X8_heard h (b + 55) x1 x2 x3) _ (c_heard hi x1 x2 x3) (fun _ i1 => m_heard i1 x1 x2 x3)) (fun h => L_law_L18 V b (b + 55) fu h (nI (6 * i) + 6))
  rw [if_neg e19]
  by_cases e20 : x &&& 63 = 20
  · rw [if_pos e20]
    dsimp only [lett]
    simp only [s1, s2, s3, Option.bind_some]
    exact st1 (c_rule hi x1 x2 x3) (m_rule hi x1 x2 x3) (fun h => L_law_L18 V b (b + 55) fu h (nI (6 * i) + 6))
  rw [if_neg e20]
  by_cases e21 : x &&& 63 = 21
  · rw [if_pos e21]
    dsimp only [lett]
    simp only [s1, s2, s3, s4, Option.bind_some]
    exact st2 (stp_ac (h := h) (F := fun h => X7_votes h b x1 x2 x3 x4) (G := fun h => X8_votes h (b + 55) x1 x2 x3 x4) _ (c_votes hi x1 x2 x3 x4) (fun _ i1 => m_votes i1 x1 x2 x3 x4)) (fun h => L_law_L18 V b (b + 55) fu h (nI (6 * i) + 6))
  rw [if_neg e21]
  by_cases e22 : x &&& 63 = 22
  · rw [if_pos e22]
    dsimp only [lett]
    simp only [s1, s2, s3, s4, Option.bind_some]
    exact st2 (stp_ac (h := h) (F := fun h => X7_sway h b x1 x2 x3 x4) (G := fun h => X8_sway h (b + 55) x1 x2 x3 x4) _ (c_sway hi x1 x2 x3 x4) (fun _ i1 => m_sway i1 x1 x2 x3 x4)) (fun h => L_law_L18 V b (b + 55) fu h (nI (6 * i) + 6))
  rw [if_neg e22]
  by_cases e23 : x &&& 63 = 23
  · rw [if_pos e23]
    dsimp only [lett]
    simp only [s1, s2, s3, s4, Option.bind_some]
    exact st2 (stp_ac (h := h) (F := fun h => X7_sold h b x1 x2 x3 (if x4 = 0 then 0 else 1)) (G := fun h => X8_sold h (b + 55) x1 x2 x3 (if x4 = 0 then 0 else 1)) _ (c_sold hi x1 x2 x3 (if x4 = 0 then 0 else 1)) (fun _ i1 => m_sold i1 x1 x2 x3 (if x4 = 0 then 0 else 1))) (fun h => L_law_L18 V b (b + 55) fu h (nI (6 * i) + 6))
  rw [if_neg e23]
  by_cases e24 : x &&& 63 = 24
  · rw [if_pos e24]
    dsimp only [lett]
    simp only [s1, s2, s3, Option.bind_some]
    exact st2 (stp_ac (h := h) (F := fun h => X7_seats h b x1 x2 x3) (G := fun h => X8_seats h (b + 55) x1 x2 x3) _ (c_seats hi x1 x2 x3) (fun _ i1 => m_seats i1 x1 x2 x3)) (fun h => L_law_L18 V b (b + 55) fu h (nI (6 * i) + 6))
  rw [if_neg e24]
  by_cases e25 : x &&& 63 = 25
  · rw [if_pos e25]
    dsimp only [lett]
    simp only [s1, s2, s3, Option.bind_some]
    exact st1 (c_claim hi x1 x2 x3) (m_claim hi x1 x2 x3) (fun h => L_law_L18 V b (b + 55) fu h (nI (6 * i) + 6))
  rw [if_neg e25]
  by_cases e26 : x &&& 63 = 26
  · rw [if_pos e26]
    dsimp only [lett]
    simp only [s1, s2, s3, s4, Option.bind_some]
    exact st2 (stp_ac (h := h) (F := fun h => X7_lips h b x1 x2 x3 x4) (G := fun h => X8_lips h (b + 55) x1 x2 x3 x4) _ (c_lips hi x1 x2 x3 x4) (fun _ i1 => m_lips i1 x1 x2 x3 x4)) (fun h => L_law_L18 V b (b + 55) fu h (nI (6 * i) + 6))
  rw [if_neg e26]
  by_cases e27 : x &&& 63 = 27
  · rw [if_pos e27]
    dsimp only [lett]
    simp only [s1, s2, s3, s4, s5, Option.bind_some]
    exact st2 (stp_ac (h := h) (F := fun h => X7_drawn h b x1 x2 x3 x4 x5) (G := fun h => X8_drawn h (b + 55) x1 x2 x3 x4 x5) _ (c_drawn hi x1 x2 x3 x4 x5) (fun _ i1 => m_drawn i1 x1 x2 x3 x4 x5)) (fun h => L_law_L18 V b (b + 55) fu h (nI (6 * i) + 6))
  rw [if_neg e27]
  by_cases e28 : x &&& 63 = 28
  · rw [if_pos e28]
    dsimp only [lett]
    simp only [s1, s2, s3, s4, Option.bind_some]
    exact st2 (stp_ac (h := h) (F := fun h => X7_hush h b x1 x2 x3 x4) (G := fun h => X8_hush h (b + 55) x1 x2 x3 x4) _ (c_hush hi x1 x2 x3 x4) (fun _ i1 => m_hush i1 x1 x2 x3 x4)) (fun h => L_law_L18 V b (b + 55) fu h (nI (6 * i) + 6))
  rw [if_neg e28]
  by_cases e29 : x &&& 63 = 29
  · rw [if_pos e29]
    dsimp only [lett]
    simp only [s1, s2, s3, Option.bind_some]
    exact st2 (stp_ac (h := h) (F := fun h => X7_bench h b x1 x2 x3) (G := fun h => X8_bench h (b + 55) x1 x2 x3) _ (c_bench hi x1 x2 x3) (fun _ i1 => m_bench i1 x1 x2 x3)) (fun h => L_law_L18 V b (b + 55) fu h (nI (6 * i) + 6))
  rw [if_neg e29]
  by_cases e30 : x &&& 63 = 30
  · rw [if_pos e30]
    dsimp only [lett]
    simp only [s1, s2, s3, Option.bind_some]
    exact st2 (stp_ac (h := h) (F := fun h => X7_idle h b x1 x2 x3) (G := fun h => X8_idle h (b + 55) x1 x2 x3) _ (c_idle hi x1 x2 x3) (fun _ i1 => m_idle i1 x1 x2 x3)) (fun h => L_law_L18 V b (b + 55) fu h (nI (6 * i) + 6))
  rw [if_neg e30]
  by_cases e31 : x &&& 63 = 31
  · rw [if_pos e31]
    dsimp only [lett]
    simp only [s1, s2, s3, s4, Option.bind_some]
    exact st2 (s_pers hi x1 x2 x3 x4) (fun h => L_law_L18 V b (b + 55) fu h (nI (6 * i) + 6))
  rw [if_neg e31]
  by_cases e32 : x &&& 63 = 32
  · rw [if_pos e32]
    dsimp only [lett]
    simp only [s1, s2, Option.bind_some]
    exact st2 (stp_ac (h := h) (F := fun h => X7_areas h b x1 x2) (G := fun h => X8_areas h (b + 55) x1 x2) _ (c_areas hi x1 x2) (fun _ i1 => m_areas i1 x1 x2)) (fun h => L_law_L18 V b (b + 55) fu h (nI (6 * i) + 6))
  rw [if_neg e32]
  by_cases e33 : x &&& 63 = 33
  · rw [if_pos e33]
    dsimp only [lett]
    simp only [s1, s2, s3, Option.bind_some]
    exact st2 (stp_ac (h := h) (F := fun h => X7_mouth h b x1 x2 (if x3 = 0 then 0 else 1)) (G := fun h => X8_mouth h (b + 55) x1 x2 (if x3 = 0 then 0 else 1)) _ (c_mouth hi x1 x2 (if x3 = 0 then 0 else 1)) (fun _ i1 => m_mouth i1 x1 x2 (if x3 = 0 then 0 else 1))) (fun h => L_law_L18 V b (b + 55) fu h (nI (6 * i) + 6))
  rw [if_neg e33]
  by_cases e34 : x &&& 63 = 34
  · rw [if_pos e34]
    dsimp only [lett]
    simp only [s1, s2, s3, Option.bind_some]
    exact st2 (stp_ac (h := h) (F := fun h => X7_rift h b x1 x2 x3) (G := fun h => X8_rift h (b + 55) x1 x2 x3) _ (c_rift hi x1 x2 x3) (fun _ i1 => m_rift i1 x1 x2 x3)) (fun h => L_law_L18 V b (b + 55) fu h (nI (6 * i) + 6))
  rw [if_neg e34]
  by_cases e35 : x &&& 63 = 35
  · rw [if_pos e35]
    dsimp only [lett]
    simp only [s1, Option.bind_some]
    exact st1 (c_count hi x1) (m_count hi x1) (fun h => L_law_L18 V b (b + 55) fu h (nI (6 * i) + 6))
  rw [if_neg e35]
  by_cases e36 : x &&& 63 = 36
  · rw [if_pos e36]
    dsimp only [lett]
    simp only [s1, Option.bind_some]
    exact st2 (s_image hi x1) (fun h => L_law_L18 V b (b + 55) fu h (nI (6 * i) + 6))
  rw [if_neg e36]
  by_cases e37 : x &&& 63 = 37
  · rw [if_pos e37]
    dsimp only [lett]
    simp only [s1, Option.bind_some]
    exact st2 (s_again hi x1) (fun h => L_law_L18 V b (b + 55) fu h (nI (6 * i) + 6))
  rw [if_neg e37]
  exact ⟨h, D, α, lm, im, rfl, hi⟩
theorem law_all {V : EV} {b : Nat} (hV : vL V ≤ 3072) (hL : 6 ≤ vL V) : ∀ d i (h : HA) (D : DT) (α : Nat → Nat) (lm : Nat → Nat → Nat) (im : Nat → Option (Nat × DT)) fu, vL V < 6 * i + 6 * d + 6 → d < fu → 6 * i < 10000 → IV h b D α lm im → ∃ hR, L_law_L18 V b (b + 55) fu h (nI (6 * i)) = some (1, hR) := by
  intro d
  induction d with
  | zero =>
    intro i h D α lm im fu h1 h2 h3 hi
    obtain ⟨g, rfl⟩ : ∃ g, fu = g + 1 := ⟨fu - 1, by omega⟩
    refine ⟨h, ?_⟩
    rw [L_law_L18, show Int32.ofNat (vL V) - 6 = nI (vL V - 6) from nI_sub (a := vL V) (b := 6) (by omega), if_pos (lt_lit (by omega) (by omega))]
  | succ d ih =>
    intro i h D α lm im fu h1 h2 h3 hi
    obtain ⟨g, rfl⟩ : ∃ g, fu = g + 1 := ⟨fu - 1, by omega⟩
    by_cases hx : 6 * i + 6 ≤ vL V
    · obtain ⟨h4, D4, α4, lm4, im4, e4, i4⟩ := law_step (fu := g) hi hx hV
      rw [e4, show nI (6 * i) + 6 = nI (6 * (i + 1)) from nI_add (6 * i) 6]
      exact ih (i + 1) h4 D4 α4 lm4 im4 g (by omega) (by omega) (by omega) i4
    · refine ⟨h, ?_⟩
      rw [L_law_L18, show Int32.ofNat (vL V) - 6 = nI (vL V - 6) from nI_sub (a := vL V) (b := 6) (by omega), if_pos (lt_lit (by omega) (by omega))]
theorem short : ∀ L, L < 6 → Int32.ofNat L - 6 < 0 := by decide +kernel
theorem pure_law (V : EV) (hV : vL V ≤ 3072) : ∃ hR, L_law V (h00 (vB V)) = some (1, hR) := by
  obtain ⟨h3, h6, e1, e2, e3, i6⟩ := start_iv (h00 (vB V))
  unfold L_law
  dsimp only [lett]
  rw [e1, Option.bind_some]
  rw [e3, Option.bind_some, e2]
  by_cases hL : 6 ≤ vL V
  · exact law_all hV hL 512 0 h6 _ _ _ _ 514 (by omega) (by omega) (by omega) i6
  · refine ⟨h6, ?_⟩
    rw [show (514 : Nat) = 513 + 1 from rfl, L_law_L18, if_pos (short _ (by omega))]
