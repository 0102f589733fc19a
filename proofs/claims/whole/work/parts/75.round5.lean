/-! ROUND: the class answers as the model -/
def rtail (b c : Nat) (p l w : Int32) (h : HA) : Option (Int32 × HA) :=
  (gN h b 8 5).bind fun x31 =>
    match x31 with
    | none => (gR h c 1 9).bind fun x33 => (ldI h x33 20 p).bind fun _ => none
    | some z32 => (gR h c 1 9).bind fun x35 => (ldI h x35 20 p).bind fun x36 => (X6_search h z32 c x36 l).bind fun (x39, h38) =>
      if w = 0 then some (x39, h38) else if x39 = (-1) then some (x39, h38) else if (w - 10) < x39 then (gN h38 b 8 5).bind fun x40 =>
        match x40 with
        | none => none
        | some z41 => (X6_actAt h38 z41 (w - 10)).bind fun x43 => some (x43, h38) else some ((-1), h38)
def qrd (C : CR) (l f : Nat) (w : Int32) : Int32 := if RT C l f = 1000 then -1 else if w = 0 then nI (RT C l f) else if rg (w - 10) (RT C l f) = true then nI (wa (nxC C l) (goC C) (256 * f) (RT C l f) (tn (w - 10))) else -1
theorem rtail_ok {h : HA} {b c w r l : Nat} {C : CR} {D : DT} {α : Nat → Nat} {lm : Nat → Nat → Nat} {im : Nat → Option (Nat × DT)} (hi : IV h b D α lm im) (hg : ga h b 5 = some w) (hc : c + 6 ≤ b + 46) (hC : CL h c C) (hr : r < cP C) (hl : l < 10) (h0 : cJ C ≠ 0) {x : Int32} (hx : x = 0 ∨ ∃ q, q < 60 ∧ x = nI (q + 10)) :
    AC b D α lm im (rtail b c (nI r) (nI l) x h) (qrd C l (ps C r) x) := by
  have hp := hC.1.2.1.2.2 r hr
  have h4 := hC.1.2.1.1.2.2.2.1.1
  unfold rtail
  rw [gN_n (fx_x hi.1), hg, Option.bind_some]
  dsimp only
  rw [cs_r9 hC.1.1, Option.bind_some, ldI_n (cs_k9 hC.1.1) (by omega) (by omega), (hC.1.2.2.2.2.2.2.2.2.2.2.2 r hr).1, hp.1, Option.bind_some]
  obtain ⟨v, h1, e1, i1, q1, g1⟩ := search_ok hi hg hc hC hp.2.1 hl h0
  rw [e1, Option.bind_some]
  dsimp only
  unfold qrd
  rcases q1 with ⟨rfl, e2⟩ | ⟨T, hT, rfl, e2, hG, wk, bd, pr⟩
  · rw [if_pos e2]
    by_cases hx0 : x = 0
    · rw [if_pos hx0]; exact ⟨h1, rfl, i1⟩
    · rw [if_neg hx0, if_pos rfl]; exact ⟨h1, rfl, i1⟩
  · rw [e2, if_neg (show ¬ T = 1000 by omega)]
    by_cases hx0 : x = 0
    · rw [if_pos hx0, if_pos hx0]; exact ⟨h1, rfl, i1⟩
    · obtain ⟨q, hq, rfl⟩ := hx.resolve_left hx0
      have ex : nI (q + 10) - 10 = nI q := by rw [show (10 : Int32) = nI 10 from rfl, nI_sub (by omega), Nat.add_sub_cancel]
      rw [if_neg hx0, if_neg hx0, if_neg (nI_nm1 (by omega)), ex, rg_n (by omega), tn_nI (by omega)]
      by_cases hqT : q < T
      · rw [if_pos (lt_lit hqT (by omega)), gN_n (fx_x i1.1), g1, Option.bind_some]
        dsimp only
        rw [actAt_c wk bd hp.2.1 hT hG pr hqT, Option.bind_some, if_pos (by simpa using hqT)]
        exact ⟨h1, rfl, i1⟩
      · rw [if_neg (nlt_lit (by omega) (by omega)), if_neg (by simpa using hqT)]
        exact ⟨h1, rfl, i1⟩
theorem c_round {h : HA} {b : Nat} {D : DT} {α : Nat → Nat} {lm : Nat → Nat → Nat} {im : Nat → Option (Nat × DT)} (hi : IV h b D α lm im) (x p l w : Int32) : AC b D α lm im (X7_round h b x p l w) (qround D x p l w) := by
  unfold X7_round qround
  rw [if_pos (fx_c hi.1)]
  rcases courtAt_ok hi x with ⟨h1, h2⟩ | ⟨a, h1, ha, rfl, hr, e1, i1, l1⟩
  · rw [h2, h1]; exact ⟨h, rfl, hi⟩
  · have hw := l1.1.2.1
    have h6 := hw.1.2.2.1.1
    have h4 := hw.1.2.2.2.1.1
    rw [e1, hr, tnD (iv_w hi) ha, Option.bind_some]
    dsimp only
    rw [hasPleader_c l1.1, Option.bind_some]
    cases hp1 : rg p (cP (dC D a)) with
    | false => exact ⟨h1, rfl, i1⟩
    | true =>
      rw [if_neg (by decide), isLoud_c, Option.bind_some]
      cases hl1 : rg l 10 with
      | false => exact ⟨h1, rfl, i1⟩
      | true =>
        obtain ⟨r, hr2, rfl⟩ := (rg_iff (by omega)).mp hp1
        obtain ⟨s, hs2, rfl⟩ := (rg_iff (by omega)).mp hl1
        rw [if_neg (by decide), cs_I l1.1.1, l1.1.2.2.2.2.2.2.2.2.1, Option.bind_some, if_pos (show (true && true && true) = true from rfl), tn_nI (show r < 2 ^ 31 by omega), tn_nI (show s < 2 ^ 31 by omega)]
        by_cases h0 : cJ (dC D a) = 0
        · rw [if_pos (by rw [h0]; rfl), if_pos h0]; exact ⟨h1, rfl, i1⟩
        · rw [if_neg (show ¬ nI _ = 0 from fun z => h0 (nI_inj (b := 0) (by omega) (by omega) z)), if_neg h0]
          have hca : α a + 6 ≤ b + 46 := (i1.2.1 a (by have := (iv_w hi).2.1 0 (by omega); omega)).2.2
          have rest : (w = 0 ∨ ∃ q, q < 60 ∧ w = nI (q + 10)) → AC b D α lm im ((gN h1 b 8 5).bind fun x12 =>
              match x12 with
              | none =>
                lett (α := HA) (nw h1 7 0) fun h14 =>
                (X6_init h14 (hz h1)).bind fun h16 =>
                (pR h16 b 8 5 (some (hz h1))).bind fun h17 => rtail b (α a) (nI r) (nI s) w h17
              | some _ => rtail b (α a) (nI r) (nI s) w h1) (qrd (dC D a) s (ps (dC D a) r) w) := by
            intro hx
            rw [gN_n (fx_x i1.1), Option.bind_some]
            cases hg : ga h1 b 5 with
            | none =>
              dsimp only [lett]
              obtain ⟨h2, e2, z2, o2, ws2⟩ := walk_new h1
              have hzb := i1.1.2.2.2.2
              rw [e2, Option.bind_some]
              have hk2 : kd h2 b = (8, 0) := by rw [(o2.2 b (by omega)).1]; exact fx_x i1.1
              rw [pR_n hk2, Option.bind_some]
              have hs3 : ∀ a', a' < hz h1 → a' ≠ b → sm h1 (sa h2 b 5 (some (hz h1))) a' := fun a' h3 h4 => (o2.2 a' h3).tr (sm_sa h4)
              have i3 : IV (sa h2 b 5 (some (hz h1))) b D α lm im := by
                refine IV_wk (w := hz h1) i1 (by show hz h1 ≤ hz h2; omega) hs3 (o2.2 b (by omega)).1 (fun j hj => ?_) (by rw [ga_sa, if_pos ⟨rfl, rfl⟩]) hzb (by show _ ≤ hz h2; omega) ?_
                · rw [ga_sa, if_neg (fun z => hj z.2)]; exact (o2.2 b (by omega)).2.2.2 j
                · obtain ⟨a1, ⟨a2, a3⟩, a4, a5⟩ := ws2
                  exact ⟨a1, ⟨by rw [ga_sa, if_neg (by omega)]; exact a2, a3⟩, by rw [ga_sa, if_neg (by omega)]; exact a4, a5⟩
              have l3 : CL (sa h2 b 5 (some (hz h1))) (α a) (dC D a) := CL_sm l1 (fun a' h3 h4 => hs3 a' (by omega) (fun e => by
                rcases cs_kk l1.1.1 h3 h4 with ⟨_, z⟩ | ⟨_, z | z | z | z⟩ <;> rw [e, fx_x i1.1] at z <;> exact absurd z (by decide)))
              exact rtail_ok i3 (by rw [ga_sa, if_pos ⟨rfl, rfl⟩]) hca l3 hr2 hs2 h0 hx
            | some w0 => exact rtail_ok i1 hg hca l1 hr2 hs2 h0 hx
          by_cases hw0 : w = 0
          · rw [if_pos hw0, Option.bind_some]
            exact rest (Or.inl hw0)
          · rw [if_neg hw0]
            have qneg : (∀ q, q < 60 → w ≠ nI (q + 10)) → qrd (dC D a) s (ps (dC D a) r) w = -1 := by
              intro hq
              unfold qrd
              by_cases hT : RT (dC D a) s (ps (dC D a) r) = 1000
              · rw [if_pos hT]
              · rw [if_neg hT, if_neg hw0, if_neg]
                intro z
                have hT60 : RT (dC D a) s (ps (dC D a) r) ≤ 60 := by
                  unfold RT at hT ⊢
                  rcases fst1_spec (fun t => Gb (nxC (dC D a) s) (goC (dC D a)) t (256 * ps (dC D a) r)) 61 0 with ⟨i, _, h2, _, _, h5⟩ | ⟨_, h2⟩
                  · omega
                  · exact absurd h2 hT
                obtain ⟨q, hq1, e⟩ := (rg_iff (by omega)).mp z
                exact hq q (by omega) (by rw [← nI_add, ← e]; show w = w - 10 + 10; rw [Int32.sub_add_cancel])
            rcases i_nat w with h1n | ⟨v, hv, rfl⟩
            · have e1 : w < 10 := by
                rw [Int32.lt_iff_toInt_lt] at h1n ⊢
                have e0 : (0 : Int32).toInt = 0 := by decide
                have e1 : (10 : Int32).toInt = 10 := by decide
                omega
              rw [if_pos e1, Option.bind_some]
              refine ⟨h1, ?_, i1⟩
              show some ((-1 : Int32), h1) = some (qrd (dC D a) s (ps (dC D a) r) _, h1)
              rw [qneg (fun q hq e => nI_lt0 (n := q + 10) (by omega) (e ▸ h1n))]
            · by_cases h10 : v < 10
              · rw [if_pos (show nI v < 10 from lt_lit (n := 10) h10 (by omega)), Option.bind_some]
                refine ⟨h1, ?_, i1⟩
                show some ((-1 : Int32), h1) = some (qrd (dC D a) s (ps (dC D a) r) _, h1)
                rw [qneg (fun q hq e => by have := nI_inj hv (by omega) e; omega)]
              · rw [if_neg (show ¬ nI v < 10 from nlt_lit (n := 10) (by omega) hv)]
                by_cases h70 : v < 70
                · rw [if_pos (show nI v < 70 from lt_lit (n := 70) h70 (by omega)), Option.bind_some]
                  exact rest (Or.inr ⟨v - 10, by omega, by rw [Nat.sub_add_cancel (by omega)]⟩)
                · rw [if_neg (show ¬ nI v < 70 from nlt_lit (n := 70) (by omega) hv), Option.bind_some]
                  refine ⟨h1, ?_, i1⟩
                  show some ((-1 : Int32), h1) = some (qrd (dC D a) s (ps (dC D a) r) _, h1)
                  rw [qneg (fun q hq e => by have := nI_inj hv (by omega) e; omega)]
