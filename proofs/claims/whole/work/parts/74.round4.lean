/-! ROUND: the class's answer -/
theorem actAt_c {h : HA} {w c f0 l T q : Nat} {C : CR} (wk : WK h w c C f0) (bd : BD h w C l) (hf0 : op C f0 = true) (hT : T ≤ 60) (hg : Gb (nxC C l) (goC C) T (256 * f0) = true) (pr : ∀ t, t ≤ T → Pr h w C l f0 T t) (hq : q < T) :
    X6_actAt h w (nI q) = some (nI (wa (nxC C l) (goC C) (256 * f0) T q)) := by
  have hw := wk.2.2.2.2.1.1.2.1.1
  have f6 := op_64 hw hf0
  unfold X6_actAt
  rw [if_pos (wk_t wk), wk_3 wk, Option.bind_some]
  have hl := loop_st (fun fu k (z : Int32 × Int32 × Int32) => X6_actAt_L13 h w (nI q) fu z.1 z.2.1 z.2.2 (nI k)) (fun k => (nI (wy (nxC C l) (goC C) (256 * f0) T k / 256), nI (wy (nxC C l) (goC C) (256 * f0) T k / 4 % 64), if k = 0 then 5 else nI (wa (nxC C l) (goC C) (256 * f0) T (k - 1)))) (some (nI (wa (nxC C l) (goC C) (256 * f0) T q))) (q + 1) (fun t fu ht => by
    try simp only []
    obtain ⟨h1, h2⟩ := wy_ok hw hf0 hg t (by omega)
    obtain ⟨f, hd, es, o1, o2⟩ := RE_sN hw hf0 h1
    have d6 := hd_64 hw o2
    have g6 := op_64 hw o1
    have fa := firstAct_c (f := f) (hd := hd) wk hf0 hT (show t < T by omega) (pr (t + 1) (by omega)) d6 (by rw [← es]; exact h1) (by rw [← es]; exact h2)
    obtain ⟨n1, n2, n3⟩ := sN_e (f := f) (t := t) d6
    have form : ∀ x y, 256 * x + 4 * y + (sN f hd t + 1) % 4 = sN x y (t + 1) := fun x y => by unfold sN at n3 ⊢; omega
    have ewa : wa (nxC C l) (goC C) (256 * f0) T t = gac (nxC C l) (goC C) (T - (t + 1)) (sN f hd t) := by unfold wa; rw [es]
    rw [show T - t = (T - (t + 1)) + 1 by omega, es] at h2
    obtain ⟨s', g1, g2, g3⟩ := Gb_to h2
    have ewy : wy (nxC C l) (goC C) (256 * f0) T (t + 1) = s' := by rw [wy, es, g2]; rfl
    rw [← ewa] at fa g1 g2
    rw [X6_actAt_L13, if_neg (nlt_lit (by omega) (by omega)), ewy, if_neg (show ¬ t + 1 = 0 by omega), Nat.add_sub_cancel, es, n1, n2, earsOn_c wk bd o1 (by omega), Option.bind_some, fa, Option.bind_some, nI_p1]
    generalize wa (nxC C l) (goC C) (256 * f0) T t = a at *
    unfold nxC at g2
    rw [n1, n2, n3] at g2
    by_cases h4 : a < 4
    · rw [if_pos h4] at g2
      cases hst : stp C f a with
      | none => rw [hst] at g2; exact absurd g2 (by simp)
      | some g =>
        rw [hst] at g2
        have e := Option.some.inj g2
        rw [form] at e
        obtain ⟨m1, m2, _⟩ := sN_e (f := g) (t := t + 1) d6
        rw [← e, m1, m2, if_pos (lt4 h4), wk_2 wk, Option.bind_some, stepTo_c wk.2.2.2.2.1.1 o1 h4, Option.bind_some, hst]
        rfl
    · have hn4 : ¬ nI a < 4 := nlt_lit (n := 4) (by omega) (by omega)
      rw [if_neg h4] at g2
      rw [if_neg hn4]
      by_cases h5 : a = 4
      · rw [if_pos h5] at g2
        have e := Option.some.inj g2
        rw [form] at e
        have ol := hd_64 hw (Nat.or_lt_two_pow o2 (ea_lt C f (t % 4) l))
        obtain ⟨m1, m2, _⟩ := sN_e (f := f) (t := t + 1) ol
        rw [← e, m1, m2, h5, if_pos (by rfl), nI_or]
      · rw [if_neg h5] at g2
        have e := Option.some.inj g2
        rw [form] at e
        obtain ⟨m1, m2, _⟩ := sN_e (f := f) (t := t + 1) d6
        rw [← e, m1, m2, if_neg (show ¬ nI a = 4 from fun z => h5 (nI_inj (b := 4) (by omega) (by omega) z))])
    (fun fu => by (try simp only []); rw [X6_actAt_L13, if_pos (lt_lit (by omega) (by omega)), if_neg (show ¬ q + 1 = 0 by omega), Nat.add_sub_cancel]) FU (FU_gt (by omega))
  have e0 : wy (nxC C l) (goC C) (256 * f0) T 0 = 256 * f0 := rfl
  rw [e0, show 256 * f0 / 256 = f0 by omega, show 256 * f0 / 4 % 64 = 0 by omega, if_pos rfl] at hl
  rw [show X6_actAt_L13 h w (nI q) FU (nI f0) 0 5 0 = _ from hl, Option.bind_some]
def Wws (w : Nat) : Nat → Nat → Prop := fun a k => a = w + 1 ∨ a = w + 2 ∨ (a = w ∧ (k = 3 ∨ k = 4))
theorem search_ok {h : HA} {b w c f0 l : Nat} {C : CR} {D : DT} {α : Nat → Nat} {lm : Nat → Nat → Nat} {im : Nat → Option (Nat × DT)} (hi : IV h b D α lm im) (hg : ga h b 5 = some w) (hc : c + 6 ≤ b + 46) (hC : CL h c C) (hf0 : op C f0 = true) (hl : l < 10) (h0 : cJ C ≠ 0) :
    ∃ r h1, X6_search h w c (nI f0) (nI l) = some (r, h1) ∧ IV h1 b D α lm im ∧ SQ h1 w c C l f0 r ∧ ga h1 b 5 = some w := by
  obtain ⟨w1, ws⟩ : b + 86 ≤ w ∧ WS h w := by
    rcases hi.2.2.2.2.2.2.2.2.2.2.2.2 with z | ⟨w', z1, z2, _, z4⟩
    · rw [hg] at z; exact absurd z (by simp)
    · rw [hg] at z1
      have := Option.some.inj z1
      subst this
      exact ⟨z2, z4⟩
  have hw := hC.1.2.1.1
  have f6 := op_64 hw hf0
  have h6 := hw.2.2.1.1
  have hne : ∀ x, x ≤ 85 → b + x ≠ w := fun x hx e => by omega
  -- the COURT put in
  have i1 : IV (sa h w 2 (some c)) b D α lm im := by
    refine IV_fr (fun _ => False) hi ⟨Nat.le_refl _, fun _ _ => rfl, fun a j _ => ?_⟩ (FX_kd hi.1 (Nat.le_refl _) (fun _ _ => rfl) (fun x hx => ?_) (fun j _ => ?_) (fun j => ?_)) (fun _ _ e => e.elim) (fun _ _ e => e.elim) (fun w' hw' hs => ?_)
    · by_cases e : a = w
      · left; rw [e]; unfold Sc; exact Or.inr (Or.inr (Or.inr (Or.inr (Or.inr ws.1))))
      · right; exact ⟨rfl, rfl, by rw [ga_sa, if_neg (fun z => e z.1)]⟩
    · have l1 : ∀ x, x ∈ fxr → x.1 ≤ 52 := by decide
      have l2 := l1 x hx
      rw [ga_sa, if_neg (by omega)]
    · rw [ga_sa, if_neg (by omega)]
    · rw [ga_sa, if_neg (by omega)]
    · rw [hg] at hw'
      have := Option.some.inj hw'
      subst this
      obtain ⟨a1, ⟨a2, a3⟩, a4, a5⟩ := hs
      exact ⟨a1, ⟨by rw [ga_sa, if_neg (by omega)]; exact a2, a3⟩, by rw [ga_sa, if_neg (by omega)]; exact a4, a5⟩
  have ws1 : WS (sa h w 2 (some c)) w := by
    obtain ⟨a1, ⟨a2, a3⟩, a4, a5⟩ := ws
    exact ⟨a1, ⟨by rw [ga_sa, if_neg (by omega)]; exact a2, a3⟩, by rw [ga_sa, if_neg (by omega)]; exact a4, a5⟩
  have c1 : CL (sa h w 2 (some c)) c C := CL_sm hC (fun a h1 h2 => sm_sa (by omega))
  have g1 : ga (sa h w 2 (some c)) b 5 = some w := by rw [ga_sa, if_neg (by omega)]; exact hg
  have r1 : ga (sa h w 2 (some c)) w 2 = some c := by rw [ga_sa, if_pos ⟨rfl, rfl⟩]
  unfold X6_search
  rw [if_pos (by rw [ws.1]), pR_n ws.1, Option.bind_some]
  generalize sa h w 2 (some c) = h1 at *
  have c2 : ch (Wws w) h1 (si h1 w 3 (nI f0)) := ch_si (Or.inr (Or.inr ⟨rfl, Or.inl rfl⟩))
  have ws2 := WS_ch ws1 c2
  have cl2 : CL (si h1 w 3 (nI f0)) c C := CL_sm c1 (fun a h1 h2 => c2.sm (fun i => by unfold Wws; omega))
  have c3 : ch (Wws w) _ (si (si h1 w 3 (nI f0)) w 4 (nI (2 ^ cJ C - 1))) := c2.tr (ch_si (Or.inr (Or.inr ⟨rfl, Or.inr rfl⟩)))
  have wk3 : WK (si (si h1 w 3 (nI f0)) w 4 (nI (2 ^ cJ C - 1))) w c C f0 := ⟨WS_ch ws1 c3, by rw [c3.2.2.1]; exact r1, by rw [gi_si, if_neg (by omega), gi_si, if_pos ⟨rfl, rfl⟩], by rw [gi_si, if_pos ⟨rfl, rfl⟩], CL_sm c1 (fun a h1 h2 => c3.sm (fun i => by unfold Wws; omega)), by omega⟩
  rw [pI_n ws1.1, Option.bind_some, cs_I cl2.1.1, cl2.1.2.2.2.2.2.2.2.2.1, Option.bind_some, full_n hw, pI_n ws2.1, Option.bind_some]
  generalize si (si h1 w 3 (nI f0)) w 4 (nI (2 ^ cJ C - 1)) = h3 at *
  obtain ⟨h4, e4, c4, b4⟩ := layBands_ok wk3 hl
  have k4 := WK_ch wk3 (c4.mo fun a i q => Or.inr q)
  obtain ⟨h5, e5, c5, z5⟩ := fill_w1 (x := 0) k4 (by omega)
  have k5 := WK_ch k4 (c5.mo fun a i q => Or.inl q.1)
  rw [e4, Option.bind_some, wk_0 k4, Option.bind_some, show J7_fill_bad5a h4 (w + 1) 0 64 0 = _ from e5, Option.bind_some, wk_0 k5, Option.bind_some, show asJ h5 (w + 1) 0 _ = _ from asJ_n (i := 0) (wk_k1 k5) (by omega) (by omega), Option.bind_some]
  have c6 : ch (Wwk w) h5 (sj h5 (w + 1) 0 (shlJ 1 (nI f0))) := ch_sj (Or.inl rfl)
  have k6 := WK_ch k5 c6
  have ly0 : Lay (sj h5 (w + 1) 0 (shlJ 1 (nI f0))) w C l f0 0 := by
    intro hd f h2 h3
    have eR : RE (nxC C l) (256 * f0) 0 (sN f hd 0) ↔ (f = f0 ∧ hd = 0) := by
      show sN f hd 0 = 256 * f0 ↔ _
      unfold sN
      omega
    rw [eR, gj_sj]
    by_cases e : hd = 0
    · subst e
      rw [if_pos ⟨rfl, by omega⟩, tb_bit f6]
      simp
    · rw [if_neg (by omega), show 64 * 0 + hd = 0 + hd by omega, z5 hd h2, tb_0]
      simp [e]
  have bd6 : BD (sj h5 (w + 1) 0 (shlJ 1 (nI f0))) w C l := fun hr e f h2 h3 h4 => by
    rw [gj_sj, if_neg (by omega), c5.gj (by omega)]; exact b4 hr e f h2 h3 h4
  obtain ⟨r, h7, e7, c7, q7⟩ := search50 hf0 60 0 _ FU (by omega) (FU_gt (by omega)) k6 bd6 (fun u hu => by
    have : u = 0 := by omega
    subst this; exact ly0) (fun u hu s hs => by
    have : u = 0 := by omega
    subst this
    have hs' : s = 256 * f0 := hs
    rw [hs', show 256 * f0 = sN f0 0 0 by unfold sN; omega, goC_sN (by omega)]
    have : 2 ^ 1 ≤ 2 ^ cJ C := Nat.pow_le_pow_right (by omega) (by omega)
    simp; omega)
  have cc : ch (Wws w) h1 h7 := c3.tr ((c4.mo fun a i q => Or.inr (Or.inl q)).tr ((c5.mo fun a i q => Or.inl q.1).tr ((c6.mo fun a i q => by rcases q with q | q <;> (show _ ∨ _ ∨ _) <;> omega).tr (c7.mo fun a i q => by rcases q with q | q <;> (show _ ∨ _ ∨ _) <;> omega))))
  refine ⟨r, h7, e7, IV_ch i1 cc (fun a k q => ?_), q7, by rw [cc.2.2.1]; exact g1⟩
  unfold Sc
  rcases q with q | q | q
  · rw [q]; exact Or.inr (Or.inr (Or.inr (Or.inl ws1.2.1.2)))
  · rw [q]; exact Or.inr (Or.inr (Or.inr (Or.inr (Or.inl ws1.2.2.2))))
  · rw [q.1]; exact Or.inr (Or.inr (Or.inr (Or.inr (Or.inr ws1.1))))
