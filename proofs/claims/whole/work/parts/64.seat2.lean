/-! SEATS: the class, worth and answers -/
def W53 (b : Nat) : Nat → Nat → Prop := fun a k => a = b + 53 ∨ (a = b + 52 ∧ k = 2)
theorem onSeat_c {h : HA} {b c l j s : Nat} {C L : CR} {n : Nat} (hp : HP h b c l C L (fun _ => 0) n) (hj : j < cJ C) (hs : s < cJ C) : X1_knownOnSeat h (b + 46) (nI j) (nI s) = some (nI (wth C L n j s)) := by
  have hL := hp_L hp
  have h3 := ((hp_wf hp).2.1 j hj).2.2.2.2.1
  unfold X1_knownOnSeat
  rw [if_pos (hb_t hp.1), hb_c hp.1, Option.bind_some, hb_o3 hp.1 hj, Option.bind_some, ownSides_c hp.1 hj, Option.bind_some, gI_n (fx_hk hp.1.1), hp.2.1, Option.bind_some, show X1_wordsOn h (b + 46) (nI s) (nI (jg C j 3)) (nI (eW C j)) 0 0 (nI n) = _ from wordsOn_0 (later := 0) hp (Nat.le_refl _) hs (eW_lt C j) h3, Option.bind_some, bitc_n _ (kwd_lt hL hp.2.2.1), Option.bind_some]
  rfl
theorem settle23 {h : HA} {b c l j : Nat} {C L : CR} {n : Nat} (hp : HP h b c l C L (fun _ => 0) n) (h2 : gi h (b + 52) 2 = nI (cJ C)) (hj : j < cJ C) :
    ∃ h1, X4_settle_L23 (b + 52) (b + 46) (nI j) FU h 0 = some h1 ∧ ch (fun a k => a = b + 53 ∧ 6 * j ≤ k) h h1 ∧ ∀ s, s < cJ C → gi h1 (b + 53) (6 * j + s) = nI (wth C L n j s) := by
  have h6 := hb_6 hp.1
  refine loop_inv (fun fu k (h : HA) => X4_settle_L23 (b + 52) (b + 46) (nI j) fu h (nI k)) (fun k h1 => ch (fun a k => a = b + 53 ∧ 6 * j ≤ k) h h1 ∧ ∀ s, s < k → gi h1 (b + 53) (6 * j + s) = nI (wth C L n j s))
    (fun h1 => ch (fun a k => a = b + 53 ∧ 6 * j ≤ k) h h1 ∧ ∀ s, s < cJ C → gi h1 (b + 53) (6 * j + s) = nI (wth C L n j s)) (cJ C) (fun k h1 fu hk hI => ?_) (fun h1 fu hI => ?_) h FU ⟨ch_rf _ _, fun s hs => by omega⟩ (FU_gt (by omega))
  · obtain ⟨c1, g1⟩ := hI
    have hp1 := HP_ch hp c1 (fun a k w => by omega)
    have hf := hp1.1.1
    have g2 : gi h1 (b + 52) 2 = nI (cJ C) := by rw [c1.gi (by omega)]; exact h2
    refine ⟨si h1 (b + 53) (6 * j + k) (nI (wth C L n j k)), ?_, c1.tr (ch_si ⟨rfl, by omega⟩), fun s hs => ?_⟩
    · show X4_settle_L23 (b + 52) (b + 46) (nI j) (fu + 1) h1 (nI k) = _
      rw [X4_settle_L23, gI_n (fx_sk hf), g2, Option.bind_some, if_pos (lt_lit hk (by omega)), fx_s0 hf, Option.bind_some, onSeat_c hp1 hj hk, Option.bind_some, show (6 : Int32) = nI 6 from rfl, nI_mul, nI_add, asI_n (fx_k53 hf) (by omega) (by omega), Option.bind_some, nI_p1, Nat.mul_comm]
    · rw [gi_si]
      by_cases e : s = k
      · subst e; rw [if_pos ⟨rfl, rfl⟩]
      · rw [if_neg (by omega)]; exact g1 s (by omega)
  · have hp1 := HP_ch hp hI.1 (fun a k w => by omega)
    have g2 : gi h1 (b + 52) 2 = nI (cJ C) := by rw [hI.1.gi (by omega)]; exact h2
    refine ⟨h1, ?_, hI⟩
    show X4_settle_L23 (b + 52) (b + 46) (nI j) (fu + 1) h1 (nI (cJ C)) = _
    rw [X4_settle_L23, gI_n (fx_sk hp1.1.1), g2, Option.bind_some, if_neg (nlt_lit (Nat.le_refl _) (by omega))]
theorem settle13 {h : HA} {b c l : Nat} {C L : CR} {n : Nat} (hp : HP h b c l C L (fun _ => 0) n) (h2 : gi h (b + 52) 2 = nI (cJ C)) :
    ∃ h1, X4_settle_L13 (b + 52) (b + 46) FU h 0 = some h1 ∧ ch (fun a _ => a = b + 53) h h1 ∧ ∀ j s, j < cJ C → s < cJ C → gi h1 (b + 53) (6 * j + s) = nI (wth C L n j s) := by
  have h6 := hb_6 hp.1
  refine loop_inv (fun fu k (h : HA) => X4_settle_L13 (b + 52) (b + 46) fu h (nI k)) (fun k h1 => ch (fun a _ => a = b + 53) h h1 ∧ ∀ j s, j < k → s < cJ C → gi h1 (b + 53) (6 * j + s) = nI (wth C L n j s))
    (fun h1 => ch (fun a _ => a = b + 53) h h1 ∧ ∀ j s, j < cJ C → s < cJ C → gi h1 (b + 53) (6 * j + s) = nI (wth C L n j s)) (cJ C) (fun k h1 fu hk hI => ?_) (fun h1 fu hI => ?_) h FU ⟨ch_rf _ _, fun s j hs => by omega⟩ (FU_gt (by omega))
  · obtain ⟨c1, g1⟩ := hI
    have hp1 := HP_ch hp c1 (fun a k w => by omega)
    have hf := hp1.1.1
    have g2 : gi h1 (b + 52) 2 = nI (cJ C) := by rw [c1.gi (by omega)]; exact h2
    obtain ⟨h3, e3, c3, s3⟩ := settle23 hp1 g2 hk
    refine ⟨h3, ?_, c1.tr (c3.mo fun a k w => w.1), fun j s hj hs => ?_⟩
    · show X4_settle_L13 (b + 52) (b + 46) (fu + 1) h1 (nI k) = _
      rw [X4_settle_L13, gI_n (fx_sk hf), g2, Option.bind_some, if_pos (lt_lit hk (by omega)), e3, Option.bind_some, nI_p1]
    · by_cases e : j = k
      · subst e; exact s3 s hs
      · rw [c3.gi (by omega)]; exact g1 j s (by omega) hs
  · have hp1 := HP_ch hp hI.1 (fun a k w => by omega)
    have g2 : gi h1 (b + 52) 2 = nI (cJ C) := by rw [hI.1.gi (by omega)]; exact h2
    refine ⟨h1, ?_, hI⟩
    show X4_settle_L13 (b + 52) (b + 46) (fu + 1) h1 (nI (cJ C)) = _
    rw [X4_settle_L13, gI_n (fx_sk hp1.1.1), g2, Option.bind_some, if_neg (nlt_lit (Nat.le_refl _) (by omega))]
theorem settle_ok {h : HA} {b c l : Nat} {C L : CR} {n : Nat} (hp : HP h b c l C L (fun _ => 0) n) :
    ∃ h1, X4_settle h (b + 52) (b + 46) = some h1 ∧ ch (fun a _ => b + 52 ≤ a ∧ a ≤ b + 54) h h1 ∧ SW h1 b (cJ C) (wth C L n) ∧ SB h1 b (cJ C) (wth C L n) 0 := by
  have h6 := hb_6 hp.1
  have hf := hp.1.1
  have hn : cJ C < 7 := by omega
  have hp7 := pow7 hn
  have h0 : 0 < 2 ^ cJ C := Nat.two_pow_pos _
  unfold X4_settle
  rw [if_pos (fx_st hf), hb_c hp.1, Option.bind_some, hb_nj hp.1, Option.bind_some, pI_n (fx_sk hf), Option.bind_some]
  have c1 : ch (fun a _ => b + 52 ≤ a ∧ a ≤ b + 54) h (si h (b + 52) 2 (nI (cJ C))) := ch_si (by omega)
  have hp1 := HP_ch hp c1 (fun a k w => by omega)
  obtain ⟨h2, e2, c2, w2⟩ := settle13 hp1 (by rw [gi_si, if_pos ⟨rfl, rfl⟩])
  have f2 := FX_ch hp1.1.1 c2
  have g2 : gi h2 (b + 52) 2 = nI (cJ C) := by rw [c2.gi (by omega), gi_si, if_pos ⟨rfl, rfl⟩]
  rw [e2, Option.bind_some, gI_n (fx_sk f2), g2, Option.bind_some, fx_s1 f2, Option.bind_some, shl1 _ (by omega), nI_m1 (by omega), asI_n (fx_k54 f2) (by omega) (by omega), Option.bind_some]
  have c3 : ch (W54 b) h2 (si h2 (b + 54) (2 ^ cJ C - 1) 0) := ch_si rfl
  have sw3 : SW (si h2 (b + 54) (2 ^ cJ C - 1) 0) b (cJ C) (wth C L n) := SW_ch ⟨f2, g2, w2⟩ c3
  obtain ⟨h4, e4, c4, s4⟩ := settle80 hn (wth_le C L n) sw3 (fun t h1 h2 => by
    have : t = 2 ^ cJ C - 1 := by omega
    subst this
    rw [gi_si, if_pos ⟨rfl, rfl⟩, bst_full hn]; rfl)
  rw [e4, Option.bind_some]
  exact ⟨h4, rfl, c1.tr ((c2.mo fun a k w => by omega).tr ((c3.mo fun a k w => by unfold W54 at w; omega).tr (c4.mo fun a k w => by unfold W54 at w; omega))), SW_ch sw3 c4, s4⟩
/-! the seats in their order -/
theorem gr_in {n : Nat} (hn : n < 7) (W : Nat → Nat → Nat) : gr n W n 0 ∈ pm n n 0 := by
  have h1 := (pm_best hn W n 0 (Nat.two_pow_pos n) (by rw [show pc 0 = 0 by decide]; omega)).1
  obtain ⟨l1, l2, e, _⟩ := h1
  rw [e]; simp
theorem gr_lt {n : Nat} (hn : n < 7) (W : Nat → Nat → Nat) {i : Nat} (hi : i < n) : gp (gr n W n 0) i < n := by
  have h1 := (pm_ok n hn _ (gr_in hn W)).2
  have hl := gr_len n W n 0
  unfold gp
  rw [List.getD_eq_getElem?_getD, List.getElem?_eq_getElem (by omega), Option.getD_some]
  exact h1 _ (List.getElem_mem _)
/-- the seats that the first j JUDGES took -/
def tk (n : Nat) (W : Nat → Nat → Nat) : Nat → Nat
  | 0 => 0
  | j + 1 => tk n W j ||| 2 ^ ls n W (n - 1 - j) (tk n W j)
theorem gr_tk (n : Nat) (W : Nat → Nat → Nat) : ∀ j, j ≤ n → ∀ i, i < n - j → gp (gr n W n 0) (j + i) = gp (gr n W (n - j) (tk n W j)) i := by
  intro j
  induction j with
  | zero => intro _ i _; rw [Nat.zero_add]; rfl
  | succ j ih =>
    intro hj i hi
    have h1 := ih (by omega) (i + 1) (by omega)
    rw [show j + 1 + i = j + (i + 1) by omega, h1, show n - j = (n - 1 - j) + 1 by omega, gr]
    show gp (_ :: gr n W (n - 1 - j) (tk n W (j + 1))) (i + 1) = _
    rw [show n - (j + 1) = n - 1 - j by omega]
    rfl
theorem gr_ls {n : Nat} (W : Nat → Nat → Nat) {j : Nat} (hj : j < n) : gp (gr n W n 0) j = ls n W (n - 1 - j) (tk n W j) := by
  have h1 := gr_tk n W j (by omega) 0 (by omega)
  rw [Nat.add_zero] at h1
  rw [h1, show n - j = (n - 1 - j) + 1 by omega, gr]
  rfl
theorem ls_free {n : Nat} {W : Nat → Nat → Nat} {f t : Nat} (h : ls n W f t < n) (hn : n < 1000) : t.testBit (ls n W f t) = false := by
  unfold ls at h ⊢
  rcases fst1_spec (fun s => !t.testBit s && decide ((W (n - (f + 1)) s : Int) + bs n W f (t ||| 2 ^ s) = bs n W (f + 1) t)) n 0 with ⟨i, _, _, h3, _, h5⟩ | ⟨_, h2⟩
  · rw [h5]
    simp at h3
    exact h3.1
  · rw [h2] at h; omega
theorem tk_ok {n : Nat} (hn : n < 7) (W : Nat → Nat → Nat) : ∀ j, j ≤ n → tk n W j < 2 ^ n ∧ pc (tk n W j) = j := by
  intro j
  induction j with
  | zero => intro _; exact ⟨Nat.two_pow_pos n, by show pc 0 = 0; decide⟩
  | succ j ih =>
    intro hj
    obtain ⟨h1, h2⟩ := ih (by omega)
    have h3 : ls n W (n - 1 - j) (tk n W j) < n := by rw [← gr_ls W (by omega)]; exact gr_lt hn W (by omega)
    have h4 := ls_free h3 (by omega)
    have h6 := pow7 hn
    have h5 := (pc_or _ (by omega) _ (by omega) h4).1
    exact ⟨or_lt7 h1 h3, by show pc (_ ||| _) = _; rw [h5, h2]⟩
theorem leastSeat_ok {h : HA} {b n : Nat} (hn : n < 7) {W : Nat → Nat → Nat} (hW : ∀ j s, W j s ≤ 16) (hs : SW h b n W) (hb : SB h b n W 0) {t : Nat} (ht : t < 2 ^ n) (hp : pc t < n) (hl : ls n W (n - 1 - pc t) t < n) :
    X4_leastSeat h (b + 52) (nI t) = some (nI (ls n W (n - 1 - pc t) t)) := by
  have h6 := pow7 hn
  have hf := hs.1
  have hbr := bst_rg hn hW ht
  have q : ∀ k, k < n → ((!t.testBit k && decide ((W (n - (n - 1 - pc t + 1)) k : Int) + bs n W (n - 1 - pc t) (t ||| 2 ^ k) = bs n W (n - 1 - pc t + 1) t)) = (!t.testBit k && decide (bw n W t k = bst7 n W t))) := by
    intro k hk
    cases hb1 : t.testBit k with
    | true => rfl
    | false =>
      have e := (pc_or t (by omega) k (by omega) hb1).1
      rw [Bool.not_false, Bool.true_and, Bool.true_and]
      apply decide_eq_decide.mpr
      unfold bw bst7
      rw [e, show n - (n - 1 - pc t + 1) = pc t by omega, show n - (pc t + 1) = n - 1 - pc t by omega, show n - 1 - pc t + 1 = n - pc t by omega]
  have el : ls n W (n - 1 - pc t) t = fst1 (fun k => !t.testBit k && decide (bw n W t k = bst7 n W t)) n 0 := by
    unfold ls
    exact fst1_cong (fun i _ hi => q i (by omega))
  rw [el] at hl ⊢
  unfold X4_leastSeat
  rw [if_pos (fx_st hf)]
  have step : ∀ k fu, k < n → X4_leastSeat_L2 h (b + 52) (nI t) (fu + 1) (nI k) = if (!t.testBit k && decide (bw n W t k = bst7 n W t)) = true then some (nI k) else X4_leastSeat_L2 h (b + 52) (nI t) fu (nI (k + 1)) := by
    intro k fu hk
    rw [X4_leastSeat_L2, gI_n (fx_sk hf), hs.2.1, Option.bind_some, if_pos (lt_lit hk (by omega)), has_w (by omega) (by omega), Option.bind_some, nI_p1]
    cases hb1 : t.testBit k with
    | true => rfl
    | false =>
      have hor := bst_rg hn hW (or_lt7 ht hk)
      have hw16 := hW (pc t) k
      rw [if_pos (by decide), worthWith_c hn hs hb ht hp hk (Nat.zero_le _), Option.bind_some, fx_s1 hf, Option.bind_some, ldI_n (fx_k54 hf) (by omega) (by omega), hb t (Nat.zero_le _) ht, Option.bind_some, Bool.not_false, Bool.true_and]
      by_cases e : bw n W t k = bst7 n W t
      · rw [if_pos (by rw [e]), if_pos (by simpa using e)]
      · rw [if_neg, if_neg (by simpa using e)]
        intro z
        apply e
        exact (iz_eq (by unfold bw; omega) (by unfold bw; omega) (by omega) (by omega)).mp z
  generalize hq : (fun k => !t.testBit k && decide (bw n W t k = bst7 n W t)) = qq at hl ⊢
  have step' : ∀ k fu, k < n → X4_leastSeat_L2 h (b + 52) (nI t) (fu + 1) (nI k) = if qq k = true then some (nI k) else X4_leastSeat_L2 h (b + 52) (nI t) fu (nI (k + 1)) := by
    intro k fu hk; rw [← hq]; exact step k fu hk
  have walk : ∀ m k fu, k + m = n → m < fu → fst1 qq m k < n → X4_leastSeat_L2 h (b + 52) (nI t) fu (nI k) = some (nI (fst1 qq m k)) := by
    intro m
    induction m with
    | zero => intro k fu _ _ hl2; exact absurd hl2 (by show ¬ 1000 < n; omega)
    | succ m ih =>
      intro k fu hk hf hl2
      obtain ⟨g, rfl⟩ : ∃ g, fu = g + 1 := ⟨fu - 1, by omega⟩
      rw [step' k g (by omega)]
      rw [fst1] at hl2 ⊢
      by_cases e : qq k = true
      · rw [if_pos e, if_pos e]
      · rw [if_neg e] at hl2 ⊢
        rw [if_neg e]
        exact ih (k + 1) g (by omega) (by omega) hl2
  exact walk n 0 FU (by omega) (FU_gt (by omega)) hl
theorem seatOf_ok {h : HA} {b n : Nat} (hn : n < 7) {W : Nat → Nat → Nat} (hW : ∀ j s, W j s ≤ 16) (hs : SW h b n W) (hb : SB h b n W 0) {j : Nat} (hj : j < n) :
    X4_seatOf h (b + 52) (nI j) = some (nI (gp (gr n W n 0) j)) := by
  have h6 := pow7 hn
  unfold X4_seatOf
  rw [if_pos (fx_st hs.1)]
  have hl := loop_st (fun fu k (z : Int32 × Int32) => X4_seatOf_L7 h (b + 52) (nI j) fu z.1 z.2 (nI k)) (fun k => (nI (tk n W k), if k = 0 then -1 else nI (gp (gr n W n 0) (k - 1)))) (some (nI (gp (gr n W n 0) j))) (j + 1) (fun k fu hk => by
    try simp only []
    obtain ⟨t1, t2⟩ := tk_ok hn W k (by omega)
    have t3 : gp (gr n W n 0) k < n := gr_lt hn W (by omega)
    have t4 := gr_ls W (show k < n by omega)
    have t5 : ls n W (n - 1 - pc (tk n W k)) (tk n W k) = gp (gr n W n 0) k := by rw [t2, t4]
    rw [X4_seatOf_L7, if_neg (nlt_lit (by omega) (by omega)), leastSeat_ok hn hW hs hb t1 (by omega) (by rw [t5]; exact t3), Option.bind_some, t5, shl1 _ (by omega), nI_or, nI_p1, if_neg (show ¬ k + 1 = 0 by omega), Nat.add_sub_cancel, t4]
    rfl)
    (fun fu => by (try simp only []); rw [X4_seatOf_L7, if_pos (lt_lit (by omega) (by omega)), if_neg (show ¬ j + 1 = 0 by omega), Nat.add_sub_cancel]) FU (FU_gt (by omega))
  rw [show X4_seatOf_L7 h (b + 52) (nI j) FU 0 (-1) 0 = _ from hl, Option.bind_some]
def qseats (D : DT) (x y j : Int32) : Int32 := if (rg x (dN D 0) && rg y (dN D 1)) = true then (let C := dC D (tn x); let L := dR D 1 (tn y); let W := wth C L (stD D x y);
  if j = -1 then iz (bst7 (cJ C) W 0) else if rg j (cJ C) = true then nI (gp (gr (cJ C) W (cJ C) 0) (tn j)) else -1) else -1
theorem c_seats {h : HA} {b : Nat} {D : DT} {α : Nat → Nat} {lm : Nat → Nat → Nat} {im : Nat → Option (Nat × DT)} (hi : IV h b D α lm im) (x y j : Int32) : AC b D α lm im (X7_seats h b x y j) (qseats D x y j) := by
  unfold X7_seats qseats
  rw [if_pos (fx_c hi.1)]
  rcases hallOf_ok hi x y with ⟨h1, h2, e2, i2⟩ | ⟨a, t, h2, ha, ht, rfl, rfl, hr, e2, i2, hp⟩
  · rw [e2, h1]; exact ⟨h2, rfl, i2⟩
  · have h6 := hb_6 hp.1
    have hn : cJ (dC D a) < 7 := by omega
    rw [e2, hr, Option.bind_some, if_pos rfl, est (iv_w hi) ha ht, tnE (iv_w hi) (by omega) ha, tnE (iv_w hi) (by omega) ht]
    dsimp only
    obtain ⟨h3, e3, c3, w3, b3⟩ := settle_ok hp
    have i3 := IV_ch i2 c3 (fun x k w => by unfold Sc; left; omega)
    by_cases hj1 : j = -1
    · rw [if_pos hj1, if_pos hj1, Option.bind_some]
      dsimp only
      rw [fx_seat i2.1, Option.bind_some, e3, Option.bind_some, if_pos hj1, fx_seat i3.1, Option.bind_some, fx_s1 i3.1, Option.bind_some, show (0 : Int32) = nI 0 from rfl, ldI_n (fx_k54 i3.1) (by omega) (by omega), b3 0 (Nat.le_refl _) (Nat.two_pow_pos _), Option.bind_some]
      exact ⟨h3, rfl, i3⟩
    · rw [if_neg hj1, if_neg hj1, hb_c hp.1, Option.bind_some, hasJudge_c (hb_cc hp.1), Option.bind_some]
      cases hj : rg j (cJ (dC D a)) with
      | false => exact ⟨h2, rfl, i2⟩
      | true =>
        obtain ⟨q, hq, rfl⟩ := (rg_iff (by omega)).mp hj
        rw [if_neg (by decide), if_pos rfl, Option.bind_some, tn_nI (show q < 2 ^ 31 by omega)]
        dsimp only
        rw [fx_seat i2.1, Option.bind_some, e3, Option.bind_some, if_neg hj1, fx_seat i3.1, Option.bind_some, seatOf_ok hn (wth_le _ _ _) w3 b3 hq, Option.bind_some]
        exact ⟨h3, rfl, i3⟩
