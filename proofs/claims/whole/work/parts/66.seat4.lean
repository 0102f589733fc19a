/-! SEATS: the model, the best of all rows -/
def W29 (m : Nat) : Nat → Nat → Prop := fun a _ => m + 27 ≤ a ∧ a ≤ m + 29
def WM (h : HA) (m n : Nat) (W : Nat → Nat → Nat) : Prop := MS h m ∧ gi h m 28 = nI n ∧ ∀ j s, j < n → s < n → gi h (m + 27) (6 * j + s) = nI (W j s)
theorem WM_ch {V : Nat → Nat → Prop} {h h1 : HA} {m n : Nat} {W : Nat → Nat → Nat} (w : WM h m n W) (p : ch V h h1) (hv : ∀ a k, V a k → m + 28 ≤ a) : WM h1 m n W := by
  refine ⟨p.ms w.1, ?_, fun j s h2 h3 => ?_⟩
  · rw [p.gi (fun z => by have := hv _ _ z; omega)]; exact w.2.1
  · rw [p.gi (fun z => by have := hv _ _ z; omega)]; exact w.2.2 j s h2 h3
def vsm7 (W : Nat → Nat → Nat) (p : List Nat) : Nat → Nat
  | 0 => 0
  | k + 1 => vsm7 W p k + W k (gp p k)
theorem vsm7_le {W : Nat → Nat → Nat} (hW : ∀ j s, W j s ≤ 16) (p : List Nat) : ∀ k, vsm7 W p k ≤ 16 * k := by
  intro k
  induction k with
  | zero => exact Nat.le_refl _
  | succ k ih => have := hW k (gp p k); rw [vsm7]; omega
theorem val_vsm7 (W : Nat → Nat → Nat) : ∀ (l : List Nat) (j : Nat) (p : List Nat), (∀ i, i < l.length → gp p (j + i) = gp l i) → vsm7 W p (j + l.length) = vsm7 W p j + val W j l := by
  intro l
  induction l with
  | nil => intro j p _; rfl
  | cons s l ih =>
    intro j p h
    have h1 := ih (j + 1) p (fun i hi => by have := h (i + 1) (by simp; omega); rw [show j + 1 + i = j + (i + 1) by omega, this]; rfl)
    have h0 := h 0 (by simp)
    rw [Nat.add_zero] at h0
    rw [show j + (s :: l).length = j + 1 + l.length by simp; omega, h1, vsm7, h0]
    show vsm7 W p j + W j s + val W (j + 1) l = vsm7 W p j + (W j s + val W (j + 1) l)
    omega
theorem val_sum (W : Nat → Nat → Nat) (p : List Nat) : vsm7 W p p.length = val W 0 p := by
  have := val_vsm7 W p 0 p (fun i _ => by rw [Nat.zero_add])
  rw [Nat.zero_add] at this
  rw [this, vsm7, Nat.zero_add]
theorem find82 {h : HA} {m n : Nat} {W : Nat → Nat → Nat} {p : List Nat} (hn : n < 7) (w : WM h m n W) (hs : SR h m n p) (hp : ∀ i, i < n → gp p i < n) : X8_findSeats_L82 h m FU 0 0 = some (nI (val W 0 p)) := by
  have e : val W 0 p = vsm7 W p n := by rw [← val_sum, hs.1]
  rw [e]
  exact loop_st (fun fu k (z : Int32) => X8_findSeats_L82 h m fu z (nI k)) (fun k => nI (vsm7 W p k)) (some (nI (vsm7 W p n))) n (fun k fu hk => by
    try simp only []
    have h1 := hp k hk
    rw [X8_findSeats_L82, ms_I w.1, w.2.1, Option.bind_some, if_pos (lt_lit hk (by omega)), ms_r49 w.1, Option.bind_some, ms_r50 w.1, Option.bind_some, ldI_n (ms_k50 w.1) (by omega) (by omega), hs.2.2 k hk, Option.bind_some, show (6 : Int32) = nI 6 from rfl, nI_mul, nI_add, ldI_n (ms_k49 w.1) (by omega) (by omega), w.2.2 k _ hk h1, Option.bind_some, nI_add, nI_p1]; rfl)
    (fun fu => by (try simp only []); rw [X8_findSeats_L82, ms_I w.1, w.2.1, Option.bind_some, if_neg (nlt_lit (Nat.le_refl _) (by omega))]) FU (FU_gt (by omega))
theorem find121 {h : HA} {m n : Nat} {W : Nat → Nat → Nat} {p : List Nat} {u v : Int32} (hn : n < 7) (w : WM h m n W) (hs : SR h m n p) :
    ∃ h1, X8_findSeats_L121 m u v FU h 0 = some h1 ∧ ch (fun a _ => a = m + 29) h h1 ∧ ∀ i, i < n → gi h1 (m + 29) i = if u < v then nI (gp p i) else gi h (m + 29) i := by
  by_cases huv : u < v
  · refine loop_inv (fun fu k (h : HA) => X8_findSeats_L121 m u v fu h (nI k)) (fun k h1 => ch (fun a _ => a = m + 29) h h1 ∧ ∀ i, i < k → gi h1 (m + 29) i = if u < v then nI (gp p i) else gi h (m + 29) i)
      (fun h1 => ch (fun a _ => a = m + 29) h h1 ∧ ∀ i, i < n → gi h1 (m + 29) i = if u < v then nI (gp p i) else gi h (m + 29) i) n (fun k h1 fu hk hI => ?_) (fun h1 fu hI => ?_) h FU ⟨ch_rf _ _, fun s hs => by omega⟩ (FU_gt (by omega))
    · obtain ⟨c1, g1⟩ := hI
      have m1 := c1.ms w.1
      have g28 : gi h1 m 28 = nI n := by rw [c1.gi (by omega)]; exact w.2.1
      have g50 : gi h1 (m + 28) k = nI (gp p k) := by rw [c1.gi (by omega)]; exact hs.2.2 k hk
      refine ⟨si h1 (m + 29) k (nI (gp p k)), ?_, c1.tr (ch_si rfl), fun i hi => ?_⟩
      · show X8_findSeats_L121 m u v (fu + 1) h1 (nI k) = _
        rw [X8_findSeats_L121, ms_I m1, g28, Option.bind_some, if_pos (lt_lit hk (by omega)), if_pos huv, ms_r51 m1, Option.bind_some, ms_r50 m1, Option.bind_some, ldI_n (ms_k50 m1) (by omega) (by omega), g50, Option.bind_some, asI_n (ms_k51 m1) (by omega) (by omega), Option.bind_some, nI_p1]
      · rw [gi_si]
        by_cases e : i = k
        · subst e; rw [if_pos ⟨rfl, rfl⟩, if_pos huv]
        · rw [if_neg (by omega)]; exact g1 i (by omega)
    · have m1 := hI.1.ms w.1
      have g28 : gi h1 m 28 = nI n := by rw [hI.1.gi (by omega)]; exact w.2.1
      refine ⟨h1, ?_, hI⟩
      show X8_findSeats_L121 m u v (fu + 1) h1 (nI n) = _
      rw [X8_findSeats_L121, ms_I m1, g28, Option.bind_some, if_neg (nlt_lit (Nat.le_refl _) (by omega))]
  · refine ⟨h, ?_, ch_rf _ _, fun i hi => by rw [if_neg huv]⟩
    show X8_findSeats_L121 m u v (19999 + 1) h 0 = _
    rw [X8_findSeats_L121, ms_I w.1, w.2.1, Option.bind_some]
    by_cases h0 : (0 : Int32) < nI n
    · rw [if_pos h0, if_neg huv]
    · rw [if_neg h0]
def RB (h : HA) (m n : Nat) (z : Int × List Nat) : Prop := z.1 = -1 ∨ ∀ i, i < n → gi h (m + 29) i = nI (gp z.2 i)
theorem find73 {m n : Nat} {W : Nat → Nat → Nat} (hW : ∀ j s, W j s ≤ 16) (hn : n < 7) : ∀ f (l : List (List Nat)) (h : HA) (p : List Nat) (z : Int × List Nat) fu, WM h m n W → SR h m n p → wlk n f p = some l → (∀ q, q ∈ l → q.length = n ∧ ∀ x, x ∈ q → x < n) → -1 ≤ z.1 → z.1 ≤ 96 → RB h m n z → f < fu →
    ∃ h1, X8_findSeats_L73 m fu h (iz z.1) 1 = some (iz (l.foldl (fun (z : Int × List Nat) q => if z.1 < (val W 0 q : Int) then ((val W 0 q : Int), q) else z) z).1, h1) ∧ ch (W29 m) h h1 ∧ RB h1 m n (l.foldl (fun (z : Int × List Nat) q => if z.1 < (val W 0 q : Int) then ((val W 0 q : Int), q) else z) z) := by
  intro f
  induction f with
  | zero => intro l h p z fu _ _ hw; exact absurd hw (by simp [wlk])
  | succ f ih =>
    intro l h p z fu w hs hw hl z1 z2 rb hf
    obtain ⟨g, rfl⟩ : ∃ g, fu = g + 1 := ⟨fu - 1, by omega⟩
    have hpl : p ∈ l := by
      rw [wlk] at hw
      cases e : nxt n p with
      | none => rw [e] at hw; rw [← Option.some.inj hw]; exact List.mem_cons_self
      | some q =>
        rw [e] at hw
        obtain ⟨l2, _, h3⟩ := Option.map_eq_some_iff.mp hw
        rw [← h3]; exact List.mem_cons_self
    have hp : ∀ i, i < n → gp p i < n := fun i hi => by
      have := hl p hpl
      unfold gp
      rw [List.getD_eq_getElem?_getD, List.getElem?_eq_getElem (by omega), Option.getD_some]
      exact this.2 _ (List.getElem_mem _)
    have hv : val W 0 p ≤ 96 := by have := val_le hW p 0; rw [hs.1] at this; omega
    rw [X8_findSeats_L73, if_neg (by decide), find82 hn w hs hp, Option.bind_some]
    obtain ⟨h2, e2, c2, g2⟩ := find121 (u := iz z.1) (v := nI (val W 0 p)) hn w hs
    have w2 := WM_ch w c2 (fun a k q => by omega)
    have s2 : SR h2 m n p := ⟨hs.1, hs.2.1, fun i hi => by rw [c2.gi (by omega)]; exact hs.2.2 i hi⟩
    obtain ⟨h3, e3, c3, n3⟩ := next_n w2.1 w2.2.1 hn s2
    have w3 := WM_ch w2 c3 (fun a k q => by unfold W28 at q; omega)
    have ef : (iz z.1 < nI (val W 0 p)) ↔ z.1 < (val W 0 p : Int) := by rw [← iz_nat]; exact iz_lt (by omega) (by omega) (by omega) (by omega)
    have eg : (if iz z.1 < nI (val W 0 p) then nI (val W 0 p) else iz z.1) = iz (if z.1 < (val W 0 p : Int) then ((val W 0 p : Int), p) else z).1 := by
      by_cases e : z.1 < (val W 0 p : Int)
      · rw [if_pos (ef.mpr e), if_pos e]; rfl
      · rw [if_neg (fun q => e (ef.mp q)), if_neg e]
    have rb2 : RB h3 m n (if z.1 < (val W 0 p : Int) then ((val W 0 p : Int), p) else z) := by
      by_cases e : z.1 < (val W 0 p : Int)
      · rw [if_pos e]
        right
        intro i hi
        rw [c3.gi (by unfold W28; omega), g2 i hi, if_pos (ef.mpr e)]
      · rw [if_neg e]
        rcases rb with r | r
        · exact Or.inl r
        · right
          intro i hi
          rw [c3.gi (by unfold W28; omega), g2 i hi, if_neg (fun q => e (ef.mp q))]
          exact r i hi
    have zz : -1 ≤ (if z.1 < (val W 0 p : Int) then ((val W 0 p : Int), p) else z).1 ∧ (if z.1 < (val W 0 p : Int) then ((val W 0 p : Int), p) else z).1 ≤ 96 := by
      split
      · show -1 ≤ (val W 0 p : Int) ∧ (val W 0 p : Int) ≤ 96; omega
      · exact ⟨z1, z2⟩
    have c23 : ch (W29 m) h h3 := (c2.mo fun a k q => by unfold W29; omega).tr (c3.mo fun a k q => by unfold W28 at q; unfold W29; omega)
    rw [e2, Option.bind_some, greater_n, Option.bind_some, e3, Option.bind_some]
    dsimp only
    rw [eg]
    rw [wlk] at hw
    cases e : nxt n p with
    | none =>
      rw [e] at hw
      have : [p] = l := Option.some.inj hw
      subst this
      obtain ⟨g2, rfl⟩ : ∃ g2, g = g2 + 1 := ⟨g - 1, by omega⟩
      refine ⟨h3, ?_, c23, rb2⟩
      rw [X8_findSeats_L73]
      rfl
    | some q =>
      rw [e] at hw
      obtain ⟨l2, h4, h5⟩ := Option.map_eq_some_iff.mp hw
      subst h5
      obtain ⟨h6, e6, c6, r6⟩ := ih l2 h3 q _ g w3 (n3 q e) h4 (fun r hr => hl r (List.mem_cons_of_mem _ hr)) zz.1 zz.2 rb2 (by omega)
      exact ⟨h6, e6, c23.tr c6, r6⟩
theorem gp_range {n i : Nat} (hi : i < n) : gp (List.range n) i = i := by
  unfold gp
  rw [List.getD_eq_getElem?_getD, List.getElem?_eq_getElem (by simpa using hi), Option.getD_some]
  simp
theorem findSeats_n {h : HA} {m c t : Nat} {C L : CR} {n : Nat} (mp : MP h m c t C L (fun _ => 0) n) :
    ∃ h1, X8_findSeats h m = some (iz (bst7 (cJ C) (wth C L n) 0), h1) ∧ ch (W29 m) h h1 ∧ ∀ i, i < cJ C → gi h1 (m + 29) i = nI (gp (gr (cJ C) (wth C L n) (cJ C) 0) i) := by
  have h6 := mp.2.1.1.2.2.1.1
  have hs := mp.1.1
  have hL := mp_L mp
  have hw := mp.2.1
  have hJ : ∀ (h1 : HA), ch (W29 m) h h1 → MP h1 m c t C L (fun _ => 0) n := fun h1 p => MP_ch mp p (fun a k q => by unfold W29 at q; omega)
  unfold X8_findSeats
  rw [if_pos (ms_c hs.1)]
  obtain ⟨h1, e1, c1, g1, g2⟩ := loop_inv (fun fu k (h : HA) => X8_findSeats_L2 m fu h (nI k)) (fun k h1 => ch (W29 m) h h1 ∧ (∀ i, i < k → gi h1 (m + 28) i = nI i) ∧ ∀ j s, j < k → s < cJ C → gi h1 (m + 27) (6 * j + s) = nI (wth C L n j s))
    (fun h1 => ch (W29 m) h h1 ∧ (∀ i, i < cJ C → gi h1 (m + 28) i = nI i) ∧ ∀ j s, j < cJ C → s < cJ C → gi h1 (m + 27) (6 * j + s) = nI (wth C L n j s)) (cJ C) (by
      intro k h1 fu hk hI
      obtain ⟨c1, g1, g2⟩ := hI
      have mp1 := hJ h1 c1
      have hs1 := mp1.1.1
      have c2 : ch (W29 m) h1 (si h1 (m + 28) k (nI k)) := ch_si (by unfold W29; omega)
      have mp2 := hJ _ (c1.tr c2)
      obtain ⟨h3, e3, c3, g3⟩ := loop_inv (fun fu s (h : HA) => X8_findSeats_L19 m (nI k) fu h (nI s)) (fun s h3 => ch (fun a i => a = m + 27 ∧ 6 * k ≤ i) (si h1 (m + 28) k (nI k)) h3 ∧ ∀ i, i < s → gi h3 (m + 27) (6 * k + i) = nI (wth C L n k i))
        (fun h3 => ch (fun a i => a = m + 27 ∧ 6 * k ≤ i) (si h1 (m + 28) k (nI k)) h3 ∧ ∀ i, i < cJ C → gi h3 (m + 27) (6 * k + i) = nI (wth C L n k i)) (cJ C) (by
          intro s h3 fu hs3 hI
          obtain ⟨c3, g3⟩ := hI
          have mp3 := hJ h3 (c1.tr (c2.tr (c3.mo fun a i q => by unfold W29; omega)))
          have m3 := mp3.1.1.1
          refine ⟨si h3 (m + 27) (6 * k + s) (nI (wth C L n k s)), ?_, c3.tr (ch_si ⟨rfl, by omega⟩), fun i hi => ?_⟩
          · show X8_findSeats_L19 m (nI k) (fu + 1) h3 (nI s) = _
            rw [X8_findSeats_L19, ms_I m3, mp3.1.1.2.2.2.2.2.2.2.1, Option.bind_some, if_pos (lt_lit hs3 (by omega)), ms_r49 m3, Option.bind_some, earsOf_n mp3.1.1 hw.2.1 hk, Option.bind_some, jo3 mp3.1.1 hw.2.1 hk, Option.bind_some, knownIn_n mp3 hs3 (eW_lt C k) (hw.2.1 k hk).2.2.2.2.1, Option.bind_some, ones_n _ (kwd_lt hL mp.2.2.2.2.1), Option.bind_some, show (6 : Int32) = nI 6 from rfl, nI_mul, nI_add, asI_n (ms_k49 m3) (by omega) (by omega), Option.bind_some, nI_p1]; rfl
          · rw [gi_si]
            by_cases e : i = s
            · subst e; rw [if_pos ⟨rfl, rfl⟩]
            · rw [if_neg (by omega)]; exact g3 i (by omega)) (by
          intro h3 fu hI
          have mp3 := hJ h3 (c1.tr (c2.tr (hI.1.mo fun a i q => by unfold W29; omega)))
          refine ⟨h3, ?_, hI⟩
          show X8_findSeats_L19 m (nI k) (fu + 1) h3 (nI (cJ C)) = _
          rw [X8_findSeats_L19, ms_I mp3.1.1.1, mp3.1.1.2.2.2.2.2.2.2.1, Option.bind_some, if_neg (nlt_lit (Nat.le_refl _) (by omega))]) _ FU ⟨ch_rf _ _, fun s hs => by omega⟩ (FU_gt (by omega))
      have c3' : ch (W29 m) (si h1 (m + 28) k (nI k)) h3 := c3.mo fun a i q => by unfold W29; omega
      refine ⟨h3, ?_, c1.tr (c2.tr c3'), fun i hi => ?_, fun j s hj hs => ?_⟩
      · show X8_findSeats_L2 m (fu + 1) h1 (nI k) = _
        rw [X8_findSeats_L2, ms_I hs1.1, hs1.2.2.2.2.2.2.2.1, Option.bind_some, if_pos (lt_lit hk (by omega)), ms_r50 hs1.1, Option.bind_some, asI_n (ms_k50 hs1.1) (by omega) (by omega), Option.bind_some, show X8_findSeats_L19 m (nI k) FU _ 0 = _ from e3, Option.bind_some, nI_p1]
      · rw [c3.gi (by omega), gi_si]
        by_cases e : i = k
        · subst e; rw [if_pos ⟨rfl, rfl⟩]
        · rw [if_neg (by omega)]; exact g1 i (by omega)
      · by_cases e : j = k
        · subst e; exact g3 s hs
        · rw [c3.gi (by omega), gi_si, if_neg (by omega)]; exact g2 j s (by omega) hs) (by
      intro h1 fu hI
      have mp1 := hJ h1 hI.1
      refine ⟨h1, ?_, hI⟩
      show X8_findSeats_L2 m (fu + 1) h1 (nI (cJ C)) = _
      rw [X8_findSeats_L2, ms_I mp1.1.1.1, mp1.1.1.2.2.2.2.2.2.2.1, Option.bind_some, if_neg (nlt_lit (Nat.le_refl _) (by omega))]) h FU ⟨ch_rf _ _, fun i hi => by omega, fun j s hj => by omega⟩ (FU_gt (by omega))
  have mp1 := hJ h1 c1
  have hn : cJ C < 7 := by omega
  obtain ⟨n', hn'⟩ : ∃ n', n' = cJ C := ⟨_, rfl⟩
  rw [← hn'] at g1 g2 hn h6 ⊢
  have w1 : WM h1 m n' (wth C L n) := ⟨mp1.1.1.1, by rw [hn']; exact mp1.1.1.2.2.2.2.2.2.2.1, g2⟩
  have s1 : SR h1 m n' (List.range n') := ⟨List.length_range, fun i hi => by rw [gp_range hi]; omega, fun i hi => by rw [gp_range hi]; exact g1 i hi⟩
  obtain ⟨h2, e2, c2, r2⟩ := find73 (wth_le C L n) hn 721 _ h1 _ (-1, []) FU w1 s1 (wlk_pm n' hn) (fun q hq => pm_ok n' hn q hq) (by decide) (by decide) (Or.inl rfl) (FU_gt (by omega))
  have hb := pm_best hn (wth C L n) n' 0 (Nat.two_pow_pos _) (by rw [show pc 0 = 0 by decide]; omega)
  rw [Nat.sub_self] at hb
  rw [FM_fold hb.1] at e2 r2
  refine ⟨h2, ?_, c1.tr c2, ?_⟩
  · rw [show X8_findSeats_L2 m FU h 0 = _ from e1, Option.bind_some, show X8_findSeats_L73 m FU h1 (-1) 1 = _ from e2, Option.bind_some]
    dsimp only
    rw [hb.2]
    unfold bst7
    rw [show pc 0 = 0 by decide, Nat.sub_zero]
  · rcases r2 with r | r
    · exact absurd r (by show ¬ (val _ 0 _ : Int) = -1; omega)
    · exact r
theorem m_seats {h : HA} {b : Nat} {D : DT} {α : Nat → Nat} {lm : Nat → Nat → Nat} {im : Nat → Option (Nat × DT)} (hi : IV h b D α lm im) (x y j : Int32) : AC b D α lm im (X8_seats h (b + 55) x y j) (qseats D x y j) := by
  unfold X8_seats qseats
  rw [if_pos (ms_c (iv_ms hi)), ms_p (iv_ms hi), Option.bind_some]
  have hi0 := IV_m0 hi 0 0
  rcases layTrial_ok hi0 x y with ⟨h1, h2, e2, i2⟩ | ⟨a, t, h2, ha, ht, rfl, rfl, hr, e2, i2, mp⟩
  · rw [e2, h1]; exact ⟨h2, rfl, i2⟩
  · have hs := mp.1.1
    have h6 := hs.2.1.2.2.1.1
    rw [e2, hr, Option.bind_some, if_pos rfl, est (iv_w hi) ha ht, tnE (iv_w hi) (by omega) ha, tnE (iv_w hi) (by omega) ht]
    dsimp only
    rw [if_neg (by decide), ms_I hs.1, hs.2.2.2.2.2.2.2.1, Option.bind_some, in_m1 j (by omega), Option.bind_some]
    obtain ⟨h3, e3, c3, g3⟩ := findSeats_n mp
    have i3 := IV_ch i2 c3 (fun x k w => Sc_m (by unfold W29 at w; omega))
    by_cases hj1 : j = -1
    · rw [if_neg (by simp [hj1, bI]), if_pos hj1, e3, Option.bind_some]
      dsimp only
      rw [if_pos hj1]
      exact ⟨h3, rfl, i3⟩
    · rw [if_neg hj1]
      simp only [hj1, decide_false, Bool.false_or]
      cases hj : rg j (cJ (dC D a)) with
      | false => exact ⟨h2, rfl, i2⟩
      | true =>
        obtain ⟨q, hq, rfl⟩ := (rg_iff (by omega)).mp hj
        rw [if_neg (by decide), if_pos rfl, tn_nI (show q < 2 ^ 31 by omega), e3, Option.bind_some]
        dsimp only
        rw [if_neg (show ¬ False from id), ms_r51 (iv_ms i3), Option.bind_some, ldI_n (ms_k51 (iv_ms i3)) (by omega) (by omega), g3 q hq, Option.bind_some]
        exact ⟨h3, rfl, i3⟩
