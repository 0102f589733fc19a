/-! ROUND: the class's search and its way -/
theorem wy_ok {C : CR} (hw : WFs C) {l f0 T : Nat} (hf0 : op C f0 = true) (hg : Gb (nxC C l) (goC C) T (256 * f0) = true) : ∀ t, t ≤ T → RE (nxC C l) (256 * f0) t (wy (nxC C l) (goC C) (256 * f0) T t) ∧ Gb (nxC C l) (goC C) (T - t) (wy (nxC C l) (goC C) (256 * f0) T t) = true := by
  intro t
  induction t with
  | zero => intro _; exact ⟨rfl, hg⟩
  | succ t ih =>
    intro ht
    obtain ⟨h1, h2⟩ := ih (by omega)
    rw [show T - t = (T - (t + 1)) + 1 by omega] at h2
    obtain ⟨s', g1, g2, g3⟩ := Gb_to h2
    have e : wy (nxC C l) (goC C) (256 * f0) T (t + 1) = s' := by rw [wy, g2]; rfl
    rw [e]
    exact ⟨⟨_, _, g1, h1, g2⟩, g3⟩
/-- found or not -/
def SQ (h : HA) (w c : Nat) (C : CR) (l f0 : Nat) (r : Int32) : Prop := (r = -1 ∧ RT C l f0 = 1000) ∨ ∃ T, T ≤ 60 ∧ r = nI T ∧ RT C l f0 = T ∧ Gb (nxC C l) (goC C) T (256 * f0) = true ∧ WK h w c C f0 ∧ BD h w C l ∧ ∀ t, t ≤ T → Pr h w C l f0 T t
theorem search50 {w c f0 l : Nat} {C : CR} (hf0 : op C f0 = true) : ∀ d t (h : HA) fu, t + d = 60 → d < fu → WK h w c C f0 → BD h w C l → (∀ u, u ≤ t → Lay h w C l f0 u) → (∀ u, u ≤ t → ∀ s, RE (nxC C l) (256 * f0) u s → goC C s = false) →
    ∃ r h1, X6_search_L50 w fu h (nI t) = some (r, h1) ∧ ch (Wwk w) h h1 ∧ SQ h1 w c C l f0 r := by
  intro d
  induction d with
  | zero =>
    intro t h fu ht hf wk bd ly ng
    obtain ⟨g, rfl⟩ : ∃ g, fu = g + 1 := ⟨fu - 1, by omega⟩
    have e : t = 60 := by omega
    subst e
    rw [X6_search_L50, if_neg (by decide)]
    exact ⟨-1, h, rfl, ch_rf _ _, Or.inl ⟨rfl, RT_none ng⟩⟩
  | succ d ih =>
    intro t h fu ht hf wk bd ly ng
    obtain ⟨g, rfl⟩ : ∃ g, fu = g + 1 := ⟨fu - 1, by omega⟩
    have hw := wk.2.2.2.2.1.1.2.1.1
    obtain ⟨p1, p2⟩ := p2_le hw
    obtain ⟨h1, e1, c1, l1⟩ := spread_ok wk bd hf0 (show t < 60 by omega) (ly t (Nat.le_refl _))
    have c1' : ch (Wwk w) h h1 := c1.mo fun a i q => by unfold Wwk; omega
    have k1 := WK_ch wk c1'
    have bd1 : BD h1 w C l := fun hr e f h2 h3 h4 => by rw [c1.gj (by omega)]; exact bd hr e f h2 h3 h4
    have ly1 : ∀ u, u ≤ t + 1 → Lay h1 w C l f0 u := fun u hu => by
      by_cases e : u = t + 1
      · rw [e]; exact l1
      · intro hd f h2 h3
        rw [c1.gj (by omega)]; exact ly u (by omega) hd f h2 h3
    rw [X6_search_L50, if_pos (show nI t < 60 from lt_lit (n := 60) (by omega) (by omega)), e1, Option.bind_some, wk_0 k1, Option.bind_some, wk_4 k1, Option.bind_some, nI_p1, show (64 : Int32) = nI 64 from rfl, nI_mul, nI_add, Nat.mul_comm (t + 1) 64, ldJ_n (wk_k1 k1) (by omega) (by omega), Option.bind_some]
    have full : ∀ s, RE (nxC C l) (256 * f0) (t + 1) s → goC C s = true → ∃ f, f < 64 ∧ s = sN f (2 ^ cJ C - 1) (t + 1) := by
      intro s hs hg
      obtain ⟨f, hd, rfl, q1, q2⟩ := RE_sN hw hf0 hs
      rw [goC_sN (hd_64 hw q2), decide_eq_true_eq] at hg
      exact ⟨f, op_64 hw q1, by rw [hg]⟩
    by_cases h0 : gj h1 (w + 1) (64 * (t + 1) + (2 ^ cJ C - 1)) = 0
    · rw [if_pos h0]
      obtain ⟨r, h2, e2, c2, r2⟩ := ih (t + 1) h1 g (by omega) (by omega) k1 bd1 ly1 (fun u hu s hs => by
        by_cases e : u = t + 1
        · subst e
          cases hg : goC C s with
          | false => rfl
          | true =>
            obtain ⟨f, f6, rfl⟩ := full s hs hg
            have := (l1 (2 ^ cJ C - 1) f (by omega) f6).mpr hs
            rw [h0, tb_0] at this; exact this.symm
        · exact ng u (by omega) s hs)
      exact ⟨r, h2, e2, c1'.tr c2, r2⟩
    · rw [if_neg h0]
      have hex : ∃ f, f < 64 ∧ tb (gj h1 (w + 1) (64 * (t + 1) + (2 ^ cJ C - 1))) f = true := by
        by_cases c : ∃ f, f < 64 ∧ tb (gj h1 (w + 1) (64 * (t + 1) + (2 ^ cJ C - 1))) f = true
        · exact c
        · exfalso
          apply h0
          rw [tb_eq0]
          intro f hf
          cases hb : tb (gj h1 (w + 1) (64 * (t + 1) + (2 ^ cJ C - 1))) f with
          | false => rfl
          | true => exact absurd ⟨f, hf, hb⟩ c
      obtain ⟨f, f6, hb⟩ := hex
      have hre := (l1 (2 ^ cJ C - 1) f (by omega) f6).mp hb
      have hgo : goC C (sN f (2 ^ cJ C - 1) (t + 1)) = true := by rw [goC_sN (by omega)]; simp
      have hG := RE_Gb (goal := goC C) (t + 1) 0 _ hre hgo
      rw [Nat.add_zero] at hG
      obtain ⟨h2, e2, c2, q2⟩ := prune_ok k1 bd1 hf0 (show t + 1 ≤ 60 by omega) ly1
      have c2' : ch (Wwk w) h1 h2 := c2.mo fun a i q => Or.inl q
      rw [e2, Option.bind_some]
      exact ⟨_, h2, rfl, c1'.tr c2', Or.inr ⟨t + 1, by omega, rfl, RT_some (by omega) hG (fun u hu => ng u (by omega)), hG, WK_ch k1 c2', fun hr e f h3 h4 h5 => by rw [c2.gj (by omega)]; exact bd1 hr e f h3 h4 h5, q2⟩⟩
theorem earsOn_c {h : HA} {w c f0 l f t : Nat} {C : CR} (wk : WK h w c C f0) (bd : BD h w C l) (hf : op C f = true) (ht : t < 1000) : X6_earsOn h w (nI f) (nI t) = some (nI (ea C f (t % 4) l)) := by
  have hw := wk.2.2.2.2.1.1.2.1.1
  obtain ⟨p1, p2⟩ := p2_le hw
  have f6 := op_64 hw hf
  have hlt := ea_lt C f (t % 4) l
  unfold X6_earsOn
  rw [if_pos (wk_t wk)]
  have walk : ∀ d e fu, e + d = ea C f (t % 4) l → d < fu → X6_earsOn_L2 h w (nI f) (nI t) fu (nI e) = some (nI (ea C f (t % 4) l)) := by
    intro d
    induction d with
    | zero =>
      intro e fu he hfu
      obtain ⟨g, rfl⟩ : ∃ g, fu = g + 1 := ⟨fu - 1, by omega⟩
      obtain ⟨B, eB, gB⟩ := band_c (t := t) (e := e) wk bd ht (by omega)
      rw [X6_earsOn_L2, wk_4 wk, Option.bind_some, if_neg (nlt_lit (by omega) (by omega)), eB, Option.bind_some, has_n _ f6, gB f f6, Option.bind_some, hf, show ea C f (t % 4) l = e by omega]
      simp [bI]
    | succ d ih =>
      intro e fu he hfu
      obtain ⟨g, rfl⟩ : ∃ g, fu = g + 1 := ⟨fu - 1, by omega⟩
      obtain ⟨B, eB, gB⟩ := band_c (t := t) (e := e) wk bd ht (by omega)
      have hne : ¬ ea C f (t % 4) l = e := by omega
      rw [X6_earsOn_L2, wk_4 wk, Option.bind_some, if_neg (nlt_lit (by omega) (by omega)), eB, Option.bind_some, has_n _ f6, gB f f6, Option.bind_some, hf, Bool.true_and, decide_eq_false hne, if_pos (by decide), nI_p1]
      exact ih (e + 1) g (by omega) (by omega)
  exact walk (ea C f (t % 4) l) 0 FU (by omega) (FU_gt (by omega))
theorem sb_and {C : CR} (hw : WFs C) {f s : Nat} (X : Int64) : (sb (stp C f s) &&& X) = 0 ↔ ¬ ∃ g, stp C f s = some g ∧ tb X g = true := by
  have ho : ∀ g, stp C f s = some g → g < 64 := fun g h => op_64 hw (stp_op h)
  rw [tb_eq0]
  constructor
  · rintro h ⟨g, h1, h2⟩
    have := h g (ho g h1)
    rw [tb_and, sb_tb _ ho, h2, h1] at this
    simp at this
  · intro h g hg
    rw [tb_and, sb_tb _ ho]
    by_cases e : stp C f s = some g
    · cases hb : tb X g with
      | false => simp
      | true => exact absurd ⟨g, e, hb⟩ h
    · simp [e]
theorem firstAct_c {h : HA} {w c f0 l T t f hd : Nat} {C : CR} (wk : WK h w c C f0) (hf0 : op C f0 = true) (hT : T ≤ 60) (ht : t < T) (pr : Pr h w C l f0 T (t + 1)) (hd6 : hd < 64) (hre : RE (nxC C l) (256 * f0) t (sN f hd t)) (hg : Gb (nxC C l) (goC C) (T - t) (sN f hd t) = true) :
    X6_firstAct h w (nI t) (nI f) (nI hd) (nI (ea C f (t % 4) l)) = some (nI (gac (nxC C l) (goC C) (T - (t + 1)) (sN f hd t))) := by
  have hw := wk.2.2.2.2.1.1.2.1.1
  obtain ⟨p1, p2⟩ := p2_le hw
  obtain ⟨o1, o2⟩ := RE_op hw hf0 hd6 hre
  have f6 := op_64 hw o1
  have ol := hd_64 hw (Nat.or_lt_two_pow o2 (ea_lt C f (t % 4) l))
  have e64 := ea_64 hw f (t % 4) l
  obtain ⟨n1, n2, n3⟩ := sN_e (f := f) (t := t) hd6
  have form : ∀ x y, 256 * x + 4 * y + (sN f hd t + 1) % 4 = sN x y (t + 1) := fun x y => by unfold sN at n3 ⊢; omega
  rw [show T - t = (T - (t + 1)) + 1 by omega] at hg
  obtain ⟨ok, hok⟩ : ∃ ok : Nat → Bool, ok = (fun a => match nxC C l (sN f hd t) a with | some s' => Gb (nxC C l) (goC C) (T - (t + 1)) s' | none => false) := ⟨_, rfl⟩
  have hgac : gac (nxC C l) (goC C) (T - (t + 1)) (sN f hd t) = fst1 ok 6 0 := by rw [hok]; rfl
  have hlt6 : fst1 ok 6 0 < 6 := by
    obtain ⟨s', g1, _⟩ := Gb_to hg
    rw [← hgac]; exact g1
  have okS : ∀ s, s < 4 → (ok s = true ↔ ∃ g, stp C f s = some g ∧ tb (gj h (w + 1) (64 * (t + 1) + hd)) g = true) := by
    intro s hs
    have e1 : nxC C l (sN f hd t) s = match stp C f s with | some g => some (sN g hd (t + 1)) | none => none := by
      unfold nxC
      rw [n1, n2, if_pos hs]
      cases stp C f s with
      | none => rfl
      | some g => show some _ = some _; rw [form]
    rw [hok]
    dsimp only
    rw [e1]
    cases hst : stp C f s with
    | none => simp
    | some g =>
      have g6 := op_64 hw (stp_op hst)
      have hre2 : RE (nxC C l) (256 * f0) (t + 1) (sN g hd (t + 1)) := ⟨_, s, by omega, hre, by rw [e1, hst]⟩
      dsimp only
      constructor
      · intro z; exact ⟨g, rfl, (pr hd g hd6 g6).mpr ⟨hre2, z⟩⟩
      · rintro ⟨g', z1, z2⟩
        have := Option.some.inj z1
        subst this
        exact ((pr hd g hd6 g6).mp z2).2
  have ok4 : ok 4 = true ↔ tb (gj h (w + 1) (64 * (t + 1) + (hd ||| ea C f (t % 4) l))) f = true := by
    have e1 : nxC C l (sN f hd t) 4 = some (sN f (hd ||| ea C f (t % 4) l) (t + 1)) := by
      unfold nxC
      rw [n1, n2, n3, if_neg (by omega), if_pos rfl, form]
    have hre2 : RE (nxC C l) (256 * f0) (t + 1) (sN f (hd ||| ea C f (t % 4) l) (t + 1)) := ⟨_, 4, by omega, hre, e1⟩
    rw [hok]
    dsimp only
    rw [e1]
    dsimp only
    exact ⟨fun z => (pr _ f ol f6).mpr ⟨hre2, z⟩, fun z => ((pr _ f ol f6).mp z).2⟩
  unfold X6_firstAct
  rw [if_pos (wk_t wk), hgac, nI_p1, show (64 : Int32) = nI 64 from rfl, nI_mul, Nat.mul_comm (t + 1) 64]
  have step : ∀ s fu, s < 4 → X6_firstAct_L11 h w (nI f) (nI hd) (nI (64 * (t + 1))) (fu + 1) (nI s) = if ok s = true then some (.inl (nI s)) else X6_firstAct_L11 h w (nI f) (nI hd) (nI (64 * (t + 1))) fu (nI (s + 1)) := by
    intro s fu hs
    rw [X6_firstAct_L11, if_pos (lt4 hs), wk_2 wk, Option.bind_some, beside_c wk.2.2.2.2.1.1 o1 hs, Option.bind_some, wk_0 wk, Option.bind_some, nI_add, ldJ_n (wk_k1 wk) (by omega) (by omega), Option.bind_some, nI_p1]
    by_cases e : ok s = true
    · rw [if_pos e, if_neg (fun z => (sb_and hw _).mp z ((okS s hs).mp e))]
    · rw [if_neg e, if_pos ((sb_and hw _).mpr (fun z => e ((okS s hs).mpr z)))]
  obtain ⟨F, hF⟩ : ∃ F : Nat, FU = F + 5 := ⟨19995, rfl⟩
  rw [hF, show (0 : Int32) = nI 0 from rfl, step 0 _ (by omega), step 1 _ (by omega), step 2 _ (by omega), step 3 _ (by omega)]
  have hend : X6_firstAct_L11 h w (nI f) (nI hd) (nI (64 * (t + 1))) (F + 1) (nI 4) = some (.inr ()) := by rw [X6_firstAct_L11, if_neg (by decide)]
  rw [hend]
  have hunf : fst1 ok 6 0 = if ok 0 = true then 0 else if ok 1 = true then 1 else if ok 2 = true then 2 else if ok 3 = true then 3 else if ok 4 = true then 4 else if ok 5 = true then 5 else 1000 := rfl
  rw [hunf] at hlt6 ⊢
  by_cases h0 : ok 0 = true
  · rw [if_pos h0, if_pos h0]; rfl
  · rw [if_neg h0] at hlt6
    rw [if_neg h0, if_neg h0]
    by_cases h1 : ok 1 = true
    · rw [if_pos h1, if_pos h1]; rfl
    · rw [if_neg h1] at hlt6
      rw [if_neg h1, if_neg h1]
      by_cases h2 : ok 2 = true
      · rw [if_pos h2, if_pos h2]; rfl
      · rw [if_neg h2] at hlt6
        rw [if_neg h2, if_neg h2]
        by_cases h3 : ok 3 = true
        · rw [if_pos h3, if_pos h3]; rfl
        · rw [if_neg h3] at hlt6
          rw [if_neg h3, if_neg h3, Option.bind_some]
          dsimp only
          rw [wk_0 wk, Option.bind_some, nI_or, nI_add, ldJ_n (wk_k1 wk) (by omega) (by omega), Option.bind_some, has_n _ f6, Option.bind_some]
          by_cases h4 : ok 4 = true
          · rw [if_pos h4, ok4.mp h4, if_neg (by decide)]; rfl
          · have h4' : tb (gj h (w + 1) (64 * (t + 1) + (hd ||| ea C f (t % 4) l))) f = false := by
              cases hb : tb (gj h (w + 1) (64 * (t + 1) + (hd ||| ea C f (t % 4) l))) f with
              | false => rfl
              | true => exact absurd (ok4.mpr hb) h4
            rw [if_neg h4] at hlt6
            rw [if_neg h4, h4', if_pos (by decide)]
            by_cases h5 : ok 5 = true
            · rw [if_pos h5]; rfl
            · rw [if_neg h5] at hlt6; omega
