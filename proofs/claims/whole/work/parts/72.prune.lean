/-! ROUND: the class's layers, pruned -/
def Pr (h : HA) (w : Nat) (C : CR) (l f0 T t : Nat) : Prop := ∀ hd f, hd < 64 → f < 64 → (tb (gj h (w + 1) (64 * t + hd)) f = true ↔ RE (nxC C l) (256 * f0) t (sN f hd t) ∧ Gb (nxC C l) (goC C) (T - t) (sN f hd t) = true)
theorem goC_sN {C : CR} {f hd t : Nat} (h6 : hd < 64) : goC C (sN f hd t) = decide (hd = 2 ^ cJ C - 1) := by unfold goC; rw [(sN_e (f := f) (t := t) h6).2.1]
theorem Gb_SU {C : CR} (hw : WFs C) {l f0 t r f hd : Nat} (hf0 : op C f0 = true) (h6 : hd < 64) (hr : RE (nxC C l) (256 * f0) t (sN f hd t)) : Gb (nxC C l) (goC C) (r + 1) (sN f hd t) = true ↔ ∃ hd2 f2, hd2 < 64 ∧ f2 < 64 ∧ SU C l t hd f hd2 f2 ∧ RE (nxC C l) (256 * f0) (t + 1) (sN f2 hd2 (t + 1)) ∧ Gb (nxC C l) (goC C) r (sN f2 hd2 (t + 1)) = true := by
  obtain ⟨o1, o2⟩ := RE_op hw hf0 h6 hr
  constructor
  · intro h
    obtain ⟨s', g1, g2, g3⟩ := Gb_to h
    have hre : RE (nxC C l) (256 * f0) (t + 1) s' := ⟨_, _, g1, hr, g2⟩
    obtain ⟨f2, hd2, rfl, q1, q2⟩ := RE_sN hw hf0 hre
    have q3 := hd_64 hw q2
    exact ⟨hd2, f2, q3, op_64 hw q1, (nx_SU hw o1 o2 q3).mp ⟨_, g1, g2⟩, hre, g3⟩
  · rintro ⟨hd2, f2, q1, q2, q3, q4, q5⟩
    obtain ⟨a, ha, hn⟩ := (nx_SU hw o1 o2 q1).mpr q3
    exact (Gb_of ha hn q5).1
theorem leading_ok {h : HA} {w c f0 l T t k : Nat} {C : CR} (wk : WK h w c C f0) (bd : BD h w C l) (hf0 : op C f0 = true) (hT : T ≤ 60) (ht : t < T) (hk : k < 2 ^ cJ C) (pr : Pr h w C l f0 T (t + 1)) :
    ∃ Q, X6_leading h w (nI t) (nI k) = some Q ∧ ∀ f, f < 64 → RE (nxC C l) (256 * f0) t (sN f k t) → (tb Q f = true ↔ Gb (nxC C l) (goC C) (T - t) (sN f k t) = true) := by
  have hw := wk.2.2.2.2.1.1.2.1.1
  obtain ⟨p1, p2⟩ := p2_le hw
  have k6 := hd_64 hw hk
  obtain ⟨S, hS⟩ : ∃ S, S = gj h (w + 1) (64 * (t + 1) + k) := ⟨_, rfl⟩
  have hSb := pr k
  rw [← hS] at hSb
  have hSo : ∀ f, tb S f = true → op C f = true := op_of fun f h3 h4 => (RE_op hw hf0 k6 ((hSb f k6 h3).mp h4).1).1
  obtain ⟨G, eG, gG⟩ := grow_c wk.2.2.2.2.1.1 S hSo
  unfold X6_leading
  rw [if_pos (wk_t wk), wk_0 wk, Option.bind_some, nI_p1, show (64 : Int32) = nI 64 from rfl, nI_mul, nI_add, Nat.mul_comm (t + 1) 64, ldJ_n (wk_k1 wk) (by omega) (by omega), ← hS, Option.bind_some, wk_2 wk, Option.bind_some, eG, Option.bind_some]
  obtain ⟨Q, e1, g1⟩ := loop_inv (fun fu i (Q : Int64) => X6_leading_L34 h w (nI t) (nI k) (nI (64 * (t + 1))) fu Q (nI (i + 1))) (fun i Q => ∀ f, f < 64 → (tb Q f = true ↔ tb S f = true ∨ tb G f = true ∨ (op C f = true ∧ 1 ≤ ea C f (t % 4) l ∧ ea C f (t % 4) l ≤ i ∧ tb (gj h (w + 1) (64 * (t + 1) + (k ||| ea C f (t % 4) l))) f = true)))
    (fun Q => ∀ f, f < 64 → (tb Q f = true ↔ tb S f = true ∨ tb G f = true ∨ (op C f = true ∧ 1 ≤ ea C f (t % 4) l ∧ tb (gj h (w + 1) (64 * (t + 1) + (k ||| ea C f (t % 4) l))) f = true))) (2 ^ cJ C - 1) (by
    intro i Q fu hi hI
    have o6 := hd_64 hw (Nat.or_lt_two_pow hk (show i + 1 < 2 ^ cJ C by omega))
    obtain ⟨B, eB, gB⟩ := band_c (t := t) (e := i + 1) wk bd (by omega) (by omega)
    show ∃ a', X6_leading_L34 h w (nI t) (nI k) (nI (64 * (t + 1))) (fu + 1) Q (nI (i + 1)) = X6_leading_L34 h w (nI t) (nI k) (nI (64 * (t + 1))) fu a' (nI (i + 1 + 1)) ∧ _
    rw [X6_leading_L34, wk_4 wk, Option.bind_some, if_neg (nlt_lit (by omega) (by omega)), eB, Option.bind_some, wk_0 wk, Option.bind_some, nI_or, nI_add, ldJ_n (wk_k1 wk) (by omega) (by omega), Option.bind_some, nI_p1]
    refine ⟨_, rfl, fun f h3 => ?_⟩
    rw [tb_or, tb_and, gB f h3, Bool.or_eq_true, hI f h3, Bool.and_eq_true, Bool.and_eq_true, decide_eq_true_eq]
    constructor
    · rintro ((z | z | ⟨z1, z2, z3, z4⟩) | ⟨⟨z1, z2⟩, z3⟩)
      · exact Or.inl z
      · exact Or.inr (Or.inl z)
      · exact Or.inr (Or.inr ⟨z1, z2, by omega, z4⟩)
      · exact Or.inr (Or.inr ⟨z1, by omega, by omega, by rw [z2]; exact z3⟩)
    · rintro (z | z | ⟨z1, z2, z3, z4⟩)
      · exact Or.inl (Or.inl z)
      · exact Or.inl (Or.inr (Or.inl z))
      · by_cases ei : ea C f (t % 4) l = i + 1
        · exact Or.inr ⟨⟨z1, ei⟩, by rw [← ei]; exact z4⟩
        · exact Or.inl (Or.inr (Or.inr ⟨z1, z2, by omega, z4⟩))) (by
    intro Q fu hI
    refine ⟨Q, ?_, fun f h3 => ?_⟩
    · show X6_leading_L34 h w (nI t) (nI k) (nI (64 * (t + 1))) (fu + 1) Q (nI (2 ^ cJ C - 1 + 1)) = _
      rw [X6_leading_L34, wk_4 wk, Option.bind_some, if_pos (lt_lit (by omega) (by omega))]
    · rw [hI f h3]
      have := ea_lt C f (t % 4) l
      constructor
      · rintro (z | z | ⟨z1, z2, z3, z4⟩)
        · exact Or.inl z
        · exact Or.inr (Or.inl z)
        · exact Or.inr (Or.inr ⟨z1, z2, z4⟩)
      · rintro (z | z | ⟨z1, z2, z4⟩)
        · exact Or.inl z
        · exact Or.inr (Or.inl z)
        · exact Or.inr (Or.inr ⟨z1, z2, by omega, z4⟩)) (S ||| G) FU (fun f h3 => by
    rw [tb_or, Bool.or_eq_true]
    exact ⟨fun z => z.imp id Or.inl, fun z => z.imp id (fun q => q.resolve_right (fun u => by omega))⟩) (FU_gt (by omega))
  refine ⟨Q, by rw [show X6_leading_L34 h w (nI t) (nI k) (nI (64 * (t + 1))) FU (S ||| G) 1 = _ from e1]; rfl, fun f h3 hre => ?_⟩
  obtain ⟨o1, o2⟩ := RE_op hw hf0 k6 hre
  have ol := hd_64 hw (Nat.or_lt_two_pow hk (ea_lt C f (t % 4) l))
  have er : T - t = (T - (t + 1)) + 1 := by omega
  rw [g1 f h3, er, Gb_SU hw hf0 k6 hre, grow_iff hw hSo gG h3]
  constructor
  · rintro (z | ⟨f2, s, z1, z2, z3⟩ | ⟨z1, z2, z3⟩)
    · have z4 := (hSb f k6 h3).mp z
      exact ⟨k, f, k6, h3, Or.inl ⟨rfl, rfl⟩, z4.1, z4.2⟩
    · have f6 := op_64 hw (hSo f2 z2)
      have z4 := (hSb f2 k6 f6).mp z2
      exact ⟨k, f2, k6, f6, Or.inr (Or.inl ⟨rfl, (s + 2) % 4, by omega, stp_sym hw (hSo f2 z2) z1 z3⟩), z4.1, z4.2⟩
    · have z4 := (pr _ f ol h3).mp z3
      exact ⟨_, f, ol, h3, Or.inr (Or.inr ⟨rfl, rfl⟩), z4.1, z4.2⟩
  · rintro ⟨hd2, f2, q1, q2, q3, q4, q5⟩
    rcases q3 with ⟨r1, r2⟩ | ⟨r1, s, r2, r3⟩ | ⟨r1, r2⟩
    · subst r1 r2; exact Or.inl ((hSb f2 q1 q2).mpr ⟨q4, q5⟩)
    · subst r1; exact Or.inr (Or.inl ⟨f2, (s + 2) % 4, by omega, (hSb f2 q1 q2).mpr ⟨q4, q5⟩, stp_sym hw o1 r2 r3⟩)
    · subst r1
      by_cases e0 : ea C f2 (t % 4) l = 0
      · rw [e0, Nat.or_zero] at r2
        subst r2
        exact Or.inl ((hSb f2 q1 q2).mpr ⟨q4, q5⟩)
      · subst r2
        exact Or.inr (Or.inr ⟨o1, by omega, (pr _ f2 q1 q2).mpr ⟨q4, q5⟩⟩)
theorem prune2 {h : HA} {w c f0 l T : Nat} {C : CR} (wk : WK h w c C f0) (hf0 : op C f0 = true) (hT : T ≤ 60) (ly : Lay h w C l f0 T) :
    ∃ h1, X6_prune_L2 w (nI T) FU h 0 = some h1 ∧ ch (fun a i => a = w + 1 ∧ 64 * T ≤ i ∧ i < 64 * T + 64) h h1 ∧ Pr h1 w C l f0 T T := by
  have hw := wk.2.2.2.2.1.1.2.1.1
  obtain ⟨p1, p2⟩ := p2_le hw
  obtain ⟨h1, e1, c1, g1, g2⟩ := loop_inv (fun fu k (h : HA) => X6_prune_L2 w (nI T) fu h (nI k)) (fun k h1 => ch (fun a i => a = w + 1 ∧ 64 * T ≤ i ∧ i < 64 * T + 64) h h1 ∧ (∀ i, i < k → gj h1 (w + 1) (64 * T + i) = 0) ∧ ∀ i, k ≤ i → gj h1 (w + 1) (64 * T + i) = gj h (w + 1) (64 * T + i))
    (fun h1 => ch (fun a i => a = w + 1 ∧ 64 * T ≤ i ∧ i < 64 * T + 64) h h1 ∧ (∀ i, i < 2 ^ cJ C - 1 → gj h1 (w + 1) (64 * T + i) = 0) ∧ ∀ i, 2 ^ cJ C - 1 ≤ i → gj h1 (w + 1) (64 * T + i) = gj h (w + 1) (64 * T + i)) (2 ^ cJ C - 1) (by
    intro k h1 fu hk hI
    obtain ⟨c1, g1, g2⟩ := hI
    have k1 := WK_ch wk (c1.mo fun a i q => by unfold Wwk; omega)
    refine ⟨sj h1 (w + 1) (64 * T + k) 0, ?_, c1.tr (ch_sj ⟨rfl, by omega, by omega⟩), fun i hi => ?_, fun i hi => ?_⟩
    · show X6_prune_L2 w (nI T) (fu + 1) h1 (nI k) = _
      rw [X6_prune_L2, wk_4 k1, Option.bind_some, if_pos (lt_lit hk (by omega)), wk_0 k1, Option.bind_some, show (64 : Int32) = nI 64 from rfl, nI_mul, nI_add, Nat.mul_comm T 64, asJ_n (wk_k1 k1) (by omega) (by omega), Option.bind_some, nI_p1]
    · rw [gj_sj]
      by_cases e : i = k
      · subst e; rw [if_pos ⟨rfl, rfl⟩]
      · rw [if_neg (by omega)]; exact g1 i (by omega)
    · rw [gj_sj, if_neg (by omega)]; exact g2 i (by omega)) (by
    intro h1 fu hI
    have k1 := WK_ch wk (hI.1.mo fun a i q => by unfold Wwk; omega)
    refine ⟨h1, ?_, hI⟩
    show X6_prune_L2 w (nI T) (fu + 1) h1 (nI (2 ^ cJ C - 1)) = _
    rw [X6_prune_L2, wk_4 k1, Option.bind_some, if_neg (nlt_lit (Nat.le_refl _) (by omega))]) h FU ⟨ch_rf _ _, fun i hi => by omega, fun i _ => rfl⟩ (FU_gt (by omega))
  refine ⟨h1, e1, c1, fun hd f h3 h4 => ?_⟩
  rw [Nat.sub_self, Gb, goC_sN h3, decide_eq_true_eq]
  by_cases e : hd < 2 ^ cJ C - 1
  · rw [g1 hd e, tb_0]
    exact ⟨fun z => absurd z (by decide), fun z => by omega⟩
  · rw [g2 hd (by omega), ly hd f h3 h4]
    exact ⟨fun z => ⟨z, by have := (RE_op hw hf0 h3 z).2; omega⟩, fun z => z.1⟩
theorem prune38 {h : HA} {w c f0 l T t : Nat} {C : CR} (wk : WK h w c C f0) (bd : BD h w C l) (hf0 : op C f0 = true) (hT : T ≤ 60) (ht : t < T) (ly : Lay h w C l f0 t) (pr : Pr h w C l f0 T (t + 1)) :
    ∃ h1, X6_prune_L38 w (nI t) FU h 0 = some h1 ∧ ch (fun a i => a = w + 1 ∧ 64 * t ≤ i ∧ i < 64 * t + 64) h h1 ∧ Pr h1 w C l f0 T t := by
  have hw := wk.2.2.2.2.1.1.2.1.1
  obtain ⟨p1, p2⟩ := p2_le hw
  have key := loop_inv (fun fu k (h : HA) => X6_prune_L38 w (nI t) fu h (nI k)) (fun k h1 => ch (fun a i => a = w + 1 ∧ 64 * t ≤ i ∧ i < 64 * t + 64) h h1 ∧ (∀ hd f, hd < k → f < 64 → (tb (gj h1 (w + 1) (64 * t + hd)) f = true ↔ RE (nxC C l) (256 * f0) t (sN f hd t) ∧ Gb (nxC C l) (goC C) (T - t) (sN f hd t) = true)) ∧ ∀ i, k ≤ i → gj h1 (w + 1) (64 * t + i) = gj h (w + 1) (64 * t + i))
    (fun h1 => ch (fun a i => a = w + 1 ∧ 64 * t ≤ i ∧ i < 64 * t + 64) h h1 ∧ Pr h1 w C l f0 T t) (2 ^ cJ C) (by
    intro k h1 fu hk hI
    obtain ⟨c1, g1, g2⟩ := hI
    have k1 := WK_ch wk (c1.mo fun a i q => by unfold Wwk; omega)
    have bd1 : BD h1 w C l := fun hr e f h2 h3 h4 => by rw [c1.gj (by omega)]; exact bd hr e f h2 h3 h4
    have pr1 : Pr h1 w C l f0 T (t + 1) := fun hd f h2 h3 => by rw [c1.gj (by omega)]; exact pr hd f h2 h3
    obtain ⟨H, hH⟩ : ∃ H, H = gj h1 (w + 1) (64 * t + k) := ⟨_, rfl⟩
    have hb : ∀ f, f < 64 → (tb H f = true ↔ RE (nxC C l) (256 * f0) t (sN f k t)) := fun f h3 => by rw [hH, g2 k (Nat.le_refl _)]; exact ly k f (by omega) h3
    show ∃ a', X6_prune_L38 w (nI t) (fu + 1) h1 (nI k) = X6_prune_L38 w (nI t) fu a' (nI (k + 1)) ∧ _
    rw [X6_prune_L38, wk_4 k1, Option.bind_some, if_neg (nlt_lit (by omega) (by omega)), wk_0 k1, Option.bind_some, show (64 : Int32) = nI 64 from rfl, nI_mul, nI_add, Nat.mul_comm t 64, ldJ_n (wk_k1 k1) (by omega) (by omega), ← hH, Option.bind_some, nI_p1]
    by_cases h0 : H = 0
    · rw [if_pos h0]
      refine ⟨h1, rfl, c1, fun hd f h2 h3 => ?_, fun i hi => g2 i (by omega)⟩
      by_cases e : hd = k
      · subst e
        rw [← hH, h0, tb_0]
        refine ⟨fun z => absurd z (by decide), fun z => ?_⟩
        have := (hb f h3).mpr z.1
        rw [h0, tb_0] at this; exact this
      · exact g1 hd f (by omega) h3
    · obtain ⟨Q, eQ, gQ⟩ := leading_ok k1 bd1 hf0 hT ht hk pr1
      rw [if_neg h0, Option.bind_some, ldJ_n (wk_k1 k1) (by omega) (by omega), ← hH, Option.bind_some, eQ, Option.bind_some, asJ_n (wk_k1 k1) (by omega) (by omega), Option.bind_some]
      refine ⟨_, rfl, c1.tr (ch_sj ⟨rfl, by omega, by omega⟩), fun hd f h2 h3 => ?_, fun i hi => ?_⟩
      · rw [gj_sj]
        by_cases e : hd = k
        · subst e
          rw [if_pos ⟨rfl, rfl⟩, tb_and, Bool.and_eq_true, hb f h3]
          exact ⟨fun z => ⟨z.1, (gQ f h3 z.1).mp z.2⟩, fun z => ⟨z.1, (gQ f h3 z.1).mpr z.2⟩⟩
        · rw [if_neg (by omega)]; exact g1 hd f (by omega) h3
      · rw [gj_sj, if_neg (by omega)]; exact g2 i (by omega)) (by
    intro h1 fu hI
    obtain ⟨c1, g1, g2⟩ := hI
    have k1 := WK_ch wk (c1.mo fun a i q => by unfold Wwk; omega)
    refine ⟨h1, ?_, c1, fun hd f h3 h4 => ?_⟩
    · show X6_prune_L38 w (nI t) (fu + 1) h1 (nI (2 ^ cJ C)) = _
      rw [X6_prune_L38, wk_4 k1, Option.bind_some, if_pos (lt_lit (by omega) (by omega))]
    · by_cases e : hd < 2 ^ cJ C
      · exact g1 hd f e h4
      · rw [g2 hd (by omega), ly hd f h3 h4]
        have : ¬ RE (nxC C l) (256 * f0) t (sN f hd t) := fun z => e (RE_op hw hf0 h3 z).2
        exact ⟨fun z => absurd z this, fun z => z.1⟩) h FU ⟨ch_rf _ _, fun hd f hi => by omega, fun i _ => rfl⟩ (FU_gt (by omega))
  exact key
theorem prune_ok {h : HA} {w c f0 l T : Nat} {C : CR} (wk : WK h w c C f0) (bd : BD h w C l) (hf0 : op C f0 = true) (hT : T ≤ 60) (ly : ∀ t, t ≤ T → Lay h w C l f0 t) :
    ∃ h1, X6_prune h w (nI T) = some h1 ∧ ch (fun a _ => a = w + 1) h h1 ∧ ∀ t, t ≤ T → Pr h1 w C l f0 T t := by
  obtain ⟨h1, e1, c1, p1⟩ := prune2 wk hf0 hT (ly T (Nat.le_refl _))
  have k1 := WK_ch wk (c1.mo fun a i q => by unfold Wwk; omega)
  have bd1 : BD h1 w C l := fun hr e f h2 h3 h4 => by rw [c1.gj (by omega)]; exact bd hr e f h2 h3 h4
  unfold X6_prune
  rw [if_pos (wk_t wk), e1, Option.bind_some]
  have pT : ∀ t, T - 0 ≤ t → t ≤ T → Pr h1 w C l f0 T t := fun t h3 h4 => by
    have : t = T := by omega
    rw [this]; exact p1
  have key := loop_inv (fun fu k (h : HA) => X6_prune_L32 w fu h (dwn T k)) (fun k h2 => ch (fun a i => a = w + 1 ∧ i < 64 * T) h1 h2 ∧ (∀ t, T - k ≤ t → t ≤ T → Pr h2 w C l f0 T t) ∧ ∀ t, t < T - k → Lay h2 w C l f0 t) (fun h2 => ch (fun a i => a = w + 1 ∧ i < 64 * T) h1 h2 ∧ ∀ t, t ≤ T → Pr h2 w C l f0 T t) T (by
    intro k h2 fu hk hI
    obtain ⟨c2, q2, l2⟩ := hI
    have k2 := WK_ch k1 (c2.mo fun a i q => by unfold Wwk; omega)
    have bd2 : BD h2 w C l := fun hr e f h2 h3 h4 => by rw [c2.gj (by omega)]; exact bd1 hr e f h2 h3 h4
    obtain ⟨h3, e3, c3, p3⟩ := prune38 k2 bd2 hf0 hT (t := T - 1 - k) (by omega) (l2 _ (by omega)) (by rw [show T - 1 - k + 1 = T - k by omega]; exact q2 _ (Nat.le_refl _) (by omega))
    show ∃ a', X6_prune_L32 w (fu + 1) h2 (dwn T k) = X6_prune_L32 w fu a' (dwn T (k + 1)) ∧ _
    have e4 : dwn T k = nI (T - 1 - k) := by unfold dwn; rw [if_neg (by omega)]
    have e5 : nI (T - 1 - k) + -1 = dwn T (k + 1) := by
      rw [nI_pm]; unfold dwn
      by_cases hz : T - 1 - k = 0
      · rw [if_pos hz, if_pos (by omega)]
      · rw [if_neg hz, if_neg (by omega)]; congr 1
    rw [X6_prune_L32, e4, if_neg (nI_lt0 (by omega)), e3, Option.bind_some, e5]
    refine ⟨h3, rfl, c2.tr (c3.mo fun a i q => ⟨q.1, by omega⟩), fun t h4 h5 => ?_, fun t h4 => ?_⟩
    · by_cases et : t = T - 1 - k
      · rw [et]; exact p3
      · intro hd f h6 h7
        rw [c3.gj (by omega)]; exact q2 t (by omega) h5 hd f h6 h7
    · intro hd f h6 h7
      rw [c3.gj (by omega)]; exact l2 t (by omega) hd f h6 h7) (by
    intro h2 fu hI
    refine ⟨h2, ?_, hI.1, fun t ht => hI.2.1 t (by omega) ht⟩
    show X6_prune_L32 w (fu + 1) h2 (dwn T T) = _
    rw [X6_prune_L32, show dwn T T = -1 by unfold dwn; rw [if_pos (Nat.le_refl _)], if_pos (by decide)]) h1 FU ⟨ch_rf _ _, fun t h3 h4 => pT t h3 h4, fun t h3 hd f h4 h5 => by rw [c1.gj (by omega)]; exact ly t (by omega) hd f h4 h5⟩ (FU_gt (by omega))
  obtain ⟨h2, e2, c2, q2⟩ := key
  have e3 : nI T - 1 = dwn T 0 := by
    rw [Int32.sub_eq_add_neg, show -(1 : Int32) = -1 from rfl, nI_pm]; unfold dwn
    by_cases hz : T = 0
    · rw [if_pos hz, if_pos (by omega)]
    · rw [if_neg hz, if_neg (by omega)]; rfl
  rw [e3, show X6_prune_L32 w FU h1 (dwn T 0) = some h2 from e2, Option.bind_some]
  exact ⟨h2, rfl, (c1.mo fun a i q => q.1).tr (c2.mo fun a i q => q.1), q2⟩
