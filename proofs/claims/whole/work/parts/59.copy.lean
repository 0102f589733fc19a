/-! copies of all that is told -/
theorem lmx_w (s : Nat) : lmx s ≤ 30 ∧ lwd s ≤ 4 ∧ 2 ≤ lwd s := by
  unfold lmx lwd
  repeat' split
  all_goals omega
theorem list_copy {h : HA} {d c s : Nat} {L : CR} (hd : LiS h d s) (hl : LL h c s L) (hL : WL s L) (n1 : d ≠ c) (n2 : d ≠ c + 1) (n3 : d + 1 ≠ c) : ∃ h1, X2_copyFrom h d c = some h1 ∧ ch (fun a k => (a = d ∧ k = 2) ∨ a = d + 1) h h1 ∧ LL h1 d s L := by
  obtain ⟨w1, w2, w3⟩ := lmx_w s
  obtain ⟨d1, d2, d3, d4⟩ := hd
  obtain ⟨⟨c1, c2, c3, c4⟩, c5, c6⟩ := hl
  have hlen := hL.1
  have hnl : llen L * lwd s ≤ lmx s * lwd s := Nat.mul_le_mul_right _ hlen
  have hn2 : lmx s * lwd s ≤ 30 * 4 := Nat.mul_le_mul w1 w2
  have hn3 : llen L * lwd s ≤ 120 := by omega
  rw [Nat.mul_comm (lmx s)] at hnl
  have ec : ch (fun a k => (a = d ∧ k = 2) ∨ a = d + 1) h (si h d 2 (nI (llen L))) := ch_si (Or.inl ⟨rfl, rfl⟩)
  refine ⟨cpy (si h d 2 (nI (llen L))) (c + 1) 0 (d + 1) 0 (llen L * lwd s), ?_, ec.tr (ch_cpy (fun j _ => Or.inr rfl)), ⟨⟨d1, ?_, d3, d4⟩, ?_, fun i hi => ?_⟩⟩
  · unfold X2_copyFrom
    have k1 : kd (si h d 2 (nI (llen L))) d = (3, 0) := d1
    have k2 : kd (si h d 2 (nI (llen L))) c = (3, 0) := c1
    rw [if_pos (by rw [d1]), gI_n c1, c5, hL.2.1, Option.bind_some, pI_n d1, Option.bind_some, gR_n k2, show ga (si h d 2 (nI (llen L))) c 1 = some (c + 1) from c3, Option.bind_some, gR_n k1, show ga (si h d 2 (nI (llen L))) d 1 = some (d + 1) from d3, Option.bind_some, gI_n k1, gi_si, if_pos ⟨rfl, rfl⟩, Option.bind_some, gI_n k1, gi_si, if_neg (by omega), d2, Option.bind_some, nI_mul]
    rw [cpI_0 (show kd (si h d 2 (nI (llen L))) (c + 1) = (20, lwd s * lmx s) from c4) (show kd (si h d 2 (nI (llen L))) (d + 1) = (20, lwd s * lmx s) from d4) hnl hnl (by omega) (fun z => by simp at z)]; rfl
  · rw [gi_cpy0, if_neg (by omega), gi_si, if_neg (by omega)]; exact d2
  · rw [gi_cpy0, if_neg (by omega), gi_si, if_pos ⟨rfl, rfl⟩]; exact hL.2.1.symm
  · rw [gi_cpy0, if_pos ⟨rfl, by rw [Nat.mul_comm]; exact hi⟩, gi_si, if_neg (by omega)]; exact c6 i hi
def TO (h : HA) (t : Nat) (α : Nat → Nat) (lm : Nat → Nat → Nat) : Prop := ToS h t ∧ (∀ j, j < 2 → ga h (t + 3) j = some (α j) ∧ CS h (α j)) ∧ (∀ s j, 1 ≤ s → s < 4 → j < 2 → ga h (t + 4) (2 * s + j) = some (lm s j) ∧ LiS h (lm s j) s) ∧ α 0 ≠ α 1 ∧ ∀ s, 1 ≤ s → s < 4 → lm s 0 ≠ lm s 1
def TW (t : Nat) (α : Nat → Nat) (lm : Nat → Nat → Nat) : Nat → Nat → Prop := fun a k => (a = t ∧ 1 ≤ k ∧ k ≤ 3) ∨ a = t + 1 ∨ a = t + 2 ∨ (∃ j, j < 2 ∧ α j ≤ a ∧ a ≤ α j + 5) ∨ (∃ s j, 1 ≤ s ∧ s < 4 ∧ j < 2 ∧ ((a = lm s j ∧ k = 2) ∨ a = lm s j + 1))
theorem nk3 {h : HA} {c a : Nat} (hs : CS h c) (h1 : c ≤ a) (h2 : a ≤ c + 5) : kd h a ≠ (3, 0) := by
  rcases cs_kk hs h1 h2 with ⟨_, z⟩ | ⟨_, z | z | z | z⟩ <;> rw [z] <;> decide
theorem nkl {h : HA} {c a s : Nat} (hs : CS h c) (h1 : c ≤ a) (h2 : a ≤ c + 5) : kd h a ≠ (20, lwd s * lmx s) := by
  rcases lwx s with e | e <;> rw [e] <;> rcases cs_kk hs h1 h2 with ⟨_, z⟩ | ⟨_, z | z | z | z⟩ <;> rw [z] <;> decide
theorem TO_ch {h h1 : HA} {t : Nat} {α : Nat → Nat} {lm : Nat → Nat → Nat} (to : TO h t α lm) (p : ch (TW t α lm) h h1) : TO h1 t α lm := by
  obtain ⟨a1, a2, a3, a4, a5⟩ := to
  refine ⟨?_, fun j hj => ⟨by rw [p.2.2.1]; exact (a2 j hj).1, CS_same (a2 j hj).2 (fun a _ _ => p.2.1 a) (fun k => p.2.2.1 _ k)⟩, fun s j h1 h2 h3 => ⟨by rw [p.2.2.1]; exact (a3 s j h1 h2 h3).1, ?_⟩, a4, a5⟩
  · obtain ⟨b1, ⟨b2, b3⟩, ⟨b4, b5⟩, ⟨b6, b7⟩, b8, b9⟩ := a1
    exact ⟨by rw [p.2.1]; exact b1, ⟨by rw [p.2.2.1]; exact b2, by rw [p.2.1]; exact b3⟩, ⟨by rw [p.2.2.1]; exact b4, by rw [p.2.1]; exact b5⟩, ⟨by rw [p.2.2.1]; exact b6, by rw [p.2.1]; exact b7⟩, by rw [p.2.2.1]; exact b8, by rw [p.2.1]; exact b9⟩
  · obtain ⟨b1, b2, b3, b4⟩ := (a3 s j h1 h2 h3).2
    refine ⟨by rw [p.2.1]; exact b1, ?_, by rw [p.2.2.1]; exact b3, by rw [p.2.1]; exact b4⟩
    rw [p.gi]
    · exact b2
    · rintro (⟨e, _⟩ | e | e | ⟨i, hi, e1, e2⟩ | ⟨u, i, u1, u2, u3, ⟨_, e⟩ | e⟩)
      · rw [e, a1.1] at b1; exact absurd b1 (by decide)
      · rw [e, a1.2.1.2] at b1; exact absurd b1 (by decide)
      · rw [e, a1.2.2.1.2] at b1; exact absurd b1 (by decide)
      · exact nk3 (a2 i hi).2 e1 e2 b1
      · omega
      · have := (a3 u i u1 u2 u3).2.2.2.2
        rw [e, this] at b1
        exact absurd (congrArg Prod.fst b1) (fun z => by simp at z)
/-- where a source lies -/
def SA (s : Nat) (α : Nat → Nat) (lm : Nat → Nat → Nat) (a : Nat) : Prop := (s ≤ a ∧ a ≤ s + 4) ∨ (∃ j, j < 2 ∧ α j ≤ a ∧ a ≤ α j + 5) ∨ (∃ u j, 1 ≤ u ∧ u < 4 ∧ j < 2 ∧ (a = lm u j ∨ a = lm u j + 1))
theorem told_copy {h : HA} {d s : Nat} {α αs : Nat → Nat} {lm lms : Nat → Nat → Nat} {D : DT} (to : TO h d α lm) (ts : ToS h s) (td : TD h s αs lms D) (hd : WD D) (hsl : ∀ u j, 1 ≤ u → u < 4 → j < 2 → LiS h (lms u j) u)
    (sep : ∀ a, SA s αs lms a → ∀ k, ¬ TW d α lm a k) : ∃ h1, X5_copyFrom h d s = some h1 ∧ ch (TW d α lm) h h1 ∧ TD h1 d α lm D := by
  have n0 := hd.2.1 0 (by omega)
  have hL := hd.1
  -- the source stays
  have src : ∀ {g : HA}, ch (TW d α lm) h g → TD g s αs lms D ∧ ToS g s := fun p => by
    have q : ∀ a, SA s αs lms a → sm h _ a := fun a ha => p.sm (sep a ha)
    exact ⟨TD_sm td hd (fun a h1 h2 => q a (Or.inl ⟨h1, h2⟩)) (fun j hj => CQ_sm (td.2.2.2.2.2.2.2.1 j hj) (fun a h1 h2 => q a (Or.inr (Or.inl ⟨j, by omega, h1, h2⟩)))) (fun u j h1 h2 h3 => ⟨q _ (Or.inr (Or.inr ⟨u, j, h1, h2, h3, Or.inl rfl⟩)), q _ (Or.inr (Or.inr ⟨u, j, h1, h2, h3, Or.inr rfl⟩))⟩), ToS_sm ts (fun a h1 h2 => q a (Or.inl ⟨h1, h2⟩))⟩
  have tdk : ∀ {g : HA}, ToS g s → kd g s = (6, 0) := fun t => t.1
  -- head and tape
  have w1 : ∀ j, TW d α lm (d + 1) j := fun _ => Or.inr (Or.inl rfl)
  have wf : ∀ k, 1 ≤ k → k ≤ 3 → TW d α lm d k := fun k h1 h2 => Or.inl ⟨rfl, h1, h2⟩
  have w2 : ∀ j, TW d α lm (d + 2) j := fun _ => Or.inr (Or.inr (Or.inl rfl))
  obtain ⟨h4, hh4⟩ : ∃ g, g = cpy h (s + 1) 0 (d + 1) 0 (dL D) := ⟨_, rfl⟩
  have c4 : ch (TW d α lm) h h4 := by rw [hh4]; exact ch_cpy (fun j _ => w1 j)
  obtain ⟨h6, hh6⟩ : ∃ g, g = si h4 d 1 (nI (dL D)) := ⟨_, rfl⟩
  have c6 : ch (TW d α lm) h h6 := by rw [hh6]; exact c4.tr (ch_si (wf 1 (by omega) (by omega)))
  obtain ⟨h8, hh8⟩ : ∃ g, g = si h6 d 2 (dF D) := ⟨_, rfl⟩
  have c8 : ch (TW d α lm) h h8 := by rw [hh8]; exact c6.tr (ch_si (wf 2 (by omega) (by omega)))
  obtain ⟨h10, hh10⟩ : ∃ g, g = si h8 d 3 (dP D) := ⟨_, rfl⟩
  have c10 : ch (TW d α lm) h h10 := by rw [hh10]; exact c8.tr (ch_si (wf 3 (by omega) (by omega)))
  obtain ⟨h13, hh13⟩ : ∃ g, g = cpy h10 (s + 2) 0 (d + 2) 0 4 := ⟨_, rfl⟩
  have c13 : ch (TW d α lm) h h13 := by rw [hh13]; exact c10.tr (ch_cpy (fun j _ => w2 j))
  -- what is new so far
  have hnew : ∀ {g : HA}, ch (fun a k => (∃ j, j < 2 ∧ α j ≤ a ∧ a ≤ α j + 5) ∨ (∃ s j, 1 ≤ s ∧ s < 4 ∧ j < 2 ∧ ((a = lm s j ∧ k = 2) ∨ a = lm s j + 1))) h13 g → gi g d 1 = nI (dL D) ∧ gi g d 2 = dF D ∧ gi g d 3 = dP D ∧ (∀ f, f < dL D → gi g (d + 1) f = dT D f) ∧ ∀ u, u < 4 → gi g (d + 2) u = nI (dN D u) := by
    intro g p
    have nc : ∀ a, d ≤ a → a ≤ d + 2 → ∀ k, ¬ ((∃ j, j < 2 ∧ α j ≤ a ∧ a ≤ α j + 5) ∨ (∃ s j, 1 ≤ s ∧ s < 4 ∧ j < 2 ∧ ((a = lm s j ∧ k = 2) ∨ a = lm s j + 1))) := by
      intro a h1 h2 k
      rintro (⟨j, hj, e1, e2⟩ | ⟨u, j, u1, u2, u3, e⟩)
      · have cs := (to.2.1 j hj).2
        have := own cs e1 e2 h1 (by rw [to.1.1]; decide) (fun x h3 h4 => by
          rcases ts_kk to.1 (show d ≤ x by omega) (by omega) with ⟨z, _⟩ | ⟨_, z | z | z | z⟩
          · omega
          all_goals rw [z]; decide)
        have h5 := cs.1
        rw [← this, to.1.1] at h5
        exact absurd h5 (by decide)
      · have ls := (to.2.2.1 u j u1 u2 u3).2
        have b1 := ls.1
        have b4 := ls.2.2.2
        have ha : a = d ∨ a = d + 1 ∨ a = d + 2 := by omega
        rcases e with ⟨e, _⟩ | e
        · rcases ha with rfl | rfl | rfl
          · rw [← e, to.1.1] at b1; exact absurd b1 (by decide)
          · rw [← e, to.1.2.1.2] at b1; exact absurd b1 (by decide)
          · rw [← e, to.1.2.2.1.2] at b1; exact absurd b1 (by decide)
        · rcases ha with rfl | rfl | rfl
          · rw [← e, to.1.1] at b4; exact absurd (congrArg Prod.fst b4) (fun z => by simp at z)
          · rw [← e, to.1.2.1.2] at b4; exact absurd (congrArg Prod.fst b4) (fun z => by simp at z)
          · rw [← e, to.1.2.2.1.2] at b4
            rcases lwx u with z | z <;> rw [z] at b4 <;> exact absurd b4 (by decide)
    have s10 := (src c10).1
    refine ⟨?_, ?_, ?_, fun f hf => ?_, fun u hu => ?_⟩
    · rw [p.gi (nc d (by omega) (by omega) 1), hh13, gi_cpy0, if_neg (by omega), hh10, gi_si, if_neg (by omega), hh8, gi_si, if_neg (by omega), hh6, gi_si, if_pos ⟨rfl, rfl⟩]
    · rw [p.gi (nc d (by omega) (by omega) 2), hh13, gi_cpy0, if_neg (by omega), hh10, gi_si, if_neg (by omega), hh8, gi_si, if_pos ⟨rfl, rfl⟩]
    · rw [p.gi (nc d (by omega) (by omega) 3), hh13, gi_cpy0, if_neg (by omega), hh10, gi_si, if_pos ⟨rfl, rfl⟩]
    · rw [p.gi (nc (d + 1) (by omega) (by omega) f), hh13, gi_cpy0, if_neg (by omega), hh10, gi_si, if_neg (by omega), hh8, gi_si, if_neg (by omega), hh6, gi_si, if_neg (by omega), hh4, gi_cpy0, if_pos ⟨rfl, hf⟩]; exact td.2.2.2.1 f hf
    · rw [p.gi (nc (d + 2) (by omega) (by omega) u), hh13, gi_cpy0, if_pos ⟨rfl, hu⟩]; exact s10.2.2.2.2.1 u hu
  -- the COURTS
  have cdis : ∀ i j, i < 2 → j < 2 → i ≠ j → ∀ a, α i ≤ a → a ≤ α i + 5 → ¬ (α j ≤ a ∧ a ≤ α j + 5) := by
    intro i j hi hj hne a h3 h4 ⟨h5, h6⟩
    have ci := (to.2.1 i hi).2
    have cj := (to.2.1 j hj).2
    have e := own cj h5 h6 h3 (by rw [ci.1]; decide) (fun x h7 h8 => by
      rcases cs_kk ci (show α i ≤ x by omega) (by omega) with ⟨z, _⟩ | ⟨_, z | z | z | z⟩
      · omega
      all_goals rw [z]; decide)
    have hi2 : i = 0 ∨ i = 1 := by omega
    have hj2 : j = 0 ∨ j = 1 := by omega
    rcases hi2 with rfl | rfl <;> rcases hj2 with rfl | rfl
    · exact hne rfl
    · exact to.2.2.2.1 e
    · exact to.2.2.2.1 e.symm
    · exact hne rfl
  let WC : Nat → Nat → Prop := fun a k => (∃ j, j < 2 ∧ α j ≤ a ∧ a ≤ α j + 5) ∨ (∃ s j, 1 ≤ s ∧ s < 4 ∧ j < 2 ∧ ((a = lm s j ∧ k = 2) ∨ a = lm s j + 1))
  have wcT : ∀ a k, WC a k → TW d α lm a k := fun a k w => w.elim (fun w => Or.inr (Or.inr (Or.inr (Or.inl w)))) (fun w => Or.inr (Or.inr (Or.inr (Or.inr w))))
  have all : ∀ {g : HA}, ch WC h13 g → ch (TW d α lm) h g := fun p => c13.tr (p.mo wcT)
  have toA : ∀ {g : HA}, ch WC h13 g → TO g d α lm := fun p => TO_ch to (all p)
  have sr4 : ∀ {g : HA} {t : Nat}, ToS g t → gR g t 6 4 = some (t + 2) := fun t => by rw [gR_n t.1]; exact t.2.2.1.1
  have sr5 : ∀ {g : HA} {t : Nat}, ToS g t → gR g t 6 5 = some (t + 3) := fun t => by rw [gR_n t.1]; exact t.2.2.2.1.1
  have sr6 : ∀ {g : HA} {t : Nat}, ToS g t → gR g t 6 6 = some (t + 4) := fun t => by rw [gR_n t.1]; exact t.2.2.2.2.1
  obtain ⟨h23, e23, p23, q23⟩ := loop_inv (fun fu k (g : HA) => X5_copyFrom_L57 d s fu g (nI k)) (fun k g => ch WC h13 g ∧ ∀ j, j < k → CQ g (α j) (dC D j)) (fun g => ch WC h13 g ∧ ∀ j, j < dN D 0 → CQ g (α j) (dC D j)) (dN D 0) (by
    intro k g fu hk ⟨j1, j2⟩
    have tg := toA j1
    obtain ⟨sg, ssg⟩ := src (all j1)
    have hk2 : k < 2 := by omega
    obtain ⟨g1, f1, c1, l1⟩ := copy_court (tg.2.1 k hk2).2 (sg.2.2.2.2.2.2.2.1 k hk).1 (fun a h1 h2 ⟨h3, h4⟩ => sep a (Or.inr (Or.inl ⟨k, hk2, h3, h4⟩)) 0 (Or.inr (Or.inr (Or.inr (Or.inl ⟨k, hk2, h1, h2⟩)))))
    refine ⟨g1, ?_, j1.tr (c1.mo (fun a i w => Or.inl ⟨k, hk2, w.1, w.2⟩)), fun j hj => ?_⟩
    · show X5_copyFrom_L57 d s (fu + 1) g (nI k) = _
      rw [X5_copyFrom_L57, sr4 tg.1, Option.bind_some, ldI_0 tg.1.2.2.1.2 (by omega) ((hnew j1).2.2.2.2 0 (by omega)), Option.bind_some, if_pos (lt_lit hk (by omega)), sr5 tg.1, Option.bind_some, ldR_n tg.1.2.2.2.1.2 hk2 (by omega), (tg.2.1 k hk2).1, Option.bind_some, sr5 ssg, Option.bind_some, ldR_n ssg.2.2.2.1.2 hk2 (by omega), sg.2.2.2.2.2.1 k hk2, Option.bind_some, f1, Option.bind_some, nI_p1]
    · by_cases e : j = k
      · subst e; exact l1
      · exact CQ_sm (j2 j (by omega)) (fun a h1 h2 => c1.sm (fun i w => cdis j k (by omega) hk2 e a h1 h2 ⟨w.1, w.2⟩))) (by
    intro g fu ⟨j1, j2⟩
    have tg := toA j1
    refine ⟨g, ?_, j1, j2⟩
    show X5_copyFrom_L57 d s (fu + 1) g (nI (dN D 0)) = _
    rw [X5_copyFrom_L57, sr4 tg.1, Option.bind_some, ldI_0 tg.1.2.2.1.2 (by omega) ((hnew j1).2.2.2.2 0 (by omega)), Option.bind_some, if_neg (nlt_lit (Nat.le_refl _) (by omega))]) h13 FU ⟨ch_rf _ _, fun j hj => by omega⟩ (FU_gt (by omega))
  -- the lists
  have ldis : ∀ u i v j, 1 ≤ u → u < 4 → i < 2 → 1 ≤ v → v < 4 → j < 2 → ¬ (u = v ∧ i = j) → lm u i ≠ lm v j ∧ lm u i ≠ lm v j + 1 := by
    intro u i v j u1 u2 u3 v1 v2 v3 hne
    have lu := (to.2.2.1 u i u1 u2 u3).2
    have lv := (to.2.2.1 v j v1 v2 v3).2
    refine ⟨fun e => ?_, fun e => ?_⟩
    · by_cases euv : u = v
      · subst euv
        have hi2 : i = 0 ∨ i = 1 := by omega
        have hj2 : j = 0 ∨ j = 1 := by omega
        have h01 := to.2.2.2.2 u u1 u2
        rcases hi2 with rfl | rfl <;> rcases hj2 with rfl | rfl
        · exact hne ⟨rfl, rfl⟩
        · exact h01 e
        · exact h01 e.symm
        · exact hne ⟨rfl, rfl⟩
      · have g1 := lu.2.1
        rw [e, lv.2.1] at g1
        have w1 := (lmx_w u).2.1
        have w2 := (lmx_w v).2.1
        have e5 : lwd v = lwd u := nI_inj (by omega) (by omega) g1
        have hu3 : u = 1 ∨ u = 2 ∨ u = 3 := by omega
        have hv3 : v = 1 ∨ v = 2 ∨ v = 3 := by omega
        rcases hu3 with rfl | rfl | rfl <;> rcases hv3 with rfl | rfl | rfl <;> first | exact euv rfl | exact absurd e5 (by decide)
    · have b1 := lu.1
      rw [e, lv.2.2.2] at b1
      exact absurd (congrArg Prod.fst b1) (fun z => by simp at z)
  let DN : Nat → Nat → HA → Prop := fun σ i g => ch WC h13 g ∧ (∀ j, j < dN D 0 → CQ g (α j) (dC D j)) ∧ ∀ u j, 1 ≤ u → u < 4 → j < dN D u → (u < σ ∨ (u = σ ∧ j < i)) → LL g (lm u j) u (dR D u j)
  have l97 : ∀ σ g, 1 ≤ σ → σ < 4 → DN σ 0 g → ∃ g1, X5_copyFrom_L97 d s (nI σ) FU g 0 = some g1 ∧ DN (σ + 1) 0 g1 := by
    intro σ g hσ1 hσ4 hg
    have nσ := hd.2.1 σ hσ4
    refine loop_inv (fun fu k (g : HA) => X5_copyFrom_L97 d s (nI σ) fu g (nI k)) (fun k g => DN σ k g) (fun g => DN (σ + 1) 0 g) (dN D σ) ?_ ?_ g FU hg (FU_gt (by omega))
    · rintro k g fu hk ⟨j1, j2, j3⟩
      have tg := toA j1
      obtain ⟨sg, ssg⟩ := src (all j1)
      have hk2 : k < 2 := by omega
      have ld := (tg.2.2.1 σ k hσ1 hσ4 hk2)
      have nn : ∀ a, (a = lms σ k ∨ a = lms σ k + 1) → a ≠ lm σ k + 1 ∧ a ≠ lm σ k := by
        intro a ha
        have hsa : SA s αs lms a := Or.inr (Or.inr ⟨σ, k, hσ1, hσ4, hk2, ha⟩)
        exact ⟨fun e => sep a hsa 0 (Or.inr (Or.inr (Or.inr (Or.inr ⟨σ, k, hσ1, hσ4, hk2, Or.inr e⟩)))), fun e => sep a hsa 2 (Or.inr (Or.inr (Or.inr (Or.inr ⟨σ, k, hσ1, hσ4, hk2, Or.inl ⟨e, rfl⟩⟩))))⟩
      obtain ⟨g1, f1, c1, l1⟩ := list_copy ld.2 (sg.2.2.2.2.2.2.2.2 σ k hσ1 hσ4 hk) (hd.2.2.2.1 σ k hσ1 hσ4 hk) (fun e => (nn _ (Or.inl rfl)).2 e.symm) (fun e => (nn _ (Or.inr rfl)).2 e.symm) (fun e => (nn _ (Or.inl rfl)).1 e.symm)
      have wc1 : ∀ a i, ((a = lm σ k ∧ i = 2) ∨ a = lm σ k + 1) → WC a i := fun a i w => Or.inr ⟨σ, k, hσ1, hσ4, hk2, w⟩
      refine ⟨g1, ?_, j1.tr (c1.mo wc1), fun j hj => ?_, fun u j u1 u2 u3 u4 => ?_⟩
      · show X5_copyFrom_L97 d s (nI σ) (fu + 1) g (nI k) = _
        have esl : nI σ * 2 + nI k = nI (2 * σ + k) := by rw [show (2 : Int32) = nI 2 from rfl, nI_mul, nI_add, Nat.mul_comm]
        rw [X5_copyFrom_L97, sr4 tg.1, Option.bind_some, ldI_n tg.1.2.2.1.2 hσ4 (by omega), (hnew j1).2.2.2.2 σ hσ4, Option.bind_some, if_pos (lt_lit hk (by omega)), sr6 tg.1, Option.bind_some]
        unfold X5_slotOf
        rw [Option.bind_some, esl, ldR_n tg.1.2.2.2.2.2 (by omega) (by omega), ld.1, Option.bind_some, sr6 ssg, Option.bind_some, Option.bind_some, ldR_n ssg.2.2.2.2.2 (by omega) (by omega), sg.2.2.2.2.2.2.1 σ k hσ1 hσ4 hk2, Option.bind_some, f1, Option.bind_some, nI_p1]
      · have hj2 : j < 2 := by omega
        have cs := (tg.2.1 j hj2).2
        refine CQ_sm (j2 j hj) (fun a h1 h2 => c1.sm (fun i w => ?_))
        rcases w with ⟨w, _⟩ | w
        · exact nk3 cs h1 h2 (by rw [w]; exact ld.2.1)
        · exact nkl (s := σ) cs h1 h2 (by rw [w]; exact ld.2.2.2.2)
      · have hj2 : j < 2 := by have := hd.2.1 u u2; omega
        by_cases e : u = σ ∧ j = k
        · obtain ⟨rfl, rfl⟩ := e; exact l1
        · have dd := ldis u j σ k u1 u2 hj2 hσ1 hσ4 hk2 e
          have dd2 := ldis σ k u j hσ1 hσ4 hk2 u1 u2 hj2 (fun z => e ⟨z.1.symm, z.2.symm⟩)
          refine LL_sm (j3 u j u1 u2 u3 ?_) (c1.sm (fun i w => ?_)) (c1.sm (fun i w => ?_))
          · rcases u4 with u4 | ⟨rfl, u4⟩
            · exact Or.inl u4
            · exact Or.inr ⟨rfl, by omega⟩
          · rcases w with ⟨w, _⟩ | w
            · exact dd.1 w
            · exact dd.2 w
          · rcases w with ⟨w, _⟩ | w
            · exact dd2.2 w.symm
            · exact dd.1 (by omega)
    · rintro g fu ⟨j1, j2, j3⟩
      have tg := toA j1
      refine ⟨g, ?_, j1, j2, fun u j u1 u2 u3 u4 => j3 u j u1 u2 u3 ?_⟩
      · show X5_copyFrom_L97 d s (nI σ) (fu + 1) g (nI (dN D σ)) = _
        rw [X5_copyFrom_L97, sr4 tg.1, Option.bind_some, ldI_n tg.1.2.2.1.2 hσ4 (by omega), (hnew j1).2.2.2.2 σ hσ4, Option.bind_some, if_neg (nlt_lit (Nat.le_refl _) (by omega))]
      · rcases u4 with u4 | ⟨rfl, u4⟩
        · by_cases e : u = σ
          · subst e; exact Or.inr ⟨rfl, u3⟩
          · exact Or.inl (by omega)
        · omega
  have st0 : DN 1 0 h23 := ⟨p23, q23, fun u j u1 u2 u3 u4 => by omega⟩
  obtain ⟨g1, f1, s1⟩ := l97 1 h23 (by omega) (by omega) st0
  obtain ⟨g2, f2, s2⟩ := l97 2 g1 (by omega) (by omega) s1
  obtain ⟨g3, f3, p3, q3, r3⟩ := l97 3 g2 (by omega) (by omega) s2
  have tg := toA p3
  obtain ⟨a1, a2, a3, a4, a5⟩ := hnew p3
  refine ⟨g3, ?_, all p3, a1, a2, a3, a4, a5, fun j hj => (tg.2.1 j hj).1, fun u j h1 h2 h3 => (tg.2.2.1 u j h1 h2 h3).1, q3, fun u j h1 h2 h3 => r3 u j h1 h2 h3 (Or.inl (by omega))⟩
  have k4 : kd h4 s = (6, 0) := by rw [c4.2.1]; exact ts.1
  have k6 : kd h6 s = (6, 0) := by rw [c6.2.1]; exact ts.1
  have k8 : kd h8 s = (6, 0) := by rw [c8.2.1]; exact ts.1
  have t10 := TO_ch to c10
  have s10 := (src c10).2
  unfold X5_copyFrom
  rw [if_pos (by rw [to.1.1]), gR_n ts.1, ts.2.1.1, Option.bind_some, gR_n to.1.1, to.1.2.1.1, Option.bind_some, gI_n ts.1, td.1, Option.bind_some, cpI_0 ts.2.1.2 to.1.2.1.2 hL hL (by omega) (fun _ i hi => by rw [td.2.2.2.1 i hi]; exact hd.2.2.2.2 i hi), Option.bind_some, ← hh4, gI_n k4, (src c4).1.1, Option.bind_some, pI_n (show kd h4 d = (6, 0) by rw [c4.2.1]; exact to.1.1), Option.bind_some, ← hh6, gI_n k6, (src c6).1.2.1, Option.bind_some, pI_n (show kd h6 d = (6, 0) by rw [c6.2.1]; exact to.1.1), Option.bind_some, ← hh8, gI_n k8, (src c8).1.2.2.1, Option.bind_some, pI_n (show kd h8 d = (6, 0) by rw [c8.2.1]; exact to.1.1), Option.bind_some, ← hh10, sr4 s10, Option.bind_some, sr4 t10.1, Option.bind_some, show cpI h10 20 (s + 2) 0 (d + 2) 0 4 = _ from cpI_0 (n := 4) s10.2.2.1.2 t10.1.2.2.1.2 (by omega) (by omega) (by omega) (fun z => by simp at z), Option.bind_some, ← hh13, show X5_copyFrom_L57 d s FU h13 0 = _ from e23, Option.bind_some]
  have e90 : X5_copyFrom_L90 d s FU h23 1 = some g3 := by
    show X5_copyFrom_L90 d s (19996 + 1 + 1 + 1 + 1) h23 (nI 1) = _
    rw [X5_copyFrom_L90, if_pos (by decide), f1, Option.bind_some, nI_p1, X5_copyFrom_L90, if_pos (by decide), f2, Option.bind_some, nI_p1, X5_copyFrom_L90, if_pos (by decide), f3, Option.bind_some, nI_p1, X5_copyFrom_L90, if_neg (by decide)]
  rw [e90]; rfl
