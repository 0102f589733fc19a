/-! what a run may change -/
def ch (W : Nat → Nat → Prop) (h h1 : HA) : Prop := hz h1 = hz h ∧ (∀ a, kd h1 a = kd h a) ∧ (∀ a k, ga h1 a k = ga h a k) ∧ (∀ a k, W a k ∨ gi h1 a k = gi h a k) ∧ (∀ a k, W a k ∨ gj h1 a k = gj h a k)
theorem ch_rf (W : Nat → Nat → Prop) (h : HA) : ch W h h := ⟨rfl, fun _ => rfl, fun _ _ => rfl, fun _ _ => Or.inr rfl, fun _ _ => Or.inr rfl⟩
theorem ch.tr {W : Nat → Nat → Prop} {h h1 h2 : HA} (p : ch W h h1) (q : ch W h1 h2) : ch W h h2 := by
  refine ⟨q.1.trans p.1, fun a => (q.2.1 a).trans (p.2.1 a), fun a k => (q.2.2.1 a k).trans (p.2.2.1 a k), fun a k => ?_, fun a k => ?_⟩
  · rcases q.2.2.2.1 a k with w | w
    · exact Or.inl w
    · rcases p.2.2.2.1 a k with v | v
      · exact Or.inl v
      · exact Or.inr (w.trans v)
  · rcases q.2.2.2.2 a k with w | w
    · exact Or.inl w
    · rcases p.2.2.2.2 a k with v | v
      · exact Or.inl v
      · exact Or.inr (w.trans v)
theorem ch.mo {W W' : Nat → Nat → Prop} {h h1 : HA} (p : ch W h h1) (q : ∀ a k, W a k → W' a k) : ch W' h h1 :=
  ⟨p.1, p.2.1, p.2.2.1, fun a k => (p.2.2.2.1 a k).imp (q a k) id, fun a k => (p.2.2.2.2 a k).imp (q a k) id⟩
theorem ch_si {W : Nat → Nat → Prop} {h : HA} {a k : Nat} {v : Int32} (hw : W a k) : ch W h (si h a k v) := by
  refine ⟨rfl, fun _ => rfl, fun _ _ => rfl, fun b j => ?_, fun _ _ => Or.inr rfl⟩
  rw [gi_si]
  by_cases e : b = a ∧ j = k
  · left; rw [e.1, e.2]; exact hw
  · right; rw [if_neg e]
theorem ch_sj {W : Nat → Nat → Prop} {h : HA} {a k : Nat} {v : Int64} (hw : W a k) : ch W h (sj h a k v) := by
  refine ⟨rfl, fun _ => rfl, fun _ _ => rfl, fun _ _ => Or.inr rfl, fun b j => ?_⟩
  rw [gj_sj]
  by_cases e : b = a ∧ j = k
  · left; rw [e.1, e.2]; exact hw
  · right; rw [if_neg e]
theorem ch.gi {W : Nat → Nat → Prop} {h h1 : HA} (p : ch W h h1) {a k : Nat} (hn : ¬ W a k) : gi h1 a k = gi h a k := (p.2.2.2.1 a k).resolve_left hn
theorem ch.gj {W : Nat → Nat → Prop} {h h1 : HA} (p : ch W h h1) {a k : Nat} (hn : ¬ W a k) : gj h1 a k = gj h a k := (p.2.2.2.2 a k).resolve_left hn
theorem ch.ms {W : Nat → Nat → Prop} {h h1 : HA} (p : ch W h h1) {m : Nat} (hs : MS h m) : MS h1 m := by
  refine ⟨by rw [p.2.1]; exact hs.1, fun i hi => ?_⟩
  rw [p.2.2.1, p.2.1]; exact hs.2 i hi
theorem ch.hs {W : Nat → Nat → Prop} {h h1 : HA} (p : ch W h h1) {m c : Nat} {C : CR} (hs : HS h m c C) (hm : ∀ k, 24 ≤ k → k ≤ 29 → ¬ W m k) (hc : ∀ k, ¬ W (m + 6) k) : HS h1 m c C :=
  HS_same hs p.2.1 p.2.2.1 (fun k h1 h2 => p.gi (hm k h1 h2)) (fun k => p.gi (hc k))
/-- a loop that keeps something -/
theorem loop_inv {α β : Type} (L : Nat → Nat → α → Option β) (I : Nat → α → Prop) (Q : β → Prop) (N : Nat)
    (step : ∀ k a fu, k < N → I k a → ∃ a', L (fu + 1) k a = L fu (k + 1) a' ∧ I (k + 1) a') (fin : ∀ a fu, I N a → ∃ r, L (fu + 1) N a = some r ∧ Q r)
    (a : α) (fu : Nat) (hi : I 0 a) (hf : N < fu) : ∃ r, L fu 0 a = some r ∧ Q r := by
  have key : ∀ n k fu a, k + n = N → n < fu → I k a → ∃ r, L fu k a = some r ∧ Q r := by
    intro n
    induction n with
    | zero =>
      intro k fu a hk hfu hI
      obtain ⟨q, rfl⟩ : ∃ q, fu = q + 1 := ⟨fu - 1, by omega⟩
      have : k = N := by omega
      subst this
      exact fin a q hI
    | succ n ih =>
      intro k fu a hk hfu hI
      obtain ⟨q, rfl⟩ : ∃ q, fu = q + 1 := ⟨fu - 1, by omega⟩
      obtain ⟨a', h1, h2⟩ := step k a q (by omega) hI
      rw [h1]
      exact ih (k + 1) q a' (by omega) (by omega) h2
  exact key N 0 fu a (by omega) hf hi
/-! THE FLOOD -/
def Wfl (m a : Nat) : Nat → Nat → Prop := fun b k => b = m + 14 ∨ (b = m + 13 ∧ 64 * a ≤ k ∧ k < 64 * a + 64)
theorem Wfl_hs {h h1 : HA} {m c a : Nat} {C : CR} (p : ch (Wfl m a) h h1) (hs : HS h m c C) : HS h1 m c C :=
  p.hs hs (fun k _ _ w => by unfold Wfl at w; omega) (fun k w => by unfold Wfl at w; omega)
theorem flood7 {h : HA} {m c a : Nat} {C : CR} (hs : HS h m c C) (ha : a < 64) :
    ∃ h1, X8_flood_L7 m (nI (64 * a)) FU h 0 = some h1 ∧ ch (Wfl m a) h h1 ∧ ∀ f, f < cF C → gi h1 (m + 13) (64 * a + f) = 1000 := by
  have hF := cF_le hs.2.1
  refine loop_inv (fun fu k (h : HA) => X8_flood_L7 m (nI (64 * a)) fu h (nI k)) (fun k h1 => ch (Wfl m a) h h1 ∧ ∀ f, f < k → gi h1 (m + 13) (64 * a + f) = 1000)
    (fun h1 => ch (Wfl m a) h h1 ∧ ∀ f, f < cF C → gi h1 (m + 13) (64 * a + f) = 1000) (cF C) ?_ ?_ h FU ⟨ch_rf _ _, fun f hf => by omega⟩ (FU_gt (by omega))
  · intro k h1 fu hk hI
    obtain ⟨i1, i2⟩ := hI
    have hs1 := Wfl_hs i1 hs
    refine ⟨si h1 (m + 13) (64 * a + k) 1000, ?_, ?_, ?_⟩
    · show X8_flood_L7 m (nI (64 * a)) (fu + 1) h1 (nI k) = _
      rw [X8_flood_L7, ms_I hs1.1, hs1.2.2.2.2.2.2.1, Option.bind_some, if_pos ((lt_n (by omega) (by omega)).mpr hk), ms_r30 hs1.1, Option.bind_some, nI_add, asI_n (ms_k30 hs1.1) (by omega) (by omega), Option.bind_some, nI_p1]
    · exact i1.tr (ch_si (Or.inr ⟨rfl, by omega, by omega⟩))
    · intro f hf
      rw [gi_si]
      by_cases e : f = k
      · rw [if_pos ⟨rfl, by omega⟩]
      · rw [if_neg (by omega)]; exact i2 f (by omega)
  · intro h1 fu hI
    have hs1 := Wfl_hs hI.1 hs
    refine ⟨h1, ?_, hI⟩
    show X8_flood_L7 m (nI (64 * a)) (fu + 1) h1 (nI (cF C)) = _
    rw [X8_flood_L7, ms_I hs1.1, hs1.2.2.2.2.2.2.1, Option.bind_some, if_neg (by rw [lt_n (by omega) (by omega)]; omega)]
/-- labels and queue as they lie in the heap -/
def FL (h : HA) (m a : Nat) (C : CR) (A q : Nat → Nat) (n : Nat) : Prop := (∀ f, f < cF C → A f ≤ 1000 ∧ gi h (m + 13) (64 * a + f) = nI (A f)) ∧ ∀ i, i < n → gi h (m + 14) i = nI (q i)
theorem flood71 {h : HA} {m c a : Nat} {C : CR} (hs : HS h m c C) (ha : a < 64) {A q : Nat → Nat} {n k : Nat} (hk : k < n) (hB : BI C a A q n k 0) (hL : FL h m a C A q n) :
    ∃ r, X8_flood_L71 m (nI (64 * a)) (nI k) FU h (nI n) 0 = some r ∧ ∃ h1 A1 q1 n1, r = (nI n1, h1) ∧ ch (Wfl m a) h h1 ∧ BI C a A1 q1 n1 k 4 ∧ FL h1 m a C A1 q1 n1 ∧ k < n1 := by
  have hF := cF_le hs.2.1
  refine loop_inv (fun fu s (x : Int32 × HA) => X8_flood_L71 m (nI (64 * a)) (nI k) fu x.2 x.1 (nI s)) (fun s x => ∃ h1 A1 q1 n1, x = (nI n1, h1) ∧ ch (Wfl m a) h h1 ∧ BI C a A1 q1 n1 k s ∧ FL h1 m a C A1 q1 n1 ∧ k < n1)
    _ 4 ?_ ?_ (nI n, h) FU ⟨h, A, q, n, rfl, ch_rf _ _, hB, hL, hk⟩ (FU_gt (by omega))
  · rintro s x fu hs4 ⟨h1, A1, q1, n1, rfl, i1, i2, i3, i4⟩
    have hs1 := Wfl_hs i1 hs
    have hn1 := BI_n i2
    have hqk := (i2.2.2.2.2.1 k i4)
    have hqF := op_lt hqk.1
    simp only []
    rw [X8_flood_L71, if_pos (show nI s < 4 from (lt_n (b := 4) (by omega) (by omega)).mpr hs4), ms_r31 hs1.1, Option.bind_some, ldI_n (ms_k31 hs1.1) (by omega) (by omega), Option.bind_some, i3.2 k i4, stepTo_n hs1 hqF hs4, Option.bind_some]
    cases hg : stp C (q1 k) s with
    | none =>
      refine ⟨(nI n1, h1), ?_, h1, A1, q1, n1, rfl, i1, BI_skip hs.2.1 i2 i4 (fun g h => by rw [hg] at h; simp at h), i3, i4⟩
      rw [on_n, if_pos rfl, nI_p1]
    | some g =>
      have hgF := op_lt (stp_op hg)
      have hAg := i3.1 g hgF
      rw [on_s, if_neg (nI_nm1 (by omega)), ms_r30 hs1.1, Option.bind_some, nI_add, ldI_n (ms_k30 hs1.1) (by omega) (by omega), Option.bind_some, hAg.2]
      by_cases hA : A1 g = 1000
      · have hp := BI_push hs.2.1 i2 i4 hs4 hg hA
        have hqA := i3.1 (q1 k) hqF
        refine ⟨(nI (n1 + 1), si (si h1 (m + 13) (64 * a + g) (nI (A1 (q1 k) + 1))) (m + 14) n1 (nI g)), ?_, _, _, _, _, rfl, ?_, hp.1, ?_, by omega⟩
        · rw [if_pos (show nI (A1 g) = 1000 by rw [hA]; rfl), Option.bind_some, Option.bind_some, Option.bind_some, ldI_n (ms_k31 hs1.1) (by omega) (by omega), Option.bind_some, i3.2 k i4, nI_add, ldI_n (ms_k30 hs1.1) (by omega) (by omega), Option.bind_some, hqA.2,
            asI_n (ms_k30 hs1.1) (by omega) (by omega), Option.bind_some, nI_p1]
          have hm2 : MS (si h1 (m + 13) (64 * a + g) (nI (A1 (q1 k) + 1))) m := (ch_si (W := fun _ _ => True) trivial).ms hs1.1
          rw [ms_r31 hm2, Option.bind_some, asI_n (ms_k31 hm2) (by omega) (by omega), Option.bind_some, nI_p1, nI_p1]
        · exact (i1.tr (ch_si (Or.inr ⟨rfl, by omega, by omega⟩))).tr (ch_si (Or.inl rfl))
        · constructor
          · intro f hf
            rw [gi_si, if_neg (by omega), gi_si]
            by_cases e : f = g
            · subst e
              rw [if_pos ⟨rfl, rfl⟩, fset_eq]; exact ⟨by have := hqk.2.1; omega, rfl⟩
            · rw [if_neg (by omega), fset_ne e]; exact i3.1 f hf
          · intro i hi
            rw [gi_si]
            by_cases e : i = n1
            · subst e; rw [if_pos ⟨rfl, rfl⟩, fset_eq]
            · rw [if_neg (by omega), fset_ne e, gi_si, if_neg (by omega)]; exact i3.2 i (by omega)
      · refine ⟨(nI n1, h1), ?_, h1, A1, q1, n1, rfl, i1, BI_skip hs.2.1 i2 i4 (fun g' h => by rw [hg] at h; simp at h; subst h; exact hA), i3, i4⟩
        rw [if_neg (show ¬ nI (A1 g) = 1000 from fun e => hA (nI_inj (b := 1000) (by omega) (by omega) e)), nI_p1]
  · rintro x fu ⟨h1, A1, q1, n1, rfl, i1, i2, i3, i4⟩
    refine ⟨(nI n1, h1), ?_, h1, A1, q1, n1, rfl, i1, i2, i3, i4⟩
    simp only []
    rw [X8_flood_L71, if_neg (by decide)]

theorem flood62 {h : HA} {m c a : Nat} {C : CR} (hs : HS h m c C) (ha : a < 64) {A q : Nat → Nat} (hB : BI C a A q 1 0 0) (hL : FL h m a C A q 1) :
    ∃ h1, X8_flood_L62 m (nI (64 * a)) FU h 1 0 = some h1 ∧ ch (Wfl m a) h h1 ∧ ∀ f, f < cF C → gi h1 (m + 13) (64 * a + f) = nI (ds C a f) := by
  have hF := cF_le hs.2.1
  have key : ∀ (d fu k n : Nat) (h1 : HA) (A q : Nat → Nat), n ≤ 64 → k + d = 64 → d < fu → ch (Wfl m a) h h1 → BI C a A q n k 0 → FL h1 m a C A q n →
      ∃ h2, X8_flood_L62 m (nI (64 * a)) fu h1 (nI n) (nI k) = some h2 ∧ ch (Wfl m a) h h2 ∧ ∀ f, f < cF C → gi h2 (m + 13) (64 * a + f) = nI (ds C a f) := by
    intro d
    induction d with
    | zero =>
      intro fu k n h1 A q hn hk hfu i1 i2 i3
      obtain ⟨fu, rfl⟩ : ∃ q, fu = q + 1 := ⟨fu - 1, by omega⟩
      have hkn : k = n := by have := i2.2.2.1; omega
      subst hkn
      refine ⟨h1, ?_, i1, fun f hf => ?_⟩
      · rw [X8_flood_L62, if_neg (by rw [lt_n (by omega) (by omega)]; omega)]
      · rw [(i3.1 f hf).2, BI_end hs.2.1 i2 f hf]
    | succ d ih =>
      intro fu k n h1 A q hn hk hfu i1 i2 i3
      obtain ⟨fu, rfl⟩ : ∃ q, fu = q + 1 := ⟨fu - 1, by omega⟩
      by_cases hkn : k < n
      · obtain ⟨r, h2, h3, A1, q1, n1, rfl, h5, h6, h7, h8⟩ := flood71 (Wfl_hs i1 hs) ha hkn i2 i3
        have hn1 := BI_n h6
        obtain ⟨h9, h10, h11⟩ := ih fu (k + 1) n1 h3 A1 q1 (by omega) (by omega) (by omega) (i1.tr h5) (BI_adv h6 h8) h7
        refine ⟨h9, ?_, h11⟩
        rw [X8_flood_L62, if_pos ((lt_n (by omega) (by omega)).mpr hkn), h2, Option.bind_some, nI_p1]
        exact h10
      · have hkn : k = n := by have := i2.2.2.1; omega
        subst hkn
        refine ⟨h1, ?_, i1, fun f hf => ?_⟩
        · rw [X8_flood_L62, if_neg (by rw [lt_n (by omega) (by omega)]; omega)]
        · rw [(i3.1 f hf).2, BI_end hs.2.1 i2 f hf]
  exact key 64 FU 0 1 h A q (by omega) (by omega) (FU_gt (by omega)) (ch_rf _ _) hB hL
/-- how far in the model's table -/
def md (C : CR) (a f : Nat) : Nat := if op C a = true then ds C a f else 1000
theorem md_le (C : CR) (a f : Nat) : md C a f ≤ 1000 := by
  unfold md
  split
  · rcases ds_cases C a f with h | h <;> omega
  · exact Nat.le_refl _
theorem flood_ok {h : HA} {m c a : Nat} {C : CR} (hs : HS h m c C) (ha : a < cF C) :
    ∃ h1, X8_flood h m (nI a) = some h1 ∧ ch (Wfl m a) h h1 ∧ ∀ f, f < cF C → gi h1 (m + 13) (64 * a + f) = nI (md C a f) := by
  have hF := cF_le hs.2.1
  obtain ⟨h1, e1, c1, g1⟩ := flood7 hs (a := a) (by omega)
  have hs1 := Wfl_hs c1 hs
  unfold X8_flood
  rw [if_pos (ms_c hs.1), show (64 : Int32) * nI a = nI (64 * a) from nI_mul 64 a, e1, Option.bind_some, isWall_n hs1 (by omega), Option.bind_some]
  cases hw : wl C a with
  | true =>
    refine ⟨h1, by rw [if_neg (by decide)], c1, fun f hf => ?_⟩
    rw [g1 f hf]
    have : ¬ op C a = true := fun z => by rw [op_wl z] at hw; simp at hw
    unfold md
    rw [if_neg this]; rfl
  | false =>
    have ho : op C a = true := by unfold op; simp [ha, hw]
    rw [if_pos bI_f, ms_r31 hs1.1, Option.bind_some, show (0 : Int32) = nI 0 from rfl, asI_n (ms_k31 hs1.1) (by omega) (by omega), Option.bind_some]
    have c2 : ch (Wfl m a) h1 (si h1 (m + 14) 0 (nI a)) := ch_si (Or.inl rfl)
    have hs2 := Wfl_hs c2 hs1
    rw [ms_r30 hs2.1, Option.bind_some, nI_add, asI_n (ms_k30 hs2.1) (by omega) (by omega), Option.bind_some]
    have c3 : ch (Wfl m a) (si h1 (m + 14) 0 (nI a)) (si (si h1 (m + 14) 0 (nI a)) (m + 13) (64 * a + a) (nI 0)) := ch_si (Or.inr ⟨rfl, by omega, by omega⟩)
    have hs3 := Wfl_hs c3 hs2
    obtain ⟨h4, e4, c4, g4⟩ := flood62 hs3 (a := a) (by omega) (BI_init ho) ⟨fun f hf => by
      rw [gi_si]
      by_cases e : f = a
      · subst e; rw [if_pos ⟨rfl, rfl⟩, fset_eq]; exact ⟨by omega, rfl⟩
      · rw [if_neg (by omega), gi_si, if_neg (by omega), g1 f hf, fset_ne e]; exact ⟨by omega, rfl⟩, fun i hi => by
      have : i = 0 := by omega
      subst this
      rw [gi_si, if_neg (by omega), gi_si, if_pos ⟨rfl, rfl⟩, fset_eq]⟩
    refine ⟨h4, ?_, ((c1.tr c2).tr c3).tr c4, fun f hf => ?_⟩
    · rw [show X8_flood_L62 m (nI (64 * a)) FU _ 1 (nI 0) = _ from e4]; rfl
    · rw [g4 f hf]; unfold md; rw [if_pos ho]
/-- the hand is laid: how far all FIELDS are -/
def HT (h : HA) (m c : Nat) (C : CR) : Prop := HS h m c C ∧ ∀ a f, a < cF C → f < cF C → gi h (m + 13) (64 * a + f) = nI (md C a f)
def Whd (m : Nat) : Nat → Nat → Prop := fun b k => b = m + 14 ∨ b = m + 13
theorem hand67 {h : HA} {m c : Nat} {C : CR} (hs : HS h m c C) : ∃ h1, X8_hand_L67 m FU h 0 = some h1 ∧ ch (Whd m) h h1 ∧ HT h1 m c C := by
  have hF := cF_le hs.2.1
  have hh : ∀ {h1 : HA}, ch (Whd m) h h1 → HS h1 m c C := fun p => p.hs hs (fun k _ _ w => by unfold Whd at w; omega) (fun k w => by unfold Whd at w; omega)
  refine loop_inv (fun fu k (h : HA) => X8_hand_L67 m fu h (nI k)) (fun k h1 => ch (Whd m) h h1 ∧ ∀ a f, a < k → f < cF C → gi h1 (m + 13) (64 * a + f) = nI (md C a f))
    _ (cF C) ?_ ?_ h FU ⟨ch_rf _ _, fun a f hf => by omega⟩ (FU_gt (by omega))
  · intro k h1 fu hk hI
    obtain ⟨i1, i2⟩ := hI
    have hs1 := hh i1
    obtain ⟨h2, e2, c2, g2⟩ := flood_ok hs1 hk
    refine ⟨h2, ?_, ?_, ?_⟩
    · show X8_hand_L67 m (fu + 1) h1 (nI k) = _
      rw [X8_hand_L67, ms_I hs1.1, hs1.2.2.2.2.2.2.1, Option.bind_some, if_pos ((lt_n (by omega) (by omega)).mpr hk), e2, Option.bind_some, nI_p1]
    · exact i1.tr (c2.mo fun b j w => by unfold Wfl at w; unfold Whd; omega)
    · intro a f ha hf
      by_cases e : a = k
      · subst e; exact g2 f hf
      · rw [c2.gi (by unfold Wfl; omega)]; exact i2 a f (by omega) hf
  · intro h1 fu hI
    have hs1 := hh hI.1
    refine ⟨h1, ?_, hI.1, hs1, hI.2⟩
    show X8_hand_L67 m (fu + 1) h1 (nI (cF C)) = _
    rw [X8_hand_L67, ms_I hs1.1, hs1.2.2.2.2.2.2.1, Option.bind_some, if_neg (by rw [lt_n (by omega) (by omega)]; omega)]
