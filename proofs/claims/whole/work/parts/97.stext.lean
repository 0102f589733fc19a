/-! TEXT, both sides -/
def rel (W V : Nat → Nat → Prop) (h h1 : HA) : Prop := hz h1 = hz h ∧ (∀ a, kd h1 a = kd h a) ∧ (∀ a k, ¬ W a k → gi h1 a k = gi h a k ∧ gj h1 a k = gj h a k) ∧ ∀ a k, ¬ V a k → ga h1 a k = ga h a k
theorem rel.tr {W V : Nat → Nat → Prop} {h h1 h2 : HA} (p : rel W V h h1) (q : rel W V h1 h2) : rel W V h h2 :=
  ⟨q.1.trans p.1, fun a => (q.2.1 a).trans (p.2.1 a), fun a k w => ⟨(q.2.2.1 a k w).1.trans (p.2.2.1 a k w).1, (q.2.2.1 a k w).2.trans (p.2.2.1 a k w).2⟩, fun a k w => (q.2.2.2 a k w).trans (p.2.2.2 a k w)⟩
theorem rel_ch {W W' V : Nat → Nat → Prop} {h h1 : HA} (p : ch W' h h1) (hw : ∀ a k, W' a k → W a k) : rel W V h h1 :=
  ⟨p.1, p.2.1, fun a k w => ⟨p.gi (fun z => w (hw a k z)), p.gj (fun z => w (hw a k z))⟩, fun a k _ => p.2.2.1 a k⟩
theorem rel_sa {W V : Nat → Nat → Prop} {h : HA} {a k : Nat} {v : Option Nat} (hv : V a k) : rel W V h (sa h a k v) :=
  ⟨rfl, fun _ => rfl, fun _ _ _ => ⟨rfl, rfl⟩, fun c j w => by
    rw [ga_sa, if_neg]
    rintro ⟨rfl, rfl⟩
    exact w hv⟩
theorem rel.mo {W V W' V' : Nat → Nat → Prop} {h h1 : HA} (p : rel W V h h1) (hw : ∀ a k, W a k → W' a k) (hv : ∀ a k, V a k → V' a k) : rel W' V' h h1 :=
  ⟨p.1, p.2.1, fun a k w => p.2.2.1 a k (fun z => w (hw a k z)), fun a k w => p.2.2.2 a k (fun z => w (hv a k z))⟩
theorem rel.sm {W V : Nat → Nat → Prop} {h h1 : HA} (p : rel W V h h1) {a : Nat} (hw : ∀ k, ¬ W a k) (hv : ∀ k, ¬ V a k) : sm h h1 a :=
  ⟨p.2.1 a, fun k => (p.2.2.1 a k (hw k)).1, fun k => (p.2.2.1 a k (hw k)).2, fun k => p.2.2.2 a k (hv k)⟩
theorem FX_rel {W : Nat → Nat → Prop} {h h1 : HA} {b : Nat} (hf : FX h b) (p : rel W (Wtg b) h h1) : FX h1 b := by
  refine FX_kd hf (Nat.le_of_eq p.1.symm) (fun a _ => p.2.1 a) (fun x hx => ?_) (fun k _ => ?_) (fun k => ?_)
  · have : ∀ x, x ∈ fxr → x.1 ≠ 4 ∧ x.1 ≠ 5 ∧ x.1 ≠ 38 ∧ (x.1 = 31 → x.2.1 ≠ 0 ∧ x.2.1 ≠ 4) := by decide
    have := this x hx
    exact p.2.2.2 _ _ (by unfold Wtg; omega)
  · exact p.2.2.2 _ _ (by unfold Wtg; omega)
  · exact p.2.2.2 _ _ (by unfold Wtg; omega)
theorem PJ_lns {B : Nat → Nat} {n s : Nat} : ∀ d (σ τ : ZS), PJ B n s σ → lnsF B n s d σ = .inr τ → PJ B n s τ := by
  intro d
  induction d with
  | zero =>
    intro σ τ hP e
    have := Sum.inr.inj e
    subst this; exact hP
  | succ d ih =>
    intro σ τ hP e
    by_cases hk : tK B n (zi σ) = 0
    · rw [lnsF, if_pos hk] at e
      have := Sum.inr.inj e
      subst this; exact hP
    · rw [lnsF_S hk] at e
      cases eS : lnS s B n σ with
      | inl q => rw [eS] at e; exact absurd e (by simp)
      | inr ρ =>
        rw [eS] at e
        exact ih ρ τ (PJ_ln hP eS).1 e
theorem txG_ok {B : Nat → Nat} {n s : Nat} (hs : s < 4) (h0 : (txG B n s).1.1 = 0) : (txG B n s).1.2 = -1 ∧ (1 ≤ s → WL s (txG B n s).2) := by
  cases eL : lnsF B n s (n + 1) (z0 s) with
  | inl q =>
    have eT : txG B n s = ((1, nI q), fun _ => 0) := by unfold txG; rw [eL]
    rw [eT] at h0
    exact absurd (show (1 : Int32) = 0 from h0) (by decide)
  | inr τ =>
    have eT0 : txG B n s = if s = 0 ∧ zf τ = 0 ∧ wrg τ = true then ((4, nI n), fun _ => 0) else ((zf τ, if zf τ = 0 then -1 else zp τ), if s = 0 then zTC (zC τ) (zT τ) else zC τ) := by unfold txG; rw [eL]
    by_cases hc : s = 0 ∧ zf τ = 0 ∧ wrg τ = true
    · rw [eT0, if_pos hc] at h0
      exact absurd (show (4 : Int32) = 0 from h0) (by decide)
    · rw [eT0, if_neg hc] at h0
      have z : zf τ = 0 := h0
      have P := PJ_lns _ _ _ (PJ_0 B n s) eL
      have g := GI_lns hs (fun σ τ h1 h2 => (PJ_ln h1 h2).1) (n + 1) (z0 s) τ (PJ_0 B n s) (GI_0 s) eL z
      rw [eT0, if_neg hc]
      refine ⟨if_pos z, fun s1 => ?_⟩
      show WL s (if s = 0 then zTC (zC τ) (zT τ) else zC τ)
      rw [if_neg (by omega)]
      obtain ⟨q1, q2⟩ := P.2.2.2.2 s1
      exact ⟨q2, q1, g.2 s1⟩
theorem count_c {y : HA} {b s k N : Nat} (hf : FX y b) (s4 : s < 4) (hN : gi y (b + 3) s = nI N) (h2 : N ≤ 2) (hk : k < 2) :
    ∃ h29, ((gR y b 8 0).bind fun x28 => (gR y x28 6 4).bind fun x29 => (ldI y x29 20 (nI s)).bind fun x30 => if nI k = x30 then (gR y b 8 0).bind fun x31 => (gR y x31 6 4).bind fun x32 => (ldI y x32 20 (nI s)).bind fun x33 => (asI y x32 20 (nI s) (x33 + 1)).bind fun h34 => some h34 else some y) = some h29 ∧ ch (fun a j => a = b + 3 ∧ j = s) y h29 ∧ gi h29 (b + 3) s = nI (if k = N then N + 1 else N) := by
  have ld : ldI y (b + 3) 20 (nI s) = some (nI N) := by rw [ldI_n (fx_kcnt hf) (by omega) (by omega), hN]
  rw [fx_told hf, Option.bind_some, fx_cnt hf, Option.bind_some, ld, Option.bind_some]
  by_cases e : k = N
  · rw [if_pos (by rw [e]), Option.bind_some, fx_cnt hf, Option.bind_some, ld, Option.bind_some, nI_p1, asI_n (fx_kcnt hf) (by omega) (by omega), Option.bind_some, if_pos e]
    exact ⟨_, rfl, ch_si ⟨rfl, rfl⟩, by rw [gi_si, if_pos ⟨rfl, rfl⟩]⟩
  · rw [if_neg (fun z => e (nI_inj (by omega) (by omega) z)), if_neg e]
    exact ⟨y, rfl, ch_rf _ _, hN⟩
theorem ckeep0 {h : HA} {b k N : Nat} {α : Nat → Nat} (hf : FX h b) (c4 : ∀ j, j < 2 → ga h (b + 4) j = some (α j)) (r0 : ga h (b + 31) 0 = some (α 2)) (k1 : kd h (α 2) = (1, 0)) (hk : k < 2) (hN : gi h (b + 3) 0 = nI N) (h2 : N ≤ 2) :
    ∃ h29, X7_keepDraft h b (nI 0) (nI k) = some h29 ∧ rel (fun a j => a = b + 3 ∧ j = 0) (fun a j => (a = b + 4 ∧ j = k) ∨ (a = b + 31 ∧ j = 0)) h h29 ∧ gi h29 (b + 3) 0 = nI (if k = N then N + 1 else N) ∧ ga h29 (b + 4) k = some (α 2) ∧ ga h29 (b + 31) 0 = some (α k) := by
  obtain ⟨x, hx⟩ : ∃ x, x = sa h (b + 4) k (some (α 2)) := ⟨_, rfl⟩
  obtain ⟨y, hy⟩ : ∃ y, y = sa x (b + 31) 0 (some (α k)) := ⟨_, rfl⟩
  have q1 : rel (fun a j => a = b + 3 ∧ j = 0) (fun a j => (a = b + 4 ∧ j = k) ∨ (a = b + 31 ∧ j = 0)) h x := by rw [hx]; exact rel_sa (Or.inl ⟨rfl, rfl⟩)
  have q2 : rel (fun a j => a = b + 3 ∧ j = 0) (fun a j => (a = b + 4 ∧ j = k) ∨ (a = b + 31 ∧ j = 0)) h y := q1.tr (by rw [hy]; exact rel_sa (Or.inr ⟨rfl, rfl⟩))
  have mV : ∀ a j, (a = b + 4 ∧ j = k) ∨ (a = b + 31 ∧ j = 0) → Wtg b a j := fun a j w => by unfold Wtg; omega
  have f1 := FX_rel hf (q1.mo (fun _ _ w => w) mV)
  have f2 := FX_rel hf (q2.mo (fun _ _ w => w) mV)
  obtain ⟨h29, e3, c3, g3⟩ := count_c (k := k) f2 (by omega) (show gi y (b + 3) 0 = nI N by rw [hy, hx]; exact hN) h2 hk
  refine ⟨h29, ?_, q2.tr (rel_ch c3 (fun _ _ w => w)), g3, ?_, ?_⟩
  · unfold X7_keepDraft
    rw [if_pos (by rw [fx_x hf]), if_pos (show nI 0 = 0 from rfl), fx_told hf, Option.bind_some, fx_crt hf, Option.bind_some, ldR_n (fx_kcrt hf) hk (by omega), c4 k hk, Option.bind_some, Option.bind_some, fx_crt hf, Option.bind_some, fx_rd hf, Option.bind_some, gR_n (fx_k31 hf), r0, Option.bind_some, asR_n (fx_kcrt hf) hk (by omega) (by rw [k1]; rfl), Option.bind_some, ← hx, fx_rd f1, Option.bind_some, pR_n (fx_k31 f1), Option.bind_some, ← hy, Option.bind_some]
    exact e3
  · rw [c3.2.2.1, hy, ga_sa, if_neg (by omega), hx, ga_sa, if_pos ⟨rfl, rfl⟩]
  · rw [c3.2.2.1, hy, ga_sa, if_pos ⟨rfl, rfl⟩]
theorem ckeepL {h : HA} {b s k N : Nat} {lm : Nat → Nat → Nat} (hf : FX h b) (s1 : 1 ≤ s) (s4 : s < 4) (c4 : ∀ j, j < 2 → ga h (b + 5) (2 * s + j) = some (lm s j)) (r0 : ga h (b + 38) s = some (lm s 2)) (k1 : kd h (lm s 2) = (3, 0)) (k0 : kd h (lm s k) = (3, 0)) (hk : k < 2) (hN : gi h (b + 3) s = nI N) (h2 : N ≤ 2) :
    ∃ h29, X7_keepDraft h b (nI s) (nI k) = some h29 ∧ rel (fun a j => a = b + 3 ∧ j = s) (fun a j => (a = b + 5 ∧ j = 2 * s + k) ∨ (a = b + 38 ∧ j = s)) h h29 ∧ gi h29 (b + 3) s = nI (if k = N then N + 1 else N) ∧ ga h29 (b + 5) (2 * s + k) = some (lm s 2) ∧ ga h29 (b + 38) s = some (lm s k) := by
  obtain ⟨x, hx⟩ : ∃ x, x = sa h (b + 5) (2 * s + k) (some (lm s 2)) := ⟨_, rfl⟩
  obtain ⟨y, hy⟩ : ∃ y, y = sa x (b + 38) s (some (lm s k)) := ⟨_, rfl⟩
  have q1 : rel (fun a j => a = b + 3 ∧ j = s) (fun a j => (a = b + 5 ∧ j = 2 * s + k) ∨ (a = b + 38 ∧ j = s)) h x := by rw [hx]; exact rel_sa (Or.inl ⟨rfl, rfl⟩)
  have q2 : rel (fun a j => a = b + 3 ∧ j = s) (fun a j => (a = b + 5 ∧ j = 2 * s + k) ∨ (a = b + 38 ∧ j = s)) h y := q1.tr (by rw [hy]; exact rel_sa (Or.inr ⟨rfl, rfl⟩))
  have mV : ∀ a j, (a = b + 5 ∧ j = 2 * s + k) ∨ (a = b + 38 ∧ j = s) → Wtg b a j := fun a j w => by unfold Wtg; omega
  have f1 := FX_rel hf (q1.mo (fun _ _ w => w) mV)
  have f2 := FX_rel hf (q2.mo (fun _ _ w => w) mV)
  obtain ⟨h29, e3, c3, g3⟩ := count_c (k := k) f2 s4 (show gi y (b + 3) s = nI N by rw [hy, hx]; exact hN) h2 hk
  have k38 : kd h (b + 38) = (26, 4) := hf.1 (38, (26, 4)) (by decide)
  have k38x : kd x (b + 38) = (26, 4) := by rw [hx]; exact k38
  have r31 : gR h (b + 31) 4 1 = some (b + 38) := by rw [gR_n (fx_k31 hf)]; exact hf.2.1 (31, 1, 38) (by decide)
  have r31x : gR x (b + 31) 4 1 = some (b + 38) := by rw [gR_n (fx_k31 f1)]; exact f1.2.1 (31, 1, 38) (by decide)
  refine ⟨h29, ?_, q2.tr (rel_ch c3 (fun _ _ w => w)), g3, ?_, ?_⟩
  · have sl : X5_slotOf (nI s) (nI k) = some (nI (2 * s + k)) := by
      unfold X5_slotOf
      rw [show (2 : Int32) = nI 2 from rfl, nI_mul, nI_add, Nat.mul_comm s 2]
    unfold X7_keepDraft
    rw [if_pos (by rw [fx_x hf]), if_neg (show ¬ nI s = 0 from fun z => by have := nI_inj (b := 0) (by omega) (by omega) z; omega), sl, Option.bind_some, fx_told hf, Option.bind_some, fx_lst hf, Option.bind_some, ldR_n (fx_klst hf) (by omega) (by omega), c4 k hk, Option.bind_some, Option.bind_some, fx_lst hf, Option.bind_some, fx_rd hf, Option.bind_some, r31, Option.bind_some, ldR_n k38 s4 (by omega), r0, Option.bind_some, asR_n (fx_klst hf) (by omega) (by omega) (by rw [k1]; rfl), Option.bind_some, ← hx, fx_rd f1, Option.bind_some, r31x, Option.bind_some, asR_n k38x s4 (by omega) (by rw [q1.2.1, k0]; rfl), Option.bind_some, ← hy, Option.bind_some]
    exact e3
  · rw [c3.2.2.1, hy, ga_sa, if_neg (by omega), hx, ga_sa, if_pos ⟨rfl, rfl⟩]
  · rw [c3.2.2.1, hy, ga_sa, if_pos ⟨rfl, rfl⟩]
/-- what the model finds -/
theorem m_in {h g : HA} {b : Nat} {D : DT} {α : Nat → Nat} {lm : Nat → Nat → Nat} {im : Nat → Option (Nat × DT)} (hi : IV h b D α lm im) {W V : Nat → Nat → Prop} (p : rel W V h g) (hw : ∀ a k, b + 55 ≤ a → a ≤ b + 64 → ¬ W a k) (hv : ∀ a k, b + 55 ≤ a → a ≤ b + 64 → ¬ V a k) {B : Nat → Nat} (hB : ∀ f, f < dL D → dT D f = sB (B f) ∧ B f < 256) :
    MS g (b + 55) ∧ gi g (b + 55 + 2) 0 = nI (dL D) ∧ (∀ f, f < dL D → gi g (b + 55 + 1) f = sB (B f) ∧ B f < 256) ∧ ∀ s, s < 4 → gi g (b + 55 + 5) s = nI (dN D s) ∧ dN D s ≤ 2 := by
  have ms := iv_ms hi
  have ht := iv_tk hi
  refine ⟨⟨by rw [p.2.1]; exact ms.1, fun i hi2 => ?_⟩, ?_, fun f hf => ?_, fun s hs => ⟨?_, (iv_w hi).2.1 s hs⟩⟩
  · rw [p.2.1, p.2.2.2 _ _ (hv _ _ (by omega) (by omega))]; exact ms.2 i hi2
  · rw [(p.2.2.1 _ _ (hw _ _ (by omega) (by omega))).1]; exact ht.2.2.2.2.1
  · rw [(p.2.2.1 _ _ (hw _ _ (by omega) (by omega))).1]
    have := ht.2.2.2.2.2.2.2 f hf
    rw [show b + 55 + 1 = b + 56 by omega, this]; exact hB f hf
  · rw [(p.2.2.1 _ _ (hw _ _ (by omega) (by omega))).1]
    have := (iv_m hi).2.2.2.2.1 s hs
    rw [show 4 * 0 + s = s by omega] at this
    exact this
