/-! TEXT: a line keeps order; the class reads a text -/
theorem PJ_slots {B : Nat → Nat} {n s f : Nat} : ∀ d k (σ : ZS) (v : Nat → Int32) z, PJ B n s σ → slots B n f d k σ v = .inr z → PJ B n s z.1 ∧ zi σ ≤ zi z.1 := by
  intro d
  induction d with
  | zero =>
    intro k σ v z hP e
    have := Sum.inr.inj e
    subst this
    exact ⟨hP, Nat.le_refl _⟩
  | succ d ih =>
    intro k σ v z hP e
    rw [slots] at e
    cases es : slot B n f k σ with
    | inl q => rw [es] at e; exact absurd e (by simp)
    | inr y =>
      rw [es] at e
      obtain ⟨a1, a2, _⟩ := slot_ok hP es
      obtain ⟨b1, b2⟩ := ih (k + 1) y.1 _ z a1 e
      exact ⟨b1, by omega⟩
theorem PJ_wlp {B : Nat → Nat} {n s : Nat} : ∀ d (σ : ZS), PJ B n s σ → PJ B n s (wlp B n d σ) ∧ zi σ ≤ zi (wlp B n d σ) := by
  intro d
  induction d with
  | zero => intro σ hP; exact ⟨hP, Nat.le_refl _⟩
  | succ d ih =>
    intro σ hP
    rw [wlp]
    by_cases hk : tK B n (zi σ) = 2
    · rw [if_pos hk]
      obtain ⟨y, ey⟩ := slot_wall hk
      rw [ey]
      obtain ⟨a1, a2, _⟩ := slot_ok hP ey
      obtain ⟨b1, b2⟩ := ih y.1 a1
      exact ⟨b1, by show zi σ ≤ zi (wlp B n d y.1); omega⟩
    · rw [if_neg hk]; exact ⟨hP, Nat.le_refl _⟩
/-- a line but for its end -/
def lnG (B : Nat → Nat) (n f : Nat) (σ : ZS) : Nat ⊕ ZS :=
  match slots B n f (fnm f) 0 (nt B n (if tmy f (zC σ) = true then ft 3 (tB B n (zi σ)) σ else σ)) (fun _ => -1) with
  | .inl q => .inl q
  | .inr z => .inr (kp f z.2 (if f = 1 then wlp B n (n - zi z.1) z.1 else z.1))
theorem lnF_G (B : Nat → Nat) (n f : Nat) (σ : ZS) : lnF B n f σ = match lnG B n f σ with
  | .inl q => .inl q
  | .inr τ => if tK B n (zi τ) = 4 then .inr (nt B n τ) else .inl (tB B n (zi τ)) := by
  unfold lnF lnG
  cases slots B n f (fnm f) 0 (nt B n (if tmy f (zC σ) = true then ft 3 (tB B n (zi σ)) σ else σ)) (fun _ => -1) with
  | inl q => rfl
  | inr z => rfl
theorem PK_1 {B : Nat → Nat} {n f : Nat} {σ : ZS} (hP : PJ B n (fsr f) σ) : PK B n (fsr f) (if tmy f (zC σ) = true then ft 3 (tB B n (zi σ)) σ else σ) ∧ zi (if tmy f (zC σ) = true then ft 3 (tB B n (zi σ)) σ else σ) = zi σ := by
  by_cases h : tmy f (zC σ) = true
  · rw [if_pos h]; exact ⟨PJ_ft (Or.inr rfl) hP, zi_ft _ _ _⟩
  · rw [if_neg h]; exact ⟨PJ_PK hP, rfl⟩
theorem PJ_lnG {B : Nat → Nat} {n f : Nat} {σ τ : ZS} (hf : f < 12) (hk : tK B n (zi σ) ≠ 0) (hP : PJ B n (fsr f) σ) (e : lnG B n f σ = .inr τ) : PK B n (fsr f) τ ∧ zi σ < zi τ := by
  unfold lnG at e
  obtain ⟨p1, p2⟩ := PK_1 hP
  have p3 := PK_nt p1 (by rw [p2]; exact hk)
  have z3 : zi σ < zi (nt B n (if tmy f (zC σ) = true then ft 3 (tB B n (zi σ)) σ else σ)) := by
    show zi σ < tR B n (zi _)
    rw [p2]; exact (tRR hP.1 hk).2
  cases es : slots B n f (fnm f) 0 (nt B n (if tmy f (zC σ) = true then ft 3 (tB B n (zi σ)) σ else σ)) (fun _ => -1) with
  | inl q => rw [es] at e; exact absurd e (by simp)
  | inr z =>
    rw [es] at e
    have := Sum.inr.inj e
    subst this
    obtain ⟨a1, a2⟩ := PJ_slots _ _ _ _ z p3 es
    have key : PJ B n (fsr f) (if f = 1 then wlp B n (n - zi z.1) z.1 else z.1) ∧ zi z.1 ≤ zi (if f = 1 then wlp B n (n - zi z.1) z.1 else z.1) := by
      by_cases f1 : f = 1
      · rw [if_pos f1]; exact PJ_wlp _ _ a1
      · rw [if_neg f1]; exact ⟨a1, Nat.le_refl _⟩
    refine ⟨PK_kp hf (PJ_PK key.1), ?_⟩
    rw [(zi_kp _ _ _).1]
    have := key.2
    omega
theorem PJ_ln {B : Nat → Nat} {n s : Nat} {σ τ : ZS} (hP : PJ B n s σ) (e : lnS s B n σ = .inr τ) : PJ B n s τ ∧ zi σ < zi τ := by
  unfold lnS at e
  rcases fmO_c s B n (zi σ) with e1 | ⟨hf, hfs, hw, hk1⟩
  · rw [if_pos e1] at e; exact absurd e (by simp)
  · rw [if_neg (by omega), lnF_G] at e
    obtain ⟨f, ef⟩ : ∃ f, f = fmO s B n (zi σ) := ⟨_, rfl⟩
    rw [← ef] at hf hfs e
    subst hfs
    cases eg : lnG B n f σ with
    | inl q => rw [eg] at e; exact absurd e (by simp)
    | inr ρ =>
      rw [eg] at e
      dsimp only at e
      obtain ⟨a1, a2⟩ := PJ_lnG hf (by omega) hP eg
      by_cases hk : tK B n (zi ρ) = 4
      · rw [if_pos hk] at e
        have := Sum.inr.inj e
        subst this
        refine ⟨PK_nt a1 (by omega), ?_⟩
        show zi σ < tR B n (zi ρ)
        have := (tRR a1.1 (show tK B n (zi ρ) ≠ 0 by omega)).2
        omega
      · rw [if_neg hk] at e; exact absurd e (by simp)
def Wrx (r nr c l s : Nat) : Nat → Nat → Prop := fun a k => a = r ∨ a = nr ∨ (c ≤ a ∧ a ≤ c + 5) ∨ (1 ≤ s ∧ ((a = l ∧ k = 2) ∨ a = l + 1))
theorem Wrl_rd {r nr c l s a k : Nat} (w : Wrl r nr c l s a k) : Wrx r nr c l s a k := by
  rcases w with (w | w | w | w) | w
  · exact Or.inl w.1
  · exact Or.inr (Or.inl w)
  · exact Or.inr (Or.inr (Or.inl w.2))
  · exact Or.inr (Or.inr (Or.inr w))
  · exact Or.inr (Or.inr (Or.inl ⟨by omega, by omega⟩))
theorem read_c {h : HA} {r tp nr ls c l n s : Nat} {B : Nat → Nat} (hs : s < 4) (kr : kd h r = (4, 0)) (kt : kd h tp = (22, 600)) (hn : n ≤ 600) (ht : ∀ f, f < n → gi h tp f = sB (B f) ∧ B f < 256) (x4 : ga h r 10 = some nr) (x5 : kd h nr = (20, 4)) (x6 : ga h r 0 = some c) (x7 : ga h r 1 = some ls) (x8 : kd h ls = (26, 4)) (hc : CS h c) (hl : 1 ≤ s → ga h ls s = some l ∧ LiS h l s) (nd : ND r tp nr ls c l) (ntr : tp ≠ r) (nlr : ls ≠ r) (nll : ls ≠ l) :
    ∃ h1, X3_read h r tp (nI n) (nI s) = some h1 ∧ ch (Wrx r nr c l s) (sa h r 4 (some tp)) h1 ∧ gi h1 r 2 = (txG B n s).1.1 ∧ ((txG B n s).1.1 ≠ 0 → gi h1 r 3 = (txG B n s).1.2) ∧ ((txG B n s).1.1 = 0 → (s = 0 → CQ h1 c (txG B n s).2) ∧ (1 ≤ s → LL h1 l s (txG B n s).2)) := by
  have ncr := nd.1 c (by omega) (by omega)
  have nlr0 := nd.2.1 l (by omega) (by omega)
  have nlr1 := nd.2.1 (l + 1) (by omega) (by omega)
  obtain ⟨g0, hg0⟩ : ∃ g0, g0 = sa h r 4 (some tp) := ⟨_, rfl⟩
  have ga0 : ∀ a k, (a ≠ r ∨ k ≠ 4) → ga g0 a k = ga h a k := fun a k z => by rw [hg0, ga_sa, if_neg (by omega)]
  have k0 : ∀ a, kd g0 a = kd h a := fun a => by rw [hg0]; rfl
  have i0 : ∀ a k, gi g0 a k = gi h a k := fun a k => by rw [hg0]; rfl
  obtain ⟨g, hg⟩ : ∃ g, g = si (sj (si (si (si (si g0 r 5 (nI n)) r 6 0) r 2 0) r 3 (-1)) r 11 0) r 12 0 := ⟨_, rfl⟩
  have cg' : ch (fun a _ => a = r) g0 g := by
    rw [hg]
    exact (((((ch_si (W := fun a _ => a = r) rfl).tr (ch_si (W := fun a _ => a = r) rfl)).tr (ch_si (W := fun a _ => a = r) rfl)).tr (ch_si (W := fun a _ => a = r) rfl)).tr (ch_sj (W := fun a _ => a = r) rfl)).tr (ch_si (W := fun a _ => a = r) rfl)
  have krg : kd g r = (4, 0) := by rw [cg'.2.1, k0]; exact kr
  have csg : CS g c := CS_same hc (fun a _ _ => by rw [cg'.2.1, k0]) (fun k => by rw [cg'.2.2.1, ga0 _ _ (Or.inl ncr.1)])
  -- the fields
  have e5 : gi g r 5 = nI n := by rw [hg, gi_si, if_neg (by omega), gi_sj, gi_si, if_neg (by omega), gi_si, if_neg (by omega), gi_si, if_neg (by omega), gi_si, if_pos ⟨rfl, rfl⟩]
  have e6 : gi g r 6 = 0 := by rw [hg, gi_si, if_neg (by omega), gi_sj, gi_si, if_neg (by omega), gi_si, if_neg (by omega), gi_si, if_pos ⟨rfl, rfl⟩]
  have e2 : gi g r 2 = 0 := by rw [hg, gi_si, if_neg (by omega), gi_sj, gi_si, if_neg (by omega), gi_si, if_pos ⟨rfl, rfl⟩]
  have e3 : gi g r 3 = -1 := by rw [hg, gi_si, if_neg (by omega), gi_sj, gi_si, if_pos ⟨rfl, rfl⟩]
  have e11 : gj g r 11 = 0 := by rw [hg, gj_si, gj_sj, if_pos ⟨rfl, rfl⟩]
  have e12 : gi g r 12 = 0 := by rw [hg, gi_si, if_pos ⟨rfl, rfl⟩]
  -- the draft cleared
  have clr : ∃ h2, X3_clearDraft g r (nI s) = some h2 ∧ ch (fun a k => (s = 0 ∧ c ≤ a ∧ a ≤ c + 5) ∨ (1 ≤ s ∧ a = l ∧ k = 2)) g h2 ∧ (s = 0 → DCo h2 c (zC (z0 s)) (zT (z0 s))) ∧ (1 ≤ s → DLi h2 l s (zC (z0 s))) := by
    unfold X3_clearDraft
    rw [if_pos (by rw [krg])]
    by_cases s0 : s = 0
    · subst s0
      obtain ⟨h2, f1, f2, f3⟩ := reset_c csg
      rw [if_pos (show nI 0 = 0 from rfl), gR_n krg, cg'.2.2.1, ga0 _ _ (Or.inr (by omega)), x6, Option.bind_some, f1]
      exact ⟨h2, rfl, f2.mo fun a k w => Or.inl ⟨rfl, w.1, w.2⟩, fun _ => f3, fun z => by omega⟩
    · obtain ⟨y1, y2⟩ := hl (by omega)
      have kls : kd g ls = (26, 4) := by rw [cg'.2.1, k0]; exact x8
      have kl : kd g l = (3, 0) := by rw [cg'.2.1, k0]; exact y2.1
      rw [if_neg (show ¬ nI s = 0 from fun z => s0 (nI_inj (b := 0) (by omega) (by omega) z)), gR_n krg, cg'.2.2.1, ga0 _ _ (Or.inr (by omega)), x7, Option.bind_some, ldR_n kls (by omega) (by omega), cg'.2.2.1, ga0 _ _ (Or.inl nlr), y1, Option.bind_some, pI_n kl]
      have c1 : ch (fun a k => (s = 0 ∧ c ≤ a ∧ a ≤ c + 5) ∨ (1 ≤ s ∧ a = l ∧ k = 2)) g (si g l 2 0) := ch_si (Or.inr ⟨by omega, rfl, rfl⟩)
      refine ⟨_, rfl, c1, fun z => absurd z s0, fun _ => ⟨⟨kl, ?_, ?_, ?_⟩, ?_, fun i hi => ?_⟩⟩
      · rw [gi_si, if_neg (by omega), cg'.gi nlr0.1, i0]; exact y2.2.1
      · rw [ga_si, cg'.2.2.1, ga0 _ _ (Or.inl nlr0.1)]; exact y2.2.2.1
      · rw [kd_si, cg'.2.1, k0]; exact y2.2.2.2
      · rw [gi_si, if_pos ⟨rfl, rfl⟩]
        show (0 : Int32) = if s = 0 ∧ 0 < 2 then 5 else 0
        rw [if_neg (fun z => s0 z.1)]
      · have hi' : i < lwd s * tn (if s = 0 ∧ 0 < 2 then (5 : Int32) else 0) := hi
        rw [if_neg (fun z => s0 z.1), show tn 0 = 0 from tn_nI (n := 0) (by omega)] at hi'
        omega
  obtain ⟨h2, f2, c2, d2, l2⟩ := clr
  have n2 : ∀ k, gi h2 r k = gi g r k := fun k => c2.gi (fun w => by
    rcases w with ⟨_, w⟩ | ⟨_, w, _⟩
    · exact (nd.1 r w.1 w.2).1 rfl
    · exact nlr0.1 w.symm)
  have n2j : ∀ k, gj h2 r k = gj g r k := fun k => c2.gj (fun w => by
    rcases w with ⟨_, w⟩ | ⟨_, w, _⟩
    · exact (nd.1 r w.1 w.2).1 rfl
    · exact nlr0.1 w.symm)
  have c02 : ch (Wrx r nr c l s) g0 h2 := (cg'.mo fun a k w => Or.inl w).tr (c2.mo fun a k w => by
    rcases w with ⟨_, w⟩ | ⟨w1, w2, w3⟩
    · exact Or.inr (Or.inr (Or.inl w))
    · exact Or.inr (Or.inr (Or.inr ⟨w1, Or.inl ⟨w2, w3⟩⟩)))
  have kr2 : kd h2 r = (4, 0) := by rw [c2.2.1]; exact krg
  have gaA : ∀ a k, (a ≠ r ∨ k ≠ 4) → ga h2 a k = ga h a k := fun a k z => by rw [c02.2.2.1, ga0 a k z]
  have kdA : ∀ a, kd h2 a = kd h a := fun a => by rw [c02.2.1, k0]
  have rt2 : RT0 h2 r tp n B := by
    refine ⟨kr2, by rw [c02.2.2.1, hg0, ga_sa, if_pos ⟨rfl, rfl⟩], by rw [kdA]; exact kt, by rw [n2]; exact e5, hn, fun f hf => ?_⟩
    have : gi h2 tp f = gi h tp f := by
      rw [c2.gi (fun w => ?_), cg'.gi ntr, i0]
      rcases w with ⟨_, w⟩ | ⟨_, w, _⟩
      · exact (nd.1 tp w.1 w.2).2.1 rfl
      · exact nlr0.2.1 w.symm
    rw [this]; exact ht f hf
  obtain ⟨h3, f3, c3, t3⟩ := advance_c rt2 (Nat.zero_le n) (by rw [n2]; exact e6)
  have c03 : ch (Wrx r nr c l s) g0 h3 := c02.tr (c3.mo fun a k w => Or.inl w.1)
  have gaB : ∀ a k, (a ≠ r ∨ k ≠ 4) → ga h3 a k = ga h a k := fun a k z => by rw [c03.2.2.1, ga0 a k z]
  have kdB : ∀ a, kd h3 a = kd h a := fun a => by rw [c03.2.1, k0]
  have sm3 : ∀ a, a ≠ r → sm h2 h3 a := fun a ha => c3.sm (fun k w => ha w.1)
  have msk0 : msk (fun _ => false) 4 = 0 := by decide
  have x3 : RX h3 r tp nr ls c l n B s (z0 s) := by
    refine ⟨⟨RT0_ad rt2 c3, t3⟩, ⟨?_, ?_, fun f hf => ?_, ?_⟩, ⟨⟨by rw [gaB _ _ (Or.inr (by omega))]; exact x4, by rw [kdB]; exact x5⟩, by rw [gaB _ _ (Or.inr (by omega))]; exact x6, by rw [gaB _ _ (Or.inr (by omega))]; exact x7, by rw [kdB]; exact x8⟩, fun z => ?_, fun z => ⟨?_, ?_⟩, nd⟩
    · rw [c3.gi (by unfold Wad; omega), n2]; exact e2
    · rw [c3.gi (by unfold Wad; omega), n2]; exact e3
    · rw [c3.gj (by unfold Wad; omega), n2j, e11, tb_0]; rfl
    · rw [c3.gi (by unfold Wad; omega), n2, e12]
      show (0 : Int32) = nI (msk (fun _ => false) 4)
      rw [msk0]; rfl
    · exact DCo_sm (d2 z) (fun a h1 h4 => sm3 a (nd.1 a h1 h4).1)
    · rw [gaB _ _ (Or.inl nlr)]; exact (hl z).1
    · exact DLi_sm (l2 z) (sm3 _ nlr0.1) (sm3 _ nlr1.1)
  have hln := lines_c hs (n + 1) (z0 s) 0 h3 FU (by show n - 0 < n + 1; omega) (Nat.zero_le _) (FU_gt (by omega)) x3 (PJ_0 B n s)
  have start : X3_read h r tp (nI n) (nI s) = ((X3_read_L47 r (nI s) FU h3 0).bind fun s9 => match s9 with
    | .inl r25 => some r25
    | .inr h21 => if nI s = 0 then (gI h21 r 4 2).bind fun x22 => if x22 = 0 then (X3_finishCourt h21 r).bind fun h24 => some h24 else some h21 else some h21) := by
    unfold X3_read
    have q1 : kd (si g0 r 5 (nI n)) r = (4, 0) := by rw [kd_si, k0]; exact kr
    have q2 : kd (si (si g0 r 5 (nI n)) r 6 0) r = (4, 0) := q1
    have q3 : kd (si (si (si g0 r 5 (nI n)) r 6 0) r 2 0) r = (4, 0) := q1
    have q4 : kd (si (si (si (si g0 r 5 (nI n)) r 6 0) r 2 0) r 3 (-1)) r = (4, 0) := q1
    have q5 : kd (sj (si (si (si (si g0 r 5 (nI n)) r 6 0) r 2 0) r 3 (-1)) r 11 0) r = (4, 0) := q1
    have q0 : kd g0 r = (4, 0) := by rw [k0]; exact kr
    rw [if_pos (by rw [kr]), pR_n kr, ← hg0, Option.bind_some, pI_n q0, Option.bind_some, pI_n q1, Option.bind_some, pI_n q2, Option.bind_some, pI_n q3, Option.bind_some, pJ_n q4, Option.bind_some, pI_n q5, Option.bind_some, ← hg, f2, Option.bind_some, f3, Option.bind_some]
    congr 1
  rw [start, ← hg0]
  unfold txG
  cases eL : lnsF B n s (n + 1) (z0 s) with
  | inl q =>
    rw [eL] at hln
    obtain ⟨h4, f4, c4, g4, g5⟩ := hln
    rw [show X3_read_L47 r (nI s) FU h3 0 = _ from f4, Option.bind_some]
    exact ⟨h4, rfl, c03.tr (c4.mo fun a k w => Wrl_rd w), g4, fun _ => g5, fun z => absurd (show (1 : Int32) = 0 from z) (by decide)⟩
  | inr τ =>
    rw [eL] at hln
    obtain ⟨h4, f4, c4, x4', P4, k4⟩ := hln
    rw [show X3_read_L47 r (nI s) FU h3 0 = _ from f4, Option.bind_some]
    dsimp only
    have c04 : ch (Wrx r nr c l s) g0 h4 := c03.tr (c4.mo fun a k w => Wrl_rd w)
    have gi4 : GI s τ := GI_lns hs (fun σ τ h1 h2 => (PJ_ln h1 h2).1) (n + 1) (z0 s) τ (PJ_0 B n s) (GI_0 s) eL
    by_cases s0 : s = 0
    · subst s0
      rw [if_pos (show nI 0 = 0 from rfl), rt_I x4'.1.1, x4'.2.1.1, Option.bind_some]
      by_cases z0' : zf τ = 0
      · obtain ⟨h5, f5, c5, w5, v5⟩ := finish_c x4' P4 z0' ((gi4 z0').1 rfl)
        rw [if_pos z0', f5, Option.bind_some]
        have c05 : ch (Wrx r nr c l 0) g0 h5 := c04.tr (c5.mo fun a k w => by
          rcases w with w | w
          · exact Or.inl w.1
          · exact Or.inr (Or.inr (Or.inl w)))
        cases ew : wrg τ with
        | true =>
          rw [if_pos ⟨rfl, z0', rfl⟩]
          exact ⟨h5, rfl, c05, (w5 ew).1, fun _ => (w5 ew).2, fun z => absurd (show (4 : Int32) = 0 from z) (by decide)⟩
        | false =>
          rw [if_neg (fun z => absurd z.2.2 (by decide)), if_pos rfl]
          obtain ⟨v6, v7⟩ := v5 ew
          exact ⟨h5, rfl, c05, v6.trans z0'.symm, fun z => absurd z0' z, fun _ => ⟨fun _ => v7, fun z => by omega⟩⟩
      · rw [if_neg z0', if_neg (fun z => z0' z.2.1)]
        refine ⟨h4, rfl, c04, x4'.2.1.1, fun _ => ?_, fun z => absurd z z0'⟩
        show gi h4 r 3 = if zf τ = 0 then -1 else zp τ
        rw [if_neg z0']; exact x4'.2.1.2.1
    · rw [if_neg (show ¬ nI s = 0 from fun z => s0 (nI_inj (b := 0) (by omega) (by omega) z)), if_neg (fun z => s0 z.1)]
      refine ⟨h4, rfl, c04, x4'.2.1.1, fun z => ?_, fun z => ⟨fun z => absurd z s0, fun _ => ?_⟩⟩
      · show gi h4 r 3 = if zf τ = 0 then -1 else zp τ
        rw [if_neg z]; exact x4'.2.1.2.1
      · show LL h4 l s (if s = 0 then zTC (zC τ) (zT τ) else zC τ)
        rw [if_neg s0]
        have := (x4'.2.2.2.2.1 (by omega)).2
        exact ⟨this.1, this.2.1, this.2.2⟩
