/-! the Hall, played -/
def Whl (b : Nat) : Nat → Nat → Prop := fun a _ => b + 46 ≤ a ∧ a ≤ b + 51
theorem HB_hl {h h1 : HA} {b c l : Nat} {C L : CR} (hb : HB h b c l C L) (p : ch (Whl b) h h1) : HB h1 b c l C L := HB_ch hb p (fun a i ha w => by unfold Whl at w; omega)
theorem fx_sa {h : HA} {b k : Nat} {v : Option Nat} (hf : FX h b) (hk : k < 3) : FX (sa h (b + 46) k v) b := by
  refine FX_kd hf (Nat.le_refl _) (fun _ _ => rfl) (fun x hx => ?_) (fun j _ => ?_) (fun j => ?_)
  · have : ∀ x, x ∈ fxr → x.1 = 46 → 3 ≤ x.2.1 := by decide
    have := this x hx
    rw [ga_sa, if_neg (by omega)]
  · rw [ga_sa, if_neg (by omega)]
  · rw [ga_sa, if_neg (by omega)]
theorem IV_sa {h : HA} {b : Nat} {D : DT} {α : Nat → Nat} {lm : Nat → Nat → Nat} {im : Nat → Option (Nat × DT)} (hi : IV h b D α lm im) {k : Nat} (hk : k < 3) (v : Option Nat) : IV (sa h (b + 46) k v) b D α lm im := by
  refine IV_fr (fun _ => False) hi ⟨Nat.le_refl _, fun _ _ => rfl, fun a j _ => ?_⟩ (fx_sa hi.1 hk) (fun _ _ e => e.elim) (fun _ _ e => e.elim) (fun w _ hs => ?_)
  · by_cases e : a = b + 46
    · left; unfold Sc; left; omega
    · right; exact ⟨rfl, rfl, by rw [ga_sa, if_neg (fun z => e z.1)]⟩
  · have hne : w ≠ b + 46 := fun e => by have h1 := hs.1; rw [e, fx_hk hi.1] at h1; exact absurd h1 (by decide)
    obtain ⟨a1, ⟨a2, a3⟩, a4, a5⟩ := hs
    exact ⟨a1, ⟨by rw [ga_sa, if_neg (fun z => hne z.1)]; exact a2, a3⟩, by rw [ga_sa, if_neg (fun z => hne z.1)]; exact a4, a5⟩
def HP (h : HA) (b c l : Nat) (C L : CR) (th : Nat → Nat) (n : Nat) : Prop := HB h b c l C L ∧ gi h (b + 46) 2 = nI n ∧ n ≤ llen L ∧ (∃ Z, dz C L n = some Z ∧ HZ h b C Z) ∧ ∀ k, k < n → (gi h (b + 51) k = nI (th k) ∧ th k < 16) ∧ ∀ Z, dz C L k = some Z → ∀ f, f < 64 → tb (gj h (b + 50) k) f = fbz L k Z f
theorem hp13 {h : HA} {b c l : Nat} {C L : CR} (hb : HB h b c l C L) : ∃ h1, X1_play_L13 (b + 46) FU h 0 = some h1 ∧ ch (Whl b) h h1 ∧ HZ h1 b C (fun k => C (34 + k)) := by
  have cc := hb_cc hb
  have h4 := cc.2.1.1.2.2.2.1.1
  refine loop_inv (fun fu k (h : HA) => X1_play_L13 (b + 46) fu h (nI k)) (fun k h1 => ch (Whl b) h h1 ∧ ∀ p, p < k → gi h1 (b + 47) p = C (34 + 2 * p) ∧ gi h1 (b + 48) p = C (34 + (2 * p + 1)))
    _ (cP C) ?_ ?_ h FU ⟨ch_rf _ _, fun f hf => by omega⟩ (FU_gt (by omega))
  · intro k h1 fu hk hI
    obtain ⟨i1, i2⟩ := hI
    have hb1 := HB_hl hb i1
    have c1 := hb_cc hb1
    have hg := c1.2.2.2.2.2.2.2.2.2.2.2 k hk
    have cx : ch (Whl b) h1 (si h1 (b + 47) k (C (34 + 2 * k))) := ch_si ⟨by omega, by omega⟩
    have hb2 := HB_hl hb1 cx
    have c2 := hb_cc hb2
    have hg2 := c2.2.2.2.2.2.2.2.2.2.2.2 k hk
    refine ⟨si (si h1 (b + 47) k (C (34 + 2 * k))) (b + 48) k (C (35 + 2 * k)), ?_, (i1.tr cx).tr (ch_si ⟨by omega, by omega⟩), ?_⟩
    · show X1_play_L13 (b + 46) (fu + 1) h1 (nI k) = _
      rw [X1_play_L13, hb_c hb1, Option.bind_some, cs_I c1.1, c1.2.2.2.2.2.2.2.2.2.1, Option.bind_some, if_pos (lt_lit hk (by omega)), fx_r3 hb1.1, Option.bind_some, Option.bind_some, cs_r9 c1.1, Option.bind_some, ldI_n (cs_k9 c1.1) (by omega) (by omega), hg.1, Option.bind_some,
        asI_n (fx_k47 hb1.1) (by omega) (by omega), Option.bind_some, fx_r4 hb2.1, Option.bind_some, hb_c hb2, Option.bind_some, cs_r10 c2.1, Option.bind_some, ldI_n (cs_k10 c2.1) (by omega) (by omega), hg2.2, Option.bind_some, asI_n (fx_k48 hb2.1) (by omega) (by omega), Option.bind_some, nI_p1]
    · intro p hp
      rw [gi_si, if_neg (by omega), gi_si, gi_si, gi_si]
      by_cases e : p = k
      · subst e
        rw [if_pos ⟨rfl, rfl⟩, if_pos ⟨rfl, rfl⟩]; exact ⟨rfl, by rw [show 34 + (2 * p + 1) = 35 + 2 * p by omega]⟩
      · rw [if_neg (by omega), if_neg (by omega), if_neg (by omega)]; exact i2 p (by omega)
  · intro h1 fu hI
    have hb1 := HB_hl hb hI.1
    have c1 := hb_cc hb1
    refine ⟨h1, ?_, hI.1, fun p hp => hI.2 p hp⟩
    show X1_play_L13 (b + 46) (fu + 1) h1 (nI (cP C)) = _
    rw [X1_play_L13, hb_c hb1, Option.bind_some, cs_I c1.1, c1.2.2.2.2.2.2.2.2.2.1, Option.bind_some, if_neg (nlt_lit (Nat.le_refl _) (by omega))]
theorem ll_n {h : HA} {b c l : Nat} {C L : CR} (hb : HB h b c l C L) : gI h l 3 2 = some (nI (llen L)) := by
  rw [gI_n hb.2.2.2.2.2.2.1.1.1, hb.2.2.2.2.2.2.1.2.1, hb.2.2.2.2.2.2.2.2.1]
theorem hp73 {b c l m : Nat} {C L : CR} (hm : m < 2 ^ 31) : ∀ (d k fu : Nat) (h : HA), k + d = llen L → d < fu → k ≤ m → HP h b c l C L (fun _ => 0) k →
    ∃ h1, X1_play_L73 (b + 46) l (nI m) fu h (nI k) = some h1 ∧ ch (Whl b) h h1 ∧ HP h1 b c l C L (fun _ => 0) (so C L (min m (llen L))) := by
  intro d
  induction d with
  | zero =>
    intro k fu h hk hfu hkm hp
    obtain ⟨fu, rfl⟩ : ∃ q, fu = q + 1 := ⟨fu - 1, by omega⟩
    have h30 := llen_30 hp.1.2.2.2.2.2.2.2
    refine ⟨h, ?_, ch_rf _ _, ?_⟩
    · rw [X1_play_L73, ll_n hp.1, Option.bind_some, if_neg (nlt_lit (by omega) (by omega))]
    · obtain ⟨Z, hZ, _⟩ := hp.2.2.2.1
      rw [so_u (n := k) (by omega) (by rw [hZ]; rfl) (Or.inl (by omega))]; exact hp
  | succ d ih =>
    intro k fu h hk hfu hkm hp
    obtain ⟨fu, rfl⟩ : ∃ q, fu = q + 1 := ⟨fu - 1, by omega⟩
    have h30 := llen_30 hp.1.2.2.2.2.2.2.2
    have hk2 : k < llen L := by omega
    obtain ⟨hb, p1, p2, ⟨Z, hZ, pz⟩, pf⟩ := hp
    have zv := dz_ZV (hb_cc hb).2.1 hb.2.2.2.2.2.2.2 (by omega) hZ
    by_cases hkm2 : k < m
    · have c1 : ch (Whl b) h (sj h (b + 50) k 0) := ch_sj ⟨by omega, by omega⟩
      have hb1 := HB_hl hb c1
      have c2 : ch (Whl b) (sj h (b + 50) k 0) (si (sj h (b + 50) k 0) (b + 51) k 0) := ch_si ⟨by omega, by omega⟩
      have hb2 := HB_hl hb1 c2
      have e1 : X1_play_L73 (b + 46) l (nI m) (fu + 1) h (nI k) = (X1_canBe (si (sj h (b + 50) k 0) (b + 51) k 0) (b + 46) (nI k)).bind fun (x25, h24) =>
          if x25 = 0 then some h24 else (gI h24 (b + 46) 2 2).bind fun x26 => (pI h24 (b + 46) 2 2 (x26 + 1)).bind fun h27 => X1_play_L73 (b + 46) l (nI m) fu h27 (nI k + 1) := by
        rw [X1_play_L73, ll_n hb, Option.bind_some, if_pos (lt_lit hk2 (by omega)), if_pos (lt_lit hkm2 hm), if_pos (show nI k < 30 from lt_lit (n := 30) (by omega) (by omega)), fx_r6 hb.1, Option.bind_some, asJ_n (fx_k50 hb.1) (by omega) (by omega), Option.bind_some, fx_r7 hb1.1, Option.bind_some, asI_n (fx_k51 hb1.1) (by omega) (by omega), Option.bind_some]
      rw [e1]
      have hz2 : HZ (si (sj h (b + 50) k 0) (b + 51) k 0) b C Z := fun p hp => by
        rw [gi_si, if_neg (by omega), gi_si, if_neg (by omega)]; exact pz p hp
      obtain ⟨h3, s1, s2, s3, s4⟩ := canBe_c hb2 hk2 hz2 zv (by show (if _ then _ else _) = _; rw [if_pos ⟨rfl, rfl⟩])
      have c3 : ch (Whl b) (si (sj h (b + 50) k 0) (b + 51) k 0) h3 := s2.mo (fun a i w => by unfold Wcb at w; unfold Whl; omega)
      have hb3 := HB_hl hb2 c3
      rw [s1, Option.bind_some]
      have hg46 : gi h3 (b + 46) 2 = nI k := by
        rw [s2.gi (by unfold Wcb; omega), gi_si, if_neg (by omega), gi_sj]; exact p1
      have pf3 : ∀ j, j < k → (gi h3 (b + 51) j = nI 0 ∧ 0 < 16) ∧ ∀ Z, dz C L j = some Z → ∀ f, f < 64 → tb (gj h3 (b + 50) j) f = fbz L j Z f := by
        intro j hj
        refine ⟨⟨?_, by omega⟩, fun Z hZ f hf => ?_⟩
        · rw [s2.gi (by unfold Wcb; omega), gi_si, if_neg (by omega), gi_sj]; exact (pf j hj).1.1
        · rw [s2.gj (by unfold Wcb; omega), gj_si, gj_sj, if_neg (by omega)]; exact (pf j hj).2 Z hZ f hf
      cases hd : dnx C L k Z with
      | none =>
        rw [hd] at s1 s3
        have e3 := s3 rfl
        refine ⟨h3, by dsimp only; rw [if_pos (by rfl)], (c1.tr c2).tr c3, ?_⟩
        rw [so_u (n := k) (by omega) (by rw [hZ]; rfl) (Or.inr (by rw [dz, hZ]; exact hd))]
        exact ⟨hb3, hg46, by omega, ⟨Z, hZ, by rw [e3]; exact hz2⟩, pf3⟩
      | some Z1 =>
        have hs4 := s4 Z1 hd
        dsimp only
        rw [if_neg (show ¬ bI (some Z1).isSome = 0 from (by decide : ¬ bI true = 0)), gI_n (fx_hk hb3.1), Option.bind_some, pI_n (fx_hk hb3.1), Option.bind_some, hg46, nI_p1]
        have c4 : ch (Whl b) h3 (si h3 (b + 46) 2 (nI (k + 1))) := ch_si ⟨by omega, by omega⟩
        obtain ⟨h5, q1, q2, q3⟩ := ih (k + 1) fu (si h3 (b + 46) 2 (nI (k + 1))) (by omega) (by omega) (by omega) ⟨HB_hl hb3 c4, by rw [gi_si, if_pos ⟨rfl, rfl⟩], by omega, ⟨Z1, by rw [dz, hZ]; exact hd, fun p hp => by rw [gi_si, if_neg (by omega), gi_si, if_neg (by omega)]; exact hs4.1 p hp⟩, fun j hj => by
          rw [gi_si, if_neg (by omega), gj_si]
          by_cases e : j = k
          · subst e
            refine ⟨⟨?_, (by decide : 0 < 16)⟩, fun Z2 hZ2 f hf => ?_⟩
            · rw [s2.gi (by unfold Wcb; omega), gi_si, if_pos ⟨rfl, rfl⟩]; rfl
            · rw [hZ] at hZ2; simp at hZ2; subst hZ2; exact hs4.2 f hf
          · exact pf3 j (by omega)⟩
        exact ⟨h5, q1, (((c1.tr c2).tr c3).tr c4).tr q2, q3⟩
    · refine ⟨h, ?_, ch_rf _ _, ?_⟩
      · rw [X1_play_L73, ll_n hb, Option.bind_some, if_pos (lt_lit hk2 (by omega)), if_neg (nlt_lit (by omega) (by omega))]
      · rw [so_u (n := k) (by omega) (by rw [hZ]; rfl) (Or.inl (by omega))]; exact ⟨hb, p1, p2, ⟨Z, hZ, pz⟩, pf⟩
theorem play_ok {h : HA} {b : Nat} {D : DT} {α : Nat → Nat} {lm : Nat → Nat → Nat} {im : Nat → Option (Nat × DT)} (hi : IV h b D α lm im) {a t m : Nat} (ha : a < dN D 0) (ht : t < dN D 1) (hcl : CL h (α a) (dC D a)) (hm : m < 2 ^ 31) :
    ∃ h1, X1_play h (b + 46) (α a) (lm 1 t) (nI m) = some h1 ∧ IV h1 b D α lm im ∧ HP h1 b (α a) (lm 1 t) (dC D a) (dR D 1 t) (fun _ => 0) (so (dC D a) (dR D 1 t) (min m (llen (dR D 1 t)))) := by
  have hna := (iv_w hi).2.1 0 (by omega)
  have hnt := (iv_w hi).2.1 1 (by omega)
  have hca := hi.2.1 a (by omega)
  have hla := hi.2.2.2.1 1 t (by omega) (by omega) (by omega)
  have hll := iv_ll hi (by omega) (by omega) ht
  have i1 := IV_sa hi (k := 0) (by omega) (some (α a))
  have i2 := IV_sa i1 (k := 1) (by omega) (some (lm 1 t))
  have sm2 : ∀ x, x < b + 46 → sm h (sa (sa h (b + 46) 0 (some (α a))) (b + 46) 1 (some (lm 1 t))) x := fun x hx => (sm_sa (by omega)).tr (sm_sa (by omega))
  have hb : HB (sa (sa h (b + 46) 0 (some (α a))) (b + 46) 1 (some (lm 1 t))) b (α a) (lm 1 t) (dC D a) (dR D 1 t) := by
    refine ⟨i2.1, ?_, ?_, hca.2.2, hla.2.2, CL_sm hcl (fun x _ h2 => sm2 x (by omega)), LL_sm hll (sm2 _ (by omega)) (sm2 _ (by omega)), iv_wl hi (by omega) (by omega) ht⟩
    · rw [ga_sa, if_neg (by omega), ga_sa, if_pos ⟨rfl, rfl⟩]
    · rw [ga_sa, if_pos ⟨rfl, rfl⟩]
  unfold X1_play
  rw [if_pos (by rw [fx_hk hi.1]), pR_n (fx_hk hi.1), Option.bind_some, pR_n (fx_hk i1.1), Option.bind_some]
  generalize sa (sa h (b + 46) 0 (some (α a))) (b + 46) 1 (some (lm 1 t)) = h2 at *
  obtain ⟨h3, e3, c3, z3⟩ := hp13 hb
  have hb3 := HB_hl hb c3
  rw [e3, Option.bind_some, pI_n (fx_hk hb3.1), Option.bind_some]
  have c4 : ch (Whl b) h3 (si h3 (b + 46) 2 0) := ch_si ⟨by omega, by omega⟩
  obtain ⟨h5, e5, c5, p5⟩ := hp73 (m := m) hm (llen (dR D 1 t)) 0 FU (si h3 (b + 46) 2 0) (by omega) (FU_gt (by have := llen_30 hb3.2.2.2.2.2.2.2; omega)) (by omega)
    ⟨HB_hl hb3 c4, by rw [gi_si, if_pos ⟨rfl, rfl⟩]; rfl, by omega, ⟨_, rfl, fun p hp => by rw [gi_si, if_neg (by omega), gi_si, if_neg (by omega)]; exact z3 p hp⟩, fun k hk => by omega⟩
  refine ⟨h5, by rw [show X1_play_L73 (b + 46) (lm 1 t) (nI m) FU (si h3 (b + 46) 2 0) 0 = _ from e5]; rfl, ?_, p5⟩
  exact IV_ch i2 ((c3.tr c4).tr c5) (fun x k w => by unfold Whl at w; unfold Sc; left; omega)
theorem hallOf_ok {h : HA} {b : Nat} {D : DT} {α : Nat → Nat} {lm : Nat → Nat → Nat} {im : Nat → Option (Nat × DT)} (hi : IV h b D α lm im) (x y : Int32) :
    ((rg x (dN D 0) && rg y (dN D 1)) = false ∧ ∃ h1, X7_hallOf h b x y = some (none, h1) ∧ IV h1 b D α lm im) ∨
    (∃ a t h1, a < dN D 0 ∧ t < dN D 1 ∧ x = nI a ∧ y = nI t ∧ (rg x (dN D 0) && rg y (dN D 1)) = true ∧ X7_hallOf h b x y = some (some (b + 46), h1) ∧ IV h1 b D α lm im ∧ HP h1 b (α a) (lm 1 t) (dC D a) (dR D 1 t) (fun _ => 0) (so (dC D a) (dR D 1 t) (llen (dR D 1 t)))) := by
  unfold X7_hallOf
  rw [if_pos (fx_c hi.1)]
  rcases courtAt_ok hi x with ⟨h1, h2⟩ | ⟨a, h1, ha, rfl, hr, e1, i1, l1⟩
  · left
    rw [h2, h1, Option.bind_some]
    refine ⟨rfl, h, ?_, hi⟩
    dsimp only
    rcases listAt_ok hi (s := 1) (by omega) (by omega) y with ⟨h3, h4⟩ | ⟨t, ht, rfl, hr, e2⟩
    · rw [show X7_listAt h b 1 y = _ from h4]; rfl
    · rw [show X7_listAt h b 1 (nI t) = _ from e2]; rfl
  · rw [e1, Option.bind_some]
    dsimp only
    rcases listAt_ok i1 (s := 1) (by omega) (by omega) y with ⟨h3, h4⟩ | ⟨t, ht, rfl, hr2, e2⟩
    · left
      rw [show X7_listAt h1 b 1 y = _ from h4, h3, Bool.and_false]
      exact ⟨rfl, h1, rfl, i1⟩
    · right
      have h30 := llen_30 (iv_wl i1 (s := 1) (by omega) (by omega) ht)
      obtain ⟨h5, e5, i5, p5⟩ := play_ok i1 ha ht l1 (m := 30) (by omega)
      rw [show min 30 (llen (dR D 1 t)) = llen (dR D 1 t) by omega] at p5
      refine ⟨a, t, h5, ha, ht, rfl, rfl, by rw [hr, hr2]; rfl, ?_, i5, p5⟩
      rw [show X7_listAt h1 b 1 (nI t) = _ from e2, Option.bind_some]
      dsimp only
      rw [fx_hall i1.1, Option.bind_some, show X1_play h1 (b + 46) (α a) (lm 1 t) 30 = _ from e5, Option.bind_some, fx_hall i5.1, Option.bind_some]
