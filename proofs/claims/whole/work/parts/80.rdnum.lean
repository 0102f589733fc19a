/-! TEXT: the class reads numbers -/
theorem tV_lt {B : Nat → Nat} {n i : Nat} (hi : i ≤ n) (hk : tK B n i = 2) : tV B n i < 100 := by
  obtain ⟨b1, b2⟩ := tB_le (B := B) hi
  obtain ⟨l1, l2, l3⟩ := tR_le (B := B) hi
  have l4 := l3 (by omega)
  have h0 : ¬ n ≤ tB B n i := fun z => by unfold tK at hk; rw [if_pos z] at hk; omega
  have h1 : ¬ ltr (B (tB B n i)) = true := fun z => by unfold tK at hk; rw [if_neg h0, if_pos z] at hk; omega
  have h2 : dgt (B (tB B n i)) = true := by
    cases hd : dgt (B (tB B n i)) with
    | true => rfl
    | false =>
      unfold tK at hk
      rw [if_neg h0, if_neg h1, hd, if_neg (by decide)] at hk
      revert hk
      repeat' split
      all_goals intro hk; omega
  have h3 : tR B n i - tB B n i ≤ 2 := by
    by_cases c : tR B n i - tB B n i ≤ 2
    · exact c
    · unfold tK at hk
      rw [if_neg h0, if_neg h1, if_pos h2, if_neg c] at hk; omega
  have dg : ∀ x, dgt x = true → 48 ≤ x ∧ x ≤ 57 := fun x h => by unfold dgt at h; simp at h; exact h
  have d1 := dg _ h2
  unfold tV
  by_cases e : tR B n i - tB B n i = 1
  · rw [if_pos e]; omega
  · rw [if_neg e]
    have er : tR B n i = RN (fun j => dgt (B j)) n (tB B n i) := by unfold tR; rw [if_neg h0, if_neg h1, if_pos h2]
    have d2 := dg _ ((RN_spec (p := fun j => dgt (B j)) (n := n) _ (tB B n i) rfl b2).2.2.2 (tB B n i + 1) (by omega) (by rw [← er]; omega))
    omega
theorem slot_ok {B : Nat → Nat} {n s f k : Nat} {σ : ZS} (h : PJ B n s σ) {z : ZS × Int32} (e : slot B n f k σ = .inr z) : PJ B n s z.1 ∧ zi σ < zi z.1 ∧ (z.2 = -1 ∨ ∃ x, x < 100 ∧ z.2 = nI x) := by
  by_cases h1 : tK B n (zi σ) = 3 ∧ fsr f = 2
  · unfold slot at e
    rw [if_pos h1] at e
    have := Sum.inr.inj e
    subst this
    exact ⟨PK_nt (PJ_PK h) (by omega), (tRR h.1 (by omega)).2, Or.inl rfl⟩
  · by_cases h2 : tK B n (zi σ) = 2
    · rcases PJ_slot h e with q | q
      · exact q
      · have := tV_lt h.1 h2; omega
    · unfold slot at e
      rw [if_neg h1, if_neg h2] at e; exact absurd e (by simp)
/-- the draft of a COURT, of a list -/
def DCo (h : HA) (c : Nat) (C : CR) (T : Nat → Int32) : Prop := CS h c ∧ gi h c 0 = C 0 ∧ gi h c 1 = C 1 ∧ (∀ f, f < 64 → tb (gj h c 2) f = wl C f) ∧ gi h c 6 = C 2 ∧ gi h c 8 = C 3 ∧ (∀ k, k < 5 * tn (C 2) → gi h (c + 1) k = C (4 + k)) ∧ (∀ p, p < tn (C 3) → gi h (c + 2) p = C (34 + 2 * p)) ∧ ∀ p, p < 4 → gi h (c + 3) p = T p
def DLi (h : HA) (l s : Nat) (C : CR) : Prop := LiS h l s ∧ gi h l 2 = C 0 ∧ ∀ i, i < lwd s * tn (C 0) → gi h (l + 1) i = C (1 + i)
def ND (r tp nr ls c l : Nat) : Prop := (∀ a, c ≤ a → a ≤ c + 5 → a ≠ r ∧ a ≠ tp ∧ a ≠ nr ∧ a ≠ ls) ∧ (∀ a, l ≤ a → a ≤ l + 1 → a ≠ r ∧ a ≠ tp ∧ a ≠ nr ∧ a ≠ ls) ∧ nr ≠ r ∧ nr ≠ tp
def RX (h : HA) (r tp nr ls c l n : Nat) (B : Nat → Nat) (s : Nat) (σ : ZS) : Prop := (RT0 h r tp n B ∧ TC h r n B (zi σ)) ∧ (gi h r 2 = zf σ ∧ gi h r 3 = zp σ ∧ (∀ f, f < 64 → tb (gj h r 11) f = zF σ f) ∧ gi h r 12 = nI (msk (zG σ) 4)) ∧
  ((ga h r 10 = some nr ∧ kd h nr = (20, 4)) ∧ ga h r 0 = some c ∧ ga h r 1 = some ls ∧ kd h ls = (26, 4)) ∧ (s = 0 → DCo h c (zC σ) (zT σ)) ∧ (1 ≤ s → ga h ls s = some l ∧ DLi h l s (zC σ)) ∧ ND r tp nr ls c l
theorem DCo_sm {h h1 : HA} {c : Nat} {C : CR} {T : Nat → Int32} (hs : DCo h c C T) (p : ∀ a, c ≤ a → a ≤ c + 5 → sm h h1 a) : DCo h1 c C T := by
  obtain ⟨a1, a2, a3, a4, a5, a6, a7, a8, a9⟩ := hs
  have p0 := p c (by omega) (by omega)
  refine ⟨CS_sm a1 p, by rw [p0.2.1]; exact a2, by rw [p0.2.1]; exact a3, fun f hf => by rw [p0.2.2.1]; exact a4 f hf, by rw [p0.2.1]; exact a5, by rw [p0.2.1]; exact a6, fun k hk => ?_, fun q hq => ?_, fun q hq => ?_⟩
  · rw [(p (c + 1) (by omega) (by omega)).2.1]; exact a7 k hk
  · rw [(p (c + 2) (by omega) (by omega)).2.1]; exact a8 q hq
  · rw [(p (c + 3) (by omega) (by omega)).2.1]; exact a9 q hq
theorem DLi_sm {h h1 : HA} {l s : Nat} {C : CR} (hs : DLi h l s C) (p : sm h h1 l) (q : sm h h1 (l + 1)) : DLi h1 l s C :=
  ⟨LiS_sm hs.1 p q, by rw [p.2.1]; exact hs.2.1, fun i hi => by rw [q.2.1]; exact hs.2.2 i hi⟩
/-- only the reader's own cells change -/
theorem RX_r {h h1 : HA} {r tp nr ls c l n s : Nat} {B : Nat → Nat} {σ τ : ZS} (x : RX h r tp nr ls c l n B s σ) (p : ch (fun a k => (a = r ∧ k ≠ 5) ∨ a = nr) h h1) (tc : TC h1 r n B (zi τ)) (e1 : gi h1 r 2 = zf τ) (e2 : gi h1 r 3 = zp τ) (e3 : ∀ f, f < 64 → tb (gj h1 r 11) f = zF τ f) (e4 : gi h1 r 12 = nI (msk (zG τ) 4)) (e5 : zC τ = zC σ) (e6 : zT τ = zT σ) : RX h1 r tp nr ls c l n B s τ := by
  obtain ⟨⟨x1, x2⟩, x3, ⟨⟨x4, x5⟩, x6, x7, x8⟩, x9, x10, x11⟩ := x
  have smc : ∀ a, a ≠ r → a ≠ nr → sm h h1 a := fun a h2 h3 => p.sm (fun k w => by omega)
  refine ⟨⟨RT0_ch x1 p (fun w => by have := x11.2.2.1; omega) (fun k w => by have h2 := rt_ne x1; have := x11.2.2.2; omega), tc⟩, ⟨e1, e2, e3, e4⟩, ⟨⟨by rw [p.2.2.1]; exact x4, by rw [p.2.1]; exact x5⟩, by rw [p.2.2.1]; exact x6, by rw [p.2.2.1]; exact x7, by rw [p.2.1]; exact x8⟩, fun z => ?_, fun z => ?_, x11⟩
  · rw [e5, e6]
    exact DCo_sm (x9 z) (fun a h2 h3 => smc a (x11.1 a h2 h3).1 (x11.1 a h2 h3).2.2.1)
  · obtain ⟨y1, y2⟩ := x10 z
    rw [e5]
    have n1 := x11.2.1 l (by omega) (by omega)
    have n2 := x11.2.1 (l + 1) (by omega) (by omega)
    exact ⟨by rw [p.2.2.1]; exact y1, DLi_sm y2 (smc _ n1.1 n1.2.2.1) (smc _ n2.1 n2.2.2.1)⟩
theorem rx_adv {h : HA} {r tp nr ls c l n s : Nat} {B : Nat → Nat} {σ : ZS} (x : RX h r tp nr ls c l n B s σ) (hi : zi σ ≤ n) : ∃ h1, X3_advance h r = some h1 ∧ ch (Wad r) h h1 ∧ RX h1 r tp nr ls c l n B s (nt B n σ) := by
  obtain ⟨l1, l2, _⟩ := tR_le (B := B) hi
  obtain ⟨h1, e1, c1, t1⟩ := advance_c x.1.1 l2 x.1.2.1
  refine ⟨h1, e1, c1, RX_r x (c1.mo fun a k w => Or.inl ⟨w.1, by have := w.2; omega⟩) t1 ?_ ?_ (fun f hf => ?_) ?_ rfl rfl⟩
  · rw [c1.gi (by unfold Wad; omega)]; exact x.2.1.1
  · rw [c1.gi (by unfold Wad; omega)]; exact x.2.1.2.1
  · rw [c1.gj (by unfold Wad; omega)]; exact x.2.1.2.2.1 f hf
  · rw [c1.gi (by unfold Wad; omega)]; exact x.2.1.2.2.2
theorem rx_note {h : HA} {r tp nr ls c l n s q : Nat} {B : Nat → Nat} {σ : ZS} {cd : Int32} (x : RX h r tp nr ls c l n B s σ) : ∃ h1, X3_note h r cd (nI q) = some h1 ∧ ch (fun a k => a = r ∧ (k = 2 ∨ k = 3)) h h1 ∧ RX h1 r tp nr ls c l n B s (ft cd q σ) := by
  unfold X3_note
  have rt := x.1.1
  rw [if_pos (rt_t rt), rt_I rt, x.2.1.1, Option.bind_some]
  unfold ft
  by_cases e : zf σ = 0
  · have c1 : ch (fun a k => a = r ∧ (k = 2 ∨ k = 3)) h (si h r 2 cd) := ch_si ⟨rfl, Or.inl rfl⟩
    have rt1 := RT0_ch rt c1 (by omega) (fun k w => rt_ne rt w.1)
    have c2 := c1.tr (ch_si (h := si h r 2 cd) (v := nI q) (show (fun a k => a = r ∧ (k = 2 ∨ k = 3)) r 3 from ⟨rfl, Or.inr rfl⟩))
    rw [if_pos e, if_pos e, rt_p rt, Option.bind_some, rt_p rt1]
    refine ⟨_, rfl, c2, RX_r x (c2.mo fun a k w => Or.inl ⟨w.1, by omega⟩) ?_ ?_ ?_ (fun f hf => ?_) ?_ rfl rfl⟩
    · obtain ⟨t1, t2, t3, t4⟩ := x.1.2
      exact ⟨by rw [c2.gi (by omega)]; exact t1, by rw [c2.gi (by omega)]; exact t2, by rw [c2.gi (by omega)]; exact t3, fun z => by rw [c2.gi (by omega)]; exact t4 z⟩
    · rw [gi_si, if_neg (by omega), gi_si, if_pos ⟨rfl, rfl⟩]; rfl
    · rw [gi_si, if_pos ⟨rfl, rfl⟩]; rfl
    · rw [c2.gj (by omega)]; exact x.2.1.2.2.1 f hf
    · rw [c2.gi (by omega)]; exact x.2.1.2.2.2
  · rw [if_neg e, if_neg e]
    exact ⟨h, rfl, ch_rf _ _, x⟩
theorem fg63 : ∀ f, f < 12 → ∀ k, k < 4 → fgr f k = 63 → fsr f = 0 ∧ f ≠ 0 := by decide +kernel
def Wnm (r c : Nat) : Nat → Nat → Prop := fun a k => (a = r ∧ k ≠ 5) ∨ (a = c ∧ k = 2)
/-- FIELDS and WALLS noted -/
theorem rx_tkn {h : HA} {r tp nr ls c l n f k v : Nat} {B : Nat → Nat} {σ : ZS} (x : RX h r tp nr ls c l n B (fsr f) σ) (hP : PK B n (fsr f) σ) (hf : f < 12) (hk : k < 4) (hv : v < 64) (v1 : gi h r 9 = nI v) (h63 : fgr f k = 63) (hb : bad f k v = false) :
    ∃ h1, ((gJ h r 4 11).bind fun x29 => (gI h r 4 9).bind fun x30 => (pJ h r 4 11 (x29 ||| (shlJ 1 x30))).bind fun h31 => (gR h31 r 4 0).bind fun x32 => (gJ h31 x32 1 2).bind fun x33 => if nI f = 1 then (gI h31 r 4 9).bind fun x34 => (pJ h31 x32 1 2 (x33 ||| (shlJ 1 x34))).bind fun h35 => some h35 else (pJ h31 x32 1 2 (x33 ||| 0)).bind fun h36 => some h36) = some h1 ∧ ch (Wnm r c) h h1 ∧ RX h1 r tp nr ls c l n B (fsr f) (tkn f k v σ) := by
  obtain ⟨s0, f0⟩ := fg63 f hf k hk h63
  obtain ⟨⟨x1, x2⟩, ⟨y1, y2, y3, y4⟩, ⟨⟨x4, x5⟩, x6, x7, x8⟩, x9, x10, x11⟩ := x
  have dc := x9 s0
  have nc := x11.1 c (by omega) (by omega)
  have c1 : ch (Wnm r c) h (sj h r 11 (gj h r 11 ||| shlJ 1 (nI v))) := ch_sj (Or.inl ⟨rfl, by omega⟩)
  have kc1 : kd (sj h r 11 (gj h r 11 ||| shlJ 1 (nI v))) c = (1, 0) := dc.1.1
  have main : ∀ W : Int64, (∀ g, g < 64 → tb W g = wl (if f = 1 then iset (zC σ) (42 + v) 1 else zC σ) g) → ∃ h1, (pJ (sj h r 11 (gj h r 11 ||| shlJ 1 (nI v))) c 1 2 W).bind (fun h35 => some h35) = some h1 ∧ ch (Wnm r c) h h1 ∧ RX h1 r tp nr ls c l n B (fsr f) (tkn f k v σ) := by
    intro W hW
    have c2 := c1.tr (ch_sj (h := sj h r 11 (gj h r 11 ||| shlJ 1 (nI v))) (v := W) (show Wnm r c c 2 from Or.inr ⟨rfl, rfl⟩))
    rw [pJ_n kc1]
    refine ⟨_, rfl, c2, ?_⟩
    have et : tkn f k v σ = (zi σ, σ.2.1, badd (zF σ) v, zG σ, (if f = 1 then iset (zC σ) (42 + v) 1 else zC σ), zT σ) := by unfold tkn; rw [if_pos ⟨hb, h63⟩]
    rw [et]
    refine ⟨⟨RT0_ch x1 c2 (fun w => by unfold Wnm at w; omega) (fun i w => ?_), ?_⟩, ⟨?_, ?_, fun g hg => ?_, ?_⟩, ⟨⟨x4, x5⟩, x6, x7, x8⟩, fun _ => ?_, fun z => by omega, x11⟩
    · unfold Wnm at w
      have := rt_ne x1
      have := nc.2.1
      omega
    · obtain ⟨t1, t2, t3, t4⟩ := x2
      exact ⟨t1, t2, t3, t4⟩
    · exact y1
    · exact y2
    · rw [gj_sj, if_neg (fun z => nc.1 z.1.symm), gj_sj, if_pos ⟨rfl, rfl⟩, tb_or, tb_bit hv, y3 g hg]
      show _ = badd (zF σ) v g
      unfold badd
      rw [Bool.or_comm]
    · exact y4
    · obtain ⟨a1, a2, a3, a4, a5, a6, a7, a8, a9⟩ := dc
      have eC : ∀ i, i < 42 → (if f = 1 then iset (zC σ) (42 + v) 1 else zC σ) i = zC σ i := fun i hi => by
        split
        · rw [iset_ne (by omega)]
        · rfl
      show DCo _ c (if f = 1 then iset (zC σ) (42 + v) 1 else zC σ) (zT σ)
      refine ⟨a1, by rw [eC 0 (by omega)]; exact a2, by rw [eC 1 (by omega)]; exact a3, fun g hg => ?_, by rw [eC 2 (by omega)]; exact a5, by rw [eC 3 (by omega)]; exact a6, fun i hi => ?_, fun p hp => ?_, a9⟩
      · rw [gj_sj, if_pos ⟨rfl, rfl⟩]; exact hW g hg
      · rw [eC 2 (by omega)] at hi
        have := (hP.2.2.2.1 s0).2.1
        rw [eC (4 + i) (by omega)]; exact a7 i hi
      · rw [eC 3 (by omega)] at hp
        have := (hP.2.2.2.1 s0).2.2.2
        rw [eC (34 + 2 * p) (by omega)]; exact a8 p hp
  rw [gJ_n x1.1, Option.bind_some, gI_n x1.1, v1, Option.bind_some, pJ_n x1.1, Option.bind_some]
  have k1r : kd (sj h r 11 (gj h r 11 ||| shlJ 1 (nI v))) r = (4, 0) := x1.1
  rw [gR_n k1r, ga_sj, x6, Option.bind_some, gJ_n kc1, Option.bind_some, gj_sj, if_neg (show ¬ (c = r ∧ 2 = 11) from fun z => nc.1 z.1)]
  by_cases f1 : f = 1
  · rw [if_pos (by rw [f1]; rfl), gI_n k1r, gi_sj, v1, Option.bind_some]
    refine main _ (fun g hg => ?_)
    rw [tb_or, tb_bit hv, dc.2.2.2.1 g hg, if_pos f1]
    unfold wl iset
    by_cases e : g = v
    · subst e; simp
    · have : ¬ 42 + g = 42 + v := by omega
      simp [e, this]
  · rw [if_neg (show ¬ nI f = 1 from fun z => f1 (nI_inj (b := 1) (by omega) (by omega) z))]
    refine main _ (fun g hg => ?_)
    rw [tb_or, tb_0, Bool.or_false, dc.2.2.2.1 g hg, if_neg f1]
theorem rx_ch {W : Nat → Nat → Prop} {h h1 : HA} {r tp nr ls c l n s : Nat} {B : Nat → Nat} {σ : ZS} (x : RX h r tp nr ls c l n B s σ) (p : ch W h h1) (hw : ∀ a k, W a k → a = nr) : RX h1 r tp nr ls c l n B s σ := by
  have n1 := x.2.2.2.2.2.2.2.1
  obtain ⟨t1, t2, t3, t4⟩ := x.1.2
  have nw : ∀ k, ¬ W r k := fun k w => n1 (hw _ _ w).symm
  refine RX_r x (p.mo fun a k w => Or.inr (hw a k w)) ⟨?_, ?_, ?_, fun z => ?_⟩ ?_ ?_ (fun f hf => ?_) ?_ rfl rfl
  · rw [p.gi (nw _)]; exact t1
  · rw [p.gi (nw _)]; exact t2
  · rw [p.gi (nw _)]; exact t3
  · rw [p.gi (nw _)]; exact t4 z
  · rw [p.gi (nw _)]; exact x.2.1.1
  · rw [p.gi (nw _)]; exact x.2.1.2.1
  · rw [p.gj (nw _)]; exact x.2.1.2.2.1 f hf
  · rw [p.gi (nw _)]; exact x.2.1.2.2.2
def Wrn (r nr c : Nat) : Nat → Nat → Prop := fun a k => (a = r ∧ k ≠ 5) ∨ a = nr ∨ (a = c ∧ k = 2)
theorem fg64 : ∀ f, f < 12 → ∀ k, k < 4 → fgr f k < 64 := by decide +kernel
theorem rx_mid {h : HA} {r tp nr ls c l n f k v b : Nat} {B : Nat → Nat} {σ : ZS} (x : RX h r tp nr ls c l n B (fsr f) σ) (hP : PJ B n (fsr f) σ) (hf : f < 12) (hk : k < 4) (v1 : gi h r 9 = nI v) (v2 : v < 100) (g8 : gi h r 8 = nI b) : ∃ h1, (show Option HA from
          if nI (fgr f k) < nI v then (gI h r 4 8).bind fun x14 => (X3_note h r 2 x14).bind fun h16 => some h16
          else if nI f = 0 then (gI h r 4 9).bind fun x17 => if x17 < 2 then (gI h r 4 8).bind fun x18 => (X3_note h r 2 x18).bind fun h20 => some h20
            else if nI (fgr f k) = 63 then (gJ h r 4 11).bind fun x21 => (gI h r 4 9).bind fun x22 => (pJ h r 4 11 (x21 ||| (shlJ 1 x22))).bind fun h23 => (gR h23 r 4 0).bind fun x24 => (gJ h23 x24 1 2).bind fun x25 => if nI f = 1 then (gI h23 r 4 9).bind fun x26 => (pJ h23 x24 1 2 (x25 ||| (shlJ 1 x26))).bind fun h27 => some h27 else (pJ h23 x24 1 2 (x25 ||| 0)).bind fun h28 => some h28
            else some h
          else if nI (fgr f k) = 63 then (gJ h r 4 11).bind fun x29 => (gI h r 4 9).bind fun x30 => (pJ h r 4 11 (x29 ||| (shlJ 1 x30))).bind fun h31 => (gR h31 r 4 0).bind fun x32 => (gJ h31 x32 1 2).bind fun x33 => if nI f = 1 then (gI h31 r 4 9).bind fun x34 => (pJ h31 x32 1 2 (x33 ||| (shlJ 1 x34))).bind fun h35 => some h35 else (pJ h31 x32 1 2 (x33 ||| 0)).bind fun h36 => some h36
          else some h) = some h1 ∧ ch (Wnm r c) h h1 ∧ RX h1 r tp nr ls c l n B (fsr f) (tkn f k v (if bad f k v = true then ft 2 b σ else σ)) := by
  have rt := x.1.1
  have hg63 := fg64 f hf k hk
  dsimp only
  by_cases hlt : fgr f k < v
  · have hbad : bad f k v = true := by unfold bad; simp [hlt]
    obtain ⟨h1, e1, c1, x1⟩ := rx_note (q := b) (cd := 2) x
    rw [if_pos (lt_lit hlt (by omega)), rt_I rt, g8, Option.bind_some, e1, Option.bind_some, if_pos hbad]
    refine ⟨h1, rfl, c1.mo fun a k w => Or.inl ⟨w.1, by have := w.2; omega⟩, ?_⟩
    unfold tkn
    rw [if_neg (fun z => by rw [hbad] at z; exact absurd z.1 (by decide))]
    exact x1
  · rw [if_neg (nlt_lit (by omega) (by omega))]
    by_cases f0 : f = 0
    · have hn63 : ¬ fgr f k = 63 := fun z => (fg63 f hf k hk z).2 f0
      rw [if_pos (by rw [f0]; rfl), rt_I rt, v1, Option.bind_some]
      by_cases hv2 : v < 2
      · have hbad : bad f k v = true := by unfold bad; simp [hv2, f0]
        obtain ⟨h1, e1, c1, x1⟩ := rx_note (q := b) (cd := 2) x
        rw [if_pos (show nI v < 2 from lt_lit (n := 2) hv2 (by omega)), rt_I rt, g8, Option.bind_some, e1, Option.bind_some, if_pos hbad]
        refine ⟨h1, rfl, c1.mo fun a k w => Or.inl ⟨w.1, by have := w.2; omega⟩, ?_⟩
        unfold tkn
        rw [if_neg (fun z => by rw [hbad] at z; exact absurd z.1 (by decide))]
        exact x1
      · have hbad : bad f k v = false := by unfold bad; simp; omega
        rw [if_neg (show ¬ nI v < 2 from nlt_lit (n := 2) (by omega) (by omega)), if_neg (show ¬ nI (fgr f k) = 63 from fun z => hn63 (nI_inj (b := 63) (by omega) (by omega) z)), hbad, if_neg (show ¬ (false = true) by decide)]
        refine ⟨h, rfl, ch_rf _ _, ?_⟩
        unfold tkn
        rw [if_neg (fun z => hn63 z.2)]
        exact x
    · have hbad : bad f k v = false := by unfold bad; simp [f0]; omega
      rw [if_neg (show ¬ nI f = 0 from fun z => f0 (nI_inj (b := 0) (by omega) (by omega) z)), hbad, if_neg (show ¬ (false = true) by decide)]
      by_cases h63 : fgr f k = 63
      · rw [if_pos (by rw [h63]; rfl)]
        exact rx_tkn x (PJ_PK hP) hf hk (by omega) v1 h63 hbad
      · rw [if_neg (show ¬ nI (fgr f k) = 63 from fun z => h63 (nI_inj (b := 63) (by omega) (by omega) z))]
        refine ⟨h, rfl, ch_rf _ _, ?_⟩
        unfold tkn
        rw [if_neg (fun z => h63 z.2)]
        exact x
/-- a NUMBER read -/
theorem readNumber_c {h : HA} {r tp nr ls c l n f k : Nat} {B : Nat → Nat} {σ : ZS} (x : RX h r tp nr ls c l n B (fsr f) σ) (hP : PJ B n (fsr f) σ) (hf : f < 12) (hk : k < 4) :
    match slot B n f k σ with
    | .inl q => X3_readNumber h r (nI f) (nI k) = some (0, h) ∧ gi h r 8 = nI q
    | .inr z => ∃ h1, X3_readNumber h r (nI f) (nI k) = some (1, h1) ∧ ch (Wrn r nr c) h h1 ∧ RX h1 r tp nr ls c l n B (fsr f) z.1 ∧ (∀ i, i ≠ k → gi h1 nr i = gi h nr i) ∧ (gi h nr k = -1 ∨ tK B n (zi σ) = 2 → gi h1 nr k = z.2) := by
  have rt := x.1.1
  have hi := hP.1
  have hfs : fsr f < 4 := by unfold fsr; repeat' split
                             all_goals omega
  have hk5 : tK B n (zi σ) < 6 := by unfold tK; repeat' split
                                     all_goals omega
  unfold slot X3_readNumber
  rw [if_pos (rt_t rt), rt_I rt, x.1.2.2.1, Option.bind_some]
  have kk : ∀ j : Nat, j < 6 → tK B n (zi σ) ≠ j → ¬ nI (tK B n (zi σ)) = nI j := fun j hj hne z => hne (nI_inj (by omega) (by omega) z)
  by_cases h3 : tK B n (zi σ) = 3 ∧ fsr f = 2
  · rw [if_pos h3, if_pos (show nI (tK B n (zi σ)) = 3 by rw [h3.1]; rfl), sl_s f hf, Option.bind_some, if_pos (show nI (fsr f) = 2 by rw [h3.2]; rfl)]
    obtain ⟨h1, e1, c1, x1⟩ := rx_adv x hi
    rw [e1, Option.bind_some, Option.bind_some]
    refine ⟨h1, rfl, c1.mo fun a k w => Or.inl ⟨w.1, by have := w.2; omega⟩, x1, fun i _ => ?_, fun z => ?_⟩
    · rw [c1.gi (fun w => x.2.2.2.2.2.2.2.1 w.1)]
    · rw [c1.gi (fun w => x.2.2.2.2.2.2.2.1 w.1)]
      rcases z with z | z
      · exact z
      · omega
  · have e0 : (show Option ((Int32 × HA) ⊕ HA) from if nI (tK B n (zi σ)) = 3 then (sld 0 (nI f)).bind fun x5 => if x5 = 2 then (X3_advance h r).bind fun h7 => some (.inl (1, h7)) else some (.inr h) else some (.inr h)) = some (.inr h) := by
      show (if nI (tK B n (zi σ)) = 3 then _ else _) = _
      by_cases k3 : tK B n (zi σ) = 3
      · rw [if_pos (by rw [k3]; rfl), sl_s f hf, Option.bind_some, if_neg (show ¬ nI (fsr f) = 2 from fun z => h3 ⟨k3, nI_inj (b := 2) (by omega) (by omega) z⟩)]
      · rw [if_neg (show ¬ nI (tK B n (zi σ)) = 3 from kk 3 (by omega) k3)]
    rw [if_neg h3]
    dsimp only at e0 ⊢
    rw [e0, Option.bind_some]
    dsimp only
    rw [rt_I rt, x.1.2.2.1, Option.bind_some]
    by_cases h2 : tK B n (zi σ) = 2
    · rw [if_pos h2, if_pos (show nI (tK B n (zi σ)) = 2 by rw [h2]; rfl)]
      obtain ⟨v1, v2⟩ := x.1.2.2.2.2 h2
      obtain ⟨v, hv⟩ : ∃ v, v = tV B n (zi σ) := ⟨_, rfl⟩
      obtain ⟨b, hb⟩ : ∃ b, b = tB B n (zi σ) := ⟨_, rfl⟩
      have g8 : gi h r 8 = nI b := by rw [x.1.2.2.2.1, hb]
      rw [← hv] at v1 v2 ⊢
      rw [← hb]
      have hg63 := fg64 f hf k hk
      have hPb : PK B n (fsr f) (if bad f k v = true then ft 2 b σ else σ) := by
        split
        · rw [hb]; exact PJ_ft (Or.inl rfl) hP
        · exact PJ_PK hP
      have zib : zi (if bad f k v = true then ft 2 b σ else σ) = zi σ := by split; exact zi_ft _ _ _; rfl
      have mid := rx_mid x hP hf hk v1 v2 g8
      obtain ⟨h1, e1, c1, x1⟩ := mid
      have rt1 := x1.1.1
      obtain ⟨nr1, nr2⟩ := x.2.2.2.2.2.2.2
      have hnc : nr ≠ c := fun z => (x.2.2.2.2.2.1 c (by omega) (by omega)).2.2.1 z.symm
      have g9 : gi h1 r 9 = nI v := by
        have := x1.1.2.2.2.2
        rw [(zi_tkn _ _ _ _).1, zib] at this
        rw [hv]; exact (this h2).1
      rw [show nI f * 4 + nI k = nI f * 4 + nI k from rfl, sl_g f hf k hk, Option.bind_some, rt_I rt, v1, Option.bind_some]
      dsimp only at e1 ⊢
      rw [show gI h r 4 9 = some (nI v) by rw [rt_I rt, v1]] at e1
      rw [e1, Option.bind_some, gR_n rt1.1, x1.2.2.1.1.1, Option.bind_some, rt_I rt1, g9, Option.bind_some, asI_n x1.2.2.1.1.2 (by omega) (by omega), Option.bind_some]
      have c2 : ch (fun a _ => a = nr) h1 (si h1 nr k (nI v)) := ch_si rfl
      have x2 := rx_ch x1 c2 (fun a k w => w)
      obtain ⟨h3, e3, c3, x3⟩ := rx_adv x2 (by rw [(zi_tkn _ _ _ _).1, zib]; exact hi)
      rw [e3, Option.bind_some]
      refine ⟨h3, rfl, (c1.mo fun a k w => ?_).tr ((c2.mo fun a k w => Or.inr (Or.inl w)).tr (c3.mo fun a k w => Or.inl ⟨w.1, by have := w.2; omega⟩)), x3, fun i hik => ?_, fun _ => ?_⟩
      · rcases w with w | w
        · exact Or.inl w
        · exact Or.inr (Or.inr w)
      · rw [c3.gi (fun w => nr1 w.1), gi_si, if_neg (fun z => hik z.2), c1.gi (fun w => by rcases w with w | w; exact nr1 w.1; exact hnc w.1)]
      · rw [c3.gi (fun w => nr1 w.1), gi_si, if_pos ⟨rfl, rfl⟩]
    · rw [if_neg h2, if_neg (show ¬ nI (tK B n (zi σ)) = 2 from kk 2 (by omega) h2)]
      exact ⟨rfl, x.1.2.2.2.1⟩
