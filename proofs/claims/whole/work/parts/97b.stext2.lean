/-! TEXT: class, then model, and the whole state keeps -/
/-- where the class's reading changes things -/
def Wcl (b : Nat) (α : Nat → Nat) (lm : Nat → Nat → Nat) (s : Nat) : Nat → Nat → Prop := fun a k => (a = b + 1 ∧ 1 ≤ k ∧ k ≤ 3) ∨ a = b + 31 ∨ a = b + 39 ∨ (α 2 ≤ a ∧ a ≤ α 2 + 5) ∨ (1 ≤ s ∧ ((a = lm s 2 ∧ k = 2) ∨ a = lm s 2 + 1))
theorem Wcl_i {b s a k : Nat} {α : Nat → Nat} {lm : Nat → Nat → Nat} (w : Wcl b α lm s a k) : Wti b α lm s a k := by
  rcases w with w | w | w | w | w
  · exact Or.inl w
  · exact Or.inr (Or.inr (Or.inl w))
  · exact Or.inr (Or.inr (Or.inr (Or.inl w)))
  · exact Or.inr (Or.inr (Or.inr (Or.inr (Or.inl w))))
  · exact Or.inr (Or.inr (Or.inr (Or.inr (Or.inr (Or.inl w)))))
theorem Wm2_i {b s a k : Nat} {α : Nat → Nat} {lm : Nat → Nat → Nat} (w : Wm2 (b + 55) a k) : Wti b α lm s a k := by
  unfold Wm2 at w
  rcases w with w | w | ⟨w, w2⟩
  · exact Or.inr (Or.inr (Or.inr (Or.inr (Or.inr (Or.inr (Or.inl w))))))
  · exact Or.inr (Or.inr (Or.inr (Or.inr (Or.inr (Or.inr (Or.inr (Or.inr (by omega))))))))
  · refine Or.inr (Or.inr (Or.inr (Or.inr (Or.inr (Or.inr (Or.inr (Or.inl ⟨a - (b + 55), by omega, by omega, by omega, ?_⟩)))))))
    have : a - (b + 55) = 2 ∨ a - (b + 55) = 3 ∨ a - (b + 55) = 4 := by omega
    rcases this with e | e | e <;> rw [e, w2] <;> decide
theorem Wst_i {b s k a j : Nat} {α : Nat → Nat} {lm : Nat → Nat → Nat} (s4 : s < 4) (hk : k < 2) (w : Wst (b + 55) s k a j) : Wti b α lm s a j := by
  rcases w with w | ⟨w, w2⟩ | ⟨w, w1, w2⟩
  · exact Wm2_i w
  · refine Or.inr (Or.inr (Or.inr (Or.inr (Or.inr (Or.inr (Or.inr (Or.inl ⟨5, by omega, by omega, by omega, ?_⟩)))))))
    rw [w2]; show s < 4; exact s4
  · refine Or.inr (Or.inr (Or.inr (Or.inr (Or.inr (Or.inr (Or.inr (Or.inl ⟨6 + s, by omega, by omega, by omega, ?_⟩)))))))
    have c4 : s = 0 ∨ s = 1 ∨ s = 2 ∨ s = 3 := by omega
    rcases c4 with e | e | e | e
    · subst e
      have t0 : tw4 0 = 106 := rfl
      rw [t0] at w2
      show j < 212
      omega
    · subst e
      have t0 : tw4 1 = 121 := rfl
      rw [t0] at w2
      show j < 242
      omega
    · subst e
      have t0 : tw4 2 = 25 := rfl
      rw [t0] at w2
      show j < 50
      omega
    · subst e
      have t0 : tw4 3 = 25 := rfl
      rw [t0] at w2
      show j < 50
      omega
/-- what the class's reading leaves -/
theorem cl_rel {h h25 : HA} {b s : Nat} {D : DT} {α : Nat → Nat} {lm : Nat → Nat → Nat} {im : Nat → Option (Nat × DT)} (hi : IV h b D α lm im) (s4 : s < 4) (c : ch (Wrx (b + 31) (b + 39) (α 2) (lm (if s = 0 then 1 else s) 2) s) (sa (h8 h b) (b + 31) 4 (some (b + 2))) h25) :
    rel (Wcl b α lm s) (fun a j => a = b + 31 ∧ j = 4) h h25 := by
  have p1 : rel (Wcl b α lm s) (fun a j => a = b + 31 ∧ j = 4) h (h8 h b) := rel_ch (h8_ch h b) (fun a k w => Or.inl w)
  have p2 := p1.tr (rel_sa (W := Wcl b α lm s) (V := fun a j => a = b + 31 ∧ j = 4) (h := h8 h b) (v := some (b + 2)) (show (fun a j => a = b + 31 ∧ j = 4) (b + 31) 4 from ⟨rfl, rfl⟩))
  refine p2.tr (rel_ch c (fun a k w => ?_))
  rcases w with w | w | w | ⟨s1, w⟩
  · exact Or.inr (Or.inl w)
  · exact Or.inr (Or.inr (Or.inl w))
  · exact Or.inr (Or.inr (Or.inr (Or.inl w)))
  · rw [if_neg (by omega)] at w
    exact Or.inr (Or.inr (Or.inr (Or.inr ⟨s1, w⟩)))
theorem cl_no {h : HA} {b s : Nat} {D : DT} {α : Nat → Nat} {lm : Nat → Nat → Nat} {im : Nat → Option (Nat × DT)} (hi : IV h b D α lm im) (s4 : s < 4) : (∀ k, ¬ Wcl b α lm s (b + 3) k) ∧ (∀ a k, b + 46 ≤ a → ¬ Wcl b α lm s a k) := by
  have r2 := (hi.2.1 2 (by omega)).2
  refine ⟨fun k w => ?_, fun a k ha w => ?_⟩
  · rcases w with w | w | w | w | ⟨s1, w⟩
    · omega
    · omega
    · omega
    · have := iv_nc hi (show 2 < 3 by omega) w.1 w.2; omega
    · have := iv_nl hi s1 s4 (show 2 < 3 by omega) (show b + 3 = lm s 2 ∨ b + 3 = lm s 2 + 1 by omega); omega
  · rcases w with w | w | w | w | ⟨s1, w⟩
    · omega
    · omega
    · omega
    · omega
    · have := (hi.2.2.2.1 s 2 s1 s4 (by omega)).2; omega
/-- the told's own cells after the class's reading -/
theorem cl_told {h h25 : HA} {b s : Nat} {D : DT} {α : Nat → Nat} {lm : Nat → Nat → Nat} {im : Nat → Option (Nat × DT)} (hi : IV h b D α lm im) (s4 : s < 4) (c : ch (Wrx (b + 31) (b + 39) (α 2) (lm (if s = 0 then 1 else s) 2) s) (sa (h8 h b) (b + 31) 4 (some (b + 2))) h25) : gi h25 (b + 1) 1 = 0 ∧ gi h25 (b + 1) 2 = 0 ∧ gi h25 (b + 1) 3 = -1 := by
  have nw : ∀ k, ¬ Wrx (b + 31) (b + 39) (α 2) (lm (if s = 0 then 1 else s) 2) s (b + 1) k := by
    intro k w
    rcases w with w | w | w | ⟨s1, w⟩
    · omega
    · omega
    · have := iv_nc hi (show 2 < 3 by omega) w.1 w.2; omega
    · rw [if_neg (by omega)] at w
      have := iv_nl hi s1 s4 (show 2 < 3 by omega) (show b + 1 = lm s 2 ∨ b + 1 = lm s 2 + 1 by omega); omega
  refine ⟨?_, ?_, ?_⟩
  · rw [c.gi (nw 1), gi_sa]
    unfold h8
    rw [gi_si, if_neg (by omega), gi_si, if_neg (by omega), gi_si, if_pos ⟨rfl, rfl⟩]
  · rw [c.gi (nw 2), gi_sa]
    unfold h8
    rw [gi_si, if_neg (by omega), gi_si, if_pos ⟨rfl, rfl⟩]
  · rw [c.gi (nw 3), gi_sa]
    unfold h8
    rw [gi_si, if_pos ⟨rfl, rfl⟩]
theorem V4_g {b a j : Nat} (w : a = b + 31 ∧ j = 4) : Wtg b a j := by unfold Wtg; omega
theorem s_text {h : HA} {b : Nat} {D : DT} {α : Nat → Nat} {lm : Nat → Nat → Nat} {im : Nat → Option (Nat × DT)} (hi : IV h b D α lm im) (x y : Int32) : STP b h (fun h => X7_text h b x y) (fun h => X8_text h (b + 55) x y) := by
  have hw := iv_w hi
  have ht := iv_tk hi
  have md := iv_m hi
  have n2 := hw.2.1
  have hBx : ∀ f, ∃ i, f < dL D → dT D f = sB i ∧ i < 256 := fun f => by
    by_cases hf : f < dL D
    · obtain ⟨i, i1, i2⟩ := sB_of _ (hw.2.2.2.2 f hf)
      exact ⟨i, fun _ => ⟨i2, i1⟩⟩
    · exact ⟨0, fun z => absurd z hf⟩
  obtain ⟨B, hB⟩ := Classical.axiomOfChoice hBx
  rcases okt_or (x := x) (y := y) n2 with hr | ⟨s, k, ho⟩
  · -- refused
    have p8 : rel (fun a k => a = b + 1 ∧ 1 ≤ k ∧ k ≤ 3) (fun _ _ => False) h (h8 h b) := rel_ch (h8_ch h b) (fun _ _ w => w)
    obtain ⟨ms8, z2, _, z4⟩ := m_in hi p8 (fun a k h1 h2 w => by omega) (fun _ _ _ _ w => w) hB
    have em := mtext_no ms8 z2 z4 hr
    refine ⟨-2, h8 h b, m8 (h8 h b) (b + 55) (dL D), dset D 0 0 (-1) (dT D), α, lm, im, ctext_no hi hr, em, ?_⟩
    have c : ch (Wt b) h (m8 (h8 h b) (b + 55) (dL D)) := by
      refine ((h8_ch h b).mo (fun a k w => Or.inl w)).tr ?_
      unfold m8
      exact ((((ch_si (Or.inr (Or.inr (Or.inr (Or.inr rfl))))).tr (ch_si (Or.inr (Or.inr (Or.inr (Or.inr rfl)))))).tr (ch_si (Or.inr (Or.inr (Or.inr (Or.inl ⟨Or.inl (by omega), rfl⟩)))))).tr (ch_si (Or.inr (Or.inr (Or.inr (Or.inl ⟨Or.inr (Or.inl (by omega)), rfl⟩)))))).tr (ch_si (Or.inr (Or.inr (Or.inr (Or.inl ⟨Or.inr (Or.inr (by omega)), rfl⟩)))))
    obtain ⟨q2, q3, q4, _⟩ := m8_g (g := h8 h b) (m := b + 55) (n := dL D)
    have e1 : ∀ k, gi (m8 (h8 h b) (b + 55) (dL D)) (b + 1) k = gi (h8 h b) (b + 1) k := fun k => (m8_ch _ _ _).gi (by unfold Wm2; omega)
    refine IV_told hi c (by omega) (fun f hf => by omega) ?_ ?_ ?_ (fun f hf => by omega) q2 q3 q4 (fun f hf => by omega)
    · rw [e1]; unfold h8; rw [gi_si, if_neg (by omega), gi_si, if_neg (by omega), gi_si, if_pos ⟨rfl, rfl⟩]; rfl
    · rw [e1]; unfold h8; rw [gi_si, if_neg (by omega), gi_si, if_pos ⟨rfl, rfl⟩]
    · rw [e1]; unfold h8; rw [gi_si, if_pos ⟨rfl, rfl⟩]
  · -- read
    have s4 := ho.1
    have hk2 : k < 2 := by
      have := n2 s s4
      rcases ho.2.2 with ⟨_, h2, h3⟩ | ⟨_, h2⟩ <;> omega
    obtain ⟨h25, e25, c25, g2, g3, g0⟩ := cread_ok hi s4 hB
    have p25 := cl_rel hi s4 c25
    obtain ⟨no3, no46⟩ := cl_no hi s4
    obtain ⟨w1, w2, w3⟩ := cl_told hi s4 c25
    have f25 : FX h25 b := FX_rel hi.1 (p25.mo (fun _ _ w => w) (fun _ _ w => V4_g w))
    have c25n : ∀ u, u < 4 → gi h25 (b + 3) u = nI (dN D u) := fun u hu => by rw [(p25.2.2.1 _ _ (no3 u)).1]; exact iv_n hi hu
    have rp25 : rel (Wti b α lm s) (Wtg b) h h25 := p25.mo (fun _ _ w => Wcl_i w) (fun _ _ w => V4_g w)
    by_cases hF : (txG B (dL D) s).1.1 = 0
    · obtain ⟨eP, eW⟩ := txG_ok s4 hF
      obtain ⟨R, hR⟩ : ∃ R, R = (txG B (dL D) s).2 := ⟨_, rfl⟩
      rw [← hR] at eW g0
      obtain ⟨c', hc'⟩ : ∃ c', c' = if k = dN D s then dN D s + 1 else dN D s := ⟨_, rfl⟩
      have hkN : k ≤ dN D s := by rcases ho.2.2 with ⟨_, h2, h3⟩ | ⟨_, h2⟩ <;> omega
      have hcl : ∀ j, j < c' → j ≠ k → j < dN D s := fun j h1 h2 => by rw [hc'] at h1; split at h1 <;> omega
      have hc2 : c' ≤ 2 := by have := n2 s s4; rw [hc']; split <;> omega
      -- the class keeps its draft
      have start : X7_text h b x y = (X7_keepDraft h25 b (nI s) (nI k)).bind fun h29 => some (nI k, h29) := by
        rw [ctext_ok hi ho, e25, Option.bind_some, fx_rd f25, Option.bind_some, gI_n (fx_k31 f25), g2, hF, Option.bind_some, if_pos rfl]
      -- the model's part
      have model : ∀ (W V : Nat → Nat → Prop) (h29 : HA), rel W V h h29 → (∀ a k, b + 55 ≤ a → a ≤ b + 64 → ¬ W a k) → (∀ a k, b + 55 ≤ a → a ≤ b + 64 → ¬ V a k) → ∃ g1, X8_text h29 (b + 55) x y = some (nI k, g1) ∧ ch (Wst (b + 55) s k) h29 g1 ∧ gi g1 (b + 57) 0 = 0 ∧ gi g1 (b + 58) 0 = 0 ∧ gi g1 (b + 59) 0 = -1 ∧ gi g1 (b + 60) s = nI c' ∧ ∀ i, i < tw4 s → gi g1 (b + 61 + s) (tw4 s * k + i) = R i := by
        intro W V h29 p hW hV
        obtain ⟨m1, m2, m3, m4⟩ := m_in hi p hW hV hB
        obtain ⟨g1, a1, a2, a3, a4, a5, a6, a7⟩ := (mtext_ok m1 m2 hw.1 m3 m4 ho).2 hF
        rw [eP] at a5
        exact ⟨g1, a1, a2, a3, a4, a5, by rw [hc']; exact a6, fun i hi => by rw [hR, show b + 61 + s = b + 55 + 6 + s by omega]; exact a7 i hi⟩
      have wstn : ∀ a j, a < b + 46 → ¬ Wst (b + 55) s k a j := fun a j ha w => by unfold Wst Wm2 at w; omega
      by_cases s0 : s = 0
      · subst s0
        have kα2 : kd h25 (α 2) = (1, 0) := by rw [p25.2.1]; exact (hi.2.1 2 (by omega)).1.1
        obtain ⟨h29, e29, r29, q1, q2, q3⟩ := ckeep0 (α := α) (k := k) f25 (fun j hj => by rw [p25.2.2.2 _ _ (by omega)]; exact iv_c hi hj) (by rw [p25.2.2.2 _ _ (by omega)]; exact hi.2.2.2.2.2.2.1) kα2 hk2 (c25n 0 (by omega)) (n2 0 (by omega))
        have rp29 : rel (Wti b α lm 0) (Wtg b) h h29 := rp25.tr (r29.mo (fun a j w => by unfold Wti; omega) (fun a j w => by unfold Wtg; omega))
        have rq29 : rel (fun a j => Wcl b α lm 0 a j ∨ (a = b + 3 ∧ j = 0)) (fun a j => a < b + 55) h h29 := (p25.mo (fun _ _ w => Or.inl w) (fun a j w => by omega)).tr (r29.mo (fun _ _ w => Or.inr w) (fun a j w => by omega))
        obtain ⟨g1, a1, a2, a3, a4, a5, a6, a7⟩ := model _ _ h29 rq29 (fun a j h1 h2 w => by
          rcases w with w | w
          · exact no46 a j (by omega) w
          · omega) (fun a j h1 h2 w => by omega)
        have rg : rel (Wti b α lm 0) (Wtg b) h g1 := rp29.tr (rel_ch a2 (fun a j w => Wst_i (by omega) hk2 w))
        have ga1 : ∀ a j, ga g1 a j = ga h29 a j := fun a j => a2.2.2.1 a j
        have glo : ∀ a j, a < b + 46 → gi g1 a j = gi h29 a j := fun a j ha => a2.gi (wstn a j ha)
        refine ⟨nI k, h29, g1, ((0, 0, -1), dT D, (fun u => if u = 0 then c' else dN D u), (fun j => if j = k then R else dC D j), dR D), (fun j => if j = k then α 2 else if j = 2 then α k else α j), lm, im, by show X7_text h b x y = _; rw [start, e29]; rfl, a1, ?_⟩
        have cq : CQ g1 (α 2) R := by
          refine CQ_sm ((g0 hF).1 rfl) (fun a h1 h2 => ?_)
          have n := iv_nc hi (show 2 < 3 by omega) h1 h2
          refine (r29.sm (fun j w => by omega) (fun j w => by omega)).tr (a2.sm (fun j => wstn a j (by omega)))
        have inj := hi.2.2.1
        refine IV_text hi (s := 0) (by omega) rg.1 rg.2.1 rg.2.2.1 rg.2.2.2 (fun j hj => ?_) (fun i j h1 h2 e => ?_) (fun u j _ _ hj => ⟨j, hj, rfl⟩) hi.2.2.2.2.1 rfl ⟨?_, ?_, ?_⟩ (fun u hu => ?_) (fun j hj => ?_) (fun u j h1 h2 hj => ?_) (fun j hj => ?_) (fun u j h1 h2 hj => ?_) ?_ (fun u h1 h2 => ?_) ⟨?_, ?_, ?_, fun f hf => ?_, fun u hu => ?_, fun j i hj hi' => ?_, fun u j i h1 h2 hj hi' => ?_⟩ ⟨by show 0 ≤ 600; omega, fun u hu => ?_, fun j hj => ?_, fun u j h1 h2 hj => ?_, fun f hf => ?_⟩
        · show ∃ i, i < 3 ∧ (if j = k then α 2 else if j = 2 then α k else α j) = α i
          by_cases e1 : j = k
          · rw [if_pos e1]; exact ⟨2, by omega, rfl⟩
          · rw [if_neg e1]
            by_cases e2 : j = 2
            · rw [if_pos e2]; exact ⟨k, by omega, rfl⟩
            · rw [if_neg e2]; exact ⟨j, hj, rfl⟩
        · have e' : (if i = k then α 2 else if i = 2 then α k else α i) = (if j = k then α 2 else if j = 2 then α k else α j) := e
          have cv : ∀ i, (if i = k then α 2 else if i = 2 then α k else α i) = α (if i = k then 2 else if i = 2 then k else i) := fun i => by
            by_cases d1 : i = k
            · rw [if_pos d1, if_pos d1]
            · rw [if_neg d1, if_neg d1]
              by_cases d2 : i = 2
              · rw [if_pos d2, if_pos d2]
              · rw [if_neg d2, if_neg d2]
          rw [cv i, cv j] at e'
          have := inj _ _ (by split <;> (try split) <;> omega) (by split <;> (try split) <;> omega) e'
          revert this
          split <;> (try split) <;> (try split) <;> (try split) <;> (intro this; omega)
        · rw [glo _ _ (by omega), (r29.2.2.1 _ _ (by omega)).1]; exact w1
        · rw [glo _ _ (by omega), (r29.2.2.1 _ _ (by omega)).1]; exact w2
        · rw [glo _ _ (by omega), (r29.2.2.1 _ _ (by omega)).1]; exact w3
        · rw [glo _ _ (by omega)]
          show gi h29 (b + 3) u = nI (if u = 0 then c' else dN D u)
          by_cases e : u = 0
          · rw [if_pos e, e, q1, hc']
          · rw [if_neg e, (r29.2.2.1 _ _ (by omega)).1]; exact c25n u hu
        · rw [ga1]
          show ga h29 (b + 4) j = some (if j = k then α 2 else if j = 2 then α k else α j)
          by_cases e1 : j = k
          · rw [if_pos e1, e1]; exact q2
          · rw [if_neg e1, if_neg (by omega), r29.2.2.2 _ _ (by omega), p25.2.2.2 _ _ (by omega)]; exact iv_c hi hj
        · rw [ga1, r29.2.2.2 _ _ (by omega), p25.2.2.2 _ _ (by omega)]; exact iv_l hi h1 h2 hj
        · have hj' : j < c' := hj
          by_cases e1 : j = k
          · right
            show CQ g1 (if j = k then α 2 else if j = 2 then α k else α j) (if j = k then R else dC D j)
            rw [if_pos e1, if_pos e1]; exact cq
          · left
            refine ⟨j, hcl j hj' e1, ?_, ?_⟩
            · show (if j = k then α 2 else if j = 2 then α k else α j) = α j
              rw [if_neg e1, if_neg (by omega)]
            · show (if j = k then R else dC D j) = dC D j
              rw [if_neg e1]
        · have hj' : j < (if u = 0 then c' else dN D u) := hj
          rw [if_neg (by omega)] at hj'
          exact Or.inl ⟨j, hj', rfl, rfl⟩
        · rw [ga1]
          show ga h29 (b + 31) 0 = some (if 2 = k then α 2 else if 2 = 2 then α k else α 2)
          rw [if_neg (by omega), if_pos rfl]; exact q3
        · rw [ga1, r29.2.2.2 _ _ (by omega), p25.2.2.2 _ _ (by omega)]; exact hi.2.2.2.2.2.2.2.1 u h1 h2
        · exact a3
        · exact a4
        · exact a5
        · exact absurd (show f < 0 from hf) (by omega)
        · rw [show 4 * 0 + u = u by omega]
          show gi g1 (b + 60) u = nI (if u = 0 then c' else dN D u)
          by_cases e : u = 0
          · rw [if_pos e, e]; exact a6
          · rw [if_neg e]
            have q := md.2.2.2.2.1 u hu
            rw [show 4 * 0 + u = u by omega] at q
            rw [a2.gi (by unfold Wst Wm2; omega), (rq29.2.2.1 _ _ (fun w => by
              rcases w with w | w
              · exact no46 _ _ (by omega) w
              · omega)).1]
            exact q
        · have hj' : j < c' := hj
          rw [show 212 * 0 + (106 * j + i) = 106 * j + i by omega]
          show gi g1 (b + 61) (106 * j + i) = (if j = k then R else dC D j) i
          by_cases e : j = k
          · rw [if_pos e, e]; exact a7 i hi'
          · rw [if_neg e]
            have q := md.2.2.2.2.2.1 j i (hcl j hj' e) hi'
            rw [show 212 * 0 + (106 * j + i) = 106 * j + i by omega] at q
            have t0 : tw4 0 = 106 := rfl
            rw [a2.gi (by unfold Wst Wm2; rw [t0]; omega), (rq29.2.2.1 _ _ (fun w => by
              rcases w with w | w
              · exact no46 _ _ (by omega) w
              · omega)).1]
            exact q
        · have hj' : j < (if u = 0 then c' else dN D u) := hj
          rw [if_neg (by omega)] at hj'
          have q := md.2.2.2.2.2.2 u j i h1 h2 hj' hi'
          rw [a2.gi (by unfold Wst Wm2; omega), (rq29.2.2.1 _ _ (fun w => by
            rcases w with w | w
            · exact no46 _ _ (by omega) w
            · omega)).1]
          exact q
        · show (if u = 0 then c' else dN D u) ≤ 2
          split
          · exact hc2
          · exact n2 u hu
        · have hj' : j < c' := hj
          show WF (if j = k then R else dC D j)
          by_cases e : j = k
          · rw [if_pos e]; exact cq.1.2.1
          · rw [if_neg e]; exact hw.2.2.1 j (hcl j hj' e)
        · have hj' : j < (if u = 0 then c' else dN D u) := hj
          rw [if_neg (by omega)] at hj'
          exact hw.2.2.2.1 u j h1 h2 hj'
        · exact absurd (show f < 0 from hf) (by omega)
      · have s1 : 1 ≤ s := by omega
        rw [if_neg s0] at g0
        have lq := fun j (hj : j < 3) => (hi.2.2.2.1 s j s1 s4 hj).1
        obtain ⟨h29, e29, r29, q1, q2, q3⟩ := ckeepL (lm := lm) (k := k) f25 s1 s4 (fun j hj => by rw [p25.2.2.2 _ _ (by omega)]; exact iv_l hi s1 s4 hj) (by rw [p25.2.2.2 _ _ (by omega)]; exact hi.2.2.2.2.2.2.2.1 s s1 s4) (by rw [p25.2.1]; exact (lq 2 (by omega)).1) (by rw [p25.2.1]; exact (lq k (by omega)).1) hk2 (c25n s s4) (n2 s s4)
        have rp29 : rel (Wti b α lm s) (Wtg b) h h29 := rp25.tr (r29.mo (fun a j w => by unfold Wti; omega) (fun a j w => by unfold Wtg; omega))
        have rq29 : rel (fun a j => Wcl b α lm s a j ∨ (a = b + 3 ∧ j = s)) (fun a j => a < b + 55) h h29 := (p25.mo (fun _ _ w => Or.inl w) (fun a j w => by omega)).tr (r29.mo (fun _ _ w => Or.inr w) (fun a j w => by omega))
        obtain ⟨g1, a1, a2, a3, a4, a5, a6, a7⟩ := model _ _ h29 rq29 (fun a j h1 h2 w => by
          rcases w with w | w
          · exact no46 a j (by omega) w
          · omega) (fun a j h1 h2 w => by omega)
        have rg : rel (Wti b α lm s) (Wtg b) h g1 := rp29.tr (rel_ch a2 (fun a j w => Wst_i s4 hk2 w))
        have ga1 : ∀ a j, ga g1 a j = ga h29 a j := fun a j => a2.2.2.1 a j
        have glo : ∀ a j, a < b + 46 → gi g1 a j = gi h29 a j := fun a j ha => a2.gi (wstn a j ha)
        have tw4s : tw4 s = lrw s := if_neg s0
        refine ⟨nI k, h29, g1, ((0, 0, -1), dT D, (fun u => if u = s then c' else dN D u), dC D, (fun u j => if u = s ∧ j = k then R else dR D u j)), α, (fun u j => if u = s then (if j = k then lm u 2 else if j = 2 then lm u k else lm u j) else lm u j), im, by show X7_text h b x y = _; rw [start, e29]; rfl, a1, ?_⟩
        have ll : LL g1 (lm s 2) s R := by
          have key : ∀ a, (a = lm s 2 ∨ a = lm s 2 + 1) → sm h25 g1 a := fun a ha => by
            have n := iv_nl hi s1 s4 (show 2 < 3 by omega) ha
            exact (r29.sm (fun j w => by omega) (fun j w => by omega)).tr (a2.sm (fun j => wstn a j (by omega)))
          exact LL_sm ((g0 hF).2 s1) (key _ (Or.inl rfl)) (key _ (Or.inr rfl))
        have cv : ∀ u i, (if u = s then (if i = k then lm u 2 else if i = 2 then lm u k else lm u i) else lm u i) = lm u (if u = s then (if i = k then 2 else if i = 2 then k else i) else i) := fun u i => by
          by_cases d0 : u = s
          · rw [if_pos d0, if_pos d0]
            by_cases d1 : i = k
            · rw [if_pos d1, if_pos d1]
            · rw [if_neg d1, if_neg d1]
              by_cases d2 : i = 2
              · rw [if_pos d2, if_pos d2]
              · rw [if_neg d2, if_neg d2]
          · rw [if_neg d0, if_neg d0]
        refine IV_text hi (s := s) s4 rg.1 rg.2.1 rg.2.2.1 rg.2.2.2 (fun j hj => ⟨j, hj, rfl⟩) hi.2.2.1 (fun u j h1 h2 hj => ?_) (fun u i j h1 h2 hi' hj e => ?_) rfl ⟨?_, ?_, ?_⟩ (fun u hu => ?_) (fun j hj => ?_) (fun u j h1 h2 hj => ?_) (fun j hj => ?_) (fun u j h1 h2 hj => ?_) ?_ (fun u h1 h2 => ?_) ⟨?_, ?_, ?_, fun f hf => ?_, fun u hu => ?_, fun j i hj hi' => ?_, fun u j i h1 h2 hj hi' => ?_⟩ ⟨by show 0 ≤ 600; omega, fun u hu => ?_, fun j hj => ?_, fun u j h1 h2 hj => ?_, fun f hf => ?_⟩
        · exact ⟨_, by split <;> (try split) <;> (try split) <;> omega, cv u j⟩
        · have e' : lm u (if u = s then (if i = k then 2 else if i = 2 then k else i) else i) = lm u (if u = s then (if j = k then 2 else if j = 2 then k else j) else j) := (cv u i).symm.trans (e.trans (cv u j))
          have := hi.2.2.2.2.1 u _ _ h1 h2 (by split <;> (try split) <;> (try split) <;> omega) (by split <;> (try split) <;> (try split) <;> omega) e'
          revert this
          by_cases d0 : u = s
          · rw [if_pos d0, if_pos d0]
            split <;> (try split) <;> (try split) <;> (try split) <;> (intro this; omega)
          · rw [if_neg d0, if_neg d0]; exact fun z => z
        · rw [glo _ _ (by omega), (r29.2.2.1 _ _ (by omega)).1]; exact w1
        · rw [glo _ _ (by omega), (r29.2.2.1 _ _ (by omega)).1]; exact w2
        · rw [glo _ _ (by omega), (r29.2.2.1 _ _ (by omega)).1]; exact w3
        · rw [glo _ _ (by omega)]
          show gi h29 (b + 3) u = nI (if u = s then c' else dN D u)
          by_cases e : u = s
          · rw [if_pos e, e, q1, hc']
          · rw [if_neg e, (r29.2.2.1 _ _ (by omega)).1]; exact c25n u hu
        · rw [ga1, r29.2.2.2 _ _ (by omega), p25.2.2.2 _ _ (by omega)]; exact iv_c hi hj
        · rw [ga1]
          show ga h29 (b + 5) (2 * u + j) = some (if u = s then (if j = k then lm u 2 else if j = 2 then lm u k else lm u j) else lm u j)
          by_cases d0 : u = s
          · subst d0
            rw [if_pos rfl]
            by_cases e1 : j = k
            · rw [if_pos e1, e1]; exact q2
            · rw [if_neg e1, if_neg (by omega), r29.2.2.2 _ _ (by omega), p25.2.2.2 _ _ (by omega)]; exact iv_l hi h1 h2 hj
          · rw [if_neg d0, r29.2.2.2 _ _ (by omega), p25.2.2.2 _ _ (by omega)]; exact iv_l hi h1 h2 hj
        · have hj' : j < (if 0 = s then c' else dN D 0) := hj
          rw [if_neg (by omega)] at hj'
          exact Or.inl ⟨j, hj', rfl, rfl⟩
        · have hj' : j < (if u = s then c' else dN D u) := hj
          by_cases d0 : u = s
          · rw [if_pos d0] at hj'
            by_cases e1 : j = k
            · right
              show LL g1 (if u = s then (if j = k then lm u 2 else if j = 2 then lm u k else lm u j) else lm u j) u (if u = s ∧ j = k then R else dR D u j)
              rw [if_pos d0, if_pos e1, if_pos ⟨d0, e1⟩, d0]; exact ll
            · left
              refine ⟨j, by rw [d0]; exact hcl j hj' e1, ?_, ?_⟩
              · show (if u = s then (if j = k then lm u 2 else if j = 2 then lm u k else lm u j) else lm u j) = lm u j
                rw [if_pos d0, if_neg e1, if_neg (by omega)]
              · show (if u = s ∧ j = k then R else dR D u j) = dR D u j
                rw [if_neg (fun z => e1 z.2)]
          · rw [if_neg d0] at hj'
            left
            refine ⟨j, hj', ?_, ?_⟩
            · show (if u = s then (if j = k then lm u 2 else if j = 2 then lm u k else lm u j) else lm u j) = lm u j
              rw [if_neg d0]
            · show (if u = s ∧ j = k then R else dR D u j) = dR D u j
              rw [if_neg (fun z => d0 z.1)]
        · rw [ga1, r29.2.2.2 _ _ (by omega), p25.2.2.2 _ _ (by omega)]; exact hi.2.2.2.2.2.2.1
        · rw [ga1]
          show ga h29 (b + 38) u = some (if u = s then (if 2 = k then lm u 2 else if 2 = 2 then lm u k else lm u 2) else lm u 2)
          by_cases d0 : u = s
          · rw [if_pos d0, if_neg (by omega), if_pos rfl, d0]; exact q3
          · rw [if_neg d0, r29.2.2.2 _ _ (by omega), p25.2.2.2 _ _ (by omega)]; exact hi.2.2.2.2.2.2.2.1 u h1 h2
        · exact a3
        · exact a4
        · exact a5
        · exact absurd (show f < 0 from hf) (by omega)
        · rw [show 4 * 0 + u = u by omega]
          show gi g1 (b + 60) u = nI (if u = s then c' else dN D u)
          by_cases e : u = s
          · rw [if_pos e, e]; exact a6
          · rw [if_neg e]
            have q := md.2.2.2.2.1 u hu
            rw [show 4 * 0 + u = u by omega] at q
            rw [a2.gi (by unfold Wst Wm2; omega), (rq29.2.2.1 _ _ (fun w => by
              rcases w with w | w
              · exact no46 _ _ (by omega) w
              · omega)).1]
            exact q
        · have hj' : j < (if 0 = s then c' else dN D 0) := hj
          rw [if_neg (by omega)] at hj'
          have q := md.2.2.2.2.2.1 j i hj' hi'
          rw [a2.gi (by unfold Wst Wm2; omega), (rq29.2.2.1 _ _ (fun w => by
            rcases w with w | w
            · exact no46 _ _ (by omega) w
            · omega)).1]
          exact q
        · have hj' : j < (if u = s then c' else dN D u) := hj
          rw [show 2 * lrw u * 0 + (lrw u * j + i) = lrw u * j + i by omega]
          show gi g1 (b + 55 + (6 + u)) (lrw u * j + i) = (if u = s ∧ j = k then R else dR D u j) i
          have old : ¬ (u = s ∧ j = k) → j < dN D u → gi g1 (b + 55 + (6 + u)) (lrw u * j + i) = dR D u j i := by
            intro hne hjn
            have q := md.2.2.2.2.2.2 u j i h1 h2 hjn hi'
            rw [show 2 * lrw u * 0 + (lrw u * j + i) = lrw u * j + i by omega] at q
            rw [a2.gi (fun w => ?_), (rq29.2.2.1 _ _ (fun w => by
              rcases w with w | w
              · exact no46 _ _ (by omega) w
              · omega)).1]
            · exact q
            · rcases w with w | w | ⟨e1, e2, e3⟩
              · unfold Wm2 at w; omega
              · omega
              · have us : u = s := by omega
                subst us
                rw [tw4s] at e2 e3
                have jk : j ≠ k := fun z => hne ⟨rfl, z⟩
                have nj := hjn
                have nu := n2 u h2
                have cj : j = 0 ∨ j = 1 := by omega
                have ck : k = 0 ∨ k = 1 := by omega
                rcases cj with z | z <;> rcases ck with z' | z' <;> subst z <;> subst z' <;> omega
          by_cases e : u = s ∧ j = k
          · rw [if_pos e, e.1, e.2]
            have := a7 i (by rw [tw4s, ← e.1]; exact hi')
            rw [tw4s, show b + 61 + s = b + 55 + (6 + s) by omega] at this
            exact this
          · rw [if_neg e]
            refine old e ?_
            by_cases d0 : u = s
            · rw [if_pos d0] at hj'
              rw [d0]; exact hcl j hj' (fun z => e ⟨d0, z⟩)
            · rw [if_neg d0] at hj'; exact hj'
        · show (if u = s then c' else dN D u) ≤ 2
          split
          · exact hc2
          · exact n2 u hu
        · have hj' : j < (if 0 = s then c' else dN D 0) := hj
          rw [if_neg (by omega)] at hj'
          exact hw.2.2.1 j hj'
        · have hj' : j < (if u = s then c' else dN D u) := hj
          show WL u (if u = s ∧ j = k then R else dR D u j)
          by_cases e : u = s ∧ j = k
          · rw [if_pos e, e.1]; exact eW s1
          · rw [if_neg e]
            refine hw.2.2.2.1 u j h1 h2 ?_
            by_cases d0 : u = s
            · rw [if_pos d0] at hj'
              rw [d0]; exact hcl j hj' (fun z => e ⟨d0, z⟩)
            · rw [if_neg d0] at hj'; exact hj'
        · exact absurd (show f < 0 from hf) (by omega)
    · -- a FAULT
      obtain ⟨F, eF⟩ : ∃ F, F = (txG B (dL D) s).1.1 := ⟨_, rfl⟩
      obtain ⟨P, eP⟩ : ∃ P, P = (txG B (dL D) s).1.2 := ⟨_, rfl⟩
      rw [← eF] at g2 g3 hF
      rw [← eP] at g3
      have p33 := rel_ch (W := Wcl b α lm s) (V := fun a j => a = b + 31 ∧ j = 4) (ch_si (h := h25) (a := b + 1) (k := 2) (v := F) (show (fun a k => a = b + 1 ∧ 1 ≤ k ∧ k ≤ 3) (b + 1) 2 from ⟨rfl, by omega, by omega⟩)) (fun a k w => Or.inl w)
      have p33' := p25.tr p33
      have f33 : FX (si h25 (b + 1) 2 F) b := FX_rel hi.1 (p33'.mo (fun _ _ w => w) (fun _ _ w => V4_g w))
      have p37 := p33'.tr (rel_ch (W := Wcl b α lm s) (V := fun a j => a = b + 31 ∧ j = 4) (ch_si (h := si h25 (b + 1) 2 F) (a := b + 1) (k := 3) (v := P) (show (fun a k => a = b + 1 ∧ 1 ≤ k ∧ k ≤ 3) (b + 1) 3 from ⟨rfl, by omega, by omega⟩)) (fun a k w => Or.inl w))
      have start : X7_text h b x y = some (-1, si (si h25 (b + 1) 2 F) (b + 1) 3 P) := by
        rw [ctext_ok hi ho, e25, Option.bind_some, fx_rd f25, Option.bind_some, gI_n (fx_k31 f25), g2, Option.bind_some, if_neg hF, fx_told f25, Option.bind_some, Option.bind_some, gI_n (fx_k31 f25), g2, Option.bind_some, pI_n (fx_kt f25), Option.bind_some, fx_told f33, Option.bind_some, fx_rd f33, Option.bind_some, gI_n (fx_k31 f33), gi_si, if_neg (by omega), g3 hF, Option.bind_some, pI_n (fx_kt f33), Option.bind_some]
      obtain ⟨m1, m2, m3, m4⟩ := m_in hi p37 (fun a j h1 h2 w => no46 a j (by omega) w) (fun a j h1 h2 w => by omega) hB
      obtain ⟨g1, a1, a2, a3, a4, a5⟩ := (mtext_ok m1 m2 hw.1 m3 m4 ho).1 (by rw [← eF]; exact hF)
      rw [← eF] at a4
      rw [← eP] at a5
      have rg : rel (Wti b α lm s) (Wtg b) h g1 := (p37.mo (fun _ _ w => Wcl_i w) (fun _ _ w => V4_g w)).tr (rel_ch a2 (fun a j w => Wm2_i w))
      have glo : ∀ a j, a < b + 46 → gi g1 a j = gi (si (si h25 (b + 1) 2 F) (b + 1) 3 P) a j := fun a j ha => a2.gi (by unfold Wm2; omega)
      have gal : ∀ a j, a ≠ b + 31 ∨ j ≠ 4 → ga g1 a j = ga h a j := fun a j z => by rw [a2.2.2.1, p37.2.2.2 _ _ (by omega)]
      have mdl : ∀ a j, b + 56 ≤ a → a ≤ b + 64 → (a ≠ b + 57 ∧ a ≠ b + 58 ∧ a ≠ b + 59) → gi g1 a j = gi h a j := fun a j h1 h2 h3 => by
        rw [a2.gi (by unfold Wm2; omega), (p37.2.2.1 _ _ (no46 a j (by omega))).1]
      refine ⟨-1, _, g1, dset D 0 F P (dT D), α, lm, im, start, a1, ?_⟩
      refine IV_text hi (s := s) s4 rg.1 rg.2.1 rg.2.2.1 rg.2.2.2 (fun j hj => ⟨j, hj, rfl⟩) hi.2.2.1 (fun u j _ _ hj => ⟨j, hj, rfl⟩) hi.2.2.2.2.1 rfl ⟨?_, ?_, ?_⟩ (fun u hu => ?_) (fun j hj => ?_) (fun u j h1 h2 hj => ?_) (fun j hj => Or.inl ⟨j, hj, rfl, rfl⟩) (fun u j h1 h2 hj => Or.inl ⟨j, hj, rfl, rfl⟩) ?_ (fun u h1 h2 => ?_) ⟨?_, ?_, ?_, fun f hf => ?_, fun u hu => ?_, fun j i hj hi' => ?_, fun u j i h1 h2 hj hi' => ?_⟩ ⟨by show 0 ≤ 600; omega, hw.2.1, hw.2.2.1, hw.2.2.2.1, fun f hf => ?_⟩
      · rw [glo _ _ (by omega), gi_si, if_neg (by omega), gi_si, if_neg (by omega)]; exact w1
      · rw [glo _ _ (by omega), gi_si, if_neg (by omega), gi_si, if_pos ⟨rfl, rfl⟩]; rfl
      · rw [glo _ _ (by omega), gi_si, if_pos ⟨rfl, rfl⟩]; rfl
      · rw [glo _ _ (by omega), gi_si, if_neg (by omega), gi_si, if_neg (by omega)]; exact c25n u hu
      · rw [gal _ _ (by omega)]; exact iv_c hi hj
      · rw [gal _ _ (by omega)]; exact iv_l hi h1 h2 hj
      · rw [gal _ _ (by omega)]; exact hi.2.2.2.2.2.2.1
      · rw [gal _ _ (by omega)]; exact hi.2.2.2.2.2.2.2.1 u h1 h2
      · exact a3
      · exact a4
      · exact a5
      · exact absurd (show f < 0 from hf) (by omega)
      · rw [mdl _ _ (by omega) (by omega) (by omega)]; exact md.2.2.2.2.1 u hu
      · rw [mdl _ _ (by omega) (by omega) (by omega)]; exact md.2.2.2.2.2.1 j i hj hi'
      · rw [mdl _ _ (by omega) (by omega) (by omega)]; exact md.2.2.2.2.2.2 u j i h1 h2 hj hi'
      · exact absurd (show f < 0 from hf) (by omega)
