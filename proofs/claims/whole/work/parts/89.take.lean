/-! TEXT: the model takes numbers -/
def Wtx (m : Nat) : Nat → Nat → Prop := fun a k => (a = m ∧ k ≠ 11 ∧ k < 19) ∨ a = m + 11
def MXa (h : HA) (m n : Nat) (B : Nat → Nat) (σ : ZS) : Prop := MT0 h m n B ∧ TM0 h m n B (zi σ) ∧ gi h m 17 = zf σ ∧ (zf σ ≠ 0 → gi h m 18 = zp σ)
theorem MXa_ch {W : Nat → Nat → Prop} {h h1 : HA} {m n : Nat} {B : Nat → Nat} {σ : ZS} (x : MXa h m n B σ) (p : ch W h h1) (hw : ∀ k, k < 19 → ¬ W m k) (ht : ∀ k, ¬ W (m + 1) k) : MXa h1 m n B σ := by
  obtain ⟨x1, ⟨t1, t2, t3, t4, t5⟩, x3, x4⟩ := x
  exact ⟨MT0_ch x1 p (hw 11 (by omega)) ht, ⟨by rw [p.gi (hw 10 (by omega))]; exact t1, by rw [p.gi (hw 13 (by omega))]; exact t2, by rw [p.gi (hw 12 (by omega))]; exact t3, fun z => by rw [p.gi (hw 14 (by omega))]; exact t4 z, fun z => by rw [p.gj (hw 15 (by omega))]; exact t5 z⟩, by rw [p.gi (hw 17 (by omega))]; exact x3, fun z => by rw [p.gi (hw 18 (by omega))]; exact x4 z⟩
theorem MXa_eq {h : HA} {m n : Nat} {B : Nat → Nat} {σ τ : ZS} (x : MXa h m n B σ) (e1 : zi τ = zi σ) (e2 : zf τ = zf σ) (e3 : zp τ = zp σ) : MXa h m n B τ := by
  unfold MXa
  rw [e1, e2, e3]; exact x
theorem later_n {h : HA} {m n : Nat} {B : Nat → Nat} {σ : ZS} {cd : Int32} (x : MXa h m n B σ) (hi : zi σ ≤ n) (hq : zf σ ≠ 0 → ∃ q, zp σ = nI q ∧ q < tB B n (zi σ)) :
    ∃ h1, X8_later h m cd (nI (tB B n (zi σ))) = some h1 ∧ ch (fun a k => a = m ∧ (k = 17 ∨ k = 18)) h h1 ∧ MXa h1 m n B (ft cd (tB B n (zi σ)) σ) := by
  have ms := x.1.1
  have hn := x.1.2.2.1
  obtain ⟨b1, b2⟩ := tB_le (B := B) hi
  unfold X8_later
  rw [if_pos (ms_c ms), ms_I ms, x.2.2.1, Option.bind_some]
  unfold ft
  by_cases e : zf σ = 0
  · rw [if_pos e, if_pos e, ms_p ms, Option.bind_some]
    have c1 : ch (fun a k => a = m ∧ (k = 17 ∨ k = 18)) h (si h m 17 cd) := ch_si ⟨rfl, Or.inl rfl⟩
    have c2 := c1.tr (ch_si (h := si h m 17 cd) (v := nI (tB B n (zi σ))) (show (fun a k => a = m ∧ (k = 17 ∨ k = 18)) m 18 from ⟨rfl, Or.inr rfl⟩))
    rw [ms_p (c1.ms ms)]
    refine ⟨_, rfl, c2, ?_⟩
    obtain ⟨x1, ⟨t1, t2, t3, t4, t5⟩, x3, x4⟩ := x
    refine ⟨MT0_ch x1 c2 (by omega) (fun k => by omega), ⟨by rw [c2.gi (by omega)]; exact t1, by rw [c2.gi (by omega)]; exact t2, by rw [c2.gi (by omega)]; exact t3, fun z => by rw [c2.gi (by omega)]; exact t4 z, fun z => by rw [c2.gj (by omega)]; exact t5 z⟩, ?_, fun _ => ?_⟩
    · rw [gi_si, if_neg (by omega), gi_si, if_pos ⟨rfl, rfl⟩]; rfl
    · rw [gi_si, if_pos ⟨rfl, rfl⟩]; rfl
  · obtain ⟨q, q1, q2⟩ := hq e
    have hx := x.2.2.2 e
    rw [if_neg e, if_neg e, ms_I ms, hx, q1, Option.bind_some, if_neg (nlt_lit (by omega) (by omega)), Option.bind_some, if_neg (fun z => by have := nI_inj (by omega) (by omega) z; omega)]
    exact ⟨h, rfl, ch_rf _ _, x⟩
theorem mK_3 : ∀ k, k < 6 → (mK k = 3 ↔ k = 2) ∧ mK k < 6 ∧ (mK k = 2 ↔ k = 1) ∧ (mK k = 0 ↔ k = 0) ∧ (mK k = 4 ↔ k = 4) ∧ (mK k = 5 ↔ k = 3) := by decide +kernel
theorem tK_6 (B : Nat → Nat) (n i : Nat) : tK B n i < 6 := by
  unfold tK; repeat' split
  all_goals omega
theorem stops_n {h : HA} {m : Nat} (ms : MS h m) : X8_stops h m = some (0, si h m 16 (gi h m 12)) := by
  unfold X8_stops
  rw [if_pos (ms_c ms), ms_I ms, Option.bind_some, ms_p ms, Option.bind_some]
theorem token_x {h : HA} {m n : Nat} {B : Nat → Nat} {σ : ZS} (x : MXa h m n B σ) (hi : zi σ ≤ n) : ∃ h1, X8_token h m = some h1 ∧ ch (Wtk m) h h1 ∧ MXa h1 m n B (nt B n σ) := by
  obtain ⟨l1, l2, _⟩ := tR_le (B := B) hi
  obtain ⟨h1, e1, c1, t1⟩ := token_n x.1 l2 x.2.1.1
  exact ⟨h1, e1, c1, MT0_tk x.1 c1, t1, by rw [c1.gi (by unfold Wtk; omega)]; exact x.2.2.1, fun z => by rw [c1.gi (by unfold Wtk; omega)]; exact x.2.2.2 z⟩
theorem take_n {h : HA} {m n f k j : Nat} {B : Nat → Nat} {σ : ZS} {lo hi : Int32} (x : MXa h m n B σ) (hP : PJ B n (fsr f) σ) (hj : j < 5) (h3 : fsr f ≠ 2 ∨ tK B n (zi σ) ≠ 3) (hin : ∀ v, v < 100 → X8_in (nI v) lo hi = some (bI (!bad f k v))) :
    match slot B n f k σ with
    | .inl q => ∃ h1, X8_take h m (nI j) lo hi = some (0, h1) ∧ ch (Wtx m) h h1 ∧ gi h1 m 16 = nI q
    | .inr z => ∃ h1, X8_take h m (nI j) lo hi = some (1, h1) ∧ ch (Wtx m) h h1 ∧ MXa h1 m n B z.1 ∧ gi h1 (m + 11) j = z.2 ∧ (∀ i, i ≠ j → gi h1 (m + 11) i = gi h (m + 11) i) ∧ ∃ v, v < 100 ∧ z.2 = nI v := by
  have ms := x.1.1
  have hn := x.1.2.2.1
  have hi' := hP.1
  have k6 := tK_6 B n (zi σ)
  obtain ⟨m1, m2, _⟩ := mK_3 _ k6
  unfold slot X8_take
  rw [if_neg (show ¬ (tK B n (zi σ) = 3 ∧ fsr f = 2) by omega), if_pos (ms_c ms), ms_I ms, x.2.1.2.1, Option.bind_some]
  by_cases h2 : tK B n (zi σ) = 2
  · obtain ⟨v1, v2⟩ := x.2.1.2.2.2.1 h2
    obtain ⟨v, hv⟩ : ∃ v, v = tV B n (zi σ) := ⟨_, rfl⟩
    rw [← hv] at v1 v2 ⊢
    have c1 : ch (Wtx m) h (si h (m + 11) j (nI v)) := ch_si (Or.inr rfl)
    have x1 := MXa_ch (h1 := si h (m + 11) j (nI v)) (W := fun a _ => a = m + 11) x (ch_si rfl) (fun k _ => by omega) (fun k => by omega)
    have ms1 := x1.1.1
    have g14 : gi (si h (m + 11) j (nI v)) m 14 = nI v := by rw [gi_si, if_neg (by omega)]; exact v1
    rw [if_pos h2, if_pos (show nI (mK (tK B n (zi σ))) = 3 by rw [m1.mpr h2]; rfl), ms_r20 ms, Option.bind_some, ms_I ms, v1, Option.bind_some, asI_n (ms_k20 ms) hj (by omega), Option.bind_some, ms_I ms1, g14, Option.bind_some, hin v v2, Option.bind_some]
    -- the fault noted
    have nte : ∃ h2, (show Option HA from if bI (!bad f k v) = 0 then (gI (si h (m + 11) j (nI v)) m 9 12).bind fun x11 => (X8_later (si h (m + 11) j (nI v)) m 2 x11).bind fun h13 => some h13 else some (si h (m + 11) j (nI v))) = some h2 ∧ ch (fun a k => a = m ∧ (k = 17 ∨ k = 18)) (si h (m + 11) j (nI v)) h2 ∧ MXa h2 m n B (if bad f k v = true then ft 2 (tB B n (zi σ)) σ else σ) := by
      show ∃ h2, (if bI (!bad f k v) = 0 then (gI (si h (m + 11) j (nI v)) m 9 12).bind fun x11 => (X8_later (si h (m + 11) j (nI v)) m 2 x11).bind fun h13 => some h13 else some (si h (m + 11) j (nI v))) = some h2 ∧ _
      cases hb : bad f k v with
      | true =>
        obtain ⟨h2, e2, c2, x2⟩ := later_n (cd := 2) x1 hi' hP.2.1
        rw [if_pos (by decide), ms_I ms1, x1.2.1.2.2.1, Option.bind_some, e2, Option.bind_some, if_pos rfl]
        exact ⟨h2, rfl, c2, x2⟩
      | false =>
        rw [if_neg (by decide), if_neg (by decide)]
        exact ⟨_, rfl, ch_rf _ _, x1⟩
    obtain ⟨h2', e2, c2, x2⟩ := nte
    dsimp only at e2 ⊢
    rw [e2, Option.bind_some]
    have zib : zi (if bad f k v = true then ft 2 (tB B n (zi σ)) σ else σ) = zi σ := by split; exact zi_ft _ _ _; rfl
    obtain ⟨h4, e4, c4, x4⟩ := token_x x2 (by rw [zib]; exact hi')
    rw [e4, Option.bind_some]
    refine ⟨h4, rfl, (c1.tr (c2.mo fun a k w => Or.inl ⟨w.1, by omega, by omega⟩)).tr (c4.mo fun a k w => Or.inl ⟨w.1, by unfold Wtk at w; omega, by unfold Wtk at w; omega⟩), ?_, ?_, fun i hij => ?_, v, v2, rfl⟩
    · obtain ⟨a1, a2, a3, _⟩ := zi_tkn f k v (if bad f k v = true then ft 2 (tB B n (zi σ)) σ else σ)
      refine MXa_eq x4 ?_ a2 a3
      show tR B n (zi (tkn f k v _)) = tR B n (zi _)
      rw [a1]
    · rw [c4.gi (by unfold Wtk; omega), c2.gi (by omega), gi_si, if_pos ⟨rfl, rfl⟩]
    · rw [c4.gi (by unfold Wtk; omega), c2.gi (by omega), gi_si, if_neg (fun z => hij z.2)]
  · rw [if_neg h2, if_neg (show ¬ nI (mK (tK B n (zi σ))) = 3 from fun z => h2 (m1.mp (nI_inj (b := 3) (by omega) (by omega) z))), stops_n ms, Option.bind_some]
    refine ⟨si h m 16 (gi h m 12), rfl, ch_si (Or.inl ⟨rfl, by omega, by omega⟩), ?_⟩
    rw [gi_si, if_pos ⟨rfl, rfl⟩]; exact x.2.1.2.2.1
/-- the greatest that was told -/
def FMx (x : Int32) (F : Nat → Bool) : Prop := (x = -1 ∧ ∀ q, F q = false) ∨ ∃ q, q < 64 ∧ x = nI q ∧ F q = true ∧ ∀ i, F i = true → i ≤ q
theorem FMx_g {x : Int32} {F : Nat → Bool} {v : Nat} (hf : FMx x F) (hv : v < 64) : ∃ y, X8_greater x (nI v) = some y ∧ FMx y (badd F v) := by
  have bt : ∀ i, badd F v i = true ↔ i = v ∨ F i = true := fun i => by unfold badd; simp
  unfold X8_greater
  rcases hf with ⟨rfl, h2⟩ | ⟨q, q1, rfl, q3, q4⟩
  · rw [if_neg (fun z => by have := m1_lt (n := v) (by omega); exact absurd z (Int32.lt_asymm this))]
    refine ⟨_, rfl, Or.inr ⟨v, hv, rfl, (bt v).mpr (Or.inl rfl), fun i hi => ?_⟩⟩
    rcases (bt i).mp hi with e | e
    · omega
    · rw [h2 i] at e; exact absurd e (by decide)
  · by_cases e : v < q
    · rw [if_pos (lt_lit e (by omega))]
      refine ⟨_, rfl, Or.inr ⟨q, q1, rfl, (bt q).mpr (Or.inr q3), fun i hi => ?_⟩⟩
      rcases (bt i).mp hi with z | z
      · omega
      · exact q4 i z
    · rw [if_neg (nlt_lit (by omega) (by omega))]
      refine ⟨_, rfl, Or.inr ⟨v, hv, rfl, (bt v).mpr (Or.inl rfl), fun i hi => ?_⟩⟩
      rcases (bt i).mp hi with z | z
      · omega
      · have := q4 i z; omega
theorem FMx_lt {x : Int32} {F : Nat → Bool} {N : Nat} (hf : FMx x F) (hN : N < 2 ^ 31) : x < nI N ↔ ∀ q, q < 64 → F q = true → q < N := by
  rcases hf with ⟨rfl, h2⟩ | ⟨q, q1, rfl, q3, q4⟩
  · exact ⟨fun _ q _ h => by rw [h2 q] at h; exact absurd h (by decide), fun _ => m1_lt hN⟩
  · rw [lt_n (by omega) hN]
    exact ⟨fun h i _ hi => by have := q4 i hi; omega, fun h => h q q1 q3⟩
theorem greater_s (x y : Int32) : ∃ z, X8_greater x y = some z := by
  unfold X8_greater; split <;> exact ⟨_, rfl⟩
/-- the model in the middle of a line: told C, PLEADERS told of G, TWINS T -/
def MY (h : HA) (m n : Nat) (B : Nat → Nat) (C : CR) (G : Nat → Bool) (T : Nat → Int32) (σ : ZS) : Prop := MXa h m n B σ ∧ (zf σ = 0 → FMx (gi h m 21) (zF σ) ∧ FMx (gi h m 22) G) ∧ (∀ i, i < 121 → gi h (m + 10) i = C i) ∧ ∀ p, p < 4 → gi h (m + 12) p = T p
theorem slot_f0 {B : Nat → Nat} {n f k : Nat} {σ : ZS} {z : ZS × Int32} (e : slot B n f k σ = .inr z) (h63 : fgr f k ≠ 63) : zF z.1 = zF σ := by
  unfold slot at e
  by_cases h1 : tK B n (zi σ) = 3 ∧ fsr f = 2
  · rw [if_pos h1] at e
    have := Sum.inr.inj e
    subst this; rfl
  · rw [if_neg h1] at e
    by_cases h2 : tK B n (zi σ) = 2
    · rw [if_pos h2] at e
      have := Sum.inr.inj e
      subst this
      show zF (tkn f k _ _) = _
      unfold tkn
      rw [if_neg (fun z => h63 z.2)]
      split
      · exact zF_ft _ _ _
      · rfl
    · rw [if_neg h2] at e; exact absurd e (by simp)
/-- row of what was read -/
def RDm (h h1 : HA) (m j : Nat) (x : Int32) : Prop := gi h1 (m + 11) j = x ∧ ∀ i, i ≠ j → gi h1 (m + 11) i = gi h (m + 11) i
def Wty (m : Nat) : Nat → Nat → Prop := fun a k => (a = m ∧ k ≠ 11 ∧ k < 23) ∨ a = m + 10 ∨ a = m + 11 ∨ a = m + 12
theorem Wtx_y {m a k : Nat} (w : Wtx m a k) : Wty m a k := by
  unfold Wtx at w; unfold Wty; omega
theorem Wtk_y {m a k : Nat} (w : Wtk m a k) : Wty m a k := by
  unfold Wtk at w; unfold Wty; omega
theorem takeN {h : HA} {m n f k j : Nat} {B : Nat → Nat} {C : CR} {G : Nat → Bool} {T : Nat → Int32} {σ : ZS} {lo hi : Int32} (y : MY h m n B C G T σ) (hP : PJ B n (fsr f) σ) (hj : j < 5) (h3 : fsr f ≠ 2 ∨ tK B n (zi σ) ≠ 3) (hin : ∀ v, v < 100 → X8_in (nI v) lo hi = some (bI (!bad f k v))) (h63 : fgr f k ≠ 63) :
    match slot B n f k σ with
    | .inl q => ∃ h1, X8_take h m (nI j) lo hi = some (0, h1) ∧ ch (Wty m) h h1 ∧ gi h1 m 16 = nI q
    | .inr z => ∃ h1, X8_take h m (nI j) lo hi = some (1, h1) ∧ ch (Wty m) h h1 ∧ MY h1 m n B C G T z.1 ∧ RDm h h1 m j z.2 ∧ (∃ v, v < 100 ∧ z.2 = nI v) ∧ PJ B n (fsr f) z.1 := by
  have ht := take_n (j := j) (lo := lo) (hi := hi) y.1 hP hj h3 hin
  cases e : slot B n f k σ with
  | inl q =>
    rw [e] at ht
    obtain ⟨h1, e1, c1, g1⟩ := ht
    exact ⟨h1, e1, c1.mo fun a k w => Wtx_y w, g1⟩
  | inr z =>
    rw [e] at ht
    obtain ⟨h1, e1, c1, x1, r1, r2, r3⟩ := ht
    refine ⟨h1, e1, c1.mo fun a k w => Wtx_y w, ⟨x1, fun z0 => ?_, fun i hi => ?_, fun p hp => ?_⟩, ⟨r1, r2⟩, r3, (slot_ok hP e).1⟩
    · rw [c1.gi (by unfold Wtx; omega), c1.gi (by unfold Wtx; omega), slot_f0 e h63]
      exact y.2.1 (slot_g e z0).1
    · rw [c1.gi (by unfold Wtx; omega)]; exact y.2.2.1 i hi
    · rw [c1.gi (by unfold Wtx; omega)]; exact y.2.2.2 p hp
theorem takeF {h : HA} {m n f k j : Nat} {B : Nat → Nat} {C : CR} {G : Nat → Bool} {T : Nat → Int32} {σ : ZS} (y : MY h m n B C G T σ) (hP : PJ B n (fsr f) σ) (hf : f < 12) (hk : k < 4) (hj : j < 5) (h63 : fgr f k = 63) :
    match slot B n f k σ with
    | .inl q => ∃ h1, X8_takeField h m (nI j) = some (0, h1) ∧ ch (Wty m) h h1 ∧ gi h1 m 16 = nI q
    | .inr z => ∃ h1, X8_takeField h m (nI j) = some (1, h1) ∧ ch (Wty m) h h1 ∧ MY h1 m n B C G T z.1 ∧ RDm h h1 m j z.2 ∧ (∃ v, v < 100 ∧ z.2 = nI v) ∧ PJ B n (fsr f) z.1 := by
  obtain ⟨s0, f0⟩ := fg63 f hf k hk h63
  have hin : ∀ v, v < 100 → X8_in (nI v) 0 63 = some (bI (!bad f k v)) := by
    intro v hv
    rw [show X8_in (nI v) 0 63 = X8_in (nI v) 0 (nI 63) from rfl, in_rn (nI v) (n := 63) (by omega), rg_n (by omega)]
    congr 2
    unfold bad
    rw [h63]
    by_cases e : v < 64
    · simp [e, f0]; omega
    · simp [e]; omega
  have ht := take_n (j := j) (lo := 0) (hi := 63) y.1 hP hj (Or.inl (by omega)) hin
  unfold X8_takeField
  rw [if_pos (ms_c y.1.1.1)]
  cases e : slot B n f k σ with
  | inl q =>
    rw [e] at ht
    obtain ⟨h1, e1, c1, g1⟩ := ht
    have ms1 := c1.ms y.1.1.1
    dsimp only
    rw [e1, Option.bind_some]
    dsimp only
    rw [if_pos rfl, ms_I ms1, Option.bind_some, ms_p ms1, Option.bind_some]
    refine ⟨_, rfl, (c1.mo fun a k w => Wtx_y w).tr (ch_si (Or.inl ⟨rfl, by omega, by omega⟩)), ?_⟩
    rw [gi_si, if_neg (by omega)]; exact g1
  | inr z =>
    rw [e] at ht
    obtain ⟨h1, e1, c1, x1, r1, r2, r3⟩ := ht
    have ms1 := c1.ms y.1.1.1
    obtain ⟨v, v1, v2⟩ := r3
    dsimp only
    rw [e1, Option.bind_some]
    dsimp only
    obtain ⟨w, ew⟩ := greater_s (gi h1 m 21) (nI v)
    rw [if_neg (by decide), ms_I ms1, Option.bind_some, ms_r20 ms1, Option.bind_some, ldI_n (ms_k20 ms1) hj (by omega), r1, v2, Option.bind_some, ew, Option.bind_some, ms_p ms1, Option.bind_some]
    have c2 : ch (Wty m) h (si h1 m 21 w) := (c1.mo fun a k w => Wtx_y w).tr (ch_si (Or.inl ⟨rfl, by omega, by omega⟩))
    refine ⟨_, rfl, c2, ⟨MXa_ch x1 (ch_si (W := fun a k => a = m ∧ k = 21) ⟨rfl, rfl⟩) (fun k hk => by omega) (fun k => by omega), fun z0 => ?_, fun i hi => ?_, fun p hp => ?_⟩, ⟨by rw [gi_si, if_neg (by omega), r1, v2], fun i hij => by rw [gi_si, if_neg (by omega)]; exact r2 i hij⟩, ⟨v, v1, rfl⟩, (slot_ok hP e).1⟩
    · obtain ⟨q1, q2⟩ := slot_g e z0
      obtain ⟨m1, m2⟩ := y.2.1 q1
      rw [gi_si, if_pos ⟨rfl, rfl⟩, gi_si, if_neg (by omega), c1.gi (by unfold Wtx; omega)]
      refine ⟨?_, m2⟩
      rw [c1.gi (by unfold Wtx; omega)] at ew
      rcases q2 with ⟨a1, _⟩ | ⟨v', b1, b2, b3⟩
      · omega
      · have hv' : v' ≤ 63 := by have := (bad_iff.mp b1).1; omega
        have : v' = v := nI_inj (by omega) (by omega) (b2.symm.trans v2)
        subst this
        obtain ⟨w', e1', e2'⟩ := FMx_g (v := v') m1 (by omega)
        rw [ew] at e1'
        have := Option.some.inj e1'
        rw [this, b3]
        show FMx w' (zF (tkn f k v' σ))
        unfold tkn
        rw [if_pos ⟨b1, h63⟩]
        exact e2'
    · rw [gi_si, if_neg (by omega), c1.gi (by unfold Wtx; omega)]; exact y.2.2.1 i hi
    · rw [gi_si, if_neg (by omega), c1.gi (by unfold Wtx; omega)]; exact y.2.2.2 p hp
