/-! AREAS -/
theorem bl_trans {C : CR} {a b c e d : Nat} (h1 : bl C a e b = true) (h2 : bl C b d c = true) : bl C a (e + d) c = true := by
  induction d generalizing c with
  | zero => simp [bl] at h2; rw [h2]; exact h1
  | succ d ih =>
    rcases bl_succ.mp h2 with h3 | ⟨h0, s, g, hs, h4, h5⟩
    · exact bl_mono1 (ih h3)
    · exact bl_succ.mpr (Or.inr ⟨h0, s, g, hs, h4, ih h5⟩)
def cnn (C : CR) (g f : Nat) : Bool := op C g && bl C g 63 f
theorem cnn_op {C : CR} {g f : Nat} (h : cnn C g f = true) : op C g = true ∧ op C f = true := by
  unfold cnn at h; rw [Bool.and_eq_true] at h; exact ⟨h.1, bl_op h.1 h.2⟩
theorem cnn_rf {C : CR} {f : Nat} (h : op C f = true) : cnn C f f = true := by unfold cnn; rw [h, bl_self]; rfl
theorem cnn_sy {C : CR} (hw : WFs C) {g f : Nat} (h : cnn C g f = true) : cnn C f g = true := by
  have h1 := cnn_op h
  unfold cnn at *
  rw [Bool.and_eq_true] at *
  exact ⟨h1.2, bl_sym hw h1.1 h.2⟩
theorem cnn_tr {C : CR} (hw : WFs C) {e g f : Nat} (h : cnn C e g = true) (h2 : cnn C g f = true) : cnn C e f = true := by
  unfold cnn at *
  rw [Bool.and_eq_true] at *
  exact ⟨h.1, bl_63 hw h.1 (bl_trans h.2 h2.2)⟩
/-- no less FIELD is in its part -/
def nol (C : CR) (m f : Nat) : Bool := decide (cnt (fun g => cnn C g f) m = 0)
theorem cnt_0 {p : Nat → Bool} {n : Nat} : cnt p n = 0 ↔ ∀ i, i < n → p i = false := by
  constructor
  · intro h i hi
    cases e : p i
    · rfl
    · have := cnt_pos hi e; omega
  · intro h
    have : cnt p n = cnt (fun _ => false) n := cnt_cong h
    rw [this]
    induction n with
    | zero => rfl
    | succ n ih => show cnt _ n + _ = 0; rw [ih (fun i hi => h i (by omega)) (cnt_cong (fun i hi => h i (by omega)))]; rfl
theorem nol_iff {C : CR} {m f : Nat} : nol C m f = true ↔ ∀ g, g < m → cnn C g f = false := by unfold nol; rw [decide_eq_true_iff, cnt_0]
def rp (C : CR) (f : Nat) : Bool := op C f && nol C f f
def prt (C : CR) : Nat := cnt (rp C) 64
theorem conn_c {h : HA} {c a : Nat} {C : CR} (hs : CC h c C) (ha : op C a = true) (S : Int64) (hS : ∀ f, f < 64 → tb S f = bl C a 0 f) : ∃ X, X0_connected h c S = some X ∧ ∀ f, f < 64 → tb X f = bl C a 63 f := by
  have hw := hs.2.1.1
  have hF := cF_le hw
  have key : ∀ n k fu S, k + n = 64 → n < fu → (∀ f, f < 64 → tb S f = bl C a k f) → ∃ X, X0_connected_L2 h c fu S (nI k) = some X ∧ ∀ f, f < 64 → tb X f = bl C a 63 f := by
    intro n
    induction n with
    | zero =>
      intro k fu S hk hf hS
      obtain ⟨fu, rfl⟩ : ∃ q, fu = q + 1 := ⟨fu - 1, by omega⟩
      have : k = 64 := by omega
      subst this
      refine ⟨S, by rw [X0_connected_L2, if_neg (by decide)], fun f hf => ?_⟩
      rw [hS f hf, Bool.eq_iff_iff]
      exact ⟨fun z => bl_63 hw ha z, fun z => bl_mono1 z⟩
    | succ n ih =>
      intro k fu S hk hf hS
      obtain ⟨fu, rfl⟩ : ∃ q, fu = q + 1 := ⟨fu - 1, by omega⟩
      obtain ⟨X, hX, hXb⟩ := grow_c hs S (tb_op ha hS)
      have hg := bl_grow ha S X hS hXb hF
      rw [X0_connected_L2, if_pos (show nI k < 64 from lt_lit (n := 64) (by omega) (by omega)), hX, Option.bind_some]
      by_cases e : (S ||| X) = S
      · rw [if_pos e]
        refine ⟨S, rfl, fun f hf => ?_⟩
        have hst := bl_stab hw ha (d := k) (fun f hf => by rw [← hg f hf, e, hS f hf]) (63 - k) f hf
        rw [hS f hf, ← hst, show k + (63 - k) = 63 by omega]
      · rw [if_neg e, nI_p1]
        exact ih (k + 1) fu (S ||| X) (by omega) (by omega) hg
  unfold X0_connected
  obtain ⟨X, h1, h2⟩ := key 64 0 FU S rfl (FU_gt (by omega)) hS
  refine ⟨X, ?_, h2⟩
  rw [if_pos (cs_c hs.1), show X0_connected_L2 h c FU S 0 = _ from h1]; rfl
theorem parts_c {h : HA} {c : Nat} {C : CR} (hs : CC h c C) : X0_parts h c = some (nI (prt C)) := by
  have hw := hs.2.1.1
  have hF := cF_le hw
  have hop := hs.2.2.2.2.2.1
  -- what is left: parts whose least FIELD is not below m
  have key : ∀ n m fu S, cnt (rp C) m + n = 64 → m ≤ 64 → n < fu → (∀ f, f < 64 → tb S f = (op C f && nol C m f)) → X0_parts_L10 h c fu S (nI (cnt (rp C) m)) (nI (cnt (rp C) m)) = some (nI (prt C)) := by
    intro n
    induction n with
    | zero =>
      intro m fu S hm hm64 hf hS
      obtain ⟨fu, rfl⟩ : ∃ q, fu = q + 1 := ⟨fu - 1, by omega⟩
      have h1 := cnt_le (rp C) m
      have : m = 64 := by omega
      subst this
      rw [X0_parts_L10, if_neg (show ¬ nI (cnt (rp C) 64) < 64 from nlt_lit (n := 64) (by omega) (by omega))]; rfl
    | succ n ih =>
      intro m fu S hm hm64 hf hS
      obtain ⟨fu, rfl⟩ : ∃ q, fu = q + 1 := ⟨fu - 1, by omega⟩
      have h1 := cnt_le (rp C) m
      rw [X0_parts_L10, if_pos (show nI (cnt (rp C) m) < 64 from lt_lit (n := 64) (by omega) (by omega))]
      have hrin : ∀ f, m ≤ f → f < 64 → rp C f = true → tb S f = true := by
        intro f h2 h3 h4
        unfold rp at h4
        rw [Bool.and_eq_true, nol_iff] at h4
        rw [hS f h3, Bool.and_eq_true, nol_iff]
        exact ⟨h4.1, fun g hg => h4.2 g (by omega)⟩
      by_cases e : S = 0
      · rw [if_pos e]
        congr 2
        unfold prt
        rw [cnt_ext hm64 (fun f h2 h3 => by
          cases h4 : rp C f
          · rfl
          · have := hrin f h2 h3 h4; rw [e, tb_0] at this; simp at this)]
      · rw [if_neg e]
        -- the least that is left
        have hex : ∃ f, f < 64 ∧ tb S f = true ∧ ∀ j, j < f → tb S j = false := by
          rcases fst1_spec (tb S) 64 0 with ⟨i, _, h2, h3, h4, _⟩ | ⟨h2, _⟩
          · exact ⟨i, by omega, h3, fun j hj => h4 j (by omega) hj⟩
          · exact absurd (tb_eq0.mpr (fun f hf => h2 f (by omega) (by omega))) e
        obtain ⟨f0, f1, f2, f3⟩ := hex
        have f4 := f2
        rw [hS f0 f1, Bool.and_eq_true, nol_iff] at f4
        have hm0 : m ≤ f0 := by
          rcases Nat.lt_or_ge f0 m with h2 | h2
          · have := f4.2 f0 h2; rw [cnn_rf f4.1] at this; simp at this
          · exact h2
        -- what is less and in a part of what is left is left too
        have hleft : ∀ g f, g < f0 → op C g = true → cnn C g f = true → ∃ g1, g1 < m ∧ cnn C g1 g = true := by
          intro g f hg hgo hgf
          have h2 := f3 g hg
          rw [hS g (by omega), hgo, Bool.true_and] at h2
          have h3 : ¬ ∀ g1, g1 < m → cnn C g1 g = false := fun z => by rw [nol_iff.mpr z] at h2; simp at h2
          have h4 : ¬ cnt (fun g1 => cnn C g1 g) m = 0 := fun z => h3 (cnt_0.mp z)
          rcases fst1_spec (fun g1 => cnn C g1 g) m 0 with ⟨i, _, h6, h7, _, _⟩ | ⟨h6, _⟩
          · exact ⟨i, by omega, h7⟩
          · exact absurd (fun g1 hg1 => h6 g1 (by omega) (by omega)) h3
        have hlow : ∀ f, f < 64 → tb (S &&& -S) f = bl C f0 0 f := by
          intro f hf
          rw [low_tb]
          show _ = decide (f = f0)
          by_cases e2 : f = f0
          · subst e2
            have : ¬ ∃ j, j < f ∧ tb S j = true := fun ⟨j, j1, j2⟩ => by rw [f3 j j1] at j2; simp at j2
            simp [f2, this]
          · cases h2 : tb S f
            · simp [e2]
            · have h3 : f0 < f := by
                rcases Nat.lt_or_ge f f0 with h4 | h4
                · rw [f3 f h4] at h2; simp at h2
                · omega
              have : ∃ j, j < f ∧ tb S j = true := ⟨f0, h3, f2⟩
              simp [e2, this]
        obtain ⟨X, hX, hXb⟩ := conn_c hs f4.1 (S &&& -S) hlow
        have hrp : rp C f0 = true := by
          unfold rp
          rw [Bool.and_eq_true, nol_iff]
          refine ⟨f4.1, fun g hg => ?_⟩
          cases h2 : cnn C g f0
          · rfl
          · obtain ⟨g1, g2, g3⟩ := hleft g f0 hg (cnn_op h2).1 h2
            have := f4.2 g1 g2
            rw [cnn_tr hw g3 h2] at this; simp at this
        have hc1 : cnt (rp C) (f0 + 1) = cnt (rp C) m + 1 := by
          show cnt (rp C) f0 + (if rp C f0 = true then 1 else 0) = _
          rw [if_pos hrp, cnt_ext hm0 (fun f h2 h3 => by
            cases h4 : rp C f
            · rfl
            · have := hrin f h2 (by omega) h4; rw [f3 f h3] at this; simp at this)]
        show ((X0_connected h c (S &&& -S)).bind _) = _
        rw [hX, Option.bind_some, nI_p1, ← hc1]
        refine ih (f0 + 1) fu _ (by omega) (by omega) (by omega) (fun f hf => ?_)
        rw [tb_and, tb_xor, tb_m1, hS f hf, hXb f hf, decide_eq_true hf, Bool.xor_true]
        cases ho : op C f with
        | false => rfl
        | true =>
          rw [Bool.true_and, Bool.true_and, Bool.eq_iff_iff, Bool.and_eq_true, nol_iff, nol_iff]
          have ecn : bl C f0 63 f = cnn C f0 f := by unfold cnn; rw [f4.1, Bool.true_and]
          rw [ecn]
          constructor
          · rintro ⟨h2, h3⟩ g hg
            by_cases e3 : g = f0
            · subst e3; simpa using h3
            · cases h4 : cnn C g f
              · rfl
              · obtain ⟨g1, g2, g3⟩ := hleft g f (by omega) (cnn_op h4).1 h4
                have := h2 g1 g2
                rw [cnn_tr hw g3 h4] at this; simp at this
          · intro h2
            exact ⟨fun g hg => h2 g (by omega), by rw [h2 f0 (by omega)]; rfl⟩
  unfold X0_parts
  have h0 := key 64 0 FU (gj h c 3) rfl (by omega) (FU_gt (by omega)) (fun f hf => by
    rw [hop f hf]
    have : nol C 0 f = true := nol_iff.mpr (fun g hg => by omega)
    rw [this, Bool.and_true])
  rw [if_pos (cs_c hs.1), cs_J hs.1, Option.bind_some, show X0_parts_L10 h c FU (gj h c 3) 0 0 = _ from h0, Option.bind_some]
theorem md_far {C : CR} {g f : Nat} : md C g f = 1000 ↔ cnn C g f = false := by
  unfold md cnn
  cases ho : op C g with
  | false => rw [if_neg (by simp)]; simp
  | true =>
    rw [if_pos rfl, Bool.true_and]
    constructor
    · intro h
      cases e : bl C g 63 f
      · rfl
      · have := (ds_le (by omega)).mpr e; omega
    · intro h
      rcases ds_cases C g f with ⟨h1, h2, _⟩ | ⟨h1, _⟩
      · have := bl_mono (show ds C g f ≤ 63 by omega) h2
        rw [h] at this; simp at this
      · exact h1
theorem parts29 {h : HA} {m c f : Nat} {C : CR} (ht : HT h m c C) (hf : f < cF C) : ∀ (d k fu : Nat) (b : Bool), k + d = f → d < fu → X8_parts_L29 h m (nI f) fu (bI (b && nol C k f)) (nI k) = some (bI (b && nol C f f)) := by
  have hF := cF_le ht.1.2.1
  intro d
  induction d with
  | zero =>
    intro k fu b hk hfu
    obtain ⟨fu, rfl⟩ : ∃ q, fu = q + 1 := ⟨fu - 1, by omega⟩
    have : k = f := by omega
    subst this
    rw [X8_parts_L29, if_neg (nlt_lit (Nat.le_refl _) (by omega))]
  | succ d ih =>
    intro k fu b hk hfu
    obtain ⟨fu, rfl⟩ : ∃ q, fu = q + 1 := ⟨fu - 1, by omega⟩
    rw [X8_parts_L29, if_pos (lt_lit (by omega) (by omega))]
    cases hb : (b && nol C k f) with
    | false =>
      rw [if_pos (by decide)]
      have : (b && nol C f f) = false := by
        cases b with
        | false => rfl
        | true =>
          rw [Bool.true_and] at hb ⊢
          cases e : nol C f f
          · rfl
          · have : nol C k f = true := nol_iff.mpr (fun g hg => nol_iff.mp e g (by omega))
            rw [hb] at this; simp at this
      rw [this]
    | true =>
      rw [if_neg (by decide), farOf_n ht (by omega) hf, Option.bind_some, nI_p1]
      rw [Bool.and_eq_true] at hb
      have hml := md_le C k f
      have hstep : nol C (k + 1) f = (nol C k f && !cnn C k f) := by
        rw [Bool.eq_iff_iff, Bool.and_eq_true, nol_iff, nol_iff]
        constructor
        · intro h1; exact ⟨fun g hg => h1 g (by omega), by rw [h1 k (by omega)]; rfl⟩
        · rintro ⟨h1, h2⟩ g hg
          by_cases e : g = k
          · subst e; simpa using h2
          · exact h1 g (by omega)
      have h3 := ih (k + 1) fu b (by omega) (by omega)
      rw [hstep, hb.1, hb.2] at h3
      rw [hb.1]
      by_cases e : md C k f = 1000
      · rw [if_pos (by rw [e]; rfl)]
        rw [md_far.mp e] at h3
        exact h3
      · rw [if_neg (show ¬ nI _ = 1000 from fun z => e (nI_inj (b := 1000) (by omega) (by omega) z))]
        have e2 : cnn C k f = true := by
          cases e3 : cnn C k f
          · exact absurd (md_far.mpr e3) e
          · rfl
        rw [e2] at h3
        exact h3
theorem parts_n {h : HA} {m c : Nat} {C : CR} (ht : HT h m c C) : X8_parts h m = some (nI (prt C)) := by
  have hF := cF_le ht.1.2.1
  unfold X8_parts
  have hl2 := loop_st (fun fu f (z : Int32) => X8_parts_L4 h m fu z (nI f)) (fun f => nI (cnt (rp C) f)) (some (nI (prt C))) (cF C) (fun f fu hf => by
    try simp only []
    have h29 := parts29 ht hf f 0 FU (op C f) (by omega) (FU_gt (by omega))
    have e0 : nol C 0 f = true := nol_iff.mpr (fun g hg => by omega)
    rw [e0, Bool.and_true] at h29
    rw [X8_parts_L4, ms_I ht.1.1, ht.1.2.2.2.2.2.2.1, Option.bind_some, if_pos (lt_lit hf (by omega)), isWall_n ht.1 (by omega), Option.bind_some, nI_p1, nI_p1, Int32.add_zero]
    dsimp only [lett]
    have e1 : (if bI (wl C f) = 0 then (1 : Int32) else 0) = bI (op C f) := by rw [op_nw hf]; cases wl C f <;> rfl
    rw [e1, show X8_parts_L29 h m (nI f) FU (bI (op C f)) 0 = _ from h29, Option.bind_some]
    rw [show cnt (rp C) (f + 1) = cnt (rp C) f + (if rp C f = true then 1 else 0) from rfl]
    show (if bI (rp C f) = 0 then _ else _) = _
    cases rp C f
    · rw [if_pos (by decide)]; rfl
    · rw [if_neg (by decide)]; rfl)
    (fun fu => by
      try simp only []
      rw [X8_parts_L4, ms_I ht.1.1, ht.1.2.2.2.2.2.2.1, Option.bind_some, if_neg (nlt_lit (Nat.le_refl _) (by omega))]
      unfold prt
      rw [cnt_ext hF (fun f h1 _ => by unfold rp; rw [op_ge h1]; rfl)]) FU (FU_gt (by omega))
  rw [if_pos (ms_c ht.1.1), show X8_parts_L4 h m FU 0 0 = _ from hl2, Option.bind_some]
/-! CARVE -/
def cut (C : CR) (k : Nat) : CR := fun i => if i = 42 + k then 0 else C i
theorem cut_lo (C : CR) {k i : Nat} (h : i < 42) : cut C k i = C i := by unfold cut; rw [if_neg (by omega)]
theorem cut_d (C : CR) (k : Nat) : cW (cut C k) = cW C ∧ cH (cut C k) = cH C ∧ cJ (cut C k) = cJ C ∧ cP (cut C k) = cP C ∧ cF (cut C k) = cF C := by
  have a : cW (cut C k) = cW C := by unfold cW; rw [cut_lo C (by omega)]
  have b : cH (cut C k) = cH C := by unfold cH; rw [cut_lo C (by omega)]
  exact ⟨a, b, by unfold cJ; rw [cut_lo C (by omega)], by unfold cP; rw [cut_lo C (by omega)], by unfold cF; rw [a, b]⟩
theorem cut_wl (C : CR) (k f : Nat) : wl (cut C k) f = (wl C f && !decide (f = k)) := by
  unfold wl cut
  by_cases e : f = k
  · subst e; rw [if_pos rfl]; simp
  · rw [if_neg (by omega)]; simp [e]
theorem cut_op {C : CR} {k f : Nat} (h : op C f = true) : op (cut C k) f = true := by
  unfold op at *
  rw [(cut_d C k).2.2.2.2, cut_wl]
  rw [Bool.and_eq_true] at *
  refine ⟨h.1, ?_⟩
  have : wl C f = false := by simpa using h.2
  rw [this]; rfl
theorem cut_WF {C : CR} (hw : WF C) (k : Nat) : WF (cut C k) := by
  obtain ⟨⟨w1, w2, w3, w4, w5, w6⟩, wj, wp⟩ := hw
  obtain ⟨d1, d2, d3, d4, d5⟩ := cut_d C k
  refine ⟨⟨?_, ?_, ?_, ?_, fun f hf => ?_, fun f hf hwl => ?_⟩, fun j hj => ?_, fun p hp => ?_⟩
  · rw [d1, cut_lo C (by omega)]; exact w1
  · rw [d2, cut_lo C (by omega)]; exact w2
  · rw [d3, cut_lo C (by omega)]; exact w3
  · rw [d4, cut_lo C (by omega)]; exact w4
  · unfold cut
    split
    · exact Or.inl rfl
    · exact w5 f hf
  · rw [d5]
    rw [cut_wl, Bool.and_eq_true] at hwl
    exact w6 f hf hwl.1
  · rw [d3] at hj
    have h6 := w3.1
    obtain ⟨x1, x2, x3, x4, x5, x6⟩ := wj j hj
    have ej : ∀ w, w < 5 → jg (cut C k) j w = jg C j w := fun w hw => by unfold jg; rw [cut_lo C (by omega)]
    rw [ej 0 (by omega), ej 1 (by omega), ej 2 (by omega), ej 3 (by omega), ej 4 (by omega)]
    exact ⟨fun w hw => by rw [cut_lo C (by omega), ej w hw]; exact x1 w hw, cut_op x2, x3, x4, x5, x6⟩
  · rw [d4] at hp
    have h4 := w4.1
    obtain ⟨x1, x2, x3⟩ := wp p hp
    have e1 : ps (cut C k) p = ps C p := by unfold ps; rw [cut_lo C (by omega)]
    have e2 : tw (cut C k) p = tw C p := by unfold tw; rw [cut_lo C (by omega)]
    rw [e1, e2, cut_lo C (by omega)]
    refine ⟨x1, cut_op x2, ?_⟩
    rcases x3 with h | ⟨t, h1, h2⟩
    · exact Or.inl h
    · exact Or.inr ⟨t, h1, cut_op h2⟩
/-- the first with the least -/
def amn (p : Nat → Bool) (v : Nat → Nat) (m0 : Int32) : Nat → Int32 × Int32
  | 0 => (-1, m0)
  | n + 1 => if (p n && decide (nI (v n) < (amn p v m0 n).2)) = true then (nI n, nI (v n)) else amn p v m0 n
theorem amn_ext {p : Nat → Bool} {v : Nat → Nat} {m0 : Int32} {n m : Nat} (hn : n ≤ m) (h : ∀ i, n ≤ i → i < m → p i = false) : amn p v m0 m = amn p v m0 n := by
  induction m with
  | zero => have : n = 0 := by omega
            subst this; rfl
  | succ m ih =>
    by_cases e : n = m + 1
    · rw [e]
    · rw [amn, h m (by omega) (by omega), ← ih (by omega) (fun i h1 h2 => h i h1 (by omega))]; rfl
theorem amn_2 {p : Nat → Bool} {v : Nat → Nat} (hv : ∀ i, v i < 65) (n : Nat) : (amn p v 65 n = (-1, 65) ∧ amn p v 1000 n = (-1, 1000)) ∨ amn p v 65 n = amn p v 1000 n := by
  induction n with
  | zero => exact Or.inl ⟨rfl, rfl⟩
  | succ n ih =>
    rw [amn, amn]
    cases hp : p n with
    | false => exact ih
    | true =>
      rcases ih with ⟨h1, h2⟩ | h1
      · right
        have := hv n
        rw [h1, h2, if_pos (by simp; exact lt_lit (n := 65) (by omega) (by omega)), if_pos (by simp; exact lt_lit (n := 1000) (by omega) (by omega))]
      · right; rw [h1]
def cvv (C : CR) (l k : Nat) : Nat := bd (cut C k) 0 l
theorem cvv_lt {C : CR} (hw : WF C) (l k : Nat) : cvv C l k < 65 := by have := bd_le (cut_WF hw k).1 0 l; unfold cvv; omega
def crv (C : CR) (l : Nat) : Int32 := (amn (wl C) (cvv C l) 65 64).1
def qareas (D : DT) (x l : Int32) : Int32 := if (rg x (dN D 0) && (decide (l = -1) || rg l 10)) = true then (let C := dC D (tn x); if l = -1 then nI (prt C) else crv C (tn l)) else -1
theorem fx_rdr {h : HA} {b : Nat} (hf : FX h b) : gR h b 8 2 = some (b + 31) := by rw [gR_n (fx_x hf)]; exact hf.2.1 (0, 2, 31) (by decide)
theorem fx_krd {h : HA} {b : Nat} (hf : FX h b) : kd h (b + 31) = (4, 0) := hf.1 (31, (4, 0)) (by decide)
theorem iv_dr {h : HA} {b : Nat} {D : DT} {α : Nat → Nat} {lm : Nat → Nat → Nat} {im : Nat → Option (Nat × DT)} (hi : IV h b D α lm im) : gR h (b + 31) 4 0 = some (α 2) := by rw [gR_n (fx_krd hi.1)]; exact hi.2.2.2.2.2.2.1
theorem ct_disj {h : HA} {b : Nat} {D : DT} {α : Nat → Nat} {lm : Nat → Nat → Nat} {im : Nat → Option (Nat × DT)} (hi : IV h b D α lm im) {i j : Nat} (h1 : i < 3) (h2 : j < 3) (hne : i ≠ j) : ∀ a, α i ≤ a → a ≤ α i + 5 → ¬ (α j ≤ a ∧ a ≤ α j + 5) := by
  intro a h3 h4 ⟨h5, h6⟩
  have ci := (hi.2.1 i h1).1
  have cj := (hi.2.1 j h2).1
  apply hne
  apply hi.2.2.1 i j h1 h2
  refine own cj h5 h6 h3 (by rw [ci.1]; decide) (fun x h7 h8 => ?_)
  rcases cs_kk ci (show α i ≤ x by omega) (by omega) with ⟨z, _⟩ | ⟨_, z | z | z | z⟩
  · omega
  all_goals rw [z]; decide
theorem carve_c {h : HA} {b : Nat} {D : DT} {α : Nat → Nat} {lm : Nat → Nat → Nat} {im : Nat → Option (Nat × DT)} (hi : IV h b D α lm im) {a l : Nat} (ha : a < dN D 0) (hcl : CL h (α a) (dC D a)) (hl10 : l < 10) :
    ∃ h1, X7_carve h b (α a) (nI l) = some (crv (dC D a) l, h1) ∧ IV h1 b D α lm im := by
  have hna := (iv_w hi).2.1 0 (by omega)
  have hwf := hcl.1.2.1
  obtain ⟨C, hC⟩ : ∃ C, C = dC D a := ⟨_, rfl⟩
  rw [← hC] at hcl hwf ⊢
  have hdis := ct_disj hi (i := 2) (j := a) (by omega) (by omega) (by omega)
  have step : ∀ h1 k, IV h1 b D α lm im → CL h1 (α a) C → k < 64 → wl C k = true → ∃ h4 h5 h6 h7 x8, X0_copyFrom h1 (α 2) (α a) = some h4 ∧ gJ h4 (α 2) 1 2 = some x8 ∧ pJ h4 (α 2) 1 2 (x8 &&& (shlJ 1 (nI k) ^^^ -1)) = some h5 ∧ X0_measure h5 (α 2) = some h6 ∧ X0_lay h6 (α 2) = some h7 ∧ X0_blind h7 (α 2) 0 (nI l) = some (nI (cvv C l k)) ∧ IV h7 b D α lm im ∧ CL h7 (α a) C := by
    intro h1 k i1 l1 hk hwk
    obtain ⟨h4, e4, c4, q4⟩ := copy_court (i1.2.1 2 (by omega)).1 l1.1 hdis
    have cc4 := q4.1
    have c5 : ch (Wct (α 2)) h4 (sj h4 (α 2) 2 (gj h4 (α 2) 2 &&& (shlJ 1 (nI k) ^^^ -1))) := ch_sj ⟨by omega, by omega⟩
    obtain ⟨d1, d2, d3, d4, d5⟩ := cut_d C k
    have ct5 : CT (sj h4 (α 2) 2 (gj h4 (α 2) 2 &&& (shlJ 1 (nI k) ^^^ -1))) (α 2) (cut C k) := by
      obtain ⟨b1, b2, b3, b4, b5, b6, b7, b8⟩ := CC_CT cc4
      have j6 := hwf.1.2.2.1.1
      have p4 := hwf.1.2.2.2.1.1
      refine ⟨CS_same b1 (fun _ _ _ => rfl) (fun _ => rfl), by rw [d1]; exact b2, by rw [d2]; exact b3, fun f hf => ?_, by rw [d3]; exact b5, by rw [d4]; exact b6, fun i hi2 => ?_, fun p hp => ?_⟩
      · rw [gj_sj, if_pos ⟨rfl, rfl⟩, tb_and, tb_xor, tb_m1, tb_bit hk, b4 f hf, cut_wl]
        simp [hf]
      · rw [d3] at hi2; rw [cut_lo C (by omega)]; exact b7 i hi2
      · rw [d4] at hp; rw [cut_lo C (by omega), cut_lo C (by omega)]; exact b8 p hp
    obtain ⟨h6, e6, c6, q6⟩ := measured ct5 (cut_WF hwf k)
    obtain ⟨h7, e7, c7, l7, _⟩ := lay_ok q6
    have cA : ch (Wct (α 2)) h1 h7 := ((c4.tr c5).tr (c6.mo (fun a k w => by unfold Wme at w; unfold Wct; omega))).tr (c7.mo (fun a k w => by unfold Wla at w; unfold Wct; omega))
    refine ⟨h4, _, h6, h7, _, e4, by rw [cs_J cc4.1], by rw [cs_pJ cc4.1], e6, e7, ?_, ?_, ?_⟩
    · exact blind_c (hour := 0) l7 hl10
    · exact IV_ch i1 cA (fun x j w => Or.inr (Or.inr (Or.inl ⟨2, by omega, rfl, w.1, w.2⟩)))
    · exact CL_sm l1 (fun x h2 h3 => cA.sm (fun j w => hdis x w.1 w.2 ⟨h2, h3⟩))
  unfold X7_carve
  rw [if_pos (fx_c hi.1)]
  obtain ⟨⟨ro, h3⟩, e3, e4, i3⟩ := loop_inv (fun fu k (z : (Int32 × Int32) × HA) => X7_carve_L9 b (α a) (nI l) fu z.2 z.1.1 z.1.2 (nI k)) (fun k z => z.1 = amn (wl C) (cvv C l) 65 k ∧ IV z.2 b D α lm im ∧ CL z.2 (α a) C)
    (fun z => z.1 = crv C l ∧ IV z.2 b D α lm im) 64 (by
      rintro k ⟨s, h1⟩ fu hk ⟨j0, j1, j2⟩
      simp only at j0 j1 j2
      subst j0
      have cc := j2.1
      simp only
      rw [X7_carve_L9, if_pos (show nI k < 64 from lt_lit (n := 64) hk (by omega)), cs_J cc.1, Option.bind_some, has_n _ hk, Option.bind_some, cc.2.2.2.2.1 k hk, nI_p1]
      have hv := cvv_lt hwf l k
      cases hwk : wl C k with
      | false =>
        refine ⟨(amn (wl C) (cvv C l) 65 (k + 1), h1), ?_, rfl, j1, j2⟩
        rw [if_pos (by decide), amn, hwk]; rfl
      | true =>
        obtain ⟨h4, h5, h6, h7, x8, s1, s2, s3, s4, s5, s6, s7, s8⟩ := step h1 k j1 j2 hk hwk
        refine ⟨(amn (wl C) (cvv C l) 65 (k + 1), h7), ?_, rfl, s7, s8⟩
        rw [if_neg (by decide), fx_rdr j1.1, Option.bind_some, iv_dr j1, Option.bind_some, s1, Option.bind_some, s2, Option.bind_some, s3, Option.bind_some, s4, Option.bind_some, s5, Option.bind_some, s6, Option.bind_some, amn, hwk]
        by_cases e : nI (cvv C l k) < (amn (wl C) (cvv C l) 65 k).2
        · rw [if_pos e, if_pos (by simp [e])]
        · rw [if_neg e, if_neg (by simp [e])]) (by
      rintro ⟨s, h1⟩ fu ⟨j0, j1, j2⟩
      simp only at j0 j1 j2
      refine ⟨(s.1, h1), by simp only; rw [X7_carve_L9, if_neg (by decide)], by simp only; rw [j0]; rfl, j1⟩) ((-1, 65), h) FU ⟨rfl, hi, hcl⟩ (FU_gt (by omega))
  simp only at e3 e4 i3
  rw [show X7_carve_L9 b (α a) (nI l) FU h (-1) 65 0 = _ from e3, Option.bind_some]
  exact ⟨h3, by rw [e4], i3⟩
theorem c_areas {h : HA} {b : Nat} {D : DT} {α : Nat → Nat} {lm : Nat → Nat → Nat} {im : Nat → Option (Nat × DT)} (hi : IV h b D α lm im) (x l : Int32) : AC b D α lm im (X7_areas h b x l) (qareas D x l) := by
  unfold X7_areas qareas
  rw [if_pos (fx_c hi.1)]
  rcases courtAt_ok hi x with ⟨h1, h2⟩ | ⟨a, h1, ha, rfl, hr, e1, i1, l1⟩
  · rw [h2, h1]; exact ⟨h, rfl, hi⟩
  · rw [e1, hr, tnD (iv_w hi) ha, Option.bind_some, Bool.true_and]
    dsimp only
    by_cases hl1 : l = -1
    · refine ⟨h1, ?_, i1⟩
      rw [if_pos hl1, Option.bind_some]
      dsimp only
      rw [if_pos hl1, parts_c l1.1, if_pos hl1, if_pos (by simp [hl1])]; rfl
    · rw [if_neg hl1, isLoud_c, Option.bind_some]
      simp only [hl1, decide_false, Bool.false_or, if_false]
      cases hl : rg l 10 with
      | false => exact ⟨h1, rfl, i1⟩
      | true =>
        obtain ⟨s, hs2, rfl⟩ := (rg_iff (by omega)).mp hl
        obtain ⟨h5, e5, i5⟩ := carve_c i1 ha l1 hs2
        refine ⟨h5, ?_, i5⟩
        rw [if_neg (by decide), Option.bind_some]
        dsimp only
        rw [e5, tn_nI (show s < 2 ^ 31 by omega)]; rfl
