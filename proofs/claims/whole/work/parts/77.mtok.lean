/-! TEXT: the model's tokens -/
def MT0 (h : HA) (m n : Nat) (B : Nat → Nat) : Prop := MS h m ∧ gi h m 11 = nI n ∧ n ≤ 600 ∧ ∀ f, f < n → gi h (m + 1) f = sB (B f) ∧ B f < 256
def Wtk (m : Nat) : Nat → Nat → Prop := fun a k => a = m ∧ (k = 10 ∨ (12 ≤ k ∧ k ≤ 15))
theorem MT0_ch {W : Nat → Nat → Prop} {h h1 : HA} {m n : Nat} {B : Nat → Nat} (mt : MT0 h m n B) (p : ch W h h1) (w1 : ¬ W m 11) (w2 : ∀ k, ¬ W (m + 1) k) : MT0 h1 m n B :=
  ⟨p.ms mt.1, by rw [p.gi w1]; exact mt.2.1, mt.2.2.1, fun f hf => by rw [p.gi (w2 f)]; exact mt.2.2.2 f hf⟩
theorem MT0_tk {h h1 : HA} {m n : Nat} {B : Nat → Nat} (mt : MT0 h m n B) (p : ch (Wtk m) h h1) : MT0 h1 m n B := MT0_ch mt p (by unfold Wtk; omega) (fun k => by unfold Wtk; omega)
theorem see_n {h : HA} {m n i : Nat} {B : Nat → Nat} (mt : MT0 h m n B) (hg : gi h m 10 = nI i) (hi : i ≤ n) : X8_see h m = some (if i < n then nI (B i) else -1) := by
  have hn := mt.2.2.1
  unfold X8_see
  rw [if_pos (ms_c mt.1), ms_I mt.1, hg, Option.bind_some, ms_I mt.1, mt.2.1, Option.bind_some]
  by_cases h1 : i < n
  · rw [if_pos (lt_lit h1 (by omega)), ms_r1 mt.1, Option.bind_some, Option.bind_some, ldI_n (ms_k1 mt.1) (by omega) (by omega), (mt.2.2.2 i h1).1, Option.bind_some, sB_and _ (mt.2.2.2 i h1).2, if_pos h1]
  · rw [if_neg (nlt_lit (by omega) (by omega)), if_neg h1]
theorem n10 : ∀ i, i < 256 → ((nI i = 10) ↔ i = 10) := by decide +kernel
theorem n32 : ∀ i, i < 256 → ((nI i = 32) ↔ i = 32) := by decide +kernel
theorem n59 : ∀ i, i < 256 → ((nI i = 59) ↔ i = 59) := by decide +kernel
theorem n45 : ∀ i, i < 256 → ((nI i = 45) ↔ i = 45) := by decide +kernel
theorem in_m1l : X8_in (-1) 97 122 = some 0 ∧ X8_in (-1) 48 57 = some 0 := by decide +kernel
theorem tok0 {m n : Nat} {B : Nat → Nat} : ∀ d i (h : HA) fu, n - i = d → i ≤ n → d < fu → MT0 h m n B → gi h m 10 = nI i → ∃ h1, X8_token_L0 m fu h = some h1 ∧ ch (fun a k => a = m ∧ k = 10) h h1 ∧ gi h1 m 10 = nI (tB B n i) := by
  intro d
  induction d with
  | zero =>
    intro i h fu h1 h2 h3 mt hg
    obtain ⟨g, rfl⟩ : ∃ g, fu = g + 1 := ⟨fu - 1, by omega⟩
    rw [X8_token_L0, see_n mt hg h2, Option.bind_some, if_neg (show ¬ i < n by omega), if_neg (by decide), Option.bind_some, if_neg (by decide)]
    exact ⟨h, rfl, ch_rf _ _, by rw [show tB B n i = i from RN_stop (Or.inl (by omega))]; exact hg⟩
  | succ d ih =>
    intro i h fu h1 h2 h3 mt hg
    obtain ⟨g, rfl⟩ : ∃ g, fu = g + 1 := ⟨fu - 1, by omega⟩
    have hb := (mt.2.2.2 i (by omega)).2
    have c1 : ch (fun a k => a = m ∧ k = 10) h (si h m 10 (nI (i + 1))) := ch_si ⟨rfl, rfl⟩
    have step : spc (B i) = true → ∃ h1, X8_token_L0 m g (si h m 10 (nI (i + 1))) = some h1 ∧ ch (fun a k => a = m ∧ k = 10) h h1 ∧ gi h1 m 10 = nI (tB B n i) := by
      intro hs
      obtain ⟨h4, e4, c4, g4⟩ := ih (i + 1) (si h m 10 (nI (i + 1))) g (by omega) (by omega) (by omega) (MT0_tk mt (c1.mo fun a k w => ⟨w.1, by omega⟩)) (by rw [gi_si, if_pos ⟨rfl, rfl⟩])
      exact ⟨h4, e4, c1.tr c4, by rw [g4, show tB B n i = tB B n (i + 1) from RN_step (by omega) hs]⟩
    rw [X8_token_L0, see_n mt hg h2, Option.bind_some, if_pos (show i < n by omega)]
    by_cases e1 : B i = 10
    · rw [if_pos ((n10 _ hb).mpr e1), ms_I mt.1, hg, Option.bind_some, nI_p1, ms_p mt.1, Option.bind_some]
      exact step (by unfold spc; simp [e1])
    · rw [if_neg (fun z => e1 ((n10 _ hb).mp z)), Option.bind_some]
      by_cases e2 : B i = 32
      · rw [if_pos ((n32 _ hb).mpr e2), ms_I mt.1, hg, Option.bind_some, nI_p1, ms_p mt.1, Option.bind_some]
        exact step (by unfold spc; simp [e2])
      · rw [if_neg (fun z => e2 ((n32 _ hb).mp z))]
        exact ⟨h, rfl, ch_rf _ _, by rw [show tB B n i = i from RN_stop (Or.inr (by show spc (B i) = false; unfold spc; simp [e1, e2]))]; exact hg⟩
def mvM (B : Nat → Nat) (b : Nat) : Nat → Int32
  | 0 => 0
  | k + 1 => if k < 2 then 10 * mvM B b k + nI (B (b + k)) - 48 else mvM B b k
theorem tok163 {m n b : Nat} {B : Nat → Nat} : ∀ d i (h : HA) fu, n - i = d → i ≤ n → b ≤ i → d < fu → MT0 h m n B → gi h m 10 = nI i → gi h m 14 = mvM B b (i - b) → ∃ h1, X8_token_L163 m fu h (nI (i - b)) = some (nI (RN (fun j => dgt (B j)) n i - b), h1) ∧ ch (fun a k => a = m ∧ (k = 10 ∨ k = 14)) h h1 ∧ gi h1 m 10 = nI (RN (fun j => dgt (B j)) n i) ∧ gi h1 m 14 = mvM B b (RN (fun j => dgt (B j)) n i - b) := by
  intro d
  induction d with
  | zero =>
    intro i h fu h1 h2 hbi h3 mt hg hv
    obtain ⟨g, rfl⟩ : ∃ g, fu = g + 1 := ⟨fu - 1, by omega⟩
    rw [X8_token_L163, see_n mt hg h2, Option.bind_some, if_neg (show ¬ i < n by omega), in_m1l.2, Option.bind_some, if_pos rfl, RN_stop (p := fun j => dgt (B j)) (Or.inl (by omega))]
    exact ⟨h, rfl, ch_rf _ _, hg, hv⟩
  | succ d ih =>
    intro i h fu h1 h2 hbi h3 mt hg hv
    obtain ⟨g, rfl⟩ : ∃ g, fu = g + 1 := ⟨fu - 1, by omega⟩
    have hb := (mt.2.2.2 i (by omega)).2
    have hn := mt.2.2.1
    rw [X8_token_L163, see_n mt hg h2, Option.bind_some, if_pos (show i < n by omega), in_d8 _ hb, Option.bind_some]
    cases hl : dgt (B i) with
    | false =>
      rw [if_pos (by decide), RN_stop (p := fun j => dgt (B j)) (Or.inr hl)]
      exact ⟨h, rfl, ch_rf _ _, hg, hv⟩
    | true =>
      have c1 : ch (fun a k => a = m ∧ (k = 10 ∨ k = 14)) h (si h m 14 (mvM B b (i + 1 - b))) := ch_si ⟨rfl, Or.inr rfl⟩
      have mt1 := MT0_tk mt (c1.mo fun a k w => ⟨w.1, by omega⟩)
      have c2 := c1.tr (ch_si (h := si h m 14 (mvM B b (i + 1 - b))) (v := nI (i + 1)) (show (fun a k => a = m ∧ (k = 10 ∨ k = 14)) m 10 from ⟨rfl, Or.inl rfl⟩))
      have ev : (show Option Int32 from if nI (i - b) < 2 then (gI h m 9 14).bind fun x34 => (some (nI (B i))).bind fun x36 => some (((10 * x34) + x36) - 48) else (gI h m 9 14).bind fun x37 => some x37) = some (mvM B b (i + 1 - b)) := by
        show (if nI (i - b) < 2 then _ else _) = _
        rw [ms_I mt.1, hv, Option.bind_some, Option.bind_some, Option.bind_some, show i + 1 - b = (i - b) + 1 by omega, mvM, show b + (i - b) = i by omega]
        by_cases h4 : i - b < 2
        · rw [if_pos (show nI (i - b) < 2 from lt_lit (n := 2) h4 (by omega)), if_pos h4]
        · rw [if_neg (show ¬ nI (i - b) < 2 from nlt_lit (n := 2) (by omega) (by omega)), if_neg h4]
      rw [if_neg (by decide)]
      dsimp only at ev ⊢
      rw [ev, Option.bind_some, ms_p mt.1, Option.bind_some, ms_I mt1.1, gi_si, if_neg (by omega), hg, Option.bind_some, nI_p1, ms_p mt1.1, Option.bind_some, nI_p1, show i - b + 1 = i + 1 - b by omega]
      obtain ⟨h4, e4, c4, g4, v4⟩ := ih (i + 1) _ g (by omega) (by omega) (by omega) (by omega) (MT0_tk mt (c2.mo fun a k w => ⟨w.1, by omega⟩)) (by rw [gi_si, if_pos ⟨rfl, rfl⟩]) (by rw [gi_si, if_neg (by omega), gi_si, if_pos ⟨rfl, rfl⟩])
      rw [RN_step (p := fun j => dgt (B j)) (i := i) (by omega) hl]
      exact ⟨h4, e4, c2.tr c4, g4, v4⟩
/-- a word as the model sums it -/
def wvM (B : Nat → Nat) (b : Nat) : Nat → Int64
  | 0 => 0
  | k + 1 => shlJ (wvM B b k) 8 ||| (nI (B (b + k))).toInt64
theorem tok74 {m n b : Nat} {B : Nat → Nat} : ∀ d i (h : HA) fu, n - i = d → i ≤ n → b ≤ i → d < fu → MT0 h m n B → gi h m 10 = nI i → gj h m 15 = wvM B b (i - b) → ∃ h1, X8_token_L74 m fu h (nI (i - b)) = some (nI (RN (fun j => ltr (B j)) n i - b), h1) ∧ ch (fun a k => a = m ∧ (k = 10 ∨ k = 15)) h h1 ∧ gi h1 m 10 = nI (RN (fun j => ltr (B j)) n i) ∧ gj h1 m 15 = wvM B b (RN (fun j => ltr (B j)) n i - b) := by
  intro d
  induction d with
  | zero =>
    intro i h fu h1 h2 hbi h3 mt hg hv
    obtain ⟨g, rfl⟩ : ∃ g, fu = g + 1 := ⟨fu - 1, by omega⟩
    rw [X8_token_L74, see_n mt hg h2, Option.bind_some, if_neg (show ¬ i < n by omega), in_m1l.1, Option.bind_some, if_pos rfl, RN_stop (p := fun j => ltr (B j)) (Or.inl (by omega))]
    exact ⟨h, rfl, ch_rf _ _, hg, hv⟩
  | succ d ih =>
    intro i h fu h1 h2 hbi h3 mt hg hv
    obtain ⟨g, rfl⟩ : ∃ g, fu = g + 1 := ⟨fu - 1, by omega⟩
    have hb := (mt.2.2.2 i (by omega)).2
    have hn := mt.2.2.1
    rw [X8_token_L74, see_n mt hg h2, Option.bind_some, if_pos (show i < n by omega), in_l8 _ hb, Option.bind_some]
    cases hl : ltr (B i) with
    | false =>
      rw [if_pos (by decide), RN_stop (p := fun j => ltr (B j)) (Or.inr hl)]
      exact ⟨h, rfl, ch_rf _ _, hg, hv⟩
    | true =>
      have c1 : ch (fun a k => a = m ∧ (k = 10 ∨ k = 15)) h (sj h m 15 (wvM B b (i + 1 - b))) := ch_sj ⟨rfl, Or.inr rfl⟩
      have mt1 := MT0_tk mt (c1.mo fun a k w => ⟨w.1, by omega⟩)
      have c2 := c1.tr (ch_si (h := sj h m 15 (wvM B b (i + 1 - b))) (v := nI (i + 1)) (show (fun a k => a = m ∧ (k = 10 ∨ k = 15)) m 10 from ⟨rfl, Or.inl rfl⟩))
      have ev : shlJ (wvM B b (i - b)) 8 ||| (nI (B i)).toInt64 = wvM B b (i + 1 - b) := by
        rw [show i + 1 - b = (i - b) + 1 by omega, wvM, show b + (i - b) = i by omega]
      rw [if_neg (by decide), ms_J mt.1, hv, Option.bind_some, Option.bind_some, ev, pJ_n mt.1.1, Option.bind_some, ms_I mt1.1, gi_sj, hg, Option.bind_some, nI_p1, ms_p mt1.1, Option.bind_some, nI_p1, show i - b + 1 = i + 1 - b by omega]
      obtain ⟨h4, e4, c4, g4, v4⟩ := ih (i + 1) _ g (by omega) (by omega) (by omega) (by omega) (MT0_tk mt (c2.mo fun a k w => ⟨w.1, by omega⟩)) (by rw [gi_si, if_pos ⟨rfl, rfl⟩]) (by rw [gj_si, gj_sj, if_pos ⟨rfl, rfl⟩])
      rw [RN_step (p := fun j => ltr (B j)) (i := i) (by omega) hl]
      exact ⟨h4, e4, c2.tr c4, g4, v4⟩
/-- the model's name of a kind; its word -/
def mK (k : Nat) : Nat := if k = 0 then 0 else if k = 1 then 2 else if k = 2 then 3 else if k = 3 then 5 else if k = 4 then 4 else 1
def wdM (B : Nat → Nat) (n i : Nat) : Int64 := if 8 < tR B n i - tB B n i then 0 else wvM B (tB B n i) (tR B n i - tB B n i)
def TM0 (h : HA) (m n : Nat) (B : Nat → Nat) (i : Nat) : Prop := gi h m 10 = nI (tR B n i) ∧ gi h m 13 = nI (mK (tK B n i)) ∧ gi h m 12 = nI (tB B n i) ∧ (tK B n i = 2 → gi h m 14 = nI (tV B n i) ∧ tV B n i < 100) ∧ (tK B n i = 1 → gj h m 15 = wdM B n i)
theorem mv2 : ∀ x, x < 10 → ∀ y, y < 10 → 10 * (0 : Int32) + nI (x + 48) - 48 = nI x ∧ 10 * (10 * (0 : Int32) + nI (x + 48) - 48) + nI (y + 48) - 48 = nI (10 * x + y) := by decide +kernel
theorem token_n {h : HA} {m n i : Nat} {B : Nat → Nat} (mt : MT0 h m n B) (hi : i ≤ n) (hg : gi h m 10 = nI i) : ∃ h1, X8_token h m = some h1 ∧ ch (Wtk m) h h1 ∧ TM0 h1 m n B i := by
  have hn := mt.2.2.1
  obtain ⟨b1, b2⟩ := tB_le (B := B) hi
  obtain ⟨h1, e1, c1, g1⟩ := tok0 (n - i) i h FU rfl hi (FU_gt (by omega)) mt hg
  have c1' : ch (Wtk m) h h1 := c1.mo fun a k w => ⟨w.1, by omega⟩
  have mt1 := MT0_tk mt c1'
  have c2 : ch (Wtk m) h1 (si h1 m 12 (nI (tB B n i))) := ch_si ⟨rfl, by omega⟩
  have mt2 := MT0_tk mt1 c2
  have g2 : gi (si h1 m 12 (nI (tB B n i))) m 10 = nI (tB B n i) := by rw [gi_si, if_neg (by omega)]; exact g1
  have c3 : ch (Wtk m) h1 (sj (si h1 m 12 (nI (tB B n i))) m 15 0) := c2.tr (ch_sj ⟨rfl, by omega⟩)
  have mt3 := MT0_tk mt1 c3
  have g3 : gi (sj (si h1 m 12 (nI (tB B n i))) m 15 0) m 10 = nI (tB B n i) := by rw [gi_sj]; exact g2
  have g3b : gi (sj (si h1 m 12 (nI (tB B n i))) m 15 0) m 12 = nI (tB B n i) := by rw [gi_sj, gi_si, if_pos ⟨rfl, rfl⟩]
  have g3w : gj (sj (si h1 m 12 (nI (tB B n i))) m 15 0) m 15 = 0 := by rw [gj_sj, if_pos ⟨rfl, rfl⟩]
  unfold X8_token
  rw [if_pos (ms_c mt.1), e1, Option.bind_some, ms_I mt1.1, g1, Option.bind_some, ms_p mt1.1, Option.bind_some, see_n mt2 g2 b2, Option.bind_some, pJ_n mt2.1.1, Option.bind_some]
  generalize sj (si h1 m 12 (nI (tB B n i))) m 15 0 = h3 at *
  have c13 := c1'.tr c3
  unfold TM0
  by_cases h0 : n ≤ tB B n i
  · have ek : tK B n i = 0 := by unfold tK; rw [if_pos h0]
    have er : tR B n i = tB B n i := by unfold tR; rw [if_pos h0]
    rw [if_neg (show ¬ tB B n i < n by omega), if_pos (by decide), ms_p mt3.1]
    refine ⟨_, rfl, c13.tr (ch_si ⟨rfl, by omega⟩), ?_, ?_, ?_, fun z => by omega, fun z => by omega⟩
    · rw [gi_si, if_neg (by omega), er]; exact g3
    · rw [gi_si, if_pos ⟨rfl, rfl⟩, ek]; rfl
    · rw [gi_si, if_neg (by omega)]; exact g3b
  · have hb := (mt.2.2.2 (tB B n i) (by omega)).2
    rw [if_pos (show tB B n i < n by omega), if_neg (nI_lt0 (by omega)), in_l8 _ hb, Option.bind_some]
    by_cases h1l : ltr (B (tB B n i)) = true
    · have ek : tK B n i = 1 := by unfold tK; rw [if_neg h0, if_pos h1l]
      have er : tR B n i = RN (fun j => ltr (B j)) n (tB B n i) := by unfold tR; rw [if_neg h0, if_pos h1l]
      obtain ⟨h4, e4, c4, g4, v4⟩ := tok74 (b := tB B n i) (n - tB B n i) (tB B n i) h3 FU rfl b2 (Nat.le_refl _) (FU_gt (by omega)) mt3 g3 (by rw [Nat.sub_self]; exact g3w)
      rw [Nat.sub_self] at e4
      have c4' : ch (Wtk m) h3 h4 := c4.mo fun a k w => ⟨w.1, by omega⟩
      have mt4 := MT0_tk mt3 c4'
      obtain ⟨l1, l2, _⟩ := tR_le (B := B) hi
      rw [h1l, if_neg (by decide), show X8_token_L74 m FU h3 0 = _ from e4, Option.bind_some]
      dsimp only
      rw [← er]
      rw [← er] at g4 v4
      have fin : ∀ v : Int64, v = wdM B n i → ∃ h5, ((pJ h4 m 9 15 v).bind fun h62 => (pI h62 m 9 13 2).bind fun h63 => some h63) = some h5 ∧ ch (Wtk m) h h5 ∧ gi h5 m 10 = nI (tR B n i) ∧ gi h5 m 13 = nI (mK (tK B n i)) ∧ gi h5 m 12 = nI (tB B n i) ∧ (tK B n i = 2 → gi h5 m 14 = nI (tV B n i) ∧ tV B n i < 100) ∧ (tK B n i = 1 → gj h5 m 15 = wdM B n i) := by
        intro v hv
        have c5 : ch (Wtk m) h4 (sj h4 m 15 v) := ch_sj ⟨rfl, by omega⟩
        have mt5 := MT0_tk mt4 c5
        rw [pJ_n mt4.1.1, Option.bind_some, ms_p mt5.1]
        refine ⟨_, rfl, c13.tr (c4'.tr (c5.tr (ch_si ⟨rfl, by omega⟩))), ?_, ?_, ?_, fun z => by omega, fun _ => ?_⟩
        · rw [gi_si, if_neg (by omega), gi_sj]; exact g4
        · rw [gi_si, if_pos ⟨rfl, rfl⟩, ek]; rfl
        · rw [gi_si, if_neg (by omega), gi_sj, c4.gi (by omega)]; exact g3b
        · rw [gj_si, gj_sj, if_pos ⟨rfl, rfl⟩, hv]
      by_cases h8 : 8 < tR B n i - tB B n i
      · rw [if_pos (show 8 < nI (tR B n i - tB B n i) from lt_lit (k := 8) h8 (by omega))]
        exact fin 0 (by unfold wdM; rw [if_pos h8])
      · rw [if_neg (show ¬ 8 < nI (tR B n i - tB B n i) from nlt_lit (k := 8) (by omega) (by omega)), ms_J mt4.1, v4, Option.bind_some]
        exact fin _ (by unfold wdM; rw [if_neg h8])
    · have h1l' : ltr (B (tB B n i)) = false := by simpa using h1l
      rw [h1l', if_pos (by decide), in_d8 _ hb, Option.bind_some]
      by_cases h1d : dgt (B (tB B n i)) = true
      · have er : tR B n i = RN (fun j => dgt (B j)) n (tB B n i) := by unfold tR; rw [if_neg h0, if_neg h1l, if_pos h1d]
        have ek : tK B n i = if tR B n i - tB B n i ≤ 2 then 2 else 5 := by unfold tK; rw [if_neg h0, if_neg h1l, if_pos h1d]
        have c4 : ch (Wtk m) h3 (si h3 m 14 0) := ch_si ⟨rfl, by omega⟩
        have mt4 := MT0_tk mt3 c4
        obtain ⟨h5, e5, c5, g5, v5⟩ := tok163 (b := tB B n i) (n - tB B n i) (tB B n i) (si h3 m 14 0) FU rfl b2 (Nat.le_refl _) (FU_gt (by omega)) mt4 (by rw [gi_si, if_neg (by omega)]; exact g3) (by rw [Nat.sub_self, gi_si, if_pos ⟨rfl, rfl⟩]; rfl)
        rw [Nat.sub_self] at e5
        have c5' : ch (Wtk m) (si h3 m 14 0) h5 := c5.mo fun a k w => ⟨w.1, by omega⟩
        have mt5 := MT0_tk mt4 c5'
        obtain ⟨l1, l2, l3⟩ := tR_le (B := B) hi
        have c15 := c13.tr (c4.tr c5')
        have g5b : gi h5 m 12 = nI (tB B n i) := by rw [c5.gi (by omega), gi_si, if_neg (by omega)]; exact g3b
        rw [h1d, if_neg (by decide), ms_p mt3.1, Option.bind_some, show X8_token_L163 m FU (si h3 m 14 0) 0 = _ from e5, Option.bind_some]
        dsimp only
        rw [← er]
        rw [← er] at g5 v5
        by_cases h2l : tR B n i - tB B n i ≤ 2
        · rw [if_pos h2l] at ek
          rw [if_neg (show ¬ 2 < nI (tR B n i - tB B n i) from nlt_lit (k := 2) h2l (by omega)), ms_p mt5.1]
          refine ⟨_, rfl, c15.tr (ch_si ⟨rfl, by omega⟩), ?_, ?_, ?_, fun _ => ?_, fun z => by omega⟩
          · rw [gi_si, if_neg (by omega)]; exact g5
          · rw [gi_si, if_pos ⟨rfl, rfl⟩, ek]; rfl
          · rw [gi_si, if_neg (by omega)]; exact g5b
          · have hlt := l3 (by omega)
            rw [gi_si, if_neg (by omega), v5]
            have d1 := sB_v _ hb h1d
            unfold tV
            by_cases h3' : tR B n i - tB B n i = 1
            · rw [if_pos h3', h3']
              have := (mv2 (B (tB B n i) - 48) (by omega) 0 (by omega)).1
              rw [show B (tB B n i) - 48 + 48 = B (tB B n i) by omega] at this
              exact ⟨this, by omega⟩
            · rw [if_neg h3', show tR B n i - tB B n i = 2 by omega]
              have hd2 : dgt (B (tB B n i + 1)) = true := (RN_spec (p := fun j => dgt (B j)) (n := n) _ (tB B n i) rfl b2).2.2.2 (tB B n i + 1) (by omega) (by rw [← er]; omega)
              have hb2 := (mt.2.2.2 (tB B n i + 1) (by omega)).2
              have d2 := sB_v _ hb2 hd2
              have := (mv2 (B (tB B n i) - 48) (by omega) (B (tB B n i + 1) - 48) (by omega)).2
              rw [show B (tB B n i) - 48 + 48 = B (tB B n i) by omega, show B (tB B n i + 1) - 48 + 48 = B (tB B n i + 1) by omega] at this
              exact ⟨this, by omega⟩
        · rw [if_neg h2l] at ek
          rw [if_pos (show 2 < nI (tR B n i - tB B n i) from lt_lit (k := 2) (by omega) (by omega)), ms_p mt5.1]
          refine ⟨_, rfl, c15.tr (ch_si ⟨rfl, by omega⟩), ?_, ?_, ?_, fun z => by omega, fun z => by omega⟩
          · rw [gi_si, if_neg (by omega)]; exact g5
          · rw [gi_si, if_pos ⟨rfl, rfl⟩, ek]; rfl
          · rw [gi_si, if_neg (by omega)]; exact g5b
      · have h1d' : dgt (B (tB B n i)) = false := by simpa using h1d
        have er : tR B n i = tB B n i + 1 := by unfold tR; rw [if_neg h0, if_neg h1l, if_neg h1d]
        have ek : tK B n i = if B (tB B n i) = 59 then 4 else if B (tB B n i) = 45 then 3 else 5 := by unfold tK; rw [if_neg h0, if_neg h1l, if_neg h1d]
        have c4 : ch (Wtk m) h3 (si h3 m 10 (nI (tB B n i + 1))) := ch_si ⟨rfl, by omega⟩
        have mt4 := MT0_tk mt3 c4
        rw [h1d', if_pos (by decide), ms_I mt3.1, g3, Option.bind_some, nI_p1, ms_p mt3.1, Option.bind_some]
        have fin : ∀ k : Nat, mK (tK B n i) = k → tK B n i ≠ 2 → tK B n i ≠ 1 → ∃ h5, ((pI (si h3 m 10 (nI (tB B n i + 1))) m 9 13 (nI k)).bind fun h23 => some h23) = some h5 ∧ ch (Wtk m) h h5 ∧ gi h5 m 10 = nI (tR B n i) ∧ gi h5 m 13 = nI (mK (tK B n i)) ∧ gi h5 m 12 = nI (tB B n i) ∧ (tK B n i = 2 → gi h5 m 14 = nI (tV B n i) ∧ tV B n i < 100) ∧ (tK B n i = 1 → gj h5 m 15 = wdM B n i) := by
          intro k hk hk2 hk3
          rw [ms_p mt4.1]
          refine ⟨_, rfl, c13.tr (c4.tr (ch_si ⟨rfl, by omega⟩)), ?_, ?_, ?_, fun z => absurd z hk2, fun z => absurd z hk3⟩
          · rw [gi_si, if_neg (by omega), gi_si, if_pos ⟨rfl, rfl⟩, er]
          · rw [gi_si, if_pos ⟨rfl, rfl⟩, hk]
          · rw [gi_si, if_neg (by omega), gi_si, if_neg (by omega)]; exact g3b
        by_cases h59 : B (tB B n i) = 59
        · rw [if_pos h59] at ek
          rw [if_pos ((n59 _ hb).mpr h59)]
          exact fin 4 (by rw [ek]; rfl) (by omega) (by omega)
        · rw [if_neg h59] at ek
          rw [if_neg (fun z => h59 ((n59 _ hb).mp z))]
          by_cases h45 : B (tB B n i) = 45
          · rw [if_pos h45] at ek
            rw [if_pos ((n45 _ hb).mpr h45)]
            exact fin 5 (by rw [ek]; rfl) (by omega) (by omega)
          · rw [if_neg h45] at ek
            rw [if_neg (fun z => h45 ((n45 _ hb).mp z))]
            exact fin 1 (by rw [ek]; rfl) (by omega) (by omega)
