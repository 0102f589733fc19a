/-! TEXT: the tape as numbers below 256, and its tokens -/
def sB (i : Nat) : Int32 := (nI i).toInt8.toInt32
theorem sB_8 : ∀ i, i < 256 → (nI i).toInt8.toBitVec = BitVec.ofNat 8 i := by decide +kernel
theorem sB_of (x : Int32) (h : x.toInt8.toInt32 = x) : ∃ i, i < 256 ∧ x = sB i := by
  refine ⟨x.toInt8.toBitVec.toNat, x.toInt8.toBitVec.isLt, ?_⟩
  have e : (nI x.toInt8.toBitVec.toNat).toInt8 = x.toInt8 := by
    apply Int8.toBitVec_inj.mp
    rw [sB_8 _ x.toInt8.toBitVec.isLt, BitVec.ofNat_toNat, BitVec.setWidth_eq]
  unfold sB
  rw [e, h]
theorem sB_10 : ∀ i, i < 256 → ((sB i = 10) ↔ i = 10) := by decide +kernel
theorem sB_32 : ∀ i, i < 256 → ((sB i = 32) ↔ i = 32) := by decide +kernel
theorem sB_59 : ∀ i, i < 256 → ((sB i = 59) ↔ i = 59) := by decide +kernel
theorem sB_45 : ∀ i, i < 256 → ((sB i = 45) ↔ i = 45) := by decide +kernel
def ltr (i : Nat) : Bool := decide (97 ≤ i) && decide (i ≤ 122)
def dgt (i : Nat) : Bool := decide (48 ≤ i) && decide (i ≤ 57)
def spc (i : Nat) : Bool := decide (i = 10) || decide (i = 32)
theorem sB_l : ∀ i, i < 256 → X3_isLetter (sB i) = some (bI (ltr i)) := by decide +kernel
theorem sB_d : ∀ i, i < 256 → X3_isDigit (sB i) = some (bI (dgt i)) := by decide +kernel
theorem sB_and : ∀ i, i < 256 → sB i &&& 255 = nI i := by decide +kernel
theorem in_l8 : ∀ i, i < 256 → X8_in (nI i) 97 122 = some (bI (ltr i)) := by decide +kernel
theorem in_d8 : ∀ i, i < 256 → X8_in (nI i) 48 57 = some (bI (dgt i)) := by decide +kernel
theorem sB_v : ∀ i, i < 256 → dgt i = true → sB i = nI i ∧ 48 ≤ i ∧ i ≤ 57 := by decide +kernel
theorem sB_w : ∀ i, i < 128 → sB i = nI i := by decide +kernel
/-- as far as p holds -/
def run (p : Nat → Bool) : Nat → Nat → Nat
  | 0, i => i
  | k + 1, i => if p i = true then run p k (i + 1) else i
def RN (p : Nat → Bool) (n i : Nat) : Nat := run p (n - i) i
theorem RN_step {p : Nat → Bool} {n i : Nat} (h : i < n) (hp : p i = true) : RN p n i = RN p n (i + 1) := by
  unfold RN
  rw [show n - i = (n - (i + 1)) + 1 by omega, run, if_pos hp]
theorem RN_stop {p : Nat → Bool} {n i : Nat} (h : n ≤ i ∨ p i = false) : RN p n i = i := by
  unfold RN
  cases hk : n - i with
  | zero => rfl
  | succ k => rw [run, if_neg]; rcases h with h | h
              · omega
              · rw [h]; decide
theorem RN_spec {p : Nat → Bool} {n : Nat} : ∀ (d i : Nat), n - i = d → i ≤ n → i ≤ RN p n i ∧ RN p n i ≤ n ∧ (RN p n i < n → p (RN p n i) = false) ∧ ∀ j, i ≤ j → j < RN p n i → p j = true := by
  intro d
  induction d with
  | zero =>
    intro i h1 h2
    have e : RN p n i = i := RN_stop (Or.inl (by omega))
    rw [e]
    exact ⟨Nat.le_refl _, h2, fun h => by omega, fun j _ _ => by omega⟩
  | succ d ih =>
    intro i h1 h2
    cases hp : p i with
    | false =>
      have e : RN p n i = i := RN_stop (Or.inr hp)
      rw [e]
      exact ⟨Nat.le_refl _, h2, fun _ => hp, fun j _ _ => by omega⟩
    | true =>
      rw [RN_step (by omega) hp]
      obtain ⟨a1, a2, a3, a4⟩ := ih (i + 1) (by omega) (by omega)
      refine ⟨by omega, a2, a3, fun j h3 h4 => ?_⟩
      by_cases e : j = i
      · rw [e]; exact hp
      · exact a4 j (by omega) h4
def tB (B : Nat → Nat) (n i : Nat) : Nat := RN (fun j => spc (B j)) n i
def tR (B : Nat → Nat) (n i : Nat) : Nat :=
  if n ≤ tB B n i then tB B n i else if ltr (B (tB B n i)) = true then RN (fun j => ltr (B j)) n (tB B n i) else if dgt (B (tB B n i)) = true then RN (fun j => dgt (B j)) n (tB B n i) else tB B n i + 1
def tK (B : Nat → Nat) (n i : Nat) : Nat :=
  if n ≤ tB B n i then 0 else if ltr (B (tB B n i)) = true then 1 else if dgt (B (tB B n i)) = true then (if tR B n i - tB B n i ≤ 2 then 2 else 5) else if B (tB B n i) = 59 then 4 else if B (tB B n i) = 45 then 3 else 5
def tV (B : Nat → Nat) (n i : Nat) : Nat := if tR B n i - tB B n i = 1 then B (tB B n i) - 48 else 10 * (B (tB B n i) - 48) + (B (tB B n i + 1) - 48)
theorem tB_le {B : Nat → Nat} {n i : Nat} (h : i ≤ n) : i ≤ tB B n i ∧ tB B n i ≤ n := by
  obtain ⟨a1, a2, _⟩ := RN_spec (p := fun j => spc (B j)) (n := n) (n - i) i rfl h
  exact ⟨a1, a2⟩
theorem tR_le {B : Nat → Nat} {n i : Nat} (h : i ≤ n) : tB B n i ≤ tR B n i ∧ tR B n i ≤ n ∧ (tK B n i ≠ 0 → tB B n i < tR B n i) := by
  obtain ⟨b1, b2⟩ := tB_le (B := B) h
  unfold tR tK
  by_cases h0 : n ≤ tB B n i
  · rw [if_pos h0, if_pos h0]; exact ⟨Nat.le_refl _, b2, fun z => absurd rfl z⟩
  · rw [if_neg h0]
    by_cases h1 : ltr (B (tB B n i)) = true
    · rw [if_pos h1]
      obtain ⟨a1, a2, _⟩ := RN_spec (p := fun j => ltr (B j)) (n := n) _ (tB B n i) rfl b2
      have := RN_step (p := fun j => ltr (B j)) (n := n) (i := tB B n i) (by omega) h1
      obtain ⟨a3, _⟩ := RN_spec (p := fun j => ltr (B j)) (n := n) _ (tB B n i + 1) rfl (by omega)
      exact ⟨a1, a2, fun _ => by omega⟩
    · rw [if_neg h1]
      by_cases h2 : dgt (B (tB B n i)) = true
      · rw [if_pos h2]
        obtain ⟨a1, a2, _⟩ := RN_spec (p := fun j => dgt (B j)) (n := n) _ (tB B n i) rfl b2
        have := RN_step (p := fun j => dgt (B j)) (n := n) (i := tB B n i) (by omega) h2
        obtain ⟨a3, _⟩ := RN_spec (p := fun j => dgt (B j)) (n := n) _ (tB B n i + 1) rfl (by omega)
        exact ⟨a1, a2, fun _ => by omega⟩
      · rw [if_neg h2]; exact ⟨by omega, by omega, fun _ => by omega⟩
/-- the class's reader at its tape -/
def RT0 (h : HA) (r tp n : Nat) (B : Nat → Nat) : Prop := kd h r = (4, 0) ∧ ga h r 4 = some tp ∧ kd h tp = (22, 600) ∧ gi h r 5 = nI n ∧ n ≤ 600 ∧ ∀ f, f < n → gi h tp f = sB (B f) ∧ B f < 256
def Wad (r : Nat) : Nat → Nat → Prop := fun a k => a = r ∧ 6 ≤ k ∧ k ≤ 9
theorem RT0_ch {W : Nat → Nat → Prop} {h h1 : HA} {r tp n : Nat} {B : Nat → Nat} (rt : RT0 h r tp n B) (p : ch W h h1) (w1 : ¬ W r 5) (w2 : ∀ k, ¬ W tp k) : RT0 h1 r tp n B := by
  obtain ⟨a1, a2, a3, a4, a5, a6⟩ := rt
  exact ⟨by rw [p.2.1]; exact a1, by rw [p.2.2.1]; exact a2, by rw [p.2.1]; exact a3, by rw [p.gi w1]; exact a4, a5, fun f hf => by rw [p.gi (w2 f)]; exact a6 f hf⟩
theorem rt_ne {h : HA} {r tp n : Nat} {B : Nat → Nat} (rt : RT0 h r tp n B) : tp ≠ r := fun e => by have h1 := rt.1; rw [← e, rt.2.2.1] at h1; exact absurd h1 (by decide)
theorem RT0_ad {h h1 : HA} {r tp n : Nat} {B : Nat → Nat} (rt : RT0 h r tp n B) (p : ch (Wad r) h h1) : RT0 h1 r tp n B := RT0_ch rt p (by unfold Wad; omega) (fun k w => rt_ne rt w.1)
theorem rt_t {h : HA} {r tp n : Nat} {B : Nat → Nat} (rt : RT0 h r tp n B) : (kd h r).1 = 4 := by rw [rt.1]
theorem rt_I {h : HA} {r tp n : Nat} {B : Nat → Nat} (rt : RT0 h r tp n B) (k : Nat) : gI h r 4 k = some (gi h r k) := gI_n rt.1
theorem rt_4 {h : HA} {r tp n : Nat} {B : Nat → Nat} (rt : RT0 h r tp n B) : gR h r 4 4 = some tp := by rw [gR_n rt.1]; exact rt.2.1
theorem rt_ld {h : HA} {r tp n i : Nat} {B : Nat → Nat} (rt : RT0 h r tp n B) (hi : i < n) : ldI h tp 22 (nI i) = some (sB (B i)) := by
  have := rt.2.2.2.2.1
  rw [ldI_n rt.2.2.1 (by omega) (by omega), (rt.2.2.2.2.2 i hi).1]
theorem rt_p {h : HA} {r tp n : Nat} {B : Nat → Nat} (rt : RT0 h r tp n B) (k : Nat) (v : Int32) : pI h r 4 k v = some (si h r k v) := pI_n rt.1
theorem adv0 {r tp n : Nat} {B : Nat → Nat} : ∀ d i (h : HA) fu, n - i = d → i ≤ n → d < fu → RT0 h r tp n B → gi h r 6 = nI i → ∃ h1, X3_advance_L0 r fu h = some h1 ∧ ch (Wad r) h h1 ∧ gi h1 r 6 = nI (tB B n i) := by
  intro d
  induction d with
  | zero =>
    intro i h fu h1 h2 h3 rt hg
    obtain ⟨g, rfl⟩ : ∃ g, fu = g + 1 := ⟨fu - 1, by omega⟩
    have hn := rt.2.2.2.2.1
    rw [X3_advance_L0, rt_I rt, hg, Option.bind_some, rt_I rt, rt.2.2.2.1, Option.bind_some, if_neg (nlt_lit (by omega) (by omega))]
    exact ⟨h, rfl, ch_rf _ _, by rw [show tB B n i = i from RN_stop (Or.inl (by omega))]; exact hg⟩
  | succ d ih =>
    intro i h fu h1 h2 h3 rt hg
    obtain ⟨g, rfl⟩ : ∃ g, fu = g + 1 := ⟨fu - 1, by omega⟩
    have hn := rt.2.2.2.2.1
    have hb := (rt.2.2.2.2.2 i (by omega)).2
    have c1 : ch (Wad r) h (si h r 6 (nI (i + 1))) := ch_si ⟨rfl, by omega, by omega⟩
    have step : spc (B i) = true → ∃ h1, X3_advance_L0 r g (si h r 6 (nI (i + 1))) = some h1 ∧ ch (Wad r) h h1 ∧ gi h1 r 6 = nI (tB B n i) := by
      intro hs
      obtain ⟨h4, e4, c4, g4⟩ := ih (i + 1) (si h r 6 (nI (i + 1))) g (by omega) (by omega) (by omega) (RT0_ad rt c1) (by rw [gi_si, if_pos ⟨rfl, rfl⟩])
      exact ⟨h4, e4, c1.tr c4, by rw [g4, show tB B n i = tB B n (i + 1) from RN_step (by omega) hs]⟩
    rw [X3_advance_L0, rt_I rt, hg, Option.bind_some, rt_I rt, rt.2.2.2.1, Option.bind_some, if_pos (lt_lit (by omega) (by omega)), rt_4 rt, Option.bind_some, Option.bind_some, rt_ld rt (by omega), Option.bind_some]
    by_cases e1 : B i = 10
    · rw [if_pos ((sB_10 _ hb).mpr e1), Option.bind_some, nI_p1, rt_p rt, Option.bind_some]
      exact step (by unfold spc; simp [e1])
    · rw [if_neg (fun z => e1 ((sB_10 _ hb).mp z)), Option.bind_some, Option.bind_some, rt_ld rt (by omega), Option.bind_some]
      by_cases e2 : B i = 32
      · rw [if_pos ((sB_32 _ hb).mpr e2), Option.bind_some, nI_p1, rt_p rt, Option.bind_some]
        exact step (by unfold spc; simp [e2])
      · rw [if_neg (fun z => e2 ((sB_32 _ hb).mp z))]
        exact ⟨h, rfl, ch_rf _ _, by rw [show tB B n i = i from RN_stop (Or.inr (by show spc (B i) = false; unfold spc; simp [e1, e2]))]; exact hg⟩
theorem pw5 {r tp n : Nat} {B : Nat → Nat} : ∀ d i (h : HA) fu, n - i = d → i ≤ n → d < fu → RT0 h r tp n B → gi h r 6 = nI i → ∃ h1, X3_passWord_L5 r fu h = some h1 ∧ ch (fun a k => a = r ∧ k = 6) h h1 ∧ gi h1 r 6 = nI (RN (fun j => ltr (B j)) n i) := by
  intro d
  induction d with
  | zero =>
    intro i h fu h1 h2 h3 rt hg
    obtain ⟨g, rfl⟩ : ∃ g, fu = g + 1 := ⟨fu - 1, by omega⟩
    have hn := rt.2.2.2.2.1
    rw [X3_passWord_L5, rt_I rt, hg, Option.bind_some, rt_I rt, rt.2.2.2.1, Option.bind_some, if_neg (nlt_lit (by omega) (by omega))]
    exact ⟨h, rfl, ch_rf _ _, by rw [RN_stop (Or.inl (by omega))]; exact hg⟩
  | succ d ih =>
    intro i h fu h1 h2 h3 rt hg
    obtain ⟨g, rfl⟩ : ∃ g, fu = g + 1 := ⟨fu - 1, by omega⟩
    have hn := rt.2.2.2.2.1
    have hb := (rt.2.2.2.2.2 i (by omega)).2
    have c1 : ch (fun a k => a = r ∧ k = 6) h (si h r 6 (nI (i + 1))) := ch_si ⟨rfl, rfl⟩
    rw [X3_passWord_L5, rt_I rt, hg, Option.bind_some, rt_I rt, rt.2.2.2.1, Option.bind_some, if_pos (lt_lit (by omega) (by omega)), rt_4 rt, Option.bind_some, Option.bind_some, rt_ld rt (by omega), Option.bind_some, sB_l _ hb, Option.bind_some]
    cases hl : ltr (B i) with
    | false =>
      rw [if_pos (by decide)]
      exact ⟨h, rfl, ch_rf _ _, by rw [RN_stop (p := fun j => ltr (B j)) (Or.inr hl)]; exact hg⟩
    | true =>
      rw [if_neg (by decide), Option.bind_some, nI_p1, rt_p rt, Option.bind_some]
      obtain ⟨h4, e4, c4, g4⟩ := ih (i + 1) (si h r 6 (nI (i + 1))) g (by omega) (by omega) (by omega) (RT0_ad rt (c1.mo fun a k w => ⟨w.1, by omega, by omega⟩)) (by rw [gi_si, if_pos ⟨rfl, rfl⟩])
      exact ⟨h4, e4, c1.tr c4, by rw [g4, RN_step (p := fun j => ltr (B j)) (i := i) (by omega) hl]⟩
/-- digits as the class sums them -/
def dvC (B : Nat → Nat) (b : Nat) : Nat → Int32
  | 0 => 0
  | k + 1 => dvC B b k * 10 + sB (B (b + k)) - 48
theorem pd5 {r tp n b : Nat} {B : Nat → Nat} : ∀ d i (h : HA) fu, n - i = d → i ≤ n → b ≤ i → d < fu → RT0 h r tp n B → gi h r 6 = nI i → gi h r 9 = dvC B b (i - b) → ∃ h1, X3_passDigits_L5 r fu h = some h1 ∧ ch (fun a k => a = r ∧ (k = 6 ∨ k = 9)) h h1 ∧ gi h1 r 6 = nI (RN (fun j => dgt (B j)) n i) ∧ gi h1 r 9 = dvC B b (RN (fun j => dgt (B j)) n i - b) := by
  intro d
  induction d with
  | zero =>
    intro i h fu h1 h2 hbi h3 rt hg hv
    obtain ⟨g, rfl⟩ : ∃ g, fu = g + 1 := ⟨fu - 1, by omega⟩
    have hn := rt.2.2.2.2.1
    rw [X3_passDigits_L5, rt_I rt, hg, Option.bind_some, rt_I rt, rt.2.2.2.1, Option.bind_some, if_neg (nlt_lit (by omega) (by omega))]
    exact ⟨h, rfl, ch_rf _ _, by rw [RN_stop (Or.inl (by omega))]; exact hg, by rw [RN_stop (Or.inl (by omega))]; exact hv⟩
  | succ d ih =>
    intro i h fu h1 h2 hbi h3 rt hg hv
    obtain ⟨g, rfl⟩ : ∃ g, fu = g + 1 := ⟨fu - 1, by omega⟩
    have hn := rt.2.2.2.2.1
    have hb := (rt.2.2.2.2.2 i (by omega)).2
    rw [X3_passDigits_L5, rt_I rt, hg, Option.bind_some, rt_I rt, rt.2.2.2.1, Option.bind_some, if_pos (lt_lit (by omega) (by omega)), rt_4 rt, Option.bind_some, Option.bind_some, rt_ld rt (by omega), Option.bind_some, sB_d _ hb, Option.bind_some]
    cases hl : dgt (B i) with
    | false =>
      rw [if_pos (by decide)]
      exact ⟨h, rfl, ch_rf _ _, by rw [RN_stop (p := fun j => dgt (B j)) (Or.inr hl)]; exact hg, by rw [RN_stop (p := fun j => dgt (B j)) (Or.inr hl)]; exact hv⟩
    | true =>
      have c1 : ch (fun a k => a = r ∧ (k = 6 ∨ k = 9)) h (si h r 9 (dvC B b (i + 1 - b))) := ch_si ⟨rfl, Or.inr rfl⟩
      have rt1 := RT0_ad rt (c1.mo fun a k w => ⟨w.1, by omega, by omega⟩)
      have c2 := c1.tr (ch_si (h := si h r 9 (dvC B b (i + 1 - b))) (v := nI (i + 1)) (show (fun a k => a = r ∧ (k = 6 ∨ k = 9)) r 6 from ⟨rfl, Or.inl rfl⟩))
      have ev : dvC B b (i - b) * 10 + sB (B i) - 48 = dvC B b (i + 1 - b) := by
        rw [show i + 1 - b = (i - b) + 1 by omega, dvC, show b + (i - b) = i by omega]
      rw [if_neg (by decide), rt_I rt, hv, Option.bind_some, Option.bind_some, Option.bind_some, rt_ld rt (by omega), Option.bind_some, ev, rt_p rt, Option.bind_some, rt_I rt1, gi_si, if_neg (by omega), hg, Option.bind_some, nI_p1, rt_p rt1, Option.bind_some]
      obtain ⟨h4, e4, c4, g4, v4⟩ := ih (i + 1) _ g (by omega) (by omega) (by omega) (by omega) (RT0_ad rt (c2.mo fun a k w => ⟨w.1, by omega, by omega⟩)) (by rw [gi_si, if_pos ⟨rfl, rfl⟩]) (by rw [gi_si, if_neg (by omega), gi_si, if_pos ⟨rfl, rfl⟩])
      exact ⟨h4, e4, c2.tr c4, by rw [g4, RN_step (p := fun j => dgt (B j)) (i := i) (by omega) hl], by rw [v4, RN_step (p := fun j => dgt (B j)) (i := i) (by omega) hl]⟩
theorem dv2 : ∀ x, x < 10 → ∀ y, y < 10 → (0 : Int32) * 10 + sB (x + 48) - 48 = nI x ∧ ((0 : Int32) * 10 + sB (x + 48) - 48) * 10 + sB (y + 48) - 48 = nI (10 * x + y) := by decide +kernel
/-- the class after a token -/
def TC (h : HA) (r n : Nat) (B : Nat → Nat) (i : Nat) : Prop := gi h r 6 = nI (tR B n i) ∧ gi h r 7 = nI (tK B n i) ∧ gi h r 8 = nI (tB B n i) ∧ (tK B n i = 2 → gi h r 9 = nI (tV B n i) ∧ tV B n i < 100)
theorem advance_c {h : HA} {r tp n i : Nat} {B : Nat → Nat} (rt : RT0 h r tp n B) (hi : i ≤ n) (hg : gi h r 6 = nI i) : ∃ h1, X3_advance h r = some h1 ∧ ch (Wad r) h h1 ∧ TC h1 r n B i := by
  have hn := rt.2.2.2.2.1
  obtain ⟨b1, b2⟩ := tB_le (B := B) hi
  obtain ⟨h1, e1, c1, g1⟩ := adv0 (n - i) i h FU rfl hi (FU_gt (by omega)) rt hg
  have rt1 := RT0_ad rt c1
  have c2 : ch (Wad r) h1 (si h1 r 8 (nI (tB B n i))) := ch_si ⟨rfl, by omega, by omega⟩
  have rt2 := RT0_ad rt1 c2
  have g26 : gi (si h1 r 8 (nI (tB B n i))) r 6 = nI (tB B n i) := by rw [gi_si, if_neg (by omega)]; exact g1
  have g28 : gi (si h1 r 8 (nI (tB B n i))) r 8 = nI (tB B n i) := by rw [gi_si, if_pos ⟨rfl, rfl⟩]
  unfold X3_advance
  rw [if_pos (rt_t rt), e1, Option.bind_some, rt_I rt1, g1, Option.bind_some, rt_p rt1, Option.bind_some]
  generalize si h1 r 8 (nI (tB B n i)) = h2 at *
  have c12 := c1.tr c2
  rw [rt_I rt2, g26, Option.bind_some, rt_I rt2, rt2.2.2.2.1, Option.bind_some]
  unfold TC
  by_cases h0 : n ≤ tB B n i
  · rw [if_neg (nlt_lit h0 (by omega)), rt_p rt2]
    have ek : tK B n i = 0 := by unfold tK; rw [if_pos h0]
    have er : tR B n i = tB B n i := by unfold tR; rw [if_pos h0]
    refine ⟨_, rfl, c12.tr (ch_si ⟨rfl, by omega, by omega⟩), ?_, ?_, ?_, fun z => by omega⟩
    · rw [gi_si, if_neg (by omega), er]; exact g26
    · rw [gi_si, if_pos ⟨rfl, rfl⟩, ek]; rfl
    · rw [gi_si, if_neg (by omega)]; exact g28
  · have hb := (rt.2.2.2.2.2 (tB B n i) (by omega)).2
    rw [if_pos (lt_lit (by omega) (by omega)), rt_4 rt2, Option.bind_some, Option.bind_some, rt_ld rt2 (by omega), Option.bind_some, sB_l _ hb, Option.bind_some]
    by_cases h1l : ltr (B (tB B n i)) = true
    · have ek : tK B n i = 1 := by unfold tK; rw [if_neg h0, if_pos h1l]
      have er : tR B n i = RN (fun j => ltr (B j)) n (tB B n i) := by unfold tR; rw [if_neg h0, if_pos h1l]
      have c3 : ch (Wad r) h2 (si h2 r 7 1) := ch_si ⟨rfl, by omega, by omega⟩
      have rt3 := RT0_ad rt2 c3
      obtain ⟨h4, e4, c4, g4⟩ := pw5 (n - tB B n i) (tB B n i) (si h2 r 7 1) FU rfl b2 (FU_gt (by omega)) rt3 (by rw [gi_si, if_neg (by omega)]; exact g26)
      rw [h1l, if_neg (by decide)]
      unfold X3_passWord
      rw [if_pos (rt_t rt2), rt_p rt2, Option.bind_some, e4, Option.bind_some, Option.bind_some]
      refine ⟨h4, rfl, c12.tr (c3.tr (c4.mo fun a k w => ⟨w.1, by omega, by omega⟩)), by rw [er]; exact g4, ?_, ?_, fun z => by omega⟩
      · rw [c4.gi (by omega), gi_si, if_pos ⟨rfl, rfl⟩, ek]; rfl
      · rw [c4.gi (by omega), gi_si, if_neg (by omega)]; exact g28
    · have h1l' : ltr (B (tB B n i)) = false := by simpa using h1l
      rw [h1l', if_pos (by decide), Option.bind_some, Option.bind_some, rt_ld rt2 (by omega), Option.bind_some, sB_d _ hb, Option.bind_some]
      by_cases h1d : dgt (B (tB B n i)) = true
      · have er : tR B n i = RN (fun j => dgt (B j)) n (tB B n i) := by unfold tR; rw [if_neg h0, if_neg h1l, if_pos h1d]
        have ek : tK B n i = if tR B n i - tB B n i ≤ 2 then 2 else 5 := by unfold tK; rw [if_neg h0, if_neg h1l, if_pos h1d]
        have c3 : ch (Wad r) h2 (si h2 r 9 0) := ch_si ⟨rfl, by omega, by omega⟩
        have rt3 := RT0_ad rt2 c3
        obtain ⟨h4, e4, c4, g4, v4⟩ := pd5 (b := tB B n i) (n - tB B n i) (tB B n i) (si h2 r 9 0) FU rfl b2 (Nat.le_refl _) (FU_gt (by omega)) rt3 (by rw [gi_si, if_neg (by omega)]; exact g26) (by rw [gi_si, if_pos ⟨rfl, rfl⟩, Nat.sub_self]; rfl)
        have rt4 := RT0_ad rt3 (c4.mo fun a k w => ⟨w.1, by omega, by omega⟩)
        have g48 : gi h4 r 8 = nI (tB B n i) := by rw [c4.gi (by omega), gi_si, if_neg (by omega)]; exact g28
        obtain ⟨l1, l2, l3⟩ := tR_le (B := B) hi
        rw [h1d, if_neg (by decide)]
        unfold X3_passDigits
        rw [if_pos (rt_t rt2), rt_p rt2, Option.bind_some, e4, Option.bind_some, rt_I rt4, g4, Option.bind_some, rt_I rt4, g48, Option.bind_some, ← er, nI_sub l1]
        have c14 := c12.tr (c3.tr (c4.mo fun a k w => (⟨w.1, by omega, by omega⟩ : Wad r a k)))
        by_cases h2l : tR B n i - tB B n i ≤ 2
        · rw [if_pos h2l] at ek
          rw [if_neg (show ¬ 2 < nI (tR B n i - tB B n i) from nlt_lit (k := 2) h2l (by omega)), rt_p rt4]
          refine ⟨_, rfl, c14.tr (ch_si ⟨rfl, by omega, by omega⟩), ?_, ?_, ?_, fun _ => ?_⟩
          · rw [gi_si, if_neg (by omega), g4, er]
          · rw [gi_si, if_pos ⟨rfl, rfl⟩, ek]; rfl
          · rw [gi_si, if_neg (by omega)]; exact g48
          · have hlt := l3 (by omega)
            rw [gi_si, if_neg (by omega), v4, ← er]
            have d1 := sB_v _ hb h1d
            unfold tV
            by_cases h3 : tR B n i - tB B n i = 1
            · rw [if_pos h3, h3]
              have := (dv2 (B (tB B n i) - 48) (by omega) 0 (by omega)).1
              rw [show B (tB B n i) - 48 + 48 = B (tB B n i) by omega] at this
              exact ⟨this, by omega⟩
            · rw [if_neg h3, show tR B n i - tB B n i = 2 by omega]
              have hd2 : dgt (B (tB B n i + 1)) = true := (RN_spec (p := fun j => dgt (B j)) (n := n) _ (tB B n i) rfl b2).2.2.2 (tB B n i + 1) (by omega) (by rw [← er]; omega)
              have hb2 := (rt.2.2.2.2.2 (tB B n i + 1) (by omega)).2
              have d2 := sB_v _ hb2 hd2
              have := (dv2 (B (tB B n i) - 48) (by omega) (B (tB B n i + 1) - 48) (by omega)).2
              rw [show B (tB B n i) - 48 + 48 = B (tB B n i) by omega, show B (tB B n i + 1) - 48 + 48 = B (tB B n i + 1) by omega] at this
              exact ⟨this, by omega⟩
        · rw [if_neg h2l] at ek
          rw [if_pos (show 2 < nI (tR B n i - tB B n i) from lt_lit (k := 2) (by omega) (by omega)), rt_p rt4]
          refine ⟨_, rfl, c14.tr (ch_si ⟨rfl, by omega, by omega⟩), ?_, ?_, ?_, fun z => by omega⟩
          · rw [gi_si, if_neg (by omega), g4, er]
          · rw [gi_si, if_pos ⟨rfl, rfl⟩, ek]; rfl
          · rw [gi_si, if_neg (by omega)]; exact g48
      · have h1d' : dgt (B (tB B n i)) = false := by simpa using h1d
        have er : tR B n i = tB B n i + 1 := by unfold tR; rw [if_neg h0, if_neg h1l, if_neg h1d]
        have ek : tK B n i = if B (tB B n i) = 59 then 4 else if B (tB B n i) = 45 then 3 else 5 := by unfold tK; rw [if_neg h0, if_neg h1l, if_neg h1d]
        rw [h1d', if_pos (by decide), Option.bind_some, Option.bind_some, rt_ld rt2 (by omega), Option.bind_some]
        have fin : ∀ k : Nat, tK B n i = k → k ≠ 2 → ∃ h3, ((pI h2 r 4 7 (nI k)).bind fun h32 => (gI h32 r 4 6).bind fun x33 => (pI h32 r 4 6 (x33 + 1)).bind fun h34 => some h34) = some h3 ∧ ch (Wad r) h h3 ∧ gi h3 r 6 = nI (tR B n i) ∧ gi h3 r 7 = nI (tK B n i) ∧ gi h3 r 8 = nI (tB B n i) ∧ (tK B n i = 2 → gi h3 r 9 = nI (tV B n i) ∧ tV B n i < 100) := by
          intro k hk hk2
          have c3 : ch (Wad r) h2 (si h2 r 7 (nI k)) := ch_si ⟨rfl, by omega, by omega⟩
          have rt3 := RT0_ad rt2 c3
          rw [rt_p rt2, Option.bind_some, rt_I rt3, gi_si, if_neg (by omega), g26, Option.bind_some, nI_p1, rt_p rt3]
          refine ⟨_, rfl, c12.tr (c3.tr (ch_si ⟨rfl, by omega, by omega⟩)), ?_, ?_, ?_, fun z => by omega⟩
          · rw [gi_si, if_pos ⟨rfl, rfl⟩, er]
          · rw [gi_si, if_neg (by omega), gi_si, if_pos ⟨rfl, rfl⟩, hk]
          · rw [gi_si, if_neg (by omega), gi_si, if_neg (by omega)]; exact g28
        by_cases h59 : B (tB B n i) = 59
        · rw [if_pos ((sB_59 _ hb).mpr h59)]
          exact fin 4 (by rw [ek, if_pos h59]) (by omega)
        · rw [if_neg (fun z => h59 ((sB_59 _ hb).mp z))]
          by_cases h45 : B (tB B n i) = 45
          · rw [if_pos ((sB_45 _ hb).mpr h45)]
            exact fin 3 (by rw [ek, if_neg h59, if_pos h45]) (by omega)
          · rw [if_neg (fun z => h45 ((sB_45 _ hb).mp z))]
            exact fin 5 (by rw [ek, if_neg h59, if_neg h45]) (by omega)
