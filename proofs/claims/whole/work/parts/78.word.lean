/-! TEXT: words -/
def WDR : List (List Nat) := [[101, 122, 105, 115], [108, 108, 97, 119], [116, 102, 101, 108], [116, 104, 103, 105, 114], [100, 97, 101, 108, 112], [110, 105, 119, 116], [111, 103], [121, 97, 115], [116, 105, 97, 119], [115, 101, 121], [111, 110], [119, 111, 110, 107]]
def wdr (f : Nat) : List Nat := WDR.getD f []
def lsb (B : Nat → Nat) (b : Nat) : Nat → List Nat
  | 0 => []
  | k + 1 => B (b + k) :: lsb B b k
def isWd (B : Nat → Nat) (b r f : Nat) : Bool := decide (lsb B b (r - b) = wdr f)
theorem lst_len (B : Nat → Nat) (b : Nat) : ∀ k, (lsb B b k).length = k := by
  intro k
  induction k with
  | zero => rfl
  | succ k ih => show (lsb B b k).length + 1 = k + 1; rw [ih]
theorem lst_iff (B : Nat → Nat) (b : Nat) : ∀ (k : Nat) (l : List Nat), l.length = k → (lsb B b k = l ↔ ∀ j, j < k → B (b + j) = l.getD (k - 1 - j) 0) := by
  intro k
  induction k with
  | zero =>
    intro l hl
    have : l = [] := List.eq_nil_of_length_eq_zero hl
    subst this
    exact ⟨fun _ j hj => by omega, fun _ => rfl⟩
  | succ k ih =>
    intro l hl
    cases l with
    | nil => simp at hl
    | cons c l =>
      have hl' : l.length = k := by simpa using hl
      show B (b + k) :: lsb B b k = c :: l ↔ _
      rw [List.cons.injEq, ih l hl']
      constructor
      · rintro ⟨h1, h2⟩ j hj
        by_cases e : j = k
        · subst e
          rw [show j + 1 - 1 - j = 0 by omega]; exact h1
        · rw [show k + 1 - 1 - j = (k - 1 - j) + 1 by omega]
          exact h2 j (by omega)
      · intro h
        refine ⟨?_, fun j hj => ?_⟩
        · have := h k (by omega)
          rw [show k + 1 - 1 - k = 0 by omega] at this; exact this
        · have := h j (by omega)
          rw [show k + 1 - 1 - j = (k - 1 - j) + 1 by omega] at this; exact this
theorem wd_len : ∀ f, f < 12 → 1 ≤ (wdr f).length ∧ (wdr f).length ≤ 5 ∧ txl f = some (nI (wdr f).length) := by decide +kernel
theorem wd_c : ∀ f, f < 12 → ∀ k, k < 5 → k < (wdr f).length → txc f (nI k) = some (nI ((wdr f).getD ((wdr f).length - 1 - k) 0)) ∧ (wdr f).getD ((wdr f).length - 1 - k) 0 < 128 := by decide +kernel
theorem wd_f : ∀ f, f < 12 → X3_wordOf (nI f) = some f := by decide +kernel
theorem sB_hi : ∀ i, i < 256 → 128 ≤ i → sB i < 0 := by decide +kernel
theorem sB_eq {i w : Nat} (hi : i < 256) (hw : w < 128) : sB i = nI w ↔ i = w := by
  by_cases h : i < 128
  · rw [sB_w i h]
    exact ⟨fun z => nI_inj (by omega) (by omega) z, fun z => by rw [z]⟩
  · have h1 := sB_hi i hi (by omega)
    refine ⟨fun z => ?_, fun z => by omega⟩
    rw [z] at h1
    exact absurd h1 (nI_lt0 (by omega))
theorem here20 {h : HA} {r tp n b f : Nat} {B : Nat → Nat} (rt : RT0 h r tp n B) (hg : gi h r 8 = nI b) (hf : f < 12) (hb : b + (wdr f).length ≤ n) : X3_isHere_L20 h r f FU 0 = some (bI (decide (lsb B b (wdr f).length = wdr f))) := by
  obtain ⟨w1, w2, w3⟩ := wd_len f hf
  have hn := rt.2.2.2.2.1
  obtain ⟨L, hL⟩ : ∃ L, L = (wdr f).length := ⟨_, rfl⟩
  have hiff := lst_iff B b L (wdr f) hL.symm
  have walk : ∀ d k fu, k + d = L → d < fu → (∀ j, j < k → B (b + j) = (wdr f).getD (L - 1 - j) 0) → X3_isHere_L20 h r f fu (nI k) = some (bI (decide (lsb B b L = wdr f))) := by
    intro d
    induction d with
    | zero =>
      intro k fu hk hfu hj
      obtain ⟨g, rfl⟩ : ∃ g, fu = g + 1 := ⟨fu - 1, by omega⟩
      have : k = L := by omega
      subst this
      rw [X3_isHere_L20, w3, ← hL, Option.bind_some, if_neg (nlt_lit (Nat.le_refl _) (by omega)), decide_eq_true (hiff.mpr hj)]; rfl
    | succ d ih =>
      intro k fu hk hfu hj
      obtain ⟨g, rfl⟩ : ∃ g, fu = g + 1 := ⟨fu - 1, by omega⟩
      have hb2 := (rt.2.2.2.2.2 (b + k) (by omega)).2
      obtain ⟨c1, c2⟩ := wd_c f hf k (by omega) (by omega)
      rw [← hL] at c1 c2
      rw [X3_isHere_L20, w3, ← hL, Option.bind_some, if_pos (lt_lit (by omega) (by omega)), rt_4 rt, Option.bind_some, rt_I rt, hg, Option.bind_some, nI_add, rt_ld rt (by omega), Option.bind_some, c1, Option.bind_some]
      by_cases e : B (b + k) = (wdr f).getD (L - 1 - k) 0
      · rw [if_pos ((sB_eq hb2 c2).mpr e), nI_p1]
        exact ih (k + 1) g (by omega) (by omega) (fun j h2 => by
          by_cases ej : j = k
          · rw [ej]; exact e
          · exact hj j (by omega))
      · rw [if_neg (fun z => e ((sB_eq hb2 c2).mp z)), decide_eq_false (fun z => e (hiff.mp z k (by omega)))]; rfl
  rw [← hL]
  exact walk L 0 FU (by omega) (FU_gt (by omega)) (fun j hj => by omega)
theorem isHere_c {h : HA} {r tp n i f : Nat} {B : Nat → Nat} (rt : RT0 h r tp n B) (tc : TC h r n B i) (hi : i ≤ n) (hf : f < 12) : X3_isHere h r f = some (bI (isWd B (tB B n i) (tR B n i) f)) := by
  obtain ⟨t1, t2, t3, _⟩ := tc
  obtain ⟨l1, l2, _⟩ := tR_le (B := B) hi
  obtain ⟨w1, w2, w3⟩ := wd_len f hf
  have hn := rt.2.2.2.2.1
  unfold X3_isHere
  rw [if_pos (rt_t rt), rt_I rt, t1, Option.bind_some, rt_I rt, t3, Option.bind_some, w3, Option.bind_some, nI_sub l1]
  unfold isWd
  by_cases e : tR B n i - tB B n i = (wdr f).length
  · rw [if_pos (by rw [e]), here20 rt t3 hf (by omega), e]
  · rw [if_neg (fun z => e (nI_inj (by omega) (by omega) z)), decide_eq_false]
    · rfl
    · intro z
      apply e
      rw [← z, lst_len]
/-- of each form: its sort, how many numbers, what heads its row -/
def fsr (f : Nat) : Nat := if f < 6 then 0 else if f < 9 then 1 else if f < 11 then 2 else 3
def fnm (f : Nat) : Nat := [2, 1, 4, 4, 1, 2, 2, 3, 0, 2, 2, 2].getD f 0
def fhd (f : Nat) : Nat := [0, 0, 0, 1, 0, 0, 0, 1, 2, 1, 0, 0].getD f 0
def fgr (f k : Nat) : Nat := [8, 8, 0, 0, 63, 0, 0, 0, 63, 3, 9, 3, 63, 3, 9, 3, 63, 0, 0, 0, 3, 63, 0, 0, 3, 3, 0, 0, 3, 9, 9, 0, 0, 0, 0, 0, 9, 9, 0, 0, 9, 9, 0, 0, 5, 9, 0, 0].getD (4 * f + k) 0
theorem sl_s : ∀ f, f < 12 → sld 0 (nI f) = some (nI (fsr f)) := by decide +kernel
theorem sl_n : ∀ f, f < 12 → sld 1 (nI f) = some (nI (fnm f)) := by decide +kernel
theorem sl_h : ∀ f, f < 12 → sld 2 (nI f) = some (nI (fhd f)) := by decide +kernel
theorem sl_g : ∀ f, f < 12 → ∀ k, k < 4 → sld 3 (nI f * 4 + nI k) = some (nI (fgr f k)) := by decide +kernel
/-- the form that begins here; 1000 if none does -/
def fmO (s : Nat) (B : Nat → Nat) (n i : Nat) : Nat := if tK B n i = 1 then fst1 (fun f => decide (fsr f = s) && isWd B (tB B n i) (tR B n i) f) 12 0 else 1000
theorem fmO_c (s : Nat) (B : Nat → Nat) (n i : Nat) : fmO s B n i = 1000 ∨ (fmO s B n i < 12 ∧ fsr (fmO s B n i) = s ∧ isWd B (tB B n i) (tR B n i) (fmO s B n i) = true ∧ tK B n i = 1) := by
  unfold fmO
  by_cases h : tK B n i = 1
  · rw [if_pos h]
    rcases fst1_spec (fun f => decide (fsr f = s) && isWd B (tB B n i) (tR B n i) f) 12 0 with ⟨j, _, h2, h3, _, h5⟩ | ⟨_, h2⟩
    · right
      rw [h5]
      simp at h3
      exact ⟨by omega, h3.1, h3.2, h⟩
    · left; exact h2
  · left; rw [if_neg h]
theorem formHere_c {h : HA} {r tp n i s : Nat} {B : Nat → Nat} (rt : RT0 h r tp n B) (tc : TC h r n B i) (hi : i ≤ n) (hs : s < 4) : X3_formHere h r (nI s) = some (if fmO s B n i = 1000 then -1 else nI (fmO s B n i)) := by
  have hk5 : tK B n i < 6 := by unfold tK; repeat' split
                                all_goals omega
  unfold X3_formHere
  rw [if_pos (rt_t rt), rt_I rt, tc.2.1, Option.bind_some]
  unfold fmO
  by_cases h1 : tK B n i = 1
  · rw [if_pos (by rw [h1]; rfl), if_pos h1]
    have step : ∀ f fu, f < 12 → X3_formHere_L10 h r (nI s) (fu + 1) (nI f) = if (decide (fsr f = s) && isWd B (tB B n i) (tR B n i) f) = true then some (nI f) else X3_formHere_L10 h r (nI s) fu (nI (f + 1)) := by
      intro f fu hf
      have hfs : fsr f < 4 := by unfold fsr; repeat' split
                                 all_goals omega
      rw [X3_formHere_L10, if_pos (show nI f < 12 from lt_lit (n := 12) hf (by omega)), sl_s f hf, Option.bind_some, nI_p1]
      by_cases e : fsr f = s
      · rw [if_pos (by rw [e]), wd_f f hf, Option.bind_some, isHere_c rt tc hi hf, Option.bind_some, decide_eq_true e, Bool.true_and]
        cases isWd B (tB B n i) (tR B n i) f <;> rfl
      · rw [if_neg (fun z => e (nI_inj (by omega) (by omega) z)), decide_eq_false e]; rfl
    have walk : ∀ d f fu, f + d = 12 → d < fu → X3_formHere_L10 h r (nI s) fu (nI f) = some (if fst1 (fun f => decide (fsr f = s) && isWd B (tB B n i) (tR B n i) f) d f = 1000 then -1 else nI (fst1 (fun f => decide (fsr f = s) && isWd B (tB B n i) (tR B n i) f) d f)) := by
      intro d
      induction d with
      | zero =>
        intro f fu hf hfu
        obtain ⟨g, rfl⟩ : ∃ g, fu = g + 1 := ⟨fu - 1, by omega⟩
        rw [X3_formHere_L10, show f = 12 by omega, if_neg (by decide)]; rfl
      | succ d ih =>
        intro f fu hf hfu
        obtain ⟨g, rfl⟩ : ∃ g, fu = g + 1 := ⟨fu - 1, by omega⟩
        rw [step f g (by omega), fst1]
        by_cases e : (decide (fsr f = s) && isWd B (tB B n i) (tR B n i) f) = true
        · rw [if_pos e, if_pos e, if_neg (by omega)]
        · rw [if_neg e, if_neg e]
          exact ih (f + 1) g (by omega) (by omega)
    exact walk 12 0 FU (by omega) (FU_gt (by omega))
  · rw [if_neg (show ¬ nI (tK B n i) = 1 from fun z => h1 (nI_inj (b := 1) (by omega) (by omega) z)), if_neg h1, if_pos rfl]
/-! the model's words -/
def vr : List Nat → Nat
  | [] => 0
  | c :: l => c + 256 * vr l
theorem vr_inj : ∀ (l l' : List Nat), (∀ x, x ∈ l → 1 ≤ x ∧ x < 256) → (∀ x, x ∈ l' → 1 ≤ x ∧ x < 256) → vr l = vr l' → l = l' := by
  intro l
  induction l with
  | nil =>
    intro l' _ h2 h
    cases l' with
    | nil => rfl
    | cons c l' => have := h2 c List.mem_cons_self; have h' : 0 = c + 256 * vr l' := h; omega
  | cons c l ih =>
    intro l' h1 h2 h
    cases l' with
    | nil => have := h1 c List.mem_cons_self; have h' : c + 256 * vr l = 0 := h; omega
    | cons d l' =>
      have a1 := h1 c List.mem_cons_self
      have a2 := h2 d List.mem_cons_self
      have h' : c + 256 * vr l = d + 256 * vr l' := h
      have e1 : c = d := by omega
      have e2 : vr l = vr l' := by omega
      rw [e1, ih l' (fun x hx => h1 x (List.mem_cons_of_mem _ hx)) (fun x hx => h2 x (List.mem_cons_of_mem _ hx)) e2]
theorem vr_lt : ∀ (l : List Nat), (∀ x, x ∈ l → x < 128) → l.length ≤ 8 → vr l < 128 * 256 ^ (l.length - 1) := by
  intro l
  induction l with
  | nil => intro _ _; show 0 < _; decide
  | cons c l ih =>
    intro h1 h2
    have a1 := h1 c List.mem_cons_self
    have a2 := ih (fun x hx => h1 x (List.mem_cons_of_mem _ hx)) (by simp at h2; omega)
    cases l with
    | nil => show c + 256 * 0 < 128 * 256 ^ 0; omega
    | cons d l =>
      show c + 256 * vr (d :: l) < 128 * 256 ^ (l.length + 1)
      have a3 : vr (d :: l) < 128 * 256 ^ l.length := a2
      rw [Nat.pow_succ]
      omega
theorem sh8 {a y : Nat} (ha : a < 2 ^ 55) (hy : y < 256) : shlJ (nJ a) 8 ||| (nI y).toInt64 = nJ (y + 256 * a) := by
  have e1 : ∀ y, y < 256 → (nI y).toInt64 = nJ y := by decide +kernel
  rw [e1 y hy]
  apply tb_ext
  intro f hf
  rw [tb_or, show (8 : Int32) = nI 8 from rfl, tb_shl _ (by omega), nJ_tb (by omega), nJ_tb (by omega), nJ_tb (by omega), show y + 256 * a = 2 ^ 8 * a + y by omega, Nat.testBit_two_pow_mul_add a (show y < 2 ^ 8 by omega) f]
  by_cases h : f < 8
  · rw [if_pos h, decide_eq_false (show ¬ 8 ≤ f by omega), Bool.and_false, Bool.false_and, Bool.false_or]
  · rw [if_neg h, Nat.testBit_lt_two_pow (show y < 2 ^ f by have : 2 ^ 8 ≤ 2 ^ f := Nat.pow_le_pow_right (by omega) (by omega)
                                                            omega)]
    simp [hf]; omega
theorem wv_lst (B : Nat → Nat) (b : Nat) : ∀ k, k ≤ 8 → (∀ j, j < k → B (b + j) < 128) → wvM B b k = nJ (vr (lsb B b k)) ∧ ∀ x, x ∈ lsb B b k → x < 128 := by
  intro k
  induction k with
  | zero => intro _ _; exact ⟨rfl, fun x hx => by simp [lsb] at hx⟩
  | succ k ih =>
    intro hk hb
    obtain ⟨h1, h2⟩ := ih (by omega) (fun j hj => hb j (by omega))
    have h3 := hb k (by omega)
    have h4 := vr_lt _ h2 (by rw [lst_len]; omega)
    rw [lst_len] at h4
    have h5 : 256 ^ (k - 1) ≤ 256 ^ 6 := Nat.pow_le_pow_right (by omega) (by omega)
    refine ⟨?_, fun x hx => ?_⟩
    · rw [wvM, h1, sh8 (by omega) (by omega)]; rfl
    · rcases List.mem_cons.mp hx with e | e
      · rw [e]; exact h3
      · exact h2 x e
theorem nJ_inj {a c : Nat} (ha : a < 2 ^ 63) (hc : c < 2 ^ 63) (h : nJ a = nJ c) : a = c := by
  apply Nat.eq_of_testBit_eq
  intro f
  have this : tb (nJ a) f = tb (nJ c) f := by rw [h]
  rw [nJ_tb (by omega), nJ_tb (by omega)] at this
  exact this
theorem wd_ok : ∀ f, f < 12 → (∀ x, x ∈ wdr f → 97 ≤ x ∧ x < 123) ∧ vr (wdr f) < 2 ^ 63 ∧ 0 < vr (wdr f) := by decide +kernel
theorem lst_l {B : Nat → Nat} {n i : Nat} (hi : i ≤ n) (hk : tK B n i = 1) : ∀ j, tB B n i ≤ j → j < tR B n i → ltr (B j) = true := by
  obtain ⟨b1, b2⟩ := tB_le (B := B) hi
  have h0 : ¬ n ≤ tB B n i := fun z => by unfold tK at hk; rw [if_pos z] at hk; omega
  have h1 : ltr (B (tB B n i)) = true := by
    cases hl : ltr (B (tB B n i)) with
    | true => rfl
    | false =>
      unfold tK at hk
      rw [if_neg h0, hl, if_neg (by decide)] at hk
      revert hk
      repeat' split
      all_goals intro hk; omega
  have er : tR B n i = RN (fun j => ltr (B j)) n (tB B n i) := by unfold tR; rw [if_neg h0, if_pos h1]
  rw [er]
  exact (RN_spec (p := fun j => ltr (B j)) (n := n) _ (tB B n i) rfl b2).2.2.2
/-- the word that the model goes by: that of form f just when it is written -/
theorem wdM_iff {B : Nat → Nat} {n i f : Nat} (hi : i ≤ n) (hk : tK B n i = 1) (hf : f < 12) : wdM B n i = nJ (vr (wdr f)) ↔ isWd B (tB B n i) (tR B n i) f = true := by
  have hl := lst_l hi hk
  obtain ⟨l1, l2, l3⟩ := tR_le (B := B) hi
  have l4 := l3 (by omega)
  obtain ⟨o1, o2, o3⟩ := wd_ok f hf
  obtain ⟨w1, w2, _⟩ := wd_len f hf
  unfold wdM isWd
  rw [decide_eq_true_eq]
  have hlt : ∀ j, j < tR B n i - tB B n i → B (tB B n i + j) < 128 ∧ 97 ≤ B (tB B n i + j) := fun j hj => by
    have := hl (tB B n i + j) (by omega) (by omega)
    unfold ltr at this
    simp at this
    omega
  by_cases h8 : 8 < tR B n i - tB B n i
  · rw [if_pos h8]
    constructor
    · intro z
      have := nJ_inj (a := 0) (by omega) o2 z
      omega
    · intro z
      have := congrArg List.length z
      rw [lst_len] at this
      omega
  · rw [if_neg h8]
    obtain ⟨v1, v2⟩ := wv_lst B (tB B n i) (tR B n i - tB B n i) (by omega) (fun j hj => (hlt j hj).1)
    have v3 : ∀ k, k ≤ tR B n i - tB B n i → ∀ x, x ∈ lsb B (tB B n i) k → 1 ≤ x ∧ x < 256 := by
      intro k
      induction k with
      | zero => intro _ x hx; simp [lsb] at hx
      | succ k ih =>
        intro hk x hx
        rcases List.mem_cons.mp hx with e | e
        · have := hlt k (by omega); omega
        · exact ih (by omega) x e
    have v4 := vr_lt _ v2 (by rw [lst_len]; omega)
    rw [lst_len] at v4
    have h5 : 256 ^ (tR B n i - tB B n i - 1) ≤ 256 ^ 7 := Nat.pow_le_pow_right (by omega) (by omega)
    rw [v1]
    constructor
    · intro z
      exact vr_inj _ _ (v3 _ (Nat.le_refl _)) (fun x hx => by have := o1 x hx; omega) (nJ_inj (by omega) o2 z)
    · intro z; rw [z]
