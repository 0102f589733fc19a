/-! TEXT: the model reads a line, of any sort -/
theorem wlp_GT {B : Nat → Nat} {n : Nat} : ∀ d (σ : ZS), zG (wlp B n d σ) = zG σ ∧ zT (wlp B n d σ) = zT σ := by
  intro d
  induction d with
  | zero => intro σ; exact ⟨rfl, rfl⟩
  | succ d ih =>
    intro σ
    rw [wlp]
    by_cases hk : tK B n (zi σ) = 2
    · rw [if_pos hk]
      obtain ⟨y, ey⟩ := slot_wall hk
      rw [ey]
      obtain ⟨_, b2, b3⟩ := slot_C ey
      obtain ⟨a1, a2⟩ := ih y.1
      exact ⟨a1.trans b2, a2.trans b3⟩
    · rw [if_neg hk]; exact ⟨rfl, rfl⟩
theorem kp_w (v : Nat → Int32) (ρ : ZS) : kp 1 v ρ = ρ := by
  have e : kp 1 v ρ = (zi ρ, ρ.2.1, zF ρ, zG ρ, zC ρ, zT ρ) := by
    unfold kp kpC
    rw [if_neg (show ¬ (1 = 5 ∧ tn (v 0) < 4) by omega), if_neg (show ¬ (1 = 5 ∧ tn (v 0) < 4) by omega), if_neg (show ¬ 1 = 0 by omega), if_pos (show 1 = 1 from rfl)]
    cases tmy 1 (zC ρ)
    · rw [if_neg (by decide)]
    · rw [if_pos rfl]
  rw [e]; rfl
theorem tmy_0 (C : CR) : tmy 0 C = false ∧ tmy 1 C = false ∧ tmy 5 C = false := by
  refine ⟨?_, ?_, ?_⟩ <;> (unfold tmy; rw [if_neg (by omega), if_neg (by omega), if_pos (by omega)])
theorem court0_n {h : HA} {m n : Nat} {B : Nat → Nat} {σ : ZS} (y : MZ h m n B σ) (hP : PJ B n 0 σ) (hk : tK B n (zi σ) ≠ 0) : ML h m n B 0 σ (X8_courtLine h m 1936292453 (nI (tB B n (zi σ)))) := by
  obtain ⟨g2, f2, c2, y2, P2⟩ := start_0 (f := 0) y hP hk (by exact (tmy_0 _).1)
  refine ML_of (by omega) ?_
  show match slots B n 0 2 0 (snM B n 0 σ) (fun _ => -1) with | .inl q => _ | .inr z => _
  have msy : MS h m := y.1.1.1
  have J := size_n y2 P2
  unfold X8_courtLine
  rw [if_pos (ms_c msy)]
  dsimp only [lett]
  repeat rw [if_pos (show (1936292453 : Int64) = 1936292453 from rfl)]
  repeat rw [if_neg (show ¬ (1936292453 : Int64) = 2002873452 by decide +kernel)]
  repeat rw [if_neg (show ¬ (1936292453 : Int64) = 1818584692 by decide +kernel)]
  repeat rw [if_neg (show ¬ (1936292453 : Int64) = 491394656372 by decide +kernel)]
  repeat rw [if_neg (show ¬ (1936292453 : Int64) = 482854920548 by decide +kernel)]
  repeat rw [if_neg (show ¬ (1936292453 : Int64) = 1953982830 by decide +kernel)]
  repeat rw [if_pos (show (0 : Int32) = 0 from rfl)]
  rw [Option.bind_some]
  dsimp only
  repeat rw [if_pos (show (1936292453 : Int64) = 1936292453 from rfl)]
  repeat rw [if_neg (show ¬ (1936292453 : Int64) = 2002873452 by decide +kernel)]
  repeat rw [if_neg (show ¬ (1936292453 : Int64) = 1818584692 by decide +kernel)]
  repeat rw [if_neg (show ¬ (1936292453 : Int64) = 491394656372 by decide +kernel)]
  repeat rw [if_neg (show ¬ (1936292453 : Int64) = 482854920548 by decide +kernel)]
  repeat rw [if_neg (show ¬ (1936292453 : Int64) = 1953982830 by decide +kernel)]
  repeat rw [if_pos (show (0 : Int32) = 0 from rfl)]
  rw [Option.bind_some, f2, Option.bind_some]
  repeat rw [if_pos (show (1936292453 : Int64) = 1936292453 from rfl)]
  repeat rw [if_neg (show ¬ (1936292453 : Int64) = 2002873452 by decide +kernel)]
  repeat rw [if_neg (show ¬ (1936292453 : Int64) = 1818584692 by decide +kernel)]
  repeat rw [if_neg (show ¬ (1936292453 : Int64) = 491394656372 by decide +kernel)]
  repeat rw [if_neg (show ¬ (1936292453 : Int64) = 482854920548 by decide +kernel)]
  repeat rw [if_neg (show ¬ (1936292453 : Int64) = 1953982830 by decide +kernel)]
  repeat rw [if_pos (show (0 : Int32) = 0 from rfl)]
  cases es : slots B n 0 2 0 (snM B n 0 σ) (fun _ => -1) with
  | inl q =>
    rw [es] at J
    obtain ⟨h9, f9, c9, g9⟩ := J
    dsimp only
    rw [show X8_sizeLine g2 m = _ from f9, Option.bind_some]
    dsimp only
    rw [bz0, Option.bind_some]
    exact ⟨h9, rfl, c2.tr c9, g9⟩
  | inr z =>
    rw [es] at J
    obtain ⟨h9, f9, c9, y9⟩ := J
    dsimp only
    rw [show X8_sizeLine g2 m = _ from f9, Option.bind_some]
    dsimp only
    rw [bz1, Option.bind_some]
    exact ⟨h9, rfl, c2.tr c9, y9⟩
theorem court5_n {h : HA} {m n : Nat} {B : Nat → Nat} {σ : ZS} (y : MZ h m n B σ) (hP : PJ B n 0 σ) (hk : tK B n (zi σ) ≠ 0) : ML h m n B 5 σ (X8_courtLine h m 1953982830 (nI (tB B n (zi σ)))) := by
  obtain ⟨g2, f2, c2, y2, P2⟩ := start_0 (f := 5) y hP hk (by exact (tmy_0 _).2.2)
  refine ML_of (by omega) ?_
  show match slots B n 5 2 0 (snM B n 5 σ) (fun _ => -1) with | .inl q => _ | .inr z => _
  have msy : MS h m := y.1.1.1
  have J := twin_n y2 P2
  unfold X8_courtLine
  rw [if_pos (ms_c msy)]
  dsimp only [lett]
  repeat rw [if_pos (show (1953982830 : Int64) = 1953982830 from rfl)]
  repeat rw [if_neg (show ¬ (1953982830 : Int64) = 1936292453 by decide +kernel)]
  repeat rw [if_neg (show ¬ (1953982830 : Int64) = 2002873452 by decide +kernel)]
  repeat rw [if_neg (show ¬ (1953982830 : Int64) = 1818584692 by decide +kernel)]
  repeat rw [if_neg (show ¬ (1953982830 : Int64) = 491394656372 by decide +kernel)]
  repeat rw [if_neg (show ¬ (1953982830 : Int64) = 482854920548 by decide +kernel)]
  repeat rw [if_pos (show (0 : Int32) = 0 from rfl)]
  rw [Option.bind_some]
  dsimp only
  repeat rw [if_pos (show (1953982830 : Int64) = 1953982830 from rfl)]
  repeat rw [if_neg (show ¬ (1953982830 : Int64) = 1936292453 by decide +kernel)]
  repeat rw [if_neg (show ¬ (1953982830 : Int64) = 2002873452 by decide +kernel)]
  repeat rw [if_neg (show ¬ (1953982830 : Int64) = 1818584692 by decide +kernel)]
  repeat rw [if_neg (show ¬ (1953982830 : Int64) = 491394656372 by decide +kernel)]
  repeat rw [if_neg (show ¬ (1953982830 : Int64) = 482854920548 by decide +kernel)]
  repeat rw [if_pos (show (0 : Int32) = 0 from rfl)]
  rw [Option.bind_some, f2, Option.bind_some]
  repeat rw [if_pos (show (1953982830 : Int64) = 1953982830 from rfl)]
  repeat rw [if_neg (show ¬ (1953982830 : Int64) = 1936292453 by decide +kernel)]
  repeat rw [if_neg (show ¬ (1953982830 : Int64) = 2002873452 by decide +kernel)]
  repeat rw [if_neg (show ¬ (1953982830 : Int64) = 1818584692 by decide +kernel)]
  repeat rw [if_neg (show ¬ (1953982830 : Int64) = 491394656372 by decide +kernel)]
  repeat rw [if_neg (show ¬ (1953982830 : Int64) = 482854920548 by decide +kernel)]
  repeat rw [if_pos (show (0 : Int32) = 0 from rfl)]
  cases es : slots B n 5 2 0 (snM B n 5 σ) (fun _ => -1) with
  | inl q =>
    rw [es] at J
    obtain ⟨h9, f9, c9, g9⟩ := J
    dsimp only
    rw [show X8_twinLine g2 m = _ from f9, Option.bind_some]
    dsimp only
    rw [bz0, Option.bind_some]
    exact ⟨h9, rfl, c2.tr c9, g9⟩
  | inr z =>
    rw [es] at J
    obtain ⟨h9, f9, c9, y9⟩ := J
    dsimp only
    rw [show X8_twinLine g2 m = _ from f9, Option.bind_some]
    dsimp only
    rw [bz1, Option.bind_some]
    exact ⟨h9, rfl, c2.tr c9, y9⟩
theorem court2_n {h : HA} {m n : Nat} {B : Nat → Nat} {σ : ZS} (y : MZ h m n B σ) (hP : PJ B n 0 σ) (hk : tK B n (zi σ) ≠ 0) : ML h m n B 2 σ (X8_courtLine h m 1818584692 (nI (tB B n (zi σ)))) := by
  obtain ⟨q1, q2, q3, q4⟩ := hP.2.2.2.1 rfl
  obtain ⟨g1, g2, f1, f2, c2, y2, P2⟩ := start_n (f := 2) (ci := 2) (most := 6) y hP hk (by omega) q1 q2 (by omega) (by unfold tmy; rw [if_pos (by omega)])
  refine ML_of (by omega) ?_
  show match slots B n 2 4 0 (snM B n 2 σ) (fun _ => -1) with | .inl q => _ | .inr z => _
  have msy : MS h m := y.1.1.1
  have J := judge_n (f := 2) (by omega) y2 P2 q2 q1
  unfold X8_courtLine
  rw [if_pos (ms_c msy)]
  dsimp only [lett]
  repeat rw [if_pos (show (1818584692 : Int64) = 1818584692 from rfl)]
  repeat rw [if_neg (show ¬ (1818584692 : Int64) = 1936292453 by decide +kernel)]
  repeat rw [if_neg (show ¬ (1818584692 : Int64) = 2002873452 by decide +kernel)]
  repeat rw [if_neg (show ¬ (1818584692 : Int64) = 491394656372 by decide +kernel)]
  repeat rw [if_neg (show ¬ (1818584692 : Int64) = 482854920548 by decide +kernel)]
  repeat rw [if_neg (show ¬ (1818584692 : Int64) = 1953982830 by decide +kernel)]
  repeat rw [if_neg (show ¬ (1 : Int32) = 0 by decide)]
  rw [Option.bind_some]
  dsimp only
  repeat rw [if_pos (show (1818584692 : Int64) = 1818584692 from rfl)]
  repeat rw [if_neg (show ¬ (1818584692 : Int64) = 1936292453 by decide +kernel)]
  repeat rw [if_neg (show ¬ (1818584692 : Int64) = 2002873452 by decide +kernel)]
  repeat rw [if_neg (show ¬ (1818584692 : Int64) = 491394656372 by decide +kernel)]
  repeat rw [if_neg (show ¬ (1818584692 : Int64) = 482854920548 by decide +kernel)]
  repeat rw [if_neg (show ¬ (1818584692 : Int64) = 1953982830 by decide +kernel)]
  repeat rw [if_neg (show ¬ (1 : Int32) = 0 by decide)]
  rw [show X8_full h m 2 6 (nI (tB B n (zi σ))) = _ from f1, Option.bind_some, Option.bind_some, f2, Option.bind_some]
  repeat rw [if_pos (show (1818584692 : Int64) = 1818584692 from rfl)]
  repeat rw [if_neg (show ¬ (1818584692 : Int64) = 1936292453 by decide +kernel)]
  repeat rw [if_neg (show ¬ (1818584692 : Int64) = 2002873452 by decide +kernel)]
  repeat rw [if_neg (show ¬ (1818584692 : Int64) = 491394656372 by decide +kernel)]
  repeat rw [if_neg (show ¬ (1818584692 : Int64) = 482854920548 by decide +kernel)]
  repeat rw [if_neg (show ¬ (1818584692 : Int64) = 1953982830 by decide +kernel)]
  repeat rw [if_neg (show ¬ (1 : Int32) = 0 by decide)]
  cases es : slots B n 2 4 0 (snM B n 2 σ) (fun _ => -1) with
  | inl q =>
    rw [es] at J
    obtain ⟨h9, f9, c9, g9⟩ := J
    dsimp only
    rw [show X8_judgeLine g2 m 0 = _ from f9, Option.bind_some]
    dsimp only
    rw [bz0, Option.bind_some]
    exact ⟨h9, rfl, c2.tr c9, g9⟩
  | inr z =>
    rw [es] at J
    obtain ⟨h9, f9, c9, y9⟩ := J
    dsimp only
    rw [show X8_judgeLine g2 m 0 = _ from f9, Option.bind_some]
    dsimp only
    rw [bz1, Option.bind_some]
    exact ⟨h9, rfl, c2.tr c9, y9⟩
theorem court3_n {h : HA} {m n : Nat} {B : Nat → Nat} {σ : ZS} (y : MZ h m n B σ) (hP : PJ B n 0 σ) (hk : tK B n (zi σ) ≠ 0) : ML h m n B 3 σ (X8_courtLine h m 491394656372 (nI (tB B n (zi σ)))) := by
  obtain ⟨q1, q2, q3, q4⟩ := hP.2.2.2.1 rfl
  obtain ⟨g1, g2, f1, f2, c2, y2, P2⟩ := start_n (f := 3) (ci := 2) (most := 6) y hP hk (by omega) q1 q2 (by omega) (by unfold tmy; rw [if_pos (by omega)])
  refine ML_of (by omega) ?_
  show match slots B n 3 4 0 (snM B n 3 σ) (fun _ => -1) with | .inl q => _ | .inr z => _
  have msy : MS h m := y.1.1.1
  have J := judge_n (f := 3) (by omega) y2 P2 q2 q1
  unfold X8_courtLine
  rw [if_pos (ms_c msy)]
  dsimp only [lett]
  repeat rw [if_pos (show (491394656372 : Int64) = 491394656372 from rfl)]
  repeat rw [if_neg (show ¬ (491394656372 : Int64) = 1936292453 by decide +kernel)]
  repeat rw [if_neg (show ¬ (491394656372 : Int64) = 2002873452 by decide +kernel)]
  repeat rw [if_neg (show ¬ (491394656372 : Int64) = 1818584692 by decide +kernel)]
  repeat rw [if_neg (show ¬ (491394656372 : Int64) = 482854920548 by decide +kernel)]
  repeat rw [if_neg (show ¬ (491394656372 : Int64) = 1953982830 by decide +kernel)]
  repeat rw [if_neg (show ¬ (1 : Int32) = 0 by decide)]
  rw [Option.bind_some]
  dsimp only
  repeat rw [if_pos (show (491394656372 : Int64) = 491394656372 from rfl)]
  repeat rw [if_neg (show ¬ (491394656372 : Int64) = 1936292453 by decide +kernel)]
  repeat rw [if_neg (show ¬ (491394656372 : Int64) = 2002873452 by decide +kernel)]
  repeat rw [if_neg (show ¬ (491394656372 : Int64) = 1818584692 by decide +kernel)]
  repeat rw [if_neg (show ¬ (491394656372 : Int64) = 482854920548 by decide +kernel)]
  repeat rw [if_neg (show ¬ (491394656372 : Int64) = 1953982830 by decide +kernel)]
  repeat rw [if_neg (show ¬ (1 : Int32) = 0 by decide)]
  rw [show X8_full h m 2 6 (nI (tB B n (zi σ))) = _ from f1, Option.bind_some, Option.bind_some, f2, Option.bind_some]
  repeat rw [if_pos (show (491394656372 : Int64) = 491394656372 from rfl)]
  repeat rw [if_neg (show ¬ (491394656372 : Int64) = 1936292453 by decide +kernel)]
  repeat rw [if_neg (show ¬ (491394656372 : Int64) = 2002873452 by decide +kernel)]
  repeat rw [if_neg (show ¬ (491394656372 : Int64) = 1818584692 by decide +kernel)]
  repeat rw [if_neg (show ¬ (491394656372 : Int64) = 482854920548 by decide +kernel)]
  repeat rw [if_neg (show ¬ (491394656372 : Int64) = 1953982830 by decide +kernel)]
  repeat rw [if_neg (show ¬ (1 : Int32) = 0 by decide)]
  cases es : slots B n 3 4 0 (snM B n 3 σ) (fun _ => -1) with
  | inl q =>
    rw [es] at J
    obtain ⟨h9, f9, c9, g9⟩ := J
    dsimp only
    rw [show X8_judgeLine g2 m 1 = _ from f9, Option.bind_some]
    dsimp only
    rw [bz0, Option.bind_some]
    exact ⟨h9, rfl, c2.tr c9, g9⟩
  | inr z =>
    rw [es] at J
    obtain ⟨h9, f9, c9, y9⟩ := J
    dsimp only
    rw [show X8_judgeLine g2 m 1 = _ from f9, Option.bind_some]
    dsimp only
    rw [bz1, Option.bind_some]
    exact ⟨h9, rfl, c2.tr c9, y9⟩
theorem court4_n {h : HA} {m n : Nat} {B : Nat → Nat} {σ : ZS} (y : MZ h m n B σ) (hP : PJ B n 0 σ) (hk : tK B n (zi σ) ≠ 0) : ML h m n B 4 σ (X8_courtLine h m 482854920548 (nI (tB B n (zi σ)))) := by
  obtain ⟨q1, q2, q3, q4⟩ := hP.2.2.2.1 rfl
  obtain ⟨g1, g2, f1, f2, c2, y2, P2⟩ := start_n (f := 4) (ci := 3) (most := 4) y hP hk (by omega) q3 q4 (by omega) (by unfold tmy; rw [if_neg (by omega), if_pos rfl])
  refine ML_of (by omega) ?_
  show match slots B n 4 1 0 (snM B n 4 σ) (fun _ => -1) with | .inl q => _ | .inr z => _
  have msy : MS h m := y.1.1.1
  have J := plead_n y2 P2 q4 q3
  unfold X8_courtLine
  rw [if_pos (ms_c msy)]
  dsimp only [lett]
  repeat rw [if_pos (show (482854920548 : Int64) = 482854920548 from rfl)]
  repeat rw [if_neg (show ¬ (482854920548 : Int64) = 1936292453 by decide +kernel)]
  repeat rw [if_neg (show ¬ (482854920548 : Int64) = 2002873452 by decide +kernel)]
  repeat rw [if_neg (show ¬ (482854920548 : Int64) = 1818584692 by decide +kernel)]
  repeat rw [if_neg (show ¬ (482854920548 : Int64) = 491394656372 by decide +kernel)]
  repeat rw [if_neg (show ¬ (482854920548 : Int64) = 1953982830 by decide +kernel)]
  repeat rw [if_pos (show (0 : Int32) = 0 from rfl)]
  rw [Option.bind_some]
  dsimp only
  repeat rw [if_pos (show (482854920548 : Int64) = 482854920548 from rfl)]
  repeat rw [if_neg (show ¬ (482854920548 : Int64) = 1936292453 by decide +kernel)]
  repeat rw [if_neg (show ¬ (482854920548 : Int64) = 2002873452 by decide +kernel)]
  repeat rw [if_neg (show ¬ (482854920548 : Int64) = 1818584692 by decide +kernel)]
  repeat rw [if_neg (show ¬ (482854920548 : Int64) = 491394656372 by decide +kernel)]
  repeat rw [if_neg (show ¬ (482854920548 : Int64) = 1953982830 by decide +kernel)]
  repeat rw [if_pos (show (0 : Int32) = 0 from rfl)]
  rw [show X8_full h m 3 4 (nI (tB B n (zi σ))) = _ from f1, Option.bind_some, Option.bind_some, f2, Option.bind_some]
  repeat rw [if_pos (show (482854920548 : Int64) = 482854920548 from rfl)]
  repeat rw [if_neg (show ¬ (482854920548 : Int64) = 1936292453 by decide +kernel)]
  repeat rw [if_neg (show ¬ (482854920548 : Int64) = 2002873452 by decide +kernel)]
  repeat rw [if_neg (show ¬ (482854920548 : Int64) = 1818584692 by decide +kernel)]
  repeat rw [if_neg (show ¬ (482854920548 : Int64) = 491394656372 by decide +kernel)]
  repeat rw [if_neg (show ¬ (482854920548 : Int64) = 1953982830 by decide +kernel)]
  repeat rw [if_pos (show (0 : Int32) = 0 from rfl)]
  cases es : slots B n 4 1 0 (snM B n 4 σ) (fun _ => -1) with
  | inl q =>
    rw [es] at J
    obtain ⟨h9, f9, c9, g9⟩ := J
    dsimp only at f9 ⊢
    rw [f9]
    exact ⟨h9, rfl, c2.tr c9, g9⟩
  | inr z =>
    rw [es] at J
    obtain ⟨h9, f9, c9, y9⟩ := J
    dsimp only at f9 ⊢
    rw [f9]
    exact ⟨h9, rfl, c2.tr c9, y9⟩
theorem court1_n {h : HA} {m n : Nat} {B : Nat → Nat} {σ : ZS} (y : MZ h m n B σ) (hP : PJ B n 0 σ) (hk : tK B n (zi σ) ≠ 0) : ML h m n B 1 σ (X8_courtLine h m 2002873452 (nI (tB B n (zi σ)))) := by
  obtain ⟨g2, f2, c2, y2, P2⟩ := start_0 (f := 1) y hP hk (tmy_0 _).2.1
  obtain ⟨s1, s2, s3⟩ := sn_C B n 1 σ
  have msy : MS h m := y.1.1.1
  have hn := y.1.1.2.2.1
  rw [← s1] at y2
  have J := wall_n (n - zi (snM B n 1 σ) + 1) g2 (snM B n 1 σ) FU (by omega) (FU_gt (by omega)) y2 P2
  unfold ML lnG X8_courtLine
  rw [if_pos (ms_c msy)]
  dsimp only [lett]
  repeat rw [if_pos (show (2002873452 : Int64) = 2002873452 from rfl)]
  repeat rw [if_neg (show ¬ (2002873452 : Int64) = 1936292453 by decide +kernel)]
  repeat rw [if_neg (show ¬ (2002873452 : Int64) = 1818584692 by decide +kernel)]
  repeat rw [if_neg (show ¬ (2002873452 : Int64) = 491394656372 by decide +kernel)]
  repeat rw [if_neg (show ¬ (2002873452 : Int64) = 482854920548 by decide +kernel)]
  repeat rw [if_neg (show ¬ (2002873452 : Int64) = 1953982830 by decide +kernel)]
  repeat rw [if_pos (show (0 : Int32) = 0 from rfl)]
  rw [Option.bind_some]
  dsimp only
  repeat rw [if_pos (show (2002873452 : Int64) = 2002873452 from rfl)]
  repeat rw [if_neg (show ¬ (2002873452 : Int64) = 1936292453 by decide +kernel)]
  repeat rw [if_neg (show ¬ (2002873452 : Int64) = 1818584692 by decide +kernel)]
  repeat rw [if_neg (show ¬ (2002873452 : Int64) = 491394656372 by decide +kernel)]
  repeat rw [if_neg (show ¬ (2002873452 : Int64) = 482854920548 by decide +kernel)]
  repeat rw [if_neg (show ¬ (2002873452 : Int64) = 1953982830 by decide +kernel)]
  repeat rw [if_pos (show (0 : Int32) = 0 from rfl)]
  rw [Option.bind_some, f2, Option.bind_some]
  repeat rw [if_pos (show (2002873452 : Int64) = 2002873452 from rfl)]
  repeat rw [if_neg (show ¬ (2002873452 : Int64) = 1936292453 by decide +kernel)]
  repeat rw [if_neg (show ¬ (2002873452 : Int64) = 1818584692 by decide +kernel)]
  repeat rw [if_neg (show ¬ (2002873452 : Int64) = 491394656372 by decide +kernel)]
  repeat rw [if_neg (show ¬ (2002873452 : Int64) = 482854920548 by decide +kernel)]
  repeat rw [if_neg (show ¬ (2002873452 : Int64) = 1953982830 by decide +kernel)]
  repeat rw [if_pos (show (0 : Int32) = 0 from rfl)]
  unfold X8_wallLine
  rw [if_pos (ms_c y2.1.1.1)]
  show match (match slots B n 1 1 0 (snM B n 1 σ) (fun _ => -1) with | .inl q => Sum.inl q | .inr z => Sum.inr (kp 1 z.2 (if 1 = 1 then wlp B n (n - zi z.1) z.1 else z.1))) with | .inl q => _ | .inr τ => _
  cases es : slot B n 1 0 (snM B n 1 σ) with
  | inl q =>
    rw [es] at J
    obtain ⟨h9, f9, c9, g9⟩ := J
    rw [slots_l es]
    dsimp only
    rw [f9, Option.bind_some]
    dsimp only
    rw [bz0, Option.bind_some]
    exact ⟨h9, rfl, c2.tr c9, g9⟩
  | inr z =>
    rw [es] at J
    obtain ⟨h9, f9, c9, y9⟩ := J
    rw [slots_r (k1 := 1) rfl es, slots]
    dsimp only
    rw [f9, Option.bind_some]
    dsimp only
    rw [bz1, Option.bind_some, if_pos rfl, kp_w]
    refine ⟨h9, rfl, c2.tr c9, ?_⟩
    obtain ⟨_, b2, b3⟩ := slot_C es
    obtain ⟨a1, a2⟩ := wlp_GT (B := B) (n := n) (n - zi z.1) z.1
    unfold MZ
    rw [a1, a2, b2, b3, s2, s3]
    exact y9
theorem wlit : nJ (vr (wdr 0)) = 1936292453 ∧ nJ (vr (wdr 1)) = 2002873452 ∧ nJ (vr (wdr 2)) = 1818584692 ∧ nJ (vr (wdr 3)) = 491394656372 ∧ nJ (vr (wdr 4)) = 482854920548 ∧ nJ (vr (wdr 5)) = 1953982830 ∧ nJ (vr (wdr 6)) = 26479 ∧ nJ (vr (wdr 7)) = 7561593 ∧ nJ (vr (wdr 8)) = 2002872692 ∧ nJ (vr (wdr 9)) = 7955827 ∧ nJ (vr (wdr 10)) = 28271 ∧ nJ (vr (wdr 11)) = 1802399607 := by decide +kernel
/-- no word begins a line -/
theorem none_n {h : HA} {m s : Nat} {w : Int64} {b : Int32} (ms : MS h m) (hs : s < 4) (hw : ∀ f, f < 12 → fsr f = s → w ≠ nJ (vr (wdr f))) :
    (if s = 0 then X8_courtLine h m w b else if s = 1 then X8_trialLine h m w b else if s = 2 then X8_lawLine h m w b else X8_rollLine h m w b) = some (0, si h m 16 (gi h m 12)) := by
  obtain ⟨l0, l1, l2, l3, l4, l5, l6, l7, l8, l9, l10, l11⟩ := wlit
  have c4 : s = 0 ∨ s = 1 ∨ s = 2 ∨ s = 3 := by omega
  rcases c4 with e | e | e | e
  · subst e
    have n0 := hw 0 (by omega) rfl
    have n1 := hw 1 (by omega) rfl
    have n2 := hw 2 (by omega) rfl
    have n3 := hw 3 (by omega) rfl
    have n4 := hw 4 (by omega) rfl
    have n5 := hw 5 (by omega) rfl
    rw [l0] at n0; rw [l1] at n1; rw [l2] at n2; rw [l3] at n3; rw [l4] at n4; rw [l5] at n5
    rw [if_pos rfl]
    unfold X8_courtLine
    rw [if_pos (ms_c ms)]
    dsimp only [lett]
    repeat rw [if_neg n2]
    repeat rw [if_neg n3]
    repeat rw [if_pos (show (0 : Int32) = 0 from rfl)]
    rw [if_neg n0, if_neg n1, if_neg n4, if_neg n5, stops_n ms, Option.bind_some]
    dsimp only
    rw [bz0, Option.bind_some, Option.bind_some]
  · subst e
    have n6 := hw 6 (by omega) rfl
    have n7 := hw 7 (by omega) rfl
    have n8 := hw 8 (by omega) rfl
    rw [l6] at n6; rw [l7] at n7; rw [l8] at n8
    rw [if_neg (by omega), if_pos rfl]
    unfold X8_trialLine
    rw [if_pos (ms_c ms)]
    dsimp only [lett]
    rw [if_neg n6, if_neg n7, if_neg n8, stops_n ms, Option.bind_some]
    dsimp only
    rw [bz0, Option.bind_some, Option.bind_some]
  · subst e
    have n9 := hw 9 (by omega) rfl
    have n10 := hw 10 (by omega) rfl
    rw [l9] at n9; rw [l10] at n10
    rw [if_neg (by omega), if_neg (by omega), if_pos rfl]
    unfold X8_lawLine
    rw [if_pos (ms_c ms)]
    dsimp only [lett]
    rw [if_neg n9, if_neg n10, stops_n ms, Option.bind_some]
    dsimp only
    rw [bz0, Option.bind_some, Option.bind_some]
  · subst e
    have n11 := hw 11 (by omega) rfl
    rw [l11] at n11
    rw [if_neg (by omega), if_neg (by omega), if_neg (by omega)]
    unfold X8_rollLine
    rw [if_pos (ms_c ms), if_neg n11, stops_n ms, Option.bind_some]
    dsimp only
    rw [bz0, Option.bind_some]
/-- a line begun by a word -/
theorem some_n {h : HA} {m n f : Nat} {B : Nat → Nat} {σ : ZS} (hf : f < 12) (y : MZ h m n B σ) (hP : PJ B n (fsr f) σ) (hk : tK B n (zi σ) ≠ 0) :
    ML h m n B f σ (if fsr f = 0 then X8_courtLine h m (nJ (vr (wdr f))) (nI (tB B n (zi σ))) else if fsr f = 1 then X8_trialLine h m (nJ (vr (wdr f))) (nI (tB B n (zi σ))) else if fsr f = 2 then X8_lawLine h m (nJ (vr (wdr f))) (nI (tB B n (zi σ))) else X8_rollLine h m (nJ (vr (wdr f))) (nI (tB B n (zi σ)))) := by
  obtain ⟨l0, l1, l2, l3, l4, l5, l6, l7, l8, l9, l10, l11⟩ := wlit
  have cf : f = 0 ∨ f = 1 ∨ f = 2 ∨ f = 3 ∨ f = 4 ∨ f = 5 ∨ f = 6 ∨ f = 7 ∨ f = 8 ∨ f = 9 ∨ f = 10 ∨ f = 11 := by omega
  rcases cf with e | e | e | e | e | e | e | e | e | e | e | e
  · subst e; rw [if_pos (by decide), l0]; exact court0_n y hP hk
  · subst e; rw [if_pos (by decide), l1]; exact court1_n y hP hk
  · subst e; rw [if_pos (by decide), l2]; exact court2_n y hP hk
  · subst e; rw [if_pos (by decide), l3]; exact court3_n y hP hk
  · subst e; rw [if_pos (by decide), l4]; exact court4_n y hP hk
  · subst e; rw [if_pos (by decide), l5]; exact court5_n y hP hk
  · subst e; rw [if_neg (by decide), if_pos (by decide), l6]; exact trial6_n y hP hk
  · subst e; rw [if_neg (by decide), if_pos (by decide), l7]; exact trial7_n y hP hk
  · subst e; rw [if_neg (by decide), if_pos (by decide), l8]; exact trial8_n y hP hk
  · subst e; rw [if_neg (by decide), if_neg (by decide), if_pos (by decide), l9]; exact law9_n y hP hk
  · subst e; rw [if_neg (by decide), if_neg (by decide), if_pos (by decide), l10]; exact law10_n y hP hk
  · subst e; rw [if_neg (by decide), if_neg (by decide), if_neg (by decide), l11]; exact roll_n y hP hk
theorem bind_id (o : Option (Int32 × HA)) : (o.bind fun (x, h) => some (x, h)) = o := by
  cases o <;> rfl
/-- a line and its end -/
theorem lines1_n {h : HA} {m n s : Nat} {B : Nat → Nat} {σ : ZS} (hs : s < 4) (y : MZ h m n B σ) (hP : PJ B n s σ) (hk : tK B n (zi σ) ≠ 0) (fu : Nat) :
    match lnS s B n σ with
    | .inl q => ∃ h1, X8_lines_L2 m (nI s) (fu + 1) h 1 = X8_lines_L2 m (nI s) fu h1 0 ∧ ch (Wty m) h h1 ∧ gi h1 m 16 = nI q
    | .inr τ => ∃ h1, X8_lines_L2 m (nI s) (fu + 1) h 1 = X8_lines_L2 m (nI s) fu h1 1 ∧ ch (Wty m) h h1 ∧ MZ h1 m n B τ := by
  have ms := y.1.1.1
  have k6 := tK_6 B n (zi σ)
  obtain ⟨m1, m2, m3, m4, m5, m6⟩ := mK_3 _ k6
  obtain ⟨x1, ⟨t1, t2, t3, t4, t5⟩, x3, x4⟩ := y.1
  obtain ⟨w, ew⟩ : ∃ w, w = if tK B n (zi σ) = 1 then wdM B n (zi σ) else 0 := ⟨_, rfl⟩
  have hw : (show Option Int64 from if nI (mK (tK B n (zi σ))) = 2 then (gJ h m 9 15).bind fun x7 => some x7 else some 0) = some w := by
    show (if nI (mK (tK B n (zi σ))) = 2 then (gJ h m 9 15).bind fun x7 => some x7 else some 0) = some w
    by_cases e : tK B n (zi σ) = 1
    · rw [if_pos (show nI (mK (tK B n (zi σ))) = 2 by rw [m3.mpr e]; rfl), ms_J ms, t5 e, Option.bind_some, ew, if_pos e]
    · rw [if_neg (show ¬ nI (mK (tK B n (zi σ))) = 2 from fun z => e (m3.mp (nI_inj (b := 2) (by omega) (by omega) z))), ew, if_neg e]
  obtain ⟨D, eD⟩ : ∃ D, D = (if s = 0 then X8_courtLine h m w (nI (tB B n (zi σ))) else if s = 1 then X8_trialLine h m w (nI (tB B n (zi σ))) else if s = 2 then X8_lawLine h m w (nI (tB B n (zi σ))) else X8_rollLine h m w (nI (tB B n (zi σ)))) := ⟨_, rfl⟩
  have hD : (show Option (Int32 × HA) from if nI s = 0 then (X8_courtLine h m w (nI (tB B n (zi σ)))).bind fun (x14, h13) => some (x14, h13) else if nI s = 1 then (X8_trialLine h m w (nI (tB B n (zi σ)))).bind fun (x17, h16) => some (x17, h16) else if nI s = 2 then (X8_lawLine h m w (nI (tB B n (zi σ)))).bind fun (x20, h19) => some (x20, h19) else (X8_rollLine h m w (nI (tB B n (zi σ)))).bind fun (x23, h22) => some (x23, h22)) = D := by
    show (if nI s = 0 then (X8_courtLine h m w (nI (tB B n (zi σ)))).bind fun (x14, h13) => some (x14, h13) else if nI s = 1 then (X8_trialLine h m w (nI (tB B n (zi σ)))).bind fun (x17, h16) => some (x17, h16) else if nI s = 2 then (X8_lawLine h m w (nI (tB B n (zi σ)))).bind fun (x20, h19) => some (x20, h19) else (X8_rollLine h m w (nI (tB B n (zi σ)))).bind fun (x23, h22) => some (x23, h22)) = D
    rw [bind_id, bind_id, bind_id, bind_id, eD]
    have c4 : s = 0 ∨ s = 1 ∨ s = 2 ∨ s = 3 := by omega
    rcases c4 with e | e | e | e <;> subst e
    · rw [if_pos (show nI 0 = 0 from rfl), if_pos rfl]
    · rw [if_neg (show ¬ nI 1 = 0 by decide), if_pos (show nI 1 = 1 from rfl), if_neg (by omega), if_pos rfl]
    · rw [if_neg (show ¬ nI 2 = 0 by decide), if_neg (show ¬ nI 2 = 1 by decide), if_pos (show nI 2 = 2 from rfl), if_neg (by omega), if_neg (by omega), if_pos rfl]
    · rw [if_neg (show ¬ nI 3 = 0 by decide), if_neg (show ¬ nI 3 = 1 by decide), if_neg (show ¬ nI 3 = 2 by decide), if_neg (by omega), if_neg (by omega), if_neg (by omega)]
  have start : X8_lines_L2 m (nI s) (fu + 1) h 1 = D.bind fun (j8, h9) => (show Option (Int32 × HA) from if j8 = 0 then some (j8, h9) else (gI h9 m 9 13).bind fun x28 => if x28 = 4 then some (j8, h9) else (X8_stops h9 m).bind fun (x31, h30) => some (x31, h30)).bind fun (j24, h25) => if j24 = 0 then X8_lines_L2 m (nI s) fu h25 j24 else (X8_token h25 m).bind fun h33 => X8_lines_L2 m (nI s) fu h33 j24 := by
    rw [X8_lines_L2, if_neg (show ¬ (1 : Int32) = 0 by decide), ms_I ms, t2, Option.bind_some, if_neg (show ¬ nI (mK (tK B n (zi σ))) = 0 from fun z => hk (m4.mp (nI_inj (b := 0) (by omega) (by omega) z))), ms_I ms, t3, Option.bind_some, Option.bind_some]
    dsimp only at hw hD ⊢
    rw [hw, Option.bind_some, hD]
  rw [start]
  have fail : ∀ q, (∃ h1, D = some (0, h1) ∧ ch (Wty m) h h1 ∧ gi h1 m 16 = nI q) → ∃ h1, (D.bind fun (j8, h9) => (show Option (Int32 × HA) from if j8 = 0 then some (j8, h9) else (gI h9 m 9 13).bind fun x28 => if x28 = 4 then some (j8, h9) else (X8_stops h9 m).bind fun (x31, h30) => some (x31, h30)).bind fun (j24, h25) => if j24 = 0 then X8_lines_L2 m (nI s) fu h25 j24 else (X8_token h25 m).bind fun h33 => X8_lines_L2 m (nI s) fu h33 j24) = X8_lines_L2 m (nI s) fu h1 0 ∧ ch (Wty m) h h1 ∧ gi h1 m 16 = nI q := by
    rintro q ⟨h1, e1, c1, g1⟩
    refine ⟨h1, ?_, c1, g1⟩
    rw [e1, Option.bind_some]
    dsimp only
    rw [if_pos rfl, Option.bind_some]
    dsimp only
    rw [if_pos rfl]
  unfold lnS
  rcases fmO_c s B n (zi σ) with e1 | ⟨hf, hfs, hwd, hk1⟩
  · rw [if_pos e1]
    have hn : D = some (0, si h m 16 (gi h m 12)) := by
      rw [eD]
      refine none_n ms hs (fun f hf hfs z => ?_)
      rw [ew] at z
      by_cases e : tK B n (zi σ) = 1
      · rw [if_pos e] at z
        have hi := (wdM_iff hP.1 e hf).mp z
        unfold fmO at e1
        rw [if_pos e] at e1
        rcases fst1_spec (fun f => decide (fsr f = s) && isWd B (tB B n (zi σ)) (tR B n (zi σ)) f) 12 0 with ⟨j, _, _, _, _, j5⟩ | ⟨j1, _⟩
        · omega
        · have := j1 f (Nat.zero_le _) (by omega)
          rw [hi, decide_eq_true hfs] at this
          exact absurd this (by decide)
      · rw [if_neg e] at z
        obtain ⟨_, o2, o3⟩ := wd_ok f hf
        have := nJ_inj (a := 0) (by omega) o2 z
        omega
    refine fail (tB B n (zi σ)) ⟨_, hn, ch_si (Or.inl ⟨rfl, by omega, by omega⟩), ?_⟩
    rw [gi_si, if_pos ⟨rfl, rfl⟩]; exact t3
  · have hne : ¬ fmO s B n (zi σ) = 1000 := by omega
    rw [if_neg hne, lnF_G]
    obtain ⟨f, ef⟩ : ∃ f, f = fmO s B n (zi σ) := ⟨_, rfl⟩
    rw [← ef] at hf hfs hwd ⊢
    have ew2 : w = nJ (vr (wdr f)) := by rw [ew, if_pos hk1]; exact (wdM_iff hP.1 hk1 hf).mpr hwd
    have hML : ML h m n B f σ D := by
      rw [eD, ew2, ← hfs]
      exact some_n hf y (by rw [hfs]; exact hP) hk
    unfold ML at hML
    cases eg : lnG B n f σ with
    | inl q =>
      rw [eg] at hML
      exact fail q hML
    | inr τ =>
      rw [eg] at hML
      obtain ⟨h1, e1, c1, y1⟩ := hML
      have PKτ := (PJ_lnG hf hk (by rw [hfs]; exact hP) eg).1
      have ms1 := y1.1.1.1
      have k6' := tK_6 B n (zi τ)
      obtain ⟨_, n2, _, _, n5, _⟩ := mK_3 _ k6'
      dsimp only
      by_cases h4 : tK B n (zi τ) = 4
      · rw [if_pos h4]
        obtain ⟨h3, e3, c3, y3⟩ := MY_tok y1 PKτ.1
        dsimp only
        refine ⟨h3, ?_, c1.tr c3, y3⟩
        rw [e1, Option.bind_some]
        dsimp only
        rw [if_neg (show ¬ (1 : Int32) = 0 by decide), ms_I ms1, y1.1.2.1.2.1, Option.bind_some, if_pos (show nI (mK (tK B n (zi τ))) = 4 by rw [n5.mpr h4]; rfl), Option.bind_some]
        dsimp only
        rw [if_neg (show ¬ (1 : Int32) = 0 by decide), e3, Option.bind_some]
      · rw [if_neg h4]
        dsimp only
        refine ⟨si h1 m 16 (gi h1 m 12), ?_, c1.tr (ch_si (Or.inl ⟨rfl, by omega, by omega⟩)), ?_⟩
        · rw [e1, Option.bind_some]
          dsimp only
          rw [if_neg (show ¬ (1 : Int32) = 0 by decide), ms_I ms1, y1.1.2.1.2.1, Option.bind_some, if_neg (show ¬ nI (mK (tK B n (zi τ))) = 4 from fun z => h4 (n5.mp (nI_inj (b := 4) (by omega) (by omega) z))), stops_n ms1, Option.bind_some, Option.bind_some]
          dsimp only
          rw [if_pos rfl]
        · rw [gi_si, if_pos ⟨rfl, rfl⟩]; exact y1.1.2.1.2.2.1
/-- all lines, by the model -/
theorem linesM_n {m n s : Nat} {B : Nat → Nat} (hs : s < 4) : ∀ d (h : HA) (σ : ZS) fu, n - zi σ < d → d + 1 < fu → MZ h m n B σ → PJ B n s σ →
    match lnsF B n s d σ with
    | .inl q => ∃ h1, X8_lines_L2 m (nI s) fu h 1 = some (0, h1) ∧ ch (Wty m) h h1 ∧ gi h1 m 16 = nI q
    | .inr τ => ∃ h1, X8_lines_L2 m (nI s) fu h 1 = some (1, h1) ∧ ch (Wty m) h h1 ∧ MZ h1 m n B τ ∧ PJ B n s τ ∧ tK B n (zi τ) = 0 := by
  intro d
  induction d with
  | zero => intro h σ fu h1; omega
  | succ d ih =>
    intro h σ fu h1 h2 y hP
    obtain ⟨g, rfl⟩ : ∃ g, fu = g + 1 := ⟨fu - 1, by omega⟩
    by_cases hk : tK B n (zi σ) = 0
    · rw [lnsF, if_pos hk, X8_lines_L2, if_neg (show ¬ (1 : Int32) = 0 by decide), ms_I y.1.1.1, y.1.2.1.2.1, Option.bind_some, if_pos (show nI (mK (tK B n (zi σ))) = 0 by rw [hk]; rfl)]
      exact ⟨h, rfl, ch_rf _ _, y, hP, hk⟩
    · rw [lnsF_S hk]
      have w := lines1_n hs y hP hk g
      cases eS : lnS s B n σ with
      | inl q =>
        rw [eS] at w
        obtain ⟨h3, e3, c3, g3⟩ := w
        dsimp only
        obtain ⟨g', rfl⟩ : ∃ g', g = g' + 1 := ⟨g - 1, by omega⟩
        rw [e3, X8_lines_L2, if_pos rfl]
        exact ⟨h3, rfl, c3, g3⟩
      | inr τ =>
        rw [eS] at w
        obtain ⟨h3, e3, c3, y3⟩ := w
        obtain ⟨P3, z3⟩ := PJ_ln hP eS
        have p31 := P3.1
        have hih := ih h3 τ g (by omega) (by omega) y3 P3
        dsimp only
        rw [e3]
        cases eL : lnsF B n s d τ with
        | inl q =>
          rw [eL] at hih
          obtain ⟨h5, e5, c5, g5⟩ := hih
          exact ⟨h5, e5, c3.tr c5, g5⟩
        | inr ρ =>
          rw [eL] at hih
          obtain ⟨h5, e5, c5, x5⟩ := hih
          exact ⟨h5, e5, c3.tr c5, x5⟩
