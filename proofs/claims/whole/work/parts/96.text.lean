/-! TEXT: the calls -/
theorem asR_n {h : HA} {a c n i v : Nat} (hk : kd h a = (c, n)) (hi : i < n) (hn : i < 2 ^ 31) (hv : (kd h v).1 = elc c) : asR h a c (nI i) v = some (sa h a i (some v)) := by
  unfold asR
  rw [hk, inb_n hn, nI_clamp hn, if_pos ⟨rfl, by simpa using hi, hv⟩]
def OKT (x y : Int32) (N : Nat → Nat) (s k : Nat) : Prop := s < 4 ∧ x = nI s ∧ ((y = -1 ∧ N s < 2 ∧ k = N s) ∨ (y = nI k ∧ k < N s))
def RFT (x y : Int32) (N : Nat → Nat) : Prop := x < 0 ∨ (∃ s, 4 ≤ s ∧ s < 2 ^ 31 ∧ x = nI s) ∨ ∃ s, s < 4 ∧ x = nI s ∧ ((y = -1 ∧ N s = 2) ∨ (y ≠ -1 ∧ (y < 0 ∨ ∃ k, k < 2 ^ 31 ∧ y = nI k ∧ N s ≤ k)))
theorem okt_or {x y : Int32} {N : Nat → Nat} (hN : ∀ s, s < 4 → N s ≤ 2) : RFT x y N ∨ ∃ s k, OKT x y N s k := by
  rcases i_nat x with hx | ⟨s, hs, rfl⟩
  · exact Or.inl (Or.inl hx)
  · by_cases s4 : s < 4
    · have := hN s s4
      by_cases hy : y = -1
      · by_cases h2 : N s = 2
        · exact Or.inl (Or.inr (Or.inr ⟨s, s4, rfl, Or.inl ⟨hy, h2⟩⟩))
        · exact Or.inr ⟨s, N s, s4, rfl, Or.inl ⟨hy, by omega, rfl⟩⟩
      · rcases i_nat y with h3 | ⟨k, hk, rfl⟩
        · exact Or.inl (Or.inr (Or.inr ⟨s, s4, rfl, Or.inr ⟨hy, Or.inl h3⟩⟩))
        · by_cases h4 : k < N s
          · exact Or.inr ⟨s, k, s4, rfl, Or.inr ⟨rfl, h4⟩⟩
          · exact Or.inl (Or.inr (Or.inr ⟨s, s4, rfl, Or.inr ⟨hy, Or.inr ⟨k, hk, rfl, by omega⟩⟩⟩))
    · exact Or.inl (Or.inr (Or.inl ⟨s, by omega, hs, rfl⟩))
theorem fx_rd {h : HA} {b : Nat} (hf : FX h b) : gR h b 8 2 = some (b + 31) := by rw [gR_n (fx_x hf)]; exact hf.2.1 (0, 2, 31) (by decide)
theorem fx_k31 {h : HA} {b : Nat} (hf : FX h b) : kd h (b + 31) = (4, 0) := hf.1 (31, (4, 0)) (by decide)
/-- the class begins a text -/
def h8 (h : HA) (b : Nat) : HA := si (si (si h (b + 1) 1 0) (b + 1) 2 0) (b + 1) 3 (-1)
theorem h8_ch (h : HA) (b : Nat) : ch (fun a k => a = b + 1 ∧ 1 ≤ k ∧ k ≤ 3) h (h8 h b) :=
  ((ch_si ⟨rfl, by omega, by omega⟩).tr (ch_si ⟨rfl, by omega, by omega⟩)).tr (ch_si ⟨rfl, by omega, by omega⟩)
theorem ctext_st {h : HA} {b : Nat} {D : DT} {α : Nat → Nat} {lm : Nat → Nat → Nat} {im : Nat → Option (Nat × DT)} (hi : IV h b D α lm im) (x y : Int32) :
    X7_text h b x y = if x < 0 then some (-2, h8 h b) else if x < 4 then (if y = -1 then (ldI (h8 h b) (b + 3) 20 x).bind fun x14 => some x14 else some y).bind fun j9 => (if y = -1 then some 2 else (ldI (h8 h b) (b + 3) 20 x).bind fun x20 => some x20).bind fun j15 =>
      if j9 < 0 then some (-2, h8 h b) else if j9 < j15 then (X3_read (h8 h b) (b + 31) (b + 2) (nI (dL D)) x).bind fun h25 => (gR h25 b 8 2).bind fun x26 => (gI h25 x26 4 2).bind fun x27 => if x27 = 0 then (X7_keepDraft h25 b x j9).bind fun h29 => some (j9, h29) else (gR h25 b 8 0).bind fun x30 => (gR h25 b 8 2).bind fun x31 => (gI h25 x31 4 2).bind fun x32 => (pI h25 x30 6 2 x32).bind fun h33 => (gR h33 b 8 0).bind fun x34 => (gR h33 b 8 2).bind fun x35 => (gI h33 x35 4 3).bind fun x36 => (pI h33 x34 6 3 x36).bind fun h37 => some (-1, h37) else some (-2, h8 h b) else some (-2, h8 h b) := by
  have hf := hi.1
  have c1 : ch (fun _ _ => True) h (si h (b + 1) 1 0) := ch_si trivial
  have f1 := FX_ch hf c1
  have c2 : ch (fun _ _ => True) h (si (si h (b + 1) 1 0) (b + 1) 2 0) := c1.tr (ch_si trivial)
  have f2 := FX_ch hf c2
  have f8 := FX_ch hf (h8_ch h b)
  obtain ⟨t1, _⟩ := iv_tk hi
  unfold X7_text
  rw [if_pos (by rw [fx_x hf]), fx_told hf, Option.bind_some, gI_n (fx_kt hf), t1, Option.bind_some, Option.bind_some, pI_n (fx_kt hf), Option.bind_some, fx_told f1, Option.bind_some, pI_n (fx_kt f1), Option.bind_some, fx_told f2, Option.bind_some, pI_n (fx_kt f2), Option.bind_some]
  have e8 : si (si (si h (b + 1) 1 0) (b + 1) 2 0) (b + 1) 3 (-1) = h8 h b := rfl
  rw [e8]
  by_cases h1 : x < 0
  · rw [if_pos h1, if_pos h1]
  · rw [if_neg h1, if_neg h1]
    by_cases h2 : x < 4
    · rw [if_pos h2, if_pos h2]
      dsimp only
      simp only [Option.bind_some, fx_told f8, fx_cnt f8, fx_rd f8, fx_tape f8]
    · rw [if_neg h2, if_neg h2]
theorem h8_n {h : HA} {b : Nat} {D : DT} {α : Nat → Nat} {lm : Nat → Nat → Nat} {im : Nat → Option (Nat × DT)} (hi : IV h b D α lm im) {s : Nat} (s4 : s < 4) : ldI (h8 h b) (b + 3) 20 (nI s) = some (nI (dN D s)) := by
  have f8 := FX_ch hi.1 (h8_ch h b)
  rw [ldI_n (fx_kcnt f8) (by omega) (by omega), (h8_ch h b).gi (by omega), iv_n hi s4]
theorem ctext_no {h : HA} {b : Nat} {D : DT} {α : Nat → Nat} {lm : Nat → Nat → Nat} {im : Nat → Option (Nat × DT)} (hi : IV h b D α lm im) {x y : Int32} (hr : RFT x y (dN D)) : X7_text h b x y = some (-2, h8 h b) := by
  rw [ctext_st hi]
  rcases hr with hx | ⟨s, s1, s2, rfl⟩ | ⟨s, s1, rfl, hy⟩
  · rw [if_pos hx]
  · rw [if_neg (nI_lt0 s2), if_neg (show ¬ nI s < 4 from nlt_lit (n := 4) s1 s2)]
  · have hn := (iv_w hi).2.1 s s1
    rw [if_neg (nI_lt0 (by omega)), if_pos (show nI s < 4 from lt_lit (n := 4) s1 (by omega)), h8_n hi s1]
    rcases hy with ⟨rfl, h2⟩ | ⟨hy, hy2⟩
    · rw [if_pos rfl, if_pos rfl, Option.bind_some, Option.bind_some, Option.bind_some, if_neg (nI_lt0 (by omega)), if_neg (show ¬ nI (dN D s) < 2 from nlt_lit (n := 2) (by omega) (by omega))]
    · rw [if_neg hy, if_neg hy, Option.bind_some, Option.bind_some, Option.bind_some]
      rcases hy2 with h3 | ⟨k, k1, rfl, k2⟩
      · rw [if_pos h3]
      · rw [if_neg (nI_lt0 k1), if_neg (nlt_lit k2 k1)]
theorem ctext_ok {h : HA} {b : Nat} {D : DT} {α : Nat → Nat} {lm : Nat → Nat → Nat} {im : Nat → Option (Nat × DT)} (hi : IV h b D α lm im) {x y : Int32} {s k : Nat} (ho : OKT x y (dN D) s k) :
    X7_text h b x y = (X3_read (h8 h b) (b + 31) (b + 2) (nI (dL D)) (nI s)).bind fun h25 => (gR h25 b 8 2).bind fun x26 => (gI h25 x26 4 2).bind fun x27 => if x27 = 0 then (X7_keepDraft h25 b (nI s) (nI k)).bind fun h29 => some (nI k, h29) else (gR h25 b 8 0).bind fun x30 => (gR h25 b 8 2).bind fun x31 => (gI h25 x31 4 2).bind fun x32 => (pI h25 x30 6 2 x32).bind fun h33 => (gR h33 b 8 0).bind fun x34 => (gR h33 b 8 2).bind fun x35 => (gI h33 x35 4 3).bind fun x36 => (pI h33 x34 6 3 x36).bind fun h37 => some (-1, h37) := by
  obtain ⟨s4, rfl, hy⟩ := ho
  have hn := (iv_w hi).2.1 s s4
  rw [ctext_st hi, if_neg (nI_lt0 (by omega)), if_pos (show nI s < 4 from lt_lit (n := 4) s4 (by omega)), h8_n hi s4]
  rcases hy with ⟨rfl, h2, rfl⟩ | ⟨rfl, h2⟩
  · rw [if_pos rfl, if_pos rfl, Option.bind_some, Option.bind_some, Option.bind_some, if_neg (nI_lt0 (by omega)), if_pos (show nI (dN D s) < 2 from lt_lit (n := 2) h2 (by omega))]
  · rw [if_neg (nI_nm1 (by omega)), if_neg (nI_nm1 (by omega)), Option.bind_some, Option.bind_some, Option.bind_some, if_neg (nI_lt0 (by omega)), if_pos (lt_lit h2 (by omega))]
/-- the class reads what is told -/
theorem cread_ok {h : HA} {b : Nat} {D : DT} {α : Nat → Nat} {lm : Nat → Nat → Nat} {im : Nat → Option (Nat × DT)} (hi : IV h b D α lm im) {s : Nat} (s4 : s < 4) {B : Nat → Nat} (hB : ∀ f, f < dL D → dT D f = sB (B f) ∧ B f < 256) :
    ∃ h1, X3_read (h8 h b) (b + 31) (b + 2) (nI (dL D)) (nI s) = some h1 ∧ ch (Wrx (b + 31) (b + 39) (α 2) (lm (if s = 0 then 1 else s) 2) s) (sa (h8 h b) (b + 31) 4 (some (b + 2))) h1 ∧ gi h1 (b + 31) 2 = (txG B (dL D) s).1.1 ∧ ((txG B (dL D) s).1.1 ≠ 0 → gi h1 (b + 31) 3 = (txG B (dL D) s).1.2) ∧ ((txG B (dL D) s).1.1 = 0 → (s = 0 → CQ h1 (α 2) (txG B (dL D) s).2) ∧ (1 ≤ s → LL h1 (lm (if s = 0 then 1 else s) 2) s (txG B (dL D) s).2)) := by
  have hf := hi.1
  have c8 := h8_ch h b
  have f8 := FX_ch hf c8
  have hw := iv_w hi
  have u1 : 1 ≤ (if s = 0 then 1 else s) ∧ (if s = 0 then 1 else s) < 4 := by split <;> omega
  obtain ⟨_, _, _, t4, _⟩ := iv_tk hi
  have n31 : ∀ k, ¬ ((b + 31 = b + 1 ∧ 1 ≤ k ∧ k ≤ 3)) := fun k => by omega
  have lq := (hi.2.2.2.1 (if s = 0 then 1 else s) 2 u1.1 u1.2 (by omega))
  have ln := iv_nl hi u1.1 u1.2 (show 2 < 3 by omega) (Or.inl rfl)
  have ln1 := iv_nl hi u1.1 u1.2 (show 2 < 3 by omega) (Or.inr rfl)
  refine read_c s4 (fx_k31 f8) (fx_ktape f8) hw.1 (fun f hf' => ?_) (by rw [c8.2.2.1]; exact hf.2.1 (31, 10, 39) (by decide)) (by rw [c8.2.1]; exact hf.1 (39, (20, 4)) (by decide)) (by rw [c8.2.2.1]; exact hi.2.2.2.2.2.2.1) (show ga (h8 h b) (b + 31) 1 = some (b + 38) by rw [c8.2.2.1]; exact hf.2.1 (31, 1, 38) (by decide)) (by rw [c8.2.1]; exact hf.1 (38, (26, 4)) (by decide)) ?_ (fun s1 => ⟨?_, ?_⟩) ⟨fun a h1 h2 => ?_, fun a h1 h2 => ?_, by omega, by omega⟩ (by omega) (by omega) (fun e => ln.2.2.2.2.2.2.2.1 e.symm)
  · rw [c8.gi (by omega), t4 f hf']; exact hB f hf'
  · exact CS_same (hi.2.1 2 (by omega)).1 (fun a _ _ => c8.2.1 a) (fun k => c8.2.2.1 _ k)
  · rw [c8.2.2.1, if_neg (by omega)]; exact hi.2.2.2.2.2.2.2.1 s s1 s4
  · rw [if_neg (show ¬ s = 0 by omega)] at lq ln ⊢
    exact ⟨by rw [c8.2.1]; exact lq.1.1, by rw [c8.gi (by omega)]; exact lq.1.2.1, by rw [c8.2.2.1]; exact lq.1.2.2.1, by rw [c8.2.1]; exact lq.1.2.2.2⟩
  · have n := iv_nc hi (show 2 < 3 by omega) h1 h2
    exact ⟨n.2.2.2.2.2.2.1, n.2.2.1, n.2.2.2.2.2.2.2.2.1, n.2.2.2.2.2.2.2.1⟩
  · have n : a ≠ b ∧ a ≠ b + 1 ∧ a ≠ b + 2 ∧ a ≠ b + 3 ∧ a ≠ b + 4 ∧ a ≠ b + 5 ∧ a ≠ b + 31 ∧ a ≠ b + 38 ∧ a ≠ b + 39 ∧ a < b + 46 ∧ b ≤ a := iv_nl hi u1.1 u1.2 (show 2 < 3 by omega) (by omega)
    exact ⟨n.2.2.2.2.2.2.1, n.2.2.1, n.2.2.2.2.2.2.2.2.1, n.2.2.2.2.2.2.2.1⟩
/-! the model's side -/
def Wm2 (m : Nat) : Nat → Nat → Prop := fun a k => a = m ∨ (m + 10 ≤ a ∧ a ≤ m + 12) ∨ ((a = m + 2 ∨ a = m + 3 ∨ a = m + 4) ∧ k = 0)
def m8 (g : HA) (m : Nat) (n : Nat) : HA := si (si (si (si (si g m 0 0) m 11 (nI n)) (m + 2) 0 0) (m + 3) 0 0) (m + 4) 0 (-1)
theorem m8_ch (g : HA) (m n : Nat) : ch (Wm2 m) g (m8 g m n) := by
  unfold m8
  exact ((((ch_si (Or.inl rfl)).tr (ch_si (Or.inl rfl))).tr (ch_si (Or.inr (Or.inr ⟨Or.inl rfl, rfl⟩)))).tr (ch_si (Or.inr (Or.inr ⟨Or.inr (Or.inl rfl), rfl⟩)))).tr (ch_si (Or.inr (Or.inr ⟨Or.inr (Or.inr rfl), rfl⟩)))
theorem m8_g {g : HA} {m n : Nat} : gi (m8 g m n) (m + 2) 0 = 0 ∧ gi (m8 g m n) (m + 3) 0 = 0 ∧ gi (m8 g m n) (m + 4) 0 = -1 ∧ gi (m8 g m n) m 11 = nI n := by
  unfold m8
  refine ⟨?_, ?_, ?_, ?_⟩
  · rw [gi_si, if_neg (by omega), gi_si, if_neg (by omega), gi_si, if_pos ⟨rfl, rfl⟩]
  · rw [gi_si, if_neg (by omega), gi_si, if_pos ⟨rfl, rfl⟩]
  · rw [gi_si, if_pos ⟨rfl, rfl⟩]
  · rw [gi_si, if_neg (by omega), gi_si, if_neg (by omega), gi_si, if_neg (by omega), gi_si, if_pos ⟨rfl, rfl⟩]
theorem mtext_st {g : HA} {m n : Nat} (ms : MS g m) (hn : gi g (m + 2) 0 = nI n) (x y : Int32) :
    X8_text g m x y = (X8_in x 0 3).bind fun x12 => if x12 = 0 then some (-2, m8 g m n) else
      (if y = -1 then (gR (m8 g m n) m 9 5).bind fun x15 => (ldI (m8 g m n) x15 20 x).bind fun x16 => if x16 = 2 then some (Sum.inl ((-2 : Int32), m8 g m n)) else some (.inr ()) else (X8_is (m8 g m n) m x y).bind fun x18 => if x18 = 0 then some (.inl (-2, m8 g m n)) else some (.inr ())).bind fun s9 => match s9 with
      | .inl r45 => some r45
      | .inr () => (X8_readText (m8 g m n) m x).bind fun (x21, h20) => if x21 = 0 then some (-1, h20) else (if y = -1 then (gR h20 m 9 5).bind fun x25 => (ldI h20 x25 20 x).bind fun x26 => some x26 else some y).bind fun j22 => (gR h20 m 9 5).bind fun x27 => (ldI h20 x27 20 x).bind fun x28 => (asI h20 x27 20 x (x28 + (if y = -1 then 1 else 0))).bind fun h32 =>
          if x = 0 then (gR h32 m 9 6).bind fun x33 => (X8_store h32 m x33 106 j22).bind fun h35 => some (j22, h35) else if x = 1 then (gR h32 m 9 7).bind fun x36 => (X8_store h32 m x36 121 j22).bind fun h38 => some (j22, h38) else if x = 2 then (gR h32 m 9 8).bind fun x39 => (X8_store h32 m x39 25 j22).bind fun h41 => some (j22, h41) else (gR h32 m 9 9).bind fun x42 => (X8_store h32 m x42 25 j22).bind fun h44 => some (j22, h44) := by
  have c1 : ch (fun _ _ => True) g (si g m 0 0) := ch_si trivial
  have m1 := c1.ms ms
  have c2 : ch (fun _ _ => True) g (si (si g m 0 0) m 11 (nI n)) := c1.tr (ch_si trivial)
  have m2 := c2.ms ms
  have c3 : ch (fun _ _ => True) g (si (si (si g m 0 0) m 11 (nI n)) (m + 2) 0 0) := c2.tr (ch_si trivial)
  have m3 := c3.ms ms
  have c4 : ch (fun _ _ => True) g (si (si (si (si g m 0 0) m 11 (nI n)) (m + 2) 0 0) (m + 3) 0 0) := c3.tr (ch_si trivial)
  have m4 := c4.ms ms
  unfold X8_text
  rw [if_pos (ms_c ms), ms_p ms, Option.bind_some, ms_r2 m1, Option.bind_some, show ldI (si g m 0 0) (m + 2) 20 0 = _ from ldI_n (i := 0) (ms_k2 m1) (by omega) (by omega), gi_si, if_neg (by omega), hn, Option.bind_some, ms_p m1, Option.bind_some, ms_r2 m2, Option.bind_some, show asI (si (si g m 0 0) m 11 (nI n)) (m + 2) 20 0 0 = _ from asI_n (i := 0) (ms_k2 m2) (by omega) (by omega), Option.bind_some, ms_r3 m3, Option.bind_some, show asI (si (si (si g m 0 0) m 11 (nI n)) (m + 2) 0 0) (m + 3) 20 0 0 = _ from asI_n (i := 0) (ms_k3 m3) (by omega) (by omega), Option.bind_some, ms_r4 m4, Option.bind_some, show asI (si (si (si (si g m 0 0) m 11 (nI n)) (m + 2) 0 0) (m + 3) 0 0) (m + 4) 20 0 (-1) = _ from asI_n (i := 0) (ms_k4 m4) (by omega) (by omega), Option.bind_some]
  rfl
theorem m8_is {g : HA} {m n : Nat} (ms : MS g m) {N : Nat → Nat} (hN : ∀ s, s < 4 → gi g (m + 5) s = nI (N s) ∧ N s ≤ 2) {s : Nat} (s4 : s < 4) (y : Int32) : X8_is (m8 g m n) m (nI s) y = some (bI (rg y (N s))) := by
  have m1 := (m8_ch g m n).ms ms
  have hn := hN s s4
  unfold X8_is
  rw [if_pos (ms_c m1), ms_r5 m1, Option.bind_some, ldI_n (ms_k5 m1) (by omega) (by omega), (m8_ch g m n).gi (by unfold Wm2; omega), hn.1, Option.bind_some, in_rg y (by omega), Option.bind_some, bz_b, Option.bind_some]
theorem m8_ld {g : HA} {m n : Nat} (ms : MS g m) {N : Nat → Nat} (hN : ∀ s, s < 4 → gi g (m + 5) s = nI (N s) ∧ N s ≤ 2) {s : Nat} (s4 : s < 4) : ldI (m8 g m n) (m + 5) 20 (nI s) = some (nI (N s)) := by
  have m1 := (m8_ch g m n).ms ms
  rw [ldI_n (ms_k5 m1) (by omega) (by omega), (m8_ch g m n).gi (by unfold Wm2; omega), (hN s s4).1]
theorem mtext_no {g : HA} {m n : Nat} (ms : MS g m) (hn : gi g (m + 2) 0 = nI n) {N : Nat → Nat} (hN : ∀ s, s < 4 → gi g (m + 5) s = nI (N s) ∧ N s ≤ 2) {x y : Int32} (hr : RFT x y N) : X8_text g m x y = some (-2, m8 g m n) := by
  have m1 := (m8_ch g m n).ms ms
  rw [mtext_st ms hn, show X8_in x 0 3 = _ from in_rn x (n := 3) (by omega), Option.bind_some]
  rcases hr with hx | ⟨s, s1, s2, rfl⟩ | ⟨s, s1, rfl, hy⟩
  · rw [neg_rg hx, if_pos (by decide)]
  · rw [rg_n s2, decide_eq_false (by omega), if_pos (by decide)]
  · rw [rg_n (by omega), decide_eq_true (show s < 3 + 1 by omega), if_neg (by decide)]
    rcases hy with ⟨rfl, h2⟩ | ⟨hy, hy2⟩
    · rw [if_pos rfl, ms_r5 m1, Option.bind_some, m8_ld ms hN s1, Option.bind_some, h2, if_pos (show nI 2 = 2 from rfl), Option.bind_some]
    · have hrg : rg y (N s) = false := by
        rcases hy2 with h3 | ⟨k, k1, rfl, k2⟩
        · exact neg_rg h3 _
        · rw [rg_n k1, decide_eq_false (by omega)]
      rw [if_neg hy, m8_is ms hN s1, Option.bind_some, hrg, if_pos (by decide), Option.bind_some]
theorem store_n {h : HA} {m a sz wide k : Nat} (ms : MS h m) (ha : kd h a = (20, sz)) (hne : a ≠ m + 10) (hw : wide ≤ 121) (hb : wide * k + wide ≤ sz) (hs : sz < 2000) :
    ∃ h1, X8_store h m a (nI wide) (nI k) = some h1 ∧ ch (fun c j => c = a ∧ wide * k ≤ j ∧ j < wide * k + wide) h h1 ∧ ∀ i, i < wide → gi h1 a (wide * k + i) = gi h (m + 10) i := by
  unfold X8_store
  rw [if_pos (ms_c ms)]
  obtain ⟨h1, e1, c1, g1⟩ := loop_inv (fun fu i (h : HA) => X8_store_L3 m a (nI wide) (nI k) fu h (nI i)) (fun i h1 => ch (fun c j => c = a ∧ wide * k ≤ j ∧ j < wide * k + wide) h h1 ∧ ∀ j, j < i → gi h1 a (wide * k + j) = gi h (m + 10) j) (fun h1 => ch (fun c j => c = a ∧ wide * k ≤ j ∧ j < wide * k + wide) h h1 ∧ ∀ j, j < wide → gi h1 a (wide * k + j) = gi h (m + 10) j) wide (by
    intro i h1 fu hi hI
    have ms1 := hI.1.ms ms
    have ka : kd h1 a = (20, sz) := by rw [hI.1.2.1]; exact ha
    refine ⟨si h1 a (wide * k + i) (gi h (m + 10) i), ?_, hI.1.tr (ch_si ⟨rfl, by omega, by omega⟩), fun j hj => ?_⟩
    · show X8_store_L3 m a (nI wide) (nI k) (fu + 1) h1 (nI i) = _
      rw [X8_store_L3, if_pos (lt_lit hi (by omega)), ms_r19 ms1, Option.bind_some, ldI_n (ms_k19 ms1) (by omega) (by omega), hI.1.gi (fun w => hne w.1.symm), Option.bind_some, nI_mul, nI_add, asI_n ka (by omega) (by omega), Option.bind_some, nI_p1]
    · rw [rd_si]
      by_cases e : j = i
      · rw [if_pos (by omega), e]
      · rw [if_neg (by omega)]; exact hI.2 j (by omega)) (by
    intro h1 fu hI
    refine ⟨h1, ?_, hI⟩
    show X8_store_L3 m a (nI wide) (nI k) (fu + 1) h1 (nI wide) = _
    rw [X8_store_L3, if_neg (nlt_lit (Nat.le_refl _) (by omega))]) h FU ⟨ch_rf _ _, fun j hj => by omega⟩ (FU_gt (by omega))
  exact ⟨h1, by rw [show X8_store_L3 m a (nI wide) (nI k) FU h 0 = _ from e1]; rfl, c1, g1⟩
def tw4 (s : Nat) : Nat := if s = 0 then 106 else lrw s
def Wst (m s k : Nat) : Nat → Nat → Prop := fun a j => Wm2 m a j ∨ (a = m + 5 ∧ j = s) ∨ (a = m + 6 + s ∧ tw4 s * k ≤ j ∧ j < tw4 s * k + tw4 s)
theorem Wmt_2 {m a k : Nat} (w : Wmt m a k) : Wm2 m a k := by
  unfold Wmt Wty at w
  unfold Wm2
  omega
theorem mtext_ok {g : HA} {m n : Nat} (ms : MS g m) (hn : gi g (m + 2) 0 = nI n) (hn6 : n ≤ 600) {B : Nat → Nat} (hB : ∀ f, f < n → gi g (m + 1) f = sB (B f) ∧ B f < 256) {N : Nat → Nat} (hN : ∀ s, s < 4 → gi g (m + 5) s = nI (N s) ∧ N s ≤ 2) {x y : Int32} {s k : Nat} (ho : OKT x y N s k) :
    ((txG B n s).1.1 ≠ 0 → ∃ g1, X8_text g m x y = some (-1, g1) ∧ ch (Wm2 m) g g1 ∧ gi g1 (m + 2) 0 = 0 ∧ gi g1 (m + 3) 0 = (txG B n s).1.1 ∧ gi g1 (m + 4) 0 = (txG B n s).1.2) ∧
    ((txG B n s).1.1 = 0 → ∃ g1, X8_text g m x y = some (nI k, g1) ∧ ch (Wst m s k) g g1 ∧ gi g1 (m + 2) 0 = 0 ∧ gi g1 (m + 3) 0 = 0 ∧ gi g1 (m + 4) 0 = (txG B n s).1.2 ∧ gi g1 (m + 5) s = nI (if k = N s then N s + 1 else N s) ∧ ∀ i, i < tw4 s → gi g1 (m + 6 + s) (tw4 s * k + i) = (txG B n s).2 i) := by
  obtain ⟨s4, rfl, hy⟩ := ho
  have c8 := m8_ch g m n
  have m1 := c8.ms ms
  have hns := hN s s4
  obtain ⟨e2, e3, e4, e11⟩ := m8_g (g := g) (m := m) (n := n)
  have mt : MT0 (m8 g m n) m n B := ⟨m1, e11, hn6, fun f hf => by rw [c8.gi (by unfold Wm2; omega)]; exact hB f hf⟩
  obtain ⟨g2, f2, c2, q3, q4, q5⟩ := readText_n s4 mt
  have c02 : ch (Wm2 m) g g2 := c8.tr (c2.mo fun a k w => Wmt_2 w)
  have m2 := c02.ms ms
  have z2 : gi g2 (m + 2) 0 = 0 := by rw [c2.gi (by unfold Wmt Wty; omega)]; exact e2
  have hk2 : k < 2 := by rcases hy with ⟨_, h2, h3⟩ | ⟨_, h2⟩ <;> omega
  have cnt2 : gi g2 (m + 5) s = nI (N s) := by rw [c02.gi (by unfold Wm2; omega)]; exact hns.1
  have ld2 : ldI g2 (m + 5) 20 (nI s) = some (nI (N s)) := by rw [ldI_n (ms_k5 m2) (by omega) (by omega), cnt2]
  have start : X8_text g m (nI s) y = (some (bI (decide ((txG B n s).1.1 = 0)), g2)).bind fun (x21, h20) => if x21 = 0 then some (-1, h20) else (if y = -1 then (gR h20 m 9 5).bind fun x25 => (ldI h20 x25 20 (nI s)).bind fun x26 => some x26 else some y).bind fun j22 => (gR h20 m 9 5).bind fun x27 => (ldI h20 x27 20 (nI s)).bind fun x28 => (asI h20 x27 20 (nI s) (x28 + (if y = -1 then 1 else 0))).bind fun h32 =>
          if nI s = 0 then (gR h32 m 9 6).bind fun x33 => (X8_store h32 m x33 106 j22).bind fun h35 => some (j22, h35) else if nI s = 1 then (gR h32 m 9 7).bind fun x36 => (X8_store h32 m x36 121 j22).bind fun h38 => some (j22, h38) else if nI s = 2 then (gR h32 m 9 8).bind fun x39 => (X8_store h32 m x39 25 j22).bind fun h41 => some (j22, h41) else (gR h32 m 9 9).bind fun x42 => (X8_store h32 m x42 25 j22).bind fun h44 => some (j22, h44) := by
    rw [mtext_st ms hn, show X8_in (nI s) 0 3 = _ from in_rn (nI s) (n := 3) (by omega), Option.bind_some, rg_n (by omega), decide_eq_true (show s < 3 + 1 by omega), if_neg (show ¬ bI true = 0 by decide)]
    rcases hy with ⟨rfl, h2, rfl⟩ | ⟨rfl, h2⟩
    · rw [if_pos (show (-1 : Int32) = -1 from rfl), ms_r5 m1, Option.bind_some, m8_ld ms hN s4, Option.bind_some, if_neg (show ¬ nI (N s) = 2 from fun z => by have := nI_inj (b := 2) (by omega) (by omega) z; omega), Option.bind_some]
      dsimp only
      rw [f2]
    · rw [if_neg (show ¬ nI k = -1 from nI_nm1 (by omega)), m8_is ms hN s4, Option.bind_some, rg_n (by omega), decide_eq_true h2, if_neg (show ¬ bI true = 0 by decide), Option.bind_some]
      dsimp only
      rw [f2]
  refine ⟨fun hF => ⟨g2, ?_, c02, z2, q3, q4⟩, fun hF => ?_⟩
  · rw [start, Option.bind_some, decide_eq_false hF]
    dsimp only
    rw [if_pos (show bI false = 0 by decide)]
  · obtain ⟨c', hc'⟩ : ∃ c', c' = if k = N s then N s + 1 else N s := ⟨_, rfl⟩
    have hadd : nI (N s) + (if y = -1 then 1 else 0) = nI c' := by
      rw [hc']
      rcases hy with ⟨rfl, h2, rfl⟩ | ⟨rfl, h2⟩
      · rw [if_pos rfl, if_pos rfl, nI_p1]
      · rw [if_neg (show ¬ nI k = -1 from nI_nm1 (by omega)), if_neg (by omega)]
        exact nI_add (N s) 0
    have hj : (if y = -1 then (gR g2 m 9 5).bind fun x25 => (ldI g2 x25 20 (nI s)).bind fun x26 => some x26 else some y) = some (nI k) := by
      rcases hy with ⟨rfl, h2, rfl⟩ | ⟨rfl, h2⟩
      · rw [if_pos rfl, ms_r5 m2, Option.bind_some, ld2, Option.bind_some]
      · rw [if_neg (show ¬ nI k = -1 from nI_nm1 (by omega))]
    obtain ⟨g3, hg3⟩ : ∃ g3, g3 = si g2 (m + 5) s (nI c') := ⟨_, rfl⟩
    have c3 : ch (fun a j => a = m + 5 ∧ j = s) g2 g3 := by rw [hg3]; exact ch_si ⟨rfl, rfl⟩
    have m3 := c3.ms m2
    have fin : ∀ a, (a = m + 6 + s) → (∃ sz, kd g3 a = (20, sz) ∧ tw4 s * k + tw4 s ≤ sz ∧ sz < 2000) → tw4 s ≤ 121 → ∃ g1, X8_store g3 m a (nI (tw4 s)) (nI k) = some g1 ∧ ch (Wst m s k) g g1 ∧ gi g1 (m + 2) 0 = 0 ∧ gi g1 (m + 3) 0 = 0 ∧ gi g1 (m + 4) 0 = (txG B n s).1.2 ∧ gi g1 (m + 5) s = nI c' ∧ ∀ i, i < tw4 s → gi g1 (m + 6 + s) (tw4 s * k + i) = (txG B n s).2 i := by
      rintro a rfl ⟨sz, k1, k2, k3⟩ hw
      obtain ⟨g4, f4, c4, r4⟩ := store_n m3 k1 (by omega) hw k2 k3
      refine ⟨g4, f4, ((c02.mo fun a j w => Or.inl w).tr (c3.mo fun a j w => Or.inr (Or.inl w))).tr (c4.mo fun a j w => Or.inr (Or.inr w)), ?_, ?_, ?_, ?_, fun i hi => ?_⟩
      · rw [c4.gi (by omega), c3.gi (by omega)]; exact z2
      · rw [c4.gi (by omega), c3.gi (by omega)]; exact q3.trans hF
      · rw [c4.gi (by omega), c3.gi (by omega)]; exact q4
      · rw [c4.gi (by omega), hg3, gi_si, if_pos ⟨rfl, rfl⟩]
      · rw [r4 i hi, c3.gi (by omega)]; exact q5 hF i (by omega)
    rw [start, Option.bind_some, decide_eq_true hF]
    dsimp only
    rw [if_neg (show ¬ bI true = 0 by decide), hj, Option.bind_some, ms_r5 m2, Option.bind_some, ld2, Option.bind_some, hadd, asI_n (ms_k5 m2) (by omega) (by omega), Option.bind_some, ← hg3, ← hc']
    have c4 : s = 0 ∨ s = 1 ∨ s = 2 ∨ s = 3 := by omega
    rcases c4 with e | e | e | e
    · subst e
      have w0 : tw4 0 = 106 := rfl
      obtain ⟨g4, f4, r4⟩ := fin (m + 6) rfl ⟨848, ms_k6 m3, by rw [w0]; omega, by omega⟩ (by rw [w0]; omega)
      rw [if_pos (show nI 0 = 0 from rfl), ms_r6 m3, Option.bind_some, show X8_store g3 m (m + 6) 106 (nI k) = _ from f4, Option.bind_some]
      exact ⟨g4, rfl, r4⟩
    · subst e
      have w0 : tw4 1 = 121 := rfl
      obtain ⟨g4, f4, r4⟩ := fin (m + 7) rfl ⟨968, ms_k7 m3, by rw [w0]; omega, by omega⟩ (by rw [w0]; omega)
      rw [if_neg (show ¬ nI 1 = 0 by decide), if_pos (show nI 1 = 1 from rfl), ms_r7 m3, Option.bind_some, show X8_store g3 m (m + 7) 121 (nI k) = _ from f4, Option.bind_some]
      exact ⟨g4, rfl, r4⟩
    · subst e
      have w0 : tw4 2 = 25 := rfl
      obtain ⟨g4, f4, r4⟩ := fin (m + 8) rfl ⟨200, ms_k8 m3, by rw [w0]; omega, by omega⟩ (by rw [w0]; omega)
      rw [if_neg (show ¬ nI 2 = 0 by decide), if_neg (show ¬ nI 2 = 1 by decide), if_pos (show nI 2 = 2 from rfl), ms_r8 m3, Option.bind_some, show X8_store g3 m (m + 8) 25 (nI k) = _ from f4, Option.bind_some]
      exact ⟨g4, rfl, r4⟩
    · subst e
      have w0 : tw4 3 = 25 := rfl
      obtain ⟨g4, f4, r4⟩ := fin (m + 9) rfl ⟨200, ms_k9 m3, by rw [w0]; omega, by omega⟩ (by rw [w0]; omega)
      rw [if_neg (show ¬ nI 3 = 0 by decide), if_neg (show ¬ nI 3 = 1 by decide), if_neg (show ¬ nI 3 = 2 by decide), ms_r9 m3, Option.bind_some, show X8_store g3 m (m + 9) 25 (nI k) = _ from f4, Option.bind_some]
      exact ⟨g4, rfl, r4⟩
