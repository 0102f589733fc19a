/-! DRAWN -/
def d1 (x : Int32) : Int32 := x * 1103515245 + 12345
def du (x : Int32) : Nat := x.toBitVec.toNat / 65536
theorem du_lt (x : Int32) : du x < 65536 := by
  have : x.toBitVec.toNat < 2 ^ 32 := x.toBitVec.isLt
  unfold du; omega
theorem ush16 (x : Int32) : ushI x 16 = nI (du x) := by
  unfold ushI du
  apply Int32.toBitVec_inj.mp
  show (x.toUInt32 >>> (Int32.toUInt32 16 &&& Int32.toUInt32 31)).toBitVec = BitVec.ofNat 32 (x.toBitVec.toNat / 65536)
  rw [UInt32.toBitVec_shiftRight, show (Int32.toUInt32 16 &&& Int32.toUInt32 31).toBitVec % 32 = BitVec.ofNat 32 16 by decide]
  apply BitVec.eq_of_toNat_eq
  have : x.toBitVec.toNat < 2 ^ 32 := x.toBitVec.isLt
  have e : x.toUInt32.toBitVec = x.toBitVec := rfl
  rw [e]
  simp only [BitVec.ushiftRight_eq', BitVec.toNat_ofNat, BitVec.toNat_ushiftRight]
  rw [Nat.shiftRight_eq_div_pow, show (16 % 2 ^ 32 : Nat) = 16 from rfl]
  omega
def dsd (x : Int32) (c : Nat) : Nat → Int32
  | 0 => x
  | k + 1 => if du (d1 (dsd x c k)) % 100 < c then d1 (d1 (dsd x c k)) else d1 (dsd x c k)
def dhit (x : Int32) (c k : Nat) : Bool := decide (du (d1 (dsd x c k)) % 100 < c)
def dth (x : Int32) (c k : Nat) : Nat := if dhit x c k = true then 2 ^ (du (d1 (d1 (dsd x c k))) % 4) else 0
theorem p4 {q : Nat} (h : q < 4) : 2 ^ q < 16 := by
  have : q = 0 ∨ q = 1 ∨ q = 2 ∨ q = 3 := by omega
  rcases this with rfl | rfl | rfl | rfl <;> decide
theorem dth_lt (x : Int32) (c k : Nat) : dth x c k < 16 := by
  unfold dth
  split
  · exact p4 (Nat.mod_lt _ (by omega))
  · omega
theorem HP_st {W : Nat → Nat → Prop} {h h1 : HA} {b c l : Nat} {C L : CR} {th th1 : Nat → Nat} {n : Nat} (hp : HP h b c l C L th n) (p : ch W h h1) (hw : ∀ a i, W a i → (a = b + 46 ∧ i = 8) ∨ a = b + 51) (ht : ∀ i, i < n → gi h1 (b + 51) i = nI (th1 i) ∧ th1 i < 16) : HP h1 b c l C L th1 n := by
  obtain ⟨hb, p1, p2, ⟨Z, hZ, hz⟩, p4⟩ := hp
  refine ⟨HB_ch hb p (fun a k ha w => by have := hw a k w; omega), ?_, p2, ⟨Z, hZ, fun q hq => ?_⟩, fun k hk => ⟨ht k hk, fun Z hZ f hf => ?_⟩⟩
  · rw [p.gi (fun w => by have := hw _ _ w; omega)]; exact p1
  · rw [p.gi (fun w => by have := hw _ _ w; omega), p.gi (fun w => by have := hw _ _ w; omega)]; exact hz q hq
  · rw [p.gj (fun w => by have := hw _ _ w; omega)]; exact (p4 k hk).2 Z hZ f hf
theorem MP_st {W : Nat → Nat → Prop} {h h1 : HA} {m c t : Nat} {C L : CR} {th th1 : Nat → Nat} {n : Nat} (mp : MP h m c t C L th n) (p : ch W h h1) (hw : ∀ a i, W a i → (a = m ∧ i = 53) ∨ a = m + 25) (ht : ∀ i, i < n → gi h1 (m + 25) i = nI (th1 i) ∧ th1 i < 16) : MP h1 m c t C L th1 n := by
  obtain ⟨ht0, w, tp, p40, pl, ⟨Z, hZ, nz⟩, pth, pdm⟩ := mp
  refine ⟨HT_ch ht0 p (fun k _ _ w => by have := hw _ _ w; omega) (fun k w => by have := hw _ _ w; omega) (fun k w => by have := hw _ _ w; omega), w, TP_ch tp p (fun w => by have := hw _ _ w; omega) (fun k w => by have := hw _ _ w; omega), by rw [p.gi (fun w => by have := hw _ _ w; omega)]; exact p40, pl, ⟨Z, hZ, fun i hi => by rw [p.gi (fun w => by have := hw _ _ w; omega)]; exact nz i hi⟩, ht, fun k hk Z hZ => ?_⟩
  have := pdm k hk Z hZ
  unfold DM at this ⊢
  rw [p.gi (fun w => by have := hw _ _ w; omega), p.gi (fun w => by have := hw _ _ w; omega), p.gi (fun w => by have := hw _ _ w; omega), p.gi (fun w => by have := hw _ _ w; omega)]; exact this
theorem drawBelow_c {h : HA} {b n : Nat} (hk : kd h (b + 46) = (2, 0)) (h0 : 0 < n) (hn : n < 2 ^ 31) : X1_drawBelow h (b + 46) (nI n) = some (nI (du (d1 (gi h (b + 46) 8)) % n), si h (b + 46) 8 (d1 (gi h (b + 46) 8))) := by
  have hu := du_lt (d1 (gi h (b + 46) 8))
  unfold X1_drawBelow
  rw [if_pos (by rw [hk]), gI_n hk, Option.bind_some, pI_n hk, Option.bind_some, if_pos (show 0 < nI n from (lt_n (a := 0) (by omega) hn).mpr h0)]
  have hk2 : kd (si h (b + 46) 8 (d1 (gi h (b + 46) 8))) (b + 46) = (2, 0) := hk
  show ((gI (si h (b + 46) 8 (d1 (gi h (b + 46) 8))) (b + 46) 2 8).bind _) = _
  rw [gI_n hk2, Option.bind_some, gi_si, if_pos ⟨rfl, rfl⟩, ush16, rm_n (by omega) hn h0]; rfl
theorem draw_n {h : HA} {m n : Nat} (hm : MS h m) (h0 : 0 < n) (hn : n < 2 ^ 31) : X8_draw h m (nI n) = some (nI (du (d1 (gi h m 53)) % n), si h m 53 (d1 (gi h m 53))) := by
  have hu := du_lt (d1 (gi h m 53))
  unfold X8_draw
  have hm2 : MS (si h m 53 (d1 (gi h m 53))) m := (ch_si (W := fun _ _ => True) trivial).ms hm
  rw [if_pos (ms_c hm), ms_I hm, Option.bind_some, ms_p hm, Option.bind_some]
  show ((gI (si h m 53 (d1 (gi h m 53))) m 9 53).bind _) = _
  rw [ms_I hm2, Option.bind_some, gi_si, if_pos ⟨rfl, rfl⟩, ush16, rm_n (by omega) hn h0]; rfl
theorem thunder_ok {h : HA} {b : Nat} {D : DT} {α : Nat → Nat} {lm : Nat → Nat → Nat} {im : Nat → Option (Nat × DT)} (hi : IV h b D α lm im) {c l : Nat} {C L : CR} {n : Nat} (hp : HP h b c l C L (fun _ => 0) n) (x : Int32) {k : Nat} (hk : k ≤ 100) :
    ∃ h1, X1_thunder h (b + 46) x (nI k) = some (nI (cnt (dhit x k) n), h1) ∧ IV h1 b D α lm im ∧ HP h1 b c l C L (dth x k) n := by
  have h30 := llen_30 (hp_L hp)
  have hn := hp.2.2.1
  unfold X1_thunder
  rw [if_pos (hb_t hp.1), pI_n (fx_hk hp.1.1), Option.bind_some]
  have c0 : ch (fun a i => (a = b + 46 ∧ i = 8) ∨ a = b + 51) h (si h (b + 46) 8 x) := ch_si (Or.inl ⟨rfl, rfl⟩)
  obtain ⟨⟨ro, h3⟩, e3, e4, c3, t3⟩ := loop_inv (fun fu j (z : Int32 × HA) => X1_thunder_L10 (b + 46) (nI k) fu z.2 z.1 (nI j)) (fun j z => z.1 = nI (cnt (dhit x k) j) ∧ ch (fun a i => (a = b + 46 ∧ i = 8) ∨ a = b + 51) h z.2 ∧ gi z.2 (b + 46) 8 = dsd x k j ∧ ∀ i, i < n → gi z.2 (b + 51) i = if i < j then nI (dth x k i) else 0)
    (fun z => z.1 = nI (cnt (dhit x k) n) ∧ ch (fun a i => (a = b + 46 ∧ i = 8) ∨ a = b + 51) h z.2 ∧ ∀ i, i < n → gi z.2 (b + 51) i = nI (dth x k i) ∧ dth x k i < 16) n (by
      rintro j ⟨z, h1⟩ fu hj ⟨j0, j1, j2, j3⟩
      simp only at j0 j1 j2 j3
      subst j0
      have hkd : kd h1 (b + 46) = (2, 0) := by rw [j1.2.1]; exact fx_hk hp.1.1
      have hg2 : gi h1 (b + 46) 2 = nI n := by rw [j1.gi (by omega)]; exact hp.2.1
      have hf1 := FX_ch hp.1.1 j1
      have hlt : du (d1 (dsd x k j)) % 100 < 100 := Nat.mod_lt _ (by omega)
      have e1 : X1_thunder_L10 (b + 46) (nI k) (fu + 1) h1 (nI (cnt (dhit x k) j)) (nI j) = if nI (du (d1 (dsd x k j)) % 100) < nI k then (gR (si h1 (b + 46) 8 (d1 (dsd x k j))) (b + 46) 2 7).bind fun x6 => (X1_drawBelow (si h1 (b + 46) 8 (d1 (dsd x k j))) (b + 46) 4).bind fun (x9, h8) => (asI h8 x6 20 (nI j) (shlI 1 x9)).bind fun h10 => X1_thunder_L10 (b + 46) (nI k) fu h10 (nI (cnt (dhit x k) j) + 1) (nI j + 1)
          else X1_thunder_L10 (b + 46) (nI k) fu (si h1 (b + 46) 8 (d1 (dsd x k j))) (nI (cnt (dhit x k) j)) (nI j + 1) := by
        rw [X1_thunder_L10, gI_n hkd, hg2, Option.bind_some, if_pos (lt_lit hj (by omega)), show X1_drawBelow h1 (b + 46) 100 = _ from drawBelow_c (n := 100) hkd (by omega) (by omega), Option.bind_some, j2]
      have c2 : ch (fun a i => (a = b + 46 ∧ i = 8) ∨ a = b + 51) h (si h1 (b + 46) 8 (d1 (dsd x k j))) := j1.tr (ch_si (Or.inl ⟨rfl, rfl⟩))
      have hf2 := FX_ch hp.1.1 c2
      have g2 : gi (si h1 (b + 46) 8 (d1 (dsd x k j))) (b + 46) 8 = d1 (dsd x k j) := by rw [gi_si, if_pos ⟨rfl, rfl⟩]
      have r2 : ∀ i, i < n → gi (si h1 (b + 46) 8 (d1 (dsd x k j))) (b + 51) i = if i < j then nI (dth x k i) else 0 := fun i hi => by rw [gi_si, if_neg (by omega)]; exact j3 i hi
      have ec : cnt (dhit x k) (j + 1) = cnt (dhit x k) j + (if dhit x k j = true then 1 else 0) := rfl
      by_cases hh : du (d1 (dsd x k j)) % 100 < k
      · have hd : dhit x k j = true := by unfold dhit; simp [hh]
        have hq : du (d1 (d1 (dsd x k j))) % 4 < 4 := Nat.mod_lt _ (by omega)
        refine ⟨(nI (cnt (dhit x k) (j + 1)), si (si (si h1 (b + 46) 8 (d1 (dsd x k j))) (b + 46) 8 (d1 (d1 (dsd x k j)))) (b + 51) j (nI (2 ^ (du (d1 (d1 (dsd x k j))) % 4)))), ?_, rfl, (c2.tr (ch_si (Or.inl ⟨rfl, rfl⟩))).tr (ch_si (Or.inr rfl)), ?_, fun i hi => ?_⟩
        · simp only
          rw [e1, if_pos (lt_lit hh (by omega)), fx_r7 hf2, Option.bind_some, show X1_drawBelow (si h1 (b + 46) 8 (d1 (dsd x k j))) (b + 46) 4 = _ from drawBelow_c (n := 4) (fx_hk hf2) (by omega) (by omega), Option.bind_some, g2]
          dsimp only
          have hf4 := FX_ch hp.1.1 (c2.tr (ch_si (k := 8) (v := d1 (d1 (dsd x k j))) (Or.inl ⟨rfl, rfl⟩)))
          rw [shl1 _ (by omega), asI_n (fx_k51 hf4) (by omega) (by omega), Option.bind_some, ec, hd, if_pos rfl, nI_p1, nI_p1]
        · simp only
          rw [gi_si, if_neg (by omega), gi_si, if_pos ⟨rfl, rfl⟩, dsd, if_pos hh]
        · simp only
          rw [gi_si]
          by_cases e : i = j
          · subst e; rw [if_pos ⟨rfl, rfl⟩, if_pos (by omega), dth, hd, if_pos rfl]
          · rw [if_neg (by omega), gi_si, if_neg (by omega), r2 i hi]
            by_cases e2 : i < j
            · rw [if_pos e2, if_pos (by omega)]
            · rw [if_neg e2, if_neg (by omega)]
      · have hd : dhit x k j = false := by unfold dhit; simp [hh]
        refine ⟨(nI (cnt (dhit x k) (j + 1)), si h1 (b + 46) 8 (d1 (dsd x k j))), ?_, rfl, c2, ?_, fun i hi => ?_⟩
        · simp only
          rw [e1, if_neg (nlt_lit (by omega) (by omega)), ec, hd, nI_p1]; rfl
        · simp only
          rw [g2, dsd, if_neg hh]
        · simp only
          rw [r2 i hi]
          by_cases e : i = j
          · subst e; rw [if_neg (by omega), if_pos (by omega), dth, hd]; rfl
          · by_cases e2 : i < j
            · rw [if_pos e2, if_pos (by omega)]
            · rw [if_neg e2, if_neg (by omega)]) (by
      rintro ⟨z, h1⟩ fu ⟨j0, j1, j2, j3⟩
      simp only at j0 j1 j2 j3
      have hkd : kd h1 (b + 46) = (2, 0) := by rw [j1.2.1]; exact fx_hk hp.1.1
      have hg2 : gi h1 (b + 46) 2 = nI n := by rw [j1.gi (by omega)]; exact hp.2.1
      refine ⟨(z, h1), ?_, j0, j1, fun i hi => ⟨by rw [j3 i hi, if_pos hi], dth_lt _ _ _⟩⟩
      simp only
      rw [X1_thunder_L10, gI_n hkd, hg2, Option.bind_some, if_neg (nlt_lit (Nat.le_refl _) (by omega))]) (0, si h (b + 46) 8 x) FU
    ⟨rfl, c0, by simp only; rw [gi_si, if_pos ⟨rfl, rfl⟩]; rfl, fun i hi => by simp only; rw [gi_si, if_neg (by omega), if_neg (by omega)]; exact (hp.2.2.2.2 i hi).1.1⟩ (FU_gt (by omega))
  simp only at e3 e4 c3 t3
  rw [show X1_thunder_L10 (b + 46) (nI k) FU (si h (b + 46) 8 x) 0 0 = _ from e3]
  exact ⟨h3, by rw [e4]; rfl, IV_ch hi c3 (fun a i w => by unfold Sc; left; omega), HP_st hp c3 (fun a i w => w) t3⟩
theorem drawn65 {h : HA} {b : Nat} {D : DT} {α : Nat → Nat} {lm : Nat → Nat → Nat} {im : Nat → Option (Nat × DT)} (hi : IV h b D α lm im) {c t : Nat} {C L : CR} {n : Nat} (mp : MP h (b + 55) c t C L (fun _ => 0) n) (x : Int32) {k : Nat} (hk : k ≤ 100) :
    ∃ h1, X8_drawn_L65 (b + 55) (nI k) FU (si h (b + 55) 53 x) 0 0 = some (nI (cnt (dhit x k) n), h1) ∧ IV h1 b D α lm im ∧ MP h1 (b + 55) c t C L (dth x k) n := by
  have h30 := llen_30 (mp_L mp)
  have hn := mp.2.2.2.2.1
  have c0 : ch (fun a i => (a = b + 55 ∧ i = 53) ∨ a = b + 55 + 25) h (si h (b + 55) 53 x) := ch_si (Or.inl ⟨rfl, rfl⟩)
  obtain ⟨⟨ro, h3⟩, e3, e4, c3, t3⟩ := loop_inv (fun fu j (z : Int32 × HA) => X8_drawn_L65 (b + 55) (nI k) fu z.2 z.1 (nI j)) (fun j z => z.1 = nI (cnt (dhit x k) j) ∧ ch (fun a i => (a = b + 55 ∧ i = 53) ∨ a = b + 55 + 25) h z.2 ∧ gi z.2 (b + 55) 53 = dsd x k j ∧ ∀ i, i < n → gi z.2 (b + 55 + 25) i = if i < j then nI (dth x k i) else 0)
    (fun z => z.1 = nI (cnt (dhit x k) n) ∧ ch (fun a i => (a = b + 55 ∧ i = 53) ∨ a = b + 55 + 25) h z.2 ∧ ∀ i, i < n → gi z.2 (b + 55 + 25) i = nI (dth x k i) ∧ dth x k i < 16) n (by
      rintro j ⟨z, h1⟩ fu hj ⟨j0, j1, j2, j3⟩
      simp only at j0 j1 j2 j3
      subst j0
      have hm1 := j1.ms mp.1.1.1
      have hg2 : gi h1 (b + 55) 40 = nI n := by rw [j1.gi (by omega)]; exact mp.2.2.2.1
      have hlt : du (d1 (dsd x k j)) % 100 < 100 := Nat.mod_lt _ (by omega)
      have e1 : X8_drawn_L65 (b + 55) (nI k) (fu + 1) h1 (nI (cnt (dhit x k) j)) (nI j) = if nI (du (d1 (dsd x k j)) % 100) < nI k then (gR (si h1 (b + 55) 53 (d1 (dsd x k j))) (b + 55) 9 46).bind fun x6 => (X8_draw (si h1 (b + 55) 53 (d1 (dsd x k j))) (b + 55) 4).bind fun (x9, h8) => (asI h8 x6 20 (nI j) (shlI 1 x9)).bind fun h10 => X8_drawn_L65 (b + 55) (nI k) fu h10 (nI (cnt (dhit x k) j) + 1) (nI j + 1)
          else X8_drawn_L65 (b + 55) (nI k) fu (si h1 (b + 55) 53 (d1 (dsd x k j))) (nI (cnt (dhit x k) j)) (nI j + 1) := by
        rw [X8_drawn_L65, ms_I hm1, hg2, Option.bind_some, if_pos (lt_lit hj (by omega)), show X8_draw h1 (b + 55) 100 = _ from draw_n (n := 100) hm1 (by omega) (by omega), Option.bind_some, j2]
      have c2 : ch (fun a i => (a = b + 55 ∧ i = 53) ∨ a = b + 55 + 25) h (si h1 (b + 55) 53 (d1 (dsd x k j))) := j1.tr (ch_si (Or.inl ⟨rfl, rfl⟩))
      have hm2 := c2.ms mp.1.1.1
      have g2 : gi (si h1 (b + 55) 53 (d1 (dsd x k j))) (b + 55) 53 = d1 (dsd x k j) := by rw [gi_si, if_pos ⟨rfl, rfl⟩]
      have r2 : ∀ i, i < n → gi (si h1 (b + 55) 53 (d1 (dsd x k j))) (b + 55 + 25) i = if i < j then nI (dth x k i) else 0 := fun i hi => by rw [gi_si, if_neg (by omega)]; exact j3 i hi
      have ec : cnt (dhit x k) (j + 1) = cnt (dhit x k) j + (if dhit x k j = true then 1 else 0) := rfl
      by_cases hh : du (d1 (dsd x k j)) % 100 < k
      · have hd : dhit x k j = true := by unfold dhit; simp [hh]
        have hq : du (d1 (d1 (dsd x k j))) % 4 < 4 := Nat.mod_lt _ (by omega)
        refine ⟨(nI (cnt (dhit x k) (j + 1)), si (si (si h1 (b + 55) 53 (d1 (dsd x k j))) (b + 55) 53 (d1 (d1 (dsd x k j)))) (b + 55 + 25) j (nI (2 ^ (du (d1 (d1 (dsd x k j))) % 4)))), ?_, rfl, (c2.tr (ch_si (Or.inl ⟨rfl, rfl⟩))).tr (ch_si (Or.inr rfl)), ?_, fun i hi => ?_⟩
        · simp only
          rw [e1, if_pos (lt_lit hh (by omega)), ms_r46 hm2, Option.bind_some, show X8_draw (si h1 (b + 55) 53 (d1 (dsd x k j))) (b + 55) 4 = _ from draw_n (n := 4) hm2 (by omega) (by omega), Option.bind_some, g2]
          dsimp only
          have hm4 := (c2.tr (ch_si (k := 53) (v := d1 (d1 (dsd x k j))) (Or.inl ⟨rfl, rfl⟩))).ms mp.1.1.1
          rw [shl1 _ (by omega), asI_n (ms_k46 hm4) (by omega) (by omega), Option.bind_some, ec, hd, if_pos rfl, nI_p1, nI_p1]
        · simp only
          rw [gi_si, if_neg (by omega), gi_si, if_pos ⟨rfl, rfl⟩, dsd, if_pos hh]
        · simp only
          rw [gi_si]
          by_cases e : i = j
          · subst e; rw [if_pos ⟨rfl, rfl⟩, if_pos (by omega), dth, hd, if_pos rfl]
          · rw [if_neg (by omega), gi_si, if_neg (by omega), r2 i hi]
            by_cases e2 : i < j
            · rw [if_pos e2, if_pos (by omega)]
            · rw [if_neg e2, if_neg (by omega)]
      · have hd : dhit x k j = false := by unfold dhit; simp [hh]
        refine ⟨(nI (cnt (dhit x k) (j + 1)), si h1 (b + 55) 53 (d1 (dsd x k j))), ?_, rfl, c2, ?_, fun i hi => ?_⟩
        · simp only
          rw [e1, if_neg (nlt_lit (by omega) (by omega)), ec, hd, nI_p1]; rfl
        · simp only
          rw [g2, dsd, if_neg hh]
        · simp only
          rw [r2 i hi]
          by_cases e : i = j
          · subst e; rw [if_neg (by omega), if_pos (by omega), dth, hd]; rfl
          · by_cases e2 : i < j
            · rw [if_pos e2, if_pos (by omega)]
            · rw [if_neg e2, if_neg (by omega)]) (by
      rintro ⟨z, h1⟩ fu ⟨j0, j1, j2, j3⟩
      simp only at j0 j1 j2 j3
      have hm1 := j1.ms mp.1.1.1
      have hg2 : gi h1 (b + 55) 40 = nI n := by rw [j1.gi (by omega)]; exact mp.2.2.2.1
      refine ⟨(z, h1), ?_, j0, j1, fun i hi => ⟨by rw [j3 i hi, if_pos hi], dth_lt _ _ _⟩⟩
      simp only
      rw [X8_drawn_L65, ms_I hm1, hg2, Option.bind_some, if_neg (nlt_lit (Nat.le_refl _) (by omega))]) (0, si h (b + 55) 53 x) FU
    ⟨rfl, c0, by simp only; rw [gi_si, if_pos ⟨rfl, rfl⟩]; rfl, fun i hi => by simp only; rw [gi_si, if_neg (by omega), if_neg (by omega)]; exact (mp.2.2.2.2.2.2.1 i hi).1⟩ (FU_gt (by omega))
  simp only at e3 e4 c3 t3
  rw [show X8_drawn_L65 (b + 55) (nI k) FU (si h (b + 55) 53 x) 0 0 = _ from e3]
  exact ⟨h3, by rw [e4], IV_ch hi c3 (fun a i w => Sc_m (by omega)), MP_st mp c3 (fun a i w => w) t3⟩
theorem drawn123 {h : HA} {m c t : Nat} {C L : CR} {th : Nat → Nat} {n : Nat} (mp : MP h m c t C L th n) : X8_drawn_L123 h m FU 0 0 = some (nI (allK C L th n 0)) := by
  have hs := mp.1.1
  have h6 := hs.2.1.2.2.1.1
  exact loop_st (fun fu j (z : Int32) => X8_drawn_L123 h m fu z (nI j)) (fun j => nI (sumf (all1 C L th n 0) j)) (some (nI (allK C L th n 0))) (cJ C) (fun j fu hj => by
    try simp only []
    rw [X8_drawn_L123, ms_I hs.1, hs.2.2.2.2.2.2.2.1, Option.bind_some, if_pos (lt_lit hj (by omega)), known_n mp hj, Option.bind_some, ones_n _ (kn_lt (mp_L mp) mp.2.2.2.2.1), Option.bind_some, nI_add, nI_p1]; rfl)
    (fun fu => by (try simp only []); rw [X8_drawn_L123, ms_I hs.1, hs.2.2.2.2.2.2.2.1, Option.bind_some, if_neg (nlt_lit (Nat.le_refl _) (by omega))]; rfl) FU (FU_gt (by omega))
def qdrawn (D : DT) (x y s k w : Int32) : Int32 := if ((rg x (dN D 0) && rg y (dN D 1)) && rg k 101) = true then (let C := dC D (tn x); let L := dR D 1 (tn y); let n := stD D x y; let th := dth s (tn k);
  if w = 1 then nI (cnt (dhit s (tn k)) n) else if w = 0 then nI (allK C L th n 0) else if rg2 w 10 (9 + cJ C) = true then nI (kn C L th n (tn w - 10)) else -1) else -1
theorem c_drawn {h : HA} {b : Nat} {D : DT} {α : Nat → Nat} {lm : Nat → Nat → Nat} {im : Nat → Option (Nat × DT)} (hi : IV h b D α lm im) (x y s k w : Int32) : AC b D α lm im (X7_drawn h b x y s k w) (qdrawn D x y s k w) := by
  unfold X7_drawn qdrawn
  rw [if_pos (fx_c hi.1)]
  rcases hallOf_ok hi x y with ⟨h1, h2, e2, i2⟩ | ⟨a, t, h2, ha, ht, rfl, rfl, hr, e2, i2, hp⟩
  · rw [e2, h1]; exact ⟨h2, rfl, i2⟩
  · have h6 := hb_6 hp.1
    rw [e2, hr, Option.bind_some, Bool.true_and, est (iv_w hi) ha ht, tnE (iv_w hi) (by omega) ha, tnE (iv_w hi) (by omega) ht]
    dsimp only
    rcases i_nat k with hk | ⟨q, hq, rfl⟩
    · rw [if_pos hk, neg_rg hk]; exact ⟨h2, rfl, i2⟩
    · rw [if_neg (nI_lt0 hq), rg_n hq, tn_nI hq]
      by_cases hq2 : q < 101
      · rw [if_neg (show ¬ 100 < nI q from fun z => by have := (lt_n (a := 100) (by omega) hq).mp z; omega), if_pos (show decide (q < 101) = true by simpa using hq2)]
        obtain ⟨h5, e5, i5, p5⟩ := thunder_ok i2 hp s (show q ≤ 100 by omega)
        generalize so (dC D a) (dR D 1 t) (llen (dR D 1 t)) = n at *
        by_cases w1 : w = 1
        · subst w1
          rw [if_neg (by decide), if_pos rfl, if_pos rfl, Option.bind_some]
          dsimp only
          rw [e5, Option.bind_some]
          exact ⟨h5, by rfl, i5⟩
        · rw [if_neg w1]
          by_cases w0 : w = 0
          · subst w0
            rw [if_pos rfl, Option.bind_some, if_pos rfl]
            dsimp only
            rw [e5, Option.bind_some]
            refine ⟨h5, ?_, i5⟩
            dsimp only
            rw [if_neg (by decide), if_pos rfl, show X1_allLearned h5 (b + 46) 0 = _ from allLearned_c (s := 0) p5]; rfl
          · rw [if_neg w0, if_neg w0, if_neg w1]
            rcases i_nat w with hw | ⟨v, hv, rfl⟩
            · have h10 : w < 10 := by
                rw [Int32.lt_iff_toInt_lt] at hw ⊢
                have e0 : (0 : Int32).toInt = 0 := by decide
                have e1 : (10 : Int32).toInt = 10 := by decide
                omega
              have hf : rg2 w 10 (9 + cJ (dC D a)) = false := by
                rw [Int32.lt_iff_toInt_lt] at hw
                have e0 : (0 : Int32).toInt = 0 := by decide
                unfold rg2; simp; omega
              rw [if_pos h10, hf]
              exact ⟨h2, rfl, i2⟩
            · by_cases hv10 : v < 10
              · have hf : rg2 (nI v) 10 (9 + cJ (dC D a)) = false := by unfold rg2; rw [nI_toInt hv]; simp; omega
                rw [if_pos (show nI v < 10 from lt_lit (n := 10) hv10 (by omega)), hf]
                exact ⟨h2, rfl, i2⟩
              · rw [if_neg (show ¬ nI v < 10 from nlt_lit (n := 10) (by omega) hv), hb_c hp.1, Option.bind_some, show nI v - 10 = nI (v - 10) from sub_n (n := 10) (by omega), hasJudge_c (hb_cc hp.1), Option.bind_some, rg_n (by omega)]
                by_cases hj : v - 10 < cJ (dC D a)
                · have hf : rg2 (nI v) 10 (9 + cJ (dC D a)) = true := by unfold rg2; rw [nI_toInt hv]; simp; omega
                  rw [if_neg (show ¬ bI (decide (v - 10 < cJ (dC D a))) = 0 by simp [hj, bI]), hf, Option.bind_some, if_pos rfl, tn_nI hv]
                  dsimp only
                  rw [e5, Option.bind_some]
                  refine ⟨h5, ?_, i5⟩
                  dsimp only
                  rw [if_neg w1, if_neg w0, gI_n (fx_hk p5.1.1), p5.2.1, Option.bind_some, learned_c p5 (Nat.le_refl _) hj]; rfl
                · have hf : rg2 (nI v) 10 (9 + cJ (dC D a)) = false := by unfold rg2; rw [nI_toInt hv]; simp; omega
                  rw [if_pos (show bI (decide (v - 10 < cJ (dC D a))) = 0 by simp [hj, bI]), hf]
                  exact ⟨h2, rfl, i2⟩
      · rw [if_pos (show 100 < nI q from (lt_n (a := 100) (by omega) hq).mpr (by omega)), if_neg (show ¬ decide (q < 101) = true by simpa using hq2)]
        exact ⟨h2, rfl, i2⟩
theorem m_drawn {h : HA} {b : Nat} {D : DT} {α : Nat → Nat} {lm : Nat → Nat → Nat} {im : Nat → Option (Nat × DT)} (hi : IV h b D α lm im) (x y s k w : Int32) : AC b D α lm im (X8_drawn h (b + 55) x y s k w) (qdrawn D x y s k w) := by
  unfold X8_drawn qdrawn
  rw [if_pos (ms_c (iv_ms hi)), ms_p (iv_ms hi), Option.bind_some]
  have hi0 := IV_m0 hi 0 0
  rw [show X8_in k 0 100 = _ from in_rn k (n := 100) (by omega), Option.bind_some]
  cases hk : rg k (100 + 1) with
  | false => rw [Bool.and_false]; exact ⟨_, rfl, hi0⟩
  | true =>
    obtain ⟨q, hq, rfl⟩ := (rg_iff (by omega)).mp hk
    rw [if_neg (by decide), Bool.and_true, tn_nI (show q < 2 ^ 31 by omega)]
    rcases layTrial_ok hi0 x y with ⟨h1, h2, e2, i2⟩ | ⟨a, t, h2, ha, ht, rfl, rfl, hr, e2, i2, mp⟩
    · rw [e2, h1]; exact ⟨h2, rfl, i2⟩
    · have hs := mp.1.1
      have h6 := hs.2.1.2.2.1.1
      rw [e2, hr, Option.bind_some, if_pos rfl, est (iv_w hi) ha ht, tnE (iv_w hi) (by omega) ha, tnE (iv_w hi) (by omega) ht]
      dsimp only
      obtain ⟨h5, e5, i5, p5⟩ := drawn65 i2 mp s (show q ≤ 100 by omega)
      generalize so (dC D a) (dR D 1 t) (llen (dR D 1 t)) = n at *
      rw [if_neg (by decide), show X8_in w 0 1 = _ from in_rn w (n := 1) (by omega), Option.bind_some, ms_I hs.1, hs.2.2.2.2.2.2.2.1, Option.bind_some, show (9 : Int32) + nI (cJ (dC D a)) = nI (9 + cJ (dC D a)) from nI_add 9 _, show X8_in w 10 (nI (9 + cJ (dC D a))) = _ from in_l w (l := 10) (by omega) (by omega)]
      by_cases w1 : w = 1
      · subst w1
        rw [if_neg (by decide), Option.bind_some, if_pos rfl]
        dsimp only
        rw [ms_p hs.1, Option.bind_some, e5, Option.bind_some]
        exact ⟨h5, by rfl, i5⟩
      · rw [if_neg w1]
        by_cases w0 : w = 0
        · subst w0
          rw [if_neg (by decide), Option.bind_some, if_pos rfl]
          dsimp only
          rw [ms_p hs.1, Option.bind_some, e5, Option.bind_some]
          refine ⟨h5, ?_, i5⟩
          dsimp only
          rw [if_neg (by decide), drawn123 p5, Option.bind_some, if_pos rfl]
        · have hw01 : rg w (1 + 1) = false := by
            cases e : rg w (1 + 1)
            · rfl
            · obtain ⟨v, hv, rfl⟩ := (rg_iff (by omega)).mp e
              have : v = 0 ∨ v = 1 := by omega
              rcases this with rfl | rfl
              · exact absurd rfl w0
              · exact absurd rfl w1
          rw [hw01, if_pos (by decide), if_neg w0, Option.bind_some]
          cases hf : rg2 w 10 (9 + cJ (dC D a)) with
          | false => exact ⟨h2, rfl, i2⟩
          | true =>
            obtain ⟨v, v1, v2, rfl⟩ := (rg2_iff (by omega)).mp hf
            rw [if_neg (by decide), Option.bind_some, if_pos rfl, tn_nI (show v < 2 ^ 31 by omega)]
            dsimp only
            rw [ms_p hs.1, Option.bind_some, e5, Option.bind_some]
            refine ⟨h5, ?_, i5⟩
            dsimp only
            rw [if_neg w1, drawn123 p5, Option.bind_some, if_neg w0, show nI v - 10 = nI (v - 10) from sub_n (n := 10) (by omega), known_n p5 (by omega)]; rfl
