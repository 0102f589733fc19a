theorem oj {α : Type} {c : Prop} {hd : Decidable c} {a b r : α} (h : (if c then a else b) = r) : (c ∧ a = r) ∨ (¬ c ∧ b = r) := by
  by_cases hc : c
  · rw [if_pos hc] at h; exact Or.inl ⟨hc, h⟩
  · rw [if_neg hc] at h; exact Or.inr ⟨hc, h⟩
def toC (x : Int32) : Int32 := x.toUInt32.toUInt16.toUInt32.toInt32
section TX
variable {V : EV} {X : MX} {pc q : Nat} {lv : List (Nat × Value)} {st : List Value} {h : HA} {cl sl : Nat} {v : Option Value} {h' : HA}
theorem WP.i2c {x : Int32} (hd : DC X pc 1 q .i2c) (k : WP V X q lv (.int (toC x) :: st) h cl sl v h') : WP V X pc lv (.int x :: st) h cl sl v h' := by
  obtain ⟨hd, rfl⟩ := hd
  exact fun p l e s m args below meth c H locs ls C K R L hl => lv_i2c C.1 C.2.1 hd rfl (k p l e s m args below meth c H locs ls C K R L hl)
theorem WP.getsq {idx : Nat} (hd : DC X pc 3 q (.getstatic idx)) (hl : Cond.fieldLink (mY X).cls idx "jdk/internal/util/Preconditions" "SIOOBE_FORMATTER" "Ljava/util/function/BiFunction;" ∈ gTbl) (kk : ∀ r : Option Nat, WP V X q lv (va_rf r :: st) h cl sl v h') : WP V X pc lv st h cl sl v h' := by
  intro p l e s m args below meth c9 H locs ls C K R L hl9
  have key : ∀ r : Option Nat, va_Z "jdk/internal/util/Preconditions" "SIOOBE_FORMATTER" "Ljava/util/function/BiFunction;" (va_rf r) (wI V) s (vH V) → W p l e (mRoom X) s m args below meth c9 H locs cl sl (MQ below (QG V v h') args s (mM X) (mS X) (wI V)) (F0 m pc ls st) := by
    intro r hz
    obtain ⟨hd, rfl⟩ := hd
    obtain ⟨cf, kf, fi, f, a, cell, g1, g2, g3, g4, g5, g6, g7, g8⟩ := hz
    have hc : H[a]? = some cell := by rw [R.2.2.1 a (Nat.lt_of_not_le g8)]; exact g5
    exact W.gets C.1 C.2.1 C.2.2.2.2.1 (C.2.2.2.2.2.1 _ hl) g1 g2 g3 g4 hc (fun z => by rw [z] at g6; cases g6) g7 rfl hd (kk r p l e s m args below meth c9 H locs ls C K R L hl9)
  rcases K.2.2.2.1 with hz | ⟨t, hz⟩
  · exact key none hz
  · exact key (some t) hz
end TX
set_option maxRecDepth 40000 in
theorem fl_J0_38 : Cond.fieldLink RJ0 38 "java/lang/String" "COMPACT_STRINGS" "Z" ∈ gTbl := mt2 143 (by rfl) rfl
set_option maxRecDepth 40000 in
theorem fl_J0_15 : Cond.fieldLink RJ0 15 "java/lang/String" "coder" "B" ∈ gTbl := mt8 58 (by rfl) rfl
set_option maxRecDepth 40000 in
theorem fl_J0_9 : Cond.fieldLink RJ0 9 "java/lang/String" "value" "[B" ∈ gTbl := mt8 57 (by rfl) rfl
set_option maxRecDepth 40000 in
theorem fl_J0_1053 : Cond.fieldLink RJ0 1053 "jdk/internal/util/Preconditions" "SIOOBE_FORMATTER" "Ljava/util/function/BiFunction;" ∈ gTbl := mt2 159 (by rfl) rfl
set_option maxRecDepth 40000 in
theorem lk_J0_335 : Cond.methodLink RJ0 335 yJ0_coder_7d493 ∈ gTbl := mt2 139 (by rfl) rfl
set_option maxRecDepth 40000 in
theorem lk_J0_492 : Cond.methodLink RJ0 492 yJ0_isLatin1_aae02 ∈ gTbl := mt2 149 (by rfl) rfl
set_option maxRecDepth 40000 in
theorem lk_J0_495 : Cond.methodLink RJ0 495 yJ1_charAt_3b067 ∈ gTbl := mt2 153 (by rfl) rfl
set_option maxRecDepth 40000 in
theorem lk_J0_1059 : Cond.methodLink RJ0 1059 yJ3_checkIndex_8e157 ∈ gTbl := mt2 161 (by rfl) rfl
set_option maxRecDepth 40000 in
theorem lk_J1_9 : Cond.methodLink RJ1 9 yJ0_checkIndex_df160 ∈ gTbl := mt2 156 (by rfl) rfl
theorem ok_coder (V : EV) {h : HA} {k : Nat} (hk : k < 12) : MG V M_J0_coder_7d493 [.ref (vE V (10 + k))] h (some (.int 0)) h := by
  refine MG.of (lv0 := [(0, .ref (vE V (10 + k)))]) pn_J0 rfl (Nat.le_of_ble_eq_true rfl) ?_
  refine WP.gets (w := .int 1) d_J0_coder_7d493_0 fl_J0_38 (fun _ K => K.2.2.1) ?_
  refine WP.if_eq_f d_J0_coder_7d493_3 (by decide) ?_
  refine WP.aload_n d_J0_coder_7d493_6 0 rfl ?_
  refine WP.txo (k := k) d_J0_coder_7d493_7 hk fl_J0_15 ?_
  refine WP.goto d_J0_coder_7d493_10 ?_
  exact WP.ireturn d_J0_coder_7d493_14 rfl rfl (Nat.le_of_ble_eq_true rfl) (Nat.le_of_ble_eq_true rfl)
theorem ok_isLatin1 (V : EV) {h : HA} {k : Nat} (hk : k < 12) : MG V M_J0_isLatin1_aae02 [.ref (vE V (10 + k))] h (some (.int 1)) h := by
  refine MG.of (lv0 := [(0, .ref (vE V (10 + k)))]) pn_J0 rfl (Nat.le_of_ble_eq_true rfl) ?_
  refine WP.gets (w := .int 1) d_J0_isLatin1_aae02_0 fl_J0_38 (fun _ K => K.2.2.1) ?_
  refine WP.if_eq_f d_J0_isLatin1_aae02_3 (by decide) ?_
  refine WP.aload_n d_J0_isLatin1_aae02_6 0 rfl ?_
  refine WP.txo (k := k) d_J0_isLatin1_aae02_7 hk fl_J0_15 ?_
  refine WP.if_ne_t d_J0_isLatin1_aae02_10 rfl ?_
  refine WP.iconst d_J0_isLatin1_aae02_13 (x := 1) (by decide) ?_
  refine WP.goto d_J0_isLatin1_aae02_14 ?_
  exact WP.ireturn d_J0_isLatin1_aae02_18 rfl rfl (Nat.le_of_ble_eq_true rfl) (Nat.le_of_ble_eq_true rfl)
theorem tx_len : ∀ k, k < 12 → shrI (Int32.ofNat (txL.getD k 0)) 0 = Int32.ofNat (txL.getD k 0) := by decide +kernel
theorem tx_len5 : ∀ k, k < 12 → txL.getD k 0 ≤ 5 := by decide +kernel
theorem tx_chr : ∀ k, k < 12 → ∀ j, j < 5 → toC (((txB.getD k []).getD j 0) &&& 255) = (txB.getD k []).getD j 0 ∧ narrow .char (.int ((txB.getD k []).getD j 0)) = .int ((txB.getD k []).getD j 0) := by decide +kernel
theorem ok_txlen (V : EV) {h : HA} {k : Nat} {r : Int32} (H : txl k = some r) : MG V M_J0_length_8abf5 [.ref (vE V (10 + k))] h (some (.int r)) h := by
  unfold txl at H
  obtain ⟨hk, H⟩ := oc H
  cases H
  refine MG.of (lv0 := [(0, .ref (vE V (10 + k)))]) pn_J0 rfl (Nat.le_of_ble_eq_true rfl) ?_
  refine WP.aload_n d_J0_length_8abf5_0 0 rfl ?_
  refine WP.txv (k := k) d_J0_length_8abf5_1 hk fl_J0_9 ?_
  refine WP.txn (k := k) d_J0_length_8abf5_4 hk ?_
  refine WP.aload_n d_J0_length_8abf5_5 0 rfl ?_
  refine WP.callVr (As := []) (X' := M_J0_coder_7d493) (st := [.int (Int32.ofNat (txL.getD k 0))]) d_J0_length_8abf5_6 (ok_coder V hk) tv_J0_coder_7d493 ti_J0_coder_7d493 ts_J0_coder_7d493 lk_J0_335 ⟨Nat.le_of_ble_eq_true rfl, Nat.le_of_ble_eq_true rfl, Nat.le_of_ble_eq_true rfl, Nat.le_of_ble_eq_true rfl⟩ (tx_recv hk) rfl rfl (Nat.le_of_ble_eq_true rfl) ?_
  show WP V M_J0_length_8abf5 9 _ [.int 0, .int (Int32.ofNat (txL.getD k 0))] h 0 0 _ h
  refine WP.ishr d_J0_length_8abf5_9 ?_
  rw [tx_len k hk]
  exact WP.ireturn d_J0_length_8abf5_10 rfl rfl (Nat.le_of_ble_eq_true rfl) (Nat.le_of_ble_eq_true rfl)
theorem ok_ck3 (V : EV) {h : HA} {i n : Int32} {r : Option Nat} (h0 : ¬ i < 0) (h1 : i < n) : MG V M_J3_checkIndex_8e157 [.int i, .int n, va_rf r] h (some (.int i)) h := by
  have key : ∀ w : Value, w.category = 1 → lv_args 0 [.int i, .int n, w] = [(0, .int i), (1, .int n), (2, w)] → (lg_sl [.int i, .int n, w]).length ≤ 3 → MG V M_J3_checkIndex_8e157 [.int i, .int n, w] h (some (.int i)) h := by
    intro w _ hw hw2
    refine MG.of pn_J3 hw hw2 ?_
    refine WP.iload_n d_J3_checkIndex_8e157_0 0 rfl ?_
    refine WP.if_lt_f d_J3_checkIndex_8e157_1 h0 ?_
    refine WP.iload_n d_J3_checkIndex_8e157_4 0 rfl ?_
    refine WP.iload_n d_J3_checkIndex_8e157_5 1 rfl ?_
    refine WP.icmp_lt_t d_J3_checkIndex_8e157_6 h1 ?_
    refine WP.iload_n d_J3_checkIndex_8e157_16 0 rfl ?_
    exact WP.ireturn d_J3_checkIndex_8e157_17 rfl rfl (Nat.le_of_ble_eq_true rfl) (Nat.le_of_ble_eq_true rfl)
  cases r with
  | none => exact key .null rfl rfl (Nat.le_of_ble_eq_true rfl)
  | some a => exact key (.ref a) rfl rfl (Nat.le_of_ble_eq_true rfl)
theorem ok_ck0 (V : EV) {h : HA} {i n : Int32} (h0 : ¬ i < 0) (h1 : i < n) : MG V M_J0_checkIndex_df160 [.int i, .int n] h none h := by
  refine MG.of (lv0 := [(0, .int i), (1, .int n)]) pn_J0 rfl (Nat.le_of_ble_eq_true rfl) ?_
  refine WP.iload_n d_J0_checkIndex_df160_0 0 rfl ?_
  refine WP.iload_n d_J0_checkIndex_df160_1 1 rfl ?_
  refine WP.getsq d_J0_checkIndex_df160_2 fl_J0_1053 (fun r => ?_)
  refine WP.callS (As := [.int i, .int n, va_rf r]) (X' := M_J3_checkIndex_8e157) (st := []) d_J0_checkIndex_df160_5 (ok_ck3 V h0 h1) tv_J3_checkIndex_8e157 ts_J3_checkIndex_8e157 lk_J0_1059 ⟨Nat.le_of_ble_eq_true rfl, Nat.le_of_ble_eq_true rfl, Nat.le_of_ble_eq_true rfl, Nat.le_of_ble_eq_true rfl⟩ rfl rfl (Nat.le_of_ble_eq_true rfl) ?_
  show WP V M_J0_checkIndex_df160 8 _ [.int i] h 0 0 _ h
  refine WP.pop d_J0_checkIndex_df160_8 rfl ?_
  exact WP.return_ d_J0_checkIndex_df160_9 rfl (Nat.le_of_ble_eq_true rfl) (Nat.le_of_ble_eq_true rfl)
theorem ok_l1c (V : EV) {h : HA} {k : Nat} {i r : Int32} (H : txc k i = some r) : MG V M_J1_charAt_3b067 [.ref (vE V (30 + k)), .int i] h (some (.int r)) h := by
  have H0 := H
  unfold txc at H
  obtain ⟨⟨hk, hin⟩, H⟩ := oc H
  cases H
  have hi := inb_iff.mp hin
  have h5 := tx_len5 k hk
  have hj : i.toNatClampNeg = i.toInt.toNat := rfl
  have hc := tx_chr k hk i.toNatClampNeg (by omega)
  refine MG.of (lv0 := [(0, .ref (vE V (30 + k))), (1, .int i)]) pn_J1 rfl (Nat.le_of_ble_eq_true rfl) ?_
  refine WP.iload_n d_J1_charAt_3b067_0 1 rfl ?_
  refine WP.aload_n d_J1_charAt_3b067_1 0 rfl ?_
  refine WP.txn (k := k) d_J1_charAt_3b067_2 hk ?_
  refine WP.callS (As := [.int i, .int (Int32.ofNat (txL.getD k 0))]) (X' := M_J0_checkIndex_df160) (st := []) d_J1_charAt_3b067_3 (ok_ck0 V (by rw [Int32.lt_iff_toInt_lt]; simp; omega) (by rw [Int32.lt_iff_toInt_lt]; have := nI_toInt (n := txL.getD k 0) (by omega); unfold nI at this; omega)) tv_J0_checkIndex_df160 ts_J0_checkIndex_df160 lk_J1_9 ⟨Nat.le_of_ble_eq_true rfl, Nat.le_of_ble_eq_true rfl, Nat.le_of_ble_eq_true rfl, Nat.le_of_ble_eq_true rfl⟩ rfl rfl (Nat.le_of_ble_eq_true rfl) ?_
  show WP V M_J1_charAt_3b067 6 _ [] h 0 0 _ h
  refine WP.aload_n d_J1_charAt_3b067_6 0 rfl ?_
  refine WP.iload_n d_J1_charAt_3b067_7 1 rfl ?_
  refine WP.txb (k := k) d_J1_charAt_3b067_8 H0 ?_
  refine WP.sipush d_J1_charAt_3b067_9 (x := 255) (by decide) ?_
  refine WP.iand d_J1_charAt_3b067_12 ?_
  refine WP.i2c d_J1_charAt_3b067_13 ?_
  rw [hc.1]
  exact WP.ireturn d_J1_charAt_3b067_14 rfl hc.2 (Nat.le_of_ble_eq_true rfl) (Nat.le_of_ble_eq_true rfl)
theorem ok_txchr (V : EV) {h : HA} {k : Nat} {i r : Int32} (H : txc k i = some r) : MG V M_J0_charAt_5068e [.ref (vE V (10 + k)), .int i] h (some (.int r)) h := by
  have H0 := H
  unfold txc at H
  obtain ⟨⟨hk, hin⟩, H⟩ := oc H
  cases H
  have hi := inb_iff.mp hin
  have h5 := tx_len5 k hk
  have hj : i.toNatClampNeg = i.toInt.toNat := rfl
  have hc := tx_chr k hk i.toNatClampNeg (by omega)
  refine MG.of (lv0 := [(0, .ref (vE V (10 + k))), (1, .int i)]) pn_J0 rfl (Nat.le_of_ble_eq_true rfl) ?_
  refine WP.aload_n d_J0_charAt_5068e_0 0 rfl ?_
  refine WP.callVr (As := []) (X' := M_J0_isLatin1_aae02) (st := []) d_J0_charAt_5068e_1 (ok_isLatin1 V hk) tv_J0_isLatin1_aae02 ti_J0_isLatin1_aae02 ts_J0_isLatin1_aae02 lk_J0_492 ⟨Nat.le_of_ble_eq_true rfl, Nat.le_of_ble_eq_true rfl, Nat.le_of_ble_eq_true rfl, Nat.le_of_ble_eq_true rfl⟩ (tx_recv hk) rfl rfl (Nat.le_of_ble_eq_true rfl) ?_
  show WP V M_J0_charAt_5068e 4 _ [.int 1] h 0 0 _ h
  refine WP.if_eq_f d_J0_charAt_5068e_4 (by decide) ?_
  refine WP.aload_n d_J0_charAt_5068e_7 0 rfl ?_
  refine WP.txv (k := k) d_J0_charAt_5068e_8 hk fl_J0_9 ?_
  refine WP.iload_n d_J0_charAt_5068e_11 1 rfl ?_
  refine WP.callS (As := [.ref (vE V (30 + k)), .int i]) (X' := M_J1_charAt_3b067) (st := []) d_J0_charAt_5068e_12 (ok_l1c V H0) tv_J1_charAt_3b067 ts_J1_charAt_3b067 lk_J0_495 ⟨Nat.le_of_ble_eq_true rfl, Nat.le_of_ble_eq_true rfl, Nat.le_of_ble_eq_true rfl, Nat.le_of_ble_eq_true rfl⟩ rfl rfl (Nat.le_of_ble_eq_true rfl) ?_
  show WP V M_J0_charAt_5068e 15 _ [.int _] h 0 0 _ h
  exact WP.ireturn d_J0_charAt_5068e_15 rfl hc.2 (Nat.le_of_ble_eq_true rfl) (Nat.le_of_ble_eq_true rfl)
section TY
variable {V : EV} {pc q : Nat} {lv : List (Nat × Value)} {st : List Value} {h : HA} {v : Option Value} {h' : HA}
theorem WP.cTl {k idx : Nat} {z : Int32} (hd : DC M_X3_isHere pc 3 q (.invokevirtual idx)) (lk : Cond.methodLink RX3 idx yJ0_length_8abf5 ∈ gTbl) (e : txl k = some z) (hcat : (st.map fun v => v.category).sum ≤ 8) (kk : WP V M_X3_isHere q lv (.int z :: st) h 0 0 v h') : WP V M_X3_isHere pc lv (.ref (vE V (10 + k)) :: st) h 0 0 v h' := by
  have hk : k < 12 := by unfold txl at e; exact (oc e).1
  exact WP.callVr (As := []) (X' := M_J0_length_8abf5) (st := st) hd (ok_txlen V e) tv_J0_length_8abf5 ti_J0_length_8abf5 ts_J0_length_8abf5 lk ⟨Nat.le_of_ble_eq_true rfl, Nat.le_of_ble_eq_true rfl, Nat.le_of_ble_eq_true rfl, Nat.le_of_ble_eq_true rfl⟩ (tx_recv hk) rfl rfl hcat kk
theorem WP.cTc {k idx : Nat} {i z : Int32} (hd : DC M_X3_isHere pc 3 q (.invokevirtual idx)) (lk : Cond.methodLink RX3 idx yJ0_charAt_5068e ∈ gTbl) (e : txc k i = some z) (hcat : (st.map fun v => v.category).sum ≤ 8) (kk : WP V M_X3_isHere q lv (.int z :: st) h 0 0 v h') : WP V M_X3_isHere pc lv (.int i :: .ref (vE V (10 + k)) :: st) h 0 0 v h' := by
  have hk : k < 12 := by unfold txc at e; exact (oc e).1.1
  exact WP.callVr (As := [.int i]) (X' := M_J0_charAt_5068e) (st := st) hd (ok_txchr V e) tv_J0_charAt_5068e ti_J0_charAt_5068e ts_J0_charAt_5068e lk ⟨Nat.le_of_ble_eq_true rfl, Nat.le_of_ble_eq_true rfl, Nat.le_of_ble_eq_true rfl, Nat.le_of_ble_eq_true rfl⟩ (tx_recv hk) rfl rfl hcat kk
end TY
