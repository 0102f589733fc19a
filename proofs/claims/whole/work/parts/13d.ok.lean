set_option maxRecDepth 20000 in
set_option maxHeartbeats 4000000 in
theorem ok_X7_heard (V : EV) {h : HA} {t : Nat} {l1 : Int32} {l2 : Int32} {l3 : Int32} {r : Int32} {hR : HA} (H : X7_heard h t l1 l2 l3 = some (r, hR)) : MG V M_X7_heard [.ref t, .int l1, .int l2, .int l3] h (some (.int r)) hR := by
  unfold X7_heard at H
  obtain ⟨_, H⟩ := oc H
  refine MG.of (lv0 := [(0, .ref t), (1, .int l1), (2, .int l2), (3, .int l3)]) pn_X7 rfl (Nat.le_of_ble_eq_true rfl) ?_
  refine WP.aload_n d_X7_heard_0 0 rfl ?_
  refine WP.iload_n d_X7_heard_1 1 rfl ?_
  refine WP.iload_n d_X7_heard_2 2 rfl ?_
  obtain ⟨⟨x3, h2⟩, e1, H⟩ := ob H
  refine WP.cV (c := 8) (As := [.int l1, .int l2]) (st := []) (st9 := va_rf x3 :: []) (cl9 := 0) (sl9 := 0) d_X7_heard_3 (ok_X7_hallOf V e1) tv_X7_hallOf ti_X7_hallOf ts_X7_hallOf lk_X7_220 r_X7_heard_X7_hallOf kc_X7_hallOf (kd_X7_hallOf e1) rfl rfl (Nat.le_of_ble_eq_true rfl) rfl rfl rfl ?_
  rcases x3 with _ | z4
  · dsimp only at H
    refine WP.astoreN (lv9 := [(4, .null), (0, .ref t), (1, .int l1), (2, .int l2), (3, .int l3)]) d_X7_heard_6 (Nat.le_of_ble_eq_true rfl) rfl ?_
    refine WP.aloadN d_X7_heard_8 0 rfl ?_
    refine WP.nN d_X7_heard_10 ?_
    refine WP.iconst d_X7_heard_35 ki_m1 ?_
    cases H
    exact WP.ireturn d_X7_heard_36 rfl rfl (Nat.le_of_ble_eq_true rfl) (Nat.le_of_ble_eq_true rfl)
  · dsimp only at H
    refine WP.astore (lv9 := [(4, .ref z4), (0, .ref t), (1, .int l1), (2, .int l2), (3, .int l3)]) d_X7_heard_6 (Nat.le_of_ble_eq_true rfl) rfl ?_
    refine WP.aload d_X7_heard_8 0 rfl ?_
    refine WP.nR d_X7_heard_10 ?_
    refine WP.iload_n d_X7_heard_13 4 rfl ?_
    rcases oj H with ⟨hc, H⟩ | ⟨hc, H⟩
    · refine WP.if_lt_t d_X7_heard_14 hc ?_
      refine WP.iconst d_X7_heard_35 ki_m1 ?_
      cases H
      exact WP.ireturn d_X7_heard_36 rfl rfl (Nat.le_of_ble_eq_true rfl) (Nat.le_of_ble_eq_true rfl)
    · refine WP.if_lt_f d_X7_heard_14 hc ?_
      refine WP.iload_n d_X7_heard_17 4 rfl ?_
      refine WP.aload d_X7_heard_18 0 rfl ?_
      obtain ⟨x5, ex5, H⟩ := ob H
      refine WP.fI d_X7_heard_20 gf_X7_224 (fun _ => rfl) ex5 ?_
      rcases oj H with ⟨hc, H⟩ | ⟨hc, H⟩
      · refine WP.icmp_ge_t d_X7_heard_23 hc ?_
        refine WP.aload d_X7_heard_26 0 rfl ?_
        refine WP.iload_n d_X7_heard_28 4 rfl ?_
        obtain ⟨x7, e6, H⟩ := ob H
        refine WP.cV (c := 2) (As := [.int l3]) (st := []) (st9 := [.int x7]) (cl9 := 0) (sl9 := 0) d_X7_heard_29 (ok_X1_isSaid V e6) tv_X1_isSaid ti_X1_isSaid ts_X1_isSaid lk_X7_243 r_X7_heard_X1_isSaid kc_X1_isSaid (kd_X1_isSaid e6) rfl rfl (Nat.le_of_ble_eq_true rfl) rfl rfl rfl ?_
        rcases oj H with ⟨hc, H⟩ | ⟨hc, H⟩
        · refine WP.if_ne_t d_X7_heard_32 hc ?_
          refine WP.iconst d_X7_heard_35 ki_m1 ?_
          cases H
          exact WP.ireturn d_X7_heard_36 rfl rfl (Nat.le_of_ble_eq_true rfl) (Nat.le_of_ble_eq_true rfl)
        · refine WP.if_ne_f d_X7_heard_32 hc ?_
          refine WP.aload d_X7_heard_37 0 rfl ?_
          refine WP.iload_n d_X7_heard_39 4 rfl ?_
          obtain ⟨x9, e8, H⟩ := ob H
          refine WP.cV (c := 2) (As := [.int l3]) (st := []) (st9 := [.int x9]) (cl9 := 0) (sl9 := 0) d_X7_heard_40 (ok_X1_hearers V e8) tv_X1_hearers ti_X1_hearers ts_X1_hearers lk_X7_246 r_X7_heard_X1_hearers kc_X1_hearers (kd_X1_hearers e8) rfl rfl (Nat.le_of_ble_eq_true rfl) rfl rfl rfl ?_
          cases H
          exact WP.ireturn d_X7_heard_43 rfl rfl (Nat.le_of_ble_eq_true rfl) (Nat.le_of_ble_eq_true rfl)
      · refine WP.icmp_ge_f d_X7_heard_23 hc ?_
        refine WP.iconst d_X7_heard_35 ki_m1 ?_
        cases H
        exact WP.ireturn d_X7_heard_36 rfl rfl (Nat.le_of_ble_eq_true rfl) (Nat.le_of_ble_eq_true rfl)

set_option maxRecDepth 20000 in
set_option maxHeartbeats 4000000 in
theorem ok_X7_rule (V : EV) {h : HA} {t : Nat} {l1 : Int32} {l2 : Int32} {l3 : Int32} {r : Int32} (H : X7_rule h t l1 l2 l3 = some r) : MG V M_X7_rule [.ref t, .int l1, .int l2, .int l3] h (some (.int r)) h := by
  unfold X7_rule at H
  obtain ⟨_, H⟩ := oc H
  refine MG.of (lv0 := [(0, .ref t), (1, .int l1), (2, .int l2), (3, .int l3)]) pn_X7 rfl (Nat.le_of_ble_eq_true rfl) ?_
  refine WP.aload_n d_X7_rule_0 0 rfl ?_
  refine WP.iconst d_X7_rule_1 ki_2 ?_
  refine WP.iload_n d_X7_rule_2 1 rfl ?_
  obtain ⟨x2, e1, H⟩ := ob H
  refine WP.cV (c := 8) (As := [.int 2, .int l1]) (st := []) (st9 := va_rf x2 :: []) (cl9 := 0) (sl9 := 0) d_X7_rule_3 (ok_X7_listAt V e1) tv_X7_listAt ti_X7_listAt ts_X7_listAt lk_X7_99 r_X7_rule_X7_listAt kc_X7_listAt (kd_X7_listAt e1) rfl rfl (Nat.le_of_ble_eq_true rfl) rfl rfl rfl ?_
  rcases x2 with _ | z3
  · dsimp only at H
    refine WP.iload_n d_X7_rule_6 2 rfl ?_
    refine WP.iload_n d_X7_rule_7 3 rfl ?_
    obtain ⟨x5, e4, H⟩ := ob H
    refine WP.cS (As := [.null, .int l2, .int l3]) (st := []) (st9 := [.int x5]) (cl9 := 0) (sl9 := 0) d_X7_rule_8 (ok_X7_cellOf V e4) tv_X7_cellOf ts_X7_cellOf lk_X7_205 r_X7_rule_X7_cellOf rfl rfl (Nat.le_of_ble_eq_true rfl) rfl rfl rfl ?_
    cases H
    exact WP.ireturn d_X7_rule_11 rfl rfl (Nat.le_of_ble_eq_true rfl) (Nat.le_of_ble_eq_true rfl)
  · dsimp only at H
    refine WP.iload_n d_X7_rule_6 2 rfl ?_
    refine WP.iload_n d_X7_rule_7 3 rfl ?_
    obtain ⟨x7, e6, H⟩ := ob H
    refine WP.cS (As := [.ref z3, .int l2, .int l3]) (st := []) (st9 := [.int x7]) (cl9 := 0) (sl9 := 0) d_X7_rule_8 (ok_X7_cellOf V e6) tv_X7_cellOf ts_X7_cellOf lk_X7_205 r_X7_rule_X7_cellOf rfl rfl (Nat.le_of_ble_eq_true rfl) rfl rfl rfl ?_
    cases H
    exact WP.ireturn d_X7_rule_11 rfl rfl (Nat.le_of_ble_eq_true rfl) (Nat.le_of_ble_eq_true rfl)

set_option maxRecDepth 20000 in
set_option maxHeartbeats 4000000 in
theorem okl_X7_ruleFor_L2 (V : EV) {h : HA} {l0 : Nat} {l1 : Int32} (n : Nat) : ∀ {l2 : Int32} {r : Int32} , (H : X7_ruleFor_L2 h l0 l1 n l2 = some r) → WP V M_X7_ruleFor 2 [(0, .ref l0), (1, .int l1), (2, .int l2)] [] h 0 0 (some (.int r)) h := by
  induction n with
  | zero =>
    intro l2 r H
    rw [X7_ruleFor_L2] at H
    cases H
  | succ n ih =>
    intro l2 r H
    rw [X7_ruleFor_L2] at H
    refine WP.iload_n d_X7_ruleFor_2 2 rfl ?_
    refine WP.aload_n d_X7_ruleFor_3 0 rfl ?_
    obtain ⟨x1, ex1, H⟩ := ob H
    refine WP.fI d_X7_ruleFor_4 gf_X7_209 (fun _ => rfl) ex1 ?_
    rcases oj H with ⟨hc, H⟩ | ⟨hc, H⟩
    · refine WP.icmp_ge_t d_X7_ruleFor_7 hc ?_
      refine WP.aload_n d_X7_ruleFor_10 0 rfl ?_
      refine WP.iload_n d_X7_ruleFor_11 2 rfl ?_
      refine WP.iconst d_X7_ruleFor_12 ki_1 ?_
      obtain ⟨x3, e2, H⟩ := ob H
      refine WP.cV (c := 3) (As := [.int l2, .int 1]) (st := []) (st9 := [.int x3]) (cl9 := 0) (sl9 := 0) d_X7_ruleFor_13 (ok_X2_at V e2) tv_X2_at ti_X2_at ts_X2_at lk_X7_217 r_X7_ruleFor_X2_at kc_X2_at (kd_X2_at e2) rfl rfl (Nat.le_of_ble_eq_true rfl) rfl rfl rfl ?_
      refine WP.istore_n (lv9 := [(3, .int x3), (0, .ref l0), (1, .int l1), (2, .int l2)]) d_X7_ruleFor_16 (Nat.le_of_ble_eq_true rfl) rfl ?_
      refine WP.aload_n d_X7_ruleFor_17 1 rfl ?_
      refine WP.iload_n d_X7_ruleFor_18 3 rfl ?_
      refine WP.iconst d_X7_ruleFor_19 ki_2 ?_
      obtain ⟨x5, e4, H⟩ := ob H
      refine WP.cV (c := 3) (As := [.int l2, .int 2]) (st := []) (st9 := [.int x5]) (cl9 := 0) (sl9 := 0) d_X7_ruleFor_20 (ok_X2_at V e4) tv_X2_at ti_X2_at ts_X2_at lk_X7_217 r_X7_ruleFor_X2_at kc_X2_at (kd_X2_at e4) rfl rfl (Nat.le_of_ble_eq_true rfl) rfl rfl rfl ?_
      refine WP.istore (lv9 := [(4, .int x5), (3, .int x3), (0, .ref l0), (1, .int l1), (2, .int l2)]) d_X7_ruleFor_23 (Nat.le_of_ble_eq_true rfl) rfl ?_
      refine WP.iload_n d_X7_ruleFor_25 1 rfl ?_
      refine WP.iconst d_X7_ruleFor_26 ki_m1 ?_
      rcases oj H with ⟨hc, H⟩ | ⟨hc, H⟩
      · refine WP.icmp_eq_t d_X7_ruleFor_27 hc ?_
        refine WP.iload d_X7_ruleFor_39 0 rfl ?_
        refine WP.iconst d_X7_ruleFor_41 ki_m1 ?_
        rcases oj H with ⟨hc, H⟩ | ⟨hc, H⟩
        · refine WP.icmp_eq_t d_X7_ruleFor_42 hc ?_
          refine WP.iload_n d_X7_ruleFor_55 4 rfl ?_
          cases H
          exact WP.ireturn d_X7_ruleFor_56 rfl rfl (Nat.le_of_ble_eq_true rfl) (Nat.le_of_ble_eq_true rfl)
        · refine WP.icmp_eq_f d_X7_ruleFor_42 hc ?_
          refine WP.iload_n d_X7_ruleFor_45 3 rfl ?_
          refine WP.i2l d_X7_ruleFor_46 ?_
          refine WP.iload d_X7_ruleFor_47 0 rfl ?_
          obtain ⟨x7, e6, H⟩ := ob H
          refine WP.cS (As := [.long l1.toInt64, .int x5]) (st := []) (st9 := [.int x7]) (cl9 := 0) (sl9 := 0) d_X7_ruleFor_49 (ok_X7_has V (h := h) e6) tv_X7_has ts_X7_has lk_X7_133 r_X7_ruleFor_X7_has rfl rfl (Nat.le_of_ble_eq_true rfl) rfl rfl rfl ?_
          rcases oj H with ⟨hc, H⟩ | ⟨hc, H⟩
          · refine WP.if_ne_t d_X7_ruleFor_52 hc ?_
            refine WP.iload_n d_X7_ruleFor_55 4 rfl ?_
            cases H
            exact WP.ireturn d_X7_ruleFor_56 rfl rfl (Nat.le_of_ble_eq_true rfl) (Nat.le_of_ble_eq_true rfl)
          · refine WP.if_ne_f d_X7_ruleFor_52 hc ?_
            refine WP.iinc (lv9 := [(2, .int (l2 + 1)), (4, .int x5), (3, .int x3), (0, .ref l0), (1, .int l1)]) d_X7_ruleFor_57 4 rfl ki_1 (Nat.le_of_ble_eq_true rfl) rfl ?_
            refine WP.goto d_X7_ruleFor_60 ?_
            refine WP.sub [3, 4, 0] (lv' := [(0, .ref l0), (1, .int l1), (2, .int (l2 + 1))]) rfl ?_
            exact ih H
      · refine WP.icmp_eq_f d_X7_ruleFor_27 hc ?_
        refine WP.iload_n d_X7_ruleFor_30 3 rfl ?_
        refine WP.i2l d_X7_ruleFor_31 ?_
        refine WP.iload_n d_X7_ruleFor_32 1 rfl ?_
        obtain ⟨x9, e8, H⟩ := ob H
        refine WP.cS (As := [.long l1.toInt64, .int x3]) (st := []) (st9 := [.int x9]) (cl9 := 0) (sl9 := 0) d_X7_ruleFor_33 (ok_X7_has V (h := h) e8) tv_X7_has ts_X7_has lk_X7_133 r_X7_ruleFor_X7_has rfl rfl (Nat.le_of_ble_eq_true rfl) rfl rfl rfl ?_
        rcases oj H with ⟨hc, H⟩ | ⟨hc, H⟩
        · refine WP.if_eq_t d_X7_ruleFor_36 hc ?_
          refine WP.iinc (lv9 := [(2, .int (l2 + 1)), (4, .int x5), (3, .int x3), (0, .ref l0), (1, .int l1)]) d_X7_ruleFor_57 4 rfl ki_1 (Nat.le_of_ble_eq_true rfl) rfl ?_
          refine WP.goto d_X7_ruleFor_60 ?_
          refine WP.sub [3, 4, 0] (lv' := [(0, .ref l0), (1, .int l1), (2, .int (l2 + 1))]) rfl ?_
          exact ih H
        · refine WP.if_eq_f d_X7_ruleFor_36 hc ?_
          refine WP.iload d_X7_ruleFor_39 0 rfl ?_
          refine WP.iconst d_X7_ruleFor_41 ki_m1 ?_
          rcases oj H with ⟨hc, H⟩ | ⟨hc, H⟩
          · refine WP.icmp_eq_t d_X7_ruleFor_42 hc ?_
            refine WP.iload_n d_X7_ruleFor_55 4 rfl ?_
            cases H
            exact WP.ireturn d_X7_ruleFor_56 rfl rfl (Nat.le_of_ble_eq_true rfl) (Nat.le_of_ble_eq_true rfl)
          · refine WP.icmp_eq_f d_X7_ruleFor_42 hc ?_
            refine WP.iload_n d_X7_ruleFor_45 3 rfl ?_
            refine WP.i2l d_X7_ruleFor_46 ?_
            refine WP.iload d_X7_ruleFor_47 0 rfl ?_
            obtain ⟨x11, e10, H⟩ := ob H
            refine WP.cS (As := [.long l1.toInt64, .int x5]) (st := []) (st9 := [.int x11]) (cl9 := 0) (sl9 := 0) d_X7_ruleFor_49 (ok_X7_has V (h := h) e10) tv_X7_has ts_X7_has lk_X7_133 r_X7_ruleFor_X7_has rfl rfl (Nat.le_of_ble_eq_true rfl) rfl rfl rfl ?_
            rcases oj H with ⟨hc, H⟩ | ⟨hc, H⟩
            · refine WP.if_ne_t d_X7_ruleFor_52 hc ?_
              refine WP.iload_n d_X7_ruleFor_55 4 rfl ?_
              cases H
              exact WP.ireturn d_X7_ruleFor_56 rfl rfl (Nat.le_of_ble_eq_true rfl) (Nat.le_of_ble_eq_true rfl)
            · refine WP.if_ne_f d_X7_ruleFor_52 hc ?_
              refine WP.iinc (lv9 := [(2, .int (l2 + 1)), (4, .int x5), (3, .int x3), (0, .ref l0), (1, .int l1)]) d_X7_ruleFor_57 4 rfl ki_1 (Nat.le_of_ble_eq_true rfl) rfl ?_
              refine WP.goto d_X7_ruleFor_60 ?_
              refine WP.sub [3, 4, 0] (lv' := [(0, .ref l0), (1, .int l1), (2, .int (l2 + 1))]) rfl ?_
              exact ih H
    · refine WP.icmp_ge_f d_X7_ruleFor_7 hc ?_
      refine WP.iconst d_X7_ruleFor_63 ki_m1 ?_
      cases H
      exact WP.ireturn d_X7_ruleFor_64 rfl rfl (Nat.le_of_ble_eq_true rfl) (Nat.le_of_ble_eq_true rfl)

set_option maxRecDepth 20000 in
set_option maxHeartbeats 4000000 in
theorem ok_X7_ruleFor (V : EV) {h : HA} {l0 : Nat} {l1 : Int32} {r : Int32} (H : X7_ruleFor h l0 l1 = some r) : MG V M_X7_ruleFor [.ref l0, .int l1] h (some (.int r)) h := by
  unfold X7_ruleFor at H
  refine MG.of (lv0 := [(0, .ref l0), (1, .int l1)]) pn_X7 rfl (Nat.le_of_ble_eq_true rfl) ?_
  refine WP.iconst d_X7_ruleFor_0 ki_0 ?_
  refine WP.istore_n (lv9 := [(2, .int 0), (0, .ref l0), (1, .int l1)]) d_X7_ruleFor_1 (Nat.le_of_ble_eq_true rfl) rfl ?_
  refine WP.sub [1, 2, 0] (lv' := [(0, .ref l0), (1, .int l1), (2, .int 0)]) rfl ?_
  exact okl_X7_ruleFor_L2 V _ H

set_option maxRecDepth 20000 in
set_option maxHeartbeats 4000000 in
theorem ok_X7_voteBy (V : EV) {h : HA} {l0 : Nat} {l1 : Int32} {r : Int32} (H : X7_voteBy h l0 l1 = some r) : MG V M_X7_voteBy [.ref l0, .int l1] h (some (.int r)) h := by
  unfold X7_voteBy at H
  refine MG.of (lv0 := [(0, .ref l0), (1, .int l1)]) pn_X7 rfl (Nat.le_of_ble_eq_true rfl) ?_
  refine WP.aload_n d_X7_voteBy_0 0 rfl ?_
  refine WP.iload_n d_X7_voteBy_1 1 rfl ?_
  obtain ⟨x2, e1, H⟩ := ob H
  refine WP.cS (As := [.ref l0, .int l1]) (st := []) (st9 := [.int x2]) (cl9 := 0) (sl9 := 0) d_X7_voteBy_2 (ok_X7_ruleFor V e1) tv_X7_ruleFor ts_X7_ruleFor lk_X7_266 r_X7_voteBy_X7_ruleFor rfl rfl (Nat.le_of_ble_eq_true rfl) rfl rfl rfl ?_
  refine WP.istore_n (lv9 := [(2, .int x2), (0, .ref l0), (1, .int l1)]) d_X7_voteBy_5 (Nat.le_of_ble_eq_true rfl) rfl ?_
  refine WP.iload_n d_X7_voteBy_6 0 rfl ?_
  refine WP.iconst d_X7_voteBy_7 ki_m1 ?_
  rcases oj H with ⟨hc, H⟩ | ⟨hc, H⟩
  · refine WP.icmp_ne_t d_X7_voteBy_8 hc ?_
    refine WP.iconst d_X7_voteBy_11 ki_m1 ?_
    refine WP.goto d_X7_voteBy_12 ?_
    cases H
    exact WP.ireturn d_X7_voteBy_21 rfl rfl (Nat.le_of_ble_eq_true rfl) (Nat.le_of_ble_eq_true rfl)
  · refine WP.icmp_ne_f d_X7_voteBy_8 hc ?_
    refine WP.aload_n d_X7_voteBy_15 1 rfl ?_
    refine WP.iload_n d_X7_voteBy_16 0 rfl ?_
    refine WP.iconst d_X7_voteBy_17 ki_0 ?_
    obtain ⟨x4, e3, H⟩ := ob H
    refine WP.cV (c := 3) (As := [.int x2, .int 0]) (st := []) (st9 := [.int x4]) (cl9 := 0) (sl9 := 0) d_X7_voteBy_18 (ok_X2_at V e3) tv_X2_at ti_X2_at ts_X2_at lk_X7_217 r_X7_voteBy_X2_at kc_X2_at (kd_X2_at e3) rfl rfl (Nat.le_of_ble_eq_true rfl) rfl rfl rfl ?_
    cases H
    exact WP.ireturn d_X7_voteBy_21 rfl rfl (Nat.le_of_ble_eq_true rfl) (Nat.le_of_ble_eq_true rfl)

set_option maxRecDepth 20000 in
set_option maxHeartbeats 4000000 in
theorem ok_X7_weight (V : EV) {h : HA} {l0 : Int32} {r : Int32} (H : X7_weight l0 = some r) : MG V M_X7_weight [.int l0] h (some (.int r)) h := by
  unfold X7_weight at H
  refine MG.of (lv0 := [(0, .int l0)]) pn_X7 rfl (Nat.le_of_ble_eq_true rfl) ?_
  refine WP.iload_n d_X7_weight_0 0 rfl ?_
  refine WP.iconst d_X7_weight_1 ki_m1 ?_
  rcases oj H with ⟨hc, H⟩ | ⟨hc, H⟩
  · refine WP.icmp_ne_t d_X7_weight_2 hc ?_
    refine WP.iconst d_X7_weight_5 ki_0 ?_
    cases H
    exact WP.ireturn d_X7_weight_6 rfl rfl (Nat.le_of_ble_eq_true rfl) (Nat.le_of_ble_eq_true rfl)
  · refine WP.icmp_ne_f d_X7_weight_2 hc ?_
    refine WP.iload_n d_X7_weight_7 0 rfl ?_
    refine WP.iconst d_X7_weight_8 ki_1 ?_
    rcases oj H with ⟨hc, H⟩ | ⟨hc, H⟩
    · refine WP.icmp_ne_t d_X7_weight_9 hc ?_
      refine WP.iconst d_X7_weight_12 ki_1 ?_
      refine WP.goto d_X7_weight_13 ?_
      cases H
      exact WP.ireturn d_X7_weight_17 rfl rfl (Nat.le_of_ble_eq_true rfl) (Nat.le_of_ble_eq_true rfl)
    · refine WP.icmp_ne_f d_X7_weight_9 hc ?_
      refine WP.iconst d_X7_weight_16 ki_m1 ?_
      cases H
      exact WP.ireturn d_X7_weight_17 rfl rfl (Nat.le_of_ble_eq_true rfl) (Nat.le_of_ble_eq_true rfl)

set_option maxRecDepth 20000 in
set_option maxHeartbeats 4000000 in
theorem okl_X7_tally_L5 (V : EV) {vF : Option Value} {hF : HA} {h : HA} {l0 : Nat} {l1 : Nat} {l2 : Int32} (n : Nat) : ∀ {l3 : Int32} {l4 : Int32} {r3 : Int32}, (H : X7_tally_L5 h l0 l1 l2 n l3 l4 = some r3) → (K : WP V M_X7_tally 42 [(3, .int r3)] [] h 0 0 vF hF) → WP V M_X7_tally 5 [(0, .ref l0), (1, .ref l1), (2, .int l2), (3, .int l3), (4, .int l4)] [] h 0 0 vF hF := by
  induction n with
  | zero =>
    intro l3 l4 r3 H K
    rw [X7_tally_L5] at H
    cases H
  | succ n ih =>
    intro l3 l4 r3 H K
    rw [X7_tally_L5] at H
    refine WP.iload d_X7_tally_5 4 rfl ?_
    refine WP.aload_n d_X7_tally_7 0 rfl ?_
    obtain ⟨x1, ex1, H⟩ := ob H
    refine WP.fR d_X7_tally_8 gf_X7_239 (fun _ => rfl) ex1 ?_
    obtain ⟨x2, ex2, H⟩ := ob H
    refine WP.fI d_X7_tally_11 gf_X7_123 (fun _ => rfl) ex2 ?_
    rcases oj H with ⟨hc, H⟩ | ⟨hc, H⟩
    · refine WP.icmp_ge_t d_X7_tally_14 hc ?_
      refine WP.iload_n d_X7_tally_17 3 rfl ?_
      refine WP.aload_n d_X7_tally_18 1 rfl ?_
      refine WP.aload_n d_X7_tally_19 0 rfl ?_
      obtain ⟨x3, ex3, H⟩ := ob H
      refine WP.fR d_X7_tally_20 gf_X7_259 (fun _ => rfl) ex3 ?_
      refine WP.iload d_X7_tally_23 4 rfl ?_
      obtain ⟨x4, ex4, H⟩ := ob H
      refine WP.iald d_X7_tally_25 ex4 ?_
      refine WP.iload_n d_X7_tally_26 2 rfl ?_
      refine WP.ior d_X7_tally_27 ?_
      obtain ⟨x6, e5, H⟩ := ob H
      refine WP.cS (As := [.ref l1, .int (x4 ||| l2)]) (st := [.int l3]) (st9 := [.int x6, .int l3]) (cl9 := 0) (sl9 := 0) d_X7_tally_28 (ok_X7_voteBy V e5) tv_X7_voteBy ts_X7_voteBy lk_X7_262 r_X7_tally_X7_voteBy rfl rfl (Nat.le_of_ble_eq_true rfl) rfl rfl rfl ?_
      obtain ⟨x8, e7, H⟩ := ob H
      refine WP.cS (As := [.int x6]) (st := [.int l3]) (st9 := [.int x8, .int l3]) (cl9 := 0) (sl9 := 0) d_X7_tally_31 (ok_X7_weight V (h := h) e7) tv_X7_weight ts_X7_weight lk_X7_269 r_X7_tally_X7_weight rfl rfl (Nat.le_of_ble_eq_true rfl) rfl rfl rfl ?_
      refine WP.iadd d_X7_tally_34 ?_
      refine WP.istore_n (lv9 := [(3, .int (l3 + x8)), (0, .ref l0), (1, .ref l1), (2, .int l2), (4, .int l4)]) d_X7_tally_35 (Nat.le_of_ble_eq_true rfl) rfl ?_
      refine WP.iinc (lv9 := [(4, .int (l4 + 1)), (3, .int (l3 + x8)), (0, .ref l0), (1, .ref l1), (2, .int l2)]) d_X7_tally_36 4 rfl ki_1 (Nat.le_of_ble_eq_true rfl) rfl ?_
      refine WP.goto d_X7_tally_39 ?_
      refine WP.sub [2, 3, 4, 1, 0] (lv' := [(0, .ref l0), (1, .ref l1), (2, .int l2), (3, .int (l3 + x8)), (4, .int (l4 + 1))]) rfl ?_
      exact ih H K
    · refine WP.icmp_ge_f d_X7_tally_14 hc ?_
      cases H
      exact WP.sub [3] rfl K

set_option maxRecDepth 20000 in
set_option maxHeartbeats 4000000 in
theorem ok_X7_tally (V : EV) {h : HA} {l0 : Nat} {l1 : Nat} {l2 : Int32} {r : Int32} (H : X7_tally h l0 l1 l2 = some r) : MG V M_X7_tally [.ref l0, .ref l1, .int l2] h (some (.int r)) h := by
  unfold X7_tally at H
  refine MG.of (lv0 := [(0, .ref l0), (1, .ref l1), (2, .int l2)]) pn_X7 rfl (Nat.le_of_ble_eq_true rfl) ?_
  refine WP.iconst d_X7_tally_0 ki_0 ?_
  refine WP.istore_n (lv9 := [(3, .int 0), (0, .ref l0), (1, .ref l1), (2, .int l2)]) d_X7_tally_1 (Nat.le_of_ble_eq_true rfl) rfl ?_
  refine WP.iconst d_X7_tally_2 ki_0 ?_
  refine WP.istore (lv9 := [(4, .int 0), (3, .int 0), (0, .ref l0), (1, .ref l1), (2, .int l2)]) d_X7_tally_3 (Nat.le_of_ble_eq_true rfl) rfl ?_
  obtain ⟨y10, e9, H⟩ := ob H
  refine WP.sub [2, 3, 4, 1, 0] (lv' := [(0, .ref l0), (1, .ref l1), (2, .int l2), (3, .int 0), (4, .int 0)]) rfl ?_
  refine okl_X7_tally_L5 V _ e9 ?_
  refine WP.iload_n d_X7_tally_42 0 rfl ?_
  cases H
  exact WP.ireturn d_X7_tally_43 rfl rfl (Nat.le_of_ble_eq_true rfl) (Nat.le_of_ble_eq_true rfl)

set_option maxRecDepth 20000 in
set_option maxHeartbeats 4000000 in
theorem ok_X7_verdictOf (V : EV) {h : HA} {l0 : Int32} {r : Int32} (H : X7_verdictOf l0 = some r) : MG V M_X7_verdictOf [.int l0] h (some (.int r)) h := by
  unfold X7_verdictOf at H
  refine MG.of (lv0 := [(0, .int l0)]) pn_X7 rfl (Nat.le_of_ble_eq_true rfl) ?_
  refine WP.iload_n d_X7_verdictOf_0 0 rfl ?_
  rcases oj H with ⟨hc, H⟩ | ⟨hc, H⟩
  · refine WP.if_ne_t d_X7_verdictOf_1 hc ?_
    refine WP.iconst d_X7_verdictOf_4 ki_m1 ?_
    cases H
    exact WP.ireturn d_X7_verdictOf_5 rfl rfl (Nat.le_of_ble_eq_true rfl) (Nat.le_of_ble_eq_true rfl)
  · refine WP.if_ne_f d_X7_verdictOf_1 hc ?_
    refine WP.iload_n d_X7_verdictOf_6 0 rfl ?_
    rcases oj H with ⟨hc, H⟩ | ⟨hc, H⟩
    · refine WP.if_le_t d_X7_verdictOf_7 hc ?_
      refine WP.iconst d_X7_verdictOf_10 ki_1 ?_
      refine WP.goto d_X7_verdictOf_11 ?_
      cases H
      exact WP.ireturn d_X7_verdictOf_15 rfl rfl (Nat.le_of_ble_eq_true rfl) (Nat.le_of_ble_eq_true rfl)
    · refine WP.if_le_f d_X7_verdictOf_7 hc ?_
      refine WP.iconst d_X7_verdictOf_14 ki_0 ?_
      cases H
      exact WP.ireturn d_X7_verdictOf_15 rfl rfl (Nat.le_of_ble_eq_true rfl) (Nat.le_of_ble_eq_true rfl)

set_option maxRecDepth 20000 in
set_option maxHeartbeats 4000000 in
theorem ok_X7_votes (V : EV) {h : HA} {t : Nat} {l1 : Int32} {l2 : Int32} {l3 : Int32} {l4 : Int32} {r : Int32} {hR : HA} (H : X7_votes h t l1 l2 l3 l4 = some (r, hR)) : MG V M_X7_votes [.ref t, .int l1, .int l2, .int l3, .int l4] h (some (.int r)) hR := by
  unfold X7_votes at H
  obtain ⟨_, H⟩ := oc H
  refine MG.of (lv0 := [(0, .ref t), (1, .int l1), (2, .int l2), (3, .int l3), (4, .int l4)]) pn_X7 rfl (Nat.le_of_ble_eq_true rfl) ?_
  refine WP.aload_n d_X7_votes_0 0 rfl ?_
  refine WP.iconst d_X7_votes_1 ki_2 ?_
  refine WP.iload_n d_X7_votes_2 3 rfl ?_
  obtain ⟨x2, e1, H⟩ := ob H
  refine WP.cV (c := 8) (As := [.int 2, .int l3]) (st := []) (st9 := va_rf x2 :: []) (cl9 := 0) (sl9 := 0) d_X7_votes_3 (ok_X7_listAt V e1) tv_X7_listAt ti_X7_listAt ts_X7_listAt lk_X7_99 r_X7_votes_X7_listAt kc_X7_listAt (kd_X7_listAt e1) rfl rfl (Nat.le_of_ble_eq_true rfl) rfl rfl rfl ?_
  rcases x2 with _ | z3
  · dsimp only at H
    refine WP.astoreN (lv9 := [(5, .null), (0, .ref t), (1, .int l1), (2, .int l2), (3, .int l3), (4, .int l4)]) d_X7_votes_6 (Nat.le_of_ble_eq_true rfl) rfl ?_
    refine WP.aload_n d_X7_votes_8 1 rfl ?_
    refine WP.iload_n d_X7_votes_9 2 rfl ?_
    refine WP.iload_n d_X7_votes_10 3 rfl ?_
    obtain ⟨⟨x6, h5⟩, e4, H⟩ := ob H
    refine WP.cV (c := 8) (As := [.int l1, .int l2]) (st := []) (st9 := va_rf x6 :: []) (cl9 := 0) (sl9 := 0) d_X7_votes_11 (ok_X7_hallOf V e4) tv_X7_hallOf ti_X7_hallOf ts_X7_hallOf lk_X7_220 r_X7_votes_X7_hallOf kc_X7_hallOf (kd_X7_hallOf e4) rfl rfl (Nat.le_of_ble_eq_true rfl) rfl rfl rfl ?_
    rcases x6 with _ | z7
    · dsimp only at H
      refine WP.astoreN (lv9 := [(6, .null), (5, .null), (0, .ref t), (1, .int l1), (2, .int l2), (3, .int l3), (4, .int l4)]) d_X7_votes_14 (Nat.le_of_ble_eq_true rfl) rfl ?_
      refine WP.aloadN d_X7_votes_16 1 rfl ?_
      refine WP.nN d_X7_votes_18 ?_
      refine WP.bipush d_X7_votes_26 kb_m2 ?_
      cases H
      exact WP.ireturn d_X7_votes_28 rfl rfl (Nat.le_of_ble_eq_true rfl) (Nat.le_of_ble_eq_true rfl)
    · dsimp only at H
      refine WP.astore (lv9 := [(6, .ref z7), (5, .null), (0, .ref t), (1, .int l1), (2, .int l2), (3, .int l3), (4, .int l4)]) d_X7_votes_14 (Nat.le_of_ble_eq_true rfl) rfl ?_
      refine WP.aloadN d_X7_votes_16 1 rfl ?_
      refine WP.nN d_X7_votes_18 ?_
      refine WP.bipush d_X7_votes_26 kb_m2 ?_
      cases H
      exact WP.ireturn d_X7_votes_28 rfl rfl (Nat.le_of_ble_eq_true rfl) (Nat.le_of_ble_eq_true rfl)
  · dsimp only at H
    refine WP.astore (lv9 := [(5, .ref z3), (0, .ref t), (1, .int l1), (2, .int l2), (3, .int l3), (4, .int l4)]) d_X7_votes_6 (Nat.le_of_ble_eq_true rfl) rfl ?_
    refine WP.aload_n d_X7_votes_8 1 rfl ?_
    refine WP.iload_n d_X7_votes_9 2 rfl ?_
    refine WP.iload_n d_X7_votes_10 3 rfl ?_
    obtain ⟨⟨x10, h9⟩, e8, H⟩ := ob H
    refine WP.cV (c := 8) (As := [.int l1, .int l2]) (st := []) (st9 := va_rf x10 :: []) (cl9 := 0) (sl9 := 0) d_X7_votes_11 (ok_X7_hallOf V e8) tv_X7_hallOf ti_X7_hallOf ts_X7_hallOf lk_X7_220 r_X7_votes_X7_hallOf kc_X7_hallOf (kd_X7_hallOf e8) rfl rfl (Nat.le_of_ble_eq_true rfl) rfl rfl rfl ?_
    rcases x10 with _ | z11
    · dsimp only at H
      refine WP.astoreN (lv9 := [(6, .null), (5, .ref z3), (0, .ref t), (1, .int l1), (2, .int l2), (3, .int l3), (4, .int l4)]) d_X7_votes_14 (Nat.le_of_ble_eq_true rfl) rfl ?_
      refine WP.aload d_X7_votes_16 1 rfl ?_
      refine WP.nR d_X7_votes_18 ?_
      refine WP.aloadN d_X7_votes_21 0 rfl ?_
      refine WP.nnN d_X7_votes_23 ?_
      refine WP.bipush d_X7_votes_26 kb_m2 ?_
      cases H
      exact WP.ireturn d_X7_votes_28 rfl rfl (Nat.le_of_ble_eq_true rfl) (Nat.le_of_ble_eq_true rfl)
    · dsimp only at H
      refine WP.astore (lv9 := [(6, .ref z11), (5, .ref z3), (0, .ref t), (1, .int l1), (2, .int l2), (3, .int l3), (4, .int l4)]) d_X7_votes_14 (Nat.le_of_ble_eq_true rfl) rfl ?_
      refine WP.aload d_X7_votes_16 1 rfl ?_
      refine WP.nR d_X7_votes_18 ?_
      refine WP.aload d_X7_votes_21 0 rfl ?_
      refine WP.nnR d_X7_votes_23 ?_
      refine WP.aload d_X7_votes_29 0 rfl ?_
      obtain ⟨h13, e12, H⟩ := ob H
      refine WP.cV (c := 2) (As := []) (st := []) (st9 := []) (cl9 := 0) (sl9 := 0) d_X7_votes_31 (ok_X1_learnAll V e12) tv_X1_learnAll ti_X1_learnAll ts_X1_learnAll lk_X7_249 r_X7_votes_X1_learnAll kc_X1_learnAll (kd_X1_learnAll e12) rfl rfl (Nat.le_of_ble_eq_true rfl) rfl rfl rfl ?_
      refine WP.iload d_X7_votes_34 6 rfl ?_
      refine WP.iconst d_X7_votes_36 ki_m1 ?_
      rcases oj H with ⟨hc, H⟩ | ⟨hc, H⟩
      · refine WP.icmp_ne_t d_X7_votes_37 hc ?_
        refine WP.aload d_X7_votes_40 0 rfl ?_
        refine WP.aload d_X7_votes_42 1 rfl ?_
        refine WP.iconst d_X7_votes_44 ki_0 ?_
        obtain ⟨x15, e14, H⟩ := ob H
        refine WP.cS (As := [.ref z11, .ref z3, .int 0]) (st := []) (st9 := [.int x15]) (cl9 := 0) (sl9 := 0) d_X7_votes_45 (ok_X7_tally V e14) tv_X7_tally ts_X7_tally lk_X7_252 r_X7_votes_X7_tally rfl rfl (Nat.le_of_ble_eq_true rfl) rfl rfl rfl ?_
        obtain ⟨x17, e16, H⟩ := ob H
        refine WP.cS (As := [.int x15]) (st := []) (st9 := [.int x17]) (cl9 := 0) (sl9 := 0) d_X7_votes_48 (ok_X7_verdictOf V (h := h13) e16) tv_X7_verdictOf ts_X7_verdictOf lk_X7_256 r_X7_votes_X7_verdictOf rfl rfl (Nat.le_of_ble_eq_true rfl) rfl rfl rfl ?_
        cases H
        exact WP.ireturn d_X7_votes_51 rfl rfl (Nat.le_of_ble_eq_true rfl) (Nat.le_of_ble_eq_true rfl)
      · refine WP.icmp_ne_f d_X7_votes_37 hc ?_
        refine WP.aload d_X7_votes_52 0 rfl ?_
        obtain ⟨x18, ex18, H⟩ := ob H
        refine WP.fR d_X7_votes_54 gf_X7_239 (fun _ => rfl) ex18 ?_
        refine WP.iload d_X7_votes_57 6 rfl ?_
        obtain ⟨x20, e19, H⟩ := ob H
        refine WP.cV (c := 1) (As := [.int l4]) (st := []) (st9 := [.int x20]) (cl9 := 0) (sl9 := 0) d_X7_votes_59 (ok_X0_hasJudge V e19) tv_X0_hasJudge ti_X0_hasJudge ts_X0_hasJudge lk_X7_137 r_X7_votes_X0_hasJudge kc_X0_hasJudge (kd_X0_hasJudge e19) rfl rfl (Nat.le_of_ble_eq_true rfl) rfl rfl rfl ?_
        rcases oj H with ⟨hc, H⟩ | ⟨hc, H⟩
        · refine WP.if_eq_t d_X7_votes_62 hc ?_
          refine WP.bipush d_X7_votes_81 kb_m2 ?_
          cases H
          exact WP.ireturn d_X7_votes_83 rfl rfl (Nat.le_of_ble_eq_true rfl) (Nat.le_of_ble_eq_true rfl)
        · refine WP.if_eq_f d_X7_votes_62 hc ?_
          refine WP.aload d_X7_votes_65 1 rfl ?_
          refine WP.aload d_X7_votes_67 0 rfl ?_
          obtain ⟨x21, ex21, H⟩ := ob H
          refine WP.fR d_X7_votes_69 gf_X7_259 (fun _ => rfl) ex21 ?_
          refine WP.iload d_X7_votes_72 6 rfl ?_
          obtain ⟨x22, ex22, H⟩ := ob H
          refine WP.iald d_X7_votes_74 ex22 ?_
          obtain ⟨x24, e23, H⟩ := ob H
          refine WP.cS (As := [.ref z3, .int x22]) (st := []) (st9 := [.int x24]) (cl9 := 0) (sl9 := 0) d_X7_votes_75 (ok_X7_voteBy V e23) tv_X7_voteBy ts_X7_voteBy lk_X7_262 r_X7_votes_X7_voteBy rfl rfl (Nat.le_of_ble_eq_true rfl) rfl rfl rfl ?_
          refine WP.goto d_X7_votes_78 ?_
          cases H
          exact WP.ireturn d_X7_votes_83 rfl rfl (Nat.le_of_ble_eq_true rfl) (Nat.le_of_ble_eq_true rfl)

set_option maxRecDepth 20000 in
set_option maxHeartbeats 4000000 in
theorem okl_X7_sway_L60 (V : EV) {vF : Option Value} {hF : HA} {h : HA} {l4 : Int32} {l5 : Nat} {l6 : Nat} {l7 : Int32} (n : Nat) : ∀ {l8 : Int32} {l9 : Int32} {r8 : Int32}, (H : X7_sway_L60 h l4 l5 l6 l7 n l8 l9 = some r8) → (K : WP V M_X7_sway 153 [(8, .int r8)] [] h 0 0 vF hF) → WP V M_X7_sway 60 [(4, .int l4), (5, .ref l5), (6, .ref l6), (7, .int l7), (8, .int l8), (9, .int l9)] [] h 0 0 vF hF := by
  induction n with
  | zero =>
    intro l8 l9 r8 H K
    rw [X7_sway_L60] at H
    cases H
  | succ n ih =>
    intro l8 l9 r8 H K
    rw [X7_sway_L60] at H
    refine WP.iload d_X7_sway_60 5 rfl ?_
    refine WP.aload d_X7_sway_62 2 rfl ?_
    obtain ⟨x16, ex16, H⟩ := ob H
    refine WP.fR d_X7_sway_64 gf_X7_239 (fun _ => rfl) ex16 ?_
    obtain ⟨x17, ex17, H⟩ := ob H
    refine WP.fI d_X7_sway_67 gf_X7_123 (fun _ => rfl) ex17 ?_
    rcases oj H with ⟨hc, H⟩ | ⟨hc, H⟩
    · refine WP.icmp_ge_t d_X7_sway_70 hc ?_
      refine WP.aload d_X7_sway_73 1 rfl ?_
      refine WP.aload d_X7_sway_75 2 rfl ?_
      obtain ⟨x18, ex18, H⟩ := ob H
      refine WP.fR d_X7_sway_77 gf_X7_259 (fun _ => rfl) ex18 ?_
      refine WP.iload d_X7_sway_80 5 rfl ?_
      obtain ⟨x19, ex19, H⟩ := ob H
      refine WP.iald d_X7_sway_82 ex19 ?_
      obtain ⟨x21, e20, H⟩ := ob H
      refine WP.cS (As := [.ref l5, .int x19]) (st := []) (st9 := [.int x21]) (cl9 := 0) (sl9 := 0) d_X7_sway_83 (ok_X7_voteBy V e20) tv_X7_voteBy ts_X7_voteBy lk_X7_262 r_X7_sway_X7_voteBy rfl rfl (Nat.le_of_ble_eq_true rfl) rfl rfl rfl ?_
      obtain ⟨x23, e22, H⟩ := ob H
      refine WP.cS (As := [.int x21]) (st := []) (st9 := [.int x23]) (cl9 := 0) (sl9 := 0) d_X7_sway_86 (ok_X7_weight V (h := h) e22) tv_X7_weight ts_X7_weight lk_X7_269 r_X7_sway_X7_weight rfl rfl (Nat.le_of_ble_eq_true rfl) rfl rfl rfl ?_
      refine WP.istore (lv9 := [(10, .int x23), (4, .int l4), (5, .ref l5), (6, .ref l6), (7, .int l7), (8, .int l8), (9, .int l9)]) d_X7_sway_89 (Nat.le_of_ble_eq_true rfl) rfl ?_
      refine WP.iload d_X7_sway_91 1 rfl ?_
      obtain ⟨j24, hs25, H⟩ := ob H
      have J26 : WP V M_X7_sway 117 [(4, .int l4), (5, .ref l5), (6, .ref l6), (7, .int l7), (8, .int l8), (9, .int l9), (10, .int x23)] [.int j24] h 0 0 vF hF := by
        refine WP.istore (lv9 := [(11, .int j24), (4, .int l4), (5, .ref l5), (6, .ref l6), (7, .int l7), (8, .int l8), (9, .int l9), (10, .int x23)]) d_X7_sway_117 (Nat.le_of_ble_eq_true rfl) rfl ?_
        refine WP.iload d_X7_sway_119 4 rfl ?_
        refine WP.iload d_X7_sway_121 7 rfl ?_
        refine WP.isub d_X7_sway_123 ?_
        refine WP.iload d_X7_sway_124 0 rfl ?_
        refine WP.iadd d_X7_sway_126 ?_
        obtain ⟨x34, e33, H⟩ := ob H
        refine WP.cS (As := [.int ((l7 - x23) + j24)]) (st := []) (st9 := [.int x34]) (cl9 := 0) (sl9 := 0) d_X7_sway_127 (ok_X7_verdictOf V (h := h) e33) tv_X7_verdictOf ts_X7_verdictOf lk_X7_256 r_X7_sway_X7_verdictOf rfl rfl (Nat.le_of_ble_eq_true rfl) rfl rfl rfl ?_
        refine WP.iload d_X7_sway_130 4 rfl ?_
        obtain ⟨x36, e35, H⟩ := ob H
        refine WP.cS (As := [.int l7]) (st := [.int x34]) (st9 := [.int x36, .int x34]) (cl9 := 0) (sl9 := 0) d_X7_sway_132 (ok_X7_verdictOf V (h := h) e35) tv_X7_verdictOf ts_X7_verdictOf lk_X7_256 r_X7_sway_X7_verdictOf rfl rfl (Nat.le_of_ble_eq_true rfl) rfl rfl rfl ?_
        rcases oj H with ⟨hc, H⟩ | ⟨hc, H⟩
        · refine WP.icmp_eq_t d_X7_sway_135 hc ?_
          refine WP.iinc (lv9 := [(9, .int (l9 + 1)), (11, .int j24), (4, .int l4), (5, .ref l5), (6, .ref l6), (7, .int l7), (8, .int l8), (10, .int x23)]) d_X7_sway_147 6 rfl ki_1 (Nat.le_of_ble_eq_true rfl) rfl ?_
          refine WP.goto d_X7_sway_150 ?_
          refine WP.sub [2, 3, 4, 5, 6, 0] (lv' := [(4, .int l4), (5, .ref l5), (6, .ref l6), (7, .int l7), (8, .int l8), (9, .int (l9 + 1))]) rfl ?_
          exact ih H K
        · refine WP.icmp_eq_f d_X7_sway_135 hc ?_
          refine WP.iload d_X7_sway_138 5 rfl ?_
          refine WP.iconst d_X7_sway_140 ki_1 ?_
          refine WP.iload d_X7_sway_141 6 rfl ?_
          refine WP.ishl d_X7_sway_143 ?_
          refine WP.ior d_X7_sway_144 ?_
          refine WP.istore (lv9 := [(8, .int (l8 ||| (shlI 1 l9))), (11, .int j24), (4, .int l4), (5, .ref l5), (6, .ref l6), (7, .int l7), (9, .int l9), (10, .int x23)]) d_X7_sway_145 (Nat.le_of_ble_eq_true rfl) rfl ?_
          refine WP.iinc (lv9 := [(9, .int (l9 + 1)), (8, .int (l8 ||| (shlI 1 l9))), (11, .int j24), (4, .int l4), (5, .ref l5), (6, .ref l6), (7, .int l7), (10, .int x23)]) d_X7_sway_147 6 rfl ki_1 (Nat.le_of_ble_eq_true rfl) rfl ?_
          refine WP.goto d_X7_sway_150 ?_
          refine WP.sub [3, 4, 5, 6, 1, 0] (lv' := [(4, .int l4), (5, .ref l5), (6, .ref l6), (7, .int l7), (8, .int (l8 ||| (shlI 1 l9))), (9, .int (l9 + 1))]) rfl ?_
          exact ih H K
      rcases oj hs25 with ⟨hc, hs25⟩ | ⟨hc, hs25⟩
      · refine WP.if_ne_t d_X7_sway_93 hc ?_
        refine WP.iload d_X7_sway_96 0 rfl ?_
        refine WP.ineg d_X7_sway_98 ?_
        refine WP.goto d_X7_sway_99 ?_
        cases hs25
        exact WP.sub [1, 2, 3, 4, 5, 6, 0] rfl J26
      · refine WP.if_ne_f d_X7_sway_93 hc ?_
        refine WP.aload d_X7_sway_102 2 rfl ?_
        refine WP.aload d_X7_sway_104 3 rfl ?_
        refine WP.iload d_X7_sway_106 6 rfl ?_
        obtain ⟨x28, e27, hs25⟩ := ob hs25
        refine WP.cV (c := 2) (As := [.int l9]) (st := [.ref l5]) (st9 := [.int x28, .ref l5]) (cl9 := 0) (sl9 := 0) d_X7_sway_108 (ok_X1_learnedByOtherEar V e27) tv_X1_learnedByOtherEar ti_X1_learnedByOtherEar ts_X1_learnedByOtherEar lk_X7_272 r_X7_sway_X1_learnedByOtherEar kc_X1_learnedByOtherEar (kd_X1_learnedByOtherEar e27) rfl rfl (Nat.le_of_ble_eq_true rfl) rfl rfl rfl ?_
        obtain ⟨x30, e29, hs25⟩ := ob hs25
        refine WP.cS (As := [.ref l5, .int x28]) (st := []) (st9 := [.int x30]) (cl9 := 0) (sl9 := 0) d_X7_sway_111 (ok_X7_voteBy V e29) tv_X7_voteBy ts_X7_voteBy lk_X7_262 r_X7_sway_X7_voteBy rfl rfl (Nat.le_of_ble_eq_true rfl) rfl rfl rfl ?_
        obtain ⟨x32, e31, hs25⟩ := ob hs25
        refine WP.cS (As := [.int x30]) (st := []) (st9 := [.int x32]) (cl9 := 0) (sl9 := 0) d_X7_sway_114 (ok_X7_weight V (h := h) e31) tv_X7_weight ts_X7_weight lk_X7_269 r_X7_sway_X7_weight rfl rfl (Nat.le_of_ble_eq_true rfl) rfl rfl rfl ?_
        cases hs25
        exact WP.sub [1, 2, 3, 4, 5, 6, 0] rfl J26
    · refine WP.icmp_ge_f d_X7_sway_70 hc ?_
      cases H
      exact WP.sub [4] rfl K

set_option maxRecDepth 20000 in
set_option maxHeartbeats 4000000 in
theorem ok_X7_sway (V : EV) {h : HA} {t : Nat} {l1 : Int32} {l2 : Int32} {l3 : Int32} {l4 : Int32} {r : Int32} {hR : HA} (H : X7_sway h t l1 l2 l3 l4 = some (r, hR)) : MG V M_X7_sway [.ref t, .int l1, .int l2, .int l3, .int l4] h (some (.int r)) hR := by
  unfold X7_sway at H
  obtain ⟨_, H⟩ := oc H
  refine MG.of (lv0 := [(0, .ref t), (1, .int l1), (2, .int l2), (3, .int l3), (4, .int l4)]) pn_X7 rfl (Nat.le_of_ble_eq_true rfl) ?_
  refine WP.aload_n d_X7_sway_0 0 rfl ?_
  refine WP.iconst d_X7_sway_1 ki_2 ?_
  refine WP.iload_n d_X7_sway_2 3 rfl ?_
  obtain ⟨x2, e1, H⟩ := ob H
  refine WP.cV (c := 8) (As := [.int 2, .int l3]) (st := []) (st9 := va_rf x2 :: []) (cl9 := 0) (sl9 := 0) d_X7_sway_3 (ok_X7_listAt V e1) tv_X7_listAt ti_X7_listAt ts_X7_listAt lk_X7_99 r_X7_sway_X7_listAt kc_X7_listAt (kd_X7_listAt e1) rfl rfl (Nat.le_of_ble_eq_true rfl) rfl rfl rfl ?_
  rcases x2 with _ | z3
  · dsimp only at H
    refine WP.astoreN (lv9 := [(5, .null), (0, .ref t), (1, .int l1), (2, .int l2), (3, .int l3), (4, .int l4)]) d_X7_sway_6 (Nat.le_of_ble_eq_true rfl) rfl ?_
    refine WP.aload_n d_X7_sway_8 1 rfl ?_
    refine WP.iload_n d_X7_sway_9 2 rfl ?_
    refine WP.iload_n d_X7_sway_10 3 rfl ?_
    obtain ⟨⟨x6, h5⟩, e4, H⟩ := ob H
    refine WP.cV (c := 8) (As := [.int l1, .int l2]) (st := []) (st9 := va_rf x6 :: []) (cl9 := 0) (sl9 := 0) d_X7_sway_11 (ok_X7_hallOf V e4) tv_X7_hallOf ti_X7_hallOf ts_X7_hallOf lk_X7_220 r_X7_sway_X7_hallOf kc_X7_hallOf (kd_X7_hallOf e4) rfl rfl (Nat.le_of_ble_eq_true rfl) rfl rfl rfl ?_
    rcases x6 with _ | z7
    · dsimp only at H
      refine WP.astoreN (lv9 := [(6, .null), (5, .null), (0, .ref t), (1, .int l1), (2, .int l2), (3, .int l3), (4, .int l4)]) d_X7_sway_14 (Nat.le_of_ble_eq_true rfl) rfl ?_
      refine WP.aloadN d_X7_sway_16 1 rfl ?_
      refine WP.nN d_X7_sway_18 ?_
      refine WP.iconst d_X7_sway_37 ki_m1 ?_
      cases H
      exact WP.ireturn d_X7_sway_38 rfl rfl (Nat.le_of_ble_eq_true rfl) (Nat.le_of_ble_eq_true rfl)
    · dsimp only at H
      refine WP.astore (lv9 := [(6, .ref z7), (5, .null), (0, .ref t), (1, .int l1), (2, .int l2), (3, .int l3), (4, .int l4)]) d_X7_sway_14 (Nat.le_of_ble_eq_true rfl) rfl ?_
      refine WP.aloadN d_X7_sway_16 1 rfl ?_
      refine WP.nN d_X7_sway_18 ?_
      refine WP.iconst d_X7_sway_37 ki_m1 ?_
      cases H
      exact WP.ireturn d_X7_sway_38 rfl rfl (Nat.le_of_ble_eq_true rfl) (Nat.le_of_ble_eq_true rfl)
  · dsimp only at H
    refine WP.astore (lv9 := [(5, .ref z3), (0, .ref t), (1, .int l1), (2, .int l2), (3, .int l3), (4, .int l4)]) d_X7_sway_6 (Nat.le_of_ble_eq_true rfl) rfl ?_
    refine WP.aload_n d_X7_sway_8 1 rfl ?_
    refine WP.iload_n d_X7_sway_9 2 rfl ?_
    refine WP.iload_n d_X7_sway_10 3 rfl ?_
    obtain ⟨⟨x10, h9⟩, e8, H⟩ := ob H
    refine WP.cV (c := 8) (As := [.int l1, .int l2]) (st := []) (st9 := va_rf x10 :: []) (cl9 := 0) (sl9 := 0) d_X7_sway_11 (ok_X7_hallOf V e8) tv_X7_hallOf ti_X7_hallOf ts_X7_hallOf lk_X7_220 r_X7_sway_X7_hallOf kc_X7_hallOf (kd_X7_hallOf e8) rfl rfl (Nat.le_of_ble_eq_true rfl) rfl rfl rfl ?_
    rcases x10 with _ | z11
    · dsimp only at H
      refine WP.astoreN (lv9 := [(6, .null), (5, .ref z3), (0, .ref t), (1, .int l1), (2, .int l2), (3, .int l3), (4, .int l4)]) d_X7_sway_14 (Nat.le_of_ble_eq_true rfl) rfl ?_
      refine WP.aload d_X7_sway_16 1 rfl ?_
      refine WP.nR d_X7_sway_18 ?_
      refine WP.aloadN d_X7_sway_21 0 rfl ?_
      refine WP.nN d_X7_sway_23 ?_
      refine WP.iconst d_X7_sway_37 ki_m1 ?_
      cases H
      exact WP.ireturn d_X7_sway_38 rfl rfl (Nat.le_of_ble_eq_true rfl) (Nat.le_of_ble_eq_true rfl)
    · dsimp only at H
      refine WP.astore (lv9 := [(6, .ref z11), (5, .ref z3), (0, .ref t), (1, .int l1), (2, .int l2), (3, .int l3), (4, .int l4)]) d_X7_sway_14 (Nat.le_of_ble_eq_true rfl) rfl ?_
      refine WP.aload d_X7_sway_16 1 rfl ?_
      refine WP.nR d_X7_sway_18 ?_
      refine WP.aload d_X7_sway_21 0 rfl ?_
      refine WP.nR d_X7_sway_23 ?_
      refine WP.iload d_X7_sway_26 6 rfl ?_
      rcases oj H with ⟨hc, H⟩ | ⟨hc, H⟩
      · refine WP.if_lt_t d_X7_sway_28 hc ?_
        refine WP.iconst d_X7_sway_37 ki_m1 ?_
        cases H
        exact WP.ireturn d_X7_sway_38 rfl rfl (Nat.le_of_ble_eq_true rfl) (Nat.le_of_ble_eq_true rfl)
      · refine WP.if_lt_f d_X7_sway_28 hc ?_
        refine WP.iload d_X7_sway_31 6 rfl ?_
        refine WP.iconst d_X7_sway_33 ki_1 ?_
        rcases oj H with ⟨hc, H⟩ | ⟨hc, H⟩
        · refine WP.icmp_le_t d_X7_sway_34 hc ?_
          refine WP.iconst d_X7_sway_37 ki_m1 ?_
          cases H
          exact WP.ireturn d_X7_sway_38 rfl rfl (Nat.le_of_ble_eq_true rfl) (Nat.le_of_ble_eq_true rfl)
        · refine WP.icmp_le_f d_X7_sway_34 hc ?_
          refine WP.aload d_X7_sway_39 0 rfl ?_
          obtain ⟨h13, e12, H⟩ := ob H
          refine WP.cV (c := 2) (As := []) (st := []) (st9 := []) (cl9 := 0) (sl9 := 0) d_X7_sway_41 (ok_X1_learnAll V e12) tv_X1_learnAll ti_X1_learnAll ts_X1_learnAll lk_X7_249 r_X7_sway_X1_learnAll kc_X1_learnAll (kd_X1_learnAll e12) rfl rfl (Nat.le_of_ble_eq_true rfl) rfl rfl rfl ?_
          refine WP.aload d_X7_sway_44 0 rfl ?_
          refine WP.aload d_X7_sway_46 1 rfl ?_
          refine WP.iconst d_X7_sway_48 ki_0 ?_
          obtain ⟨x15, e14, H⟩ := ob H
          refine WP.cS (As := [.ref z11, .ref z3, .int 0]) (st := []) (st9 := [.int x15]) (cl9 := 0) (sl9 := 0) d_X7_sway_49 (ok_X7_tally V e14) tv_X7_tally ts_X7_tally lk_X7_252 r_X7_sway_X7_tally rfl rfl (Nat.le_of_ble_eq_true rfl) rfl rfl rfl ?_
          refine WP.istore (lv9 := [(7, .int x15), (6, .ref z11), (5, .ref z3), (0, .ref t), (1, .int l1), (2, .int l2), (3, .int l3), (4, .int l4)]) d_X7_sway_52 (Nat.le_of_ble_eq_true rfl) rfl ?_
          refine WP.iconst d_X7_sway_54 ki_0 ?_
          refine WP.istore (lv9 := [(8, .int 0), (7, .int x15), (6, .ref z11), (5, .ref z3), (0, .ref t), (1, .int l1), (2, .int l2), (3, .int l3), (4, .int l4)]) d_X7_sway_55 (Nat.le_of_ble_eq_true rfl) rfl ?_
          refine WP.iconst d_X7_sway_57 ki_0 ?_
          refine WP.istore (lv9 := [(9, .int 0), (8, .int 0), (7, .int x15), (6, .ref z11), (5, .ref z3), (0, .ref t), (1, .int l1), (2, .int l2), (3, .int l3), (4, .int l4)]) d_X7_sway_58 (Nat.le_of_ble_eq_true rfl) rfl ?_
          obtain ⟨y38, e37, H⟩ := ob H
          refine WP.sub [9, 4, 3, 2, 1, 0] (lv' := [(4, .int l4), (5, .ref z3), (6, .ref z11), (7, .int x15), (8, .int 0), (9, .int 0)]) rfl ?_
          refine okl_X7_sway_L60 V _ e37 ?_
          refine WP.iload d_X7_sway_153 0 rfl ?_
          cases H
          exact WP.ireturn d_X7_sway_155 rfl rfl (Nat.le_of_ble_eq_true rfl) (Nat.le_of_ble_eq_true rfl)

set_option maxRecDepth 20000 in
set_option maxHeartbeats 4000000 in
theorem ok_X7_sold (V : EV) {h : HA} {t : Nat} {l1 : Int32} {l2 : Int32} {l3 : Int32} {l4 : Int32} {r : Int32} {hR : HA} (H : X7_sold h t l1 l2 l3 l4 = some (r, hR)) : MG V M_X7_sold [.ref t, .int l1, .int l2, .int l3, .int l4] h (some (.int r)) hR := by
  unfold X7_sold at H
  obtain ⟨_, H⟩ := oc H
  refine MG.of (lv0 := [(0, .ref t), (1, .int l1), (2, .int l2), (3, .int l3), (4, .int l4)]) pn_X7 rfl (Nat.le_of_ble_eq_true rfl) ?_
  refine WP.aload_n d_X7_sold_0 0 rfl ?_
  refine WP.iload_n d_X7_sold_1 1 rfl ?_
  refine WP.iload_n d_X7_sold_2 2 rfl ?_
  obtain ⟨⟨x3, h2⟩, e1, H⟩ := ob H
  refine WP.cV (c := 8) (As := [.int l1, .int l2]) (st := []) (st9 := va_rf x3 :: []) (cl9 := 0) (sl9 := 0) d_X7_sold_3 (ok_X7_hallOf V e1) tv_X7_hallOf ti_X7_hallOf ts_X7_hallOf lk_X7_220 r_X7_sold_X7_hallOf kc_X7_hallOf (kd_X7_hallOf e1) rfl rfl (Nat.le_of_ble_eq_true rfl) rfl rfl rfl ?_
  rcases x3 with _ | z4
  · dsimp only at H
    refine WP.astoreN (lv9 := [(5, .null), (0, .ref t), (1, .int l1), (2, .int l2), (3, .int l3), (4, .int l4)]) d_X7_sold_6 (Nat.le_of_ble_eq_true rfl) rfl ?_
    refine WP.aloadN d_X7_sold_8 0 rfl ?_
    refine WP.nN d_X7_sold_10 ?_
    refine WP.iconst d_X7_sold_24 ki_m1 ?_
    cases H
    exact WP.ireturn d_X7_sold_25 rfl rfl (Nat.le_of_ble_eq_true rfl) (Nat.le_of_ble_eq_true rfl)
  · dsimp only at H
    refine WP.astore (lv9 := [(5, .ref z4), (0, .ref t), (1, .int l1), (2, .int l2), (3, .int l3), (4, .int l4)]) d_X7_sold_6 (Nat.le_of_ble_eq_true rfl) rfl ?_
    refine WP.aload d_X7_sold_8 0 rfl ?_
    refine WP.nR d_X7_sold_10 ?_
    refine WP.aload d_X7_sold_13 0 rfl ?_
    obtain ⟨x5, ex5, H⟩ := ob H
    refine WP.fR d_X7_sold_15 gf_X7_239 (fun _ => rfl) ex5 ?_
    obtain ⟨x6, ex6, H⟩ := ob H
    refine WP.fI d_X7_sold_18 gf_X7_123 (fun _ => rfl) ex6 ?_
    rcases oj H with ⟨hc, H⟩ | ⟨hc, H⟩
    · refine WP.if_ne_t d_X7_sold_21 hc ?_
      refine WP.iconst d_X7_sold_24 ki_m1 ?_
      cases H
      exact WP.ireturn d_X7_sold_25 rfl rfl (Nat.le_of_ble_eq_true rfl) (Nat.le_of_ble_eq_true rfl)
    · refine WP.if_ne_f d_X7_sold_21 hc ?_
      refine WP.aload d_X7_sold_26 0 rfl ?_
      obtain ⟨h8, e7, H⟩ := ob H
      refine WP.cV (c := 2) (As := []) (st := []) (st9 := []) (cl9 := 0) (sl9 := 0) d_X7_sold_28 (ok_X1_learnAll V e7) tv_X1_learnAll ti_X1_learnAll ts_X1_learnAll lk_X7_249 r_X7_sold_X1_learnAll kc_X1_learnAll (kd_X1_learnAll e7) rfl rfl (Nat.le_of_ble_eq_true rfl) rfl rfl rfl ?_
      refine WP.iload_n d_X7_sold_31 4 rfl ?_
      refine WP.iconst d_X7_sold_32 ki_m1 ?_
      rcases oj H with ⟨hc, H⟩ | ⟨hc, H⟩
      · refine WP.icmp_ne_t d_X7_sold_33 hc ?_
        refine WP.aload d_X7_sold_36 0 rfl ?_
        obtain ⟨x10, e9, H⟩ := ob H
        refine WP.cV (c := 2) (As := []) (st := []) (st9 := [.int x10]) (cl9 := 0) (sl9 := 0) d_X7_sold_38 (ok_X1_dearest V e9) tv_X1_dearest ti_X1_dearest ts_X1_dearest lk_X7_275 r_X7_sold_X1_dearest kc_X1_dearest (kd_X1_dearest e9) rfl rfl (Nat.le_of_ble_eq_true rfl) rfl rfl rfl ?_
        cases H
        exact WP.ireturn d_X7_sold_41 rfl rfl (Nat.le_of_ble_eq_true rfl) (Nat.le_of_ble_eq_true rfl)
      · refine WP.icmp_ne_f d_X7_sold_33 hc ?_
        refine WP.aload d_X7_sold_42 0 rfl ?_
        obtain ⟨x11, ex11, H⟩ := ob H
        refine WP.fR d_X7_sold_44 gf_X7_239 (fun _ => rfl) ex11 ?_
        refine WP.iload_n d_X7_sold_47 4 rfl ?_
        obtain ⟨x13, e12, H⟩ := ob H
        refine WP.cV (c := 1) (As := [.int l3]) (st := []) (st9 := [.int x13]) (cl9 := 0) (sl9 := 0) d_X7_sold_48 (ok_X0_hasJudge V e12) tv_X0_hasJudge ti_X0_hasJudge ts_X0_hasJudge lk_X7_137 r_X7_sold_X0_hasJudge kc_X0_hasJudge (kd_X0_hasJudge e12) rfl rfl (Nat.le_of_ble_eq_true rfl) rfl rfl rfl ?_
        rcases oj H with ⟨hc, H⟩ | ⟨hc, H⟩
        · refine WP.if_ne_t d_X7_sold_51 hc ?_
          refine WP.iconst d_X7_sold_54 ki_m1 ?_
          cases H
          exact WP.ireturn d_X7_sold_55 rfl rfl (Nat.le_of_ble_eq_true rfl) (Nat.le_of_ble_eq_true rfl)
        · refine WP.if_ne_f d_X7_sold_51 hc ?_
          refine WP.iload d_X7_sold_56 5 rfl ?_
          rcases oj H with ⟨hc, H⟩ | ⟨hc, H⟩
          · refine WP.if_eq_t d_X7_sold_58 hc ?_
            refine WP.aload d_X7_sold_70 0 rfl ?_
            refine WP.iload_n d_X7_sold_72 4 rfl ?_
            obtain ⟨x15, e14, H⟩ := ob H
            refine WP.cV (c := 2) (As := [.int l3]) (st := []) (st9 := [.int x15]) (cl9 := 0) (sl9 := 0) d_X7_sold_73 (ok_X1_lossOfSold V e14) tv_X1_lossOfSold ti_X1_lossOfSold ts_X1_lossOfSold lk_X7_281 r_X7_sold_X1_lossOfSold kc_X1_lossOfSold (kd_X1_lossOfSold e14) rfl rfl (Nat.le_of_ble_eq_true rfl) rfl rfl rfl ?_
            cases H
            exact WP.ireturn d_X7_sold_76 rfl rfl (Nat.le_of_ble_eq_true rfl) (Nat.le_of_ble_eq_true rfl)
          · refine WP.if_eq_f d_X7_sold_58 hc ?_
            refine WP.aload d_X7_sold_61 0 rfl ?_
            refine WP.iload_n d_X7_sold_63 4 rfl ?_
            obtain ⟨x17, e16, H⟩ := ob H
            refine WP.cV (c := 2) (As := [.int l3]) (st := []) (st9 := [.int x17]) (cl9 := 0) (sl9 := 0) d_X7_sold_64 (ok_X1_gainOfThird V e16) tv_X1_gainOfThird ti_X1_gainOfThird ts_X1_gainOfThird lk_X7_278 r_X7_sold_X1_gainOfThird kc_X1_gainOfThird (kd_X1_gainOfThird e16) rfl rfl (Nat.le_of_ble_eq_true rfl) rfl rfl rfl ?_
            refine WP.goto d_X7_sold_67 ?_
            cases H
            exact WP.ireturn d_X7_sold_76 rfl rfl (Nat.le_of_ble_eq_true rfl) (Nat.le_of_ble_eq_true rfl)

set_option maxRecDepth 20000 in
set_option maxHeartbeats 4000000 in
theorem ok_X7_seats (V : EV) {h : HA} {t : Nat} {l1 : Int32} {l2 : Int32} {l3 : Int32} {r : Int32} {hR : HA} (H : X7_seats h t l1 l2 l3 = some (r, hR)) : MG V M_X7_seats [.ref t, .int l1, .int l2, .int l3] h (some (.int r)) hR := by
  unfold X7_seats at H
  obtain ⟨_, H⟩ := oc H
  refine MG.of (lv0 := [(0, .ref t), (1, .int l1), (2, .int l2), (3, .int l3)]) pn_X7 rfl (Nat.le_of_ble_eq_true rfl) ?_
  refine WP.aload_n d_X7_seats_0 0 rfl ?_
  refine WP.iload_n d_X7_seats_1 1 rfl ?_
  refine WP.iload_n d_X7_seats_2 2 rfl ?_
  obtain ⟨⟨x3, h2⟩, e1, H⟩ := ob H
  refine WP.cV (c := 8) (As := [.int l1, .int l2]) (st := []) (st9 := va_rf x3 :: []) (cl9 := 0) (sl9 := 0) d_X7_seats_3 (ok_X7_hallOf V e1) tv_X7_hallOf ti_X7_hallOf ts_X7_hallOf lk_X7_220 r_X7_seats_X7_hallOf kc_X7_hallOf (kd_X7_hallOf e1) rfl rfl (Nat.le_of_ble_eq_true rfl) rfl rfl rfl ?_
  rcases x3 with _ | z4
  · dsimp only at H
    refine WP.astoreN (lv9 := [(4, .null), (0, .ref t), (1, .int l1), (2, .int l2), (3, .int l3)]) d_X7_seats_6 (Nat.le_of_ble_eq_true rfl) rfl ?_
    refine WP.aloadN d_X7_seats_8 0 rfl ?_
    refine WP.nN d_X7_seats_10 ?_
    refine WP.iconst d_X7_seats_30 ki_m1 ?_
    cases H
    exact WP.ireturn d_X7_seats_31 rfl rfl (Nat.le_of_ble_eq_true rfl) (Nat.le_of_ble_eq_true rfl)
  · dsimp only at H
    refine WP.astore (lv9 := [(4, .ref z4), (0, .ref t), (1, .int l1), (2, .int l2), (3, .int l3)]) d_X7_seats_6 (Nat.le_of_ble_eq_true rfl) rfl ?_
    refine WP.aload d_X7_seats_8 0 rfl ?_
    refine WP.nR d_X7_seats_10 ?_
    refine WP.iload_n d_X7_seats_13 4 rfl ?_
    refine WP.iconst d_X7_seats_14 ki_m1 ?_
    obtain ⟨s23, hs5, H⟩ := ob H
    rcases s23 with r19 | _
    · dsimp only at H
      rcases oj hs5 with ⟨hc, hs5⟩ | ⟨hc, hs5⟩
      · refine WP.icmp_eq_t d_X7_seats_15 hc ?_
        cases hs5
      · refine WP.icmp_eq_f d_X7_seats_15 hc ?_
        refine WP.aload d_X7_seats_18 0 rfl ?_
        obtain ⟨x20, ex20, hs5⟩ := ob hs5
        refine WP.fR d_X7_seats_20 gf_X7_239 (fun _ => rfl) ex20 ?_
        refine WP.iload_n d_X7_seats_23 4 rfl ?_
        obtain ⟨x22, e21, hs5⟩ := ob hs5
        refine WP.cV (c := 1) (As := [.int l3]) (st := []) (st9 := [.int x22]) (cl9 := 0) (sl9 := 0) d_X7_seats_24 (ok_X0_hasJudge V e21) tv_X0_hasJudge ti_X0_hasJudge ts_X0_hasJudge lk_X7_137 r_X7_seats_X0_hasJudge kc_X0_hasJudge (kd_X0_hasJudge e21) rfl rfl (Nat.le_of_ble_eq_true rfl) rfl rfl rfl ?_
        rcases oj hs5 with ⟨hc, hs5⟩ | ⟨hc, hs5⟩
        · refine WP.if_ne_t d_X7_seats_27 hc ?_
          refine WP.iconst d_X7_seats_30 ki_m1 ?_
          cases hs5
          cases H
          exact WP.ireturn d_X7_seats_31 rfl rfl (Nat.le_of_ble_eq_true rfl) (Nat.le_of_ble_eq_true rfl)
        · refine WP.if_ne_f d_X7_seats_27 hc ?_
          cases hs5
    · dsimp only at H
      have J6 : WP V M_X7_seats 32 [(0, .ref t), (3, .int l3), (4, .ref z4)] [] h2 0 0 (some (.int r)) hR := by
        refine WP.aload_n d_X7_seats_32 0 rfl ?_
        obtain ⟨x10, ex10, H⟩ := ob H
        refine WP.fR d_X7_seats_33 gf_X7_37 (fun _ => rfl) ex10 ?_
        refine WP.aload d_X7_seats_36 2 rfl ?_
        obtain ⟨h12, e11, H⟩ := ob H
        refine WP.cV (c := 5) (As := [.ref z4]) (st := []) (st9 := []) (cl9 := 0) (sl9 := 0) d_X7_seats_38 (ok_X4_settle V e11) tv_X4_settle ti_X4_settle ts_X4_settle lk_X7_284 r_X7_seats_X4_settle kc_X4_settle (kd_X4_settle e11) rfl rfl (Nat.le_of_ble_eq_true rfl) rfl rfl rfl ?_
        refine WP.iload_n d_X7_seats_41 1 rfl ?_
        refine WP.iconst d_X7_seats_42 ki_m1 ?_
        rcases oj H with ⟨hc, H⟩ | ⟨hc, H⟩
        · refine WP.icmp_ne_t d_X7_seats_43 hc ?_
          refine WP.aload_n d_X7_seats_46 0 rfl ?_
          obtain ⟨x13, ex13, H⟩ := ob H
          refine WP.fR d_X7_seats_47 gf_X7_37 (fun _ => rfl) ex13 ?_
          obtain ⟨x14, ex14, H⟩ := ob H
          refine WP.fR d_X7_seats_50 gf_X7_288 (fun _ => rfl) ex14 ?_
          refine WP.iconst d_X7_seats_53 ki_0 ?_
          obtain ⟨x15, ex15, H⟩ := ob H
          refine WP.iald d_X7_seats_54 ex15 ?_
          refine WP.goto d_X7_seats_55 ?_
          cases H
          exact WP.ireturn d_X7_seats_66 rfl rfl (Nat.le_of_ble_eq_true rfl) (Nat.le_of_ble_eq_true rfl)
        · refine WP.icmp_ne_f d_X7_seats_43 hc ?_
          refine WP.aload_n d_X7_seats_58 0 rfl ?_
          obtain ⟨x16, ex16, H⟩ := ob H
          refine WP.fR d_X7_seats_59 gf_X7_37 (fun _ => rfl) ex16 ?_
          refine WP.iload_n d_X7_seats_62 1 rfl ?_
          obtain ⟨x18, e17, H⟩ := ob H
          refine WP.cV (c := 5) (As := [.int l3]) (st := []) (st9 := [.int x18]) (cl9 := 0) (sl9 := 0) d_X7_seats_63 (ok_X4_seatOf V e17) tv_X4_seatOf ti_X4_seatOf ts_X4_seatOf lk_X7_291 r_X7_seats_X4_seatOf kc_X4_seatOf (kd_X4_seatOf e17) rfl rfl (Nat.le_of_ble_eq_true rfl) rfl rfl rfl ?_
          cases H
          exact WP.ireturn d_X7_seats_66 rfl rfl (Nat.le_of_ble_eq_true rfl) (Nat.le_of_ble_eq_true rfl)
      rcases oj hs5 with ⟨hc, hs5⟩ | ⟨hc, hs5⟩
      · refine WP.icmp_eq_t d_X7_seats_15 hc ?_
        cases hs5
        exact WP.sub [1, 4, 0] rfl J6
      · refine WP.icmp_eq_f d_X7_seats_15 hc ?_
        refine WP.aload d_X7_seats_18 0 rfl ?_
        obtain ⟨x7, ex7, hs5⟩ := ob hs5
        refine WP.fR d_X7_seats_20 gf_X7_239 (fun _ => rfl) ex7 ?_
        refine WP.iload_n d_X7_seats_23 4 rfl ?_
        obtain ⟨x9, e8, hs5⟩ := ob hs5
        refine WP.cV (c := 1) (As := [.int l3]) (st := []) (st9 := [.int x9]) (cl9 := 0) (sl9 := 0) d_X7_seats_24 (ok_X0_hasJudge V e8) tv_X0_hasJudge ti_X0_hasJudge ts_X0_hasJudge lk_X7_137 r_X7_seats_X0_hasJudge kc_X0_hasJudge (kd_X0_hasJudge e8) rfl rfl (Nat.le_of_ble_eq_true rfl) rfl rfl rfl ?_
        rcases oj hs5 with ⟨hc, hs5⟩ | ⟨hc, hs5⟩
        · refine WP.if_ne_t d_X7_seats_27 hc ?_
          refine WP.iconst d_X7_seats_30 ki_m1 ?_
          cases hs5
        · refine WP.if_ne_f d_X7_seats_27 hc ?_
          cases hs5
          exact WP.sub [1, 4, 0] rfl J6

set_option maxRecDepth 20000 in
set_option maxHeartbeats 4000000 in
theorem ok_X7_claim (V : EV) {h : HA} {t : Nat} {l1 : Int32} {l2 : Int32} {l3 : Int32} {r : Int32} (H : X7_claim h t l1 l2 l3 = some r) : MG V M_X7_claim [.ref t, .int l1, .int l2, .int l3] h (some (.int r)) h := by
  unfold X7_claim at H
  obtain ⟨_, H⟩ := oc H
  refine MG.of (lv0 := [(0, .ref t), (1, .int l1), (2, .int l2), (3, .int l3)]) pn_X7 rfl (Nat.le_of_ble_eq_true rfl) ?_
  refine WP.aload_n d_X7_claim_0 0 rfl ?_
  refine WP.iconst d_X7_claim_1 ki_3 ?_
  refine WP.iload_n d_X7_claim_2 1 rfl ?_
  obtain ⟨x2, e1, H⟩ := ob H
  refine WP.cV (c := 8) (As := [.int 3, .int l1]) (st := []) (st9 := va_rf x2 :: []) (cl9 := 0) (sl9 := 0) d_X7_claim_3 (ok_X7_listAt V e1) tv_X7_listAt ti_X7_listAt ts_X7_listAt lk_X7_99 r_X7_claim_X7_listAt kc_X7_listAt (kd_X7_listAt e1) rfl rfl (Nat.le_of_ble_eq_true rfl) rfl rfl rfl ?_
  rcases x2 with _ | z3
  · dsimp only at H
    refine WP.iload_n d_X7_claim_6 2 rfl ?_
    refine WP.iload_n d_X7_claim_7 3 rfl ?_
    obtain ⟨x5, e4, H⟩ := ob H
    refine WP.cS (As := [.null, .int l2, .int l3]) (st := []) (st9 := [.int x5]) (cl9 := 0) (sl9 := 0) d_X7_claim_8 (ok_X7_cellOf V e4) tv_X7_cellOf ts_X7_cellOf lk_X7_205 r_X7_claim_X7_cellOf rfl rfl (Nat.le_of_ble_eq_true rfl) rfl rfl rfl ?_
    cases H
    exact WP.ireturn d_X7_claim_11 rfl rfl (Nat.le_of_ble_eq_true rfl) (Nat.le_of_ble_eq_true rfl)
  · dsimp only at H
    refine WP.iload_n d_X7_claim_6 2 rfl ?_
    refine WP.iload_n d_X7_claim_7 3 rfl ?_
    obtain ⟨x7, e6, H⟩ := ob H
    refine WP.cS (As := [.ref z3, .int l2, .int l3]) (st := []) (st9 := [.int x7]) (cl9 := 0) (sl9 := 0) d_X7_claim_8 (ok_X7_cellOf V e6) tv_X7_cellOf ts_X7_cellOf lk_X7_205 r_X7_claim_X7_cellOf rfl rfl (Nat.le_of_ble_eq_true rfl) rfl rfl rfl ?_
    cases H
    exact WP.ireturn d_X7_claim_11 rfl rfl (Nat.le_of_ble_eq_true rfl) (Nat.le_of_ble_eq_true rfl)

set_option maxRecDepth 20000 in
set_option maxHeartbeats 4000000 in
theorem okl_X7_readerOf_L20 (V : EV) {vF : Option Value} {hF : HA} {h : HA} {l0 : Nat} {l1 : Int32} {l2 : Int32} {l3 : Int32} {l4 : Int32} (n : Nat) : ∀ {l5 : Int32} {l6 : Int32} {r5 : Int32}, (H : X7_readerOf_L20 h l0 l1 l4 n l5 l6 = some r5) → (K : WP V M_X7_readerOf 60 [(0, .ref l0), (1, .int l1), (2, .int l2), (3, .int l3), (4, .int l4), (5, .int r5)] [] h 0 0 vF hF) → WP V M_X7_readerOf 20 [(0, .ref l0), (1, .int l1), (2, .int l2), (3, .int l3), (4, .int l4), (5, .int l5), (6, .int l6)] [] h 0 0 vF hF := by
  induction n with
  | zero =>
    intro l5 l6 r5 H K
    rw [X7_readerOf_L20] at H
    cases H
  | succ n ih =>
    intro l5 l6 r5 H K
    rw [X7_readerOf_L20] at H
    refine WP.iload d_X7_readerOf_20 6 rfl ?_
    refine WP.aload_n d_X7_readerOf_22 0 rfl ?_
    obtain ⟨x1, ex1, H⟩ := ob H
    refine WP.fI d_X7_readerOf_23 gf_X7_209 (fun _ => rfl) ex1 ?_
    rcases oj H with ⟨hc, H⟩ | ⟨hc, H⟩
    · refine WP.icmp_ge_t d_X7_readerOf_26 hc ?_
      refine WP.iload_n d_X7_readerOf_29 1 rfl ?_
      refine WP.i2l d_X7_readerOf_30 ?_
      refine WP.iload d_X7_readerOf_31 6 rfl ?_
      obtain ⟨x3, e2, H⟩ := ob H
      refine WP.cS (As := [.long l1.toInt64, .int l6]) (st := []) (st9 := [.int x3]) (cl9 := 0) (sl9 := 0) d_X7_readerOf_33 (ok_X7_has V (h := h) e2) tv_X7_has ts_X7_has lk_X7_133 r_X7_readerOf_X7_has rfl rfl (Nat.le_of_ble_eq_true rfl) rfl rfl rfl ?_
      rcases oj H with ⟨hc, H⟩ | ⟨hc, H⟩
      · refine WP.if_eq_t d_X7_readerOf_36 hc ?_
        refine WP.iinc (lv9 := [(6, .int (l6 + 1)), (0, .ref l0), (1, .int l1), (2, .int l2), (3, .int l3), (4, .int l4), (5, .int l5)]) d_X7_readerOf_54 6 rfl ki_1 (Nat.le_of_ble_eq_true rfl) rfl ?_
        refine WP.goto d_X7_readerOf_57 ?_
        refine WP.sub [1, 2, 3, 4, 5, 6, 0] (lv' := [(0, .ref l0), (1, .int l1), (2, .int l2), (3, .int l3), (4, .int l4), (5, .int l5), (6, .int (l6 + 1))]) rfl ?_
        exact ih H K
      · refine WP.if_eq_f d_X7_readerOf_36 hc ?_
        refine WP.aload_n d_X7_readerOf_39 0 rfl ?_
        refine WP.iload d_X7_readerOf_40 6 rfl ?_
        refine WP.iconst d_X7_readerOf_42 ki_0 ?_
        obtain ⟨x5, e4, H⟩ := ob H
        refine WP.cV (c := 3) (As := [.int l6, .int 0]) (st := []) (st9 := [.int x5]) (cl9 := 0) (sl9 := 0) d_X7_readerOf_43 (ok_X2_at V e4) tv_X2_at ti_X2_at ts_X2_at lk_X7_217 r_X7_readerOf_X2_at kc_X2_at (kd_X2_at e4) rfl rfl (Nat.le_of_ble_eq_true rfl) rfl rfl rfl ?_
        refine WP.iload d_X7_readerOf_46 4 rfl ?_
        rcases oj H with ⟨hc, H⟩ | ⟨hc, H⟩
        · refine WP.icmp_ne_t d_X7_readerOf_48 hc ?_
          refine WP.iinc (lv9 := [(5, .int (l5 + 1)), (0, .ref l0), (1, .int l1), (2, .int l2), (3, .int l3), (4, .int l4), (6, .int l6)]) d_X7_readerOf_51 5 rfl ki_1 (Nat.le_of_ble_eq_true rfl) rfl ?_
          refine WP.iinc (lv9 := [(6, .int (l6 + 1)), (5, .int (l5 + 1)), (0, .ref l0), (1, .int l1), (2, .int l2), (3, .int l3), (4, .int l4)]) d_X7_readerOf_54 6 rfl ki_1 (Nat.le_of_ble_eq_true rfl) rfl ?_
          refine WP.goto d_X7_readerOf_57 ?_
          refine WP.sub [2, 3, 4, 5, 6, 1, 0] (lv' := [(0, .ref l0), (1, .int l1), (2, .int l2), (3, .int l3), (4, .int l4), (5, .int (l5 + 1)), (6, .int (l6 + 1))]) rfl ?_
          exact ih H K
        · refine WP.icmp_ne_f d_X7_readerOf_48 hc ?_
          refine WP.iinc (lv9 := [(6, .int (l6 + 1)), (0, .ref l0), (1, .int l1), (2, .int l2), (3, .int l3), (4, .int l4), (5, .int l5)]) d_X7_readerOf_54 6 rfl ki_1 (Nat.le_of_ble_eq_true rfl) rfl ?_
          refine WP.goto d_X7_readerOf_57 ?_
          refine WP.sub [1, 2, 3, 4, 5, 6, 0] (lv' := [(0, .ref l0), (1, .int l1), (2, .int l2), (3, .int l3), (4, .int l4), (5, .int l5), (6, .int (l6 + 1))]) rfl ?_
          exact ih H K
    · refine WP.icmp_ge_f d_X7_readerOf_26 hc ?_
      cases H
      exact WP.sub [0, 1, 2, 3, 4, 5] rfl K

set_option maxRecDepth 20000 in
set_option maxHeartbeats 4000000 in
theorem okl_X7_readerOf_L7 (V : EV) {vF : Option Value} {hF : HA} {h : HA} {l0 : Nat} {l1 : Int32} (n : Nat) : ∀ {l2 : Int32} {l3 : Int32} {l4 : Int32} {r2 : Int32}, (H : X7_readerOf_L7 h l0 l1 n l2 l3 l4 = some r2) → (K : WP V M_X7_readerOf 78 [(2, .int r2)] [] h 0 0 vF hF) → WP V M_X7_readerOf 7 [(0, .ref l0), (1, .int l1), (2, .int l2), (3, .int l3), (4, .int l4)] [] h 0 0 vF hF := by
  induction n with
  | zero =>
    intro l2 l3 l4 r2 H K
    rw [X7_readerOf_L7] at H
    cases H
  | succ n ih =>
    intro l2 l3 l4 r2 H K
    rw [X7_readerOf_L7] at H
    refine WP.iload d_X7_readerOf_7 4 rfl ?_
    refine WP.bipush d_X7_readerOf_9 kb_6 ?_
    rcases oj H with ⟨hc, H⟩ | ⟨hc, H⟩
    · refine WP.icmp_ge_t d_X7_readerOf_11 hc ?_
      refine WP.iconst d_X7_readerOf_14 ki_0 ?_
      refine WP.istore (lv9 := [(5, .int 0), (0, .ref l0), (1, .int l1), (2, .int l2), (3, .int l3), (4, .int l4)]) d_X7_readerOf_15 (Nat.le_of_ble_eq_true rfl) rfl ?_
      refine WP.iconst d_X7_readerOf_17 ki_0 ?_
      refine WP.istore (lv9 := [(6, .int 0), (5, .int 0), (0, .ref l0), (1, .int l1), (2, .int l2), (3, .int l3), (4, .int l4)]) d_X7_readerOf_18 (Nat.le_of_ble_eq_true rfl) rfl ?_
      obtain ⟨y7, e6, H⟩ := ob H
      refine WP.sub [2, 3, 4, 5, 6, 1, 0] (lv' := [(0, .ref l0), (1, .int l1), (2, .int l2), (3, .int l3), (4, .int l4), (5, .int 0), (6, .int 0)]) rfl ?_
      refine okl_X7_readerOf_L20 V _ e6 ?_
      refine WP.iload d_X7_readerOf_60 5 rfl ?_
      refine WP.iload_n d_X7_readerOf_62 3 rfl ?_
      rcases oj H with ⟨hc, H⟩ | ⟨hc, H⟩
      · refine WP.icmp_le_t d_X7_readerOf_63 hc ?_
        refine WP.iload d_X7_readerOf_66 5 rfl ?_
        refine WP.istore_n (lv9 := [(3, .int y7), (0, .ref l0), (1, .int l1), (2, .int l2), (4, .int l4), (5, .int y7)]) d_X7_readerOf_68 (Nat.le_of_ble_eq_true rfl) rfl ?_
        refine WP.iload d_X7_readerOf_69 4 rfl ?_
        refine WP.istore_n (lv9 := [(2, .int l4), (3, .int y7), (0, .ref l0), (1, .int l1), (4, .int l4), (5, .int y7)]) d_X7_readerOf_71 (Nat.le_of_ble_eq_true rfl) rfl ?_
        refine WP.iinc (lv9 := [(4, .int (l4 + 1)), (2, .int l4), (3, .int y7), (0, .ref l0), (1, .int l1), (5, .int y7)]) d_X7_readerOf_72 4 rfl ki_1 (Nat.le_of_ble_eq_true rfl) rfl ?_
        refine WP.goto d_X7_readerOf_75 ?_
        refine WP.sub [3, 4, 1, 2, 0] (lv' := [(0, .ref l0), (1, .int l1), (2, .int l4), (3, .int y7), (4, .int (l4 + 1))]) rfl ?_
        exact ih H K
      · refine WP.icmp_le_f d_X7_readerOf_63 hc ?_
        refine WP.iinc (lv9 := [(4, .int (l4 + 1)), (0, .ref l0), (1, .int l1), (2, .int l2), (3, .int l3), (5, .int y7)]) d_X7_readerOf_72 4 rfl ki_1 (Nat.le_of_ble_eq_true rfl) rfl ?_
        refine WP.goto d_X7_readerOf_75 ?_
        refine WP.sub [1, 2, 3, 4, 0] (lv' := [(0, .ref l0), (1, .int l1), (2, .int l2), (3, .int l3), (4, .int (l4 + 1))]) rfl ?_
        exact ih H K
    · refine WP.icmp_ge_f d_X7_readerOf_11 hc ?_
      cases H
      exact WP.sub [2] rfl K

set_option maxRecDepth 20000 in
set_option maxHeartbeats 4000000 in
theorem ok_X7_readerOf (V : EV) {h : HA} {l0 : Nat} {l1 : Int32} {r : Int32} (H : X7_readerOf h l0 l1 = some r) : MG V M_X7_readerOf [.ref l0, .int l1] h (some (.int r)) h := by
  unfold X7_readerOf at H
  refine MG.of (lv0 := [(0, .ref l0), (1, .int l1)]) pn_X7 rfl (Nat.le_of_ble_eq_true rfl) ?_
  refine WP.iconst d_X7_readerOf_0 ki_m1 ?_
  refine WP.istore_n (lv9 := [(2, .int (-1)), (0, .ref l0), (1, .int l1)]) d_X7_readerOf_1 (Nat.le_of_ble_eq_true rfl) rfl ?_
  refine WP.iconst d_X7_readerOf_2 ki_0 ?_
  refine WP.istore_n (lv9 := [(3, .int 0), (2, .int (-1)), (0, .ref l0), (1, .int l1)]) d_X7_readerOf_3 (Nat.le_of_ble_eq_true rfl) rfl ?_
  refine WP.iconst d_X7_readerOf_4 ki_0 ?_
  refine WP.istore (lv9 := [(4, .int 0), (3, .int 0), (2, .int (-1)), (0, .ref l0), (1, .int l1)]) d_X7_readerOf_5 (Nat.le_of_ble_eq_true rfl) rfl ?_
  obtain ⟨y9, e8, H⟩ := ob H
  refine WP.sub [3, 4, 2, 1, 0] (lv' := [(0, .ref l0), (1, .int l1), (2, .int (-1)), (3, .int 0), (4, .int 0)]) rfl ?_
  refine okl_X7_readerOf_L7 V _ e8 ?_
  refine WP.iload_n d_X7_readerOf_78 0 rfl ?_
  cases H
  exact WP.ireturn d_X7_readerOf_79 rfl rfl (Nat.le_of_ble_eq_true rfl) (Nat.le_of_ble_eq_true rfl)

set_option maxRecDepth 20000 in
set_option maxHeartbeats 4000000 in
theorem okl_X7_lips_L54 (V : EV) {vF : Option Value} {hF : HA} {h : HA} {l4 : Int32} {l5 : Nat} {l6 : Nat} (n : Nat) : ∀ {l7 : Int32} {l8 : Int32} {l9 : Int32} {r7 : Int32} {r8 : Int32}, (H : X7_lips_L54 h l5 l6 n l7 l8 l9 = some (r7, r8)) → (K : WP V M_X7_lips 163 [(4, .int l4), (5, .ref l5), (7, .int r7), (8, .int r8)] [] h 0 0 vF hF) → WP V M_X7_lips 54 [(4, .int l4), (5, .ref l5), (6, .ref l6), (7, .int l7), (8, .int l8), (9, .int l9)] [] h 0 0 vF hF := by
  induction n with
  | zero =>
    intro l7 l8 l9 r7 r8 H K
    rw [X7_lips_L54] at H
    cases H
  | succ n ih =>
    intro l7 l8 l9 r7 r8 H K
    rw [X7_lips_L54] at H
    refine WP.iload d_X7_lips_54 5 rfl ?_
    refine WP.aload d_X7_lips_56 1 rfl ?_
    obtain ⟨x14, ex14, H⟩ := ob H
    refine WP.fI d_X7_lips_58 gf_X7_209 (fun _ => rfl) ex14 ?_
    rcases oj H with ⟨hc, H⟩ | ⟨hc, H⟩
    · refine WP.icmp_ge_t d_X7_lips_61 hc ?_
      refine WP.aload d_X7_lips_64 1 rfl ?_
      refine WP.iload d_X7_lips_66 5 rfl ?_
      refine WP.iconst d_X7_lips_68 ki_0 ?_
      obtain ⟨x16, e15, H⟩ := ob H
      refine WP.cV (c := 3) (As := [.int l9, .int 0]) (st := []) (st9 := [.int x16]) (cl9 := 0) (sl9 := 0) d_X7_lips_69 (ok_X2_at V e15) tv_X2_at ti_X2_at ts_X2_at lk_X7_217 r_X7_lips_X2_at kc_X2_at (kd_X2_at e15) rfl rfl (Nat.le_of_ble_eq_true rfl) rfl rfl rfl ?_
      refine WP.istore (lv9 := [(10, .int x16), (4, .int l4), (5, .ref l5), (6, .ref l6), (7, .int l7), (8, .int l8), (9, .int l9)]) d_X7_lips_72 (Nat.le_of_ble_eq_true rfl) rfl ?_
      refine WP.aload d_X7_lips_74 2 rfl ?_
      refine WP.iload d_X7_lips_76 6 rfl ?_
      refine WP.iconst d_X7_lips_78 ki_1 ?_
      obtain ⟨x18, e17, H⟩ := ob H
      refine WP.cV (c := 3) (As := [.int l9, .int 1]) (st := []) (st9 := [.int x18]) (cl9 := 0) (sl9 := 0) d_X7_lips_79 (ok_X2_at V e17) tv_X2_at ti_X2_at ts_X2_at lk_X7_217 r_X7_lips_X2_at kc_X2_at (kd_X2_at e17) rfl rfl (Nat.le_of_ble_eq_true rfl) rfl rfl rfl ?_
      refine WP.istore (lv9 := [(11, .int x18), (10, .int x16), (4, .int l4), (5, .ref l5), (6, .ref l6), (7, .int l7), (8, .int l8), (9, .int l9)]) d_X7_lips_82 (Nat.le_of_ble_eq_true rfl) rfl ?_
      refine WP.aload d_X7_lips_84 4 rfl ?_
      obtain ⟨x19, ex19, H⟩ := ob H
      refine WP.fR d_X7_lips_86 gf_X7_239 (fun _ => rfl) ex19 ?_
      refine WP.iload d_X7_lips_89 1 rfl ?_
      obtain ⟨x21, e20, H⟩ := ob H
      refine WP.cV (c := 1) (As := [.int x16]) (st := []) (st9 := [.int x21]) (cl9 := 0) (sl9 := 0) d_X7_lips_91 (ok_X0_hasJudge V e20) tv_X0_hasJudge ti_X0_hasJudge ts_X0_hasJudge lk_X7_137 r_X7_lips_X0_hasJudge kc_X0_hasJudge (kd_X0_hasJudge e20) rfl rfl (Nat.le_of_ble_eq_true rfl) rfl rfl rfl ?_
      refine WP.istore (lv9 := [(12, .int x21), (11, .int x18), (10, .int x16), (4, .int l4), (5, .ref l5), (6, .ref l6), (7, .int l7), (8, .int l8), (9, .int l9)]) d_X7_lips_94 (Nat.le_of_ble_eq_true rfl) rfl ?_
      refine WP.iload d_X7_lips_96 0 rfl ?_
      rcases oj H with ⟨hc, H⟩ | ⟨hc, H⟩
      · refine WP.if_eq_t d_X7_lips_98 hc ?_
        refine WP.iload d_X7_lips_118 6 rfl ?_
        refine WP.iconst d_X7_lips_120 ki_1 ?_
        refine WP.iload d_X7_lips_121 8 rfl ?_
        refine WP.ishl d_X7_lips_123 ?_
        refine WP.ior d_X7_lips_124 ?_
        refine WP.istore (lv9 := [(7, .int (l7 ||| (shlI 1 l9))), (12, .int x21), (11, .int x18), (10, .int x16), (4, .int l4), (5, .ref l5), (6, .ref l6), (8, .int l8), (9, .int l9)]) d_X7_lips_125 (Nat.le_of_ble_eq_true rfl) rfl ?_
        refine WP.iload d_X7_lips_127 1 rfl ?_
        rcases oj H with ⟨hc, H⟩ | ⟨hc, H⟩
        · refine WP.if_eq_t d_X7_lips_129 hc ?_
          refine WP.iinc (lv9 := [(9, .int (l9 + 1)), (7, .int (l7 ||| (shlI 1 l9))), (12, .int x21), (11, .int x18), (10, .int x16), (4, .int l4), (5, .ref l5), (6, .ref l6), (8, .int l8)]) d_X7_lips_157 8 rfl ki_1 (Nat.le_of_ble_eq_true rfl) rfl ?_
          refine WP.goto d_X7_lips_160 ?_
          refine WP.sub [5, 6, 7, 1, 8, 0] (lv' := [(4, .int l4), (5, .ref l5), (6, .ref l6), (7, .int (l7 ||| (shlI 1 l9))), (8, .int l8), (9, .int (l9 + 1))]) rfl ?_
          exact ih H K
        · refine WP.if_eq_f d_X7_lips_129 hc ?_
          refine WP.aload d_X7_lips_132 6 rfl ?_
          refine WP.iload d_X7_lips_134 3 rfl ?_
          obtain ⟨x23, e22, H⟩ := ob H
          refine WP.cV (c := 2) (As := [.int x16]) (st := []) (st9 := [.int x23]) (cl9 := 0) (sl9 := 0) d_X7_lips_136 (ok_X1_wordsSeen V e22) tv_X1_wordsSeen ti_X1_wordsSeen ts_X1_wordsSeen lk_X7_294 r_X7_lips_X1_wordsSeen kc_X1_wordsSeen (kd_X1_wordsSeen e22) rfl rfl (Nat.le_of_ble_eq_true rfl) rfl rfl rfl ?_
          refine WP.i2l d_X7_lips_139 ?_
          refine WP.iload d_X7_lips_140 2 rfl ?_
          obtain ⟨x25, e24, H⟩ := ob H
          refine WP.cS (As := [.long x23.toInt64, .int x18]) (st := []) (st9 := [.int x25]) (cl9 := 0) (sl9 := 0) d_X7_lips_142 (ok_X7_has V (h := h) e24) tv_X7_has ts_X7_has lk_X7_133 r_X7_lips_X7_has rfl rfl (Nat.le_of_ble_eq_true rfl) rfl rfl rfl ?_
          rcases oj H with ⟨hc, H⟩ | ⟨hc, H⟩
          · refine WP.if_eq_t d_X7_lips_145 hc ?_
            refine WP.iinc (lv9 := [(9, .int (l9 + 1)), (7, .int (l7 ||| (shlI 1 l9))), (12, .int x21), (11, .int x18), (10, .int x16), (4, .int l4), (5, .ref l5), (6, .ref l6), (8, .int l8)]) d_X7_lips_157 8 rfl ki_1 (Nat.le_of_ble_eq_true rfl) rfl ?_
            refine WP.goto d_X7_lips_160 ?_
            refine WP.sub [5, 6, 7, 1, 8, 0] (lv' := [(4, .int l4), (5, .ref l5), (6, .ref l6), (7, .int (l7 ||| (shlI 1 l9))), (8, .int l8), (9, .int (l9 + 1))]) rfl ?_
            exact ih H K
          · refine WP.if_eq_f d_X7_lips_145 hc ?_
            refine WP.iload d_X7_lips_148 7 rfl ?_
            refine WP.iconst d_X7_lips_150 ki_1 ?_
            refine WP.iload d_X7_lips_151 8 rfl ?_
            refine WP.ishl d_X7_lips_153 ?_
            refine WP.ior d_X7_lips_154 ?_
            refine WP.istore (lv9 := [(8, .int (l8 ||| (shlI 1 l9))), (7, .int (l7 ||| (shlI 1 l9))), (12, .int x21), (11, .int x18), (10, .int x16), (4, .int l4), (5, .ref l5), (6, .ref l6), (9, .int l9)]) d_X7_lips_155 (Nat.le_of_ble_eq_true rfl) rfl ?_
            refine WP.iinc (lv9 := [(9, .int (l9 + 1)), (8, .int (l8 ||| (shlI 1 l9))), (7, .int (l7 ||| (shlI 1 l9))), (12, .int x21), (11, .int x18), (10, .int x16), (4, .int l4), (5, .ref l5), (6, .ref l6)]) d_X7_lips_157 8 rfl ki_1 (Nat.le_of_ble_eq_true rfl) rfl ?_
            refine WP.goto d_X7_lips_160 ?_
            refine WP.sub [6, 7, 8, 2, 1, 0] (lv' := [(4, .int l4), (5, .ref l5), (6, .ref l6), (7, .int (l7 ||| (shlI 1 l9))), (8, .int (l8 ||| (shlI 1 l9))), (9, .int (l9 + 1))]) rfl ?_
            exact ih H K
      · refine WP.if_eq_f d_X7_lips_98 hc ?_
        refine WP.aload d_X7_lips_101 5 rfl ?_
        obtain ⟨x26, ex26, H⟩ := ob H
        refine WP.fR d_X7_lips_103 gf_X7_259 (fun _ => rfl) ex26 ?_
        refine WP.iload d_X7_lips_106 2 rfl ?_
        obtain ⟨x27, ex27, H⟩ := ob H
        refine WP.iald d_X7_lips_108 ex27 ?_
        refine WP.i2l d_X7_lips_109 ?_
        refine WP.iload d_X7_lips_110 1 rfl ?_
        obtain ⟨x29, e28, H⟩ := ob H
        refine WP.cS (As := [.long x27.toInt64, .int x18]) (st := []) (st9 := [.int x29]) (cl9 := 0) (sl9 := 0) d_X7_lips_112 (ok_X7_has V (h := h) e28) tv_X7_has ts_X7_has lk_X7_133 r_X7_lips_X7_has rfl rfl (Nat.le_of_ble_eq_true rfl) rfl rfl rfl ?_
        rcases oj H with ⟨hc, H⟩ | ⟨hc, H⟩
        · refine WP.if_ne_t d_X7_lips_115 hc ?_
          refine WP.iload d_X7_lips_118 6 rfl ?_
          refine WP.iconst d_X7_lips_120 ki_1 ?_
          refine WP.iload d_X7_lips_121 8 rfl ?_
          refine WP.ishl d_X7_lips_123 ?_
          refine WP.ior d_X7_lips_124 ?_
          refine WP.istore (lv9 := [(7, .int (l7 ||| (shlI 1 l9))), (12, .int x21), (11, .int x18), (10, .int x16), (4, .int l4), (5, .ref l5), (6, .ref l6), (8, .int l8), (9, .int l9)]) d_X7_lips_125 (Nat.le_of_ble_eq_true rfl) rfl ?_
          refine WP.iload d_X7_lips_127 1 rfl ?_
          rcases oj H with ⟨hc, H⟩ | ⟨hc, H⟩
          · refine WP.if_eq_t d_X7_lips_129 hc ?_
            refine WP.iinc (lv9 := [(9, .int (l9 + 1)), (7, .int (l7 ||| (shlI 1 l9))), (12, .int x21), (11, .int x18), (10, .int x16), (4, .int l4), (5, .ref l5), (6, .ref l6), (8, .int l8)]) d_X7_lips_157 8 rfl ki_1 (Nat.le_of_ble_eq_true rfl) rfl ?_
            refine WP.goto d_X7_lips_160 ?_
            refine WP.sub [5, 6, 7, 1, 8, 0] (lv' := [(4, .int l4), (5, .ref l5), (6, .ref l6), (7, .int (l7 ||| (shlI 1 l9))), (8, .int l8), (9, .int (l9 + 1))]) rfl ?_
            exact ih H K
          · refine WP.if_eq_f d_X7_lips_129 hc ?_
            refine WP.aload d_X7_lips_132 6 rfl ?_
            refine WP.iload d_X7_lips_134 3 rfl ?_
            obtain ⟨x31, e30, H⟩ := ob H
            refine WP.cV (c := 2) (As := [.int x16]) (st := []) (st9 := [.int x31]) (cl9 := 0) (sl9 := 0) d_X7_lips_136 (ok_X1_wordsSeen V e30) tv_X1_wordsSeen ti_X1_wordsSeen ts_X1_wordsSeen lk_X7_294 r_X7_lips_X1_wordsSeen kc_X1_wordsSeen (kd_X1_wordsSeen e30) rfl rfl (Nat.le_of_ble_eq_true rfl) rfl rfl rfl ?_
            refine WP.i2l d_X7_lips_139 ?_
            refine WP.iload d_X7_lips_140 2 rfl ?_
            obtain ⟨x33, e32, H⟩ := ob H
            refine WP.cS (As := [.long x31.toInt64, .int x18]) (st := []) (st9 := [.int x33]) (cl9 := 0) (sl9 := 0) d_X7_lips_142 (ok_X7_has V (h := h) e32) tv_X7_has ts_X7_has lk_X7_133 r_X7_lips_X7_has rfl rfl (Nat.le_of_ble_eq_true rfl) rfl rfl rfl ?_
            rcases oj H with ⟨hc, H⟩ | ⟨hc, H⟩
            · refine WP.if_eq_t d_X7_lips_145 hc ?_
              refine WP.iinc (lv9 := [(9, .int (l9 + 1)), (7, .int (l7 ||| (shlI 1 l9))), (12, .int x21), (11, .int x18), (10, .int x16), (4, .int l4), (5, .ref l5), (6, .ref l6), (8, .int l8)]) d_X7_lips_157 8 rfl ki_1 (Nat.le_of_ble_eq_true rfl) rfl ?_
              refine WP.goto d_X7_lips_160 ?_
              refine WP.sub [5, 6, 7, 1, 8, 0] (lv' := [(4, .int l4), (5, .ref l5), (6, .ref l6), (7, .int (l7 ||| (shlI 1 l9))), (8, .int l8), (9, .int (l9 + 1))]) rfl ?_
              exact ih H K
            · refine WP.if_eq_f d_X7_lips_145 hc ?_
              refine WP.iload d_X7_lips_148 7 rfl ?_
              refine WP.iconst d_X7_lips_150 ki_1 ?_
              refine WP.iload d_X7_lips_151 8 rfl ?_
              refine WP.ishl d_X7_lips_153 ?_
              refine WP.ior d_X7_lips_154 ?_
              refine WP.istore (lv9 := [(8, .int (l8 ||| (shlI 1 l9))), (7, .int (l7 ||| (shlI 1 l9))), (12, .int x21), (11, .int x18), (10, .int x16), (4, .int l4), (5, .ref l5), (6, .ref l6), (9, .int l9)]) d_X7_lips_155 (Nat.le_of_ble_eq_true rfl) rfl ?_
              refine WP.iinc (lv9 := [(9, .int (l9 + 1)), (8, .int (l8 ||| (shlI 1 l9))), (7, .int (l7 ||| (shlI 1 l9))), (12, .int x21), (11, .int x18), (10, .int x16), (4, .int l4), (5, .ref l5), (6, .ref l6)]) d_X7_lips_157 8 rfl ki_1 (Nat.le_of_ble_eq_true rfl) rfl ?_
              refine WP.goto d_X7_lips_160 ?_
              refine WP.sub [6, 7, 8, 2, 1, 0] (lv' := [(4, .int l4), (5, .ref l5), (6, .ref l6), (7, .int (l7 ||| (shlI 1 l9))), (8, .int (l8 ||| (shlI 1 l9))), (9, .int (l9 + 1))]) rfl ?_
              exact ih H K
        · refine WP.if_ne_f d_X7_lips_115 hc ?_
          refine WP.iinc (lv9 := [(9, .int (l9 + 1)), (12, .int x21), (11, .int x18), (10, .int x16), (4, .int l4), (5, .ref l5), (6, .ref l6), (7, .int l7), (8, .int l8)]) d_X7_lips_157 8 rfl ki_1 (Nat.le_of_ble_eq_true rfl) rfl ?_
          refine WP.goto d_X7_lips_160 ?_
          refine WP.sub [4, 5, 6, 7, 8, 0] (lv' := [(4, .int l4), (5, .ref l5), (6, .ref l6), (7, .int l7), (8, .int l8), (9, .int (l9 + 1))]) rfl ?_
          exact ih H K
    · refine WP.icmp_ge_f d_X7_lips_61 hc ?_
      cases H
      exact WP.sub [0, 1, 3, 4] rfl K

set_option maxRecDepth 20000 in
set_option maxHeartbeats 4000000 in
theorem ok_X7_lips (V : EV) {h : HA} {t : Nat} {l1 : Int32} {l2 : Int32} {l3 : Int32} {l4 : Int32} {r : Int32} {hR : HA} (H : X7_lips h t l1 l2 l3 l4 = some (r, hR)) : MG V M_X7_lips [.ref t, .int l1, .int l2, .int l3, .int l4] h (some (.int r)) hR := by
  unfold X7_lips at H
  obtain ⟨_, H⟩ := oc H
  refine MG.of (lv0 := [(0, .ref t), (1, .int l1), (2, .int l2), (3, .int l3), (4, .int l4)]) pn_X7 rfl (Nat.le_of_ble_eq_true rfl) ?_
  refine WP.aload_n d_X7_lips_0 0 rfl ?_
  refine WP.iconst d_X7_lips_1 ki_3 ?_
  refine WP.iload_n d_X7_lips_2 3 rfl ?_
  obtain ⟨x2, e1, H⟩ := ob H
  refine WP.cV (c := 8) (As := [.int 3, .int l3]) (st := []) (st9 := va_rf x2 :: []) (cl9 := 0) (sl9 := 0) d_X7_lips_3 (ok_X7_listAt V e1) tv_X7_listAt ti_X7_listAt ts_X7_listAt lk_X7_99 r_X7_lips_X7_listAt kc_X7_listAt (kd_X7_listAt e1) rfl rfl (Nat.le_of_ble_eq_true rfl) rfl rfl rfl ?_
  rcases x2 with _ | z3
  · dsimp only at H
    refine WP.astoreN (lv9 := [(5, .null), (0, .ref t), (1, .int l1), (2, .int l2), (3, .int l3), (4, .int l4)]) d_X7_lips_6 (Nat.le_of_ble_eq_true rfl) rfl ?_
    refine WP.aload_n d_X7_lips_8 1 rfl ?_
    refine WP.iload_n d_X7_lips_9 2 rfl ?_
    refine WP.iload_n d_X7_lips_10 3 rfl ?_
    obtain ⟨⟨x6, h5⟩, e4, H⟩ := ob H
    refine WP.cV (c := 8) (As := [.int l1, .int l2]) (st := []) (st9 := va_rf x6 :: []) (cl9 := 0) (sl9 := 0) d_X7_lips_11 (ok_X7_hallOf V e4) tv_X7_hallOf ti_X7_hallOf ts_X7_hallOf lk_X7_220 r_X7_lips_X7_hallOf kc_X7_hallOf (kd_X7_hallOf e4) rfl rfl (Nat.le_of_ble_eq_true rfl) rfl rfl rfl ?_
    rcases x6 with _ | z7
    · dsimp only at H
      refine WP.astoreN (lv9 := [(6, .null), (5, .null), (0, .ref t), (1, .int l1), (2, .int l2), (3, .int l3), (4, .int l4)]) d_X7_lips_14 (Nat.le_of_ble_eq_true rfl) rfl ?_
      refine WP.aloadN d_X7_lips_16 1 rfl ?_
      refine WP.nN d_X7_lips_18 ?_
      refine WP.bipush d_X7_lips_37 kb_m2 ?_
      cases H
      exact WP.ireturn d_X7_lips_39 rfl rfl (Nat.le_of_ble_eq_true rfl) (Nat.le_of_ble_eq_true rfl)
    · dsimp only at H
      refine WP.astore (lv9 := [(6, .ref z7), (5, .null), (0, .ref t), (1, .int l1), (2, .int l2), (3, .int l3), (4, .int l4)]) d_X7_lips_14 (Nat.le_of_ble_eq_true rfl) rfl ?_
      refine WP.aloadN d_X7_lips_16 1 rfl ?_
      refine WP.nN d_X7_lips_18 ?_
      refine WP.bipush d_X7_lips_37 kb_m2 ?_
      cases H
      exact WP.ireturn d_X7_lips_39 rfl rfl (Nat.le_of_ble_eq_true rfl) (Nat.le_of_ble_eq_true rfl)
  · dsimp only at H
    refine WP.astore (lv9 := [(5, .ref z3), (0, .ref t), (1, .int l1), (2, .int l2), (3, .int l3), (4, .int l4)]) d_X7_lips_6 (Nat.le_of_ble_eq_true rfl) rfl ?_
    refine WP.aload_n d_X7_lips_8 1 rfl ?_
    refine WP.iload_n d_X7_lips_9 2 rfl ?_
    refine WP.iload_n d_X7_lips_10 3 rfl ?_
    obtain ⟨⟨x10, h9⟩, e8, H⟩ := ob H
    refine WP.cV (c := 8) (As := [.int l1, .int l2]) (st := []) (st9 := va_rf x10 :: []) (cl9 := 0) (sl9 := 0) d_X7_lips_11 (ok_X7_hallOf V e8) tv_X7_hallOf ti_X7_hallOf ts_X7_hallOf lk_X7_220 r_X7_lips_X7_hallOf kc_X7_hallOf (kd_X7_hallOf e8) rfl rfl (Nat.le_of_ble_eq_true rfl) rfl rfl rfl ?_
    rcases x10 with _ | z11
    · dsimp only at H
      refine WP.astoreN (lv9 := [(6, .null), (5, .ref z3), (0, .ref t), (1, .int l1), (2, .int l2), (3, .int l3), (4, .int l4)]) d_X7_lips_14 (Nat.le_of_ble_eq_true rfl) rfl ?_
      refine WP.aload d_X7_lips_16 1 rfl ?_
      refine WP.nR d_X7_lips_18 ?_
      refine WP.aloadN d_X7_lips_21 0 rfl ?_
      refine WP.nN d_X7_lips_23 ?_
      refine WP.bipush d_X7_lips_37 kb_m2 ?_
      cases H
      exact WP.ireturn d_X7_lips_39 rfl rfl (Nat.le_of_ble_eq_true rfl) (Nat.le_of_ble_eq_true rfl)
    · dsimp only at H
      refine WP.astore (lv9 := [(6, .ref z11), (5, .ref z3), (0, .ref t), (1, .int l1), (2, .int l2), (3, .int l3), (4, .int l4)]) d_X7_lips_14 (Nat.le_of_ble_eq_true rfl) rfl ?_
      refine WP.aload d_X7_lips_16 1 rfl ?_
      refine WP.nR d_X7_lips_18 ?_
      refine WP.aload d_X7_lips_21 0 rfl ?_
      refine WP.nR d_X7_lips_23 ?_
      refine WP.iload d_X7_lips_26 6 rfl ?_
      rcases oj H with ⟨hc, H⟩ | ⟨hc, H⟩
      · refine WP.if_lt_t d_X7_lips_28 hc ?_
        refine WP.bipush d_X7_lips_37 kb_m2 ?_
        cases H
        exact WP.ireturn d_X7_lips_39 rfl rfl (Nat.le_of_ble_eq_true rfl) (Nat.le_of_ble_eq_true rfl)
      · refine WP.if_lt_f d_X7_lips_28 hc ?_
        refine WP.iload d_X7_lips_31 6 rfl ?_
        refine WP.iconst d_X7_lips_33 ki_3 ?_
        rcases oj H with ⟨hc, H⟩ | ⟨hc, H⟩
        · refine WP.icmp_le_t d_X7_lips_34 hc ?_
          refine WP.bipush d_X7_lips_37 kb_m2 ?_
          cases H
          exact WP.ireturn d_X7_lips_39 rfl rfl (Nat.le_of_ble_eq_true rfl) (Nat.le_of_ble_eq_true rfl)
        · refine WP.icmp_le_f d_X7_lips_34 hc ?_
          refine WP.aload d_X7_lips_40 0 rfl ?_
          obtain ⟨h13, e12, H⟩ := ob H
          refine WP.cV (c := 2) (As := []) (st := []) (st9 := []) (cl9 := 0) (sl9 := 0) d_X7_lips_42 (ok_X1_learnAll V e12) tv_X1_learnAll ti_X1_learnAll ts_X1_learnAll lk_X7_249 r_X7_lips_X1_learnAll kc_X1_learnAll (kd_X1_learnAll e12) rfl rfl (Nat.le_of_ble_eq_true rfl) rfl rfl rfl ?_
          refine WP.iconst d_X7_lips_45 ki_0 ?_
          refine WP.istore (lv9 := [(7, .int 0), (6, .ref z11), (5, .ref z3), (0, .ref t), (1, .int l1), (2, .int l2), (3, .int l3), (4, .int l4)]) d_X7_lips_46 (Nat.le_of_ble_eq_true rfl) rfl ?_
          refine WP.iconst d_X7_lips_48 ki_0 ?_
          refine WP.istore (lv9 := [(8, .int 0), (7, .int 0), (6, .ref z11), (5, .ref z3), (0, .ref t), (1, .int l1), (2, .int l2), (3, .int l3), (4, .int l4)]) d_X7_lips_49 (Nat.le_of_ble_eq_true rfl) rfl ?_
          refine WP.iconst d_X7_lips_51 ki_0 ?_
          refine WP.istore (lv9 := [(9, .int 0), (8, .int 0), (7, .int 0), (6, .ref z11), (5, .ref z3), (0, .ref t), (1, .int l1), (2, .int l2), (3, .int l3), (4, .int l4)]) d_X7_lips_52 (Nat.le_of_ble_eq_true rfl) rfl ?_
          obtain ⟨⟨y35, y36⟩, e34, H⟩ := ob H
          refine WP.sub [9, 4, 3, 2, 1, 0] (lv' := [(4, .int l4), (5, .ref z3), (6, .ref z11), (7, .int 0), (8, .int 0), (9, .int 0)]) rfl ?_
          refine okl_X7_lips_L54 V _ e34 ?_
          refine WP.iload d_X7_lips_163 0 rfl ?_
          rcases oj H with ⟨hq0, H⟩ | ⟨hq0, H⟩
          · refine WP.tsw (t := 192) 0 d_X7_lips_165 (by rw [hq0]; decide) (by decide) rfl (by decide) ?_
            refine WP.iload d_X7_lips_192 2 rfl ?_
            cases H
            exact WP.ireturn d_X7_lips_194 rfl rfl (Nat.le_of_ble_eq_true rfl) (Nat.le_of_ble_eq_true rfl)
          · skip
            rcases oj H with ⟨hq1, H⟩ | ⟨hq1, H⟩
            · refine WP.tsw (t := 195) 1 d_X7_lips_165 (by rw [hq1]; decide) (by decide) rfl (by decide) ?_
              refine WP.iload d_X7_lips_195 3 rfl ?_
              cases H
              exact WP.ireturn d_X7_lips_197 rfl rfl (Nat.le_of_ble_eq_true rfl) (Nat.le_of_ble_eq_true rfl)
            · skip
              rcases oj H with ⟨hq2, H⟩ | ⟨hq2, H⟩
              · refine WP.tsw (t := 198) 2 d_X7_lips_165 (by rw [hq2]; decide) (by decide) rfl (by decide) ?_
                refine WP.iload d_X7_lips_198 2 rfl ?_
                refine WP.iload d_X7_lips_200 3 rfl ?_
                refine WP.iconst d_X7_lips_202 ki_m1 ?_
                refine WP.ixor d_X7_lips_203 ?_
                refine WP.iand d_X7_lips_204 ?_
                cases H
                exact WP.ireturn d_X7_lips_205 rfl rfl (Nat.le_of_ble_eq_true rfl) (Nat.le_of_ble_eq_true rfl)
              · skip
                refine WP.tswd (t := 206) d_X7_lips_165 (tsw_out (n := 3) [0, 1, 2] (by decide) (by decide +kernel) (List.forall_mem_cons.mpr ⟨hq0, (List.forall_mem_cons.mpr ⟨hq1, (List.forall_mem_cons.mpr ⟨hq2, (fun _ hz9 => absurd hz9 List.not_mem_nil)⟩)⟩)⟩)) (by decide) ?_
                refine WP.aload d_X7_lips_206 1 rfl ?_
                refine WP.iload d_X7_lips_208 3 rfl ?_
                obtain ⟨x38, e37, H⟩ := ob H
                refine WP.cS (As := [.ref z3, .int y36]) (st := []) (st9 := [.int x38]) (cl9 := 0) (sl9 := 0) d_X7_lips_210 (ok_X7_readerOf V e37) tv_X7_readerOf ts_X7_readerOf lk_X7_297 r_X7_lips_X7_readerOf rfl rfl (Nat.le_of_ble_eq_true rfl) rfl rfl rfl ?_
                cases H
                exact WP.ireturn d_X7_lips_213 rfl rfl (Nat.le_of_ble_eq_true rfl) (Nat.le_of_ble_eq_true rfl)

set_option maxRecDepth 20000 in
set_option maxHeartbeats 4000000 in
theorem ok_X7_drawn (V : EV) {h : HA} {t : Nat} {l1 : Int32} {l2 : Int32} {l3 : Int32} {l4 : Int32} {l5 : Int32} {r : Int32} {hR : HA} (H : X7_drawn h t l1 l2 l3 l4 l5 = some (r, hR)) : MG V M_X7_drawn [.ref t, .int l1, .int l2, .int l3, .int l4, .int l5] h (some (.int r)) hR := by
  unfold X7_drawn at H
  obtain ⟨_, H⟩ := oc H
  refine MG.of (lv0 := [(0, .ref t), (1, .int l1), (2, .int l2), (3, .int l3), (4, .int l4), (5, .int l5)]) pn_X7 rfl (Nat.le_of_ble_eq_true rfl) ?_
  refine WP.aload_n d_X7_drawn_0 0 rfl ?_
  refine WP.iload_n d_X7_drawn_1 1 rfl ?_
  refine WP.iload_n d_X7_drawn_2 2 rfl ?_
  obtain ⟨⟨x3, h2⟩, e1, H⟩ := ob H
  refine WP.cV (c := 8) (As := [.int l1, .int l2]) (st := []) (st9 := va_rf x3 :: []) (cl9 := 0) (sl9 := 0) d_X7_drawn_3 (ok_X7_hallOf V e1) tv_X7_hallOf ti_X7_hallOf ts_X7_hallOf lk_X7_220 r_X7_drawn_X7_hallOf kc_X7_hallOf (kd_X7_hallOf e1) rfl rfl (Nat.le_of_ble_eq_true rfl) rfl rfl rfl ?_
  rcases x3 with _ | z4
  · dsimp only at H
    refine WP.astoreN (lv9 := [(6, .null), (0, .ref t), (1, .int l1), (2, .int l2), (3, .int l3), (4, .int l4), (5, .int l5)]) d_X7_drawn_6 (Nat.le_of_ble_eq_true rfl) rfl ?_
    refine WP.aloadN d_X7_drawn_8 0 rfl ?_
    refine WP.nN d_X7_drawn_10 ?_
    refine WP.iconst d_X7_drawn_25 ki_m1 ?_
    cases H
    exact WP.ireturn d_X7_drawn_26 rfl rfl (Nat.le_of_ble_eq_true rfl) (Nat.le_of_ble_eq_true rfl)
  · dsimp only at H
    refine WP.astore (lv9 := [(6, .ref z4), (0, .ref t), (1, .int l1), (2, .int l2), (3, .int l3), (4, .int l4), (5, .int l5)]) d_X7_drawn_6 (Nat.le_of_ble_eq_true rfl) rfl ?_
    refine WP.aload d_X7_drawn_8 0 rfl ?_
    refine WP.nR d_X7_drawn_10 ?_
    refine WP.iload d_X7_drawn_13 5 rfl ?_
    rcases oj H with ⟨hc, H⟩ | ⟨hc, H⟩
    · refine WP.if_lt_t d_X7_drawn_15 hc ?_
      refine WP.iconst d_X7_drawn_25 ki_m1 ?_
      cases H
      exact WP.ireturn d_X7_drawn_26 rfl rfl (Nat.le_of_ble_eq_true rfl) (Nat.le_of_ble_eq_true rfl)
    · refine WP.if_lt_f d_X7_drawn_15 hc ?_
      refine WP.iload d_X7_drawn_18 5 rfl ?_
      refine WP.bipush d_X7_drawn_20 kb_100 ?_
      rcases oj H with ⟨hc, H⟩ | ⟨hc, H⟩
      · refine WP.icmp_le_t d_X7_drawn_22 hc ?_
        refine WP.iconst d_X7_drawn_25 ki_m1 ?_
        cases H
        exact WP.ireturn d_X7_drawn_26 rfl rfl (Nat.le_of_ble_eq_true rfl) (Nat.le_of_ble_eq_true rfl)
      · refine WP.icmp_le_f d_X7_drawn_22 hc ?_
        refine WP.iload d_X7_drawn_27 6 rfl ?_
        refine WP.bipush d_X7_drawn_29 kb_10 ?_
        refine WP.isub d_X7_drawn_31 ?_
        refine WP.istore (lv9 := [(7, .int (l5 - 10)), (6, .ref z4), (0, .ref t), (1, .int l1), (2, .int l2), (3, .int l3), (4, .int l4), (5, .int l5)]) d_X7_drawn_32 (Nat.le_of_ble_eq_true rfl) rfl ?_
        refine WP.iload d_X7_drawn_34 7 rfl ?_
        obtain ⟨s22, hs5, H⟩ := ob H
        rcases s22 with r18 | _
        · dsimp only at H
          rcases oj hs5 with ⟨hc, hs5⟩ | ⟨hc, hs5⟩
          · refine WP.if_eq_t d_X7_drawn_36 hc ?_
            cases hs5
          · refine WP.if_eq_f d_X7_drawn_36 hc ?_
            refine WP.iload d_X7_drawn_39 7 rfl ?_
            refine WP.iconst d_X7_drawn_41 ki_1 ?_
            rcases oj hs5 with ⟨hc, hs5⟩ | ⟨hc, hs5⟩
            · refine WP.icmp_eq_t d_X7_drawn_42 hc ?_
              cases hs5
            · refine WP.icmp_eq_f d_X7_drawn_42 hc ?_
              refine WP.iload d_X7_drawn_45 7 rfl ?_
              refine WP.bipush d_X7_drawn_47 kb_10 ?_
              rcases oj hs5 with ⟨hc, hs5⟩ | ⟨hc, hs5⟩
              · refine WP.icmp_lt_t d_X7_drawn_49 hc ?_
                refine WP.iconst d_X7_drawn_65 ki_m1 ?_
                cases hs5
                cases H
                exact WP.ireturn d_X7_drawn_66 rfl rfl (Nat.le_of_ble_eq_true rfl) (Nat.le_of_ble_eq_true rfl)
              · refine WP.icmp_lt_f d_X7_drawn_49 hc ?_
                refine WP.aload d_X7_drawn_52 1 rfl ?_
                obtain ⟨x19, ex19, hs5⟩ := ob hs5
                refine WP.fR d_X7_drawn_54 gf_X7_239 (fun _ => rfl) ex19 ?_
                refine WP.iload d_X7_drawn_57 0 rfl ?_
                obtain ⟨x21, e20, hs5⟩ := ob hs5
                refine WP.cV (c := 1) (As := [.int (l5 - 10)]) (st := []) (st9 := [.int x21]) (cl9 := 0) (sl9 := 0) d_X7_drawn_59 (ok_X0_hasJudge V e20) tv_X0_hasJudge ti_X0_hasJudge ts_X0_hasJudge lk_X7_137 r_X7_drawn_X0_hasJudge kc_X0_hasJudge (kd_X0_hasJudge e20) rfl rfl (Nat.le_of_ble_eq_true rfl) rfl rfl rfl ?_
                rcases oj hs5 with ⟨hc, hs5⟩ | ⟨hc, hs5⟩
                · refine WP.if_ne_t d_X7_drawn_62 hc ?_
                  refine WP.iconst d_X7_drawn_65 ki_m1 ?_
                  cases hs5
                  cases H
                  exact WP.ireturn d_X7_drawn_66 rfl rfl (Nat.le_of_ble_eq_true rfl) (Nat.le_of_ble_eq_true rfl)
                · refine WP.if_ne_f d_X7_drawn_62 hc ?_
                  cases hs5
        · dsimp only at H
          have J6 : WP V M_X7_drawn 67 [(3, .int l3), (4, .int l4), (5, .int l5), (6, .ref z4), (7, .int (l5 - 10))] [] h2 0 0 (some (.int r)) hR := by
            refine WP.aload d_X7_drawn_67 3 rfl ?_
            refine WP.iload_n d_X7_drawn_69 0 rfl ?_
            refine WP.iload d_X7_drawn_70 1 rfl ?_
            obtain ⟨⟨x12, h11⟩, e10, H⟩ := ob H
            refine WP.cV (c := 2) (As := [.int l3, .int l4]) (st := []) (st9 := [.int x12]) (cl9 := 0) (sl9 := 0) d_X7_drawn_72 (ok_X1_thunder V e10) tv_X1_thunder ti_X1_thunder ts_X1_thunder lk_X7_300 r_X7_drawn_X1_thunder kc_X1_thunder (kd_X1_thunder e10) rfl rfl (Nat.le_of_ble_eq_true rfl) rfl rfl rfl ?_
            refine WP.istore (lv9 := [(8, .int x12), (3, .int l3), (4, .int l4), (5, .int l5), (6, .ref z4), (7, .int (l5 - 10))]) d_X7_drawn_75 (Nat.le_of_ble_eq_true rfl) rfl ?_
            refine WP.iload d_X7_drawn_77 3 rfl ?_
            refine WP.iconst d_X7_drawn_79 ki_1 ?_
            rcases oj H with ⟨hc, H⟩ | ⟨hc, H⟩
            · refine WP.icmp_ne_t d_X7_drawn_80 hc ?_
              refine WP.iload d_X7_drawn_83 0 rfl ?_
              cases H
              exact WP.ireturn d_X7_drawn_85 rfl rfl (Nat.le_of_ble_eq_true rfl) (Nat.le_of_ble_eq_true rfl)
            · refine WP.icmp_ne_f d_X7_drawn_80 hc ?_
              refine WP.iload d_X7_drawn_86 3 rfl ?_
              rcases oj H with ⟨hc, H⟩ | ⟨hc, H⟩
              · refine WP.if_ne_t d_X7_drawn_88 hc ?_
                refine WP.aload d_X7_drawn_91 4 rfl ?_
                refine WP.iconst d_X7_drawn_93 ki_0 ?_
                obtain ⟨x14, e13, H⟩ := ob H
                refine WP.cV (c := 2) (As := [.int 0]) (st := []) (st9 := [.int x14]) (cl9 := 0) (sl9 := 0) d_X7_drawn_94 (ok_X1_allLearned V e13) tv_X1_allLearned ti_X1_allLearned ts_X1_allLearned lk_X7_303 r_X7_drawn_X1_allLearned kc_X1_allLearned (kd_X1_allLearned e13) rfl rfl (Nat.le_of_ble_eq_true rfl) rfl rfl rfl ?_
                refine WP.goto d_X7_drawn_97 ?_
                cases H
                exact WP.ireturn d_X7_drawn_112 rfl rfl (Nat.le_of_ble_eq_true rfl) (Nat.le_of_ble_eq_true rfl)
              · refine WP.if_ne_f d_X7_drawn_88 hc ?_
                refine WP.aload d_X7_drawn_100 4 rfl ?_
                refine WP.iload d_X7_drawn_102 5 rfl ?_
                refine WP.aload d_X7_drawn_104 4 rfl ?_
                obtain ⟨x15, ex15, H⟩ := ob H
                refine WP.fI d_X7_drawn_106 gf_X7_224 (fun _ => rfl) ex15 ?_
                obtain ⟨x17, e16, H⟩ := ob H
                refine WP.cV (c := 2) (As := [.int (l5 - 10), .int x15]) (st := []) (st9 := [.int x17]) (cl9 := 0) (sl9 := 0) d_X7_drawn_109 (ok_X1_learned V e16) tv_X1_learned ti_X1_learned ts_X1_learned lk_X7_240 r_X7_drawn_X1_learned kc_X1_learned (kd_X1_learned e16) rfl rfl (Nat.le_of_ble_eq_true rfl) rfl rfl rfl ?_
                cases H
                exact WP.ireturn d_X7_drawn_112 rfl rfl (Nat.le_of_ble_eq_true rfl) (Nat.le_of_ble_eq_true rfl)
          rcases oj hs5 with ⟨hc, hs5⟩ | ⟨hc, hs5⟩
          · refine WP.if_eq_t d_X7_drawn_36 hc ?_
            cases hs5
            exact WP.sub [5, 6, 7, 1, 0] rfl J6
          · refine WP.if_eq_f d_X7_drawn_36 hc ?_
            refine WP.iload d_X7_drawn_39 7 rfl ?_
            refine WP.iconst d_X7_drawn_41 ki_1 ?_
            rcases oj hs5 with ⟨hc, hs5⟩ | ⟨hc, hs5⟩
            · refine WP.icmp_eq_t d_X7_drawn_42 hc ?_
              cases hs5
              exact WP.sub [5, 6, 7, 1, 0] rfl J6
            · refine WP.icmp_eq_f d_X7_drawn_42 hc ?_
              refine WP.iload d_X7_drawn_45 7 rfl ?_
              refine WP.bipush d_X7_drawn_47 kb_10 ?_
              rcases oj hs5 with ⟨hc, hs5⟩ | ⟨hc, hs5⟩
              · refine WP.icmp_lt_t d_X7_drawn_49 hc ?_
                refine WP.iconst d_X7_drawn_65 ki_m1 ?_
                cases hs5
              · refine WP.icmp_lt_f d_X7_drawn_49 hc ?_
                refine WP.aload d_X7_drawn_52 1 rfl ?_
                obtain ⟨x7, ex7, hs5⟩ := ob hs5
                refine WP.fR d_X7_drawn_54 gf_X7_239 (fun _ => rfl) ex7 ?_
                refine WP.iload d_X7_drawn_57 0 rfl ?_
                obtain ⟨x9, e8, hs5⟩ := ob hs5
                refine WP.cV (c := 1) (As := [.int (l5 - 10)]) (st := []) (st9 := [.int x9]) (cl9 := 0) (sl9 := 0) d_X7_drawn_59 (ok_X0_hasJudge V e8) tv_X0_hasJudge ti_X0_hasJudge ts_X0_hasJudge lk_X7_137 r_X7_drawn_X0_hasJudge kc_X0_hasJudge (kd_X0_hasJudge e8) rfl rfl (Nat.le_of_ble_eq_true rfl) rfl rfl rfl ?_
                rcases oj hs5 with ⟨hc, hs5⟩ | ⟨hc, hs5⟩
                · refine WP.if_ne_t d_X7_drawn_62 hc ?_
                  refine WP.iconst d_X7_drawn_65 ki_m1 ?_
                  cases hs5
                · refine WP.if_ne_f d_X7_drawn_62 hc ?_
                  cases hs5
                  exact WP.sub [5, 6, 7, 1, 0] rfl J6

set_option maxRecDepth 20000 in
set_option maxHeartbeats 4000000 in
theorem okl_X7_hush_L46 (V : EV) {h : HA} {l2 : Int32} {l3 : Int32} {l4 : Int32} {l5 : Nat} (n : Nat) : ∀ {l6 : Int32} {r : Int32} {hR : HA} , (H : X7_hush_L46 h l2 l3 l4 l5 n l6 = some (r, hR)) → WP V M_X7_hush 46 [(2, .int l2), (3, .int l3), (4, .int l4), (5, .ref l5), (6, .int l6)] [] h 0 0 (some (.int r)) hR := by
  induction n with
  | zero =>
    intro l6 r hR H
    rw [X7_hush_L46] at H
    cases H
  | succ n ih =>
    intro l6 r hR H
    rw [X7_hush_L46] at H
    refine WP.iload d_X7_hush_46 4 rfl ?_
    refine WP.bipush d_X7_hush_48 kb_9 ?_
    rcases oj H with ⟨hc, H⟩ | ⟨hc, H⟩
    · refine WP.icmp_gt_t d_X7_hush_50 hc ?_
      refine WP.iconst d_X7_hush_79 ki_m1 ?_
      cases H
      exact WP.ireturn d_X7_hush_80 rfl rfl (Nat.le_of_ble_eq_true rfl) (Nat.le_of_ble_eq_true rfl)
    · refine WP.icmp_gt_f d_X7_hush_50 hc ?_
      refine WP.aload d_X7_hush_53 3 rfl ?_
      refine WP.iload_n d_X7_hush_55 0 rfl ?_
      refine WP.iload_n d_X7_hush_56 1 rfl ?_
      refine WP.iload d_X7_hush_57 4 rfl ?_
      obtain ⟨x10, e9, H⟩ := ob H
      refine WP.cV (c := 1) (As := [.int l2, .int l3, .int l6]) (st := []) (st9 := [.int x10]) (cl9 := 0) (sl9 := 0) d_X7_hush_59 (ok_X0_earsAt V e9) tv_X0_earsAt ti_X0_earsAt ts_X0_earsAt lk_X7_175 r_X7_hush_X0_earsAt kc_X0_earsAt (kd_X0_earsAt e9) rfl rfl (Nat.le_of_ble_eq_true rfl) rfl rfl rfl ?_
      obtain ⟨x12, e11, H⟩ := ob H
      refine WP.cS (As := [.int x10]) (st := []) (st9 := [.int x12]) (cl9 := 0) (sl9 := 0) d_X7_hush_62 (ok_J6_bitCount_0f7a4 V (h := h) e11) tv_J6_bitCount_0f7a4 ts_J6_bitCount_0f7a4 lk_X7_179 r_X7_hush_J6_bitCount_0f7a4 rfl rfl (Nat.le_of_ble_eq_true rfl) rfl rfl rfl ?_
      refine WP.iload d_X7_hush_65 2 rfl ?_
      rcases oj H with ⟨hc, H⟩ | ⟨hc, H⟩
      · refine WP.icmp_lt_t d_X7_hush_67 hc ?_
        refine WP.iinc (lv9 := [(6, .int (l6 + 1)), (2, .int l2), (3, .int l3), (4, .int l4), (5, .ref l5)]) d_X7_hush_73 4 rfl ki_1 (Nat.le_of_ble_eq_true rfl) rfl ?_
        refine WP.goto d_X7_hush_76 ?_
        refine WP.sub [1, 2, 3, 4, 0] (lv' := [(2, .int l2), (3, .int l3), (4, .int l4), (5, .ref l5), (6, .int (l6 + 1))]) rfl ?_
        exact ih H
      · refine WP.icmp_lt_f d_X7_hush_67 hc ?_
        refine WP.iload d_X7_hush_70 4 rfl ?_
        cases H
        exact WP.ireturn d_X7_hush_72 rfl rfl (Nat.le_of_ble_eq_true rfl) (Nat.le_of_ble_eq_true rfl)

set_option maxRecDepth 20000 in
set_option maxHeartbeats 4000000 in
theorem ok_X7_hush (V : EV) {h : HA} {t : Nat} {l1 : Int32} {l2 : Int32} {l3 : Int32} {l4 : Int32} {r : Int32} {hR : HA} (H : X7_hush h t l1 l2 l3 l4 = some (r, hR)) : MG V M_X7_hush [.ref t, .int l1, .int l2, .int l3, .int l4] h (some (.int r)) hR := by
  unfold X7_hush at H
  obtain ⟨_, H⟩ := oc H
  refine MG.of (lv0 := [(0, .ref t), (1, .int l1), (2, .int l2), (3, .int l3), (4, .int l4)]) pn_X7 rfl (Nat.le_of_ble_eq_true rfl) ?_
  refine WP.aload_n d_X7_hush_0 0 rfl ?_
  refine WP.iload_n d_X7_hush_1 1 rfl ?_
  obtain ⟨⟨x3, h2⟩, e1, H⟩ := ob H
  refine WP.cV (c := 8) (As := [.int l1]) (st := []) (st9 := va_rf x3 :: []) (cl9 := 0) (sl9 := 0) d_X7_hush_2 (ok_X7_courtAt V e1) tv_X7_courtAt ti_X7_courtAt ts_X7_courtAt lk_X7_95 r_X7_hush_X7_courtAt kc_X7_courtAt (kd_X7_courtAt e1) rfl rfl (Nat.le_of_ble_eq_true rfl) rfl rfl rfl ?_
  rcases x3 with _ | z4
  · dsimp only at H
    refine WP.astoreN (lv9 := [(5, .null), (0, .ref t), (1, .int l1), (2, .int l2), (3, .int l3), (4, .int l4)]) d_X7_hush_5 (Nat.le_of_ble_eq_true rfl) rfl ?_
    refine WP.aloadN d_X7_hush_7 0 rfl ?_
    refine WP.nN d_X7_hush_9 ?_
    refine WP.iconst d_X7_hush_41 ki_m1 ?_
    cases H
    exact WP.ireturn d_X7_hush_42 rfl rfl (Nat.le_of_ble_eq_true rfl) (Nat.le_of_ble_eq_true rfl)
  · dsimp only at H
    refine WP.astore (lv9 := [(5, .ref z4), (0, .ref t), (1, .int l1), (2, .int l2), (3, .int l3), (4, .int l4)]) d_X7_hush_5 (Nat.le_of_ble_eq_true rfl) rfl ?_
    refine WP.aload d_X7_hush_7 0 rfl ?_
    refine WP.nR d_X7_hush_9 ?_
    refine WP.aload d_X7_hush_12 0 rfl ?_
    refine WP.iload_n d_X7_hush_14 3 rfl ?_
    obtain ⟨x6, e5, H⟩ := ob H
    refine WP.cV (c := 1) (As := [.int l2]) (st := []) (st9 := [.int x6]) (cl9 := 0) (sl9 := 0) d_X7_hush_15 (ok_X0_isOpen V e5) tv_X0_isOpen ti_X0_isOpen ts_X0_isOpen lk_X7_156 r_X7_hush_X0_isOpen kc_X0_isOpen (kd_X0_isOpen e5) rfl rfl (Nat.le_of_ble_eq_true rfl) rfl rfl rfl ?_
    rcases oj H with ⟨hc, H⟩ | ⟨hc, H⟩
    · refine WP.if_eq_t d_X7_hush_18 hc ?_
      refine WP.iconst d_X7_hush_41 ki_m1 ?_
      cases H
      exact WP.ireturn d_X7_hush_42 rfl rfl (Nat.le_of_ble_eq_true rfl) (Nat.le_of_ble_eq_true rfl)
    · refine WP.if_eq_f d_X7_hush_18 hc ?_
      refine WP.iload_n d_X7_hush_21 4 rfl ?_
      obtain ⟨x8, e7, H⟩ := ob H
      refine WP.cS (As := [.int l3]) (st := []) (st9 := [.int x8]) (cl9 := 0) (sl9 := 0) d_X7_hush_22 (ok_X7_isHour V (h := h2) e7) tv_X7_isHour ts_X7_isHour lk_X7_163 r_X7_hush_X7_isHour rfl rfl (Nat.le_of_ble_eq_true rfl) rfl rfl rfl ?_
      rcases oj H with ⟨hc, H⟩ | ⟨hc, H⟩
      · refine WP.if_eq_t d_X7_hush_25 hc ?_
        refine WP.iconst d_X7_hush_41 ki_m1 ?_
        cases H
        exact WP.ireturn d_X7_hush_42 rfl rfl (Nat.le_of_ble_eq_true rfl) (Nat.le_of_ble_eq_true rfl)
      · refine WP.if_eq_f d_X7_hush_25 hc ?_
        refine WP.iload d_X7_hush_28 5 rfl ?_
        refine WP.iconst d_X7_hush_30 ki_1 ?_
        rcases oj H with ⟨hc, H⟩ | ⟨hc, H⟩
        · refine WP.icmp_lt_t d_X7_hush_31 hc ?_
          refine WP.iconst d_X7_hush_41 ki_m1 ?_
          cases H
          exact WP.ireturn d_X7_hush_42 rfl rfl (Nat.le_of_ble_eq_true rfl) (Nat.le_of_ble_eq_true rfl)
        · refine WP.icmp_lt_f d_X7_hush_31 hc ?_
          refine WP.iload d_X7_hush_34 5 rfl ?_
          refine WP.bipush d_X7_hush_36 kb_6 ?_
          rcases oj H with ⟨hc, H⟩ | ⟨hc, H⟩
          · refine WP.icmp_le_t d_X7_hush_38 hc ?_
            refine WP.iconst d_X7_hush_41 ki_m1 ?_
            cases H
            exact WP.ireturn d_X7_hush_42 rfl rfl (Nat.le_of_ble_eq_true rfl) (Nat.le_of_ble_eq_true rfl)
          · refine WP.icmp_le_f d_X7_hush_38 hc ?_
            refine WP.iconst d_X7_hush_43 ki_0 ?_
            refine WP.istore (lv9 := [(6, .int 0), (5, .ref z4), (0, .ref t), (1, .int l1), (2, .int l2), (3, .int l3), (4, .int l4)]) d_X7_hush_44 (Nat.le_of_ble_eq_true rfl) rfl ?_
            refine WP.sub [4, 5, 6, 1, 0] (lv' := [(2, .int l2), (3, .int l3), (4, .int l4), (5, .ref z4), (6, .int 0)]) rfl ?_
            exact okl_X7_hush_L46 V _ H

set_option maxRecDepth 20000 in
set_option maxHeartbeats 4000000 in
theorem okl_X7_bench_L41 (V : EV) {vF : Option Value} {hF : HA} {h : HA} {l3 : Int32} {l4 : Nat} (n : Nat) : ∀ {l5 : Int32} {l6 : Int32} {l7 : Int32} {r5 : Int32}, (H : X7_bench_L41 h l3 l4 n l5 l6 l7 = some r5) → (K : WP V M_X7_bench 93 [(5, .int r5)] [] h 0 0 vF hF) → WP V M_X7_bench 41 [(3, .int l3), (4, .ref l4), (5, .int l5), (6, .int l6), (7, .int l7)] [] h 0 0 vF hF := by
  induction n with
  | zero =>
    intro l5 l6 l7 r5 H K
    rw [X7_bench_L41] at H
    cases H
  | succ n ih =>
    intro l5 l6 l7 r5 H K
    rw [X7_bench_L41] at H
    refine WP.iload d_X7_bench_41 4 rfl ?_
    refine WP.iconst d_X7_bench_43 ki_4 ?_
    rcases oj H with ⟨hc, H⟩ | ⟨hc, H⟩
    · refine WP.icmp_ge_t d_X7_bench_44 hc ?_
      refine WP.iload_n d_X7_bench_47 0 rfl ?_
      refine WP.iconst d_X7_bench_48 ki_m1 ?_
      obtain ⟨j10, hs11, H⟩ := ob H
      have J12 : WP V M_X7_bench 70 [(3, .int l3), (4, .ref l4), (5, .int l5), (6, .int l6), (7, .int l7)] [.int j10] h 0 0 vF hF := by
        refine WP.istore (lv9 := [(8, .int j10), (3, .int l3), (4, .ref l4), (5, .int l5), (6, .int l6), (7, .int l7)]) d_X7_bench_70 (Nat.le_of_ble_eq_true rfl) rfl ?_
        refine WP.iload d_X7_bench_72 0 rfl ?_
        refine WP.iload d_X7_bench_74 4 rfl ?_
        rcases oj H with ⟨hc, H⟩ | ⟨hc, H⟩
        · refine WP.icmp_le_t d_X7_bench_76 hc ?_
          refine WP.iload d_X7_bench_79 0 rfl ?_
          refine WP.istore (lv9 := [(6, .int j10), (8, .int j10), (3, .int l3), (4, .ref l4), (5, .int l5), (7, .int l7)]) d_X7_bench_81 (Nat.le_of_ble_eq_true rfl) rfl ?_
          refine WP.iload d_X7_bench_83 5 rfl ?_
          refine WP.istore (lv9 := [(5, .int l7), (6, .int j10), (8, .int j10), (3, .int l3), (4, .ref l4), (7, .int l7)]) d_X7_bench_85 (Nat.le_of_ble_eq_true rfl) rfl ?_
          refine WP.iinc (lv9 := [(7, .int (l7 + 1)), (5, .int l7), (6, .int j10), (8, .int j10), (3, .int l3), (4, .ref l4)]) d_X7_bench_87 5 rfl ki_1 (Nat.le_of_ble_eq_true rfl) rfl ?_
          refine WP.goto d_X7_bench_90 ?_
          refine WP.sub [4, 5, 1, 2, 0] (lv' := [(3, .int l3), (4, .ref l4), (5, .int l7), (6, .int j10), (7, .int (l7 + 1))]) rfl ?_
          exact ih H K
        · refine WP.icmp_le_f d_X7_bench_76 hc ?_
          refine WP.iinc (lv9 := [(7, .int (l7 + 1)), (8, .int j10), (3, .int l3), (4, .ref l4), (5, .int l5), (6, .int l6)]) d_X7_bench_87 5 rfl ki_1 (Nat.le_of_ble_eq_true rfl) rfl ?_
          refine WP.goto d_X7_bench_90 ?_
          refine WP.sub [2, 3, 4, 5, 0] (lv' := [(3, .int l3), (4, .ref l4), (5, .int l5), (6, .int l6), (7, .int (l7 + 1))]) rfl ?_
          exact ih H K
      rcases oj hs11 with ⟨hc, hs11⟩ | ⟨hc, hs11⟩
      · refine WP.icmp_ne_t d_X7_bench_49 hc ?_
        refine WP.aload d_X7_bench_52 1 rfl ?_
        refine WP.iload d_X7_bench_54 4 rfl ?_
        obtain ⟨x14, e13, hs11⟩ := ob hs11
        refine WP.cV (c := 2) (As := [.int l7]) (st := []) (st9 := [.int x14]) (cl9 := 0) (sl9 := 0) d_X7_bench_56 (ok_X1_allLearned V e13) tv_X1_allLearned ti_X1_allLearned ts_X1_allLearned lk_X7_303 r_X7_bench_X1_allLearned kc_X1_allLearned (kd_X1_allLearned e13) rfl rfl (Nat.le_of_ble_eq_true rfl) rfl rfl rfl ?_
        refine WP.goto d_X7_bench_59 ?_
        cases hs11
        exact WP.sub [0, 1, 2, 3, 4] rfl J12
      · refine WP.icmp_ne_f d_X7_bench_49 hc ?_
        refine WP.aload d_X7_bench_62 1 rfl ?_
        refine WP.iload_n d_X7_bench_64 0 rfl ?_
        refine WP.iload d_X7_bench_65 4 rfl ?_
        obtain ⟨x16, e15, hs11⟩ := ob hs11
        refine WP.cV (c := 2) (As := [.int l3, .int l7]) (st := []) (st9 := [.int x16]) (cl9 := 0) (sl9 := 0) d_X7_bench_67 (ok_X1_knownFacing V e15) tv_X1_knownFacing ti_X1_knownFacing ts_X1_knownFacing lk_X7_306 r_X7_bench_X1_knownFacing kc_X1_knownFacing (kd_X1_knownFacing e15) rfl rfl (Nat.le_of_ble_eq_true rfl) rfl rfl rfl ?_
        cases hs11
        exact WP.sub [0, 1, 2, 3, 4] rfl J12
    · refine WP.icmp_ge_f d_X7_bench_44 hc ?_
      cases H
      exact WP.sub [2] rfl K

set_option maxRecDepth 20000 in
set_option maxHeartbeats 4000000 in
theorem ok_X7_bench (V : EV) {h : HA} {t : Nat} {l1 : Int32} {l2 : Int32} {l3 : Int32} {r : Int32} {hR : HA} (H : X7_bench h t l1 l2 l3 = some (r, hR)) : MG V M_X7_bench [.ref t, .int l1, .int l2, .int l3] h (some (.int r)) hR := by
  unfold X7_bench at H
  obtain ⟨_, H⟩ := oc H
  refine MG.of (lv0 := [(0, .ref t), (1, .int l1), (2, .int l2), (3, .int l3)]) pn_X7 rfl (Nat.le_of_ble_eq_true rfl) ?_
  refine WP.aload_n d_X7_bench_0 0 rfl ?_
  refine WP.iload_n d_X7_bench_1 1 rfl ?_
  refine WP.iload_n d_X7_bench_2 2 rfl ?_
  obtain ⟨⟨x3, h2⟩, e1, H⟩ := ob H
  refine WP.cV (c := 8) (As := [.int l1, .int l2]) (st := []) (st9 := va_rf x3 :: []) (cl9 := 0) (sl9 := 0) d_X7_bench_3 (ok_X7_hallOf V e1) tv_X7_hallOf ti_X7_hallOf ts_X7_hallOf lk_X7_220 r_X7_bench_X7_hallOf kc_X7_hallOf (kd_X7_hallOf e1) rfl rfl (Nat.le_of_ble_eq_true rfl) rfl rfl rfl ?_
  rcases x3 with _ | z4
  · dsimp only at H
    refine WP.astoreN (lv9 := [(4, .null), (0, .ref t), (1, .int l1), (2, .int l2), (3, .int l3)]) d_X7_bench_6 (Nat.le_of_ble_eq_true rfl) rfl ?_
    refine WP.aloadN d_X7_bench_8 0 rfl ?_
    refine WP.nN d_X7_bench_10 ?_
    refine WP.iconst d_X7_bench_30 ki_m1 ?_
    cases H
    exact WP.ireturn d_X7_bench_31 rfl rfl (Nat.le_of_ble_eq_true rfl) (Nat.le_of_ble_eq_true rfl)
  · dsimp only at H
    refine WP.astore (lv9 := [(4, .ref z4), (0, .ref t), (1, .int l1), (2, .int l2), (3, .int l3)]) d_X7_bench_6 (Nat.le_of_ble_eq_true rfl) rfl ?_
    refine WP.aload d_X7_bench_8 0 rfl ?_
    refine WP.nR d_X7_bench_10 ?_
    refine WP.iload_n d_X7_bench_13 4 rfl ?_
    refine WP.iconst d_X7_bench_14 ki_m1 ?_
    obtain ⟨s23, hs5, H⟩ := ob H
    rcases s23 with r19 | _
    · dsimp only at H
      rcases oj hs5 with ⟨hc, hs5⟩ | ⟨hc, hs5⟩
      · refine WP.icmp_eq_t d_X7_bench_15 hc ?_
        cases hs5
      · refine WP.icmp_eq_f d_X7_bench_15 hc ?_
        refine WP.aload d_X7_bench_18 0 rfl ?_
        obtain ⟨x20, ex20, hs5⟩ := ob hs5
        refine WP.fR d_X7_bench_20 gf_X7_239 (fun _ => rfl) ex20 ?_
        refine WP.iload_n d_X7_bench_23 4 rfl ?_
        obtain ⟨x22, e21, hs5⟩ := ob hs5
        refine WP.cV (c := 1) (As := [.int l3]) (st := []) (st9 := [.int x22]) (cl9 := 0) (sl9 := 0) d_X7_bench_24 (ok_X0_hasJudge V e21) tv_X0_hasJudge ti_X0_hasJudge ts_X0_hasJudge lk_X7_137 r_X7_bench_X0_hasJudge kc_X0_hasJudge (kd_X0_hasJudge e21) rfl rfl (Nat.le_of_ble_eq_true rfl) rfl rfl rfl ?_
        rcases oj hs5 with ⟨hc, hs5⟩ | ⟨hc, hs5⟩
        · refine WP.if_ne_t d_X7_bench_27 hc ?_
          refine WP.iconst d_X7_bench_30 ki_m1 ?_
          cases hs5
          cases H
          exact WP.ireturn d_X7_bench_31 rfl rfl (Nat.le_of_ble_eq_true rfl) (Nat.le_of_ble_eq_true rfl)
        · refine WP.if_ne_f d_X7_bench_27 hc ?_
          cases hs5
    · dsimp only at H
      have J6 : WP V M_X7_bench 32 [(3, .int l3), (4, .ref z4)] [] h2 0 0 (some (.int r)) hR := by
        refine WP.iconst d_X7_bench_32 ki_0 ?_
        refine WP.istore (lv9 := [(5, .int 0), (3, .int l3), (4, .ref z4)]) d_X7_bench_33 (Nat.le_of_ble_eq_true rfl) rfl ?_
        refine WP.iconst d_X7_bench_35 ki_m1 ?_
        refine WP.istore (lv9 := [(6, .int (-1)), (5, .int 0), (3, .int l3), (4, .ref z4)]) d_X7_bench_36 (Nat.le_of_ble_eq_true rfl) rfl ?_
        refine WP.iconst d_X7_bench_38 ki_0 ?_
        refine WP.istore (lv9 := [(7, .int 0), (6, .int (-1)), (5, .int 0), (3, .int l3), (4, .ref z4)]) d_X7_bench_39 (Nat.le_of_ble_eq_true rfl) rfl ?_
        obtain ⟨y18, e17, H⟩ := ob H
        refine WP.sub [3, 4, 2, 1, 0] (lv' := [(3, .int l3), (4, .ref z4), (5, .int 0), (6, .int (-1)), (7, .int 0)]) rfl ?_
        refine okl_X7_bench_L41 V _ e17 ?_
        refine WP.iload d_X7_bench_93 0 rfl ?_
        cases H
        exact WP.ireturn d_X7_bench_95 rfl rfl (Nat.le_of_ble_eq_true rfl) (Nat.le_of_ble_eq_true rfl)
      rcases oj hs5 with ⟨hc, hs5⟩ | ⟨hc, hs5⟩
      · refine WP.icmp_eq_t d_X7_bench_15 hc ?_
        cases hs5
        exact WP.sub [4, 0] rfl J6
      · refine WP.icmp_eq_f d_X7_bench_15 hc ?_
        refine WP.aload d_X7_bench_18 0 rfl ?_
        obtain ⟨x7, ex7, hs5⟩ := ob hs5
        refine WP.fR d_X7_bench_20 gf_X7_239 (fun _ => rfl) ex7 ?_
        refine WP.iload_n d_X7_bench_23 4 rfl ?_
        obtain ⟨x9, e8, hs5⟩ := ob hs5
        refine WP.cV (c := 1) (As := [.int l3]) (st := []) (st9 := [.int x9]) (cl9 := 0) (sl9 := 0) d_X7_bench_24 (ok_X0_hasJudge V e8) tv_X0_hasJudge ti_X0_hasJudge ts_X0_hasJudge lk_X7_137 r_X7_bench_X0_hasJudge kc_X0_hasJudge (kd_X0_hasJudge e8) rfl rfl (Nat.le_of_ble_eq_true rfl) rfl rfl rfl ?_
        rcases oj hs5 with ⟨hc, hs5⟩ | ⟨hc, hs5⟩
        · refine WP.if_ne_t d_X7_bench_27 hc ?_
          refine WP.iconst d_X7_bench_30 ki_m1 ?_
          cases hs5
        · refine WP.if_ne_f d_X7_bench_27 hc ?_
          cases hs5
          exact WP.sub [4, 0] rfl J6

set_option maxRecDepth 20000 in
set_option maxHeartbeats 4000000 in
theorem okl_X7_idle_L47 (V : EV) {vF : Option Value} {hF : HA} {h : HA} {l4 : Nat} {l5 : Nat} (n : Nat) : ∀ {l6 : Int32} {l7 : Int32} {r6 : Int32}, (H : X7_idle_L47 h l4 l5 n l6 l7 = some r6) → (K : WP V M_X7_idle 98 [(6, .int r6)] [] h 0 0 vF hF) → WP V M_X7_idle 47 [(4, .ref l4), (5, .ref l5), (6, .int l6), (7, .int l7)] [] h 0 0 vF hF := by
  induction n with
  | zero =>
    intro l6 l7 r6 H K
    rw [X7_idle_L47] at H
    cases H
  | succ n ih =>
    intro l6 l7 r6 H K
    rw [X7_idle_L47] at H
    refine WP.iload d_X7_idle_47 3 rfl ?_
    refine WP.aload d_X7_idle_49 1 rfl ?_
    obtain ⟨x15, ex15, H⟩ := ob H
    refine WP.fR d_X7_idle_51 gf_X7_239 (fun _ => rfl) ex15 ?_
    obtain ⟨x16, ex16, H⟩ := ob H
    refine WP.fI d_X7_idle_54 gf_X7_123 (fun _ => rfl) ex16 ?_
    rcases oj H with ⟨hc, H⟩ | ⟨hc, H⟩
    · refine WP.icmp_ge_t d_X7_idle_57 hc ?_
      refine WP.aload d_X7_idle_60 0 rfl ?_
      refine WP.aload d_X7_idle_62 1 rfl ?_
      obtain ⟨x17, ex17, H⟩ := ob H
      refine WP.fR d_X7_idle_64 gf_X7_259 (fun _ => rfl) ex17 ?_
      refine WP.iload d_X7_idle_67 3 rfl ?_
      obtain ⟨x18, ex18, H⟩ := ob H
      refine WP.iald d_X7_idle_69 ex18 ?_
      obtain ⟨x20, e19, H⟩ := ob H
      refine WP.cS (As := [.ref l4, .int x18]) (st := []) (st9 := [.int x20]) (cl9 := 0) (sl9 := 0) d_X7_idle_70 (ok_X7_ruleFor V e19) tv_X7_ruleFor ts_X7_ruleFor lk_X7_266 r_X7_idle_X7_ruleFor rfl rfl (Nat.le_of_ble_eq_true rfl) rfl rfl rfl ?_
      refine WP.istore (lv9 := [(8, .int x20), (4, .ref l4), (5, .ref l5), (6, .int l6), (7, .int l7)]) d_X7_idle_73 (Nat.le_of_ble_eq_true rfl) rfl ?_
      refine WP.iload d_X7_idle_75 0 rfl ?_
      refine WP.iconst d_X7_idle_77 ki_m1 ?_
      rcases oj H with ⟨hc, H⟩ | ⟨hc, H⟩
      · refine WP.icmp_eq_t d_X7_idle_78 hc ?_
        refine WP.iinc (lv9 := [(7, .int (l7 + 1)), (8, .int x20), (4, .ref l4), (5, .ref l5), (6, .int l6)]) d_X7_idle_92 4 rfl ki_1 (Nat.le_of_ble_eq_true rfl) rfl ?_
        refine WP.goto d_X7_idle_95 ?_
        refine WP.sub [2, 3, 4, 0] (lv' := [(4, .ref l4), (5, .ref l5), (6, .int l6), (7, .int (l7 + 1))]) rfl ?_
        exact ih H K
      · refine WP.icmp_eq_f d_X7_idle_78 hc ?_
        refine WP.iload d_X7_idle_81 3 rfl ?_
        refine WP.iconst d_X7_idle_83 ki_1 ?_
        refine WP.iload d_X7_idle_84 0 rfl ?_
        refine WP.ishl d_X7_idle_86 ?_
        refine WP.iconst d_X7_idle_87 ki_m1 ?_
        refine WP.ixor d_X7_idle_88 ?_
        refine WP.iand d_X7_idle_89 ?_
        refine WP.istore (lv9 := [(6, .int (l6 &&& ((shlI 1 x20) ^^^ (-1)))), (8, .int x20), (4, .ref l4), (5, .ref l5), (7, .int l7)]) d_X7_idle_90 (Nat.le_of_ble_eq_true rfl) rfl ?_
        refine WP.iinc (lv9 := [(7, .int (l7 + 1)), (6, .int (l6 &&& ((shlI 1 x20) ^^^ (-1)))), (8, .int x20), (4, .ref l4), (5, .ref l5)]) d_X7_idle_92 4 rfl ki_1 (Nat.le_of_ble_eq_true rfl) rfl ?_
        refine WP.goto d_X7_idle_95 ?_
        refine WP.sub [3, 4, 1, 0] (lv' := [(4, .ref l4), (5, .ref l5), (6, .int (l6 &&& ((shlI 1 x20) ^^^ (-1)))), (7, .int (l7 + 1))]) rfl ?_
        exact ih H K
    · refine WP.icmp_ge_f d_X7_idle_57 hc ?_
      cases H
      exact WP.sub [2] rfl K

set_option maxRecDepth 20000 in
set_option maxHeartbeats 4000000 in
theorem ok_X7_idle (V : EV) {h : HA} {t : Nat} {l1 : Int32} {l2 : Int32} {l3 : Int32} {r : Int32} {hR : HA} (H : X7_idle h t l1 l2 l3 = some (r, hR)) : MG V M_X7_idle [.ref t, .int l1, .int l2, .int l3] h (some (.int r)) hR := by
  unfold X7_idle at H
  obtain ⟨_, H⟩ := oc H
  refine MG.of (lv0 := [(0, .ref t), (1, .int l1), (2, .int l2), (3, .int l3)]) pn_X7 rfl (Nat.le_of_ble_eq_true rfl) ?_
  refine WP.aload_n d_X7_idle_0 0 rfl ?_
  refine WP.iconst d_X7_idle_1 ki_2 ?_
  refine WP.iload_n d_X7_idle_2 3 rfl ?_
  obtain ⟨x2, e1, H⟩ := ob H
  refine WP.cV (c := 8) (As := [.int 2, .int l3]) (st := []) (st9 := va_rf x2 :: []) (cl9 := 0) (sl9 := 0) d_X7_idle_3 (ok_X7_listAt V e1) tv_X7_listAt ti_X7_listAt ts_X7_listAt lk_X7_99 r_X7_idle_X7_listAt kc_X7_listAt (kd_X7_listAt e1) rfl rfl (Nat.le_of_ble_eq_true rfl) rfl rfl rfl ?_
  rcases x2 with _ | z3
  · dsimp only at H
    refine WP.astoreN (lv9 := [(4, .null), (0, .ref t), (1, .int l1), (2, .int l2), (3, .int l3)]) d_X7_idle_6 (Nat.le_of_ble_eq_true rfl) rfl ?_
    refine WP.aload_n d_X7_idle_8 1 rfl ?_
    refine WP.iload_n d_X7_idle_9 2 rfl ?_
    refine WP.iload_n d_X7_idle_10 3 rfl ?_
    obtain ⟨⟨x6, h5⟩, e4, H⟩ := ob H
    refine WP.cV (c := 8) (As := [.int l1, .int l2]) (st := []) (st9 := va_rf x6 :: []) (cl9 := 0) (sl9 := 0) d_X7_idle_11 (ok_X7_hallOf V e4) tv_X7_hallOf ti_X7_hallOf ts_X7_hallOf lk_X7_220 r_X7_idle_X7_hallOf kc_X7_hallOf (kd_X7_hallOf e4) rfl rfl (Nat.le_of_ble_eq_true rfl) rfl rfl rfl ?_
    rcases x6 with _ | z7
    · dsimp only at H
      refine WP.astoreN (lv9 := [(5, .null), (4, .null), (0, .ref t), (1, .int l1), (2, .int l2), (3, .int l3)]) d_X7_idle_14 (Nat.le_of_ble_eq_true rfl) rfl ?_
      refine WP.aloadN d_X7_idle_16 1 rfl ?_
      refine WP.nN d_X7_idle_18 ?_
      refine WP.iconst d_X7_idle_26 ki_m1 ?_
      cases H
      exact WP.ireturn d_X7_idle_27 rfl rfl (Nat.le_of_ble_eq_true rfl) (Nat.le_of_ble_eq_true rfl)
    · dsimp only at H
      refine WP.astore (lv9 := [(5, .ref z7), (4, .null), (0, .ref t), (1, .int l1), (2, .int l2), (3, .int l3)]) d_X7_idle_14 (Nat.le_of_ble_eq_true rfl) rfl ?_
      refine WP.aloadN d_X7_idle_16 1 rfl ?_
      refine WP.nN d_X7_idle_18 ?_
      refine WP.iconst d_X7_idle_26 ki_m1 ?_
      cases H
      exact WP.ireturn d_X7_idle_27 rfl rfl (Nat.le_of_ble_eq_true rfl) (Nat.le_of_ble_eq_true rfl)
  · dsimp only at H
    refine WP.astore (lv9 := [(4, .ref z3), (0, .ref t), (1, .int l1), (2, .int l2), (3, .int l3)]) d_X7_idle_6 (Nat.le_of_ble_eq_true rfl) rfl ?_
    refine WP.aload_n d_X7_idle_8 1 rfl ?_
    refine WP.iload_n d_X7_idle_9 2 rfl ?_
    refine WP.iload_n d_X7_idle_10 3 rfl ?_
    obtain ⟨⟨x10, h9⟩, e8, H⟩ := ob H
    refine WP.cV (c := 8) (As := [.int l1, .int l2]) (st := []) (st9 := va_rf x10 :: []) (cl9 := 0) (sl9 := 0) d_X7_idle_11 (ok_X7_hallOf V e8) tv_X7_hallOf ti_X7_hallOf ts_X7_hallOf lk_X7_220 r_X7_idle_X7_hallOf kc_X7_hallOf (kd_X7_hallOf e8) rfl rfl (Nat.le_of_ble_eq_true rfl) rfl rfl rfl ?_
    rcases x10 with _ | z11
    · dsimp only at H
      refine WP.astoreN (lv9 := [(5, .null), (4, .ref z3), (0, .ref t), (1, .int l1), (2, .int l2), (3, .int l3)]) d_X7_idle_14 (Nat.le_of_ble_eq_true rfl) rfl ?_
      refine WP.aload d_X7_idle_16 1 rfl ?_
      refine WP.nR d_X7_idle_18 ?_
      refine WP.aloadN d_X7_idle_21 0 rfl ?_
      refine WP.nnN d_X7_idle_23 ?_
      refine WP.iconst d_X7_idle_26 ki_m1 ?_
      cases H
      exact WP.ireturn d_X7_idle_27 rfl rfl (Nat.le_of_ble_eq_true rfl) (Nat.le_of_ble_eq_true rfl)
    · dsimp only at H
      refine WP.astore (lv9 := [(5, .ref z11), (4, .ref z3), (0, .ref t), (1, .int l1), (2, .int l2), (3, .int l3)]) d_X7_idle_14 (Nat.le_of_ble_eq_true rfl) rfl ?_
      refine WP.aload d_X7_idle_16 1 rfl ?_
      refine WP.nR d_X7_idle_18 ?_
      refine WP.aload d_X7_idle_21 0 rfl ?_
      refine WP.nnR d_X7_idle_23 ?_
      refine WP.aload d_X7_idle_28 0 rfl ?_
      obtain ⟨h13, e12, H⟩ := ob H
      refine WP.cV (c := 2) (As := []) (st := []) (st9 := []) (cl9 := 0) (sl9 := 0) d_X7_idle_30 (ok_X1_learnAll V e12) tv_X1_learnAll ti_X1_learnAll ts_X1_learnAll lk_X7_249 r_X7_idle_X1_learnAll kc_X1_learnAll (kd_X1_learnAll e12) rfl rfl (Nat.le_of_ble_eq_true rfl) rfl rfl rfl ?_
      refine WP.iconst d_X7_idle_33 ki_1 ?_
      refine WP.aload d_X7_idle_34 1 rfl ?_
      obtain ⟨x14, ex14, H⟩ := ob H
      refine WP.fI d_X7_idle_36 gf_X7_209 (fun _ => rfl) ex14 ?_
      refine WP.ishl d_X7_idle_39 ?_
      refine WP.iconst d_X7_idle_40 ki_1 ?_
      refine WP.isub d_X7_idle_41 ?_
      refine WP.istore (lv9 := [(6, .int ((shlI 1 x14) - 1)), (5, .ref z11), (4, .ref z3), (0, .ref t), (1, .int l1), (2, .int l2), (3, .int l3)]) d_X7_idle_42 (Nat.le_of_ble_eq_true rfl) rfl ?_
      refine WP.iconst d_X7_idle_44 ki_0 ?_
      refine WP.istore (lv9 := [(7, .int 0), (6, .int ((shlI 1 x14) - 1)), (5, .ref z11), (4, .ref z3), (0, .ref t), (1, .int l1), (2, .int l2), (3, .int l3)]) d_X7_idle_45 (Nat.le_of_ble_eq_true rfl) rfl ?_
      obtain ⟨y22, e21, H⟩ := ob H
      refine WP.sub [3, 2, 1, 0] (lv' := [(4, .ref z3), (5, .ref z11), (6, .int ((shlI 1 x14) - 1)), (7, .int 0)]) rfl ?_
      refine okl_X7_idle_L47 V _ e21 ?_
      refine WP.iload d_X7_idle_98 0 rfl ?_
      cases H
      exact WP.ireturn d_X7_idle_100 rfl rfl (Nat.le_of_ble_eq_true rfl) (Nat.le_of_ble_eq_true rfl)

set_option maxRecDepth 20000 in
set_option maxHeartbeats 4000000 in
theorem okl_X7_namedIn_L4 (V : EV) {vF : Option Value} {hF : HA} {h : HA} {l0 : Nat} (n : Nat) : ∀ {l1 : Int32} {l2 : Int32} {r1 : Int32}, (H : X7_namedIn_L4 h l0 n l1 l2 = some r1) → (K : WP V M_X7_namedIn 65 [(1, .int r1)] [] h 0 0 vF hF) → WP V M_X7_namedIn 4 [(0, .ref l0), (1, .int l1), (2, .int l2)] [] h 0 0 vF hF := by
  induction n with
  | zero =>
    intro l1 l2 r1 H K
    rw [X7_namedIn_L4] at H
    cases H
  | succ n ih =>
    intro l1 l2 r1 H K
    rw [X7_namedIn_L4] at H
    refine WP.iload_n d_X7_namedIn_4 2 rfl ?_
    refine WP.aload_n d_X7_namedIn_5 0 rfl ?_
    obtain ⟨x1, ex1, H⟩ := ob H
    refine WP.fI d_X7_namedIn_6 gf_X7_209 (fun _ => rfl) ex1 ?_
    rcases oj H with ⟨hc, H⟩ | ⟨hc, H⟩
    · refine WP.icmp_ge_t d_X7_namedIn_9 hc ?_
      refine WP.aload_n d_X7_namedIn_12 0 rfl ?_
      refine WP.iload_n d_X7_namedIn_13 2 rfl ?_
      refine WP.iconst d_X7_namedIn_14 ki_1 ?_
      obtain ⟨x3, e2, H⟩ := ob H
      refine WP.cV (c := 3) (As := [.int l2, .int 1]) (st := []) (st9 := [.int x3]) (cl9 := 0) (sl9 := 0) d_X7_namedIn_15 (ok_X2_at V e2) tv_X2_at ti_X2_at ts_X2_at lk_X7_217 r_X7_namedIn_X2_at kc_X2_at (kd_X2_at e2) rfl rfl (Nat.le_of_ble_eq_true rfl) rfl rfl rfl ?_
      refine WP.istore_n (lv9 := [(3, .int x3), (0, .ref l0), (1, .int l1), (2, .int l2)]) d_X7_namedIn_18 (Nat.le_of_ble_eq_true rfl) rfl ?_
      refine WP.aload_n d_X7_namedIn_19 1 rfl ?_
      refine WP.iload_n d_X7_namedIn_20 3 rfl ?_
      refine WP.iconst d_X7_namedIn_21 ki_2 ?_
      obtain ⟨x5, e4, H⟩ := ob H
      refine WP.cV (c := 3) (As := [.int l2, .int 2]) (st := []) (st9 := [.int x5]) (cl9 := 0) (sl9 := 0) d_X7_namedIn_22 (ok_X2_at V e4) tv_X2_at ti_X2_at ts_X2_at lk_X7_217 r_X7_namedIn_X2_at kc_X2_at (kd_X2_at e4) rfl rfl (Nat.le_of_ble_eq_true rfl) rfl rfl rfl ?_
      refine WP.istore (lv9 := [(4, .int x5), (3, .int x3), (0, .ref l0), (1, .int l1), (2, .int l2)]) d_X7_namedIn_25 (Nat.le_of_ble_eq_true rfl) rfl ?_
      refine WP.iload_n d_X7_namedIn_27 3 rfl ?_
      refine WP.iload_n d_X7_namedIn_28 1 rfl ?_
      refine WP.iconst d_X7_namedIn_29 ki_m1 ?_
      obtain ⟨j6, hs7, H⟩ := ol H
      have J8 : WP V M_X7_namedIn 40 [(0, .ref l0), (2, .int l2), (4, .int x5)] [.int j6, .int l1] h 0 0 vF hF := by
        refine WP.ior d_X7_namedIn_40 ?_
        refine WP.istore_n (lv9 := [(1, .int (l1 ||| j6)), (0, .ref l0), (2, .int l2), (4, .int x5)]) d_X7_namedIn_41 (Nat.le_of_ble_eq_true rfl) rfl ?_
        refine WP.iload_n d_X7_namedIn_42 0 rfl ?_
        refine WP.iload d_X7_namedIn_43 3 rfl ?_
        refine WP.iconst d_X7_namedIn_45 ki_m1 ?_
        rcases oj H with ⟨hc, H⟩ | ⟨hc, H⟩
        · refine WP.icmp_ne_t d_X7_namedIn_46 hc ?_
          refine WP.iconst d_X7_namedIn_49 ki_0 ?_
          refine WP.goto d_X7_namedIn_50 ?_
          refine WP.ior d_X7_namedIn_57 ?_
          refine WP.istore_n (lv9 := [(1, .int ((l1 ||| j6) ||| 0)), (0, .ref l0), (2, .int l2), (4, .int x5)]) d_X7_namedIn_58 (Nat.le_of_ble_eq_true rfl) rfl ?_
          refine WP.iinc (lv9 := [(2, .int (l2 + 1)), (1, .int ((l1 ||| j6) ||| 0)), (0, .ref l0), (4, .int x5)]) d_X7_namedIn_59 2 rfl ki_1 (Nat.le_of_ble_eq_true rfl) rfl ?_
          refine WP.goto d_X7_namedIn_62 ?_
          refine WP.sub [2, 1, 0] (lv' := [(0, .ref l0), (1, .int ((l1 ||| j6) ||| 0)), (2, .int (l2 + 1))]) rfl ?_
          exact ih H K
        · refine WP.icmp_ne_f d_X7_namedIn_46 hc ?_
          refine WP.iconst d_X7_namedIn_53 ki_1 ?_
          refine WP.iload d_X7_namedIn_54 3 rfl ?_
          refine WP.ishl d_X7_namedIn_56 ?_
          refine WP.ior d_X7_namedIn_57 ?_
          refine WP.istore_n (lv9 := [(1, .int ((l1 ||| j6) ||| (shlI 1 x5))), (0, .ref l0), (2, .int l2), (4, .int x5)]) d_X7_namedIn_58 (Nat.le_of_ble_eq_true rfl) rfl ?_
          refine WP.iinc (lv9 := [(2, .int (l2 + 1)), (1, .int ((l1 ||| j6) ||| (shlI 1 x5))), (0, .ref l0), (4, .int x5)]) d_X7_namedIn_59 2 rfl ki_1 (Nat.le_of_ble_eq_true rfl) rfl ?_
          refine WP.goto d_X7_namedIn_62 ?_
          refine WP.sub [2, 1, 0] (lv' := [(0, .ref l0), (1, .int ((l1 ||| j6) ||| (shlI 1 x5))), (2, .int (l2 + 1))]) rfl ?_
          exact ih H K
      rcases oj hs7 with ⟨hc, hs7⟩ | ⟨hc, hs7⟩
      · refine WP.icmp_ne_t d_X7_namedIn_30 hc ?_
        refine WP.iconst d_X7_namedIn_33 ki_0 ?_
        refine WP.goto d_X7_namedIn_34 ?_
        cases hs7
        exact WP.sub [2, 4, 0] rfl J8
      · refine WP.icmp_ne_f d_X7_namedIn_30 hc ?_
        refine WP.iconst d_X7_namedIn_37 ki_1 ?_
        refine WP.iload_n d_X7_namedIn_38 1 rfl ?_
        refine WP.ishl d_X7_namedIn_39 ?_
        cases hs7
        exact WP.sub [2, 4, 0] rfl J8
    · refine WP.icmp_ge_f d_X7_namedIn_9 hc ?_
      cases H
      exact WP.sub [1] rfl K

set_option maxRecDepth 20000 in
set_option maxHeartbeats 4000000 in
theorem ok_X7_namedIn (V : EV) {h : HA} {l0 : Nat} {r : Int32} (H : X7_namedIn h l0 = some r) : MG V M_X7_namedIn [.ref l0] h (some (.int r)) h := by
  unfold X7_namedIn at H
  refine MG.of (lv0 := [(0, .ref l0)]) pn_X7 rfl (Nat.le_of_ble_eq_true rfl) ?_
  refine WP.iconst d_X7_namedIn_0 ki_0 ?_
  refine WP.istore_n (lv9 := [(1, .int 0), (0, .ref l0)]) d_X7_namedIn_1 (Nat.le_of_ble_eq_true rfl) rfl ?_
  refine WP.iconst d_X7_namedIn_2 ki_0 ?_
  refine WP.istore_n (lv9 := [(2, .int 0), (1, .int 0), (0, .ref l0)]) d_X7_namedIn_3 (Nat.le_of_ble_eq_true rfl) rfl ?_
  obtain ⟨y10, e9, H⟩ := ob H
  refine WP.sub [2, 1, 0] (lv' := [(0, .ref l0), (1, .int 0), (2, .int 0)]) rfl ?_
  refine okl_X7_namedIn_L4 V _ e9 ?_
  refine WP.iload_n d_X7_namedIn_65 0 rfl ?_
  cases H
  exact WP.ireturn d_X7_namedIn_66 rfl rfl (Nat.le_of_ble_eq_true rfl) (Nat.le_of_ble_eq_true rfl)

set_option maxRecDepth 20000 in
set_option maxHeartbeats 4000000 in
theorem okl_X7_persuade_L66 (V : EV) {vF : Option Value} {hF : HA} {h : HA} {l4 : Int32} {l5 : Nat} {l6 : Nat} {l7 : Int32} (n : Nat) : ∀ {l8 : Int32} {l9 : Int32} {l10 : Int32} {r8 : Int32}, (H : X7_persuade_L66 h l4 l5 l6 l7 n l8 l9 l10 = some r8) → (K : WP V M_X7_persuade 128 [(8, .int r8)] [] h 0 0 vF hF) → WP V M_X7_persuade 66 [(4, .int l4), (5, .ref l5), (6, .ref l6), (7, .int l7), (8, .int l8), (9, .int l9), (10, .int l10)] [] h 0 0 vF hF := by
  induction n with
  | zero =>
    intro l8 l9 l10 r8 H K
    rw [X7_persuade_L66] at H
    cases H
  | succ n ih =>
    intro l8 l9 l10 r8 H K
    rw [X7_persuade_L66] at H
    refine WP.iload d_X7_persuade_66 6 rfl ?_
    refine WP.sipush d_X7_persuade_68 ks_1024 ?_
    rcases oj H with ⟨hc, H⟩ | ⟨hc, H⟩
    · refine WP.icmp_ge_t d_X7_persuade_71 hc ?_
      refine WP.iload d_X7_persuade_74 6 rfl ?_
      refine WP.iload d_X7_persuade_76 3 rfl ?_
      refine WP.iconst d_X7_persuade_78 ki_m1 ?_
      refine WP.ixor d_X7_persuade_79 ?_
      refine WP.iand d_X7_persuade_80 ?_
      rcases oj H with ⟨hc, H⟩ | ⟨hc, H⟩
      · refine WP.if_ne_t d_X7_persuade_81 hc ?_
        refine WP.iload d_X7_persuade_84 6 rfl ?_
        obtain ⟨x19, e18, H⟩ := ob H
        refine WP.cS (As := [.int l10]) (st := []) (st9 := [.int x19]) (cl9 := 0) (sl9 := 0) d_X7_persuade_86 (ok_J6_bitCount_0f7a4 V (h := h) e18) tv_J6_bitCount_0f7a4 ts_J6_bitCount_0f7a4 lk_X7_179 r_X7_persuade_J6_bitCount_0f7a4 rfl rfl (Nat.le_of_ble_eq_true rfl) rfl rfl rfl ?_
        refine WP.iload d_X7_persuade_89 5 rfl ?_
        rcases oj H with ⟨hc, H⟩ | ⟨hc, H⟩
        · refine WP.icmp_ge_t d_X7_persuade_91 hc ?_
          refine WP.aload d_X7_persuade_94 2 rfl ?_
          refine WP.aload d_X7_persuade_96 1 rfl ?_
          refine WP.iload d_X7_persuade_98 6 rfl ?_
          obtain ⟨x21, e20, H⟩ := ob H
          refine WP.cS (As := [.ref l6, .ref l5, .int l10]) (st := []) (st9 := [.int x21]) (cl9 := 0) (sl9 := 0) d_X7_persuade_100 (ok_X7_tally V e20) tv_X7_tally ts_X7_tally lk_X7_252 r_X7_persuade_X7_tally rfl rfl (Nat.le_of_ble_eq_true rfl) rfl rfl rfl ?_
          obtain ⟨x23, e22, H⟩ := ob H
          refine WP.cS (As := [.int x21]) (st := []) (st9 := [.int x23]) (cl9 := 0) (sl9 := 0) d_X7_persuade_103 (ok_X7_verdictOf V (h := h) e22) tv_X7_verdictOf ts_X7_verdictOf lk_X7_256 r_X7_persuade_X7_verdictOf rfl rfl (Nat.le_of_ble_eq_true rfl) rfl rfl rfl ?_
          refine WP.iload d_X7_persuade_106 0 rfl ?_
          rcases oj H with ⟨hc, H⟩ | ⟨hc, H⟩
          · refine WP.icmp_ne_t d_X7_persuade_108 hc ?_
            refine WP.iload d_X7_persuade_111 6 rfl ?_
            refine WP.istore (lv9 := [(8, .int l10), (4, .int l4), (5, .ref l5), (6, .ref l6), (7, .int l7), (9, .int l9), (10, .int l10)]) d_X7_persuade_113 (Nat.le_of_ble_eq_true rfl) rfl ?_
            refine WP.iload d_X7_persuade_115 6 rfl ?_
            obtain ⟨x25, e24, H⟩ := ob H
            refine WP.cS (As := [.int l10]) (st := []) (st9 := [.int x25]) (cl9 := 0) (sl9 := 0) d_X7_persuade_117 (ok_J6_bitCount_0f7a4 V (h := h) e24) tv_J6_bitCount_0f7a4 ts_J6_bitCount_0f7a4 lk_X7_179 r_X7_persuade_J6_bitCount_0f7a4 rfl rfl (Nat.le_of_ble_eq_true rfl) rfl rfl rfl ?_
            refine WP.istore (lv9 := [(9, .int x25), (8, .int l10), (4, .int l4), (5, .ref l5), (6, .ref l6), (7, .int l7), (10, .int l10)]) d_X7_persuade_120 (Nat.le_of_ble_eq_true rfl) rfl ?_
            refine WP.iinc (lv9 := [(10, .int (l10 + 1)), (9, .int x25), (8, .int l10), (4, .int l4), (5, .ref l5), (6, .ref l6), (7, .int l7)]) d_X7_persuade_122 6 rfl ki_1 (Nat.le_of_ble_eq_true rfl) rfl ?_
            refine WP.goto d_X7_persuade_125 ?_
            refine WP.sub [3, 4, 5, 6, 2, 1, 0] (lv' := [(4, .int l4), (5, .ref l5), (6, .ref l6), (7, .int l7), (8, .int l10), (9, .int x25), (10, .int (l10 + 1))]) rfl ?_
            exact ih H K
          · refine WP.icmp_ne_f d_X7_persuade_108 hc ?_
            refine WP.iinc (lv9 := [(10, .int (l10 + 1)), (4, .int l4), (5, .ref l5), (6, .ref l6), (7, .int l7), (8, .int l8), (9, .int l9)]) d_X7_persuade_122 6 rfl ki_1 (Nat.le_of_ble_eq_true rfl) rfl ?_
            refine WP.goto d_X7_persuade_125 ?_
            refine WP.sub [1, 2, 3, 4, 5, 6, 0] (lv' := [(4, .int l4), (5, .ref l5), (6, .ref l6), (7, .int l7), (8, .int l8), (9, .int l9), (10, .int (l10 + 1))]) rfl ?_
            exact ih H K
        · refine WP.icmp_ge_f d_X7_persuade_91 hc ?_
          refine WP.iinc (lv9 := [(10, .int (l10 + 1)), (4, .int l4), (5, .ref l5), (6, .ref l6), (7, .int l7), (8, .int l8), (9, .int l9)]) d_X7_persuade_122 6 rfl ki_1 (Nat.le_of_ble_eq_true rfl) rfl ?_
          refine WP.goto d_X7_persuade_125 ?_
          refine WP.sub [1, 2, 3, 4, 5, 6, 0] (lv' := [(4, .int l4), (5, .ref l5), (6, .ref l6), (7, .int l7), (8, .int l8), (9, .int l9), (10, .int (l10 + 1))]) rfl ?_
          exact ih H K
      · refine WP.if_ne_f d_X7_persuade_81 hc ?_
        refine WP.iinc (lv9 := [(10, .int (l10 + 1)), (4, .int l4), (5, .ref l5), (6, .ref l6), (7, .int l7), (8, .int l8), (9, .int l9)]) d_X7_persuade_122 6 rfl ki_1 (Nat.le_of_ble_eq_true rfl) rfl ?_
        refine WP.goto d_X7_persuade_125 ?_
        refine WP.sub [1, 2, 3, 4, 5, 6, 0] (lv' := [(4, .int l4), (5, .ref l5), (6, .ref l6), (7, .int l7), (8, .int l8), (9, .int l9), (10, .int (l10 + 1))]) rfl ?_
        exact ih H K
    · refine WP.icmp_ge_f d_X7_persuade_71 hc ?_
      cases H
      exact WP.sub [4] rfl K

set_option maxRecDepth 20000 in
set_option maxHeartbeats 4000000 in
theorem ok_X7_persuade (V : EV) {h : HA} {t : Nat} {l1 : Int32} {l2 : Int32} {l3 : Int32} {l4 : Int32} {r : Int32} {hR : HA} (H : X7_persuade h t l1 l2 l3 l4 = some (r, hR)) : MG V M_X7_persuade [.ref t, .int l1, .int l2, .int l3, .int l4] h (some (.int r)) hR := by
  unfold X7_persuade at H
  obtain ⟨_, H⟩ := oc H
  refine MG.of (lv0 := [(0, .ref t), (1, .int l1), (2, .int l2), (3, .int l3), (4, .int l4)]) pn_X7 rfl (Nat.le_of_ble_eq_true rfl) ?_
  refine WP.aload_n d_X7_persuade_0 0 rfl ?_
  refine WP.iconst d_X7_persuade_1 ki_2 ?_
  refine WP.iload_n d_X7_persuade_2 3 rfl ?_
  obtain ⟨x2, e1, H⟩ := ob H
  refine WP.cV (c := 8) (As := [.int 2, .int l3]) (st := []) (st9 := va_rf x2 :: []) (cl9 := 0) (sl9 := 0) d_X7_persuade_3 (ok_X7_listAt V e1) tv_X7_listAt ti_X7_listAt ts_X7_listAt lk_X7_99 r_X7_persuade_X7_listAt kc_X7_listAt (kd_X7_listAt e1) rfl rfl (Nat.le_of_ble_eq_true rfl) rfl rfl rfl ?_
  rcases x2 with _ | z3
  · dsimp only at H
    refine WP.astoreN (lv9 := [(5, .null), (0, .ref t), (1, .int l1), (2, .int l2), (3, .int l3), (4, .int l4)]) d_X7_persuade_6 (Nat.le_of_ble_eq_true rfl) rfl ?_
    refine WP.aload_n d_X7_persuade_8 1 rfl ?_
    refine WP.iload_n d_X7_persuade_9 2 rfl ?_
    refine WP.iload_n d_X7_persuade_10 3 rfl ?_
    obtain ⟨⟨x6, h5⟩, e4, H⟩ := ob H
    refine WP.cV (c := 8) (As := [.int l1, .int l2]) (st := []) (st9 := va_rf x6 :: []) (cl9 := 0) (sl9 := 0) d_X7_persuade_11 (ok_X7_hallOf V e4) tv_X7_hallOf ti_X7_hallOf ts_X7_hallOf lk_X7_220 r_X7_persuade_X7_hallOf kc_X7_hallOf (kd_X7_hallOf e4) rfl rfl (Nat.le_of_ble_eq_true rfl) rfl rfl rfl ?_
    rcases x6 with _ | z7
    · dsimp only at H
      refine WP.astoreN (lv9 := [(6, .null), (5, .null), (0, .ref t), (1, .int l1), (2, .int l2), (3, .int l3), (4, .int l4)]) d_X7_persuade_14 (Nat.le_of_ble_eq_true rfl) rfl ?_
      refine WP.aloadN d_X7_persuade_16 1 rfl ?_
      refine WP.nN d_X7_persuade_18 ?_
      refine WP.iconst d_X7_persuade_37 ki_m1 ?_
      cases H
      exact WP.ireturn d_X7_persuade_38 rfl rfl (Nat.le_of_ble_eq_true rfl) (Nat.le_of_ble_eq_true rfl)
    · dsimp only at H
      refine WP.astore (lv9 := [(6, .ref z7), (5, .null), (0, .ref t), (1, .int l1), (2, .int l2), (3, .int l3), (4, .int l4)]) d_X7_persuade_14 (Nat.le_of_ble_eq_true rfl) rfl ?_
      refine WP.aloadN d_X7_persuade_16 1 rfl ?_
      refine WP.nN d_X7_persuade_18 ?_
      refine WP.iconst d_X7_persuade_37 ki_m1 ?_
      cases H
      exact WP.ireturn d_X7_persuade_38 rfl rfl (Nat.le_of_ble_eq_true rfl) (Nat.le_of_ble_eq_true rfl)
  · dsimp only at H
    refine WP.astore (lv9 := [(5, .ref z3), (0, .ref t), (1, .int l1), (2, .int l2), (3, .int l3), (4, .int l4)]) d_X7_persuade_6 (Nat.le_of_ble_eq_true rfl) rfl ?_
    refine WP.aload_n d_X7_persuade_8 1 rfl ?_
    refine WP.iload_n d_X7_persuade_9 2 rfl ?_
    refine WP.iload_n d_X7_persuade_10 3 rfl ?_
    obtain ⟨⟨x10, h9⟩, e8, H⟩ := ob H
    refine WP.cV (c := 8) (As := [.int l1, .int l2]) (st := []) (st9 := va_rf x10 :: []) (cl9 := 0) (sl9 := 0) d_X7_persuade_11 (ok_X7_hallOf V e8) tv_X7_hallOf ti_X7_hallOf ts_X7_hallOf lk_X7_220 r_X7_persuade_X7_hallOf kc_X7_hallOf (kd_X7_hallOf e8) rfl rfl (Nat.le_of_ble_eq_true rfl) rfl rfl rfl ?_
    rcases x10 with _ | z11
    · dsimp only at H
      refine WP.astoreN (lv9 := [(6, .null), (5, .ref z3), (0, .ref t), (1, .int l1), (2, .int l2), (3, .int l3), (4, .int l4)]) d_X7_persuade_14 (Nat.le_of_ble_eq_true rfl) rfl ?_
      refine WP.aload d_X7_persuade_16 1 rfl ?_
      refine WP.nR d_X7_persuade_18 ?_
      refine WP.aloadN d_X7_persuade_21 0 rfl ?_
      refine WP.nN d_X7_persuade_23 ?_
      refine WP.iconst d_X7_persuade_37 ki_m1 ?_
      cases H
      exact WP.ireturn d_X7_persuade_38 rfl rfl (Nat.le_of_ble_eq_true rfl) (Nat.le_of_ble_eq_true rfl)
    · dsimp only at H
      refine WP.astore (lv9 := [(6, .ref z11), (5, .ref z3), (0, .ref t), (1, .int l1), (2, .int l2), (3, .int l3), (4, .int l4)]) d_X7_persuade_14 (Nat.le_of_ble_eq_true rfl) rfl ?_
      refine WP.aload d_X7_persuade_16 1 rfl ?_
      refine WP.nR d_X7_persuade_18 ?_
      refine WP.aload d_X7_persuade_21 0 rfl ?_
      refine WP.nR d_X7_persuade_23 ?_
      refine WP.iload d_X7_persuade_26 6 rfl ?_
      rcases oj H with ⟨hc, H⟩ | ⟨hc, H⟩
      · refine WP.if_lt_t d_X7_persuade_28 hc ?_
        refine WP.iconst d_X7_persuade_37 ki_m1 ?_
        cases H
        exact WP.ireturn d_X7_persuade_38 rfl rfl (Nat.le_of_ble_eq_true rfl) (Nat.le_of_ble_eq_true rfl)
      · refine WP.if_lt_f d_X7_persuade_28 hc ?_
        refine WP.iload d_X7_persuade_31 6 rfl ?_
        refine WP.iconst d_X7_persuade_33 ki_1 ?_
        rcases oj H with ⟨hc, H⟩ | ⟨hc, H⟩
        · refine WP.icmp_le_t d_X7_persuade_34 hc ?_
          refine WP.iconst d_X7_persuade_37 ki_m1 ?_
          cases H
          exact WP.ireturn d_X7_persuade_38 rfl rfl (Nat.le_of_ble_eq_true rfl) (Nat.le_of_ble_eq_true rfl)
        · refine WP.icmp_le_f d_X7_persuade_34 hc ?_
          refine WP.aload d_X7_persuade_39 0 rfl ?_
          obtain ⟨h13, e12, H⟩ := ob H
          refine WP.cV (c := 2) (As := []) (st := []) (st9 := []) (cl9 := 0) (sl9 := 0) d_X7_persuade_41 (ok_X1_learnAll V e12) tv_X1_learnAll ti_X1_learnAll ts_X1_learnAll lk_X7_249 r_X7_persuade_X1_learnAll kc_X1_learnAll (kd_X1_learnAll e12) rfl rfl (Nat.le_of_ble_eq_true rfl) rfl rfl rfl ?_
          refine WP.aload d_X7_persuade_44 1 rfl ?_
          obtain ⟨x15, e14, H⟩ := ob H
          refine WP.cS (As := [.ref z3]) (st := []) (st9 := [.int x15]) (cl9 := 0) (sl9 := 0) d_X7_persuade_46 (ok_X7_namedIn V e14) tv_X7_namedIn ts_X7_namedIn lk_X7_309 r_X7_persuade_X7_namedIn rfl rfl (Nat.le_of_ble_eq_true rfl) rfl rfl rfl ?_
          refine WP.istore (lv9 := [(7, .int x15), (6, .ref z11), (5, .ref z3), (0, .ref t), (1, .int l1), (2, .int l2), (3, .int l3), (4, .int l4)]) d_X7_persuade_49 (Nat.le_of_ble_eq_true rfl) rfl ?_
          refine WP.iconst d_X7_persuade_51 ki_m1 ?_
          refine WP.istore (lv9 := [(8, .int (-1)), (7, .int x15), (6, .ref z11), (5, .ref z3), (0, .ref t), (1, .int l1), (2, .int l2), (3, .int l3), (4, .int l4)]) d_X7_persuade_52 (Nat.le_of_ble_eq_true rfl) rfl ?_
          refine WP.iload d_X7_persuade_54 1 rfl ?_
          obtain ⟨x17, e16, H⟩ := ob H
          refine WP.cS (As := [.int x15]) (st := []) (st9 := [.int x17]) (cl9 := 0) (sl9 := 0) d_X7_persuade_56 (ok_J6_bitCount_0f7a4 V (h := h13) e16) tv_J6_bitCount_0f7a4 ts_J6_bitCount_0f7a4 lk_X7_179 r_X7_persuade_J6_bitCount_0f7a4 rfl rfl (Nat.le_of_ble_eq_true rfl) rfl rfl rfl ?_
          refine WP.iconst d_X7_persuade_59 ki_1 ?_
          refine WP.iadd d_X7_persuade_60 ?_
          refine WP.istore (lv9 := [(9, .int (x17 + 1)), (8, .int (-1)), (7, .int x15), (6, .ref z11), (5, .ref z3), (0, .ref t), (1, .int l1), (2, .int l2), (3, .int l3), (4, .int l4)]) d_X7_persuade_61 (Nat.le_of_ble_eq_true rfl) rfl ?_
          refine WP.iconst d_X7_persuade_63 ki_0 ?_
          refine WP.istore (lv9 := [(10, .int 0), (9, .int (x17 + 1)), (8, .int (-1)), (7, .int x15), (6, .ref z11), (5, .ref z3), (0, .ref t), (1, .int l1), (2, .int l2), (3, .int l3), (4, .int l4)]) d_X7_persuade_64 (Nat.le_of_ble_eq_true rfl) rfl ?_
          obtain ⟨y27, e26, H⟩ := ob H
          refine WP.sub [10, 5, 4, 3, 2, 1, 0] (lv' := [(4, .int l4), (5, .ref z3), (6, .ref z11), (7, .int x15), (8, .int (-1)), (9, .int (x17 + 1)), (10, .int 0)]) rfl ?_
          refine okl_X7_persuade_L66 V _ e26 ?_
          refine WP.iload d_X7_persuade_128 0 rfl ?_
          cases H
          exact WP.ireturn d_X7_persuade_130 rfl rfl (Nat.le_of_ble_eq_true rfl) (Nat.le_of_ble_eq_true rfl)

set_option maxRecDepth 20000 in
set_option maxHeartbeats 4000000 in
theorem okl_X7_carve_L9 (V : EV) {vF : Option Value} {hF : HA} {t : Nat} {l1 : Nat} {l2 : Int32} (n : Nat) : ∀ {h : HA} {l3 : Int32} {l4 : Int32} {l5 : Int32} {r3 : Int32} {hR : HA}, (H : X7_carve_L9 t l1 l2 n h l3 l4 l5 = some (r3, hR)) → (K : WP V M_X7_carve 100 [(3, .int r3)] [] hR 0 0 vF hF) → WP V M_X7_carve 9 [(0, .ref t), (1, .ref l1), (2, .int l2), (3, .int l3), (4, .int l4), (5, .int l5)] [] h 0 0 vF hF := by
  induction n with
  | zero =>
    intro h l3 l4 l5 r3 hR H K
    rw [X7_carve_L9] at H
    cases H
  | succ n ih =>
    intro h l3 l4 l5 r3 hR H K
    rw [X7_carve_L9] at H
    refine WP.iload d_X7_carve_9 5 rfl ?_
    refine WP.bipush d_X7_carve_11 kb_64 ?_
    rcases oj H with ⟨hc, H⟩ | ⟨hc, H⟩
    · refine WP.icmp_ge_t d_X7_carve_13 hc ?_
      refine WP.aload_n d_X7_carve_16 1 rfl ?_
      obtain ⟨x1, ex1, H⟩ := ob H
      refine WP.fJ d_X7_carve_17 gf_X7_113 (fun _ => rfl) ex1 ?_
      refine WP.iload d_X7_carve_20 5 rfl ?_
      obtain ⟨x3, e2, H⟩ := ob H
      refine WP.cS (As := [.long x1, .int l5]) (st := []) (st9 := [.int x3]) (cl9 := 0) (sl9 := 0) d_X7_carve_22 (ok_X7_has V (h := h) e2) tv_X7_has ts_X7_has lk_X7_133 r_X7_carve_X7_has rfl rfl (Nat.le_of_ble_eq_true rfl) rfl rfl rfl ?_
      rcases oj H with ⟨hc, H⟩ | ⟨hc, H⟩
      · refine WP.if_eq_t d_X7_carve_25 hc ?_
        refine WP.iinc (lv9 := [(5, .int (l5 + 1)), (0, .ref t), (1, .ref l1), (2, .int l2), (3, .int l3), (4, .int l4)]) d_X7_carve_94 5 rfl ki_1 (Nat.le_of_ble_eq_true rfl) rfl ?_
        refine WP.goto d_X7_carve_97 ?_
        refine WP.sub [1, 2, 3, 4, 5, 0] (lv' := [(0, .ref t), (1, .ref l1), (2, .int l2), (3, .int l3), (4, .int l4), (5, .int (l5 + 1))]) rfl ?_
        exact ih H K
      · refine WP.if_eq_f d_X7_carve_25 hc ?_
        refine WP.aload_n d_X7_carve_28 0 rfl ?_
        obtain ⟨x4, ex4, H⟩ := ob H
        refine WP.fR d_X7_carve_29 gf_X7_23 (fun _ => rfl) ex4 ?_
        obtain ⟨x5, ex5, H⟩ := ob H
        refine WP.fR d_X7_carve_32 gf_X7_77 (fun _ => rfl) ex5 ?_
        refine WP.astore (lv9 := [(6, .ref x5), (0, .ref t), (1, .ref l1), (2, .int l2), (3, .int l3), (4, .int l4), (5, .int l5)]) d_X7_carve_35 (Nat.le_of_ble_eq_true rfl) rfl ?_
        refine WP.aload d_X7_carve_37 0 rfl ?_
        refine WP.aload_n d_X7_carve_39 2 rfl ?_
        obtain ⟨h7, e6, H⟩ := ob H
        refine WP.cV (c := 1) (As := [.ref l1]) (st := []) (st9 := []) (cl9 := 0) (sl9 := 0) d_X7_carve_40 (ok_X0_copyFrom V e6) tv_X0_copyFrom ti_X0_copyFrom ts_X0_copyFrom lk_X7_320 r_X7_carve_X0_copyFrom kc_X0_copyFrom (kd_X0_copyFrom e6) rfl rfl (Nat.le_of_ble_eq_true rfl) rfl rfl rfl ?_
        refine WP.aload d_X7_carve_43 0 rfl ?_
        refine WP.dup d_X7_carve_45 rfl ?_
        obtain ⟨x8, ex8, H⟩ := ob H
        refine WP.fJ d_X7_carve_46 gf_X7_113 (fun _ => rfl) ex8 ?_
        refine WP.lconst d_X7_carve_49 kl_1 ?_
        refine WP.iload d_X7_carve_50 6 rfl ?_
        refine WP.lshl d_X7_carve_52 ?_
        refine WP.ldc2 d_X7_carve_53 wl_X7_324 ?_
        refine WP.lxor d_X7_carve_56 ?_
        refine WP.land d_X7_carve_57 ?_
        obtain ⟨h9, eh9, H⟩ := ob H
        refine WP.uJ d_X7_carve_58 gf_X7_113 rfl rfl eh9 ?_
        refine WP.aload d_X7_carve_61 0 rfl ?_
        obtain ⟨h11, e10, H⟩ := ob H
        refine WP.cV (c := 1) (As := []) (st := []) (st9 := []) (cl9 := 0) (sl9 := 0) d_X7_carve_63 (ok_X0_measure V e10) tv_X0_measure ti_X0_measure ts_X0_measure lk_X7_326 r_X7_carve_X0_measure kc_X0_measure (kd_X0_measure e10) rfl rfl (Nat.le_of_ble_eq_true rfl) rfl rfl rfl ?_
        refine WP.aload d_X7_carve_66 0 rfl ?_
        obtain ⟨h13, e12, H⟩ := ob H
        refine WP.cV (c := 1) (As := []) (st := []) (st9 := []) (cl9 := 0) (sl9 := 0) d_X7_carve_68 (ok_X0_lay V e12) tv_X0_lay ti_X0_lay ts_X0_lay lk_X7_90 r_X7_carve_X0_lay kc_X0_lay (kd_X0_lay e12) rfl rfl (Nat.le_of_ble_eq_true rfl) rfl rfl rfl ?_
        refine WP.aload d_X7_carve_71 0 rfl ?_
        refine WP.iconst d_X7_carve_73 ki_0 ?_
        refine WP.iload_n d_X7_carve_74 3 rfl ?_
        obtain ⟨x15, e14, H⟩ := ob H
        refine WP.cV (c := 1) (As := [.int 0, .int l2]) (st := []) (st9 := [.int x15]) (cl9 := 0) (sl9 := 0) d_X7_carve_75 (ok_X0_blind V e14) tv_X0_blind ti_X0_blind ts_X0_blind lk_X7_202 r_X7_carve_X0_blind kc_X0_blind (kd_X0_blind e14) rfl rfl (Nat.le_of_ble_eq_true rfl) rfl rfl rfl ?_
        refine WP.istore (lv9 := [(7, .int x15), (6, .ref x5), (0, .ref t), (1, .ref l1), (2, .int l2), (3, .int l3), (4, .int l4), (5, .int l5)]) d_X7_carve_78 (Nat.le_of_ble_eq_true rfl) rfl ?_
        refine WP.iload d_X7_carve_80 0 rfl ?_
        refine WP.iload d_X7_carve_82 6 rfl ?_
        rcases oj H with ⟨hc, H⟩ | ⟨hc, H⟩
        · refine WP.icmp_ge_t d_X7_carve_84 hc ?_
          refine WP.iload d_X7_carve_87 0 rfl ?_
          refine WP.istore (lv9 := [(4, .int x15), (7, .int x15), (6, .ref x5), (0, .ref t), (1, .ref l1), (2, .int l2), (3, .int l3), (5, .int l5)]) d_X7_carve_89 (Nat.le_of_ble_eq_true rfl) rfl ?_
          refine WP.iload d_X7_carve_91 7 rfl ?_
          refine WP.istore_n (lv9 := [(3, .int l5), (4, .int x15), (7, .int x15), (6, .ref x5), (0, .ref t), (1, .ref l1), (2, .int l2), (5, .int l5)]) d_X7_carve_93 (Nat.le_of_ble_eq_true rfl) rfl ?_
          refine WP.iinc (lv9 := [(5, .int (l5 + 1)), (3, .int l5), (4, .int x15), (7, .int x15), (6, .ref x5), (0, .ref t), (1, .ref l1), (2, .int l2)]) d_X7_carve_94 7 rfl ki_1 (Nat.le_of_ble_eq_true rfl) rfl ?_
          refine WP.goto d_X7_carve_97 ?_
          refine WP.sub [5, 6, 7, 1, 2, 0] (lv' := [(0, .ref t), (1, .ref l1), (2, .int l2), (3, .int l5), (4, .int x15), (5, .int (l5 + 1))]) rfl ?_
          exact ih H K
        · refine WP.icmp_ge_f d_X7_carve_84 hc ?_
          refine WP.iinc (lv9 := [(5, .int (l5 + 1)), (7, .int x15), (6, .ref x5), (0, .ref t), (1, .ref l1), (2, .int l2), (3, .int l3), (4, .int l4)]) d_X7_carve_94 7 rfl ki_1 (Nat.le_of_ble_eq_true rfl) rfl ?_
          refine WP.goto d_X7_carve_97 ?_
          refine WP.sub [3, 4, 5, 6, 7, 0] (lv' := [(0, .ref t), (1, .ref l1), (2, .int l2), (3, .int l3), (4, .int l4), (5, .int (l5 + 1))]) rfl ?_
          exact ih H K
    · refine WP.icmp_ge_f d_X7_carve_13 hc ?_
      cases H
      exact WP.sub [3] rfl K

set_option maxRecDepth 20000 in
set_option maxHeartbeats 4000000 in
theorem ok_X7_carve (V : EV) {h : HA} {t : Nat} {l1 : Nat} {l2 : Int32} {r : Int32} {hR : HA} (H : X7_carve h t l1 l2 = some (r, hR)) : MG V M_X7_carve [.ref t, .ref l1, .int l2] h (some (.int r)) hR := by
  unfold X7_carve at H
  obtain ⟨_, H⟩ := oc H
  refine MG.of (lv0 := [(0, .ref t), (1, .ref l1), (2, .int l2)]) pn_X7 rfl (Nat.le_of_ble_eq_true rfl) ?_
  refine WP.iconst d_X7_carve_0 ki_m1 ?_
  refine WP.istore_n (lv9 := [(3, .int (-1)), (0, .ref t), (1, .ref l1), (2, .int l2)]) d_X7_carve_1 (Nat.le_of_ble_eq_true rfl) rfl ?_
  refine WP.bipush d_X7_carve_2 kb_65 ?_
  refine WP.istore (lv9 := [(4, .int 65), (3, .int (-1)), (0, .ref t), (1, .ref l1), (2, .int l2)]) d_X7_carve_4 (Nat.le_of_ble_eq_true rfl) rfl ?_
  refine WP.iconst d_X7_carve_6 ki_0 ?_
  refine WP.istore (lv9 := [(5, .int 0), (4, .int 65), (3, .int (-1)), (0, .ref t), (1, .ref l1), (2, .int l2)]) d_X7_carve_7 (Nat.le_of_ble_eq_true rfl) rfl ?_
  obtain ⟨⟨y17, h18⟩, e16, H⟩ := ob H
  refine WP.sub [3, 4, 5, 2, 1, 0] (lv' := [(0, .ref t), (1, .ref l1), (2, .int l2), (3, .int (-1)), (4, .int 65), (5, .int 0)]) rfl ?_
  refine okl_X7_carve_L9 V _ e16 ?_
  refine WP.iload_n d_X7_carve_100 0 rfl ?_
  cases H
  exact WP.ireturn d_X7_carve_101 rfl rfl (Nat.le_of_ble_eq_true rfl) (Nat.le_of_ble_eq_true rfl)

set_option maxRecDepth 20000 in
set_option maxHeartbeats 4000000 in
theorem ok_X7_areas (V : EV) {h : HA} {t : Nat} {l1 : Int32} {l2 : Int32} {r : Int32} {hR : HA} (H : X7_areas h t l1 l2 = some (r, hR)) : MG V M_X7_areas [.ref t, .int l1, .int l2] h (some (.int r)) hR := by
  unfold X7_areas at H
  obtain ⟨_, H⟩ := oc H
  refine MG.of (lv0 := [(0, .ref t), (1, .int l1), (2, .int l2)]) pn_X7 rfl (Nat.le_of_ble_eq_true rfl) ?_
  refine WP.aload_n d_X7_areas_0 0 rfl ?_
  refine WP.iload_n d_X7_areas_1 1 rfl ?_
  obtain ⟨⟨x3, h2⟩, e1, H⟩ := ob H
  refine WP.cV (c := 8) (As := [.int l1]) (st := []) (st9 := va_rf x3 :: []) (cl9 := 0) (sl9 := 0) d_X7_areas_2 (ok_X7_courtAt V e1) tv_X7_courtAt ti_X7_courtAt ts_X7_courtAt lk_X7_95 r_X7_areas_X7_courtAt kc_X7_courtAt (kd_X7_courtAt e1) rfl rfl (Nat.le_of_ble_eq_true rfl) rfl rfl rfl ?_
  rcases x3 with _ | z4
  · dsimp only at H
    refine WP.astore_nN (lv9 := [(3, .null), (0, .ref t), (1, .int l1), (2, .int l2)]) d_X7_areas_5 (Nat.le_of_ble_eq_true rfl) rfl ?_
    refine WP.aload_nN d_X7_areas_6 0 rfl ?_
    refine WP.nN d_X7_areas_7 ?_
    refine WP.iconst d_X7_areas_22 ki_m1 ?_
    cases H
    exact WP.ireturn d_X7_areas_23 rfl rfl (Nat.le_of_ble_eq_true rfl) (Nat.le_of_ble_eq_true rfl)
  · dsimp only at H
    refine WP.astore_n (lv9 := [(3, .ref z4), (0, .ref t), (1, .int l1), (2, .int l2)]) d_X7_areas_5 (Nat.le_of_ble_eq_true rfl) rfl ?_
    refine WP.aload_n d_X7_areas_6 0 rfl ?_
    refine WP.nR d_X7_areas_7 ?_
    refine WP.iload_n d_X7_areas_10 3 rfl ?_
    refine WP.iconst d_X7_areas_11 ki_m1 ?_
    obtain ⟨s17, hs5, H⟩ := ob H
    rcases s17 with r14 | _
    · dsimp only at H
      rcases oj hs5 with ⟨hc, hs5⟩ | ⟨hc, hs5⟩
      · refine WP.icmp_eq_t d_X7_areas_12 hc ?_
        cases hs5
      · refine WP.icmp_eq_f d_X7_areas_12 hc ?_
        refine WP.iload_n d_X7_areas_15 3 rfl ?_
        obtain ⟨x16, e15, hs5⟩ := ob hs5
        refine WP.cS (As := [.int l2]) (st := []) (st9 := [.int x16]) (cl9 := 0) (sl9 := 0) d_X7_areas_16 (ok_X7_isLoud V (h := h2) e15) tv_X7_isLoud ts_X7_isLoud lk_X7_172 r_X7_areas_X7_isLoud rfl rfl (Nat.le_of_ble_eq_true rfl) rfl rfl rfl ?_
        rcases oj hs5 with ⟨hc, hs5⟩ | ⟨hc, hs5⟩
        · refine WP.if_ne_t d_X7_areas_19 hc ?_
          refine WP.iconst d_X7_areas_22 ki_m1 ?_
          cases hs5
          cases H
          exact WP.ireturn d_X7_areas_23 rfl rfl (Nat.le_of_ble_eq_true rfl) (Nat.le_of_ble_eq_true rfl)
        · refine WP.if_ne_f d_X7_areas_19 hc ?_
          cases hs5
    · dsimp only at H
      have J6 : WP V M_X7_areas 24 [(0, .ref t), (2, .int l2), (3, .ref z4)] [] h2 0 0 (some (.int r)) hR := by
        refine WP.iload_n d_X7_areas_24 1 rfl ?_
        refine WP.iconst d_X7_areas_25 ki_m1 ?_
        rcases oj H with ⟨hc, H⟩ | ⟨hc, H⟩
        · refine WP.icmp_ne_t d_X7_areas_26 hc ?_
          refine WP.aload_n d_X7_areas_29 2 rfl ?_
          obtain ⟨x10, e9, H⟩ := ob H
          refine WP.cV (c := 1) (As := []) (st := []) (st9 := [.int x10]) (cl9 := 0) (sl9 := 0) d_X7_areas_30 (ok_X0_parts V e9) tv_X0_parts ti_X0_parts ts_X0_parts lk_X7_313 r_X7_areas_X0_parts kc_X0_parts (kd_X0_parts e9) rfl rfl (Nat.le_of_ble_eq_true rfl) rfl rfl rfl ?_
          refine WP.goto d_X7_areas_33 ?_
          cases H
          exact WP.ireturn d_X7_areas_42 rfl rfl (Nat.le_of_ble_eq_true rfl) (Nat.le_of_ble_eq_true rfl)
        · refine WP.icmp_ne_f d_X7_areas_26 hc ?_
          refine WP.aload_n d_X7_areas_36 0 rfl ?_
          refine WP.aload_n d_X7_areas_37 2 rfl ?_
          refine WP.iload_n d_X7_areas_38 1 rfl ?_
          obtain ⟨⟨x13, h12⟩, e11, H⟩ := ob H
          refine WP.cV (c := 8) (As := [.ref z4, .int l2]) (st := []) (st9 := [.int x13]) (cl9 := 0) (sl9 := 0) d_X7_areas_39 (ok_X7_carve V e11) tv_X7_carve ti_X7_carve ts_X7_carve lk_X7_316 r_X7_areas_X7_carve kc_X7_carve (kd_X7_carve e11) rfl rfl (Nat.le_of_ble_eq_true rfl) rfl rfl rfl ?_
          cases H
          exact WP.ireturn d_X7_areas_42 rfl rfl (Nat.le_of_ble_eq_true rfl) (Nat.le_of_ble_eq_true rfl)
      rcases oj hs5 with ⟨hc, hs5⟩ | ⟨hc, hs5⟩
      · refine WP.icmp_eq_t d_X7_areas_12 hc ?_
        cases hs5
        exact WP.sub [1, 3, 0] rfl J6
      · refine WP.icmp_eq_f d_X7_areas_12 hc ?_
        refine WP.iload_n d_X7_areas_15 3 rfl ?_
        obtain ⟨x8, e7, hs5⟩ := ob hs5
        refine WP.cS (As := [.int l2]) (st := []) (st9 := [.int x8]) (cl9 := 0) (sl9 := 0) d_X7_areas_16 (ok_X7_isLoud V (h := h2) e7) tv_X7_isLoud ts_X7_isLoud lk_X7_172 r_X7_areas_X7_isLoud rfl rfl (Nat.le_of_ble_eq_true rfl) rfl rfl rfl ?_
        rcases oj hs5 with ⟨hc, hs5⟩ | ⟨hc, hs5⟩
        · refine WP.if_ne_t d_X7_areas_19 hc ?_
          refine WP.iconst d_X7_areas_22 ki_m1 ?_
          cases hs5
        · refine WP.if_ne_f d_X7_areas_19 hc ?_
          cases hs5
          exact WP.sub [1, 3, 0] rfl J6

set_option maxRecDepth 20000 in
set_option maxHeartbeats 4000000 in
theorem okl_X7_mouth_L24 (V : EV) {vF : Option Value} {hF : HA} {h : HA} {l3 : Int32} {l4 : Nat} (n : Nat) : ∀ {l5 : Int32} {l6 : Int32} {l7 : Int32} {r5 : Int32} {r6 : Int32}, (H : X7_mouth_L24 h l4 n l5 l6 l7 = some (r5, r6)) → (K : WP V M_X7_mouth 67 [(3, .int l3), (5, .int r5), (6, .int r6)] [] h 0 0 vF hF) → WP V M_X7_mouth 24 [(3, .int l3), (4, .ref l4), (5, .int l5), (6, .int l6), (7, .int l7)] [] h 0 0 vF hF := by
  induction n with
  | zero =>
    intro l5 l6 l7 r5 r6 H K
    rw [X7_mouth_L24] at H
    cases H
  | succ n ih =>
    intro l5 l6 l7 r5 r6 H K
    rw [X7_mouth_L24] at H
    refine WP.iload d_X7_mouth_24 4 rfl ?_
    refine WP.aload d_X7_mouth_26 1 rfl ?_
    obtain ⟨x5, ex5, H⟩ := ob H
    refine WP.fR d_X7_mouth_28 gf_X7_239 (fun _ => rfl) ex5 ?_
    obtain ⟨x6, ex6, H⟩ := ob H
    refine WP.fI d_X7_mouth_31 gf_X7_126 (fun _ => rfl) ex6 ?_
    rcases oj H with ⟨hc, H⟩ | ⟨hc, H⟩
    · refine WP.icmp_ge_t d_X7_mouth_34 hc ?_
      refine WP.aload d_X7_mouth_37 1 rfl ?_
      refine WP.iload d_X7_mouth_39 4 rfl ?_
      obtain ⟨x8, e7, H⟩ := ob H
      refine WP.cV (c := 2) (As := [.int l7]) (st := []) (st9 := [.int x8]) (cl9 := 0) (sl9 := 0) d_X7_mouth_41 (ok_X1_hearersOf V e7) tv_X1_hearersOf ti_X1_hearersOf ts_X1_hearersOf lk_X7_329 r_X7_mouth_X1_hearersOf kc_X1_hearersOf (kd_X1_hearersOf e7) rfl rfl (Nat.le_of_ble_eq_true rfl) rfl rfl rfl ?_
      refine WP.istore (lv9 := [(8, .int x8), (3, .int l3), (4, .ref l4), (5, .int l5), (6, .int l6), (7, .int l7)]) d_X7_mouth_44 (Nat.le_of_ble_eq_true rfl) rfl ?_
      refine WP.iload d_X7_mouth_46 0 rfl ?_
      refine WP.iload d_X7_mouth_48 4 rfl ?_
      rcases oj H with ⟨hc, H⟩ | ⟨hc, H⟩
      · refine WP.icmp_le_t d_X7_mouth_50 hc ?_
        refine WP.iload d_X7_mouth_53 0 rfl ?_
        refine WP.istore (lv9 := [(6, .int x8), (8, .int x8), (3, .int l3), (4, .ref l4), (5, .int l5), (7, .int l7)]) d_X7_mouth_55 (Nat.le_of_ble_eq_true rfl) rfl ?_
        refine WP.iload d_X7_mouth_57 5 rfl ?_
        refine WP.istore (lv9 := [(5, .int l7), (6, .int x8), (8, .int x8), (3, .int l3), (4, .ref l4), (7, .int l7)]) d_X7_mouth_59 (Nat.le_of_ble_eq_true rfl) rfl ?_
        refine WP.iinc (lv9 := [(7, .int (l7 + 1)), (5, .int l7), (6, .int x8), (8, .int x8), (3, .int l3), (4, .ref l4)]) d_X7_mouth_61 5 rfl ki_1 (Nat.le_of_ble_eq_true rfl) rfl ?_
        refine WP.goto d_X7_mouth_64 ?_
        refine WP.sub [4, 5, 1, 2, 0] (lv' := [(3, .int l3), (4, .ref l4), (5, .int l7), (6, .int x8), (7, .int (l7 + 1))]) rfl ?_
        exact ih H K
      · refine WP.icmp_le_f d_X7_mouth_50 hc ?_
        refine WP.iinc (lv9 := [(7, .int (l7 + 1)), (8, .int x8), (3, .int l3), (4, .ref l4), (5, .int l5), (6, .int l6)]) d_X7_mouth_61 5 rfl ki_1 (Nat.le_of_ble_eq_true rfl) rfl ?_
        refine WP.goto d_X7_mouth_64 ?_
        refine WP.sub [2, 3, 4, 5, 0] (lv' := [(3, .int l3), (4, .ref l4), (5, .int l5), (6, .int l6), (7, .int (l7 + 1))]) rfl ?_
        exact ih H K
    · refine WP.icmp_ge_f d_X7_mouth_34 hc ?_
      cases H
      exact WP.sub [0, 2, 3] rfl K

set_option maxRecDepth 20000 in
set_option maxHeartbeats 4000000 in
theorem ok_X7_mouth (V : EV) {h : HA} {t : Nat} {l1 : Int32} {l2 : Int32} {l3 : Int32} {r : Int32} {hR : HA} (H : X7_mouth h t l1 l2 l3 = some (r, hR)) : MG V M_X7_mouth [.ref t, .int l1, .int l2, .int l3] h (some (.int r)) hR := by
  unfold X7_mouth at H
  obtain ⟨_, H⟩ := oc H
  refine MG.of (lv0 := [(0, .ref t), (1, .int l1), (2, .int l2), (3, .int l3)]) pn_X7 rfl (Nat.le_of_ble_eq_true rfl) ?_
  refine WP.aload_n d_X7_mouth_0 0 rfl ?_
  refine WP.iload_n d_X7_mouth_1 1 rfl ?_
  refine WP.iload_n d_X7_mouth_2 2 rfl ?_
  obtain ⟨⟨x3, h2⟩, e1, H⟩ := ob H
  refine WP.cV (c := 8) (As := [.int l1, .int l2]) (st := []) (st9 := va_rf x3 :: []) (cl9 := 0) (sl9 := 0) d_X7_mouth_3 (ok_X7_hallOf V e1) tv_X7_hallOf ti_X7_hallOf ts_X7_hallOf lk_X7_220 r_X7_mouth_X7_hallOf kc_X7_hallOf (kd_X7_hallOf e1) rfl rfl (Nat.le_of_ble_eq_true rfl) rfl rfl rfl ?_
  rcases x3 with _ | z4
  · dsimp only at H
    refine WP.astoreN (lv9 := [(4, .null), (0, .ref t), (1, .int l1), (2, .int l2), (3, .int l3)]) d_X7_mouth_6 (Nat.le_of_ble_eq_true rfl) rfl ?_
    refine WP.aloadN d_X7_mouth_8 0 rfl ?_
    refine WP.nnN d_X7_mouth_10 ?_
    refine WP.iconst d_X7_mouth_13 ki_m1 ?_
    cases H
    exact WP.ireturn d_X7_mouth_14 rfl rfl (Nat.le_of_ble_eq_true rfl) (Nat.le_of_ble_eq_true rfl)
  · dsimp only at H
    refine WP.astore (lv9 := [(4, .ref z4), (0, .ref t), (1, .int l1), (2, .int l2), (3, .int l3)]) d_X7_mouth_6 (Nat.le_of_ble_eq_true rfl) rfl ?_
    refine WP.aload d_X7_mouth_8 0 rfl ?_
    refine WP.nnR d_X7_mouth_10 ?_
    refine WP.iconst d_X7_mouth_15 ki_m1 ?_
    refine WP.istore (lv9 := [(5, .int (-1)), (4, .ref z4), (0, .ref t), (1, .int l1), (2, .int l2), (3, .int l3)]) d_X7_mouth_16 (Nat.le_of_ble_eq_true rfl) rfl ?_
    refine WP.iconst d_X7_mouth_18 ki_0 ?_
    refine WP.istore (lv9 := [(6, .int 0), (5, .int (-1)), (4, .ref z4), (0, .ref t), (1, .int l1), (2, .int l2), (3, .int l3)]) d_X7_mouth_19 (Nat.le_of_ble_eq_true rfl) rfl ?_
    refine WP.iconst d_X7_mouth_21 ki_0 ?_
    refine WP.istore (lv9 := [(7, .int 0), (6, .int 0), (5, .int (-1)), (4, .ref z4), (0, .ref t), (1, .int l1), (2, .int l2), (3, .int l3)]) d_X7_mouth_22 (Nat.le_of_ble_eq_true rfl) rfl ?_
    obtain ⟨⟨y10, y11⟩, e9, H⟩ := ob H
    refine WP.sub [7, 3, 2, 1, 0] (lv' := [(3, .int l3), (4, .ref z4), (5, .int (-1)), (6, .int 0), (7, .int 0)]) rfl ?_
    refine okl_X7_mouth_L24 V _ e9 ?_
    refine WP.iload_n d_X7_mouth_67 0 rfl ?_
    rcases oj H with ⟨hc, H⟩ | ⟨hc, H⟩
    · refine WP.if_eq_t d_X7_mouth_68 hc ?_
      refine WP.iload d_X7_mouth_82 1 rfl ?_
      cases H
      exact WP.ireturn d_X7_mouth_84 rfl rfl (Nat.le_of_ble_eq_true rfl) (Nat.le_of_ble_eq_true rfl)
    · refine WP.if_eq_f d_X7_mouth_68 hc ?_
      refine WP.iload d_X7_mouth_71 1 rfl ?_
      refine WP.iconst d_X7_mouth_73 ki_m1 ?_
      rcases oj H with ⟨hc, H⟩ | ⟨hc, H⟩
      · refine WP.icmp_eq_t d_X7_mouth_74 hc ?_
        refine WP.iload d_X7_mouth_82 1 rfl ?_
        cases H
        exact WP.ireturn d_X7_mouth_84 rfl rfl (Nat.le_of_ble_eq_true rfl) (Nat.le_of_ble_eq_true rfl)
      · refine WP.icmp_eq_f d_X7_mouth_74 hc ?_
        refine WP.iload d_X7_mouth_77 2 rfl ?_
        refine WP.goto d_X7_mouth_79 ?_
        cases H
        exact WP.ireturn d_X7_mouth_84 rfl rfl (Nat.le_of_ble_eq_true rfl) (Nat.le_of_ble_eq_true rfl)

set_option maxRecDepth 20000 in
set_option maxHeartbeats 4000000 in
theorem okl_X7_rift_L63 (V : EV) {vF : Option Value} {hF : HA} {h : HA} {l3 : Int32} {l4 : Nat} {l8 : Int32} (n : Nat) : ∀ {l5 : Int32} {l6 : Int32} {l7 : Int32} {l9 : Int32} {r5 : Int32} {r6 : Int32} {r7 : Int32}, (H : X7_rift_L63 h l4 l8 n l5 l6 l7 l9 = some (r5, r6, r7)) → (K : WP V M_X7_rift 123 [(3, .int l3), (4, .ref l4), (5, .int r5), (6, .int r6), (7, .int r7), (8, .int l8)] [] h 0 0 vF hF) → WP V M_X7_rift 63 [(3, .int l3), (4, .ref l4), (5, .int l5), (6, .int l6), (7, .int l7), (8, .int l8), (9, .int l9)] [] h 0 0 vF hF := by
  induction n with
  | zero =>
    intro l5 l6 l7 l9 r5 r6 r7 H K
    rw [X7_rift_L63] at H
    cases H
  | succ n ih =>
    intro l5 l6 l7 l9 r5 r6 r7 H K
    rw [X7_rift_L63] at H
    refine WP.iload d_X7_rift_63 6 rfl ?_
    refine WP.aload d_X7_rift_65 1 rfl ?_
    obtain ⟨x11, ex11, H⟩ := ob H
    refine WP.fR d_X7_rift_67 gf_X7_239 (fun _ => rfl) ex11 ?_
    obtain ⟨x12, ex12, H⟩ := ob H
    refine WP.fI d_X7_rift_70 gf_X7_123 (fun _ => rfl) ex12 ?_
    rcases oj H with ⟨hc, H⟩ | ⟨hc, H⟩
    · refine WP.icmp_ge_t d_X7_rift_73 hc ?_
      refine WP.aload d_X7_rift_76 1 rfl ?_
      obtain ⟨x13, ex13, H⟩ := ob H
      refine WP.fR d_X7_rift_78 gf_X7_259 (fun _ => rfl) ex13 ?_
      refine WP.iload d_X7_rift_81 5 rfl ?_
      obtain ⟨x14, ex14, H⟩ := ob H
      refine WP.iald d_X7_rift_83 ex14 ?_
      refine WP.aload d_X7_rift_84 1 rfl ?_
      obtain ⟨x15, ex15, H⟩ := ob H
      refine WP.fR d_X7_rift_86 gf_X7_259 (fun _ => rfl) ex15 ?_
      refine WP.iload d_X7_rift_89 6 rfl ?_
      obtain ⟨x16, ex16, H⟩ := ob H
      refine WP.iald d_X7_rift_91 ex16 ?_
      refine WP.ixor d_X7_rift_92 ?_
      obtain ⟨x18, e17, H⟩ := ob H
      refine WP.cS (As := [.int (x14 ^^^ x16)]) (st := []) (st9 := [.int x18]) (cl9 := 0) (sl9 := 0) d_X7_rift_93 (ok_J6_bitCount_0f7a4 V (h := h) e17) tv_J6_bitCount_0f7a4 ts_J6_bitCount_0f7a4 lk_X7_179 r_X7_rift_J6_bitCount_0f7a4 rfl rfl (Nat.le_of_ble_eq_true rfl) rfl rfl rfl ?_
      refine WP.istore (lv9 := [(10, .int x18), (3, .int l3), (4, .ref l4), (5, .int l5), (6, .int l6), (7, .int l7), (8, .int l8), (9, .int l9)]) d_X7_rift_96 (Nat.le_of_ble_eq_true rfl) rfl ?_
      refine WP.iload d_X7_rift_98 0 rfl ?_
      refine WP.iload d_X7_rift_100 5 rfl ?_
      rcases oj H with ⟨hc, H⟩ | ⟨hc, H⟩
      · refine WP.icmp_le_t d_X7_rift_102 hc ?_
        refine WP.iload d_X7_rift_105 0 rfl ?_
        refine WP.istore (lv9 := [(7, .int x18), (10, .int x18), (3, .int l3), (4, .ref l4), (5, .int l5), (6, .int l6), (8, .int l8), (9, .int l9)]) d_X7_rift_107 (Nat.le_of_ble_eq_true rfl) rfl ?_
        refine WP.iload d_X7_rift_109 6 rfl ?_
        refine WP.istore (lv9 := [(5, .int l8), (7, .int x18), (10, .int x18), (3, .int l3), (4, .ref l4), (6, .int l6), (8, .int l8), (9, .int l9)]) d_X7_rift_111 (Nat.le_of_ble_eq_true rfl) rfl ?_
        refine WP.iload d_X7_rift_113 7 rfl ?_
        refine WP.istore (lv9 := [(6, .int l9), (5, .int l8), (7, .int x18), (10, .int x18), (3, .int l3), (4, .ref l4), (8, .int l8), (9, .int l9)]) d_X7_rift_115 (Nat.le_of_ble_eq_true rfl) rfl ?_
        refine WP.iinc (lv9 := [(9, .int (l9 + 1)), (6, .int l9), (5, .int l8), (7, .int x18), (10, .int x18), (3, .int l3), (4, .ref l4), (8, .int l8)]) d_X7_rift_117 7 rfl ki_1 (Nat.le_of_ble_eq_true rfl) rfl ?_
        refine WP.goto d_X7_rift_120 ?_
        refine WP.sub [5, 6, 2, 1, 3, 7, 0] (lv' := [(3, .int l3), (4, .ref l4), (5, .int l8), (6, .int l9), (7, .int x18), (8, .int l8), (9, .int (l9 + 1))]) rfl ?_
        exact ih H K
      · refine WP.icmp_le_f d_X7_rift_102 hc ?_
        refine WP.iinc (lv9 := [(9, .int (l9 + 1)), (10, .int x18), (3, .int l3), (4, .ref l4), (5, .int l5), (6, .int l6), (7, .int l7), (8, .int l8)]) d_X7_rift_117 7 rfl ki_1 (Nat.le_of_ble_eq_true rfl) rfl ?_
        refine WP.goto d_X7_rift_120 ?_
        refine WP.sub [2, 3, 4, 5, 6, 7, 0] (lv' := [(3, .int l3), (4, .ref l4), (5, .int l5), (6, .int l6), (7, .int l7), (8, .int l8), (9, .int (l9 + 1))]) rfl ?_
        exact ih H K
    · refine WP.icmp_ge_f d_X7_rift_73 hc ?_
      cases H
      exact WP.sub [0, 1, 2, 3, 4, 5] rfl K

set_option maxRecDepth 20000 in
set_option maxHeartbeats 4000000 in
theorem okl_X7_rift_L44 (V : EV) {vF : Option Value} {hF : HA} {h : HA} {l3 : Int32} {l4 : Nat} (n : Nat) : ∀ {l5 : Int32} {l6 : Int32} {l7 : Int32} {l8 : Int32} {r5 : Int32} {r6 : Int32} {r7 : Int32}, (H : X7_rift_L44 h l4 n l5 l6 l7 l8 = some (r5, r6, r7)) → (K : WP V M_X7_rift 129 [(3, .int l3), (5, .int r5), (6, .int r6), (7, .int r7)] [] h 0 0 vF hF) → WP V M_X7_rift 44 [(3, .int l3), (4, .ref l4), (5, .int l5), (6, .int l6), (7, .int l7), (8, .int l8)] [] h 0 0 vF hF := by
  induction n with
  | zero =>
    intro l5 l6 l7 l8 r5 r6 r7 H K
    rw [X7_rift_L44] at H
    cases H
  | succ n ih =>
    intro l5 l6 l7 l8 r5 r6 r7 H K
    rw [X7_rift_L44] at H
    refine WP.iload d_X7_rift_44 5 rfl ?_
    refine WP.aload d_X7_rift_46 1 rfl ?_
    obtain ⟨x9, ex9, H⟩ := ob H
    refine WP.fR d_X7_rift_48 gf_X7_239 (fun _ => rfl) ex9 ?_
    obtain ⟨x10, ex10, H⟩ := ob H
    refine WP.fI d_X7_rift_51 gf_X7_123 (fun _ => rfl) ex10 ?_
    rcases oj H with ⟨hc, H⟩ | ⟨hc, H⟩
    · refine WP.icmp_ge_t d_X7_rift_54 hc ?_
      refine WP.iload d_X7_rift_57 5 rfl ?_
      refine WP.iconst d_X7_rift_59 ki_1 ?_
      refine WP.iadd d_X7_rift_60 ?_
      refine WP.istore (lv9 := [(9, .int (l8 + 1)), (3, .int l3), (4, .ref l4), (5, .int l5), (6, .int l6), (7, .int l7), (8, .int l8)]) d_X7_rift_61 (Nat.le_of_ble_eq_true rfl) rfl ?_
      obtain ⟨⟨y20, y21, y22⟩, e19, H⟩ := ob H
      refine WP.sub [1, 2, 3, 4, 5, 6, 0] (lv' := [(3, .int l3), (4, .ref l4), (5, .int l5), (6, .int l6), (7, .int l7), (8, .int l8), (9, .int (l8 + 1))]) rfl ?_
      refine okl_X7_rift_L63 V _ e19 ?_
      refine WP.iinc (lv9 := [(8, .int (l8 + 1)), (3, .int l3), (4, .ref l4), (5, .int y20), (6, .int y21), (7, .int y22)]) d_X7_rift_123 5 rfl ki_1 (Nat.le_of_ble_eq_true rfl) rfl ?_
      refine WP.goto d_X7_rift_126 ?_
      refine WP.sub [1, 2, 3, 4, 5, 0] (lv' := [(3, .int l3), (4, .ref l4), (5, .int y20), (6, .int y21), (7, .int y22), (8, .int (l8 + 1))]) rfl ?_
      exact ih H K
    · refine WP.icmp_ge_f d_X7_rift_54 hc ?_
      cases H
      exact WP.sub [0, 2, 3, 4] rfl K

set_option maxRecDepth 20000 in
set_option maxHeartbeats 4000000 in
theorem ok_X7_rift (V : EV) {h : HA} {t : Nat} {l1 : Int32} {l2 : Int32} {l3 : Int32} {r : Int32} {hR : HA} (H : X7_rift h t l1 l2 l3 = some (r, hR)) : MG V M_X7_rift [.ref t, .int l1, .int l2, .int l3] h (some (.int r)) hR := by
  unfold X7_rift at H
  obtain ⟨_, H⟩ := oc H
  refine MG.of (lv0 := [(0, .ref t), (1, .int l1), (2, .int l2), (3, .int l3)]) pn_X7 rfl (Nat.le_of_ble_eq_true rfl) ?_
  refine WP.aload_n d_X7_rift_0 0 rfl ?_
  refine WP.iload_n d_X7_rift_1 1 rfl ?_
  refine WP.iload_n d_X7_rift_2 2 rfl ?_
  obtain ⟨⟨x3, h2⟩, e1, H⟩ := ob H
  refine WP.cV (c := 8) (As := [.int l1, .int l2]) (st := []) (st9 := va_rf x3 :: []) (cl9 := 0) (sl9 := 0) d_X7_rift_3 (ok_X7_hallOf V e1) tv_X7_hallOf ti_X7_hallOf ts_X7_hallOf lk_X7_220 r_X7_rift_X7_hallOf kc_X7_hallOf (kd_X7_hallOf e1) rfl rfl (Nat.le_of_ble_eq_true rfl) rfl rfl rfl ?_
  rcases x3 with _ | z4
  · dsimp only at H
    refine WP.astoreN (lv9 := [(4, .null), (0, .ref t), (1, .int l1), (2, .int l2), (3, .int l3)]) d_X7_rift_6 (Nat.le_of_ble_eq_true rfl) rfl ?_
    refine WP.aloadN d_X7_rift_8 0 rfl ?_
    refine WP.nN d_X7_rift_10 ?_
    refine WP.iconst d_X7_rift_25 ki_m1 ?_
    cases H
    exact WP.ireturn d_X7_rift_26 rfl rfl (Nat.le_of_ble_eq_true rfl) (Nat.le_of_ble_eq_true rfl)
  · dsimp only at H
    refine WP.astore (lv9 := [(4, .ref z4), (0, .ref t), (1, .int l1), (2, .int l2), (3, .int l3)]) d_X7_rift_6 (Nat.le_of_ble_eq_true rfl) rfl ?_
    refine WP.aload d_X7_rift_8 0 rfl ?_
    refine WP.nR d_X7_rift_10 ?_
    refine WP.aload d_X7_rift_13 0 rfl ?_
    obtain ⟨x5, ex5, H⟩ := ob H
    refine WP.fR d_X7_rift_15 gf_X7_239 (fun _ => rfl) ex5 ?_
    obtain ⟨x6, ex6, H⟩ := ob H
    refine WP.fI d_X7_rift_18 gf_X7_123 (fun _ => rfl) ex6 ?_
    refine WP.iconst d_X7_rift_21 ki_2 ?_
    rcases oj H with ⟨hc, H⟩ | ⟨hc, H⟩
    · refine WP.icmp_ge_t d_X7_rift_22 hc ?_
      refine WP.iconst d_X7_rift_25 ki_m1 ?_
      cases H
      exact WP.ireturn d_X7_rift_26 rfl rfl (Nat.le_of_ble_eq_true rfl) (Nat.le_of_ble_eq_true rfl)
    · refine WP.icmp_ge_f d_X7_rift_22 hc ?_
      refine WP.aload d_X7_rift_27 0 rfl ?_
      obtain ⟨h8, e7, H⟩ := ob H
      refine WP.cV (c := 2) (As := []) (st := []) (st9 := []) (cl9 := 0) (sl9 := 0) d_X7_rift_29 (ok_X1_learnAll V e7) tv_X1_learnAll ti_X1_learnAll ts_X1_learnAll lk_X7_249 r_X7_rift_X1_learnAll kc_X1_learnAll (kd_X1_learnAll e7) rfl rfl (Nat.le_of_ble_eq_true rfl) rfl rfl rfl ?_
      refine WP.iconst d_X7_rift_32 ki_0 ?_
      refine WP.istore (lv9 := [(5, .int 0), (4, .ref z4), (0, .ref t), (1, .int l1), (2, .int l2), (3, .int l3)]) d_X7_rift_33 (Nat.le_of_ble_eq_true rfl) rfl ?_
      refine WP.iconst d_X7_rift_35 ki_1 ?_
      refine WP.istore (lv9 := [(6, .int 1), (5, .int 0), (4, .ref z4), (0, .ref t), (1, .int l1), (2, .int l2), (3, .int l3)]) d_X7_rift_36 (Nat.le_of_ble_eq_true rfl) rfl ?_
      refine WP.iconst d_X7_rift_38 ki_m1 ?_
      refine WP.istore (lv9 := [(7, .int (-1)), (6, .int 1), (5, .int 0), (4, .ref z4), (0, .ref t), (1, .int l1), (2, .int l2), (3, .int l3)]) d_X7_rift_39 (Nat.le_of_ble_eq_true rfl) rfl ?_
      refine WP.iconst d_X7_rift_41 ki_0 ?_
      refine WP.istore (lv9 := [(8, .int 0), (7, .int (-1)), (6, .int 1), (5, .int 0), (4, .ref z4), (0, .ref t), (1, .int l1), (2, .int l2), (3, .int l3)]) d_X7_rift_42 (Nat.le_of_ble_eq_true rfl) rfl ?_
      obtain ⟨⟨y24, y25, y26⟩, e23, H⟩ := ob H
      refine WP.sub [8, 4, 3, 2, 1, 0] (lv' := [(3, .int l3), (4, .ref z4), (5, .int 0), (6, .int 1), (7, .int (-1)), (8, .int 0)]) rfl ?_
      refine okl_X7_rift_L44 V _ e23 ?_
      refine WP.iload_n d_X7_rift_129 0 rfl ?_
      rcases oj H with ⟨hq0, H⟩ | ⟨hq0, H⟩
      · refine WP.tsw (t := 156) 0 d_X7_rift_130 (by rw [hq0]; decide) (by decide) rfl (by decide) ?_
        refine WP.iload d_X7_rift_156 1 rfl ?_
        cases H
        exact WP.ireturn d_X7_rift_158 rfl rfl (Nat.le_of_ble_eq_true rfl) (Nat.le_of_ble_eq_true rfl)
      · skip
        rcases oj H with ⟨hq1, H⟩ | ⟨hq1, H⟩
        · refine WP.tsw (t := 159) 1 d_X7_rift_130 (by rw [hq1]; decide) (by decide) rfl (by decide) ?_
          refine WP.iload d_X7_rift_159 2 rfl ?_
          cases H
          exact WP.ireturn d_X7_rift_161 rfl rfl (Nat.le_of_ble_eq_true rfl) (Nat.le_of_ble_eq_true rfl)
        · skip
          rcases oj H with ⟨hq2, H⟩ | ⟨hq2, H⟩
          · refine WP.tsw (t := 162) 2 d_X7_rift_130 (by rw [hq2]; decide) (by decide) rfl (by decide) ?_
            refine WP.iload d_X7_rift_162 3 rfl ?_
            cases H
            exact WP.ireturn d_X7_rift_164 rfl rfl (Nat.le_of_ble_eq_true rfl) (Nat.le_of_ble_eq_true rfl)
          · skip
            refine WP.tswd (t := 165) d_X7_rift_130 (tsw_out (n := 3) [0, 1, 2] (by decide) (by decide +kernel) (List.forall_mem_cons.mpr ⟨hq0, (List.forall_mem_cons.mpr ⟨hq1, (List.forall_mem_cons.mpr ⟨hq2, (fun _ hz9 => absurd hz9 List.not_mem_nil)⟩)⟩)⟩)) (by decide) ?_
            refine WP.iconst d_X7_rift_165 ki_m1 ?_
            cases H
            exact WP.ireturn d_X7_rift_166 rfl rfl (Nat.le_of_ble_eq_true rfl) (Nat.le_of_ble_eq_true rfl)

set_option maxRecDepth 20000 in
set_option maxHeartbeats 4000000 in
theorem ok_X7_count (V : EV) {h : HA} {t : Nat} {l1 : Int32} {r : Int32} (H : X7_count h t l1 = some r) : MG V M_X7_count [.ref t, .int l1] h (some (.int r)) h := by
  unfold X7_count at H
  obtain ⟨_, H⟩ := oc H
  refine MG.of (lv0 := [(0, .ref t), (1, .int l1)]) pn_X7 rfl (Nat.le_of_ble_eq_true rfl) ?_
  refine WP.iload_n d_X7_count_0 1 rfl ?_
  rcases oj H with ⟨hc, H⟩ | ⟨hc, H⟩
  · refine WP.if_lt_t d_X7_count_1 hc ?_
    refine WP.bipush d_X7_count_21 kb_m2 ?_
    cases H
    exact WP.ireturn d_X7_count_23 rfl rfl (Nat.le_of_ble_eq_true rfl) (Nat.le_of_ble_eq_true rfl)
  · refine WP.if_lt_f d_X7_count_1 hc ?_
    refine WP.iload_n d_X7_count_4 1 rfl ?_
    refine WP.iconst d_X7_count_5 ki_4 ?_
    rcases oj H with ⟨hc, H⟩ | ⟨hc, H⟩
    · refine WP.icmp_ge_t d_X7_count_6 hc ?_
      refine WP.aload_n d_X7_count_9 0 rfl ?_
      obtain ⟨x1, ex1, H⟩ := ob H
      refine WP.fR d_X7_count_10 gf_X7_10 (fun _ => rfl) ex1 ?_
      obtain ⟨x2, ex2, H⟩ := ob H
      refine WP.fR d_X7_count_13 gf_X7_55 (fun _ => rfl) ex2 ?_
      refine WP.iload_n d_X7_count_16 1 rfl ?_
      obtain ⟨x3, ex3, H⟩ := ob H
      refine WP.iald d_X7_count_17 ex3 ?_
      refine WP.goto d_X7_count_18 ?_
      cases H
      exact WP.ireturn d_X7_count_23 rfl rfl (Nat.le_of_ble_eq_true rfl) (Nat.le_of_ble_eq_true rfl)
    · refine WP.icmp_ge_f d_X7_count_6 hc ?_
      refine WP.bipush d_X7_count_21 kb_m2 ?_
      cases H
      exact WP.ireturn d_X7_count_23 rfl rfl (Nat.le_of_ble_eq_true rfl) (Nat.le_of_ble_eq_true rfl)

set_option maxRecDepth 20000 in
set_option maxHeartbeats 4000000 in
theorem ok_X7_image (V : EV) {h : HA} {t : Nat} {l1 : Int32} {r : Int32} {hR : HA} (H : X7_image h t l1 = some (r, hR)) : MG V M_X7_image [.ref t, .int l1] h (some (.int r)) hR := by
  unfold X7_image at H
  obtain ⟨_, H⟩ := oc H
  refine MG.of (lv0 := [(0, .ref t), (1, .int l1)]) pn_X7 rfl (Nat.le_of_ble_eq_true rfl) ?_
  refine WP.iload_n d_X7_image_0 1 rfl ?_
  rcases oj H with ⟨hc, H⟩ | ⟨hc, H⟩
  · refine WP.if_lt_t d_X7_image_1 hc ?_
    refine WP.iconst d_X7_image_9 ki_0 ?_
    cases H
    exact WP.ireturn d_X7_image_10 rfl rfl (Nat.le_of_ble_eq_true rfl) (Nat.le_of_ble_eq_true rfl)
  · refine WP.if_lt_f d_X7_image_1 hc ?_
    refine WP.iload_n d_X7_image_4 1 rfl ?_
    refine WP.iconst d_X7_image_5 ki_3 ?_
    rcases oj H with ⟨hc, H⟩ | ⟨hc, H⟩
    · refine WP.icmp_lt_t d_X7_image_6 hc ?_
      refine WP.aload_n d_X7_image_11 0 rfl ?_
      obtain ⟨x1, ex1, H⟩ := ob H
      refine WP.fR d_X7_image_12 gf_X7_16 (fun _ => rfl) ex1 ?_
      refine WP.iload_n d_X7_image_15 1 rfl ?_
      obtain ⟨x2, ex2, H⟩ := ob H
      refine WP.aaldN d_X7_image_16 (by decide) ex2 ?_
      rcases x2 with _ | z3
      · dsimp only at H
        refine WP.nnN d_X7_image_17 ?_
        refine WP.aload_n d_X7_image_20 0 rfl ?_
        obtain ⟨x4, ex4, H⟩ := ob H
        refine WP.fR d_X7_image_21 gf_X7_16 (fun _ => rfl) ex4 ?_
        refine WP.iload_n d_X7_image_24 1 rfl ?_
        obtain ⟨h5, eh5, H⟩ := ol H
        refine WP.new (c := 6) d_X7_image_25 (Nat.le_of_ble_eq_true rfl) (Nat.le_of_ble_eq_true rfl) wc_X7_7 wn_6 wz_X5 (Nat.le_of_ble_eq_true rfl) (Nat.le_of_ble_eq_true rfl) (by intro k hk; exact newd_6 k hk) ?_
        rw [eh5]
        refine WP.cs (cl9 := 1) (sl9 := 7) rfl rfl ?_
        refine WP.dup d_X7_image_28 rfl ?_
        obtain ⟨h7, e6, H⟩ := ob H
        refine WP.cI (As := []) (st := [.ref (hz h), .int l1, .ref x4]) (cl9 := 47) (sl9 := 2667) d_X7_image_29 (ok_X5_init V e6) tv_X5_init ti_X5_init rfl rfl lk_X7_9 ⟨Nat.le_of_ble_eq_true rfl, Nat.le_of_ble_eq_true rfl, Nat.le_of_ble_eq_true rfl, Nat.le_of_ble_eq_true rfl⟩ rfl rfl (Nat.le_of_ble_eq_true rfl) rfl rfl ?_
        obtain ⟨h8, eh8, H⟩ := ob H
        refine WP.aas d_X7_image_32 (by decide) eh8 ?_
        refine WP.aload_n d_X7_image_33 0 rfl ?_
        obtain ⟨x9, ex9, H⟩ := ob H
        refine WP.fR d_X7_image_34 gf_X7_16 (fun _ => rfl) ex9 ?_
        refine WP.iload_n d_X7_image_37 1 rfl ?_
        obtain ⟨x10, ex10, H⟩ := ob H
        refine WP.aaldN d_X7_image_38 (by decide) ex10 ?_
        rcases x10 with _ | z11
        · dsimp only at H
          refine WP.aload_n d_X7_image_39 0 rfl ?_
          obtain ⟨x12, ex12, H⟩ := ob H
          refine WP.fR d_X7_image_40 gf_X7_10 (fun _ => rfl) ex12 ?_
          cases H
        · dsimp only at H
          refine WP.aload_n d_X7_image_39 0 rfl ?_
          obtain ⟨x13, ex13, H⟩ := ob H
          refine WP.fR d_X7_image_40 gf_X7_10 (fun _ => rfl) ex13 ?_
          obtain ⟨h15, e14, H⟩ := ob H
          refine WP.cV (c := 6) (As := [.ref x13]) (st := []) (st9 := []) (cl9 := 47) (sl9 := 2667) d_X7_image_43 (ok_X5_copyFrom V e14) tv_X5_copyFrom ti_X5_copyFrom ts_X5_copyFrom lk_X7_332 ⟨Nat.le_of_ble_eq_true rfl, Nat.le_of_ble_eq_true rfl, Nat.le_of_ble_eq_true rfl, Nat.le_of_ble_eq_true rfl⟩ kc_X5_copyFrom (kd_X5_copyFrom e14) rfl rfl (Nat.le_of_ble_eq_true rfl) rfl rfl rfl ?_
          refine WP.iconst d_X7_image_46 ki_1 ?_
          cases H
          exact WP.ireturn d_X7_image_47 rfl rfl (Nat.le_of_ble_eq_true rfl) (Nat.le_of_ble_eq_true rfl)
      · dsimp only at H
        refine WP.nnR d_X7_image_17 ?_
        refine WP.aload_n d_X7_image_33 0 rfl ?_
        obtain ⟨x16, ex16, H⟩ := ob H
        refine WP.fR d_X7_image_34 gf_X7_16 (fun _ => rfl) ex16 ?_
        refine WP.iload_n d_X7_image_37 1 rfl ?_
        obtain ⟨x17, ex17, H⟩ := ob H
        refine WP.aaldN d_X7_image_38 (by decide) ex17 ?_
        rcases x17 with _ | z18
        · dsimp only at H
          refine WP.aload_n d_X7_image_39 0 rfl ?_
          obtain ⟨x19, ex19, H⟩ := ob H
          refine WP.fR d_X7_image_40 gf_X7_10 (fun _ => rfl) ex19 ?_
          cases H
        · dsimp only at H
          refine WP.aload_n d_X7_image_39 0 rfl ?_
          obtain ⟨x20, ex20, H⟩ := ob H
          refine WP.fR d_X7_image_40 gf_X7_10 (fun _ => rfl) ex20 ?_
          obtain ⟨h22, e21, H⟩ := ob H
          refine WP.cV (c := 6) (As := [.ref x20]) (st := []) (st9 := []) (cl9 := 0) (sl9 := 0) d_X7_image_43 (ok_X5_copyFrom V e21) tv_X5_copyFrom ti_X5_copyFrom ts_X5_copyFrom lk_X7_332 ⟨Nat.le_of_ble_eq_true rfl, Nat.le_of_ble_eq_true rfl, Nat.le_of_ble_eq_true rfl, Nat.le_of_ble_eq_true rfl⟩ kc_X5_copyFrom (kd_X5_copyFrom e21) rfl rfl (Nat.le_of_ble_eq_true rfl) rfl rfl rfl ?_
          refine WP.iconst d_X7_image_46 ki_1 ?_
          cases H
          exact WP.ireturn d_X7_image_47 rfl rfl (Nat.le_of_ble_eq_true rfl) (Nat.le_of_ble_eq_true rfl)
    · refine WP.icmp_lt_f d_X7_image_6 hc ?_
      refine WP.iconst d_X7_image_9 ki_0 ?_
      cases H
      exact WP.ireturn d_X7_image_10 rfl rfl (Nat.le_of_ble_eq_true rfl) (Nat.le_of_ble_eq_true rfl)

set_option maxRecDepth 20000 in
set_option maxHeartbeats 4000000 in
theorem ok_X7_again (V : EV) {h : HA} {t : Nat} {l1 : Int32} {r : Int32} {hR : HA} (H : X7_again h t l1 = some (r, hR)) : MG V M_X7_again [.ref t, .int l1] h (some (.int r)) hR := by
  unfold X7_again at H
  obtain ⟨_, H⟩ := oc H
  refine MG.of (lv0 := [(0, .ref t), (1, .int l1)]) pn_X7 rfl (Nat.le_of_ble_eq_true rfl) ?_
  refine WP.iload_n d_X7_again_0 1 rfl ?_
  rcases oj H with ⟨hc, H⟩ | ⟨hc, H⟩
  · refine WP.if_lt_t d_X7_again_1 hc ?_
    refine WP.iconst d_X7_again_18 ki_0 ?_
    cases H
    exact WP.ireturn d_X7_again_19 rfl rfl (Nat.le_of_ble_eq_true rfl) (Nat.le_of_ble_eq_true rfl)
  · refine WP.if_lt_f d_X7_again_1 hc ?_
    refine WP.iload_n d_X7_again_4 1 rfl ?_
    refine WP.iconst d_X7_again_5 ki_3 ?_
    rcases oj H with ⟨hc, H⟩ | ⟨hc, H⟩
    · refine WP.icmp_ge_t d_X7_again_6 hc ?_
      refine WP.aload_n d_X7_again_9 0 rfl ?_
      obtain ⟨x1, ex1, H⟩ := ob H
      refine WP.fR d_X7_again_10 gf_X7_16 (fun _ => rfl) ex1 ?_
      refine WP.iload_n d_X7_again_13 1 rfl ?_
      obtain ⟨x2, ex2, H⟩ := ob H
      refine WP.aaldN d_X7_again_14 (by decide) ex2 ?_
      rcases x2 with _ | z3
      · dsimp only at H
        refine WP.nnN d_X7_again_15 ?_
        refine WP.iconst d_X7_again_18 ki_0 ?_
        cases H
        exact WP.ireturn d_X7_again_19 rfl rfl (Nat.le_of_ble_eq_true rfl) (Nat.le_of_ble_eq_true rfl)
      · dsimp only at H
        refine WP.nnR d_X7_again_15 ?_
        refine WP.aload_n d_X7_again_20 0 rfl ?_
        obtain ⟨x4, ex4, H⟩ := ob H
        refine WP.fR d_X7_again_21 gf_X7_10 (fun _ => rfl) ex4 ?_
        refine WP.aload_n d_X7_again_24 0 rfl ?_
        obtain ⟨x5, ex5, H⟩ := ob H
        refine WP.fR d_X7_again_25 gf_X7_16 (fun _ => rfl) ex5 ?_
        refine WP.iload_n d_X7_again_28 1 rfl ?_
        obtain ⟨x6, ex6, H⟩ := ob H
        refine WP.aaldN d_X7_again_29 (by decide) ex6 ?_
        rcases x6 with _ | z7
        · dsimp only at H
          cases H
        · dsimp only at H
          obtain ⟨h9, e8, H⟩ := ob H
          refine WP.cV (c := 6) (As := [.ref z7]) (st := []) (st9 := []) (cl9 := 0) (sl9 := 0) d_X7_again_30 (ok_X5_copyFrom V e8) tv_X5_copyFrom ti_X5_copyFrom ts_X5_copyFrom lk_X7_332 r_X7_again_X5_copyFrom kc_X5_copyFrom (kd_X5_copyFrom e8) rfl rfl (Nat.le_of_ble_eq_true rfl) rfl rfl rfl ?_
          refine WP.iconst d_X7_again_33 ki_1 ?_
          cases H
          exact WP.ireturn d_X7_again_34 rfl rfl (Nat.le_of_ble_eq_true rfl) (Nat.le_of_ble_eq_true rfl)
    · refine WP.icmp_ge_f d_X7_again_6 hc ?_
      refine WP.iconst d_X7_again_18 ki_0 ?_
      cases H
      exact WP.ireturn d_X7_again_19 rfl rfl (Nat.le_of_ble_eq_true rfl) (Nat.le_of_ble_eq_true rfl)
