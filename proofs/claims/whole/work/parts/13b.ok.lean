set_option maxRecDepth 20000 in
set_option maxHeartbeats 4000000 in
theorem ok_X1_init (V : EV) {h : HA} {t : Nat} {hR : HA} (H : X1_init h t = some hR) : MG V M_X1_init [.ref t] h none hR := by
  unfold X1_init at H
  obtain ⟨_, H⟩ := oc H
  refine MG.of (lv0 := [(0, .ref t)]) pn_X1 rfl (Nat.le_of_ble_eq_true rfl) ?_
  refine WP.aload_n d_X1_init_0 0 rfl ?_
  refine WP.objInit d_X1_init_1 lk_X1_3 w_oi_inst w_oi_code (Nat.le_of_ble_eq_true rfl) (Nat.le_of_ble_eq_true rfl) ?_
  refine WP.aload_n d_X1_init_4 0 rfl ?_
  refine WP.iconst d_X1_init_5 ki_4 ?_
  obtain ⟨h1, eh1, H⟩ := ob H
  refine WP.newarr (c := 20) d_X1_init_6 (Nat.le_of_ble_eq_true rfl) (Nat.le_of_ble_eq_true rfl) rfl wa_int eh1 (Nat.le_of_ble_eq_true rfl) fc_20 (Nat.le_of_ble_eq_true rfl) (Nat.le_of_ble_eq_true rfl) newa_20 ?_
  refine WP.cs (cl9 := 1) (sl9 := 4) rfl rfl ?_
  obtain ⟨h2, eh2, H⟩ := ob H
  refine WP.vR d_X1_init_8 gf_X1_9 rfl rfl rfl (x := (some (hz h))) (fun _ => rfl) rfl rfl eh2 ?_
  refine WP.aload_n d_X1_init_11 0 rfl ?_
  refine WP.iconst d_X1_init_12 ki_4 ?_
  obtain ⟨h3, eh3, H⟩ := ob H
  refine WP.newarr (c := 20) d_X1_init_13 (Nat.le_of_ble_eq_true rfl) (Nat.le_of_ble_eq_true rfl) rfl wa_int eh3 (Nat.le_of_ble_eq_true rfl) fc_20 (Nat.le_of_ble_eq_true rfl) (Nat.le_of_ble_eq_true rfl) newa_20 ?_
  refine WP.cs (cl9 := 2) (sl9 := 8) rfl rfl ?_
  obtain ⟨h4, eh4, H⟩ := ob H
  refine WP.vR d_X1_init_15 gf_X1_15 rfl rfl rfl (x := (some (hz h2))) (fun _ => rfl) rfl rfl eh4 ?_
  refine WP.aload_n d_X1_init_18 0 rfl ?_
  refine WP.bipush d_X1_init_19 kb_6 ?_
  obtain ⟨h5, eh5, H⟩ := ob H
  refine WP.newarr (c := 20) d_X1_init_21 (Nat.le_of_ble_eq_true rfl) (Nat.le_of_ble_eq_true rfl) rfl wa_int eh5 (Nat.le_of_ble_eq_true rfl) fc_20 (Nat.le_of_ble_eq_true rfl) (Nat.le_of_ble_eq_true rfl) newa_20 ?_
  refine WP.cs (cl9 := 3) (sl9 := 14) rfl rfl ?_
  obtain ⟨h6, eh6, H⟩ := ob H
  refine WP.vR d_X1_init_23 gf_X1_18 rfl rfl rfl (x := (some (hz h4))) (fun _ => rfl) rfl rfl eh6 ?_
  refine WP.aload_n d_X1_init_26 0 rfl ?_
  refine WP.bipush d_X1_init_27 kb_30 ?_
  obtain ⟨h7, eh7, H⟩ := ob H
  refine WP.newarr (c := 21) d_X1_init_29 (Nat.le_of_ble_eq_true rfl) (Nat.le_of_ble_eq_true rfl) rfl wa_long eh7 (Nat.le_of_ble_eq_true rfl) fc_21 (Nat.le_of_ble_eq_true rfl) (Nat.le_of_ble_eq_true rfl) newa_21 ?_
  refine WP.cs (cl9 := 4) (sl9 := 44) rfl rfl ?_
  obtain ⟨h8, eh8, H⟩ := ob H
  refine WP.vR d_X1_init_31 gf_X1_21 rfl rfl rfl (x := (some (hz h6))) (fun _ => rfl) rfl rfl eh8 ?_
  refine WP.aload_n d_X1_init_34 0 rfl ?_
  refine WP.bipush d_X1_init_35 kb_30 ?_
  obtain ⟨h9, eh9, H⟩ := ob H
  refine WP.newarr (c := 20) d_X1_init_37 (Nat.le_of_ble_eq_true rfl) (Nat.le_of_ble_eq_true rfl) rfl wa_int eh9 (Nat.le_of_ble_eq_true rfl) fc_20 (Nat.le_of_ble_eq_true rfl) (Nat.le_of_ble_eq_true rfl) newa_20 ?_
  refine WP.cs (cl9 := 5) (sl9 := 74) rfl rfl ?_
  obtain ⟨h10, eh10, H⟩ := ob H
  refine WP.vR d_X1_init_39 gf_X1_25 rfl rfl rfl (x := (some (hz h8))) (fun _ => rfl) rfl rfl eh10 ?_
  cases H
  exact WP.return_ d_X1_init_42 rfl (Nat.le_of_ble_eq_true rfl) (Nat.le_of_ble_eq_true rfl)

set_option maxRecDepth 20000 in
set_option maxHeartbeats 4000000 in
theorem ok_X1_step (V : EV) {h : HA} {t : Nat} {l1 : Int32} {l2 : Int32} {r : Int32} {hR : HA} (H : X1_step h t l1 l2 = some (r, hR)) : MG V M_X1_step [.ref t, .int l1, .int l2] h (some (.int r)) hR := by
  unfold X1_step at H
  obtain ⟨_, H⟩ := oc H
  refine MG.of (lv0 := [(0, .ref t), (1, .int l1), (2, .int l2)]) pn_X1 rfl (Nat.le_of_ble_eq_true rfl) ?_
  refine WP.aload_n d_X1_step_0 0 rfl ?_
  obtain ⟨x1, ex1, H⟩ := ob H
  refine WP.fR d_X1_step_1 gf_X1_28 (fun _ => rfl) ex1 ?_
  refine WP.aload_n d_X1_step_4 0 rfl ?_
  obtain ⟨x2, ex2, H⟩ := ob H
  refine WP.fR d_X1_step_5 gf_X1_9 (fun _ => rfl) ex2 ?_
  refine WP.iload_n d_X1_step_8 1 rfl ?_
  obtain ⟨x3, ex3, H⟩ := ob H
  refine WP.iald d_X1_step_9 ex3 ?_
  refine WP.iload_n d_X1_step_10 2 rfl ?_
  obtain ⟨x5, e4, H⟩ := ob H
  refine WP.cV (c := 1) (As := [.int x3, .int l2]) (st := []) (st9 := [.int x5]) (cl9 := 0) (sl9 := 0) d_X1_step_11 (ok_X0_stepTo V e4) tv_X0_stepTo ti_X0_stepTo ts_X0_stepTo lk_X1_71 r_X1_step_X0_stepTo kc_X0_stepTo (kd_X0_stepTo e4) rfl rfl (Nat.le_of_ble_eq_true rfl) rfl rfl rfl ?_
  refine WP.istore_n (lv9 := [(3, .int x5), (0, .ref t), (1, .int l1), (2, .int l2)]) d_X1_step_14 (Nat.le_of_ble_eq_true rfl) rfl ?_
  refine WP.iload_n d_X1_step_15 0 rfl ?_
  refine WP.iconst d_X1_step_16 ki_m1 ?_
  rcases oj H with ⟨hc, H⟩ | ⟨hc, H⟩
  · refine WP.icmp_ne_t d_X1_step_17 hc ?_
    refine WP.iconst d_X1_step_20 ki_0 ?_
    cases H
    exact WP.ireturn d_X1_step_21 rfl rfl (Nat.le_of_ble_eq_true rfl) (Nat.le_of_ble_eq_true rfl)
  · refine WP.icmp_ne_f d_X1_step_17 hc ?_
    refine WP.aload_n d_X1_step_22 1 rfl ?_
    obtain ⟨x6, ex6, H⟩ := ob H
    refine WP.fR d_X1_step_23 gf_X1_9 (fun _ => rfl) ex6 ?_
    refine WP.iload_n d_X1_step_26 2 rfl ?_
    refine WP.iload_n d_X1_step_27 0 rfl ?_
    obtain ⟨h7, eh7, H⟩ := ob H
    refine WP.ias d_X1_step_28 eh7 ?_
    refine WP.aload_n d_X1_step_29 1 rfl ?_
    obtain ⟨x8, ex8, H⟩ := ob H
    refine WP.fR d_X1_step_30 gf_X1_15 (fun _ => rfl) ex8 ?_
    refine WP.iload_n d_X1_step_33 2 rfl ?_
    obtain ⟨x9, ex9, H⟩ := ob H
    refine WP.iald d_X1_step_34 ex9 ?_
    refine WP.iconst d_X1_step_35 ki_m1 ?_
    rcases oj H with ⟨hc, H⟩ | ⟨hc, H⟩
    · refine WP.icmp_eq_t d_X1_step_36 hc ?_
      refine WP.iconst d_X1_step_82 ki_1 ?_
      cases H
      exact WP.ireturn d_X1_step_83 rfl rfl (Nat.le_of_ble_eq_true rfl) (Nat.le_of_ble_eq_true rfl)
    · refine WP.icmp_eq_f d_X1_step_36 hc ?_
      refine WP.aload_n d_X1_step_39 1 rfl ?_
      obtain ⟨x10, ex10, H⟩ := ob H
      refine WP.fR d_X1_step_40 gf_X1_28 (fun _ => rfl) ex10 ?_
      refine WP.aload_n d_X1_step_43 1 rfl ?_
      obtain ⟨x11, ex11, H⟩ := ob H
      refine WP.fR d_X1_step_44 gf_X1_15 (fun _ => rfl) ex11 ?_
      refine WP.iload_n d_X1_step_47 2 rfl ?_
      obtain ⟨x12, ex12, H⟩ := ob H
      refine WP.iald d_X1_step_48 ex12 ?_
      refine WP.iload_n d_X1_step_49 3 rfl ?_
      refine WP.iconst d_X1_step_50 ki_2 ?_
      refine WP.iadd d_X1_step_51 ?_
      refine WP.iconst d_X1_step_52 ki_3 ?_
      refine WP.iand d_X1_step_53 ?_
      obtain ⟨x14, e13, H⟩ := ob H
      refine WP.cV (c := 1) (As := [.int x12, .int ((l2 + 2) &&& 3)]) (st := []) (st9 := [.int x14]) (cl9 := 0) (sl9 := 0) d_X1_step_54 (ok_X0_stepTo V e13) tv_X0_stepTo ti_X0_stepTo ts_X0_stepTo lk_X1_71 r_X1_step_X0_stepTo kc_X0_stepTo (kd_X0_stepTo e13) rfl rfl (Nat.le_of_ble_eq_true rfl) rfl rfl rfl ?_
      refine WP.istore (lv9 := [(4, .int x14), (3, .int x5), (0, .ref t), (1, .int l1), (2, .int l2)]) d_X1_step_57 (Nat.le_of_ble_eq_true rfl) rfl ?_
      refine WP.aload_n d_X1_step_59 2 rfl ?_
      obtain ⟨x15, ex15, H⟩ := ob H
      refine WP.fR d_X1_step_60 gf_X1_15 (fun _ => rfl) ex15 ?_
      refine WP.iload_n d_X1_step_63 3 rfl ?_
      refine WP.iload d_X1_step_64 0 rfl ?_
      refine WP.iconst d_X1_step_66 ki_m1 ?_
      rcases oj H with ⟨hc, H⟩ | ⟨hc, H⟩
      · refine WP.icmp_ne_t d_X1_step_67 hc ?_
        refine WP.aload_n d_X1_step_70 2 rfl ?_
        obtain ⟨x16, ex16, H⟩ := ob H
        refine WP.fR d_X1_step_71 gf_X1_15 (fun _ => rfl) ex16 ?_
        refine WP.iload_n d_X1_step_74 3 rfl ?_
        obtain ⟨x17, ex17, H⟩ := ob H
        refine WP.iald d_X1_step_75 ex17 ?_
        refine WP.goto d_X1_step_76 ?_
        obtain ⟨h18, eh18, H⟩ := ob H
        refine WP.ias d_X1_step_81 eh18 ?_
        refine WP.iconst d_X1_step_82 ki_1 ?_
        cases H
        exact WP.ireturn d_X1_step_83 rfl rfl (Nat.le_of_ble_eq_true rfl) (Nat.le_of_ble_eq_true rfl)
      · refine WP.icmp_ne_f d_X1_step_67 hc ?_
        refine WP.iload d_X1_step_79 0 rfl ?_
        obtain ⟨h19, eh19, H⟩ := ob H
        refine WP.ias d_X1_step_81 eh19 ?_
        refine WP.iconst d_X1_step_82 ki_1 ?_
        cases H
        exact WP.ireturn d_X1_step_83 rfl rfl (Nat.le_of_ble_eq_true rfl) (Nat.le_of_ble_eq_true rfl)

set_option maxRecDepth 20000 in
set_option maxHeartbeats 4000000 in
theorem ok_X1_canBe (V : EV) {h : HA} {t : Nat} {l1 : Int32} {r : Int32} {hR : HA} (H : X1_canBe h t l1 = some (r, hR)) : MG V M_X1_canBe [.ref t, .int l1] h (some (.int r)) hR := by
  unfold X1_canBe at H
  obtain ⟨_, H⟩ := oc H
  refine MG.of (lv0 := [(0, .ref t), (1, .int l1)]) pn_X1 rfl (Nat.le_of_ble_eq_true rfl) ?_
  refine WP.aload_n d_X1_canBe_0 0 rfl ?_
  obtain ⟨x1, ex1, H⟩ := ob H
  refine WP.fR d_X1_canBe_1 gf_X1_32 (fun _ => rfl) ex1 ?_
  refine WP.iload_n d_X1_canBe_4 1 rfl ?_
  refine WP.iconst d_X1_canBe_5 ki_0 ?_
  obtain ⟨x3, e2, H⟩ := ob H
  refine WP.cV (c := 3) (As := [.int l1, .int 0]) (st := []) (st9 := [.int x3]) (cl9 := 0) (sl9 := 0) d_X1_canBe_6 (ok_X2_at V e2) tv_X2_at ti_X2_at ts_X2_at lk_X1_60 r_X1_canBe_X2_at kc_X2_at (kd_X2_at e2) rfl rfl (Nat.le_of_ble_eq_true rfl) rfl rfl rfl ?_
  refine WP.istore_n (lv9 := [(2, .int x3), (0, .ref t), (1, .int l1)]) d_X1_canBe_9 (Nat.le_of_ble_eq_true rfl) rfl ?_
  refine WP.aload_n d_X1_canBe_10 1 rfl ?_
  obtain ⟨x4, ex4, H⟩ := ob H
  refine WP.fR d_X1_canBe_11 gf_X1_32 (fun _ => rfl) ex4 ?_
  refine WP.iload_n d_X1_canBe_14 2 rfl ?_
  refine WP.iconst d_X1_canBe_15 ki_1 ?_
  obtain ⟨x6, e5, H⟩ := ob H
  refine WP.cV (c := 3) (As := [.int l1, .int 1]) (st := []) (st9 := [.int x6]) (cl9 := 0) (sl9 := 0) d_X1_canBe_16 (ok_X2_at V e5) tv_X2_at ti_X2_at ts_X2_at lk_X1_60 r_X1_canBe_X2_at kc_X2_at (kd_X2_at e5) rfl rfl (Nat.le_of_ble_eq_true rfl) rfl rfl rfl ?_
  refine WP.istore_n (lv9 := [(3, .int x6), (2, .int x3), (0, .ref t), (1, .int l1)]) d_X1_canBe_19 (Nat.le_of_ble_eq_true rfl) rfl ?_
  refine WP.iload_n d_X1_canBe_20 1 rfl ?_
  obtain ⟨s31, hs7, H⟩ := ob H
  rcases s31 with r30 | _
  · dsimp only at H
    rcases oj hs7 with ⟨hc, hs7⟩ | ⟨hc, hs7⟩
    · refine WP.if_eq_t d_X1_canBe_21 hc ?_
      cases hs7
    · refine WP.if_eq_f d_X1_canBe_21 hc ?_
      refine WP.iload_n d_X1_canBe_24 1 rfl ?_
      refine WP.iconst d_X1_canBe_25 ki_1 ?_
      rcases oj hs7 with ⟨hc, hs7⟩ | ⟨hc, hs7⟩
      · refine WP.icmp_eq_t d_X1_canBe_26 hc ?_
        cases hs7
      · refine WP.icmp_eq_f d_X1_canBe_26 hc ?_
        refine WP.iconst d_X1_canBe_29 ki_1 ?_
        cases hs7
        cases H
        exact WP.ireturn d_X1_canBe_30 rfl rfl (Nat.le_of_ble_eq_true rfl) (Nat.le_of_ble_eq_true rfl)
  · dsimp only at H
    have J8 : WP V M_X1_canBe 31 [(0, .ref t), (1, .int l1), (2, .int x3), (3, .int x6)] [] h 0 0 (some (.int r)) hR := by
      refine WP.aload_n d_X1_canBe_31 0 rfl ?_
      obtain ⟨x9, ex9, H⟩ := ob H
      refine WP.fR d_X1_canBe_32 gf_X1_28 (fun _ => rfl) ex9 ?_
      refine WP.iload_n d_X1_canBe_35 3 rfl ?_
      obtain ⟨x11, e10, H⟩ := ob H
      refine WP.cV (c := 1) (As := [.int x6]) (st := []) (st9 := [.int x11]) (cl9 := 0) (sl9 := 0) d_X1_canBe_36 (ok_X0_hasPleader V e10) tv_X0_hasPleader ti_X0_hasPleader ts_X0_hasPleader lk_X1_64 r_X1_canBe_X0_hasPleader kc_X0_hasPleader (kd_X0_hasPleader e10) rfl rfl (Nat.le_of_ble_eq_true rfl) rfl rfl rfl ?_
      rcases oj H with ⟨hc, H⟩ | ⟨hc, H⟩
      · refine WP.if_ne_t d_X1_canBe_39 hc ?_
        refine WP.iconst d_X1_canBe_42 ki_0 ?_
        cases H
        exact WP.ireturn d_X1_canBe_43 rfl rfl (Nat.le_of_ble_eq_true rfl) (Nat.le_of_ble_eq_true rfl)
      · refine WP.if_ne_f d_X1_canBe_39 hc ?_
        refine WP.iload_n d_X1_canBe_44 2 rfl ?_
        rcases oj H with ⟨hc, H⟩ | ⟨hc, H⟩
        · refine WP.if_ne_t d_X1_canBe_45 hc ?_
          refine WP.aload_n d_X1_canBe_48 0 rfl ?_
          refine WP.iload_n d_X1_canBe_49 3 rfl ?_
          refine WP.aload_n d_X1_canBe_50 0 rfl ?_
          obtain ⟨x12, ex12, H⟩ := ob H
          refine WP.fR d_X1_canBe_51 gf_X1_32 (fun _ => rfl) ex12 ?_
          refine WP.iload_n d_X1_canBe_54 1 rfl ?_
          refine WP.iconst d_X1_canBe_55 ki_2 ?_
          obtain ⟨x14, e13, H⟩ := ob H
          refine WP.cV (c := 3) (As := [.int l1, .int 2]) (st := [.int x6, .ref t]) (st9 := [.int x14, .int x6, .ref t]) (cl9 := 0) (sl9 := 0) d_X1_canBe_56 (ok_X2_at V e13) tv_X2_at ti_X2_at ts_X2_at lk_X1_60 r_X1_canBe_X2_at kc_X2_at (kd_X2_at e13) rfl rfl (Nat.le_of_ble_eq_true rfl) rfl rfl rfl ?_
          obtain ⟨⟨x17, h16⟩, e15, H⟩ := ob H
          refine WP.cV (c := 2) (As := [.int x6, .int x14]) (st := []) (st9 := [.int x17]) (cl9 := 0) (sl9 := 0) d_X1_canBe_59 (ok_X1_step V e15) tv_X1_step ti_X1_step ts_X1_step lk_X1_67 r_X1_canBe_X1_step kc_X1_step (kd_X1_step e15) rfl rfl (Nat.le_of_ble_eq_true rfl) rfl rfl rfl ?_
          obtain ⟨x18, ex18, H⟩ := ob H
          obtain ⟨rfl, hnx18⟩ := bz_sp ex18
          cases H
          exact WP.ireturn d_X1_canBe_62 rfl hnx18 (Nat.le_of_ble_eq_true rfl) (Nat.le_of_ble_eq_true rfl)
        · refine WP.if_ne_f d_X1_canBe_45 hc ?_
          refine WP.aload_n d_X1_canBe_63 0 rfl ?_
          obtain ⟨x19, ex19, H⟩ := ob H
          refine WP.fR d_X1_canBe_64 gf_X1_21 (fun _ => rfl) ex19 ?_
          refine WP.iload_n d_X1_canBe_67 1 rfl ?_
          refine WP.lconst d_X1_canBe_68 kl_1 ?_
          refine WP.aload_n d_X1_canBe_69 0 rfl ?_
          obtain ⟨x20, ex20, H⟩ := ob H
          refine WP.fR d_X1_canBe_70 gf_X1_9 (fun _ => rfl) ex20 ?_
          refine WP.iload_n d_X1_canBe_73 3 rfl ?_
          obtain ⟨x21, ex21, H⟩ := ob H
          refine WP.iald d_X1_canBe_74 ex21 ?_
          refine WP.lshl d_X1_canBe_75 ?_
          obtain ⟨h22, eh22, H⟩ := ob H
          refine WP.las d_X1_canBe_76 eh22 ?_
          refine WP.aload_n d_X1_canBe_77 0 rfl ?_
          obtain ⟨x23, ex23, H⟩ := ob H
          refine WP.fR d_X1_canBe_78 gf_X1_15 (fun _ => rfl) ex23 ?_
          refine WP.iload_n d_X1_canBe_81 3 rfl ?_
          obtain ⟨x24, ex24, H⟩ := ob H
          refine WP.iald d_X1_canBe_82 ex24 ?_
          refine WP.iconst d_X1_canBe_83 ki_m1 ?_
          rcases oj H with ⟨hc, H⟩ | ⟨hc, H⟩
          · refine WP.icmp_eq_t d_X1_canBe_84 hc ?_
            refine WP.iconst d_X1_canBe_104 ki_1 ?_
            cases H
            exact WP.ireturn d_X1_canBe_105 rfl rfl (Nat.le_of_ble_eq_true rfl) (Nat.le_of_ble_eq_true rfl)
          · refine WP.icmp_eq_f d_X1_canBe_84 hc ?_
            refine WP.aload_n d_X1_canBe_87 0 rfl ?_
            obtain ⟨x25, ex25, H⟩ := ob H
            refine WP.fR d_X1_canBe_88 gf_X1_21 (fun _ => rfl) ex25 ?_
            refine WP.iload_n d_X1_canBe_91 1 rfl ?_
            refine WP.dup2 d_X1_canBe_92 rfl rfl ?_
            obtain ⟨x26, ex26, H⟩ := ob H
            refine WP.lald d_X1_canBe_93 ex26 ?_
            refine WP.lconst d_X1_canBe_94 kl_1 ?_
            refine WP.aload_n d_X1_canBe_95 0 rfl ?_
            obtain ⟨x27, ex27, H⟩ := ob H
            refine WP.fR d_X1_canBe_96 gf_X1_15 (fun _ => rfl) ex27 ?_
            refine WP.iload_n d_X1_canBe_99 3 rfl ?_
            obtain ⟨x28, ex28, H⟩ := ob H
            refine WP.iald d_X1_canBe_100 ex28 ?_
            refine WP.lshl d_X1_canBe_101 ?_
            refine WP.lor d_X1_canBe_102 ?_
            obtain ⟨h29, eh29, H⟩ := ob H
            refine WP.las d_X1_canBe_103 eh29 ?_
            refine WP.iconst d_X1_canBe_104 ki_1 ?_
            cases H
            exact WP.ireturn d_X1_canBe_105 rfl rfl (Nat.le_of_ble_eq_true rfl) (Nat.le_of_ble_eq_true rfl)
    rcases oj hs7 with ⟨hc, hs7⟩ | ⟨hc, hs7⟩
    · refine WP.if_eq_t d_X1_canBe_21 hc ?_
      cases hs7
      exact WP.sub [2, 3, 1, 0] rfl J8
    · refine WP.if_eq_f d_X1_canBe_21 hc ?_
      refine WP.iload_n d_X1_canBe_24 1 rfl ?_
      refine WP.iconst d_X1_canBe_25 ki_1 ?_
      rcases oj hs7 with ⟨hc, hs7⟩ | ⟨hc, hs7⟩
      · refine WP.icmp_eq_t d_X1_canBe_26 hc ?_
        cases hs7
        exact WP.sub [2, 3, 1, 0] rfl J8
      · refine WP.icmp_eq_f d_X1_canBe_26 hc ?_
        refine WP.iconst d_X1_canBe_29 ki_1 ?_
        cases hs7

set_option maxRecDepth 20000 in
set_option maxHeartbeats 4000000 in
theorem okl_X1_play_L13 (V : EV) {vF : Option Value} {hF : HA} {t : Nat} {l2 : Nat} {l3 : Int32} (n : Nat) : ∀ {h : HA} {l4 : Int32} {hR : HA}, (H : X1_play_L13 t n h l4 = some hR) → (K : WP V M_X1_play 65 [(0, .ref t), (2, .ref l2), (3, .int l3)] [] hR 0 0 vF hF) → WP V M_X1_play 13 [(0, .ref t), (2, .ref l2), (3, .int l3), (4, .int l4)] [] h 0 0 vF hF := by
  induction n with
  | zero =>
    intro h l4 hR H K
    rw [X1_play_L13] at H
    cases H
  | succ n ih =>
    intro h l4 hR H K
    rw [X1_play_L13] at H
    refine WP.iload d_X1_play_13 3 rfl ?_
    refine WP.aload_n d_X1_play_15 0 rfl ?_
    obtain ⟨x3, ex3, H⟩ := ob H
    refine WP.fR d_X1_play_16 gf_X1_28 (fun _ => rfl) ex3 ?_
    obtain ⟨x4, ex4, H⟩ := ob H
    refine WP.fI d_X1_play_19 gf_X1_36 (fun _ => rfl) ex4 ?_
    rcases oj H with ⟨hc, H⟩ | ⟨hc, H⟩
    · refine WP.icmp_ge_t d_X1_play_22 hc ?_
      refine WP.aload_n d_X1_play_25 0 rfl ?_
      obtain ⟨x5, ex5, H⟩ := ob H
      refine WP.fR d_X1_play_26 gf_X1_9 (fun _ => rfl) ex5 ?_
      refine WP.iload d_X1_play_29 3 rfl ?_
      refine WP.aload_n d_X1_play_31 0 rfl ?_
      obtain ⟨x6, ex6, H⟩ := ob H
      refine WP.fR d_X1_play_32 gf_X1_28 (fun _ => rfl) ex6 ?_
      obtain ⟨x7, ex7, H⟩ := ob H
      refine WP.fR d_X1_play_35 gf_X1_42 (fun _ => rfl) ex7 ?_
      refine WP.iload d_X1_play_38 3 rfl ?_
      obtain ⟨x8, ex8, H⟩ := ob H
      refine WP.iald d_X1_play_40 ex8 ?_
      obtain ⟨h9, eh9, H⟩ := ob H
      refine WP.ias d_X1_play_41 eh9 ?_
      refine WP.aload_n d_X1_play_42 0 rfl ?_
      obtain ⟨x10, ex10, H⟩ := ob H
      refine WP.fR d_X1_play_43 gf_X1_15 (fun _ => rfl) ex10 ?_
      refine WP.iload d_X1_play_46 3 rfl ?_
      refine WP.aload_n d_X1_play_48 0 rfl ?_
      obtain ⟨x11, ex11, H⟩ := ob H
      refine WP.fR d_X1_play_49 gf_X1_28 (fun _ => rfl) ex11 ?_
      obtain ⟨x12, ex12, H⟩ := ob H
      refine WP.fR d_X1_play_52 gf_X1_45 (fun _ => rfl) ex12 ?_
      refine WP.iload d_X1_play_55 3 rfl ?_
      obtain ⟨x13, ex13, H⟩ := ob H
      refine WP.iald d_X1_play_57 ex13 ?_
      obtain ⟨h14, eh14, H⟩ := ob H
      refine WP.ias d_X1_play_58 eh14 ?_
      refine WP.iinc (lv9 := [(4, .int (l4 + 1)), (0, .ref t), (2, .ref l2), (3, .int l3)]) d_X1_play_59 3 rfl ki_1 (Nat.le_of_ble_eq_true rfl) rfl ?_
      refine WP.goto d_X1_play_62 ?_
      refine WP.sub [1, 2, 3, 0] (lv' := [(0, .ref t), (2, .ref l2), (3, .int l3), (4, .int (l4 + 1))]) rfl ?_
      exact ih H K
    · refine WP.icmp_ge_f d_X1_play_22 hc ?_
      cases H
      exact WP.sub [0, 1, 2] rfl K

set_option maxRecDepth 20000 in
set_option maxHeartbeats 4000000 in
theorem okl_X1_play_L73 (V : EV) {vF : Option Value} {hF : HA} {t : Nat} {l2 : Nat} {l3 : Int32} (n : Nat) : ∀ {h : HA} {l4 : Int32} {hR : HA}, (H : X1_play_L73 t l2 l3 n h l4 = some hR) → (K : WP V M_X1_play 139 [] [] hR 0 0 vF hF) → WP V M_X1_play 73 [(0, .ref t), (2, .ref l2), (3, .int l3), (4, .int l4)] [] h 0 0 vF hF := by
  induction n with
  | zero =>
    intro h l4 hR H K
    rw [X1_play_L73] at H
    cases H
  | succ n ih =>
    intro h l4 hR H K
    rw [X1_play_L73] at H
    refine WP.iload d_X1_play_73 3 rfl ?_
    refine WP.aload_n d_X1_play_75 1 rfl ?_
    obtain ⟨x18, ex18, H⟩ := ob H
    refine WP.fI d_X1_play_76 gf_X1_51 (fun _ => rfl) ex18 ?_
    rcases oj H with ⟨hc, H⟩ | ⟨hc, H⟩
    · refine WP.icmp_ge_t d_X1_play_79 hc ?_
      refine WP.iload d_X1_play_82 3 rfl ?_
      refine WP.iload_n d_X1_play_84 2 rfl ?_
      rcases oj H with ⟨hc, H⟩ | ⟨hc, H⟩
      · refine WP.icmp_ge_t d_X1_play_85 hc ?_
        refine WP.iload d_X1_play_88 3 rfl ?_
        refine WP.bipush d_X1_play_90 kb_30 ?_
        rcases oj H with ⟨hc, H⟩ | ⟨hc, H⟩
        · refine WP.icmp_ge_t d_X1_play_92 hc ?_
          refine WP.aload_n d_X1_play_95 0 rfl ?_
          obtain ⟨x19, ex19, H⟩ := ob H
          refine WP.fR d_X1_play_96 gf_X1_21 (fun _ => rfl) ex19 ?_
          refine WP.iload d_X1_play_99 3 rfl ?_
          refine WP.lconst d_X1_play_101 kl_0 ?_
          obtain ⟨h20, eh20, H⟩ := ob H
          refine WP.las d_X1_play_102 eh20 ?_
          refine WP.aload_n d_X1_play_103 0 rfl ?_
          obtain ⟨x21, ex21, H⟩ := ob H
          refine WP.fR d_X1_play_104 gf_X1_25 (fun _ => rfl) ex21 ?_
          refine WP.iload d_X1_play_107 3 rfl ?_
          refine WP.iconst d_X1_play_109 ki_0 ?_
          obtain ⟨h22, eh22, H⟩ := ob H
          refine WP.ias d_X1_play_110 eh22 ?_
          refine WP.aload_n d_X1_play_111 0 rfl ?_
          refine WP.iload d_X1_play_112 3 rfl ?_
          obtain ⟨⟨x25, h24⟩, e23, H⟩ := ob H
          refine WP.cV (c := 2) (As := [.int l4]) (st := []) (st9 := [.int x25]) (cl9 := 0) (sl9 := 0) d_X1_play_114 (ok_X1_canBe V e23) tv_X1_canBe ti_X1_canBe ts_X1_canBe lk_X1_56 r_X1_play_X1_canBe kc_X1_canBe (kd_X1_canBe e23) rfl rfl (Nat.le_of_ble_eq_true rfl) rfl rfl rfl ?_
          rcases oj H with ⟨hc, H⟩ | ⟨hc, H⟩
          · refine WP.if_ne_t d_X1_play_117 hc ?_
            refine WP.goto d_X1_play_120 ?_
            cases H
            exact WP.sub [] rfl K
          · refine WP.if_ne_f d_X1_play_117 hc ?_
            refine WP.aload_n d_X1_play_123 0 rfl ?_
            refine WP.dup d_X1_play_124 rfl ?_
            obtain ⟨x26, ex26, H⟩ := ob H
            refine WP.fI d_X1_play_125 gf_X1_48 (fun _ => rfl) ex26 ?_
            refine WP.iconst d_X1_play_128 ki_1 ?_
            refine WP.iadd d_X1_play_129 ?_
            obtain ⟨h27, eh27, H⟩ := ob H
            refine WP.uI d_X1_play_130 gf_X1_48 rfl (Or.inl rfl) rfl rfl eh27 ?_
            refine WP.iinc (lv9 := [(4, .int (l4 + 1)), (0, .ref t), (2, .ref l2), (3, .int l3)]) d_X1_play_133 3 rfl ki_1 (Nat.le_of_ble_eq_true rfl) rfl ?_
            refine WP.goto d_X1_play_136 ?_
            refine WP.sub [1, 2, 3, 0] (lv' := [(0, .ref t), (2, .ref l2), (3, .int l3), (4, .int (l4 + 1))]) rfl ?_
            exact ih H K
        · refine WP.icmp_ge_f d_X1_play_92 hc ?_
          cases H
          exact WP.sub [] rfl K
      · refine WP.icmp_ge_f d_X1_play_85 hc ?_
        cases H
        exact WP.sub [] rfl K
    · refine WP.icmp_ge_f d_X1_play_79 hc ?_
      cases H
      exact WP.sub [] rfl K

set_option maxRecDepth 20000 in
set_option maxHeartbeats 4000000 in
theorem ok_X1_play (V : EV) {h : HA} {t : Nat} {l1 : Nat} {l2 : Nat} {l3 : Int32} {hR : HA} (H : X1_play h t l1 l2 l3 = some hR) : MG V M_X1_play [.ref t, .ref l1, .ref l2, .int l3] h none hR := by
  unfold X1_play at H
  obtain ⟨_, H⟩ := oc H
  refine MG.of (lv0 := [(0, .ref t), (1, .ref l1), (2, .ref l2), (3, .int l3)]) pn_X1 rfl (Nat.le_of_ble_eq_true rfl) ?_
  refine WP.aload_n d_X1_play_0 0 rfl ?_
  refine WP.aload_n d_X1_play_1 1 rfl ?_
  obtain ⟨h1, eh1, H⟩ := ob H
  refine WP.uR d_X1_play_2 gf_X1_28 rfl (x := (some l1)) (fun _ => rfl) rfl rfl eh1 ?_
  refine WP.aload_n d_X1_play_5 0 rfl ?_
  refine WP.aload_n d_X1_play_6 2 rfl ?_
  obtain ⟨h2, eh2, H⟩ := ob H
  refine WP.uR d_X1_play_7 gf_X1_32 rfl (x := (some l2)) (fun _ => rfl) rfl rfl eh2 ?_
  refine WP.iconst d_X1_play_10 ki_0 ?_
  refine WP.istore (lv9 := [(4, .int 0), (0, .ref t), (1, .ref l1), (2, .ref l2), (3, .int l3)]) d_X1_play_11 (Nat.le_of_ble_eq_true rfl) rfl ?_
  obtain ⟨h16, e15, H⟩ := ob H
  refine WP.sub [1, 3, 4, 0] (lv' := [(0, .ref t), (2, .ref l2), (3, .int l3), (4, .int 0)]) rfl ?_
  refine okl_X1_play_L13 V _ e15 ?_
  refine WP.aload_n d_X1_play_65 0 rfl ?_
  refine WP.iconst d_X1_play_66 ki_0 ?_
  obtain ⟨h17, eh17, H⟩ := ob H
  refine WP.uI d_X1_play_67 gf_X1_48 rfl (Or.inl rfl) rfl rfl eh17 ?_
  refine WP.iconst d_X1_play_70 ki_0 ?_
  refine WP.istore (lv9 := [(4, .int 0), (0, .ref t), (2, .ref l2), (3, .int l3)]) d_X1_play_71 (Nat.le_of_ble_eq_true rfl) rfl ?_
  obtain ⟨h29, e28, H⟩ := ob H
  refine WP.sub [1, 2, 3, 0] (lv' := [(0, .ref t), (2, .ref l2), (3, .int l3), (4, .int 0)]) rfl ?_
  refine okl_X1_play_L73 V _ e28 ?_
  cases H
  exact WP.return_ d_X1_play_139 rfl (Nat.le_of_ble_eq_true rfl) (Nat.le_of_ble_eq_true rfl)

set_option maxRecDepth 20000 in
set_option maxHeartbeats 4000000 in
theorem ok_X1_isSaid (V : EV) {h : HA} {t : Nat} {l1 : Int32} {r : Int32} (H : X1_isSaid h t l1 = some r) : MG V M_X1_isSaid [.ref t, .int l1] h (some (.int r)) h := by
  unfold X1_isSaid at H
  obtain ⟨_, H⟩ := oc H
  refine MG.of (lv0 := [(0, .ref t), (1, .int l1)]) pn_X1 rfl (Nat.le_of_ble_eq_true rfl) ?_
  refine WP.aload_n d_X1_isSaid_0 0 rfl ?_
  obtain ⟨x1, ex1, H⟩ := ob H
  refine WP.fR d_X1_isSaid_1 gf_X1_32 (fun _ => rfl) ex1 ?_
  refine WP.iload_n d_X1_isSaid_4 1 rfl ?_
  refine WP.iconst d_X1_isSaid_5 ki_0 ?_
  obtain ⟨x3, e2, H⟩ := ob H
  refine WP.cV (c := 3) (As := [.int l1, .int 0]) (st := []) (st9 := [.int x3]) (cl9 := 0) (sl9 := 0) d_X1_isSaid_6 (ok_X2_at V e2) tv_X2_at ti_X2_at ts_X2_at lk_X1_60 r_X1_isSaid_X2_at kc_X2_at (kd_X2_at e2) rfl rfl (Nat.le_of_ble_eq_true rfl) rfl rfl rfl ?_
  refine WP.iconst d_X1_isSaid_9 ki_1 ?_
  rcases oj H with ⟨hc, H⟩ | ⟨hc, H⟩
  · refine WP.icmp_ne_t d_X1_isSaid_10 hc ?_
    refine WP.iconst d_X1_isSaid_13 ki_1 ?_
    refine WP.goto d_X1_isSaid_14 ?_
    cases H
    exact WP.ireturn d_X1_isSaid_18 rfl rfl (Nat.le_of_ble_eq_true rfl) (Nat.le_of_ble_eq_true rfl)
  · refine WP.icmp_ne_f d_X1_isSaid_10 hc ?_
    refine WP.iconst d_X1_isSaid_17 ki_0 ?_
    cases H
    exact WP.ireturn d_X1_isSaid_18 rfl rfl (Nat.le_of_ble_eq_true rfl) (Nat.le_of_ble_eq_true rfl)

set_option maxRecDepth 20000 in
set_option maxHeartbeats 4000000 in
theorem ok_X1_isHeard (V : EV) {h : HA} {t : Nat} {l1 : Int32} {l2 : Int32} {l3 : Int32} {l4 : Int32} {r : Int32} (H : X1_isHeard h t l1 l2 l3 l4 = some r) : MG V M_X1_isHeard [.ref t, .int l1, .int l2, .int l3, .int l4] h (some (.int r)) h := by
  unfold X1_isHeard at H
  obtain ⟨_, H⟩ := oc H
  refine MG.of (lv0 := [(0, .ref t), (1, .int l1), (2, .int l2), (3, .int l3), (4, .int l4)]) pn_X1 rfl (Nat.le_of_ble_eq_true rfl) ?_
  refine WP.iload_n d_X1_isHeard_0 3 rfl ?_
  refine WP.aload_n d_X1_isHeard_1 0 rfl ?_
  obtain ⟨x1, ex1, H⟩ := ob H
  refine WP.fR d_X1_isHeard_2 gf_X1_32 (fun _ => rfl) ex1 ?_
  refine WP.iload_n d_X1_isHeard_5 1 rfl ?_
  refine WP.iconst d_X1_isHeard_6 ki_3 ?_
  obtain ⟨x3, e2, H⟩ := ob H
  refine WP.cV (c := 3) (As := [.int l1, .int 3]) (st := [.int l3]) (st9 := [.int x3, .int l3]) (cl9 := 0) (sl9 := 0) d_X1_isHeard_7 (ok_X2_at V e2) tv_X2_at ti_X2_at ts_X2_at lk_X1_60 r_X1_isHeard_X2_at kc_X2_at (kd_X2_at e2) rfl rfl (Nat.le_of_ble_eq_true rfl) rfl rfl rfl ?_
  refine WP.iadd d_X1_isHeard_10 ?_
  refine WP.istore (lv9 := [(5, .int (l3 + x3)), (0, .ref t), (1, .int l1), (2, .int l2), (3, .int l3), (4, .int l4)]) d_X1_isHeard_11 (Nat.le_of_ble_eq_true rfl) rfl ?_
  refine WP.aload_n d_X1_isHeard_13 1 rfl ?_
  obtain ⟨x4, ex4, H⟩ := ob H
  refine WP.fR d_X1_isHeard_14 gf_X1_28 (fun _ => rfl) ex4 ?_
  refine WP.iload_n d_X1_isHeard_17 3 rfl ?_
  refine WP.iload d_X1_isHeard_18 5 rfl ?_
  refine WP.aload_n d_X1_isHeard_20 1 rfl ?_
  obtain ⟨x5, ex5, H⟩ := ob H
  refine WP.fR d_X1_isHeard_21 gf_X1_25 (fun _ => rfl) ex5 ?_
  refine WP.iload_n d_X1_isHeard_24 2 rfl ?_
  obtain ⟨x6, ex6, H⟩ := ob H
  refine WP.iald d_X1_isHeard_25 ex6 ?_
  refine WP.iconst d_X1_isHeard_26 ki_m1 ?_
  refine WP.ixor d_X1_isHeard_27 ?_
  refine WP.iand d_X1_isHeard_28 ?_
  refine WP.iload d_X1_isHeard_29 0 rfl ?_
  obtain ⟨x8, e7, H⟩ := ob H
  refine WP.cV (c := 1) (As := [.int l2, .int (l4 &&& (x6 ^^^ (-1))), .int (l3 + x3)]) (st := []) (st9 := [.long x8]) (cl9 := 0) (sl9 := 0) d_X1_isHeard_31 (ok_X0_audibleFrom V e7) tv_X0_audibleFrom ti_X0_audibleFrom ts_X0_audibleFrom lk_X1_74 r_X1_isHeard_X0_audibleFrom kc_X0_audibleFrom (kd_X0_audibleFrom e7) rfl rfl (Nat.le_of_ble_eq_true rfl) rfl rfl rfl ?_
  refine WP.aload_n d_X1_isHeard_34 1 rfl ?_
  obtain ⟨x9, ex9, H⟩ := ob H
  refine WP.fR d_X1_isHeard_35 gf_X1_21 (fun _ => rfl) ex9 ?_
  refine WP.iload_n d_X1_isHeard_38 2 rfl ?_
  obtain ⟨x10, ex10, H⟩ := ob H
  refine WP.lald d_X1_isHeard_39 ex10 ?_
  refine WP.land d_X1_isHeard_40 ?_
  refine WP.lconst d_X1_isHeard_41 kl_0 ?_
  rcases oj H with ⟨hc, H⟩ | ⟨hc, H⟩
  · refine WP.lcmp_eq_t d_X1_isHeard_42 d_X1_isHeard_43 hc ?_
    refine WP.iconst d_X1_isHeard_50 ki_0 ?_
    cases H
    exact WP.ireturn d_X1_isHeard_51 rfl rfl (Nat.le_of_ble_eq_true rfl) (Nat.le_of_ble_eq_true rfl)
  · refine WP.lcmp_eq_f d_X1_isHeard_42 d_X1_isHeard_43 hc ?_
    refine WP.iconst d_X1_isHeard_46 ki_1 ?_
    refine WP.goto d_X1_isHeard_47 ?_
    cases H
    exact WP.ireturn d_X1_isHeard_51 rfl rfl (Nat.le_of_ble_eq_true rfl) (Nat.le_of_ble_eq_true rfl)

set_option maxRecDepth 20000 in
set_option maxHeartbeats 4000000 in
theorem okl_X1_wordsOn_L6 (V : EV) {vF : Option Value} {hF : HA} {h : HA} {t : Nat} {l1 : Int32} {l2 : Int32} {l3 : Int32} {l4 : Int32} {l5 : Int32} {l6 : Int32} (n : Nat) : ∀ {l7 : Int32} {l8 : Int32} {r7 : Int32}, (H : X1_wordsOn_L6 h t l1 l2 l3 l4 l5 l6 n l7 l8 = some r7) → (K : WP V M_X1_wordsOn 80 [(7, .int r7)] [] h 0 0 vF hF) → WP V M_X1_wordsOn 6 [(0, .ref t), (1, .int l1), (2, .int l2), (3, .int l3), (4, .int l4), (5, .int l5), (6, .int l6), (7, .int l7), (8, .int l8)] [] h 0 0 vF hF := by
  induction n with
  | zero =>
    intro l7 l8 r7 H K
    rw [X1_wordsOn_L6] at H
    cases H
  | succ n ih =>
    intro l7 l8 r7 H K
    rw [X1_wordsOn_L6] at H
    refine WP.iload d_X1_wordsOn_6 8 rfl ?_
    refine WP.iload d_X1_wordsOn_8 6 rfl ?_
    rcases oj H with ⟨hc, H⟩ | ⟨hc, H⟩
    · refine WP.icmp_ge_t d_X1_wordsOn_10 hc ?_
      refine WP.aload_n d_X1_wordsOn_13 0 rfl ?_
      refine WP.iload d_X1_wordsOn_14 8 rfl ?_
      obtain ⟨x2, e1, H⟩ := ob H
      refine WP.cV (c := 2) (As := [.int l8]) (st := []) (st9 := [.int x2]) (cl9 := 0) (sl9 := 0) d_X1_wordsOn_16 (ok_X1_isSaid V e1) tv_X1_isSaid ti_X1_isSaid ts_X1_isSaid lk_X1_78 r_X1_wordsOn_X1_isSaid kc_X1_isSaid (kd_X1_isSaid e1) rfl rfl (Nat.le_of_ble_eq_true rfl) rfl rfl rfl ?_
      rcases oj H with ⟨hc, H⟩ | ⟨hc, H⟩
      · refine WP.if_eq_t d_X1_wordsOn_19 hc ?_
        refine WP.iinc (lv9 := [(8, .int (l8 + 1)), (0, .ref t), (1, .int l1), (2, .int l2), (3, .int l3), (4, .int l4), (5, .int l5), (6, .int l6), (7, .int l7)]) d_X1_wordsOn_74 8 rfl ki_1 (Nat.le_of_ble_eq_true rfl) rfl ?_
        refine WP.goto d_X1_wordsOn_77 ?_
        refine WP.sub [1, 2, 3, 4, 5, 6, 7, 8, 0] (lv' := [(0, .ref t), (1, .int l1), (2, .int l2), (3, .int l3), (4, .int l4), (5, .int l5), (6, .int l6), (7, .int l7), (8, .int (l8 + 1))]) rfl ?_
        exact ih H K
      · refine WP.if_eq_f d_X1_wordsOn_19 hc ?_
        refine WP.aload_n d_X1_wordsOn_22 0 rfl ?_
        obtain ⟨x3, ex3, H⟩ := ob H
        refine WP.fR d_X1_wordsOn_23 gf_X1_28 (fun _ => rfl) ex3 ?_
        refine WP.iload_n d_X1_wordsOn_26 1 rfl ?_
        refine WP.iload d_X1_wordsOn_27 8 rfl ?_
        refine WP.iload d_X1_wordsOn_29 5 rfl ?_
        refine WP.iadd d_X1_wordsOn_31 ?_
        obtain ⟨x5, e4, H⟩ := ob H
        refine WP.cV (c := 1) (As := [.int l1, .int (l8 + l5)]) (st := []) (st9 := [.int x5]) (cl9 := 0) (sl9 := 0) d_X1_wordsOn_32 (ok_X0_faces V e4) tv_X0_faces ti_X0_faces ts_X0_faces lk_X1_81 r_X1_wordsOn_X0_faces kc_X0_faces (kd_X0_faces e4) rfl rfl (Nat.le_of_ble_eq_true rfl) rfl rfl rfl ?_
        refine WP.iload d_X1_wordsOn_35 4 rfl ?_
        refine WP.iadd d_X1_wordsOn_37 ?_
        refine WP.istore (lv9 := [(9, .int (x5 + l4)), (0, .ref t), (1, .int l1), (2, .int l2), (3, .int l3), (4, .int l4), (5, .int l5), (6, .int l6), (7, .int l7), (8, .int l8)]) d_X1_wordsOn_38 (Nat.le_of_ble_eq_true rfl) rfl ?_
        refine WP.aload_n d_X1_wordsOn_40 1 rfl ?_
        refine WP.iload d_X1_wordsOn_41 9 rfl ?_
        refine WP.iload_n d_X1_wordsOn_43 2 rfl ?_
        refine WP.iload_n d_X1_wordsOn_44 3 rfl ?_
        refine WP.iload_n d_X1_wordsOn_45 4 rfl ?_
        refine WP.iload d_X1_wordsOn_46 0 rfl ?_
        obtain ⟨x7, e6, H⟩ := ob H
        refine WP.cS (As := [.int l3, .int (x5 + l4)]) (st := [.int l2, .int l1, .int l8, .ref t]) (st9 := [.int x7, .int l2, .int l1, .int l8, .ref t]) (cl9 := 0) (sl9 := 0) d_X1_wordsOn_48 (ok_X0_turned V (h := h) e6) tv_X0_turned ts_X0_turned lk_X1_84 r_X1_wordsOn_X0_turned rfl rfl (Nat.le_of_ble_eq_true rfl) rfl rfl rfl ?_
        obtain ⟨x9, e8, H⟩ := ob H
        refine WP.cV (c := 2) (As := [.int l8, .int l1, .int l2, .int x7]) (st := []) (st9 := [.int x9]) (cl9 := 0) (sl9 := 0) d_X1_wordsOn_51 (ok_X1_isHeard V e8) tv_X1_isHeard ti_X1_isHeard ts_X1_isHeard lk_X1_87 r_X1_wordsOn_X1_isHeard kc_X1_isHeard (kd_X1_isHeard e8) rfl rfl (Nat.le_of_ble_eq_true rfl) rfl rfl rfl ?_
        rcases oj H with ⟨hc, H⟩ | ⟨hc, H⟩
        · refine WP.if_eq_t d_X1_wordsOn_54 hc ?_
          refine WP.iinc (lv9 := [(8, .int (l8 + 1)), (9, .int (x5 + l4)), (0, .ref t), (1, .int l1), (2, .int l2), (3, .int l3), (4, .int l4), (5, .int l5), (6, .int l6), (7, .int l7)]) d_X1_wordsOn_74 9 rfl ki_1 (Nat.le_of_ble_eq_true rfl) rfl ?_
          refine WP.goto d_X1_wordsOn_77 ?_
          refine WP.sub [2, 3, 4, 5, 6, 7, 8, 9, 0] (lv' := [(0, .ref t), (1, .int l1), (2, .int l2), (3, .int l3), (4, .int l4), (5, .int l5), (6, .int l6), (7, .int l7), (8, .int (l8 + 1))]) rfl ?_
          exact ih H K
        · refine WP.if_eq_f d_X1_wordsOn_54 hc ?_
          refine WP.iload d_X1_wordsOn_57 8 rfl ?_
          refine WP.iconst d_X1_wordsOn_59 ki_1 ?_
          refine WP.aload_n d_X1_wordsOn_60 1 rfl ?_
          obtain ⟨x10, ex10, H⟩ := ob H
          refine WP.fR d_X1_wordsOn_61 gf_X1_32 (fun _ => rfl) ex10 ?_
          refine WP.iload d_X1_wordsOn_64 9 rfl ?_
          refine WP.iconst d_X1_wordsOn_66 ki_2 ?_
          obtain ⟨x12, e11, H⟩ := ob H
          refine WP.cV (c := 3) (As := [.int l8, .int 2]) (st := [.int 1, .int l7]) (st9 := [.int x12, .int 1, .int l7]) (cl9 := 0) (sl9 := 0) d_X1_wordsOn_67 (ok_X2_at V e11) tv_X2_at ti_X2_at ts_X2_at lk_X1_60 r_X1_wordsOn_X2_at kc_X2_at (kd_X2_at e11) rfl rfl (Nat.le_of_ble_eq_true rfl) rfl rfl rfl ?_
          refine WP.ishl d_X1_wordsOn_70 ?_
          refine WP.ior d_X1_wordsOn_71 ?_
          refine WP.istore (lv9 := [(7, .int (l7 ||| (shlI 1 x12))), (9, .int (x5 + l4)), (0, .ref t), (1, .int l1), (2, .int l2), (3, .int l3), (4, .int l4), (5, .int l5), (6, .int l6), (8, .int l8)]) d_X1_wordsOn_72 (Nat.le_of_ble_eq_true rfl) rfl ?_
          refine WP.iinc (lv9 := [(8, .int (l8 + 1)), (7, .int (l7 ||| (shlI 1 x12))), (9, .int (x5 + l4)), (0, .ref t), (1, .int l1), (2, .int l2), (3, .int l3), (4, .int l4), (5, .int l5), (6, .int l6)]) d_X1_wordsOn_74 9 rfl ki_1 (Nat.le_of_ble_eq_true rfl) rfl ?_
          refine WP.goto d_X1_wordsOn_77 ?_
          refine WP.sub [3, 4, 5, 6, 7, 8, 9, 1, 0] (lv' := [(0, .ref t), (1, .int l1), (2, .int l2), (3, .int l3), (4, .int l4), (5, .int l5), (6, .int l6), (7, .int (l7 ||| (shlI 1 x12))), (8, .int (l8 + 1))]) rfl ?_
          exact ih H K
    · refine WP.icmp_ge_f d_X1_wordsOn_10 hc ?_
      cases H
      exact WP.sub [7] rfl K

set_option maxRecDepth 20000 in
set_option maxHeartbeats 4000000 in
theorem ok_X1_wordsOn (V : EV) {h : HA} {t : Nat} {l1 : Int32} {l2 : Int32} {l3 : Int32} {l4 : Int32} {l5 : Int32} {l6 : Int32} {r : Int32} (H : X1_wordsOn h t l1 l2 l3 l4 l5 l6 = some r) : MG V M_X1_wordsOn [.ref t, .int l1, .int l2, .int l3, .int l4, .int l5, .int l6] h (some (.int r)) h := by
  unfold X1_wordsOn at H
  obtain ⟨_, H⟩ := oc H
  refine MG.of (lv0 := [(0, .ref t), (1, .int l1), (2, .int l2), (3, .int l3), (4, .int l4), (5, .int l5), (6, .int l6)]) pn_X1 rfl (Nat.le_of_ble_eq_true rfl) ?_
  refine WP.iconst d_X1_wordsOn_0 ki_0 ?_
  refine WP.istore (lv9 := [(7, .int 0), (0, .ref t), (1, .int l1), (2, .int l2), (3, .int l3), (4, .int l4), (5, .int l5), (6, .int l6)]) d_X1_wordsOn_1 (Nat.le_of_ble_eq_true rfl) rfl ?_
  refine WP.iconst d_X1_wordsOn_3 ki_0 ?_
  refine WP.istore (lv9 := [(8, .int 0), (7, .int 0), (0, .ref t), (1, .int l1), (2, .int l2), (3, .int l3), (4, .int l4), (5, .int l5), (6, .int l6)]) d_X1_wordsOn_4 (Nat.le_of_ble_eq_true rfl) rfl ?_
  obtain ⟨y14, e13, H⟩ := ob H
  refine WP.sub [2, 3, 4, 5, 6, 7, 8, 1, 0] (lv' := [(0, .ref t), (1, .int l1), (2, .int l2), (3, .int l3), (4, .int l4), (5, .int l5), (6, .int l6), (7, .int 0), (8, .int 0)]) rfl ?_
  refine okl_X1_wordsOn_L6 V _ e13 ?_
  refine WP.iload d_X1_wordsOn_80 0 rfl ?_
  cases H
  exact WP.ireturn d_X1_wordsOn_82 rfl rfl (Nat.le_of_ble_eq_true rfl) (Nat.le_of_ble_eq_true rfl)

set_option maxRecDepth 20000 in
set_option maxHeartbeats 4000000 in
theorem ok_X1_learnedFrom (V : EV) {h : HA} {t : Nat} {l1 : Int32} {l2 : Int32} {r : Int32} (H : X1_learnedFrom h t l1 l2 = some r) : MG V M_X1_learnedFrom [.ref t, .int l1, .int l2] h (some (.int r)) h := by
  unfold X1_learnedFrom at H
  obtain ⟨_, H⟩ := oc H
  refine MG.of (lv0 := [(0, .ref t), (1, .int l1), (2, .int l2)]) pn_X1 rfl (Nat.le_of_ble_eq_true rfl) ?_
  refine WP.aload_n d_X1_learnedFrom_0 0 rfl ?_
  refine WP.iload_n d_X1_learnedFrom_1 1 rfl ?_
  refine WP.aload_n d_X1_learnedFrom_2 0 rfl ?_
  obtain ⟨x1, ex1, H⟩ := ob H
  refine WP.fR d_X1_learnedFrom_3 gf_X1_28 (fun _ => rfl) ex1 ?_
  refine WP.iload_n d_X1_learnedFrom_6 1 rfl ?_
  refine WP.iconst d_X1_learnedFrom_7 ki_3 ?_
  obtain ⟨x3, e2, H⟩ := ob H
  refine WP.cV (c := 1) (As := [.int l1, .int 3]) (st := [.int l1, .ref t]) (st9 := [.int x3, .int l1, .ref t]) (cl9 := 0) (sl9 := 0) d_X1_learnedFrom_8 (ok_X0_of V e2) tv_X0_of ti_X0_of ts_X0_of lk_X1_91 r_X1_learnedFrom_X0_of kc_X0_of (kd_X0_of e2) rfl rfl (Nat.le_of_ble_eq_true rfl) rfl rfl rfl ?_
  refine WP.iload_n d_X1_learnedFrom_11 2 rfl ?_
  refine WP.iconst d_X1_learnedFrom_12 ki_0 ?_
  refine WP.iconst d_X1_learnedFrom_13 ki_0 ?_
  refine WP.aload_n d_X1_learnedFrom_14 0 rfl ?_
  obtain ⟨x4, ex4, H⟩ := ob H
  refine WP.fI d_X1_learnedFrom_15 gf_X1_48 (fun _ => rfl) ex4 ?_
  obtain ⟨x6, e5, H⟩ := ob H
  refine WP.cV (c := 2) (As := [.int l1, .int x3, .int l2, .int 0, .int 0, .int x4]) (st := []) (st9 := [.int x6]) (cl9 := 0) (sl9 := 0) d_X1_learnedFrom_18 (ok_X1_wordsOn V e5) tv_X1_wordsOn ti_X1_wordsOn ts_X1_wordsOn lk_X1_94 r_X1_learnedFrom_X1_wordsOn kc_X1_wordsOn (kd_X1_wordsOn e5) rfl rfl (Nat.le_of_ble_eq_true rfl) rfl rfl rfl ?_
  cases H
  exact WP.ireturn d_X1_learnedFrom_21 rfl rfl (Nat.le_of_ble_eq_true rfl) (Nat.le_of_ble_eq_true rfl)

set_option maxRecDepth 20000 in
set_option maxHeartbeats 4000000 in
theorem ok_X1_ownSides (V : EV) {h : HA} {t : Nat} {l1 : Int32} {r : Int32} (H : X1_ownSides h t l1 = some r) : MG V M_X1_ownSides [.ref t, .int l1] h (some (.int r)) h := by
  unfold X1_ownSides at H
  obtain ⟨_, H⟩ := oc H
  refine MG.of (lv0 := [(0, .ref t), (1, .int l1)]) pn_X1 rfl (Nat.le_of_ble_eq_true rfl) ?_
  refine WP.aload_n d_X1_ownSides_0 0 rfl ?_
  obtain ⟨x1, ex1, H⟩ := ob H
  refine WP.fR d_X1_ownSides_1 gf_X1_28 (fun _ => rfl) ex1 ?_
  refine WP.iload_n d_X1_ownSides_4 1 rfl ?_
  refine WP.iconst d_X1_ownSides_5 ki_2 ?_
  obtain ⟨x3, e2, H⟩ := ob H
  refine WP.cV (c := 1) (As := [.int l1, .int 2]) (st := []) (st9 := [.int x3]) (cl9 := 0) (sl9 := 0) d_X1_ownSides_6 (ok_X0_of V e2) tv_X0_of ti_X0_of ts_X0_of lk_X1_91 r_X1_ownSides_X0_of kc_X0_of (kd_X0_of e2) rfl rfl (Nat.le_of_ble_eq_true rfl) rfl rfl rfl ?_
  obtain ⟨x5, e4, H⟩ := ob H
  refine WP.cS (As := [.int x3]) (st := []) (st9 := [.int x5]) (cl9 := 0) (sl9 := 0) d_X1_ownSides_9 (ok_X0_sidesOf V (h := h) e4) tv_X0_sidesOf ts_X0_sidesOf lk_X1_98 r_X1_ownSides_X0_sidesOf rfl rfl (Nat.le_of_ble_eq_true rfl) rfl rfl rfl ?_
  cases H
  exact WP.ireturn d_X1_ownSides_12 rfl rfl (Nat.le_of_ble_eq_true rfl) (Nat.le_of_ble_eq_true rfl)

set_option maxRecDepth 20000 in
set_option maxHeartbeats 4000000 in
theorem ok_X1_learned (V : EV) {h : HA} {t : Nat} {l1 : Int32} {l2 : Int32} {r : Int32} (H : X1_learned h t l1 l2 = some r) : MG V M_X1_learned [.ref t, .int l1, .int l2] h (some (.int r)) h := by
  unfold X1_learned at H
  obtain ⟨_, H⟩ := oc H
  refine MG.of (lv0 := [(0, .ref t), (1, .int l1), (2, .int l2)]) pn_X1 rfl (Nat.le_of_ble_eq_true rfl) ?_
  refine WP.aload_n d_X1_learned_0 0 rfl ?_
  refine WP.iload_n d_X1_learned_1 1 rfl ?_
  refine WP.aload_n d_X1_learned_2 0 rfl ?_
  obtain ⟨x1, ex1, H⟩ := ob H
  refine WP.fR d_X1_learned_3 gf_X1_28 (fun _ => rfl) ex1 ?_
  refine WP.iload_n d_X1_learned_6 1 rfl ?_
  refine WP.iconst d_X1_learned_7 ki_3 ?_
  obtain ⟨x3, e2, H⟩ := ob H
  refine WP.cV (c := 1) (As := [.int l1, .int 3]) (st := [.int l1, .ref t]) (st9 := [.int x3, .int l1, .ref t]) (cl9 := 0) (sl9 := 0) d_X1_learned_8 (ok_X0_of V e2) tv_X0_of ti_X0_of ts_X0_of lk_X1_91 r_X1_learned_X0_of kc_X0_of (kd_X0_of e2) rfl rfl (Nat.le_of_ble_eq_true rfl) rfl rfl rfl ?_
  refine WP.aload_n d_X1_learned_11 0 rfl ?_
  refine WP.iload_n d_X1_learned_12 1 rfl ?_
  obtain ⟨x5, e4, H⟩ := ob H
  refine WP.cV (c := 2) (As := [.int l1]) (st := [.int x3, .int l1, .ref t]) (st9 := [.int x5, .int x3, .int l1, .ref t]) (cl9 := 0) (sl9 := 0) d_X1_learned_13 (ok_X1_ownSides V e4) tv_X1_ownSides ti_X1_ownSides ts_X1_ownSides lk_X1_102 r_X1_learned_X1_ownSides kc_X1_ownSides (kd_X1_ownSides e4) rfl rfl (Nat.le_of_ble_eq_true rfl) rfl rfl rfl ?_
  refine WP.iconst d_X1_learned_16 ki_0 ?_
  refine WP.iconst d_X1_learned_17 ki_0 ?_
  refine WP.iload_n d_X1_learned_18 2 rfl ?_
  obtain ⟨x7, e6, H⟩ := ob H
  refine WP.cV (c := 2) (As := [.int l1, .int x3, .int x5, .int 0, .int 0, .int l2]) (st := []) (st9 := [.int x7]) (cl9 := 0) (sl9 := 0) d_X1_learned_19 (ok_X1_wordsOn V e6) tv_X1_wordsOn ti_X1_wordsOn ts_X1_wordsOn lk_X1_94 r_X1_learned_X1_wordsOn kc_X1_wordsOn (kd_X1_wordsOn e6) rfl rfl (Nat.le_of_ble_eq_true rfl) rfl rfl rfl ?_
  cases H
  exact WP.ireturn d_X1_learned_22 rfl rfl (Nat.le_of_ble_eq_true rfl) (Nat.le_of_ble_eq_true rfl)

set_option maxRecDepth 20000 in
set_option maxHeartbeats 4000000 in
theorem ok_X1_learnedByOtherEar (V : EV) {h : HA} {t : Nat} {l1 : Int32} {r : Int32} (H : X1_learnedByOtherEar h t l1 = some r) : MG V M_X1_learnedByOtherEar [.ref t, .int l1] h (some (.int r)) h := by
  unfold X1_learnedByOtherEar at H
  obtain ⟨_, H⟩ := oc H
  refine MG.of (lv0 := [(0, .ref t), (1, .int l1)]) pn_X1 rfl (Nat.le_of_ble_eq_true rfl) ?_
  refine WP.aload_n d_X1_learnedByOtherEar_0 0 rfl ?_
  obtain ⟨x1, ex1, H⟩ := ob H
  refine WP.fR d_X1_learnedByOtherEar_1 gf_X1_28 (fun _ => rfl) ex1 ?_
  refine WP.iload_n d_X1_learnedByOtherEar_4 1 rfl ?_
  refine WP.iconst d_X1_learnedByOtherEar_5 ki_2 ?_
  obtain ⟨x3, e2, H⟩ := ob H
  refine WP.cV (c := 1) (As := [.int l1, .int 2]) (st := []) (st9 := [.int x3]) (cl9 := 0) (sl9 := 0) d_X1_learnedByOtherEar_6 (ok_X0_of V e2) tv_X0_of ti_X0_of ts_X0_of lk_X1_91 r_X1_learnedByOtherEar_X0_of kc_X0_of (kd_X0_of e2) rfl rfl (Nat.le_of_ble_eq_true rfl) rfl rfl rfl ?_
  obtain ⟨j4, hs5, H⟩ := ol H
  have J6 : WP V M_X1_learnedByOtherEar 17 [(0, .ref t), (1, .int l1)] [.int j4] h 0 0 (some (.int r)) h := by
    refine WP.istore_n (lv9 := [(2, .int j4), (0, .ref t), (1, .int l1)]) d_X1_learnedByOtherEar_17 (Nat.le_of_ble_eq_true rfl) rfl ?_
    refine WP.aload_n d_X1_learnedByOtherEar_18 1 rfl ?_
    refine WP.iload_n d_X1_learnedByOtherEar_19 2 rfl ?_
    refine WP.iload_n d_X1_learnedByOtherEar_20 0 rfl ?_
    obtain ⟨x8, e7, H⟩ := ob H
    refine WP.cS (As := [.int j4]) (st := [.int l1, .ref t]) (st9 := [.int x8, .int l1, .ref t]) (cl9 := 0) (sl9 := 0) d_X1_learnedByOtherEar_21 (ok_X0_sidesOf V (h := h) e7) tv_X0_sidesOf ts_X0_sidesOf lk_X1_98 r_X1_learnedByOtherEar_X0_sidesOf rfl rfl (Nat.le_of_ble_eq_true rfl) rfl rfl rfl ?_
    obtain ⟨x10, e9, H⟩ := ob H
    refine WP.cV (c := 2) (As := [.int l1, .int x8]) (st := []) (st9 := [.int x10]) (cl9 := 0) (sl9 := 0) d_X1_learnedByOtherEar_24 (ok_X1_learnedFrom V e9) tv_X1_learnedFrom ti_X1_learnedFrom ts_X1_learnedFrom lk_X1_105 r_X1_learnedByOtherEar_X1_learnedFrom kc_X1_learnedFrom (kd_X1_learnedFrom e9) rfl rfl (Nat.le_of_ble_eq_true rfl) rfl rfl rfl ?_
    cases H
    exact WP.ireturn d_X1_learnedByOtherEar_27 rfl rfl (Nat.le_of_ble_eq_true rfl) (Nat.le_of_ble_eq_true rfl)
  rcases oj hs5 with ⟨hc, hs5⟩ | ⟨hc, hs5⟩
  · refine WP.if_ne_t d_X1_learnedByOtherEar_9 hc ?_
    refine WP.iconst d_X1_learnedByOtherEar_12 ki_1 ?_
    refine WP.goto d_X1_learnedByOtherEar_13 ?_
    cases hs5
    exact WP.sub [0, 1] rfl J6
  · refine WP.if_ne_f d_X1_learnedByOtherEar_9 hc ?_
    refine WP.iconst d_X1_learnedByOtherEar_16 ki_0 ?_
    cases hs5
    exact WP.sub [0, 1] rfl J6

set_option maxRecDepth 20000 in
set_option maxHeartbeats 4000000 in
theorem okl_X1_learnAll_L2 (V : EV) {vF : Option Value} {hF : HA} {t : Nat} (n : Nat) : ∀ {h : HA} {l1 : Int32} {hR : HA}, (H : X1_learnAll_L2 t n h l1 = some hR) → (K : WP V M_X1_learnAll 34 [] [] hR 0 0 vF hF) → WP V M_X1_learnAll 2 [(0, .ref t), (1, .int l1)] [] h 0 0 vF hF := by
  induction n with
  | zero =>
    intro h l1 hR H K
    rw [X1_learnAll_L2] at H
    cases H
  | succ n ih =>
    intro h l1 hR H K
    rw [X1_learnAll_L2] at H
    refine WP.iload_n d_X1_learnAll_2 1 rfl ?_
    refine WP.aload_n d_X1_learnAll_3 0 rfl ?_
    obtain ⟨x1, ex1, H⟩ := ob H
    refine WP.fR d_X1_learnAll_4 gf_X1_28 (fun _ => rfl) ex1 ?_
    obtain ⟨x2, ex2, H⟩ := ob H
    refine WP.fI d_X1_learnAll_7 gf_X1_108 (fun _ => rfl) ex2 ?_
    rcases oj H with ⟨hc, H⟩ | ⟨hc, H⟩
    · refine WP.icmp_ge_t d_X1_learnAll_10 hc ?_
      refine WP.aload_n d_X1_learnAll_13 0 rfl ?_
      obtain ⟨x3, ex3, H⟩ := ob H
      refine WP.fR d_X1_learnAll_14 gf_X1_18 (fun _ => rfl) ex3 ?_
      refine WP.iload_n d_X1_learnAll_17 1 rfl ?_
      refine WP.aload_n d_X1_learnAll_18 0 rfl ?_
      refine WP.iload_n d_X1_learnAll_19 1 rfl ?_
      refine WP.aload_n d_X1_learnAll_20 0 rfl ?_
      obtain ⟨x4, ex4, H⟩ := ob H
      refine WP.fI d_X1_learnAll_21 gf_X1_48 (fun _ => rfl) ex4 ?_
      obtain ⟨x6, e5, H⟩ := ob H
      refine WP.cV (c := 2) (As := [.int l1, .int x4]) (st := [.int l1, .ref x3]) (st9 := [.int x6, .int l1, .ref x3]) (cl9 := 0) (sl9 := 0) d_X1_learnAll_24 (ok_X1_learned V e5) tv_X1_learned ti_X1_learned ts_X1_learned lk_X1_111 r_X1_learnAll_X1_learned kc_X1_learned (kd_X1_learned e5) rfl rfl (Nat.le_of_ble_eq_true rfl) rfl rfl rfl ?_
      obtain ⟨h7, eh7, H⟩ := ob H
      refine WP.ias d_X1_learnAll_27 eh7 ?_
      refine WP.iinc (lv9 := [(1, .int (l1 + 1)), (0, .ref t)]) d_X1_learnAll_28 1 rfl ki_1 (Nat.le_of_ble_eq_true rfl) rfl ?_
      refine WP.goto d_X1_learnAll_31 ?_
      refine WP.sub [1, 0] (lv' := [(0, .ref t), (1, .int (l1 + 1))]) rfl ?_
      exact ih H K
    · refine WP.icmp_ge_f d_X1_learnAll_10 hc ?_
      cases H
      exact WP.sub [] rfl K

set_option maxRecDepth 20000 in
set_option maxHeartbeats 4000000 in
theorem ok_X1_learnAll (V : EV) {h : HA} {t : Nat} {hR : HA} (H : X1_learnAll h t = some hR) : MG V M_X1_learnAll [.ref t] h none hR := by
  unfold X1_learnAll at H
  obtain ⟨_, H⟩ := oc H
  refine MG.of (lv0 := [(0, .ref t)]) pn_X1 rfl (Nat.le_of_ble_eq_true rfl) ?_
  refine WP.iconst d_X1_learnAll_0 ki_0 ?_
  refine WP.istore_n (lv9 := [(1, .int 0), (0, .ref t)]) d_X1_learnAll_1 (Nat.le_of_ble_eq_true rfl) rfl ?_
  obtain ⟨h9, e8, H⟩ := ob H
  refine WP.sub [1, 0] (lv' := [(0, .ref t), (1, .int 0)]) rfl ?_
  refine okl_X1_learnAll_L2 V _ e8 ?_
  cases H
  exact WP.return_ d_X1_learnAll_34 rfl (Nat.le_of_ble_eq_true rfl) (Nat.le_of_ble_eq_true rfl)

set_option maxRecDepth 20000 in
set_option maxHeartbeats 4000000 in
theorem okl_X1_allLearned_L4 (V : EV) {vF : Option Value} {hF : HA} {h : HA} {t : Nat} {l1 : Int32} (n : Nat) : ∀ {l2 : Int32} {l3 : Int32} {r2 : Int32}, (H : X1_allLearned_L4 h t l1 n l2 l3 = some r2) → (K : WP V M_X1_allLearned 56 [(2, .int r2)] [] h 0 0 vF hF) → WP V M_X1_allLearned 4 [(0, .ref t), (1, .int l1), (2, .int l2), (3, .int l3)] [] h 0 0 vF hF := by
  induction n with
  | zero =>
    intro l2 l3 r2 H K
    rw [X1_allLearned_L4] at H
    cases H
  | succ n ih =>
    intro l2 l3 r2 H K
    rw [X1_allLearned_L4] at H
    refine WP.iload_n d_X1_allLearned_4 3 rfl ?_
    refine WP.aload_n d_X1_allLearned_5 0 rfl ?_
    obtain ⟨x1, ex1, H⟩ := ob H
    refine WP.fR d_X1_allLearned_6 gf_X1_28 (fun _ => rfl) ex1 ?_
    obtain ⟨x2, ex2, H⟩ := ob H
    refine WP.fI d_X1_allLearned_9 gf_X1_108 (fun _ => rfl) ex2 ?_
    rcases oj H with ⟨hc, H⟩ | ⟨hc, H⟩
    · refine WP.icmp_ge_t d_X1_allLearned_12 hc ?_
      refine WP.aload_n d_X1_allLearned_15 0 rfl ?_
      refine WP.iload_n d_X1_allLearned_16 3 rfl ?_
      refine WP.aload_n d_X1_allLearned_17 0 rfl ?_
      obtain ⟨x3, ex3, H⟩ := ob H
      refine WP.fR d_X1_allLearned_18 gf_X1_28 (fun _ => rfl) ex3 ?_
      refine WP.iload_n d_X1_allLearned_21 3 rfl ?_
      refine WP.iconst d_X1_allLearned_22 ki_3 ?_
      obtain ⟨x5, e4, H⟩ := ob H
      refine WP.cV (c := 1) (As := [.int l3, .int 3]) (st := [.int l3, .ref t]) (st9 := [.int x5, .int l3, .ref t]) (cl9 := 0) (sl9 := 0) d_X1_allLearned_23 (ok_X0_of V e4) tv_X0_of ti_X0_of ts_X0_of lk_X1_91 r_X1_allLearned_X0_of kc_X0_of (kd_X0_of e4) rfl rfl (Nat.le_of_ble_eq_true rfl) rfl rfl rfl ?_
      refine WP.aload_n d_X1_allLearned_26 0 rfl ?_
      refine WP.iload_n d_X1_allLearned_27 3 rfl ?_
      obtain ⟨x7, e6, H⟩ := ob H
      refine WP.cV (c := 2) (As := [.int l3]) (st := [.int x5, .int l3, .ref t]) (st9 := [.int x7, .int x5, .int l3, .ref t]) (cl9 := 0) (sl9 := 0) d_X1_allLearned_28 (ok_X1_ownSides V e6) tv_X1_ownSides ti_X1_ownSides ts_X1_ownSides lk_X1_102 r_X1_allLearned_X1_ownSides kc_X1_ownSides (kd_X1_ownSides e6) rfl rfl (Nat.le_of_ble_eq_true rfl) rfl rfl rfl ?_
      refine WP.iconst d_X1_allLearned_31 ki_0 ?_
      refine WP.iload_n d_X1_allLearned_32 1 rfl ?_
      refine WP.aload_n d_X1_allLearned_33 0 rfl ?_
      obtain ⟨x8, ex8, H⟩ := ob H
      refine WP.fI d_X1_allLearned_34 gf_X1_48 (fun _ => rfl) ex8 ?_
      obtain ⟨x10, e9, H⟩ := ob H
      refine WP.cV (c := 2) (As := [.int l3, .int x5, .int x7, .int 0, .int l1, .int x8]) (st := []) (st9 := [.int x10]) (cl9 := 0) (sl9 := 0) d_X1_allLearned_37 (ok_X1_wordsOn V e9) tv_X1_wordsOn ti_X1_wordsOn ts_X1_wordsOn lk_X1_94 r_X1_allLearned_X1_wordsOn kc_X1_wordsOn (kd_X1_wordsOn e9) rfl rfl (Nat.le_of_ble_eq_true rfl) rfl rfl rfl ?_
      refine WP.istore (lv9 := [(4, .int x10), (0, .ref t), (1, .int l1), (2, .int l2), (3, .int l3)]) d_X1_allLearned_40 (Nat.le_of_ble_eq_true rfl) rfl ?_
      refine WP.iload_n d_X1_allLearned_42 3 rfl ?_
      refine WP.iload d_X1_allLearned_43 0 rfl ?_
      obtain ⟨x12, e11, H⟩ := ob H
      refine WP.cS (As := [.int x10]) (st := [.int l2]) (st9 := [.int x12, .int l2]) (cl9 := 0) (sl9 := 0) d_X1_allLearned_45 (ok_J6_bitCount_0f7a4 V (h := h) e11) tv_J6_bitCount_0f7a4 ts_J6_bitCount_0f7a4 lk_X1_114 r_X1_allLearned_J6_bitCount_0f7a4 rfl rfl (Nat.le_of_ble_eq_true rfl) rfl rfl rfl ?_
      refine WP.iadd d_X1_allLearned_48 ?_
      refine WP.istore_n (lv9 := [(2, .int (l2 + x12)), (4, .int x10), (0, .ref t), (1, .int l1), (3, .int l3)]) d_X1_allLearned_49 (Nat.le_of_ble_eq_true rfl) rfl ?_
      refine WP.iinc (lv9 := [(3, .int (l3 + 1)), (2, .int (l2 + x12)), (4, .int x10), (0, .ref t), (1, .int l1)]) d_X1_allLearned_50 4 rfl ki_1 (Nat.le_of_ble_eq_true rfl) rfl ?_
      refine WP.goto d_X1_allLearned_53 ?_
      refine WP.sub [3, 4, 1, 0] (lv' := [(0, .ref t), (1, .int l1), (2, .int (l2 + x12)), (3, .int (l3 + 1))]) rfl ?_
      exact ih H K
    · refine WP.icmp_ge_f d_X1_allLearned_12 hc ?_
      cases H
      exact WP.sub [2] rfl K

set_option maxRecDepth 20000 in
set_option maxHeartbeats 4000000 in
theorem ok_X1_allLearned (V : EV) {h : HA} {t : Nat} {l1 : Int32} {r : Int32} (H : X1_allLearned h t l1 = some r) : MG V M_X1_allLearned [.ref t, .int l1] h (some (.int r)) h := by
  unfold X1_allLearned at H
  obtain ⟨_, H⟩ := oc H
  refine MG.of (lv0 := [(0, .ref t), (1, .int l1)]) pn_X1 rfl (Nat.le_of_ble_eq_true rfl) ?_
  refine WP.iconst d_X1_allLearned_0 ki_0 ?_
  refine WP.istore_n (lv9 := [(2, .int 0), (0, .ref t), (1, .int l1)]) d_X1_allLearned_1 (Nat.le_of_ble_eq_true rfl) rfl ?_
  refine WP.iconst d_X1_allLearned_2 ki_0 ?_
  refine WP.istore_n (lv9 := [(3, .int 0), (2, .int 0), (0, .ref t), (1, .int l1)]) d_X1_allLearned_3 (Nat.le_of_ble_eq_true rfl) rfl ?_
  obtain ⟨y14, e13, H⟩ := ob H
  refine WP.sub [2, 3, 1, 0] (lv' := [(0, .ref t), (1, .int l1), (2, .int 0), (3, .int 0)]) rfl ?_
  refine okl_X1_allLearned_L4 V _ e13 ?_
  refine WP.iload_n d_X1_allLearned_56 0 rfl ?_
  cases H
  exact WP.ireturn d_X1_allLearned_57 rfl rfl (Nat.le_of_ble_eq_true rfl) (Nat.le_of_ble_eq_true rfl)

set_option maxRecDepth 20000 in
set_option maxHeartbeats 4000000 in
theorem ok_X1_knownFacing (V : EV) {h : HA} {t : Nat} {l1 : Int32} {l2 : Int32} {r : Int32} (H : X1_knownFacing h t l1 l2 = some r) : MG V M_X1_knownFacing [.ref t, .int l1, .int l2] h (some (.int r)) h := by
  unfold X1_knownFacing at H
  obtain ⟨_, H⟩ := oc H
  refine MG.of (lv0 := [(0, .ref t), (1, .int l1), (2, .int l2)]) pn_X1 rfl (Nat.le_of_ble_eq_true rfl) ?_
  refine WP.iload_n d_X1_knownFacing_0 2 rfl ?_
  refine WP.aload_n d_X1_knownFacing_1 0 rfl ?_
  obtain ⟨x1, ex1, H⟩ := ob H
  refine WP.fR d_X1_knownFacing_2 gf_X1_28 (fun _ => rfl) ex1 ?_
  refine WP.iload_n d_X1_knownFacing_5 1 rfl ?_
  refine WP.iconst d_X1_knownFacing_6 ki_1 ?_
  obtain ⟨x3, e2, H⟩ := ob H
  refine WP.cV (c := 1) (As := [.int l1, .int 1]) (st := [.int l2]) (st9 := [.int x3, .int l2]) (cl9 := 0) (sl9 := 0) d_X1_knownFacing_7 (ok_X0_of V e2) tv_X0_of ti_X0_of ts_X0_of lk_X1_91 r_X1_knownFacing_X0_of kc_X0_of (kd_X0_of e2) rfl rfl (Nat.le_of_ble_eq_true rfl) rfl rfl rfl ?_
  refine WP.isub d_X1_knownFacing_10 ?_
  refine WP.istore_n (lv9 := [(3, .int (l2 - x3)), (0, .ref t), (1, .int l1), (2, .int l2)]) d_X1_knownFacing_11 (Nat.le_of_ble_eq_true rfl) rfl ?_
  refine WP.aload_n d_X1_knownFacing_12 1 rfl ?_
  obtain ⟨x4, ex4, H⟩ := ob H
  refine WP.fR d_X1_knownFacing_13 gf_X1_28 (fun _ => rfl) ex4 ?_
  refine WP.iload_n d_X1_knownFacing_16 2 rfl ?_
  refine WP.iconst d_X1_knownFacing_17 ki_3 ?_
  obtain ⟨x6, e5, H⟩ := ob H
  refine WP.cV (c := 1) (As := [.int l1, .int 3]) (st := []) (st9 := [.int x6]) (cl9 := 0) (sl9 := 0) d_X1_knownFacing_18 (ok_X0_of V e5) tv_X0_of ti_X0_of ts_X0_of lk_X1_91 r_X1_knownFacing_X0_of kc_X0_of (kd_X0_of e5) rfl rfl (Nat.le_of_ble_eq_true rfl) rfl rfl rfl ?_
  refine WP.istore (lv9 := [(4, .int x6), (3, .int (l2 - x3)), (0, .ref t), (1, .int l1), (2, .int l2)]) d_X1_knownFacing_21 (Nat.le_of_ble_eq_true rfl) rfl ?_
  refine WP.aload_n d_X1_knownFacing_23 2 rfl ?_
  refine WP.iload_n d_X1_knownFacing_24 3 rfl ?_
  refine WP.iload d_X1_knownFacing_25 0 rfl ?_
  refine WP.aload_n d_X1_knownFacing_27 2 rfl ?_
  refine WP.iload_n d_X1_knownFacing_28 3 rfl ?_
  obtain ⟨x8, e7, H⟩ := ob H
  refine WP.cV (c := 2) (As := [.int l1]) (st := [.int x6, .int l1, .ref t]) (st9 := [.int x8, .int x6, .int l1, .ref t]) (cl9 := 0) (sl9 := 0) d_X1_knownFacing_29 (ok_X1_ownSides V e7) tv_X1_ownSides ti_X1_ownSides ts_X1_ownSides lk_X1_102 r_X1_knownFacing_X1_ownSides kc_X1_ownSides (kd_X1_ownSides e7) rfl rfl (Nat.le_of_ble_eq_true rfl) rfl rfl rfl ?_
  refine WP.iload_n d_X1_knownFacing_32 1 rfl ?_
  refine WP.iconst d_X1_knownFacing_33 ki_0 ?_
  refine WP.aload_n d_X1_knownFacing_34 2 rfl ?_
  obtain ⟨x9, ex9, H⟩ := ob H
  refine WP.fI d_X1_knownFacing_35 gf_X1_48 (fun _ => rfl) ex9 ?_
  obtain ⟨x11, e10, H⟩ := ob H
  refine WP.cV (c := 2) (As := [.int l1, .int x6, .int x8, .int (l2 - x3), .int 0, .int x9]) (st := []) (st9 := [.int x11]) (cl9 := 0) (sl9 := 0) d_X1_knownFacing_38 (ok_X1_wordsOn V e10) tv_X1_wordsOn ti_X1_wordsOn ts_X1_wordsOn lk_X1_94 r_X1_knownFacing_X1_wordsOn kc_X1_wordsOn (kd_X1_wordsOn e10) rfl rfl (Nat.le_of_ble_eq_true rfl) rfl rfl rfl ?_
  obtain ⟨x13, e12, H⟩ := ob H
  refine WP.cS (As := [.int x11]) (st := []) (st9 := [.int x13]) (cl9 := 0) (sl9 := 0) d_X1_knownFacing_41 (ok_J6_bitCount_0f7a4 V (h := h) e12) tv_J6_bitCount_0f7a4 ts_J6_bitCount_0f7a4 lk_X1_114 r_X1_knownFacing_J6_bitCount_0f7a4 rfl rfl (Nat.le_of_ble_eq_true rfl) rfl rfl rfl ?_
  cases H
  exact WP.ireturn d_X1_knownFacing_44 rfl rfl (Nat.le_of_ble_eq_true rfl) (Nat.le_of_ble_eq_true rfl)

set_option maxRecDepth 20000 in
set_option maxHeartbeats 4000000 in
theorem ok_X1_knownOnSeat (V : EV) {h : HA} {t : Nat} {l1 : Int32} {l2 : Int32} {r : Int32} (H : X1_knownOnSeat h t l1 l2 = some r) : MG V M_X1_knownOnSeat [.ref t, .int l1, .int l2] h (some (.int r)) h := by
  unfold X1_knownOnSeat at H
  obtain ⟨_, H⟩ := oc H
  refine MG.of (lv0 := [(0, .ref t), (1, .int l1), (2, .int l2)]) pn_X1 rfl (Nat.le_of_ble_eq_true rfl) ?_
  refine WP.aload_n d_X1_knownOnSeat_0 0 rfl ?_
  obtain ⟨x1, ex1, H⟩ := ob H
  refine WP.fR d_X1_knownOnSeat_1 gf_X1_28 (fun _ => rfl) ex1 ?_
  refine WP.iload_n d_X1_knownOnSeat_4 1 rfl ?_
  refine WP.iconst d_X1_knownOnSeat_5 ki_3 ?_
  obtain ⟨x3, e2, H⟩ := ob H
  refine WP.cV (c := 1) (As := [.int l1, .int 3]) (st := []) (st9 := [.int x3]) (cl9 := 0) (sl9 := 0) d_X1_knownOnSeat_6 (ok_X0_of V e2) tv_X0_of ti_X0_of ts_X0_of lk_X1_91 r_X1_knownOnSeat_X0_of kc_X0_of (kd_X0_of e2) rfl rfl (Nat.le_of_ble_eq_true rfl) rfl rfl rfl ?_
  refine WP.istore_n (lv9 := [(3, .int x3), (0, .ref t), (1, .int l1), (2, .int l2)]) d_X1_knownOnSeat_9 (Nat.le_of_ble_eq_true rfl) rfl ?_
  refine WP.aload_n d_X1_knownOnSeat_10 1 rfl ?_
  refine WP.iload_n d_X1_knownOnSeat_11 3 rfl ?_
  refine WP.iload_n d_X1_knownOnSeat_12 0 rfl ?_
  refine WP.aload_n d_X1_knownOnSeat_13 1 rfl ?_
  refine WP.iload_n d_X1_knownOnSeat_14 2 rfl ?_
  obtain ⟨x5, e4, H⟩ := ob H
  refine WP.cV (c := 2) (As := [.int l1]) (st := [.int x3, .int l2, .ref t]) (st9 := [.int x5, .int x3, .int l2, .ref t]) (cl9 := 0) (sl9 := 0) d_X1_knownOnSeat_15 (ok_X1_ownSides V e4) tv_X1_ownSides ti_X1_ownSides ts_X1_ownSides lk_X1_102 r_X1_knownOnSeat_X1_ownSides kc_X1_ownSides (kd_X1_ownSides e4) rfl rfl (Nat.le_of_ble_eq_true rfl) rfl rfl rfl ?_
  refine WP.iconst d_X1_knownOnSeat_18 ki_0 ?_
  refine WP.iconst d_X1_knownOnSeat_19 ki_0 ?_
  refine WP.aload_n d_X1_knownOnSeat_20 1 rfl ?_
  obtain ⟨x6, ex6, H⟩ := ob H
  refine WP.fI d_X1_knownOnSeat_21 gf_X1_48 (fun _ => rfl) ex6 ?_
  obtain ⟨x8, e7, H⟩ := ob H
  refine WP.cV (c := 2) (As := [.int l2, .int x3, .int x5, .int 0, .int 0, .int x6]) (st := []) (st9 := [.int x8]) (cl9 := 0) (sl9 := 0) d_X1_knownOnSeat_24 (ok_X1_wordsOn V e7) tv_X1_wordsOn ti_X1_wordsOn ts_X1_wordsOn lk_X1_94 r_X1_knownOnSeat_X1_wordsOn kc_X1_wordsOn (kd_X1_wordsOn e7) rfl rfl (Nat.le_of_ble_eq_true rfl) rfl rfl rfl ?_
  obtain ⟨x10, e9, H⟩ := ob H
  refine WP.cS (As := [.int x8]) (st := []) (st9 := [.int x10]) (cl9 := 0) (sl9 := 0) d_X1_knownOnSeat_27 (ok_J6_bitCount_0f7a4 V (h := h) e9) tv_J6_bitCount_0f7a4 ts_J6_bitCount_0f7a4 lk_X1_114 r_X1_knownOnSeat_J6_bitCount_0f7a4 rfl rfl (Nat.le_of_ble_eq_true rfl) rfl rfl rfl ?_
  cases H
  exact WP.ireturn d_X1_knownOnSeat_30 rfl rfl (Nat.le_of_ble_eq_true rfl) (Nat.le_of_ble_eq_true rfl)

set_option maxRecDepth 20000 in
set_option maxHeartbeats 4000000 in
theorem okl_X1_common_L20 (V : EV) {vF : Option Value} {hF : HA} {h : HA} {t : Nat} {l1 : Int32} (n : Nat) : ∀ {l2 : Int32} {l3 : Int32} {r2 : Int32}, (H : X1_common_L20 h t l1 n l2 l3 = some r2) → (K : WP V M_X1_common 46 [(2, .int r2)] [] h 0 0 vF hF) → WP V M_X1_common 20 [(0, .ref t), (1, .int l1), (2, .int l2), (3, .int l3)] [] h 0 0 vF hF := by
  induction n with
  | zero =>
    intro l2 l3 r2 H K
    rw [X1_common_L20] at H
    cases H
  | succ n ih =>
    intro l2 l3 r2 H K
    rw [X1_common_L20] at H
    refine WP.iload_n d_X1_common_20 3 rfl ?_
    refine WP.aload_n d_X1_common_21 0 rfl ?_
    obtain ⟨x6, ex6, H⟩ := ob H
    refine WP.fR d_X1_common_22 gf_X1_28 (fun _ => rfl) ex6 ?_
    obtain ⟨x7, ex7, H⟩ := ob H
    refine WP.fI d_X1_common_25 gf_X1_108 (fun _ => rfl) ex7 ?_
    rcases oj H with ⟨hc, H⟩ | ⟨hc, H⟩
    · refine WP.icmp_ge_t d_X1_common_28 hc ?_
      refine WP.iload_n d_X1_common_31 2 rfl ?_
      refine WP.aload_n d_X1_common_32 0 rfl ?_
      refine WP.iload_n d_X1_common_33 3 rfl ?_
      refine WP.iload_n d_X1_common_34 1 rfl ?_
      obtain ⟨x9, e8, H⟩ := ob H
      refine WP.cV (c := 2) (As := [.int l3, .int l1]) (st := [.int l2]) (st9 := [.int x9, .int l2]) (cl9 := 0) (sl9 := 0) d_X1_common_35 (ok_X1_learned V e8) tv_X1_learned ti_X1_learned ts_X1_learned lk_X1_111 r_X1_common_X1_learned kc_X1_learned (kd_X1_learned e8) rfl rfl (Nat.le_of_ble_eq_true rfl) rfl rfl rfl ?_
      refine WP.iand d_X1_common_38 ?_
      refine WP.istore_n (lv9 := [(2, .int (l2 &&& x9)), (0, .ref t), (1, .int l1), (3, .int l3)]) d_X1_common_39 (Nat.le_of_ble_eq_true rfl) rfl ?_
      refine WP.iinc (lv9 := [(3, .int (l3 + 1)), (2, .int (l2 &&& x9)), (0, .ref t), (1, .int l1)]) d_X1_common_40 3 rfl ki_1 (Nat.le_of_ble_eq_true rfl) rfl ?_
      refine WP.goto d_X1_common_43 ?_
      refine WP.sub [2, 3, 1, 0] (lv' := [(0, .ref t), (1, .int l1), (2, .int (l2 &&& x9)), (3, .int (l3 + 1))]) rfl ?_
      exact ih H K
    · refine WP.icmp_ge_f d_X1_common_28 hc ?_
      cases H
      exact WP.sub [2] rfl K

set_option maxRecDepth 20000 in
set_option maxHeartbeats 4000000 in
theorem ok_X1_common (V : EV) {h : HA} {t : Nat} {l1 : Int32} {r : Int32} (H : X1_common h t l1 = some r) : MG V M_X1_common [.ref t, .int l1] h (some (.int r)) h := by
  unfold X1_common at H
  obtain ⟨_, H⟩ := oc H
  refine MG.of (lv0 := [(0, .ref t), (1, .int l1)]) pn_X1 rfl (Nat.le_of_ble_eq_true rfl) ?_
  refine WP.aload_n d_X1_common_0 0 rfl ?_
  obtain ⟨x1, ex1, H⟩ := ob H
  refine WP.fR d_X1_common_1 gf_X1_28 (fun _ => rfl) ex1 ?_
  obtain ⟨x2, ex2, H⟩ := ob H
  refine WP.fI d_X1_common_4 gf_X1_108 (fun _ => rfl) ex2 ?_
  obtain ⟨j3, hs4, H⟩ := ol H
  have J5 : WP V M_X1_common 17 [(0, .ref t), (1, .int l1)] [.int j3] h 0 0 (some (.int r)) h := by
    refine WP.istore_n (lv9 := [(2, .int j3), (0, .ref t), (1, .int l1)]) d_X1_common_17 (Nat.le_of_ble_eq_true rfl) rfl ?_
    refine WP.iconst d_X1_common_18 ki_0 ?_
    refine WP.istore_n (lv9 := [(3, .int 0), (2, .int j3), (0, .ref t), (1, .int l1)]) d_X1_common_19 (Nat.le_of_ble_eq_true rfl) rfl ?_
    obtain ⟨y11, e10, H⟩ := ob H
    refine WP.sub [2, 3, 1, 0] (lv' := [(0, .ref t), (1, .int l1), (2, .int j3), (3, .int 0)]) rfl ?_
    refine okl_X1_common_L20 V _ e10 ?_
    refine WP.iload_n d_X1_common_46 0 rfl ?_
    cases H
    exact WP.ireturn d_X1_common_47 rfl rfl (Nat.le_of_ble_eq_true rfl) (Nat.le_of_ble_eq_true rfl)
  rcases oj hs4 with ⟨hc, hs4⟩ | ⟨hc, hs4⟩
  · refine WP.if_ne_t d_X1_common_7 hc ?_
    refine WP.iconst d_X1_common_10 ki_0 ?_
    refine WP.goto d_X1_common_11 ?_
    cases hs4
    exact WP.sub [0, 1] rfl J5
  · refine WP.if_ne_f d_X1_common_7 hc ?_
    refine WP.sipush d_X1_common_14 ks_1023 ?_
    cases hs4
    exact WP.sub [0, 1] rfl J5

set_option maxRecDepth 20000 in
set_option maxHeartbeats 4000000 in
theorem okl_X1_lost_L4 (V : EV) {vF : Option Value} {hF : HA} {h : HA} {t : Nat} {l1 : Int32} (n : Nat) : ∀ {l2 : Int32} {l3 : Int32} {r2 : Int32}, (H : X1_lost_L4 h t l1 n l2 l3 = some r2) → (K : WP V M_X1_lost 41 [(0, .ref t), (1, .int l1), (2, .int r2)] [] h 0 0 vF hF) → WP V M_X1_lost 4 [(0, .ref t), (1, .int l1), (2, .int l2), (3, .int l3)] [] h 0 0 vF hF := by
  induction n with
  | zero =>
    intro l2 l3 r2 H K
    rw [X1_lost_L4] at H
    cases H
  | succ n ih =>
    intro l2 l3 r2 H K
    rw [X1_lost_L4] at H
    refine WP.iload_n d_X1_lost_4 3 rfl ?_
    refine WP.iload_n d_X1_lost_5 1 rfl ?_
    rcases oj H with ⟨hc, H⟩ | ⟨hc, H⟩
    · refine WP.icmp_ge_t d_X1_lost_6 hc ?_
      refine WP.iload_n d_X1_lost_9 2 rfl ?_
      refine WP.aload_n d_X1_lost_10 0 rfl ?_
      refine WP.iload_n d_X1_lost_11 3 rfl ?_
      obtain ⟨x2, e1, H⟩ := ob H
      refine WP.cV (c := 2) (As := [.int l3]) (st := [.int l2]) (st9 := [.int x2, .int l2]) (cl9 := 0) (sl9 := 0) d_X1_lost_12 (ok_X1_isSaid V e1) tv_X1_isSaid ti_X1_isSaid ts_X1_isSaid lk_X1_78 r_X1_lost_X1_isSaid kc_X1_isSaid (kd_X1_isSaid e1) rfl rfl (Nat.le_of_ble_eq_true rfl) rfl rfl rfl ?_
      rcases oj H with ⟨hc, H⟩ | ⟨hc, H⟩
      · refine WP.if_eq_t d_X1_lost_15 hc ?_
        refine WP.iconst d_X1_lost_32 ki_0 ?_
        refine WP.ior d_X1_lost_33 ?_
        refine WP.istore_n (lv9 := [(2, .int (l2 ||| 0)), (0, .ref t), (1, .int l1), (3, .int l3)]) d_X1_lost_34 (Nat.le_of_ble_eq_true rfl) rfl ?_
        refine WP.iinc (lv9 := [(3, .int (l3 + 1)), (2, .int (l2 ||| 0)), (0, .ref t), (1, .int l1)]) d_X1_lost_35 3 rfl ki_1 (Nat.le_of_ble_eq_true rfl) rfl ?_
        refine WP.goto d_X1_lost_38 ?_
        refine WP.sub [2, 3, 1, 0] (lv' := [(0, .ref t), (1, .int l1), (2, .int (l2 ||| 0)), (3, .int (l3 + 1))]) rfl ?_
        exact ih H K
      · refine WP.if_eq_f d_X1_lost_15 hc ?_
        refine WP.iconst d_X1_lost_18 ki_1 ?_
        refine WP.aload_n d_X1_lost_19 0 rfl ?_
        obtain ⟨x3, ex3, H⟩ := ob H
        refine WP.fR d_X1_lost_20 gf_X1_32 (fun _ => rfl) ex3 ?_
        refine WP.iload_n d_X1_lost_23 3 rfl ?_
        refine WP.iconst d_X1_lost_24 ki_2 ?_
        obtain ⟨x5, e4, H⟩ := ob H
        refine WP.cV (c := 3) (As := [.int l3, .int 2]) (st := [.int 1, .int l2]) (st9 := [.int x5, .int 1, .int l2]) (cl9 := 0) (sl9 := 0) d_X1_lost_25 (ok_X2_at V e4) tv_X2_at ti_X2_at ts_X2_at lk_X1_60 r_X1_lost_X2_at kc_X2_at (kd_X2_at e4) rfl rfl (Nat.le_of_ble_eq_true rfl) rfl rfl rfl ?_
        refine WP.ishl d_X1_lost_28 ?_
        refine WP.goto d_X1_lost_29 ?_
        refine WP.ior d_X1_lost_33 ?_
        refine WP.istore_n (lv9 := [(2, .int (l2 ||| (shlI 1 x5))), (0, .ref t), (1, .int l1), (3, .int l3)]) d_X1_lost_34 (Nat.le_of_ble_eq_true rfl) rfl ?_
        refine WP.iinc (lv9 := [(3, .int (l3 + 1)), (2, .int (l2 ||| (shlI 1 x5))), (0, .ref t), (1, .int l1)]) d_X1_lost_35 3 rfl ki_1 (Nat.le_of_ble_eq_true rfl) rfl ?_
        refine WP.goto d_X1_lost_38 ?_
        refine WP.sub [2, 3, 1, 0] (lv' := [(0, .ref t), (1, .int l1), (2, .int (l2 ||| (shlI 1 x5))), (3, .int (l3 + 1))]) rfl ?_
        exact ih H K
    · refine WP.icmp_ge_f d_X1_lost_6 hc ?_
      cases H
      exact WP.sub [0, 1, 2] rfl K

set_option maxRecDepth 20000 in
set_option maxHeartbeats 4000000 in
theorem okl_X1_lost_L43 (V : EV) {vF : Option Value} {hF : HA} {h : HA} {t : Nat} {l1 : Int32} (n : Nat) : ∀ {l2 : Int32} {l3 : Int32} {r2 : Int32}, (H : X1_lost_L43 h t l1 n l2 l3 = some r2) → (K : WP V M_X1_lost 71 [(2, .int r2)] [] h 0 0 vF hF) → WP V M_X1_lost 43 [(0, .ref t), (1, .int l1), (2, .int l2), (3, .int l3)] [] h 0 0 vF hF := by
  induction n with
  | zero =>
    intro l2 l3 r2 H K
    rw [X1_lost_L43] at H
    cases H
  | succ n ih =>
    intro l2 l3 r2 H K
    rw [X1_lost_L43] at H
    refine WP.iload_n d_X1_lost_43 3 rfl ?_
    refine WP.aload_n d_X1_lost_44 0 rfl ?_
    obtain ⟨x8, ex8, H⟩ := ob H
    refine WP.fR d_X1_lost_45 gf_X1_28 (fun _ => rfl) ex8 ?_
    obtain ⟨x9, ex9, H⟩ := ob H
    refine WP.fI d_X1_lost_48 gf_X1_108 (fun _ => rfl) ex9 ?_
    rcases oj H with ⟨hc, H⟩ | ⟨hc, H⟩
    · refine WP.icmp_ge_t d_X1_lost_51 hc ?_
      refine WP.iload_n d_X1_lost_54 2 rfl ?_
      refine WP.aload_n d_X1_lost_55 0 rfl ?_
      refine WP.iload_n d_X1_lost_56 3 rfl ?_
      refine WP.iload_n d_X1_lost_57 1 rfl ?_
      obtain ⟨x11, e10, H⟩ := ob H
      refine WP.cV (c := 2) (As := [.int l3, .int l1]) (st := [.int l2]) (st9 := [.int x11, .int l2]) (cl9 := 0) (sl9 := 0) d_X1_lost_58 (ok_X1_learned V e10) tv_X1_learned ti_X1_learned ts_X1_learned lk_X1_111 r_X1_lost_X1_learned kc_X1_learned (kd_X1_learned e10) rfl rfl (Nat.le_of_ble_eq_true rfl) rfl rfl rfl ?_
      refine WP.iconst d_X1_lost_61 ki_m1 ?_
      refine WP.ixor d_X1_lost_62 ?_
      refine WP.iand d_X1_lost_63 ?_
      refine WP.istore_n (lv9 := [(2, .int (l2 &&& (x11 ^^^ (-1)))), (0, .ref t), (1, .int l1), (3, .int l3)]) d_X1_lost_64 (Nat.le_of_ble_eq_true rfl) rfl ?_
      refine WP.iinc (lv9 := [(3, .int (l3 + 1)), (2, .int (l2 &&& (x11 ^^^ (-1)))), (0, .ref t), (1, .int l1)]) d_X1_lost_65 3 rfl ki_1 (Nat.le_of_ble_eq_true rfl) rfl ?_
      refine WP.goto d_X1_lost_68 ?_
      refine WP.sub [2, 3, 1, 0] (lv' := [(0, .ref t), (1, .int l1), (2, .int (l2 &&& (x11 ^^^ (-1)))), (3, .int (l3 + 1))]) rfl ?_
      exact ih H K
    · refine WP.icmp_ge_f d_X1_lost_51 hc ?_
      cases H
      exact WP.sub [2] rfl K

set_option maxRecDepth 20000 in
set_option maxHeartbeats 4000000 in
theorem ok_X1_lost (V : EV) {h : HA} {t : Nat} {l1 : Int32} {r : Int32} (H : X1_lost h t l1 = some r) : MG V M_X1_lost [.ref t, .int l1] h (some (.int r)) h := by
  unfold X1_lost at H
  obtain ⟨_, H⟩ := oc H
  refine MG.of (lv0 := [(0, .ref t), (1, .int l1)]) pn_X1 rfl (Nat.le_of_ble_eq_true rfl) ?_
  refine WP.iconst d_X1_lost_0 ki_0 ?_
  refine WP.istore_n (lv9 := [(2, .int 0), (0, .ref t), (1, .int l1)]) d_X1_lost_1 (Nat.le_of_ble_eq_true rfl) rfl ?_
  refine WP.iconst d_X1_lost_2 ki_0 ?_
  refine WP.istore_n (lv9 := [(3, .int 0), (2, .int 0), (0, .ref t), (1, .int l1)]) d_X1_lost_3 (Nat.le_of_ble_eq_true rfl) rfl ?_
  obtain ⟨y7, e6, H⟩ := ob H
  refine WP.sub [2, 3, 1, 0] (lv' := [(0, .ref t), (1, .int l1), (2, .int 0), (3, .int 0)]) rfl ?_
  refine okl_X1_lost_L4 V _ e6 ?_
  refine WP.iconst d_X1_lost_41 ki_0 ?_
  refine WP.istore_n (lv9 := [(3, .int 0), (0, .ref t), (1, .int l1), (2, .int y7)]) d_X1_lost_42 (Nat.le_of_ble_eq_true rfl) rfl ?_
  obtain ⟨y13, e12, H⟩ := ob H
  refine WP.sub [1, 2, 3, 0] (lv' := [(0, .ref t), (1, .int l1), (2, .int y7), (3, .int 0)]) rfl ?_
  refine okl_X1_lost_L43 V _ e12 ?_
  refine WP.iload_n d_X1_lost_71 0 rfl ?_
  cases H
  exact WP.ireturn d_X1_lost_72 rfl rfl (Nat.le_of_ble_eq_true rfl) (Nat.le_of_ble_eq_true rfl)

set_option maxRecDepth 20000 in
set_option maxHeartbeats 4000000 in
theorem okl_X1_hearers_L4 (V : EV) {vF : Option Value} {hF : HA} {h : HA} {t : Nat} {l1 : Int32} (n : Nat) : ∀ {l2 : Int32} {l3 : Int32} {r2 : Int32}, (H : X1_hearers_L4 h t l1 n l2 l3 = some r2) → (K : WP V M_X1_hearers 66 [(2, .int r2)] [] h 0 0 vF hF) → WP V M_X1_hearers 4 [(0, .ref t), (1, .int l1), (2, .int l2), (3, .int l3)] [] h 0 0 vF hF := by
  induction n with
  | zero =>
    intro l2 l3 r2 H K
    rw [X1_hearers_L4] at H
    cases H
  | succ n ih =>
    intro l2 l3 r2 H K
    rw [X1_hearers_L4] at H
    refine WP.iload_n d_X1_hearers_4 3 rfl ?_
    refine WP.aload_n d_X1_hearers_5 0 rfl ?_
    obtain ⟨x1, ex1, H⟩ := ob H
    refine WP.fR d_X1_hearers_6 gf_X1_28 (fun _ => rfl) ex1 ?_
    obtain ⟨x2, ex2, H⟩ := ob H
    refine WP.fI d_X1_hearers_9 gf_X1_108 (fun _ => rfl) ex2 ?_
    rcases oj H with ⟨hc, H⟩ | ⟨hc, H⟩
    · refine WP.icmp_ge_t d_X1_hearers_12 hc ?_
      refine WP.aload_n d_X1_hearers_15 0 rfl ?_
      refine WP.iload_n d_X1_hearers_16 3 rfl ?_
      obtain ⟨x4, e3, H⟩ := ob H
      refine WP.cV (c := 2) (As := [.int l3]) (st := []) (st9 := [.int x4]) (cl9 := 0) (sl9 := 0) d_X1_hearers_17 (ok_X1_ownSides V e3) tv_X1_ownSides ti_X1_ownSides ts_X1_ownSides lk_X1_102 r_X1_hearers_X1_ownSides kc_X1_ownSides (kd_X1_ownSides e3) rfl rfl (Nat.le_of_ble_eq_true rfl) rfl rfl rfl ?_
      refine WP.aload_n d_X1_hearers_20 0 rfl ?_
      obtain ⟨x5, ex5, H⟩ := ob H
      refine WP.fR d_X1_hearers_21 gf_X1_28 (fun _ => rfl) ex5 ?_
      refine WP.iload_n d_X1_hearers_24 3 rfl ?_
      refine WP.iload_n d_X1_hearers_25 1 rfl ?_
      obtain ⟨x7, e6, H⟩ := ob H
      refine WP.cV (c := 1) (As := [.int l3, .int l1]) (st := [.int x4]) (st9 := [.int x7, .int x4]) (cl9 := 0) (sl9 := 0) d_X1_hearers_26 (ok_X0_faces V e6) tv_X0_faces ti_X0_faces ts_X0_faces lk_X1_81 r_X1_hearers_X0_faces kc_X0_faces (kd_X0_faces e6) rfl rfl (Nat.le_of_ble_eq_true rfl) rfl rfl rfl ?_
      obtain ⟨x9, e8, H⟩ := ob H
      refine WP.cS (As := [.int x4, .int x7]) (st := []) (st9 := [.int x9]) (cl9 := 0) (sl9 := 0) d_X1_hearers_29 (ok_X0_turned V (h := h) e8) tv_X0_turned ts_X0_turned lk_X1_84 r_X1_hearers_X0_turned rfl rfl (Nat.le_of_ble_eq_true rfl) rfl rfl rfl ?_
      refine WP.istore (lv9 := [(4, .int x9), (0, .ref t), (1, .int l1), (2, .int l2), (3, .int l3)]) d_X1_hearers_32 (Nat.le_of_ble_eq_true rfl) rfl ?_
      refine WP.aload_n d_X1_hearers_34 1 rfl ?_
      refine WP.iload_n d_X1_hearers_35 2 rfl ?_
      refine WP.iload_n d_X1_hearers_36 4 rfl ?_
      refine WP.aload_n d_X1_hearers_37 1 rfl ?_
      obtain ⟨x10, ex10, H⟩ := ob H
      refine WP.fR d_X1_hearers_38 gf_X1_28 (fun _ => rfl) ex10 ?_
      refine WP.iload_n d_X1_hearers_41 4 rfl ?_
      refine WP.iconst d_X1_hearers_42 ki_3 ?_
      obtain ⟨x12, e11, H⟩ := ob H
      refine WP.cV (c := 1) (As := [.int l3, .int 3]) (st := [.int l3, .int l1, .ref t]) (st9 := [.int x12, .int l3, .int l1, .ref t]) (cl9 := 0) (sl9 := 0) d_X1_hearers_43 (ok_X0_of V e11) tv_X0_of ti_X0_of ts_X0_of lk_X1_91 r_X1_hearers_X0_of kc_X0_of (kd_X0_of e11) rfl rfl (Nat.le_of_ble_eq_true rfl) rfl rfl rfl ?_
      refine WP.iload d_X1_hearers_46 0 rfl ?_
      obtain ⟨x14, e13, H⟩ := ob H
      refine WP.cV (c := 2) (As := [.int l1, .int l3, .int x12, .int x9]) (st := []) (st9 := [.int x14]) (cl9 := 0) (sl9 := 0) d_X1_hearers_48 (ok_X1_isHeard V e13) tv_X1_isHeard ti_X1_isHeard ts_X1_isHeard lk_X1_87 r_X1_hearers_X1_isHeard kc_X1_isHeard (kd_X1_isHeard e13) rfl rfl (Nat.le_of_ble_eq_true rfl) rfl rfl rfl ?_
      rcases oj H with ⟨hc, H⟩ | ⟨hc, H⟩
      · refine WP.if_eq_t d_X1_hearers_51 hc ?_
        refine WP.iinc (lv9 := [(3, .int (l3 + 1)), (4, .int x9), (0, .ref t), (1, .int l1), (2, .int l2)]) d_X1_hearers_60 4 rfl ki_1 (Nat.le_of_ble_eq_true rfl) rfl ?_
        refine WP.goto d_X1_hearers_63 ?_
        refine WP.sub [2, 3, 4, 0] (lv' := [(0, .ref t), (1, .int l1), (2, .int l2), (3, .int (l3 + 1))]) rfl ?_
        exact ih H K
      · refine WP.if_eq_f d_X1_hearers_51 hc ?_
        refine WP.iload_n d_X1_hearers_54 3 rfl ?_
        refine WP.iconst d_X1_hearers_55 ki_1 ?_
        refine WP.iload_n d_X1_hearers_56 4 rfl ?_
        refine WP.ishl d_X1_hearers_57 ?_
        refine WP.ior d_X1_hearers_58 ?_
        refine WP.istore_n (lv9 := [(2, .int (l2 ||| (shlI 1 l3))), (4, .int x9), (0, .ref t), (1, .int l1), (3, .int l3)]) d_X1_hearers_59 (Nat.le_of_ble_eq_true rfl) rfl ?_
        refine WP.iinc (lv9 := [(3, .int (l3 + 1)), (2, .int (l2 ||| (shlI 1 l3))), (4, .int x9), (0, .ref t), (1, .int l1)]) d_X1_hearers_60 4 rfl ki_1 (Nat.le_of_ble_eq_true rfl) rfl ?_
        refine WP.goto d_X1_hearers_63 ?_
        refine WP.sub [3, 4, 1, 0] (lv' := [(0, .ref t), (1, .int l1), (2, .int (l2 ||| (shlI 1 l3))), (3, .int (l3 + 1))]) rfl ?_
        exact ih H K
    · refine WP.icmp_ge_f d_X1_hearers_12 hc ?_
      cases H
      exact WP.sub [2] rfl K

set_option maxRecDepth 20000 in
set_option maxHeartbeats 4000000 in
theorem ok_X1_hearers (V : EV) {h : HA} {t : Nat} {l1 : Int32} {r : Int32} (H : X1_hearers h t l1 = some r) : MG V M_X1_hearers [.ref t, .int l1] h (some (.int r)) h := by
  unfold X1_hearers at H
  obtain ⟨_, H⟩ := oc H
  refine MG.of (lv0 := [(0, .ref t), (1, .int l1)]) pn_X1 rfl (Nat.le_of_ble_eq_true rfl) ?_
  refine WP.iconst d_X1_hearers_0 ki_0 ?_
  refine WP.istore_n (lv9 := [(2, .int 0), (0, .ref t), (1, .int l1)]) d_X1_hearers_1 (Nat.le_of_ble_eq_true rfl) rfl ?_
  refine WP.iconst d_X1_hearers_2 ki_0 ?_
  refine WP.istore_n (lv9 := [(3, .int 0), (2, .int 0), (0, .ref t), (1, .int l1)]) d_X1_hearers_3 (Nat.le_of_ble_eq_true rfl) rfl ?_
  obtain ⟨y16, e15, H⟩ := ob H
  refine WP.sub [2, 3, 1, 0] (lv' := [(0, .ref t), (1, .int l1), (2, .int 0), (3, .int 0)]) rfl ?_
  refine okl_X1_hearers_L4 V _ e15 ?_
  refine WP.iload_n d_X1_hearers_66 0 rfl ?_
  cases H
  exact WP.ireturn d_X1_hearers_67 rfl rfl (Nat.le_of_ble_eq_true rfl) (Nat.le_of_ble_eq_true rfl)

set_option maxRecDepth 20000 in
set_option maxHeartbeats 4000000 in
theorem okl_X1_hearersOf_L4 (V : EV) {vF : Option Value} {hF : HA} {h : HA} {t : Nat} {l1 : Int32} (n : Nat) : ∀ {l2 : Int32} {l3 : Int32} {r2 : Int32}, (H : X1_hearersOf_L4 h t l1 n l2 l3 = some r2) → (K : WP V M_X1_hearersOf 50 [(2, .int r2)] [] h 0 0 vF hF) → WP V M_X1_hearersOf 4 [(0, .ref t), (1, .int l1), (2, .int l2), (3, .int l3)] [] h 0 0 vF hF := by
  induction n with
  | zero =>
    intro l2 l3 r2 H K
    rw [X1_hearersOf_L4] at H
    cases H
  | succ n ih =>
    intro l2 l3 r2 H K
    rw [X1_hearersOf_L4] at H
    refine WP.iload_n d_X1_hearersOf_4 3 rfl ?_
    refine WP.aload_n d_X1_hearersOf_5 0 rfl ?_
    obtain ⟨x1, ex1, H⟩ := ob H
    refine WP.fI d_X1_hearersOf_6 gf_X1_48 (fun _ => rfl) ex1 ?_
    rcases oj H with ⟨hc, H⟩ | ⟨hc, H⟩
    · refine WP.icmp_ge_t d_X1_hearersOf_9 hc ?_
      refine WP.aload_n d_X1_hearersOf_12 0 rfl ?_
      refine WP.iload_n d_X1_hearersOf_13 3 rfl ?_
      obtain ⟨x3, e2, H⟩ := ob H
      refine WP.cV (c := 2) (As := [.int l3]) (st := []) (st9 := [.int x3]) (cl9 := 0) (sl9 := 0) d_X1_hearersOf_14 (ok_X1_isSaid V e2) tv_X1_isSaid ti_X1_isSaid ts_X1_isSaid lk_X1_78 r_X1_hearersOf_X1_isSaid kc_X1_isSaid (kd_X1_isSaid e2) rfl rfl (Nat.le_of_ble_eq_true rfl) rfl rfl rfl ?_
      rcases oj H with ⟨hc, H⟩ | ⟨hc, H⟩
      · refine WP.if_eq_t d_X1_hearersOf_17 hc ?_
        refine WP.iinc (lv9 := [(3, .int (l3 + 1)), (0, .ref t), (1, .int l1), (2, .int l2)]) d_X1_hearersOf_44 3 rfl ki_1 (Nat.le_of_ble_eq_true rfl) rfl ?_
        refine WP.goto d_X1_hearersOf_47 ?_
        refine WP.sub [1, 2, 3, 0] (lv' := [(0, .ref t), (1, .int l1), (2, .int l2), (3, .int (l3 + 1))]) rfl ?_
        exact ih H K
      · refine WP.if_eq_f d_X1_hearersOf_17 hc ?_
        refine WP.aload_n d_X1_hearersOf_20 0 rfl ?_
        obtain ⟨x4, ex4, H⟩ := ob H
        refine WP.fR d_X1_hearersOf_21 gf_X1_32 (fun _ => rfl) ex4 ?_
        refine WP.iload_n d_X1_hearersOf_24 3 rfl ?_
        refine WP.iconst d_X1_hearersOf_25 ki_1 ?_
        obtain ⟨x6, e5, H⟩ := ob H
        refine WP.cV (c := 3) (As := [.int l3, .int 1]) (st := []) (st9 := [.int x6]) (cl9 := 0) (sl9 := 0) d_X1_hearersOf_26 (ok_X2_at V e5) tv_X2_at ti_X2_at ts_X2_at lk_X1_60 r_X1_hearersOf_X2_at kc_X2_at (kd_X2_at e5) rfl rfl (Nat.le_of_ble_eq_true rfl) rfl rfl rfl ?_
        refine WP.iload_n d_X1_hearersOf_29 1 rfl ?_
        rcases oj H with ⟨hc, H⟩ | ⟨hc, H⟩
        · refine WP.icmp_ne_t d_X1_hearersOf_30 hc ?_
          refine WP.iload_n d_X1_hearersOf_33 2 rfl ?_
          refine WP.aload_n d_X1_hearersOf_34 0 rfl ?_
          refine WP.iload_n d_X1_hearersOf_35 3 rfl ?_
          obtain ⟨x8, e7, H⟩ := ob H
          refine WP.cV (c := 2) (As := [.int l3]) (st := [.int l2]) (st9 := [.int x8, .int l2]) (cl9 := 0) (sl9 := 0) d_X1_hearersOf_36 (ok_X1_hearers V e7) tv_X1_hearers ti_X1_hearers ts_X1_hearers lk_X1_119 r_X1_hearersOf_X1_hearers kc_X1_hearers (kd_X1_hearers e7) rfl rfl (Nat.le_of_ble_eq_true rfl) rfl rfl rfl ?_
          obtain ⟨x10, e9, H⟩ := ob H
          refine WP.cS (As := [.int x8]) (st := [.int l2]) (st9 := [.int x10, .int l2]) (cl9 := 0) (sl9 := 0) d_X1_hearersOf_39 (ok_J6_bitCount_0f7a4 V (h := h) e9) tv_J6_bitCount_0f7a4 ts_J6_bitCount_0f7a4 lk_X1_114 r_X1_hearersOf_J6_bitCount_0f7a4 rfl rfl (Nat.le_of_ble_eq_true rfl) rfl rfl rfl ?_
          refine WP.iadd d_X1_hearersOf_42 ?_
          refine WP.istore_n (lv9 := [(2, .int (l2 + x10)), (0, .ref t), (1, .int l1), (3, .int l3)]) d_X1_hearersOf_43 (Nat.le_of_ble_eq_true rfl) rfl ?_
          refine WP.iinc (lv9 := [(3, .int (l3 + 1)), (2, .int (l2 + x10)), (0, .ref t), (1, .int l1)]) d_X1_hearersOf_44 3 rfl ki_1 (Nat.le_of_ble_eq_true rfl) rfl ?_
          refine WP.goto d_X1_hearersOf_47 ?_
          refine WP.sub [2, 3, 1, 0] (lv' := [(0, .ref t), (1, .int l1), (2, .int (l2 + x10)), (3, .int (l3 + 1))]) rfl ?_
          exact ih H K
        · refine WP.icmp_ne_f d_X1_hearersOf_30 hc ?_
          refine WP.iinc (lv9 := [(3, .int (l3 + 1)), (0, .ref t), (1, .int l1), (2, .int l2)]) d_X1_hearersOf_44 3 rfl ki_1 (Nat.le_of_ble_eq_true rfl) rfl ?_
          refine WP.goto d_X1_hearersOf_47 ?_
          refine WP.sub [1, 2, 3, 0] (lv' := [(0, .ref t), (1, .int l1), (2, .int l2), (3, .int (l3 + 1))]) rfl ?_
          exact ih H K
    · refine WP.icmp_ge_f d_X1_hearersOf_9 hc ?_
      cases H
      exact WP.sub [2] rfl K

set_option maxRecDepth 20000 in
set_option maxHeartbeats 4000000 in
theorem ok_X1_hearersOf (V : EV) {h : HA} {t : Nat} {l1 : Int32} {r : Int32} (H : X1_hearersOf h t l1 = some r) : MG V M_X1_hearersOf [.ref t, .int l1] h (some (.int r)) h := by
  unfold X1_hearersOf at H
  obtain ⟨_, H⟩ := oc H
  refine MG.of (lv0 := [(0, .ref t), (1, .int l1)]) pn_X1 rfl (Nat.le_of_ble_eq_true rfl) ?_
  refine WP.iconst d_X1_hearersOf_0 ki_0 ?_
  refine WP.istore_n (lv9 := [(2, .int 0), (0, .ref t), (1, .int l1)]) d_X1_hearersOf_1 (Nat.le_of_ble_eq_true rfl) rfl ?_
  refine WP.iconst d_X1_hearersOf_2 ki_0 ?_
  refine WP.istore_n (lv9 := [(3, .int 0), (2, .int 0), (0, .ref t), (1, .int l1)]) d_X1_hearersOf_3 (Nat.le_of_ble_eq_true rfl) rfl ?_
  obtain ⟨y12, e11, H⟩ := ob H
  refine WP.sub [2, 3, 1, 0] (lv' := [(0, .ref t), (1, .int l1), (2, .int 0), (3, .int 0)]) rfl ?_
  refine okl_X1_hearersOf_L4 V _ e11 ?_
  refine WP.iload_n d_X1_hearersOf_50 0 rfl ?_
  cases H
  exact WP.ireturn d_X1_hearersOf_51 rfl rfl (Nat.le_of_ble_eq_true rfl) (Nat.le_of_ble_eq_true rfl)

set_option maxRecDepth 20000 in
set_option maxHeartbeats 4000000 in
theorem ok_X1_lossOfSold (V : EV) {h : HA} {t : Nat} {l1 : Int32} {r : Int32} (H : X1_lossOfSold h t l1 = some r) : MG V M_X1_lossOfSold [.ref t, .int l1] h (some (.int r)) h := by
  unfold X1_lossOfSold at H
  obtain ⟨_, H⟩ := oc H
  refine MG.of (lv0 := [(0, .ref t), (1, .int l1)]) pn_X1 rfl (Nat.le_of_ble_eq_true rfl) ?_
  refine WP.aload_n d_X1_lossOfSold_0 0 rfl ?_
  obtain ⟨x1, ex1, H⟩ := ob H
  refine WP.fR d_X1_lossOfSold_1 gf_X1_18 (fun _ => rfl) ex1 ?_
  refine WP.iload_n d_X1_lossOfSold_4 1 rfl ?_
  obtain ⟨x2, ex2, H⟩ := ob H
  refine WP.iald d_X1_lossOfSold_5 ex2 ?_
  obtain ⟨x4, e3, H⟩ := ob H
  refine WP.cS (As := [.int x2]) (st := []) (st9 := [.int x4]) (cl9 := 0) (sl9 := 0) d_X1_lossOfSold_6 (ok_J6_bitCount_0f7a4 V (h := h) e3) tv_J6_bitCount_0f7a4 ts_J6_bitCount_0f7a4 lk_X1_114 r_X1_lossOfSold_J6_bitCount_0f7a4 rfl rfl (Nat.le_of_ble_eq_true rfl) rfl rfl rfl ?_
  refine WP.aload_n d_X1_lossOfSold_9 0 rfl ?_
  refine WP.iload_n d_X1_lossOfSold_10 1 rfl ?_
  refine WP.iconst d_X1_lossOfSold_11 ki_1 ?_
  obtain ⟨x6, e5, H⟩ := ob H
  refine WP.cV (c := 2) (As := [.int l1, .int 1]) (st := [.int x4]) (st9 := [.int x6, .int x4]) (cl9 := 0) (sl9 := 0) d_X1_lossOfSold_12 (ok_X1_learnedFrom V e5) tv_X1_learnedFrom ti_X1_learnedFrom ts_X1_learnedFrom lk_X1_105 r_X1_lossOfSold_X1_learnedFrom kc_X1_learnedFrom (kd_X1_learnedFrom e5) rfl rfl (Nat.le_of_ble_eq_true rfl) rfl rfl rfl ?_
  obtain ⟨x8, e7, H⟩ := ob H
  refine WP.cS (As := [.int x6]) (st := [.int x4]) (st9 := [.int x8, .int x4]) (cl9 := 0) (sl9 := 0) d_X1_lossOfSold_15 (ok_J6_bitCount_0f7a4 V (h := h) e7) tv_J6_bitCount_0f7a4 ts_J6_bitCount_0f7a4 lk_X1_114 r_X1_lossOfSold_J6_bitCount_0f7a4 rfl rfl (Nat.le_of_ble_eq_true rfl) rfl rfl rfl ?_
  refine WP.isub d_X1_lossOfSold_18 ?_
  cases H
  exact WP.ireturn d_X1_lossOfSold_19 rfl rfl (Nat.le_of_ble_eq_true rfl) (Nat.le_of_ble_eq_true rfl)

set_option maxRecDepth 20000 in
set_option maxHeartbeats 4000000 in
theorem ok_X1_gainOfThird (V : EV) {h : HA} {t : Nat} {l1 : Int32} {r : Int32} (H : X1_gainOfThird h t l1 = some r) : MG V M_X1_gainOfThird [.ref t, .int l1] h (some (.int r)) h := by
  unfold X1_gainOfThird at H
  obtain ⟨_, H⟩ := oc H
  refine MG.of (lv0 := [(0, .ref t), (1, .int l1)]) pn_X1 rfl (Nat.le_of_ble_eq_true rfl) ?_
  refine WP.bipush d_X1_gainOfThird_0 kb_11 ?_
  refine WP.istore_n (lv9 := [(2, .int 11), (0, .ref t), (1, .int l1)]) d_X1_gainOfThird_2 (Nat.le_of_ble_eq_true rfl) rfl ?_
  refine WP.aload_n d_X1_gainOfThird_3 1 rfl ?_
  refine WP.iload_n d_X1_gainOfThird_4 2 rfl ?_
  refine WP.iload_n d_X1_gainOfThird_5 0 rfl ?_
  obtain ⟨x2, e1, H⟩ := ob H
  refine WP.cV (c := 2) (As := [.int l1, .int 11]) (st := []) (st9 := [.int x2]) (cl9 := 0) (sl9 := 0) d_X1_gainOfThird_6 (ok_X1_learnedFrom V e1) tv_X1_learnedFrom ti_X1_learnedFrom ts_X1_learnedFrom lk_X1_105 r_X1_gainOfThird_X1_learnedFrom kc_X1_learnedFrom (kd_X1_learnedFrom e1) rfl rfl (Nat.le_of_ble_eq_true rfl) rfl rfl rfl ?_
  obtain ⟨x4, e3, H⟩ := ob H
  refine WP.cS (As := [.int x2]) (st := []) (st9 := [.int x4]) (cl9 := 0) (sl9 := 0) d_X1_gainOfThird_9 (ok_J6_bitCount_0f7a4 V (h := h) e3) tv_J6_bitCount_0f7a4 ts_J6_bitCount_0f7a4 lk_X1_114 r_X1_gainOfThird_J6_bitCount_0f7a4 rfl rfl (Nat.le_of_ble_eq_true rfl) rfl rfl rfl ?_
  refine WP.aload_n d_X1_gainOfThird_12 1 rfl ?_
  obtain ⟨x5, ex5, H⟩ := ob H
  refine WP.fR d_X1_gainOfThird_13 gf_X1_18 (fun _ => rfl) ex5 ?_
  refine WP.iload_n d_X1_gainOfThird_16 2 rfl ?_
  obtain ⟨x6, ex6, H⟩ := ob H
  refine WP.iald d_X1_gainOfThird_17 ex6 ?_
  obtain ⟨x8, e7, H⟩ := ob H
  refine WP.cS (As := [.int x6]) (st := [.int x4]) (st9 := [.int x8, .int x4]) (cl9 := 0) (sl9 := 0) d_X1_gainOfThird_18 (ok_J6_bitCount_0f7a4 V (h := h) e7) tv_J6_bitCount_0f7a4 ts_J6_bitCount_0f7a4 lk_X1_114 r_X1_gainOfThird_J6_bitCount_0f7a4 rfl rfl (Nat.le_of_ble_eq_true rfl) rfl rfl rfl ?_
  refine WP.isub d_X1_gainOfThird_21 ?_
  cases H
  exact WP.ireturn d_X1_gainOfThird_22 rfl rfl (Nat.le_of_ble_eq_true rfl) (Nat.le_of_ble_eq_true rfl)

set_option maxRecDepth 20000 in
set_option maxHeartbeats 4000000 in
theorem okl_X1_dearest_L6 (V : EV) {vF : Option Value} {hF : HA} {h : HA} {t : Nat} (n : Nat) : ∀ {l1 : Int32} {l2 : Int32} {l3 : Int32} {r1 : Int32}, (H : X1_dearest_L6 h t n l1 l2 l3 = some r1) → (K : WP V M_X1_dearest 41 [(1, .int r1)] [] h 0 0 vF hF) → WP V M_X1_dearest 6 [(0, .ref t), (1, .int l1), (2, .int l2), (3, .int l3)] [] h 0 0 vF hF := by
  induction n with
  | zero =>
    intro l1 l2 l3 r1 H K
    rw [X1_dearest_L6] at H
    cases H
  | succ n ih =>
    intro l1 l2 l3 r1 H K
    rw [X1_dearest_L6] at H
    refine WP.iload_n d_X1_dearest_6 3 rfl ?_
    refine WP.aload_n d_X1_dearest_7 0 rfl ?_
    obtain ⟨x1, ex1, H⟩ := ob H
    refine WP.fR d_X1_dearest_8 gf_X1_28 (fun _ => rfl) ex1 ?_
    obtain ⟨x2, ex2, H⟩ := ob H
    refine WP.fI d_X1_dearest_11 gf_X1_108 (fun _ => rfl) ex2 ?_
    rcases oj H with ⟨hc, H⟩ | ⟨hc, H⟩
    · refine WP.icmp_ge_t d_X1_dearest_14 hc ?_
      refine WP.aload_n d_X1_dearest_17 0 rfl ?_
      refine WP.iload_n d_X1_dearest_18 3 rfl ?_
      obtain ⟨x4, e3, H⟩ := ob H
      refine WP.cV (c := 2) (As := [.int l3]) (st := []) (st9 := [.int x4]) (cl9 := 0) (sl9 := 0) d_X1_dearest_19 (ok_X1_lossOfSold V e3) tv_X1_lossOfSold ti_X1_lossOfSold ts_X1_lossOfSold lk_X1_122 r_X1_dearest_X1_lossOfSold kc_X1_lossOfSold (kd_X1_lossOfSold e3) rfl rfl (Nat.le_of_ble_eq_true rfl) rfl rfl rfl ?_
      refine WP.istore (lv9 := [(4, .int x4), (0, .ref t), (1, .int l1), (2, .int l2), (3, .int l3)]) d_X1_dearest_22 (Nat.le_of_ble_eq_true rfl) rfl ?_
      refine WP.iload d_X1_dearest_24 0 rfl ?_
      refine WP.iload_n d_X1_dearest_26 3 rfl ?_
      rcases oj H with ⟨hc, H⟩ | ⟨hc, H⟩
      · refine WP.icmp_le_t d_X1_dearest_27 hc ?_
        refine WP.iload d_X1_dearest_30 0 rfl ?_
        refine WP.istore_n (lv9 := [(2, .int x4), (4, .int x4), (0, .ref t), (1, .int l1), (3, .int l3)]) d_X1_dearest_32 (Nat.le_of_ble_eq_true rfl) rfl ?_
        refine WP.iload_n d_X1_dearest_33 4 rfl ?_
        refine WP.istore_n (lv9 := [(1, .int l3), (2, .int x4), (4, .int x4), (0, .ref t), (3, .int l3)]) d_X1_dearest_34 (Nat.le_of_ble_eq_true rfl) rfl ?_
        refine WP.iinc (lv9 := [(3, .int (l3 + 1)), (1, .int l3), (2, .int x4), (4, .int x4), (0, .ref t)]) d_X1_dearest_35 4 rfl ki_1 (Nat.le_of_ble_eq_true rfl) rfl ?_
        refine WP.goto d_X1_dearest_38 ?_
        refine WP.sub [4, 1, 2, 0] (lv' := [(0, .ref t), (1, .int l3), (2, .int x4), (3, .int (l3 + 1))]) rfl ?_
        exact ih H K
      · refine WP.icmp_le_f d_X1_dearest_27 hc ?_
        refine WP.iinc (lv9 := [(3, .int (l3 + 1)), (4, .int x4), (0, .ref t), (1, .int l1), (2, .int l2)]) d_X1_dearest_35 4 rfl ki_1 (Nat.le_of_ble_eq_true rfl) rfl ?_
        refine WP.goto d_X1_dearest_38 ?_
        refine WP.sub [2, 3, 4, 0] (lv' := [(0, .ref t), (1, .int l1), (2, .int l2), (3, .int (l3 + 1))]) rfl ?_
        exact ih H K
    · refine WP.icmp_ge_f d_X1_dearest_14 hc ?_
      cases H
      exact WP.sub [1] rfl K

set_option maxRecDepth 20000 in
set_option maxHeartbeats 4000000 in
theorem ok_X1_dearest (V : EV) {h : HA} {t : Nat} {r : Int32} (H : X1_dearest h t = some r) : MG V M_X1_dearest [.ref t] h (some (.int r)) h := by
  unfold X1_dearest at H
  obtain ⟨_, H⟩ := oc H
  refine MG.of (lv0 := [(0, .ref t)]) pn_X1 rfl (Nat.le_of_ble_eq_true rfl) ?_
  refine WP.iconst d_X1_dearest_0 ki_m1 ?_
  refine WP.istore_n (lv9 := [(1, .int (-1)), (0, .ref t)]) d_X1_dearest_1 (Nat.le_of_ble_eq_true rfl) rfl ?_
  refine WP.iconst d_X1_dearest_2 ki_m1 ?_
  refine WP.istore_n (lv9 := [(2, .int (-1)), (1, .int (-1)), (0, .ref t)]) d_X1_dearest_3 (Nat.le_of_ble_eq_true rfl) rfl ?_
  refine WP.iconst d_X1_dearest_4 ki_0 ?_
  refine WP.istore_n (lv9 := [(3, .int 0), (2, .int (-1)), (1, .int (-1)), (0, .ref t)]) d_X1_dearest_5 (Nat.le_of_ble_eq_true rfl) rfl ?_
  obtain ⟨y6, e5, H⟩ := ob H
  refine WP.sub [3, 2, 1, 0] (lv' := [(0, .ref t), (1, .int (-1)), (2, .int (-1)), (3, .int 0)]) rfl ?_
  refine okl_X1_dearest_L6 V _ e5 ?_
  refine WP.iload_n d_X1_dearest_41 0 rfl ?_
  cases H
  exact WP.ireturn d_X1_dearest_42 rfl rfl (Nat.le_of_ble_eq_true rfl) (Nat.le_of_ble_eq_true rfl)

set_option maxRecDepth 20000 in
set_option maxHeartbeats 4000000 in
theorem okl_X1_wordsSeen_L4 (V : EV) {vF : Option Value} {hF : HA} {h : HA} {t : Nat} {l1 : Int32} (n : Nat) : ∀ {l2 : Int32} {l3 : Int32} {r2 : Int32}, (H : X1_wordsSeen_L4 h t l1 n l2 l3 = some r2) → (K : WP V M_X1_wordsSeen 85 [(2, .int r2)] [] h 0 0 vF hF) → WP V M_X1_wordsSeen 4 [(0, .ref t), (1, .int l1), (2, .int l2), (3, .int l3)] [] h 0 0 vF hF := by
  induction n with
  | zero =>
    intro l2 l3 r2 H K
    rw [X1_wordsSeen_L4] at H
    cases H
  | succ n ih =>
    intro l2 l3 r2 H K
    rw [X1_wordsSeen_L4] at H
    refine WP.iload_n d_X1_wordsSeen_4 3 rfl ?_
    refine WP.aload_n d_X1_wordsSeen_5 0 rfl ?_
    obtain ⟨x1, ex1, H⟩ := ob H
    refine WP.fI d_X1_wordsSeen_6 gf_X1_48 (fun _ => rfl) ex1 ?_
    rcases oj H with ⟨hc, H⟩ | ⟨hc, H⟩
    · refine WP.icmp_ge_t d_X1_wordsSeen_9 hc ?_
      refine WP.aload_n d_X1_wordsSeen_12 0 rfl ?_
      refine WP.iload_n d_X1_wordsSeen_13 3 rfl ?_
      obtain ⟨x3, e2, H⟩ := ob H
      refine WP.cV (c := 2) (As := [.int l3]) (st := []) (st9 := [.int x3]) (cl9 := 0) (sl9 := 0) d_X1_wordsSeen_14 (ok_X1_isSaid V e2) tv_X1_isSaid ti_X1_isSaid ts_X1_isSaid lk_X1_78 r_X1_wordsSeen_X1_isSaid kc_X1_isSaid (kd_X1_isSaid e2) rfl rfl (Nat.le_of_ble_eq_true rfl) rfl rfl rfl ?_
      rcases oj H with ⟨hc, H⟩ | ⟨hc, H⟩
      · refine WP.if_eq_t d_X1_wordsSeen_17 hc ?_
        refine WP.iinc (lv9 := [(3, .int (l3 + 1)), (0, .ref t), (1, .int l1), (2, .int l2)]) d_X1_wordsSeen_79 3 rfl ki_1 (Nat.le_of_ble_eq_true rfl) rfl ?_
        refine WP.goto d_X1_wordsSeen_82 ?_
        refine WP.sub [1, 2, 3, 0] (lv' := [(0, .ref t), (1, .int l1), (2, .int l2), (3, .int (l3 + 1))]) rfl ?_
        exact ih H K
      · refine WP.if_eq_f d_X1_wordsSeen_17 hc ?_
        refine WP.aload_n d_X1_wordsSeen_20 0 rfl ?_
        obtain ⟨x4, ex4, H⟩ := ob H
        refine WP.fR d_X1_wordsSeen_21 gf_X1_28 (fun _ => rfl) ex4 ?_
        refine WP.aload_n d_X1_wordsSeen_24 0 rfl ?_
        obtain ⟨x5, ex5, H⟩ := ob H
        refine WP.fR d_X1_wordsSeen_25 gf_X1_28 (fun _ => rfl) ex5 ?_
        refine WP.iload_n d_X1_wordsSeen_28 1 rfl ?_
        refine WP.iconst d_X1_wordsSeen_29 ki_0 ?_
        obtain ⟨x7, e6, H⟩ := ob H
        refine WP.cV (c := 1) (As := [.int l1, .int 0]) (st := [.ref x4]) (st9 := [.int x7, .ref x4]) (cl9 := 0) (sl9 := 0) d_X1_wordsSeen_30 (ok_X0_of V e6) tv_X0_of ti_X0_of ts_X0_of lk_X1_91 r_X1_wordsSeen_X0_of kc_X0_of (kd_X0_of e6) rfl rfl (Nat.le_of_ble_eq_true rfl) rfl rfl rfl ?_
        refine WP.aload_n d_X1_wordsSeen_33 0 rfl ?_
        obtain ⟨x8, ex8, H⟩ := ob H
        refine WP.fR d_X1_wordsSeen_34 gf_X1_28 (fun _ => rfl) ex8 ?_
        refine WP.iload_n d_X1_wordsSeen_37 1 rfl ?_
        refine WP.iload_n d_X1_wordsSeen_38 3 rfl ?_
        obtain ⟨x10, e9, H⟩ := ob H
        refine WP.cV (c := 1) (As := [.int l1, .int l3]) (st := [.int x7, .ref x4]) (st9 := [.int x10, .int x7, .ref x4]) (cl9 := 0) (sl9 := 0) d_X1_wordsSeen_39 (ok_X0_faces V e9) tv_X0_faces ti_X0_faces ts_X0_faces lk_X1_81 r_X1_wordsSeen_X0_faces kc_X0_faces (kd_X0_faces e9) rfl rfl (Nat.le_of_ble_eq_true rfl) rfl rfl rfl ?_
        obtain ⟨x12, e11, H⟩ := ob H
        refine WP.cV (c := 1) (As := [.int x7, .int x10]) (st := []) (st9 := [.long x12]) (cl9 := 0) (sl9 := 0) d_X1_wordsSeen_42 (ok_X0_ray V e11) tv_X0_ray ti_X0_ray ts_X0_ray lk_X1_125 r_X1_wordsSeen_X0_ray kc_X0_ray (kd_X0_ray e11) rfl rfl (Nat.le_of_ble_eq_true rfl) rfl rfl rfl ?_
        refine WP.lstore (lv9 := [(4, .long x12), (0, .ref t), (1, .int l1), (2, .int l2), (3, .int l3)]) d_X1_wordsSeen_45 (Nat.le_of_ble_eq_true rfl) rfl ?_
        refine WP.iload_n d_X1_wordsSeen_47 3 rfl ?_
        refine WP.lload d_X1_wordsSeen_48 0 rfl ?_
        refine WP.aload_n d_X1_wordsSeen_50 1 rfl ?_
        obtain ⟨x13, ex13, H⟩ := ob H
        refine WP.fR d_X1_wordsSeen_51 gf_X1_21 (fun _ => rfl) ex13 ?_
        refine WP.iload_n d_X1_wordsSeen_54 4 rfl ?_
        obtain ⟨x14, ex14, H⟩ := ob H
        refine WP.lald d_X1_wordsSeen_55 ex14 ?_
        refine WP.land d_X1_wordsSeen_56 ?_
        refine WP.lconst d_X1_wordsSeen_57 kl_0 ?_
        rcases oj H with ⟨hc, H⟩ | ⟨hc, H⟩
        · refine WP.lcmp_eq_t d_X1_wordsSeen_58 d_X1_wordsSeen_59 hc ?_
          refine WP.iconst d_X1_wordsSeen_76 ki_0 ?_
          refine WP.ior d_X1_wordsSeen_77 ?_
          refine WP.istore_n (lv9 := [(2, .int (l2 ||| 0)), (4, .long x12), (0, .ref t), (1, .int l1), (3, .int l3)]) d_X1_wordsSeen_78 (Nat.le_of_ble_eq_true rfl) rfl ?_
          refine WP.iinc (lv9 := [(3, .int (l3 + 1)), (2, .int (l2 ||| 0)), (4, .long x12), (0, .ref t), (1, .int l1)]) d_X1_wordsSeen_79 4 rfl ki_1 (Nat.le_of_ble_eq_true rfl) rfl ?_
          refine WP.goto d_X1_wordsSeen_82 ?_
          refine WP.sub [3, 4, 1, 0] (lv' := [(0, .ref t), (1, .int l1), (2, .int (l2 ||| 0)), (3, .int (l3 + 1))]) rfl ?_
          exact ih H K
        · refine WP.lcmp_eq_f d_X1_wordsSeen_58 d_X1_wordsSeen_59 hc ?_
          refine WP.iconst d_X1_wordsSeen_62 ki_1 ?_
          refine WP.aload_n d_X1_wordsSeen_63 1 rfl ?_
          obtain ⟨x15, ex15, H⟩ := ob H
          refine WP.fR d_X1_wordsSeen_64 gf_X1_32 (fun _ => rfl) ex15 ?_
          refine WP.iload_n d_X1_wordsSeen_67 4 rfl ?_
          refine WP.iconst d_X1_wordsSeen_68 ki_2 ?_
          obtain ⟨x17, e16, H⟩ := ob H
          refine WP.cV (c := 3) (As := [.int l3, .int 2]) (st := [.int 1, .int l2]) (st9 := [.int x17, .int 1, .int l2]) (cl9 := 0) (sl9 := 0) d_X1_wordsSeen_69 (ok_X2_at V e16) tv_X2_at ti_X2_at ts_X2_at lk_X1_60 r_X1_wordsSeen_X2_at kc_X2_at (kd_X2_at e16) rfl rfl (Nat.le_of_ble_eq_true rfl) rfl rfl rfl ?_
          refine WP.ishl d_X1_wordsSeen_72 ?_
          refine WP.goto d_X1_wordsSeen_73 ?_
          refine WP.ior d_X1_wordsSeen_77 ?_
          refine WP.istore_n (lv9 := [(2, .int (l2 ||| (shlI 1 x17))), (4, .long x12), (0, .ref t), (1, .int l1), (3, .int l3)]) d_X1_wordsSeen_78 (Nat.le_of_ble_eq_true rfl) rfl ?_
          refine WP.iinc (lv9 := [(3, .int (l3 + 1)), (2, .int (l2 ||| (shlI 1 x17))), (4, .long x12), (0, .ref t), (1, .int l1)]) d_X1_wordsSeen_79 4 rfl ki_1 (Nat.le_of_ble_eq_true rfl) rfl ?_
          refine WP.goto d_X1_wordsSeen_82 ?_
          refine WP.sub [3, 4, 1, 0] (lv' := [(0, .ref t), (1, .int l1), (2, .int (l2 ||| (shlI 1 x17))), (3, .int (l3 + 1))]) rfl ?_
          exact ih H K
    · refine WP.icmp_ge_f d_X1_wordsSeen_9 hc ?_
      cases H
      exact WP.sub [2] rfl K

set_option maxRecDepth 20000 in
set_option maxHeartbeats 4000000 in
theorem ok_X1_wordsSeen (V : EV) {h : HA} {t : Nat} {l1 : Int32} {r : Int32} (H : X1_wordsSeen h t l1 = some r) : MG V M_X1_wordsSeen [.ref t, .int l1] h (some (.int r)) h := by
  unfold X1_wordsSeen at H
  obtain ⟨_, H⟩ := oc H
  refine MG.of (lv0 := [(0, .ref t), (1, .int l1)]) pn_X1 rfl (Nat.le_of_ble_eq_true rfl) ?_
  refine WP.iconst d_X1_wordsSeen_0 ki_0 ?_
  refine WP.istore_n (lv9 := [(2, .int 0), (0, .ref t), (1, .int l1)]) d_X1_wordsSeen_1 (Nat.le_of_ble_eq_true rfl) rfl ?_
  refine WP.iconst d_X1_wordsSeen_2 ki_0 ?_
  refine WP.istore_n (lv9 := [(3, .int 0), (2, .int 0), (0, .ref t), (1, .int l1)]) d_X1_wordsSeen_3 (Nat.le_of_ble_eq_true rfl) rfl ?_
  obtain ⟨y19, e18, H⟩ := ob H
  refine WP.sub [2, 3, 1, 0] (lv' := [(0, .ref t), (1, .int l1), (2, .int 0), (3, .int 0)]) rfl ?_
  refine okl_X1_wordsSeen_L4 V _ e18 ?_
  refine WP.iload_n d_X1_wordsSeen_85 0 rfl ?_
  cases H
  exact WP.ireturn d_X1_wordsSeen_86 rfl rfl (Nat.le_of_ble_eq_true rfl) (Nat.le_of_ble_eq_true rfl)

set_option maxRecDepth 20000 in
set_option maxHeartbeats 4000000 in
theorem ok_X1_drawBelow (V : EV) {h : HA} {t : Nat} {l1 : Int32} {r : Int32} {hR : HA} (H : X1_drawBelow h t l1 = some (r, hR)) : MG V M_X1_drawBelow [.ref t, .int l1] h (some (.int r)) hR := by
  unfold X1_drawBelow at H
  obtain ⟨_, H⟩ := oc H
  refine MG.of (lv0 := [(0, .ref t), (1, .int l1)]) pn_X1 rfl (Nat.le_of_ble_eq_true rfl) ?_
  refine WP.aload_n d_X1_drawBelow_0 0 rfl ?_
  refine WP.aload_n d_X1_drawBelow_1 0 rfl ?_
  obtain ⟨x1, ex1, H⟩ := ob H
  refine WP.fI d_X1_drawBelow_2 gf_X1_129 (fun _ => rfl) ex1 ?_
  refine WP.ldc d_X1_drawBelow_5 wi_X1_135 ?_
  refine WP.imul d_X1_drawBelow_7 ?_
  refine WP.sipush d_X1_drawBelow_8 ks_12345 ?_
  refine WP.iadd d_X1_drawBelow_11 ?_
  obtain ⟨h2, eh2, H⟩ := ob H
  refine WP.uI d_X1_drawBelow_12 gf_X1_129 rfl (Or.inl rfl) rfl rfl eh2 ?_
  refine WP.iload_n d_X1_drawBelow_15 1 rfl ?_
  rcases oj H with ⟨hc, H⟩ | ⟨hc, H⟩
  · refine WP.if_le_t d_X1_drawBelow_16 hc ?_
    refine WP.aload_n d_X1_drawBelow_19 0 rfl ?_
    obtain ⟨x3, ex3, H⟩ := ob H
    refine WP.fI d_X1_drawBelow_20 gf_X1_129 (fun _ => rfl) ex3 ?_
    refine WP.bipush d_X1_drawBelow_23 kb_16 ?_
    refine WP.iushr d_X1_drawBelow_25 ?_
    refine WP.iload_n d_X1_drawBelow_26 1 rfl ?_
    obtain ⟨x4, ex4, H⟩ := ob H
    refine WP.irem d_X1_drawBelow_27 ex4 ?_
    refine WP.goto d_X1_drawBelow_28 ?_
    cases H
    exact WP.ireturn d_X1_drawBelow_32 rfl rfl (Nat.le_of_ble_eq_true rfl) (Nat.le_of_ble_eq_true rfl)
  · refine WP.if_le_f d_X1_drawBelow_16 hc ?_
    refine WP.iconst d_X1_drawBelow_31 ki_0 ?_
    cases H
    exact WP.ireturn d_X1_drawBelow_32 rfl rfl (Nat.le_of_ble_eq_true rfl) (Nat.le_of_ble_eq_true rfl)

set_option maxRecDepth 20000 in
set_option maxHeartbeats 4000000 in
theorem okl_X1_thunder_L10 (V : EV) {vF : Option Value} {hF : HA} {t : Nat} {l2 : Int32} (n : Nat) : ∀ {h : HA} {l3 : Int32} {l4 : Int32} {r3 : Int32} {hR : HA}, (H : X1_thunder_L10 t l2 n h l3 l4 = some (r3, hR)) → (K : WP V M_X1_thunder 52 [(3, .int r3)] [] hR 0 0 vF hF) → WP V M_X1_thunder 10 [(0, .ref t), (2, .int l2), (3, .int l3), (4, .int l4)] [] h 0 0 vF hF := by
  induction n with
  | zero =>
    intro h l3 l4 r3 hR H K
    rw [X1_thunder_L10] at H
    cases H
  | succ n ih =>
    intro h l3 l4 r3 hR H K
    rw [X1_thunder_L10] at H
    refine WP.iload d_X1_thunder_10 3 rfl ?_
    refine WP.aload_n d_X1_thunder_12 0 rfl ?_
    obtain ⟨x2, ex2, H⟩ := ob H
    refine WP.fI d_X1_thunder_13 gf_X1_48 (fun _ => rfl) ex2 ?_
    rcases oj H with ⟨hc, H⟩ | ⟨hc, H⟩
    · refine WP.icmp_ge_t d_X1_thunder_16 hc ?_
      refine WP.aload_n d_X1_thunder_19 0 rfl ?_
      refine WP.bipush d_X1_thunder_20 kb_100 ?_
      obtain ⟨⟨x5, h4⟩, e3, H⟩ := ob H
      refine WP.cV (c := 2) (As := [.int 100]) (st := []) (st9 := [.int x5]) (cl9 := 0) (sl9 := 0) d_X1_thunder_22 (ok_X1_drawBelow V e3) tv_X1_drawBelow ti_X1_drawBelow ts_X1_drawBelow lk_X1_132 r_X1_thunder_X1_drawBelow kc_X1_drawBelow (kd_X1_drawBelow e3) rfl rfl (Nat.le_of_ble_eq_true rfl) rfl rfl rfl ?_
      refine WP.iload_n d_X1_thunder_25 1 rfl ?_
      rcases oj H with ⟨hc, H⟩ | ⟨hc, H⟩
      · refine WP.icmp_ge_t d_X1_thunder_26 hc ?_
        refine WP.aload_n d_X1_thunder_29 0 rfl ?_
        obtain ⟨x6, ex6, H⟩ := ob H
        refine WP.fR d_X1_thunder_30 gf_X1_25 (fun _ => rfl) ex6 ?_
        refine WP.iload d_X1_thunder_33 3 rfl ?_
        refine WP.iconst d_X1_thunder_35 ki_1 ?_
        refine WP.aload_n d_X1_thunder_36 0 rfl ?_
        refine WP.iconst d_X1_thunder_37 ki_4 ?_
        obtain ⟨⟨x9, h8⟩, e7, H⟩ := ob H
        refine WP.cV (c := 2) (As := [.int 4]) (st := [.int 1, .int l4, .ref x6]) (st9 := [.int x9, .int 1, .int l4, .ref x6]) (cl9 := 0) (sl9 := 0) d_X1_thunder_38 (ok_X1_drawBelow V e7) tv_X1_drawBelow ti_X1_drawBelow ts_X1_drawBelow lk_X1_132 r_X1_thunder_X1_drawBelow kc_X1_drawBelow (kd_X1_drawBelow e7) rfl rfl (Nat.le_of_ble_eq_true rfl) rfl rfl rfl ?_
        refine WP.ishl d_X1_thunder_41 ?_
        obtain ⟨h10, eh10, H⟩ := ob H
        refine WP.ias d_X1_thunder_42 eh10 ?_
        refine WP.iinc (lv9 := [(3, .int (l3 + 1)), (0, .ref t), (2, .int l2), (4, .int l4)]) d_X1_thunder_43 2 rfl ki_1 (Nat.le_of_ble_eq_true rfl) rfl ?_
        refine WP.iinc (lv9 := [(4, .int (l4 + 1)), (3, .int (l3 + 1)), (0, .ref t), (2, .int l2)]) d_X1_thunder_46 3 rfl ki_1 (Nat.le_of_ble_eq_true rfl) rfl ?_
        refine WP.goto d_X1_thunder_49 ?_
        refine WP.sub [2, 3, 1, 0] (lv' := [(0, .ref t), (2, .int l2), (3, .int (l3 + 1)), (4, .int (l4 + 1))]) rfl ?_
        exact ih H K
      · refine WP.icmp_ge_f d_X1_thunder_26 hc ?_
        refine WP.iinc (lv9 := [(4, .int (l4 + 1)), (0, .ref t), (2, .int l2), (3, .int l3)]) d_X1_thunder_46 3 rfl ki_1 (Nat.le_of_ble_eq_true rfl) rfl ?_
        refine WP.goto d_X1_thunder_49 ?_
        refine WP.sub [1, 2, 3, 0] (lv' := [(0, .ref t), (2, .int l2), (3, .int l3), (4, .int (l4 + 1))]) rfl ?_
        exact ih H K
    · refine WP.icmp_ge_f d_X1_thunder_16 hc ?_
      cases H
      exact WP.sub [2] rfl K

set_option maxRecDepth 20000 in
set_option maxHeartbeats 4000000 in
theorem ok_X1_thunder (V : EV) {h : HA} {t : Nat} {l1 : Int32} {l2 : Int32} {r : Int32} {hR : HA} (H : X1_thunder h t l1 l2 = some (r, hR)) : MG V M_X1_thunder [.ref t, .int l1, .int l2] h (some (.int r)) hR := by
  unfold X1_thunder at H
  obtain ⟨_, H⟩ := oc H
  refine MG.of (lv0 := [(0, .ref t), (1, .int l1), (2, .int l2)]) pn_X1 rfl (Nat.le_of_ble_eq_true rfl) ?_
  refine WP.aload_n d_X1_thunder_0 0 rfl ?_
  refine WP.iload_n d_X1_thunder_1 1 rfl ?_
  obtain ⟨h1, eh1, H⟩ := ob H
  refine WP.uI d_X1_thunder_2 gf_X1_129 rfl (Or.inl rfl) rfl rfl eh1 ?_
  refine WP.iconst d_X1_thunder_5 ki_0 ?_
  refine WP.istore_n (lv9 := [(3, .int 0), (0, .ref t), (1, .int l1), (2, .int l2)]) d_X1_thunder_6 (Nat.le_of_ble_eq_true rfl) rfl ?_
  refine WP.iconst d_X1_thunder_7 ki_0 ?_
  refine WP.istore (lv9 := [(4, .int 0), (3, .int 0), (0, .ref t), (1, .int l1), (2, .int l2)]) d_X1_thunder_8 (Nat.le_of_ble_eq_true rfl) rfl ?_
  obtain ⟨⟨y12, h13⟩, e11, H⟩ := ob H
  refine WP.sub [2, 4, 1, 0] (lv' := [(0, .ref t), (2, .int l2), (3, .int 0), (4, .int 0)]) rfl ?_
  refine okl_X1_thunder_L10 V _ e11 ?_
  refine WP.iload_n d_X1_thunder_52 0 rfl ?_
  cases H
  exact WP.ireturn d_X1_thunder_53 rfl rfl (Nat.le_of_ble_eq_true rfl) (Nat.le_of_ble_eq_true rfl)

set_option maxRecDepth 20000 in
set_option maxHeartbeats 4000000 in
theorem okl_X3_init_L32 (V : EV) {vF : Option Value} {hF : HA} {t : Nat} {CL SL : Nat} (hCL : CL ≤ mM M_X3_init) (hSL : SL ≤ mS M_X3_init) (n : Nat) : ∀ {cl sl : Nat} {h : HA} {l1 : Int32} {hR : HA}, (H : X3_init_L32 t n h l1 = some hR) → (hcl : cl + n * 2 ≤ CL) → (hsl : sl + n * 123 ≤ SL) → (K : WP V M_X3_init 53 [] [] hR CL SL vF hF) → WP V M_X3_init 32 [(0, .ref t), (1, .int l1)] [] h cl sl vF hF := by
  induction n with
  | zero =>
    intro cl sl h l1 hR H hcl hsl K
    rw [X3_init_L32] at H
    cases H
  | succ n ih =>
    intro cl sl h l1 hR H hcl hsl K
    rw [X3_init_L32] at H
    refine WP.iload_n d_X3_init_32 1 rfl ?_
    refine WP.iconst d_X3_init_33 ki_4 ?_
    rcases oj H with ⟨hc, H⟩ | ⟨hc, H⟩
    · refine WP.icmp_ge_t d_X3_init_34 hc ?_
      refine WP.aload_n d_X3_init_37 0 rfl ?_
      obtain ⟨x9, ex9, H⟩ := ob H
      refine WP.fR d_X3_init_38 gf_X3_20 (fun _ => rfl) ex9 ?_
      refine WP.iload_n d_X3_init_41 1 rfl ?_
      refine WP.iload_n d_X3_init_42 1 rfl ?_
      obtain ⟨⟨x12, h11⟩, e10, H⟩ := ob H
      refine WP.cS (As := [.int l1]) (st := [.int l1, .ref x9]) (st9 := [.ref x12, .int l1, .ref x9]) (cl9 := (cl + 2)) (sl9 := (sl + 123)) d_X3_init_43 (ok_X2_ofSort V e10) tv_X2_ofSort ts_X2_ofSort lk_X3_28 ⟨Nat.le_of_ble_eq_true rfl, Nat.le_of_ble_eq_true rfl, (by have := mM_X2_ofSort; have := mS_X2_ofSort; omega), (by have := mM_X2_ofSort; have := mS_X2_ofSort; omega)⟩ rfl rfl (Nat.le_of_ble_eq_true rfl) rfl rfl rfl ?_
      obtain ⟨h13, eh13, H⟩ := ob H
      refine WP.aas d_X3_init_46 (by decide) eh13 ?_
      refine WP.iinc (lv9 := [(1, .int (l1 + 1)), (0, .ref t)]) d_X3_init_47 1 rfl ki_1 (Nat.le_of_ble_eq_true rfl) rfl ?_
      refine WP.goto d_X3_init_50 ?_
      refine WP.sub [1, 0] (lv' := [(0, .ref t), (1, .int (l1 + 1))]) rfl ?_
      refine WP.widen (cl' := cl + 2) (sl' := sl + 123) (by omega) (by omega) ?_
      exact ih H (by omega) (by omega) K
    · refine WP.icmp_ge_f d_X3_init_34 hc ?_
      cases H
      refine WP.widen (cl' := CL) (sl' := SL) (by omega) (by omega) ?_
      exact WP.sub [] rfl K

set_option maxRecDepth 20000 in
set_option maxHeartbeats 4000000 in
theorem ok_X3_init (V : EV) {h : HA} {t : Nat} {hR : HA} (H : X3_init h t = some hR) : MG V M_X3_init [.ref t] h none hR := by
  unfold X3_init at H
  obtain ⟨_, H⟩ := oc H
  refine MG.of (lv0 := [(0, .ref t)]) pn_X3 rfl (Nat.le_of_ble_eq_true rfl) ?_
  refine WP.aload_n d_X3_init_0 0 rfl ?_
  refine WP.objInit d_X3_init_1 lk_X3_3 w_oi_inst w_oi_code (Nat.le_of_ble_eq_true rfl) (Nat.le_of_ble_eq_true rfl) ?_
  refine WP.aload_n d_X3_init_4 0 rfl ?_
  obtain ⟨h1, eh1, H⟩ := ol H
  refine WP.new (c := 1) d_X3_init_5 (Nat.le_of_ble_eq_true rfl) (Nat.le_of_ble_eq_true rfl) wc_X3_9 wn_1 wz_X0 (Nat.le_of_ble_eq_true rfl) (Nat.le_of_ble_eq_true rfl) (by intro k hk; exact newd_1 k hk) ?_
  rw [eh1]
  refine WP.cs (cl9 := 1) (sl9 := 14) rfl rfl ?_
  refine WP.dup d_X3_init_8 rfl ?_
  obtain ⟨h3, e2, H⟩ := ob H
  refine WP.cIN (As := []) (st := [.ref (hz h), .ref t]) (cl9 := 6) (sl9 := 190) d_X3_init_9 (ok_X0_init V e2) tv_X0_init ti_X0_init rfl rfl ln_X3_11 ⟨Nat.le_of_ble_eq_true rfl, Nat.le_of_ble_eq_true rfl, Nat.le_of_ble_eq_true rfl, Nat.le_of_ble_eq_true rfl⟩ rfl rfl (Nat.le_of_ble_eq_true rfl) rfl rfl ?_
  obtain ⟨h4, eh4, H⟩ := ob H
  refine WP.uR d_X3_init_12 gf_X3_12 rfl (x := (some (hz h))) (fun _ => rfl) rfl rfl eh4 ?_
  refine WP.aload_n d_X3_init_15 0 rfl ?_
  refine WP.iconst d_X3_init_16 ki_4 ?_
  obtain ⟨h5, eh5, H⟩ := ob H
  refine WP.anew (c := 26) d_X3_init_17 (by decide) rfl (by decide) wc_X3_18 eh5 (Nat.le_of_ble_eq_true rfl) (Nat.le_of_ble_eq_true rfl) (Nat.le_of_ble_eq_true rfl) fc_26 ?_
  refine WP.cs (cl9 := 7) (sl9 := 194) rfl rfl ?_
  obtain ⟨h6, eh6, H⟩ := ob H
  refine WP.vR d_X3_init_20 gf_X3_20 rfl rfl rfl (x := (some (hz h4))) (fun _ => rfl) rfl rfl eh6 ?_
  refine WP.aload_n d_X3_init_23 0 rfl ?_
  refine WP.iconst d_X3_init_24 ki_4 ?_
  obtain ⟨h7, eh7, H⟩ := ob H
  refine WP.newarr (c := 20) d_X3_init_25 (Nat.le_of_ble_eq_true rfl) (Nat.le_of_ble_eq_true rfl) rfl wa_int eh7 (Nat.le_of_ble_eq_true rfl) fc_20 (Nat.le_of_ble_eq_true rfl) (Nat.le_of_ble_eq_true rfl) newa_20 ?_
  refine WP.cs (cl9 := 8) (sl9 := 198) rfl rfl ?_
  obtain ⟨h8, eh8, H⟩ := ob H
  refine WP.vR d_X3_init_27 gf_X3_24 rfl rfl rfl (x := (some (hz h6))) (fun _ => rfl) rfl rfl eh8 ?_
  refine WP.iconst d_X3_init_30 ki_1 ?_
  refine WP.istore_n (lv9 := [(1, .int 1), (0, .ref t)]) d_X3_init_31 (Nat.le_of_ble_eq_true rfl) rfl ?_
  obtain ⟨h15, e14, H⟩ := ob H
  refine WP.sub [1, 0] (lv' := [(0, .ref t), (1, .int 1)]) rfl ?_
  refine okl_X3_init_L32 V (CL := 16) (SL := 690) (Nat.le_of_ble_eq_true rfl) (Nat.le_of_ble_eq_true rfl) _ e14 (Nat.le_of_ble_eq_true rfl) (Nat.le_of_ble_eq_true rfl) ?_
  cases H
  exact WP.return_ d_X3_init_53 rfl (Nat.le_of_ble_eq_true rfl) (Nat.le_of_ble_eq_true rfl)

set_option maxRecDepth 20000 in
set_option maxHeartbeats 4000000 in
theorem ok_X3_clearDraft (V : EV) {h : HA} {t : Nat} {l1 : Int32} {hR : HA} (H : X3_clearDraft h t l1 = some hR) : MG V M_X3_clearDraft [.ref t, .int l1] h none hR := by
  unfold X3_clearDraft at H
  obtain ⟨_, H⟩ := oc H
  refine MG.of (lv0 := [(0, .ref t), (1, .int l1)]) pn_X3 rfl (Nat.le_of_ble_eq_true rfl) ?_
  refine WP.iload_n d_X3_clearDraft_0 1 rfl ?_
  rcases oj H with ⟨hc, H⟩ | ⟨hc, H⟩
  · refine WP.if_ne_t d_X3_clearDraft_1 hc ?_
    refine WP.aload_n d_X3_clearDraft_4 0 rfl ?_
    obtain ⟨x1, ex1, H⟩ := ob H
    refine WP.fR d_X3_clearDraft_5 gf_X3_12 (fun _ => rfl) ex1 ?_
    obtain ⟨h3, e2, H⟩ := ob H
    refine WP.cV (c := 1) (As := []) (st := []) (st9 := []) (cl9 := 0) (sl9 := 0) d_X3_clearDraft_8 (ok_X0_reset V e2) tv_X0_reset ti_X0_reset ts_X0_reset lk_X3_76 r_X3_clearDraft_X0_reset kc_X0_reset (kd_X0_reset e2) rfl rfl (Nat.le_of_ble_eq_true rfl) rfl rfl rfl ?_
    refine WP.goto d_X3_clearDraft_11 ?_
    cases H
    exact WP.return_ d_X3_clearDraft_24 rfl (Nat.le_of_ble_eq_true rfl) (Nat.le_of_ble_eq_true rfl)
  · refine WP.if_ne_f d_X3_clearDraft_1 hc ?_
    refine WP.aload_n d_X3_clearDraft_14 0 rfl ?_
    obtain ⟨x4, ex4, H⟩ := ob H
    refine WP.fR d_X3_clearDraft_15 gf_X3_20 (fun _ => rfl) ex4 ?_
    refine WP.iload_n d_X3_clearDraft_18 1 rfl ?_
    obtain ⟨x5, ex5, H⟩ := ob H
    refine WP.aaldR d_X3_clearDraft_19 (by decide) ex5 ?_
    refine WP.iconst d_X3_clearDraft_20 ki_0 ?_
    obtain ⟨h6, eh6, H⟩ := ob H
    refine WP.uI d_X3_clearDraft_21 gf_X3_79 rfl (Or.inl rfl) rfl rfl eh6 ?_
    cases H
    exact WP.return_ d_X3_clearDraft_24 rfl (Nat.le_of_ble_eq_true rfl) (Nat.le_of_ble_eq_true rfl)

set_option maxRecDepth 20000 in
set_option maxHeartbeats 4000000 in
theorem ok_X3_isLetter (V : EV) {h : HA} {l0 : Int32} {r : Int32} (H : X3_isLetter l0 = some r) : MG V M_X3_isLetter [.int l0] h (some (.int r)) h := by
  unfold X3_isLetter at H
  refine MG.of (lv0 := [(0, .int l0)]) pn_X3 rfl (Nat.le_of_ble_eq_true rfl) ?_
  refine WP.iload_n d_X3_isLetter_0 0 rfl ?_
  refine WP.bipush d_X3_isLetter_1 kb_97 ?_
  rcases oj H with ⟨hc, H⟩ | ⟨hc, H⟩
  · refine WP.icmp_lt_t d_X3_isLetter_3 hc ?_
    refine WP.iconst d_X3_isLetter_16 ki_0 ?_
    cases H
    exact WP.ireturn d_X3_isLetter_17 rfl rfl (Nat.le_of_ble_eq_true rfl) (Nat.le_of_ble_eq_true rfl)
  · refine WP.icmp_lt_f d_X3_isLetter_3 hc ?_
    refine WP.iload_n d_X3_isLetter_6 0 rfl ?_
    refine WP.bipush d_X3_isLetter_7 kb_122 ?_
    rcases oj H with ⟨hc, H⟩ | ⟨hc, H⟩
    · refine WP.icmp_gt_t d_X3_isLetter_9 hc ?_
      refine WP.iconst d_X3_isLetter_16 ki_0 ?_
      cases H
      exact WP.ireturn d_X3_isLetter_17 rfl rfl (Nat.le_of_ble_eq_true rfl) (Nat.le_of_ble_eq_true rfl)
    · refine WP.icmp_gt_f d_X3_isLetter_9 hc ?_
      refine WP.iconst d_X3_isLetter_12 ki_1 ?_
      refine WP.goto d_X3_isLetter_13 ?_
      cases H
      exact WP.ireturn d_X3_isLetter_17 rfl rfl (Nat.le_of_ble_eq_true rfl) (Nat.le_of_ble_eq_true rfl)

set_option maxRecDepth 20000 in
set_option maxHeartbeats 4000000 in
theorem okl_X3_passWord_L5 (V : EV) {vF : Option Value} {hF : HA} {t : Nat} (n : Nat) : ∀ {h : HA} {hR : HA}, (H : X3_passWord_L5 t n h = some hR) → (K : WP V M_X3_passWord 44 [] [] hR 0 0 vF hF) → WP V M_X3_passWord 5 [(0, .ref t)] [] h 0 0 vF hF := by
  induction n with
  | zero =>
    intro h hR H K
    rw [X3_passWord_L5] at H
    cases H
  | succ n ih =>
    intro h hR H K
    rw [X3_passWord_L5] at H
    refine WP.aload_n d_X3_passWord_5 0 rfl ?_
    obtain ⟨x2, ex2, H⟩ := ob H
    refine WP.fI d_X3_passWord_6 gf_X3_40 (fun _ => rfl) ex2 ?_
    refine WP.aload_n d_X3_passWord_9 0 rfl ?_
    obtain ⟨x3, ex3, H⟩ := ob H
    refine WP.fI d_X3_passWord_10 gf_X3_36 (fun _ => rfl) ex3 ?_
    rcases oj H with ⟨hc, H⟩ | ⟨hc, H⟩
    · refine WP.icmp_ge_t d_X3_passWord_13 hc ?_
      refine WP.aload_n d_X3_passWord_16 0 rfl ?_
      obtain ⟨x4, ex4, H⟩ := ob H
      refine WP.fR d_X3_passWord_17 gf_X3_32 (fun _ => rfl) ex4 ?_
      refine WP.aload_n d_X3_passWord_20 0 rfl ?_
      obtain ⟨x5, ex5, H⟩ := ob H
      refine WP.fI d_X3_passWord_21 gf_X3_40 (fun _ => rfl) ex5 ?_
      obtain ⟨x6, ex6, H⟩ := ob H
      refine WP.bald d_X3_passWord_24 ex6 ?_
      obtain ⟨x8, e7, H⟩ := ob H
      refine WP.cS (As := [.int x6]) (st := []) (st9 := [.int x8]) (cl9 := 0) (sl9 := 0) d_X3_passWord_25 (ok_X3_isLetter V (h := h) e7) tv_X3_isLetter ts_X3_isLetter lk_X3_82 r_X3_passWord_X3_isLetter rfl rfl (Nat.le_of_ble_eq_true rfl) rfl rfl rfl ?_
      rcases oj H with ⟨hc, H⟩ | ⟨hc, H⟩
      · refine WP.if_eq_t d_X3_passWord_28 hc ?_
        cases H
        exact WP.sub [] rfl K
      · refine WP.if_eq_f d_X3_passWord_28 hc ?_
        refine WP.aload_n d_X3_passWord_31 0 rfl ?_
        refine WP.dup d_X3_passWord_32 rfl ?_
        obtain ⟨x9, ex9, H⟩ := ob H
        refine WP.fI d_X3_passWord_33 gf_X3_40 (fun _ => rfl) ex9 ?_
        refine WP.iconst d_X3_passWord_36 ki_1 ?_
        refine WP.iadd d_X3_passWord_37 ?_
        obtain ⟨h10, eh10, H⟩ := ob H
        refine WP.uI d_X3_passWord_38 gf_X3_40 rfl (Or.inl rfl) rfl rfl eh10 ?_
        refine WP.goto d_X3_passWord_41 ?_
        refine WP.sub [0] (lv' := [(0, .ref t)]) rfl ?_
        exact ih H K
    · refine WP.icmp_ge_f d_X3_passWord_13 hc ?_
      cases H
      exact WP.sub [] rfl K

set_option maxRecDepth 20000 in
set_option maxHeartbeats 4000000 in
theorem ok_X3_passWord (V : EV) {h : HA} {t : Nat} {hR : HA} (H : X3_passWord h t = some hR) : MG V M_X3_passWord [.ref t] h none hR := by
  unfold X3_passWord at H
  obtain ⟨_, H⟩ := oc H
  refine MG.of (lv0 := [(0, .ref t)]) pn_X3 rfl (Nat.le_of_ble_eq_true rfl) ?_
  refine WP.aload_n d_X3_passWord_0 0 rfl ?_
  refine WP.iconst d_X3_passWord_1 ki_1 ?_
  obtain ⟨h1, eh1, H⟩ := ob H
  refine WP.uI d_X3_passWord_2 gf_X3_63 rfl (Or.inl rfl) rfl rfl eh1 ?_
  obtain ⟨h12, e11, H⟩ := ob H
  refine WP.sub [0] (lv' := [(0, .ref t)]) rfl ?_
  refine okl_X3_passWord_L5 V _ e11 ?_
  cases H
  exact WP.return_ d_X3_passWord_44 rfl (Nat.le_of_ble_eq_true rfl) (Nat.le_of_ble_eq_true rfl)

set_option maxRecDepth 20000 in
set_option maxHeartbeats 4000000 in
theorem ok_X3_isDigit (V : EV) {h : HA} {l0 : Int32} {r : Int32} (H : X3_isDigit l0 = some r) : MG V M_X3_isDigit [.int l0] h (some (.int r)) h := by
  unfold X3_isDigit at H
  refine MG.of (lv0 := [(0, .int l0)]) pn_X3 rfl (Nat.le_of_ble_eq_true rfl) ?_
  refine WP.iload_n d_X3_isDigit_0 0 rfl ?_
  refine WP.bipush d_X3_isDigit_1 kb_48 ?_
  rcases oj H with ⟨hc, H⟩ | ⟨hc, H⟩
  · refine WP.icmp_lt_t d_X3_isDigit_3 hc ?_
    refine WP.iconst d_X3_isDigit_16 ki_0 ?_
    cases H
    exact WP.ireturn d_X3_isDigit_17 rfl rfl (Nat.le_of_ble_eq_true rfl) (Nat.le_of_ble_eq_true rfl)
  · refine WP.icmp_lt_f d_X3_isDigit_3 hc ?_
    refine WP.iload_n d_X3_isDigit_6 0 rfl ?_
    refine WP.bipush d_X3_isDigit_7 kb_57 ?_
    rcases oj H with ⟨hc, H⟩ | ⟨hc, H⟩
    · refine WP.icmp_gt_t d_X3_isDigit_9 hc ?_
      refine WP.iconst d_X3_isDigit_16 ki_0 ?_
      cases H
      exact WP.ireturn d_X3_isDigit_17 rfl rfl (Nat.le_of_ble_eq_true rfl) (Nat.le_of_ble_eq_true rfl)
    · refine WP.icmp_gt_f d_X3_isDigit_9 hc ?_
      refine WP.iconst d_X3_isDigit_12 ki_1 ?_
      refine WP.goto d_X3_isDigit_13 ?_
      cases H
      exact WP.ireturn d_X3_isDigit_17 rfl rfl (Nat.le_of_ble_eq_true rfl) (Nat.le_of_ble_eq_true rfl)

set_option maxRecDepth 20000 in
set_option maxHeartbeats 4000000 in
theorem okl_X3_passDigits_L5 (V : EV) {vF : Option Value} {hF : HA} {t : Nat} (n : Nat) : ∀ {h : HA} {hR : HA}, (H : X3_passDigits_L5 t n h = some hR) → (K : WP V M_X3_passDigits 68 [(0, .ref t)] [] hR 0 0 vF hF) → WP V M_X3_passDigits 5 [(0, .ref t)] [] h 0 0 vF hF := by
  induction n with
  | zero =>
    intro h hR H K
    rw [X3_passDigits_L5] at H
    cases H
  | succ n ih =>
    intro h hR H K
    rw [X3_passDigits_L5] at H
    refine WP.aload_n d_X3_passDigits_5 0 rfl ?_
    obtain ⟨x2, ex2, H⟩ := ob H
    refine WP.fI d_X3_passDigits_6 gf_X3_40 (fun _ => rfl) ex2 ?_
    refine WP.aload_n d_X3_passDigits_9 0 rfl ?_
    obtain ⟨x3, ex3, H⟩ := ob H
    refine WP.fI d_X3_passDigits_10 gf_X3_36 (fun _ => rfl) ex3 ?_
    rcases oj H with ⟨hc, H⟩ | ⟨hc, H⟩
    · refine WP.icmp_ge_t d_X3_passDigits_13 hc ?_
      refine WP.aload_n d_X3_passDigits_16 0 rfl ?_
      obtain ⟨x4, ex4, H⟩ := ob H
      refine WP.fR d_X3_passDigits_17 gf_X3_32 (fun _ => rfl) ex4 ?_
      refine WP.aload_n d_X3_passDigits_20 0 rfl ?_
      obtain ⟨x5, ex5, H⟩ := ob H
      refine WP.fI d_X3_passDigits_21 gf_X3_40 (fun _ => rfl) ex5 ?_
      obtain ⟨x6, ex6, H⟩ := ob H
      refine WP.bald d_X3_passDigits_24 ex6 ?_
      obtain ⟨x8, e7, H⟩ := ob H
      refine WP.cS (As := [.int x6]) (st := []) (st9 := [.int x8]) (cl9 := 0) (sl9 := 0) d_X3_passDigits_25 (ok_X3_isDigit V (h := h) e7) tv_X3_isDigit ts_X3_isDigit lk_X3_88 r_X3_passDigits_X3_isDigit rfl rfl (Nat.le_of_ble_eq_true rfl) rfl rfl rfl ?_
      rcases oj H with ⟨hc, H⟩ | ⟨hc, H⟩
      · refine WP.if_eq_t d_X3_passDigits_28 hc ?_
        cases H
        exact WP.sub [0] rfl K
      · refine WP.if_eq_f d_X3_passDigits_28 hc ?_
        refine WP.aload_n d_X3_passDigits_31 0 rfl ?_
        refine WP.aload_n d_X3_passDigits_32 0 rfl ?_
        obtain ⟨x9, ex9, H⟩ := ob H
        refine WP.fI d_X3_passDigits_33 gf_X3_94 (fun _ => rfl) ex9 ?_
        refine WP.bipush d_X3_passDigits_36 kb_10 ?_
        refine WP.imul d_X3_passDigits_38 ?_
        refine WP.aload_n d_X3_passDigits_39 0 rfl ?_
        obtain ⟨x10, ex10, H⟩ := ob H
        refine WP.fR d_X3_passDigits_40 gf_X3_32 (fun _ => rfl) ex10 ?_
        refine WP.aload_n d_X3_passDigits_43 0 rfl ?_
        obtain ⟨x11, ex11, H⟩ := ob H
        refine WP.fI d_X3_passDigits_44 gf_X3_40 (fun _ => rfl) ex11 ?_
        obtain ⟨x12, ex12, H⟩ := ob H
        refine WP.bald d_X3_passDigits_47 ex12 ?_
        refine WP.iadd d_X3_passDigits_48 ?_
        refine WP.bipush d_X3_passDigits_49 kb_48 ?_
        refine WP.isub d_X3_passDigits_51 ?_
        obtain ⟨h13, eh13, H⟩ := ob H
        refine WP.uI d_X3_passDigits_52 gf_X3_94 rfl (Or.inl rfl) rfl rfl eh13 ?_
        refine WP.aload_n d_X3_passDigits_55 0 rfl ?_
        refine WP.dup d_X3_passDigits_56 rfl ?_
        obtain ⟨x14, ex14, H⟩ := ob H
        refine WP.fI d_X3_passDigits_57 gf_X3_40 (fun _ => rfl) ex14 ?_
        refine WP.iconst d_X3_passDigits_60 ki_1 ?_
        refine WP.iadd d_X3_passDigits_61 ?_
        obtain ⟨h15, eh15, H⟩ := ob H
        refine WP.uI d_X3_passDigits_62 gf_X3_40 rfl (Or.inl rfl) rfl rfl eh15 ?_
        refine WP.goto d_X3_passDigits_65 ?_
        refine WP.sub [0] (lv' := [(0, .ref t)]) rfl ?_
        exact ih H K
    · refine WP.icmp_ge_f d_X3_passDigits_13 hc ?_
      cases H
      exact WP.sub [0] rfl K

set_option maxRecDepth 20000 in
set_option maxHeartbeats 4000000 in
theorem ok_X3_passDigits (V : EV) {h : HA} {t : Nat} {hR : HA} (H : X3_passDigits h t = some hR) : MG V M_X3_passDigits [.ref t] h none hR := by
  unfold X3_passDigits at H
  obtain ⟨_, H⟩ := oc H
  refine MG.of (lv0 := [(0, .ref t)]) pn_X3 rfl (Nat.le_of_ble_eq_true rfl) ?_
  refine WP.aload_n d_X3_passDigits_0 0 rfl ?_
  refine WP.iconst d_X3_passDigits_1 ki_0 ?_
  obtain ⟨h1, eh1, H⟩ := ob H
  refine WP.uI d_X3_passDigits_2 gf_X3_94 rfl (Or.inl rfl) rfl rfl eh1 ?_
  obtain ⟨h17, e16, H⟩ := ob H
  refine WP.sub [0] (lv' := [(0, .ref t)]) rfl ?_
  refine okl_X3_passDigits_L5 V _ e16 ?_
  refine WP.aload_n d_X3_passDigits_68 0 rfl ?_
  refine WP.aload_n d_X3_passDigits_69 0 rfl ?_
  obtain ⟨x18, ex18, H⟩ := ob H
  refine WP.fI d_X3_passDigits_70 gf_X3_40 (fun _ => rfl) ex18 ?_
  refine WP.aload_n d_X3_passDigits_73 0 rfl ?_
  obtain ⟨x19, ex19, H⟩ := ob H
  refine WP.fI d_X3_passDigits_74 gf_X3_70 (fun _ => rfl) ex19 ?_
  refine WP.isub d_X3_passDigits_77 ?_
  refine WP.iconst d_X3_passDigits_78 ki_2 ?_
  rcases oj H with ⟨hc, H⟩ | ⟨hc, H⟩
  · refine WP.icmp_gt_t d_X3_passDigits_79 hc ?_
    refine WP.iconst d_X3_passDigits_86 ki_5 ?_
    obtain ⟨h20, eh20, H⟩ := ob H
    refine WP.uI d_X3_passDigits_87 gf_X3_63 rfl (Or.inl rfl) rfl rfl eh20 ?_
    cases H
    exact WP.return_ d_X3_passDigits_90 rfl (Nat.le_of_ble_eq_true rfl) (Nat.le_of_ble_eq_true rfl)
  · refine WP.icmp_gt_f d_X3_passDigits_79 hc ?_
    refine WP.iconst d_X3_passDigits_82 ki_2 ?_
    refine WP.goto d_X3_passDigits_83 ?_
    obtain ⟨h21, eh21, H⟩ := ob H
    refine WP.uI d_X3_passDigits_87 gf_X3_63 rfl (Or.inl rfl) rfl rfl eh21 ?_
    cases H
    exact WP.return_ d_X3_passDigits_90 rfl (Nat.le_of_ble_eq_true rfl) (Nat.le_of_ble_eq_true rfl)

set_option maxRecDepth 20000 in
set_option maxHeartbeats 4000000 in
theorem okl_X3_advance_L0 (V : EV) {vF : Option Value} {hF : HA} {t : Nat} (n : Nat) : ∀ {h : HA} {hR : HA}, (H : X3_advance_L0 t n h = some hR) → (K : WP V M_X3_advance 52 [(0, .ref t)] [] hR 0 0 vF hF) → WP V M_X3_advance 0 [(0, .ref t)] [] h 0 0 vF hF := by
  induction n with
  | zero =>
    intro h hR H K
    rw [X3_advance_L0] at H
    cases H
  | succ n ih =>
    intro h hR H K
    rw [X3_advance_L0] at H
    refine WP.aload_n d_X3_advance_0 0 rfl ?_
    obtain ⟨x1, ex1, H⟩ := ob H
    refine WP.fI d_X3_advance_1 gf_X3_40 (fun _ => rfl) ex1 ?_
    refine WP.aload_n d_X3_advance_4 0 rfl ?_
    obtain ⟨x2, ex2, H⟩ := ob H
    refine WP.fI d_X3_advance_5 gf_X3_36 (fun _ => rfl) ex2 ?_
    rcases oj H with ⟨hc, H⟩ | ⟨hc, H⟩
    · refine WP.icmp_ge_t d_X3_advance_8 hc ?_
      refine WP.aload_n d_X3_advance_11 0 rfl ?_
      obtain ⟨x3, ex3, H⟩ := ob H
      refine WP.fR d_X3_advance_12 gf_X3_32 (fun _ => rfl) ex3 ?_
      refine WP.aload_n d_X3_advance_15 0 rfl ?_
      obtain ⟨x4, ex4, H⟩ := ob H
      refine WP.fI d_X3_advance_16 gf_X3_40 (fun _ => rfl) ex4 ?_
      obtain ⟨x5, ex5, H⟩ := ob H
      refine WP.bald d_X3_advance_19 ex5 ?_
      refine WP.bipush d_X3_advance_20 kb_10 ?_
      rcases oj H with ⟨hc, H⟩ | ⟨hc, H⟩
      · refine WP.icmp_eq_t d_X3_advance_22 hc ?_
        refine WP.aload_n d_X3_advance_39 0 rfl ?_
        refine WP.dup d_X3_advance_40 rfl ?_
        obtain ⟨x6, ex6, H⟩ := ob H
        refine WP.fI d_X3_advance_41 gf_X3_40 (fun _ => rfl) ex6 ?_
        refine WP.iconst d_X3_advance_44 ki_1 ?_
        refine WP.iadd d_X3_advance_45 ?_
        obtain ⟨h7, eh7, H⟩ := ob H
        refine WP.uI d_X3_advance_46 gf_X3_40 rfl (Or.inl rfl) rfl rfl eh7 ?_
        refine WP.goto d_X3_advance_49 ?_
        refine WP.sub [0] (lv' := [(0, .ref t)]) rfl ?_
        exact ih H K
      · refine WP.icmp_eq_f d_X3_advance_22 hc ?_
        refine WP.aload_n d_X3_advance_25 0 rfl ?_
        obtain ⟨x8, ex8, H⟩ := ob H
        refine WP.fR d_X3_advance_26 gf_X3_32 (fun _ => rfl) ex8 ?_
        refine WP.aload_n d_X3_advance_29 0 rfl ?_
        obtain ⟨x9, ex9, H⟩ := ob H
        refine WP.fI d_X3_advance_30 gf_X3_40 (fun _ => rfl) ex9 ?_
        obtain ⟨x10, ex10, H⟩ := ob H
        refine WP.bald d_X3_advance_33 ex10 ?_
        refine WP.bipush d_X3_advance_34 kb_32 ?_
        rcases oj H with ⟨hc, H⟩ | ⟨hc, H⟩
        · refine WP.icmp_ne_t d_X3_advance_36 hc ?_
          refine WP.aload_n d_X3_advance_39 0 rfl ?_
          refine WP.dup d_X3_advance_40 rfl ?_
          obtain ⟨x11, ex11, H⟩ := ob H
          refine WP.fI d_X3_advance_41 gf_X3_40 (fun _ => rfl) ex11 ?_
          refine WP.iconst d_X3_advance_44 ki_1 ?_
          refine WP.iadd d_X3_advance_45 ?_
          obtain ⟨h12, eh12, H⟩ := ob H
          refine WP.uI d_X3_advance_46 gf_X3_40 rfl (Or.inl rfl) rfl rfl eh12 ?_
          refine WP.goto d_X3_advance_49 ?_
          refine WP.sub [0] (lv' := [(0, .ref t)]) rfl ?_
          exact ih H K
        · refine WP.icmp_ne_f d_X3_advance_36 hc ?_
          cases H
          exact WP.sub [0] rfl K
    · refine WP.icmp_ge_f d_X3_advance_8 hc ?_
      cases H
      exact WP.sub [0] rfl K

set_option maxRecDepth 20000 in
set_option maxHeartbeats 4000000 in
theorem ok_X3_advance (V : EV) {h : HA} {t : Nat} {hR : HA} (H : X3_advance h t = some hR) : MG V M_X3_advance [.ref t] h none hR := by
  unfold X3_advance at H
  obtain ⟨_, H⟩ := oc H
  refine MG.of (lv0 := [(0, .ref t)]) pn_X3 rfl (Nat.le_of_ble_eq_true rfl) ?_
  obtain ⟨h14, e13, H⟩ := ob H
  refine WP.sub [0] (lv' := [(0, .ref t)]) rfl ?_
  refine okl_X3_advance_L0 V _ e13 ?_
  refine WP.aload_n d_X3_advance_52 0 rfl ?_
  refine WP.aload_n d_X3_advance_53 0 rfl ?_
  obtain ⟨x15, ex15, H⟩ := ob H
  refine WP.fI d_X3_advance_54 gf_X3_40 (fun _ => rfl) ex15 ?_
  obtain ⟨h16, eh16, H⟩ := ob H
  refine WP.uI d_X3_advance_57 gf_X3_70 rfl (Or.inl rfl) rfl rfl eh16 ?_
  refine WP.aload_n d_X3_advance_60 0 rfl ?_
  obtain ⟨x17, ex17, H⟩ := ob H
  refine WP.fI d_X3_advance_61 gf_X3_40 (fun _ => rfl) ex17 ?_
  refine WP.aload_n d_X3_advance_64 0 rfl ?_
  obtain ⟨x18, ex18, H⟩ := ob H
  refine WP.fI d_X3_advance_65 gf_X3_36 (fun _ => rfl) ex18 ?_
  rcases oj H with ⟨hc, H⟩ | ⟨hc, H⟩
  · refine WP.icmp_lt_t d_X3_advance_68 hc ?_
    refine WP.aload_n d_X3_advance_79 0 rfl ?_
    obtain ⟨x19, ex19, H⟩ := ob H
    refine WP.fR d_X3_advance_80 gf_X3_32 (fun _ => rfl) ex19 ?_
    refine WP.aload_n d_X3_advance_83 0 rfl ?_
    obtain ⟨x20, ex20, H⟩ := ob H
    refine WP.fI d_X3_advance_84 gf_X3_40 (fun _ => rfl) ex20 ?_
    obtain ⟨x21, ex21, H⟩ := ob H
    refine WP.bald d_X3_advance_87 ex21 ?_
    obtain ⟨x23, e22, H⟩ := ob H
    refine WP.cS (As := [.int x21]) (st := []) (st9 := [.int x23]) (cl9 := 0) (sl9 := 0) d_X3_advance_88 (ok_X3_isLetter V (h := h16) e22) tv_X3_isLetter ts_X3_isLetter lk_X3_82 r_X3_advance_X3_isLetter rfl rfl (Nat.le_of_ble_eq_true rfl) rfl rfl rfl ?_
    rcases oj H with ⟨hc, H⟩ | ⟨hc, H⟩
    · refine WP.if_eq_t d_X3_advance_91 hc ?_
      refine WP.aload_n d_X3_advance_101 0 rfl ?_
      obtain ⟨x24, ex24, H⟩ := ob H
      refine WP.fR d_X3_advance_102 gf_X3_32 (fun _ => rfl) ex24 ?_
      refine WP.aload_n d_X3_advance_105 0 rfl ?_
      obtain ⟨x25, ex25, H⟩ := ob H
      refine WP.fI d_X3_advance_106 gf_X3_40 (fun _ => rfl) ex25 ?_
      obtain ⟨x26, ex26, H⟩ := ob H
      refine WP.bald d_X3_advance_109 ex26 ?_
      obtain ⟨x28, e27, H⟩ := ob H
      refine WP.cS (As := [.int x26]) (st := []) (st9 := [.int x28]) (cl9 := 0) (sl9 := 0) d_X3_advance_110 (ok_X3_isDigit V (h := h16) e27) tv_X3_isDigit ts_X3_isDigit lk_X3_88 r_X3_advance_X3_isDigit rfl rfl (Nat.le_of_ble_eq_true rfl) rfl rfl rfl ?_
      rcases oj H with ⟨hc, H⟩ | ⟨hc, H⟩
      · refine WP.if_eq_t d_X3_advance_113 hc ?_
        refine WP.aload_n d_X3_advance_123 0 rfl ?_
        obtain ⟨x29, ex29, H⟩ := ob H
        refine WP.fR d_X3_advance_124 gf_X3_32 (fun _ => rfl) ex29 ?_
        refine WP.aload_n d_X3_advance_127 0 rfl ?_
        obtain ⟨x30, ex30, H⟩ := ob H
        refine WP.fI d_X3_advance_128 gf_X3_40 (fun _ => rfl) ex30 ?_
        obtain ⟨x31, ex31, H⟩ := ob H
        refine WP.bald d_X3_advance_131 ex31 ?_
        refine WP.istore_n (lv9 := [(1, .int x31), (0, .ref t)]) d_X3_advance_132 (Nat.le_of_ble_eq_true rfl) rfl ?_
        refine WP.aload_n d_X3_advance_133 1 rfl ?_
        refine WP.iload_n d_X3_advance_134 0 rfl ?_
        refine WP.bipush d_X3_advance_135 kb_59 ?_
        rcases oj H with ⟨hc, H⟩ | ⟨hc, H⟩
        · refine WP.icmp_ne_t d_X3_advance_137 hc ?_
          refine WP.iconst d_X3_advance_140 ki_4 ?_
          refine WP.goto d_X3_advance_141 ?_
          obtain ⟨h32, eh32, H⟩ := ob H
          refine WP.uI d_X3_advance_155 gf_X3_63 rfl (Or.inl rfl) rfl rfl eh32 ?_
          refine WP.aload_n d_X3_advance_158 1 rfl ?_
          refine WP.dup d_X3_advance_159 rfl ?_
          obtain ⟨x33, ex33, H⟩ := ob H
          refine WP.fI d_X3_advance_160 gf_X3_40 (fun _ => rfl) ex33 ?_
          refine WP.iconst d_X3_advance_163 ki_1 ?_
          refine WP.iadd d_X3_advance_164 ?_
          obtain ⟨h34, eh34, H⟩ := ob H
          refine WP.uI d_X3_advance_165 gf_X3_40 rfl (Or.inl rfl) rfl rfl eh34 ?_
          cases H
          exact WP.return_ d_X3_advance_168 rfl (Nat.le_of_ble_eq_true rfl) (Nat.le_of_ble_eq_true rfl)
        · refine WP.icmp_ne_f d_X3_advance_137 hc ?_
          refine WP.iload_n d_X3_advance_144 0 rfl ?_
          refine WP.bipush d_X3_advance_145 kb_45 ?_
          rcases oj H with ⟨hc, H⟩ | ⟨hc, H⟩
          · refine WP.icmp_ne_t d_X3_advance_147 hc ?_
            refine WP.iconst d_X3_advance_150 ki_3 ?_
            refine WP.goto d_X3_advance_151 ?_
            obtain ⟨h35, eh35, H⟩ := ob H
            refine WP.uI d_X3_advance_155 gf_X3_63 rfl (Or.inl rfl) rfl rfl eh35 ?_
            refine WP.aload_n d_X3_advance_158 1 rfl ?_
            refine WP.dup d_X3_advance_159 rfl ?_
            obtain ⟨x36, ex36, H⟩ := ob H
            refine WP.fI d_X3_advance_160 gf_X3_40 (fun _ => rfl) ex36 ?_
            refine WP.iconst d_X3_advance_163 ki_1 ?_
            refine WP.iadd d_X3_advance_164 ?_
            obtain ⟨h37, eh37, H⟩ := ob H
            refine WP.uI d_X3_advance_165 gf_X3_40 rfl (Or.inl rfl) rfl rfl eh37 ?_
            cases H
            exact WP.return_ d_X3_advance_168 rfl (Nat.le_of_ble_eq_true rfl) (Nat.le_of_ble_eq_true rfl)
          · refine WP.icmp_ne_f d_X3_advance_147 hc ?_
            refine WP.iconst d_X3_advance_154 ki_5 ?_
            obtain ⟨h38, eh38, H⟩ := ob H
            refine WP.uI d_X3_advance_155 gf_X3_63 rfl (Or.inl rfl) rfl rfl eh38 ?_
            refine WP.aload_n d_X3_advance_158 1 rfl ?_
            refine WP.dup d_X3_advance_159 rfl ?_
            obtain ⟨x39, ex39, H⟩ := ob H
            refine WP.fI d_X3_advance_160 gf_X3_40 (fun _ => rfl) ex39 ?_
            refine WP.iconst d_X3_advance_163 ki_1 ?_
            refine WP.iadd d_X3_advance_164 ?_
            obtain ⟨h40, eh40, H⟩ := ob H
            refine WP.uI d_X3_advance_165 gf_X3_40 rfl (Or.inl rfl) rfl rfl eh40 ?_
            cases H
            exact WP.return_ d_X3_advance_168 rfl (Nat.le_of_ble_eq_true rfl) (Nat.le_of_ble_eq_true rfl)
      · refine WP.if_eq_f d_X3_advance_113 hc ?_
        refine WP.aload_n d_X3_advance_116 0 rfl ?_
        obtain ⟨h42, e41, H⟩ := ob H
        refine WP.cV (c := 4) (As := []) (st := []) (st9 := []) (cl9 := 0) (sl9 := 0) d_X3_advance_117 (ok_X3_passDigits V e41) tv_X3_passDigits ti_X3_passDigits ts_X3_passDigits lk_X3_91 r_X3_advance_X3_passDigits kc_X3_passDigits (kd_X3_passDigits e41) rfl rfl (Nat.le_of_ble_eq_true rfl) rfl rfl rfl ?_
        refine WP.goto d_X3_advance_120 ?_
        cases H
        exact WP.return_ d_X3_advance_168 rfl (Nat.le_of_ble_eq_true rfl) (Nat.le_of_ble_eq_true rfl)
    · refine WP.if_eq_f d_X3_advance_91 hc ?_
      refine WP.aload_n d_X3_advance_94 0 rfl ?_
      obtain ⟨h44, e43, H⟩ := ob H
      refine WP.cV (c := 4) (As := []) (st := []) (st9 := []) (cl9 := 0) (sl9 := 0) d_X3_advance_95 (ok_X3_passWord V e43) tv_X3_passWord ti_X3_passWord ts_X3_passWord lk_X3_85 r_X3_advance_X3_passWord kc_X3_passWord (kd_X3_passWord e43) rfl rfl (Nat.le_of_ble_eq_true rfl) rfl rfl rfl ?_
      refine WP.goto d_X3_advance_98 ?_
      cases H
      exact WP.return_ d_X3_advance_168 rfl (Nat.le_of_ble_eq_true rfl) (Nat.le_of_ble_eq_true rfl)
  · refine WP.icmp_lt_f d_X3_advance_68 hc ?_
    refine WP.aload_n d_X3_advance_71 0 rfl ?_
    refine WP.iconst d_X3_advance_72 ki_0 ?_
    obtain ⟨h45, eh45, H⟩ := ob H
    refine WP.uI d_X3_advance_73 gf_X3_63 rfl (Or.inl rfl) rfl rfl eh45 ?_
    refine WP.goto d_X3_advance_76 ?_
    cases H
    exact WP.return_ d_X3_advance_168 rfl (Nat.le_of_ble_eq_true rfl) (Nat.le_of_ble_eq_true rfl)

set_option maxRecDepth 20000 in
set_option maxHeartbeats 4000000 in
theorem ok_X3_wordOf (V : EV) {h : HA} {l0 : Int32} {r : Nat} (H : X3_wordOf l0 = some r) : MG V M_X3_wordOf [.int l0] h (some (.ref (vE V (10 + r)))) h := by
  unfold X3_wordOf at H
  refine MG.of (lv0 := [(0, .int l0)]) pn_X3 rfl (Nat.le_of_ble_eq_true rfl) ?_
  refine WP.iload_n d_X3_wordOf_0 0 rfl ?_
  rcases oj H with ⟨hq0, H⟩ | ⟨hq0, H⟩
  · refine WP.tsw (t := 60) 0 d_X3_wordOf_1 (by rw [hq0]; decide) (by decide) rfl (by decide) ?_
    refine WP.ldcT (k := 0) d_X3_wordOf_60 (Nat.le_of_ble_eq_true rfl) rfl rfl ?_
    cases H
    exact WP.areturn (x := some (vE V (10 + 0))) d_X3_wordOf_62 rfl (Nat.le_of_ble_eq_true rfl) (Nat.le_of_ble_eq_true rfl)
  · skip
    rcases oj H with ⟨hq1, H⟩ | ⟨hq1, H⟩
    · refine WP.tsw (t := 63) 1 d_X3_wordOf_1 (by rw [hq1]; decide) (by decide) rfl (by decide) ?_
      refine WP.ldcT (k := 1) d_X3_wordOf_63 (Nat.le_of_ble_eq_true rfl) rfl rfl ?_
      cases H
      exact WP.areturn (x := some (vE V (10 + 1))) d_X3_wordOf_65 rfl (Nat.le_of_ble_eq_true rfl) (Nat.le_of_ble_eq_true rfl)
    · skip
      rcases oj H with ⟨hq2, H⟩ | ⟨hq2, H⟩
      · refine WP.tsw (t := 66) 2 d_X3_wordOf_1 (by rw [hq2]; decide) (by decide) rfl (by decide) ?_
        refine WP.ldcT (k := 2) d_X3_wordOf_66 (Nat.le_of_ble_eq_true rfl) rfl rfl ?_
        cases H
        exact WP.areturn (x := some (vE V (10 + 2))) d_X3_wordOf_68 rfl (Nat.le_of_ble_eq_true rfl) (Nat.le_of_ble_eq_true rfl)
      · skip
        rcases oj H with ⟨hq3, H⟩ | ⟨hq3, H⟩
        · refine WP.tsw (t := 69) 3 d_X3_wordOf_1 (by rw [hq3]; decide) (by decide) rfl (by decide) ?_
          refine WP.ldcT (k := 3) d_X3_wordOf_69 (Nat.le_of_ble_eq_true rfl) rfl rfl ?_
          cases H
          exact WP.areturn (x := some (vE V (10 + 3))) d_X3_wordOf_71 rfl (Nat.le_of_ble_eq_true rfl) (Nat.le_of_ble_eq_true rfl)
        · skip
          rcases oj H with ⟨hq4, H⟩ | ⟨hq4, H⟩
          · refine WP.tsw (t := 72) 4 d_X3_wordOf_1 (by rw [hq4]; decide) (by decide) rfl (by decide) ?_
            refine WP.ldcT (k := 4) d_X3_wordOf_72 (Nat.le_of_ble_eq_true rfl) rfl rfl ?_
            cases H
            exact WP.areturn (x := some (vE V (10 + 4))) d_X3_wordOf_74 rfl (Nat.le_of_ble_eq_true rfl) (Nat.le_of_ble_eq_true rfl)
          · skip
            rcases oj H with ⟨hq5, H⟩ | ⟨hq5, H⟩
            · refine WP.tsw (t := 75) 5 d_X3_wordOf_1 (by rw [hq5]; decide) (by decide) rfl (by decide) ?_
              refine WP.ldcT (k := 5) d_X3_wordOf_75 (Nat.le_of_ble_eq_true rfl) rfl rfl ?_
              cases H
              exact WP.areturn (x := some (vE V (10 + 5))) d_X3_wordOf_77 rfl (Nat.le_of_ble_eq_true rfl) (Nat.le_of_ble_eq_true rfl)
            · skip
              rcases oj H with ⟨hq6, H⟩ | ⟨hq6, H⟩
              · refine WP.tsw (t := 78) 6 d_X3_wordOf_1 (by rw [hq6]; decide) (by decide) rfl (by decide) ?_
                refine WP.ldcT (k := 6) d_X3_wordOf_78 (Nat.le_of_ble_eq_true rfl) rfl rfl ?_
                cases H
                exact WP.areturn (x := some (vE V (10 + 6))) d_X3_wordOf_80 rfl (Nat.le_of_ble_eq_true rfl) (Nat.le_of_ble_eq_true rfl)
              · skip
                rcases oj H with ⟨hq7, H⟩ | ⟨hq7, H⟩
                · refine WP.tsw (t := 81) 7 d_X3_wordOf_1 (by rw [hq7]; decide) (by decide) rfl (by decide) ?_
                  refine WP.ldcT (k := 7) d_X3_wordOf_81 (Nat.le_of_ble_eq_true rfl) rfl rfl ?_
                  cases H
                  exact WP.areturn (x := some (vE V (10 + 7))) d_X3_wordOf_83 rfl (Nat.le_of_ble_eq_true rfl) (Nat.le_of_ble_eq_true rfl)
                · skip
                  rcases oj H with ⟨hq8, H⟩ | ⟨hq8, H⟩
                  · refine WP.tsw (t := 84) 8 d_X3_wordOf_1 (by rw [hq8]; decide) (by decide) rfl (by decide) ?_
                    refine WP.ldcT (k := 8) d_X3_wordOf_84 (Nat.le_of_ble_eq_true rfl) rfl rfl ?_
                    cases H
                    exact WP.areturn (x := some (vE V (10 + 8))) d_X3_wordOf_86 rfl (Nat.le_of_ble_eq_true rfl) (Nat.le_of_ble_eq_true rfl)
                  · skip
                    rcases oj H with ⟨hq9, H⟩ | ⟨hq9, H⟩
                    · refine WP.tsw (t := 87) 9 d_X3_wordOf_1 (by rw [hq9]; decide) (by decide) rfl (by decide) ?_
                      refine WP.ldcT (k := 9) d_X3_wordOf_87 (Nat.le_of_ble_eq_true rfl) rfl rfl ?_
                      cases H
                      exact WP.areturn (x := some (vE V (10 + 9))) d_X3_wordOf_89 rfl (Nat.le_of_ble_eq_true rfl) (Nat.le_of_ble_eq_true rfl)
                    · skip
                      rcases oj H with ⟨hq10, H⟩ | ⟨hq10, H⟩
                      · refine WP.tsw (t := 90) 10 d_X3_wordOf_1 (by rw [hq10]; decide) (by decide) rfl (by decide) ?_
                        refine WP.ldcT (k := 10) d_X3_wordOf_90 (Nat.le_of_ble_eq_true rfl) rfl rfl ?_
                        cases H
                        exact WP.areturn (x := some (vE V (10 + 10))) d_X3_wordOf_92 rfl (Nat.le_of_ble_eq_true rfl) (Nat.le_of_ble_eq_true rfl)
                      · skip
                        refine WP.tswd (t := 93) d_X3_wordOf_1 (tsw_out (n := 11) [0, 1, 2, 3, 4, 5, 6, 7, 8, 9, 10] (by decide) (by decide +kernel) (List.forall_mem_cons.mpr ⟨hq0, (List.forall_mem_cons.mpr ⟨hq1, (List.forall_mem_cons.mpr ⟨hq2, (List.forall_mem_cons.mpr ⟨hq3, (List.forall_mem_cons.mpr ⟨hq4, (List.forall_mem_cons.mpr ⟨hq5, (List.forall_mem_cons.mpr ⟨hq6, (List.forall_mem_cons.mpr ⟨hq7, (List.forall_mem_cons.mpr ⟨hq8, (List.forall_mem_cons.mpr ⟨hq9, (List.forall_mem_cons.mpr ⟨hq10, (fun _ hz9 => absurd hz9 List.not_mem_nil)⟩)⟩)⟩)⟩)⟩)⟩)⟩)⟩)⟩)⟩)⟩)) (by decide) ?_
                        refine WP.ldcT (k := 11) d_X3_wordOf_93 (Nat.le_of_ble_eq_true rfl) rfl rfl ?_
                        cases H
                        exact WP.areturn (x := some (vE V (10 + 11))) d_X3_wordOf_95 rfl (Nat.le_of_ble_eq_true rfl) (Nat.le_of_ble_eq_true rfl)

set_option maxRecDepth 20000 in
set_option maxHeartbeats 4000000 in
theorem okl_X3_isHere_L20 (V : EV) {h : HA} {t : Nat} {l1 : Nat} (n : Nat) : ∀ {l2 : Int32} {r : Int32} , (H : X3_isHere_L20 h t l1 n l2 = some r) → WP V M_X3_isHere 20 [(0, .ref t), (1, .ref (vE V (10 + l1))), (2, .int l2)] [] h 0 0 (some (.int r)) h := by
  induction n with
  | zero =>
    intro l2 r H
    rw [X3_isHere_L20] at H
    cases H
  | succ n ih =>
    intro l2 r H
    rw [X3_isHere_L20] at H
    refine WP.iload_n d_X3_isHere_20 2 rfl ?_
    refine WP.aload_n d_X3_isHere_21 1 rfl ?_
    obtain ⟨x4, ex4, H⟩ := ob H
    refine WP.cTl (k := l1) d_X3_isHere_22 lk_X3_159 ex4 (Nat.le_of_ble_eq_true rfl) ?_
    rcases oj H with ⟨hc, H⟩ | ⟨hc, H⟩
    · refine WP.icmp_ge_t d_X3_isHere_25 hc ?_
      refine WP.aload_n d_X3_isHere_28 0 rfl ?_
      obtain ⟨x5, ex5, H⟩ := ob H
      refine WP.fR d_X3_isHere_29 gf_X3_32 (fun _ => rfl) ex5 ?_
      refine WP.aload_n d_X3_isHere_32 0 rfl ?_
      obtain ⟨x6, ex6, H⟩ := ob H
      refine WP.fI d_X3_isHere_33 gf_X3_70 (fun _ => rfl) ex6 ?_
      refine WP.iload_n d_X3_isHere_36 2 rfl ?_
      refine WP.iadd d_X3_isHere_37 ?_
      obtain ⟨x7, ex7, H⟩ := ob H
      refine WP.bald d_X3_isHere_38 ex7 ?_
      refine WP.aload_n d_X3_isHere_39 1 rfl ?_
      refine WP.iload_n d_X3_isHere_40 2 rfl ?_
      obtain ⟨x8, ex8, H⟩ := ob H
      refine WP.cTc (k := l1) d_X3_isHere_41 lk_X3_164 ex8 (Nat.le_of_ble_eq_true rfl) ?_
      rcases oj H with ⟨hc, H⟩ | ⟨hc, H⟩
      · refine WP.icmp_eq_t d_X3_isHere_44 hc ?_
        refine WP.iinc (lv9 := [(2, .int (l2 + 1)), (0, .ref t), (1, .ref (vE V (10 + l1)))]) d_X3_isHere_49 2 rfl ki_1 (Nat.le_of_ble_eq_true rfl) rfl ?_
        refine WP.goto d_X3_isHere_52 ?_
        refine WP.sub [1, 2, 0] (lv' := [(0, .ref t), (1, .ref (vE V (10 + l1))), (2, .int (l2 + 1))]) rfl ?_
        exact ih H
      · refine WP.icmp_eq_f d_X3_isHere_44 hc ?_
        refine WP.iconst d_X3_isHere_47 ki_0 ?_
        cases H
        exact WP.ireturn d_X3_isHere_48 rfl rfl (Nat.le_of_ble_eq_true rfl) (Nat.le_of_ble_eq_true rfl)
    · refine WP.icmp_ge_f d_X3_isHere_25 hc ?_
      refine WP.iconst d_X3_isHere_55 ki_1 ?_
      cases H
      exact WP.ireturn d_X3_isHere_56 rfl rfl (Nat.le_of_ble_eq_true rfl) (Nat.le_of_ble_eq_true rfl)

set_option maxRecDepth 20000 in
set_option maxHeartbeats 4000000 in
theorem ok_X3_isHere (V : EV) {h : HA} {t : Nat} {l1 : Nat} {r : Int32} (H : X3_isHere h t l1 = some r) : MG V M_X3_isHere [.ref t, .ref (vE V (10 + l1))] h (some (.int r)) h := by
  unfold X3_isHere at H
  obtain ⟨_, H⟩ := oc H
  refine MG.of (lv0 := [(0, .ref t), (1, .ref (vE V (10 + l1)))]) pn_X3 rfl (Nat.le_of_ble_eq_true rfl) ?_
  refine WP.aload_n d_X3_isHere_0 0 rfl ?_
  obtain ⟨x1, ex1, H⟩ := ob H
  refine WP.fI d_X3_isHere_1 gf_X3_40 (fun _ => rfl) ex1 ?_
  refine WP.aload_n d_X3_isHere_4 0 rfl ?_
  obtain ⟨x2, ex2, H⟩ := ob H
  refine WP.fI d_X3_isHere_5 gf_X3_70 (fun _ => rfl) ex2 ?_
  refine WP.isub d_X3_isHere_8 ?_
  refine WP.aload_n d_X3_isHere_9 1 rfl ?_
  obtain ⟨x3, ex3, H⟩ := ob H
  refine WP.cTl (k := l1) d_X3_isHere_10 lk_X3_159 ex3 (Nat.le_of_ble_eq_true rfl) ?_
  rcases oj H with ⟨hc, H⟩ | ⟨hc, H⟩
  · refine WP.icmp_eq_t d_X3_isHere_13 hc ?_
    refine WP.iconst d_X3_isHere_18 ki_0 ?_
    refine WP.istore_n (lv9 := [(2, .int 0), (0, .ref t), (1, .ref (vE V (10 + l1)))]) d_X3_isHere_19 (Nat.le_of_ble_eq_true rfl) rfl ?_
    refine WP.sub [1, 2, 0] (lv' := [(0, .ref t), (1, .ref (vE V (10 + l1))), (2, .int 0)]) rfl ?_
    exact okl_X3_isHere_L20 V _ H
  · refine WP.icmp_eq_f d_X3_isHere_13 hc ?_
    refine WP.iconst d_X3_isHere_16 ki_0 ?_
    cases H
    exact WP.ireturn d_X3_isHere_17 rfl rfl (Nat.le_of_ble_eq_true rfl) (Nat.le_of_ble_eq_true rfl)

set_option maxRecDepth 20000 in
set_option maxHeartbeats 4000000 in
theorem okl_X3_formHere_L10 (V : EV) {h : HA} {t : Nat} {l1 : Int32} (n : Nat) : ∀ {l2 : Int32} {r : Int32} , (H : X3_formHere_L10 h t l1 n l2 = some r) → WP V M_X3_formHere 10 [(0, .ref t), (1, .int l1), (2, .int l2)] [] h 0 0 (some (.int r)) h := by
  induction n with
  | zero =>
    intro l2 r H
    rw [X3_formHere_L10] at H
    cases H
  | succ n ih =>
    intro l2 r H
    rw [X3_formHere_L10] at H
    refine WP.iload_n d_X3_formHere_10 2 rfl ?_
    refine WP.bipush d_X3_formHere_11 kb_12 ?_
    rcases oj H with ⟨hc, H⟩ | ⟨hc, H⟩
    · refine WP.icmp_ge_t d_X3_formHere_13 hc ?_
      refine WP.getSt (k := 0) d_X3_formHere_16 (Nat.le_of_ble_eq_true rfl) fl_X3_124 ?_
      refine WP.iload_n d_X3_formHere_19 2 rfl ?_
      obtain ⟨x2, ex2, H⟩ := ob H
      refine WP.sal d_X3_formHere_20 (Nat.le_of_ble_eq_true rfl) ex2 ?_
      refine WP.iload_n d_X3_formHere_21 1 rfl ?_
      rcases oj H with ⟨hc, H⟩ | ⟨hc, H⟩
      · refine WP.icmp_ne_t d_X3_formHere_22 hc ?_
        refine WP.aload_n d_X3_formHere_25 0 rfl ?_
        refine WP.iload_n d_X3_formHere_26 2 rfl ?_
        obtain ⟨x4, e3, H⟩ := ob H
        refine WP.cS (As := [.int l2]) (st := [.ref t]) (st9 := [.ref (vE V (10 + x4)), .ref t]) (cl9 := 0) (sl9 := 0) d_X3_formHere_27 (ok_X3_wordOf V (h := h) e3) tv_X3_wordOf ts_X3_wordOf lk_X3_127 r_X3_formHere_X3_wordOf rfl rfl (Nat.le_of_ble_eq_true rfl) rfl rfl rfl ?_
        obtain ⟨x6, e5, H⟩ := ob H
        refine WP.cV (c := 4) (As := [.ref (vE V (10 + x4))]) (st := []) (st9 := [.int x6]) (cl9 := 0) (sl9 := 0) d_X3_formHere_30 (ok_X3_isHere V e5) tv_X3_isHere ti_X3_isHere ts_X3_isHere lk_X3_131 r_X3_formHere_X3_isHere kc_X3_isHere (kd_X3_isHere e5) rfl rfl (Nat.le_of_ble_eq_true rfl) rfl rfl rfl ?_
        rcases oj H with ⟨hc, H⟩ | ⟨hc, H⟩
        · refine WP.if_eq_t d_X3_formHere_33 hc ?_
          refine WP.iinc (lv9 := [(2, .int (l2 + 1)), (0, .ref t), (1, .int l1)]) d_X3_formHere_38 2 rfl ki_1 (Nat.le_of_ble_eq_true rfl) rfl ?_
          refine WP.goto d_X3_formHere_41 ?_
          refine WP.sub [1, 2, 0] (lv' := [(0, .ref t), (1, .int l1), (2, .int (l2 + 1))]) rfl ?_
          exact ih H
        · refine WP.if_eq_f d_X3_formHere_33 hc ?_
          refine WP.iload_n d_X3_formHere_36 2 rfl ?_
          cases H
          exact WP.ireturn d_X3_formHere_37 rfl rfl (Nat.le_of_ble_eq_true rfl) (Nat.le_of_ble_eq_true rfl)
      · refine WP.icmp_ne_f d_X3_formHere_22 hc ?_
        refine WP.iinc (lv9 := [(2, .int (l2 + 1)), (0, .ref t), (1, .int l1)]) d_X3_formHere_38 2 rfl ki_1 (Nat.le_of_ble_eq_true rfl) rfl ?_
        refine WP.goto d_X3_formHere_41 ?_
        refine WP.sub [1, 2, 0] (lv' := [(0, .ref t), (1, .int l1), (2, .int (l2 + 1))]) rfl ?_
        exact ih H
    · refine WP.icmp_ge_f d_X3_formHere_13 hc ?_
      refine WP.iconst d_X3_formHere_44 ki_m1 ?_
      cases H
      exact WP.ireturn d_X3_formHere_45 rfl rfl (Nat.le_of_ble_eq_true rfl) (Nat.le_of_ble_eq_true rfl)

set_option maxRecDepth 20000 in
set_option maxHeartbeats 4000000 in
theorem ok_X3_formHere (V : EV) {h : HA} {t : Nat} {l1 : Int32} {r : Int32} (H : X3_formHere h t l1 = some r) : MG V M_X3_formHere [.ref t, .int l1] h (some (.int r)) h := by
  unfold X3_formHere at H
  obtain ⟨_, H⟩ := oc H
  refine MG.of (lv0 := [(0, .ref t), (1, .int l1)]) pn_X3 rfl (Nat.le_of_ble_eq_true rfl) ?_
  refine WP.aload_n d_X3_formHere_0 0 rfl ?_
  obtain ⟨x1, ex1, H⟩ := ob H
  refine WP.fI d_X3_formHere_1 gf_X3_63 (fun _ => rfl) ex1 ?_
  refine WP.iconst d_X3_formHere_4 ki_1 ?_
  rcases oj H with ⟨hc, H⟩ | ⟨hc, H⟩
  · refine WP.icmp_ne_t d_X3_formHere_5 hc ?_
    refine WP.iconst d_X3_formHere_8 ki_0 ?_
    refine WP.istore_n (lv9 := [(2, .int 0), (0, .ref t), (1, .int l1)]) d_X3_formHere_9 (Nat.le_of_ble_eq_true rfl) rfl ?_
    refine WP.sub [1, 2, 0] (lv' := [(0, .ref t), (1, .int l1), (2, .int 0)]) rfl ?_
    exact okl_X3_formHere_L10 V _ H
  · refine WP.icmp_ne_f d_X3_formHere_5 hc ?_
    refine WP.iconst d_X3_formHere_44 ki_m1 ?_
    cases H
    exact WP.ireturn d_X3_formHere_45 rfl rfl (Nat.le_of_ble_eq_true rfl) (Nat.le_of_ble_eq_true rfl)

set_option maxRecDepth 20000 in
set_option maxHeartbeats 4000000 in
theorem ok_X3_isOneTooMany (V : EV) {h : HA} {t : Nat} {l1 : Int32} {r : Int32} (H : X3_isOneTooMany h t l1 = some r) : MG V M_X3_isOneTooMany [.ref t, .int l1] h (some (.int r)) h := by
  unfold X3_isOneTooMany at H
  obtain ⟨_, H⟩ := oc H
  refine MG.of (lv0 := [(0, .ref t), (1, .int l1)]) pn_X3 rfl (Nat.le_of_ble_eq_true rfl) ?_
  refine WP.iload_n d_X3_isOneTooMany_0 1 rfl ?_
  rcases oj H with ⟨hq0, H⟩ | ⟨hq0, H⟩
  · refine WP.tsw (t := 40) 0 d_X3_isOneTooMany_1 (by rw [hq0]; decide) (by decide) rfl (by decide) ?_
    refine WP.iconst d_X3_isOneTooMany_40 ki_0 ?_
    cases H
    exact WP.ireturn d_X3_isOneTooMany_41 rfl rfl (Nat.le_of_ble_eq_true rfl) (Nat.le_of_ble_eq_true rfl)
  · skip
    rcases oj H with ⟨hq1, H⟩ | ⟨hq1, H⟩
    · refine WP.tsw (t := 40) 1 d_X3_isOneTooMany_1 (by rw [hq1]; decide) (by decide) rfl (by decide) ?_
      refine WP.iconst d_X3_isOneTooMany_40 ki_0 ?_
      cases H
      exact WP.ireturn d_X3_isOneTooMany_41 rfl rfl (Nat.le_of_ble_eq_true rfl) (Nat.le_of_ble_eq_true rfl)
    · skip
      rcases oj H with ⟨hq2, H⟩ | ⟨hq2, H⟩
      · refine WP.tsw (t := 42) 2 d_X3_isOneTooMany_1 (by rw [hq2]; decide) (by decide) rfl (by decide) ?_
        refine WP.aload_n d_X3_isOneTooMany_42 0 rfl ?_
        obtain ⟨x1, ex1, H⟩ := ob H
        refine WP.fR d_X3_isOneTooMany_43 gf_X3_12 (fun _ => rfl) ex1 ?_
        obtain ⟨x2, ex2, H⟩ := ob H
        refine WP.fI d_X3_isOneTooMany_46 gf_X3_168 (fun _ => rfl) ex2 ?_
        refine WP.bipush d_X3_isOneTooMany_49 kb_6 ?_
        rcases oj H with ⟨hc, H⟩ | ⟨hc, H⟩
        · refine WP.icmp_lt_t d_X3_isOneTooMany_51 hc ?_
          refine WP.iconst d_X3_isOneTooMany_58 ki_0 ?_
          cases H
          exact WP.ireturn d_X3_isOneTooMany_59 rfl rfl (Nat.le_of_ble_eq_true rfl) (Nat.le_of_ble_eq_true rfl)
        · refine WP.icmp_lt_f d_X3_isOneTooMany_51 hc ?_
          refine WP.iconst d_X3_isOneTooMany_54 ki_1 ?_
          refine WP.goto d_X3_isOneTooMany_55 ?_
          cases H
          exact WP.ireturn d_X3_isOneTooMany_59 rfl rfl (Nat.le_of_ble_eq_true rfl) (Nat.le_of_ble_eq_true rfl)
      · skip
        rcases oj H with ⟨hq3, H⟩ | ⟨hq3, H⟩
        · refine WP.tsw (t := 42) 3 d_X3_isOneTooMany_1 (by rw [hq3]; decide) (by decide) rfl (by decide) ?_
          refine WP.aload_n d_X3_isOneTooMany_42 0 rfl ?_
          obtain ⟨x3, ex3, H⟩ := ob H
          refine WP.fR d_X3_isOneTooMany_43 gf_X3_12 (fun _ => rfl) ex3 ?_
          obtain ⟨x4, ex4, H⟩ := ob H
          refine WP.fI d_X3_isOneTooMany_46 gf_X3_168 (fun _ => rfl) ex4 ?_
          refine WP.bipush d_X3_isOneTooMany_49 kb_6 ?_
          rcases oj H with ⟨hc, H⟩ | ⟨hc, H⟩
          · refine WP.icmp_lt_t d_X3_isOneTooMany_51 hc ?_
            refine WP.iconst d_X3_isOneTooMany_58 ki_0 ?_
            cases H
            exact WP.ireturn d_X3_isOneTooMany_59 rfl rfl (Nat.le_of_ble_eq_true rfl) (Nat.le_of_ble_eq_true rfl)
          · refine WP.icmp_lt_f d_X3_isOneTooMany_51 hc ?_
            refine WP.iconst d_X3_isOneTooMany_54 ki_1 ?_
            refine WP.goto d_X3_isOneTooMany_55 ?_
            cases H
            exact WP.ireturn d_X3_isOneTooMany_59 rfl rfl (Nat.le_of_ble_eq_true rfl) (Nat.le_of_ble_eq_true rfl)
        · skip
          rcases oj H with ⟨hq4, H⟩ | ⟨hq4, H⟩
          · refine WP.tsw (t := 60) 4 d_X3_isOneTooMany_1 (by rw [hq4]; decide) (by decide) rfl (by decide) ?_
            refine WP.aload_n d_X3_isOneTooMany_60 0 rfl ?_
            obtain ⟨x5, ex5, H⟩ := ob H
            refine WP.fR d_X3_isOneTooMany_61 gf_X3_12 (fun _ => rfl) ex5 ?_
            obtain ⟨x6, ex6, H⟩ := ob H
            refine WP.fI d_X3_isOneTooMany_64 gf_X3_171 (fun _ => rfl) ex6 ?_
            refine WP.iconst d_X3_isOneTooMany_67 ki_4 ?_
            rcases oj H with ⟨hc, H⟩ | ⟨hc, H⟩
            · refine WP.icmp_lt_t d_X3_isOneTooMany_68 hc ?_
              refine WP.iconst d_X3_isOneTooMany_75 ki_0 ?_
              cases H
              exact WP.ireturn d_X3_isOneTooMany_76 rfl rfl (Nat.le_of_ble_eq_true rfl) (Nat.le_of_ble_eq_true rfl)
            · refine WP.icmp_lt_f d_X3_isOneTooMany_68 hc ?_
              refine WP.iconst d_X3_isOneTooMany_71 ki_1 ?_
              refine WP.goto d_X3_isOneTooMany_72 ?_
              cases H
              exact WP.ireturn d_X3_isOneTooMany_76 rfl rfl (Nat.le_of_ble_eq_true rfl) (Nat.le_of_ble_eq_true rfl)
          · skip
            rcases oj H with ⟨hq5, H⟩ | ⟨hq5, H⟩
            · refine WP.tsw (t := 40) 5 d_X3_isOneTooMany_1 (by rw [hq5]; decide) (by decide) rfl (by decide) ?_
              refine WP.iconst d_X3_isOneTooMany_40 ki_0 ?_
              cases H
              exact WP.ireturn d_X3_isOneTooMany_41 rfl rfl (Nat.le_of_ble_eq_true rfl) (Nat.le_of_ble_eq_true rfl)
            · skip
              refine WP.tswd (t := 77) d_X3_isOneTooMany_1 (tsw_out (n := 6) [0, 1, 2, 3, 4, 5] (by decide) (by decide +kernel) (List.forall_mem_cons.mpr ⟨hq0, (List.forall_mem_cons.mpr ⟨hq1, (List.forall_mem_cons.mpr ⟨hq2, (List.forall_mem_cons.mpr ⟨hq3, (List.forall_mem_cons.mpr ⟨hq4, (List.forall_mem_cons.mpr ⟨hq5, (fun _ hz9 => absurd hz9 List.not_mem_nil)⟩)⟩)⟩)⟩)⟩)⟩)) (by decide) ?_
              refine WP.aload_n d_X3_isOneTooMany_77 0 rfl ?_
              obtain ⟨x7, ex7, H⟩ := ob H
              refine WP.fR d_X3_isOneTooMany_78 gf_X3_20 (fun _ => rfl) ex7 ?_
              refine WP.getSt (k := 0) d_X3_isOneTooMany_81 (Nat.le_of_ble_eq_true rfl) fl_X3_124 ?_
              refine WP.iload_n d_X3_isOneTooMany_84 1 rfl ?_
              obtain ⟨x8, ex8, H⟩ := ob H
              refine WP.sal d_X3_isOneTooMany_85 (Nat.le_of_ble_eq_true rfl) ex8 ?_
              obtain ⟨x9, ex9, H⟩ := ob H
              refine WP.aaldR d_X3_isOneTooMany_86 (by decide) ex9 ?_
              obtain ⟨x11, e10, H⟩ := ob H
              refine WP.cV (c := 3) (As := []) (st := []) (st9 := [.int x11]) (cl9 := 0) (sl9 := 0) d_X3_isOneTooMany_87 (ok_X2_isFull V e10) tv_X2_isFull ti_X2_isFull ts_X2_isFull lk_X3_174 r_X3_isOneTooMany_X2_isFull kc_X2_isFull (kd_X2_isFull e10) rfl rfl (Nat.le_of_ble_eq_true rfl) rfl rfl rfl ?_
              obtain ⟨x12, ex12, H⟩ := ob H
              obtain ⟨rfl, hnx12⟩ := bz_sp ex12
              cases H
              exact WP.ireturn d_X3_isOneTooMany_90 rfl hnx12 (Nat.le_of_ble_eq_true rfl) (Nat.le_of_ble_eq_true rfl)

set_option maxRecDepth 20000 in
set_option maxHeartbeats 4000000 in
theorem ok_X3_note (V : EV) {h : HA} {t : Nat} {l1 : Int32} {l2 : Int32} {hR : HA} (H : X3_note h t l1 l2 = some hR) : MG V M_X3_note [.ref t, .int l1, .int l2] h none hR := by
  unfold X3_note at H
  obtain ⟨_, H⟩ := oc H
  refine MG.of (lv0 := [(0, .ref t), (1, .int l1), (2, .int l2)]) pn_X3 rfl (Nat.le_of_ble_eq_true rfl) ?_
  refine WP.aload_n d_X3_note_0 0 rfl ?_
  obtain ⟨x1, ex1, H⟩ := ob H
  refine WP.fI d_X3_note_1 gf_X3_43 (fun _ => rfl) ex1 ?_
  rcases oj H with ⟨hc, H⟩ | ⟨hc, H⟩
  · refine WP.if_ne_t d_X3_note_4 hc ?_
    refine WP.aload_n d_X3_note_7 0 rfl ?_
    refine WP.iload_n d_X3_note_8 1 rfl ?_
    obtain ⟨h2, eh2, H⟩ := ob H
    refine WP.uI d_X3_note_9 gf_X3_43 rfl (Or.inl rfl) rfl rfl eh2 ?_
    refine WP.aload_n d_X3_note_12 0 rfl ?_
    refine WP.iload_n d_X3_note_13 2 rfl ?_
    obtain ⟨h3, eh3, H⟩ := ob H
    refine WP.uI d_X3_note_14 gf_X3_46 rfl (Or.inl rfl) rfl rfl eh3 ?_
    cases H
    exact WP.return_ d_X3_note_17 rfl (Nat.le_of_ble_eq_true rfl) (Nat.le_of_ble_eq_true rfl)
  · refine WP.if_ne_f d_X3_note_4 hc ?_
    cases H
    exact WP.return_ d_X3_note_17 rfl (Nat.le_of_ble_eq_true rfl) (Nat.le_of_ble_eq_true rfl)

set_option maxRecDepth 20000 in
set_option maxHeartbeats 4000000 in
theorem ok_X3_readNumber (V : EV) {h : HA} {t : Nat} {l1 : Int32} {l2 : Int32} {r : Int32} {hR : HA} (H : X3_readNumber h t l1 l2 = some (r, hR)) : MG V M_X3_readNumber [.ref t, .int l1, .int l2] h (some (.int r)) hR := by
  unfold X3_readNumber at H
  obtain ⟨_, H⟩ := oc H
  refine MG.of (lv0 := [(0, .ref t), (1, .int l1), (2, .int l2)]) pn_X3 rfl (Nat.le_of_ble_eq_true rfl) ?_
  refine WP.aload_n d_X3_readNumber_0 0 rfl ?_
  obtain ⟨x1, ex1, H⟩ := ob H
  refine WP.fI d_X3_readNumber_1 gf_X3_63 (fun _ => rfl) ex1 ?_
  refine WP.iconst d_X3_readNumber_4 ki_3 ?_
  obtain ⟨s46, hs3, H⟩ := ob H
  rcases s46 with r42 | h2
  · dsimp only at H
    rcases oj hs3 with ⟨hc, hs3⟩ | ⟨hc, hs3⟩
    · refine WP.icmp_ne_t d_X3_readNumber_5 hc ?_
      refine WP.getSt (k := 0) d_X3_readNumber_8 (Nat.le_of_ble_eq_true rfl) fl_X3_124 ?_
      refine WP.iload_n d_X3_readNumber_11 1 rfl ?_
      obtain ⟨x43, ex43, hs3⟩ := ob hs3
      refine WP.sal d_X3_readNumber_12 (Nat.le_of_ble_eq_true rfl) ex43 ?_
      refine WP.iconst d_X3_readNumber_13 ki_2 ?_
      rcases oj hs3 with ⟨hc, hs3⟩ | ⟨hc, hs3⟩
      · refine WP.icmp_ne_t d_X3_readNumber_14 hc ?_
        refine WP.aload_n d_X3_readNumber_17 0 rfl ?_
        obtain ⟨h45, e44, hs3⟩ := ob hs3
        refine WP.cV (c := 4) (As := []) (st := []) (st9 := []) (cl9 := 0) (sl9 := 0) d_X3_readNumber_18 (ok_X3_advance V e44) tv_X3_advance ti_X3_advance ts_X3_advance lk_X3_60 r_X3_readNumber_X3_advance kc_X3_advance (kd_X3_advance e44) rfl rfl (Nat.le_of_ble_eq_true rfl) rfl rfl rfl ?_
        refine WP.iconst d_X3_readNumber_21 ki_1 ?_
        cases hs3
        cases H
        exact WP.ireturn d_X3_readNumber_22 rfl rfl (Nat.le_of_ble_eq_true rfl) (Nat.le_of_ble_eq_true rfl)
      · refine WP.icmp_ne_f d_X3_readNumber_14 hc ?_
        cases hs3
    · refine WP.icmp_ne_f d_X3_readNumber_5 hc ?_
      cases hs3
  · dsimp only at H
    have J4 : WP V M_X3_readNumber 23 [(0, .ref t), (1, .int l1), (2, .int l2)] [] h2 0 0 (some (.int r)) hR := by
      refine WP.aload_n d_X3_readNumber_23 0 rfl ?_
      obtain ⟨x8, ex8, H⟩ := ob H
      refine WP.fI d_X3_readNumber_24 gf_X3_63 (fun _ => rfl) ex8 ?_
      refine WP.iconst d_X3_readNumber_27 ki_2 ?_
      rcases oj H with ⟨hc, H⟩ | ⟨hc, H⟩
      · refine WP.icmp_eq_t d_X3_readNumber_28 hc ?_
        refine WP.getSt (k := 3) d_X3_readNumber_33 (Nat.le_of_ble_eq_true rfl) fl_X3_178 ?_
        refine WP.iload_n d_X3_readNumber_36 1 rfl ?_
        refine WP.iconst d_X3_readNumber_37 ki_4 ?_
        refine WP.imul d_X3_readNumber_38 ?_
        refine WP.iload_n d_X3_readNumber_39 2 rfl ?_
        refine WP.iadd d_X3_readNumber_40 ?_
        obtain ⟨x9, ex9, H⟩ := ob H
        refine WP.sal d_X3_readNumber_41 (Nat.le_of_ble_eq_true rfl) ex9 ?_
        refine WP.istore_n (lv9 := [(3, .int x9), (0, .ref t), (1, .int l1), (2, .int l2)]) d_X3_readNumber_42 (Nat.le_of_ble_eq_true rfl) rfl ?_
        refine WP.aload_n d_X3_readNumber_43 1 rfl ?_
        obtain ⟨x10, ex10, H⟩ := ob H
        refine WP.fI d_X3_readNumber_44 gf_X3_94 (fun _ => rfl) ex10 ?_
        refine WP.iload_n d_X3_readNumber_47 0 rfl ?_
        obtain ⟨h11, hs12, H⟩ := ob H
        have J13 : WP V M_X3_readNumber 123 [(0, .ref t), (2, .int l2)] [] h11 0 0 (some (.int r)) hR := by
          refine WP.aload_n d_X3_readNumber_123 0 rfl ?_
          obtain ⟨x37, ex37, H⟩ := ob H
          refine WP.fR d_X3_readNumber_124 gf_X3_24 (fun _ => rfl) ex37 ?_
          refine WP.iload_n d_X3_readNumber_127 1 rfl ?_
          refine WP.aload_n d_X3_readNumber_128 0 rfl ?_
          obtain ⟨x38, ex38, H⟩ := ob H
          refine WP.fI d_X3_readNumber_129 gf_X3_94 (fun _ => rfl) ex38 ?_
          obtain ⟨h39, eh39, H⟩ := ob H
          refine WP.ias d_X3_readNumber_132 eh39 ?_
          refine WP.aload_n d_X3_readNumber_133 0 rfl ?_
          obtain ⟨h41, e40, H⟩ := ob H
          refine WP.cV (c := 4) (As := []) (st := []) (st9 := []) (cl9 := 0) (sl9 := 0) d_X3_readNumber_134 (ok_X3_advance V e40) tv_X3_advance ti_X3_advance ts_X3_advance lk_X3_60 r_X3_readNumber_X3_advance kc_X3_advance (kd_X3_advance e40) rfl rfl (Nat.le_of_ble_eq_true rfl) rfl rfl rfl ?_
          refine WP.iconst d_X3_readNumber_137 ki_1 ?_
          cases H
          exact WP.ireturn d_X3_readNumber_138 rfl rfl (Nat.le_of_ble_eq_true rfl) (Nat.le_of_ble_eq_true rfl)
        rcases oj hs12 with ⟨hc, hs12⟩ | ⟨hc, hs12⟩
        · refine WP.icmp_gt_t d_X3_readNumber_48 hc ?_
          refine WP.aload_n d_X3_readNumber_63 1 rfl ?_
          refine WP.iconst d_X3_readNumber_64 ki_2 ?_
          refine WP.aload_n d_X3_readNumber_65 1 rfl ?_
          obtain ⟨x14, ex14, hs12⟩ := ob hs12
          refine WP.fI d_X3_readNumber_66 gf_X3_70 (fun _ => rfl) ex14 ?_
          obtain ⟨h16, e15, hs12⟩ := ob hs12
          refine WP.cV (c := 4) (As := [.int 2, .int x14]) (st := []) (st9 := []) (cl9 := 0) (sl9 := 0) d_X3_readNumber_69 (ok_X3_note V e15) tv_X3_note ti_X3_note ts_X3_note lk_X3_104 r_X3_readNumber_X3_note kc_X3_note (kd_X3_note e15) rfl rfl (Nat.le_of_ble_eq_true rfl) rfl rfl rfl ?_
          refine WP.goto d_X3_readNumber_72 ?_
          cases hs12
          exact WP.sub [1, 3] rfl J13
        · refine WP.icmp_gt_f d_X3_readNumber_48 hc ?_
          refine WP.iload_n d_X3_readNumber_51 2 rfl ?_
          rcases oj hs12 with ⟨hc, hs12⟩ | ⟨hc, hs12⟩
          · refine WP.if_ne_t d_X3_readNumber_52 hc ?_
            refine WP.aload_n d_X3_readNumber_55 1 rfl ?_
            obtain ⟨x17, ex17, hs12⟩ := ob hs12
            refine WP.fI d_X3_readNumber_56 gf_X3_94 (fun _ => rfl) ex17 ?_
            refine WP.iconst d_X3_readNumber_59 ki_2 ?_
            rcases oj hs12 with ⟨hc, hs12⟩ | ⟨hc, hs12⟩
            · refine WP.icmp_ge_t d_X3_readNumber_60 hc ?_
              refine WP.aload_n d_X3_readNumber_63 1 rfl ?_
              refine WP.iconst d_X3_readNumber_64 ki_2 ?_
              refine WP.aload_n d_X3_readNumber_65 1 rfl ?_
              obtain ⟨x18, ex18, hs12⟩ := ob hs12
              refine WP.fI d_X3_readNumber_66 gf_X3_70 (fun _ => rfl) ex18 ?_
              obtain ⟨h20, e19, hs12⟩ := ob hs12
              refine WP.cV (c := 4) (As := [.int 2, .int x18]) (st := []) (st9 := []) (cl9 := 0) (sl9 := 0) d_X3_readNumber_69 (ok_X3_note V e19) tv_X3_note ti_X3_note ts_X3_note lk_X3_104 r_X3_readNumber_X3_note kc_X3_note (kd_X3_note e19) rfl rfl (Nat.le_of_ble_eq_true rfl) rfl rfl rfl ?_
              refine WP.goto d_X3_readNumber_72 ?_
              cases hs12
              exact WP.sub [1, 3] rfl J13
            · refine WP.icmp_ge_f d_X3_readNumber_60 hc ?_
              refine WP.iload_n d_X3_readNumber_75 0 rfl ?_
              refine WP.bipush d_X3_readNumber_76 kb_63 ?_
              rcases oj hs12 with ⟨hc, hs12⟩ | ⟨hc, hs12⟩
              · refine WP.icmp_ne_t d_X3_readNumber_78 hc ?_
                refine WP.aload_n d_X3_readNumber_81 1 rfl ?_
                refine WP.dup d_X3_readNumber_82 rfl ?_
                obtain ⟨x21, ex21, hs12⟩ := ob hs12
                refine WP.fJ d_X3_readNumber_83 gf_X3_49 (fun _ => rfl) ex21 ?_
                refine WP.lconst d_X3_readNumber_86 kl_1 ?_
                refine WP.aload_n d_X3_readNumber_87 1 rfl ?_
                obtain ⟨x22, ex22, hs12⟩ := ob hs12
                refine WP.fI d_X3_readNumber_88 gf_X3_94 (fun _ => rfl) ex22 ?_
                refine WP.lshl d_X3_readNumber_91 ?_
                refine WP.lor d_X3_readNumber_92 ?_
                obtain ⟨h23, eh23, hs12⟩ := ob hs12
                refine WP.uJ d_X3_readNumber_93 gf_X3_49 rfl rfl eh23 ?_
                refine WP.aload_n d_X3_readNumber_96 1 rfl ?_
                obtain ⟨x24, ex24, hs12⟩ := ob hs12
                refine WP.fR d_X3_readNumber_97 gf_X3_12 (fun _ => rfl) ex24 ?_
                refine WP.dup d_X3_readNumber_100 rfl ?_
                obtain ⟨x25, ex25, hs12⟩ := ob hs12
                refine WP.fJ d_X3_readNumber_101 gf_X3_181 (fun _ => rfl) ex25 ?_
                refine WP.iload_n d_X3_readNumber_104 2 rfl ?_
                refine WP.iconst d_X3_readNumber_105 ki_1 ?_
                rcases oj hs12 with ⟨hc, hs12⟩ | ⟨hc, hs12⟩
                · refine WP.icmp_ne_t d_X3_readNumber_106 hc ?_
                  refine WP.lconst d_X3_readNumber_109 kl_1 ?_
                  refine WP.aload_n d_X3_readNumber_110 1 rfl ?_
                  obtain ⟨x26, ex26, hs12⟩ := ob hs12
                  refine WP.fI d_X3_readNumber_111 gf_X3_94 (fun _ => rfl) ex26 ?_
                  refine WP.lshl d_X3_readNumber_114 ?_
                  refine WP.goto d_X3_readNumber_115 ?_
                  refine WP.lor d_X3_readNumber_119 ?_
                  obtain ⟨h27, eh27, hs12⟩ := ob hs12
                  refine WP.uJ d_X3_readNumber_120 gf_X3_181 rfl rfl eh27 ?_
                  cases hs12
                  exact WP.sub [1, 3] rfl J13
                · refine WP.icmp_ne_f d_X3_readNumber_106 hc ?_
                  refine WP.lconst d_X3_readNumber_118 kl_0 ?_
                  refine WP.lor d_X3_readNumber_119 ?_
                  obtain ⟨h28, eh28, hs12⟩ := ob hs12
                  refine WP.uJ d_X3_readNumber_120 gf_X3_181 rfl rfl eh28 ?_
                  cases hs12
                  exact WP.sub [1, 3] rfl J13
              · refine WP.icmp_ne_f d_X3_readNumber_78 hc ?_
                cases hs12
                exact WP.sub [1, 3] rfl J13
          · refine WP.if_ne_f d_X3_readNumber_52 hc ?_
            refine WP.iload_n d_X3_readNumber_75 0 rfl ?_
            refine WP.bipush d_X3_readNumber_76 kb_63 ?_
            rcases oj hs12 with ⟨hc, hs12⟩ | ⟨hc, hs12⟩
            · refine WP.icmp_ne_t d_X3_readNumber_78 hc ?_
              refine WP.aload_n d_X3_readNumber_81 1 rfl ?_
              refine WP.dup d_X3_readNumber_82 rfl ?_
              obtain ⟨x29, ex29, hs12⟩ := ob hs12
              refine WP.fJ d_X3_readNumber_83 gf_X3_49 (fun _ => rfl) ex29 ?_
              refine WP.lconst d_X3_readNumber_86 kl_1 ?_
              refine WP.aload_n d_X3_readNumber_87 1 rfl ?_
              obtain ⟨x30, ex30, hs12⟩ := ob hs12
              refine WP.fI d_X3_readNumber_88 gf_X3_94 (fun _ => rfl) ex30 ?_
              refine WP.lshl d_X3_readNumber_91 ?_
              refine WP.lor d_X3_readNumber_92 ?_
              obtain ⟨h31, eh31, hs12⟩ := ob hs12
              refine WP.uJ d_X3_readNumber_93 gf_X3_49 rfl rfl eh31 ?_
              refine WP.aload_n d_X3_readNumber_96 1 rfl ?_
              obtain ⟨x32, ex32, hs12⟩ := ob hs12
              refine WP.fR d_X3_readNumber_97 gf_X3_12 (fun _ => rfl) ex32 ?_
              refine WP.dup d_X3_readNumber_100 rfl ?_
              obtain ⟨x33, ex33, hs12⟩ := ob hs12
              refine WP.fJ d_X3_readNumber_101 gf_X3_181 (fun _ => rfl) ex33 ?_
              refine WP.iload_n d_X3_readNumber_104 2 rfl ?_
              refine WP.iconst d_X3_readNumber_105 ki_1 ?_
              rcases oj hs12 with ⟨hc, hs12⟩ | ⟨hc, hs12⟩
              · refine WP.icmp_ne_t d_X3_readNumber_106 hc ?_
                refine WP.lconst d_X3_readNumber_109 kl_1 ?_
                refine WP.aload_n d_X3_readNumber_110 1 rfl ?_
                obtain ⟨x34, ex34, hs12⟩ := ob hs12
                refine WP.fI d_X3_readNumber_111 gf_X3_94 (fun _ => rfl) ex34 ?_
                refine WP.lshl d_X3_readNumber_114 ?_
                refine WP.goto d_X3_readNumber_115 ?_
                refine WP.lor d_X3_readNumber_119 ?_
                obtain ⟨h35, eh35, hs12⟩ := ob hs12
                refine WP.uJ d_X3_readNumber_120 gf_X3_181 rfl rfl eh35 ?_
                cases hs12
                exact WP.sub [1, 3] rfl J13
              · refine WP.icmp_ne_f d_X3_readNumber_106 hc ?_
                refine WP.lconst d_X3_readNumber_118 kl_0 ?_
                refine WP.lor d_X3_readNumber_119 ?_
                obtain ⟨h36, eh36, hs12⟩ := ob hs12
                refine WP.uJ d_X3_readNumber_120 gf_X3_181 rfl rfl eh36 ?_
                cases hs12
                exact WP.sub [1, 3] rfl J13
            · refine WP.icmp_ne_f d_X3_readNumber_78 hc ?_
              cases hs12
              exact WP.sub [1, 3] rfl J13
      · refine WP.icmp_eq_f d_X3_readNumber_28 hc ?_
        refine WP.iconst d_X3_readNumber_31 ki_0 ?_
        cases H
        exact WP.ireturn d_X3_readNumber_32 rfl rfl (Nat.le_of_ble_eq_true rfl) (Nat.le_of_ble_eq_true rfl)
    rcases oj hs3 with ⟨hc, hs3⟩ | ⟨hc, hs3⟩
    · refine WP.icmp_ne_t d_X3_readNumber_5 hc ?_
      refine WP.getSt (k := 0) d_X3_readNumber_8 (Nat.le_of_ble_eq_true rfl) fl_X3_124 ?_
      refine WP.iload_n d_X3_readNumber_11 1 rfl ?_
      obtain ⟨x5, ex5, hs3⟩ := ob hs3
      refine WP.sal d_X3_readNumber_12 (Nat.le_of_ble_eq_true rfl) ex5 ?_
      refine WP.iconst d_X3_readNumber_13 ki_2 ?_
      rcases oj hs3 with ⟨hc, hs3⟩ | ⟨hc, hs3⟩
      · refine WP.icmp_ne_t d_X3_readNumber_14 hc ?_
        refine WP.aload_n d_X3_readNumber_17 0 rfl ?_
        obtain ⟨h7, e6, hs3⟩ := ob hs3
        refine WP.cV (c := 4) (As := []) (st := []) (st9 := []) (cl9 := 0) (sl9 := 0) d_X3_readNumber_18 (ok_X3_advance V e6) tv_X3_advance ti_X3_advance ts_X3_advance lk_X3_60 r_X3_readNumber_X3_advance kc_X3_advance (kd_X3_advance e6) rfl rfl (Nat.le_of_ble_eq_true rfl) rfl rfl rfl ?_
        refine WP.iconst d_X3_readNumber_21 ki_1 ?_
        cases hs3
      · refine WP.icmp_ne_f d_X3_readNumber_14 hc ?_
        cases hs3
        exact WP.sub [0, 1, 2] rfl J4
    · refine WP.icmp_ne_f d_X3_readNumber_5 hc ?_
      cases hs3
      exact WP.sub [0, 1, 2] rfl J4

set_option maxRecDepth 20000 in
set_option maxHeartbeats 4000000 in
theorem ok_X3_keepJudge (V : EV) {h : HA} {t : Nat} {l1 : Int32} {hR : HA} (H : X3_keepJudge h t l1 = some hR) : MG V M_X3_keepJudge [.ref t, .int l1] h none hR := by
  unfold X3_keepJudge at H
  obtain ⟨_, H⟩ := oc H
  refine MG.of (lv0 := [(0, .ref t), (1, .int l1)]) pn_X3 rfl (Nat.le_of_ble_eq_true rfl) ?_
  refine WP.aload_n d_X3_keepJudge_0 0 rfl ?_
  obtain ⟨x1, ex1, H⟩ := ob H
  refine WP.fR d_X3_keepJudge_1 gf_X3_12 (fun _ => rfl) ex1 ?_
  obtain ⟨x2, ex2, H⟩ := ob H
  refine WP.fI d_X3_keepJudge_4 gf_X3_168 (fun _ => rfl) ex2 ?_
  refine WP.iconst d_X3_keepJudge_7 ki_5 ?_
  refine WP.imul d_X3_keepJudge_8 ?_
  refine WP.istore_n (lv9 := [(2, .int (x2 * 5)), (0, .ref t), (1, .int l1)]) d_X3_keepJudge_9 (Nat.le_of_ble_eq_true rfl) rfl ?_
  refine WP.aload_n d_X3_keepJudge_10 1 rfl ?_
  obtain ⟨x3, ex3, H⟩ := ob H
  refine WP.fR d_X3_keepJudge_11 gf_X3_12 (fun _ => rfl) ex3 ?_
  obtain ⟨x4, ex4, H⟩ := ob H
  refine WP.fR d_X3_keepJudge_14 gf_X3_202 (fun _ => rfl) ex4 ?_
  refine WP.iload_n d_X3_keepJudge_17 0 rfl ?_
  refine WP.iconst d_X3_keepJudge_18 ki_0 ?_
  refine WP.iadd d_X3_keepJudge_19 ?_
  refine WP.aload_n d_X3_keepJudge_20 1 rfl ?_
  obtain ⟨x5, ex5, H⟩ := ob H
  refine WP.fR d_X3_keepJudge_21 gf_X3_24 (fun _ => rfl) ex5 ?_
  refine WP.iconst d_X3_keepJudge_24 ki_0 ?_
  obtain ⟨x6, ex6, H⟩ := ob H
  refine WP.iald d_X3_keepJudge_25 ex6 ?_
  obtain ⟨h7, eh7, H⟩ := ob H
  refine WP.ias d_X3_keepJudge_26 eh7 ?_
  refine WP.aload_n d_X3_keepJudge_27 1 rfl ?_
  obtain ⟨x8, ex8, H⟩ := ob H
  refine WP.fR d_X3_keepJudge_28 gf_X3_12 (fun _ => rfl) ex8 ?_
  obtain ⟨x9, ex9, H⟩ := ob H
  refine WP.fR d_X3_keepJudge_31 gf_X3_202 (fun _ => rfl) ex9 ?_
  refine WP.iload_n d_X3_keepJudge_34 0 rfl ?_
  refine WP.iconst d_X3_keepJudge_35 ki_1 ?_
  refine WP.iadd d_X3_keepJudge_36 ?_
  refine WP.aload_n d_X3_keepJudge_37 1 rfl ?_
  obtain ⟨x10, ex10, H⟩ := ob H
  refine WP.fR d_X3_keepJudge_38 gf_X3_24 (fun _ => rfl) ex10 ?_
  refine WP.iconst d_X3_keepJudge_41 ki_1 ?_
  obtain ⟨x11, ex11, H⟩ := ob H
  refine WP.iald d_X3_keepJudge_42 ex11 ?_
  obtain ⟨h12, eh12, H⟩ := ob H
  refine WP.ias d_X3_keepJudge_43 eh12 ?_
  refine WP.aload_n d_X3_keepJudge_44 1 rfl ?_
  obtain ⟨x13, ex13, H⟩ := ob H
  refine WP.fR d_X3_keepJudge_45 gf_X3_12 (fun _ => rfl) ex13 ?_
  obtain ⟨x14, ex14, H⟩ := ob H
  refine WP.fR d_X3_keepJudge_48 gf_X3_202 (fun _ => rfl) ex14 ?_
  refine WP.iload_n d_X3_keepJudge_51 0 rfl ?_
  refine WP.iconst d_X3_keepJudge_52 ki_2 ?_
  refine WP.iadd d_X3_keepJudge_53 ?_
  refine WP.iload_n d_X3_keepJudge_54 2 rfl ?_
  refine WP.iconst d_X3_keepJudge_55 ki_2 ?_
  obtain ⟨j15, hs16, H⟩ := ol H
  have J17 : WP V M_X3_keepJudge 64 [(0, .ref t), (2, .int (x2 * 5))] [.int j15, .int ((x2 * 5) + 2), .ref x14] h12 0 0 none hR := by
    obtain ⟨h18, eh18, H⟩ := ob H
    refine WP.ias d_X3_keepJudge_64 eh18 ?_
    refine WP.aload_n d_X3_keepJudge_65 0 rfl ?_
    obtain ⟨x19, ex19, H⟩ := ob H
    refine WP.fR d_X3_keepJudge_66 gf_X3_12 (fun _ => rfl) ex19 ?_
    obtain ⟨x20, ex20, H⟩ := ob H
    refine WP.fR d_X3_keepJudge_69 gf_X3_202 (fun _ => rfl) ex20 ?_
    refine WP.iload_n d_X3_keepJudge_72 1 rfl ?_
    refine WP.iconst d_X3_keepJudge_73 ki_3 ?_
    refine WP.iadd d_X3_keepJudge_74 ?_
    refine WP.aload_n d_X3_keepJudge_75 0 rfl ?_
    obtain ⟨x21, ex21, H⟩ := ob H
    refine WP.fR d_X3_keepJudge_76 gf_X3_24 (fun _ => rfl) ex21 ?_
    refine WP.iconst d_X3_keepJudge_79 ki_2 ?_
    obtain ⟨x22, ex22, H⟩ := ob H
    refine WP.iald d_X3_keepJudge_80 ex22 ?_
    obtain ⟨h23, eh23, H⟩ := ob H
    refine WP.ias d_X3_keepJudge_81 eh23 ?_
    refine WP.aload_n d_X3_keepJudge_82 0 rfl ?_
    obtain ⟨x24, ex24, H⟩ := ob H
    refine WP.fR d_X3_keepJudge_83 gf_X3_12 (fun _ => rfl) ex24 ?_
    obtain ⟨x25, ex25, H⟩ := ob H
    refine WP.fR d_X3_keepJudge_86 gf_X3_202 (fun _ => rfl) ex25 ?_
    refine WP.iload_n d_X3_keepJudge_89 1 rfl ?_
    refine WP.iconst d_X3_keepJudge_90 ki_4 ?_
    refine WP.iadd d_X3_keepJudge_91 ?_
    refine WP.aload_n d_X3_keepJudge_92 0 rfl ?_
    obtain ⟨x26, ex26, H⟩ := ob H
    refine WP.fR d_X3_keepJudge_93 gf_X3_24 (fun _ => rfl) ex26 ?_
    refine WP.iconst d_X3_keepJudge_96 ki_3 ?_
    obtain ⟨x27, ex27, H⟩ := ob H
    refine WP.iald d_X3_keepJudge_97 ex27 ?_
    obtain ⟨h28, eh28, H⟩ := ob H
    refine WP.ias d_X3_keepJudge_98 eh28 ?_
    refine WP.aload_n d_X3_keepJudge_99 0 rfl ?_
    obtain ⟨x29, ex29, H⟩ := ob H
    refine WP.fR d_X3_keepJudge_100 gf_X3_12 (fun _ => rfl) ex29 ?_
    refine WP.dup d_X3_keepJudge_103 rfl ?_
    obtain ⟨x30, ex30, H⟩ := ob H
    refine WP.fI d_X3_keepJudge_104 gf_X3_168 (fun _ => rfl) ex30 ?_
    refine WP.iconst d_X3_keepJudge_107 ki_1 ?_
    refine WP.iadd d_X3_keepJudge_108 ?_
    obtain ⟨h31, eh31, H⟩ := ob H
    refine WP.uI d_X3_keepJudge_109 gf_X3_168 rfl (Or.inl rfl) rfl rfl eh31 ?_
    cases H
    exact WP.return_ d_X3_keepJudge_112 rfl (Nat.le_of_ble_eq_true rfl) (Nat.le_of_ble_eq_true rfl)
  rcases oj hs16 with ⟨hc, hs16⟩ | ⟨hc, hs16⟩
  · refine WP.icmp_ne_t d_X3_keepJudge_56 hc ?_
    refine WP.iconst d_X3_keepJudge_59 ki_0 ?_
    refine WP.goto d_X3_keepJudge_60 ?_
    cases hs16
    exact WP.sub [1, 0] rfl J17
  · refine WP.icmp_ne_f d_X3_keepJudge_56 hc ?_
    refine WP.iconst d_X3_keepJudge_63 ki_1 ?_
    cases hs16
    exact WP.sub [1, 0] rfl J17

set_option maxRecDepth 20000 in
set_option maxHeartbeats 4000000 in
theorem ok_X3_keepTwin (V : EV) {h : HA} {t : Nat} {hR : HA} (H : X3_keepTwin h t = some hR) : MG V M_X3_keepTwin [.ref t] h none hR := by
  unfold X3_keepTwin at H
  obtain ⟨_, H⟩ := oc H
  refine MG.of (lv0 := [(0, .ref t)]) pn_X3 rfl (Nat.le_of_ble_eq_true rfl) ?_
  refine WP.aload_n d_X3_keepTwin_0 0 rfl ?_
  obtain ⟨x1, ex1, H⟩ := ob H
  refine WP.fR d_X3_keepTwin_1 gf_X3_24 (fun _ => rfl) ex1 ?_
  refine WP.iconst d_X3_keepTwin_4 ki_0 ?_
  obtain ⟨x2, ex2, H⟩ := ob H
  refine WP.iald d_X3_keepTwin_5 ex2 ?_
  refine WP.istore_n (lv9 := [(1, .int x2), (0, .ref t)]) d_X3_keepTwin_6 (Nat.le_of_ble_eq_true rfl) rfl ?_
  refine WP.iload_n d_X3_keepTwin_7 0 rfl ?_
  rcases oj H with ⟨hc, H⟩ | ⟨hc, H⟩
  · refine WP.if_lt_t d_X3_keepTwin_8 hc ?_
    cases H
    exact WP.return_ d_X3_keepTwin_43 rfl (Nat.le_of_ble_eq_true rfl) (Nat.le_of_ble_eq_true rfl)
  · refine WP.if_lt_f d_X3_keepTwin_8 hc ?_
    refine WP.iload_n d_X3_keepTwin_11 0 rfl ?_
    refine WP.iconst d_X3_keepTwin_12 ki_4 ?_
    rcases oj H with ⟨hc, H⟩ | ⟨hc, H⟩
    · refine WP.icmp_ge_t d_X3_keepTwin_13 hc ?_
      refine WP.aload_n d_X3_keepTwin_16 1 rfl ?_
      refine WP.dup d_X3_keepTwin_17 rfl ?_
      obtain ⟨x3, ex3, H⟩ := ob H
      refine WP.fI d_X3_keepTwin_18 gf_X3_53 (fun _ => rfl) ex3 ?_
      refine WP.iconst d_X3_keepTwin_21 ki_1 ?_
      refine WP.iload_n d_X3_keepTwin_22 0 rfl ?_
      refine WP.ishl d_X3_keepTwin_23 ?_
      refine WP.ior d_X3_keepTwin_24 ?_
      obtain ⟨h4, eh4, H⟩ := ob H
      refine WP.uI d_X3_keepTwin_25 gf_X3_53 rfl (Or.inl rfl) rfl rfl eh4 ?_
      refine WP.aload_n d_X3_keepTwin_28 1 rfl ?_
      obtain ⟨x5, ex5, H⟩ := ob H
      refine WP.fR d_X3_keepTwin_29 gf_X3_12 (fun _ => rfl) ex5 ?_
      obtain ⟨x6, ex6, H⟩ := ob H
      refine WP.fR d_X3_keepTwin_32 gf_X3_205 (fun _ => rfl) ex6 ?_
      refine WP.iload_n d_X3_keepTwin_35 0 rfl ?_
      refine WP.aload_n d_X3_keepTwin_36 1 rfl ?_
      obtain ⟨x7, ex7, H⟩ := ob H
      refine WP.fR d_X3_keepTwin_37 gf_X3_24 (fun _ => rfl) ex7 ?_
      refine WP.iconst d_X3_keepTwin_40 ki_1 ?_
      obtain ⟨x8, ex8, H⟩ := ob H
      refine WP.iald d_X3_keepTwin_41 ex8 ?_
      obtain ⟨h9, eh9, H⟩ := ob H
      refine WP.ias d_X3_keepTwin_42 eh9 ?_
      cases H
      exact WP.return_ d_X3_keepTwin_43 rfl (Nat.le_of_ble_eq_true rfl) (Nat.le_of_ble_eq_true rfl)
    · refine WP.icmp_ge_f d_X3_keepTwin_13 hc ?_
      cases H
      exact WP.return_ d_X3_keepTwin_43 rfl (Nat.le_of_ble_eq_true rfl) (Nat.le_of_ble_eq_true rfl)

set_option maxRecDepth 20000 in
set_option maxHeartbeats 4000000 in
theorem okl_X3_keepRow_L34 (V : EV) {vF : Option Value} {hF : HA} {t : Nat} {l2 : Nat} {l3 : Int32} (n : Nat) : ∀ {h : HA} {l4 : Int32} {hR : HA}, (H : X3_keepRow_L34 t l2 l3 n h l4 = some hR) → (K : WP V M_X3_keepRow 72 [(2, .ref l2)] [] hR 0 0 vF hF) → WP V M_X3_keepRow 34 [(0, .ref t), (2, .ref l2), (3, .int l3), (4, .int l4)] [] h 0 0 vF hF := by
  induction n with
  | zero =>
    intro h l4 hR H K
    rw [X3_keepRow_L34] at H
    cases H
  | succ n ih =>
    intro h l4 hR H K
    rw [X3_keepRow_L34] at H
    refine WP.iload_n d_X3_keepRow_34 2 rfl ?_
    refine WP.iload d_X3_keepRow_35 3 rfl ?_
    refine WP.iadd d_X3_keepRow_37 ?_
    refine WP.aload_n d_X3_keepRow_38 1 rfl ?_
    obtain ⟨x11, ex11, H⟩ := ob H
    refine WP.fI d_X3_keepRow_39 gf_X3_213 (fun _ => rfl) ex11 ?_
    rcases oj H with ⟨hc, H⟩ | ⟨hc, H⟩
    · refine WP.icmp_ge_t d_X3_keepRow_42 hc ?_
      refine WP.iload d_X3_keepRow_45 3 rfl ?_
      refine WP.iconst d_X3_keepRow_47 ki_4 ?_
      rcases oj H with ⟨hc, H⟩ | ⟨hc, H⟩
      · refine WP.icmp_ge_t d_X3_keepRow_48 hc ?_
        refine WP.aload_n d_X3_keepRow_51 1 rfl ?_
        refine WP.iload_n d_X3_keepRow_52 2 rfl ?_
        refine WP.iload d_X3_keepRow_53 3 rfl ?_
        refine WP.iadd d_X3_keepRow_55 ?_
        refine WP.aload_n d_X3_keepRow_56 0 rfl ?_
        obtain ⟨x12, ex12, H⟩ := ob H
        refine WP.fR d_X3_keepRow_57 gf_X3_24 (fun _ => rfl) ex12 ?_
        refine WP.iload d_X3_keepRow_60 3 rfl ?_
        obtain ⟨x13, ex13, H⟩ := ob H
        refine WP.iald d_X3_keepRow_62 ex13 ?_
        obtain ⟨h15, e14, H⟩ := ob H
        refine WP.cV (c := 3) (As := [.int (l3 + l4), .int x13]) (st := []) (st9 := []) (cl9 := 0) (sl9 := 0) d_X3_keepRow_63 (ok_X2_put V e14) tv_X2_put ti_X2_put ts_X2_put lk_X3_210 r_X3_keepRow_X2_put kc_X2_put (kd_X2_put e14) rfl rfl (Nat.le_of_ble_eq_true rfl) rfl rfl rfl ?_
        refine WP.iinc (lv9 := [(4, .int (l4 + 1)), (0, .ref t), (2, .ref l2), (3, .int l3)]) d_X3_keepRow_66 3 rfl ki_1 (Nat.le_of_ble_eq_true rfl) rfl ?_
        refine WP.goto d_X3_keepRow_69 ?_
        refine WP.sub [1, 2, 3, 0] (lv' := [(0, .ref t), (2, .ref l2), (3, .int l3), (4, .int (l4 + 1))]) rfl ?_
        exact ih H K
      · refine WP.icmp_ge_f d_X3_keepRow_48 hc ?_
        cases H
        exact WP.sub [1] rfl K
    · refine WP.icmp_ge_f d_X3_keepRow_42 hc ?_
      cases H
      exact WP.sub [1] rfl K

set_option maxRecDepth 20000 in
set_option maxHeartbeats 4000000 in
theorem ok_X3_keepRow (V : EV) {h : HA} {t : Nat} {l1 : Int32} {hR : HA} (H : X3_keepRow h t l1 = some hR) : MG V M_X3_keepRow [.ref t, .int l1] h none hR := by
  unfold X3_keepRow at H
  obtain ⟨_, H⟩ := oc H
  refine MG.of (lv0 := [(0, .ref t), (1, .int l1)]) pn_X3 rfl (Nat.le_of_ble_eq_true rfl) ?_
  refine WP.aload_n d_X3_keepRow_0 0 rfl ?_
  obtain ⟨x1, ex1, H⟩ := ob H
  refine WP.fR d_X3_keepRow_1 gf_X3_20 (fun _ => rfl) ex1 ?_
  refine WP.getSt (k := 0) d_X3_keepRow_4 (Nat.le_of_ble_eq_true rfl) fl_X3_124 ?_
  refine WP.iload_n d_X3_keepRow_7 1 rfl ?_
  obtain ⟨x2, ex2, H⟩ := ob H
  refine WP.sal d_X3_keepRow_8 (Nat.le_of_ble_eq_true rfl) ex2 ?_
  obtain ⟨x3, ex3, H⟩ := ob H
  refine WP.aaldR d_X3_keepRow_9 (by decide) ex3 ?_
  refine WP.astore_n (lv9 := [(2, .ref x3), (0, .ref t), (1, .int l1)]) d_X3_keepRow_10 (Nat.le_of_ble_eq_true rfl) rfl ?_
  refine WP.iconst d_X3_keepRow_11 ki_0 ?_
  refine WP.istore_n (lv9 := [(3, .int 0), (2, .ref x3), (0, .ref t), (1, .int l1)]) d_X3_keepRow_12 (Nat.le_of_ble_eq_true rfl) rfl ?_
  refine WP.iload_n d_X3_keepRow_13 3 rfl ?_
  refine WP.bipush d_X3_keepRow_14 kb_11 ?_
  obtain ⟨⟨j4, h5⟩, hs6, H⟩ := ob H
  have J7 : WP V M_X3_keepRow 31 [(0, .ref t), (2, .ref x3), (3, .int j4)] [] h5 0 0 none hR := by
    refine WP.iconst d_X3_keepRow_31 ki_0 ?_
    refine WP.istore (lv9 := [(4, .int 0), (0, .ref t), (2, .ref x3), (3, .int j4)]) d_X3_keepRow_32 (Nat.le_of_ble_eq_true rfl) rfl ?_
    obtain ⟨h17, e16, H⟩ := ob H
    refine WP.sub [1, 2, 3, 0] (lv' := [(0, .ref t), (2, .ref x3), (3, .int j4), (4, .int 0)]) rfl ?_
    refine okl_X3_keepRow_L34 V _ e16 ?_
    refine WP.aload_n d_X3_keepRow_72 0 rfl ?_
    refine WP.dup d_X3_keepRow_73 rfl ?_
    obtain ⟨x18, ex18, H⟩ := ob H
    refine WP.fI d_X3_keepRow_74 gf_X3_79 (fun _ => rfl) ex18 ?_
    refine WP.iconst d_X3_keepRow_77 ki_1 ?_
    refine WP.iadd d_X3_keepRow_78 ?_
    obtain ⟨h19, eh19, H⟩ := ob H
    refine WP.uI d_X3_keepRow_79 gf_X3_79 rfl (Or.inl rfl) rfl rfl eh19 ?_
    cases H
    exact WP.return_ d_X3_keepRow_82 rfl (Nat.le_of_ble_eq_true rfl) (Nat.le_of_ble_eq_true rfl)
  rcases oj hs6 with ⟨hc, hs6⟩ | ⟨hc, hs6⟩
  · refine WP.icmp_eq_t d_X3_keepRow_16 hc ?_
    cases hs6
    exact WP.sub [2, 1, 0] rfl J7
  · refine WP.icmp_eq_f d_X3_keepRow_16 hc ?_
    refine WP.aload_n d_X3_keepRow_19 1 rfl ?_
    refine WP.iconst d_X3_keepRow_20 ki_0 ?_
    refine WP.getSt (k := 2) d_X3_keepRow_21 (Nat.le_of_ble_eq_true rfl) fl_X3_207 ?_
    refine WP.iload_n d_X3_keepRow_24 3 rfl ?_
    obtain ⟨x8, ex8, hs6⟩ := ob hs6
    refine WP.sal d_X3_keepRow_25 (Nat.le_of_ble_eq_true rfl) ex8 ?_
    obtain ⟨h10, e9, hs6⟩ := ob hs6
    refine WP.cV (c := 3) (As := [.int 0, .int x8]) (st := []) (st9 := []) (cl9 := 0) (sl9 := 0) d_X3_keepRow_26 (ok_X2_put V e9) tv_X2_put ti_X2_put ts_X2_put lk_X3_210 r_X3_keepRow_X2_put kc_X2_put (kd_X2_put e9) rfl rfl (Nat.le_of_ble_eq_true rfl) rfl rfl rfl ?_
    refine WP.iconst d_X3_keepRow_29 ki_1 ?_
    refine WP.istore_n (lv9 := [(3, .int 1), (2, .ref x3), (0, .ref t), (1, .int l1)]) d_X3_keepRow_30 (Nat.le_of_ble_eq_true rfl) rfl ?_
    cases hs6
    exact WP.sub [2, 1, 0] rfl J7

set_option maxRecDepth 20000 in
set_option maxHeartbeats 4000000 in
theorem ok_X3_keepLine (V : EV) {h : HA} {t : Nat} {l1 : Int32} {hR : HA} (H : X3_keepLine h t l1 = some hR) : MG V M_X3_keepLine [.ref t, .int l1] h none hR := by
  unfold X3_keepLine at H
  obtain ⟨_, H⟩ := oc H
  refine MG.of (lv0 := [(0, .ref t), (1, .int l1)]) pn_X3 rfl (Nat.le_of_ble_eq_true rfl) ?_
  refine WP.aload_n d_X3_keepLine_0 0 rfl ?_
  refine WP.iload_n d_X3_keepLine_1 1 rfl ?_
  obtain ⟨x2, e1, H⟩ := ob H
  refine WP.cV (c := 4) (As := [.int l1]) (st := []) (st9 := [.int x2]) (cl9 := 0) (sl9 := 0) d_X3_keepLine_2 (ok_X3_isOneTooMany V e1) tv_X3_isOneTooMany ti_X3_isOneTooMany ts_X3_isOneTooMany lk_X3_101 r_X3_keepLine_X3_isOneTooMany kc_X3_isOneTooMany (kd_X3_isOneTooMany e1) rfl rfl (Nat.le_of_ble_eq_true rfl) rfl rfl rfl ?_
  rcases oj H with ⟨hc, H⟩ | ⟨hc, H⟩
  · refine WP.if_eq_t d_X3_keepLine_5 hc ?_
    refine WP.iload_n d_X3_keepLine_9 1 rfl ?_
    rcases oj H with ⟨hq0, H⟩ | ⟨hq0, H⟩
    · refine WP.tsw (t := 48) 0 d_X3_keepLine_10 (by rw [hq0]; decide) (by decide) rfl (by decide) ?_
      refine WP.aload_n d_X3_keepLine_48 0 rfl ?_
      obtain ⟨x3, ex3, H⟩ := ob H
      refine WP.fR d_X3_keepLine_49 gf_X3_12 (fun _ => rfl) ex3 ?_
      refine WP.aload_n d_X3_keepLine_52 0 rfl ?_
      obtain ⟨x4, ex4, H⟩ := ob H
      refine WP.fR d_X3_keepLine_53 gf_X3_24 (fun _ => rfl) ex4 ?_
      refine WP.iconst d_X3_keepLine_56 ki_0 ?_
      obtain ⟨x5, ex5, H⟩ := ob H
      refine WP.iald d_X3_keepLine_57 ex5 ?_
      obtain ⟨h6, eh6, H⟩ := ob H
      refine WP.uI d_X3_keepLine_58 gf_X3_184 rfl (Or.inl rfl) rfl rfl eh6 ?_
      refine WP.aload_n d_X3_keepLine_61 0 rfl ?_
      obtain ⟨x7, ex7, H⟩ := ob H
      refine WP.fR d_X3_keepLine_62 gf_X3_12 (fun _ => rfl) ex7 ?_
      refine WP.aload_n d_X3_keepLine_65 0 rfl ?_
      obtain ⟨x8, ex8, H⟩ := ob H
      refine WP.fR d_X3_keepLine_66 gf_X3_24 (fun _ => rfl) ex8 ?_
      refine WP.iconst d_X3_keepLine_69 ki_1 ?_
      obtain ⟨x9, ex9, H⟩ := ob H
      refine WP.iald d_X3_keepLine_70 ex9 ?_
      obtain ⟨h10, eh10, H⟩ := ob H
      refine WP.uI d_X3_keepLine_71 gf_X3_187 rfl (Or.inl rfl) rfl rfl eh10 ?_
      refine WP.goto d_X3_keepLine_74 ?_
      cases H
      exact WP.return_ d_X3_keepLine_137 rfl (Nat.le_of_ble_eq_true rfl) (Nat.le_of_ble_eq_true rfl)
    · skip
      rcases oj H with ⟨hq1, H⟩ | ⟨hq1, H⟩
      · refine WP.tsw (t := 77) 1 d_X3_keepLine_10 (by rw [hq1]; decide) (by decide) rfl (by decide) ?_
        refine WP.goto d_X3_keepLine_77 ?_
        cases H
        exact WP.return_ d_X3_keepLine_137 rfl (Nat.le_of_ble_eq_true rfl) (Nat.le_of_ble_eq_true rfl)
      · skip
        rcases oj H with ⟨hq2, H⟩ | ⟨hq2, H⟩
        · refine WP.tsw (t := 80) 2 d_X3_keepLine_10 (by rw [hq2]; decide) (by decide) rfl (by decide) ?_
          refine WP.aload_n d_X3_keepLine_80 0 rfl ?_
          refine WP.iload_n d_X3_keepLine_81 1 rfl ?_
          obtain ⟨h12, e11, H⟩ := ob H
          refine WP.cV (c := 4) (As := [.int l1]) (st := []) (st9 := []) (cl9 := 0) (sl9 := 0) d_X3_keepLine_82 (ok_X3_keepJudge V e11) tv_X3_keepJudge ti_X3_keepJudge ts_X3_keepJudge lk_X3_190 r_X3_keepLine_X3_keepJudge kc_X3_keepJudge (kd_X3_keepJudge e11) rfl rfl (Nat.le_of_ble_eq_true rfl) rfl rfl rfl ?_
          refine WP.goto d_X3_keepLine_85 ?_
          cases H
          exact WP.return_ d_X3_keepLine_137 rfl (Nat.le_of_ble_eq_true rfl) (Nat.le_of_ble_eq_true rfl)
        · skip
          rcases oj H with ⟨hq3, H⟩ | ⟨hq3, H⟩
          · refine WP.tsw (t := 80) 3 d_X3_keepLine_10 (by rw [hq3]; decide) (by decide) rfl (by decide) ?_
            refine WP.aload_n d_X3_keepLine_80 0 rfl ?_
            refine WP.iload_n d_X3_keepLine_81 1 rfl ?_
            obtain ⟨h14, e13, H⟩ := ob H
            refine WP.cV (c := 4) (As := [.int l1]) (st := []) (st9 := []) (cl9 := 0) (sl9 := 0) d_X3_keepLine_82 (ok_X3_keepJudge V e13) tv_X3_keepJudge ti_X3_keepJudge ts_X3_keepJudge lk_X3_190 r_X3_keepLine_X3_keepJudge kc_X3_keepJudge (kd_X3_keepJudge e13) rfl rfl (Nat.le_of_ble_eq_true rfl) rfl rfl rfl ?_
            refine WP.goto d_X3_keepLine_85 ?_
            cases H
            exact WP.return_ d_X3_keepLine_137 rfl (Nat.le_of_ble_eq_true rfl) (Nat.le_of_ble_eq_true rfl)
          · skip
            rcases oj H with ⟨hq4, H⟩ | ⟨hq4, H⟩
            · refine WP.tsw (t := 88) 4 d_X3_keepLine_10 (by rw [hq4]; decide) (by decide) rfl (by decide) ?_
              refine WP.aload_n d_X3_keepLine_88 0 rfl ?_
              obtain ⟨x15, ex15, H⟩ := ob H
              refine WP.fR d_X3_keepLine_89 gf_X3_12 (fun _ => rfl) ex15 ?_
              obtain ⟨x16, ex16, H⟩ := ob H
              refine WP.fR d_X3_keepLine_92 gf_X3_193 (fun _ => rfl) ex16 ?_
              refine WP.aload_n d_X3_keepLine_95 0 rfl ?_
              obtain ⟨x17, ex17, H⟩ := ob H
              refine WP.fR d_X3_keepLine_96 gf_X3_12 (fun _ => rfl) ex17 ?_
              obtain ⟨x18, ex18, H⟩ := ob H
              refine WP.fI d_X3_keepLine_99 gf_X3_171 (fun _ => rfl) ex18 ?_
              refine WP.aload_n d_X3_keepLine_102 0 rfl ?_
              obtain ⟨x19, ex19, H⟩ := ob H
              refine WP.fR d_X3_keepLine_103 gf_X3_24 (fun _ => rfl) ex19 ?_
              refine WP.iconst d_X3_keepLine_106 ki_0 ?_
              obtain ⟨x20, ex20, H⟩ := ob H
              refine WP.iald d_X3_keepLine_107 ex20 ?_
              obtain ⟨h21, eh21, H⟩ := ob H
              refine WP.ias d_X3_keepLine_108 eh21 ?_
              refine WP.aload_n d_X3_keepLine_109 0 rfl ?_
              obtain ⟨x22, ex22, H⟩ := ob H
              refine WP.fR d_X3_keepLine_110 gf_X3_12 (fun _ => rfl) ex22 ?_
              refine WP.dup d_X3_keepLine_113 rfl ?_
              obtain ⟨x23, ex23, H⟩ := ob H
              refine WP.fI d_X3_keepLine_114 gf_X3_171 (fun _ => rfl) ex23 ?_
              refine WP.iconst d_X3_keepLine_117 ki_1 ?_
              refine WP.iadd d_X3_keepLine_118 ?_
              obtain ⟨h24, eh24, H⟩ := ob H
              refine WP.uI d_X3_keepLine_119 gf_X3_171 rfl (Or.inl rfl) rfl rfl eh24 ?_
              refine WP.goto d_X3_keepLine_122 ?_
              cases H
              exact WP.return_ d_X3_keepLine_137 rfl (Nat.le_of_ble_eq_true rfl) (Nat.le_of_ble_eq_true rfl)
            · skip
              rcases oj H with ⟨hq5, H⟩ | ⟨hq5, H⟩
              · refine WP.tsw (t := 125) 5 d_X3_keepLine_10 (by rw [hq5]; decide) (by decide) rfl (by decide) ?_
                refine WP.aload_n d_X3_keepLine_125 0 rfl ?_
                obtain ⟨h26, e25, H⟩ := ob H
                refine WP.cV (c := 4) (As := []) (st := []) (st9 := []) (cl9 := 0) (sl9 := 0) d_X3_keepLine_126 (ok_X3_keepTwin V e25) tv_X3_keepTwin ti_X3_keepTwin ts_X3_keepTwin lk_X3_196 r_X3_keepLine_X3_keepTwin kc_X3_keepTwin (kd_X3_keepTwin e25) rfl rfl (Nat.le_of_ble_eq_true rfl) rfl rfl rfl ?_
                refine WP.goto d_X3_keepLine_129 ?_
                cases H
                exact WP.return_ d_X3_keepLine_137 rfl (Nat.le_of_ble_eq_true rfl) (Nat.le_of_ble_eq_true rfl)
              · skip
                refine WP.tswd (t := 132) d_X3_keepLine_10 (tsw_out (n := 6) [0, 1, 2, 3, 4, 5] (by decide) (by decide +kernel) (List.forall_mem_cons.mpr ⟨hq0, (List.forall_mem_cons.mpr ⟨hq1, (List.forall_mem_cons.mpr ⟨hq2, (List.forall_mem_cons.mpr ⟨hq3, (List.forall_mem_cons.mpr ⟨hq4, (List.forall_mem_cons.mpr ⟨hq5, (fun _ hz9 => absurd hz9 List.not_mem_nil)⟩)⟩)⟩)⟩)⟩)⟩)) (by decide) ?_
                refine WP.aload_n d_X3_keepLine_132 0 rfl ?_
                refine WP.iload_n d_X3_keepLine_133 1 rfl ?_
                obtain ⟨h28, e27, H⟩ := ob H
                refine WP.cV (c := 4) (As := [.int l1]) (st := []) (st9 := []) (cl9 := 0) (sl9 := 0) d_X3_keepLine_134 (ok_X3_keepRow V e27) tv_X3_keepRow ti_X3_keepRow ts_X3_keepRow lk_X3_199 r_X3_keepLine_X3_keepRow kc_X3_keepRow (kd_X3_keepRow e27) rfl rfl (Nat.le_of_ble_eq_true rfl) rfl rfl rfl ?_
                cases H
                exact WP.return_ d_X3_keepLine_137 rfl (Nat.le_of_ble_eq_true rfl) (Nat.le_of_ble_eq_true rfl)
  · refine WP.if_eq_f d_X3_keepLine_5 hc ?_
    cases H
    exact WP.return_ d_X3_keepLine_8 rfl (Nat.le_of_ble_eq_true rfl) (Nat.le_of_ble_eq_true rfl)

set_option maxRecDepth 20000 in
set_option maxHeartbeats 4000000 in
theorem okl_X3_readLine_L44 (V : EV) {vF : Option Value} {hF : HA} {t : Nat} {l2 : Int32} (n : Nat) : ∀ {h : HA} {l3 : Int32} {R : ((Int32 × HA) ⊕ HA)}, (H : X3_readLine_L44 t l2 n h l3 = some R) → (Kr : ∀ p : (Int32 × HA), R = .inl p → vF = (some (.int p.1)) ∧ hF = p.2) → (K : ∀ (hR : HA), R = .inr hR → WP V M_X3_readLine 70 [(0, .ref t), (2, .int l2)] [] hR 0 0 vF hF) → WP V M_X3_readLine 44 [(0, .ref t), (2, .int l2), (3, .int l3)] [] h 0 0 vF hF := by
  induction n with
  | zero =>
    intro h l3 R H Kr K
    rw [X3_readLine_L44] at H
    cases H
  | succ n ih =>
    intro h l3 R H Kr K
    rw [X3_readLine_L44] at H
    refine WP.iload_n d_X3_readLine_44 2 rfl ?_
    refine WP.getSt (k := 1) d_X3_readLine_45 (Nat.le_of_ble_eq_true rfl) fl_X3_114 ?_
    refine WP.iload_n d_X3_readLine_48 1 rfl ?_
    obtain ⟨x16, ex16, H⟩ := ob H
    refine WP.sal d_X3_readLine_49 (Nat.le_of_ble_eq_true rfl) ex16 ?_
    rcases oj H with ⟨hc, H⟩ | ⟨hc, H⟩
    · refine WP.icmp_ge_t d_X3_readLine_50 hc ?_
      refine WP.aload_n d_X3_readLine_53 0 rfl ?_
      refine WP.iload_n d_X3_readLine_54 1 rfl ?_
      refine WP.iload_n d_X3_readLine_55 2 rfl ?_
      obtain ⟨⟨x19, h18⟩, e17, H⟩ := ob H
      refine WP.cV (c := 4) (As := [.int l2, .int l3]) (st := []) (st9 := [.int x19]) (cl9 := 0) (sl9 := 0) d_X3_readLine_56 (ok_X3_readNumber V e17) tv_X3_readNumber ti_X3_readNumber ts_X3_readNumber lk_X3_117 r_X3_readLine_X3_readNumber kc_X3_readNumber (kd_X3_readNumber e17) rfl rfl (Nat.le_of_ble_eq_true rfl) rfl rfl rfl ?_
      rcases oj H with ⟨hc, H⟩ | ⟨hc, H⟩
      · refine WP.if_ne_t d_X3_readLine_59 hc ?_
        refine WP.iconst d_X3_readLine_62 ki_0 ?_
        cases H
        obtain ⟨rfl, rfl⟩ := Kr _ rfl
        exact WP.ireturn d_X3_readLine_63 rfl rfl (Nat.le_of_ble_eq_true rfl) (Nat.le_of_ble_eq_true rfl)
      · refine WP.if_ne_f d_X3_readLine_59 hc ?_
        refine WP.iinc (lv9 := [(3, .int (l3 + 1)), (0, .ref t), (2, .int l2)]) d_X3_readLine_64 2 rfl ki_1 (Nat.le_of_ble_eq_true rfl) rfl ?_
        refine WP.goto d_X3_readLine_67 ?_
        refine WP.sub [1, 2, 0] (lv' := [(0, .ref t), (2, .int l2), (3, .int (l3 + 1))]) rfl ?_
        exact ih H Kr K
    · refine WP.icmp_ge_f d_X3_readLine_50 hc ?_
      cases H
      exact WP.sub [0, 1] rfl (K _ rfl)

set_option maxRecDepth 20000 in
set_option maxHeartbeats 4000000 in
theorem okl_X3_readLine_L72 (V : EV) {vF : Option Value} {hF : HA} {t : Nat} {l2 : Int32} (n : Nat) : ∀ {h : HA} {l3 : Int32} {hR : HA}, (H : X3_readLine_L72 t l2 n h l3 = some hR) → (K : WP V M_X3_readLine 106 [(0, .ref t), (2, .int l2)] [] hR 0 0 vF hF) → WP V M_X3_readLine 72 [(0, .ref t), (2, .int l2), (3, .int l3)] [] h 0 0 vF hF := by
  induction n with
  | zero =>
    intro h l3 hR H K
    rw [X3_readLine_L72] at H
    cases H
  | succ n ih =>
    intro h l3 hR H K
    rw [X3_readLine_L72] at H
    refine WP.iload_n d_X3_readLine_72 2 rfl ?_
    refine WP.aload_n d_X3_readLine_73 0 rfl ?_
    obtain ⟨x22, ex22, H⟩ := ob H
    refine WP.fI d_X3_readLine_74 gf_X3_36 (fun _ => rfl) ex22 ?_
    rcases oj H with ⟨hc, H⟩ | ⟨hc, H⟩
    · refine WP.icmp_ge_t d_X3_readLine_77 hc ?_
      refine WP.iload_n d_X3_readLine_80 1 rfl ?_
      refine WP.iconst d_X3_readLine_81 ki_1 ?_
      rcases oj H with ⟨hc, H⟩ | ⟨hc, H⟩
      · refine WP.icmp_ne_t d_X3_readLine_82 hc ?_
        refine WP.aload_n d_X3_readLine_85 0 rfl ?_
        obtain ⟨x23, ex23, H⟩ := ob H
        refine WP.fI d_X3_readLine_86 gf_X3_63 (fun _ => rfl) ex23 ?_
        refine WP.iconst d_X3_readLine_89 ki_2 ?_
        rcases oj H with ⟨hc, H⟩ | ⟨hc, H⟩
        · refine WP.icmp_ne_t d_X3_readLine_90 hc ?_
          refine WP.aload_n d_X3_readLine_93 0 rfl ?_
          refine WP.iload_n d_X3_readLine_94 1 rfl ?_
          refine WP.iconst d_X3_readLine_95 ki_0 ?_
          obtain ⟨⟨x26, h25⟩, e24, H⟩ := ob H
          refine WP.cV (c := 4) (As := [.int l2, .int 0]) (st := []) (st9 := [.int x26]) (cl9 := 0) (sl9 := 0) d_X3_readLine_96 (ok_X3_readNumber V e24) tv_X3_readNumber ti_X3_readNumber ts_X3_readNumber lk_X3_117 r_X3_readLine_X3_readNumber kc_X3_readNumber (kd_X3_readNumber e24) rfl rfl (Nat.le_of_ble_eq_true rfl) rfl rfl rfl ?_
          refine WP.pop d_X3_readLine_99 rfl ?_
          refine WP.iinc (lv9 := [(3, .int (l3 + 1)), (0, .ref t), (2, .int l2)]) d_X3_readLine_100 2 rfl ki_1 (Nat.le_of_ble_eq_true rfl) rfl ?_
          refine WP.goto d_X3_readLine_103 ?_
          refine WP.sub [1, 2, 0] (lv' := [(0, .ref t), (2, .int l2), (3, .int (l3 + 1))]) rfl ?_
          exact ih H K
        · refine WP.icmp_ne_f d_X3_readLine_90 hc ?_
          cases H
          exact WP.sub [0, 1] rfl K
      · refine WP.icmp_ne_f d_X3_readLine_82 hc ?_
        cases H
        exact WP.sub [0, 1] rfl K
    · refine WP.icmp_ge_f d_X3_readLine_77 hc ?_
      cases H
      exact WP.sub [0, 1] rfl K

set_option maxRecDepth 20000 in
set_option maxHeartbeats 4000000 in
theorem ok_X3_readLine (V : EV) {h : HA} {t : Nat} {l1 : Int32} {r : Int32} {hR : HA} (H : X3_readLine h t l1 = some (r, hR)) : MG V M_X3_readLine [.ref t, .int l1] h (some (.int r)) hR := by
  unfold X3_readLine at H
  obtain ⟨_, H⟩ := oc H
  refine MG.of (lv0 := [(0, .ref t), (1, .int l1)]) pn_X3 rfl (Nat.le_of_ble_eq_true rfl) ?_
  refine WP.aload_n d_X3_readLine_0 0 rfl ?_
  refine WP.iload_n d_X3_readLine_1 1 rfl ?_
  obtain ⟨x2, e1, H⟩ := ob H
  refine WP.cV (c := 4) (As := [.int l1]) (st := []) (st9 := [.int x2]) (cl9 := 0) (sl9 := 0) d_X3_readLine_2 (ok_X3_formHere V e1) tv_X3_formHere ti_X3_formHere ts_X3_formHere lk_X3_97 r_X3_readLine_X3_formHere kc_X3_formHere (kd_X3_formHere e1) rfl rfl (Nat.le_of_ble_eq_true rfl) rfl rfl rfl ?_
  refine WP.istore_n (lv9 := [(2, .int x2), (0, .ref t), (1, .int l1)]) d_X3_readLine_5 (Nat.le_of_ble_eq_true rfl) rfl ?_
  refine WP.iload_n d_X3_readLine_6 0 rfl ?_
  refine WP.iconst d_X3_readLine_7 ki_m1 ?_
  rcases oj H with ⟨hc, H⟩ | ⟨hc, H⟩
  · refine WP.icmp_ne_t d_X3_readLine_8 hc ?_
    refine WP.iconst d_X3_readLine_11 ki_0 ?_
    cases H
    exact WP.ireturn d_X3_readLine_12 rfl rfl (Nat.le_of_ble_eq_true rfl) (Nat.le_of_ble_eq_true rfl)
  · refine WP.icmp_ne_f d_X3_readLine_8 hc ?_
    refine WP.aload_n d_X3_readLine_13 1 rfl ?_
    refine WP.iload_n d_X3_readLine_14 0 rfl ?_
    obtain ⟨x4, e3, H⟩ := ob H
    refine WP.cV (c := 4) (As := [.int x2]) (st := []) (st9 := [.int x4]) (cl9 := 0) (sl9 := 0) d_X3_readLine_15 (ok_X3_isOneTooMany V e3) tv_X3_isOneTooMany ti_X3_isOneTooMany ts_X3_isOneTooMany lk_X3_101 r_X3_readLine_X3_isOneTooMany kc_X3_isOneTooMany (kd_X3_isOneTooMany e3) rfl rfl (Nat.le_of_ble_eq_true rfl) rfl rfl rfl ?_
    obtain ⟨h5, hs6, H⟩ := ob H
    have J7 : WP V M_X3_readLine 30 [(0, .ref t), (2, .int x2)] [] h5 0 0 (some (.int r)) hR := by
      refine WP.aload_n d_X3_readLine_30 0 rfl ?_
      obtain ⟨h12, e11, H⟩ := ob H
      refine WP.cV (c := 4) (As := []) (st := []) (st9 := []) (cl9 := 0) (sl9 := 0) d_X3_readLine_31 (ok_X3_advance V e11) tv_X3_advance ti_X3_advance ts_X3_advance lk_X3_60 r_X3_readLine_X3_advance kc_X3_advance (kd_X3_advance e11) rfl rfl (Nat.le_of_ble_eq_true rfl) rfl rfl rfl ?_
      refine WP.aload_n d_X3_readLine_34 0 rfl ?_
      obtain ⟨x13, ex13, H⟩ := ob H
      refine WP.fR d_X3_readLine_35 gf_X3_24 (fun _ => rfl) ex13 ?_
      refine WP.iconst d_X3_readLine_38 ki_m1 ?_
      obtain ⟨h15, e14, H⟩ := ob H
      refine WP.cS (As := [.ref x13, .int (-1)]) (st := []) (st9 := []) (cl9 := 0) (sl9 := 0) d_X3_readLine_39 (ok_J7_fill_53178 V e14) tv_J7_fill_53178 ts_J7_fill_53178 lk_X3_108 r_X3_readLine_J7_fill_53178 rfl rfl (Nat.le_of_ble_eq_true rfl) rfl rfl rfl ?_
      refine WP.iconst d_X3_readLine_42 ki_0 ?_
      refine WP.istore_n (lv9 := [(3, .int 0), (0, .ref t), (2, .int x2)]) d_X3_readLine_43 (Nat.le_of_ble_eq_true rfl) rfl ?_
      obtain ⟨s35, e20, H⟩ := ob H
      refine WP.sub [1, 2, 0] (lv' := [(0, .ref t), (2, .int x2), (3, .int 0)]) rfl ?_
      refine okl_X3_readLine_L44 V _ e20 (fun r34 hp => ?_) (fun h21 hp => ?_)
      · subst hp
        dsimp only at H
        cases H
        exact ⟨rfl, rfl⟩
      · subst hp
        dsimp only at H
        refine WP.iconst d_X3_readLine_70 ki_0 ?_
        refine WP.istore_n (lv9 := [(3, .int 0), (0, .ref t), (2, .int x2)]) d_X3_readLine_71 (Nat.le_of_ble_eq_true rfl) rfl ?_
        obtain ⟨h28, e27, H⟩ := ob H
        refine WP.sub [1, 2, 0] (lv' := [(0, .ref t), (2, .int x2), (3, .int 0)]) rfl ?_
        refine okl_X3_readLine_L72 V _ e27 ?_
        refine WP.aload_n d_X3_readLine_106 0 rfl ?_
        obtain ⟨x29, ex29, H⟩ := ob H
        refine WP.fI d_X3_readLine_107 gf_X3_63 (fun _ => rfl) ex29 ?_
        refine WP.iconst d_X3_readLine_110 ki_4 ?_
        rcases oj H with ⟨hc, H⟩ | ⟨hc, H⟩
        · refine WP.icmp_eq_t d_X3_readLine_111 hc ?_
          refine WP.aload_n d_X3_readLine_116 0 rfl ?_
          obtain ⟨h31, e30, H⟩ := ob H
          refine WP.cV (c := 4) (As := []) (st := []) (st9 := []) (cl9 := 0) (sl9 := 0) d_X3_readLine_117 (ok_X3_advance V e30) tv_X3_advance ti_X3_advance ts_X3_advance lk_X3_60 r_X3_readLine_X3_advance kc_X3_advance (kd_X3_advance e30) rfl rfl (Nat.le_of_ble_eq_true rfl) rfl rfl rfl ?_
          refine WP.aload_n d_X3_readLine_120 0 rfl ?_
          refine WP.iload_n d_X3_readLine_121 1 rfl ?_
          obtain ⟨h33, e32, H⟩ := ob H
          refine WP.cV (c := 4) (As := [.int x2]) (st := []) (st9 := []) (cl9 := 0) (sl9 := 0) d_X3_readLine_122 (ok_X3_keepLine V e32) tv_X3_keepLine ti_X3_keepLine ts_X3_keepLine lk_X3_121 r_X3_readLine_X3_keepLine kc_X3_keepLine (kd_X3_keepLine e32) rfl rfl (Nat.le_of_ble_eq_true rfl) rfl rfl rfl ?_
          refine WP.iconst d_X3_readLine_125 ki_1 ?_
          cases H
          exact WP.ireturn d_X3_readLine_126 rfl rfl (Nat.le_of_ble_eq_true rfl) (Nat.le_of_ble_eq_true rfl)
        · refine WP.icmp_eq_f d_X3_readLine_111 hc ?_
          refine WP.iconst d_X3_readLine_114 ki_0 ?_
          cases H
          exact WP.ireturn d_X3_readLine_115 rfl rfl (Nat.le_of_ble_eq_true rfl) (Nat.le_of_ble_eq_true rfl)
    rcases oj hs6 with ⟨hc, hs6⟩ | ⟨hc, hs6⟩
    · refine WP.if_eq_t d_X3_readLine_18 hc ?_
      cases hs6
      exact WP.sub [1, 0] rfl J7
    · refine WP.if_eq_f d_X3_readLine_18 hc ?_
      refine WP.aload_n d_X3_readLine_21 1 rfl ?_
      refine WP.iconst d_X3_readLine_22 ki_3 ?_
      refine WP.aload_n d_X3_readLine_23 1 rfl ?_
      obtain ⟨x8, ex8, hs6⟩ := ob hs6
      refine WP.fI d_X3_readLine_24 gf_X3_70 (fun _ => rfl) ex8 ?_
      obtain ⟨h10, e9, hs6⟩ := ob hs6
      refine WP.cV (c := 4) (As := [.int 3, .int x8]) (st := []) (st9 := []) (cl9 := 0) (sl9 := 0) d_X3_readLine_27 (ok_X3_note V e9) tv_X3_note ti_X3_note ts_X3_note lk_X3_104 r_X3_readLine_X3_note kc_X3_note (kd_X3_note e9) rfl rfl (Nat.le_of_ble_eq_true rfl) rfl rfl rfl ?_
      cases hs6
      exact WP.sub [1, 0] rfl J7

set_option maxRecDepth 20000 in
set_option maxHeartbeats 4000000 in
theorem okl_X3_isSomebodyInWall_L4 (V : EV) {vF : Option Value} {hF : HA} {h : HA} {t : Nat} (n : Nat) : ∀ {l1 : Int64} {l3 : Int32} {r1 : Int64}, (H : X3_isSomebodyInWall_L4 h t n l1 l3 = some r1) → (K : WP V M_X3_isSomebodyInWall 35 [(0, .ref t), (1, .long r1)] [] h 0 0 vF hF) → WP V M_X3_isSomebodyInWall 4 [(0, .ref t), (1, .long l1), (3, .int l3)] [] h 0 0 vF hF := by
  induction n with
  | zero =>
    intro l1 l3 r1 H K
    rw [X3_isSomebodyInWall_L4] at H
    cases H
  | succ n ih =>
    intro l1 l3 r1 H K
    rw [X3_isSomebodyInWall_L4] at H
    refine WP.iload_n d_X3_isSomebodyInWall_4 2 rfl ?_
    refine WP.aload_n d_X3_isSomebodyInWall_5 0 rfl ?_
    obtain ⟨x1, ex1, H⟩ := ob H
    refine WP.fR d_X3_isSomebodyInWall_6 gf_X3_12 (fun _ => rfl) ex1 ?_
    obtain ⟨x2, ex2, H⟩ := ob H
    refine WP.fI d_X3_isSomebodyInWall_9 gf_X3_168 (fun _ => rfl) ex2 ?_
    rcases oj H with ⟨hc, H⟩ | ⟨hc, H⟩
    · refine WP.icmp_ge_t d_X3_isSomebodyInWall_12 hc ?_
      refine WP.lload_n d_X3_isSomebodyInWall_15 1 rfl ?_
      refine WP.lconst d_X3_isSomebodyInWall_16 kl_1 ?_
      refine WP.aload_n d_X3_isSomebodyInWall_17 0 rfl ?_
      obtain ⟨x3, ex3, H⟩ := ob H
      refine WP.fR d_X3_isSomebodyInWall_18 gf_X3_12 (fun _ => rfl) ex3 ?_
      refine WP.iload_n d_X3_isSomebodyInWall_21 2 rfl ?_
      refine WP.iconst d_X3_isSomebodyInWall_22 ki_0 ?_
      obtain ⟨x5, e4, H⟩ := ob H
      refine WP.cV (c := 1) (As := [.int l3, .int 0]) (st := [.long 1, .long l1]) (st9 := [.int x5, .long 1, .long l1]) (cl9 := 0) (sl9 := 0) d_X3_isSomebodyInWall_23 (ok_X0_of V e4) tv_X0_of ti_X0_of ts_X0_of lk_X3_228 r_X3_isSomebodyInWall_X0_of kc_X0_of (kd_X0_of e4) rfl rfl (Nat.le_of_ble_eq_true rfl) rfl rfl rfl ?_
      refine WP.lshl d_X3_isSomebodyInWall_26 ?_
      refine WP.lor d_X3_isSomebodyInWall_27 ?_
      refine WP.lstore_n (lv9 := [(1, .long (l1 ||| (shlJ 1 x5))), (0, .ref t), (3, .int l3)]) d_X3_isSomebodyInWall_28 (Nat.le_of_ble_eq_true rfl) rfl ?_
      refine WP.iinc (lv9 := [(3, .int (l3 + 1)), (1, .long (l1 ||| (shlJ 1 x5))), (0, .ref t)]) d_X3_isSomebodyInWall_29 2 rfl ki_1 (Nat.le_of_ble_eq_true rfl) rfl ?_
      refine WP.goto d_X3_isSomebodyInWall_32 ?_
      refine WP.sub [2, 1, 0] (lv' := [(0, .ref t), (1, .long (l1 ||| (shlJ 1 x5))), (3, .int (l3 + 1))]) rfl ?_
      exact ih H K
    · refine WP.icmp_ge_f d_X3_isSomebodyInWall_12 hc ?_
      cases H
      exact WP.sub [0, 1] rfl K

set_option maxRecDepth 20000 in
set_option maxHeartbeats 4000000 in
theorem okl_X3_isSomebodyInWall_L37 (V : EV) {vF : Option Value} {hF : HA} {h : HA} {t : Nat} (n : Nat) : ∀ {l1 : Int64} {l3 : Int32} {r1 : Int64}, (H : X3_isSomebodyInWall_L37 h t n l1 l3 = some r1) → (K : WP V M_X3_isSomebodyInWall 99 [(0, .ref t), (1, .long r1)] [] h 0 0 vF hF) → WP V M_X3_isSomebodyInWall 37 [(0, .ref t), (1, .long l1), (3, .int l3)] [] h 0 0 vF hF := by
  induction n with
  | zero =>
    intro l1 l3 r1 H K
    rw [X3_isSomebodyInWall_L37] at H
    cases H
  | succ n ih =>
    intro l1 l3 r1 H K
    rw [X3_isSomebodyInWall_L37] at H
    refine WP.iload_n d_X3_isSomebodyInWall_37 2 rfl ?_
    refine WP.aload_n d_X3_isSomebodyInWall_38 0 rfl ?_
    obtain ⟨x8, ex8, H⟩ := ob H
    refine WP.fR d_X3_isSomebodyInWall_39 gf_X3_12 (fun _ => rfl) ex8 ?_
    obtain ⟨x9, ex9, H⟩ := ob H
    refine WP.fI d_X3_isSomebodyInWall_42 gf_X3_171 (fun _ => rfl) ex9 ?_
    rcases oj H with ⟨hc, H⟩ | ⟨hc, H⟩
    · refine WP.icmp_ge_t d_X3_isSomebodyInWall_45 hc ?_
      refine WP.lload_n d_X3_isSomebodyInWall_48 1 rfl ?_
      refine WP.lconst d_X3_isSomebodyInWall_49 kl_1 ?_
      refine WP.aload_n d_X3_isSomebodyInWall_50 0 rfl ?_
      obtain ⟨x10, ex10, H⟩ := ob H
      refine WP.fR d_X3_isSomebodyInWall_51 gf_X3_12 (fun _ => rfl) ex10 ?_
      obtain ⟨x11, ex11, H⟩ := ob H
      refine WP.fR d_X3_isSomebodyInWall_54 gf_X3_193 (fun _ => rfl) ex11 ?_
      refine WP.iload_n d_X3_isSomebodyInWall_57 2 rfl ?_
      obtain ⟨x12, ex12, H⟩ := ob H
      refine WP.iald d_X3_isSomebodyInWall_58 ex12 ?_
      refine WP.lshl d_X3_isSomebodyInWall_59 ?_
      refine WP.lor d_X3_isSomebodyInWall_60 ?_
      refine WP.lstore_n (lv9 := [(1, .long (l1 ||| (shlJ 1 x12))), (0, .ref t), (3, .int l3)]) d_X3_isSomebodyInWall_61 (Nat.le_of_ble_eq_true rfl) rfl ?_
      refine WP.lload_n d_X3_isSomebodyInWall_62 0 rfl ?_
      refine WP.aload_n d_X3_isSomebodyInWall_63 1 rfl ?_
      obtain ⟨x13, ex13, H⟩ := ob H
      refine WP.fR d_X3_isSomebodyInWall_64 gf_X3_12 (fun _ => rfl) ex13 ?_
      obtain ⟨x14, ex14, H⟩ := ob H
      refine WP.fR d_X3_isSomebodyInWall_67 gf_X3_205 (fun _ => rfl) ex14 ?_
      refine WP.iload_n d_X3_isSomebodyInWall_70 2 rfl ?_
      obtain ⟨x15, ex15, H⟩ := ob H
      refine WP.iald d_X3_isSomebodyInWall_71 ex15 ?_
      refine WP.iconst d_X3_isSomebodyInWall_72 ki_m1 ?_
      rcases oj H with ⟨hc, H⟩ | ⟨hc, H⟩
      · refine WP.icmp_ne_t d_X3_isSomebodyInWall_73 hc ?_
        refine WP.lconst d_X3_isSomebodyInWall_76 kl_0 ?_
        refine WP.goto d_X3_isSomebodyInWall_77 ?_
        refine WP.lor d_X3_isSomebodyInWall_91 ?_
        refine WP.lstore_n (lv9 := [(1, .long ((l1 ||| (shlJ 1 x12)) ||| 0)), (0, .ref t), (3, .int l3)]) d_X3_isSomebodyInWall_92 (Nat.le_of_ble_eq_true rfl) rfl ?_
        refine WP.iinc (lv9 := [(3, .int (l3 + 1)), (1, .long ((l1 ||| (shlJ 1 x12)) ||| 0)), (0, .ref t)]) d_X3_isSomebodyInWall_93 2 rfl ki_1 (Nat.le_of_ble_eq_true rfl) rfl ?_
        refine WP.goto d_X3_isSomebodyInWall_96 ?_
        refine WP.sub [2, 1, 0] (lv' := [(0, .ref t), (1, .long ((l1 ||| (shlJ 1 x12)) ||| 0)), (3, .int (l3 + 1))]) rfl ?_
        exact ih H K
      · refine WP.icmp_ne_f d_X3_isSomebodyInWall_73 hc ?_
        refine WP.lconst d_X3_isSomebodyInWall_80 kl_1 ?_
        refine WP.aload_n d_X3_isSomebodyInWall_81 1 rfl ?_
        obtain ⟨x16, ex16, H⟩ := ob H
        refine WP.fR d_X3_isSomebodyInWall_82 gf_X3_12 (fun _ => rfl) ex16 ?_
        obtain ⟨x17, ex17, H⟩ := ob H
        refine WP.fR d_X3_isSomebodyInWall_85 gf_X3_205 (fun _ => rfl) ex17 ?_
        refine WP.iload_n d_X3_isSomebodyInWall_88 2 rfl ?_
        obtain ⟨x18, ex18, H⟩ := ob H
        refine WP.iald d_X3_isSomebodyInWall_89 ex18 ?_
        refine WP.lshl d_X3_isSomebodyInWall_90 ?_
        refine WP.lor d_X3_isSomebodyInWall_91 ?_
        refine WP.lstore_n (lv9 := [(1, .long ((l1 ||| (shlJ 1 x12)) ||| (shlJ 1 x18))), (0, .ref t), (3, .int l3)]) d_X3_isSomebodyInWall_92 (Nat.le_of_ble_eq_true rfl) rfl ?_
        refine WP.iinc (lv9 := [(3, .int (l3 + 1)), (1, .long ((l1 ||| (shlJ 1 x12)) ||| (shlJ 1 x18))), (0, .ref t)]) d_X3_isSomebodyInWall_93 2 rfl ki_1 (Nat.le_of_ble_eq_true rfl) rfl ?_
        refine WP.goto d_X3_isSomebodyInWall_96 ?_
        refine WP.sub [2, 1, 0] (lv' := [(0, .ref t), (1, .long ((l1 ||| (shlJ 1 x12)) ||| (shlJ 1 x18))), (3, .int (l3 + 1))]) rfl ?_
        exact ih H K
    · refine WP.icmp_ge_f d_X3_isSomebodyInWall_45 hc ?_
      cases H
      exact WP.sub [0, 1] rfl K

set_option maxRecDepth 20000 in
set_option maxHeartbeats 4000000 in
theorem ok_X3_isSomebodyInWall (V : EV) {h : HA} {t : Nat} {r : Int32} (H : X3_isSomebodyInWall h t = some r) : MG V M_X3_isSomebodyInWall [.ref t] h (some (.int r)) h := by
  unfold X3_isSomebodyInWall at H
  obtain ⟨_, H⟩ := oc H
  refine MG.of (lv0 := [(0, .ref t)]) pn_X3 rfl (Nat.le_of_ble_eq_true rfl) ?_
  refine WP.lconst d_X3_isSomebodyInWall_0 kl_0 ?_
  refine WP.lstore_n (lv9 := [(1, .long 0), (0, .ref t)]) d_X3_isSomebodyInWall_1 (Nat.le_of_ble_eq_true rfl) rfl ?_
  refine WP.iconst d_X3_isSomebodyInWall_2 ki_0 ?_
  refine WP.istore_n (lv9 := [(3, .int 0), (1, .long 0), (0, .ref t)]) d_X3_isSomebodyInWall_3 (Nat.le_of_ble_eq_true rfl) rfl ?_
  obtain ⟨y7, e6, H⟩ := ob H
  refine WP.sub [2, 1, 0] (lv' := [(0, .ref t), (1, .long 0), (3, .int 0)]) rfl ?_
  refine okl_X3_isSomebodyInWall_L4 V _ e6 ?_
  refine WP.iconst d_X3_isSomebodyInWall_35 ki_0 ?_
  refine WP.istore_n (lv9 := [(3, .int 0), (0, .ref t), (1, .long y7)]) d_X3_isSomebodyInWall_36 (Nat.le_of_ble_eq_true rfl) rfl ?_
  obtain ⟨y20, e19, H⟩ := ob H
  refine WP.sub [1, 2, 0] (lv' := [(0, .ref t), (1, .long y7), (3, .int 0)]) rfl ?_
  refine okl_X3_isSomebodyInWall_L37 V _ e19 ?_
  refine WP.lload_n d_X3_isSomebodyInWall_99 1 rfl ?_
  refine WP.aload_n d_X3_isSomebodyInWall_100 0 rfl ?_
  obtain ⟨x21, ex21, H⟩ := ob H
  refine WP.fR d_X3_isSomebodyInWall_101 gf_X3_12 (fun _ => rfl) ex21 ?_
  obtain ⟨x22, ex22, H⟩ := ob H
  refine WP.fJ d_X3_isSomebodyInWall_104 gf_X3_181 (fun _ => rfl) ex22 ?_
  refine WP.land d_X3_isSomebodyInWall_107 ?_
  refine WP.lconst d_X3_isSomebodyInWall_108 kl_0 ?_
  rcases oj H with ⟨hc, H⟩ | ⟨hc, H⟩
  · refine WP.lcmp_eq_t d_X3_isSomebodyInWall_109 d_X3_isSomebodyInWall_110 hc ?_
    refine WP.iconst d_X3_isSomebodyInWall_117 ki_0 ?_
    cases H
    exact WP.ireturn d_X3_isSomebodyInWall_118 rfl rfl (Nat.le_of_ble_eq_true rfl) (Nat.le_of_ble_eq_true rfl)
  · refine WP.lcmp_eq_f d_X3_isSomebodyInWall_109 d_X3_isSomebodyInWall_110 hc ?_
    refine WP.iconst d_X3_isSomebodyInWall_113 ki_1 ?_
    refine WP.goto d_X3_isSomebodyInWall_114 ?_
    cases H
    exact WP.ireturn d_X3_isSomebodyInWall_118 rfl rfl (Nat.le_of_ble_eq_true rfl) (Nat.le_of_ble_eq_true rfl)

set_option maxRecDepth 20000 in
set_option maxHeartbeats 4000000 in
theorem ok_X3_finishCourt (V : EV) {h : HA} {t : Nat} {hR : HA} (H : X3_finishCourt h t = some hR) : MG V M_X3_finishCourt [.ref t] h none hR := by
  unfold X3_finishCourt at H
  obtain ⟨_, H⟩ := oc H
  refine MG.of (lv0 := [(0, .ref t)]) pn_X3 rfl (Nat.le_of_ble_eq_true rfl) ?_
  refine WP.aload_n d_X3_finishCourt_0 0 rfl ?_
  obtain ⟨x1, ex1, H⟩ := ob H
  refine WP.fJ d_X3_finishCourt_1 gf_X3_49 (fun _ => rfl) ex1 ?_
  refine WP.aload_n d_X3_finishCourt_4 0 rfl ?_
  obtain ⟨x2, ex2, H⟩ := ob H
  refine WP.fR d_X3_finishCourt_5 gf_X3_12 (fun _ => rfl) ex2 ?_
  obtain ⟨x4, e3, H⟩ := ob H
  refine WP.cV (c := 1) (As := []) (st := [.long x1]) (st9 := [.long x4, .long x1]) (cl9 := 0) (sl9 := 0) d_X3_finishCourt_8 (ok_X0_all V e3) tv_X0_all ti_X0_all ts_X0_all lk_X3_216 r_X3_finishCourt_X0_all kc_X0_all (kd_X0_all e3) rfl rfl (Nat.le_of_ble_eq_true rfl) rfl rfl rfl ?_
  refine WP.ldc2 d_X3_finishCourt_11 wl_X3_220 ?_
  refine WP.lxor d_X3_finishCourt_14 ?_
  refine WP.land d_X3_finishCourt_15 ?_
  refine WP.lconst d_X3_finishCourt_16 kl_0 ?_
  obtain ⟨j5, hs6, H⟩ := ob H
  have J7 : WP V M_X3_finishCourt 41 [(0, .ref t)] [.int j5] h 0 0 none hR := by
    refine WP.istore_n (lv9 := [(1, .int j5), (0, .ref t)]) d_X3_finishCourt_41 (Nat.le_of_ble_eq_true rfl) rfl ?_
    refine WP.iload_n d_X3_finishCourt_42 0 rfl ?_
    rcases oj H with ⟨hc, H⟩ | ⟨hc, H⟩
    · refine WP.if_ne_t d_X3_finishCourt_43 hc ?_
      refine WP.aload_n d_X3_finishCourt_46 1 rfl ?_
      obtain ⟨x12, e11, H⟩ := ob H
      refine WP.cV (c := 4) (As := []) (st := []) (st9 := [.int x12]) (cl9 := 0) (sl9 := 0) d_X3_finishCourt_47 (ok_X3_isSomebodyInWall V e11) tv_X3_isSomebodyInWall ti_X3_isSomebodyInWall ts_X3_isSomebodyInWall lk_X3_222 r_X3_finishCourt_X3_isSomebodyInWall kc_X3_isSomebodyInWall (kd_X3_isSomebodyInWall e11) rfl rfl (Nat.le_of_ble_eq_true rfl) rfl rfl rfl ?_
      rcases oj H with ⟨hc, H⟩ | ⟨hc, H⟩
      · refine WP.if_eq_t d_X3_finishCourt_50 hc ?_
        refine WP.aload_n d_X3_finishCourt_65 1 rfl ?_
        obtain ⟨x13, ex13, H⟩ := ob H
        refine WP.fR d_X3_finishCourt_66 gf_X3_12 (fun _ => rfl) ex13 ?_
        obtain ⟨h15, e14, H⟩ := ob H
        refine WP.cV (c := 1) (As := []) (st := []) (st9 := []) (cl9 := 0) (sl9 := 0) d_X3_finishCourt_69 (ok_X0_measure V e14) tv_X0_measure ti_X0_measure ts_X0_measure lk_X3_225 r_X3_finishCourt_X0_measure kc_X0_measure (kd_X0_measure e14) rfl rfl (Nat.le_of_ble_eq_true rfl) rfl rfl rfl ?_
        cases H
        exact WP.return_ d_X3_finishCourt_72 rfl (Nat.le_of_ble_eq_true rfl) (Nat.le_of_ble_eq_true rfl)
      · refine WP.if_eq_f d_X3_finishCourt_50 hc ?_
        refine WP.aload_n d_X3_finishCourt_53 1 rfl ?_
        refine WP.iconst d_X3_finishCourt_54 ki_4 ?_
        refine WP.aload_n d_X3_finishCourt_55 1 rfl ?_
        obtain ⟨x16, ex16, H⟩ := ob H
        refine WP.fI d_X3_finishCourt_56 gf_X3_36 (fun _ => rfl) ex16 ?_
        obtain ⟨h18, e17, H⟩ := ob H
        refine WP.cV (c := 4) (As := [.int 4, .int x16]) (st := []) (st9 := []) (cl9 := 0) (sl9 := 0) d_X3_finishCourt_59 (ok_X3_note V e17) tv_X3_note ti_X3_note ts_X3_note lk_X3_104 r_X3_finishCourt_X3_note kc_X3_note (kd_X3_note e17) rfl rfl (Nat.le_of_ble_eq_true rfl) rfl rfl rfl ?_
        refine WP.goto d_X3_finishCourt_62 ?_
        cases H
        exact WP.return_ d_X3_finishCourt_72 rfl (Nat.le_of_ble_eq_true rfl) (Nat.le_of_ble_eq_true rfl)
    · refine WP.if_ne_f d_X3_finishCourt_43 hc ?_
      refine WP.aload_n d_X3_finishCourt_53 1 rfl ?_
      refine WP.iconst d_X3_finishCourt_54 ki_4 ?_
      refine WP.aload_n d_X3_finishCourt_55 1 rfl ?_
      obtain ⟨x19, ex19, H⟩ := ob H
      refine WP.fI d_X3_finishCourt_56 gf_X3_36 (fun _ => rfl) ex19 ?_
      obtain ⟨h21, e20, H⟩ := ob H
      refine WP.cV (c := 4) (As := [.int 4, .int x19]) (st := []) (st9 := []) (cl9 := 0) (sl9 := 0) d_X3_finishCourt_59 (ok_X3_note V e20) tv_X3_note ti_X3_note ts_X3_note lk_X3_104 r_X3_finishCourt_X3_note kc_X3_note (kd_X3_note e20) rfl rfl (Nat.le_of_ble_eq_true rfl) rfl rfl rfl ?_
      refine WP.goto d_X3_finishCourt_62 ?_
      cases H
      exact WP.return_ d_X3_finishCourt_72 rfl (Nat.le_of_ble_eq_true rfl) (Nat.le_of_ble_eq_true rfl)
  rcases oj hs6 with ⟨hc, hs6⟩ | ⟨hc, hs6⟩
  · refine WP.lcmp_ne_t d_X3_finishCourt_17 d_X3_finishCourt_18 hc ?_
    refine WP.aload_n d_X3_finishCourt_21 0 rfl ?_
    obtain ⟨x8, ex8, hs6⟩ := ob hs6
    refine WP.fI d_X3_finishCourt_22 gf_X3_53 (fun _ => rfl) ex8 ?_
    refine WP.aload_n d_X3_finishCourt_25 0 rfl ?_
    obtain ⟨x9, ex9, hs6⟩ := ob hs6
    refine WP.fR d_X3_finishCourt_26 gf_X3_12 (fun _ => rfl) ex9 ?_
    obtain ⟨x10, ex10, hs6⟩ := ob hs6
    refine WP.fI d_X3_finishCourt_29 gf_X3_171 (fun _ => rfl) ex10 ?_
    refine WP.iushr d_X3_finishCourt_32 ?_
    rcases oj hs6 with ⟨hc, hs6⟩ | ⟨hc, hs6⟩
    · refine WP.if_eq_t d_X3_finishCourt_33 hc ?_
      refine WP.iconst d_X3_finishCourt_40 ki_0 ?_
      cases hs6
      exact WP.sub [0] rfl J7
    · refine WP.if_eq_f d_X3_finishCourt_33 hc ?_
      refine WP.iconst d_X3_finishCourt_36 ki_1 ?_
      refine WP.goto d_X3_finishCourt_37 ?_
      cases hs6
      exact WP.sub [0] rfl J7
  · refine WP.lcmp_ne_f d_X3_finishCourt_17 d_X3_finishCourt_18 hc ?_
    refine WP.iconst d_X3_finishCourt_36 ki_1 ?_
    refine WP.goto d_X3_finishCourt_37 ?_
    cases hs6
    exact WP.sub [0] rfl J7

set_option maxRecDepth 20000 in
set_option maxHeartbeats 4000000 in
theorem okl_X3_read_L47 (V : EV) {vF : Option Value} {hF : HA} {t : Nat} {l3 : Int32} (n : Nat) : ∀ {h : HA} {l4 : Int32} {R : (HA ⊕ HA)}, (H : X3_read_L47 t l3 n h l4 = some R) → (Kr : ∀ p : HA, R = .inl p → vF = none ∧ hF = p) → (K : ∀ (hR : HA), R = .inr hR → WP V M_X3_read 91 [(0, .ref t), (3, .int l3)] [] hR 0 0 vF hF) → WP V M_X3_read 47 [(0, .ref t), (3, .int l3), (4, .int l4)] [] h 0 0 vF hF := by
  induction n with
  | zero =>
    intro h l4 R H Kr K
    rw [X3_read_L47] at H
    cases H
  | succ n ih =>
    intro h l4 R H Kr K
    rw [X3_read_L47] at H
    refine WP.iload d_X3_read_47 2 rfl ?_
    refine WP.aload_n d_X3_read_49 0 rfl ?_
    obtain ⟨x12, ex12, H⟩ := ob H
    refine WP.fI d_X3_read_50 gf_X3_36 (fun _ => rfl) ex12 ?_
    rcases oj H with ⟨hc, H⟩ | ⟨hc, H⟩
    · refine WP.icmp_gt_t d_X3_read_53 hc ?_
      cases H
      exact WP.sub [0, 1] rfl (K _ rfl)
    · refine WP.icmp_gt_f d_X3_read_53 hc ?_
      refine WP.aload_n d_X3_read_56 0 rfl ?_
      obtain ⟨x13, ex13, H⟩ := ob H
      refine WP.fI d_X3_read_57 gf_X3_63 (fun _ => rfl) ex13 ?_
      rcases oj H with ⟨hc, H⟩ | ⟨hc, H⟩
      · refine WP.if_eq_t d_X3_read_60 hc ?_
        cases H
        exact WP.sub [0, 1] rfl (K _ rfl)
      · refine WP.if_eq_f d_X3_read_60 hc ?_
        refine WP.aload_n d_X3_read_63 0 rfl ?_
        refine WP.iload_n d_X3_read_64 1 rfl ?_
        obtain ⟨⟨x16, h15⟩, e14, H⟩ := ob H
        refine WP.cV (c := 4) (As := [.int l3]) (st := []) (st9 := [.int x16]) (cl9 := 0) (sl9 := 0) d_X3_read_65 (ok_X3_readLine V e14) tv_X3_readLine ti_X3_readLine ts_X3_readLine lk_X3_66 r_X3_read_X3_readLine kc_X3_readLine (kd_X3_readLine e14) rfl rfl (Nat.le_of_ble_eq_true rfl) rfl rfl rfl ?_
        rcases oj H with ⟨hc, H⟩ | ⟨hc, H⟩
        · refine WP.if_ne_t d_X3_read_68 hc ?_
          refine WP.aload_n d_X3_read_71 0 rfl ?_
          refine WP.iconst d_X3_read_72 ki_1 ?_
          obtain ⟨h17, eh17, H⟩ := ob H
          refine WP.uI d_X3_read_73 gf_X3_43 rfl (Or.inl rfl) rfl rfl eh17 ?_
          refine WP.aload_n d_X3_read_76 0 rfl ?_
          refine WP.aload_n d_X3_read_77 0 rfl ?_
          obtain ⟨x18, ex18, H⟩ := ob H
          refine WP.fI d_X3_read_78 gf_X3_70 (fun _ => rfl) ex18 ?_
          obtain ⟨h19, eh19, H⟩ := ob H
          refine WP.uI d_X3_read_81 gf_X3_46 rfl (Or.inl rfl) rfl rfl eh19 ?_
          cases H
          obtain ⟨rfl, rfl⟩ := Kr _ rfl
          exact WP.return_ d_X3_read_84 rfl (Nat.le_of_ble_eq_true rfl) (Nat.le_of_ble_eq_true rfl)
        · refine WP.if_ne_f d_X3_read_68 hc ?_
          refine WP.iinc (lv9 := [(4, .int (l4 + 1)), (0, .ref t), (3, .int l3)]) d_X3_read_85 2 rfl ki_1 (Nat.le_of_ble_eq_true rfl) rfl ?_
          refine WP.goto d_X3_read_88 ?_
          refine WP.sub [1, 2, 0] (lv' := [(0, .ref t), (3, .int l3), (4, .int (l4 + 1))]) rfl ?_
          exact ih H Kr K

set_option maxRecDepth 20000 in
set_option maxHeartbeats 4000000 in
theorem ok_X3_read (V : EV) {h : HA} {t : Nat} {l1 : Nat} {l2 : Int32} {l3 : Int32} {hR : HA} (H : X3_read h t l1 l2 l3 = some hR) : MG V M_X3_read [.ref t, .ref l1, .int l2, .int l3] h none hR := by
  unfold X3_read at H
  obtain ⟨_, H⟩ := oc H
  refine MG.of (lv0 := [(0, .ref t), (1, .ref l1), (2, .int l2), (3, .int l3)]) pn_X3 rfl (Nat.le_of_ble_eq_true rfl) ?_
  refine WP.aload_n d_X3_read_0 0 rfl ?_
  refine WP.aload_n d_X3_read_1 1 rfl ?_
  obtain ⟨h1, eh1, H⟩ := ob H
  refine WP.uR d_X3_read_2 gf_X3_32 rfl (x := (some l1)) (fun _ => rfl) rfl rfl eh1 ?_
  refine WP.aload_n d_X3_read_5 0 rfl ?_
  refine WP.iload_n d_X3_read_6 2 rfl ?_
  obtain ⟨h2, eh2, H⟩ := ob H
  refine WP.uI d_X3_read_7 gf_X3_36 rfl (Or.inl rfl) rfl rfl eh2 ?_
  refine WP.aload_n d_X3_read_10 0 rfl ?_
  refine WP.iconst d_X3_read_11 ki_0 ?_
  obtain ⟨h3, eh3, H⟩ := ob H
  refine WP.uI d_X3_read_12 gf_X3_40 rfl (Or.inl rfl) rfl rfl eh3 ?_
  refine WP.aload_n d_X3_read_15 0 rfl ?_
  refine WP.iconst d_X3_read_16 ki_0 ?_
  obtain ⟨h4, eh4, H⟩ := ob H
  refine WP.uI d_X3_read_17 gf_X3_43 rfl (Or.inl rfl) rfl rfl eh4 ?_
  refine WP.aload_n d_X3_read_20 0 rfl ?_
  refine WP.iconst d_X3_read_21 ki_m1 ?_
  obtain ⟨h5, eh5, H⟩ := ob H
  refine WP.uI d_X3_read_22 gf_X3_46 rfl (Or.inl rfl) rfl rfl eh5 ?_
  refine WP.aload_n d_X3_read_25 0 rfl ?_
  refine WP.lconst d_X3_read_26 kl_0 ?_
  obtain ⟨h6, eh6, H⟩ := ob H
  refine WP.uJ d_X3_read_27 gf_X3_49 rfl rfl eh6 ?_
  refine WP.aload_n d_X3_read_30 0 rfl ?_
  refine WP.iconst d_X3_read_31 ki_0 ?_
  obtain ⟨h7, eh7, H⟩ := ob H
  refine WP.uI d_X3_read_32 gf_X3_53 rfl (Or.inl rfl) rfl rfl eh7 ?_
  refine WP.aload_n d_X3_read_35 0 rfl ?_
  refine WP.iload_n d_X3_read_36 3 rfl ?_
  obtain ⟨h9, e8, H⟩ := ob H
  refine WP.cV (c := 4) (As := [.int l3]) (st := []) (st9 := []) (cl9 := 0) (sl9 := 0) d_X3_read_37 (ok_X3_clearDraft V e8) tv_X3_clearDraft ti_X3_clearDraft ts_X3_clearDraft lk_X3_56 r_X3_read_X3_clearDraft kc_X3_clearDraft (kd_X3_clearDraft e8) rfl rfl (Nat.le_of_ble_eq_true rfl) rfl rfl rfl ?_
  refine WP.aload_n d_X3_read_40 0 rfl ?_
  obtain ⟨h11, e10, H⟩ := ob H
  refine WP.cV (c := 4) (As := []) (st := []) (st9 := []) (cl9 := 0) (sl9 := 0) d_X3_read_41 (ok_X3_advance V e10) tv_X3_advance ti_X3_advance ts_X3_advance lk_X3_60 r_X3_read_X3_advance kc_X3_advance (kd_X3_advance e10) rfl rfl (Nat.le_of_ble_eq_true rfl) rfl rfl rfl ?_
  refine WP.iconst d_X3_read_44 ki_0 ?_
  refine WP.istore (lv9 := [(4, .int 0), (0, .ref t), (1, .ref l1), (2, .int l2), (3, .int l3)]) d_X3_read_45 (Nat.le_of_ble_eq_true rfl) rfl ?_
  obtain ⟨s26, e20, H⟩ := ob H
  refine WP.sub [1, 4, 0] (lv' := [(0, .ref t), (3, .int l3), (4, .int 0)]) rfl ?_
  refine okl_X3_read_L47 V _ e20 (fun r25 hp => ?_) (fun h21 hp => ?_)
  · subst hp
    dsimp only at H
    cases H
    exact ⟨rfl, rfl⟩
  · subst hp
    dsimp only at H
    refine WP.iload_n d_X3_read_91 1 rfl ?_
    rcases oj H with ⟨hc, H⟩ | ⟨hc, H⟩
    · refine WP.if_ne_t d_X3_read_92 hc ?_
      refine WP.aload_n d_X3_read_95 0 rfl ?_
      obtain ⟨x22, ex22, H⟩ := ob H
      refine WP.fI d_X3_read_96 gf_X3_43 (fun _ => rfl) ex22 ?_
      rcases oj H with ⟨hc, H⟩ | ⟨hc, H⟩
      · refine WP.if_ne_t d_X3_read_99 hc ?_
        refine WP.aload_n d_X3_read_102 0 rfl ?_
        obtain ⟨h24, e23, H⟩ := ob H
        refine WP.cV (c := 4) (As := []) (st := []) (st9 := []) (cl9 := 0) (sl9 := 0) d_X3_read_103 (ok_X3_finishCourt V e23) tv_X3_finishCourt ti_X3_finishCourt ts_X3_finishCourt lk_X3_73 r_X3_read_X3_finishCourt kc_X3_finishCourt (kd_X3_finishCourt e23) rfl rfl (Nat.le_of_ble_eq_true rfl) rfl rfl rfl ?_
        cases H
        exact WP.return_ d_X3_read_106 rfl (Nat.le_of_ble_eq_true rfl) (Nat.le_of_ble_eq_true rfl)
      · refine WP.if_ne_f d_X3_read_99 hc ?_
        cases H
        exact WP.return_ d_X3_read_106 rfl (Nat.le_of_ble_eq_true rfl) (Nat.le_of_ble_eq_true rfl)
    · refine WP.if_ne_f d_X3_read_92 hc ?_
      cases H
      exact WP.return_ d_X3_read_106 rfl (Nat.le_of_ble_eq_true rfl) (Nat.le_of_ble_eq_true rfl)

set_option maxRecDepth 20000 in
set_option maxHeartbeats 4000000 in
theorem ok_X4_init (V : EV) {h : HA} {t : Nat} {hR : HA} (H : X4_init h t = some hR) : MG V M_X4_init [.ref t] h none hR := by
  unfold X4_init at H
  obtain ⟨_, H⟩ := oc H
  refine MG.of (lv0 := [(0, .ref t)]) pn_X4 rfl (Nat.le_of_ble_eq_true rfl) ?_
  refine WP.aload_n d_X4_init_0 0 rfl ?_
  refine WP.objInit d_X4_init_1 lk_X4_3 w_oi_inst w_oi_code (Nat.le_of_ble_eq_true rfl) (Nat.le_of_ble_eq_true rfl) ?_
  refine WP.aload_n d_X4_init_4 0 rfl ?_
  refine WP.bipush d_X4_init_5 kb_36 ?_
  obtain ⟨h1, eh1, H⟩ := ob H
  refine WP.newarr (c := 20) d_X4_init_7 (Nat.le_of_ble_eq_true rfl) (Nat.le_of_ble_eq_true rfl) rfl wa_int eh1 (Nat.le_of_ble_eq_true rfl) fc_20 (Nat.le_of_ble_eq_true rfl) (Nat.le_of_ble_eq_true rfl) newa_20 ?_
  refine WP.cs (cl9 := 1) (sl9 := 36) rfl rfl ?_
  obtain ⟨h2, eh2, H⟩ := ob H
  refine WP.vR d_X4_init_9 gf_X4_9 rfl rfl rfl (x := (some (hz h))) (fun _ => rfl) rfl rfl eh2 ?_
  refine WP.aload_n d_X4_init_12 0 rfl ?_
  refine WP.bipush d_X4_init_13 kb_64 ?_
  obtain ⟨h3, eh3, H⟩ := ob H
  refine WP.newarr (c := 20) d_X4_init_15 (Nat.le_of_ble_eq_true rfl) (Nat.le_of_ble_eq_true rfl) rfl wa_int eh3 (Nat.le_of_ble_eq_true rfl) fc_20 (Nat.le_of_ble_eq_true rfl) (Nat.le_of_ble_eq_true rfl) newa_20 ?_
  refine WP.cs (cl9 := 2) (sl9 := 100) rfl rfl ?_
  obtain ⟨h4, eh4, H⟩ := ob H
  refine WP.vR d_X4_init_17 gf_X4_15 rfl rfl rfl (x := (some (hz h2))) (fun _ => rfl) rfl rfl eh4 ?_
  cases H
  exact WP.return_ d_X4_init_20 rfl (Nat.le_of_ble_eq_true rfl) (Nat.le_of_ble_eq_true rfl)

set_option maxRecDepth 20000 in
set_option maxHeartbeats 4000000 in
theorem ok_X4_worthWith (V : EV) {h : HA} {t : Nat} {l1 : Int32} {l2 : Int32} {r : Int32} (H : X4_worthWith h t l1 l2 = some r) : MG V M_X4_worthWith [.ref t, .int l1, .int l2] h (some (.int r)) h := by
  unfold X4_worthWith at H
  obtain ⟨_, H⟩ := oc H
  refine MG.of (lv0 := [(0, .ref t), (1, .int l1), (2, .int l2)]) pn_X4 rfl (Nat.le_of_ble_eq_true rfl) ?_
  refine WP.iload_n d_X4_worthWith_0 1 rfl ?_
  obtain ⟨x2, e1, H⟩ := ob H
  refine WP.cS (As := [.int l1]) (st := []) (st9 := [.int x2]) (cl9 := 0) (sl9 := 0) d_X4_worthWith_1 (ok_J6_bitCount_0f7a4 V (h := h) e1) tv_J6_bitCount_0f7a4 ts_J6_bitCount_0f7a4 lk_X4_47 r_X4_worthWith_J6_bitCount_0f7a4 rfl rfl (Nat.le_of_ble_eq_true rfl) rfl rfl rfl ?_
  refine WP.istore_n (lv9 := [(3, .int x2), (0, .ref t), (1, .int l1), (2, .int l2)]) d_X4_worthWith_4 (Nat.le_of_ble_eq_true rfl) rfl ?_
  refine WP.aload_n d_X4_worthWith_5 1 rfl ?_
  obtain ⟨x3, ex3, H⟩ := ob H
  refine WP.fR d_X4_worthWith_6 gf_X4_9 (fun _ => rfl) ex3 ?_
  refine WP.iload_n d_X4_worthWith_9 0 rfl ?_
  refine WP.bipush d_X4_worthWith_10 kb_6 ?_
  refine WP.imul d_X4_worthWith_12 ?_
  refine WP.iload_n d_X4_worthWith_13 3 rfl ?_
  refine WP.iadd d_X4_worthWith_14 ?_
  obtain ⟨x4, ex4, H⟩ := ob H
  refine WP.iald d_X4_worthWith_15 ex4 ?_
  refine WP.aload_n d_X4_worthWith_16 1 rfl ?_
  obtain ⟨x5, ex5, H⟩ := ob H
  refine WP.fR d_X4_worthWith_17 gf_X4_15 (fun _ => rfl) ex5 ?_
  refine WP.iload_n d_X4_worthWith_20 2 rfl ?_
  refine WP.iconst d_X4_worthWith_21 ki_1 ?_
  refine WP.iload_n d_X4_worthWith_22 3 rfl ?_
  refine WP.ishl d_X4_worthWith_23 ?_
  refine WP.ior d_X4_worthWith_24 ?_
  obtain ⟨x6, ex6, H⟩ := ob H
  refine WP.iald d_X4_worthWith_25 ex6 ?_
  refine WP.iadd d_X4_worthWith_26 ?_
  cases H
  exact WP.ireturn d_X4_worthWith_27 rfl rfl (Nat.le_of_ble_eq_true rfl) (Nat.le_of_ble_eq_true rfl)

set_option maxRecDepth 20000 in
set_option maxHeartbeats 4000000 in
theorem okl_X4_settle_L23 (V : EV) {vF : Option Value} {hF : HA} {t : Nat} {l1 : Nat} {l2 : Int32} (n : Nat) : ∀ {h : HA} {l3 : Int32} {hR : HA}, (H : X4_settle_L23 t l1 l2 n h l3 = some hR) → (K : WP V M_X4_settle 54 [(0, .ref t), (1, .ref l1), (2, .int l2)] [] hR 0 0 vF hF) → WP V M_X4_settle 23 [(0, .ref t), (1, .ref l1), (2, .int l2), (3, .int l3)] [] h 0 0 vF hF := by
  induction n with
  | zero =>
    intro h l3 hR H K
    rw [X4_settle_L23] at H
    cases H
  | succ n ih =>
    intro h l3 hR H K
    rw [X4_settle_L23] at H
    refine WP.iload_n d_X4_settle_23 3 rfl ?_
    refine WP.aload_n d_X4_settle_24 0 rfl ?_
    obtain ⟨x5, ex5, H⟩ := ob H
    refine WP.fI d_X4_settle_25 gf_X4_30 (fun _ => rfl) ex5 ?_
    rcases oj H with ⟨hc, H⟩ | ⟨hc, H⟩
    · refine WP.icmp_ge_t d_X4_settle_28 hc ?_
      refine WP.aload_n d_X4_settle_31 0 rfl ?_
      obtain ⟨x6, ex6, H⟩ := ob H
      refine WP.fR d_X4_settle_32 gf_X4_9 (fun _ => rfl) ex6 ?_
      refine WP.iload_n d_X4_settle_35 2 rfl ?_
      refine WP.bipush d_X4_settle_36 kb_6 ?_
      refine WP.imul d_X4_settle_38 ?_
      refine WP.iload_n d_X4_settle_39 3 rfl ?_
      refine WP.iadd d_X4_settle_40 ?_
      refine WP.aload_n d_X4_settle_41 1 rfl ?_
      refine WP.iload_n d_X4_settle_42 2 rfl ?_
      refine WP.iload_n d_X4_settle_43 3 rfl ?_
      obtain ⟨x8, e7, H⟩ := ob H
      refine WP.cV (c := 2) (As := [.int l2, .int l3]) (st := [.int ((l2 * 6) + l3), .ref x6]) (st9 := [.int x8, .int ((l2 * 6) + l3), .ref x6]) (cl9 := 0) (sl9 := 0) d_X4_settle_44 (ok_X1_knownOnSeat V e7) tv_X1_knownOnSeat ti_X1_knownOnSeat ts_X1_knownOnSeat lk_X4_31 r_X4_settle_X1_knownOnSeat kc_X1_knownOnSeat (kd_X1_knownOnSeat e7) rfl rfl (Nat.le_of_ble_eq_true rfl) rfl rfl rfl ?_
      obtain ⟨h9, eh9, H⟩ := ob H
      refine WP.ias d_X4_settle_47 eh9 ?_
      refine WP.iinc (lv9 := [(3, .int (l3 + 1)), (0, .ref t), (1, .ref l1), (2, .int l2)]) d_X4_settle_48 3 rfl ki_1 (Nat.le_of_ble_eq_true rfl) rfl ?_
      refine WP.goto d_X4_settle_51 ?_
      refine WP.sub [1, 2, 3, 0] (lv' := [(0, .ref t), (1, .ref l1), (2, .int l2), (3, .int (l3 + 1))]) rfl ?_
      exact ih H K
    · refine WP.icmp_ge_f d_X4_settle_28 hc ?_
      cases H
      exact WP.sub [0, 1, 2] rfl K

set_option maxRecDepth 20000 in
set_option maxHeartbeats 4000000 in
theorem okl_X4_settle_L13 (V : EV) {vF : Option Value} {hF : HA} {t : Nat} {l1 : Nat} (n : Nat) : ∀ {h : HA} {l2 : Int32} {hR : HA}, (H : X4_settle_L13 t l1 n h l2 = some hR) → (K : WP V M_X4_settle 60 [(0, .ref t)] [] hR 0 0 vF hF) → WP V M_X4_settle 13 [(0, .ref t), (1, .ref l1), (2, .int l2)] [] h 0 0 vF hF := by
  induction n with
  | zero =>
    intro h l2 hR H K
    rw [X4_settle_L13] at H
    cases H
  | succ n ih =>
    intro h l2 hR H K
    rw [X4_settle_L13] at H
    refine WP.iload_n d_X4_settle_13 2 rfl ?_
    refine WP.aload_n d_X4_settle_14 0 rfl ?_
    obtain ⟨x4, ex4, H⟩ := ob H
    refine WP.fI d_X4_settle_15 gf_X4_30 (fun _ => rfl) ex4 ?_
    rcases oj H with ⟨hc, H⟩ | ⟨hc, H⟩
    · refine WP.icmp_ge_t d_X4_settle_18 hc ?_
      refine WP.iconst d_X4_settle_21 ki_0 ?_
      refine WP.istore_n (lv9 := [(3, .int 0), (0, .ref t), (1, .ref l1), (2, .int l2)]) d_X4_settle_22 (Nat.le_of_ble_eq_true rfl) rfl ?_
      obtain ⟨h11, e10, H⟩ := ob H
      refine WP.sub [1, 2, 3, 0] (lv' := [(0, .ref t), (1, .ref l1), (2, .int l2), (3, .int 0)]) rfl ?_
      refine okl_X4_settle_L23 V _ e10 ?_
      refine WP.iinc (lv9 := [(2, .int (l2 + 1)), (0, .ref t), (1, .ref l1)]) d_X4_settle_54 2 rfl ki_1 (Nat.le_of_ble_eq_true rfl) rfl ?_
      refine WP.goto d_X4_settle_57 ?_
      refine WP.sub [1, 2, 0] (lv' := [(0, .ref t), (1, .ref l1), (2, .int (l2 + 1))]) rfl ?_
      exact ih H K
    · refine WP.icmp_ge_f d_X4_settle_18 hc ?_
      cases H
      exact WP.sub [0] rfl K

set_option maxRecDepth 20000 in
set_option maxHeartbeats 4000000 in
theorem okl_X4_settle_L94 (V : EV) {vF : Option Value} {hF : HA} {t : Nat} {l3 : Int32} (n : Nat) : ∀ {h : HA} {l4 : Int32} {hR : HA}, (H : X4_settle_L94 t l3 n h l4 = some hR) → (K : WP V M_X4_settle 141 [(0, .ref t), (3, .int l3)] [] hR 0 0 vF hF) → WP V M_X4_settle 94 [(0, .ref t), (3, .int l3), (4, .int l4)] [] h 0 0 vF hF := by
  induction n with
  | zero =>
    intro h l4 hR H K
    rw [X4_settle_L94] at H
    cases H
  | succ n ih =>
    intro h l4 hR H K
    rw [X4_settle_L94] at H
    refine WP.iload d_X4_settle_94 2 rfl ?_
    refine WP.aload_n d_X4_settle_96 0 rfl ?_
    obtain ⟨x19, ex19, H⟩ := ob H
    refine WP.fI d_X4_settle_97 gf_X4_30 (fun _ => rfl) ex19 ?_
    rcases oj H with ⟨hc, H⟩ | ⟨hc, H⟩
    · refine WP.icmp_ge_t d_X4_settle_100 hc ?_
      refine WP.iload_n d_X4_settle_103 1 rfl ?_
      refine WP.i2l d_X4_settle_104 ?_
      refine WP.iload d_X4_settle_105 2 rfl ?_
      obtain ⟨x21, e20, H⟩ := ob H
      refine WP.cSN (As := [.long l3.toInt64, .int l4]) (st := []) (st9 := [.int x21]) (cl9 := 0) (sl9 := 0) d_X4_settle_107 (ok_X7_has V (h := h) e20) tv_X7_has ts_X7_has ln_X4_35 r_X4_settle_X7_has rfl rfl (Nat.le_of_ble_eq_true rfl) rfl rfl rfl ?_
      rcases oj H with ⟨hc, H⟩ | ⟨hc, H⟩
      · refine WP.if_ne_t d_X4_settle_110 hc ?_
        refine WP.aload_n d_X4_settle_113 0 rfl ?_
        obtain ⟨x22, ex22, H⟩ := ob H
        refine WP.fR d_X4_settle_114 gf_X4_15 (fun _ => rfl) ex22 ?_
        refine WP.iload_n d_X4_settle_117 1 rfl ?_
        refine WP.aload_n d_X4_settle_118 0 rfl ?_
        obtain ⟨x23, ex23, H⟩ := ob H
        refine WP.fR d_X4_settle_119 gf_X4_15 (fun _ => rfl) ex23 ?_
        refine WP.iload_n d_X4_settle_122 1 rfl ?_
        obtain ⟨x24, ex24, H⟩ := ob H
        refine WP.iald d_X4_settle_123 ex24 ?_
        refine WP.aload_n d_X4_settle_124 0 rfl ?_
        refine WP.iload_n d_X4_settle_125 1 rfl ?_
        refine WP.iload d_X4_settle_126 2 rfl ?_
        obtain ⟨x26, e25, H⟩ := ob H
        refine WP.cV (c := 5) (As := [.int l3, .int l4]) (st := [.int x24, .int l3, .ref x22]) (st9 := [.int x26, .int x24, .int l3, .ref x22]) (cl9 := 0) (sl9 := 0) d_X4_settle_128 (ok_X4_worthWith V e25) tv_X4_worthWith ti_X4_worthWith ts_X4_worthWith lk_X4_39 r_X4_settle_X4_worthWith kc_X4_worthWith (kd_X4_worthWith e25) rfl rfl (Nat.le_of_ble_eq_true rfl) rfl rfl rfl ?_
        refine WP.mmax d_X4_settle_131 lk_X4_42 w_mx_stat w_mx_init w_mx_code (Nat.le_of_ble_eq_true rfl) (Nat.le_of_ble_eq_true rfl) (Nat.le_of_ble_eq_true rfl) (Nat.le_of_ble_eq_true rfl) ?_
        obtain ⟨h27, eh27, H⟩ := ob H
        refine WP.ias d_X4_settle_134 eh27 ?_
        refine WP.iinc (lv9 := [(4, .int (l4 + 1)), (0, .ref t), (3, .int l3)]) d_X4_settle_135 2 rfl ki_1 (Nat.le_of_ble_eq_true rfl) rfl ?_
        refine WP.goto d_X4_settle_138 ?_
        refine WP.sub [1, 2, 0] (lv' := [(0, .ref t), (3, .int l3), (4, .int (l4 + 1))]) rfl ?_
        exact ih H K
      · refine WP.if_ne_f d_X4_settle_110 hc ?_
        refine WP.iinc (lv9 := [(4, .int (l4 + 1)), (0, .ref t), (3, .int l3)]) d_X4_settle_135 2 rfl ki_1 (Nat.le_of_ble_eq_true rfl) rfl ?_
        refine WP.goto d_X4_settle_138 ?_
        refine WP.sub [1, 2, 0] (lv' := [(0, .ref t), (3, .int l3), (4, .int (l4 + 1))]) rfl ?_
        exact ih H K
    · refine WP.icmp_ge_f d_X4_settle_100 hc ?_
      cases H
      exact WP.sub [0, 1] rfl K

set_option maxRecDepth 20000 in
set_option maxHeartbeats 4000000 in
theorem okl_X4_settle_L80 (V : EV) {vF : Option Value} {hF : HA} {t : Nat} (n : Nat) : ∀ {h : HA} {l3 : Int32} {hR : HA}, (H : X4_settle_L80 t n h l3 = some hR) → (K : WP V M_X4_settle 147 [] [] hR 0 0 vF hF) → WP V M_X4_settle 80 [(0, .ref t), (3, .int l3)] [] h 0 0 vF hF := by
  induction n with
  | zero =>
    intro h l3 hR H K
    rw [X4_settle_L80] at H
    cases H
  | succ n ih =>
    intro h l3 hR H K
    rw [X4_settle_L80] at H
    refine WP.iload_n d_X4_settle_80 1 rfl ?_
    rcases oj H with ⟨hc, H⟩ | ⟨hc, H⟩
    · refine WP.if_lt_t d_X4_settle_81 hc ?_
      cases H
      exact WP.sub [] rfl K
    · refine WP.if_lt_f d_X4_settle_81 hc ?_
      refine WP.aload_n d_X4_settle_84 0 rfl ?_
      obtain ⟨x17, ex17, H⟩ := ob H
      refine WP.fR d_X4_settle_85 gf_X4_15 (fun _ => rfl) ex17 ?_
      refine WP.iload_n d_X4_settle_88 1 rfl ?_
      refine WP.iconst d_X4_settle_89 ki_m1 ?_
      obtain ⟨h18, eh18, H⟩ := ob H
      refine WP.ias d_X4_settle_90 eh18 ?_
      refine WP.iconst d_X4_settle_91 ki_0 ?_
      refine WP.istore (lv9 := [(4, .int 0), (0, .ref t), (3, .int l3)]) d_X4_settle_92 (Nat.le_of_ble_eq_true rfl) rfl ?_
      obtain ⟨h29, e28, H⟩ := ob H
      refine WP.sub [1, 2, 0] (lv' := [(0, .ref t), (3, .int l3), (4, .int 0)]) rfl ?_
      refine okl_X4_settle_L94 V _ e28 ?_
      refine WP.iinc (lv9 := [(3, .int (l3 + (-1))), (0, .ref t)]) d_X4_settle_141 1 rfl ki_m1 (Nat.le_of_ble_eq_true rfl) rfl ?_
      refine WP.goto d_X4_settle_144 ?_
      refine WP.sub [1, 0] (lv' := [(0, .ref t), (3, .int (l3 + (-1)))]) rfl ?_
      exact ih H K

set_option maxRecDepth 20000 in
set_option maxHeartbeats 4000000 in
theorem ok_X4_settle (V : EV) {h : HA} {t : Nat} {l1 : Nat} {hR : HA} (H : X4_settle h t l1 = some hR) : MG V M_X4_settle [.ref t, .ref l1] h none hR := by
  unfold X4_settle at H
  obtain ⟨_, H⟩ := oc H
  refine MG.of (lv0 := [(0, .ref t), (1, .ref l1)]) pn_X4 rfl (Nat.le_of_ble_eq_true rfl) ?_
  refine WP.aload_n d_X4_settle_0 0 rfl ?_
  refine WP.aload_n d_X4_settle_1 1 rfl ?_
  obtain ⟨x1, ex1, H⟩ := ob H
  refine WP.fR d_X4_settle_2 gf_X4_18 (fun _ => rfl) ex1 ?_
  obtain ⟨x2, ex2, H⟩ := ob H
  refine WP.fI d_X4_settle_5 gf_X4_24 (fun _ => rfl) ex2 ?_
  obtain ⟨h3, eh3, H⟩ := ob H
  refine WP.uI d_X4_settle_8 gf_X4_30 rfl (Or.inl rfl) rfl rfl eh3 ?_
  refine WP.iconst d_X4_settle_11 ki_0 ?_
  refine WP.istore_n (lv9 := [(2, .int 0), (0, .ref t), (1, .ref l1)]) d_X4_settle_12 (Nat.le_of_ble_eq_true rfl) rfl ?_
  obtain ⟨h13, e12, H⟩ := ob H
  refine WP.sub [1, 2, 0] (lv' := [(0, .ref t), (1, .ref l1), (2, .int 0)]) rfl ?_
  refine okl_X4_settle_L13 V _ e12 ?_
  refine WP.iconst d_X4_settle_60 ki_1 ?_
  refine WP.aload_n d_X4_settle_61 0 rfl ?_
  obtain ⟨x14, ex14, H⟩ := ob H
  refine WP.fI d_X4_settle_62 gf_X4_30 (fun _ => rfl) ex14 ?_
  refine WP.ishl d_X4_settle_65 ?_
  refine WP.iconst d_X4_settle_66 ki_1 ?_
  refine WP.isub d_X4_settle_67 ?_
  refine WP.istore_n (lv9 := [(2, .int ((shlI 1 x14) - 1)), (0, .ref t)]) d_X4_settle_68 (Nat.le_of_ble_eq_true rfl) rfl ?_
  refine WP.aload_n d_X4_settle_69 1 rfl ?_
  obtain ⟨x15, ex15, H⟩ := ob H
  refine WP.fR d_X4_settle_70 gf_X4_15 (fun _ => rfl) ex15 ?_
  refine WP.iload_n d_X4_settle_73 0 rfl ?_
  refine WP.iconst d_X4_settle_74 ki_0 ?_
  obtain ⟨h16, eh16, H⟩ := ob H
  refine WP.ias d_X4_settle_75 eh16 ?_
  refine WP.iload_n d_X4_settle_76 0 rfl ?_
  refine WP.iconst d_X4_settle_77 ki_1 ?_
  refine WP.isub d_X4_settle_78 ?_
  refine WP.istore_n (lv9 := [(3, .int (((shlI 1 x14) - 1) - 1)), (2, .int ((shlI 1 x14) - 1)), (0, .ref t)]) d_X4_settle_79 (Nat.le_of_ble_eq_true rfl) rfl ?_
  obtain ⟨h31, e30, H⟩ := ob H
  refine WP.sub [2, 0] (lv' := [(0, .ref t), (3, .int (((shlI 1 x14) - 1) - 1))]) rfl ?_
  refine okl_X4_settle_L80 V _ e30 ?_
  cases H
  exact WP.return_ d_X4_settle_147 rfl (Nat.le_of_ble_eq_true rfl) (Nat.le_of_ble_eq_true rfl)

set_option maxRecDepth 20000 in
set_option maxHeartbeats 4000000 in
theorem okl_X4_leastSeat_L2 (V : EV) {h : HA} {t : Nat} {l1 : Int32} (n : Nat) : ∀ {l2 : Int32} {r : Int32} , (H : X4_leastSeat_L2 h t l1 n l2 = some r) → WP V M_X4_leastSeat 2 [(0, .ref t), (1, .int l1), (2, .int l2)] [] h 0 0 (some (.int r)) h := by
  induction n with
  | zero =>
    intro l2 r H
    rw [X4_leastSeat_L2] at H
    cases H
  | succ n ih =>
    intro l2 r H
    rw [X4_leastSeat_L2] at H
    refine WP.iload_n d_X4_leastSeat_2 2 rfl ?_
    refine WP.aload_n d_X4_leastSeat_3 0 rfl ?_
    obtain ⟨x1, ex1, H⟩ := ob H
    refine WP.fI d_X4_leastSeat_4 gf_X4_30 (fun _ => rfl) ex1 ?_
    rcases oj H with ⟨hc, H⟩ | ⟨hc, H⟩
    · refine WP.icmp_ge_t d_X4_leastSeat_7 hc ?_
      refine WP.iload_n d_X4_leastSeat_10 1 rfl ?_
      refine WP.i2l d_X4_leastSeat_11 ?_
      refine WP.iload_n d_X4_leastSeat_12 2 rfl ?_
      obtain ⟨x3, e2, H⟩ := ob H
      refine WP.cSN (As := [.long l1.toInt64, .int l2]) (st := []) (st9 := [.int x3]) (cl9 := 0) (sl9 := 0) d_X4_leastSeat_13 (ok_X7_has V (h := h) e2) tv_X7_has ts_X7_has ln_X4_35 r_X4_leastSeat_X7_has rfl rfl (Nat.le_of_ble_eq_true rfl) rfl rfl rfl ?_
      rcases oj H with ⟨hc, H⟩ | ⟨hc, H⟩
      · refine WP.if_ne_t d_X4_leastSeat_16 hc ?_
        refine WP.aload_n d_X4_leastSeat_19 0 rfl ?_
        refine WP.iload_n d_X4_leastSeat_20 1 rfl ?_
        refine WP.iload_n d_X4_leastSeat_21 2 rfl ?_
        obtain ⟨x5, e4, H⟩ := ob H
        refine WP.cV (c := 5) (As := [.int l1, .int l2]) (st := []) (st9 := [.int x5]) (cl9 := 0) (sl9 := 0) d_X4_leastSeat_22 (ok_X4_worthWith V e4) tv_X4_worthWith ti_X4_worthWith ts_X4_worthWith lk_X4_39 r_X4_leastSeat_X4_worthWith kc_X4_worthWith (kd_X4_worthWith e4) rfl rfl (Nat.le_of_ble_eq_true rfl) rfl rfl rfl ?_
        refine WP.aload_n d_X4_leastSeat_25 0 rfl ?_
        obtain ⟨x6, ex6, H⟩ := ob H
        refine WP.fR d_X4_leastSeat_26 gf_X4_15 (fun _ => rfl) ex6 ?_
        refine WP.iload_n d_X4_leastSeat_29 1 rfl ?_
        obtain ⟨x7, ex7, H⟩ := ob H
        refine WP.iald d_X4_leastSeat_30 ex7 ?_
        rcases oj H with ⟨hc, H⟩ | ⟨hc, H⟩
        · refine WP.icmp_ne_t d_X4_leastSeat_31 hc ?_
          refine WP.iload_n d_X4_leastSeat_34 2 rfl ?_
          cases H
          exact WP.ireturn d_X4_leastSeat_35 rfl rfl (Nat.le_of_ble_eq_true rfl) (Nat.le_of_ble_eq_true rfl)
        · refine WP.icmp_ne_f d_X4_leastSeat_31 hc ?_
          refine WP.iinc (lv9 := [(2, .int (l2 + 1)), (0, .ref t), (1, .int l1)]) d_X4_leastSeat_36 2 rfl ki_1 (Nat.le_of_ble_eq_true rfl) rfl ?_
          refine WP.goto d_X4_leastSeat_39 ?_
          refine WP.sub [1, 2, 0] (lv' := [(0, .ref t), (1, .int l1), (2, .int (l2 + 1))]) rfl ?_
          exact ih H
      · refine WP.if_ne_f d_X4_leastSeat_16 hc ?_
        refine WP.iinc (lv9 := [(2, .int (l2 + 1)), (0, .ref t), (1, .int l1)]) d_X4_leastSeat_36 2 rfl ki_1 (Nat.le_of_ble_eq_true rfl) rfl ?_
        refine WP.goto d_X4_leastSeat_39 ?_
        refine WP.sub [1, 2, 0] (lv' := [(0, .ref t), (1, .int l1), (2, .int (l2 + 1))]) rfl ?_
        exact ih H
    · refine WP.icmp_ge_f d_X4_leastSeat_7 hc ?_
      refine WP.iconst d_X4_leastSeat_42 ki_0 ?_
      cases H
      exact WP.ireturn d_X4_leastSeat_43 rfl rfl (Nat.le_of_ble_eq_true rfl) (Nat.le_of_ble_eq_true rfl)

set_option maxRecDepth 20000 in
set_option maxHeartbeats 4000000 in
theorem ok_X4_leastSeat (V : EV) {h : HA} {t : Nat} {l1 : Int32} {r : Int32} (H : X4_leastSeat h t l1 = some r) : MG V M_X4_leastSeat [.ref t, .int l1] h (some (.int r)) h := by
  unfold X4_leastSeat at H
  obtain ⟨_, H⟩ := oc H
  refine MG.of (lv0 := [(0, .ref t), (1, .int l1)]) pn_X4 rfl (Nat.le_of_ble_eq_true rfl) ?_
  refine WP.iconst d_X4_leastSeat_0 ki_0 ?_
  refine WP.istore_n (lv9 := [(2, .int 0), (0, .ref t), (1, .int l1)]) d_X4_leastSeat_1 (Nat.le_of_ble_eq_true rfl) rfl ?_
  refine WP.sub [1, 2, 0] (lv' := [(0, .ref t), (1, .int l1), (2, .int 0)]) rfl ?_
  exact okl_X4_leastSeat_L2 V _ H

set_option maxRecDepth 20000 in
set_option maxHeartbeats 4000000 in
theorem okl_X4_seatOf_L7 (V : EV) {vF : Option Value} {hF : HA} {h : HA} {t : Nat} {l1 : Int32} (n : Nat) : ∀ {l2 : Int32} {l3 : Int32} {l4 : Int32} {r3 : Int32}, (H : X4_seatOf_L7 h t l1 n l2 l3 l4 = some r3) → (K : WP V M_X4_seatOf 31 [(3, .int r3)] [] h 0 0 vF hF) → WP V M_X4_seatOf 7 [(0, .ref t), (1, .int l1), (2, .int l2), (3, .int l3), (4, .int l4)] [] h 0 0 vF hF := by
  induction n with
  | zero =>
    intro l2 l3 l4 r3 H K
    rw [X4_seatOf_L7] at H
    cases H
  | succ n ih =>
    intro l2 l3 l4 r3 H K
    rw [X4_seatOf_L7] at H
    refine WP.iload d_X4_seatOf_7 4 rfl ?_
    refine WP.iload_n d_X4_seatOf_9 1 rfl ?_
    rcases oj H with ⟨hc, H⟩ | ⟨hc, H⟩
    · refine WP.icmp_gt_t d_X4_seatOf_10 hc ?_
      cases H
      exact WP.sub [3] rfl K
    · refine WP.icmp_gt_f d_X4_seatOf_10 hc ?_
      refine WP.aload_n d_X4_seatOf_13 0 rfl ?_
      refine WP.iload_n d_X4_seatOf_14 2 rfl ?_
      obtain ⟨x2, e1, H⟩ := ob H
      refine WP.cV (c := 5) (As := [.int l2]) (st := []) (st9 := [.int x2]) (cl9 := 0) (sl9 := 0) d_X4_seatOf_15 (ok_X4_leastSeat V e1) tv_X4_leastSeat ti_X4_leastSeat ts_X4_leastSeat lk_X4_53 r_X4_seatOf_X4_leastSeat kc_X4_leastSeat (kd_X4_leastSeat e1) rfl rfl (Nat.le_of_ble_eq_true rfl) rfl rfl rfl ?_
      refine WP.istore_n (lv9 := [(3, .int x2), (0, .ref t), (1, .int l1), (2, .int l2), (4, .int l4)]) d_X4_seatOf_18 (Nat.le_of_ble_eq_true rfl) rfl ?_
      refine WP.iload_n d_X4_seatOf_19 3 rfl ?_
      refine WP.iconst d_X4_seatOf_20 ki_1 ?_
      refine WP.iload_n d_X4_seatOf_21 0 rfl ?_
      refine WP.ishl d_X4_seatOf_22 ?_
      refine WP.ior d_X4_seatOf_23 ?_
      refine WP.istore_n (lv9 := [(2, .int (l2 ||| (shlI 1 x2))), (3, .int x2), (0, .ref t), (1, .int l1), (4, .int l4)]) d_X4_seatOf_24 (Nat.le_of_ble_eq_true rfl) rfl ?_
      refine WP.iinc (lv9 := [(4, .int (l4 + 1)), (2, .int (l2 ||| (shlI 1 x2))), (3, .int x2), (0, .ref t), (1, .int l1)]) d_X4_seatOf_25 4 rfl ki_1 (Nat.le_of_ble_eq_true rfl) rfl ?_
      refine WP.goto d_X4_seatOf_28 ?_
      refine WP.sub [3, 4, 1, 2, 0] (lv' := [(0, .ref t), (1, .int l1), (2, .int (l2 ||| (shlI 1 x2))), (3, .int x2), (4, .int (l4 + 1))]) rfl ?_
      exact ih H K

set_option maxRecDepth 20000 in
set_option maxHeartbeats 4000000 in
theorem ok_X4_seatOf (V : EV) {h : HA} {t : Nat} {l1 : Int32} {r : Int32} (H : X4_seatOf h t l1 = some r) : MG V M_X4_seatOf [.ref t, .int l1] h (some (.int r)) h := by
  unfold X4_seatOf at H
  obtain ⟨_, H⟩ := oc H
  refine MG.of (lv0 := [(0, .ref t), (1, .int l1)]) pn_X4 rfl (Nat.le_of_ble_eq_true rfl) ?_
  refine WP.iconst d_X4_seatOf_0 ki_0 ?_
  refine WP.istore_n (lv9 := [(2, .int 0), (0, .ref t), (1, .int l1)]) d_X4_seatOf_1 (Nat.le_of_ble_eq_true rfl) rfl ?_
  refine WP.iconst d_X4_seatOf_2 ki_m1 ?_
  refine WP.istore_n (lv9 := [(3, .int (-1)), (2, .int 0), (0, .ref t), (1, .int l1)]) d_X4_seatOf_3 (Nat.le_of_ble_eq_true rfl) rfl ?_
  refine WP.iconst d_X4_seatOf_4 ki_0 ?_
  refine WP.istore (lv9 := [(4, .int 0), (3, .int (-1)), (2, .int 0), (0, .ref t), (1, .int l1)]) d_X4_seatOf_5 (Nat.le_of_ble_eq_true rfl) rfl ?_
  obtain ⟨y4, e3, H⟩ := ob H
  refine WP.sub [3, 4, 2, 1, 0] (lv' := [(0, .ref t), (1, .int l1), (2, .int 0), (3, .int (-1)), (4, .int 0)]) rfl ?_
  refine okl_X4_seatOf_L7 V _ e3 ?_
  refine WP.iload_n d_X4_seatOf_31 0 rfl ?_
  cases H
  exact WP.ireturn d_X4_seatOf_32 rfl rfl (Nat.le_of_ble_eq_true rfl) (Nat.le_of_ble_eq_true rfl)

set_option maxRecDepth 20000 in
set_option maxHeartbeats 4000000 in
theorem ok_X5_slotOf (V : EV) {h : HA} {l0 : Int32} {l1 : Int32} {r : Int32} (H : X5_slotOf l0 l1 = some r) : MG V M_X5_slotOf [.int l0, .int l1] h (some (.int r)) h := by
  unfold X5_slotOf at H
  refine MG.of (lv0 := [(0, .int l0), (1, .int l1)]) pn_X5 rfl (Nat.le_of_ble_eq_true rfl) ?_
  refine WP.iload_n d_X5_slotOf_0 0 rfl ?_
  refine WP.iconst d_X5_slotOf_1 ki_2 ?_
  refine WP.imul d_X5_slotOf_2 ?_
  refine WP.iload_n d_X5_slotOf_3 1 rfl ?_
  refine WP.iadd d_X5_slotOf_4 ?_
  cases H
  exact WP.ireturn d_X5_slotOf_5 rfl rfl (Nat.le_of_ble_eq_true rfl) (Nat.le_of_ble_eq_true rfl)

set_option maxRecDepth 20000 in
set_option maxHeartbeats 4000000 in
theorem okl_X5_init_L64 (V : EV) {vF : Option Value} {hF : HA} {t : Nat} {l1 : Int32} {CL SL : Nat} (hCL : CL ≤ mM M_X5_init) (hSL : SL ≤ mS M_X5_init) (n : Nat) : ∀ {cl sl : Nat} {h : HA} {l2 : Int32} {hR : HA}, (H : X5_init_L64 t l1 n h l2 = some hR) → (hcl : cl + n * 2 ≤ CL) → (hsl : sl + n * 123 ≤ SL) → (K : WP V M_X5_init 89 [(0, .ref t), (1, .int l1)] [] hR CL SL vF hF) → WP V M_X5_init 64 [(0, .ref t), (1, .int l1), (2, .int l2)] [] h cl sl vF hF := by
  induction n with
  | zero =>
    intro cl sl h l2 hR H hcl hsl K
    rw [X5_init_L64] at H
    cases H
  | succ n ih =>
    intro cl sl h l2 hR H hcl hsl K
    rw [X5_init_L64] at H
    refine WP.iload_n d_X5_init_64 2 rfl ?_
    refine WP.iconst d_X5_init_65 ki_4 ?_
    rcases oj H with ⟨hc, H⟩ | ⟨hc, H⟩
    · refine WP.icmp_ge_t d_X5_init_66 hc ?_
      refine WP.aload_n d_X5_init_69 0 rfl ?_
      obtain ⟨x15, ex15, H⟩ := ob H
      refine WP.fR d_X5_init_70 gf_X5_31 (fun _ => rfl) ex15 ?_
      refine WP.iload_n d_X5_init_73 2 rfl ?_
      refine WP.iload_n d_X5_init_74 1 rfl ?_
      obtain ⟨x17, e16, H⟩ := ob H
      refine WP.cS (As := [.int l2, .int l1]) (st := [.ref x15]) (st9 := [.int x17, .ref x15]) (cl9 := cl) (sl9 := sl) d_X5_init_75 (ok_X5_slotOf V (h := h) e16) tv_X5_slotOf ts_X5_slotOf lk_X5_36 ⟨Nat.le_of_ble_eq_true rfl, Nat.le_of_ble_eq_true rfl, (by have := mM_X5_slotOf; have := mS_X5_slotOf; omega), (by have := mM_X5_slotOf; have := mS_X5_slotOf; omega)⟩ rfl rfl (Nat.le_of_ble_eq_true rfl) rfl rfl rfl ?_
      refine WP.iload_n d_X5_init_78 2 rfl ?_
      obtain ⟨⟨x20, h19⟩, e18, H⟩ := ob H
      refine WP.cS (As := [.int l2]) (st := [.int x17, .ref x15]) (st9 := [.ref x20, .int x17, .ref x15]) (cl9 := (cl + 2)) (sl9 := (sl + 123)) d_X5_init_79 (ok_X2_ofSort V e18) tv_X2_ofSort ts_X2_ofSort lk_X5_40 ⟨Nat.le_of_ble_eq_true rfl, Nat.le_of_ble_eq_true rfl, (by have := mM_X2_ofSort; have := mS_X2_ofSort; omega), (by have := mM_X2_ofSort; have := mS_X2_ofSort; omega)⟩ rfl rfl (Nat.le_of_ble_eq_true rfl) rfl rfl rfl ?_
      obtain ⟨h21, eh21, H⟩ := ob H
      refine WP.aas d_X5_init_82 (by decide) eh21 ?_
      refine WP.iinc (lv9 := [(2, .int (l2 + 1)), (0, .ref t), (1, .int l1)]) d_X5_init_83 2 rfl ki_1 (Nat.le_of_ble_eq_true rfl) rfl ?_
      refine WP.goto d_X5_init_86 ?_
      refine WP.sub [1, 2, 0] (lv' := [(0, .ref t), (1, .int l1), (2, .int (l2 + 1))]) rfl ?_
      refine WP.widen (cl' := cl + 2) (sl' := sl + 123) (by omega) (by omega) ?_
      exact ih H (by omega) (by omega) K
    · refine WP.icmp_ge_f d_X5_init_66 hc ?_
      cases H
      refine WP.widen (cl' := CL) (sl' := SL) (by omega) (by omega) ?_
      exact WP.sub [0, 1] rfl K

set_option maxRecDepth 20000 in
set_option maxHeartbeats 4000000 in
theorem okl_X5_init_L44 (V : EV) {vF : Option Value} {hF : HA} {t : Nat} {CL SL : Nat} (hCL : CL ≤ mM M_X5_init) (hSL : SL ≤ mS M_X5_init) (n : Nat) : ∀ {cl sl : Nat} {h : HA} {l1 : Int32} {hR : HA}, (H : X5_init_L44 t n h l1 = some hR) → (hcl : cl + n * 14 ≤ CL) → (hsl : sl + n * 682 ≤ SL) → (K : WP V M_X5_init 95 [] [] hR CL SL vF hF) → WP V M_X5_init 44 [(0, .ref t), (1, .int l1)] [] h cl sl vF hF := by
  induction n with
  | zero =>
    intro cl sl h l1 hR H hcl hsl K
    rw [X5_init_L44] at H
    cases H
  | succ n ih =>
    intro cl sl h l1 hR H hcl hsl K
    rw [X5_init_L44] at H
    refine WP.iload_n d_X5_init_44 1 rfl ?_
    refine WP.iconst d_X5_init_45 ki_2 ?_
    rcases oj H with ⟨hc, H⟩ | ⟨hc, H⟩
    · refine WP.icmp_ge_t d_X5_init_46 hc ?_
      refine WP.aload_n d_X5_init_49 0 rfl ?_
      obtain ⟨x10, ex10, H⟩ := ob H
      refine WP.fR d_X5_init_50 gf_X5_25 (fun _ => rfl) ex10 ?_
      refine WP.iload_n d_X5_init_53 1 rfl ?_
      obtain ⟨h11, eh11, H⟩ := ol H
      refine WP.new (c := 1) d_X5_init_54 (Nat.le_of_ble_eq_true rfl) (Nat.le_of_ble_eq_true rfl) wc_X5_23 wn_1 wz_X0 (by omega) (by show sl + 14 ≤ _; omega) (by intro k hk; exact newd_1 k hk) ?_
      rw [eh11]
      refine WP.cs (cl9 := (cl + 1)) (sl9 := (sl + 14)) rfl rfl ?_
      refine WP.dup d_X5_init_57 rfl ?_
      obtain ⟨h13, e12, H⟩ := ob H
      refine WP.cIN (As := []) (st := [.ref (hz h), .int l1, .ref x10]) (cl9 := (cl + 6)) (sl9 := (sl + 190)) d_X5_init_58 (ok_X0_init V e12) tv_X0_init ti_X0_init rfl rfl ln_X5_35 ⟨Nat.le_of_ble_eq_true rfl, Nat.le_of_ble_eq_true rfl, (by have := mM_X0_init; have := mS_X0_init; omega), (by have := mM_X0_init; have := mS_X0_init; omega)⟩ rfl rfl (Nat.le_of_ble_eq_true rfl) rfl rfl ?_
      obtain ⟨h14, eh14, H⟩ := ob H
      refine WP.aas d_X5_init_61 (by decide) eh14 ?_
      refine WP.iconst d_X5_init_62 ki_1 ?_
      refine WP.istore_n (lv9 := [(2, .int 1), (0, .ref t), (1, .int l1)]) d_X5_init_63 (Nat.le_of_ble_eq_true rfl) rfl ?_
      obtain ⟨h23, e22, H⟩ := ob H
      refine WP.sub [1, 2, 0] (lv' := [(0, .ref t), (1, .int l1), (2, .int 1)]) rfl ?_
      refine okl_X5_init_L64 V (CL := (cl + 14)) (SL := (sl + 682)) (by omega) (by omega) _ e22 (by omega) (by omega) ?_
      refine WP.iinc (lv9 := [(1, .int (l1 + 1)), (0, .ref t)]) d_X5_init_89 1 rfl ki_1 (Nat.le_of_ble_eq_true rfl) rfl ?_
      refine WP.goto d_X5_init_92 ?_
      refine WP.sub [1, 0] (lv' := [(0, .ref t), (1, .int (l1 + 1))]) rfl ?_
      refine WP.widen (cl' := cl + 14) (sl' := sl + 682) (by omega) (by omega) ?_
      exact ih H (by omega) (by omega) K
    · refine WP.icmp_ge_f d_X5_init_46 hc ?_
      cases H
      refine WP.widen (cl' := CL) (sl' := SL) (by omega) (by omega) ?_
      exact WP.sub [] rfl K

set_option maxRecDepth 20000 in
set_option maxHeartbeats 4000000 in
theorem ok_X5_init (V : EV) {h : HA} {t : Nat} {hR : HA} (H : X5_init h t = some hR) : MG V M_X5_init [.ref t] h none hR := by
  unfold X5_init at H
  obtain ⟨_, H⟩ := oc H
  refine MG.of (lv0 := [(0, .ref t)]) pn_X5 rfl (Nat.le_of_ble_eq_true rfl) ?_
  refine WP.aload_n d_X5_init_0 0 rfl ?_
  refine WP.objInit d_X5_init_1 lk_X5_3 w_oi_inst w_oi_code (Nat.le_of_ble_eq_true rfl) (Nat.le_of_ble_eq_true rfl) ?_
  refine WP.aload_n d_X5_init_4 0 rfl ?_
  refine WP.sipush d_X5_init_5 ks_600 ?_
  obtain ⟨h1, eh1, H⟩ := ob H
  refine WP.newarr (c := 22) d_X5_init_8 (Nat.le_of_ble_eq_true rfl) (Nat.le_of_ble_eq_true rfl) rfl wa_byte eh1 (Nat.le_of_ble_eq_true rfl) fc_22 (Nat.le_of_ble_eq_true rfl) (Nat.le_of_ble_eq_true rfl) newa_22 ?_
  refine WP.cs (cl9 := 1) (sl9 := 600) rfl rfl ?_
  obtain ⟨h2, eh2, H⟩ := ob H
  refine WP.vR d_X5_init_10 gf_X5_9 rfl rfl rfl (x := (some (hz h))) (fun _ => rfl) rfl rfl eh2 ?_
  refine WP.aload_n d_X5_init_13 0 rfl ?_
  refine WP.iconst d_X5_init_14 ki_m1 ?_
  obtain ⟨h3, eh3, H⟩ := ob H
  refine WP.uI d_X5_init_15 gf_X5_15 rfl (Or.inl rfl) rfl rfl eh3 ?_
  refine WP.aload_n d_X5_init_18 0 rfl ?_
  refine WP.iconst d_X5_init_19 ki_4 ?_
  obtain ⟨h4, eh4, H⟩ := ob H
  refine WP.newarr (c := 20) d_X5_init_20 (Nat.le_of_ble_eq_true rfl) (Nat.le_of_ble_eq_true rfl) rfl wa_int eh4 (Nat.le_of_ble_eq_true rfl) fc_20 (Nat.le_of_ble_eq_true rfl) (Nat.le_of_ble_eq_true rfl) newa_20 ?_
  refine WP.cs (cl9 := 2) (sl9 := 604) rfl rfl ?_
  obtain ⟨h5, eh5, H⟩ := ob H
  refine WP.vR d_X5_init_22 gf_X5_19 rfl rfl rfl (x := (some (hz h3))) (fun _ => rfl) rfl rfl eh5 ?_
  refine WP.aload_n d_X5_init_25 0 rfl ?_
  refine WP.iconst d_X5_init_26 ki_2 ?_
  obtain ⟨h6, eh6, H⟩ := ob H
  refine WP.anew (c := 25) d_X5_init_27 (by decide) rfl (by decide) wc_X5_23 eh6 (Nat.le_of_ble_eq_true rfl) (Nat.le_of_ble_eq_true rfl) (Nat.le_of_ble_eq_true rfl) fc_25 ?_
  refine WP.cs (cl9 := 3) (sl9 := 606) rfl rfl ?_
  obtain ⟨h7, eh7, H⟩ := ob H
  refine WP.vR d_X5_init_30 gf_X5_25 rfl rfl rfl (x := (some (hz h5))) (fun _ => rfl) rfl rfl eh7 ?_
  refine WP.aload_n d_X5_init_33 0 rfl ?_
  refine WP.bipush d_X5_init_34 kb_8 ?_
  obtain ⟨h8, eh8, H⟩ := ob H
  refine WP.anew (c := 26) d_X5_init_36 (by decide) rfl (by decide) wc_X5_29 eh8 (Nat.le_of_ble_eq_true rfl) (Nat.le_of_ble_eq_true rfl) (Nat.le_of_ble_eq_true rfl) fc_26 ?_
  refine WP.cs (cl9 := 4) (sl9 := 614) rfl rfl ?_
  obtain ⟨h9, eh9, H⟩ := ob H
  refine WP.vR d_X5_init_39 gf_X5_31 rfl rfl rfl (x := (some (hz h7))) (fun _ => rfl) rfl rfl eh9 ?_
  refine WP.iconst d_X5_init_42 ki_0 ?_
  refine WP.istore_n (lv9 := [(1, .int 0), (0, .ref t)]) d_X5_init_43 (Nat.le_of_ble_eq_true rfl) rfl ?_
  obtain ⟨h25, e24, H⟩ := ob H
  refine WP.sub [1, 0] (lv' := [(0, .ref t), (1, .int 0)]) rfl ?_
  refine okl_X5_init_L44 V (CL := 46) (SL := 2660) (Nat.le_of_ble_eq_true rfl) (Nat.le_of_ble_eq_true rfl) _ e24 (Nat.le_of_ble_eq_true rfl) (Nat.le_of_ble_eq_true rfl) ?_
  cases H
  exact WP.return_ d_X5_init_95 rfl (Nat.le_of_ble_eq_true rfl) (Nat.le_of_ble_eq_true rfl)

set_option maxRecDepth 20000 in
set_option maxHeartbeats 4000000 in
theorem okl_X5_append_L3 (V : EV) {vF : Option Value} {hF : HA} {t : Nat} {l1 : Int32} (n : Nat) : ∀ {h : HA} {l2 : Int32} {hR : HA}, (H : X5_append_L3 t l1 n h l2 = some hR) → (K : WP V M_X5_append 46 [] [] hR 0 0 vF hF) → WP V M_X5_append 3 [(0, .ref t), (1, .int l1), (2, .int l2)] [] h 0 0 vF hF := by
  induction n with
  | zero =>
    intro h l2 hR H K
    rw [X5_append_L3] at H
    cases H
  | succ n ih =>
    intro h l2 hR H K
    rw [X5_append_L3] at H
    refine WP.iload_n d_X5_append_3 2 rfl ?_
    rcases oj H with ⟨hc, H⟩ | ⟨hc, H⟩
    · refine WP.if_lt_t d_X5_append_4 hc ?_
      cases H
      exact WP.sub [] rfl K
    · refine WP.if_lt_f d_X5_append_4 hc ?_
      refine WP.aload_n d_X5_append_7 0 rfl ?_
      obtain ⟨x1, ex1, H⟩ := ob H
      refine WP.fI d_X5_append_8 gf_X5_44 (fun _ => rfl) ex1 ?_
      refine WP.sipush d_X5_append_11 ks_600 ?_
      rcases oj H with ⟨hc, H⟩ | ⟨hc, H⟩
      · refine WP.icmp_ge_t d_X5_append_14 hc ?_
        refine WP.aload_n d_X5_append_17 0 rfl ?_
        obtain ⟨x2, ex2, H⟩ := ob H
        refine WP.fR d_X5_append_18 gf_X5_9 (fun _ => rfl) ex2 ?_
        refine WP.aload_n d_X5_append_21 0 rfl ?_
        obtain ⟨x3, ex3, H⟩ := ob H
        refine WP.fI d_X5_append_22 gf_X5_44 (fun _ => rfl) ex3 ?_
        refine WP.iload_n d_X5_append_25 1 rfl ?_
        refine WP.iload_n d_X5_append_26 2 rfl ?_
        refine WP.iushr d_X5_append_27 ?_
        refine WP.i2b d_X5_append_28 ?_
        obtain ⟨h4, eh4, H⟩ := ob H
        refine WP.bas d_X5_append_29 eh4 ?_
        refine WP.aload_n d_X5_append_30 0 rfl ?_
        refine WP.dup d_X5_append_31 rfl ?_
        obtain ⟨x5, ex5, H⟩ := ob H
        refine WP.fI d_X5_append_32 gf_X5_44 (fun _ => rfl) ex5 ?_
        refine WP.iconst d_X5_append_35 ki_1 ?_
        refine WP.iadd d_X5_append_36 ?_
        obtain ⟨h6, eh6, H⟩ := ob H
        refine WP.uI d_X5_append_37 gf_X5_44 rfl (Or.inl rfl) rfl rfl eh6 ?_
        refine WP.iinc (lv9 := [(2, .int (l2 + (-8))), (0, .ref t), (1, .int l1)]) d_X5_append_40 2 rfl ki_m8 (Nat.le_of_ble_eq_true rfl) rfl ?_
        refine WP.goto d_X5_append_43 ?_
        refine WP.sub [1, 2, 0] (lv' := [(0, .ref t), (1, .int l1), (2, .int (l2 + (-8)))]) rfl ?_
        exact ih H K
      · refine WP.icmp_ge_f d_X5_append_14 hc ?_
        refine WP.iinc (lv9 := [(2, .int (l2 + (-8))), (0, .ref t), (1, .int l1)]) d_X5_append_40 2 rfl ki_m8 (Nat.le_of_ble_eq_true rfl) rfl ?_
        refine WP.goto d_X5_append_43 ?_
        refine WP.sub [1, 2, 0] (lv' := [(0, .ref t), (1, .int l1), (2, .int (l2 + (-8)))]) rfl ?_
        exact ih H K

set_option maxRecDepth 20000 in
set_option maxHeartbeats 4000000 in
theorem ok_X5_append (V : EV) {h : HA} {t : Nat} {l1 : Int32} {hR : HA} (H : X5_append h t l1 = some hR) : MG V M_X5_append [.ref t, .int l1] h none hR := by
  unfold X5_append at H
  obtain ⟨_, H⟩ := oc H
  refine MG.of (lv0 := [(0, .ref t), (1, .int l1)]) pn_X5 rfl (Nat.le_of_ble_eq_true rfl) ?_
  refine WP.bipush d_X5_append_0 kb_24 ?_
  refine WP.istore_n (lv9 := [(2, .int 24), (0, .ref t), (1, .int l1)]) d_X5_append_2 (Nat.le_of_ble_eq_true rfl) rfl ?_
  obtain ⟨h8, e7, H⟩ := ob H
  refine WP.sub [1, 2, 0] (lv' := [(0, .ref t), (1, .int l1), (2, .int 24)]) rfl ?_
  refine okl_X5_append_L3 V _ e7 ?_
  cases H
  exact WP.return_ d_X5_append_46 rfl (Nat.le_of_ble_eq_true rfl) (Nat.le_of_ble_eq_true rfl)

set_option maxRecDepth 20000 in
set_option maxHeartbeats 4000000 in
theorem okl_X5_copyFrom_L57 (V : EV) {vF : Option Value} {hF : HA} {t : Nat} {l1 : Nat} (n : Nat) : ∀ {h : HA} {l2 : Int32} {hR : HA}, (H : X5_copyFrom_L57 t l1 n h l2 = some hR) → (K : WP V M_X5_copyFrom 88 [(0, .ref t), (1, .ref l1)] [] hR 0 0 vF hF) → WP V M_X5_copyFrom 57 [(0, .ref t), (1, .ref l1), (2, .int l2)] [] h 0 0 vF hF := by
  induction n with
  | zero =>
    intro h l2 hR H K
    rw [X5_copyFrom_L57] at H
    cases H
  | succ n ih =>
    intro h l2 hR H K
    rw [X5_copyFrom_L57] at H
    refine WP.iload_n d_X5_copyFrom_57 2 rfl ?_
    refine WP.aload_n d_X5_copyFrom_58 0 rfl ?_
    obtain ⟨x14, ex14, H⟩ := ob H
    refine WP.fR d_X5_copyFrom_59 gf_X5_19 (fun _ => rfl) ex14 ?_
    refine WP.iconst d_X5_copyFrom_62 ki_0 ?_
    obtain ⟨x15, ex15, H⟩ := ob H
    refine WP.iald d_X5_copyFrom_63 ex15 ?_
    rcases oj H with ⟨hc, H⟩ | ⟨hc, H⟩
    · refine WP.icmp_ge_t d_X5_copyFrom_64 hc ?_
      refine WP.aload_n d_X5_copyFrom_67 0 rfl ?_
      obtain ⟨x16, ex16, H⟩ := ob H
      refine WP.fR d_X5_copyFrom_68 gf_X5_25 (fun _ => rfl) ex16 ?_
      refine WP.iload_n d_X5_copyFrom_71 2 rfl ?_
      obtain ⟨x17, ex17, H⟩ := ob H
      refine WP.aaldR d_X5_copyFrom_72 (by decide) ex17 ?_
      refine WP.aload_n d_X5_copyFrom_73 1 rfl ?_
      obtain ⟨x18, ex18, H⟩ := ob H
      refine WP.fR d_X5_copyFrom_74 gf_X5_25 (fun _ => rfl) ex18 ?_
      refine WP.iload_n d_X5_copyFrom_77 2 rfl ?_
      obtain ⟨x19, ex19, H⟩ := ob H
      refine WP.aaldR d_X5_copyFrom_78 (by decide) ex19 ?_
      obtain ⟨h21, e20, H⟩ := ob H
      refine WP.cV (c := 1) (As := [.ref x19]) (st := []) (st9 := []) (cl9 := 0) (sl9 := 0) d_X5_copyFrom_79 (ok_X0_copyFrom V e20) tv_X0_copyFrom ti_X0_copyFrom ts_X0_copyFrom lk_X5_56 r_X5_copyFrom_X0_copyFrom kc_X0_copyFrom (kd_X0_copyFrom e20) rfl rfl (Nat.le_of_ble_eq_true rfl) rfl rfl rfl ?_
      refine WP.iinc (lv9 := [(2, .int (l2 + 1)), (0, .ref t), (1, .ref l1)]) d_X5_copyFrom_82 2 rfl ki_1 (Nat.le_of_ble_eq_true rfl) rfl ?_
      refine WP.goto d_X5_copyFrom_85 ?_
      refine WP.sub [1, 2, 0] (lv' := [(0, .ref t), (1, .ref l1), (2, .int (l2 + 1))]) rfl ?_
      exact ih H K
    · refine WP.icmp_ge_f d_X5_copyFrom_64 hc ?_
      cases H
      exact WP.sub [0, 1] rfl K

set_option maxRecDepth 20000 in
set_option maxHeartbeats 4000000 in
theorem okl_X5_copyFrom_L97 (V : EV) {vF : Option Value} {hF : HA} {t : Nat} {l1 : Nat} {l2 : Int32} (n : Nat) : ∀ {h : HA} {l3 : Int32} {hR : HA}, (H : X5_copyFrom_L97 t l1 l2 n h l3 = some hR) → (K : WP V M_X5_copyFrom 136 [(0, .ref t), (1, .ref l1), (2, .int l2)] [] hR 0 0 vF hF) → WP V M_X5_copyFrom 97 [(0, .ref t), (1, .ref l1), (2, .int l2), (3, .int l3)] [] h 0 0 vF hF := by
  induction n with
  | zero =>
    intro h l3 hR H K
    rw [X5_copyFrom_L97] at H
    cases H
  | succ n ih =>
    intro h l3 hR H K
    rw [X5_copyFrom_L97] at H
    refine WP.iload_n d_X5_copyFrom_97 3 rfl ?_
    refine WP.aload_n d_X5_copyFrom_98 0 rfl ?_
    obtain ⟨x24, ex24, H⟩ := ob H
    refine WP.fR d_X5_copyFrom_99 gf_X5_19 (fun _ => rfl) ex24 ?_
    refine WP.iload_n d_X5_copyFrom_102 2 rfl ?_
    obtain ⟨x25, ex25, H⟩ := ob H
    refine WP.iald d_X5_copyFrom_103 ex25 ?_
    rcases oj H with ⟨hc, H⟩ | ⟨hc, H⟩
    · refine WP.icmp_ge_t d_X5_copyFrom_104 hc ?_
      refine WP.aload_n d_X5_copyFrom_107 0 rfl ?_
      obtain ⟨x26, ex26, H⟩ := ob H
      refine WP.fR d_X5_copyFrom_108 gf_X5_31 (fun _ => rfl) ex26 ?_
      refine WP.iload_n d_X5_copyFrom_111 2 rfl ?_
      refine WP.iload_n d_X5_copyFrom_112 3 rfl ?_
      obtain ⟨x28, e27, H⟩ := ob H
      refine WP.cS (As := [.int l2, .int l3]) (st := [.ref x26]) (st9 := [.int x28, .ref x26]) (cl9 := 0) (sl9 := 0) d_X5_copyFrom_113 (ok_X5_slotOf V (h := h) e27) tv_X5_slotOf ts_X5_slotOf lk_X5_36 r_X5_copyFrom_X5_slotOf rfl rfl (Nat.le_of_ble_eq_true rfl) rfl rfl rfl ?_
      obtain ⟨x29, ex29, H⟩ := ob H
      refine WP.aaldR d_X5_copyFrom_116 (by decide) ex29 ?_
      refine WP.aload_n d_X5_copyFrom_117 1 rfl ?_
      obtain ⟨x30, ex30, H⟩ := ob H
      refine WP.fR d_X5_copyFrom_118 gf_X5_31 (fun _ => rfl) ex30 ?_
      refine WP.iload_n d_X5_copyFrom_121 2 rfl ?_
      refine WP.iload_n d_X5_copyFrom_122 3 rfl ?_
      obtain ⟨x32, e31, H⟩ := ob H
      refine WP.cS (As := [.int l2, .int l3]) (st := [.ref x30, .ref x29]) (st9 := [.int x32, .ref x30, .ref x29]) (cl9 := 0) (sl9 := 0) d_X5_copyFrom_123 (ok_X5_slotOf V (h := h) e31) tv_X5_slotOf ts_X5_slotOf lk_X5_36 r_X5_copyFrom_X5_slotOf rfl rfl (Nat.le_of_ble_eq_true rfl) rfl rfl rfl ?_
      obtain ⟨x33, ex33, H⟩ := ob H
      refine WP.aaldR d_X5_copyFrom_126 (by decide) ex33 ?_
      obtain ⟨h35, e34, H⟩ := ob H
      refine WP.cV (c := 3) (As := [.ref x33]) (st := []) (st9 := []) (cl9 := 0) (sl9 := 0) d_X5_copyFrom_127 (ok_X2_copyFrom V e34) tv_X2_copyFrom ti_X2_copyFrom ts_X2_copyFrom lk_X5_60 r_X5_copyFrom_X2_copyFrom kc_X2_copyFrom (kd_X2_copyFrom e34) rfl rfl (Nat.le_of_ble_eq_true rfl) rfl rfl rfl ?_
      refine WP.iinc (lv9 := [(3, .int (l3 + 1)), (0, .ref t), (1, .ref l1), (2, .int l2)]) d_X5_copyFrom_130 3 rfl ki_1 (Nat.le_of_ble_eq_true rfl) rfl ?_
      refine WP.goto d_X5_copyFrom_133 ?_
      refine WP.sub [1, 2, 3, 0] (lv' := [(0, .ref t), (1, .ref l1), (2, .int l2), (3, .int (l3 + 1))]) rfl ?_
      exact ih H K
    · refine WP.icmp_ge_f d_X5_copyFrom_104 hc ?_
      cases H
      exact WP.sub [0, 1, 2] rfl K

set_option maxRecDepth 20000 in
set_option maxHeartbeats 4000000 in
theorem okl_X5_copyFrom_L90 (V : EV) {vF : Option Value} {hF : HA} {t : Nat} {l1 : Nat} (n : Nat) : ∀ {h : HA} {l2 : Int32} {hR : HA}, (H : X5_copyFrom_L90 t l1 n h l2 = some hR) → (K : WP V M_X5_copyFrom 142 [] [] hR 0 0 vF hF) → WP V M_X5_copyFrom 90 [(0, .ref t), (1, .ref l1), (2, .int l2)] [] h 0 0 vF hF := by
  induction n with
  | zero =>
    intro h l2 hR H K
    rw [X5_copyFrom_L90] at H
    cases H
  | succ n ih =>
    intro h l2 hR H K
    rw [X5_copyFrom_L90] at H
    refine WP.iload_n d_X5_copyFrom_90 2 rfl ?_
    refine WP.iconst d_X5_copyFrom_91 ki_4 ?_
    rcases oj H with ⟨hc, H⟩ | ⟨hc, H⟩
    · refine WP.icmp_ge_t d_X5_copyFrom_92 hc ?_
      refine WP.iconst d_X5_copyFrom_95 ki_0 ?_
      refine WP.istore_n (lv9 := [(3, .int 0), (0, .ref t), (1, .ref l1), (2, .int l2)]) d_X5_copyFrom_96 (Nat.le_of_ble_eq_true rfl) rfl ?_
      obtain ⟨h37, e36, H⟩ := ob H
      refine WP.sub [1, 2, 3, 0] (lv' := [(0, .ref t), (1, .ref l1), (2, .int l2), (3, .int 0)]) rfl ?_
      refine okl_X5_copyFrom_L97 V _ e36 ?_
      refine WP.iinc (lv9 := [(2, .int (l2 + 1)), (0, .ref t), (1, .ref l1)]) d_X5_copyFrom_136 2 rfl ki_1 (Nat.le_of_ble_eq_true rfl) rfl ?_
      refine WP.goto d_X5_copyFrom_139 ?_
      refine WP.sub [1, 2, 0] (lv' := [(0, .ref t), (1, .ref l1), (2, .int (l2 + 1))]) rfl ?_
      exact ih H K
    · refine WP.icmp_ge_f d_X5_copyFrom_92 hc ?_
      cases H
      exact WP.sub [] rfl K

set_option maxRecDepth 20000 in
set_option maxHeartbeats 4000000 in
theorem ok_X5_copyFrom (V : EV) {h : HA} {t : Nat} {l1 : Nat} {hR : HA} (H : X5_copyFrom h t l1 = some hR) : MG V M_X5_copyFrom [.ref t, .ref l1] h none hR := by
  unfold X5_copyFrom at H
  obtain ⟨_, H⟩ := oc H
  refine MG.of (lv0 := [(0, .ref t), (1, .ref l1)]) pn_X5 rfl (Nat.le_of_ble_eq_true rfl) ?_
  refine WP.aload_n d_X5_copyFrom_0 1 rfl ?_
  obtain ⟨x1, ex1, H⟩ := ob H
  refine WP.fR d_X5_copyFrom_1 gf_X5_9 (fun _ => rfl) ex1 ?_
  refine WP.iconst d_X5_copyFrom_4 ki_0 ?_
  refine WP.aload_n d_X5_copyFrom_5 0 rfl ?_
  obtain ⟨x2, ex2, H⟩ := ob H
  refine WP.fR d_X5_copyFrom_6 gf_X5_9 (fun _ => rfl) ex2 ?_
  refine WP.iconst d_X5_copyFrom_9 ki_0 ?_
  refine WP.aload_n d_X5_copyFrom_10 1 rfl ?_
  obtain ⟨x3, ex3, H⟩ := ob H
  refine WP.fI d_X5_copyFrom_11 gf_X5_44 (fun _ => rfl) ex3 ?_
  obtain ⟨h4, eh4, H⟩ := ob H
  refine WP.copy d_X5_copyFrom_14 (by decide) lk_X5_47 w_ac_nat w_ac_stat w_ac_init eh4 (Nat.le_of_ble_eq_true rfl) (Nat.le_of_ble_eq_true rfl) ?_
  refine WP.aload_n d_X5_copyFrom_17 0 rfl ?_
  refine WP.aload_n d_X5_copyFrom_18 1 rfl ?_
  obtain ⟨x5, ex5, H⟩ := ob H
  refine WP.fI d_X5_copyFrom_19 gf_X5_44 (fun _ => rfl) ex5 ?_
  obtain ⟨h6, eh6, H⟩ := ob H
  refine WP.uI d_X5_copyFrom_22 gf_X5_44 rfl (Or.inl rfl) rfl rfl eh6 ?_
  refine WP.aload_n d_X5_copyFrom_25 0 rfl ?_
  refine WP.aload_n d_X5_copyFrom_26 1 rfl ?_
  obtain ⟨x7, ex7, H⟩ := ob H
  refine WP.fI d_X5_copyFrom_27 gf_X5_53 (fun _ => rfl) ex7 ?_
  obtain ⟨h8, eh8, H⟩ := ob H
  refine WP.uI d_X5_copyFrom_30 gf_X5_53 rfl (Or.inl rfl) rfl rfl eh8 ?_
  refine WP.aload_n d_X5_copyFrom_33 0 rfl ?_
  refine WP.aload_n d_X5_copyFrom_34 1 rfl ?_
  obtain ⟨x9, ex9, H⟩ := ob H
  refine WP.fI d_X5_copyFrom_35 gf_X5_15 (fun _ => rfl) ex9 ?_
  obtain ⟨h10, eh10, H⟩ := ob H
  refine WP.uI d_X5_copyFrom_38 gf_X5_15 rfl (Or.inl rfl) rfl rfl eh10 ?_
  refine WP.aload_n d_X5_copyFrom_41 1 rfl ?_
  obtain ⟨x11, ex11, H⟩ := ob H
  refine WP.fR d_X5_copyFrom_42 gf_X5_19 (fun _ => rfl) ex11 ?_
  refine WP.iconst d_X5_copyFrom_45 ki_0 ?_
  refine WP.aload_n d_X5_copyFrom_46 0 rfl ?_
  obtain ⟨x12, ex12, H⟩ := ob H
  refine WP.fR d_X5_copyFrom_47 gf_X5_19 (fun _ => rfl) ex12 ?_
  refine WP.iconst d_X5_copyFrom_50 ki_0 ?_
  refine WP.iconst d_X5_copyFrom_51 ki_4 ?_
  obtain ⟨h13, eh13, H⟩ := ob H
  refine WP.copy d_X5_copyFrom_52 (by decide) lk_X5_47 w_ac_nat w_ac_stat w_ac_init eh13 (Nat.le_of_ble_eq_true rfl) (Nat.le_of_ble_eq_true rfl) ?_
  refine WP.iconst d_X5_copyFrom_55 ki_0 ?_
  refine WP.istore_n (lv9 := [(2, .int 0), (0, .ref t), (1, .ref l1)]) d_X5_copyFrom_56 (Nat.le_of_ble_eq_true rfl) rfl ?_
  obtain ⟨h23, e22, H⟩ := ob H
  refine WP.sub [1, 2, 0] (lv' := [(0, .ref t), (1, .ref l1), (2, .int 0)]) rfl ?_
  refine okl_X5_copyFrom_L57 V _ e22 ?_
  refine WP.iconst d_X5_copyFrom_88 ki_1 ?_
  refine WP.istore_n (lv9 := [(2, .int 1), (0, .ref t), (1, .ref l1)]) d_X5_copyFrom_89 (Nat.le_of_ble_eq_true rfl) rfl ?_
  obtain ⟨h39, e38, H⟩ := ob H
  refine WP.sub [1, 2, 0] (lv' := [(0, .ref t), (1, .ref l1), (2, .int 1)]) rfl ?_
  refine okl_X5_copyFrom_L90 V _ e38 ?_
  cases H
  exact WP.return_ d_X5_copyFrom_142 rfl (Nat.le_of_ble_eq_true rfl) (Nat.le_of_ble_eq_true rfl)

set_option maxRecDepth 20000 in
set_option maxHeartbeats 4000000 in
theorem ok_X6_init (V : EV) {h : HA} {t : Nat} {hR : HA} (H : X6_init h t = some hR) : MG V M_X6_init [.ref t] h none hR := by
  unfold X6_init at H
  obtain ⟨_, H⟩ := oc H
  refine MG.of (lv0 := [(0, .ref t)]) pn_X6 rfl (Nat.le_of_ble_eq_true rfl) ?_
  refine WP.aload_n d_X6_init_0 0 rfl ?_
  refine WP.objInit d_X6_init_1 lk_X6_3 w_oi_inst w_oi_code (Nat.le_of_ble_eq_true rfl) (Nat.le_of_ble_eq_true rfl) ?_
  refine WP.aload_n d_X6_init_4 0 rfl ?_
  refine WP.sipush d_X6_init_5 ks_3904 ?_
  obtain ⟨h1, eh1, H⟩ := ob H
  refine WP.newarr (c := 21) d_X6_init_8 (Nat.le_of_ble_eq_true rfl) (Nat.le_of_ble_eq_true rfl) rfl wa_long eh1 (Nat.le_of_ble_eq_true rfl) fc_21 (Nat.le_of_ble_eq_true rfl) (Nat.le_of_ble_eq_true rfl) newa_21 ?_
  refine WP.cs (cl9 := 1) (sl9 := 3904) rfl rfl ?_
  obtain ⟨h2, eh2, H⟩ := ob H
  refine WP.vR d_X6_init_10 gf_X6_11 rfl rfl rfl (x := (some (hz h))) (fun _ => rfl) rfl rfl eh2 ?_
  refine WP.aload_n d_X6_init_13 0 rfl ?_
  refine WP.sipush d_X6_init_14 ks_256 ?_
  obtain ⟨h3, eh3, H⟩ := ob H
  refine WP.newarr (c := 21) d_X6_init_17 (Nat.le_of_ble_eq_true rfl) (Nat.le_of_ble_eq_true rfl) rfl wa_long eh3 (Nat.le_of_ble_eq_true rfl) fc_21 (Nat.le_of_ble_eq_true rfl) (Nat.le_of_ble_eq_true rfl) newa_21 ?_
  refine WP.cs (cl9 := 2) (sl9 := 4160) rfl rfl ?_
  obtain ⟨h4, eh4, H⟩ := ob H
  refine WP.vR d_X6_init_19 gf_X6_15 rfl rfl rfl (x := (some (hz h2))) (fun _ => rfl) rfl rfl eh4 ?_
  cases H
  exact WP.return_ d_X6_init_22 rfl (Nat.le_of_ble_eq_true rfl) (Nat.le_of_ble_eq_true rfl)

set_option maxRecDepth 20000 in
set_option maxHeartbeats 4000000 in
theorem okl_X6_layBands_L17 (V : EV) {vF : Option Value} {hF : HA} {t : Nat} {l1 : Int32} {l2 : Int32} (n : Nat) : ∀ {h : HA} {l3 : Int32} {hR : HA}, (H : X6_layBands_L17 t l1 l2 n h l3 = some hR) → (K : WP V M_X6_layBands 70 [(0, .ref t), (1, .int l1), (2, .int l2)] [] hR 0 0 vF hF) → WP V M_X6_layBands 17 [(0, .ref t), (1, .int l1), (2, .int l2), (3, .int l3)] [] h 0 0 vF hF := by
  induction n with
  | zero =>
    intro h l3 hR H K
    rw [X6_layBands_L17] at H
    cases H
  | succ n ih =>
    intro h l3 hR H K
    rw [X6_layBands_L17] at H
    refine WP.iload_n d_X6_layBands_17 3 rfl ?_
    refine WP.bipush d_X6_layBands_18 kb_64 ?_
    rcases oj H with ⟨hc, H⟩ | ⟨hc, H⟩
    · refine WP.icmp_ge_t d_X6_layBands_20 hc ?_
      refine WP.aload_n d_X6_layBands_23 0 rfl ?_
      obtain ⟨x4, ex4, H⟩ := ob H
      refine WP.fR d_X6_layBands_24 gf_X6_18 (fun _ => rfl) ex4 ?_
      refine WP.iload_n d_X6_layBands_27 3 rfl ?_
      obtain ⟨x6, e5, H⟩ := ob H
      refine WP.cV (c := 1) (As := [.int l3]) (st := []) (st9 := [.int x6]) (cl9 := 0) (sl9 := 0) d_X6_layBands_28 (ok_X0_isOpen V e5) tv_X0_isOpen ti_X0_isOpen ts_X0_isOpen lk_X6_53 r_X6_layBands_X0_isOpen kc_X0_isOpen (kd_X0_isOpen e5) rfl rfl (Nat.le_of_ble_eq_true rfl) rfl rfl rfl ?_
      rcases oj H with ⟨hc, H⟩ | ⟨hc, H⟩
      · refine WP.if_eq_t d_X6_layBands_31 hc ?_
        refine WP.iinc (lv9 := [(3, .int (l3 + 1)), (0, .ref t), (1, .int l1), (2, .int l2)]) d_X6_layBands_64 3 rfl ki_1 (Nat.le_of_ble_eq_true rfl) rfl ?_
        refine WP.goto d_X6_layBands_67 ?_
        refine WP.sub [1, 2, 3, 0] (lv' := [(0, .ref t), (1, .int l1), (2, .int l2), (3, .int (l3 + 1))]) rfl ?_
        exact ih H K
      · refine WP.if_eq_f d_X6_layBands_31 hc ?_
        refine WP.aload_n d_X6_layBands_34 0 rfl ?_
        obtain ⟨x7, ex7, H⟩ := ob H
        refine WP.fR d_X6_layBands_35 gf_X6_18 (fun _ => rfl) ex7 ?_
        refine WP.iload_n d_X6_layBands_38 3 rfl ?_
        refine WP.iload_n d_X6_layBands_39 2 rfl ?_
        refine WP.iload_n d_X6_layBands_40 1 rfl ?_
        obtain ⟨x9, e8, H⟩ := ob H
        refine WP.cV (c := 1) (As := [.int l3, .int l2, .int l1]) (st := []) (st9 := [.int x9]) (cl9 := 0) (sl9 := 0) d_X6_layBands_41 (ok_X0_earsAt V e8) tv_X0_earsAt ti_X0_earsAt ts_X0_earsAt lk_X6_57 r_X6_layBands_X0_earsAt kc_X0_earsAt (kd_X0_earsAt e8) rfl rfl (Nat.le_of_ble_eq_true rfl) rfl rfl rfl ?_
        refine WP.istore (lv9 := [(4, .int x9), (0, .ref t), (1, .int l1), (2, .int l2), (3, .int l3)]) d_X6_layBands_44 (Nat.le_of_ble_eq_true rfl) rfl ?_
        refine WP.aload_n d_X6_layBands_46 1 rfl ?_
        obtain ⟨x10, ex10, H⟩ := ob H
        refine WP.fR d_X6_layBands_47 gf_X6_15 (fun _ => rfl) ex10 ?_
        refine WP.iload_n d_X6_layBands_50 3 rfl ?_
        refine WP.bipush d_X6_layBands_51 kb_64 ?_
        refine WP.imul d_X6_layBands_53 ?_
        refine WP.iload d_X6_layBands_54 0 rfl ?_
        refine WP.iadd d_X6_layBands_56 ?_
        refine WP.dup2 d_X6_layBands_57 rfl rfl ?_
        obtain ⟨x11, ex11, H⟩ := ob H
        refine WP.lald d_X6_layBands_58 ex11 ?_
        refine WP.lconst d_X6_layBands_59 kl_1 ?_
        refine WP.iload_n d_X6_layBands_60 4 rfl ?_
        refine WP.lshl d_X6_layBands_61 ?_
        refine WP.lor d_X6_layBands_62 ?_
        obtain ⟨h12, eh12, H⟩ := ob H
        refine WP.las d_X6_layBands_63 eh12 ?_
        refine WP.iinc (lv9 := [(3, .int (l3 + 1)), (4, .int x9), (0, .ref t), (1, .int l1), (2, .int l2)]) d_X6_layBands_64 4 rfl ki_1 (Nat.le_of_ble_eq_true rfl) rfl ?_
        refine WP.goto d_X6_layBands_67 ?_
        refine WP.sub [2, 3, 4, 0] (lv' := [(0, .ref t), (1, .int l1), (2, .int l2), (3, .int (l3 + 1))]) rfl ?_
        exact ih H K
    · refine WP.icmp_ge_f d_X6_layBands_20 hc ?_
      cases H
      exact WP.sub [0, 1, 2] rfl K

set_option maxRecDepth 20000 in
set_option maxHeartbeats 4000000 in
theorem okl_X6_layBands_L10 (V : EV) {vF : Option Value} {hF : HA} {t : Nat} {l1 : Int32} (n : Nat) : ∀ {h : HA} {l2 : Int32} {hR : HA}, (H : X6_layBands_L10 t l1 n h l2 = some hR) → (K : WP V M_X6_layBands 76 [] [] hR 0 0 vF hF) → WP V M_X6_layBands 10 [(0, .ref t), (1, .int l1), (2, .int l2)] [] h 0 0 vF hF := by
  induction n with
  | zero =>
    intro h l2 hR H K
    rw [X6_layBands_L10] at H
    cases H
  | succ n ih =>
    intro h l2 hR H K
    rw [X6_layBands_L10] at H
    refine WP.iload_n d_X6_layBands_10 2 rfl ?_
    refine WP.iconst d_X6_layBands_11 ki_4 ?_
    rcases oj H with ⟨hc, H⟩ | ⟨hc, H⟩
    · refine WP.icmp_ge_t d_X6_layBands_12 hc ?_
      refine WP.iconst d_X6_layBands_15 ki_0 ?_
      refine WP.istore_n (lv9 := [(3, .int 0), (0, .ref t), (1, .int l1), (2, .int l2)]) d_X6_layBands_16 (Nat.le_of_ble_eq_true rfl) rfl ?_
      obtain ⟨h14, e13, H⟩ := ob H
      refine WP.sub [1, 2, 3, 0] (lv' := [(0, .ref t), (1, .int l1), (2, .int l2), (3, .int 0)]) rfl ?_
      refine okl_X6_layBands_L17 V _ e13 ?_
      refine WP.iinc (lv9 := [(2, .int (l2 + 1)), (0, .ref t), (1, .int l1)]) d_X6_layBands_70 2 rfl ki_1 (Nat.le_of_ble_eq_true rfl) rfl ?_
      refine WP.goto d_X6_layBands_73 ?_
      refine WP.sub [1, 2, 0] (lv' := [(0, .ref t), (1, .int l1), (2, .int (l2 + 1))]) rfl ?_
      exact ih H K
    · refine WP.icmp_ge_f d_X6_layBands_12 hc ?_
      cases H
      exact WP.sub [] rfl K

set_option maxRecDepth 20000 in
set_option maxHeartbeats 4000000 in
theorem ok_X6_layBands (V : EV) {h : HA} {t : Nat} {l1 : Int32} {hR : HA} (H : X6_layBands h t l1 = some hR) : MG V M_X6_layBands [.ref t, .int l1] h none hR := by
  unfold X6_layBands at H
  obtain ⟨_, H⟩ := oc H
  refine MG.of (lv0 := [(0, .ref t), (1, .int l1)]) pn_X6 rfl (Nat.le_of_ble_eq_true rfl) ?_
  refine WP.aload_n d_X6_layBands_0 0 rfl ?_
  obtain ⟨x1, ex1, H⟩ := ob H
  refine WP.fR d_X6_layBands_1 gf_X6_15 (fun _ => rfl) ex1 ?_
  refine WP.lconst d_X6_layBands_4 kl_0 ?_
  obtain ⟨h3, e2, H⟩ := ob H
  refine WP.cS (As := [.ref x1, .long 0]) (st := []) (st9 := []) (cl9 := 0) (sl9 := 0) d_X6_layBands_5 (ok_J7_fill_d0a16 V e2) tv_J7_fill_d0a16 ts_J7_fill_d0a16 lk_X6_50 r_X6_layBands_J7_fill_d0a16 rfl rfl (Nat.le_of_ble_eq_true rfl) rfl rfl rfl ?_
  refine WP.iconst d_X6_layBands_8 ki_0 ?_
  refine WP.istore_n (lv9 := [(2, .int 0), (0, .ref t), (1, .int l1)]) d_X6_layBands_9 (Nat.le_of_ble_eq_true rfl) rfl ?_
  obtain ⟨h16, e15, H⟩ := ob H
  refine WP.sub [1, 2, 0] (lv' := [(0, .ref t), (1, .int l1), (2, .int 0)]) rfl ?_
  refine okl_X6_layBands_L10 V _ e15 ?_
  cases H
  exact WP.return_ d_X6_layBands_76 rfl (Nat.le_of_ble_eq_true rfl) (Nat.le_of_ble_eq_true rfl)

set_option maxRecDepth 20000 in
set_option maxHeartbeats 4000000 in
theorem ok_X6_band (V : EV) {h : HA} {t : Nat} {l1 : Int32} {l2 : Int32} {r : Int64} (H : X6_band h t l1 l2 = some r) : MG V M_X6_band [.ref t, .int l1, .int l2] h (some (.long r)) h := by
  unfold X6_band at H
  obtain ⟨_, H⟩ := oc H
  refine MG.of (lv0 := [(0, .ref t), (1, .int l1), (2, .int l2)]) pn_X6 rfl (Nat.le_of_ble_eq_true rfl) ?_
  refine WP.aload_n d_X6_band_0 0 rfl ?_
  obtain ⟨x1, ex1, H⟩ := ob H
  refine WP.fR d_X6_band_1 gf_X6_15 (fun _ => rfl) ex1 ?_
  refine WP.iload_n d_X6_band_4 1 rfl ?_
  refine WP.iconst d_X6_band_5 ki_3 ?_
  refine WP.iand d_X6_band_6 ?_
  refine WP.bipush d_X6_band_7 kb_64 ?_
  refine WP.imul d_X6_band_9 ?_
  refine WP.iload_n d_X6_band_10 2 rfl ?_
  refine WP.iadd d_X6_band_11 ?_
  obtain ⟨x2, ex2, H⟩ := ob H
  refine WP.lald d_X6_band_12 ex2 ?_
  cases H
  exact WP.lreturn d_X6_band_13 rfl (Nat.le_of_ble_eq_true rfl) (Nat.le_of_ble_eq_true rfl)

set_option maxRecDepth 20000 in
set_option maxHeartbeats 4000000 in
theorem okl_X6_spread_L80 (V : EV) {vF : Option Value} {hF : HA} {t : Nat} {l1 : Int32} {l2 : Int32} {l3 : Int32} {l4 : Int32} {l5 : Int64} (n : Nat) : ∀ {h : HA} {l7 : Int32} {hR : HA}, (H : X6_spread_L80 t l1 l3 l4 l5 n h l7 = some hR) → (K : WP V M_X6_spread 120 [(0, .ref t), (1, .int l1), (2, .int l2), (3, .int l3), (4, .int l4)] [] hR 0 0 vF hF) → WP V M_X6_spread 80 [(0, .ref t), (1, .int l1), (2, .int l2), (3, .int l3), (4, .int l4), (5, .long l5), (7, .int l7)] [] h 0 0 vF hF := by
  induction n with
  | zero =>
    intro h l7 hR H K
    rw [X6_spread_L80] at H
    cases H
  | succ n ih =>
    intro h l7 hR H K
    rw [X6_spread_L80] at H
    refine WP.iload d_X6_spread_80 6 rfl ?_
    refine WP.aload_n d_X6_spread_82 0 rfl ?_
    obtain ⟨x13, ex13, H⟩ := ob H
    refine WP.fI d_X6_spread_83 gf_X6_31 (fun _ => rfl) ex13 ?_
    rcases oj H with ⟨hc, H⟩ | ⟨hc, H⟩
    · refine WP.icmp_gt_t d_X6_spread_86 hc ?_
      cases H
      exact WP.sub [0, 1, 2, 3, 4] rfl K
    · refine WP.icmp_gt_f d_X6_spread_86 hc ?_
      refine WP.aload_n d_X6_spread_89 0 rfl ?_
      obtain ⟨x14, ex14, H⟩ := ob H
      refine WP.fR d_X6_spread_90 gf_X6_11 (fun _ => rfl) ex14 ?_
      refine WP.iload_n d_X6_spread_93 3 rfl ?_
      refine WP.iload d_X6_spread_94 4 rfl ?_
      refine WP.iload d_X6_spread_96 6 rfl ?_
      refine WP.ior d_X6_spread_98 ?_
      refine WP.iadd d_X6_spread_99 ?_
      refine WP.dup2 d_X6_spread_100 rfl rfl ?_
      obtain ⟨x15, ex15, H⟩ := ob H
      refine WP.lald d_X6_spread_101 ex15 ?_
      refine WP.lload d_X6_spread_102 5 rfl ?_
      refine WP.aload_n d_X6_spread_104 0 rfl ?_
      refine WP.iload_n d_X6_spread_105 1 rfl ?_
      refine WP.iload d_X6_spread_106 6 rfl ?_
      obtain ⟨x17, e16, H⟩ := ob H
      refine WP.cV (c := 7) (As := [.int l1, .int l7]) (st := [.long l5, .long x15, .int (l3 + (l4 ||| l7)), .ref x14]) (st9 := [.long x17, .long l5, .long x15, .int (l3 + (l4 ||| l7)), .ref x14]) (cl9 := 0) (sl9 := 0) d_X6_spread_108 (ok_X6_band V e16) tv_X6_band ti_X6_band ts_X6_band lk_X6_65 r_X6_spread_X6_band kc_X6_band (kd_X6_band e16) rfl rfl (Nat.le_of_ble_eq_true rfl) rfl rfl rfl ?_
      refine WP.land d_X6_spread_111 ?_
      refine WP.lor d_X6_spread_112 ?_
      obtain ⟨h18, eh18, H⟩ := ob H
      refine WP.las d_X6_spread_113 eh18 ?_
      refine WP.iinc (lv9 := [(7, .int (l7 + 1)), (0, .ref t), (1, .int l1), (2, .int l2), (3, .int l3), (4, .int l4), (5, .long l5)]) d_X6_spread_114 6 rfl ki_1 (Nat.le_of_ble_eq_true rfl) rfl ?_
      refine WP.goto d_X6_spread_117 ?_
      refine WP.sub [1, 2, 3, 4, 5, 6, 0] (lv' := [(0, .ref t), (1, .int l1), (2, .int l2), (3, .int l3), (4, .int l4), (5, .long l5), (7, .int (l7 + 1))]) rfl ?_
      exact ih H K

set_option maxRecDepth 20000 in
set_option maxHeartbeats 4000000 in
theorem okl_X6_spread_L26 (V : EV) {vF : Option Value} {hF : HA} {t : Nat} {l1 : Int32} {l2 : Int32} {l3 : Int32} (n : Nat) : ∀ {h : HA} {l4 : Int32} {hR : HA}, (H : X6_spread_L26 t l1 l2 l3 n h l4 = some hR) → (K : WP V M_X6_spread 126 [] [] hR 0 0 vF hF) → WP V M_X6_spread 26 [(0, .ref t), (1, .int l1), (2, .int l2), (3, .int l3), (4, .int l4)] [] h 0 0 vF hF := by
  induction n with
  | zero =>
    intro h l4 hR H K
    rw [X6_spread_L26] at H
    cases H
  | succ n ih =>
    intro h l4 hR H K
    rw [X6_spread_L26] at H
    refine WP.iload d_X6_spread_26 4 rfl ?_
    refine WP.aload_n d_X6_spread_28 0 rfl ?_
    obtain ⟨x4, ex4, H⟩ := ob H
    refine WP.fI d_X6_spread_29 gf_X6_31 (fun _ => rfl) ex4 ?_
    rcases oj H with ⟨hc, H⟩ | ⟨hc, H⟩
    · refine WP.icmp_gt_t d_X6_spread_32 hc ?_
      cases H
      exact WP.sub [] rfl K
    · refine WP.icmp_gt_f d_X6_spread_32 hc ?_
      refine WP.aload_n d_X6_spread_35 0 rfl ?_
      obtain ⟨x5, ex5, H⟩ := ob H
      refine WP.fR d_X6_spread_36 gf_X6_11 (fun _ => rfl) ex5 ?_
      refine WP.iload_n d_X6_spread_39 2 rfl ?_
      refine WP.iload d_X6_spread_40 4 rfl ?_
      refine WP.iadd d_X6_spread_42 ?_
      obtain ⟨x6, ex6, H⟩ := ob H
      refine WP.lald d_X6_spread_43 ex6 ?_
      refine WP.lstore (lv9 := [(5, .long x6), (0, .ref t), (1, .int l1), (2, .int l2), (3, .int l3), (4, .int l4)]) d_X6_spread_44 (Nat.le_of_ble_eq_true rfl) rfl ?_
      refine WP.lload d_X6_spread_46 0 rfl ?_
      refine WP.lconst d_X6_spread_48 kl_0 ?_
      rcases oj H with ⟨hc, H⟩ | ⟨hc, H⟩
      · refine WP.lcmp_eq_t d_X6_spread_49 d_X6_spread_50 hc ?_
        refine WP.iinc (lv9 := [(4, .int (l4 + 1)), (5, .long x6), (0, .ref t), (1, .int l1), (2, .int l2), (3, .int l3)]) d_X6_spread_120 5 rfl ki_1 (Nat.le_of_ble_eq_true rfl) rfl ?_
        refine WP.goto d_X6_spread_123 ?_
        refine WP.sub [2, 3, 4, 5, 0] (lv' := [(0, .ref t), (1, .int l1), (2, .int l2), (3, .int l3), (4, .int (l4 + 1))]) rfl ?_
        exact ih H K
      · refine WP.lcmp_eq_f d_X6_spread_49 d_X6_spread_50 hc ?_
        refine WP.aload_n d_X6_spread_53 1 rfl ?_
        obtain ⟨x7, ex7, H⟩ := ob H
        refine WP.fR d_X6_spread_54 gf_X6_11 (fun _ => rfl) ex7 ?_
        refine WP.iload_n d_X6_spread_57 4 rfl ?_
        refine WP.iload d_X6_spread_58 5 rfl ?_
        refine WP.iadd d_X6_spread_60 ?_
        refine WP.dup2 d_X6_spread_61 rfl rfl ?_
        obtain ⟨x8, ex8, H⟩ := ob H
        refine WP.lald d_X6_spread_62 ex8 ?_
        refine WP.lload d_X6_spread_63 0 rfl ?_
        refine WP.aload_n d_X6_spread_65 1 rfl ?_
        obtain ⟨x9, ex9, H⟩ := ob H
        refine WP.fR d_X6_spread_66 gf_X6_18 (fun _ => rfl) ex9 ?_
        refine WP.lload d_X6_spread_69 0 rfl ?_
        obtain ⟨x11, e10, H⟩ := ob H
        refine WP.cV (c := 1) (As := [.long x6]) (st := [.long x6, .long x8, .int (l3 + l4), .ref x7]) (st9 := [.long x11, .long x6, .long x8, .int (l3 + l4), .ref x7]) (cl9 := 0) (sl9 := 0) d_X6_spread_71 (ok_X0_grow V e10) tv_X0_grow ti_X0_grow ts_X0_grow lk_X6_61 r_X6_spread_X0_grow kc_X0_grow (kd_X0_grow e10) rfl rfl (Nat.le_of_ble_eq_true rfl) rfl rfl rfl ?_
        refine WP.lor d_X6_spread_74 ?_
        refine WP.lor d_X6_spread_75 ?_
        obtain ⟨h12, eh12, H⟩ := ob H
        refine WP.las d_X6_spread_76 eh12 ?_
        refine WP.iconst d_X6_spread_77 ki_1 ?_
        refine WP.istore (lv9 := [(7, .int 1), (5, .long x6), (0, .ref t), (1, .int l1), (2, .int l2), (3, .int l3), (4, .int l4)]) d_X6_spread_78 (Nat.le_of_ble_eq_true rfl) rfl ?_
        obtain ⟨h20, e19, H⟩ := ob H
        refine WP.sub [2, 3, 4, 5, 6, 1, 0] (lv' := [(0, .ref t), (1, .int l1), (2, .int l2), (3, .int l3), (4, .int l4), (5, .long x6), (7, .int 1)]) rfl ?_
        refine okl_X6_spread_L80 V _ e19 ?_
        refine WP.iinc (lv9 := [(4, .int (l4 + 1)), (0, .ref t), (1, .int l1), (2, .int l2), (3, .int l3)]) d_X6_spread_120 4 rfl ki_1 (Nat.le_of_ble_eq_true rfl) rfl ?_
        refine WP.goto d_X6_spread_123 ?_
        refine WP.sub [1, 2, 3, 4, 0] (lv' := [(0, .ref t), (1, .int l1), (2, .int l2), (3, .int l3), (4, .int (l4 + 1))]) rfl ?_
        exact ih H K

set_option maxRecDepth 20000 in
set_option maxHeartbeats 4000000 in
theorem ok_X6_spread (V : EV) {h : HA} {t : Nat} {l1 : Int32} {hR : HA} (H : X6_spread h t l1 = some hR) : MG V M_X6_spread [.ref t, .int l1] h none hR := by
  unfold X6_spread at H
  obtain ⟨_, H⟩ := oc H
  refine MG.of (lv0 := [(0, .ref t), (1, .int l1)]) pn_X6 rfl (Nat.le_of_ble_eq_true rfl) ?_
  refine WP.iload_n d_X6_spread_0 1 rfl ?_
  refine WP.bipush d_X6_spread_1 kb_64 ?_
  refine WP.imul d_X6_spread_3 ?_
  refine WP.istore_n (lv9 := [(2, .int (l1 * 64)), (0, .ref t), (1, .int l1)]) d_X6_spread_4 (Nat.le_of_ble_eq_true rfl) rfl ?_
  refine WP.iload_n d_X6_spread_5 0 rfl ?_
  refine WP.bipush d_X6_spread_6 kb_64 ?_
  refine WP.iadd d_X6_spread_8 ?_
  refine WP.istore_n (lv9 := [(3, .int ((l1 * 64) + 64)), (2, .int (l1 * 64)), (0, .ref t), (1, .int l1)]) d_X6_spread_9 (Nat.le_of_ble_eq_true rfl) rfl ?_
  refine WP.aload_n d_X6_spread_10 2 rfl ?_
  obtain ⟨x1, ex1, H⟩ := ob H
  refine WP.fR d_X6_spread_11 gf_X6_11 (fun _ => rfl) ex1 ?_
  refine WP.iload_n d_X6_spread_14 0 rfl ?_
  refine WP.iload_n d_X6_spread_15 0 rfl ?_
  refine WP.bipush d_X6_spread_16 kb_64 ?_
  refine WP.iadd d_X6_spread_18 ?_
  refine WP.lconst d_X6_spread_19 kl_0 ?_
  obtain ⟨h3, e2, H⟩ := ob H
  refine WP.cS (As := [.ref x1, .int ((l1 * 64) + 64), .int (((l1 * 64) + 64) + 64), .long 0]) (st := []) (st9 := []) (cl9 := 0) (sl9 := 0) d_X6_spread_20 (ok_J7_fill_bad5a V e2) tv_J7_fill_bad5a ts_J7_fill_bad5a lk_X6_38 r_X6_spread_J7_fill_bad5a rfl rfl (Nat.le_of_ble_eq_true rfl) rfl rfl rfl ?_
  refine WP.iconst d_X6_spread_23 ki_0 ?_
  refine WP.istore (lv9 := [(4, .int 0), (3, .int ((l1 * 64) + 64)), (2, .int (l1 * 64)), (0, .ref t), (1, .int l1)]) d_X6_spread_24 (Nat.le_of_ble_eq_true rfl) rfl ?_
  obtain ⟨h22, e21, H⟩ := ob H
  refine WP.sub [3, 4, 2, 1, 0] (lv' := [(0, .ref t), (1, .int l1), (2, .int (l1 * 64)), (3, .int ((l1 * 64) + 64)), (4, .int 0)]) rfl ?_
  refine okl_X6_spread_L26 V _ e21 ?_
  cases H
  exact WP.return_ d_X6_spread_126 rfl (Nat.le_of_ble_eq_true rfl) (Nat.le_of_ble_eq_true rfl)

set_option maxRecDepth 20000 in
set_option maxHeartbeats 4000000 in
theorem okl_X6_leading_L34 (V : EV) {vF : Option Value} {hF : HA} {h : HA} {t : Nat} {l1 : Int32} {l2 : Int32} {l3 : Int32} (n : Nat) : ∀ {l6 : Int64} {l8 : Int32} {r6 : Int64}, (H : X6_leading_L34 h t l1 l2 l3 n l6 l8 = some r6) → (K : WP V M_X6_leading 73 [(6, .long r6)] [] h 0 0 vF hF) → WP V M_X6_leading 34 [(0, .ref t), (1, .int l1), (2, .int l2), (3, .int l3), (6, .long l6), (8, .int l8)] [] h 0 0 vF hF := by
  induction n with
  | zero =>
    intro l6 l8 r6 H K
    rw [X6_leading_L34] at H
    cases H
  | succ n ih =>
    intro l6 l8 r6 H K
    rw [X6_leading_L34] at H
    refine WP.iload d_X6_leading_34 5 rfl ?_
    refine WP.aload_n d_X6_leading_36 0 rfl ?_
    obtain ⟨x6, ex6, H⟩ := ob H
    refine WP.fI d_X6_leading_37 gf_X6_31 (fun _ => rfl) ex6 ?_
    rcases oj H with ⟨hc, H⟩ | ⟨hc, H⟩
    · refine WP.icmp_gt_t d_X6_leading_40 hc ?_
      cases H
      exact WP.sub [4] rfl K
    · refine WP.icmp_gt_f d_X6_leading_40 hc ?_
      refine WP.lload d_X6_leading_43 4 rfl ?_
      refine WP.aload_n d_X6_leading_45 0 rfl ?_
      refine WP.iload_n d_X6_leading_46 1 rfl ?_
      refine WP.iload d_X6_leading_47 5 rfl ?_
      obtain ⟨x8, e7, H⟩ := ob H
      refine WP.cV (c := 7) (As := [.int l1, .int l8]) (st := [.long l6]) (st9 := [.long x8, .long l6]) (cl9 := 0) (sl9 := 0) d_X6_leading_49 (ok_X6_band V e7) tv_X6_band ti_X6_band ts_X6_band lk_X6_65 r_X6_leading_X6_band kc_X6_band (kd_X6_band e7) rfl rfl (Nat.le_of_ble_eq_true rfl) rfl rfl rfl ?_
      refine WP.aload_n d_X6_leading_52 0 rfl ?_
      obtain ⟨x9, ex9, H⟩ := ob H
      refine WP.fR d_X6_leading_53 gf_X6_11 (fun _ => rfl) ex9 ?_
      refine WP.iload_n d_X6_leading_56 3 rfl ?_
      refine WP.iload_n d_X6_leading_57 2 rfl ?_
      refine WP.iload d_X6_leading_58 5 rfl ?_
      refine WP.ior d_X6_leading_60 ?_
      refine WP.iadd d_X6_leading_61 ?_
      obtain ⟨x10, ex10, H⟩ := ob H
      refine WP.lald d_X6_leading_62 ex10 ?_
      refine WP.land d_X6_leading_63 ?_
      refine WP.lor d_X6_leading_64 ?_
      refine WP.lstore (lv9 := [(6, .long (l6 ||| (x8 &&& x10))), (0, .ref t), (1, .int l1), (2, .int l2), (3, .int l3), (8, .int l8)]) d_X6_leading_65 (Nat.le_of_ble_eq_true rfl) rfl ?_
      refine WP.iinc (lv9 := [(8, .int (l8 + 1)), (6, .long (l6 ||| (x8 &&& x10))), (0, .ref t), (1, .int l1), (2, .int l2), (3, .int l3)]) d_X6_leading_67 5 rfl ki_1 (Nat.le_of_ble_eq_true rfl) rfl ?_
      refine WP.goto d_X6_leading_70 ?_
      refine WP.sub [2, 3, 4, 5, 1, 0] (lv' := [(0, .ref t), (1, .int l1), (2, .int l2), (3, .int l3), (6, .long (l6 ||| (x8 &&& x10))), (8, .int (l8 + 1))]) rfl ?_
      exact ih H K

set_option maxRecDepth 20000 in
set_option maxHeartbeats 4000000 in
theorem ok_X6_leading (V : EV) {h : HA} {t : Nat} {l1 : Int32} {l2 : Int32} {r : Int64} (H : X6_leading h t l1 l2 = some r) : MG V M_X6_leading [.ref t, .int l1, .int l2] h (some (.long r)) h := by
  unfold X6_leading at H
  obtain ⟨_, H⟩ := oc H
  refine MG.of (lv0 := [(0, .ref t), (1, .int l1), (2, .int l2)]) pn_X6 rfl (Nat.le_of_ble_eq_true rfl) ?_
  refine WP.iload_n d_X6_leading_0 1 rfl ?_
  refine WP.iconst d_X6_leading_1 ki_1 ?_
  refine WP.iadd d_X6_leading_2 ?_
  refine WP.bipush d_X6_leading_3 kb_64 ?_
  refine WP.imul d_X6_leading_5 ?_
  refine WP.istore_n (lv9 := [(3, .int ((l1 + 1) * 64)), (0, .ref t), (1, .int l1), (2, .int l2)]) d_X6_leading_6 (Nat.le_of_ble_eq_true rfl) rfl ?_
  refine WP.aload_n d_X6_leading_7 1 rfl ?_
  obtain ⟨x1, ex1, H⟩ := ob H
  refine WP.fR d_X6_leading_8 gf_X6_11 (fun _ => rfl) ex1 ?_
  refine WP.iload_n d_X6_leading_11 0 rfl ?_
  refine WP.iload_n d_X6_leading_12 3 rfl ?_
  refine WP.iadd d_X6_leading_13 ?_
  obtain ⟨x2, ex2, H⟩ := ob H
  refine WP.lald d_X6_leading_14 ex2 ?_
  refine WP.lstore (lv9 := [(4, .long x2), (3, .int ((l1 + 1) * 64)), (0, .ref t), (1, .int l1), (2, .int l2)]) d_X6_leading_15 (Nat.le_of_ble_eq_true rfl) rfl ?_
  refine WP.lload d_X6_leading_17 0 rfl ?_
  refine WP.aload_n d_X6_leading_19 2 rfl ?_
  obtain ⟨x3, ex3, H⟩ := ob H
  refine WP.fR d_X6_leading_20 gf_X6_18 (fun _ => rfl) ex3 ?_
  refine WP.lload d_X6_leading_23 0 rfl ?_
  obtain ⟨x5, e4, H⟩ := ob H
  refine WP.cV (c := 1) (As := [.long x2]) (st := [.long x2]) (st9 := [.long x5, .long x2]) (cl9 := 0) (sl9 := 0) d_X6_leading_25 (ok_X0_grow V e4) tv_X0_grow ti_X0_grow ts_X0_grow lk_X6_61 r_X6_leading_X0_grow kc_X0_grow (kd_X0_grow e4) rfl rfl (Nat.le_of_ble_eq_true rfl) rfl rfl rfl ?_
  refine WP.lor d_X6_leading_28 ?_
  refine WP.lstore (lv9 := [(6, .long (x2 ||| x5)), (4, .long x2), (3, .int ((l1 + 1) * 64)), (0, .ref t), (1, .int l1), (2, .int l2)]) d_X6_leading_29 (Nat.le_of_ble_eq_true rfl) rfl ?_
  refine WP.iconst d_X6_leading_31 ki_1 ?_
  refine WP.istore (lv9 := [(8, .int 1), (6, .long (x2 ||| x5)), (4, .long x2), (3, .int ((l1 + 1) * 64)), (0, .ref t), (1, .int l1), (2, .int l2)]) d_X6_leading_32 (Nat.le_of_ble_eq_true rfl) rfl ?_
  obtain ⟨y12, e11, H⟩ := ob H
  refine WP.sub [4, 5, 6, 3, 1, 0] (lv' := [(0, .ref t), (1, .int l1), (2, .int l2), (3, .int ((l1 + 1) * 64)), (6, .long (x2 ||| x5)), (8, .int 1)]) rfl ?_
  refine okl_X6_leading_L34 V _ e11 ?_
  refine WP.lload d_X6_leading_73 0 rfl ?_
  cases H
  exact WP.lreturn d_X6_leading_75 rfl (Nat.le_of_ble_eq_true rfl) (Nat.le_of_ble_eq_true rfl)

set_option maxRecDepth 20000 in
set_option maxHeartbeats 4000000 in
theorem okl_X6_prune_L2 (V : EV) {vF : Option Value} {hF : HA} {t : Nat} {l1 : Int32} (n : Nat) : ∀ {h : HA} {l2 : Int32} {hR : HA}, (H : X6_prune_L2 t l1 n h l2 = some hR) → (K : WP V M_X6_prune 28 [(0, .ref t), (1, .int l1)] [] hR 0 0 vF hF) → WP V M_X6_prune 2 [(0, .ref t), (1, .int l1), (2, .int l2)] [] h 0 0 vF hF := by
  induction n with
  | zero =>
    intro h l2 hR H K
    rw [X6_prune_L2] at H
    cases H
  | succ n ih =>
    intro h l2 hR H K
    rw [X6_prune_L2] at H
    refine WP.iload_n d_X6_prune_2 2 rfl ?_
    refine WP.aload_n d_X6_prune_3 0 rfl ?_
    obtain ⟨x1, ex1, H⟩ := ob H
    refine WP.fI d_X6_prune_4 gf_X6_31 (fun _ => rfl) ex1 ?_
    rcases oj H with ⟨hc, H⟩ | ⟨hc, H⟩
    · refine WP.icmp_ge_t d_X6_prune_7 hc ?_
      refine WP.aload_n d_X6_prune_10 0 rfl ?_
      obtain ⟨x2, ex2, H⟩ := ob H
      refine WP.fR d_X6_prune_11 gf_X6_11 (fun _ => rfl) ex2 ?_
      refine WP.iload_n d_X6_prune_14 1 rfl ?_
      refine WP.bipush d_X6_prune_15 kb_64 ?_
      refine WP.imul d_X6_prune_17 ?_
      refine WP.iload_n d_X6_prune_18 2 rfl ?_
      refine WP.iadd d_X6_prune_19 ?_
      refine WP.lconst d_X6_prune_20 kl_0 ?_
      obtain ⟨h3, eh3, H⟩ := ob H
      refine WP.las d_X6_prune_21 eh3 ?_
      refine WP.iinc (lv9 := [(2, .int (l2 + 1)), (0, .ref t), (1, .int l1)]) d_X6_prune_22 2 rfl ki_1 (Nat.le_of_ble_eq_true rfl) rfl ?_
      refine WP.goto d_X6_prune_25 ?_
      refine WP.sub [1, 2, 0] (lv' := [(0, .ref t), (1, .int l1), (2, .int (l2 + 1))]) rfl ?_
      exact ih H K
    · refine WP.icmp_ge_f d_X6_prune_7 hc ?_
      cases H
      exact WP.sub [0, 1] rfl K

set_option maxRecDepth 20000 in
set_option maxHeartbeats 4000000 in
theorem okl_X6_prune_L38 (V : EV) {vF : Option Value} {hF : HA} {t : Nat} {l2 : Int32} (n : Nat) : ∀ {h : HA} {l3 : Int32} {hR : HA}, (H : X6_prune_L38 t l2 n h l3 = some hR) → (K : WP V M_X6_prune 88 [(0, .ref t), (2, .int l2)] [] hR 0 0 vF hF) → WP V M_X6_prune 38 [(0, .ref t), (2, .int l2), (3, .int l3)] [] h 0 0 vF hF := by
  induction n with
  | zero =>
    intro h l3 hR H K
    rw [X6_prune_L38] at H
    cases H
  | succ n ih =>
    intro h l3 hR H K
    rw [X6_prune_L38] at H
    refine WP.iload_n d_X6_prune_38 2 rfl ?_
    refine WP.aload_n d_X6_prune_39 0 rfl ?_
    obtain ⟨x6, ex6, H⟩ := ob H
    refine WP.fI d_X6_prune_40 gf_X6_31 (fun _ => rfl) ex6 ?_
    rcases oj H with ⟨hc, H⟩ | ⟨hc, H⟩
    · refine WP.icmp_gt_t d_X6_prune_43 hc ?_
      cases H
      exact WP.sub [0, 1] rfl K
    · refine WP.icmp_gt_f d_X6_prune_43 hc ?_
      refine WP.aload_n d_X6_prune_46 0 rfl ?_
      obtain ⟨x7, ex7, H⟩ := ob H
      refine WP.fR d_X6_prune_47 gf_X6_11 (fun _ => rfl) ex7 ?_
      refine WP.iload_n d_X6_prune_50 1 rfl ?_
      refine WP.bipush d_X6_prune_51 kb_64 ?_
      refine WP.imul d_X6_prune_53 ?_
      refine WP.iload_n d_X6_prune_54 2 rfl ?_
      refine WP.iadd d_X6_prune_55 ?_
      obtain ⟨x8, ex8, H⟩ := ob H
      refine WP.lald d_X6_prune_56 ex8 ?_
      refine WP.lconst d_X6_prune_57 kl_0 ?_
      rcases oj H with ⟨hc, H⟩ | ⟨hc, H⟩
      · refine WP.lcmp_eq_t d_X6_prune_58 d_X6_prune_59 hc ?_
        refine WP.iinc (lv9 := [(3, .int (l3 + 1)), (0, .ref t), (2, .int l2)]) d_X6_prune_82 2 rfl ki_1 (Nat.le_of_ble_eq_true rfl) rfl ?_
        refine WP.goto d_X6_prune_85 ?_
        refine WP.sub [1, 2, 0] (lv' := [(0, .ref t), (2, .int l2), (3, .int (l3 + 1))]) rfl ?_
        exact ih H K
      · refine WP.lcmp_eq_f d_X6_prune_58 d_X6_prune_59 hc ?_
        refine WP.aload_n d_X6_prune_62 0 rfl ?_
        obtain ⟨x9, ex9, H⟩ := ob H
        refine WP.fR d_X6_prune_63 gf_X6_11 (fun _ => rfl) ex9 ?_
        refine WP.iload_n d_X6_prune_66 1 rfl ?_
        refine WP.bipush d_X6_prune_67 kb_64 ?_
        refine WP.imul d_X6_prune_69 ?_
        refine WP.iload_n d_X6_prune_70 2 rfl ?_
        refine WP.iadd d_X6_prune_71 ?_
        refine WP.dup2 d_X6_prune_72 rfl rfl ?_
        obtain ⟨x10, ex10, H⟩ := ob H
        refine WP.lald d_X6_prune_73 ex10 ?_
        refine WP.aload_n d_X6_prune_74 0 rfl ?_
        refine WP.iload_n d_X6_prune_75 1 rfl ?_
        refine WP.iload_n d_X6_prune_76 2 rfl ?_
        obtain ⟨x12, e11, H⟩ := ob H
        refine WP.cV (c := 7) (As := [.int l2, .int l3]) (st := [.long x10, .int ((l2 * 64) + l3), .ref x9]) (st9 := [.long x12, .long x10, .int ((l2 * 64) + l3), .ref x9]) (cl9 := 0) (sl9 := 0) d_X6_prune_77 (ok_X6_leading V e11) tv_X6_leading ti_X6_leading ts_X6_leading lk_X6_69 r_X6_prune_X6_leading kc_X6_leading (kd_X6_leading e11) rfl rfl (Nat.le_of_ble_eq_true rfl) rfl rfl rfl ?_
        refine WP.land d_X6_prune_80 ?_
        obtain ⟨h13, eh13, H⟩ := ob H
        refine WP.las d_X6_prune_81 eh13 ?_
        refine WP.iinc (lv9 := [(3, .int (l3 + 1)), (0, .ref t), (2, .int l2)]) d_X6_prune_82 2 rfl ki_1 (Nat.le_of_ble_eq_true rfl) rfl ?_
        refine WP.goto d_X6_prune_85 ?_
        refine WP.sub [1, 2, 0] (lv' := [(0, .ref t), (2, .int l2), (3, .int (l3 + 1))]) rfl ?_
        exact ih H K

set_option maxRecDepth 20000 in
set_option maxHeartbeats 4000000 in
theorem okl_X6_prune_L32 (V : EV) {vF : Option Value} {hF : HA} {t : Nat} (n : Nat) : ∀ {h : HA} {l2 : Int32} {hR : HA}, (H : X6_prune_L32 t n h l2 = some hR) → (K : WP V M_X6_prune 94 [] [] hR 0 0 vF hF) → WP V M_X6_prune 32 [(0, .ref t), (2, .int l2)] [] h 0 0 vF hF := by
  induction n with
  | zero =>
    intro h l2 hR H K
    rw [X6_prune_L32] at H
    cases H
  | succ n ih =>
    intro h l2 hR H K
    rw [X6_prune_L32] at H
    refine WP.iload_n d_X6_prune_32 1 rfl ?_
    rcases oj H with ⟨hc, H⟩ | ⟨hc, H⟩
    · refine WP.if_lt_t d_X6_prune_33 hc ?_
      cases H
      exact WP.sub [] rfl K
    · refine WP.if_lt_f d_X6_prune_33 hc ?_
      refine WP.iconst d_X6_prune_36 ki_0 ?_
      refine WP.istore_n (lv9 := [(3, .int 0), (0, .ref t), (2, .int l2)]) d_X6_prune_37 (Nat.le_of_ble_eq_true rfl) rfl ?_
      obtain ⟨h15, e14, H⟩ := ob H
      refine WP.sub [1, 2, 0] (lv' := [(0, .ref t), (2, .int l2), (3, .int 0)]) rfl ?_
      refine okl_X6_prune_L38 V _ e14 ?_
      refine WP.iinc (lv9 := [(2, .int (l2 + (-1))), (0, .ref t)]) d_X6_prune_88 1 rfl ki_m1 (Nat.le_of_ble_eq_true rfl) rfl ?_
      refine WP.goto d_X6_prune_91 ?_
      refine WP.sub [1, 0] (lv' := [(0, .ref t), (2, .int (l2 + (-1)))]) rfl ?_
      exact ih H K

set_option maxRecDepth 20000 in
set_option maxHeartbeats 4000000 in
theorem ok_X6_prune (V : EV) {h : HA} {t : Nat} {l1 : Int32} {hR : HA} (H : X6_prune h t l1 = some hR) : MG V M_X6_prune [.ref t, .int l1] h none hR := by
  unfold X6_prune at H
  obtain ⟨_, H⟩ := oc H
  refine MG.of (lv0 := [(0, .ref t), (1, .int l1)]) pn_X6 rfl (Nat.le_of_ble_eq_true rfl) ?_
  refine WP.iconst d_X6_prune_0 ki_0 ?_
  refine WP.istore_n (lv9 := [(2, .int 0), (0, .ref t), (1, .int l1)]) d_X6_prune_1 (Nat.le_of_ble_eq_true rfl) rfl ?_
  obtain ⟨h5, e4, H⟩ := ob H
  refine WP.sub [1, 2, 0] (lv' := [(0, .ref t), (1, .int l1), (2, .int 0)]) rfl ?_
  refine okl_X6_prune_L2 V _ e4 ?_
  refine WP.iload_n d_X6_prune_28 1 rfl ?_
  refine WP.iconst d_X6_prune_29 ki_1 ?_
  refine WP.isub d_X6_prune_30 ?_
  refine WP.istore_n (lv9 := [(2, .int (l1 - 1)), (0, .ref t), (1, .int l1)]) d_X6_prune_31 (Nat.le_of_ble_eq_true rfl) rfl ?_
  obtain ⟨h17, e16, H⟩ := ob H
  refine WP.sub [1, 0] (lv' := [(0, .ref t), (2, .int (l1 - 1))]) rfl ?_
  refine okl_X6_prune_L32 V _ e16 ?_
  cases H
  exact WP.return_ d_X6_prune_94 rfl (Nat.le_of_ble_eq_true rfl) (Nat.le_of_ble_eq_true rfl)

set_option maxRecDepth 20000 in
set_option maxHeartbeats 4000000 in
theorem okl_X6_search_L50 (V : EV) {t : Nat} (n : Nat) : ∀ {h : HA} {l4 : Int32} {r : Int32} {hR : HA} , (H : X6_search_L50 t n h l4 = some (r, hR)) → WP V M_X6_search 50 [(0, .ref t), (4, .int l4)] [] h 0 0 (some (.int r)) hR := by
  induction n with
  | zero =>
    intro h l4 r hR H
    rw [X6_search_L50] at H
    cases H
  | succ n ih =>
    intro h l4 r hR H
    rw [X6_search_L50] at H
    refine WP.iload d_X6_search_50 1 rfl ?_
    refine WP.bipush d_X6_search_52 kb_60 ?_
    rcases oj H with ⟨hc, H⟩ | ⟨hc, H⟩
    · refine WP.icmp_ge_t d_X6_search_54 hc ?_
      refine WP.aload_n d_X6_search_57 0 rfl ?_
      refine WP.iload d_X6_search_58 1 rfl ?_
      obtain ⟨h13, e12, H⟩ := ob H
      refine WP.cV (c := 7) (As := [.int l4]) (st := []) (st9 := []) (cl9 := 0) (sl9 := 0) d_X6_search_60 (ok_X6_spread V e12) tv_X6_spread ti_X6_spread ts_X6_spread lk_X6_44 r_X6_search_X6_spread kc_X6_spread (kd_X6_spread e12) rfl rfl (Nat.le_of_ble_eq_true rfl) rfl rfl rfl ?_
      refine WP.aload_n d_X6_search_63 0 rfl ?_
      obtain ⟨x14, ex14, H⟩ := ob H
      refine WP.fR d_X6_search_64 gf_X6_11 (fun _ => rfl) ex14 ?_
      refine WP.iload d_X6_search_67 1 rfl ?_
      refine WP.iconst d_X6_search_69 ki_1 ?_
      refine WP.iadd d_X6_search_70 ?_
      refine WP.bipush d_X6_search_71 kb_64 ?_
      refine WP.imul d_X6_search_73 ?_
      refine WP.aload_n d_X6_search_74 0 rfl ?_
      obtain ⟨x15, ex15, H⟩ := ob H
      refine WP.fI d_X6_search_75 gf_X6_31 (fun _ => rfl) ex15 ?_
      refine WP.iadd d_X6_search_78 ?_
      obtain ⟨x16, ex16, H⟩ := ob H
      refine WP.lald d_X6_search_79 ex16 ?_
      refine WP.lconst d_X6_search_80 kl_0 ?_
      rcases oj H with ⟨hc, H⟩ | ⟨hc, H⟩
      · refine WP.lcmp_eq_t d_X6_search_81 d_X6_search_82 hc ?_
        refine WP.iinc (lv9 := [(4, .int (l4 + 1)), (0, .ref t)]) d_X6_search_98 1 rfl ki_1 (Nat.le_of_ble_eq_true rfl) rfl ?_
        refine WP.goto d_X6_search_101 ?_
        refine WP.sub [1, 0] (lv' := [(0, .ref t), (4, .int (l4 + 1))]) rfl ?_
        exact ih H
      · refine WP.lcmp_eq_f d_X6_search_81 d_X6_search_82 hc ?_
        refine WP.aload_n d_X6_search_85 0 rfl ?_
        refine WP.iload d_X6_search_86 1 rfl ?_
        refine WP.iconst d_X6_search_88 ki_1 ?_
        refine WP.iadd d_X6_search_89 ?_
        obtain ⟨h18, e17, H⟩ := ob H
        refine WP.cV (c := 7) (As := [.int (l4 + 1)]) (st := []) (st9 := []) (cl9 := 0) (sl9 := 0) d_X6_search_90 (ok_X6_prune V e17) tv_X6_prune ti_X6_prune ts_X6_prune lk_X6_47 r_X6_search_X6_prune kc_X6_prune (kd_X6_prune e17) rfl rfl (Nat.le_of_ble_eq_true rfl) rfl rfl rfl ?_
        refine WP.iload d_X6_search_93 1 rfl ?_
        refine WP.iconst d_X6_search_95 ki_1 ?_
        refine WP.iadd d_X6_search_96 ?_
        cases H
        exact WP.ireturn d_X6_search_97 rfl rfl (Nat.le_of_ble_eq_true rfl) (Nat.le_of_ble_eq_true rfl)
    · refine WP.icmp_ge_f d_X6_search_54 hc ?_
      refine WP.iconst d_X6_search_104 ki_m1 ?_
      cases H
      exact WP.ireturn d_X6_search_105 rfl rfl (Nat.le_of_ble_eq_true rfl) (Nat.le_of_ble_eq_true rfl)

set_option maxRecDepth 20000 in
set_option maxHeartbeats 4000000 in
theorem ok_X6_search (V : EV) {h : HA} {t : Nat} {l1 : Nat} {l2 : Int32} {l3 : Int32} {r : Int32} {hR : HA} (H : X6_search h t l1 l2 l3 = some (r, hR)) : MG V M_X6_search [.ref t, .ref l1, .int l2, .int l3] h (some (.int r)) hR := by
  unfold X6_search at H
  obtain ⟨_, H⟩ := oc H
  refine MG.of (lv0 := [(0, .ref t), (1, .ref l1), (2, .int l2), (3, .int l3)]) pn_X6 rfl (Nat.le_of_ble_eq_true rfl) ?_
  refine WP.aload_n d_X6_search_0 0 rfl ?_
  refine WP.aload_n d_X6_search_1 1 rfl ?_
  obtain ⟨h1, eh1, H⟩ := ob H
  refine WP.uR d_X6_search_2 gf_X6_18 rfl (x := (some l1)) (fun _ => rfl) rfl rfl eh1 ?_
  refine WP.aload_n d_X6_search_5 0 rfl ?_
  refine WP.iload_n d_X6_search_6 2 rfl ?_
  obtain ⟨h2, eh2, H⟩ := ob H
  refine WP.uI d_X6_search_7 gf_X6_22 rfl (Or.inl rfl) rfl rfl eh2 ?_
  refine WP.aload_n d_X6_search_10 0 rfl ?_
  refine WP.iconst d_X6_search_11 ki_1 ?_
  refine WP.aload_n d_X6_search_12 1 rfl ?_
  obtain ⟨x3, ex3, H⟩ := ob H
  refine WP.fI d_X6_search_13 gf_X6_26 (fun _ => rfl) ex3 ?_
  refine WP.ishl d_X6_search_16 ?_
  refine WP.iconst d_X6_search_17 ki_1 ?_
  refine WP.isub d_X6_search_18 ?_
  obtain ⟨h4, eh4, H⟩ := ob H
  refine WP.uI d_X6_search_19 gf_X6_31 rfl (Or.inl rfl) rfl rfl eh4 ?_
  refine WP.aload_n d_X6_search_22 0 rfl ?_
  refine WP.iload_n d_X6_search_23 3 rfl ?_
  obtain ⟨h6, e5, H⟩ := ob H
  refine WP.cV (c := 7) (As := [.int l3]) (st := []) (st9 := []) (cl9 := 0) (sl9 := 0) d_X6_search_24 (ok_X6_layBands V e5) tv_X6_layBands ti_X6_layBands ts_X6_layBands lk_X6_34 r_X6_search_X6_layBands kc_X6_layBands (kd_X6_layBands e5) rfl rfl (Nat.le_of_ble_eq_true rfl) rfl rfl rfl ?_
  refine WP.aload_n d_X6_search_27 0 rfl ?_
  obtain ⟨x7, ex7, H⟩ := ob H
  refine WP.fR d_X6_search_28 gf_X6_11 (fun _ => rfl) ex7 ?_
  refine WP.iconst d_X6_search_31 ki_0 ?_
  refine WP.bipush d_X6_search_32 kb_64 ?_
  refine WP.lconst d_X6_search_34 kl_0 ?_
  obtain ⟨h9, e8, H⟩ := ob H
  refine WP.cS (As := [.ref x7, .int 0, .int 64, .long 0]) (st := []) (st9 := []) (cl9 := 0) (sl9 := 0) d_X6_search_35 (ok_J7_fill_bad5a V e8) tv_J7_fill_bad5a ts_J7_fill_bad5a lk_X6_38 r_X6_search_J7_fill_bad5a rfl rfl (Nat.le_of_ble_eq_true rfl) rfl rfl rfl ?_
  refine WP.aload_n d_X6_search_38 0 rfl ?_
  obtain ⟨x10, ex10, H⟩ := ob H
  refine WP.fR d_X6_search_39 gf_X6_11 (fun _ => rfl) ex10 ?_
  refine WP.iconst d_X6_search_42 ki_0 ?_
  refine WP.lconst d_X6_search_43 kl_1 ?_
  refine WP.iload_n d_X6_search_44 2 rfl ?_
  refine WP.lshl d_X6_search_45 ?_
  obtain ⟨h11, eh11, H⟩ := ob H
  refine WP.las d_X6_search_46 eh11 ?_
  refine WP.iconst d_X6_search_47 ki_0 ?_
  refine WP.istore (lv9 := [(4, .int 0), (0, .ref t), (1, .ref l1), (2, .int l2), (3, .int l3)]) d_X6_search_48 (Nat.le_of_ble_eq_true rfl) rfl ?_
  refine WP.sub [1, 0] (lv' := [(0, .ref t), (4, .int 0)]) rfl ?_
  exact okl_X6_search_L50 V _ H

set_option maxRecDepth 20000 in
set_option maxHeartbeats 4000000 in
theorem okl_X6_earsOn_L2 (V : EV) {h : HA} {t : Nat} {l1 : Int32} {l2 : Int32} (n : Nat) : ∀ {l3 : Int32} {r : Int32} , (H : X6_earsOn_L2 h t l1 l2 n l3 = some r) → WP V M_X6_earsOn 2 [(0, .ref t), (1, .int l1), (2, .int l2), (3, .int l3)] [] h 0 0 (some (.int r)) h := by
  induction n with
  | zero =>
    intro l3 r H
    rw [X6_earsOn_L2] at H
    cases H
  | succ n ih =>
    intro l3 r H
    rw [X6_earsOn_L2] at H
    refine WP.iload_n d_X6_earsOn_2 3 rfl ?_
    refine WP.aload_n d_X6_earsOn_3 0 rfl ?_
    obtain ⟨x1, ex1, H⟩ := ob H
    refine WP.fI d_X6_earsOn_4 gf_X6_31 (fun _ => rfl) ex1 ?_
    rcases oj H with ⟨hc, H⟩ | ⟨hc, H⟩
    · refine WP.icmp_gt_t d_X6_earsOn_7 hc ?_
      refine WP.iconst d_X6_earsOn_31 ki_0 ?_
      cases H
      exact WP.ireturn d_X6_earsOn_32 rfl rfl (Nat.le_of_ble_eq_true rfl) (Nat.le_of_ble_eq_true rfl)
    · refine WP.icmp_gt_f d_X6_earsOn_7 hc ?_
      refine WP.aload_n d_X6_earsOn_10 0 rfl ?_
      refine WP.iload_n d_X6_earsOn_11 2 rfl ?_
      refine WP.iload_n d_X6_earsOn_12 3 rfl ?_
      obtain ⟨x3, e2, H⟩ := ob H
      refine WP.cV (c := 7) (As := [.int l2, .int l3]) (st := []) (st9 := [.long x3]) (cl9 := 0) (sl9 := 0) d_X6_earsOn_13 (ok_X6_band V e2) tv_X6_band ti_X6_band ts_X6_band lk_X6_65 r_X6_earsOn_X6_band kc_X6_band (kd_X6_band e2) rfl rfl (Nat.le_of_ble_eq_true rfl) rfl rfl rfl ?_
      refine WP.iload_n d_X6_earsOn_16 1 rfl ?_
      obtain ⟨x5, e4, H⟩ := ob H
      refine WP.cSN (As := [.long x3, .int l1]) (st := []) (st9 := [.int x5]) (cl9 := 0) (sl9 := 0) d_X6_earsOn_17 (ok_X7_has V (h := h) e4) tv_X7_has ts_X7_has ln_X6_83 r_X6_earsOn_X7_has rfl rfl (Nat.le_of_ble_eq_true rfl) rfl rfl rfl ?_
      rcases oj H with ⟨hc, H⟩ | ⟨hc, H⟩
      · refine WP.if_eq_t d_X6_earsOn_20 hc ?_
        refine WP.iinc (lv9 := [(3, .int (l3 + 1)), (0, .ref t), (1, .int l1), (2, .int l2)]) d_X6_earsOn_25 3 rfl ki_1 (Nat.le_of_ble_eq_true rfl) rfl ?_
        refine WP.goto d_X6_earsOn_28 ?_
        refine WP.sub [1, 2, 3, 0] (lv' := [(0, .ref t), (1, .int l1), (2, .int l2), (3, .int (l3 + 1))]) rfl ?_
        exact ih H
      · refine WP.if_eq_f d_X6_earsOn_20 hc ?_
        refine WP.iload_n d_X6_earsOn_23 3 rfl ?_
        cases H
        exact WP.ireturn d_X6_earsOn_24 rfl rfl (Nat.le_of_ble_eq_true rfl) (Nat.le_of_ble_eq_true rfl)

set_option maxRecDepth 20000 in
set_option maxHeartbeats 4000000 in
theorem ok_X6_earsOn (V : EV) {h : HA} {t : Nat} {l1 : Int32} {l2 : Int32} {r : Int32} (H : X6_earsOn h t l1 l2 = some r) : MG V M_X6_earsOn [.ref t, .int l1, .int l2] h (some (.int r)) h := by
  unfold X6_earsOn at H
  obtain ⟨_, H⟩ := oc H
  refine MG.of (lv0 := [(0, .ref t), (1, .int l1), (2, .int l2)]) pn_X6 rfl (Nat.le_of_ble_eq_true rfl) ?_
  refine WP.iconst d_X6_earsOn_0 ki_0 ?_
  refine WP.istore_n (lv9 := [(3, .int 0), (0, .ref t), (1, .int l1), (2, .int l2)]) d_X6_earsOn_1 (Nat.le_of_ble_eq_true rfl) rfl ?_
  refine WP.sub [1, 2, 3, 0] (lv' := [(0, .ref t), (1, .int l1), (2, .int l2), (3, .int 0)]) rfl ?_
  exact okl_X6_earsOn_L2 V _ H

set_option maxRecDepth 20000 in
set_option maxHeartbeats 4000000 in
theorem okl_X6_firstAct_L11 (V : EV) {vF : Option Value} {hF : HA} {h : HA} {t : Nat} {l2 : Int32} {l3 : Int32} {l4 : Int32} {l5 : Int32} (n : Nat) : ∀ {l6 : Int32} {R : (Int32 ⊕ Unit)}, (H : X6_firstAct_L11 h t l2 l3 l5 n l6 = some R) → (Kr : ∀ p : Int32, R = .inl p → vF = (some (.int p)) ∧ hF = h) → (K : ∀ (_ : Unit), R = .inr () → WP V M_X6_firstAct 51 [(0, .ref t), (2, .int l2), (3, .int l3), (4, .int l4), (5, .int l5)] [] h 0 0 vF hF) → WP V M_X6_firstAct 11 [(0, .ref t), (2, .int l2), (3, .int l3), (4, .int l4), (5, .int l5), (6, .int l6)] [] h 0 0 vF hF := by
  induction n with
  | zero =>
    intro l6 R H Kr K
    rw [X6_firstAct_L11] at H
    cases H
  | succ n ih =>
    intro l6 R H Kr K
    rw [X6_firstAct_L11] at H
    refine WP.iload d_X6_firstAct_11 5 rfl ?_
    refine WP.iconst d_X6_firstAct_13 ki_4 ?_
    rcases oj H with ⟨hc, H⟩ | ⟨hc, H⟩
    · refine WP.icmp_ge_t d_X6_firstAct_14 hc ?_
      refine WP.aload_n d_X6_firstAct_17 0 rfl ?_
      obtain ⟨x1, ex1, H⟩ := ob H
      refine WP.fR d_X6_firstAct_18 gf_X6_18 (fun _ => rfl) ex1 ?_
      refine WP.iload_n d_X6_firstAct_21 1 rfl ?_
      refine WP.iload d_X6_firstAct_22 5 rfl ?_
      obtain ⟨x3, e2, H⟩ := ob H
      refine WP.cV (c := 1) (As := [.int l2, .int l6]) (st := []) (st9 := [.long x3]) (cl9 := 0) (sl9 := 0) d_X6_firstAct_24 (ok_X0_beside V e2) tv_X0_beside ti_X0_beside ts_X0_beside lk_X6_87 r_X6_firstAct_X0_beside kc_X0_beside (kd_X0_beside e2) rfl rfl (Nat.le_of_ble_eq_true rfl) rfl rfl rfl ?_
      refine WP.aload_n d_X6_firstAct_27 0 rfl ?_
      obtain ⟨x4, ex4, H⟩ := ob H
      refine WP.fR d_X6_firstAct_28 gf_X6_11 (fun _ => rfl) ex4 ?_
      refine WP.iload d_X6_firstAct_31 4 rfl ?_
      refine WP.iload_n d_X6_firstAct_33 2 rfl ?_
      refine WP.iadd d_X6_firstAct_34 ?_
      obtain ⟨x5, ex5, H⟩ := ob H
      refine WP.lald d_X6_firstAct_35 ex5 ?_
      refine WP.land d_X6_firstAct_36 ?_
      refine WP.lconst d_X6_firstAct_37 kl_0 ?_
      rcases oj H with ⟨hc, H⟩ | ⟨hc, H⟩
      · refine WP.lcmp_eq_t d_X6_firstAct_38 d_X6_firstAct_39 hc ?_
        refine WP.iinc (lv9 := [(6, .int (l6 + 1)), (0, .ref t), (2, .int l2), (3, .int l3), (4, .int l4), (5, .int l5)]) d_X6_firstAct_45 5 rfl ki_1 (Nat.le_of_ble_eq_true rfl) rfl ?_
        refine WP.goto d_X6_firstAct_48 ?_
        refine WP.sub [1, 2, 3, 4, 5, 0] (lv' := [(0, .ref t), (2, .int l2), (3, .int l3), (4, .int l4), (5, .int l5), (6, .int (l6 + 1))]) rfl ?_
        exact ih H Kr K
      · refine WP.lcmp_eq_f d_X6_firstAct_38 d_X6_firstAct_39 hc ?_
        refine WP.iload d_X6_firstAct_42 5 rfl ?_
        cases H
        obtain ⟨rfl, rfl⟩ := Kr _ rfl
        exact WP.ireturn d_X6_firstAct_44 rfl rfl (Nat.le_of_ble_eq_true rfl) (Nat.le_of_ble_eq_true rfl)
    · refine WP.icmp_ge_f d_X6_firstAct_14 hc ?_
      cases H
      exact WP.sub [0, 1, 2, 3, 4] rfl (K () rfl)

set_option maxRecDepth 20000 in
set_option maxHeartbeats 4000000 in
theorem ok_X6_firstAct (V : EV) {h : HA} {t : Nat} {l1 : Int32} {l2 : Int32} {l3 : Int32} {l4 : Int32} {r : Int32} (H : X6_firstAct h t l1 l2 l3 l4 = some r) : MG V M_X6_firstAct [.ref t, .int l1, .int l2, .int l3, .int l4] h (some (.int r)) h := by
  unfold X6_firstAct at H
  obtain ⟨_, H⟩ := oc H
  refine MG.of (lv0 := [(0, .ref t), (1, .int l1), (2, .int l2), (3, .int l3), (4, .int l4)]) pn_X6 rfl (Nat.le_of_ble_eq_true rfl) ?_
  refine WP.iload_n d_X6_firstAct_0 1 rfl ?_
  refine WP.iconst d_X6_firstAct_1 ki_1 ?_
  refine WP.iadd d_X6_firstAct_2 ?_
  refine WP.bipush d_X6_firstAct_3 kb_64 ?_
  refine WP.imul d_X6_firstAct_5 ?_
  refine WP.istore (lv9 := [(5, .int ((l1 + 1) * 64)), (0, .ref t), (1, .int l1), (2, .int l2), (3, .int l3), (4, .int l4)]) d_X6_firstAct_6 (Nat.le_of_ble_eq_true rfl) rfl ?_
  refine WP.iconst d_X6_firstAct_8 ki_0 ?_
  refine WP.istore (lv9 := [(6, .int 0), (5, .int ((l1 + 1) * 64)), (0, .ref t), (1, .int l1), (2, .int l2), (3, .int l3), (4, .int l4)]) d_X6_firstAct_9 (Nat.le_of_ble_eq_true rfl) rfl ?_
  obtain ⟨s12, e6, H⟩ := ob H
  refine WP.sub [2, 4, 5, 6, 1, 0] (lv' := [(0, .ref t), (2, .int l2), (3, .int l3), (4, .int l4), (5, .int ((l1 + 1) * 64)), (6, .int 0)]) rfl ?_
  refine okl_X6_firstAct_L11 V _ e6 (fun r11 hp => ?_) (fun _ hp => ?_)
  · subst hp
    dsimp only at H
    cases H
    exact ⟨rfl, rfl⟩
  · subst hp
    dsimp only at H
    refine WP.aload_n d_X6_firstAct_51 0 rfl ?_
    obtain ⟨x7, ex7, H⟩ := ob H
    refine WP.fR d_X6_firstAct_52 gf_X6_11 (fun _ => rfl) ex7 ?_
    refine WP.iload d_X6_firstAct_55 4 rfl ?_
    refine WP.iload_n d_X6_firstAct_57 2 rfl ?_
    refine WP.iload d_X6_firstAct_58 3 rfl ?_
    refine WP.ior d_X6_firstAct_60 ?_
    refine WP.iadd d_X6_firstAct_61 ?_
    obtain ⟨x8, ex8, H⟩ := ob H
    refine WP.lald d_X6_firstAct_62 ex8 ?_
    refine WP.iload_n d_X6_firstAct_63 1 rfl ?_
    obtain ⟨x10, e9, H⟩ := ob H
    refine WP.cSN (As := [.long x8, .int l2]) (st := []) (st9 := [.int x10]) (cl9 := 0) (sl9 := 0) d_X6_firstAct_64 (ok_X7_has V (h := h) e9) tv_X7_has ts_X7_has ln_X6_83 r_X6_firstAct_X7_has rfl rfl (Nat.le_of_ble_eq_true rfl) rfl rfl rfl ?_
    rcases oj H with ⟨hc, H⟩ | ⟨hc, H⟩
    · refine WP.if_eq_t d_X6_firstAct_67 hc ?_
      refine WP.iconst d_X6_firstAct_74 ki_5 ?_
      cases H
      exact WP.ireturn d_X6_firstAct_75 rfl rfl (Nat.le_of_ble_eq_true rfl) (Nat.le_of_ble_eq_true rfl)
    · refine WP.if_eq_f d_X6_firstAct_67 hc ?_
      refine WP.iconst d_X6_firstAct_70 ki_4 ?_
      refine WP.goto d_X6_firstAct_71 ?_
      cases H
      exact WP.ireturn d_X6_firstAct_75 rfl rfl (Nat.le_of_ble_eq_true rfl) (Nat.le_of_ble_eq_true rfl)

set_option maxRecDepth 20000 in
set_option maxHeartbeats 4000000 in
theorem okl_X6_actAt_L13 (V : EV) {vF : Option Value} {hF : HA} {h : HA} {t : Nat} {l1 : Int32} (n : Nat) : ∀ {l2 : Int32} {l3 : Int32} {l4 : Int32} {l5 : Int32} {r4 : Int32}, (H : X6_actAt_L13 h t l1 n l2 l3 l4 l5 = some r4) → (K : WP V M_X6_actAt 77 [(4, .int r4)] [] h 0 0 vF hF) → WP V M_X6_actAt 13 [(0, .ref t), (1, .int l1), (2, .int l2), (3, .int l3), (4, .int l4), (5, .int l5)] [] h 0 0 vF hF := by
  induction n with
  | zero =>
    intro l2 l3 l4 l5 r4 H K
    rw [X6_actAt_L13] at H
    cases H
  | succ n ih =>
    intro l2 l3 l4 l5 r4 H K
    rw [X6_actAt_L13] at H
    refine WP.iload d_X6_actAt_13 5 rfl ?_
    refine WP.iload_n d_X6_actAt_15 1 rfl ?_
    rcases oj H with ⟨hc, H⟩ | ⟨hc, H⟩
    · refine WP.icmp_gt_t d_X6_actAt_16 hc ?_
      cases H
      exact WP.sub [4] rfl K
    · refine WP.icmp_gt_f d_X6_actAt_16 hc ?_
      refine WP.aload_n d_X6_actAt_19 0 rfl ?_
      refine WP.iload_n d_X6_actAt_20 2 rfl ?_
      refine WP.iload d_X6_actAt_21 5 rfl ?_
      obtain ⟨x3, e2, H⟩ := ob H
      refine WP.cV (c := 7) (As := [.int l2, .int l5]) (st := []) (st9 := [.int x3]) (cl9 := 0) (sl9 := 0) d_X6_actAt_23 (ok_X6_earsOn V e2) tv_X6_earsOn ti_X6_earsOn ts_X6_earsOn lk_X6_72 r_X6_actAt_X6_earsOn kc_X6_earsOn (kd_X6_earsOn e2) rfl rfl (Nat.le_of_ble_eq_true rfl) rfl rfl rfl ?_
      refine WP.istore (lv9 := [(6, .int x3), (0, .ref t), (1, .int l1), (2, .int l2), (3, .int l3), (4, .int l4), (5, .int l5)]) d_X6_actAt_26 (Nat.le_of_ble_eq_true rfl) rfl ?_
      refine WP.aload_n d_X6_actAt_28 1 rfl ?_
      refine WP.iload d_X6_actAt_29 6 rfl ?_
      refine WP.iload_n d_X6_actAt_31 3 rfl ?_
      refine WP.iload_n d_X6_actAt_32 4 rfl ?_
      refine WP.iload d_X6_actAt_33 0 rfl ?_
      obtain ⟨x5, e4, H⟩ := ob H
      refine WP.cV (c := 7) (As := [.int l5, .int l2, .int l3, .int x3]) (st := []) (st9 := [.int x5]) (cl9 := 0) (sl9 := 0) d_X6_actAt_35 (ok_X6_firstAct V e4) tv_X6_firstAct ti_X6_firstAct ts_X6_firstAct lk_X6_76 r_X6_actAt_X6_firstAct kc_X6_firstAct (kd_X6_firstAct e4) rfl rfl (Nat.le_of_ble_eq_true rfl) rfl rfl rfl ?_
      refine WP.istore (lv9 := [(4, .int x5), (6, .int x3), (0, .ref t), (1, .int l1), (2, .int l2), (3, .int l3), (5, .int l5)]) d_X6_actAt_38 (Nat.le_of_ble_eq_true rfl) rfl ?_
      refine WP.iload d_X6_actAt_40 0 rfl ?_
      refine WP.iconst d_X6_actAt_42 ki_4 ?_
      rcases oj H with ⟨hc, H⟩ | ⟨hc, H⟩
      · refine WP.icmp_ge_t d_X6_actAt_43 hc ?_
        refine WP.aload_n d_X6_actAt_46 2 rfl ?_
        obtain ⟨x6, ex6, H⟩ := ob H
        refine WP.fR d_X6_actAt_47 gf_X6_18 (fun _ => rfl) ex6 ?_
        refine WP.iload_n d_X6_actAt_50 4 rfl ?_
        refine WP.iload d_X6_actAt_51 0 rfl ?_
        obtain ⟨x8, e7, H⟩ := ob H
        refine WP.cV (c := 1) (As := [.int l2, .int x5]) (st := []) (st9 := [.int x8]) (cl9 := 0) (sl9 := 0) d_X6_actAt_53 (ok_X0_stepTo V e7) tv_X0_stepTo ti_X0_stepTo ts_X0_stepTo lk_X6_80 r_X6_actAt_X0_stepTo kc_X0_stepTo (kd_X0_stepTo e7) rfl rfl (Nat.le_of_ble_eq_true rfl) rfl rfl rfl ?_
        refine WP.istore_n (lv9 := [(2, .int x8), (4, .int x5), (6, .int x3), (0, .ref t), (1, .int l1), (3, .int l3), (5, .int l5)]) d_X6_actAt_56 (Nat.le_of_ble_eq_true rfl) rfl ?_
        refine WP.goto d_X6_actAt_57 ?_
        refine WP.iinc (lv9 := [(5, .int (l5 + 1)), (2, .int x8), (4, .int x5), (6, .int x3), (0, .ref t), (1, .int l1), (3, .int l3)]) d_X6_actAt_71 6 rfl ki_1 (Nat.le_of_ble_eq_true rfl) rfl ?_
        refine WP.goto d_X6_actAt_74 ?_
        refine WP.sub [4, 5, 1, 6, 2, 0] (lv' := [(0, .ref t), (1, .int l1), (2, .int x8), (3, .int l3), (4, .int x5), (5, .int (l5 + 1))]) rfl ?_
        exact ih H K
      · refine WP.icmp_ge_f d_X6_actAt_43 hc ?_
        refine WP.iload d_X6_actAt_60 0 rfl ?_
        refine WP.iconst d_X6_actAt_62 ki_4 ?_
        rcases oj H with ⟨hc, H⟩ | ⟨hc, H⟩
        · refine WP.icmp_ne_t d_X6_actAt_63 hc ?_
          refine WP.iload_n d_X6_actAt_66 5 rfl ?_
          refine WP.iload d_X6_actAt_67 1 rfl ?_
          refine WP.ior d_X6_actAt_69 ?_
          refine WP.istore_n (lv9 := [(3, .int (l3 ||| x3)), (4, .int x5), (6, .int x3), (0, .ref t), (1, .int l1), (2, .int l2), (5, .int l5)]) d_X6_actAt_70 (Nat.le_of_ble_eq_true rfl) rfl ?_
          refine WP.iinc (lv9 := [(5, .int (l5 + 1)), (3, .int (l3 ||| x3)), (4, .int x5), (6, .int x3), (0, .ref t), (1, .int l1), (2, .int l2)]) d_X6_actAt_71 6 rfl ki_1 (Nat.le_of_ble_eq_true rfl) rfl ?_
          refine WP.goto d_X6_actAt_74 ?_
          refine WP.sub [4, 5, 6, 1, 2, 0] (lv' := [(0, .ref t), (1, .int l1), (2, .int l2), (3, .int (l3 ||| x3)), (4, .int x5), (5, .int (l5 + 1))]) rfl ?_
          exact ih H K
        · refine WP.icmp_ne_f d_X6_actAt_63 hc ?_
          refine WP.iinc (lv9 := [(5, .int (l5 + 1)), (4, .int x5), (6, .int x3), (0, .ref t), (1, .int l1), (2, .int l2), (3, .int l3)]) d_X6_actAt_71 6 rfl ki_1 (Nat.le_of_ble_eq_true rfl) rfl ?_
          refine WP.goto d_X6_actAt_74 ?_
          refine WP.sub [3, 4, 5, 6, 1, 0] (lv' := [(0, .ref t), (1, .int l1), (2, .int l2), (3, .int l3), (4, .int x5), (5, .int (l5 + 1))]) rfl ?_
          exact ih H K

set_option maxRecDepth 20000 in
set_option maxHeartbeats 4000000 in
theorem ok_X6_actAt (V : EV) {h : HA} {t : Nat} {l1 : Int32} {r : Int32} (H : X6_actAt h t l1 = some r) : MG V M_X6_actAt [.ref t, .int l1] h (some (.int r)) h := by
  unfold X6_actAt at H
  obtain ⟨_, H⟩ := oc H
  refine MG.of (lv0 := [(0, .ref t), (1, .int l1)]) pn_X6 rfl (Nat.le_of_ble_eq_true rfl) ?_
  refine WP.aload_n d_X6_actAt_0 0 rfl ?_
  obtain ⟨x1, ex1, H⟩ := ob H
  refine WP.fI d_X6_actAt_1 gf_X6_22 (fun _ => rfl) ex1 ?_
  refine WP.istore_n (lv9 := [(2, .int x1), (0, .ref t), (1, .int l1)]) d_X6_actAt_4 (Nat.le_of_ble_eq_true rfl) rfl ?_
  refine WP.iconst d_X6_actAt_5 ki_0 ?_
  refine WP.istore_n (lv9 := [(3, .int 0), (2, .int x1), (0, .ref t), (1, .int l1)]) d_X6_actAt_6 (Nat.le_of_ble_eq_true rfl) rfl ?_
  refine WP.iconst d_X6_actAt_7 ki_5 ?_
  refine WP.istore (lv9 := [(4, .int 5), (3, .int 0), (2, .int x1), (0, .ref t), (1, .int l1)]) d_X6_actAt_8 (Nat.le_of_ble_eq_true rfl) rfl ?_
  refine WP.iconst d_X6_actAt_10 ki_0 ?_
  refine WP.istore (lv9 := [(5, .int 0), (4, .int 5), (3, .int 0), (2, .int x1), (0, .ref t), (1, .int l1)]) d_X6_actAt_11 (Nat.le_of_ble_eq_true rfl) rfl ?_
  obtain ⟨y10, e9, H⟩ := ob H
  refine WP.sub [4, 5, 3, 2, 1, 0] (lv' := [(0, .ref t), (1, .int l1), (2, .int x1), (3, .int 0), (4, .int 5), (5, .int 0)]) rfl ?_
  refine okl_X6_actAt_L13 V _ e9 ?_
  refine WP.iload d_X6_actAt_77 0 rfl ?_
  cases H
  exact WP.ireturn d_X6_actAt_79 rfl rfl (Nat.le_of_ble_eq_true rfl) (Nat.le_of_ble_eq_true rfl)
