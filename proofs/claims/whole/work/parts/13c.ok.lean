set_option maxRecDepth 20000 in
set_option maxHeartbeats 4000000 in
theorem ok_X7_init (V : EV) {h : HA} {t : Nat} {hR : HA} (H : X7_init h t = some hR) : MG V M_X7_init [.ref t] h none hR := by
  unfold X7_init at H
  obtain ⟨_, H⟩ := oc H
  refine MG.of (lv0 := [(0, .ref t)]) pn_X7 rfl (Nat.le_of_ble_eq_true rfl) ?_
  refine WP.aload_n d_X7_init_0 0 rfl ?_
  refine WP.objInit d_X7_init_1 lk_X7_1 w_oi_inst w_oi_code (Nat.le_of_ble_eq_true rfl) (Nat.le_of_ble_eq_true rfl) ?_
  refine WP.aload_n d_X7_init_4 0 rfl ?_
  obtain ⟨h1, eh1, H⟩ := ol H
  refine WP.new (c := 6) d_X7_init_5 (Nat.le_of_ble_eq_true rfl) (Nat.le_of_ble_eq_true rfl) wc_X7_7 wn_6 wz_X5 (Nat.le_of_ble_eq_true rfl) (Nat.le_of_ble_eq_true rfl) (by intro k hk; exact newd_6 k hk) ?_
  rw [eh1]
  refine WP.cs (cl9 := 1) (sl9 := 7) rfl rfl ?_
  refine WP.dup d_X7_init_8 rfl ?_
  obtain ⟨h3, e2, H⟩ := ob H
  refine WP.cI (As := []) (st := [.ref (hz h), .ref t]) (cl9 := 47) (sl9 := 2667) d_X7_init_9 (ok_X5_init V e2) tv_X5_init ti_X5_init rfl rfl lk_X7_9 ⟨Nat.le_of_ble_eq_true rfl, Nat.le_of_ble_eq_true rfl, Nat.le_of_ble_eq_true rfl, Nat.le_of_ble_eq_true rfl⟩ rfl rfl (Nat.le_of_ble_eq_true rfl) rfl rfl ?_
  obtain ⟨h4, eh4, H⟩ := ob H
  refine WP.vR d_X7_init_12 gf_X7_10 rfl rfl rfl (x := (some (hz h))) (fun _ => rfl) rfl rfl eh4 ?_
  refine WP.aload_n d_X7_init_15 0 rfl ?_
  refine WP.iconst d_X7_init_16 ki_3 ?_
  obtain ⟨h5, eh5, H⟩ := ob H
  refine WP.anew (c := 24) d_X7_init_17 (by decide) rfl (by decide) wc_X7_7 eh5 (Nat.le_of_ble_eq_true rfl) (Nat.le_of_ble_eq_true rfl) (Nat.le_of_ble_eq_true rfl) fc_24 ?_
  refine WP.cs (cl9 := 48) (sl9 := 2670) rfl rfl ?_
  obtain ⟨h6, eh6, H⟩ := ob H
  refine WP.vR d_X7_init_20 gf_X7_16 rfl rfl rfl (x := (some (hz h4))) (fun _ => rfl) rfl rfl eh6 ?_
  refine WP.aload_n d_X7_init_23 0 rfl ?_
  obtain ⟨h7, eh7, H⟩ := ol H
  refine WP.new (c := 4) d_X7_init_24 (Nat.le_of_ble_eq_true rfl) (Nat.le_of_ble_eq_true rfl) wc_X7_20 wn_4 wz_X3 (Nat.le_of_ble_eq_true rfl) (Nat.le_of_ble_eq_true rfl) (by intro k hk; exact newd_4 k hk) ?_
  rw [eh7]
  refine WP.cs (cl9 := 49) (sl9 := 2683) rfl rfl ?_
  refine WP.dup d_X7_init_27 rfl ?_
  obtain ⟨h9, e8, H⟩ := ob H
  refine WP.cI (As := []) (st := [.ref (hz h6), .ref t]) (cl9 := 65) (sl9 := 3373) d_X7_init_28 (ok_X3_init V e8) tv_X3_init ti_X3_init rfl rfl lk_X7_22 ⟨Nat.le_of_ble_eq_true rfl, Nat.le_of_ble_eq_true rfl, Nat.le_of_ble_eq_true rfl, Nat.le_of_ble_eq_true rfl⟩ rfl rfl (Nat.le_of_ble_eq_true rfl) rfl rfl ?_
  obtain ⟨h10, eh10, H⟩ := ob H
  refine WP.vR d_X7_init_31 gf_X7_23 rfl rfl rfl (x := (some (hz h6))) (fun _ => rfl) rfl rfl eh10 ?_
  refine WP.aload_n d_X7_init_34 0 rfl ?_
  obtain ⟨h11, eh11, H⟩ := ol H
  refine WP.new (c := 2) d_X7_init_35 (Nat.le_of_ble_eq_true rfl) (Nat.le_of_ble_eq_true rfl) wc_X7_27 wn_2 wz_X1 (Nat.le_of_ble_eq_true rfl) (Nat.le_of_ble_eq_true rfl) (by intro k hk; exact newd_2 k hk) ?_
  rw [eh11]
  refine WP.cs (cl9 := 66) (sl9 := 3382) rfl rfl ?_
  refine WP.dup d_X7_init_38 rfl ?_
  obtain ⟨h13, e12, H⟩ := ob H
  refine WP.cIN (As := []) (st := [.ref (hz h10), .ref t]) (cl9 := 71) (sl9 := 3456) d_X7_init_39 (ok_X1_init V e12) tv_X1_init ti_X1_init rfl rfl ln_X7_29 ⟨Nat.le_of_ble_eq_true rfl, Nat.le_of_ble_eq_true rfl, Nat.le_of_ble_eq_true rfl, Nat.le_of_ble_eq_true rfl⟩ rfl rfl (Nat.le_of_ble_eq_true rfl) rfl rfl ?_
  obtain ⟨h14, eh14, H⟩ := ob H
  refine WP.vR d_X7_init_42 gf_X7_30 rfl rfl rfl (x := (some (hz h10))) (fun _ => rfl) rfl rfl eh14 ?_
  refine WP.aload_n d_X7_init_45 0 rfl ?_
  obtain ⟨h15, eh15, H⟩ := ol H
  refine WP.new (c := 5) d_X7_init_46 (Nat.le_of_ble_eq_true rfl) (Nat.le_of_ble_eq_true rfl) wc_X7_34 wn_5 wz_X4 (Nat.le_of_ble_eq_true rfl) (Nat.le_of_ble_eq_true rfl) (by intro k hk; exact newd_5 k hk) ?_
  rw [eh15]
  refine WP.cs (cl9 := 72) (sl9 := 3459) rfl rfl ?_
  refine WP.dup d_X7_init_49 rfl ?_
  obtain ⟨h17, e16, H⟩ := ob H
  refine WP.cIN (As := []) (st := [.ref (hz h14), .ref t]) (cl9 := 74) (sl9 := 3559) d_X7_init_50 (ok_X4_init V e16) tv_X4_init ti_X4_init rfl rfl ln_X7_36 ⟨Nat.le_of_ble_eq_true rfl, Nat.le_of_ble_eq_true rfl, Nat.le_of_ble_eq_true rfl, Nat.le_of_ble_eq_true rfl⟩ rfl rfl (Nat.le_of_ble_eq_true rfl) rfl rfl ?_
  obtain ⟨h18, eh18, H⟩ := ob H
  refine WP.vR d_X7_init_53 gf_X7_37 rfl rfl rfl (x := (some (hz h14))) (fun _ => rfl) rfl rfl eh18 ?_
  cases H
  exact WP.return_ d_X7_init_56 rfl (Nat.le_of_ble_eq_true rfl) (Nat.le_of_ble_eq_true rfl)

set_option maxRecDepth 20000 in
set_option maxHeartbeats 4000000 in
theorem ok_X7_feed (V : EV) {h : HA} {t : Nat} {l1 : Int32} {l2 : Int32} {l3 : Int32} {l4 : Int32} {l5 : Int32} {r : Int32} {hR : HA} (H : X7_feed h t l1 l2 l3 l4 l5 = some (r, hR)) : MG V M_X7_feed [.ref t, .int l1, .int l2, .int l3, .int l4, .int l5] h (some (.int r)) hR := by
  unfold X7_feed at H
  obtain ⟨_, H⟩ := oc H
  refine MG.of (lv0 := [(0, .ref t), (1, .int l1), (2, .int l2), (3, .int l3), (4, .int l4), (5, .int l5)]) pn_X7 rfl (Nat.le_of_ble_eq_true rfl) ?_
  refine WP.aload_n d_X7_feed_0 0 rfl ?_
  obtain ⟨x1, ex1, H⟩ := ob H
  refine WP.fR d_X7_feed_1 gf_X7_10 (fun _ => rfl) ex1 ?_
  obtain ⟨x2, ex2, H⟩ := ob H
  refine WP.fI d_X7_feed_4 gf_X7_41 (fun _ => rfl) ex2 ?_
  refine WP.bipush d_X7_feed_7 kb_20 ?_
  refine WP.iadd d_X7_feed_9 ?_
  refine WP.sipush d_X7_feed_10 ks_600 ?_
  rcases oj H with ⟨hc, H⟩ | ⟨hc, H⟩
  · refine WP.icmp_le_t d_X7_feed_13 hc ?_
    refine WP.iconst d_X7_feed_16 ki_m1 ?_
    cases H
    exact WP.ireturn d_X7_feed_17 rfl rfl (Nat.le_of_ble_eq_true rfl) (Nat.le_of_ble_eq_true rfl)
  · refine WP.icmp_le_f d_X7_feed_13 hc ?_
    refine WP.aload_n d_X7_feed_18 0 rfl ?_
    obtain ⟨x3, ex3, H⟩ := ob H
    refine WP.fR d_X7_feed_19 gf_X7_10 (fun _ => rfl) ex3 ?_
    refine WP.iload_n d_X7_feed_22 1 rfl ?_
    obtain ⟨h5, e4, H⟩ := ob H
    refine WP.cV (c := 6) (As := [.int l1]) (st := []) (st9 := []) (cl9 := 0) (sl9 := 0) d_X7_feed_23 (ok_X5_append V e4) tv_X5_append ti_X5_append ts_X5_append lk_X7_45 r_X7_feed_X5_append kc_X5_append (kd_X5_append e4) rfl rfl (Nat.le_of_ble_eq_true rfl) rfl rfl rfl ?_
    refine WP.aload_n d_X7_feed_26 0 rfl ?_
    obtain ⟨x6, ex6, H⟩ := ob H
    refine WP.fR d_X7_feed_27 gf_X7_10 (fun _ => rfl) ex6 ?_
    refine WP.iload_n d_X7_feed_30 2 rfl ?_
    obtain ⟨h8, e7, H⟩ := ob H
    refine WP.cV (c := 6) (As := [.int l2]) (st := []) (st9 := []) (cl9 := 0) (sl9 := 0) d_X7_feed_31 (ok_X5_append V e7) tv_X5_append ti_X5_append ts_X5_append lk_X7_45 r_X7_feed_X5_append kc_X5_append (kd_X5_append e7) rfl rfl (Nat.le_of_ble_eq_true rfl) rfl rfl rfl ?_
    refine WP.aload_n d_X7_feed_34 0 rfl ?_
    obtain ⟨x9, ex9, H⟩ := ob H
    refine WP.fR d_X7_feed_35 gf_X7_10 (fun _ => rfl) ex9 ?_
    refine WP.iload_n d_X7_feed_38 3 rfl ?_
    obtain ⟨h11, e10, H⟩ := ob H
    refine WP.cV (c := 6) (As := [.int l3]) (st := []) (st9 := []) (cl9 := 0) (sl9 := 0) d_X7_feed_39 (ok_X5_append V e10) tv_X5_append ti_X5_append ts_X5_append lk_X7_45 r_X7_feed_X5_append kc_X5_append (kd_X5_append e10) rfl rfl (Nat.le_of_ble_eq_true rfl) rfl rfl rfl ?_
    refine WP.aload_n d_X7_feed_42 0 rfl ?_
    obtain ⟨x12, ex12, H⟩ := ob H
    refine WP.fR d_X7_feed_43 gf_X7_10 (fun _ => rfl) ex12 ?_
    refine WP.iload d_X7_feed_46 4 rfl ?_
    obtain ⟨h14, e13, H⟩ := ob H
    refine WP.cV (c := 6) (As := [.int l4]) (st := []) (st9 := []) (cl9 := 0) (sl9 := 0) d_X7_feed_48 (ok_X5_append V e13) tv_X5_append ti_X5_append ts_X5_append lk_X7_45 r_X7_feed_X5_append kc_X5_append (kd_X5_append e13) rfl rfl (Nat.le_of_ble_eq_true rfl) rfl rfl rfl ?_
    refine WP.aload_n d_X7_feed_51 0 rfl ?_
    obtain ⟨x15, ex15, H⟩ := ob H
    refine WP.fR d_X7_feed_52 gf_X7_10 (fun _ => rfl) ex15 ?_
    refine WP.iload d_X7_feed_55 5 rfl ?_
    obtain ⟨h17, e16, H⟩ := ob H
    refine WP.cV (c := 6) (As := [.int l5]) (st := []) (st9 := []) (cl9 := 0) (sl9 := 0) d_X7_feed_57 (ok_X5_append V e16) tv_X5_append ti_X5_append ts_X5_append lk_X7_45 r_X7_feed_X5_append kc_X5_append (kd_X5_append e16) rfl rfl (Nat.le_of_ble_eq_true rfl) rfl rfl rfl ?_
    refine WP.aload_n d_X7_feed_60 0 rfl ?_
    obtain ⟨x18, ex18, H⟩ := ob H
    refine WP.fR d_X7_feed_61 gf_X7_10 (fun _ => rfl) ex18 ?_
    obtain ⟨x19, ex19, H⟩ := ob H
    refine WP.fI d_X7_feed_64 gf_X7_41 (fun _ => rfl) ex19 ?_
    cases H
    exact WP.ireturn d_X7_feed_67 rfl rfl (Nat.le_of_ble_eq_true rfl) (Nat.le_of_ble_eq_true rfl)

set_option maxRecDepth 20000 in
set_option maxHeartbeats 4000000 in
theorem ok_X7_end (V : EV) {h : HA} {t : Nat} {l1 : Int32} {r : Int32} {hR : HA} (H : X7_end h t l1 = some (r, hR)) : MG V M_X7_end [.ref t, .int l1] h (some (.int r)) hR := by
  unfold X7_end at H
  obtain ⟨_, H⟩ := oc H
  refine MG.of (lv0 := [(0, .ref t), (1, .int l1)]) pn_X7 rfl (Nat.le_of_ble_eq_true rfl) ?_
  refine WP.iload_n d_X7_end_0 1 rfl ?_
  rcases oj H with ⟨hc, H⟩ | ⟨hc, H⟩
  · refine WP.if_lt_t d_X7_end_1 hc ?_
    refine WP.iconst d_X7_end_15 ki_m1 ?_
    cases H
    exact WP.ireturn d_X7_end_16 rfl rfl (Nat.le_of_ble_eq_true rfl) (Nat.le_of_ble_eq_true rfl)
  · refine WP.if_lt_f d_X7_end_1 hc ?_
    refine WP.iload_n d_X7_end_4 1 rfl ?_
    refine WP.aload_n d_X7_end_5 0 rfl ?_
    obtain ⟨x1, ex1, H⟩ := ob H
    refine WP.fR d_X7_end_6 gf_X7_10 (fun _ => rfl) ex1 ?_
    obtain ⟨x2, ex2, H⟩ := ob H
    refine WP.fI d_X7_end_9 gf_X7_41 (fun _ => rfl) ex2 ?_
    rcases oj H with ⟨hc, H⟩ | ⟨hc, H⟩
    · refine WP.icmp_le_t d_X7_end_12 hc ?_
      refine WP.iconst d_X7_end_15 ki_m1 ?_
      cases H
      exact WP.ireturn d_X7_end_16 rfl rfl (Nat.le_of_ble_eq_true rfl) (Nat.le_of_ble_eq_true rfl)
    · refine WP.icmp_le_f d_X7_end_12 hc ?_
      refine WP.aload_n d_X7_end_17 0 rfl ?_
      obtain ⟨x3, ex3, H⟩ := ob H
      refine WP.fR d_X7_end_18 gf_X7_10 (fun _ => rfl) ex3 ?_
      refine WP.iload_n d_X7_end_21 1 rfl ?_
      obtain ⟨h4, eh4, H⟩ := ob H
      refine WP.uI d_X7_end_22 gf_X7_41 rfl (Or.inl rfl) rfl rfl eh4 ?_
      refine WP.iload_n d_X7_end_25 1 rfl ?_
      cases H
      exact WP.ireturn d_X7_end_26 rfl rfl (Nat.le_of_ble_eq_true rfl) (Nat.le_of_ble_eq_true rfl)

set_option maxRecDepth 20000 in
set_option maxHeartbeats 4000000 in
theorem ok_X7_keepDraft (V : EV) {h : HA} {t : Nat} {l1 : Int32} {l2 : Int32} {hR : HA} (H : X7_keepDraft h t l1 l2 = some hR) : MG V M_X7_keepDraft [.ref t, .int l1, .int l2] h none hR := by
  unfold X7_keepDraft at H
  obtain ⟨_, H⟩ := oc H
  refine MG.of (lv0 := [(0, .ref t), (1, .int l1), (2, .int l2)]) pn_X7 rfl (Nat.le_of_ble_eq_true rfl) ?_
  refine WP.iload_n d_X7_keepDraft_0 1 rfl ?_
  obtain ⟨h1, hs2, H⟩ := ob H
  have J3 : WP V M_X7_keepDraft 87 [(0, .ref t), (1, .int l1), (2, .int l2)] [] h1 0 0 none hR := by
    refine WP.iload_n d_X7_keepDraft_87 2 rfl ?_
    refine WP.aload_n d_X7_keepDraft_88 0 rfl ?_
    obtain ⟨x28, ex28, H⟩ := ob H
    refine WP.fR d_X7_keepDraft_89 gf_X7_10 (fun _ => rfl) ex28 ?_
    obtain ⟨x29, ex29, H⟩ := ob H
    refine WP.fR d_X7_keepDraft_92 gf_X7_55 (fun _ => rfl) ex29 ?_
    refine WP.iload_n d_X7_keepDraft_95 1 rfl ?_
    obtain ⟨x30, ex30, H⟩ := ob H
    refine WP.iald d_X7_keepDraft_96 ex30 ?_
    rcases oj H with ⟨hc, H⟩ | ⟨hc, H⟩
    · refine WP.icmp_ne_t d_X7_keepDraft_97 hc ?_
      refine WP.aload_n d_X7_keepDraft_100 0 rfl ?_
      obtain ⟨x31, ex31, H⟩ := ob H
      refine WP.fR d_X7_keepDraft_101 gf_X7_10 (fun _ => rfl) ex31 ?_
      obtain ⟨x32, ex32, H⟩ := ob H
      refine WP.fR d_X7_keepDraft_104 gf_X7_55 (fun _ => rfl) ex32 ?_
      refine WP.iload_n d_X7_keepDraft_107 1 rfl ?_
      refine WP.dup2 d_X7_keepDraft_108 rfl rfl ?_
      obtain ⟨x33, ex33, H⟩ := ob H
      refine WP.iald d_X7_keepDraft_109 ex33 ?_
      refine WP.iconst d_X7_keepDraft_110 ki_1 ?_
      refine WP.iadd d_X7_keepDraft_111 ?_
      obtain ⟨h34, eh34, H⟩ := ob H
      refine WP.ias d_X7_keepDraft_112 eh34 ?_
      cases H
      exact WP.return_ d_X7_keepDraft_113 rfl (Nat.le_of_ble_eq_true rfl) (Nat.le_of_ble_eq_true rfl)
    · refine WP.icmp_ne_f d_X7_keepDraft_97 hc ?_
      cases H
      exact WP.return_ d_X7_keepDraft_113 rfl (Nat.le_of_ble_eq_true rfl) (Nat.le_of_ble_eq_true rfl)
  rcases oj hs2 with ⟨hc, hs2⟩ | ⟨hc, hs2⟩
  · refine WP.if_ne_t d_X7_keepDraft_1 hc ?_
    refine WP.aload_n d_X7_keepDraft_4 0 rfl ?_
    obtain ⟨x4, ex4, hs2⟩ := ob hs2
    refine WP.fR d_X7_keepDraft_5 gf_X7_10 (fun _ => rfl) ex4 ?_
    obtain ⟨x5, ex5, hs2⟩ := ob hs2
    refine WP.fR d_X7_keepDraft_8 gf_X7_73 (fun _ => rfl) ex5 ?_
    refine WP.iload_n d_X7_keepDraft_11 2 rfl ?_
    obtain ⟨x6, ex6, hs2⟩ := ob hs2
    refine WP.aaldR d_X7_keepDraft_12 (by decide) ex6 ?_
    refine WP.astore_n (lv9 := [(3, .ref x6), (0, .ref t), (1, .int l1), (2, .int l2)]) d_X7_keepDraft_13 (Nat.le_of_ble_eq_true rfl) rfl ?_
    refine WP.aload_n d_X7_keepDraft_14 1 rfl ?_
    obtain ⟨x7, ex7, hs2⟩ := ob hs2
    refine WP.fR d_X7_keepDraft_15 gf_X7_10 (fun _ => rfl) ex7 ?_
    obtain ⟨x8, ex8, hs2⟩ := ob hs2
    refine WP.fR d_X7_keepDraft_18 gf_X7_73 (fun _ => rfl) ex8 ?_
    refine WP.iload_n d_X7_keepDraft_21 3 rfl ?_
    refine WP.aload_n d_X7_keepDraft_22 1 rfl ?_
    obtain ⟨x9, ex9, hs2⟩ := ob hs2
    refine WP.fR d_X7_keepDraft_23 gf_X7_23 (fun _ => rfl) ex9 ?_
    obtain ⟨x10, ex10, hs2⟩ := ob hs2
    refine WP.fR d_X7_keepDraft_26 gf_X7_77 (fun _ => rfl) ex10 ?_
    obtain ⟨h11, eh11, hs2⟩ := ob hs2
    refine WP.aas d_X7_keepDraft_29 (by decide) eh11 ?_
    refine WP.aload_n d_X7_keepDraft_30 1 rfl ?_
    obtain ⟨x12, ex12, hs2⟩ := ob hs2
    refine WP.fR d_X7_keepDraft_31 gf_X7_23 (fun _ => rfl) ex12 ?_
    refine WP.aload_n d_X7_keepDraft_34 0 rfl ?_
    obtain ⟨h13, eh13, hs2⟩ := ob hs2
    refine WP.uR d_X7_keepDraft_35 gf_X7_77 rfl (x := (some x6)) (fun _ => rfl) rfl rfl eh13 ?_
    refine WP.goto d_X7_keepDraft_38 ?_
    cases hs2
    exact WP.sub [1, 2, 3] rfl J3
  · refine WP.if_ne_f d_X7_keepDraft_1 hc ?_
    refine WP.iload_n d_X7_keepDraft_41 1 rfl ?_
    refine WP.iload_n d_X7_keepDraft_42 2 rfl ?_
    obtain ⟨x15, e14, hs2⟩ := ob hs2
    refine WP.cS (As := [.int l1, .int l2]) (st := []) (st9 := [.int x15]) (cl9 := 0) (sl9 := 0) d_X7_keepDraft_43 (ok_X5_slotOf V (h := h) e14) tv_X5_slotOf ts_X5_slotOf lk_X7_81 r_X7_keepDraft_X5_slotOf rfl rfl (Nat.le_of_ble_eq_true rfl) rfl rfl rfl ?_
    refine WP.istore_n (lv9 := [(3, .int x15), (0, .ref t), (1, .int l1), (2, .int l2)]) d_X7_keepDraft_46 (Nat.le_of_ble_eq_true rfl) rfl ?_
    refine WP.aload_n d_X7_keepDraft_47 1 rfl ?_
    obtain ⟨x16, ex16, hs2⟩ := ob hs2
    refine WP.fR d_X7_keepDraft_48 gf_X7_10 (fun _ => rfl) ex16 ?_
    obtain ⟨x17, ex17, hs2⟩ := ob hs2
    refine WP.fR d_X7_keepDraft_51 gf_X7_85 (fun _ => rfl) ex17 ?_
    refine WP.iload_n d_X7_keepDraft_54 0 rfl ?_
    obtain ⟨x18, ex18, hs2⟩ := ob hs2
    refine WP.aaldR d_X7_keepDraft_55 (by decide) ex18 ?_
    refine WP.astore (lv9 := [(4, .ref x18), (3, .int x15), (0, .ref t), (1, .int l1), (2, .int l2)]) d_X7_keepDraft_56 (Nat.le_of_ble_eq_true rfl) rfl ?_
    refine WP.aload_n d_X7_keepDraft_58 2 rfl ?_
    obtain ⟨x19, ex19, hs2⟩ := ob hs2
    refine WP.fR d_X7_keepDraft_59 gf_X7_10 (fun _ => rfl) ex19 ?_
    obtain ⟨x20, ex20, hs2⟩ := ob hs2
    refine WP.fR d_X7_keepDraft_62 gf_X7_85 (fun _ => rfl) ex20 ?_
    refine WP.iload_n d_X7_keepDraft_65 1 rfl ?_
    refine WP.aload_n d_X7_keepDraft_66 2 rfl ?_
    obtain ⟨x21, ex21, hs2⟩ := ob hs2
    refine WP.fR d_X7_keepDraft_67 gf_X7_23 (fun _ => rfl) ex21 ?_
    obtain ⟨x22, ex22, hs2⟩ := ob hs2
    refine WP.fR d_X7_keepDraft_70 gf_X7_89 (fun _ => rfl) ex22 ?_
    refine WP.iload_n d_X7_keepDraft_73 3 rfl ?_
    obtain ⟨x23, ex23, hs2⟩ := ob hs2
    refine WP.aaldR d_X7_keepDraft_74 (by decide) ex23 ?_
    obtain ⟨h24, eh24, hs2⟩ := ob hs2
    refine WP.aas d_X7_keepDraft_75 (by decide) eh24 ?_
    refine WP.aload_n d_X7_keepDraft_76 2 rfl ?_
    obtain ⟨x25, ex25, hs2⟩ := ob hs2
    refine WP.fR d_X7_keepDraft_77 gf_X7_23 (fun _ => rfl) ex25 ?_
    obtain ⟨x26, ex26, hs2⟩ := ob hs2
    refine WP.fR d_X7_keepDraft_80 gf_X7_89 (fun _ => rfl) ex26 ?_
    refine WP.iload_n d_X7_keepDraft_83 3 rfl ?_
    refine WP.aload d_X7_keepDraft_84 0 rfl ?_
    obtain ⟨h27, eh27, hs2⟩ := ob hs2
    refine WP.aas d_X7_keepDraft_86 (by decide) eh27 ?_
    cases hs2
    exact WP.sub [2, 3, 4] rfl J3

set_option maxRecDepth 20000 in
set_option maxHeartbeats 4000000 in
theorem ok_X7_text (V : EV) {h : HA} {t : Nat} {l1 : Int32} {l2 : Int32} {r : Int32} {hR : HA} (H : X7_text h t l1 l2 = some (r, hR)) : MG V M_X7_text [.ref t, .int l1, .int l2] h (some (.int r)) hR := by
  unfold X7_text at H
  obtain ⟨_, H⟩ := oc H
  refine MG.of (lv0 := [(0, .ref t), (1, .int l1), (2, .int l2)]) pn_X7 rfl (Nat.le_of_ble_eq_true rfl) ?_
  refine WP.aload_n d_X7_text_0 0 rfl ?_
  obtain ⟨x1, ex1, H⟩ := ob H
  refine WP.fR d_X7_text_1 gf_X7_10 (fun _ => rfl) ex1 ?_
  obtain ⟨x2, ex2, H⟩ := ob H
  refine WP.fI d_X7_text_4 gf_X7_41 (fun _ => rfl) ex2 ?_
  refine WP.istore_n (lv9 := [(3, .int x2), (0, .ref t), (1, .int l1), (2, .int l2)]) d_X7_text_7 (Nat.le_of_ble_eq_true rfl) rfl ?_
  refine WP.aload_n d_X7_text_8 1 rfl ?_
  obtain ⟨x3, ex3, H⟩ := ob H
  refine WP.fR d_X7_text_9 gf_X7_10 (fun _ => rfl) ex3 ?_
  refine WP.iconst d_X7_text_12 ki_0 ?_
  obtain ⟨h4, eh4, H⟩ := ob H
  refine WP.uI d_X7_text_13 gf_X7_41 rfl (Or.inl rfl) rfl rfl eh4 ?_
  refine WP.aload_n d_X7_text_16 1 rfl ?_
  obtain ⟨x5, ex5, H⟩ := ob H
  refine WP.fR d_X7_text_17 gf_X7_10 (fun _ => rfl) ex5 ?_
  refine WP.iconst d_X7_text_20 ki_0 ?_
  obtain ⟨h6, eh6, H⟩ := ob H
  refine WP.uI d_X7_text_21 gf_X7_49 rfl (Or.inl rfl) rfl rfl eh6 ?_
  refine WP.aload_n d_X7_text_24 1 rfl ?_
  obtain ⟨x7, ex7, H⟩ := ob H
  refine WP.fR d_X7_text_25 gf_X7_10 (fun _ => rfl) ex7 ?_
  refine WP.iconst d_X7_text_28 ki_m1 ?_
  obtain ⟨h8, eh8, H⟩ := ob H
  refine WP.uI d_X7_text_29 gf_X7_52 rfl (Or.inl rfl) rfl rfl eh8 ?_
  refine WP.iload_n d_X7_text_32 2 rfl ?_
  rcases oj H with ⟨hc, H⟩ | ⟨hc, H⟩
  · refine WP.if_lt_t d_X7_text_33 hc ?_
    refine WP.bipush d_X7_text_41 kb_m2 ?_
    cases H
    exact WP.ireturn d_X7_text_43 rfl rfl (Nat.le_of_ble_eq_true rfl) (Nat.le_of_ble_eq_true rfl)
  · refine WP.if_lt_f d_X7_text_33 hc ?_
    refine WP.iload_n d_X7_text_36 2 rfl ?_
    refine WP.iconst d_X7_text_37 ki_4 ?_
    rcases oj H with ⟨hc, H⟩ | ⟨hc, H⟩
    · refine WP.icmp_lt_t d_X7_text_38 hc ?_
      refine WP.iload_n d_X7_text_44 3 rfl ?_
      refine WP.iconst d_X7_text_45 ki_m1 ?_
      obtain ⟨j9, hs10, H⟩ := ob H
      have J11 : WP V M_X7_text 62 [(0, .ref t), (1, .int l1), (2, .int l2), (3, .int x2)] [.int j9] h8 0 0 (some (.int r)) hR := by
        refine WP.istore (lv9 := [(4, .int j9), (0, .ref t), (1, .int l1), (2, .int l2), (3, .int x2)]) d_X7_text_62 (Nat.le_of_ble_eq_true rfl) rfl ?_
        refine WP.iload_n d_X7_text_64 3 rfl ?_
        refine WP.iconst d_X7_text_65 ki_m1 ?_
        obtain ⟨j15, hs16, H⟩ := ob H
        have J17 : WP V M_X7_text 82 [(0, .ref t), (1, .int l1), (3, .int x2), (4, .int j9)] [.int j15] h8 0 0 (some (.int r)) hR := by
          refine WP.istore (lv9 := [(5, .int j15), (0, .ref t), (1, .int l1), (3, .int x2), (4, .int j9)]) d_X7_text_82 (Nat.le_of_ble_eq_true rfl) rfl ?_
          refine WP.iload d_X7_text_84 4 rfl ?_
          rcases oj H with ⟨hc, H⟩ | ⟨hc, H⟩
          · refine WP.if_lt_t d_X7_text_86 hc ?_
            refine WP.bipush d_X7_text_96 kb_m2 ?_
            cases H
            exact WP.ireturn d_X7_text_98 rfl rfl (Nat.le_of_ble_eq_true rfl) (Nat.le_of_ble_eq_true rfl)
          · refine WP.if_lt_f d_X7_text_86 hc ?_
            refine WP.iload d_X7_text_89 4 rfl ?_
            refine WP.iload d_X7_text_91 0 rfl ?_
            rcases oj H with ⟨hc, H⟩ | ⟨hc, H⟩
            · refine WP.icmp_lt_t d_X7_text_93 hc ?_
              refine WP.aload_n d_X7_text_99 1 rfl ?_
              obtain ⟨x21, ex21, H⟩ := ob H
              refine WP.fR d_X7_text_100 gf_X7_23 (fun _ => rfl) ex21 ?_
              refine WP.aload_n d_X7_text_103 1 rfl ?_
              obtain ⟨x22, ex22, H⟩ := ob H
              refine WP.fR d_X7_text_104 gf_X7_10 (fun _ => rfl) ex22 ?_
              obtain ⟨x23, ex23, H⟩ := ob H
              refine WP.fR d_X7_text_107 gf_X7_59 (fun _ => rfl) ex23 ?_
              refine WP.iload_n d_X7_text_110 3 rfl ?_
              refine WP.iload_n d_X7_text_111 2 rfl ?_
              obtain ⟨h25, e24, H⟩ := ob H
              refine WP.cV (c := 4) (As := [.ref x23, .int x2, .int l1]) (st := []) (st9 := []) (cl9 := 0) (sl9 := 0) d_X7_text_112 (ok_X3_read V e24) tv_X3_read ti_X3_read ts_X3_read lk_X7_63 r_X7_text_X3_read kc_X3_read (kd_X3_read e24) rfl rfl (Nat.le_of_ble_eq_true rfl) rfl rfl rfl ?_
              refine WP.aload_n d_X7_text_115 1 rfl ?_
              obtain ⟨x26, ex26, H⟩ := ob H
              refine WP.fR d_X7_text_116 gf_X7_23 (fun _ => rfl) ex26 ?_
              obtain ⟨x27, ex27, H⟩ := ob H
              refine WP.fI d_X7_text_119 gf_X7_67 (fun _ => rfl) ex27 ?_
              rcases oj H with ⟨hc, H⟩ | ⟨hc, H⟩
              · refine WP.if_eq_t d_X7_text_122 hc ?_
                refine WP.aload_n d_X7_text_155 1 rfl ?_
                refine WP.iload_n d_X7_text_156 2 rfl ?_
                refine WP.iload d_X7_text_157 4 rfl ?_
                obtain ⟨h29, e28, H⟩ := ob H
                refine WP.cV (c := 8) (As := [.int l1, .int j9]) (st := []) (st9 := []) (cl9 := 0) (sl9 := 0) d_X7_text_159 (ok_X7_keepDraft V e28) tv_X7_keepDraft ti_X7_keepDraft ts_X7_keepDraft lk_X7_69 r_X7_text_X7_keepDraft kc_X7_keepDraft (kd_X7_keepDraft e28) rfl rfl (Nat.le_of_ble_eq_true rfl) rfl rfl rfl ?_
                refine WP.iload d_X7_text_162 4 rfl ?_
                cases H
                exact WP.ireturn d_X7_text_164 rfl rfl (Nat.le_of_ble_eq_true rfl) (Nat.le_of_ble_eq_true rfl)
              · refine WP.if_eq_f d_X7_text_122 hc ?_
                refine WP.aload_n d_X7_text_125 1 rfl ?_
                obtain ⟨x30, ex30, H⟩ := ob H
                refine WP.fR d_X7_text_126 gf_X7_10 (fun _ => rfl) ex30 ?_
                refine WP.aload_n d_X7_text_129 1 rfl ?_
                obtain ⟨x31, ex31, H⟩ := ob H
                refine WP.fR d_X7_text_130 gf_X7_23 (fun _ => rfl) ex31 ?_
                obtain ⟨x32, ex32, H⟩ := ob H
                refine WP.fI d_X7_text_133 gf_X7_67 (fun _ => rfl) ex32 ?_
                obtain ⟨h33, eh33, H⟩ := ob H
                refine WP.uI d_X7_text_136 gf_X7_49 rfl (Or.inl rfl) rfl rfl eh33 ?_
                refine WP.aload_n d_X7_text_139 1 rfl ?_
                obtain ⟨x34, ex34, H⟩ := ob H
                refine WP.fR d_X7_text_140 gf_X7_10 (fun _ => rfl) ex34 ?_
                refine WP.aload_n d_X7_text_143 1 rfl ?_
                obtain ⟨x35, ex35, H⟩ := ob H
                refine WP.fR d_X7_text_144 gf_X7_23 (fun _ => rfl) ex35 ?_
                obtain ⟨x36, ex36, H⟩ := ob H
                refine WP.fI d_X7_text_147 gf_X7_68 (fun _ => rfl) ex36 ?_
                obtain ⟨h37, eh37, H⟩ := ob H
                refine WP.uI d_X7_text_150 gf_X7_52 rfl (Or.inl rfl) rfl rfl eh37 ?_
                refine WP.iconst d_X7_text_153 ki_m1 ?_
                cases H
                exact WP.ireturn d_X7_text_154 rfl rfl (Nat.le_of_ble_eq_true rfl) (Nat.le_of_ble_eq_true rfl)
            · refine WP.icmp_lt_f d_X7_text_93 hc ?_
              refine WP.bipush d_X7_text_96 kb_m2 ?_
              cases H
              exact WP.ireturn d_X7_text_98 rfl rfl (Nat.le_of_ble_eq_true rfl) (Nat.le_of_ble_eq_true rfl)
        rcases oj hs16 with ⟨hc, hs16⟩ | ⟨hc, hs16⟩
        · refine WP.icmp_ne_t d_X7_text_66 hc ?_
          refine WP.iconst d_X7_text_69 ki_2 ?_
          refine WP.goto d_X7_text_70 ?_
          cases hs16
          exact WP.sub [1, 2, 4, 0] rfl J17
        · refine WP.icmp_ne_f d_X7_text_66 hc ?_
          refine WP.aload_n d_X7_text_73 1 rfl ?_
          obtain ⟨x18, ex18, hs16⟩ := ob hs16
          refine WP.fR d_X7_text_74 gf_X7_10 (fun _ => rfl) ex18 ?_
          obtain ⟨x19, ex19, hs16⟩ := ob hs16
          refine WP.fR d_X7_text_77 gf_X7_55 (fun _ => rfl) ex19 ?_
          refine WP.iload_n d_X7_text_80 2 rfl ?_
          obtain ⟨x20, ex20, hs16⟩ := ob hs16
          refine WP.iald d_X7_text_81 ex20 ?_
          cases hs16
          exact WP.sub [1, 2, 4, 0] rfl J17
      rcases oj hs10 with ⟨hc, hs10⟩ | ⟨hc, hs10⟩
      · refine WP.icmp_ne_t d_X7_text_46 hc ?_
        refine WP.aload_n d_X7_text_49 1 rfl ?_
        obtain ⟨x12, ex12, hs10⟩ := ob hs10
        refine WP.fR d_X7_text_50 gf_X7_10 (fun _ => rfl) ex12 ?_
        obtain ⟨x13, ex13, hs10⟩ := ob hs10
        refine WP.fR d_X7_text_53 gf_X7_55 (fun _ => rfl) ex13 ?_
        refine WP.iload_n d_X7_text_56 2 rfl ?_
        obtain ⟨x14, ex14, hs10⟩ := ob hs10
        refine WP.iald d_X7_text_57 ex14 ?_
        refine WP.goto d_X7_text_58 ?_
        cases hs10
        exact WP.sub [1, 2, 3, 0] rfl J11
      · refine WP.icmp_ne_f d_X7_text_46 hc ?_
        refine WP.iload_n d_X7_text_61 3 rfl ?_
        cases hs10
        exact WP.sub [1, 2, 3, 0] rfl J11
    · refine WP.icmp_lt_f d_X7_text_38 hc ?_
      refine WP.bipush d_X7_text_41 kb_m2 ?_
      cases H
      exact WP.ireturn d_X7_text_43 rfl rfl (Nat.le_of_ble_eq_true rfl) (Nat.le_of_ble_eq_true rfl)

set_option maxRecDepth 20000 in
set_option maxHeartbeats 4000000 in
theorem ok_X7_fault (V : EV) {h : HA} {t : Nat} {l1 : Int32} {r : Int32} (H : X7_fault h t l1 = some r) : MG V M_X7_fault [.ref t, .int l1] h (some (.int r)) h := by
  unfold X7_fault at H
  obtain ⟨_, H⟩ := oc H
  refine MG.of (lv0 := [(0, .ref t), (1, .int l1)]) pn_X7 rfl (Nat.le_of_ble_eq_true rfl) ?_
  refine WP.iload_n d_X7_fault_0 1 rfl ?_
  rcases oj H with ⟨hc, H⟩ | ⟨hc, H⟩
  · refine WP.if_ne_t d_X7_fault_1 hc ?_
    refine WP.aload_n d_X7_fault_4 0 rfl ?_
    obtain ⟨x1, ex1, H⟩ := ob H
    refine WP.fR d_X7_fault_5 gf_X7_10 (fun _ => rfl) ex1 ?_
    obtain ⟨x2, ex2, H⟩ := ob H
    refine WP.fI d_X7_fault_8 gf_X7_49 (fun _ => rfl) ex2 ?_
    cases H
    exact WP.ireturn d_X7_fault_11 rfl rfl (Nat.le_of_ble_eq_true rfl) (Nat.le_of_ble_eq_true rfl)
  · refine WP.if_ne_f d_X7_fault_1 hc ?_
    refine WP.iload_n d_X7_fault_12 1 rfl ?_
    refine WP.iconst d_X7_fault_13 ki_1 ?_
    rcases oj H with ⟨hc, H⟩ | ⟨hc, H⟩
    · refine WP.icmp_ne_t d_X7_fault_14 hc ?_
      refine WP.aload_n d_X7_fault_17 0 rfl ?_
      obtain ⟨x3, ex3, H⟩ := ob H
      refine WP.fR d_X7_fault_18 gf_X7_10 (fun _ => rfl) ex3 ?_
      obtain ⟨x4, ex4, H⟩ := ob H
      refine WP.fI d_X7_fault_21 gf_X7_52 (fun _ => rfl) ex4 ?_
      refine WP.goto d_X7_fault_24 ?_
      cases H
      exact WP.ireturn d_X7_fault_28 rfl rfl (Nat.le_of_ble_eq_true rfl) (Nat.le_of_ble_eq_true rfl)
    · refine WP.icmp_ne_f d_X7_fault_14 hc ?_
      refine WP.iconst d_X7_fault_27 ki_m1 ?_
      cases H
      exact WP.ireturn d_X7_fault_28 rfl rfl (Nat.le_of_ble_eq_true rfl) (Nat.le_of_ble_eq_true rfl)

set_option maxRecDepth 20000 in
set_option maxHeartbeats 4000000 in
theorem ok_X7_courtAt (V : EV) {h : HA} {t : Nat} {l1 : Int32} {r : (Option Nat)} {hR : HA} (H : X7_courtAt h t l1 = some (r, hR)) : MG V M_X7_courtAt [.ref t, .int l1] h (some (va_rf r)) hR := by
  unfold X7_courtAt at H
  obtain ⟨_, H⟩ := oc H
  refine MG.of (lv0 := [(0, .ref t), (1, .int l1)]) pn_X7 rfl (Nat.le_of_ble_eq_true rfl) ?_
  refine WP.iload_n d_X7_courtAt_0 1 rfl ?_
  rcases oj H with ⟨hc, H⟩ | ⟨hc, H⟩
  · refine WP.if_lt_t d_X7_courtAt_1 hc ?_
    refine WP.aconst_null d_X7_courtAt_17 ?_
    cases H
    exact WP.areturn (x := none) d_X7_courtAt_18 rfl (Nat.le_of_ble_eq_true rfl) (Nat.le_of_ble_eq_true rfl)
  · refine WP.if_lt_f d_X7_courtAt_1 hc ?_
    refine WP.iload_n d_X7_courtAt_4 1 rfl ?_
    refine WP.aload_n d_X7_courtAt_5 0 rfl ?_
    obtain ⟨x1, ex1, H⟩ := ob H
    refine WP.fR d_X7_courtAt_6 gf_X7_10 (fun _ => rfl) ex1 ?_
    obtain ⟨x2, ex2, H⟩ := ob H
    refine WP.fR d_X7_courtAt_9 gf_X7_55 (fun _ => rfl) ex2 ?_
    refine WP.iconst d_X7_courtAt_12 ki_0 ?_
    obtain ⟨x3, ex3, H⟩ := ob H
    refine WP.iald d_X7_courtAt_13 ex3 ?_
    rcases oj H with ⟨hc, H⟩ | ⟨hc, H⟩
    · refine WP.icmp_lt_t d_X7_courtAt_14 hc ?_
      refine WP.aload_n d_X7_courtAt_19 0 rfl ?_
      obtain ⟨x4, ex4, H⟩ := ob H
      refine WP.fR d_X7_courtAt_20 gf_X7_10 (fun _ => rfl) ex4 ?_
      obtain ⟨x5, ex5, H⟩ := ob H
      refine WP.fR d_X7_courtAt_23 gf_X7_73 (fun _ => rfl) ex5 ?_
      refine WP.iload_n d_X7_courtAt_26 1 rfl ?_
      obtain ⟨x6, ex6, H⟩ := ob H
      refine WP.aaldR d_X7_courtAt_27 (by decide) ex6 ?_
      obtain ⟨h8, e7, H⟩ := ob H
      refine WP.cV (c := 1) (As := []) (st := []) (st9 := []) (cl9 := 0) (sl9 := 0) d_X7_courtAt_28 (ok_X0_lay V e7) tv_X0_lay ti_X0_lay ts_X0_lay lk_X7_90 r_X7_courtAt_X0_lay kc_X0_lay (kd_X0_lay e7) rfl rfl (Nat.le_of_ble_eq_true rfl) rfl rfl rfl ?_
      refine WP.aload_n d_X7_courtAt_31 0 rfl ?_
      obtain ⟨x9, ex9, H⟩ := ob H
      refine WP.fR d_X7_courtAt_32 gf_X7_10 (fun _ => rfl) ex9 ?_
      obtain ⟨x10, ex10, H⟩ := ob H
      refine WP.fR d_X7_courtAt_35 gf_X7_73 (fun _ => rfl) ex10 ?_
      refine WP.iload_n d_X7_courtAt_38 1 rfl ?_
      obtain ⟨x11, ex11, H⟩ := ob H
      refine WP.aaldR d_X7_courtAt_39 (by decide) ex11 ?_
      cases H
      exact WP.areturn (x := (some x11)) d_X7_courtAt_40 rfl (Nat.le_of_ble_eq_true rfl) (Nat.le_of_ble_eq_true rfl)
    · refine WP.icmp_lt_f d_X7_courtAt_14 hc ?_
      refine WP.aconst_null d_X7_courtAt_17 ?_
      cases H
      exact WP.areturn (x := none) d_X7_courtAt_18 rfl (Nat.le_of_ble_eq_true rfl) (Nat.le_of_ble_eq_true rfl)

set_option maxRecDepth 20000 in
set_option maxHeartbeats 4000000 in
theorem ok_X7_listAt (V : EV) {h : HA} {t : Nat} {l1 : Int32} {l2 : Int32} {r : (Option Nat)} (H : X7_listAt h t l1 l2 = some r) : MG V M_X7_listAt [.ref t, .int l1, .int l2] h (some (va_rf r)) h := by
  unfold X7_listAt at H
  obtain ⟨_, H⟩ := oc H
  refine MG.of (lv0 := [(0, .ref t), (1, .int l1), (2, .int l2)]) pn_X7 rfl (Nat.le_of_ble_eq_true rfl) ?_
  refine WP.iload_n d_X7_listAt_0 2 rfl ?_
  obtain ⟨j1, hs2, H⟩ := ob H
  have J3 : WP V M_X7_listAt 22 [(0, .ref t), (1, .int l1), (2, .int l2)] [.int j1] h 0 0 (some (va_rf r)) h := by
    refine WP.istore_n (lv9 := [(3, .int j1), (0, .ref t), (1, .int l1), (2, .int l2)]) d_X7_listAt_22 (Nat.le_of_ble_eq_true rfl) rfl ?_
    refine WP.iload_n d_X7_listAt_23 0 rfl ?_
    rcases oj H with ⟨hc, H⟩ | ⟨hc, H⟩
    · refine WP.if_eq_t d_X7_listAt_24 hc ?_
      refine WP.aconst_null d_X7_listAt_43 ?_
      cases H
      exact WP.areturn (x := none) d_X7_listAt_44 rfl (Nat.le_of_ble_eq_true rfl) (Nat.le_of_ble_eq_true rfl)
    · refine WP.if_eq_f d_X7_listAt_24 hc ?_
      refine WP.aload_n d_X7_listAt_27 1 rfl ?_
      obtain ⟨x7, ex7, H⟩ := ob H
      refine WP.fR d_X7_listAt_28 gf_X7_10 (fun _ => rfl) ex7 ?_
      obtain ⟨x8, ex8, H⟩ := ob H
      refine WP.fR d_X7_listAt_31 gf_X7_85 (fun _ => rfl) ex8 ?_
      refine WP.iload_n d_X7_listAt_34 2 rfl ?_
      refine WP.iload_n d_X7_listAt_35 3 rfl ?_
      obtain ⟨x10, e9, H⟩ := ob H
      refine WP.cS (As := [.int l1, .int l2]) (st := [.ref x8]) (st9 := [.int x10, .ref x8]) (cl9 := 0) (sl9 := 0) d_X7_listAt_36 (ok_X5_slotOf V (h := h) e9) tv_X5_slotOf ts_X5_slotOf lk_X7_81 r_X7_listAt_X5_slotOf rfl rfl (Nat.le_of_ble_eq_true rfl) rfl rfl rfl ?_
      obtain ⟨x11, ex11, H⟩ := ob H
      refine WP.aaldR d_X7_listAt_39 (by decide) ex11 ?_
      refine WP.goto d_X7_listAt_40 ?_
      cases H
      exact WP.areturn (x := (some x11)) d_X7_listAt_44 rfl (Nat.le_of_ble_eq_true rfl) (Nat.le_of_ble_eq_true rfl)
  rcases oj hs2 with ⟨hc, hs2⟩ | ⟨hc, hs2⟩
  · refine WP.if_lt_t d_X7_listAt_1 hc ?_
    refine WP.iconst d_X7_listAt_21 ki_0 ?_
    cases hs2
    exact WP.sub [0, 1, 2] rfl J3
  · refine WP.if_lt_f d_X7_listAt_1 hc ?_
    refine WP.iload_n d_X7_listAt_4 2 rfl ?_
    refine WP.aload_n d_X7_listAt_5 0 rfl ?_
    obtain ⟨x4, ex4, hs2⟩ := ob hs2
    refine WP.fR d_X7_listAt_6 gf_X7_10 (fun _ => rfl) ex4 ?_
    obtain ⟨x5, ex5, hs2⟩ := ob hs2
    refine WP.fR d_X7_listAt_9 gf_X7_55 (fun _ => rfl) ex5 ?_
    refine WP.iload_n d_X7_listAt_12 1 rfl ?_
    obtain ⟨x6, ex6, hs2⟩ := ob hs2
    refine WP.iald d_X7_listAt_13 ex6 ?_
    rcases oj hs2 with ⟨hc, hs2⟩ | ⟨hc, hs2⟩
    · refine WP.icmp_ge_t d_X7_listAt_14 hc ?_
      refine WP.iconst d_X7_listAt_17 ki_1 ?_
      refine WP.goto d_X7_listAt_18 ?_
      cases hs2
      exact WP.sub [0, 1, 2] rfl J3
    · refine WP.icmp_ge_f d_X7_listAt_14 hc ?_
      refine WP.iconst d_X7_listAt_21 ki_0 ?_
      cases hs2
      exact WP.sub [0, 1, 2] rfl J3

set_option maxRecDepth 20000 in
set_option maxHeartbeats 4000000 in
theorem ok_X7_hallOf (V : EV) {h : HA} {t : Nat} {l1 : Int32} {l2 : Int32} {r : (Option Nat)} {hR : HA} (H : X7_hallOf h t l1 l2 = some (r, hR)) : MG V M_X7_hallOf [.ref t, .int l1, .int l2] h (some (va_rf r)) hR := by
  unfold X7_hallOf at H
  obtain ⟨_, H⟩ := oc H
  refine MG.of (lv0 := [(0, .ref t), (1, .int l1), (2, .int l2)]) pn_X7 rfl (Nat.le_of_ble_eq_true rfl) ?_
  refine WP.aload_n d_X7_hallOf_0 0 rfl ?_
  refine WP.iload_n d_X7_hallOf_1 1 rfl ?_
  obtain ⟨⟨x3, h2⟩, e1, H⟩ := ob H
  refine WP.cV (c := 8) (As := [.int l1]) (st := []) (st9 := va_rf x3 :: []) (cl9 := 0) (sl9 := 0) d_X7_hallOf_2 (ok_X7_courtAt V e1) tv_X7_courtAt ti_X7_courtAt ts_X7_courtAt lk_X7_95 r_X7_hallOf_X7_courtAt kc_X7_courtAt (kd_X7_courtAt e1) rfl rfl (Nat.le_of_ble_eq_true rfl) rfl rfl rfl ?_
  rcases x3 with _ | z4
  · dsimp only at H
    refine WP.astore_nN (lv9 := [(3, .null), (0, .ref t), (1, .int l1), (2, .int l2)]) d_X7_hallOf_5 (Nat.le_of_ble_eq_true rfl) rfl ?_
    refine WP.aload_n d_X7_hallOf_6 1 rfl ?_
    refine WP.iconst d_X7_hallOf_7 ki_1 ?_
    refine WP.iload_n d_X7_hallOf_8 3 rfl ?_
    obtain ⟨x6, e5, H⟩ := ob H
    refine WP.cV (c := 8) (As := [.int 1, .int l2]) (st := []) (st9 := va_rf x6 :: []) (cl9 := 0) (sl9 := 0) d_X7_hallOf_9 (ok_X7_listAt V e5) tv_X7_listAt ti_X7_listAt ts_X7_listAt lk_X7_99 r_X7_hallOf_X7_listAt kc_X7_listAt (kd_X7_listAt e5) rfl rfl (Nat.le_of_ble_eq_true rfl) rfl rfl rfl ?_
    rcases x6 with _ | z7
    · dsimp only at H
      refine WP.astoreN (lv9 := [(4, .null), (3, .null), (0, .ref t), (1, .int l1), (2, .int l2)]) d_X7_hallOf_12 (Nat.le_of_ble_eq_true rfl) rfl ?_
      refine WP.aload_nN d_X7_hallOf_14 1 rfl ?_
      refine WP.nN d_X7_hallOf_15 ?_
      refine WP.aconst_null d_X7_hallOf_23 ?_
      cases H
      exact WP.areturn (x := none) d_X7_hallOf_24 rfl (Nat.le_of_ble_eq_true rfl) (Nat.le_of_ble_eq_true rfl)
    · dsimp only at H
      refine WP.astore (lv9 := [(4, .ref z7), (3, .null), (0, .ref t), (1, .int l1), (2, .int l2)]) d_X7_hallOf_12 (Nat.le_of_ble_eq_true rfl) rfl ?_
      refine WP.aload_nN d_X7_hallOf_14 1 rfl ?_
      refine WP.nN d_X7_hallOf_15 ?_
      refine WP.aconst_null d_X7_hallOf_23 ?_
      cases H
      exact WP.areturn (x := none) d_X7_hallOf_24 rfl (Nat.le_of_ble_eq_true rfl) (Nat.le_of_ble_eq_true rfl)
  · dsimp only at H
    refine WP.astore_n (lv9 := [(3, .ref z4), (0, .ref t), (1, .int l1), (2, .int l2)]) d_X7_hallOf_5 (Nat.le_of_ble_eq_true rfl) rfl ?_
    refine WP.aload_n d_X7_hallOf_6 1 rfl ?_
    refine WP.iconst d_X7_hallOf_7 ki_1 ?_
    refine WP.iload_n d_X7_hallOf_8 3 rfl ?_
    obtain ⟨x9, e8, H⟩ := ob H
    refine WP.cV (c := 8) (As := [.int 1, .int l2]) (st := []) (st9 := va_rf x9 :: []) (cl9 := 0) (sl9 := 0) d_X7_hallOf_9 (ok_X7_listAt V e8) tv_X7_listAt ti_X7_listAt ts_X7_listAt lk_X7_99 r_X7_hallOf_X7_listAt kc_X7_listAt (kd_X7_listAt e8) rfl rfl (Nat.le_of_ble_eq_true rfl) rfl rfl rfl ?_
    rcases x9 with _ | z10
    · dsimp only at H
      refine WP.astoreN (lv9 := [(4, .null), (3, .ref z4), (0, .ref t), (1, .int l1), (2, .int l2)]) d_X7_hallOf_12 (Nat.le_of_ble_eq_true rfl) rfl ?_
      refine WP.aload_n d_X7_hallOf_14 1 rfl ?_
      refine WP.nR d_X7_hallOf_15 ?_
      refine WP.aloadN d_X7_hallOf_18 0 rfl ?_
      refine WP.nnN d_X7_hallOf_20 ?_
      refine WP.aconst_null d_X7_hallOf_23 ?_
      cases H
      exact WP.areturn (x := none) d_X7_hallOf_24 rfl (Nat.le_of_ble_eq_true rfl) (Nat.le_of_ble_eq_true rfl)
    · dsimp only at H
      refine WP.astore (lv9 := [(4, .ref z10), (3, .ref z4), (0, .ref t), (1, .int l1), (2, .int l2)]) d_X7_hallOf_12 (Nat.le_of_ble_eq_true rfl) rfl ?_
      refine WP.aload_n d_X7_hallOf_14 1 rfl ?_
      refine WP.nR d_X7_hallOf_15 ?_
      refine WP.aload d_X7_hallOf_18 0 rfl ?_
      refine WP.nnR d_X7_hallOf_20 ?_
      refine WP.aload_n d_X7_hallOf_25 2 rfl ?_
      obtain ⟨x11, ex11, H⟩ := ob H
      refine WP.fR d_X7_hallOf_26 gf_X7_30 (fun _ => rfl) ex11 ?_
      refine WP.aload_n d_X7_hallOf_29 1 rfl ?_
      refine WP.aload d_X7_hallOf_30 0 rfl ?_
      refine WP.bipush d_X7_hallOf_32 kb_30 ?_
      obtain ⟨h13, e12, H⟩ := ob H
      refine WP.cV (c := 2) (As := [.ref z4, .ref z10, .int 30]) (st := []) (st9 := []) (cl9 := 0) (sl9 := 0) d_X7_hallOf_34 (ok_X1_play V e12) tv_X1_play ti_X1_play ts_X1_play lk_X7_103 r_X7_hallOf_X1_play kc_X1_play (kd_X1_play e12) rfl rfl (Nat.le_of_ble_eq_true rfl) rfl rfl rfl ?_
      refine WP.aload_n d_X7_hallOf_37 2 rfl ?_
      obtain ⟨x14, ex14, H⟩ := ob H
      refine WP.fR d_X7_hallOf_38 gf_X7_30 (fun _ => rfl) ex14 ?_
      cases H
      exact WP.areturn (x := (some x14)) d_X7_hallOf_41 rfl (Nat.le_of_ble_eq_true rfl) (Nat.le_of_ble_eq_true rfl)

set_option maxRecDepth 20000 in
set_option maxHeartbeats 4000000 in
theorem ok_X7_isHour (V : EV) {h : HA} {l0 : Int32} {r : Int32} (H : X7_isHour l0 = some r) : MG V M_X7_isHour [.int l0] h (some (.int r)) h := by
  unfold X7_isHour at H
  refine MG.of (lv0 := [(0, .int l0)]) pn_X7 rfl (Nat.le_of_ble_eq_true rfl) ?_
  refine WP.iload_n d_X7_isHour_0 0 rfl ?_
  rcases oj H with ⟨hc, H⟩ | ⟨hc, H⟩
  · refine WP.if_lt_t d_X7_isHour_1 hc ?_
    refine WP.iconst d_X7_isHour_14 ki_0 ?_
    cases H
    exact WP.ireturn d_X7_isHour_15 rfl rfl (Nat.le_of_ble_eq_true rfl) (Nat.le_of_ble_eq_true rfl)
  · refine WP.if_lt_f d_X7_isHour_1 hc ?_
    refine WP.iload_n d_X7_isHour_4 0 rfl ?_
    refine WP.bipush d_X7_isHour_5 kb_99 ?_
    rcases oj H with ⟨hc, H⟩ | ⟨hc, H⟩
    · refine WP.icmp_gt_t d_X7_isHour_7 hc ?_
      refine WP.iconst d_X7_isHour_14 ki_0 ?_
      cases H
      exact WP.ireturn d_X7_isHour_15 rfl rfl (Nat.le_of_ble_eq_true rfl) (Nat.le_of_ble_eq_true rfl)
    · refine WP.icmp_gt_f d_X7_isHour_7 hc ?_
      refine WP.iconst d_X7_isHour_10 ki_1 ?_
      refine WP.goto d_X7_isHour_11 ?_
      cases H
      exact WP.ireturn d_X7_isHour_15 rfl rfl (Nat.le_of_ble_eq_true rfl) (Nat.le_of_ble_eq_true rfl)

set_option maxRecDepth 20000 in
set_option maxHeartbeats 4000000 in
theorem ok_X7_isLoud (V : EV) {h : HA} {l0 : Int32} {r : Int32} (H : X7_isLoud l0 = some r) : MG V M_X7_isLoud [.int l0] h (some (.int r)) h := by
  unfold X7_isLoud at H
  refine MG.of (lv0 := [(0, .int l0)]) pn_X7 rfl (Nat.le_of_ble_eq_true rfl) ?_
  refine WP.iload_n d_X7_isLoud_0 0 rfl ?_
  rcases oj H with ⟨hc, H⟩ | ⟨hc, H⟩
  · refine WP.if_lt_t d_X7_isLoud_1 hc ?_
    refine WP.iconst d_X7_isLoud_14 ki_0 ?_
    cases H
    exact WP.ireturn d_X7_isLoud_15 rfl rfl (Nat.le_of_ble_eq_true rfl) (Nat.le_of_ble_eq_true rfl)
  · refine WP.if_lt_f d_X7_isLoud_1 hc ?_
    refine WP.iload_n d_X7_isLoud_4 0 rfl ?_
    refine WP.bipush d_X7_isLoud_5 kb_9 ?_
    rcases oj H with ⟨hc, H⟩ | ⟨hc, H⟩
    · refine WP.icmp_gt_t d_X7_isLoud_7 hc ?_
      refine WP.iconst d_X7_isLoud_14 ki_0 ?_
      cases H
      exact WP.ireturn d_X7_isLoud_15 rfl rfl (Nat.le_of_ble_eq_true rfl) (Nat.le_of_ble_eq_true rfl)
    · refine WP.icmp_gt_f d_X7_isLoud_7 hc ?_
      refine WP.iconst d_X7_isLoud_10 ki_1 ?_
      refine WP.goto d_X7_isLoud_11 ?_
      cases H
      exact WP.ireturn d_X7_isLoud_15 rfl rfl (Nat.le_of_ble_eq_true rfl) (Nat.le_of_ble_eq_true rfl)

set_option maxRecDepth 20000 in
set_option maxHeartbeats 4000000 in
theorem ok_X7_court (V : EV) {h : HA} {t : Nat} {l1 : Int32} {l2 : Int32} {r : Int32} {hR : HA} (H : X7_court h t l1 l2 = some (r, hR)) : MG V M_X7_court [.ref t, .int l1, .int l2] h (some (.int r)) hR := by
  unfold X7_court at H
  obtain ⟨_, H⟩ := oc H
  refine MG.of (lv0 := [(0, .ref t), (1, .int l1), (2, .int l2)]) pn_X7 rfl (Nat.le_of_ble_eq_true rfl) ?_
  refine WP.aload_n d_X7_court_0 0 rfl ?_
  refine WP.iload_n d_X7_court_1 1 rfl ?_
  obtain ⟨⟨x3, h2⟩, e1, H⟩ := ob H
  refine WP.cV (c := 8) (As := [.int l1]) (st := []) (st9 := va_rf x3 :: []) (cl9 := 0) (sl9 := 0) d_X7_court_2 (ok_X7_courtAt V e1) tv_X7_courtAt ti_X7_courtAt ts_X7_courtAt lk_X7_95 r_X7_court_X7_courtAt kc_X7_courtAt (kd_X7_courtAt e1) rfl rfl (Nat.le_of_ble_eq_true rfl) rfl rfl rfl ?_
  rcases x3 with _ | z4
  · dsimp only at H
    refine WP.astore_nN (lv9 := [(3, .null), (0, .ref t), (1, .int l1), (2, .int l2)]) d_X7_court_5 (Nat.le_of_ble_eq_true rfl) rfl ?_
    refine WP.aload_nN d_X7_court_6 0 rfl ?_
    refine WP.nnN d_X7_court_7 ?_
    refine WP.iconst d_X7_court_10 ki_m1 ?_
    cases H
    exact WP.ireturn d_X7_court_11 rfl rfl (Nat.le_of_ble_eq_true rfl) (Nat.le_of_ble_eq_true rfl)
  · dsimp only at H
    refine WP.astore_n (lv9 := [(3, .ref z4), (0, .ref t), (1, .int l1), (2, .int l2)]) d_X7_court_5 (Nat.le_of_ble_eq_true rfl) rfl ?_
    refine WP.aload_n d_X7_court_6 0 rfl ?_
    refine WP.nnR d_X7_court_7 ?_
    refine WP.iload_n d_X7_court_12 3 rfl ?_
    rcases oj H with ⟨hq0, H⟩ | ⟨hq0, H⟩
    · refine WP.tsw (t := 52) 0 d_X7_court_13 (by rw [hq0]; decide) (by decide) rfl (by decide) ?_
      refine WP.aload_n d_X7_court_52 0 rfl ?_
      obtain ⟨x5, ex5, H⟩ := ob H
      refine WP.fI d_X7_court_53 gf_X7_107 (fun _ => rfl) ex5 ?_
      cases H
      exact WP.ireturn d_X7_court_56 rfl rfl (Nat.le_of_ble_eq_true rfl) (Nat.le_of_ble_eq_true rfl)
    · skip
      rcases oj H with ⟨hq1, H⟩ | ⟨hq1, H⟩
      · refine WP.tsw (t := 57) 1 d_X7_court_13 (by rw [hq1]; decide) (by decide) rfl (by decide) ?_
        refine WP.aload_n d_X7_court_57 0 rfl ?_
        obtain ⟨x6, ex6, H⟩ := ob H
        refine WP.fI d_X7_court_58 gf_X7_110 (fun _ => rfl) ex6 ?_
        cases H
        exact WP.ireturn d_X7_court_61 rfl rfl (Nat.le_of_ble_eq_true rfl) (Nat.le_of_ble_eq_true rfl)
      · skip
        rcases oj H with ⟨hq2, H⟩ | ⟨hq2, H⟩
        · refine WP.tsw (t := 62) 2 d_X7_court_13 (by rw [hq2]; decide) (by decide) rfl (by decide) ?_
          refine WP.aload_n d_X7_court_62 0 rfl ?_
          obtain ⟨x7, ex7, H⟩ := ob H
          refine WP.fJ d_X7_court_63 gf_X7_113 (fun _ => rfl) ex7 ?_
          obtain ⟨x9, e8, H⟩ := ob H
          refine WP.cS (As := [.long x7]) (st := []) (st9 := [.int x9]) (cl9 := 0) (sl9 := 0) d_X7_court_66 (ok_J13_bitCount_95d88 V (h := h2) e8) tv_J13_bitCount_95d88 ts_J13_bitCount_95d88 lk_X7_117 r_X7_court_J13_bitCount_95d88 rfl rfl (Nat.le_of_ble_eq_true rfl) rfl rfl rfl ?_
          cases H
          exact WP.ireturn d_X7_court_69 rfl rfl (Nat.le_of_ble_eq_true rfl) (Nat.le_of_ble_eq_true rfl)
        · skip
          rcases oj H with ⟨hq3, H⟩ | ⟨hq3, H⟩
          · refine WP.tsw (t := 70) 3 d_X7_court_13 (by rw [hq3]; decide) (by decide) rfl (by decide) ?_
            refine WP.aload_n d_X7_court_70 0 rfl ?_
            obtain ⟨x10, ex10, H⟩ := ob H
            refine WP.fI d_X7_court_71 gf_X7_123 (fun _ => rfl) ex10 ?_
            cases H
            exact WP.ireturn d_X7_court_74 rfl rfl (Nat.le_of_ble_eq_true rfl) (Nat.le_of_ble_eq_true rfl)
          · skip
            rcases oj H with ⟨hq4, H⟩ | ⟨hq4, H⟩
            · refine WP.tsw (t := 75) 4 d_X7_court_13 (by rw [hq4]; decide) (by decide) rfl (by decide) ?_
              refine WP.aload_n d_X7_court_75 0 rfl ?_
              obtain ⟨x11, ex11, H⟩ := ob H
              refine WP.fI d_X7_court_76 gf_X7_126 (fun _ => rfl) ex11 ?_
              cases H
              exact WP.ireturn d_X7_court_79 rfl rfl (Nat.le_of_ble_eq_true rfl) (Nat.le_of_ble_eq_true rfl)
            · skip
              rcases oj H with ⟨hq5, H⟩ | ⟨hq5, H⟩
              · refine WP.tsw (t := 80) 5 d_X7_court_13 (by rw [hq5]; decide) (by decide) rfl (by decide) ?_
                refine WP.aload_n d_X7_court_80 0 rfl ?_
                obtain ⟨x13, e12, H⟩ := ob H
                refine WP.cV (c := 1) (As := []) (st := []) (st9 := [.int x13]) (cl9 := 0) (sl9 := 0) d_X7_court_81 (ok_X0_quarter V e12) tv_X0_quarter ti_X0_quarter ts_X0_quarter lk_X7_129 r_X7_court_X0_quarter kc_X0_quarter (kd_X0_quarter e12) rfl rfl (Nat.le_of_ble_eq_true rfl) rfl rfl rfl ?_
                cases H
                exact WP.ireturn d_X7_court_84 rfl rfl (Nat.le_of_ble_eq_true rfl) (Nat.le_of_ble_eq_true rfl)
              · skip
                refine WP.tswd (t := 85) d_X7_court_13 (tsw_out (n := 6) [0, 1, 2, 3, 4, 5] (by decide) (by decide +kernel) (List.forall_mem_cons.mpr ⟨hq0, (List.forall_mem_cons.mpr ⟨hq1, (List.forall_mem_cons.mpr ⟨hq2, (List.forall_mem_cons.mpr ⟨hq3, (List.forall_mem_cons.mpr ⟨hq4, (List.forall_mem_cons.mpr ⟨hq5, (fun _ hz9 => absurd hz9 List.not_mem_nil)⟩)⟩)⟩)⟩)⟩)⟩)) (by decide) ?_
                refine WP.iconst d_X7_court_85 ki_m1 ?_
                cases H
                exact WP.ireturn d_X7_court_86 rfl rfl (Nat.le_of_ble_eq_true rfl) (Nat.le_of_ble_eq_true rfl)

set_option maxRecDepth 20000 in
set_option maxHeartbeats 4000000 in
theorem ok_X7_wall (V : EV) {h : HA} {t : Nat} {l1 : Int32} {l2 : Int32} {r : Int32} {hR : HA} (H : X7_wall h t l1 l2 = some (r, hR)) : MG V M_X7_wall [.ref t, .int l1, .int l2] h (some (.int r)) hR := by
  unfold X7_wall at H
  obtain ⟨_, H⟩ := oc H
  refine MG.of (lv0 := [(0, .ref t), (1, .int l1), (2, .int l2)]) pn_X7 rfl (Nat.le_of_ble_eq_true rfl) ?_
  refine WP.aload_n d_X7_wall_0 0 rfl ?_
  refine WP.iload_n d_X7_wall_1 1 rfl ?_
  obtain ⟨⟨x3, h2⟩, e1, H⟩ := ob H
  refine WP.cV (c := 8) (As := [.int l1]) (st := []) (st9 := va_rf x3 :: []) (cl9 := 0) (sl9 := 0) d_X7_wall_2 (ok_X7_courtAt V e1) tv_X7_courtAt ti_X7_courtAt ts_X7_courtAt lk_X7_95 r_X7_wall_X7_courtAt kc_X7_courtAt (kd_X7_courtAt e1) rfl rfl (Nat.le_of_ble_eq_true rfl) rfl rfl rfl ?_
  rcases x3 with _ | z4
  · dsimp only at H
    refine WP.astore_nN (lv9 := [(3, .null), (0, .ref t), (1, .int l1), (2, .int l2)]) d_X7_wall_5 (Nat.le_of_ble_eq_true rfl) rfl ?_
    refine WP.aload_nN d_X7_wall_6 0 rfl ?_
    refine WP.nN d_X7_wall_7 ?_
    refine WP.iconst d_X7_wall_35 ki_0 ?_
    cases H
    exact WP.ireturn d_X7_wall_36 rfl rfl (Nat.le_of_ble_eq_true rfl) (Nat.le_of_ble_eq_true rfl)
  · dsimp only at H
    refine WP.astore_n (lv9 := [(3, .ref z4), (0, .ref t), (1, .int l1), (2, .int l2)]) d_X7_wall_5 (Nat.le_of_ble_eq_true rfl) rfl ?_
    refine WP.aload_n d_X7_wall_6 0 rfl ?_
    refine WP.nR d_X7_wall_7 ?_
    refine WP.iload_n d_X7_wall_10 3 rfl ?_
    rcases oj H with ⟨hc, H⟩ | ⟨hc, H⟩
    · refine WP.if_lt_t d_X7_wall_11 hc ?_
      refine WP.iconst d_X7_wall_35 ki_0 ?_
      cases H
      exact WP.ireturn d_X7_wall_36 rfl rfl (Nat.le_of_ble_eq_true rfl) (Nat.le_of_ble_eq_true rfl)
    · refine WP.if_lt_f d_X7_wall_11 hc ?_
      refine WP.iload_n d_X7_wall_14 3 rfl ?_
      refine WP.bipush d_X7_wall_15 kb_64 ?_
      rcases oj H with ⟨hc, H⟩ | ⟨hc, H⟩
      · refine WP.icmp_ge_t d_X7_wall_17 hc ?_
        refine WP.aload_n d_X7_wall_20 0 rfl ?_
        obtain ⟨x5, ex5, H⟩ := ob H
        refine WP.fJ d_X7_wall_21 gf_X7_113 (fun _ => rfl) ex5 ?_
        refine WP.iload_n d_X7_wall_24 3 rfl ?_
        obtain ⟨x7, e6, H⟩ := ob H
        refine WP.cS (As := [.long x5, .int l2]) (st := []) (st9 := [.int x7]) (cl9 := 0) (sl9 := 0) d_X7_wall_25 (ok_X7_has V (h := h2) e6) tv_X7_has ts_X7_has lk_X7_133 r_X7_wall_X7_has rfl rfl (Nat.le_of_ble_eq_true rfl) rfl rfl rfl ?_
        rcases oj H with ⟨hc, H⟩ | ⟨hc, H⟩
        · refine WP.if_eq_t d_X7_wall_28 hc ?_
          refine WP.iconst d_X7_wall_35 ki_0 ?_
          cases H
          exact WP.ireturn d_X7_wall_36 rfl rfl (Nat.le_of_ble_eq_true rfl) (Nat.le_of_ble_eq_true rfl)
        · refine WP.if_eq_f d_X7_wall_28 hc ?_
          refine WP.iconst d_X7_wall_31 ki_1 ?_
          refine WP.goto d_X7_wall_32 ?_
          cases H
          exact WP.ireturn d_X7_wall_36 rfl rfl (Nat.le_of_ble_eq_true rfl) (Nat.le_of_ble_eq_true rfl)
      · refine WP.icmp_ge_f d_X7_wall_17 hc ?_
        refine WP.iconst d_X7_wall_35 ki_0 ?_
        cases H
        exact WP.ireturn d_X7_wall_36 rfl rfl (Nat.le_of_ble_eq_true rfl) (Nat.le_of_ble_eq_true rfl)

set_option maxRecDepth 20000 in
set_option maxHeartbeats 4000000 in
theorem ok_X7_judge (V : EV) {h : HA} {t : Nat} {l1 : Int32} {l2 : Int32} {l3 : Int32} {r : Int32} {hR : HA} (H : X7_judge h t l1 l2 l3 = some (r, hR)) : MG V M_X7_judge [.ref t, .int l1, .int l2, .int l3] h (some (.int r)) hR := by
  unfold X7_judge at H
  obtain ⟨_, H⟩ := oc H
  refine MG.of (lv0 := [(0, .ref t), (1, .int l1), (2, .int l2), (3, .int l3)]) pn_X7 rfl (Nat.le_of_ble_eq_true rfl) ?_
  refine WP.aload_n d_X7_judge_0 0 rfl ?_
  refine WP.iload_n d_X7_judge_1 1 rfl ?_
  obtain ⟨⟨x3, h2⟩, e1, H⟩ := ob H
  refine WP.cV (c := 8) (As := [.int l1]) (st := []) (st9 := va_rf x3 :: []) (cl9 := 0) (sl9 := 0) d_X7_judge_2 (ok_X7_courtAt V e1) tv_X7_courtAt ti_X7_courtAt ts_X7_courtAt lk_X7_95 r_X7_judge_X7_courtAt kc_X7_courtAt (kd_X7_courtAt e1) rfl rfl (Nat.le_of_ble_eq_true rfl) rfl rfl rfl ?_
  rcases x3 with _ | z4
  · dsimp only at H
    refine WP.astoreN (lv9 := [(4, .null), (0, .ref t), (1, .int l1), (2, .int l2), (3, .int l3)]) d_X7_judge_5 (Nat.le_of_ble_eq_true rfl) rfl ?_
    refine WP.aloadN d_X7_judge_7 0 rfl ?_
    refine WP.nN d_X7_judge_9 ?_
    refine WP.iconst d_X7_judge_21 ki_m1 ?_
    cases H
    exact WP.ireturn d_X7_judge_22 rfl rfl (Nat.le_of_ble_eq_true rfl) (Nat.le_of_ble_eq_true rfl)
  · dsimp only at H
    refine WP.astore (lv9 := [(4, .ref z4), (0, .ref t), (1, .int l1), (2, .int l2), (3, .int l3)]) d_X7_judge_5 (Nat.le_of_ble_eq_true rfl) rfl ?_
    refine WP.aload d_X7_judge_7 0 rfl ?_
    refine WP.nR d_X7_judge_9 ?_
    refine WP.aload d_X7_judge_12 0 rfl ?_
    refine WP.iload_n d_X7_judge_14 3 rfl ?_
    obtain ⟨x6, e5, H⟩ := ob H
    refine WP.cV (c := 1) (As := [.int l2]) (st := []) (st9 := [.int x6]) (cl9 := 0) (sl9 := 0) d_X7_judge_15 (ok_X0_hasJudge V e5) tv_X0_hasJudge ti_X0_hasJudge ts_X0_hasJudge lk_X7_137 r_X7_judge_X0_hasJudge kc_X0_hasJudge (kd_X0_hasJudge e5) rfl rfl (Nat.le_of_ble_eq_true rfl) rfl rfl rfl ?_
    rcases oj H with ⟨hc, H⟩ | ⟨hc, H⟩
    · refine WP.if_ne_t d_X7_judge_18 hc ?_
      refine WP.iconst d_X7_judge_21 ki_m1 ?_
      cases H
      exact WP.ireturn d_X7_judge_22 rfl rfl (Nat.le_of_ble_eq_true rfl) (Nat.le_of_ble_eq_true rfl)
    · refine WP.if_ne_f d_X7_judge_18 hc ?_
      refine WP.iload_n d_X7_judge_23 4 rfl ?_
      obtain ⟨s16, hs7, H⟩ := ob H
      rcases s16 with r13 | _
      · dsimp only at H
        rcases oj hs7 with ⟨hc, hs7⟩ | ⟨hc, hs7⟩
        · refine WP.if_lt_t d_X7_judge_24 hc ?_
          cases hs7
        · refine WP.if_lt_f d_X7_judge_24 hc ?_
          refine WP.iload_n d_X7_judge_27 4 rfl ?_
          refine WP.iconst d_X7_judge_28 ki_5 ?_
          rcases oj hs7 with ⟨hc, hs7⟩ | ⟨hc, hs7⟩
          · refine WP.icmp_ge_t d_X7_judge_29 hc ?_
            refine WP.aload d_X7_judge_32 0 rfl ?_
            refine WP.iload_n d_X7_judge_34 3 rfl ?_
            refine WP.iload_n d_X7_judge_35 4 rfl ?_
            obtain ⟨x15, e14, hs7⟩ := ob hs7
            refine WP.cV (c := 1) (As := [.int l2, .int l3]) (st := []) (st9 := [.int x15]) (cl9 := 0) (sl9 := 0) d_X7_judge_36 (ok_X0_of V e14) tv_X0_of ti_X0_of ts_X0_of lk_X7_141 r_X7_judge_X0_of kc_X0_of (kd_X0_of e14) rfl rfl (Nat.le_of_ble_eq_true rfl) rfl rfl rfl ?_
            cases hs7
            cases H
            exact WP.ireturn d_X7_judge_39 rfl rfl (Nat.le_of_ble_eq_true rfl) (Nat.le_of_ble_eq_true rfl)
          · refine WP.icmp_ge_f d_X7_judge_29 hc ?_
            cases hs7
      · dsimp only at H
        have J8 : WP V M_X7_judge 40 [(2, .int l2), (3, .int l3), (4, .ref z4)] [] h2 0 0 (some (.int r)) hR := by
          refine WP.iload_n d_X7_judge_40 1 rfl ?_
          refine WP.bipush d_X7_judge_41 kb_10 ?_
          rcases oj H with ⟨hc, H⟩ | ⟨hc, H⟩
          · refine WP.icmp_lt_t d_X7_judge_43 hc ?_
            refine WP.iconst d_X7_judge_63 ki_m1 ?_
            cases H
            exact WP.ireturn d_X7_judge_64 rfl rfl (Nat.le_of_ble_eq_true rfl) (Nat.le_of_ble_eq_true rfl)
          · refine WP.icmp_lt_f d_X7_judge_43 hc ?_
            refine WP.iload_n d_X7_judge_46 1 rfl ?_
            refine WP.bipush d_X7_judge_47 kb_109 ?_
            rcases oj H with ⟨hc, H⟩ | ⟨hc, H⟩
            · refine WP.icmp_gt_t d_X7_judge_49 hc ?_
              refine WP.iconst d_X7_judge_63 ki_m1 ?_
              cases H
              exact WP.ireturn d_X7_judge_64 rfl rfl (Nat.le_of_ble_eq_true rfl) (Nat.le_of_ble_eq_true rfl)
            · refine WP.icmp_gt_f d_X7_judge_49 hc ?_
              refine WP.aload d_X7_judge_52 2 rfl ?_
              refine WP.iload_n d_X7_judge_54 0 rfl ?_
              refine WP.iload_n d_X7_judge_55 1 rfl ?_
              refine WP.bipush d_X7_judge_56 kb_10 ?_
              refine WP.isub d_X7_judge_58 ?_
              obtain ⟨x12, e11, H⟩ := ob H
              refine WP.cV (c := 1) (As := [.int l2, .int (l3 - 10)]) (st := []) (st9 := [.int x12]) (cl9 := 0) (sl9 := 0) d_X7_judge_59 (ok_X0_faces V e11) tv_X0_faces ti_X0_faces ts_X0_faces lk_X7_144 r_X7_judge_X0_faces kc_X0_faces (kd_X0_faces e11) rfl rfl (Nat.le_of_ble_eq_true rfl) rfl rfl rfl ?_
              cases H
              exact WP.ireturn d_X7_judge_62 rfl rfl (Nat.le_of_ble_eq_true rfl) (Nat.le_of_ble_eq_true rfl)
        rcases oj hs7 with ⟨hc, hs7⟩ | ⟨hc, hs7⟩
        · refine WP.if_lt_t d_X7_judge_24 hc ?_
          cases hs7
          exact WP.sub [3, 4, 0] rfl J8
        · refine WP.if_lt_f d_X7_judge_24 hc ?_
          refine WP.iload_n d_X7_judge_27 4 rfl ?_
          refine WP.iconst d_X7_judge_28 ki_5 ?_
          rcases oj hs7 with ⟨hc, hs7⟩ | ⟨hc, hs7⟩
          · refine WP.icmp_ge_t d_X7_judge_29 hc ?_
            refine WP.aload d_X7_judge_32 0 rfl ?_
            refine WP.iload_n d_X7_judge_34 3 rfl ?_
            refine WP.iload_n d_X7_judge_35 4 rfl ?_
            obtain ⟨x10, e9, hs7⟩ := ob hs7
            refine WP.cV (c := 1) (As := [.int l2, .int l3]) (st := []) (st9 := [.int x10]) (cl9 := 0) (sl9 := 0) d_X7_judge_36 (ok_X0_of V e9) tv_X0_of ti_X0_of ts_X0_of lk_X7_141 r_X7_judge_X0_of kc_X0_of (kd_X0_of e9) rfl rfl (Nat.le_of_ble_eq_true rfl) rfl rfl rfl ?_
            cases hs7
          · refine WP.icmp_ge_f d_X7_judge_29 hc ?_
            cases hs7
            exact WP.sub [3, 4, 0] rfl J8

set_option maxRecDepth 20000 in
set_option maxHeartbeats 4000000 in
theorem ok_X7_pleader (V : EV) {h : HA} {t : Nat} {l1 : Int32} {l2 : Int32} {l3 : Int32} {r : Int32} {hR : HA} (H : X7_pleader h t l1 l2 l3 = some (r, hR)) : MG V M_X7_pleader [.ref t, .int l1, .int l2, .int l3] h (some (.int r)) hR := by
  unfold X7_pleader at H
  obtain ⟨_, H⟩ := oc H
  refine MG.of (lv0 := [(0, .ref t), (1, .int l1), (2, .int l2), (3, .int l3)]) pn_X7 rfl (Nat.le_of_ble_eq_true rfl) ?_
  refine WP.aload_n d_X7_pleader_0 0 rfl ?_
  refine WP.iload_n d_X7_pleader_1 1 rfl ?_
  obtain ⟨⟨x3, h2⟩, e1, H⟩ := ob H
  refine WP.cV (c := 8) (As := [.int l1]) (st := []) (st9 := va_rf x3 :: []) (cl9 := 0) (sl9 := 0) d_X7_pleader_2 (ok_X7_courtAt V e1) tv_X7_courtAt ti_X7_courtAt ts_X7_courtAt lk_X7_95 r_X7_pleader_X7_courtAt kc_X7_courtAt (kd_X7_courtAt e1) rfl rfl (Nat.le_of_ble_eq_true rfl) rfl rfl rfl ?_
  rcases x3 with _ | z4
  · dsimp only at H
    refine WP.astoreN (lv9 := [(4, .null), (0, .ref t), (1, .int l1), (2, .int l2), (3, .int l3)]) d_X7_pleader_5 (Nat.le_of_ble_eq_true rfl) rfl ?_
    refine WP.aloadN d_X7_pleader_7 0 rfl ?_
    refine WP.nN d_X7_pleader_9 ?_
    refine WP.bipush d_X7_pleader_21 kb_m2 ?_
    cases H
    exact WP.ireturn d_X7_pleader_23 rfl rfl (Nat.le_of_ble_eq_true rfl) (Nat.le_of_ble_eq_true rfl)
  · dsimp only at H
    refine WP.astore (lv9 := [(4, .ref z4), (0, .ref t), (1, .int l1), (2, .int l2), (3, .int l3)]) d_X7_pleader_5 (Nat.le_of_ble_eq_true rfl) rfl ?_
    refine WP.aload d_X7_pleader_7 0 rfl ?_
    refine WP.nR d_X7_pleader_9 ?_
    refine WP.aload d_X7_pleader_12 0 rfl ?_
    refine WP.iload_n d_X7_pleader_14 3 rfl ?_
    obtain ⟨x6, e5, H⟩ := ob H
    refine WP.cV (c := 1) (As := [.int l2]) (st := []) (st9 := [.int x6]) (cl9 := 0) (sl9 := 0) d_X7_pleader_15 (ok_X0_hasPleader V e5) tv_X0_hasPleader ti_X0_hasPleader ts_X0_hasPleader lk_X7_147 r_X7_pleader_X0_hasPleader kc_X0_hasPleader (kd_X0_hasPleader e5) rfl rfl (Nat.le_of_ble_eq_true rfl) rfl rfl rfl ?_
    rcases oj H with ⟨hc, H⟩ | ⟨hc, H⟩
    · refine WP.if_ne_t d_X7_pleader_18 hc ?_
      refine WP.bipush d_X7_pleader_21 kb_m2 ?_
      cases H
      exact WP.ireturn d_X7_pleader_23 rfl rfl (Nat.le_of_ble_eq_true rfl) (Nat.le_of_ble_eq_true rfl)
    · refine WP.if_ne_f d_X7_pleader_18 hc ?_
      refine WP.iload_n d_X7_pleader_24 4 rfl ?_
      rcases oj H with ⟨hc, H⟩ | ⟨hc, H⟩
      · refine WP.if_eq_t d_X7_pleader_25 hc ?_
        refine WP.aload d_X7_pleader_38 0 rfl ?_
        obtain ⟨x7, ex7, H⟩ := ob H
        refine WP.fR d_X7_pleader_40 gf_X7_153 (fun _ => rfl) ex7 ?_
        refine WP.iload_n d_X7_pleader_43 3 rfl ?_
        obtain ⟨x8, ex8, H⟩ := ob H
        refine WP.iald d_X7_pleader_44 ex8 ?_
        cases H
        exact WP.ireturn d_X7_pleader_45 rfl rfl (Nat.le_of_ble_eq_true rfl) (Nat.le_of_ble_eq_true rfl)
      · refine WP.if_eq_f d_X7_pleader_25 hc ?_
        refine WP.aload d_X7_pleader_28 0 rfl ?_
        obtain ⟨x9, ex9, H⟩ := ob H
        refine WP.fR d_X7_pleader_30 gf_X7_150 (fun _ => rfl) ex9 ?_
        refine WP.iload_n d_X7_pleader_33 3 rfl ?_
        obtain ⟨x10, ex10, H⟩ := ob H
        refine WP.iald d_X7_pleader_34 ex10 ?_
        refine WP.goto d_X7_pleader_35 ?_
        cases H
        exact WP.ireturn d_X7_pleader_45 rfl rfl (Nat.le_of_ble_eq_true rfl) (Nat.le_of_ble_eq_true rfl)

set_option maxRecDepth 20000 in
set_option maxHeartbeats 4000000 in
theorem ok_X7_far (V : EV) {h : HA} {t : Nat} {l1 : Int32} {l2 : Int32} {l3 : Int32} {r : Int32} {hR : HA} (H : X7_far h t l1 l2 l3 = some (r, hR)) : MG V M_X7_far [.ref t, .int l1, .int l2, .int l3] h (some (.int r)) hR := by
  unfold X7_far at H
  obtain ⟨_, H⟩ := oc H
  refine MG.of (lv0 := [(0, .ref t), (1, .int l1), (2, .int l2), (3, .int l3)]) pn_X7 rfl (Nat.le_of_ble_eq_true rfl) ?_
  refine WP.aload_n d_X7_far_0 0 rfl ?_
  refine WP.iload_n d_X7_far_1 1 rfl ?_
  obtain ⟨⟨x3, h2⟩, e1, H⟩ := ob H
  refine WP.cV (c := 8) (As := [.int l1]) (st := []) (st9 := va_rf x3 :: []) (cl9 := 0) (sl9 := 0) d_X7_far_2 (ok_X7_courtAt V e1) tv_X7_courtAt ti_X7_courtAt ts_X7_courtAt lk_X7_95 r_X7_far_X7_courtAt kc_X7_courtAt (kd_X7_courtAt e1) rfl rfl (Nat.le_of_ble_eq_true rfl) rfl rfl rfl ?_
  rcases x3 with _ | z4
  · dsimp only at H
    refine WP.astoreN (lv9 := [(4, .null), (0, .ref t), (1, .int l1), (2, .int l2), (3, .int l3)]) d_X7_far_5 (Nat.le_of_ble_eq_true rfl) rfl ?_
    refine WP.aloadN d_X7_far_7 0 rfl ?_
    refine WP.nN d_X7_far_9 ?_
    refine WP.iconst d_X7_far_30 ki_m1 ?_
    cases H
    exact WP.ireturn d_X7_far_31 rfl rfl (Nat.le_of_ble_eq_true rfl) (Nat.le_of_ble_eq_true rfl)
  · dsimp only at H
    refine WP.astore (lv9 := [(4, .ref z4), (0, .ref t), (1, .int l1), (2, .int l2), (3, .int l3)]) d_X7_far_5 (Nat.le_of_ble_eq_true rfl) rfl ?_
    refine WP.aload d_X7_far_7 0 rfl ?_
    refine WP.nR d_X7_far_9 ?_
    refine WP.aload d_X7_far_12 0 rfl ?_
    refine WP.iload_n d_X7_far_14 3 rfl ?_
    obtain ⟨x6, e5, H⟩ := ob H
    refine WP.cV (c := 1) (As := [.int l2]) (st := []) (st9 := [.int x6]) (cl9 := 0) (sl9 := 0) d_X7_far_15 (ok_X0_isOpen V e5) tv_X0_isOpen ti_X0_isOpen ts_X0_isOpen lk_X7_156 r_X7_far_X0_isOpen kc_X0_isOpen (kd_X0_isOpen e5) rfl rfl (Nat.le_of_ble_eq_true rfl) rfl rfl rfl ?_
    rcases oj H with ⟨hc, H⟩ | ⟨hc, H⟩
    · refine WP.if_eq_t d_X7_far_18 hc ?_
      refine WP.iconst d_X7_far_30 ki_m1 ?_
      cases H
      exact WP.ireturn d_X7_far_31 rfl rfl (Nat.le_of_ble_eq_true rfl) (Nat.le_of_ble_eq_true rfl)
    · refine WP.if_eq_f d_X7_far_18 hc ?_
      refine WP.aload d_X7_far_21 0 rfl ?_
      refine WP.iload_n d_X7_far_23 4 rfl ?_
      obtain ⟨x8, e7, H⟩ := ob H
      refine WP.cV (c := 1) (As := [.int l3]) (st := []) (st9 := [.int x8]) (cl9 := 0) (sl9 := 0) d_X7_far_24 (ok_X0_isOpen V e7) tv_X0_isOpen ti_X0_isOpen ts_X0_isOpen lk_X7_156 r_X7_far_X0_isOpen kc_X0_isOpen (kd_X0_isOpen e7) rfl rfl (Nat.le_of_ble_eq_true rfl) rfl rfl rfl ?_
      rcases oj H with ⟨hc, H⟩ | ⟨hc, H⟩
      · refine WP.if_ne_t d_X7_far_27 hc ?_
        refine WP.iconst d_X7_far_30 ki_m1 ?_
        cases H
        exact WP.ireturn d_X7_far_31 rfl rfl (Nat.le_of_ble_eq_true rfl) (Nat.le_of_ble_eq_true rfl)
      · refine WP.if_ne_f d_X7_far_27 hc ?_
        refine WP.aload d_X7_far_32 0 rfl ?_
        refine WP.iload_n d_X7_far_34 3 rfl ?_
        refine WP.lconst d_X7_far_35 kl_1 ?_
        refine WP.iload_n d_X7_far_36 4 rfl ?_
        refine WP.lshl d_X7_far_37 ?_
        obtain ⟨x10, e9, H⟩ := ob H
        refine WP.cV (c := 1) (As := [.int l2, .long (shlJ 1 l3)]) (st := []) (st9 := [.int x10]) (cl9 := 0) (sl9 := 0) d_X7_far_38 (ok_X0_steps V e9) tv_X0_steps ti_X0_steps ts_X0_steps lk_X7_159 r_X7_far_X0_steps kc_X0_steps (kd_X0_steps e9) rfl rfl (Nat.le_of_ble_eq_true rfl) rfl rfl rfl ?_
        cases H
        exact WP.ireturn d_X7_far_41 rfl rfl (Nat.le_of_ble_eq_true rfl) (Nat.le_of_ble_eq_true rfl)

set_option maxRecDepth 20000 in
set_option maxHeartbeats 4000000 in
theorem ok_X7_comes (V : EV) {h : HA} {t : Nat} {l1 : Int32} {l2 : Int32} {l3 : Int32} {l4 : Int32} {r : Int32} {hR : HA} (H : X7_comes h t l1 l2 l3 l4 = some (r, hR)) : MG V M_X7_comes [.ref t, .int l1, .int l2, .int l3, .int l4] h (some (.int r)) hR := by
  unfold X7_comes at H
  obtain ⟨_, H⟩ := oc H
  refine MG.of (lv0 := [(0, .ref t), (1, .int l1), (2, .int l2), (3, .int l3), (4, .int l4)]) pn_X7 rfl (Nat.le_of_ble_eq_true rfl) ?_
  refine WP.aload_n d_X7_comes_0 0 rfl ?_
  refine WP.iload_n d_X7_comes_1 1 rfl ?_
  obtain ⟨⟨x3, h2⟩, e1, H⟩ := ob H
  refine WP.cV (c := 8) (As := [.int l1]) (st := []) (st9 := va_rf x3 :: []) (cl9 := 0) (sl9 := 0) d_X7_comes_2 (ok_X7_courtAt V e1) tv_X7_courtAt ti_X7_courtAt ts_X7_courtAt lk_X7_95 r_X7_comes_X7_courtAt kc_X7_courtAt (kd_X7_courtAt e1) rfl rfl (Nat.le_of_ble_eq_true rfl) rfl rfl rfl ?_
  rcases x3 with _ | z4
  · dsimp only at H
    refine WP.astoreN (lv9 := [(5, .null), (0, .ref t), (1, .int l1), (2, .int l2), (3, .int l3), (4, .int l4)]) d_X7_comes_5 (Nat.le_of_ble_eq_true rfl) rfl ?_
    refine WP.aloadN d_X7_comes_7 0 rfl ?_
    refine WP.nN d_X7_comes_9 ?_
    refine WP.iconst d_X7_comes_38 ki_m1 ?_
    cases H
    exact WP.ireturn d_X7_comes_39 rfl rfl (Nat.le_of_ble_eq_true rfl) (Nat.le_of_ble_eq_true rfl)
  · dsimp only at H
    refine WP.astore (lv9 := [(5, .ref z4), (0, .ref t), (1, .int l1), (2, .int l2), (3, .int l3), (4, .int l4)]) d_X7_comes_5 (Nat.le_of_ble_eq_true rfl) rfl ?_
    refine WP.aload d_X7_comes_7 0 rfl ?_
    refine WP.nR d_X7_comes_9 ?_
    refine WP.aload d_X7_comes_12 0 rfl ?_
    refine WP.iload_n d_X7_comes_14 3 rfl ?_
    obtain ⟨x6, e5, H⟩ := ob H
    refine WP.cV (c := 1) (As := [.int l2]) (st := []) (st9 := [.int x6]) (cl9 := 0) (sl9 := 0) d_X7_comes_15 (ok_X0_hasJudge V e5) tv_X0_hasJudge ti_X0_hasJudge ts_X0_hasJudge lk_X7_137 r_X7_comes_X0_hasJudge kc_X0_hasJudge (kd_X0_hasJudge e5) rfl rfl (Nat.le_of_ble_eq_true rfl) rfl rfl rfl ?_
    rcases oj H with ⟨hc, H⟩ | ⟨hc, H⟩
    · refine WP.if_eq_t d_X7_comes_18 hc ?_
      refine WP.iconst d_X7_comes_38 ki_m1 ?_
      cases H
      exact WP.ireturn d_X7_comes_39 rfl rfl (Nat.le_of_ble_eq_true rfl) (Nat.le_of_ble_eq_true rfl)
    · refine WP.if_eq_f d_X7_comes_18 hc ?_
      refine WP.aload d_X7_comes_21 0 rfl ?_
      refine WP.iload_n d_X7_comes_23 4 rfl ?_
      obtain ⟨x8, e7, H⟩ := ob H
      refine WP.cV (c := 1) (As := [.int l3]) (st := []) (st9 := [.int x8]) (cl9 := 0) (sl9 := 0) d_X7_comes_24 (ok_X0_isOpen V e7) tv_X0_isOpen ti_X0_isOpen ts_X0_isOpen lk_X7_156 r_X7_comes_X0_isOpen kc_X0_isOpen (kd_X0_isOpen e7) rfl rfl (Nat.le_of_ble_eq_true rfl) rfl rfl rfl ?_
      rcases oj H with ⟨hc, H⟩ | ⟨hc, H⟩
      · refine WP.if_eq_t d_X7_comes_27 hc ?_
        refine WP.iconst d_X7_comes_38 ki_m1 ?_
        cases H
        exact WP.ireturn d_X7_comes_39 rfl rfl (Nat.le_of_ble_eq_true rfl) (Nat.le_of_ble_eq_true rfl)
      · refine WP.if_eq_f d_X7_comes_27 hc ?_
        refine WP.iload d_X7_comes_30 5 rfl ?_
        obtain ⟨x10, e9, H⟩ := ob H
        refine WP.cS (As := [.int l4]) (st := []) (st9 := [.int x10]) (cl9 := 0) (sl9 := 0) d_X7_comes_32 (ok_X7_isHour V (h := h2) e9) tv_X7_isHour ts_X7_isHour lk_X7_163 r_X7_comes_X7_isHour rfl rfl (Nat.le_of_ble_eq_true rfl) rfl rfl rfl ?_
        rcases oj H with ⟨hc, H⟩ | ⟨hc, H⟩
        · refine WP.if_ne_t d_X7_comes_35 hc ?_
          refine WP.iconst d_X7_comes_38 ki_m1 ?_
          cases H
          exact WP.ireturn d_X7_comes_39 rfl rfl (Nat.le_of_ble_eq_true rfl) (Nat.le_of_ble_eq_true rfl)
        · refine WP.if_ne_f d_X7_comes_35 hc ?_
          refine WP.iload_n d_X7_comes_40 4 rfl ?_
          refine WP.aload d_X7_comes_41 0 rfl ?_
          refine WP.iload_n d_X7_comes_43 3 rfl ?_
          refine WP.iconst d_X7_comes_44 ki_0 ?_
          obtain ⟨x12, e11, H⟩ := ob H
          refine WP.cV (c := 1) (As := [.int l2, .int 0]) (st := [.int l3]) (st9 := [.int x12, .int l3]) (cl9 := 0) (sl9 := 0) d_X7_comes_45 (ok_X0_of V e11) tv_X0_of ti_X0_of ts_X0_of lk_X7_141 r_X7_comes_X0_of kc_X0_of (kd_X0_of e11) rfl rfl (Nat.le_of_ble_eq_true rfl) rfl rfl rfl ?_
          rcases oj H with ⟨hc, H⟩ | ⟨hc, H⟩
          · refine WP.icmp_ne_t d_X7_comes_48 hc ?_
            refine WP.bipush d_X7_comes_51 kb_15 ?_
            cases H
            exact WP.ireturn d_X7_comes_53 rfl rfl (Nat.le_of_ble_eq_true rfl) (Nat.le_of_ble_eq_true rfl)
          · refine WP.icmp_ne_f d_X7_comes_48 hc ?_
            refine WP.aload d_X7_comes_54 0 rfl ?_
            refine WP.iload_n d_X7_comes_56 3 rfl ?_
            refine WP.iload_n d_X7_comes_57 4 rfl ?_
            obtain ⟨x14, e13, H⟩ := ob H
            refine WP.cV (c := 1) (As := [.int l2, .int l3]) (st := []) (st9 := [.int x14]) (cl9 := 0) (sl9 := 0) d_X7_comes_58 (ok_X0_sidesFrom V e13) tv_X0_sidesFrom ti_X0_sidesFrom ts_X0_sidesFrom lk_X7_166 r_X7_comes_X0_sidesFrom kc_X0_sidesFrom (kd_X0_sidesFrom e13) rfl rfl (Nat.le_of_ble_eq_true rfl) rfl rfl rfl ?_
            refine WP.istore (lv9 := [(6, .int x14), (5, .ref z4), (0, .ref t), (1, .int l1), (2, .int l2), (3, .int l3), (4, .int l4)]) d_X7_comes_61 (Nat.le_of_ble_eq_true rfl) rfl ?_
            refine WP.iload d_X7_comes_63 0 rfl ?_
            rcases oj H with ⟨hc, H⟩ | ⟨hc, H⟩
            · refine WP.if_ne_t d_X7_comes_65 hc ?_
              refine WP.iconst d_X7_comes_68 ki_m1 ?_
              refine WP.goto d_X7_comes_69 ?_
              cases H
              exact WP.ireturn d_X7_comes_87 rfl rfl (Nat.le_of_ble_eq_true rfl) (Nat.le_of_ble_eq_true rfl)
            · refine WP.if_ne_f d_X7_comes_65 hc ?_
              refine WP.iload d_X7_comes_72 0 rfl ?_
              refine WP.iconst d_X7_comes_74 ki_4 ?_
              refine WP.aload d_X7_comes_75 1 rfl ?_
              refine WP.iload_n d_X7_comes_77 4 rfl ?_
              refine WP.iload d_X7_comes_78 6 rfl ?_
              obtain ⟨x16, e15, H⟩ := ob H
              refine WP.cV (c := 1) (As := [.int l2, .int l4]) (st := [.int 4, .int x14]) (st9 := [.int x16, .int 4, .int x14]) (cl9 := 0) (sl9 := 0) d_X7_comes_80 (ok_X0_faces V e15) tv_X0_faces ti_X0_faces ts_X0_faces lk_X7_144 r_X7_comes_X0_faces kc_X0_faces (kd_X0_faces e15) rfl rfl (Nat.le_of_ble_eq_true rfl) rfl rfl rfl ?_
              refine WP.isub d_X7_comes_83 ?_
              obtain ⟨x18, e17, H⟩ := ob H
              refine WP.cS (As := [.int x14, .int (4 - x16)]) (st := []) (st9 := [.int x18]) (cl9 := 0) (sl9 := 0) d_X7_comes_84 (ok_X0_turned V (h := h2) e17) tv_X0_turned ts_X0_turned lk_X7_169 r_X7_comes_X0_turned rfl rfl (Nat.le_of_ble_eq_true rfl) rfl rfl rfl ?_
              cases H
              exact WP.ireturn d_X7_comes_87 rfl rfl (Nat.le_of_ble_eq_true rfl) (Nat.le_of_ble_eq_true rfl)

set_option maxRecDepth 20000 in
set_option maxHeartbeats 4000000 in
theorem ok_X7_ears (V : EV) {h : HA} {t : Nat} {l1 : Int32} {l2 : Int32} {l3 : Int32} {l4 : Int32} {r : Int32} {hR : HA} (H : X7_ears h t l1 l2 l3 l4 = some (r, hR)) : MG V M_X7_ears [.ref t, .int l1, .int l2, .int l3, .int l4] h (some (.int r)) hR := by
  unfold X7_ears at H
  obtain ⟨_, H⟩ := oc H
  refine MG.of (lv0 := [(0, .ref t), (1, .int l1), (2, .int l2), (3, .int l3), (4, .int l4)]) pn_X7 rfl (Nat.le_of_ble_eq_true rfl) ?_
  refine WP.aload_n d_X7_ears_0 0 rfl ?_
  refine WP.iload_n d_X7_ears_1 1 rfl ?_
  obtain ⟨⟨x3, h2⟩, e1, H⟩ := ob H
  refine WP.cV (c := 8) (As := [.int l1]) (st := []) (st9 := va_rf x3 :: []) (cl9 := 0) (sl9 := 0) d_X7_ears_2 (ok_X7_courtAt V e1) tv_X7_courtAt ti_X7_courtAt ts_X7_courtAt lk_X7_95 r_X7_ears_X7_courtAt kc_X7_courtAt (kd_X7_courtAt e1) rfl rfl (Nat.le_of_ble_eq_true rfl) rfl rfl rfl ?_
  rcases x3 with _ | z4
  · dsimp only at H
    refine WP.astoreN (lv9 := [(5, .null), (0, .ref t), (1, .int l1), (2, .int l2), (3, .int l3), (4, .int l4)]) d_X7_ears_5 (Nat.le_of_ble_eq_true rfl) rfl ?_
    refine WP.aloadN d_X7_ears_7 0 rfl ?_
    refine WP.nN d_X7_ears_9 ?_
    refine WP.iconst d_X7_ears_36 ki_m1 ?_
    cases H
    exact WP.ireturn d_X7_ears_37 rfl rfl (Nat.le_of_ble_eq_true rfl) (Nat.le_of_ble_eq_true rfl)
  · dsimp only at H
    refine WP.astore (lv9 := [(5, .ref z4), (0, .ref t), (1, .int l1), (2, .int l2), (3, .int l3), (4, .int l4)]) d_X7_ears_5 (Nat.le_of_ble_eq_true rfl) rfl ?_
    refine WP.aload d_X7_ears_7 0 rfl ?_
    refine WP.nR d_X7_ears_9 ?_
    refine WP.aload d_X7_ears_12 0 rfl ?_
    refine WP.iload_n d_X7_ears_14 3 rfl ?_
    obtain ⟨x6, e5, H⟩ := ob H
    refine WP.cV (c := 1) (As := [.int l2]) (st := []) (st9 := [.int x6]) (cl9 := 0) (sl9 := 0) d_X7_ears_15 (ok_X0_isOpen V e5) tv_X0_isOpen ti_X0_isOpen ts_X0_isOpen lk_X7_156 r_X7_ears_X0_isOpen kc_X0_isOpen (kd_X0_isOpen e5) rfl rfl (Nat.le_of_ble_eq_true rfl) rfl rfl rfl ?_
    rcases oj H with ⟨hc, H⟩ | ⟨hc, H⟩
    · refine WP.if_eq_t d_X7_ears_18 hc ?_
      refine WP.iconst d_X7_ears_36 ki_m1 ?_
      cases H
      exact WP.ireturn d_X7_ears_37 rfl rfl (Nat.le_of_ble_eq_true rfl) (Nat.le_of_ble_eq_true rfl)
    · refine WP.if_eq_f d_X7_ears_18 hc ?_
      refine WP.iload_n d_X7_ears_21 4 rfl ?_
      obtain ⟨x8, e7, H⟩ := ob H
      refine WP.cS (As := [.int l3]) (st := []) (st9 := [.int x8]) (cl9 := 0) (sl9 := 0) d_X7_ears_22 (ok_X7_isHour V (h := h2) e7) tv_X7_isHour ts_X7_isHour lk_X7_163 r_X7_ears_X7_isHour rfl rfl (Nat.le_of_ble_eq_true rfl) rfl rfl rfl ?_
      rcases oj H with ⟨hc, H⟩ | ⟨hc, H⟩
      · refine WP.if_eq_t d_X7_ears_25 hc ?_
        refine WP.iconst d_X7_ears_36 ki_m1 ?_
        cases H
        exact WP.ireturn d_X7_ears_37 rfl rfl (Nat.le_of_ble_eq_true rfl) (Nat.le_of_ble_eq_true rfl)
      · refine WP.if_eq_f d_X7_ears_25 hc ?_
        refine WP.iload d_X7_ears_28 5 rfl ?_
        obtain ⟨x10, e9, H⟩ := ob H
        refine WP.cS (As := [.int l4]) (st := []) (st9 := [.int x10]) (cl9 := 0) (sl9 := 0) d_X7_ears_30 (ok_X7_isLoud V (h := h2) e9) tv_X7_isLoud ts_X7_isLoud lk_X7_172 r_X7_ears_X7_isLoud rfl rfl (Nat.le_of_ble_eq_true rfl) rfl rfl rfl ?_
        rcases oj H with ⟨hc, H⟩ | ⟨hc, H⟩
        · refine WP.if_ne_t d_X7_ears_33 hc ?_
          refine WP.iconst d_X7_ears_36 ki_m1 ?_
          cases H
          exact WP.ireturn d_X7_ears_37 rfl rfl (Nat.le_of_ble_eq_true rfl) (Nat.le_of_ble_eq_true rfl)
        · refine WP.if_ne_f d_X7_ears_33 hc ?_
          refine WP.aload d_X7_ears_38 0 rfl ?_
          refine WP.iload_n d_X7_ears_40 3 rfl ?_
          refine WP.iload_n d_X7_ears_41 4 rfl ?_
          refine WP.iload d_X7_ears_42 5 rfl ?_
          obtain ⟨x12, e11, H⟩ := ob H
          refine WP.cV (c := 1) (As := [.int l2, .int l3, .int l4]) (st := []) (st9 := [.int x12]) (cl9 := 0) (sl9 := 0) d_X7_ears_44 (ok_X0_earsAt V e11) tv_X0_earsAt ti_X0_earsAt ts_X0_earsAt lk_X7_175 r_X7_ears_X0_earsAt kc_X0_earsAt (kd_X0_earsAt e11) rfl rfl (Nat.le_of_ble_eq_true rfl) rfl rfl rfl ?_
          cases H
          exact WP.ireturn d_X7_ears_47 rfl rfl (Nat.le_of_ble_eq_true rfl) (Nat.le_of_ble_eq_true rfl)

set_option maxRecDepth 20000 in
set_option maxHeartbeats 4000000 in
theorem okl_X7_pulpit_L37 (V : EV) {vF : Option Value} {hF : HA} {h : HA} {l2 : Int32} {l3 : Int32} {l4 : Int32} {l5 : Nat} (n : Nat) : ∀ {l6 : Int32} {l7 : Int32} {l8 : Int32} {r6 : Int32} {r7 : Int32}, (H : X7_pulpit_L37 h l2 l3 l5 n l6 l7 l8 = some (r6, r7)) → (K : WP V M_X7_pulpit 89 [(4, .int l4), (6, .int r6), (7, .int r7)] [] h 0 0 vF hF) → WP V M_X7_pulpit 37 [(2, .int l2), (3, .int l3), (4, .int l4), (5, .ref l5), (6, .int l6), (7, .int l7), (8, .int l8)] [] h 0 0 vF hF := by
  induction n with
  | zero =>
    intro l6 l7 l8 r6 r7 H K
    rw [X7_pulpit_L37] at H
    cases H
  | succ n ih =>
    intro l6 l7 l8 r6 r7 H K
    rw [X7_pulpit_L37] at H
    refine WP.iload d_X7_pulpit_37 6 rfl ?_
    refine WP.bipush d_X7_pulpit_39 kb_64 ?_
    rcases oj H with ⟨hc, H⟩ | ⟨hc, H⟩
    · refine WP.icmp_ge_t d_X7_pulpit_41 hc ?_
      refine WP.aload d_X7_pulpit_44 3 rfl ?_
      refine WP.iload d_X7_pulpit_46 6 rfl ?_
      obtain ⟨x10, e9, H⟩ := ob H
      refine WP.cV (c := 1) (As := [.int l8]) (st := []) (st9 := [.int x10]) (cl9 := 0) (sl9 := 0) d_X7_pulpit_48 (ok_X0_isOpen V e9) tv_X0_isOpen ti_X0_isOpen ts_X0_isOpen lk_X7_156 r_X7_pulpit_X0_isOpen kc_X0_isOpen (kd_X0_isOpen e9) rfl rfl (Nat.le_of_ble_eq_true rfl) rfl rfl rfl ?_
      rcases oj H with ⟨hc, H⟩ | ⟨hc, H⟩
      · refine WP.if_eq_t d_X7_pulpit_51 hc ?_
        refine WP.iinc (lv9 := [(8, .int (l8 + 1)), (2, .int l2), (3, .int l3), (4, .int l4), (5, .ref l5), (6, .int l6), (7, .int l7)]) d_X7_pulpit_83 6 rfl ki_1 (Nat.le_of_ble_eq_true rfl) rfl ?_
        refine WP.goto d_X7_pulpit_86 ?_
        refine WP.sub [1, 2, 3, 4, 5, 6, 0] (lv' := [(2, .int l2), (3, .int l3), (4, .int l4), (5, .ref l5), (6, .int l6), (7, .int l7), (8, .int (l8 + 1))]) rfl ?_
        exact ih H K
      · refine WP.if_eq_f d_X7_pulpit_51 hc ?_
        refine WP.aload d_X7_pulpit_54 3 rfl ?_
        refine WP.iload d_X7_pulpit_56 6 rfl ?_
        refine WP.iload_n d_X7_pulpit_58 0 rfl ?_
        refine WP.iload_n d_X7_pulpit_59 1 rfl ?_
        obtain ⟨x12, e11, H⟩ := ob H
        refine WP.cV (c := 1) (As := [.int l8, .int l2, .int l3]) (st := []) (st9 := [.int x12]) (cl9 := 0) (sl9 := 0) d_X7_pulpit_60 (ok_X0_earsAt V e11) tv_X0_earsAt ti_X0_earsAt ts_X0_earsAt lk_X7_175 r_X7_pulpit_X0_earsAt kc_X0_earsAt (kd_X0_earsAt e11) rfl rfl (Nat.le_of_ble_eq_true rfl) rfl rfl rfl ?_
        obtain ⟨x14, e13, H⟩ := ob H
        refine WP.cS (As := [.int x12]) (st := []) (st9 := [.int x14]) (cl9 := 0) (sl9 := 0) d_X7_pulpit_63 (ok_J6_bitCount_0f7a4 V (h := h) e13) tv_J6_bitCount_0f7a4 ts_J6_bitCount_0f7a4 lk_X7_179 r_X7_pulpit_J6_bitCount_0f7a4 rfl rfl (Nat.le_of_ble_eq_true rfl) rfl rfl rfl ?_
        refine WP.istore (lv9 := [(9, .int x14), (2, .int l2), (3, .int l3), (4, .int l4), (5, .ref l5), (6, .int l6), (7, .int l7), (8, .int l8)]) d_X7_pulpit_66 (Nat.le_of_ble_eq_true rfl) rfl ?_
        refine WP.iload d_X7_pulpit_68 0 rfl ?_
        refine WP.iload d_X7_pulpit_70 6 rfl ?_
        rcases oj H with ⟨hc, H⟩ | ⟨hc, H⟩
        · refine WP.icmp_le_t d_X7_pulpit_72 hc ?_
          refine WP.iload d_X7_pulpit_75 0 rfl ?_
          refine WP.istore (lv9 := [(7, .int x14), (9, .int x14), (2, .int l2), (3, .int l3), (4, .int l4), (5, .ref l5), (6, .int l6), (8, .int l8)]) d_X7_pulpit_77 (Nat.le_of_ble_eq_true rfl) rfl ?_
          refine WP.iload d_X7_pulpit_79 7 rfl ?_
          refine WP.istore (lv9 := [(6, .int l8), (7, .int x14), (9, .int x14), (2, .int l2), (3, .int l3), (4, .int l4), (5, .ref l5), (8, .int l8)]) d_X7_pulpit_81 (Nat.le_of_ble_eq_true rfl) rfl ?_
          refine WP.iinc (lv9 := [(8, .int (l8 + 1)), (6, .int l8), (7, .int x14), (9, .int x14), (2, .int l2), (3, .int l3), (4, .int l4), (5, .ref l5)]) d_X7_pulpit_83 7 rfl ki_1 (Nat.le_of_ble_eq_true rfl) rfl ?_
          refine WP.goto d_X7_pulpit_86 ?_
          refine WP.sub [4, 5, 6, 7, 1, 2, 0] (lv' := [(2, .int l2), (3, .int l3), (4, .int l4), (5, .ref l5), (6, .int l8), (7, .int x14), (8, .int (l8 + 1))]) rfl ?_
          exact ih H K
        · refine WP.icmp_le_f d_X7_pulpit_72 hc ?_
          refine WP.iinc (lv9 := [(8, .int (l8 + 1)), (9, .int x14), (2, .int l2), (3, .int l3), (4, .int l4), (5, .ref l5), (6, .int l6), (7, .int l7)]) d_X7_pulpit_83 7 rfl ki_1 (Nat.le_of_ble_eq_true rfl) rfl ?_
          refine WP.goto d_X7_pulpit_86 ?_
          refine WP.sub [2, 3, 4, 5, 6, 7, 0] (lv' := [(2, .int l2), (3, .int l3), (4, .int l4), (5, .ref l5), (6, .int l6), (7, .int l7), (8, .int (l8 + 1))]) rfl ?_
          exact ih H K
    · refine WP.icmp_ge_f d_X7_pulpit_41 hc ?_
      cases H
      exact WP.sub [2, 4, 5] rfl K

set_option maxRecDepth 20000 in
set_option maxHeartbeats 4000000 in
theorem ok_X7_pulpit (V : EV) {h : HA} {t : Nat} {l1 : Int32} {l2 : Int32} {l3 : Int32} {l4 : Int32} {r : Int32} {hR : HA} (H : X7_pulpit h t l1 l2 l3 l4 = some (r, hR)) : MG V M_X7_pulpit [.ref t, .int l1, .int l2, .int l3, .int l4] h (some (.int r)) hR := by
  unfold X7_pulpit at H
  obtain ⟨_, H⟩ := oc H
  refine MG.of (lv0 := [(0, .ref t), (1, .int l1), (2, .int l2), (3, .int l3), (4, .int l4)]) pn_X7 rfl (Nat.le_of_ble_eq_true rfl) ?_
  refine WP.aload_n d_X7_pulpit_0 0 rfl ?_
  refine WP.iload_n d_X7_pulpit_1 1 rfl ?_
  obtain ⟨⟨x3, h2⟩, e1, H⟩ := ob H
  refine WP.cV (c := 8) (As := [.int l1]) (st := []) (st9 := va_rf x3 :: []) (cl9 := 0) (sl9 := 0) d_X7_pulpit_2 (ok_X7_courtAt V e1) tv_X7_courtAt ti_X7_courtAt ts_X7_courtAt lk_X7_95 r_X7_pulpit_X7_courtAt kc_X7_courtAt (kd_X7_courtAt e1) rfl rfl (Nat.le_of_ble_eq_true rfl) rfl rfl rfl ?_
  rcases x3 with _ | z4
  · dsimp only at H
    refine WP.astoreN (lv9 := [(5, .null), (0, .ref t), (1, .int l1), (2, .int l2), (3, .int l3), (4, .int l4)]) d_X7_pulpit_5 (Nat.le_of_ble_eq_true rfl) rfl ?_
    refine WP.aloadN d_X7_pulpit_7 0 rfl ?_
    refine WP.nN d_X7_pulpit_9 ?_
    refine WP.iconst d_X7_pulpit_26 ki_m1 ?_
    cases H
    exact WP.ireturn d_X7_pulpit_27 rfl rfl (Nat.le_of_ble_eq_true rfl) (Nat.le_of_ble_eq_true rfl)
  · dsimp only at H
    refine WP.astore (lv9 := [(5, .ref z4), (0, .ref t), (1, .int l1), (2, .int l2), (3, .int l3), (4, .int l4)]) d_X7_pulpit_5 (Nat.le_of_ble_eq_true rfl) rfl ?_
    refine WP.aload d_X7_pulpit_7 0 rfl ?_
    refine WP.nR d_X7_pulpit_9 ?_
    refine WP.iload_n d_X7_pulpit_12 3 rfl ?_
    obtain ⟨x6, e5, H⟩ := ob H
    refine WP.cS (As := [.int l2]) (st := []) (st9 := [.int x6]) (cl9 := 0) (sl9 := 0) d_X7_pulpit_13 (ok_X7_isHour V (h := h2) e5) tv_X7_isHour ts_X7_isHour lk_X7_163 r_X7_pulpit_X7_isHour rfl rfl (Nat.le_of_ble_eq_true rfl) rfl rfl rfl ?_
    rcases oj H with ⟨hc, H⟩ | ⟨hc, H⟩
    · refine WP.if_eq_t d_X7_pulpit_16 hc ?_
      refine WP.iconst d_X7_pulpit_26 ki_m1 ?_
      cases H
      exact WP.ireturn d_X7_pulpit_27 rfl rfl (Nat.le_of_ble_eq_true rfl) (Nat.le_of_ble_eq_true rfl)
    · refine WP.if_eq_f d_X7_pulpit_16 hc ?_
      refine WP.iload_n d_X7_pulpit_19 4 rfl ?_
      obtain ⟨x8, e7, H⟩ := ob H
      refine WP.cS (As := [.int l3]) (st := []) (st9 := [.int x8]) (cl9 := 0) (sl9 := 0) d_X7_pulpit_20 (ok_X7_isLoud V (h := h2) e7) tv_X7_isLoud ts_X7_isLoud lk_X7_172 r_X7_pulpit_X7_isLoud rfl rfl (Nat.le_of_ble_eq_true rfl) rfl rfl rfl ?_
      rcases oj H with ⟨hc, H⟩ | ⟨hc, H⟩
      · refine WP.if_ne_t d_X7_pulpit_23 hc ?_
        refine WP.iconst d_X7_pulpit_26 ki_m1 ?_
        cases H
        exact WP.ireturn d_X7_pulpit_27 rfl rfl (Nat.le_of_ble_eq_true rfl) (Nat.le_of_ble_eq_true rfl)
      · refine WP.if_ne_f d_X7_pulpit_23 hc ?_
        refine WP.iconst d_X7_pulpit_28 ki_m1 ?_
        refine WP.istore (lv9 := [(6, .int (-1)), (5, .ref z4), (0, .ref t), (1, .int l1), (2, .int l2), (3, .int l3), (4, .int l4)]) d_X7_pulpit_29 (Nat.le_of_ble_eq_true rfl) rfl ?_
        refine WP.iconst d_X7_pulpit_31 ki_m1 ?_
        refine WP.istore (lv9 := [(7, .int (-1)), (6, .int (-1)), (5, .ref z4), (0, .ref t), (1, .int l1), (2, .int l2), (3, .int l3), (4, .int l4)]) d_X7_pulpit_32 (Nat.le_of_ble_eq_true rfl) rfl ?_
        refine WP.iconst d_X7_pulpit_34 ki_0 ?_
        refine WP.istore (lv9 := [(8, .int 0), (7, .int (-1)), (6, .int (-1)), (5, .ref z4), (0, .ref t), (1, .int l1), (2, .int l2), (3, .int l3), (4, .int l4)]) d_X7_pulpit_35 (Nat.le_of_ble_eq_true rfl) rfl ?_
        obtain ⟨⟨y16, y17⟩, e15, H⟩ := ob H
        refine WP.sub [6, 7, 8, 3, 2, 1, 0] (lv' := [(2, .int l2), (3, .int l3), (4, .int l4), (5, .ref z4), (6, .int (-1)), (7, .int (-1)), (8, .int 0)]) rfl ?_
        refine okl_X7_pulpit_L37 V _ e15 ?_
        refine WP.iload d_X7_pulpit_89 0 rfl ?_
        rcases oj H with ⟨hc, H⟩ | ⟨hc, H⟩
        · refine WP.if_eq_t d_X7_pulpit_91 hc ?_
          refine WP.iload d_X7_pulpit_99 1 rfl ?_
          cases H
          exact WP.ireturn d_X7_pulpit_101 rfl rfl (Nat.le_of_ble_eq_true rfl) (Nat.le_of_ble_eq_true rfl)
        · refine WP.if_eq_f d_X7_pulpit_91 hc ?_
          refine WP.iload d_X7_pulpit_94 2 rfl ?_
          refine WP.goto d_X7_pulpit_96 ?_
          cases H
          exact WP.ireturn d_X7_pulpit_101 rfl rfl (Nat.le_of_ble_eq_true rfl) (Nat.le_of_ble_eq_true rfl)

set_option maxRecDepth 20000 in
set_option maxHeartbeats 4000000 in
theorem ok_X7_near (V : EV) {h : HA} {t : Nat} {l1 : Int32} {l2 : Int32} {l3 : Int32} {l4 : Int32} {r : Int32} {hR : HA} (H : X7_near h t l1 l2 l3 l4 = some (r, hR)) : MG V M_X7_near [.ref t, .int l1, .int l2, .int l3, .int l4] h (some (.int r)) hR := by
  unfold X7_near at H
  obtain ⟨_, H⟩ := oc H
  refine MG.of (lv0 := [(0, .ref t), (1, .int l1), (2, .int l2), (3, .int l3), (4, .int l4)]) pn_X7 rfl (Nat.le_of_ble_eq_true rfl) ?_
  refine WP.aload_n d_X7_near_0 0 rfl ?_
  refine WP.iload_n d_X7_near_1 1 rfl ?_
  obtain ⟨⟨x3, h2⟩, e1, H⟩ := ob H
  refine WP.cV (c := 8) (As := [.int l1]) (st := []) (st9 := va_rf x3 :: []) (cl9 := 0) (sl9 := 0) d_X7_near_2 (ok_X7_courtAt V e1) tv_X7_courtAt ti_X7_courtAt ts_X7_courtAt lk_X7_95 r_X7_near_X7_courtAt kc_X7_courtAt (kd_X7_courtAt e1) rfl rfl (Nat.le_of_ble_eq_true rfl) rfl rfl rfl ?_
  rcases x3 with _ | z4
  · dsimp only at H
    refine WP.astoreN (lv9 := [(5, .null), (0, .ref t), (1, .int l1), (2, .int l2), (3, .int l3), (4, .int l4)]) d_X7_near_5 (Nat.le_of_ble_eq_true rfl) rfl ?_
    refine WP.aloadN d_X7_near_7 0 rfl ?_
    refine WP.nN d_X7_near_9 ?_
    refine WP.iconst d_X7_near_38 ki_m1 ?_
    cases H
    exact WP.ireturn d_X7_near_39 rfl rfl (Nat.le_of_ble_eq_true rfl) (Nat.le_of_ble_eq_true rfl)
  · dsimp only at H
    refine WP.astore (lv9 := [(5, .ref z4), (0, .ref t), (1, .int l1), (2, .int l2), (3, .int l3), (4, .int l4)]) d_X7_near_5 (Nat.le_of_ble_eq_true rfl) rfl ?_
    refine WP.aload d_X7_near_7 0 rfl ?_
    refine WP.nR d_X7_near_9 ?_
    refine WP.aload d_X7_near_12 0 rfl ?_
    refine WP.iload_n d_X7_near_14 3 rfl ?_
    obtain ⟨x6, e5, H⟩ := ob H
    refine WP.cV (c := 1) (As := [.int l2]) (st := []) (st9 := [.int x6]) (cl9 := 0) (sl9 := 0) d_X7_near_15 (ok_X0_hasJudge V e5) tv_X0_hasJudge ti_X0_hasJudge ts_X0_hasJudge lk_X7_137 r_X7_near_X0_hasJudge kc_X0_hasJudge (kd_X0_hasJudge e5) rfl rfl (Nat.le_of_ble_eq_true rfl) rfl rfl rfl ?_
    rcases oj H with ⟨hc, H⟩ | ⟨hc, H⟩
    · refine WP.if_eq_t d_X7_near_18 hc ?_
      refine WP.iconst d_X7_near_38 ki_m1 ?_
      cases H
      exact WP.ireturn d_X7_near_39 rfl rfl (Nat.le_of_ble_eq_true rfl) (Nat.le_of_ble_eq_true rfl)
    · refine WP.if_eq_f d_X7_near_18 hc ?_
      refine WP.aload d_X7_near_21 0 rfl ?_
      refine WP.iload_n d_X7_near_23 4 rfl ?_
      obtain ⟨x8, e7, H⟩ := ob H
      refine WP.cV (c := 1) (As := [.int l3]) (st := []) (st9 := [.int x8]) (cl9 := 0) (sl9 := 0) d_X7_near_24 (ok_X0_hasPleader V e7) tv_X0_hasPleader ti_X0_hasPleader ts_X0_hasPleader lk_X7_147 r_X7_near_X0_hasPleader kc_X0_hasPleader (kd_X0_hasPleader e7) rfl rfl (Nat.le_of_ble_eq_true rfl) rfl rfl rfl ?_
      rcases oj H with ⟨hc, H⟩ | ⟨hc, H⟩
      · refine WP.if_eq_t d_X7_near_27 hc ?_
        refine WP.iconst d_X7_near_38 ki_m1 ?_
        cases H
        exact WP.ireturn d_X7_near_39 rfl rfl (Nat.le_of_ble_eq_true rfl) (Nat.le_of_ble_eq_true rfl)
      · refine WP.if_eq_f d_X7_near_27 hc ?_
        refine WP.iload d_X7_near_30 5 rfl ?_
        obtain ⟨x10, e9, H⟩ := ob H
        refine WP.cS (As := [.int l4]) (st := []) (st9 := [.int x10]) (cl9 := 0) (sl9 := 0) d_X7_near_32 (ok_X7_isLoud V (h := h2) e9) tv_X7_isLoud ts_X7_isLoud lk_X7_172 r_X7_near_X7_isLoud rfl rfl (Nat.le_of_ble_eq_true rfl) rfl rfl rfl ?_
        rcases oj H with ⟨hc, H⟩ | ⟨hc, H⟩
        · refine WP.if_ne_t d_X7_near_35 hc ?_
          refine WP.iconst d_X7_near_38 ki_m1 ?_
          cases H
          exact WP.ireturn d_X7_near_39 rfl rfl (Nat.le_of_ble_eq_true rfl) (Nat.le_of_ble_eq_true rfl)
        · refine WP.if_ne_f d_X7_near_35 hc ?_
          refine WP.aload d_X7_near_40 0 rfl ?_
          refine WP.aload d_X7_near_42 0 rfl ?_
          obtain ⟨x11, ex11, H⟩ := ob H
          refine WP.fR d_X7_near_44 gf_X7_153 (fun _ => rfl) ex11 ?_
          refine WP.iload_n d_X7_near_47 4 rfl ?_
          obtain ⟨x12, ex12, H⟩ := ob H
          refine WP.iald d_X7_near_48 ex12 ?_
          refine WP.aload d_X7_near_49 0 rfl ?_
          refine WP.iload_n d_X7_near_51 3 rfl ?_
          refine WP.iconst d_X7_near_52 ki_0 ?_
          refine WP.iload d_X7_near_53 5 rfl ?_
          obtain ⟨x14, e13, H⟩ := ob H
          refine WP.cV (c := 1) (As := [.int l2, .int 0, .int l4]) (st := [.int x12, .ref z4]) (st9 := [.long x14, .int x12, .ref z4]) (cl9 := 0) (sl9 := 0) d_X7_near_55 (ok_X0_audible V e13) tv_X0_audible ti_X0_audible ts_X0_audible lk_X7_184 r_X7_near_X0_audible kc_X0_audible (kd_X0_audible e13) rfl rfl (Nat.le_of_ble_eq_true rfl) rfl rfl rfl ?_
          obtain ⟨x16, e15, H⟩ := ob H
          refine WP.cV (c := 1) (As := [.int x12, .long x14]) (st := []) (st9 := [.int x16]) (cl9 := 0) (sl9 := 0) d_X7_near_58 (ok_X0_steps V e15) tv_X0_steps ti_X0_steps ts_X0_steps lk_X7_159 r_X7_near_X0_steps kc_X0_steps (kd_X0_steps e15) rfl rfl (Nat.le_of_ble_eq_true rfl) rfl rfl rfl ?_
          cases H
          exact WP.ireturn d_X7_near_61 rfl rfl (Nat.le_of_ble_eq_true rfl) (Nat.le_of_ble_eq_true rfl)

set_option maxRecDepth 20000 in
set_option maxHeartbeats 4000000 in
theorem ok_X7_round (V : EV) {h : HA} {t : Nat} {l1 : Int32} {l2 : Int32} {l3 : Int32} {l4 : Int32} {r : Int32} {hR : HA} (H : X7_round h t l1 l2 l3 l4 = some (r, hR)) : MG V M_X7_round [.ref t, .int l1, .int l2, .int l3, .int l4] h (some (.int r)) hR := by
  unfold X7_round at H
  obtain ⟨_, H⟩ := oc H
  refine MG.of (lv0 := [(0, .ref t), (1, .int l1), (2, .int l2), (3, .int l3), (4, .int l4)]) pn_X7 rfl (Nat.le_of_ble_eq_true rfl) ?_
  refine WP.aload_n d_X7_round_0 0 rfl ?_
  refine WP.iload_n d_X7_round_1 1 rfl ?_
  obtain ⟨⟨x3, h2⟩, e1, H⟩ := ob H
  refine WP.cV (c := 8) (As := [.int l1]) (st := []) (st9 := va_rf x3 :: []) (cl9 := 0) (sl9 := 0) d_X7_round_2 (ok_X7_courtAt V e1) tv_X7_courtAt ti_X7_courtAt ts_X7_courtAt lk_X7_95 ⟨Nat.le_of_ble_eq_true rfl, Nat.le_of_ble_eq_true rfl, Nat.le_of_ble_eq_true rfl, Nat.le_of_ble_eq_true rfl⟩ kc_X7_courtAt (kd_X7_courtAt e1) rfl rfl (Nat.le_of_ble_eq_true rfl) rfl rfl rfl ?_
  rcases x3 with _ | z4
  · dsimp only at H
    refine WP.astoreN (lv9 := [(5, .null), (0, .ref t), (1, .int l1), (2, .int l2), (3, .int l3), (4, .int l4)]) d_X7_round_5 (Nat.le_of_ble_eq_true rfl) rfl ?_
    refine WP.aloadN d_X7_round_7 0 rfl ?_
    refine WP.nN d_X7_round_9 ?_
    refine WP.iconst d_X7_round_36 ki_m1 ?_
    cases H
    exact WP.ireturn d_X7_round_37 rfl rfl (Nat.le_of_ble_eq_true rfl) (Nat.le_of_ble_eq_true rfl)
  · dsimp only at H
    refine WP.astore (lv9 := [(5, .ref z4), (0, .ref t), (1, .int l1), (2, .int l2), (3, .int l3), (4, .int l4)]) d_X7_round_5 (Nat.le_of_ble_eq_true rfl) rfl ?_
    refine WP.aload d_X7_round_7 0 rfl ?_
    refine WP.nR d_X7_round_9 ?_
    refine WP.aload d_X7_round_12 0 rfl ?_
    refine WP.iload_n d_X7_round_14 3 rfl ?_
    obtain ⟨x6, e5, H⟩ := ob H
    refine WP.cV (c := 1) (As := [.int l2]) (st := []) (st9 := [.int x6]) (cl9 := 0) (sl9 := 0) d_X7_round_15 (ok_X0_hasPleader V e5) tv_X0_hasPleader ti_X0_hasPleader ts_X0_hasPleader lk_X7_147 ⟨Nat.le_of_ble_eq_true rfl, Nat.le_of_ble_eq_true rfl, Nat.le_of_ble_eq_true rfl, Nat.le_of_ble_eq_true rfl⟩ kc_X0_hasPleader (kd_X0_hasPleader e5) rfl rfl (Nat.le_of_ble_eq_true rfl) rfl rfl rfl ?_
    rcases oj H with ⟨hc, H⟩ | ⟨hc, H⟩
    · refine WP.if_eq_t d_X7_round_18 hc ?_
      refine WP.iconst d_X7_round_36 ki_m1 ?_
      cases H
      exact WP.ireturn d_X7_round_37 rfl rfl (Nat.le_of_ble_eq_true rfl) (Nat.le_of_ble_eq_true rfl)
    · refine WP.if_eq_f d_X7_round_18 hc ?_
      refine WP.iload_n d_X7_round_21 4 rfl ?_
      obtain ⟨x8, e7, H⟩ := ob H
      refine WP.cS (As := [.int l3]) (st := []) (st9 := [.int x8]) (cl9 := 0) (sl9 := 0) d_X7_round_22 (ok_X7_isLoud V (h := h2) e7) tv_X7_isLoud ts_X7_isLoud lk_X7_172 ⟨Nat.le_of_ble_eq_true rfl, Nat.le_of_ble_eq_true rfl, Nat.le_of_ble_eq_true rfl, Nat.le_of_ble_eq_true rfl⟩ rfl rfl (Nat.le_of_ble_eq_true rfl) rfl rfl rfl ?_
      rcases oj H with ⟨hc, H⟩ | ⟨hc, H⟩
      · refine WP.if_eq_t d_X7_round_25 hc ?_
        refine WP.iconst d_X7_round_36 ki_m1 ?_
        cases H
        exact WP.ireturn d_X7_round_37 rfl rfl (Nat.le_of_ble_eq_true rfl) (Nat.le_of_ble_eq_true rfl)
      · refine WP.if_eq_f d_X7_round_25 hc ?_
        refine WP.aload d_X7_round_28 0 rfl ?_
        obtain ⟨x9, ex9, H⟩ := ob H
        refine WP.fI d_X7_round_30 gf_X7_123 (fun _ => rfl) ex9 ?_
        rcases oj H with ⟨hc, H⟩ | ⟨hc, H⟩
        · refine WP.if_ne_t d_X7_round_33 hc ?_
          refine WP.iconst d_X7_round_36 ki_m1 ?_
          cases H
          exact WP.ireturn d_X7_round_37 rfl rfl (Nat.le_of_ble_eq_true rfl) (Nat.le_of_ble_eq_true rfl)
        · refine WP.if_ne_f d_X7_round_33 hc ?_
          refine WP.iload d_X7_round_38 5 rfl ?_
          obtain ⟨s45, hs10, H⟩ := ob H
          rcases s45 with r44 | _
          · dsimp only at H
            rcases oj hs10 with ⟨hc, hs10⟩ | ⟨hc, hs10⟩
            · refine WP.if_eq_t d_X7_round_40 hc ?_
              cases hs10
            · refine WP.if_eq_f d_X7_round_40 hc ?_
              refine WP.iload d_X7_round_43 5 rfl ?_
              refine WP.bipush d_X7_round_45 kb_10 ?_
              rcases oj hs10 with ⟨hc, hs10⟩ | ⟨hc, hs10⟩
              · refine WP.icmp_lt_t d_X7_round_47 hc ?_
                refine WP.iconst d_X7_round_57 ki_m1 ?_
                cases hs10
                cases H
                exact WP.ireturn d_X7_round_58 rfl rfl (Nat.le_of_ble_eq_true rfl) (Nat.le_of_ble_eq_true rfl)
              · refine WP.icmp_lt_f d_X7_round_47 hc ?_
                refine WP.iload d_X7_round_50 5 rfl ?_
                refine WP.bipush d_X7_round_52 kb_70 ?_
                rcases oj hs10 with ⟨hc, hs10⟩ | ⟨hc, hs10⟩
                · refine WP.icmp_lt_t d_X7_round_54 hc ?_
                  cases hs10
                · refine WP.icmp_lt_f d_X7_round_54 hc ?_
                  refine WP.iconst d_X7_round_57 ki_m1 ?_
                  cases hs10
                  cases H
                  exact WP.ireturn d_X7_round_58 rfl rfl (Nat.le_of_ble_eq_true rfl) (Nat.le_of_ble_eq_true rfl)
          · dsimp only at H
            have J11 : WP V M_X7_round 59 [(0, .ref t), (2, .int l2), (3, .int l3), (4, .int l4), (5, .ref z4)] [] h2 0 0 (some (.int r)) hR := by
              refine WP.aload_n d_X7_round_59 0 rfl ?_
              obtain ⟨x12, ex12, H⟩ := ob H
              refine WP.fN d_X7_round_60 gf_X7_188 (fun _ => rfl) ex12 ?_
              rcases x12 with _ | z13
              · dsimp only at H
                refine WP.nnN d_X7_round_63 ?_
                refine WP.aload_n d_X7_round_66 0 rfl ?_
                obtain ⟨h14, eh14, H⟩ := ol H
                refine WP.new (c := 7) d_X7_round_67 (Nat.le_of_ble_eq_true rfl) (Nat.le_of_ble_eq_true rfl) wc_X7_192 wn_7 wz_X6 (Nat.le_of_ble_eq_true rfl) (Nat.le_of_ble_eq_true rfl) (by intro k hk; exact newd_7 k hk) ?_
                rw [eh14]
                refine WP.cs (cl9 := 1) (sl9 := 5) rfl rfl ?_
                refine WP.dup d_X7_round_70 rfl ?_
                obtain ⟨h16, e15, H⟩ := ob H
                refine WP.cIN (As := []) (st := [.ref (hz h2), .ref t]) (cl9 := 3) (sl9 := 4165) d_X7_round_71 (ok_X6_init V e15) tv_X6_init ti_X6_init rfl rfl ln_X7_194 ⟨Nat.le_of_ble_eq_true rfl, Nat.le_of_ble_eq_true rfl, Nat.le_of_ble_eq_true rfl, Nat.le_of_ble_eq_true rfl⟩ rfl rfl (Nat.le_of_ble_eq_true rfl) rfl rfl ?_
                obtain ⟨h17, eh17, H⟩ := ob H
                refine WP.uR d_X7_round_74 gf_X7_188 rfl (x := (some (hz h2))) (fun _ => rfl) rfl rfl eh17 ?_
                refine WP.aload_n d_X7_round_77 0 rfl ?_
                obtain ⟨x18, ex18, H⟩ := ob H
                refine WP.fN d_X7_round_78 gf_X7_188 (fun _ => rfl) ex18 ?_
                rcases x18 with _ | z19
                · dsimp only at H
                  refine WP.aload d_X7_round_81 4 rfl ?_
                  refine WP.aload d_X7_round_83 4 rfl ?_
                  obtain ⟨x20, ex20, H⟩ := ob H
                  refine WP.fR d_X7_round_85 gf_X7_153 (fun _ => rfl) ex20 ?_
                  refine WP.iload_n d_X7_round_88 1 rfl ?_
                  obtain ⟨x21, ex21, H⟩ := ob H
                  refine WP.iald d_X7_round_89 ex21 ?_
                  refine WP.iload_n d_X7_round_90 2 rfl ?_
                  cases H
                · dsimp only at H
                  refine WP.aload d_X7_round_81 4 rfl ?_
                  refine WP.aload d_X7_round_83 4 rfl ?_
                  obtain ⟨x22, ex22, H⟩ := ob H
                  refine WP.fR d_X7_round_85 gf_X7_153 (fun _ => rfl) ex22 ?_
                  refine WP.iload_n d_X7_round_88 1 rfl ?_
                  obtain ⟨x23, ex23, H⟩ := ob H
                  refine WP.iald d_X7_round_89 ex23 ?_
                  refine WP.iload_n d_X7_round_90 2 rfl ?_
                  obtain ⟨⟨x26, h25⟩, e24, H⟩ := ob H
                  refine WP.cV (c := 7) (As := [.ref z4, .int x23, .int l3]) (st := []) (st9 := [.int x26]) (cl9 := 3) (sl9 := 4165) d_X7_round_91 (ok_X6_search V e24) tv_X6_search ti_X6_search ts_X6_search lk_X7_195 ⟨Nat.le_of_ble_eq_true rfl, Nat.le_of_ble_eq_true rfl, Nat.le_of_ble_eq_true rfl, Nat.le_of_ble_eq_true rfl⟩ kc_X6_search (kd_X6_search e24) rfl rfl (Nat.le_of_ble_eq_true rfl) rfl rfl rfl ?_
                  refine WP.istore (lv9 := [(6, .int x26), (0, .ref t), (2, .int l2), (3, .int l3), (4, .int l4), (5, .ref z4)]) d_X7_round_94 (Nat.le_of_ble_eq_true rfl) rfl ?_
                  refine WP.iload d_X7_round_96 4 rfl ?_
                  rcases oj H with ⟨hc, H⟩ | ⟨hc, H⟩
                  · refine WP.if_eq_t d_X7_round_98 hc ?_
                    refine WP.iload d_X7_round_107 0 rfl ?_
                    cases H
                    exact WP.ireturn d_X7_round_109 rfl rfl (Nat.le_of_ble_eq_true rfl) (Nat.le_of_ble_eq_true rfl)
                  · refine WP.if_eq_f d_X7_round_98 hc ?_
                    refine WP.iload d_X7_round_101 0 rfl ?_
                    refine WP.iconst d_X7_round_103 ki_m1 ?_
                    rcases oj H with ⟨hc, H⟩ | ⟨hc, H⟩
                    · refine WP.icmp_ne_t d_X7_round_104 hc ?_
                      refine WP.iload d_X7_round_107 0 rfl ?_
                      cases H
                      exact WP.ireturn d_X7_round_109 rfl rfl (Nat.le_of_ble_eq_true rfl) (Nat.le_of_ble_eq_true rfl)
                    · refine WP.icmp_ne_f d_X7_round_104 hc ?_
                      refine WP.iload d_X7_round_110 4 rfl ?_
                      refine WP.bipush d_X7_round_112 kb_10 ?_
                      refine WP.isub d_X7_round_114 ?_
                      refine WP.istore (lv9 := [(7, .int (l4 - 10)), (6, .int x26), (0, .ref t), (2, .int l2), (3, .int l3), (4, .int l4), (5, .ref z4)]) d_X7_round_115 (Nat.le_of_ble_eq_true rfl) rfl ?_
                      refine WP.iload d_X7_round_117 0 rfl ?_
                      refine WP.iload d_X7_round_119 1 rfl ?_
                      rcases oj H with ⟨hc, H⟩ | ⟨hc, H⟩
                      · refine WP.icmp_ge_t d_X7_round_121 hc ?_
                        refine WP.aload_n d_X7_round_124 2 rfl ?_
                        obtain ⟨x27, ex27, H⟩ := ob H
                        refine WP.fN d_X7_round_125 gf_X7_188 (fun _ => rfl) ex27 ?_
                        rcases x27 with _ | z28
                        · dsimp only at H
                          refine WP.iload d_X7_round_128 0 rfl ?_
                          cases H
                        · dsimp only at H
                          refine WP.iload d_X7_round_128 0 rfl ?_
                          obtain ⟨x30, e29, H⟩ := ob H
                          refine WP.cV (c := 7) (As := [.int (l4 - 10)]) (st := []) (st9 := [.int x30]) (cl9 := 3) (sl9 := 4165) d_X7_round_130 (ok_X6_actAt V e29) tv_X6_actAt ti_X6_actAt ts_X6_actAt lk_X7_199 ⟨Nat.le_of_ble_eq_true rfl, Nat.le_of_ble_eq_true rfl, Nat.le_of_ble_eq_true rfl, Nat.le_of_ble_eq_true rfl⟩ kc_X6_actAt (kd_X6_actAt e29) rfl rfl (Nat.le_of_ble_eq_true rfl) rfl rfl rfl ?_
                          refine WP.goto d_X7_round_133 ?_
                          cases H
                          exact WP.ireturn d_X7_round_137 rfl rfl (Nat.le_of_ble_eq_true rfl) (Nat.le_of_ble_eq_true rfl)
                      · refine WP.icmp_ge_f d_X7_round_121 hc ?_
                        refine WP.iconst d_X7_round_136 ki_m1 ?_
                        cases H
                        exact WP.ireturn d_X7_round_137 rfl rfl (Nat.le_of_ble_eq_true rfl) (Nat.le_of_ble_eq_true rfl)
              · dsimp only at H
                refine WP.nnR d_X7_round_63 ?_
                refine WP.aload_n d_X7_round_77 0 rfl ?_
                obtain ⟨x31, ex31, H⟩ := ob H
                refine WP.fN d_X7_round_78 gf_X7_188 (fun _ => rfl) ex31 ?_
                rcases x31 with _ | z32
                · dsimp only at H
                  refine WP.aload d_X7_round_81 4 rfl ?_
                  refine WP.aload d_X7_round_83 4 rfl ?_
                  obtain ⟨x33, ex33, H⟩ := ob H
                  refine WP.fR d_X7_round_85 gf_X7_153 (fun _ => rfl) ex33 ?_
                  refine WP.iload_n d_X7_round_88 1 rfl ?_
                  obtain ⟨x34, ex34, H⟩ := ob H
                  refine WP.iald d_X7_round_89 ex34 ?_
                  refine WP.iload_n d_X7_round_90 2 rfl ?_
                  cases H
                · dsimp only at H
                  refine WP.aload d_X7_round_81 4 rfl ?_
                  refine WP.aload d_X7_round_83 4 rfl ?_
                  obtain ⟨x35, ex35, H⟩ := ob H
                  refine WP.fR d_X7_round_85 gf_X7_153 (fun _ => rfl) ex35 ?_
                  refine WP.iload_n d_X7_round_88 1 rfl ?_
                  obtain ⟨x36, ex36, H⟩ := ob H
                  refine WP.iald d_X7_round_89 ex36 ?_
                  refine WP.iload_n d_X7_round_90 2 rfl ?_
                  obtain ⟨⟨x39, h38⟩, e37, H⟩ := ob H
                  refine WP.cV (c := 7) (As := [.ref z4, .int x36, .int l3]) (st := []) (st9 := [.int x39]) (cl9 := 0) (sl9 := 0) d_X7_round_91 (ok_X6_search V e37) tv_X6_search ti_X6_search ts_X6_search lk_X7_195 ⟨Nat.le_of_ble_eq_true rfl, Nat.le_of_ble_eq_true rfl, Nat.le_of_ble_eq_true rfl, Nat.le_of_ble_eq_true rfl⟩ kc_X6_search (kd_X6_search e37) rfl rfl (Nat.le_of_ble_eq_true rfl) rfl rfl rfl ?_
                  refine WP.istore (lv9 := [(6, .int x39), (0, .ref t), (2, .int l2), (3, .int l3), (4, .int l4), (5, .ref z4)]) d_X7_round_94 (Nat.le_of_ble_eq_true rfl) rfl ?_
                  refine WP.iload d_X7_round_96 4 rfl ?_
                  rcases oj H with ⟨hc, H⟩ | ⟨hc, H⟩
                  · refine WP.if_eq_t d_X7_round_98 hc ?_
                    refine WP.iload d_X7_round_107 0 rfl ?_
                    cases H
                    exact WP.ireturn d_X7_round_109 rfl rfl (Nat.le_of_ble_eq_true rfl) (Nat.le_of_ble_eq_true rfl)
                  · refine WP.if_eq_f d_X7_round_98 hc ?_
                    refine WP.iload d_X7_round_101 0 rfl ?_
                    refine WP.iconst d_X7_round_103 ki_m1 ?_
                    rcases oj H with ⟨hc, H⟩ | ⟨hc, H⟩
                    · refine WP.icmp_ne_t d_X7_round_104 hc ?_
                      refine WP.iload d_X7_round_107 0 rfl ?_
                      cases H
                      exact WP.ireturn d_X7_round_109 rfl rfl (Nat.le_of_ble_eq_true rfl) (Nat.le_of_ble_eq_true rfl)
                    · refine WP.icmp_ne_f d_X7_round_104 hc ?_
                      refine WP.iload d_X7_round_110 4 rfl ?_
                      refine WP.bipush d_X7_round_112 kb_10 ?_
                      refine WP.isub d_X7_round_114 ?_
                      refine WP.istore (lv9 := [(7, .int (l4 - 10)), (6, .int x39), (0, .ref t), (2, .int l2), (3, .int l3), (4, .int l4), (5, .ref z4)]) d_X7_round_115 (Nat.le_of_ble_eq_true rfl) rfl ?_
                      refine WP.iload d_X7_round_117 0 rfl ?_
                      refine WP.iload d_X7_round_119 1 rfl ?_
                      rcases oj H with ⟨hc, H⟩ | ⟨hc, H⟩
                      · refine WP.icmp_ge_t d_X7_round_121 hc ?_
                        refine WP.aload_n d_X7_round_124 2 rfl ?_
                        obtain ⟨x40, ex40, H⟩ := ob H
                        refine WP.fN d_X7_round_125 gf_X7_188 (fun _ => rfl) ex40 ?_
                        rcases x40 with _ | z41
                        · dsimp only at H
                          refine WP.iload d_X7_round_128 0 rfl ?_
                          cases H
                        · dsimp only at H
                          refine WP.iload d_X7_round_128 0 rfl ?_
                          obtain ⟨x43, e42, H⟩ := ob H
                          refine WP.cV (c := 7) (As := [.int (l4 - 10)]) (st := []) (st9 := [.int x43]) (cl9 := 0) (sl9 := 0) d_X7_round_130 (ok_X6_actAt V e42) tv_X6_actAt ti_X6_actAt ts_X6_actAt lk_X7_199 ⟨Nat.le_of_ble_eq_true rfl, Nat.le_of_ble_eq_true rfl, Nat.le_of_ble_eq_true rfl, Nat.le_of_ble_eq_true rfl⟩ kc_X6_actAt (kd_X6_actAt e42) rfl rfl (Nat.le_of_ble_eq_true rfl) rfl rfl rfl ?_
                          refine WP.goto d_X7_round_133 ?_
                          cases H
                          exact WP.ireturn d_X7_round_137 rfl rfl (Nat.le_of_ble_eq_true rfl) (Nat.le_of_ble_eq_true rfl)
                      · refine WP.icmp_ge_f d_X7_round_121 hc ?_
                        refine WP.iconst d_X7_round_136 ki_m1 ?_
                        cases H
                        exact WP.ireturn d_X7_round_137 rfl rfl (Nat.le_of_ble_eq_true rfl) (Nat.le_of_ble_eq_true rfl)
            rcases oj hs10 with ⟨hc, hs10⟩ | ⟨hc, hs10⟩
            · refine WP.if_eq_t d_X7_round_40 hc ?_
              cases hs10
              exact WP.sub [1, 3, 4, 5, 0] rfl J11
            · refine WP.if_eq_f d_X7_round_40 hc ?_
              refine WP.iload d_X7_round_43 5 rfl ?_
              refine WP.bipush d_X7_round_45 kb_10 ?_
              rcases oj hs10 with ⟨hc, hs10⟩ | ⟨hc, hs10⟩
              · refine WP.icmp_lt_t d_X7_round_47 hc ?_
                refine WP.iconst d_X7_round_57 ki_m1 ?_
                cases hs10
              · refine WP.icmp_lt_f d_X7_round_47 hc ?_
                refine WP.iload d_X7_round_50 5 rfl ?_
                refine WP.bipush d_X7_round_52 kb_70 ?_
                rcases oj hs10 with ⟨hc, hs10⟩ | ⟨hc, hs10⟩
                · refine WP.icmp_lt_t d_X7_round_54 hc ?_
                  cases hs10
                  exact WP.sub [1, 3, 4, 5, 0] rfl J11
                · refine WP.icmp_lt_f d_X7_round_54 hc ?_
                  refine WP.iconst d_X7_round_57 ki_m1 ?_
                  cases hs10

set_option maxRecDepth 20000 in
set_option maxHeartbeats 4000000 in
theorem ok_X7_echo (V : EV) {h : HA} {t : Nat} {l1 : Int32} {l2 : Int32} {l3 : Int32} {l4 : Int32} {r : Int32} {hR : HA} (H : X7_echo h t l1 l2 l3 l4 = some (r, hR)) : MG V M_X7_echo [.ref t, .int l1, .int l2, .int l3, .int l4] h (some (.int r)) hR := by
  unfold X7_echo at H
  obtain ⟨_, H⟩ := oc H
  refine MG.of (lv0 := [(0, .ref t), (1, .int l1), (2, .int l2), (3, .int l3), (4, .int l4)]) pn_X7 rfl (Nat.le_of_ble_eq_true rfl) ?_
  refine WP.aload_n d_X7_echo_0 0 rfl ?_
  refine WP.iload_n d_X7_echo_1 1 rfl ?_
  obtain ⟨⟨x3, h2⟩, e1, H⟩ := ob H
  refine WP.cV (c := 8) (As := [.int l1]) (st := []) (st9 := va_rf x3 :: []) (cl9 := 0) (sl9 := 0) d_X7_echo_2 (ok_X7_courtAt V e1) tv_X7_courtAt ti_X7_courtAt ts_X7_courtAt lk_X7_95 r_X7_echo_X7_courtAt kc_X7_courtAt (kd_X7_courtAt e1) rfl rfl (Nat.le_of_ble_eq_true rfl) rfl rfl rfl ?_
  rcases x3 with _ | z4
  · dsimp only at H
    refine WP.astoreN (lv9 := [(5, .null), (0, .ref t), (1, .int l1), (2, .int l2), (3, .int l3), (4, .int l4)]) d_X7_echo_5 (Nat.le_of_ble_eq_true rfl) rfl ?_
    refine WP.aloadN d_X7_echo_7 0 rfl ?_
    refine WP.nN d_X7_echo_9 ?_
    refine WP.iconst d_X7_echo_20 ki_m1 ?_
    cases H
    exact WP.ireturn d_X7_echo_21 rfl rfl (Nat.le_of_ble_eq_true rfl) (Nat.le_of_ble_eq_true rfl)
  · dsimp only at H
    refine WP.astore (lv9 := [(5, .ref z4), (0, .ref t), (1, .int l1), (2, .int l2), (3, .int l3), (4, .int l4)]) d_X7_echo_5 (Nat.le_of_ble_eq_true rfl) rfl ?_
    refine WP.aload d_X7_echo_7 0 rfl ?_
    refine WP.nR d_X7_echo_9 ?_
    refine WP.iload d_X7_echo_12 5 rfl ?_
    obtain ⟨x6, e5, H⟩ := ob H
    refine WP.cS (As := [.int l4]) (st := []) (st9 := [.int x6]) (cl9 := 0) (sl9 := 0) d_X7_echo_14 (ok_X7_isLoud V (h := h2) e5) tv_X7_isLoud ts_X7_isLoud lk_X7_172 r_X7_echo_X7_isLoud rfl rfl (Nat.le_of_ble_eq_true rfl) rfl rfl rfl ?_
    rcases oj H with ⟨hc, H⟩ | ⟨hc, H⟩
    · refine WP.if_ne_t d_X7_echo_17 hc ?_
      refine WP.iconst d_X7_echo_20 ki_m1 ?_
      cases H
      exact WP.ireturn d_X7_echo_21 rfl rfl (Nat.le_of_ble_eq_true rfl) (Nat.le_of_ble_eq_true rfl)
    · refine WP.if_ne_f d_X7_echo_17 hc ?_
      refine WP.iload_n d_X7_echo_22 3 rfl ?_
      refine WP.iconst d_X7_echo_23 ki_m1 ?_
      obtain ⟨s26, hs7, H⟩ := ob H
      rcases s26 with r23 | _
      · dsimp only at H
        rcases oj hs7 with ⟨hc, hs7⟩ | ⟨hc, hs7⟩
        · refine WP.icmp_ne_t d_X7_echo_24 hc ?_
          refine WP.iload_n d_X7_echo_27 4 rfl ?_
          refine WP.iconst d_X7_echo_28 ki_m1 ?_
          rcases oj hs7 with ⟨hc, hs7⟩ | ⟨hc, hs7⟩
          · refine WP.icmp_ne_t d_X7_echo_29 hc ?_
            refine WP.aload d_X7_echo_32 0 rfl ?_
            refine WP.iconst d_X7_echo_34 ki_0 ?_
            refine WP.iload d_X7_echo_35 5 rfl ?_
            obtain ⟨x25, e24, hs7⟩ := ob hs7
            refine WP.cV (c := 1) (As := [.int 0, .int l4]) (st := []) (st9 := [.int x25]) (cl9 := 0) (sl9 := 0) d_X7_echo_37 (ok_X0_blind V e24) tv_X0_blind ti_X0_blind ts_X0_blind lk_X7_202 r_X7_echo_X0_blind kc_X0_blind (kd_X0_blind e24) rfl rfl (Nat.le_of_ble_eq_true rfl) rfl rfl rfl ?_
            cases hs7
            cases H
            exact WP.ireturn d_X7_echo_40 rfl rfl (Nat.le_of_ble_eq_true rfl) (Nat.le_of_ble_eq_true rfl)
          · refine WP.icmp_ne_f d_X7_echo_29 hc ?_
            cases hs7
        · refine WP.icmp_ne_f d_X7_echo_24 hc ?_
          cases hs7
      · dsimp only at H
        have J8 : WP V M_X7_echo 41 [(2, .int l2), (3, .int l3), (4, .int l4), (5, .ref z4)] [] h2 0 0 (some (.int r)) hR := by
          refine WP.aload d_X7_echo_41 3 rfl ?_
          refine WP.iload_n d_X7_echo_43 0 rfl ?_
          obtain ⟨x12, e11, H⟩ := ob H
          refine WP.cV (c := 1) (As := [.int l2]) (st := []) (st9 := [.int x12]) (cl9 := 0) (sl9 := 0) d_X7_echo_44 (ok_X0_hasJudge V e11) tv_X0_hasJudge ti_X0_hasJudge ts_X0_hasJudge lk_X7_137 r_X7_echo_X0_hasJudge kc_X0_hasJudge (kd_X0_hasJudge e11) rfl rfl (Nat.le_of_ble_eq_true rfl) rfl rfl rfl ?_
          rcases oj H with ⟨hc, H⟩ | ⟨hc, H⟩
          · refine WP.if_ne_t d_X7_echo_47 hc ?_
            refine WP.iconst d_X7_echo_50 ki_m1 ?_
            cases H
            exact WP.ireturn d_X7_echo_51 rfl rfl (Nat.le_of_ble_eq_true rfl) (Nat.le_of_ble_eq_true rfl)
          · refine WP.if_ne_f d_X7_echo_47 hc ?_
            refine WP.aload d_X7_echo_52 3 rfl ?_
            refine WP.iload_n d_X7_echo_54 0 rfl ?_
            refine WP.iconst d_X7_echo_55 ki_0 ?_
            refine WP.iload d_X7_echo_56 2 rfl ?_
            obtain ⟨x14, e13, H⟩ := ob H
            refine WP.cV (c := 1) (As := [.int l2, .int 0, .int l4]) (st := []) (st9 := [.long x14]) (cl9 := 0) (sl9 := 0) d_X7_echo_58 (ok_X0_audible V e13) tv_X0_audible ti_X0_audible ts_X0_audible lk_X7_184 r_X7_echo_X0_audible kc_X0_audible (kd_X0_audible e13) rfl rfl (Nat.le_of_ble_eq_true rfl) rfl rfl rfl ?_
            refine WP.lstore (lv9 := [(6, .long x14), (2, .int l2), (3, .int l3), (4, .int l4), (5, .ref z4)]) d_X7_echo_61 (Nat.le_of_ble_eq_true rfl) rfl ?_
            refine WP.iload_n d_X7_echo_63 2 rfl ?_
            refine WP.iconst d_X7_echo_64 ki_m1 ?_
            rcases oj H with ⟨hc, H⟩ | ⟨hc, H⟩
            · refine WP.icmp_ne_t d_X7_echo_65 hc ?_
              refine WP.lload d_X7_echo_68 0 rfl ?_
              obtain ⟨x16, e15, H⟩ := ob H
              refine WP.cS (As := [.long x14]) (st := []) (st9 := [.int x16]) (cl9 := 0) (sl9 := 0) d_X7_echo_70 (ok_J13_bitCount_95d88 V (h := h2) e15) tv_J13_bitCount_95d88 ts_J13_bitCount_95d88 lk_X7_117 r_X7_echo_J13_bitCount_95d88 rfl rfl (Nat.le_of_ble_eq_true rfl) rfl rfl rfl ?_
              cases H
              exact WP.ireturn d_X7_echo_73 rfl rfl (Nat.le_of_ble_eq_true rfl) (Nat.le_of_ble_eq_true rfl)
            · refine WP.icmp_ne_f d_X7_echo_65 hc ?_
              refine WP.aload d_X7_echo_74 4 rfl ?_
              refine WP.iload_n d_X7_echo_76 2 rfl ?_
              obtain ⟨x18, e17, H⟩ := ob H
              refine WP.cV (c := 1) (As := [.int l3]) (st := []) (st9 := [.int x18]) (cl9 := 0) (sl9 := 0) d_X7_echo_77 (ok_X0_hasJudge V e17) tv_X0_hasJudge ti_X0_hasJudge ts_X0_hasJudge lk_X7_137 r_X7_echo_X0_hasJudge kc_X0_hasJudge (kd_X0_hasJudge e17) rfl rfl (Nat.le_of_ble_eq_true rfl) rfl rfl rfl ?_
              rcases oj H with ⟨hc, H⟩ | ⟨hc, H⟩
              · refine WP.if_eq_t d_X7_echo_80 hc ?_
                refine WP.iconst d_X7_echo_88 ki_m1 ?_
                cases H
                exact WP.ireturn d_X7_echo_89 rfl rfl (Nat.le_of_ble_eq_true rfl) (Nat.le_of_ble_eq_true rfl)
              · refine WP.if_eq_f d_X7_echo_80 hc ?_
                refine WP.iload_n d_X7_echo_83 1 rfl ?_
                refine WP.iload_n d_X7_echo_84 2 rfl ?_
                rcases oj H with ⟨hc, H⟩ | ⟨hc, H⟩
                · refine WP.icmp_ne_t d_X7_echo_85 hc ?_
                  refine WP.iconst d_X7_echo_88 ki_m1 ?_
                  cases H
                  exact WP.ireturn d_X7_echo_89 rfl rfl (Nat.le_of_ble_eq_true rfl) (Nat.le_of_ble_eq_true rfl)
                · refine WP.icmp_ne_f d_X7_echo_85 hc ?_
                  refine WP.lload d_X7_echo_90 0 rfl ?_
                  refine WP.aload d_X7_echo_92 4 rfl ?_
                  refine WP.iload_n d_X7_echo_94 2 rfl ?_
                  refine WP.iconst d_X7_echo_95 ki_0 ?_
                  refine WP.iload d_X7_echo_96 3 rfl ?_
                  obtain ⟨x20, e19, H⟩ := ob H
                  refine WP.cV (c := 1) (As := [.int l3, .int 0, .int l4]) (st := [.long x14]) (st9 := [.long x20, .long x14]) (cl9 := 0) (sl9 := 0) d_X7_echo_98 (ok_X0_audible V e19) tv_X0_audible ti_X0_audible ts_X0_audible lk_X7_184 r_X7_echo_X0_audible kc_X0_audible (kd_X0_audible e19) rfl rfl (Nat.le_of_ble_eq_true rfl) rfl rfl rfl ?_
                  refine WP.land d_X7_echo_101 ?_
                  obtain ⟨x22, e21, H⟩ := ob H
                  refine WP.cS (As := [.long (x14 &&& x20)]) (st := []) (st9 := [.int x22]) (cl9 := 0) (sl9 := 0) d_X7_echo_102 (ok_J13_bitCount_95d88 V (h := h2) e21) tv_J13_bitCount_95d88 ts_J13_bitCount_95d88 lk_X7_117 r_X7_echo_J13_bitCount_95d88 rfl rfl (Nat.le_of_ble_eq_true rfl) rfl rfl rfl ?_
                  cases H
                  exact WP.ireturn d_X7_echo_105 rfl rfl (Nat.le_of_ble_eq_true rfl) (Nat.le_of_ble_eq_true rfl)
        rcases oj hs7 with ⟨hc, hs7⟩ | ⟨hc, hs7⟩
        · refine WP.icmp_ne_t d_X7_echo_24 hc ?_
          refine WP.iload_n d_X7_echo_27 4 rfl ?_
          refine WP.iconst d_X7_echo_28 ki_m1 ?_
          rcases oj hs7 with ⟨hc, hs7⟩ | ⟨hc, hs7⟩
          · refine WP.icmp_ne_t d_X7_echo_29 hc ?_
            refine WP.aload d_X7_echo_32 0 rfl ?_
            refine WP.iconst d_X7_echo_34 ki_0 ?_
            refine WP.iload d_X7_echo_35 5 rfl ?_
            obtain ⟨x10, e9, hs7⟩ := ob hs7
            refine WP.cV (c := 1) (As := [.int 0, .int l4]) (st := []) (st9 := [.int x10]) (cl9 := 0) (sl9 := 0) d_X7_echo_37 (ok_X0_blind V e9) tv_X0_blind ti_X0_blind ts_X0_blind lk_X7_202 r_X7_echo_X0_blind kc_X0_blind (kd_X0_blind e9) rfl rfl (Nat.le_of_ble_eq_true rfl) rfl rfl rfl ?_
            cases hs7
          · refine WP.icmp_ne_f d_X7_echo_29 hc ?_
            cases hs7
            exact WP.sub [3, 4, 5, 0] rfl J8
        · refine WP.icmp_ne_f d_X7_echo_24 hc ?_
          cases hs7
          exact WP.sub [3, 4, 5, 0] rfl J8

set_option maxRecDepth 20000 in
set_option maxHeartbeats 4000000 in
theorem ok_X7_cellOf (V : EV) {h : HA} {l0 : Option Nat} {l1 : Int32} {l2 : Int32} {r : Int32} (H : X7_cellOf h l0 l1 l2 = some r) : MG V M_X7_cellOf [va_rf l0, .int l1, .int l2] h (some (.int r)) h := by
  unfold X7_cellOf at H
  rcases l0 with _ | z0
  · dsimp only at H
    refine MG.of (lv0 := [(0, .null), (1, .int l1), (2, .int l2)]) pn_X7 rfl (Nat.le_of_ble_eq_true rfl) ?_
    refine WP.aload_nN d_X7_cellOf_0 0 rfl ?_
    refine WP.nnN d_X7_cellOf_1 ?_
    refine WP.bipush d_X7_cellOf_4 kb_m2 ?_
    cases H
    exact WP.ireturn d_X7_cellOf_6 rfl rfl (Nat.le_of_ble_eq_true rfl) (Nat.le_of_ble_eq_true rfl)
  · dsimp only at H
    refine MG.of (lv0 := [(0, .ref z0), (1, .int l1), (2, .int l2)]) pn_X7 rfl (Nat.le_of_ble_eq_true rfl) ?_
    refine WP.aload_n d_X7_cellOf_0 0 rfl ?_
    refine WP.nnR d_X7_cellOf_1 ?_
    refine WP.iload_n d_X7_cellOf_7 1 rfl ?_
    refine WP.iconst d_X7_cellOf_8 ki_m1 ?_
    rcases oj H with ⟨hc, H⟩ | ⟨hc, H⟩
    · refine WP.icmp_ne_t d_X7_cellOf_9 hc ?_
      refine WP.iload_n d_X7_cellOf_12 2 rfl ?_
      rcases oj H with ⟨hc, H⟩ | ⟨hc, H⟩
      · refine WP.if_ne_t d_X7_cellOf_13 hc ?_
        refine WP.aload_n d_X7_cellOf_16 0 rfl ?_
        obtain ⟨x1, ex1, H⟩ := ob H
        refine WP.fI d_X7_cellOf_17 gf_X7_209 (fun _ => rfl) ex1 ?_
        refine WP.goto d_X7_cellOf_20 ?_
        cases H
        exact WP.ireturn d_X7_cellOf_25 rfl rfl (Nat.le_of_ble_eq_true rfl) (Nat.le_of_ble_eq_true rfl)
      · refine WP.if_ne_f d_X7_cellOf_13 hc ?_
        refine WP.bipush d_X7_cellOf_23 kb_m2 ?_
        cases H
        exact WP.ireturn d_X7_cellOf_25 rfl rfl (Nat.le_of_ble_eq_true rfl) (Nat.le_of_ble_eq_true rfl)
    · refine WP.icmp_ne_f d_X7_cellOf_9 hc ?_
      refine WP.iload_n d_X7_cellOf_26 1 rfl ?_
      rcases oj H with ⟨hc, H⟩ | ⟨hc, H⟩
      · refine WP.if_lt_t d_X7_cellOf_27 hc ?_
        refine WP.bipush d_X7_cellOf_50 kb_m2 ?_
        cases H
        exact WP.ireturn d_X7_cellOf_52 rfl rfl (Nat.le_of_ble_eq_true rfl) (Nat.le_of_ble_eq_true rfl)
      · refine WP.if_lt_f d_X7_cellOf_27 hc ?_
        refine WP.iload_n d_X7_cellOf_30 1 rfl ?_
        refine WP.aload_n d_X7_cellOf_31 0 rfl ?_
        obtain ⟨x2, ex2, H⟩ := ob H
        refine WP.fI d_X7_cellOf_32 gf_X7_209 (fun _ => rfl) ex2 ?_
        rcases oj H with ⟨hc, H⟩ | ⟨hc, H⟩
        · refine WP.icmp_ge_t d_X7_cellOf_35 hc ?_
          refine WP.iload_n d_X7_cellOf_38 2 rfl ?_
          rcases oj H with ⟨hc, H⟩ | ⟨hc, H⟩
          · refine WP.if_lt_t d_X7_cellOf_39 hc ?_
            refine WP.bipush d_X7_cellOf_50 kb_m2 ?_
            cases H
            exact WP.ireturn d_X7_cellOf_52 rfl rfl (Nat.le_of_ble_eq_true rfl) (Nat.le_of_ble_eq_true rfl)
          · refine WP.if_lt_f d_X7_cellOf_39 hc ?_
            refine WP.iload_n d_X7_cellOf_42 2 rfl ?_
            refine WP.aload_n d_X7_cellOf_43 0 rfl ?_
            obtain ⟨x3, ex3, H⟩ := ob H
            refine WP.fI d_X7_cellOf_44 gf_X7_214 (fun _ => rfl) ex3 ?_
            rcases oj H with ⟨hc, H⟩ | ⟨hc, H⟩
            · refine WP.icmp_lt_t d_X7_cellOf_47 hc ?_
              refine WP.aload_n d_X7_cellOf_53 0 rfl ?_
              refine WP.iload_n d_X7_cellOf_54 1 rfl ?_
              refine WP.iload_n d_X7_cellOf_55 2 rfl ?_
              obtain ⟨x5, e4, H⟩ := ob H
              refine WP.cV (c := 3) (As := [.int l1, .int l2]) (st := []) (st9 := [.int x5]) (cl9 := 0) (sl9 := 0) d_X7_cellOf_56 (ok_X2_at V e4) tv_X2_at ti_X2_at ts_X2_at lk_X7_217 r_X7_cellOf_X2_at kc_X2_at (kd_X2_at e4) rfl rfl (Nat.le_of_ble_eq_true rfl) rfl rfl rfl ?_
              cases H
              exact WP.ireturn d_X7_cellOf_59 rfl rfl (Nat.le_of_ble_eq_true rfl) (Nat.le_of_ble_eq_true rfl)
            · refine WP.icmp_lt_f d_X7_cellOf_47 hc ?_
              refine WP.bipush d_X7_cellOf_50 kb_m2 ?_
              cases H
              exact WP.ireturn d_X7_cellOf_52 rfl rfl (Nat.le_of_ble_eq_true rfl) (Nat.le_of_ble_eq_true rfl)
        · refine WP.icmp_ge_f d_X7_cellOf_35 hc ?_
          refine WP.bipush d_X7_cellOf_50 kb_m2 ?_
          cases H
          exact WP.ireturn d_X7_cellOf_52 rfl rfl (Nat.le_of_ble_eq_true rfl) (Nat.le_of_ble_eq_true rfl)

set_option maxRecDepth 20000 in
set_option maxHeartbeats 4000000 in
theorem ok_X7_deed (V : EV) {h : HA} {t : Nat} {l1 : Int32} {l2 : Int32} {l3 : Int32} {r : Int32} (H : X7_deed h t l1 l2 l3 = some r) : MG V M_X7_deed [.ref t, .int l1, .int l2, .int l3] h (some (.int r)) h := by
  unfold X7_deed at H
  obtain ⟨_, H⟩ := oc H
  refine MG.of (lv0 := [(0, .ref t), (1, .int l1), (2, .int l2), (3, .int l3)]) pn_X7 rfl (Nat.le_of_ble_eq_true rfl) ?_
  refine WP.aload_n d_X7_deed_0 0 rfl ?_
  refine WP.iconst d_X7_deed_1 ki_1 ?_
  refine WP.iload_n d_X7_deed_2 1 rfl ?_
  obtain ⟨x2, e1, H⟩ := ob H
  refine WP.cV (c := 8) (As := [.int 1, .int l1]) (st := []) (st9 := va_rf x2 :: []) (cl9 := 0) (sl9 := 0) d_X7_deed_3 (ok_X7_listAt V e1) tv_X7_listAt ti_X7_listAt ts_X7_listAt lk_X7_99 r_X7_deed_X7_listAt kc_X7_listAt (kd_X7_listAt e1) rfl rfl (Nat.le_of_ble_eq_true rfl) rfl rfl rfl ?_
  rcases x2 with _ | z3
  · dsimp only at H
    refine WP.iload_n d_X7_deed_6 2 rfl ?_
    refine WP.iload_n d_X7_deed_7 3 rfl ?_
    obtain ⟨x5, e4, H⟩ := ob H
    refine WP.cS (As := [.null, .int l2, .int l3]) (st := []) (st9 := [.int x5]) (cl9 := 0) (sl9 := 0) d_X7_deed_8 (ok_X7_cellOf V e4) tv_X7_cellOf ts_X7_cellOf lk_X7_205 r_X7_deed_X7_cellOf rfl rfl (Nat.le_of_ble_eq_true rfl) rfl rfl rfl ?_
    cases H
    exact WP.ireturn d_X7_deed_11 rfl rfl (Nat.le_of_ble_eq_true rfl) (Nat.le_of_ble_eq_true rfl)
  · dsimp only at H
    refine WP.iload_n d_X7_deed_6 2 rfl ?_
    refine WP.iload_n d_X7_deed_7 3 rfl ?_
    obtain ⟨x7, e6, H⟩ := ob H
    refine WP.cS (As := [.ref z3, .int l2, .int l3]) (st := []) (st9 := [.int x7]) (cl9 := 0) (sl9 := 0) d_X7_deed_8 (ok_X7_cellOf V e6) tv_X7_cellOf ts_X7_cellOf lk_X7_205 r_X7_deed_X7_cellOf rfl rfl (Nat.le_of_ble_eq_true rfl) rfl rfl rfl ?_
    cases H
    exact WP.ireturn d_X7_deed_11 rfl rfl (Nat.le_of_ble_eq_true rfl) (Nat.le_of_ble_eq_true rfl)

set_option maxRecDepth 20000 in
set_option maxHeartbeats 4000000 in
theorem ok_X7_stop (V : EV) {h : HA} {t : Nat} {l1 : Int32} {l2 : Int32} {r : Int32} {hR : HA} (H : X7_stop h t l1 l2 = some (r, hR)) : MG V M_X7_stop [.ref t, .int l1, .int l2] h (some (.int r)) hR := by
  unfold X7_stop at H
  obtain ⟨_, H⟩ := oc H
  refine MG.of (lv0 := [(0, .ref t), (1, .int l1), (2, .int l2)]) pn_X7 rfl (Nat.le_of_ble_eq_true rfl) ?_
  refine WP.aload_n d_X7_stop_0 0 rfl ?_
  refine WP.iload_n d_X7_stop_1 1 rfl ?_
  refine WP.iload_n d_X7_stop_2 2 rfl ?_
  obtain ⟨⟨x3, h2⟩, e1, H⟩ := ob H
  refine WP.cV (c := 8) (As := [.int l1, .int l2]) (st := []) (st9 := va_rf x3 :: []) (cl9 := 0) (sl9 := 0) d_X7_stop_3 (ok_X7_hallOf V e1) tv_X7_hallOf ti_X7_hallOf ts_X7_hallOf lk_X7_220 r_X7_stop_X7_hallOf kc_X7_hallOf (kd_X7_hallOf e1) rfl rfl (Nat.le_of_ble_eq_true rfl) rfl rfl rfl ?_
  rcases x3 with _ | z4
  · dsimp only at H
    refine WP.astore_nN (lv9 := [(3, .null), (0, .ref t), (1, .int l1), (2, .int l2)]) d_X7_stop_6 (Nat.le_of_ble_eq_true rfl) rfl ?_
    refine WP.aload_nN d_X7_stop_7 0 rfl ?_
    refine WP.nnN d_X7_stop_8 ?_
    refine WP.iconst d_X7_stop_11 ki_m1 ?_
    refine WP.goto d_X7_stop_12 ?_
    cases H
    exact WP.ireturn d_X7_stop_19 rfl rfl (Nat.le_of_ble_eq_true rfl) (Nat.le_of_ble_eq_true rfl)
  · dsimp only at H
    refine WP.astore_n (lv9 := [(3, .ref z4), (0, .ref t), (1, .int l1), (2, .int l2)]) d_X7_stop_6 (Nat.le_of_ble_eq_true rfl) rfl ?_
    refine WP.aload_n d_X7_stop_7 0 rfl ?_
    refine WP.nnR d_X7_stop_8 ?_
    refine WP.aload_n d_X7_stop_15 0 rfl ?_
    obtain ⟨x5, ex5, H⟩ := ob H
    refine WP.fI d_X7_stop_16 gf_X7_224 (fun _ => rfl) ex5 ?_
    cases H
    exact WP.ireturn d_X7_stop_19 rfl rfl (Nat.le_of_ble_eq_true rfl) (Nat.le_of_ble_eq_true rfl)

set_option maxRecDepth 20000 in
set_option maxHeartbeats 4000000 in
theorem ok_X7_stands (V : EV) {h : HA} {t : Nat} {l1 : Int32} {l2 : Int32} {l3 : Int32} {l4 : Int32} {l5 : Int32} {r : Int32} {hR : HA} (H : X7_stands h t l1 l2 l3 l4 l5 = some (r, hR)) : MG V M_X7_stands [.ref t, .int l1, .int l2, .int l3, .int l4, .int l5] h (some (.int r)) hR := by
  unfold X7_stands at H
  obtain ⟨_, H⟩ := oc H
  refine MG.of (lv0 := [(0, .ref t), (1, .int l1), (2, .int l2), (3, .int l3), (4, .int l4), (5, .int l5)]) pn_X7 rfl (Nat.le_of_ble_eq_true rfl) ?_
  refine WP.aload_n d_X7_stands_0 0 rfl ?_
  refine WP.iload_n d_X7_stands_1 1 rfl ?_
  obtain ⟨⟨x3, h2⟩, e1, H⟩ := ob H
  refine WP.cV (c := 8) (As := [.int l1]) (st := []) (st9 := va_rf x3 :: []) (cl9 := 0) (sl9 := 0) d_X7_stands_2 (ok_X7_courtAt V e1) tv_X7_courtAt ti_X7_courtAt ts_X7_courtAt lk_X7_95 r_X7_stands_X7_courtAt kc_X7_courtAt (kd_X7_courtAt e1) rfl rfl (Nat.le_of_ble_eq_true rfl) rfl rfl rfl ?_
  rcases x3 with _ | z4
  · dsimp only at H
    refine WP.astoreN (lv9 := [(6, .null), (0, .ref t), (1, .int l1), (2, .int l2), (3, .int l3), (4, .int l4), (5, .int l5)]) d_X7_stands_5 (Nat.le_of_ble_eq_true rfl) rfl ?_
    refine WP.aload_n d_X7_stands_7 1 rfl ?_
    refine WP.iconst d_X7_stands_8 ki_1 ?_
    refine WP.iload_n d_X7_stands_9 3 rfl ?_
    obtain ⟨x6, e5, H⟩ := ob H
    refine WP.cV (c := 8) (As := [.int 1, .int l2]) (st := []) (st9 := va_rf x6 :: []) (cl9 := 0) (sl9 := 0) d_X7_stands_10 (ok_X7_listAt V e5) tv_X7_listAt ti_X7_listAt ts_X7_listAt lk_X7_99 r_X7_stands_X7_listAt kc_X7_listAt (kd_X7_listAt e5) rfl rfl (Nat.le_of_ble_eq_true rfl) rfl rfl rfl ?_
    rcases x6 with _ | z7
    · dsimp only at H
      refine WP.astoreN (lv9 := [(7, .null), (6, .null), (0, .ref t), (1, .int l1), (2, .int l2), (3, .int l3), (4, .int l4), (5, .int l5)]) d_X7_stands_13 (Nat.le_of_ble_eq_true rfl) rfl ?_
      refine WP.aloadN d_X7_stands_15 1 rfl ?_
      refine WP.nN d_X7_stands_17 ?_
      refine WP.bipush d_X7_stands_39 kb_m2 ?_
      cases H
      exact WP.ireturn d_X7_stands_41 rfl rfl (Nat.le_of_ble_eq_true rfl) (Nat.le_of_ble_eq_true rfl)
    · dsimp only at H
      refine WP.astore (lv9 := [(7, .ref z7), (6, .null), (0, .ref t), (1, .int l1), (2, .int l2), (3, .int l3), (4, .int l4), (5, .int l5)]) d_X7_stands_13 (Nat.le_of_ble_eq_true rfl) rfl ?_
      refine WP.aloadN d_X7_stands_15 1 rfl ?_
      refine WP.nN d_X7_stands_17 ?_
      refine WP.bipush d_X7_stands_39 kb_m2 ?_
      cases H
      exact WP.ireturn d_X7_stands_41 rfl rfl (Nat.le_of_ble_eq_true rfl) (Nat.le_of_ble_eq_true rfl)
  · dsimp only at H
    refine WP.astore (lv9 := [(6, .ref z4), (0, .ref t), (1, .int l1), (2, .int l2), (3, .int l3), (4, .int l4), (5, .int l5)]) d_X7_stands_5 (Nat.le_of_ble_eq_true rfl) rfl ?_
    refine WP.aload_n d_X7_stands_7 1 rfl ?_
    refine WP.iconst d_X7_stands_8 ki_1 ?_
    refine WP.iload_n d_X7_stands_9 3 rfl ?_
    obtain ⟨x9, e8, H⟩ := ob H
    refine WP.cV (c := 8) (As := [.int 1, .int l2]) (st := []) (st9 := va_rf x9 :: []) (cl9 := 0) (sl9 := 0) d_X7_stands_10 (ok_X7_listAt V e8) tv_X7_listAt ti_X7_listAt ts_X7_listAt lk_X7_99 r_X7_stands_X7_listAt kc_X7_listAt (kd_X7_listAt e8) rfl rfl (Nat.le_of_ble_eq_true rfl) rfl rfl rfl ?_
    rcases x9 with _ | z10
    · dsimp only at H
      refine WP.astoreN (lv9 := [(7, .null), (6, .ref z4), (0, .ref t), (1, .int l1), (2, .int l2), (3, .int l3), (4, .int l4), (5, .int l5)]) d_X7_stands_13 (Nat.le_of_ble_eq_true rfl) rfl ?_
      refine WP.aload d_X7_stands_15 1 rfl ?_
      refine WP.nR d_X7_stands_17 ?_
      refine WP.aloadN d_X7_stands_20 0 rfl ?_
      refine WP.nN d_X7_stands_22 ?_
      refine WP.bipush d_X7_stands_39 kb_m2 ?_
      cases H
      exact WP.ireturn d_X7_stands_41 rfl rfl (Nat.le_of_ble_eq_true rfl) (Nat.le_of_ble_eq_true rfl)
    · dsimp only at H
      refine WP.astore (lv9 := [(7, .ref z10), (6, .ref z4), (0, .ref t), (1, .int l1), (2, .int l2), (3, .int l3), (4, .int l4), (5, .int l5)]) d_X7_stands_13 (Nat.le_of_ble_eq_true rfl) rfl ?_
      refine WP.aload d_X7_stands_15 1 rfl ?_
      refine WP.nR d_X7_stands_17 ?_
      refine WP.aload d_X7_stands_20 0 rfl ?_
      refine WP.nR d_X7_stands_22 ?_
      refine WP.aload d_X7_stands_25 1 rfl ?_
      refine WP.iload d_X7_stands_27 6 rfl ?_
      obtain ⟨x12, e11, H⟩ := ob H
      refine WP.cV (c := 1) (As := [.int l4]) (st := []) (st9 := [.int x12]) (cl9 := 0) (sl9 := 0) d_X7_stands_29 (ok_X0_hasPleader V e11) tv_X0_hasPleader ti_X0_hasPleader ts_X0_hasPleader lk_X7_147 r_X7_stands_X0_hasPleader kc_X0_hasPleader (kd_X0_hasPleader e11) rfl rfl (Nat.le_of_ble_eq_true rfl) rfl rfl rfl ?_
      rcases oj H with ⟨hc, H⟩ | ⟨hc, H⟩
      · refine WP.if_eq_t d_X7_stands_32 hc ?_
        refine WP.bipush d_X7_stands_39 kb_m2 ?_
        cases H
        exact WP.ireturn d_X7_stands_41 rfl rfl (Nat.le_of_ble_eq_true rfl) (Nat.le_of_ble_eq_true rfl)
      · refine WP.if_eq_f d_X7_stands_32 hc ?_
        refine WP.iload_n d_X7_stands_35 5 rfl ?_
        rcases oj H with ⟨hc, H⟩ | ⟨hc, H⟩
        · refine WP.if_ge_t d_X7_stands_36 hc ?_
          refine WP.bipush d_X7_stands_39 kb_m2 ?_
          cases H
          exact WP.ireturn d_X7_stands_41 rfl rfl (Nat.le_of_ble_eq_true rfl) (Nat.le_of_ble_eq_true rfl)
        · refine WP.if_ge_f d_X7_stands_36 hc ?_
          refine WP.aload_n d_X7_stands_42 2 rfl ?_
          obtain ⟨x13, ex13, H⟩ := ob H
          refine WP.fR d_X7_stands_43 gf_X7_30 (fun _ => rfl) ex13 ?_
          refine WP.aload d_X7_stands_46 1 rfl ?_
          refine WP.aload d_X7_stands_48 0 rfl ?_
          refine WP.iload_n d_X7_stands_50 5 rfl ?_
          obtain ⟨h15, e14, H⟩ := ob H
          refine WP.cV (c := 2) (As := [.ref z4, .ref z10, .int l3]) (st := []) (st9 := []) (cl9 := 0) (sl9 := 0) d_X7_stands_51 (ok_X1_play V e14) tv_X1_play ti_X1_play ts_X1_play lk_X7_103 r_X7_stands_X1_play kc_X1_play (kd_X1_play e14) rfl rfl (Nat.le_of_ble_eq_true rfl) rfl rfl rfl ?_
          refine WP.aload_n d_X7_stands_54 2 rfl ?_
          obtain ⟨x16, ex16, H⟩ := ob H
          refine WP.fR d_X7_stands_55 gf_X7_30 (fun _ => rfl) ex16 ?_
          obtain ⟨x17, ex17, H⟩ := ob H
          refine WP.fI d_X7_stands_58 gf_X7_224 (fun _ => rfl) ex17 ?_
          refine WP.iload_n d_X7_stands_61 5 rfl ?_
          rcases oj H with ⟨hc, H⟩ | ⟨hc, H⟩
          · refine WP.icmp_ge_t d_X7_stands_62 hc ?_
            refine WP.bipush d_X7_stands_65 kb_m2 ?_
            cases H
            exact WP.ireturn d_X7_stands_67 rfl rfl (Nat.le_of_ble_eq_true rfl) (Nat.le_of_ble_eq_true rfl)
          · refine WP.icmp_ge_f d_X7_stands_62 hc ?_
            refine WP.iload d_X7_stands_68 7 rfl ?_
            rcases oj H with ⟨hc, H⟩ | ⟨hc, H⟩
            · refine WP.if_eq_t d_X7_stands_70 hc ?_
              refine WP.aload_n d_X7_stands_86 2 rfl ?_
              obtain ⟨x18, ex18, H⟩ := ob H
              refine WP.fR d_X7_stands_87 gf_X7_30 (fun _ => rfl) ex18 ?_
              obtain ⟨x19, ex19, H⟩ := ob H
              refine WP.fR d_X7_stands_90 gf_X7_230 (fun _ => rfl) ex19 ?_
              refine WP.iload d_X7_stands_93 6 rfl ?_
              obtain ⟨x20, ex20, H⟩ := ob H
              refine WP.iald d_X7_stands_95 ex20 ?_
              cases H
              exact WP.ireturn d_X7_stands_96 rfl rfl (Nat.le_of_ble_eq_true rfl) (Nat.le_of_ble_eq_true rfl)
            · refine WP.if_eq_f d_X7_stands_70 hc ?_
              refine WP.aload_n d_X7_stands_73 2 rfl ?_
              obtain ⟨x21, ex21, H⟩ := ob H
              refine WP.fR d_X7_stands_74 gf_X7_30 (fun _ => rfl) ex21 ?_
              obtain ⟨x22, ex22, H⟩ := ob H
              refine WP.fR d_X7_stands_77 gf_X7_227 (fun _ => rfl) ex22 ?_
              refine WP.iload d_X7_stands_80 6 rfl ?_
              obtain ⟨x23, ex23, H⟩ := ob H
              refine WP.iald d_X7_stands_82 ex23 ?_
              refine WP.goto d_X7_stands_83 ?_
              cases H
              exact WP.ireturn d_X7_stands_96 rfl rfl (Nat.le_of_ble_eq_true rfl) (Nat.le_of_ble_eq_true rfl)

set_option maxRecDepth 20000 in
set_option maxHeartbeats 4000000 in
theorem ok_X7_knows (V : EV) {h : HA} {t : Nat} {l1 : Int32} {l2 : Int32} {l3 : Int32} {l4 : Int32} {r : Int32} {hR : HA} (H : X7_knows h t l1 l2 l3 l4 = some (r, hR)) : MG V M_X7_knows [.ref t, .int l1, .int l2, .int l3, .int l4] h (some (.int r)) hR := by
  unfold X7_knows at H
  obtain ⟨_, H⟩ := oc H
  refine MG.of (lv0 := [(0, .ref t), (1, .int l1), (2, .int l2), (3, .int l3), (4, .int l4)]) pn_X7 rfl (Nat.le_of_ble_eq_true rfl) ?_
  refine WP.aload_n d_X7_knows_0 0 rfl ?_
  refine WP.iload_n d_X7_knows_1 1 rfl ?_
  refine WP.iload_n d_X7_knows_2 2 rfl ?_
  obtain ⟨⟨x3, h2⟩, e1, H⟩ := ob H
  refine WP.cV (c := 8) (As := [.int l1, .int l2]) (st := []) (st9 := va_rf x3 :: []) (cl9 := 0) (sl9 := 0) d_X7_knows_3 (ok_X7_hallOf V e1) tv_X7_hallOf ti_X7_hallOf ts_X7_hallOf lk_X7_220 r_X7_knows_X7_hallOf kc_X7_hallOf (kd_X7_hallOf e1) rfl rfl (Nat.le_of_ble_eq_true rfl) rfl rfl rfl ?_
  rcases x3 with _ | z4
  · dsimp only at H
    refine WP.astoreN (lv9 := [(5, .null), (0, .ref t), (1, .int l1), (2, .int l2), (3, .int l3), (4, .int l4)]) d_X7_knows_6 (Nat.le_of_ble_eq_true rfl) rfl ?_
    refine WP.aloadN d_X7_knows_8 0 rfl ?_
    refine WP.nN d_X7_knows_10 ?_
    refine WP.iconst d_X7_knows_26 ki_m1 ?_
    cases H
    exact WP.ireturn d_X7_knows_27 rfl rfl (Nat.le_of_ble_eq_true rfl) (Nat.le_of_ble_eq_true rfl)
  · dsimp only at H
    refine WP.astore (lv9 := [(5, .ref z4), (0, .ref t), (1, .int l1), (2, .int l2), (3, .int l3), (4, .int l4)]) d_X7_knows_6 (Nat.le_of_ble_eq_true rfl) rfl ?_
    refine WP.aload d_X7_knows_8 0 rfl ?_
    refine WP.nR d_X7_knows_10 ?_
    refine WP.iload_n d_X7_knows_13 4 rfl ?_
    rcases oj H with ⟨hc, H⟩ | ⟨hc, H⟩
    · refine WP.if_lt_t d_X7_knows_14 hc ?_
      refine WP.iconst d_X7_knows_26 ki_m1 ?_
      cases H
      exact WP.ireturn d_X7_knows_27 rfl rfl (Nat.le_of_ble_eq_true rfl) (Nat.le_of_ble_eq_true rfl)
    · refine WP.if_lt_f d_X7_knows_14 hc ?_
      refine WP.iload_n d_X7_knows_17 4 rfl ?_
      refine WP.aload d_X7_knows_18 0 rfl ?_
      obtain ⟨x5, ex5, H⟩ := ob H
      refine WP.fI d_X7_knows_20 gf_X7_224 (fun _ => rfl) ex5 ?_
      rcases oj H with ⟨hc, H⟩ | ⟨hc, H⟩
      · refine WP.icmp_le_t d_X7_knows_23 hc ?_
        refine WP.iconst d_X7_knows_26 ki_m1 ?_
        cases H
        exact WP.ireturn d_X7_knows_27 rfl rfl (Nat.le_of_ble_eq_true rfl) (Nat.le_of_ble_eq_true rfl)
      · refine WP.icmp_le_f d_X7_knows_23 hc ?_
        refine WP.iload d_X7_knows_28 5 rfl ?_
        refine WP.iconst d_X7_knows_30 ki_m1 ?_
        rcases oj H with ⟨hc, H⟩ | ⟨hc, H⟩
        · refine WP.icmp_ne_t d_X7_knows_31 hc ?_
          refine WP.aload d_X7_knows_34 0 rfl ?_
          refine WP.iload_n d_X7_knows_36 4 rfl ?_
          obtain ⟨x7, e6, H⟩ := ob H
          refine WP.cV (c := 2) (As := [.int l3]) (st := []) (st9 := [.int x7]) (cl9 := 0) (sl9 := 0) d_X7_knows_37 (ok_X1_common V e6) tv_X1_common ti_X1_common ts_X1_common lk_X7_233 r_X7_knows_X1_common kc_X1_common (kd_X1_common e6) rfl rfl (Nat.le_of_ble_eq_true rfl) rfl rfl rfl ?_
          cases H
          exact WP.ireturn d_X7_knows_40 rfl rfl (Nat.le_of_ble_eq_true rfl) (Nat.le_of_ble_eq_true rfl)
        · refine WP.icmp_ne_f d_X7_knows_31 hc ?_
          refine WP.iload d_X7_knows_41 5 rfl ?_
          refine WP.bipush d_X7_knows_43 kb_m2 ?_
          rcases oj H with ⟨hc, H⟩ | ⟨hc, H⟩
          · refine WP.icmp_ne_t d_X7_knows_45 hc ?_
            refine WP.aload d_X7_knows_48 0 rfl ?_
            refine WP.iload_n d_X7_knows_50 4 rfl ?_
            obtain ⟨x9, e8, H⟩ := ob H
            refine WP.cV (c := 2) (As := [.int l3]) (st := []) (st9 := [.int x9]) (cl9 := 0) (sl9 := 0) d_X7_knows_51 (ok_X1_lost V e8) tv_X1_lost ti_X1_lost ts_X1_lost lk_X7_236 r_X7_knows_X1_lost kc_X1_lost (kd_X1_lost e8) rfl rfl (Nat.le_of_ble_eq_true rfl) rfl rfl rfl ?_
            cases H
            exact WP.ireturn d_X7_knows_54 rfl rfl (Nat.le_of_ble_eq_true rfl) (Nat.le_of_ble_eq_true rfl)
          · refine WP.icmp_ne_f d_X7_knows_45 hc ?_
            refine WP.aload d_X7_knows_55 0 rfl ?_
            obtain ⟨x10, ex10, H⟩ := ob H
            refine WP.fR d_X7_knows_57 gf_X7_239 (fun _ => rfl) ex10 ?_
            refine WP.iload d_X7_knows_60 5 rfl ?_
            obtain ⟨x12, e11, H⟩ := ob H
            refine WP.cV (c := 1) (As := [.int l4]) (st := []) (st9 := [.int x12]) (cl9 := 0) (sl9 := 0) d_X7_knows_62 (ok_X0_hasJudge V e11) tv_X0_hasJudge ti_X0_hasJudge ts_X0_hasJudge lk_X7_137 r_X7_knows_X0_hasJudge kc_X0_hasJudge (kd_X0_hasJudge e11) rfl rfl (Nat.le_of_ble_eq_true rfl) rfl rfl rfl ?_
            rcases oj H with ⟨hc, H⟩ | ⟨hc, H⟩
            · refine WP.if_eq_t d_X7_knows_65 hc ?_
              refine WP.iconst d_X7_knows_79 ki_m1 ?_
              cases H
              exact WP.ireturn d_X7_knows_80 rfl rfl (Nat.le_of_ble_eq_true rfl) (Nat.le_of_ble_eq_true rfl)
            · refine WP.if_eq_f d_X7_knows_65 hc ?_
              refine WP.aload d_X7_knows_68 0 rfl ?_
              refine WP.iload d_X7_knows_70 5 rfl ?_
              refine WP.iload_n d_X7_knows_72 4 rfl ?_
              obtain ⟨x14, e13, H⟩ := ob H
              refine WP.cV (c := 2) (As := [.int l4, .int l3]) (st := []) (st9 := [.int x14]) (cl9 := 0) (sl9 := 0) d_X7_knows_73 (ok_X1_learned V e13) tv_X1_learned ti_X1_learned ts_X1_learned lk_X7_240 r_X7_knows_X1_learned kc_X1_learned (kd_X1_learned e13) rfl rfl (Nat.le_of_ble_eq_true rfl) rfl rfl rfl ?_
              refine WP.goto d_X7_knows_76 ?_
              cases H
              exact WP.ireturn d_X7_knows_80 rfl rfl (Nat.le_of_ble_eq_true rfl) (Nat.le_of_ble_eq_true rfl)
