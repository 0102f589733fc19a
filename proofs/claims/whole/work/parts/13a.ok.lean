set_option maxRecDepth 20000 in
set_option maxHeartbeats 4000000 in
theorem ok_X0_init (V : EV) {h : HA} {t : Nat} {hR : HA} (H : X0_init h t = some hR) : MG V M_X0_init [.ref t] h none hR := by
  unfold X0_init at H
  obtain ⟨_, H⟩ := oc H
  refine MG.of (lv0 := [(0, .ref t)]) pn_X0 rfl (Nat.le_of_ble_eq_true rfl) ?_
  refine WP.aload_n d_X0_init_0 0 rfl ?_
  refine WP.objInit d_X0_init_1 lk_X0_3 w_oi_inst w_oi_code (Nat.le_of_ble_eq_true rfl) (Nat.le_of_ble_eq_true rfl) ?_
  refine WP.aload_n d_X0_init_4 0 rfl ?_
  refine WP.bipush d_X0_init_5 kb_30 ?_
  obtain ⟨h1, eh1, H⟩ := ob H
  refine WP.newarr (c := 20) d_X0_init_7 (Nat.le_of_ble_eq_true rfl) (Nat.le_of_ble_eq_true rfl) rfl wa_int eh1 (Nat.le_of_ble_eq_true rfl) fc_20 (Nat.le_of_ble_eq_true rfl) (Nat.le_of_ble_eq_true rfl) newa_20 ?_
  refine WP.cs (cl9 := 1) (sl9 := 30) rfl rfl ?_
  obtain ⟨h2, eh2, H⟩ := ob H
  refine WP.vR d_X0_init_9 gf_X0_9 rfl rfl rfl (x := (some (hz h))) (fun _ => rfl) rfl rfl eh2 ?_
  refine WP.aload_n d_X0_init_12 0 rfl ?_
  refine WP.iconst d_X0_init_13 ki_4 ?_
  obtain ⟨h3, eh3, H⟩ := ob H
  refine WP.newarr (c := 20) d_X0_init_14 (Nat.le_of_ble_eq_true rfl) (Nat.le_of_ble_eq_true rfl) rfl wa_int eh3 (Nat.le_of_ble_eq_true rfl) fc_20 (Nat.le_of_ble_eq_true rfl) (Nat.le_of_ble_eq_true rfl) newa_20 ?_
  refine WP.cs (cl9 := 2) (sl9 := 34) rfl rfl ?_
  obtain ⟨h4, eh4, H⟩ := ob H
  refine WP.vR d_X0_init_16 gf_X0_15 rfl rfl rfl (x := (some (hz h2))) (fun _ => rfl) rfl rfl eh4 ?_
  refine WP.aload_n d_X0_init_19 0 rfl ?_
  refine WP.iconst d_X0_init_20 ki_4 ?_
  obtain ⟨h5, eh5, H⟩ := ob H
  refine WP.newarr (c := 20) d_X0_init_21 (Nat.le_of_ble_eq_true rfl) (Nat.le_of_ble_eq_true rfl) rfl wa_int eh5 (Nat.le_of_ble_eq_true rfl) fc_20 (Nat.le_of_ble_eq_true rfl) (Nat.le_of_ble_eq_true rfl) newa_20 ?_
  refine WP.cs (cl9 := 3) (sl9 := 38) rfl rfl ?_
  obtain ⟨h6, eh6, H⟩ := ob H
  refine WP.vR d_X0_init_23 gf_X0_18 rfl rfl rfl (x := (some (hz h4))) (fun _ => rfl) rfl rfl eh6 ?_
  refine WP.aload_n d_X0_init_26 0 rfl ?_
  refine WP.bipush d_X0_init_27 kb_114 ?_
  obtain ⟨h7, eh7, H⟩ := ob H
  refine WP.newarr (c := 21) d_X0_init_29 (Nat.le_of_ble_eq_true rfl) (Nat.le_of_ble_eq_true rfl) rfl wa_long eh7 (Nat.le_of_ble_eq_true rfl) fc_21 (Nat.le_of_ble_eq_true rfl) (Nat.le_of_ble_eq_true rfl) newa_21 ?_
  refine WP.cs (cl9 := 4) (sl9 := 152) rfl rfl ?_
  obtain ⟨h8, eh8, H⟩ := ob H
  refine WP.vR d_X0_init_31 gf_X0_21 rfl rfl rfl (x := (some (hz h6))) (fun _ => rfl) rfl rfl eh8 ?_
  refine WP.aload_n d_X0_init_34 0 rfl ?_
  refine WP.bipush d_X0_init_35 kb_24 ?_
  obtain ⟨h9, eh9, H⟩ := ob H
  refine WP.newarr (c := 21) d_X0_init_37 (Nat.le_of_ble_eq_true rfl) (Nat.le_of_ble_eq_true rfl) rfl wa_long eh9 (Nat.le_of_ble_eq_true rfl) fc_21 (Nat.le_of_ble_eq_true rfl) (Nat.le_of_ble_eq_true rfl) newa_21 ?_
  refine WP.cs (cl9 := 5) (sl9 := 176) rfl rfl ?_
  obtain ⟨h10, eh10, H⟩ := ob H
  refine WP.vR d_X0_init_39 gf_X0_25 rfl rfl rfl (x := (some (hz h8))) (fun _ => rfl) rfl rfl eh10 ?_
  cases H
  exact WP.return_ d_X0_init_42 rfl (Nat.le_of_ble_eq_true rfl) (Nat.le_of_ble_eq_true rfl)

set_option maxRecDepth 20000 in
set_option maxHeartbeats 4000000 in
theorem okl_J7_fill_53178_L5 (V : EV) {vF : Option Value} {hF : HA} {l0 : Nat} {l1 : Int32} {l3 : Int32} (n : Nat) : ∀ {h : HA} {l2 : Int32} {hR : HA}, (H : J7_fill_53178_L5 l0 l1 l3 n h l2 = some hR) → (K : WP V M_J7_fill_53178 20 [] [] hR 0 0 vF hF) → WP V M_J7_fill_53178 5 [(0, .ref l0), (1, .int l1), (2, .int l2), (3, .int l3)] [] h 0 0 vF hF := by
  induction n with
  | zero =>
    intro h l2 hR H K
    rw [J7_fill_53178_L5] at H
    cases H
  | succ n ih =>
    intro h l2 hR H K
    rw [J7_fill_53178_L5] at H
    refine WP.iload_n d_J7_fill_53178_5 2 rfl ?_
    refine WP.iload_n d_J7_fill_53178_6 3 rfl ?_
    rcases oj H with ⟨hc, H⟩ | ⟨hc, H⟩
    · refine WP.icmp_ge_t d_J7_fill_53178_7 hc ?_
      refine WP.aload_n d_J7_fill_53178_10 0 rfl ?_
      refine WP.iload_n d_J7_fill_53178_11 2 rfl ?_
      refine WP.iload_n d_J7_fill_53178_12 1 rfl ?_
      obtain ⟨h2, eh2, H⟩ := ob H
      refine WP.ias d_J7_fill_53178_13 eh2 ?_
      refine WP.iinc (lv9 := [(2, .int (l2 + 1)), (0, .ref l0), (1, .int l1), (3, .int l3)]) d_J7_fill_53178_14 2 rfl ki_1 (Nat.le_of_ble_eq_true rfl) rfl ?_
      refine WP.goto d_J7_fill_53178_17 ?_
      refine WP.sub [1, 2, 0, 3] (lv' := [(0, .ref l0), (1, .int l1), (2, .int (l2 + 1)), (3, .int l3)]) rfl ?_
      exact ih H K
    · refine WP.icmp_ge_f d_J7_fill_53178_7 hc ?_
      cases H
      exact WP.sub [] rfl K

set_option maxRecDepth 20000 in
set_option maxHeartbeats 4000000 in
theorem ok_J7_fill_53178 (V : EV) {h : HA} {l0 : Nat} {l1 : Int32} {hR : HA} (H : J7_fill_53178 h l0 l1 = some hR) : MG V M_J7_fill_53178 [.ref l0, .int l1] h none hR := by
  unfold J7_fill_53178 at H
  refine MG.of (lv0 := [(0, .ref l0), (1, .int l1)]) pn_J7 rfl (Nat.le_of_ble_eq_true rfl) ?_
  refine WP.iconst d_J7_fill_53178_0 ki_0 ?_
  refine WP.istore_n (lv9 := [(2, .int 0), (0, .ref l0), (1, .int l1)]) d_J7_fill_53178_1 (Nat.le_of_ble_eq_true rfl) rfl ?_
  refine WP.aload_n d_J7_fill_53178_2 1 rfl ?_
  obtain ⟨x1, ex1, H⟩ := ob H
  refine WP.alen d_J7_fill_53178_3 ex1 ?_
  refine WP.istore_n (lv9 := [(3, .int x1), (2, .int 0), (0, .ref l0), (1, .int l1)]) d_J7_fill_53178_4 (Nat.le_of_ble_eq_true rfl) rfl ?_
  obtain ⟨h4, e3, H⟩ := ob H
  refine WP.sub [2, 3, 1, 0] (lv' := [(0, .ref l0), (1, .int l1), (2, .int 0), (3, .int x1)]) rfl ?_
  refine okl_J7_fill_53178_L5 V _ e3 ?_
  cases H
  exact WP.return_ d_J7_fill_53178_20 rfl (Nat.le_of_ble_eq_true rfl) (Nat.le_of_ble_eq_true rfl)

set_option maxRecDepth 20000 in
set_option maxHeartbeats 4000000 in
theorem ok_X0_reset (V : EV) {h : HA} {t : Nat} {hR : HA} (H : X0_reset h t = some hR) : MG V M_X0_reset [.ref t] h none hR := by
  unfold X0_reset at H
  obtain ⟨_, H⟩ := oc H
  refine MG.of (lv0 := [(0, .ref t)]) pn_X0 rfl (Nat.le_of_ble_eq_true rfl) ?_
  refine WP.aload_n d_X0_reset_0 0 rfl ?_
  refine WP.iconst d_X0_reset_1 ki_5 ?_
  obtain ⟨h1, eh1, H⟩ := ob H
  refine WP.uI d_X0_reset_2 gf_X0_28 rfl (Or.inl rfl) rfl rfl eh1 ?_
  refine WP.aload_n d_X0_reset_5 0 rfl ?_
  refine WP.iconst d_X0_reset_6 ki_5 ?_
  obtain ⟨h2, eh2, H⟩ := ob H
  refine WP.uI d_X0_reset_7 gf_X0_32 rfl (Or.inl rfl) rfl rfl eh2 ?_
  refine WP.aload_n d_X0_reset_10 0 rfl ?_
  refine WP.lconst d_X0_reset_11 kl_0 ?_
  obtain ⟨h3, eh3, H⟩ := ob H
  refine WP.uJ d_X0_reset_12 gf_X0_35 rfl rfl eh3 ?_
  refine WP.aload_n d_X0_reset_15 0 rfl ?_
  refine WP.iconst d_X0_reset_16 ki_0 ?_
  obtain ⟨h4, eh4, H⟩ := ob H
  refine WP.uI d_X0_reset_17 gf_X0_39 rfl (Or.inl rfl) rfl rfl eh4 ?_
  refine WP.aload_n d_X0_reset_20 0 rfl ?_
  refine WP.iconst d_X0_reset_21 ki_0 ?_
  obtain ⟨h5, eh5, H⟩ := ob H
  refine WP.uI d_X0_reset_22 gf_X0_42 rfl (Or.inl rfl) rfl rfl eh5 ?_
  refine WP.aload_n d_X0_reset_25 0 rfl ?_
  obtain ⟨x6, ex6, H⟩ := ob H
  refine WP.fR d_X0_reset_26 gf_X0_18 (fun _ => rfl) ex6 ?_
  refine WP.iconst d_X0_reset_29 ki_m1 ?_
  obtain ⟨h8, e7, H⟩ := ob H
  refine WP.cS (As := [.ref x6, .int (-1)]) (st := []) (st9 := []) (cl9 := 0) (sl9 := 0) d_X0_reset_30 (ok_J7_fill_53178 V e7) tv_J7_fill_53178 ts_J7_fill_53178 lk_X0_45 r_X0_reset_J7_fill_53178 rfl rfl (Nat.le_of_ble_eq_true rfl) rfl rfl rfl ?_
  cases H
  exact WP.return_ d_X0_reset_33 rfl (Nat.le_of_ble_eq_true rfl) (Nat.le_of_ble_eq_true rfl)

set_option maxRecDepth 20000 in
set_option maxHeartbeats 4000000 in
theorem ok_X0_all (V : EV) {h : HA} {t : Nat} {r : Int64} (H : X0_all h t = some r) : MG V M_X0_all [.ref t] h (some (.long r)) h := by
  unfold X0_all at H
  obtain ⟨_, H⟩ := oc H
  refine MG.of (lv0 := [(0, .ref t)]) pn_X0 rfl (Nat.le_of_ble_eq_true rfl) ?_
  refine WP.aload_n d_X0_all_0 0 rfl ?_
  obtain ⟨x1, ex1, H⟩ := ob H
  refine WP.fI d_X0_all_1 gf_X0_28 (fun _ => rfl) ex1 ?_
  refine WP.aload_n d_X0_all_4 0 rfl ?_
  obtain ⟨x2, ex2, H⟩ := ob H
  refine WP.fI d_X0_all_5 gf_X0_32 (fun _ => rfl) ex2 ?_
  refine WP.imul d_X0_all_8 ?_
  refine WP.istore_n (lv9 := [(1, .int (x1 * x2)), (0, .ref t)]) d_X0_all_9 (Nat.le_of_ble_eq_true rfl) rfl ?_
  refine WP.iload_n d_X0_all_10 0 rfl ?_
  refine WP.bipush d_X0_all_11 kb_64 ?_
  rcases oj H with ⟨hc, H⟩ | ⟨hc, H⟩
  · refine WP.icmp_lt_t d_X0_all_13 hc ?_
    refine WP.lconst d_X0_all_22 kl_1 ?_
    refine WP.iload_n d_X0_all_23 0 rfl ?_
    refine WP.lshl d_X0_all_24 ?_
    refine WP.lconst d_X0_all_25 kl_1 ?_
    refine WP.lsub d_X0_all_26 ?_
    cases H
    exact WP.lreturn d_X0_all_27 rfl (Nat.le_of_ble_eq_true rfl) (Nat.le_of_ble_eq_true rfl)
  · refine WP.icmp_lt_f d_X0_all_13 hc ?_
    refine WP.ldc2 d_X0_all_16 wl_X0_60 ?_
    refine WP.goto d_X0_all_19 ?_
    cases H
    exact WP.lreturn d_X0_all_27 rfl (Nat.le_of_ble_eq_true rfl) (Nat.le_of_ble_eq_true rfl)

set_option maxRecDepth 20000 in
set_option maxHeartbeats 4000000 in
theorem okl_X0_measure_L4 (V : EV) {vF : Option Value} {hF : HA} {h : HA} {t : Nat} (n : Nat) : ∀ {l1 : Int64} {l3 : Int32} {r1 : Int64}, (H : X0_measure_L4 h t n l1 l3 = some r1) → (K : WP V M_X0_measure 29 [(0, .ref t), (1, .long r1)] [] h 0 0 vF hF) → WP V M_X0_measure 4 [(0, .ref t), (1, .long l1), (3, .int l3)] [] h 0 0 vF hF := by
  induction n with
  | zero =>
    intro l1 l3 r1 H K
    rw [X0_measure_L4] at H
    cases H
  | succ n ih =>
    intro l1 l3 r1 H K
    rw [X0_measure_L4] at H
    refine WP.iload_n d_X0_measure_4 2 rfl ?_
    refine WP.aload_n d_X0_measure_5 0 rfl ?_
    obtain ⟨x1, ex1, H⟩ := ob H
    refine WP.fI d_X0_measure_6 gf_X0_32 (fun _ => rfl) ex1 ?_
    rcases oj H with ⟨hc, H⟩ | ⟨hc, H⟩
    · refine WP.icmp_ge_t d_X0_measure_9 hc ?_
      refine WP.lload_n d_X0_measure_12 1 rfl ?_
      refine WP.lconst d_X0_measure_13 kl_1 ?_
      refine WP.iload_n d_X0_measure_14 2 rfl ?_
      refine WP.aload_n d_X0_measure_15 0 rfl ?_
      obtain ⟨x2, ex2, H⟩ := ob H
      refine WP.fI d_X0_measure_16 gf_X0_28 (fun _ => rfl) ex2 ?_
      refine WP.imul d_X0_measure_19 ?_
      refine WP.lshl d_X0_measure_20 ?_
      refine WP.lor d_X0_measure_21 ?_
      refine WP.lstore_n (lv9 := [(1, .long (l1 ||| (shlJ 1 (l3 * x2)))), (0, .ref t), (3, .int l3)]) d_X0_measure_22 (Nat.le_of_ble_eq_true rfl) rfl ?_
      refine WP.iinc (lv9 := [(3, .int (l3 + 1)), (1, .long (l1 ||| (shlJ 1 (l3 * x2)))), (0, .ref t)]) d_X0_measure_23 2 rfl ki_1 (Nat.le_of_ble_eq_true rfl) rfl ?_
      refine WP.goto d_X0_measure_26 ?_
      refine WP.sub [2, 1, 0] (lv' := [(0, .ref t), (1, .long (l1 ||| (shlJ 1 (l3 * x2)))), (3, .int (l3 + 1))]) rfl ?_
      exact ih H K
    · refine WP.icmp_ge_f d_X0_measure_9 hc ?_
      cases H
      exact WP.sub [0, 1] rfl K

set_option maxRecDepth 20000 in
set_option maxHeartbeats 4000000 in
theorem ok_X0_measure (V : EV) {h : HA} {t : Nat} {hR : HA} (H : X0_measure h t = some hR) : MG V M_X0_measure [.ref t] h none hR := by
  unfold X0_measure at H
  obtain ⟨_, H⟩ := oc H
  refine MG.of (lv0 := [(0, .ref t)]) pn_X0 rfl (Nat.le_of_ble_eq_true rfl) ?_
  refine WP.lconst d_X0_measure_0 kl_0 ?_
  refine WP.lstore_n (lv9 := [(1, .long 0), (0, .ref t)]) d_X0_measure_1 (Nat.le_of_ble_eq_true rfl) rfl ?_
  refine WP.iconst d_X0_measure_2 ki_0 ?_
  refine WP.istore_n (lv9 := [(3, .int 0), (1, .long 0), (0, .ref t)]) d_X0_measure_3 (Nat.le_of_ble_eq_true rfl) rfl ?_
  obtain ⟨y4, e3, H⟩ := ob H
  refine WP.sub [2, 1, 0] (lv' := [(0, .ref t), (1, .long 0), (3, .int 0)]) rfl ?_
  refine okl_X0_measure_L4 V _ e3 ?_
  refine WP.aload_n d_X0_measure_29 0 rfl ?_
  refine WP.aload_n d_X0_measure_30 0 rfl ?_
  obtain ⟨x6, e5, H⟩ := ob H
  refine WP.cV (c := 1) (As := []) (st := [.ref t]) (st9 := [.long x6, .ref t]) (cl9 := 0) (sl9 := 0) d_X0_measure_31 (ok_X0_all V e5) tv_X0_all ti_X0_all ts_X0_all lk_X0_62 r_X0_measure_X0_all kc_X0_all (kd_X0_all e5) rfl rfl (Nat.le_of_ble_eq_true rfl) rfl rfl rfl ?_
  refine WP.aload_n d_X0_measure_34 0 rfl ?_
  obtain ⟨x7, ex7, H⟩ := ob H
  refine WP.fJ d_X0_measure_35 gf_X0_35 (fun _ => rfl) ex7 ?_
  refine WP.ldc2 d_X0_measure_38 wl_X0_60 ?_
  refine WP.lxor d_X0_measure_41 ?_
  refine WP.land d_X0_measure_42 ?_
  obtain ⟨h8, eh8, H⟩ := ob H
  refine WP.uJ d_X0_measure_43 gf_X0_66 rfl rfl eh8 ?_
  refine WP.aload_n d_X0_measure_46 0 rfl ?_
  refine WP.aload_n d_X0_measure_47 0 rfl ?_
  obtain ⟨x9, ex9, H⟩ := ob H
  refine WP.fJ d_X0_measure_48 gf_X0_66 (fun _ => rfl) ex9 ?_
  refine WP.lload_n d_X0_measure_51 1 rfl ?_
  refine WP.ldc2 d_X0_measure_52 wl_X0_60 ?_
  refine WP.lxor d_X0_measure_55 ?_
  refine WP.land d_X0_measure_56 ?_
  obtain ⟨h10, eh10, H⟩ := ob H
  refine WP.uJ d_X0_measure_57 gf_X0_69 rfl rfl eh10 ?_
  refine WP.aload_n d_X0_measure_60 0 rfl ?_
  refine WP.aload_n d_X0_measure_61 0 rfl ?_
  obtain ⟨x11, ex11, H⟩ := ob H
  refine WP.fJ d_X0_measure_62 gf_X0_66 (fun _ => rfl) ex11 ?_
  refine WP.lload_n d_X0_measure_65 1 rfl ?_
  refine WP.aload_n d_X0_measure_66 0 rfl ?_
  obtain ⟨x12, ex12, H⟩ := ob H
  refine WP.fI d_X0_measure_67 gf_X0_28 (fun _ => rfl) ex12 ?_
  refine WP.iconst d_X0_measure_70 ki_1 ?_
  refine WP.isub d_X0_measure_71 ?_
  refine WP.lshl d_X0_measure_72 ?_
  refine WP.ldc2 d_X0_measure_73 wl_X0_60 ?_
  refine WP.lxor d_X0_measure_76 ?_
  refine WP.land d_X0_measure_77 ?_
  obtain ⟨h13, eh13, H⟩ := ob H
  refine WP.uJ d_X0_measure_78 gf_X0_72 rfl rfl eh13 ?_
  refine WP.aload_n d_X0_measure_81 0 rfl ?_
  refine WP.iconst d_X0_measure_82 ki_0 ?_
  obtain ⟨h14, eh14, H⟩ := ob H
  refine WP.uI d_X0_measure_83 gf_X0_75 rfl (Or.inr rfl) rfl rfl eh14 ?_
  cases H
  exact WP.return_ d_X0_measure_86 rfl (Nat.le_of_ble_eq_true rfl) (Nat.le_of_ble_eq_true rfl)

set_option maxRecDepth 20000 in
set_option maxHeartbeats 4000000 in
theorem ok_X0_copyFrom (V : EV) {h : HA} {t : Nat} {l1 : Nat} {hR : HA} (H : X0_copyFrom h t l1 = some hR) : MG V M_X0_copyFrom [.ref t, .ref l1] h none hR := by
  unfold X0_copyFrom at H
  obtain ⟨_, H⟩ := oc H
  refine MG.of (lv0 := [(0, .ref t), (1, .ref l1)]) pn_X0 rfl (Nat.le_of_ble_eq_true rfl) ?_
  refine WP.aload_n d_X0_copyFrom_0 0 rfl ?_
  refine WP.aload_n d_X0_copyFrom_1 1 rfl ?_
  obtain ⟨x1, ex1, H⟩ := ob H
  refine WP.fI d_X0_copyFrom_2 gf_X0_28 (fun _ => rfl) ex1 ?_
  obtain ⟨h2, eh2, H⟩ := ob H
  refine WP.uI d_X0_copyFrom_5 gf_X0_28 rfl (Or.inl rfl) rfl rfl eh2 ?_
  refine WP.aload_n d_X0_copyFrom_8 0 rfl ?_
  refine WP.aload_n d_X0_copyFrom_9 1 rfl ?_
  obtain ⟨x3, ex3, H⟩ := ob H
  refine WP.fI d_X0_copyFrom_10 gf_X0_32 (fun _ => rfl) ex3 ?_
  obtain ⟨h4, eh4, H⟩ := ob H
  refine WP.uI d_X0_copyFrom_13 gf_X0_32 rfl (Or.inl rfl) rfl rfl eh4 ?_
  refine WP.aload_n d_X0_copyFrom_16 0 rfl ?_
  refine WP.aload_n d_X0_copyFrom_17 1 rfl ?_
  obtain ⟨x5, ex5, H⟩ := ob H
  refine WP.fJ d_X0_copyFrom_18 gf_X0_35 (fun _ => rfl) ex5 ?_
  obtain ⟨h6, eh6, H⟩ := ob H
  refine WP.uJ d_X0_copyFrom_21 gf_X0_35 rfl rfl eh6 ?_
  refine WP.aload_n d_X0_copyFrom_24 0 rfl ?_
  refine WP.aload_n d_X0_copyFrom_25 1 rfl ?_
  obtain ⟨x7, ex7, H⟩ := ob H
  refine WP.fI d_X0_copyFrom_26 gf_X0_39 (fun _ => rfl) ex7 ?_
  obtain ⟨h8, eh8, H⟩ := ob H
  refine WP.uI d_X0_copyFrom_29 gf_X0_39 rfl (Or.inl rfl) rfl rfl eh8 ?_
  refine WP.aload_n d_X0_copyFrom_32 0 rfl ?_
  refine WP.aload_n d_X0_copyFrom_33 1 rfl ?_
  obtain ⟨x9, ex9, H⟩ := ob H
  refine WP.fI d_X0_copyFrom_34 gf_X0_42 (fun _ => rfl) ex9 ?_
  obtain ⟨h10, eh10, H⟩ := ob H
  refine WP.uI d_X0_copyFrom_37 gf_X0_42 rfl (Or.inl rfl) rfl rfl eh10 ?_
  refine WP.aload_n d_X0_copyFrom_40 1 rfl ?_
  obtain ⟨x11, ex11, H⟩ := ob H
  refine WP.fR d_X0_copyFrom_41 gf_X0_9 (fun _ => rfl) ex11 ?_
  refine WP.iconst d_X0_copyFrom_44 ki_0 ?_
  refine WP.aload_n d_X0_copyFrom_45 0 rfl ?_
  obtain ⟨x12, ex12, H⟩ := ob H
  refine WP.fR d_X0_copyFrom_46 gf_X0_9 (fun _ => rfl) ex12 ?_
  refine WP.iconst d_X0_copyFrom_49 ki_0 ?_
  refine WP.aload_n d_X0_copyFrom_50 0 rfl ?_
  obtain ⟨x13, ex13, H⟩ := ob H
  refine WP.fR d_X0_copyFrom_51 gf_X0_9 (fun _ => rfl) ex13 ?_
  obtain ⟨x14, ex14, H⟩ := ob H
  refine WP.alen d_X0_copyFrom_54 ex14 ?_
  obtain ⟨h15, eh15, H⟩ := ob H
  refine WP.copy d_X0_copyFrom_55 (by decide) lk_X0_51 w_ac_nat w_ac_stat w_ac_init eh15 (Nat.le_of_ble_eq_true rfl) (Nat.le_of_ble_eq_true rfl) ?_
  refine WP.aload_n d_X0_copyFrom_58 1 rfl ?_
  obtain ⟨x16, ex16, H⟩ := ob H
  refine WP.fR d_X0_copyFrom_59 gf_X0_15 (fun _ => rfl) ex16 ?_
  refine WP.iconst d_X0_copyFrom_62 ki_0 ?_
  refine WP.aload_n d_X0_copyFrom_63 0 rfl ?_
  obtain ⟨x17, ex17, H⟩ := ob H
  refine WP.fR d_X0_copyFrom_64 gf_X0_15 (fun _ => rfl) ex17 ?_
  refine WP.iconst d_X0_copyFrom_67 ki_0 ?_
  refine WP.iconst d_X0_copyFrom_68 ki_4 ?_
  obtain ⟨h18, eh18, H⟩ := ob H
  refine WP.copy d_X0_copyFrom_69 (by decide) lk_X0_51 w_ac_nat w_ac_stat w_ac_init eh18 (Nat.le_of_ble_eq_true rfl) (Nat.le_of_ble_eq_true rfl) ?_
  refine WP.aload_n d_X0_copyFrom_72 1 rfl ?_
  obtain ⟨x19, ex19, H⟩ := ob H
  refine WP.fR d_X0_copyFrom_73 gf_X0_18 (fun _ => rfl) ex19 ?_
  refine WP.iconst d_X0_copyFrom_76 ki_0 ?_
  refine WP.aload_n d_X0_copyFrom_77 0 rfl ?_
  obtain ⟨x20, ex20, H⟩ := ob H
  refine WP.fR d_X0_copyFrom_78 gf_X0_18 (fun _ => rfl) ex20 ?_
  refine WP.iconst d_X0_copyFrom_81 ki_0 ?_
  refine WP.iconst d_X0_copyFrom_82 ki_4 ?_
  obtain ⟨h21, eh21, H⟩ := ob H
  refine WP.copy d_X0_copyFrom_83 (by decide) lk_X0_51 w_ac_nat w_ac_stat w_ac_init eh21 (Nat.le_of_ble_eq_true rfl) (Nat.le_of_ble_eq_true rfl) ?_
  refine WP.aload_n d_X0_copyFrom_86 0 rfl ?_
  obtain ⟨h23, e22, H⟩ := ob H
  refine WP.cV (c := 1) (As := []) (st := []) (st9 := []) (cl9 := 0) (sl9 := 0) d_X0_copyFrom_87 (ok_X0_measure V e22) tv_X0_measure ti_X0_measure ts_X0_measure lk_X0_57 r_X0_copyFrom_X0_measure kc_X0_measure (kd_X0_measure e22) rfl rfl (Nat.le_of_ble_eq_true rfl) rfl rfl rfl ?_
  cases H
  exact WP.return_ d_X0_copyFrom_90 rfl (Nat.le_of_ble_eq_true rfl) (Nat.le_of_ble_eq_true rfl)

set_option maxRecDepth 20000 in
set_option maxHeartbeats 4000000 in
theorem ok_X7_has (V : EV) {h : HA} {l0 : Int64} {l2 : Int32} {r : Int32} (H : X7_has l0 l2 = some r) : MG V M_X7_has [.long l0, .int l2] h (some (.int r)) h := by
  unfold X7_has at H
  refine MG.of (lv0 := [(0, .long l0), (2, .int l2)]) pn_X7 rfl (Nat.le_of_ble_eq_true rfl) ?_
  refine WP.lload_n d_X7_has_0 0 rfl ?_
  refine WP.iload_n d_X7_has_1 1 rfl ?_
  refine WP.lushr d_X7_has_2 ?_
  refine WP.lconst d_X7_has_3 kl_1 ?_
  refine WP.land d_X7_has_4 ?_
  refine WP.lconst d_X7_has_5 kl_0 ?_
  rcases oj H with ⟨hc, H⟩ | ⟨hc, H⟩
  · refine WP.lcmp_eq_t d_X7_has_6 d_X7_has_7 hc ?_
    refine WP.iconst d_X7_has_14 ki_0 ?_
    cases H
    exact WP.ireturn d_X7_has_15 rfl rfl (Nat.le_of_ble_eq_true rfl) (Nat.le_of_ble_eq_true rfl)
  · refine WP.lcmp_eq_f d_X7_has_6 d_X7_has_7 hc ?_
    refine WP.iconst d_X7_has_10 ki_1 ?_
    refine WP.goto d_X7_has_11 ?_
    cases H
    exact WP.ireturn d_X7_has_15 rfl rfl (Nat.le_of_ble_eq_true rfl) (Nat.le_of_ble_eq_true rfl)

set_option maxRecDepth 20000 in
set_option maxHeartbeats 4000000 in
theorem ok_X0_isOpen (V : EV) {h : HA} {t : Nat} {l1 : Int32} {r : Int32} (H : X0_isOpen h t l1 = some r) : MG V M_X0_isOpen [.ref t, .int l1] h (some (.int r)) h := by
  unfold X0_isOpen at H
  obtain ⟨_, H⟩ := oc H
  refine MG.of (lv0 := [(0, .ref t), (1, .int l1)]) pn_X0 rfl (Nat.le_of_ble_eq_true rfl) ?_
  refine WP.iload_n d_X0_isOpen_0 1 rfl ?_
  rcases oj H with ⟨hc, H⟩ | ⟨hc, H⟩
  · refine WP.if_lt_t d_X0_isOpen_1 hc ?_
    refine WP.iconst d_X0_isOpen_25 ki_0 ?_
    cases H
    exact WP.ireturn d_X0_isOpen_26 rfl rfl (Nat.le_of_ble_eq_true rfl) (Nat.le_of_ble_eq_true rfl)
  · refine WP.if_lt_f d_X0_isOpen_1 hc ?_
    refine WP.iload_n d_X0_isOpen_4 1 rfl ?_
    refine WP.bipush d_X0_isOpen_5 kb_64 ?_
    rcases oj H with ⟨hc, H⟩ | ⟨hc, H⟩
    · refine WP.icmp_ge_t d_X0_isOpen_7 hc ?_
      refine WP.aload_n d_X0_isOpen_10 0 rfl ?_
      obtain ⟨x1, ex1, H⟩ := ob H
      refine WP.fJ d_X0_isOpen_11 gf_X0_66 (fun _ => rfl) ex1 ?_
      refine WP.iload_n d_X0_isOpen_14 1 rfl ?_
      obtain ⟨x3, e2, H⟩ := ob H
      refine WP.cSN (As := [.long x1, .int l1]) (st := []) (st9 := [.int x3]) (cl9 := 0) (sl9 := 0) d_X0_isOpen_15 (ok_X7_has V (h := h) e2) tv_X7_has ts_X7_has ln_X0_79 r_X0_isOpen_X7_has rfl rfl (Nat.le_of_ble_eq_true rfl) rfl rfl rfl ?_
      rcases oj H with ⟨hc, H⟩ | ⟨hc, H⟩
      · refine WP.if_eq_t d_X0_isOpen_18 hc ?_
        refine WP.iconst d_X0_isOpen_25 ki_0 ?_
        cases H
        exact WP.ireturn d_X0_isOpen_26 rfl rfl (Nat.le_of_ble_eq_true rfl) (Nat.le_of_ble_eq_true rfl)
      · refine WP.if_eq_f d_X0_isOpen_18 hc ?_
        refine WP.iconst d_X0_isOpen_21 ki_1 ?_
        refine WP.goto d_X0_isOpen_22 ?_
        cases H
        exact WP.ireturn d_X0_isOpen_26 rfl rfl (Nat.le_of_ble_eq_true rfl) (Nat.le_of_ble_eq_true rfl)
    · refine WP.icmp_ge_f d_X0_isOpen_7 hc ?_
      refine WP.iconst d_X0_isOpen_25 ki_0 ?_
      cases H
      exact WP.ireturn d_X0_isOpen_26 rfl rfl (Nat.le_of_ble_eq_true rfl) (Nat.le_of_ble_eq_true rfl)

set_option maxRecDepth 20000 in
set_option maxHeartbeats 4000000 in
theorem ok_X0_hasJudge (V : EV) {h : HA} {t : Nat} {l1 : Int32} {r : Int32} (H : X0_hasJudge h t l1 = some r) : MG V M_X0_hasJudge [.ref t, .int l1] h (some (.int r)) h := by
  unfold X0_hasJudge at H
  obtain ⟨_, H⟩ := oc H
  refine MG.of (lv0 := [(0, .ref t), (1, .int l1)]) pn_X0 rfl (Nat.le_of_ble_eq_true rfl) ?_
  refine WP.iload_n d_X0_hasJudge_0 1 rfl ?_
  rcases oj H with ⟨hc, H⟩ | ⟨hc, H⟩
  · refine WP.if_lt_t d_X0_hasJudge_1 hc ?_
    refine WP.iconst d_X0_hasJudge_16 ki_0 ?_
    cases H
    exact WP.ireturn d_X0_hasJudge_17 rfl rfl (Nat.le_of_ble_eq_true rfl) (Nat.le_of_ble_eq_true rfl)
  · refine WP.if_lt_f d_X0_hasJudge_1 hc ?_
    refine WP.iload_n d_X0_hasJudge_4 1 rfl ?_
    refine WP.aload_n d_X0_hasJudge_5 0 rfl ?_
    obtain ⟨x1, ex1, H⟩ := ob H
    refine WP.fI d_X0_hasJudge_6 gf_X0_39 (fun _ => rfl) ex1 ?_
    rcases oj H with ⟨hc, H⟩ | ⟨hc, H⟩
    · refine WP.icmp_ge_t d_X0_hasJudge_9 hc ?_
      refine WP.iconst d_X0_hasJudge_12 ki_1 ?_
      refine WP.goto d_X0_hasJudge_13 ?_
      cases H
      exact WP.ireturn d_X0_hasJudge_17 rfl rfl (Nat.le_of_ble_eq_true rfl) (Nat.le_of_ble_eq_true rfl)
    · refine WP.icmp_ge_f d_X0_hasJudge_9 hc ?_
      refine WP.iconst d_X0_hasJudge_16 ki_0 ?_
      cases H
      exact WP.ireturn d_X0_hasJudge_17 rfl rfl (Nat.le_of_ble_eq_true rfl) (Nat.le_of_ble_eq_true rfl)

set_option maxRecDepth 20000 in
set_option maxHeartbeats 4000000 in
theorem ok_X0_hasPleader (V : EV) {h : HA} {t : Nat} {l1 : Int32} {r : Int32} (H : X0_hasPleader h t l1 = some r) : MG V M_X0_hasPleader [.ref t, .int l1] h (some (.int r)) h := by
  unfold X0_hasPleader at H
  obtain ⟨_, H⟩ := oc H
  refine MG.of (lv0 := [(0, .ref t), (1, .int l1)]) pn_X0 rfl (Nat.le_of_ble_eq_true rfl) ?_
  refine WP.iload_n d_X0_hasPleader_0 1 rfl ?_
  rcases oj H with ⟨hc, H⟩ | ⟨hc, H⟩
  · refine WP.if_lt_t d_X0_hasPleader_1 hc ?_
    refine WP.iconst d_X0_hasPleader_16 ki_0 ?_
    cases H
    exact WP.ireturn d_X0_hasPleader_17 rfl rfl (Nat.le_of_ble_eq_true rfl) (Nat.le_of_ble_eq_true rfl)
  · refine WP.if_lt_f d_X0_hasPleader_1 hc ?_
    refine WP.iload_n d_X0_hasPleader_4 1 rfl ?_
    refine WP.aload_n d_X0_hasPleader_5 0 rfl ?_
    obtain ⟨x1, ex1, H⟩ := ob H
    refine WP.fI d_X0_hasPleader_6 gf_X0_42 (fun _ => rfl) ex1 ?_
    rcases oj H with ⟨hc, H⟩ | ⟨hc, H⟩
    · refine WP.icmp_ge_t d_X0_hasPleader_9 hc ?_
      refine WP.iconst d_X0_hasPleader_12 ki_1 ?_
      refine WP.goto d_X0_hasPleader_13 ?_
      cases H
      exact WP.ireturn d_X0_hasPleader_17 rfl rfl (Nat.le_of_ble_eq_true rfl) (Nat.le_of_ble_eq_true rfl)
    · refine WP.icmp_ge_f d_X0_hasPleader_9 hc ?_
      refine WP.iconst d_X0_hasPleader_16 ki_0 ?_
      cases H
      exact WP.ireturn d_X0_hasPleader_17 rfl rfl (Nat.le_of_ble_eq_true rfl) (Nat.le_of_ble_eq_true rfl)

set_option maxRecDepth 20000 in
set_option maxHeartbeats 4000000 in
theorem ok_X0_of (V : EV) {h : HA} {t : Nat} {l1 : Int32} {l2 : Int32} {r : Int32} (H : X0_of h t l1 l2 = some r) : MG V M_X0_of [.ref t, .int l1, .int l2] h (some (.int r)) h := by
  unfold X0_of at H
  obtain ⟨_, H⟩ := oc H
  refine MG.of (lv0 := [(0, .ref t), (1, .int l1), (2, .int l2)]) pn_X0 rfl (Nat.le_of_ble_eq_true rfl) ?_
  refine WP.aload_n d_X0_of_0 0 rfl ?_
  obtain ⟨x1, ex1, H⟩ := ob H
  refine WP.fR d_X0_of_1 gf_X0_9 (fun _ => rfl) ex1 ?_
  refine WP.iload_n d_X0_of_4 1 rfl ?_
  refine WP.iconst d_X0_of_5 ki_5 ?_
  refine WP.imul d_X0_of_6 ?_
  refine WP.iload_n d_X0_of_7 2 rfl ?_
  refine WP.iadd d_X0_of_8 ?_
  obtain ⟨x2, ex2, H⟩ := ob H
  refine WP.iald d_X0_of_9 ex2 ?_
  cases H
  exact WP.ireturn d_X0_of_10 rfl rfl (Nat.le_of_ble_eq_true rfl) (Nat.le_of_ble_eq_true rfl)

set_option maxRecDepth 20000 in
set_option maxHeartbeats 4000000 in
theorem ok_X0_faces (V : EV) {h : HA} {t : Nat} {l1 : Int32} {l2 : Int32} {r : Int32} (H : X0_faces h t l1 l2 = some r) : MG V M_X0_faces [.ref t, .int l1, .int l2] h (some (.int r)) h := by
  unfold X0_faces at H
  obtain ⟨_, H⟩ := oc H
  refine MG.of (lv0 := [(0, .ref t), (1, .int l1), (2, .int l2)]) pn_X0 rfl (Nat.le_of_ble_eq_true rfl) ?_
  refine WP.aload_n d_X0_faces_0 0 rfl ?_
  refine WP.iload_n d_X0_faces_1 1 rfl ?_
  refine WP.iconst d_X0_faces_2 ki_1 ?_
  obtain ⟨x2, e1, H⟩ := ob H
  refine WP.cV (c := 1) (As := [.int l1, .int 1]) (st := []) (st9 := [.int x2]) (cl9 := 0) (sl9 := 0) d_X0_faces_3 (ok_X0_of V e1) tv_X0_of ti_X0_of ts_X0_of lk_X0_83 r_X0_faces_X0_of kc_X0_of (kd_X0_of e1) rfl rfl (Nat.le_of_ble_eq_true rfl) rfl rfl rfl ?_
  refine WP.iload_n d_X0_faces_6 2 rfl ?_
  refine WP.aload_n d_X0_faces_7 0 rfl ?_
  refine WP.iload_n d_X0_faces_8 1 rfl ?_
  refine WP.iconst d_X0_faces_9 ki_4 ?_
  obtain ⟨x4, e3, H⟩ := ob H
  refine WP.cV (c := 1) (As := [.int l1, .int 4]) (st := [.int l2, .int x2]) (st9 := [.int x4, .int l2, .int x2]) (cl9 := 0) (sl9 := 0) d_X0_faces_10 (ok_X0_of V e3) tv_X0_of ti_X0_of ts_X0_of lk_X0_83 r_X0_faces_X0_of kc_X0_of (kd_X0_of e3) rfl rfl (Nat.le_of_ble_eq_true rfl) rfl rfl rfl ?_
  refine WP.imul d_X0_faces_13 ?_
  refine WP.iadd d_X0_faces_14 ?_
  refine WP.iconst d_X0_faces_15 ki_3 ?_
  refine WP.iand d_X0_faces_16 ?_
  cases H
  exact WP.ireturn d_X0_faces_17 rfl rfl (Nat.le_of_ble_eq_true rfl) (Nat.le_of_ble_eq_true rfl)

set_option maxRecDepth 20000 in
set_option maxHeartbeats 4000000 in
theorem ok_X0_grow (V : EV) {h : HA} {t : Nat} {l1 : Int64} {r : Int64} (H : X0_grow h t l1 = some r) : MG V M_X0_grow [.ref t, .long l1] h (some (.long r)) h := by
  unfold X0_grow at H
  obtain ⟨_, H⟩ := oc H
  refine MG.of (lv0 := [(0, .ref t), (1, .long l1)]) pn_X0 rfl (Nat.le_of_ble_eq_true rfl) ?_
  refine WP.lload_n d_X0_grow_0 1 rfl ?_
  refine WP.aload_n d_X0_grow_1 0 rfl ?_
  obtain ⟨x1, ex1, H⟩ := ob H
  refine WP.fJ d_X0_grow_2 gf_X0_69 (fun _ => rfl) ex1 ?_
  refine WP.land d_X0_grow_5 ?_
  refine WP.iconst d_X0_grow_6 ki_1 ?_
  refine WP.lushr d_X0_grow_7 ?_
  refine WP.lload_n d_X0_grow_8 1 rfl ?_
  refine WP.aload_n d_X0_grow_9 0 rfl ?_
  obtain ⟨x2, ex2, H⟩ := ob H
  refine WP.fJ d_X0_grow_10 gf_X0_72 (fun _ => rfl) ex2 ?_
  refine WP.land d_X0_grow_13 ?_
  refine WP.iconst d_X0_grow_14 ki_1 ?_
  refine WP.lshl d_X0_grow_15 ?_
  refine WP.lor d_X0_grow_16 ?_
  refine WP.lstore_n (lv9 := [(3, .long ((ushJ (l1 &&& x1) 1) ||| (shlJ (l1 &&& x2) 1))), (0, .ref t), (1, .long l1)]) d_X0_grow_17 (Nat.le_of_ble_eq_true rfl) rfl ?_
  refine WP.lload_n d_X0_grow_18 0 rfl ?_
  refine WP.lload_n d_X0_grow_19 2 rfl ?_
  refine WP.aload_n d_X0_grow_20 1 rfl ?_
  obtain ⟨x3, ex3, H⟩ := ob H
  refine WP.fI d_X0_grow_21 gf_X0_28 (fun _ => rfl) ex3 ?_
  refine WP.lushr d_X0_grow_24 ?_
  refine WP.lor d_X0_grow_25 ?_
  refine WP.lload_n d_X0_grow_26 2 rfl ?_
  refine WP.aload_n d_X0_grow_27 1 rfl ?_
  obtain ⟨x4, ex4, H⟩ := ob H
  refine WP.fI d_X0_grow_28 gf_X0_28 (fun _ => rfl) ex4 ?_
  refine WP.lshl d_X0_grow_31 ?_
  refine WP.lor d_X0_grow_32 ?_
  refine WP.aload_n d_X0_grow_33 1 rfl ?_
  obtain ⟨x5, ex5, H⟩ := ob H
  refine WP.fJ d_X0_grow_34 gf_X0_66 (fun _ => rfl) ex5 ?_
  refine WP.land d_X0_grow_37 ?_
  cases H
  exact WP.lreturn d_X0_grow_38 rfl (Nat.le_of_ble_eq_true rfl) (Nat.le_of_ble_eq_true rfl)

set_option maxRecDepth 20000 in
set_option maxHeartbeats 4000000 in
theorem ok_X0_beside (V : EV) {h : HA} {t : Nat} {l1 : Int32} {l2 : Int32} {r : Int64} (H : X0_beside h t l1 l2 = some r) : MG V M_X0_beside [.ref t, .int l1, .int l2] h (some (.long r)) h := by
  unfold X0_beside at H
  obtain ⟨_, H⟩ := oc H
  refine MG.of (lv0 := [(0, .ref t), (1, .int l1), (2, .int l2)]) pn_X0 rfl (Nat.le_of_ble_eq_true rfl) ?_
  refine WP.lconst d_X0_beside_0 kl_1 ?_
  refine WP.iload_n d_X0_beside_1 1 rfl ?_
  refine WP.lshl d_X0_beside_2 ?_
  refine WP.lstore_n (lv9 := [(3, .long (shlJ 1 l1)), (0, .ref t), (1, .int l1), (2, .int l2)]) d_X0_beside_3 (Nat.le_of_ble_eq_true rfl) rfl ?_
  refine WP.iload_n d_X0_beside_4 3 rfl ?_
  rcases oj H with ⟨hq0, H⟩ | ⟨hq0, H⟩
  · refine WP.tsw (t := 32) 0 d_X0_beside_5 (by rw [hq0]; decide) (by decide) rfl (by decide) ?_
    refine WP.lload_n d_X0_beside_32 0 rfl ?_
    refine WP.aload_n d_X0_beside_33 1 rfl ?_
    obtain ⟨x1, ex1, H⟩ := ob H
    refine WP.fI d_X0_beside_34 gf_X0_28 (fun _ => rfl) ex1 ?_
    refine WP.lushr d_X0_beside_37 ?_
    refine WP.aload_n d_X0_beside_38 1 rfl ?_
    obtain ⟨x2, ex2, H⟩ := ob H
    refine WP.fJ d_X0_beside_39 gf_X0_66 (fun _ => rfl) ex2 ?_
    refine WP.land d_X0_beside_42 ?_
    cases H
    exact WP.lreturn d_X0_beside_43 rfl (Nat.le_of_ble_eq_true rfl) (Nat.le_of_ble_eq_true rfl)
  · skip
    rcases oj H with ⟨hq1, H⟩ | ⟨hq1, H⟩
    · refine WP.tsw (t := 44) 1 d_X0_beside_5 (by rw [hq1]; decide) (by decide) rfl (by decide) ?_
      refine WP.lload_n d_X0_beside_44 0 rfl ?_
      refine WP.aload_n d_X0_beside_45 1 rfl ?_
      obtain ⟨x3, ex3, H⟩ := ob H
      refine WP.fJ d_X0_beside_46 gf_X0_72 (fun _ => rfl) ex3 ?_
      refine WP.land d_X0_beside_49 ?_
      refine WP.iconst d_X0_beside_50 ki_1 ?_
      refine WP.lshl d_X0_beside_51 ?_
      refine WP.aload_n d_X0_beside_52 1 rfl ?_
      obtain ⟨x4, ex4, H⟩ := ob H
      refine WP.fJ d_X0_beside_53 gf_X0_66 (fun _ => rfl) ex4 ?_
      refine WP.land d_X0_beside_56 ?_
      cases H
      exact WP.lreturn d_X0_beside_57 rfl (Nat.le_of_ble_eq_true rfl) (Nat.le_of_ble_eq_true rfl)
    · skip
      rcases oj H with ⟨hq2, H⟩ | ⟨hq2, H⟩
      · refine WP.tsw (t := 58) 2 d_X0_beside_5 (by rw [hq2]; decide) (by decide) rfl (by decide) ?_
        refine WP.lload_n d_X0_beside_58 0 rfl ?_
        refine WP.aload_n d_X0_beside_59 1 rfl ?_
        obtain ⟨x5, ex5, H⟩ := ob H
        refine WP.fI d_X0_beside_60 gf_X0_28 (fun _ => rfl) ex5 ?_
        refine WP.lshl d_X0_beside_63 ?_
        refine WP.aload_n d_X0_beside_64 1 rfl ?_
        obtain ⟨x6, ex6, H⟩ := ob H
        refine WP.fJ d_X0_beside_65 gf_X0_66 (fun _ => rfl) ex6 ?_
        refine WP.land d_X0_beside_68 ?_
        cases H
        exact WP.lreturn d_X0_beside_69 rfl (Nat.le_of_ble_eq_true rfl) (Nat.le_of_ble_eq_true rfl)
      · skip
        refine WP.tswd (t := 70) d_X0_beside_5 (tsw_out (n := 3) [0, 1, 2] (by decide) (by decide +kernel) (List.forall_mem_cons.mpr ⟨hq0, (List.forall_mem_cons.mpr ⟨hq1, (List.forall_mem_cons.mpr ⟨hq2, (fun _ hz9 => absurd hz9 List.not_mem_nil)⟩)⟩)⟩)) (by decide) ?_
        refine WP.lload_n d_X0_beside_70 0 rfl ?_
        refine WP.aload_n d_X0_beside_71 1 rfl ?_
        obtain ⟨x7, ex7, H⟩ := ob H
        refine WP.fJ d_X0_beside_72 gf_X0_69 (fun _ => rfl) ex7 ?_
        refine WP.land d_X0_beside_75 ?_
        refine WP.iconst d_X0_beside_76 ki_1 ?_
        refine WP.lushr d_X0_beside_77 ?_
        refine WP.aload_n d_X0_beside_78 1 rfl ?_
        obtain ⟨x8, ex8, H⟩ := ob H
        refine WP.fJ d_X0_beside_79 gf_X0_66 (fun _ => rfl) ex8 ?_
        refine WP.land d_X0_beside_82 ?_
        cases H
        exact WP.lreturn d_X0_beside_83 rfl (Nat.le_of_ble_eq_true rfl) (Nat.le_of_ble_eq_true rfl)

set_option maxRecDepth 20000 in
set_option maxHeartbeats 4000000 in
theorem ok_J6_numberOfTrailingZeros_0f7a4 (V : EV) {h : HA} {l0 : Int32} {r : Int32} (H : J6_numberOfTrailingZeros_0f7a4 l0 = some r) : MG V M_J6_numberOfTrailingZeros_0f7a4 [.int l0] h (some (.int r)) h := by
  unfold J6_numberOfTrailingZeros_0f7a4 at H
  refine MG.of (lv0 := [(0, .int l0)]) pn_J6 rfl (Nat.le_of_ble_eq_true rfl) ?_
  refine WP.iload_n d_J6_numberOfTrailingZeros_0f7a4_0 0 rfl ?_
  refine WP.iconst d_J6_numberOfTrailingZeros_0f7a4_1 ki_m1 ?_
  refine WP.ixor d_J6_numberOfTrailingZeros_0f7a4_2 ?_
  refine WP.iload_n d_J6_numberOfTrailingZeros_0f7a4_3 0 rfl ?_
  refine WP.iconst d_J6_numberOfTrailingZeros_0f7a4_4 ki_1 ?_
  refine WP.isub d_J6_numberOfTrailingZeros_0f7a4_5 ?_
  refine WP.iand d_J6_numberOfTrailingZeros_0f7a4_6 ?_
  refine WP.istore_n (lv9 := [(0, .int ((l0 ^^^ (-1)) &&& (l0 - 1)))]) d_J6_numberOfTrailingZeros_0f7a4_7 (Nat.le_of_ble_eq_true rfl) rfl ?_
  refine WP.iload_n d_J6_numberOfTrailingZeros_0f7a4_8 0 rfl ?_
  rcases oj H with ⟨hc, H⟩ | ⟨hc, H⟩
  · refine WP.if_gt_t d_J6_numberOfTrailingZeros_0f7a4_9 hc ?_
    refine WP.iconst d_J6_numberOfTrailingZeros_0f7a4_17 ki_1 ?_
    refine WP.istore_n (lv9 := [(1, .int 1), (0, .int ((l0 ^^^ (-1)) &&& (l0 - 1)))]) d_J6_numberOfTrailingZeros_0f7a4_18 (Nat.le_of_ble_eq_true rfl) rfl ?_
    refine WP.iload_n d_J6_numberOfTrailingZeros_0f7a4_19 1 rfl ?_
    refine WP.ldc_w d_J6_numberOfTrailingZeros_0f7a4_20 wi_J6_264 ?_
    obtain ⟨⟨j1, j2⟩, hs3, H⟩ := ob H
    have J4 : WP V M_J6_numberOfTrailingZeros_0f7a4 34 [(0, .int j1), (1, .int j2)] [] h 0 0 (some (.int r)) h := by
      refine WP.iload_n d_J6_numberOfTrailingZeros_0f7a4_34 0 rfl ?_
      refine WP.sipush d_J6_numberOfTrailingZeros_0f7a4_35 ks_256 ?_
      obtain ⟨⟨j5, j6⟩, hs7, H⟩ := ob H
      have J8 : WP V M_J6_numberOfTrailingZeros_0f7a4 49 [(0, .int j5), (1, .int j6)] [] h 0 0 (some (.int r)) h := by
        refine WP.iload_n d_J6_numberOfTrailingZeros_0f7a4_49 0 rfl ?_
        refine WP.bipush d_J6_numberOfTrailingZeros_0f7a4_50 kb_16 ?_
        obtain ⟨⟨j9, j10⟩, hs11, H⟩ := ob H
        have J12 : WP V M_J6_numberOfTrailingZeros_0f7a4 62 [(0, .int j9), (1, .int j10)] [] h 0 0 (some (.int r)) h := by
          refine WP.iload_n d_J6_numberOfTrailingZeros_0f7a4_62 0 rfl ?_
          refine WP.iconst d_J6_numberOfTrailingZeros_0f7a4_63 ki_4 ?_
          rcases oj H with ⟨hc, H⟩ | ⟨hc, H⟩
          · refine WP.icmp_le_t d_J6_numberOfTrailingZeros_0f7a4_64 hc ?_
            refine WP.iinc (lv9 := [(1, .int (j10 + 2)), (0, .int j9)]) d_J6_numberOfTrailingZeros_0f7a4_67 1 rfl ki_2 (Nat.le_of_ble_eq_true rfl) rfl ?_
            refine WP.iload_n d_J6_numberOfTrailingZeros_0f7a4_70 1 rfl ?_
            refine WP.iconst d_J6_numberOfTrailingZeros_0f7a4_71 ki_2 ?_
            refine WP.iushr d_J6_numberOfTrailingZeros_0f7a4_72 ?_
            refine WP.istore_n (lv9 := [(0, .int (ushI j9 2)), (1, .int (j10 + 2))]) d_J6_numberOfTrailingZeros_0f7a4_73 (Nat.le_of_ble_eq_true rfl) rfl ?_
            refine WP.iload_n d_J6_numberOfTrailingZeros_0f7a4_74 1 rfl ?_
            refine WP.iload_n d_J6_numberOfTrailingZeros_0f7a4_75 0 rfl ?_
            refine WP.iconst d_J6_numberOfTrailingZeros_0f7a4_76 ki_1 ?_
            refine WP.iushr d_J6_numberOfTrailingZeros_0f7a4_77 ?_
            refine WP.iadd d_J6_numberOfTrailingZeros_0f7a4_78 ?_
            cases H
            exact WP.ireturn d_J6_numberOfTrailingZeros_0f7a4_79 rfl rfl (Nat.le_of_ble_eq_true rfl) (Nat.le_of_ble_eq_true rfl)
          · refine WP.icmp_le_f d_J6_numberOfTrailingZeros_0f7a4_64 hc ?_
            refine WP.iload_n d_J6_numberOfTrailingZeros_0f7a4_74 1 rfl ?_
            refine WP.iload_n d_J6_numberOfTrailingZeros_0f7a4_75 0 rfl ?_
            refine WP.iconst d_J6_numberOfTrailingZeros_0f7a4_76 ki_1 ?_
            refine WP.iushr d_J6_numberOfTrailingZeros_0f7a4_77 ?_
            refine WP.iadd d_J6_numberOfTrailingZeros_0f7a4_78 ?_
            cases H
            exact WP.ireturn d_J6_numberOfTrailingZeros_0f7a4_79 rfl rfl (Nat.le_of_ble_eq_true rfl) (Nat.le_of_ble_eq_true rfl)
        rcases oj hs11 with ⟨hc, hs11⟩ | ⟨hc, hs11⟩
        · refine WP.icmp_le_t d_J6_numberOfTrailingZeros_0f7a4_52 hc ?_
          refine WP.iinc (lv9 := [(1, .int (j6 + 4)), (0, .int j5)]) d_J6_numberOfTrailingZeros_0f7a4_55 1 rfl ki_4 (Nat.le_of_ble_eq_true rfl) rfl ?_
          refine WP.iload_n d_J6_numberOfTrailingZeros_0f7a4_58 1 rfl ?_
          refine WP.iconst d_J6_numberOfTrailingZeros_0f7a4_59 ki_4 ?_
          refine WP.iushr d_J6_numberOfTrailingZeros_0f7a4_60 ?_
          refine WP.istore_n (lv9 := [(0, .int (ushI j5 4)), (1, .int (j6 + 4))]) d_J6_numberOfTrailingZeros_0f7a4_61 (Nat.le_of_ble_eq_true rfl) rfl ?_
          cases hs11
          exact WP.sub [0, 1] rfl J12
        · refine WP.icmp_le_f d_J6_numberOfTrailingZeros_0f7a4_52 hc ?_
          cases hs11
          exact WP.sub [0, 1] rfl J12
      rcases oj hs7 with ⟨hc, hs7⟩ | ⟨hc, hs7⟩
      · refine WP.icmp_le_t d_J6_numberOfTrailingZeros_0f7a4_38 hc ?_
        refine WP.iinc (lv9 := [(1, .int (j2 + 8)), (0, .int j1)]) d_J6_numberOfTrailingZeros_0f7a4_41 1 rfl ki_8 (Nat.le_of_ble_eq_true rfl) rfl ?_
        refine WP.iload_n d_J6_numberOfTrailingZeros_0f7a4_44 1 rfl ?_
        refine WP.bipush d_J6_numberOfTrailingZeros_0f7a4_45 kb_8 ?_
        refine WP.iushr d_J6_numberOfTrailingZeros_0f7a4_47 ?_
        refine WP.istore_n (lv9 := [(0, .int (ushI j1 8)), (1, .int (j2 + 8))]) d_J6_numberOfTrailingZeros_0f7a4_48 (Nat.le_of_ble_eq_true rfl) rfl ?_
        cases hs7
        exact WP.sub [0, 1] rfl J8
      · refine WP.icmp_le_f d_J6_numberOfTrailingZeros_0f7a4_38 hc ?_
        cases hs7
        exact WP.sub [0, 1] rfl J8
    rcases oj hs3 with ⟨hc, hs3⟩ | ⟨hc, hs3⟩
    · refine WP.icmp_le_t d_J6_numberOfTrailingZeros_0f7a4_23 hc ?_
      refine WP.iinc (lv9 := [(1, .int (1 + 16)), (0, .int ((l0 ^^^ (-1)) &&& (l0 - 1)))]) d_J6_numberOfTrailingZeros_0f7a4_26 0 rfl ki_16 (Nat.le_of_ble_eq_true rfl) rfl ?_
      refine WP.iload_n d_J6_numberOfTrailingZeros_0f7a4_29 1 rfl ?_
      refine WP.bipush d_J6_numberOfTrailingZeros_0f7a4_30 kb_16 ?_
      refine WP.iushr d_J6_numberOfTrailingZeros_0f7a4_32 ?_
      refine WP.istore_n (lv9 := [(0, .int (ushI ((l0 ^^^ (-1)) &&& (l0 - 1)) 16)), (1, .int (1 + 16))]) d_J6_numberOfTrailingZeros_0f7a4_33 (Nat.le_of_ble_eq_true rfl) rfl ?_
      cases hs3
      exact WP.sub [0, 1] rfl J4
    · refine WP.icmp_le_f d_J6_numberOfTrailingZeros_0f7a4_23 hc ?_
      cases hs3
      exact WP.sub [1, 0] rfl J4
  · refine WP.if_gt_f d_J6_numberOfTrailingZeros_0f7a4_9 hc ?_
    refine WP.iload_n d_J6_numberOfTrailingZeros_0f7a4_12 0 rfl ?_
    refine WP.bipush d_J6_numberOfTrailingZeros_0f7a4_13 kb_32 ?_
    refine WP.iand d_J6_numberOfTrailingZeros_0f7a4_15 ?_
    cases H
    exact WP.ireturn d_J6_numberOfTrailingZeros_0f7a4_16 rfl rfl (Nat.le_of_ble_eq_true rfl) (Nat.le_of_ble_eq_true rfl)

set_option maxRecDepth 20000 in
set_option maxHeartbeats 4000000 in
theorem ok_J13_numberOfTrailingZeros_95d88 (V : EV) {h : HA} {l0 : Int64} {r : Int32} (H : J13_numberOfTrailingZeros_95d88 l0 = some r) : MG V M_J13_numberOfTrailingZeros_95d88 [.long l0] h (some (.int r)) h := by
  unfold J13_numberOfTrailingZeros_95d88 at H
  refine MG.of (lv0 := [(0, .long l0)]) pn_J13 rfl (Nat.le_of_ble_eq_true rfl) ?_
  refine WP.lload_n d_J13_numberOfTrailingZeros_95d88_0 0 rfl ?_
  refine WP.l2i d_J13_numberOfTrailingZeros_95d88_1 ?_
  refine WP.istore_n (lv9 := [(2, .int l0.toInt32), (0, .long l0)]) d_J13_numberOfTrailingZeros_95d88_2 (Nat.le_of_ble_eq_true rfl) rfl ?_
  refine WP.iload_n d_J13_numberOfTrailingZeros_95d88_3 0 rfl ?_
  rcases oj H with ⟨hc, H⟩ | ⟨hc, H⟩
  · refine WP.if_ne_t d_J13_numberOfTrailingZeros_95d88_4 hc ?_
    refine WP.bipush d_J13_numberOfTrailingZeros_95d88_7 kb_32 ?_
    refine WP.lload_n d_J13_numberOfTrailingZeros_95d88_9 1 rfl ?_
    refine WP.bipush d_J13_numberOfTrailingZeros_95d88_10 kb_32 ?_
    refine WP.lushr d_J13_numberOfTrailingZeros_95d88_12 ?_
    refine WP.l2i d_J13_numberOfTrailingZeros_95d88_13 ?_
    obtain ⟨x2, e1, H⟩ := ob H
    refine WP.cS (As := [.int ((ushJ l0 32).toInt32)]) (st := [.int 32]) (st9 := [.int x2, .int 32]) (cl9 := 0) (sl9 := 0) d_J13_numberOfTrailingZeros_95d88_14 (ok_J6_numberOfTrailingZeros_0f7a4 V (h := h) e1) tv_J6_numberOfTrailingZeros_0f7a4 ts_J6_numberOfTrailingZeros_0f7a4 lk_J13_311 r_J13_numberOfTrailingZeros_95d88_J6_numberOfTrailingZeros_0f7a4 rfl rfl (Nat.le_of_ble_eq_true rfl) rfl rfl rfl ?_
    refine WP.iadd d_J13_numberOfTrailingZeros_95d88_17 ?_
    refine WP.goto d_J13_numberOfTrailingZeros_95d88_18 ?_
    cases H
    exact WP.ireturn d_J13_numberOfTrailingZeros_95d88_25 rfl rfl (Nat.le_of_ble_eq_true rfl) (Nat.le_of_ble_eq_true rfl)
  · refine WP.if_ne_f d_J13_numberOfTrailingZeros_95d88_4 hc ?_
    refine WP.iload_n d_J13_numberOfTrailingZeros_95d88_21 0 rfl ?_
    obtain ⟨x4, e3, H⟩ := ob H
    refine WP.cS (As := [.int l0.toInt32]) (st := []) (st9 := [.int x4]) (cl9 := 0) (sl9 := 0) d_J13_numberOfTrailingZeros_95d88_22 (ok_J6_numberOfTrailingZeros_0f7a4 V (h := h) e3) tv_J6_numberOfTrailingZeros_0f7a4 ts_J6_numberOfTrailingZeros_0f7a4 lk_J13_311 r_J13_numberOfTrailingZeros_95d88_J6_numberOfTrailingZeros_0f7a4 rfl rfl (Nat.le_of_ble_eq_true rfl) rfl rfl rfl ?_
    cases H
    exact WP.ireturn d_J13_numberOfTrailingZeros_95d88_25 rfl rfl (Nat.le_of_ble_eq_true rfl) (Nat.le_of_ble_eq_true rfl)

set_option maxRecDepth 20000 in
set_option maxHeartbeats 4000000 in
theorem ok_X0_stepTo (V : EV) {h : HA} {t : Nat} {l1 : Int32} {l2 : Int32} {r : Int32} (H : X0_stepTo h t l1 l2 = some r) : MG V M_X0_stepTo [.ref t, .int l1, .int l2] h (some (.int r)) h := by
  unfold X0_stepTo at H
  obtain ⟨_, H⟩ := oc H
  refine MG.of (lv0 := [(0, .ref t), (1, .int l1), (2, .int l2)]) pn_X0 rfl (Nat.le_of_ble_eq_true rfl) ?_
  refine WP.aload_n d_X0_stepTo_0 0 rfl ?_
  refine WP.iload_n d_X0_stepTo_1 1 rfl ?_
  refine WP.iload_n d_X0_stepTo_2 2 rfl ?_
  obtain ⟨x2, e1, H⟩ := ob H
  refine WP.cV (c := 1) (As := [.int l1, .int l2]) (st := []) (st9 := [.long x2]) (cl9 := 0) (sl9 := 0) d_X0_stepTo_3 (ok_X0_beside V e1) tv_X0_beside ti_X0_beside ts_X0_beside lk_X0_87 r_X0_stepTo_X0_beside kc_X0_beside (kd_X0_beside e1) rfl rfl (Nat.le_of_ble_eq_true rfl) rfl rfl rfl ?_
  refine WP.lstore_n (lv9 := [(3, .long x2), (0, .ref t), (1, .int l1), (2, .int l2)]) d_X0_stepTo_6 (Nat.le_of_ble_eq_true rfl) rfl ?_
  refine WP.lload_n d_X0_stepTo_7 0 rfl ?_
  refine WP.lconst d_X0_stepTo_8 kl_0 ?_
  rcases oj H with ⟨hc, H⟩ | ⟨hc, H⟩
  · refine WP.lcmp_ne_t d_X0_stepTo_9 d_X0_stepTo_10 hc ?_
    refine WP.iconst d_X0_stepTo_13 ki_m1 ?_
    refine WP.goto d_X0_stepTo_14 ?_
    cases H
    exact WP.ireturn d_X0_stepTo_21 rfl rfl (Nat.le_of_ble_eq_true rfl) (Nat.le_of_ble_eq_true rfl)
  · refine WP.lcmp_ne_f d_X0_stepTo_9 d_X0_stepTo_10 hc ?_
    refine WP.lload_n d_X0_stepTo_17 0 rfl ?_
    obtain ⟨x4, e3, H⟩ := ob H
    refine WP.cS (As := [.long x2]) (st := []) (st9 := [.int x4]) (cl9 := 0) (sl9 := 0) d_X0_stepTo_18 (ok_J13_numberOfTrailingZeros_95d88 V (h := h) e3) tv_J13_numberOfTrailingZeros_95d88 ts_J13_numberOfTrailingZeros_95d88 lk_X0_91 r_X0_stepTo_J13_numberOfTrailingZeros_95d88 rfl rfl (Nat.le_of_ble_eq_true rfl) rfl rfl rfl ?_
    cases H
    exact WP.ireturn d_X0_stepTo_21 rfl rfl (Nat.le_of_ble_eq_true rfl) (Nat.le_of_ble_eq_true rfl)

set_option maxRecDepth 20000 in
set_option maxHeartbeats 4000000 in
theorem okl_X0_ray_L13 (V : EV) {vF : Option Value} {hF : HA} {h : HA} {t : Nat} {l2 : Int32} (n : Nat) : ∀ {l3 : Int64} {l5 : Int32} {l6 : Int32} {r3 : Int64}, (H : X0_ray_L13 h t l2 n l3 l5 l6 = some r3) → (K : WP V M_X0_ray 48 [(3, .long r3)] [] h 0 0 vF hF) → WP V M_X0_ray 13 [(0, .ref t), (2, .int l2), (3, .long l3), (5, .int l5), (6, .int l6)] [] h 0 0 vF hF := by
  induction n with
  | zero =>
    intro l3 l5 l6 r3 H K
    rw [X0_ray_L13] at H
    cases H
  | succ n ih =>
    intro l3 l5 l6 r3 H K
    rw [X0_ray_L13] at H
    refine WP.iload d_X0_ray_13 4 rfl ?_
    refine WP.bipush d_X0_ray_15 kb_64 ?_
    rcases oj H with ⟨hc, H⟩ | ⟨hc, H⟩
    · refine WP.icmp_ge_t d_X0_ray_17 hc ?_
      refine WP.iload d_X0_ray_20 3 rfl ?_
      refine WP.iconst d_X0_ray_22 ki_m1 ?_
      rcases oj H with ⟨hc, H⟩ | ⟨hc, H⟩
      · refine WP.icmp_eq_t d_X0_ray_23 hc ?_
        cases H
        exact WP.sub [2] rfl K
      · refine WP.icmp_eq_f d_X0_ray_23 hc ?_
        refine WP.lload_n d_X0_ray_26 2 rfl ?_
        refine WP.lconst d_X0_ray_27 kl_1 ?_
        refine WP.iload d_X0_ray_28 3 rfl ?_
        refine WP.lshl d_X0_ray_30 ?_
        refine WP.lor d_X0_ray_31 ?_
        refine WP.lstore_n (lv9 := [(3, .long (l3 ||| (shlJ 1 l5))), (0, .ref t), (2, .int l2), (5, .int l5), (6, .int l6)]) d_X0_ray_32 (Nat.le_of_ble_eq_true rfl) rfl ?_
        refine WP.aload_n d_X0_ray_33 1 rfl ?_
        refine WP.iload d_X0_ray_34 3 rfl ?_
        refine WP.iload_n d_X0_ray_36 2 rfl ?_
        obtain ⟨x4, e3, H⟩ := ob H
        refine WP.cV (c := 1) (As := [.int l5, .int l2]) (st := []) (st9 := [.int x4]) (cl9 := 0) (sl9 := 0) d_X0_ray_37 (ok_X0_stepTo V e3) tv_X0_stepTo ti_X0_stepTo ts_X0_stepTo lk_X0_97 r_X0_ray_X0_stepTo kc_X0_stepTo (kd_X0_stepTo e3) rfl rfl (Nat.le_of_ble_eq_true rfl) rfl rfl rfl ?_
        refine WP.istore (lv9 := [(5, .int x4), (3, .long (l3 ||| (shlJ 1 l5))), (0, .ref t), (2, .int l2), (6, .int l6)]) d_X0_ray_40 (Nat.le_of_ble_eq_true rfl) rfl ?_
        refine WP.iinc (lv9 := [(6, .int (l6 + 1)), (5, .int x4), (3, .long (l3 ||| (shlJ 1 l5))), (0, .ref t), (2, .int l2)]) d_X0_ray_42 4 rfl ki_1 (Nat.le_of_ble_eq_true rfl) rfl ?_
        refine WP.goto d_X0_ray_45 ?_
        refine WP.sub [3, 4, 2, 1, 0] (lv' := [(0, .ref t), (2, .int l2), (3, .long (l3 ||| (shlJ 1 l5))), (5, .int x4), (6, .int (l6 + 1))]) rfl ?_
        exact ih H K
    · refine WP.icmp_ge_f d_X0_ray_17 hc ?_
      cases H
      exact WP.sub [2] rfl K

set_option maxRecDepth 20000 in
set_option maxHeartbeats 4000000 in
theorem ok_X0_ray (V : EV) {h : HA} {t : Nat} {l1 : Int32} {l2 : Int32} {r : Int64} (H : X0_ray h t l1 l2 = some r) : MG V M_X0_ray [.ref t, .int l1, .int l2] h (some (.long r)) h := by
  unfold X0_ray at H
  obtain ⟨_, H⟩ := oc H
  refine MG.of (lv0 := [(0, .ref t), (1, .int l1), (2, .int l2)]) pn_X0 rfl (Nat.le_of_ble_eq_true rfl) ?_
  refine WP.lconst d_X0_ray_0 kl_0 ?_
  refine WP.lstore_n (lv9 := [(3, .long 0), (0, .ref t), (1, .int l1), (2, .int l2)]) d_X0_ray_1 (Nat.le_of_ble_eq_true rfl) rfl ?_
  refine WP.aload_n d_X0_ray_2 1 rfl ?_
  refine WP.iload_n d_X0_ray_3 2 rfl ?_
  refine WP.iload_n d_X0_ray_4 3 rfl ?_
  obtain ⟨x2, e1, H⟩ := ob H
  refine WP.cV (c := 1) (As := [.int l1, .int l2]) (st := []) (st9 := [.int x2]) (cl9 := 0) (sl9 := 0) d_X0_ray_5 (ok_X0_stepTo V e1) tv_X0_stepTo ti_X0_stepTo ts_X0_stepTo lk_X0_97 r_X0_ray_X0_stepTo kc_X0_stepTo (kd_X0_stepTo e1) rfl rfl (Nat.le_of_ble_eq_true rfl) rfl rfl rfl ?_
  refine WP.istore (lv9 := [(5, .int x2), (3, .long 0), (0, .ref t), (1, .int l1), (2, .int l2)]) d_X0_ray_8 (Nat.le_of_ble_eq_true rfl) rfl ?_
  refine WP.iconst d_X0_ray_10 ki_0 ?_
  refine WP.istore (lv9 := [(6, .int 0), (5, .int x2), (3, .long 0), (0, .ref t), (1, .int l1), (2, .int l2)]) d_X0_ray_11 (Nat.le_of_ble_eq_true rfl) rfl ?_
  obtain ⟨y6, e5, H⟩ := ob H
  refine WP.sub [3, 5, 2, 1, 0] (lv' := [(0, .ref t), (2, .int l2), (3, .long 0), (5, .int x2), (6, .int 0)]) rfl ?_
  refine okl_X0_ray_L13 V _ e5 ?_
  refine WP.lload_n d_X0_ray_48 0 rfl ?_
  cases H
  exact WP.lreturn d_X0_ray_49 rfl (Nat.le_of_ble_eq_true rfl) (Nat.le_of_ble_eq_true rfl)

set_option maxRecDepth 20000 in
set_option maxHeartbeats 4000000 in
theorem okl_X0_steps_L8 (V : EV) {h : HA} {t : Nat} {l2 : Int64} (n : Nat) : ∀ {l4 : Int64} {l6 : Int32} {r : Int32} , (H : X0_steps_L8 h t l2 n l4 l6 = some r) → WP V M_X0_steps 8 [(0, .ref t), (2, .long l2), (4, .long l4), (6, .int l6)] [] h 0 0 (some (.int r)) h := by
  induction n with
  | zero =>
    intro l4 l6 r H
    rw [X0_steps_L8] at H
    cases H
  | succ n ih =>
    intro l4 l6 r H
    rw [X0_steps_L8] at H
    refine WP.iload d_X0_steps_8 3 rfl ?_
    refine WP.bipush d_X0_steps_10 kb_64 ?_
    rcases oj H with ⟨hc, H⟩ | ⟨hc, H⟩
    · refine WP.icmp_ge_t d_X0_steps_12 hc ?_
      refine WP.lload d_X0_steps_15 2 rfl ?_
      refine WP.lload_n d_X0_steps_17 1 rfl ?_
      refine WP.land d_X0_steps_18 ?_
      refine WP.lconst d_X0_steps_19 kl_0 ?_
      rcases oj H with ⟨hc, H⟩ | ⟨hc, H⟩
      · refine WP.lcmp_eq_t d_X0_steps_20 d_X0_steps_21 hc ?_
        refine WP.lload d_X0_steps_27 2 rfl ?_
        refine WP.aload_n d_X0_steps_29 0 rfl ?_
        refine WP.lload d_X0_steps_30 2 rfl ?_
        obtain ⟨x2, e1, H⟩ := ob H
        refine WP.cV (c := 1) (As := [.long l4]) (st := [.long l4]) (st9 := [.long x2, .long l4]) (cl9 := 0) (sl9 := 0) d_X0_steps_32 (ok_X0_grow V e1) tv_X0_grow ti_X0_grow ts_X0_grow lk_X0_100 r_X0_steps_X0_grow kc_X0_grow (kd_X0_grow e1) rfl rfl (Nat.le_of_ble_eq_true rfl) rfl rfl rfl ?_
        refine WP.lor d_X0_steps_35 ?_
        refine WP.lstore (lv9 := [(4, .long (l4 ||| x2)), (0, .ref t), (2, .long l2), (6, .int l6)]) d_X0_steps_36 (Nat.le_of_ble_eq_true rfl) rfl ?_
        refine WP.iinc (lv9 := [(6, .int (l6 + 1)), (4, .long (l4 ||| x2)), (0, .ref t), (2, .long l2)]) d_X0_steps_38 3 rfl ki_1 (Nat.le_of_ble_eq_true rfl) rfl ?_
        refine WP.goto d_X0_steps_41 ?_
        refine WP.sub [2, 3, 1, 0] (lv' := [(0, .ref t), (2, .long l2), (4, .long (l4 ||| x2)), (6, .int (l6 + 1))]) rfl ?_
        exact ih H
      · refine WP.lcmp_eq_f d_X0_steps_20 d_X0_steps_21 hc ?_
        refine WP.iload d_X0_steps_24 3 rfl ?_
        cases H
        exact WP.ireturn d_X0_steps_26 rfl rfl (Nat.le_of_ble_eq_true rfl) (Nat.le_of_ble_eq_true rfl)
    · refine WP.icmp_ge_f d_X0_steps_12 hc ?_
      refine WP.iconst d_X0_steps_44 ki_m1 ?_
      cases H
      exact WP.ireturn d_X0_steps_45 rfl rfl (Nat.le_of_ble_eq_true rfl) (Nat.le_of_ble_eq_true rfl)

set_option maxRecDepth 20000 in
set_option maxHeartbeats 4000000 in
theorem ok_X0_steps (V : EV) {h : HA} {t : Nat} {l1 : Int32} {l2 : Int64} {r : Int32} (H : X0_steps h t l1 l2 = some r) : MG V M_X0_steps [.ref t, .int l1, .long l2] h (some (.int r)) h := by
  unfold X0_steps at H
  obtain ⟨_, H⟩ := oc H
  refine MG.of (lv0 := [(0, .ref t), (1, .int l1), (2, .long l2)]) pn_X0 rfl (Nat.le_of_ble_eq_true rfl) ?_
  refine WP.lconst d_X0_steps_0 kl_1 ?_
  refine WP.iload_n d_X0_steps_1 1 rfl ?_
  refine WP.lshl d_X0_steps_2 ?_
  refine WP.lstore (lv9 := [(4, .long (shlJ 1 l1)), (0, .ref t), (1, .int l1), (2, .long l2)]) d_X0_steps_3 (Nat.le_of_ble_eq_true rfl) rfl ?_
  refine WP.iconst d_X0_steps_5 ki_0 ?_
  refine WP.istore (lv9 := [(6, .int 0), (4, .long (shlJ 1 l1)), (0, .ref t), (1, .int l1), (2, .long l2)]) d_X0_steps_6 (Nat.le_of_ble_eq_true rfl) rfl ?_
  refine WP.sub [2, 4, 1, 0] (lv' := [(0, .ref t), (2, .long l2), (4, .long (shlJ 1 l1)), (6, .int 0)]) rfl ?_
  exact okl_X0_steps_L8 V _ H

set_option maxRecDepth 20000 in
set_option maxHeartbeats 4000000 in
theorem ok_J13_lowestOneBit_067f4 (V : EV) {h : HA} {l0 : Int64} {r : Int64} (H : J13_lowestOneBit_067f4 l0 = some r) : MG V M_J13_lowestOneBit_067f4 [.long l0] h (some (.long r)) h := by
  unfold J13_lowestOneBit_067f4 at H
  refine MG.of (lv0 := [(0, .long l0)]) pn_J13 rfl (Nat.le_of_ble_eq_true rfl) ?_
  refine WP.lload_n d_J13_lowestOneBit_067f4_0 0 rfl ?_
  refine WP.lload_n d_J13_lowestOneBit_067f4_1 0 rfl ?_
  refine WP.lneg d_J13_lowestOneBit_067f4_2 ?_
  refine WP.land d_J13_lowestOneBit_067f4_3 ?_
  cases H
  exact WP.lreturn d_J13_lowestOneBit_067f4_4 rfl (Nat.le_of_ble_eq_true rfl) (Nat.le_of_ble_eq_true rfl)

set_option maxRecDepth 20000 in
set_option maxHeartbeats 4000000 in
theorem okl_X0_connected_L2 (V : EV) {vF : Option Value} {hF : HA} {h : HA} {t : Nat} (n : Nat) : ∀ {l1 : Int64} {l3 : Int32} {r1 : Int64}, (H : X0_connected_L2 h t n l1 l3 = some r1) → (K : WP V M_X0_connected 36 [(1, .long r1)] [] h 0 0 vF hF) → WP V M_X0_connected 2 [(0, .ref t), (1, .long l1), (3, .int l3)] [] h 0 0 vF hF := by
  induction n with
  | zero =>
    intro l1 l3 r1 H K
    rw [X0_connected_L2] at H
    cases H
  | succ n ih =>
    intro l1 l3 r1 H K
    rw [X0_connected_L2] at H
    refine WP.iload_n d_X0_connected_2 2 rfl ?_
    refine WP.bipush d_X0_connected_3 kb_64 ?_
    rcases oj H with ⟨hc, H⟩ | ⟨hc, H⟩
    · refine WP.icmp_ge_t d_X0_connected_5 hc ?_
      refine WP.lload_n d_X0_connected_8 1 rfl ?_
      refine WP.aload_n d_X0_connected_9 0 rfl ?_
      refine WP.lload_n d_X0_connected_10 1 rfl ?_
      obtain ⟨x2, e1, H⟩ := ob H
      refine WP.cV (c := 1) (As := [.long l1]) (st := [.long l1]) (st9 := [.long x2, .long l1]) (cl9 := 0) (sl9 := 0) d_X0_connected_11 (ok_X0_grow V e1) tv_X0_grow ti_X0_grow ts_X0_grow lk_X0_100 r_X0_connected_X0_grow kc_X0_grow (kd_X0_grow e1) rfl rfl (Nat.le_of_ble_eq_true rfl) rfl rfl rfl ?_
      refine WP.lor d_X0_connected_14 ?_
      refine WP.lstore (lv9 := [(4, .long (l1 ||| x2)), (0, .ref t), (1, .long l1), (3, .int l3)]) d_X0_connected_15 (Nat.le_of_ble_eq_true rfl) rfl ?_
      refine WP.lload d_X0_connected_17 0 rfl ?_
      refine WP.lload_n d_X0_connected_19 2 rfl ?_
      rcases oj H with ⟨hc, H⟩ | ⟨hc, H⟩
      · refine WP.lcmp_ne_t d_X0_connected_20 d_X0_connected_21 hc ?_
        refine WP.goto d_X0_connected_24 ?_
        cases H
        exact WP.sub [2] rfl K
      · refine WP.lcmp_ne_f d_X0_connected_20 d_X0_connected_21 hc ?_
        refine WP.lload d_X0_connected_27 0 rfl ?_
        refine WP.lstore_n (lv9 := [(1, .long (l1 ||| x2)), (4, .long (l1 ||| x2)), (0, .ref t), (3, .int l3)]) d_X0_connected_29 (Nat.le_of_ble_eq_true rfl) rfl ?_
        refine WP.iinc (lv9 := [(3, .int (l3 + 1)), (1, .long (l1 ||| x2)), (4, .long (l1 ||| x2)), (0, .ref t)]) d_X0_connected_30 3 rfl ki_1 (Nat.le_of_ble_eq_true rfl) rfl ?_
        refine WP.goto d_X0_connected_33 ?_
        refine WP.sub [3, 1, 0] (lv' := [(0, .ref t), (1, .long (l1 ||| x2)), (3, .int (l3 + 1))]) rfl ?_
        exact ih H K
    · refine WP.icmp_ge_f d_X0_connected_5 hc ?_
      cases H
      exact WP.sub [1] rfl K

set_option maxRecDepth 20000 in
set_option maxHeartbeats 4000000 in
theorem ok_X0_connected (V : EV) {h : HA} {t : Nat} {l1 : Int64} {r : Int64} (H : X0_connected h t l1 = some r) : MG V M_X0_connected [.ref t, .long l1] h (some (.long r)) h := by
  unfold X0_connected at H
  obtain ⟨_, H⟩ := oc H
  refine MG.of (lv0 := [(0, .ref t), (1, .long l1)]) pn_X0 rfl (Nat.le_of_ble_eq_true rfl) ?_
  refine WP.iconst d_X0_connected_0 ki_0 ?_
  refine WP.istore_n (lv9 := [(3, .int 0), (0, .ref t), (1, .long l1)]) d_X0_connected_1 (Nat.le_of_ble_eq_true rfl) rfl ?_
  obtain ⟨y4, e3, H⟩ := ob H
  refine WP.sub [1, 2, 0] (lv' := [(0, .ref t), (1, .long l1), (3, .int 0)]) rfl ?_
  refine okl_X0_connected_L2 V _ e3 ?_
  refine WP.lload_n d_X0_connected_36 0 rfl ?_
  cases H
  exact WP.lreturn d_X0_connected_37 rfl (Nat.le_of_ble_eq_true rfl) (Nat.le_of_ble_eq_true rfl)

set_option maxRecDepth 20000 in
set_option maxHeartbeats 4000000 in
theorem okl_X0_parts_L10 (V : EV) {vF : Option Value} {hF : HA} {h : HA} {t : Nat} (n : Nat) : ∀ {l1 : Int64} {l3 : Int32} {l4 : Int32} {r3 : Int32}, (H : X0_parts_L10 h t n l1 l3 l4 = some r3) → (K : WP V M_X0_parts 47 [(3, .int r3)] [] h 0 0 vF hF) → WP V M_X0_parts 10 [(0, .ref t), (1, .long l1), (3, .int l3), (4, .int l4)] [] h 0 0 vF hF := by
  induction n with
  | zero =>
    intro l1 l3 l4 r3 H K
    rw [X0_parts_L10] at H
    cases H
  | succ n ih =>
    intro l1 l3 l4 r3 H K
    rw [X0_parts_L10] at H
    refine WP.iload d_X0_parts_10 3 rfl ?_
    refine WP.bipush d_X0_parts_12 kb_64 ?_
    rcases oj H with ⟨hc, H⟩ | ⟨hc, H⟩
    · refine WP.icmp_ge_t d_X0_parts_14 hc ?_
      refine WP.lload_n d_X0_parts_17 1 rfl ?_
      refine WP.lconst d_X0_parts_18 kl_0 ?_
      rcases oj H with ⟨hc, H⟩ | ⟨hc, H⟩
      · refine WP.lcmp_eq_t d_X0_parts_19 d_X0_parts_20 hc ?_
        cases H
        exact WP.sub [2] rfl K
      · refine WP.lcmp_eq_f d_X0_parts_19 d_X0_parts_20 hc ?_
        refine WP.lload_n d_X0_parts_23 1 rfl ?_
        refine WP.aload_n d_X0_parts_24 0 rfl ?_
        refine WP.lload_n d_X0_parts_25 1 rfl ?_
        obtain ⟨x3, e2, H⟩ := ob H
        refine WP.cS (As := [.long l1]) (st := [.ref t, .long l1]) (st9 := [.long x3, .ref t, .long l1]) (cl9 := 0) (sl9 := 0) d_X0_parts_26 (ok_J13_lowestOneBit_067f4 V (h := h) e2) tv_J13_lowestOneBit_067f4 ts_J13_lowestOneBit_067f4 lk_X0_104 r_X0_parts_J13_lowestOneBit_067f4 rfl rfl (Nat.le_of_ble_eq_true rfl) rfl rfl rfl ?_
        obtain ⟨x5, e4, H⟩ := ob H
        refine WP.cV (c := 1) (As := [.long x3]) (st := [.long l1]) (st9 := [.long x5, .long l1]) (cl9 := 0) (sl9 := 0) d_X0_parts_29 (ok_X0_connected V e4) tv_X0_connected ti_X0_connected ts_X0_connected lk_X0_107 r_X0_parts_X0_connected kc_X0_connected (kd_X0_connected e4) rfl rfl (Nat.le_of_ble_eq_true rfl) rfl rfl rfl ?_
        refine WP.ldc2 d_X0_parts_32 wl_X0_60 ?_
        refine WP.lxor d_X0_parts_35 ?_
        refine WP.land d_X0_parts_36 ?_
        refine WP.lstore_n (lv9 := [(1, .long (l1 &&& (x5 ^^^ (-1)))), (0, .ref t), (3, .int l3), (4, .int l4)]) d_X0_parts_37 (Nat.le_of_ble_eq_true rfl) rfl ?_
        refine WP.iinc (lv9 := [(3, .int (l3 + 1)), (1, .long (l1 &&& (x5 ^^^ (-1)))), (0, .ref t), (4, .int l4)]) d_X0_parts_38 2 rfl ki_1 (Nat.le_of_ble_eq_true rfl) rfl ?_
        refine WP.iinc (lv9 := [(4, .int (l4 + 1)), (3, .int (l3 + 1)), (1, .long (l1 &&& (x5 ^^^ (-1)))), (0, .ref t)]) d_X0_parts_41 3 rfl ki_1 (Nat.le_of_ble_eq_true rfl) rfl ?_
        refine WP.goto d_X0_parts_44 ?_
        refine WP.sub [3, 2, 1, 0] (lv' := [(0, .ref t), (1, .long (l1 &&& (x5 ^^^ (-1)))), (3, .int (l3 + 1)), (4, .int (l4 + 1))]) rfl ?_
        exact ih H K
    · refine WP.icmp_ge_f d_X0_parts_14 hc ?_
      cases H
      exact WP.sub [2] rfl K

set_option maxRecDepth 20000 in
set_option maxHeartbeats 4000000 in
theorem ok_X0_parts (V : EV) {h : HA} {t : Nat} {r : Int32} (H : X0_parts h t = some r) : MG V M_X0_parts [.ref t] h (some (.int r)) h := by
  unfold X0_parts at H
  obtain ⟨_, H⟩ := oc H
  refine MG.of (lv0 := [(0, .ref t)]) pn_X0 rfl (Nat.le_of_ble_eq_true rfl) ?_
  refine WP.aload_n d_X0_parts_0 0 rfl ?_
  obtain ⟨x1, ex1, H⟩ := ob H
  refine WP.fJ d_X0_parts_1 gf_X0_66 (fun _ => rfl) ex1 ?_
  refine WP.lstore_n (lv9 := [(1, .long x1), (0, .ref t)]) d_X0_parts_4 (Nat.le_of_ble_eq_true rfl) rfl ?_
  refine WP.iconst d_X0_parts_5 ki_0 ?_
  refine WP.istore_n (lv9 := [(3, .int 0), (1, .long x1), (0, .ref t)]) d_X0_parts_6 (Nat.le_of_ble_eq_true rfl) rfl ?_
  refine WP.iconst d_X0_parts_7 ki_0 ?_
  refine WP.istore (lv9 := [(4, .int 0), (3, .int 0), (1, .long x1), (0, .ref t)]) d_X0_parts_8 (Nat.le_of_ble_eq_true rfl) rfl ?_
  obtain ⟨y7, e6, H⟩ := ob H
  refine WP.sub [3, 2, 1, 0] (lv' := [(0, .ref t), (1, .long x1), (3, .int 0), (4, .int 0)]) rfl ?_
  refine okl_X0_parts_L10 V _ e6 ?_
  refine WP.iload_n d_X0_parts_47 0 rfl ?_
  cases H
  exact WP.ireturn d_X0_parts_48 rfl rfl (Nat.le_of_ble_eq_true rfl) (Nat.le_of_ble_eq_true rfl)

set_option maxRecDepth 20000 in
set_option maxHeartbeats 4000000 in
theorem okl_X0_layVia_L3 (V : EV) {vF : Option Value} {hF : HA} {t : Nat} {l1 : Int32} {l2 : Int64} (n : Nat) : ∀ {h : HA} {l4 : Int32} {hR : HA}, (H : X0_layVia_L3 t l1 l2 n h l4 = some hR) → (K : WP V M_X0_layVia 50 [] [] hR 0 0 vF hF) → WP V M_X0_layVia 3 [(0, .ref t), (1, .int l1), (2, .long l2), (4, .int l4)] [] h 0 0 vF hF := by
  induction n with
  | zero =>
    intro h l4 hR H K
    rw [X0_layVia_L3] at H
    cases H
  | succ n ih =>
    intro h l4 hR H K
    rw [X0_layVia_L3] at H
    refine WP.iload d_X0_layVia_3 3 rfl ?_
    refine WP.iconst d_X0_layVia_5 ki_4 ?_
    rcases oj H with ⟨hc, H⟩ | ⟨hc, H⟩
    · refine WP.icmp_ge_t d_X0_layVia_6 hc ?_
      refine WP.aload_n d_X0_layVia_9 0 rfl ?_
      obtain ⟨x1, ex1, H⟩ := ob H
      refine WP.fR d_X0_layVia_10 gf_X0_25 (fun _ => rfl) ex1 ?_
      refine WP.iload_n d_X0_layVia_13 1 rfl ?_
      refine WP.iconst d_X0_layVia_14 ki_4 ?_
      refine WP.imul d_X0_layVia_15 ?_
      refine WP.iload d_X0_layVia_16 3 rfl ?_
      refine WP.iadd d_X0_layVia_18 ?_
      obtain ⟨x2, ex2, H⟩ := ob H
      refine WP.lald d_X0_layVia_19 ex2 ?_
      refine WP.lstore (lv9 := [(5, .long x2), (0, .ref t), (1, .int l1), (2, .long l2), (4, .int l4)]) d_X0_layVia_20 (Nat.le_of_ble_eq_true rfl) rfl ?_
      refine WP.aload_n d_X0_layVia_22 1 rfl ?_
      obtain ⟨x3, ex3, H⟩ := ob H
      refine WP.fR d_X0_layVia_23 gf_X0_25 (fun _ => rfl) ex3 ?_
      refine WP.iload_n d_X0_layVia_26 2 rfl ?_
      refine WP.iconst d_X0_layVia_27 ki_4 ?_
      refine WP.imul d_X0_layVia_28 ?_
      refine WP.iload d_X0_layVia_29 4 rfl ?_
      refine WP.iadd d_X0_layVia_31 ?_
      refine WP.lload d_X0_layVia_32 0 rfl ?_
      refine WP.aload_n d_X0_layVia_34 1 rfl ?_
      refine WP.lload d_X0_layVia_35 0 rfl ?_
      obtain ⟨x5, e4, H⟩ := ob H
      refine WP.cV (c := 1) (As := [.long x2]) (st := [.long x2, .int ((l1 * 4) + l4), .ref x3]) (st9 := [.long x5, .long x2, .int ((l1 * 4) + l4), .ref x3]) (cl9 := 0) (sl9 := 0) d_X0_layVia_37 (ok_X0_grow V e4) tv_X0_grow ti_X0_grow ts_X0_grow lk_X0_100 r_X0_layVia_X0_grow kc_X0_grow (kd_X0_grow e4) rfl rfl (Nat.le_of_ble_eq_true rfl) rfl rfl rfl ?_
      refine WP.lload_n d_X0_layVia_40 3 rfl ?_
      refine WP.land d_X0_layVia_41 ?_
      refine WP.lor d_X0_layVia_42 ?_
      obtain ⟨h6, eh6, H⟩ := ob H
      refine WP.las d_X0_layVia_43 eh6 ?_
      refine WP.iinc (lv9 := [(4, .int (l4 + 1)), (5, .long x2), (0, .ref t), (1, .int l1), (2, .long l2)]) d_X0_layVia_44 4 rfl ki_1 (Nat.le_of_ble_eq_true rfl) rfl ?_
      refine WP.goto d_X0_layVia_47 ?_
      refine WP.sub [2, 3, 4, 0] (lv' := [(0, .ref t), (1, .int l1), (2, .long l2), (4, .int (l4 + 1))]) rfl ?_
      exact ih H K
    · refine WP.icmp_ge_f d_X0_layVia_6 hc ?_
      cases H
      exact WP.sub [] rfl K

set_option maxRecDepth 20000 in
set_option maxHeartbeats 4000000 in
theorem ok_X0_layVia (V : EV) {h : HA} {t : Nat} {l1 : Int32} {l2 : Int64} {hR : HA} (H : X0_layVia h t l1 l2 = some hR) : MG V M_X0_layVia [.ref t, .int l1, .long l2] h none hR := by
  unfold X0_layVia at H
  obtain ⟨_, H⟩ := oc H
  refine MG.of (lv0 := [(0, .ref t), (1, .int l1), (2, .long l2)]) pn_X0 rfl (Nat.le_of_ble_eq_true rfl) ?_
  refine WP.iconst d_X0_layVia_0 ki_0 ?_
  refine WP.istore (lv9 := [(4, .int 0), (0, .ref t), (1, .int l1), (2, .long l2)]) d_X0_layVia_1 (Nat.le_of_ble_eq_true rfl) rfl ?_
  obtain ⟨h8, e7, H⟩ := ob H
  refine WP.sub [1, 2, 3, 0] (lv' := [(0, .ref t), (1, .int l1), (2, .long l2), (4, .int 0)]) rfl ?_
  refine okl_X0_layVia_L3 V _ e7 ?_
  cases H
  exact WP.return_ d_X0_layVia_50 rfl (Nat.le_of_ble_eq_true rfl) (Nat.le_of_ble_eq_true rfl)

set_option maxRecDepth 20000 in
set_option maxHeartbeats 4000000 in
theorem okl_X0_layOf_L24 (V : EV) {vF : Option Value} {hF : HA} {t : Nat} {l1 : Int32} {l2 : Int32} {l3 : Int64} (n : Nat) : ∀ {h : HA} {l5 : Int32} {hR : HA}, (H : X0_layOf_L24 t l1 l2 n h l5 = some hR) → (K : WP V M_X0_layOf 54 [(0, .ref t), (1, .int l1), (3, .long l3)] [] hR 0 0 vF hF) → WP V M_X0_layOf 24 [(0, .ref t), (1, .int l1), (2, .int l2), (3, .long l3), (5, .int l5)] [] h 0 0 vF hF := by
  induction n with
  | zero =>
    intro h l5 hR H K
    rw [X0_layOf_L24] at H
    cases H
  | succ n ih =>
    intro h l5 hR H K
    rw [X0_layOf_L24] at H
    refine WP.iload d_X0_layOf_24 4 rfl ?_
    refine WP.iconst d_X0_layOf_26 ki_4 ?_
    rcases oj H with ⟨hc, H⟩ | ⟨hc, H⟩
    · refine WP.icmp_ge_t d_X0_layOf_27 hc ?_
      refine WP.aload_n d_X0_layOf_30 0 rfl ?_
      obtain ⟨x5, ex5, H⟩ := ob H
      refine WP.fR d_X0_layOf_31 gf_X0_25 (fun _ => rfl) ex5 ?_
      refine WP.iload_n d_X0_layOf_34 1 rfl ?_
      refine WP.iconst d_X0_layOf_35 ki_4 ?_
      refine WP.imul d_X0_layOf_36 ?_
      refine WP.iload d_X0_layOf_37 4 rfl ?_
      refine WP.iadd d_X0_layOf_39 ?_
      refine WP.aload_n d_X0_layOf_40 0 rfl ?_
      refine WP.iload_n d_X0_layOf_41 2 rfl ?_
      refine WP.iload d_X0_layOf_42 4 rfl ?_
      obtain ⟨x7, e6, H⟩ := ob H
      refine WP.cV (c := 1) (As := [.int l2, .int l5]) (st := [.int ((l1 * 4) + l5), .ref x5]) (st9 := [.long x7, .int ((l1 * 4) + l5), .ref x5]) (cl9 := 0) (sl9 := 0) d_X0_layOf_44 (ok_X0_beside V e6) tv_X0_beside ti_X0_beside ts_X0_beside lk_X0_87 r_X0_layOf_X0_beside kc_X0_beside (kd_X0_beside e6) rfl rfl (Nat.le_of_ble_eq_true rfl) rfl rfl rfl ?_
      obtain ⟨h8, eh8, H⟩ := ob H
      refine WP.las d_X0_layOf_47 eh8 ?_
      refine WP.iinc (lv9 := [(5, .int (l5 + 1)), (0, .ref t), (1, .int l1), (2, .int l2), (3, .long l3)]) d_X0_layOf_48 4 rfl ki_1 (Nat.le_of_ble_eq_true rfl) rfl ?_
      refine WP.goto d_X0_layOf_51 ?_
      refine WP.sub [1, 2, 3, 4, 0] (lv' := [(0, .ref t), (1, .int l1), (2, .int l2), (3, .long l3), (5, .int (l5 + 1))]) rfl ?_
      exact ih H K
    · refine WP.icmp_ge_f d_X0_layOf_27 hc ?_
      cases H
      exact WP.sub [0, 1, 3] rfl K

set_option maxRecDepth 20000 in
set_option maxHeartbeats 4000000 in
theorem okl_X0_layOf_L57 (V : EV) {vF : Option Value} {hF : HA} {t : Nat} {l1 : Int32} (n : Nat) : ∀ {h : HA} {l3 : Int64} {l5 : Int32} {hR : HA}, (H : X0_layOf_L57 t l1 n h l3 l5 = some hR) → (K : WP V M_X0_layOf 135 [] [] hR 0 0 vF hF) → WP V M_X0_layOf 57 [(0, .ref t), (1, .int l1), (3, .long l3), (5, .int l5)] [] h 0 0 vF hF := by
  induction n with
  | zero =>
    intro h l3 l5 hR H K
    rw [X0_layOf_L57] at H
    cases H
  | succ n ih =>
    intro h l3 l5 hR H K
    rw [X0_layOf_L57] at H
    refine WP.iload d_X0_layOf_57 3 rfl ?_
    refine WP.bipush d_X0_layOf_59 kb_64 ?_
    rcases oj H with ⟨hc, H⟩ | ⟨hc, H⟩
    · refine WP.icmp_ge_t d_X0_layOf_61 hc ?_
      refine WP.aload_n d_X0_layOf_64 0 rfl ?_
      refine WP.lload_n d_X0_layOf_65 2 rfl ?_
      obtain ⟨x12, e11, H⟩ := ob H
      refine WP.cV (c := 1) (As := [.long l3]) (st := []) (st9 := [.long x12]) (cl9 := 0) (sl9 := 0) d_X0_layOf_66 (ok_X0_grow V e11) tv_X0_grow ti_X0_grow ts_X0_grow lk_X0_100 r_X0_layOf_X0_grow kc_X0_grow (kd_X0_grow e11) rfl rfl (Nat.le_of_ble_eq_true rfl) rfl rfl rfl ?_
      refine WP.lload_n d_X0_layOf_69 2 rfl ?_
      refine WP.ldc2 d_X0_layOf_70 wl_X0_60 ?_
      refine WP.lxor d_X0_layOf_73 ?_
      refine WP.land d_X0_layOf_74 ?_
      refine WP.lstore (lv9 := [(6, .long (x12 &&& (l3 ^^^ (-1)))), (0, .ref t), (1, .int l1), (3, .long l3), (5, .int l5)]) d_X0_layOf_75 (Nat.le_of_ble_eq_true rfl) rfl ?_
      refine WP.lload_n d_X0_layOf_77 3 rfl ?_
      refine WP.lload d_X0_layOf_78 0 rfl ?_
      refine WP.lor d_X0_layOf_80 ?_
      refine WP.lstore_n (lv9 := [(3, .long (l3 ||| (x12 &&& (l3 ^^^ (-1))))), (6, .long (x12 &&& (l3 ^^^ (-1)))), (0, .ref t), (1, .int l1), (5, .int l5)]) d_X0_layOf_81 (Nat.le_of_ble_eq_true rfl) rfl ?_
      refine WP.iload d_X0_layOf_82 4 rfl ?_
      refine WP.bipush d_X0_layOf_84 kb_19 ?_
      rcases oj H with ⟨hc, H⟩ | ⟨hc, H⟩
      · refine WP.icmp_ge_t d_X0_layOf_86 hc ?_
        refine WP.aload_n d_X0_layOf_89 2 rfl ?_
        obtain ⟨x13, ex13, H⟩ := ob H
        refine WP.fR d_X0_layOf_90 gf_X0_21 (fun _ => rfl) ex13 ?_
        refine WP.iload_n d_X0_layOf_93 3 rfl ?_
        refine WP.bipush d_X0_layOf_94 kb_19 ?_
        refine WP.imul d_X0_layOf_96 ?_
        refine WP.iload d_X0_layOf_97 4 rfl ?_
        refine WP.iadd d_X0_layOf_99 ?_
        refine WP.lload_n d_X0_layOf_100 0 rfl ?_
        obtain ⟨h14, eh14, H⟩ := ob H
        refine WP.las d_X0_layOf_101 eh14 ?_
        refine WP.goto d_X0_layOf_102 ?_
        refine WP.lload d_X0_layOf_115 1 rfl ?_
        refine WP.lconst d_X0_layOf_117 kl_0 ?_
        rcases oj H with ⟨hc, H⟩ | ⟨hc, H⟩
        · refine WP.lcmp_eq_t d_X0_layOf_118 d_X0_layOf_119 hc ?_
          refine WP.iinc (lv9 := [(5, .int (l5 + 1)), (3, .long (l3 ||| (x12 &&& (l3 ^^^ (-1))))), (6, .long (x12 &&& (l3 ^^^ (-1)))), (0, .ref t), (1, .int l1)]) d_X0_layOf_129 4 rfl ki_1 (Nat.le_of_ble_eq_true rfl) rfl ?_
          refine WP.goto d_X0_layOf_132 ?_
          refine WP.sub [3, 4, 1, 0] (lv' := [(0, .ref t), (1, .int l1), (3, .long (l3 ||| (x12 &&& (l3 ^^^ (-1))))), (5, .int (l5 + 1))]) rfl ?_
          exact ih H K
        · refine WP.lcmp_eq_f d_X0_layOf_118 d_X0_layOf_119 hc ?_
          refine WP.aload_n d_X0_layOf_122 2 rfl ?_
          refine WP.iload_n d_X0_layOf_123 3 rfl ?_
          refine WP.lload d_X0_layOf_124 1 rfl ?_
          obtain ⟨h16, e15, H⟩ := ob H
          refine WP.cV (c := 1) (As := [.int l1, .long (x12 &&& (l3 ^^^ (-1)))]) (st := []) (st9 := []) (cl9 := 0) (sl9 := 0) d_X0_layOf_126 (ok_X0_layVia V e15) tv_X0_layVia ti_X0_layVia ts_X0_layVia lk_X0_114 r_X0_layOf_X0_layVia kc_X0_layVia (kd_X0_layVia e15) rfl rfl (Nat.le_of_ble_eq_true rfl) rfl rfl rfl ?_
          refine WP.iinc (lv9 := [(5, .int (l5 + 1)), (3, .long (l3 ||| (x12 &&& (l3 ^^^ (-1))))), (6, .long (x12 &&& (l3 ^^^ (-1)))), (0, .ref t), (1, .int l1)]) d_X0_layOf_129 4 rfl ki_1 (Nat.le_of_ble_eq_true rfl) rfl ?_
          refine WP.goto d_X0_layOf_132 ?_
          refine WP.sub [3, 4, 1, 0] (lv' := [(0, .ref t), (1, .int l1), (3, .long (l3 ||| (x12 &&& (l3 ^^^ (-1))))), (5, .int (l5 + 1))]) rfl ?_
          exact ih H K
      · refine WP.icmp_ge_f d_X0_layOf_86 hc ?_
        refine WP.lload d_X0_layOf_105 1 rfl ?_
        refine WP.lconst d_X0_layOf_107 kl_0 ?_
        rcases oj H with ⟨hc, H⟩ | ⟨hc, H⟩
        · refine WP.lcmp_ne_t d_X0_layOf_108 d_X0_layOf_109 hc ?_
          refine WP.goto d_X0_layOf_112 ?_
          cases H
          exact WP.sub [] rfl K
        · refine WP.lcmp_ne_f d_X0_layOf_108 d_X0_layOf_109 hc ?_
          refine WP.lload d_X0_layOf_115 1 rfl ?_
          refine WP.lconst d_X0_layOf_117 kl_0 ?_
          rcases oj H with ⟨hc, H⟩ | ⟨hc, H⟩
          · refine WP.lcmp_eq_t d_X0_layOf_118 d_X0_layOf_119 hc ?_
            refine WP.iinc (lv9 := [(5, .int (l5 + 1)), (3, .long (l3 ||| (x12 &&& (l3 ^^^ (-1))))), (6, .long (x12 &&& (l3 ^^^ (-1)))), (0, .ref t), (1, .int l1)]) d_X0_layOf_129 4 rfl ki_1 (Nat.le_of_ble_eq_true rfl) rfl ?_
            refine WP.goto d_X0_layOf_132 ?_
            refine WP.sub [3, 4, 1, 0] (lv' := [(0, .ref t), (1, .int l1), (3, .long (l3 ||| (x12 &&& (l3 ^^^ (-1))))), (5, .int (l5 + 1))]) rfl ?_
            exact ih H K
          · refine WP.lcmp_eq_f d_X0_layOf_118 d_X0_layOf_119 hc ?_
            refine WP.aload_n d_X0_layOf_122 2 rfl ?_
            refine WP.iload_n d_X0_layOf_123 3 rfl ?_
            refine WP.lload d_X0_layOf_124 1 rfl ?_
            obtain ⟨h18, e17, H⟩ := ob H
            refine WP.cV (c := 1) (As := [.int l1, .long (x12 &&& (l3 ^^^ (-1)))]) (st := []) (st9 := []) (cl9 := 0) (sl9 := 0) d_X0_layOf_126 (ok_X0_layVia V e17) tv_X0_layVia ti_X0_layVia ts_X0_layVia lk_X0_114 r_X0_layOf_X0_layVia kc_X0_layVia (kd_X0_layVia e17) rfl rfl (Nat.le_of_ble_eq_true rfl) rfl rfl rfl ?_
            refine WP.iinc (lv9 := [(5, .int (l5 + 1)), (3, .long (l3 ||| (x12 &&& (l3 ^^^ (-1))))), (6, .long (x12 &&& (l3 ^^^ (-1)))), (0, .ref t), (1, .int l1)]) d_X0_layOf_129 4 rfl ki_1 (Nat.le_of_ble_eq_true rfl) rfl ?_
            refine WP.goto d_X0_layOf_132 ?_
            refine WP.sub [3, 4, 1, 0] (lv' := [(0, .ref t), (1, .int l1), (3, .long (l3 ||| (x12 &&& (l3 ^^^ (-1))))), (5, .int (l5 + 1))]) rfl ?_
            exact ih H K
    · refine WP.icmp_ge_f d_X0_layOf_61 hc ?_
      cases H
      exact WP.sub [] rfl K

set_option maxRecDepth 20000 in
set_option maxHeartbeats 4000000 in
theorem ok_X0_layOf (V : EV) {h : HA} {t : Nat} {l1 : Int32} {hR : HA} (H : X0_layOf h t l1 = some hR) : MG V M_X0_layOf [.ref t, .int l1] h none hR := by
  unfold X0_layOf at H
  obtain ⟨_, H⟩ := oc H
  refine MG.of (lv0 := [(0, .ref t), (1, .int l1)]) pn_X0 rfl (Nat.le_of_ble_eq_true rfl) ?_
  refine WP.aload_n d_X0_layOf_0 0 rfl ?_
  refine WP.iload_n d_X0_layOf_1 1 rfl ?_
  refine WP.iconst d_X0_layOf_2 ki_0 ?_
  obtain ⟨x2, e1, H⟩ := ob H
  refine WP.cV (c := 1) (As := [.int l1, .int 0]) (st := []) (st9 := [.int x2]) (cl9 := 0) (sl9 := 0) d_X0_layOf_3 (ok_X0_of V e1) tv_X0_of ti_X0_of ts_X0_of lk_X0_83 r_X0_layOf_X0_of kc_X0_of (kd_X0_of e1) rfl rfl (Nat.le_of_ble_eq_true rfl) rfl rfl rfl ?_
  refine WP.istore_n (lv9 := [(2, .int x2), (0, .ref t), (1, .int l1)]) d_X0_layOf_6 (Nat.le_of_ble_eq_true rfl) rfl ?_
  refine WP.lconst d_X0_layOf_7 kl_1 ?_
  refine WP.iload_n d_X0_layOf_8 0 rfl ?_
  refine WP.lshl d_X0_layOf_9 ?_
  refine WP.lstore_n (lv9 := [(3, .long (shlJ 1 x2)), (2, .int x2), (0, .ref t), (1, .int l1)]) d_X0_layOf_10 (Nat.le_of_ble_eq_true rfl) rfl ?_
  refine WP.aload_n d_X0_layOf_11 2 rfl ?_
  obtain ⟨x3, ex3, H⟩ := ob H
  refine WP.fR d_X0_layOf_12 gf_X0_21 (fun _ => rfl) ex3 ?_
  refine WP.iload_n d_X0_layOf_15 3 rfl ?_
  refine WP.bipush d_X0_layOf_16 kb_19 ?_
  refine WP.imul d_X0_layOf_18 ?_
  refine WP.lload_n d_X0_layOf_19 0 rfl ?_
  obtain ⟨h4, eh4, H⟩ := ob H
  refine WP.las d_X0_layOf_20 eh4 ?_
  refine WP.iconst d_X0_layOf_21 ki_0 ?_
  refine WP.istore (lv9 := [(5, .int 0), (3, .long (shlJ 1 x2)), (2, .int x2), (0, .ref t), (1, .int l1)]) d_X0_layOf_22 (Nat.le_of_ble_eq_true rfl) rfl ?_
  obtain ⟨h10, e9, H⟩ := ob H
  refine WP.sub [3, 4, 2, 1, 0] (lv' := [(0, .ref t), (1, .int l1), (2, .int x2), (3, .long (shlJ 1 x2)), (5, .int 0)]) rfl ?_
  refine okl_X0_layOf_L24 V _ e9 ?_
  refine WP.iconst d_X0_layOf_54 ki_1 ?_
  refine WP.istore (lv9 := [(5, .int 1), (0, .ref t), (1, .int l1), (3, .long (shlJ 1 x2))]) d_X0_layOf_55 (Nat.le_of_ble_eq_true rfl) rfl ?_
  obtain ⟨h20, e19, H⟩ := ob H
  refine WP.sub [1, 2, 3, 0] (lv' := [(0, .ref t), (1, .int l1), (3, .long (shlJ 1 x2)), (5, .int 1)]) rfl ?_
  refine okl_X0_layOf_L57 V _ e19 ?_
  cases H
  exact WP.return_ d_X0_layOf_135 rfl (Nat.le_of_ble_eq_true rfl) (Nat.le_of_ble_eq_true rfl)

set_option maxRecDepth 20000 in
set_option maxHeartbeats 4000000 in
theorem okl_X0_lay_L10 (V : EV) {vF : Option Value} {hF : HA} {t : Nat} (n : Nat) : ∀ {h : HA} {l1 : Int32} {hR : HA}, (H : X0_lay_L10 t n h l1 = some hR) → (K : WP V M_X0_lay 29 [(0, .ref t)] [] hR 0 0 vF hF) → WP V M_X0_lay 10 [(0, .ref t), (1, .int l1)] [] h 0 0 vF hF := by
  induction n with
  | zero =>
    intro h l1 hR H K
    rw [X0_lay_L10] at H
    cases H
  | succ n ih =>
    intro h l1 hR H K
    rw [X0_lay_L10] at H
    refine WP.iload_n d_X0_lay_10 1 rfl ?_
    refine WP.aload_n d_X0_lay_11 0 rfl ?_
    obtain ⟨x2, ex2, H⟩ := ob H
    refine WP.fI d_X0_lay_12 gf_X0_39 (fun _ => rfl) ex2 ?_
    rcases oj H with ⟨hc, H⟩ | ⟨hc, H⟩
    · refine WP.icmp_ge_t d_X0_lay_15 hc ?_
      refine WP.aload_n d_X0_lay_18 0 rfl ?_
      refine WP.iload_n d_X0_lay_19 1 rfl ?_
      obtain ⟨h4, e3, H⟩ := ob H
      refine WP.cV (c := 1) (As := [.int l1]) (st := []) (st9 := []) (cl9 := 0) (sl9 := 0) d_X0_lay_20 (ok_X0_layOf V e3) tv_X0_layOf ti_X0_layOf ts_X0_layOf lk_X0_110 r_X0_lay_X0_layOf kc_X0_layOf (kd_X0_layOf e3) rfl rfl (Nat.le_of_ble_eq_true rfl) rfl rfl rfl ?_
      refine WP.iinc (lv9 := [(1, .int (l1 + 1)), (0, .ref t)]) d_X0_lay_23 1 rfl ki_1 (Nat.le_of_ble_eq_true rfl) rfl ?_
      refine WP.goto d_X0_lay_26 ?_
      refine WP.sub [1, 0] (lv' := [(0, .ref t), (1, .int (l1 + 1))]) rfl ?_
      exact ih H K
    · refine WP.icmp_ge_f d_X0_lay_15 hc ?_
      cases H
      exact WP.sub [0] rfl K

set_option maxRecDepth 20000 in
set_option maxHeartbeats 4000000 in
theorem ok_X0_lay (V : EV) {h : HA} {t : Nat} {hR : HA} (H : X0_lay h t = some hR) : MG V M_X0_lay [.ref t] h none hR := by
  unfold X0_lay at H
  obtain ⟨_, H⟩ := oc H
  refine MG.of (lv0 := [(0, .ref t)]) pn_X0 rfl (Nat.le_of_ble_eq_true rfl) ?_
  refine WP.aload_n d_X0_lay_0 0 rfl ?_
  obtain ⟨x1, ex1, H⟩ := ob H
  refine WP.fI d_X0_lay_1 gf_X0_75 (fun _ => rfl) ex1 ?_
  rcases oj H with ⟨hc, H⟩ | ⟨hc, H⟩
  · refine WP.if_eq_t d_X0_lay_4 hc ?_
    refine WP.iconst d_X0_lay_8 ki_0 ?_
    refine WP.istore_n (lv9 := [(1, .int 0), (0, .ref t)]) d_X0_lay_9 (Nat.le_of_ble_eq_true rfl) rfl ?_
    obtain ⟨h6, e5, H⟩ := ob H
    refine WP.sub [1, 0] (lv' := [(0, .ref t), (1, .int 0)]) rfl ?_
    refine okl_X0_lay_L10 V _ e5 ?_
    refine WP.aload_n d_X0_lay_29 0 rfl ?_
    refine WP.iconst d_X0_lay_30 ki_1 ?_
    obtain ⟨h7, eh7, H⟩ := ob H
    refine WP.uI d_X0_lay_31 gf_X0_75 rfl (Or.inr rfl) rfl rfl eh7 ?_
    cases H
    exact WP.return_ d_X0_lay_34 rfl (Nat.le_of_ble_eq_true rfl) (Nat.le_of_ble_eq_true rfl)
  · refine WP.if_eq_f d_X0_lay_4 hc ?_
    cases H
    exact WP.return_ d_X0_lay_7 rfl (Nat.le_of_ble_eq_true rfl) (Nat.le_of_ble_eq_true rfl)

set_option maxRecDepth 20000 in
set_option maxHeartbeats 4000000 in
theorem ok_X0_turned (V : EV) {h : HA} {l0 : Int32} {l1 : Int32} {r : Int32} (H : X0_turned l0 l1 = some r) : MG V M_X0_turned [.int l0, .int l1] h (some (.int r)) h := by
  unfold X0_turned at H
  refine MG.of (lv0 := [(0, .int l0), (1, .int l1)]) pn_X0 rfl (Nat.le_of_ble_eq_true rfl) ?_
  refine WP.iload_n d_X0_turned_0 1 rfl ?_
  refine WP.iconst d_X0_turned_1 ki_3 ?_
  refine WP.iand d_X0_turned_2 ?_
  refine WP.istore_n (lv9 := [(2, .int (l1 &&& 3)), (0, .int l0), (1, .int l1)]) d_X0_turned_3 (Nat.le_of_ble_eq_true rfl) rfl ?_
  refine WP.iload_n d_X0_turned_4 1 rfl ?_
  refine WP.iload_n d_X0_turned_5 0 rfl ?_
  refine WP.ishl d_X0_turned_6 ?_
  refine WP.iload_n d_X0_turned_7 1 rfl ?_
  refine WP.iconst d_X0_turned_8 ki_4 ?_
  refine WP.iload_n d_X0_turned_9 0 rfl ?_
  refine WP.isub d_X0_turned_10 ?_
  refine WP.iushr d_X0_turned_11 ?_
  refine WP.ior d_X0_turned_12 ?_
  refine WP.bipush d_X0_turned_13 kb_15 ?_
  refine WP.iand d_X0_turned_15 ?_
  cases H
  exact WP.ireturn d_X0_turned_16 rfl rfl (Nat.le_of_ble_eq_true rfl) (Nat.le_of_ble_eq_true rfl)

set_option maxRecDepth 20000 in
set_option maxHeartbeats 4000000 in
theorem okl_X0_sidesFrom_L5 (V : EV) {vF : Option Value} {hF : HA} {h : HA} {t : Nat} {l1 : Int32} {l2 : Int32} (n : Nat) : ∀ {l3 : Int32} {l4 : Int32} {r3 : Int32}, (H : X0_sidesFrom_L5 h t l1 l2 n l3 l4 = some r3) → (K : WP V M_X0_sidesFrom 42 [(3, .int r3)] [] h 0 0 vF hF) → WP V M_X0_sidesFrom 5 [(0, .ref t), (1, .int l1), (2, .int l2), (3, .int l3), (4, .int l4)] [] h 0 0 vF hF := by
  induction n with
  | zero =>
    intro l3 l4 r3 H K
    rw [X0_sidesFrom_L5] at H
    cases H
  | succ n ih =>
    intro l3 l4 r3 H K
    rw [X0_sidesFrom_L5] at H
    refine WP.iload d_X0_sidesFrom_5 4 rfl ?_
    refine WP.iconst d_X0_sidesFrom_7 ki_4 ?_
    rcases oj H with ⟨hc, H⟩ | ⟨hc, H⟩
    · refine WP.icmp_ge_t d_X0_sidesFrom_8 hc ?_
      refine WP.aload_n d_X0_sidesFrom_11 0 rfl ?_
      obtain ⟨x1, ex1, H⟩ := ob H
      refine WP.fR d_X0_sidesFrom_12 gf_X0_25 (fun _ => rfl) ex1 ?_
      refine WP.iload_n d_X0_sidesFrom_15 1 rfl ?_
      refine WP.iconst d_X0_sidesFrom_16 ki_4 ?_
      refine WP.imul d_X0_sidesFrom_17 ?_
      refine WP.iload d_X0_sidesFrom_18 4 rfl ?_
      refine WP.iadd d_X0_sidesFrom_20 ?_
      obtain ⟨x2, ex2, H⟩ := ob H
      refine WP.lald d_X0_sidesFrom_21 ex2 ?_
      refine WP.iload_n d_X0_sidesFrom_22 2 rfl ?_
      obtain ⟨x4, e3, H⟩ := ob H
      refine WP.cSN (As := [.long x2, .int l2]) (st := []) (st9 := [.int x4]) (cl9 := 0) (sl9 := 0) d_X0_sidesFrom_23 (ok_X7_has V (h := h) e3) tv_X7_has ts_X7_has ln_X0_79 r_X0_sidesFrom_X7_has rfl rfl (Nat.le_of_ble_eq_true rfl) rfl rfl rfl ?_
      rcases oj H with ⟨hc, H⟩ | ⟨hc, H⟩
      · refine WP.if_eq_t d_X0_sidesFrom_26 hc ?_
        refine WP.iinc (lv9 := [(4, .int (l4 + 1)), (0, .ref t), (1, .int l1), (2, .int l2), (3, .int l3)]) d_X0_sidesFrom_36 4 rfl ki_1 (Nat.le_of_ble_eq_true rfl) rfl ?_
        refine WP.goto d_X0_sidesFrom_39 ?_
        refine WP.sub [1, 2, 3, 4, 0] (lv' := [(0, .ref t), (1, .int l1), (2, .int l2), (3, .int l3), (4, .int (l4 + 1))]) rfl ?_
        exact ih H K
      · refine WP.if_eq_f d_X0_sidesFrom_26 hc ?_
        refine WP.iload_n d_X0_sidesFrom_29 3 rfl ?_
        refine WP.iconst d_X0_sidesFrom_30 ki_1 ?_
        refine WP.iload d_X0_sidesFrom_31 4 rfl ?_
        refine WP.ishl d_X0_sidesFrom_33 ?_
        refine WP.ior d_X0_sidesFrom_34 ?_
        refine WP.istore_n (lv9 := [(3, .int (l3 ||| (shlI 1 l4))), (0, .ref t), (1, .int l1), (2, .int l2), (4, .int l4)]) d_X0_sidesFrom_35 (Nat.le_of_ble_eq_true rfl) rfl ?_
        refine WP.iinc (lv9 := [(4, .int (l4 + 1)), (3, .int (l3 ||| (shlI 1 l4))), (0, .ref t), (1, .int l1), (2, .int l2)]) d_X0_sidesFrom_36 4 rfl ki_1 (Nat.le_of_ble_eq_true rfl) rfl ?_
        refine WP.goto d_X0_sidesFrom_39 ?_
        refine WP.sub [2, 3, 4, 1, 0] (lv' := [(0, .ref t), (1, .int l1), (2, .int l2), (3, .int (l3 ||| (shlI 1 l4))), (4, .int (l4 + 1))]) rfl ?_
        exact ih H K
    · refine WP.icmp_ge_f d_X0_sidesFrom_8 hc ?_
      cases H
      exact WP.sub [3] rfl K

set_option maxRecDepth 20000 in
set_option maxHeartbeats 4000000 in
theorem ok_X0_sidesFrom (V : EV) {h : HA} {t : Nat} {l1 : Int32} {l2 : Int32} {r : Int32} (H : X0_sidesFrom h t l1 l2 = some r) : MG V M_X0_sidesFrom [.ref t, .int l1, .int l2] h (some (.int r)) h := by
  unfold X0_sidesFrom at H
  obtain ⟨_, H⟩ := oc H
  refine MG.of (lv0 := [(0, .ref t), (1, .int l1), (2, .int l2)]) pn_X0 rfl (Nat.le_of_ble_eq_true rfl) ?_
  refine WP.iconst d_X0_sidesFrom_0 ki_0 ?_
  refine WP.istore_n (lv9 := [(3, .int 0), (0, .ref t), (1, .int l1), (2, .int l2)]) d_X0_sidesFrom_1 (Nat.le_of_ble_eq_true rfl) rfl ?_
  refine WP.iconst d_X0_sidesFrom_2 ki_0 ?_
  refine WP.istore (lv9 := [(4, .int 0), (3, .int 0), (0, .ref t), (1, .int l1), (2, .int l2)]) d_X0_sidesFrom_3 (Nat.le_of_ble_eq_true rfl) rfl ?_
  obtain ⟨y6, e5, H⟩ := ob H
  refine WP.sub [2, 3, 4, 1, 0] (lv' := [(0, .ref t), (1, .int l1), (2, .int l2), (3, .int 0), (4, .int 0)]) rfl ?_
  refine okl_X0_sidesFrom_L5 V _ e5 ?_
  refine WP.iload_n d_X0_sidesFrom_42 0 rfl ?_
  cases H
  exact WP.ireturn d_X0_sidesFrom_43 rfl rfl (Nat.le_of_ble_eq_true rfl) (Nat.le_of_ble_eq_true rfl)

set_option maxRecDepth 20000 in
set_option maxHeartbeats 4000000 in
theorem okl_X0_audibleFrom_L14 (V : EV) {vF : Option Value} {hF : HA} {h : HA} {t : Nat} {l1 : Int32} {l2 : Int32} {l3 : Int32} (n : Nat) : ∀ {l4 : Int64} {l6 : Int32} {r4 : Int64}, (H : X0_audibleFrom_L14 h t l1 l2 n l4 l6 = some r4) → (K : WP V M_X0_audibleFrom 51 [(0, .ref t), (1, .int l1), (3, .int l3), (4, .long r4)] [] h 0 0 vF hF) → WP V M_X0_audibleFrom 14 [(0, .ref t), (1, .int l1), (2, .int l2), (3, .int l3), (4, .long l4), (6, .int l6)] [] h 0 0 vF hF := by
  induction n with
  | zero =>
    intro l4 l6 r4 H K
    rw [X0_audibleFrom_L14] at H
    cases H
  | succ n ih =>
    intro l4 l6 r4 H K
    rw [X0_audibleFrom_L14] at H
    refine WP.iload d_X0_audibleFrom_14 5 rfl ?_
    refine WP.iconst d_X0_audibleFrom_16 ki_4 ?_
    rcases oj H with ⟨hc, H⟩ | ⟨hc, H⟩
    · refine WP.icmp_ge_t d_X0_audibleFrom_17 hc ?_
      refine WP.iload_n d_X0_audibleFrom_20 2 rfl ?_
      refine WP.iload d_X0_audibleFrom_21 5 rfl ?_
      refine WP.iushr d_X0_audibleFrom_23 ?_
      refine WP.iconst d_X0_audibleFrom_24 ki_1 ?_
      refine WP.iand d_X0_audibleFrom_25 ?_
      rcases oj H with ⟨hc, H⟩ | ⟨hc, H⟩
      · refine WP.if_eq_t d_X0_audibleFrom_26 hc ?_
        refine WP.iinc (lv9 := [(6, .int (l6 + 1)), (0, .ref t), (1, .int l1), (2, .int l2), (3, .int l3), (4, .long l4)]) d_X0_audibleFrom_45 5 rfl ki_1 (Nat.le_of_ble_eq_true rfl) rfl ?_
        refine WP.goto d_X0_audibleFrom_48 ?_
        refine WP.sub [1, 2, 3, 4, 5, 0] (lv' := [(0, .ref t), (1, .int l1), (2, .int l2), (3, .int l3), (4, .long l4), (6, .int (l6 + 1))]) rfl ?_
        exact ih H K
      · refine WP.if_eq_f d_X0_audibleFrom_26 hc ?_
        refine WP.lload d_X0_audibleFrom_29 4 rfl ?_
        refine WP.aload_n d_X0_audibleFrom_31 0 rfl ?_
        obtain ⟨x3, ex3, H⟩ := ob H
        refine WP.fR d_X0_audibleFrom_32 gf_X0_25 (fun _ => rfl) ex3 ?_
        refine WP.iload_n d_X0_audibleFrom_35 1 rfl ?_
        refine WP.iconst d_X0_audibleFrom_36 ki_4 ?_
        refine WP.imul d_X0_audibleFrom_37 ?_
        refine WP.iload d_X0_audibleFrom_38 5 rfl ?_
        refine WP.iadd d_X0_audibleFrom_40 ?_
        obtain ⟨x4, ex4, H⟩ := ob H
        refine WP.lald d_X0_audibleFrom_41 ex4 ?_
        refine WP.lor d_X0_audibleFrom_42 ?_
        refine WP.lstore (lv9 := [(4, .long (l4 ||| x4)), (0, .ref t), (1, .int l1), (2, .int l2), (3, .int l3), (6, .int l6)]) d_X0_audibleFrom_43 (Nat.le_of_ble_eq_true rfl) rfl ?_
        refine WP.iinc (lv9 := [(6, .int (l6 + 1)), (4, .long (l4 ||| x4)), (0, .ref t), (1, .int l1), (2, .int l2), (3, .int l3)]) d_X0_audibleFrom_45 5 rfl ki_1 (Nat.le_of_ble_eq_true rfl) rfl ?_
        refine WP.goto d_X0_audibleFrom_48 ?_
        refine WP.sub [2, 3, 4, 5, 1, 0] (lv' := [(0, .ref t), (1, .int l1), (2, .int l2), (3, .int l3), (4, .long (l4 ||| x4)), (6, .int (l6 + 1))]) rfl ?_
        exact ih H K
    · refine WP.icmp_ge_f d_X0_audibleFrom_17 hc ?_
      cases H
      exact WP.sub [0, 1, 3, 4] rfl K

set_option maxRecDepth 20000 in
set_option maxHeartbeats 4000000 in
theorem ok_X0_audibleFrom (V : EV) {h : HA} {t : Nat} {l1 : Int32} {l2 : Int32} {l3 : Int32} {r : Int64} (H : X0_audibleFrom h t l1 l2 l3 = some r) : MG V M_X0_audibleFrom [.ref t, .int l1, .int l2, .int l3] h (some (.long r)) h := by
  unfold X0_audibleFrom at H
  obtain ⟨_, H⟩ := oc H
  refine MG.of (lv0 := [(0, .ref t), (1, .int l1), (2, .int l2), (3, .int l3)]) pn_X0 rfl (Nat.le_of_ble_eq_true rfl) ?_
  refine WP.aload_n d_X0_audibleFrom_0 0 rfl ?_
  obtain ⟨x1, ex1, H⟩ := ob H
  refine WP.fR d_X0_audibleFrom_1 gf_X0_21 (fun _ => rfl) ex1 ?_
  refine WP.iload_n d_X0_audibleFrom_4 1 rfl ?_
  refine WP.bipush d_X0_audibleFrom_5 kb_19 ?_
  refine WP.imul d_X0_audibleFrom_7 ?_
  obtain ⟨x2, ex2, H⟩ := ob H
  refine WP.lald d_X0_audibleFrom_8 ex2 ?_
  refine WP.lstore (lv9 := [(4, .long x2), (0, .ref t), (1, .int l1), (2, .int l2), (3, .int l3)]) d_X0_audibleFrom_9 (Nat.le_of_ble_eq_true rfl) rfl ?_
  refine WP.iconst d_X0_audibleFrom_11 ki_0 ?_
  refine WP.istore (lv9 := [(6, .int 0), (4, .long x2), (0, .ref t), (1, .int l1), (2, .int l2), (3, .int l3)]) d_X0_audibleFrom_12 (Nat.le_of_ble_eq_true rfl) rfl ?_
  obtain ⟨y6, e5, H⟩ := ob H
  refine WP.sub [2, 3, 4, 5, 1, 0] (lv' := [(0, .ref t), (1, .int l1), (2, .int l2), (3, .int l3), (4, .long x2), (6, .int 0)]) rfl ?_
  refine okl_X0_audibleFrom_L14 V _ e5 ?_
  refine WP.lload d_X0_audibleFrom_51 3 rfl ?_
  refine WP.aload_n d_X0_audibleFrom_53 0 rfl ?_
  obtain ⟨x7, ex7, H⟩ := ob H
  refine WP.fR d_X0_audibleFrom_54 gf_X0_21 (fun _ => rfl) ex7 ?_
  refine WP.iload_n d_X0_audibleFrom_57 1 rfl ?_
  refine WP.bipush d_X0_audibleFrom_58 kb_19 ?_
  refine WP.imul d_X0_audibleFrom_60 ?_
  refine WP.iload_n d_X0_audibleFrom_61 2 rfl ?_
  refine WP.iadd d_X0_audibleFrom_62 ?_
  obtain ⟨x8, ex8, H⟩ := ob H
  refine WP.lald d_X0_audibleFrom_63 ex8 ?_
  refine WP.land d_X0_audibleFrom_64 ?_
  cases H
  exact WP.lreturn d_X0_audibleFrom_65 rfl (Nat.le_of_ble_eq_true rfl) (Nat.le_of_ble_eq_true rfl)

set_option maxRecDepth 20000 in
set_option maxHeartbeats 4000000 in
theorem ok_X0_sidesOf (V : EV) {h : HA} {l0 : Int32} {r : Int32} (H : X0_sidesOf l0 = some r) : MG V M_X0_sidesOf [.int l0] h (some (.int r)) h := by
  unfold X0_sidesOf at H
  refine MG.of (lv0 := [(0, .int l0)]) pn_X0 rfl (Nat.le_of_ble_eq_true rfl) ?_
  refine WP.iload_n d_X0_sidesOf_0 0 rfl ?_
  rcases oj H with ⟨hc, H⟩ | ⟨hc, H⟩
  · refine WP.if_ne_t d_X0_sidesOf_1 hc ?_
    refine WP.bipush d_X0_sidesOf_4 kb_9 ?_
    refine WP.goto d_X0_sidesOf_6 ?_
    cases H
    exact WP.ireturn d_X0_sidesOf_10 rfl rfl (Nat.le_of_ble_eq_true rfl) (Nat.le_of_ble_eq_true rfl)
  · refine WP.if_ne_f d_X0_sidesOf_1 hc ?_
    refine WP.iconst d_X0_sidesOf_9 ki_3 ?_
    cases H
    exact WP.ireturn d_X0_sidesOf_10 rfl rfl (Nat.le_of_ble_eq_true rfl) (Nat.le_of_ble_eq_true rfl)

set_option maxRecDepth 20000 in
set_option maxHeartbeats 4000000 in
theorem ok_X0_audible (V : EV) {h : HA} {t : Nat} {l1 : Int32} {l2 : Int32} {l3 : Int32} {r : Int64} (H : X0_audible h t l1 l2 l3 = some r) : MG V M_X0_audible [.ref t, .int l1, .int l2, .int l3] h (some (.long r)) h := by
  unfold X0_audible at H
  obtain ⟨_, H⟩ := oc H
  refine MG.of (lv0 := [(0, .ref t), (1, .int l1), (2, .int l2), (3, .int l3)]) pn_X0 rfl (Nat.le_of_ble_eq_true rfl) ?_
  refine WP.aload_n d_X0_audible_0 0 rfl ?_
  refine WP.iload_n d_X0_audible_1 1 rfl ?_
  refine WP.iconst d_X0_audible_2 ki_2 ?_
  obtain ⟨x2, e1, H⟩ := ob H
  refine WP.cV (c := 1) (As := [.int l1, .int 2]) (st := []) (st9 := [.int x2]) (cl9 := 0) (sl9 := 0) d_X0_audible_3 (ok_X0_of V e1) tv_X0_of ti_X0_of ts_X0_of lk_X0_83 r_X0_audible_X0_of kc_X0_of (kd_X0_of e1) rfl rfl (Nat.le_of_ble_eq_true rfl) rfl rfl rfl ?_
  obtain ⟨x4, e3, H⟩ := ob H
  refine WP.cS (As := [.int x2]) (st := []) (st9 := [.int x4]) (cl9 := 0) (sl9 := 0) d_X0_audible_6 (ok_X0_sidesOf V (h := h) e3) tv_X0_sidesOf ts_X0_sidesOf lk_X0_118 r_X0_audible_X0_sidesOf rfl rfl (Nat.le_of_ble_eq_true rfl) rfl rfl rfl ?_
  refine WP.aload_n d_X0_audible_9 0 rfl ?_
  refine WP.iload_n d_X0_audible_10 1 rfl ?_
  refine WP.iload_n d_X0_audible_11 2 rfl ?_
  obtain ⟨x6, e5, H⟩ := ob H
  refine WP.cV (c := 1) (As := [.int l1, .int l2]) (st := [.int x4]) (st9 := [.int x6, .int x4]) (cl9 := 0) (sl9 := 0) d_X0_audible_12 (ok_X0_faces V e5) tv_X0_faces ti_X0_faces ts_X0_faces lk_X0_122 r_X0_audible_X0_faces kc_X0_faces (kd_X0_faces e5) rfl rfl (Nat.le_of_ble_eq_true rfl) rfl rfl rfl ?_
  obtain ⟨x8, e7, H⟩ := ob H
  refine WP.cS (As := [.int x4, .int x6]) (st := []) (st9 := [.int x8]) (cl9 := 0) (sl9 := 0) d_X0_audible_15 (ok_X0_turned V (h := h) e7) tv_X0_turned ts_X0_turned lk_X0_125 r_X0_audible_X0_turned rfl rfl (Nat.le_of_ble_eq_true rfl) rfl rfl rfl ?_
  refine WP.istore (lv9 := [(4, .int x8), (0, .ref t), (1, .int l1), (2, .int l2), (3, .int l3)]) d_X0_audible_18 (Nat.le_of_ble_eq_true rfl) rfl ?_
  refine WP.aload_n d_X0_audible_20 1 rfl ?_
  refine WP.iload_n d_X0_audible_21 2 rfl ?_
  refine WP.iload d_X0_audible_22 0 rfl ?_
  refine WP.aload_n d_X0_audible_24 1 rfl ?_
  refine WP.iload_n d_X0_audible_25 2 rfl ?_
  refine WP.iconst d_X0_audible_26 ki_3 ?_
  obtain ⟨x10, e9, H⟩ := ob H
  refine WP.cV (c := 1) (As := [.int l1, .int 3]) (st := [.int x8, .int l1, .ref t]) (st9 := [.int x10, .int x8, .int l1, .ref t]) (cl9 := 0) (sl9 := 0) d_X0_audible_27 (ok_X0_of V e9) tv_X0_of ti_X0_of ts_X0_of lk_X0_83 r_X0_audible_X0_of kc_X0_of (kd_X0_of e9) rfl rfl (Nat.le_of_ble_eq_true rfl) rfl rfl rfl ?_
  refine WP.iload_n d_X0_audible_30 4 rfl ?_
  refine WP.iadd d_X0_audible_31 ?_
  obtain ⟨x12, e11, H⟩ := ob H
  refine WP.cV (c := 1) (As := [.int l1, .int x8, .int (x10 + l3)]) (st := []) (st9 := [.long x12]) (cl9 := 0) (sl9 := 0) d_X0_audible_32 (ok_X0_audibleFrom V e11) tv_X0_audibleFrom ti_X0_audibleFrom ts_X0_audibleFrom lk_X0_128 r_X0_audible_X0_audibleFrom kc_X0_audibleFrom (kd_X0_audibleFrom e11) rfl rfl (Nat.le_of_ble_eq_true rfl) rfl rfl rfl ?_
  cases H
  exact WP.lreturn d_X0_audible_35 rfl (Nat.le_of_ble_eq_true rfl) (Nat.le_of_ble_eq_true rfl)

set_option maxRecDepth 20000 in
set_option maxHeartbeats 4000000 in
theorem okl_X0_earsAt_L6 (V : EV) {vF : Option Value} {hF : HA} {h : HA} {t : Nat} {l1 : Int32} {l2 : Int32} {l3 : Int32} (n : Nat) : ∀ {l4 : Int32} {l5 : Int32} {r4 : Int32}, (H : X0_earsAt_L6 h t l1 l2 l3 n l4 l5 = some r4) → (K : WP V M_X0_earsAt 45 [(4, .int r4)] [] h 0 0 vF hF) → WP V M_X0_earsAt 6 [(0, .ref t), (1, .int l1), (2, .int l2), (3, .int l3), (4, .int l4), (5, .int l5)] [] h 0 0 vF hF := by
  induction n with
  | zero =>
    intro l4 l5 r4 H K
    rw [X0_earsAt_L6] at H
    cases H
  | succ n ih =>
    intro l4 l5 r4 H K
    rw [X0_earsAt_L6] at H
    refine WP.iload d_X0_earsAt_6 5 rfl ?_
    refine WP.aload_n d_X0_earsAt_8 0 rfl ?_
    obtain ⟨x1, ex1, H⟩ := ob H
    refine WP.fI d_X0_earsAt_9 gf_X0_39 (fun _ => rfl) ex1 ?_
    rcases oj H with ⟨hc, H⟩ | ⟨hc, H⟩
    · refine WP.icmp_ge_t d_X0_earsAt_12 hc ?_
      refine WP.aload_n d_X0_earsAt_15 0 rfl ?_
      refine WP.iload d_X0_earsAt_16 5 rfl ?_
      refine WP.iload_n d_X0_earsAt_18 2 rfl ?_
      refine WP.iload_n d_X0_earsAt_19 3 rfl ?_
      obtain ⟨x3, e2, H⟩ := ob H
      refine WP.cV (c := 1) (As := [.int l5, .int l2, .int l3]) (st := []) (st9 := [.long x3]) (cl9 := 0) (sl9 := 0) d_X0_earsAt_20 (ok_X0_audible V e2) tv_X0_audible ti_X0_audible ts_X0_audible lk_X0_132 r_X0_earsAt_X0_audible kc_X0_audible (kd_X0_audible e2) rfl rfl (Nat.le_of_ble_eq_true rfl) rfl rfl rfl ?_
      refine WP.iload_n d_X0_earsAt_23 1 rfl ?_
      obtain ⟨x5, e4, H⟩ := ob H
      refine WP.cSN (As := [.long x3, .int l1]) (st := []) (st9 := [.int x5]) (cl9 := 0) (sl9 := 0) d_X0_earsAt_24 (ok_X7_has V (h := h) e4) tv_X7_has ts_X7_has ln_X0_79 r_X0_earsAt_X7_has rfl rfl (Nat.le_of_ble_eq_true rfl) rfl rfl rfl ?_
      rcases oj H with ⟨hc, H⟩ | ⟨hc, H⟩
      · refine WP.if_eq_t d_X0_earsAt_27 hc ?_
        refine WP.iinc (lv9 := [(5, .int (l5 + 1)), (0, .ref t), (1, .int l1), (2, .int l2), (3, .int l3), (4, .int l4)]) d_X0_earsAt_39 5 rfl ki_1 (Nat.le_of_ble_eq_true rfl) rfl ?_
        refine WP.goto d_X0_earsAt_42 ?_
        refine WP.sub [1, 2, 3, 4, 5, 0] (lv' := [(0, .ref t), (1, .int l1), (2, .int l2), (3, .int l3), (4, .int l4), (5, .int (l5 + 1))]) rfl ?_
        exact ih H K
      · refine WP.if_eq_f d_X0_earsAt_27 hc ?_
        refine WP.iload d_X0_earsAt_30 4 rfl ?_
        refine WP.iconst d_X0_earsAt_32 ki_1 ?_
        refine WP.iload d_X0_earsAt_33 5 rfl ?_
        refine WP.ishl d_X0_earsAt_35 ?_
        refine WP.ior d_X0_earsAt_36 ?_
        refine WP.istore (lv9 := [(4, .int (l4 ||| (shlI 1 l5))), (0, .ref t), (1, .int l1), (2, .int l2), (3, .int l3), (5, .int l5)]) d_X0_earsAt_37 (Nat.le_of_ble_eq_true rfl) rfl ?_
        refine WP.iinc (lv9 := [(5, .int (l5 + 1)), (4, .int (l4 ||| (shlI 1 l5))), (0, .ref t), (1, .int l1), (2, .int l2), (3, .int l3)]) d_X0_earsAt_39 5 rfl ki_1 (Nat.le_of_ble_eq_true rfl) rfl ?_
        refine WP.goto d_X0_earsAt_42 ?_
        refine WP.sub [2, 3, 4, 5, 1, 0] (lv' := [(0, .ref t), (1, .int l1), (2, .int l2), (3, .int l3), (4, .int (l4 ||| (shlI 1 l5))), (5, .int (l5 + 1))]) rfl ?_
        exact ih H K
    · refine WP.icmp_ge_f d_X0_earsAt_12 hc ?_
      cases H
      exact WP.sub [4] rfl K

set_option maxRecDepth 20000 in
set_option maxHeartbeats 4000000 in
theorem ok_X0_earsAt (V : EV) {h : HA} {t : Nat} {l1 : Int32} {l2 : Int32} {l3 : Int32} {r : Int32} (H : X0_earsAt h t l1 l2 l3 = some r) : MG V M_X0_earsAt [.ref t, .int l1, .int l2, .int l3] h (some (.int r)) h := by
  unfold X0_earsAt at H
  obtain ⟨_, H⟩ := oc H
  refine MG.of (lv0 := [(0, .ref t), (1, .int l1), (2, .int l2), (3, .int l3)]) pn_X0 rfl (Nat.le_of_ble_eq_true rfl) ?_
  refine WP.iconst d_X0_earsAt_0 ki_0 ?_
  refine WP.istore (lv9 := [(4, .int 0), (0, .ref t), (1, .int l1), (2, .int l2), (3, .int l3)]) d_X0_earsAt_1 (Nat.le_of_ble_eq_true rfl) rfl ?_
  refine WP.iconst d_X0_earsAt_3 ki_0 ?_
  refine WP.istore (lv9 := [(5, .int 0), (4, .int 0), (0, .ref t), (1, .int l1), (2, .int l2), (3, .int l3)]) d_X0_earsAt_4 (Nat.le_of_ble_eq_true rfl) rfl ?_
  obtain ⟨y7, e6, H⟩ := ob H
  refine WP.sub [2, 3, 4, 5, 1, 0] (lv' := [(0, .ref t), (1, .int l1), (2, .int l2), (3, .int l3), (4, .int 0), (5, .int 0)]) rfl ?_
  refine okl_X0_earsAt_L6 V _ e6 ?_
  refine WP.iload d_X0_earsAt_45 0 rfl ?_
  cases H
  exact WP.ireturn d_X0_earsAt_47 rfl rfl (Nat.le_of_ble_eq_true rfl) (Nat.le_of_ble_eq_true rfl)

set_option maxRecDepth 20000 in
set_option maxHeartbeats 4000000 in
theorem ok_J13_bitCount_95d88 (V : EV) {h : HA} {l0 : Int64} {r : Int32} (H : J13_bitCount_95d88 l0 = some r) : MG V M_J13_bitCount_95d88 [.long l0] h (some (.int r)) h := by
  unfold J13_bitCount_95d88 at H
  refine MG.of (lv0 := [(0, .long l0)]) pn_J13 rfl (Nat.le_of_ble_eq_true rfl) ?_
  refine WP.lload_n d_J13_bitCount_95d88_0 0 rfl ?_
  refine WP.lload_n d_J13_bitCount_95d88_1 0 rfl ?_
  refine WP.iconst d_J13_bitCount_95d88_2 ki_1 ?_
  refine WP.lushr d_J13_bitCount_95d88_3 ?_
  refine WP.ldc2 d_J13_bitCount_95d88_4 wl_J13_314 ?_
  refine WP.land d_J13_bitCount_95d88_7 ?_
  refine WP.lsub d_J13_bitCount_95d88_8 ?_
  refine WP.lstore_n (lv9 := [(0, .long (l0 - ((ushJ l0 1) &&& 6148914691236517205)))]) d_J13_bitCount_95d88_9 (Nat.le_of_ble_eq_true rfl) rfl ?_
  refine WP.lload_n d_J13_bitCount_95d88_10 0 rfl ?_
  refine WP.ldc2 d_J13_bitCount_95d88_11 wl_J13_316 ?_
  refine WP.land d_J13_bitCount_95d88_14 ?_
  refine WP.lload_n d_J13_bitCount_95d88_15 0 rfl ?_
  refine WP.iconst d_J13_bitCount_95d88_16 ki_2 ?_
  refine WP.lushr d_J13_bitCount_95d88_17 ?_
  refine WP.ldc2 d_J13_bitCount_95d88_18 wl_J13_316 ?_
  refine WP.land d_J13_bitCount_95d88_21 ?_
  refine WP.ladd d_J13_bitCount_95d88_22 ?_
  obtain ⟨y1, ey1, H⟩ := ol H
  rw [ey1]
  refine WP.lstore_n (lv9 := [(0, .long y1)]) d_J13_bitCount_95d88_23 (Nat.le_of_ble_eq_true rfl) rfl ?_
  refine WP.lload_n d_J13_bitCount_95d88_24 0 rfl ?_
  refine WP.lload_n d_J13_bitCount_95d88_25 0 rfl ?_
  refine WP.iconst d_J13_bitCount_95d88_26 ki_4 ?_
  refine WP.lushr d_J13_bitCount_95d88_27 ?_
  refine WP.ladd d_J13_bitCount_95d88_28 ?_
  refine WP.ldc2 d_J13_bitCount_95d88_29 wl_J13_318 ?_
  refine WP.land d_J13_bitCount_95d88_32 ?_
  refine WP.lstore_n (lv9 := [(0, .long ((y1 + (ushJ y1 4)) &&& 1085102592571150095))]) d_J13_bitCount_95d88_33 (Nat.le_of_ble_eq_true rfl) rfl ?_
  refine WP.lload_n d_J13_bitCount_95d88_34 0 rfl ?_
  refine WP.lload_n d_J13_bitCount_95d88_35 0 rfl ?_
  refine WP.bipush d_J13_bitCount_95d88_36 kb_8 ?_
  refine WP.lushr d_J13_bitCount_95d88_38 ?_
  refine WP.ladd d_J13_bitCount_95d88_39 ?_
  obtain ⟨y2, ey2, H⟩ := ol H
  rw [ey2]
  refine WP.lstore_n (lv9 := [(0, .long y2)]) d_J13_bitCount_95d88_40 (Nat.le_of_ble_eq_true rfl) rfl ?_
  refine WP.lload_n d_J13_bitCount_95d88_41 0 rfl ?_
  refine WP.lload_n d_J13_bitCount_95d88_42 0 rfl ?_
  refine WP.bipush d_J13_bitCount_95d88_43 kb_16 ?_
  refine WP.lushr d_J13_bitCount_95d88_45 ?_
  refine WP.ladd d_J13_bitCount_95d88_46 ?_
  refine WP.lstore_n (lv9 := [(0, .long (y2 + (ushJ y2 16)))]) d_J13_bitCount_95d88_47 (Nat.le_of_ble_eq_true rfl) rfl ?_
  refine WP.lload_n d_J13_bitCount_95d88_48 0 rfl ?_
  refine WP.lload_n d_J13_bitCount_95d88_49 0 rfl ?_
  refine WP.bipush d_J13_bitCount_95d88_50 kb_32 ?_
  refine WP.lushr d_J13_bitCount_95d88_52 ?_
  refine WP.ladd d_J13_bitCount_95d88_53 ?_
  refine WP.lstore_n (lv9 := [(0, .long ((y2 + (ushJ y2 16)) + (ushJ (y2 + (ushJ y2 16)) 32)))]) d_J13_bitCount_95d88_54 (Nat.le_of_ble_eq_true rfl) rfl ?_
  refine WP.lload_n d_J13_bitCount_95d88_55 0 rfl ?_
  refine WP.l2i d_J13_bitCount_95d88_56 ?_
  refine WP.bipush d_J13_bitCount_95d88_57 kb_127 ?_
  refine WP.iand d_J13_bitCount_95d88_59 ?_
  cases H
  exact WP.ireturn d_J13_bitCount_95d88_60 rfl rfl (Nat.le_of_ble_eq_true rfl) (Nat.le_of_ble_eq_true rfl)

set_option maxRecDepth 20000 in
set_option maxHeartbeats 4000000 in
theorem okl_X0_blind_L8 (V : EV) {vF : Option Value} {hF : HA} {h : HA} {t : Nat} {l1 : Int32} {l2 : Int32} (n : Nat) : ∀ {l3 : Int64} {l5 : Int32} {r3 : Int64}, (H : X0_blind_L8 h t l1 l2 n l3 l5 = some r3) → (K : WP V M_X0_blind 38 [(3, .long r3)] [] h 0 0 vF hF) → WP V M_X0_blind 8 [(0, .ref t), (1, .int l1), (2, .int l2), (3, .long l3), (5, .int l5)] [] h 0 0 vF hF := by
  induction n with
  | zero =>
    intro l3 l5 r3 H K
    rw [X0_blind_L8] at H
    cases H
  | succ n ih =>
    intro l3 l5 r3 H K
    rw [X0_blind_L8] at H
    refine WP.iload d_X0_blind_8 4 rfl ?_
    refine WP.aload_n d_X0_blind_10 0 rfl ?_
    obtain ⟨x2, ex2, H⟩ := ob H
    refine WP.fI d_X0_blind_11 gf_X0_39 (fun _ => rfl) ex2 ?_
    rcases oj H with ⟨hc, H⟩ | ⟨hc, H⟩
    · refine WP.icmp_ge_t d_X0_blind_14 hc ?_
      refine WP.lload_n d_X0_blind_17 3 rfl ?_
      refine WP.aload_n d_X0_blind_18 0 rfl ?_
      refine WP.iload d_X0_blind_19 4 rfl ?_
      refine WP.iload_n d_X0_blind_21 1 rfl ?_
      refine WP.iload_n d_X0_blind_22 2 rfl ?_
      obtain ⟨x4, e3, H⟩ := ob H
      refine WP.cV (c := 1) (As := [.int l5, .int l1, .int l2]) (st := [.long l3]) (st9 := [.long x4, .long l3]) (cl9 := 0) (sl9 := 0) d_X0_blind_23 (ok_X0_audible V e3) tv_X0_audible ti_X0_audible ts_X0_audible lk_X0_132 r_X0_blind_X0_audible kc_X0_audible (kd_X0_audible e3) rfl rfl (Nat.le_of_ble_eq_true rfl) rfl rfl rfl ?_
      refine WP.ldc2 d_X0_blind_26 wl_X0_60 ?_
      refine WP.lxor d_X0_blind_29 ?_
      refine WP.land d_X0_blind_30 ?_
      refine WP.lstore_n (lv9 := [(3, .long (l3 &&& (x4 ^^^ (-1)))), (0, .ref t), (1, .int l1), (2, .int l2), (5, .int l5)]) d_X0_blind_31 (Nat.le_of_ble_eq_true rfl) rfl ?_
      refine WP.iinc (lv9 := [(5, .int (l5 + 1)), (3, .long (l3 &&& (x4 ^^^ (-1)))), (0, .ref t), (1, .int l1), (2, .int l2)]) d_X0_blind_32 4 rfl ki_1 (Nat.le_of_ble_eq_true rfl) rfl ?_
      refine WP.goto d_X0_blind_35 ?_
      refine WP.sub [2, 3, 4, 1, 0] (lv' := [(0, .ref t), (1, .int l1), (2, .int l2), (3, .long (l3 &&& (x4 ^^^ (-1)))), (5, .int (l5 + 1))]) rfl ?_
      exact ih H K
    · refine WP.icmp_ge_f d_X0_blind_14 hc ?_
      cases H
      exact WP.sub [3] rfl K

set_option maxRecDepth 20000 in
set_option maxHeartbeats 4000000 in
theorem ok_X0_blind (V : EV) {h : HA} {t : Nat} {l1 : Int32} {l2 : Int32} {r : Int32} (H : X0_blind h t l1 l2 = some r) : MG V M_X0_blind [.ref t, .int l1, .int l2] h (some (.int r)) h := by
  unfold X0_blind at H
  obtain ⟨_, H⟩ := oc H
  refine MG.of (lv0 := [(0, .ref t), (1, .int l1), (2, .int l2)]) pn_X0 rfl (Nat.le_of_ble_eq_true rfl) ?_
  refine WP.aload_n d_X0_blind_0 0 rfl ?_
  obtain ⟨x1, ex1, H⟩ := ob H
  refine WP.fJ d_X0_blind_1 gf_X0_66 (fun _ => rfl) ex1 ?_
  refine WP.lstore_n (lv9 := [(3, .long x1), (0, .ref t), (1, .int l1), (2, .int l2)]) d_X0_blind_4 (Nat.le_of_ble_eq_true rfl) rfl ?_
  refine WP.iconst d_X0_blind_5 ki_0 ?_
  refine WP.istore (lv9 := [(5, .int 0), (3, .long x1), (0, .ref t), (1, .int l1), (2, .int l2)]) d_X0_blind_6 (Nat.le_of_ble_eq_true rfl) rfl ?_
  obtain ⟨y6, e5, H⟩ := ob H
  refine WP.sub [2, 3, 4, 1, 0] (lv' := [(0, .ref t), (1, .int l1), (2, .int l2), (3, .long x1), (5, .int 0)]) rfl ?_
  refine okl_X0_blind_L8 V _ e5 ?_
  refine WP.lload_n d_X0_blind_38 0 rfl ?_
  obtain ⟨x8, e7, H⟩ := ob H
  refine WP.cS (As := [.long y6]) (st := []) (st9 := [.int x8]) (cl9 := 0) (sl9 := 0) d_X0_blind_39 (ok_J13_bitCount_95d88 V (h := h) e7) tv_J13_bitCount_95d88 ts_J13_bitCount_95d88 lk_X0_135 r_X0_blind_J13_bitCount_95d88 rfl rfl (Nat.le_of_ble_eq_true rfl) rfl rfl rfl ?_
  cases H
  exact WP.ireturn d_X0_blind_42 rfl rfl (Nat.le_of_ble_eq_true rfl) (Nat.le_of_ble_eq_true rfl)

set_option maxRecDepth 20000 in
set_option maxHeartbeats 4000000 in
theorem okl_X0_quarter_L4 (V : EV) {vF : Option Value} {hF : HA} {h : HA} {t : Nat} (n : Nat) : ∀ {l1 : Int32} {l2 : Int32} {r1 : Int32}, (H : X0_quarter_L4 h t n l1 l2 = some r1) → (K : WP V M_X0_quarter 32 [(1, .int r1)] [] h 0 0 vF hF) → WP V M_X0_quarter 4 [(0, .ref t), (1, .int l1), (2, .int l2)] [] h 0 0 vF hF := by
  induction n with
  | zero =>
    intro l1 l2 r1 H K
    rw [X0_quarter_L4] at H
    cases H
  | succ n ih =>
    intro l1 l2 r1 H K
    rw [X0_quarter_L4] at H
    refine WP.iload_n d_X0_quarter_4 2 rfl ?_
    refine WP.iconst d_X0_quarter_5 ki_4 ?_
    rcases oj H with ⟨hc, H⟩ | ⟨hc, H⟩
    · refine WP.icmp_ge_t d_X0_quarter_6 hc ?_
      refine WP.aload_n d_X0_quarter_9 0 rfl ?_
      refine WP.iload_n d_X0_quarter_10 2 rfl ?_
      refine WP.iconst d_X0_quarter_11 ki_0 ?_
      obtain ⟨x2, e1, H⟩ := ob H
      refine WP.cV (c := 1) (As := [.int l2, .int 0]) (st := []) (st9 := [.int x2]) (cl9 := 0) (sl9 := 0) d_X0_quarter_12 (ok_X0_blind V e1) tv_X0_blind ti_X0_blind ts_X0_blind lk_X0_138 r_X0_quarter_X0_blind kc_X0_blind (kd_X0_blind e1) rfl rfl (Nat.le_of_ble_eq_true rfl) rfl rfl rfl ?_
      refine WP.aload_n d_X0_quarter_15 0 rfl ?_
      refine WP.iload_n d_X0_quarter_16 1 rfl ?_
      refine WP.iconst d_X0_quarter_17 ki_0 ?_
      obtain ⟨x4, e3, H⟩ := ob H
      refine WP.cV (c := 1) (As := [.int l1, .int 0]) (st := [.int x2]) (st9 := [.int x4, .int x2]) (cl9 := 0) (sl9 := 0) d_X0_quarter_18 (ok_X0_blind V e3) tv_X0_blind ti_X0_blind ts_X0_blind lk_X0_138 r_X0_quarter_X0_blind kc_X0_blind (kd_X0_blind e3) rfl rfl (Nat.le_of_ble_eq_true rfl) rfl rfl rfl ?_
      rcases oj H with ⟨hc, H⟩ | ⟨hc, H⟩
      · refine WP.icmp_ge_t d_X0_quarter_21 hc ?_
        refine WP.iload_n d_X0_quarter_24 2 rfl ?_
        refine WP.istore_n (lv9 := [(1, .int l2), (0, .ref t), (2, .int l2)]) d_X0_quarter_25 (Nat.le_of_ble_eq_true rfl) rfl ?_
        refine WP.iinc (lv9 := [(2, .int (l2 + 1)), (1, .int l2), (0, .ref t)]) d_X0_quarter_26 2 rfl ki_1 (Nat.le_of_ble_eq_true rfl) rfl ?_
        refine WP.goto d_X0_quarter_29 ?_
        refine WP.sub [2, 1, 0] (lv' := [(0, .ref t), (1, .int l2), (2, .int (l2 + 1))]) rfl ?_
        exact ih H K
      · refine WP.icmp_ge_f d_X0_quarter_21 hc ?_
        refine WP.iinc (lv9 := [(2, .int (l2 + 1)), (0, .ref t), (1, .int l1)]) d_X0_quarter_26 2 rfl ki_1 (Nat.le_of_ble_eq_true rfl) rfl ?_
        refine WP.goto d_X0_quarter_29 ?_
        refine WP.sub [1, 2, 0] (lv' := [(0, .ref t), (1, .int l1), (2, .int (l2 + 1))]) rfl ?_
        exact ih H K
    · refine WP.icmp_ge_f d_X0_quarter_6 hc ?_
      cases H
      exact WP.sub [1] rfl K

set_option maxRecDepth 20000 in
set_option maxHeartbeats 4000000 in
theorem ok_X0_quarter (V : EV) {h : HA} {t : Nat} {r : Int32} (H : X0_quarter h t = some r) : MG V M_X0_quarter [.ref t] h (some (.int r)) h := by
  unfold X0_quarter at H
  obtain ⟨_, H⟩ := oc H
  refine MG.of (lv0 := [(0, .ref t)]) pn_X0 rfl (Nat.le_of_ble_eq_true rfl) ?_
  refine WP.iconst d_X0_quarter_0 ki_0 ?_
  refine WP.istore_n (lv9 := [(1, .int 0), (0, .ref t)]) d_X0_quarter_1 (Nat.le_of_ble_eq_true rfl) rfl ?_
  refine WP.iconst d_X0_quarter_2 ki_1 ?_
  refine WP.istore_n (lv9 := [(2, .int 1), (1, .int 0), (0, .ref t)]) d_X0_quarter_3 (Nat.le_of_ble_eq_true rfl) rfl ?_
  obtain ⟨y6, e5, H⟩ := ob H
  refine WP.sub [2, 1, 0] (lv' := [(0, .ref t), (1, .int 0), (2, .int 1)]) rfl ?_
  refine okl_X0_quarter_L4 V _ e5 ?_
  refine WP.iload_n d_X0_quarter_32 0 rfl ?_
  cases H
  exact WP.ireturn d_X0_quarter_33 rfl rfl (Nat.le_of_ble_eq_true rfl) (Nat.le_of_ble_eq_true rfl)

set_option maxRecDepth 20000 in
set_option maxHeartbeats 4000000 in
theorem ok_X2_at (V : EV) {h : HA} {t : Nat} {l1 : Int32} {l2 : Int32} {r : Int32} (H : X2_at h t l1 l2 = some r) : MG V M_X2_at [.ref t, .int l1, .int l2] h (some (.int r)) h := by
  unfold X2_at at H
  obtain ⟨_, H⟩ := oc H
  refine MG.of (lv0 := [(0, .ref t), (1, .int l1), (2, .int l2)]) pn_X2 rfl (Nat.le_of_ble_eq_true rfl) ?_
  refine WP.aload_n d_X2_at_0 0 rfl ?_
  obtain ⟨x1, ex1, H⟩ := ob H
  refine WP.fR d_X2_at_1 gf_X2_15 (fun _ => rfl) ex1 ?_
  refine WP.iload_n d_X2_at_4 1 rfl ?_
  refine WP.aload_n d_X2_at_5 0 rfl ?_
  obtain ⟨x2, ex2, H⟩ := ob H
  refine WP.fI d_X2_at_6 gf_X2_9 (fun _ => rfl) ex2 ?_
  refine WP.imul d_X2_at_9 ?_
  refine WP.iload_n d_X2_at_10 2 rfl ?_
  refine WP.iadd d_X2_at_11 ?_
  obtain ⟨x3, ex3, H⟩ := ob H
  refine WP.iald d_X2_at_12 ex3 ?_
  cases H
  exact WP.ireturn d_X2_at_13 rfl rfl (Nat.le_of_ble_eq_true rfl) (Nat.le_of_ble_eq_true rfl)

set_option maxRecDepth 20000 in
set_option maxHeartbeats 4000000 in
theorem ok_J6_bitCount_0f7a4 (V : EV) {h : HA} {l0 : Int32} {r : Int32} (H : J6_bitCount_0f7a4 l0 = some r) : MG V M_J6_bitCount_0f7a4 [.int l0] h (some (.int r)) h := by
  unfold J6_bitCount_0f7a4 at H
  refine MG.of (lv0 := [(0, .int l0)]) pn_J6 rfl (Nat.le_of_ble_eq_true rfl) ?_
  refine WP.iload_n d_J6_bitCount_0f7a4_0 0 rfl ?_
  refine WP.iload_n d_J6_bitCount_0f7a4_1 0 rfl ?_
  refine WP.iconst d_J6_bitCount_0f7a4_2 ki_1 ?_
  refine WP.iushr d_J6_bitCount_0f7a4_3 ?_
  refine WP.ldc_w d_J6_bitCount_0f7a4_4 wi_J6_265 ?_
  refine WP.iand d_J6_bitCount_0f7a4_7 ?_
  refine WP.isub d_J6_bitCount_0f7a4_8 ?_
  refine WP.istore_n (lv9 := [(0, .int (l0 - ((ushI l0 1) &&& 1431655765)))]) d_J6_bitCount_0f7a4_9 (Nat.le_of_ble_eq_true rfl) rfl ?_
  refine WP.iload_n d_J6_bitCount_0f7a4_10 0 rfl ?_
  refine WP.ldc_w d_J6_bitCount_0f7a4_11 wi_J6_266 ?_
  refine WP.iand d_J6_bitCount_0f7a4_14 ?_
  refine WP.iload_n d_J6_bitCount_0f7a4_15 0 rfl ?_
  refine WP.iconst d_J6_bitCount_0f7a4_16 ki_2 ?_
  refine WP.iushr d_J6_bitCount_0f7a4_17 ?_
  refine WP.ldc_w d_J6_bitCount_0f7a4_18 wi_J6_266 ?_
  refine WP.iand d_J6_bitCount_0f7a4_21 ?_
  refine WP.iadd d_J6_bitCount_0f7a4_22 ?_
  obtain ⟨y1, ey1, H⟩ := ol H
  rw [ey1]
  refine WP.istore_n (lv9 := [(0, .int y1)]) d_J6_bitCount_0f7a4_23 (Nat.le_of_ble_eq_true rfl) rfl ?_
  refine WP.iload_n d_J6_bitCount_0f7a4_24 0 rfl ?_
  refine WP.iload_n d_J6_bitCount_0f7a4_25 0 rfl ?_
  refine WP.iconst d_J6_bitCount_0f7a4_26 ki_4 ?_
  refine WP.iushr d_J6_bitCount_0f7a4_27 ?_
  refine WP.iadd d_J6_bitCount_0f7a4_28 ?_
  refine WP.ldc_w d_J6_bitCount_0f7a4_29 wi_J6_267 ?_
  refine WP.iand d_J6_bitCount_0f7a4_32 ?_
  refine WP.istore_n (lv9 := [(0, .int ((y1 + (ushI y1 4)) &&& 252645135))]) d_J6_bitCount_0f7a4_33 (Nat.le_of_ble_eq_true rfl) rfl ?_
  refine WP.iload_n d_J6_bitCount_0f7a4_34 0 rfl ?_
  refine WP.iload_n d_J6_bitCount_0f7a4_35 0 rfl ?_
  refine WP.bipush d_J6_bitCount_0f7a4_36 kb_8 ?_
  refine WP.iushr d_J6_bitCount_0f7a4_38 ?_
  refine WP.iadd d_J6_bitCount_0f7a4_39 ?_
  refine WP.istore_n (lv9 := [(0, .int (((y1 + (ushI y1 4)) &&& 252645135) + (ushI ((y1 + (ushI y1 4)) &&& 252645135) 8)))]) d_J6_bitCount_0f7a4_40 (Nat.le_of_ble_eq_true rfl) rfl ?_
  refine WP.iload_n d_J6_bitCount_0f7a4_41 0 rfl ?_
  refine WP.iload_n d_J6_bitCount_0f7a4_42 0 rfl ?_
  refine WP.bipush d_J6_bitCount_0f7a4_43 kb_16 ?_
  refine WP.iushr d_J6_bitCount_0f7a4_45 ?_
  refine WP.iadd d_J6_bitCount_0f7a4_46 ?_
  obtain ⟨y2, ey2, H⟩ := ol H
  rw [ey2]
  refine WP.istore_n (lv9 := [(0, .int y2)]) d_J6_bitCount_0f7a4_47 (Nat.le_of_ble_eq_true rfl) rfl ?_
  refine WP.iload_n d_J6_bitCount_0f7a4_48 0 rfl ?_
  refine WP.bipush d_J6_bitCount_0f7a4_49 kb_63 ?_
  refine WP.iand d_J6_bitCount_0f7a4_51 ?_
  cases H
  exact WP.ireturn d_J6_bitCount_0f7a4_52 rfl rfl (Nat.le_of_ble_eq_true rfl) (Nat.le_of_ble_eq_true rfl)

set_option maxRecDepth 20000 in
set_option maxHeartbeats 4000000 in
theorem ok_X2_init (V : EV) {h : HA} {t : Nat} {l1 : Int32} {l2 : Int32} {hR : HA} (H : X2_init h t l1 l2 = some hR) : MG V M_X2_init [.ref t, .int l1, .int l2] h none hR := by
  unfold X2_init at H
  obtain ⟨_, H⟩ := oc H
  refine MG.of (lv0 := [(0, .ref t), (1, .int l1), (2, .int l2)]) pn_X2 rfl (Nat.le_of_ble_eq_true rfl) ?_
  refine WP.aload_n d_X2_init_0 0 rfl ?_
  refine WP.objInit d_X2_init_1 lk_X2_3 w_oi_inst w_oi_code (Nat.le_of_ble_eq_true rfl) (Nat.le_of_ble_eq_true rfl) ?_
  refine WP.aload_n d_X2_init_4 0 rfl ?_
  refine WP.iload_n d_X2_init_5 2 rfl ?_
  obtain ⟨h1, eh1, H⟩ := ob H
  refine WP.vI d_X2_init_6 gf_X2_9 rfl rfl rfl (Or.inl rfl) rfl rfl eh1 ?_
  refine WP.aload_n d_X2_init_9 0 rfl ?_
  refine WP.iload_n d_X2_init_10 1 rfl ?_
  refine WP.iload_n d_X2_init_11 2 rfl ?_
  refine WP.imul d_X2_init_12 ?_
  obtain ⟨h2, eh2, H⟩ := ob H
  refine WP.newarr (c := 20) d_X2_init_13 (Nat.le_of_ble_eq_true rfl) (Nat.le_of_ble_eq_true rfl) rfl wa_int eh2 (Nat.le_of_ble_eq_true rfl) fc_20 (Nat.le_of_ble_eq_true rfl) (Nat.le_of_ble_eq_true rfl) newa_20 ?_
  refine WP.cs (cl9 := 1) (sl9 := 120) rfl rfl ?_
  obtain ⟨h3, eh3, H⟩ := ob H
  refine WP.vR d_X2_init_15 gf_X2_15 rfl rfl rfl (x := (some (hz h1))) (fun _ => rfl) rfl rfl eh3 ?_
  cases H
  exact WP.return_ d_X2_init_18 rfl (Nat.le_of_ble_eq_true rfl) (Nat.le_of_ble_eq_true rfl)

set_option maxRecDepth 20000 in
set_option maxHeartbeats 4000000 in
theorem ok_X2_ofSort (V : EV) {h : HA} {l0 : Int32} {r : Nat} {hR : HA} (H : X2_ofSort h l0 = some (r, hR)) : MG V M_X2_ofSort [.int l0] h (some (.ref r)) hR := by
  unfold X2_ofSort at H
  refine MG.of (lv0 := [(0, .int l0)]) pn_X2 rfl (Nat.le_of_ble_eq_true rfl) ?_
  refine WP.iload_n d_X2_ofSort_0 0 rfl ?_
  refine WP.iconst d_X2_ofSort_1 ki_1 ?_
  rcases oj H with ⟨hc, H⟩ | ⟨hc, H⟩
  · refine WP.icmp_ne_t d_X2_ofSort_2 hc ?_
    obtain ⟨h1, eh1, H⟩ := ol H
    refine WP.new (c := 3) d_X2_ofSort_5 (Nat.le_of_ble_eq_true rfl) (Nat.le_of_ble_eq_true rfl) wc_X2_10 wn_3 wz_X2 (Nat.le_of_ble_eq_true rfl) (Nat.le_of_ble_eq_true rfl) (by intro k hk; exact newd_3 k hk) ?_
    rw [eh1]
    refine WP.cs (cl9 := 1) (sl9 := 3) rfl rfl ?_
    refine WP.dup d_X2_ofSort_8 rfl ?_
    refine WP.bipush d_X2_ofSort_9 kb_30 ?_
    refine WP.iconst d_X2_ofSort_11 ki_4 ?_
    obtain ⟨h3, e2, H⟩ := ob H
    refine WP.cI (As := [.int 30, .int 4]) (st := [.ref (hz h)]) (cl9 := 2) (sl9 := 123) d_X2_ofSort_12 (ok_X2_init V e2) tv_X2_init ti_X2_init rfl rfl lk_X2_19 ⟨Nat.le_of_ble_eq_true rfl, Nat.le_of_ble_eq_true rfl, Nat.le_of_ble_eq_true rfl, Nat.le_of_ble_eq_true rfl⟩ rfl rfl (Nat.le_of_ble_eq_true rfl) rfl rfl ?_
    cases H
    exact WP.areturn (x := (some (hz h))) d_X2_ofSort_15 rfl (Nat.le_of_ble_eq_true rfl) (Nat.le_of_ble_eq_true rfl)
  · refine WP.icmp_ne_f d_X2_ofSort_2 hc ?_
    refine WP.iload_n d_X2_ofSort_16 0 rfl ?_
    refine WP.iconst d_X2_ofSort_17 ki_2 ?_
    rcases oj H with ⟨hc, H⟩ | ⟨hc, H⟩
    · refine WP.icmp_ne_t d_X2_ofSort_18 hc ?_
      obtain ⟨h4, eh4, H⟩ := ol H
      refine WP.new (c := 3) d_X2_ofSort_21 (Nat.le_of_ble_eq_true rfl) (Nat.le_of_ble_eq_true rfl) wc_X2_10 wn_3 wz_X2 (Nat.le_of_ble_eq_true rfl) (Nat.le_of_ble_eq_true rfl) (by intro k hk; exact newd_3 k hk) ?_
      rw [eh4]
      refine WP.cs (cl9 := 1) (sl9 := 3) rfl rfl ?_
      refine WP.dup d_X2_ofSort_24 rfl ?_
      refine WP.bipush d_X2_ofSort_25 kb_8 ?_
      refine WP.iconst d_X2_ofSort_27 ki_3 ?_
      obtain ⟨h6, e5, H⟩ := ob H
      refine WP.cI (As := [.int 8, .int 3]) (st := [.ref (hz h)]) (cl9 := 2) (sl9 := 123) d_X2_ofSort_28 (ok_X2_init V e5) tv_X2_init ti_X2_init rfl rfl lk_X2_19 ⟨Nat.le_of_ble_eq_true rfl, Nat.le_of_ble_eq_true rfl, Nat.le_of_ble_eq_true rfl, Nat.le_of_ble_eq_true rfl⟩ rfl rfl (Nat.le_of_ble_eq_true rfl) rfl rfl ?_
      refine WP.goto d_X2_ofSort_31 ?_
      cases H
      exact WP.areturn (x := (some (hz h))) d_X2_ofSort_44 rfl (Nat.le_of_ble_eq_true rfl) (Nat.le_of_ble_eq_true rfl)
    · refine WP.icmp_ne_f d_X2_ofSort_18 hc ?_
      obtain ⟨h7, eh7, H⟩ := ol H
      refine WP.new (c := 3) d_X2_ofSort_34 (Nat.le_of_ble_eq_true rfl) (Nat.le_of_ble_eq_true rfl) wc_X2_10 wn_3 wz_X2 (Nat.le_of_ble_eq_true rfl) (Nat.le_of_ble_eq_true rfl) (by intro k hk; exact newd_3 k hk) ?_
      rw [eh7]
      refine WP.cs (cl9 := 1) (sl9 := 3) rfl rfl ?_
      refine WP.dup d_X2_ofSort_37 rfl ?_
      refine WP.bipush d_X2_ofSort_38 kb_12 ?_
      refine WP.iconst d_X2_ofSort_40 ki_2 ?_
      obtain ⟨h9, e8, H⟩ := ob H
      refine WP.cI (As := [.int 12, .int 2]) (st := [.ref (hz h)]) (cl9 := 2) (sl9 := 123) d_X2_ofSort_41 (ok_X2_init V e8) tv_X2_init ti_X2_init rfl rfl lk_X2_19 ⟨Nat.le_of_ble_eq_true rfl, Nat.le_of_ble_eq_true rfl, Nat.le_of_ble_eq_true rfl, Nat.le_of_ble_eq_true rfl⟩ rfl rfl (Nat.le_of_ble_eq_true rfl) rfl rfl ?_
      cases H
      exact WP.areturn (x := (some (hz h))) d_X2_ofSort_44 rfl (Nat.le_of_ble_eq_true rfl) (Nat.le_of_ble_eq_true rfl)

set_option maxRecDepth 20000 in
set_option maxHeartbeats 4000000 in
theorem ok_X2_isFull (V : EV) {h : HA} {t : Nat} {r : Int32} (H : X2_isFull h t = some r) : MG V M_X2_isFull [.ref t] h (some (.int r)) h := by
  unfold X2_isFull at H
  obtain ⟨_, H⟩ := oc H
  refine MG.of (lv0 := [(0, .ref t)]) pn_X2 rfl (Nat.le_of_ble_eq_true rfl) ?_
  refine WP.aload_n d_X2_isFull_0 0 rfl ?_
  obtain ⟨x1, ex1, H⟩ := ob H
  refine WP.fI d_X2_isFull_1 gf_X2_22 (fun _ => rfl) ex1 ?_
  refine WP.iconst d_X2_isFull_4 ki_1 ?_
  refine WP.iadd d_X2_isFull_5 ?_
  refine WP.aload_n d_X2_isFull_6 0 rfl ?_
  obtain ⟨x2, ex2, H⟩ := ob H
  refine WP.fI d_X2_isFull_7 gf_X2_9 (fun _ => rfl) ex2 ?_
  refine WP.imul d_X2_isFull_10 ?_
  refine WP.aload_n d_X2_isFull_11 0 rfl ?_
  obtain ⟨x3, ex3, H⟩ := ob H
  refine WP.fR d_X2_isFull_12 gf_X2_15 (fun _ => rfl) ex3 ?_
  obtain ⟨x4, ex4, H⟩ := ob H
  refine WP.alen d_X2_isFull_15 ex4 ?_
  rcases oj H with ⟨hc, H⟩ | ⟨hc, H⟩
  · refine WP.icmp_le_t d_X2_isFull_16 hc ?_
    refine WP.iconst d_X2_isFull_19 ki_1 ?_
    refine WP.goto d_X2_isFull_20 ?_
    cases H
    exact WP.ireturn d_X2_isFull_24 rfl rfl (Nat.le_of_ble_eq_true rfl) (Nat.le_of_ble_eq_true rfl)
  · refine WP.icmp_le_f d_X2_isFull_16 hc ?_
    refine WP.iconst d_X2_isFull_23 ki_0 ?_
    cases H
    exact WP.ireturn d_X2_isFull_24 rfl rfl (Nat.le_of_ble_eq_true rfl) (Nat.le_of_ble_eq_true rfl)

set_option maxRecDepth 20000 in
set_option maxHeartbeats 4000000 in
theorem ok_X2_put (V : EV) {h : HA} {t : Nat} {l1 : Int32} {l2 : Int32} {hR : HA} (H : X2_put h t l1 l2 = some hR) : MG V M_X2_put [.ref t, .int l1, .int l2] h none hR := by
  unfold X2_put at H
  obtain ⟨_, H⟩ := oc H
  refine MG.of (lv0 := [(0, .ref t), (1, .int l1), (2, .int l2)]) pn_X2 rfl (Nat.le_of_ble_eq_true rfl) ?_
  refine WP.aload_n d_X2_put_0 0 rfl ?_
  obtain ⟨x1, ex1, H⟩ := ob H
  refine WP.fR d_X2_put_1 gf_X2_15 (fun _ => rfl) ex1 ?_
  refine WP.aload_n d_X2_put_4 0 rfl ?_
  obtain ⟨x2, ex2, H⟩ := ob H
  refine WP.fI d_X2_put_5 gf_X2_22 (fun _ => rfl) ex2 ?_
  refine WP.aload_n d_X2_put_8 0 rfl ?_
  obtain ⟨x3, ex3, H⟩ := ob H
  refine WP.fI d_X2_put_9 gf_X2_9 (fun _ => rfl) ex3 ?_
  refine WP.imul d_X2_put_12 ?_
  refine WP.iload_n d_X2_put_13 1 rfl ?_
  refine WP.iadd d_X2_put_14 ?_
  refine WP.iload_n d_X2_put_15 2 rfl ?_
  obtain ⟨h4, eh4, H⟩ := ob H
  refine WP.ias d_X2_put_16 eh4 ?_
  cases H
  exact WP.return_ d_X2_put_17 rfl (Nat.le_of_ble_eq_true rfl) (Nat.le_of_ble_eq_true rfl)

set_option maxRecDepth 20000 in
set_option maxHeartbeats 4000000 in
theorem ok_X2_copyFrom (V : EV) {h : HA} {t : Nat} {l1 : Nat} {hR : HA} (H : X2_copyFrom h t l1 = some hR) : MG V M_X2_copyFrom [.ref t, .ref l1] h none hR := by
  unfold X2_copyFrom at H
  obtain ⟨_, H⟩ := oc H
  refine MG.of (lv0 := [(0, .ref t), (1, .ref l1)]) pn_X2 rfl (Nat.le_of_ble_eq_true rfl) ?_
  refine WP.aload_n d_X2_copyFrom_0 0 rfl ?_
  refine WP.aload_n d_X2_copyFrom_1 1 rfl ?_
  obtain ⟨x1, ex1, H⟩ := ob H
  refine WP.fI d_X2_copyFrom_2 gf_X2_22 (fun _ => rfl) ex1 ?_
  obtain ⟨h2, eh2, H⟩ := ob H
  refine WP.uI d_X2_copyFrom_5 gf_X2_22 rfl (Or.inl rfl) rfl rfl eh2 ?_
  refine WP.aload_n d_X2_copyFrom_8 1 rfl ?_
  obtain ⟨x3, ex3, H⟩ := ob H
  refine WP.fR d_X2_copyFrom_9 gf_X2_15 (fun _ => rfl) ex3 ?_
  refine WP.iconst d_X2_copyFrom_12 ki_0 ?_
  refine WP.aload_n d_X2_copyFrom_13 0 rfl ?_
  obtain ⟨x4, ex4, H⟩ := ob H
  refine WP.fR d_X2_copyFrom_14 gf_X2_15 (fun _ => rfl) ex4 ?_
  refine WP.iconst d_X2_copyFrom_17 ki_0 ?_
  refine WP.aload_n d_X2_copyFrom_18 0 rfl ?_
  obtain ⟨x5, ex5, H⟩ := ob H
  refine WP.fI d_X2_copyFrom_19 gf_X2_22 (fun _ => rfl) ex5 ?_
  refine WP.aload_n d_X2_copyFrom_22 0 rfl ?_
  obtain ⟨x6, ex6, H⟩ := ob H
  refine WP.fI d_X2_copyFrom_23 gf_X2_9 (fun _ => rfl) ex6 ?_
  refine WP.imul d_X2_copyFrom_26 ?_
  obtain ⟨h7, eh7, H⟩ := ob H
  refine WP.copy d_X2_copyFrom_27 (by decide) lk_X2_25 w_ac_nat w_ac_stat w_ac_init eh7 (Nat.le_of_ble_eq_true rfl) (Nat.le_of_ble_eq_true rfl) ?_
  cases H
  exact WP.return_ d_X2_copyFrom_30 rfl (Nat.le_of_ble_eq_true rfl) (Nat.le_of_ble_eq_true rfl)

set_option maxRecDepth 20000 in
set_option maxHeartbeats 4000000 in
theorem okl_J7_fill_d0a16_L6 (V : EV) {vF : Option Value} {hF : HA} {l0 : Nat} {l1 : Int64} {l4 : Int32} (n : Nat) : ∀ {h : HA} {l3 : Int32} {hR : HA}, (H : J7_fill_d0a16_L6 l0 l1 l4 n h l3 = some hR) → (K : WP V M_J7_fill_d0a16 22 [] [] hR 0 0 vF hF) → WP V M_J7_fill_d0a16 6 [(0, .ref l0), (1, .long l1), (3, .int l3), (4, .int l4)] [] h 0 0 vF hF := by
  induction n with
  | zero =>
    intro h l3 hR H K
    rw [J7_fill_d0a16_L6] at H
    cases H
  | succ n ih =>
    intro h l3 hR H K
    rw [J7_fill_d0a16_L6] at H
    refine WP.iload_n d_J7_fill_d0a16_6 2 rfl ?_
    refine WP.iload d_J7_fill_d0a16_7 3 rfl ?_
    rcases oj H with ⟨hc, H⟩ | ⟨hc, H⟩
    · refine WP.icmp_ge_t d_J7_fill_d0a16_9 hc ?_
      refine WP.aload_n d_J7_fill_d0a16_12 0 rfl ?_
      refine WP.iload_n d_J7_fill_d0a16_13 2 rfl ?_
      refine WP.lload_n d_J7_fill_d0a16_14 1 rfl ?_
      obtain ⟨h2, eh2, H⟩ := ob H
      refine WP.las d_J7_fill_d0a16_15 eh2 ?_
      refine WP.iinc (lv9 := [(3, .int (l3 + 1)), (0, .ref l0), (1, .long l1), (4, .int l4)]) d_J7_fill_d0a16_16 2 rfl ki_1 (Nat.le_of_ble_eq_true rfl) rfl ?_
      refine WP.goto d_J7_fill_d0a16_19 ?_
      refine WP.sub [1, 2, 0, 3] (lv' := [(0, .ref l0), (1, .long l1), (3, .int (l3 + 1)), (4, .int l4)]) rfl ?_
      exact ih H K
    · refine WP.icmp_ge_f d_J7_fill_d0a16_9 hc ?_
      cases H
      exact WP.sub [] rfl K

set_option maxRecDepth 20000 in
set_option maxHeartbeats 4000000 in
theorem ok_J7_fill_d0a16 (V : EV) {h : HA} {l0 : Nat} {l1 : Int64} {hR : HA} (H : J7_fill_d0a16 h l0 l1 = some hR) : MG V M_J7_fill_d0a16 [.ref l0, .long l1] h none hR := by
  unfold J7_fill_d0a16 at H
  refine MG.of (lv0 := [(0, .ref l0), (1, .long l1)]) pn_J7 rfl (Nat.le_of_ble_eq_true rfl) ?_
  refine WP.iconst d_J7_fill_d0a16_0 ki_0 ?_
  refine WP.istore_n (lv9 := [(3, .int 0), (0, .ref l0), (1, .long l1)]) d_J7_fill_d0a16_1 (Nat.le_of_ble_eq_true rfl) rfl ?_
  refine WP.aload_n d_J7_fill_d0a16_2 1 rfl ?_
  obtain ⟨x1, ex1, H⟩ := ob H
  refine WP.alen d_J7_fill_d0a16_3 ex1 ?_
  refine WP.istore (lv9 := [(4, .int x1), (3, .int 0), (0, .ref l0), (1, .long l1)]) d_J7_fill_d0a16_4 (Nat.le_of_ble_eq_true rfl) rfl ?_
  obtain ⟨h4, e3, H⟩ := ob H
  refine WP.sub [2, 3, 1, 0] (lv' := [(0, .ref l0), (1, .long l1), (3, .int 0), (4, .int x1)]) rfl ?_
  refine okl_J7_fill_d0a16_L6 V _ e3 ?_
  cases H
  exact WP.return_ d_J7_fill_d0a16_22 rfl (Nat.le_of_ble_eq_true rfl) (Nat.le_of_ble_eq_true rfl)

set_option maxRecDepth 20000 in
set_option maxHeartbeats 4000000 in
theorem ok_J7_rangeCheck_23922 (V : EV) {h : HA} {l0 : Int32} {l1 : Int32} {l2 : Int32} (H : J7_rangeCheck_23922 l0 l1 l2 = some ()) : MG V M_J7_rangeCheck_23922 [.int l0, .int l1, .int l2] h none h := by
  unfold J7_rangeCheck_23922 at H
  refine MG.of (lv0 := [(0, .int l0), (1, .int l1), (2, .int l2)]) pn_J7 rfl (Nat.le_of_ble_eq_true rfl) ?_
  refine WP.iload_n d_J7_rangeCheck_23922_0 1 rfl ?_
  refine WP.iload_n d_J7_rangeCheck_23922_1 2 rfl ?_
  rcases oj H with ⟨hc, H⟩ | ⟨hc, H⟩
  · refine WP.icmp_le_t d_J7_rangeCheck_23922_2 hc ?_
    cases H
  · refine WP.icmp_le_f d_J7_rangeCheck_23922_2 hc ?_
    refine WP.iload_n d_J7_rangeCheck_23922_46 1 rfl ?_
    rcases oj H with ⟨hc, H⟩ | ⟨hc, H⟩
    · refine WP.if_ge_t d_J7_rangeCheck_23922_47 hc ?_
      cases H
    · refine WP.if_ge_f d_J7_rangeCheck_23922_47 hc ?_
      refine WP.iload_n d_J7_rangeCheck_23922_59 2 rfl ?_
      refine WP.iload_n d_J7_rangeCheck_23922_60 0 rfl ?_
      rcases oj H with ⟨hc, H⟩ | ⟨hc, H⟩
      · refine WP.icmp_le_t d_J7_rangeCheck_23922_61 hc ?_
        cases H
      · refine WP.icmp_le_f d_J7_rangeCheck_23922_61 hc ?_
        cases H
        exact WP.return_ d_J7_rangeCheck_23922_73 rfl (Nat.le_of_ble_eq_true rfl) (Nat.le_of_ble_eq_true rfl)

set_option maxRecDepth 20000 in
set_option maxHeartbeats 4000000 in
theorem okl_J7_fill_bad5a_L10 (V : EV) {vF : Option Value} {hF : HA} {l0 : Nat} {l2 : Int32} {l3 : Int64} (n : Nat) : ∀ {h : HA} {l5 : Int32} {hR : HA}, (H : J7_fill_bad5a_L10 l0 l2 l3 n h l5 = some hR) → (K : WP V M_J7_fill_bad5a 27 [] [] hR 0 0 vF hF) → WP V M_J7_fill_bad5a 10 [(0, .ref l0), (2, .int l2), (3, .long l3), (5, .int l5)] [] h 0 0 vF hF := by
  induction n with
  | zero =>
    intro h l5 hR H K
    rw [J7_fill_bad5a_L10] at H
    cases H
  | succ n ih =>
    intro h l5 hR H K
    rw [J7_fill_bad5a_L10] at H
    refine WP.iload d_J7_fill_bad5a_10 3 rfl ?_
    refine WP.iload_n d_J7_fill_bad5a_12 1 rfl ?_
    rcases oj H with ⟨hc, H⟩ | ⟨hc, H⟩
    · refine WP.icmp_ge_t d_J7_fill_bad5a_13 hc ?_
      refine WP.aload_n d_J7_fill_bad5a_16 0 rfl ?_
      refine WP.iload d_J7_fill_bad5a_17 3 rfl ?_
      refine WP.lload_n d_J7_fill_bad5a_19 2 rfl ?_
      obtain ⟨h3, eh3, H⟩ := ob H
      refine WP.las d_J7_fill_bad5a_20 eh3 ?_
      refine WP.iinc (lv9 := [(5, .int (l5 + 1)), (0, .ref l0), (2, .int l2), (3, .long l3)]) d_J7_fill_bad5a_21 3 rfl ki_1 (Nat.le_of_ble_eq_true rfl) rfl ?_
      refine WP.goto d_J7_fill_bad5a_24 ?_
      refine WP.sub [1, 2, 3, 0] (lv' := [(0, .ref l0), (2, .int l2), (3, .long l3), (5, .int (l5 + 1))]) rfl ?_
      exact ih H K
    · refine WP.icmp_ge_f d_J7_fill_bad5a_13 hc ?_
      cases H
      exact WP.sub [] rfl K

set_option maxRecDepth 20000 in
set_option maxHeartbeats 4000000 in
theorem ok_J7_fill_bad5a (V : EV) {h : HA} {l0 : Nat} {l1 : Int32} {l2 : Int32} {l3 : Int64} {hR : HA} (H : J7_fill_bad5a h l0 l1 l2 l3 = some hR) : MG V M_J7_fill_bad5a [.ref l0, .int l1, .int l2, .long l3] h none hR := by
  unfold J7_fill_bad5a at H
  refine MG.of (lv0 := [(0, .ref l0), (1, .int l1), (2, .int l2), (3, .long l3)]) pn_J7 rfl (Nat.le_of_ble_eq_true rfl) ?_
  refine WP.aload_n d_J7_fill_bad5a_0 0 rfl ?_
  obtain ⟨x1, ex1, H⟩ := ob H
  refine WP.alen d_J7_fill_bad5a_1 ex1 ?_
  refine WP.iload_n d_J7_fill_bad5a_2 1 rfl ?_
  refine WP.iload_n d_J7_fill_bad5a_3 2 rfl ?_
  obtain ⟨_, e2, H⟩ := ob H
  refine WP.cS (As := [.int x1, .int l1, .int l2]) (st := []) (st9 := []) (cl9 := 0) (sl9 := 0) d_J7_fill_bad5a_4 (ok_J7_rangeCheck_23922 V (h := h) e2) tv_J7_rangeCheck_23922 ts_J7_rangeCheck_23922 lk_J7_13 r_J7_fill_bad5a_J7_rangeCheck_23922 rfl rfl (Nat.le_of_ble_eq_true rfl) rfl rfl rfl ?_
  refine WP.iload_n d_J7_fill_bad5a_7 1 rfl ?_
  refine WP.istore (lv9 := [(5, .int l1), (0, .ref l0), (1, .int l1), (2, .int l2), (3, .long l3)]) d_J7_fill_bad5a_8 (Nat.le_of_ble_eq_true rfl) rfl ?_
  obtain ⟨h5, e4, H⟩ := ob H
  refine WP.sub [1, 3, 4, 0] (lv' := [(0, .ref l0), (2, .int l2), (3, .long l3), (5, .int l1)]) rfl ?_
  refine okl_J7_fill_bad5a_L10 V _ e4 ?_
  cases H
  exact WP.return_ d_J7_fill_bad5a_27 rfl (Nat.le_of_ble_eq_true rfl) (Nat.le_of_ble_eq_true rfl)
