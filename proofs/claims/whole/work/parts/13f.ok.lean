set_option maxRecDepth 20000 in
set_option maxHeartbeats 4000000 in
theorem ok_X8_faces (V : EV) {h : HA} {t : Nat} {l1 : Int32} {l2 : Int32} {l3 : Int32} {r : Int32} (H : X8_faces h t l1 l2 l3 = some r) : MG V M_X8_faces [.ref t, .int l1, .int l2, .int l3] h (some (.int r)) h := by
  unfold X8_faces at H
  obtain ⟨_, H⟩ := oc H
  refine MG.of (lv0 := [(0, .ref t), (1, .int l1), (2, .int l2), (3, .int l3)]) pn_X8 rfl (Nat.le_of_ble_eq_true rfl) ?_
  refine WP.iload_n d_X8_faces_0 1 rfl ?_
  refine WP.iload_n d_X8_faces_1 3 rfl ?_
  refine WP.iload_n d_X8_faces_2 2 rfl ?_
  refine WP.imul d_X8_faces_3 ?_
  refine WP.iadd d_X8_faces_4 ?_
  refine WP.iconst d_X8_faces_5 ki_4 ?_
  obtain ⟨x1, ex1, H⟩ := ob H
  refine WP.irem d_X8_faces_6 ex1 ?_
  cases H
  exact WP.ireturn d_X8_faces_7 rfl rfl (Nat.le_of_ble_eq_true rfl) (Nat.le_of_ble_eq_true rfl)

set_option maxRecDepth 20000 in
set_option maxHeartbeats 4000000 in
theorem okl_X8_cameFrom_L13 (V : EV) {vF : Option Value} {hF : HA} {h : HA} {t : Nat} {l1 : Int32} {l2 : Int32} (n : Nat) : ∀ {l3 : Int32} {l4 : Int32} {r3 : Int32}, (H : X8_cameFrom_L13 h t l1 l2 n l3 l4 = some r3) → (K : WP V M_X8_cameFrom 69 [(3, .int r3)] [] h 0 0 vF hF) → WP V M_X8_cameFrom 13 [(0, .ref t), (1, .int l1), (2, .int l2), (3, .int l3), (4, .int l4)] [] h 0 0 vF hF := by
  induction n with
  | zero =>
    intro l3 l4 r3 H K
    rw [X8_cameFrom_L13] at H
    cases H
  | succ n ih =>
    intro l3 l4 r3 H K
    rw [X8_cameFrom_L13] at H
    refine WP.iload d_X8_cameFrom_13 4 rfl ?_
    refine WP.iconst d_X8_cameFrom_15 ki_4 ?_
    rcases oj H with ⟨hc, H⟩ | ⟨hc, H⟩
    · refine WP.icmp_ge_t d_X8_cameFrom_16 hc ?_
      refine WP.aload_n d_X8_cameFrom_19 0 rfl ?_
      refine WP.iload_n d_X8_cameFrom_20 1 rfl ?_
      refine WP.iload d_X8_cameFrom_21 4 rfl ?_
      obtain ⟨x2, e1, H⟩ := ob H
      refine WP.cV (c := 9) (As := [.int l1, .int l4]) (st := []) (st9 := [.int x2]) (cl9 := 0) (sl9 := 0) d_X8_cameFrom_23 (ok_X8_stepTo V e1) tv_X8_stepTo ti_X8_stepTo ts_X8_stepTo lk_X8_295 r_X8_cameFrom_X8_stepTo kc_X8_stepTo (kd_X8_stepTo e1) rfl rfl (Nat.le_of_ble_eq_true rfl) rfl rfl rfl ?_
      refine WP.istore (lv9 := [(5, .int x2), (0, .ref t), (1, .int l1), (2, .int l2), (3, .int l3), (4, .int l4)]) d_X8_cameFrom_26 (Nat.le_of_ble_eq_true rfl) rfl ?_
      refine WP.iload_n d_X8_cameFrom_28 4 rfl ?_
      refine WP.iload d_X8_cameFrom_29 0 rfl ?_
      refine WP.iconst d_X8_cameFrom_31 ki_m1 ?_
      rcases oj H with ⟨hc, H⟩ | ⟨hc, H⟩
      · refine WP.icmp_eq_t d_X8_cameFrom_32 hc ?_
        refine WP.iconst d_X8_cameFrom_60 ki_0 ?_
        refine WP.ior d_X8_cameFrom_61 ?_
        refine WP.istore_n (lv9 := [(3, .int (l3 ||| 0)), (5, .int x2), (0, .ref t), (1, .int l1), (2, .int l2), (4, .int l4)]) d_X8_cameFrom_62 (Nat.le_of_ble_eq_true rfl) rfl ?_
        refine WP.iinc (lv9 := [(4, .int (l4 + 1)), (3, .int (l3 ||| 0)), (5, .int x2), (0, .ref t), (1, .int l1), (2, .int l2)]) d_X8_cameFrom_63 5 rfl ki_1 (Nat.le_of_ble_eq_true rfl) rfl ?_
        refine WP.goto d_X8_cameFrom_66 ?_
        refine WP.sub [3, 4, 5, 1, 0] (lv' := [(0, .ref t), (1, .int l1), (2, .int l2), (3, .int (l3 ||| 0)), (4, .int (l4 + 1))]) rfl ?_
        exact ih H K
      · refine WP.icmp_eq_f d_X8_cameFrom_32 hc ?_
        refine WP.aload_n d_X8_cameFrom_35 1 rfl ?_
        refine WP.iload_n d_X8_cameFrom_36 3 rfl ?_
        refine WP.iload d_X8_cameFrom_37 0 rfl ?_
        obtain ⟨x4, e3, H⟩ := ob H
        refine WP.cV (c := 9) (As := [.int l2, .int x2]) (st := [.int l3]) (st9 := [.int x4, .int l3]) (cl9 := 0) (sl9 := 0) d_X8_cameFrom_39 (ok_X8_farOf V e3) tv_X8_farOf ti_X8_farOf ts_X8_farOf lk_X8_298 r_X8_cameFrom_X8_farOf kc_X8_farOf (kd_X8_farOf e3) rfl rfl (Nat.le_of_ble_eq_true rfl) rfl rfl rfl ?_
        refine WP.iconst d_X8_cameFrom_42 ki_1 ?_
        refine WP.iadd d_X8_cameFrom_43 ?_
        refine WP.aload_n d_X8_cameFrom_44 1 rfl ?_
        refine WP.iload_n d_X8_cameFrom_45 3 rfl ?_
        refine WP.iload_n d_X8_cameFrom_46 2 rfl ?_
        obtain ⟨x6, e5, H⟩ := ob H
        refine WP.cV (c := 9) (As := [.int l2, .int l1]) (st := [.int (x4 + 1), .int l3]) (st9 := [.int x6, .int (x4 + 1), .int l3]) (cl9 := 0) (sl9 := 0) d_X8_cameFrom_47 (ok_X8_farOf V e5) tv_X8_farOf ti_X8_farOf ts_X8_farOf lk_X8_298 r_X8_cameFrom_X8_farOf kc_X8_farOf (kd_X8_farOf e5) rfl rfl (Nat.le_of_ble_eq_true rfl) rfl rfl rfl ?_
        rcases oj H with ⟨hc, H⟩ | ⟨hc, H⟩
        · refine WP.icmp_ne_t d_X8_cameFrom_50 hc ?_
          refine WP.iconst d_X8_cameFrom_53 ki_1 ?_
          refine WP.iload d_X8_cameFrom_54 5 rfl ?_
          refine WP.ishl d_X8_cameFrom_56 ?_
          refine WP.goto d_X8_cameFrom_57 ?_
          refine WP.ior d_X8_cameFrom_61 ?_
          refine WP.istore_n (lv9 := [(3, .int (l3 ||| (shlI 1 l4))), (5, .int x2), (0, .ref t), (1, .int l1), (2, .int l2), (4, .int l4)]) d_X8_cameFrom_62 (Nat.le_of_ble_eq_true rfl) rfl ?_
          refine WP.iinc (lv9 := [(4, .int (l4 + 1)), (3, .int (l3 ||| (shlI 1 l4))), (5, .int x2), (0, .ref t), (1, .int l1), (2, .int l2)]) d_X8_cameFrom_63 5 rfl ki_1 (Nat.le_of_ble_eq_true rfl) rfl ?_
          refine WP.goto d_X8_cameFrom_66 ?_
          refine WP.sub [3, 4, 5, 1, 0] (lv' := [(0, .ref t), (1, .int l1), (2, .int l2), (3, .int (l3 ||| (shlI 1 l4))), (4, .int (l4 + 1))]) rfl ?_
          exact ih H K
        · refine WP.icmp_ne_f d_X8_cameFrom_50 hc ?_
          refine WP.iconst d_X8_cameFrom_60 ki_0 ?_
          refine WP.ior d_X8_cameFrom_61 ?_
          refine WP.istore_n (lv9 := [(3, .int (l3 ||| 0)), (5, .int x2), (0, .ref t), (1, .int l1), (2, .int l2), (4, .int l4)]) d_X8_cameFrom_62 (Nat.le_of_ble_eq_true rfl) rfl ?_
          refine WP.iinc (lv9 := [(4, .int (l4 + 1)), (3, .int (l3 ||| 0)), (5, .int x2), (0, .ref t), (1, .int l1), (2, .int l2)]) d_X8_cameFrom_63 5 rfl ki_1 (Nat.le_of_ble_eq_true rfl) rfl ?_
          refine WP.goto d_X8_cameFrom_66 ?_
          refine WP.sub [3, 4, 5, 1, 0] (lv' := [(0, .ref t), (1, .int l1), (2, .int l2), (3, .int (l3 ||| 0)), (4, .int (l4 + 1))]) rfl ?_
          exact ih H K
    · refine WP.icmp_ge_f d_X8_cameFrom_16 hc ?_
      cases H
      exact WP.sub [3] rfl K

set_option maxRecDepth 20000 in
set_option maxHeartbeats 4000000 in
theorem ok_X8_cameFrom (V : EV) {h : HA} {t : Nat} {l1 : Int32} {l2 : Int32} {r : Int32} (H : X8_cameFrom h t l1 l2 = some r) : MG V M_X8_cameFrom [.ref t, .int l1, .int l2] h (some (.int r)) h := by
  unfold X8_cameFrom at H
  obtain ⟨_, H⟩ := oc H
  refine MG.of (lv0 := [(0, .ref t), (1, .int l1), (2, .int l2)]) pn_X8 rfl (Nat.le_of_ble_eq_true rfl) ?_
  refine WP.iload_n d_X8_cameFrom_0 1 rfl ?_
  refine WP.iload_n d_X8_cameFrom_1 2 rfl ?_
  rcases oj H with ⟨hc, H⟩ | ⟨hc, H⟩
  · refine WP.icmp_ne_t d_X8_cameFrom_2 hc ?_
    refine WP.bipush d_X8_cameFrom_5 kb_15 ?_
    cases H
    exact WP.ireturn d_X8_cameFrom_7 rfl rfl (Nat.le_of_ble_eq_true rfl) (Nat.le_of_ble_eq_true rfl)
  · refine WP.icmp_ne_f d_X8_cameFrom_2 hc ?_
    refine WP.iconst d_X8_cameFrom_8 ki_0 ?_
    refine WP.istore_n (lv9 := [(3, .int 0), (0, .ref t), (1, .int l1), (2, .int l2)]) d_X8_cameFrom_9 (Nat.le_of_ble_eq_true rfl) rfl ?_
    refine WP.iconst d_X8_cameFrom_10 ki_0 ?_
    refine WP.istore (lv9 := [(4, .int 0), (3, .int 0), (0, .ref t), (1, .int l1), (2, .int l2)]) d_X8_cameFrom_11 (Nat.le_of_ble_eq_true rfl) rfl ?_
    obtain ⟨y8, e7, H⟩ := ob H
    refine WP.sub [2, 3, 4, 1, 0] (lv' := [(0, .ref t), (1, .int l1), (2, .int l2), (3, .int 0), (4, .int 0)]) rfl ?_
    refine okl_X8_cameFrom_L13 V _ e7 ?_
    refine WP.iload_n d_X8_cameFrom_69 0 rfl ?_
    cases H
    exact WP.ireturn d_X8_cameFrom_70 rfl rfl (Nat.le_of_ble_eq_true rfl) (Nat.le_of_ble_eq_true rfl)

set_option maxRecDepth 20000 in
set_option maxHeartbeats 4000000 in
theorem okl_X8_turned_L4 (V : EV) {vF : Option Value} {hF : HA} {h : HA} {l0 : Int32} {l1 : Int32} (n : Nat) : ∀ {l2 : Int32} {l3 : Int32} {r2 : Int32}, (H : X8_turned_L4 l0 l1 n l2 l3 = some r2) → (K : WP V M_X8_turned 39 [(2, .int r2)] [] h 0 0 vF hF) → WP V M_X8_turned 4 [(0, .int l0), (1, .int l1), (2, .int l2), (3, .int l3)] [] h 0 0 vF hF := by
  induction n with
  | zero =>
    intro l2 l3 r2 H K
    rw [X8_turned_L4] at H
    cases H
  | succ n ih =>
    intro l2 l3 r2 H K
    rw [X8_turned_L4] at H
    refine WP.iload_n d_X8_turned_4 3 rfl ?_
    refine WP.iconst d_X8_turned_5 ki_4 ?_
    rcases oj H with ⟨hc, H⟩ | ⟨hc, H⟩
    · refine WP.icmp_ge_t d_X8_turned_6 hc ?_
      refine WP.iload_n d_X8_turned_9 2 rfl ?_
      refine WP.iload_n d_X8_turned_10 0 rfl ?_
      refine WP.iload_n d_X8_turned_11 3 rfl ?_
      obtain ⟨x2, e1, H⟩ := ob H
      refine WP.cS (As := [.int l0, .int l3]) (st := [.int l2]) (st9 := [.int x2, .int l2]) (cl9 := 0) (sl9 := 0) d_X8_turned_12 (ok_X8_has V (h := h) e1) tv_X8_has ts_X8_has lk_X8_106 r_X8_turned_X8_has rfl rfl (Nat.le_of_ble_eq_true rfl) rfl rfl rfl ?_
      rcases oj H with ⟨hc, H⟩ | ⟨hc, H⟩
      · refine WP.if_eq_t d_X8_turned_15 hc ?_
        refine WP.iconst d_X8_turned_30 ki_0 ?_
        refine WP.ior d_X8_turned_31 ?_
        refine WP.istore_n (lv9 := [(2, .int (l2 ||| 0)), (0, .int l0), (1, .int l1), (3, .int l3)]) d_X8_turned_32 (Nat.le_of_ble_eq_true rfl) rfl ?_
        refine WP.iinc (lv9 := [(3, .int (l3 + 1)), (2, .int (l2 ||| 0)), (0, .int l0), (1, .int l1)]) d_X8_turned_33 3 rfl ki_1 (Nat.le_of_ble_eq_true rfl) rfl ?_
        refine WP.goto d_X8_turned_36 ?_
        refine WP.sub [2, 3, 1, 0] (lv' := [(0, .int l0), (1, .int l1), (2, .int (l2 ||| 0)), (3, .int (l3 + 1))]) rfl ?_
        exact ih H K
      · refine WP.if_eq_f d_X8_turned_15 hc ?_
        refine WP.iconst d_X8_turned_18 ki_1 ?_
        refine WP.iload_n d_X8_turned_19 3 rfl ?_
        refine WP.iload_n d_X8_turned_20 1 rfl ?_
        refine WP.isub d_X8_turned_21 ?_
        refine WP.iconst d_X8_turned_22 ki_4 ?_
        refine WP.iadd d_X8_turned_23 ?_
        refine WP.iconst d_X8_turned_24 ki_4 ?_
        obtain ⟨x3, ex3, H⟩ := ob H
        refine WP.irem d_X8_turned_25 ex3 ?_
        refine WP.ishl d_X8_turned_26 ?_
        refine WP.goto d_X8_turned_27 ?_
        refine WP.ior d_X8_turned_31 ?_
        refine WP.istore_n (lv9 := [(2, .int (l2 ||| (shlI 1 x3))), (0, .int l0), (1, .int l1), (3, .int l3)]) d_X8_turned_32 (Nat.le_of_ble_eq_true rfl) rfl ?_
        refine WP.iinc (lv9 := [(3, .int (l3 + 1)), (2, .int (l2 ||| (shlI 1 x3))), (0, .int l0), (1, .int l1)]) d_X8_turned_33 3 rfl ki_1 (Nat.le_of_ble_eq_true rfl) rfl ?_
        refine WP.goto d_X8_turned_36 ?_
        refine WP.sub [2, 3, 1, 0] (lv' := [(0, .int l0), (1, .int l1), (2, .int (l2 ||| (shlI 1 x3))), (3, .int (l3 + 1))]) rfl ?_
        exact ih H K
    · refine WP.icmp_ge_f d_X8_turned_6 hc ?_
      cases H
      exact WP.sub [2] rfl K

set_option maxRecDepth 20000 in
set_option maxHeartbeats 4000000 in
theorem ok_X8_turned (V : EV) {h : HA} {l0 : Int32} {l1 : Int32} {r : Int32} (H : X8_turned l0 l1 = some r) : MG V M_X8_turned [.int l0, .int l1] h (some (.int r)) h := by
  unfold X8_turned at H
  refine MG.of (lv0 := [(0, .int l0), (1, .int l1)]) pn_X8 rfl (Nat.le_of_ble_eq_true rfl) ?_
  refine WP.iconst d_X8_turned_0 ki_0 ?_
  refine WP.istore_n (lv9 := [(2, .int 0), (0, .int l0), (1, .int l1)]) d_X8_turned_1 (Nat.le_of_ble_eq_true rfl) rfl ?_
  refine WP.iconst d_X8_turned_2 ki_0 ?_
  refine WP.istore_n (lv9 := [(3, .int 0), (2, .int 0), (0, .int l0), (1, .int l1)]) d_X8_turned_3 (Nat.le_of_ble_eq_true rfl) rfl ?_
  obtain ⟨y5, e4, H⟩ := ob H
  refine WP.sub [2, 3, 1, 0] (lv' := [(0, .int l0), (1, .int l1), (2, .int 0), (3, .int 0)]) rfl ?_
  refine okl_X8_turned_L4 V _ e4 ?_
  refine WP.iload_n d_X8_turned_39 0 rfl ?_
  cases H
  exact WP.ireturn d_X8_turned_40 rfl rfl (Nat.le_of_ble_eq_true rfl) (Nat.le_of_ble_eq_true rfl)

set_option maxRecDepth 20000 in
set_option maxHeartbeats 4000000 in
theorem ok_X8_hearsAt (V : EV) {h : HA} {t : Nat} {l1 : Int32} {l2 : Int32} {l3 : Int32} {l4 : Int32} {l5 : Int32} {l6 : Int32} {l7 : Int32} {r : Int32} (H : X8_hearsAt h t l1 l2 l3 l4 l5 l6 l7 = some r) : MG V M_X8_hearsAt [.ref t, .int l1, .int l2, .int l3, .int l4, .int l5, .int l6, .int l7] h (some (.int r)) h := by
  unfold X8_hearsAt at H
  obtain ⟨_, H⟩ := oc H
  refine MG.of (lv0 := [(0, .ref t), (1, .int l1), (2, .int l2), (3, .int l3), (4, .int l4), (5, .int l5), (6, .int l6), (7, .int l7)]) pn_X8 rfl (Nat.le_of_ble_eq_true rfl) ?_
  refine WP.aload_n d_X8_hearsAt_0 0 rfl ?_
  refine WP.iload d_X8_hearsAt_1 5 rfl ?_
  refine WP.iload_n d_X8_hearsAt_3 1 rfl ?_
  obtain ⟨x2, e1, H⟩ := ob H
  refine WP.cV (c := 9) (As := [.int l5, .int l1]) (st := []) (st9 := [.int x2]) (cl9 := 0) (sl9 := 0) d_X8_hearsAt_4 (ok_X8_farOf V e1) tv_X8_farOf ti_X8_farOf ts_X8_farOf lk_X8_298 r_X8_hearsAt_X8_farOf kc_X8_farOf (kd_X8_farOf e1) rfl rfl (Nat.le_of_ble_eq_true rfl) rfl rfl rfl ?_
  refine WP.istore (lv9 := [(8, .int x2), (0, .ref t), (1, .int l1), (2, .int l2), (3, .int l3), (4, .int l4), (5, .int l5), (6, .int l6), (7, .int l7)]) d_X8_hearsAt_7 (Nat.le_of_ble_eq_true rfl) rfl ?_
  refine WP.iload d_X8_hearsAt_9 0 rfl ?_
  refine WP.sipush d_X8_hearsAt_11 ks_1000 ?_
  rcases oj H with ⟨hc, H⟩ | ⟨hc, H⟩
  · refine WP.icmp_eq_t d_X8_hearsAt_14 hc ?_
    refine WP.iconst d_X8_hearsAt_27 ki_0 ?_
    cases H
    exact WP.ireturn d_X8_hearsAt_28 rfl rfl (Nat.le_of_ble_eq_true rfl) (Nat.le_of_ble_eq_true rfl)
  · refine WP.icmp_eq_f d_X8_hearsAt_14 hc ?_
    refine WP.iload d_X8_hearsAt_17 0 rfl ?_
    refine WP.iload d_X8_hearsAt_19 5 rfl ?_
    refine WP.iload d_X8_hearsAt_21 7 rfl ?_
    refine WP.iadd d_X8_hearsAt_23 ?_
    rcases oj H with ⟨hc, H⟩ | ⟨hc, H⟩
    · refine WP.icmp_le_t d_X8_hearsAt_24 hc ?_
      refine WP.iconst d_X8_hearsAt_27 ki_0 ?_
      cases H
      exact WP.ireturn d_X8_hearsAt_28 rfl rfl (Nat.le_of_ble_eq_true rfl) (Nat.le_of_ble_eq_true rfl)
    · refine WP.icmp_le_f d_X8_hearsAt_24 hc ?_
      refine WP.iload_n d_X8_hearsAt_29 2 rfl ?_
      refine WP.iload d_X8_hearsAt_30 6 rfl ?_
      rcases oj H with ⟨hc, H⟩ | ⟨hc, H⟩
      · refine WP.icmp_ne_t d_X8_hearsAt_32 hc ?_
        refine WP.iconst d_X8_hearsAt_35 ki_1 ?_
        cases H
        exact WP.ireturn d_X8_hearsAt_36 rfl rfl (Nat.le_of_ble_eq_true rfl) (Nat.le_of_ble_eq_true rfl)
      · refine WP.icmp_ne_f d_X8_hearsAt_32 hc ?_
        refine WP.aload_n d_X8_hearsAt_37 1 rfl ?_
        refine WP.iload_n d_X8_hearsAt_38 2 rfl ?_
        refine WP.iload d_X8_hearsAt_39 6 rfl ?_
        obtain ⟨x4, e3, H⟩ := ob H
        refine WP.cV (c := 9) (As := [.int l1, .int l5]) (st := []) (st9 := [.int x4]) (cl9 := 0) (sl9 := 0) d_X8_hearsAt_41 (ok_X8_cameFrom V e3) tv_X8_cameFrom ti_X8_cameFrom ts_X8_cameFrom lk_X8_301 r_X8_hearsAt_X8_cameFrom kc_X8_cameFrom (kd_X8_cameFrom e3) rfl rfl (Nat.le_of_ble_eq_true rfl) rfl rfl rfl ?_
        refine WP.iload d_X8_hearsAt_44 8 rfl ?_
        refine WP.iconst d_X8_hearsAt_46 ki_m1 ?_
        refine WP.ixor d_X8_hearsAt_47 ?_
        refine WP.iand d_X8_hearsAt_48 ?_
        refine WP.istore (lv9 := [(9, .int (x4 &&& (l7 ^^^ (-1)))), (8, .int x2), (0, .ref t), (1, .int l1), (2, .int l2), (3, .int l3), (4, .int l4), (5, .int l5), (6, .int l6), (7, .int l7)]) d_X8_hearsAt_49 (Nat.le_of_ble_eq_true rfl) rfl ?_
        refine WP.iload d_X8_hearsAt_51 0 rfl ?_
        refine WP.iload_n d_X8_hearsAt_53 4 rfl ?_
        obtain ⟨x6, e5, H⟩ := ob H
        refine WP.cS (As := [.int (x4 &&& (l7 ^^^ (-1))), .int l2]) (st := []) (st9 := [.int x6]) (cl9 := 0) (sl9 := 0) d_X8_hearsAt_54 (ok_X8_turned V (h := h) e5) tv_X8_turned ts_X8_turned lk_X8_304 r_X8_hearsAt_X8_turned rfl rfl (Nat.le_of_ble_eq_true rfl) rfl rfl rfl ?_
        refine WP.iload_n d_X8_hearsAt_57 5 rfl ?_
        refine WP.iand d_X8_hearsAt_58 ?_
        rcases oj H with ⟨hc, H⟩ | ⟨hc, H⟩
        · refine WP.if_eq_t d_X8_hearsAt_59 hc ?_
          refine WP.iconst d_X8_hearsAt_66 ki_0 ?_
          cases H
          exact WP.ireturn d_X8_hearsAt_67 rfl rfl (Nat.le_of_ble_eq_true rfl) (Nat.le_of_ble_eq_true rfl)
        · refine WP.if_eq_f d_X8_hearsAt_59 hc ?_
          refine WP.iconst d_X8_hearsAt_62 ki_1 ?_
          refine WP.goto d_X8_hearsAt_63 ?_
          cases H
          exact WP.ireturn d_X8_hearsAt_67 rfl rfl (Nat.le_of_ble_eq_true rfl) (Nat.le_of_ble_eq_true rfl)

set_option maxRecDepth 20000 in
set_option maxHeartbeats 4000000 in
theorem ok_X8_judgeOf (V : EV) {h : HA} {t : Nat} {l1 : Int32} {l2 : Int32} {r : Int32} (H : X8_judgeOf h t l1 l2 = some r) : MG V M_X8_judgeOf [.ref t, .int l1, .int l2] h (some (.int r)) h := by
  unfold X8_judgeOf at H
  obtain ⟨_, H⟩ := oc H
  refine MG.of (lv0 := [(0, .ref t), (1, .int l1), (2, .int l2)]) pn_X8 rfl (Nat.le_of_ble_eq_true rfl) ?_
  refine WP.aload_n d_X8_judgeOf_0 0 rfl ?_
  refine WP.iconst d_X8_judgeOf_1 ki_4 ?_
  refine WP.iconst d_X8_judgeOf_2 ki_5 ?_
  refine WP.iload_n d_X8_judgeOf_3 1 rfl ?_
  refine WP.imul d_X8_judgeOf_4 ?_
  refine WP.iadd d_X8_judgeOf_5 ?_
  refine WP.iload_n d_X8_judgeOf_6 2 rfl ?_
  refine WP.iadd d_X8_judgeOf_7 ?_
  obtain ⟨x2, e1, H⟩ := ob H
  refine WP.cV (c := 9) (As := [.int ((4 + (5 * l1)) + l2)]) (st := []) (st9 := [.int x2]) (cl9 := 0) (sl9 := 0) d_X8_judgeOf_8 (ok_X8_of V e1) tv_X8_of ti_X8_of ts_X8_of lk_X8_267 r_X8_judgeOf_X8_of kc_X8_of (kd_X8_of e1) rfl rfl (Nat.le_of_ble_eq_true rfl) rfl rfl rfl ?_
  cases H
  exact WP.ireturn d_X8_judgeOf_11 rfl rfl (Nat.le_of_ble_eq_true rfl) (Nat.le_of_ble_eq_true rfl)

set_option maxRecDepth 20000 in
set_option maxHeartbeats 4000000 in
theorem ok_X8_earsOf (V : EV) {h : HA} {t : Nat} {l1 : Int32} {r : Int32} (H : X8_earsOf h t l1 = some r) : MG V M_X8_earsOf [.ref t, .int l1] h (some (.int r)) h := by
  unfold X8_earsOf at H
  obtain ⟨_, H⟩ := oc H
  refine MG.of (lv0 := [(0, .ref t), (1, .int l1)]) pn_X8 rfl (Nat.le_of_ble_eq_true rfl) ?_
  refine WP.iconst d_X8_earsOf_0 ki_1 ?_
  refine WP.aload_n d_X8_earsOf_1 0 rfl ?_
  refine WP.iload_n d_X8_earsOf_2 1 rfl ?_
  refine WP.iconst d_X8_earsOf_3 ki_2 ?_
  obtain ⟨x2, e1, H⟩ := ob H
  refine WP.cV (c := 9) (As := [.int l1, .int 2]) (st := [.int 1]) (st9 := [.int x2, .int 1]) (cl9 := 0) (sl9 := 0) d_X8_earsOf_4 (ok_X8_judgeOf V e1) tv_X8_judgeOf ti_X8_judgeOf ts_X8_judgeOf lk_X8_307 r_X8_earsOf_X8_judgeOf kc_X8_judgeOf (kd_X8_judgeOf e1) rfl rfl (Nat.le_of_ble_eq_true rfl) rfl rfl rfl ?_
  rcases oj H with ⟨hc, H⟩ | ⟨hc, H⟩
  · refine WP.if_ne_t d_X8_earsOf_7 hc ?_
    refine WP.bipush d_X8_earsOf_10 kb_8 ?_
    refine WP.goto d_X8_earsOf_12 ?_
    refine WP.ior d_X8_earsOf_16 ?_
    cases H
    exact WP.ireturn d_X8_earsOf_17 rfl rfl (Nat.le_of_ble_eq_true rfl) (Nat.le_of_ble_eq_true rfl)
  · refine WP.if_ne_f d_X8_earsOf_7 hc ?_
    refine WP.iconst d_X8_earsOf_15 ki_2 ?_
    refine WP.ior d_X8_earsOf_16 ?_
    cases H
    exact WP.ireturn d_X8_earsOf_17 rfl rfl (Nat.le_of_ble_eq_true rfl) (Nat.le_of_ble_eq_true rfl)

set_option maxRecDepth 20000 in
set_option maxHeartbeats 4000000 in
theorem ok_X8_hears (V : EV) {h : HA} {t : Nat} {l1 : Int32} {l2 : Int32} {l3 : Int32} {l4 : Int32} {r : Int32} (H : X8_hears h t l1 l2 l3 l4 = some r) : MG V M_X8_hears [.ref t, .int l1, .int l2, .int l3, .int l4] h (some (.int r)) h := by
  unfold X8_hears at H
  obtain ⟨_, H⟩ := oc H
  refine MG.of (lv0 := [(0, .ref t), (1, .int l1), (2, .int l2), (3, .int l3), (4, .int l4)]) pn_X8 rfl (Nat.le_of_ble_eq_true rfl) ?_
  refine WP.aload_n d_X8_hears_0 0 rfl ?_
  refine WP.aload_n d_X8_hears_1 0 rfl ?_
  refine WP.iload_n d_X8_hears_2 1 rfl ?_
  refine WP.iconst d_X8_hears_3 ki_0 ?_
  obtain ⟨x2, e1, H⟩ := ob H
  refine WP.cV (c := 9) (As := [.int l1, .int 0]) (st := [.ref t]) (st9 := [.int x2, .ref t]) (cl9 := 0) (sl9 := 0) d_X8_hears_4 (ok_X8_judgeOf V e1) tv_X8_judgeOf ti_X8_judgeOf ts_X8_judgeOf lk_X8_307 r_X8_hears_X8_judgeOf kc_X8_judgeOf (kd_X8_judgeOf e1) rfl rfl (Nat.le_of_ble_eq_true rfl) rfl rfl rfl ?_
  refine WP.aload_n d_X8_hears_7 0 rfl ?_
  refine WP.aload_n d_X8_hears_8 0 rfl ?_
  refine WP.iload_n d_X8_hears_9 1 rfl ?_
  refine WP.iconst d_X8_hears_10 ki_1 ?_
  obtain ⟨x4, e3, H⟩ := ob H
  refine WP.cV (c := 9) (As := [.int l1, .int 1]) (st := [.ref t, .int x2, .ref t]) (st9 := [.int x4, .ref t, .int x2, .ref t]) (cl9 := 0) (sl9 := 0) d_X8_hears_11 (ok_X8_judgeOf V e3) tv_X8_judgeOf ti_X8_judgeOf ts_X8_judgeOf lk_X8_307 r_X8_hears_X8_judgeOf kc_X8_judgeOf (kd_X8_judgeOf e3) rfl rfl (Nat.le_of_ble_eq_true rfl) rfl rfl rfl ?_
  refine WP.aload_n d_X8_hears_14 0 rfl ?_
  refine WP.iload_n d_X8_hears_15 1 rfl ?_
  refine WP.iconst d_X8_hears_16 ki_4 ?_
  obtain ⟨x6, e5, H⟩ := ob H
  refine WP.cV (c := 9) (As := [.int l1, .int 4]) (st := [.int x4, .ref t, .int x2, .ref t]) (st9 := [.int x6, .int x4, .ref t, .int x2, .ref t]) (cl9 := 0) (sl9 := 0) d_X8_hears_17 (ok_X8_judgeOf V e5) tv_X8_judgeOf ti_X8_judgeOf ts_X8_judgeOf lk_X8_307 r_X8_hears_X8_judgeOf kc_X8_judgeOf (kd_X8_judgeOf e5) rfl rfl (Nat.le_of_ble_eq_true rfl) rfl rfl rfl ?_
  refine WP.iload_n d_X8_hears_20 3 rfl ?_
  obtain ⟨x8, e7, H⟩ := ob H
  refine WP.cV (c := 9) (As := [.int x4, .int x6, .int l3]) (st := [.int x2, .ref t]) (st9 := [.int x8, .int x2, .ref t]) (cl9 := 0) (sl9 := 0) d_X8_hears_21 (ok_X8_faces V e7) tv_X8_faces ti_X8_faces ts_X8_faces lk_X8_310 r_X8_hears_X8_faces kc_X8_faces (kd_X8_faces e7) rfl rfl (Nat.le_of_ble_eq_true rfl) rfl rfl rfl ?_
  refine WP.aload_n d_X8_hears_24 0 rfl ?_
  refine WP.iload_n d_X8_hears_25 1 rfl ?_
  obtain ⟨x10, e9, H⟩ := ob H
  refine WP.cV (c := 9) (As := [.int l1]) (st := [.int x8, .int x2, .ref t]) (st9 := [.int x10, .int x8, .int x2, .ref t]) (cl9 := 0) (sl9 := 0) d_X8_hears_26 (ok_X8_earsOf V e9) tv_X8_earsOf ti_X8_earsOf ts_X8_earsOf lk_X8_314 r_X8_hears_X8_earsOf kc_X8_earsOf (kd_X8_earsOf e9) rfl rfl (Nat.le_of_ble_eq_true rfl) rfl rfl rfl ?_
  refine WP.aload_n d_X8_hears_29 0 rfl ?_
  refine WP.iload_n d_X8_hears_30 1 rfl ?_
  refine WP.iconst d_X8_hears_31 ki_3 ?_
  obtain ⟨x12, e11, H⟩ := ob H
  refine WP.cV (c := 9) (As := [.int l1, .int 3]) (st := [.int x10, .int x8, .int x2, .ref t]) (st9 := [.int x12, .int x10, .int x8, .int x2, .ref t]) (cl9 := 0) (sl9 := 0) d_X8_hears_32 (ok_X8_judgeOf V e11) tv_X8_judgeOf ti_X8_judgeOf ts_X8_judgeOf lk_X8_307 r_X8_hears_X8_judgeOf kc_X8_judgeOf (kd_X8_judgeOf e11) rfl rfl (Nat.le_of_ble_eq_true rfl) rfl rfl rfl ?_
  refine WP.iload_n d_X8_hears_35 2 rfl ?_
  refine WP.iload d_X8_hears_36 4 rfl ?_
  refine WP.iconst d_X8_hears_38 ki_0 ?_
  obtain ⟨x14, e13, H⟩ := ob H
  refine WP.cV (c := 9) (As := [.int x2, .int x8, .int x10, .int x12, .int l2, .int l4, .int 0]) (st := []) (st9 := [.int x14]) (cl9 := 0) (sl9 := 0) d_X8_hears_39 (ok_X8_hearsAt V e13) tv_X8_hearsAt ti_X8_hearsAt ts_X8_hearsAt lk_X8_317 r_X8_hears_X8_hearsAt kc_X8_hearsAt (kd_X8_hearsAt e13) rfl rfl (Nat.le_of_ble_eq_true rfl) rfl rfl rfl ?_
  obtain ⟨x15, ex15, H⟩ := ob H
  obtain ⟨rfl, hnx15⟩ := bz_sp ex15
  cases H
  exact WP.ireturn d_X8_hears_42 rfl hnx15 (Nat.le_of_ble_eq_true rfl) (Nat.le_of_ble_eq_true rfl)

set_option maxRecDepth 20000 in
set_option maxHeartbeats 4000000 in
theorem okl_X8_earsAt_L6 (V : EV) {vF : Option Value} {hF : HA} {h : HA} {t : Nat} {l1 : Int32} {l2 : Int32} {l3 : Int32} (n : Nat) : ∀ {l4 : Int32} {l5 : Int32} {r4 : Int32}, (H : X8_earsAt_L6 h t l1 l2 l3 n l4 l5 = some r4) → (K : WP V M_X8_earsAt 46 [(4, .int r4)] [] h 0 0 vF hF) → WP V M_X8_earsAt 6 [(0, .ref t), (1, .int l1), (2, .int l2), (3, .int l3), (4, .int l4), (5, .int l5)] [] h 0 0 vF hF := by
  induction n with
  | zero =>
    intro l4 l5 r4 H K
    rw [X8_earsAt_L6] at H
    cases H
  | succ n ih =>
    intro l4 l5 r4 H K
    rw [X8_earsAt_L6] at H
    refine WP.iload d_X8_earsAt_6 5 rfl ?_
    refine WP.aload_n d_X8_earsAt_8 0 rfl ?_
    obtain ⟨x1, ex1, H⟩ := ob H
    refine WP.fI d_X8_earsAt_9 gf_X8_280 (fun _ => rfl) ex1 ?_
    rcases oj H with ⟨hc, H⟩ | ⟨hc, H⟩
    · refine WP.icmp_ge_t d_X8_earsAt_12 hc ?_
      refine WP.iload d_X8_earsAt_15 4 rfl ?_
      refine WP.aload_n d_X8_earsAt_17 0 rfl ?_
      refine WP.iload d_X8_earsAt_18 5 rfl ?_
      refine WP.iload_n d_X8_earsAt_20 1 rfl ?_
      refine WP.iload_n d_X8_earsAt_21 2 rfl ?_
      refine WP.iload_n d_X8_earsAt_22 3 rfl ?_
      obtain ⟨x3, e2, H⟩ := ob H
      refine WP.cV (c := 9) (As := [.int l5, .int l1, .int l2, .int l3]) (st := [.int l4]) (st9 := [.int x3, .int l4]) (cl9 := 0) (sl9 := 0) d_X8_earsAt_23 (ok_X8_hears V e2) tv_X8_hears ti_X8_hears ts_X8_hears lk_X8_321 r_X8_earsAt_X8_hears kc_X8_hears (kd_X8_hears e2) rfl rfl (Nat.le_of_ble_eq_true rfl) rfl rfl rfl ?_
      rcases oj H with ⟨hc, H⟩ | ⟨hc, H⟩
      · refine WP.if_eq_t d_X8_earsAt_26 hc ?_
        refine WP.iconst d_X8_earsAt_36 ki_0 ?_
        refine WP.ior d_X8_earsAt_37 ?_
        refine WP.istore (lv9 := [(4, .int (l4 ||| 0)), (0, .ref t), (1, .int l1), (2, .int l2), (3, .int l3), (5, .int l5)]) d_X8_earsAt_38 (Nat.le_of_ble_eq_true rfl) rfl ?_
        refine WP.iinc (lv9 := [(5, .int (l5 + 1)), (4, .int (l4 ||| 0)), (0, .ref t), (1, .int l1), (2, .int l2), (3, .int l3)]) d_X8_earsAt_40 5 rfl ki_1 (Nat.le_of_ble_eq_true rfl) rfl ?_
        refine WP.goto d_X8_earsAt_43 ?_
        refine WP.sub [2, 3, 4, 5, 1, 0] (lv' := [(0, .ref t), (1, .int l1), (2, .int l2), (3, .int l3), (4, .int (l4 ||| 0)), (5, .int (l5 + 1))]) rfl ?_
        exact ih H K
      · refine WP.if_eq_f d_X8_earsAt_26 hc ?_
        refine WP.iconst d_X8_earsAt_29 ki_1 ?_
        refine WP.iload d_X8_earsAt_30 5 rfl ?_
        refine WP.ishl d_X8_earsAt_32 ?_
        refine WP.goto d_X8_earsAt_33 ?_
        refine WP.ior d_X8_earsAt_37 ?_
        refine WP.istore (lv9 := [(4, .int (l4 ||| (shlI 1 l5))), (0, .ref t), (1, .int l1), (2, .int l2), (3, .int l3), (5, .int l5)]) d_X8_earsAt_38 (Nat.le_of_ble_eq_true rfl) rfl ?_
        refine WP.iinc (lv9 := [(5, .int (l5 + 1)), (4, .int (l4 ||| (shlI 1 l5))), (0, .ref t), (1, .int l1), (2, .int l2), (3, .int l3)]) d_X8_earsAt_40 5 rfl ki_1 (Nat.le_of_ble_eq_true rfl) rfl ?_
        refine WP.goto d_X8_earsAt_43 ?_
        refine WP.sub [2, 3, 4, 5, 1, 0] (lv' := [(0, .ref t), (1, .int l1), (2, .int l2), (3, .int l3), (4, .int (l4 ||| (shlI 1 l5))), (5, .int (l5 + 1))]) rfl ?_
        exact ih H K
    · refine WP.icmp_ge_f d_X8_earsAt_12 hc ?_
      cases H
      exact WP.sub [4] rfl K

set_option maxRecDepth 20000 in
set_option maxHeartbeats 4000000 in
theorem ok_X8_earsAt (V : EV) {h : HA} {t : Nat} {l1 : Int32} {l2 : Int32} {l3 : Int32} {r : Int32} (H : X8_earsAt h t l1 l2 l3 = some r) : MG V M_X8_earsAt [.ref t, .int l1, .int l2, .int l3] h (some (.int r)) h := by
  unfold X8_earsAt at H
  obtain ⟨_, H⟩ := oc H
  refine MG.of (lv0 := [(0, .ref t), (1, .int l1), (2, .int l2), (3, .int l3)]) pn_X8 rfl (Nat.le_of_ble_eq_true rfl) ?_
  refine WP.iconst d_X8_earsAt_0 ki_0 ?_
  refine WP.istore (lv9 := [(4, .int 0), (0, .ref t), (1, .int l1), (2, .int l2), (3, .int l3)]) d_X8_earsAt_1 (Nat.le_of_ble_eq_true rfl) rfl ?_
  refine WP.iconst d_X8_earsAt_3 ki_0 ?_
  refine WP.istore (lv9 := [(5, .int 0), (4, .int 0), (0, .ref t), (1, .int l1), (2, .int l2), (3, .int l3)]) d_X8_earsAt_4 (Nat.le_of_ble_eq_true rfl) rfl ?_
  obtain ⟨y5, e4, H⟩ := ob H
  refine WP.sub [2, 3, 4, 5, 1, 0] (lv' := [(0, .ref t), (1, .int l1), (2, .int l2), (3, .int l3), (4, .int 0), (5, .int 0)]) rfl ?_
  refine okl_X8_earsAt_L6 V _ e4 ?_
  refine WP.iload d_X8_earsAt_46 0 rfl ?_
  cases H
  exact WP.ireturn d_X8_earsAt_48 rfl rfl (Nat.le_of_ble_eq_true rfl) (Nat.le_of_ble_eq_true rfl)

set_option maxRecDepth 20000 in
set_option maxHeartbeats 4000000 in
theorem okl_X8_blind_L5 (V : EV) {vF : Option Value} {hF : HA} {h : HA} {t : Nat} {l1 : Int32} {l2 : Int32} (n : Nat) : ∀ {l3 : Int32} {l4 : Int32} {r3 : Int32}, (H : X8_blind_L5 h t l1 l2 n l3 l4 = some r3) → (K : WP V M_X8_blind 48 [(3, .int r3)] [] h 0 0 vF hF) → WP V M_X8_blind 5 [(0, .ref t), (1, .int l1), (2, .int l2), (3, .int l3), (4, .int l4)] [] h 0 0 vF hF := by
  induction n with
  | zero =>
    intro l3 l4 r3 H K
    rw [X8_blind_L5] at H
    cases H
  | succ n ih =>
    intro l3 l4 r3 H K
    rw [X8_blind_L5] at H
    refine WP.iload d_X8_blind_5 4 rfl ?_
    refine WP.aload_n d_X8_blind_7 0 rfl ?_
    obtain ⟨x1, ex1, H⟩ := ob H
    refine WP.fI d_X8_blind_8 gf_X8_277 (fun _ => rfl) ex1 ?_
    rcases oj H with ⟨hc, H⟩ | ⟨hc, H⟩
    · refine WP.icmp_ge_t d_X8_blind_11 hc ?_
      refine WP.iload_n d_X8_blind_14 3 rfl ?_
      refine WP.aload_n d_X8_blind_15 0 rfl ?_
      refine WP.iload d_X8_blind_16 4 rfl ?_
      obtain ⟨x3, e2, H⟩ := ob H
      refine WP.cV (c := 9) (As := [.int l4]) (st := [.int l3]) (st9 := [.int x3, .int l3]) (cl9 := 0) (sl9 := 0) d_X8_blind_18 (ok_X8_isWall V e2) tv_X8_isWall ti_X8_isWall ts_X8_isWall lk_X8_292 r_X8_blind_X8_isWall kc_X8_isWall (kd_X8_isWall e2) rfl rfl (Nat.le_of_ble_eq_true rfl) rfl rfl rfl ?_
      rcases oj H with ⟨hc, H⟩ | ⟨hc, H⟩
      · refine WP.if_ne_t d_X8_blind_21 hc ?_
        refine WP.aload_n d_X8_blind_24 0 rfl ?_
        refine WP.iload d_X8_blind_25 4 rfl ?_
        refine WP.iload_n d_X8_blind_27 1 rfl ?_
        refine WP.iload_n d_X8_blind_28 2 rfl ?_
        obtain ⟨x5, e4, H⟩ := ob H
        refine WP.cV (c := 9) (As := [.int l4, .int l1, .int l2]) (st := [.int l3]) (st9 := [.int x5, .int l3]) (cl9 := 0) (sl9 := 0) d_X8_blind_29 (ok_X8_earsAt V e4) tv_X8_earsAt ti_X8_earsAt ts_X8_earsAt lk_X8_325 r_X8_blind_X8_earsAt kc_X8_earsAt (kd_X8_earsAt e4) rfl rfl (Nat.le_of_ble_eq_true rfl) rfl rfl rfl ?_
        rcases oj H with ⟨hc, H⟩ | ⟨hc, H⟩
        · refine WP.if_ne_t d_X8_blind_32 hc ?_
          refine WP.iconst d_X8_blind_35 ki_1 ?_
          refine WP.goto d_X8_blind_36 ?_
          refine WP.iadd d_X8_blind_40 ?_
          refine WP.istore_n (lv9 := [(3, .int (l3 + 1)), (0, .ref t), (1, .int l1), (2, .int l2), (4, .int l4)]) d_X8_blind_41 (Nat.le_of_ble_eq_true rfl) rfl ?_
          refine WP.iinc (lv9 := [(4, .int (l4 + 1)), (3, .int (l3 + 1)), (0, .ref t), (1, .int l1), (2, .int l2)]) d_X8_blind_42 4 rfl ki_1 (Nat.le_of_ble_eq_true rfl) rfl ?_
          refine WP.goto d_X8_blind_45 ?_
          refine WP.sub [2, 3, 4, 1, 0] (lv' := [(0, .ref t), (1, .int l1), (2, .int l2), (3, .int (l3 + 1)), (4, .int (l4 + 1))]) rfl ?_
          exact ih H K
        · refine WP.if_ne_f d_X8_blind_32 hc ?_
          refine WP.iconst d_X8_blind_39 ki_0 ?_
          refine WP.iadd d_X8_blind_40 ?_
          refine WP.istore_n (lv9 := [(3, .int (l3 + 0)), (0, .ref t), (1, .int l1), (2, .int l2), (4, .int l4)]) d_X8_blind_41 (Nat.le_of_ble_eq_true rfl) rfl ?_
          refine WP.iinc (lv9 := [(4, .int (l4 + 1)), (3, .int (l3 + 0)), (0, .ref t), (1, .int l1), (2, .int l2)]) d_X8_blind_42 4 rfl ki_1 (Nat.le_of_ble_eq_true rfl) rfl ?_
          refine WP.goto d_X8_blind_45 ?_
          refine WP.sub [2, 3, 4, 1, 0] (lv' := [(0, .ref t), (1, .int l1), (2, .int l2), (3, .int (l3 + 0)), (4, .int (l4 + 1))]) rfl ?_
          exact ih H K
      · refine WP.if_ne_f d_X8_blind_21 hc ?_
        refine WP.iconst d_X8_blind_39 ki_0 ?_
        refine WP.iadd d_X8_blind_40 ?_
        refine WP.istore_n (lv9 := [(3, .int (l3 + 0)), (0, .ref t), (1, .int l1), (2, .int l2), (4, .int l4)]) d_X8_blind_41 (Nat.le_of_ble_eq_true rfl) rfl ?_
        refine WP.iinc (lv9 := [(4, .int (l4 + 1)), (3, .int (l3 + 0)), (0, .ref t), (1, .int l1), (2, .int l2)]) d_X8_blind_42 4 rfl ki_1 (Nat.le_of_ble_eq_true rfl) rfl ?_
        refine WP.goto d_X8_blind_45 ?_
        refine WP.sub [2, 3, 4, 1, 0] (lv' := [(0, .ref t), (1, .int l1), (2, .int l2), (3, .int (l3 + 0)), (4, .int (l4 + 1))]) rfl ?_
        exact ih H K
    · refine WP.icmp_ge_f d_X8_blind_11 hc ?_
      cases H
      exact WP.sub [3] rfl K

set_option maxRecDepth 20000 in
set_option maxHeartbeats 4000000 in
theorem ok_X8_blind (V : EV) {h : HA} {t : Nat} {l1 : Int32} {l2 : Int32} {r : Int32} (H : X8_blind h t l1 l2 = some r) : MG V M_X8_blind [.ref t, .int l1, .int l2] h (some (.int r)) h := by
  unfold X8_blind at H
  obtain ⟨_, H⟩ := oc H
  refine MG.of (lv0 := [(0, .ref t), (1, .int l1), (2, .int l2)]) pn_X8 rfl (Nat.le_of_ble_eq_true rfl) ?_
  refine WP.iconst d_X8_blind_0 ki_0 ?_
  refine WP.istore_n (lv9 := [(3, .int 0), (0, .ref t), (1, .int l1), (2, .int l2)]) d_X8_blind_1 (Nat.le_of_ble_eq_true rfl) rfl ?_
  refine WP.iconst d_X8_blind_2 ki_0 ?_
  refine WP.istore (lv9 := [(4, .int 0), (3, .int 0), (0, .ref t), (1, .int l1), (2, .int l2)]) d_X8_blind_3 (Nat.le_of_ble_eq_true rfl) rfl ?_
  obtain ⟨y7, e6, H⟩ := ob H
  refine WP.sub [2, 3, 4, 1, 0] (lv' := [(0, .ref t), (1, .int l1), (2, .int l2), (3, .int 0), (4, .int 0)]) rfl ?_
  refine okl_X8_blind_L5 V _ e6 ?_
  refine WP.iload_n d_X8_blind_48 0 rfl ?_
  cases H
  exact WP.ireturn d_X8_blind_49 rfl rfl (Nat.le_of_ble_eq_true rfl) (Nat.le_of_ble_eq_true rfl)

set_option maxRecDepth 20000 in
set_option maxHeartbeats 4000000 in
theorem okl_X8_quarter_L11 (V : EV) {vF : Option Value} {hF : HA} {h : HA} {t : Nat} (n : Nat) : ∀ {l1 : Int32} {l2 : Int32} {l3 : Int32} {r1 : Int32}, (H : X8_quarter_L11 h t n l1 l2 l3 = some r1) → (K : WP V M_X8_quarter 55 [(1, .int r1)] [] h 0 0 vF hF) → WP V M_X8_quarter 11 [(0, .ref t), (1, .int l1), (2, .int l2), (3, .int l3)] [] h 0 0 vF hF := by
  induction n with
  | zero =>
    intro l1 l2 l3 r1 H K
    rw [X8_quarter_L11] at H
    cases H
  | succ n ih =>
    intro l1 l2 l3 r1 H K
    rw [X8_quarter_L11] at H
    refine WP.iload_n d_X8_quarter_11 3 rfl ?_
    refine WP.iconst d_X8_quarter_12 ki_4 ?_
    rcases oj H with ⟨hc, H⟩ | ⟨hc, H⟩
    · refine WP.icmp_ge_t d_X8_quarter_13 hc ?_
      refine WP.aload_n d_X8_quarter_16 0 rfl ?_
      refine WP.iload_n d_X8_quarter_17 3 rfl ?_
      refine WP.iconst d_X8_quarter_18 ki_0 ?_
      obtain ⟨x4, e3, H⟩ := ob H
      refine WP.cV (c := 9) (As := [.int l3, .int 0]) (st := []) (st9 := [.int x4]) (cl9 := 0) (sl9 := 0) d_X8_quarter_19 (ok_X8_blind V e3) tv_X8_blind ti_X8_blind ts_X8_blind lk_X8_328 r_X8_quarter_X8_blind kc_X8_blind (kd_X8_blind e3) rfl rfl (Nat.le_of_ble_eq_true rfl) rfl rfl rfl ?_
      refine WP.istore (lv9 := [(4, .int x4), (0, .ref t), (1, .int l1), (2, .int l2), (3, .int l3)]) d_X8_quarter_22 (Nat.le_of_ble_eq_true rfl) rfl ?_
      refine WP.iload d_X8_quarter_24 0 rfl ?_
      refine WP.iload_n d_X8_quarter_26 3 rfl ?_
      obtain ⟨j5, hs6, H⟩ := ol H
      have J7 : WP V M_X8_quarter 35 [(0, .ref t), (2, .int l2), (3, .int l3), (4, .int x4)] [.int j5] h 0 0 vF hF := by
        refine WP.istore_n (lv9 := [(1, .int j5), (0, .ref t), (2, .int l2), (3, .int l3), (4, .int x4)]) d_X8_quarter_35 (Nat.le_of_ble_eq_true rfl) rfl ?_
        refine WP.iload d_X8_quarter_36 4 rfl ?_
        refine WP.iload_n d_X8_quarter_38 2 rfl ?_
        rcases oj H with ⟨hc, H⟩ | ⟨hc, H⟩
        · refine WP.icmp_ge_t d_X8_quarter_39 hc ?_
          refine WP.iload d_X8_quarter_42 4 rfl ?_
          refine WP.goto d_X8_quarter_44 ?_
          refine WP.istore_n (lv9 := [(2, .int x4), (1, .int j5), (0, .ref t), (3, .int l3), (4, .int x4)]) d_X8_quarter_48 (Nat.le_of_ble_eq_true rfl) rfl ?_
          refine WP.iinc (lv9 := [(3, .int (l3 + 1)), (2, .int x4), (1, .int j5), (0, .ref t), (4, .int x4)]) d_X8_quarter_49 3 rfl ki_1 (Nat.le_of_ble_eq_true rfl) rfl ?_
          refine WP.goto d_X8_quarter_52 ?_
          refine WP.sub [3, 2, 1, 0] (lv' := [(0, .ref t), (1, .int j5), (2, .int x4), (3, .int (l3 + 1))]) rfl ?_
          exact ih H K
        · refine WP.icmp_ge_f d_X8_quarter_39 hc ?_
          refine WP.iload_n d_X8_quarter_47 2 rfl ?_
          refine WP.istore_n (lv9 := [(2, .int l2), (1, .int j5), (0, .ref t), (3, .int l3), (4, .int x4)]) d_X8_quarter_48 (Nat.le_of_ble_eq_true rfl) rfl ?_
          refine WP.iinc (lv9 := [(3, .int (l3 + 1)), (2, .int l2), (1, .int j5), (0, .ref t), (4, .int x4)]) d_X8_quarter_49 3 rfl ki_1 (Nat.le_of_ble_eq_true rfl) rfl ?_
          refine WP.goto d_X8_quarter_52 ?_
          refine WP.sub [3, 2, 1, 0] (lv' := [(0, .ref t), (1, .int j5), (2, .int l2), (3, .int (l3 + 1))]) rfl ?_
          exact ih H K
      rcases oj hs6 with ⟨hc, hs6⟩ | ⟨hc, hs6⟩
      · refine WP.icmp_ge_t d_X8_quarter_27 hc ?_
        refine WP.iload_n d_X8_quarter_30 4 rfl ?_
        refine WP.goto d_X8_quarter_31 ?_
        cases hs6
        exact WP.sub [1, 3, 4, 0] rfl J7
      · refine WP.icmp_ge_f d_X8_quarter_27 hc ?_
        refine WP.iload_n d_X8_quarter_34 2 rfl ?_
        cases hs6
        exact WP.sub [1, 3, 4, 0] rfl J7
    · refine WP.icmp_ge_f d_X8_quarter_13 hc ?_
      cases H
      exact WP.sub [1] rfl K

set_option maxRecDepth 20000 in
set_option maxHeartbeats 4000000 in
theorem ok_X8_quarter (V : EV) {h : HA} {t : Nat} {r : Int32} (H : X8_quarter h t = some r) : MG V M_X8_quarter [.ref t] h (some (.int r)) h := by
  unfold X8_quarter at H
  obtain ⟨_, H⟩ := oc H
  refine MG.of (lv0 := [(0, .ref t)]) pn_X8 rfl (Nat.le_of_ble_eq_true rfl) ?_
  refine WP.iconst d_X8_quarter_0 ki_0 ?_
  refine WP.istore_n (lv9 := [(1, .int 0), (0, .ref t)]) d_X8_quarter_1 (Nat.le_of_ble_eq_true rfl) rfl ?_
  refine WP.aload_n d_X8_quarter_2 1 rfl ?_
  refine WP.iconst d_X8_quarter_3 ki_0 ?_
  refine WP.iconst d_X8_quarter_4 ki_0 ?_
  obtain ⟨x2, e1, H⟩ := ob H
  refine WP.cV (c := 9) (As := [.int 0, .int 0]) (st := []) (st9 := [.int x2]) (cl9 := 0) (sl9 := 0) d_X8_quarter_5 (ok_X8_blind V e1) tv_X8_blind ti_X8_blind ts_X8_blind lk_X8_328 r_X8_quarter_X8_blind kc_X8_blind (kd_X8_blind e1) rfl rfl (Nat.le_of_ble_eq_true rfl) rfl rfl rfl ?_
  refine WP.istore_n (lv9 := [(2, .int x2), (1, .int 0), (0, .ref t)]) d_X8_quarter_8 (Nat.le_of_ble_eq_true rfl) rfl ?_
  refine WP.iconst d_X8_quarter_9 ki_1 ?_
  refine WP.istore_n (lv9 := [(3, .int 1), (2, .int x2), (1, .int 0), (0, .ref t)]) d_X8_quarter_10 (Nat.le_of_ble_eq_true rfl) rfl ?_
  obtain ⟨y9, e8, H⟩ := ob H
  refine WP.sub [3, 2, 1, 0] (lv' := [(0, .ref t), (1, .int 0), (2, .int x2), (3, .int 1)]) rfl ?_
  refine okl_X8_quarter_L11 V _ e8 ?_
  refine WP.iload_n d_X8_quarter_55 0 rfl ?_
  cases H
  exact WP.ireturn d_X8_quarter_56 rfl rfl (Nat.le_of_ble_eq_true rfl) (Nat.le_of_ble_eq_true rfl)

set_option maxRecDepth 20000 in
set_option maxHeartbeats 4000000 in
theorem okl_X8_court_L20 (V : EV) {vF : Option Value} {hF : HA} {h : HA} {t : Nat} {l2 : Int32} (n : Nat) : ∀ {l3 : Int32} {l4 : Int32} {r3 : Int32}, (H : X8_court_L20 h t n l3 l4 = some r3) → (K : WP V M_X8_court 52 [(0, .ref t), (2, .int l2), (3, .int r3)] [] h 0 0 vF hF) → WP V M_X8_court 20 [(0, .ref t), (2, .int l2), (3, .int l3), (4, .int l4)] [] h 0 0 vF hF := by
  induction n with
  | zero =>
    intro l3 l4 r3 H K
    rw [X8_court_L20] at H
    cases H
  | succ n ih =>
    intro l3 l4 r3 H K
    rw [X8_court_L20] at H
    refine WP.iload d_X8_court_20 3 rfl ?_
    refine WP.aload_n d_X8_court_22 0 rfl ?_
    obtain ⟨x5, ex5, H⟩ := ob H
    refine WP.fI d_X8_court_23 gf_X8_277 (fun _ => rfl) ex5 ?_
    rcases oj H with ⟨hc, H⟩ | ⟨hc, H⟩
    · refine WP.icmp_ge_t d_X8_court_26 hc ?_
      refine WP.iload_n d_X8_court_29 2 rfl ?_
      refine WP.aload_n d_X8_court_30 0 rfl ?_
      refine WP.iload d_X8_court_31 3 rfl ?_
      obtain ⟨x7, e6, H⟩ := ob H
      refine WP.cV (c := 9) (As := [.int l4]) (st := [.int l3]) (st9 := [.int x7, .int l3]) (cl9 := 0) (sl9 := 0) d_X8_court_33 (ok_X8_isWall V e6) tv_X8_isWall ti_X8_isWall ts_X8_isWall lk_X8_292 r_X8_court_X8_isWall kc_X8_isWall (kd_X8_isWall e6) rfl rfl (Nat.le_of_ble_eq_true rfl) rfl rfl rfl ?_
      rcases oj H with ⟨hc, H⟩ | ⟨hc, H⟩
      · refine WP.if_eq_t d_X8_court_36 hc ?_
        refine WP.iconst d_X8_court_43 ki_0 ?_
        refine WP.iadd d_X8_court_44 ?_
        refine WP.istore_n (lv9 := [(3, .int (l3 + 0)), (0, .ref t), (2, .int l2), (4, .int l4)]) d_X8_court_45 (Nat.le_of_ble_eq_true rfl) rfl ?_
        refine WP.iinc (lv9 := [(4, .int (l4 + 1)), (3, .int (l3 + 0)), (0, .ref t), (2, .int l2)]) d_X8_court_46 3 rfl ki_1 (Nat.le_of_ble_eq_true rfl) rfl ?_
        refine WP.goto d_X8_court_49 ?_
        refine WP.sub [2, 3, 1, 0] (lv' := [(0, .ref t), (2, .int l2), (3, .int (l3 + 0)), (4, .int (l4 + 1))]) rfl ?_
        exact ih H K
      · refine WP.if_eq_f d_X8_court_36 hc ?_
        refine WP.iconst d_X8_court_39 ki_1 ?_
        refine WP.goto d_X8_court_40 ?_
        refine WP.iadd d_X8_court_44 ?_
        refine WP.istore_n (lv9 := [(3, .int (l3 + 1)), (0, .ref t), (2, .int l2), (4, .int l4)]) d_X8_court_45 (Nat.le_of_ble_eq_true rfl) rfl ?_
        refine WP.iinc (lv9 := [(4, .int (l4 + 1)), (3, .int (l3 + 1)), (0, .ref t), (2, .int l2)]) d_X8_court_46 3 rfl ki_1 (Nat.le_of_ble_eq_true rfl) rfl ?_
        refine WP.goto d_X8_court_49 ?_
        refine WP.sub [2, 3, 1, 0] (lv' := [(0, .ref t), (2, .int l2), (3, .int (l3 + 1)), (4, .int (l4 + 1))]) rfl ?_
        exact ih H K
    · refine WP.icmp_ge_f d_X8_court_26 hc ?_
      cases H
      exact WP.sub [0, 1, 2] rfl K

set_option maxRecDepth 20000 in
set_option maxHeartbeats 4000000 in
theorem ok_X8_court (V : EV) {h : HA} {t : Nat} {l1 : Int32} {l2 : Int32} {r : Int32} {hR : HA} (H : X8_court h t l1 l2 = some (r, hR)) : MG V M_X8_court [.ref t, .int l1, .int l2] h (some (.int r)) hR := by
  unfold X8_court at H
  obtain ⟨_, H⟩ := oc H
  refine MG.of (lv0 := [(0, .ref t), (1, .int l1), (2, .int l2)]) pn_X8 rfl (Nat.le_of_ble_eq_true rfl) ?_
  refine WP.aload_n d_X8_court_0 0 rfl ?_
  refine WP.iconst d_X8_court_1 ki_0 ?_
  obtain ⟨h1, eh1, H⟩ := ob H
  refine WP.uI d_X8_court_2 gf_X8_102 rfl (Or.inl rfl) rfl rfl eh1 ?_
  refine WP.aload_n d_X8_court_5 0 rfl ?_
  refine WP.iload_n d_X8_court_6 1 rfl ?_
  obtain ⟨⟨x4, h3⟩, e2, H⟩ := ob H
  refine WP.cV (c := 9) (As := [.int l1]) (st := []) (st9 := [.int x4]) (cl9 := 0) (sl9 := 0) d_X8_court_7 (ok_X8_hand V e2) tv_X8_hand ti_X8_hand ts_X8_hand lk_X8_331 r_X8_court_X8_hand kc_X8_hand (kd_X8_hand e2) rfl rfl (Nat.le_of_ble_eq_true rfl) rfl rfl rfl ?_
  rcases oj H with ⟨hc, H⟩ | ⟨hc, H⟩
  · refine WP.if_ne_t d_X8_court_10 hc ?_
    refine WP.iconst d_X8_court_13 ki_m1 ?_
    cases H
    exact WP.ireturn d_X8_court_14 rfl rfl (Nat.le_of_ble_eq_true rfl) (Nat.le_of_ble_eq_true rfl)
  · refine WP.if_ne_f d_X8_court_10 hc ?_
    refine WP.iconst d_X8_court_15 ki_0 ?_
    refine WP.istore_n (lv9 := [(3, .int 0), (0, .ref t), (1, .int l1), (2, .int l2)]) d_X8_court_16 (Nat.le_of_ble_eq_true rfl) rfl ?_
    refine WP.iconst d_X8_court_17 ki_0 ?_
    refine WP.istore (lv9 := [(4, .int 0), (3, .int 0), (0, .ref t), (1, .int l1), (2, .int l2)]) d_X8_court_18 (Nat.le_of_ble_eq_true rfl) rfl ?_
    obtain ⟨y9, e8, H⟩ := ob H
    refine WP.sub [2, 4, 1, 0] (lv' := [(0, .ref t), (2, .int l2), (3, .int 0), (4, .int 0)]) rfl ?_
    refine okl_X8_court_L20 V _ e8 ?_
    refine WP.iload_n d_X8_court_52 1 rfl ?_
    rcases oj H with ⟨hq0, H⟩ | ⟨hq0, H⟩
    · refine WP.tsw (t := 92) 0 d_X8_court_53 (by rw [hq0]; decide) (by decide) rfl (by decide) ?_
      refine WP.aload_n d_X8_court_92 0 rfl ?_
      obtain ⟨x10, ex10, H⟩ := ob H
      refine WP.fI d_X8_court_93 gf_X8_271 (fun _ => rfl) ex10 ?_
      cases H
      exact WP.ireturn d_X8_court_96 rfl rfl (Nat.le_of_ble_eq_true rfl) (Nat.le_of_ble_eq_true rfl)
    · skip
      rcases oj H with ⟨hq1, H⟩ | ⟨hq1, H⟩
      · refine WP.tsw (t := 97) 1 d_X8_court_53 (by rw [hq1]; decide) (by decide) rfl (by decide) ?_
        refine WP.aload_n d_X8_court_97 0 rfl ?_
        obtain ⟨x11, ex11, H⟩ := ob H
        refine WP.fI d_X8_court_98 gf_X8_274 (fun _ => rfl) ex11 ?_
        cases H
        exact WP.ireturn d_X8_court_101 rfl rfl (Nat.le_of_ble_eq_true rfl) (Nat.le_of_ble_eq_true rfl)
      · skip
        rcases oj H with ⟨hq2, H⟩ | ⟨hq2, H⟩
        · refine WP.tsw (t := 102) 2 d_X8_court_53 (by rw [hq2]; decide) (by decide) rfl (by decide) ?_
          refine WP.iload_n d_X8_court_102 2 rfl ?_
          cases H
          exact WP.ireturn d_X8_court_103 rfl rfl (Nat.le_of_ble_eq_true rfl) (Nat.le_of_ble_eq_true rfl)
        · skip
          rcases oj H with ⟨hq3, H⟩ | ⟨hq3, H⟩
          · refine WP.tsw (t := 104) 3 d_X8_court_53 (by rw [hq3]; decide) (by decide) rfl (by decide) ?_
            refine WP.aload_n d_X8_court_104 0 rfl ?_
            obtain ⟨x12, ex12, H⟩ := ob H
            refine WP.fI d_X8_court_105 gf_X8_280 (fun _ => rfl) ex12 ?_
            cases H
            exact WP.ireturn d_X8_court_108 rfl rfl (Nat.le_of_ble_eq_true rfl) (Nat.le_of_ble_eq_true rfl)
          · skip
            rcases oj H with ⟨hq4, H⟩ | ⟨hq4, H⟩
            · refine WP.tsw (t := 109) 4 d_X8_court_53 (by rw [hq4]; decide) (by decide) rfl (by decide) ?_
              refine WP.aload_n d_X8_court_109 0 rfl ?_
              obtain ⟨x13, ex13, H⟩ := ob H
              refine WP.fI d_X8_court_110 gf_X8_283 (fun _ => rfl) ex13 ?_
              cases H
              exact WP.ireturn d_X8_court_113 rfl rfl (Nat.le_of_ble_eq_true rfl) (Nat.le_of_ble_eq_true rfl)
            · skip
              rcases oj H with ⟨hq5, H⟩ | ⟨hq5, H⟩
              · refine WP.tsw (t := 114) 5 d_X8_court_53 (by rw [hq5]; decide) (by decide) rfl (by decide) ?_
                refine WP.aload_n d_X8_court_114 0 rfl ?_
                obtain ⟨x15, e14, H⟩ := ob H
                refine WP.cV (c := 9) (As := []) (st := []) (st9 := [.int x15]) (cl9 := 0) (sl9 := 0) d_X8_court_115 (ok_X8_quarter V e14) tv_X8_quarter ti_X8_quarter ts_X8_quarter lk_X8_334 r_X8_court_X8_quarter kc_X8_quarter (kd_X8_quarter e14) rfl rfl (Nat.le_of_ble_eq_true rfl) rfl rfl rfl ?_
                cases H
                exact WP.ireturn d_X8_court_118 rfl rfl (Nat.le_of_ble_eq_true rfl) (Nat.le_of_ble_eq_true rfl)
              · skip
                refine WP.tswd (t := 119) d_X8_court_53 (tsw_out (n := 6) [0, 1, 2, 3, 4, 5] (by decide) (by decide +kernel) (List.forall_mem_cons.mpr ⟨hq0, (List.forall_mem_cons.mpr ⟨hq1, (List.forall_mem_cons.mpr ⟨hq2, (List.forall_mem_cons.mpr ⟨hq3, (List.forall_mem_cons.mpr ⟨hq4, (List.forall_mem_cons.mpr ⟨hq5, (fun _ hz9 => absurd hz9 List.not_mem_nil)⟩)⟩)⟩)⟩)⟩)⟩)) (by decide) ?_
                refine WP.iconst d_X8_court_119 ki_m1 ?_
                cases H
                exact WP.ireturn d_X8_court_120 rfl rfl (Nat.le_of_ble_eq_true rfl) (Nat.le_of_ble_eq_true rfl)

set_option maxRecDepth 20000 in
set_option maxHeartbeats 4000000 in
theorem ok_X8_wall (V : EV) {h : HA} {t : Nat} {l1 : Int32} {l2 : Int32} {r : Int32} {hR : HA} (H : X8_wall h t l1 l2 = some (r, hR)) : MG V M_X8_wall [.ref t, .int l1, .int l2] h (some (.int r)) hR := by
  unfold X8_wall at H
  obtain ⟨_, H⟩ := oc H
  refine MG.of (lv0 := [(0, .ref t), (1, .int l1), (2, .int l2)]) pn_X8 rfl (Nat.le_of_ble_eq_true rfl) ?_
  refine WP.aload_n d_X8_wall_0 0 rfl ?_
  refine WP.iconst d_X8_wall_1 ki_0 ?_
  obtain ⟨h1, eh1, H⟩ := ob H
  refine WP.uI d_X8_wall_2 gf_X8_102 rfl (Or.inl rfl) rfl rfl eh1 ?_
  refine WP.aload_n d_X8_wall_5 0 rfl ?_
  refine WP.iload_n d_X8_wall_6 1 rfl ?_
  obtain ⟨⟨x4, h3⟩, e2, H⟩ := ob H
  refine WP.cV (c := 9) (As := [.int l1]) (st := []) (st9 := [.int x4]) (cl9 := 0) (sl9 := 0) d_X8_wall_7 (ok_X8_hand V e2) tv_X8_hand ti_X8_hand ts_X8_hand lk_X8_331 r_X8_wall_X8_hand kc_X8_hand (kd_X8_hand e2) rfl rfl (Nat.le_of_ble_eq_true rfl) rfl rfl rfl ?_
  rcases oj H with ⟨hc, H⟩ | ⟨hc, H⟩
  · refine WP.if_eq_t d_X8_wall_10 hc ?_
    refine WP.iconst d_X8_wall_33 ki_0 ?_
    cases H
    exact WP.ireturn d_X8_wall_34 rfl rfl (Nat.le_of_ble_eq_true rfl) (Nat.le_of_ble_eq_true rfl)
  · refine WP.if_eq_f d_X8_wall_10 hc ?_
    refine WP.aload_n d_X8_wall_13 0 rfl ?_
    refine WP.iload_n d_X8_wall_14 2 rfl ?_
    obtain ⟨x6, e5, H⟩ := ob H
    refine WP.cV (c := 9) (As := [.int l2]) (st := []) (st9 := [.int x6]) (cl9 := 0) (sl9 := 0) d_X8_wall_15 (ok_X8_isField V e5) tv_X8_isField ti_X8_isField ts_X8_isField lk_X8_337 r_X8_wall_X8_isField kc_X8_isField (kd_X8_isField e5) rfl rfl (Nat.le_of_ble_eq_true rfl) rfl rfl rfl ?_
    rcases oj H with ⟨hc, H⟩ | ⟨hc, H⟩
    · refine WP.if_eq_t d_X8_wall_18 hc ?_
      refine WP.iconst d_X8_wall_33 ki_0 ?_
      cases H
      exact WP.ireturn d_X8_wall_34 rfl rfl (Nat.le_of_ble_eq_true rfl) (Nat.le_of_ble_eq_true rfl)
    · refine WP.if_eq_f d_X8_wall_18 hc ?_
      refine WP.aload_n d_X8_wall_21 0 rfl ?_
      refine WP.iload_n d_X8_wall_22 2 rfl ?_
      obtain ⟨x8, e7, H⟩ := ob H
      refine WP.cV (c := 9) (As := [.int l2]) (st := []) (st9 := [.int x8]) (cl9 := 0) (sl9 := 0) d_X8_wall_23 (ok_X8_isWall V e7) tv_X8_isWall ti_X8_isWall ts_X8_isWall lk_X8_292 r_X8_wall_X8_isWall kc_X8_isWall (kd_X8_isWall e7) rfl rfl (Nat.le_of_ble_eq_true rfl) rfl rfl rfl ?_
      rcases oj H with ⟨hc, H⟩ | ⟨hc, H⟩
      · refine WP.if_eq_t d_X8_wall_26 hc ?_
        refine WP.iconst d_X8_wall_33 ki_0 ?_
        cases H
        exact WP.ireturn d_X8_wall_34 rfl rfl (Nat.le_of_ble_eq_true rfl) (Nat.le_of_ble_eq_true rfl)
      · refine WP.if_eq_f d_X8_wall_26 hc ?_
        refine WP.iconst d_X8_wall_29 ki_1 ?_
        refine WP.goto d_X8_wall_30 ?_
        cases H
        exact WP.ireturn d_X8_wall_34 rfl rfl (Nat.le_of_ble_eq_true rfl) (Nat.le_of_ble_eq_true rfl)

set_option maxRecDepth 20000 in
set_option maxHeartbeats 4000000 in
theorem ok_X8_isJudge (V : EV) {h : HA} {t : Nat} {l1 : Int32} {r : Int32} (H : X8_isJudge h t l1 = some r) : MG V M_X8_isJudge [.ref t, .int l1] h (some (.int r)) h := by
  unfold X8_isJudge at H
  obtain ⟨_, H⟩ := oc H
  refine MG.of (lv0 := [(0, .ref t), (1, .int l1)]) pn_X8 rfl (Nat.le_of_ble_eq_true rfl) ?_
  refine WP.iload_n d_X8_isJudge_0 1 rfl ?_
  refine WP.iconst d_X8_isJudge_1 ki_0 ?_
  refine WP.aload_n d_X8_isJudge_2 0 rfl ?_
  obtain ⟨x1, ex1, H⟩ := ob H
  refine WP.fI d_X8_isJudge_3 gf_X8_280 (fun _ => rfl) ex1 ?_
  refine WP.iconst d_X8_isJudge_6 ki_1 ?_
  refine WP.isub d_X8_isJudge_7 ?_
  obtain ⟨x3, e2, H⟩ := ob H
  refine WP.cS (As := [.int l1, .int 0, .int (x1 - 1)]) (st := []) (st9 := [.int x3]) (cl9 := 0) (sl9 := 0) d_X8_isJudge_8 (ok_X8_in V (h := h) e2) tv_X8_in ts_X8_in lk_X8_114 r_X8_isJudge_X8_in rfl rfl (Nat.le_of_ble_eq_true rfl) rfl rfl rfl ?_
  obtain ⟨x4, ex4, H⟩ := ob H
  obtain ⟨rfl, hnx4⟩ := bz_sp ex4
  cases H
  exact WP.ireturn d_X8_isJudge_11 rfl hnx4 (Nat.le_of_ble_eq_true rfl) (Nat.le_of_ble_eq_true rfl)

set_option maxRecDepth 20000 in
set_option maxHeartbeats 4000000 in
theorem ok_X8_judge (V : EV) {h : HA} {t : Nat} {l1 : Int32} {l2 : Int32} {l3 : Int32} {r : Int32} {hR : HA} (H : X8_judge h t l1 l2 l3 = some (r, hR)) : MG V M_X8_judge [.ref t, .int l1, .int l2, .int l3] h (some (.int r)) hR := by
  unfold X8_judge at H
  obtain ⟨_, H⟩ := oc H
  refine MG.of (lv0 := [(0, .ref t), (1, .int l1), (2, .int l2), (3, .int l3)]) pn_X8 rfl (Nat.le_of_ble_eq_true rfl) ?_
  refine WP.aload_n d_X8_judge_0 0 rfl ?_
  refine WP.iconst d_X8_judge_1 ki_0 ?_
  obtain ⟨h1, eh1, H⟩ := ob H
  refine WP.uI d_X8_judge_2 gf_X8_102 rfl (Or.inl rfl) rfl rfl eh1 ?_
  refine WP.aload_n d_X8_judge_5 0 rfl ?_
  refine WP.iload_n d_X8_judge_6 1 rfl ?_
  obtain ⟨⟨x4, h3⟩, e2, H⟩ := ob H
  refine WP.cV (c := 9) (As := [.int l1]) (st := []) (st9 := [.int x4]) (cl9 := 0) (sl9 := 0) d_X8_judge_7 (ok_X8_hand V e2) tv_X8_hand ti_X8_hand ts_X8_hand lk_X8_331 r_X8_judge_X8_hand kc_X8_hand (kd_X8_hand e2) rfl rfl (Nat.le_of_ble_eq_true rfl) rfl rfl rfl ?_
  rcases oj H with ⟨hc, H⟩ | ⟨hc, H⟩
  · refine WP.if_eq_t d_X8_judge_10 hc ?_
    refine WP.iconst d_X8_judge_21 ki_m1 ?_
    cases H
    exact WP.ireturn d_X8_judge_22 rfl rfl (Nat.le_of_ble_eq_true rfl) (Nat.le_of_ble_eq_true rfl)
  · refine WP.if_eq_f d_X8_judge_10 hc ?_
    refine WP.aload_n d_X8_judge_13 0 rfl ?_
    refine WP.iload_n d_X8_judge_14 2 rfl ?_
    obtain ⟨x6, e5, H⟩ := ob H
    refine WP.cV (c := 9) (As := [.int l2]) (st := []) (st9 := [.int x6]) (cl9 := 0) (sl9 := 0) d_X8_judge_15 (ok_X8_isJudge V e5) tv_X8_isJudge ti_X8_isJudge ts_X8_isJudge lk_X8_340 r_X8_judge_X8_isJudge kc_X8_isJudge (kd_X8_isJudge e5) rfl rfl (Nat.le_of_ble_eq_true rfl) rfl rfl rfl ?_
    rcases oj H with ⟨hc, H⟩ | ⟨hc, H⟩
    · refine WP.if_ne_t d_X8_judge_18 hc ?_
      refine WP.iconst d_X8_judge_21 ki_m1 ?_
      cases H
      exact WP.ireturn d_X8_judge_22 rfl rfl (Nat.le_of_ble_eq_true rfl) (Nat.le_of_ble_eq_true rfl)
    · refine WP.if_ne_f d_X8_judge_18 hc ?_
      refine WP.iload_n d_X8_judge_23 3 rfl ?_
      refine WP.iconst d_X8_judge_24 ki_0 ?_
      refine WP.iconst d_X8_judge_25 ki_4 ?_
      obtain ⟨x8, e7, H⟩ := ob H
      refine WP.cS (As := [.int l3, .int 0, .int 4]) (st := []) (st9 := [.int x8]) (cl9 := 0) (sl9 := 0) d_X8_judge_26 (ok_X8_in V (h := h3) e7) tv_X8_in ts_X8_in lk_X8_114 r_X8_judge_X8_in rfl rfl (Nat.le_of_ble_eq_true rfl) rfl rfl rfl ?_
      rcases oj H with ⟨hc, H⟩ | ⟨hc, H⟩
      · refine WP.if_eq_t d_X8_judge_29 hc ?_
        refine WP.iload_n d_X8_judge_41 3 rfl ?_
        refine WP.bipush d_X8_judge_42 kb_10 ?_
        refine WP.bipush d_X8_judge_44 kb_109 ?_
        obtain ⟨x10, e9, H⟩ := ob H
        refine WP.cS (As := [.int l3, .int 10, .int 109]) (st := []) (st9 := [.int x10]) (cl9 := 0) (sl9 := 0) d_X8_judge_46 (ok_X8_in V (h := h3) e9) tv_X8_in ts_X8_in lk_X8_114 r_X8_judge_X8_in rfl rfl (Nat.le_of_ble_eq_true rfl) rfl rfl rfl ?_
        rcases oj H with ⟨hc, H⟩ | ⟨hc, H⟩
        · refine WP.if_eq_t d_X8_judge_49 hc ?_
          refine WP.iconst d_X8_judge_75 ki_m1 ?_
          cases H
          exact WP.ireturn d_X8_judge_76 rfl rfl (Nat.le_of_ble_eq_true rfl) (Nat.le_of_ble_eq_true rfl)
        · refine WP.if_eq_f d_X8_judge_49 hc ?_
          refine WP.aload_n d_X8_judge_52 0 rfl ?_
          refine WP.aload_n d_X8_judge_53 0 rfl ?_
          refine WP.iload_n d_X8_judge_54 2 rfl ?_
          refine WP.iconst d_X8_judge_55 ki_1 ?_
          obtain ⟨x12, e11, H⟩ := ob H
          refine WP.cV (c := 9) (As := [.int l2, .int 1]) (st := [.ref t]) (st9 := [.int x12, .ref t]) (cl9 := 0) (sl9 := 0) d_X8_judge_56 (ok_X8_judgeOf V e11) tv_X8_judgeOf ti_X8_judgeOf ts_X8_judgeOf lk_X8_307 r_X8_judge_X8_judgeOf kc_X8_judgeOf (kd_X8_judgeOf e11) rfl rfl (Nat.le_of_ble_eq_true rfl) rfl rfl rfl ?_
          refine WP.aload_n d_X8_judge_59 0 rfl ?_
          refine WP.iload_n d_X8_judge_60 2 rfl ?_
          refine WP.iconst d_X8_judge_61 ki_4 ?_
          obtain ⟨x14, e13, H⟩ := ob H
          refine WP.cV (c := 9) (As := [.int l2, .int 4]) (st := [.int x12, .ref t]) (st9 := [.int x14, .int x12, .ref t]) (cl9 := 0) (sl9 := 0) d_X8_judge_62 (ok_X8_judgeOf V e13) tv_X8_judgeOf ti_X8_judgeOf ts_X8_judgeOf lk_X8_307 r_X8_judge_X8_judgeOf kc_X8_judgeOf (kd_X8_judgeOf e13) rfl rfl (Nat.le_of_ble_eq_true rfl) rfl rfl rfl ?_
          refine WP.iload_n d_X8_judge_65 3 rfl ?_
          refine WP.bipush d_X8_judge_66 kb_10 ?_
          refine WP.isub d_X8_judge_68 ?_
          obtain ⟨x16, e15, H⟩ := ob H
          refine WP.cV (c := 9) (As := [.int x12, .int x14, .int (l3 - 10)]) (st := []) (st9 := [.int x16]) (cl9 := 0) (sl9 := 0) d_X8_judge_69 (ok_X8_faces V e15) tv_X8_faces ti_X8_faces ts_X8_faces lk_X8_310 r_X8_judge_X8_faces kc_X8_faces (kd_X8_faces e15) rfl rfl (Nat.le_of_ble_eq_true rfl) rfl rfl rfl ?_
          refine WP.goto d_X8_judge_72 ?_
          cases H
          exact WP.ireturn d_X8_judge_76 rfl rfl (Nat.le_of_ble_eq_true rfl) (Nat.le_of_ble_eq_true rfl)
      · refine WP.if_eq_f d_X8_judge_29 hc ?_
        refine WP.aload_n d_X8_judge_32 0 rfl ?_
        refine WP.iload_n d_X8_judge_33 2 rfl ?_
        refine WP.iload_n d_X8_judge_34 3 rfl ?_
        obtain ⟨x18, e17, H⟩ := ob H
        refine WP.cV (c := 9) (As := [.int l2, .int l3]) (st := []) (st9 := [.int x18]) (cl9 := 0) (sl9 := 0) d_X8_judge_35 (ok_X8_judgeOf V e17) tv_X8_judgeOf ti_X8_judgeOf ts_X8_judgeOf lk_X8_307 r_X8_judge_X8_judgeOf kc_X8_judgeOf (kd_X8_judgeOf e17) rfl rfl (Nat.le_of_ble_eq_true rfl) rfl rfl rfl ?_
        refine WP.goto d_X8_judge_38 ?_
        cases H
        exact WP.ireturn d_X8_judge_76 rfl rfl (Nat.le_of_ble_eq_true rfl) (Nat.le_of_ble_eq_true rfl)

set_option maxRecDepth 20000 in
set_option maxHeartbeats 4000000 in
theorem ok_X8_isPleader (V : EV) {h : HA} {t : Nat} {l1 : Int32} {r : Int32} (H : X8_isPleader h t l1 = some r) : MG V M_X8_isPleader [.ref t, .int l1] h (some (.int r)) h := by
  unfold X8_isPleader at H
  obtain ⟨_, H⟩ := oc H
  refine MG.of (lv0 := [(0, .ref t), (1, .int l1)]) pn_X8 rfl (Nat.le_of_ble_eq_true rfl) ?_
  refine WP.iload_n d_X8_isPleader_0 1 rfl ?_
  refine WP.iconst d_X8_isPleader_1 ki_0 ?_
  refine WP.aload_n d_X8_isPleader_2 0 rfl ?_
  obtain ⟨x1, ex1, H⟩ := ob H
  refine WP.fI d_X8_isPleader_3 gf_X8_283 (fun _ => rfl) ex1 ?_
  refine WP.iconst d_X8_isPleader_6 ki_1 ?_
  refine WP.isub d_X8_isPleader_7 ?_
  obtain ⟨x3, e2, H⟩ := ob H
  refine WP.cS (As := [.int l1, .int 0, .int (x1 - 1)]) (st := []) (st9 := [.int x3]) (cl9 := 0) (sl9 := 0) d_X8_isPleader_8 (ok_X8_in V (h := h) e2) tv_X8_in ts_X8_in lk_X8_114 r_X8_isPleader_X8_in rfl rfl (Nat.le_of_ble_eq_true rfl) rfl rfl rfl ?_
  obtain ⟨x4, ex4, H⟩ := ob H
  obtain ⟨rfl, hnx4⟩ := bz_sp ex4
  cases H
  exact WP.ireturn d_X8_isPleader_11 rfl hnx4 (Nat.le_of_ble_eq_true rfl) (Nat.le_of_ble_eq_true rfl)

set_option maxRecDepth 20000 in
set_option maxHeartbeats 4000000 in
theorem ok_X8_pleader (V : EV) {h : HA} {t : Nat} {l1 : Int32} {l2 : Int32} {l3 : Int32} {r : Int32} {hR : HA} (H : X8_pleader h t l1 l2 l3 = some (r, hR)) : MG V M_X8_pleader [.ref t, .int l1, .int l2, .int l3] h (some (.int r)) hR := by
  unfold X8_pleader at H
  obtain ⟨_, H⟩ := oc H
  refine MG.of (lv0 := [(0, .ref t), (1, .int l1), (2, .int l2), (3, .int l3)]) pn_X8 rfl (Nat.le_of_ble_eq_true rfl) ?_
  refine WP.aload_n d_X8_pleader_0 0 rfl ?_
  refine WP.iconst d_X8_pleader_1 ki_0 ?_
  obtain ⟨h1, eh1, H⟩ := ob H
  refine WP.uI d_X8_pleader_2 gf_X8_102 rfl (Or.inl rfl) rfl rfl eh1 ?_
  refine WP.aload_n d_X8_pleader_5 0 rfl ?_
  refine WP.iload_n d_X8_pleader_6 1 rfl ?_
  obtain ⟨⟨x4, h3⟩, e2, H⟩ := ob H
  refine WP.cV (c := 9) (As := [.int l1]) (st := []) (st9 := [.int x4]) (cl9 := 0) (sl9 := 0) d_X8_pleader_7 (ok_X8_hand V e2) tv_X8_hand ti_X8_hand ts_X8_hand lk_X8_331 r_X8_pleader_X8_hand kc_X8_hand (kd_X8_hand e2) rfl rfl (Nat.le_of_ble_eq_true rfl) rfl rfl rfl ?_
  rcases oj H with ⟨hc, H⟩ | ⟨hc, H⟩
  · refine WP.if_eq_t d_X8_pleader_10 hc ?_
    refine WP.bipush d_X8_pleader_44 kb_m2 ?_
    cases H
    exact WP.ireturn d_X8_pleader_46 rfl rfl (Nat.le_of_ble_eq_true rfl) (Nat.le_of_ble_eq_true rfl)
  · refine WP.if_eq_f d_X8_pleader_10 hc ?_
    refine WP.aload_n d_X8_pleader_13 0 rfl ?_
    refine WP.iload_n d_X8_pleader_14 2 rfl ?_
    obtain ⟨x6, e5, H⟩ := ob H
    refine WP.cV (c := 9) (As := [.int l2]) (st := []) (st9 := [.int x6]) (cl9 := 0) (sl9 := 0) d_X8_pleader_15 (ok_X8_isPleader V e5) tv_X8_isPleader ti_X8_isPleader ts_X8_isPleader lk_X8_343 r_X8_pleader_X8_isPleader kc_X8_isPleader (kd_X8_isPleader e5) rfl rfl (Nat.le_of_ble_eq_true rfl) rfl rfl rfl ?_
    rcases oj H with ⟨hc, H⟩ | ⟨hc, H⟩
    · refine WP.if_eq_t d_X8_pleader_18 hc ?_
      refine WP.bipush d_X8_pleader_44 kb_m2 ?_
      cases H
      exact WP.ireturn d_X8_pleader_46 rfl rfl (Nat.le_of_ble_eq_true rfl) (Nat.le_of_ble_eq_true rfl)
    · refine WP.if_eq_f d_X8_pleader_18 hc ?_
      refine WP.aload_n d_X8_pleader_21 0 rfl ?_
      refine WP.bipush d_X8_pleader_22 kb_34 ?_
      refine WP.iconst d_X8_pleader_24 ki_2 ?_
      refine WP.iload_n d_X8_pleader_25 2 rfl ?_
      refine WP.imul d_X8_pleader_26 ?_
      refine WP.iadd d_X8_pleader_27 ?_
      refine WP.iload_n d_X8_pleader_28 3 rfl ?_
      obtain ⟨j7, hs8, H⟩ := ol H
      have J9 : WP V M_X8_pleader 37 [] [.int j7, .int (34 + (2 * l2)), .ref t] h3 0 0 (some (.int r)) hR := by
        refine WP.iadd d_X8_pleader_37 ?_
        obtain ⟨x11, e10, H⟩ := ob H
        refine WP.cV (c := 9) (As := [.int ((34 + (2 * l2)) + j7)]) (st := []) (st9 := [.int x11]) (cl9 := 0) (sl9 := 0) d_X8_pleader_38 (ok_X8_of V e10) tv_X8_of ti_X8_of ts_X8_of lk_X8_267 r_X8_pleader_X8_of kc_X8_of (kd_X8_of e10) rfl rfl (Nat.le_of_ble_eq_true rfl) rfl rfl rfl ?_
        refine WP.goto d_X8_pleader_41 ?_
        cases H
        exact WP.ireturn d_X8_pleader_46 rfl rfl (Nat.le_of_ble_eq_true rfl) (Nat.le_of_ble_eq_true rfl)
      rcases oj hs8 with ⟨hc, hs8⟩ | ⟨hc, hs8⟩
      · refine WP.if_eq_t d_X8_pleader_29 hc ?_
        refine WP.iconst d_X8_pleader_36 ki_0 ?_
        cases hs8
        exact WP.sub [] rfl J9
      · refine WP.if_eq_f d_X8_pleader_29 hc ?_
        refine WP.iconst d_X8_pleader_32 ki_1 ?_
        refine WP.goto d_X8_pleader_33 ?_
        cases hs8
        exact WP.sub [] rfl J9

set_option maxRecDepth 20000 in
set_option maxHeartbeats 4000000 in
theorem ok_X8_far (V : EV) {h : HA} {t : Nat} {l1 : Int32} {l2 : Int32} {l3 : Int32} {r : Int32} {hR : HA} (H : X8_far h t l1 l2 l3 = some (r, hR)) : MG V M_X8_far [.ref t, .int l1, .int l2, .int l3] h (some (.int r)) hR := by
  unfold X8_far at H
  obtain ⟨_, H⟩ := oc H
  refine MG.of (lv0 := [(0, .ref t), (1, .int l1), (2, .int l2), (3, .int l3)]) pn_X8 rfl (Nat.le_of_ble_eq_true rfl) ?_
  refine WP.aload_n d_X8_far_0 0 rfl ?_
  refine WP.iconst d_X8_far_1 ki_0 ?_
  obtain ⟨h1, eh1, H⟩ := ob H
  refine WP.uI d_X8_far_2 gf_X8_102 rfl (Or.inl rfl) rfl rfl eh1 ?_
  refine WP.aload_n d_X8_far_5 0 rfl ?_
  refine WP.iload_n d_X8_far_6 1 rfl ?_
  obtain ⟨⟨x4, h3⟩, e2, H⟩ := ob H
  refine WP.cV (c := 9) (As := [.int l1]) (st := []) (st9 := [.int x4]) (cl9 := 0) (sl9 := 0) d_X8_far_7 (ok_X8_hand V e2) tv_X8_hand ti_X8_hand ts_X8_hand lk_X8_331 r_X8_far_X8_hand kc_X8_hand (kd_X8_hand e2) rfl rfl (Nat.le_of_ble_eq_true rfl) rfl rfl rfl ?_
  rcases oj H with ⟨hc, H⟩ | ⟨hc, H⟩
  · refine WP.if_eq_t d_X8_far_10 hc ?_
    refine WP.iconst d_X8_far_50 ki_m1 ?_
    cases H
    exact WP.ireturn d_X8_far_51 rfl rfl (Nat.le_of_ble_eq_true rfl) (Nat.le_of_ble_eq_true rfl)
  · refine WP.if_eq_f d_X8_far_10 hc ?_
    refine WP.aload_n d_X8_far_13 0 rfl ?_
    refine WP.iload_n d_X8_far_14 2 rfl ?_
    obtain ⟨x6, e5, H⟩ := ob H
    refine WP.cV (c := 9) (As := [.int l2]) (st := []) (st9 := [.int x6]) (cl9 := 0) (sl9 := 0) d_X8_far_15 (ok_X8_isField V e5) tv_X8_isField ti_X8_isField ts_X8_isField lk_X8_337 r_X8_far_X8_isField kc_X8_isField (kd_X8_isField e5) rfl rfl (Nat.le_of_ble_eq_true rfl) rfl rfl rfl ?_
    rcases oj H with ⟨hc, H⟩ | ⟨hc, H⟩
    · refine WP.if_eq_t d_X8_far_18 hc ?_
      refine WP.iconst d_X8_far_50 ki_m1 ?_
      cases H
      exact WP.ireturn d_X8_far_51 rfl rfl (Nat.le_of_ble_eq_true rfl) (Nat.le_of_ble_eq_true rfl)
    · refine WP.if_eq_f d_X8_far_18 hc ?_
      refine WP.aload_n d_X8_far_21 0 rfl ?_
      refine WP.iload_n d_X8_far_22 3 rfl ?_
      obtain ⟨x8, e7, H⟩ := ob H
      refine WP.cV (c := 9) (As := [.int l3]) (st := []) (st9 := [.int x8]) (cl9 := 0) (sl9 := 0) d_X8_far_23 (ok_X8_isField V e7) tv_X8_isField ti_X8_isField ts_X8_isField lk_X8_337 r_X8_far_X8_isField kc_X8_isField (kd_X8_isField e7) rfl rfl (Nat.le_of_ble_eq_true rfl) rfl rfl rfl ?_
      rcases oj H with ⟨hc, H⟩ | ⟨hc, H⟩
      · refine WP.if_eq_t d_X8_far_26 hc ?_
        refine WP.iconst d_X8_far_50 ki_m1 ?_
        cases H
        exact WP.ireturn d_X8_far_51 rfl rfl (Nat.le_of_ble_eq_true rfl) (Nat.le_of_ble_eq_true rfl)
      · refine WP.if_eq_f d_X8_far_26 hc ?_
        refine WP.aload_n d_X8_far_29 0 rfl ?_
        refine WP.iload_n d_X8_far_30 2 rfl ?_
        refine WP.iload_n d_X8_far_31 3 rfl ?_
        obtain ⟨x10, e9, H⟩ := ob H
        refine WP.cV (c := 9) (As := [.int l2, .int l3]) (st := []) (st9 := [.int x10]) (cl9 := 0) (sl9 := 0) d_X8_far_32 (ok_X8_farOf V e9) tv_X8_farOf ti_X8_farOf ts_X8_farOf lk_X8_298 r_X8_far_X8_farOf kc_X8_farOf (kd_X8_farOf e9) rfl rfl (Nat.le_of_ble_eq_true rfl) rfl rfl rfl ?_
        refine WP.sipush d_X8_far_35 ks_1000 ?_
        rcases oj H with ⟨hc, H⟩ | ⟨hc, H⟩
        · refine WP.icmp_ge_t d_X8_far_38 hc ?_
          refine WP.aload_n d_X8_far_41 0 rfl ?_
          refine WP.iload_n d_X8_far_42 2 rfl ?_
          refine WP.iload_n d_X8_far_43 3 rfl ?_
          obtain ⟨x12, e11, H⟩ := ob H
          refine WP.cV (c := 9) (As := [.int l2, .int l3]) (st := []) (st9 := [.int x12]) (cl9 := 0) (sl9 := 0) d_X8_far_44 (ok_X8_farOf V e11) tv_X8_farOf ti_X8_farOf ts_X8_farOf lk_X8_298 r_X8_far_X8_farOf kc_X8_farOf (kd_X8_farOf e11) rfl rfl (Nat.le_of_ble_eq_true rfl) rfl rfl rfl ?_
          refine WP.goto d_X8_far_47 ?_
          cases H
          exact WP.ireturn d_X8_far_51 rfl rfl (Nat.le_of_ble_eq_true rfl) (Nat.le_of_ble_eq_true rfl)
        · refine WP.icmp_ge_f d_X8_far_38 hc ?_
          refine WP.iconst d_X8_far_50 ki_m1 ?_
          cases H
          exact WP.ireturn d_X8_far_51 rfl rfl (Nat.le_of_ble_eq_true rfl) (Nat.le_of_ble_eq_true rfl)

set_option maxRecDepth 20000 in
set_option maxHeartbeats 4000000 in
theorem ok_X8_comes (V : EV) {h : HA} {t : Nat} {l1 : Int32} {l2 : Int32} {l3 : Int32} {l4 : Int32} {r : Int32} {hR : HA} (H : X8_comes h t l1 l2 l3 l4 = some (r, hR)) : MG V M_X8_comes [.ref t, .int l1, .int l2, .int l3, .int l4] h (some (.int r)) hR := by
  unfold X8_comes at H
  obtain ⟨_, H⟩ := oc H
  refine MG.of (lv0 := [(0, .ref t), (1, .int l1), (2, .int l2), (3, .int l3), (4, .int l4)]) pn_X8 rfl (Nat.le_of_ble_eq_true rfl) ?_
  refine WP.aload_n d_X8_comes_0 0 rfl ?_
  refine WP.iconst d_X8_comes_1 ki_0 ?_
  obtain ⟨h1, eh1, H⟩ := ob H
  refine WP.uI d_X8_comes_2 gf_X8_102 rfl (Or.inl rfl) rfl rfl eh1 ?_
  refine WP.iload d_X8_comes_5 4 rfl ?_
  refine WP.iconst d_X8_comes_7 ki_0 ?_
  refine WP.bipush d_X8_comes_8 kb_99 ?_
  obtain ⟨x3, e2, H⟩ := ob H
  refine WP.cS (As := [.int l4, .int 0, .int 99]) (st := []) (st9 := [.int x3]) (cl9 := 0) (sl9 := 0) d_X8_comes_10 (ok_X8_in V (h := h1) e2) tv_X8_in ts_X8_in lk_X8_114 r_X8_comes_X8_in rfl rfl (Nat.le_of_ble_eq_true rfl) rfl rfl rfl ?_
  rcases oj H with ⟨hc, H⟩ | ⟨hc, H⟩
  · refine WP.if_eq_t d_X8_comes_13 hc ?_
    refine WP.iconst d_X8_comes_40 ki_m1 ?_
    cases H
    exact WP.ireturn d_X8_comes_41 rfl rfl (Nat.le_of_ble_eq_true rfl) (Nat.le_of_ble_eq_true rfl)
  · refine WP.if_eq_f d_X8_comes_13 hc ?_
    refine WP.aload_n d_X8_comes_16 0 rfl ?_
    refine WP.iload_n d_X8_comes_17 1 rfl ?_
    obtain ⟨⟨x6, h5⟩, e4, H⟩ := ob H
    refine WP.cV (c := 9) (As := [.int l1]) (st := []) (st9 := [.int x6]) (cl9 := 0) (sl9 := 0) d_X8_comes_18 (ok_X8_hand V e4) tv_X8_hand ti_X8_hand ts_X8_hand lk_X8_331 r_X8_comes_X8_hand kc_X8_hand (kd_X8_hand e4) rfl rfl (Nat.le_of_ble_eq_true rfl) rfl rfl rfl ?_
    rcases oj H with ⟨hc, H⟩ | ⟨hc, H⟩
    · refine WP.if_eq_t d_X8_comes_21 hc ?_
      refine WP.iconst d_X8_comes_40 ki_m1 ?_
      cases H
      exact WP.ireturn d_X8_comes_41 rfl rfl (Nat.le_of_ble_eq_true rfl) (Nat.le_of_ble_eq_true rfl)
    · refine WP.if_eq_f d_X8_comes_21 hc ?_
      refine WP.aload_n d_X8_comes_24 0 rfl ?_
      refine WP.iload_n d_X8_comes_25 2 rfl ?_
      obtain ⟨x8, e7, H⟩ := ob H
      refine WP.cV (c := 9) (As := [.int l2]) (st := []) (st9 := [.int x8]) (cl9 := 0) (sl9 := 0) d_X8_comes_26 (ok_X8_isJudge V e7) tv_X8_isJudge ti_X8_isJudge ts_X8_isJudge lk_X8_340 r_X8_comes_X8_isJudge kc_X8_isJudge (kd_X8_isJudge e7) rfl rfl (Nat.le_of_ble_eq_true rfl) rfl rfl rfl ?_
      rcases oj H with ⟨hc, H⟩ | ⟨hc, H⟩
      · refine WP.if_eq_t d_X8_comes_29 hc ?_
        refine WP.iconst d_X8_comes_40 ki_m1 ?_
        cases H
        exact WP.ireturn d_X8_comes_41 rfl rfl (Nat.le_of_ble_eq_true rfl) (Nat.le_of_ble_eq_true rfl)
      · refine WP.if_eq_f d_X8_comes_29 hc ?_
        refine WP.aload_n d_X8_comes_32 0 rfl ?_
        refine WP.iload_n d_X8_comes_33 3 rfl ?_
        obtain ⟨x10, e9, H⟩ := ob H
        refine WP.cV (c := 9) (As := [.int l3]) (st := []) (st9 := [.int x10]) (cl9 := 0) (sl9 := 0) d_X8_comes_34 (ok_X8_isField V e9) tv_X8_isField ti_X8_isField ts_X8_isField lk_X8_337 r_X8_comes_X8_isField kc_X8_isField (kd_X8_isField e9) rfl rfl (Nat.le_of_ble_eq_true rfl) rfl rfl rfl ?_
        rcases oj H with ⟨hc, H⟩ | ⟨hc, H⟩
        · refine WP.if_ne_t d_X8_comes_37 hc ?_
          refine WP.iconst d_X8_comes_40 ki_m1 ?_
          cases H
          exact WP.ireturn d_X8_comes_41 rfl rfl (Nat.le_of_ble_eq_true rfl) (Nat.le_of_ble_eq_true rfl)
        · refine WP.if_ne_f d_X8_comes_37 hc ?_
          refine WP.aload_n d_X8_comes_42 0 rfl ?_
          refine WP.iload_n d_X8_comes_43 2 rfl ?_
          refine WP.iconst d_X8_comes_44 ki_0 ?_
          obtain ⟨x12, e11, H⟩ := ob H
          refine WP.cV (c := 9) (As := [.int l2, .int 0]) (st := []) (st9 := [.int x12]) (cl9 := 0) (sl9 := 0) d_X8_comes_45 (ok_X8_judgeOf V e11) tv_X8_judgeOf ti_X8_judgeOf ts_X8_judgeOf lk_X8_307 r_X8_comes_X8_judgeOf kc_X8_judgeOf (kd_X8_judgeOf e11) rfl rfl (Nat.le_of_ble_eq_true rfl) rfl rfl rfl ?_
          refine WP.istore (lv9 := [(5, .int x12), (0, .ref t), (1, .int l1), (2, .int l2), (3, .int l3), (4, .int l4)]) d_X8_comes_48 (Nat.le_of_ble_eq_true rfl) rfl ?_
          refine WP.aload_n d_X8_comes_50 1 rfl ?_
          refine WP.iload_n d_X8_comes_51 4 rfl ?_
          refine WP.iload d_X8_comes_52 0 rfl ?_
          obtain ⟨x14, e13, H⟩ := ob H
          refine WP.cV (c := 9) (As := [.int l3, .int x12]) (st := []) (st9 := [.int x14]) (cl9 := 0) (sl9 := 0) d_X8_comes_54 (ok_X8_farOf V e13) tv_X8_farOf ti_X8_farOf ts_X8_farOf lk_X8_298 r_X8_comes_X8_farOf kc_X8_farOf (kd_X8_farOf e13) rfl rfl (Nat.le_of_ble_eq_true rfl) rfl rfl rfl ?_
          refine WP.sipush d_X8_comes_57 ks_1000 ?_
          rcases oj H with ⟨hc, H⟩ | ⟨hc, H⟩
          · refine WP.icmp_ne_t d_X8_comes_60 hc ?_
            refine WP.iconst d_X8_comes_63 ki_m1 ?_
            refine WP.goto d_X8_comes_64 ?_
            cases H
            exact WP.ireturn d_X8_comes_95 rfl rfl (Nat.le_of_ble_eq_true rfl) (Nat.le_of_ble_eq_true rfl)
          · refine WP.icmp_ne_f d_X8_comes_60 hc ?_
            refine WP.aload_n d_X8_comes_67 1 rfl ?_
            refine WP.iload d_X8_comes_68 0 rfl ?_
            refine WP.iload_n d_X8_comes_70 4 rfl ?_
            obtain ⟨x16, e15, H⟩ := ob H
            refine WP.cV (c := 9) (As := [.int x12, .int l3]) (st := []) (st9 := [.int x16]) (cl9 := 0) (sl9 := 0) d_X8_comes_71 (ok_X8_cameFrom V e15) tv_X8_cameFrom ti_X8_cameFrom ts_X8_cameFrom lk_X8_301 r_X8_comes_X8_cameFrom kc_X8_cameFrom (kd_X8_cameFrom e15) rfl rfl (Nat.le_of_ble_eq_true rfl) rfl rfl rfl ?_
            refine WP.aload_n d_X8_comes_74 1 rfl ?_
            refine WP.aload_n d_X8_comes_75 1 rfl ?_
            refine WP.iload_n d_X8_comes_76 3 rfl ?_
            refine WP.iconst d_X8_comes_77 ki_1 ?_
            obtain ⟨x18, e17, H⟩ := ob H
            refine WP.cV (c := 9) (As := [.int l2, .int 1]) (st := [.ref t, .int x16]) (st9 := [.int x18, .ref t, .int x16]) (cl9 := 0) (sl9 := 0) d_X8_comes_78 (ok_X8_judgeOf V e17) tv_X8_judgeOf ti_X8_judgeOf ts_X8_judgeOf lk_X8_307 r_X8_comes_X8_judgeOf kc_X8_judgeOf (kd_X8_judgeOf e17) rfl rfl (Nat.le_of_ble_eq_true rfl) rfl rfl rfl ?_
            refine WP.aload_n d_X8_comes_81 1 rfl ?_
            refine WP.iload_n d_X8_comes_82 3 rfl ?_
            refine WP.iconst d_X8_comes_83 ki_4 ?_
            obtain ⟨x20, e19, H⟩ := ob H
            refine WP.cV (c := 9) (As := [.int l2, .int 4]) (st := [.int x18, .ref t, .int x16]) (st9 := [.int x20, .int x18, .ref t, .int x16]) (cl9 := 0) (sl9 := 0) d_X8_comes_84 (ok_X8_judgeOf V e19) tv_X8_judgeOf ti_X8_judgeOf ts_X8_judgeOf lk_X8_307 r_X8_comes_X8_judgeOf kc_X8_judgeOf (kd_X8_judgeOf e19) rfl rfl (Nat.le_of_ble_eq_true rfl) rfl rfl rfl ?_
            refine WP.iload d_X8_comes_87 5 rfl ?_
            obtain ⟨x22, e21, H⟩ := ob H
            refine WP.cV (c := 9) (As := [.int x18, .int x20, .int l4]) (st := [.int x16]) (st9 := [.int x22, .int x16]) (cl9 := 0) (sl9 := 0) d_X8_comes_89 (ok_X8_faces V e21) tv_X8_faces ti_X8_faces ts_X8_faces lk_X8_310 r_X8_comes_X8_faces kc_X8_faces (kd_X8_faces e21) rfl rfl (Nat.le_of_ble_eq_true rfl) rfl rfl rfl ?_
            obtain ⟨x24, e23, H⟩ := ob H
            refine WP.cS (As := [.int x16, .int x22]) (st := []) (st9 := [.int x24]) (cl9 := 0) (sl9 := 0) d_X8_comes_92 (ok_X8_turned V (h := h5) e23) tv_X8_turned ts_X8_turned lk_X8_304 r_X8_comes_X8_turned rfl rfl (Nat.le_of_ble_eq_true rfl) rfl rfl rfl ?_
            cases H
            exact WP.ireturn d_X8_comes_95 rfl rfl (Nat.le_of_ble_eq_true rfl) (Nat.le_of_ble_eq_true rfl)

set_option maxRecDepth 20000 in
set_option maxHeartbeats 4000000 in
theorem ok_X8_isLoud (V : EV) {h : HA} {l0 : Int32} {l1 : Int32} {r : Int32} (H : X8_isLoud l0 l1 = some r) : MG V M_X8_isLoud [.int l0, .int l1] h (some (.int r)) h := by
  unfold X8_isLoud at H
  refine MG.of (lv0 := [(0, .int l0), (1, .int l1)]) pn_X8 rfl (Nat.le_of_ble_eq_true rfl) ?_
  refine WP.iload_n d_X8_isLoud_0 0 rfl ?_
  refine WP.iconst d_X8_isLoud_1 ki_0 ?_
  refine WP.bipush d_X8_isLoud_2 kb_99 ?_
  obtain ⟨x2, e1, H⟩ := ob H
  refine WP.cS (As := [.int l0, .int 0, .int 99]) (st := []) (st9 := [.int x2]) (cl9 := 0) (sl9 := 0) d_X8_isLoud_4 (ok_X8_in V (h := h) e1) tv_X8_in ts_X8_in lk_X8_114 r_X8_isLoud_X8_in rfl rfl (Nat.le_of_ble_eq_true rfl) rfl rfl rfl ?_
  rcases oj H with ⟨hc, H⟩ | ⟨hc, H⟩
  · refine WP.if_eq_t d_X8_isLoud_7 hc ?_
    refine WP.iconst d_X8_isLoud_24 ki_0 ?_
    cases H
    exact WP.ireturn d_X8_isLoud_25 rfl rfl (Nat.le_of_ble_eq_true rfl) (Nat.le_of_ble_eq_true rfl)
  · refine WP.if_eq_f d_X8_isLoud_7 hc ?_
    refine WP.iload_n d_X8_isLoud_10 1 rfl ?_
    refine WP.iconst d_X8_isLoud_11 ki_0 ?_
    refine WP.bipush d_X8_isLoud_12 kb_9 ?_
    obtain ⟨x4, e3, H⟩ := ob H
    refine WP.cS (As := [.int l1, .int 0, .int 9]) (st := []) (st9 := [.int x4]) (cl9 := 0) (sl9 := 0) d_X8_isLoud_14 (ok_X8_in V (h := h) e3) tv_X8_in ts_X8_in lk_X8_114 r_X8_isLoud_X8_in rfl rfl (Nat.le_of_ble_eq_true rfl) rfl rfl rfl ?_
    rcases oj H with ⟨hc, H⟩ | ⟨hc, H⟩
    · refine WP.if_eq_t d_X8_isLoud_17 hc ?_
      refine WP.iconst d_X8_isLoud_24 ki_0 ?_
      cases H
      exact WP.ireturn d_X8_isLoud_25 rfl rfl (Nat.le_of_ble_eq_true rfl) (Nat.le_of_ble_eq_true rfl)
    · refine WP.if_eq_f d_X8_isLoud_17 hc ?_
      refine WP.iconst d_X8_isLoud_20 ki_1 ?_
      refine WP.goto d_X8_isLoud_21 ?_
      cases H
      exact WP.ireturn d_X8_isLoud_25 rfl rfl (Nat.le_of_ble_eq_true rfl) (Nat.le_of_ble_eq_true rfl)

set_option maxRecDepth 20000 in
set_option maxHeartbeats 4000000 in
theorem ok_X8_ears (V : EV) {h : HA} {t : Nat} {l1 : Int32} {l2 : Int32} {l3 : Int32} {l4 : Int32} {r : Int32} {hR : HA} (H : X8_ears h t l1 l2 l3 l4 = some (r, hR)) : MG V M_X8_ears [.ref t, .int l1, .int l2, .int l3, .int l4] h (some (.int r)) hR := by
  unfold X8_ears at H
  obtain ⟨_, H⟩ := oc H
  refine MG.of (lv0 := [(0, .ref t), (1, .int l1), (2, .int l2), (3, .int l3), (4, .int l4)]) pn_X8 rfl (Nat.le_of_ble_eq_true rfl) ?_
  refine WP.aload_n d_X8_ears_0 0 rfl ?_
  refine WP.iconst d_X8_ears_1 ki_0 ?_
  obtain ⟨h1, eh1, H⟩ := ob H
  refine WP.uI d_X8_ears_2 gf_X8_102 rfl (Or.inl rfl) rfl rfl eh1 ?_
  refine WP.iload_n d_X8_ears_5 3 rfl ?_
  refine WP.iload d_X8_ears_6 4 rfl ?_
  obtain ⟨x3, e2, H⟩ := ob H
  refine WP.cS (As := [.int l3, .int l4]) (st := []) (st9 := [.int x3]) (cl9 := 0) (sl9 := 0) d_X8_ears_8 (ok_X8_isLoud V (h := h1) e2) tv_X8_isLoud ts_X8_isLoud lk_X8_346 r_X8_ears_X8_isLoud rfl rfl (Nat.le_of_ble_eq_true rfl) rfl rfl rfl ?_
  rcases oj H with ⟨hc, H⟩ | ⟨hc, H⟩
  · refine WP.if_eq_t d_X8_ears_11 hc ?_
    refine WP.iconst d_X8_ears_49 ki_m1 ?_
    cases H
    exact WP.ireturn d_X8_ears_50 rfl rfl (Nat.le_of_ble_eq_true rfl) (Nat.le_of_ble_eq_true rfl)
  · refine WP.if_eq_f d_X8_ears_11 hc ?_
    refine WP.aload_n d_X8_ears_14 0 rfl ?_
    refine WP.iload_n d_X8_ears_15 1 rfl ?_
    obtain ⟨⟨x6, h5⟩, e4, H⟩ := ob H
    refine WP.cV (c := 9) (As := [.int l1]) (st := []) (st9 := [.int x6]) (cl9 := 0) (sl9 := 0) d_X8_ears_16 (ok_X8_hand V e4) tv_X8_hand ti_X8_hand ts_X8_hand lk_X8_331 r_X8_ears_X8_hand kc_X8_hand (kd_X8_hand e4) rfl rfl (Nat.le_of_ble_eq_true rfl) rfl rfl rfl ?_
    rcases oj H with ⟨hc, H⟩ | ⟨hc, H⟩
    · refine WP.if_eq_t d_X8_ears_19 hc ?_
      refine WP.iconst d_X8_ears_49 ki_m1 ?_
      cases H
      exact WP.ireturn d_X8_ears_50 rfl rfl (Nat.le_of_ble_eq_true rfl) (Nat.le_of_ble_eq_true rfl)
    · refine WP.if_eq_f d_X8_ears_19 hc ?_
      refine WP.aload_n d_X8_ears_22 0 rfl ?_
      refine WP.iload_n d_X8_ears_23 2 rfl ?_
      obtain ⟨x8, e7, H⟩ := ob H
      refine WP.cV (c := 9) (As := [.int l2]) (st := []) (st9 := [.int x8]) (cl9 := 0) (sl9 := 0) d_X8_ears_24 (ok_X8_isField V e7) tv_X8_isField ti_X8_isField ts_X8_isField lk_X8_337 r_X8_ears_X8_isField kc_X8_isField (kd_X8_isField e7) rfl rfl (Nat.le_of_ble_eq_true rfl) rfl rfl rfl ?_
      rcases oj H with ⟨hc, H⟩ | ⟨hc, H⟩
      · refine WP.if_eq_t d_X8_ears_27 hc ?_
        refine WP.iconst d_X8_ears_49 ki_m1 ?_
        cases H
        exact WP.ireturn d_X8_ears_50 rfl rfl (Nat.le_of_ble_eq_true rfl) (Nat.le_of_ble_eq_true rfl)
      · refine WP.if_eq_f d_X8_ears_27 hc ?_
        refine WP.aload_n d_X8_ears_30 0 rfl ?_
        refine WP.iload_n d_X8_ears_31 2 rfl ?_
        obtain ⟨x10, e9, H⟩ := ob H
        refine WP.cV (c := 9) (As := [.int l2]) (st := []) (st9 := [.int x10]) (cl9 := 0) (sl9 := 0) d_X8_ears_32 (ok_X8_isWall V e9) tv_X8_isWall ti_X8_isWall ts_X8_isWall lk_X8_292 r_X8_ears_X8_isWall kc_X8_isWall (kd_X8_isWall e9) rfl rfl (Nat.le_of_ble_eq_true rfl) rfl rfl rfl ?_
        rcases oj H with ⟨hc, H⟩ | ⟨hc, H⟩
        · refine WP.if_ne_t d_X8_ears_35 hc ?_
          refine WP.aload_n d_X8_ears_38 0 rfl ?_
          refine WP.iload_n d_X8_ears_39 2 rfl ?_
          refine WP.iload_n d_X8_ears_40 3 rfl ?_
          refine WP.iload d_X8_ears_41 4 rfl ?_
          obtain ⟨x12, e11, H⟩ := ob H
          refine WP.cV (c := 9) (As := [.int l2, .int l3, .int l4]) (st := []) (st9 := [.int x12]) (cl9 := 0) (sl9 := 0) d_X8_ears_43 (ok_X8_earsAt V e11) tv_X8_earsAt ti_X8_earsAt ts_X8_earsAt lk_X8_325 r_X8_ears_X8_earsAt kc_X8_earsAt (kd_X8_earsAt e11) rfl rfl (Nat.le_of_ble_eq_true rfl) rfl rfl rfl ?_
          refine WP.goto d_X8_ears_46 ?_
          cases H
          exact WP.ireturn d_X8_ears_50 rfl rfl (Nat.le_of_ble_eq_true rfl) (Nat.le_of_ble_eq_true rfl)
        · refine WP.if_ne_f d_X8_ears_35 hc ?_
          refine WP.iconst d_X8_ears_49 ki_m1 ?_
          cases H
          exact WP.ireturn d_X8_ears_50 rfl rfl (Nat.le_of_ble_eq_true rfl) (Nat.le_of_ble_eq_true rfl)

set_option maxRecDepth 20000 in
set_option maxHeartbeats 4000000 in
theorem okl_X8_pulpit_L32 (V : EV) {vF : Option Value} {hF : HA} {h : HA} {t : Nat} {l2 : Int32} {l3 : Int32} {l4 : Int32} (n : Nat) : ∀ {l5 : Int32} {l6 : Int32} {l7 : Int32} {r5 : Int32} {r6 : Int32}, (H : X8_pulpit_L32 h t l2 l3 n l5 l6 l7 = some (r5, r6)) → (K : WP V M_X8_pulpit 98 [(4, .int l4), (5, .int r5), (6, .int r6)] [] h 0 0 vF hF) → WP V M_X8_pulpit 32 [(0, .ref t), (2, .int l2), (3, .int l3), (4, .int l4), (5, .int l5), (6, .int l6), (7, .int l7)] [] h 0 0 vF hF := by
  induction n with
  | zero =>
    intro l5 l6 l7 r5 r6 H K
    rw [X8_pulpit_L32] at H
    cases H
  | succ n ih =>
    intro l5 l6 l7 r5 r6 H K
    rw [X8_pulpit_L32] at H
    refine WP.iload d_X8_pulpit_32 6 rfl ?_
    refine WP.aload_n d_X8_pulpit_34 0 rfl ?_
    obtain ⟨x7, ex7, H⟩ := ob H
    refine WP.fI d_X8_pulpit_35 gf_X8_277 (fun _ => rfl) ex7 ?_
    rcases oj H with ⟨hc, H⟩ | ⟨hc, H⟩
    · refine WP.icmp_ge_t d_X8_pulpit_38 hc ?_
      refine WP.aload_n d_X8_pulpit_41 0 rfl ?_
      refine WP.iload d_X8_pulpit_42 6 rfl ?_
      obtain ⟨x9, e8, H⟩ := ob H
      refine WP.cV (c := 9) (As := [.int l7]) (st := []) (st9 := [.int x9]) (cl9 := 0) (sl9 := 0) d_X8_pulpit_44 (ok_X8_isWall V e8) tv_X8_isWall ti_X8_isWall ts_X8_isWall lk_X8_292 r_X8_pulpit_X8_isWall kc_X8_isWall (kd_X8_isWall e8) rfl rfl (Nat.le_of_ble_eq_true rfl) rfl rfl rfl ?_
      obtain ⟨j10, hs11, H⟩ := ob H
      have J12 : WP V M_X8_pulpit 65 [(0, .ref t), (2, .int l2), (3, .int l3), (4, .int l4), (5, .int l5), (6, .int l6), (7, .int l7)] [.int j10] h 0 0 vF hF := by
        refine WP.istore (lv9 := [(8, .int j10), (0, .ref t), (2, .int l2), (3, .int l3), (4, .int l4), (5, .int l5), (6, .int l6), (7, .int l7)]) d_X8_pulpit_65 (Nat.le_of_ble_eq_true rfl) rfl ?_
        refine WP.iload d_X8_pulpit_67 0 rfl ?_
        refine WP.iload d_X8_pulpit_69 6 rfl ?_
        obtain ⟨j17, hs18, H⟩ := ol H
        have J19 : WP V M_X8_pulpit 81 [(0, .ref t), (2, .int l2), (3, .int l3), (4, .int l4), (6, .int l6), (7, .int l7), (8, .int j10)] [.int j17] h 0 0 vF hF := by
          refine WP.istore (lv9 := [(5, .int j17), (0, .ref t), (2, .int l2), (3, .int l3), (4, .int l4), (6, .int l6), (7, .int l7), (8, .int j10)]) d_X8_pulpit_81 (Nat.le_of_ble_eq_true rfl) rfl ?_
          refine WP.iload d_X8_pulpit_83 5 rfl ?_
          refine WP.iload d_X8_pulpit_85 7 rfl ?_
          obtain ⟨x21, e20, H⟩ := ob H
          refine WP.cS (As := [.int l6, .int j10]) (st := []) (st9 := [.int x21]) (cl9 := 0) (sl9 := 0) d_X8_pulpit_87 (ok_X8_greater V (h := h) e20) tv_X8_greater ts_X8_greater lk_X8_171 r_X8_pulpit_X8_greater rfl rfl (Nat.le_of_ble_eq_true rfl) rfl rfl rfl ?_
          refine WP.istore (lv9 := [(6, .int x21), (5, .int j17), (0, .ref t), (2, .int l2), (3, .int l3), (4, .int l4), (7, .int l7), (8, .int j10)]) d_X8_pulpit_90 (Nat.le_of_ble_eq_true rfl) rfl ?_
          refine WP.iinc (lv9 := [(7, .int (l7 + 1)), (6, .int x21), (5, .int j17), (0, .ref t), (2, .int l2), (3, .int l3), (4, .int l4), (8, .int j10)]) d_X8_pulpit_92 6 rfl ki_1 (Nat.le_of_ble_eq_true rfl) rfl ?_
          refine WP.goto d_X8_pulpit_95 ?_
          refine WP.sub [3, 4, 5, 6, 2, 1, 0] (lv' := [(0, .ref t), (2, .int l2), (3, .int l3), (4, .int l4), (5, .int j17), (6, .int x21), (7, .int (l7 + 1))]) rfl ?_
          exact ih H K
        rcases oj hs18 with ⟨hc, hs18⟩ | ⟨hc, hs18⟩
        · refine WP.icmp_le_t d_X8_pulpit_71 hc ?_
          refine WP.iload d_X8_pulpit_74 7 rfl ?_
          refine WP.goto d_X8_pulpit_76 ?_
          cases hs18
          exact WP.sub [1, 2, 3, 4, 6, 7, 0] rfl J19
        · refine WP.icmp_le_f d_X8_pulpit_71 hc ?_
          refine WP.iload d_X8_pulpit_79 5 rfl ?_
          cases hs18
          exact WP.sub [1, 2, 3, 4, 6, 7, 0] rfl J19
      rcases oj hs11 with ⟨hc, hs11⟩ | ⟨hc, hs11⟩
      · refine WP.if_eq_t d_X8_pulpit_47 hc ?_
        refine WP.aload_n d_X8_pulpit_54 0 rfl ?_
        refine WP.iload d_X8_pulpit_55 6 rfl ?_
        refine WP.iload_n d_X8_pulpit_57 1 rfl ?_
        refine WP.iload_n d_X8_pulpit_58 2 rfl ?_
        obtain ⟨x14, e13, hs11⟩ := ob hs11
        refine WP.cV (c := 9) (As := [.int l7, .int l2, .int l3]) (st := []) (st9 := [.int x14]) (cl9 := 0) (sl9 := 0) d_X8_pulpit_59 (ok_X8_earsAt V e13) tv_X8_earsAt ti_X8_earsAt ts_X8_earsAt lk_X8_325 r_X8_pulpit_X8_earsAt kc_X8_earsAt (kd_X8_earsAt e13) rfl rfl (Nat.le_of_ble_eq_true rfl) rfl rfl rfl ?_
        obtain ⟨x16, e15, hs11⟩ := ob hs11
        refine WP.cS (As := [.int x14]) (st := []) (st9 := [.int x16]) (cl9 := 0) (sl9 := 0) d_X8_pulpit_62 (ok_X8_ones V (h := h) e15) tv_X8_ones ts_X8_ones lk_X8_349 r_X8_pulpit_X8_ones rfl rfl (Nat.le_of_ble_eq_true rfl) rfl rfl rfl ?_
        cases hs11
        exact WP.sub [0, 1, 2, 3, 4, 5, 6] rfl J12
      · refine WP.if_eq_f d_X8_pulpit_47 hc ?_
        refine WP.iconst d_X8_pulpit_50 ki_m1 ?_
        refine WP.goto d_X8_pulpit_51 ?_
        cases hs11
        exact WP.sub [0, 1, 2, 3, 4, 5, 6] rfl J12
    · refine WP.icmp_ge_f d_X8_pulpit_38 hc ?_
      cases H
      exact WP.sub [3, 4, 5] rfl K

set_option maxRecDepth 20000 in
set_option maxHeartbeats 4000000 in
theorem ok_X8_pulpit (V : EV) {h : HA} {t : Nat} {l1 : Int32} {l2 : Int32} {l3 : Int32} {l4 : Int32} {r : Int32} {hR : HA} (H : X8_pulpit h t l1 l2 l3 l4 = some (r, hR)) : MG V M_X8_pulpit [.ref t, .int l1, .int l2, .int l3, .int l4] h (some (.int r)) hR := by
  unfold X8_pulpit at H
  obtain ⟨_, H⟩ := oc H
  refine MG.of (lv0 := [(0, .ref t), (1, .int l1), (2, .int l2), (3, .int l3), (4, .int l4)]) pn_X8 rfl (Nat.le_of_ble_eq_true rfl) ?_
  refine WP.aload_n d_X8_pulpit_0 0 rfl ?_
  refine WP.iconst d_X8_pulpit_1 ki_0 ?_
  obtain ⟨h1, eh1, H⟩ := ob H
  refine WP.uI d_X8_pulpit_2 gf_X8_102 rfl (Or.inl rfl) rfl rfl eh1 ?_
  refine WP.iload_n d_X8_pulpit_5 2 rfl ?_
  refine WP.iload_n d_X8_pulpit_6 3 rfl ?_
  obtain ⟨x3, e2, H⟩ := ob H
  refine WP.cS (As := [.int l2, .int l3]) (st := []) (st9 := [.int x3]) (cl9 := 0) (sl9 := 0) d_X8_pulpit_7 (ok_X8_isLoud V (h := h1) e2) tv_X8_isLoud ts_X8_isLoud lk_X8_346 r_X8_pulpit_X8_isLoud rfl rfl (Nat.le_of_ble_eq_true rfl) rfl rfl rfl ?_
  rcases oj H with ⟨hc, H⟩ | ⟨hc, H⟩
  · refine WP.if_eq_t d_X8_pulpit_10 hc ?_
    refine WP.iconst d_X8_pulpit_21 ki_m1 ?_
    cases H
    exact WP.ireturn d_X8_pulpit_22 rfl rfl (Nat.le_of_ble_eq_true rfl) (Nat.le_of_ble_eq_true rfl)
  · refine WP.if_eq_f d_X8_pulpit_10 hc ?_
    refine WP.aload_n d_X8_pulpit_13 0 rfl ?_
    refine WP.iload_n d_X8_pulpit_14 1 rfl ?_
    obtain ⟨⟨x6, h5⟩, e4, H⟩ := ob H
    refine WP.cV (c := 9) (As := [.int l1]) (st := []) (st9 := [.int x6]) (cl9 := 0) (sl9 := 0) d_X8_pulpit_15 (ok_X8_hand V e4) tv_X8_hand ti_X8_hand ts_X8_hand lk_X8_331 r_X8_pulpit_X8_hand kc_X8_hand (kd_X8_hand e4) rfl rfl (Nat.le_of_ble_eq_true rfl) rfl rfl rfl ?_
    rcases oj H with ⟨hc, H⟩ | ⟨hc, H⟩
    · refine WP.if_ne_t d_X8_pulpit_18 hc ?_
      refine WP.iconst d_X8_pulpit_21 ki_m1 ?_
      cases H
      exact WP.ireturn d_X8_pulpit_22 rfl rfl (Nat.le_of_ble_eq_true rfl) (Nat.le_of_ble_eq_true rfl)
    · refine WP.if_ne_f d_X8_pulpit_18 hc ?_
      refine WP.iconst d_X8_pulpit_23 ki_m1 ?_
      refine WP.istore (lv9 := [(5, .int (-1)), (0, .ref t), (1, .int l1), (2, .int l2), (3, .int l3), (4, .int l4)]) d_X8_pulpit_24 (Nat.le_of_ble_eq_true rfl) rfl ?_
      refine WP.iconst d_X8_pulpit_26 ki_m1 ?_
      refine WP.istore (lv9 := [(6, .int (-1)), (5, .int (-1)), (0, .ref t), (1, .int l1), (2, .int l2), (3, .int l3), (4, .int l4)]) d_X8_pulpit_27 (Nat.le_of_ble_eq_true rfl) rfl ?_
      refine WP.iconst d_X8_pulpit_29 ki_0 ?_
      refine WP.istore (lv9 := [(7, .int 0), (6, .int (-1)), (5, .int (-1)), (0, .ref t), (1, .int l1), (2, .int l2), (3, .int l3), (4, .int l4)]) d_X8_pulpit_30 (Nat.le_of_ble_eq_true rfl) rfl ?_
      obtain ⟨⟨y23, y24⟩, e22, H⟩ := ob H
      refine WP.sub [3, 5, 6, 7, 2, 1, 0] (lv' := [(0, .ref t), (2, .int l2), (3, .int l3), (4, .int l4), (5, .int (-1)), (6, .int (-1)), (7, .int 0)]) rfl ?_
      refine okl_X8_pulpit_L32 V _ e22 ?_
      refine WP.iload d_X8_pulpit_98 0 rfl ?_
      rcases oj H with ⟨hc, H⟩ | ⟨hc, H⟩
      · refine WP.if_eq_t d_X8_pulpit_100 hc ?_
        refine WP.iload d_X8_pulpit_108 1 rfl ?_
        cases H
        exact WP.ireturn d_X8_pulpit_110 rfl rfl (Nat.le_of_ble_eq_true rfl) (Nat.le_of_ble_eq_true rfl)
      · refine WP.if_eq_f d_X8_pulpit_100 hc ?_
        refine WP.iload d_X8_pulpit_103 2 rfl ?_
        refine WP.goto d_X8_pulpit_105 ?_
        cases H
        exact WP.ireturn d_X8_pulpit_110 rfl rfl (Nat.le_of_ble_eq_true rfl) (Nat.le_of_ble_eq_true rfl)

set_option maxRecDepth 20000 in
set_option maxHeartbeats 4000000 in
theorem okl_X8_near_L62 (V : EV) {vF : Option Value} {hF : HA} {h : HA} {t : Nat} {l2 : Int32} {l4 : Int32} {l5 : Int32} (n : Nat) : ∀ {l6 : Int32} {l7 : Int32} {r6 : Int32}, (H : X8_near_L62 h t l2 l4 l5 n l6 l7 = some r6) → (K : WP V M_X8_near 118 [(6, .int r6)] [] h 0 0 vF hF) → WP V M_X8_near 62 [(0, .ref t), (2, .int l2), (4, .int l4), (5, .int l5), (6, .int l6), (7, .int l7)] [] h 0 0 vF hF := by
  induction n with
  | zero =>
    intro l6 l7 r6 H K
    rw [X8_near_L62] at H
    cases H
  | succ n ih =>
    intro l6 l7 r6 H K
    rw [X8_near_L62] at H
    refine WP.iload d_X8_near_62 5 rfl ?_
    refine WP.aload_n d_X8_near_64 0 rfl ?_
    obtain ⟨x13, ex13, H⟩ := ob H
    refine WP.fI d_X8_near_65 gf_X8_277 (fun _ => rfl) ex13 ?_
    rcases oj H with ⟨hc, H⟩ | ⟨hc, H⟩
    · refine WP.icmp_ge_t d_X8_near_68 hc ?_
      refine WP.aload_n d_X8_near_71 0 rfl ?_
      refine WP.iload d_X8_near_72 3 rfl ?_
      refine WP.iload d_X8_near_74 5 rfl ?_
      obtain ⟨x15, e14, H⟩ := ob H
      refine WP.cV (c := 9) (As := [.int l5, .int l7]) (st := []) (st9 := [.int x15]) (cl9 := 0) (sl9 := 0) d_X8_near_76 (ok_X8_farOf V e14) tv_X8_farOf ti_X8_farOf ts_X8_farOf lk_X8_298 r_X8_near_X8_farOf kc_X8_farOf (kd_X8_farOf e14) rfl rfl (Nat.le_of_ble_eq_true rfl) rfl rfl rfl ?_
      refine WP.iload d_X8_near_79 4 rfl ?_
      rcases oj H with ⟨hc, H⟩ | ⟨hc, H⟩
      · refine WP.icmp_ge_t d_X8_near_81 hc ?_
        refine WP.aload_n d_X8_near_84 0 rfl ?_
        refine WP.iload_n d_X8_near_85 1 rfl ?_
        refine WP.iload d_X8_near_86 5 rfl ?_
        refine WP.iconst d_X8_near_88 ki_0 ?_
        refine WP.iload d_X8_near_89 2 rfl ?_
        obtain ⟨x17, e16, H⟩ := ob H
        refine WP.cV (c := 9) (As := [.int l2, .int l7, .int 0, .int l4]) (st := []) (st9 := [.int x17]) (cl9 := 0) (sl9 := 0) d_X8_near_91 (ok_X8_hears V e16) tv_X8_hears ti_X8_hears ts_X8_hears lk_X8_321 r_X8_near_X8_hears kc_X8_hears (kd_X8_hears e16) rfl rfl (Nat.le_of_ble_eq_true rfl) rfl rfl rfl ?_
        rcases oj H with ⟨hc, H⟩ | ⟨hc, H⟩
        · refine WP.if_eq_t d_X8_near_94 hc ?_
          refine WP.iload d_X8_near_108 4 rfl ?_
          refine WP.istore (lv9 := [(6, .int l6), (0, .ref t), (2, .int l2), (4, .int l4), (5, .int l5), (7, .int l7)]) d_X8_near_110 (Nat.le_of_ble_eq_true rfl) rfl ?_
          refine WP.iinc (lv9 := [(7, .int (l7 + 1)), (6, .int l6), (0, .ref t), (2, .int l2), (4, .int l4), (5, .int l5)]) d_X8_near_112 5 rfl ki_1 (Nat.le_of_ble_eq_true rfl) rfl ?_
          refine WP.goto d_X8_near_115 ?_
          refine WP.sub [2, 3, 4, 5, 1, 0] (lv' := [(0, .ref t), (2, .int l2), (4, .int l4), (5, .int l5), (6, .int l6), (7, .int (l7 + 1))]) rfl ?_
          exact ih H K
        · refine WP.if_eq_f d_X8_near_94 hc ?_
          refine WP.aload_n d_X8_near_97 0 rfl ?_
          refine WP.iload d_X8_near_98 3 rfl ?_
          refine WP.iload d_X8_near_100 5 rfl ?_
          obtain ⟨x19, e18, H⟩ := ob H
          refine WP.cV (c := 9) (As := [.int l5, .int l7]) (st := []) (st9 := [.int x19]) (cl9 := 0) (sl9 := 0) d_X8_near_102 (ok_X8_farOf V e18) tv_X8_farOf ti_X8_farOf ts_X8_farOf lk_X8_298 r_X8_near_X8_farOf kc_X8_farOf (kd_X8_farOf e18) rfl rfl (Nat.le_of_ble_eq_true rfl) rfl rfl rfl ?_
          refine WP.goto d_X8_near_105 ?_
          refine WP.istore (lv9 := [(6, .int x19), (0, .ref t), (2, .int l2), (4, .int l4), (5, .int l5), (7, .int l7)]) d_X8_near_110 (Nat.le_of_ble_eq_true rfl) rfl ?_
          refine WP.iinc (lv9 := [(7, .int (l7 + 1)), (6, .int x19), (0, .ref t), (2, .int l2), (4, .int l4), (5, .int l5)]) d_X8_near_112 5 rfl ki_1 (Nat.le_of_ble_eq_true rfl) rfl ?_
          refine WP.goto d_X8_near_115 ?_
          refine WP.sub [2, 3, 4, 5, 1, 0] (lv' := [(0, .ref t), (2, .int l2), (4, .int l4), (5, .int l5), (6, .int x19), (7, .int (l7 + 1))]) rfl ?_
          exact ih H K
      · refine WP.icmp_ge_f d_X8_near_81 hc ?_
        refine WP.iload d_X8_near_108 4 rfl ?_
        refine WP.istore (lv9 := [(6, .int l6), (0, .ref t), (2, .int l2), (4, .int l4), (5, .int l5), (7, .int l7)]) d_X8_near_110 (Nat.le_of_ble_eq_true rfl) rfl ?_
        refine WP.iinc (lv9 := [(7, .int (l7 + 1)), (6, .int l6), (0, .ref t), (2, .int l2), (4, .int l4), (5, .int l5)]) d_X8_near_112 5 rfl ki_1 (Nat.le_of_ble_eq_true rfl) rfl ?_
        refine WP.goto d_X8_near_115 ?_
        refine WP.sub [2, 3, 4, 5, 1, 0] (lv' := [(0, .ref t), (2, .int l2), (4, .int l4), (5, .int l5), (6, .int l6), (7, .int (l7 + 1))]) rfl ?_
        exact ih H K
    · refine WP.icmp_ge_f d_X8_near_68 hc ?_
      cases H
      exact WP.sub [4] rfl K

set_option maxRecDepth 20000 in
set_option maxHeartbeats 4000000 in
theorem ok_X8_near (V : EV) {h : HA} {t : Nat} {l1 : Int32} {l2 : Int32} {l3 : Int32} {l4 : Int32} {r : Int32} {hR : HA} (H : X8_near h t l1 l2 l3 l4 = some (r, hR)) : MG V M_X8_near [.ref t, .int l1, .int l2, .int l3, .int l4] h (some (.int r)) hR := by
  unfold X8_near at H
  obtain ⟨_, H⟩ := oc H
  refine MG.of (lv0 := [(0, .ref t), (1, .int l1), (2, .int l2), (3, .int l3), (4, .int l4)]) pn_X8 rfl (Nat.le_of_ble_eq_true rfl) ?_
  refine WP.aload_n d_X8_near_0 0 rfl ?_
  refine WP.iconst d_X8_near_1 ki_0 ?_
  obtain ⟨h1, eh1, H⟩ := ob H
  refine WP.uI d_X8_near_2 gf_X8_102 rfl (Or.inl rfl) rfl rfl eh1 ?_
  refine WP.iload d_X8_near_5 4 rfl ?_
  refine WP.iconst d_X8_near_7 ki_0 ?_
  refine WP.bipush d_X8_near_8 kb_9 ?_
  obtain ⟨x3, e2, H⟩ := ob H
  refine WP.cS (As := [.int l4, .int 0, .int 9]) (st := []) (st9 := [.int x3]) (cl9 := 0) (sl9 := 0) d_X8_near_10 (ok_X8_in V (h := h1) e2) tv_X8_in ts_X8_in lk_X8_114 r_X8_near_X8_in rfl rfl (Nat.le_of_ble_eq_true rfl) rfl rfl rfl ?_
  rcases oj H with ⟨hc, H⟩ | ⟨hc, H⟩
  · refine WP.if_eq_t d_X8_near_13 hc ?_
    refine WP.iconst d_X8_near_40 ki_m1 ?_
    cases H
    exact WP.ireturn d_X8_near_41 rfl rfl (Nat.le_of_ble_eq_true rfl) (Nat.le_of_ble_eq_true rfl)
  · refine WP.if_eq_f d_X8_near_13 hc ?_
    refine WP.aload_n d_X8_near_16 0 rfl ?_
    refine WP.iload_n d_X8_near_17 1 rfl ?_
    obtain ⟨⟨x6, h5⟩, e4, H⟩ := ob H
    refine WP.cV (c := 9) (As := [.int l1]) (st := []) (st9 := [.int x6]) (cl9 := 0) (sl9 := 0) d_X8_near_18 (ok_X8_hand V e4) tv_X8_hand ti_X8_hand ts_X8_hand lk_X8_331 r_X8_near_X8_hand kc_X8_hand (kd_X8_hand e4) rfl rfl (Nat.le_of_ble_eq_true rfl) rfl rfl rfl ?_
    rcases oj H with ⟨hc, H⟩ | ⟨hc, H⟩
    · refine WP.if_eq_t d_X8_near_21 hc ?_
      refine WP.iconst d_X8_near_40 ki_m1 ?_
      cases H
      exact WP.ireturn d_X8_near_41 rfl rfl (Nat.le_of_ble_eq_true rfl) (Nat.le_of_ble_eq_true rfl)
    · refine WP.if_eq_f d_X8_near_21 hc ?_
      refine WP.aload_n d_X8_near_24 0 rfl ?_
      refine WP.iload_n d_X8_near_25 2 rfl ?_
      obtain ⟨x8, e7, H⟩ := ob H
      refine WP.cV (c := 9) (As := [.int l2]) (st := []) (st9 := [.int x8]) (cl9 := 0) (sl9 := 0) d_X8_near_26 (ok_X8_isJudge V e7) tv_X8_isJudge ti_X8_isJudge ts_X8_isJudge lk_X8_340 r_X8_near_X8_isJudge kc_X8_isJudge (kd_X8_isJudge e7) rfl rfl (Nat.le_of_ble_eq_true rfl) rfl rfl rfl ?_
      rcases oj H with ⟨hc, H⟩ | ⟨hc, H⟩
      · refine WP.if_eq_t d_X8_near_29 hc ?_
        refine WP.iconst d_X8_near_40 ki_m1 ?_
        cases H
        exact WP.ireturn d_X8_near_41 rfl rfl (Nat.le_of_ble_eq_true rfl) (Nat.le_of_ble_eq_true rfl)
      · refine WP.if_eq_f d_X8_near_29 hc ?_
        refine WP.aload_n d_X8_near_32 0 rfl ?_
        refine WP.iload_n d_X8_near_33 3 rfl ?_
        obtain ⟨x10, e9, H⟩ := ob H
        refine WP.cV (c := 9) (As := [.int l3]) (st := []) (st9 := [.int x10]) (cl9 := 0) (sl9 := 0) d_X8_near_34 (ok_X8_isPleader V e9) tv_X8_isPleader ti_X8_isPleader ts_X8_isPleader lk_X8_343 r_X8_near_X8_isPleader kc_X8_isPleader (kd_X8_isPleader e9) rfl rfl (Nat.le_of_ble_eq_true rfl) rfl rfl rfl ?_
        rcases oj H with ⟨hc, H⟩ | ⟨hc, H⟩
        · refine WP.if_ne_t d_X8_near_37 hc ?_
          refine WP.iconst d_X8_near_40 ki_m1 ?_
          cases H
          exact WP.ireturn d_X8_near_41 rfl rfl (Nat.le_of_ble_eq_true rfl) (Nat.le_of_ble_eq_true rfl)
        · refine WP.if_ne_f d_X8_near_37 hc ?_
          refine WP.aload_n d_X8_near_42 0 rfl ?_
          refine WP.bipush d_X8_near_43 kb_34 ?_
          refine WP.iconst d_X8_near_45 ki_2 ?_
          refine WP.iload_n d_X8_near_46 3 rfl ?_
          refine WP.imul d_X8_near_47 ?_
          refine WP.iadd d_X8_near_48 ?_
          obtain ⟨x12, e11, H⟩ := ob H
          refine WP.cV (c := 9) (As := [.int (34 + (2 * l3))]) (st := []) (st9 := [.int x12]) (cl9 := 0) (sl9 := 0) d_X8_near_49 (ok_X8_of V e11) tv_X8_of ti_X8_of ts_X8_of lk_X8_267 r_X8_near_X8_of kc_X8_of (kd_X8_of e11) rfl rfl (Nat.le_of_ble_eq_true rfl) rfl rfl rfl ?_
          refine WP.istore (lv9 := [(5, .int x12), (0, .ref t), (1, .int l1), (2, .int l2), (3, .int l3), (4, .int l4)]) d_X8_near_52 (Nat.le_of_ble_eq_true rfl) rfl ?_
          refine WP.sipush d_X8_near_54 ks_1000 ?_
          refine WP.istore (lv9 := [(6, .int 1000), (5, .int x12), (0, .ref t), (1, .int l1), (2, .int l2), (3, .int l3), (4, .int l4)]) d_X8_near_57 (Nat.le_of_ble_eq_true rfl) rfl ?_
          refine WP.iconst d_X8_near_59 ki_0 ?_
          refine WP.istore (lv9 := [(7, .int 0), (6, .int 1000), (5, .int x12), (0, .ref t), (1, .int l1), (2, .int l2), (3, .int l3), (4, .int l4)]) d_X8_near_60 (Nat.le_of_ble_eq_true rfl) rfl ?_
          obtain ⟨y21, e20, H⟩ := ob H
          refine WP.sub [3, 5, 7, 2, 1, 0] (lv' := [(0, .ref t), (2, .int l2), (4, .int l4), (5, .int x12), (6, .int 1000), (7, .int 0)]) rfl ?_
          refine okl_X8_near_L62 V _ e20 ?_
          refine WP.iload d_X8_near_118 0 rfl ?_
          refine WP.sipush d_X8_near_120 ks_1000 ?_
          rcases oj H with ⟨hc, H⟩ | ⟨hc, H⟩
          · refine WP.icmp_ne_t d_X8_near_123 hc ?_
            refine WP.iconst d_X8_near_126 ki_m1 ?_
            refine WP.goto d_X8_near_127 ?_
            cases H
            exact WP.ireturn d_X8_near_132 rfl rfl (Nat.le_of_ble_eq_true rfl) (Nat.le_of_ble_eq_true rfl)
          · refine WP.icmp_ne_f d_X8_near_123 hc ?_
            refine WP.iload d_X8_near_130 0 rfl ?_
            cases H
            exact WP.ireturn d_X8_near_132 rfl rfl (Nat.le_of_ble_eq_true rfl) (Nat.le_of_ble_eq_true rfl)

set_option maxRecDepth 20000 in
set_option maxHeartbeats 4000000 in
theorem ok_X8_stateOf (V : EV) {h : HA} {l0 : Int32} {l1 : Int32} {l2 : Int32} {r : Int32} (H : X8_stateOf l0 l1 l2 = some r) : MG V M_X8_stateOf [.int l0, .int l1, .int l2] h (some (.int r)) h := by
  unfold X8_stateOf at H
  refine MG.of (lv0 := [(0, .int l0), (1, .int l1), (2, .int l2)]) pn_X8 rfl (Nat.le_of_ble_eq_true rfl) ?_
  refine WP.sipush d_X8_stateOf_0 ks_256 ?_
  refine WP.iload_n d_X8_stateOf_3 0 rfl ?_
  refine WP.imul d_X8_stateOf_4 ?_
  refine WP.iconst d_X8_stateOf_5 ki_4 ?_
  refine WP.iload_n d_X8_stateOf_6 1 rfl ?_
  refine WP.imul d_X8_stateOf_7 ?_
  refine WP.iadd d_X8_stateOf_8 ?_
  refine WP.iload_n d_X8_stateOf_9 2 rfl ?_
  refine WP.iconst d_X8_stateOf_10 ki_4 ?_
  obtain ⟨x1, ex1, H⟩ := ob H
  refine WP.irem d_X8_stateOf_11 ex1 ?_
  refine WP.iadd d_X8_stateOf_12 ?_
  cases H
  exact WP.ireturn d_X8_stateOf_13 rfl rfl (Nat.le_of_ble_eq_true rfl) (Nat.le_of_ble_eq_true rfl)

set_option maxRecDepth 20000 in
set_option maxHeartbeats 4000000 in
theorem ok_X8_comeTo (V : EV) {h : HA} {t : Nat} {l1 : Int32} {l2 : Int32} {l3 : Int32} {l4 : Int32} {hR : HA} (H : X8_comeTo h t l1 l2 l3 l4 = some hR) : MG V M_X8_comeTo [.ref t, .int l1, .int l2, .int l3, .int l4] h none hR := by
  unfold X8_comeTo at H
  obtain ⟨_, H⟩ := oc H
  refine MG.of (lv0 := [(0, .ref t), (1, .int l1), (2, .int l2), (3, .int l3), (4, .int l4)]) pn_X8 rfl (Nat.le_of_ble_eq_true rfl) ?_
  refine WP.aload_n d_X8_comeTo_0 0 rfl ?_
  obtain ⟨x1, ex1, H⟩ := ob H
  refine WP.fR d_X8_comeTo_1 gf_X8_62 (fun _ => rfl) ex1 ?_
  refine WP.iload_n d_X8_comeTo_4 1 rfl ?_
  obtain ⟨x2, ex2, H⟩ := ob H
  refine WP.iald d_X8_comeTo_5 ex2 ?_
  refine WP.iconst d_X8_comeTo_6 ki_m1 ?_
  rcases oj H with ⟨hc, H⟩ | ⟨hc, H⟩
  · refine WP.icmp_ne_t d_X8_comeTo_7 hc ?_
    refine WP.aload_n d_X8_comeTo_10 0 rfl ?_
    obtain ⟨x3, ex3, H⟩ := ob H
    refine WP.fR d_X8_comeTo_11 gf_X8_62 (fun _ => rfl) ex3 ?_
    refine WP.iload_n d_X8_comeTo_14 1 rfl ?_
    refine WP.iload d_X8_comeTo_15 4 rfl ?_
    obtain ⟨h4, eh4, H⟩ := ob H
    refine WP.ias d_X8_comeTo_17 eh4 ?_
    refine WP.aload_n d_X8_comeTo_18 0 rfl ?_
    obtain ⟨x5, ex5, H⟩ := ob H
    refine WP.fR d_X8_comeTo_19 gf_X8_56 (fun _ => rfl) ex5 ?_
    refine WP.iload_n d_X8_comeTo_22 1 rfl ?_
    refine WP.iload_n d_X8_comeTo_23 2 rfl ?_
    obtain ⟨h6, eh6, H⟩ := ob H
    refine WP.ias d_X8_comeTo_24 eh6 ?_
    refine WP.aload_n d_X8_comeTo_25 0 rfl ?_
    obtain ⟨x7, ex7, H⟩ := ob H
    refine WP.fR d_X8_comeTo_26 gf_X8_59 (fun _ => rfl) ex7 ?_
    refine WP.iload_n d_X8_comeTo_29 1 rfl ?_
    refine WP.iload_n d_X8_comeTo_30 3 rfl ?_
    refine WP.i2b d_X8_comeTo_31 ?_
    obtain ⟨h8, eh8, H⟩ := ob H
    refine WP.bas d_X8_comeTo_32 eh8 ?_
    refine WP.aload_n d_X8_comeTo_33 0 rfl ?_
    obtain ⟨x9, ex9, H⟩ := ob H
    refine WP.fR d_X8_comeTo_34 gf_X8_53 (fun _ => rfl) ex9 ?_
    refine WP.aload_n d_X8_comeTo_37 0 rfl ?_
    obtain ⟨x10, ex10, H⟩ := ob H
    refine WP.fI d_X8_comeTo_38 gf_X8_352 (fun _ => rfl) ex10 ?_
    refine WP.iload_n d_X8_comeTo_41 1 rfl ?_
    obtain ⟨h11, eh11, H⟩ := ob H
    refine WP.ias d_X8_comeTo_42 eh11 ?_
    refine WP.aload_n d_X8_comeTo_43 0 rfl ?_
    refine WP.dup d_X8_comeTo_44 rfl ?_
    obtain ⟨x12, ex12, H⟩ := ob H
    refine WP.fI d_X8_comeTo_45 gf_X8_352 (fun _ => rfl) ex12 ?_
    refine WP.iconst d_X8_comeTo_48 ki_1 ?_
    refine WP.iadd d_X8_comeTo_49 ?_
    obtain ⟨h13, eh13, H⟩ := ob H
    refine WP.uI d_X8_comeTo_50 gf_X8_352 rfl (Or.inl rfl) rfl rfl eh13 ?_
    cases H
    exact WP.return_ d_X8_comeTo_53 rfl (Nat.le_of_ble_eq_true rfl) (Nat.le_of_ble_eq_true rfl)
  · refine WP.icmp_ne_f d_X8_comeTo_7 hc ?_
    cases H
    exact WP.return_ d_X8_comeTo_53 rfl (Nat.le_of_ble_eq_true rfl) (Nat.le_of_ble_eq_true rfl)

set_option maxRecDepth 20000 in
set_option maxHeartbeats 4000000 in
theorem okl_X8_layRow_L7 (V : EV) {vF : Option Value} {hF : HA} {t : Nat} (n : Nat) : ∀ {h : HA} {l3 : Int32} {l4 : Int32} {hR : HA}, (H : X8_layRow_L7 t n h l3 l4 = some hR) → (K : WP V M_X8_layRow 38 [] [] hR 0 0 vF hF) → WP V M_X8_layRow 7 [(0, .ref t), (3, .int l3), (4, .int l4)] [] h 0 0 vF hF := by
  induction n with
  | zero =>
    intro h l3 l4 hR H K
    rw [X8_layRow_L7] at H
    cases H
  | succ n ih =>
    intro h l3 l4 hR H K
    rw [X8_layRow_L7] at H
    refine WP.iload d_X8_layRow_7 2 rfl ?_
    rcases oj H with ⟨hc, H⟩ | ⟨hc, H⟩
    · refine WP.if_lt_t d_X8_layRow_9 hc ?_
      cases H
      exact WP.sub [] rfl K
    · refine WP.if_lt_f d_X8_layRow_9 hc ?_
      refine WP.aload_n d_X8_layRow_12 0 rfl ?_
      obtain ⟨x1, ex1, H⟩ := ob H
      refine WP.fR d_X8_layRow_13 gf_X8_65 (fun _ => rfl) ex1 ?_
      refine WP.iload d_X8_layRow_16 2 rfl ?_
      refine WP.aload_n d_X8_layRow_18 0 rfl ?_
      obtain ⟨x2, ex2, H⟩ := ob H
      refine WP.fR d_X8_layRow_19 gf_X8_59 (fun _ => rfl) ex2 ?_
      refine WP.iload_n d_X8_layRow_22 1 rfl ?_
      obtain ⟨x3, ex3, H⟩ := ob H
      refine WP.bald d_X8_layRow_23 ex3 ?_
      obtain ⟨h4, eh4, H⟩ := ob H
      refine WP.ias d_X8_layRow_24 eh4 ?_
      refine WP.aload_n d_X8_layRow_25 0 rfl ?_
      obtain ⟨x5, ex5, H⟩ := ob H
      refine WP.fR d_X8_layRow_26 gf_X8_56 (fun _ => rfl) ex5 ?_
      refine WP.iload_n d_X8_layRow_29 1 rfl ?_
      obtain ⟨x6, ex6, H⟩ := ob H
      refine WP.iald d_X8_layRow_30 ex6 ?_
      refine WP.istore_n (lv9 := [(3, .int x6), (0, .ref t), (4, .int l4)]) d_X8_layRow_31 (Nat.le_of_ble_eq_true rfl) rfl ?_
      refine WP.iinc (lv9 := [(4, .int (l4 + (-1))), (3, .int x6), (0, .ref t)]) d_X8_layRow_32 2 rfl ki_m1 (Nat.le_of_ble_eq_true rfl) rfl ?_
      refine WP.goto d_X8_layRow_35 ?_
      refine WP.sub [2, 1, 0] (lv' := [(0, .ref t), (3, .int x6), (4, .int (l4 + (-1)))]) rfl ?_
      exact ih H K

set_option maxRecDepth 20000 in
set_option maxHeartbeats 4000000 in
theorem ok_X8_layRow (V : EV) {h : HA} {t : Nat} {l1 : Int32} {l2 : Int32} {hR : HA} (H : X8_layRow h t l1 l2 = some hR) : MG V M_X8_layRow [.ref t, .int l1, .int l2] h none hR := by
  unfold X8_layRow at H
  obtain ⟨_, H⟩ := oc H
  refine MG.of (lv0 := [(0, .ref t), (1, .int l1), (2, .int l2)]) pn_X8 rfl (Nat.le_of_ble_eq_true rfl) ?_
  refine WP.iload_n d_X8_layRow_0 1 rfl ?_
  refine WP.istore_n (lv9 := [(3, .int l1), (0, .ref t), (1, .int l1), (2, .int l2)]) d_X8_layRow_1 (Nat.le_of_ble_eq_true rfl) rfl ?_
  refine WP.iload_n d_X8_layRow_2 3 rfl ?_
  refine WP.iconst d_X8_layRow_3 ki_1 ?_
  refine WP.isub d_X8_layRow_4 ?_
  refine WP.istore (lv9 := [(4, .int (l2 - 1)), (3, .int l1), (0, .ref t), (1, .int l1), (2, .int l2)]) d_X8_layRow_5 (Nat.le_of_ble_eq_true rfl) rfl ?_
  obtain ⟨h8, e7, H⟩ := ob H
  refine WP.sub [2, 1, 0] (lv' := [(0, .ref t), (3, .int l1), (4, .int (l2 - 1))]) rfl ?_
  refine okl_X8_layRow_L7 V _ e7 ?_
  cases H
  exact WP.return_ d_X8_layRow_38 rfl (Nat.le_of_ble_eq_true rfl) (Nat.le_of_ble_eq_true rfl)

set_option maxRecDepth 20000 in
set_option maxHeartbeats 4000000 in
theorem okl_X8_findRound_L12 (V : EV) {vF : Option Value} {hF : HA} {t : Nat} {l1 : Int32} {l2 : Int32} {l3 : Int32} (n : Nat) : ∀ {h : HA} {l4 : Int32} {hR : HA}, (H : X8_findRound_L12 t n h l4 = some hR) → (K : WP V M_X8_findRound 36 [(0, .ref t), (1, .int l1), (2, .int l2), (3, .int l3)] [] hR 0 0 vF hF) → WP V M_X8_findRound 12 [(0, .ref t), (1, .int l1), (2, .int l2), (3, .int l3), (4, .int l4)] [] h 0 0 vF hF := by
  induction n with
  | zero =>
    intro h l4 hR H K
    rw [X8_findRound_L12] at H
    cases H
  | succ n ih =>
    intro h l4 hR H K
    rw [X8_findRound_L12] at H
    refine WP.iload d_X8_findRound_12 4 rfl ?_
    refine WP.aload_n d_X8_findRound_14 0 rfl ?_
    obtain ⟨x2, ex2, H⟩ := ob H
    refine WP.fR d_X8_findRound_15 gf_X8_62 (fun _ => rfl) ex2 ?_
    obtain ⟨x3, ex3, H⟩ := ob H
    refine WP.alen d_X8_findRound_18 ex3 ?_
    rcases oj H with ⟨hc, H⟩ | ⟨hc, H⟩
    · refine WP.icmp_ge_t d_X8_findRound_19 hc ?_
      refine WP.aload_n d_X8_findRound_22 0 rfl ?_
      obtain ⟨x4, ex4, H⟩ := ob H
      refine WP.fR d_X8_findRound_23 gf_X8_62 (fun _ => rfl) ex4 ?_
      refine WP.iload d_X8_findRound_26 4 rfl ?_
      refine WP.iconst d_X8_findRound_28 ki_m1 ?_
      obtain ⟨h5, eh5, H⟩ := ob H
      refine WP.ias d_X8_findRound_29 eh5 ?_
      refine WP.iinc (lv9 := [(4, .int (l4 + 1)), (0, .ref t), (1, .int l1), (2, .int l2), (3, .int l3)]) d_X8_findRound_30 4 rfl ki_1 (Nat.le_of_ble_eq_true rfl) rfl ?_
      refine WP.goto d_X8_findRound_33 ?_
      refine WP.sub [1, 2, 3, 4, 0] (lv' := [(0, .ref t), (1, .int l1), (2, .int l2), (3, .int l3), (4, .int (l4 + 1))]) rfl ?_
      exact ih H K
    · refine WP.icmp_ge_f d_X8_findRound_19 hc ?_
      cases H
      exact WP.sub [0, 1, 2, 3] rfl K

set_option maxRecDepth 20000 in
set_option maxHeartbeats 4000000 in
theorem okl_X8_findRound_L121 (V : EV) {vF : Option Value} {hF : HA} {t : Nat} {l2 : Int32} {l3 : Int32} {l4 : Int32} {l5 : Int32} {l6 : Int32} {l7 : Int32} {l8 : Int32} (n : Nat) : ∀ {h : HA} {l9 : Int32} {hR : HA}, (H : X8_findRound_L121 t l5 l6 l7 l8 n h l9 = some hR) → (K : WP V M_X8_findRound 179 [(0, .ref t), (2, .int l2), (3, .int l3), (4, .int l4), (5, .int l5), (6, .int l6), (7, .int l7), (8, .int l8)] [] hR 0 0 vF hF) → WP V M_X8_findRound 121 [(0, .ref t), (2, .int l2), (3, .int l3), (4, .int l4), (5, .int l5), (6, .int l6), (7, .int l7), (8, .int l8), (9, .int l9)] [] h 0 0 vF hF := by
  induction n with
  | zero =>
    intro h l9 hR H K
    rw [X8_findRound_L121] at H
    cases H
  | succ n ih =>
    intro h l9 hR H K
    rw [X8_findRound_L121] at H
    refine WP.iload d_X8_findRound_121 8 rfl ?_
    refine WP.iconst d_X8_findRound_123 ki_4 ?_
    rcases oj H with ⟨hc, H⟩ | ⟨hc, H⟩
    · refine WP.icmp_ge_t d_X8_findRound_124 hc ?_
      refine WP.iload d_X8_findRound_127 5 rfl ?_
      refine WP.bipush d_X8_findRound_129 kb_60 ?_
      rcases oj H with ⟨hc, H⟩ | ⟨hc, H⟩
      · refine WP.icmp_ge_t d_X8_findRound_131 hc ?_
        refine WP.aload_n d_X8_findRound_134 0 rfl ?_
        refine WP.iload d_X8_findRound_135 6 rfl ?_
        refine WP.iload d_X8_findRound_137 8 rfl ?_
        obtain ⟨x24, e23, H⟩ := ob H
        refine WP.cV (c := 9) (As := [.int l7, .int l9]) (st := []) (st9 := [.int x24]) (cl9 := 0) (sl9 := 0) d_X8_findRound_139 (ok_X8_stepTo V e23) tv_X8_stepTo ti_X8_stepTo ts_X8_stepTo lk_X8_295 r_X8_findRound_X8_stepTo kc_X8_stepTo (kd_X8_stepTo e23) rfl rfl (Nat.le_of_ble_eq_true rfl) rfl rfl rfl ?_
        refine WP.istore (lv9 := [(10, .int x24), (0, .ref t), (2, .int l2), (3, .int l3), (4, .int l4), (5, .int l5), (6, .int l6), (7, .int l7), (8, .int l8), (9, .int l9)]) d_X8_findRound_142 (Nat.le_of_ble_eq_true rfl) rfl ?_
        refine WP.iload d_X8_findRound_144 0 rfl ?_
        refine WP.iconst d_X8_findRound_146 ki_m1 ?_
        rcases oj H with ⟨hc, H⟩ | ⟨hc, H⟩
        · refine WP.icmp_eq_t d_X8_findRound_147 hc ?_
          refine WP.iinc (lv9 := [(9, .int (l9 + 1)), (10, .int x24), (0, .ref t), (2, .int l2), (3, .int l3), (4, .int l4), (5, .int l5), (6, .int l6), (7, .int l7), (8, .int l8)]) d_X8_findRound_173 9 rfl ki_1 (Nat.le_of_ble_eq_true rfl) rfl ?_
          refine WP.goto d_X8_findRound_176 ?_
          refine WP.sub [2, 3, 4, 5, 6, 7, 8, 9, 0] (lv' := [(0, .ref t), (2, .int l2), (3, .int l3), (4, .int l4), (5, .int l5), (6, .int l6), (7, .int l7), (8, .int l8), (9, .int (l9 + 1))]) rfl ?_
          exact ih H K
        · refine WP.icmp_eq_f d_X8_findRound_147 hc ?_
          refine WP.aload_n d_X8_findRound_150 1 rfl ?_
          refine WP.iload d_X8_findRound_151 0 rfl ?_
          refine WP.iload d_X8_findRound_153 8 rfl ?_
          refine WP.iload d_X8_findRound_155 6 rfl ?_
          refine WP.iconst d_X8_findRound_157 ki_1 ?_
          refine WP.iadd d_X8_findRound_158 ?_
          obtain ⟨x26, e25, H⟩ := ob H
          refine WP.cS (As := [.int x24, .int l8, .int (l6 + 1)]) (st := [.ref t]) (st9 := [.int x26, .ref t]) (cl9 := 0) (sl9 := 0) d_X8_findRound_159 (ok_X8_stateOf V (h := h) e25) tv_X8_stateOf ts_X8_stateOf lk_X8_355 r_X8_findRound_X8_stateOf rfl rfl (Nat.le_of_ble_eq_true rfl) rfl rfl rfl ?_
          refine WP.iload d_X8_findRound_162 5 rfl ?_
          refine WP.iload d_X8_findRound_164 9 rfl ?_
          refine WP.iload d_X8_findRound_166 6 rfl ?_
          refine WP.iconst d_X8_findRound_168 ki_1 ?_
          refine WP.iadd d_X8_findRound_169 ?_
          obtain ⟨h28, e27, H⟩ := ob H
          refine WP.cV (c := 9) (As := [.int x26, .int l5, .int l9, .int (l6 + 1)]) (st := []) (st9 := []) (cl9 := 0) (sl9 := 0) d_X8_findRound_170 (ok_X8_comeTo V e27) tv_X8_comeTo ti_X8_comeTo ts_X8_comeTo lk_X8_358 r_X8_findRound_X8_comeTo kc_X8_comeTo (kd_X8_comeTo e27) rfl rfl (Nat.le_of_ble_eq_true rfl) rfl rfl rfl ?_
          refine WP.iinc (lv9 := [(9, .int (l9 + 1)), (10, .int x24), (0, .ref t), (2, .int l2), (3, .int l3), (4, .int l4), (5, .int l5), (6, .int l6), (7, .int l7), (8, .int l8)]) d_X8_findRound_173 9 rfl ki_1 (Nat.le_of_ble_eq_true rfl) rfl ?_
          refine WP.goto d_X8_findRound_176 ?_
          refine WP.sub [2, 3, 4, 5, 6, 7, 8, 9, 0] (lv' := [(0, .ref t), (2, .int l2), (3, .int l3), (4, .int l4), (5, .int l5), (6, .int l6), (7, .int l7), (8, .int l8), (9, .int (l9 + 1))]) rfl ?_
          exact ih H K
      · refine WP.icmp_ge_f d_X8_findRound_131 hc ?_
        cases H
        exact WP.sub [0, 1, 2, 3, 4, 5, 6, 7] rfl K
    · refine WP.icmp_ge_f d_X8_findRound_124 hc ?_
      cases H
      exact WP.sub [0, 1, 2, 3, 4, 5, 6, 7] rfl K

set_option maxRecDepth 20000 in
set_option maxHeartbeats 4000000 in
theorem okl_X8_findRound_L57 (V : EV) {t : Nat} {l2 : Int32} {l3 : Int32} (n : Nat) : ∀ {h : HA} {l4 : Int32} {r : Int32} {hR : HA} , (H : X8_findRound_L57 t l2 l3 n h l4 = some (r, hR)) → WP V M_X8_findRound 57 [(0, .ref t), (2, .int l2), (3, .int l3), (4, .int l4)] [] h 0 0 (some (.int r)) hR := by
  induction n with
  | zero =>
    intro h l4 r hR H
    rw [X8_findRound_L57] at H
    cases H
  | succ n ih =>
    intro h l4 r hR H
    rw [X8_findRound_L57] at H
    refine WP.iload d_X8_findRound_57 3 rfl ?_
    refine WP.aload_n d_X8_findRound_59 0 rfl ?_
    obtain ⟨x13, ex13, H⟩ := ob H
    refine WP.fI d_X8_findRound_60 gf_X8_352 (fun _ => rfl) ex13 ?_
    rcases oj H with ⟨hc, H⟩ | ⟨hc, H⟩
    · refine WP.icmp_ge_t d_X8_findRound_63 hc ?_
      refine WP.aload_n d_X8_findRound_66 0 rfl ?_
      obtain ⟨x14, ex14, H⟩ := ob H
      refine WP.fR d_X8_findRound_67 gf_X8_53 (fun _ => rfl) ex14 ?_
      refine WP.iload d_X8_findRound_70 3 rfl ?_
      obtain ⟨x15, ex15, H⟩ := ob H
      refine WP.iald d_X8_findRound_72 ex15 ?_
      refine WP.istore (lv9 := [(5, .int x15), (0, .ref t), (2, .int l2), (3, .int l3), (4, .int l4)]) d_X8_findRound_73 (Nat.le_of_ble_eq_true rfl) rfl ?_
      refine WP.aload_n d_X8_findRound_75 1 rfl ?_
      obtain ⟨x16, ex16, H⟩ := ob H
      refine WP.fR d_X8_findRound_76 gf_X8_62 (fun _ => rfl) ex16 ?_
      refine WP.iload d_X8_findRound_79 0 rfl ?_
      obtain ⟨x17, ex17, H⟩ := ob H
      refine WP.iald d_X8_findRound_81 ex17 ?_
      refine WP.istore (lv9 := [(6, .int x17), (5, .int x15), (0, .ref t), (2, .int l2), (3, .int l3), (4, .int l4)]) d_X8_findRound_82 (Nat.le_of_ble_eq_true rfl) rfl ?_
      refine WP.iload d_X8_findRound_84 1 rfl ?_
      refine WP.sipush d_X8_findRound_86 ks_256 ?_
      obtain ⟨x18, ex18, H⟩ := ob H
      refine WP.idiv d_X8_findRound_89 ex18 ?_
      refine WP.istore (lv9 := [(7, .int x18), (6, .int x17), (5, .int x15), (0, .ref t), (2, .int l2), (3, .int l3), (4, .int l4)]) d_X8_findRound_90 (Nat.le_of_ble_eq_true rfl) rfl ?_
      refine WP.iload d_X8_findRound_92 2 rfl ?_
      refine WP.iconst d_X8_findRound_94 ki_4 ?_
      obtain ⟨x19, ex19, H⟩ := ob H
      refine WP.idiv d_X8_findRound_95 ex19 ?_
      refine WP.bipush d_X8_findRound_96 kb_64 ?_
      obtain ⟨x20, ex20, H⟩ := ob H
      refine WP.irem d_X8_findRound_98 ex20 ?_
      refine WP.istore (lv9 := [(8, .int x20), (7, .int x18), (6, .int x17), (5, .int x15), (0, .ref t), (2, .int l2), (3, .int l3), (4, .int l4)]) d_X8_findRound_99 (Nat.le_of_ble_eq_true rfl) rfl ?_
      refine WP.iload d_X8_findRound_101 0 rfl ?_
      refine WP.iload_n d_X8_findRound_103 6 rfl ?_
      rcases oj H with ⟨hc, H⟩ | ⟨hc, H⟩
      · refine WP.icmp_ne_t d_X8_findRound_104 hc ?_
        refine WP.aload_n d_X8_findRound_107 4 rfl ?_
        refine WP.iload d_X8_findRound_108 3 rfl ?_
        refine WP.iload d_X8_findRound_110 2 rfl ?_
        obtain ⟨h22, e21, H⟩ := ob H
        refine WP.cV (c := 9) (As := [.int x15, .int x17]) (st := []) (st9 := []) (cl9 := 0) (sl9 := 0) d_X8_findRound_112 (ok_X8_layRow V e21) tv_X8_layRow ti_X8_layRow ts_X8_layRow lk_X8_361 r_X8_findRound_X8_layRow kc_X8_layRow (kd_X8_layRow e21) rfl rfl (Nat.le_of_ble_eq_true rfl) rfl rfl rfl ?_
        refine WP.iload d_X8_findRound_115 2 rfl ?_
        cases H
        exact WP.ireturn d_X8_findRound_117 rfl rfl (Nat.le_of_ble_eq_true rfl) (Nat.le_of_ble_eq_true rfl)
      · refine WP.icmp_ne_f d_X8_findRound_104 hc ?_
        refine WP.iconst d_X8_findRound_118 ki_0 ?_
        refine WP.istore (lv9 := [(9, .int 0), (8, .int x20), (7, .int x18), (6, .int x17), (5, .int x15), (0, .ref t), (2, .int l2), (3, .int l3), (4, .int l4)]) d_X8_findRound_119 (Nat.le_of_ble_eq_true rfl) rfl ?_
        obtain ⟨h30, e29, H⟩ := ob H
        refine WP.sub [5, 6, 7, 8, 4, 3, 2, 1, 0] (lv' := [(0, .ref t), (2, .int l2), (3, .int l3), (4, .int l4), (5, .int x15), (6, .int x17), (7, .int x18), (8, .int x20), (9, .int 0)]) rfl ?_
        refine okl_X8_findRound_L121 V _ e29 ?_
        refine WP.iload d_X8_findRound_179 5 rfl ?_
        refine WP.bipush d_X8_findRound_181 kb_60 ?_
        rcases oj H with ⟨hc, H⟩ | ⟨hc, H⟩
        · refine WP.icmp_ge_t d_X8_findRound_183 hc ?_
          refine WP.aload_n d_X8_findRound_186 0 rfl ?_
          refine WP.iload d_X8_findRound_187 6 rfl ?_
          refine WP.iload d_X8_findRound_189 7 rfl ?_
          refine WP.aload_n d_X8_findRound_191 0 rfl ?_
          refine WP.iload d_X8_findRound_192 6 rfl ?_
          refine WP.iload d_X8_findRound_194 5 rfl ?_
          refine WP.iconst d_X8_findRound_196 ki_4 ?_
          obtain ⟨x31, ex31, H⟩ := ob H
          refine WP.irem d_X8_findRound_197 ex31 ?_
          refine WP.iload_n d_X8_findRound_198 1 rfl ?_
          obtain ⟨x33, e32, H⟩ := ob H
          refine WP.cV (c := 9) (As := [.int x18, .int x31, .int l2]) (st := [.int x20, .int x18, .ref t]) (st9 := [.int x33, .int x20, .int x18, .ref t]) (cl9 := 0) (sl9 := 0) d_X8_findRound_199 (ok_X8_earsAt V e32) tv_X8_earsAt ti_X8_earsAt ts_X8_earsAt lk_X8_325 r_X8_findRound_X8_earsAt kc_X8_earsAt (kd_X8_earsAt e32) rfl rfl (Nat.le_of_ble_eq_true rfl) rfl rfl rfl ?_
          refine WP.ior d_X8_findRound_202 ?_
          refine WP.iload d_X8_findRound_203 5 rfl ?_
          refine WP.iconst d_X8_findRound_205 ki_1 ?_
          refine WP.iadd d_X8_findRound_206 ?_
          obtain ⟨x35, e34, H⟩ := ob H
          refine WP.cS (As := [.int x18, .int (x20 ||| x33), .int (x17 + 1)]) (st := [.ref t]) (st9 := [.int x35, .ref t]) (cl9 := 0) (sl9 := 0) d_X8_findRound_207 (ok_X8_stateOf V (h := h30) e34) tv_X8_stateOf ts_X8_stateOf lk_X8_355 r_X8_findRound_X8_stateOf rfl rfl (Nat.le_of_ble_eq_true rfl) rfl rfl rfl ?_
          refine WP.iload d_X8_findRound_210 4 rfl ?_
          refine WP.iconst d_X8_findRound_212 ki_4 ?_
          refine WP.iload d_X8_findRound_213 5 rfl ?_
          refine WP.iconst d_X8_findRound_215 ki_1 ?_
          refine WP.iadd d_X8_findRound_216 ?_
          obtain ⟨h37, e36, H⟩ := ob H
          refine WP.cV (c := 9) (As := [.int x35, .int x15, .int 4, .int (x17 + 1)]) (st := []) (st9 := []) (cl9 := 0) (sl9 := 0) d_X8_findRound_217 (ok_X8_comeTo V e36) tv_X8_comeTo ti_X8_comeTo ts_X8_comeTo lk_X8_358 r_X8_findRound_X8_comeTo kc_X8_comeTo (kd_X8_comeTo e36) rfl rfl (Nat.le_of_ble_eq_true rfl) rfl rfl rfl ?_
          refine WP.aload_n d_X8_findRound_220 0 rfl ?_
          refine WP.iload d_X8_findRound_221 6 rfl ?_
          refine WP.iload d_X8_findRound_223 7 rfl ?_
          refine WP.iload d_X8_findRound_225 5 rfl ?_
          refine WP.iconst d_X8_findRound_227 ki_1 ?_
          refine WP.iadd d_X8_findRound_228 ?_
          obtain ⟨x39, e38, H⟩ := ob H
          refine WP.cS (As := [.int x18, .int x20, .int (x17 + 1)]) (st := [.ref t]) (st9 := [.int x39, .ref t]) (cl9 := 0) (sl9 := 0) d_X8_findRound_229 (ok_X8_stateOf V (h := h37) e38) tv_X8_stateOf ts_X8_stateOf lk_X8_355 r_X8_findRound_X8_stateOf rfl rfl (Nat.le_of_ble_eq_true rfl) rfl rfl rfl ?_
          refine WP.iload d_X8_findRound_232 4 rfl ?_
          refine WP.iconst d_X8_findRound_234 ki_5 ?_
          refine WP.iload d_X8_findRound_235 5 rfl ?_
          refine WP.iconst d_X8_findRound_237 ki_1 ?_
          refine WP.iadd d_X8_findRound_238 ?_
          obtain ⟨h41, e40, H⟩ := ob H
          refine WP.cV (c := 9) (As := [.int x39, .int x15, .int 5, .int (x17 + 1)]) (st := []) (st9 := []) (cl9 := 0) (sl9 := 0) d_X8_findRound_239 (ok_X8_comeTo V e40) tv_X8_comeTo ti_X8_comeTo ts_X8_comeTo lk_X8_358 r_X8_findRound_X8_comeTo kc_X8_comeTo (kd_X8_comeTo e40) rfl rfl (Nat.le_of_ble_eq_true rfl) rfl rfl rfl ?_
          refine WP.iinc (lv9 := [(4, .int (l4 + 1)), (0, .ref t), (2, .int l2), (3, .int l3), (5, .int x15), (6, .int x17), (7, .int x18), (8, .int x20)]) d_X8_findRound_242 3 rfl ki_1 (Nat.le_of_ble_eq_true rfl) rfl ?_
          refine WP.goto d_X8_findRound_245 ?_
          refine WP.sub [1, 2, 3, 0] (lv' := [(0, .ref t), (2, .int l2), (3, .int l3), (4, .int (l4 + 1))]) rfl ?_
          exact ih H
        · refine WP.icmp_ge_f d_X8_findRound_183 hc ?_
          refine WP.iinc (lv9 := [(4, .int (l4 + 1)), (0, .ref t), (2, .int l2), (3, .int l3), (5, .int x15), (6, .int x17), (7, .int x18), (8, .int x20)]) d_X8_findRound_242 3 rfl ki_1 (Nat.le_of_ble_eq_true rfl) rfl ?_
          refine WP.goto d_X8_findRound_245 ?_
          refine WP.sub [1, 2, 3, 0] (lv' := [(0, .ref t), (2, .int l2), (3, .int l3), (4, .int (l4 + 1))]) rfl ?_
          exact ih H
    · refine WP.icmp_ge_f d_X8_findRound_63 hc ?_
      refine WP.iconst d_X8_findRound_248 ki_m1 ?_
      cases H
      exact WP.ireturn d_X8_findRound_249 rfl rfl (Nat.le_of_ble_eq_true rfl) (Nat.le_of_ble_eq_true rfl)

set_option maxRecDepth 20000 in
set_option maxHeartbeats 4000000 in
theorem ok_X8_findRound (V : EV) {h : HA} {t : Nat} {l1 : Int32} {l2 : Int32} {r : Int32} {hR : HA} (H : X8_findRound h t l1 l2 = some (r, hR)) : MG V M_X8_findRound [.ref t, .int l1, .int l2] h (some (.int r)) hR := by
  unfold X8_findRound at H
  obtain ⟨_, H⟩ := oc H
  refine MG.of (lv0 := [(0, .ref t), (1, .int l1), (2, .int l2)]) pn_X8 rfl (Nat.le_of_ble_eq_true rfl) ?_
  refine WP.iconst d_X8_findRound_0 ki_1 ?_
  refine WP.aload_n d_X8_findRound_1 0 rfl ?_
  obtain ⟨x1, ex1, H⟩ := ob H
  refine WP.fI d_X8_findRound_2 gf_X8_280 (fun _ => rfl) ex1 ?_
  refine WP.ishl d_X8_findRound_5 ?_
  refine WP.iconst d_X8_findRound_6 ki_1 ?_
  refine WP.isub d_X8_findRound_7 ?_
  refine WP.istore_n (lv9 := [(3, .int ((shlI 1 x1) - 1)), (0, .ref t), (1, .int l1), (2, .int l2)]) d_X8_findRound_8 (Nat.le_of_ble_eq_true rfl) rfl ?_
  refine WP.iconst d_X8_findRound_9 ki_0 ?_
  refine WP.istore (lv9 := [(4, .int 0), (3, .int ((shlI 1 x1) - 1)), (0, .ref t), (1, .int l1), (2, .int l2)]) d_X8_findRound_10 (Nat.le_of_ble_eq_true rfl) rfl ?_
  obtain ⟨h7, e6, H⟩ := ob H
  refine WP.sub [2, 3, 4, 1, 0] (lv' := [(0, .ref t), (1, .int l1), (2, .int l2), (3, .int ((shlI 1 x1) - 1)), (4, .int 0)]) rfl ?_
  refine okl_X8_findRound_L12 V _ e6 ?_
  refine WP.aload_n d_X8_findRound_36 0 rfl ?_
  refine WP.iconst d_X8_findRound_37 ki_0 ?_
  obtain ⟨h8, eh8, H⟩ := ob H
  refine WP.uI d_X8_findRound_38 gf_X8_352 rfl (Or.inl rfl) rfl rfl eh8 ?_
  refine WP.aload_n d_X8_findRound_41 0 rfl ?_
  refine WP.iload_n d_X8_findRound_42 1 rfl ?_
  refine WP.iconst d_X8_findRound_43 ki_0 ?_
  refine WP.iconst d_X8_findRound_44 ki_0 ?_
  obtain ⟨x10, e9, H⟩ := ob H
  refine WP.cS (As := [.int l1, .int 0, .int 0]) (st := [.ref t]) (st9 := [.int x10, .ref t]) (cl9 := 0) (sl9 := 0) d_X8_findRound_45 (ok_X8_stateOf V (h := h8) e9) tv_X8_stateOf ts_X8_stateOf lk_X8_355 r_X8_findRound_X8_stateOf rfl rfl (Nat.le_of_ble_eq_true rfl) rfl rfl rfl ?_
  refine WP.iconst d_X8_findRound_48 ki_m1 ?_
  refine WP.iconst d_X8_findRound_49 ki_m1 ?_
  refine WP.iconst d_X8_findRound_50 ki_0 ?_
  obtain ⟨h12, e11, H⟩ := ob H
  refine WP.cV (c := 9) (As := [.int x10, .int (-1), .int (-1), .int 0]) (st := []) (st9 := []) (cl9 := 0) (sl9 := 0) d_X8_findRound_51 (ok_X8_comeTo V e11) tv_X8_comeTo ti_X8_comeTo ts_X8_comeTo lk_X8_358 r_X8_findRound_X8_comeTo kc_X8_comeTo (kd_X8_comeTo e11) rfl rfl (Nat.le_of_ble_eq_true rfl) rfl rfl rfl ?_
  refine WP.iconst d_X8_findRound_54 ki_0 ?_
  refine WP.istore (lv9 := [(4, .int 0), (0, .ref t), (1, .int l1), (2, .int l2), (3, .int ((shlI 1 x1) - 1))]) d_X8_findRound_55 (Nat.le_of_ble_eq_true rfl) rfl ?_
  refine WP.sub [1, 3, 4, 0] (lv' := [(0, .ref t), (2, .int l2), (3, .int ((shlI 1 x1) - 1)), (4, .int 0)]) rfl ?_
  exact okl_X8_findRound_L57 V _ H

set_option maxRecDepth 20000 in
set_option maxHeartbeats 4000000 in
theorem ok_X8_round (V : EV) {h : HA} {t : Nat} {l1 : Int32} {l2 : Int32} {l3 : Int32} {l4 : Int32} {r : Int32} {hR : HA} (H : X8_round h t l1 l2 l3 l4 = some (r, hR)) : MG V M_X8_round [.ref t, .int l1, .int l2, .int l3, .int l4] h (some (.int r)) hR := by
  unfold X8_round at H
  obtain ⟨_, H⟩ := oc H
  refine MG.of (lv0 := [(0, .ref t), (1, .int l1), (2, .int l2), (3, .int l3), (4, .int l4)]) pn_X8 rfl (Nat.le_of_ble_eq_true rfl) ?_
  refine WP.aload_n d_X8_round_0 0 rfl ?_
  refine WP.iconst d_X8_round_1 ki_0 ?_
  obtain ⟨h1, eh1, H⟩ := ob H
  refine WP.uI d_X8_round_2 gf_X8_102 rfl (Or.inl rfl) rfl rfl eh1 ?_
  refine WP.iload_n d_X8_round_5 3 rfl ?_
  refine WP.iconst d_X8_round_6 ki_0 ?_
  refine WP.bipush d_X8_round_7 kb_9 ?_
  obtain ⟨x3, e2, H⟩ := ob H
  refine WP.cS (As := [.int l3, .int 0, .int 9]) (st := []) (st9 := [.int x3]) (cl9 := 0) (sl9 := 0) d_X8_round_9 (ok_X8_in V (h := h1) e2) tv_X8_in ts_X8_in lk_X8_114 r_X8_round_X8_in rfl rfl (Nat.le_of_ble_eq_true rfl) rfl rfl rfl ?_
  rcases oj H with ⟨hc, H⟩ | ⟨hc, H⟩
  · refine WP.if_eq_t d_X8_round_12 hc ?_
    refine WP.iconst d_X8_round_38 ki_m1 ?_
    cases H
    exact WP.ireturn d_X8_round_39 rfl rfl (Nat.le_of_ble_eq_true rfl) (Nat.le_of_ble_eq_true rfl)
  · refine WP.if_eq_f d_X8_round_12 hc ?_
    refine WP.aload_n d_X8_round_15 0 rfl ?_
    refine WP.iload_n d_X8_round_16 1 rfl ?_
    obtain ⟨⟨x6, h5⟩, e4, H⟩ := ob H
    refine WP.cV (c := 9) (As := [.int l1]) (st := []) (st9 := [.int x6]) (cl9 := 0) (sl9 := 0) d_X8_round_17 (ok_X8_hand V e4) tv_X8_hand ti_X8_hand ts_X8_hand lk_X8_331 r_X8_round_X8_hand kc_X8_hand (kd_X8_hand e4) rfl rfl (Nat.le_of_ble_eq_true rfl) rfl rfl rfl ?_
    rcases oj H with ⟨hc, H⟩ | ⟨hc, H⟩
    · refine WP.if_eq_t d_X8_round_20 hc ?_
      refine WP.iconst d_X8_round_38 ki_m1 ?_
      cases H
      exact WP.ireturn d_X8_round_39 rfl rfl (Nat.le_of_ble_eq_true rfl) (Nat.le_of_ble_eq_true rfl)
    · refine WP.if_eq_f d_X8_round_20 hc ?_
      refine WP.aload_n d_X8_round_23 0 rfl ?_
      refine WP.iload_n d_X8_round_24 2 rfl ?_
      obtain ⟨x8, e7, H⟩ := ob H
      refine WP.cV (c := 9) (As := [.int l2]) (st := []) (st9 := [.int x8]) (cl9 := 0) (sl9 := 0) d_X8_round_25 (ok_X8_isPleader V e7) tv_X8_isPleader ti_X8_isPleader ts_X8_isPleader lk_X8_343 r_X8_round_X8_isPleader kc_X8_isPleader (kd_X8_isPleader e7) rfl rfl (Nat.le_of_ble_eq_true rfl) rfl rfl rfl ?_
      rcases oj H with ⟨hc, H⟩ | ⟨hc, H⟩
      · refine WP.if_eq_t d_X8_round_28 hc ?_
        refine WP.iconst d_X8_round_38 ki_m1 ?_
        cases H
        exact WP.ireturn d_X8_round_39 rfl rfl (Nat.le_of_ble_eq_true rfl) (Nat.le_of_ble_eq_true rfl)
      · refine WP.if_eq_f d_X8_round_28 hc ?_
        refine WP.aload_n d_X8_round_31 0 rfl ?_
        obtain ⟨x9, ex9, H⟩ := ob H
        refine WP.fI d_X8_round_32 gf_X8_280 (fun _ => rfl) ex9 ?_
        rcases oj H with ⟨hc, H⟩ | ⟨hc, H⟩
        · refine WP.if_ne_t d_X8_round_35 hc ?_
          refine WP.iconst d_X8_round_38 ki_m1 ?_
          cases H
          exact WP.ireturn d_X8_round_39 rfl rfl (Nat.le_of_ble_eq_true rfl) (Nat.le_of_ble_eq_true rfl)
        · refine WP.if_ne_f d_X8_round_35 hc ?_
          refine WP.aload_n d_X8_round_40 0 rfl ?_
          refine WP.aload_n d_X8_round_41 0 rfl ?_
          refine WP.bipush d_X8_round_42 kb_34 ?_
          refine WP.iconst d_X8_round_44 ki_2 ?_
          refine WP.iload_n d_X8_round_45 2 rfl ?_
          refine WP.imul d_X8_round_46 ?_
          refine WP.iadd d_X8_round_47 ?_
          obtain ⟨x11, e10, H⟩ := ob H
          refine WP.cV (c := 9) (As := [.int (34 + (2 * l2))]) (st := [.ref t]) (st9 := [.int x11, .ref t]) (cl9 := 0) (sl9 := 0) d_X8_round_48 (ok_X8_of V e10) tv_X8_of ti_X8_of ts_X8_of lk_X8_267 r_X8_round_X8_of kc_X8_of (kd_X8_of e10) rfl rfl (Nat.le_of_ble_eq_true rfl) rfl rfl rfl ?_
          refine WP.iload_n d_X8_round_51 3 rfl ?_
          obtain ⟨⟨x14, h13⟩, e12, H⟩ := ob H
          refine WP.cV (c := 9) (As := [.int x11, .int l3]) (st := []) (st9 := [.int x14]) (cl9 := 0) (sl9 := 0) d_X8_round_52 (ok_X8_findRound V e12) tv_X8_findRound ti_X8_findRound ts_X8_findRound lk_X8_364 r_X8_round_X8_findRound kc_X8_findRound (kd_X8_findRound e12) rfl rfl (Nat.le_of_ble_eq_true rfl) rfl rfl rfl ?_
          refine WP.istore (lv9 := [(5, .int x14), (0, .ref t), (1, .int l1), (2, .int l2), (3, .int l3), (4, .int l4)]) d_X8_round_55 (Nat.le_of_ble_eq_true rfl) rfl ?_
          refine WP.iload d_X8_round_57 5 rfl ?_
          rcases oj H with ⟨hc, H⟩ | ⟨hc, H⟩
          · refine WP.if_ne_t d_X8_round_59 hc ?_
            refine WP.iload d_X8_round_62 0 rfl ?_
            refine WP.goto d_X8_round_64 ?_
            cases H
            exact WP.ireturn d_X8_round_96 rfl rfl (Nat.le_of_ble_eq_true rfl) (Nat.le_of_ble_eq_true rfl)
          · refine WP.if_ne_f d_X8_round_59 hc ?_
            refine WP.iload d_X8_round_67 5 rfl ?_
            refine WP.bipush d_X8_round_69 kb_10 ?_
            refine WP.bipush d_X8_round_71 kb_9 ?_
            refine WP.iload d_X8_round_73 0 rfl ?_
            refine WP.iadd d_X8_round_75 ?_
            obtain ⟨x16, e15, H⟩ := ob H
            refine WP.cS (As := [.int l4, .int 10, .int (9 + x14)]) (st := []) (st9 := [.int x16]) (cl9 := 0) (sl9 := 0) d_X8_round_76 (ok_X8_in V (h := h13) e15) tv_X8_in ts_X8_in lk_X8_114 r_X8_round_X8_in rfl rfl (Nat.le_of_ble_eq_true rfl) rfl rfl rfl ?_
            rcases oj H with ⟨hc, H⟩ | ⟨hc, H⟩
            · refine WP.if_eq_t d_X8_round_79 hc ?_
              refine WP.iconst d_X8_round_95 ki_m1 ?_
              cases H
              exact WP.ireturn d_X8_round_96 rfl rfl (Nat.le_of_ble_eq_true rfl) (Nat.le_of_ble_eq_true rfl)
            · refine WP.if_eq_f d_X8_round_79 hc ?_
              refine WP.aload_n d_X8_round_82 1 rfl ?_
              obtain ⟨x17, ex17, H⟩ := ob H
              refine WP.fR d_X8_round_83 gf_X8_65 (fun _ => rfl) ex17 ?_
              refine WP.iload d_X8_round_86 5 rfl ?_
              refine WP.bipush d_X8_round_88 kb_10 ?_
              refine WP.isub d_X8_round_90 ?_
              obtain ⟨x18, ex18, H⟩ := ob H
              refine WP.iald d_X8_round_91 ex18 ?_
              refine WP.goto d_X8_round_92 ?_
              cases H
              exact WP.ireturn d_X8_round_96 rfl rfl (Nat.le_of_ble_eq_true rfl) (Nat.le_of_ble_eq_true rfl)

set_option maxRecDepth 20000 in
set_option maxHeartbeats 4000000 in
theorem okl_X8_echo_L91 (V : EV) {vF : Option Value} {hF : HA} {h : HA} {t : Nat} {l2 : Int32} {l3 : Int32} {l4 : Int32} (n : Nat) : ∀ {l5 : Int32} {l6 : Int32} {r5 : Int32}, (H : X8_echo_L91 h t l2 l3 l4 n l5 l6 = some r5) → (K : WP V M_X8_echo 156 [(5, .int r5)] [] h 0 0 vF hF) → WP V M_X8_echo 91 [(0, .ref t), (2, .int l2), (3, .int l3), (4, .int l4), (5, .int l5), (6, .int l6)] [] h 0 0 vF hF := by
  induction n with
  | zero =>
    intro l5 l6 r5 H K
    rw [X8_echo_L91] at H
    cases H
  | succ n ih =>
    intro l5 l6 r5 H K
    rw [X8_echo_L91] at H
    refine WP.iload d_X8_echo_91 5 rfl ?_
    refine WP.aload_n d_X8_echo_93 0 rfl ?_
    obtain ⟨x21, ex21, H⟩ := ob H
    refine WP.fI d_X8_echo_94 gf_X8_277 (fun _ => rfl) ex21 ?_
    rcases oj H with ⟨hc, H⟩ | ⟨hc, H⟩
    · refine WP.icmp_ge_t d_X8_echo_97 hc ?_
      refine WP.iload d_X8_echo_100 4 rfl ?_
      refine WP.aload_n d_X8_echo_102 0 rfl ?_
      refine WP.iload d_X8_echo_103 5 rfl ?_
      obtain ⟨x23, e22, H⟩ := ob H
      refine WP.cV (c := 9) (As := [.int l6]) (st := [.int l5]) (st9 := [.int x23, .int l5]) (cl9 := 0) (sl9 := 0) d_X8_echo_105 (ok_X8_isWall V e22) tv_X8_isWall ti_X8_isWall ts_X8_isWall lk_X8_292 r_X8_echo_X8_isWall kc_X8_isWall (kd_X8_isWall e22) rfl rfl (Nat.le_of_ble_eq_true rfl) rfl rfl rfl ?_
      rcases oj H with ⟨hc, H⟩ | ⟨hc, H⟩
      · refine WP.if_ne_t d_X8_echo_108 hc ?_
        refine WP.aload_n d_X8_echo_111 0 rfl ?_
        refine WP.iload_n d_X8_echo_112 1 rfl ?_
        refine WP.iload d_X8_echo_113 5 rfl ?_
        refine WP.iconst d_X8_echo_115 ki_0 ?_
        refine WP.iload d_X8_echo_116 3 rfl ?_
        obtain ⟨x25, e24, H⟩ := ob H
        refine WP.cV (c := 9) (As := [.int l2, .int l6, .int 0, .int l4]) (st := [.int l5]) (st9 := [.int x25, .int l5]) (cl9 := 0) (sl9 := 0) d_X8_echo_118 (ok_X8_hears V e24) tv_X8_hears ti_X8_hears ts_X8_hears lk_X8_321 r_X8_echo_X8_hears kc_X8_hears (kd_X8_hears e24) rfl rfl (Nat.le_of_ble_eq_true rfl) rfl rfl rfl ?_
        rcases oj H with ⟨hc, H⟩ | ⟨hc, H⟩
        · refine WP.if_eq_t d_X8_echo_121 hc ?_
          refine WP.iconst d_X8_echo_146 ki_0 ?_
          refine WP.iadd d_X8_echo_147 ?_
          refine WP.istore (lv9 := [(5, .int (l5 + 0)), (0, .ref t), (2, .int l2), (3, .int l3), (4, .int l4), (6, .int l6)]) d_X8_echo_148 (Nat.le_of_ble_eq_true rfl) rfl ?_
          refine WP.iinc (lv9 := [(6, .int (l6 + 1)), (5, .int (l5 + 0)), (0, .ref t), (2, .int l2), (3, .int l3), (4, .int l4)]) d_X8_echo_150 5 rfl ki_1 (Nat.le_of_ble_eq_true rfl) rfl ?_
          refine WP.goto d_X8_echo_153 ?_
          refine WP.sub [2, 3, 4, 5, 1, 0] (lv' := [(0, .ref t), (2, .int l2), (3, .int l3), (4, .int l4), (5, .int (l5 + 0)), (6, .int (l6 + 1))]) rfl ?_
          exact ih H K
        · refine WP.if_eq_f d_X8_echo_121 hc ?_
          refine WP.iload_n d_X8_echo_124 2 rfl ?_
          refine WP.iconst d_X8_echo_125 ki_m1 ?_
          rcases oj H with ⟨hc, H⟩ | ⟨hc, H⟩
          · refine WP.icmp_eq_t d_X8_echo_126 hc ?_
            refine WP.iconst d_X8_echo_142 ki_1 ?_
            refine WP.goto d_X8_echo_143 ?_
            refine WP.iadd d_X8_echo_147 ?_
            refine WP.istore (lv9 := [(5, .int (l5 + 1)), (0, .ref t), (2, .int l2), (3, .int l3), (4, .int l4), (6, .int l6)]) d_X8_echo_148 (Nat.le_of_ble_eq_true rfl) rfl ?_
            refine WP.iinc (lv9 := [(6, .int (l6 + 1)), (5, .int (l5 + 1)), (0, .ref t), (2, .int l2), (3, .int l3), (4, .int l4)]) d_X8_echo_150 5 rfl ki_1 (Nat.le_of_ble_eq_true rfl) rfl ?_
            refine WP.goto d_X8_echo_153 ?_
            refine WP.sub [2, 3, 4, 5, 1, 0] (lv' := [(0, .ref t), (2, .int l2), (3, .int l3), (4, .int l4), (5, .int (l5 + 1)), (6, .int (l6 + 1))]) rfl ?_
            exact ih H K
          · refine WP.icmp_eq_f d_X8_echo_126 hc ?_
            refine WP.aload_n d_X8_echo_129 0 rfl ?_
            refine WP.iload_n d_X8_echo_130 2 rfl ?_
            refine WP.iload d_X8_echo_131 5 rfl ?_
            refine WP.iconst d_X8_echo_133 ki_0 ?_
            refine WP.iload d_X8_echo_134 3 rfl ?_
            obtain ⟨x27, e26, H⟩ := ob H
            refine WP.cV (c := 9) (As := [.int l3, .int l6, .int 0, .int l4]) (st := [.int l5]) (st9 := [.int x27, .int l5]) (cl9 := 0) (sl9 := 0) d_X8_echo_136 (ok_X8_hears V e26) tv_X8_hears ti_X8_hears ts_X8_hears lk_X8_321 r_X8_echo_X8_hears kc_X8_hears (kd_X8_hears e26) rfl rfl (Nat.le_of_ble_eq_true rfl) rfl rfl rfl ?_
            rcases oj H with ⟨hc, H⟩ | ⟨hc, H⟩
            · refine WP.if_eq_t d_X8_echo_139 hc ?_
              refine WP.iconst d_X8_echo_146 ki_0 ?_
              refine WP.iadd d_X8_echo_147 ?_
              refine WP.istore (lv9 := [(5, .int (l5 + 0)), (0, .ref t), (2, .int l2), (3, .int l3), (4, .int l4), (6, .int l6)]) d_X8_echo_148 (Nat.le_of_ble_eq_true rfl) rfl ?_
              refine WP.iinc (lv9 := [(6, .int (l6 + 1)), (5, .int (l5 + 0)), (0, .ref t), (2, .int l2), (3, .int l3), (4, .int l4)]) d_X8_echo_150 5 rfl ki_1 (Nat.le_of_ble_eq_true rfl) rfl ?_
              refine WP.goto d_X8_echo_153 ?_
              refine WP.sub [2, 3, 4, 5, 1, 0] (lv' := [(0, .ref t), (2, .int l2), (3, .int l3), (4, .int l4), (5, .int (l5 + 0)), (6, .int (l6 + 1))]) rfl ?_
              exact ih H K
            · refine WP.if_eq_f d_X8_echo_139 hc ?_
              refine WP.iconst d_X8_echo_142 ki_1 ?_
              refine WP.goto d_X8_echo_143 ?_
              refine WP.iadd d_X8_echo_147 ?_
              refine WP.istore (lv9 := [(5, .int (l5 + 1)), (0, .ref t), (2, .int l2), (3, .int l3), (4, .int l4), (6, .int l6)]) d_X8_echo_148 (Nat.le_of_ble_eq_true rfl) rfl ?_
              refine WP.iinc (lv9 := [(6, .int (l6 + 1)), (5, .int (l5 + 1)), (0, .ref t), (2, .int l2), (3, .int l3), (4, .int l4)]) d_X8_echo_150 5 rfl ki_1 (Nat.le_of_ble_eq_true rfl) rfl ?_
              refine WP.goto d_X8_echo_153 ?_
              refine WP.sub [2, 3, 4, 5, 1, 0] (lv' := [(0, .ref t), (2, .int l2), (3, .int l3), (4, .int l4), (5, .int (l5 + 1)), (6, .int (l6 + 1))]) rfl ?_
              exact ih H K
      · refine WP.if_ne_f d_X8_echo_108 hc ?_
        refine WP.iconst d_X8_echo_146 ki_0 ?_
        refine WP.iadd d_X8_echo_147 ?_
        refine WP.istore (lv9 := [(5, .int (l5 + 0)), (0, .ref t), (2, .int l2), (3, .int l3), (4, .int l4), (6, .int l6)]) d_X8_echo_148 (Nat.le_of_ble_eq_true rfl) rfl ?_
        refine WP.iinc (lv9 := [(6, .int (l6 + 1)), (5, .int (l5 + 0)), (0, .ref t), (2, .int l2), (3, .int l3), (4, .int l4)]) d_X8_echo_150 5 rfl ki_1 (Nat.le_of_ble_eq_true rfl) rfl ?_
        refine WP.goto d_X8_echo_153 ?_
        refine WP.sub [2, 3, 4, 5, 1, 0] (lv' := [(0, .ref t), (2, .int l2), (3, .int l3), (4, .int l4), (5, .int (l5 + 0)), (6, .int (l6 + 1))]) rfl ?_
        exact ih H K
    · refine WP.icmp_ge_f d_X8_echo_97 hc ?_
      cases H
      exact WP.sub [4] rfl K

set_option maxRecDepth 20000 in
set_option maxHeartbeats 4000000 in
theorem ok_X8_echo (V : EV) {h : HA} {t : Nat} {l1 : Int32} {l2 : Int32} {l3 : Int32} {l4 : Int32} {r : Int32} {hR : HA} (H : X8_echo h t l1 l2 l3 l4 = some (r, hR)) : MG V M_X8_echo [.ref t, .int l1, .int l2, .int l3, .int l4] h (some (.int r)) hR := by
  unfold X8_echo at H
  obtain ⟨_, H⟩ := oc H
  refine MG.of (lv0 := [(0, .ref t), (1, .int l1), (2, .int l2), (3, .int l3), (4, .int l4)]) pn_X8 rfl (Nat.le_of_ble_eq_true rfl) ?_
  refine WP.aload_n d_X8_echo_0 0 rfl ?_
  refine WP.iconst d_X8_echo_1 ki_0 ?_
  obtain ⟨h1, eh1, H⟩ := ob H
  refine WP.uI d_X8_echo_2 gf_X8_102 rfl (Or.inl rfl) rfl rfl eh1 ?_
  refine WP.iload d_X8_echo_5 4 rfl ?_
  refine WP.iconst d_X8_echo_7 ki_0 ?_
  refine WP.bipush d_X8_echo_8 kb_9 ?_
  obtain ⟨x3, e2, H⟩ := ob H
  refine WP.cS (As := [.int l4, .int 0, .int 9]) (st := []) (st9 := [.int x3]) (cl9 := 0) (sl9 := 0) d_X8_echo_10 (ok_X8_in V (h := h1) e2) tv_X8_in ts_X8_in lk_X8_114 r_X8_echo_X8_in rfl rfl (Nat.le_of_ble_eq_true rfl) rfl rfl rfl ?_
  rcases oj H with ⟨hc, H⟩ | ⟨hc, H⟩
  · refine WP.if_eq_t d_X8_echo_13 hc ?_
    refine WP.iconst d_X8_echo_70 ki_m1 ?_
    cases H
    exact WP.ireturn d_X8_echo_71 rfl rfl (Nat.le_of_ble_eq_true rfl) (Nat.le_of_ble_eq_true rfl)
  · refine WP.if_eq_f d_X8_echo_13 hc ?_
    refine WP.aload_n d_X8_echo_16 0 rfl ?_
    refine WP.iload_n d_X8_echo_17 1 rfl ?_
    obtain ⟨⟨x6, h5⟩, e4, H⟩ := ob H
    refine WP.cV (c := 9) (As := [.int l1]) (st := []) (st9 := [.int x6]) (cl9 := 0) (sl9 := 0) d_X8_echo_18 (ok_X8_hand V e4) tv_X8_hand ti_X8_hand ts_X8_hand lk_X8_331 r_X8_echo_X8_hand kc_X8_hand (kd_X8_hand e4) rfl rfl (Nat.le_of_ble_eq_true rfl) rfl rfl rfl ?_
    rcases oj H with ⟨hc, H⟩ | ⟨hc, H⟩
    · refine WP.if_eq_t d_X8_echo_21 hc ?_
      refine WP.iconst d_X8_echo_70 ki_m1 ?_
      cases H
      exact WP.ireturn d_X8_echo_71 rfl rfl (Nat.le_of_ble_eq_true rfl) (Nat.le_of_ble_eq_true rfl)
    · refine WP.if_eq_f d_X8_echo_21 hc ?_
      refine WP.iload_n d_X8_echo_24 2 rfl ?_
      refine WP.iconst d_X8_echo_25 ki_m1 ?_
      obtain ⟨s41, hs7, H⟩ := ob H
      rcases s41 with r38 | _
      · dsimp only at H
        rcases oj hs7 with ⟨hc, hs7⟩ | ⟨hc, hs7⟩
        · refine WP.icmp_eq_t d_X8_echo_26 hc ?_
          cases hs7
        · refine WP.icmp_eq_f d_X8_echo_26 hc ?_
          refine WP.aload_n d_X8_echo_29 0 rfl ?_
          refine WP.iload_n d_X8_echo_30 2 rfl ?_
          obtain ⟨x40, e39, hs7⟩ := ob hs7
          refine WP.cV (c := 9) (As := [.int l2]) (st := []) (st9 := [.int x40]) (cl9 := 0) (sl9 := 0) d_X8_echo_31 (ok_X8_isJudge V e39) tv_X8_isJudge ti_X8_isJudge ts_X8_isJudge lk_X8_340 r_X8_echo_X8_isJudge kc_X8_isJudge (kd_X8_isJudge e39) rfl rfl (Nat.le_of_ble_eq_true rfl) rfl rfl rfl ?_
          rcases oj hs7 with ⟨hc, hs7⟩ | ⟨hc, hs7⟩
          · refine WP.if_eq_t d_X8_echo_34 hc ?_
            refine WP.iconst d_X8_echo_70 ki_m1 ?_
            cases hs7
            cases H
            exact WP.ireturn d_X8_echo_71 rfl rfl (Nat.le_of_ble_eq_true rfl) (Nat.le_of_ble_eq_true rfl)
          · refine WP.if_eq_f d_X8_echo_34 hc ?_
            cases hs7
      · dsimp only at H
        have J8 : WP V M_X8_echo 37 [(0, .ref t), (2, .int l2), (3, .int l3), (4, .int l4)] [] h5 0 0 (some (.int r)) hR := by
          refine WP.iload_n d_X8_echo_37 2 rfl ?_
          refine WP.iconst d_X8_echo_38 ki_m1 ?_
          obtain ⟨s37, hs11, H⟩ := ob H
          rcases s37 with r34 | _
          · dsimp only at H
            rcases oj hs11 with ⟨hc, hs11⟩ | ⟨hc, hs11⟩
            · refine WP.icmp_eq_t d_X8_echo_39 hc ?_
              cases hs11
            · refine WP.icmp_eq_f d_X8_echo_39 hc ?_
              refine WP.aload_n d_X8_echo_42 0 rfl ?_
              refine WP.iload_n d_X8_echo_43 2 rfl ?_
              obtain ⟨x36, e35, hs11⟩ := ob hs11
              refine WP.cV (c := 9) (As := [.int l3]) (st := []) (st9 := [.int x36]) (cl9 := 0) (sl9 := 0) d_X8_echo_44 (ok_X8_isJudge V e35) tv_X8_isJudge ti_X8_isJudge ts_X8_isJudge lk_X8_340 r_X8_echo_X8_isJudge kc_X8_isJudge (kd_X8_isJudge e35) rfl rfl (Nat.le_of_ble_eq_true rfl) rfl rfl rfl ?_
              rcases oj hs11 with ⟨hc, hs11⟩ | ⟨hc, hs11⟩
              · refine WP.if_eq_t d_X8_echo_47 hc ?_
                refine WP.iconst d_X8_echo_70 ki_m1 ?_
                cases hs11
                cases H
                exact WP.ireturn d_X8_echo_71 rfl rfl (Nat.le_of_ble_eq_true rfl) (Nat.le_of_ble_eq_true rfl)
              · refine WP.if_eq_f d_X8_echo_47 hc ?_
                cases hs11
          · dsimp only at H
            have J12 : WP V M_X8_echo 50 [(0, .ref t), (2, .int l2), (3, .int l3), (4, .int l4)] [] h5 0 0 (some (.int r)) hR := by
              refine WP.iload_n d_X8_echo_50 1 rfl ?_
              refine WP.iload_n d_X8_echo_51 2 rfl ?_
              obtain ⟨s33, hs15, H⟩ := ob H
              rcases s33 with r32 | _
              · dsimp only at H
                rcases oj hs15 with ⟨hc, hs15⟩ | ⟨hc, hs15⟩
                · refine WP.icmp_ne_t d_X8_echo_52 hc ?_
                  refine WP.iload_n d_X8_echo_55 1 rfl ?_
                  refine WP.iconst d_X8_echo_56 ki_m1 ?_
                  rcases oj hs15 with ⟨hc, hs15⟩ | ⟨hc, hs15⟩
                  · refine WP.icmp_ne_t d_X8_echo_57 hc ?_
                    cases hs15
                  · refine WP.icmp_ne_f d_X8_echo_57 hc ?_
                    refine WP.iconst d_X8_echo_70 ki_m1 ?_
                    cases hs15
                    cases H
                    exact WP.ireturn d_X8_echo_71 rfl rfl (Nat.le_of_ble_eq_true rfl) (Nat.le_of_ble_eq_true rfl)
                · refine WP.icmp_ne_f d_X8_echo_52 hc ?_
                  cases hs15
              · dsimp only at H
                have J16 : WP V M_X8_echo 60 [(0, .ref t), (2, .int l2), (3, .int l3), (4, .int l4)] [] h5 0 0 (some (.int r)) hR := by
                  refine WP.iload_n d_X8_echo_60 1 rfl ?_
                  refine WP.iconst d_X8_echo_61 ki_m1 ?_
                  obtain ⟨s31, hs17, H⟩ := ob H
                  rcases s31 with r30 | _
                  · dsimp only at H
                    rcases oj hs17 with ⟨hc, hs17⟩ | ⟨hc, hs17⟩
                    · refine WP.icmp_ne_t d_X8_echo_62 hc ?_
                      refine WP.iload_n d_X8_echo_65 2 rfl ?_
                      refine WP.iconst d_X8_echo_66 ki_m1 ?_
                      rcases oj hs17 with ⟨hc, hs17⟩ | ⟨hc, hs17⟩
                      · refine WP.icmp_eq_t d_X8_echo_67 hc ?_
                        cases hs17
                      · refine WP.icmp_eq_f d_X8_echo_67 hc ?_
                        refine WP.iconst d_X8_echo_70 ki_m1 ?_
                        cases hs17
                        cases H
                        exact WP.ireturn d_X8_echo_71 rfl rfl (Nat.le_of_ble_eq_true rfl) (Nat.le_of_ble_eq_true rfl)
                    · refine WP.icmp_ne_f d_X8_echo_62 hc ?_
                      cases hs17
                  · dsimp only at H
                    have J18 : WP V M_X8_echo 72 [(0, .ref t), (2, .int l2), (3, .int l3), (4, .int l4)] [] h5 0 0 (some (.int r)) hR := by
                      refine WP.iload_n d_X8_echo_72 1 rfl ?_
                      refine WP.iconst d_X8_echo_73 ki_m1 ?_
                      rcases oj H with ⟨hc, H⟩ | ⟨hc, H⟩
                      · refine WP.icmp_ne_t d_X8_echo_74 hc ?_
                        refine WP.aload_n d_X8_echo_77 0 rfl ?_
                        refine WP.iconst d_X8_echo_78 ki_0 ?_
                        refine WP.iload d_X8_echo_79 3 rfl ?_
                        obtain ⟨x20, e19, H⟩ := ob H
                        refine WP.cV (c := 9) (As := [.int 0, .int l4]) (st := []) (st9 := [.int x20]) (cl9 := 0) (sl9 := 0) d_X8_echo_81 (ok_X8_blind V e19) tv_X8_blind ti_X8_blind ts_X8_blind lk_X8_328 r_X8_echo_X8_blind kc_X8_blind (kd_X8_blind e19) rfl rfl (Nat.le_of_ble_eq_true rfl) rfl rfl rfl ?_
                        cases H
                        exact WP.ireturn d_X8_echo_84 rfl rfl (Nat.le_of_ble_eq_true rfl) (Nat.le_of_ble_eq_true rfl)
                      · refine WP.icmp_ne_f d_X8_echo_74 hc ?_
                        refine WP.iconst d_X8_echo_85 ki_0 ?_
                        refine WP.istore (lv9 := [(5, .int 0), (0, .ref t), (2, .int l2), (3, .int l3), (4, .int l4)]) d_X8_echo_86 (Nat.le_of_ble_eq_true rfl) rfl ?_
                        refine WP.iconst d_X8_echo_88 ki_0 ?_
                        refine WP.istore (lv9 := [(6, .int 0), (5, .int 0), (0, .ref t), (2, .int l2), (3, .int l3), (4, .int l4)]) d_X8_echo_89 (Nat.le_of_ble_eq_true rfl) rfl ?_
                        obtain ⟨y29, e28, H⟩ := ob H
                        refine WP.sub [2, 3, 4, 5, 1, 0] (lv' := [(0, .ref t), (2, .int l2), (3, .int l3), (4, .int l4), (5, .int 0), (6, .int 0)]) rfl ?_
                        refine okl_X8_echo_L91 V _ e28 ?_
                        refine WP.iload d_X8_echo_156 0 rfl ?_
                        cases H
                        exact WP.ireturn d_X8_echo_158 rfl rfl (Nat.le_of_ble_eq_true rfl) (Nat.le_of_ble_eq_true rfl)
                    rcases oj hs17 with ⟨hc, hs17⟩ | ⟨hc, hs17⟩
                    · refine WP.icmp_ne_t d_X8_echo_62 hc ?_
                      refine WP.iload_n d_X8_echo_65 2 rfl ?_
                      refine WP.iconst d_X8_echo_66 ki_m1 ?_
                      rcases oj hs17 with ⟨hc, hs17⟩ | ⟨hc, hs17⟩
                      · refine WP.icmp_eq_t d_X8_echo_67 hc ?_
                        cases hs17
                        exact WP.sub [0, 1, 2, 3] rfl J18
                      · refine WP.icmp_eq_f d_X8_echo_67 hc ?_
                        refine WP.iconst d_X8_echo_70 ki_m1 ?_
                        cases hs17
                    · refine WP.icmp_ne_f d_X8_echo_62 hc ?_
                      cases hs17
                      exact WP.sub [0, 1, 2, 3] rfl J18
                rcases oj hs15 with ⟨hc, hs15⟩ | ⟨hc, hs15⟩
                · refine WP.icmp_ne_t d_X8_echo_52 hc ?_
                  refine WP.iload_n d_X8_echo_55 1 rfl ?_
                  refine WP.iconst d_X8_echo_56 ki_m1 ?_
                  rcases oj hs15 with ⟨hc, hs15⟩ | ⟨hc, hs15⟩
                  · refine WP.icmp_ne_t d_X8_echo_57 hc ?_
                    cases hs15
                    exact WP.sub [0, 1, 2, 3] rfl J16
                  · refine WP.icmp_ne_f d_X8_echo_57 hc ?_
                    refine WP.iconst d_X8_echo_70 ki_m1 ?_
                    cases hs15
                · refine WP.icmp_ne_f d_X8_echo_52 hc ?_
                  cases hs15
                  exact WP.sub [0, 1, 2, 3] rfl J16
            rcases oj hs11 with ⟨hc, hs11⟩ | ⟨hc, hs11⟩
            · refine WP.icmp_eq_t d_X8_echo_39 hc ?_
              cases hs11
              exact WP.sub [0, 1, 2, 3] rfl J12
            · refine WP.icmp_eq_f d_X8_echo_39 hc ?_
              refine WP.aload_n d_X8_echo_42 0 rfl ?_
              refine WP.iload_n d_X8_echo_43 2 rfl ?_
              obtain ⟨x14, e13, hs11⟩ := ob hs11
              refine WP.cV (c := 9) (As := [.int l3]) (st := []) (st9 := [.int x14]) (cl9 := 0) (sl9 := 0) d_X8_echo_44 (ok_X8_isJudge V e13) tv_X8_isJudge ti_X8_isJudge ts_X8_isJudge lk_X8_340 r_X8_echo_X8_isJudge kc_X8_isJudge (kd_X8_isJudge e13) rfl rfl (Nat.le_of_ble_eq_true rfl) rfl rfl rfl ?_
              rcases oj hs11 with ⟨hc, hs11⟩ | ⟨hc, hs11⟩
              · refine WP.if_eq_t d_X8_echo_47 hc ?_
                refine WP.iconst d_X8_echo_70 ki_m1 ?_
                cases hs11
              · refine WP.if_eq_f d_X8_echo_47 hc ?_
                cases hs11
                exact WP.sub [0, 1, 2, 3] rfl J12
        rcases oj hs7 with ⟨hc, hs7⟩ | ⟨hc, hs7⟩
        · refine WP.icmp_eq_t d_X8_echo_26 hc ?_
          cases hs7
          exact WP.sub [0, 2, 3, 4] rfl J8
        · refine WP.icmp_eq_f d_X8_echo_26 hc ?_
          refine WP.aload_n d_X8_echo_29 0 rfl ?_
          refine WP.iload_n d_X8_echo_30 2 rfl ?_
          obtain ⟨x10, e9, hs7⟩ := ob hs7
          refine WP.cV (c := 9) (As := [.int l2]) (st := []) (st9 := [.int x10]) (cl9 := 0) (sl9 := 0) d_X8_echo_31 (ok_X8_isJudge V e9) tv_X8_isJudge ti_X8_isJudge ts_X8_isJudge lk_X8_340 r_X8_echo_X8_isJudge kc_X8_isJudge (kd_X8_isJudge e9) rfl rfl (Nat.le_of_ble_eq_true rfl) rfl rfl rfl ?_
          rcases oj hs7 with ⟨hc, hs7⟩ | ⟨hc, hs7⟩
          · refine WP.if_eq_t d_X8_echo_34 hc ?_
            refine WP.iconst d_X8_echo_70 ki_m1 ?_
            cases hs7
          · refine WP.if_eq_f d_X8_echo_34 hc ?_
            cases hs7
            exact WP.sub [0, 2, 3, 4] rfl J8

set_option maxRecDepth 20000 in
set_option maxHeartbeats 4000000 in
theorem ok_X8_deeds (V : EV) {h : HA} {t : Nat} {r : Int32} (H : X8_deeds h t = some r) : MG V M_X8_deeds [.ref t] h (some (.int r)) h := by
  unfold X8_deeds at H
  obtain ⟨_, H⟩ := oc H
  refine MG.of (lv0 := [(0, .ref t)]) pn_X8 rfl (Nat.le_of_ble_eq_true rfl) ?_
  refine WP.aload_n d_X8_deeds_0 0 rfl ?_
  obtain ⟨x1, ex1, H⟩ := ob H
  refine WP.fR d_X8_deeds_1 gf_X8_29 (fun _ => rfl) ex1 ?_
  refine WP.bipush d_X8_deeds_4 kb_121 ?_
  refine WP.aload_n d_X8_deeds_6 0 rfl ?_
  obtain ⟨x2, ex2, H⟩ := ob H
  refine WP.fI d_X8_deeds_7 gf_X8_367 (fun _ => rfl) ex2 ?_
  refine WP.imul d_X8_deeds_10 ?_
  obtain ⟨x3, ex3, H⟩ := ob H
  refine WP.iald d_X8_deeds_11 ex3 ?_
  cases H
  exact WP.ireturn d_X8_deeds_12 rfl rfl (Nat.le_of_ble_eq_true rfl) (Nat.le_of_ble_eq_true rfl)

set_option maxRecDepth 20000 in
set_option maxHeartbeats 4000000 in
theorem ok_X8_deedOf (V : EV) {h : HA} {t : Nat} {l1 : Int32} {l2 : Int32} {r : Int32} (H : X8_deedOf h t l1 l2 = some r) : MG V M_X8_deedOf [.ref t, .int l1, .int l2] h (some (.int r)) h := by
  unfold X8_deedOf at H
  obtain ⟨_, H⟩ := oc H
  refine MG.of (lv0 := [(0, .ref t), (1, .int l1), (2, .int l2)]) pn_X8 rfl (Nat.le_of_ble_eq_true rfl) ?_
  refine WP.aload_n d_X8_deedOf_0 0 rfl ?_
  obtain ⟨x1, ex1, H⟩ := ob H
  refine WP.fR d_X8_deedOf_1 gf_X8_29 (fun _ => rfl) ex1 ?_
  refine WP.bipush d_X8_deedOf_4 kb_121 ?_
  refine WP.aload_n d_X8_deedOf_6 0 rfl ?_
  obtain ⟨x2, ex2, H⟩ := ob H
  refine WP.fI d_X8_deedOf_7 gf_X8_367 (fun _ => rfl) ex2 ?_
  refine WP.imul d_X8_deedOf_10 ?_
  refine WP.iconst d_X8_deedOf_11 ki_1 ?_
  refine WP.iadd d_X8_deedOf_12 ?_
  refine WP.iconst d_X8_deedOf_13 ki_4 ?_
  refine WP.iload_n d_X8_deedOf_14 1 rfl ?_
  refine WP.imul d_X8_deedOf_15 ?_
  refine WP.iadd d_X8_deedOf_16 ?_
  refine WP.iload_n d_X8_deedOf_17 2 rfl ?_
  refine WP.iadd d_X8_deedOf_18 ?_
  obtain ⟨x3, ex3, H⟩ := ob H
  refine WP.iald d_X8_deedOf_19 ex3 ?_
  cases H
  exact WP.ireturn d_X8_deedOf_20 rfl rfl (Nat.le_of_ble_eq_true rfl) (Nat.le_of_ble_eq_true rfl)

set_option maxRecDepth 20000 in
set_option maxHeartbeats 4000000 in
theorem ok_X8_does (V : EV) {h : HA} {t : Nat} {l1 : Int32} {r : Int32} {hR : HA} (H : X8_does h t l1 = some (r, hR)) : MG V M_X8_does [.ref t, .int l1] h (some (.int r)) hR := by
  unfold X8_does at H
  obtain ⟨_, H⟩ := oc H
  refine MG.of (lv0 := [(0, .ref t), (1, .int l1)]) pn_X8 rfl (Nat.le_of_ble_eq_true rfl) ?_
  refine WP.aload_n d_X8_does_0 0 rfl ?_
  obtain ⟨x1, ex1, H⟩ := ob H
  refine WP.fR d_X8_does_1 gf_X8_71 (fun _ => rfl) ex1 ?_
  refine WP.iload_n d_X8_does_4 1 rfl ?_
  refine WP.iconst d_X8_does_5 ki_m1 ?_
  obtain ⟨h2, eh2, H⟩ := ob H
  refine WP.ias d_X8_does_6 eh2 ?_
  refine WP.aload_n d_X8_does_7 0 rfl ?_
  refine WP.iload_n d_X8_does_8 1 rfl ?_
  refine WP.iconst d_X8_does_9 ki_1 ?_
  obtain ⟨x4, e3, H⟩ := ob H
  refine WP.cV (c := 9) (As := [.int l1, .int 1]) (st := []) (st9 := [.int x4]) (cl9 := 0) (sl9 := 0) d_X8_does_10 (ok_X8_deedOf V e3) tv_X8_deedOf ti_X8_deedOf ts_X8_deedOf lk_X8_370 r_X8_does_X8_deedOf kc_X8_deedOf (kd_X8_deedOf e3) rfl rfl (Nat.le_of_ble_eq_true rfl) rfl rfl rfl ?_
  refine WP.istore_n (lv9 := [(2, .int x4), (0, .ref t), (1, .int l1)]) d_X8_does_13 (Nat.le_of_ble_eq_true rfl) rfl ?_
  refine WP.aload_n d_X8_does_14 1 rfl ?_
  refine WP.iload_n d_X8_does_15 2 rfl ?_
  refine WP.iconst d_X8_does_16 ki_0 ?_
  obtain ⟨x6, e5, H⟩ := ob H
  refine WP.cV (c := 9) (As := [.int l1, .int 0]) (st := []) (st9 := [.int x6]) (cl9 := 0) (sl9 := 0) d_X8_does_17 (ok_X8_deedOf V e5) tv_X8_deedOf ti_X8_deedOf ts_X8_deedOf lk_X8_370 r_X8_does_X8_deedOf kc_X8_deedOf (kd_X8_deedOf e5) rfl rfl (Nat.le_of_ble_eq_true rfl) rfl rfl rfl ?_
  refine WP.iconst d_X8_does_20 ki_2 ?_
  rcases oj H with ⟨hc, H⟩ | ⟨hc, H⟩
  · refine WP.icmp_ne_t d_X8_does_21 hc ?_
    refine WP.iconst d_X8_does_24 ki_1 ?_
    cases H
    exact WP.ireturn d_X8_does_25 rfl rfl (Nat.le_of_ble_eq_true rfl) (Nat.le_of_ble_eq_true rfl)
  · refine WP.icmp_ne_f d_X8_does_21 hc ?_
    refine WP.aload_n d_X8_does_26 1 rfl ?_
    refine WP.iload_n d_X8_does_27 0 rfl ?_
    obtain ⟨x8, e7, H⟩ := ob H
    refine WP.cV (c := 9) (As := [.int x4]) (st := []) (st9 := [.int x8]) (cl9 := 0) (sl9 := 0) d_X8_does_28 (ok_X8_isPleader V e7) tv_X8_isPleader ti_X8_isPleader ts_X8_isPleader lk_X8_343 r_X8_does_X8_isPleader kc_X8_isPleader (kd_X8_isPleader e7) rfl rfl (Nat.le_of_ble_eq_true rfl) rfl rfl rfl ?_
    rcases oj H with ⟨hc, H⟩ | ⟨hc, H⟩
    · refine WP.if_ne_t d_X8_does_31 hc ?_
      refine WP.iconst d_X8_does_34 ki_0 ?_
      cases H
      exact WP.ireturn d_X8_does_35 rfl rfl (Nat.le_of_ble_eq_true rfl) (Nat.le_of_ble_eq_true rfl)
    · refine WP.if_ne_f d_X8_does_31 hc ?_
      refine WP.aload_n d_X8_does_36 1 rfl ?_
      refine WP.iload_n d_X8_does_37 2 rfl ?_
      refine WP.iconst d_X8_does_38 ki_2 ?_
      obtain ⟨x10, e9, H⟩ := ob H
      refine WP.cV (c := 9) (As := [.int l1, .int 2]) (st := []) (st9 := [.int x10]) (cl9 := 0) (sl9 := 0) d_X8_does_39 (ok_X8_deedOf V e9) tv_X8_deedOf ti_X8_deedOf ts_X8_deedOf lk_X8_370 r_X8_does_X8_deedOf kc_X8_deedOf (kd_X8_deedOf e9) rfl rfl (Nat.le_of_ble_eq_true rfl) rfl rfl rfl ?_
      refine WP.istore_n (lv9 := [(3, .int x10), (2, .int x4), (0, .ref t), (1, .int l1)]) d_X8_does_42 (Nat.le_of_ble_eq_true rfl) rfl ?_
      refine WP.aload_n d_X8_does_43 2 rfl ?_
      refine WP.iload_n d_X8_does_44 3 rfl ?_
      refine WP.iconst d_X8_does_45 ki_0 ?_
      obtain ⟨x12, e11, H⟩ := ob H
      refine WP.cV (c := 9) (As := [.int l1, .int 0]) (st := []) (st9 := [.int x12]) (cl9 := 0) (sl9 := 0) d_X8_does_46 (ok_X8_deedOf V e11) tv_X8_deedOf ti_X8_deedOf ts_X8_deedOf lk_X8_370 r_X8_does_X8_deedOf kc_X8_deedOf (kd_X8_deedOf e11) rfl rfl (Nat.le_of_ble_eq_true rfl) rfl rfl rfl ?_
      refine WP.iconst d_X8_does_49 ki_1 ?_
      rcases oj H with ⟨hc, H⟩ | ⟨hc, H⟩
      · refine WP.icmp_ne_t d_X8_does_50 hc ?_
        refine WP.aload_n d_X8_does_53 2 rfl ?_
        obtain ⟨x13, ex13, H⟩ := ob H
        refine WP.fR d_X8_does_54 gf_X8_71 (fun _ => rfl) ex13 ?_
        refine WP.iload_n d_X8_does_57 3 rfl ?_
        refine WP.iload_n d_X8_does_58 0 rfl ?_
        obtain ⟨h14, eh14, H⟩ := ob H
        refine WP.ias d_X8_does_59 eh14 ?_
        refine WP.aload_n d_X8_does_60 2 rfl ?_
        obtain ⟨x15, ex15, H⟩ := ob H
        refine WP.fR d_X8_does_61 gf_X8_74 (fun _ => rfl) ex15 ?_
        refine WP.iload_n d_X8_does_64 3 rfl ?_
        refine WP.aload_n d_X8_does_65 2 rfl ?_
        refine WP.iload_n d_X8_does_66 3 rfl ?_
        refine WP.iconst d_X8_does_67 ki_3 ?_
        obtain ⟨x17, e16, H⟩ := ob H
        refine WP.cV (c := 9) (As := [.int l1, .int 3]) (st := [.int l1, .ref x15]) (st9 := [.int x17, .int l1, .ref x15]) (cl9 := 0) (sl9 := 0) d_X8_does_68 (ok_X8_deedOf V e16) tv_X8_deedOf ti_X8_deedOf ts_X8_deedOf lk_X8_370 r_X8_does_X8_deedOf kc_X8_deedOf (kd_X8_deedOf e16) rfl rfl (Nat.le_of_ble_eq_true rfl) rfl rfl rfl ?_
        obtain ⟨h18, eh18, H⟩ := ob H
        refine WP.ias d_X8_does_71 eh18 ?_
        refine WP.aload_n d_X8_does_72 2 rfl ?_
        obtain ⟨x19, ex19, H⟩ := ob H
        refine WP.fR d_X8_does_73 gf_X8_77 (fun _ => rfl) ex19 ?_
        refine WP.iload_n d_X8_does_76 3 rfl ?_
        refine WP.aload_n d_X8_does_77 2 rfl ?_
        obtain ⟨x20, ex20, H⟩ := ob H
        refine WP.fR d_X8_does_78 gf_X8_68 (fun _ => rfl) ex20 ?_
        refine WP.iconst d_X8_does_81 ki_2 ?_
        refine WP.iload_n d_X8_does_82 1 rfl ?_
        refine WP.imul d_X8_does_83 ?_
        obtain ⟨x21, ex21, H⟩ := ob H
        refine WP.iald d_X8_does_84 ex21 ?_
        obtain ⟨h22, eh22, H⟩ := ob H
        refine WP.ias d_X8_does_85 eh22 ?_
        refine WP.aload_n d_X8_does_86 2 rfl ?_
        obtain ⟨x23, ex23, H⟩ := ob H
        refine WP.fR d_X8_does_87 gf_X8_80 (fun _ => rfl) ex23 ?_
        refine WP.iload_n d_X8_does_90 3 rfl ?_
        refine WP.aload_n d_X8_does_91 2 rfl ?_
        obtain ⟨x24, ex24, H⟩ := ob H
        refine WP.fR d_X8_does_92 gf_X8_68 (fun _ => rfl) ex24 ?_
        refine WP.iconst d_X8_does_95 ki_2 ?_
        refine WP.iload_n d_X8_does_96 1 rfl ?_
        refine WP.imul d_X8_does_97 ?_
        refine WP.iconst d_X8_does_98 ki_1 ?_
        refine WP.iadd d_X8_does_99 ?_
        obtain ⟨x25, ex25, H⟩ := ob H
        refine WP.iald d_X8_does_100 ex25 ?_
        obtain ⟨h26, eh26, H⟩ := ob H
        refine WP.ias d_X8_does_101 eh26 ?_
        refine WP.iconst d_X8_does_102 ki_1 ?_
        cases H
        exact WP.ireturn d_X8_does_103 rfl rfl (Nat.le_of_ble_eq_true rfl) (Nat.le_of_ble_eq_true rfl)
      · refine WP.icmp_ne_f d_X8_does_50 hc ?_
        refine WP.aload_n d_X8_does_104 2 rfl ?_
        refine WP.aload_n d_X8_does_105 2 rfl ?_
        obtain ⟨x27, ex27, H⟩ := ob H
        refine WP.fR d_X8_does_106 gf_X8_68 (fun _ => rfl) ex27 ?_
        refine WP.iconst d_X8_does_109 ki_2 ?_
        refine WP.iload_n d_X8_does_110 1 rfl ?_
        refine WP.imul d_X8_does_111 ?_
        obtain ⟨x28, ex28, H⟩ := ob H
        refine WP.iald d_X8_does_112 ex28 ?_
        refine WP.iload_n d_X8_does_113 0 rfl ?_
        obtain ⟨x30, e29, H⟩ := ob H
        refine WP.cV (c := 9) (As := [.int x28, .int x10]) (st := []) (st9 := [.int x30]) (cl9 := 0) (sl9 := 0) d_X8_does_114 (ok_X8_stepTo V e29) tv_X8_stepTo ti_X8_stepTo ts_X8_stepTo lk_X8_295 r_X8_does_X8_stepTo kc_X8_stepTo (kd_X8_stepTo e29) rfl rfl (Nat.le_of_ble_eq_true rfl) rfl rfl rfl ?_
        refine WP.istore (lv9 := [(4, .int x30), (3, .int x10), (2, .int x4), (0, .ref t), (1, .int l1)]) d_X8_does_117 (Nat.le_of_ble_eq_true rfl) rfl ?_
        refine WP.iload d_X8_does_119 0 rfl ?_
        refine WP.iconst d_X8_does_121 ki_m1 ?_
        rcases oj H with ⟨hc, H⟩ | ⟨hc, H⟩
        · refine WP.icmp_ne_t d_X8_does_122 hc ?_
          refine WP.iconst d_X8_does_125 ki_0 ?_
          cases H
          exact WP.ireturn d_X8_does_126 rfl rfl (Nat.le_of_ble_eq_true rfl) (Nat.le_of_ble_eq_true rfl)
        · refine WP.icmp_ne_f d_X8_does_122 hc ?_
          refine WP.aload_n d_X8_does_127 3 rfl ?_
          obtain ⟨x31, ex31, H⟩ := ob H
          refine WP.fR d_X8_does_128 gf_X8_68 (fun _ => rfl) ex31 ?_
          refine WP.iconst d_X8_does_131 ki_2 ?_
          refine WP.iload_n d_X8_does_132 2 rfl ?_
          refine WP.imul d_X8_does_133 ?_
          refine WP.iload d_X8_does_134 0 rfl ?_
          obtain ⟨h32, eh32, H⟩ := ob H
          refine WP.ias d_X8_does_136 eh32 ?_
          refine WP.aload_n d_X8_does_137 3 rfl ?_
          obtain ⟨x33, ex33, H⟩ := ob H
          refine WP.fR d_X8_does_138 gf_X8_68 (fun _ => rfl) ex33 ?_
          refine WP.iconst d_X8_does_141 ki_2 ?_
          refine WP.iload_n d_X8_does_142 2 rfl ?_
          refine WP.imul d_X8_does_143 ?_
          refine WP.iconst d_X8_does_144 ki_1 ?_
          refine WP.iadd d_X8_does_145 ?_
          obtain ⟨x34, ex34, H⟩ := ob H
          refine WP.iald d_X8_does_146 ex34 ?_
          refine WP.istore (lv9 := [(5, .int x34), (4, .int x30), (3, .int x10), (2, .int x4), (0, .ref t), (1, .int l1)]) d_X8_does_147 (Nat.le_of_ble_eq_true rfl) rfl ?_
          refine WP.iload d_X8_does_149 0 rfl ?_
          refine WP.iconst d_X8_does_151 ki_m1 ?_
          obtain ⟨j35, hs36, H⟩ := ob H
          have J37 : WP V M_X8_does 170 [(0, .ref t), (2, .int x4), (5, .int x34)] [.int j35] h32 0 0 (some (.int r)) hR := by
            refine WP.istore (lv9 := [(6, .int j35), (0, .ref t), (2, .int x4), (5, .int x34)]) d_X8_does_170 (Nat.le_of_ble_eq_true rfl) rfl ?_
            refine WP.aload_n d_X8_does_172 1 rfl ?_
            obtain ⟨x41, ex41, H⟩ := ob H
            refine WP.fR d_X8_does_173 gf_X8_68 (fun _ => rfl) ex41 ?_
            refine WP.iconst d_X8_does_176 ki_2 ?_
            refine WP.iload_n d_X8_does_177 2 rfl ?_
            refine WP.imul d_X8_does_178 ?_
            refine WP.iconst d_X8_does_179 ki_1 ?_
            refine WP.iadd d_X8_does_180 ?_
            refine WP.iload d_X8_does_181 0 rfl ?_
            refine WP.iconst d_X8_does_183 ki_m1 ?_
            rcases oj H with ⟨hc, H⟩ | ⟨hc, H⟩
            · refine WP.icmp_ne_t d_X8_does_184 hc ?_
              refine WP.iload d_X8_does_187 3 rfl ?_
              refine WP.goto d_X8_does_189 ?_
              obtain ⟨h42, eh42, H⟩ := ob H
              refine WP.ias d_X8_does_194 eh42 ?_
              refine WP.iconst d_X8_does_195 ki_1 ?_
              cases H
              exact WP.ireturn d_X8_does_196 rfl rfl (Nat.le_of_ble_eq_true rfl) (Nat.le_of_ble_eq_true rfl)
            · refine WP.icmp_ne_f d_X8_does_184 hc ?_
              refine WP.iload d_X8_does_192 0 rfl ?_
              obtain ⟨h43, eh43, H⟩ := ob H
              refine WP.ias d_X8_does_194 eh43 ?_
              refine WP.iconst d_X8_does_195 ki_1 ?_
              cases H
              exact WP.ireturn d_X8_does_196 rfl rfl (Nat.le_of_ble_eq_true rfl) (Nat.le_of_ble_eq_true rfl)
          rcases oj hs36 with ⟨hc, hs36⟩ | ⟨hc, hs36⟩
          · refine WP.icmp_ne_t d_X8_does_152 hc ?_
            refine WP.iconst d_X8_does_155 ki_m1 ?_
            refine WP.goto d_X8_does_156 ?_
            cases hs36
            exact WP.sub [4, 3, 0] rfl J37
          · refine WP.icmp_ne_f d_X8_does_152 hc ?_
            refine WP.aload_n d_X8_does_159 4 rfl ?_
            refine WP.iload d_X8_does_160 0 rfl ?_
            refine WP.iload_n d_X8_does_162 2 rfl ?_
            refine WP.iconst d_X8_does_163 ki_2 ?_
            refine WP.iadd d_X8_does_164 ?_
            refine WP.iconst d_X8_does_165 ki_4 ?_
            obtain ⟨x38, ex38, hs36⟩ := ob hs36
            refine WP.irem d_X8_does_166 ex38 ?_
            obtain ⟨x40, e39, hs36⟩ := ob hs36
            refine WP.cV (c := 9) (As := [.int x34, .int x38]) (st := []) (st9 := [.int x40]) (cl9 := 0) (sl9 := 0) d_X8_does_167 (ok_X8_stepTo V e39) tv_X8_stepTo ti_X8_stepTo ts_X8_stepTo lk_X8_295 r_X8_does_X8_stepTo kc_X8_stepTo (kd_X8_stepTo e39) rfl rfl (Nat.le_of_ble_eq_true rfl) rfl rfl rfl ?_
            cases hs36
            exact WP.sub [4, 3, 0] rfl J37

set_option maxRecDepth 20000 in
set_option maxHeartbeats 4000000 in
theorem okl_X8_play_L2 (V : EV) {vF : Option Value} {hF : HA} {t : Nat} {l1 : Int32} (n : Nat) : ∀ {h : HA} {l2 : Int32} {hR : HA}, (H : X8_play_L2 t n h l2 = some hR) → (K : WP V M_X8_play 32 [(0, .ref t), (1, .int l1)] [] hR 0 0 vF hF) → WP V M_X8_play 2 [(0, .ref t), (1, .int l1), (2, .int l2)] [] h 0 0 vF hF := by
  induction n with
  | zero =>
    intro h l2 hR H K
    rw [X8_play_L2] at H
    cases H
  | succ n ih =>
    intro h l2 hR H K
    rw [X8_play_L2] at H
    refine WP.iload_n d_X8_play_2 2 rfl ?_
    refine WP.iconst d_X8_play_3 ki_2 ?_
    refine WP.aload_n d_X8_play_4 0 rfl ?_
    obtain ⟨x1, ex1, H⟩ := ob H
    refine WP.fI d_X8_play_5 gf_X8_283 (fun _ => rfl) ex1 ?_
    refine WP.imul d_X8_play_8 ?_
    rcases oj H with ⟨hc, H⟩ | ⟨hc, H⟩
    · refine WP.icmp_ge_t d_X8_play_9 hc ?_
      refine WP.aload_n d_X8_play_12 0 rfl ?_
      obtain ⟨x2, ex2, H⟩ := ob H
      refine WP.fR d_X8_play_13 gf_X8_68 (fun _ => rfl) ex2 ?_
      refine WP.iload_n d_X8_play_16 2 rfl ?_
      refine WP.aload_n d_X8_play_17 0 rfl ?_
      refine WP.bipush d_X8_play_18 kb_34 ?_
      refine WP.iload_n d_X8_play_20 2 rfl ?_
      refine WP.iadd d_X8_play_21 ?_
      obtain ⟨x4, e3, H⟩ := ob H
      refine WP.cV (c := 9) (As := [.int (34 + l2)]) (st := [.int l2, .ref x2]) (st9 := [.int x4, .int l2, .ref x2]) (cl9 := 0) (sl9 := 0) d_X8_play_22 (ok_X8_of V e3) tv_X8_of ti_X8_of ts_X8_of lk_X8_267 r_X8_play_X8_of kc_X8_of (kd_X8_of e3) rfl rfl (Nat.le_of_ble_eq_true rfl) rfl rfl rfl ?_
      obtain ⟨h5, eh5, H⟩ := ob H
      refine WP.ias d_X8_play_25 eh5 ?_
      refine WP.iinc (lv9 := [(2, .int (l2 + 1)), (0, .ref t), (1, .int l1)]) d_X8_play_26 2 rfl ki_1 (Nat.le_of_ble_eq_true rfl) rfl ?_
      refine WP.goto d_X8_play_29 ?_
      refine WP.sub [1, 2, 0] (lv' := [(0, .ref t), (1, .int l1), (2, .int (l2 + 1))]) rfl ?_
      exact ih H K
    · refine WP.icmp_ge_f d_X8_play_9 hc ?_
      cases H
      exact WP.sub [0, 1] rfl K

set_option maxRecDepth 20000 in
set_option maxHeartbeats 4000000 in
theorem okl_X8_play_L34 (V : EV) {vF : Option Value} {hF : HA} {t : Nat} {l1 : Int32} (n : Nat) : ∀ {h : HA} {l2 : Int32} {hR : HA}, (H : X8_play_L34 t n h l2 = some hR) → (K : WP V M_X8_play 53 [(0, .ref t), (1, .int l1)] [] hR 0 0 vF hF) → WP V M_X8_play 34 [(0, .ref t), (1, .int l1), (2, .int l2)] [] h 0 0 vF hF := by
  induction n with
  | zero =>
    intro h l2 hR H K
    rw [X8_play_L34] at H
    cases H
  | succ n ih =>
    intro h l2 hR H K
    rw [X8_play_L34] at H
    refine WP.iload_n d_X8_play_34 2 rfl ?_
    refine WP.bipush d_X8_play_35 kb_30 ?_
    rcases oj H with ⟨hc, H⟩ | ⟨hc, H⟩
    · refine WP.icmp_ge_t d_X8_play_37 hc ?_
      refine WP.aload_n d_X8_play_40 0 rfl ?_
      obtain ⟨x8, ex8, H⟩ := ob H
      refine WP.fR d_X8_play_41 gf_X8_83 (fun _ => rfl) ex8 ?_
      refine WP.iload_n d_X8_play_44 2 rfl ?_
      refine WP.iconst d_X8_play_45 ki_0 ?_
      obtain ⟨h9, eh9, H⟩ := ob H
      refine WP.ias d_X8_play_46 eh9 ?_
      refine WP.iinc (lv9 := [(2, .int (l2 + 1)), (0, .ref t), (1, .int l1)]) d_X8_play_47 2 rfl ki_1 (Nat.le_of_ble_eq_true rfl) rfl ?_
      refine WP.goto d_X8_play_50 ?_
      refine WP.sub [1, 2, 0] (lv' := [(0, .ref t), (1, .int l1), (2, .int (l2 + 1))]) rfl ?_
      exact ih H K
    · refine WP.icmp_ge_f d_X8_play_37 hc ?_
      cases H
      exact WP.sub [0, 1] rfl K

set_option maxRecDepth 20000 in
set_option maxHeartbeats 4000000 in
theorem okl_X8_play_L58 (V : EV) {vF : Option Value} {hF : HA} {t : Nat} {l1 : Int32} (n : Nat) : ∀ {h : HA} {hR : HA}, (H : X8_play_L58 t l1 n h = some hR) → (K : WP V M_X8_play 90 [(0, .ref t)] [] hR 0 0 vF hF) → WP V M_X8_play 58 [(0, .ref t), (1, .int l1)] [] h 0 0 vF hF := by
  induction n with
  | zero =>
    intro h hR H K
    rw [X8_play_L58] at H
    cases H
  | succ n ih =>
    intro h hR H K
    rw [X8_play_L58] at H
    refine WP.aload_n d_X8_play_58 0 rfl ?_
    obtain ⟨x13, ex13, H⟩ := ob H
    refine WP.fI d_X8_play_59 gf_X8_373 (fun _ => rfl) ex13 ?_
    refine WP.iload_n d_X8_play_62 1 rfl ?_
    rcases oj H with ⟨hc, H⟩ | ⟨hc, H⟩
    · refine WP.icmp_ge_t d_X8_play_63 hc ?_
      refine WP.aload_n d_X8_play_66 0 rfl ?_
      refine WP.aload_n d_X8_play_67 0 rfl ?_
      obtain ⟨x14, ex14, H⟩ := ob H
      refine WP.fI d_X8_play_68 gf_X8_373 (fun _ => rfl) ex14 ?_
      obtain ⟨⟨x17, h16⟩, e15, H⟩ := ob H
      refine WP.cV (c := 9) (As := [.int x14]) (st := []) (st9 := [.int x17]) (cl9 := 0) (sl9 := 0) d_X8_play_71 (ok_X8_does V e15) tv_X8_does ti_X8_does ts_X8_does lk_X8_376 r_X8_play_X8_does kc_X8_does (kd_X8_does e15) rfl rfl (Nat.le_of_ble_eq_true rfl) rfl rfl rfl ?_
      rcases oj H with ⟨hc, H⟩ | ⟨hc, H⟩
      · refine WP.if_eq_t d_X8_play_74 hc ?_
        cases H
        exact WP.sub [0] rfl K
      · refine WP.if_eq_f d_X8_play_74 hc ?_
        refine WP.aload_n d_X8_play_77 0 rfl ?_
        refine WP.dup d_X8_play_78 rfl ?_
        obtain ⟨x18, ex18, H⟩ := ob H
        refine WP.fI d_X8_play_79 gf_X8_373 (fun _ => rfl) ex18 ?_
        refine WP.iconst d_X8_play_82 ki_1 ?_
        refine WP.iadd d_X8_play_83 ?_
        obtain ⟨h19, eh19, H⟩ := ob H
        refine WP.uI d_X8_play_84 gf_X8_373 rfl (Or.inl rfl) rfl rfl eh19 ?_
        refine WP.goto d_X8_play_87 ?_
        refine WP.sub [0, 1] (lv' := [(0, .ref t), (1, .int l1)]) rfl ?_
        exact ih H K
    · refine WP.icmp_ge_f d_X8_play_63 hc ?_
      cases H
      exact WP.sub [0] rfl K

set_option maxRecDepth 20000 in
set_option maxHeartbeats 4000000 in
theorem ok_X8_play (V : EV) {h : HA} {t : Nat} {l1 : Int32} {r : Int32} {hR : HA} (H : X8_play h t l1 = some (r, hR)) : MG V M_X8_play [.ref t, .int l1] h (some (.int r)) hR := by
  unfold X8_play at H
  obtain ⟨_, H⟩ := oc H
  refine MG.of (lv0 := [(0, .ref t), (1, .int l1)]) pn_X8 rfl (Nat.le_of_ble_eq_true rfl) ?_
  refine WP.iconst d_X8_play_0 ki_0 ?_
  refine WP.istore_n (lv9 := [(2, .int 0), (0, .ref t), (1, .int l1)]) d_X8_play_1 (Nat.le_of_ble_eq_true rfl) rfl ?_
  obtain ⟨h7, e6, H⟩ := ob H
  refine WP.sub [1, 2, 0] (lv' := [(0, .ref t), (1, .int l1), (2, .int 0)]) rfl ?_
  refine okl_X8_play_L2 V _ e6 ?_
  refine WP.iconst d_X8_play_32 ki_0 ?_
  refine WP.istore_n (lv9 := [(2, .int 0), (0, .ref t), (1, .int l1)]) d_X8_play_33 (Nat.le_of_ble_eq_true rfl) rfl ?_
  obtain ⟨h11, e10, H⟩ := ob H
  refine WP.sub [1, 2, 0] (lv' := [(0, .ref t), (1, .int l1), (2, .int 0)]) rfl ?_
  refine okl_X8_play_L34 V _ e10 ?_
  refine WP.aload_n d_X8_play_53 0 rfl ?_
  refine WP.iconst d_X8_play_54 ki_0 ?_
  obtain ⟨h12, eh12, H⟩ := ob H
  refine WP.uI d_X8_play_55 gf_X8_373 rfl (Or.inl rfl) rfl rfl eh12 ?_
  obtain ⟨h21, e20, H⟩ := ob H
  refine WP.sub [0, 1] (lv' := [(0, .ref t), (1, .int l1)]) rfl ?_
  refine okl_X8_play_L58 V _ e20 ?_
  refine WP.aload_n d_X8_play_90 0 rfl ?_
  obtain ⟨x22, ex22, H⟩ := ob H
  refine WP.fI d_X8_play_91 gf_X8_373 (fun _ => rfl) ex22 ?_
  cases H
  exact WP.ireturn d_X8_play_94 rfl rfl (Nat.le_of_ble_eq_true rfl) (Nat.le_of_ble_eq_true rfl)

set_option maxRecDepth 20000 in
set_option maxHeartbeats 4000000 in
theorem ok_X8_layTrial (V : EV) {h : HA} {t : Nat} {l1 : Int32} {l2 : Int32} {r : Int32} {hR : HA} (H : X8_layTrial h t l1 l2 = some (r, hR)) : MG V M_X8_layTrial [.ref t, .int l1, .int l2] h (some (.int r)) hR := by
  unfold X8_layTrial at H
  obtain ⟨_, H⟩ := oc H
  refine MG.of (lv0 := [(0, .ref t), (1, .int l1), (2, .int l2)]) pn_X8 rfl (Nat.le_of_ble_eq_true rfl) ?_
  refine WP.aload_n d_X8_layTrial_0 0 rfl ?_
  refine WP.iconst d_X8_layTrial_1 ki_1 ?_
  refine WP.iload_n d_X8_layTrial_2 2 rfl ?_
  obtain ⟨x2, e1, H⟩ := ob H
  refine WP.cV (c := 9) (As := [.int 1, .int l2]) (st := []) (st9 := [.int x2]) (cl9 := 0) (sl9 := 0) d_X8_layTrial_3 (ok_X8_is V e1) tv_X8_is ti_X8_is ts_X8_is lk_X8_254 r_X8_layTrial_X8_is kc_X8_is (kd_X8_is e1) rfl rfl (Nat.le_of_ble_eq_true rfl) rfl rfl rfl ?_
  rcases oj H with ⟨hc, H⟩ | ⟨hc, H⟩
  · refine WP.if_eq_t d_X8_layTrial_6 hc ?_
    refine WP.iconst d_X8_layTrial_17 ki_0 ?_
    cases H
    exact WP.ireturn d_X8_layTrial_18 rfl rfl (Nat.le_of_ble_eq_true rfl) (Nat.le_of_ble_eq_true rfl)
  · refine WP.if_eq_f d_X8_layTrial_6 hc ?_
    refine WP.aload_n d_X8_layTrial_9 0 rfl ?_
    refine WP.iload_n d_X8_layTrial_10 1 rfl ?_
    obtain ⟨⟨x5, h4⟩, e3, H⟩ := ob H
    refine WP.cV (c := 9) (As := [.int l1]) (st := []) (st9 := [.int x5]) (cl9 := 0) (sl9 := 0) d_X8_layTrial_11 (ok_X8_hand V e3) tv_X8_hand ti_X8_hand ts_X8_hand lk_X8_331 r_X8_layTrial_X8_hand kc_X8_hand (kd_X8_hand e3) rfl rfl (Nat.le_of_ble_eq_true rfl) rfl rfl rfl ?_
    rcases oj H with ⟨hc, H⟩ | ⟨hc, H⟩
    · refine WP.if_ne_t d_X8_layTrial_14 hc ?_
      refine WP.iconst d_X8_layTrial_17 ki_0 ?_
      cases H
      exact WP.ireturn d_X8_layTrial_18 rfl rfl (Nat.le_of_ble_eq_true rfl) (Nat.le_of_ble_eq_true rfl)
    · refine WP.if_ne_f d_X8_layTrial_14 hc ?_
      refine WP.aload_n d_X8_layTrial_19 0 rfl ?_
      refine WP.iload_n d_X8_layTrial_20 2 rfl ?_
      obtain ⟨h6, eh6, H⟩ := ob H
      refine WP.uI d_X8_layTrial_21 gf_X8_367 rfl (Or.inl rfl) rfl rfl eh6 ?_
      refine WP.aload_n d_X8_layTrial_24 0 rfl ?_
      refine WP.aload_n d_X8_layTrial_25 0 rfl ?_
      obtain ⟨x8, e7, H⟩ := ob H
      refine WP.cV (c := 9) (As := []) (st := [.ref t]) (st9 := [.int x8, .ref t]) (cl9 := 0) (sl9 := 0) d_X8_layTrial_26 (ok_X8_deeds V e7) tv_X8_deeds ti_X8_deeds ts_X8_deeds lk_X8_379 r_X8_layTrial_X8_deeds kc_X8_deeds (kd_X8_deeds e7) rfl rfl (Nat.le_of_ble_eq_true rfl) rfl rfl rfl ?_
      obtain ⟨⟨x11, h10⟩, e9, H⟩ := ob H
      refine WP.cV (c := 9) (As := [.int x8]) (st := []) (st9 := [.int x11]) (cl9 := 0) (sl9 := 0) d_X8_layTrial_29 (ok_X8_play V e9) tv_X8_play ti_X8_play ts_X8_play lk_X8_382 r_X8_layTrial_X8_play kc_X8_play (kd_X8_play e9) rfl rfl (Nat.le_of_ble_eq_true rfl) rfl rfl rfl ?_
      refine WP.pop d_X8_layTrial_32 rfl ?_
      refine WP.iconst d_X8_layTrial_33 ki_1 ?_
      cases H
      exact WP.ireturn d_X8_layTrial_34 rfl rfl (Nat.le_of_ble_eq_true rfl) (Nat.le_of_ble_eq_true rfl)

set_option maxRecDepth 20000 in
set_option maxHeartbeats 4000000 in
theorem ok_X8_layState (V : EV) {h : HA} {t : Nat} {l1 : Int32} {l2 : Int32} {l3 : Int32} {r : Int32} {hR : HA} (H : X8_layState h t l1 l2 l3 = some (r, hR)) : MG V M_X8_layState [.ref t, .int l1, .int l2, .int l3] h (some (.int r)) hR := by
  unfold X8_layState at H
  obtain ⟨_, H⟩ := oc H
  refine MG.of (lv0 := [(0, .ref t), (1, .int l1), (2, .int l2), (3, .int l3)]) pn_X8 rfl (Nat.le_of_ble_eq_true rfl) ?_
  refine WP.iload_n d_X8_layState_0 3 rfl ?_
  rcases oj H with ⟨hc, H⟩ | ⟨hc, H⟩
  · refine WP.if_lt_t d_X8_layState_1 hc ?_
    refine WP.iconst d_X8_layState_34 ki_0 ?_
    cases H
    exact WP.ireturn d_X8_layState_35 rfl rfl (Nat.le_of_ble_eq_true rfl) (Nat.le_of_ble_eq_true rfl)
  · refine WP.if_lt_f d_X8_layState_1 hc ?_
    refine WP.aload_n d_X8_layState_4 0 rfl ?_
    refine WP.iload_n d_X8_layState_5 1 rfl ?_
    refine WP.iload_n d_X8_layState_6 2 rfl ?_
    obtain ⟨⟨x3, h2⟩, e1, H⟩ := ob H
    refine WP.cV (c := 9) (As := [.int l1, .int l2]) (st := []) (st9 := [.int x3]) (cl9 := 0) (sl9 := 0) d_X8_layState_7 (ok_X8_layTrial V e1) tv_X8_layTrial ti_X8_layTrial ts_X8_layTrial lk_X8_385 r_X8_layState_X8_layTrial kc_X8_layTrial (kd_X8_layTrial e1) rfl rfl (Nat.le_of_ble_eq_true rfl) rfl rfl rfl ?_
    rcases oj H with ⟨hc, H⟩ | ⟨hc, H⟩
    · refine WP.if_eq_t d_X8_layState_10 hc ?_
      refine WP.iconst d_X8_layState_34 ki_0 ?_
      cases H
      exact WP.ireturn d_X8_layState_35 rfl rfl (Nat.le_of_ble_eq_true rfl) (Nat.le_of_ble_eq_true rfl)
    · refine WP.if_eq_f d_X8_layState_10 hc ?_
      refine WP.iload_n d_X8_layState_13 3 rfl ?_
      refine WP.aload_n d_X8_layState_14 0 rfl ?_
      obtain ⟨x4, ex4, H⟩ := ob H
      refine WP.fI d_X8_layState_15 gf_X8_373 (fun _ => rfl) ex4 ?_
      rcases oj H with ⟨hc, H⟩ | ⟨hc, H⟩
      · refine WP.icmp_gt_t d_X8_layState_18 hc ?_
        refine WP.iconst d_X8_layState_34 ki_0 ?_
        cases H
        exact WP.ireturn d_X8_layState_35 rfl rfl (Nat.le_of_ble_eq_true rfl) (Nat.le_of_ble_eq_true rfl)
      · refine WP.icmp_gt_f d_X8_layState_18 hc ?_
        refine WP.aload_n d_X8_layState_21 0 rfl ?_
        refine WP.iload_n d_X8_layState_22 3 rfl ?_
        obtain ⟨⟨x7, h6⟩, e5, H⟩ := ob H
        refine WP.cV (c := 9) (As := [.int l3]) (st := []) (st9 := [.int x7]) (cl9 := 0) (sl9 := 0) d_X8_layState_23 (ok_X8_play V e5) tv_X8_play ti_X8_play ts_X8_play lk_X8_382 r_X8_layState_X8_play kc_X8_play (kd_X8_play e5) rfl rfl (Nat.le_of_ble_eq_true rfl) rfl rfl rfl ?_
        refine WP.iload_n d_X8_layState_26 3 rfl ?_
        rcases oj H with ⟨hc, H⟩ | ⟨hc, H⟩
        · refine WP.icmp_ne_t d_X8_layState_27 hc ?_
          refine WP.iconst d_X8_layState_30 ki_1 ?_
          refine WP.goto d_X8_layState_31 ?_
          cases H
          exact WP.ireturn d_X8_layState_35 rfl rfl (Nat.le_of_ble_eq_true rfl) (Nat.le_of_ble_eq_true rfl)
        · refine WP.icmp_ne_f d_X8_layState_27 hc ?_
          refine WP.iconst d_X8_layState_34 ki_0 ?_
          cases H
          exact WP.ireturn d_X8_layState_35 rfl rfl (Nat.le_of_ble_eq_true rfl) (Nat.le_of_ble_eq_true rfl)

set_option maxRecDepth 20000 in
set_option maxHeartbeats 4000000 in
theorem ok_X8_deed (V : EV) {h : HA} {t : Nat} {l1 : Int32} {l2 : Int32} {l3 : Int32} {r : Int32} {hR : HA} (H : X8_deed h t l1 l2 l3 = some (r, hR)) : MG V M_X8_deed [.ref t, .int l1, .int l2, .int l3] h (some (.int r)) hR := by
  unfold X8_deed at H
  obtain ⟨_, H⟩ := oc H
  refine MG.of (lv0 := [(0, .ref t), (1, .int l1), (2, .int l2), (3, .int l3)]) pn_X8 rfl (Nat.le_of_ble_eq_true rfl) ?_
  refine WP.aload_n d_X8_deed_0 0 rfl ?_
  refine WP.iconst d_X8_deed_1 ki_0 ?_
  obtain ⟨h1, eh1, H⟩ := ob H
  refine WP.uI d_X8_deed_2 gf_X8_102 rfl (Or.inl rfl) rfl rfl eh1 ?_
  refine WP.aload_n d_X8_deed_5 0 rfl ?_
  refine WP.iconst d_X8_deed_6 ki_1 ?_
  refine WP.iload_n d_X8_deed_7 1 rfl ?_
  obtain ⟨x3, e2, H⟩ := ob H
  refine WP.cV (c := 9) (As := [.int 1, .int l1]) (st := []) (st9 := [.int x3]) (cl9 := 0) (sl9 := 0) d_X8_deed_8 (ok_X8_is V e2) tv_X8_is ti_X8_is ts_X8_is lk_X8_254 r_X8_deed_X8_is kc_X8_is (kd_X8_is e2) rfl rfl (Nat.le_of_ble_eq_true rfl) rfl rfl rfl ?_
  rcases oj H with ⟨hc, H⟩ | ⟨hc, H⟩
  · refine WP.if_ne_t d_X8_deed_11 hc ?_
    refine WP.bipush d_X8_deed_14 kb_m2 ?_
    cases H
    exact WP.ireturn d_X8_deed_16 rfl rfl (Nat.le_of_ble_eq_true rfl) (Nat.le_of_ble_eq_true rfl)
  · refine WP.if_ne_f d_X8_deed_11 hc ?_
    refine WP.aload_n d_X8_deed_17 0 rfl ?_
    refine WP.iload_n d_X8_deed_18 1 rfl ?_
    obtain ⟨h4, eh4, H⟩ := ob H
    refine WP.uI d_X8_deed_19 gf_X8_367 rfl (Or.inl rfl) rfl rfl eh4 ?_
    refine WP.iload_n d_X8_deed_22 2 rfl ?_
    refine WP.iconst d_X8_deed_23 ki_m1 ?_
    rcases oj H with ⟨hc, H⟩ | ⟨hc, H⟩
    · refine WP.icmp_ne_t d_X8_deed_24 hc ?_
      refine WP.iload_n d_X8_deed_27 3 rfl ?_
      rcases oj H with ⟨hc, H⟩ | ⟨hc, H⟩
      · refine WP.if_ne_t d_X8_deed_28 hc ?_
        refine WP.aload_n d_X8_deed_31 0 rfl ?_
        obtain ⟨x6, e5, H⟩ := ob H
        refine WP.cV (c := 9) (As := []) (st := []) (st9 := [.int x6]) (cl9 := 0) (sl9 := 0) d_X8_deed_32 (ok_X8_deeds V e5) tv_X8_deeds ti_X8_deeds ts_X8_deeds lk_X8_379 r_X8_deed_X8_deeds kc_X8_deeds (kd_X8_deeds e5) rfl rfl (Nat.le_of_ble_eq_true rfl) rfl rfl rfl ?_
        refine WP.goto d_X8_deed_35 ?_
        cases H
        exact WP.ireturn d_X8_deed_40 rfl rfl (Nat.le_of_ble_eq_true rfl) (Nat.le_of_ble_eq_true rfl)
      · refine WP.if_ne_f d_X8_deed_28 hc ?_
        refine WP.bipush d_X8_deed_38 kb_m2 ?_
        cases H
        exact WP.ireturn d_X8_deed_40 rfl rfl (Nat.le_of_ble_eq_true rfl) (Nat.le_of_ble_eq_true rfl)
    · refine WP.icmp_ne_f d_X8_deed_24 hc ?_
      refine WP.iload_n d_X8_deed_41 2 rfl ?_
      refine WP.iconst d_X8_deed_42 ki_0 ?_
      refine WP.aload_n d_X8_deed_43 0 rfl ?_
      obtain ⟨x8, e7, H⟩ := ob H
      refine WP.cV (c := 9) (As := []) (st := [.int 0, .int l2]) (st9 := [.int x8, .int 0, .int l2]) (cl9 := 0) (sl9 := 0) d_X8_deed_44 (ok_X8_deeds V e7) tv_X8_deeds ti_X8_deeds ts_X8_deeds lk_X8_379 r_X8_deed_X8_deeds kc_X8_deeds (kd_X8_deeds e7) rfl rfl (Nat.le_of_ble_eq_true rfl) rfl rfl rfl ?_
      refine WP.iconst d_X8_deed_47 ki_1 ?_
      refine WP.isub d_X8_deed_48 ?_
      obtain ⟨x10, e9, H⟩ := ob H
      refine WP.cS (As := [.int l2, .int 0, .int (x8 - 1)]) (st := []) (st9 := [.int x10]) (cl9 := 0) (sl9 := 0) d_X8_deed_49 (ok_X8_in V (h := h4) e9) tv_X8_in ts_X8_in lk_X8_114 r_X8_deed_X8_in rfl rfl (Nat.le_of_ble_eq_true rfl) rfl rfl rfl ?_
      rcases oj H with ⟨hc, H⟩ | ⟨hc, H⟩
      · refine WP.if_eq_t d_X8_deed_52 hc ?_
        refine WP.bipush d_X8_deed_73 kb_m2 ?_
        cases H
        exact WP.ireturn d_X8_deed_75 rfl rfl (Nat.le_of_ble_eq_true rfl) (Nat.le_of_ble_eq_true rfl)
      · refine WP.if_eq_f d_X8_deed_52 hc ?_
        refine WP.iload_n d_X8_deed_55 3 rfl ?_
        refine WP.iconst d_X8_deed_56 ki_0 ?_
        refine WP.iconst d_X8_deed_57 ki_3 ?_
        obtain ⟨x12, e11, H⟩ := ob H
        refine WP.cS (As := [.int l3, .int 0, .int 3]) (st := []) (st9 := [.int x12]) (cl9 := 0) (sl9 := 0) d_X8_deed_58 (ok_X8_in V (h := h4) e11) tv_X8_in ts_X8_in lk_X8_114 r_X8_deed_X8_in rfl rfl (Nat.le_of_ble_eq_true rfl) rfl rfl rfl ?_
        rcases oj H with ⟨hc, H⟩ | ⟨hc, H⟩
        · refine WP.if_eq_t d_X8_deed_61 hc ?_
          refine WP.bipush d_X8_deed_73 kb_m2 ?_
          cases H
          exact WP.ireturn d_X8_deed_75 rfl rfl (Nat.le_of_ble_eq_true rfl) (Nat.le_of_ble_eq_true rfl)
        · refine WP.if_eq_f d_X8_deed_61 hc ?_
          refine WP.aload_n d_X8_deed_64 0 rfl ?_
          refine WP.iload_n d_X8_deed_65 2 rfl ?_
          refine WP.iload_n d_X8_deed_66 3 rfl ?_
          obtain ⟨x14, e13, H⟩ := ob H
          refine WP.cV (c := 9) (As := [.int l2, .int l3]) (st := []) (st9 := [.int x14]) (cl9 := 0) (sl9 := 0) d_X8_deed_67 (ok_X8_deedOf V e13) tv_X8_deedOf ti_X8_deedOf ts_X8_deedOf lk_X8_370 r_X8_deed_X8_deedOf kc_X8_deedOf (kd_X8_deedOf e13) rfl rfl (Nat.le_of_ble_eq_true rfl) rfl rfl rfl ?_
          refine WP.goto d_X8_deed_70 ?_
          cases H
          exact WP.ireturn d_X8_deed_75 rfl rfl (Nat.le_of_ble_eq_true rfl) (Nat.le_of_ble_eq_true rfl)

set_option maxRecDepth 20000 in
set_option maxHeartbeats 4000000 in
theorem ok_X8_stop (V : EV) {h : HA} {t : Nat} {l1 : Int32} {l2 : Int32} {r : Int32} {hR : HA} (H : X8_stop h t l1 l2 = some (r, hR)) : MG V M_X8_stop [.ref t, .int l1, .int l2] h (some (.int r)) hR := by
  unfold X8_stop at H
  obtain ⟨_, H⟩ := oc H
  refine MG.of (lv0 := [(0, .ref t), (1, .int l1), (2, .int l2)]) pn_X8 rfl (Nat.le_of_ble_eq_true rfl) ?_
  refine WP.aload_n d_X8_stop_0 0 rfl ?_
  refine WP.iconst d_X8_stop_1 ki_0 ?_
  obtain ⟨h1, eh1, H⟩ := ob H
  refine WP.uI d_X8_stop_2 gf_X8_102 rfl (Or.inl rfl) rfl rfl eh1 ?_
  refine WP.aload_n d_X8_stop_5 0 rfl ?_
  refine WP.iload_n d_X8_stop_6 1 rfl ?_
  refine WP.iload_n d_X8_stop_7 2 rfl ?_
  obtain ⟨⟨x4, h3⟩, e2, H⟩ := ob H
  refine WP.cV (c := 9) (As := [.int l1, .int l2]) (st := []) (st9 := [.int x4]) (cl9 := 0) (sl9 := 0) d_X8_stop_8 (ok_X8_layTrial V e2) tv_X8_layTrial ti_X8_layTrial ts_X8_layTrial lk_X8_385 r_X8_stop_X8_layTrial kc_X8_layTrial (kd_X8_layTrial e2) rfl rfl (Nat.le_of_ble_eq_true rfl) rfl rfl rfl ?_
  rcases oj H with ⟨hc, H⟩ | ⟨hc, H⟩
  · refine WP.if_eq_t d_X8_stop_11 hc ?_
    refine WP.iconst d_X8_stop_21 ki_m1 ?_
    cases H
    exact WP.ireturn d_X8_stop_22 rfl rfl (Nat.le_of_ble_eq_true rfl) (Nat.le_of_ble_eq_true rfl)
  · refine WP.if_eq_f d_X8_stop_11 hc ?_
    refine WP.aload_n d_X8_stop_14 0 rfl ?_
    obtain ⟨x5, ex5, H⟩ := ob H
    refine WP.fI d_X8_stop_15 gf_X8_373 (fun _ => rfl) ex5 ?_
    refine WP.goto d_X8_stop_18 ?_
    cases H
    exact WP.ireturn d_X8_stop_22 rfl rfl (Nat.le_of_ble_eq_true rfl) (Nat.le_of_ble_eq_true rfl)

set_option maxRecDepth 20000 in
set_option maxHeartbeats 4000000 in
theorem ok_X8_stands (V : EV) {h : HA} {t : Nat} {l1 : Int32} {l2 : Int32} {l3 : Int32} {l4 : Int32} {l5 : Int32} {r : Int32} {hR : HA} (H : X8_stands h t l1 l2 l3 l4 l5 = some (r, hR)) : MG V M_X8_stands [.ref t, .int l1, .int l2, .int l3, .int l4, .int l5] h (some (.int r)) hR := by
  unfold X8_stands at H
  obtain ⟨_, H⟩ := oc H
  refine MG.of (lv0 := [(0, .ref t), (1, .int l1), (2, .int l2), (3, .int l3), (4, .int l4), (5, .int l5)]) pn_X8 rfl (Nat.le_of_ble_eq_true rfl) ?_
  refine WP.aload_n d_X8_stands_0 0 rfl ?_
  refine WP.iconst d_X8_stands_1 ki_0 ?_
  obtain ⟨h1, eh1, H⟩ := ob H
  refine WP.uI d_X8_stands_2 gf_X8_102 rfl (Or.inl rfl) rfl rfl eh1 ?_
  refine WP.aload_n d_X8_stands_5 0 rfl ?_
  refine WP.iload_n d_X8_stands_6 1 rfl ?_
  refine WP.iload_n d_X8_stands_7 2 rfl ?_
  refine WP.iload_n d_X8_stands_8 3 rfl ?_
  obtain ⟨⟨x4, h3⟩, e2, H⟩ := ob H
  refine WP.cV (c := 9) (As := [.int l1, .int l2, .int l3]) (st := []) (st9 := [.int x4]) (cl9 := 0) (sl9 := 0) d_X8_stands_9 (ok_X8_layState V e2) tv_X8_layState ti_X8_layState ts_X8_layState lk_X8_388 r_X8_stands_X8_layState kc_X8_layState (kd_X8_layState e2) rfl rfl (Nat.le_of_ble_eq_true rfl) rfl rfl rfl ?_
  rcases oj H with ⟨hc, H⟩ | ⟨hc, H⟩
  · refine WP.if_eq_t d_X8_stands_12 hc ?_
    refine WP.bipush d_X8_stands_47 kb_m2 ?_
    cases H
    exact WP.ireturn d_X8_stands_49 rfl rfl (Nat.le_of_ble_eq_true rfl) (Nat.le_of_ble_eq_true rfl)
  · refine WP.if_eq_f d_X8_stands_12 hc ?_
    refine WP.aload_n d_X8_stands_15 0 rfl ?_
    refine WP.iload d_X8_stands_16 4 rfl ?_
    obtain ⟨x6, e5, H⟩ := ob H
    refine WP.cV (c := 9) (As := [.int l4]) (st := []) (st9 := [.int x6]) (cl9 := 0) (sl9 := 0) d_X8_stands_18 (ok_X8_isPleader V e5) tv_X8_isPleader ti_X8_isPleader ts_X8_isPleader lk_X8_343 r_X8_stands_X8_isPleader kc_X8_isPleader (kd_X8_isPleader e5) rfl rfl (Nat.le_of_ble_eq_true rfl) rfl rfl rfl ?_
    rcases oj H with ⟨hc, H⟩ | ⟨hc, H⟩
    · refine WP.if_eq_t d_X8_stands_21 hc ?_
      refine WP.bipush d_X8_stands_47 kb_m2 ?_
      cases H
      exact WP.ireturn d_X8_stands_49 rfl rfl (Nat.le_of_ble_eq_true rfl) (Nat.le_of_ble_eq_true rfl)
    · refine WP.if_eq_f d_X8_stands_21 hc ?_
      refine WP.aload_n d_X8_stands_24 0 rfl ?_
      obtain ⟨x7, ex7, H⟩ := ob H
      refine WP.fR d_X8_stands_25 gf_X8_68 (fun _ => rfl) ex7 ?_
      refine WP.iconst d_X8_stands_28 ki_2 ?_
      refine WP.iload d_X8_stands_29 4 rfl ?_
      refine WP.imul d_X8_stands_31 ?_
      refine WP.iload d_X8_stands_32 5 rfl ?_
      rcases oj H with ⟨hc, H⟩ | ⟨hc, H⟩
      · refine WP.if_eq_t d_X8_stands_34 hc ?_
        refine WP.iconst d_X8_stands_41 ki_0 ?_
        refine WP.iadd d_X8_stands_42 ?_
        obtain ⟨x8, ex8, H⟩ := ob H
        refine WP.iald d_X8_stands_43 ex8 ?_
        refine WP.goto d_X8_stands_44 ?_
        cases H
        exact WP.ireturn d_X8_stands_49 rfl rfl (Nat.le_of_ble_eq_true rfl) (Nat.le_of_ble_eq_true rfl)
      · refine WP.if_eq_f d_X8_stands_34 hc ?_
        refine WP.iconst d_X8_stands_37 ki_1 ?_
        refine WP.goto d_X8_stands_38 ?_
        refine WP.iadd d_X8_stands_42 ?_
        obtain ⟨x9, ex9, H⟩ := ob H
        refine WP.iald d_X8_stands_43 ex9 ?_
        refine WP.goto d_X8_stands_44 ?_
        cases H
        exact WP.ireturn d_X8_stands_49 rfl rfl (Nat.le_of_ble_eq_true rfl) (Nat.le_of_ble_eq_true rfl)

set_option maxRecDepth 20000 in
set_option maxHeartbeats 4000000 in
theorem ok_X8_hearsDeed (V : EV) {h : HA} {t : Nat} {l1 : Int32} {l2 : Int32} {l3 : Int32} {l4 : Int32} {l5 : Int32} {r : Int32} (H : X8_hearsDeed h t l1 l2 l3 l4 l5 = some r) : MG V M_X8_hearsDeed [.ref t, .int l1, .int l2, .int l3, .int l4, .int l5] h (some (.int r)) h := by
  unfold X8_hearsDeed at H
  obtain ⟨_, H⟩ := oc H
  refine MG.of (lv0 := [(0, .ref t), (1, .int l1), (2, .int l2), (3, .int l3), (4, .int l4), (5, .int l5)]) pn_X8 rfl (Nat.le_of_ble_eq_true rfl) ?_
  refine WP.aload_n d_X8_hearsDeed_0 0 rfl ?_
  obtain ⟨x1, ex1, H⟩ := ob H
  refine WP.fR d_X8_hearsDeed_1 gf_X8_71 (fun _ => rfl) ex1 ?_
  refine WP.iload_n d_X8_hearsDeed_4 1 rfl ?_
  obtain ⟨x2, ex2, H⟩ := ob H
  refine WP.iald d_X8_hearsDeed_5 ex2 ?_
  refine WP.iconst d_X8_hearsDeed_6 ki_m1 ?_
  rcases oj H with ⟨hc, H⟩ | ⟨hc, H⟩
  · refine WP.icmp_ne_t d_X8_hearsDeed_7 hc ?_
    refine WP.iconst d_X8_hearsDeed_10 ki_0 ?_
    cases H
    exact WP.ireturn d_X8_hearsDeed_11 rfl rfl (Nat.le_of_ble_eq_true rfl) (Nat.le_of_ble_eq_true rfl)
  · refine WP.icmp_ne_f d_X8_hearsDeed_7 hc ?_
    refine WP.aload_n d_X8_hearsDeed_12 0 rfl ?_
    refine WP.iload_n d_X8_hearsDeed_13 2 rfl ?_
    refine WP.iload_n d_X8_hearsDeed_14 3 rfl ?_
    refine WP.iload d_X8_hearsDeed_15 4 rfl ?_
    refine WP.iload d_X8_hearsDeed_17 5 rfl ?_
    refine WP.aload_n d_X8_hearsDeed_19 0 rfl ?_
    obtain ⟨x3, ex3, H⟩ := ob H
    refine WP.fR d_X8_hearsDeed_20 gf_X8_77 (fun _ => rfl) ex3 ?_
    refine WP.iload_n d_X8_hearsDeed_23 1 rfl ?_
    obtain ⟨x4, ex4, H⟩ := ob H
    refine WP.iald d_X8_hearsDeed_24 ex4 ?_
    refine WP.aload_n d_X8_hearsDeed_25 0 rfl ?_
    obtain ⟨x5, ex5, H⟩ := ob H
    refine WP.fR d_X8_hearsDeed_26 gf_X8_74 (fun _ => rfl) ex5 ?_
    refine WP.iload_n d_X8_hearsDeed_29 1 rfl ?_
    obtain ⟨x6, ex6, H⟩ := ob H
    refine WP.iald d_X8_hearsDeed_30 ex6 ?_
    refine WP.aload_n d_X8_hearsDeed_31 0 rfl ?_
    obtain ⟨x7, ex7, H⟩ := ob H
    refine WP.fR d_X8_hearsDeed_32 gf_X8_83 (fun _ => rfl) ex7 ?_
    refine WP.iload_n d_X8_hearsDeed_35 1 rfl ?_
    obtain ⟨x8, ex8, H⟩ := ob H
    refine WP.iald d_X8_hearsDeed_36 ex8 ?_
    obtain ⟨x10, e9, H⟩ := ob H
    refine WP.cV (c := 9) (As := [.int l2, .int l3, .int l4, .int l5, .int x4, .int x6, .int x8]) (st := []) (st9 := [.int x10]) (cl9 := 0) (sl9 := 0) d_X8_hearsDeed_37 (ok_X8_hearsAt V e9) tv_X8_hearsAt ti_X8_hearsAt ts_X8_hearsAt lk_X8_317 r_X8_hearsDeed_X8_hearsAt kc_X8_hearsAt (kd_X8_hearsAt e9) rfl rfl (Nat.le_of_ble_eq_true rfl) rfl rfl rfl ?_
    rcases oj H with ⟨hc, H⟩ | ⟨hc, H⟩
    · refine WP.if_ne_t d_X8_hearsDeed_40 hc ?_
      refine WP.aload_n d_X8_hearsDeed_43 0 rfl ?_
      obtain ⟨x11, ex11, H⟩ := ob H
      refine WP.fR d_X8_hearsDeed_44 gf_X8_80 (fun _ => rfl) ex11 ?_
      refine WP.iload_n d_X8_hearsDeed_47 1 rfl ?_
      obtain ⟨x12, ex12, H⟩ := ob H
      refine WP.iald d_X8_hearsDeed_48 ex12 ?_
      refine WP.iconst d_X8_hearsDeed_49 ki_m1 ?_
      rcases oj H with ⟨hc, H⟩ | ⟨hc, H⟩
      · refine WP.icmp_eq_t d_X8_hearsDeed_50 hc ?_
        refine WP.iconst d_X8_hearsDeed_88 ki_0 ?_
        cases H
        exact WP.ireturn d_X8_hearsDeed_89 rfl rfl (Nat.le_of_ble_eq_true rfl) (Nat.le_of_ble_eq_true rfl)
      · refine WP.icmp_eq_f d_X8_hearsDeed_50 hc ?_
        refine WP.aload_n d_X8_hearsDeed_53 0 rfl ?_
        refine WP.iload_n d_X8_hearsDeed_54 2 rfl ?_
        refine WP.iload_n d_X8_hearsDeed_55 3 rfl ?_
        refine WP.iload d_X8_hearsDeed_56 4 rfl ?_
        refine WP.iload d_X8_hearsDeed_58 5 rfl ?_
        refine WP.aload_n d_X8_hearsDeed_60 0 rfl ?_
        obtain ⟨x13, ex13, H⟩ := ob H
        refine WP.fR d_X8_hearsDeed_61 gf_X8_80 (fun _ => rfl) ex13 ?_
        refine WP.iload_n d_X8_hearsDeed_64 1 rfl ?_
        obtain ⟨x14, ex14, H⟩ := ob H
        refine WP.iald d_X8_hearsDeed_65 ex14 ?_
        refine WP.aload_n d_X8_hearsDeed_66 0 rfl ?_
        obtain ⟨x15, ex15, H⟩ := ob H
        refine WP.fR d_X8_hearsDeed_67 gf_X8_74 (fun _ => rfl) ex15 ?_
        refine WP.iload_n d_X8_hearsDeed_70 1 rfl ?_
        obtain ⟨x16, ex16, H⟩ := ob H
        refine WP.iald d_X8_hearsDeed_71 ex16 ?_
        refine WP.aload_n d_X8_hearsDeed_72 0 rfl ?_
        obtain ⟨x17, ex17, H⟩ := ob H
        refine WP.fR d_X8_hearsDeed_73 gf_X8_83 (fun _ => rfl) ex17 ?_
        refine WP.iload_n d_X8_hearsDeed_76 1 rfl ?_
        obtain ⟨x18, ex18, H⟩ := ob H
        refine WP.iald d_X8_hearsDeed_77 ex18 ?_
        obtain ⟨x20, e19, H⟩ := ob H
        refine WP.cV (c := 9) (As := [.int l2, .int l3, .int l4, .int l5, .int x14, .int x16, .int x18]) (st := []) (st9 := [.int x20]) (cl9 := 0) (sl9 := 0) d_X8_hearsDeed_78 (ok_X8_hearsAt V e19) tv_X8_hearsAt ti_X8_hearsAt ts_X8_hearsAt lk_X8_317 r_X8_hearsDeed_X8_hearsAt kc_X8_hearsAt (kd_X8_hearsAt e19) rfl rfl (Nat.le_of_ble_eq_true rfl) rfl rfl rfl ?_
        rcases oj H with ⟨hc, H⟩ | ⟨hc, H⟩
        · refine WP.if_eq_t d_X8_hearsDeed_81 hc ?_
          refine WP.iconst d_X8_hearsDeed_88 ki_0 ?_
          cases H
          exact WP.ireturn d_X8_hearsDeed_89 rfl rfl (Nat.le_of_ble_eq_true rfl) (Nat.le_of_ble_eq_true rfl)
        · refine WP.if_eq_f d_X8_hearsDeed_81 hc ?_
          refine WP.iconst d_X8_hearsDeed_84 ki_1 ?_
          refine WP.goto d_X8_hearsDeed_85 ?_
          cases H
          exact WP.ireturn d_X8_hearsDeed_89 rfl rfl (Nat.le_of_ble_eq_true rfl) (Nat.le_of_ble_eq_true rfl)
    · refine WP.if_ne_f d_X8_hearsDeed_40 hc ?_
      refine WP.iconst d_X8_hearsDeed_84 ki_1 ?_
      refine WP.goto d_X8_hearsDeed_85 ?_
      cases H
      exact WP.ireturn d_X8_hearsDeed_89 rfl rfl (Nat.le_of_ble_eq_true rfl) (Nat.le_of_ble_eq_true rfl)

set_option maxRecDepth 20000 in
set_option maxHeartbeats 4000000 in
theorem okl_X8_knownFrom_L6 (V : EV) {vF : Option Value} {hF : HA} {h : HA} {t : Nat} {l1 : Int32} {l2 : Int32} {l3 : Int32} {l4 : Int32} {l5 : Int32} (n : Nat) : ∀ {l6 : Int32} {l7 : Int32} {r6 : Int32}, (H : X8_knownFrom_L6 h t l1 l2 l3 l4 l5 n l6 l7 = some r6) → (K : WP V M_X8_knownFrom 73 [(6, .int r6)] [] h 0 0 vF hF) → WP V M_X8_knownFrom 6 [(0, .ref t), (1, .int l1), (2, .int l2), (3, .int l3), (4, .int l4), (5, .int l5), (6, .int l6), (7, .int l7)] [] h 0 0 vF hF := by
  induction n with
  | zero =>
    intro l6 l7 r6 H K
    rw [X8_knownFrom_L6] at H
    cases H
  | succ n ih =>
    intro l6 l7 r6 H K
    rw [X8_knownFrom_L6] at H
    refine WP.iload d_X8_knownFrom_6 7 rfl ?_
    refine WP.aload_n d_X8_knownFrom_8 0 rfl ?_
    obtain ⟨x1, ex1, H⟩ := ob H
    refine WP.fI d_X8_knownFrom_9 gf_X8_373 (fun _ => rfl) ex1 ?_
    rcases oj H with ⟨hc, H⟩ | ⟨hc, H⟩
    · refine WP.icmp_ge_t d_X8_knownFrom_12 hc ?_
      refine WP.iload d_X8_knownFrom_15 6 rfl ?_
      refine WP.aload_n d_X8_knownFrom_17 0 rfl ?_
      refine WP.iload d_X8_knownFrom_18 7 rfl ?_
      refine WP.aload_n d_X8_knownFrom_20 0 rfl ?_
      refine WP.iload_n d_X8_knownFrom_21 1 rfl ?_
      refine WP.iconst d_X8_knownFrom_22 ki_0 ?_
      obtain ⟨x3, e2, H⟩ := ob H
      refine WP.cV (c := 9) (As := [.int l1, .int 0]) (st := [.int l7, .ref t, .int l6]) (st9 := [.int x3, .int l7, .ref t, .int l6]) (cl9 := 0) (sl9 := 0) d_X8_knownFrom_23 (ok_X8_judgeOf V e2) tv_X8_judgeOf ti_X8_judgeOf ts_X8_judgeOf lk_X8_307 r_X8_knownFrom_X8_judgeOf kc_X8_judgeOf (kd_X8_judgeOf e2) rfl rfl (Nat.le_of_ble_eq_true rfl) rfl rfl rfl ?_
      refine WP.aload_n d_X8_knownFrom_26 0 rfl ?_
      refine WP.iload_n d_X8_knownFrom_27 2 rfl ?_
      refine WP.aload_n d_X8_knownFrom_28 0 rfl ?_
      refine WP.iload_n d_X8_knownFrom_29 1 rfl ?_
      refine WP.iconst d_X8_knownFrom_30 ki_4 ?_
      obtain ⟨x5, e4, H⟩ := ob H
      refine WP.cV (c := 9) (As := [.int l1, .int 4]) (st := [.int l2, .ref t, .int x3, .int l7, .ref t, .int l6]) (st9 := [.int x5, .int l2, .ref t, .int x3, .int l7, .ref t, .int l6]) (cl9 := 0) (sl9 := 0) d_X8_knownFrom_31 (ok_X8_judgeOf V e4) tv_X8_judgeOf ti_X8_judgeOf ts_X8_judgeOf lk_X8_307 r_X8_knownFrom_X8_judgeOf kc_X8_judgeOf (kd_X8_judgeOf e4) rfl rfl (Nat.le_of_ble_eq_true rfl) rfl rfl rfl ?_
      refine WP.iload d_X8_knownFrom_34 7 rfl ?_
      refine WP.iload_n d_X8_knownFrom_36 3 rfl ?_
      refine WP.iadd d_X8_knownFrom_37 ?_
      obtain ⟨x7, e6, H⟩ := ob H
      refine WP.cV (c := 9) (As := [.int l2, .int x5, .int (l7 + l3)]) (st := [.int x3, .int l7, .ref t, .int l6]) (st9 := [.int x7, .int x3, .int l7, .ref t, .int l6]) (cl9 := 0) (sl9 := 0) d_X8_knownFrom_38 (ok_X8_faces V e6) tv_X8_faces ti_X8_faces ts_X8_faces lk_X8_310 r_X8_knownFrom_X8_faces kc_X8_faces (kd_X8_faces e6) rfl rfl (Nat.le_of_ble_eq_true rfl) rfl rfl rfl ?_
      refine WP.iload d_X8_knownFrom_41 4 rfl ?_
      refine WP.iload d_X8_knownFrom_43 5 rfl ?_
      obtain ⟨x9, e8, H⟩ := ob H
      refine WP.cV (c := 9) (As := [.int l7, .int x3, .int x7, .int l4, .int l5]) (st := [.int l6]) (st9 := [.int x9, .int l6]) (cl9 := 0) (sl9 := 0) d_X8_knownFrom_45 (ok_X8_hearsDeed V e8) tv_X8_hearsDeed ti_X8_hearsDeed ts_X8_hearsDeed lk_X8_391 r_X8_knownFrom_X8_hearsDeed kc_X8_hearsDeed (kd_X8_hearsDeed e8) rfl rfl (Nat.le_of_ble_eq_true rfl) rfl rfl rfl ?_
      rcases oj H with ⟨hc, H⟩ | ⟨hc, H⟩
      · refine WP.if_eq_t d_X8_knownFrom_48 hc ?_
        refine WP.iconst d_X8_knownFrom_63 ki_0 ?_
        refine WP.ior d_X8_knownFrom_64 ?_
        refine WP.istore (lv9 := [(6, .int (l6 ||| 0)), (0, .ref t), (1, .int l1), (2, .int l2), (3, .int l3), (4, .int l4), (5, .int l5), (7, .int l7)]) d_X8_knownFrom_65 (Nat.le_of_ble_eq_true rfl) rfl ?_
        refine WP.iinc (lv9 := [(7, .int (l7 + 1)), (6, .int (l6 ||| 0)), (0, .ref t), (1, .int l1), (2, .int l2), (3, .int l3), (4, .int l4), (5, .int l5)]) d_X8_knownFrom_67 7 rfl ki_1 (Nat.le_of_ble_eq_true rfl) rfl ?_
        refine WP.goto d_X8_knownFrom_70 ?_
        refine WP.sub [2, 3, 4, 5, 6, 7, 1, 0] (lv' := [(0, .ref t), (1, .int l1), (2, .int l2), (3, .int l3), (4, .int l4), (5, .int l5), (6, .int (l6 ||| 0)), (7, .int (l7 + 1))]) rfl ?_
        exact ih H K
      · refine WP.if_eq_f d_X8_knownFrom_48 hc ?_
        refine WP.iconst d_X8_knownFrom_51 ki_1 ?_
        refine WP.aload_n d_X8_knownFrom_52 0 rfl ?_
        obtain ⟨x10, ex10, H⟩ := ob H
        refine WP.fR d_X8_knownFrom_53 gf_X8_71 (fun _ => rfl) ex10 ?_
        refine WP.iload d_X8_knownFrom_56 7 rfl ?_
        obtain ⟨x11, ex11, H⟩ := ob H
        refine WP.iald d_X8_knownFrom_58 ex11 ?_
        refine WP.ishl d_X8_knownFrom_59 ?_
        refine WP.goto d_X8_knownFrom_60 ?_
        refine WP.ior d_X8_knownFrom_64 ?_
        refine WP.istore (lv9 := [(6, .int (l6 ||| (shlI 1 x11))), (0, .ref t), (1, .int l1), (2, .int l2), (3, .int l3), (4, .int l4), (5, .int l5), (7, .int l7)]) d_X8_knownFrom_65 (Nat.le_of_ble_eq_true rfl) rfl ?_
        refine WP.iinc (lv9 := [(7, .int (l7 + 1)), (6, .int (l6 ||| (shlI 1 x11))), (0, .ref t), (1, .int l1), (2, .int l2), (3, .int l3), (4, .int l4), (5, .int l5)]) d_X8_knownFrom_67 7 rfl ki_1 (Nat.le_of_ble_eq_true rfl) rfl ?_
        refine WP.goto d_X8_knownFrom_70 ?_
        refine WP.sub [2, 3, 4, 5, 6, 7, 1, 0] (lv' := [(0, .ref t), (1, .int l1), (2, .int l2), (3, .int l3), (4, .int l4), (5, .int l5), (6, .int (l6 ||| (shlI 1 x11))), (7, .int (l7 + 1))]) rfl ?_
        exact ih H K
    · refine WP.icmp_ge_f d_X8_knownFrom_12 hc ?_
      cases H
      exact WP.sub [6] rfl K

set_option maxRecDepth 20000 in
set_option maxHeartbeats 4000000 in
theorem ok_X8_knownFrom (V : EV) {h : HA} {t : Nat} {l1 : Int32} {l2 : Int32} {l3 : Int32} {l4 : Int32} {l5 : Int32} {r : Int32} (H : X8_knownFrom h t l1 l2 l3 l4 l5 = some r) : MG V M_X8_knownFrom [.ref t, .int l1, .int l2, .int l3, .int l4, .int l5] h (some (.int r)) h := by
  unfold X8_knownFrom at H
  obtain ⟨_, H⟩ := oc H
  refine MG.of (lv0 := [(0, .ref t), (1, .int l1), (2, .int l2), (3, .int l3), (4, .int l4), (5, .int l5)]) pn_X8 rfl (Nat.le_of_ble_eq_true rfl) ?_
  refine WP.iconst d_X8_knownFrom_0 ki_0 ?_
  refine WP.istore (lv9 := [(6, .int 0), (0, .ref t), (1, .int l1), (2, .int l2), (3, .int l3), (4, .int l4), (5, .int l5)]) d_X8_knownFrom_1 (Nat.le_of_ble_eq_true rfl) rfl ?_
  refine WP.iconst d_X8_knownFrom_3 ki_0 ?_
  refine WP.istore (lv9 := [(7, .int 0), (6, .int 0), (0, .ref t), (1, .int l1), (2, .int l2), (3, .int l3), (4, .int l4), (5, .int l5)]) d_X8_knownFrom_4 (Nat.le_of_ble_eq_true rfl) rfl ?_
  obtain ⟨y13, e12, H⟩ := ob H
  refine WP.sub [2, 3, 4, 5, 6, 7, 1, 0] (lv' := [(0, .ref t), (1, .int l1), (2, .int l2), (3, .int l3), (4, .int l4), (5, .int l5), (6, .int 0), (7, .int 0)]) rfl ?_
  refine okl_X8_knownFrom_L6 V _ e12 ?_
  refine WP.iload d_X8_knownFrom_73 0 rfl ?_
  cases H
  exact WP.ireturn d_X8_knownFrom_75 rfl rfl (Nat.le_of_ble_eq_true rfl) (Nat.le_of_ble_eq_true rfl)

set_option maxRecDepth 20000 in
set_option maxHeartbeats 4000000 in
theorem ok_X8_knownIn (V : EV) {h : HA} {t : Nat} {l1 : Int32} {l2 : Int32} {l3 : Int32} {r : Int32} (H : X8_knownIn h t l1 l2 l3 = some r) : MG V M_X8_knownIn [.ref t, .int l1, .int l2, .int l3] h (some (.int r)) h := by
  unfold X8_knownIn at H
  obtain ⟨_, H⟩ := oc H
  refine MG.of (lv0 := [(0, .ref t), (1, .int l1), (2, .int l2), (3, .int l3)]) pn_X8 rfl (Nat.le_of_ble_eq_true rfl) ?_
  refine WP.aload_n d_X8_knownIn_0 0 rfl ?_
  refine WP.iload_n d_X8_knownIn_1 1 rfl ?_
  refine WP.aload_n d_X8_knownIn_2 0 rfl ?_
  refine WP.iload_n d_X8_knownIn_3 1 rfl ?_
  refine WP.iconst d_X8_knownIn_4 ki_1 ?_
  obtain ⟨x2, e1, H⟩ := ob H
  refine WP.cV (c := 9) (As := [.int l1, .int 1]) (st := [.int l1, .ref t]) (st9 := [.int x2, .int l1, .ref t]) (cl9 := 0) (sl9 := 0) d_X8_knownIn_5 (ok_X8_judgeOf V e1) tv_X8_judgeOf ti_X8_judgeOf ts_X8_judgeOf lk_X8_307 r_X8_knownIn_X8_judgeOf kc_X8_judgeOf (kd_X8_judgeOf e1) rfl rfl (Nat.le_of_ble_eq_true rfl) rfl rfl rfl ?_
  refine WP.iconst d_X8_knownIn_8 ki_0 ?_
  refine WP.iload_n d_X8_knownIn_9 2 rfl ?_
  refine WP.iload_n d_X8_knownIn_10 3 rfl ?_
  obtain ⟨x4, e3, H⟩ := ob H
  refine WP.cV (c := 9) (As := [.int l1, .int x2, .int 0, .int l2, .int l3]) (st := []) (st9 := [.int x4]) (cl9 := 0) (sl9 := 0) d_X8_knownIn_11 (ok_X8_knownFrom V e3) tv_X8_knownFrom ti_X8_knownFrom ts_X8_knownFrom lk_X8_395 r_X8_knownIn_X8_knownFrom kc_X8_knownFrom (kd_X8_knownFrom e3) rfl rfl (Nat.le_of_ble_eq_true rfl) rfl rfl rfl ?_
  cases H
  exact WP.ireturn d_X8_knownIn_14 rfl rfl (Nat.le_of_ble_eq_true rfl) (Nat.le_of_ble_eq_true rfl)

set_option maxRecDepth 20000 in
set_option maxHeartbeats 4000000 in
theorem ok_X8_known (V : EV) {h : HA} {t : Nat} {l1 : Int32} {r : Int32} (H : X8_known h t l1 = some r) : MG V M_X8_known [.ref t, .int l1] h (some (.int r)) h := by
  unfold X8_known at H
  obtain ⟨_, H⟩ := oc H
  refine MG.of (lv0 := [(0, .ref t), (1, .int l1)]) pn_X8 rfl (Nat.le_of_ble_eq_true rfl) ?_
  refine WP.aload_n d_X8_known_0 0 rfl ?_
  refine WP.iload_n d_X8_known_1 1 rfl ?_
  refine WP.aload_n d_X8_known_2 0 rfl ?_
  refine WP.iload_n d_X8_known_3 1 rfl ?_
  obtain ⟨x2, e1, H⟩ := ob H
  refine WP.cV (c := 9) (As := [.int l1]) (st := [.int l1, .ref t]) (st9 := [.int x2, .int l1, .ref t]) (cl9 := 0) (sl9 := 0) d_X8_known_4 (ok_X8_earsOf V e1) tv_X8_earsOf ti_X8_earsOf ts_X8_earsOf lk_X8_314 r_X8_known_X8_earsOf kc_X8_earsOf (kd_X8_earsOf e1) rfl rfl (Nat.le_of_ble_eq_true rfl) rfl rfl rfl ?_
  refine WP.aload_n d_X8_known_7 0 rfl ?_
  refine WP.iload_n d_X8_known_8 1 rfl ?_
  refine WP.iconst d_X8_known_9 ki_3 ?_
  obtain ⟨x4, e3, H⟩ := ob H
  refine WP.cV (c := 9) (As := [.int l1, .int 3]) (st := [.int x2, .int l1, .ref t]) (st9 := [.int x4, .int x2, .int l1, .ref t]) (cl9 := 0) (sl9 := 0) d_X8_known_10 (ok_X8_judgeOf V e3) tv_X8_judgeOf ti_X8_judgeOf ts_X8_judgeOf lk_X8_307 r_X8_known_X8_judgeOf kc_X8_judgeOf (kd_X8_judgeOf e3) rfl rfl (Nat.le_of_ble_eq_true rfl) rfl rfl rfl ?_
  obtain ⟨x6, e5, H⟩ := ob H
  refine WP.cV (c := 9) (As := [.int l1, .int x2, .int x4]) (st := []) (st9 := [.int x6]) (cl9 := 0) (sl9 := 0) d_X8_known_13 (ok_X8_knownIn V e5) tv_X8_knownIn ti_X8_knownIn ts_X8_knownIn lk_X8_399 r_X8_known_X8_knownIn kc_X8_knownIn (kd_X8_knownIn e5) rfl rfl (Nat.le_of_ble_eq_true rfl) rfl rfl rfl ?_
  cases H
  exact WP.ireturn d_X8_known_16 rfl rfl (Nat.le_of_ble_eq_true rfl) (Nat.le_of_ble_eq_true rfl)

set_option maxRecDepth 20000 in
set_option maxHeartbeats 4000000 in
theorem okl_X8_common_L17 (V : EV) {vF : Option Value} {hF : HA} {h : HA} {t : Nat} (n : Nat) : ∀ {l1 : Int32} {l2 : Int32} {r1 : Int32}, (H : X8_common_L17 h t n l1 l2 = some r1) → (K : WP V M_X8_common 39 [(1, .int r1)] [] h 0 0 vF hF) → WP V M_X8_common 17 [(0, .ref t), (1, .int l1), (2, .int l2)] [] h 0 0 vF hF := by
  induction n with
  | zero =>
    intro l1 l2 r1 H K
    rw [X8_common_L17] at H
    cases H
  | succ n ih =>
    intro l1 l2 r1 H K
    rw [X8_common_L17] at H
    refine WP.iload_n d_X8_common_17 2 rfl ?_
    refine WP.aload_n d_X8_common_18 0 rfl ?_
    obtain ⟨x5, ex5, H⟩ := ob H
    refine WP.fI d_X8_common_19 gf_X8_280 (fun _ => rfl) ex5 ?_
    rcases oj H with ⟨hc, H⟩ | ⟨hc, H⟩
    · refine WP.icmp_ge_t d_X8_common_22 hc ?_
      refine WP.iload_n d_X8_common_25 1 rfl ?_
      refine WP.aload_n d_X8_common_26 0 rfl ?_
      refine WP.iload_n d_X8_common_27 2 rfl ?_
      obtain ⟨x7, e6, H⟩ := ob H
      refine WP.cV (c := 9) (As := [.int l2]) (st := [.int l1]) (st9 := [.int x7, .int l1]) (cl9 := 0) (sl9 := 0) d_X8_common_28 (ok_X8_known V e6) tv_X8_known ti_X8_known ts_X8_known lk_X8_402 r_X8_common_X8_known kc_X8_known (kd_X8_known e6) rfl rfl (Nat.le_of_ble_eq_true rfl) rfl rfl rfl ?_
      refine WP.iand d_X8_common_31 ?_
      refine WP.istore_n (lv9 := [(1, .int (l1 &&& x7)), (0, .ref t), (2, .int l2)]) d_X8_common_32 (Nat.le_of_ble_eq_true rfl) rfl ?_
      refine WP.iinc (lv9 := [(2, .int (l2 + 1)), (1, .int (l1 &&& x7)), (0, .ref t)]) d_X8_common_33 2 rfl ki_1 (Nat.le_of_ble_eq_true rfl) rfl ?_
      refine WP.goto d_X8_common_36 ?_
      refine WP.sub [2, 1, 0] (lv' := [(0, .ref t), (1, .int (l1 &&& x7)), (2, .int (l2 + 1))]) rfl ?_
      exact ih H K
    · refine WP.icmp_ge_f d_X8_common_22 hc ?_
      cases H
      exact WP.sub [1] rfl K

set_option maxRecDepth 20000 in
set_option maxHeartbeats 4000000 in
theorem ok_X8_common (V : EV) {h : HA} {t : Nat} {r : Int32} (H : X8_common h t = some r) : MG V M_X8_common [.ref t] h (some (.int r)) h := by
  unfold X8_common at H
  obtain ⟨_, H⟩ := oc H
  refine MG.of (lv0 := [(0, .ref t)]) pn_X8 rfl (Nat.le_of_ble_eq_true rfl) ?_
  refine WP.aload_n d_X8_common_0 0 rfl ?_
  obtain ⟨x1, ex1, H⟩ := ob H
  refine WP.fI d_X8_common_1 gf_X8_280 (fun _ => rfl) ex1 ?_
  obtain ⟨j2, hs3, H⟩ := ol H
  have J4 : WP V M_X8_common 14 [(0, .ref t)] [.int j2] h 0 0 (some (.int r)) h := by
    refine WP.istore_n (lv9 := [(1, .int j2), (0, .ref t)]) d_X8_common_14 (Nat.le_of_ble_eq_true rfl) rfl ?_
    refine WP.iconst d_X8_common_15 ki_0 ?_
    refine WP.istore_n (lv9 := [(2, .int 0), (1, .int j2), (0, .ref t)]) d_X8_common_16 (Nat.le_of_ble_eq_true rfl) rfl ?_
    obtain ⟨y9, e8, H⟩ := ob H
    refine WP.sub [2, 1, 0] (lv' := [(0, .ref t), (1, .int j2), (2, .int 0)]) rfl ?_
    refine okl_X8_common_L17 V _ e8 ?_
    refine WP.iload_n d_X8_common_39 0 rfl ?_
    cases H
    exact WP.ireturn d_X8_common_40 rfl rfl (Nat.le_of_ble_eq_true rfl) (Nat.le_of_ble_eq_true rfl)
  rcases oj hs3 with ⟨hc, hs3⟩ | ⟨hc, hs3⟩
  · refine WP.if_ne_t d_X8_common_4 hc ?_
    refine WP.iconst d_X8_common_7 ki_0 ?_
    refine WP.goto d_X8_common_8 ?_
    cases hs3
    exact WP.sub [0] rfl J4
  · refine WP.if_ne_f d_X8_common_4 hc ?_
    refine WP.sipush d_X8_common_11 ks_1023 ?_
    cases hs3
    exact WP.sub [0] rfl J4

set_option maxRecDepth 20000 in
set_option maxHeartbeats 4000000 in
theorem okl_X8_lost_L4 (V : EV) {vF : Option Value} {hF : HA} {h : HA} {t : Nat} (n : Nat) : ∀ {l1 : Int32} {l2 : Int32} {r1 : Int32}, (H : X8_lost_L4 h t n l1 l2 = some r1) → (K : WP V M_X8_lost 43 [(0, .ref t), (1, .int r1)] [] h 0 0 vF hF) → WP V M_X8_lost 4 [(0, .ref t), (1, .int l1), (2, .int l2)] [] h 0 0 vF hF := by
  induction n with
  | zero =>
    intro l1 l2 r1 H K
    rw [X8_lost_L4] at H
    cases H
  | succ n ih =>
    intro l1 l2 r1 H K
    rw [X8_lost_L4] at H
    refine WP.iload_n d_X8_lost_4 2 rfl ?_
    refine WP.aload_n d_X8_lost_5 0 rfl ?_
    obtain ⟨x1, ex1, H⟩ := ob H
    refine WP.fI d_X8_lost_6 gf_X8_373 (fun _ => rfl) ex1 ?_
    rcases oj H with ⟨hc, H⟩ | ⟨hc, H⟩
    · refine WP.icmp_ge_t d_X8_lost_9 hc ?_
      refine WP.iload_n d_X8_lost_12 1 rfl ?_
      refine WP.aload_n d_X8_lost_13 0 rfl ?_
      obtain ⟨x2, ex2, H⟩ := ob H
      refine WP.fR d_X8_lost_14 gf_X8_71 (fun _ => rfl) ex2 ?_
      refine WP.iload_n d_X8_lost_17 2 rfl ?_
      obtain ⟨x3, ex3, H⟩ := ob H
      refine WP.iald d_X8_lost_18 ex3 ?_
      refine WP.iconst d_X8_lost_19 ki_m1 ?_
      rcases oj H with ⟨hc, H⟩ | ⟨hc, H⟩
      · refine WP.icmp_ne_t d_X8_lost_20 hc ?_
        refine WP.iconst d_X8_lost_23 ki_0 ?_
        refine WP.goto d_X8_lost_24 ?_
        refine WP.ior d_X8_lost_35 ?_
        refine WP.istore_n (lv9 := [(1, .int (l1 ||| 0)), (0, .ref t), (2, .int l2)]) d_X8_lost_36 (Nat.le_of_ble_eq_true rfl) rfl ?_
        refine WP.iinc (lv9 := [(2, .int (l2 + 1)), (1, .int (l1 ||| 0)), (0, .ref t)]) d_X8_lost_37 2 rfl ki_1 (Nat.le_of_ble_eq_true rfl) rfl ?_
        refine WP.goto d_X8_lost_40 ?_
        refine WP.sub [2, 1, 0] (lv' := [(0, .ref t), (1, .int (l1 ||| 0)), (2, .int (l2 + 1))]) rfl ?_
        exact ih H K
      · refine WP.icmp_ne_f d_X8_lost_20 hc ?_
        refine WP.iconst d_X8_lost_27 ki_1 ?_
        refine WP.aload_n d_X8_lost_28 0 rfl ?_
        obtain ⟨x4, ex4, H⟩ := ob H
        refine WP.fR d_X8_lost_29 gf_X8_71 (fun _ => rfl) ex4 ?_
        refine WP.iload_n d_X8_lost_32 2 rfl ?_
        obtain ⟨x5, ex5, H⟩ := ob H
        refine WP.iald d_X8_lost_33 ex5 ?_
        refine WP.ishl d_X8_lost_34 ?_
        refine WP.ior d_X8_lost_35 ?_
        refine WP.istore_n (lv9 := [(1, .int (l1 ||| (shlI 1 x5))), (0, .ref t), (2, .int l2)]) d_X8_lost_36 (Nat.le_of_ble_eq_true rfl) rfl ?_
        refine WP.iinc (lv9 := [(2, .int (l2 + 1)), (1, .int (l1 ||| (shlI 1 x5))), (0, .ref t)]) d_X8_lost_37 2 rfl ki_1 (Nat.le_of_ble_eq_true rfl) rfl ?_
        refine WP.goto d_X8_lost_40 ?_
        refine WP.sub [2, 1, 0] (lv' := [(0, .ref t), (1, .int (l1 ||| (shlI 1 x5))), (2, .int (l2 + 1))]) rfl ?_
        exact ih H K
    · refine WP.icmp_ge_f d_X8_lost_9 hc ?_
      cases H
      exact WP.sub [0, 1] rfl K

set_option maxRecDepth 20000 in
set_option maxHeartbeats 4000000 in
theorem okl_X8_lost_L45 (V : EV) {vF : Option Value} {hF : HA} {h : HA} {t : Nat} (n : Nat) : ∀ {l1 : Int32} {l2 : Int32} {r1 : Int32}, (H : X8_lost_L45 h t n l1 l2 = some r1) → (K : WP V M_X8_lost 69 [(1, .int r1)] [] h 0 0 vF hF) → WP V M_X8_lost 45 [(0, .ref t), (1, .int l1), (2, .int l2)] [] h 0 0 vF hF := by
  induction n with
  | zero =>
    intro l1 l2 r1 H K
    rw [X8_lost_L45] at H
    cases H
  | succ n ih =>
    intro l1 l2 r1 H K
    rw [X8_lost_L45] at H
    refine WP.iload_n d_X8_lost_45 2 rfl ?_
    refine WP.aload_n d_X8_lost_46 0 rfl ?_
    obtain ⟨x8, ex8, H⟩ := ob H
    refine WP.fI d_X8_lost_47 gf_X8_280 (fun _ => rfl) ex8 ?_
    rcases oj H with ⟨hc, H⟩ | ⟨hc, H⟩
    · refine WP.icmp_ge_t d_X8_lost_50 hc ?_
      refine WP.iload_n d_X8_lost_53 1 rfl ?_
      refine WP.aload_n d_X8_lost_54 0 rfl ?_
      refine WP.iload_n d_X8_lost_55 2 rfl ?_
      obtain ⟨x10, e9, H⟩ := ob H
      refine WP.cV (c := 9) (As := [.int l2]) (st := [.int l1]) (st9 := [.int x10, .int l1]) (cl9 := 0) (sl9 := 0) d_X8_lost_56 (ok_X8_known V e9) tv_X8_known ti_X8_known ts_X8_known lk_X8_402 r_X8_lost_X8_known kc_X8_known (kd_X8_known e9) rfl rfl (Nat.le_of_ble_eq_true rfl) rfl rfl rfl ?_
      refine WP.iconst d_X8_lost_59 ki_m1 ?_
      refine WP.ixor d_X8_lost_60 ?_
      refine WP.iand d_X8_lost_61 ?_
      refine WP.istore_n (lv9 := [(1, .int (l1 &&& (x10 ^^^ (-1)))), (0, .ref t), (2, .int l2)]) d_X8_lost_62 (Nat.le_of_ble_eq_true rfl) rfl ?_
      refine WP.iinc (lv9 := [(2, .int (l2 + 1)), (1, .int (l1 &&& (x10 ^^^ (-1)))), (0, .ref t)]) d_X8_lost_63 2 rfl ki_1 (Nat.le_of_ble_eq_true rfl) rfl ?_
      refine WP.goto d_X8_lost_66 ?_
      refine WP.sub [2, 1, 0] (lv' := [(0, .ref t), (1, .int (l1 &&& (x10 ^^^ (-1)))), (2, .int (l2 + 1))]) rfl ?_
      exact ih H K
    · refine WP.icmp_ge_f d_X8_lost_50 hc ?_
      cases H
      exact WP.sub [1] rfl K

set_option maxRecDepth 20000 in
set_option maxHeartbeats 4000000 in
theorem ok_X8_lost (V : EV) {h : HA} {t : Nat} {r : Int32} (H : X8_lost h t = some r) : MG V M_X8_lost [.ref t] h (some (.int r)) h := by
  unfold X8_lost at H
  obtain ⟨_, H⟩ := oc H
  refine MG.of (lv0 := [(0, .ref t)]) pn_X8 rfl (Nat.le_of_ble_eq_true rfl) ?_
  refine WP.iconst d_X8_lost_0 ki_0 ?_
  refine WP.istore_n (lv9 := [(1, .int 0), (0, .ref t)]) d_X8_lost_1 (Nat.le_of_ble_eq_true rfl) rfl ?_
  refine WP.iconst d_X8_lost_2 ki_0 ?_
  refine WP.istore_n (lv9 := [(2, .int 0), (1, .int 0), (0, .ref t)]) d_X8_lost_3 (Nat.le_of_ble_eq_true rfl) rfl ?_
  obtain ⟨y7, e6, H⟩ := ob H
  refine WP.sub [2, 1, 0] (lv' := [(0, .ref t), (1, .int 0), (2, .int 0)]) rfl ?_
  refine okl_X8_lost_L4 V _ e6 ?_
  refine WP.iconst d_X8_lost_43 ki_0 ?_
  refine WP.istore_n (lv9 := [(2, .int 0), (0, .ref t), (1, .int y7)]) d_X8_lost_44 (Nat.le_of_ble_eq_true rfl) rfl ?_
  obtain ⟨y12, e11, H⟩ := ob H
  refine WP.sub [1, 2, 0] (lv' := [(0, .ref t), (1, .int y7), (2, .int 0)]) rfl ?_
  refine okl_X8_lost_L45 V _ e11 ?_
  refine WP.iload_n d_X8_lost_69 0 rfl ?_
  cases H
  exact WP.ireturn d_X8_lost_70 rfl rfl (Nat.le_of_ble_eq_true rfl) (Nat.le_of_ble_eq_true rfl)

set_option maxRecDepth 20000 in
set_option maxHeartbeats 4000000 in
theorem ok_X8_knows (V : EV) {h : HA} {t : Nat} {l1 : Int32} {l2 : Int32} {l3 : Int32} {l4 : Int32} {r : Int32} {hR : HA} (H : X8_knows h t l1 l2 l3 l4 = some (r, hR)) : MG V M_X8_knows [.ref t, .int l1, .int l2, .int l3, .int l4] h (some (.int r)) hR := by
  unfold X8_knows at H
  obtain ⟨_, H⟩ := oc H
  refine MG.of (lv0 := [(0, .ref t), (1, .int l1), (2, .int l2), (3, .int l3), (4, .int l4)]) pn_X8 rfl (Nat.le_of_ble_eq_true rfl) ?_
  refine WP.aload_n d_X8_knows_0 0 rfl ?_
  refine WP.iconst d_X8_knows_1 ki_0 ?_
  obtain ⟨h1, eh1, H⟩ := ob H
  refine WP.uI d_X8_knows_2 gf_X8_102 rfl (Or.inl rfl) rfl rfl eh1 ?_
  refine WP.aload_n d_X8_knows_5 0 rfl ?_
  refine WP.iload_n d_X8_knows_6 1 rfl ?_
  refine WP.iload_n d_X8_knows_7 2 rfl ?_
  refine WP.iload_n d_X8_knows_8 3 rfl ?_
  obtain ⟨⟨x4, h3⟩, e2, H⟩ := ob H
  refine WP.cV (c := 9) (As := [.int l1, .int l2, .int l3]) (st := []) (st9 := [.int x4]) (cl9 := 0) (sl9 := 0) d_X8_knows_9 (ok_X8_layState V e2) tv_X8_layState ti_X8_layState ts_X8_layState lk_X8_388 r_X8_knows_X8_layState kc_X8_layState (kd_X8_layState e2) rfl rfl (Nat.le_of_ble_eq_true rfl) rfl rfl rfl ?_
  rcases oj H with ⟨hc, H⟩ | ⟨hc, H⟩
  · refine WP.if_eq_t d_X8_knows_12 hc ?_
    refine WP.iconst d_X8_knows_31 ki_m1 ?_
    cases H
    exact WP.ireturn d_X8_knows_32 rfl rfl (Nat.le_of_ble_eq_true rfl) (Nat.le_of_ble_eq_true rfl)
  · refine WP.if_eq_f d_X8_knows_12 hc ?_
    refine WP.iload d_X8_knows_15 4 rfl ?_
    refine WP.bipush d_X8_knows_17 kb_m2 ?_
    rcases oj H with ⟨hc, H⟩ | ⟨hc, H⟩
    · refine WP.icmp_lt_t d_X8_knows_19 hc ?_
      refine WP.iconst d_X8_knows_31 ki_m1 ?_
      cases H
      exact WP.ireturn d_X8_knows_32 rfl rfl (Nat.le_of_ble_eq_true rfl) (Nat.le_of_ble_eq_true rfl)
    · refine WP.icmp_lt_f d_X8_knows_19 hc ?_
      refine WP.iload d_X8_knows_22 4 rfl ?_
      refine WP.aload_n d_X8_knows_24 0 rfl ?_
      obtain ⟨x5, ex5, H⟩ := ob H
      refine WP.fI d_X8_knows_25 gf_X8_280 (fun _ => rfl) ex5 ?_
      rcases oj H with ⟨hc, H⟩ | ⟨hc, H⟩
      · refine WP.icmp_lt_t d_X8_knows_28 hc ?_
        refine WP.iload d_X8_knows_33 4 rfl ?_
        refine WP.iconst d_X8_knows_35 ki_m1 ?_
        rcases oj H with ⟨hc, H⟩ | ⟨hc, H⟩
        · refine WP.icmp_ne_t d_X8_knows_36 hc ?_
          refine WP.aload_n d_X8_knows_39 0 rfl ?_
          obtain ⟨x7, e6, H⟩ := ob H
          refine WP.cV (c := 9) (As := []) (st := []) (st9 := [.int x7]) (cl9 := 0) (sl9 := 0) d_X8_knows_40 (ok_X8_common V e6) tv_X8_common ti_X8_common ts_X8_common lk_X8_405 r_X8_knows_X8_common kc_X8_common (kd_X8_common e6) rfl rfl (Nat.le_of_ble_eq_true rfl) rfl rfl rfl ?_
          refine WP.goto d_X8_knows_43 ?_
          cases H
          exact WP.ireturn d_X8_knows_66 rfl rfl (Nat.le_of_ble_eq_true rfl) (Nat.le_of_ble_eq_true rfl)
        · refine WP.icmp_ne_f d_X8_knows_36 hc ?_
          refine WP.iload d_X8_knows_46 4 rfl ?_
          refine WP.bipush d_X8_knows_48 kb_m2 ?_
          rcases oj H with ⟨hc, H⟩ | ⟨hc, H⟩
          · refine WP.icmp_ne_t d_X8_knows_50 hc ?_
            refine WP.aload_n d_X8_knows_53 0 rfl ?_
            obtain ⟨x9, e8, H⟩ := ob H
            refine WP.cV (c := 9) (As := []) (st := []) (st9 := [.int x9]) (cl9 := 0) (sl9 := 0) d_X8_knows_54 (ok_X8_lost V e8) tv_X8_lost ti_X8_lost ts_X8_lost lk_X8_408 r_X8_knows_X8_lost kc_X8_lost (kd_X8_lost e8) rfl rfl (Nat.le_of_ble_eq_true rfl) rfl rfl rfl ?_
            refine WP.goto d_X8_knows_57 ?_
            cases H
            exact WP.ireturn d_X8_knows_66 rfl rfl (Nat.le_of_ble_eq_true rfl) (Nat.le_of_ble_eq_true rfl)
          · refine WP.icmp_ne_f d_X8_knows_50 hc ?_
            refine WP.aload_n d_X8_knows_60 0 rfl ?_
            refine WP.iload d_X8_knows_61 4 rfl ?_
            obtain ⟨x11, e10, H⟩ := ob H
            refine WP.cV (c := 9) (As := [.int l4]) (st := []) (st9 := [.int x11]) (cl9 := 0) (sl9 := 0) d_X8_knows_63 (ok_X8_known V e10) tv_X8_known ti_X8_known ts_X8_known lk_X8_402 r_X8_knows_X8_known kc_X8_known (kd_X8_known e10) rfl rfl (Nat.le_of_ble_eq_true rfl) rfl rfl rfl ?_
            cases H
            exact WP.ireturn d_X8_knows_66 rfl rfl (Nat.le_of_ble_eq_true rfl) (Nat.le_of_ble_eq_true rfl)
      · refine WP.icmp_lt_f d_X8_knows_28 hc ?_
        refine WP.iconst d_X8_knows_31 ki_m1 ?_
        cases H
        exact WP.ireturn d_X8_knows_32 rfl rfl (Nat.le_of_ble_eq_true rfl) (Nat.le_of_ble_eq_true rfl)
