set_option maxRecDepth 20000 in
set_option maxHeartbeats 4000000 in
theorem okl_X8_heard_L46 (V : EV) {vF : Option Value} {hF : HA} {h : HA} {t : Nat} {l3 : Int32} (n : Nat) : ∀ {l4 : Int32} {l5 : Int32} {r4 : Int32}, (H : X8_heard_L46 h t l3 n l4 l5 = some r4) → (K : WP V M_X8_heard 121 [(4, .int r4)] [] h 0 0 vF hF) → WP V M_X8_heard 46 [(0, .ref t), (3, .int l3), (4, .int l4), (5, .int l5)] [] h 0 0 vF hF := by
  induction n with
  | zero =>
    intro l4 l5 r4 H K
    rw [X8_heard_L46] at H
    cases H
  | succ n ih =>
    intro l4 l5 r4 H K
    rw [X8_heard_L46] at H
    refine WP.iload d_X8_heard_46 3 rfl ?_
    refine WP.aload_n d_X8_heard_48 0 rfl ?_
    obtain ⟨x10, ex10, H⟩ := ob H
    refine WP.fI d_X8_heard_49 gf_X8_280 (fun _ => rfl) ex10 ?_
    rcases oj H with ⟨hc, H⟩ | ⟨hc, H⟩
    · refine WP.icmp_ge_t d_X8_heard_52 hc ?_
      refine WP.iload d_X8_heard_55 2 rfl ?_
      refine WP.aload_n d_X8_heard_57 0 rfl ?_
      refine WP.iload_n d_X8_heard_58 1 rfl ?_
      refine WP.aload_n d_X8_heard_59 0 rfl ?_
      refine WP.iload d_X8_heard_60 3 rfl ?_
      refine WP.iconst d_X8_heard_62 ki_0 ?_
      obtain ⟨x12, e11, H⟩ := ob H
      refine WP.cV (c := 9) (As := [.int l5, .int 0]) (st := [.int l3, .ref t, .int l4]) (st9 := [.int x12, .int l3, .ref t, .int l4]) (cl9 := 0) (sl9 := 0) d_X8_heard_63 (ok_X8_judgeOf V e11) tv_X8_judgeOf ti_X8_judgeOf ts_X8_judgeOf lk_X8_307 r_X8_heard_X8_judgeOf kc_X8_judgeOf (kd_X8_judgeOf e11) rfl rfl (Nat.le_of_ble_eq_true rfl) rfl rfl rfl ?_
      refine WP.aload_n d_X8_heard_66 0 rfl ?_
      refine WP.aload_n d_X8_heard_67 0 rfl ?_
      refine WP.iload d_X8_heard_68 3 rfl ?_
      refine WP.iconst d_X8_heard_70 ki_1 ?_
      obtain ⟨x14, e13, H⟩ := ob H
      refine WP.cV (c := 9) (As := [.int l5, .int 1]) (st := [.ref t, .int x12, .int l3, .ref t, .int l4]) (st9 := [.int x14, .ref t, .int x12, .int l3, .ref t, .int l4]) (cl9 := 0) (sl9 := 0) d_X8_heard_71 (ok_X8_judgeOf V e13) tv_X8_judgeOf ti_X8_judgeOf ts_X8_judgeOf lk_X8_307 r_X8_heard_X8_judgeOf kc_X8_judgeOf (kd_X8_judgeOf e13) rfl rfl (Nat.le_of_ble_eq_true rfl) rfl rfl rfl ?_
      refine WP.aload_n d_X8_heard_74 0 rfl ?_
      refine WP.iload d_X8_heard_75 3 rfl ?_
      refine WP.iconst d_X8_heard_77 ki_4 ?_
      obtain ⟨x16, e15, H⟩ := ob H
      refine WP.cV (c := 9) (As := [.int l5, .int 4]) (st := [.int x14, .ref t, .int x12, .int l3, .ref t, .int l4]) (st9 := [.int x16, .int x14, .ref t, .int x12, .int l3, .ref t, .int l4]) (cl9 := 0) (sl9 := 0) d_X8_heard_78 (ok_X8_judgeOf V e15) tv_X8_judgeOf ti_X8_judgeOf ts_X8_judgeOf lk_X8_307 r_X8_heard_X8_judgeOf kc_X8_judgeOf (kd_X8_judgeOf e15) rfl rfl (Nat.le_of_ble_eq_true rfl) rfl rfl rfl ?_
      refine WP.iload_n d_X8_heard_81 1 rfl ?_
      obtain ⟨x18, e17, H⟩ := ob H
      refine WP.cV (c := 9) (As := [.int x14, .int x16, .int l3]) (st := [.int x12, .int l3, .ref t, .int l4]) (st9 := [.int x18, .int x12, .int l3, .ref t, .int l4]) (cl9 := 0) (sl9 := 0) d_X8_heard_82 (ok_X8_faces V e17) tv_X8_faces ti_X8_faces ts_X8_faces lk_X8_310 r_X8_heard_X8_faces kc_X8_faces (kd_X8_faces e17) rfl rfl (Nat.le_of_ble_eq_true rfl) rfl rfl rfl ?_
      refine WP.aload_n d_X8_heard_85 0 rfl ?_
      refine WP.iload d_X8_heard_86 3 rfl ?_
      obtain ⟨x20, e19, H⟩ := ob H
      refine WP.cV (c := 9) (As := [.int l5]) (st := [.int x18, .int x12, .int l3, .ref t, .int l4]) (st9 := [.int x20, .int x18, .int x12, .int l3, .ref t, .int l4]) (cl9 := 0) (sl9 := 0) d_X8_heard_88 (ok_X8_earsOf V e19) tv_X8_earsOf ti_X8_earsOf ts_X8_earsOf lk_X8_314 r_X8_heard_X8_earsOf kc_X8_earsOf (kd_X8_earsOf e19) rfl rfl (Nat.le_of_ble_eq_true rfl) rfl rfl rfl ?_
      refine WP.aload_n d_X8_heard_91 0 rfl ?_
      refine WP.iload d_X8_heard_92 3 rfl ?_
      refine WP.iconst d_X8_heard_94 ki_3 ?_
      obtain ⟨x22, e21, H⟩ := ob H
      refine WP.cV (c := 9) (As := [.int l5, .int 3]) (st := [.int x20, .int x18, .int x12, .int l3, .ref t, .int l4]) (st9 := [.int x22, .int x20, .int x18, .int x12, .int l3, .ref t, .int l4]) (cl9 := 0) (sl9 := 0) d_X8_heard_95 (ok_X8_judgeOf V e21) tv_X8_judgeOf ti_X8_judgeOf ts_X8_judgeOf lk_X8_307 r_X8_heard_X8_judgeOf kc_X8_judgeOf (kd_X8_judgeOf e21) rfl rfl (Nat.le_of_ble_eq_true rfl) rfl rfl rfl ?_
      obtain ⟨x24, e23, H⟩ := ob H
      refine WP.cV (c := 9) (As := [.int l3, .int x12, .int x18, .int x20, .int x22]) (st := [.int l4]) (st9 := [.int x24, .int l4]) (cl9 := 0) (sl9 := 0) d_X8_heard_98 (ok_X8_hearsDeed V e23) tv_X8_hearsDeed ti_X8_hearsDeed ts_X8_hearsDeed lk_X8_391 r_X8_heard_X8_hearsDeed kc_X8_hearsDeed (kd_X8_hearsDeed e23) rfl rfl (Nat.le_of_ble_eq_true rfl) rfl rfl rfl ?_
      rcases oj H with ⟨hc, H⟩ | ⟨hc, H⟩
      · refine WP.if_eq_t d_X8_heard_101 hc ?_
        refine WP.iconst d_X8_heard_111 ki_0 ?_
        refine WP.ior d_X8_heard_112 ?_
        refine WP.istore (lv9 := [(4, .int (l4 ||| 0)), (0, .ref t), (3, .int l3), (5, .int l5)]) d_X8_heard_113 (Nat.le_of_ble_eq_true rfl) rfl ?_
        refine WP.iinc (lv9 := [(5, .int (l5 + 1)), (4, .int (l4 ||| 0)), (0, .ref t), (3, .int l3)]) d_X8_heard_115 3 rfl ki_1 (Nat.le_of_ble_eq_true rfl) rfl ?_
        refine WP.goto d_X8_heard_118 ?_
        refine WP.sub [2, 3, 1, 0] (lv' := [(0, .ref t), (3, .int l3), (4, .int (l4 ||| 0)), (5, .int (l5 + 1))]) rfl ?_
        exact ih H K
      · refine WP.if_eq_f d_X8_heard_101 hc ?_
        refine WP.iconst d_X8_heard_104 ki_1 ?_
        refine WP.iload d_X8_heard_105 3 rfl ?_
        refine WP.ishl d_X8_heard_107 ?_
        refine WP.goto d_X8_heard_108 ?_
        refine WP.ior d_X8_heard_112 ?_
        refine WP.istore (lv9 := [(4, .int (l4 ||| (shlI 1 l5))), (0, .ref t), (3, .int l3), (5, .int l5)]) d_X8_heard_113 (Nat.le_of_ble_eq_true rfl) rfl ?_
        refine WP.iinc (lv9 := [(5, .int (l5 + 1)), (4, .int (l4 ||| (shlI 1 l5))), (0, .ref t), (3, .int l3)]) d_X8_heard_115 3 rfl ki_1 (Nat.le_of_ble_eq_true rfl) rfl ?_
        refine WP.goto d_X8_heard_118 ?_
        refine WP.sub [2, 3, 1, 0] (lv' := [(0, .ref t), (3, .int l3), (4, .int (l4 ||| (shlI 1 l5))), (5, .int (l5 + 1))]) rfl ?_
        exact ih H K
    · refine WP.icmp_ge_f d_X8_heard_52 hc ?_
      cases H
      exact WP.sub [2] rfl K

set_option maxRecDepth 20000 in
set_option maxHeartbeats 4000000 in
theorem ok_X8_heard (V : EV) {h : HA} {t : Nat} {l1 : Int32} {l2 : Int32} {l3 : Int32} {r : Int32} {hR : HA} (H : X8_heard h t l1 l2 l3 = some (r, hR)) : MG V M_X8_heard [.ref t, .int l1, .int l2, .int l3] h (some (.int r)) hR := by
  unfold X8_heard at H
  obtain ⟨_, H⟩ := oc H
  refine MG.of (lv0 := [(0, .ref t), (1, .int l1), (2, .int l2), (3, .int l3)]) pn_X8 rfl (Nat.le_of_ble_eq_true rfl) ?_
  refine WP.aload_n d_X8_heard_0 0 rfl ?_
  refine WP.iconst d_X8_heard_1 ki_0 ?_
  obtain ⟨h1, eh1, H⟩ := ob H
  refine WP.uI d_X8_heard_2 gf_X8_102 rfl (Or.inl rfl) rfl rfl eh1 ?_
  refine WP.aload_n d_X8_heard_5 0 rfl ?_
  refine WP.iload_n d_X8_heard_6 1 rfl ?_
  refine WP.iload_n d_X8_heard_7 2 rfl ?_
  obtain ⟨⟨x4, h3⟩, e2, H⟩ := ob H
  refine WP.cV (c := 9) (As := [.int l1, .int l2]) (st := []) (st9 := [.int x4]) (cl9 := 0) (sl9 := 0) d_X8_heard_8 (ok_X8_layTrial V e2) tv_X8_layTrial ti_X8_layTrial ts_X8_layTrial lk_X8_385 r_X8_heard_X8_layTrial kc_X8_layTrial (kd_X8_layTrial e2) rfl rfl (Nat.le_of_ble_eq_true rfl) rfl rfl rfl ?_
  rcases oj H with ⟨hc, H⟩ | ⟨hc, H⟩
  · refine WP.if_eq_t d_X8_heard_11 hc ?_
    refine WP.iconst d_X8_heard_38 ki_m1 ?_
    cases H
    exact WP.ireturn d_X8_heard_39 rfl rfl (Nat.le_of_ble_eq_true rfl) (Nat.le_of_ble_eq_true rfl)
  · refine WP.if_eq_f d_X8_heard_11 hc ?_
    refine WP.iload_n d_X8_heard_14 3 rfl ?_
    refine WP.iconst d_X8_heard_15 ki_0 ?_
    refine WP.aload_n d_X8_heard_16 0 rfl ?_
    obtain ⟨x5, ex5, H⟩ := ob H
    refine WP.fI d_X8_heard_17 gf_X8_373 (fun _ => rfl) ex5 ?_
    refine WP.iconst d_X8_heard_20 ki_1 ?_
    refine WP.isub d_X8_heard_21 ?_
    obtain ⟨x7, e6, H⟩ := ob H
    refine WP.cS (As := [.int l3, .int 0, .int (x5 - 1)]) (st := []) (st9 := [.int x7]) (cl9 := 0) (sl9 := 0) d_X8_heard_22 (ok_X8_in V (h := h3) e6) tv_X8_in ts_X8_in lk_X8_114 r_X8_heard_X8_in rfl rfl (Nat.le_of_ble_eq_true rfl) rfl rfl rfl ?_
    rcases oj H with ⟨hc, H⟩ | ⟨hc, H⟩
    · refine WP.if_eq_t d_X8_heard_25 hc ?_
      refine WP.iconst d_X8_heard_38 ki_m1 ?_
      cases H
      exact WP.ireturn d_X8_heard_39 rfl rfl (Nat.le_of_ble_eq_true rfl) (Nat.le_of_ble_eq_true rfl)
    · refine WP.if_eq_f d_X8_heard_25 hc ?_
      refine WP.aload_n d_X8_heard_28 0 rfl ?_
      obtain ⟨x8, ex8, H⟩ := ob H
      refine WP.fR d_X8_heard_29 gf_X8_71 (fun _ => rfl) ex8 ?_
      refine WP.iload_n d_X8_heard_32 3 rfl ?_
      obtain ⟨x9, ex9, H⟩ := ob H
      refine WP.iald d_X8_heard_33 ex9 ?_
      refine WP.iconst d_X8_heard_34 ki_m1 ?_
      rcases oj H with ⟨hc, H⟩ | ⟨hc, H⟩
      · refine WP.icmp_ne_t d_X8_heard_35 hc ?_
        refine WP.iconst d_X8_heard_38 ki_m1 ?_
        cases H
        exact WP.ireturn d_X8_heard_39 rfl rfl (Nat.le_of_ble_eq_true rfl) (Nat.le_of_ble_eq_true rfl)
      · refine WP.icmp_ne_f d_X8_heard_35 hc ?_
        refine WP.iconst d_X8_heard_40 ki_0 ?_
        refine WP.istore (lv9 := [(4, .int 0), (0, .ref t), (1, .int l1), (2, .int l2), (3, .int l3)]) d_X8_heard_41 (Nat.le_of_ble_eq_true rfl) rfl ?_
        refine WP.iconst d_X8_heard_43 ki_0 ?_
        refine WP.istore (lv9 := [(5, .int 0), (4, .int 0), (0, .ref t), (1, .int l1), (2, .int l2), (3, .int l3)]) d_X8_heard_44 (Nat.le_of_ble_eq_true rfl) rfl ?_
        obtain ⟨y26, e25, H⟩ := ob H
        refine WP.sub [2, 5, 1, 0] (lv' := [(0, .ref t), (3, .int l3), (4, .int 0), (5, .int 0)]) rfl ?_
        refine okl_X8_heard_L46 V _ e25 ?_
        refine WP.iload d_X8_heard_121 0 rfl ?_
        cases H
        exact WP.ireturn d_X8_heard_123 rfl rfl (Nat.le_of_ble_eq_true rfl) (Nat.le_of_ble_eq_true rfl)

set_option maxRecDepth 20000 in
set_option maxHeartbeats 4000000 in
theorem ok_X8_rules (V : EV) {h : HA} {t : Nat} {r : Int32} (H : X8_rules h t = some r) : MG V M_X8_rules [.ref t] h (some (.int r)) h := by
  unfold X8_rules at H
  obtain ⟨_, H⟩ := oc H
  refine MG.of (lv0 := [(0, .ref t)]) pn_X8 rfl (Nat.le_of_ble_eq_true rfl) ?_
  refine WP.aload_n d_X8_rules_0 0 rfl ?_
  obtain ⟨x1, ex1, H⟩ := ob H
  refine WP.fR d_X8_rules_1 gf_X8_32 (fun _ => rfl) ex1 ?_
  refine WP.bipush d_X8_rules_4 kb_25 ?_
  refine WP.aload_n d_X8_rules_6 0 rfl ?_
  obtain ⟨x2, ex2, H⟩ := ob H
  refine WP.fI d_X8_rules_7 gf_X8_411 (fun _ => rfl) ex2 ?_
  refine WP.imul d_X8_rules_10 ?_
  obtain ⟨x3, ex3, H⟩ := ob H
  refine WP.iald d_X8_rules_11 ex3 ?_
  cases H
  exact WP.ireturn d_X8_rules_12 rfl rfl (Nat.le_of_ble_eq_true rfl) (Nat.le_of_ble_eq_true rfl)

set_option maxRecDepth 20000 in
set_option maxHeartbeats 4000000 in
theorem ok_X8_ruleOf (V : EV) {h : HA} {t : Nat} {l1 : Int32} {l2 : Int32} {r : Int32} (H : X8_ruleOf h t l1 l2 = some r) : MG V M_X8_ruleOf [.ref t, .int l1, .int l2] h (some (.int r)) h := by
  unfold X8_ruleOf at H
  obtain ⟨_, H⟩ := oc H
  refine MG.of (lv0 := [(0, .ref t), (1, .int l1), (2, .int l2)]) pn_X8 rfl (Nat.le_of_ble_eq_true rfl) ?_
  refine WP.aload_n d_X8_ruleOf_0 0 rfl ?_
  obtain ⟨x1, ex1, H⟩ := ob H
  refine WP.fR d_X8_ruleOf_1 gf_X8_32 (fun _ => rfl) ex1 ?_
  refine WP.bipush d_X8_ruleOf_4 kb_25 ?_
  refine WP.aload_n d_X8_ruleOf_6 0 rfl ?_
  obtain ⟨x2, ex2, H⟩ := ob H
  refine WP.fI d_X8_ruleOf_7 gf_X8_411 (fun _ => rfl) ex2 ?_
  refine WP.imul d_X8_ruleOf_10 ?_
  refine WP.iconst d_X8_ruleOf_11 ki_1 ?_
  refine WP.iadd d_X8_ruleOf_12 ?_
  refine WP.iconst d_X8_ruleOf_13 ki_3 ?_
  refine WP.iload_n d_X8_ruleOf_14 1 rfl ?_
  refine WP.imul d_X8_ruleOf_15 ?_
  refine WP.iadd d_X8_ruleOf_16 ?_
  refine WP.iload_n d_X8_ruleOf_17 2 rfl ?_
  refine WP.iadd d_X8_ruleOf_18 ?_
  obtain ⟨x3, ex3, H⟩ := ob H
  refine WP.iald d_X8_ruleOf_19 ex3 ?_
  cases H
  exact WP.ireturn d_X8_ruleOf_20 rfl rfl (Nat.le_of_ble_eq_true rfl) (Nat.le_of_ble_eq_true rfl)

set_option maxRecDepth 20000 in
set_option maxHeartbeats 4000000 in
theorem ok_X8_hasLaw (V : EV) {h : HA} {t : Nat} {l1 : Int32} {r : Int32} {hR : HA} (H : X8_hasLaw h t l1 = some (r, hR)) : MG V M_X8_hasLaw [.ref t, .int l1] h (some (.int r)) hR := by
  unfold X8_hasLaw at H
  obtain ⟨_, H⟩ := oc H
  refine MG.of (lv0 := [(0, .ref t), (1, .int l1)]) pn_X8 rfl (Nat.le_of_ble_eq_true rfl) ?_
  refine WP.aload_n d_X8_hasLaw_0 0 rfl ?_
  refine WP.iload_n d_X8_hasLaw_1 1 rfl ?_
  obtain ⟨h1, eh1, H⟩ := ob H
  refine WP.uI d_X8_hasLaw_2 gf_X8_411 rfl (Or.inl rfl) rfl rfl eh1 ?_
  refine WP.aload_n d_X8_hasLaw_5 0 rfl ?_
  refine WP.iconst d_X8_hasLaw_6 ki_2 ?_
  refine WP.iload_n d_X8_hasLaw_7 1 rfl ?_
  obtain ⟨x3, e2, H⟩ := ob H
  refine WP.cV (c := 9) (As := [.int 2, .int l1]) (st := []) (st9 := [.int x3]) (cl9 := 0) (sl9 := 0) d_X8_hasLaw_8 (ok_X8_is V e2) tv_X8_is ti_X8_is ts_X8_is lk_X8_254 r_X8_hasLaw_X8_is kc_X8_is (kd_X8_is e2) rfl rfl (Nat.le_of_ble_eq_true rfl) rfl rfl rfl ?_
  obtain ⟨x4, ex4, H⟩ := ob H
  obtain ⟨rfl, hnx4⟩ := bz_sp ex4
  cases H
  exact WP.ireturn d_X8_hasLaw_11 rfl hnx4 (Nat.le_of_ble_eq_true rfl) (Nat.le_of_ble_eq_true rfl)

set_option maxRecDepth 20000 in
set_option maxHeartbeats 4000000 in
theorem ok_X8_rule (V : EV) {h : HA} {t : Nat} {l1 : Int32} {l2 : Int32} {l3 : Int32} {r : Int32} {hR : HA} (H : X8_rule h t l1 l2 l3 = some (r, hR)) : MG V M_X8_rule [.ref t, .int l1, .int l2, .int l3] h (some (.int r)) hR := by
  unfold X8_rule at H
  obtain ⟨_, H⟩ := oc H
  refine MG.of (lv0 := [(0, .ref t), (1, .int l1), (2, .int l2), (3, .int l3)]) pn_X8 rfl (Nat.le_of_ble_eq_true rfl) ?_
  refine WP.aload_n d_X8_rule_0 0 rfl ?_
  refine WP.iconst d_X8_rule_1 ki_0 ?_
  obtain ⟨h1, eh1, H⟩ := ob H
  refine WP.uI d_X8_rule_2 gf_X8_102 rfl (Or.inl rfl) rfl rfl eh1 ?_
  refine WP.aload_n d_X8_rule_5 0 rfl ?_
  refine WP.iload_n d_X8_rule_6 1 rfl ?_
  obtain ⟨⟨x4, h3⟩, e2, H⟩ := ob H
  refine WP.cV (c := 9) (As := [.int l1]) (st := []) (st9 := [.int x4]) (cl9 := 0) (sl9 := 0) d_X8_rule_7 (ok_X8_hasLaw V e2) tv_X8_hasLaw ti_X8_hasLaw ts_X8_hasLaw lk_X8_414 r_X8_rule_X8_hasLaw kc_X8_hasLaw (kd_X8_hasLaw e2) rfl rfl (Nat.le_of_ble_eq_true rfl) rfl rfl rfl ?_
  rcases oj H with ⟨hc, H⟩ | ⟨hc, H⟩
  · refine WP.if_ne_t d_X8_rule_10 hc ?_
    refine WP.bipush d_X8_rule_13 kb_m2 ?_
    cases H
    exact WP.ireturn d_X8_rule_15 rfl rfl (Nat.le_of_ble_eq_true rfl) (Nat.le_of_ble_eq_true rfl)
  · refine WP.if_ne_f d_X8_rule_10 hc ?_
    refine WP.iload_n d_X8_rule_16 2 rfl ?_
    refine WP.iconst d_X8_rule_17 ki_m1 ?_
    rcases oj H with ⟨hc, H⟩ | ⟨hc, H⟩
    · refine WP.icmp_ne_t d_X8_rule_18 hc ?_
      refine WP.iload_n d_X8_rule_21 3 rfl ?_
      rcases oj H with ⟨hc, H⟩ | ⟨hc, H⟩
      · refine WP.if_ne_t d_X8_rule_22 hc ?_
        refine WP.aload_n d_X8_rule_25 0 rfl ?_
        obtain ⟨x6, e5, H⟩ := ob H
        refine WP.cV (c := 9) (As := []) (st := []) (st9 := [.int x6]) (cl9 := 0) (sl9 := 0) d_X8_rule_26 (ok_X8_rules V e5) tv_X8_rules ti_X8_rules ts_X8_rules lk_X8_417 r_X8_rule_X8_rules kc_X8_rules (kd_X8_rules e5) rfl rfl (Nat.le_of_ble_eq_true rfl) rfl rfl rfl ?_
        refine WP.goto d_X8_rule_29 ?_
        cases H
        exact WP.ireturn d_X8_rule_34 rfl rfl (Nat.le_of_ble_eq_true rfl) (Nat.le_of_ble_eq_true rfl)
      · refine WP.if_ne_f d_X8_rule_22 hc ?_
        refine WP.bipush d_X8_rule_32 kb_m2 ?_
        cases H
        exact WP.ireturn d_X8_rule_34 rfl rfl (Nat.le_of_ble_eq_true rfl) (Nat.le_of_ble_eq_true rfl)
    · refine WP.icmp_ne_f d_X8_rule_18 hc ?_
      refine WP.iload_n d_X8_rule_35 2 rfl ?_
      refine WP.iconst d_X8_rule_36 ki_0 ?_
      refine WP.aload_n d_X8_rule_37 0 rfl ?_
      obtain ⟨x8, e7, H⟩ := ob H
      refine WP.cV (c := 9) (As := []) (st := [.int 0, .int l2]) (st9 := [.int x8, .int 0, .int l2]) (cl9 := 0) (sl9 := 0) d_X8_rule_38 (ok_X8_rules V e7) tv_X8_rules ti_X8_rules ts_X8_rules lk_X8_417 r_X8_rule_X8_rules kc_X8_rules (kd_X8_rules e7) rfl rfl (Nat.le_of_ble_eq_true rfl) rfl rfl rfl ?_
      refine WP.iconst d_X8_rule_41 ki_1 ?_
      refine WP.isub d_X8_rule_42 ?_
      obtain ⟨x10, e9, H⟩ := ob H
      refine WP.cS (As := [.int l2, .int 0, .int (x8 - 1)]) (st := []) (st9 := [.int x10]) (cl9 := 0) (sl9 := 0) d_X8_rule_43 (ok_X8_in V (h := h3) e9) tv_X8_in ts_X8_in lk_X8_114 r_X8_rule_X8_in rfl rfl (Nat.le_of_ble_eq_true rfl) rfl rfl rfl ?_
      rcases oj H with ⟨hc, H⟩ | ⟨hc, H⟩
      · refine WP.if_eq_t d_X8_rule_46 hc ?_
        refine WP.bipush d_X8_rule_67 kb_m2 ?_
        cases H
        exact WP.ireturn d_X8_rule_69 rfl rfl (Nat.le_of_ble_eq_true rfl) (Nat.le_of_ble_eq_true rfl)
      · refine WP.if_eq_f d_X8_rule_46 hc ?_
        refine WP.iload_n d_X8_rule_49 3 rfl ?_
        refine WP.iconst d_X8_rule_50 ki_0 ?_
        refine WP.iconst d_X8_rule_51 ki_2 ?_
        obtain ⟨x12, e11, H⟩ := ob H
        refine WP.cS (As := [.int l3, .int 0, .int 2]) (st := []) (st9 := [.int x12]) (cl9 := 0) (sl9 := 0) d_X8_rule_52 (ok_X8_in V (h := h3) e11) tv_X8_in ts_X8_in lk_X8_114 r_X8_rule_X8_in rfl rfl (Nat.le_of_ble_eq_true rfl) rfl rfl rfl ?_
        rcases oj H with ⟨hc, H⟩ | ⟨hc, H⟩
        · refine WP.if_eq_t d_X8_rule_55 hc ?_
          refine WP.bipush d_X8_rule_67 kb_m2 ?_
          cases H
          exact WP.ireturn d_X8_rule_69 rfl rfl (Nat.le_of_ble_eq_true rfl) (Nat.le_of_ble_eq_true rfl)
        · refine WP.if_eq_f d_X8_rule_55 hc ?_
          refine WP.aload_n d_X8_rule_58 0 rfl ?_
          refine WP.iload_n d_X8_rule_59 2 rfl ?_
          refine WP.iload_n d_X8_rule_60 3 rfl ?_
          obtain ⟨x14, e13, H⟩ := ob H
          refine WP.cV (c := 9) (As := [.int l2, .int l3]) (st := []) (st9 := [.int x14]) (cl9 := 0) (sl9 := 0) d_X8_rule_61 (ok_X8_ruleOf V e13) tv_X8_ruleOf ti_X8_ruleOf ts_X8_ruleOf lk_X8_420 r_X8_rule_X8_ruleOf kc_X8_ruleOf (kd_X8_ruleOf e13) rfl rfl (Nat.le_of_ble_eq_true rfl) rfl rfl rfl ?_
          refine WP.goto d_X8_rule_64 ?_
          cases H
          exact WP.ireturn d_X8_rule_69 rfl rfl (Nat.le_of_ble_eq_true rfl) (Nat.le_of_ble_eq_true rfl)

set_option maxRecDepth 20000 in
set_option maxHeartbeats 4000000 in
theorem okl_X8_ruleBy_L2 (V : EV) {h : HA} {t : Nat} {l1 : Int32} (n : Nat) : ∀ {l2 : Int32} {r : Int32} , (H : X8_ruleBy_L2 h t l1 n l2 = some r) → WP V M_X8_ruleBy 2 [(0, .ref t), (1, .int l1), (2, .int l2)] [] h 0 0 (some (.int r)) h := by
  induction n with
  | zero =>
    intro l2 r H
    rw [X8_ruleBy_L2] at H
    cases H
  | succ n ih =>
    intro l2 r H
    rw [X8_ruleBy_L2] at H
    refine WP.iload_n d_X8_ruleBy_2 2 rfl ?_
    refine WP.aload_n d_X8_ruleBy_3 0 rfl ?_
    obtain ⟨x2, e1, H⟩ := ob H
    refine WP.cV (c := 9) (As := []) (st := [.int l2]) (st9 := [.int x2, .int l2]) (cl9 := 0) (sl9 := 0) d_X8_ruleBy_4 (ok_X8_rules V e1) tv_X8_rules ti_X8_rules ts_X8_rules lk_X8_417 r_X8_ruleBy_X8_rules kc_X8_rules (kd_X8_rules e1) rfl rfl (Nat.le_of_ble_eq_true rfl) rfl rfl rfl ?_
    rcases oj H with ⟨hc, H⟩ | ⟨hc, H⟩
    · refine WP.icmp_ge_t d_X8_ruleBy_7 hc ?_
      refine WP.aload_n d_X8_ruleBy_10 0 rfl ?_
      refine WP.iload_n d_X8_ruleBy_11 2 rfl ?_
      refine WP.iconst d_X8_ruleBy_12 ki_1 ?_
      obtain ⟨x4, e3, H⟩ := ob H
      refine WP.cV (c := 9) (As := [.int l2, .int 1]) (st := []) (st9 := [.int x4]) (cl9 := 0) (sl9 := 0) d_X8_ruleBy_13 (ok_X8_ruleOf V e3) tv_X8_ruleOf ti_X8_ruleOf ts_X8_ruleOf lk_X8_420 r_X8_ruleBy_X8_ruleOf kc_X8_ruleOf (kd_X8_ruleOf e3) rfl rfl (Nat.le_of_ble_eq_true rfl) rfl rfl rfl ?_
      refine WP.iconst d_X8_ruleBy_16 ki_m1 ?_
      obtain ⟨j5, hs6, H⟩ := ob H
      have J7 : WP V M_X8_ruleBy 38 [(0, .ref t), (1, .int l1), (2, .int l2)] [.int j5] h 0 0 (some (.int r)) h := by
        refine WP.istore_n (lv9 := [(3, .int j5), (0, .ref t), (1, .int l1), (2, .int l2)]) d_X8_ruleBy_38 (Nat.le_of_ble_eq_true rfl) rfl ?_
        refine WP.iload_n d_X8_ruleBy_39 0 rfl ?_
        rcases oj H with ⟨hc, H⟩ | ⟨hc, H⟩
        · refine WP.if_eq_t d_X8_ruleBy_40 hc ?_
          refine WP.iinc (lv9 := [(2, .int (l2 + 1)), (3, .int j5), (0, .ref t), (1, .int l1)]) d_X8_ruleBy_68 3 rfl ki_1 (Nat.le_of_ble_eq_true rfl) rfl ?_
          refine WP.goto d_X8_ruleBy_71 ?_
          refine WP.sub [2, 3, 0] (lv' := [(0, .ref t), (1, .int l1), (2, .int (l2 + 1))]) rfl ?_
          exact ih H
        · refine WP.if_eq_f d_X8_ruleBy_40 hc ?_
          refine WP.aload_n d_X8_ruleBy_43 1 rfl ?_
          refine WP.iload_n d_X8_ruleBy_44 3 rfl ?_
          refine WP.iconst d_X8_ruleBy_45 ki_2 ?_
          obtain ⟨x13, e12, H⟩ := ob H
          refine WP.cV (c := 9) (As := [.int l2, .int 2]) (st := []) (st9 := [.int x13]) (cl9 := 0) (sl9 := 0) d_X8_ruleBy_46 (ok_X8_ruleOf V e12) tv_X8_ruleOf ti_X8_ruleOf ts_X8_ruleOf lk_X8_420 r_X8_ruleBy_X8_ruleOf kc_X8_ruleOf (kd_X8_ruleOf e12) rfl rfl (Nat.le_of_ble_eq_true rfl) rfl rfl rfl ?_
          refine WP.iconst d_X8_ruleBy_49 ki_m1 ?_
          rcases oj H with ⟨hc, H⟩ | ⟨hc, H⟩
          · refine WP.icmp_eq_t d_X8_ruleBy_50 hc ?_
            refine WP.iload_n d_X8_ruleBy_66 3 rfl ?_
            cases H
            exact WP.ireturn d_X8_ruleBy_67 rfl rfl (Nat.le_of_ble_eq_true rfl) (Nat.le_of_ble_eq_true rfl)
          · refine WP.icmp_eq_f d_X8_ruleBy_50 hc ?_
            refine WP.iload_n d_X8_ruleBy_53 2 rfl ?_
            refine WP.aload_n d_X8_ruleBy_54 1 rfl ?_
            refine WP.iload_n d_X8_ruleBy_55 3 rfl ?_
            refine WP.iconst d_X8_ruleBy_56 ki_2 ?_
            obtain ⟨x15, e14, H⟩ := ob H
            refine WP.cV (c := 9) (As := [.int l2, .int 2]) (st := [.int l1]) (st9 := [.int x15, .int l1]) (cl9 := 0) (sl9 := 0) d_X8_ruleBy_57 (ok_X8_ruleOf V e14) tv_X8_ruleOf ti_X8_ruleOf ts_X8_ruleOf lk_X8_420 r_X8_ruleBy_X8_ruleOf kc_X8_ruleOf (kd_X8_ruleOf e14) rfl rfl (Nat.le_of_ble_eq_true rfl) rfl rfl rfl ?_
            obtain ⟨x17, e16, H⟩ := ob H
            refine WP.cS (As := [.int l1, .int x15]) (st := []) (st9 := [.int x17]) (cl9 := 0) (sl9 := 0) d_X8_ruleBy_60 (ok_X8_has V (h := h) e16) tv_X8_has ts_X8_has lk_X8_106 r_X8_ruleBy_X8_has rfl rfl (Nat.le_of_ble_eq_true rfl) rfl rfl rfl ?_
            rcases oj H with ⟨hc, H⟩ | ⟨hc, H⟩
            · refine WP.if_ne_t d_X8_ruleBy_63 hc ?_
              refine WP.iload_n d_X8_ruleBy_66 3 rfl ?_
              cases H
              exact WP.ireturn d_X8_ruleBy_67 rfl rfl (Nat.le_of_ble_eq_true rfl) (Nat.le_of_ble_eq_true rfl)
            · refine WP.if_ne_f d_X8_ruleBy_63 hc ?_
              refine WP.iinc (lv9 := [(2, .int (l2 + 1)), (3, .int j5), (0, .ref t), (1, .int l1)]) d_X8_ruleBy_68 3 rfl ki_1 (Nat.le_of_ble_eq_true rfl) rfl ?_
              refine WP.goto d_X8_ruleBy_71 ?_
              refine WP.sub [2, 3, 0] (lv' := [(0, .ref t), (1, .int l1), (2, .int (l2 + 1))]) rfl ?_
              exact ih H
      rcases oj hs6 with ⟨hc, hs6⟩ | ⟨hc, hs6⟩
      · refine WP.icmp_eq_t d_X8_ruleBy_17 hc ?_
        refine WP.iconst d_X8_ruleBy_33 ki_1 ?_
        refine WP.goto d_X8_ruleBy_34 ?_
        cases hs6
        exact WP.sub [0, 1, 2] rfl J7
      · refine WP.icmp_eq_f d_X8_ruleBy_17 hc ?_
        refine WP.iload_n d_X8_ruleBy_20 1 rfl ?_
        refine WP.aload_n d_X8_ruleBy_21 0 rfl ?_
        refine WP.iload_n d_X8_ruleBy_22 2 rfl ?_
        refine WP.iconst d_X8_ruleBy_23 ki_1 ?_
        obtain ⟨x9, e8, hs6⟩ := ob hs6
        refine WP.cV (c := 9) (As := [.int l2, .int 1]) (st := [.int l1]) (st9 := [.int x9, .int l1]) (cl9 := 0) (sl9 := 0) d_X8_ruleBy_24 (ok_X8_ruleOf V e8) tv_X8_ruleOf ti_X8_ruleOf ts_X8_ruleOf lk_X8_420 r_X8_ruleBy_X8_ruleOf kc_X8_ruleOf (kd_X8_ruleOf e8) rfl rfl (Nat.le_of_ble_eq_true rfl) rfl rfl rfl ?_
        obtain ⟨x11, e10, hs6⟩ := ob hs6
        refine WP.cS (As := [.int l1, .int x9]) (st := []) (st9 := [.int x11]) (cl9 := 0) (sl9 := 0) d_X8_ruleBy_27 (ok_X8_has V (h := h) e10) tv_X8_has ts_X8_has lk_X8_106 r_X8_ruleBy_X8_has rfl rfl (Nat.le_of_ble_eq_true rfl) rfl rfl rfl ?_
        rcases oj hs6 with ⟨hc, hs6⟩ | ⟨hc, hs6⟩
        · refine WP.if_eq_t d_X8_ruleBy_30 hc ?_
          refine WP.iconst d_X8_ruleBy_37 ki_0 ?_
          cases hs6
          exact WP.sub [0, 1, 2] rfl J7
        · refine WP.if_eq_f d_X8_ruleBy_30 hc ?_
          refine WP.iconst d_X8_ruleBy_33 ki_1 ?_
          refine WP.goto d_X8_ruleBy_34 ?_
          cases hs6
          exact WP.sub [0, 1, 2] rfl J7
    · refine WP.icmp_ge_f d_X8_ruleBy_7 hc ?_
      refine WP.iconst d_X8_ruleBy_74 ki_m1 ?_
      cases H
      exact WP.ireturn d_X8_ruleBy_75 rfl rfl (Nat.le_of_ble_eq_true rfl) (Nat.le_of_ble_eq_true rfl)

set_option maxRecDepth 20000 in
set_option maxHeartbeats 4000000 in
theorem ok_X8_ruleBy (V : EV) {h : HA} {t : Nat} {l1 : Int32} {r : Int32} (H : X8_ruleBy h t l1 = some r) : MG V M_X8_ruleBy [.ref t, .int l1] h (some (.int r)) h := by
  unfold X8_ruleBy at H
  obtain ⟨_, H⟩ := oc H
  refine MG.of (lv0 := [(0, .ref t), (1, .int l1)]) pn_X8 rfl (Nat.le_of_ble_eq_true rfl) ?_
  refine WP.iconst d_X8_ruleBy_0 ki_0 ?_
  refine WP.istore_n (lv9 := [(2, .int 0), (0, .ref t), (1, .int l1)]) d_X8_ruleBy_1 (Nat.le_of_ble_eq_true rfl) rfl ?_
  refine WP.sub [1, 2, 0] (lv' := [(0, .ref t), (1, .int l1), (2, .int 0)]) rfl ?_
  exact okl_X8_ruleBy_L2 V _ H

set_option maxRecDepth 20000 in
set_option maxHeartbeats 4000000 in
theorem ok_X8_voteBy (V : EV) {h : HA} {t : Nat} {l1 : Int32} {r : Int32} (H : X8_voteBy h t l1 = some r) : MG V M_X8_voteBy [.ref t, .int l1] h (some (.int r)) h := by
  unfold X8_voteBy at H
  obtain ⟨_, H⟩ := oc H
  refine MG.of (lv0 := [(0, .ref t), (1, .int l1)]) pn_X8 rfl (Nat.le_of_ble_eq_true rfl) ?_
  refine WP.aload_n d_X8_voteBy_0 0 rfl ?_
  refine WP.iload_n d_X8_voteBy_1 1 rfl ?_
  obtain ⟨x2, e1, H⟩ := ob H
  refine WP.cV (c := 9) (As := [.int l1]) (st := []) (st9 := [.int x2]) (cl9 := 0) (sl9 := 0) d_X8_voteBy_2 (ok_X8_ruleBy V e1) tv_X8_ruleBy ti_X8_ruleBy ts_X8_ruleBy lk_X8_423 r_X8_voteBy_X8_ruleBy kc_X8_ruleBy (kd_X8_ruleBy e1) rfl rfl (Nat.le_of_ble_eq_true rfl) rfl rfl rfl ?_
  refine WP.istore_n (lv9 := [(2, .int x2), (0, .ref t), (1, .int l1)]) d_X8_voteBy_5 (Nat.le_of_ble_eq_true rfl) rfl ?_
  refine WP.iload_n d_X8_voteBy_6 0 rfl ?_
  refine WP.iconst d_X8_voteBy_7 ki_m1 ?_
  rcases oj H with ⟨hc, H⟩ | ⟨hc, H⟩
  · refine WP.icmp_ne_t d_X8_voteBy_8 hc ?_
    refine WP.iconst d_X8_voteBy_11 ki_m1 ?_
    refine WP.goto d_X8_voteBy_12 ?_
    cases H
    exact WP.ireturn d_X8_voteBy_21 rfl rfl (Nat.le_of_ble_eq_true rfl) (Nat.le_of_ble_eq_true rfl)
  · refine WP.icmp_ne_f d_X8_voteBy_8 hc ?_
    refine WP.aload_n d_X8_voteBy_15 1 rfl ?_
    refine WP.iload_n d_X8_voteBy_16 0 rfl ?_
    refine WP.iconst d_X8_voteBy_17 ki_0 ?_
    obtain ⟨x4, e3, H⟩ := ob H
    refine WP.cV (c := 9) (As := [.int x2, .int 0]) (st := []) (st9 := [.int x4]) (cl9 := 0) (sl9 := 0) d_X8_voteBy_18 (ok_X8_ruleOf V e3) tv_X8_ruleOf ti_X8_ruleOf ts_X8_ruleOf lk_X8_420 r_X8_voteBy_X8_ruleOf kc_X8_ruleOf (kd_X8_ruleOf e3) rfl rfl (Nat.le_of_ble_eq_true rfl) rfl rfl rfl ?_
    cases H
    exact WP.ireturn d_X8_voteBy_21 rfl rfl (Nat.le_of_ble_eq_true rfl) (Nat.le_of_ble_eq_true rfl)

set_option maxRecDepth 20000 in
set_option maxHeartbeats 4000000 in
theorem okl_X8_findVotes_L2 (V : EV) {vF : Option Value} {hF : HA} {t : Nat} (n : Nat) : ∀ {h : HA} {l1 : Int32} {hR : HA}, (H : X8_findVotes_L2 t n h l1 = some hR) → (K : WP V M_X8_findVotes 31 [] [] hR 0 0 vF hF) → WP V M_X8_findVotes 2 [(0, .ref t), (1, .int l1)] [] h 0 0 vF hF := by
  induction n with
  | zero =>
    intro h l1 hR H K
    rw [X8_findVotes_L2] at H
    cases H
  | succ n ih =>
    intro h l1 hR H K
    rw [X8_findVotes_L2] at H
    refine WP.iload_n d_X8_findVotes_2 1 rfl ?_
    refine WP.aload_n d_X8_findVotes_3 0 rfl ?_
    obtain ⟨x1, ex1, H⟩ := ob H
    refine WP.fI d_X8_findVotes_4 gf_X8_280 (fun _ => rfl) ex1 ?_
    rcases oj H with ⟨hc, H⟩ | ⟨hc, H⟩
    · refine WP.icmp_ge_t d_X8_findVotes_7 hc ?_
      refine WP.aload_n d_X8_findVotes_10 0 rfl ?_
      obtain ⟨x2, ex2, H⟩ := ob H
      refine WP.fR d_X8_findVotes_11 gf_X8_86 (fun _ => rfl) ex2 ?_
      refine WP.iload_n d_X8_findVotes_14 1 rfl ?_
      refine WP.aload_n d_X8_findVotes_15 0 rfl ?_
      refine WP.aload_n d_X8_findVotes_16 0 rfl ?_
      refine WP.iload_n d_X8_findVotes_17 1 rfl ?_
      obtain ⟨x4, e3, H⟩ := ob H
      refine WP.cV (c := 9) (As := [.int l1]) (st := [.ref t, .int l1, .ref x2]) (st9 := [.int x4, .ref t, .int l1, .ref x2]) (cl9 := 0) (sl9 := 0) d_X8_findVotes_18 (ok_X8_known V e3) tv_X8_known ti_X8_known ts_X8_known lk_X8_402 r_X8_findVotes_X8_known kc_X8_known (kd_X8_known e3) rfl rfl (Nat.le_of_ble_eq_true rfl) rfl rfl rfl ?_
      obtain ⟨x6, e5, H⟩ := ob H
      refine WP.cV (c := 9) (As := [.int x4]) (st := [.int l1, .ref x2]) (st9 := [.int x6, .int l1, .ref x2]) (cl9 := 0) (sl9 := 0) d_X8_findVotes_21 (ok_X8_voteBy V e5) tv_X8_voteBy ti_X8_voteBy ts_X8_voteBy lk_X8_426 r_X8_findVotes_X8_voteBy kc_X8_voteBy (kd_X8_voteBy e5) rfl rfl (Nat.le_of_ble_eq_true rfl) rfl rfl rfl ?_
      obtain ⟨h7, eh7, H⟩ := ob H
      refine WP.ias d_X8_findVotes_24 eh7 ?_
      refine WP.iinc (lv9 := [(1, .int (l1 + 1)), (0, .ref t)]) d_X8_findVotes_25 1 rfl ki_1 (Nat.le_of_ble_eq_true rfl) rfl ?_
      refine WP.goto d_X8_findVotes_28 ?_
      refine WP.sub [1, 0] (lv' := [(0, .ref t), (1, .int (l1 + 1))]) rfl ?_
      exact ih H K
    · refine WP.icmp_ge_f d_X8_findVotes_7 hc ?_
      cases H
      exact WP.sub [] rfl K

set_option maxRecDepth 20000 in
set_option maxHeartbeats 4000000 in
theorem ok_X8_findVotes (V : EV) {h : HA} {t : Nat} {hR : HA} (H : X8_findVotes h t = some hR) : MG V M_X8_findVotes [.ref t] h none hR := by
  unfold X8_findVotes at H
  obtain ⟨_, H⟩ := oc H
  refine MG.of (lv0 := [(0, .ref t)]) pn_X8 rfl (Nat.le_of_ble_eq_true rfl) ?_
  refine WP.iconst d_X8_findVotes_0 ki_0 ?_
  refine WP.istore_n (lv9 := [(1, .int 0), (0, .ref t)]) d_X8_findVotes_1 (Nat.le_of_ble_eq_true rfl) rfl ?_
  obtain ⟨h9, e8, H⟩ := ob H
  refine WP.sub [1, 0] (lv' := [(0, .ref t), (1, .int 0)]) rfl ?_
  refine okl_X8_findVotes_L2 V _ e8 ?_
  cases H
  exact WP.return_ d_X8_findVotes_31 rfl (Nat.le_of_ble_eq_true rfl) (Nat.le_of_ble_eq_true rfl)

set_option maxRecDepth 20000 in
set_option maxHeartbeats 4000000 in
theorem okl_X8_verdict_L4 (V : EV) {vF : Option Value} {hF : HA} {h : HA} {t : Nat} (n : Nat) : ∀ {l1 : Int32} {l2 : Int32} {r1 : Int32}, (H : X8_verdict_L4 h t n l1 l2 = some r1) → (K : WP V M_X8_verdict 50 [(1, .int r1)] [] h 0 0 vF hF) → WP V M_X8_verdict 4 [(0, .ref t), (1, .int l1), (2, .int l2)] [] h 0 0 vF hF := by
  induction n with
  | zero =>
    intro l1 l2 r1 H K
    rw [X8_verdict_L4] at H
    cases H
  | succ n ih =>
    intro l1 l2 r1 H K
    rw [X8_verdict_L4] at H
    refine WP.iload_n d_X8_verdict_4 2 rfl ?_
    refine WP.aload_n d_X8_verdict_5 0 rfl ?_
    obtain ⟨x1, ex1, H⟩ := ob H
    refine WP.fI d_X8_verdict_6 gf_X8_280 (fun _ => rfl) ex1 ?_
    rcases oj H with ⟨hc, H⟩ | ⟨hc, H⟩
    · refine WP.icmp_ge_t d_X8_verdict_9 hc ?_
      refine WP.iload_n d_X8_verdict_12 1 rfl ?_
      refine WP.aload_n d_X8_verdict_13 0 rfl ?_
      obtain ⟨x2, ex2, H⟩ := ob H
      refine WP.fR d_X8_verdict_14 gf_X8_86 (fun _ => rfl) ex2 ?_
      refine WP.iload_n d_X8_verdict_17 2 rfl ?_
      obtain ⟨x3, ex3, H⟩ := ob H
      refine WP.iald d_X8_verdict_18 ex3 ?_
      refine WP.iconst d_X8_verdict_19 ki_m1 ?_
      rcases oj H with ⟨hc, H⟩ | ⟨hc, H⟩
      · refine WP.icmp_ne_t d_X8_verdict_20 hc ?_
        refine WP.iconst d_X8_verdict_23 ki_0 ?_
        refine WP.goto d_X8_verdict_24 ?_
        refine WP.iadd d_X8_verdict_42 ?_
        refine WP.istore_n (lv9 := [(1, .int (l1 + 0)), (0, .ref t), (2, .int l2)]) d_X8_verdict_43 (Nat.le_of_ble_eq_true rfl) rfl ?_
        refine WP.iinc (lv9 := [(2, .int (l2 + 1)), (1, .int (l1 + 0)), (0, .ref t)]) d_X8_verdict_44 2 rfl ki_1 (Nat.le_of_ble_eq_true rfl) rfl ?_
        refine WP.goto d_X8_verdict_47 ?_
        refine WP.sub [2, 1, 0] (lv' := [(0, .ref t), (1, .int (l1 + 0)), (2, .int (l2 + 1))]) rfl ?_
        exact ih H K
      · refine WP.icmp_ne_f d_X8_verdict_20 hc ?_
        refine WP.aload_n d_X8_verdict_27 0 rfl ?_
        obtain ⟨x4, ex4, H⟩ := ob H
        refine WP.fR d_X8_verdict_28 gf_X8_86 (fun _ => rfl) ex4 ?_
        refine WP.iload_n d_X8_verdict_31 2 rfl ?_
        obtain ⟨x5, ex5, H⟩ := ob H
        refine WP.iald d_X8_verdict_32 ex5 ?_
        refine WP.iconst d_X8_verdict_33 ki_1 ?_
        rcases oj H with ⟨hc, H⟩ | ⟨hc, H⟩
        · refine WP.icmp_ne_t d_X8_verdict_34 hc ?_
          refine WP.iconst d_X8_verdict_37 ki_1 ?_
          refine WP.goto d_X8_verdict_38 ?_
          refine WP.iadd d_X8_verdict_42 ?_
          refine WP.istore_n (lv9 := [(1, .int (l1 + 1)), (0, .ref t), (2, .int l2)]) d_X8_verdict_43 (Nat.le_of_ble_eq_true rfl) rfl ?_
          refine WP.iinc (lv9 := [(2, .int (l2 + 1)), (1, .int (l1 + 1)), (0, .ref t)]) d_X8_verdict_44 2 rfl ki_1 (Nat.le_of_ble_eq_true rfl) rfl ?_
          refine WP.goto d_X8_verdict_47 ?_
          refine WP.sub [2, 1, 0] (lv' := [(0, .ref t), (1, .int (l1 + 1)), (2, .int (l2 + 1))]) rfl ?_
          exact ih H K
        · refine WP.icmp_ne_f d_X8_verdict_34 hc ?_
          refine WP.iconst d_X8_verdict_41 ki_m1 ?_
          refine WP.iadd d_X8_verdict_42 ?_
          refine WP.istore_n (lv9 := [(1, .int (l1 + (-1))), (0, .ref t), (2, .int l2)]) d_X8_verdict_43 (Nat.le_of_ble_eq_true rfl) rfl ?_
          refine WP.iinc (lv9 := [(2, .int (l2 + 1)), (1, .int (l1 + (-1))), (0, .ref t)]) d_X8_verdict_44 2 rfl ki_1 (Nat.le_of_ble_eq_true rfl) rfl ?_
          refine WP.goto d_X8_verdict_47 ?_
          refine WP.sub [2, 1, 0] (lv' := [(0, .ref t), (1, .int (l1 + (-1))), (2, .int (l2 + 1))]) rfl ?_
          exact ih H K
    · refine WP.icmp_ge_f d_X8_verdict_9 hc ?_
      cases H
      exact WP.sub [1] rfl K

set_option maxRecDepth 20000 in
set_option maxHeartbeats 4000000 in
theorem ok_X8_verdict (V : EV) {h : HA} {t : Nat} {r : Int32} (H : X8_verdict h t = some r) : MG V M_X8_verdict [.ref t] h (some (.int r)) h := by
  unfold X8_verdict at H
  obtain ⟨_, H⟩ := oc H
  refine MG.of (lv0 := [(0, .ref t)]) pn_X8 rfl (Nat.le_of_ble_eq_true rfl) ?_
  refine WP.iconst d_X8_verdict_0 ki_0 ?_
  refine WP.istore_n (lv9 := [(1, .int 0), (0, .ref t)]) d_X8_verdict_1 (Nat.le_of_ble_eq_true rfl) rfl ?_
  refine WP.iconst d_X8_verdict_2 ki_0 ?_
  refine WP.istore_n (lv9 := [(2, .int 0), (1, .int 0), (0, .ref t)]) d_X8_verdict_3 (Nat.le_of_ble_eq_true rfl) rfl ?_
  obtain ⟨y7, e6, H⟩ := ob H
  refine WP.sub [2, 1, 0] (lv' := [(0, .ref t), (1, .int 0), (2, .int 0)]) rfl ?_
  refine okl_X8_verdict_L4 V _ e6 ?_
  refine WP.iload_n d_X8_verdict_50 0 rfl ?_
  rcases oj H with ⟨hc, H⟩ | ⟨hc, H⟩
  · refine WP.if_le_t d_X8_verdict_51 hc ?_
    refine WP.iconst d_X8_verdict_54 ki_1 ?_
    refine WP.goto d_X8_verdict_55 ?_
    cases H
    exact WP.ireturn d_X8_verdict_67 rfl rfl (Nat.le_of_ble_eq_true rfl) (Nat.le_of_ble_eq_true rfl)
  · refine WP.if_le_f d_X8_verdict_51 hc ?_
    refine WP.iload_n d_X8_verdict_58 0 rfl ?_
    rcases oj H with ⟨hc, H⟩ | ⟨hc, H⟩
    · refine WP.if_ge_t d_X8_verdict_59 hc ?_
      refine WP.iconst d_X8_verdict_62 ki_0 ?_
      refine WP.goto d_X8_verdict_63 ?_
      cases H
      exact WP.ireturn d_X8_verdict_67 rfl rfl (Nat.le_of_ble_eq_true rfl) (Nat.le_of_ble_eq_true rfl)
    · refine WP.if_ge_f d_X8_verdict_59 hc ?_
      refine WP.iconst d_X8_verdict_66 ki_m1 ?_
      cases H
      exact WP.ireturn d_X8_verdict_67 rfl rfl (Nat.le_of_ble_eq_true rfl) (Nat.le_of_ble_eq_true rfl)

set_option maxRecDepth 20000 in
set_option maxHeartbeats 4000000 in
theorem ok_X8_layVotes (V : EV) {h : HA} {t : Nat} {l1 : Int32} {l2 : Int32} {l3 : Int32} {r : Int32} {hR : HA} (H : X8_layVotes h t l1 l2 l3 = some (r, hR)) : MG V M_X8_layVotes [.ref t, .int l1, .int l2, .int l3] h (some (.int r)) hR := by
  unfold X8_layVotes at H
  obtain ⟨_, H⟩ := oc H
  refine MG.of (lv0 := [(0, .ref t), (1, .int l1), (2, .int l2), (3, .int l3)]) pn_X8 rfl (Nat.le_of_ble_eq_true rfl) ?_
  refine WP.aload_n d_X8_layVotes_0 0 rfl ?_
  refine WP.iload_n d_X8_layVotes_1 3 rfl ?_
  obtain ⟨⟨x3, h2⟩, e1, H⟩ := ob H
  refine WP.cV (c := 9) (As := [.int l3]) (st := []) (st9 := [.int x3]) (cl9 := 0) (sl9 := 0) d_X8_layVotes_2 (ok_X8_hasLaw V e1) tv_X8_hasLaw ti_X8_hasLaw ts_X8_hasLaw lk_X8_414 r_X8_layVotes_X8_hasLaw kc_X8_hasLaw (kd_X8_hasLaw e1) rfl rfl (Nat.le_of_ble_eq_true rfl) rfl rfl rfl ?_
  rcases oj H with ⟨hc, H⟩ | ⟨hc, H⟩
  · refine WP.if_eq_t d_X8_layVotes_5 hc ?_
    refine WP.iconst d_X8_layVotes_17 ki_0 ?_
    cases H
    exact WP.ireturn d_X8_layVotes_18 rfl rfl (Nat.le_of_ble_eq_true rfl) (Nat.le_of_ble_eq_true rfl)
  · refine WP.if_eq_f d_X8_layVotes_5 hc ?_
    refine WP.aload_n d_X8_layVotes_8 0 rfl ?_
    refine WP.iload_n d_X8_layVotes_9 1 rfl ?_
    refine WP.iload_n d_X8_layVotes_10 2 rfl ?_
    obtain ⟨⟨x6, h5⟩, e4, H⟩ := ob H
    refine WP.cV (c := 9) (As := [.int l1, .int l2]) (st := []) (st9 := [.int x6]) (cl9 := 0) (sl9 := 0) d_X8_layVotes_11 (ok_X8_layTrial V e4) tv_X8_layTrial ti_X8_layTrial ts_X8_layTrial lk_X8_385 r_X8_layVotes_X8_layTrial kc_X8_layTrial (kd_X8_layTrial e4) rfl rfl (Nat.le_of_ble_eq_true rfl) rfl rfl rfl ?_
    rcases oj H with ⟨hc, H⟩ | ⟨hc, H⟩
    · refine WP.if_ne_t d_X8_layVotes_14 hc ?_
      refine WP.iconst d_X8_layVotes_17 ki_0 ?_
      cases H
      exact WP.ireturn d_X8_layVotes_18 rfl rfl (Nat.le_of_ble_eq_true rfl) (Nat.le_of_ble_eq_true rfl)
    · refine WP.if_ne_f d_X8_layVotes_14 hc ?_
      refine WP.aload_n d_X8_layVotes_19 0 rfl ?_
      obtain ⟨h8, e7, H⟩ := ob H
      refine WP.cV (c := 9) (As := []) (st := []) (st9 := []) (cl9 := 0) (sl9 := 0) d_X8_layVotes_20 (ok_X8_findVotes V e7) tv_X8_findVotes ti_X8_findVotes ts_X8_findVotes lk_X8_429 r_X8_layVotes_X8_findVotes kc_X8_findVotes (kd_X8_findVotes e7) rfl rfl (Nat.le_of_ble_eq_true rfl) rfl rfl rfl ?_
      refine WP.iconst d_X8_layVotes_23 ki_1 ?_
      cases H
      exact WP.ireturn d_X8_layVotes_24 rfl rfl (Nat.le_of_ble_eq_true rfl) (Nat.le_of_ble_eq_true rfl)

set_option maxRecDepth 20000 in
set_option maxHeartbeats 4000000 in
theorem ok_X8_votes (V : EV) {h : HA} {t : Nat} {l1 : Int32} {l2 : Int32} {l3 : Int32} {l4 : Int32} {r : Int32} {hR : HA} (H : X8_votes h t l1 l2 l3 l4 = some (r, hR)) : MG V M_X8_votes [.ref t, .int l1, .int l2, .int l3, .int l4] h (some (.int r)) hR := by
  unfold X8_votes at H
  obtain ⟨_, H⟩ := oc H
  refine MG.of (lv0 := [(0, .ref t), (1, .int l1), (2, .int l2), (3, .int l3), (4, .int l4)]) pn_X8 rfl (Nat.le_of_ble_eq_true rfl) ?_
  refine WP.aload_n d_X8_votes_0 0 rfl ?_
  refine WP.iconst d_X8_votes_1 ki_0 ?_
  obtain ⟨h1, eh1, H⟩ := ob H
  refine WP.uI d_X8_votes_2 gf_X8_102 rfl (Or.inl rfl) rfl rfl eh1 ?_
  refine WP.aload_n d_X8_votes_5 0 rfl ?_
  refine WP.iload_n d_X8_votes_6 1 rfl ?_
  refine WP.iload_n d_X8_votes_7 2 rfl ?_
  refine WP.iload_n d_X8_votes_8 3 rfl ?_
  obtain ⟨⟨x4, h3⟩, e2, H⟩ := ob H
  refine WP.cV (c := 9) (As := [.int l1, .int l2, .int l3]) (st := []) (st9 := [.int x4]) (cl9 := 0) (sl9 := 0) d_X8_votes_9 (ok_X8_layVotes V e2) tv_X8_layVotes ti_X8_layVotes ts_X8_layVotes lk_X8_432 r_X8_votes_X8_layVotes kc_X8_layVotes (kd_X8_layVotes e2) rfl rfl (Nat.le_of_ble_eq_true rfl) rfl rfl rfl ?_
  rcases oj H with ⟨hc, H⟩ | ⟨hc, H⟩
  · refine WP.if_eq_t d_X8_votes_12 hc ?_
    refine WP.bipush d_X8_votes_30 kb_m2 ?_
    cases H
    exact WP.ireturn d_X8_votes_32 rfl rfl (Nat.le_of_ble_eq_true rfl) (Nat.le_of_ble_eq_true rfl)
  · refine WP.if_eq_f d_X8_votes_12 hc ?_
    refine WP.iload d_X8_votes_15 4 rfl ?_
    refine WP.iconst d_X8_votes_17 ki_m1 ?_
    refine WP.aload_n d_X8_votes_18 0 rfl ?_
    obtain ⟨x5, ex5, H⟩ := ob H
    refine WP.fI d_X8_votes_19 gf_X8_280 (fun _ => rfl) ex5 ?_
    refine WP.iconst d_X8_votes_22 ki_1 ?_
    refine WP.isub d_X8_votes_23 ?_
    obtain ⟨x7, e6, H⟩ := ob H
    refine WP.cS (As := [.int l4, .int (-1), .int (x5 - 1)]) (st := []) (st9 := [.int x7]) (cl9 := 0) (sl9 := 0) d_X8_votes_24 (ok_X8_in V (h := h3) e6) tv_X8_in ts_X8_in lk_X8_114 r_X8_votes_X8_in rfl rfl (Nat.le_of_ble_eq_true rfl) rfl rfl rfl ?_
    rcases oj H with ⟨hc, H⟩ | ⟨hc, H⟩
    · refine WP.if_ne_t d_X8_votes_27 hc ?_
      refine WP.bipush d_X8_votes_30 kb_m2 ?_
      cases H
      exact WP.ireturn d_X8_votes_32 rfl rfl (Nat.le_of_ble_eq_true rfl) (Nat.le_of_ble_eq_true rfl)
    · refine WP.if_ne_f d_X8_votes_27 hc ?_
      refine WP.iload d_X8_votes_33 4 rfl ?_
      refine WP.iconst d_X8_votes_35 ki_m1 ?_
      rcases oj H with ⟨hc, H⟩ | ⟨hc, H⟩
      · refine WP.icmp_ne_t d_X8_votes_36 hc ?_
        refine WP.aload_n d_X8_votes_39 0 rfl ?_
        obtain ⟨x9, e8, H⟩ := ob H
        refine WP.cV (c := 9) (As := []) (st := []) (st9 := [.int x9]) (cl9 := 0) (sl9 := 0) d_X8_votes_40 (ok_X8_verdict V e8) tv_X8_verdict ti_X8_verdict ts_X8_verdict lk_X8_435 r_X8_votes_X8_verdict kc_X8_verdict (kd_X8_verdict e8) rfl rfl (Nat.le_of_ble_eq_true rfl) rfl rfl rfl ?_
        refine WP.goto d_X8_votes_43 ?_
        cases H
        exact WP.ireturn d_X8_votes_53 rfl rfl (Nat.le_of_ble_eq_true rfl) (Nat.le_of_ble_eq_true rfl)
      · refine WP.icmp_ne_f d_X8_votes_36 hc ?_
        refine WP.aload_n d_X8_votes_46 0 rfl ?_
        obtain ⟨x10, ex10, H⟩ := ob H
        refine WP.fR d_X8_votes_47 gf_X8_86 (fun _ => rfl) ex10 ?_
        refine WP.iload d_X8_votes_50 4 rfl ?_
        obtain ⟨x11, ex11, H⟩ := ob H
        refine WP.iald d_X8_votes_52 ex11 ?_
        cases H
        exact WP.ireturn d_X8_votes_53 rfl rfl (Nat.le_of_ble_eq_true rfl) (Nat.le_of_ble_eq_true rfl)

set_option maxRecDepth 20000 in
set_option maxHeartbeats 4000000 in
theorem ok_X8_otherEars (V : EV) {h : HA} {t : Nat} {l1 : Int32} {r : Int32} (H : X8_otherEars h t l1 = some r) : MG V M_X8_otherEars [.ref t, .int l1] h (some (.int r)) h := by
  unfold X8_otherEars at H
  obtain ⟨_, H⟩ := oc H
  refine MG.of (lv0 := [(0, .ref t), (1, .int l1)]) pn_X8 rfl (Nat.le_of_ble_eq_true rfl) ?_
  refine WP.iconst d_X8_otherEars_0 ki_1 ?_
  refine WP.aload_n d_X8_otherEars_1 0 rfl ?_
  refine WP.iload_n d_X8_otherEars_2 1 rfl ?_
  refine WP.iconst d_X8_otherEars_3 ki_2 ?_
  obtain ⟨x2, e1, H⟩ := ob H
  refine WP.cV (c := 9) (As := [.int l1, .int 2]) (st := [.int 1]) (st9 := [.int x2, .int 1]) (cl9 := 0) (sl9 := 0) d_X8_otherEars_4 (ok_X8_judgeOf V e1) tv_X8_judgeOf ti_X8_judgeOf ts_X8_judgeOf lk_X8_307 r_X8_otherEars_X8_judgeOf kc_X8_judgeOf (kd_X8_judgeOf e1) rfl rfl (Nat.le_of_ble_eq_true rfl) rfl rfl rfl ?_
  rcases oj H with ⟨hc, H⟩ | ⟨hc, H⟩
  · refine WP.if_ne_t d_X8_otherEars_7 hc ?_
    refine WP.iconst d_X8_otherEars_10 ki_2 ?_
    refine WP.goto d_X8_otherEars_11 ?_
    refine WP.ior d_X8_otherEars_16 ?_
    cases H
    exact WP.ireturn d_X8_otherEars_17 rfl rfl (Nat.le_of_ble_eq_true rfl) (Nat.le_of_ble_eq_true rfl)
  · refine WP.if_ne_f d_X8_otherEars_7 hc ?_
    refine WP.bipush d_X8_otherEars_14 kb_8 ?_
    refine WP.ior d_X8_otherEars_16 ?_
    cases H
    exact WP.ireturn d_X8_otherEars_17 rfl rfl (Nat.le_of_ble_eq_true rfl) (Nat.le_of_ble_eq_true rfl)

set_option maxRecDepth 20000 in
set_option maxHeartbeats 4000000 in
theorem okl_X8_sway_L39 (V : EV) {vF : Option Value} {hF : HA} {t : Nat} {l4 : Int32} {l5 : Int32} (n : Nat) : ∀ {h : HA} {l6 : Int32} {l7 : Int32} {r6 : Int32} {hR : HA}, (H : X8_sway_L39 t l4 l5 n h l6 l7 = some (r6, hR)) → (K : WP V M_X8_sway 150 [(6, .int r6)] [] hR 0 0 vF hF) → WP V M_X8_sway 39 [(0, .ref t), (4, .int l4), (5, .int l5), (6, .int l6), (7, .int l7)] [] h 0 0 vF hF := by
  induction n with
  | zero =>
    intro h l6 l7 r6 hR H K
    rw [X8_sway_L39] at H
    cases H
  | succ n ih =>
    intro h l6 l7 r6 hR H K
    rw [X8_sway_L39] at H
    refine WP.iload d_X8_sway_39 4 rfl ?_
    refine WP.aload_n d_X8_sway_41 0 rfl ?_
    obtain ⟨x9, ex9, H⟩ := ob H
    refine WP.fI d_X8_sway_42 gf_X8_280 (fun _ => rfl) ex9 ?_
    rcases oj H with ⟨hc, H⟩ | ⟨hc, H⟩
    · refine WP.icmp_ge_t d_X8_sway_45 hc ?_
      refine WP.aload_n d_X8_sway_48 0 rfl ?_
      obtain ⟨x10, ex10, H⟩ := ob H
      refine WP.fR d_X8_sway_49 gf_X8_86 (fun _ => rfl) ex10 ?_
      refine WP.iload d_X8_sway_52 4 rfl ?_
      obtain ⟨x11, ex11, H⟩ := ob H
      refine WP.iald d_X8_sway_54 ex11 ?_
      refine WP.istore (lv9 := [(8, .int x11), (0, .ref t), (4, .int l4), (5, .int l5), (6, .int l6), (7, .int l7)]) d_X8_sway_55 (Nat.le_of_ble_eq_true rfl) rfl ?_
      refine WP.iload d_X8_sway_57 2 rfl ?_
      refine WP.iconst d_X8_sway_59 ki_1 ?_
      obtain ⟨h12, hs13, H⟩ := ob H
      have J14 : WP V M_X8_sway 113 [(0, .ref t), (4, .int l4), (5, .int l5), (6, .int l6), (7, .int l7), (8, .int x11)] [] h12 0 0 vF hF := by
        refine WP.iload d_X8_sway_113 3 rfl ?_
        refine WP.aload_n d_X8_sway_115 0 rfl ?_
        obtain ⟨x28, e27, H⟩ := ob H
        refine WP.cV (c := 9) (As := []) (st := [.int l6]) (st9 := [.int x28, .int l6]) (cl9 := 0) (sl9 := 0) d_X8_sway_116 (ok_X8_verdict V e27) tv_X8_verdict ti_X8_verdict ts_X8_verdict lk_X8_435 r_X8_sway_X8_verdict kc_X8_verdict (kd_X8_verdict e27) rfl rfl (Nat.le_of_ble_eq_true rfl) rfl rfl rfl ?_
        refine WP.iload d_X8_sway_119 2 rfl ?_
        obtain ⟨j29, hs30, H⟩ := ol H
        have J31 : WP V M_X8_sway 132 [(0, .ref t), (4, .int l4), (5, .int l5), (7, .int l7), (8, .int x11)] [.int j29, .int l6] h12 0 0 vF hF := by
          refine WP.ior d_X8_sway_132 ?_
          refine WP.istore (lv9 := [(6, .int (l6 ||| j29)), (0, .ref t), (4, .int l4), (5, .int l5), (7, .int l7), (8, .int x11)]) d_X8_sway_133 (Nat.le_of_ble_eq_true rfl) rfl ?_
          refine WP.aload_n d_X8_sway_135 1 rfl ?_
          obtain ⟨x32, ex32, H⟩ := ob H
          refine WP.fR d_X8_sway_136 gf_X8_86 (fun _ => rfl) ex32 ?_
          refine WP.iload d_X8_sway_139 4 rfl ?_
          refine WP.iload d_X8_sway_141 5 rfl ?_
          obtain ⟨h33, eh33, H⟩ := ob H
          refine WP.ias d_X8_sway_143 eh33 ?_
          refine WP.iinc (lv9 := [(7, .int (l7 + 1)), (6, .int (l6 ||| j29)), (0, .ref t), (4, .int l4), (5, .int l5), (8, .int x11)]) d_X8_sway_144 4 rfl ki_1 (Nat.le_of_ble_eq_true rfl) rfl ?_
          refine WP.goto d_X8_sway_147 ?_
          refine WP.sub [2, 3, 4, 1, 0] (lv' := [(0, .ref t), (4, .int l4), (5, .int l5), (6, .int (l6 ||| j29)), (7, .int (l7 + 1))]) rfl ?_
          exact ih H K
        rcases oj hs30 with ⟨hc, hs30⟩ | ⟨hc, hs30⟩
        · refine WP.icmp_eq_t d_X8_sway_121 hc ?_
          refine WP.iconst d_X8_sway_131 ki_0 ?_
          cases hs30
          exact WP.sub [0, 1, 2, 4, 5] rfl J31
        · refine WP.icmp_eq_f d_X8_sway_121 hc ?_
          refine WP.iconst d_X8_sway_124 ki_1 ?_
          refine WP.iload d_X8_sway_125 4 rfl ?_
          refine WP.ishl d_X8_sway_127 ?_
          refine WP.goto d_X8_sway_128 ?_
          cases hs30
          exact WP.sub [0, 1, 2, 4, 5] rfl J31
      rcases oj hs13 with ⟨hc, hs13⟩ | ⟨hc, hs13⟩
      · refine WP.icmp_ne_t d_X8_sway_60 hc ?_
        refine WP.aload_n d_X8_sway_63 1 rfl ?_
        obtain ⟨x15, ex15, hs13⟩ := ob hs13
        refine WP.fR d_X8_sway_64 gf_X8_86 (fun _ => rfl) ex15 ?_
        refine WP.iload d_X8_sway_67 5 rfl ?_
        refine WP.aload_n d_X8_sway_69 1 rfl ?_
        refine WP.aload_n d_X8_sway_70 1 rfl ?_
        refine WP.iload d_X8_sway_71 5 rfl ?_
        refine WP.aload_n d_X8_sway_73 1 rfl ?_
        refine WP.iload d_X8_sway_74 5 rfl ?_
        obtain ⟨x17, e16, hs13⟩ := ob hs13
        refine WP.cV (c := 9) (As := [.int l7]) (st := [.int l7, .ref t, .ref t, .int l7, .ref x15]) (st9 := [.int x17, .int l7, .ref t, .ref t, .int l7, .ref x15]) (cl9 := 0) (sl9 := 0) d_X8_sway_76 (ok_X8_otherEars V e16) tv_X8_otherEars ti_X8_otherEars ts_X8_otherEars lk_X8_438 r_X8_sway_X8_otherEars kc_X8_otherEars (kd_X8_otherEars e16) rfl rfl (Nat.le_of_ble_eq_true rfl) rfl rfl rfl ?_
        refine WP.aload_n d_X8_sway_79 1 rfl ?_
        refine WP.iload d_X8_sway_80 5 rfl ?_
        refine WP.iconst d_X8_sway_82 ki_3 ?_
        obtain ⟨x19, e18, hs13⟩ := ob hs13
        refine WP.cV (c := 9) (As := [.int l7, .int 3]) (st := [.int x17, .int l7, .ref t, .ref t, .int l7, .ref x15]) (st9 := [.int x19, .int x17, .int l7, .ref t, .ref t, .int l7, .ref x15]) (cl9 := 0) (sl9 := 0) d_X8_sway_83 (ok_X8_judgeOf V e18) tv_X8_judgeOf ti_X8_judgeOf ts_X8_judgeOf lk_X8_307 r_X8_sway_X8_judgeOf kc_X8_judgeOf (kd_X8_judgeOf e18) rfl rfl (Nat.le_of_ble_eq_true rfl) rfl rfl rfl ?_
        obtain ⟨x21, e20, hs13⟩ := ob hs13
        refine WP.cV (c := 9) (As := [.int l7, .int x17, .int x19]) (st := [.ref t, .int l7, .ref x15]) (st9 := [.int x21, .ref t, .int l7, .ref x15]) (cl9 := 0) (sl9 := 0) d_X8_sway_86 (ok_X8_knownIn V e20) tv_X8_knownIn ti_X8_knownIn ts_X8_knownIn lk_X8_399 r_X8_sway_X8_knownIn kc_X8_knownIn (kd_X8_knownIn e20) rfl rfl (Nat.le_of_ble_eq_true rfl) rfl rfl rfl ?_
        obtain ⟨x23, e22, hs13⟩ := ob hs13
        refine WP.cV (c := 9) (As := [.int x21]) (st := [.int l7, .ref x15]) (st9 := [.int x23, .int l7, .ref x15]) (cl9 := 0) (sl9 := 0) d_X8_sway_89 (ok_X8_voteBy V e22) tv_X8_voteBy ti_X8_voteBy ts_X8_voteBy lk_X8_426 r_X8_sway_X8_voteBy kc_X8_voteBy (kd_X8_voteBy e22) rfl rfl (Nat.le_of_ble_eq_true rfl) rfl rfl rfl ?_
        obtain ⟨h24, eh24, hs13⟩ := ob hs13
        refine WP.ias d_X8_sway_92 eh24 ?_
        refine WP.goto d_X8_sway_93 ?_
        cases hs13
        exact WP.sub [1, 2, 3, 4, 5, 0] rfl J14
      · refine WP.icmp_ne_f d_X8_sway_60 hc ?_
        refine WP.iload d_X8_sway_96 0 rfl ?_
        refine WP.iconst d_X8_sway_98 ki_m1 ?_
        rcases oj hs13 with ⟨hc, hs13⟩ | ⟨hc, hs13⟩
        · refine WP.icmp_eq_t d_X8_sway_99 hc ?_
          cases hs13
          exact WP.sub [1, 2, 3, 4, 5, 0] rfl J14
        · refine WP.icmp_eq_f d_X8_sway_99 hc ?_
          refine WP.aload_n d_X8_sway_102 1 rfl ?_
          obtain ⟨x25, ex25, hs13⟩ := ob hs13
          refine WP.fR d_X8_sway_103 gf_X8_86 (fun _ => rfl) ex25 ?_
          refine WP.iload d_X8_sway_106 5 rfl ?_
          refine WP.iconst d_X8_sway_108 ki_1 ?_
          refine WP.iload d_X8_sway_109 0 rfl ?_
          refine WP.isub d_X8_sway_111 ?_
          obtain ⟨h26, eh26, hs13⟩ := ob hs13
          refine WP.ias d_X8_sway_112 eh26 ?_
          cases hs13
          exact WP.sub [1, 2, 3, 4, 5, 0] rfl J14
    · refine WP.icmp_ge_f d_X8_sway_45 hc ?_
      cases H
      exact WP.sub [3] rfl K

set_option maxRecDepth 20000 in
set_option maxHeartbeats 4000000 in
theorem ok_X8_sway (V : EV) {h : HA} {t : Nat} {l1 : Int32} {l2 : Int32} {l3 : Int32} {l4 : Int32} {r : Int32} {hR : HA} (H : X8_sway h t l1 l2 l3 l4 = some (r, hR)) : MG V M_X8_sway [.ref t, .int l1, .int l2, .int l3, .int l4] h (some (.int r)) hR := by
  unfold X8_sway at H
  obtain ⟨_, H⟩ := oc H
  refine MG.of (lv0 := [(0, .ref t), (1, .int l1), (2, .int l2), (3, .int l3), (4, .int l4)]) pn_X8 rfl (Nat.le_of_ble_eq_true rfl) ?_
  refine WP.aload_n d_X8_sway_0 0 rfl ?_
  refine WP.iconst d_X8_sway_1 ki_0 ?_
  obtain ⟨h1, eh1, H⟩ := ob H
  refine WP.uI d_X8_sway_2 gf_X8_102 rfl (Or.inl rfl) rfl rfl eh1 ?_
  refine WP.iload d_X8_sway_5 4 rfl ?_
  refine WP.iconst d_X8_sway_7 ki_0 ?_
  refine WP.iconst d_X8_sway_8 ki_1 ?_
  obtain ⟨x3, e2, H⟩ := ob H
  refine WP.cS (As := [.int l4, .int 0, .int 1]) (st := []) (st9 := [.int x3]) (cl9 := 0) (sl9 := 0) d_X8_sway_9 (ok_X8_in V (h := h1) e2) tv_X8_in ts_X8_in lk_X8_114 r_X8_sway_X8_in rfl rfl (Nat.le_of_ble_eq_true rfl) rfl rfl rfl ?_
  rcases oj H with ⟨hc, H⟩ | ⟨hc, H⟩
  · refine WP.if_eq_t d_X8_sway_12 hc ?_
    refine WP.iconst d_X8_sway_25 ki_m1 ?_
    cases H
    exact WP.ireturn d_X8_sway_26 rfl rfl (Nat.le_of_ble_eq_true rfl) (Nat.le_of_ble_eq_true rfl)
  · refine WP.if_eq_f d_X8_sway_12 hc ?_
    refine WP.aload_n d_X8_sway_15 0 rfl ?_
    refine WP.iload_n d_X8_sway_16 1 rfl ?_
    refine WP.iload_n d_X8_sway_17 2 rfl ?_
    refine WP.iload_n d_X8_sway_18 3 rfl ?_
    obtain ⟨⟨x6, h5⟩, e4, H⟩ := ob H
    refine WP.cV (c := 9) (As := [.int l1, .int l2, .int l3]) (st := []) (st9 := [.int x6]) (cl9 := 0) (sl9 := 0) d_X8_sway_19 (ok_X8_layVotes V e4) tv_X8_layVotes ti_X8_layVotes ts_X8_layVotes lk_X8_432 r_X8_sway_X8_layVotes kc_X8_layVotes (kd_X8_layVotes e4) rfl rfl (Nat.le_of_ble_eq_true rfl) rfl rfl rfl ?_
    rcases oj H with ⟨hc, H⟩ | ⟨hc, H⟩
    · refine WP.if_ne_t d_X8_sway_22 hc ?_
      refine WP.iconst d_X8_sway_25 ki_m1 ?_
      cases H
      exact WP.ireturn d_X8_sway_26 rfl rfl (Nat.le_of_ble_eq_true rfl) (Nat.le_of_ble_eq_true rfl)
    · refine WP.if_ne_f d_X8_sway_22 hc ?_
      refine WP.aload_n d_X8_sway_27 0 rfl ?_
      obtain ⟨x8, e7, H⟩ := ob H
      refine WP.cV (c := 9) (As := []) (st := []) (st9 := [.int x8]) (cl9 := 0) (sl9 := 0) d_X8_sway_28 (ok_X8_verdict V e7) tv_X8_verdict ti_X8_verdict ts_X8_verdict lk_X8_435 r_X8_sway_X8_verdict kc_X8_verdict (kd_X8_verdict e7) rfl rfl (Nat.le_of_ble_eq_true rfl) rfl rfl rfl ?_
      refine WP.istore (lv9 := [(5, .int x8), (0, .ref t), (1, .int l1), (2, .int l2), (3, .int l3), (4, .int l4)]) d_X8_sway_31 (Nat.le_of_ble_eq_true rfl) rfl ?_
      refine WP.iconst d_X8_sway_33 ki_0 ?_
      refine WP.istore (lv9 := [(6, .int 0), (5, .int x8), (0, .ref t), (1, .int l1), (2, .int l2), (3, .int l3), (4, .int l4)]) d_X8_sway_34 (Nat.le_of_ble_eq_true rfl) rfl ?_
      refine WP.iconst d_X8_sway_36 ki_0 ?_
      refine WP.istore (lv9 := [(7, .int 0), (6, .int 0), (5, .int x8), (0, .ref t), (1, .int l1), (2, .int l2), (3, .int l3), (4, .int l4)]) d_X8_sway_37 (Nat.le_of_ble_eq_true rfl) rfl ?_
      obtain ⟨⟨y35, h36⟩, e34, H⟩ := ob H
      refine WP.sub [3, 7, 2, 1, 0] (lv' := [(0, .ref t), (4, .int l4), (5, .int x8), (6, .int 0), (7, .int 0)]) rfl ?_
      refine okl_X8_sway_L39 V _ e34 ?_
      refine WP.iload d_X8_sway_150 0 rfl ?_
      cases H
      exact WP.ireturn d_X8_sway_152 rfl rfl (Nat.le_of_ble_eq_true rfl) (Nat.le_of_ble_eq_true rfl)

set_option maxRecDepth 20000 in
set_option maxHeartbeats 4000000 in
theorem ok_X8_soldBy (V : EV) {h : HA} {t : Nat} {l1 : Int32} {l2 : Int32} {r : Int32} (H : X8_soldBy h t l1 l2 = some r) : MG V M_X8_soldBy [.ref t, .int l1, .int l2] h (some (.int r)) h := by
  unfold X8_soldBy at H
  obtain ⟨_, H⟩ := oc H
  refine MG.of (lv0 := [(0, .ref t), (1, .int l1), (2, .int l2)]) pn_X8 rfl (Nat.le_of_ble_eq_true rfl) ?_
  refine WP.aload_n d_X8_soldBy_0 0 rfl ?_
  refine WP.iload_n d_X8_soldBy_1 1 rfl ?_
  obtain ⟨x2, e1, H⟩ := ob H
  refine WP.cV (c := 9) (As := [.int l1]) (st := []) (st9 := [.int x2]) (cl9 := 0) (sl9 := 0) d_X8_soldBy_2 (ok_X8_known V e1) tv_X8_known ti_X8_known ts_X8_known lk_X8_402 r_X8_soldBy_X8_known kc_X8_known (kd_X8_known e1) rfl rfl (Nat.le_of_ble_eq_true rfl) rfl rfl rfl ?_
  obtain ⟨x4, e3, H⟩ := ob H
  refine WP.cS (As := [.int x2]) (st := []) (st9 := [.int x4]) (cl9 := 0) (sl9 := 0) d_X8_soldBy_5 (ok_X8_ones V (h := h) e3) tv_X8_ones ts_X8_ones lk_X8_349 r_X8_soldBy_X8_ones rfl rfl (Nat.le_of_ble_eq_true rfl) rfl rfl rfl ?_
  refine WP.aload_n d_X8_soldBy_8 0 rfl ?_
  refine WP.iload_n d_X8_soldBy_9 1 rfl ?_
  refine WP.iload_n d_X8_soldBy_10 2 rfl ?_
  refine WP.aload_n d_X8_soldBy_11 0 rfl ?_
  refine WP.iload_n d_X8_soldBy_12 1 rfl ?_
  refine WP.iconst d_X8_soldBy_13 ki_3 ?_
  obtain ⟨x6, e5, H⟩ := ob H
  refine WP.cV (c := 9) (As := [.int l1, .int 3]) (st := [.int l2, .int l1, .ref t, .int x4]) (st9 := [.int x6, .int l2, .int l1, .ref t, .int x4]) (cl9 := 0) (sl9 := 0) d_X8_soldBy_14 (ok_X8_judgeOf V e5) tv_X8_judgeOf ti_X8_judgeOf ts_X8_judgeOf lk_X8_307 r_X8_soldBy_X8_judgeOf kc_X8_judgeOf (kd_X8_judgeOf e5) rfl rfl (Nat.le_of_ble_eq_true rfl) rfl rfl rfl ?_
  obtain ⟨x8, e7, H⟩ := ob H
  refine WP.cV (c := 9) (As := [.int l1, .int l2, .int x6]) (st := [.int x4]) (st9 := [.int x8, .int x4]) (cl9 := 0) (sl9 := 0) d_X8_soldBy_17 (ok_X8_knownIn V e7) tv_X8_knownIn ti_X8_knownIn ts_X8_knownIn lk_X8_399 r_X8_soldBy_X8_knownIn kc_X8_knownIn (kd_X8_knownIn e7) rfl rfl (Nat.le_of_ble_eq_true rfl) rfl rfl rfl ?_
  obtain ⟨x10, e9, H⟩ := ob H
  refine WP.cS (As := [.int x8]) (st := [.int x4]) (st9 := [.int x10, .int x4]) (cl9 := 0) (sl9 := 0) d_X8_soldBy_20 (ok_X8_ones V (h := h) e9) tv_X8_ones ts_X8_ones lk_X8_349 r_X8_soldBy_X8_ones rfl rfl (Nat.le_of_ble_eq_true rfl) rfl rfl rfl ?_
  refine WP.isub d_X8_soldBy_23 ?_
  cases H
  exact WP.ireturn d_X8_soldBy_24 rfl rfl (Nat.le_of_ble_eq_true rfl) (Nat.le_of_ble_eq_true rfl)

set_option maxRecDepth 20000 in
set_option maxHeartbeats 4000000 in
theorem okl_X8_dearest_L6 (V : EV) {vF : Option Value} {hF : HA} {h : HA} {t : Nat} (n : Nat) : ∀ {l1 : Int32} {l2 : Int32} {l3 : Int32} {r1 : Int32}, (H : X8_dearest_L6 h t n l1 l2 l3 = some r1) → (K : WP V M_X8_dearest 47 [(1, .int r1)] [] h 0 0 vF hF) → WP V M_X8_dearest 6 [(0, .ref t), (1, .int l1), (2, .int l2), (3, .int l3)] [] h 0 0 vF hF := by
  induction n with
  | zero =>
    intro l1 l2 l3 r1 H K
    rw [X8_dearest_L6] at H
    cases H
  | succ n ih =>
    intro l1 l2 l3 r1 H K
    rw [X8_dearest_L6] at H
    refine WP.iload_n d_X8_dearest_6 3 rfl ?_
    refine WP.aload_n d_X8_dearest_7 0 rfl ?_
    obtain ⟨x1, ex1, H⟩ := ob H
    refine WP.fI d_X8_dearest_8 gf_X8_280 (fun _ => rfl) ex1 ?_
    rcases oj H with ⟨hc, H⟩ | ⟨hc, H⟩
    · refine WP.icmp_ge_t d_X8_dearest_11 hc ?_
      refine WP.aload_n d_X8_dearest_14 0 rfl ?_
      refine WP.iload_n d_X8_dearest_15 3 rfl ?_
      refine WP.iconst d_X8_dearest_16 ki_1 ?_
      obtain ⟨x3, e2, H⟩ := ob H
      refine WP.cV (c := 9) (As := [.int l3, .int 1]) (st := []) (st9 := [.int x3]) (cl9 := 0) (sl9 := 0) d_X8_dearest_17 (ok_X8_soldBy V e2) tv_X8_soldBy ti_X8_soldBy ts_X8_soldBy lk_X8_441 r_X8_dearest_X8_soldBy kc_X8_soldBy (kd_X8_soldBy e2) rfl rfl (Nat.le_of_ble_eq_true rfl) rfl rfl rfl ?_
      refine WP.istore (lv9 := [(4, .int x3), (0, .ref t), (1, .int l1), (2, .int l2), (3, .int l3)]) d_X8_dearest_20 (Nat.le_of_ble_eq_true rfl) rfl ?_
      refine WP.iload d_X8_dearest_22 0 rfl ?_
      refine WP.iload_n d_X8_dearest_24 3 rfl ?_
      obtain ⟨j4, hs5, H⟩ := ol H
      have J6 : WP V M_X8_dearest 33 [(0, .ref t), (2, .int l2), (3, .int l3), (4, .int x3)] [.int j4] h 0 0 vF hF := by
        refine WP.istore_n (lv9 := [(1, .int j4), (0, .ref t), (2, .int l2), (3, .int l3), (4, .int x3)]) d_X8_dearest_33 (Nat.le_of_ble_eq_true rfl) rfl ?_
        refine WP.iload_n d_X8_dearest_34 2 rfl ?_
        refine WP.iload d_X8_dearest_35 4 rfl ?_
        obtain ⟨x8, e7, H⟩ := ob H
        refine WP.cS (As := [.int l2, .int x3]) (st := []) (st9 := [.int x8]) (cl9 := 0) (sl9 := 0) d_X8_dearest_37 (ok_X8_greater V (h := h) e7) tv_X8_greater ts_X8_greater lk_X8_171 r_X8_dearest_X8_greater rfl rfl (Nat.le_of_ble_eq_true rfl) rfl rfl rfl ?_
        refine WP.istore_n (lv9 := [(2, .int x8), (1, .int j4), (0, .ref t), (3, .int l3), (4, .int x3)]) d_X8_dearest_40 (Nat.le_of_ble_eq_true rfl) rfl ?_
        refine WP.iinc (lv9 := [(3, .int (l3 + 1)), (2, .int x8), (1, .int j4), (0, .ref t), (4, .int x3)]) d_X8_dearest_41 3 rfl ki_1 (Nat.le_of_ble_eq_true rfl) rfl ?_
        refine WP.goto d_X8_dearest_44 ?_
        refine WP.sub [3, 2, 1, 0] (lv' := [(0, .ref t), (1, .int j4), (2, .int x8), (3, .int (l3 + 1))]) rfl ?_
        exact ih H K
      rcases oj hs5 with ⟨hc, hs5⟩ | ⟨hc, hs5⟩
      · refine WP.icmp_le_t d_X8_dearest_25 hc ?_
        refine WP.iload_n d_X8_dearest_28 4 rfl ?_
        refine WP.goto d_X8_dearest_29 ?_
        cases hs5
        exact WP.sub [1, 3, 4, 0] rfl J6
      · refine WP.icmp_le_f d_X8_dearest_25 hc ?_
        refine WP.iload_n d_X8_dearest_32 2 rfl ?_
        cases hs5
        exact WP.sub [1, 3, 4, 0] rfl J6
    · refine WP.icmp_ge_f d_X8_dearest_11 hc ?_
      cases H
      exact WP.sub [1] rfl K

set_option maxRecDepth 20000 in
set_option maxHeartbeats 4000000 in
theorem ok_X8_dearest (V : EV) {h : HA} {t : Nat} {r : Int32} (H : X8_dearest h t = some r) : MG V M_X8_dearest [.ref t] h (some (.int r)) h := by
  unfold X8_dearest at H
  obtain ⟨_, H⟩ := oc H
  refine MG.of (lv0 := [(0, .ref t)]) pn_X8 rfl (Nat.le_of_ble_eq_true rfl) ?_
  refine WP.iconst d_X8_dearest_0 ki_m1 ?_
  refine WP.istore_n (lv9 := [(1, .int (-1)), (0, .ref t)]) d_X8_dearest_1 (Nat.le_of_ble_eq_true rfl) rfl ?_
  refine WP.iconst d_X8_dearest_2 ki_m1 ?_
  refine WP.istore_n (lv9 := [(2, .int (-1)), (1, .int (-1)), (0, .ref t)]) d_X8_dearest_3 (Nat.le_of_ble_eq_true rfl) rfl ?_
  refine WP.iconst d_X8_dearest_4 ki_0 ?_
  refine WP.istore_n (lv9 := [(3, .int 0), (2, .int (-1)), (1, .int (-1)), (0, .ref t)]) d_X8_dearest_5 (Nat.le_of_ble_eq_true rfl) rfl ?_
  obtain ⟨y10, e9, H⟩ := ob H
  refine WP.sub [3, 2, 1, 0] (lv' := [(0, .ref t), (1, .int (-1)), (2, .int (-1)), (3, .int 0)]) rfl ?_
  refine okl_X8_dearest_L6 V _ e9 ?_
  refine WP.iload_n d_X8_dearest_47 0 rfl ?_
  cases H
  exact WP.ireturn d_X8_dearest_48 rfl rfl (Nat.le_of_ble_eq_true rfl) (Nat.le_of_ble_eq_true rfl)

set_option maxRecDepth 20000 in
set_option maxHeartbeats 4000000 in
theorem ok_X8_sold (V : EV) {h : HA} {t : Nat} {l1 : Int32} {l2 : Int32} {l3 : Int32} {l4 : Int32} {r : Int32} {hR : HA} (H : X8_sold h t l1 l2 l3 l4 = some (r, hR)) : MG V M_X8_sold [.ref t, .int l1, .int l2, .int l3, .int l4] h (some (.int r)) hR := by
  unfold X8_sold at H
  obtain ⟨_, H⟩ := oc H
  refine MG.of (lv0 := [(0, .ref t), (1, .int l1), (2, .int l2), (3, .int l3), (4, .int l4)]) pn_X8 rfl (Nat.le_of_ble_eq_true rfl) ?_
  refine WP.aload_n d_X8_sold_0 0 rfl ?_
  refine WP.iconst d_X8_sold_1 ki_0 ?_
  obtain ⟨h1, eh1, H⟩ := ob H
  refine WP.uI d_X8_sold_2 gf_X8_102 rfl (Or.inl rfl) rfl rfl eh1 ?_
  refine WP.aload_n d_X8_sold_5 0 rfl ?_
  refine WP.iload_n d_X8_sold_6 1 rfl ?_
  refine WP.iload_n d_X8_sold_7 2 rfl ?_
  obtain ⟨⟨x4, h3⟩, e2, H⟩ := ob H
  refine WP.cV (c := 9) (As := [.int l1, .int l2]) (st := []) (st9 := [.int x4]) (cl9 := 0) (sl9 := 0) d_X8_sold_8 (ok_X8_layTrial V e2) tv_X8_layTrial ti_X8_layTrial ts_X8_layTrial lk_X8_385 r_X8_sold_X8_layTrial kc_X8_layTrial (kd_X8_layTrial e2) rfl rfl (Nat.le_of_ble_eq_true rfl) rfl rfl rfl ?_
  rcases oj H with ⟨hc, H⟩ | ⟨hc, H⟩
  · refine WP.if_eq_t d_X8_sold_11 hc ?_
    refine WP.iconst d_X8_sold_35 ki_m1 ?_
    cases H
    exact WP.ireturn d_X8_sold_36 rfl rfl (Nat.le_of_ble_eq_true rfl) (Nat.le_of_ble_eq_true rfl)
  · refine WP.if_eq_f d_X8_sold_11 hc ?_
    refine WP.aload_n d_X8_sold_14 0 rfl ?_
    obtain ⟨x5, ex5, H⟩ := ob H
    refine WP.fI d_X8_sold_15 gf_X8_280 (fun _ => rfl) ex5 ?_
    rcases oj H with ⟨hc, H⟩ | ⟨hc, H⟩
    · refine WP.if_eq_t d_X8_sold_18 hc ?_
      refine WP.iconst d_X8_sold_35 ki_m1 ?_
      cases H
      exact WP.ireturn d_X8_sold_36 rfl rfl (Nat.le_of_ble_eq_true rfl) (Nat.le_of_ble_eq_true rfl)
    · refine WP.if_eq_f d_X8_sold_18 hc ?_
      refine WP.iload_n d_X8_sold_21 3 rfl ?_
      refine WP.iconst d_X8_sold_22 ki_m1 ?_
      refine WP.aload_n d_X8_sold_23 0 rfl ?_
      obtain ⟨x6, ex6, H⟩ := ob H
      refine WP.fI d_X8_sold_24 gf_X8_280 (fun _ => rfl) ex6 ?_
      refine WP.iconst d_X8_sold_27 ki_1 ?_
      refine WP.isub d_X8_sold_28 ?_
      obtain ⟨x8, e7, H⟩ := ob H
      refine WP.cS (As := [.int l3, .int (-1), .int (x6 - 1)]) (st := []) (st9 := [.int x8]) (cl9 := 0) (sl9 := 0) d_X8_sold_29 (ok_X8_in V (h := h3) e7) tv_X8_in ts_X8_in lk_X8_114 r_X8_sold_X8_in rfl rfl (Nat.le_of_ble_eq_true rfl) rfl rfl rfl ?_
      rcases oj H with ⟨hc, H⟩ | ⟨hc, H⟩
      · refine WP.if_ne_t d_X8_sold_32 hc ?_
        refine WP.iconst d_X8_sold_35 ki_m1 ?_
        cases H
        exact WP.ireturn d_X8_sold_36 rfl rfl (Nat.le_of_ble_eq_true rfl) (Nat.le_of_ble_eq_true rfl)
      · refine WP.if_ne_f d_X8_sold_32 hc ?_
        refine WP.iload_n d_X8_sold_37 3 rfl ?_
        refine WP.iconst d_X8_sold_38 ki_m1 ?_
        rcases oj H with ⟨hc, H⟩ | ⟨hc, H⟩
        · refine WP.icmp_ne_t d_X8_sold_39 hc ?_
          refine WP.aload_n d_X8_sold_42 0 rfl ?_
          obtain ⟨x10, e9, H⟩ := ob H
          refine WP.cV (c := 9) (As := []) (st := []) (st9 := [.int x10]) (cl9 := 0) (sl9 := 0) d_X8_sold_43 (ok_X8_dearest V e9) tv_X8_dearest ti_X8_dearest ts_X8_dearest lk_X8_444 r_X8_sold_X8_dearest kc_X8_dearest (kd_X8_dearest e9) rfl rfl (Nat.le_of_ble_eq_true rfl) rfl rfl rfl ?_
          refine WP.goto d_X8_sold_46 ?_
          cases H
          exact WP.ireturn d_X8_sold_71 rfl rfl (Nat.le_of_ble_eq_true rfl) (Nat.le_of_ble_eq_true rfl)
        · refine WP.icmp_ne_f d_X8_sold_39 hc ?_
          refine WP.iload d_X8_sold_49 4 rfl ?_
          rcases oj H with ⟨hc, H⟩ | ⟨hc, H⟩
          · refine WP.if_eq_t d_X8_sold_51 hc ?_
            refine WP.aload_n d_X8_sold_65 0 rfl ?_
            refine WP.iload_n d_X8_sold_66 3 rfl ?_
            refine WP.iconst d_X8_sold_67 ki_1 ?_
            obtain ⟨x12, e11, H⟩ := ob H
            refine WP.cV (c := 9) (As := [.int l3, .int 1]) (st := []) (st9 := [.int x12]) (cl9 := 0) (sl9 := 0) d_X8_sold_68 (ok_X8_soldBy V e11) tv_X8_soldBy ti_X8_soldBy ts_X8_soldBy lk_X8_441 r_X8_sold_X8_soldBy kc_X8_soldBy (kd_X8_soldBy e11) rfl rfl (Nat.le_of_ble_eq_true rfl) rfl rfl rfl ?_
            cases H
            exact WP.ireturn d_X8_sold_71 rfl rfl (Nat.le_of_ble_eq_true rfl) (Nat.le_of_ble_eq_true rfl)
          · refine WP.if_eq_f d_X8_sold_51 hc ?_
            refine WP.aload_n d_X8_sold_54 0 rfl ?_
            refine WP.iload_n d_X8_sold_55 3 rfl ?_
            refine WP.bipush d_X8_sold_56 kb_11 ?_
            obtain ⟨x14, e13, H⟩ := ob H
            refine WP.cV (c := 9) (As := [.int l3, .int 11]) (st := []) (st9 := [.int x14]) (cl9 := 0) (sl9 := 0) d_X8_sold_58 (ok_X8_soldBy V e13) tv_X8_soldBy ti_X8_soldBy ts_X8_soldBy lk_X8_441 r_X8_sold_X8_soldBy kc_X8_soldBy (kd_X8_soldBy e13) rfl rfl (Nat.le_of_ble_eq_true rfl) rfl rfl rfl ?_
            refine WP.ineg d_X8_sold_61 ?_
            refine WP.goto d_X8_sold_62 ?_
            cases H
            exact WP.ireturn d_X8_sold_71 rfl rfl (Nat.le_of_ble_eq_true rfl) (Nat.le_of_ble_eq_true rfl)

set_option maxRecDepth 20000 in
set_option maxHeartbeats 4000000 in
theorem ok_X8_swap (V : EV) {h : HA} {t : Nat} {l1 : Int32} {l2 : Int32} {hR : HA} (H : X8_swap h t l1 l2 = some hR) : MG V M_X8_swap [.ref t, .int l1, .int l2] h none hR := by
  unfold X8_swap at H
  obtain ⟨_, H⟩ := oc H
  refine MG.of (lv0 := [(0, .ref t), (1, .int l1), (2, .int l2)]) pn_X8 rfl (Nat.le_of_ble_eq_true rfl) ?_
  refine WP.aload_n d_X8_swap_0 0 rfl ?_
  obtain ⟨x1, ex1, H⟩ := ob H
  refine WP.fR d_X8_swap_1 gf_X8_92 (fun _ => rfl) ex1 ?_
  refine WP.iload_n d_X8_swap_4 1 rfl ?_
  obtain ⟨x2, ex2, H⟩ := ob H
  refine WP.iald d_X8_swap_5 ex2 ?_
  refine WP.istore_n (lv9 := [(3, .int x2), (0, .ref t), (1, .int l1), (2, .int l2)]) d_X8_swap_6 (Nat.le_of_ble_eq_true rfl) rfl ?_
  refine WP.aload_n d_X8_swap_7 1 rfl ?_
  obtain ⟨x3, ex3, H⟩ := ob H
  refine WP.fR d_X8_swap_8 gf_X8_92 (fun _ => rfl) ex3 ?_
  refine WP.iload_n d_X8_swap_11 2 rfl ?_
  refine WP.aload_n d_X8_swap_12 1 rfl ?_
  obtain ⟨x4, ex4, H⟩ := ob H
  refine WP.fR d_X8_swap_13 gf_X8_92 (fun _ => rfl) ex4 ?_
  refine WP.iload_n d_X8_swap_16 3 rfl ?_
  obtain ⟨x5, ex5, H⟩ := ob H
  refine WP.iald d_X8_swap_17 ex5 ?_
  obtain ⟨h6, eh6, H⟩ := ob H
  refine WP.ias d_X8_swap_18 eh6 ?_
  refine WP.aload_n d_X8_swap_19 1 rfl ?_
  obtain ⟨x7, ex7, H⟩ := ob H
  refine WP.fR d_X8_swap_20 gf_X8_92 (fun _ => rfl) ex7 ?_
  refine WP.iload_n d_X8_swap_23 3 rfl ?_
  refine WP.iload_n d_X8_swap_24 0 rfl ?_
  obtain ⟨h8, eh8, H⟩ := ob H
  refine WP.ias d_X8_swap_25 eh8 ?_
  cases H
  exact WP.return_ d_X8_swap_26 rfl (Nat.le_of_ble_eq_true rfl) (Nat.le_of_ble_eq_true rfl)

set_option maxRecDepth 20000 in
set_option maxHeartbeats 4000000 in
theorem okl_X8_nextSeats_L7 (V : EV) {vF : Option Value} {hF : HA} {h : HA} {t : Nat} (n : Nat) : ∀ {l1 : Int32} {r1 : Int32}, (H : X8_nextSeats_L7 h t n l1 = some r1) → (K : WP V M_X8_nextSeats 34 [(0, .ref t), (1, .int r1)] [] h 0 0 vF hF) → WP V M_X8_nextSeats 7 [(0, .ref t), (1, .int l1)] [] h 0 0 vF hF := by
  induction n with
  | zero =>
    intro l1 r1 H K
    rw [X8_nextSeats_L7] at H
    cases H
  | succ n ih =>
    intro l1 r1 H K
    rw [X8_nextSeats_L7] at H
    refine WP.iload_n d_X8_nextSeats_7 1 rfl ?_
    rcases oj H with ⟨hc, H⟩ | ⟨hc, H⟩
    · refine WP.if_lt_t d_X8_nextSeats_8 hc ?_
      cases H
      exact WP.sub [0, 1] rfl K
    · refine WP.if_lt_f d_X8_nextSeats_8 hc ?_
      refine WP.aload_n d_X8_nextSeats_11 0 rfl ?_
      obtain ⟨x2, ex2, H⟩ := ob H
      refine WP.fR d_X8_nextSeats_12 gf_X8_92 (fun _ => rfl) ex2 ?_
      refine WP.iload_n d_X8_nextSeats_15 1 rfl ?_
      obtain ⟨x3, ex3, H⟩ := ob H
      refine WP.iald d_X8_nextSeats_16 ex3 ?_
      refine WP.aload_n d_X8_nextSeats_17 0 rfl ?_
      obtain ⟨x4, ex4, H⟩ := ob H
      refine WP.fR d_X8_nextSeats_18 gf_X8_92 (fun _ => rfl) ex4 ?_
      refine WP.iload_n d_X8_nextSeats_21 1 rfl ?_
      refine WP.iconst d_X8_nextSeats_22 ki_1 ?_
      refine WP.iadd d_X8_nextSeats_23 ?_
      obtain ⟨x5, ex5, H⟩ := ob H
      refine WP.iald d_X8_nextSeats_24 ex5 ?_
      rcases oj H with ⟨hc, H⟩ | ⟨hc, H⟩
      · refine WP.icmp_le_t d_X8_nextSeats_25 hc ?_
        refine WP.iinc (lv9 := [(1, .int (l1 + (-1))), (0, .ref t)]) d_X8_nextSeats_28 1 rfl ki_m1 (Nat.le_of_ble_eq_true rfl) rfl ?_
        refine WP.goto d_X8_nextSeats_31 ?_
        refine WP.sub [1, 0] (lv' := [(0, .ref t), (1, .int (l1 + (-1)))]) rfl ?_
        exact ih H K
      · refine WP.icmp_le_f d_X8_nextSeats_25 hc ?_
        cases H
        exact WP.sub [0, 1] rfl K

set_option maxRecDepth 20000 in
set_option maxHeartbeats 4000000 in
theorem okl_X8_nextSeats_L47 (V : EV) {vF : Option Value} {hF : HA} {h : HA} {t : Nat} {l1 : Int32} (n : Nat) : ∀ {l2 : Int32} {r2 : Int32}, (H : X8_nextSeats_L47 h t l1 n l2 = some r2) → (K : WP V M_X8_nextSeats 68 [(0, .ref t), (1, .int l1), (2, .int r2)] [] h 0 0 vF hF) → WP V M_X8_nextSeats 47 [(0, .ref t), (1, .int l1), (2, .int l2)] [] h 0 0 vF hF := by
  induction n with
  | zero =>
    intro l2 r2 H K
    rw [X8_nextSeats_L47] at H
    cases H
  | succ n ih =>
    intro l2 r2 H K
    rw [X8_nextSeats_L47] at H
    refine WP.aload_n d_X8_nextSeats_47 0 rfl ?_
    obtain ⟨x9, ex9, H⟩ := ob H
    refine WP.fR d_X8_nextSeats_48 gf_X8_92 (fun _ => rfl) ex9 ?_
    refine WP.iload_n d_X8_nextSeats_51 2 rfl ?_
    obtain ⟨x10, ex10, H⟩ := ob H
    refine WP.iald d_X8_nextSeats_52 ex10 ?_
    refine WP.aload_n d_X8_nextSeats_53 0 rfl ?_
    obtain ⟨x11, ex11, H⟩ := ob H
    refine WP.fR d_X8_nextSeats_54 gf_X8_92 (fun _ => rfl) ex11 ?_
    refine WP.iload_n d_X8_nextSeats_57 1 rfl ?_
    obtain ⟨x12, ex12, H⟩ := ob H
    refine WP.iald d_X8_nextSeats_58 ex12 ?_
    rcases oj H with ⟨hc, H⟩ | ⟨hc, H⟩
    · refine WP.icmp_ge_t d_X8_nextSeats_59 hc ?_
      refine WP.iinc (lv9 := [(2, .int (l2 + (-1))), (0, .ref t), (1, .int l1)]) d_X8_nextSeats_62 2 rfl ki_m1 (Nat.le_of_ble_eq_true rfl) rfl ?_
      refine WP.goto d_X8_nextSeats_65 ?_
      refine WP.sub [1, 2, 0] (lv' := [(0, .ref t), (1, .int l1), (2, .int (l2 + (-1)))]) rfl ?_
      exact ih H K
    · refine WP.icmp_ge_f d_X8_nextSeats_59 hc ?_
      cases H
      exact WP.sub [0, 1, 2] rfl K

set_option maxRecDepth 20000 in
set_option maxHeartbeats 4000000 in
theorem okl_X8_nextSeats_L86 (V : EV) {vF : Option Value} {hF : HA} {t : Nat} (n : Nat) : ∀ {h : HA} {l3 : Int32} {l4 : Int32} {hR : HA}, (H : X8_nextSeats_L86 t n h l3 l4 = some hR) → (K : WP V M_X8_nextSeats 108 [] [] hR 0 0 vF hF) → WP V M_X8_nextSeats 86 [(0, .ref t), (3, .int l3), (4, .int l4)] [] h 0 0 vF hF := by
  induction n with
  | zero =>
    intro h l3 l4 hR H K
    rw [X8_nextSeats_L86] at H
    cases H
  | succ n ih =>
    intro h l3 l4 hR H K
    rw [X8_nextSeats_L86] at H
    refine WP.iload_n d_X8_nextSeats_86 1 rfl ?_
    refine WP.iload d_X8_nextSeats_87 2 rfl ?_
    rcases oj H with ⟨hc, H⟩ | ⟨hc, H⟩
    · refine WP.icmp_ge_t d_X8_nextSeats_89 hc ?_
      refine WP.aload_n d_X8_nextSeats_92 0 rfl ?_
      refine WP.iload_n d_X8_nextSeats_93 1 rfl ?_
      refine WP.iload d_X8_nextSeats_94 2 rfl ?_
      obtain ⟨h19, e18, H⟩ := ob H
      refine WP.cV (c := 9) (As := [.int l3, .int l4]) (st := []) (st9 := []) (cl9 := 0) (sl9 := 0) d_X8_nextSeats_96 (ok_X8_swap V e18) tv_X8_swap ti_X8_swap ts_X8_swap lk_X8_447 r_X8_nextSeats_X8_swap kc_X8_swap (kd_X8_swap e18) rfl rfl (Nat.le_of_ble_eq_true rfl) rfl rfl rfl ?_
      refine WP.iinc (lv9 := [(3, .int (l3 + 1)), (0, .ref t), (4, .int l4)]) d_X8_nextSeats_99 1 rfl ki_1 (Nat.le_of_ble_eq_true rfl) rfl ?_
      refine WP.iinc (lv9 := [(4, .int (l4 + (-1))), (3, .int (l3 + 1)), (0, .ref t)]) d_X8_nextSeats_102 2 rfl ki_m1 (Nat.le_of_ble_eq_true rfl) rfl ?_
      refine WP.goto d_X8_nextSeats_105 ?_
      refine WP.sub [2, 1, 0] (lv' := [(0, .ref t), (3, .int (l3 + 1)), (4, .int (l4 + (-1)))]) rfl ?_
      exact ih H K
    · refine WP.icmp_ge_f d_X8_nextSeats_89 hc ?_
      cases H
      exact WP.sub [] rfl K

set_option maxRecDepth 20000 in
set_option maxHeartbeats 4000000 in
theorem ok_X8_nextSeats (V : EV) {h : HA} {t : Nat} {r : Int32} {hR : HA} (H : X8_nextSeats h t = some (r, hR)) : MG V M_X8_nextSeats [.ref t] h (some (.int r)) hR := by
  unfold X8_nextSeats at H
  obtain ⟨_, H⟩ := oc H
  refine MG.of (lv0 := [(0, .ref t)]) pn_X8 rfl (Nat.le_of_ble_eq_true rfl) ?_
  refine WP.aload_n d_X8_nextSeats_0 0 rfl ?_
  obtain ⟨x1, ex1, H⟩ := ob H
  refine WP.fI d_X8_nextSeats_1 gf_X8_280 (fun _ => rfl) ex1 ?_
  refine WP.iconst d_X8_nextSeats_4 ki_2 ?_
  refine WP.isub d_X8_nextSeats_5 ?_
  refine WP.istore_n (lv9 := [(1, .int (x1 - 2)), (0, .ref t)]) d_X8_nextSeats_6 (Nat.le_of_ble_eq_true rfl) rfl ?_
  obtain ⟨y7, e6, H⟩ := ob H
  refine WP.sub [1, 0] (lv' := [(0, .ref t), (1, .int (x1 - 2))]) rfl ?_
  refine okl_X8_nextSeats_L7 V _ e6 ?_
  refine WP.iload_n d_X8_nextSeats_34 1 rfl ?_
  rcases oj H with ⟨hc, H⟩ | ⟨hc, H⟩
  · refine WP.if_ge_t d_X8_nextSeats_35 hc ?_
    refine WP.iconst d_X8_nextSeats_38 ki_0 ?_
    cases H
    exact WP.ireturn d_X8_nextSeats_39 rfl rfl (Nat.le_of_ble_eq_true rfl) (Nat.le_of_ble_eq_true rfl)
  · refine WP.if_ge_f d_X8_nextSeats_35 hc ?_
    refine WP.aload_n d_X8_nextSeats_40 0 rfl ?_
    obtain ⟨x8, ex8, H⟩ := ob H
    refine WP.fI d_X8_nextSeats_41 gf_X8_280 (fun _ => rfl) ex8 ?_
    refine WP.iconst d_X8_nextSeats_44 ki_1 ?_
    refine WP.isub d_X8_nextSeats_45 ?_
    refine WP.istore_n (lv9 := [(2, .int (x8 - 1)), (0, .ref t), (1, .int y7)]) d_X8_nextSeats_46 (Nat.le_of_ble_eq_true rfl) rfl ?_
    obtain ⟨y14, e13, H⟩ := ob H
    refine WP.sub [1, 2, 0] (lv' := [(0, .ref t), (1, .int y7), (2, .int (x8 - 1))]) rfl ?_
    refine okl_X8_nextSeats_L47 V _ e13 ?_
    refine WP.aload_n d_X8_nextSeats_68 0 rfl ?_
    refine WP.iload_n d_X8_nextSeats_69 1 rfl ?_
    refine WP.iload_n d_X8_nextSeats_70 2 rfl ?_
    obtain ⟨h16, e15, H⟩ := ob H
    refine WP.cV (c := 9) (As := [.int y7, .int y14]) (st := []) (st9 := []) (cl9 := 0) (sl9 := 0) d_X8_nextSeats_71 (ok_X8_swap V e15) tv_X8_swap ti_X8_swap ts_X8_swap lk_X8_447 r_X8_nextSeats_X8_swap kc_X8_swap (kd_X8_swap e15) rfl rfl (Nat.le_of_ble_eq_true rfl) rfl rfl rfl ?_
    refine WP.iload_n d_X8_nextSeats_74 1 rfl ?_
    refine WP.iconst d_X8_nextSeats_75 ki_1 ?_
    refine WP.iadd d_X8_nextSeats_76 ?_
    refine WP.istore_n (lv9 := [(3, .int (y7 + 1)), (0, .ref t), (1, .int y7), (2, .int y14)]) d_X8_nextSeats_77 (Nat.le_of_ble_eq_true rfl) rfl ?_
    refine WP.aload_n d_X8_nextSeats_78 1 rfl ?_
    obtain ⟨x17, ex17, H⟩ := ob H
    refine WP.fI d_X8_nextSeats_79 gf_X8_280 (fun _ => rfl) ex17 ?_
    refine WP.iconst d_X8_nextSeats_82 ki_1 ?_
    refine WP.isub d_X8_nextSeats_83 ?_
    refine WP.istore (lv9 := [(4, .int (x17 - 1)), (3, .int (y7 + 1)), (0, .ref t), (1, .int y7), (2, .int y14)]) d_X8_nextSeats_84 (Nat.le_of_ble_eq_true rfl) rfl ?_
    obtain ⟨h21, e20, H⟩ := ob H
    refine WP.sub [2, 1, 0] (lv' := [(0, .ref t), (3, .int (y7 + 1)), (4, .int (x17 - 1))]) rfl ?_
    refine okl_X8_nextSeats_L86 V _ e20 ?_
    refine WP.iconst d_X8_nextSeats_108 ki_1 ?_
    cases H
    exact WP.ireturn d_X8_nextSeats_109 rfl rfl (Nat.le_of_ble_eq_true rfl) (Nat.le_of_ble_eq_true rfl)

set_option maxRecDepth 20000 in
set_option maxHeartbeats 4000000 in
theorem okl_X8_findSeats_L19 (V : EV) {vF : Option Value} {hF : HA} {t : Nat} {l1 : Int32} (n : Nat) : ∀ {h : HA} {l2 : Int32} {hR : HA}, (H : X8_findSeats_L19 t l1 n h l2 = some hR) → (K : WP V M_X8_findSeats 63 [(0, .ref t), (1, .int l1)] [] hR 0 0 vF hF) → WP V M_X8_findSeats 19 [(0, .ref t), (1, .int l1), (2, .int l2)] [] h 0 0 vF hF := by
  induction n with
  | zero =>
    intro h l2 hR H K
    rw [X8_findSeats_L19] at H
    cases H
  | succ n ih =>
    intro h l2 hR H K
    rw [X8_findSeats_L19] at H
    refine WP.iload_n d_X8_findSeats_19 2 rfl ?_
    refine WP.aload_n d_X8_findSeats_20 0 rfl ?_
    obtain ⟨x4, ex4, H⟩ := ob H
    refine WP.fI d_X8_findSeats_21 gf_X8_280 (fun _ => rfl) ex4 ?_
    rcases oj H with ⟨hc, H⟩ | ⟨hc, H⟩
    · refine WP.icmp_ge_t d_X8_findSeats_24 hc ?_
      refine WP.aload_n d_X8_findSeats_27 0 rfl ?_
      obtain ⟨x5, ex5, H⟩ := ob H
      refine WP.fR d_X8_findSeats_28 gf_X8_89 (fun _ => rfl) ex5 ?_
      refine WP.bipush d_X8_findSeats_31 kb_6 ?_
      refine WP.iload_n d_X8_findSeats_33 1 rfl ?_
      refine WP.imul d_X8_findSeats_34 ?_
      refine WP.iload_n d_X8_findSeats_35 2 rfl ?_
      refine WP.iadd d_X8_findSeats_36 ?_
      refine WP.aload_n d_X8_findSeats_37 0 rfl ?_
      refine WP.iload_n d_X8_findSeats_38 2 rfl ?_
      refine WP.aload_n d_X8_findSeats_39 0 rfl ?_
      refine WP.iload_n d_X8_findSeats_40 1 rfl ?_
      obtain ⟨x7, e6, H⟩ := ob H
      refine WP.cV (c := 9) (As := [.int l1]) (st := [.int l2, .ref t, .int ((6 * l1) + l2), .ref x5]) (st9 := [.int x7, .int l2, .ref t, .int ((6 * l1) + l2), .ref x5]) (cl9 := 0) (sl9 := 0) d_X8_findSeats_41 (ok_X8_earsOf V e6) tv_X8_earsOf ti_X8_earsOf ts_X8_earsOf lk_X8_314 r_X8_findSeats_X8_earsOf kc_X8_earsOf (kd_X8_earsOf e6) rfl rfl (Nat.le_of_ble_eq_true rfl) rfl rfl rfl ?_
      refine WP.aload_n d_X8_findSeats_44 0 rfl ?_
      refine WP.iload_n d_X8_findSeats_45 1 rfl ?_
      refine WP.iconst d_X8_findSeats_46 ki_3 ?_
      obtain ⟨x9, e8, H⟩ := ob H
      refine WP.cV (c := 9) (As := [.int l1, .int 3]) (st := [.int x7, .int l2, .ref t, .int ((6 * l1) + l2), .ref x5]) (st9 := [.int x9, .int x7, .int l2, .ref t, .int ((6 * l1) + l2), .ref x5]) (cl9 := 0) (sl9 := 0) d_X8_findSeats_47 (ok_X8_judgeOf V e8) tv_X8_judgeOf ti_X8_judgeOf ts_X8_judgeOf lk_X8_307 r_X8_findSeats_X8_judgeOf kc_X8_judgeOf (kd_X8_judgeOf e8) rfl rfl (Nat.le_of_ble_eq_true rfl) rfl rfl rfl ?_
      obtain ⟨x11, e10, H⟩ := ob H
      refine WP.cV (c := 9) (As := [.int l2, .int x7, .int x9]) (st := [.int ((6 * l1) + l2), .ref x5]) (st9 := [.int x11, .int ((6 * l1) + l2), .ref x5]) (cl9 := 0) (sl9 := 0) d_X8_findSeats_50 (ok_X8_knownIn V e10) tv_X8_knownIn ti_X8_knownIn ts_X8_knownIn lk_X8_399 r_X8_findSeats_X8_knownIn kc_X8_knownIn (kd_X8_knownIn e10) rfl rfl (Nat.le_of_ble_eq_true rfl) rfl rfl rfl ?_
      obtain ⟨x13, e12, H⟩ := ob H
      refine WP.cS (As := [.int x11]) (st := [.int ((6 * l1) + l2), .ref x5]) (st9 := [.int x13, .int ((6 * l1) + l2), .ref x5]) (cl9 := 0) (sl9 := 0) d_X8_findSeats_53 (ok_X8_ones V (h := h) e12) tv_X8_ones ts_X8_ones lk_X8_349 r_X8_findSeats_X8_ones rfl rfl (Nat.le_of_ble_eq_true rfl) rfl rfl rfl ?_
      obtain ⟨h14, eh14, H⟩ := ob H
      refine WP.ias d_X8_findSeats_56 eh14 ?_
      refine WP.iinc (lv9 := [(2, .int (l2 + 1)), (0, .ref t), (1, .int l1)]) d_X8_findSeats_57 2 rfl ki_1 (Nat.le_of_ble_eq_true rfl) rfl ?_
      refine WP.goto d_X8_findSeats_60 ?_
      refine WP.sub [1, 2, 0] (lv' := [(0, .ref t), (1, .int l1), (2, .int (l2 + 1))]) rfl ?_
      exact ih H K
    · refine WP.icmp_ge_f d_X8_findSeats_24 hc ?_
      cases H
      exact WP.sub [0, 1] rfl K

set_option maxRecDepth 20000 in
set_option maxHeartbeats 4000000 in
theorem okl_X8_findSeats_L2 (V : EV) {vF : Option Value} {hF : HA} {t : Nat} (n : Nat) : ∀ {h : HA} {l1 : Int32} {hR : HA}, (H : X8_findSeats_L2 t n h l1 = some hR) → (K : WP V M_X8_findSeats 69 [(0, .ref t)] [] hR 0 0 vF hF) → WP V M_X8_findSeats 2 [(0, .ref t), (1, .int l1)] [] h 0 0 vF hF := by
  induction n with
  | zero =>
    intro h l1 hR H K
    rw [X8_findSeats_L2] at H
    cases H
  | succ n ih =>
    intro h l1 hR H K
    rw [X8_findSeats_L2] at H
    refine WP.iload_n d_X8_findSeats_2 1 rfl ?_
    refine WP.aload_n d_X8_findSeats_3 0 rfl ?_
    obtain ⟨x1, ex1, H⟩ := ob H
    refine WP.fI d_X8_findSeats_4 gf_X8_280 (fun _ => rfl) ex1 ?_
    rcases oj H with ⟨hc, H⟩ | ⟨hc, H⟩
    · refine WP.icmp_ge_t d_X8_findSeats_7 hc ?_
      refine WP.aload_n d_X8_findSeats_10 0 rfl ?_
      obtain ⟨x2, ex2, H⟩ := ob H
      refine WP.fR d_X8_findSeats_11 gf_X8_92 (fun _ => rfl) ex2 ?_
      refine WP.iload_n d_X8_findSeats_14 1 rfl ?_
      refine WP.iload_n d_X8_findSeats_15 1 rfl ?_
      obtain ⟨h3, eh3, H⟩ := ob H
      refine WP.ias d_X8_findSeats_16 eh3 ?_
      refine WP.iconst d_X8_findSeats_17 ki_0 ?_
      refine WP.istore_n (lv9 := [(2, .int 0), (0, .ref t), (1, .int l1)]) d_X8_findSeats_18 (Nat.le_of_ble_eq_true rfl) rfl ?_
      obtain ⟨h16, e15, H⟩ := ob H
      refine WP.sub [1, 2, 0] (lv' := [(0, .ref t), (1, .int l1), (2, .int 0)]) rfl ?_
      refine okl_X8_findSeats_L19 V _ e15 ?_
      refine WP.iinc (lv9 := [(1, .int (l1 + 1)), (0, .ref t)]) d_X8_findSeats_63 1 rfl ki_1 (Nat.le_of_ble_eq_true rfl) rfl ?_
      refine WP.goto d_X8_findSeats_66 ?_
      refine WP.sub [1, 0] (lv' := [(0, .ref t), (1, .int (l1 + 1))]) rfl ?_
      exact ih H K
    · refine WP.icmp_ge_f d_X8_findSeats_7 hc ?_
      cases H
      exact WP.sub [0] rfl K

set_option maxRecDepth 20000 in
set_option maxHeartbeats 4000000 in
theorem okl_X8_findSeats_L82 (V : EV) {vF : Option Value} {hF : HA} {h : HA} {t : Nat} {l1 : Int32} (n : Nat) : ∀ {l3 : Int32} {l4 : Int32} {r3 : Int32}, (H : X8_findSeats_L82 h t n l3 l4 = some r3) → (K : WP V M_X8_findSeats 118 [(0, .ref t), (1, .int l1), (3, .int r3)] [] h 0 0 vF hF) → WP V M_X8_findSeats 82 [(0, .ref t), (1, .int l1), (3, .int l3), (4, .int l4)] [] h 0 0 vF hF := by
  induction n with
  | zero =>
    intro l3 l4 r3 H K
    rw [X8_findSeats_L82] at H
    cases H
  | succ n ih =>
    intro l3 l4 r3 H K
    rw [X8_findSeats_L82] at H
    refine WP.iload d_X8_findSeats_82 3 rfl ?_
    refine WP.aload_n d_X8_findSeats_84 0 rfl ?_
    obtain ⟨x19, ex19, H⟩ := ob H
    refine WP.fI d_X8_findSeats_85 gf_X8_280 (fun _ => rfl) ex19 ?_
    rcases oj H with ⟨hc, H⟩ | ⟨hc, H⟩
    · refine WP.icmp_ge_t d_X8_findSeats_88 hc ?_
      refine WP.iload_n d_X8_findSeats_91 2 rfl ?_
      refine WP.aload_n d_X8_findSeats_92 0 rfl ?_
      obtain ⟨x20, ex20, H⟩ := ob H
      refine WP.fR d_X8_findSeats_93 gf_X8_89 (fun _ => rfl) ex20 ?_
      refine WP.bipush d_X8_findSeats_96 kb_6 ?_
      refine WP.iload d_X8_findSeats_98 3 rfl ?_
      refine WP.imul d_X8_findSeats_100 ?_
      refine WP.aload_n d_X8_findSeats_101 0 rfl ?_
      obtain ⟨x21, ex21, H⟩ := ob H
      refine WP.fR d_X8_findSeats_102 gf_X8_92 (fun _ => rfl) ex21 ?_
      refine WP.iload d_X8_findSeats_105 3 rfl ?_
      obtain ⟨x22, ex22, H⟩ := ob H
      refine WP.iald d_X8_findSeats_107 ex22 ?_
      refine WP.iadd d_X8_findSeats_108 ?_
      obtain ⟨x23, ex23, H⟩ := ob H
      refine WP.iald d_X8_findSeats_109 ex23 ?_
      refine WP.iadd d_X8_findSeats_110 ?_
      refine WP.istore_n (lv9 := [(3, .int (l3 + x23)), (0, .ref t), (1, .int l1), (4, .int l4)]) d_X8_findSeats_111 (Nat.le_of_ble_eq_true rfl) rfl ?_
      refine WP.iinc (lv9 := [(4, .int (l4 + 1)), (3, .int (l3 + x23)), (0, .ref t), (1, .int l1)]) d_X8_findSeats_112 3 rfl ki_1 (Nat.le_of_ble_eq_true rfl) rfl ?_
      refine WP.goto d_X8_findSeats_115 ?_
      refine WP.sub [2, 3, 1, 0] (lv' := [(0, .ref t), (1, .int l1), (3, .int (l3 + x23)), (4, .int (l4 + 1))]) rfl ?_
      exact ih H K
    · refine WP.icmp_ge_f d_X8_findSeats_88 hc ?_
      cases H
      exact WP.sub [0, 1, 2] rfl K

set_option maxRecDepth 20000 in
set_option maxHeartbeats 4000000 in
theorem okl_X8_findSeats_L121 (V : EV) {vF : Option Value} {hF : HA} {t : Nat} {l1 : Int32} {l3 : Int32} (n : Nat) : ∀ {h : HA} {l4 : Int32} {hR : HA}, (H : X8_findSeats_L121 t l1 l3 n h l4 = some hR) → (K : WP V M_X8_findSeats 155 [(0, .ref t), (1, .int l1), (3, .int l3)] [] hR 0 0 vF hF) → WP V M_X8_findSeats 121 [(0, .ref t), (1, .int l1), (3, .int l3), (4, .int l4)] [] h 0 0 vF hF := by
  induction n with
  | zero =>
    intro h l4 hR H K
    rw [X8_findSeats_L121] at H
    cases H
  | succ n ih =>
    intro h l4 hR H K
    rw [X8_findSeats_L121] at H
    refine WP.iload d_X8_findSeats_121 3 rfl ?_
    refine WP.aload_n d_X8_findSeats_123 0 rfl ?_
    obtain ⟨x26, ex26, H⟩ := ob H
    refine WP.fI d_X8_findSeats_124 gf_X8_280 (fun _ => rfl) ex26 ?_
    rcases oj H with ⟨hc, H⟩ | ⟨hc, H⟩
    · refine WP.icmp_ge_t d_X8_findSeats_127 hc ?_
      refine WP.iload_n d_X8_findSeats_130 2 rfl ?_
      refine WP.iload_n d_X8_findSeats_131 1 rfl ?_
      rcases oj H with ⟨hc, H⟩ | ⟨hc, H⟩
      · refine WP.icmp_le_t d_X8_findSeats_132 hc ?_
        refine WP.aload_n d_X8_findSeats_135 0 rfl ?_
        obtain ⟨x27, ex27, H⟩ := ob H
        refine WP.fR d_X8_findSeats_136 gf_X8_95 (fun _ => rfl) ex27 ?_
        refine WP.iload d_X8_findSeats_139 3 rfl ?_
        refine WP.aload_n d_X8_findSeats_141 0 rfl ?_
        obtain ⟨x28, ex28, H⟩ := ob H
        refine WP.fR d_X8_findSeats_142 gf_X8_92 (fun _ => rfl) ex28 ?_
        refine WP.iload d_X8_findSeats_145 3 rfl ?_
        obtain ⟨x29, ex29, H⟩ := ob H
        refine WP.iald d_X8_findSeats_147 ex29 ?_
        obtain ⟨h30, eh30, H⟩ := ob H
        refine WP.ias d_X8_findSeats_148 eh30 ?_
        refine WP.iinc (lv9 := [(4, .int (l4 + 1)), (0, .ref t), (1, .int l1), (3, .int l3)]) d_X8_findSeats_149 3 rfl ki_1 (Nat.le_of_ble_eq_true rfl) rfl ?_
        refine WP.goto d_X8_findSeats_152 ?_
        refine WP.sub [1, 2, 3, 0] (lv' := [(0, .ref t), (1, .int l1), (3, .int l3), (4, .int (l4 + 1))]) rfl ?_
        exact ih H K
      · refine WP.icmp_le_f d_X8_findSeats_132 hc ?_
        cases H
        exact WP.sub [0, 1, 2] rfl K
    · refine WP.icmp_ge_f d_X8_findSeats_127 hc ?_
      cases H
      exact WP.sub [0, 1, 2] rfl K

set_option maxRecDepth 20000 in
set_option maxHeartbeats 4000000 in
theorem okl_X8_findSeats_L73 (V : EV) {vF : Option Value} {hF : HA} {t : Nat} (n : Nat) : ∀ {h : HA} {l1 : Int32} {l2 : Int32} {r1 : Int32} {hR : HA}, (H : X8_findSeats_L73 t n h l1 l2 = some (r1, hR)) → (K : WP V M_X8_findSeats 169 [(1, .int r1)] [] hR 0 0 vF hF) → WP V M_X8_findSeats 73 [(0, .ref t), (1, .int l1), (2, .int l2)] [] h 0 0 vF hF := by
  induction n with
  | zero =>
    intro h l1 l2 r1 hR H K
    rw [X8_findSeats_L73] at H
    cases H
  | succ n ih =>
    intro h l1 l2 r1 hR H K
    rw [X8_findSeats_L73] at H
    refine WP.iload_n d_X8_findSeats_73 2 rfl ?_
    rcases oj H with ⟨hc, H⟩ | ⟨hc, H⟩
    · refine WP.if_eq_t d_X8_findSeats_74 hc ?_
      cases H
      exact WP.sub [1] rfl K
    · refine WP.if_eq_f d_X8_findSeats_74 hc ?_
      refine WP.iconst d_X8_findSeats_77 ki_0 ?_
      refine WP.istore_n (lv9 := [(3, .int 0), (0, .ref t), (1, .int l1), (2, .int l2)]) d_X8_findSeats_78 (Nat.le_of_ble_eq_true rfl) rfl ?_
      refine WP.iconst d_X8_findSeats_79 ki_0 ?_
      refine WP.istore (lv9 := [(4, .int 0), (3, .int 0), (0, .ref t), (1, .int l1), (2, .int l2)]) d_X8_findSeats_80 (Nat.le_of_ble_eq_true rfl) rfl ?_
      obtain ⟨y25, e24, H⟩ := ob H
      refine WP.sub [2, 3, 1, 0] (lv' := [(0, .ref t), (1, .int l1), (3, .int 0), (4, .int 0)]) rfl ?_
      refine okl_X8_findSeats_L82 V _ e24 ?_
      refine WP.iconst d_X8_findSeats_118 ki_0 ?_
      refine WP.istore (lv9 := [(4, .int 0), (0, .ref t), (1, .int l1), (3, .int y25)]) d_X8_findSeats_119 (Nat.le_of_ble_eq_true rfl) rfl ?_
      obtain ⟨h32, e31, H⟩ := ob H
      refine WP.sub [1, 2, 3, 0] (lv' := [(0, .ref t), (1, .int l1), (3, .int y25), (4, .int 0)]) rfl ?_
      refine okl_X8_findSeats_L121 V _ e31 ?_
      refine WP.iload_n d_X8_findSeats_155 1 rfl ?_
      refine WP.iload_n d_X8_findSeats_156 2 rfl ?_
      obtain ⟨x34, e33, H⟩ := ob H
      refine WP.cS (As := [.int l1, .int y25]) (st := []) (st9 := [.int x34]) (cl9 := 0) (sl9 := 0) d_X8_findSeats_157 (ok_X8_greater V (h := h32) e33) tv_X8_greater ts_X8_greater lk_X8_171 r_X8_findSeats_X8_greater rfl rfl (Nat.le_of_ble_eq_true rfl) rfl rfl rfl ?_
      refine WP.istore_n (lv9 := [(1, .int x34), (0, .ref t), (3, .int y25)]) d_X8_findSeats_160 (Nat.le_of_ble_eq_true rfl) rfl ?_
      refine WP.aload_n d_X8_findSeats_161 1 rfl ?_
      obtain ⟨⟨x37, h36⟩, e35, H⟩ := ob H
      refine WP.cV (c := 9) (As := []) (st := []) (st9 := [.int x37]) (cl9 := 0) (sl9 := 0) d_X8_findSeats_162 (ok_X8_nextSeats V e35) tv_X8_nextSeats ti_X8_nextSeats ts_X8_nextSeats lk_X8_450 r_X8_findSeats_X8_nextSeats kc_X8_nextSeats (kd_X8_nextSeats e35) rfl rfl (Nat.le_of_ble_eq_true rfl) rfl rfl rfl ?_
      refine WP.istore_n (lv9 := [(2, .int x37), (1, .int x34), (0, .ref t), (3, .int y25)]) d_X8_findSeats_165 (Nat.le_of_ble_eq_true rfl) rfl ?_
      refine WP.goto d_X8_findSeats_166 ?_
      refine WP.sub [2, 1, 0] (lv' := [(0, .ref t), (1, .int x34), (2, .int x37)]) rfl ?_
      exact ih H K

set_option maxRecDepth 20000 in
set_option maxHeartbeats 4000000 in
theorem ok_X8_findSeats (V : EV) {h : HA} {t : Nat} {r : Int32} {hR : HA} (H : X8_findSeats h t = some (r, hR)) : MG V M_X8_findSeats [.ref t] h (some (.int r)) hR := by
  unfold X8_findSeats at H
  obtain ⟨_, H⟩ := oc H
  refine MG.of (lv0 := [(0, .ref t)]) pn_X8 rfl (Nat.le_of_ble_eq_true rfl) ?_
  refine WP.iconst d_X8_findSeats_0 ki_0 ?_
  refine WP.istore_n (lv9 := [(1, .int 0), (0, .ref t)]) d_X8_findSeats_1 (Nat.le_of_ble_eq_true rfl) rfl ?_
  obtain ⟨h18, e17, H⟩ := ob H
  refine WP.sub [1, 0] (lv' := [(0, .ref t), (1, .int 0)]) rfl ?_
  refine okl_X8_findSeats_L2 V _ e17 ?_
  refine WP.iconst d_X8_findSeats_69 ki_m1 ?_
  refine WP.istore_n (lv9 := [(1, .int (-1)), (0, .ref t)]) d_X8_findSeats_70 (Nat.le_of_ble_eq_true rfl) rfl ?_
  refine WP.iconst d_X8_findSeats_71 ki_1 ?_
  refine WP.istore_n (lv9 := [(2, .int 1), (1, .int (-1)), (0, .ref t)]) d_X8_findSeats_72 (Nat.le_of_ble_eq_true rfl) rfl ?_
  obtain ⟨⟨y39, h40⟩, e38, H⟩ := ob H
  refine WP.sub [2, 1, 0] (lv' := [(0, .ref t), (1, .int (-1)), (2, .int 1)]) rfl ?_
  refine okl_X8_findSeats_L73 V _ e38 ?_
  refine WP.iload_n d_X8_findSeats_169 0 rfl ?_
  cases H
  exact WP.ireturn d_X8_findSeats_170 rfl rfl (Nat.le_of_ble_eq_true rfl) (Nat.le_of_ble_eq_true rfl)

set_option maxRecDepth 20000 in
set_option maxHeartbeats 4000000 in
theorem ok_X8_seats (V : EV) {h : HA} {t : Nat} {l1 : Int32} {l2 : Int32} {l3 : Int32} {r : Int32} {hR : HA} (H : X8_seats h t l1 l2 l3 = some (r, hR)) : MG V M_X8_seats [.ref t, .int l1, .int l2, .int l3] h (some (.int r)) hR := by
  unfold X8_seats at H
  obtain ⟨_, H⟩ := oc H
  refine MG.of (lv0 := [(0, .ref t), (1, .int l1), (2, .int l2), (3, .int l3)]) pn_X8 rfl (Nat.le_of_ble_eq_true rfl) ?_
  refine WP.aload_n d_X8_seats_0 0 rfl ?_
  refine WP.iconst d_X8_seats_1 ki_0 ?_
  obtain ⟨h1, eh1, H⟩ := ob H
  refine WP.uI d_X8_seats_2 gf_X8_102 rfl (Or.inl rfl) rfl rfl eh1 ?_
  refine WP.aload_n d_X8_seats_5 0 rfl ?_
  refine WP.iload_n d_X8_seats_6 1 rfl ?_
  refine WP.iload_n d_X8_seats_7 2 rfl ?_
  obtain ⟨⟨x4, h3⟩, e2, H⟩ := ob H
  refine WP.cV (c := 9) (As := [.int l1, .int l2]) (st := []) (st9 := [.int x4]) (cl9 := 0) (sl9 := 0) d_X8_seats_8 (ok_X8_layTrial V e2) tv_X8_layTrial ti_X8_layTrial ts_X8_layTrial lk_X8_385 r_X8_seats_X8_layTrial kc_X8_layTrial (kd_X8_layTrial e2) rfl rfl (Nat.le_of_ble_eq_true rfl) rfl rfl rfl ?_
  rcases oj H with ⟨hc, H⟩ | ⟨hc, H⟩
  · refine WP.if_eq_t d_X8_seats_11 hc ?_
    refine WP.iconst d_X8_seats_28 ki_m1 ?_
    cases H
    exact WP.ireturn d_X8_seats_29 rfl rfl (Nat.le_of_ble_eq_true rfl) (Nat.le_of_ble_eq_true rfl)
  · refine WP.if_eq_f d_X8_seats_11 hc ?_
    refine WP.iload_n d_X8_seats_14 3 rfl ?_
    refine WP.iconst d_X8_seats_15 ki_m1 ?_
    refine WP.aload_n d_X8_seats_16 0 rfl ?_
    obtain ⟨x5, ex5, H⟩ := ob H
    refine WP.fI d_X8_seats_17 gf_X8_280 (fun _ => rfl) ex5 ?_
    refine WP.iconst d_X8_seats_20 ki_1 ?_
    refine WP.isub d_X8_seats_21 ?_
    obtain ⟨x7, e6, H⟩ := ob H
    refine WP.cS (As := [.int l3, .int (-1), .int (x5 - 1)]) (st := []) (st9 := [.int x7]) (cl9 := 0) (sl9 := 0) d_X8_seats_22 (ok_X8_in V (h := h3) e6) tv_X8_in ts_X8_in lk_X8_114 r_X8_seats_X8_in rfl rfl (Nat.le_of_ble_eq_true rfl) rfl rfl rfl ?_
    rcases oj H with ⟨hc, H⟩ | ⟨hc, H⟩
    · refine WP.if_ne_t d_X8_seats_25 hc ?_
      refine WP.iconst d_X8_seats_28 ki_m1 ?_
      cases H
      exact WP.ireturn d_X8_seats_29 rfl rfl (Nat.le_of_ble_eq_true rfl) (Nat.le_of_ble_eq_true rfl)
    · refine WP.if_ne_f d_X8_seats_25 hc ?_
      refine WP.aload_n d_X8_seats_30 0 rfl ?_
      obtain ⟨⟨x10, h9⟩, e8, H⟩ := ob H
      refine WP.cV (c := 9) (As := []) (st := []) (st9 := [.int x10]) (cl9 := 0) (sl9 := 0) d_X8_seats_31 (ok_X8_findSeats V e8) tv_X8_findSeats ti_X8_findSeats ts_X8_findSeats lk_X8_453 r_X8_seats_X8_findSeats kc_X8_findSeats (kd_X8_findSeats e8) rfl rfl (Nat.le_of_ble_eq_true rfl) rfl rfl rfl ?_
      refine WP.istore (lv9 := [(4, .int x10), (0, .ref t), (1, .int l1), (2, .int l2), (3, .int l3)]) d_X8_seats_34 (Nat.le_of_ble_eq_true rfl) rfl ?_
      refine WP.iload_n d_X8_seats_36 4 rfl ?_
      refine WP.iconst d_X8_seats_37 ki_m1 ?_
      rcases oj H with ⟨hc, H⟩ | ⟨hc, H⟩
      · refine WP.icmp_ne_t d_X8_seats_38 hc ?_
        refine WP.iload d_X8_seats_41 0 rfl ?_
        refine WP.goto d_X8_seats_43 ?_
        cases H
        exact WP.ireturn d_X8_seats_52 rfl rfl (Nat.le_of_ble_eq_true rfl) (Nat.le_of_ble_eq_true rfl)
      · refine WP.icmp_ne_f d_X8_seats_38 hc ?_
        refine WP.aload_n d_X8_seats_46 1 rfl ?_
        obtain ⟨x11, ex11, H⟩ := ob H
        refine WP.fR d_X8_seats_47 gf_X8_95 (fun _ => rfl) ex11 ?_
        refine WP.iload_n d_X8_seats_50 4 rfl ?_
        obtain ⟨x12, ex12, H⟩ := ob H
        refine WP.iald d_X8_seats_51 ex12 ?_
        cases H
        exact WP.ireturn d_X8_seats_52 rfl rfl (Nat.le_of_ble_eq_true rfl) (Nat.le_of_ble_eq_true rfl)

set_option maxRecDepth 20000 in
set_option maxHeartbeats 4000000 in
theorem ok_X8_claims (V : EV) {h : HA} {t : Nat} {r : Int32} (H : X8_claims h t = some r) : MG V M_X8_claims [.ref t] h (some (.int r)) h := by
  unfold X8_claims at H
  obtain ⟨_, H⟩ := oc H
  refine MG.of (lv0 := [(0, .ref t)]) pn_X8 rfl (Nat.le_of_ble_eq_true rfl) ?_
  refine WP.aload_n d_X8_claims_0 0 rfl ?_
  obtain ⟨x1, ex1, H⟩ := ob H
  refine WP.fR d_X8_claims_1 gf_X8_35 (fun _ => rfl) ex1 ?_
  refine WP.bipush d_X8_claims_4 kb_25 ?_
  refine WP.aload_n d_X8_claims_6 0 rfl ?_
  obtain ⟨x2, ex2, H⟩ := ob H
  refine WP.fI d_X8_claims_7 gf_X8_456 (fun _ => rfl) ex2 ?_
  refine WP.imul d_X8_claims_10 ?_
  obtain ⟨x3, ex3, H⟩ := ob H
  refine WP.iald d_X8_claims_11 ex3 ?_
  cases H
  exact WP.ireturn d_X8_claims_12 rfl rfl (Nat.le_of_ble_eq_true rfl) (Nat.le_of_ble_eq_true rfl)

set_option maxRecDepth 20000 in
set_option maxHeartbeats 4000000 in
theorem ok_X8_claimOf (V : EV) {h : HA} {t : Nat} {l1 : Int32} {l2 : Int32} {r : Int32} (H : X8_claimOf h t l1 l2 = some r) : MG V M_X8_claimOf [.ref t, .int l1, .int l2] h (some (.int r)) h := by
  unfold X8_claimOf at H
  obtain ⟨_, H⟩ := oc H
  refine MG.of (lv0 := [(0, .ref t), (1, .int l1), (2, .int l2)]) pn_X8 rfl (Nat.le_of_ble_eq_true rfl) ?_
  refine WP.aload_n d_X8_claimOf_0 0 rfl ?_
  obtain ⟨x1, ex1, H⟩ := ob H
  refine WP.fR d_X8_claimOf_1 gf_X8_35 (fun _ => rfl) ex1 ?_
  refine WP.bipush d_X8_claimOf_4 kb_25 ?_
  refine WP.aload_n d_X8_claimOf_6 0 rfl ?_
  obtain ⟨x2, ex2, H⟩ := ob H
  refine WP.fI d_X8_claimOf_7 gf_X8_456 (fun _ => rfl) ex2 ?_
  refine WP.imul d_X8_claimOf_10 ?_
  refine WP.iconst d_X8_claimOf_11 ki_1 ?_
  refine WP.iadd d_X8_claimOf_12 ?_
  refine WP.iconst d_X8_claimOf_13 ki_2 ?_
  refine WP.iload_n d_X8_claimOf_14 1 rfl ?_
  refine WP.imul d_X8_claimOf_15 ?_
  refine WP.iadd d_X8_claimOf_16 ?_
  refine WP.iload_n d_X8_claimOf_17 2 rfl ?_
  refine WP.iadd d_X8_claimOf_18 ?_
  obtain ⟨x3, ex3, H⟩ := ob H
  refine WP.iald d_X8_claimOf_19 ex3 ?_
  cases H
  exact WP.ireturn d_X8_claimOf_20 rfl rfl (Nat.le_of_ble_eq_true rfl) (Nat.le_of_ble_eq_true rfl)

set_option maxRecDepth 20000 in
set_option maxHeartbeats 4000000 in
theorem ok_X8_hasRoll (V : EV) {h : HA} {t : Nat} {l1 : Int32} {r : Int32} {hR : HA} (H : X8_hasRoll h t l1 = some (r, hR)) : MG V M_X8_hasRoll [.ref t, .int l1] h (some (.int r)) hR := by
  unfold X8_hasRoll at H
  obtain ⟨_, H⟩ := oc H
  refine MG.of (lv0 := [(0, .ref t), (1, .int l1)]) pn_X8 rfl (Nat.le_of_ble_eq_true rfl) ?_
  refine WP.aload_n d_X8_hasRoll_0 0 rfl ?_
  refine WP.iload_n d_X8_hasRoll_1 1 rfl ?_
  obtain ⟨h1, eh1, H⟩ := ob H
  refine WP.uI d_X8_hasRoll_2 gf_X8_456 rfl (Or.inl rfl) rfl rfl eh1 ?_
  refine WP.aload_n d_X8_hasRoll_5 0 rfl ?_
  refine WP.iconst d_X8_hasRoll_6 ki_3 ?_
  refine WP.iload_n d_X8_hasRoll_7 1 rfl ?_
  obtain ⟨x3, e2, H⟩ := ob H
  refine WP.cV (c := 9) (As := [.int 3, .int l1]) (st := []) (st9 := [.int x3]) (cl9 := 0) (sl9 := 0) d_X8_hasRoll_8 (ok_X8_is V e2) tv_X8_is ti_X8_is ts_X8_is lk_X8_254 r_X8_hasRoll_X8_is kc_X8_is (kd_X8_is e2) rfl rfl (Nat.le_of_ble_eq_true rfl) rfl rfl rfl ?_
  obtain ⟨x4, ex4, H⟩ := ob H
  obtain ⟨rfl, hnx4⟩ := bz_sp ex4
  cases H
  exact WP.ireturn d_X8_hasRoll_11 rfl hnx4 (Nat.le_of_ble_eq_true rfl) (Nat.le_of_ble_eq_true rfl)

set_option maxRecDepth 20000 in
set_option maxHeartbeats 4000000 in
theorem ok_X8_claim (V : EV) {h : HA} {t : Nat} {l1 : Int32} {l2 : Int32} {l3 : Int32} {r : Int32} {hR : HA} (H : X8_claim h t l1 l2 l3 = some (r, hR)) : MG V M_X8_claim [.ref t, .int l1, .int l2, .int l3] h (some (.int r)) hR := by
  unfold X8_claim at H
  obtain ⟨_, H⟩ := oc H
  refine MG.of (lv0 := [(0, .ref t), (1, .int l1), (2, .int l2), (3, .int l3)]) pn_X8 rfl (Nat.le_of_ble_eq_true rfl) ?_
  refine WP.aload_n d_X8_claim_0 0 rfl ?_
  refine WP.iconst d_X8_claim_1 ki_0 ?_
  obtain ⟨h1, eh1, H⟩ := ob H
  refine WP.uI d_X8_claim_2 gf_X8_102 rfl (Or.inl rfl) rfl rfl eh1 ?_
  refine WP.aload_n d_X8_claim_5 0 rfl ?_
  refine WP.iload_n d_X8_claim_6 1 rfl ?_
  obtain ⟨⟨x4, h3⟩, e2, H⟩ := ob H
  refine WP.cV (c := 9) (As := [.int l1]) (st := []) (st9 := [.int x4]) (cl9 := 0) (sl9 := 0) d_X8_claim_7 (ok_X8_hasRoll V e2) tv_X8_hasRoll ti_X8_hasRoll ts_X8_hasRoll lk_X8_459 r_X8_claim_X8_hasRoll kc_X8_hasRoll (kd_X8_hasRoll e2) rfl rfl (Nat.le_of_ble_eq_true rfl) rfl rfl rfl ?_
  rcases oj H with ⟨hc, H⟩ | ⟨hc, H⟩
  · refine WP.if_ne_t d_X8_claim_10 hc ?_
    refine WP.bipush d_X8_claim_13 kb_m2 ?_
    cases H
    exact WP.ireturn d_X8_claim_15 rfl rfl (Nat.le_of_ble_eq_true rfl) (Nat.le_of_ble_eq_true rfl)
  · refine WP.if_ne_f d_X8_claim_10 hc ?_
    refine WP.iload_n d_X8_claim_16 2 rfl ?_
    refine WP.iconst d_X8_claim_17 ki_m1 ?_
    rcases oj H with ⟨hc, H⟩ | ⟨hc, H⟩
    · refine WP.icmp_ne_t d_X8_claim_18 hc ?_
      refine WP.iload_n d_X8_claim_21 3 rfl ?_
      rcases oj H with ⟨hc, H⟩ | ⟨hc, H⟩
      · refine WP.if_ne_t d_X8_claim_22 hc ?_
        refine WP.aload_n d_X8_claim_25 0 rfl ?_
        obtain ⟨x6, e5, H⟩ := ob H
        refine WP.cV (c := 9) (As := []) (st := []) (st9 := [.int x6]) (cl9 := 0) (sl9 := 0) d_X8_claim_26 (ok_X8_claims V e5) tv_X8_claims ti_X8_claims ts_X8_claims lk_X8_462 r_X8_claim_X8_claims kc_X8_claims (kd_X8_claims e5) rfl rfl (Nat.le_of_ble_eq_true rfl) rfl rfl rfl ?_
        refine WP.goto d_X8_claim_29 ?_
        cases H
        exact WP.ireturn d_X8_claim_34 rfl rfl (Nat.le_of_ble_eq_true rfl) (Nat.le_of_ble_eq_true rfl)
      · refine WP.if_ne_f d_X8_claim_22 hc ?_
        refine WP.bipush d_X8_claim_32 kb_m2 ?_
        cases H
        exact WP.ireturn d_X8_claim_34 rfl rfl (Nat.le_of_ble_eq_true rfl) (Nat.le_of_ble_eq_true rfl)
    · refine WP.icmp_ne_f d_X8_claim_18 hc ?_
      refine WP.iload_n d_X8_claim_35 2 rfl ?_
      refine WP.iconst d_X8_claim_36 ki_0 ?_
      refine WP.aload_n d_X8_claim_37 0 rfl ?_
      obtain ⟨x8, e7, H⟩ := ob H
      refine WP.cV (c := 9) (As := []) (st := [.int 0, .int l2]) (st9 := [.int x8, .int 0, .int l2]) (cl9 := 0) (sl9 := 0) d_X8_claim_38 (ok_X8_claims V e7) tv_X8_claims ti_X8_claims ts_X8_claims lk_X8_462 r_X8_claim_X8_claims kc_X8_claims (kd_X8_claims e7) rfl rfl (Nat.le_of_ble_eq_true rfl) rfl rfl rfl ?_
      refine WP.iconst d_X8_claim_41 ki_1 ?_
      refine WP.isub d_X8_claim_42 ?_
      obtain ⟨x10, e9, H⟩ := ob H
      refine WP.cS (As := [.int l2, .int 0, .int (x8 - 1)]) (st := []) (st9 := [.int x10]) (cl9 := 0) (sl9 := 0) d_X8_claim_43 (ok_X8_in V (h := h3) e9) tv_X8_in ts_X8_in lk_X8_114 r_X8_claim_X8_in rfl rfl (Nat.le_of_ble_eq_true rfl) rfl rfl rfl ?_
      rcases oj H with ⟨hc, H⟩ | ⟨hc, H⟩
      · refine WP.if_eq_t d_X8_claim_46 hc ?_
        refine WP.bipush d_X8_claim_67 kb_m2 ?_
        cases H
        exact WP.ireturn d_X8_claim_69 rfl rfl (Nat.le_of_ble_eq_true rfl) (Nat.le_of_ble_eq_true rfl)
      · refine WP.if_eq_f d_X8_claim_46 hc ?_
        refine WP.iload_n d_X8_claim_49 3 rfl ?_
        refine WP.iconst d_X8_claim_50 ki_0 ?_
        refine WP.iconst d_X8_claim_51 ki_1 ?_
        obtain ⟨x12, e11, H⟩ := ob H
        refine WP.cS (As := [.int l3, .int 0, .int 1]) (st := []) (st9 := [.int x12]) (cl9 := 0) (sl9 := 0) d_X8_claim_52 (ok_X8_in V (h := h3) e11) tv_X8_in ts_X8_in lk_X8_114 r_X8_claim_X8_in rfl rfl (Nat.le_of_ble_eq_true rfl) rfl rfl rfl ?_
        rcases oj H with ⟨hc, H⟩ | ⟨hc, H⟩
        · refine WP.if_eq_t d_X8_claim_55 hc ?_
          refine WP.bipush d_X8_claim_67 kb_m2 ?_
          cases H
          exact WP.ireturn d_X8_claim_69 rfl rfl (Nat.le_of_ble_eq_true rfl) (Nat.le_of_ble_eq_true rfl)
        · refine WP.if_eq_f d_X8_claim_55 hc ?_
          refine WP.aload_n d_X8_claim_58 0 rfl ?_
          refine WP.iload_n d_X8_claim_59 2 rfl ?_
          refine WP.iload_n d_X8_claim_60 3 rfl ?_
          obtain ⟨x14, e13, H⟩ := ob H
          refine WP.cV (c := 9) (As := [.int l2, .int l3]) (st := []) (st9 := [.int x14]) (cl9 := 0) (sl9 := 0) d_X8_claim_61 (ok_X8_claimOf V e13) tv_X8_claimOf ti_X8_claimOf ts_X8_claimOf lk_X8_465 r_X8_claim_X8_claimOf kc_X8_claimOf (kd_X8_claimOf e13) rfl rfl (Nat.le_of_ble_eq_true rfl) rfl rfl rfl ?_
          refine WP.goto d_X8_claim_64 ?_
          cases H
          exact WP.ireturn d_X8_claim_69 rfl rfl (Nat.le_of_ble_eq_true rfl) (Nat.le_of_ble_eq_true rfl)

set_option maxRecDepth 20000 in
set_option maxHeartbeats 4000000 in
theorem okl_X8_sees_L8 (V : EV) {h : HA} {t : Nat} {l2 : Int32} {l3 : Int32} (n : Nat) : ∀ {l4 : Int32} {r : Int32} , (H : X8_sees_L8 h t l2 l3 n l4 = some r) → WP V M_X8_sees 8 [(0, .ref t), (2, .int l2), (3, .int l3), (4, .int l4)] [] h 0 0 (some (.int r)) h := by
  induction n with
  | zero =>
    intro l4 r H
    rw [X8_sees_L8] at H
    cases H
  | succ n ih =>
    intro l4 r H
    rw [X8_sees_L8] at H
    refine WP.iload d_X8_sees_8 3 rfl ?_
    refine WP.iconst d_X8_sees_10 ki_m1 ?_
    rcases oj H with ⟨hc, H⟩ | ⟨hc, H⟩
    · refine WP.icmp_eq_t d_X8_sees_11 hc ?_
      refine WP.iconst d_X8_sees_34 ki_0 ?_
      cases H
      exact WP.ireturn d_X8_sees_35 rfl rfl (Nat.le_of_ble_eq_true rfl) (Nat.le_of_ble_eq_true rfl)
    · refine WP.icmp_eq_f d_X8_sees_11 hc ?_
      refine WP.iload d_X8_sees_14 3 rfl ?_
      refine WP.iload_n d_X8_sees_16 2 rfl ?_
      rcases oj H with ⟨hc, H⟩ | ⟨hc, H⟩
      · refine WP.icmp_ne_t d_X8_sees_17 hc ?_
        refine WP.iconst d_X8_sees_20 ki_1 ?_
        cases H
        exact WP.ireturn d_X8_sees_21 rfl rfl (Nat.le_of_ble_eq_true rfl) (Nat.le_of_ble_eq_true rfl)
      · refine WP.icmp_ne_f d_X8_sees_17 hc ?_
        refine WP.aload_n d_X8_sees_22 0 rfl ?_
        refine WP.iload d_X8_sees_23 3 rfl ?_
        refine WP.iload_n d_X8_sees_25 1 rfl ?_
        obtain ⟨x4, e3, H⟩ := ob H
        refine WP.cV (c := 9) (As := [.int l4, .int l2]) (st := []) (st9 := [.int x4]) (cl9 := 0) (sl9 := 0) d_X8_sees_26 (ok_X8_stepTo V e3) tv_X8_stepTo ti_X8_stepTo ts_X8_stepTo lk_X8_295 r_X8_sees_X8_stepTo kc_X8_stepTo (kd_X8_stepTo e3) rfl rfl (Nat.le_of_ble_eq_true rfl) rfl rfl rfl ?_
        refine WP.istore (lv9 := [(4, .int x4), (0, .ref t), (2, .int l2), (3, .int l3)]) d_X8_sees_29 (Nat.le_of_ble_eq_true rfl) rfl ?_
        refine WP.goto d_X8_sees_31 ?_
        refine WP.sub [1, 2, 3, 0] (lv' := [(0, .ref t), (2, .int l2), (3, .int l3), (4, .int x4)]) rfl ?_
        exact ih H

set_option maxRecDepth 20000 in
set_option maxHeartbeats 4000000 in
theorem ok_X8_sees (V : EV) {h : HA} {t : Nat} {l1 : Int32} {l2 : Int32} {l3 : Int32} {r : Int32} (H : X8_sees h t l1 l2 l3 = some r) : MG V M_X8_sees [.ref t, .int l1, .int l2, .int l3] h (some (.int r)) h := by
  unfold X8_sees at H
  obtain ⟨_, H⟩ := oc H
  refine MG.of (lv0 := [(0, .ref t), (1, .int l1), (2, .int l2), (3, .int l3)]) pn_X8 rfl (Nat.le_of_ble_eq_true rfl) ?_
  refine WP.aload_n d_X8_sees_0 0 rfl ?_
  refine WP.iload_n d_X8_sees_1 1 rfl ?_
  refine WP.iload_n d_X8_sees_2 2 rfl ?_
  obtain ⟨x2, e1, H⟩ := ob H
  refine WP.cV (c := 9) (As := [.int l1, .int l2]) (st := []) (st9 := [.int x2]) (cl9 := 0) (sl9 := 0) d_X8_sees_3 (ok_X8_stepTo V e1) tv_X8_stepTo ti_X8_stepTo ts_X8_stepTo lk_X8_295 r_X8_sees_X8_stepTo kc_X8_stepTo (kd_X8_stepTo e1) rfl rfl (Nat.le_of_ble_eq_true rfl) rfl rfl rfl ?_
  refine WP.istore (lv9 := [(4, .int x2), (0, .ref t), (1, .int l1), (2, .int l2), (3, .int l3)]) d_X8_sees_6 (Nat.le_of_ble_eq_true rfl) rfl ?_
  refine WP.sub [1, 3, 4, 0] (lv' := [(0, .ref t), (2, .int l2), (3, .int l3), (4, .int x2)]) rfl ?_
  exact okl_X8_sees_L8 V _ H

set_option maxRecDepth 20000 in
set_option maxHeartbeats 4000000 in
theorem okl_X8_couldSee_L2 (V : EV) {h : HA} {t : Nat} {l1 : Int32} {l2 : Int32} (n : Nat) : ∀ {l3 : Int32} {r : Int32} , (H : X8_couldSee_L2 h t l1 l2 n l3 = some r) → WP V M_X8_couldSee 2 [(0, .ref t), (1, .int l1), (2, .int l2), (3, .int l3)] [] h 0 0 (some (.int r)) h := by
  induction n with
  | zero =>
    intro l3 r H
    rw [X8_couldSee_L2] at H
    cases H
  | succ n ih =>
    intro l3 r H
    rw [X8_couldSee_L2] at H
    refine WP.iload_n d_X8_couldSee_2 3 rfl ?_
    refine WP.aload_n d_X8_couldSee_3 0 rfl ?_
    obtain ⟨x1, ex1, H⟩ := ob H
    refine WP.fI d_X8_couldSee_4 gf_X8_373 (fun _ => rfl) ex1 ?_
    rcases oj H with ⟨hc, H⟩ | ⟨hc, H⟩
    · refine WP.icmp_ge_t d_X8_couldSee_7 hc ?_
      refine WP.aload_n d_X8_couldSee_10 0 rfl ?_
      refine WP.aload_n d_X8_couldSee_11 0 rfl ?_
      refine WP.iload_n d_X8_couldSee_12 1 rfl ?_
      refine WP.iconst d_X8_couldSee_13 ki_1 ?_
      obtain ⟨x3, e2, H⟩ := ob H
      refine WP.cV (c := 9) (As := [.int l1, .int 1]) (st := [.ref t]) (st9 := [.int x3, .ref t]) (cl9 := 0) (sl9 := 0) d_X8_couldSee_14 (ok_X8_judgeOf V e2) tv_X8_judgeOf ti_X8_judgeOf ts_X8_judgeOf lk_X8_307 r_X8_couldSee_X8_judgeOf kc_X8_judgeOf (kd_X8_judgeOf e2) rfl rfl (Nat.le_of_ble_eq_true rfl) rfl rfl rfl ?_
      refine WP.aload_n d_X8_couldSee_17 0 rfl ?_
      refine WP.iload_n d_X8_couldSee_18 1 rfl ?_
      refine WP.iconst d_X8_couldSee_19 ki_4 ?_
      obtain ⟨x5, e4, H⟩ := ob H
      refine WP.cV (c := 9) (As := [.int l1, .int 4]) (st := [.int x3, .ref t]) (st9 := [.int x5, .int x3, .ref t]) (cl9 := 0) (sl9 := 0) d_X8_couldSee_20 (ok_X8_judgeOf V e4) tv_X8_judgeOf ti_X8_judgeOf ts_X8_judgeOf lk_X8_307 r_X8_couldSee_X8_judgeOf kc_X8_judgeOf (kd_X8_judgeOf e4) rfl rfl (Nat.le_of_ble_eq_true rfl) rfl rfl rfl ?_
      refine WP.iload_n d_X8_couldSee_23 3 rfl ?_
      obtain ⟨x7, e6, H⟩ := ob H
      refine WP.cV (c := 9) (As := [.int x3, .int x5, .int l3]) (st := []) (st9 := [.int x7]) (cl9 := 0) (sl9 := 0) d_X8_couldSee_24 (ok_X8_faces V e6) tv_X8_faces ti_X8_faces ts_X8_faces lk_X8_310 r_X8_couldSee_X8_faces kc_X8_faces (kd_X8_faces e6) rfl rfl (Nat.le_of_ble_eq_true rfl) rfl rfl rfl ?_
      refine WP.istore (lv9 := [(4, .int x7), (0, .ref t), (1, .int l1), (2, .int l2), (3, .int l3)]) d_X8_couldSee_27 (Nat.le_of_ble_eq_true rfl) rfl ?_
      refine WP.aload_n d_X8_couldSee_29 1 rfl ?_
      obtain ⟨x8, ex8, H⟩ := ob H
      refine WP.fR d_X8_couldSee_30 gf_X8_71 (fun _ => rfl) ex8 ?_
      refine WP.iload_n d_X8_couldSee_33 4 rfl ?_
      obtain ⟨x9, ex9, H⟩ := ob H
      refine WP.iald d_X8_couldSee_34 ex9 ?_
      refine WP.iload_n d_X8_couldSee_35 3 rfl ?_
      rcases oj H with ⟨hc, H⟩ | ⟨hc, H⟩
      · refine WP.icmp_ne_t d_X8_couldSee_36 hc ?_
        refine WP.aload_n d_X8_couldSee_39 1 rfl ?_
        refine WP.aload_n d_X8_couldSee_40 1 rfl ?_
        refine WP.iload_n d_X8_couldSee_41 2 rfl ?_
        refine WP.iconst d_X8_couldSee_42 ki_0 ?_
        obtain ⟨x11, e10, H⟩ := ob H
        refine WP.cV (c := 9) (As := [.int l1, .int 0]) (st := [.ref t]) (st9 := [.int x11, .ref t]) (cl9 := 0) (sl9 := 0) d_X8_couldSee_43 (ok_X8_judgeOf V e10) tv_X8_judgeOf ti_X8_judgeOf ts_X8_judgeOf lk_X8_307 r_X8_couldSee_X8_judgeOf kc_X8_judgeOf (kd_X8_judgeOf e10) rfl rfl (Nat.le_of_ble_eq_true rfl) rfl rfl rfl ?_
        refine WP.iload d_X8_couldSee_46 0 rfl ?_
        refine WP.aload_n d_X8_couldSee_48 1 rfl ?_
        obtain ⟨x12, ex12, H⟩ := ob H
        refine WP.fR d_X8_couldSee_49 gf_X8_77 (fun _ => rfl) ex12 ?_
        refine WP.iload_n d_X8_couldSee_52 4 rfl ?_
        obtain ⟨x13, ex13, H⟩ := ob H
        refine WP.iald d_X8_couldSee_53 ex13 ?_
        obtain ⟨x15, e14, H⟩ := ob H
        refine WP.cV (c := 9) (As := [.int x11, .int x7, .int x13]) (st := []) (st9 := [.int x15]) (cl9 := 0) (sl9 := 0) d_X8_couldSee_54 (ok_X8_sees V e14) tv_X8_sees ti_X8_sees ts_X8_sees lk_X8_468 r_X8_couldSee_X8_sees kc_X8_sees (kd_X8_sees e14) rfl rfl (Nat.le_of_ble_eq_true rfl) rfl rfl rfl ?_
        rcases oj H with ⟨hc, H⟩ | ⟨hc, H⟩
        · refine WP.if_ne_t d_X8_couldSee_57 hc ?_
          refine WP.aload_n d_X8_couldSee_60 1 rfl ?_
          obtain ⟨x16, ex16, H⟩ := ob H
          refine WP.fR d_X8_couldSee_61 gf_X8_80 (fun _ => rfl) ex16 ?_
          refine WP.iload_n d_X8_couldSee_64 4 rfl ?_
          obtain ⟨x17, ex17, H⟩ := ob H
          refine WP.iald d_X8_couldSee_65 ex17 ?_
          refine WP.iconst d_X8_couldSee_66 ki_m1 ?_
          rcases oj H with ⟨hc, H⟩ | ⟨hc, H⟩
          · refine WP.icmp_eq_t d_X8_couldSee_67 hc ?_
            refine WP.iinc (lv9 := [(3, .int (l3 + 1)), (4, .int x7), (0, .ref t), (1, .int l1), (2, .int l2)]) d_X8_couldSee_93 4 rfl ki_1 (Nat.le_of_ble_eq_true rfl) rfl ?_
            refine WP.goto d_X8_couldSee_96 ?_
            refine WP.sub [2, 3, 4, 0] (lv' := [(0, .ref t), (1, .int l1), (2, .int l2), (3, .int (l3 + 1))]) rfl ?_
            exact ih H
          · refine WP.icmp_eq_f d_X8_couldSee_67 hc ?_
            refine WP.aload_n d_X8_couldSee_70 1 rfl ?_
            refine WP.aload_n d_X8_couldSee_71 1 rfl ?_
            refine WP.iload_n d_X8_couldSee_72 2 rfl ?_
            refine WP.iconst d_X8_couldSee_73 ki_0 ?_
            obtain ⟨x19, e18, H⟩ := ob H
            refine WP.cV (c := 9) (As := [.int l1, .int 0]) (st := [.ref t]) (st9 := [.int x19, .ref t]) (cl9 := 0) (sl9 := 0) d_X8_couldSee_74 (ok_X8_judgeOf V e18) tv_X8_judgeOf ti_X8_judgeOf ts_X8_judgeOf lk_X8_307 r_X8_couldSee_X8_judgeOf kc_X8_judgeOf (kd_X8_judgeOf e18) rfl rfl (Nat.le_of_ble_eq_true rfl) rfl rfl rfl ?_
            refine WP.iload d_X8_couldSee_77 0 rfl ?_
            refine WP.aload_n d_X8_couldSee_79 1 rfl ?_
            obtain ⟨x20, ex20, H⟩ := ob H
            refine WP.fR d_X8_couldSee_80 gf_X8_80 (fun _ => rfl) ex20 ?_
            refine WP.iload_n d_X8_couldSee_83 4 rfl ?_
            obtain ⟨x21, ex21, H⟩ := ob H
            refine WP.iald d_X8_couldSee_84 ex21 ?_
            obtain ⟨x23, e22, H⟩ := ob H
            refine WP.cV (c := 9) (As := [.int x19, .int x7, .int x21]) (st := []) (st9 := [.int x23]) (cl9 := 0) (sl9 := 0) d_X8_couldSee_85 (ok_X8_sees V e22) tv_X8_sees ti_X8_sees ts_X8_sees lk_X8_468 r_X8_couldSee_X8_sees kc_X8_sees (kd_X8_sees e22) rfl rfl (Nat.le_of_ble_eq_true rfl) rfl rfl rfl ?_
            rcases oj H with ⟨hc, H⟩ | ⟨hc, H⟩
            · refine WP.if_eq_t d_X8_couldSee_88 hc ?_
              refine WP.iinc (lv9 := [(3, .int (l3 + 1)), (4, .int x7), (0, .ref t), (1, .int l1), (2, .int l2)]) d_X8_couldSee_93 4 rfl ki_1 (Nat.le_of_ble_eq_true rfl) rfl ?_
              refine WP.goto d_X8_couldSee_96 ?_
              refine WP.sub [2, 3, 4, 0] (lv' := [(0, .ref t), (1, .int l1), (2, .int l2), (3, .int (l3 + 1))]) rfl ?_
              exact ih H
            · refine WP.if_eq_f d_X8_couldSee_88 hc ?_
              refine WP.iconst d_X8_couldSee_91 ki_1 ?_
              cases H
              exact WP.ireturn d_X8_couldSee_92 rfl rfl (Nat.le_of_ble_eq_true rfl) (Nat.le_of_ble_eq_true rfl)
        · refine WP.if_ne_f d_X8_couldSee_57 hc ?_
          refine WP.iconst d_X8_couldSee_91 ki_1 ?_
          cases H
          exact WP.ireturn d_X8_couldSee_92 rfl rfl (Nat.le_of_ble_eq_true rfl) (Nat.le_of_ble_eq_true rfl)
      · refine WP.icmp_ne_f d_X8_couldSee_36 hc ?_
        refine WP.iinc (lv9 := [(3, .int (l3 + 1)), (4, .int x7), (0, .ref t), (1, .int l1), (2, .int l2)]) d_X8_couldSee_93 4 rfl ki_1 (Nat.le_of_ble_eq_true rfl) rfl ?_
        refine WP.goto d_X8_couldSee_96 ?_
        refine WP.sub [2, 3, 4, 0] (lv' := [(0, .ref t), (1, .int l1), (2, .int l2), (3, .int (l3 + 1))]) rfl ?_
        exact ih H
    · refine WP.icmp_ge_f d_X8_couldSee_7 hc ?_
      refine WP.iconst d_X8_couldSee_99 ki_0 ?_
      cases H
      exact WP.ireturn d_X8_couldSee_100 rfl rfl (Nat.le_of_ble_eq_true rfl) (Nat.le_of_ble_eq_true rfl)

set_option maxRecDepth 20000 in
set_option maxHeartbeats 4000000 in
theorem ok_X8_couldSee (V : EV) {h : HA} {t : Nat} {l1 : Int32} {l2 : Int32} {r : Int32} (H : X8_couldSee h t l1 l2 = some r) : MG V M_X8_couldSee [.ref t, .int l1, .int l2] h (some (.int r)) h := by
  unfold X8_couldSee at H
  obtain ⟨_, H⟩ := oc H
  refine MG.of (lv0 := [(0, .ref t), (1, .int l1), (2, .int l2)]) pn_X8 rfl (Nat.le_of_ble_eq_true rfl) ?_
  refine WP.iconst d_X8_couldSee_0 ki_0 ?_
  refine WP.istore_n (lv9 := [(3, .int 0), (0, .ref t), (1, .int l1), (2, .int l2)]) d_X8_couldSee_1 (Nat.le_of_ble_eq_true rfl) rfl ?_
  refine WP.sub [1, 2, 3, 0] (lv' := [(0, .ref t), (1, .int l1), (2, .int l2), (3, .int 0)]) rfl ?_
  exact okl_X8_couldSee_L2 V _ H

set_option maxRecDepth 20000 in
set_option maxHeartbeats 4000000 in
theorem okl_X8_liars_L4 (V : EV) {vF : Option Value} {hF : HA} {h : HA} {t : Nat} (n : Nat) : ∀ {l1 : Int32} {l2 : Int32} {r1 : Int32}, (H : X8_liars_L4 h t n l1 l2 = some r1) → (K : WP V M_X8_liars 60 [(1, .int r1)] [] h 0 0 vF hF) → WP V M_X8_liars 4 [(0, .ref t), (1, .int l1), (2, .int l2)] [] h 0 0 vF hF := by
  induction n with
  | zero =>
    intro l1 l2 r1 H K
    rw [X8_liars_L4] at H
    cases H
  | succ n ih =>
    intro l1 l2 r1 H K
    rw [X8_liars_L4] at H
    refine WP.iload_n d_X8_liars_4 2 rfl ?_
    refine WP.aload_n d_X8_liars_5 0 rfl ?_
    obtain ⟨x2, e1, H⟩ := ob H
    refine WP.cV (c := 9) (As := []) (st := [.int l2]) (st9 := [.int x2, .int l2]) (cl9 := 0) (sl9 := 0) d_X8_liars_6 (ok_X8_claims V e1) tv_X8_claims ti_X8_claims ts_X8_claims lk_X8_462 r_X8_liars_X8_claims kc_X8_claims (kd_X8_claims e1) rfl rfl (Nat.le_of_ble_eq_true rfl) rfl rfl rfl ?_
    rcases oj H with ⟨hc, H⟩ | ⟨hc, H⟩
    · refine WP.icmp_ge_t d_X8_liars_9 hc ?_
      refine WP.aload_n d_X8_liars_12 0 rfl ?_
      refine WP.iload_n d_X8_liars_13 2 rfl ?_
      refine WP.iconst d_X8_liars_14 ki_0 ?_
      obtain ⟨x4, e3, H⟩ := ob H
      refine WP.cV (c := 9) (As := [.int l2, .int 0]) (st := []) (st9 := [.int x4]) (cl9 := 0) (sl9 := 0) d_X8_liars_15 (ok_X8_claimOf V e3) tv_X8_claimOf ti_X8_claimOf ts_X8_claimOf lk_X8_465 r_X8_liars_X8_claimOf kc_X8_claimOf (kd_X8_claimOf e3) rfl rfl (Nat.le_of_ble_eq_true rfl) rfl rfl rfl ?_
      refine WP.istore_n (lv9 := [(3, .int x4), (0, .ref t), (1, .int l1), (2, .int l2)]) d_X8_liars_18 (Nat.le_of_ble_eq_true rfl) rfl ?_
      refine WP.iload_n d_X8_liars_19 2 rfl ?_
      refine WP.aload_n d_X8_liars_20 1 rfl ?_
      refine WP.iload_n d_X8_liars_21 0 rfl ?_
      obtain ⟨x6, e5, H⟩ := ob H
      refine WP.cV (c := 9) (As := [.int x4]) (st := [.int l1]) (st9 := [.int x6, .int l1]) (cl9 := 0) (sl9 := 0) d_X8_liars_22 (ok_X8_isJudge V e5) tv_X8_isJudge ti_X8_isJudge ts_X8_isJudge lk_X8_340 r_X8_liars_X8_isJudge kc_X8_isJudge (kd_X8_isJudge e5) rfl rfl (Nat.le_of_ble_eq_true rfl) rfl rfl rfl ?_
      rcases oj H with ⟨hc, H⟩ | ⟨hc, H⟩
      · refine WP.if_eq_t d_X8_liars_25 hc ?_
        refine WP.iconst d_X8_liars_45 ki_1 ?_
        refine WP.iload_n d_X8_liars_46 3 rfl ?_
        refine WP.ishl d_X8_liars_47 ?_
        refine WP.goto d_X8_liars_48 ?_
        refine WP.ior d_X8_liars_52 ?_
        refine WP.istore_n (lv9 := [(1, .int (l1 ||| (shlI 1 l2))), (3, .int x4), (0, .ref t), (2, .int l2)]) d_X8_liars_53 (Nat.le_of_ble_eq_true rfl) rfl ?_
        refine WP.iinc (lv9 := [(2, .int (l2 + 1)), (1, .int (l1 ||| (shlI 1 l2))), (3, .int x4), (0, .ref t)]) d_X8_liars_54 3 rfl ki_1 (Nat.le_of_ble_eq_true rfl) rfl ?_
        refine WP.goto d_X8_liars_57 ?_
        refine WP.sub [3, 1, 0] (lv' := [(0, .ref t), (1, .int (l1 ||| (shlI 1 l2))), (2, .int (l2 + 1))]) rfl ?_
        exact ih H K
      · refine WP.if_eq_f d_X8_liars_25 hc ?_
        refine WP.aload_n d_X8_liars_28 1 rfl ?_
        refine WP.iload_n d_X8_liars_29 0 rfl ?_
        obtain ⟨x8, e7, H⟩ := ob H
        refine WP.cV (c := 9) (As := [.int x4]) (st := [.int l1]) (st9 := [.int x8, .int l1]) (cl9 := 0) (sl9 := 0) d_X8_liars_30 (ok_X8_known V e7) tv_X8_known ti_X8_known ts_X8_known lk_X8_402 r_X8_liars_X8_known kc_X8_known (kd_X8_known e7) rfl rfl (Nat.le_of_ble_eq_true rfl) rfl rfl rfl ?_
        refine WP.aload_n d_X8_liars_33 1 rfl ?_
        refine WP.iload_n d_X8_liars_34 3 rfl ?_
        refine WP.iconst d_X8_liars_35 ki_1 ?_
        obtain ⟨x10, e9, H⟩ := ob H
        refine WP.cV (c := 9) (As := [.int l2, .int 1]) (st := [.int x8, .int l1]) (st9 := [.int x10, .int x8, .int l1]) (cl9 := 0) (sl9 := 0) d_X8_liars_36 (ok_X8_claimOf V e9) tv_X8_claimOf ti_X8_claimOf ts_X8_claimOf lk_X8_465 r_X8_liars_X8_claimOf kc_X8_claimOf (kd_X8_claimOf e9) rfl rfl (Nat.le_of_ble_eq_true rfl) rfl rfl rfl ?_
        obtain ⟨x12, e11, H⟩ := ob H
        refine WP.cS (As := [.int x8, .int x10]) (st := [.int l1]) (st9 := [.int x12, .int l1]) (cl9 := 0) (sl9 := 0) d_X8_liars_39 (ok_X8_has V (h := h) e11) tv_X8_has ts_X8_has lk_X8_106 r_X8_liars_X8_has rfl rfl (Nat.le_of_ble_eq_true rfl) rfl rfl rfl ?_
        rcases oj H with ⟨hc, H⟩ | ⟨hc, H⟩
        · refine WP.if_ne_t d_X8_liars_42 hc ?_
          refine WP.iconst d_X8_liars_45 ki_1 ?_
          refine WP.iload_n d_X8_liars_46 3 rfl ?_
          refine WP.ishl d_X8_liars_47 ?_
          refine WP.goto d_X8_liars_48 ?_
          refine WP.ior d_X8_liars_52 ?_
          refine WP.istore_n (lv9 := [(1, .int (l1 ||| (shlI 1 l2))), (3, .int x4), (0, .ref t), (2, .int l2)]) d_X8_liars_53 (Nat.le_of_ble_eq_true rfl) rfl ?_
          refine WP.iinc (lv9 := [(2, .int (l2 + 1)), (1, .int (l1 ||| (shlI 1 l2))), (3, .int x4), (0, .ref t)]) d_X8_liars_54 3 rfl ki_1 (Nat.le_of_ble_eq_true rfl) rfl ?_
          refine WP.goto d_X8_liars_57 ?_
          refine WP.sub [3, 1, 0] (lv' := [(0, .ref t), (1, .int (l1 ||| (shlI 1 l2))), (2, .int (l2 + 1))]) rfl ?_
          exact ih H K
        · refine WP.if_ne_f d_X8_liars_42 hc ?_
          refine WP.iconst d_X8_liars_51 ki_0 ?_
          refine WP.ior d_X8_liars_52 ?_
          refine WP.istore_n (lv9 := [(1, .int (l1 ||| 0)), (3, .int x4), (0, .ref t), (2, .int l2)]) d_X8_liars_53 (Nat.le_of_ble_eq_true rfl) rfl ?_
          refine WP.iinc (lv9 := [(2, .int (l2 + 1)), (1, .int (l1 ||| 0)), (3, .int x4), (0, .ref t)]) d_X8_liars_54 3 rfl ki_1 (Nat.le_of_ble_eq_true rfl) rfl ?_
          refine WP.goto d_X8_liars_57 ?_
          refine WP.sub [3, 1, 0] (lv' := [(0, .ref t), (1, .int (l1 ||| 0)), (2, .int (l2 + 1))]) rfl ?_
          exact ih H K
    · refine WP.icmp_ge_f d_X8_liars_9 hc ?_
      cases H
      exact WP.sub [1] rfl K

set_option maxRecDepth 20000 in
set_option maxHeartbeats 4000000 in
theorem ok_X8_liars (V : EV) {h : HA} {t : Nat} {r : Int32} (H : X8_liars h t = some r) : MG V M_X8_liars [.ref t] h (some (.int r)) h := by
  unfold X8_liars at H
  obtain ⟨_, H⟩ := oc H
  refine MG.of (lv0 := [(0, .ref t)]) pn_X8 rfl (Nat.le_of_ble_eq_true rfl) ?_
  refine WP.iconst d_X8_liars_0 ki_0 ?_
  refine WP.istore_n (lv9 := [(1, .int 0), (0, .ref t)]) d_X8_liars_1 (Nat.le_of_ble_eq_true rfl) rfl ?_
  refine WP.iconst d_X8_liars_2 ki_0 ?_
  refine WP.istore_n (lv9 := [(2, .int 0), (1, .int 0), (0, .ref t)]) d_X8_liars_3 (Nat.le_of_ble_eq_true rfl) rfl ?_
  obtain ⟨y14, e13, H⟩ := ob H
  refine WP.sub [2, 1, 0] (lv' := [(0, .ref t), (1, .int 0), (2, .int 0)]) rfl ?_
  refine okl_X8_liars_L4 V _ e13 ?_
  refine WP.iload_n d_X8_liars_60 0 rfl ?_
  cases H
  exact WP.ireturn d_X8_liars_61 rfl rfl (Nat.le_of_ble_eq_true rfl) (Nat.le_of_ble_eq_true rfl)

set_option maxRecDepth 20000 in
set_option maxHeartbeats 4000000 in
theorem okl_X8_lipsOf_L4 (V : EV) {vF : Option Value} {hF : HA} {h : HA} {t : Nat} {l1 : Int32} (n : Nat) : ∀ {l2 : Int32} {l3 : Int32} {r2 : Int32}, (H : X8_lipsOf_L4 h t l1 n l2 l3 = some r2) → (K : WP V M_X8_lipsOf 68 [(2, .int r2)] [] h 0 0 vF hF) → WP V M_X8_lipsOf 4 [(0, .ref t), (1, .int l1), (2, .int l2), (3, .int l3)] [] h 0 0 vF hF := by
  induction n with
  | zero =>
    intro l2 l3 r2 H K
    rw [X8_lipsOf_L4] at H
    cases H
  | succ n ih =>
    intro l2 l3 r2 H K
    rw [X8_lipsOf_L4] at H
    refine WP.iload_n d_X8_lipsOf_4 3 rfl ?_
    refine WP.aload_n d_X8_lipsOf_5 0 rfl ?_
    obtain ⟨x2, e1, H⟩ := ob H
    refine WP.cV (c := 9) (As := []) (st := [.int l3]) (st9 := [.int x2, .int l3]) (cl9 := 0) (sl9 := 0) d_X8_lipsOf_6 (ok_X8_claims V e1) tv_X8_claims ti_X8_claims ts_X8_claims lk_X8_462 r_X8_lipsOf_X8_claims kc_X8_claims (kd_X8_claims e1) rfl rfl (Nat.le_of_ble_eq_true rfl) rfl rfl rfl ?_
    rcases oj H with ⟨hc, H⟩ | ⟨hc, H⟩
    · refine WP.icmp_ge_t d_X8_lipsOf_9 hc ?_
      refine WP.aload_n d_X8_lipsOf_12 0 rfl ?_
      refine WP.iload_n d_X8_lipsOf_13 3 rfl ?_
      refine WP.iconst d_X8_lipsOf_14 ki_0 ?_
      obtain ⟨x4, e3, H⟩ := ob H
      refine WP.cV (c := 9) (As := [.int l3, .int 0]) (st := []) (st9 := [.int x4]) (cl9 := 0) (sl9 := 0) d_X8_lipsOf_15 (ok_X8_claimOf V e3) tv_X8_claimOf ti_X8_claimOf ts_X8_claimOf lk_X8_465 r_X8_lipsOf_X8_claimOf kc_X8_claimOf (kd_X8_claimOf e3) rfl rfl (Nat.le_of_ble_eq_true rfl) rfl rfl rfl ?_
      refine WP.istore (lv9 := [(4, .int x4), (0, .ref t), (1, .int l1), (2, .int l2), (3, .int l3)]) d_X8_lipsOf_18 (Nat.le_of_ble_eq_true rfl) rfl ?_
      refine WP.iload_n d_X8_lipsOf_20 3 rfl ?_
      refine WP.iload_n d_X8_lipsOf_21 2 rfl ?_
      refine WP.iload_n d_X8_lipsOf_22 4 rfl ?_
      obtain ⟨x6, e5, H⟩ := ob H
      refine WP.cS (As := [.int l1, .int l3]) (st := [.int l2]) (st9 := [.int x6, .int l2]) (cl9 := 0) (sl9 := 0) d_X8_lipsOf_23 (ok_X8_has V (h := h) e5) tv_X8_has ts_X8_has lk_X8_106 r_X8_lipsOf_X8_has rfl rfl (Nat.le_of_ble_eq_true rfl) rfl rfl rfl ?_
      rcases oj H with ⟨hc, H⟩ | ⟨hc, H⟩
      · refine WP.if_eq_t d_X8_lipsOf_26 hc ?_
        refine WP.iconst d_X8_lipsOf_59 ki_0 ?_
        refine WP.ior d_X8_lipsOf_60 ?_
        refine WP.istore_n (lv9 := [(2, .int (l2 ||| 0)), (4, .int x4), (0, .ref t), (1, .int l1), (3, .int l3)]) d_X8_lipsOf_61 (Nat.le_of_ble_eq_true rfl) rfl ?_
        refine WP.iinc (lv9 := [(3, .int (l3 + 1)), (2, .int (l2 ||| 0)), (4, .int x4), (0, .ref t), (1, .int l1)]) d_X8_lipsOf_62 4 rfl ki_1 (Nat.le_of_ble_eq_true rfl) rfl ?_
        refine WP.goto d_X8_lipsOf_65 ?_
        refine WP.sub [3, 4, 1, 0] (lv' := [(0, .ref t), (1, .int l1), (2, .int (l2 ||| 0)), (3, .int (l3 + 1))]) rfl ?_
        exact ih H K
      · refine WP.if_eq_f d_X8_lipsOf_26 hc ?_
        refine WP.aload_n d_X8_lipsOf_29 1 rfl ?_
        refine WP.iload d_X8_lipsOf_30 0 rfl ?_
        obtain ⟨x8, e7, H⟩ := ob H
        refine WP.cV (c := 9) (As := [.int x4]) (st := [.int l2]) (st9 := [.int x8, .int l2]) (cl9 := 0) (sl9 := 0) d_X8_lipsOf_32 (ok_X8_isJudge V e7) tv_X8_isJudge ti_X8_isJudge ts_X8_isJudge lk_X8_340 r_X8_lipsOf_X8_isJudge kc_X8_isJudge (kd_X8_isJudge e7) rfl rfl (Nat.le_of_ble_eq_true rfl) rfl rfl rfl ?_
        rcases oj H with ⟨hc, H⟩ | ⟨hc, H⟩
        · refine WP.if_eq_t d_X8_lipsOf_35 hc ?_
          refine WP.iconst d_X8_lipsOf_59 ki_0 ?_
          refine WP.ior d_X8_lipsOf_60 ?_
          refine WP.istore_n (lv9 := [(2, .int (l2 ||| 0)), (4, .int x4), (0, .ref t), (1, .int l1), (3, .int l3)]) d_X8_lipsOf_61 (Nat.le_of_ble_eq_true rfl) rfl ?_
          refine WP.iinc (lv9 := [(3, .int (l3 + 1)), (2, .int (l2 ||| 0)), (4, .int x4), (0, .ref t), (1, .int l1)]) d_X8_lipsOf_62 4 rfl ki_1 (Nat.le_of_ble_eq_true rfl) rfl ?_
          refine WP.goto d_X8_lipsOf_65 ?_
          refine WP.sub [3, 4, 1, 0] (lv' := [(0, .ref t), (1, .int l1), (2, .int (l2 ||| 0)), (3, .int (l3 + 1))]) rfl ?_
          exact ih H K
        · refine WP.if_eq_f d_X8_lipsOf_35 hc ?_
          refine WP.aload_n d_X8_lipsOf_38 1 rfl ?_
          refine WP.iload d_X8_lipsOf_39 0 rfl ?_
          refine WP.aload_n d_X8_lipsOf_41 1 rfl ?_
          refine WP.iload_n d_X8_lipsOf_42 4 rfl ?_
          refine WP.iconst d_X8_lipsOf_43 ki_1 ?_
          obtain ⟨x10, e9, H⟩ := ob H
          refine WP.cV (c := 9) (As := [.int l3, .int 1]) (st := [.int x4, .ref t, .int l2]) (st9 := [.int x10, .int x4, .ref t, .int l2]) (cl9 := 0) (sl9 := 0) d_X8_lipsOf_44 (ok_X8_claimOf V e9) tv_X8_claimOf ti_X8_claimOf ts_X8_claimOf lk_X8_465 r_X8_lipsOf_X8_claimOf kc_X8_claimOf (kd_X8_claimOf e9) rfl rfl (Nat.le_of_ble_eq_true rfl) rfl rfl rfl ?_
          obtain ⟨x12, e11, H⟩ := ob H
          refine WP.cV (c := 9) (As := [.int x4, .int x10]) (st := [.int l2]) (st9 := [.int x12, .int l2]) (cl9 := 0) (sl9 := 0) d_X8_lipsOf_47 (ok_X8_couldSee V e11) tv_X8_couldSee ti_X8_couldSee ts_X8_couldSee lk_X8_471 r_X8_lipsOf_X8_couldSee kc_X8_couldSee (kd_X8_couldSee e11) rfl rfl (Nat.le_of_ble_eq_true rfl) rfl rfl rfl ?_
          rcases oj H with ⟨hc, H⟩ | ⟨hc, H⟩
          · refine WP.if_eq_t d_X8_lipsOf_50 hc ?_
            refine WP.iconst d_X8_lipsOf_59 ki_0 ?_
            refine WP.ior d_X8_lipsOf_60 ?_
            refine WP.istore_n (lv9 := [(2, .int (l2 ||| 0)), (4, .int x4), (0, .ref t), (1, .int l1), (3, .int l3)]) d_X8_lipsOf_61 (Nat.le_of_ble_eq_true rfl) rfl ?_
            refine WP.iinc (lv9 := [(3, .int (l3 + 1)), (2, .int (l2 ||| 0)), (4, .int x4), (0, .ref t), (1, .int l1)]) d_X8_lipsOf_62 4 rfl ki_1 (Nat.le_of_ble_eq_true rfl) rfl ?_
            refine WP.goto d_X8_lipsOf_65 ?_
            refine WP.sub [3, 4, 1, 0] (lv' := [(0, .ref t), (1, .int l1), (2, .int (l2 ||| 0)), (3, .int (l3 + 1))]) rfl ?_
            exact ih H K
          · refine WP.if_eq_f d_X8_lipsOf_50 hc ?_
            refine WP.iconst d_X8_lipsOf_53 ki_1 ?_
            refine WP.iload_n d_X8_lipsOf_54 4 rfl ?_
            refine WP.ishl d_X8_lipsOf_55 ?_
            refine WP.goto d_X8_lipsOf_56 ?_
            refine WP.ior d_X8_lipsOf_60 ?_
            refine WP.istore_n (lv9 := [(2, .int (l2 ||| (shlI 1 l3))), (4, .int x4), (0, .ref t), (1, .int l1), (3, .int l3)]) d_X8_lipsOf_61 (Nat.le_of_ble_eq_true rfl) rfl ?_
            refine WP.iinc (lv9 := [(3, .int (l3 + 1)), (2, .int (l2 ||| (shlI 1 l3))), (4, .int x4), (0, .ref t), (1, .int l1)]) d_X8_lipsOf_62 4 rfl ki_1 (Nat.le_of_ble_eq_true rfl) rfl ?_
            refine WP.goto d_X8_lipsOf_65 ?_
            refine WP.sub [3, 4, 1, 0] (lv' := [(0, .ref t), (1, .int l1), (2, .int (l2 ||| (shlI 1 l3))), (3, .int (l3 + 1))]) rfl ?_
            exact ih H K
    · refine WP.icmp_ge_f d_X8_lipsOf_9 hc ?_
      cases H
      exact WP.sub [2] rfl K

set_option maxRecDepth 20000 in
set_option maxHeartbeats 4000000 in
theorem ok_X8_lipsOf (V : EV) {h : HA} {t : Nat} {l1 : Int32} {r : Int32} (H : X8_lipsOf h t l1 = some r) : MG V M_X8_lipsOf [.ref t, .int l1] h (some (.int r)) h := by
  unfold X8_lipsOf at H
  obtain ⟨_, H⟩ := oc H
  refine MG.of (lv0 := [(0, .ref t), (1, .int l1)]) pn_X8 rfl (Nat.le_of_ble_eq_true rfl) ?_
  refine WP.iconst d_X8_lipsOf_0 ki_0 ?_
  refine WP.istore_n (lv9 := [(2, .int 0), (0, .ref t), (1, .int l1)]) d_X8_lipsOf_1 (Nat.le_of_ble_eq_true rfl) rfl ?_
  refine WP.iconst d_X8_lipsOf_2 ki_0 ?_
  refine WP.istore_n (lv9 := [(3, .int 0), (2, .int 0), (0, .ref t), (1, .int l1)]) d_X8_lipsOf_3 (Nat.le_of_ble_eq_true rfl) rfl ?_
  obtain ⟨y14, e13, H⟩ := ob H
  refine WP.sub [2, 3, 1, 0] (lv' := [(0, .ref t), (1, .int l1), (2, .int 0), (3, .int 0)]) rfl ?_
  refine okl_X8_lipsOf_L4 V _ e13 ?_
  refine WP.iload_n d_X8_lipsOf_68 0 rfl ?_
  cases H
  exact WP.ireturn d_X8_lipsOf_69 rfl rfl (Nat.le_of_ble_eq_true rfl) (Nat.le_of_ble_eq_true rfl)

set_option maxRecDepth 20000 in
set_option maxHeartbeats 4000000 in
theorem okl_X8_reader_L22 (V : EV) {vF : Option Value} {hF : HA} {h : HA} {t : Nat} {l1 : Int32} {l2 : Int32} {l3 : Int32} {l4 : Int32} (n : Nat) : ∀ {l5 : Int32} {l6 : Int32} {r5 : Int32}, (H : X8_reader_L22 h t l1 l4 n l5 l6 = some r5) → (K : WP V M_X8_reader 68 [(0, .ref t), (1, .int l1), (2, .int l2), (3, .int l3), (4, .int l4), (5, .int r5)] [] h 0 0 vF hF) → WP V M_X8_reader 22 [(0, .ref t), (1, .int l1), (2, .int l2), (3, .int l3), (4, .int l4), (5, .int l5), (6, .int l6)] [] h 0 0 vF hF := by
  induction n with
  | zero =>
    intro l5 l6 r5 H K
    rw [X8_reader_L22] at H
    cases H
  | succ n ih =>
    intro l5 l6 r5 H K
    rw [X8_reader_L22] at H
    refine WP.iload d_X8_reader_22 6 rfl ?_
    refine WP.aload_n d_X8_reader_24 0 rfl ?_
    obtain ⟨x3, e2, H⟩ := ob H
    refine WP.cV (c := 9) (As := []) (st := [.int l6]) (st9 := [.int x3, .int l6]) (cl9 := 0) (sl9 := 0) d_X8_reader_25 (ok_X8_claims V e2) tv_X8_claims ti_X8_claims ts_X8_claims lk_X8_462 r_X8_reader_X8_claims kc_X8_claims (kd_X8_claims e2) rfl rfl (Nat.le_of_ble_eq_true rfl) rfl rfl rfl ?_
    rcases oj H with ⟨hc, H⟩ | ⟨hc, H⟩
    · refine WP.icmp_ge_t d_X8_reader_28 hc ?_
      refine WP.iload d_X8_reader_31 5 rfl ?_
      refine WP.iload_n d_X8_reader_33 1 rfl ?_
      refine WP.iload d_X8_reader_34 6 rfl ?_
      obtain ⟨x5, e4, H⟩ := ob H
      refine WP.cS (As := [.int l1, .int l6]) (st := [.int l5]) (st9 := [.int x5, .int l5]) (cl9 := 0) (sl9 := 0) d_X8_reader_36 (ok_X8_has V (h := h) e4) tv_X8_has ts_X8_has lk_X8_106 r_X8_reader_X8_has rfl rfl (Nat.le_of_ble_eq_true rfl) rfl rfl rfl ?_
      rcases oj H with ⟨hc, H⟩ | ⟨hc, H⟩
      · refine WP.if_eq_t d_X8_reader_39 hc ?_
        refine WP.iconst d_X8_reader_58 ki_0 ?_
        refine WP.iadd d_X8_reader_59 ?_
        refine WP.istore (lv9 := [(5, .int (l5 + 0)), (0, .ref t), (1, .int l1), (2, .int l2), (3, .int l3), (4, .int l4), (6, .int l6)]) d_X8_reader_60 (Nat.le_of_ble_eq_true rfl) rfl ?_
        refine WP.iinc (lv9 := [(6, .int (l6 + 1)), (5, .int (l5 + 0)), (0, .ref t), (1, .int l1), (2, .int l2), (3, .int l3), (4, .int l4)]) d_X8_reader_62 6 rfl ki_1 (Nat.le_of_ble_eq_true rfl) rfl ?_
        refine WP.goto d_X8_reader_65 ?_
        refine WP.sub [2, 3, 4, 5, 6, 1, 0] (lv' := [(0, .ref t), (1, .int l1), (2, .int l2), (3, .int l3), (4, .int l4), (5, .int (l5 + 0)), (6, .int (l6 + 1))]) rfl ?_
        exact ih H K
      · refine WP.if_eq_f d_X8_reader_39 hc ?_
        refine WP.aload_n d_X8_reader_42 0 rfl ?_
        refine WP.iload d_X8_reader_43 6 rfl ?_
        refine WP.iconst d_X8_reader_45 ki_0 ?_
        obtain ⟨x7, e6, H⟩ := ob H
        refine WP.cV (c := 9) (As := [.int l6, .int 0]) (st := [.int l5]) (st9 := [.int x7, .int l5]) (cl9 := 0) (sl9 := 0) d_X8_reader_46 (ok_X8_claimOf V e6) tv_X8_claimOf ti_X8_claimOf ts_X8_claimOf lk_X8_465 r_X8_reader_X8_claimOf kc_X8_claimOf (kd_X8_claimOf e6) rfl rfl (Nat.le_of_ble_eq_true rfl) rfl rfl rfl ?_
        refine WP.iload d_X8_reader_49 4 rfl ?_
        rcases oj H with ⟨hc, H⟩ | ⟨hc, H⟩
        · refine WP.icmp_ne_t d_X8_reader_51 hc ?_
          refine WP.iconst d_X8_reader_54 ki_1 ?_
          refine WP.goto d_X8_reader_55 ?_
          refine WP.iadd d_X8_reader_59 ?_
          refine WP.istore (lv9 := [(5, .int (l5 + 1)), (0, .ref t), (1, .int l1), (2, .int l2), (3, .int l3), (4, .int l4), (6, .int l6)]) d_X8_reader_60 (Nat.le_of_ble_eq_true rfl) rfl ?_
          refine WP.iinc (lv9 := [(6, .int (l6 + 1)), (5, .int (l5 + 1)), (0, .ref t), (1, .int l1), (2, .int l2), (3, .int l3), (4, .int l4)]) d_X8_reader_62 6 rfl ki_1 (Nat.le_of_ble_eq_true rfl) rfl ?_
          refine WP.goto d_X8_reader_65 ?_
          refine WP.sub [2, 3, 4, 5, 6, 1, 0] (lv' := [(0, .ref t), (1, .int l1), (2, .int l2), (3, .int l3), (4, .int l4), (5, .int (l5 + 1)), (6, .int (l6 + 1))]) rfl ?_
          exact ih H K
        · refine WP.icmp_ne_f d_X8_reader_51 hc ?_
          refine WP.iconst d_X8_reader_58 ki_0 ?_
          refine WP.iadd d_X8_reader_59 ?_
          refine WP.istore (lv9 := [(5, .int (l5 + 0)), (0, .ref t), (1, .int l1), (2, .int l2), (3, .int l3), (4, .int l4), (6, .int l6)]) d_X8_reader_60 (Nat.le_of_ble_eq_true rfl) rfl ?_
          refine WP.iinc (lv9 := [(6, .int (l6 + 1)), (5, .int (l5 + 0)), (0, .ref t), (1, .int l1), (2, .int l2), (3, .int l3), (4, .int l4)]) d_X8_reader_62 6 rfl ki_1 (Nat.le_of_ble_eq_true rfl) rfl ?_
          refine WP.goto d_X8_reader_65 ?_
          refine WP.sub [2, 3, 4, 5, 6, 1, 0] (lv' := [(0, .ref t), (1, .int l1), (2, .int l2), (3, .int l3), (4, .int l4), (5, .int (l5 + 0)), (6, .int (l6 + 1))]) rfl ?_
          exact ih H K
    · refine WP.icmp_ge_f d_X8_reader_28 hc ?_
      cases H
      exact WP.sub [0, 1, 2, 3, 4, 5] rfl K

set_option maxRecDepth 20000 in
set_option maxHeartbeats 4000000 in
theorem okl_X8_reader_L7 (V : EV) {vF : Option Value} {hF : HA} {h : HA} {t : Nat} {l1 : Int32} (n : Nat) : ∀ {l2 : Int32} {l3 : Int32} {l4 : Int32} {r2 : Int32}, (H : X8_reader_L7 h t l1 n l2 l3 l4 = some r2) → (K : WP V M_X8_reader 94 [(2, .int r2)] [] h 0 0 vF hF) → WP V M_X8_reader 7 [(0, .ref t), (1, .int l1), (2, .int l2), (3, .int l3), (4, .int l4)] [] h 0 0 vF hF := by
  induction n with
  | zero =>
    intro l2 l3 l4 r2 H K
    rw [X8_reader_L7] at H
    cases H
  | succ n ih =>
    intro l2 l3 l4 r2 H K
    rw [X8_reader_L7] at H
    refine WP.iload d_X8_reader_7 4 rfl ?_
    refine WP.aload_n d_X8_reader_9 0 rfl ?_
    obtain ⟨x1, ex1, H⟩ := ob H
    refine WP.fI d_X8_reader_10 gf_X8_280 (fun _ => rfl) ex1 ?_
    rcases oj H with ⟨hc, H⟩ | ⟨hc, H⟩
    · refine WP.icmp_ge_t d_X8_reader_13 hc ?_
      refine WP.iconst d_X8_reader_16 ki_0 ?_
      refine WP.istore (lv9 := [(5, .int 0), (0, .ref t), (1, .int l1), (2, .int l2), (3, .int l3), (4, .int l4)]) d_X8_reader_17 (Nat.le_of_ble_eq_true rfl) rfl ?_
      refine WP.iconst d_X8_reader_19 ki_0 ?_
      refine WP.istore (lv9 := [(6, .int 0), (5, .int 0), (0, .ref t), (1, .int l1), (2, .int l2), (3, .int l3), (4, .int l4)]) d_X8_reader_20 (Nat.le_of_ble_eq_true rfl) rfl ?_
      obtain ⟨y9, e8, H⟩ := ob H
      refine WP.sub [2, 3, 4, 5, 6, 1, 0] (lv' := [(0, .ref t), (1, .int l1), (2, .int l2), (3, .int l3), (4, .int l4), (5, .int 0), (6, .int 0)]) rfl ?_
      refine okl_X8_reader_L22 V _ e8 ?_
      refine WP.iload d_X8_reader_68 5 rfl ?_
      refine WP.iload_n d_X8_reader_70 3 rfl ?_
      obtain ⟨j10, hs11, H⟩ := ol H
      have J12 : WP V M_X8_reader 80 [(0, .ref t), (1, .int l1), (3, .int l3), (4, .int l4), (5, .int y9)] [.int j10] h 0 0 vF hF := by
        refine WP.istore_n (lv9 := [(2, .int j10), (0, .ref t), (1, .int l1), (3, .int l3), (4, .int l4), (5, .int y9)]) d_X8_reader_80 (Nat.le_of_ble_eq_true rfl) rfl ?_
        refine WP.iload_n d_X8_reader_81 3 rfl ?_
        refine WP.iload d_X8_reader_82 5 rfl ?_
        obtain ⟨x14, e13, H⟩ := ob H
        refine WP.cS (As := [.int l3, .int y9]) (st := []) (st9 := [.int x14]) (cl9 := 0) (sl9 := 0) d_X8_reader_84 (ok_X8_greater V (h := h) e13) tv_X8_greater ts_X8_greater lk_X8_171 r_X8_reader_X8_greater rfl rfl (Nat.le_of_ble_eq_true rfl) rfl rfl rfl ?_
        refine WP.istore_n (lv9 := [(3, .int x14), (2, .int j10), (0, .ref t), (1, .int l1), (4, .int l4), (5, .int y9)]) d_X8_reader_87 (Nat.le_of_ble_eq_true rfl) rfl ?_
        refine WP.iinc (lv9 := [(4, .int (l4 + 1)), (3, .int x14), (2, .int j10), (0, .ref t), (1, .int l1), (5, .int y9)]) d_X8_reader_88 4 rfl ki_1 (Nat.le_of_ble_eq_true rfl) rfl ?_
        refine WP.goto d_X8_reader_91 ?_
        refine WP.sub [3, 4, 2, 1, 0] (lv' := [(0, .ref t), (1, .int l1), (2, .int j10), (3, .int x14), (4, .int (l4 + 1))]) rfl ?_
        exact ih H K
      rcases oj hs11 with ⟨hc, hs11⟩ | ⟨hc, hs11⟩
      · refine WP.icmp_le_t d_X8_reader_71 hc ?_
        refine WP.iload d_X8_reader_74 4 rfl ?_
        refine WP.goto d_X8_reader_76 ?_
        cases hs11
        exact WP.sub [0, 1, 3, 4, 5] rfl J12
      · refine WP.icmp_le_f d_X8_reader_71 hc ?_
        refine WP.iload_n d_X8_reader_79 2 rfl ?_
        cases hs11
        exact WP.sub [0, 1, 3, 4, 5] rfl J12
    · refine WP.icmp_ge_f d_X8_reader_13 hc ?_
      cases H
      exact WP.sub [2] rfl K

set_option maxRecDepth 20000 in
set_option maxHeartbeats 4000000 in
theorem ok_X8_reader (V : EV) {h : HA} {t : Nat} {l1 : Int32} {r : Int32} (H : X8_reader h t l1 = some r) : MG V M_X8_reader [.ref t, .int l1] h (some (.int r)) h := by
  unfold X8_reader at H
  obtain ⟨_, H⟩ := oc H
  refine MG.of (lv0 := [(0, .ref t), (1, .int l1)]) pn_X8 rfl (Nat.le_of_ble_eq_true rfl) ?_
  refine WP.iconst d_X8_reader_0 ki_m1 ?_
  refine WP.istore_n (lv9 := [(2, .int (-1)), (0, .ref t), (1, .int l1)]) d_X8_reader_1 (Nat.le_of_ble_eq_true rfl) rfl ?_
  refine WP.iconst d_X8_reader_2 ki_0 ?_
  refine WP.istore_n (lv9 := [(3, .int 0), (2, .int (-1)), (0, .ref t), (1, .int l1)]) d_X8_reader_3 (Nat.le_of_ble_eq_true rfl) rfl ?_
  refine WP.iconst d_X8_reader_4 ki_0 ?_
  refine WP.istore (lv9 := [(4, .int 0), (3, .int 0), (2, .int (-1)), (0, .ref t), (1, .int l1)]) d_X8_reader_5 (Nat.le_of_ble_eq_true rfl) rfl ?_
  obtain ⟨y16, e15, H⟩ := ob H
  refine WP.sub [3, 4, 2, 1, 0] (lv' := [(0, .ref t), (1, .int l1), (2, .int (-1)), (3, .int 0), (4, .int 0)]) rfl ?_
  refine okl_X8_reader_L7 V _ e15 ?_
  refine WP.iload_n d_X8_reader_94 0 rfl ?_
  cases H
  exact WP.ireturn d_X8_reader_95 rfl rfl (Nat.le_of_ble_eq_true rfl) (Nat.le_of_ble_eq_true rfl)

set_option maxRecDepth 20000 in
set_option maxHeartbeats 4000000 in
theorem ok_X8_lips (V : EV) {h : HA} {t : Nat} {l1 : Int32} {l2 : Int32} {l3 : Int32} {l4 : Int32} {r : Int32} {hR : HA} (H : X8_lips h t l1 l2 l3 l4 = some (r, hR)) : MG V M_X8_lips [.ref t, .int l1, .int l2, .int l3, .int l4] h (some (.int r)) hR := by
  unfold X8_lips at H
  obtain ⟨_, H⟩ := oc H
  refine MG.of (lv0 := [(0, .ref t), (1, .int l1), (2, .int l2), (3, .int l3), (4, .int l4)]) pn_X8 rfl (Nat.le_of_ble_eq_true rfl) ?_
  refine WP.aload_n d_X8_lips_0 0 rfl ?_
  refine WP.iconst d_X8_lips_1 ki_0 ?_
  obtain ⟨h1, eh1, H⟩ := ob H
  refine WP.uI d_X8_lips_2 gf_X8_102 rfl (Or.inl rfl) rfl rfl eh1 ?_
  refine WP.iload d_X8_lips_5 4 rfl ?_
  refine WP.iconst d_X8_lips_7 ki_0 ?_
  refine WP.iconst d_X8_lips_8 ki_3 ?_
  obtain ⟨x3, e2, H⟩ := ob H
  refine WP.cS (As := [.int l4, .int 0, .int 3]) (st := []) (st9 := [.int x3]) (cl9 := 0) (sl9 := 0) d_X8_lips_9 (ok_X8_in V (h := h1) e2) tv_X8_in ts_X8_in lk_X8_114 r_X8_lips_X8_in rfl rfl (Nat.le_of_ble_eq_true rfl) rfl rfl rfl ?_
  rcases oj H with ⟨hc, H⟩ | ⟨hc, H⟩
  · refine WP.if_eq_t d_X8_lips_12 hc ?_
    refine WP.bipush d_X8_lips_32 kb_m2 ?_
    cases H
    exact WP.ireturn d_X8_lips_34 rfl rfl (Nat.le_of_ble_eq_true rfl) (Nat.le_of_ble_eq_true rfl)
  · refine WP.if_eq_f d_X8_lips_12 hc ?_
    refine WP.aload_n d_X8_lips_15 0 rfl ?_
    refine WP.iload_n d_X8_lips_16 3 rfl ?_
    obtain ⟨⟨x6, h5⟩, e4, H⟩ := ob H
    refine WP.cV (c := 9) (As := [.int l3]) (st := []) (st9 := [.int x6]) (cl9 := 0) (sl9 := 0) d_X8_lips_17 (ok_X8_hasRoll V e4) tv_X8_hasRoll ti_X8_hasRoll ts_X8_hasRoll lk_X8_459 r_X8_lips_X8_hasRoll kc_X8_hasRoll (kd_X8_hasRoll e4) rfl rfl (Nat.le_of_ble_eq_true rfl) rfl rfl rfl ?_
    rcases oj H with ⟨hc, H⟩ | ⟨hc, H⟩
    · refine WP.if_eq_t d_X8_lips_20 hc ?_
      refine WP.bipush d_X8_lips_32 kb_m2 ?_
      cases H
      exact WP.ireturn d_X8_lips_34 rfl rfl (Nat.le_of_ble_eq_true rfl) (Nat.le_of_ble_eq_true rfl)
    · refine WP.if_eq_f d_X8_lips_20 hc ?_
      refine WP.aload_n d_X8_lips_23 0 rfl ?_
      refine WP.iload_n d_X8_lips_24 1 rfl ?_
      refine WP.iload_n d_X8_lips_25 2 rfl ?_
      obtain ⟨⟨x9, h8⟩, e7, H⟩ := ob H
      refine WP.cV (c := 9) (As := [.int l1, .int l2]) (st := []) (st9 := [.int x9]) (cl9 := 0) (sl9 := 0) d_X8_lips_26 (ok_X8_layTrial V e7) tv_X8_layTrial ti_X8_layTrial ts_X8_layTrial lk_X8_385 r_X8_lips_X8_layTrial kc_X8_layTrial (kd_X8_layTrial e7) rfl rfl (Nat.le_of_ble_eq_true rfl) rfl rfl rfl ?_
      rcases oj H with ⟨hc, H⟩ | ⟨hc, H⟩
      · refine WP.if_ne_t d_X8_lips_29 hc ?_
        refine WP.bipush d_X8_lips_32 kb_m2 ?_
        cases H
        exact WP.ireturn d_X8_lips_34 rfl rfl (Nat.le_of_ble_eq_true rfl) (Nat.le_of_ble_eq_true rfl)
      · refine WP.if_ne_f d_X8_lips_29 hc ?_
        refine WP.aload_n d_X8_lips_35 0 rfl ?_
        obtain ⟨x11, e10, H⟩ := ob H
        refine WP.cV (c := 9) (As := []) (st := []) (st9 := [.int x11]) (cl9 := 0) (sl9 := 0) d_X8_lips_36 (ok_X8_liars V e10) tv_X8_liars ti_X8_liars ts_X8_liars lk_X8_474 r_X8_lips_X8_liars kc_X8_liars (kd_X8_liars e10) rfl rfl (Nat.le_of_ble_eq_true rfl) rfl rfl rfl ?_
        refine WP.istore (lv9 := [(5, .int x11), (0, .ref t), (1, .int l1), (2, .int l2), (3, .int l3), (4, .int l4)]) d_X8_lips_39 (Nat.le_of_ble_eq_true rfl) rfl ?_
        refine WP.aload_n d_X8_lips_41 1 rfl ?_
        refine WP.iload d_X8_lips_42 0 rfl ?_
        obtain ⟨x13, e12, H⟩ := ob H
        refine WP.cV (c := 9) (As := [.int x11]) (st := []) (st9 := [.int x13]) (cl9 := 0) (sl9 := 0) d_X8_lips_44 (ok_X8_lipsOf V e12) tv_X8_lipsOf ti_X8_lipsOf ts_X8_lipsOf lk_X8_477 r_X8_lips_X8_lipsOf kc_X8_lipsOf (kd_X8_lipsOf e12) rfl rfl (Nat.le_of_ble_eq_true rfl) rfl rfl rfl ?_
        refine WP.istore (lv9 := [(6, .int x13), (5, .int x11), (0, .ref t), (1, .int l1), (2, .int l2), (3, .int l3), (4, .int l4)]) d_X8_lips_47 (Nat.le_of_ble_eq_true rfl) rfl ?_
        refine WP.iload d_X8_lips_49 6 rfl ?_
        rcases oj H with ⟨hc, H⟩ | ⟨hc, H⟩
        · refine WP.if_ne_t d_X8_lips_51 hc ?_
          refine WP.iload d_X8_lips_54 1 rfl ?_
          refine WP.goto d_X8_lips_56 ?_
          cases H
          exact WP.ireturn d_X8_lips_92 rfl rfl (Nat.le_of_ble_eq_true rfl) (Nat.le_of_ble_eq_true rfl)
        · refine WP.if_ne_f d_X8_lips_51 hc ?_
          refine WP.iload d_X8_lips_59 6 rfl ?_
          refine WP.iconst d_X8_lips_61 ki_1 ?_
          rcases oj H with ⟨hc, H⟩ | ⟨hc, H⟩
          · refine WP.icmp_ne_t d_X8_lips_62 hc ?_
            refine WP.iload d_X8_lips_65 0 rfl ?_
            refine WP.goto d_X8_lips_67 ?_
            cases H
            exact WP.ireturn d_X8_lips_92 rfl rfl (Nat.le_of_ble_eq_true rfl) (Nat.le_of_ble_eq_true rfl)
          · refine WP.icmp_ne_f d_X8_lips_62 hc ?_
            refine WP.iload d_X8_lips_70 6 rfl ?_
            refine WP.iconst d_X8_lips_72 ki_2 ?_
            rcases oj H with ⟨hc, H⟩ | ⟨hc, H⟩
            · refine WP.icmp_ne_t d_X8_lips_73 hc ?_
              refine WP.iload d_X8_lips_76 1 rfl ?_
              refine WP.iload d_X8_lips_78 0 rfl ?_
              refine WP.iconst d_X8_lips_80 ki_m1 ?_
              refine WP.ixor d_X8_lips_81 ?_
              refine WP.iand d_X8_lips_82 ?_
              refine WP.goto d_X8_lips_83 ?_
              cases H
              exact WP.ireturn d_X8_lips_92 rfl rfl (Nat.le_of_ble_eq_true rfl) (Nat.le_of_ble_eq_true rfl)
            · refine WP.icmp_ne_f d_X8_lips_73 hc ?_
              refine WP.aload_n d_X8_lips_86 2 rfl ?_
              refine WP.iload d_X8_lips_87 0 rfl ?_
              obtain ⟨x15, e14, H⟩ := ob H
              refine WP.cV (c := 9) (As := [.int x13]) (st := []) (st9 := [.int x15]) (cl9 := 0) (sl9 := 0) d_X8_lips_89 (ok_X8_reader V e14) tv_X8_reader ti_X8_reader ts_X8_reader lk_X8_480 r_X8_lips_X8_reader kc_X8_reader (kd_X8_reader e14) rfl rfl (Nat.le_of_ble_eq_true rfl) rfl rfl rfl ?_
              cases H
              exact WP.ireturn d_X8_lips_92 rfl rfl (Nat.le_of_ble_eq_true rfl) (Nat.le_of_ble_eq_true rfl)

set_option maxRecDepth 20000 in
set_option maxHeartbeats 4000000 in
theorem ok_X8_draw (V : EV) {h : HA} {t : Nat} {l1 : Int32} {r : Int32} {hR : HA} (H : X8_draw h t l1 = some (r, hR)) : MG V M_X8_draw [.ref t, .int l1] h (some (.int r)) hR := by
  unfold X8_draw at H
  obtain ⟨_, H⟩ := oc H
  refine MG.of (lv0 := [(0, .ref t), (1, .int l1)]) pn_X8 rfl (Nat.le_of_ble_eq_true rfl) ?_
  refine WP.aload_n d_X8_draw_0 0 rfl ?_
  refine WP.aload_n d_X8_draw_1 0 rfl ?_
  obtain ⟨x1, ex1, H⟩ := ob H
  refine WP.fI d_X8_draw_2 gf_X8_483 (fun _ => rfl) ex1 ?_
  refine WP.ldc_w d_X8_draw_5 wi_X8_486 ?_
  refine WP.imul d_X8_draw_8 ?_
  refine WP.sipush d_X8_draw_9 ks_12345 ?_
  refine WP.iadd d_X8_draw_12 ?_
  obtain ⟨h2, eh2, H⟩ := ob H
  refine WP.uI d_X8_draw_13 gf_X8_483 rfl (Or.inl rfl) rfl rfl eh2 ?_
  refine WP.aload_n d_X8_draw_16 0 rfl ?_
  obtain ⟨x3, ex3, H⟩ := ob H
  refine WP.fI d_X8_draw_17 gf_X8_483 (fun _ => rfl) ex3 ?_
  refine WP.bipush d_X8_draw_20 kb_16 ?_
  refine WP.iushr d_X8_draw_22 ?_
  refine WP.iload_n d_X8_draw_23 1 rfl ?_
  obtain ⟨x4, ex4, H⟩ := ob H
  refine WP.irem d_X8_draw_24 ex4 ?_
  cases H
  exact WP.ireturn d_X8_draw_25 rfl rfl (Nat.le_of_ble_eq_true rfl) (Nat.le_of_ble_eq_true rfl)

set_option maxRecDepth 20000 in
set_option maxHeartbeats 4000000 in
theorem okl_X8_drawn_L65 (V : EV) {vF : Option Value} {hF : HA} {t : Nat} {l4 : Int32} {l5 : Int32} (n : Nat) : ∀ {h : HA} {l6 : Int32} {l7 : Int32} {r6 : Int32} {hR : HA}, (H : X8_drawn_L65 t l4 n h l6 l7 = some (r6, hR)) → (K : WP V M_X8_drawn 108 [(0, .ref t), (5, .int l5), (6, .int r6)] [] hR 0 0 vF hF) → WP V M_X8_drawn 65 [(0, .ref t), (4, .int l4), (5, .int l5), (6, .int l6), (7, .int l7)] [] h 0 0 vF hF := by
  induction n with
  | zero =>
    intro h l6 l7 r6 hR H K
    rw [X8_drawn_L65] at H
    cases H
  | succ n ih =>
    intro h l6 l7 r6 hR H K
    rw [X8_drawn_L65] at H
    refine WP.iload d_X8_drawn_65 4 rfl ?_
    refine WP.aload_n d_X8_drawn_67 0 rfl ?_
    obtain ⟨x15, ex15, H⟩ := ob H
    refine WP.fI d_X8_drawn_68 gf_X8_373 (fun _ => rfl) ex15 ?_
    rcases oj H with ⟨hc, H⟩ | ⟨hc, H⟩
    · refine WP.icmp_ge_t d_X8_drawn_71 hc ?_
      refine WP.aload_n d_X8_drawn_74 0 rfl ?_
      refine WP.bipush d_X8_drawn_75 kb_100 ?_
      obtain ⟨⟨x18, h17⟩, e16, H⟩ := ob H
      refine WP.cV (c := 9) (As := [.int 100]) (st := []) (st9 := [.int x18]) (cl9 := 0) (sl9 := 0) d_X8_drawn_77 (ok_X8_draw V e16) tv_X8_draw ti_X8_draw ts_X8_draw lk_X8_487 r_X8_drawn_X8_draw kc_X8_draw (kd_X8_draw e16) rfl rfl (Nat.le_of_ble_eq_true rfl) rfl rfl rfl ?_
      refine WP.iload d_X8_drawn_80 1 rfl ?_
      rcases oj H with ⟨hc, H⟩ | ⟨hc, H⟩
      · refine WP.icmp_ge_t d_X8_drawn_82 hc ?_
        refine WP.aload_n d_X8_drawn_85 0 rfl ?_
        obtain ⟨x19, ex19, H⟩ := ob H
        refine WP.fR d_X8_drawn_86 gf_X8_83 (fun _ => rfl) ex19 ?_
        refine WP.iload d_X8_drawn_89 4 rfl ?_
        refine WP.iconst d_X8_drawn_91 ki_1 ?_
        refine WP.aload_n d_X8_drawn_92 0 rfl ?_
        refine WP.iconst d_X8_drawn_93 ki_4 ?_
        obtain ⟨⟨x22, h21⟩, e20, H⟩ := ob H
        refine WP.cV (c := 9) (As := [.int 4]) (st := [.int 1, .int l7, .ref x19]) (st9 := [.int x22, .int 1, .int l7, .ref x19]) (cl9 := 0) (sl9 := 0) d_X8_drawn_94 (ok_X8_draw V e20) tv_X8_draw ti_X8_draw ts_X8_draw lk_X8_487 r_X8_drawn_X8_draw kc_X8_draw (kd_X8_draw e20) rfl rfl (Nat.le_of_ble_eq_true rfl) rfl rfl rfl ?_
        refine WP.ishl d_X8_drawn_97 ?_
        obtain ⟨h23, eh23, H⟩ := ob H
        refine WP.ias d_X8_drawn_98 eh23 ?_
        refine WP.iinc (lv9 := [(6, .int (l6 + 1)), (0, .ref t), (4, .int l4), (5, .int l5), (7, .int l7)]) d_X8_drawn_99 3 rfl ki_1 (Nat.le_of_ble_eq_true rfl) rfl ?_
        refine WP.iinc (lv9 := [(7, .int (l7 + 1)), (6, .int (l6 + 1)), (0, .ref t), (4, .int l4), (5, .int l5)]) d_X8_drawn_102 4 rfl ki_1 (Nat.le_of_ble_eq_true rfl) rfl ?_
        refine WP.goto d_X8_drawn_105 ?_
        refine WP.sub [2, 3, 4, 1, 0] (lv' := [(0, .ref t), (4, .int l4), (5, .int l5), (6, .int (l6 + 1)), (7, .int (l7 + 1))]) rfl ?_
        exact ih H K
      · refine WP.icmp_ge_f d_X8_drawn_82 hc ?_
        refine WP.iinc (lv9 := [(7, .int (l7 + 1)), (0, .ref t), (4, .int l4), (5, .int l5), (6, .int l6)]) d_X8_drawn_102 4 rfl ki_1 (Nat.le_of_ble_eq_true rfl) rfl ?_
        refine WP.goto d_X8_drawn_105 ?_
        refine WP.sub [1, 2, 3, 4, 0] (lv' := [(0, .ref t), (4, .int l4), (5, .int l5), (6, .int l6), (7, .int (l7 + 1))]) rfl ?_
        exact ih H K
    · refine WP.icmp_ge_f d_X8_drawn_71 hc ?_
      cases H
      exact WP.sub [0, 2, 3] rfl K

set_option maxRecDepth 20000 in
set_option maxHeartbeats 4000000 in
theorem okl_X8_drawn_L123 (V : EV) {vF : Option Value} {hF : HA} {h : HA} {t : Nat} {l5 : Int32} (n : Nat) : ∀ {l7 : Int32} {l8 : Int32} {r7 : Int32}, (H : X8_drawn_L123 h t n l7 l8 = some r7) → (K : WP V M_X8_drawn 152 [(0, .ref t), (5, .int l5), (7, .int r7)] [] h 0 0 vF hF) → WP V M_X8_drawn 123 [(0, .ref t), (5, .int l5), (7, .int l7), (8, .int l8)] [] h 0 0 vF hF := by
  induction n with
  | zero =>
    intro l7 l8 r7 H K
    rw [X8_drawn_L123] at H
    cases H
  | succ n ih =>
    intro l7 l8 r7 H K
    rw [X8_drawn_L123] at H
    refine WP.iload d_X8_drawn_123 3 rfl ?_
    refine WP.aload_n d_X8_drawn_125 0 rfl ?_
    obtain ⟨x27, ex27, H⟩ := ob H
    refine WP.fI d_X8_drawn_126 gf_X8_280 (fun _ => rfl) ex27 ?_
    rcases oj H with ⟨hc, H⟩ | ⟨hc, H⟩
    · refine WP.icmp_ge_t d_X8_drawn_129 hc ?_
      refine WP.iload d_X8_drawn_132 2 rfl ?_
      refine WP.aload_n d_X8_drawn_134 0 rfl ?_
      refine WP.iload d_X8_drawn_135 3 rfl ?_
      obtain ⟨x29, e28, H⟩ := ob H
      refine WP.cV (c := 9) (As := [.int l8]) (st := [.int l7]) (st9 := [.int x29, .int l7]) (cl9 := 0) (sl9 := 0) d_X8_drawn_137 (ok_X8_known V e28) tv_X8_known ti_X8_known ts_X8_known lk_X8_402 r_X8_drawn_X8_known kc_X8_known (kd_X8_known e28) rfl rfl (Nat.le_of_ble_eq_true rfl) rfl rfl rfl ?_
      obtain ⟨x31, e30, H⟩ := ob H
      refine WP.cS (As := [.int x29]) (st := [.int l7]) (st9 := [.int x31, .int l7]) (cl9 := 0) (sl9 := 0) d_X8_drawn_140 (ok_X8_ones V (h := h) e30) tv_X8_ones ts_X8_ones lk_X8_349 r_X8_drawn_X8_ones rfl rfl (Nat.le_of_ble_eq_true rfl) rfl rfl rfl ?_
      refine WP.iadd d_X8_drawn_143 ?_
      refine WP.istore (lv9 := [(7, .int (l7 + x31)), (0, .ref t), (5, .int l5), (8, .int l8)]) d_X8_drawn_144 (Nat.le_of_ble_eq_true rfl) rfl ?_
      refine WP.iinc (lv9 := [(8, .int (l8 + 1)), (7, .int (l7 + x31)), (0, .ref t), (5, .int l5)]) d_X8_drawn_146 3 rfl ki_1 (Nat.le_of_ble_eq_true rfl) rfl ?_
      refine WP.goto d_X8_drawn_149 ?_
      refine WP.sub [2, 3, 1, 0] (lv' := [(0, .ref t), (5, .int l5), (7, .int (l7 + x31)), (8, .int (l8 + 1))]) rfl ?_
      exact ih H K
    · refine WP.icmp_ge_f d_X8_drawn_129 hc ?_
      cases H
      exact WP.sub [0, 1, 2] rfl K

set_option maxRecDepth 20000 in
set_option maxHeartbeats 4000000 in
theorem ok_X8_drawn (V : EV) {h : HA} {t : Nat} {l1 : Int32} {l2 : Int32} {l3 : Int32} {l4 : Int32} {l5 : Int32} {r : Int32} {hR : HA} (H : X8_drawn h t l1 l2 l3 l4 l5 = some (r, hR)) : MG V M_X8_drawn [.ref t, .int l1, .int l2, .int l3, .int l4, .int l5] h (some (.int r)) hR := by
  unfold X8_drawn at H
  obtain ⟨_, H⟩ := oc H
  refine MG.of (lv0 := [(0, .ref t), (1, .int l1), (2, .int l2), (3, .int l3), (4, .int l4), (5, .int l5)]) pn_X8 rfl (Nat.le_of_ble_eq_true rfl) ?_
  refine WP.aload_n d_X8_drawn_0 0 rfl ?_
  refine WP.iconst d_X8_drawn_1 ki_0 ?_
  obtain ⟨h1, eh1, H⟩ := ob H
  refine WP.uI d_X8_drawn_2 gf_X8_102 rfl (Or.inl rfl) rfl rfl eh1 ?_
  refine WP.iload d_X8_drawn_5 4 rfl ?_
  refine WP.iconst d_X8_drawn_7 ki_0 ?_
  refine WP.bipush d_X8_drawn_8 kb_100 ?_
  obtain ⟨x3, e2, H⟩ := ob H
  refine WP.cS (As := [.int l4, .int 0, .int 100]) (st := []) (st9 := [.int x3]) (cl9 := 0) (sl9 := 0) d_X8_drawn_10 (ok_X8_in V (h := h1) e2) tv_X8_in ts_X8_in lk_X8_114 r_X8_drawn_X8_in rfl rfl (Nat.le_of_ble_eq_true rfl) rfl rfl rfl ?_
  rcases oj H with ⟨hc, H⟩ | ⟨hc, H⟩
  · refine WP.if_eq_t d_X8_drawn_13 hc ?_
    refine WP.iconst d_X8_drawn_52 ki_m1 ?_
    cases H
    exact WP.ireturn d_X8_drawn_53 rfl rfl (Nat.le_of_ble_eq_true rfl) (Nat.le_of_ble_eq_true rfl)
  · refine WP.if_eq_f d_X8_drawn_13 hc ?_
    refine WP.aload_n d_X8_drawn_16 0 rfl ?_
    refine WP.iload_n d_X8_drawn_17 1 rfl ?_
    refine WP.iload_n d_X8_drawn_18 2 rfl ?_
    obtain ⟨⟨x6, h5⟩, e4, H⟩ := ob H
    refine WP.cV (c := 9) (As := [.int l1, .int l2]) (st := []) (st9 := [.int x6]) (cl9 := 0) (sl9 := 0) d_X8_drawn_19 (ok_X8_layTrial V e4) tv_X8_layTrial ti_X8_layTrial ts_X8_layTrial lk_X8_385 r_X8_drawn_X8_layTrial kc_X8_layTrial (kd_X8_layTrial e4) rfl rfl (Nat.le_of_ble_eq_true rfl) rfl rfl rfl ?_
    rcases oj H with ⟨hc, H⟩ | ⟨hc, H⟩
    · refine WP.if_eq_t d_X8_drawn_22 hc ?_
      refine WP.iconst d_X8_drawn_52 ki_m1 ?_
      cases H
      exact WP.ireturn d_X8_drawn_53 rfl rfl (Nat.le_of_ble_eq_true rfl) (Nat.le_of_ble_eq_true rfl)
    · refine WP.if_eq_f d_X8_drawn_22 hc ?_
      refine WP.iload d_X8_drawn_25 5 rfl ?_
      refine WP.iconst d_X8_drawn_27 ki_0 ?_
      refine WP.iconst d_X8_drawn_28 ki_1 ?_
      obtain ⟨x8, e7, H⟩ := ob H
      refine WP.cS (As := [.int l5, .int 0, .int 1]) (st := []) (st9 := [.int x8]) (cl9 := 0) (sl9 := 0) d_X8_drawn_29 (ok_X8_in V (h := h5) e7) tv_X8_in ts_X8_in lk_X8_114 r_X8_drawn_X8_in rfl rfl (Nat.le_of_ble_eq_true rfl) rfl rfl rfl ?_
      obtain ⟨s40, hs9, H⟩ := ob H
      rcases s40 with r36 | _
      · dsimp only at H
        rcases oj hs9 with ⟨hc, hs9⟩ | ⟨hc, hs9⟩
        · refine WP.if_ne_t d_X8_drawn_32 hc ?_
          refine WP.iload d_X8_drawn_35 5 rfl ?_
          refine WP.bipush d_X8_drawn_37 kb_10 ?_
          refine WP.bipush d_X8_drawn_39 kb_9 ?_
          refine WP.aload_n d_X8_drawn_41 0 rfl ?_
          obtain ⟨x37, ex37, hs9⟩ := ob hs9
          refine WP.fI d_X8_drawn_42 gf_X8_280 (fun _ => rfl) ex37 ?_
          refine WP.iadd d_X8_drawn_45 ?_
          obtain ⟨x39, e38, hs9⟩ := ob hs9
          refine WP.cS (As := [.int l5, .int 10, .int (9 + x37)]) (st := []) (st9 := [.int x39]) (cl9 := 0) (sl9 := 0) d_X8_drawn_46 (ok_X8_in V (h := h5) e38) tv_X8_in ts_X8_in lk_X8_114 r_X8_drawn_X8_in rfl rfl (Nat.le_of_ble_eq_true rfl) rfl rfl rfl ?_
          rcases oj hs9 with ⟨hc, hs9⟩ | ⟨hc, hs9⟩
          · refine WP.if_ne_t d_X8_drawn_49 hc ?_
            refine WP.iconst d_X8_drawn_52 ki_m1 ?_
            cases hs9
            cases H
            exact WP.ireturn d_X8_drawn_53 rfl rfl (Nat.le_of_ble_eq_true rfl) (Nat.le_of_ble_eq_true rfl)
          · refine WP.if_ne_f d_X8_drawn_49 hc ?_
            cases hs9
        · refine WP.if_ne_f d_X8_drawn_32 hc ?_
          cases hs9
      · dsimp only at H
        have J10 : WP V M_X8_drawn 54 [(0, .ref t), (3, .int l3), (4, .int l4), (5, .int l5)] [] h5 0 0 (some (.int r)) hR := by
          refine WP.aload_n d_X8_drawn_54 0 rfl ?_
          refine WP.iload_n d_X8_drawn_55 1 rfl ?_
          obtain ⟨h14, eh14, H⟩ := ob H
          refine WP.uI d_X8_drawn_56 gf_X8_483 rfl (Or.inl rfl) rfl rfl eh14 ?_
          refine WP.iconst d_X8_drawn_59 ki_0 ?_
          refine WP.istore (lv9 := [(6, .int 0), (0, .ref t), (3, .int l3), (4, .int l4), (5, .int l5)]) d_X8_drawn_60 (Nat.le_of_ble_eq_true rfl) rfl ?_
          refine WP.iconst d_X8_drawn_62 ki_0 ?_
          refine WP.istore (lv9 := [(7, .int 0), (6, .int 0), (0, .ref t), (3, .int l3), (4, .int l4), (5, .int l5)]) d_X8_drawn_63 (Nat.le_of_ble_eq_true rfl) rfl ?_
          obtain ⟨⟨y25, h26⟩, e24, H⟩ := ob H
          refine WP.sub [2, 4, 5, 1, 0] (lv' := [(0, .ref t), (4, .int l4), (5, .int l5), (6, .int 0), (7, .int 0)]) rfl ?_
          refine okl_X8_drawn_L65 V _ e24 ?_
          refine WP.iload d_X8_drawn_108 1 rfl ?_
          refine WP.iconst d_X8_drawn_110 ki_1 ?_
          rcases oj H with ⟨hc, H⟩ | ⟨hc, H⟩
          · refine WP.icmp_ne_t d_X8_drawn_111 hc ?_
            refine WP.iload d_X8_drawn_114 2 rfl ?_
            cases H
            exact WP.ireturn d_X8_drawn_116 rfl rfl (Nat.le_of_ble_eq_true rfl) (Nat.le_of_ble_eq_true rfl)
          · refine WP.icmp_ne_f d_X8_drawn_111 hc ?_
            refine WP.iconst d_X8_drawn_117 ki_0 ?_
            refine WP.istore (lv9 := [(7, .int 0), (0, .ref t), (5, .int l5), (6, .int y25)]) d_X8_drawn_118 (Nat.le_of_ble_eq_true rfl) rfl ?_
            refine WP.iconst d_X8_drawn_120 ki_0 ?_
            refine WP.istore (lv9 := [(8, .int 0), (7, .int 0), (0, .ref t), (5, .int l5), (6, .int y25)]) d_X8_drawn_121 (Nat.le_of_ble_eq_true rfl) rfl ?_
            obtain ⟨y33, e32, H⟩ := ob H
            refine WP.sub [2, 3, 1, 0] (lv' := [(0, .ref t), (5, .int l5), (7, .int 0), (8, .int 0)]) rfl ?_
            refine okl_X8_drawn_L123 V _ e32 ?_
            refine WP.iload d_X8_drawn_152 1 rfl ?_
            rcases oj H with ⟨hc, H⟩ | ⟨hc, H⟩
            · refine WP.if_ne_t d_X8_drawn_154 hc ?_
              refine WP.iload d_X8_drawn_157 2 rfl ?_
              refine WP.goto d_X8_drawn_159 ?_
              cases H
              exact WP.ireturn d_X8_drawn_171 rfl rfl (Nat.le_of_ble_eq_true rfl) (Nat.le_of_ble_eq_true rfl)
            · refine WP.if_ne_f d_X8_drawn_154 hc ?_
              refine WP.aload_n d_X8_drawn_162 0 rfl ?_
              refine WP.iload d_X8_drawn_163 1 rfl ?_
              refine WP.bipush d_X8_drawn_165 kb_10 ?_
              refine WP.isub d_X8_drawn_167 ?_
              obtain ⟨x35, e34, H⟩ := ob H
              refine WP.cV (c := 9) (As := [.int (l5 - 10)]) (st := []) (st9 := [.int x35]) (cl9 := 0) (sl9 := 0) d_X8_drawn_168 (ok_X8_known V e34) tv_X8_known ti_X8_known ts_X8_known lk_X8_402 r_X8_drawn_X8_known kc_X8_known (kd_X8_known e34) rfl rfl (Nat.le_of_ble_eq_true rfl) rfl rfl rfl ?_
              cases H
              exact WP.ireturn d_X8_drawn_171 rfl rfl (Nat.le_of_ble_eq_true rfl) (Nat.le_of_ble_eq_true rfl)
        rcases oj hs9 with ⟨hc, hs9⟩ | ⟨hc, hs9⟩
        · refine WP.if_ne_t d_X8_drawn_32 hc ?_
          refine WP.iload d_X8_drawn_35 5 rfl ?_
          refine WP.bipush d_X8_drawn_37 kb_10 ?_
          refine WP.bipush d_X8_drawn_39 kb_9 ?_
          refine WP.aload_n d_X8_drawn_41 0 rfl ?_
          obtain ⟨x11, ex11, hs9⟩ := ob hs9
          refine WP.fI d_X8_drawn_42 gf_X8_280 (fun _ => rfl) ex11 ?_
          refine WP.iadd d_X8_drawn_45 ?_
          obtain ⟨x13, e12, hs9⟩ := ob hs9
          refine WP.cS (As := [.int l5, .int 10, .int (9 + x11)]) (st := []) (st9 := [.int x13]) (cl9 := 0) (sl9 := 0) d_X8_drawn_46 (ok_X8_in V (h := h5) e12) tv_X8_in ts_X8_in lk_X8_114 r_X8_drawn_X8_in rfl rfl (Nat.le_of_ble_eq_true rfl) rfl rfl rfl ?_
          rcases oj hs9 with ⟨hc, hs9⟩ | ⟨hc, hs9⟩
          · refine WP.if_ne_t d_X8_drawn_49 hc ?_
            refine WP.iconst d_X8_drawn_52 ki_m1 ?_
            cases hs9
          · refine WP.if_ne_f d_X8_drawn_49 hc ?_
            cases hs9
            exact WP.sub [0, 3, 4, 5] rfl J10
        · refine WP.if_ne_f d_X8_drawn_32 hc ?_
          cases hs9
          exact WP.sub [0, 3, 4, 5] rfl J10

set_option maxRecDepth 20000 in
set_option maxHeartbeats 4000000 in
theorem okl_X8_hush_L55 (V : EV) {h : HA} {t : Nat} {l2 : Int32} {l3 : Int32} {l4 : Int32} (n : Nat) : ∀ {l5 : Int32} {r : Int32} {hR : HA} , (H : X8_hush_L55 h t l2 l3 l4 n l5 = some (r, hR)) → WP V M_X8_hush 55 [(0, .ref t), (2, .int l2), (3, .int l3), (4, .int l4), (5, .int l5)] [] h 0 0 (some (.int r)) hR := by
  induction n with
  | zero =>
    intro l5 r hR H
    rw [X8_hush_L55] at H
    cases H
  | succ n ih =>
    intro l5 r hR H
    rw [X8_hush_L55] at H
    refine WP.iload d_X8_hush_55 4 rfl ?_
    refine WP.bipush d_X8_hush_57 kb_9 ?_
    rcases oj H with ⟨hc, H⟩ | ⟨hc, H⟩
    · refine WP.icmp_gt_t d_X8_hush_59 hc ?_
      refine WP.iconst d_X8_hush_87 ki_m1 ?_
      cases H
      exact WP.ireturn d_X8_hush_88 rfl rfl (Nat.le_of_ble_eq_true rfl) (Nat.le_of_ble_eq_true rfl)
    · refine WP.icmp_gt_f d_X8_hush_59 hc ?_
      refine WP.aload_n d_X8_hush_62 0 rfl ?_
      refine WP.iload_n d_X8_hush_63 1 rfl ?_
      refine WP.iload_n d_X8_hush_64 2 rfl ?_
      refine WP.iload d_X8_hush_65 4 rfl ?_
      obtain ⟨x14, e13, H⟩ := ob H
      refine WP.cV (c := 9) (As := [.int l2, .int l3, .int l5]) (st := []) (st9 := [.int x14]) (cl9 := 0) (sl9 := 0) d_X8_hush_67 (ok_X8_earsAt V e13) tv_X8_earsAt ti_X8_earsAt ts_X8_earsAt lk_X8_325 r_X8_hush_X8_earsAt kc_X8_earsAt (kd_X8_earsAt e13) rfl rfl (Nat.le_of_ble_eq_true rfl) rfl rfl rfl ?_
      obtain ⟨x16, e15, H⟩ := ob H
      refine WP.cS (As := [.int x14]) (st := []) (st9 := [.int x16]) (cl9 := 0) (sl9 := 0) d_X8_hush_70 (ok_X8_ones V (h := h) e15) tv_X8_ones ts_X8_ones lk_X8_349 r_X8_hush_X8_ones rfl rfl (Nat.le_of_ble_eq_true rfl) rfl rfl rfl ?_
      refine WP.iload d_X8_hush_73 3 rfl ?_
      rcases oj H with ⟨hc, H⟩ | ⟨hc, H⟩
      · refine WP.icmp_lt_t d_X8_hush_75 hc ?_
        refine WP.iinc (lv9 := [(5, .int (l5 + 1)), (0, .ref t), (2, .int l2), (3, .int l3), (4, .int l4)]) d_X8_hush_81 4 rfl ki_1 (Nat.le_of_ble_eq_true rfl) rfl ?_
        refine WP.goto d_X8_hush_84 ?_
        refine WP.sub [1, 2, 3, 4, 0] (lv' := [(0, .ref t), (2, .int l2), (3, .int l3), (4, .int l4), (5, .int (l5 + 1))]) rfl ?_
        exact ih H
      · refine WP.icmp_lt_f d_X8_hush_75 hc ?_
        refine WP.iload d_X8_hush_78 4 rfl ?_
        cases H
        exact WP.ireturn d_X8_hush_80 rfl rfl (Nat.le_of_ble_eq_true rfl) (Nat.le_of_ble_eq_true rfl)

set_option maxRecDepth 20000 in
set_option maxHeartbeats 4000000 in
theorem ok_X8_hush (V : EV) {h : HA} {t : Nat} {l1 : Int32} {l2 : Int32} {l3 : Int32} {l4 : Int32} {r : Int32} {hR : HA} (H : X8_hush h t l1 l2 l3 l4 = some (r, hR)) : MG V M_X8_hush [.ref t, .int l1, .int l2, .int l3, .int l4] h (some (.int r)) hR := by
  unfold X8_hush at H
  obtain ⟨_, H⟩ := oc H
  refine MG.of (lv0 := [(0, .ref t), (1, .int l1), (2, .int l2), (3, .int l3), (4, .int l4)]) pn_X8 rfl (Nat.le_of_ble_eq_true rfl) ?_
  refine WP.aload_n d_X8_hush_0 0 rfl ?_
  refine WP.iconst d_X8_hush_1 ki_0 ?_
  obtain ⟨h1, eh1, H⟩ := ob H
  refine WP.uI d_X8_hush_2 gf_X8_102 rfl (Or.inl rfl) rfl rfl eh1 ?_
  refine WP.iload_n d_X8_hush_5 3 rfl ?_
  refine WP.iconst d_X8_hush_6 ki_0 ?_
  refine WP.bipush d_X8_hush_7 kb_99 ?_
  obtain ⟨x3, e2, H⟩ := ob H
  refine WP.cS (As := [.int l3, .int 0, .int 99]) (st := []) (st9 := [.int x3]) (cl9 := 0) (sl9 := 0) d_X8_hush_9 (ok_X8_in V (h := h1) e2) tv_X8_in ts_X8_in lk_X8_114 r_X8_hush_X8_in rfl rfl (Nat.le_of_ble_eq_true rfl) rfl rfl rfl ?_
  rcases oj H with ⟨hc, H⟩ | ⟨hc, H⟩
  · refine WP.if_eq_t d_X8_hush_12 hc ?_
    refine WP.iconst d_X8_hush_50 ki_m1 ?_
    cases H
    exact WP.ireturn d_X8_hush_51 rfl rfl (Nat.le_of_ble_eq_true rfl) (Nat.le_of_ble_eq_true rfl)
  · refine WP.if_eq_f d_X8_hush_12 hc ?_
    refine WP.iload d_X8_hush_15 4 rfl ?_
    refine WP.iconst d_X8_hush_17 ki_1 ?_
    refine WP.bipush d_X8_hush_18 kb_6 ?_
    obtain ⟨x5, e4, H⟩ := ob H
    refine WP.cS (As := [.int l4, .int 1, .int 6]) (st := []) (st9 := [.int x5]) (cl9 := 0) (sl9 := 0) d_X8_hush_20 (ok_X8_in V (h := h1) e4) tv_X8_in ts_X8_in lk_X8_114 r_X8_hush_X8_in rfl rfl (Nat.le_of_ble_eq_true rfl) rfl rfl rfl ?_
    rcases oj H with ⟨hc, H⟩ | ⟨hc, H⟩
    · refine WP.if_eq_t d_X8_hush_23 hc ?_
      refine WP.iconst d_X8_hush_50 ki_m1 ?_
      cases H
      exact WP.ireturn d_X8_hush_51 rfl rfl (Nat.le_of_ble_eq_true rfl) (Nat.le_of_ble_eq_true rfl)
    · refine WP.if_eq_f d_X8_hush_23 hc ?_
      refine WP.aload_n d_X8_hush_26 0 rfl ?_
      refine WP.iload_n d_X8_hush_27 1 rfl ?_
      obtain ⟨⟨x8, h7⟩, e6, H⟩ := ob H
      refine WP.cV (c := 9) (As := [.int l1]) (st := []) (st9 := [.int x8]) (cl9 := 0) (sl9 := 0) d_X8_hush_28 (ok_X8_hand V e6) tv_X8_hand ti_X8_hand ts_X8_hand lk_X8_331 r_X8_hush_X8_hand kc_X8_hand (kd_X8_hand e6) rfl rfl (Nat.le_of_ble_eq_true rfl) rfl rfl rfl ?_
      rcases oj H with ⟨hc, H⟩ | ⟨hc, H⟩
      · refine WP.if_eq_t d_X8_hush_31 hc ?_
        refine WP.iconst d_X8_hush_50 ki_m1 ?_
        cases H
        exact WP.ireturn d_X8_hush_51 rfl rfl (Nat.le_of_ble_eq_true rfl) (Nat.le_of_ble_eq_true rfl)
      · refine WP.if_eq_f d_X8_hush_31 hc ?_
        refine WP.aload_n d_X8_hush_34 0 rfl ?_
        refine WP.iload_n d_X8_hush_35 2 rfl ?_
        obtain ⟨x10, e9, H⟩ := ob H
        refine WP.cV (c := 9) (As := [.int l2]) (st := []) (st9 := [.int x10]) (cl9 := 0) (sl9 := 0) d_X8_hush_36 (ok_X8_isField V e9) tv_X8_isField ti_X8_isField ts_X8_isField lk_X8_337 r_X8_hush_X8_isField kc_X8_isField (kd_X8_isField e9) rfl rfl (Nat.le_of_ble_eq_true rfl) rfl rfl rfl ?_
        rcases oj H with ⟨hc, H⟩ | ⟨hc, H⟩
        · refine WP.if_eq_t d_X8_hush_39 hc ?_
          refine WP.iconst d_X8_hush_50 ki_m1 ?_
          cases H
          exact WP.ireturn d_X8_hush_51 rfl rfl (Nat.le_of_ble_eq_true rfl) (Nat.le_of_ble_eq_true rfl)
        · refine WP.if_eq_f d_X8_hush_39 hc ?_
          refine WP.aload_n d_X8_hush_42 0 rfl ?_
          refine WP.iload_n d_X8_hush_43 2 rfl ?_
          obtain ⟨x12, e11, H⟩ := ob H
          refine WP.cV (c := 9) (As := [.int l2]) (st := []) (st9 := [.int x12]) (cl9 := 0) (sl9 := 0) d_X8_hush_44 (ok_X8_isWall V e11) tv_X8_isWall ti_X8_isWall ts_X8_isWall lk_X8_292 r_X8_hush_X8_isWall kc_X8_isWall (kd_X8_isWall e11) rfl rfl (Nat.le_of_ble_eq_true rfl) rfl rfl rfl ?_
          rcases oj H with ⟨hc, H⟩ | ⟨hc, H⟩
          · refine WP.if_eq_t d_X8_hush_47 hc ?_
            refine WP.iconst d_X8_hush_52 ki_0 ?_
            refine WP.istore (lv9 := [(5, .int 0), (0, .ref t), (1, .int l1), (2, .int l2), (3, .int l3), (4, .int l4)]) d_X8_hush_53 (Nat.le_of_ble_eq_true rfl) rfl ?_
            refine WP.sub [1, 3, 4, 5, 0] (lv' := [(0, .ref t), (2, .int l2), (3, .int l3), (4, .int l4), (5, .int 0)]) rfl ?_
            exact okl_X8_hush_L55 V _ H
          · refine WP.if_eq_f d_X8_hush_47 hc ?_
            refine WP.iconst d_X8_hush_50 ki_m1 ?_
            cases H
            exact WP.ireturn d_X8_hush_51 rfl rfl (Nat.le_of_ble_eq_true rfl) (Nat.le_of_ble_eq_true rfl)

set_option maxRecDepth 20000 in
set_option maxHeartbeats 4000000 in
theorem okl_X8_benchOf_L7 (V : EV) {vF : Option Value} {hF : HA} {h : HA} {t : Nat} {l1 : Int32} (n : Nat) : ∀ {l2 : Int32} {l3 : Int32} {l4 : Int32} {r2 : Int32}, (H : X8_benchOf_L7 h t l1 n l2 l3 l4 = some r2) → (K : WP V M_X8_benchOf 63 [(2, .int r2)] [] h 0 0 vF hF) → WP V M_X8_benchOf 7 [(0, .ref t), (1, .int l1), (2, .int l2), (3, .int l3), (4, .int l4)] [] h 0 0 vF hF := by
  induction n with
  | zero =>
    intro l2 l3 l4 r2 H K
    rw [X8_benchOf_L7] at H
    cases H
  | succ n ih =>
    intro l2 l3 l4 r2 H K
    rw [X8_benchOf_L7] at H
    refine WP.iload d_X8_benchOf_7 4 rfl ?_
    refine WP.iconst d_X8_benchOf_9 ki_4 ?_
    rcases oj H with ⟨hc, H⟩ | ⟨hc, H⟩
    · refine WP.icmp_ge_t d_X8_benchOf_10 hc ?_
      refine WP.aload_n d_X8_benchOf_13 0 rfl ?_
      refine WP.iload_n d_X8_benchOf_14 1 rfl ?_
      refine WP.iload d_X8_benchOf_15 4 rfl ?_
      refine WP.iconst d_X8_benchOf_17 ki_0 ?_
      refine WP.aload_n d_X8_benchOf_18 0 rfl ?_
      refine WP.iload_n d_X8_benchOf_19 1 rfl ?_
      obtain ⟨x2, e1, H⟩ := ob H
      refine WP.cV (c := 9) (As := [.int l1]) (st := [.int 0, .int l4, .int l1, .ref t]) (st9 := [.int x2, .int 0, .int l4, .int l1, .ref t]) (cl9 := 0) (sl9 := 0) d_X8_benchOf_20 (ok_X8_earsOf V e1) tv_X8_earsOf ti_X8_earsOf ts_X8_earsOf lk_X8_314 r_X8_benchOf_X8_earsOf kc_X8_earsOf (kd_X8_earsOf e1) rfl rfl (Nat.le_of_ble_eq_true rfl) rfl rfl rfl ?_
      refine WP.aload_n d_X8_benchOf_23 0 rfl ?_
      refine WP.iload_n d_X8_benchOf_24 1 rfl ?_
      refine WP.iconst d_X8_benchOf_25 ki_3 ?_
      obtain ⟨x4, e3, H⟩ := ob H
      refine WP.cV (c := 9) (As := [.int l1, .int 3]) (st := [.int x2, .int 0, .int l4, .int l1, .ref t]) (st9 := [.int x4, .int x2, .int 0, .int l4, .int l1, .ref t]) (cl9 := 0) (sl9 := 0) d_X8_benchOf_26 (ok_X8_judgeOf V e3) tv_X8_judgeOf ti_X8_judgeOf ts_X8_judgeOf lk_X8_307 r_X8_benchOf_X8_judgeOf kc_X8_judgeOf (kd_X8_judgeOf e3) rfl rfl (Nat.le_of_ble_eq_true rfl) rfl rfl rfl ?_
      obtain ⟨x6, e5, H⟩ := ob H
      refine WP.cV (c := 9) (As := [.int l1, .int l4, .int 0, .int x2, .int x4]) (st := []) (st9 := [.int x6]) (cl9 := 0) (sl9 := 0) d_X8_benchOf_29 (ok_X8_knownFrom V e5) tv_X8_knownFrom ti_X8_knownFrom ts_X8_knownFrom lk_X8_395 r_X8_benchOf_X8_knownFrom kc_X8_knownFrom (kd_X8_knownFrom e5) rfl rfl (Nat.le_of_ble_eq_true rfl) rfl rfl rfl ?_
      obtain ⟨x8, e7, H⟩ := ob H
      refine WP.cS (As := [.int x6]) (st := []) (st9 := [.int x8]) (cl9 := 0) (sl9 := 0) d_X8_benchOf_32 (ok_X8_ones V (h := h) e7) tv_X8_ones ts_X8_ones lk_X8_349 r_X8_benchOf_X8_ones rfl rfl (Nat.le_of_ble_eq_true rfl) rfl rfl rfl ?_
      refine WP.istore (lv9 := [(5, .int x8), (0, .ref t), (1, .int l1), (2, .int l2), (3, .int l3), (4, .int l4)]) d_X8_benchOf_35 (Nat.le_of_ble_eq_true rfl) rfl ?_
      refine WP.iload d_X8_benchOf_37 0 rfl ?_
      refine WP.iload_n d_X8_benchOf_39 4 rfl ?_
      obtain ⟨j9, hs10, H⟩ := ol H
      have J11 : WP V M_X8_benchOf 49 [(0, .ref t), (1, .int l1), (3, .int l3), (4, .int l4), (5, .int x8)] [.int j9] h 0 0 vF hF := by
        refine WP.istore_n (lv9 := [(2, .int j9), (0, .ref t), (1, .int l1), (3, .int l3), (4, .int l4), (5, .int x8)]) d_X8_benchOf_49 (Nat.le_of_ble_eq_true rfl) rfl ?_
        refine WP.iload_n d_X8_benchOf_50 3 rfl ?_
        refine WP.iload d_X8_benchOf_51 5 rfl ?_
        obtain ⟨x13, e12, H⟩ := ob H
        refine WP.cS (As := [.int l3, .int x8]) (st := []) (st9 := [.int x13]) (cl9 := 0) (sl9 := 0) d_X8_benchOf_53 (ok_X8_greater V (h := h) e12) tv_X8_greater ts_X8_greater lk_X8_171 r_X8_benchOf_X8_greater rfl rfl (Nat.le_of_ble_eq_true rfl) rfl rfl rfl ?_
        refine WP.istore_n (lv9 := [(3, .int x13), (2, .int j9), (0, .ref t), (1, .int l1), (4, .int l4), (5, .int x8)]) d_X8_benchOf_56 (Nat.le_of_ble_eq_true rfl) rfl ?_
        refine WP.iinc (lv9 := [(4, .int (l4 + 1)), (3, .int x13), (2, .int j9), (0, .ref t), (1, .int l1), (5, .int x8)]) d_X8_benchOf_57 4 rfl ki_1 (Nat.le_of_ble_eq_true rfl) rfl ?_
        refine WP.goto d_X8_benchOf_60 ?_
        refine WP.sub [3, 4, 2, 1, 0] (lv' := [(0, .ref t), (1, .int l1), (2, .int j9), (3, .int x13), (4, .int (l4 + 1))]) rfl ?_
        exact ih H K
      rcases oj hs10 with ⟨hc, hs10⟩ | ⟨hc, hs10⟩
      · refine WP.icmp_le_t d_X8_benchOf_40 hc ?_
        refine WP.iload d_X8_benchOf_43 5 rfl ?_
        refine WP.goto d_X8_benchOf_45 ?_
        cases hs10
        exact WP.sub [1, 2, 4, 5, 0] rfl J11
      · refine WP.icmp_le_f d_X8_benchOf_40 hc ?_
        refine WP.iload_n d_X8_benchOf_48 3 rfl ?_
        cases hs10
        exact WP.sub [1, 2, 4, 5, 0] rfl J11
    · refine WP.icmp_ge_f d_X8_benchOf_10 hc ?_
      cases H
      exact WP.sub [2] rfl K

set_option maxRecDepth 20000 in
set_option maxHeartbeats 4000000 in
theorem ok_X8_benchOf (V : EV) {h : HA} {t : Nat} {l1 : Int32} {r : Int32} (H : X8_benchOf h t l1 = some r) : MG V M_X8_benchOf [.ref t, .int l1] h (some (.int r)) h := by
  unfold X8_benchOf at H
  obtain ⟨_, H⟩ := oc H
  refine MG.of (lv0 := [(0, .ref t), (1, .int l1)]) pn_X8 rfl (Nat.le_of_ble_eq_true rfl) ?_
  refine WP.iconst d_X8_benchOf_0 ki_0 ?_
  refine WP.istore_n (lv9 := [(2, .int 0), (0, .ref t), (1, .int l1)]) d_X8_benchOf_1 (Nat.le_of_ble_eq_true rfl) rfl ?_
  refine WP.iconst d_X8_benchOf_2 ki_m1 ?_
  refine WP.istore_n (lv9 := [(3, .int (-1)), (2, .int 0), (0, .ref t), (1, .int l1)]) d_X8_benchOf_3 (Nat.le_of_ble_eq_true rfl) rfl ?_
  refine WP.iconst d_X8_benchOf_4 ki_0 ?_
  refine WP.istore (lv9 := [(4, .int 0), (3, .int (-1)), (2, .int 0), (0, .ref t), (1, .int l1)]) d_X8_benchOf_5 (Nat.le_of_ble_eq_true rfl) rfl ?_
  obtain ⟨y15, e14, H⟩ := ob H
  refine WP.sub [3, 4, 2, 1, 0] (lv' := [(0, .ref t), (1, .int l1), (2, .int 0), (3, .int (-1)), (4, .int 0)]) rfl ?_
  refine okl_X8_benchOf_L7 V _ e14 ?_
  refine WP.iload_n d_X8_benchOf_63 0 rfl ?_
  cases H
  exact WP.ireturn d_X8_benchOf_64 rfl rfl (Nat.le_of_ble_eq_true rfl) (Nat.le_of_ble_eq_true rfl)

set_option maxRecDepth 20000 in
set_option maxHeartbeats 4000000 in
theorem okl_X8_startHour_L17 (V : EV) {vF : Option Value} {hF : HA} {h : HA} {t : Nat} {l1 : Int32} {l2 : Int32} {l3 : Int32} (n : Nat) : ∀ {l4 : Int32} {l5 : Int32} {r4 : Int32}, (H : X8_startHour_L17 h t l3 n l4 l5 = some r4) → (K : WP V M_X8_startHour 67 [(0, .ref t), (1, .int l1), (2, .int l2), (3, .int l3), (4, .int r4)] [] h 0 0 vF hF) → WP V M_X8_startHour 17 [(0, .ref t), (1, .int l1), (2, .int l2), (3, .int l3), (4, .int l4), (5, .int l5)] [] h 0 0 vF hF := by
  induction n with
  | zero =>
    intro l4 l5 r4 H K
    rw [X8_startHour_L17] at H
    cases H
  | succ n ih =>
    intro l4 l5 r4 H K
    rw [X8_startHour_L17] at H
    refine WP.iload d_X8_startHour_17 5 rfl ?_
    refine WP.aload_n d_X8_startHour_19 0 rfl ?_
    obtain ⟨x1, ex1, H⟩ := ob H
    refine WP.fI d_X8_startHour_20 gf_X8_280 (fun _ => rfl) ex1 ?_
    rcases oj H with ⟨hc, H⟩ | ⟨hc, H⟩
    · refine WP.icmp_ge_t d_X8_startHour_23 hc ?_
      refine WP.iload d_X8_startHour_26 4 rfl ?_
      refine WP.aload_n d_X8_startHour_28 0 rfl ?_
      refine WP.iload d_X8_startHour_29 5 rfl ?_
      refine WP.aload_n d_X8_startHour_31 0 rfl ?_
      refine WP.iload d_X8_startHour_32 5 rfl ?_
      refine WP.iconst d_X8_startHour_34 ki_1 ?_
      obtain ⟨x3, e2, H⟩ := ob H
      refine WP.cV (c := 9) (As := [.int l5, .int 1]) (st := [.int l5, .ref t, .int l4]) (st9 := [.int x3, .int l5, .ref t, .int l4]) (cl9 := 0) (sl9 := 0) d_X8_startHour_35 (ok_X8_judgeOf V e2) tv_X8_judgeOf ti_X8_judgeOf ts_X8_judgeOf lk_X8_307 r_X8_startHour_X8_judgeOf kc_X8_judgeOf (kd_X8_judgeOf e2) rfl rfl (Nat.le_of_ble_eq_true rfl) rfl rfl rfl ?_
      refine WP.iload_n d_X8_startHour_38 3 rfl ?_
      refine WP.aload_n d_X8_startHour_39 0 rfl ?_
      refine WP.iload d_X8_startHour_40 5 rfl ?_
      obtain ⟨x5, e4, H⟩ := ob H
      refine WP.cV (c := 9) (As := [.int l5]) (st := [.int l3, .int x3, .int l5, .ref t, .int l4]) (st9 := [.int x5, .int l3, .int x3, .int l5, .ref t, .int l4]) (cl9 := 0) (sl9 := 0) d_X8_startHour_42 (ok_X8_earsOf V e4) tv_X8_earsOf ti_X8_earsOf ts_X8_earsOf lk_X8_314 r_X8_startHour_X8_earsOf kc_X8_earsOf (kd_X8_earsOf e4) rfl rfl (Nat.le_of_ble_eq_true rfl) rfl rfl rfl ?_
      refine WP.aload_n d_X8_startHour_45 0 rfl ?_
      refine WP.iload d_X8_startHour_46 5 rfl ?_
      refine WP.iconst d_X8_startHour_48 ki_3 ?_
      obtain ⟨x7, e6, H⟩ := ob H
      refine WP.cV (c := 9) (As := [.int l5, .int 3]) (st := [.int x5, .int l3, .int x3, .int l5, .ref t, .int l4]) (st9 := [.int x7, .int x5, .int l3, .int x3, .int l5, .ref t, .int l4]) (cl9 := 0) (sl9 := 0) d_X8_startHour_49 (ok_X8_judgeOf V e6) tv_X8_judgeOf ti_X8_judgeOf ts_X8_judgeOf lk_X8_307 r_X8_startHour_X8_judgeOf kc_X8_judgeOf (kd_X8_judgeOf e6) rfl rfl (Nat.le_of_ble_eq_true rfl) rfl rfl rfl ?_
      obtain ⟨x9, e8, H⟩ := ob H
      refine WP.cV (c := 9) (As := [.int l5, .int x3, .int l3, .int x5, .int x7]) (st := [.int l4]) (st9 := [.int x9, .int l4]) (cl9 := 0) (sl9 := 0) d_X8_startHour_52 (ok_X8_knownFrom V e8) tv_X8_knownFrom ti_X8_knownFrom ts_X8_knownFrom lk_X8_395 r_X8_startHour_X8_knownFrom kc_X8_knownFrom (kd_X8_knownFrom e8) rfl rfl (Nat.le_of_ble_eq_true rfl) rfl rfl rfl ?_
      obtain ⟨x11, e10, H⟩ := ob H
      refine WP.cS (As := [.int x9]) (st := [.int l4]) (st9 := [.int x11, .int l4]) (cl9 := 0) (sl9 := 0) d_X8_startHour_55 (ok_X8_ones V (h := h) e10) tv_X8_ones ts_X8_ones lk_X8_349 r_X8_startHour_X8_ones rfl rfl (Nat.le_of_ble_eq_true rfl) rfl rfl rfl ?_
      refine WP.iadd d_X8_startHour_58 ?_
      refine WP.istore (lv9 := [(4, .int (l4 + x11)), (0, .ref t), (1, .int l1), (2, .int l2), (3, .int l3), (5, .int l5)]) d_X8_startHour_59 (Nat.le_of_ble_eq_true rfl) rfl ?_
      refine WP.iinc (lv9 := [(5, .int (l5 + 1)), (4, .int (l4 + x11)), (0, .ref t), (1, .int l1), (2, .int l2), (3, .int l3)]) d_X8_startHour_61 5 rfl ki_1 (Nat.le_of_ble_eq_true rfl) rfl ?_
      refine WP.goto d_X8_startHour_64 ?_
      refine WP.sub [2, 3, 4, 5, 1, 0] (lv' := [(0, .ref t), (1, .int l1), (2, .int l2), (3, .int l3), (4, .int (l4 + x11)), (5, .int (l5 + 1))]) rfl ?_
      exact ih H K
    · refine WP.icmp_ge_f d_X8_startHour_23 hc ?_
      cases H
      exact WP.sub [0, 1, 2, 3, 4] rfl K

set_option maxRecDepth 20000 in
set_option maxHeartbeats 4000000 in
theorem okl_X8_startHour_L6 (V : EV) {vF : Option Value} {hF : HA} {h : HA} {t : Nat} (n : Nat) : ∀ {l1 : Int32} {l2 : Int32} {l3 : Int32} {r1 : Int32}, (H : X8_startHour_L6 h t n l1 l2 l3 = some r1) → (K : WP V M_X8_startHour 92 [(1, .int r1)] [] h 0 0 vF hF) → WP V M_X8_startHour 6 [(0, .ref t), (1, .int l1), (2, .int l2), (3, .int l3)] [] h 0 0 vF hF := by
  induction n with
  | zero =>
    intro l1 l2 l3 r1 H K
    rw [X8_startHour_L6] at H
    cases H
  | succ n ih =>
    intro l1 l2 l3 r1 H K
    rw [X8_startHour_L6] at H
    refine WP.iload_n d_X8_startHour_6 3 rfl ?_
    refine WP.iconst d_X8_startHour_7 ki_4 ?_
    rcases oj H with ⟨hc, H⟩ | ⟨hc, H⟩
    · refine WP.icmp_ge_t d_X8_startHour_8 hc ?_
      refine WP.iconst d_X8_startHour_11 ki_0 ?_
      refine WP.istore (lv9 := [(4, .int 0), (0, .ref t), (1, .int l1), (2, .int l2), (3, .int l3)]) d_X8_startHour_12 (Nat.le_of_ble_eq_true rfl) rfl ?_
      refine WP.iconst d_X8_startHour_14 ki_0 ?_
      refine WP.istore (lv9 := [(5, .int 0), (4, .int 0), (0, .ref t), (1, .int l1), (2, .int l2), (3, .int l3)]) d_X8_startHour_15 (Nat.le_of_ble_eq_true rfl) rfl ?_
      obtain ⟨y13, e12, H⟩ := ob H
      refine WP.sub [2, 3, 4, 5, 1, 0] (lv' := [(0, .ref t), (1, .int l1), (2, .int l2), (3, .int l3), (4, .int 0), (5, .int 0)]) rfl ?_
      refine okl_X8_startHour_L17 V _ e12 ?_
      refine WP.iload d_X8_startHour_67 4 rfl ?_
      refine WP.iload_n d_X8_startHour_69 2 rfl ?_
      obtain ⟨j14, hs15, H⟩ := ol H
      have J16 : WP V M_X8_startHour 78 [(0, .ref t), (2, .int l2), (3, .int l3), (4, .int y13)] [.int j14] h 0 0 vF hF := by
        refine WP.istore_n (lv9 := [(1, .int j14), (0, .ref t), (2, .int l2), (3, .int l3), (4, .int y13)]) d_X8_startHour_78 (Nat.le_of_ble_eq_true rfl) rfl ?_
        refine WP.iload_n d_X8_startHour_79 2 rfl ?_
        refine WP.iload d_X8_startHour_80 4 rfl ?_
        obtain ⟨x18, e17, H⟩ := ob H
        refine WP.cS (As := [.int l2, .int y13]) (st := []) (st9 := [.int x18]) (cl9 := 0) (sl9 := 0) d_X8_startHour_82 (ok_X8_greater V (h := h) e17) tv_X8_greater ts_X8_greater lk_X8_171 r_X8_startHour_X8_greater rfl rfl (Nat.le_of_ble_eq_true rfl) rfl rfl rfl ?_
        refine WP.istore_n (lv9 := [(2, .int x18), (1, .int j14), (0, .ref t), (3, .int l3), (4, .int y13)]) d_X8_startHour_85 (Nat.le_of_ble_eq_true rfl) rfl ?_
        refine WP.iinc (lv9 := [(3, .int (l3 + 1)), (2, .int x18), (1, .int j14), (0, .ref t), (4, .int y13)]) d_X8_startHour_86 3 rfl ki_1 (Nat.le_of_ble_eq_true rfl) rfl ?_
        refine WP.goto d_X8_startHour_89 ?_
        refine WP.sub [3, 2, 1, 0] (lv' := [(0, .ref t), (1, .int j14), (2, .int x18), (3, .int (l3 + 1))]) rfl ?_
        exact ih H K
      rcases oj hs15 with ⟨hc, hs15⟩ | ⟨hc, hs15⟩
      · refine WP.icmp_le_t d_X8_startHour_70 hc ?_
        refine WP.iload_n d_X8_startHour_73 3 rfl ?_
        refine WP.goto d_X8_startHour_74 ?_
        cases hs15
        exact WP.sub [0, 2, 3, 4] rfl J16
      · refine WP.icmp_le_f d_X8_startHour_70 hc ?_
        refine WP.iload_n d_X8_startHour_77 1 rfl ?_
        cases hs15
        exact WP.sub [0, 2, 3, 4] rfl J16
    · refine WP.icmp_ge_f d_X8_startHour_8 hc ?_
      cases H
      exact WP.sub [1] rfl K

set_option maxRecDepth 20000 in
set_option maxHeartbeats 4000000 in
theorem ok_X8_startHour (V : EV) {h : HA} {t : Nat} {r : Int32} (H : X8_startHour h t = some r) : MG V M_X8_startHour [.ref t] h (some (.int r)) h := by
  unfold X8_startHour at H
  obtain ⟨_, H⟩ := oc H
  refine MG.of (lv0 := [(0, .ref t)]) pn_X8 rfl (Nat.le_of_ble_eq_true rfl) ?_
  refine WP.iconst d_X8_startHour_0 ki_0 ?_
  refine WP.istore_n (lv9 := [(1, .int 0), (0, .ref t)]) d_X8_startHour_1 (Nat.le_of_ble_eq_true rfl) rfl ?_
  refine WP.iconst d_X8_startHour_2 ki_m1 ?_
  refine WP.istore_n (lv9 := [(2, .int (-1)), (1, .int 0), (0, .ref t)]) d_X8_startHour_3 (Nat.le_of_ble_eq_true rfl) rfl ?_
  refine WP.iconst d_X8_startHour_4 ki_0 ?_
  refine WP.istore_n (lv9 := [(3, .int 0), (2, .int (-1)), (1, .int 0), (0, .ref t)]) d_X8_startHour_5 (Nat.le_of_ble_eq_true rfl) rfl ?_
  obtain ⟨y20, e19, H⟩ := ob H
  refine WP.sub [3, 2, 1, 0] (lv' := [(0, .ref t), (1, .int 0), (2, .int (-1)), (3, .int 0)]) rfl ?_
  refine okl_X8_startHour_L6 V _ e19 ?_
  refine WP.iload_n d_X8_startHour_92 0 rfl ?_
  cases H
  exact WP.ireturn d_X8_startHour_93 rfl rfl (Nat.le_of_ble_eq_true rfl) (Nat.le_of_ble_eq_true rfl)

set_option maxRecDepth 20000 in
set_option maxHeartbeats 4000000 in
theorem ok_X8_bench (V : EV) {h : HA} {t : Nat} {l1 : Int32} {l2 : Int32} {l3 : Int32} {r : Int32} {hR : HA} (H : X8_bench h t l1 l2 l3 = some (r, hR)) : MG V M_X8_bench [.ref t, .int l1, .int l2, .int l3] h (some (.int r)) hR := by
  unfold X8_bench at H
  obtain ⟨_, H⟩ := oc H
  refine MG.of (lv0 := [(0, .ref t), (1, .int l1), (2, .int l2), (3, .int l3)]) pn_X8 rfl (Nat.le_of_ble_eq_true rfl) ?_
  refine WP.aload_n d_X8_bench_0 0 rfl ?_
  refine WP.iconst d_X8_bench_1 ki_0 ?_
  obtain ⟨h1, eh1, H⟩ := ob H
  refine WP.uI d_X8_bench_2 gf_X8_102 rfl (Or.inl rfl) rfl rfl eh1 ?_
  refine WP.aload_n d_X8_bench_5 0 rfl ?_
  refine WP.iload_n d_X8_bench_6 1 rfl ?_
  refine WP.iload_n d_X8_bench_7 2 rfl ?_
  obtain ⟨⟨x4, h3⟩, e2, H⟩ := ob H
  refine WP.cV (c := 9) (As := [.int l1, .int l2]) (st := []) (st9 := [.int x4]) (cl9 := 0) (sl9 := 0) d_X8_bench_8 (ok_X8_layTrial V e2) tv_X8_layTrial ti_X8_layTrial ts_X8_layTrial lk_X8_385 r_X8_bench_X8_layTrial kc_X8_layTrial (kd_X8_layTrial e2) rfl rfl (Nat.le_of_ble_eq_true rfl) rfl rfl rfl ?_
  rcases oj H with ⟨hc, H⟩ | ⟨hc, H⟩
  · refine WP.if_eq_t d_X8_bench_11 hc ?_
    refine WP.iconst d_X8_bench_28 ki_m1 ?_
    cases H
    exact WP.ireturn d_X8_bench_29 rfl rfl (Nat.le_of_ble_eq_true rfl) (Nat.le_of_ble_eq_true rfl)
  · refine WP.if_eq_f d_X8_bench_11 hc ?_
    refine WP.iload_n d_X8_bench_14 3 rfl ?_
    refine WP.iconst d_X8_bench_15 ki_m1 ?_
    refine WP.aload_n d_X8_bench_16 0 rfl ?_
    obtain ⟨x5, ex5, H⟩ := ob H
    refine WP.fI d_X8_bench_17 gf_X8_280 (fun _ => rfl) ex5 ?_
    refine WP.iconst d_X8_bench_20 ki_1 ?_
    refine WP.isub d_X8_bench_21 ?_
    obtain ⟨x7, e6, H⟩ := ob H
    refine WP.cS (As := [.int l3, .int (-1), .int (x5 - 1)]) (st := []) (st9 := [.int x7]) (cl9 := 0) (sl9 := 0) d_X8_bench_22 (ok_X8_in V (h := h3) e6) tv_X8_in ts_X8_in lk_X8_114 r_X8_bench_X8_in rfl rfl (Nat.le_of_ble_eq_true rfl) rfl rfl rfl ?_
    rcases oj H with ⟨hc, H⟩ | ⟨hc, H⟩
    · refine WP.if_ne_t d_X8_bench_25 hc ?_
      refine WP.iconst d_X8_bench_28 ki_m1 ?_
      cases H
      exact WP.ireturn d_X8_bench_29 rfl rfl (Nat.le_of_ble_eq_true rfl) (Nat.le_of_ble_eq_true rfl)
    · refine WP.if_ne_f d_X8_bench_25 hc ?_
      refine WP.iload_n d_X8_bench_30 3 rfl ?_
      refine WP.iconst d_X8_bench_31 ki_m1 ?_
      rcases oj H with ⟨hc, H⟩ | ⟨hc, H⟩
      · refine WP.icmp_ne_t d_X8_bench_32 hc ?_
        refine WP.aload_n d_X8_bench_35 0 rfl ?_
        obtain ⟨x9, e8, H⟩ := ob H
        refine WP.cV (c := 9) (As := []) (st := []) (st9 := [.int x9]) (cl9 := 0) (sl9 := 0) d_X8_bench_36 (ok_X8_startHour V e8) tv_X8_startHour ti_X8_startHour ts_X8_startHour lk_X8_490 r_X8_bench_X8_startHour kc_X8_startHour (kd_X8_startHour e8) rfl rfl (Nat.le_of_ble_eq_true rfl) rfl rfl rfl ?_
        refine WP.goto d_X8_bench_39 ?_
        cases H
        exact WP.ireturn d_X8_bench_47 rfl rfl (Nat.le_of_ble_eq_true rfl) (Nat.le_of_ble_eq_true rfl)
      · refine WP.icmp_ne_f d_X8_bench_32 hc ?_
        refine WP.aload_n d_X8_bench_42 0 rfl ?_
        refine WP.iload_n d_X8_bench_43 3 rfl ?_
        obtain ⟨x11, e10, H⟩ := ob H
        refine WP.cV (c := 9) (As := [.int l3]) (st := []) (st9 := [.int x11]) (cl9 := 0) (sl9 := 0) d_X8_bench_44 (ok_X8_benchOf V e10) tv_X8_benchOf ti_X8_benchOf ts_X8_benchOf lk_X8_493 r_X8_bench_X8_benchOf kc_X8_benchOf (kd_X8_benchOf e10) rfl rfl (Nat.le_of_ble_eq_true rfl) rfl rfl rfl ?_
        cases H
        exact WP.ireturn d_X8_bench_47 rfl rfl (Nat.le_of_ble_eq_true rfl) (Nat.le_of_ble_eq_true rfl)

set_option maxRecDepth 20000 in
set_option maxHeartbeats 4000000 in
theorem okl_X8_idle_L37 (V : EV) {vF : Option Value} {hF : HA} {h : HA} {t : Nat} (n : Nat) : ∀ {l4 : Int32} {l5 : Int32} {r4 : Int32}, (H : X8_idle_L37 h t n l4 l5 = some r4) → (K : WP V M_X8_idle 86 [(4, .int r4)] [] h 0 0 vF hF) → WP V M_X8_idle 37 [(0, .ref t), (4, .int l4), (5, .int l5)] [] h 0 0 vF hF := by
  induction n with
  | zero =>
    intro l4 l5 r4 H K
    rw [X8_idle_L37] at H
    cases H
  | succ n ih =>
    intro l4 l5 r4 H K
    rw [X8_idle_L37] at H
    refine WP.iload d_X8_idle_37 2 rfl ?_
    refine WP.aload_n d_X8_idle_39 0 rfl ?_
    obtain ⟨x10, ex10, H⟩ := ob H
    refine WP.fI d_X8_idle_40 gf_X8_280 (fun _ => rfl) ex10 ?_
    rcases oj H with ⟨hc, H⟩ | ⟨hc, H⟩
    · refine WP.icmp_ge_t d_X8_idle_43 hc ?_
      refine WP.aload_n d_X8_idle_46 0 rfl ?_
      refine WP.aload_n d_X8_idle_47 0 rfl ?_
      refine WP.iload d_X8_idle_48 2 rfl ?_
      obtain ⟨x12, e11, H⟩ := ob H
      refine WP.cV (c := 9) (As := [.int l5]) (st := [.ref t]) (st9 := [.int x12, .ref t]) (cl9 := 0) (sl9 := 0) d_X8_idle_50 (ok_X8_known V e11) tv_X8_known ti_X8_known ts_X8_known lk_X8_402 r_X8_idle_X8_known kc_X8_known (kd_X8_known e11) rfl rfl (Nat.le_of_ble_eq_true rfl) rfl rfl rfl ?_
      obtain ⟨x14, e13, H⟩ := ob H
      refine WP.cV (c := 9) (As := [.int x12]) (st := []) (st9 := [.int x14]) (cl9 := 0) (sl9 := 0) d_X8_idle_53 (ok_X8_ruleBy V e13) tv_X8_ruleBy ti_X8_ruleBy ts_X8_ruleBy lk_X8_423 r_X8_idle_X8_ruleBy kc_X8_ruleBy (kd_X8_ruleBy e13) rfl rfl (Nat.le_of_ble_eq_true rfl) rfl rfl rfl ?_
      refine WP.istore (lv9 := [(6, .int x14), (0, .ref t), (4, .int l4), (5, .int l5)]) d_X8_idle_56 (Nat.le_of_ble_eq_true rfl) rfl ?_
      refine WP.iload d_X8_idle_58 2 rfl ?_
      refine WP.iload d_X8_idle_60 0 rfl ?_
      refine WP.iconst d_X8_idle_62 ki_m1 ?_
      rcases oj H with ⟨hc, H⟩ | ⟨hc, H⟩
      · refine WP.icmp_ne_t d_X8_idle_63 hc ?_
        refine WP.iload d_X8_idle_66 2 rfl ?_
        refine WP.goto d_X8_idle_68 ?_
        refine WP.iand d_X8_idle_77 ?_
        refine WP.istore (lv9 := [(4, .int (l4 &&& l4)), (6, .int x14), (0, .ref t), (5, .int l5)]) d_X8_idle_78 (Nat.le_of_ble_eq_true rfl) rfl ?_
        refine WP.iinc (lv9 := [(5, .int (l5 + 1)), (4, .int (l4 &&& l4)), (6, .int x14), (0, .ref t)]) d_X8_idle_80 3 rfl ki_1 (Nat.le_of_ble_eq_true rfl) rfl ?_
        refine WP.goto d_X8_idle_83 ?_
        refine WP.sub [3, 1, 0] (lv' := [(0, .ref t), (4, .int (l4 &&& l4)), (5, .int (l5 + 1))]) rfl ?_
        exact ih H K
      · refine WP.icmp_ne_f d_X8_idle_63 hc ?_
        refine WP.iconst d_X8_idle_71 ki_1 ?_
        refine WP.iload d_X8_idle_72 0 rfl ?_
        refine WP.ishl d_X8_idle_74 ?_
        refine WP.iconst d_X8_idle_75 ki_m1 ?_
        refine WP.ixor d_X8_idle_76 ?_
        refine WP.iand d_X8_idle_77 ?_
        refine WP.istore (lv9 := [(4, .int (l4 &&& ((shlI 1 x14) ^^^ (-1)))), (6, .int x14), (0, .ref t), (5, .int l5)]) d_X8_idle_78 (Nat.le_of_ble_eq_true rfl) rfl ?_
        refine WP.iinc (lv9 := [(5, .int (l5 + 1)), (4, .int (l4 &&& ((shlI 1 x14) ^^^ (-1)))), (6, .int x14), (0, .ref t)]) d_X8_idle_80 3 rfl ki_1 (Nat.le_of_ble_eq_true rfl) rfl ?_
        refine WP.goto d_X8_idle_83 ?_
        refine WP.sub [3, 1, 0] (lv' := [(0, .ref t), (4, .int (l4 &&& ((shlI 1 x14) ^^^ (-1)))), (5, .int (l5 + 1))]) rfl ?_
        exact ih H K
    · refine WP.icmp_ge_f d_X8_idle_43 hc ?_
      cases H
      exact WP.sub [1] rfl K

set_option maxRecDepth 20000 in
set_option maxHeartbeats 4000000 in
theorem ok_X8_idle (V : EV) {h : HA} {t : Nat} {l1 : Int32} {l2 : Int32} {l3 : Int32} {r : Int32} {hR : HA} (H : X8_idle h t l1 l2 l3 = some (r, hR)) : MG V M_X8_idle [.ref t, .int l1, .int l2, .int l3] h (some (.int r)) hR := by
  unfold X8_idle at H
  obtain ⟨_, H⟩ := oc H
  refine MG.of (lv0 := [(0, .ref t), (1, .int l1), (2, .int l2), (3, .int l3)]) pn_X8 rfl (Nat.le_of_ble_eq_true rfl) ?_
  refine WP.aload_n d_X8_idle_0 0 rfl ?_
  refine WP.iconst d_X8_idle_1 ki_0 ?_
  obtain ⟨h1, eh1, H⟩ := ob H
  refine WP.uI d_X8_idle_2 gf_X8_102 rfl (Or.inl rfl) rfl rfl eh1 ?_
  refine WP.aload_n d_X8_idle_5 0 rfl ?_
  refine WP.iload_n d_X8_idle_6 3 rfl ?_
  obtain ⟨⟨x4, h3⟩, e2, H⟩ := ob H
  refine WP.cV (c := 9) (As := [.int l3]) (st := []) (st9 := [.int x4]) (cl9 := 0) (sl9 := 0) d_X8_idle_7 (ok_X8_hasLaw V e2) tv_X8_hasLaw ti_X8_hasLaw ts_X8_hasLaw lk_X8_414 r_X8_idle_X8_hasLaw kc_X8_hasLaw (kd_X8_hasLaw e2) rfl rfl (Nat.le_of_ble_eq_true rfl) rfl rfl rfl ?_
  rcases oj H with ⟨hc, H⟩ | ⟨hc, H⟩
  · refine WP.if_eq_t d_X8_idle_10 hc ?_
    refine WP.iconst d_X8_idle_22 ki_m1 ?_
    cases H
    exact WP.ireturn d_X8_idle_23 rfl rfl (Nat.le_of_ble_eq_true rfl) (Nat.le_of_ble_eq_true rfl)
  · refine WP.if_eq_f d_X8_idle_10 hc ?_
    refine WP.aload_n d_X8_idle_13 0 rfl ?_
    refine WP.iload_n d_X8_idle_14 1 rfl ?_
    refine WP.iload_n d_X8_idle_15 2 rfl ?_
    obtain ⟨⟨x7, h6⟩, e5, H⟩ := ob H
    refine WP.cV (c := 9) (As := [.int l1, .int l2]) (st := []) (st9 := [.int x7]) (cl9 := 0) (sl9 := 0) d_X8_idle_16 (ok_X8_layTrial V e5) tv_X8_layTrial ti_X8_layTrial ts_X8_layTrial lk_X8_385 r_X8_idle_X8_layTrial kc_X8_layTrial (kd_X8_layTrial e5) rfl rfl (Nat.le_of_ble_eq_true rfl) rfl rfl rfl ?_
    rcases oj H with ⟨hc, H⟩ | ⟨hc, H⟩
    · refine WP.if_ne_t d_X8_idle_19 hc ?_
      refine WP.iconst d_X8_idle_22 ki_m1 ?_
      cases H
      exact WP.ireturn d_X8_idle_23 rfl rfl (Nat.le_of_ble_eq_true rfl) (Nat.le_of_ble_eq_true rfl)
    · refine WP.if_ne_f d_X8_idle_19 hc ?_
      refine WP.iconst d_X8_idle_24 ki_1 ?_
      refine WP.aload_n d_X8_idle_25 0 rfl ?_
      obtain ⟨x9, e8, H⟩ := ob H
      refine WP.cV (c := 9) (As := []) (st := [.int 1]) (st9 := [.int x9, .int 1]) (cl9 := 0) (sl9 := 0) d_X8_idle_26 (ok_X8_rules V e8) tv_X8_rules ti_X8_rules ts_X8_rules lk_X8_417 r_X8_idle_X8_rules kc_X8_rules (kd_X8_rules e8) rfl rfl (Nat.le_of_ble_eq_true rfl) rfl rfl rfl ?_
      refine WP.ishl d_X8_idle_29 ?_
      refine WP.iconst d_X8_idle_30 ki_1 ?_
      refine WP.isub d_X8_idle_31 ?_
      refine WP.istore (lv9 := [(4, .int ((shlI 1 x9) - 1)), (0, .ref t), (1, .int l1), (2, .int l2), (3, .int l3)]) d_X8_idle_32 (Nat.le_of_ble_eq_true rfl) rfl ?_
      refine WP.iconst d_X8_idle_34 ki_0 ?_
      refine WP.istore (lv9 := [(5, .int 0), (4, .int ((shlI 1 x9) - 1)), (0, .ref t), (1, .int l1), (2, .int l2), (3, .int l3)]) d_X8_idle_35 (Nat.le_of_ble_eq_true rfl) rfl ?_
      obtain ⟨y16, e15, H⟩ := ob H
      refine WP.sub [2, 1, 0] (lv' := [(0, .ref t), (4, .int ((shlI 1 x9) - 1)), (5, .int 0)]) rfl ?_
      refine okl_X8_idle_L37 V _ e15 ?_
      refine WP.iload d_X8_idle_86 0 rfl ?_
      cases H
      exact WP.ireturn d_X8_idle_88 rfl rfl (Nat.le_of_ble_eq_true rfl) (Nat.le_of_ble_eq_true rfl)

set_option maxRecDepth 20000 in
set_option maxHeartbeats 4000000 in
theorem okl_X8_persuade_L30 (V : EV) {vF : Option Value} {hF : HA} {t : Nat} {l4 : Int32} (n : Nat) : ∀ {h : HA} {l5 : Int32} {hR : HA}, (H : X8_persuade_L30 t n h l5 = some hR) → (K : WP V M_X8_persuade 58 [(0, .ref t), (4, .int l4)] [] hR 0 0 vF hF) → WP V M_X8_persuade 30 [(0, .ref t), (4, .int l4), (5, .int l5)] [] h 0 0 vF hF := by
  induction n with
  | zero =>
    intro h l5 hR H K
    rw [X8_persuade_L30] at H
    cases H
  | succ n ih =>
    intro h l5 hR H K
    rw [X8_persuade_L30] at H
    refine WP.iload d_X8_persuade_30 2 rfl ?_
    refine WP.aload_n d_X8_persuade_32 0 rfl ?_
    obtain ⟨x7, ex7, H⟩ := ob H
    refine WP.fI d_X8_persuade_33 gf_X8_280 (fun _ => rfl) ex7 ?_
    rcases oj H with ⟨hc, H⟩ | ⟨hc, H⟩
    · refine WP.icmp_ge_t d_X8_persuade_36 hc ?_
      refine WP.aload_n d_X8_persuade_39 0 rfl ?_
      obtain ⟨x8, ex8, H⟩ := ob H
      refine WP.fR d_X8_persuade_40 gf_X8_89 (fun _ => rfl) ex8 ?_
      refine WP.iload d_X8_persuade_43 2 rfl ?_
      refine WP.aload_n d_X8_persuade_45 0 rfl ?_
      refine WP.iload d_X8_persuade_46 2 rfl ?_
      obtain ⟨x10, e9, H⟩ := ob H
      refine WP.cV (c := 9) (As := [.int l5]) (st := [.int l5, .ref x8]) (st9 := [.int x10, .int l5, .ref x8]) (cl9 := 0) (sl9 := 0) d_X8_persuade_48 (ok_X8_known V e9) tv_X8_known ti_X8_known ts_X8_known lk_X8_402 r_X8_persuade_X8_known kc_X8_known (kd_X8_known e9) rfl rfl (Nat.le_of_ble_eq_true rfl) rfl rfl rfl ?_
      obtain ⟨h11, eh11, H⟩ := ob H
      refine WP.ias d_X8_persuade_51 eh11 ?_
      refine WP.iinc (lv9 := [(5, .int (l5 + 1)), (0, .ref t), (4, .int l4)]) d_X8_persuade_52 2 rfl ki_1 (Nat.le_of_ble_eq_true rfl) rfl ?_
      refine WP.goto d_X8_persuade_55 ?_
      refine WP.sub [1, 2, 0] (lv' := [(0, .ref t), (4, .int l4), (5, .int (l5 + 1))]) rfl ?_
      exact ih H K
    · refine WP.icmp_ge_f d_X8_persuade_36 hc ?_
      cases H
      exact WP.sub [0, 1] rfl K

set_option maxRecDepth 20000 in
set_option maxHeartbeats 4000000 in
theorem okl_X8_persuade_L92 (V : EV) {vF : Option Value} {hF : HA} {t : Nat} {l4 : Int32} {l5 : Int32} {l6 : Int32} (n : Nat) : ∀ {h : HA} {l7 : Int32} {hR : HA}, (H : X8_persuade_L92 t l6 n h l7 = some hR) → (K : WP V M_X8_persuade 128 [(0, .ref t), (4, .int l4), (5, .int l5), (6, .int l6)] [] hR 0 0 vF hF) → WP V M_X8_persuade 92 [(0, .ref t), (4, .int l4), (5, .int l5), (6, .int l6), (7, .int l7)] [] h 0 0 vF hF := by
  induction n with
  | zero =>
    intro h l7 hR H K
    rw [X8_persuade_L92] at H
    cases H
  | succ n ih =>
    intro h l7 hR H K
    rw [X8_persuade_L92] at H
    refine WP.iload d_X8_persuade_92 4 rfl ?_
    refine WP.aload_n d_X8_persuade_94 0 rfl ?_
    obtain ⟨x16, ex16, H⟩ := ob H
    refine WP.fI d_X8_persuade_95 gf_X8_280 (fun _ => rfl) ex16 ?_
    rcases oj H with ⟨hc, H⟩ | ⟨hc, H⟩
    · refine WP.icmp_ge_t d_X8_persuade_98 hc ?_
      refine WP.aload_n d_X8_persuade_101 0 rfl ?_
      obtain ⟨x17, ex17, H⟩ := ob H
      refine WP.fR d_X8_persuade_102 gf_X8_86 (fun _ => rfl) ex17 ?_
      refine WP.iload d_X8_persuade_105 4 rfl ?_
      refine WP.aload_n d_X8_persuade_107 0 rfl ?_
      refine WP.aload_n d_X8_persuade_108 0 rfl ?_
      obtain ⟨x18, ex18, H⟩ := ob H
      refine WP.fR d_X8_persuade_109 gf_X8_89 (fun _ => rfl) ex18 ?_
      refine WP.iload d_X8_persuade_112 4 rfl ?_
      obtain ⟨x19, ex19, H⟩ := ob H
      refine WP.iald d_X8_persuade_114 ex19 ?_
      refine WP.iload d_X8_persuade_115 3 rfl ?_
      refine WP.ior d_X8_persuade_117 ?_
      obtain ⟨x21, e20, H⟩ := ob H
      refine WP.cV (c := 9) (As := [.int (x19 ||| l6)]) (st := [.int l7, .ref x17]) (st9 := [.int x21, .int l7, .ref x17]) (cl9 := 0) (sl9 := 0) d_X8_persuade_118 (ok_X8_voteBy V e20) tv_X8_voteBy ti_X8_voteBy ts_X8_voteBy lk_X8_426 r_X8_persuade_X8_voteBy kc_X8_voteBy (kd_X8_voteBy e20) rfl rfl (Nat.le_of_ble_eq_true rfl) rfl rfl rfl ?_
      obtain ⟨h22, eh22, H⟩ := ob H
      refine WP.ias d_X8_persuade_121 eh22 ?_
      refine WP.iinc (lv9 := [(7, .int (l7 + 1)), (0, .ref t), (4, .int l4), (5, .int l5), (6, .int l6)]) d_X8_persuade_122 4 rfl ki_1 (Nat.le_of_ble_eq_true rfl) rfl ?_
      refine WP.goto d_X8_persuade_125 ?_
      refine WP.sub [1, 2, 3, 4, 0] (lv' := [(0, .ref t), (4, .int l4), (5, .int l5), (6, .int l6), (7, .int (l7 + 1))]) rfl ?_
      exact ih H K
    · refine WP.icmp_ge_f d_X8_persuade_98 hc ?_
      cases H
      exact WP.sub [0, 1, 2, 3] rfl K

set_option maxRecDepth 20000 in
set_option maxHeartbeats 4000000 in
theorem okl_X8_persuade_L71 (V : EV) {vF : Option Value} {hF : HA} {t : Nat} {l4 : Int32} {l5 : Int32} (n : Nat) : ∀ {h : HA} {l6 : Int32} {R : ((Int32 × HA) ⊕ HA)}, (H : X8_persuade_L71 t l4 l5 n h l6 = some R) → (Kr : ∀ p : (Int32 × HA), R = .inl p → vF = (some (.int p.1)) ∧ hF = p.2) → (K : ∀ (hR : HA), R = .inr hR → WP V M_X8_persuade 146 [(0, .ref t), (4, .int l4), (5, .int l5)] [] hR 0 0 vF hF) → WP V M_X8_persuade 71 [(0, .ref t), (4, .int l4), (5, .int l5), (6, .int l6)] [] h 0 0 vF hF := by
  induction n with
  | zero =>
    intro h l6 R H Kr K
    rw [X8_persuade_L71] at H
    cases H
  | succ n ih =>
    intro h l6 R H Kr K
    rw [X8_persuade_L71] at H
    refine WP.iload d_X8_persuade_71 3 rfl ?_
    refine WP.sipush d_X8_persuade_73 ks_1024 ?_
    rcases oj H with ⟨hc, H⟩ | ⟨hc, H⟩
    · refine WP.icmp_ge_t d_X8_persuade_76 hc ?_
      refine WP.iload d_X8_persuade_79 3 rfl ?_
      obtain ⟨x15, e14, H⟩ := ob H
      refine WP.cS (As := [.int l6]) (st := []) (st9 := [.int x15]) (cl9 := 0) (sl9 := 0) d_X8_persuade_81 (ok_X8_ones V (h := h) e14) tv_X8_ones ts_X8_ones lk_X8_349 r_X8_persuade_X8_ones rfl rfl (Nat.le_of_ble_eq_true rfl) rfl rfl rfl ?_
      refine WP.iload d_X8_persuade_84 2 rfl ?_
      rcases oj H with ⟨hc, H⟩ | ⟨hc, H⟩
      · refine WP.icmp_ne_t d_X8_persuade_86 hc ?_
        refine WP.iconst d_X8_persuade_89 ki_0 ?_
        refine WP.istore (lv9 := [(7, .int 0), (0, .ref t), (4, .int l4), (5, .int l5), (6, .int l6)]) d_X8_persuade_90 (Nat.le_of_ble_eq_true rfl) rfl ?_
        obtain ⟨h24, e23, H⟩ := ob H
        refine WP.sub [1, 2, 3, 4, 0] (lv' := [(0, .ref t), (4, .int l4), (5, .int l5), (6, .int l6), (7, .int 0)]) rfl ?_
        refine okl_X8_persuade_L92 V _ e23 ?_
        refine WP.aload_n d_X8_persuade_128 0 rfl ?_
        obtain ⟨x26, e25, H⟩ := ob H
        refine WP.cV (c := 9) (As := []) (st := []) (st9 := [.int x26]) (cl9 := 0) (sl9 := 0) d_X8_persuade_129 (ok_X8_verdict V e25) tv_X8_verdict ti_X8_verdict ts_X8_verdict lk_X8_435 r_X8_persuade_X8_verdict kc_X8_verdict (kd_X8_verdict e25) rfl rfl (Nat.le_of_ble_eq_true rfl) rfl rfl rfl ?_
        refine WP.iload d_X8_persuade_132 1 rfl ?_
        rcases oj H with ⟨hc, H⟩ | ⟨hc, H⟩
        · refine WP.icmp_ne_t d_X8_persuade_134 hc ?_
          refine WP.iload d_X8_persuade_137 3 rfl ?_
          cases H
          obtain ⟨rfl, rfl⟩ := Kr _ rfl
          exact WP.ireturn d_X8_persuade_139 rfl rfl (Nat.le_of_ble_eq_true rfl) (Nat.le_of_ble_eq_true rfl)
        · refine WP.icmp_ne_f d_X8_persuade_134 hc ?_
          refine WP.iinc (lv9 := [(6, .int (l6 + 1)), (0, .ref t), (4, .int l4), (5, .int l5)]) d_X8_persuade_140 3 rfl ki_1 (Nat.le_of_ble_eq_true rfl) rfl ?_
          refine WP.goto d_X8_persuade_143 ?_
          refine WP.sub [1, 2, 3, 0] (lv' := [(0, .ref t), (4, .int l4), (5, .int l5), (6, .int (l6 + 1))]) rfl ?_
          exact ih H Kr K
      · refine WP.icmp_ne_f d_X8_persuade_86 hc ?_
        refine WP.iinc (lv9 := [(6, .int (l6 + 1)), (0, .ref t), (4, .int l4), (5, .int l5)]) d_X8_persuade_140 3 rfl ki_1 (Nat.le_of_ble_eq_true rfl) rfl ?_
        refine WP.goto d_X8_persuade_143 ?_
        refine WP.sub [1, 2, 3, 0] (lv' := [(0, .ref t), (4, .int l4), (5, .int l5), (6, .int (l6 + 1))]) rfl ?_
        exact ih H Kr K
    · refine WP.icmp_ge_f d_X8_persuade_76 hc ?_
      cases H
      exact WP.sub [0, 1, 2] rfl (K _ rfl)

set_option maxRecDepth 20000 in
set_option maxHeartbeats 4000000 in
theorem okl_X8_persuade_L61 (V : EV) {t : Nat} {l4 : Int32} (n : Nat) : ∀ {h : HA} {l5 : Int32} {r : Int32} {hR : HA} , (H : X8_persuade_L61 t l4 n h l5 = some (r, hR)) → WP V M_X8_persuade 61 [(0, .ref t), (4, .int l4), (5, .int l5)] [] h 0 0 (some (.int r)) hR := by
  induction n with
  | zero =>
    intro h l5 r hR H
    rw [X8_persuade_L61] at H
    cases H
  | succ n ih =>
    intro h l5 r hR H
    rw [X8_persuade_L61] at H
    refine WP.iload d_X8_persuade_61 2 rfl ?_
    refine WP.bipush d_X8_persuade_63 kb_10 ?_
    rcases oj H with ⟨hc, H⟩ | ⟨hc, H⟩
    · refine WP.icmp_gt_t d_X8_persuade_65 hc ?_
      refine WP.iconst d_X8_persuade_152 ki_m1 ?_
      cases H
      exact WP.ireturn d_X8_persuade_153 rfl rfl (Nat.le_of_ble_eq_true rfl) (Nat.le_of_ble_eq_true rfl)
    · refine WP.icmp_gt_f d_X8_persuade_65 hc ?_
      refine WP.iconst d_X8_persuade_68 ki_0 ?_
      refine WP.istore (lv9 := [(6, .int 0), (0, .ref t), (4, .int l4), (5, .int l5)]) d_X8_persuade_69 (Nat.le_of_ble_eq_true rfl) rfl ?_
      obtain ⟨s30, e27, H⟩ := ob H
      refine WP.sub [1, 2, 3, 0] (lv' := [(0, .ref t), (4, .int l4), (5, .int l5), (6, .int 0)]) rfl ?_
      refine okl_X8_persuade_L71 V _ e27 (fun r29 hp => ?_) (fun h28 hp => ?_)
      · subst hp
        dsimp only at H
        cases H
        exact ⟨rfl, rfl⟩
      · subst hp
        dsimp only at H
        refine WP.iinc (lv9 := [(5, .int (l5 + 1)), (0, .ref t), (4, .int l4)]) d_X8_persuade_146 2 rfl ki_1 (Nat.le_of_ble_eq_true rfl) rfl ?_
        refine WP.goto d_X8_persuade_149 ?_
        refine WP.sub [1, 2, 0] (lv' := [(0, .ref t), (4, .int l4), (5, .int (l5 + 1))]) rfl ?_
        exact ih H

set_option maxRecDepth 20000 in
set_option maxHeartbeats 4000000 in
theorem ok_X8_persuade (V : EV) {h : HA} {t : Nat} {l1 : Int32} {l2 : Int32} {l3 : Int32} {l4 : Int32} {r : Int32} {hR : HA} (H : X8_persuade h t l1 l2 l3 l4 = some (r, hR)) : MG V M_X8_persuade [.ref t, .int l1, .int l2, .int l3, .int l4] h (some (.int r)) hR := by
  unfold X8_persuade at H
  obtain ⟨_, H⟩ := oc H
  refine MG.of (lv0 := [(0, .ref t), (1, .int l1), (2, .int l2), (3, .int l3), (4, .int l4)]) pn_X8 rfl (Nat.le_of_ble_eq_true rfl) ?_
  refine WP.aload_n d_X8_persuade_0 0 rfl ?_
  refine WP.iconst d_X8_persuade_1 ki_0 ?_
  obtain ⟨h1, eh1, H⟩ := ob H
  refine WP.uI d_X8_persuade_2 gf_X8_102 rfl (Or.inl rfl) rfl rfl eh1 ?_
  refine WP.iload d_X8_persuade_5 4 rfl ?_
  refine WP.iconst d_X8_persuade_7 ki_0 ?_
  refine WP.iconst d_X8_persuade_8 ki_1 ?_
  obtain ⟨x3, e2, H⟩ := ob H
  refine WP.cS (As := [.int l4, .int 0, .int 1]) (st := []) (st9 := [.int x3]) (cl9 := 0) (sl9 := 0) d_X8_persuade_9 (ok_X8_in V (h := h1) e2) tv_X8_in ts_X8_in lk_X8_114 r_X8_persuade_X8_in rfl rfl (Nat.le_of_ble_eq_true rfl) rfl rfl rfl ?_
  rcases oj H with ⟨hc, H⟩ | ⟨hc, H⟩
  · refine WP.if_eq_t d_X8_persuade_12 hc ?_
    refine WP.iconst d_X8_persuade_25 ki_m1 ?_
    cases H
    exact WP.ireturn d_X8_persuade_26 rfl rfl (Nat.le_of_ble_eq_true rfl) (Nat.le_of_ble_eq_true rfl)
  · refine WP.if_eq_f d_X8_persuade_12 hc ?_
    refine WP.aload_n d_X8_persuade_15 0 rfl ?_
    refine WP.iload_n d_X8_persuade_16 1 rfl ?_
    refine WP.iload_n d_X8_persuade_17 2 rfl ?_
    refine WP.iload_n d_X8_persuade_18 3 rfl ?_
    obtain ⟨⟨x6, h5⟩, e4, H⟩ := ob H
    refine WP.cV (c := 9) (As := [.int l1, .int l2, .int l3]) (st := []) (st9 := [.int x6]) (cl9 := 0) (sl9 := 0) d_X8_persuade_19 (ok_X8_layVotes V e4) tv_X8_layVotes ti_X8_layVotes ts_X8_layVotes lk_X8_432 r_X8_persuade_X8_layVotes kc_X8_layVotes (kd_X8_layVotes e4) rfl rfl (Nat.le_of_ble_eq_true rfl) rfl rfl rfl ?_
    rcases oj H with ⟨hc, H⟩ | ⟨hc, H⟩
    · refine WP.if_ne_t d_X8_persuade_22 hc ?_
      refine WP.iconst d_X8_persuade_25 ki_m1 ?_
      cases H
      exact WP.ireturn d_X8_persuade_26 rfl rfl (Nat.le_of_ble_eq_true rfl) (Nat.le_of_ble_eq_true rfl)
    · refine WP.if_ne_f d_X8_persuade_22 hc ?_
      refine WP.iconst d_X8_persuade_27 ki_0 ?_
      refine WP.istore (lv9 := [(5, .int 0), (0, .ref t), (1, .int l1), (2, .int l2), (3, .int l3), (4, .int l4)]) d_X8_persuade_28 (Nat.le_of_ble_eq_true rfl) rfl ?_
      obtain ⟨h13, e12, H⟩ := ob H
      refine WP.sub [1, 5, 0] (lv' := [(0, .ref t), (4, .int l4), (5, .int 0)]) rfl ?_
      refine okl_X8_persuade_L30 V _ e12 ?_
      refine WP.iconst d_X8_persuade_58 ki_0 ?_
      refine WP.istore (lv9 := [(5, .int 0), (0, .ref t), (4, .int l4)]) d_X8_persuade_59 (Nat.le_of_ble_eq_true rfl) rfl ?_
      refine WP.sub [1, 2, 0] (lv' := [(0, .ref t), (4, .int l4), (5, .int 0)]) rfl ?_
      exact okl_X8_persuade_L61 V _ H

set_option maxRecDepth 20000 in
set_option maxHeartbeats 4000000 in
theorem okl_X8_parts_L29 (V : EV) {vF : Option Value} {hF : HA} {h : HA} {t : Nat} {l1 : Int32} {l2 : Int32} (n : Nat) : ∀ {l3 : Int32} {l4 : Int32} {r3 : Int32}, (H : X8_parts_L29 h t l2 n l3 l4 = some r3) → (K : WP V M_X8_parts 64 [(0, .ref t), (1, .int l1), (2, .int l2), (3, .int r3)] [] h 0 0 vF hF) → WP V M_X8_parts 29 [(0, .ref t), (1, .int l1), (2, .int l2), (3, .int l3), (4, .int l4)] [] h 0 0 vF hF := by
  induction n with
  | zero =>
    intro l3 l4 r3 H K
    rw [X8_parts_L29] at H
    cases H
  | succ n ih =>
    intro l3 l4 r3 H K
    rw [X8_parts_L29] at H
    refine WP.iload d_X8_parts_29 4 rfl ?_
    refine WP.iload_n d_X8_parts_31 2 rfl ?_
    rcases oj H with ⟨hc, H⟩ | ⟨hc, H⟩
    · refine WP.icmp_ge_t d_X8_parts_32 hc ?_
      refine WP.iload_n d_X8_parts_35 3 rfl ?_
      rcases oj H with ⟨hc, H⟩ | ⟨hc, H⟩
      · refine WP.if_eq_t d_X8_parts_36 hc ?_
        cases H
        exact WP.sub [0, 1, 2, 3] rfl K
      · refine WP.if_eq_f d_X8_parts_36 hc ?_
        refine WP.aload_n d_X8_parts_39 0 rfl ?_
        refine WP.iload d_X8_parts_40 4 rfl ?_
        refine WP.iload_n d_X8_parts_42 2 rfl ?_
        obtain ⟨x8, e7, H⟩ := ob H
        refine WP.cV (c := 9) (As := [.int l4, .int l2]) (st := []) (st9 := [.int x8]) (cl9 := 0) (sl9 := 0) d_X8_parts_43 (ok_X8_farOf V e7) tv_X8_farOf ti_X8_farOf ts_X8_farOf lk_X8_298 r_X8_parts_X8_farOf kc_X8_farOf (kd_X8_farOf e7) rfl rfl (Nat.le_of_ble_eq_true rfl) rfl rfl rfl ?_
        refine WP.sipush d_X8_parts_46 ks_1000 ?_
        rcases oj H with ⟨hc, H⟩ | ⟨hc, H⟩
        · refine WP.icmp_ne_t d_X8_parts_49 hc ?_
          refine WP.iconst d_X8_parts_52 ki_1 ?_
          refine WP.goto d_X8_parts_53 ?_
          refine WP.istore_n (lv9 := [(3, .int 1), (0, .ref t), (1, .int l1), (2, .int l2), (4, .int l4)]) d_X8_parts_57 (Nat.le_of_ble_eq_true rfl) rfl ?_
          refine WP.iinc (lv9 := [(4, .int (l4 + 1)), (3, .int 1), (0, .ref t), (1, .int l1), (2, .int l2)]) d_X8_parts_58 4 rfl ki_1 (Nat.le_of_ble_eq_true rfl) rfl ?_
          refine WP.goto d_X8_parts_61 ?_
          refine WP.sub [2, 3, 4, 1, 0] (lv' := [(0, .ref t), (1, .int l1), (2, .int l2), (3, .int 1), (4, .int (l4 + 1))]) rfl ?_
          exact ih H K
        · refine WP.icmp_ne_f d_X8_parts_49 hc ?_
          refine WP.iconst d_X8_parts_56 ki_0 ?_
          refine WP.istore_n (lv9 := [(3, .int 0), (0, .ref t), (1, .int l1), (2, .int l2), (4, .int l4)]) d_X8_parts_57 (Nat.le_of_ble_eq_true rfl) rfl ?_
          refine WP.iinc (lv9 := [(4, .int (l4 + 1)), (3, .int 0), (0, .ref t), (1, .int l1), (2, .int l2)]) d_X8_parts_58 4 rfl ki_1 (Nat.le_of_ble_eq_true rfl) rfl ?_
          refine WP.goto d_X8_parts_61 ?_
          refine WP.sub [2, 3, 4, 1, 0] (lv' := [(0, .ref t), (1, .int l1), (2, .int l2), (3, .int 0), (4, .int (l4 + 1))]) rfl ?_
          exact ih H K
    · refine WP.icmp_ge_f d_X8_parts_32 hc ?_
      cases H
      exact WP.sub [0, 1, 2, 3] rfl K

set_option maxRecDepth 20000 in
set_option maxHeartbeats 4000000 in
theorem okl_X8_parts_L4 (V : EV) {vF : Option Value} {hF : HA} {h : HA} {t : Nat} (n : Nat) : ∀ {l1 : Int32} {l2 : Int32} {r1 : Int32}, (H : X8_parts_L4 h t n l1 l2 = some r1) → (K : WP V M_X8_parts 82 [(1, .int r1)] [] h 0 0 vF hF) → WP V M_X8_parts 4 [(0, .ref t), (1, .int l1), (2, .int l2)] [] h 0 0 vF hF := by
  induction n with
  | zero =>
    intro l1 l2 r1 H K
    rw [X8_parts_L4] at H
    cases H
  | succ n ih =>
    intro l1 l2 r1 H K
    rw [X8_parts_L4] at H
    refine WP.iload_n d_X8_parts_4 2 rfl ?_
    refine WP.aload_n d_X8_parts_5 0 rfl ?_
    obtain ⟨x1, ex1, H⟩ := ob H
    refine WP.fI d_X8_parts_6 gf_X8_277 (fun _ => rfl) ex1 ?_
    rcases oj H with ⟨hc, H⟩ | ⟨hc, H⟩
    · refine WP.icmp_ge_t d_X8_parts_9 hc ?_
      refine WP.aload_n d_X8_parts_12 0 rfl ?_
      refine WP.iload_n d_X8_parts_13 2 rfl ?_
      obtain ⟨x3, e2, H⟩ := ob H
      refine WP.cV (c := 9) (As := [.int l2]) (st := []) (st9 := [.int x3]) (cl9 := 0) (sl9 := 0) d_X8_parts_14 (ok_X8_isWall V e2) tv_X8_isWall ti_X8_isWall ts_X8_isWall lk_X8_292 r_X8_parts_X8_isWall kc_X8_isWall (kd_X8_isWall e2) rfl rfl (Nat.le_of_ble_eq_true rfl) rfl rfl rfl ?_
      obtain ⟨j4, hs5, H⟩ := ol H
      have J6 : WP V M_X8_parts 25 [(0, .ref t), (1, .int l1), (2, .int l2)] [.int j4] h 0 0 vF hF := by
        refine WP.istore_n (lv9 := [(3, .int j4), (0, .ref t), (1, .int l1), (2, .int l2)]) d_X8_parts_25 (Nat.le_of_ble_eq_true rfl) rfl ?_
        refine WP.iconst d_X8_parts_26 ki_0 ?_
        refine WP.istore (lv9 := [(4, .int 0), (3, .int j4), (0, .ref t), (1, .int l1), (2, .int l2)]) d_X8_parts_27 (Nat.le_of_ble_eq_true rfl) rfl ?_
        obtain ⟨y10, e9, H⟩ := ob H
        refine WP.sub [2, 3, 4, 1, 0] (lv' := [(0, .ref t), (1, .int l1), (2, .int l2), (3, .int j4), (4, .int 0)]) rfl ?_
        refine okl_X8_parts_L29 V _ e9 ?_
        refine WP.iload_n d_X8_parts_64 1 rfl ?_
        refine WP.iload_n d_X8_parts_65 3 rfl ?_
        rcases oj H with ⟨hc, H⟩ | ⟨hc, H⟩
        · refine WP.if_eq_t d_X8_parts_66 hc ?_
          refine WP.iconst d_X8_parts_73 ki_0 ?_
          refine WP.iadd d_X8_parts_74 ?_
          refine WP.istore_n (lv9 := [(1, .int (l1 + 0)), (0, .ref t), (2, .int l2), (3, .int y10)]) d_X8_parts_75 (Nat.le_of_ble_eq_true rfl) rfl ?_
          refine WP.iinc (lv9 := [(2, .int (l2 + 1)), (1, .int (l1 + 0)), (0, .ref t), (3, .int y10)]) d_X8_parts_76 2 rfl ki_1 (Nat.le_of_ble_eq_true rfl) rfl ?_
          refine WP.goto d_X8_parts_79 ?_
          refine WP.sub [2, 1, 0] (lv' := [(0, .ref t), (1, .int (l1 + 0)), (2, .int (l2 + 1))]) rfl ?_
          exact ih H K
        · refine WP.if_eq_f d_X8_parts_66 hc ?_
          refine WP.iconst d_X8_parts_69 ki_1 ?_
          refine WP.goto d_X8_parts_70 ?_
          refine WP.iadd d_X8_parts_74 ?_
          refine WP.istore_n (lv9 := [(1, .int (l1 + 1)), (0, .ref t), (2, .int l2), (3, .int y10)]) d_X8_parts_75 (Nat.le_of_ble_eq_true rfl) rfl ?_
          refine WP.iinc (lv9 := [(2, .int (l2 + 1)), (1, .int (l1 + 1)), (0, .ref t), (3, .int y10)]) d_X8_parts_76 2 rfl ki_1 (Nat.le_of_ble_eq_true rfl) rfl ?_
          refine WP.goto d_X8_parts_79 ?_
          refine WP.sub [2, 1, 0] (lv' := [(0, .ref t), (1, .int (l1 + 1)), (2, .int (l2 + 1))]) rfl ?_
          exact ih H K
      rcases oj hs5 with ⟨hc, hs5⟩ | ⟨hc, hs5⟩
      · refine WP.if_ne_t d_X8_parts_17 hc ?_
        refine WP.iconst d_X8_parts_20 ki_1 ?_
        refine WP.goto d_X8_parts_21 ?_
        cases hs5
        exact WP.sub [0, 1, 2] rfl J6
      · refine WP.if_ne_f d_X8_parts_17 hc ?_
        refine WP.iconst d_X8_parts_24 ki_0 ?_
        cases hs5
        exact WP.sub [0, 1, 2] rfl J6
    · refine WP.icmp_ge_f d_X8_parts_9 hc ?_
      cases H
      exact WP.sub [1] rfl K

set_option maxRecDepth 20000 in
set_option maxHeartbeats 4000000 in
theorem ok_X8_parts (V : EV) {h : HA} {t : Nat} {r : Int32} (H : X8_parts h t = some r) : MG V M_X8_parts [.ref t] h (some (.int r)) h := by
  unfold X8_parts at H
  obtain ⟨_, H⟩ := oc H
  refine MG.of (lv0 := [(0, .ref t)]) pn_X8 rfl (Nat.le_of_ble_eq_true rfl) ?_
  refine WP.iconst d_X8_parts_0 ki_0 ?_
  refine WP.istore_n (lv9 := [(1, .int 0), (0, .ref t)]) d_X8_parts_1 (Nat.le_of_ble_eq_true rfl) rfl ?_
  refine WP.iconst d_X8_parts_2 ki_0 ?_
  refine WP.istore_n (lv9 := [(2, .int 0), (1, .int 0), (0, .ref t)]) d_X8_parts_3 (Nat.le_of_ble_eq_true rfl) rfl ?_
  obtain ⟨y12, e11, H⟩ := ob H
  refine WP.sub [2, 1, 0] (lv' := [(0, .ref t), (1, .int 0), (2, .int 0)]) rfl ?_
  refine okl_X8_parts_L4 V _ e11 ?_
  refine WP.iload_n d_X8_parts_82 0 rfl ?_
  cases H
  exact WP.ireturn d_X8_parts_83 rfl rfl (Nat.le_of_ble_eq_true rfl) (Nat.le_of_ble_eq_true rfl)

set_option maxRecDepth 20000 in
set_option maxHeartbeats 4000000 in
theorem okl_X8_carved_L10 (V : EV) {vF : Option Value} {hF : HA} {t : Nat} {l1 : Int32} {l2 : Int32} (n : Nat) : ∀ {h : HA} {l3 : Int32} {l4 : Int32} {l5 : Int32} {r3 : Int32} {hR : HA}, (H : X8_carved_L10 t l1 l2 n h l3 l4 l5 = some (r3, hR)) → (K : WP V M_X8_carved 111 [(3, .int r3)] [] hR 0 0 vF hF) → WP V M_X8_carved 10 [(0, .ref t), (1, .int l1), (2, .int l2), (3, .int l3), (4, .int l4), (5, .int l5)] [] h 0 0 vF hF := by
  induction n with
  | zero =>
    intro h l3 l4 l5 r3 hR H K
    rw [X8_carved_L10] at H
    cases H
  | succ n ih =>
    intro h l3 l4 l5 r3 hR H K
    rw [X8_carved_L10] at H
    refine WP.iload d_X8_carved_10 5 rfl ?_
    refine WP.aload_n d_X8_carved_12 0 rfl ?_
    obtain ⟨x1, ex1, H⟩ := ob H
    refine WP.fI d_X8_carved_13 gf_X8_277 (fun _ => rfl) ex1 ?_
    rcases oj H with ⟨hc, H⟩ | ⟨hc, H⟩
    · refine WP.icmp_ge_t d_X8_carved_16 hc ?_
      refine WP.aload_n d_X8_carved_19 0 rfl ?_
      refine WP.iload d_X8_carved_20 5 rfl ?_
      obtain ⟨x3, e2, H⟩ := ob H
      refine WP.cV (c := 9) (As := [.int l5]) (st := []) (st9 := [.int x3]) (cl9 := 0) (sl9 := 0) d_X8_carved_22 (ok_X8_isWall V e2) tv_X8_isWall ti_X8_isWall ts_X8_isWall lk_X8_292 r_X8_carved_X8_isWall kc_X8_isWall (kd_X8_isWall e2) rfl rfl (Nat.le_of_ble_eq_true rfl) rfl rfl rfl ?_
      rcases oj H with ⟨hc, H⟩ | ⟨hc, H⟩
      · refine WP.if_eq_t d_X8_carved_25 hc ?_
        refine WP.iinc (lv9 := [(5, .int (l5 + 1)), (0, .ref t), (1, .int l1), (2, .int l2), (3, .int l3), (4, .int l4)]) d_X8_carved_105 5 rfl ki_1 (Nat.le_of_ble_eq_true rfl) rfl ?_
        refine WP.goto d_X8_carved_108 ?_
        refine WP.sub [1, 2, 3, 4, 5, 0] (lv' := [(0, .ref t), (1, .int l1), (2, .int l2), (3, .int l3), (4, .int l4), (5, .int (l5 + 1))]) rfl ?_
        exact ih H K
      · refine WP.if_eq_f d_X8_carved_25 hc ?_
        refine WP.aload_n d_X8_carved_28 0 rfl ?_
        obtain ⟨x4, ex4, H⟩ := ob H
        refine WP.fR d_X8_carved_29 gf_X8_26 (fun _ => rfl) ex4 ?_
        refine WP.bipush d_X8_carved_32 kb_106 ?_
        refine WP.iload_n d_X8_carved_34 1 rfl ?_
        refine WP.imul d_X8_carved_35 ?_
        refine WP.bipush d_X8_carved_36 kb_42 ?_
        refine WP.iadd d_X8_carved_38 ?_
        refine WP.iload d_X8_carved_39 5 rfl ?_
        refine WP.iadd d_X8_carved_41 ?_
        refine WP.iconst d_X8_carved_42 ki_0 ?_
        obtain ⟨h5, eh5, H⟩ := ob H
        refine WP.ias d_X8_carved_43 eh5 ?_
        refine WP.aload_n d_X8_carved_44 0 rfl ?_
        refine WP.iload_n d_X8_carved_45 1 rfl ?_
        obtain ⟨⟨x8, h7⟩, e6, H⟩ := ob H
        refine WP.cV (c := 9) (As := [.int l1]) (st := []) (st9 := [.int x8]) (cl9 := 0) (sl9 := 0) d_X8_carved_46 (ok_X8_hand V e6) tv_X8_hand ti_X8_hand ts_X8_hand lk_X8_331 r_X8_carved_X8_hand kc_X8_hand (kd_X8_hand e6) rfl rfl (Nat.le_of_ble_eq_true rfl) rfl rfl rfl ?_
        refine WP.istore (lv9 := [(6, .int x8), (0, .ref t), (1, .int l1), (2, .int l2), (3, .int l3), (4, .int l4), (5, .int l5)]) d_X8_carved_49 (Nat.le_of_ble_eq_true rfl) rfl ?_
        refine WP.aload_n d_X8_carved_51 1 rfl ?_
        refine WP.iconst d_X8_carved_52 ki_0 ?_
        refine WP.iload_n d_X8_carved_53 3 rfl ?_
        obtain ⟨x10, e9, H⟩ := ob H
        refine WP.cV (c := 9) (As := [.int 0, .int l2]) (st := []) (st9 := [.int x10]) (cl9 := 0) (sl9 := 0) d_X8_carved_54 (ok_X8_blind V e9) tv_X8_blind ti_X8_blind ts_X8_blind lk_X8_328 r_X8_carved_X8_blind kc_X8_blind (kd_X8_blind e9) rfl rfl (Nat.le_of_ble_eq_true rfl) rfl rfl rfl ?_
        refine WP.istore (lv9 := [(7, .int x10), (6, .int x8), (0, .ref t), (1, .int l1), (2, .int l2), (3, .int l3), (4, .int l4), (5, .int l5)]) d_X8_carved_57 (Nat.le_of_ble_eq_true rfl) rfl ?_
        refine WP.aload_n d_X8_carved_59 2 rfl ?_
        obtain ⟨x11, ex11, H⟩ := ob H
        refine WP.fR d_X8_carved_60 gf_X8_26 (fun _ => rfl) ex11 ?_
        refine WP.bipush d_X8_carved_63 kb_106 ?_
        refine WP.iload_n d_X8_carved_65 3 rfl ?_
        refine WP.imul d_X8_carved_66 ?_
        refine WP.bipush d_X8_carved_67 kb_42 ?_
        refine WP.iadd d_X8_carved_69 ?_
        refine WP.iload d_X8_carved_70 7 rfl ?_
        refine WP.iadd d_X8_carved_72 ?_
        refine WP.iconst d_X8_carved_73 ki_1 ?_
        obtain ⟨h12, eh12, H⟩ := ob H
        refine WP.ias d_X8_carved_74 eh12 ?_
        refine WP.iload d_X8_carved_75 0 rfl ?_
        refine WP.iload d_X8_carved_77 6 rfl ?_
        obtain ⟨j13, hs14, H⟩ := ol H
        have J15 : WP V M_X8_carved 88 [(0, .ref t), (1, .int l1), (2, .int l2), (4, .int l4), (5, .int l5), (7, .int x10)] [.int j13] h12 0 0 vF hF := by
          refine WP.istore_n (lv9 := [(3, .int j13), (0, .ref t), (1, .int l1), (2, .int l2), (4, .int l4), (5, .int l5), (7, .int x10)]) d_X8_carved_88 (Nat.le_of_ble_eq_true rfl) rfl ?_
          refine WP.iload d_X8_carved_89 6 rfl ?_
          refine WP.iload d_X8_carved_91 4 rfl ?_
          rcases oj H with ⟨hc, H⟩ | ⟨hc, H⟩
          · refine WP.icmp_ge_t d_X8_carved_93 hc ?_
            refine WP.iload d_X8_carved_96 6 rfl ?_
            refine WP.goto d_X8_carved_98 ?_
            refine WP.istore (lv9 := [(4, .int x10), (3, .int j13), (0, .ref t), (1, .int l1), (2, .int l2), (5, .int l5), (7, .int x10)]) d_X8_carved_103 (Nat.le_of_ble_eq_true rfl) rfl ?_
            refine WP.iinc (lv9 := [(5, .int (l5 + 1)), (4, .int x10), (3, .int j13), (0, .ref t), (1, .int l1), (2, .int l2), (7, .int x10)]) d_X8_carved_105 5 rfl ki_1 (Nat.le_of_ble_eq_true rfl) rfl ?_
            refine WP.goto d_X8_carved_108 ?_
            refine WP.sub [3, 4, 5, 2, 1, 0] (lv' := [(0, .ref t), (1, .int l1), (2, .int l2), (3, .int j13), (4, .int x10), (5, .int (l5 + 1))]) rfl ?_
            exact ih H K
          · refine WP.icmp_ge_f d_X8_carved_93 hc ?_
            refine WP.iload d_X8_carved_101 4 rfl ?_
            refine WP.istore (lv9 := [(4, .int l4), (3, .int j13), (0, .ref t), (1, .int l1), (2, .int l2), (5, .int l5), (7, .int x10)]) d_X8_carved_103 (Nat.le_of_ble_eq_true rfl) rfl ?_
            refine WP.iinc (lv9 := [(5, .int (l5 + 1)), (4, .int l4), (3, .int j13), (0, .ref t), (1, .int l1), (2, .int l2), (7, .int x10)]) d_X8_carved_105 5 rfl ki_1 (Nat.le_of_ble_eq_true rfl) rfl ?_
            refine WP.goto d_X8_carved_108 ?_
            refine WP.sub [3, 4, 5, 2, 1, 0] (lv' := [(0, .ref t), (1, .int l1), (2, .int l2), (3, .int j13), (4, .int l4), (5, .int (l5 + 1))]) rfl ?_
            exact ih H K
        rcases oj hs14 with ⟨hc, hs14⟩ | ⟨hc, hs14⟩
        · refine WP.icmp_ge_t d_X8_carved_79 hc ?_
          refine WP.iload d_X8_carved_82 7 rfl ?_
          refine WP.goto d_X8_carved_84 ?_
          cases hs14
          exact WP.sub [2, 3, 4, 6, 7, 0] rfl J15
        · refine WP.icmp_ge_f d_X8_carved_79 hc ?_
          refine WP.iload_n d_X8_carved_87 5 rfl ?_
          cases hs14
          exact WP.sub [2, 3, 4, 6, 7, 0] rfl J15
    · refine WP.icmp_ge_f d_X8_carved_16 hc ?_
      cases H
      exact WP.sub [3] rfl K

set_option maxRecDepth 20000 in
set_option maxHeartbeats 4000000 in
theorem ok_X8_carved (V : EV) {h : HA} {t : Nat} {l1 : Int32} {l2 : Int32} {r : Int32} {hR : HA} (H : X8_carved h t l1 l2 = some (r, hR)) : MG V M_X8_carved [.ref t, .int l1, .int l2] h (some (.int r)) hR := by
  unfold X8_carved at H
  obtain ⟨_, H⟩ := oc H
  refine MG.of (lv0 := [(0, .ref t), (1, .int l1), (2, .int l2)]) pn_X8 rfl (Nat.le_of_ble_eq_true rfl) ?_
  refine WP.iconst d_X8_carved_0 ki_m1 ?_
  refine WP.istore_n (lv9 := [(3, .int (-1)), (0, .ref t), (1, .int l1), (2, .int l2)]) d_X8_carved_1 (Nat.le_of_ble_eq_true rfl) rfl ?_
  refine WP.sipush d_X8_carved_2 ks_1000 ?_
  refine WP.istore (lv9 := [(4, .int 1000), (3, .int (-1)), (0, .ref t), (1, .int l1), (2, .int l2)]) d_X8_carved_5 (Nat.le_of_ble_eq_true rfl) rfl ?_
  refine WP.iconst d_X8_carved_7 ki_0 ?_
  refine WP.istore (lv9 := [(5, .int 0), (4, .int 1000), (3, .int (-1)), (0, .ref t), (1, .int l1), (2, .int l2)]) d_X8_carved_8 (Nat.le_of_ble_eq_true rfl) rfl ?_
  obtain ⟨⟨y17, h18⟩, e16, H⟩ := ob H
  refine WP.sub [3, 4, 5, 2, 1, 0] (lv' := [(0, .ref t), (1, .int l1), (2, .int l2), (3, .int (-1)), (4, .int 1000), (5, .int 0)]) rfl ?_
  refine okl_X8_carved_L10 V _ e16 ?_
  refine WP.iload_n d_X8_carved_111 0 rfl ?_
  cases H
  exact WP.ireturn d_X8_carved_112 rfl rfl (Nat.le_of_ble_eq_true rfl) (Nat.le_of_ble_eq_true rfl)

set_option maxRecDepth 20000 in
set_option maxHeartbeats 4000000 in
theorem ok_X8_areas (V : EV) {h : HA} {t : Nat} {l1 : Int32} {l2 : Int32} {r : Int32} {hR : HA} (H : X8_areas h t l1 l2 = some (r, hR)) : MG V M_X8_areas [.ref t, .int l1, .int l2] h (some (.int r)) hR := by
  unfold X8_areas at H
  obtain ⟨_, H⟩ := oc H
  refine MG.of (lv0 := [(0, .ref t), (1, .int l1), (2, .int l2)]) pn_X8 rfl (Nat.le_of_ble_eq_true rfl) ?_
  refine WP.aload_n d_X8_areas_0 0 rfl ?_
  refine WP.iconst d_X8_areas_1 ki_0 ?_
  obtain ⟨h1, eh1, H⟩ := ob H
  refine WP.uI d_X8_areas_2 gf_X8_102 rfl (Or.inl rfl) rfl rfl eh1 ?_
  refine WP.iload_n d_X8_areas_5 2 rfl ?_
  refine WP.iconst d_X8_areas_6 ki_m1 ?_
  refine WP.bipush d_X8_areas_7 kb_9 ?_
  obtain ⟨x3, e2, H⟩ := ob H
  refine WP.cS (As := [.int l2, .int (-1), .int 9]) (st := []) (st9 := [.int x3]) (cl9 := 0) (sl9 := 0) d_X8_areas_9 (ok_X8_in V (h := h1) e2) tv_X8_in ts_X8_in lk_X8_114 r_X8_areas_X8_in rfl rfl (Nat.le_of_ble_eq_true rfl) rfl rfl rfl ?_
  rcases oj H with ⟨hc, H⟩ | ⟨hc, H⟩
  · refine WP.if_eq_t d_X8_areas_12 hc ?_
    refine WP.iconst d_X8_areas_23 ki_m1 ?_
    cases H
    exact WP.ireturn d_X8_areas_24 rfl rfl (Nat.le_of_ble_eq_true rfl) (Nat.le_of_ble_eq_true rfl)
  · refine WP.if_eq_f d_X8_areas_12 hc ?_
    refine WP.aload_n d_X8_areas_15 0 rfl ?_
    refine WP.iload_n d_X8_areas_16 1 rfl ?_
    obtain ⟨⟨x6, h5⟩, e4, H⟩ := ob H
    refine WP.cV (c := 9) (As := [.int l1]) (st := []) (st9 := [.int x6]) (cl9 := 0) (sl9 := 0) d_X8_areas_17 (ok_X8_hand V e4) tv_X8_hand ti_X8_hand ts_X8_hand lk_X8_331 r_X8_areas_X8_hand kc_X8_hand (kd_X8_hand e4) rfl rfl (Nat.le_of_ble_eq_true rfl) rfl rfl rfl ?_
    rcases oj H with ⟨hc, H⟩ | ⟨hc, H⟩
    · refine WP.if_ne_t d_X8_areas_20 hc ?_
      refine WP.iconst d_X8_areas_23 ki_m1 ?_
      cases H
      exact WP.ireturn d_X8_areas_24 rfl rfl (Nat.le_of_ble_eq_true rfl) (Nat.le_of_ble_eq_true rfl)
    · refine WP.if_ne_f d_X8_areas_20 hc ?_
      refine WP.iload_n d_X8_areas_25 2 rfl ?_
      refine WP.iconst d_X8_areas_26 ki_m1 ?_
      rcases oj H with ⟨hc, H⟩ | ⟨hc, H⟩
      · refine WP.icmp_ne_t d_X8_areas_27 hc ?_
        refine WP.aload_n d_X8_areas_30 0 rfl ?_
        obtain ⟨x8, e7, H⟩ := ob H
        refine WP.cV (c := 9) (As := []) (st := []) (st9 := [.int x8]) (cl9 := 0) (sl9 := 0) d_X8_areas_31 (ok_X8_parts V e7) tv_X8_parts ti_X8_parts ts_X8_parts lk_X8_496 r_X8_areas_X8_parts kc_X8_parts (kd_X8_parts e7) rfl rfl (Nat.le_of_ble_eq_true rfl) rfl rfl rfl ?_
        refine WP.goto d_X8_areas_34 ?_
        cases H
        exact WP.ireturn d_X8_areas_43 rfl rfl (Nat.le_of_ble_eq_true rfl) (Nat.le_of_ble_eq_true rfl)
      · refine WP.icmp_ne_f d_X8_areas_27 hc ?_
        refine WP.aload_n d_X8_areas_37 0 rfl ?_
        refine WP.iload_n d_X8_areas_38 1 rfl ?_
        refine WP.iload_n d_X8_areas_39 2 rfl ?_
        obtain ⟨⟨x11, h10⟩, e9, H⟩ := ob H
        refine WP.cV (c := 9) (As := [.int l1, .int l2]) (st := []) (st9 := [.int x11]) (cl9 := 0) (sl9 := 0) d_X8_areas_40 (ok_X8_carved V e9) tv_X8_carved ti_X8_carved ts_X8_carved lk_X8_499 r_X8_areas_X8_carved kc_X8_carved (kd_X8_carved e9) rfl rfl (Nat.le_of_ble_eq_true rfl) rfl rfl rfl ?_
        cases H
        exact WP.ireturn d_X8_areas_43 rfl rfl (Nat.le_of_ble_eq_true rfl) (Nat.le_of_ble_eq_true rfl)

set_option maxRecDepth 20000 in
set_option maxHeartbeats 4000000 in
theorem okl_X8_mouth_L52 (V : EV) {vF : Option Value} {hF : HA} {h : HA} {t : Nat} {l3 : Int32} {l4 : Int32} {l5 : Int32} {l6 : Int32} {l8 : Int32} (n : Nat) : ∀ {l7 : Int32} {l9 : Int32} {r7 : Int32}, (H : X8_mouth_L52 h t l6 l8 n l7 l9 = some r7) → (K : WP V M_X8_mouth 161 [(0, .ref t), (3, .int l3), (4, .int l4), (5, .int l5), (6, .int l6), (7, .int r7), (8, .int l8)] [] h 0 0 vF hF) → WP V M_X8_mouth 52 [(0, .ref t), (3, .int l3), (4, .int l4), (5, .int l5), (6, .int l6), (7, .int l7), (8, .int l8), (9, .int l9)] [] h 0 0 vF hF := by
  induction n with
  | zero =>
    intro l7 l9 r7 H K
    rw [X8_mouth_L52] at H
    cases H
  | succ n ih =>
    intro l7 l9 r7 H K
    rw [X8_mouth_L52] at H
    refine WP.iload d_X8_mouth_52 7 rfl ?_
    refine WP.aload_n d_X8_mouth_54 0 rfl ?_
    obtain ⟨x7, ex7, H⟩ := ob H
    refine WP.fI d_X8_mouth_55 gf_X8_280 (fun _ => rfl) ex7 ?_
    rcases oj H with ⟨hc, H⟩ | ⟨hc, H⟩
    · refine WP.icmp_ge_t d_X8_mouth_58 hc ?_
      refine WP.aload_n d_X8_mouth_61 0 rfl ?_
      obtain ⟨x8, ex8, H⟩ := ob H
      refine WP.fR d_X8_mouth_62 gf_X8_71 (fun _ => rfl) ex8 ?_
      refine WP.iload d_X8_mouth_65 6 rfl ?_
      obtain ⟨x9, ex9, H⟩ := ob H
      refine WP.iald d_X8_mouth_67 ex9 ?_
      refine WP.iconst d_X8_mouth_68 ki_m1 ?_
      obtain ⟨j10, hs11, H⟩ := ob H
      have J12 : WP V M_X8_mouth 138 [(0, .ref t), (3, .int l3), (4, .int l4), (5, .int l5), (6, .int l6), (7, .int l7), (8, .int l8), (9, .int l9)] [.int j10] h 0 0 vF hF := by
        refine WP.istore (lv9 := [(10, .int j10), (0, .ref t), (3, .int l3), (4, .int l4), (5, .int l5), (6, .int l6), (7, .int l7), (8, .int l8), (9, .int l9)]) d_X8_mouth_138 (Nat.le_of_ble_eq_true rfl) rfl ?_
        refine WP.iload d_X8_mouth_140 6 rfl ?_
        refine WP.iload d_X8_mouth_142 0 rfl ?_
        rcases oj H with ⟨hc, H⟩ | ⟨hc, H⟩
        · refine WP.if_eq_t d_X8_mouth_144 hc ?_
          refine WP.iconst d_X8_mouth_151 ki_0 ?_
          refine WP.iadd d_X8_mouth_152 ?_
          refine WP.istore (lv9 := [(7, .int (l7 + 0)), (10, .int j10), (0, .ref t), (3, .int l3), (4, .int l4), (5, .int l5), (6, .int l6), (8, .int l8), (9, .int l9)]) d_X8_mouth_153 (Nat.le_of_ble_eq_true rfl) rfl ?_
          refine WP.iinc (lv9 := [(9, .int (l9 + 1)), (7, .int (l7 + 0)), (10, .int j10), (0, .ref t), (3, .int l3), (4, .int l4), (5, .int l5), (6, .int l6), (8, .int l8)]) d_X8_mouth_155 8 rfl ki_1 (Nat.le_of_ble_eq_true rfl) rfl ?_
          refine WP.goto d_X8_mouth_158 ?_
          refine WP.sub [3, 4, 5, 6, 7, 1, 8, 0] (lv' := [(0, .ref t), (3, .int l3), (4, .int l4), (5, .int l5), (6, .int l6), (7, .int (l7 + 0)), (8, .int l8), (9, .int (l9 + 1))]) rfl ?_
          exact ih H K
        · refine WP.if_eq_f d_X8_mouth_144 hc ?_
          refine WP.iconst d_X8_mouth_147 ki_1 ?_
          refine WP.goto d_X8_mouth_148 ?_
          refine WP.iadd d_X8_mouth_152 ?_
          refine WP.istore (lv9 := [(7, .int (l7 + 1)), (10, .int j10), (0, .ref t), (3, .int l3), (4, .int l4), (5, .int l5), (6, .int l6), (8, .int l8), (9, .int l9)]) d_X8_mouth_153 (Nat.le_of_ble_eq_true rfl) rfl ?_
          refine WP.iinc (lv9 := [(9, .int (l9 + 1)), (7, .int (l7 + 1)), (10, .int j10), (0, .ref t), (3, .int l3), (4, .int l4), (5, .int l5), (6, .int l6), (8, .int l8)]) d_X8_mouth_155 8 rfl ki_1 (Nat.le_of_ble_eq_true rfl) rfl ?_
          refine WP.goto d_X8_mouth_158 ?_
          refine WP.sub [3, 4, 5, 6, 7, 1, 8, 0] (lv' := [(0, .ref t), (3, .int l3), (4, .int l4), (5, .int l5), (6, .int l6), (7, .int (l7 + 1)), (8, .int l8), (9, .int (l9 + 1))]) rfl ?_
          exact ih H K
      rcases oj hs11 with ⟨hc, hs11⟩ | ⟨hc, hs11⟩
      · refine WP.icmp_eq_t d_X8_mouth_69 hc ?_
        refine WP.iconst d_X8_mouth_137 ki_0 ?_
        cases hs11
        exact WP.sub [0, 1, 2, 3, 4, 5, 6, 7] rfl J12
      · refine WP.icmp_eq_f d_X8_mouth_69 hc ?_
        refine WP.aload_n d_X8_mouth_72 0 rfl ?_
        refine WP.iload d_X8_mouth_73 6 rfl ?_
        refine WP.iconst d_X8_mouth_75 ki_1 ?_
        obtain ⟨x14, e13, hs11⟩ := ob hs11
        refine WP.cV (c := 9) (As := [.int l8, .int 1]) (st := []) (st9 := [.int x14]) (cl9 := 0) (sl9 := 0) d_X8_mouth_76 (ok_X8_deedOf V e13) tv_X8_deedOf ti_X8_deedOf ts_X8_deedOf lk_X8_370 r_X8_mouth_X8_deedOf kc_X8_deedOf (kd_X8_deedOf e13) rfl rfl (Nat.le_of_ble_eq_true rfl) rfl rfl rfl ?_
        refine WP.iload d_X8_mouth_79 4 rfl ?_
        rcases oj hs11 with ⟨hc, hs11⟩ | ⟨hc, hs11⟩
        · refine WP.icmp_ne_t d_X8_mouth_81 hc ?_
          refine WP.aload_n d_X8_mouth_84 0 rfl ?_
          refine WP.iload d_X8_mouth_85 6 rfl ?_
          refine WP.aload_n d_X8_mouth_87 0 rfl ?_
          refine WP.iload d_X8_mouth_88 7 rfl ?_
          refine WP.iconst d_X8_mouth_90 ki_0 ?_
          obtain ⟨x16, e15, hs11⟩ := ob hs11
          refine WP.cV (c := 9) (As := [.int l9, .int 0]) (st := [.int l8, .ref t]) (st9 := [.int x16, .int l8, .ref t]) (cl9 := 0) (sl9 := 0) d_X8_mouth_91 (ok_X8_judgeOf V e15) tv_X8_judgeOf ti_X8_judgeOf ts_X8_judgeOf lk_X8_307 r_X8_mouth_X8_judgeOf kc_X8_judgeOf (kd_X8_judgeOf e15) rfl rfl (Nat.le_of_ble_eq_true rfl) rfl rfl rfl ?_
          refine WP.aload_n d_X8_mouth_94 0 rfl ?_
          refine WP.aload_n d_X8_mouth_95 0 rfl ?_
          refine WP.iload d_X8_mouth_96 7 rfl ?_
          refine WP.iconst d_X8_mouth_98 ki_1 ?_
          obtain ⟨x18, e17, hs11⟩ := ob hs11
          refine WP.cV (c := 9) (As := [.int l9, .int 1]) (st := [.ref t, .int x16, .int l8, .ref t]) (st9 := [.int x18, .ref t, .int x16, .int l8, .ref t]) (cl9 := 0) (sl9 := 0) d_X8_mouth_99 (ok_X8_judgeOf V e17) tv_X8_judgeOf ti_X8_judgeOf ts_X8_judgeOf lk_X8_307 r_X8_mouth_X8_judgeOf kc_X8_judgeOf (kd_X8_judgeOf e17) rfl rfl (Nat.le_of_ble_eq_true rfl) rfl rfl rfl ?_
          refine WP.aload_n d_X8_mouth_102 0 rfl ?_
          refine WP.iload d_X8_mouth_103 7 rfl ?_
          refine WP.iconst d_X8_mouth_105 ki_4 ?_
          obtain ⟨x20, e19, hs11⟩ := ob hs11
          refine WP.cV (c := 9) (As := [.int l9, .int 4]) (st := [.int x18, .ref t, .int x16, .int l8, .ref t]) (st9 := [.int x20, .int x18, .ref t, .int x16, .int l8, .ref t]) (cl9 := 0) (sl9 := 0) d_X8_mouth_106 (ok_X8_judgeOf V e19) tv_X8_judgeOf ti_X8_judgeOf ts_X8_judgeOf lk_X8_307 r_X8_mouth_X8_judgeOf kc_X8_judgeOf (kd_X8_judgeOf e19) rfl rfl (Nat.le_of_ble_eq_true rfl) rfl rfl rfl ?_
          refine WP.iload d_X8_mouth_109 6 rfl ?_
          obtain ⟨x22, e21, hs11⟩ := ob hs11
          refine WP.cV (c := 9) (As := [.int x18, .int x20, .int l8]) (st := [.int x16, .int l8, .ref t]) (st9 := [.int x22, .int x16, .int l8, .ref t]) (cl9 := 0) (sl9 := 0) d_X8_mouth_111 (ok_X8_faces V e21) tv_X8_faces ti_X8_faces ts_X8_faces lk_X8_310 r_X8_mouth_X8_faces kc_X8_faces (kd_X8_faces e21) rfl rfl (Nat.le_of_ble_eq_true rfl) rfl rfl rfl ?_
          refine WP.aload_n d_X8_mouth_114 0 rfl ?_
          refine WP.iload d_X8_mouth_115 7 rfl ?_
          obtain ⟨x24, e23, hs11⟩ := ob hs11
          refine WP.cV (c := 9) (As := [.int l9]) (st := [.int x22, .int x16, .int l8, .ref t]) (st9 := [.int x24, .int x22, .int x16, .int l8, .ref t]) (cl9 := 0) (sl9 := 0) d_X8_mouth_117 (ok_X8_earsOf V e23) tv_X8_earsOf ti_X8_earsOf ts_X8_earsOf lk_X8_314 r_X8_mouth_X8_earsOf kc_X8_earsOf (kd_X8_earsOf e23) rfl rfl (Nat.le_of_ble_eq_true rfl) rfl rfl rfl ?_
          refine WP.aload_n d_X8_mouth_120 0 rfl ?_
          refine WP.iload d_X8_mouth_121 7 rfl ?_
          refine WP.iconst d_X8_mouth_123 ki_3 ?_
          obtain ⟨x26, e25, hs11⟩ := ob hs11
          refine WP.cV (c := 9) (As := [.int l9, .int 3]) (st := [.int x24, .int x22, .int x16, .int l8, .ref t]) (st9 := [.int x26, .int x24, .int x22, .int x16, .int l8, .ref t]) (cl9 := 0) (sl9 := 0) d_X8_mouth_124 (ok_X8_judgeOf V e25) tv_X8_judgeOf ti_X8_judgeOf ts_X8_judgeOf lk_X8_307 r_X8_mouth_X8_judgeOf kc_X8_judgeOf (kd_X8_judgeOf e25) rfl rfl (Nat.le_of_ble_eq_true rfl) rfl rfl rfl ?_
          obtain ⟨x28, e27, hs11⟩ := ob hs11
          refine WP.cV (c := 9) (As := [.int l8, .int x16, .int x22, .int x24, .int x26]) (st := []) (st9 := [.int x28]) (cl9 := 0) (sl9 := 0) d_X8_mouth_127 (ok_X8_hearsDeed V e27) tv_X8_hearsDeed ti_X8_hearsDeed ts_X8_hearsDeed lk_X8_391 r_X8_mouth_X8_hearsDeed kc_X8_hearsDeed (kd_X8_hearsDeed e27) rfl rfl (Nat.le_of_ble_eq_true rfl) rfl rfl rfl ?_
          rcases oj hs11 with ⟨hc, hs11⟩ | ⟨hc, hs11⟩
          · refine WP.if_eq_t d_X8_mouth_130 hc ?_
            refine WP.iconst d_X8_mouth_137 ki_0 ?_
            cases hs11
            exact WP.sub [0, 1, 2, 3, 4, 5, 6, 7] rfl J12
          · refine WP.if_eq_f d_X8_mouth_130 hc ?_
            refine WP.iconst d_X8_mouth_133 ki_1 ?_
            refine WP.goto d_X8_mouth_134 ?_
            cases hs11
            exact WP.sub [0, 1, 2, 3, 4, 5, 6, 7] rfl J12
        · refine WP.icmp_ne_f d_X8_mouth_81 hc ?_
          refine WP.iconst d_X8_mouth_137 ki_0 ?_
          cases hs11
          exact WP.sub [0, 1, 2, 3, 4, 5, 6, 7] rfl J12
    · refine WP.icmp_ge_f d_X8_mouth_58 hc ?_
      cases H
      exact WP.sub [0, 1, 2, 3, 4, 5, 6] rfl K

set_option maxRecDepth 20000 in
set_option maxHeartbeats 4000000 in
theorem okl_X8_mouth_L40 (V : EV) {vF : Option Value} {hF : HA} {h : HA} {t : Nat} {l3 : Int32} {l4 : Int32} {l5 : Int32} {l6 : Int32} (n : Nat) : ∀ {l7 : Int32} {l8 : Int32} {r7 : Int32}, (H : X8_mouth_L40 h t l6 n l7 l8 = some r7) → (K : WP V M_X8_mouth 167 [(0, .ref t), (3, .int l3), (4, .int l4), (5, .int l5), (6, .int l6), (7, .int r7)] [] h 0 0 vF hF) → WP V M_X8_mouth 40 [(0, .ref t), (3, .int l3), (4, .int l4), (5, .int l5), (6, .int l6), (7, .int l7), (8, .int l8)] [] h 0 0 vF hF := by
  induction n with
  | zero =>
    intro l7 l8 r7 H K
    rw [X8_mouth_L40] at H
    cases H
  | succ n ih =>
    intro l7 l8 r7 H K
    rw [X8_mouth_L40] at H
    refine WP.iload d_X8_mouth_40 6 rfl ?_
    refine WP.aload_n d_X8_mouth_42 0 rfl ?_
    obtain ⟨x6, ex6, H⟩ := ob H
    refine WP.fI d_X8_mouth_43 gf_X8_373 (fun _ => rfl) ex6 ?_
    rcases oj H with ⟨hc, H⟩ | ⟨hc, H⟩
    · refine WP.icmp_ge_t d_X8_mouth_46 hc ?_
      refine WP.iconst d_X8_mouth_49 ki_0 ?_
      refine WP.istore (lv9 := [(9, .int 0), (0, .ref t), (3, .int l3), (4, .int l4), (5, .int l5), (6, .int l6), (7, .int l7), (8, .int l8)]) d_X8_mouth_50 (Nat.le_of_ble_eq_true rfl) rfl ?_
      obtain ⟨y30, e29, H⟩ := ob H
      refine WP.sub [1, 2, 3, 4, 5, 6, 7, 0] (lv' := [(0, .ref t), (3, .int l3), (4, .int l4), (5, .int l5), (6, .int l6), (7, .int l7), (8, .int l8), (9, .int 0)]) rfl ?_
      refine okl_X8_mouth_L52 V _ e29 ?_
      refine WP.iinc (lv9 := [(8, .int (l8 + 1)), (0, .ref t), (3, .int l3), (4, .int l4), (5, .int l5), (6, .int l6), (7, .int y30)]) d_X8_mouth_161 6 rfl ki_1 (Nat.le_of_ble_eq_true rfl) rfl ?_
      refine WP.goto d_X8_mouth_164 ?_
      refine WP.sub [1, 2, 3, 4, 5, 6, 0] (lv' := [(0, .ref t), (3, .int l3), (4, .int l4), (5, .int l5), (6, .int l6), (7, .int y30), (8, .int (l8 + 1))]) rfl ?_
      exact ih H K
    · refine WP.icmp_ge_f d_X8_mouth_46 hc ?_
      cases H
      exact WP.sub [0, 1, 2, 3, 4, 5] rfl K

set_option maxRecDepth 20000 in
set_option maxHeartbeats 4000000 in
theorem okl_X8_mouth_L25 (V : EV) {vF : Option Value} {hF : HA} {h : HA} {t : Nat} {l3 : Int32} (n : Nat) : ∀ {l4 : Int32} {l5 : Int32} {l6 : Int32} {r4 : Int32} {r5 : Int32}, (H : X8_mouth_L25 h t n l4 l5 l6 = some (r4, r5)) → (K : WP V M_X8_mouth 198 [(3, .int l3), (4, .int r4), (5, .int r5)] [] h 0 0 vF hF) → WP V M_X8_mouth 25 [(0, .ref t), (3, .int l3), (4, .int l4), (5, .int l5), (6, .int l6)] [] h 0 0 vF hF := by
  induction n with
  | zero =>
    intro l4 l5 l6 r4 r5 H K
    rw [X8_mouth_L25] at H
    cases H
  | succ n ih =>
    intro l4 l5 l6 r4 r5 H K
    rw [X8_mouth_L25] at H
    refine WP.iload d_X8_mouth_25 4 rfl ?_
    refine WP.aload_n d_X8_mouth_27 0 rfl ?_
    obtain ⟨x5, ex5, H⟩ := ob H
    refine WP.fI d_X8_mouth_28 gf_X8_283 (fun _ => rfl) ex5 ?_
    rcases oj H with ⟨hc, H⟩ | ⟨hc, H⟩
    · refine WP.icmp_ge_t d_X8_mouth_31 hc ?_
      refine WP.iconst d_X8_mouth_34 ki_0 ?_
      refine WP.istore (lv9 := [(7, .int 0), (0, .ref t), (3, .int l3), (4, .int l4), (5, .int l5), (6, .int l6)]) d_X8_mouth_35 (Nat.le_of_ble_eq_true rfl) rfl ?_
      refine WP.iconst d_X8_mouth_37 ki_0 ?_
      refine WP.istore (lv9 := [(8, .int 0), (7, .int 0), (0, .ref t), (3, .int l3), (4, .int l4), (5, .int l5), (6, .int l6)]) d_X8_mouth_38 (Nat.le_of_ble_eq_true rfl) rfl ?_
      obtain ⟨y32, e31, H⟩ := ob H
      refine WP.sub [2, 3, 4, 5, 6, 1, 0] (lv' := [(0, .ref t), (3, .int l3), (4, .int l4), (5, .int l5), (6, .int l6), (7, .int 0), (8, .int 0)]) rfl ?_
      refine okl_X8_mouth_L40 V _ e31 ?_
      refine WP.iload d_X8_mouth_167 5 rfl ?_
      refine WP.iload d_X8_mouth_169 3 rfl ?_
      obtain ⟨j33, hs34, H⟩ := ol H
      have J35 : WP V M_X8_mouth 181 [(0, .ref t), (3, .int l3), (5, .int l5), (6, .int l6), (7, .int y32)] [.int j33] h 0 0 vF hF := by
        refine WP.istore (lv9 := [(4, .int j33), (0, .ref t), (3, .int l3), (5, .int l5), (6, .int l6), (7, .int y32)]) d_X8_mouth_181 (Nat.le_of_ble_eq_true rfl) rfl ?_
        refine WP.iload d_X8_mouth_183 3 rfl ?_
        refine WP.iload d_X8_mouth_185 5 rfl ?_
        obtain ⟨x37, e36, H⟩ := ob H
        refine WP.cS (As := [.int l5, .int y32]) (st := []) (st9 := [.int x37]) (cl9 := 0) (sl9 := 0) d_X8_mouth_187 (ok_X8_greater V (h := h) e36) tv_X8_greater ts_X8_greater lk_X8_171 r_X8_mouth_X8_greater rfl rfl (Nat.le_of_ble_eq_true rfl) rfl rfl rfl ?_
        refine WP.istore (lv9 := [(5, .int x37), (4, .int j33), (0, .ref t), (3, .int l3), (6, .int l6), (7, .int y32)]) d_X8_mouth_190 (Nat.le_of_ble_eq_true rfl) rfl ?_
        refine WP.iinc (lv9 := [(6, .int (l6 + 1)), (5, .int x37), (4, .int j33), (0, .ref t), (3, .int l3), (7, .int y32)]) d_X8_mouth_192 4 rfl ki_1 (Nat.le_of_ble_eq_true rfl) rfl ?_
        refine WP.goto d_X8_mouth_195 ?_
        refine WP.sub [3, 4, 2, 1, 0] (lv' := [(0, .ref t), (3, .int l3), (4, .int j33), (5, .int x37), (6, .int (l6 + 1))]) rfl ?_
        exact ih H K
      rcases oj hs34 with ⟨hc, hs34⟩ | ⟨hc, hs34⟩
      · refine WP.icmp_le_t d_X8_mouth_171 hc ?_
        refine WP.iload d_X8_mouth_174 4 rfl ?_
        refine WP.goto d_X8_mouth_176 ?_
        cases hs34
        exact WP.sub [0, 1, 3, 4, 5] rfl J35
      · refine WP.icmp_le_f d_X8_mouth_171 hc ?_
        refine WP.iload d_X8_mouth_179 2 rfl ?_
        cases hs34
        exact WP.sub [0, 1, 3, 4, 5] rfl J35
    · refine WP.icmp_ge_f d_X8_mouth_31 hc ?_
      cases H
      exact WP.sub [1, 2, 3] rfl K

set_option maxRecDepth 20000 in
set_option maxHeartbeats 4000000 in
theorem ok_X8_mouth (V : EV) {h : HA} {t : Nat} {l1 : Int32} {l2 : Int32} {l3 : Int32} {r : Int32} {hR : HA} (H : X8_mouth h t l1 l2 l3 = some (r, hR)) : MG V M_X8_mouth [.ref t, .int l1, .int l2, .int l3] h (some (.int r)) hR := by
  unfold X8_mouth at H
  obtain ⟨_, H⟩ := oc H
  refine MG.of (lv0 := [(0, .ref t), (1, .int l1), (2, .int l2), (3, .int l3)]) pn_X8 rfl (Nat.le_of_ble_eq_true rfl) ?_
  refine WP.aload_n d_X8_mouth_0 0 rfl ?_
  refine WP.iconst d_X8_mouth_1 ki_0 ?_
  obtain ⟨h1, eh1, H⟩ := ob H
  refine WP.uI d_X8_mouth_2 gf_X8_102 rfl (Or.inl rfl) rfl rfl eh1 ?_
  refine WP.aload_n d_X8_mouth_5 0 rfl ?_
  refine WP.iload_n d_X8_mouth_6 1 rfl ?_
  refine WP.iload_n d_X8_mouth_7 2 rfl ?_
  obtain ⟨⟨x4, h3⟩, e2, H⟩ := ob H
  refine WP.cV (c := 9) (As := [.int l1, .int l2]) (st := []) (st9 := [.int x4]) (cl9 := 0) (sl9 := 0) d_X8_mouth_8 (ok_X8_layTrial V e2) tv_X8_layTrial ti_X8_layTrial ts_X8_layTrial lk_X8_385 r_X8_mouth_X8_layTrial kc_X8_layTrial (kd_X8_layTrial e2) rfl rfl (Nat.le_of_ble_eq_true rfl) rfl rfl rfl ?_
  rcases oj H with ⟨hc, H⟩ | ⟨hc, H⟩
  · refine WP.if_ne_t d_X8_mouth_11 hc ?_
    refine WP.iconst d_X8_mouth_14 ki_m1 ?_
    cases H
    exact WP.ireturn d_X8_mouth_15 rfl rfl (Nat.le_of_ble_eq_true rfl) (Nat.le_of_ble_eq_true rfl)
  · refine WP.if_ne_f d_X8_mouth_11 hc ?_
    refine WP.iconst d_X8_mouth_16 ki_m1 ?_
    refine WP.istore (lv9 := [(4, .int (-1)), (0, .ref t), (1, .int l1), (2, .int l2), (3, .int l3)]) d_X8_mouth_17 (Nat.le_of_ble_eq_true rfl) rfl ?_
    refine WP.iconst d_X8_mouth_19 ki_0 ?_
    refine WP.istore (lv9 := [(5, .int 0), (4, .int (-1)), (0, .ref t), (1, .int l1), (2, .int l2), (3, .int l3)]) d_X8_mouth_20 (Nat.le_of_ble_eq_true rfl) rfl ?_
    refine WP.iconst d_X8_mouth_22 ki_0 ?_
    refine WP.istore (lv9 := [(6, .int 0), (5, .int 0), (4, .int (-1)), (0, .ref t), (1, .int l1), (2, .int l2), (3, .int l3)]) d_X8_mouth_23 (Nat.le_of_ble_eq_true rfl) rfl ?_
    obtain ⟨⟨y39, y40⟩, e38, H⟩ := ob H
    refine WP.sub [3, 6, 2, 1, 0] (lv' := [(0, .ref t), (3, .int l3), (4, .int (-1)), (5, .int 0), (6, .int 0)]) rfl ?_
    refine okl_X8_mouth_L25 V _ e38 ?_
    refine WP.iload d_X8_mouth_198 1 rfl ?_
    refine WP.iconst d_X8_mouth_200 ki_m1 ?_
    rcases oj H with ⟨hc, H⟩ | ⟨hc, H⟩
    · refine WP.icmp_ne_t d_X8_mouth_201 hc ?_
      refine WP.iconst d_X8_mouth_204 ki_m1 ?_
      refine WP.goto d_X8_mouth_205 ?_
      cases H
      exact WP.ireturn d_X8_mouth_219 rfl rfl (Nat.le_of_ble_eq_true rfl) (Nat.le_of_ble_eq_true rfl)
    · refine WP.icmp_ne_f d_X8_mouth_201 hc ?_
      refine WP.iload_n d_X8_mouth_208 0 rfl ?_
      rcases oj H with ⟨hc, H⟩ | ⟨hc, H⟩
      · refine WP.if_eq_t d_X8_mouth_209 hc ?_
        refine WP.iload d_X8_mouth_217 1 rfl ?_
        cases H
        exact WP.ireturn d_X8_mouth_219 rfl rfl (Nat.le_of_ble_eq_true rfl) (Nat.le_of_ble_eq_true rfl)
      · refine WP.if_eq_f d_X8_mouth_209 hc ?_
        refine WP.iload d_X8_mouth_212 2 rfl ?_
        refine WP.goto d_X8_mouth_214 ?_
        cases H
        exact WP.ireturn d_X8_mouth_219 rfl rfl (Nat.le_of_ble_eq_true rfl) (Nat.le_of_ble_eq_true rfl)

set_option maxRecDepth 20000 in
set_option maxHeartbeats 4000000 in
theorem okl_X8_rift_L49 (V : EV) {vF : Option Value} {hF : HA} {h : HA} {t : Nat} {l3 : Int32} {l6 : Int32} (n : Nat) : ∀ {l4 : Int32} {l5 : Int32} {l7 : Int32} {r4 : Int32} {r5 : Int32}, (H : X8_rift_L49 h t l6 n l4 l5 l7 = some (r4, r5)) → (K : WP V M_X8_rift 113 [(0, .ref t), (3, .int l3), (4, .int r4), (5, .int r5), (6, .int l6)] [] h 0 0 vF hF) → WP V M_X8_rift 49 [(0, .ref t), (3, .int l3), (4, .int l4), (5, .int l5), (6, .int l6), (7, .int l7)] [] h 0 0 vF hF := by
  induction n with
  | zero =>
    intro l4 l5 l7 r4 r5 H K
    rw [X8_rift_L49] at H
    cases H
  | succ n ih =>
    intro l4 l5 l7 r4 r5 H K
    rw [X8_rift_L49] at H
    refine WP.iload d_X8_rift_49 5 rfl ?_
    refine WP.aload_n d_X8_rift_51 0 rfl ?_
    obtain ⟨x8, ex8, H⟩ := ob H
    refine WP.fI d_X8_rift_52 gf_X8_280 (fun _ => rfl) ex8 ?_
    rcases oj H with ⟨hc, H⟩ | ⟨hc, H⟩
    · refine WP.icmp_ge_t d_X8_rift_55 hc ?_
      refine WP.aload_n d_X8_rift_58 0 rfl ?_
      refine WP.iload d_X8_rift_59 4 rfl ?_
      obtain ⟨x10, e9, H⟩ := ob H
      refine WP.cV (c := 9) (As := [.int l6]) (st := []) (st9 := [.int x10]) (cl9 := 0) (sl9 := 0) d_X8_rift_61 (ok_X8_known V e9) tv_X8_known ti_X8_known ts_X8_known lk_X8_402 r_X8_rift_X8_known kc_X8_known (kd_X8_known e9) rfl rfl (Nat.le_of_ble_eq_true rfl) rfl rfl rfl ?_
      refine WP.aload_n d_X8_rift_64 0 rfl ?_
      refine WP.iload d_X8_rift_65 5 rfl ?_
      obtain ⟨x12, e11, H⟩ := ob H
      refine WP.cV (c := 9) (As := [.int l7]) (st := [.int x10]) (st9 := [.int x12, .int x10]) (cl9 := 0) (sl9 := 0) d_X8_rift_67 (ok_X8_known V e11) tv_X8_known ti_X8_known ts_X8_known lk_X8_402 r_X8_rift_X8_known kc_X8_known (kd_X8_known e11) rfl rfl (Nat.le_of_ble_eq_true rfl) rfl rfl rfl ?_
      refine WP.ixor d_X8_rift_70 ?_
      obtain ⟨x14, e13, H⟩ := ob H
      refine WP.cS (As := [.int (x10 ^^^ x12)]) (st := []) (st9 := [.int x14]) (cl9 := 0) (sl9 := 0) d_X8_rift_71 (ok_X8_ones V (h := h) e13) tv_X8_ones ts_X8_ones lk_X8_349 r_X8_rift_X8_ones rfl rfl (Nat.le_of_ble_eq_true rfl) rfl rfl rfl ?_
      refine WP.istore (lv9 := [(8, .int x14), (0, .ref t), (3, .int l3), (4, .int l4), (5, .int l5), (6, .int l6), (7, .int l7)]) d_X8_rift_74 (Nat.le_of_ble_eq_true rfl) rfl ?_
      refine WP.iload d_X8_rift_76 0 rfl ?_
      refine WP.iload d_X8_rift_78 4 rfl ?_
      obtain ⟨j15, hs16, H⟩ := ol H
      have J17 : WP V M_X8_rift 96 [(0, .ref t), (3, .int l3), (5, .int l5), (6, .int l6), (7, .int l7), (8, .int x14)] [.int j15] h 0 0 vF hF := by
        refine WP.istore (lv9 := [(4, .int j15), (0, .ref t), (3, .int l3), (5, .int l5), (6, .int l6), (7, .int l7), (8, .int x14)]) d_X8_rift_96 (Nat.le_of_ble_eq_true rfl) rfl ?_
        refine WP.iload d_X8_rift_98 3 rfl ?_
        refine WP.iload d_X8_rift_100 6 rfl ?_
        obtain ⟨x19, e18, H⟩ := ob H
        refine WP.cS (As := [.int l5, .int x14]) (st := []) (st9 := [.int x19]) (cl9 := 0) (sl9 := 0) d_X8_rift_102 (ok_X8_greater V (h := h) e18) tv_X8_greater ts_X8_greater lk_X8_171 r_X8_rift_X8_greater rfl rfl (Nat.le_of_ble_eq_true rfl) rfl rfl rfl ?_
        refine WP.istore (lv9 := [(5, .int x19), (4, .int j15), (0, .ref t), (3, .int l3), (6, .int l6), (7, .int l7), (8, .int x14)]) d_X8_rift_105 (Nat.le_of_ble_eq_true rfl) rfl ?_
        refine WP.iinc (lv9 := [(7, .int (l7 + 1)), (5, .int x19), (4, .int j15), (0, .ref t), (3, .int l3), (6, .int l6), (8, .int x14)]) d_X8_rift_107 5 rfl ki_1 (Nat.le_of_ble_eq_true rfl) rfl ?_
        refine WP.goto d_X8_rift_110 ?_
        refine WP.sub [3, 4, 2, 1, 5, 0] (lv' := [(0, .ref t), (3, .int l3), (4, .int j15), (5, .int x19), (6, .int l6), (7, .int (l7 + 1))]) rfl ?_
        exact ih H K
      rcases oj hs16 with ⟨hc, hs16⟩ | ⟨hc, hs16⟩
      · refine WP.icmp_le_t d_X8_rift_80 hc ?_
        refine WP.bipush d_X8_rift_83 kb_6 ?_
        refine WP.iload d_X8_rift_85 5 rfl ?_
        refine WP.imul d_X8_rift_87 ?_
        refine WP.iload d_X8_rift_88 6 rfl ?_
        refine WP.iadd d_X8_rift_90 ?_
        refine WP.goto d_X8_rift_91 ?_
        cases hs16
        exact WP.sub [1, 2, 4, 5, 6, 0] rfl J17
      · refine WP.icmp_le_f d_X8_rift_80 hc ?_
        refine WP.iload d_X8_rift_94 3 rfl ?_
        cases hs16
        exact WP.sub [1, 2, 4, 5, 6, 0] rfl J17
    · refine WP.icmp_ge_f d_X8_rift_55 hc ?_
      cases H
      exact WP.sub [0, 1, 2, 3, 4] rfl K

set_option maxRecDepth 20000 in
set_option maxHeartbeats 4000000 in
theorem okl_X8_rift_L34 (V : EV) {vF : Option Value} {hF : HA} {h : HA} {t : Nat} {l3 : Int32} (n : Nat) : ∀ {l4 : Int32} {l5 : Int32} {l6 : Int32} {r4 : Int32} {r5 : Int32}, (H : X8_rift_L34 h t n l4 l5 l6 = some (r4, r5)) → (K : WP V M_X8_rift 119 [(3, .int l3), (4, .int r4), (5, .int r5)] [] h 0 0 vF hF) → WP V M_X8_rift 34 [(0, .ref t), (3, .int l3), (4, .int l4), (5, .int l5), (6, .int l6)] [] h 0 0 vF hF := by
  induction n with
  | zero =>
    intro l4 l5 l6 r4 r5 H K
    rw [X8_rift_L34] at H
    cases H
  | succ n ih =>
    intro l4 l5 l6 r4 r5 H K
    rw [X8_rift_L34] at H
    refine WP.iload d_X8_rift_34 4 rfl ?_
    refine WP.aload_n d_X8_rift_36 0 rfl ?_
    obtain ⟨x7, ex7, H⟩ := ob H
    refine WP.fI d_X8_rift_37 gf_X8_280 (fun _ => rfl) ex7 ?_
    rcases oj H with ⟨hc, H⟩ | ⟨hc, H⟩
    · refine WP.icmp_ge_t d_X8_rift_40 hc ?_
      refine WP.iload d_X8_rift_43 4 rfl ?_
      refine WP.iconst d_X8_rift_45 ki_1 ?_
      refine WP.iadd d_X8_rift_46 ?_
      refine WP.istore (lv9 := [(7, .int (l6 + 1)), (0, .ref t), (3, .int l3), (4, .int l4), (5, .int l5), (6, .int l6)]) d_X8_rift_47 (Nat.le_of_ble_eq_true rfl) rfl ?_
      obtain ⟨⟨y21, y22⟩, e20, H⟩ := ob H
      refine WP.sub [1, 2, 3, 4, 5, 0] (lv' := [(0, .ref t), (3, .int l3), (4, .int l4), (5, .int l5), (6, .int l6), (7, .int (l6 + 1))]) rfl ?_
      refine okl_X8_rift_L49 V _ e20 ?_
      refine WP.iinc (lv9 := [(6, .int (l6 + 1)), (0, .ref t), (3, .int l3), (4, .int y21), (5, .int y22)]) d_X8_rift_113 4 rfl ki_1 (Nat.le_of_ble_eq_true rfl) rfl ?_
      refine WP.goto d_X8_rift_116 ?_
      refine WP.sub [1, 2, 3, 4, 0] (lv' := [(0, .ref t), (3, .int l3), (4, .int y21), (5, .int y22), (6, .int (l6 + 1))]) rfl ?_
      exact ih H K
    · refine WP.icmp_ge_f d_X8_rift_40 hc ?_
      cases H
      exact WP.sub [1, 2, 3] rfl K

set_option maxRecDepth 20000 in
set_option maxHeartbeats 4000000 in
theorem ok_X8_rift (V : EV) {h : HA} {t : Nat} {l1 : Int32} {l2 : Int32} {l3 : Int32} {r : Int32} {hR : HA} (H : X8_rift h t l1 l2 l3 = some (r, hR)) : MG V M_X8_rift [.ref t, .int l1, .int l2, .int l3] h (some (.int r)) hR := by
  unfold X8_rift at H
  obtain ⟨_, H⟩ := oc H
  refine MG.of (lv0 := [(0, .ref t), (1, .int l1), (2, .int l2), (3, .int l3)]) pn_X8 rfl (Nat.le_of_ble_eq_true rfl) ?_
  refine WP.aload_n d_X8_rift_0 0 rfl ?_
  refine WP.iconst d_X8_rift_1 ki_0 ?_
  obtain ⟨h1, eh1, H⟩ := ob H
  refine WP.uI d_X8_rift_2 gf_X8_102 rfl (Or.inl rfl) rfl rfl eh1 ?_
  refine WP.iload_n d_X8_rift_5 3 rfl ?_
  refine WP.iconst d_X8_rift_6 ki_0 ?_
  refine WP.iconst d_X8_rift_7 ki_2 ?_
  obtain ⟨x3, e2, H⟩ := ob H
  refine WP.cS (As := [.int l3, .int 0, .int 2]) (st := []) (st9 := [.int x3]) (cl9 := 0) (sl9 := 0) d_X8_rift_8 (ok_X8_in V (h := h1) e2) tv_X8_in ts_X8_in lk_X8_114 r_X8_rift_X8_in rfl rfl (Nat.le_of_ble_eq_true rfl) rfl rfl rfl ?_
  rcases oj H with ⟨hc, H⟩ | ⟨hc, H⟩
  · refine WP.if_eq_t d_X8_rift_11 hc ?_
    refine WP.iconst d_X8_rift_23 ki_m1 ?_
    cases H
    exact WP.ireturn d_X8_rift_24 rfl rfl (Nat.le_of_ble_eq_true rfl) (Nat.le_of_ble_eq_true rfl)
  · refine WP.if_eq_f d_X8_rift_11 hc ?_
    refine WP.aload_n d_X8_rift_14 0 rfl ?_
    refine WP.iload_n d_X8_rift_15 1 rfl ?_
    refine WP.iload_n d_X8_rift_16 2 rfl ?_
    obtain ⟨⟨x6, h5⟩, e4, H⟩ := ob H
    refine WP.cV (c := 9) (As := [.int l1, .int l2]) (st := []) (st9 := [.int x6]) (cl9 := 0) (sl9 := 0) d_X8_rift_17 (ok_X8_layTrial V e4) tv_X8_layTrial ti_X8_layTrial ts_X8_layTrial lk_X8_385 r_X8_rift_X8_layTrial kc_X8_layTrial (kd_X8_layTrial e4) rfl rfl (Nat.le_of_ble_eq_true rfl) rfl rfl rfl ?_
    rcases oj H with ⟨hc, H⟩ | ⟨hc, H⟩
    · refine WP.if_ne_t d_X8_rift_20 hc ?_
      refine WP.iconst d_X8_rift_23 ki_m1 ?_
      cases H
      exact WP.ireturn d_X8_rift_24 rfl rfl (Nat.le_of_ble_eq_true rfl) (Nat.le_of_ble_eq_true rfl)
    · refine WP.if_ne_f d_X8_rift_20 hc ?_
      refine WP.iconst d_X8_rift_25 ki_m1 ?_
      refine WP.istore (lv9 := [(4, .int (-1)), (0, .ref t), (1, .int l1), (2, .int l2), (3, .int l3)]) d_X8_rift_26 (Nat.le_of_ble_eq_true rfl) rfl ?_
      refine WP.iconst d_X8_rift_28 ki_m1 ?_
      refine WP.istore (lv9 := [(5, .int (-1)), (4, .int (-1)), (0, .ref t), (1, .int l1), (2, .int l2), (3, .int l3)]) d_X8_rift_29 (Nat.le_of_ble_eq_true rfl) rfl ?_
      refine WP.iconst d_X8_rift_31 ki_0 ?_
      refine WP.istore (lv9 := [(6, .int 0), (5, .int (-1)), (4, .int (-1)), (0, .ref t), (1, .int l1), (2, .int l2), (3, .int l3)]) d_X8_rift_32 (Nat.le_of_ble_eq_true rfl) rfl ?_
      obtain ⟨⟨y24, y25⟩, e23, H⟩ := ob H
      refine WP.sub [3, 6, 2, 1, 0] (lv' := [(0, .ref t), (3, .int l3), (4, .int (-1)), (5, .int (-1)), (6, .int 0)]) rfl ?_
      refine okl_X8_rift_L34 V _ e23 ?_
      refine WP.iload d_X8_rift_119 1 rfl ?_
      refine WP.iconst d_X8_rift_121 ki_m1 ?_
      rcases oj H with ⟨hc, H⟩ | ⟨hc, H⟩
      · refine WP.icmp_ne_t d_X8_rift_122 hc ?_
        refine WP.iconst d_X8_rift_125 ki_m1 ?_
        refine WP.goto d_X8_rift_126 ?_
        cases H
        exact WP.ireturn d_X8_rift_156 rfl rfl (Nat.le_of_ble_eq_true rfl) (Nat.le_of_ble_eq_true rfl)
      · refine WP.icmp_ne_f d_X8_rift_122 hc ?_
        refine WP.iload_n d_X8_rift_129 0 rfl ?_
        rcases oj H with ⟨hc, H⟩ | ⟨hc, H⟩
        · refine WP.if_ne_t d_X8_rift_130 hc ?_
          refine WP.iload d_X8_rift_133 1 rfl ?_
          refine WP.bipush d_X8_rift_135 kb_6 ?_
          obtain ⟨x26, ex26, H⟩ := ob H
          refine WP.idiv d_X8_rift_137 ex26 ?_
          refine WP.goto d_X8_rift_138 ?_
          cases H
          exact WP.ireturn d_X8_rift_156 rfl rfl (Nat.le_of_ble_eq_true rfl) (Nat.le_of_ble_eq_true rfl)
        · refine WP.if_ne_f d_X8_rift_130 hc ?_
          refine WP.iload_n d_X8_rift_141 0 rfl ?_
          refine WP.iconst d_X8_rift_142 ki_1 ?_
          rcases oj H with ⟨hc, H⟩ | ⟨hc, H⟩
          · refine WP.icmp_ne_t d_X8_rift_143 hc ?_
            refine WP.iload d_X8_rift_146 1 rfl ?_
            refine WP.bipush d_X8_rift_148 kb_6 ?_
            obtain ⟨x27, ex27, H⟩ := ob H
            refine WP.irem d_X8_rift_150 ex27 ?_
            refine WP.goto d_X8_rift_151 ?_
            cases H
            exact WP.ireturn d_X8_rift_156 rfl rfl (Nat.le_of_ble_eq_true rfl) (Nat.le_of_ble_eq_true rfl)
          · refine WP.icmp_ne_f d_X8_rift_143 hc ?_
            refine WP.iload d_X8_rift_154 2 rfl ?_
            cases H
            exact WP.ireturn d_X8_rift_156 rfl rfl (Nat.le_of_ble_eq_true rfl) (Nat.le_of_ble_eq_true rfl)

set_option maxRecDepth 20000 in
set_option maxHeartbeats 4000000 in
theorem ok_X8_count (V : EV) {h : HA} {t : Nat} {l1 : Int32} {r : Int32} {hR : HA} (H : X8_count h t l1 = some (r, hR)) : MG V M_X8_count [.ref t, .int l1] h (some (.int r)) hR := by
  unfold X8_count at H
  obtain ⟨_, H⟩ := oc H
  refine MG.of (lv0 := [(0, .ref t), (1, .int l1)]) pn_X8 rfl (Nat.le_of_ble_eq_true rfl) ?_
  refine WP.aload_n d_X8_count_0 0 rfl ?_
  refine WP.iconst d_X8_count_1 ki_0 ?_
  obtain ⟨h1, eh1, H⟩ := ob H
  refine WP.uI d_X8_count_2 gf_X8_102 rfl (Or.inl rfl) rfl rfl eh1 ?_
  refine WP.iload_n d_X8_count_5 1 rfl ?_
  refine WP.iconst d_X8_count_6 ki_0 ?_
  refine WP.iconst d_X8_count_7 ki_3 ?_
  obtain ⟨x3, e2, H⟩ := ob H
  refine WP.cS (As := [.int l1, .int 0, .int 3]) (st := []) (st9 := [.int x3]) (cl9 := 0) (sl9 := 0) d_X8_count_8 (ok_X8_in V (h := h1) e2) tv_X8_in ts_X8_in lk_X8_114 r_X8_count_X8_in rfl rfl (Nat.le_of_ble_eq_true rfl) rfl rfl rfl ?_
  rcases oj H with ⟨hc, H⟩ | ⟨hc, H⟩
  · refine WP.if_eq_t d_X8_count_11 hc ?_
    refine WP.bipush d_X8_count_23 kb_m2 ?_
    cases H
    exact WP.ireturn d_X8_count_25 rfl rfl (Nat.le_of_ble_eq_true rfl) (Nat.le_of_ble_eq_true rfl)
  · refine WP.if_eq_f d_X8_count_11 hc ?_
    refine WP.aload_n d_X8_count_14 0 rfl ?_
    obtain ⟨x4, ex4, H⟩ := ob H
    refine WP.fR d_X8_count_15 gf_X8_23 (fun _ => rfl) ex4 ?_
    refine WP.iload_n d_X8_count_18 1 rfl ?_
    obtain ⟨x5, ex5, H⟩ := ob H
    refine WP.iald d_X8_count_19 ex5 ?_
    refine WP.goto d_X8_count_20 ?_
    cases H
    exact WP.ireturn d_X8_count_25 rfl rfl (Nat.le_of_ble_eq_true rfl) (Nat.le_of_ble_eq_true rfl)

set_option maxRecDepth 20000 in
set_option maxHeartbeats 4000000 in
theorem ok_X8_image (V : EV) {h : HA} {t : Nat} {l1 : Int32} {r : Int32} {hR : HA} (H : X8_image h t l1 = some (r, hR)) : MG V M_X8_image [.ref t, .int l1] h (some (.int r)) hR := by
  unfold X8_image at H
  obtain ⟨_, H⟩ := oc H
  refine MG.of (lv0 := [(0, .ref t), (1, .int l1)]) pn_X8 rfl (Nat.le_of_ble_eq_true rfl) ?_
  refine WP.aload_n d_X8_image_0 0 rfl ?_
  refine WP.iconst d_X8_image_1 ki_0 ?_
  obtain ⟨h1, eh1, H⟩ := ob H
  refine WP.uI d_X8_image_2 gf_X8_102 rfl (Or.inl rfl) rfl rfl eh1 ?_
  refine WP.iload_n d_X8_image_5 1 rfl ?_
  refine WP.iconst d_X8_image_6 ki_0 ?_
  refine WP.iconst d_X8_image_7 ki_2 ?_
  obtain ⟨x3, e2, H⟩ := ob H
  refine WP.cS (As := [.int l1, .int 0, .int 2]) (st := []) (st9 := [.int x3]) (cl9 := 0) (sl9 := 0) d_X8_image_8 (ok_X8_in V (h := h1) e2) tv_X8_in ts_X8_in lk_X8_114 r_X8_image_X8_in rfl rfl (Nat.le_of_ble_eq_true rfl) rfl rfl rfl ?_
  rcases oj H with ⟨hc, H⟩ | ⟨hc, H⟩
  · refine WP.if_ne_t d_X8_image_11 hc ?_
    refine WP.iconst d_X8_image_14 ki_0 ?_
    cases H
    exact WP.ireturn d_X8_image_15 rfl rfl (Nat.le_of_ble_eq_true rfl) (Nat.le_of_ble_eq_true rfl)
  · refine WP.if_ne_f d_X8_image_11 hc ?_
    refine WP.aload_n d_X8_image_16 0 rfl ?_
    refine WP.iconst d_X8_image_17 ki_0 ?_
    refine WP.iload_n d_X8_image_18 1 rfl ?_
    refine WP.iconst d_X8_image_19 ki_1 ?_
    refine WP.iadd d_X8_image_20 ?_
    obtain ⟨h5, e4, H⟩ := ob H
    refine WP.cV (c := 9) (As := [.int 0, .int (l1 + 1)]) (st := []) (st9 := []) (cl9 := 0) (sl9 := 0) d_X8_image_21 (ok_X8_copyAll V e4) tv_X8_copyAll ti_X8_copyAll ts_X8_copyAll lk_X8_502 r_X8_image_X8_copyAll kc_X8_copyAll (kd_X8_copyAll e4) rfl rfl (Nat.le_of_ble_eq_true rfl) rfl rfl rfl ?_
    refine WP.aload_n d_X8_image_24 0 rfl ?_
    obtain ⟨x6, ex6, H⟩ := ob H
    refine WP.fR d_X8_image_25 gf_X8_98 (fun _ => rfl) ex6 ?_
    refine WP.iload_n d_X8_image_28 1 rfl ?_
    refine WP.iconst d_X8_image_29 ki_1 ?_
    obtain ⟨h7, eh7, H⟩ := ob H
    refine WP.zas d_X8_image_30 rfl eh7 ?_
    refine WP.iconst d_X8_image_31 ki_1 ?_
    cases H
    exact WP.ireturn d_X8_image_32 rfl rfl (Nat.le_of_ble_eq_true rfl) (Nat.le_of_ble_eq_true rfl)

set_option maxRecDepth 20000 in
set_option maxHeartbeats 4000000 in
theorem ok_X8_again (V : EV) {h : HA} {t : Nat} {l1 : Int32} {r : Int32} {hR : HA} (H : X8_again h t l1 = some (r, hR)) : MG V M_X8_again [.ref t, .int l1] h (some (.int r)) hR := by
  unfold X8_again at H
  obtain ⟨_, H⟩ := oc H
  refine MG.of (lv0 := [(0, .ref t), (1, .int l1)]) pn_X8 rfl (Nat.le_of_ble_eq_true rfl) ?_
  refine WP.aload_n d_X8_again_0 0 rfl ?_
  refine WP.iconst d_X8_again_1 ki_0 ?_
  obtain ⟨h1, eh1, H⟩ := ob H
  refine WP.uI d_X8_again_2 gf_X8_102 rfl (Or.inl rfl) rfl rfl eh1 ?_
  refine WP.iload_n d_X8_again_5 1 rfl ?_
  refine WP.iconst d_X8_again_6 ki_0 ?_
  refine WP.iconst d_X8_again_7 ki_2 ?_
  obtain ⟨x3, e2, H⟩ := ob H
  refine WP.cS (As := [.int l1, .int 0, .int 2]) (st := []) (st9 := [.int x3]) (cl9 := 0) (sl9 := 0) d_X8_again_8 (ok_X8_in V (h := h1) e2) tv_X8_in ts_X8_in lk_X8_114 r_X8_again_X8_in rfl rfl (Nat.le_of_ble_eq_true rfl) rfl rfl rfl ?_
  rcases oj H with ⟨hc, H⟩ | ⟨hc, H⟩
  · refine WP.if_eq_t d_X8_again_11 hc ?_
    refine WP.iconst d_X8_again_23 ki_0 ?_
    cases H
    exact WP.ireturn d_X8_again_24 rfl rfl (Nat.le_of_ble_eq_true rfl) (Nat.le_of_ble_eq_true rfl)
  · refine WP.if_eq_f d_X8_again_11 hc ?_
    refine WP.aload_n d_X8_again_14 0 rfl ?_
    obtain ⟨x4, ex4, H⟩ := ob H
    refine WP.fR d_X8_again_15 gf_X8_98 (fun _ => rfl) ex4 ?_
    refine WP.iload_n d_X8_again_18 1 rfl ?_
    obtain ⟨x5, ex5, H⟩ := ob H
    refine WP.zald d_X8_again_19 ex5 ?_
    rcases oj H with ⟨hc, H⟩ | ⟨hc, H⟩
    · refine WP.if_ne_t d_X8_again_20 hc ?_
      refine WP.iconst d_X8_again_23 ki_0 ?_
      cases H
      exact WP.ireturn d_X8_again_24 rfl rfl (Nat.le_of_ble_eq_true rfl) (Nat.le_of_ble_eq_true rfl)
    · refine WP.if_ne_f d_X8_again_20 hc ?_
      refine WP.aload_n d_X8_again_25 0 rfl ?_
      refine WP.iload_n d_X8_again_26 1 rfl ?_
      refine WP.iconst d_X8_again_27 ki_1 ?_
      refine WP.iadd d_X8_again_28 ?_
      refine WP.iconst d_X8_again_29 ki_0 ?_
      obtain ⟨h7, e6, H⟩ := ob H
      refine WP.cV (c := 9) (As := [.int (l1 + 1), .int 0]) (st := []) (st9 := []) (cl9 := 0) (sl9 := 0) d_X8_again_30 (ok_X8_copyAll V e6) tv_X8_copyAll ti_X8_copyAll ts_X8_copyAll lk_X8_502 r_X8_again_X8_copyAll kc_X8_copyAll (kd_X8_copyAll e6) rfl rfl (Nat.le_of_ble_eq_true rfl) rfl rfl rfl ?_
      refine WP.iconst d_X8_again_33 ki_1 ?_
      cases H
      exact WP.ireturn d_X8_again_34 rfl rfl (Nat.le_of_ble_eq_true rfl) (Nat.le_of_ble_eq_true rfl)
