set_option maxRecDepth 20000 in
set_option maxHeartbeats 4000000 in
theorem ok_X8_init (V : EV) {h : HA} {t : Nat} {hR : HA} (H : X8_init h t = some hR) : MG V M_X8_init [.ref t] h none hR := by
  unfold X8_init at H
  obtain ⟨_, H⟩ := oc H
  refine MG.of (lv0 := [(0, .ref t)]) pn_X8 rfl (Nat.le_of_ble_eq_true rfl) ?_
  refine WP.aload_n d_X8_init_0 0 rfl ?_
  refine WP.objInit d_X8_init_1 lk_X8_1 w_oi_inst w_oi_code (Nat.le_of_ble_eq_true rfl) (Nat.le_of_ble_eq_true rfl) ?_
  refine WP.aload_n d_X8_init_4 0 rfl ?_
  refine WP.sipush d_X8_init_5 ks_2400 ?_
  obtain ⟨h1, eh1, H⟩ := ob H
  refine WP.newarr (c := 22) d_X8_init_8 (Nat.le_of_ble_eq_true rfl) (Nat.le_of_ble_eq_true rfl) rfl wa_byte eh1 (Nat.le_of_ble_eq_true rfl) fc_22 (Nat.le_of_ble_eq_true rfl) (Nat.le_of_ble_eq_true rfl) newa_22 ?_
  refine WP.cs (cl9 := 1) (sl9 := 2400) rfl rfl ?_
  obtain ⟨h2, eh2, H⟩ := ob H
  refine WP.vR d_X8_init_10 gf_X8_7 rfl rfl rfl (x := (some (hz h))) (fun _ => rfl) rfl rfl eh2 ?_
  refine WP.aload_n d_X8_init_13 0 rfl ?_
  refine WP.iconst d_X8_init_14 ki_4 ?_
  obtain ⟨h3, eh3, H⟩ := ob H
  refine WP.newarr (c := 20) d_X8_init_15 (Nat.le_of_ble_eq_true rfl) (Nat.le_of_ble_eq_true rfl) rfl wa_int eh3 (Nat.le_of_ble_eq_true rfl) fc_20 (Nat.le_of_ble_eq_true rfl) (Nat.le_of_ble_eq_true rfl) newa_20 ?_
  refine WP.cs (cl9 := 2) (sl9 := 2404) rfl rfl ?_
  obtain ⟨h4, eh4, H⟩ := ob H
  refine WP.vR d_X8_init_17 gf_X8_13 rfl rfl rfl (x := (some (hz h2))) (fun _ => rfl) rfl rfl eh4 ?_
  refine WP.aload_n d_X8_init_20 0 rfl ?_
  refine WP.iconst d_X8_init_21 ki_4 ?_
  obtain ⟨h5, eh5, H⟩ := ob H
  refine WP.newarr (c := 20) d_X8_init_22 (Nat.le_of_ble_eq_true rfl) (Nat.le_of_ble_eq_true rfl) rfl wa_int eh5 (Nat.le_of_ble_eq_true rfl) fc_20 (Nat.le_of_ble_eq_true rfl) (Nat.le_of_ble_eq_true rfl) newa_20 ?_
  refine WP.cs (cl9 := 3) (sl9 := 2408) rfl rfl ?_
  obtain ⟨h6, eh6, H⟩ := ob H
  refine WP.vR d_X8_init_24 gf_X8_17 rfl rfl rfl (x := (some (hz h4))) (fun _ => rfl) rfl rfl eh6 ?_
  refine WP.aload_n d_X8_init_27 0 rfl ?_
  refine WP.iconst d_X8_init_28 ki_4 ?_
  obtain ⟨h7, eh7, H⟩ := ob H
  refine WP.newarr (c := 20) d_X8_init_29 (Nat.le_of_ble_eq_true rfl) (Nat.le_of_ble_eq_true rfl) rfl wa_int eh7 (Nat.le_of_ble_eq_true rfl) fc_20 (Nat.le_of_ble_eq_true rfl) (Nat.le_of_ble_eq_true rfl) newa_20 ?_
  refine WP.cs (cl9 := 4) (sl9 := 2412) rfl rfl ?_
  obtain ⟨h8, eh8, H⟩ := ob H
  refine WP.vR d_X8_init_31 gf_X8_20 rfl rfl rfl (x := (some (hz h6))) (fun _ => rfl) rfl rfl eh8 ?_
  refine WP.aload_n d_X8_init_34 0 rfl ?_
  refine WP.bipush d_X8_init_35 kb_16 ?_
  obtain ⟨h9, eh9, H⟩ := ob H
  refine WP.newarr (c := 20) d_X8_init_37 (Nat.le_of_ble_eq_true rfl) (Nat.le_of_ble_eq_true rfl) rfl wa_int eh9 (Nat.le_of_ble_eq_true rfl) fc_20 (Nat.le_of_ble_eq_true rfl) (Nat.le_of_ble_eq_true rfl) newa_20 ?_
  refine WP.cs (cl9 := 5) (sl9 := 2428) rfl rfl ?_
  obtain ⟨h10, eh10, H⟩ := ob H
  refine WP.vR d_X8_init_39 gf_X8_23 rfl rfl rfl (x := (some (hz h8))) (fun _ => rfl) rfl rfl eh10 ?_
  refine WP.aload_n d_X8_init_42 0 rfl ?_
  refine WP.sipush d_X8_init_43 ks_848 ?_
  obtain ⟨h11, eh11, H⟩ := ob H
  refine WP.newarr (c := 20) d_X8_init_46 (Nat.le_of_ble_eq_true rfl) (Nat.le_of_ble_eq_true rfl) rfl wa_int eh11 (Nat.le_of_ble_eq_true rfl) fc_20 (Nat.le_of_ble_eq_true rfl) (Nat.le_of_ble_eq_true rfl) newa_20 ?_
  refine WP.cs (cl9 := 6) (sl9 := 3276) rfl rfl ?_
  obtain ⟨h12, eh12, H⟩ := ob H
  refine WP.vR d_X8_init_48 gf_X8_26 rfl rfl rfl (x := (some (hz h10))) (fun _ => rfl) rfl rfl eh12 ?_
  refine WP.aload_n d_X8_init_51 0 rfl ?_
  refine WP.sipush d_X8_init_52 ks_968 ?_
  obtain ⟨h13, eh13, H⟩ := ob H
  refine WP.newarr (c := 20) d_X8_init_55 (Nat.le_of_ble_eq_true rfl) (Nat.le_of_ble_eq_true rfl) rfl wa_int eh13 (Nat.le_of_ble_eq_true rfl) fc_20 (Nat.le_of_ble_eq_true rfl) (Nat.le_of_ble_eq_true rfl) newa_20 ?_
  refine WP.cs (cl9 := 7) (sl9 := 4244) rfl rfl ?_
  obtain ⟨h14, eh14, H⟩ := ob H
  refine WP.vR d_X8_init_57 gf_X8_29 rfl rfl rfl (x := (some (hz h12))) (fun _ => rfl) rfl rfl eh14 ?_
  refine WP.aload_n d_X8_init_60 0 rfl ?_
  refine WP.sipush d_X8_init_61 ks_200 ?_
  obtain ⟨h15, eh15, H⟩ := ob H
  refine WP.newarr (c := 20) d_X8_init_64 (Nat.le_of_ble_eq_true rfl) (Nat.le_of_ble_eq_true rfl) rfl wa_int eh15 (Nat.le_of_ble_eq_true rfl) fc_20 (Nat.le_of_ble_eq_true rfl) (Nat.le_of_ble_eq_true rfl) newa_20 ?_
  refine WP.cs (cl9 := 8) (sl9 := 4444) rfl rfl ?_
  obtain ⟨h16, eh16, H⟩ := ob H
  refine WP.vR d_X8_init_66 gf_X8_32 rfl rfl rfl (x := (some (hz h14))) (fun _ => rfl) rfl rfl eh16 ?_
  refine WP.aload_n d_X8_init_69 0 rfl ?_
  refine WP.sipush d_X8_init_70 ks_200 ?_
  obtain ⟨h17, eh17, H⟩ := ob H
  refine WP.newarr (c := 20) d_X8_init_73 (Nat.le_of_ble_eq_true rfl) (Nat.le_of_ble_eq_true rfl) rfl wa_int eh17 (Nat.le_of_ble_eq_true rfl) fc_20 (Nat.le_of_ble_eq_true rfl) (Nat.le_of_ble_eq_true rfl) newa_20 ?_
  refine WP.cs (cl9 := 9) (sl9 := 4644) rfl rfl ?_
  obtain ⟨h18, eh18, H⟩ := ob H
  refine WP.vR d_X8_init_75 gf_X8_35 rfl rfl rfl (x := (some (hz h16))) (fun _ => rfl) rfl rfl eh18 ?_
  refine WP.aload_n d_X8_init_78 0 rfl ?_
  refine WP.bipush d_X8_init_79 kb_121 ?_
  obtain ⟨h19, eh19, H⟩ := ob H
  refine WP.newarr (c := 20) d_X8_init_81 (Nat.le_of_ble_eq_true rfl) (Nat.le_of_ble_eq_true rfl) rfl wa_int eh19 (Nat.le_of_ble_eq_true rfl) fc_20 (Nat.le_of_ble_eq_true rfl) (Nat.le_of_ble_eq_true rfl) newa_20 ?_
  refine WP.cs (cl9 := 10) (sl9 := 4765) rfl rfl ?_
  obtain ⟨h20, eh20, H⟩ := ob H
  refine WP.vR d_X8_init_83 gf_X8_38 rfl rfl rfl (x := (some (hz h18))) (fun _ => rfl) rfl rfl eh20 ?_
  refine WP.aload_n d_X8_init_86 0 rfl ?_
  refine WP.iconst d_X8_init_87 ki_5 ?_
  obtain ⟨h21, eh21, H⟩ := ob H
  refine WP.newarr (c := 20) d_X8_init_88 (Nat.le_of_ble_eq_true rfl) (Nat.le_of_ble_eq_true rfl) rfl wa_int eh21 (Nat.le_of_ble_eq_true rfl) fc_20 (Nat.le_of_ble_eq_true rfl) (Nat.le_of_ble_eq_true rfl) newa_20 ?_
  refine WP.cs (cl9 := 11) (sl9 := 4770) rfl rfl ?_
  obtain ⟨h22, eh22, H⟩ := ob H
  refine WP.vR d_X8_init_90 gf_X8_41 rfl rfl rfl (x := (some (hz h20))) (fun _ => rfl) rfl rfl eh22 ?_
  refine WP.aload_n d_X8_init_93 0 rfl ?_
  refine WP.iconst d_X8_init_94 ki_4 ?_
  obtain ⟨h23, eh23, H⟩ := ob H
  refine WP.newarr (c := 20) d_X8_init_95 (Nat.le_of_ble_eq_true rfl) (Nat.le_of_ble_eq_true rfl) rfl wa_int eh23 (Nat.le_of_ble_eq_true rfl) fc_20 (Nat.le_of_ble_eq_true rfl) (Nat.le_of_ble_eq_true rfl) newa_20 ?_
  refine WP.cs (cl9 := 12) (sl9 := 4774) rfl rfl ?_
  obtain ⟨h24, eh24, H⟩ := ob H
  refine WP.vR d_X8_init_97 gf_X8_44 rfl rfl rfl (x := (some (hz h22))) (fun _ => rfl) rfl rfl eh24 ?_
  refine WP.aload_n d_X8_init_100 0 rfl ?_
  refine WP.sipush d_X8_init_101 ks_4096 ?_
  obtain ⟨h25, eh25, H⟩ := ob H
  refine WP.newarr (c := 20) d_X8_init_104 (Nat.le_of_ble_eq_true rfl) (Nat.le_of_ble_eq_true rfl) rfl wa_int eh25 (Nat.le_of_ble_eq_true rfl) fc_20 (Nat.le_of_ble_eq_true rfl) (Nat.le_of_ble_eq_true rfl) newa_20 ?_
  refine WP.cs (cl9 := 13) (sl9 := 8870) rfl rfl ?_
  obtain ⟨h26, eh26, H⟩ := ob H
  refine WP.vR d_X8_init_106 gf_X8_47 rfl rfl rfl (x := (some (hz h24))) (fun _ => rfl) rfl rfl eh26 ?_
  refine WP.aload_n d_X8_init_109 0 rfl ?_
  refine WP.bipush d_X8_init_110 kb_64 ?_
  obtain ⟨h27, eh27, H⟩ := ob H
  refine WP.newarr (c := 20) d_X8_init_112 (Nat.le_of_ble_eq_true rfl) (Nat.le_of_ble_eq_true rfl) rfl wa_int eh27 (Nat.le_of_ble_eq_true rfl) fc_20 (Nat.le_of_ble_eq_true rfl) (Nat.le_of_ble_eq_true rfl) newa_20 ?_
  refine WP.cs (cl9 := 14) (sl9 := 8934) rfl rfl ?_
  obtain ⟨h28, eh28, H⟩ := ob H
  refine WP.vR d_X8_init_114 gf_X8_50 rfl rfl rfl (x := (some (hz h26))) (fun _ => rfl) rfl rfl eh28 ?_
  refine WP.aload_n d_X8_init_117 0 rfl ?_
  refine WP.sipush d_X8_init_118 ks_16384 ?_
  obtain ⟨h29, eh29, H⟩ := ob H
  refine WP.newarr (c := 20) d_X8_init_121 (Nat.le_of_ble_eq_true rfl) (Nat.le_of_ble_eq_true rfl) rfl wa_int eh29 (Nat.le_of_ble_eq_true rfl) fc_20 (Nat.le_of_ble_eq_true rfl) (Nat.le_of_ble_eq_true rfl) newa_20 ?_
  refine WP.cs (cl9 := 15) (sl9 := 25318) rfl rfl ?_
  obtain ⟨h30, eh30, H⟩ := ob H
  refine WP.vR d_X8_init_123 gf_X8_53 rfl rfl rfl (x := (some (hz h28))) (fun _ => rfl) rfl rfl eh30 ?_
  refine WP.aload_n d_X8_init_126 0 rfl ?_
  refine WP.sipush d_X8_init_127 ks_16384 ?_
  obtain ⟨h31, eh31, H⟩ := ob H
  refine WP.newarr (c := 20) d_X8_init_130 (Nat.le_of_ble_eq_true rfl) (Nat.le_of_ble_eq_true rfl) rfl wa_int eh31 (Nat.le_of_ble_eq_true rfl) fc_20 (Nat.le_of_ble_eq_true rfl) (Nat.le_of_ble_eq_true rfl) newa_20 ?_
  refine WP.cs (cl9 := 16) (sl9 := 41702) rfl rfl ?_
  obtain ⟨h32, eh32, H⟩ := ob H
  refine WP.vR d_X8_init_132 gf_X8_56 rfl rfl rfl (x := (some (hz h30))) (fun _ => rfl) rfl rfl eh32 ?_
  refine WP.aload_n d_X8_init_135 0 rfl ?_
  refine WP.sipush d_X8_init_136 ks_16384 ?_
  obtain ⟨h33, eh33, H⟩ := ob H
  refine WP.newarr (c := 22) d_X8_init_139 (Nat.le_of_ble_eq_true rfl) (Nat.le_of_ble_eq_true rfl) rfl wa_byte eh33 (Nat.le_of_ble_eq_true rfl) fc_22 (Nat.le_of_ble_eq_true rfl) (Nat.le_of_ble_eq_true rfl) newa_22 ?_
  refine WP.cs (cl9 := 17) (sl9 := 58086) rfl rfl ?_
  obtain ⟨h34, eh34, H⟩ := ob H
  refine WP.vR d_X8_init_141 gf_X8_59 rfl rfl rfl (x := (some (hz h32))) (fun _ => rfl) rfl rfl eh34 ?_
  refine WP.aload_n d_X8_init_144 0 rfl ?_
  refine WP.sipush d_X8_init_145 ks_16384 ?_
  obtain ⟨h35, eh35, H⟩ := ob H
  refine WP.newarr (c := 20) d_X8_init_148 (Nat.le_of_ble_eq_true rfl) (Nat.le_of_ble_eq_true rfl) rfl wa_int eh35 (Nat.le_of_ble_eq_true rfl) fc_20 (Nat.le_of_ble_eq_true rfl) (Nat.le_of_ble_eq_true rfl) newa_20 ?_
  refine WP.cs (cl9 := 18) (sl9 := 74470) rfl rfl ?_
  obtain ⟨h36, eh36, H⟩ := ob H
  refine WP.vR d_X8_init_150 gf_X8_62 rfl rfl rfl (x := (some (hz h34))) (fun _ => rfl) rfl rfl eh36 ?_
  refine WP.aload_n d_X8_init_153 0 rfl ?_
  refine WP.bipush d_X8_init_154 kb_60 ?_
  obtain ⟨h37, eh37, H⟩ := ob H
  refine WP.newarr (c := 20) d_X8_init_156 (Nat.le_of_ble_eq_true rfl) (Nat.le_of_ble_eq_true rfl) rfl wa_int eh37 (Nat.le_of_ble_eq_true rfl) fc_20 (Nat.le_of_ble_eq_true rfl) (Nat.le_of_ble_eq_true rfl) newa_20 ?_
  refine WP.cs (cl9 := 19) (sl9 := 74530) rfl rfl ?_
  obtain ⟨h38, eh38, H⟩ := ob H
  refine WP.vR d_X8_init_158 gf_X8_65 rfl rfl rfl (x := (some (hz h36))) (fun _ => rfl) rfl rfl eh38 ?_
  refine WP.aload_n d_X8_init_161 0 rfl ?_
  refine WP.bipush d_X8_init_162 kb_8 ?_
  obtain ⟨h39, eh39, H⟩ := ob H
  refine WP.newarr (c := 20) d_X8_init_164 (Nat.le_of_ble_eq_true rfl) (Nat.le_of_ble_eq_true rfl) rfl wa_int eh39 (Nat.le_of_ble_eq_true rfl) fc_20 (Nat.le_of_ble_eq_true rfl) (Nat.le_of_ble_eq_true rfl) newa_20 ?_
  refine WP.cs (cl9 := 20) (sl9 := 74538) rfl rfl ?_
  obtain ⟨h40, eh40, H⟩ := ob H
  refine WP.vR d_X8_init_166 gf_X8_68 rfl rfl rfl (x := (some (hz h38))) (fun _ => rfl) rfl rfl eh40 ?_
  refine WP.aload_n d_X8_init_169 0 rfl ?_
  refine WP.bipush d_X8_init_170 kb_30 ?_
  obtain ⟨h41, eh41, H⟩ := ob H
  refine WP.newarr (c := 20) d_X8_init_172 (Nat.le_of_ble_eq_true rfl) (Nat.le_of_ble_eq_true rfl) rfl wa_int eh41 (Nat.le_of_ble_eq_true rfl) fc_20 (Nat.le_of_ble_eq_true rfl) (Nat.le_of_ble_eq_true rfl) newa_20 ?_
  refine WP.cs (cl9 := 21) (sl9 := 74568) rfl rfl ?_
  obtain ⟨h42, eh42, H⟩ := ob H
  refine WP.vR d_X8_init_174 gf_X8_71 rfl rfl rfl (x := (some (hz h40))) (fun _ => rfl) rfl rfl eh42 ?_
  refine WP.aload_n d_X8_init_177 0 rfl ?_
  refine WP.bipush d_X8_init_178 kb_30 ?_
  obtain ⟨h43, eh43, H⟩ := ob H
  refine WP.newarr (c := 20) d_X8_init_180 (Nat.le_of_ble_eq_true rfl) (Nat.le_of_ble_eq_true rfl) rfl wa_int eh43 (Nat.le_of_ble_eq_true rfl) fc_20 (Nat.le_of_ble_eq_true rfl) (Nat.le_of_ble_eq_true rfl) newa_20 ?_
  refine WP.cs (cl9 := 22) (sl9 := 74598) rfl rfl ?_
  obtain ⟨h44, eh44, H⟩ := ob H
  refine WP.vR d_X8_init_182 gf_X8_74 rfl rfl rfl (x := (some (hz h42))) (fun _ => rfl) rfl rfl eh44 ?_
  refine WP.aload_n d_X8_init_185 0 rfl ?_
  refine WP.bipush d_X8_init_186 kb_30 ?_
  obtain ⟨h45, eh45, H⟩ := ob H
  refine WP.newarr (c := 20) d_X8_init_188 (Nat.le_of_ble_eq_true rfl) (Nat.le_of_ble_eq_true rfl) rfl wa_int eh45 (Nat.le_of_ble_eq_true rfl) fc_20 (Nat.le_of_ble_eq_true rfl) (Nat.le_of_ble_eq_true rfl) newa_20 ?_
  refine WP.cs (cl9 := 23) (sl9 := 74628) rfl rfl ?_
  obtain ⟨h46, eh46, H⟩ := ob H
  refine WP.vR d_X8_init_190 gf_X8_77 rfl rfl rfl (x := (some (hz h44))) (fun _ => rfl) rfl rfl eh46 ?_
  refine WP.aload_n d_X8_init_193 0 rfl ?_
  refine WP.bipush d_X8_init_194 kb_30 ?_
  obtain ⟨h47, eh47, H⟩ := ob H
  refine WP.newarr (c := 20) d_X8_init_196 (Nat.le_of_ble_eq_true rfl) (Nat.le_of_ble_eq_true rfl) rfl wa_int eh47 (Nat.le_of_ble_eq_true rfl) fc_20 (Nat.le_of_ble_eq_true rfl) (Nat.le_of_ble_eq_true rfl) newa_20 ?_
  refine WP.cs (cl9 := 24) (sl9 := 74658) rfl rfl ?_
  obtain ⟨h48, eh48, H⟩ := ob H
  refine WP.vR d_X8_init_198 gf_X8_80 rfl rfl rfl (x := (some (hz h46))) (fun _ => rfl) rfl rfl eh48 ?_
  refine WP.aload_n d_X8_init_201 0 rfl ?_
  refine WP.bipush d_X8_init_202 kb_30 ?_
  obtain ⟨h49, eh49, H⟩ := ob H
  refine WP.newarr (c := 20) d_X8_init_204 (Nat.le_of_ble_eq_true rfl) (Nat.le_of_ble_eq_true rfl) rfl wa_int eh49 (Nat.le_of_ble_eq_true rfl) fc_20 (Nat.le_of_ble_eq_true rfl) (Nat.le_of_ble_eq_true rfl) newa_20 ?_
  refine WP.cs (cl9 := 25) (sl9 := 74688) rfl rfl ?_
  obtain ⟨h50, eh50, H⟩ := ob H
  refine WP.vR d_X8_init_206 gf_X8_83 rfl rfl rfl (x := (some (hz h48))) (fun _ => rfl) rfl rfl eh50 ?_
  refine WP.aload_n d_X8_init_209 0 rfl ?_
  refine WP.bipush d_X8_init_210 kb_6 ?_
  obtain ⟨h51, eh51, H⟩ := ob H
  refine WP.newarr (c := 20) d_X8_init_212 (Nat.le_of_ble_eq_true rfl) (Nat.le_of_ble_eq_true rfl) rfl wa_int eh51 (Nat.le_of_ble_eq_true rfl) fc_20 (Nat.le_of_ble_eq_true rfl) (Nat.le_of_ble_eq_true rfl) newa_20 ?_
  refine WP.cs (cl9 := 26) (sl9 := 74694) rfl rfl ?_
  obtain ⟨h52, eh52, H⟩ := ob H
  refine WP.vR d_X8_init_214 gf_X8_86 rfl rfl rfl (x := (some (hz h50))) (fun _ => rfl) rfl rfl eh52 ?_
  refine WP.aload_n d_X8_init_217 0 rfl ?_
  refine WP.bipush d_X8_init_218 kb_36 ?_
  obtain ⟨h53, eh53, H⟩ := ob H
  refine WP.newarr (c := 20) d_X8_init_220 (Nat.le_of_ble_eq_true rfl) (Nat.le_of_ble_eq_true rfl) rfl wa_int eh53 (Nat.le_of_ble_eq_true rfl) fc_20 (Nat.le_of_ble_eq_true rfl) (Nat.le_of_ble_eq_true rfl) newa_20 ?_
  refine WP.cs (cl9 := 27) (sl9 := 74730) rfl rfl ?_
  obtain ⟨h54, eh54, H⟩ := ob H
  refine WP.vR d_X8_init_222 gf_X8_89 rfl rfl rfl (x := (some (hz h52))) (fun _ => rfl) rfl rfl eh54 ?_
  refine WP.aload_n d_X8_init_225 0 rfl ?_
  refine WP.bipush d_X8_init_226 kb_6 ?_
  obtain ⟨h55, eh55, H⟩ := ob H
  refine WP.newarr (c := 20) d_X8_init_228 (Nat.le_of_ble_eq_true rfl) (Nat.le_of_ble_eq_true rfl) rfl wa_int eh55 (Nat.le_of_ble_eq_true rfl) fc_20 (Nat.le_of_ble_eq_true rfl) (Nat.le_of_ble_eq_true rfl) newa_20 ?_
  refine WP.cs (cl9 := 28) (sl9 := 74736) rfl rfl ?_
  obtain ⟨h56, eh56, H⟩ := ob H
  refine WP.vR d_X8_init_230 gf_X8_92 rfl rfl rfl (x := (some (hz h54))) (fun _ => rfl) rfl rfl eh56 ?_
  refine WP.aload_n d_X8_init_233 0 rfl ?_
  refine WP.bipush d_X8_init_234 kb_6 ?_
  obtain ⟨h57, eh57, H⟩ := ob H
  refine WP.newarr (c := 20) d_X8_init_236 (Nat.le_of_ble_eq_true rfl) (Nat.le_of_ble_eq_true rfl) rfl wa_int eh57 (Nat.le_of_ble_eq_true rfl) fc_20 (Nat.le_of_ble_eq_true rfl) (Nat.le_of_ble_eq_true rfl) newa_20 ?_
  refine WP.cs (cl9 := 29) (sl9 := 74742) rfl rfl ?_
  obtain ⟨h58, eh58, H⟩ := ob H
  refine WP.vR d_X8_init_238 gf_X8_95 rfl rfl rfl (x := (some (hz h56))) (fun _ => rfl) rfl rfl eh58 ?_
  refine WP.aload_n d_X8_init_241 0 rfl ?_
  refine WP.iconst d_X8_init_242 ki_3 ?_
  obtain ⟨h59, eh59, H⟩ := ob H
  refine WP.newarr (c := 23) d_X8_init_243 (Nat.le_of_ble_eq_true rfl) (Nat.le_of_ble_eq_true rfl) rfl wa_boolean eh59 (Nat.le_of_ble_eq_true rfl) fc_23 (Nat.le_of_ble_eq_true rfl) (Nat.le_of_ble_eq_true rfl) newa_23 ?_
  refine WP.cs (cl9 := 30) (sl9 := 74745) rfl rfl ?_
  obtain ⟨h60, eh60, H⟩ := ob H
  refine WP.vR d_X8_init_245 gf_X8_98 rfl rfl rfl (x := (some (hz h58))) (fun _ => rfl) rfl rfl eh60 ?_
  refine WP.aload_n d_X8_init_248 0 rfl ?_
  obtain ⟨x61, ex61, H⟩ := ob H
  refine WP.fR d_X8_init_249 gf_X8_20 (fun _ => rfl) ex61 ?_
  refine WP.iconst d_X8_init_252 ki_0 ?_
  refine WP.iconst d_X8_init_253 ki_m1 ?_
  obtain ⟨h62, eh62, H⟩ := ob H
  refine WP.ias d_X8_init_254 eh62 ?_
  cases H
  exact WP.return_ d_X8_init_255 rfl (Nat.le_of_ble_eq_true rfl) (Nat.le_of_ble_eq_true rfl)

set_option maxRecDepth 20000 in
set_option maxHeartbeats 4000000 in
theorem ok_X8_in (V : EV) {h : HA} {l0 : Int32} {l1 : Int32} {l2 : Int32} {r : Int32} (H : X8_in l0 l1 l2 = some r) : MG V M_X8_in [.int l0, .int l1, .int l2] h (some (.int r)) h := by
  unfold X8_in at H
  refine MG.of (lv0 := [(0, .int l0), (1, .int l1), (2, .int l2)]) pn_X8 rfl (Nat.le_of_ble_eq_true rfl) ?_
  refine WP.iload_n d_X8_in_0 0 rfl ?_
  refine WP.iload_n d_X8_in_1 1 rfl ?_
  rcases oj H with ⟨hc, H⟩ | ⟨hc, H⟩
  · refine WP.icmp_lt_t d_X8_in_2 hc ?_
    refine WP.iconst d_X8_in_14 ki_0 ?_
    cases H
    exact WP.ireturn d_X8_in_15 rfl rfl (Nat.le_of_ble_eq_true rfl) (Nat.le_of_ble_eq_true rfl)
  · refine WP.icmp_lt_f d_X8_in_2 hc ?_
    refine WP.iload_n d_X8_in_5 0 rfl ?_
    refine WP.iload_n d_X8_in_6 2 rfl ?_
    rcases oj H with ⟨hc, H⟩ | ⟨hc, H⟩
    · refine WP.icmp_gt_t d_X8_in_7 hc ?_
      refine WP.iconst d_X8_in_14 ki_0 ?_
      cases H
      exact WP.ireturn d_X8_in_15 rfl rfl (Nat.le_of_ble_eq_true rfl) (Nat.le_of_ble_eq_true rfl)
    · refine WP.icmp_gt_f d_X8_in_7 hc ?_
      refine WP.iconst d_X8_in_10 ki_1 ?_
      refine WP.goto d_X8_in_11 ?_
      cases H
      exact WP.ireturn d_X8_in_15 rfl rfl (Nat.le_of_ble_eq_true rfl) (Nat.le_of_ble_eq_true rfl)

set_option maxRecDepth 20000 in
set_option maxHeartbeats 4000000 in
theorem ok_X8_has (V : EV) {h : HA} {l0 : Int32} {l1 : Int32} {r : Int32} (H : X8_has l0 l1 = some r) : MG V M_X8_has [.int l0, .int l1] h (some (.int r)) h := by
  unfold X8_has at H
  refine MG.of (lv0 := [(0, .int l0), (1, .int l1)]) pn_X8 rfl (Nat.le_of_ble_eq_true rfl) ?_
  refine WP.iload_n d_X8_has_0 0 rfl ?_
  refine WP.iload_n d_X8_has_1 1 rfl ?_
  refine WP.ishr d_X8_has_2 ?_
  refine WP.iconst d_X8_has_3 ki_1 ?_
  refine WP.iand d_X8_has_4 ?_
  refine WP.iconst d_X8_has_5 ki_1 ?_
  rcases oj H with ⟨hc, H⟩ | ⟨hc, H⟩
  · refine WP.icmp_ne_t d_X8_has_6 hc ?_
    refine WP.iconst d_X8_has_9 ki_1 ?_
    refine WP.goto d_X8_has_10 ?_
    cases H
    exact WP.ireturn d_X8_has_14 rfl rfl (Nat.le_of_ble_eq_true rfl) (Nat.le_of_ble_eq_true rfl)
  · refine WP.icmp_ne_f d_X8_has_6 hc ?_
    refine WP.iconst d_X8_has_13 ki_0 ?_
    cases H
    exact WP.ireturn d_X8_has_14 rfl rfl (Nat.le_of_ble_eq_true rfl) (Nat.le_of_ble_eq_true rfl)

set_option maxRecDepth 20000 in
set_option maxHeartbeats 4000000 in
theorem okl_X8_ones_L4 (V : EV) {vF : Option Value} {hF : HA} {h : HA} {l0 : Int32} (n : Nat) : ∀ {l1 : Int32} {l2 : Int32} {r1 : Int32}, (H : X8_ones_L4 l0 n l1 l2 = some r1) → (K : WP V M_X8_ones 32 [(1, .int r1)] [] h 0 0 vF hF) → WP V M_X8_ones 4 [(0, .int l0), (1, .int l1), (2, .int l2)] [] h 0 0 vF hF := by
  induction n with
  | zero =>
    intro l1 l2 r1 H K
    rw [X8_ones_L4] at H
    cases H
  | succ n ih =>
    intro l1 l2 r1 H K
    rw [X8_ones_L4] at H
    refine WP.iload_n d_X8_ones_4 2 rfl ?_
    refine WP.bipush d_X8_ones_5 kb_16 ?_
    rcases oj H with ⟨hc, H⟩ | ⟨hc, H⟩
    · refine WP.icmp_ge_t d_X8_ones_7 hc ?_
      refine WP.iload_n d_X8_ones_10 1 rfl ?_
      refine WP.iload_n d_X8_ones_11 0 rfl ?_
      refine WP.iload_n d_X8_ones_12 2 rfl ?_
      obtain ⟨x2, e1, H⟩ := ob H
      refine WP.cS (As := [.int l0, .int l2]) (st := [.int l1]) (st9 := [.int x2, .int l1]) (cl9 := 0) (sl9 := 0) d_X8_ones_13 (ok_X8_has V (h := h) e1) tv_X8_has ts_X8_has lk_X8_106 r_X8_ones_X8_has rfl rfl (Nat.le_of_ble_eq_true rfl) rfl rfl rfl ?_
      rcases oj H with ⟨hc, H⟩ | ⟨hc, H⟩
      · refine WP.if_eq_t d_X8_ones_16 hc ?_
        refine WP.iconst d_X8_ones_23 ki_0 ?_
        refine WP.iadd d_X8_ones_24 ?_
        refine WP.istore_n (lv9 := [(1, .int (l1 + 0)), (0, .int l0), (2, .int l2)]) d_X8_ones_25 (Nat.le_of_ble_eq_true rfl) rfl ?_
        refine WP.iinc (lv9 := [(2, .int (l2 + 1)), (1, .int (l1 + 0)), (0, .int l0)]) d_X8_ones_26 2 rfl ki_1 (Nat.le_of_ble_eq_true rfl) rfl ?_
        refine WP.goto d_X8_ones_29 ?_
        refine WP.sub [2, 1, 0] (lv' := [(0, .int l0), (1, .int (l1 + 0)), (2, .int (l2 + 1))]) rfl ?_
        exact ih H K
      · refine WP.if_eq_f d_X8_ones_16 hc ?_
        refine WP.iconst d_X8_ones_19 ki_1 ?_
        refine WP.goto d_X8_ones_20 ?_
        refine WP.iadd d_X8_ones_24 ?_
        refine WP.istore_n (lv9 := [(1, .int (l1 + 1)), (0, .int l0), (2, .int l2)]) d_X8_ones_25 (Nat.le_of_ble_eq_true rfl) rfl ?_
        refine WP.iinc (lv9 := [(2, .int (l2 + 1)), (1, .int (l1 + 1)), (0, .int l0)]) d_X8_ones_26 2 rfl ki_1 (Nat.le_of_ble_eq_true rfl) rfl ?_
        refine WP.goto d_X8_ones_29 ?_
        refine WP.sub [2, 1, 0] (lv' := [(0, .int l0), (1, .int (l1 + 1)), (2, .int (l2 + 1))]) rfl ?_
        exact ih H K
    · refine WP.icmp_ge_f d_X8_ones_7 hc ?_
      cases H
      exact WP.sub [1] rfl K

set_option maxRecDepth 20000 in
set_option maxHeartbeats 4000000 in
theorem ok_X8_ones (V : EV) {h : HA} {l0 : Int32} {r : Int32} (H : X8_ones l0 = some r) : MG V M_X8_ones [.int l0] h (some (.int r)) h := by
  unfold X8_ones at H
  refine MG.of (lv0 := [(0, .int l0)]) pn_X8 rfl (Nat.le_of_ble_eq_true rfl) ?_
  refine WP.iconst d_X8_ones_0 ki_0 ?_
  refine WP.istore_n (lv9 := [(1, .int 0), (0, .int l0)]) d_X8_ones_1 (Nat.le_of_ble_eq_true rfl) rfl ?_
  refine WP.iconst d_X8_ones_2 ki_0 ?_
  refine WP.istore_n (lv9 := [(2, .int 0), (1, .int 0), (0, .int l0)]) d_X8_ones_3 (Nat.le_of_ble_eq_true rfl) rfl ?_
  obtain ⟨y4, e3, H⟩ := ob H
  refine WP.sub [2, 1, 0] (lv' := [(0, .int l0), (1, .int 0), (2, .int 0)]) rfl ?_
  refine okl_X8_ones_L4 V _ e3 ?_
  refine WP.iload_n d_X8_ones_32 0 rfl ?_
  cases H
  exact WP.ireturn d_X8_ones_33 rfl rfl (Nat.le_of_ble_eq_true rfl) (Nat.le_of_ble_eq_true rfl)

set_option maxRecDepth 20000 in
set_option maxHeartbeats 4000000 in
theorem ok_X8_greater (V : EV) {h : HA} {l0 : Int32} {l1 : Int32} {r : Int32} (H : X8_greater l0 l1 = some r) : MG V M_X8_greater [.int l0, .int l1] h (some (.int r)) h := by
  unfold X8_greater at H
  refine MG.of (lv0 := [(0, .int l0), (1, .int l1)]) pn_X8 rfl (Nat.le_of_ble_eq_true rfl) ?_
  refine WP.iload_n d_X8_greater_0 0 rfl ?_
  refine WP.iload_n d_X8_greater_1 1 rfl ?_
  rcases oj H with ⟨hc, H⟩ | ⟨hc, H⟩
  · refine WP.icmp_le_t d_X8_greater_2 hc ?_
    refine WP.iload_n d_X8_greater_5 0 rfl ?_
    refine WP.goto d_X8_greater_6 ?_
    cases H
    exact WP.ireturn d_X8_greater_10 rfl rfl (Nat.le_of_ble_eq_true rfl) (Nat.le_of_ble_eq_true rfl)
  · refine WP.icmp_le_f d_X8_greater_2 hc ?_
    refine WP.iload_n d_X8_greater_9 1 rfl ?_
    cases H
    exact WP.ireturn d_X8_greater_10 rfl rfl (Nat.le_of_ble_eq_true rfl) (Nat.le_of_ble_eq_true rfl)

set_option maxRecDepth 20000 in
set_option maxHeartbeats 4000000 in
theorem okl_X8_copyRow_L3 (V : EV) {vF : Option Value} {hF : HA} {l0 : Nat} {l1 : Int32} {l2 : Int32} {l3 : Int32} (n : Nat) : ∀ {h : HA} {l4 : Int32} {hR : HA}, (H : X8_copyRow_L3 l0 l1 l2 l3 n h l4 = some hR) → (K : WP V M_X8_copyRow 31 [] [] hR 0 0 vF hF) → WP V M_X8_copyRow 3 [(0, .ref l0), (1, .int l1), (2, .int l2), (3, .int l3), (4, .int l4)] [] h 0 0 vF hF := by
  induction n with
  | zero =>
    intro h l4 hR H K
    rw [X8_copyRow_L3] at H
    cases H
  | succ n ih =>
    intro h l4 hR H K
    rw [X8_copyRow_L3] at H
    refine WP.iload d_X8_copyRow_3 4 rfl ?_
    refine WP.iload_n d_X8_copyRow_5 1 rfl ?_
    rcases oj H with ⟨hc, H⟩ | ⟨hc, H⟩
    · refine WP.icmp_ge_t d_X8_copyRow_6 hc ?_
      refine WP.aload_n d_X8_copyRow_9 0 rfl ?_
      refine WP.iload_n d_X8_copyRow_10 1 rfl ?_
      refine WP.iload_n d_X8_copyRow_11 3 rfl ?_
      refine WP.imul d_X8_copyRow_12 ?_
      refine WP.iload d_X8_copyRow_13 4 rfl ?_
      refine WP.iadd d_X8_copyRow_15 ?_
      refine WP.aload_n d_X8_copyRow_16 0 rfl ?_
      refine WP.iload_n d_X8_copyRow_17 1 rfl ?_
      refine WP.iload_n d_X8_copyRow_18 2 rfl ?_
      refine WP.imul d_X8_copyRow_19 ?_
      refine WP.iload d_X8_copyRow_20 4 rfl ?_
      refine WP.iadd d_X8_copyRow_22 ?_
      obtain ⟨x1, ex1, H⟩ := ob H
      refine WP.iald d_X8_copyRow_23 ex1 ?_
      obtain ⟨h2, eh2, H⟩ := ob H
      refine WP.ias d_X8_copyRow_24 eh2 ?_
      refine WP.iinc (lv9 := [(4, .int (l4 + 1)), (0, .ref l0), (1, .int l1), (2, .int l2), (3, .int l3)]) d_X8_copyRow_25 4 rfl ki_1 (Nat.le_of_ble_eq_true rfl) rfl ?_
      refine WP.goto d_X8_copyRow_28 ?_
      refine WP.sub [1, 2, 3, 4, 0] (lv' := [(0, .ref l0), (1, .int l1), (2, .int l2), (3, .int l3), (4, .int (l4 + 1))]) rfl ?_
      exact ih H K
    · refine WP.icmp_ge_f d_X8_copyRow_6 hc ?_
      cases H
      exact WP.sub [] rfl K

set_option maxRecDepth 20000 in
set_option maxHeartbeats 4000000 in
theorem ok_X8_copyRow (V : EV) {h : HA} {l0 : Nat} {l1 : Int32} {l2 : Int32} {l3 : Int32} {hR : HA} (H : X8_copyRow h l0 l1 l2 l3 = some hR) : MG V M_X8_copyRow [.ref l0, .int l1, .int l2, .int l3] h none hR := by
  unfold X8_copyRow at H
  refine MG.of (lv0 := [(0, .ref l0), (1, .int l1), (2, .int l2), (3, .int l3)]) pn_X8 rfl (Nat.le_of_ble_eq_true rfl) ?_
  refine WP.iconst d_X8_copyRow_0 ki_0 ?_
  refine WP.istore (lv9 := [(4, .int 0), (0, .ref l0), (1, .int l1), (2, .int l2), (3, .int l3)]) d_X8_copyRow_1 (Nat.le_of_ble_eq_true rfl) rfl ?_
  obtain ⟨h4, e3, H⟩ := ob H
  refine WP.sub [1, 2, 3, 4, 0] (lv' := [(0, .ref l0), (1, .int l1), (2, .int l2), (3, .int l3), (4, .int 0)]) rfl ?_
  refine okl_X8_copyRow_L3 V _ e3 ?_
  cases H
  exact WP.return_ d_X8_copyRow_31 rfl (Nat.le_of_ble_eq_true rfl) (Nat.le_of_ble_eq_true rfl)

set_option maxRecDepth 20000 in
set_option maxHeartbeats 4000000 in
theorem okl_X8_copyAll_L2 (V : EV) {vF : Option Value} {hF : HA} {t : Nat} {l1 : Int32} {l2 : Int32} (n : Nat) : ∀ {h : HA} {l3 : Int32} {hR : HA}, (H : X8_copyAll_L2 t l1 l2 n h l3 = some hR) → (K : WP V M_X8_copyAll 39 [(0, .ref t), (1, .int l1), (2, .int l2)] [] hR 0 0 vF hF) → WP V M_X8_copyAll 2 [(0, .ref t), (1, .int l1), (2, .int l2), (3, .int l3)] [] h 0 0 vF hF := by
  induction n with
  | zero =>
    intro h l3 hR H K
    rw [X8_copyAll_L2] at H
    cases H
  | succ n ih =>
    intro h l3 hR H K
    rw [X8_copyAll_L2] at H
    refine WP.iload_n d_X8_copyAll_2 3 rfl ?_
    refine WP.sipush d_X8_copyAll_3 ks_600 ?_
    rcases oj H with ⟨hc, H⟩ | ⟨hc, H⟩
    · refine WP.icmp_ge_t d_X8_copyAll_6 hc ?_
      refine WP.aload_n d_X8_copyAll_9 0 rfl ?_
      obtain ⟨x1, ex1, H⟩ := ob H
      refine WP.fR d_X8_copyAll_10 gf_X8_7 (fun _ => rfl) ex1 ?_
      refine WP.sipush d_X8_copyAll_13 ks_600 ?_
      refine WP.iload_n d_X8_copyAll_16 2 rfl ?_
      refine WP.imul d_X8_copyAll_17 ?_
      refine WP.iload_n d_X8_copyAll_18 3 rfl ?_
      refine WP.iadd d_X8_copyAll_19 ?_
      refine WP.aload_n d_X8_copyAll_20 0 rfl ?_
      obtain ⟨x2, ex2, H⟩ := ob H
      refine WP.fR d_X8_copyAll_21 gf_X8_7 (fun _ => rfl) ex2 ?_
      refine WP.sipush d_X8_copyAll_24 ks_600 ?_
      refine WP.iload_n d_X8_copyAll_27 1 rfl ?_
      refine WP.imul d_X8_copyAll_28 ?_
      refine WP.iload_n d_X8_copyAll_29 3 rfl ?_
      refine WP.iadd d_X8_copyAll_30 ?_
      obtain ⟨x3, ex3, H⟩ := ob H
      refine WP.bald d_X8_copyAll_31 ex3 ?_
      obtain ⟨h4, eh4, H⟩ := ob H
      refine WP.bas d_X8_copyAll_32 eh4 ?_
      refine WP.iinc (lv9 := [(3, .int (l3 + 1)), (0, .ref t), (1, .int l1), (2, .int l2)]) d_X8_copyAll_33 3 rfl ki_1 (Nat.le_of_ble_eq_true rfl) rfl ?_
      refine WP.goto d_X8_copyAll_36 ?_
      refine WP.sub [1, 2, 3, 0] (lv' := [(0, .ref t), (1, .int l1), (2, .int l2), (3, .int (l3 + 1))]) rfl ?_
      exact ih H K
    · refine WP.icmp_ge_f d_X8_copyAll_6 hc ?_
      cases H
      exact WP.sub [0, 1, 2] rfl K

set_option maxRecDepth 20000 in
set_option maxHeartbeats 4000000 in
theorem ok_X8_copyAll (V : EV) {h : HA} {t : Nat} {l1 : Int32} {l2 : Int32} {hR : HA} (H : X8_copyAll h t l1 l2 = some hR) : MG V M_X8_copyAll [.ref t, .int l1, .int l2] h none hR := by
  unfold X8_copyAll at H
  obtain ⟨_, H⟩ := oc H
  refine MG.of (lv0 := [(0, .ref t), (1, .int l1), (2, .int l2)]) pn_X8 rfl (Nat.le_of_ble_eq_true rfl) ?_
  refine WP.iconst d_X8_copyAll_0 ki_0 ?_
  refine WP.istore_n (lv9 := [(3, .int 0), (0, .ref t), (1, .int l1), (2, .int l2)]) d_X8_copyAll_1 (Nat.le_of_ble_eq_true rfl) rfl ?_
  obtain ⟨h6, e5, H⟩ := ob H
  refine WP.sub [1, 2, 3, 0] (lv' := [(0, .ref t), (1, .int l1), (2, .int l2), (3, .int 0)]) rfl ?_
  refine okl_X8_copyAll_L2 V _ e5 ?_
  refine WP.aload_n d_X8_copyAll_39 0 rfl ?_
  obtain ⟨x7, ex7, H⟩ := ob H
  refine WP.fR d_X8_copyAll_40 gf_X8_13 (fun _ => rfl) ex7 ?_
  refine WP.iconst d_X8_copyAll_43 ki_1 ?_
  refine WP.iload_n d_X8_copyAll_44 1 rfl ?_
  refine WP.iload_n d_X8_copyAll_45 2 rfl ?_
  obtain ⟨h9, e8, H⟩ := ob H
  refine WP.cS (As := [.ref x7, .int 1, .int l1, .int l2]) (st := []) (st9 := []) (cl9 := 0) (sl9 := 0) d_X8_copyAll_46 (ok_X8_copyRow V e8) tv_X8_copyRow ts_X8_copyRow lk_X8_110 r_X8_copyAll_X8_copyRow rfl rfl (Nat.le_of_ble_eq_true rfl) rfl rfl rfl ?_
  refine WP.aload_n d_X8_copyAll_49 0 rfl ?_
  obtain ⟨x10, ex10, H⟩ := ob H
  refine WP.fR d_X8_copyAll_50 gf_X8_17 (fun _ => rfl) ex10 ?_
  refine WP.iconst d_X8_copyAll_53 ki_1 ?_
  refine WP.iload_n d_X8_copyAll_54 1 rfl ?_
  refine WP.iload_n d_X8_copyAll_55 2 rfl ?_
  obtain ⟨h12, e11, H⟩ := ob H
  refine WP.cS (As := [.ref x10, .int 1, .int l1, .int l2]) (st := []) (st9 := []) (cl9 := 0) (sl9 := 0) d_X8_copyAll_56 (ok_X8_copyRow V e11) tv_X8_copyRow ts_X8_copyRow lk_X8_110 r_X8_copyAll_X8_copyRow rfl rfl (Nat.le_of_ble_eq_true rfl) rfl rfl rfl ?_
  refine WP.aload_n d_X8_copyAll_59 0 rfl ?_
  obtain ⟨x13, ex13, H⟩ := ob H
  refine WP.fR d_X8_copyAll_60 gf_X8_20 (fun _ => rfl) ex13 ?_
  refine WP.iconst d_X8_copyAll_63 ki_1 ?_
  refine WP.iload_n d_X8_copyAll_64 1 rfl ?_
  refine WP.iload_n d_X8_copyAll_65 2 rfl ?_
  obtain ⟨h15, e14, H⟩ := ob H
  refine WP.cS (As := [.ref x13, .int 1, .int l1, .int l2]) (st := []) (st9 := []) (cl9 := 0) (sl9 := 0) d_X8_copyAll_66 (ok_X8_copyRow V e14) tv_X8_copyRow ts_X8_copyRow lk_X8_110 r_X8_copyAll_X8_copyRow rfl rfl (Nat.le_of_ble_eq_true rfl) rfl rfl rfl ?_
  refine WP.aload_n d_X8_copyAll_69 0 rfl ?_
  obtain ⟨x16, ex16, H⟩ := ob H
  refine WP.fR d_X8_copyAll_70 gf_X8_23 (fun _ => rfl) ex16 ?_
  refine WP.iconst d_X8_copyAll_73 ki_4 ?_
  refine WP.iload_n d_X8_copyAll_74 1 rfl ?_
  refine WP.iload_n d_X8_copyAll_75 2 rfl ?_
  obtain ⟨h18, e17, H⟩ := ob H
  refine WP.cS (As := [.ref x16, .int 4, .int l1, .int l2]) (st := []) (st9 := []) (cl9 := 0) (sl9 := 0) d_X8_copyAll_76 (ok_X8_copyRow V e17) tv_X8_copyRow ts_X8_copyRow lk_X8_110 r_X8_copyAll_X8_copyRow rfl rfl (Nat.le_of_ble_eq_true rfl) rfl rfl rfl ?_
  refine WP.aload_n d_X8_copyAll_79 0 rfl ?_
  obtain ⟨x19, ex19, H⟩ := ob H
  refine WP.fR d_X8_copyAll_80 gf_X8_26 (fun _ => rfl) ex19 ?_
  refine WP.sipush d_X8_copyAll_83 ks_212 ?_
  refine WP.iload_n d_X8_copyAll_86 1 rfl ?_
  refine WP.iload_n d_X8_copyAll_87 2 rfl ?_
  obtain ⟨h21, e20, H⟩ := ob H
  refine WP.cS (As := [.ref x19, .int 212, .int l1, .int l2]) (st := []) (st9 := []) (cl9 := 0) (sl9 := 0) d_X8_copyAll_88 (ok_X8_copyRow V e20) tv_X8_copyRow ts_X8_copyRow lk_X8_110 r_X8_copyAll_X8_copyRow rfl rfl (Nat.le_of_ble_eq_true rfl) rfl rfl rfl ?_
  refine WP.aload_n d_X8_copyAll_91 0 rfl ?_
  obtain ⟨x22, ex22, H⟩ := ob H
  refine WP.fR d_X8_copyAll_92 gf_X8_29 (fun _ => rfl) ex22 ?_
  refine WP.sipush d_X8_copyAll_95 ks_242 ?_
  refine WP.iload_n d_X8_copyAll_98 1 rfl ?_
  refine WP.iload_n d_X8_copyAll_99 2 rfl ?_
  obtain ⟨h24, e23, H⟩ := ob H
  refine WP.cS (As := [.ref x22, .int 242, .int l1, .int l2]) (st := []) (st9 := []) (cl9 := 0) (sl9 := 0) d_X8_copyAll_100 (ok_X8_copyRow V e23) tv_X8_copyRow ts_X8_copyRow lk_X8_110 r_X8_copyAll_X8_copyRow rfl rfl (Nat.le_of_ble_eq_true rfl) rfl rfl rfl ?_
  refine WP.aload_n d_X8_copyAll_103 0 rfl ?_
  obtain ⟨x25, ex25, H⟩ := ob H
  refine WP.fR d_X8_copyAll_104 gf_X8_32 (fun _ => rfl) ex25 ?_
  refine WP.bipush d_X8_copyAll_107 kb_50 ?_
  refine WP.iload_n d_X8_copyAll_109 1 rfl ?_
  refine WP.iload_n d_X8_copyAll_110 2 rfl ?_
  obtain ⟨h27, e26, H⟩ := ob H
  refine WP.cS (As := [.ref x25, .int 50, .int l1, .int l2]) (st := []) (st9 := []) (cl9 := 0) (sl9 := 0) d_X8_copyAll_111 (ok_X8_copyRow V e26) tv_X8_copyRow ts_X8_copyRow lk_X8_110 r_X8_copyAll_X8_copyRow rfl rfl (Nat.le_of_ble_eq_true rfl) rfl rfl rfl ?_
  refine WP.aload_n d_X8_copyAll_114 0 rfl ?_
  obtain ⟨x28, ex28, H⟩ := ob H
  refine WP.fR d_X8_copyAll_115 gf_X8_35 (fun _ => rfl) ex28 ?_
  refine WP.bipush d_X8_copyAll_118 kb_50 ?_
  refine WP.iload_n d_X8_copyAll_120 1 rfl ?_
  refine WP.iload_n d_X8_copyAll_121 2 rfl ?_
  obtain ⟨h30, e29, H⟩ := ob H
  refine WP.cS (As := [.ref x28, .int 50, .int l1, .int l2]) (st := []) (st9 := []) (cl9 := 0) (sl9 := 0) d_X8_copyAll_122 (ok_X8_copyRow V e29) tv_X8_copyRow ts_X8_copyRow lk_X8_110 r_X8_copyAll_X8_copyRow rfl rfl (Nat.le_of_ble_eq_true rfl) rfl rfl rfl ?_
  cases H
  exact WP.return_ d_X8_copyAll_125 rfl (Nat.le_of_ble_eq_true rfl) (Nat.le_of_ble_eq_true rfl)

set_option maxRecDepth 20000 in
set_option maxHeartbeats 4000000 in
theorem ok_X8_is (V : EV) {h : HA} {t : Nat} {l1 : Int32} {l2 : Int32} {r : Int32} (H : X8_is h t l1 l2 = some r) : MG V M_X8_is [.ref t, .int l1, .int l2] h (some (.int r)) h := by
  unfold X8_is at H
  obtain ⟨_, H⟩ := oc H
  refine MG.of (lv0 := [(0, .ref t), (1, .int l1), (2, .int l2)]) pn_X8 rfl (Nat.le_of_ble_eq_true rfl) ?_
  refine WP.iload_n d_X8_is_0 2 rfl ?_
  refine WP.iconst d_X8_is_1 ki_0 ?_
  refine WP.aload_n d_X8_is_2 0 rfl ?_
  obtain ⟨x1, ex1, H⟩ := ob H
  refine WP.fR d_X8_is_3 gf_X8_23 (fun _ => rfl) ex1 ?_
  refine WP.iload_n d_X8_is_6 1 rfl ?_
  obtain ⟨x2, ex2, H⟩ := ob H
  refine WP.iald d_X8_is_7 ex2 ?_
  refine WP.iconst d_X8_is_8 ki_1 ?_
  refine WP.isub d_X8_is_9 ?_
  obtain ⟨x4, e3, H⟩ := ob H
  refine WP.cS (As := [.int l2, .int 0, .int (x2 - 1)]) (st := []) (st9 := [.int x4]) (cl9 := 0) (sl9 := 0) d_X8_is_10 (ok_X8_in V (h := h) e3) tv_X8_in ts_X8_in lk_X8_114 r_X8_is_X8_in rfl rfl (Nat.le_of_ble_eq_true rfl) rfl rfl rfl ?_
  obtain ⟨x5, ex5, H⟩ := ob H
  obtain ⟨rfl, hnx5⟩ := bz_sp ex5
  cases H
  exact WP.ireturn d_X8_is_13 rfl hnx5 (Nat.le_of_ble_eq_true rfl) (Nat.le_of_ble_eq_true rfl)

set_option maxRecDepth 20000 in
set_option maxHeartbeats 4000000 in
theorem okl_X8_four_L3 (V : EV) {vF : Option Value} {hF : HA} {t : Nat} {l1 : Int32} (n : Nat) : ∀ {h : HA} {l2 : Int32} {hR : HA}, (H : X8_four_L3 t l1 n h l2 = some hR) → (K : WP V M_X8_four 38 [] [] hR 0 0 vF hF) → WP V M_X8_four 3 [(0, .ref t), (1, .int l1), (2, .int l2)] [] h 0 0 vF hF := by
  induction n with
  | zero =>
    intro h l2 hR H K
    rw [X8_four_L3] at H
    cases H
  | succ n ih =>
    intro h l2 hR H K
    rw [X8_four_L3] at H
    refine WP.iload_n d_X8_four_3 2 rfl ?_
    rcases oj H with ⟨hc, H⟩ | ⟨hc, H⟩
    · refine WP.if_lt_t d_X8_four_4 hc ?_
      cases H
      exact WP.sub [] rfl K
    · refine WP.if_lt_f d_X8_four_4 hc ?_
      refine WP.aload_n d_X8_four_7 0 rfl ?_
      obtain ⟨x1, ex1, H⟩ := ob H
      refine WP.fR d_X8_four_8 gf_X8_7 (fun _ => rfl) ex1 ?_
      refine WP.aload_n d_X8_four_11 0 rfl ?_
      obtain ⟨x2, ex2, H⟩ := ob H
      refine WP.fR d_X8_four_12 gf_X8_13 (fun _ => rfl) ex2 ?_
      refine WP.iconst d_X8_four_15 ki_0 ?_
      obtain ⟨x3, ex3, H⟩ := ob H
      refine WP.iald d_X8_four_16 ex3 ?_
      refine WP.iload_n d_X8_four_17 1 rfl ?_
      refine WP.iload_n d_X8_four_18 2 rfl ?_
      refine WP.ishr d_X8_four_19 ?_
      refine WP.i2b d_X8_four_20 ?_
      obtain ⟨h4, eh4, H⟩ := ob H
      refine WP.bas d_X8_four_21 eh4 ?_
      refine WP.aload_n d_X8_four_22 0 rfl ?_
      obtain ⟨x5, ex5, H⟩ := ob H
      refine WP.fR d_X8_four_23 gf_X8_13 (fun _ => rfl) ex5 ?_
      refine WP.iconst d_X8_four_26 ki_0 ?_
      refine WP.dup2 d_X8_four_27 rfl rfl ?_
      obtain ⟨x6, ex6, H⟩ := ob H
      refine WP.iald d_X8_four_28 ex6 ?_
      refine WP.iconst d_X8_four_29 ki_1 ?_
      refine WP.iadd d_X8_four_30 ?_
      obtain ⟨h7, eh7, H⟩ := ob H
      refine WP.ias d_X8_four_31 eh7 ?_
      refine WP.iinc (lv9 := [(2, .int (l2 + (-8))), (0, .ref t), (1, .int l1)]) d_X8_four_32 2 rfl ki_m8 (Nat.le_of_ble_eq_true rfl) rfl ?_
      refine WP.goto d_X8_four_35 ?_
      refine WP.sub [1, 2, 0] (lv' := [(0, .ref t), (1, .int l1), (2, .int (l2 + (-8)))]) rfl ?_
      exact ih H K

set_option maxRecDepth 20000 in
set_option maxHeartbeats 4000000 in
theorem ok_X8_four (V : EV) {h : HA} {t : Nat} {l1 : Int32} {hR : HA} (H : X8_four h t l1 = some hR) : MG V M_X8_four [.ref t, .int l1] h none hR := by
  unfold X8_four at H
  obtain ⟨_, H⟩ := oc H
  refine MG.of (lv0 := [(0, .ref t), (1, .int l1)]) pn_X8 rfl (Nat.le_of_ble_eq_true rfl) ?_
  refine WP.bipush d_X8_four_0 kb_24 ?_
  refine WP.istore_n (lv9 := [(2, .int 24), (0, .ref t), (1, .int l1)]) d_X8_four_2 (Nat.le_of_ble_eq_true rfl) rfl ?_
  obtain ⟨h9, e8, H⟩ := ob H
  refine WP.sub [1, 2, 0] (lv' := [(0, .ref t), (1, .int l1), (2, .int 24)]) rfl ?_
  refine okl_X8_four_L3 V _ e8 ?_
  cases H
  exact WP.return_ d_X8_four_38 rfl (Nat.le_of_ble_eq_true rfl) (Nat.le_of_ble_eq_true rfl)

set_option maxRecDepth 20000 in
set_option maxHeartbeats 4000000 in
theorem ok_X8_feed (V : EV) {h : HA} {t : Nat} {l1 : Int32} {l2 : Int32} {l3 : Int32} {l4 : Int32} {l5 : Int32} {r : Int32} {hR : HA} (H : X8_feed h t l1 l2 l3 l4 l5 = some (r, hR)) : MG V M_X8_feed [.ref t, .int l1, .int l2, .int l3, .int l4, .int l5] h (some (.int r)) hR := by
  unfold X8_feed at H
  obtain ⟨_, H⟩ := oc H
  refine MG.of (lv0 := [(0, .ref t), (1, .int l1), (2, .int l2), (3, .int l3), (4, .int l4), (5, .int l5)]) pn_X8 rfl (Nat.le_of_ble_eq_true rfl) ?_
  refine WP.aload_n d_X8_feed_0 0 rfl ?_
  refine WP.iconst d_X8_feed_1 ki_0 ?_
  obtain ⟨h1, eh1, H⟩ := ob H
  refine WP.uI d_X8_feed_2 gf_X8_102 rfl (Or.inl rfl) rfl rfl eh1 ?_
  refine WP.aload_n d_X8_feed_5 0 rfl ?_
  obtain ⟨x2, ex2, H⟩ := ob H
  refine WP.fR d_X8_feed_6 gf_X8_13 (fun _ => rfl) ex2 ?_
  refine WP.iconst d_X8_feed_9 ki_0 ?_
  obtain ⟨x3, ex3, H⟩ := ob H
  refine WP.iald d_X8_feed_10 ex3 ?_
  refine WP.bipush d_X8_feed_11 kb_20 ?_
  refine WP.iadd d_X8_feed_13 ?_
  refine WP.sipush d_X8_feed_14 ks_600 ?_
  rcases oj H with ⟨hc, H⟩ | ⟨hc, H⟩
  · refine WP.icmp_le_t d_X8_feed_17 hc ?_
    refine WP.iconst d_X8_feed_20 ki_m1 ?_
    cases H
    exact WP.ireturn d_X8_feed_21 rfl rfl (Nat.le_of_ble_eq_true rfl) (Nat.le_of_ble_eq_true rfl)
  · refine WP.icmp_le_f d_X8_feed_17 hc ?_
    refine WP.aload_n d_X8_feed_22 0 rfl ?_
    refine WP.iload_n d_X8_feed_23 1 rfl ?_
    obtain ⟨h5, e4, H⟩ := ob H
    refine WP.cV (c := 9) (As := [.int l1]) (st := []) (st9 := []) (cl9 := 0) (sl9 := 0) d_X8_feed_24 (ok_X8_four V e4) tv_X8_four ti_X8_four ts_X8_four lk_X8_118 r_X8_feed_X8_four kc_X8_four (kd_X8_four e4) rfl rfl (Nat.le_of_ble_eq_true rfl) rfl rfl rfl ?_
    refine WP.aload_n d_X8_feed_27 0 rfl ?_
    refine WP.iload_n d_X8_feed_28 2 rfl ?_
    obtain ⟨h7, e6, H⟩ := ob H
    refine WP.cV (c := 9) (As := [.int l2]) (st := []) (st9 := []) (cl9 := 0) (sl9 := 0) d_X8_feed_29 (ok_X8_four V e6) tv_X8_four ti_X8_four ts_X8_four lk_X8_118 r_X8_feed_X8_four kc_X8_four (kd_X8_four e6) rfl rfl (Nat.le_of_ble_eq_true rfl) rfl rfl rfl ?_
    refine WP.aload_n d_X8_feed_32 0 rfl ?_
    refine WP.iload_n d_X8_feed_33 3 rfl ?_
    obtain ⟨h9, e8, H⟩ := ob H
    refine WP.cV (c := 9) (As := [.int l3]) (st := []) (st9 := []) (cl9 := 0) (sl9 := 0) d_X8_feed_34 (ok_X8_four V e8) tv_X8_four ti_X8_four ts_X8_four lk_X8_118 r_X8_feed_X8_four kc_X8_four (kd_X8_four e8) rfl rfl (Nat.le_of_ble_eq_true rfl) rfl rfl rfl ?_
    refine WP.aload_n d_X8_feed_37 0 rfl ?_
    refine WP.iload d_X8_feed_38 4 rfl ?_
    obtain ⟨h11, e10, H⟩ := ob H
    refine WP.cV (c := 9) (As := [.int l4]) (st := []) (st9 := []) (cl9 := 0) (sl9 := 0) d_X8_feed_40 (ok_X8_four V e10) tv_X8_four ti_X8_four ts_X8_four lk_X8_118 r_X8_feed_X8_four kc_X8_four (kd_X8_four e10) rfl rfl (Nat.le_of_ble_eq_true rfl) rfl rfl rfl ?_
    refine WP.aload_n d_X8_feed_43 0 rfl ?_
    refine WP.iload d_X8_feed_44 5 rfl ?_
    obtain ⟨h13, e12, H⟩ := ob H
    refine WP.cV (c := 9) (As := [.int l5]) (st := []) (st9 := []) (cl9 := 0) (sl9 := 0) d_X8_feed_46 (ok_X8_four V e12) tv_X8_four ti_X8_four ts_X8_four lk_X8_118 r_X8_feed_X8_four kc_X8_four (kd_X8_four e12) rfl rfl (Nat.le_of_ble_eq_true rfl) rfl rfl rfl ?_
    refine WP.aload_n d_X8_feed_49 0 rfl ?_
    obtain ⟨x14, ex14, H⟩ := ob H
    refine WP.fR d_X8_feed_50 gf_X8_13 (fun _ => rfl) ex14 ?_
    refine WP.iconst d_X8_feed_53 ki_0 ?_
    obtain ⟨x15, ex15, H⟩ := ob H
    refine WP.iald d_X8_feed_54 ex15 ?_
    cases H
    exact WP.ireturn d_X8_feed_55 rfl rfl (Nat.le_of_ble_eq_true rfl) (Nat.le_of_ble_eq_true rfl)

set_option maxRecDepth 20000 in
set_option maxHeartbeats 4000000 in
theorem ok_X8_end (V : EV) {h : HA} {t : Nat} {l1 : Int32} {r : Int32} {hR : HA} (H : X8_end h t l1 = some (r, hR)) : MG V M_X8_end [.ref t, .int l1] h (some (.int r)) hR := by
  unfold X8_end at H
  obtain ⟨_, H⟩ := oc H
  refine MG.of (lv0 := [(0, .ref t), (1, .int l1)]) pn_X8 rfl (Nat.le_of_ble_eq_true rfl) ?_
  refine WP.aload_n d_X8_end_0 0 rfl ?_
  refine WP.iconst d_X8_end_1 ki_0 ?_
  obtain ⟨h1, eh1, H⟩ := ob H
  refine WP.uI d_X8_end_2 gf_X8_102 rfl (Or.inl rfl) rfl rfl eh1 ?_
  refine WP.iload_n d_X8_end_5 1 rfl ?_
  refine WP.iconst d_X8_end_6 ki_0 ?_
  refine WP.aload_n d_X8_end_7 0 rfl ?_
  obtain ⟨x2, ex2, H⟩ := ob H
  refine WP.fR d_X8_end_8 gf_X8_13 (fun _ => rfl) ex2 ?_
  refine WP.iconst d_X8_end_11 ki_0 ?_
  obtain ⟨x3, ex3, H⟩ := ob H
  refine WP.iald d_X8_end_12 ex3 ?_
  obtain ⟨x5, e4, H⟩ := ob H
  refine WP.cS (As := [.int l1, .int 0, .int x3]) (st := []) (st9 := [.int x5]) (cl9 := 0) (sl9 := 0) d_X8_end_13 (ok_X8_in V (h := h1) e4) tv_X8_in ts_X8_in lk_X8_114 r_X8_end_X8_in rfl rfl (Nat.le_of_ble_eq_true rfl) rfl rfl rfl ?_
  rcases oj H with ⟨hc, H⟩ | ⟨hc, H⟩
  · refine WP.if_ne_t d_X8_end_16 hc ?_
    refine WP.iconst d_X8_end_19 ki_m1 ?_
    cases H
    exact WP.ireturn d_X8_end_20 rfl rfl (Nat.le_of_ble_eq_true rfl) (Nat.le_of_ble_eq_true rfl)
  · refine WP.if_ne_f d_X8_end_16 hc ?_
    refine WP.aload_n d_X8_end_21 0 rfl ?_
    obtain ⟨x6, ex6, H⟩ := ob H
    refine WP.fR d_X8_end_22 gf_X8_13 (fun _ => rfl) ex6 ?_
    refine WP.iconst d_X8_end_25 ki_0 ?_
    refine WP.iload_n d_X8_end_26 1 rfl ?_
    obtain ⟨h7, eh7, H⟩ := ob H
    refine WP.ias d_X8_end_27 eh7 ?_
    refine WP.iload_n d_X8_end_28 1 rfl ?_
    cases H
    exact WP.ireturn d_X8_end_29 rfl rfl (Nat.le_of_ble_eq_true rfl) (Nat.le_of_ble_eq_true rfl)

set_option maxRecDepth 20000 in
set_option maxHeartbeats 4000000 in
theorem ok_X8_see (V : EV) {h : HA} {t : Nat} {r : Int32} (H : X8_see h t = some r) : MG V M_X8_see [.ref t] h (some (.int r)) h := by
  unfold X8_see at H
  obtain ⟨_, H⟩ := oc H
  refine MG.of (lv0 := [(0, .ref t)]) pn_X8 rfl (Nat.le_of_ble_eq_true rfl) ?_
  refine WP.aload_n d_X8_see_0 0 rfl ?_
  obtain ⟨x1, ex1, H⟩ := ob H
  refine WP.fI d_X8_see_1 gf_X8_122 (fun _ => rfl) ex1 ?_
  refine WP.aload_n d_X8_see_4 0 rfl ?_
  obtain ⟨x2, ex2, H⟩ := ob H
  refine WP.fI d_X8_see_5 gf_X8_125 (fun _ => rfl) ex2 ?_
  rcases oj H with ⟨hc, H⟩ | ⟨hc, H⟩
  · refine WP.icmp_ge_t d_X8_see_8 hc ?_
    refine WP.aload_n d_X8_see_11 0 rfl ?_
    obtain ⟨x3, ex3, H⟩ := ob H
    refine WP.fR d_X8_see_12 gf_X8_7 (fun _ => rfl) ex3 ?_
    refine WP.aload_n d_X8_see_15 0 rfl ?_
    obtain ⟨x4, ex4, H⟩ := ob H
    refine WP.fI d_X8_see_16 gf_X8_122 (fun _ => rfl) ex4 ?_
    obtain ⟨x5, ex5, H⟩ := ob H
    refine WP.bald d_X8_see_19 ex5 ?_
    refine WP.sipush d_X8_see_20 ks_255 ?_
    refine WP.iand d_X8_see_23 ?_
    refine WP.goto d_X8_see_24 ?_
    cases H
    exact WP.ireturn d_X8_see_28 rfl rfl (Nat.le_of_ble_eq_true rfl) (Nat.le_of_ble_eq_true rfl)
  · refine WP.icmp_ge_f d_X8_see_8 hc ?_
    refine WP.iconst d_X8_see_27 ki_m1 ?_
    cases H
    exact WP.ireturn d_X8_see_28 rfl rfl (Nat.le_of_ble_eq_true rfl) (Nat.le_of_ble_eq_true rfl)

set_option maxRecDepth 20000 in
set_option maxHeartbeats 4000000 in
theorem okl_X8_token_L0 (V : EV) {vF : Option Value} {hF : HA} {t : Nat} (n : Nat) : ∀ {h : HA} {hR : HA}, (H : X8_token_L0 t n h = some hR) → (K : WP V M_X8_token 31 [(0, .ref t)] [] hR 0 0 vF hF) → WP V M_X8_token 0 [(0, .ref t)] [] h 0 0 vF hF := by
  induction n with
  | zero =>
    intro h hR H K
    rw [X8_token_L0] at H
    cases H
  | succ n ih =>
    intro h hR H K
    rw [X8_token_L0] at H
    refine WP.aload_n d_X8_token_0 0 rfl ?_
    obtain ⟨x2, e1, H⟩ := ob H
    refine WP.cV (c := 9) (As := []) (st := []) (st9 := [.int x2]) (cl9 := 0) (sl9 := 0) d_X8_token_1 (ok_X8_see V e1) tv_X8_see ti_X8_see ts_X8_see lk_X8_128 r_X8_token_X8_see kc_X8_see (kd_X8_see e1) rfl rfl (Nat.le_of_ble_eq_true rfl) rfl rfl rfl ?_
    refine WP.bipush d_X8_token_4 kb_10 ?_
    rcases oj H with ⟨hc, H⟩ | ⟨hc, H⟩
    · refine WP.icmp_eq_t d_X8_token_6 hc ?_
      refine WP.aload_n d_X8_token_18 0 rfl ?_
      refine WP.dup d_X8_token_19 rfl ?_
      obtain ⟨x3, ex3, H⟩ := ob H
      refine WP.fI d_X8_token_20 gf_X8_122 (fun _ => rfl) ex3 ?_
      refine WP.iconst d_X8_token_23 ki_1 ?_
      refine WP.iadd d_X8_token_24 ?_
      obtain ⟨h4, eh4, H⟩ := ob H
      refine WP.uI d_X8_token_25 gf_X8_122 rfl (Or.inl rfl) rfl rfl eh4 ?_
      refine WP.goto d_X8_token_28 ?_
      refine WP.sub [0] (lv' := [(0, .ref t)]) rfl ?_
      exact ih H K
    · refine WP.icmp_eq_f d_X8_token_6 hc ?_
      refine WP.aload_n d_X8_token_9 0 rfl ?_
      obtain ⟨x6, e5, H⟩ := ob H
      refine WP.cV (c := 9) (As := []) (st := []) (st9 := [.int x6]) (cl9 := 0) (sl9 := 0) d_X8_token_10 (ok_X8_see V e5) tv_X8_see ti_X8_see ts_X8_see lk_X8_128 r_X8_token_X8_see kc_X8_see (kd_X8_see e5) rfl rfl (Nat.le_of_ble_eq_true rfl) rfl rfl rfl ?_
      refine WP.bipush d_X8_token_13 kb_32 ?_
      rcases oj H with ⟨hc, H⟩ | ⟨hc, H⟩
      · refine WP.icmp_ne_t d_X8_token_15 hc ?_
        refine WP.aload_n d_X8_token_18 0 rfl ?_
        refine WP.dup d_X8_token_19 rfl ?_
        obtain ⟨x7, ex7, H⟩ := ob H
        refine WP.fI d_X8_token_20 gf_X8_122 (fun _ => rfl) ex7 ?_
        refine WP.iconst d_X8_token_23 ki_1 ?_
        refine WP.iadd d_X8_token_24 ?_
        obtain ⟨h8, eh8, H⟩ := ob H
        refine WP.uI d_X8_token_25 gf_X8_122 rfl (Or.inl rfl) rfl rfl eh8 ?_
        refine WP.goto d_X8_token_28 ?_
        refine WP.sub [0] (lv' := [(0, .ref t)]) rfl ?_
        exact ih H K
      · refine WP.icmp_ne_f d_X8_token_15 hc ?_
        cases H
        exact WP.sub [0] rfl K

set_option maxRecDepth 20000 in
set_option maxHeartbeats 4000000 in
theorem okl_X8_token_L163 (V : EV) {vF : Option Value} {hF : HA} {t : Nat} (n : Nat) : ∀ {h : HA} {l2 : Int32} {r2 : Int32} {hR : HA}, (H : X8_token_L163 t n h l2 = some (r2, hR)) → (K : WP V M_X8_token 224 [(0, .ref t), (2, .int r2)] [] hR 0 0 vF hF) → WP V M_X8_token 163 [(0, .ref t), (2, .int l2)] [] h 0 0 vF hF := by
  induction n with
  | zero =>
    intro h l2 r2 hR H K
    rw [X8_token_L163] at H
    cases H
  | succ n ih =>
    intro h l2 r2 hR H K
    rw [X8_token_L163] at H
    refine WP.aload_n d_X8_token_163 0 rfl ?_
    obtain ⟨x28, e27, H⟩ := ob H
    refine WP.cV (c := 9) (As := []) (st := []) (st9 := [.int x28]) (cl9 := 0) (sl9 := 0) d_X8_token_164 (ok_X8_see V e27) tv_X8_see ti_X8_see ts_X8_see lk_X8_128 r_X8_token_X8_see kc_X8_see (kd_X8_see e27) rfl rfl (Nat.le_of_ble_eq_true rfl) rfl rfl rfl ?_
    refine WP.bipush d_X8_token_167 kb_48 ?_
    refine WP.bipush d_X8_token_169 kb_57 ?_
    obtain ⟨x30, e29, H⟩ := ob H
    refine WP.cS (As := [.int x28, .int 48, .int 57]) (st := []) (st9 := [.int x30]) (cl9 := 0) (sl9 := 0) d_X8_token_171 (ok_X8_in V (h := h) e29) tv_X8_in ts_X8_in lk_X8_114 r_X8_token_X8_in rfl rfl (Nat.le_of_ble_eq_true rfl) rfl rfl rfl ?_
    rcases oj H with ⟨hc, H⟩ | ⟨hc, H⟩
    · refine WP.if_eq_t d_X8_token_174 hc ?_
      cases H
      exact WP.sub [0, 1] rfl K
    · refine WP.if_eq_f d_X8_token_174 hc ?_
      refine WP.aload_n d_X8_token_177 0 rfl ?_
      refine WP.iload_n d_X8_token_178 1 rfl ?_
      refine WP.iconst d_X8_token_179 ki_2 ?_
      obtain ⟨j31, hs32, H⟩ := ob H
      have J33 : WP V M_X8_token 205 [(0, .ref t), (2, .int l2)] [.int j31, .ref t] h 0 0 vF hF := by
        obtain ⟨h38, eh38, H⟩ := ob H
        refine WP.uI d_X8_token_205 gf_X8_142 rfl (Or.inl rfl) rfl rfl eh38 ?_
        refine WP.aload_n d_X8_token_208 0 rfl ?_
        refine WP.dup d_X8_token_209 rfl ?_
        obtain ⟨x39, ex39, H⟩ := ob H
        refine WP.fI d_X8_token_210 gf_X8_122 (fun _ => rfl) ex39 ?_
        refine WP.iconst d_X8_token_213 ki_1 ?_
        refine WP.iadd d_X8_token_214 ?_
        obtain ⟨h40, eh40, H⟩ := ob H
        refine WP.uI d_X8_token_215 gf_X8_122 rfl (Or.inl rfl) rfl rfl eh40 ?_
        refine WP.iinc (lv9 := [(2, .int (l2 + 1)), (0, .ref t)]) d_X8_token_218 1 rfl ki_1 (Nat.le_of_ble_eq_true rfl) rfl ?_
        refine WP.goto d_X8_token_221 ?_
        refine WP.sub [1, 0] (lv' := [(0, .ref t), (2, .int (l2 + 1))]) rfl ?_
        exact ih H K
      rcases oj hs32 with ⟨hc, hs32⟩ | ⟨hc, hs32⟩
      · refine WP.icmp_ge_t d_X8_token_180 hc ?_
        refine WP.bipush d_X8_token_183 kb_10 ?_
        refine WP.aload_n d_X8_token_185 0 rfl ?_
        obtain ⟨x34, ex34, hs32⟩ := ob hs32
        refine WP.fI d_X8_token_186 gf_X8_142 (fun _ => rfl) ex34 ?_
        refine WP.imul d_X8_token_189 ?_
        refine WP.aload_n d_X8_token_190 0 rfl ?_
        obtain ⟨x36, e35, hs32⟩ := ob hs32
        refine WP.cV (c := 9) (As := []) (st := [.int (10 * x34), .ref t]) (st9 := [.int x36, .int (10 * x34), .ref t]) (cl9 := 0) (sl9 := 0) d_X8_token_191 (ok_X8_see V e35) tv_X8_see ti_X8_see ts_X8_see lk_X8_128 r_X8_token_X8_see kc_X8_see (kd_X8_see e35) rfl rfl (Nat.le_of_ble_eq_true rfl) rfl rfl rfl ?_
        refine WP.iadd d_X8_token_194 ?_
        refine WP.bipush d_X8_token_195 kb_48 ?_
        refine WP.isub d_X8_token_197 ?_
        refine WP.goto d_X8_token_198 ?_
        cases hs32
        exact WP.sub [0, 1] rfl J33
      · refine WP.icmp_ge_f d_X8_token_180 hc ?_
        refine WP.aload_n d_X8_token_201 0 rfl ?_
        obtain ⟨x37, ex37, hs32⟩ := ob hs32
        refine WP.fI d_X8_token_202 gf_X8_142 (fun _ => rfl) ex37 ?_
        cases hs32
        exact WP.sub [0, 1] rfl J33

set_option maxRecDepth 20000 in
set_option maxHeartbeats 4000000 in
theorem okl_X8_token_L74 (V : EV) {vF : Option Value} {hF : HA} {t : Nat} (n : Nat) : ∀ {h : HA} {l2 : Int32} {r2 : Int32} {hR : HA}, (H : X8_token_L74 t n h l2 = some (r2, hR)) → (K : WP V M_X8_token 121 [(0, .ref t), (2, .int r2)] [] hR 0 0 vF hF) → WP V M_X8_token 74 [(0, .ref t), (2, .int l2)] [] h 0 0 vF hF := by
  induction n with
  | zero =>
    intro h l2 r2 hR H K
    rw [X8_token_L74] at H
    cases H
  | succ n ih =>
    intro h l2 r2 hR H K
    rw [X8_token_L74] at H
    refine WP.aload_n d_X8_token_74 0 rfl ?_
    obtain ⟨x47, e46, H⟩ := ob H
    refine WP.cV (c := 9) (As := []) (st := []) (st9 := [.int x47]) (cl9 := 0) (sl9 := 0) d_X8_token_75 (ok_X8_see V e46) tv_X8_see ti_X8_see ts_X8_see lk_X8_128 r_X8_token_X8_see kc_X8_see (kd_X8_see e46) rfl rfl (Nat.le_of_ble_eq_true rfl) rfl rfl rfl ?_
    refine WP.bipush d_X8_token_78 kb_97 ?_
    refine WP.bipush d_X8_token_80 kb_122 ?_
    obtain ⟨x49, e48, H⟩ := ob H
    refine WP.cS (As := [.int x47, .int 97, .int 122]) (st := []) (st9 := [.int x49]) (cl9 := 0) (sl9 := 0) d_X8_token_82 (ok_X8_in V (h := h) e48) tv_X8_in ts_X8_in lk_X8_114 r_X8_token_X8_in rfl rfl (Nat.le_of_ble_eq_true rfl) rfl rfl rfl ?_
    rcases oj H with ⟨hc, H⟩ | ⟨hc, H⟩
    · refine WP.if_eq_t d_X8_token_85 hc ?_
      cases H
      exact WP.sub [0, 1] rfl K
    · refine WP.if_eq_f d_X8_token_85 hc ?_
      refine WP.aload_n d_X8_token_88 0 rfl ?_
      refine WP.aload_n d_X8_token_89 0 rfl ?_
      obtain ⟨x50, ex50, H⟩ := ob H
      refine WP.fJ d_X8_token_90 gf_X8_135 (fun _ => rfl) ex50 ?_
      refine WP.bipush d_X8_token_93 kb_8 ?_
      refine WP.lshl d_X8_token_95 ?_
      refine WP.aload_n d_X8_token_96 0 rfl ?_
      obtain ⟨x52, e51, H⟩ := ob H
      refine WP.cV (c := 9) (As := []) (st := [.long (shlJ x50 8), .ref t]) (st9 := [.int x52, .long (shlJ x50 8), .ref t]) (cl9 := 0) (sl9 := 0) d_X8_token_97 (ok_X8_see V e51) tv_X8_see ti_X8_see ts_X8_see lk_X8_128 r_X8_token_X8_see kc_X8_see (kd_X8_see e51) rfl rfl (Nat.le_of_ble_eq_true rfl) rfl rfl rfl ?_
      refine WP.i2l d_X8_token_100 ?_
      refine WP.lor d_X8_token_101 ?_
      obtain ⟨h53, eh53, H⟩ := ob H
      refine WP.uJ d_X8_token_102 gf_X8_135 rfl rfl eh53 ?_
      refine WP.aload_n d_X8_token_105 0 rfl ?_
      refine WP.dup d_X8_token_106 rfl ?_
      obtain ⟨x54, ex54, H⟩ := ob H
      refine WP.fI d_X8_token_107 gf_X8_122 (fun _ => rfl) ex54 ?_
      refine WP.iconst d_X8_token_110 ki_1 ?_
      refine WP.iadd d_X8_token_111 ?_
      obtain ⟨h55, eh55, H⟩ := ob H
      refine WP.uI d_X8_token_112 gf_X8_122 rfl (Or.inl rfl) rfl rfl eh55 ?_
      refine WP.iinc (lv9 := [(2, .int (l2 + 1)), (0, .ref t)]) d_X8_token_115 1 rfl ki_1 (Nat.le_of_ble_eq_true rfl) rfl ?_
      refine WP.goto d_X8_token_118 ?_
      refine WP.sub [1, 0] (lv' := [(0, .ref t), (2, .int (l2 + 1))]) rfl ?_
      exact ih H K

set_option maxRecDepth 20000 in
set_option maxHeartbeats 4000000 in
theorem ok_X8_token (V : EV) {h : HA} {t : Nat} {hR : HA} (H : X8_token h t = some hR) : MG V M_X8_token [.ref t] h none hR := by
  unfold X8_token at H
  obtain ⟨_, H⟩ := oc H
  refine MG.of (lv0 := [(0, .ref t)]) pn_X8 rfl (Nat.le_of_ble_eq_true rfl) ?_
  obtain ⟨h10, e9, H⟩ := ob H
  refine WP.sub [0] (lv' := [(0, .ref t)]) rfl ?_
  refine okl_X8_token_L0 V _ e9 ?_
  refine WP.aload_n d_X8_token_31 0 rfl ?_
  refine WP.aload_n d_X8_token_32 0 rfl ?_
  obtain ⟨x11, ex11, H⟩ := ob H
  refine WP.fI d_X8_token_33 gf_X8_122 (fun _ => rfl) ex11 ?_
  obtain ⟨h12, eh12, H⟩ := ob H
  refine WP.uI d_X8_token_36 gf_X8_132 rfl (Or.inl rfl) rfl rfl eh12 ?_
  refine WP.aload_n d_X8_token_39 0 rfl ?_
  obtain ⟨x14, e13, H⟩ := ob H
  refine WP.cV (c := 9) (As := []) (st := []) (st9 := [.int x14]) (cl9 := 0) (sl9 := 0) d_X8_token_40 (ok_X8_see V e13) tv_X8_see ti_X8_see ts_X8_see lk_X8_128 r_X8_token_X8_see kc_X8_see (kd_X8_see e13) rfl rfl (Nat.le_of_ble_eq_true rfl) rfl rfl rfl ?_
  refine WP.istore_n (lv9 := [(1, .int x14), (0, .ref t)]) d_X8_token_43 (Nat.le_of_ble_eq_true rfl) rfl ?_
  refine WP.aload_n d_X8_token_44 1 rfl ?_
  refine WP.lconst d_X8_token_45 kl_0 ?_
  obtain ⟨h15, eh15, H⟩ := ob H
  refine WP.uJ d_X8_token_46 gf_X8_135 rfl rfl eh15 ?_
  refine WP.iconst d_X8_token_49 ki_0 ?_
  refine WP.istore_n (lv9 := [(2, .int 0), (1, .int x14), (0, .ref t)]) d_X8_token_50 (Nat.le_of_ble_eq_true rfl) rfl ?_
  refine WP.iload_n d_X8_token_51 1 rfl ?_
  rcases oj H with ⟨hc, H⟩ | ⟨hc, H⟩
  · refine WP.if_ge_t d_X8_token_52 hc ?_
    refine WP.aload_n d_X8_token_55 2 rfl ?_
    refine WP.iconst d_X8_token_56 ki_0 ?_
    obtain ⟨h16, eh16, H⟩ := ob H
    refine WP.uI d_X8_token_57 gf_X8_139 rfl (Or.inl rfl) rfl rfl eh16 ?_
    refine WP.goto d_X8_token_60 ?_
    cases H
    exact WP.return_ d_X8_token_276 rfl (Nat.le_of_ble_eq_true rfl) (Nat.le_of_ble_eq_true rfl)
  · refine WP.if_ge_f d_X8_token_52 hc ?_
    refine WP.iload_n d_X8_token_63 1 rfl ?_
    refine WP.bipush d_X8_token_64 kb_97 ?_
    refine WP.bipush d_X8_token_66 kb_122 ?_
    obtain ⟨x18, e17, H⟩ := ob H
    refine WP.cS (As := [.int x14, .int 97, .int 122]) (st := []) (st9 := [.int x18]) (cl9 := 0) (sl9 := 0) d_X8_token_68 (ok_X8_in V (h := h15) e17) tv_X8_in ts_X8_in lk_X8_114 r_X8_token_X8_in rfl rfl (Nat.le_of_ble_eq_true rfl) rfl rfl rfl ?_
    rcases oj H with ⟨hc, H⟩ | ⟨hc, H⟩
    · refine WP.if_eq_t d_X8_token_71 hc ?_
      refine WP.iload_n d_X8_token_147 1 rfl ?_
      refine WP.bipush d_X8_token_148 kb_48 ?_
      refine WP.bipush d_X8_token_150 kb_57 ?_
      obtain ⟨x20, e19, H⟩ := ob H
      refine WP.cS (As := [.int x14, .int 48, .int 57]) (st := []) (st9 := [.int x20]) (cl9 := 0) (sl9 := 0) d_X8_token_152 (ok_X8_in V (h := h15) e19) tv_X8_in ts_X8_in lk_X8_114 r_X8_token_X8_in rfl rfl (Nat.le_of_ble_eq_true rfl) rfl rfl rfl ?_
      rcases oj H with ⟨hc, H⟩ | ⟨hc, H⟩
      · refine WP.if_eq_t d_X8_token_155 hc ?_
        refine WP.aload_n d_X8_token_241 2 rfl ?_
        refine WP.dup d_X8_token_242 rfl ?_
        obtain ⟨x21, ex21, H⟩ := ob H
        refine WP.fI d_X8_token_243 gf_X8_122 (fun _ => rfl) ex21 ?_
        refine WP.iconst d_X8_token_246 ki_1 ?_
        refine WP.iadd d_X8_token_247 ?_
        obtain ⟨h22, eh22, H⟩ := ob H
        refine WP.uI d_X8_token_248 gf_X8_122 rfl (Or.inl rfl) rfl rfl eh22 ?_
        refine WP.aload_n d_X8_token_251 2 rfl ?_
        refine WP.iload_n d_X8_token_252 1 rfl ?_
        refine WP.bipush d_X8_token_253 kb_59 ?_
        rcases oj H with ⟨hc, H⟩ | ⟨hc, H⟩
        · refine WP.icmp_ne_t d_X8_token_255 hc ?_
          refine WP.iconst d_X8_token_258 ki_4 ?_
          refine WP.goto d_X8_token_259 ?_
          obtain ⟨h23, eh23, H⟩ := ob H
          refine WP.uI d_X8_token_273 gf_X8_139 rfl (Or.inl rfl) rfl rfl eh23 ?_
          cases H
          exact WP.return_ d_X8_token_276 rfl (Nat.le_of_ble_eq_true rfl) (Nat.le_of_ble_eq_true rfl)
        · refine WP.icmp_ne_f d_X8_token_255 hc ?_
          refine WP.iload_n d_X8_token_262 1 rfl ?_
          refine WP.bipush d_X8_token_263 kb_45 ?_
          rcases oj H with ⟨hc, H⟩ | ⟨hc, H⟩
          · refine WP.icmp_ne_t d_X8_token_265 hc ?_
            refine WP.iconst d_X8_token_268 ki_5 ?_
            refine WP.goto d_X8_token_269 ?_
            obtain ⟨h24, eh24, H⟩ := ob H
            refine WP.uI d_X8_token_273 gf_X8_139 rfl (Or.inl rfl) rfl rfl eh24 ?_
            cases H
            exact WP.return_ d_X8_token_276 rfl (Nat.le_of_ble_eq_true rfl) (Nat.le_of_ble_eq_true rfl)
          · refine WP.icmp_ne_f d_X8_token_265 hc ?_
            refine WP.iconst d_X8_token_272 ki_1 ?_
            obtain ⟨h25, eh25, H⟩ := ob H
            refine WP.uI d_X8_token_273 gf_X8_139 rfl (Or.inl rfl) rfl rfl eh25 ?_
            cases H
            exact WP.return_ d_X8_token_276 rfl (Nat.le_of_ble_eq_true rfl) (Nat.le_of_ble_eq_true rfl)
      · refine WP.if_eq_f d_X8_token_155 hc ?_
        refine WP.aload_n d_X8_token_158 2 rfl ?_
        refine WP.iconst d_X8_token_159 ki_0 ?_
        obtain ⟨h26, eh26, H⟩ := ob H
        refine WP.uI d_X8_token_160 gf_X8_142 rfl (Or.inl rfl) rfl rfl eh26 ?_
        obtain ⟨⟨y42, h43⟩, e41, H⟩ := ob H
        refine WP.sub [2, 0] (lv' := [(0, .ref t), (2, .int 0)]) rfl ?_
        refine okl_X8_token_L163 V _ e41 ?_
        refine WP.aload_n d_X8_token_224 0 rfl ?_
        refine WP.iload_n d_X8_token_225 1 rfl ?_
        refine WP.iconst d_X8_token_226 ki_2 ?_
        rcases oj H with ⟨hc, H⟩ | ⟨hc, H⟩
        · refine WP.icmp_le_t d_X8_token_227 hc ?_
          refine WP.iconst d_X8_token_230 ki_1 ?_
          refine WP.goto d_X8_token_231 ?_
          obtain ⟨h44, eh44, H⟩ := ob H
          refine WP.uI d_X8_token_235 gf_X8_139 rfl (Or.inl rfl) rfl rfl eh44 ?_
          refine WP.goto d_X8_token_238 ?_
          cases H
          exact WP.return_ d_X8_token_276 rfl (Nat.le_of_ble_eq_true rfl) (Nat.le_of_ble_eq_true rfl)
        · refine WP.icmp_le_f d_X8_token_227 hc ?_
          refine WP.iconst d_X8_token_234 ki_3 ?_
          obtain ⟨h45, eh45, H⟩ := ob H
          refine WP.uI d_X8_token_235 gf_X8_139 rfl (Or.inl rfl) rfl rfl eh45 ?_
          refine WP.goto d_X8_token_238 ?_
          cases H
          exact WP.return_ d_X8_token_276 rfl (Nat.le_of_ble_eq_true rfl) (Nat.le_of_ble_eq_true rfl)
    · refine WP.if_eq_f d_X8_token_71 hc ?_
      obtain ⟨⟨y57, h58⟩, e56, H⟩ := ob H
      refine WP.sub [2, 0] (lv' := [(0, .ref t), (2, .int 0)]) rfl ?_
      refine okl_X8_token_L74 V _ e56 ?_
      refine WP.aload_n d_X8_token_121 0 rfl ?_
      refine WP.iload_n d_X8_token_122 1 rfl ?_
      refine WP.bipush d_X8_token_123 kb_8 ?_
      rcases oj H with ⟨hc, H⟩ | ⟨hc, H⟩
      · refine WP.icmp_le_t d_X8_token_125 hc ?_
        refine WP.lconst d_X8_token_128 kl_0 ?_
        refine WP.goto d_X8_token_129 ?_
        obtain ⟨h59, eh59, H⟩ := ob H
        refine WP.uJ d_X8_token_136 gf_X8_135 rfl rfl eh59 ?_
        refine WP.aload_n d_X8_token_139 0 rfl ?_
        refine WP.iconst d_X8_token_140 ki_2 ?_
        obtain ⟨h60, eh60, H⟩ := ob H
        refine WP.uI d_X8_token_141 gf_X8_139 rfl (Or.inl rfl) rfl rfl eh60 ?_
        refine WP.goto d_X8_token_144 ?_
        cases H
        exact WP.return_ d_X8_token_276 rfl (Nat.le_of_ble_eq_true rfl) (Nat.le_of_ble_eq_true rfl)
      · refine WP.icmp_le_f d_X8_token_125 hc ?_
        refine WP.aload_n d_X8_token_132 0 rfl ?_
        obtain ⟨x61, ex61, H⟩ := ob H
        refine WP.fJ d_X8_token_133 gf_X8_135 (fun _ => rfl) ex61 ?_
        obtain ⟨h62, eh62, H⟩ := ob H
        refine WP.uJ d_X8_token_136 gf_X8_135 rfl rfl eh62 ?_
        refine WP.aload_n d_X8_token_139 0 rfl ?_
        refine WP.iconst d_X8_token_140 ki_2 ?_
        obtain ⟨h63, eh63, H⟩ := ob H
        refine WP.uI d_X8_token_141 gf_X8_139 rfl (Or.inl rfl) rfl rfl eh63 ?_
        refine WP.goto d_X8_token_144 ?_
        cases H
        exact WP.return_ d_X8_token_276 rfl (Nat.le_of_ble_eq_true rfl) (Nat.le_of_ble_eq_true rfl)

set_option maxRecDepth 20000 in
set_option maxHeartbeats 4000000 in
theorem ok_X8_stops (V : EV) {h : HA} {t : Nat} {r : Int32} {hR : HA} (H : X8_stops h t = some (r, hR)) : MG V M_X8_stops [.ref t] h (some (.int r)) hR := by
  unfold X8_stops at H
  obtain ⟨_, H⟩ := oc H
  refine MG.of (lv0 := [(0, .ref t)]) pn_X8 rfl (Nat.le_of_ble_eq_true rfl) ?_
  refine WP.aload_n d_X8_stops_0 0 rfl ?_
  refine WP.aload_n d_X8_stops_1 0 rfl ?_
  obtain ⟨x1, ex1, H⟩ := ob H
  refine WP.fI d_X8_stops_2 gf_X8_132 (fun _ => rfl) ex1 ?_
  obtain ⟨h2, eh2, H⟩ := ob H
  refine WP.uI d_X8_stops_5 gf_X8_145 rfl (Or.inl rfl) rfl rfl eh2 ?_
  refine WP.iconst d_X8_stops_8 ki_0 ?_
  cases H
  exact WP.ireturn d_X8_stops_9 rfl rfl (Nat.le_of_ble_eq_true rfl) (Nat.le_of_ble_eq_true rfl)

set_option maxRecDepth 20000 in
set_option maxHeartbeats 4000000 in
theorem ok_X8_later (V : EV) {h : HA} {t : Nat} {l1 : Int32} {l2 : Int32} {hR : HA} (H : X8_later h t l1 l2 = some hR) : MG V M_X8_later [.ref t, .int l1, .int l2] h none hR := by
  unfold X8_later at H
  obtain ⟨_, H⟩ := oc H
  refine MG.of (lv0 := [(0, .ref t), (1, .int l1), (2, .int l2)]) pn_X8 rfl (Nat.le_of_ble_eq_true rfl) ?_
  refine WP.aload_n d_X8_later_0 0 rfl ?_
  obtain ⟨x1, ex1, H⟩ := ob H
  refine WP.fI d_X8_later_1 gf_X8_148 (fun _ => rfl) ex1 ?_
  rcases oj H with ⟨hc, H⟩ | ⟨hc, H⟩
  · refine WP.if_eq_t d_X8_later_4 hc ?_
    refine WP.aload_n d_X8_later_31 0 rfl ?_
    refine WP.iload_n d_X8_later_32 1 rfl ?_
    obtain ⟨h2, eh2, H⟩ := ob H
    refine WP.uI d_X8_later_33 gf_X8_148 rfl (Or.inl rfl) rfl rfl eh2 ?_
    refine WP.aload_n d_X8_later_36 0 rfl ?_
    refine WP.iload_n d_X8_later_37 2 rfl ?_
    obtain ⟨h3, eh3, H⟩ := ob H
    refine WP.uI d_X8_later_38 gf_X8_151 rfl (Or.inl rfl) rfl rfl eh3 ?_
    cases H
    exact WP.return_ d_X8_later_41 rfl (Nat.le_of_ble_eq_true rfl) (Nat.le_of_ble_eq_true rfl)
  · refine WP.if_eq_f d_X8_later_4 hc ?_
    refine WP.iload_n d_X8_later_7 2 rfl ?_
    refine WP.aload_n d_X8_later_8 0 rfl ?_
    obtain ⟨x4, ex4, H⟩ := ob H
    refine WP.fI d_X8_later_9 gf_X8_151 (fun _ => rfl) ex4 ?_
    rcases oj H with ⟨hc, H⟩ | ⟨hc, H⟩
    · refine WP.icmp_lt_t d_X8_later_12 hc ?_
      refine WP.aload_n d_X8_later_31 0 rfl ?_
      refine WP.iload_n d_X8_later_32 1 rfl ?_
      obtain ⟨h5, eh5, H⟩ := ob H
      refine WP.uI d_X8_later_33 gf_X8_148 rfl (Or.inl rfl) rfl rfl eh5 ?_
      refine WP.aload_n d_X8_later_36 0 rfl ?_
      refine WP.iload_n d_X8_later_37 2 rfl ?_
      obtain ⟨h6, eh6, H⟩ := ob H
      refine WP.uI d_X8_later_38 gf_X8_151 rfl (Or.inl rfl) rfl rfl eh6 ?_
      cases H
      exact WP.return_ d_X8_later_41 rfl (Nat.le_of_ble_eq_true rfl) (Nat.le_of_ble_eq_true rfl)
    · refine WP.icmp_lt_f d_X8_later_12 hc ?_
      refine WP.iload_n d_X8_later_15 2 rfl ?_
      refine WP.aload_n d_X8_later_16 0 rfl ?_
      obtain ⟨x7, ex7, H⟩ := ob H
      refine WP.fI d_X8_later_17 gf_X8_151 (fun _ => rfl) ex7 ?_
      rcases oj H with ⟨hc, H⟩ | ⟨hc, H⟩
      · refine WP.icmp_ne_t d_X8_later_20 hc ?_
        refine WP.iload_n d_X8_later_23 1 rfl ?_
        refine WP.aload_n d_X8_later_24 0 rfl ?_
        obtain ⟨x8, ex8, H⟩ := ob H
        refine WP.fI d_X8_later_25 gf_X8_148 (fun _ => rfl) ex8 ?_
        rcases oj H with ⟨hc, H⟩ | ⟨hc, H⟩
        · refine WP.icmp_ge_t d_X8_later_28 hc ?_
          refine WP.aload_n d_X8_later_31 0 rfl ?_
          refine WP.iload_n d_X8_later_32 1 rfl ?_
          obtain ⟨h9, eh9, H⟩ := ob H
          refine WP.uI d_X8_later_33 gf_X8_148 rfl (Or.inl rfl) rfl rfl eh9 ?_
          refine WP.aload_n d_X8_later_36 0 rfl ?_
          refine WP.iload_n d_X8_later_37 2 rfl ?_
          obtain ⟨h10, eh10, H⟩ := ob H
          refine WP.uI d_X8_later_38 gf_X8_151 rfl (Or.inl rfl) rfl rfl eh10 ?_
          cases H
          exact WP.return_ d_X8_later_41 rfl (Nat.le_of_ble_eq_true rfl) (Nat.le_of_ble_eq_true rfl)
        · refine WP.icmp_ge_f d_X8_later_28 hc ?_
          cases H
          exact WP.return_ d_X8_later_41 rfl (Nat.le_of_ble_eq_true rfl) (Nat.le_of_ble_eq_true rfl)
      · refine WP.icmp_ne_f d_X8_later_20 hc ?_
        cases H
        exact WP.return_ d_X8_later_41 rfl (Nat.le_of_ble_eq_true rfl) (Nat.le_of_ble_eq_true rfl)

set_option maxRecDepth 20000 in
set_option maxHeartbeats 4000000 in
theorem ok_X8_take (V : EV) {h : HA} {t : Nat} {l1 : Int32} {l2 : Int32} {l3 : Int32} {r : Int32} {hR : HA} (H : X8_take h t l1 l2 l3 = some (r, hR)) : MG V M_X8_take [.ref t, .int l1, .int l2, .int l3] h (some (.int r)) hR := by
  unfold X8_take at H
  obtain ⟨_, H⟩ := oc H
  refine MG.of (lv0 := [(0, .ref t), (1, .int l1), (2, .int l2), (3, .int l3)]) pn_X8 rfl (Nat.le_of_ble_eq_true rfl) ?_
  refine WP.aload_n d_X8_take_0 0 rfl ?_
  obtain ⟨x1, ex1, H⟩ := ob H
  refine WP.fI d_X8_take_1 gf_X8_139 (fun _ => rfl) ex1 ?_
  refine WP.iconst d_X8_take_4 ki_3 ?_
  rcases oj H with ⟨hc, H⟩ | ⟨hc, H⟩
  · refine WP.icmp_eq_t d_X8_take_5 hc ?_
    refine WP.aload_n d_X8_take_13 0 rfl ?_
    obtain ⟨x2, ex2, H⟩ := ob H
    refine WP.fR d_X8_take_14 gf_X8_41 (fun _ => rfl) ex2 ?_
    refine WP.iload_n d_X8_take_17 1 rfl ?_
    refine WP.aload_n d_X8_take_18 0 rfl ?_
    obtain ⟨x3, ex3, H⟩ := ob H
    refine WP.fI d_X8_take_19 gf_X8_142 (fun _ => rfl) ex3 ?_
    obtain ⟨h4, eh4, H⟩ := ob H
    refine WP.ias d_X8_take_22 eh4 ?_
    refine WP.aload_n d_X8_take_23 0 rfl ?_
    obtain ⟨x5, ex5, H⟩ := ob H
    refine WP.fI d_X8_take_24 gf_X8_142 (fun _ => rfl) ex5 ?_
    refine WP.iload_n d_X8_take_27 2 rfl ?_
    refine WP.iload_n d_X8_take_28 3 rfl ?_
    obtain ⟨x7, e6, H⟩ := ob H
    refine WP.cS (As := [.int x5, .int l2, .int l3]) (st := []) (st9 := [.int x7]) (cl9 := 0) (sl9 := 0) d_X8_take_29 (ok_X8_in V (h := h4) e6) tv_X8_in ts_X8_in lk_X8_114 r_X8_take_X8_in rfl rfl (Nat.le_of_ble_eq_true rfl) rfl rfl rfl ?_
    obtain ⟨h8, hs9, H⟩ := ob H
    have J10 : WP V M_X8_take 44 [(0, .ref t)] [] h8 0 0 (some (.int r)) hR := by
      refine WP.aload_n d_X8_take_44 0 rfl ?_
      obtain ⟨h15, e14, H⟩ := ob H
      refine WP.cV (c := 9) (As := []) (st := []) (st9 := []) (cl9 := 0) (sl9 := 0) d_X8_take_45 (ok_X8_token V e14) tv_X8_token ti_X8_token ts_X8_token lk_X8_162 r_X8_take_X8_token kc_X8_token (kd_X8_token e14) rfl rfl (Nat.le_of_ble_eq_true rfl) rfl rfl rfl ?_
      refine WP.iconst d_X8_take_48 ki_1 ?_
      cases H
      exact WP.ireturn d_X8_take_49 rfl rfl (Nat.le_of_ble_eq_true rfl) (Nat.le_of_ble_eq_true rfl)
    rcases oj hs9 with ⟨hc, hs9⟩ | ⟨hc, hs9⟩
    · refine WP.if_ne_t d_X8_take_32 hc ?_
      refine WP.aload_n d_X8_take_35 0 rfl ?_
      refine WP.iconst d_X8_take_36 ki_2 ?_
      refine WP.aload_n d_X8_take_37 0 rfl ?_
      obtain ⟨x11, ex11, hs9⟩ := ob hs9
      refine WP.fI d_X8_take_38 gf_X8_132 (fun _ => rfl) ex11 ?_
      obtain ⟨h13, e12, hs9⟩ := ob hs9
      refine WP.cV (c := 9) (As := [.int 2, .int x11]) (st := []) (st9 := []) (cl9 := 0) (sl9 := 0) d_X8_take_41 (ok_X8_later V e12) tv_X8_later ti_X8_later ts_X8_later lk_X8_158 r_X8_take_X8_later kc_X8_later (kd_X8_later e12) rfl rfl (Nat.le_of_ble_eq_true rfl) rfl rfl rfl ?_
      cases hs9
      exact WP.sub [0] rfl J10
    · refine WP.if_ne_f d_X8_take_32 hc ?_
      cases hs9
      exact WP.sub [0] rfl J10
  · refine WP.icmp_eq_f d_X8_take_5 hc ?_
    refine WP.aload_n d_X8_take_8 0 rfl ?_
    obtain ⟨⟨x18, h17⟩, e16, H⟩ := ob H
    refine WP.cV (c := 9) (As := []) (st := []) (st9 := [.int x18]) (cl9 := 0) (sl9 := 0) d_X8_take_9 (ok_X8_stops V e16) tv_X8_stops ti_X8_stops ts_X8_stops lk_X8_154 r_X8_take_X8_stops kc_X8_stops (kd_X8_stops e16) rfl rfl (Nat.le_of_ble_eq_true rfl) rfl rfl rfl ?_
    obtain ⟨x19, ex19, H⟩ := ob H
    obtain ⟨rfl, hnx19⟩ := bz_sp ex19
    cases H
    exact WP.ireturn d_X8_take_12 rfl hnx19 (Nat.le_of_ble_eq_true rfl) (Nat.le_of_ble_eq_true rfl)

set_option maxRecDepth 20000 in
set_option maxHeartbeats 4000000 in
theorem ok_X8_takeField (V : EV) {h : HA} {t : Nat} {l1 : Int32} {r : Int32} {hR : HA} (H : X8_takeField h t l1 = some (r, hR)) : MG V M_X8_takeField [.ref t, .int l1] h (some (.int r)) hR := by
  unfold X8_takeField at H
  obtain ⟨_, H⟩ := oc H
  refine MG.of (lv0 := [(0, .ref t), (1, .int l1)]) pn_X8 rfl (Nat.le_of_ble_eq_true rfl) ?_
  refine WP.aload_n d_X8_takeField_0 0 rfl ?_
  refine WP.iload_n d_X8_takeField_1 1 rfl ?_
  refine WP.iconst d_X8_takeField_2 ki_0 ?_
  refine WP.bipush d_X8_takeField_3 kb_63 ?_
  obtain ⟨⟨x3, h2⟩, e1, H⟩ := ob H
  refine WP.cV (c := 9) (As := [.int l1, .int 0, .int 63]) (st := []) (st9 := [.int x3]) (cl9 := 0) (sl9 := 0) d_X8_takeField_5 (ok_X8_take V e1) tv_X8_take ti_X8_take ts_X8_take lk_X8_165 r_X8_takeField_X8_take kc_X8_take (kd_X8_take e1) rfl rfl (Nat.le_of_ble_eq_true rfl) rfl rfl rfl ?_
  refine WP.istore_n (lv9 := [(2, .int x3), (0, .ref t), (1, .int l1)]) d_X8_takeField_8 (Nat.le_of_ble_eq_true rfl) rfl ?_
  refine WP.aload_n d_X8_takeField_9 1 rfl ?_
  refine WP.iload_n d_X8_takeField_10 0 rfl ?_
  rcases oj H with ⟨hc, H⟩ | ⟨hc, H⟩
  · refine WP.if_eq_t d_X8_takeField_11 hc ?_
    refine WP.aload_n d_X8_takeField_30 1 rfl ?_
    obtain ⟨x4, ex4, H⟩ := ob H
    refine WP.fI d_X8_takeField_31 gf_X8_168 (fun _ => rfl) ex4 ?_
    obtain ⟨h5, eh5, H⟩ := ob H
    refine WP.uI d_X8_takeField_34 gf_X8_168 rfl (Or.inl rfl) rfl rfl eh5 ?_
    refine WP.iload_n d_X8_takeField_37 0 rfl ?_
    obtain ⟨x6, ex6, H⟩ := ob H
    obtain ⟨rfl, hnx6⟩ := bz_sp ex6
    cases H
    exact WP.ireturn d_X8_takeField_38 rfl hnx6 (Nat.le_of_ble_eq_true rfl) (Nat.le_of_ble_eq_true rfl)
  · refine WP.if_eq_f d_X8_takeField_11 hc ?_
    refine WP.aload_n d_X8_takeField_14 1 rfl ?_
    obtain ⟨x7, ex7, H⟩ := ob H
    refine WP.fI d_X8_takeField_15 gf_X8_168 (fun _ => rfl) ex7 ?_
    refine WP.aload_n d_X8_takeField_18 1 rfl ?_
    obtain ⟨x8, ex8, H⟩ := ob H
    refine WP.fR d_X8_takeField_19 gf_X8_41 (fun _ => rfl) ex8 ?_
    refine WP.iload_n d_X8_takeField_22 2 rfl ?_
    obtain ⟨x9, ex9, H⟩ := ob H
    refine WP.iald d_X8_takeField_23 ex9 ?_
    obtain ⟨x11, e10, H⟩ := ob H
    refine WP.cS (As := [.int x7, .int x9]) (st := [.ref t]) (st9 := [.int x11, .ref t]) (cl9 := 0) (sl9 := 0) d_X8_takeField_24 (ok_X8_greater V (h := h2) e10) tv_X8_greater ts_X8_greater lk_X8_171 r_X8_takeField_X8_greater rfl rfl (Nat.le_of_ble_eq_true rfl) rfl rfl rfl ?_
    refine WP.goto d_X8_takeField_27 ?_
    obtain ⟨h12, eh12, H⟩ := ob H
    refine WP.uI d_X8_takeField_34 gf_X8_168 rfl (Or.inl rfl) rfl rfl eh12 ?_
    refine WP.iload_n d_X8_takeField_37 0 rfl ?_
    obtain ⟨x13, ex13, H⟩ := ob H
    obtain ⟨rfl, hnx13⟩ := bz_sp ex13
    cases H
    exact WP.ireturn d_X8_takeField_38 rfl hnx13 (Nat.le_of_ble_eq_true rfl) (Nat.le_of_ble_eq_true rfl)

set_option maxRecDepth 20000 in
set_option maxHeartbeats 4000000 in
theorem ok_X8_full (V : EV) {h : HA} {t : Nat} {l1 : Int32} {l2 : Int32} {l3 : Int32} {hR : HA} (H : X8_full h t l1 l2 l3 = some hR) : MG V M_X8_full [.ref t, .int l1, .int l2, .int l3] h none hR := by
  unfold X8_full at H
  obtain ⟨_, H⟩ := oc H
  refine MG.of (lv0 := [(0, .ref t), (1, .int l1), (2, .int l2), (3, .int l3)]) pn_X8 rfl (Nat.le_of_ble_eq_true rfl) ?_
  refine WP.aload_n d_X8_full_0 0 rfl ?_
  obtain ⟨x1, ex1, H⟩ := ob H
  refine WP.fR d_X8_full_1 gf_X8_38 (fun _ => rfl) ex1 ?_
  refine WP.iload_n d_X8_full_4 1 rfl ?_
  obtain ⟨x2, ex2, H⟩ := ob H
  refine WP.iald d_X8_full_5 ex2 ?_
  refine WP.iload_n d_X8_full_6 2 rfl ?_
  rcases oj H with ⟨hc, H⟩ | ⟨hc, H⟩
  · refine WP.icmp_ne_t d_X8_full_7 hc ?_
    refine WP.aload_n d_X8_full_10 0 rfl ?_
    refine WP.iconst d_X8_full_11 ki_3 ?_
    refine WP.iload_n d_X8_full_12 3 rfl ?_
    obtain ⟨h4, e3, H⟩ := ob H
    refine WP.cV (c := 9) (As := [.int 3, .int l3]) (st := []) (st9 := []) (cl9 := 0) (sl9 := 0) d_X8_full_13 (ok_X8_later V e3) tv_X8_later ti_X8_later ts_X8_later lk_X8_158 r_X8_full_X8_later kc_X8_later (kd_X8_later e3) rfl rfl (Nat.le_of_ble_eq_true rfl) rfl rfl rfl ?_
    cases H
    exact WP.return_ d_X8_full_16 rfl (Nat.le_of_ble_eq_true rfl) (Nat.le_of_ble_eq_true rfl)
  · refine WP.icmp_ne_f d_X8_full_7 hc ?_
    cases H
    exact WP.return_ d_X8_full_16 rfl (Nat.le_of_ble_eq_true rfl) (Nat.le_of_ble_eq_true rfl)

set_option maxRecDepth 20000 in
set_option maxHeartbeats 4000000 in
theorem okl_X8_keep_L19 (V : EV) {vF : Option Value} {hF : HA} {t : Nat} {l1 : Int32} {l2 : Int32} {l3 : Int32} {l5 : Int32} (n : Nat) : ∀ {h : HA} {l6 : Int32} {hR : HA}, (H : X8_keep_L19 t l2 l3 l5 n h l6 = some hR) → (K : WP V M_X8_keep 52 [(0, .ref t), (1, .int l1)] [] hR 0 0 vF hF) → WP V M_X8_keep 19 [(0, .ref t), (1, .int l1), (2, .int l2), (3, .int l3), (5, .int l5), (6, .int l6)] [] h 0 0 vF hF := by
  induction n with
  | zero =>
    intro h l6 hR H K
    rw [X8_keep_L19] at H
    cases H
  | succ n ih =>
    intro h l6 hR H K
    rw [X8_keep_L19] at H
    refine WP.iload d_X8_keep_19 5 rfl ?_
    refine WP.iload_n d_X8_keep_21 3 rfl ?_
    rcases oj H with ⟨hc, H⟩ | ⟨hc, H⟩
    · refine WP.icmp_ge_t d_X8_keep_22 hc ?_
      refine WP.aload_n d_X8_keep_25 0 rfl ?_
      obtain ⟨x3, ex3, H⟩ := ob H
      refine WP.fR d_X8_keep_26 gf_X8_38 (fun _ => rfl) ex3 ?_
      refine WP.iload_n d_X8_keep_29 2 rfl ?_
      refine WP.iload_n d_X8_keep_30 3 rfl ?_
      refine WP.iload d_X8_keep_31 4 rfl ?_
      refine WP.imul d_X8_keep_33 ?_
      refine WP.iadd d_X8_keep_34 ?_
      refine WP.iload d_X8_keep_35 5 rfl ?_
      refine WP.iadd d_X8_keep_37 ?_
      refine WP.aload_n d_X8_keep_38 0 rfl ?_
      obtain ⟨x4, ex4, H⟩ := ob H
      refine WP.fR d_X8_keep_39 gf_X8_41 (fun _ => rfl) ex4 ?_
      refine WP.iload d_X8_keep_42 5 rfl ?_
      obtain ⟨x5, ex5, H⟩ := ob H
      refine WP.iald d_X8_keep_44 ex5 ?_
      obtain ⟨h6, eh6, H⟩ := ob H
      refine WP.ias d_X8_keep_45 eh6 ?_
      refine WP.iinc (lv9 := [(6, .int (l6 + 1)), (0, .ref t), (1, .int l1), (2, .int l2), (3, .int l3), (5, .int l5)]) d_X8_keep_46 5 rfl ki_1 (Nat.le_of_ble_eq_true rfl) rfl ?_
      refine WP.goto d_X8_keep_49 ?_
      refine WP.sub [1, 2, 3, 4, 5, 0] (lv' := [(0, .ref t), (1, .int l1), (2, .int l2), (3, .int l3), (5, .int l5), (6, .int (l6 + 1))]) rfl ?_
      exact ih H K
    · refine WP.icmp_ge_f d_X8_keep_22 hc ?_
      cases H
      exact WP.sub [0, 1] rfl K

set_option maxRecDepth 20000 in
set_option maxHeartbeats 4000000 in
theorem ok_X8_keep (V : EV) {h : HA} {t : Nat} {l1 : Int32} {l2 : Int32} {l3 : Int32} {l4 : Int32} {hR : HA} (H : X8_keep h t l1 l2 l3 l4 = some hR) : MG V M_X8_keep [.ref t, .int l1, .int l2, .int l3, .int l4] h none hR := by
  unfold X8_keep at H
  obtain ⟨_, H⟩ := oc H
  refine MG.of (lv0 := [(0, .ref t), (1, .int l1), (2, .int l2), (3, .int l3), (4, .int l4)]) pn_X8 rfl (Nat.le_of_ble_eq_true rfl) ?_
  refine WP.aload_n d_X8_keep_0 0 rfl ?_
  obtain ⟨x1, ex1, H⟩ := ob H
  refine WP.fR d_X8_keep_1 gf_X8_38 (fun _ => rfl) ex1 ?_
  refine WP.iload_n d_X8_keep_4 1 rfl ?_
  obtain ⟨x2, ex2, H⟩ := ob H
  refine WP.iald d_X8_keep_5 ex2 ?_
  refine WP.istore (lv9 := [(5, .int x2), (0, .ref t), (1, .int l1), (2, .int l2), (3, .int l3), (4, .int l4)]) d_X8_keep_6 (Nat.le_of_ble_eq_true rfl) rfl ?_
  refine WP.iload d_X8_keep_8 0 rfl ?_
  refine WP.iload d_X8_keep_10 5 rfl ?_
  rcases oj H with ⟨hc, H⟩ | ⟨hc, H⟩
  · refine WP.icmp_ne_t d_X8_keep_12 hc ?_
    cases H
    exact WP.return_ d_X8_keep_15 rfl (Nat.le_of_ble_eq_true rfl) (Nat.le_of_ble_eq_true rfl)
  · refine WP.icmp_ne_f d_X8_keep_12 hc ?_
    refine WP.iconst d_X8_keep_16 ki_0 ?_
    refine WP.istore (lv9 := [(6, .int 0), (5, .int x2), (0, .ref t), (1, .int l1), (2, .int l2), (3, .int l3), (4, .int l4)]) d_X8_keep_17 (Nat.le_of_ble_eq_true rfl) rfl ?_
    obtain ⟨h8, e7, H⟩ := ob H
    refine WP.sub [2, 3, 4, 5, 1, 0] (lv' := [(0, .ref t), (1, .int l1), (2, .int l2), (3, .int l3), (5, .int x2), (6, .int 0)]) rfl ?_
    refine okl_X8_keep_L19 V _ e7 ?_
    refine WP.aload_n d_X8_keep_52 0 rfl ?_
    obtain ⟨x9, ex9, H⟩ := ob H
    refine WP.fR d_X8_keep_53 gf_X8_38 (fun _ => rfl) ex9 ?_
    refine WP.iload_n d_X8_keep_56 1 rfl ?_
    refine WP.dup2 d_X8_keep_57 rfl rfl ?_
    obtain ⟨x10, ex10, H⟩ := ob H
    refine WP.iald d_X8_keep_58 ex10 ?_
    refine WP.iconst d_X8_keep_59 ki_1 ?_
    refine WP.iadd d_X8_keep_60 ?_
    obtain ⟨h11, eh11, H⟩ := ob H
    refine WP.ias d_X8_keep_61 eh11 ?_
    cases H
    exact WP.return_ d_X8_keep_62 rfl (Nat.le_of_ble_eq_true rfl) (Nat.le_of_ble_eq_true rfl)

set_option maxRecDepth 20000 in
set_option maxHeartbeats 4000000 in
theorem ok_X8_judgeLine (V : EV) {h : HA} {t : Nat} {l1 : Int32} {r : Int32} {hR : HA} (H : X8_judgeLine h t l1 = some (r, hR)) : MG V M_X8_judgeLine [.ref t, .int l1] h (some (.int r)) hR := by
  unfold X8_judgeLine at H
  obtain ⟨_, H⟩ := oc H
  refine MG.of (lv0 := [(0, .ref t), (1, .int l1)]) pn_X8 rfl (Nat.le_of_ble_eq_true rfl) ?_
  refine WP.aload_n d_X8_judgeLine_0 0 rfl ?_
  refine WP.iconst d_X8_judgeLine_1 ki_0 ?_
  obtain ⟨⟨x3, h2⟩, e1, H⟩ := ob H
  refine WP.cV (c := 9) (As := [.int 0]) (st := []) (st9 := [.int x3]) (cl9 := 0) (sl9 := 0) d_X8_judgeLine_2 (ok_X8_takeField V e1) tv_X8_takeField ti_X8_takeField ts_X8_takeField lk_X8_201 r_X8_judgeLine_X8_takeField kc_X8_takeField (kd_X8_takeField e1) rfl rfl (Nat.le_of_ble_eq_true rfl) rfl rfl rfl ?_
  rcases oj H with ⟨hc, H⟩ | ⟨hc, H⟩
  · refine WP.if_eq_t d_X8_judgeLine_5 hc ?_
    refine WP.iconst d_X8_judgeLine_18 ki_0 ?_
    cases H
    exact WP.ireturn d_X8_judgeLine_19 rfl rfl (Nat.le_of_ble_eq_true rfl) (Nat.le_of_ble_eq_true rfl)
  · refine WP.if_eq_f d_X8_judgeLine_5 hc ?_
    refine WP.aload_n d_X8_judgeLine_8 0 rfl ?_
    refine WP.iconst d_X8_judgeLine_9 ki_1 ?_
    refine WP.iconst d_X8_judgeLine_10 ki_0 ?_
    refine WP.iconst d_X8_judgeLine_11 ki_3 ?_
    obtain ⟨⟨x6, h5⟩, e4, H⟩ := ob H
    refine WP.cV (c := 9) (As := [.int 1, .int 0, .int 3]) (st := []) (st9 := [.int x6]) (cl9 := 0) (sl9 := 0) d_X8_judgeLine_12 (ok_X8_take V e4) tv_X8_take ti_X8_take ts_X8_take lk_X8_165 r_X8_judgeLine_X8_take kc_X8_take (kd_X8_take e4) rfl rfl (Nat.le_of_ble_eq_true rfl) rfl rfl rfl ?_
    rcases oj H with ⟨hc, H⟩ | ⟨hc, H⟩
    · refine WP.if_ne_t d_X8_judgeLine_15 hc ?_
      refine WP.iconst d_X8_judgeLine_18 ki_0 ?_
      cases H
      exact WP.ireturn d_X8_judgeLine_19 rfl rfl (Nat.le_of_ble_eq_true rfl) (Nat.le_of_ble_eq_true rfl)
    · refine WP.if_ne_f d_X8_judgeLine_15 hc ?_
      refine WP.aload_n d_X8_judgeLine_20 0 rfl ?_
      obtain ⟨x7, ex7, H⟩ := ob H
      refine WP.fR d_X8_judgeLine_21 gf_X8_41 (fun _ => rfl) ex7 ?_
      refine WP.iconst d_X8_judgeLine_24 ki_2 ?_
      refine WP.iload_n d_X8_judgeLine_25 1 rfl ?_
      obtain ⟨h8, eh8, H⟩ := ob H
      refine WP.ias d_X8_judgeLine_26 eh8 ?_
      refine WP.aload_n d_X8_judgeLine_27 0 rfl ?_
      refine WP.iconst d_X8_judgeLine_28 ki_3 ?_
      refine WP.iconst d_X8_judgeLine_29 ki_0 ?_
      refine WP.bipush d_X8_judgeLine_30 kb_9 ?_
      obtain ⟨⟨x11, h10⟩, e9, H⟩ := ob H
      refine WP.cV (c := 9) (As := [.int 3, .int 0, .int 9]) (st := []) (st9 := [.int x11]) (cl9 := 0) (sl9 := 0) d_X8_judgeLine_32 (ok_X8_take V e9) tv_X8_take ti_X8_take ts_X8_take lk_X8_165 r_X8_judgeLine_X8_take kc_X8_take (kd_X8_take e9) rfl rfl (Nat.le_of_ble_eq_true rfl) rfl rfl rfl ?_
      rcases oj H with ⟨hc, H⟩ | ⟨hc, H⟩
      · refine WP.if_eq_t d_X8_judgeLine_35 hc ?_
        refine WP.iconst d_X8_judgeLine_48 ki_0 ?_
        cases H
        exact WP.ireturn d_X8_judgeLine_49 rfl rfl (Nat.le_of_ble_eq_true rfl) (Nat.le_of_ble_eq_true rfl)
      · refine WP.if_eq_f d_X8_judgeLine_35 hc ?_
        refine WP.aload_n d_X8_judgeLine_38 0 rfl ?_
        refine WP.iconst d_X8_judgeLine_39 ki_4 ?_
        refine WP.iconst d_X8_judgeLine_40 ki_0 ?_
        refine WP.iconst d_X8_judgeLine_41 ki_3 ?_
        obtain ⟨⟨x14, h13⟩, e12, H⟩ := ob H
        refine WP.cV (c := 9) (As := [.int 4, .int 0, .int 3]) (st := []) (st9 := [.int x14]) (cl9 := 0) (sl9 := 0) d_X8_judgeLine_42 (ok_X8_take V e12) tv_X8_take ti_X8_take ts_X8_take lk_X8_165 r_X8_judgeLine_X8_take kc_X8_take (kd_X8_take e12) rfl rfl (Nat.le_of_ble_eq_true rfl) rfl rfl rfl ?_
        rcases oj H with ⟨hc, H⟩ | ⟨hc, H⟩
        · refine WP.if_ne_t d_X8_judgeLine_45 hc ?_
          refine WP.iconst d_X8_judgeLine_48 ki_0 ?_
          cases H
          exact WP.ireturn d_X8_judgeLine_49 rfl rfl (Nat.le_of_ble_eq_true rfl) (Nat.le_of_ble_eq_true rfl)
        · refine WP.if_ne_f d_X8_judgeLine_45 hc ?_
          refine WP.aload_n d_X8_judgeLine_50 0 rfl ?_
          refine WP.iconst d_X8_judgeLine_51 ki_2 ?_
          refine WP.iconst d_X8_judgeLine_52 ki_4 ?_
          refine WP.iconst d_X8_judgeLine_53 ki_5 ?_
          refine WP.bipush d_X8_judgeLine_54 kb_6 ?_
          obtain ⟨h16, e15, H⟩ := ob H
          refine WP.cV (c := 9) (As := [.int 2, .int 4, .int 5, .int 6]) (st := []) (st9 := []) (cl9 := 0) (sl9 := 0) d_X8_judgeLine_56 (ok_X8_keep V e15) tv_X8_keep ti_X8_keep ts_X8_keep lk_X8_213 r_X8_judgeLine_X8_keep kc_X8_keep (kd_X8_keep e15) rfl rfl (Nat.le_of_ble_eq_true rfl) rfl rfl rfl ?_
          refine WP.iconst d_X8_judgeLine_59 ki_1 ?_
          cases H
          exact WP.ireturn d_X8_judgeLine_60 rfl rfl (Nat.le_of_ble_eq_true rfl) (Nat.le_of_ble_eq_true rfl)

set_option maxRecDepth 20000 in
set_option maxHeartbeats 4000000 in
theorem okl_X8_sizeLine_L2 (V : EV) {t : Nat} (n : Nat) : ∀ {h : HA} {l1 : Int32} {r : Int32} {hR : HA} , (H : X8_sizeLine_L2 t n h l1 = some (r, hR)) → WP V M_X8_sizeLine 2 [(0, .ref t), (1, .int l1)] [] h 0 0 (some (.int r)) hR := by
  induction n with
  | zero =>
    intro h l1 r hR H
    rw [X8_sizeLine_L2] at H
    cases H
  | succ n ih =>
    intro h l1 r hR H
    rw [X8_sizeLine_L2] at H
    refine WP.iload_n d_X8_sizeLine_2 1 rfl ?_
    refine WP.iconst d_X8_sizeLine_3 ki_2 ?_
    rcases oj H with ⟨hc, H⟩ | ⟨hc, H⟩
    · refine WP.icmp_ge_t d_X8_sizeLine_4 hc ?_
      refine WP.aload_n d_X8_sizeLine_7 0 rfl ?_
      refine WP.iconst d_X8_sizeLine_8 ki_0 ?_
      refine WP.iconst d_X8_sizeLine_9 ki_2 ?_
      refine WP.bipush d_X8_sizeLine_10 kb_8 ?_
      obtain ⟨⟨x3, h2⟩, e1, H⟩ := ob H
      refine WP.cV (c := 9) (As := [.int 0, .int 2, .int 8]) (st := []) (st9 := [.int x3]) (cl9 := 0) (sl9 := 0) d_X8_sizeLine_12 (ok_X8_take V e1) tv_X8_take ti_X8_take ts_X8_take lk_X8_165 r_X8_sizeLine_X8_take kc_X8_take (kd_X8_take e1) rfl rfl (Nat.le_of_ble_eq_true rfl) rfl rfl rfl ?_
      rcases oj H with ⟨hc, H⟩ | ⟨hc, H⟩
      · refine WP.if_ne_t d_X8_sizeLine_15 hc ?_
        refine WP.iconst d_X8_sizeLine_18 ki_0 ?_
        cases H
        exact WP.ireturn d_X8_sizeLine_19 rfl rfl (Nat.le_of_ble_eq_true rfl) (Nat.le_of_ble_eq_true rfl)
      · refine WP.if_ne_f d_X8_sizeLine_15 hc ?_
        refine WP.aload_n d_X8_sizeLine_20 0 rfl ?_
        obtain ⟨x4, ex4, H⟩ := ob H
        refine WP.fR d_X8_sizeLine_21 gf_X8_38 (fun _ => rfl) ex4 ?_
        refine WP.iload_n d_X8_sizeLine_24 1 rfl ?_
        refine WP.aload_n d_X8_sizeLine_25 0 rfl ?_
        obtain ⟨x5, ex5, H⟩ := ob H
        refine WP.fR d_X8_sizeLine_26 gf_X8_41 (fun _ => rfl) ex5 ?_
        refine WP.iconst d_X8_sizeLine_29 ki_0 ?_
        obtain ⟨x6, ex6, H⟩ := ob H
        refine WP.iald d_X8_sizeLine_30 ex6 ?_
        obtain ⟨h7, eh7, H⟩ := ob H
        refine WP.ias d_X8_sizeLine_31 eh7 ?_
        refine WP.iinc (lv9 := [(1, .int (l1 + 1)), (0, .ref t)]) d_X8_sizeLine_32 1 rfl ki_1 (Nat.le_of_ble_eq_true rfl) rfl ?_
        refine WP.goto d_X8_sizeLine_35 ?_
        refine WP.sub [1, 0] (lv' := [(0, .ref t), (1, .int (l1 + 1))]) rfl ?_
        exact ih H
    · refine WP.icmp_ge_f d_X8_sizeLine_4 hc ?_
      refine WP.iconst d_X8_sizeLine_38 ki_1 ?_
      cases H
      exact WP.ireturn d_X8_sizeLine_39 rfl rfl (Nat.le_of_ble_eq_true rfl) (Nat.le_of_ble_eq_true rfl)

set_option maxRecDepth 20000 in
set_option maxHeartbeats 4000000 in
theorem ok_X8_sizeLine (V : EV) {h : HA} {t : Nat} {r : Int32} {hR : HA} (H : X8_sizeLine h t = some (r, hR)) : MG V M_X8_sizeLine [.ref t] h (some (.int r)) hR := by
  unfold X8_sizeLine at H
  obtain ⟨_, H⟩ := oc H
  refine MG.of (lv0 := [(0, .ref t)]) pn_X8 rfl (Nat.le_of_ble_eq_true rfl) ?_
  refine WP.iconst d_X8_sizeLine_0 ki_0 ?_
  refine WP.istore_n (lv9 := [(1, .int 0), (0, .ref t)]) d_X8_sizeLine_1 (Nat.le_of_ble_eq_true rfl) rfl ?_
  refine WP.sub [1, 0] (lv' := [(0, .ref t), (1, .int 0)]) rfl ?_
  exact okl_X8_sizeLine_L2 V _ H

set_option maxRecDepth 20000 in
set_option maxHeartbeats 4000000 in
theorem okl_X8_wallLine_L0 (V : EV) {t : Nat} (n : Nat) : ∀ {h : HA} {r : Int32} {hR : HA} , (H : X8_wallLine_L0 t n h = some (r, hR)) → WP V M_X8_wallLine 0 [(0, .ref t)] [] h 0 0 (some (.int r)) hR := by
  induction n with
  | zero =>
    intro h r hR H
    rw [X8_wallLine_L0] at H
    cases H
  | succ n ih =>
    intro h r hR H
    rw [X8_wallLine_L0] at H
    refine WP.aload_n d_X8_wallLine_0 0 rfl ?_
    refine WP.iconst d_X8_wallLine_1 ki_0 ?_
    obtain ⟨⟨x3, h2⟩, e1, H⟩ := ob H
    refine WP.cV (c := 9) (As := [.int 0]) (st := []) (st9 := [.int x3]) (cl9 := 0) (sl9 := 0) d_X8_wallLine_2 (ok_X8_takeField V e1) tv_X8_takeField ti_X8_takeField ts_X8_takeField lk_X8_201 r_X8_wallLine_X8_takeField kc_X8_takeField (kd_X8_takeField e1) rfl rfl (Nat.le_of_ble_eq_true rfl) rfl rfl rfl ?_
    rcases oj H with ⟨hc, H⟩ | ⟨hc, H⟩
    · refine WP.if_ne_t d_X8_wallLine_5 hc ?_
      refine WP.iconst d_X8_wallLine_8 ki_0 ?_
      cases H
      exact WP.ireturn d_X8_wallLine_9 rfl rfl (Nat.le_of_ble_eq_true rfl) (Nat.le_of_ble_eq_true rfl)
    · refine WP.if_ne_f d_X8_wallLine_5 hc ?_
      refine WP.aload_n d_X8_wallLine_10 0 rfl ?_
      obtain ⟨x4, ex4, H⟩ := ob H
      refine WP.fR d_X8_wallLine_11 gf_X8_41 (fun _ => rfl) ex4 ?_
      refine WP.iconst d_X8_wallLine_14 ki_0 ?_
      obtain ⟨x5, ex5, H⟩ := ob H
      refine WP.iald d_X8_wallLine_15 ex5 ?_
      refine WP.bipush d_X8_wallLine_16 kb_64 ?_
      obtain ⟨h6, hs7, H⟩ := ob H
      have J8 : WP V M_X8_wallLine 36 [(0, .ref t)] [] h6 0 0 (some (.int r)) hR := by
        refine WP.aload_n d_X8_wallLine_36 0 rfl ?_
        obtain ⟨x13, ex13, H⟩ := ob H
        refine WP.fI d_X8_wallLine_37 gf_X8_139 (fun _ => rfl) ex13 ?_
        refine WP.iconst d_X8_wallLine_40 ki_3 ?_
        rcases oj H with ⟨hc, H⟩ | ⟨hc, H⟩
        · refine WP.icmp_eq_t d_X8_wallLine_41 hc ?_
          refine WP.sub [0] (lv' := [(0, .ref t)]) rfl ?_
          exact ih H
        · refine WP.icmp_eq_f d_X8_wallLine_41 hc ?_
          refine WP.iconst d_X8_wallLine_44 ki_1 ?_
          cases H
          exact WP.ireturn d_X8_wallLine_45 rfl rfl (Nat.le_of_ble_eq_true rfl) (Nat.le_of_ble_eq_true rfl)
      rcases oj hs7 with ⟨hc, hs7⟩ | ⟨hc, hs7⟩
      · refine WP.icmp_ge_t d_X8_wallLine_18 hc ?_
        refine WP.aload_n d_X8_wallLine_21 0 rfl ?_
        obtain ⟨x9, ex9, hs7⟩ := ob hs7
        refine WP.fR d_X8_wallLine_22 gf_X8_38 (fun _ => rfl) ex9 ?_
        refine WP.bipush d_X8_wallLine_25 kb_42 ?_
        refine WP.aload_n d_X8_wallLine_27 0 rfl ?_
        obtain ⟨x10, ex10, hs7⟩ := ob hs7
        refine WP.fR d_X8_wallLine_28 gf_X8_41 (fun _ => rfl) ex10 ?_
        refine WP.iconst d_X8_wallLine_31 ki_0 ?_
        obtain ⟨x11, ex11, hs7⟩ := ob hs7
        refine WP.iald d_X8_wallLine_32 ex11 ?_
        refine WP.iadd d_X8_wallLine_33 ?_
        refine WP.iconst d_X8_wallLine_34 ki_1 ?_
        obtain ⟨h12, eh12, hs7⟩ := ob hs7
        refine WP.ias d_X8_wallLine_35 eh12 ?_
        cases hs7
        exact WP.sub [0] rfl J8
      · refine WP.icmp_ge_f d_X8_wallLine_18 hc ?_
        cases hs7
        exact WP.sub [0] rfl J8

set_option maxRecDepth 20000 in
set_option maxHeartbeats 4000000 in
theorem ok_X8_wallLine (V : EV) {h : HA} {t : Nat} {r : Int32} {hR : HA} (H : X8_wallLine h t = some (r, hR)) : MG V M_X8_wallLine [.ref t] h (some (.int r)) hR := by
  unfold X8_wallLine at H
  obtain ⟨_, H⟩ := oc H
  refine MG.of (lv0 := [(0, .ref t)]) pn_X8 rfl (Nat.le_of_ble_eq_true rfl) ?_
  refine WP.sub [0] (lv' := [(0, .ref t)]) rfl ?_
  exact okl_X8_wallLine_L0 V _ H

set_option maxRecDepth 20000 in
set_option maxHeartbeats 4000000 in
theorem ok_X8_pleads (V : EV) {h : HA} {t : Nat} {hR : HA} (H : X8_pleads h t = some hR) : MG V M_X8_pleads [.ref t] h none hR := by
  unfold X8_pleads at H
  obtain ⟨_, H⟩ := oc H
  refine MG.of (lv0 := [(0, .ref t)]) pn_X8 rfl (Nat.le_of_ble_eq_true rfl) ?_
  refine WP.aload_n d_X8_pleads_0 0 rfl ?_
  obtain ⟨x1, ex1, H⟩ := ob H
  refine WP.fR d_X8_pleads_1 gf_X8_38 (fun _ => rfl) ex1 ?_
  refine WP.iconst d_X8_pleads_4 ki_3 ?_
  obtain ⟨x2, ex2, H⟩ := ob H
  refine WP.iald d_X8_pleads_5 ex2 ?_
  refine WP.iconst d_X8_pleads_6 ki_4 ?_
  rcases oj H with ⟨hc, H⟩ | ⟨hc, H⟩
  · refine WP.icmp_ge_t d_X8_pleads_7 hc ?_
    refine WP.aload_n d_X8_pleads_10 0 rfl ?_
    obtain ⟨x3, ex3, H⟩ := ob H
    refine WP.fR d_X8_pleads_11 gf_X8_38 (fun _ => rfl) ex3 ?_
    refine WP.bipush d_X8_pleads_14 kb_34 ?_
    refine WP.iconst d_X8_pleads_16 ki_2 ?_
    refine WP.aload_n d_X8_pleads_17 0 rfl ?_
    obtain ⟨x4, ex4, H⟩ := ob H
    refine WP.fR d_X8_pleads_18 gf_X8_38 (fun _ => rfl) ex4 ?_
    refine WP.iconst d_X8_pleads_21 ki_3 ?_
    obtain ⟨x5, ex5, H⟩ := ob H
    refine WP.iald d_X8_pleads_22 ex5 ?_
    refine WP.imul d_X8_pleads_23 ?_
    refine WP.iadd d_X8_pleads_24 ?_
    refine WP.aload_n d_X8_pleads_25 0 rfl ?_
    obtain ⟨x6, ex6, H⟩ := ob H
    refine WP.fR d_X8_pleads_26 gf_X8_41 (fun _ => rfl) ex6 ?_
    refine WP.iconst d_X8_pleads_29 ki_0 ?_
    obtain ⟨x7, ex7, H⟩ := ob H
    refine WP.iald d_X8_pleads_30 ex7 ?_
    obtain ⟨h8, eh8, H⟩ := ob H
    refine WP.ias d_X8_pleads_31 eh8 ?_
    refine WP.aload_n d_X8_pleads_32 0 rfl ?_
    obtain ⟨x9, ex9, H⟩ := ob H
    refine WP.fR d_X8_pleads_33 gf_X8_38 (fun _ => rfl) ex9 ?_
    refine WP.iconst d_X8_pleads_36 ki_3 ?_
    refine WP.dup2 d_X8_pleads_37 rfl rfl ?_
    obtain ⟨x10, ex10, H⟩ := ob H
    refine WP.iald d_X8_pleads_38 ex10 ?_
    refine WP.iconst d_X8_pleads_39 ki_1 ?_
    refine WP.iadd d_X8_pleads_40 ?_
    obtain ⟨h11, eh11, H⟩ := ob H
    refine WP.ias d_X8_pleads_41 eh11 ?_
    cases H
    exact WP.return_ d_X8_pleads_42 rfl (Nat.le_of_ble_eq_true rfl) (Nat.le_of_ble_eq_true rfl)
  · refine WP.icmp_ge_f d_X8_pleads_7 hc ?_
    cases H
    exact WP.return_ d_X8_pleads_42 rfl (Nat.le_of_ble_eq_true rfl) (Nat.le_of_ble_eq_true rfl)

set_option maxRecDepth 20000 in
set_option maxHeartbeats 4000000 in
theorem ok_X8_twinLine (V : EV) {h : HA} {t : Nat} {r : Int32} {hR : HA} (H : X8_twinLine h t = some (r, hR)) : MG V M_X8_twinLine [.ref t] h (some (.int r)) hR := by
  unfold X8_twinLine at H
  obtain ⟨_, H⟩ := oc H
  refine MG.of (lv0 := [(0, .ref t)]) pn_X8 rfl (Nat.le_of_ble_eq_true rfl) ?_
  refine WP.aload_n d_X8_twinLine_0 0 rfl ?_
  refine WP.iconst d_X8_twinLine_1 ki_0 ?_
  refine WP.iconst d_X8_twinLine_2 ki_0 ?_
  refine WP.iconst d_X8_twinLine_3 ki_3 ?_
  obtain ⟨⟨x3, h2⟩, e1, H⟩ := ob H
  refine WP.cV (c := 9) (As := [.int 0, .int 0, .int 3]) (st := []) (st9 := [.int x3]) (cl9 := 0) (sl9 := 0) d_X8_twinLine_4 (ok_X8_take V e1) tv_X8_take ti_X8_take ts_X8_take lk_X8_165 r_X8_twinLine_X8_take kc_X8_take (kd_X8_take e1) rfl rfl (Nat.le_of_ble_eq_true rfl) rfl rfl rfl ?_
  rcases oj H with ⟨hc, H⟩ | ⟨hc, H⟩
  · refine WP.if_ne_t d_X8_twinLine_7 hc ?_
    refine WP.iconst d_X8_twinLine_10 ki_0 ?_
    cases H
    exact WP.ireturn d_X8_twinLine_11 rfl rfl (Nat.le_of_ble_eq_true rfl) (Nat.le_of_ble_eq_true rfl)
  · refine WP.if_ne_f d_X8_twinLine_7 hc ?_
    refine WP.aload_n d_X8_twinLine_12 0 rfl ?_
    refine WP.aload_n d_X8_twinLine_13 0 rfl ?_
    obtain ⟨x4, ex4, H⟩ := ob H
    refine WP.fI d_X8_twinLine_14 gf_X8_210 (fun _ => rfl) ex4 ?_
    refine WP.aload_n d_X8_twinLine_17 0 rfl ?_
    obtain ⟨x5, ex5, H⟩ := ob H
    refine WP.fR d_X8_twinLine_18 gf_X8_41 (fun _ => rfl) ex5 ?_
    refine WP.iconst d_X8_twinLine_21 ki_0 ?_
    obtain ⟨x6, ex6, H⟩ := ob H
    refine WP.iald d_X8_twinLine_22 ex6 ?_
    obtain ⟨x8, e7, H⟩ := ob H
    refine WP.cS (As := [.int x4, .int x6]) (st := [.ref t]) (st9 := [.int x8, .ref t]) (cl9 := 0) (sl9 := 0) d_X8_twinLine_23 (ok_X8_greater V (h := h2) e7) tv_X8_greater ts_X8_greater lk_X8_171 r_X8_twinLine_X8_greater rfl rfl (Nat.le_of_ble_eq_true rfl) rfl rfl rfl ?_
    obtain ⟨h9, eh9, H⟩ := ob H
    refine WP.uI d_X8_twinLine_26 gf_X8_210 rfl (Or.inl rfl) rfl rfl eh9 ?_
    refine WP.aload_n d_X8_twinLine_29 0 rfl ?_
    refine WP.iconst d_X8_twinLine_30 ki_1 ?_
    obtain ⟨⟨x12, h11⟩, e10, H⟩ := ob H
    refine WP.cV (c := 9) (As := [.int 1]) (st := []) (st9 := [.int x12]) (cl9 := 0) (sl9 := 0) d_X8_twinLine_31 (ok_X8_takeField V e10) tv_X8_takeField ti_X8_takeField ts_X8_takeField lk_X8_201 r_X8_twinLine_X8_takeField kc_X8_takeField (kd_X8_takeField e10) rfl rfl (Nat.le_of_ble_eq_true rfl) rfl rfl rfl ?_
    rcases oj H with ⟨hc, H⟩ | ⟨hc, H⟩
    · refine WP.if_ne_t d_X8_twinLine_34 hc ?_
      refine WP.iconst d_X8_twinLine_37 ki_0 ?_
      cases H
      exact WP.ireturn d_X8_twinLine_38 rfl rfl (Nat.le_of_ble_eq_true rfl) (Nat.le_of_ble_eq_true rfl)
    · refine WP.if_ne_f d_X8_twinLine_34 hc ?_
      refine WP.aload_n d_X8_twinLine_39 0 rfl ?_
      obtain ⟨x13, ex13, H⟩ := ob H
      refine WP.fR d_X8_twinLine_40 gf_X8_41 (fun _ => rfl) ex13 ?_
      refine WP.iconst d_X8_twinLine_43 ki_0 ?_
      obtain ⟨x14, ex14, H⟩ := ob H
      refine WP.iald d_X8_twinLine_44 ex14 ?_
      refine WP.iconst d_X8_twinLine_45 ki_4 ?_
      rcases oj H with ⟨hc, H⟩ | ⟨hc, H⟩
      · refine WP.icmp_ge_t d_X8_twinLine_46 hc ?_
        refine WP.aload_n d_X8_twinLine_49 0 rfl ?_
        obtain ⟨x15, ex15, H⟩ := ob H
        refine WP.fR d_X8_twinLine_50 gf_X8_44 (fun _ => rfl) ex15 ?_
        refine WP.aload_n d_X8_twinLine_53 0 rfl ?_
        obtain ⟨x16, ex16, H⟩ := ob H
        refine WP.fR d_X8_twinLine_54 gf_X8_41 (fun _ => rfl) ex16 ?_
        refine WP.iconst d_X8_twinLine_57 ki_0 ?_
        obtain ⟨x17, ex17, H⟩ := ob H
        refine WP.iald d_X8_twinLine_58 ex17 ?_
        refine WP.aload_n d_X8_twinLine_59 0 rfl ?_
        obtain ⟨x18, ex18, H⟩ := ob H
        refine WP.fR d_X8_twinLine_60 gf_X8_41 (fun _ => rfl) ex18 ?_
        refine WP.iconst d_X8_twinLine_63 ki_1 ?_
        obtain ⟨x19, ex19, H⟩ := ob H
        refine WP.iald d_X8_twinLine_64 ex19 ?_
        obtain ⟨h20, eh20, H⟩ := ob H
        refine WP.ias d_X8_twinLine_65 eh20 ?_
        refine WP.iconst d_X8_twinLine_66 ki_1 ?_
        cases H
        exact WP.ireturn d_X8_twinLine_67 rfl rfl (Nat.le_of_ble_eq_true rfl) (Nat.le_of_ble_eq_true rfl)
      · refine WP.icmp_ge_f d_X8_twinLine_46 hc ?_
        refine WP.iconst d_X8_twinLine_66 ki_1 ?_
        cases H
        exact WP.ireturn d_X8_twinLine_67 rfl rfl (Nat.le_of_ble_eq_true rfl) (Nat.le_of_ble_eq_true rfl)

set_option maxRecDepth 20000 in
set_option maxHeartbeats 4000000 in
theorem ok_X8_courtLine (V : EV) {h : HA} {t : Nat} {l1 : Int64} {l3 : Int32} {r : Int32} {hR : HA} (H : X8_courtLine h t l1 l3 = some (r, hR)) : MG V M_X8_courtLine [.ref t, .long l1, .int l3] h (some (.int r)) hR := by
  unfold X8_courtLine at H
  obtain ⟨_, H⟩ := oc H
  refine MG.of (lv0 := [(0, .ref t), (1, .long l1), (3, .int l3)]) pn_X8 rfl (Nat.le_of_ble_eq_true rfl) ?_
  refine WP.lload_n d_X8_courtLine_0 1 rfl ?_
  refine WP.ldc2 d_X8_courtLine_1 wl_X8_175 ?_
  obtain ⟨j1, hs2, H⟩ := ol H
  have J3 : WP V M_X8_courtLine 21 [(0, .ref t), (1, .long l1), (3, .int l3)] [.int j1] h 0 0 (some (.int r)) hR := by
    refine WP.istore (lv9 := [(4, .int j1), (0, .ref t), (1, .long l1), (3, .int l3)]) d_X8_courtLine_21 (Nat.le_of_ble_eq_true rfl) rfl ?_
    refine WP.iload d_X8_courtLine_23 0 rfl ?_
    obtain ⟨s53, hs5, H⟩ := ob H
    rcases s53 with r48 | h4
    · dsimp only at H
      rcases oj hs5 with ⟨hc, hs5⟩ | ⟨hc, hs5⟩
      · refine WP.if_ne_t d_X8_courtLine_25 hc ?_
        refine WP.lload_n d_X8_courtLine_28 2 rfl ?_
        refine WP.ldc2 d_X8_courtLine_29 wl_X8_179 ?_
        rcases oj hs5 with ⟨hc, hs5⟩ | ⟨hc, hs5⟩
        · refine WP.lcmp_eq_t d_X8_courtLine_32 d_X8_courtLine_33 hc ?_
          cases hs5
        · refine WP.lcmp_eq_f d_X8_courtLine_32 d_X8_courtLine_33 hc ?_
          refine WP.lload_n d_X8_courtLine_36 2 rfl ?_
          refine WP.ldc2 d_X8_courtLine_37 wl_X8_181 ?_
          rcases oj hs5 with ⟨hc, hs5⟩ | ⟨hc, hs5⟩
          · refine WP.lcmp_eq_t d_X8_courtLine_40 d_X8_courtLine_41 hc ?_
            cases hs5
          · refine WP.lcmp_eq_f d_X8_courtLine_40 d_X8_courtLine_41 hc ?_
            refine WP.lload_n d_X8_courtLine_44 2 rfl ?_
            refine WP.ldc2 d_X8_courtLine_45 wl_X8_183 ?_
            rcases oj hs5 with ⟨hc, hs5⟩ | ⟨hc, hs5⟩
            · refine WP.lcmp_eq_t d_X8_courtLine_48 d_X8_courtLine_49 hc ?_
              cases hs5
            · refine WP.lcmp_eq_f d_X8_courtLine_48 d_X8_courtLine_49 hc ?_
              refine WP.lload_n d_X8_courtLine_52 2 rfl ?_
              refine WP.ldc2 d_X8_courtLine_53 wl_X8_185 ?_
              rcases oj hs5 with ⟨hc, hs5⟩ | ⟨hc, hs5⟩
              · refine WP.lcmp_eq_t d_X8_courtLine_56 d_X8_courtLine_57 hc ?_
                cases hs5
              · refine WP.lcmp_eq_f d_X8_courtLine_56 d_X8_courtLine_57 hc ?_
                refine WP.aload_n d_X8_courtLine_60 1 rfl ?_
                obtain ⟨⟨x51, h50⟩, e49, hs5⟩ := ob hs5
                refine WP.cV (c := 9) (As := []) (st := []) (st9 := [.int x51]) (cl9 := 0) (sl9 := 0) d_X8_courtLine_61 (ok_X8_stops V e49) tv_X8_stops ti_X8_stops ts_X8_stops lk_X8_154 r_X8_courtLine_X8_stops kc_X8_stops (kd_X8_stops e49) rfl rfl (Nat.le_of_ble_eq_true rfl) rfl rfl rfl ?_
                obtain ⟨x52, ex52, hs5⟩ := ob hs5
                obtain ⟨rfl, hnx52⟩ := bz_sp ex52
                cases hs5
                cases H
                exact WP.ireturn d_X8_courtLine_64 rfl hnx52 (Nat.le_of_ble_eq_true rfl) (Nat.le_of_ble_eq_true rfl)
      · refine WP.if_ne_f d_X8_courtLine_25 hc ?_
        cases hs5
    · dsimp only at H
      have J6 : WP V M_X8_courtLine 65 [(0, .ref t), (1, .long l1), (3, .int l3), (4, .int j1)] [] h4 0 0 (some (.int r)) hR := by
        refine WP.iload d_X8_courtLine_65 3 rfl ?_
        obtain ⟨h11, hs12, H⟩ := ob H
        have J13 : WP V M_X8_courtLine 96 [(0, .ref t), (1, .long l1), (4, .int j1)] [] h11 0 0 (some (.int r)) hR := by
          refine WP.aload_n d_X8_courtLine_96 0 rfl ?_
          obtain ⟨h19, e18, H⟩ := ob H
          refine WP.cV (c := 9) (As := []) (st := []) (st9 := []) (cl9 := 0) (sl9 := 0) d_X8_courtLine_97 (ok_X8_token V e18) tv_X8_token ti_X8_token ts_X8_token lk_X8_162 r_X8_courtLine_X8_token kc_X8_token (kd_X8_token e18) rfl rfl (Nat.le_of_ble_eq_true rfl) rfl rfl rfl ?_
          refine WP.iload d_X8_courtLine_100 2 rfl ?_
          rcases oj H with ⟨hc, H⟩ | ⟨hc, H⟩
          · refine WP.if_eq_t d_X8_courtLine_102 hc ?_
            refine WP.lload_n d_X8_courtLine_123 1 rfl ?_
            refine WP.ldc2 d_X8_courtLine_124 wl_X8_179 ?_
            rcases oj H with ⟨hc, H⟩ | ⟨hc, H⟩
            · refine WP.lcmp_ne_t d_X8_courtLine_127 d_X8_courtLine_128 hc ?_
              refine WP.aload_n d_X8_courtLine_131 0 rfl ?_
              obtain ⟨⟨x22, h21⟩, e20, H⟩ := ob H
              refine WP.cV (c := 9) (As := []) (st := []) (st9 := [.int x22]) (cl9 := 0) (sl9 := 0) d_X8_courtLine_132 (ok_X8_sizeLine V e20) tv_X8_sizeLine ti_X8_sizeLine ts_X8_sizeLine lk_X8_195 r_X8_courtLine_X8_sizeLine kc_X8_sizeLine (kd_X8_sizeLine e20) rfl rfl (Nat.le_of_ble_eq_true rfl) rfl rfl rfl ?_
              refine WP.istore (lv9 := [(5, .int x22), (0, .ref t), (1, .long l1), (4, .int j1)]) d_X8_courtLine_135 (Nat.le_of_ble_eq_true rfl) rfl ?_
              refine WP.goto d_X8_courtLine_137 ?_
              refine WP.iload d_X8_courtLine_197 0 rfl ?_
              obtain ⟨x23, ex23, H⟩ := ob H
              obtain ⟨rfl, hnx23⟩ := bz_sp ex23
              cases H
              exact WP.ireturn d_X8_courtLine_199 rfl hnx23 (Nat.le_of_ble_eq_true rfl) (Nat.le_of_ble_eq_true rfl)
            · refine WP.lcmp_ne_f d_X8_courtLine_127 d_X8_courtLine_128 hc ?_
              refine WP.lload_n d_X8_courtLine_140 1 rfl ?_
              refine WP.ldc2 d_X8_courtLine_141 wl_X8_181 ?_
              rcases oj H with ⟨hc, H⟩ | ⟨hc, H⟩
              · refine WP.lcmp_ne_t d_X8_courtLine_144 d_X8_courtLine_145 hc ?_
                refine WP.aload_n d_X8_courtLine_148 0 rfl ?_
                obtain ⟨⟨x26, h25⟩, e24, H⟩ := ob H
                refine WP.cV (c := 9) (As := []) (st := []) (st9 := [.int x26]) (cl9 := 0) (sl9 := 0) d_X8_courtLine_149 (ok_X8_wallLine V e24) tv_X8_wallLine ti_X8_wallLine ts_X8_wallLine lk_X8_198 r_X8_courtLine_X8_wallLine kc_X8_wallLine (kd_X8_wallLine e24) rfl rfl (Nat.le_of_ble_eq_true rfl) rfl rfl rfl ?_
                refine WP.istore (lv9 := [(5, .int x26), (0, .ref t), (1, .long l1), (4, .int j1)]) d_X8_courtLine_152 (Nat.le_of_ble_eq_true rfl) rfl ?_
                refine WP.goto d_X8_courtLine_154 ?_
                refine WP.iload d_X8_courtLine_197 0 rfl ?_
                obtain ⟨x27, ex27, H⟩ := ob H
                obtain ⟨rfl, hnx27⟩ := bz_sp ex27
                cases H
                exact WP.ireturn d_X8_courtLine_199 rfl hnx27 (Nat.le_of_ble_eq_true rfl) (Nat.le_of_ble_eq_true rfl)
              · refine WP.lcmp_ne_f d_X8_courtLine_144 d_X8_courtLine_145 hc ?_
                refine WP.lload_n d_X8_courtLine_157 1 rfl ?_
                refine WP.ldc2 d_X8_courtLine_158 wl_X8_183 ?_
                rcases oj H with ⟨hc, H⟩ | ⟨hc, H⟩
                · refine WP.lcmp_ne_t d_X8_courtLine_161 d_X8_courtLine_162 hc ?_
                  refine WP.aload_n d_X8_courtLine_165 0 rfl ?_
                  refine WP.iconst d_X8_courtLine_166 ki_0 ?_
                  obtain ⟨⟨x30, h29⟩, e28, H⟩ := ob H
                  refine WP.cV (c := 9) (As := [.int 0]) (st := []) (st9 := [.int x30]) (cl9 := 0) (sl9 := 0) d_X8_courtLine_167 (ok_X8_takeField V e28) tv_X8_takeField ti_X8_takeField ts_X8_takeField lk_X8_201 r_X8_courtLine_X8_takeField kc_X8_takeField (kd_X8_takeField e28) rfl rfl (Nat.le_of_ble_eq_true rfl) rfl rfl rfl ?_
                  refine WP.istore (lv9 := [(5, .int x30), (0, .ref t), (1, .long l1), (4, .int j1)]) d_X8_courtLine_170 (Nat.le_of_ble_eq_true rfl) rfl ?_
                  refine WP.aload_n d_X8_courtLine_172 1 rfl ?_
                  obtain ⟨x31, ex31, H⟩ := ob H
                  refine WP.fR d_X8_courtLine_173 gf_X8_41 (fun _ => rfl) ex31 ?_
                  refine WP.iconst d_X8_courtLine_176 ki_1 ?_
                  refine WP.iconst d_X8_courtLine_177 ki_m1 ?_
                  obtain ⟨h32, eh32, H⟩ := ob H
                  refine WP.ias d_X8_courtLine_178 eh32 ?_
                  refine WP.iload d_X8_courtLine_179 0 rfl ?_
                  rcases oj H with ⟨hc, H⟩ | ⟨hc, H⟩
                  · refine WP.if_eq_t d_X8_courtLine_181 hc ?_
                    refine WP.iload d_X8_courtLine_197 0 rfl ?_
                    obtain ⟨x33, ex33, H⟩ := ob H
                    obtain ⟨rfl, hnx33⟩ := bz_sp ex33
                    cases H
                    exact WP.ireturn d_X8_courtLine_199 rfl hnx33 (Nat.le_of_ble_eq_true rfl) (Nat.le_of_ble_eq_true rfl)
                  · refine WP.if_eq_f d_X8_courtLine_181 hc ?_
                    refine WP.aload_n d_X8_courtLine_184 1 rfl ?_
                    obtain ⟨h35, e34, H⟩ := ob H
                    refine WP.cV (c := 9) (As := []) (st := []) (st9 := []) (cl9 := 0) (sl9 := 0) d_X8_courtLine_185 (ok_X8_pleads V e34) tv_X8_pleads ti_X8_pleads ts_X8_pleads lk_X8_204 r_X8_courtLine_X8_pleads kc_X8_pleads (kd_X8_pleads e34) rfl rfl (Nat.le_of_ble_eq_true rfl) rfl rfl rfl ?_
                    refine WP.goto d_X8_courtLine_188 ?_
                    refine WP.iload d_X8_courtLine_197 0 rfl ?_
                    obtain ⟨x36, ex36, H⟩ := ob H
                    obtain ⟨rfl, hnx36⟩ := bz_sp ex36
                    cases H
                    exact WP.ireturn d_X8_courtLine_199 rfl hnx36 (Nat.le_of_ble_eq_true rfl) (Nat.le_of_ble_eq_true rfl)
                · refine WP.lcmp_ne_f d_X8_courtLine_161 d_X8_courtLine_162 hc ?_
                  refine WP.aload_n d_X8_courtLine_191 0 rfl ?_
                  obtain ⟨⟨x39, h38⟩, e37, H⟩ := ob H
                  refine WP.cV (c := 9) (As := []) (st := []) (st9 := [.int x39]) (cl9 := 0) (sl9 := 0) d_X8_courtLine_192 (ok_X8_twinLine V e37) tv_X8_twinLine ti_X8_twinLine ts_X8_twinLine lk_X8_207 r_X8_courtLine_X8_twinLine kc_X8_twinLine (kd_X8_twinLine e37) rfl rfl (Nat.le_of_ble_eq_true rfl) rfl rfl rfl ?_
                  refine WP.istore (lv9 := [(5, .int x39), (0, .ref t), (1, .long l1), (4, .int j1)]) d_X8_courtLine_195 (Nat.le_of_ble_eq_true rfl) rfl ?_
                  refine WP.iload d_X8_courtLine_197 0 rfl ?_
                  obtain ⟨x40, ex40, H⟩ := ob H
                  obtain ⟨rfl, hnx40⟩ := bz_sp ex40
                  cases H
                  exact WP.ireturn d_X8_courtLine_199 rfl hnx40 (Nat.le_of_ble_eq_true rfl) (Nat.le_of_ble_eq_true rfl)
          · refine WP.if_eq_f d_X8_courtLine_102 hc ?_
            refine WP.aload_n d_X8_courtLine_105 0 rfl ?_
            refine WP.lload_n d_X8_courtLine_106 1 rfl ?_
            refine WP.ldc2 d_X8_courtLine_107 wl_X8_175 ?_
            obtain ⟨j41, hs42, H⟩ := ol H
            have J43 : WP V M_X8_courtLine 119 [] [.int j41, .ref t] h19 0 0 (some (.int r)) hR := by
              obtain ⟨⟨x46, h45⟩, e44, H⟩ := ob H
              refine WP.cV (c := 9) (As := [.int j41]) (st := []) (st9 := [.int x46]) (cl9 := 0) (sl9 := 0) d_X8_courtLine_119 (ok_X8_judgeLine V e44) tv_X8_judgeLine ti_X8_judgeLine ts_X8_judgeLine lk_X8_191 r_X8_courtLine_X8_judgeLine kc_X8_judgeLine (kd_X8_judgeLine e44) rfl rfl (Nat.le_of_ble_eq_true rfl) rfl rfl rfl ?_
              obtain ⟨x47, ex47, H⟩ := ob H
              obtain ⟨rfl, hnx47⟩ := bz_sp ex47
              cases H
              exact WP.ireturn d_X8_courtLine_122 rfl hnx47 (Nat.le_of_ble_eq_true rfl) (Nat.le_of_ble_eq_true rfl)
            rcases oj hs42 with ⟨hc, hs42⟩ | ⟨hc, hs42⟩
            · refine WP.lcmp_ne_t d_X8_courtLine_110 d_X8_courtLine_111 hc ?_
              refine WP.iconst d_X8_courtLine_114 ki_0 ?_
              refine WP.goto d_X8_courtLine_115 ?_
              cases hs42
              exact WP.sub [] rfl J43
            · refine WP.lcmp_ne_f d_X8_courtLine_110 d_X8_courtLine_111 hc ?_
              refine WP.iconst d_X8_courtLine_118 ki_1 ?_
              cases hs42
              exact WP.sub [] rfl J43
        rcases oj hs12 with ⟨hc, hs12⟩ | ⟨hc, hs12⟩
        · refine WP.if_eq_t d_X8_courtLine_67 hc ?_
          refine WP.lload_n d_X8_courtLine_81 1 rfl ?_
          refine WP.ldc2 d_X8_courtLine_82 wl_X8_183 ?_
          rcases oj hs12 with ⟨hc, hs12⟩ | ⟨hc, hs12⟩
          · refine WP.lcmp_ne_t d_X8_courtLine_85 d_X8_courtLine_86 hc ?_
            refine WP.aload_n d_X8_courtLine_89 0 rfl ?_
            refine WP.iconst d_X8_courtLine_90 ki_3 ?_
            refine WP.iconst d_X8_courtLine_91 ki_4 ?_
            refine WP.iload_n d_X8_courtLine_92 2 rfl ?_
            obtain ⟨h15, e14, hs12⟩ := ob hs12
            refine WP.cV (c := 9) (As := [.int 3, .int 4, .int l3]) (st := []) (st9 := []) (cl9 := 0) (sl9 := 0) d_X8_courtLine_93 (ok_X8_full V e14) tv_X8_full ti_X8_full ts_X8_full lk_X8_187 r_X8_courtLine_X8_full kc_X8_full (kd_X8_full e14) rfl rfl (Nat.le_of_ble_eq_true rfl) rfl rfl rfl ?_
            cases hs12
            exact WP.sub [0, 1, 3] rfl J13
          · refine WP.lcmp_ne_f d_X8_courtLine_85 d_X8_courtLine_86 hc ?_
            cases hs12
            exact WP.sub [0, 1, 3] rfl J13
        · refine WP.if_eq_f d_X8_courtLine_67 hc ?_
          refine WP.aload_n d_X8_courtLine_70 0 rfl ?_
          refine WP.iconst d_X8_courtLine_71 ki_2 ?_
          refine WP.bipush d_X8_courtLine_72 kb_6 ?_
          refine WP.iload_n d_X8_courtLine_74 2 rfl ?_
          obtain ⟨h17, e16, hs12⟩ := ob hs12
          refine WP.cV (c := 9) (As := [.int 2, .int 6, .int l3]) (st := []) (st9 := []) (cl9 := 0) (sl9 := 0) d_X8_courtLine_75 (ok_X8_full V e16) tv_X8_full ti_X8_full ts_X8_full lk_X8_187 r_X8_courtLine_X8_full kc_X8_full (kd_X8_full e16) rfl rfl (Nat.le_of_ble_eq_true rfl) rfl rfl rfl ?_
          refine WP.goto d_X8_courtLine_78 ?_
          cases hs12
          exact WP.sub [0, 1, 3] rfl J13
      rcases oj hs5 with ⟨hc, hs5⟩ | ⟨hc, hs5⟩
      · refine WP.if_ne_t d_X8_courtLine_25 hc ?_
        refine WP.lload_n d_X8_courtLine_28 2 rfl ?_
        refine WP.ldc2 d_X8_courtLine_29 wl_X8_179 ?_
        rcases oj hs5 with ⟨hc, hs5⟩ | ⟨hc, hs5⟩
        · refine WP.lcmp_eq_t d_X8_courtLine_32 d_X8_courtLine_33 hc ?_
          cases hs5
          exact WP.sub [1, 2, 3, 0] rfl J6
        · refine WP.lcmp_eq_f d_X8_courtLine_32 d_X8_courtLine_33 hc ?_
          refine WP.lload_n d_X8_courtLine_36 2 rfl ?_
          refine WP.ldc2 d_X8_courtLine_37 wl_X8_181 ?_
          rcases oj hs5 with ⟨hc, hs5⟩ | ⟨hc, hs5⟩
          · refine WP.lcmp_eq_t d_X8_courtLine_40 d_X8_courtLine_41 hc ?_
            cases hs5
            exact WP.sub [1, 2, 3, 0] rfl J6
          · refine WP.lcmp_eq_f d_X8_courtLine_40 d_X8_courtLine_41 hc ?_
            refine WP.lload_n d_X8_courtLine_44 2 rfl ?_
            refine WP.ldc2 d_X8_courtLine_45 wl_X8_183 ?_
            rcases oj hs5 with ⟨hc, hs5⟩ | ⟨hc, hs5⟩
            · refine WP.lcmp_eq_t d_X8_courtLine_48 d_X8_courtLine_49 hc ?_
              cases hs5
              exact WP.sub [1, 2, 3, 0] rfl J6
            · refine WP.lcmp_eq_f d_X8_courtLine_48 d_X8_courtLine_49 hc ?_
              refine WP.lload_n d_X8_courtLine_52 2 rfl ?_
              refine WP.ldc2 d_X8_courtLine_53 wl_X8_185 ?_
              rcases oj hs5 with ⟨hc, hs5⟩ | ⟨hc, hs5⟩
              · refine WP.lcmp_eq_t d_X8_courtLine_56 d_X8_courtLine_57 hc ?_
                cases hs5
                exact WP.sub [1, 2, 3, 0] rfl J6
              · refine WP.lcmp_eq_f d_X8_courtLine_56 d_X8_courtLine_57 hc ?_
                refine WP.aload_n d_X8_courtLine_60 1 rfl ?_
                obtain ⟨⟨x9, h8⟩, e7, hs5⟩ := ob hs5
                refine WP.cV (c := 9) (As := []) (st := []) (st9 := [.int x9]) (cl9 := 0) (sl9 := 0) d_X8_courtLine_61 (ok_X8_stops V e7) tv_X8_stops ti_X8_stops ts_X8_stops lk_X8_154 r_X8_courtLine_X8_stops kc_X8_stops (kd_X8_stops e7) rfl rfl (Nat.le_of_ble_eq_true rfl) rfl rfl rfl ?_
                obtain ⟨x10, ex10, hs5⟩ := ob hs5
                obtain ⟨rfl, hnx10⟩ := bz_sp ex10
                cases hs5
      · refine WP.if_ne_f d_X8_courtLine_25 hc ?_
        cases hs5
        exact WP.sub [1, 2, 3, 0] rfl J6
  rcases oj hs2 with ⟨hc, hs2⟩ | ⟨hc, hs2⟩
  · refine WP.lcmp_eq_t d_X8_courtLine_4 d_X8_courtLine_5 hc ?_
    refine WP.iconst d_X8_courtLine_16 ki_1 ?_
    refine WP.goto d_X8_courtLine_17 ?_
    cases hs2
    exact WP.sub [0, 1, 2] rfl J3
  · refine WP.lcmp_eq_f d_X8_courtLine_4 d_X8_courtLine_5 hc ?_
    refine WP.lload_n d_X8_courtLine_8 1 rfl ?_
    refine WP.ldc2 d_X8_courtLine_9 wl_X8_177 ?_
    rcases oj hs2 with ⟨hc, hs2⟩ | ⟨hc, hs2⟩
    · refine WP.lcmp_ne_t d_X8_courtLine_12 d_X8_courtLine_13 hc ?_
      refine WP.iconst d_X8_courtLine_16 ki_1 ?_
      refine WP.goto d_X8_courtLine_17 ?_
      cases hs2
      exact WP.sub [0, 1, 2] rfl J3
    · refine WP.lcmp_ne_f d_X8_courtLine_12 d_X8_courtLine_13 hc ?_
      refine WP.iconst d_X8_courtLine_20 ki_0 ?_
      cases hs2
      exact WP.sub [0, 1, 2] rfl J3

set_option maxRecDepth 20000 in
set_option maxHeartbeats 4000000 in
theorem ok_X8_trialLine (V : EV) {h : HA} {t : Nat} {l1 : Int64} {l3 : Int32} {r : Int32} {hR : HA} (H : X8_trialLine h t l1 l3 = some (r, hR)) : MG V M_X8_trialLine [.ref t, .long l1, .int l3] h (some (.int r)) hR := by
  unfold X8_trialLine at H
  obtain ⟨_, H⟩ := oc H
  refine MG.of (lv0 := [(0, .ref t), (1, .long l1), (3, .int l3)]) pn_X8 rfl (Nat.le_of_ble_eq_true rfl) ?_
  refine WP.lload_n d_X8_trialLine_0 1 rfl ?_
  refine WP.ldc2 d_X8_trialLine_1 wl_X8_217 ?_
  obtain ⟨s58, hs2, H⟩ := ob H
  rcases s58 with r53 | h1
  · dsimp only at H
    rcases oj hs2 with ⟨hc, hs2⟩ | ⟨hc, hs2⟩
    · refine WP.lcmp_eq_t d_X8_trialLine_4 d_X8_trialLine_5 hc ?_
      cases hs2
    · refine WP.lcmp_eq_f d_X8_trialLine_4 d_X8_trialLine_5 hc ?_
      refine WP.lload_n d_X8_trialLine_8 1 rfl ?_
      refine WP.ldc2 d_X8_trialLine_9 wl_X8_219 ?_
      rcases oj hs2 with ⟨hc, hs2⟩ | ⟨hc, hs2⟩
      · refine WP.lcmp_eq_t d_X8_trialLine_12 d_X8_trialLine_13 hc ?_
        cases hs2
      · refine WP.lcmp_eq_f d_X8_trialLine_12 d_X8_trialLine_13 hc ?_
        refine WP.lload_n d_X8_trialLine_16 1 rfl ?_
        refine WP.ldc2 d_X8_trialLine_17 wl_X8_221 ?_
        rcases oj hs2 with ⟨hc, hs2⟩ | ⟨hc, hs2⟩
        · refine WP.lcmp_eq_t d_X8_trialLine_20 d_X8_trialLine_21 hc ?_
          cases hs2
        · refine WP.lcmp_eq_f d_X8_trialLine_20 d_X8_trialLine_21 hc ?_
          refine WP.aload_n d_X8_trialLine_24 0 rfl ?_
          obtain ⟨⟨x56, h55⟩, e54, hs2⟩ := ob hs2
          refine WP.cV (c := 9) (As := []) (st := []) (st9 := [.int x56]) (cl9 := 0) (sl9 := 0) d_X8_trialLine_25 (ok_X8_stops V e54) tv_X8_stops ti_X8_stops ts_X8_stops lk_X8_154 r_X8_trialLine_X8_stops kc_X8_stops (kd_X8_stops e54) rfl rfl (Nat.le_of_ble_eq_true rfl) rfl rfl rfl ?_
          obtain ⟨x57, ex57, hs2⟩ := ob hs2
          obtain ⟨rfl, hnx57⟩ := bz_sp ex57
          cases hs2
          cases H
          exact WP.ireturn d_X8_trialLine_28 rfl hnx57 (Nat.le_of_ble_eq_true rfl) (Nat.le_of_ble_eq_true rfl)
  · dsimp only at H
    have J3 : WP V M_X8_trialLine 29 [(0, .ref t), (1, .long l1), (3, .int l3)] [] h1 0 0 (some (.int r)) hR := by
      refine WP.aload_n d_X8_trialLine_29 0 rfl ?_
      refine WP.iconst d_X8_trialLine_30 ki_0 ?_
      refine WP.bipush d_X8_trialLine_31 kb_30 ?_
      refine WP.iload_n d_X8_trialLine_33 2 rfl ?_
      obtain ⟨h9, e8, H⟩ := ob H
      refine WP.cV (c := 9) (As := [.int 0, .int 30, .int l3]) (st := []) (st9 := []) (cl9 := 0) (sl9 := 0) d_X8_trialLine_34 (ok_X8_full V e8) tv_X8_full ti_X8_full ts_X8_full lk_X8_187 r_X8_trialLine_X8_full kc_X8_full (kd_X8_full e8) rfl rfl (Nat.le_of_ble_eq_true rfl) rfl rfl rfl ?_
      refine WP.aload_n d_X8_trialLine_37 0 rfl ?_
      obtain ⟨h11, e10, H⟩ := ob H
      refine WP.cV (c := 9) (As := []) (st := []) (st9 := []) (cl9 := 0) (sl9 := 0) d_X8_trialLine_38 (ok_X8_token V e10) tv_X8_token ti_X8_token ts_X8_token lk_X8_162 r_X8_trialLine_X8_token kc_X8_token (kd_X8_token e10) rfl rfl (Nat.le_of_ble_eq_true rfl) rfl rfl rfl ?_
      refine WP.aload_n d_X8_trialLine_41 0 rfl ?_
      obtain ⟨x12, ex12, H⟩ := ob H
      refine WP.fR d_X8_trialLine_42 gf_X8_41 (fun _ => rfl) ex12 ?_
      refine WP.iconst d_X8_trialLine_45 ki_0 ?_
      refine WP.lload_n d_X8_trialLine_46 1 rfl ?_
      refine WP.ldc2 d_X8_trialLine_47 wl_X8_217 ?_
      obtain ⟨j13, hs14, H⟩ := ol H
      have J15 : WP V M_X8_trialLine 71 [(0, .ref t), (1, .long l1)] [.int j13, .int 0, .ref x12] h11 0 0 (some (.int r)) hR := by
        obtain ⟨h16, eh16, H⟩ := ob H
        refine WP.ias d_X8_trialLine_71 eh16 ?_
        refine WP.aload_n d_X8_trialLine_72 0 rfl ?_
        obtain ⟨x17, ex17, H⟩ := ob H
        refine WP.fR d_X8_trialLine_73 gf_X8_41 (fun _ => rfl) ex17 ?_
        refine WP.iconst d_X8_trialLine_76 ki_1 ?_
        refine WP.iconst d_X8_trialLine_77 ki_m1 ?_
        obtain ⟨h18, eh18, H⟩ := ob H
        refine WP.ias d_X8_trialLine_78 eh18 ?_
        refine WP.aload_n d_X8_trialLine_79 0 rfl ?_
        obtain ⟨x19, ex19, H⟩ := ob H
        refine WP.fR d_X8_trialLine_80 gf_X8_41 (fun _ => rfl) ex19 ?_
        refine WP.iconst d_X8_trialLine_83 ki_2 ?_
        refine WP.iconst d_X8_trialLine_84 ki_m1 ?_
        obtain ⟨h20, eh20, H⟩ := ob H
        refine WP.ias d_X8_trialLine_85 eh20 ?_
        refine WP.aload_n d_X8_trialLine_86 0 rfl ?_
        obtain ⟨x21, ex21, H⟩ := ob H
        refine WP.fR d_X8_trialLine_87 gf_X8_41 (fun _ => rfl) ex21 ?_
        refine WP.iconst d_X8_trialLine_90 ki_3 ?_
        refine WP.iconst d_X8_trialLine_91 ki_m1 ?_
        obtain ⟨h22, eh22, H⟩ := ob H
        refine WP.ias d_X8_trialLine_92 eh22 ?_
        refine WP.lload_n d_X8_trialLine_93 1 rfl ?_
        refine WP.ldc2 d_X8_trialLine_94 wl_X8_221 ?_
        obtain ⟨s52, hs24, H⟩ := ob H
        rcases s52 with r42 | h23
        · dsimp only at H
          rcases oj hs24 with ⟨hc, hs24⟩ | ⟨hc, hs24⟩
          · refine WP.lcmp_eq_t d_X8_trialLine_97 d_X8_trialLine_98 hc ?_
            cases hs24
          · refine WP.lcmp_eq_f d_X8_trialLine_97 d_X8_trialLine_98 hc ?_
            refine WP.aload_n d_X8_trialLine_101 0 rfl ?_
            refine WP.iconst d_X8_trialLine_102 ki_1 ?_
            refine WP.iconst d_X8_trialLine_103 ki_0 ?_
            refine WP.iconst d_X8_trialLine_104 ki_3 ?_
            obtain ⟨⟨x45, h44⟩, e43, hs24⟩ := ob hs24
            refine WP.cV (c := 9) (As := [.int 1, .int 0, .int 3]) (st := []) (st9 := [.int x45]) (cl9 := 0) (sl9 := 0) d_X8_trialLine_105 (ok_X8_take V e43) tv_X8_take ti_X8_take ts_X8_take lk_X8_165 r_X8_trialLine_X8_take kc_X8_take (kd_X8_take e43) rfl rfl (Nat.le_of_ble_eq_true rfl) rfl rfl rfl ?_
            rcases oj hs24 with ⟨hc, hs24⟩ | ⟨hc, hs24⟩
            · refine WP.if_eq_t d_X8_trialLine_108 hc ?_
              refine WP.iconst d_X8_trialLine_134 ki_0 ?_
              cases hs24
              cases H
              exact WP.ireturn d_X8_trialLine_135 rfl rfl (Nat.le_of_ble_eq_true rfl) (Nat.le_of_ble_eq_true rfl)
            · refine WP.if_eq_f d_X8_trialLine_108 hc ?_
              refine WP.aload_n d_X8_trialLine_111 0 rfl ?_
              refine WP.iconst d_X8_trialLine_112 ki_2 ?_
              refine WP.iconst d_X8_trialLine_113 ki_0 ?_
              refine WP.lload_n d_X8_trialLine_114 1 rfl ?_
              refine WP.ldc2 d_X8_trialLine_115 wl_X8_217 ?_
              obtain ⟨j46, hs47, hs24⟩ := ol hs24
              have J48 : WP V M_X8_trialLine 128 [(0, .ref t), (1, .long l1)] [.int j46, .int 0, .int 2, .ref t] h44 0 0 (some (.int r)) hR := by
                obtain ⟨⟨x51, h50⟩, e49, hs24⟩ := ob hs24
                refine WP.cV (c := 9) (As := [.int 2, .int 0, .int j46]) (st := []) (st9 := [.int x51]) (cl9 := 0) (sl9 := 0) d_X8_trialLine_128 (ok_X8_take V e49) tv_X8_take ti_X8_take ts_X8_take lk_X8_165 r_X8_trialLine_X8_take kc_X8_take (kd_X8_take e49) rfl rfl (Nat.le_of_ble_eq_true rfl) rfl rfl rfl ?_
                rcases oj hs24 with ⟨hc, hs24⟩ | ⟨hc, hs24⟩
                · refine WP.if_ne_t d_X8_trialLine_131 hc ?_
                  refine WP.iconst d_X8_trialLine_134 ki_0 ?_
                  cases hs24
                  cases H
                  exact WP.ireturn d_X8_trialLine_135 rfl rfl (Nat.le_of_ble_eq_true rfl) (Nat.le_of_ble_eq_true rfl)
                · refine WP.if_ne_f d_X8_trialLine_131 hc ?_
                  cases hs24
              rcases oj hs47 with ⟨hc, hs47⟩ | ⟨hc, hs47⟩
              · refine WP.lcmp_ne_t d_X8_trialLine_118 d_X8_trialLine_119 hc ?_
                refine WP.iconst d_X8_trialLine_122 ki_3 ?_
                refine WP.goto d_X8_trialLine_123 ?_
                cases hs47
                exact WP.sub [0, 1] rfl J48
              · refine WP.lcmp_ne_f d_X8_trialLine_118 d_X8_trialLine_119 hc ?_
                refine WP.bipush d_X8_trialLine_126 kb_9 ?_
                cases hs47
                exact WP.sub [0, 1] rfl J48
        · dsimp only at H
          have J25 : WP V M_X8_trialLine 136 [(0, .ref t), (1, .long l1)] [] h23 0 0 (some (.int r)) hR := by
            refine WP.lload_n d_X8_trialLine_136 1 rfl ?_
            refine WP.ldc2 d_X8_trialLine_137 wl_X8_219 ?_
            rcases oj H with ⟨hc, H⟩ | ⟨hc, H⟩
            · refine WP.lcmp_ne_t d_X8_trialLine_140 d_X8_trialLine_141 hc ?_
              refine WP.aload_n d_X8_trialLine_144 0 rfl ?_
              refine WP.iconst d_X8_trialLine_145 ki_3 ?_
              refine WP.iconst d_X8_trialLine_146 ki_0 ?_
              refine WP.bipush d_X8_trialLine_147 kb_9 ?_
              obtain ⟨⟨x37, h36⟩, e35, H⟩ := ob H
              refine WP.cV (c := 9) (As := [.int 3, .int 0, .int 9]) (st := []) (st9 := [.int x37]) (cl9 := 0) (sl9 := 0) d_X8_trialLine_149 (ok_X8_take V e35) tv_X8_take ti_X8_take ts_X8_take lk_X8_165 r_X8_trialLine_X8_take kc_X8_take (kd_X8_take e35) rfl rfl (Nat.le_of_ble_eq_true rfl) rfl rfl rfl ?_
              rcases oj H with ⟨hc, H⟩ | ⟨hc, H⟩
              · refine WP.if_ne_t d_X8_trialLine_152 hc ?_
                refine WP.iconst d_X8_trialLine_155 ki_0 ?_
                cases H
                exact WP.ireturn d_X8_trialLine_156 rfl rfl (Nat.le_of_ble_eq_true rfl) (Nat.le_of_ble_eq_true rfl)
              · refine WP.if_ne_f d_X8_trialLine_152 hc ?_
                refine WP.aload_n d_X8_trialLine_157 0 rfl ?_
                refine WP.iconst d_X8_trialLine_158 ki_0 ?_
                refine WP.iconst d_X8_trialLine_159 ki_1 ?_
                refine WP.iconst d_X8_trialLine_160 ki_4 ?_
                refine WP.bipush d_X8_trialLine_161 kb_30 ?_
                obtain ⟨h39, e38, H⟩ := ob H
                refine WP.cV (c := 9) (As := [.int 0, .int 1, .int 4, .int 30]) (st := []) (st9 := []) (cl9 := 0) (sl9 := 0) d_X8_trialLine_163 (ok_X8_keep V e38) tv_X8_keep ti_X8_keep ts_X8_keep lk_X8_213 r_X8_trialLine_X8_keep kc_X8_keep (kd_X8_keep e38) rfl rfl (Nat.le_of_ble_eq_true rfl) rfl rfl rfl ?_
                refine WP.iconst d_X8_trialLine_166 ki_1 ?_
                cases H
                exact WP.ireturn d_X8_trialLine_167 rfl rfl (Nat.le_of_ble_eq_true rfl) (Nat.le_of_ble_eq_true rfl)
            · refine WP.lcmp_ne_f d_X8_trialLine_140 d_X8_trialLine_141 hc ?_
              refine WP.aload_n d_X8_trialLine_157 0 rfl ?_
              refine WP.iconst d_X8_trialLine_158 ki_0 ?_
              refine WP.iconst d_X8_trialLine_159 ki_1 ?_
              refine WP.iconst d_X8_trialLine_160 ki_4 ?_
              refine WP.bipush d_X8_trialLine_161 kb_30 ?_
              obtain ⟨h41, e40, H⟩ := ob H
              refine WP.cV (c := 9) (As := [.int 0, .int 1, .int 4, .int 30]) (st := []) (st9 := []) (cl9 := 0) (sl9 := 0) d_X8_trialLine_163 (ok_X8_keep V e40) tv_X8_keep ti_X8_keep ts_X8_keep lk_X8_213 r_X8_trialLine_X8_keep kc_X8_keep (kd_X8_keep e40) rfl rfl (Nat.le_of_ble_eq_true rfl) rfl rfl rfl ?_
              refine WP.iconst d_X8_trialLine_166 ki_1 ?_
              cases H
              exact WP.ireturn d_X8_trialLine_167 rfl rfl (Nat.le_of_ble_eq_true rfl) (Nat.le_of_ble_eq_true rfl)
          rcases oj hs24 with ⟨hc, hs24⟩ | ⟨hc, hs24⟩
          · refine WP.lcmp_eq_t d_X8_trialLine_97 d_X8_trialLine_98 hc ?_
            cases hs24
            exact WP.sub [0, 1] rfl J25
          · refine WP.lcmp_eq_f d_X8_trialLine_97 d_X8_trialLine_98 hc ?_
            refine WP.aload_n d_X8_trialLine_101 0 rfl ?_
            refine WP.iconst d_X8_trialLine_102 ki_1 ?_
            refine WP.iconst d_X8_trialLine_103 ki_0 ?_
            refine WP.iconst d_X8_trialLine_104 ki_3 ?_
            obtain ⟨⟨x28, h27⟩, e26, hs24⟩ := ob hs24
            refine WP.cV (c := 9) (As := [.int 1, .int 0, .int 3]) (st := []) (st9 := [.int x28]) (cl9 := 0) (sl9 := 0) d_X8_trialLine_105 (ok_X8_take V e26) tv_X8_take ti_X8_take ts_X8_take lk_X8_165 r_X8_trialLine_X8_take kc_X8_take (kd_X8_take e26) rfl rfl (Nat.le_of_ble_eq_true rfl) rfl rfl rfl ?_
            rcases oj hs24 with ⟨hc, hs24⟩ | ⟨hc, hs24⟩
            · refine WP.if_eq_t d_X8_trialLine_108 hc ?_
              refine WP.iconst d_X8_trialLine_134 ki_0 ?_
              cases hs24
            · refine WP.if_eq_f d_X8_trialLine_108 hc ?_
              refine WP.aload_n d_X8_trialLine_111 0 rfl ?_
              refine WP.iconst d_X8_trialLine_112 ki_2 ?_
              refine WP.iconst d_X8_trialLine_113 ki_0 ?_
              refine WP.lload_n d_X8_trialLine_114 1 rfl ?_
              refine WP.ldc2 d_X8_trialLine_115 wl_X8_217 ?_
              obtain ⟨j29, hs30, hs24⟩ := ol hs24
              have J31 : WP V M_X8_trialLine 128 [(0, .ref t), (1, .long l1)] [.int j29, .int 0, .int 2, .ref t] h27 0 0 (some (.int r)) hR := by
                obtain ⟨⟨x34, h33⟩, e32, hs24⟩ := ob hs24
                refine WP.cV (c := 9) (As := [.int 2, .int 0, .int j29]) (st := []) (st9 := [.int x34]) (cl9 := 0) (sl9 := 0) d_X8_trialLine_128 (ok_X8_take V e32) tv_X8_take ti_X8_take ts_X8_take lk_X8_165 r_X8_trialLine_X8_take kc_X8_take (kd_X8_take e32) rfl rfl (Nat.le_of_ble_eq_true rfl) rfl rfl rfl ?_
                rcases oj hs24 with ⟨hc, hs24⟩ | ⟨hc, hs24⟩
                · refine WP.if_ne_t d_X8_trialLine_131 hc ?_
                  refine WP.iconst d_X8_trialLine_134 ki_0 ?_
                  cases hs24
                · refine WP.if_ne_f d_X8_trialLine_131 hc ?_
                  cases hs24
                  exact WP.sub [0, 1] rfl J25
              rcases oj hs30 with ⟨hc, hs30⟩ | ⟨hc, hs30⟩
              · refine WP.lcmp_ne_t d_X8_trialLine_118 d_X8_trialLine_119 hc ?_
                refine WP.iconst d_X8_trialLine_122 ki_3 ?_
                refine WP.goto d_X8_trialLine_123 ?_
                cases hs30
                exact WP.sub [0, 1] rfl J31
              · refine WP.lcmp_ne_f d_X8_trialLine_118 d_X8_trialLine_119 hc ?_
                refine WP.bipush d_X8_trialLine_126 kb_9 ?_
                cases hs30
                exact WP.sub [0, 1] rfl J31
      rcases oj hs14 with ⟨hc, hs14⟩ | ⟨hc, hs14⟩
      · refine WP.lcmp_ne_t d_X8_trialLine_50 d_X8_trialLine_51 hc ?_
        refine WP.iconst d_X8_trialLine_54 ki_0 ?_
        refine WP.goto d_X8_trialLine_55 ?_
        cases hs14
        exact WP.sub [0, 1] rfl J15
      · refine WP.lcmp_ne_f d_X8_trialLine_50 d_X8_trialLine_51 hc ?_
        refine WP.lload_n d_X8_trialLine_58 1 rfl ?_
        refine WP.ldc2 d_X8_trialLine_59 wl_X8_219 ?_
        rcases oj hs14 with ⟨hc, hs14⟩ | ⟨hc, hs14⟩
        · refine WP.lcmp_ne_t d_X8_trialLine_62 d_X8_trialLine_63 hc ?_
          refine WP.iconst d_X8_trialLine_66 ki_1 ?_
          refine WP.goto d_X8_trialLine_67 ?_
          cases hs14
          exact WP.sub [0, 1] rfl J15
        · refine WP.lcmp_ne_f d_X8_trialLine_62 d_X8_trialLine_63 hc ?_
          refine WP.iconst d_X8_trialLine_70 ki_2 ?_
          cases hs14
          exact WP.sub [0, 1] rfl J15
    rcases oj hs2 with ⟨hc, hs2⟩ | ⟨hc, hs2⟩
    · refine WP.lcmp_eq_t d_X8_trialLine_4 d_X8_trialLine_5 hc ?_
      cases hs2
      exact WP.sub [0, 1, 2] rfl J3
    · refine WP.lcmp_eq_f d_X8_trialLine_4 d_X8_trialLine_5 hc ?_
      refine WP.lload_n d_X8_trialLine_8 1 rfl ?_
      refine WP.ldc2 d_X8_trialLine_9 wl_X8_219 ?_
      rcases oj hs2 with ⟨hc, hs2⟩ | ⟨hc, hs2⟩
      · refine WP.lcmp_eq_t d_X8_trialLine_12 d_X8_trialLine_13 hc ?_
        cases hs2
        exact WP.sub [0, 1, 2] rfl J3
      · refine WP.lcmp_eq_f d_X8_trialLine_12 d_X8_trialLine_13 hc ?_
        refine WP.lload_n d_X8_trialLine_16 1 rfl ?_
        refine WP.ldc2 d_X8_trialLine_17 wl_X8_221 ?_
        rcases oj hs2 with ⟨hc, hs2⟩ | ⟨hc, hs2⟩
        · refine WP.lcmp_eq_t d_X8_trialLine_20 d_X8_trialLine_21 hc ?_
          cases hs2
          exact WP.sub [0, 1, 2] rfl J3
        · refine WP.lcmp_eq_f d_X8_trialLine_20 d_X8_trialLine_21 hc ?_
          refine WP.aload_n d_X8_trialLine_24 0 rfl ?_
          obtain ⟨⟨x6, h5⟩, e4, hs2⟩ := ob hs2
          refine WP.cV (c := 9) (As := []) (st := []) (st9 := [.int x6]) (cl9 := 0) (sl9 := 0) d_X8_trialLine_25 (ok_X8_stops V e4) tv_X8_stops ti_X8_stops ts_X8_stops lk_X8_154 r_X8_trialLine_X8_stops kc_X8_stops (kd_X8_stops e4) rfl rfl (Nat.le_of_ble_eq_true rfl) rfl rfl rfl ?_
          obtain ⟨x7, ex7, hs2⟩ := ob hs2
          obtain ⟨rfl, hnx7⟩ := bz_sp ex7
          cases hs2

set_option maxRecDepth 20000 in
set_option maxHeartbeats 4000000 in
theorem ok_X8_takeMaybe (V : EV) {h : HA} {t : Nat} {l1 : Int32} {r : Int32} {hR : HA} (H : X8_takeMaybe h t l1 = some (r, hR)) : MG V M_X8_takeMaybe [.ref t, .int l1] h (some (.int r)) hR := by
  unfold X8_takeMaybe at H
  obtain ⟨_, H⟩ := oc H
  refine MG.of (lv0 := [(0, .ref t), (1, .int l1)]) pn_X8 rfl (Nat.le_of_ble_eq_true rfl) ?_
  refine WP.aload_n d_X8_takeMaybe_0 0 rfl ?_
  obtain ⟨x1, ex1, H⟩ := ob H
  refine WP.fR d_X8_takeMaybe_1 gf_X8_41 (fun _ => rfl) ex1 ?_
  refine WP.iload_n d_X8_takeMaybe_4 1 rfl ?_
  refine WP.iconst d_X8_takeMaybe_5 ki_m1 ?_
  obtain ⟨h2, eh2, H⟩ := ob H
  refine WP.ias d_X8_takeMaybe_6 eh2 ?_
  refine WP.aload_n d_X8_takeMaybe_7 0 rfl ?_
  obtain ⟨x3, ex3, H⟩ := ob H
  refine WP.fI d_X8_takeMaybe_8 gf_X8_139 (fun _ => rfl) ex3 ?_
  refine WP.iconst d_X8_takeMaybe_11 ki_5 ?_
  rcases oj H with ⟨hc, H⟩ | ⟨hc, H⟩
  · refine WP.icmp_ne_t d_X8_takeMaybe_12 hc ?_
    refine WP.aload_n d_X8_takeMaybe_15 0 rfl ?_
    obtain ⟨h5, e4, H⟩ := ob H
    refine WP.cV (c := 9) (As := []) (st := []) (st9 := []) (cl9 := 0) (sl9 := 0) d_X8_takeMaybe_16 (ok_X8_token V e4) tv_X8_token ti_X8_token ts_X8_token lk_X8_162 r_X8_takeMaybe_X8_token kc_X8_token (kd_X8_token e4) rfl rfl (Nat.le_of_ble_eq_true rfl) rfl rfl rfl ?_
    refine WP.iconst d_X8_takeMaybe_19 ki_1 ?_
    cases H
    exact WP.ireturn d_X8_takeMaybe_20 rfl rfl (Nat.le_of_ble_eq_true rfl) (Nat.le_of_ble_eq_true rfl)
  · refine WP.icmp_ne_f d_X8_takeMaybe_12 hc ?_
    refine WP.aload_n d_X8_takeMaybe_21 0 rfl ?_
    refine WP.iload_n d_X8_takeMaybe_22 1 rfl ?_
    refine WP.iconst d_X8_takeMaybe_23 ki_0 ?_
    refine WP.bipush d_X8_takeMaybe_24 kb_9 ?_
    obtain ⟨⟨x8, h7⟩, e6, H⟩ := ob H
    refine WP.cV (c := 9) (As := [.int l1, .int 0, .int 9]) (st := []) (st9 := [.int x8]) (cl9 := 0) (sl9 := 0) d_X8_takeMaybe_26 (ok_X8_take V e6) tv_X8_take ti_X8_take ts_X8_take lk_X8_165 r_X8_takeMaybe_X8_take kc_X8_take (kd_X8_take e6) rfl rfl (Nat.le_of_ble_eq_true rfl) rfl rfl rfl ?_
    obtain ⟨x9, ex9, H⟩ := ob H
    obtain ⟨rfl, hnx9⟩ := bz_sp ex9
    cases H
    exact WP.ireturn d_X8_takeMaybe_29 rfl hnx9 (Nat.le_of_ble_eq_true rfl) (Nat.le_of_ble_eq_true rfl)

set_option maxRecDepth 20000 in
set_option maxHeartbeats 4000000 in
theorem ok_X8_lawLine (V : EV) {h : HA} {t : Nat} {l1 : Int64} {l3 : Int32} {r : Int32} {hR : HA} (H : X8_lawLine h t l1 l3 = some (r, hR)) : MG V M_X8_lawLine [.ref t, .long l1, .int l3] h (some (.int r)) hR := by
  unfold X8_lawLine at H
  obtain ⟨_, H⟩ := oc H
  refine MG.of (lv0 := [(0, .ref t), (1, .long l1), (3, .int l3)]) pn_X8 rfl (Nat.le_of_ble_eq_true rfl) ?_
  refine WP.lload_n d_X8_lawLine_0 1 rfl ?_
  refine WP.ldc2 d_X8_lawLine_1 wl_X8_223 ?_
  obtain ⟨s30, hs2, H⟩ := ob H
  rcases s30 with r25 | h1
  · dsimp only at H
    rcases oj hs2 with ⟨hc, hs2⟩ | ⟨hc, hs2⟩
    · refine WP.lcmp_eq_t d_X8_lawLine_4 d_X8_lawLine_5 hc ?_
      cases hs2
    · refine WP.lcmp_eq_f d_X8_lawLine_4 d_X8_lawLine_5 hc ?_
      refine WP.lload_n d_X8_lawLine_8 1 rfl ?_
      refine WP.ldc2 d_X8_lawLine_9 wl_X8_225 ?_
      rcases oj hs2 with ⟨hc, hs2⟩ | ⟨hc, hs2⟩
      · refine WP.lcmp_eq_t d_X8_lawLine_12 d_X8_lawLine_13 hc ?_
        cases hs2
      · refine WP.lcmp_eq_f d_X8_lawLine_12 d_X8_lawLine_13 hc ?_
        refine WP.aload_n d_X8_lawLine_16 0 rfl ?_
        obtain ⟨⟨x28, h27⟩, e26, hs2⟩ := ob hs2
        refine WP.cV (c := 9) (As := []) (st := []) (st9 := [.int x28]) (cl9 := 0) (sl9 := 0) d_X8_lawLine_17 (ok_X8_stops V e26) tv_X8_stops ti_X8_stops ts_X8_stops lk_X8_154 r_X8_lawLine_X8_stops kc_X8_stops (kd_X8_stops e26) rfl rfl (Nat.le_of_ble_eq_true rfl) rfl rfl rfl ?_
        obtain ⟨x29, ex29, hs2⟩ := ob hs2
        obtain ⟨rfl, hnx29⟩ := bz_sp ex29
        cases hs2
        cases H
        exact WP.ireturn d_X8_lawLine_20 rfl hnx29 (Nat.le_of_ble_eq_true rfl) (Nat.le_of_ble_eq_true rfl)
  · dsimp only at H
    have J3 : WP V M_X8_lawLine 21 [(0, .ref t), (1, .long l1), (3, .int l3)] [] h1 0 0 (some (.int r)) hR := by
      refine WP.aload_n d_X8_lawLine_21 0 rfl ?_
      refine WP.iconst d_X8_lawLine_22 ki_0 ?_
      refine WP.bipush d_X8_lawLine_23 kb_8 ?_
      refine WP.iload_n d_X8_lawLine_25 2 rfl ?_
      obtain ⟨h9, e8, H⟩ := ob H
      refine WP.cV (c := 9) (As := [.int 0, .int 8, .int l3]) (st := []) (st9 := []) (cl9 := 0) (sl9 := 0) d_X8_lawLine_26 (ok_X8_full V e8) tv_X8_full ti_X8_full ts_X8_full lk_X8_187 r_X8_lawLine_X8_full kc_X8_full (kd_X8_full e8) rfl rfl (Nat.le_of_ble_eq_true rfl) rfl rfl rfl ?_
      refine WP.aload_n d_X8_lawLine_29 0 rfl ?_
      obtain ⟨h11, e10, H⟩ := ob H
      refine WP.cV (c := 9) (As := []) (st := []) (st9 := []) (cl9 := 0) (sl9 := 0) d_X8_lawLine_30 (ok_X8_token V e10) tv_X8_token ti_X8_token ts_X8_token lk_X8_162 r_X8_lawLine_X8_token kc_X8_token (kd_X8_token e10) rfl rfl (Nat.le_of_ble_eq_true rfl) rfl rfl rfl ?_
      refine WP.aload_n d_X8_lawLine_33 0 rfl ?_
      obtain ⟨x12, ex12, H⟩ := ob H
      refine WP.fR d_X8_lawLine_34 gf_X8_41 (fun _ => rfl) ex12 ?_
      refine WP.iconst d_X8_lawLine_37 ki_0 ?_
      refine WP.lload_n d_X8_lawLine_38 1 rfl ?_
      refine WP.ldc2 d_X8_lawLine_39 wl_X8_223 ?_
      obtain ⟨j13, hs14, H⟩ := ol H
      have J15 : WP V M_X8_lawLine 51 [(0, .ref t)] [.int j13, .int 0, .ref x12] h11 0 0 (some (.int r)) hR := by
        obtain ⟨h16, eh16, H⟩ := ob H
        refine WP.ias d_X8_lawLine_51 eh16 ?_
        refine WP.aload_n d_X8_lawLine_52 0 rfl ?_
        refine WP.iconst d_X8_lawLine_53 ki_1 ?_
        obtain ⟨⟨x19, h18⟩, e17, H⟩ := ob H
        refine WP.cV (c := 9) (As := [.int 1]) (st := []) (st9 := [.int x19]) (cl9 := 0) (sl9 := 0) d_X8_lawLine_54 (ok_X8_takeMaybe V e17) tv_X8_takeMaybe ti_X8_takeMaybe ts_X8_takeMaybe lk_X8_227 r_X8_lawLine_X8_takeMaybe kc_X8_takeMaybe (kd_X8_takeMaybe e17) rfl rfl (Nat.le_of_ble_eq_true rfl) rfl rfl rfl ?_
        rcases oj H with ⟨hc, H⟩ | ⟨hc, H⟩
        · refine WP.if_eq_t d_X8_lawLine_57 hc ?_
          refine WP.iconst d_X8_lawLine_68 ki_0 ?_
          cases H
          exact WP.ireturn d_X8_lawLine_69 rfl rfl (Nat.le_of_ble_eq_true rfl) (Nat.le_of_ble_eq_true rfl)
        · refine WP.if_eq_f d_X8_lawLine_57 hc ?_
          refine WP.aload_n d_X8_lawLine_60 0 rfl ?_
          refine WP.iconst d_X8_lawLine_61 ki_2 ?_
          obtain ⟨⟨x22, h21⟩, e20, H⟩ := ob H
          refine WP.cV (c := 9) (As := [.int 2]) (st := []) (st9 := [.int x22]) (cl9 := 0) (sl9 := 0) d_X8_lawLine_62 (ok_X8_takeMaybe V e20) tv_X8_takeMaybe ti_X8_takeMaybe ts_X8_takeMaybe lk_X8_227 r_X8_lawLine_X8_takeMaybe kc_X8_takeMaybe (kd_X8_takeMaybe e20) rfl rfl (Nat.le_of_ble_eq_true rfl) rfl rfl rfl ?_
          rcases oj H with ⟨hc, H⟩ | ⟨hc, H⟩
          · refine WP.if_ne_t d_X8_lawLine_65 hc ?_
            refine WP.iconst d_X8_lawLine_68 ki_0 ?_
            cases H
            exact WP.ireturn d_X8_lawLine_69 rfl rfl (Nat.le_of_ble_eq_true rfl) (Nat.le_of_ble_eq_true rfl)
          · refine WP.if_ne_f d_X8_lawLine_65 hc ?_
            refine WP.aload_n d_X8_lawLine_70 0 rfl ?_
            refine WP.iconst d_X8_lawLine_71 ki_0 ?_
            refine WP.iconst d_X8_lawLine_72 ki_1 ?_
            refine WP.iconst d_X8_lawLine_73 ki_3 ?_
            refine WP.bipush d_X8_lawLine_74 kb_8 ?_
            obtain ⟨h24, e23, H⟩ := ob H
            refine WP.cV (c := 9) (As := [.int 0, .int 1, .int 3, .int 8]) (st := []) (st9 := []) (cl9 := 0) (sl9 := 0) d_X8_lawLine_76 (ok_X8_keep V e23) tv_X8_keep ti_X8_keep ts_X8_keep lk_X8_213 r_X8_lawLine_X8_keep kc_X8_keep (kd_X8_keep e23) rfl rfl (Nat.le_of_ble_eq_true rfl) rfl rfl rfl ?_
            refine WP.iconst d_X8_lawLine_79 ki_1 ?_
            cases H
            exact WP.ireturn d_X8_lawLine_80 rfl rfl (Nat.le_of_ble_eq_true rfl) (Nat.le_of_ble_eq_true rfl)
      rcases oj hs14 with ⟨hc, hs14⟩ | ⟨hc, hs14⟩
      · refine WP.lcmp_ne_t d_X8_lawLine_42 d_X8_lawLine_43 hc ?_
        refine WP.iconst d_X8_lawLine_46 ki_1 ?_
        refine WP.goto d_X8_lawLine_47 ?_
        cases hs14
        exact WP.sub [0] rfl J15
      · refine WP.lcmp_ne_f d_X8_lawLine_42 d_X8_lawLine_43 hc ?_
        refine WP.iconst d_X8_lawLine_50 ki_0 ?_
        cases hs14
        exact WP.sub [0] rfl J15
    rcases oj hs2 with ⟨hc, hs2⟩ | ⟨hc, hs2⟩
    · refine WP.lcmp_eq_t d_X8_lawLine_4 d_X8_lawLine_5 hc ?_
      cases hs2
      exact WP.sub [0, 1, 2] rfl J3
    · refine WP.lcmp_eq_f d_X8_lawLine_4 d_X8_lawLine_5 hc ?_
      refine WP.lload_n d_X8_lawLine_8 1 rfl ?_
      refine WP.ldc2 d_X8_lawLine_9 wl_X8_225 ?_
      rcases oj hs2 with ⟨hc, hs2⟩ | ⟨hc, hs2⟩
      · refine WP.lcmp_eq_t d_X8_lawLine_12 d_X8_lawLine_13 hc ?_
        cases hs2
        exact WP.sub [0, 1, 2] rfl J3
      · refine WP.lcmp_eq_f d_X8_lawLine_12 d_X8_lawLine_13 hc ?_
        refine WP.aload_n d_X8_lawLine_16 0 rfl ?_
        obtain ⟨⟨x6, h5⟩, e4, hs2⟩ := ob hs2
        refine WP.cV (c := 9) (As := []) (st := []) (st9 := [.int x6]) (cl9 := 0) (sl9 := 0) d_X8_lawLine_17 (ok_X8_stops V e4) tv_X8_stops ti_X8_stops ts_X8_stops lk_X8_154 r_X8_lawLine_X8_stops kc_X8_stops (kd_X8_stops e4) rfl rfl (Nat.le_of_ble_eq_true rfl) rfl rfl rfl ?_
        obtain ⟨x7, ex7, hs2⟩ := ob hs2
        obtain ⟨rfl, hnx7⟩ := bz_sp ex7
        cases hs2

set_option maxRecDepth 20000 in
set_option maxHeartbeats 4000000 in
theorem ok_X8_rollLine (V : EV) {h : HA} {t : Nat} {l1 : Int64} {l3 : Int32} {r : Int32} {hR : HA} (H : X8_rollLine h t l1 l3 = some (r, hR)) : MG V M_X8_rollLine [.ref t, .long l1, .int l3] h (some (.int r)) hR := by
  unfold X8_rollLine at H
  obtain ⟨_, H⟩ := oc H
  refine MG.of (lv0 := [(0, .ref t), (1, .long l1), (3, .int l3)]) pn_X8 rfl (Nat.le_of_ble_eq_true rfl) ?_
  refine WP.lload_n d_X8_rollLine_0 1 rfl ?_
  refine WP.ldc2 d_X8_rollLine_1 wl_X8_230 ?_
  rcases oj H with ⟨hc, H⟩ | ⟨hc, H⟩
  · refine WP.lcmp_eq_t d_X8_rollLine_4 d_X8_rollLine_5 hc ?_
    refine WP.aload_n d_X8_rollLine_13 0 rfl ?_
    refine WP.iconst d_X8_rollLine_14 ki_0 ?_
    refine WP.bipush d_X8_rollLine_15 kb_12 ?_
    refine WP.iload_n d_X8_rollLine_17 2 rfl ?_
    obtain ⟨h2, e1, H⟩ := ob H
    refine WP.cV (c := 9) (As := [.int 0, .int 12, .int l3]) (st := []) (st9 := []) (cl9 := 0) (sl9 := 0) d_X8_rollLine_18 (ok_X8_full V e1) tv_X8_full ti_X8_full ts_X8_full lk_X8_187 r_X8_rollLine_X8_full kc_X8_full (kd_X8_full e1) rfl rfl (Nat.le_of_ble_eq_true rfl) rfl rfl rfl ?_
    refine WP.aload_n d_X8_rollLine_21 0 rfl ?_
    obtain ⟨h4, e3, H⟩ := ob H
    refine WP.cV (c := 9) (As := []) (st := []) (st9 := []) (cl9 := 0) (sl9 := 0) d_X8_rollLine_22 (ok_X8_token V e3) tv_X8_token ti_X8_token ts_X8_token lk_X8_162 r_X8_rollLine_X8_token kc_X8_token (kd_X8_token e3) rfl rfl (Nat.le_of_ble_eq_true rfl) rfl rfl rfl ?_
    refine WP.aload_n d_X8_rollLine_25 0 rfl ?_
    refine WP.iconst d_X8_rollLine_26 ki_0 ?_
    refine WP.iconst d_X8_rollLine_27 ki_0 ?_
    refine WP.iconst d_X8_rollLine_28 ki_5 ?_
    obtain ⟨⟨x7, h6⟩, e5, H⟩ := ob H
    refine WP.cV (c := 9) (As := [.int 0, .int 0, .int 5]) (st := []) (st9 := [.int x7]) (cl9 := 0) (sl9 := 0) d_X8_rollLine_29 (ok_X8_take V e5) tv_X8_take ti_X8_take ts_X8_take lk_X8_165 r_X8_rollLine_X8_take kc_X8_take (kd_X8_take e5) rfl rfl (Nat.le_of_ble_eq_true rfl) rfl rfl rfl ?_
    rcases oj H with ⟨hc, H⟩ | ⟨hc, H⟩
    · refine WP.if_eq_t d_X8_rollLine_32 hc ?_
      refine WP.iconst d_X8_rollLine_46 ki_0 ?_
      cases H
      exact WP.ireturn d_X8_rollLine_47 rfl rfl (Nat.le_of_ble_eq_true rfl) (Nat.le_of_ble_eq_true rfl)
    · refine WP.if_eq_f d_X8_rollLine_32 hc ?_
      refine WP.aload_n d_X8_rollLine_35 0 rfl ?_
      refine WP.iconst d_X8_rollLine_36 ki_1 ?_
      refine WP.iconst d_X8_rollLine_37 ki_0 ?_
      refine WP.bipush d_X8_rollLine_38 kb_9 ?_
      obtain ⟨⟨x10, h9⟩, e8, H⟩ := ob H
      refine WP.cV (c := 9) (As := [.int 1, .int 0, .int 9]) (st := []) (st9 := [.int x10]) (cl9 := 0) (sl9 := 0) d_X8_rollLine_40 (ok_X8_take V e8) tv_X8_take ti_X8_take ts_X8_take lk_X8_165 r_X8_rollLine_X8_take kc_X8_take (kd_X8_take e8) rfl rfl (Nat.le_of_ble_eq_true rfl) rfl rfl rfl ?_
      rcases oj H with ⟨hc, H⟩ | ⟨hc, H⟩
      · refine WP.if_ne_t d_X8_rollLine_43 hc ?_
        refine WP.iconst d_X8_rollLine_46 ki_0 ?_
        cases H
        exact WP.ireturn d_X8_rollLine_47 rfl rfl (Nat.le_of_ble_eq_true rfl) (Nat.le_of_ble_eq_true rfl)
      · refine WP.if_ne_f d_X8_rollLine_43 hc ?_
        refine WP.aload_n d_X8_rollLine_48 0 rfl ?_
        refine WP.iconst d_X8_rollLine_49 ki_0 ?_
        refine WP.iconst d_X8_rollLine_50 ki_1 ?_
        refine WP.iconst d_X8_rollLine_51 ki_2 ?_
        refine WP.bipush d_X8_rollLine_52 kb_12 ?_
        obtain ⟨h12, e11, H⟩ := ob H
        refine WP.cV (c := 9) (As := [.int 0, .int 1, .int 2, .int 12]) (st := []) (st9 := []) (cl9 := 0) (sl9 := 0) d_X8_rollLine_54 (ok_X8_keep V e11) tv_X8_keep ti_X8_keep ts_X8_keep lk_X8_213 r_X8_rollLine_X8_keep kc_X8_keep (kd_X8_keep e11) rfl rfl (Nat.le_of_ble_eq_true rfl) rfl rfl rfl ?_
        refine WP.iconst d_X8_rollLine_57 ki_1 ?_
        cases H
        exact WP.ireturn d_X8_rollLine_58 rfl rfl (Nat.le_of_ble_eq_true rfl) (Nat.le_of_ble_eq_true rfl)
  · refine WP.lcmp_eq_f d_X8_rollLine_4 d_X8_rollLine_5 hc ?_
    refine WP.aload_n d_X8_rollLine_8 0 rfl ?_
    obtain ⟨⟨x15, h14⟩, e13, H⟩ := ob H
    refine WP.cV (c := 9) (As := []) (st := []) (st9 := [.int x15]) (cl9 := 0) (sl9 := 0) d_X8_rollLine_9 (ok_X8_stops V e13) tv_X8_stops ti_X8_stops ts_X8_stops lk_X8_154 r_X8_rollLine_X8_stops kc_X8_stops (kd_X8_stops e13) rfl rfl (Nat.le_of_ble_eq_true rfl) rfl rfl rfl ?_
    obtain ⟨x16, ex16, H⟩ := ob H
    obtain ⟨rfl, hnx16⟩ := bz_sp ex16
    cases H
    exact WP.ireturn d_X8_rollLine_12 rfl hnx16 (Nat.le_of_ble_eq_true rfl) (Nat.le_of_ble_eq_true rfl)

set_option maxRecDepth 20000 in
set_option maxHeartbeats 4000000 in
theorem okl_X8_lines_L2 (V : EV) {vF : Option Value} {hF : HA} {t : Nat} {l1 : Int32} (n : Nat) : ∀ {h : HA} {l2 : Int32} {r2 : Int32} {hR : HA}, (H : X8_lines_L2 t l1 n h l2 = some (r2, hR)) → (K : WP V M_X8_lines 116 [(2, .int r2)] [] hR 0 0 vF hF) → WP V M_X8_lines 2 [(0, .ref t), (1, .int l1), (2, .int l2)] [] h 0 0 vF hF := by
  induction n with
  | zero =>
    intro h l2 r2 hR H K
    rw [X8_lines_L2] at H
    cases H
  | succ n ih =>
    intro h l2 r2 hR H K
    rw [X8_lines_L2] at H
    refine WP.iload_n d_X8_lines_2 2 rfl ?_
    rcases oj H with ⟨hc, H⟩ | ⟨hc, H⟩
    · refine WP.if_eq_t d_X8_lines_3 hc ?_
      cases H
      exact WP.sub [2] rfl K
    · refine WP.if_eq_f d_X8_lines_3 hc ?_
      refine WP.aload_n d_X8_lines_6 0 rfl ?_
      obtain ⟨x1, ex1, H⟩ := ob H
      refine WP.fI d_X8_lines_7 gf_X8_139 (fun _ => rfl) ex1 ?_
      rcases oj H with ⟨hc, H⟩ | ⟨hc, H⟩
      · refine WP.if_eq_t d_X8_lines_10 hc ?_
        cases H
        exact WP.sub [2] rfl K
      · refine WP.if_eq_f d_X8_lines_10 hc ?_
        refine WP.aload_n d_X8_lines_13 0 rfl ?_
        obtain ⟨x2, ex2, H⟩ := ob H
        refine WP.fI d_X8_lines_14 gf_X8_132 (fun _ => rfl) ex2 ?_
        refine WP.istore_n (lv9 := [(3, .int x2), (0, .ref t), (1, .int l1), (2, .int l2)]) d_X8_lines_17 (Nat.le_of_ble_eq_true rfl) rfl ?_
        refine WP.aload_n d_X8_lines_18 1 rfl ?_
        obtain ⟨x3, ex3, H⟩ := ob H
        refine WP.fI d_X8_lines_19 gf_X8_139 (fun _ => rfl) ex3 ?_
        refine WP.iconst d_X8_lines_22 ki_2 ?_
        obtain ⟨j4, hs5, H⟩ := ob H
        have J6 : WP V M_X8_lines 34 [(0, .ref t), (1, .int l1), (3, .int x2)] [.long j4] h 0 0 vF hF := by
          refine WP.lstore (lv9 := [(4, .long j4), (0, .ref t), (1, .int l1), (3, .int x2)]) d_X8_lines_34 (Nat.le_of_ble_eq_true rfl) rfl ?_
          refine WP.iload_n d_X8_lines_36 2 rfl ?_
          obtain ⟨⟨j8, h9⟩, hs10, H⟩ := ob H
          have J11 : WP V M_X8_lines 87 [(0, .ref t), (1, .int l1)] [.int j8] h9 0 0 vF hF := by
            refine WP.istore_n (lv9 := [(2, .int j8), (0, .ref t), (1, .int l1)]) d_X8_lines_87 (Nat.le_of_ble_eq_true rfl) rfl ?_
            refine WP.iload_n d_X8_lines_88 0 rfl ?_
            obtain ⟨⟨j24, h25⟩, hs26, H⟩ := ob H
            have J27 : WP V M_X8_lines 105 [(0, .ref t), (1, .int l1), (2, .int j24)] [] h25 0 0 vF hF := by
              refine WP.iload_n d_X8_lines_105 2 rfl ?_
              rcases oj H with ⟨hc, H⟩ | ⟨hc, H⟩
              · refine WP.if_eq_t d_X8_lines_106 hc ?_
                refine WP.goto d_X8_lines_113 ?_
                refine WP.sub [0, 1, 2] (lv' := [(0, .ref t), (1, .int l1), (2, .int j24)]) rfl ?_
                exact ih H K
              · refine WP.if_eq_f d_X8_lines_106 hc ?_
                refine WP.aload_n d_X8_lines_109 0 rfl ?_
                obtain ⟨h33, e32, H⟩ := ob H
                refine WP.cV (c := 9) (As := []) (st := []) (st9 := []) (cl9 := 0) (sl9 := 0) d_X8_lines_110 (ok_X8_token V e32) tv_X8_token ti_X8_token ts_X8_token lk_X8_162 r_X8_lines_X8_token kc_X8_token (kd_X8_token e32) rfl rfl (Nat.le_of_ble_eq_true rfl) rfl rfl rfl ?_
                refine WP.goto d_X8_lines_113 ?_
                refine WP.sub [0, 1, 2] (lv' := [(0, .ref t), (1, .int l1), (2, .int j24)]) rfl ?_
                exact ih H K
            rcases oj hs26 with ⟨hc, hs26⟩ | ⟨hc, hs26⟩
            · refine WP.if_eq_t d_X8_lines_89 hc ?_
              cases hs26
              exact WP.sub [1, 2, 0] rfl J27
            · refine WP.if_eq_f d_X8_lines_89 hc ?_
              refine WP.aload_n d_X8_lines_92 1 rfl ?_
              obtain ⟨x28, ex28, hs26⟩ := ob hs26
              refine WP.fI d_X8_lines_93 gf_X8_139 (fun _ => rfl) ex28 ?_
              refine WP.iconst d_X8_lines_96 ki_4 ?_
              rcases oj hs26 with ⟨hc, hs26⟩ | ⟨hc, hs26⟩
              · refine WP.icmp_eq_t d_X8_lines_97 hc ?_
                cases hs26
                exact WP.sub [1, 2, 0] rfl J27
              · refine WP.icmp_eq_f d_X8_lines_97 hc ?_
                refine WP.aload_n d_X8_lines_100 1 rfl ?_
                obtain ⟨⟨x31, h30⟩, e29, hs26⟩ := ob hs26
                refine WP.cV (c := 9) (As := []) (st := []) (st9 := [.int x31]) (cl9 := 0) (sl9 := 0) d_X8_lines_101 (ok_X8_stops V e29) tv_X8_stops ti_X8_stops ts_X8_stops lk_X8_154 r_X8_lines_X8_stops kc_X8_stops (kd_X8_stops e29) rfl rfl (Nat.le_of_ble_eq_true rfl) rfl rfl rfl ?_
                refine WP.istore_n (lv9 := [(2, .int x31), (0, .ref t), (1, .int l1)]) d_X8_lines_104 (Nat.le_of_ble_eq_true rfl) rfl ?_
                cases hs26
                exact WP.sub [1, 2, 0] rfl J27
          rcases oj hs10 with ⟨hc, hs10⟩ | ⟨hc, hs10⟩
          · refine WP.if_ne_t d_X8_lines_37 hc ?_
            refine WP.aload_n d_X8_lines_40 1 rfl ?_
            refine WP.lload d_X8_lines_41 0 rfl ?_
            refine WP.iload_n d_X8_lines_43 3 rfl ?_
            obtain ⟨⟨x14, h13⟩, e12, hs10⟩ := ob hs10
            refine WP.cV (c := 9) (As := [.long j4, .int x2]) (st := []) (st9 := [.int x14]) (cl9 := 0) (sl9 := 0) d_X8_lines_44 (ok_X8_courtLine V e12) tv_X8_courtLine ti_X8_courtLine ts_X8_courtLine lk_X8_232 r_X8_lines_X8_courtLine kc_X8_courtLine (kd_X8_courtLine e12) rfl rfl (Nat.le_of_ble_eq_true rfl) rfl rfl rfl ?_
            refine WP.goto d_X8_lines_47 ?_
            cases hs10
            exact WP.sub [1, 2] rfl J11
          · refine WP.if_ne_f d_X8_lines_37 hc ?_
            refine WP.iload_n d_X8_lines_50 2 rfl ?_
            refine WP.iconst d_X8_lines_51 ki_1 ?_
            rcases oj hs10 with ⟨hc, hs10⟩ | ⟨hc, hs10⟩
            · refine WP.icmp_ne_t d_X8_lines_52 hc ?_
              refine WP.aload_n d_X8_lines_55 1 rfl ?_
              refine WP.lload d_X8_lines_56 0 rfl ?_
              refine WP.iload_n d_X8_lines_58 3 rfl ?_
              obtain ⟨⟨x17, h16⟩, e15, hs10⟩ := ob hs10
              refine WP.cV (c := 9) (As := [.long j4, .int x2]) (st := []) (st9 := [.int x17]) (cl9 := 0) (sl9 := 0) d_X8_lines_59 (ok_X8_trialLine V e15) tv_X8_trialLine ti_X8_trialLine ts_X8_trialLine lk_X8_236 r_X8_lines_X8_trialLine kc_X8_trialLine (kd_X8_trialLine e15) rfl rfl (Nat.le_of_ble_eq_true rfl) rfl rfl rfl ?_
              refine WP.goto d_X8_lines_62 ?_
              cases hs10
              exact WP.sub [1, 2] rfl J11
            · refine WP.icmp_ne_f d_X8_lines_52 hc ?_
              refine WP.iload_n d_X8_lines_65 2 rfl ?_
              refine WP.iconst d_X8_lines_66 ki_2 ?_
              rcases oj hs10 with ⟨hc, hs10⟩ | ⟨hc, hs10⟩
              · refine WP.icmp_ne_t d_X8_lines_67 hc ?_
                refine WP.aload_n d_X8_lines_70 1 rfl ?_
                refine WP.lload d_X8_lines_71 0 rfl ?_
                refine WP.iload_n d_X8_lines_73 3 rfl ?_
                obtain ⟨⟨x20, h19⟩, e18, hs10⟩ := ob hs10
                refine WP.cV (c := 9) (As := [.long j4, .int x2]) (st := []) (st9 := [.int x20]) (cl9 := 0) (sl9 := 0) d_X8_lines_74 (ok_X8_lawLine V e18) tv_X8_lawLine ti_X8_lawLine ts_X8_lawLine lk_X8_239 r_X8_lines_X8_lawLine kc_X8_lawLine (kd_X8_lawLine e18) rfl rfl (Nat.le_of_ble_eq_true rfl) rfl rfl rfl ?_
                refine WP.goto d_X8_lines_77 ?_
                cases hs10
                exact WP.sub [1, 2] rfl J11
              · refine WP.icmp_ne_f d_X8_lines_67 hc ?_
                refine WP.aload_n d_X8_lines_80 1 rfl ?_
                refine WP.lload d_X8_lines_81 0 rfl ?_
                refine WP.iload_n d_X8_lines_83 3 rfl ?_
                obtain ⟨⟨x23, h22⟩, e21, hs10⟩ := ob hs10
                refine WP.cV (c := 9) (As := [.long j4, .int x2]) (st := []) (st9 := [.int x23]) (cl9 := 0) (sl9 := 0) d_X8_lines_84 (ok_X8_rollLine V e21) tv_X8_rollLine ti_X8_rollLine ts_X8_rollLine lk_X8_242 r_X8_lines_X8_rollLine kc_X8_rollLine (kd_X8_rollLine e21) rfl rfl (Nat.le_of_ble_eq_true rfl) rfl rfl rfl ?_
                cases hs10
                exact WP.sub [1, 2] rfl J11
        rcases oj hs5 with ⟨hc, hs5⟩ | ⟨hc, hs5⟩
        · refine WP.icmp_ne_t d_X8_lines_23 hc ?_
          refine WP.aload_n d_X8_lines_26 1 rfl ?_
          obtain ⟨x7, ex7, hs5⟩ := ob hs5
          refine WP.fJ d_X8_lines_27 gf_X8_135 (fun _ => rfl) ex7 ?_
          refine WP.goto d_X8_lines_30 ?_
          cases hs5
          exact WP.sub [1, 2, 0] rfl J6
        · refine WP.icmp_ne_f d_X8_lines_23 hc ?_
          refine WP.lconst d_X8_lines_33 kl_0 ?_
          cases hs5
          exact WP.sub [1, 2, 0] rfl J6

set_option maxRecDepth 20000 in
set_option maxHeartbeats 4000000 in
theorem ok_X8_lines (V : EV) {h : HA} {t : Nat} {l1 : Int32} {r : Int32} {hR : HA} (H : X8_lines h t l1 = some (r, hR)) : MG V M_X8_lines [.ref t, .int l1] h (some (.int r)) hR := by
  unfold X8_lines at H
  obtain ⟨_, H⟩ := oc H
  refine MG.of (lv0 := [(0, .ref t), (1, .int l1)]) pn_X8 rfl (Nat.le_of_ble_eq_true rfl) ?_
  refine WP.iconst d_X8_lines_0 ki_1 ?_
  refine WP.istore_n (lv9 := [(2, .int 1), (0, .ref t), (1, .int l1)]) d_X8_lines_1 (Nat.le_of_ble_eq_true rfl) rfl ?_
  obtain ⟨⟨y35, h36⟩, e34, H⟩ := ob H
  refine WP.sub [1, 2, 0] (lv' := [(0, .ref t), (1, .int l1), (2, .int 1)]) rfl ?_
  refine okl_X8_lines_L2 V _ e34 ?_
  refine WP.iload_n d_X8_lines_116 0 rfl ?_
  obtain ⟨x37, ex37, H⟩ := ob H
  obtain ⟨rfl, hnx37⟩ := bz_sp ex37
  cases H
  exact WP.ireturn d_X8_lines_117 rfl hnx37 (Nat.le_of_ble_eq_true rfl) (Nat.le_of_ble_eq_true rfl)

set_option maxRecDepth 20000 in
set_option maxHeartbeats 4000000 in
theorem ok_X8_isWalled (V : EV) {h : HA} {t : Nat} {l1 : Int32} {r : Int32} (H : X8_isWalled h t l1 = some r) : MG V M_X8_isWalled [.ref t, .int l1] h (some (.int r)) h := by
  unfold X8_isWalled at H
  obtain ⟨_, H⟩ := oc H
  refine MG.of (lv0 := [(0, .ref t), (1, .int l1)]) pn_X8 rfl (Nat.le_of_ble_eq_true rfl) ?_
  refine WP.iload_n d_X8_isWalled_0 1 rfl ?_
  refine WP.iconst d_X8_isWalled_1 ki_m1 ?_
  rcases oj H with ⟨hc, H⟩ | ⟨hc, H⟩
  · refine WP.icmp_eq_t d_X8_isWalled_2 hc ?_
    refine WP.iconst d_X8_isWalled_22 ki_0 ?_
    cases H
    exact WP.ireturn d_X8_isWalled_23 rfl rfl (Nat.le_of_ble_eq_true rfl) (Nat.le_of_ble_eq_true rfl)
  · refine WP.icmp_eq_f d_X8_isWalled_2 hc ?_
    refine WP.aload_n d_X8_isWalled_5 0 rfl ?_
    obtain ⟨x1, ex1, H⟩ := ob H
    refine WP.fR d_X8_isWalled_6 gf_X8_38 (fun _ => rfl) ex1 ?_
    refine WP.bipush d_X8_isWalled_9 kb_42 ?_
    refine WP.iload_n d_X8_isWalled_11 1 rfl ?_
    refine WP.iadd d_X8_isWalled_12 ?_
    obtain ⟨x2, ex2, H⟩ := ob H
    refine WP.iald d_X8_isWalled_13 ex2 ?_
    refine WP.iconst d_X8_isWalled_14 ki_1 ?_
    rcases oj H with ⟨hc, H⟩ | ⟨hc, H⟩
    · refine WP.icmp_ne_t d_X8_isWalled_15 hc ?_
      refine WP.iconst d_X8_isWalled_18 ki_1 ?_
      refine WP.goto d_X8_isWalled_19 ?_
      cases H
      exact WP.ireturn d_X8_isWalled_23 rfl rfl (Nat.le_of_ble_eq_true rfl) (Nat.le_of_ble_eq_true rfl)
    · refine WP.icmp_ne_f d_X8_isWalled_15 hc ?_
      refine WP.iconst d_X8_isWalled_22 ki_0 ?_
      cases H
      exact WP.ireturn d_X8_isWalled_23 rfl rfl (Nat.le_of_ble_eq_true rfl) (Nat.le_of_ble_eq_true rfl)

set_option maxRecDepth 20000 in
set_option maxHeartbeats 4000000 in
theorem okl_X8_isWrongCourt_L37 (V : EV) {vF : Option Value} {hF : HA} {h : HA} {t : Nat} (n : Nat) : ∀ {l1 : Int32} {R : ((Int32 × HA) ⊕ Unit)}, (H : X8_isWrongCourt_L37 h t n l1 = some R) → (Kr : ∀ p : (Int32 × HA), R = .inl p → vF = (some (.int p.1)) ∧ hF = p.2) → (K : ∀ (_ : Unit), R = .inr () → WP V M_X8_isWrongCourt 72 [(0, .ref t)] [] h 0 0 vF hF) → WP V M_X8_isWrongCourt 37 [(0, .ref t), (1, .int l1)] [] h 0 0 vF hF := by
  induction n with
  | zero =>
    intro l1 R H Kr K
    rw [X8_isWrongCourt_L37] at H
    cases H
  | succ n ih =>
    intro l1 R H Kr K
    rw [X8_isWrongCourt_L37] at H
    refine WP.iload_n d_X8_isWrongCourt_37 1 rfl ?_
    refine WP.aload_n d_X8_isWrongCourt_38 0 rfl ?_
    obtain ⟨x9, ex9, H⟩ := ob H
    refine WP.fR d_X8_isWrongCourt_39 gf_X8_38 (fun _ => rfl) ex9 ?_
    refine WP.iconst d_X8_isWrongCourt_42 ki_2 ?_
    obtain ⟨x10, ex10, H⟩ := ob H
    refine WP.iald d_X8_isWrongCourt_43 ex10 ?_
    rcases oj H with ⟨hc, H⟩ | ⟨hc, H⟩
    · refine WP.icmp_ge_t d_X8_isWrongCourt_44 hc ?_
      refine WP.aload_n d_X8_isWrongCourt_47 0 rfl ?_
      refine WP.aload_n d_X8_isWrongCourt_48 0 rfl ?_
      obtain ⟨x11, ex11, H⟩ := ob H
      refine WP.fR d_X8_isWrongCourt_49 gf_X8_38 (fun _ => rfl) ex11 ?_
      refine WP.iconst d_X8_isWrongCourt_52 ki_4 ?_
      refine WP.iconst d_X8_isWrongCourt_53 ki_5 ?_
      refine WP.iload_n d_X8_isWrongCourt_54 1 rfl ?_
      refine WP.imul d_X8_isWrongCourt_55 ?_
      refine WP.iadd d_X8_isWrongCourt_56 ?_
      obtain ⟨x12, ex12, H⟩ := ob H
      refine WP.iald d_X8_isWrongCourt_57 ex12 ?_
      obtain ⟨x14, e13, H⟩ := ob H
      refine WP.cV (c := 9) (As := [.int x12]) (st := []) (st9 := [.int x14]) (cl9 := 0) (sl9 := 0) d_X8_isWrongCourt_58 (ok_X8_isWalled V e13) tv_X8_isWalled ti_X8_isWalled ts_X8_isWalled lk_X8_245 r_X8_isWrongCourt_X8_isWalled kc_X8_isWalled (kd_X8_isWalled e13) rfl rfl (Nat.le_of_ble_eq_true rfl) rfl rfl rfl ?_
      rcases oj H with ⟨hc, H⟩ | ⟨hc, H⟩
      · refine WP.if_eq_t d_X8_isWrongCourt_61 hc ?_
        refine WP.iinc (lv9 := [(1, .int (l1 + 1)), (0, .ref t)]) d_X8_isWrongCourt_66 1 rfl ki_1 (Nat.le_of_ble_eq_true rfl) rfl ?_
        refine WP.goto d_X8_isWrongCourt_69 ?_
        refine WP.sub [1, 0] (lv' := [(0, .ref t), (1, .int (l1 + 1))]) rfl ?_
        exact ih H Kr K
      · refine WP.if_eq_f d_X8_isWrongCourt_61 hc ?_
        refine WP.iconst d_X8_isWrongCourt_64 ki_1 ?_
        cases H
        obtain ⟨rfl, rfl⟩ := Kr _ rfl
        exact WP.ireturn d_X8_isWrongCourt_65 rfl rfl (Nat.le_of_ble_eq_true rfl) (Nat.le_of_ble_eq_true rfl)
    · refine WP.icmp_ge_f d_X8_isWrongCourt_44 hc ?_
      cases H
      exact WP.sub [0] rfl (K () rfl)

set_option maxRecDepth 20000 in
set_option maxHeartbeats 4000000 in
theorem okl_X8_isWrongCourt_L74 (V : EV) {t : Nat} (n : Nat) : ∀ {h : HA} {l1 : Int32} {r : Int32} {hR : HA} , (H : X8_isWrongCourt_L74 t n h l1 = some (r, hR)) → WP V M_X8_isWrongCourt 74 [(0, .ref t), (1, .int l1)] [] h 0 0 (some (.int r)) hR := by
  induction n with
  | zero =>
    intro h l1 r hR H
    rw [X8_isWrongCourt_L74] at H
    cases H
  | succ n ih =>
    intro h l1 r hR H
    rw [X8_isWrongCourt_L74] at H
    refine WP.iload_n d_X8_isWrongCourt_74 1 rfl ?_
    refine WP.aload_n d_X8_isWrongCourt_75 0 rfl ?_
    obtain ⟨x16, ex16, H⟩ := ob H
    refine WP.fR d_X8_isWrongCourt_76 gf_X8_38 (fun _ => rfl) ex16 ?_
    refine WP.iconst d_X8_isWrongCourt_79 ki_3 ?_
    obtain ⟨x17, ex17, H⟩ := ob H
    refine WP.iald d_X8_isWrongCourt_80 ex17 ?_
    rcases oj H with ⟨hc, H⟩ | ⟨hc, H⟩
    · refine WP.icmp_ge_t d_X8_isWrongCourt_81 hc ?_
      refine WP.aload_n d_X8_isWrongCourt_84 0 rfl ?_
      obtain ⟨x18, ex18, H⟩ := ob H
      refine WP.fR d_X8_isWrongCourt_85 gf_X8_38 (fun _ => rfl) ex18 ?_
      refine WP.bipush d_X8_isWrongCourt_88 kb_34 ?_
      refine WP.iconst d_X8_isWrongCourt_90 ki_2 ?_
      refine WP.iload_n d_X8_isWrongCourt_91 1 rfl ?_
      refine WP.imul d_X8_isWrongCourt_92 ?_
      refine WP.iadd d_X8_isWrongCourt_93 ?_
      refine WP.iconst d_X8_isWrongCourt_94 ki_1 ?_
      refine WP.iadd d_X8_isWrongCourt_95 ?_
      refine WP.aload_n d_X8_isWrongCourt_96 0 rfl ?_
      obtain ⟨x19, ex19, H⟩ := ob H
      refine WP.fR d_X8_isWrongCourt_97 gf_X8_44 (fun _ => rfl) ex19 ?_
      refine WP.iload_n d_X8_isWrongCourt_100 1 rfl ?_
      obtain ⟨x20, ex20, H⟩ := ob H
      refine WP.iald d_X8_isWrongCourt_101 ex20 ?_
      obtain ⟨h21, eh21, H⟩ := ob H
      refine WP.ias d_X8_isWrongCourt_102 eh21 ?_
      refine WP.aload_n d_X8_isWrongCourt_103 0 rfl ?_
      refine WP.aload_n d_X8_isWrongCourt_104 0 rfl ?_
      obtain ⟨x22, ex22, H⟩ := ob H
      refine WP.fR d_X8_isWrongCourt_105 gf_X8_38 (fun _ => rfl) ex22 ?_
      refine WP.bipush d_X8_isWrongCourt_108 kb_34 ?_
      refine WP.iconst d_X8_isWrongCourt_110 ki_2 ?_
      refine WP.iload_n d_X8_isWrongCourt_111 1 rfl ?_
      refine WP.imul d_X8_isWrongCourt_112 ?_
      refine WP.iadd d_X8_isWrongCourt_113 ?_
      obtain ⟨x23, ex23, H⟩ := ob H
      refine WP.iald d_X8_isWrongCourt_114 ex23 ?_
      obtain ⟨x25, e24, H⟩ := ob H
      refine WP.cV (c := 9) (As := [.int x23]) (st := []) (st9 := [.int x25]) (cl9 := 0) (sl9 := 0) d_X8_isWrongCourt_115 (ok_X8_isWalled V e24) tv_X8_isWalled ti_X8_isWalled ts_X8_isWalled lk_X8_245 r_X8_isWrongCourt_X8_isWalled kc_X8_isWalled (kd_X8_isWalled e24) rfl rfl (Nat.le_of_ble_eq_true rfl) rfl rfl rfl ?_
      rcases oj H with ⟨hc, H⟩ | ⟨hc, H⟩
      · refine WP.if_ne_t d_X8_isWrongCourt_118 hc ?_
        refine WP.aload_n d_X8_isWrongCourt_121 0 rfl ?_
        refine WP.aload_n d_X8_isWrongCourt_122 0 rfl ?_
        obtain ⟨x26, ex26, H⟩ := ob H
        refine WP.fR d_X8_isWrongCourt_123 gf_X8_44 (fun _ => rfl) ex26 ?_
        refine WP.iload_n d_X8_isWrongCourt_126 1 rfl ?_
        obtain ⟨x27, ex27, H⟩ := ob H
        refine WP.iald d_X8_isWrongCourt_127 ex27 ?_
        obtain ⟨x29, e28, H⟩ := ob H
        refine WP.cV (c := 9) (As := [.int x27]) (st := []) (st9 := [.int x29]) (cl9 := 0) (sl9 := 0) d_X8_isWrongCourt_128 (ok_X8_isWalled V e28) tv_X8_isWalled ti_X8_isWalled ts_X8_isWalled lk_X8_245 r_X8_isWrongCourt_X8_isWalled kc_X8_isWalled (kd_X8_isWalled e28) rfl rfl (Nat.le_of_ble_eq_true rfl) rfl rfl rfl ?_
        rcases oj H with ⟨hc, H⟩ | ⟨hc, H⟩
        · refine WP.if_eq_t d_X8_isWrongCourt_131 hc ?_
          refine WP.iinc (lv9 := [(1, .int (l1 + 1)), (0, .ref t)]) d_X8_isWrongCourt_136 1 rfl ki_1 (Nat.le_of_ble_eq_true rfl) rfl ?_
          refine WP.goto d_X8_isWrongCourt_139 ?_
          refine WP.sub [1, 0] (lv' := [(0, .ref t), (1, .int (l1 + 1))]) rfl ?_
          exact ih H
        · refine WP.if_eq_f d_X8_isWrongCourt_131 hc ?_
          refine WP.iconst d_X8_isWrongCourt_134 ki_1 ?_
          cases H
          exact WP.ireturn d_X8_isWrongCourt_135 rfl rfl (Nat.le_of_ble_eq_true rfl) (Nat.le_of_ble_eq_true rfl)
      · refine WP.if_ne_f d_X8_isWrongCourt_118 hc ?_
        refine WP.iconst d_X8_isWrongCourt_134 ki_1 ?_
        cases H
        exact WP.ireturn d_X8_isWrongCourt_135 rfl rfl (Nat.le_of_ble_eq_true rfl) (Nat.le_of_ble_eq_true rfl)
    · refine WP.icmp_ge_f d_X8_isWrongCourt_81 hc ?_
      refine WP.iconst d_X8_isWrongCourt_142 ki_0 ?_
      cases H
      exact WP.ireturn d_X8_isWrongCourt_143 rfl rfl (Nat.le_of_ble_eq_true rfl) (Nat.le_of_ble_eq_true rfl)

set_option maxRecDepth 20000 in
set_option maxHeartbeats 4000000 in
theorem ok_X8_isWrongCourt (V : EV) {h : HA} {t : Nat} {r : Int32} {hR : HA} (H : X8_isWrongCourt h t = some (r, hR)) : MG V M_X8_isWrongCourt [.ref t] h (some (.int r)) hR := by
  unfold X8_isWrongCourt at H
  obtain ⟨_, H⟩ := oc H
  refine MG.of (lv0 := [(0, .ref t)]) pn_X8 rfl (Nat.le_of_ble_eq_true rfl) ?_
  refine WP.aload_n d_X8_isWrongCourt_0 0 rfl ?_
  obtain ⟨x1, ex1, H⟩ := ob H
  refine WP.fI d_X8_isWrongCourt_1 gf_X8_168 (fun _ => rfl) ex1 ?_
  refine WP.aload_n d_X8_isWrongCourt_4 0 rfl ?_
  obtain ⟨x2, ex2, H⟩ := ob H
  refine WP.fR d_X8_isWrongCourt_5 gf_X8_38 (fun _ => rfl) ex2 ?_
  refine WP.iconst d_X8_isWrongCourt_8 ki_0 ?_
  obtain ⟨x3, ex3, H⟩ := ob H
  refine WP.iald d_X8_isWrongCourt_9 ex3 ?_
  refine WP.aload_n d_X8_isWrongCourt_10 0 rfl ?_
  obtain ⟨x4, ex4, H⟩ := ob H
  refine WP.fR d_X8_isWrongCourt_11 gf_X8_38 (fun _ => rfl) ex4 ?_
  refine WP.iconst d_X8_isWrongCourt_14 ki_1 ?_
  obtain ⟨x5, ex5, H⟩ := ob H
  refine WP.iald d_X8_isWrongCourt_15 ex5 ?_
  refine WP.imul d_X8_isWrongCourt_16 ?_
  rcases oj H with ⟨hc, H⟩ | ⟨hc, H⟩
  · refine WP.icmp_ge_t d_X8_isWrongCourt_17 hc ?_
    refine WP.aload_n d_X8_isWrongCourt_20 0 rfl ?_
    obtain ⟨x6, ex6, H⟩ := ob H
    refine WP.fI d_X8_isWrongCourt_21 gf_X8_210 (fun _ => rfl) ex6 ?_
    refine WP.aload_n d_X8_isWrongCourt_24 0 rfl ?_
    obtain ⟨x7, ex7, H⟩ := ob H
    refine WP.fR d_X8_isWrongCourt_25 gf_X8_38 (fun _ => rfl) ex7 ?_
    refine WP.iconst d_X8_isWrongCourt_28 ki_3 ?_
    obtain ⟨x8, ex8, H⟩ := ob H
    refine WP.iald d_X8_isWrongCourt_29 ex8 ?_
    rcases oj H with ⟨hc, H⟩ | ⟨hc, H⟩
    · refine WP.icmp_lt_t d_X8_isWrongCourt_30 hc ?_
      refine WP.iconst d_X8_isWrongCourt_35 ki_0 ?_
      refine WP.istore_n (lv9 := [(1, .int 0), (0, .ref t)]) d_X8_isWrongCourt_36 (Nat.le_of_ble_eq_true rfl) rfl ?_
      obtain ⟨s32, e15, H⟩ := ob H
      refine WP.sub [1, 0] (lv' := [(0, .ref t), (1, .int 0)]) rfl ?_
      refine okl_X8_isWrongCourt_L37 V _ e15 (fun r31 hp => ?_) (fun _ hp => ?_)
      · subst hp
        dsimp only at H
        cases H
        exact ⟨rfl, rfl⟩
      · subst hp
        dsimp only at H
        refine WP.iconst d_X8_isWrongCourt_72 ki_0 ?_
        refine WP.istore_n (lv9 := [(1, .int 0), (0, .ref t)]) d_X8_isWrongCourt_73 (Nat.le_of_ble_eq_true rfl) rfl ?_
        refine WP.sub [1, 0] (lv' := [(0, .ref t), (1, .int 0)]) rfl ?_
        exact okl_X8_isWrongCourt_L74 V _ H
    · refine WP.icmp_lt_f d_X8_isWrongCourt_30 hc ?_
      refine WP.iconst d_X8_isWrongCourt_33 ki_1 ?_
      cases H
      exact WP.ireturn d_X8_isWrongCourt_34 rfl rfl (Nat.le_of_ble_eq_true rfl) (Nat.le_of_ble_eq_true rfl)
  · refine WP.icmp_ge_f d_X8_isWrongCourt_17 hc ?_
    refine WP.iconst d_X8_isWrongCourt_33 ki_1 ?_
    cases H
    exact WP.ireturn d_X8_isWrongCourt_34 rfl rfl (Nat.le_of_ble_eq_true rfl) (Nat.le_of_ble_eq_true rfl)

set_option maxRecDepth 20000 in
set_option maxHeartbeats 4000000 in
theorem okl_X8_readText_L2 (V : EV) {vF : Option Value} {hF : HA} {t : Nat} {l1 : Int32} (n : Nat) : ∀ {h : HA} {l2 : Int32} {hR : HA}, (H : X8_readText_L2 t n h l2 = some hR) → (K : WP V M_X8_readText 21 [(0, .ref t), (1, .int l1)] [] hR 0 0 vF hF) → WP V M_X8_readText 2 [(0, .ref t), (1, .int l1), (2, .int l2)] [] h 0 0 vF hF := by
  induction n with
  | zero =>
    intro h l2 hR H K
    rw [X8_readText_L2] at H
    cases H
  | succ n ih =>
    intro h l2 hR H K
    rw [X8_readText_L2] at H
    refine WP.iload_n d_X8_readText_2 2 rfl ?_
    refine WP.bipush d_X8_readText_3 kb_121 ?_
    rcases oj H with ⟨hc, H⟩ | ⟨hc, H⟩
    · refine WP.icmp_ge_t d_X8_readText_5 hc ?_
      refine WP.aload_n d_X8_readText_8 0 rfl ?_
      obtain ⟨x1, ex1, H⟩ := ob H
      refine WP.fR d_X8_readText_9 gf_X8_38 (fun _ => rfl) ex1 ?_
      refine WP.iload_n d_X8_readText_12 2 rfl ?_
      refine WP.iconst d_X8_readText_13 ki_0 ?_
      obtain ⟨h2, eh2, H⟩ := ob H
      refine WP.ias d_X8_readText_14 eh2 ?_
      refine WP.iinc (lv9 := [(2, .int (l2 + 1)), (0, .ref t), (1, .int l1)]) d_X8_readText_15 2 rfl ki_1 (Nat.le_of_ble_eq_true rfl) rfl ?_
      refine WP.goto d_X8_readText_18 ?_
      refine WP.sub [1, 2, 0] (lv' := [(0, .ref t), (1, .int l1), (2, .int (l2 + 1))]) rfl ?_
      exact ih H K
    · refine WP.icmp_ge_f d_X8_readText_5 hc ?_
      cases H
      exact WP.sub [0, 1] rfl K

set_option maxRecDepth 20000 in
set_option maxHeartbeats 4000000 in
theorem okl_X8_readText_L23 (V : EV) {vF : Option Value} {hF : HA} {t : Nat} {l1 : Int32} (n : Nat) : ∀ {h : HA} {l2 : Int32} {hR : HA}, (H : X8_readText_L23 t n h l2 = some hR) → (K : WP V M_X8_readText 41 [(0, .ref t), (1, .int l1)] [] hR 0 0 vF hF) → WP V M_X8_readText 23 [(0, .ref t), (1, .int l1), (2, .int l2)] [] h 0 0 vF hF := by
  induction n with
  | zero =>
    intro h l2 hR H K
    rw [X8_readText_L23] at H
    cases H
  | succ n ih =>
    intro h l2 hR H K
    rw [X8_readText_L23] at H
    refine WP.iload_n d_X8_readText_23 2 rfl ?_
    refine WP.iconst d_X8_readText_24 ki_4 ?_
    rcases oj H with ⟨hc, H⟩ | ⟨hc, H⟩
    · refine WP.icmp_ge_t d_X8_readText_25 hc ?_
      refine WP.aload_n d_X8_readText_28 0 rfl ?_
      obtain ⟨x5, ex5, H⟩ := ob H
      refine WP.fR d_X8_readText_29 gf_X8_44 (fun _ => rfl) ex5 ?_
      refine WP.iload_n d_X8_readText_32 2 rfl ?_
      refine WP.iconst d_X8_readText_33 ki_m1 ?_
      obtain ⟨h6, eh6, H⟩ := ob H
      refine WP.ias d_X8_readText_34 eh6 ?_
      refine WP.iinc (lv9 := [(2, .int (l2 + 1)), (0, .ref t), (1, .int l1)]) d_X8_readText_35 2 rfl ki_1 (Nat.le_of_ble_eq_true rfl) rfl ?_
      refine WP.goto d_X8_readText_38 ?_
      refine WP.sub [1, 2, 0] (lv' := [(0, .ref t), (1, .int l1), (2, .int (l2 + 1))]) rfl ?_
      exact ih H K
    · refine WP.icmp_ge_f d_X8_readText_25 hc ?_
      cases H
      exact WP.sub [0, 1] rfl K

set_option maxRecDepth 20000 in
set_option maxHeartbeats 4000000 in
theorem ok_X8_readText (V : EV) {h : HA} {t : Nat} {l1 : Int32} {r : Int32} {hR : HA} (H : X8_readText h t l1 = some (r, hR)) : MG V M_X8_readText [.ref t, .int l1] h (some (.int r)) hR := by
  unfold X8_readText at H
  obtain ⟨_, H⟩ := oc H
  refine MG.of (lv0 := [(0, .ref t), (1, .int l1)]) pn_X8 rfl (Nat.le_of_ble_eq_true rfl) ?_
  refine WP.iconst d_X8_readText_0 ki_0 ?_
  refine WP.istore_n (lv9 := [(2, .int 0), (0, .ref t), (1, .int l1)]) d_X8_readText_1 (Nat.le_of_ble_eq_true rfl) rfl ?_
  obtain ⟨h4, e3, H⟩ := ob H
  refine WP.sub [1, 2, 0] (lv' := [(0, .ref t), (1, .int l1), (2, .int 0)]) rfl ?_
  refine okl_X8_readText_L2 V _ e3 ?_
  refine WP.iconst d_X8_readText_21 ki_0 ?_
  refine WP.istore_n (lv9 := [(2, .int 0), (0, .ref t), (1, .int l1)]) d_X8_readText_22 (Nat.le_of_ble_eq_true rfl) rfl ?_
  obtain ⟨h8, e7, H⟩ := ob H
  refine WP.sub [1, 2, 0] (lv' := [(0, .ref t), (1, .int l1), (2, .int 0)]) rfl ?_
  refine okl_X8_readText_L23 V _ e7 ?_
  refine WP.aload_n d_X8_readText_41 0 rfl ?_
  obtain ⟨x9, ex9, H⟩ := ob H
  refine WP.fR d_X8_readText_42 gf_X8_38 (fun _ => rfl) ex9 ?_
  refine WP.iconst d_X8_readText_45 ki_0 ?_
  refine WP.iload_n d_X8_readText_46 1 rfl ?_
  obtain ⟨j10, hs11, H⟩ := ol H
  have J12 : WP V M_X8_readText 55 [(0, .ref t), (1, .int l1)] [.int j10, .int 0, .ref x9] h8 0 0 (some (.int r)) hR := by
    obtain ⟨h13, eh13, H⟩ := ob H
    refine WP.ias d_X8_readText_55 eh13 ?_
    refine WP.aload_n d_X8_readText_56 0 rfl ?_
    obtain ⟨x14, ex14, H⟩ := ob H
    refine WP.fR d_X8_readText_57 gf_X8_38 (fun _ => rfl) ex14 ?_
    refine WP.iconst d_X8_readText_60 ki_1 ?_
    refine WP.iload_n d_X8_readText_61 1 rfl ?_
    obtain ⟨j15, hs16, H⟩ := ol H
    have J17 : WP V M_X8_readText 70 [(0, .ref t), (1, .int l1)] [.int j15, .int 1, .ref x14] h13 0 0 (some (.int r)) hR := by
      obtain ⟨h18, eh18, H⟩ := ob H
      refine WP.ias d_X8_readText_70 eh18 ?_
      refine WP.aload_n d_X8_readText_71 0 rfl ?_
      refine WP.iconst d_X8_readText_72 ki_m1 ?_
      obtain ⟨h19, eh19, H⟩ := ob H
      refine WP.uI d_X8_readText_73 gf_X8_168 rfl (Or.inl rfl) rfl rfl eh19 ?_
      refine WP.aload_n d_X8_readText_76 0 rfl ?_
      refine WP.iconst d_X8_readText_77 ki_m1 ?_
      obtain ⟨h20, eh20, H⟩ := ob H
      refine WP.uI d_X8_readText_78 gf_X8_210 rfl (Or.inl rfl) rfl rfl eh20 ?_
      refine WP.aload_n d_X8_readText_81 0 rfl ?_
      refine WP.iconst d_X8_readText_82 ki_0 ?_
      obtain ⟨h21, eh21, H⟩ := ob H
      refine WP.uI d_X8_readText_83 gf_X8_122 rfl (Or.inl rfl) rfl rfl eh21 ?_
      refine WP.aload_n d_X8_readText_86 0 rfl ?_
      refine WP.iconst d_X8_readText_87 ki_0 ?_
      obtain ⟨h22, eh22, H⟩ := ob H
      refine WP.uI d_X8_readText_88 gf_X8_148 rfl (Or.inl rfl) rfl rfl eh22 ?_
      refine WP.aload_n d_X8_readText_91 0 rfl ?_
      obtain ⟨h24, e23, H⟩ := ob H
      refine WP.cV (c := 9) (As := []) (st := []) (st9 := []) (cl9 := 0) (sl9 := 0) d_X8_readText_92 (ok_X8_token V e23) tv_X8_token ti_X8_token ts_X8_token lk_X8_162 r_X8_readText_X8_token kc_X8_token (kd_X8_token e23) rfl rfl (Nat.le_of_ble_eq_true rfl) rfl rfl rfl ?_
      refine WP.aload_n d_X8_readText_95 0 rfl ?_
      refine WP.iload_n d_X8_readText_96 1 rfl ?_
      obtain ⟨⟨x27, h26⟩, e25, H⟩ := ob H
      refine WP.cV (c := 9) (As := [.int l1]) (st := []) (st9 := [.int x27]) (cl9 := 0) (sl9 := 0) d_X8_readText_97 (ok_X8_lines V e25) tv_X8_lines ti_X8_lines ts_X8_lines lk_X8_248 r_X8_readText_X8_lines kc_X8_lines (kd_X8_lines e25) rfl rfl (Nat.le_of_ble_eq_true rfl) rfl rfl rfl ?_
      refine WP.istore_n (lv9 := [(2, .int x27), (0, .ref t), (1, .int l1)]) d_X8_readText_100 (Nat.le_of_ble_eq_true rfl) rfl ?_
      refine WP.iload_n d_X8_readText_101 0 rfl ?_
      obtain ⟨h28, hs29, H⟩ := ob H
      have J30 : WP V M_X8_readText 132 [(0, .ref t), (2, .int x27)] [] h28 0 0 (some (.int r)) hR := by
        refine WP.aload_n d_X8_readText_132 0 rfl ?_
        obtain ⟨x38, ex38, H⟩ := ob H
        refine WP.fR d_X8_readText_133 gf_X8_17 (fun _ => rfl) ex38 ?_
        refine WP.iconst d_X8_readText_136 ki_0 ?_
        refine WP.iload_n d_X8_readText_137 1 rfl ?_
        obtain ⟨j39, hs40, H⟩ := ob H
        have J41 : WP V M_X8_readText 149 [(0, .ref t), (2, .int x27)] [.int j39, .int 0, .ref x38] h28 0 0 (some (.int r)) hR := by
          obtain ⟨h43, eh43, H⟩ := ob H
          refine WP.ias d_X8_readText_149 eh43 ?_
          refine WP.aload_n d_X8_readText_150 0 rfl ?_
          obtain ⟨x44, ex44, H⟩ := ob H
          refine WP.fR d_X8_readText_151 gf_X8_20 (fun _ => rfl) ex44 ?_
          refine WP.iconst d_X8_readText_154 ki_0 ?_
          refine WP.iload_n d_X8_readText_155 1 rfl ?_
          obtain ⟨j45, hs46, H⟩ := ob H
          have J47 : WP V M_X8_readText 181 [(0, .ref t)] [.int j45, .int 0, .ref x44] h43 0 0 (some (.int r)) hR := by
            obtain ⟨h51, eh51, H⟩ := ob H
            refine WP.ias d_X8_readText_181 eh51 ?_
            refine WP.aload_n d_X8_readText_182 0 rfl ?_
            obtain ⟨x52, ex52, H⟩ := ob H
            refine WP.fR d_X8_readText_183 gf_X8_17 (fun _ => rfl) ex52 ?_
            refine WP.iconst d_X8_readText_186 ki_0 ?_
            obtain ⟨x53, ex53, H⟩ := ob H
            refine WP.iald d_X8_readText_187 ex53 ?_
            rcases oj H with ⟨hc, H⟩ | ⟨hc, H⟩
            · refine WP.if_ne_t d_X8_readText_188 hc ?_
              refine WP.iconst d_X8_readText_191 ki_1 ?_
              refine WP.goto d_X8_readText_192 ?_
              cases H
              exact WP.ireturn d_X8_readText_196 rfl rfl (Nat.le_of_ble_eq_true rfl) (Nat.le_of_ble_eq_true rfl)
            · refine WP.if_ne_f d_X8_readText_188 hc ?_
              refine WP.iconst d_X8_readText_195 ki_0 ?_
              cases H
              exact WP.ireturn d_X8_readText_196 rfl rfl (Nat.le_of_ble_eq_true rfl) (Nat.le_of_ble_eq_true rfl)
          rcases oj hs46 with ⟨hc, hs46⟩ | ⟨hc, hs46⟩
          · refine WP.if_ne_t d_X8_readText_156 hc ?_
            refine WP.aload_n d_X8_readText_159 0 rfl ?_
            obtain ⟨x48, ex48, hs46⟩ := ob hs46
            refine WP.fI d_X8_readText_160 gf_X8_145 (fun _ => rfl) ex48 ?_
            refine WP.goto d_X8_readText_163 ?_
            cases hs46
            exact WP.sub [0] rfl J47
          · refine WP.if_ne_f d_X8_readText_156 hc ?_
            refine WP.aload_n d_X8_readText_166 0 rfl ?_
            obtain ⟨x49, ex49, hs46⟩ := ob hs46
            refine WP.fI d_X8_readText_167 gf_X8_148 (fun _ => rfl) ex49 ?_
            rcases oj hs46 with ⟨hc, hs46⟩ | ⟨hc, hs46⟩
            · refine WP.if_le_t d_X8_readText_170 hc ?_
              refine WP.aload_n d_X8_readText_173 0 rfl ?_
              obtain ⟨x50, ex50, hs46⟩ := ob hs46
              refine WP.fI d_X8_readText_174 gf_X8_151 (fun _ => rfl) ex50 ?_
              refine WP.goto d_X8_readText_177 ?_
              cases hs46
              exact WP.sub [0] rfl J47
            · refine WP.if_le_f d_X8_readText_170 hc ?_
              refine WP.iconst d_X8_readText_180 ki_m1 ?_
              cases hs46
              exact WP.sub [0] rfl J47
        rcases oj hs40 with ⟨hc, hs40⟩ | ⟨hc, hs40⟩
        · refine WP.if_eq_t d_X8_readText_138 hc ?_
          refine WP.iconst d_X8_readText_148 ki_1 ?_
          cases hs40
          exact WP.sub [0, 1] rfl J41
        · refine WP.if_eq_f d_X8_readText_138 hc ?_
          refine WP.aload_n d_X8_readText_141 0 rfl ?_
          obtain ⟨x42, ex42, hs40⟩ := ob hs40
          refine WP.fI d_X8_readText_142 gf_X8_148 (fun _ => rfl) ex42 ?_
          refine WP.goto d_X8_readText_145 ?_
          cases hs40
          exact WP.sub [0, 1] rfl J41
      rcases oj hs29 with ⟨hc, hs29⟩ | ⟨hc, hs29⟩
      · refine WP.if_eq_t d_X8_readText_102 hc ?_
        cases hs29
        exact WP.sub [1, 0] rfl J30
      · refine WP.if_eq_f d_X8_readText_102 hc ?_
        refine WP.iload_n d_X8_readText_105 2 rfl ?_
        rcases oj hs29 with ⟨hc, hs29⟩ | ⟨hc, hs29⟩
        · refine WP.if_ne_t d_X8_readText_106 hc ?_
          refine WP.aload_n d_X8_readText_109 1 rfl ?_
          obtain ⟨x31, ex31, hs29⟩ := ob hs29
          refine WP.fI d_X8_readText_110 gf_X8_148 (fun _ => rfl) ex31 ?_
          rcases oj hs29 with ⟨hc, hs29⟩ | ⟨hc, hs29⟩
          · refine WP.if_ne_t d_X8_readText_113 hc ?_
            refine WP.aload_n d_X8_readText_116 1 rfl ?_
            obtain ⟨⟨x34, h33⟩, e32, hs29⟩ := ob hs29
            refine WP.cV (c := 9) (As := []) (st := []) (st9 := [.int x34]) (cl9 := 0) (sl9 := 0) d_X8_readText_117 (ok_X8_isWrongCourt V e32) tv_X8_isWrongCourt ti_X8_isWrongCourt ts_X8_isWrongCourt lk_X8_251 r_X8_readText_X8_isWrongCourt kc_X8_isWrongCourt (kd_X8_isWrongCourt e32) rfl rfl (Nat.le_of_ble_eq_true rfl) rfl rfl rfl ?_
            rcases oj hs29 with ⟨hc, hs29⟩ | ⟨hc, hs29⟩
            · refine WP.if_eq_t d_X8_readText_120 hc ?_
              cases hs29
              exact WP.sub [1, 0] rfl J30
            · refine WP.if_eq_f d_X8_readText_120 hc ?_
              refine WP.aload_n d_X8_readText_123 1 rfl ?_
              refine WP.iconst d_X8_readText_124 ki_4 ?_
              refine WP.aload_n d_X8_readText_125 1 rfl ?_
              obtain ⟨x35, ex35, hs29⟩ := ob hs29
              refine WP.fI d_X8_readText_126 gf_X8_132 (fun _ => rfl) ex35 ?_
              obtain ⟨h37, e36, hs29⟩ := ob hs29
              refine WP.cV (c := 9) (As := [.int 4, .int x35]) (st := []) (st9 := []) (cl9 := 0) (sl9 := 0) d_X8_readText_129 (ok_X8_later V e36) tv_X8_later ti_X8_later ts_X8_later lk_X8_158 r_X8_readText_X8_later kc_X8_later (kd_X8_later e36) rfl rfl (Nat.le_of_ble_eq_true rfl) rfl rfl rfl ?_
              cases hs29
              exact WP.sub [1, 0] rfl J30
          · refine WP.if_ne_f d_X8_readText_113 hc ?_
            cases hs29
            exact WP.sub [1, 0] rfl J30
        · refine WP.if_ne_f d_X8_readText_106 hc ?_
          cases hs29
          exact WP.sub [1, 0] rfl J30
    rcases oj hs16 with ⟨hc, hs16⟩ | ⟨hc, hs16⟩
    · refine WP.if_ne_t d_X8_readText_62 hc ?_
      refine WP.iconst d_X8_readText_65 ki_5 ?_
      refine WP.goto d_X8_readText_66 ?_
      cases hs16
      exact WP.sub [0, 1] rfl J17
    · refine WP.if_ne_f d_X8_readText_62 hc ?_
      refine WP.iconst d_X8_readText_69 ki_0 ?_
      cases hs16
      exact WP.sub [0, 1] rfl J17
  rcases oj hs11 with ⟨hc, hs11⟩ | ⟨hc, hs11⟩
  · refine WP.if_ne_t d_X8_readText_47 hc ?_
    refine WP.iconst d_X8_readText_50 ki_5 ?_
    refine WP.goto d_X8_readText_51 ?_
    cases hs11
    exact WP.sub [0, 1] rfl J12
  · refine WP.if_ne_f d_X8_readText_47 hc ?_
    refine WP.iconst d_X8_readText_54 ki_0 ?_
    cases hs11
    exact WP.sub [0, 1] rfl J12

set_option maxRecDepth 20000 in
set_option maxHeartbeats 4000000 in
theorem okl_X8_store_L3 (V : EV) {vF : Option Value} {hF : HA} {t : Nat} {l1 : Nat} {l2 : Int32} {l3 : Int32} (n : Nat) : ∀ {h : HA} {l4 : Int32} {hR : HA}, (H : X8_store_L3 t l1 l2 l3 n h l4 = some hR) → (K : WP V M_X8_store 30 [] [] hR 0 0 vF hF) → WP V M_X8_store 3 [(0, .ref t), (1, .ref l1), (2, .int l2), (3, .int l3), (4, .int l4)] [] h 0 0 vF hF := by
  induction n with
  | zero =>
    intro h l4 hR H K
    rw [X8_store_L3] at H
    cases H
  | succ n ih =>
    intro h l4 hR H K
    rw [X8_store_L3] at H
    refine WP.iload d_X8_store_3 4 rfl ?_
    refine WP.iload_n d_X8_store_5 2 rfl ?_
    rcases oj H with ⟨hc, H⟩ | ⟨hc, H⟩
    · refine WP.icmp_ge_t d_X8_store_6 hc ?_
      refine WP.aload_n d_X8_store_9 1 rfl ?_
      refine WP.iload_n d_X8_store_10 2 rfl ?_
      refine WP.iload_n d_X8_store_11 3 rfl ?_
      refine WP.imul d_X8_store_12 ?_
      refine WP.iload d_X8_store_13 4 rfl ?_
      refine WP.iadd d_X8_store_15 ?_
      refine WP.aload_n d_X8_store_16 0 rfl ?_
      obtain ⟨x1, ex1, H⟩ := ob H
      refine WP.fR d_X8_store_17 gf_X8_38 (fun _ => rfl) ex1 ?_
      refine WP.iload d_X8_store_20 4 rfl ?_
      obtain ⟨x2, ex2, H⟩ := ob H
      refine WP.iald d_X8_store_22 ex2 ?_
      obtain ⟨h3, eh3, H⟩ := ob H
      refine WP.ias d_X8_store_23 eh3 ?_
      refine WP.iinc (lv9 := [(4, .int (l4 + 1)), (0, .ref t), (1, .ref l1), (2, .int l2), (3, .int l3)]) d_X8_store_24 4 rfl ki_1 (Nat.le_of_ble_eq_true rfl) rfl ?_
      refine WP.goto d_X8_store_27 ?_
      refine WP.sub [1, 2, 3, 4, 0] (lv' := [(0, .ref t), (1, .ref l1), (2, .int l2), (3, .int l3), (4, .int (l4 + 1))]) rfl ?_
      exact ih H K
    · refine WP.icmp_ge_f d_X8_store_6 hc ?_
      cases H
      exact WP.sub [] rfl K

set_option maxRecDepth 20000 in
set_option maxHeartbeats 4000000 in
theorem ok_X8_store (V : EV) {h : HA} {t : Nat} {l1 : Nat} {l2 : Int32} {l3 : Int32} {hR : HA} (H : X8_store h t l1 l2 l3 = some hR) : MG V M_X8_store [.ref t, .ref l1, .int l2, .int l3] h none hR := by
  unfold X8_store at H
  obtain ⟨_, H⟩ := oc H
  refine MG.of (lv0 := [(0, .ref t), (1, .ref l1), (2, .int l2), (3, .int l3)]) pn_X8 rfl (Nat.le_of_ble_eq_true rfl) ?_
  refine WP.iconst d_X8_store_0 ki_0 ?_
  refine WP.istore (lv9 := [(4, .int 0), (0, .ref t), (1, .ref l1), (2, .int l2), (3, .int l3)]) d_X8_store_1 (Nat.le_of_ble_eq_true rfl) rfl ?_
  obtain ⟨h5, e4, H⟩ := ob H
  refine WP.sub [1, 2, 3, 4, 0] (lv' := [(0, .ref t), (1, .ref l1), (2, .int l2), (3, .int l3), (4, .int 0)]) rfl ?_
  refine okl_X8_store_L3 V _ e4 ?_
  cases H
  exact WP.return_ d_X8_store_30 rfl (Nat.le_of_ble_eq_true rfl) (Nat.le_of_ble_eq_true rfl)

set_option maxRecDepth 20000 in
set_option maxHeartbeats 4000000 in
theorem ok_X8_text (V : EV) {h : HA} {t : Nat} {l1 : Int32} {l2 : Int32} {r : Int32} {hR : HA} (H : X8_text h t l1 l2 = some (r, hR)) : MG V M_X8_text [.ref t, .int l1, .int l2] h (some (.int r)) hR := by
  unfold X8_text at H
  obtain ⟨_, H⟩ := oc H
  refine MG.of (lv0 := [(0, .ref t), (1, .int l1), (2, .int l2)]) pn_X8 rfl (Nat.le_of_ble_eq_true rfl) ?_
  refine WP.aload_n d_X8_text_0 0 rfl ?_
  refine WP.iconst d_X8_text_1 ki_0 ?_
  obtain ⟨h1, eh1, H⟩ := ob H
  refine WP.uI d_X8_text_2 gf_X8_102 rfl (Or.inl rfl) rfl rfl eh1 ?_
  refine WP.aload_n d_X8_text_5 0 rfl ?_
  refine WP.aload_n d_X8_text_6 0 rfl ?_
  obtain ⟨x2, ex2, H⟩ := ob H
  refine WP.fR d_X8_text_7 gf_X8_13 (fun _ => rfl) ex2 ?_
  refine WP.iconst d_X8_text_10 ki_0 ?_
  obtain ⟨x3, ex3, H⟩ := ob H
  refine WP.iald d_X8_text_11 ex3 ?_
  obtain ⟨h4, eh4, H⟩ := ob H
  refine WP.uI d_X8_text_12 gf_X8_125 rfl (Or.inl rfl) rfl rfl eh4 ?_
  refine WP.aload_n d_X8_text_15 0 rfl ?_
  obtain ⟨x5, ex5, H⟩ := ob H
  refine WP.fR d_X8_text_16 gf_X8_13 (fun _ => rfl) ex5 ?_
  refine WP.iconst d_X8_text_19 ki_0 ?_
  refine WP.iconst d_X8_text_20 ki_0 ?_
  obtain ⟨h6, eh6, H⟩ := ob H
  refine WP.ias d_X8_text_21 eh6 ?_
  refine WP.aload_n d_X8_text_22 0 rfl ?_
  obtain ⟨x7, ex7, H⟩ := ob H
  refine WP.fR d_X8_text_23 gf_X8_17 (fun _ => rfl) ex7 ?_
  refine WP.iconst d_X8_text_26 ki_0 ?_
  refine WP.iconst d_X8_text_27 ki_0 ?_
  obtain ⟨h8, eh8, H⟩ := ob H
  refine WP.ias d_X8_text_28 eh8 ?_
  refine WP.aload_n d_X8_text_29 0 rfl ?_
  obtain ⟨x9, ex9, H⟩ := ob H
  refine WP.fR d_X8_text_30 gf_X8_20 (fun _ => rfl) ex9 ?_
  refine WP.iconst d_X8_text_33 ki_0 ?_
  refine WP.iconst d_X8_text_34 ki_m1 ?_
  obtain ⟨h10, eh10, H⟩ := ob H
  refine WP.ias d_X8_text_35 eh10 ?_
  refine WP.iload_n d_X8_text_36 1 rfl ?_
  refine WP.iconst d_X8_text_37 ki_0 ?_
  refine WP.iconst d_X8_text_38 ki_3 ?_
  obtain ⟨x12, e11, H⟩ := ob H
  refine WP.cS (As := [.int l1, .int 0, .int 3]) (st := []) (st9 := [.int x12]) (cl9 := 0) (sl9 := 0) d_X8_text_39 (ok_X8_in V (h := h10) e11) tv_X8_in ts_X8_in lk_X8_114 r_X8_text_X8_in rfl rfl (Nat.le_of_ble_eq_true rfl) rfl rfl rfl ?_
  rcases oj H with ⟨hc, H⟩ | ⟨hc, H⟩
  · refine WP.if_eq_t d_X8_text_42 hc ?_
    refine WP.bipush d_X8_text_72 kb_m2 ?_
    cases H
    exact WP.ireturn d_X8_text_74 rfl rfl (Nat.le_of_ble_eq_true rfl) (Nat.le_of_ble_eq_true rfl)
  · refine WP.if_eq_f d_X8_text_42 hc ?_
    refine WP.iload_n d_X8_text_45 2 rfl ?_
    refine WP.iconst d_X8_text_46 ki_m1 ?_
    obtain ⟨s50, hs13, H⟩ := ob H
    rcases s50 with r45 | _
    · dsimp only at H
      rcases oj hs13 with ⟨hc, hs13⟩ | ⟨hc, hs13⟩
      · refine WP.icmp_ne_t d_X8_text_47 hc ?_
        refine WP.aload_n d_X8_text_50 0 rfl ?_
        obtain ⟨x46, ex46, hs13⟩ := ob hs13
        refine WP.fR d_X8_text_51 gf_X8_23 (fun _ => rfl) ex46 ?_
        refine WP.iload_n d_X8_text_54 1 rfl ?_
        obtain ⟨x47, ex47, hs13⟩ := ob hs13
        refine WP.iald d_X8_text_55 ex47 ?_
        refine WP.iconst d_X8_text_56 ki_2 ?_
        rcases oj hs13 with ⟨hc, hs13⟩ | ⟨hc, hs13⟩
        · refine WP.icmp_ne_t d_X8_text_57 hc ?_
          refine WP.goto d_X8_text_60 ?_
          refine WP.bipush d_X8_text_72 kb_m2 ?_
          cases hs13
          cases H
          exact WP.ireturn d_X8_text_74 rfl rfl (Nat.le_of_ble_eq_true rfl) (Nat.le_of_ble_eq_true rfl)
        · refine WP.icmp_ne_f d_X8_text_57 hc ?_
          cases hs13
      · refine WP.icmp_ne_f d_X8_text_47 hc ?_
        refine WP.aload_n d_X8_text_63 0 rfl ?_
        refine WP.iload_n d_X8_text_64 1 rfl ?_
        refine WP.iload_n d_X8_text_65 2 rfl ?_
        obtain ⟨x49, e48, hs13⟩ := ob hs13
        refine WP.cV (c := 9) (As := [.int l1, .int l2]) (st := []) (st9 := [.int x49]) (cl9 := 0) (sl9 := 0) d_X8_text_66 (ok_X8_is V e48) tv_X8_is ti_X8_is ts_X8_is lk_X8_254 r_X8_text_X8_is kc_X8_is (kd_X8_is e48) rfl rfl (Nat.le_of_ble_eq_true rfl) rfl rfl rfl ?_
        rcases oj hs13 with ⟨hc, hs13⟩ | ⟨hc, hs13⟩
        · refine WP.if_ne_t d_X8_text_69 hc ?_
          refine WP.bipush d_X8_text_72 kb_m2 ?_
          cases hs13
          cases H
          exact WP.ireturn d_X8_text_74 rfl rfl (Nat.le_of_ble_eq_true rfl) (Nat.le_of_ble_eq_true rfl)
        · refine WP.if_ne_f d_X8_text_69 hc ?_
          cases hs13
    · dsimp only at H
      have J14 : WP V M_X8_text 75 [(0, .ref t), (1, .int l1), (2, .int l2)] [] h10 0 0 (some (.int r)) hR := by
        refine WP.aload_n d_X8_text_75 0 rfl ?_
        refine WP.iload_n d_X8_text_76 1 rfl ?_
        obtain ⟨⟨x21, h20⟩, e19, H⟩ := ob H
        refine WP.cV (c := 9) (As := [.int l1]) (st := []) (st9 := [.int x21]) (cl9 := 0) (sl9 := 0) d_X8_text_77 (ok_X8_readText V e19) tv_X8_readText ti_X8_readText ts_X8_readText lk_X8_257 r_X8_text_X8_readText kc_X8_readText (kd_X8_readText e19) rfl rfl (Nat.le_of_ble_eq_true rfl) rfl rfl rfl ?_
        rcases oj H with ⟨hc, H⟩ | ⟨hc, H⟩
        · refine WP.if_ne_t d_X8_text_80 hc ?_
          refine WP.iconst d_X8_text_83 ki_m1 ?_
          cases H
          exact WP.ireturn d_X8_text_84 rfl rfl (Nat.le_of_ble_eq_true rfl) (Nat.le_of_ble_eq_true rfl)
        · refine WP.if_ne_f d_X8_text_80 hc ?_
          refine WP.iload_n d_X8_text_85 2 rfl ?_
          refine WP.iconst d_X8_text_86 ki_m1 ?_
          obtain ⟨j22, hs23, H⟩ := ob H
          have J24 : WP V M_X8_text 100 [(0, .ref t), (1, .int l1), (2, .int l2)] [.int j22] h20 0 0 (some (.int r)) hR := by
            refine WP.istore_n (lv9 := [(3, .int j22), (0, .ref t), (1, .int l1), (2, .int l2)]) d_X8_text_100 (Nat.le_of_ble_eq_true rfl) rfl ?_
            refine WP.aload_n d_X8_text_101 1 rfl ?_
            obtain ⟨x27, ex27, H⟩ := ob H
            refine WP.fR d_X8_text_102 gf_X8_23 (fun _ => rfl) ex27 ?_
            refine WP.iload_n d_X8_text_105 2 rfl ?_
            refine WP.dup2 d_X8_text_106 rfl rfl ?_
            obtain ⟨x28, ex28, H⟩ := ob H
            refine WP.iald d_X8_text_107 ex28 ?_
            refine WP.iload_n d_X8_text_108 3 rfl ?_
            refine WP.iconst d_X8_text_109 ki_m1 ?_
            obtain ⟨j29, hs30, H⟩ := ol H
            have J31 : WP V M_X8_text 118 [(0, .ref t), (1, .int l1), (3, .int j22)] [.int j29, .int x28, .int l1, .ref x27] h20 0 0 (some (.int r)) hR := by
              refine WP.iadd d_X8_text_118 ?_
              obtain ⟨h32, eh32, H⟩ := ob H
              refine WP.ias d_X8_text_119 eh32 ?_
              refine WP.iload_n d_X8_text_120 1 rfl ?_
              rcases oj H with ⟨hq0, H⟩ | ⟨hq0, H⟩
              · refine WP.tsw (t := 148) 0 d_X8_text_121 (by rw [hq0]; decide) (by decide) rfl (by decide) ?_
                refine WP.aload_n d_X8_text_148 0 rfl ?_
                refine WP.aload_n d_X8_text_149 0 rfl ?_
                obtain ⟨x33, ex33, H⟩ := ob H
                refine WP.fR d_X8_text_150 gf_X8_26 (fun _ => rfl) ex33 ?_
                refine WP.bipush d_X8_text_153 kb_106 ?_
                refine WP.iload_n d_X8_text_155 2 rfl ?_
                obtain ⟨h35, e34, H⟩ := ob H
                refine WP.cV (c := 9) (As := [.ref x33, .int 106, .int j22]) (st := []) (st9 := []) (cl9 := 0) (sl9 := 0) d_X8_text_156 (ok_X8_store V e34) tv_X8_store ti_X8_store ts_X8_store lk_X8_260 r_X8_text_X8_store kc_X8_store (kd_X8_store e34) rfl rfl (Nat.le_of_ble_eq_true rfl) rfl rfl rfl ?_
                refine WP.goto d_X8_text_159 ?_
                refine WP.iload_n d_X8_text_201 2 rfl ?_
                cases H
                exact WP.ireturn d_X8_text_202 rfl rfl (Nat.le_of_ble_eq_true rfl) (Nat.le_of_ble_eq_true rfl)
              · skip
                rcases oj H with ⟨hq1, H⟩ | ⟨hq1, H⟩
                · refine WP.tsw (t := 162) 1 d_X8_text_121 (by rw [hq1]; decide) (by decide) rfl (by decide) ?_
                  refine WP.aload_n d_X8_text_162 0 rfl ?_
                  refine WP.aload_n d_X8_text_163 0 rfl ?_
                  obtain ⟨x36, ex36, H⟩ := ob H
                  refine WP.fR d_X8_text_164 gf_X8_29 (fun _ => rfl) ex36 ?_
                  refine WP.bipush d_X8_text_167 kb_121 ?_
                  refine WP.iload_n d_X8_text_169 2 rfl ?_
                  obtain ⟨h38, e37, H⟩ := ob H
                  refine WP.cV (c := 9) (As := [.ref x36, .int 121, .int j22]) (st := []) (st9 := []) (cl9 := 0) (sl9 := 0) d_X8_text_170 (ok_X8_store V e37) tv_X8_store ti_X8_store ts_X8_store lk_X8_260 r_X8_text_X8_store kc_X8_store (kd_X8_store e37) rfl rfl (Nat.le_of_ble_eq_true rfl) rfl rfl rfl ?_
                  refine WP.goto d_X8_text_173 ?_
                  refine WP.iload_n d_X8_text_201 2 rfl ?_
                  cases H
                  exact WP.ireturn d_X8_text_202 rfl rfl (Nat.le_of_ble_eq_true rfl) (Nat.le_of_ble_eq_true rfl)
                · skip
                  rcases oj H with ⟨hq2, H⟩ | ⟨hq2, H⟩
                  · refine WP.tsw (t := 176) 2 d_X8_text_121 (by rw [hq2]; decide) (by decide) rfl (by decide) ?_
                    refine WP.aload_n d_X8_text_176 0 rfl ?_
                    refine WP.aload_n d_X8_text_177 0 rfl ?_
                    obtain ⟨x39, ex39, H⟩ := ob H
                    refine WP.fR d_X8_text_178 gf_X8_32 (fun _ => rfl) ex39 ?_
                    refine WP.bipush d_X8_text_181 kb_25 ?_
                    refine WP.iload_n d_X8_text_183 2 rfl ?_
                    obtain ⟨h41, e40, H⟩ := ob H
                    refine WP.cV (c := 9) (As := [.ref x39, .int 25, .int j22]) (st := []) (st9 := []) (cl9 := 0) (sl9 := 0) d_X8_text_184 (ok_X8_store V e40) tv_X8_store ti_X8_store ts_X8_store lk_X8_260 r_X8_text_X8_store kc_X8_store (kd_X8_store e40) rfl rfl (Nat.le_of_ble_eq_true rfl) rfl rfl rfl ?_
                    refine WP.goto d_X8_text_187 ?_
                    refine WP.iload_n d_X8_text_201 2 rfl ?_
                    cases H
                    exact WP.ireturn d_X8_text_202 rfl rfl (Nat.le_of_ble_eq_true rfl) (Nat.le_of_ble_eq_true rfl)
                  · skip
                    refine WP.tswd (t := 190) d_X8_text_121 (tsw_out (n := 3) [0, 1, 2] (by decide) (by decide +kernel) (List.forall_mem_cons.mpr ⟨hq0, (List.forall_mem_cons.mpr ⟨hq1, (List.forall_mem_cons.mpr ⟨hq2, (fun _ hz9 => absurd hz9 List.not_mem_nil)⟩)⟩)⟩)) (by decide) ?_
                    refine WP.aload_n d_X8_text_190 0 rfl ?_
                    refine WP.aload_n d_X8_text_191 0 rfl ?_
                    obtain ⟨x42, ex42, H⟩ := ob H
                    refine WP.fR d_X8_text_192 gf_X8_35 (fun _ => rfl) ex42 ?_
                    refine WP.bipush d_X8_text_195 kb_25 ?_
                    refine WP.iload_n d_X8_text_197 2 rfl ?_
                    obtain ⟨h44, e43, H⟩ := ob H
                    refine WP.cV (c := 9) (As := [.ref x42, .int 25, .int j22]) (st := []) (st9 := []) (cl9 := 0) (sl9 := 0) d_X8_text_198 (ok_X8_store V e43) tv_X8_store ti_X8_store ts_X8_store lk_X8_260 r_X8_text_X8_store kc_X8_store (kd_X8_store e43) rfl rfl (Nat.le_of_ble_eq_true rfl) rfl rfl rfl ?_
                    refine WP.iload_n d_X8_text_201 2 rfl ?_
                    cases H
                    exact WP.ireturn d_X8_text_202 rfl rfl (Nat.le_of_ble_eq_true rfl) (Nat.le_of_ble_eq_true rfl)
            rcases oj hs30 with ⟨hc, hs30⟩ | ⟨hc, hs30⟩
            · refine WP.icmp_ne_t d_X8_text_110 hc ?_
              refine WP.iconst d_X8_text_113 ki_1 ?_
              refine WP.goto d_X8_text_114 ?_
              cases hs30
              exact WP.sub [1, 2, 0] rfl J31
            · refine WP.icmp_ne_f d_X8_text_110 hc ?_
              refine WP.iconst d_X8_text_117 ki_0 ?_
              cases hs30
              exact WP.sub [1, 2, 0] rfl J31
          rcases oj hs23 with ⟨hc, hs23⟩ | ⟨hc, hs23⟩
          · refine WP.icmp_ne_t d_X8_text_87 hc ?_
            refine WP.aload_n d_X8_text_90 0 rfl ?_
            obtain ⟨x25, ex25, hs23⟩ := ob hs23
            refine WP.fR d_X8_text_91 gf_X8_23 (fun _ => rfl) ex25 ?_
            refine WP.iload_n d_X8_text_94 1 rfl ?_
            obtain ⟨x26, ex26, hs23⟩ := ob hs23
            refine WP.iald d_X8_text_95 ex26 ?_
            refine WP.goto d_X8_text_96 ?_
            cases hs23
            exact WP.sub [0, 1, 2] rfl J24
          · refine WP.icmp_ne_f d_X8_text_87 hc ?_
            refine WP.iload_n d_X8_text_99 2 rfl ?_
            cases hs23
            exact WP.sub [0, 1, 2] rfl J24
      rcases oj hs13 with ⟨hc, hs13⟩ | ⟨hc, hs13⟩
      · refine WP.icmp_ne_t d_X8_text_47 hc ?_
        refine WP.aload_n d_X8_text_50 0 rfl ?_
        obtain ⟨x15, ex15, hs13⟩ := ob hs13
        refine WP.fR d_X8_text_51 gf_X8_23 (fun _ => rfl) ex15 ?_
        refine WP.iload_n d_X8_text_54 1 rfl ?_
        obtain ⟨x16, ex16, hs13⟩ := ob hs13
        refine WP.iald d_X8_text_55 ex16 ?_
        refine WP.iconst d_X8_text_56 ki_2 ?_
        rcases oj hs13 with ⟨hc, hs13⟩ | ⟨hc, hs13⟩
        · refine WP.icmp_ne_t d_X8_text_57 hc ?_
          refine WP.goto d_X8_text_60 ?_
          refine WP.bipush d_X8_text_72 kb_m2 ?_
          cases hs13
        · refine WP.icmp_ne_f d_X8_text_57 hc ?_
          cases hs13
          exact WP.sub [0, 1, 2] rfl J14
      · refine WP.icmp_ne_f d_X8_text_47 hc ?_
        refine WP.aload_n d_X8_text_63 0 rfl ?_
        refine WP.iload_n d_X8_text_64 1 rfl ?_
        refine WP.iload_n d_X8_text_65 2 rfl ?_
        obtain ⟨x18, e17, hs13⟩ := ob hs13
        refine WP.cV (c := 9) (As := [.int l1, .int l2]) (st := []) (st9 := [.int x18]) (cl9 := 0) (sl9 := 0) d_X8_text_66 (ok_X8_is V e17) tv_X8_is ti_X8_is ts_X8_is lk_X8_254 r_X8_text_X8_is kc_X8_is (kd_X8_is e17) rfl rfl (Nat.le_of_ble_eq_true rfl) rfl rfl rfl ?_
        rcases oj hs13 with ⟨hc, hs13⟩ | ⟨hc, hs13⟩
        · refine WP.if_ne_t d_X8_text_69 hc ?_
          refine WP.bipush d_X8_text_72 kb_m2 ?_
          cases hs13
        · refine WP.if_ne_f d_X8_text_69 hc ?_
          cases hs13
          exact WP.sub [0, 1, 2] rfl J14

set_option maxRecDepth 20000 in
set_option maxHeartbeats 4000000 in
theorem ok_X8_fault (V : EV) {h : HA} {t : Nat} {l1 : Int32} {r : Int32} {hR : HA} (H : X8_fault h t l1 = some (r, hR)) : MG V M_X8_fault [.ref t, .int l1] h (some (.int r)) hR := by
  unfold X8_fault at H
  obtain ⟨_, H⟩ := oc H
  refine MG.of (lv0 := [(0, .ref t), (1, .int l1)]) pn_X8 rfl (Nat.le_of_ble_eq_true rfl) ?_
  refine WP.aload_n d_X8_fault_0 0 rfl ?_
  refine WP.iconst d_X8_fault_1 ki_0 ?_
  obtain ⟨h1, eh1, H⟩ := ob H
  refine WP.uI d_X8_fault_2 gf_X8_102 rfl (Or.inl rfl) rfl rfl eh1 ?_
  refine WP.iload_n d_X8_fault_5 1 rfl ?_
  rcases oj H with ⟨hc, H⟩ | ⟨hc, H⟩
  · refine WP.if_ne_t d_X8_fault_6 hc ?_
    refine WP.aload_n d_X8_fault_9 0 rfl ?_
    obtain ⟨x2, ex2, H⟩ := ob H
    refine WP.fR d_X8_fault_10 gf_X8_17 (fun _ => rfl) ex2 ?_
    refine WP.iconst d_X8_fault_13 ki_0 ?_
    obtain ⟨x3, ex3, H⟩ := ob H
    refine WP.iald d_X8_fault_14 ex3 ?_
    refine WP.goto d_X8_fault_15 ?_
    cases H
    exact WP.ireturn d_X8_fault_33 rfl rfl (Nat.le_of_ble_eq_true rfl) (Nat.le_of_ble_eq_true rfl)
  · refine WP.if_ne_f d_X8_fault_6 hc ?_
    refine WP.iload_n d_X8_fault_18 1 rfl ?_
    refine WP.iconst d_X8_fault_19 ki_1 ?_
    rcases oj H with ⟨hc, H⟩ | ⟨hc, H⟩
    · refine WP.icmp_ne_t d_X8_fault_20 hc ?_
      refine WP.aload_n d_X8_fault_23 0 rfl ?_
      obtain ⟨x4, ex4, H⟩ := ob H
      refine WP.fR d_X8_fault_24 gf_X8_20 (fun _ => rfl) ex4 ?_
      refine WP.iconst d_X8_fault_27 ki_0 ?_
      obtain ⟨x5, ex5, H⟩ := ob H
      refine WP.iald d_X8_fault_28 ex5 ?_
      refine WP.goto d_X8_fault_29 ?_
      cases H
      exact WP.ireturn d_X8_fault_33 rfl rfl (Nat.le_of_ble_eq_true rfl) (Nat.le_of_ble_eq_true rfl)
    · refine WP.icmp_ne_f d_X8_fault_20 hc ?_
      refine WP.iconst d_X8_fault_32 ki_m1 ?_
      cases H
      exact WP.ireturn d_X8_fault_33 rfl rfl (Nat.le_of_ble_eq_true rfl) (Nat.le_of_ble_eq_true rfl)

set_option maxRecDepth 20000 in
set_option maxHeartbeats 4000000 in
theorem ok_X8_of (V : EV) {h : HA} {t : Nat} {l1 : Int32} {r : Int32} (H : X8_of h t l1 = some r) : MG V M_X8_of [.ref t, .int l1] h (some (.int r)) h := by
  unfold X8_of at H
  obtain ⟨_, H⟩ := oc H
  refine MG.of (lv0 := [(0, .ref t), (1, .int l1)]) pn_X8 rfl (Nat.le_of_ble_eq_true rfl) ?_
  refine WP.aload_n d_X8_of_0 0 rfl ?_
  obtain ⟨x1, ex1, H⟩ := ob H
  refine WP.fR d_X8_of_1 gf_X8_26 (fun _ => rfl) ex1 ?_
  refine WP.bipush d_X8_of_4 kb_106 ?_
  refine WP.aload_n d_X8_of_6 0 rfl ?_
  obtain ⟨x2, ex2, H⟩ := ob H
  refine WP.fI d_X8_of_7 gf_X8_264 (fun _ => rfl) ex2 ?_
  refine WP.imul d_X8_of_10 ?_
  refine WP.iload_n d_X8_of_11 1 rfl ?_
  refine WP.iadd d_X8_of_12 ?_
  obtain ⟨x3, ex3, H⟩ := ob H
  refine WP.iald d_X8_of_13 ex3 ?_
  cases H
  exact WP.ireturn d_X8_of_14 rfl rfl (Nat.le_of_ble_eq_true rfl) (Nat.le_of_ble_eq_true rfl)

set_option maxRecDepth 20000 in
set_option maxHeartbeats 4000000 in
theorem ok_X8_isWall (V : EV) {h : HA} {t : Nat} {l1 : Int32} {r : Int32} (H : X8_isWall h t l1 = some r) : MG V M_X8_isWall [.ref t, .int l1] h (some (.int r)) h := by
  unfold X8_isWall at H
  obtain ⟨_, H⟩ := oc H
  refine MG.of (lv0 := [(0, .ref t), (1, .int l1)]) pn_X8 rfl (Nat.le_of_ble_eq_true rfl) ?_
  refine WP.aload_n d_X8_isWall_0 0 rfl ?_
  refine WP.bipush d_X8_isWall_1 kb_42 ?_
  refine WP.iload_n d_X8_isWall_3 1 rfl ?_
  refine WP.iadd d_X8_isWall_4 ?_
  obtain ⟨x2, e1, H⟩ := ob H
  refine WP.cV (c := 9) (As := [.int (42 + l1)]) (st := []) (st9 := [.int x2]) (cl9 := 0) (sl9 := 0) d_X8_isWall_5 (ok_X8_of V e1) tv_X8_of ti_X8_of ts_X8_of lk_X8_267 r_X8_isWall_X8_of kc_X8_of (kd_X8_of e1) rfl rfl (Nat.le_of_ble_eq_true rfl) rfl rfl rfl ?_
  refine WP.iconst d_X8_isWall_8 ki_1 ?_
  rcases oj H with ⟨hc, H⟩ | ⟨hc, H⟩
  · refine WP.icmp_ne_t d_X8_isWall_9 hc ?_
    refine WP.iconst d_X8_isWall_12 ki_1 ?_
    refine WP.goto d_X8_isWall_13 ?_
    cases H
    exact WP.ireturn d_X8_isWall_17 rfl rfl (Nat.le_of_ble_eq_true rfl) (Nat.le_of_ble_eq_true rfl)
  · refine WP.icmp_ne_f d_X8_isWall_9 hc ?_
    refine WP.iconst d_X8_isWall_16 ki_0 ?_
    cases H
    exact WP.ireturn d_X8_isWall_17 rfl rfl (Nat.le_of_ble_eq_true rfl) (Nat.le_of_ble_eq_true rfl)

set_option maxRecDepth 20000 in
set_option maxHeartbeats 4000000 in
theorem ok_X8_beside (V : EV) {h : HA} {t : Nat} {l1 : Int32} {l2 : Int32} {r : Int32} (H : X8_beside h t l1 l2 = some r) : MG V M_X8_beside [.ref t, .int l1, .int l2] h (some (.int r)) h := by
  unfold X8_beside at H
  obtain ⟨_, H⟩ := oc H
  refine MG.of (lv0 := [(0, .ref t), (1, .int l1), (2, .int l2)]) pn_X8 rfl (Nat.le_of_ble_eq_true rfl) ?_
  refine WP.iload_n d_X8_beside_0 1 rfl ?_
  refine WP.aload_n d_X8_beside_1 0 rfl ?_
  obtain ⟨x1, ex1, H⟩ := ob H
  refine WP.fI d_X8_beside_2 gf_X8_271 (fun _ => rfl) ex1 ?_
  obtain ⟨x2, ex2, H⟩ := ob H
  refine WP.irem d_X8_beside_5 ex2 ?_
  refine WP.iload_n d_X8_beside_6 2 rfl ?_
  refine WP.iconst d_X8_beside_7 ki_1 ?_
  obtain ⟨j3, hs4, H⟩ := ol H
  have J5 : WP V M_X8_beside 25 [(0, .ref t), (1, .int l1), (2, .int l2)] [.int j3, .int x2] h 0 0 (some (.int r)) h := by
    refine WP.iadd d_X8_beside_25 ?_
    refine WP.istore_n (lv9 := [(3, .int (x2 + j3)), (0, .ref t), (1, .int l1), (2, .int l2)]) d_X8_beside_26 (Nat.le_of_ble_eq_true rfl) rfl ?_
    refine WP.iload_n d_X8_beside_27 2 rfl ?_
    refine WP.aload_n d_X8_beside_28 1 rfl ?_
    obtain ⟨x6, ex6, H⟩ := ob H
    refine WP.fI d_X8_beside_29 gf_X8_271 (fun _ => rfl) ex6 ?_
    obtain ⟨x7, ex7, H⟩ := ob H
    refine WP.idiv d_X8_beside_32 ex7 ?_
    refine WP.iload_n d_X8_beside_33 3 rfl ?_
    refine WP.iconst d_X8_beside_34 ki_2 ?_
    obtain ⟨j8, hs9, H⟩ := ol H
    have J10 : WP V M_X8_beside 51 [(0, .ref t), (3, .int (x2 + j3))] [.int j8, .int x7] h 0 0 (some (.int r)) h := by
      refine WP.iadd d_X8_beside_51 ?_
      refine WP.istore (lv9 := [(4, .int (x7 + j8)), (0, .ref t), (3, .int (x2 + j3))]) d_X8_beside_52 (Nat.le_of_ble_eq_true rfl) rfl ?_
      refine WP.iload_n d_X8_beside_54 2 rfl ?_
      refine WP.iconst d_X8_beside_55 ki_0 ?_
      refine WP.aload_n d_X8_beside_56 1 rfl ?_
      obtain ⟨x11, ex11, H⟩ := ob H
      refine WP.fI d_X8_beside_57 gf_X8_271 (fun _ => rfl) ex11 ?_
      refine WP.iconst d_X8_beside_60 ki_1 ?_
      refine WP.isub d_X8_beside_61 ?_
      obtain ⟨x13, e12, H⟩ := ob H
      refine WP.cS (As := [.int (x2 + j3), .int 0, .int (x11 - 1)]) (st := []) (st9 := [.int x13]) (cl9 := 0) (sl9 := 0) d_X8_beside_62 (ok_X8_in V (h := h) e12) tv_X8_in ts_X8_in lk_X8_114 r_X8_beside_X8_in rfl rfl (Nat.le_of_ble_eq_true rfl) rfl rfl rfl ?_
      rcases oj H with ⟨hc, H⟩ | ⟨hc, H⟩
      · refine WP.if_eq_t d_X8_beside_65 hc ?_
        refine WP.iconst d_X8_beside_95 ki_m1 ?_
        cases H
        exact WP.ireturn d_X8_beside_96 rfl rfl (Nat.le_of_ble_eq_true rfl) (Nat.le_of_ble_eq_true rfl)
      · refine WP.if_eq_f d_X8_beside_65 hc ?_
        refine WP.iload d_X8_beside_68 0 rfl ?_
        refine WP.iconst d_X8_beside_70 ki_0 ?_
        refine WP.aload_n d_X8_beside_71 1 rfl ?_
        obtain ⟨x14, ex14, H⟩ := ob H
        refine WP.fI d_X8_beside_72 gf_X8_274 (fun _ => rfl) ex14 ?_
        refine WP.iconst d_X8_beside_75 ki_1 ?_
        refine WP.isub d_X8_beside_76 ?_
        obtain ⟨x16, e15, H⟩ := ob H
        refine WP.cS (As := [.int (x7 + j8), .int 0, .int (x14 - 1)]) (st := []) (st9 := [.int x16]) (cl9 := 0) (sl9 := 0) d_X8_beside_77 (ok_X8_in V (h := h) e15) tv_X8_in ts_X8_in lk_X8_114 r_X8_beside_X8_in rfl rfl (Nat.le_of_ble_eq_true rfl) rfl rfl rfl ?_
        rcases oj H with ⟨hc, H⟩ | ⟨hc, H⟩
        · refine WP.if_eq_t d_X8_beside_80 hc ?_
          refine WP.iconst d_X8_beside_95 ki_m1 ?_
          cases H
          exact WP.ireturn d_X8_beside_96 rfl rfl (Nat.le_of_ble_eq_true rfl) (Nat.le_of_ble_eq_true rfl)
        · refine WP.if_eq_f d_X8_beside_80 hc ?_
          refine WP.iload d_X8_beside_83 0 rfl ?_
          refine WP.aload_n d_X8_beside_85 1 rfl ?_
          obtain ⟨x17, ex17, H⟩ := ob H
          refine WP.fI d_X8_beside_86 gf_X8_271 (fun _ => rfl) ex17 ?_
          refine WP.imul d_X8_beside_89 ?_
          refine WP.iload_n d_X8_beside_90 2 rfl ?_
          refine WP.iadd d_X8_beside_91 ?_
          refine WP.goto d_X8_beside_92 ?_
          cases H
          exact WP.ireturn d_X8_beside_96 rfl rfl (Nat.le_of_ble_eq_true rfl) (Nat.le_of_ble_eq_true rfl)
    rcases oj hs9 with ⟨hc, hs9⟩ | ⟨hc, hs9⟩
    · refine WP.icmp_ne_t d_X8_beside_35 hc ?_
      refine WP.iconst d_X8_beside_38 ki_1 ?_
      refine WP.goto d_X8_beside_39 ?_
      cases hs9
      exact WP.sub [1, 0] rfl J10
    · refine WP.icmp_ne_f d_X8_beside_35 hc ?_
      refine WP.iload_n d_X8_beside_42 3 rfl ?_
      rcases oj hs9 with ⟨hc, hs9⟩ | ⟨hc, hs9⟩
      · refine WP.if_ne_t d_X8_beside_43 hc ?_
        refine WP.iconst d_X8_beside_46 ki_m1 ?_
        refine WP.goto d_X8_beside_47 ?_
        cases hs9
        exact WP.sub [1, 0] rfl J10
      · refine WP.if_ne_f d_X8_beside_43 hc ?_
        refine WP.iconst d_X8_beside_50 ki_0 ?_
        cases hs9
        exact WP.sub [1, 0] rfl J10
  rcases oj hs4 with ⟨hc, hs4⟩ | ⟨hc, hs4⟩
  · refine WP.icmp_ne_t d_X8_beside_8 hc ?_
    refine WP.iconst d_X8_beside_11 ki_1 ?_
    refine WP.goto d_X8_beside_12 ?_
    cases hs4
    exact WP.sub [0, 1, 2] rfl J5
  · refine WP.icmp_ne_f d_X8_beside_8 hc ?_
    refine WP.iload_n d_X8_beside_15 2 rfl ?_
    refine WP.iconst d_X8_beside_16 ki_3 ?_
    rcases oj hs4 with ⟨hc, hs4⟩ | ⟨hc, hs4⟩
    · refine WP.icmp_ne_t d_X8_beside_17 hc ?_
      refine WP.iconst d_X8_beside_20 ki_m1 ?_
      refine WP.goto d_X8_beside_21 ?_
      cases hs4
      exact WP.sub [0, 1, 2] rfl J5
    · refine WP.icmp_ne_f d_X8_beside_17 hc ?_
      refine WP.iconst d_X8_beside_24 ki_0 ?_
      cases hs4
      exact WP.sub [0, 1, 2] rfl J5

set_option maxRecDepth 20000 in
set_option maxHeartbeats 4000000 in
theorem ok_X8_stepTo (V : EV) {h : HA} {t : Nat} {l1 : Int32} {l2 : Int32} {r : Int32} (H : X8_stepTo h t l1 l2 = some r) : MG V M_X8_stepTo [.ref t, .int l1, .int l2] h (some (.int r)) h := by
  unfold X8_stepTo at H
  obtain ⟨_, H⟩ := oc H
  refine MG.of (lv0 := [(0, .ref t), (1, .int l1), (2, .int l2)]) pn_X8 rfl (Nat.le_of_ble_eq_true rfl) ?_
  refine WP.aload_n d_X8_stepTo_0 0 rfl ?_
  refine WP.iload_n d_X8_stepTo_1 1 rfl ?_
  refine WP.iload_n d_X8_stepTo_2 2 rfl ?_
  obtain ⟨x2, e1, H⟩ := ob H
  refine WP.cV (c := 9) (As := [.int l1, .int l2]) (st := []) (st9 := [.int x2]) (cl9 := 0) (sl9 := 0) d_X8_stepTo_3 (ok_X8_beside V e1) tv_X8_beside ti_X8_beside ts_X8_beside lk_X8_289 r_X8_stepTo_X8_beside kc_X8_beside (kd_X8_beside e1) rfl rfl (Nat.le_of_ble_eq_true rfl) rfl rfl rfl ?_
  refine WP.istore_n (lv9 := [(3, .int x2), (0, .ref t), (1, .int l1), (2, .int l2)]) d_X8_stepTo_6 (Nat.le_of_ble_eq_true rfl) rfl ?_
  refine WP.iload_n d_X8_stepTo_7 0 rfl ?_
  refine WP.iconst d_X8_stepTo_8 ki_m1 ?_
  rcases oj H with ⟨hc, H⟩ | ⟨hc, H⟩
  · refine WP.icmp_eq_t d_X8_stepTo_9 hc ?_
    refine WP.iconst d_X8_stepTo_20 ki_m1 ?_
    refine WP.goto d_X8_stepTo_21 ?_
    cases H
    exact WP.ireturn d_X8_stepTo_25 rfl rfl (Nat.le_of_ble_eq_true rfl) (Nat.le_of_ble_eq_true rfl)
  · refine WP.icmp_eq_f d_X8_stepTo_9 hc ?_
    refine WP.aload_n d_X8_stepTo_12 1 rfl ?_
    refine WP.iload_n d_X8_stepTo_13 0 rfl ?_
    obtain ⟨x4, e3, H⟩ := ob H
    refine WP.cV (c := 9) (As := [.int x2]) (st := []) (st9 := [.int x4]) (cl9 := 0) (sl9 := 0) d_X8_stepTo_14 (ok_X8_isWall V e3) tv_X8_isWall ti_X8_isWall ts_X8_isWall lk_X8_292 r_X8_stepTo_X8_isWall kc_X8_isWall (kd_X8_isWall e3) rfl rfl (Nat.le_of_ble_eq_true rfl) rfl rfl rfl ?_
    rcases oj H with ⟨hc, H⟩ | ⟨hc, H⟩
    · refine WP.if_eq_t d_X8_stepTo_17 hc ?_
      refine WP.iload_n d_X8_stepTo_24 0 rfl ?_
      cases H
      exact WP.ireturn d_X8_stepTo_25 rfl rfl (Nat.le_of_ble_eq_true rfl) (Nat.le_of_ble_eq_true rfl)
    · refine WP.if_eq_f d_X8_stepTo_17 hc ?_
      refine WP.iconst d_X8_stepTo_20 ki_m1 ?_
      refine WP.goto d_X8_stepTo_21 ?_
      cases H
      exact WP.ireturn d_X8_stepTo_25 rfl rfl (Nat.le_of_ble_eq_true rfl) (Nat.le_of_ble_eq_true rfl)

set_option maxRecDepth 20000 in
set_option maxHeartbeats 4000000 in
theorem okl_X8_flood_L7 (V : EV) {vF : Option Value} {hF : HA} {t : Nat} {l1 : Int32} {l2 : Int32} (n : Nat) : ∀ {h : HA} {l3 : Int32} {hR : HA}, (H : X8_flood_L7 t l2 n h l3 = some hR) → (K : WP V M_X8_flood 32 [(0, .ref t), (1, .int l1), (2, .int l2)] [] hR 0 0 vF hF) → WP V M_X8_flood 7 [(0, .ref t), (1, .int l1), (2, .int l2), (3, .int l3)] [] h 0 0 vF hF := by
  induction n with
  | zero =>
    intro h l3 hR H K
    rw [X8_flood_L7] at H
    cases H
  | succ n ih =>
    intro h l3 hR H K
    rw [X8_flood_L7] at H
    refine WP.iload_n d_X8_flood_7 3 rfl ?_
    refine WP.aload_n d_X8_flood_8 0 rfl ?_
    obtain ⟨x1, ex1, H⟩ := ob H
    refine WP.fI d_X8_flood_9 gf_X8_277 (fun _ => rfl) ex1 ?_
    rcases oj H with ⟨hc, H⟩ | ⟨hc, H⟩
    · refine WP.icmp_ge_t d_X8_flood_12 hc ?_
      refine WP.aload_n d_X8_flood_15 0 rfl ?_
      obtain ⟨x2, ex2, H⟩ := ob H
      refine WP.fR d_X8_flood_16 gf_X8_47 (fun _ => rfl) ex2 ?_
      refine WP.iload_n d_X8_flood_19 2 rfl ?_
      refine WP.iload_n d_X8_flood_20 3 rfl ?_
      refine WP.iadd d_X8_flood_21 ?_
      refine WP.sipush d_X8_flood_22 ks_1000 ?_
      obtain ⟨h3, eh3, H⟩ := ob H
      refine WP.ias d_X8_flood_25 eh3 ?_
      refine WP.iinc (lv9 := [(3, .int (l3 + 1)), (0, .ref t), (1, .int l1), (2, .int l2)]) d_X8_flood_26 3 rfl ki_1 (Nat.le_of_ble_eq_true rfl) rfl ?_
      refine WP.goto d_X8_flood_29 ?_
      refine WP.sub [1, 2, 3, 0] (lv' := [(0, .ref t), (1, .int l1), (2, .int l2), (3, .int (l3 + 1))]) rfl ?_
      exact ih H K
    · refine WP.icmp_ge_f d_X8_flood_12 hc ?_
      cases H
      exact WP.sub [0, 1, 2] rfl K

set_option maxRecDepth 20000 in
set_option maxHeartbeats 4000000 in
theorem okl_X8_flood_L71 (V : EV) {vF : Option Value} {hF : HA} {t : Nat} {l2 : Int32} {l4 : Int32} (n : Nat) : ∀ {h : HA} {l3 : Int32} {l5 : Int32} {r3 : Int32} {hR : HA}, (H : X8_flood_L71 t l2 l4 n h l3 l5 = some (r3, hR)) → (K : WP V M_X8_flood 155 [(0, .ref t), (2, .int l2), (3, .int r3), (4, .int l4)] [] hR 0 0 vF hF) → WP V M_X8_flood 71 [(0, .ref t), (2, .int l2), (3, .int l3), (4, .int l4), (5, .int l5)] [] h 0 0 vF hF := by
  induction n with
  | zero =>
    intro h l3 l5 r3 hR H K
    rw [X8_flood_L71] at H
    cases H
  | succ n ih =>
    intro h l3 l5 r3 hR H K
    rw [X8_flood_L71] at H
    refine WP.iload d_X8_flood_71 4 rfl ?_
    refine WP.iconst d_X8_flood_73 ki_4 ?_
    rcases oj H with ⟨hc, H⟩ | ⟨hc, H⟩
    · refine WP.icmp_ge_t d_X8_flood_74 hc ?_
      refine WP.aload_n d_X8_flood_77 0 rfl ?_
      refine WP.aload_n d_X8_flood_78 0 rfl ?_
      obtain ⟨x12, ex12, H⟩ := ob H
      refine WP.fR d_X8_flood_79 gf_X8_50 (fun _ => rfl) ex12 ?_
      refine WP.iload d_X8_flood_82 3 rfl ?_
      obtain ⟨x13, ex13, H⟩ := ob H
      refine WP.iald d_X8_flood_84 ex13 ?_
      refine WP.iload d_X8_flood_85 4 rfl ?_
      obtain ⟨x15, e14, H⟩ := ob H
      refine WP.cV (c := 9) (As := [.int x13, .int l5]) (st := []) (st9 := [.int x15]) (cl9 := 0) (sl9 := 0) d_X8_flood_87 (ok_X8_stepTo V e14) tv_X8_stepTo ti_X8_stepTo ts_X8_stepTo lk_X8_295 r_X8_flood_X8_stepTo kc_X8_stepTo (kd_X8_stepTo e14) rfl rfl (Nat.le_of_ble_eq_true rfl) rfl rfl rfl ?_
      refine WP.istore (lv9 := [(6, .int x15), (0, .ref t), (2, .int l2), (3, .int l3), (4, .int l4), (5, .int l5)]) d_X8_flood_90 (Nat.le_of_ble_eq_true rfl) rfl ?_
      refine WP.iload d_X8_flood_92 0 rfl ?_
      refine WP.iconst d_X8_flood_94 ki_m1 ?_
      rcases oj H with ⟨hc, H⟩ | ⟨hc, H⟩
      · refine WP.icmp_eq_t d_X8_flood_95 hc ?_
        refine WP.iinc (lv9 := [(5, .int (l5 + 1)), (6, .int x15), (0, .ref t), (2, .int l2), (3, .int l3), (4, .int l4)]) d_X8_flood_149 5 rfl ki_1 (Nat.le_of_ble_eq_true rfl) rfl ?_
        refine WP.goto d_X8_flood_152 ?_
        refine WP.sub [2, 3, 4, 5, 0] (lv' := [(0, .ref t), (2, .int l2), (3, .int l3), (4, .int l4), (5, .int (l5 + 1))]) rfl ?_
        exact ih H K
      · refine WP.icmp_eq_f d_X8_flood_95 hc ?_
        refine WP.aload_n d_X8_flood_98 1 rfl ?_
        obtain ⟨x16, ex16, H⟩ := ob H
        refine WP.fR d_X8_flood_99 gf_X8_47 (fun _ => rfl) ex16 ?_
        refine WP.iload_n d_X8_flood_102 2 rfl ?_
        refine WP.iload d_X8_flood_103 0 rfl ?_
        refine WP.iadd d_X8_flood_105 ?_
        obtain ⟨x17, ex17, H⟩ := ob H
        refine WP.iald d_X8_flood_106 ex17 ?_
        refine WP.sipush d_X8_flood_107 ks_1000 ?_
        rcases oj H with ⟨hc, H⟩ | ⟨hc, H⟩
        · refine WP.icmp_ne_t d_X8_flood_110 hc ?_
          refine WP.aload_n d_X8_flood_113 1 rfl ?_
          obtain ⟨x18, ex18, H⟩ := ob H
          refine WP.fR d_X8_flood_114 gf_X8_47 (fun _ => rfl) ex18 ?_
          refine WP.iload_n d_X8_flood_117 2 rfl ?_
          refine WP.iload d_X8_flood_118 0 rfl ?_
          refine WP.iadd d_X8_flood_120 ?_
          refine WP.aload_n d_X8_flood_121 1 rfl ?_
          obtain ⟨x19, ex19, H⟩ := ob H
          refine WP.fR d_X8_flood_122 gf_X8_47 (fun _ => rfl) ex19 ?_
          refine WP.iload_n d_X8_flood_125 2 rfl ?_
          refine WP.aload_n d_X8_flood_126 1 rfl ?_
          obtain ⟨x20, ex20, H⟩ := ob H
          refine WP.fR d_X8_flood_127 gf_X8_50 (fun _ => rfl) ex20 ?_
          refine WP.iload d_X8_flood_130 4 rfl ?_
          obtain ⟨x21, ex21, H⟩ := ob H
          refine WP.iald d_X8_flood_132 ex21 ?_
          refine WP.iadd d_X8_flood_133 ?_
          obtain ⟨x22, ex22, H⟩ := ob H
          refine WP.iald d_X8_flood_134 ex22 ?_
          refine WP.iconst d_X8_flood_135 ki_1 ?_
          refine WP.iadd d_X8_flood_136 ?_
          obtain ⟨h23, eh23, H⟩ := ob H
          refine WP.ias d_X8_flood_137 eh23 ?_
          refine WP.aload_n d_X8_flood_138 1 rfl ?_
          obtain ⟨x24, ex24, H⟩ := ob H
          refine WP.fR d_X8_flood_139 gf_X8_50 (fun _ => rfl) ex24 ?_
          refine WP.iload_n d_X8_flood_142 3 rfl ?_
          refine WP.iload d_X8_flood_143 0 rfl ?_
          obtain ⟨h25, eh25, H⟩ := ob H
          refine WP.ias d_X8_flood_145 eh25 ?_
          refine WP.iinc (lv9 := [(3, .int (l3 + 1)), (6, .int x15), (0, .ref t), (2, .int l2), (4, .int l4), (5, .int l5)]) d_X8_flood_146 3 rfl ki_1 (Nat.le_of_ble_eq_true rfl) rfl ?_
          refine WP.iinc (lv9 := [(5, .int (l5 + 1)), (3, .int (l3 + 1)), (6, .int x15), (0, .ref t), (2, .int l2), (4, .int l4)]) d_X8_flood_149 5 rfl ki_1 (Nat.le_of_ble_eq_true rfl) rfl ?_
          refine WP.goto d_X8_flood_152 ?_
          refine WP.sub [3, 4, 1, 5, 0] (lv' := [(0, .ref t), (2, .int l2), (3, .int (l3 + 1)), (4, .int l4), (5, .int (l5 + 1))]) rfl ?_
          exact ih H K
        · refine WP.icmp_ne_f d_X8_flood_110 hc ?_
          refine WP.iinc (lv9 := [(5, .int (l5 + 1)), (6, .int x15), (0, .ref t), (2, .int l2), (3, .int l3), (4, .int l4)]) d_X8_flood_149 5 rfl ki_1 (Nat.le_of_ble_eq_true rfl) rfl ?_
          refine WP.goto d_X8_flood_152 ?_
          refine WP.sub [2, 3, 4, 5, 0] (lv' := [(0, .ref t), (2, .int l2), (3, .int l3), (4, .int l4), (5, .int (l5 + 1))]) rfl ?_
          exact ih H K
    · refine WP.icmp_ge_f d_X8_flood_74 hc ?_
      cases H
      exact WP.sub [0, 1, 2, 3] rfl K

set_option maxRecDepth 20000 in
set_option maxHeartbeats 4000000 in
theorem okl_X8_flood_L62 (V : EV) {vF : Option Value} {hF : HA} {t : Nat} {l2 : Int32} (n : Nat) : ∀ {h : HA} {l3 : Int32} {l4 : Int32} {hR : HA}, (H : X8_flood_L62 t l2 n h l3 l4 = some hR) → (K : WP V M_X8_flood 161 [] [] hR 0 0 vF hF) → WP V M_X8_flood 62 [(0, .ref t), (2, .int l2), (3, .int l3), (4, .int l4)] [] h 0 0 vF hF := by
  induction n with
  | zero =>
    intro h l3 l4 hR H K
    rw [X8_flood_L62] at H
    cases H
  | succ n ih =>
    intro h l3 l4 hR H K
    rw [X8_flood_L62] at H
    refine WP.iload d_X8_flood_62 3 rfl ?_
    refine WP.iload_n d_X8_flood_64 2 rfl ?_
    rcases oj H with ⟨hc, H⟩ | ⟨hc, H⟩
    · refine WP.icmp_ge_t d_X8_flood_65 hc ?_
      refine WP.iconst d_X8_flood_68 ki_0 ?_
      refine WP.istore (lv9 := [(5, .int 0), (0, .ref t), (2, .int l2), (3, .int l3), (4, .int l4)]) d_X8_flood_69 (Nat.le_of_ble_eq_true rfl) rfl ?_
      obtain ⟨⟨y27, h28⟩, e26, H⟩ := ob H
      refine WP.sub [1, 2, 3, 4, 0] (lv' := [(0, .ref t), (2, .int l2), (3, .int l3), (4, .int l4), (5, .int 0)]) rfl ?_
      refine okl_X8_flood_L71 V _ e26 ?_
      refine WP.iinc (lv9 := [(4, .int (l4 + 1)), (0, .ref t), (2, .int l2), (3, .int y27)]) d_X8_flood_155 3 rfl ki_1 (Nat.le_of_ble_eq_true rfl) rfl ?_
      refine WP.goto d_X8_flood_158 ?_
      refine WP.sub [1, 2, 3, 0] (lv' := [(0, .ref t), (2, .int l2), (3, .int y27), (4, .int (l4 + 1))]) rfl ?_
      exact ih H K
    · refine WP.icmp_ge_f d_X8_flood_65 hc ?_
      cases H
      exact WP.sub [] rfl K

set_option maxRecDepth 20000 in
set_option maxHeartbeats 4000000 in
theorem ok_X8_flood (V : EV) {h : HA} {t : Nat} {l1 : Int32} {hR : HA} (H : X8_flood h t l1 = some hR) : MG V M_X8_flood [.ref t, .int l1] h none hR := by
  unfold X8_flood at H
  obtain ⟨_, H⟩ := oc H
  refine MG.of (lv0 := [(0, .ref t), (1, .int l1)]) pn_X8 rfl (Nat.le_of_ble_eq_true rfl) ?_
  refine WP.bipush d_X8_flood_0 kb_64 ?_
  refine WP.iload_n d_X8_flood_2 1 rfl ?_
  refine WP.imul d_X8_flood_3 ?_
  refine WP.istore_n (lv9 := [(2, .int (64 * l1)), (0, .ref t), (1, .int l1)]) d_X8_flood_4 (Nat.le_of_ble_eq_true rfl) rfl ?_
  refine WP.iconst d_X8_flood_5 ki_0 ?_
  refine WP.istore_n (lv9 := [(3, .int 0), (2, .int (64 * l1)), (0, .ref t), (1, .int l1)]) d_X8_flood_6 (Nat.le_of_ble_eq_true rfl) rfl ?_
  obtain ⟨h5, e4, H⟩ := ob H
  refine WP.sub [2, 3, 1, 0] (lv' := [(0, .ref t), (1, .int l1), (2, .int (64 * l1)), (3, .int 0)]) rfl ?_
  refine okl_X8_flood_L7 V _ e4 ?_
  refine WP.aload_n d_X8_flood_32 0 rfl ?_
  refine WP.iload_n d_X8_flood_33 1 rfl ?_
  obtain ⟨x7, e6, H⟩ := ob H
  refine WP.cV (c := 9) (As := [.int l1]) (st := []) (st9 := [.int x7]) (cl9 := 0) (sl9 := 0) d_X8_flood_34 (ok_X8_isWall V e6) tv_X8_isWall ti_X8_isWall ts_X8_isWall lk_X8_292 r_X8_flood_X8_isWall kc_X8_isWall (kd_X8_isWall e6) rfl rfl (Nat.le_of_ble_eq_true rfl) rfl rfl rfl ?_
  rcases oj H with ⟨hc, H⟩ | ⟨hc, H⟩
  · refine WP.if_eq_t d_X8_flood_37 hc ?_
    refine WP.iconst d_X8_flood_41 ki_1 ?_
    refine WP.istore_n (lv9 := [(3, .int 1), (0, .ref t), (1, .int l1), (2, .int (64 * l1))]) d_X8_flood_42 (Nat.le_of_ble_eq_true rfl) rfl ?_
    refine WP.aload_n d_X8_flood_43 1 rfl ?_
    obtain ⟨x8, ex8, H⟩ := ob H
    refine WP.fR d_X8_flood_44 gf_X8_50 (fun _ => rfl) ex8 ?_
    refine WP.iconst d_X8_flood_47 ki_0 ?_
    refine WP.iload_n d_X8_flood_48 2 rfl ?_
    obtain ⟨h9, eh9, H⟩ := ob H
    refine WP.ias d_X8_flood_49 eh9 ?_
    refine WP.aload_n d_X8_flood_50 1 rfl ?_
    obtain ⟨x10, ex10, H⟩ := ob H
    refine WP.fR d_X8_flood_51 gf_X8_47 (fun _ => rfl) ex10 ?_
    refine WP.iload_n d_X8_flood_54 3 rfl ?_
    refine WP.iload_n d_X8_flood_55 2 rfl ?_
    refine WP.iadd d_X8_flood_56 ?_
    refine WP.iconst d_X8_flood_57 ki_0 ?_
    obtain ⟨h11, eh11, H⟩ := ob H
    refine WP.ias d_X8_flood_58 eh11 ?_
    refine WP.iconst d_X8_flood_59 ki_0 ?_
    refine WP.istore (lv9 := [(4, .int 0), (3, .int 1), (0, .ref t), (1, .int l1), (2, .int (64 * l1))]) d_X8_flood_60 (Nat.le_of_ble_eq_true rfl) rfl ?_
    obtain ⟨h30, e29, H⟩ := ob H
    refine WP.sub [2, 4, 1, 0] (lv' := [(0, .ref t), (2, .int (64 * l1)), (3, .int 1), (4, .int 0)]) rfl ?_
    refine okl_X8_flood_L62 V _ e29 ?_
    cases H
    exact WP.return_ d_X8_flood_161 rfl (Nat.le_of_ble_eq_true rfl) (Nat.le_of_ble_eq_true rfl)
  · refine WP.if_eq_f d_X8_flood_37 hc ?_
    cases H
    exact WP.return_ d_X8_flood_40 rfl (Nat.le_of_ble_eq_true rfl) (Nat.le_of_ble_eq_true rfl)

set_option maxRecDepth 20000 in
set_option maxHeartbeats 4000000 in
theorem okl_X8_hand_L67 (V : EV) {vF : Option Value} {hF : HA} {t : Nat} (n : Nat) : ∀ {h : HA} {l2 : Int32} {hR : HA}, (H : X8_hand_L67 t n h l2 = some hR) → (K : WP V M_X8_hand 86 [] [] hR 0 0 vF hF) → WP V M_X8_hand 67 [(0, .ref t), (2, .int l2)] [] h 0 0 vF hF := by
  induction n with
  | zero =>
    intro h l2 hR H K
    rw [X8_hand_L67] at H
    cases H
  | succ n ih =>
    intro h l2 hR H K
    rw [X8_hand_L67] at H
    refine WP.iload_n d_X8_hand_67 1 rfl ?_
    refine WP.aload_n d_X8_hand_68 0 rfl ?_
    obtain ⟨x19, ex19, H⟩ := ob H
    refine WP.fI d_X8_hand_69 gf_X8_277 (fun _ => rfl) ex19 ?_
    rcases oj H with ⟨hc, H⟩ | ⟨hc, H⟩
    · refine WP.icmp_ge_t d_X8_hand_72 hc ?_
      refine WP.aload_n d_X8_hand_75 0 rfl ?_
      refine WP.iload_n d_X8_hand_76 1 rfl ?_
      obtain ⟨h21, e20, H⟩ := ob H
      refine WP.cV (c := 9) (As := [.int l2]) (st := []) (st9 := []) (cl9 := 0) (sl9 := 0) d_X8_hand_77 (ok_X8_flood V e20) tv_X8_flood ti_X8_flood ts_X8_flood lk_X8_286 r_X8_hand_X8_flood kc_X8_flood (kd_X8_flood e20) rfl rfl (Nat.le_of_ble_eq_true rfl) rfl rfl rfl ?_
      refine WP.iinc (lv9 := [(2, .int (l2 + 1)), (0, .ref t)]) d_X8_hand_80 1 rfl ki_1 (Nat.le_of_ble_eq_true rfl) rfl ?_
      refine WP.goto d_X8_hand_83 ?_
      refine WP.sub [1, 0] (lv' := [(0, .ref t), (2, .int (l2 + 1))]) rfl ?_
      exact ih H K
    · refine WP.icmp_ge_f d_X8_hand_72 hc ?_
      cases H
      exact WP.sub [] rfl K

set_option maxRecDepth 20000 in
set_option maxHeartbeats 4000000 in
theorem ok_X8_hand (V : EV) {h : HA} {t : Nat} {l1 : Int32} {r : Int32} {hR : HA} (H : X8_hand h t l1 = some (r, hR)) : MG V M_X8_hand [.ref t, .int l1] h (some (.int r)) hR := by
  unfold X8_hand at H
  obtain ⟨_, H⟩ := oc H
  refine MG.of (lv0 := [(0, .ref t), (1, .int l1)]) pn_X8 rfl (Nat.le_of_ble_eq_true rfl) ?_
  refine WP.aload_n d_X8_hand_0 0 rfl ?_
  refine WP.iconst d_X8_hand_1 ki_0 ?_
  refine WP.iload_n d_X8_hand_2 1 rfl ?_
  obtain ⟨x2, e1, H⟩ := ob H
  refine WP.cV (c := 9) (As := [.int 0, .int l1]) (st := []) (st9 := [.int x2]) (cl9 := 0) (sl9 := 0) d_X8_hand_3 (ok_X8_is V e1) tv_X8_is ti_X8_is ts_X8_is lk_X8_254 r_X8_hand_X8_is kc_X8_is (kd_X8_is e1) rfl rfl (Nat.le_of_ble_eq_true rfl) rfl rfl rfl ?_
  rcases oj H with ⟨hc, H⟩ | ⟨hc, H⟩
  · refine WP.if_ne_t d_X8_hand_6 hc ?_
    refine WP.iconst d_X8_hand_9 ki_0 ?_
    cases H
    exact WP.ireturn d_X8_hand_10 rfl rfl (Nat.le_of_ble_eq_true rfl) (Nat.le_of_ble_eq_true rfl)
  · refine WP.if_ne_f d_X8_hand_6 hc ?_
    refine WP.aload_n d_X8_hand_11 0 rfl ?_
    refine WP.iload_n d_X8_hand_12 1 rfl ?_
    obtain ⟨h3, eh3, H⟩ := ob H
    refine WP.uI d_X8_hand_13 gf_X8_264 rfl (Or.inl rfl) rfl rfl eh3 ?_
    refine WP.aload_n d_X8_hand_16 0 rfl ?_
    refine WP.aload_n d_X8_hand_17 0 rfl ?_
    refine WP.iconst d_X8_hand_18 ki_0 ?_
    obtain ⟨x5, e4, H⟩ := ob H
    refine WP.cV (c := 9) (As := [.int 0]) (st := [.ref t]) (st9 := [.int x5, .ref t]) (cl9 := 0) (sl9 := 0) d_X8_hand_19 (ok_X8_of V e4) tv_X8_of ti_X8_of ts_X8_of lk_X8_267 r_X8_hand_X8_of kc_X8_of (kd_X8_of e4) rfl rfl (Nat.le_of_ble_eq_true rfl) rfl rfl rfl ?_
    obtain ⟨h6, eh6, H⟩ := ob H
    refine WP.uI d_X8_hand_22 gf_X8_271 rfl (Or.inl rfl) rfl rfl eh6 ?_
    refine WP.aload_n d_X8_hand_25 0 rfl ?_
    refine WP.aload_n d_X8_hand_26 0 rfl ?_
    refine WP.iconst d_X8_hand_27 ki_1 ?_
    obtain ⟨x8, e7, H⟩ := ob H
    refine WP.cV (c := 9) (As := [.int 1]) (st := [.ref t]) (st9 := [.int x8, .ref t]) (cl9 := 0) (sl9 := 0) d_X8_hand_28 (ok_X8_of V e7) tv_X8_of ti_X8_of ts_X8_of lk_X8_267 r_X8_hand_X8_of kc_X8_of (kd_X8_of e7) rfl rfl (Nat.le_of_ble_eq_true rfl) rfl rfl rfl ?_
    obtain ⟨h9, eh9, H⟩ := ob H
    refine WP.uI d_X8_hand_31 gf_X8_274 rfl (Or.inl rfl) rfl rfl eh9 ?_
    refine WP.aload_n d_X8_hand_34 0 rfl ?_
    refine WP.aload_n d_X8_hand_35 0 rfl ?_
    obtain ⟨x10, ex10, H⟩ := ob H
    refine WP.fI d_X8_hand_36 gf_X8_271 (fun _ => rfl) ex10 ?_
    refine WP.aload_n d_X8_hand_39 0 rfl ?_
    obtain ⟨x11, ex11, H⟩ := ob H
    refine WP.fI d_X8_hand_40 gf_X8_274 (fun _ => rfl) ex11 ?_
    refine WP.imul d_X8_hand_43 ?_
    obtain ⟨h12, eh12, H⟩ := ob H
    refine WP.uI d_X8_hand_44 gf_X8_277 rfl (Or.inl rfl) rfl rfl eh12 ?_
    refine WP.aload_n d_X8_hand_47 0 rfl ?_
    refine WP.aload_n d_X8_hand_48 0 rfl ?_
    refine WP.iconst d_X8_hand_49 ki_2 ?_
    obtain ⟨x14, e13, H⟩ := ob H
    refine WP.cV (c := 9) (As := [.int 2]) (st := [.ref t]) (st9 := [.int x14, .ref t]) (cl9 := 0) (sl9 := 0) d_X8_hand_50 (ok_X8_of V e13) tv_X8_of ti_X8_of ts_X8_of lk_X8_267 r_X8_hand_X8_of kc_X8_of (kd_X8_of e13) rfl rfl (Nat.le_of_ble_eq_true rfl) rfl rfl rfl ?_
    obtain ⟨h15, eh15, H⟩ := ob H
    refine WP.uI d_X8_hand_53 gf_X8_280 rfl (Or.inl rfl) rfl rfl eh15 ?_
    refine WP.aload_n d_X8_hand_56 0 rfl ?_
    refine WP.aload_n d_X8_hand_57 0 rfl ?_
    refine WP.iconst d_X8_hand_58 ki_3 ?_
    obtain ⟨x17, e16, H⟩ := ob H
    refine WP.cV (c := 9) (As := [.int 3]) (st := [.ref t]) (st9 := [.int x17, .ref t]) (cl9 := 0) (sl9 := 0) d_X8_hand_59 (ok_X8_of V e16) tv_X8_of ti_X8_of ts_X8_of lk_X8_267 r_X8_hand_X8_of kc_X8_of (kd_X8_of e16) rfl rfl (Nat.le_of_ble_eq_true rfl) rfl rfl rfl ?_
    obtain ⟨h18, eh18, H⟩ := ob H
    refine WP.uI d_X8_hand_62 gf_X8_283 rfl (Or.inl rfl) rfl rfl eh18 ?_
    refine WP.iconst d_X8_hand_65 ki_0 ?_
    refine WP.istore_n (lv9 := [(2, .int 0), (0, .ref t), (1, .int l1)]) d_X8_hand_66 (Nat.le_of_ble_eq_true rfl) rfl ?_
    obtain ⟨h23, e22, H⟩ := ob H
    refine WP.sub [1, 0] (lv' := [(0, .ref t), (2, .int 0)]) rfl ?_
    refine okl_X8_hand_L67 V _ e22 ?_
    refine WP.iconst d_X8_hand_86 ki_1 ?_
    cases H
    exact WP.ireturn d_X8_hand_87 rfl rfl (Nat.le_of_ble_eq_true rfl) (Nat.le_of_ble_eq_true rfl)

set_option maxRecDepth 20000 in
set_option maxHeartbeats 4000000 in
theorem ok_X8_isField (V : EV) {h : HA} {t : Nat} {l1 : Int32} {r : Int32} (H : X8_isField h t l1 = some r) : MG V M_X8_isField [.ref t, .int l1] h (some (.int r)) h := by
  unfold X8_isField at H
  obtain ⟨_, H⟩ := oc H
  refine MG.of (lv0 := [(0, .ref t), (1, .int l1)]) pn_X8 rfl (Nat.le_of_ble_eq_true rfl) ?_
  refine WP.iload_n d_X8_isField_0 1 rfl ?_
  refine WP.iconst d_X8_isField_1 ki_0 ?_
  refine WP.aload_n d_X8_isField_2 0 rfl ?_
  obtain ⟨x1, ex1, H⟩ := ob H
  refine WP.fI d_X8_isField_3 gf_X8_277 (fun _ => rfl) ex1 ?_
  refine WP.iconst d_X8_isField_6 ki_1 ?_
  refine WP.isub d_X8_isField_7 ?_
  obtain ⟨x3, e2, H⟩ := ob H
  refine WP.cS (As := [.int l1, .int 0, .int (x1 - 1)]) (st := []) (st9 := [.int x3]) (cl9 := 0) (sl9 := 0) d_X8_isField_8 (ok_X8_in V (h := h) e2) tv_X8_in ts_X8_in lk_X8_114 r_X8_isField_X8_in rfl rfl (Nat.le_of_ble_eq_true rfl) rfl rfl rfl ?_
  obtain ⟨x4, ex4, H⟩ := ob H
  obtain ⟨rfl, hnx4⟩ := bz_sp ex4
  cases H
  exact WP.ireturn d_X8_isField_11 rfl hnx4 (Nat.le_of_ble_eq_true rfl) (Nat.le_of_ble_eq_true rfl)

set_option maxRecDepth 20000 in
set_option maxHeartbeats 4000000 in
theorem ok_X8_farOf (V : EV) {h : HA} {t : Nat} {l1 : Int32} {l2 : Int32} {r : Int32} (H : X8_farOf h t l1 l2 = some r) : MG V M_X8_farOf [.ref t, .int l1, .int l2] h (some (.int r)) h := by
  unfold X8_farOf at H
  obtain ⟨_, H⟩ := oc H
  refine MG.of (lv0 := [(0, .ref t), (1, .int l1), (2, .int l2)]) pn_X8 rfl (Nat.le_of_ble_eq_true rfl) ?_
  refine WP.aload_n d_X8_farOf_0 0 rfl ?_
  obtain ⟨x1, ex1, H⟩ := ob H
  refine WP.fR d_X8_farOf_1 gf_X8_47 (fun _ => rfl) ex1 ?_
  refine WP.bipush d_X8_farOf_4 kb_64 ?_
  refine WP.iload_n d_X8_farOf_6 1 rfl ?_
  refine WP.imul d_X8_farOf_7 ?_
  refine WP.iload_n d_X8_farOf_8 2 rfl ?_
  refine WP.iadd d_X8_farOf_9 ?_
  obtain ⟨x2, ex2, H⟩ := ob H
  refine WP.iald d_X8_farOf_10 ex2 ?_
  cases H
  exact WP.ireturn d_X8_farOf_11 rfl rfl (Nat.le_of_ble_eq_true rfl) (Nat.le_of_ble_eq_true rfl)
