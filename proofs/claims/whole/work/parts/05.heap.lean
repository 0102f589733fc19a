/-! THE CLASSES' TABLES, by the kind's number -/
def clR (c : Nat) : String := match c with
  | 1 => RX0
  | 2 => RX1
  | 3 => RX2
  | 4 => RX3
  | 5 => RX4
  | 6 => RX5
  | 7 => RX6
  | 8 => RX7
  | _ => RX8
def clT (c : Nat) : u_T := match c with
  | 1 => TX0
  | 2 => TX1
  | 3 => TX2
  | 4 => TX3
  | 5 => TX4
  | 6 => TX5
  | 7 => TX6
  | 8 => TX7
  | _ => TX8
theorem mem_p {big : List Cond} (ws : List Cond) (ps : List Nat) (h : ws.map some = ps.map (fun i => big[i]?)) : ∀ w ∈ ws, w ∈ big := by
  intro w hw
  have h1 : some w ∈ ws.map some := List.mem_map.mpr ⟨w, hw, rfl⟩
  rw [h] at h1
  obtain ⟨i, -, hi⟩ := List.mem_map.mp h1
  exact List.mem_of_getElem? hi
theorem mem_i {w : Cond} (i : Nat) (h : lw_tbl[i]? = some w) (hg : goodWord w = true) : w ∈ gTbl := List.mem_filter.mpr ⟨List.mem_of_getElem? h, hg⟩
theorem mem_pg {ws : List Cond} (h : ∀ w ∈ ws, w ∈ lw_tbl) (hg : ws.all goodWord = true) : ∀ w ∈ ws, w ∈ gTbl := fun w hw => List.mem_filter.mpr ⟨h w hw, List.all_eq_true.mp hg w hw⟩
set_option maxRecDepth 20000 in
theorem inX0 : ∀ w ∈ u_ws RX0 TX0 14, w ∈ gTbl := mem_pg (mem_p _ [205, 207, 209, 211, 213, 215, 217, 219, 221, 223, 225, 227, 229, 231] (by decide +kernel)) (by decide +kernel)
set_option maxRecDepth 20000 in
theorem inX1 : ∀ w ∈ u_ws RX1 TX1 9, w ∈ gTbl := mem_pg (mem_p _ [369, 371, 373, 375, 377, 379, 381, 383, 385] (by decide +kernel)) (by decide +kernel)
set_option maxRecDepth 20000 in
theorem inX2 : ∀ w ∈ u_ws RX2 TX2 3, w ∈ gTbl := mem_pg (mem_p _ [257, 259, 261] (by decide +kernel)) (by decide +kernel)
set_option maxRecDepth 20000 in
theorem inX3 : ∀ w ∈ u_ws RX3 TX3 13, w ∈ gTbl := mem_pg (mem_p _ [321, 323, 325, 327, 329, 331, 333, 335, 337, 339, 341, 343, 345] (by decide +kernel)) (by decide +kernel)
set_option maxRecDepth 20000 in
theorem inX4 : ∀ w ∈ u_ws RX4 TX4 3, w ∈ gTbl := mem_pg (mem_p _ [398, 400, 402] (by decide +kernel)) (by decide +kernel)
set_option maxRecDepth 20000 in
theorem inX5 : ∀ w ∈ u_ws RX5 TX5 7, w ∈ gTbl := mem_pg (mem_p _ [278, 280, 282, 284, 286, 288, 290] (by decide +kernel)) (by decide +kernel)
set_option maxRecDepth 20000 in
theorem inX6 : ∀ w ∈ u_ws RX6 TX6 5, w ∈ gTbl := mem_pg (mem_p _ [778, 780, 782, 784, 786] (by decide +kernel)) (by decide +kernel)
set_option maxRecDepth 20000 in
theorem inX7 : ∀ w ∈ u_ws RX7 TX7 6, w ∈ gTbl := mem_pg (mem_p _ [411, 413, 415, 417, 419, 421] (by decide +kernel)) (by decide +kernel)
set_option maxRecDepth 20000 in
theorem inX8 : ∀ w ∈ u_ws RX8 TX8 55, w ∈ gTbl := mem_pg (mem_p _ [1215, 1217, 1219, 1221, 1223, 1225, 1227, 1229, 1231, 1233, 1235, 1237, 1239, 1241, 1243, 1245, 1247, 1249, 1251, 1253, 1255, 1257, 1259, 1261, 1263, 1265, 1267, 1269, 1271, 1273, 1275, 1277, 1279, 1281, 1283, 1285, 1287, 1289, 1291, 1293, 1295, 1297, 1299, 1301, 1303, 1305, 1307, 1309, 1311, 1313, 1315, 1317, 1319, 1321, 1323] (by decide +kernel)) (by decide +kernel)
def ClQ (c : Nat) : Prop := vwCl[c - 1]? = some (clR c, clT c, nfd c) ∧ (∀ w ∈ u_ws (clR c) (clT c) (nfd c), w ∈ gTbl) ∧ (∀ k, k < nfd c → parseFieldDescriptor (clT c k).2.2.1 = some (fty c k)) ∧ (∀ a, a < nfd c → ∀ b, b < nfd c → a ≠ b → (clT c a).2.1 ≠ (clT c b).2.1)
theorem clq {c : Nat} (h1 : 1 ≤ c) (h9 : c ≤ 9) : ClQ c := by
  have : c = 1 ∨ c = 2 ∨ c = 3 ∨ c = 4 ∨ c = 5 ∨ c = 6 ∨ c = 7 ∨ c = 8 ∨ c = 9 := by omega
  rcases this with rfl | rfl | rfl | rfl | rfl | rfl | rfl | rfl | rfl
  · exact ⟨rfl, inX0, tyX0_ok, nmX0⟩
  · exact ⟨rfl, inX1, tyX1_ok, nmX1⟩
  · exact ⟨rfl, inX2, tyX2_ok, nmX2⟩
  · exact ⟨rfl, inX3, tyX3_ok, nmX3⟩
  · exact ⟨rfl, inX4, tyX4_ok, nmX4⟩
  · exact ⟨rfl, inX5, tyX5_ok, nmX5⟩
  · exact ⟨rfl, inX6, tyX6_ok, nmX6⟩
  · exact ⟨rfl, inX7, tyX7_ok, nmX7⟩
  · exact ⟨rfl, inX8, tyX8_ok, nmX8⟩
theorem tblGood : ∀ w ∈ gTbl, goodWord w = true := fun w hw => (List.mem_filter.mp hw).2
/-! THE PICTURE KEPT -/
theorem HRel.keep {V : EV} {h : HA} {H : Heap} (R : HRel V h H) : ∀ a : Nat, a < (vH V).size → ¬ wI V a → H[a]? = (vH V)[a]? := fun a _ hn => R.2.2.1 a (Nat.lt_of_not_le hn)
theorem tval_eq {h h1 : HA} {b : Nat} (hi : ∀ j, gi h1 b j = gi h b j) (hj : ∀ j, gj h1 b j = gj h b j) (ha : ∀ j, ga h1 b j = ga h b j) (t : FieldType) (k : Nat) : tval h1 t b k = tval h t b k := by
  unfold tval
  cases t <;> simp only [hi, hj, ha]
def Upd (h h1 : HA) (a : Nat) : Prop := (∀ b, kd h1 b = kd h b) ∧ hz h1 = hz h ∧ ∀ b, b ≠ a → (∀ j, gi h1 b j = gi h b j) ∧ (∀ j, gj h1 b j = gj h b j) ∧ ∀ j, ga h1 b j = ga h b j
theorem upd_si (h : HA) (a k : Nat) (v : Int32) : Upd h (si h a k v) a := ⟨fun _ => rfl, rfl, fun b hb => ⟨fun j => if_neg (fun z => hb z.1), fun _ => rfl, fun _ => rfl⟩⟩
theorem upd_sj (h : HA) (a k : Nat) (v : Int64) : Upd h (sj h a k v) a := ⟨fun _ => rfl, rfl, fun b hb => ⟨fun _ => rfl, fun j => if_neg (fun z => hb z.1), fun _ => rfl⟩⟩
theorem upd_sa (h : HA) (a k : Nat) (v : Option Nat) : Upd h (sa h a k v) a := ⟨fun _ => rfl, rfl, fun b hb => ⟨fun _ => rfl, fun _ => rfl, fun j => if_neg (fun z => hb z.1)⟩⟩
theorem HRel.upd {V : EV} {h h1 : HA} {H H1 : Heap} {a : Nat} (R : HRel V h H) (u : Upd h h1 a) (z : H1.size = H.size) (oq : ∀ q : Nat, q ≠ a → H1[q]? = H[q]?) (hb : vB V ≤ a)
    (hobj : ∀ c, (kd h a).1 = c → 1 ≤ c → c ≤ 9 → t_OB a ((vD V).1 (c - 1)) (nfd c) ((vD V).2 (c - 1)) H1 (fun k => tval h1 (fty c k) a k))
    (harr : ∀ c, (kd h a).1 = c → 20 ≤ c → H1[a]? = some (arrV (vA V c) (kd h a).2 (fun k => tval h1 (ety c) a k))) : HRel V h1 H1 := by
  obtain ⟨r1, r2, r3, r4, r5⟩ := R
  obtain ⟨u1, u2, u3⟩ := u
  refine ⟨by rw [z, u2]; exact r1, by rw [u2]; exact r2, fun q hq => by rw [oq q (by omega)]; exact r3 q hq, fun b c hc h1' h9 => ?_, fun b c hc h20 => ?_⟩
  · rw [u1] at hc
    by_cases hba : b = a
    · subst hba
      exact ⟨hb, hobj c hc h1' h9⟩
    · obtain ⟨e1, e2⟩ := r4 b c hc h1' h9
      obtain ⟨w1, w2, w3⟩ := u3 b hba
      exact ⟨e1, (e2.kept (oq b hba)).to (fun k _ => (tval_eq w1 w2 w3 _ k).symm)⟩
  · rw [u1] at hc ⊢
    by_cases hba : b = a
    · subst hba
      exact ⟨(r5 b c hc h20).1, hb, harr c hc h20⟩
    · obtain ⟨e1, e2, e3⟩ := r5 b c hc h20
      obtain ⟨w1, w2, w3⟩ := u3 b hba
      refine ⟨e1, e2, ?_⟩
      rw [oq b hba, e3]
      congr 2
      funext k
      exact (tval_eq w1 w2 w3 _ k).symm
theorem HRel.push {V : EV} {h : HA} {H H1 : Heap} {c n : Nat} (R : HRel V h H) (z : H1.size = hz h + 1) (oq : ∀ q : Nat, q < hz h → H1[q]? = H[q]?)
    (hobj : 1 ≤ c → c ≤ 9 → t_OB (hz h) ((vD V).1 (c - 1)) (nfd c) ((vD V).2 (c - 1)) H1 (fun k => tval (nw h c n) (fty c k) (hz h) k))
    (harr : 20 ≤ c → c ≤ 26 ∧ H1[hz h]? = some (arrV (vA V c) n (fun k => tval (nw h c n) (ety c) (hz h) k))) : HRel V (nw h c n) H1 := by
  obtain ⟨r1, r2, r3, r4, r5⟩ := R
  have old : ∀ b, b ≠ hz h → kd (nw h c n) b = kd h b ∧ (∀ j, gi (nw h c n) b j = gi h b j) ∧ (∀ j, gj (nw h c n) b j = gj h b j) ∧ ∀ j, ga (nw h c n) b j = ga h b j := fun b hb => ⟨if_neg hb, fun j => if_neg hb, fun j => if_neg hb, fun j => if_neg hb⟩
  have self : kd (nw h c n) (hz h) = (c, n) := if_pos rfl
  refine ⟨z, by show vB V ≤ hz h + 1; omega, fun q hq => by rw [oq q (by omega)]; exact r3 q hq, fun b c' hc h1' h9 => ?_, fun b c' hc h20 => ?_⟩
  · by_cases hb : b = hz h
    · subst hb
      rw [self] at hc
      subst hc
      exact ⟨r2, hobj h1' h9⟩
    · obtain ⟨w0, w1, w2, w3⟩ := old b hb
      rw [w0] at hc
      obtain ⟨e1, e2⟩ := r4 b c' hc h1' h9
      have hlt : b < H.size := by
        obtain ⟨cell, q, -⟩ := e2
        exact (Array.getElem?_eq_some_iff.mp q).1
      exact ⟨e1, (e2.kept (oq b (by omega))).to (fun k _ => (tval_eq w1 w2 w3 _ k).symm)⟩
  · by_cases hb : b = hz h
    · subst hb
      rw [self] at hc ⊢
      subst hc
      exact ⟨(harr h20).1, r2, (harr h20).2⟩
    · obtain ⟨w0, w1, w2, w3⟩ := old b hb
      rw [w0] at hc ⊢
      obtain ⟨e1, e2, e3⟩ := r5 b c' hc h20
      have hlt : b < H.size := (Array.getElem?_eq_some_iff.mp e3).1
      refine ⟨e1, e2, ?_⟩
      rw [oq b (by omega), e3]
      congr 2
      funext k
      exact (tval_eq w1 w2 w3 _ k).symm
theorem SK.moved {V : EV} {s U : State} (hW : s.WarmedH U.vm) (h : SK V s) : SK V U := by
  obtain ⟨h1, h2, h3, h4, h5, h6, h7, h9, h10, h8⟩ := h
  refine ⟨va_K.moved hW.alike h1, fun k hk => ⟨(h2 k hk).1.moved hW.alike, (h2 k hk).2.moved hW.alike⟩, h3.moved hW.alike, ?_, h5.moved hW.alike, fun k hk => ?_, h7.moved hW.alike, fun w hw hn => ?_, fun C hC => (h10 C hC).moved hW.alike, h8⟩
  · rcases h4 with h4 | ⟨t, h4⟩
    · exact Or.inl (h4.moved hW.alike)
    · exact Or.inr ⟨t, h4.moved hW.alike⟩
  · exact (h6 k hk).warm hW
  · have hz := h9 w hw hn
    unfold isNest at hn
    split at hn
    · exact hz.warmM hW
    · cases hn
theorem SK.same {V : EV} {s U : State} (hv : U.vm = s.vm) (h : SK V s) : SK V U := by
  have ha : s.vm.Alike U.vm := by rw [hv]; exact Vm.Alike.refl _
  obtain ⟨h1, h2, h3, h4, h5, h6, h7, h9, h10, h8⟩ := h
  refine ⟨va_K.moved ha h1, fun k hk => ⟨(h2 k hk).1.moved ha, (h2 k hk).2.moved ha⟩, h3.moved ha, ?_, h5.moved ha, fun k hk => ?_, h7.moved ha, fun w hw hn => ?_, fun C hC => (h10 C hC).moved ha, h8⟩
  · rcases h4 with h4 | ⟨t, h4⟩
    · exact Or.inl (h4.moved ha)
    · exact Or.inr ⟨t, h4.moved ha⟩
  · exact (h6 k hk).same hv
  · have hz := h9 w hw hn
    unfold isNest at hn
    split at hn
    · exact hz.same rfl hv.symm
    · cases hn
/-! A CELL AS A WORLD OF THE KIT -/
theorem HRel.objP {V : EV} {h : HA} {H : Heap} {a c : Nat} (R : HRel V h H) (hk : (kd h a).1 = c) (h1 : 1 ≤ c) (h9 : c ≤ 9) :
    va_P (vD V) vwCl [(a, .inr (c - 1, (List.range (nfd c)).map (fun k => tval h (fty c k) a k)))] H := by
  intro k q hq
  have hk0 : k = 0 := by
    have := (List.getElem?_eq_some_iff.mp hq).1
    simpa using this
  subst hk0
  cases hq
  refine ⟨_, (clq h1 h9).1, ((R.2.2.2.1 a c hk h1 h9).2).to (fun j hj => ?_)⟩
  have hj' : j < nfd c := hj
  simp [vp_V, List.getD_eq_getElem?_getD, hj']
theorem HRel.arrP {V : EV} {h : HA} {H : Heap} {a c : Nat} (R : HRel V h H) (hk : (kd h a).1 = c) (h20 : 20 ≤ c) {x : vp_A} (hx : vp_cell (vA V c) x = arrV (vA V c) (kd h a).2 (fun k => tval h (ety c) a k)) :
    va_P (vD V) vwCl [(a, .inl (vA V c, x))] H := by
  intro k q hq
  have hk0 : k = 0 := by
    have := (List.getElem?_eq_some_iff.mp hq).1
    simpa using this
  subst hk0
  cases hq
  show H[a]? = some (vp_cell (vA V c) x)
  rw [hx]
  exact (R.2.2.2.2 a c hk h20).2.2
