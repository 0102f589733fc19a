section FIXED
variable {V : EV} {X : MX} {pc q : Nat} {lv : List (Nat × Value)} {st : List Value} {h : HA} {cl sl : Nat} {v : Option Value} {h' : HA}
/-! what was there before: static fields, static rows, texts, the script -/
theorem WP.gets {C9 n9 d9 : String} {idx : Nat} {w : Value} (hd : DC X pc 3 q (.getstatic idx)) (hl : Cond.fieldLink (mY X).cls idx C9 n9 d9 ∈ gTbl) (hZ : ∀ s : State, SK V s → va_Z C9 n9 d9 w (wI V) s (vH V)) (kk : WP V X q lv (w :: st) h cl sl v h') : WP V X pc lv st h cl sl v h' := by
  obtain ⟨hd, rfl⟩ := hd
  intro p l e s m args below meth c9 H locs ls C K R L hl9
  obtain ⟨cf, kf, fi, f, a, cell, g1, g2, g3, g4, g5, g6, g7, g8⟩ := hZ s K
  have hc : H[a]? = some cell := by rw [R.2.2.1 a (Nat.lt_of_not_le g8)]; exact g5
  exact W.gets C.1 C.2.1 C.2.2.2.2.1 (C.2.2.2.2.2.1 _ hl) g1 g2 g3 g4 hc (fun z => by rw [z] at g6; cases g6) g7 rfl hd (kk p l e s m args below meth c9 H locs ls C K R L hl9)
theorem WP.getSt {k idx : Nat} (hd : DC X pc 3 q (.getstatic idx)) (hk : k < 4) (hl : Cond.fieldLink (mY X).cls idx "OneEared$Reader" (stF k) "[I" ∈ gTbl) (kk : WP V X q lv (.ref (vE V k) :: st) h cl sl v h') : WP V X pc lv st h cl sl v h' :=
  WP.gets hd hl (fun _ K => (K.2.1 k hk).1) kk
theorem WP.sal {k : Nat} {i x : Int32} (hd : DC X pc 1 q .iaload) (hk : k < 4) (hg : sld k i = some x) (kk : WP V X q lv (.int x :: st) h cl sl v h') : WP V X pc lv (.int i :: .ref (vE V k) :: st) h cl sl v h' := by
  obtain ⟨hd, rfl⟩ := hd
  unfold sld at hg
  split at hg
  · rename_i hin
    cases Option.some.inj hg
    intro p l e s m args below meth c9 H locs ls C K R L hl9
    obtain ⟨cell, g1, g2, g3, g4, g5, g6, g7⟩ := (K.2.1 k hk).2.kept R.keep
    have hi := inb_iff.mp hin
    have hi2 : i.toNatClampNeg = i.toInt.toNat := rfl
    have hlt : i.toNatClampNeg < stN k := by omega
    exact W.iald (v := .int (stI k i.toNatClampNeg)) C.1 C.2.1 g1 g2 g3 (fun z => by
      rcases z with z | z
      · rw [Int32.lt_iff_toInt_lt] at z; simp at z; omega
      · omega) (g6 _ hlt) rfl rfl hd (kk p l e s m args below meth c9 H locs ls C K R L hl9)
  · cases hg
/-- the script -/
def scr (V : EV) (i : Int32) : Option Int32 := if inb i (vL V) = true then some (vX V i.toNatClampNeg) else none
theorem WP.scl {i x : Int32} (hd : DC X pc 1 q .iaload) (hg : scr V i = some x) (kk : WP V X q lv (.int x :: st) h cl sl v h') : WP V X pc lv (.int i :: .ref (vE V 9) :: st) h cl sl v h' := by
  obtain ⟨hd, rfl⟩ := hd
  unfold scr at hg
  split at hg
  · rename_i hin
    cases Option.some.inj hg
    intro p l e s m args below meth c9 H locs ls C K R L hl9
    obtain ⟨cell, g1, g2, g3, g4, g5⟩ := K.2.2.2.2.2.2.1
    have hc : H[vE V 9]? = some cell := by rw [R.2.2.1 _ K.2.2.2.2.2.2.2.2.2.1]; exact g1
    have hi := inb_iff.mp hin
    have hi2 : i.toNatClampNeg = i.toInt.toNat := rfl
    have hlt : i.toNatClampNeg < vL V := by omega
    exact W.iald (v := .int (vX V i.toNatClampNeg)) C.1 C.2.1 hc g2 g3 (fun z => by
      rcases z with z | z
      · rw [Int32.lt_iff_toInt_lt] at z; simp at z; omega
      · omega) (g5 _ hlt) rfl rfl hd (kk p l e s m args below meth c9 H locs ls C K R L hl9)
  · cases hg
theorem WP.sclen (hd : DC X pc 1 q .arraylength) (kk : WP V X q lv (.int (Int32.ofNat (vL V)) :: st) h cl sl v h') : WP V X pc lv (.ref (vE V 9) :: st) h cl sl v h' := by
  obtain ⟨hd, rfl⟩ := hd
  intro p l e s m args below meth c9 H locs ls C K R L hl9
  obtain ⟨cell, g1, g2, g3, g4, g5⟩ := K.2.2.2.2.2.2.1
  have hc : H[vE V 9]? = some cell := by rw [R.2.2.1 _ K.2.2.2.2.2.2.2.2.2.1]; exact g1
  exact W.alen C.1 C.2.1 hc g2 (n := Int32.ofNat (vL V)) (by rw [g4]) rfl rfl hd (kk p l e s m args below meth c9 H locs ls C K R L hl9)
/-- a text's own cells -/
theorem WP.ldcT {k idx : Nat} (hd : DC X pc 2 q (.ldc idx)) (hk : k < 12) (ho : (mY X).cls = "OneEared$Reader") (hi : txN.getD k 0 = idx) (kk : WP V X q lv (.ref (vE V (10 + k)) :: st) h cl sl v h') : WP V X pc lv st h cl sl v h' := by
  obtain ⟨hd, rfl⟩ := hd
  intro p l e s m args below meth c9 H locs ls C K R L hl9
  have := K.2.2.2.2.2.1 k hk
  rw [hi] at this
  exact va_ldcS C.1 C.2.1 (by rw [← ho]; exact C.2.2.2.2.1) this hd (kk p l e s m args below meth c9 H locs ls C K R L hl9)
theorem WP.txf {k idx : Nat} {n9 d9 : String} {w : Value} (hd : DC X pc 3 q (.getfield idx)) (hl : Cond.fieldLink (mY X).cls idx "java/lang/String" n9 d9 ∈ gTbl) (hZ : ∀ s : State, SK V s → va_OF "java/lang/String" n9 d9 w (vE V (10 + k)) (wI V) s (vH V)) (kk : WP V X q lv (w :: st) h cl sl v h') : WP V X pc lv (.ref (vE V (10 + k)) :: st) h cl sl v h' := by
  obtain ⟨hd, rfl⟩ := hd
  intro p l e s m args below meth c9 H locs ls C K R L hl9
  obtain ⟨cf, k9, fi, f, cell, g1, g2, g3, g4, g5, g6⟩ := (hZ s K).kept R.keep
  exact W.getf C.1 C.2.1 C.2.2.2.2.1 (C.2.2.2.2.2.1 _ hl) g1 g2 g3 g4 g5 rfl rfl hd (kk p l e s m args below meth c9 H locs ls C K R L hl9)
theorem WP.txv {k idx : Nat} (hd : DC X pc 3 q (.getfield idx)) (hk : k < 12) (hl : Cond.fieldLink (mY X).cls idx "java/lang/String" "value" "[B" ∈ gTbl) (kk : WP V X q lv (.ref (vE V (30 + k)) :: st) h cl sl v h') : WP V X pc lv (.ref (vE V (10 + k)) :: st) h cl sl v h' :=
  WP.txf hd hl (fun _ K => (K.2.2.2.2.1.1 k hk).2.2.1) kk
theorem WP.txo {k idx : Nat} (hd : DC X pc 3 q (.getfield idx)) (hk : k < 12) (hl : Cond.fieldLink (mY X).cls idx "java/lang/String" "coder" "B" ∈ gTbl) (kk : WP V X q lv (.int 0 :: st) h cl sl v h') : WP V X pc lv (.ref (vE V (10 + k)) :: st) h cl sl v h' :=
  WP.txf hd hl (fun _ K => (K.2.2.2.2.1.1 k hk).2.1) kk
theorem WP.txn {k : Nat} (hd : DC X pc 1 q .arraylength) (hk : k < 12) (kk : WP V X q lv (.int (Int32.ofNat (txL.getD k 0)) :: st) h cl sl v h') : WP V X pc lv (.ref (vE V (30 + k)) :: st) h cl sl v h' := by
  obtain ⟨hd, rfl⟩ := hd
  intro p l e s m args below meth c9 H locs ls C K R L hl9
  obtain ⟨cell, g1, g2, g3, g4, g5, g6, g7⟩ := (K.2.2.2.2.1.1 k hk).2.2.2.kept R.keep
  exact W.alen C.1 C.2.1 g1 g2 g5 rfl rfl hd (kk p l e s m args below meth c9 H locs ls C K R L hl9)
theorem WP.txb {k : Nat} {i x : Int32} (hd : DC X pc 1 q .baload) (hg : txc k i = some x) (kk : WP V X q lv (.int x :: st) h cl sl v h') : WP V X pc lv (.int i :: .ref (vE V (30 + k)) :: st) h cl sl v h' := by
  obtain ⟨hd, rfl⟩ := hd
  unfold txc at hg
  split at hg
  · rename_i hin
    cases Option.some.inj hg
    intro p l e s m args below meth c9 H locs ls C K R L hl9
    obtain ⟨cell, g1, g2, g3, g4, g5, g6, g7⟩ := (K.2.2.2.2.1.1 k hin.1).2.2.2.kept R.keep
    have hi := inb_iff.mp hin.2
    have hi2 : i.toNatClampNeg = i.toInt.toNat := rfl
    have hlt : i.toNatClampNeg < txL.getD k 0 := by omega
    exact W.bald C.1 C.2.1 g1 g2 g3 (fun z => by
      rcases z with z | z
      · rw [Int32.lt_iff_toInt_lt] at z; simp at z; omega
      · omega) (g6 _ hlt) rfl rfl hd (kk p l e s m args below meth c9 H locs ls C K R L hl9)
  · cases hg
theorem tx_recv {k : Nat} (hk : k < 12) (s : State) (H : Heap) (K : SK V s) (R : HRel V h H) : ∃ cellB : Cell, H[vE V (10 + k)]? = some cellB ∧ cellB.vm.isStatics = false ∧ s.vm.findClass "java/lang/String" = some cellB.cls := by
  obtain ⟨cell, h1, h2, h3, -⟩ := (K.2.2.2.2.1.1 k hk).1.kept R.keep
  exact ⟨cell, h1, h2, h3⟩
theorem i8_fit (z : Int8) : fits .byte (.int z.toInt32) = true := by
  have h1 := Int8.le_toInt z
  have h2 := Int8.toInt_le z
  have e1 : (-128 : Int32).toInt = -128 := by decide
  have e2 : (127 : Int32).toInt = 127 := by decide
  simp only [fits, Bool.and_eq_true, decide_eq_true_eq, Int32.le_iff_toInt_le, Int8.toInt_toInt32, e1, e2]
  have e3 : Int8.minValue.toInt = -128 := by decide
  have e4 : Int8.maxValue.toInt = 127 := by decide
  omega
/-- System.arraycopy over rows of numbers -/
theorem upd_cpy (h : HA) (src sp dst dp n : Nat) : Upd h (cpy h src sp dst dp n) dst := ⟨fun _ => rfl, rfl, fun b hb => ⟨fun j => if_neg hb, fun _ => rfl, fun _ => rfl⟩⟩
theorem WP.copy {c src dst idx : Nat} {sp dp n : Int32} {h1 : HA} (hd : DC X pc 3 q (.invokestatic idx)) (hc : c = 20 ∨ c = 22) (w1 : Cond.methodLink (mY X).cls idx arraycopyName ∈ gTbl) (w2 : Cond.native arraycopyName ∈ gTbl) (w3 : Cond.static arraycopyName ∈ gTbl) (w4 : Cond.initialized "java/lang/System" ∈ gTbl) (hg : cpI h c src sp dst dp n = some h1) (hf : 1 ≤ mF X) (hlo : (st.map fun v => v.category).sum + (nativeFrameWords "java/lang/System" "arraycopy" 5 + 11) ≤ mO X)
    (kk : WP V X q lv st h1 cl sl v h') : WP V X pc lv (.int n :: .int dp :: .ref dst :: .int sp :: .ref src :: st) h cl sl v h' := by
  obtain ⟨hd, rfl⟩ := hd
  unfold cpI at hg
  split at hg
  · rename_i z
    obtain ⟨z1, z2, z3, z4, z5, z6, z7, z8⟩ := z
    cases Option.some.inj hg
    intro p l e s m args below meth c9 H locs ls C K R L hl9
    have hts := C.2.2.2.2.2.1
    have e1 : sp.toNatClampNeg = sp.toInt.toNat := rfl
    have e2 : dp.toNatClampNeg = dp.toInt.toNat := rfl
    have e3 : n.toNatClampNeg = n.toInt.toNat := rfl
    have nn : ∀ y : Int32, 0 ≤ y.toInt → ¬ y < 0 := fun y hy q9 => by rw [Int32.lt_iff_toInt_lt] at q9; simp at q9; omega
    have ht : ∃ t0 : Nat, (tyl V)[t0]? = some (vA V c, ety c) ∧ refKind (ety c) = false ∧ (∀ y : Int32, (c = 22 → y.toInt8.toInt32 = y) → fits (ety c) (.int y) = true) ∧ (∀ g : HA, ∀ a k, tval g (ety c) a k = .int (gi g a k)) := by
      rcases hc with rfl | rfl
      · exact ⟨0, rfl, rfl, fun y _ => rfl, fun _ _ _ => rfl⟩
      · refine ⟨2, rfl, rfl, fun y hy => ?_, fun _ _ _ => rfl⟩
        have := hy rfl
        rw [← this]
        exact i8_fit _
    obtain ⟨t0, ht, hrk, hfit, htv⟩ := ht
    obtain ⟨-, hb0, hc0⟩ := R.2.2.2.2 src c z1 (by omega)
    obtain ⟨-, hb1, hc1⟩ := R.2.2.2.2 dst c z2 (by omega)
    have hf0 : (fun k => tval h (ety c) src k) = fun j => Value.int (gi h src j) := funext fun k => htv h src k
    have hf1 : (fun k => tval h (ety c) dst k) = fun j => Value.int (gi h dst j) := funext fun k => htv h dst k
    rw [hf0] at hc0
    rw [hf1] at hc1
    obtain ⟨-, k0, hk0, cm0, hkk0⟩ := (K.1.2 t0 _ ht).1 (kd h src).2 (fun j => .int (gi h src j))
    obtain ⟨-, k1, hk1, cm1, hkk1⟩ := (K.1.2 t0 _ ht).1 (kd h dst).2 (fun j => .int (gi h dst j))
    intro T hT Xs
    obtain ⟨vm', X', step⟩ := Xs.arraycopy C.1 C.2.2.2.2.1 (hts _ w1) (hts _ w2) (hts _ w3) (hts _ w4) (src := src) (dst := dst) (cs := arrV (vA V c) (kd h src).2 (fun j => .int (gi h src j))) (cd := arrV (vA V c) (kd h dst).2 (fun j => .int (gi h dst j))) (srcPos := sp) (destPos := dp) (n := n) (by rw [hT]; exact hc0) (by rw [hT]; exact hc1)
      (fun _ h => by cases h) (fun _ h => by cases h) (fun h => by cases h) (fun h => by cases h) hk0 hk1 hkk0 hkk1 (by simp [hrk]) (nn sp z3) (nn dp z4) (nn n z5)
      (by rw [arrV_size]; omega) (by rw [arrV_size]; omega)
      (fun vm₁ _ i hi => by
        have hi' : i < n.toNatClampNeg := hi
        have e : (arrV (vA V c) (kd h src).2 (fun j => .int (gi h src j))).slots.getD (sp.toNatClampNeg + i) .null = .int (gi h src (sp.toNatClampNeg + i)) := by
          rw [Array.getD_eq_getD_getElem?, arrV_read _ _ (by omega)]
          rfl
        refine ⟨?_, ?_⟩
        · rw [e]
          exact hfit _ (z8 i hi')
        · rw [e]
          exact trivial)
      (g := F0 m pc ls (.int n :: .int dp :: .ref dst :: .int sp :: .ref src :: st)) rfl (by rw [C.2.2.2.1]; exact hl9.1) (rest := st) rfl (by rw [C.2.1]; exact hd) hf (by show 2 * 0 + _ + _ ≤ mO X; omega)
    have ec : copied (arrV (vA V c) (kd h src).2 (fun j => .int (gi h src j))) (arrV (vA V c) (kd h dst).2 (fun j => .int (gi h dst j))) sp dp n = arrV (vA V c) (kd h dst).2 (fun j => .int (va_cpy (gi h src) (gi h dst) sp.toNatClampNeg dp.toNatClampNeg n.toNatClampNeg j)) := va_copied (fun z => .int z) (vA V c) (vA V c) (gi h src) (gi h dst) (by omega)
    rw [ec] at X' step
    have hlt : dst < H.size := (Array.getElem?_eq_some_iff.mp hc1).1
    have hheap : ((T.setVm vm').setCell dst (arrV (vA V c) (kd h dst).2 (fun j => .int (va_cpy (gi h src) (gi h dst) sp.toNatClampNeg dp.toNatClampNeg n.toNatClampNeg j)))).heap = H.setIfInBounds dst (arrV (vA V c) (kd h dst).2 (fun j => .int (va_cpy (gi h src) (gi h dst) sp.toNatClampNeg dp.toNatClampNeg n.toNatClampNeg j))) := by rw [← hT]; rfl
    obtain ⟨t, a1, b1⟩ := kk p l e s m args below meth c9 _ _ ls C K (R.upd (H1 := H.setIfInBounds dst (arrV (vA V c) (kd h dst).2 (fun j => .int (va_cpy (gi h src) (gi h dst) sp.toNatClampNeg dp.toNatClampNeg n.toNatClampNeg j)))) (upd_cpy h src sp.toNatClampNeg dst dp.toNatClampNeg n.toNatClampNeg) (by simp) (fun q hq => by simp [Array.getElem?_setIfInBounds, Ne.symm hq]) hb1 (fun c' hc' _ _ => by omega) (fun c' hc' _ => by
        have : c' = c := hc'.symm.trans z2
        subst this
        refine (show (H.setIfInBounds dst (arrV (vA V c') (kd h dst).2 (fun j => .int (va_cpy (gi h src) (gi h dst) sp.toNatClampNeg dp.toNatClampNeg n.toNatClampNeg j))))[dst]? = some (arrV (vA V c') (kd h dst).2 (fun j => .int (va_cpy (gi h src) (gi h dst) sp.toNatClampNeg dp.toNatClampNeg n.toNatClampNeg j))) by simp [Array.getElem?_setIfInBounds, hlt]).trans ?_
        congr 2
        funext k
        rw [htv]
        show _ = Value.int (if dst = dst then _ else _)
        rw [if_pos rfl]
        rfl)) (fun q hq => by
      rcases List.mem_append.mp hq with h | h
      · exact L q h
      · obtain ⟨z, -, hz⟩ := List.mem_map.mp h
        rw [← hz]
        exact hb1) hl9 _ hheap X'
    exact ⟨t, step t a1, b1⟩
  · cases hg
end FIXED
