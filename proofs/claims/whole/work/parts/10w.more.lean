theorem ol {α β : Type} {e : α} {f : α → β} {r : β} (h : lett e f = r) : ∃ x, e = x ∧ f x = r := ⟨e, rfl, h⟩
theorem oc {α : Type} {c : Prop} {hd : Decidable c} {a : Option α} {r : α} (h : (if c then a else none) = some r) : c ∧ a = some r := by
  by_cases hc : c
  · rw [if_pos hc] at h; exact ⟨hc, h⟩
  · rw [if_neg hc] at h; cases h
theorem bz_sp {x y : Int32} (h : bz x = some y) : x = y ∧ narrow .boolean (.int y) = .int y := by
  unfold bz at h
  split at h
  · rename_i hx
    cases Option.some.inj h
    refine ⟨rfl, ?_⟩
    rcases hx with rfl | rfl <;> rfl
  · cases h
def GF (own : String) (idx c k : Nat) : Prop := 1 ≤ c ∧ c ≤ 9 ∧ k < nfd c ∧ Cond.fieldLink own idx (clT c k).1 (clT c k).2.1 (clT c k).2.2.1 ∈ gTbl
def KC (X' : MX) (c : Nat) : Prop := 1 ≤ c ∧ c ≤ 9 ∧ (mY X').cls = clR c
def okT (t : FieldType) : Bool := match t with
  | .float => false
  | .double => false
  | .char => false
  | .short => false
  | _ => true
theorem tdef {h : HA} {c n : Nat} (t : FieldType) (ht : okT t = true) (k : Nat) : defaultValue t = tval (nw h c n) t (hz h) k := by
  have e1 : gi (nw h c n) (hz h) k = 0 := if_pos rfl
  have e2 : gj (nw h c n) (hz h) k = 0 := if_pos rfl
  have e3 : ga (nw h c n) (hz h) k = none := if_pos rfl
  unfold tval
  cases t <;> first | (simp only [e1]; rfl) | (simp only [e2]; rfl) | (simp only [e3]; rfl) | cases ht
theorem okd : ∀ c, c < 10 → ∀ k, k < nfd c → okT (fty c k) = true := by decide +kernel
theorem newd {h : HA} {c : Nat} (hc : c < 10) : ∀ k, k < nfd c → defaultValue (fty c k) = tval (nw h c 0) (fty c k) (hz h) k := fun k hk => tdef _ (okd c hc k hk) k
theorem newd_1 {h : HA} : ∀ k, k < nfd 1 → defaultValue (fty 1 k) = tval (nw h 1 0) (fty 1 k) (hz h) k := newd (by decide)
theorem newd_2 {h : HA} : ∀ k, k < nfd 2 → defaultValue (fty 2 k) = tval (nw h 2 0) (fty 2 k) (hz h) k := newd (by decide)
theorem newd_3 {h : HA} : ∀ k, k < nfd 3 → defaultValue (fty 3 k) = tval (nw h 3 0) (fty 3 k) (hz h) k := newd (by decide)
theorem newd_4 {h : HA} : ∀ k, k < nfd 4 → defaultValue (fty 4 k) = tval (nw h 4 0) (fty 4 k) (hz h) k := newd (by decide)
theorem newd_5 {h : HA} : ∀ k, k < nfd 5 → defaultValue (fty 5 k) = tval (nw h 5 0) (fty 5 k) (hz h) k := newd (by decide)
theorem newd_6 {h : HA} : ∀ k, k < nfd 6 → defaultValue (fty 6 k) = tval (nw h 6 0) (fty 6 k) (hz h) k := newd (by decide)
theorem newd_7 {h : HA} : ∀ k, k < nfd 7 → defaultValue (fty 7 k) = tval (nw h 7 0) (fty 7 k) (hz h) k := newd (by decide)
theorem newd_8 {h : HA} : ∀ k, k < nfd 8 → defaultValue (fty 8 k) = tval (nw h 8 0) (fty 8 k) (hz h) k := newd (by decide)
theorem newd_9 {h : HA} : ∀ k, k < nfd 9 → defaultValue (fty 9 k) = tval (nw h 9 0) (fty 9 k) (hz h) k := newd (by decide)
theorem newa_20 {h : HA} {n : Nat} : ∀ k, defaultValue (ety 20) = tval (nw h 20 n) (ety 20) (hz h) k := fun k => tdef _ rfl k
theorem newa_21 {h : HA} {n : Nat} : ∀ k, defaultValue (ety 21) = tval (nw h 21 n) (ety 21) (hz h) k := fun k => tdef _ rfl k
theorem newa_22 {h : HA} {n : Nat} : ∀ k, defaultValue (ety 22) = tval (nw h 22 n) (ety 22) (hz h) k := fun k => tdef _ rfl k
theorem newa_23 {h : HA} {n : Nat} : ∀ k, defaultValue (ety 23) = tval (nw h 23 n) (ety 23) (hz h) k := fun k => tdef _ rfl k
theorem fc_20 {V : EV} : ∀ s : State, SK V s → s.vm.findClass ("[" ++ (ety 20).toString) = some (vA V 20) := fun _ K => (K.1.2 0 _ rfl).2
theorem fc_21 {V : EV} : ∀ s : State, SK V s → s.vm.findClass ("[" ++ (ety 21).toString) = some (vA V 21) := fun _ K => (K.1.2 1 _ rfl).2
theorem fc_22 {V : EV} : ∀ s : State, SK V s → s.vm.findClass ("[" ++ (ety 22).toString) = some (vA V 22) := fun _ K => (K.1.2 2 _ rfl).2
theorem fc_23 {V : EV} : ∀ s : State, SK V s → s.vm.findClass ("[" ++ (ety 23).toString) = some (vA V 23) := fun _ K => (K.1.2 3 _ rfl).2
theorem fc_24 {V : EV} : ∀ s : State, SK V s → s.vm.findClass ("[" ++ (ety 24).toString) = some (vA V 24) := fun _ K => by
  obtain ⟨_, _, _, _, _, h⟩ := (K.1.2 4 _ rfl).2
  exact h
theorem fc_25 {V : EV} : ∀ s : State, SK V s → s.vm.findClass ("[" ++ (ety 25).toString) = some (vA V 25) := fun _ K => by
  obtain ⟨_, _, _, _, _, h⟩ := (K.1.2 5 _ rfl).2
  exact h
theorem fc_26 {V : EV} : ∀ s : State, SK V s → s.vm.findClass ("[" ++ (ety 26).toString) = some (vA V 26) := fun _ K => by
  obtain ⟨_, _, _, _, _, h⟩ := (K.1.2 6 _ rfl).2
  exact h
theorem tsw_out {x : Int32} {lo hi : Int} (n : Nat) (L : List Int32) (hn : lo + n = hi + 1) (hL : (List.range n).all (fun i => L.contains (Int32.ofInt (lo + i))) = true) (hs : ∀ y ∈ L, ¬ x = y) : x.toInt < lo ∨ hi < x.toInt := by
  apply Classical.byContradiction
  intro hc
  have h1 : lo ≤ x.toInt ∧ x.toInt ≤ hi := by omega
  have h2 := List.all_eq_true.mp hL ((x.toInt - lo).toNat) (List.mem_range.mpr (by omega))
  have h3 : lo + ((x.toInt - lo).toNat : Int) = x.toInt := by omega
  rw [h3, Int32.ofInt_toInt] at h2
  exact hs x (by simpa using h2) rfl
section MORE
variable {V : EV} {X : MX} {pc q : Nat} {lv : List (Nat × Value)} {st : List Value} {h : HA} {cl sl : Nat} {v : Option Value} {h' : HA}
theorem WP.cs {cl9 sl9 : Nat} (h1 : cl = cl9) (h2 : sl = sl9) (k : WP V X pc lv st h cl9 sl9 v h') : WP V X pc lv st h cl sl v h' := by
  subst h1; subst h2; exact k
theorem WP.aloadN {i : Nat} (hd : DC X pc 2 q (.aload i)) (j : Nat) (hj : lv[j]? = some (i, .null)) (k : WP V X q lv (.null :: st) h cl sl v h') : WP V X pc lv st h cl sl v h' := by
  obtain ⟨hd, rfl⟩ := hd
  exact fun p l e s m args below meth c H locs ls C K R L hl => lv_aloadN C.1 C.2.1 hd (lv_at hl j hj) (k p l e s m args below meth c H locs ls C K R L hl)
theorem WP.aload_nN {i : Fin 4} (hd : DC X pc 1 q (.aload_n i)) (j : Nat) (hj : lv[j]? = some ((i : Nat), .null)) (k : WP V X q lv (.null :: st) h cl sl v h') : WP V X pc lv st h cl sl v h' := by
  obtain ⟨hd, rfl⟩ := hd
  exact fun p l e s m args below meth c H locs ls C K R L hl => lv_aload_nN C.1 C.2.1 hd rfl (lv_at hl j hj) (k p l e s m args below meth c H locs ls C K R L hl)
theorem WP.astoreN {i : Nat} {lv9 : List (Nat × Value)} (hd : DC X pc 2 q (.astore i)) (hn : i < mL X) (hv : (i, Value.null) :: lv.filter (fun q => !(q.1 == i) && !(q.1 + 1 == i && q.2.category == 2)) = lv9) (k : WP V X q lv9 st h cl sl v h') : WP V X pc lv (.null :: st) h cl sl v h' := by
  obtain ⟨hd, rfl⟩ := hd
  exact fun p l e s m args below meth c H locs ls C K R L hl => lv_astoreN C.1 C.2.1 hd hl hn hv (fun ls9 hl9 => k p l e s m args below meth c H locs ls9 C K R L hl9)
theorem WP.astore_nN {i : Fin 4} {lv9 : List (Nat × Value)} (hd : DC X pc 1 q (.astore_n i)) (hn : (i : Nat) < mL X) (hv : ((i : Nat), Value.null) :: lv.filter (fun q => !(q.1 == (i : Nat)) && !(q.1 + 1 == (i : Nat) && q.2.category == 2)) = lv9) (k : WP V X q lv9 st h cl sl v h') : WP V X pc lv (.null :: st) h cl sl v h' := by
  obtain ⟨hd, rfl⟩ := hd
  exact fun p l e s m args below meth c H locs ls C K R L hl => lv_astore_nN C.1 C.2.1 hd rfl hl hn hv (fun ls9 hl9 => k p l e s m args below meth c H locs ls9 C K R L hl9)
theorem WP.ldc_w {i : Nat} {x : Int32} (hd : DC X pc 3 q (.ldc_w i)) (hw : Cond.constant (mY X).cls i x ∈ gTbl) (k : WP V X q lv (.int x :: st) h cl sl v h') : WP V X pc lv st h cl sl v h' := by
  obtain ⟨hd, rfl⟩ := hd
  exact fun p l e s m args below meth c H locs ls C K R L hl => lv_ldcw C.1 C.2.1 C.2.2.2.2.1 (C.2.2.2.2.2.1 _ hw) hd (k p l e s m args below meth c H locs ls C K R L hl)
theorem WP.fI {c k idx a : Nat} {x : Int32} (hd : DC X pc 3 q (.getfield idx)) (g : GF (mY X).cls idx c k) (ht : ∀ h : HA, tval h (fty c k) a k = .int (gi h a k)) (hg : gI h a c k = some x) (kk : WP V X q lv (.int x :: st) h cl sl v h') : WP V X pc lv (.ref a :: st) h cl sl v h' := WP.getI hd g.1 g.2.1 g.2.2.1 g.2.2.2 ht hg kk
theorem WP.fJ {c k idx a : Nat} {x : Int64} (hd : DC X pc 3 q (.getfield idx)) (g : GF (mY X).cls idx c k) (ht : ∀ h : HA, tval h (fty c k) a k = .long (gj h a k)) (hg : gJ h a c k = some x) (kk : WP V X q lv (.long x :: st) h cl sl v h') : WP V X pc lv (.ref a :: st) h cl sl v h' := WP.getJ hd g.1 g.2.1 g.2.2.1 g.2.2.2 ht hg kk
theorem WP.fR {c k idx a x : Nat} (hd : DC X pc 3 q (.getfield idx)) (g : GF (mY X).cls idx c k) (ht : ∀ h : HA, tval h (fty c k) a k = va_rf (ga h a k)) (hg : gR h a c k = some x) (kk : WP V X q lv (.ref x :: st) h cl sl v h') : WP V X pc lv (.ref a :: st) h cl sl v h' := WP.getR hd g.1 g.2.1 g.2.2.1 g.2.2.2 ht hg kk
theorem WP.fN {c k idx a : Nat} {x : Option Nat} (hd : DC X pc 3 q (.getfield idx)) (g : GF (mY X).cls idx c k) (ht : ∀ h : HA, tval h (fty c k) a k = va_rf (ga h a k)) (hg : gN h a c k = some x) (kk : WP V X q lv (va_rf x :: st) h cl sl v h') : WP V X pc lv (.ref a :: st) h cl sl v h' := WP.getN hd g.1 g.2.1 g.2.2.1 g.2.2.2 ht hg kk
theorem WP.uI {c k idx a : Nat} {x : Int32} {h1 : HA} (hd : DC X pc 3 q (.putfield idx)) (g : GF (mY X).cls idx c k) (hfin : (clT c k).2.2.2 = false) (ht : fty c k = .int ∨ fty c k = .boolean) (hn : narrow (fty c k) (.int x) = .int x) (hf : fits (fty c k) (.int x) = true) (hg : pI h a c k x = some h1) (kk : WP V X q lv st h1 cl sl v h') : WP V X pc lv (.int x :: .ref a :: st) h cl sl v h' := WP.putI hd g.1 g.2.1 g.2.2.1 g.2.2.2 hfin ht hn hf hg kk
theorem WP.uJ {c k idx a : Nat} {x : Int64} {h1 : HA} (hd : DC X pc 3 q (.putfield idx)) (g : GF (mY X).cls idx c k) (hfin : (clT c k).2.2.2 = false) (ht : fty c k = .long) (hg : pJ h a c k x = some h1) (kk : WP V X q lv st h1 cl sl v h') : WP V X pc lv (.long x :: .ref a :: st) h cl sl v h' := WP.putJ hd g.1 g.2.1 g.2.2.1 g.2.2.2 hfin ht hg kk
theorem WP.uR {c k idx a : Nat} {x : Option Nat} {h1 : HA} (hd : DC X pc 3 q (.putfield idx)) (g : GF (mY X).cls idx c k) (hfin : (clT c k).2.2.2 = false) (ht : ∀ g : HA, tval g (fty c k) a k = va_rf (ga g a k)) (hn : narrow (fty c k) (va_rf x) = va_rf x) (hf : fits (fty c k) (va_rf x) = true) (hg : pR h a c k x = some h1) (kk : WP V X q lv st h1 cl sl v h') : WP V X pc lv (va_rf x :: .ref a :: st) h cl sl v h' := WP.putR hd g.1 g.2.1 g.2.2.1 g.2.2.2 hfin ht hn hf hg kk
theorem WP.vI {c k idx a : Nat} {x : Int32} {h1 : HA} (hd : DC X pc 3 q (.putfield idx)) (g : GF (mY X).cls idx c k) (hfin : (clT c k).2.2.2 = true) (hin : (mY X).name = "<init>") (hdecl : (clT c k).1 = (mY X).cls) (ht : fty c k = .int ∨ fty c k = .boolean) (hn : narrow (fty c k) (.int x) = .int x) (hf : fits (fty c k) (.int x) = true) (hg : pI h a c k x = some h1) (kk : WP V X q lv st h1 cl sl v h') : WP V X pc lv (.int x :: .ref a :: st) h cl sl v h' := WP.putFI hd g.1 g.2.1 g.2.2.1 g.2.2.2 hfin hin hdecl ht hn hf hg kk
theorem WP.vR {c k idx a : Nat} {x : Option Nat} {h1 : HA} (hd : DC X pc 3 q (.putfield idx)) (g : GF (mY X).cls idx c k) (hfin : (clT c k).2.2.2 = true) (hin : (mY X).name = "<init>") (hdecl : (clT c k).1 = (mY X).cls) (ht : ∀ g : HA, tval g (fty c k) a k = va_rf (ga g a k)) (hn : narrow (fty c k) (va_rf x) = va_rf x) (hf : fits (fty c k) (va_rf x) = true) (hg : pR h a c k x = some h1) (kk : WP V X q lv st h1 cl sl v h') : WP V X pc lv (va_rf x :: .ref a :: st) h cl sl v h' := WP.putFR hd g.1 g.2.1 g.2.2.1 g.2.2.2 hfin hin hdecl ht hn hf hg kk
theorem WP.cV {X' : MX} {n idx b c : Nat} {As st0 st9 : List Value} {cl9 sl9 : Nat} {v1 : Option Value} {h1 : HA} (hd : DC X pc 3 q (.invokevirtual idx)) (hM : MG V X' (.ref b :: As) h v1 h1) (t : TV X' n) (ti : TI X') (ts : TS X') (hl : Cond.methodLink (mY X).cls idx (mY X') ∈ gTbl) (hR : RM X X' cl sl) (kc : KC X' c) (hkb : (kd h b).1 = c)
    (hn : As.length = n) (hst : st0 = As.reverse ++ .ref b :: st) (hcat : (st.map fun v => v.category).sum ≤ 8) (hs : v1.toList ++ st = st9) (hc : cl + mM X' = cl9) (hsl : sl + mS X' = sl9) (kk : WP V X q lv st9 h1 cl9 sl9 v h') : WP V X pc lv st0 h cl sl v h' := by
  subst hs; subst hc; subst hsl
  exact WP.callV hd hM t ti ts hl hR kc.1 kc.2.1 kc.2.2 hkb hn hst hcat kk
theorem WP.cS {X' : MX} {n idx : Nat} {As st0 st9 : List Value} {cl9 sl9 : Nat} {v1 : Option Value} {h1 : HA} (hd : DC X pc 3 q (.invokestatic idx)) (hM : MG V X' As h v1 h1) (t : TV X' n) (ts : Cond.static (mY X') ∈ gTbl) (hl : Cond.methodLink (mY X).cls idx (mY X') ∈ gTbl) (hR : RM X X' cl sl)
    (hn : As.length = n) (hst : st0 = As.reverse ++ st) (hcat : (st.map fun v => v.category).sum ≤ 8) (hs : v1.toList ++ st = st9) (hc : cl + mM X' = cl9) (hsl : sl + mS X' = sl9) (kk : WP V X q lv st9 h1 cl9 sl9 v h') : WP V X pc lv st0 h cl sl v h' := by
  subst hs; subst hc; subst hsl
  exact WP.callS hd hM t ts hl hR hn hst hcat kk
theorem WP.cSN {X' : MX} {n idx : Nat} {host : String} {As st0 st9 : List Value} {cl9 sl9 : Nat} {v1 : Option Value} {h1 : HA} (hd : DC X pc 3 q (.invokestatic idx)) (hM : MG V X' As h v1 h1) (t : TV X' n) (ts : Cond.static (mY X') ∈ gTbl) (hl : Cond.methodLinkNest (mY X).cls idx (mY X') host ∈ lw_tbl) (hR : RM X X' cl sl)
    (hn : As.length = n) (hst : st0 = As.reverse ++ st) (hcat : (st.map fun v => v.category).sum ≤ 8) (hs : v1.toList ++ st = st9) (hc : cl + mM X' = cl9) (hsl : sl + mS X' = sl9) (kk : WP V X q lv st9 h1 cl9 sl9 v h') : WP V X pc lv st0 h cl sl v h' := by
  subst hs; subst hc; subst hsl
  exact WP.callSN hd hM t ts hl hR hn hst hcat kk
theorem WP.cI {X' : MX} {n idx b : Nat} {As st0 : List Value} {cl9 sl9 : Nat} {h1 : HA} (hd : DC X pc 3 q (.invokespecial idx)) (hM : MG V X' (.ref b :: As) h none h1) (t : TV X' n) (ti : TI X') (hnm : (mY X').name = "<init>") (hrn : mR X' = none) (hl : Cond.methodLink (mY X).cls idx (mY X') ∈ gTbl) (hR : RM X X' cl sl)
    (hn : As.length = n) (hst : st0 = As.reverse ++ .ref b :: st) (hcat : (st.map fun v => v.category).sum ≤ 8) (hc : cl + mM X' = cl9) (hsl : sl + mS X' = sl9) (kk : WP V X q lv st h1 cl9 sl9 v h') : WP V X pc lv st0 h cl sl v h' := by
  subst hc; subst hsl
  exact WP.callI hd hM t ti hnm hrn hl hR hn hst hcat kk
theorem WP.cIN {X' : MX} {n idx b : Nat} {host : String} {As st0 : List Value} {cl9 sl9 : Nat} {h1 : HA} (hd : DC X pc 3 q (.invokespecial idx)) (hM : MG V X' (.ref b :: As) h none h1) (t : TV X' n) (ti : TI X') (hnm : (mY X').name = "<init>") (hrn : mR X' = none) (hl : Cond.methodLinkNest (mY X).cls idx (mY X') host ∈ lw_tbl) (hR : RM X X' cl sl)
    (hn : As.length = n) (hst : st0 = As.reverse ++ .ref b :: st) (hcat : (st.map fun v => v.category).sum ≤ 8) (hc : cl + mM X' = cl9) (hsl : sl + mS X' = sl9) (kk : WP V X q lv st h1 cl9 sl9 v h') : WP V X pc lv st0 h cl sl v h' := by
  subst hc; subst hsl
  exact WP.callIN hd hM t ti hnm hrn hl hR hn hst hcat kk
end MORE
/-! the tables' words, by table and place -/
theorem tb_in {w : Cond} (h : w ∈ tables_1) (hg : goodWord w = true) : w ∈ gTbl := List.mem_filter.mpr ⟨List.mem_append_right _ h, hg⟩
theorem ml1 {w : Cond} (i : Nat) (h : tables_1_1[i]? = some w) : w ∈ lw_tbl := List.mem_append_right _ (List.mem_append_left _ (List.mem_of_getElem? h))
theorem ml2 {w : Cond} (i : Nat) (h : tables_1_2[i]? = some w) : w ∈ lw_tbl := List.mem_append_right _ (List.mem_append_right _ (List.mem_append_left _ (List.mem_of_getElem? h)))
theorem ml3 {w : Cond} (i : Nat) (h : tables_1_3[i]? = some w) : w ∈ lw_tbl := List.mem_append_right _ (List.mem_append_right _ (List.mem_append_right _ (List.mem_append_left _ (List.mem_of_getElem? h))))
theorem ml4 {w : Cond} (i : Nat) (h : tables_1_4[i]? = some w) : w ∈ lw_tbl := List.mem_append_right _ (List.mem_append_right _ (List.mem_append_right _ (List.mem_append_right _ (List.mem_append_left _ (List.mem_of_getElem? h)))))
theorem ml5 {w : Cond} (i : Nat) (h : tables_1_5[i]? = some w) : w ∈ lw_tbl := List.mem_append_right _ (List.mem_append_right _ (List.mem_append_right _ (List.mem_append_right _ (List.mem_append_right _ (List.mem_append_left _ (List.mem_of_getElem? h))))))
theorem ml6 {w : Cond} (i : Nat) (h : tables_1_6[i]? = some w) : w ∈ lw_tbl := List.mem_append_right _ (List.mem_append_right _ (List.mem_append_right _ (List.mem_append_right _ (List.mem_append_right _ (List.mem_append_right _ (List.mem_append_left _ (List.mem_of_getElem? h)))))))
theorem ml7 {w : Cond} (i : Nat) (h : tables_1_7[i]? = some w) : w ∈ lw_tbl := List.mem_append_right _ (List.mem_append_right _ (List.mem_append_right _ (List.mem_append_right _ (List.mem_append_right _ (List.mem_append_right _ (List.mem_append_right _ (List.mem_append_left _ (List.mem_of_getElem? h))))))))
theorem ml8 {w : Cond} (i : Nat) (h : tables_1_8[i]? = some w) : w ∈ lw_tbl := List.mem_append_right _ (List.mem_append_right _ (List.mem_append_right _ (List.mem_append_right _ (List.mem_append_right _ (List.mem_append_right _ (List.mem_append_right _ (List.mem_append_right _ (List.mem_of_getElem? h))))))))
theorem mt1 {w : Cond} (i : Nat) (h : tables_1_1[i]? = some w) (hg : goodWord w = true) : w ∈ gTbl := List.mem_filter.mpr ⟨ml1 i h, hg⟩
theorem mt2 {w : Cond} (i : Nat) (h : tables_1_2[i]? = some w) (hg : goodWord w = true) : w ∈ gTbl := List.mem_filter.mpr ⟨ml2 i h, hg⟩
theorem mt3 {w : Cond} (i : Nat) (h : tables_1_3[i]? = some w) (hg : goodWord w = true) : w ∈ gTbl := List.mem_filter.mpr ⟨ml3 i h, hg⟩
theorem mt4 {w : Cond} (i : Nat) (h : tables_1_4[i]? = some w) (hg : goodWord w = true) : w ∈ gTbl := List.mem_filter.mpr ⟨ml4 i h, hg⟩
theorem mt5 {w : Cond} (i : Nat) (h : tables_1_5[i]? = some w) (hg : goodWord w = true) : w ∈ gTbl := List.mem_filter.mpr ⟨ml5 i h, hg⟩
theorem mt6 {w : Cond} (i : Nat) (h : tables_1_6[i]? = some w) (hg : goodWord w = true) : w ∈ gTbl := List.mem_filter.mpr ⟨ml6 i h, hg⟩
theorem mt7 {w : Cond} (i : Nat) (h : tables_1_7[i]? = some w) (hg : goodWord w = true) : w ∈ gTbl := List.mem_filter.mpr ⟨ml7 i h, hg⟩
theorem mt8 {w : Cond} (i : Nat) (h : tables_1_8[i]? = some w) (hg : goodWord w = true) : w ∈ gTbl := List.mem_filter.mpr ⟨ml8 i h, hg⟩
theorem mtP {L : List (MethodName × Nat)} {w : Cond} (hL : ∀ q ∈ L, q ∈ lw_privs) (i : Nat) (h : (k2_sels L)[i]? = some w) (hg : goodWord w = true) : w ∈ gTbl := by
  refine List.mem_filter.mpr ⟨List.mem_append_left _ ?_, hg⟩
  have h1 := List.mem_of_getElem? h
  unfold k2_sels at h1 ⊢
  obtain ⟨q, hq, e⟩ := List.mem_map.mp h1
  exact List.mem_map.mpr ⟨q, hL q hq, e⟩
theorem mtP1 {w : Cond} (i : Nat) (h : (k2_sels lw_privs_1)[i]? = some w) (hg : goodWord w = true) : w ∈ gTbl := mtP (fun _ h => List.mem_append_left _ h) i h hg
theorem mtP2 {w : Cond} (i : Nat) (h : (k2_sels lw_privs_2)[i]? = some w) (hg : goodWord w = true) : w ∈ gTbl := mtP (fun _ h => List.mem_append_right _ (List.mem_append_left _ h)) i h hg
theorem mtP3 {w : Cond} (i : Nat) (h : (k2_sels lw_privs_3)[i]? = some w) (hg : goodWord w = true) : w ∈ gTbl := mtP (fun _ h => List.mem_append_right _ (List.mem_append_right _ (List.mem_append_left _ h))) i h hg
theorem mtP4 {w : Cond} (i : Nat) (h : (k2_sels lw_privs_4)[i]? = some w) (hg : goodWord w = true) : w ∈ gTbl := mtP (fun _ h => List.mem_append_right _ (List.mem_append_right _ (List.mem_append_right _ (List.mem_append_left _ h)))) i h hg
theorem mtP5 {w : Cond} (i : Nat) (h : (k2_sels lw_privs_5)[i]? = some w) (hg : goodWord w = true) : w ∈ gTbl := mtP (fun _ h => List.mem_append_right _ (List.mem_append_right _ (List.mem_append_right _ (List.mem_append_right _ (List.mem_append_left _ h))))) i h hg
theorem mtP6 {w : Cond} (i : Nat) (h : (k2_sels lw_privs_6)[i]? = some w) (hg : goodWord w = true) : w ∈ gTbl := mtP (fun _ h => List.mem_append_right _ (List.mem_append_right _ (List.mem_append_right _ (List.mem_append_right _ (List.mem_append_right _ (List.mem_append_left _ h)))))) i h hg
theorem mtP7 {w : Cond} (i : Nat) (h : (k2_sels lw_privs_7)[i]? = some w) (hg : goodWord w = true) : w ∈ gTbl := mtP (fun _ h => List.mem_append_right _ (List.mem_append_right _ (List.mem_append_right _ (List.mem_append_right _ (List.mem_append_right _ (List.mem_append_right _ (List.mem_append_left _ h))))))) i h hg
theorem mtP8 {w : Cond} (i : Nat) (h : (k2_sels lw_privs_8)[i]? = some w) (hg : goodWord w = true) : w ∈ gTbl := mtP (fun _ h => List.mem_append_right _ (List.mem_append_right _ (List.mem_append_right _ (List.mem_append_right _ (List.mem_append_right _ (List.mem_append_right _ (List.mem_append_right _ h))))))) i h hg
theorem WP.mmax {V : EV} {X : MX} {pc q : Nat} {lv : List (Nat × Value)} {st : List Value} {h : HA} {cl sl : Nat} {v : Option Value} {h' : HA} {idx : Nat} {x y : Int32} (hd : DC X pc 3 q (.invokestatic idx)) (hl : Cond.methodLink (mY X).cls idx Lib.Math.max.name ∈ gTbl) (w1 : Cond.static Lib.Math.max.name ∈ gTbl) (w2 : Cond.initialized "java/lang/Math" ∈ gTbl) (w3 : Cond.code Lib.Math.max.name Lib.Math.max.code 2 (some .int) ∈ gTbl) (hf : 1 ≤ mF X) (hlo : (st.map fun v => v.category).sum + 13 ≤ mO X) (h1 : cl ≤ mM X) (h2 : sl ≤ mS X)
    (kk : WP V X q lv (.int (mxI x y) :: st) h cl sl v h') : WP V X pc lv (.int y :: .int x :: st) h cl sl v h' := by
  obtain ⟨hd, rfl⟩ := hd
  exact fun p l e s m args below meth c H locs ls C K R L hl9 => va_mmax C.1 C.2.1 (C.2.2.2.1.trans hl9.1.symm) C.2.2.2.2.1 (C.2.2.2.2.2.1 _ hl) (C.2.2.2.2.2.1 _ w1) (C.2.2.2.2.2.1 _ w2) (C.2.2.2.2.2.1 _ w3) hf hlo h1 h2 hd (kk p l e s m args below meth c H locs ls C K R L hl9)
