section CALLS
variable {V : EV} {X : MX} {pc q : Nat} {lv : List (Nat × Value)} {st : List Value} {h : HA} {cl sl : Nat} {v : Option Value} {h' : HA}
theorem WP.anew {c most : Nat} {C9 : String} {idx : Nat} {n : Int32} {h1 : HA} (hd : DC X pc 3 q (.anewarray idx)) (hc3 : c = 24 ∨ c = 25 ∨ c = 26) (hty : ety c = .object C9) (hC : C9 ∈ ["OneEared$Told", "OneEared$Court", "OneEared$Listing"]) (w1 : Cond.classLink (mY X).cls idx C9 ∈ gTbl) (hg : nA h c n most = some h1) (hby : most * 4 ≤ 536870912) (hcl : cl + 1 ≤ mM X) (hsl : sl + most ≤ mS X)
    (hnm : ∀ s : State, SK V s → s.vm.findClass ("[" ++ (FieldType.object C9).toString) = some (vA V c))
    (kk : WP V X q lv (.ref (hz h) :: st) h1 (cl + 1) (sl + most) v h') : WP V X pc lv (.int n :: st) h cl sl v h' := by
  obtain ⟨hd, rfl⟩ := hd
  unfold nA at hg
  split at hg
  · rename_i hn
    cases Option.some.inj hg
    intro p l e s m args below meth c9 H locs ls C K R L hl9
    have hts := C.2.2.2.2.2.1
    have hN : n.toNatClampNeg ≤ most := by
      have : n.toNatClampNeg = n.toInt.toNat := rfl
      omega
    have hov : (Cond.arrayOver (.object C9)).before args s = true := va_AO.use (K.2.2.2.2.2.2.2.2.1 C9 hC)
    refine W.anew C.1 C.2.1 C.2.2.2.2.1 (hts _ w1) hov rfl hd rfl (by rw [Int32.lt_iff_toInt_lt]; simp; omega) (Nat.le_trans (Nat.mul_le_mul_right _ hN) hby) hcl (by show sl + n.toNatClampNeg ≤ mS X; omega) fun cA kA comp f1 f2 f3 f4 => ?_
    have hcA : cA = vA V c := Option.some.inj (f1.symm.trans (hnm s K))
    subst hcA
    refine W.widen (Nat.le_refl _) (show sl + n.toNatClampNeg ≤ sl + most by omega) ?_
    rw [R.1]
    refine kk p l e s m args below meth c9 _ locs ls C K (R.push (c := c) (n := n.toNatClampNeg) (by simp [R.1]) (fun q hq => ?_) (fun _ _ => by omega) (fun _ => ⟨by omega, ?_⟩)) L hl9
    · rw [Array.getElem?_push, if_neg (by rw [R.1]; omega)]
    · rw [← R.1]
      simp only [Array.getElem?_push_size]
      rw [arrV_new, hty]
      congr 2
      funext k
      show Value.null = va_rf (ga (nw h c _) H.size k)
      rw [R.1]
      simp [ga, nw, va_rf]
  · cases hg
/-! the method's end -/
theorem WP.ireturn {ty : FieldType} {x : Int32} (hd : DC X pc 1 q .ireturn) (hr : mR X = some ty) (hn : narrow ty (.int x) = .int x) (h1 : cl ≤ mM X) (h2 : sl ≤ mS X) : WP V X pc lv [.int x] h cl sl (some (.int x)) h :=
  fun p l e s m args below meth c9 H locs ls C K R L hl9 => W.widen h1 h2 (W.zret C.1 C.2.1 (C.2.2.1.trans hr) hn (fun t ht _ => ⟨rfl, by rw [ht]; exact R⟩) L hd.1 C.2.2.2.2.2.2.1)
theorem WP.lreturn {x : Int64} (hd : DC X pc 1 q .lreturn) (hr : mR X = some .long) (h1 : cl ≤ mM X) (h2 : sl ≤ mS X) : WP V X pc lv [.long x] h cl sl (some (.long x)) h :=
  fun p l e s m args below meth c9 H locs ls C K R L hl9 => W.widen h1 h2 (W.lret C.1 C.2.1 (C.2.2.1.trans hr) (fun t ht _ => ⟨rfl, by rw [ht]; exact R⟩) L hd.1 C.2.2.2.2.2.2.1)
theorem WP.areturn {C9 : String} {x : Option Nat} (hd : DC X pc 1 q .areturn) (hr : mR X = some (.object C9)) (h1 : cl ≤ mM X) (h2 : sl ≤ mS X) : WP V X pc lv [va_rf x] h cl sl (some (va_rf x)) h :=
  fun p l e s m args below meth c9 H locs ls C K R L hl9 => W.widen h1 h2 (W.aret C.1 C.2.1 (C.2.2.1.trans hr) (Or.inl ⟨C9, rfl⟩) (by cases x; exact Or.inl rfl; exact Or.inr ⟨_, rfl⟩) (fun t ht _ => ⟨rfl, by rw [ht]; exact R⟩) L hd.1 C.2.2.2.2.2.2.1)
theorem WP.return_ (hd : DC X pc 1 q .return_) (hr : mR X = none) (h1 : cl ≤ mM X) (h2 : sl ≤ mS X) : WP V X pc lv [] h cl sl none h :=
  fun p l e s m args below meth c9 H locs ls C K R L hl9 => W.widen h1 h2 (W.vret C.1 C.2.1 (C.2.2.1.trans hr) (fun t ht _ => ⟨rfl, by rw [ht]; exact R⟩) L hd.1 C.2.2.2.2.2.2.1)
/-! a method from its entry -/
theorem MG.of {as : List Value} {lv0 : List (Nat × Value)} (hy : plainName (mY X).cls = true) (hlv : lv_args 0 as = lv0) (hlen : (lg_sl as).length ≤ mL X) (k : WP V X 0 lv0 [] h 0 0 v h') : MG V X as h v h' := by
  intro l
  refine Met.ofW (cc := mC X) (maxL := mL X) (ret := mR X) hy rfl ?_
  intro p e s m args below meth c s₁ B hml hv
  obtain ⟨rfl, hR, hK⟩ := hv
  have hts := atoms_spec (ws := mW X) B.pre
  have C : Cx X p s m as.toArray meth c := ⟨B.exec, B.bytes, B.returns, hml, findClass_of_methodNamed B.named, fun w hw => hts w (List.mem_cons_of_mem _ hw), B.notSynchronized, fun hn => (name_of_methodNamed B.named B.method).1.trans hn⟩
  rw [lg_entry_eq]
  have hl := lv_entry as (n := mL X) hlen
  subst hlv
  exact k p l e s m _ below meth c s.heap [] _ C hK hR (fun q hq => by cases hq) hl
/-! calls -/
theorem pc_blind {as : List Value} {h : HA} : FrameBlind (va_Pc as (fun U => HRel V h U.heap ∧ SK V U)) := fun a U g mk hq => ⟨hq.1, hq.2.1, SK.same (s := U) (U := U.calling g mk a) rfl hq.2.2⟩
theorem WP.fin {X' : MX} {m : MethodId} {s : State} {p : Program} {l : Launch} {e : Env} {args a : Array Value} {below : List Frame} {meth : Method} {c : Code} {H : Heap} {locs : List Loc} {ls : Array Slot} {st0 : List Value} {v1 : Option Value} {h1 : HA} (hr : va_Run p l e (mRoom X) s m args below meth c H locs cl sl (mM X') (mS X') (F0 m pc ls st0) st (QG V v1 h1 a) (wI V))
    (C : Cx X p s m args meth c) (K : SK V s) (L : ∀ q ∈ locs, wI V q.base) (hl : lv_has ls (mL X) lv) (k : WP V X (pc + 3) lv (v1.toList ++ st) h1 (cl + mM X') (sl + mS X') v h') : W p l e (mRoom X) s m args below meth c H locs cl sl (MQ below (QG V v h') args s (mM X) (mS X) (wI V)) (F0 m pc ls st0) := by
  intro T hT Xs
  obtain ⟨v', st₀, t, T', L9, h0, X', hL, e1, e2, ⟨hv, hR⟩, stp⟩ := hr T hT Xs
  cases hv
  obtain ⟨t2, a1, b1⟩ := k p l e s m args below meth c T'.heap (locs ++ L9) ls C K (by rw [e1]; exact hR) (fun q hq => (List.mem_append.mp hq).elim (L q) (hL q)) hl T' rfl X'
  exact ⟨t2, stp t2 a1, b1⟩
/-- a method that can be called: its words -/
def TV (X' : MX) (n : Nat) : Prop := Cond.code (mY X') (mC X') (mL X') (mR X') ∈ gTbl ∧ Cond.initialized (mY X').cls ∈ gTbl ∧ ((mY X').cls ≠ "java/lang/invoke/MethodHandle" ∧ (mY X').cls ≠ "java/lang/invoke/VarHandle" ∧ (parseMethodDescriptor (mY X').desc).map (fun d => d.parameters.length) = some n)
def TI (X' : MX) : Prop := Cond.instanceMethod (mY X') ∈ gTbl
def TS (X' : MX) : Prop := Cond.selects (mY X').cls (mY X') (mY X') ∈ gTbl
/-- room for the call -/
def RM (X X' : MX) (cl sl : Nat) : Prop := mF X' + 1 ≤ mF X ∧ 8 + (mL X' + 11) + mO X' ≤ mO X ∧ cl + mM X' ≤ mM X ∧ sl + mS X' ≤ mS X
theorem gW {X' : MX} {n : Nat} (t : TV X' n) : GoodIn gTbl (mW X') := by
  intro w hw
  rcases List.mem_cons.mp hw with rfl | hw
  · exact ⟨t.1, good_of_word (tblGood _ t.1)⟩
  · exact ⟨hw, good_of_word (tblGood _ hw)⟩
theorem WP.callB {X' : MX} {n idx : Nat} {s : State} {m : MethodId} {args : Array Value} {p : Program} {meth : Method} {c : Code} (C : Cx X p s m args meth c) (t : TV X' n) (hl : Cond.methodLink (mY X).cls idx (mY X') ∈ gTbl) (hR : RM X X' cl sl) : CallB (mRoom X) s args (mY X).cls idx (mY X') (mC X') (mL X') (mR X') (mW X') (mRoom X') (mM X') (mS X') n :=
  callB_of (ws' := gTbl) n C.2.2.2.2.2.1 (gW t) rfl rfl rfl (C.2.2.2.2.2.1 _ t.2.1) (C.2.2.2.2.2.1 _ hl) t.2.2 ⟨hR.1, hR.2.1⟩
theorem fixC {p : Program} {s : State} {m : MethodId} {args : Array Value} {meth : Method} {c : Code} (C : Cx X p s m args meth c) : CallFix p m c (mC X) (mL X) s args gTbl (mY X).cls := ⟨C.1, C.2.1, C.2.2.2.1, C.2.2.2.2.1, C.2.2.2.2.2.1⟩
theorem WP.callVr {X' : MX} {n idx b : Nat} {As : List Value} {st0 : List Value} {v1 : Option Value} {h1 : HA} (hd : DC X pc 3 q (.invokevirtual idx)) (hM : MG V X' (.ref b :: As) h v1 h1) (t : TV X' n) (ti : TI X') (ts : TS X') (hl : Cond.methodLink (mY X).cls idx (mY X') ∈ gTbl) (hR : RM X X' cl sl) (hrecv : ∀ (s : State) (H : Heap), SK V s → HRel V h H → ∃ cellB : Cell, H[b]? = some cellB ∧ cellB.vm.isStatics = false ∧ s.vm.findClass (mY X').cls = some cellB.cls)
    (hn : As.length = n) (hst : st0 = As.reverse ++ .ref b :: st) (hcat : (st.map fun v => v.category).sum ≤ 8) (kk : WP V X q lv (v1.toList ++ st) h1 (cl + mM X') (sl + mS X') v h') : WP V X pc lv st0 h cl sl v h' := by
  obtain ⟨hd, rfl⟩ := hd
  subst hst
  intro p l e s m args below meth c9 H locs ls C K R L hl9
  refine WP.fin (X' := X') (va_runV (n := n) (C := (mY X').cls) (fixC C) (hM l) ⟨WP.callB C t hl hR, C.2.2.2.2.2.1 _ ti, C.2.2.2.2.2.1 _ ts⟩ ⟨pc_blind, hrecv s H K R, fun U hU hW => ⟨rfl, by rw [hU]; exact R, SK.moved hW K⟩⟩ rfl hn hl9.1 rfl (by show 2 * 0 + _ ≤ 8; omega) hd ⟨hR.2.2.1, hR.2.2.2⟩) C K L hl9 kk
theorem WP.callV {X' : MX} {n idx b c : Nat} {As : List Value} {st0 : List Value} {v1 : Option Value} {h1 : HA} (hd : DC X pc 3 q (.invokevirtual idx)) (hM : MG V X' (.ref b :: As) h v1 h1) (t : TV X' n) (ti : TI X') (ts : TS X') (hl : Cond.methodLink (mY X).cls idx (mY X') ∈ gTbl) (hR : RM X X' cl sl) (h1c : 1 ≤ c) (h9 : c ≤ 9) (hcn : (mY X').cls = clR c) (hkb : (kd h b).1 = c)
    (hn : As.length = n) (hst : st0 = As.reverse ++ .ref b :: st) (hcat : (st.map fun v => v.category).sum ≤ 8) (kk : WP V X q lv (v1.toList ++ st) h1 (cl + mM X') (sl + mS X') v h') : WP V X pc lv st0 h cl sl v h' :=
  WP.callVr hd hM t ti ts hl hR (fun s H K R => by
    have Q := clq h1c h9
    obtain ⟨-, cellV, g1, g2, g3, -⟩ := R.2.2.2.1 b c hkb h1c h9
    exact ⟨cellV, g1, by rw [g3]; rfl, by rw [g2, hcn]; exact (K.1.1 (c - 1) _ Q.1).2.1⟩) hn hst hcat kk
theorem WP.callS {X' : MX} {n idx : Nat} {As : List Value} {st0 : List Value} {v1 : Option Value} {h1 : HA} (hd : DC X pc 3 q (.invokestatic idx)) (hM : MG V X' As h v1 h1) (t : TV X' n) (ts : Cond.static (mY X') ∈ gTbl) (hl : Cond.methodLink (mY X).cls idx (mY X') ∈ gTbl) (hR : RM X X' cl sl)
    (hn : As.length = n) (hst : st0 = As.reverse ++ st) (hcat : (st.map fun v => v.category).sum ≤ 8) (kk : WP V X q lv (v1.toList ++ st) h1 (cl + mM X') (sl + mS X') v h') : WP V X pc lv st0 h cl sl v h' := by
  obtain ⟨hd, rfl⟩ := hd
  subst hst
  intro p l e s m args below meth c9 H locs ls C K R L hl9
  refine WP.fin (X' := X') (va_runS (n := n) (fixC C) (hM l) ⟨WP.callB C t hl hR, C.2.2.2.2.2.1 _ ts⟩ ⟨pc_blind, fun U hU hW => ⟨rfl, by rw [hU]; exact R, SK.moved hW K⟩⟩ rfl hn hl9.1 rfl (by show 2 * 0 + _ ≤ 8; omega) hd ⟨hR.2.2.1, hR.2.2.2⟩) C K L hl9 kk
theorem WP.callI {X' : MX} {n idx b : Nat} {As : List Value} {st0 : List Value} {h1 : HA} (hd : DC X pc 3 q (.invokespecial idx)) (hM : MG V X' (.ref b :: As) h none h1) (t : TV X' n) (ti : TI X') (hnm : (mY X').name = "<init>") (hrn : mR X' = none) (hl : Cond.methodLink (mY X).cls idx (mY X') ∈ gTbl) (hR : RM X X' cl sl)
    (hn : As.length = n) (hst : st0 = As.reverse ++ .ref b :: st) (hcat : (st.map fun v => v.category).sum ≤ 8) (kk : WP V X q lv st h1 (cl + mM X') (sl + mS X') v h') : WP V X pc lv st0 h cl sl v h' := by
  obtain ⟨hd, rfl⟩ := hd
  subst hst
  intro p l e s m args below meth c9 H locs ls C K R L hl9
  refine WP.fin (X' := X') (va_runI (n := n) (fixC C) (hM l) ⟨by have := WP.callB C t hl hR; rw [hrn] at this; exact this, hnm, C.2.2.2.2.2.1 _ ti⟩ ⟨pc_blind, fun U hU hW => ⟨rfl, by rw [hU]; exact R, SK.moved hW K⟩⟩ rfl hn hl9.1 rfl (by show 2 * 0 + _ ≤ 8; omega) hd ⟨hR.2.2.1, hR.2.2.2⟩) C K L hl9 kk
/-! calls of a nest mate's private methods -/
theorem WP.callBN {X' : MX} {n idx : Nat} {host : String} {s : State} {m : MethodId} {args : Array Value} {p : Program} {meth : Method} {c : Code} (C : Cx X p s m args meth c) (K : SK V s) (t : TV X' n) (hl : Cond.methodLinkNest (mY X).cls idx (mY X') host ∈ lw_tbl) (hR : RM X X' cl sl) : va_CN (mRoom X) s args (mY X).cls idx (mY X') host (mC X') (mL X') (mR X') (mW X') (mRoom X') (mM X') (mS X') n :=
  va_cnB (ws' := gTbl) n C.2.2.2.2.2.1 (gW t) rfl rfl rfl (K.2.2.2.2.2.2.2.1 _ hl rfl) (C.2.2.2.2.2.1 _ t.2.1) t.2.2 ⟨hR.1, hR.2.1⟩
theorem WP.callSN {X' : MX} {n idx : Nat} {host : String} {As : List Value} {st0 : List Value} {v1 : Option Value} {h1 : HA} (hd : DC X pc 3 q (.invokestatic idx)) (hM : MG V X' As h v1 h1) (t : TV X' n) (ts : Cond.static (mY X') ∈ gTbl) (hl : Cond.methodLinkNest (mY X).cls idx (mY X') host ∈ lw_tbl) (hR : RM X X' cl sl)
    (hn : As.length = n) (hst : st0 = As.reverse ++ st) (hcat : (st.map fun v => v.category).sum ≤ 8) (kk : WP V X q lv (v1.toList ++ st) h1 (cl + mM X') (sl + mS X') v h') : WP V X pc lv st0 h cl sl v h' := by
  obtain ⟨hd, rfl⟩ := hd
  subst hst
  intro p l e s m args below meth c9 H locs ls C K R L hl9
  refine WP.fin (X' := X') (va_runSN (n := n) (host := host) (fixC C) (hM l) ⟨WP.callBN C K t hl hR, C.2.2.2.2.2.1 _ ts, trivial⟩ ⟨pc_blind, fun U hU hW => ⟨rfl, by rw [hU]; exact R, SK.moved hW K⟩⟩ rfl hn hl9.1 rfl (by show 2 * 0 + _ ≤ 8; omega) hd ⟨hR.2.2.1, hR.2.2.2⟩) C K L hl9 kk
theorem WP.callIN {X' : MX} {n idx b : Nat} {host : String} {As : List Value} {st0 : List Value} {h1 : HA} (hd : DC X pc 3 q (.invokespecial idx)) (hM : MG V X' (.ref b :: As) h none h1) (t : TV X' n) (ti : TI X') (hnm : (mY X').name = "<init>") (hrn : mR X' = none) (hl : Cond.methodLinkNest (mY X).cls idx (mY X') host ∈ lw_tbl) (hR : RM X X' cl sl)
    (hn : As.length = n) (hst : st0 = As.reverse ++ .ref b :: st) (hcat : (st.map fun v => v.category).sum ≤ 8) (kk : WP V X q lv st h1 (cl + mM X') (sl + mS X') v h') : WP V X pc lv st0 h cl sl v h' := by
  obtain ⟨hd, rfl⟩ := hd
  subst hst
  intro p l e s m args below meth c9 H locs ls C K R L hl9
  refine WP.fin (X' := X') (va_runIN (n := n) (host := host) (fixC C) (hM l) ⟨by have := WP.callBN C K t hl hR; rw [hrn] at this; exact this, hnm, C.2.2.2.2.2.1 _ ti⟩ ⟨pc_blind, fun U hU hW => ⟨rfl, by rw [hU]; exact R, SK.moved hW K⟩⟩ rfl hn hl9.1 rfl (by show 2 * 0 + _ ≤ 8; omega) hd ⟨hR.2.2.1, hR.2.2.2⟩) C K L hl9 kk
/-- Object's own constructor -/
theorem WP.objInit {idx a : Nat} (hd : DC X pc 3 q (.invokespecial idx)) (hl : Cond.methodLink (mY X).cls idx objectInit ∈ gTbl) (hi : Cond.instanceMethod objectInit ∈ gTbl) (hc : Cond.code objectInit ⟨#[0xb1]⟩ 1 none ∈ gTbl) (hf : 1 ≤ mF X) (hlo : (st.map fun v => v.category).sum + 12 ≤ mO X) (kk : WP V X q lv st h cl sl v h') : WP V X pc lv (.ref a :: st) h cl sl v h' := by
  obtain ⟨hd, rfl⟩ := hd
  intro p l e s m args below meth c9 H locs ls C K R L hl9
  refine W.objInit C.1 C.2.1 C.2.2.2.2.1 (C.2.2.2.2.2.1 _ hl) (C.2.2.2.2.2.1 _ hi) (C.2.2.2.2.2.1 _ hc) rfl (by rw [C.2.2.2.1]; exact hl9.1) rfl hd hf (by show 2 * 0 + _ + 12 ≤ mO X; omega) (kk p l e s m args below meth c9 H locs ls C K R L hl9)
end CALLS
