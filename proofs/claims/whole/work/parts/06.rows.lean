section ROWS
variable {V : EV} {X : MX} {pc q : Nat} {lv : List (Nat × Value)} {st : List Value} {h : HA} {cl sl : Nat} {v : Option Value} {h' : HA}
theorem WP.get {c k idx a : Nat} {w : Value} (hd : DC X pc 3 q (.getfield idx)) (h1 : 1 ≤ c) (h9 : c ≤ 9) (hk : k < nfd c) (hl : Cond.fieldLink (mY X).cls idx (clT c k).1 (clT c k).2.1 (clT c k).2.2.1 ∈ gTbl) (hkd : (kd h a).1 = c) (hv : tval h (fty c k) a k = w) (kk : WP V X q lv (w :: st) h cl sl v h') : WP V X pc lv (.ref a :: st) h cl sl v h' := by
  obtain ⟨hd, rfl⟩ := hd
  intro p l e s m args below meth c9 H locs ls C K R L hl9
  have Q := clq h1 h9
  refine va_get (cl := vwCl) (N := nfd c) (T := clT c) (C := clR c) (ci := c - 1) (v := w) C.1 C.2.1 C.2.2.2.2.2.1 Q.2.1 C.2.2.2.2.1 K.1 (R.objP hkd h1 h9) 0 rfl Q.1 k hk (C.2.2.2.2.2.1 _ hl) (fun _ z => z) ?_ hd (kk p l e s m args below meth c9 H locs ls C K R L hl9)
  simp [hk, hv]
theorem WP.getI {c k idx a : Nat} {x : Int32} (hd : DC X pc 3 q (.getfield idx)) (h1 : 1 ≤ c) (h9 : c ≤ 9) (hk : k < nfd c) (hl : Cond.fieldLink (mY X).cls idx (clT c k).1 (clT c k).2.1 (clT c k).2.2.1 ∈ gTbl) (ht : ∀ h : HA, tval h (fty c k) a k = .int (gi h a k)) (hg : gI h a c k = some x) (kk : WP V X q lv (.int x :: st) h cl sl v h') : WP V X pc lv (.ref a :: st) h cl sl v h' := by
  unfold gI at hg
  split at hg
  · exact WP.get hd h1 h9 hk hl (by assumption) ((ht h).trans (by rw [Option.some.inj hg])) kk
  · cases hg
theorem WP.getJ {c k idx a : Nat} {x : Int64} (hd : DC X pc 3 q (.getfield idx)) (h1 : 1 ≤ c) (h9 : c ≤ 9) (hk : k < nfd c) (hl : Cond.fieldLink (mY X).cls idx (clT c k).1 (clT c k).2.1 (clT c k).2.2.1 ∈ gTbl) (ht : ∀ h : HA, tval h (fty c k) a k = .long (gj h a k)) (hg : gJ h a c k = some x) (kk : WP V X q lv (.long x :: st) h cl sl v h') : WP V X pc lv (.ref a :: st) h cl sl v h' := by
  unfold gJ at hg
  split at hg
  · exact WP.get hd h1 h9 hk hl (by assumption) ((ht h).trans (by rw [Option.some.inj hg])) kk
  · cases hg
theorem WP.getR {c k idx a x : Nat} (hd : DC X pc 3 q (.getfield idx)) (h1 : 1 ≤ c) (h9 : c ≤ 9) (hk : k < nfd c) (hl : Cond.fieldLink (mY X).cls idx (clT c k).1 (clT c k).2.1 (clT c k).2.2.1 ∈ gTbl) (ht : ∀ h : HA, tval h (fty c k) a k = va_rf (ga h a k)) (hg : gR h a c k = some x) (kk : WP V X q lv (.ref x :: st) h cl sl v h') : WP V X pc lv (.ref a :: st) h cl sl v h' := by
  unfold gR at hg
  split at hg
  · exact WP.get hd h1 h9 hk hl (by assumption) ((ht h).trans (by rw [hg]; rfl)) kk
  · cases hg
theorem WP.getN {c k idx a : Nat} {x : Option Nat} (hd : DC X pc 3 q (.getfield idx)) (h1 : 1 ≤ c) (h9 : c ≤ 9) (hk : k < nfd c) (hl : Cond.fieldLink (mY X).cls idx (clT c k).1 (clT c k).2.1 (clT c k).2.2.1 ∈ gTbl) (ht : ∀ h : HA, tval h (fty c k) a k = va_rf (ga h a k)) (hg : gN h a c k = some x) (kk : WP V X q lv (va_rf x :: st) h cl sl v h') : WP V X pc lv (.ref a :: st) h cl sl v h' := by
  unfold gN at hg
  split at hg
  · exact WP.get hd h1 h9 hk hl (by assumption) ((ht h).trans (by rw [Option.some.inj hg])) kk
  · cases hg
/-- what a store into an object does to the picture -/
theorem HRel.stored {V : EV} {h h1 : HA} {H H1 : Heap} {a c k : Nat} {w : Value} {s : State} {args : Array Value} {m : MethodId} {own : String} {cell : Cell} (R : HRel V h H) (K : SK V s) (hts : ∀ x ∈ gTbl, x.before args s = true) (h1c : 1 ≤ c) (h9 : c ≤ 9) (hk : k < nfd c) (hkd : (kd h a).1 = c) (u : Upd h h1 a)
    (hw : ∀ j, tval h1 (fty c j) a j = if j = k then w else tval h (fty c j) a j) (e1 : H1[a]? = some (cell.setSlot ((vD V).2 (c - 1) k) w)) (q2 : cell.cls = (vD V).1 (c - 1)) (q3 : cell.vm = .none)
    (q4 : ∀ j, j < nfd c → cell.slots[(vD V).2 (c - 1) j]? = some (tval h (fty c j) a j)) (z : H1.size = H.size) (oq : ∀ q : Nat, q ≠ a → H1[q]? = H[q]?) : HRel V h1 H1 := by
  have Q := clq h1c h9
  refine R.upd u z oq (R.2.2.2.1 a c hkd h1c h9).1 (fun c' hc' _ _ => ?_) (fun c' hc' h20 => by omega)
  have hcc : c' = c := hc'.symm.trans hkd
  subst hcc
  have hap := va_apart (own := own) hts Q.2.1 (fty c') Q.2.2.1 Q.2.2.2 K.1 Q.1
  have q5 : ∀ j, j < nfd c' → (cell.setSlot ((vD V).2 (c' - 1) k) w).slots[(vD V).2 (c' - 1) j]? = some (updV (fun j => tval h (fty c' j) a j) k w j) := t_set q4 hap hk w
  refine ⟨_, e1, q2, q3, fun j hj => ?_⟩
  rw [q5 j hj]
  show _ = some (tval h1 (fty c' j) a j)
  rw [hw j]
  rfl
theorem WP.put {c k idx a : Nat} {w : Value} {h1 : HA} (hd : DC X pc 3 q (.putfield idx)) (h1c : 1 ≤ c) (h9 : c ≤ 9) (hk : k < nfd c) (hl : Cond.fieldLink (mY X).cls idx (clT c k).1 (clT c k).2.1 (clT c k).2.2.1 ∈ gTbl) (hfin : (clT c k).2.2.2 = false) (hn : narrow (fty c k) w = w) (hf : fits (fty c k) w = true) (hkd : (kd h a).1 = c) (u : Upd h h1 a)
    (hw : ∀ j, tval h1 (fty c j) a j = if j = k then w else tval h (fty c j) a j) (kk : WP V X q lv st h1 cl sl v h') : WP V X pc lv (w :: .ref a :: st) h cl sl v h' := by
  obtain ⟨hd, rfl⟩ := hd
  intro p l e s m args below meth c9 H locs ls C K R L hl9
  have Q := clq h1c h9
  have hts := C.2.2.2.2.2.1
  have hown := C.2.2.2.2.1
  obtain ⟨hba, cell, q1, q2, q3, q4⟩ := R.2.2.2.1 a c hkd h1c h9
  obtain ⟨hS, hfc, kC, hkC, hkind⟩ := K.1.1 (c - 1) _ Q.1
  obtain ⟨cf, kf, fi, f, hi, hsl⟩ := hS k hk
  have hlay := hts _ (Q.2.1 _ (u_in_lay hk))
  unfold u_lay at hlay
  rw [if_neg (by rw [hfin]; decide)] at hlay
  have hst := (u_facts hfc hkC (u_lays hts Q.2.1 hk) hi).1
  have h6 := u_store hfc hkC hkind hlay hi (Q.2.2.1 k hk) hn hf
  refine W.putK C.1 C.2.1 (f := f) ⟨hown, hts _ hl, ⟨_, _, _, hi⟩, hst⟩ (by rw [q2]; exact h6) q1 q3 (by rw [hsl]; exact k2_hasslot (q4 k hk)) rfl rfl hd fun H' e1 e2 e3 => ?_
  rw [hsl] at e1 ⊢
  refine kk p l e s m args below meth c9 H' _ ls C K (R.stored (m := m) (own := (mY X).cls) K hts h1c h9 hk hkd u hw e1 q2 q3 q4 e2 e3) ?_ hl9
  intro x hx
  rcases List.mem_append.mp hx with hx | hx
  · exact L x hx
  · rw [List.mem_singleton.mp hx]; exact hba
theorem WP.putF {c k idx a : Nat} {w : Value} {h1 : HA} (hd : DC X pc 3 q (.putfield idx)) (h1c : 1 ≤ c) (h9 : c ≤ 9) (hk : k < nfd c) (hl : Cond.fieldLink (mY X).cls idx (clT c k).1 (clT c k).2.1 (clT c k).2.2.1 ∈ gTbl) (hfin : (clT c k).2.2.2 = true) (hin : (mY X).name = "<init>") (hdecl : (clT c k).1 = (mY X).cls) (hn : narrow (fty c k) w = w) (hf : fits (fty c k) w = true) (hkd : (kd h a).1 = c) (u : Upd h h1 a)
    (hw : ∀ j, tval h1 (fty c j) a j = if j = k then w else tval h (fty c j) a j) (kk : WP V X q lv st h1 cl sl v h') : WP V X pc lv (w :: .ref a :: st) h cl sl v h' := by
  obtain ⟨hd, rfl⟩ := hd
  intro p l e s m args below meth c9 H locs ls C K R L hl9
  have Q := clq h1c h9
  have hts := C.2.2.2.2.2.1
  have hown := C.2.2.2.2.1
  obtain ⟨hba, cell, q1, q2, q3, q4⟩ := R.2.2.2.1 a c hkd h1c h9
  obtain ⟨hS, hfc, kC, hkC, hkind⟩ := K.1.1 (c - 1) _ Q.1
  obtain ⟨cf, kf, fi, f, hi, hsl⟩ := hS k hk
  have hlay := hts _ (Q.2.1 _ (u_in_lay hk))
  unfold u_lay at hlay
  rw [if_pos hfin] at hlay
  have hst := (u_facts hfc hkC (u_lays hts Q.2.1 hk) hi).1
  have hcf : m.cls = cf := by
    obtain ⟨_, _, c', _, _, _, -, -, hf', -, -, -, hown2, -⟩ := Cond.laysFinal_spec hlay
    have e1 : c' = cf := by have := hi.symm.trans hf'; simp at this; exact this.1.symm
    rw [hdecl] at hown2
    rw [← e1]; exact Option.some.inj (hown.symm.trans hown2)
  have h6 := u_fits hfc hkC hkind (Or.inr hlay) hi (Q.2.2.1 k hk) hn hf
  refine W.putFinK C.1 C.2.1 hown (hts _ hl) hi hst hcf (C.2.2.2.2.2.2.2 hin) (by rw [q2]; exact h6) q1 q3 (by rw [hsl]; exact k2_hasslot (q4 k hk)) rfl rfl hd fun H' e1 e2 e3 => ?_
  rw [hsl] at e1 ⊢
  refine kk p l e s m args below meth c9 H' _ ls C K (R.stored (m := m) (own := (mY X).cls) K hts h1c h9 hk hkd u hw e1 q2 q3 q4 e2 e3) ?_ hl9
  intro x hx
  rcases List.mem_append.mp hx with hx | hx
  · exact L x hx
  · rw [List.mem_singleton.mp hx]; exact hba
/-- the three kinds of store -/
theorem tv_si {h : HA} {a k : Nat} {x : Int32} {c : Nat} (ht : fty c k = .int ∨ fty c k = .boolean) (j : Nat) : tval (si h a k x) (fty c j) a j = if j = k then .int x else tval h (fty c j) a j := by
  by_cases e : j = k
  · subst e
    rw [if_pos rfl]
    rcases ht with ht | ht <;> (rw [ht]; show Value.int (gi (si h a j x) a j) = _; exact congrArg Value.int (if_pos ⟨rfl, rfl⟩))
  · rw [if_neg e]
    refine congrFun (congrFun rfl _) _ |>.trans ?_
    unfold tval
    have : gi (si h a k x) a j = gi h a j := if_neg (fun z => e z.2)
    cases fty c j <;> first | rfl | simp only [this] | (show Value.long (gj h a j) = _; rfl)
theorem tv_sj {h : HA} {a k : Nat} {x : Int64} {c : Nat} (ht : fty c k = .long) (j : Nat) : tval (sj h a k x) (fty c j) a j = if j = k then .long x else tval h (fty c j) a j := by
  by_cases e : j = k
  · subst e
    rw [if_pos rfl, ht]
    show Value.long (gj (sj h a j x) a j) = _
    exact congrArg Value.long (if_pos ⟨rfl, rfl⟩)
  · rw [if_neg e]
    unfold tval
    have : gj (sj h a k x) a j = gj h a j := if_neg (fun z => e z.2)
    cases fty c j <;> first | rfl | simp only [this]
theorem tv_sa {h : HA} {a k : Nat} {x : Option Nat} {c : Nat} (ht : ∀ g : HA, tval g (fty c k) a k = va_rf (ga g a k)) (j : Nat) : tval (sa h a k x) (fty c j) a j = if j = k then va_rf x else tval h (fty c j) a j := by
  by_cases e : j = k
  · subst e
    rw [if_pos rfl, ht]
    exact congrArg va_rf (if_pos ⟨rfl, rfl⟩)
  · rw [if_neg e]
    unfold tval
    have : ga (sa h a k x) a j = ga h a j := if_neg (fun z => e z.2)
    cases fty c j <;> first | rfl | simp only [this]
theorem WP.putI {c k idx a : Nat} {x : Int32} {h1 : HA} (hd : DC X pc 3 q (.putfield idx)) (h1c : 1 ≤ c) (h9 : c ≤ 9) (hk : k < nfd c) (hl : Cond.fieldLink (mY X).cls idx (clT c k).1 (clT c k).2.1 (clT c k).2.2.1 ∈ gTbl) (hfin : (clT c k).2.2.2 = false) (ht : fty c k = .int ∨ fty c k = .boolean) (hn : narrow (fty c k) (.int x) = .int x) (hf : fits (fty c k) (.int x) = true) (hg : pI h a c k x = some h1) (kk : WP V X q lv st h1 cl sl v h') : WP V X pc lv (.int x :: .ref a :: st) h cl sl v h' := by
  unfold pI at hg
  split at hg
  · cases Option.some.inj hg
    exact WP.put hd h1c h9 hk hl hfin hn hf (by assumption) (upd_si _ _ _ _) (tv_si ht) kk
  · cases hg
theorem WP.putJ {c k idx a : Nat} {x : Int64} {h1 : HA} (hd : DC X pc 3 q (.putfield idx)) (h1c : 1 ≤ c) (h9 : c ≤ 9) (hk : k < nfd c) (hl : Cond.fieldLink (mY X).cls idx (clT c k).1 (clT c k).2.1 (clT c k).2.2.1 ∈ gTbl) (hfin : (clT c k).2.2.2 = false) (ht : fty c k = .long) (hg : pJ h a c k x = some h1) (kk : WP V X q lv st h1 cl sl v h') : WP V X pc lv (.long x :: .ref a :: st) h cl sl v h' := by
  unfold pJ at hg
  split at hg
  · cases Option.some.inj hg
    exact WP.put hd h1c h9 hk hl hfin (by rw [ht]; rfl) (by rw [ht]; rfl) (by assumption) (upd_sj _ _ _ _) (tv_sj ht) kk
  · cases hg
theorem WP.putR {c k idx a : Nat} {x : Option Nat} {h1 : HA} (hd : DC X pc 3 q (.putfield idx)) (h1c : 1 ≤ c) (h9 : c ≤ 9) (hk : k < nfd c) (hl : Cond.fieldLink (mY X).cls idx (clT c k).1 (clT c k).2.1 (clT c k).2.2.1 ∈ gTbl) (hfin : (clT c k).2.2.2 = false) (ht : ∀ g : HA, tval g (fty c k) a k = va_rf (ga g a k)) (hn : narrow (fty c k) (va_rf x) = va_rf x) (hf : fits (fty c k) (va_rf x) = true) (hg : pR h a c k x = some h1) (kk : WP V X q lv st h1 cl sl v h') : WP V X pc lv (va_rf x :: .ref a :: st) h cl sl v h' := by
  unfold pR at hg
  split at hg
  · cases Option.some.inj hg
    exact WP.put hd h1c h9 hk hl hfin hn hf (by assumption) (upd_sa _ _ _ _) (tv_sa ht) kk
  · cases hg
theorem WP.putFI {c k idx a : Nat} {x : Int32} {h1 : HA} (hd : DC X pc 3 q (.putfield idx)) (h1c : 1 ≤ c) (h9 : c ≤ 9) (hk : k < nfd c) (hl : Cond.fieldLink (mY X).cls idx (clT c k).1 (clT c k).2.1 (clT c k).2.2.1 ∈ gTbl) (hfin : (clT c k).2.2.2 = true) (hin : (mY X).name = "<init>") (hdecl : (clT c k).1 = (mY X).cls) (ht : fty c k = .int ∨ fty c k = .boolean) (hn : narrow (fty c k) (.int x) = .int x) (hf : fits (fty c k) (.int x) = true) (hg : pI h a c k x = some h1) (kk : WP V X q lv st h1 cl sl v h') : WP V X pc lv (.int x :: .ref a :: st) h cl sl v h' := by
  unfold pI at hg
  split at hg
  · cases Option.some.inj hg
    exact WP.putF hd h1c h9 hk hl hfin hin hdecl hn hf (by assumption) (upd_si _ _ _ _) (tv_si ht) kk
  · cases hg
theorem WP.putFR {c k idx a : Nat} {x : Option Nat} {h1 : HA} (hd : DC X pc 3 q (.putfield idx)) (h1c : 1 ≤ c) (h9 : c ≤ 9) (hk : k < nfd c) (hl : Cond.fieldLink (mY X).cls idx (clT c k).1 (clT c k).2.1 (clT c k).2.2.1 ∈ gTbl) (hfin : (clT c k).2.2.2 = true) (hin : (mY X).name = "<init>") (hdecl : (clT c k).1 = (mY X).cls) (ht : ∀ g : HA, tval g (fty c k) a k = va_rf (ga g a k)) (hn : narrow (fty c k) (va_rf x) = va_rf x) (hf : fits (fty c k) (va_rf x) = true) (hg : pR h a c k x = some h1) (kk : WP V X q lv st h1 cl sl v h') : WP V X pc lv (va_rf x :: .ref a :: st) h cl sl v h' := by
  unfold pR at hg
  split at hg
  · cases Option.some.inj hg
    exact WP.putF hd h1c h9 hk hl hfin hin hdecl hn hf (by assumption) (upd_sa _ _ _ _) (tv_sa ht) kk
  · cases hg
end ROWS
