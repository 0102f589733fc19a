section ROWS2
variable {V : EV} {X : MX} {pc q : Nat} {lv : List (Nat × Value)} {st : List Value} {h : HA} {cl sl : Nat} {v : Option Value} {h' : HA}
/-! rows of numbers and of references -/
theorem ldI_sp {a c : Nat} {i x : Int32} (hg : ldI h a c i = some x) : (kd h a).1 = c ∧ vp_in i (kd h a).2 ∧ gi h a i.toNatClampNeg = x := by
  unfold ldI at hg
  split at hg
  · rename_i z; exact ⟨z.1, inb_vp z.2, Option.some.inj hg⟩
  · cases hg
theorem ldJ_sp {a : Nat} {i : Int32} {x : Int64} (hg : ldJ h a i = some x) : (kd h a).1 = 21 ∧ vp_in i (kd h a).2 ∧ gj h a i.toNatClampNeg = x := by
  unfold ldJ at hg
  split at hg
  · rename_i z; exact ⟨z.1, inb_vp z.2, Option.some.inj hg⟩
  · cases hg
theorem ldN_sp {a c : Nat} {i : Int32} {x : Option Nat} (hg : ldN h a c i = some x) : (kd h a).1 = c ∧ vp_in i (kd h a).2 ∧ ga h a i.toNatClampNeg = x := by
  unfold ldN at hg
  split at hg
  · rename_i z; exact ⟨z.1, inb_vp z.2, Option.some.inj hg⟩
  · cases hg
theorem ldR_sp {a c : Nat} {i : Int32} {x : Nat} (hg : ldR h a c i = some x) : ldN h a c i = some (some x) := by
  unfold ldR at hg
  unfold ldN
  split at hg
  · rename_i z; rw [if_pos z, hg]
  · cases hg
theorem asI_sp {a c : Nat} {i x : Int32} {h1 : HA} (hg : asI h a c i x = some h1) : (kd h a).1 = c ∧ vp_in i (kd h a).2 ∧ h1 = si h a i.toNatClampNeg x := by
  unfold asI at hg
  split at hg
  · rename_i z; exact ⟨z.1, inb_vp z.2, (Option.some.inj hg).symm⟩
  · cases hg
theorem asJ_sp {a : Nat} {i : Int32} {x : Int64} {h1 : HA} (hg : asJ h a i x = some h1) : (kd h a).1 = 21 ∧ vp_in i (kd h a).2 ∧ h1 = sj h a i.toNatClampNeg x := by
  unfold asJ at hg
  split at hg
  · rename_i z; exact ⟨z.1, inb_vp z.2, (Option.some.inj hg).symm⟩
  · cases hg
theorem asR_sp {a c : Nat} {i : Int32} {x : Nat} {h1 : HA} (hg : asR h a c i x = some h1) : (kd h a).1 = c ∧ vp_in i (kd h a).2 ∧ (kd h x).1 = elc c ∧ h1 = sa h a i.toNatClampNeg (some x) := by
  unfold asR at hg
  split at hg
  · rename_i z; exact ⟨z.1, inb_vp z.2.1, z.2.2, (Option.some.inj hg).symm⟩
  · cases hg
theorem WP.iald {a : Nat} {i x : Int32} (hd : DC X pc 1 q .iaload) (hg : ldI h a 20 i = some x) (kk : WP V X q lv (.int x :: st) h cl sl v h') : WP V X pc lv (.int i :: .ref a :: st) h cl sl v h' := by
  obtain ⟨hd, rfl⟩ := hd
  obtain ⟨hk, hin, rfl⟩ := ldI_sp hg
  intro p l e s m args below meth c9 H locs ls C K R L hl9
  exact va_iald (f := gi h a) C.1 C.2.1 K.1 (R.arrP hk (by decide) (x := ((kd h a).2, .inl (gi h a))) rfl) 0 0 rfl rfl hin hd (kk p l e s m args below meth c9 H locs ls C K R L hl9)
theorem WP.bald {a : Nat} {i x : Int32} (hd : DC X pc 1 q .baload) (hg : ldI h a 22 i = some x) (kk : WP V X q lv (.int x :: st) h cl sl v h') : WP V X pc lv (.int i :: .ref a :: st) h cl sl v h' := by
  obtain ⟨hd, rfl⟩ := hd
  obtain ⟨hk, hin, rfl⟩ := ldI_sp hg
  intro p l e s m args below meth c9 H locs ls C K R L hl9
  exact va_bald (f := gi h a) C.1 C.2.1 K.1 (R.arrP hk (by decide) (x := ((kd h a).2, .inl (gi h a))) rfl) 0 2 rfl rfl hin hd (kk p l e s m args below meth c9 H locs ls C K R L hl9)
theorem WP.zald {a : Nat} {i x : Int32} (hd : DC X pc 1 q .baload) (hg : ldI h a 23 i = some x) (kk : WP V X q lv (.int x :: st) h cl sl v h') : WP V X pc lv (.int i :: .ref a :: st) h cl sl v h' := by
  obtain ⟨hd, rfl⟩ := hd
  obtain ⟨hk, hin, rfl⟩ := ldI_sp hg
  intro p l e s m args below meth c9 H locs ls C K R L hl9
  exact va_zald (f := gi h a) C.1 C.2.1 K.1 (R.arrP hk (by decide) (x := ((kd h a).2, .inl (gi h a))) rfl) 0 3 rfl rfl hin hd (kk p l e s m args below meth c9 H locs ls C K R L hl9)
theorem WP.lald {a : Nat} {i : Int32} {x : Int64} (hd : DC X pc 1 q .laload) (hg : ldJ h a i = some x) (kk : WP V X q lv (.long x :: st) h cl sl v h') : WP V X pc lv (.int i :: .ref a :: st) h cl sl v h' := by
  obtain ⟨hd, rfl⟩ := hd
  obtain ⟨hk, hin, rfl⟩ := ldJ_sp hg
  intro p l e s m args below meth c9 H locs ls C K R L hl9
  exact va_lald (f := gj h a) C.1 C.2.1 K.1 (R.arrP hk (by decide) (x := ((kd h a).2, .inr (.inl (gj h a)))) rfl) 0 1 rfl rfl hin hd (kk p l e s m args below meth c9 H locs ls C K R L hl9)
theorem WP.aaldN {a c : Nat} {i : Int32} {x : Option Nat} (hd : DC X pc 1 q .aaload) (hc : c = 24 ∨ c = 25 ∨ c = 26) (hg : ldN h a c i = some x) (kk : WP V X q lv (va_rf x :: st) h cl sl v h') : WP V X pc lv (.int i :: .ref a :: st) h cl sl v h' := by
  obtain ⟨hd, rfl⟩ := hd
  obtain ⟨hk, hin, rfl⟩ := ldN_sp hg
  intro p l e s m args below meth c9 H locs ls C K R L hl9
  rcases hc with rfl | rfl | rfl
  · exact va_aldq (f := ga h a) C.1 C.2.1 K.1 (R.arrP hk (by decide) (x := ((kd h a).2, .inr (.inr (.inr (.inr (ga h a)))))) rfl) 0 4 rfl rfl hin hd (kk p l e s m args below meth c9 H locs ls C K R L hl9)
  · exact va_aldq (f := ga h a) C.1 C.2.1 K.1 (R.arrP hk (by decide) (x := ((kd h a).2, .inr (.inr (.inr (.inr (ga h a)))))) rfl) 0 5 rfl rfl hin hd (kk p l e s m args below meth c9 H locs ls C K R L hl9)
  · exact va_aldq (f := ga h a) C.1 C.2.1 K.1 (R.arrP hk (by decide) (x := ((kd h a).2, .inr (.inr (.inr (.inr (ga h a)))))) rfl) 0 6 rfl rfl hin hd (kk p l e s m args below meth c9 H locs ls C K R L hl9)
theorem WP.aaldR {a c : Nat} {i : Int32} {x : Nat} (hd : DC X pc 1 q .aaload) (hc : c = 24 ∨ c = 25 ∨ c = 26) (hg : ldR h a c i = some x) (kk : WP V X q lv (.ref x :: st) h cl sl v h') : WP V X pc lv (.int i :: .ref a :: st) h cl sl v h' :=
  WP.aaldN hd hc (ldR_sp hg) kk
theorem loc_add {A : Nat → Prop} {locs : List Loc} {a i : Nat} (L : ∀ q ∈ locs, A q.base) (ha : A a) : ∀ q ∈ locs ++ [⟨a, i⟩], A q.base := by
  intro x hx
  rcases List.mem_append.mp hx with hx | hx
  · exact L x hx
  · rw [List.mem_singleton.mp hx]; exact ha
theorem WP.ias {a : Nat} {i x : Int32} {h1 : HA} (hd : DC X pc 1 q .iastore) (hg : asI h a 20 i x = some h1) (kk : WP V X q lv st h1 cl sl v h') : WP V X pc lv (.int x :: .int i :: .ref a :: st) h cl sl v h' := by
  obtain ⟨hd, rfl⟩ := hd
  obtain ⟨hk, hin, rfl⟩ := asI_sp hg
  intro p l e s m args below meth c9 H locs ls C K R L hl9
  obtain ⟨-, hba, hcell⟩ := R.2.2.2.2 a 20 hk (by decide)
  refine W.iast C.1 C.2.1 hcell ((K.1.2 0 _ rfl).1 _ _) (fun q => by cases q) (by rw [arrV_size]; exact hin) rfl rfl hd fun H1 e z oq => ?_
  refine kk p l _ s m args below meth c9 H1 _ ls C K (R.upd (upd_si _ _ _ _) z oq hba (fun c hc _ _ => by omega) (fun c hc _ => ?_)) (loc_add L hba) hl9
  have : c = 20 := hc.symm.trans hk
  subst this
  rw [e, arrV_store]
  congr 2
  funext j
  by_cases ej : j = i.toNatClampNeg
  · subst ej; show updV _ _ _ _ = Value.int (gi (si h a _ x) a _); simp [updV, gi, si]
  · show updV _ _ _ _ = Value.int (gi (si h a _ x) a j); simp [updV, gi, si, ej]; rfl
theorem WP.bas {a : Nat} {i x : Int32} {h1 : HA} (hd : DC X pc 1 q .bastore) (hg : asI h a 22 i (toB x) = some h1) (kk : WP V X q lv st h1 cl sl v h') : WP V X pc lv (.int x :: .int i :: .ref a :: st) h cl sl v h' := by
  obtain ⟨hd, rfl⟩ := hd
  obtain ⟨hk, hin, rfl⟩ := asI_sp hg
  intro p l e s m args below meth c9 H locs ls C K R L hl9
  obtain ⟨-, hba, hcell⟩ := R.2.2.2.2 a 22 hk (by decide)
  refine W.bast C.1 C.2.1 hcell ((K.1.2 2 _ rfl).1 _ _) (fun q => by cases q) (by rw [arrV_size]; exact hin) rfl rfl hd fun H1 e z oq => ?_
  refine kk p l _ s m args below meth c9 H1 _ ls C K (R.upd (upd_si _ _ _ _) z oq hba (fun c hc _ _ => by omega) (fun c hc _ => ?_)) (loc_add L hba) hl9
  have : c = 22 := hc.symm.trans hk
  subst this
  rw [e, arrV_store]
  congr 2
  funext j
  by_cases ej : j = i.toNatClampNeg
  · subst ej; show updV _ _ _ _ = Value.int (gi (si h a _ (toB x)) a _); simp [updV, gi, si]; rfl
  · show updV _ _ _ _ = Value.int (gi (si h a _ (toB x)) a j); simp [updV, gi, si, ej]; rfl
theorem WP.zas {a : Nat} {i x : Int32} {h1 : HA} (hd : DC X pc 1 q .bastore) (hx : narrow .boolean (.int x) = .int x) (hg : asI h a 23 i x = some h1) (kk : WP V X q lv st h1 cl sl v h') : WP V X pc lv (.int x :: .int i :: .ref a :: st) h cl sl v h' := by
  obtain ⟨hd, rfl⟩ := hd
  obtain ⟨hk, hin, rfl⟩ := asI_sp hg
  intro p l e s m args below meth c9 H locs ls C K R L hl9
  obtain ⟨-, hba, hcell⟩ := R.2.2.2.2 a 23 hk (by decide)
  refine W.zast C.1 C.2.1 hcell ((K.1.2 3 _ rfl).1 _ _) (fun q => by cases q) (by rw [arrV_size]; exact hin) rfl rfl hd fun H1 e z oq => ?_
  refine kk p l _ s m args below meth c9 H1 _ ls C K (R.upd (upd_si _ _ _ _) z oq hba (fun c hc _ _ => by omega) (fun c hc _ => ?_)) (loc_add L hba) hl9
  have : c = 23 := hc.symm.trans hk
  subst this
  rw [hx] at e
  rw [e, arrV_store]
  congr 2
  funext j
  by_cases ej : j = i.toNatClampNeg
  · subst ej; show updV _ _ _ _ = Value.int (gi (si h a _ x) a _); simp [updV, gi, si]
  · show updV _ _ _ _ = Value.int (gi (si h a _ x) a j); simp [updV, gi, si, ej]; rfl
theorem WP.las {a : Nat} {i : Int32} {x : Int64} {h1 : HA} (hd : DC X pc 1 q .lastore) (hg : asJ h a i x = some h1) (kk : WP V X q lv st h1 cl sl v h') : WP V X pc lv (.long x :: .int i :: .ref a :: st) h cl sl v h' := by
  obtain ⟨hd, rfl⟩ := hd
  obtain ⟨hk, hin, rfl⟩ := asJ_sp hg
  intro p l e s m args below meth c9 H locs ls C K R L hl9
  obtain ⟨-, hba, hcell⟩ := R.2.2.2.2 a 21 hk (by decide)
  refine W.last C.1 C.2.1 hcell ((K.1.2 1 _ rfl).1 _ _) (fun q => by cases q) (by rw [arrV_size]; exact hin) rfl rfl hd fun H1 e z oq => ?_
  refine kk p l _ s m args below meth c9 H1 _ ls C K (R.upd (upd_sj _ _ _ _) z oq hba (fun c hc _ _ => by omega) (fun c hc _ => ?_)) (loc_add L hba) hl9
  have : c = 21 := hc.symm.trans hk
  subst this
  rw [e, arrV_store]
  congr 2
  funext j
  by_cases ej : j = i.toNatClampNeg
  · subst ej; show updV _ _ _ _ = Value.long (gj (sj h a _ x) a _); simp [updV, gj, sj]
  · show updV _ _ _ _ = Value.long (gj (sj h a _ x) a j); simp [updV, gj, sj, ej]; rfl
theorem WP.aas {a c x : Nat} {i : Int32} {h1 : HA} (hd : DC X pc 1 q .aastore) (hc3 : c = 24 ∨ c = 25 ∨ c = 26) (hg : asR h a c i x = some h1) (kk : WP V X q lv st h1 cl sl v h') : WP V X pc lv (.ref x :: .int i :: .ref a :: st) h cl sl v h' := by
  obtain ⟨hd, rfl⟩ := hd
  obtain ⟨hk, hin, hkx, rfl⟩ := asR_sp hg
  intro p l e s m args below meth c9 H locs ls C K R L hl9
  obtain ⟨-, hba, hcell⟩ := R.2.2.2.2 a c hk (by omega)
  have hlt : i.toNatClampNeg < (kd h a).2 := Nat.not_le.mp fun q => hin (Or.inr q)
  have h0 : ¬ i < 0 := fun q => hin (Or.inl q)
  have key : ∀ (d t0 : Nat), (kd h x).1 = d → 1 ≤ d → d ≤ 9 → (tyl V)[t0]? = some (vA V c, .object (clR d)) → ety c = .object (clR d) → W p l e (mRoom X) s m args below meth c9 H locs cl sl (MQ below (QG V v h') args s (mM X) (mS X) (wI V)) (F0 m pc ls (.ref x :: .int i :: .ref a :: st)) := by
    intro d t0 hdx hd1 hd9 ht hety
    have Q := clq hd1 hd9
    obtain ⟨-, cellV, g1, g2, g3, -⟩ := R.2.2.2.1 x d hdx hd1 hd9
    have hcls := (K.1.1 (d - 1) _ Q.1).2
    obtain ⟨kA, comp, k1, k2, k3, -⟩ := (K.1.2 t0 _ ht).2
    have hcomp : comp = (vD V).1 (d - 1) := Option.some.inj (k3.symm.trans hcls.1)
    subst hcomp
    obtain ⟨kC, hkC, -⟩ := hcls.2
    refine W.aast C.1 C.2.1 hcell (fun q h => by cases h) (fun h => by cases h) k1 k2 rfl hkC ⟨h0, by rw [arrV_size]; exact hlt⟩ g1 (fun q h => by rw [g3] at h; cases h) (by rw [g2]; exact hkC) (by rw [g2]; exact va_assign hcls) rfl rfl hd fun H1 e z oq => ?_
    refine kk p l _ s m args below meth c9 H1 _ ls C K (R.upd (upd_sa _ _ _ _) z oq hba (fun c' hc' _ _ => by omega) (fun c' hc' _ => ?_)) (loc_add L hba) hl9
    have : c' = c := hc'.symm.trans hk
    subst this
    rw [e, arrV_store, hety]
    congr 2
    funext j
    by_cases ej : j = i.toNatClampNeg
    · subst ej; show updV _ _ _ _ = va_rf (ga (sa h a _ (some x)) a _); simp [updV, ga, sa, va_rf]
    · show updV _ _ _ _ = va_rf (ga (sa h a _ (some x)) a j); simp [updV, ga, sa, ej]; rfl
  rcases hc3 with rfl | rfl | rfl
  · exact key 6 4 hkx (by decide) (by decide) rfl rfl
  · exact key 1 5 hkx (by decide) (by decide) rfl rfl
  · exact key 3 6 hkx (by decide) (by decide) rfl rfl
theorem WP.alen {a : Nat} {x : Int32} (hd : DC X pc 1 q .arraylength) (hg : aL h a = some x) (kk : WP V X q lv (.int x :: st) h cl sl v h') : WP V X pc lv (.ref a :: st) h cl sl v h' := by
  obtain ⟨hd, rfl⟩ := hd
  unfold aL at hg
  split at hg
  · rename_i h20
    cases Option.some.inj hg
    intro p l e s m args below meth c9 H locs ls C K R L hl9
    obtain ⟨h26, hba, hcell⟩ := R.2.2.2.2 a _ rfl h20
    have ht : ∃ t0 : Nat, (tyl V)[t0]? = some (vA V (kd h a).1, ety (kd h a).1) := by
      have : (kd h a).1 = 20 ∨ (kd h a).1 = 21 ∨ (kd h a).1 = 22 ∨ (kd h a).1 = 23 ∨ (kd h a).1 = 24 ∨ (kd h a).1 = 25 ∨ (kd h a).1 = 26 := by omega
      rcases this with e | e | e | e | e | e | e <;> rw [e]
      · exact ⟨0, rfl⟩
      · exact ⟨1, rfl⟩
      · exact ⟨2, rfl⟩
      · exact ⟨3, rfl⟩
      · exact ⟨4, rfl⟩
      · exact ⟨5, rfl⟩
      · exact ⟨6, rfl⟩
    obtain ⟨t0, ht⟩ := ht
    refine W.alen C.1 C.2.1 hcell ((K.1.2 t0 _ ht).1 _ _) (n := Int32.ofNat (kd h a).2) ?_ rfl rfl hd (kk p l e s m args below meth c9 H locs ls C K R L hl9)
    rw [arrV_size]
  · cases hg
/-! what a method makes -/
theorem WP.new {c idx : Nat} (hd : DC X pc 3 q (.new idx)) (h1c : 1 ≤ c) (h9 : c ≤ 9) (w1 : Cond.classLink (mY X).cls idx (clR c) ∈ gTbl) (w2 : Cond.instantiable (clR c) (nfd c) ∈ gTbl) (w3 : Cond.initialized (clR c) ∈ gTbl) (hcl : cl + 1 ≤ mM X) (hsl : sl + nfd c ≤ mS X) (hdf : ∀ k, k < nfd c → defaultValue (fty c k) = tval (nw h c 0) (fty c k) (hz h) k)
    (kk : WP V X q lv (.ref (hz h) :: st) (nw h c 0) (cl + 1) (sl + nfd c) v h') : WP V X pc lv st h cl sl v h' := by
  obtain ⟨hd, rfl⟩ := hd
  intro p l e s m args below meth c9 H locs ls C K R L hl9
  have Q := clq h1c h9
  have hts := C.2.2.2.2.2.1
  have hKn := K.1.1 (c - 1) _ Q.1
  refine W.newcK C.1 C.2.1 C.2.2.2.2.1 (hts _ w1) (hts _ w2) (hts _ w3) rfl hd hcl hsl hKn.2.1 R.1 fun H1 kC hkC e1 z1 o1 => ?_
  refine kk p l e s m args below meth c9 H1 locs ls C K (R.push z1 o1 (fun _ _ => ?_) (fun h20 => by omega)) L hl9
  exact (u_born (fty c) hts Q.2.1 hKn hkC e1 Q.2.2.1).to hdf
theorem WP.newarr {c most : Nat} {n : Int32} {at9 : ArrayType} {h1 : HA} (hd : DC X pc 2 q (.newarray at9)) (h20 : 20 ≤ c) (h26 : c ≤ 26) (hty : newarray.typeOf at9 = ety c) (w1 : Cond.arrayClass (ety c) ∈ gTbl) (hg : nA h c n most = some h1) (hby : most * componentBytes (ety c) ≤ 536870912) (hnm : ∀ s : State, SK V s → s.vm.findClass ("[" ++ (ety c).toString) = some (vA V c)) (hcl : cl + 1 ≤ mM X) (hsl : sl + most ≤ mS X) (hdf : ∀ k, defaultValue (ety c) = tval (nw h c n.toNatClampNeg) (ety c) (hz h) k)
    (kk : WP V X q lv (.ref (hz h) :: st) h1 (cl + 1) (sl + most) v h') : WP V X pc lv (.int n :: st) h cl sl v h' := by
  obtain ⟨hd, rfl⟩ := hd
  unfold nA at hg
  split at hg
  · rename_i hn
    cases Option.some.inj hg
    intro p l e s m args below meth c9 H locs ls C K R L hl9
    have hts := C.2.2.2.2.2.1
    have hN : n.toNatClampNeg ≤ most := by
      have : n.toNatClampNeg = n.toInt.toNat := rfl
      omega
    refine va_newaK (N := n.toNatClampNeg) C.1 C.2.1 (by rw [hty]; exact hts _ w1) rfl hd rfl (by rw [Int32.lt_iff_toInt_lt]; simp; omega) rfl (by rw [hty]; exact Nat.le_trans (Nat.mul_le_mul_right _ hN) hby) hcl (by show sl + n.toNatClampNeg ≤ mS X; omega) R.1 fun H1 cA e1 z1 o1 hAr hNm => ?_
    rw [hty] at hNm e1
    have hcA : cA = vA V c := Option.some.inj (hNm.symm.trans (hnm s K))
    subst hcA
    refine W.widen (Nat.le_refl _) (show sl + n.toNatClampNeg ≤ sl + most by omega) ?_
    refine kk p l e s m args below meth c9 H1 locs ls C K (R.push z1 o1 (fun _ _ => by omega) (fun _ => ⟨h26, ?_⟩)) L hl9
    rw [e1]
    congr 2
    funext k
    exact hdf k
  · cases hg
end ROWS2
