def h00 (b : Nat) : HA := ((fun _ => (0, 0)), (fun _ _ => 0), (fun _ _ => 0), (fun _ _ => none), b)
/-- the claims of the start, as one list -/
def fl0 : List Cond := flatC (Jvm.Cond.and given_1 narrow_1)
def stT (k : Nat) : Term := .static "OneEared$Reader" (stF k) "[I"
def txT (k : Nat) : Term := .string "OneEared$Reader" (txN.getD k 0)
set_option maxRecDepth 100000 in
theorem s0_arr : ∀ k, k < 4 → Cond.arrayOf (stT k) .int ∈ fl0 := by decide +kernel
set_option maxRecDepth 100000 in
theorem s0_len : ∀ k, k < 4 → Cond.eq (.length (stT k)) (.int (Int32.ofNat (stN k))) ∈ fl0 := by decide +kernel
set_option maxRecDepth 100000 in
theorem s0_el : ∀ k, k < 4 → ∀ j, j < stN k → Cond.eq (.elem (stT k) (.int (Int32.ofNat j))) (.int (stI k j)) ∈ fl0 := by decide +kernel
set_option maxRecDepth 100000 in
theorem s0_cs : Cond.eq (.static "java/lang/String" "COMPACT_STRINGS" "Z") (.int 1) ∈ fl0 := by decide +kernel
set_option maxRecDepth 100000 in
theorem s0_sf : Cond.isRef (.static "jdk/internal/util/Preconditions" "SIOOBE_FORMATTER" "Ljava/util/function/BiFunction;") ∈ fl0 := by decide +kernel
set_option maxRecDepth 100000 in
theorem t0_ex : ∀ k, k < 12 → Cond.exactly (txT k) "java/lang/String" ∈ fl0 := by decide +kernel
set_option maxRecDepth 100000 in
theorem t0_co : ∀ k, k < 12 → Cond.eq (.field (txT k) "java/lang/String" "coder" "B") (.int 0) ∈ fl0 := by decide +kernel
set_option maxRecDepth 100000 in
theorem t0_ar : ∀ k, k < 12 → Cond.arrayOf (.field (txT k) "java/lang/String" "value" "[B") .byte ∈ fl0 := by decide +kernel
set_option maxRecDepth 100000 in
theorem t0_le : ∀ k, k < 12 → Cond.eq (.length (.field (txT k) "java/lang/String" "value" "[B")) (.int (Int32.ofNat (txL.getD k 0))) ∈ fl0 := by decide +kernel
set_option maxRecDepth 100000 in
theorem t0_el : ∀ k, k < 12 → ∀ j, j < txL.getD k 0 → Cond.eq (.elem (.field (txT k) "java/lang/String" "value" "[B") (.int (Int32.ofNat j))) (.int ((txB.getD k []).getD j 0)) ∈ fl0 := by decide +kernel
set_option maxRecDepth 100000 in
theorem t0_ne : ∀ i, i < 12 → ∀ j, j < 12 → i < j → Cond.not (Cond.eq (txT i) (txT j)) ∈ fl0 := by decide +kernel
/-! words of the tables -/
set_option maxRecDepth 100000 in
theorem w0_ls : ∀ k, k < 4 → Cond.laysStatic "OneEared$Reader" (stF k) "[I" ∈ tables_1 := by decide +kernel
set_option maxRecDepth 100000 in
theorem w0_lc : Cond.laysStatic "java/lang/String" "COMPACT_STRINGS" "Z" ∈ tables_1 := by decide +kernel
set_option maxRecDepth 100000 in
theorem w0_lq : Cond.laysStatic "jdk/internal/util/Preconditions" "SIOOBE_FORMATTER" "Ljava/util/function/BiFunction;" ∈ tables_1 := by decide +kernel
set_option maxRecDepth 100000 in
theorem w0_in : ∀ C ∈ ["OneEared$Reader", "java/lang/String", "jdk/internal/util/Preconditions"], Cond.initialized C ∈ tables_1 := by decide +kernel
set_option maxRecDepth 100000 in
theorem w0_sr : ∀ k, k < 12 → Cond.stringRef "OneEared$Reader" (txN.getD k 0) (txS.getD k "") ∈ tables_1 := by decide +kernel
set_option maxRecDepth 100000 in
theorem w0_ao : ∀ C ∈ ["OneEared$Told", "OneEared$Court", "OneEared$Listing"], Cond.arrayOver (.object C) ∈ tables_1 := by decide +kernel
set_option maxRecDepth 100000 in
theorem w0_ac : ∀ c, 20 ≤ c → c < 24 → Cond.arrayClass (ety c) ∈ tables_1 := by
  intro c h1 h2
  have : c = 20 ∨ c = 21 ∨ c = 22 ∨ c = 23 := by omega
  rcases this with rfl | rfl | rfl | rfl <;> decide +kernel
set_option maxRecDepth 100000 in
theorem w0_it : ∀ c, c < 10 → 1 ≤ c → Cond.instantiable (clR c) (nfd c) ∈ tables_1 := by decide +kernel
theorem stN_lt {k : Nat} (hk : k < 4) : stN k < 2 ^ 31 := by
  have : k = 0 ∨ k = 1 ∨ k = 2 ∨ k = 3 := by omega
  rcases this with rfl | rfl | rfl | rfl <;> decide
/-- the machine at the law's entry, as our own picture has it -/
theorem start_env {p : Program} {s : State} {m : MethodId} {meth : Method} {c : Code} {b L : Nat} {xs : Nat → Int32} (C0 : lw_At p s m meth c b L xs) : ∃ V : EV, vL V = L ∧ vE V 9 = b ∧ vB V = s.heap.size ∧ SK V s ∧ HRel V (h00 (vB V)) s.heap := by
  obtain ⟨hx, hb, hr, hml, hown, hts, hX, hbl, hlocks, hgv⟩ := C0
  have hs : ∀ w ∈ fl0, w.before #[Value.ref b] s = true := fun w hw => flat_of_before _ hgv w hw
  have ht : ∀ w ∈ tables_1, w.before #[Value.ref b] s = true := fun w hw => hts w (List.mem_append_right _ hw)
  have hg : ∀ w ∈ gTbl, w.before #[Value.ref b] s = true := fun w hw => hts w (List.mem_filter.mp hw).1
  have hA : ∀ a : Nat, a < s.heap.size → ¬ (fun q => s.heap.size ≤ q) a := fun a h1 h2 => absurd h1 (Nat.not_lt.mpr h2)
  -- classes
  have hcl : ∀ i : Nat, ∃ q : ClassId × (Nat → Nat), i < 9 → u_Kn s (clR (i + 1)) (clT (i + 1)) (nfd (i + 1)) q.1 q.2 := by
    intro i
    by_cases hi : i < 9
    · have Q := clq (c := i + 1) (by omega) (by omega)
      obtain ⟨cC, iS, hk⟩ := u_known hg Q.2.1 (ht _ (w0_it (i + 1) (by omega) (by omega)))
      exact ⟨(cC, iS), fun _ => hk⟩
    · exact ⟨(0, fun _ => 0), fun h => absurd h hi⟩
  obtain ⟨fC, hfC⟩ := Classical.axiomOfChoice hcl
  have harr : ∀ c : Nat, ∃ cA : ClassId, 20 ≤ c → c ≤ 26 → ArrOfT s cA (ety c) ∧ va_RA s cA (ety c) := by
    intro c
    by_cases h1 : 20 ≤ c ∧ c < 24
    · obtain ⟨cA, kA, comp, e1, e2, e3⟩ := Cond.arrayClass_spec (ht _ (w0_ac c h1.1 h1.2))
      refine ⟨cA, fun _ _ => ⟨fun n z => ⟨fun k h => (by cases h), kA, e2, comp, e3⟩, ?_⟩⟩
      have : c = 20 ∨ c = 21 ∨ c = 22 ∨ c = 23 := by omega
      rcases this with rfl | rfl | rfl | rfl <;> exact e1
    · by_cases h2 : 24 ≤ c ∧ c ≤ 26
      · have key : ∀ C9, C9 ∈ ["OneEared$Told", "OneEared$Court", "OneEared$Listing"] → ety c = .object C9 → ∃ cA : ClassId, 20 ≤ c → c ≤ 26 → ArrOfT s cA (ety c) ∧ va_RA s cA (ety c) := by
          intro C9 hC hety
          obtain ⟨comp, cA, kA, e1, e2, e3, e4, e5⟩ := Cond.arrayOver_spec (ht _ (w0_ao C9 hC))
          rw [hety]
          exact ⟨cA, fun _ _ => ⟨fun n z => ⟨fun k h => (by cases h), kA, e3, comp, e4⟩, kA, comp, e3, e4, e1, e5⟩⟩
        have : c = 24 ∨ c = 25 ∨ c = 26 := by omega
        rcases this with rfl | rfl | rfl
        · exact key _ (by decide) rfl
        · exact key _ (by decide) rfl
        · exact key _ (by decide) rfl
      · exact ⟨0, fun a b => by omega⟩
  obtain ⟨fA, hfA⟩ := Classical.axiomOfChoice harr
  -- static rows
  have hst : ∀ k : Nat, ∃ t : Nat, k < 4 → (stT k).eval #[Value.ref b] s none [] s = some (.ref t) ∧ va_T .int t (stN k) (fun j => .int (stI k j)) (fun q => s.heap.size ≤ q) s s.heap := by
    intro k
    by_cases hk : k < 4
    · obtain ⟨t, e1, e2⟩ := va_Tof (f := fun j => .int (stI k j)) (A := fun q => s.heap.size ≤ q) (N := stN k) (stN_lt hk) (hs _ (s0_arr k hk)) (va_eqt (hs _ (s0_len k hk))) (fun j hj => va_eqt (hs _ (s0_el k hk j hj))) hA
      exact ⟨t, fun _ => ⟨e1, e2⟩⟩
    · exact ⟨0, fun h => absurd h hk⟩
  obtain ⟨fS, hfS⟩ := Classical.axiomOfChoice hst
  -- texts
  obtain ⟨adK, adV, hS, hT⟩ := vk_Sof (s := s) (args := #[Value.ref b]) (N := 12) (tm := txT) (len := txL) (byt := txB) (A := fun q => s.heap.size ≤ q) (by decide) (fun i hi => hs _ (t0_ex i hi)) (fun i hi => hs _ (t0_co i hi)) (fun i hi => hs _ (t0_ar i hi)) (fun i hi => hs _ (t0_le i hi)) (fun i hi j hj => hs _ (t0_el i hi j hj))
    (fun i j hi hj hij => by
      rcases Nat.lt_or_gt_of_ne hij with h | h
      · exact Or.inl (hs _ (t0_ne i hi j hj h))
      · exact Or.inr (hs _ (t0_ne j hj i hi h))) hA
  let E : Nat → Nat := fun k => if k < 4 then fS k else if k = 9 then b else if 10 ≤ k ∧ k < 30 then adK (k - 10) else adV (k - 30)
  refine ⟨((fun i => (fC i).1, fun i => (fC i).2), fA, E, s.heap.size, s.heap, L, xs), rfl, rfl, rfl, ?_, ?_⟩
  · refine ⟨⟨?_, ?_⟩, ?_, ?_, ?_, ?_, ?_, ?_, ?_, ?_, ?_, rfl⟩
    · intro i q hq
      have hi : i < 9 := (List.getElem?_eq_some_iff.mp hq).1
      have Q := clq (c := i + 1) (by omega) (by omega)
      have e : q = (clR (i + 1), clT (i + 1), nfd (i + 1)) := Option.some.inj (hq.symm.trans Q.1)
      subst e
      exact hfC i hi
    · intro k q hq
      have hk : k < 7 := (List.getElem?_eq_some_iff.mp hq).1
      have : k = 0 ∨ k = 1 ∨ k = 2 ∨ k = 3 ∨ k = 4 ∨ k = 5 ∨ k = 6 := by omega
      rcases this with rfl | rfl | rfl | rfl | rfl | rfl | rfl
      · cases hq; exact hfA 20 (by decide) (by decide)
      · cases hq; exact hfA 21 (by decide) (by decide)
      · cases hq; exact hfA 22 (by decide) (by decide)
      · cases hq; exact hfA 23 (by decide) (by decide)
      · cases hq; exact hfA 24 (by decide) (by decide)
      · cases hq; exact hfA 25 (by decide) (by decide)
      · cases hq; exact hfA 26 (by decide) (by decide)
    · intro k hk
      have e : E k = fS k := if_pos hk
      obtain ⟨e1, e2⟩ := hfS k hk
      refine ⟨?_, ?_⟩
      · show va_Z _ _ _ (.ref (E k)) _ _ _
        rw [e]
        exact va_Zref (ht _ (w0_ls k hk)) (ht _ (w0_in _ (by decide))) e1 hA
      · show va_T _ (E k) _ _ _ _ _
        rw [e]
        exact e2
    · exact va_Zof (ht _ w0_lc) (ht _ (w0_in _ (by decide))) (va_eqt (hs _ s0_cs)) hA
    · exact va_Zqof (ht _ w0_lq) (ht _ (w0_in _ (by decide))) (hs _ s0_sf) hA
    · refine ⟨fun i hi => ?_, fun i j hi hj e => ?_⟩
      · have e1 : E (10 + i) = adK i := by
          show (if _ then _ else _) = _
          rw [if_neg (by omega), if_neg (by omega), if_pos (by omega), Nat.add_sub_cancel_left]
        have e2 : E (30 + i) = adV i := by
          show (if _ then _ else _) = _
          rw [if_neg (by omega), if_neg (by omega), if_neg (by omega), Nat.add_sub_cancel_left]
        have h := hS.1 i hi
        rw [← e1, ← e2] at h
        exact h
      · have ei : ∀ i, i < 12 → E (10 + i) = adK i := by
          intro i hi
          show (if _ then _ else _) = _
          rw [if_neg (by omega), if_neg (by omega), if_pos (by omega), Nat.add_sub_cancel_left]
        have e' : adK i = adK j := (ei i hi).symm.trans (e.trans (ei j hj))
        exact hS.2 i j hi hj e'
    · intro k hk
      have e1 : E (10 + k) = adK k := by
        show (if _ then _ else _) = _
        rw [if_neg (by omega), if_neg (by omega), if_pos (by omega), Nat.add_sub_cancel_left]
      show vk_R _ _ _ (E (10 + k)) _
      rw [e1]
      have h1 := ht _ (w0_sr k hk)
      have h2 := hT k hk
      exact vk_R.of h1 h2
    · exact hX
    · intro w hw hn
      refine va_Nw.of ?_ (hts w hw)
      unfold isNest at hn
      split at hn
      · rfl
      · cases hn
    · exact fun C hC => va_AO.of (ht _ (w0_ao C hC))
    · exact hbl
  · refine ⟨rfl, Nat.le_refl _, fun _ _ => rfl, fun a c hc h1 _ => ?_, fun a c hc h20 => ?_⟩
    · have : (0 : Nat) = c := hc
      omega
    · have : (0 : Nat) = c := hc
      omega
/-- the law's walk from its entry, once its function answers 1 -/
theorem start_of (hp : ∀ V : EV, vL V ≤ 3072 → ∃ hR, L_law V (h00 (vB V)) = some (1, hR)) {p : Program} {e : Env} {s : State} {m : MethodId} {below : List Frame} {meth : Method} {c : Code} (l : Launch) {b L : Nat} {xs : Nat → Int32} (hL : L ≤ 3072) (C0 : lw_At p s m meth c b L xs) : W p l e room_1 s m #[Value.ref b] below meth c s.heap [] 0 0 (lw_Z below #[Value.ref b] s) (entryFrame m ([Value.ref b] : List Value).toArray 4) := by
  obtain ⟨V, e1, e2, e3, hK, hR⟩ := start_env C0
  obtain ⟨hx, hb, hr, hml, hown, hts, hX, hbl, hlocks, hgv⟩ := C0
  obtain ⟨h', hlaw⟩ := hp V (by omega)
  have C : Cx M_L_law p s m #[Value.ref b] meth c := ⟨hx, hb, hr, hml, hown, fun w hw => hts w (List.mem_filter.mp hw).1, hlocks, fun h => absurd h (by decide)⟩
  have hw := okw_L_law V hlaw
  rw [lg_entry_eq]
  have hl := lv_entry [Value.ref b] (n := 4) (Nat.le_of_ble_eq_true rfl)
  have hl' : lv_has ((lg_sl [Value.ref b] ++ List.replicate (4 - (lg_sl [Value.ref b]).length) Slot.unset).toArray) 4 [(0, .ref (vE V 9))] := by rw [e2]; exact hl
  have hW := hw p l e s m #[Value.ref b] below meth c s.heap [] _ C hK hR (fun q hq => by cases hq) hl'
  intro T hT X
  obtain ⟨t, a1, o, b1, b2, ⟨b3, b4⟩, L9, b5, b6⟩ := hW T hT X
  refine ⟨t, a1, o, b1, b2, b3, b5.1, b5.2.1, ?_⟩
  exact b5.2.2.weaken (fun y hy hlt => absurd hlt (Nat.not_lt.mpr (by rw [← e3]; exact b6 y hy))) (Nat.le_refl _) (Nat.le_refl _)
