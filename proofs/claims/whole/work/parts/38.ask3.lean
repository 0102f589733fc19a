theorem loop_fst {β : Type} (L : Nat → Nat → Option β) (p : Nat → Bool) (g : Nat → Option β) (N : Nat) (hit : ∀ k fu, k < N → p k = true → L (fu + 1) k = g k) (miss : ∀ k fu, k < N → p k = false → L (fu + 1) k = L fu (k + 1))
    (fin : ∀ fu, L (fu + 1) N = g 1000) (fu : Nat) (hf : N < fu) : L fu 0 = g (fst1 p N 0) := by
  have key : ∀ n k fu, k + n = N → n < fu → L fu k = g (fst1 p n k) := by
    intro n
    induction n with
    | zero =>
      intro k fu hk hfu
      obtain ⟨q, rfl⟩ : ∃ q, fu = q + 1 := ⟨fu - 1, by omega⟩
      have : k = N := by omega
      subst this; exact fin q
    | succ n ih =>
      intro k fu hk hfu
      obtain ⟨q, rfl⟩ : ∃ q, fu = q + 1 := ⟨fu - 1, by omega⟩
      rw [fst1]
      cases hp : p k with
      | true => rw [if_pos rfl]; exact hit k q (by omega) hp
      | false => rw [if_neg (by simp), miss k q (by omega) hp]; exact ih (k + 1) q (by omega) (by omega)
  exact key N 0 fu (by omega) hf
def hc1 (C : CR) (a l : Nat) : Nat := cnt (fun f => hj C a 0 l f) 64
def hc2 (C : CR) (a b l : Nat) : Nat := cnt (fun f => hj C a 0 l f && hj C b 0 l f) 64
def qecho (D : DT) (x y z l : Int32) : Int32 := if (rg x (dN D 0) && rg l 10) = true then
  (let C := dC D (tn x); if (y = -1 ∧ z = -1) then nI (bd C 0 (tn l)) else if rg y (cJ C) = false then -1 else if z = -1 then nI (hc1 C (tn y) (tn l)) else if rg z (cJ C) = false then -1 else if y = z then -1 else nI (hc2 C (tn y) (tn z) (tn l))) else -1
theorem rg_m1 (n : Nat) : rg (-1) n = false := neg_rg m1_lt0 n
theorem c_echo {h : HA} {b : Nat} {D : DT} {α : Nat → Nat} {lm : Nat → Nat → Nat} {im : Nat → Option (Nat × DT)} (hi : IV h b D α lm im) (x y z l : Int32) : AC b D α lm im (X7_echo h b x y z l) (qecho D x y z l) := by
  unfold X7_echo qecho
  rw [if_pos (fx_c hi.1)]
  rcases courtAt_ok hi x with ⟨h1, h2⟩ | ⟨a, h1, ha, rfl, hr, e1, i1, l1⟩
  · rw [h2, h1]; exact ⟨h, rfl, hi⟩
  · rw [e1, hr, tnD (iv_w hi) ha]
    have cc := l1.1
    have hw := cc.2.1.1
    have hF := cF_le hw
    have h6 := hw.2.2.1.1
    refine ⟨h1, ?_, i1⟩
    simp only [Option.bind_some, Bool.true_and, hasJudge_c cc, isLoud_c]
    cases hl : rg l 10 with
    | false => rfl
    | true =>
      obtain ⟨s, hs2, rfl⟩ := (rg_iff (by omega)).mp hl
      simp only [bi_t, if_false, if_true]
      rw [tn_nI (show s < 2 ^ 31 by omega)]
      by_cases hyz : y = -1 ∧ z = -1
      · obtain ⟨rfl, rfl⟩ := hyz
        simp only [if_true, and_self]
        rw [show X0_blind h1 (α a) 0 (nI s) = _ from blind_c (hour := 0) l1 hs2]; rfl
      · rw [if_neg hyz]
        have e2 : (if y = -1 then if z = -1 then (X0_blind h1 (α a) 0 (nI s)).bind fun x10 => some (Sum.inl (x10, h1)) else some (Sum.inr ()) else some (Sum.inr ()) : Option ((Int32 × HA) ⊕ Unit)) = some (Sum.inr ()) := by
          by_cases h1 : y = -1
          · rw [if_pos h1, if_neg (fun z1 => hyz ⟨h1, z1⟩)]
          · rw [if_neg h1]
        rw [e2, Option.bind_some]
        cases hy : rg y (cJ (dC D a)) with
        | false => rfl
        | true =>
          obtain ⟨q, hq, rfl⟩ := (rg_iff (by omega)).mp hy
          obtain ⟨X, hX, hXb⟩ := aud (hour := 0) l1 hq hs2
          simp only [bi_t, if_false]
          rw [show X0_audible h1 (α a) (nI q) 0 (nI s) = _ from hX, Option.bind_some, tn_nI (show q < 2 ^ 31 by omega)]
          by_cases hz1 : z = -1
          · simp only [if_pos hz1]
            rw [bc_n]
            show some (nI (cnt (tb X) 64), h1) = some (nI (hc1 _ _ _), h1)
            congr 3
            exact cnt_cong hXb
          · simp only [if_neg hz1]
            cases hz : rg z (cJ (dC D a)) with
            | false => rfl
            | true =>
              obtain ⟨r, hr2, rfl⟩ := (rg_iff (by omega)).mp hz
              obtain ⟨Y, hY, hYb⟩ := aud (hour := 0) l1 hr2 hs2
              simp only [bi_t, if_false]
              by_cases e3 : q = r
              · subst e3; simp only [if_true]; rfl
              · have e4 : ¬ nI q = nI r := fun z => e3 (nI_inj (by omega) (by omega) z)
                rw [if_neg e4, show X0_audible h1 (α a) (nI r) 0 (nI s) = _ from hY, Option.bind_some, bc_n, Option.bind_some, if_neg (by simp), if_neg e4, tn_nI (show r < 2 ^ 31 by omega)]
                congr 3
                exact cnt_cong (fun f hf => by rw [tb_and, hXb f hf, hYb f hf])
theorem echo91 {h : HA} {m c q s : Nat} {z : Int32} {C : CR} (ht : HT h m c C) (hj1 : WFj C) (hq : q < cJ C) (hs : s < 10) (g : Nat → Bool)
    (hz : (z = -1 ∧ ∀ f, g f = hj C q 0 s f) ∨ (∃ r, r < cJ C ∧ z = nI r ∧ ∀ f, g f = (hj C q 0 s f && hj C r 0 s f))) : X8_echo_L91 h m (nI q) z (nI s) FU 0 0 = some (nI (cnt g 64)) := by
  have hF := cF_le ht.1.2.1
  have h6 := ht.1.2.1.2.2.1.1
  have hgo : ∀ f, g f = true → op C f = true := by
    intro f hf
    rcases hz with ⟨_, h2⟩ | ⟨r, _, _, h2⟩
    · rw [h2] at hf; exact hj_op hf
    · rw [h2, Bool.and_eq_true] at hf; exact hj_op hf.1
  have hl2 := loop_st (fun fu k (a : Int32) => X8_echo_L91 h m (nI q) z (nI s) fu a (nI k)) (fun k => nI (cnt g k)) (some (nI (cnt g 64))) (cF C) (fun k fu hk => by
    try simp only []
    rw [X8_echo_L91, ms_I ht.1.1, ht.1.2.2.2.2.2.2.1, Option.bind_some, if_pos (lt_lit hk (by omega)), isWall_n ht.1 (by omega), Option.bind_some, nI_p1, nI_p1, Int32.add_zero]
    rw [show cnt g (k + 1) = cnt g k + (if g k = true then 1 else 0) from rfl]
    have hg := hgo k
    rw [op_nw hk] at hg
    cases hwl : wl C k with
    | true =>
      rw [hwl] at hg
      have : g k = false := by
        cases e : g k
        · rfl
        · exact absurd (hg e) (by decide)
      rw [if_neg (by decide), this]; rfl
    | false =>
      rw [if_pos (by decide), show X8_hears h m (nI q) (nI k) 0 (nI s) = _ from hears_n (hour := 0) ht hj1 hq hk (by omega) (by omega), Option.bind_some]
      rcases hz with ⟨rfl, h2⟩ | ⟨r, hr, rfl, h2⟩
      · rw [h2 k]
        cases hj C q 0 s k
        · rw [if_pos (by decide)]; rfl
        · rw [if_neg (by decide), if_pos rfl]; rfl
      · rw [h2 k]
        cases hj C q 0 s k
        · rw [if_pos (by decide)]; rfl
        · rw [if_neg (by decide), if_neg (nI_nm1 (by omega)), show X8_hears h m (nI r) (nI k) 0 (nI s) = _ from hears_n (hour := 0) ht hj1 hr hk (by omega) (by omega), Option.bind_some]
          cases hj C r 0 s k
          · rw [if_pos (by decide)]; rfl
          · rw [if_neg (by decide)]; rfl)
    (fun fu => by
      try simp only []
      rw [X8_echo_L91, ms_I ht.1.1, ht.1.2.2.2.2.2.2.1, Option.bind_some, if_neg (nlt_lit (Nat.le_refl _) (by omega))]
      rw [cnt_ext hF (fun i h1 _ => by
        cases e : g i
        · rfl
        · have := hgo i e; rw [op_ge h1] at this; simp at this)]) FU (FU_gt (by omega))
  exact hl2
theorem m_echo {h : HA} {b : Nat} {D : DT} {α : Nat → Nat} {lm : Nat → Nat → Nat} {im : Nat → Option (Nat × DT)} (hi : IV h b D α lm im) (x y z l : Int32) : AC b D α lm im (X8_echo h (b + 55) x y z l) (qecho D x y z l) := by
  unfold X8_echo qecho
  rw [if_pos (ms_c (iv_ms hi)), ms_p (iv_ms hi), Option.bind_some, in9, Option.bind_some]
  have hi0 := IV_m0 hi 0 0
  cases hl : rg l 10 with
  | false => exact ⟨_, by simp only [bi_f, if_true, Bool.and_false]; rfl, hi0⟩
  | true =>
    simp only [bi_t, if_false, Bool.and_true]
    obtain ⟨s, hs2, rfl⟩ := (rg_iff (by omega)).mp hl
    rcases hand_ok hi0 x with ⟨h1, h2⟩ | ⟨a, h1, ha, rfl, hr, e1, i1, t1⟩
    · rw [h2, h1, Option.bind_some]
      exact ⟨_, by simp only [if_true]; rfl, hi0⟩
    · have hw := (iv_w hi).2.2.1 a ha
      have hF := cF_le hw.1
      have h6 := hw.1.2.2.1.1
      rw [e1, hr, tnD (iv_w hi) ha, Option.bind_some]
      refine ⟨h1, ?_, i1⟩
      simp only [if_neg (show ¬ (1 : Int32) = 0 by decide), isJudge_n t1.1, Option.bind_some, if_true]
      rw [tn_nI (show s < 2 ^ 31 by omega)]
      by_cases hy1 : y = -1
      · subst hy1
        simp only [if_true, Option.bind_some, true_and, rg_m1]
        by_cases hz1 : z = -1
        · subst hz1
          simp only [if_true, Option.bind_some]
          rw [show X8_blind h1 (b + 55) 0 (nI s) = _ from blind_n (hour := 0) t1 hw.2.1 (by omega) (by omega), Option.bind_some]
        · have hz2 : ¬ -1 = z := fun e => hz1 e.symm
          simp only [if_neg hz1, if_neg hz2]
          cases hz : rg z (cJ (dC D a)) <;> rfl
      · simp only [if_neg hy1, show ¬ (y = -1 ∧ z = -1) from fun e => hy1 e.1, if_false]
        cases hy : rg y (cJ (dC D a)) with
        | false => rfl
        | true =>
          obtain ⟨q, hq, rfl⟩ := (rg_iff (by omega)).mp hy
          simp only [bi_t, if_false, Option.bind_some]
          rw [tn_nI (show q < 2 ^ 31 by omega)]
          by_cases hz1 : z = -1
          · subst hz1
            simp only [if_true, Option.bind_some, hy1, if_false]
            rw [echo91 t1 hw.2.1 hq hs2 (fun f => hj (dC D a) q 0 s f) (Or.inl ⟨rfl, fun _ => rfl⟩)]; rfl
          · simp only [if_neg hz1]
            cases hz : rg z (cJ (dC D a)) with
            | false => rfl
            | true =>
              obtain ⟨r, hr2, rfl⟩ := (rg_iff (by omega)).mp hz
              simp only [bi_t, if_false, Option.bind_some]
              by_cases e3 : q = r
              · subst e3; simp only [if_true, hy1, if_false]; rfl
              · have e4 : ¬ nI q = nI r := fun z => e3 (nI_inj (by omega) (by omega) z)
                simp only [e4, if_false, Option.bind_some]
                rw [echo91 t1 hw.2.1 hq hs2 (fun f => hj (dC D a) q 0 s f && hj (dC D a) r 0 s f) (Or.inr ⟨r, hr2, rfl, fun _ => rfl⟩), tn_nI (show r < 2 ^ 31 by omega)]; rfl
def hsh (C : CR) (f t n : Nat) : Nat := fst1 (fun l => decide (n ≤ pc (ea C f t l))) 10 0
def qhush (D : DT) (x f t n : Int32) : Int32 := if (rg x (dN D 0) && (fo (dC D (tn x)) f && (rg t 100 && rg2 n 1 6))) = true then onk (hsh (dC D (tn x)) (tn f) (tn t) (tn n)) else -1
theorem hsh_lt (C : CR) (f t n : Nat) : hsh C f t n < 10 ∨ hsh C f t n = 1000 := by
  unfold hsh
  rcases fst1_spec (fun l => decide (n ≤ pc (ea C f t l))) 10 0 with ⟨i, h1, h2, _, _, h5⟩ | ⟨_, h2⟩
  · left; omega
  · right; exact h2
theorem c_hush {h : HA} {b : Nat} {D : DT} {α : Nat → Nat} {lm : Nat → Nat → Nat} {im : Nat → Option (Nat × DT)} (hi : IV h b D α lm im) (x f t n : Int32) : AC b D α lm im (X7_hush h b x f t n) (qhush D x f t n) := by
  unfold X7_hush qhush
  rw [if_pos (fx_c hi.1)]
  rcases courtAt_ok hi x with ⟨h1, h2⟩ | ⟨a, h1, ha, rfl, hr, e1, i1, l1⟩
  · rw [h2, h1]; exact ⟨h, rfl, hi⟩
  · rw [e1, hr, tnD (iv_w hi) ha]
    have cc := l1.1
    have hw := cc.2.1.1
    have hF := cF_le hw
    refine ⟨h1, ?_, i1⟩
    simp only [Option.bind_some, Bool.true_and, isOpen_f cc, isHour_c]
    cases hf : fo (dC D a) f with
    | false => rfl
    | true =>
      cases ht : rg t 100 with
      | false => rfl
      | true =>
        cases hn : rg2 n 1 6 with
        | false =>
          simp only [bi_t, if_false, Bool.and_false]
          rcases rg2_lt (by omega) (by omega) hn with h2 | h2
          · rw [if_pos (show n < 1 from h2)]; rfl
          · rw [if_pos (show 6 < n from h2)]; simp
        | true =>
          obtain ⟨g, g1, g2, rfl⟩ := (fo_iff hw).mp hf
          obtain ⟨r, hr2, rfl⟩ := (rg_iff (by omega)).mp ht
          obtain ⟨w, w1, w2, rfl⟩ := (rg2_iff (by omega)).mp hn
          simp only [bi_t, if_false, Bool.and_self, if_true]
          rw [if_neg (show ¬ nI w < 1 from nlt_lit (n := 1) w1 (by omega)), if_neg (show ¬ 6 < nI w from fun z => by have := (lt_n (a := 6) (by omega) (by omega)).mp z; omega), tn_nI (by omega), tn_nI (by omega), tn_nI (by omega)]
          have hl := loop_fst (fun fu k => X7_hush_L46 h1 (nI g) (nI r) (nI w) (α a) fu (nI k)) (fun l => decide (w ≤ pc (ea (dC D a) g r l))) (fun k => some (onk k, h1)) 10 (fun k fu hk hp => by
              try simp only []
              have h64 := ea_64 hw g r k
              have hpc := pc_le (ea (dC D a) g r k)
              rw [X7_hush_L46, if_neg (show ¬ 9 < nI k from fun z => by have := (lt_n (a := 9) (by omega) (by omega)).mp z; omega), earsAt_c l1 (by omega) (by omega), Option.bind_some, bitc_n _ (by omega), Option.bind_some, if_neg (nlt_lit (by simpa using hp) (by omega))]
              unfold onk; rw [if_neg (by omega)])
            (fun k fu hk hp => by
              try simp only []
              have h64 := ea_64 hw g r k
              have hpc := pc_le (ea (dC D a) g r k)
              rw [X7_hush_L46, if_neg (show ¬ 9 < nI k from fun z => by have := (lt_n (a := 9) (by omega) (by omega)).mp z; omega), earsAt_c l1 (by omega) (by omega), Option.bind_some, bitc_n _ (by omega), Option.bind_some, if_pos (lt_lit (by simpa using hp) (by omega)), nI_p1])
            (fun fu => by (try simp only []); rw [X7_hush_L46, if_pos (by decide)]; rfl) FU (FU_gt (by omega))
          exact hl
theorem m_hush {h : HA} {b : Nat} {D : DT} {α : Nat → Nat} {lm : Nat → Nat → Nat} {im : Nat → Option (Nat × DT)} (hi : IV h b D α lm im) (x f t n : Int32) : AC b D α lm im (X8_hush h (b + 55) x f t n) (qhush D x f t n) := by
  unfold X8_hush qhush
  rw [if_pos (ms_c (iv_ms hi)), ms_p (iv_ms hi), Option.bind_some, in99, Option.bind_some, show X8_in n 1 6 = _ from in_l n (l := 1) (n := 6) (by omega) (by omega)]
  have hi0 := IV_m0 hi 0 0
  cases ht : rg t 100 with
  | false => exact ⟨_, by simp only [bi_f, if_true, Bool.and_false, Bool.false_and]; rfl, hi0⟩
  | true =>
    simp only [bi_t, if_false, Bool.true_and, Option.bind_some]
    cases hn : rg2 n 1 6 with
    | false => exact ⟨_, by simp only [bi_f, if_true, Bool.and_false]; rfl, hi0⟩
    | true =>
      simp only [bi_t, if_false, Bool.and_true]
      obtain ⟨r, hr2, rfl⟩ := (rg_iff (by omega)).mp ht
      obtain ⟨w, w1, w2, rfl⟩ := (rg2_iff (by omega)).mp hn
      rcases hand_ok hi0 x with ⟨h1, h2⟩ | ⟨a, h1, ha, rfl, hr, e1, i1, t1⟩
      · rw [h2, h1, Option.bind_some]
        exact ⟨_, by simp only [if_true]; rfl, hi0⟩
      · have hw := (iv_w hi).2.2.1 a ha
        have hF := cF_le hw.1
        rw [e1, hr, tnD (iv_w hi) ha, Option.bind_some]
        refine ⟨h1, ?_, i1⟩
        simp only [if_neg (show ¬ (1 : Int32) = 0 by decide), isField_n t1.1, Option.bind_some, Bool.true_and]
        cases hf : rg f (cF (dC D a)) with
        | false => rw [fo_no hw.1 hf]; rfl
        | true =>
          obtain ⟨g, g1, rfl⟩ := (rg_iff (by omega)).mp hf
          simp only [bi_t, if_false]
          rw [isWall_n t1.1 (by omega), Option.bind_some, fo_n hw.1 (by omega), op_nw g1, tn_nI (by omega), tn_nI (by omega), tn_nI (by omega)]
          cases wl (dC D a) g
          · simp only [bi_f, if_true, Bool.not_false]
            have hl := loop_fst (fun fu k => X8_hush_L55 h1 (b + 55) (nI g) (nI r) (nI w) fu (nI k)) (fun l => decide (w ≤ pc (ea (dC D a) g r l))) (fun k => some (onk k, h1)) 10 (fun k fu hk hp => by
                try simp only []
                have h64 := ea_64 hw.1 g r k
                have hpc := pc_le (ea (dC D a) g r k)
                rw [X8_hush_L55, if_neg (show ¬ 9 < nI k from fun z => by have := (lt_n (a := 9) (by omega) (by omega)).mp z; omega), earsAt_n t1 hw.2.1 g1 (by omega) (by omega), Option.bind_some, ones_n _ (by omega), Option.bind_some, if_neg (nlt_lit (by simpa using hp) (by omega))]
                unfold onk; rw [if_neg (by omega)])
              (fun k fu hk hp => by
                try simp only []
                have h64 := ea_64 hw.1 g r k
                have hpc := pc_le (ea (dC D a) g r k)
                rw [X8_hush_L55, if_neg (show ¬ 9 < nI k from fun z => by have := (lt_n (a := 9) (by omega) (by omega)).mp z; omega), earsAt_n t1 hw.2.1 g1 (by omega) (by omega), Option.bind_some, ones_n _ (by omega), Option.bind_some, if_pos (lt_lit (by simpa using hp) (by omega)), nI_p1])
              (fun fu => by (try simp only []); rw [X8_hush_L55, if_pos (by decide)]; rfl) FU (FU_gt (by omega))
            exact hl
          · rfl
/-! rows of lists, as told -/
def qc (s : Nat) (L : CR) (k w : Int32) : Int32 := if k = -1 then (if w = 0 then nI (llen L) else -2) else if (rg k (llen L) && rg w (lwd s)) = true then L (1 + lwd s * tn k + tn w) else -2
def qcell (s : Nat) (D : DT) (x k w : Int32) : Int32 := if rg x (dN D s) = true then qc s (dR D s (tn x)) k w else -2
theorem at_c {h : HA} {a s k w : Nat} {L : CR} (hl : LL h a s L) (hL : WL s L) (hk : k < llen L) (hw : w < lwd s) : X2_at h a (nI k) (nI w) = some (L (1 + lwd s * k + w)) := by
  have h30 : lmx s ≤ 30 := by unfold lmx; split; · omega
                              · split <;> omega
  have h4 : lwd s ≤ 4 := by unfold lwd; split; · omega
                            · split <;> omega
  have hlm := hL.1
  unfold X2_at
  obtain ⟨⟨a1, a2, a3, a4⟩, a5, a6⟩ := hl
  have e : k * lwd s + lwd s ≤ llen L * lwd s := by rw [← Nat.succ_mul]; exact Nat.mul_le_mul_right _ (by omega)
  have e2 : llen L * lwd s ≤ lmx s * lwd s := Nat.mul_le_mul_right _ hlm
  have e3 : lmx s * lwd s ≤ 30 * 4 := Nat.mul_le_mul h30 h4
  rw [if_pos (by rw [a1]), gR_n a1, a3, Option.bind_some, gI_n a1, a2, Option.bind_some, nI_mul, nI_add, ldI_n a4 (by rw [Nat.mul_comm (lwd s)]; omega) (by omega), a6 _ (by rw [Nat.mul_comm (lwd s)]; omega), Option.bind_some]
  congr 2
  rw [Nat.mul_comm k]; omega
theorem cellOf_c {h : HA} {a s : Nat} {L : CR} (hl : LL h a s L) (hL : WL s L) (k w : Int32) : X7_cellOf h (some a) k w = some (qc s L k w) := by
  have h30 : lmx s ≤ 30 := by unfold lmx; split; · omega
                              · split <;> omega
  have h4 : lwd s ≤ 4 := by unfold lwd; split; · omega
                            · split <;> omega
  have hlm := hL.1
  unfold X7_cellOf qc
  have a1 := hl.1.1
  have a2 := hl.1.2.1
  dsimp only
  rw [gI_n a1, gI_n a1, hl.2.1, hL.2.1, a2]
  simp only [Option.bind_some]
  by_cases h1 : k = -1
  · rw [if_pos h1, if_pos h1]
    by_cases h2 : w = 0
    · rw [if_pos h2, if_pos h2]
    · rw [if_neg h2, if_neg h2]
  · rw [if_neg h1, if_neg h1]
    rcases i_nat k with h2 | ⟨q, hq, rfl⟩
    · rw [if_pos h2, neg_rg h2]; rfl
    · rw [if_neg (nI_lt0 hq), rg_n hq]
      by_cases h3 : q < llen L
      · rw [if_pos (lt_lit h3 (by omega))]
        rcases i_nat w with h4 | ⟨r, hr, rfl⟩
        · rw [if_pos h4, neg_rg h4, Bool.and_false]; rfl
        · rw [if_neg (nI_lt0 hr), rg_n hr]
          by_cases h5 : r < lwd s
          · rw [if_pos (lt_lit h5 (by omega)), at_c hl hL h3 h5, Option.bind_some, if_pos (by simp [h3, h5]), tn_nI hq, tn_nI hr]
          · rw [if_neg (nlt_lit (by omega) hr), if_neg (by simp [h5])]
      · rw [if_neg (nlt_lit (by omega) hq), if_neg (by simp [h3])]
theorem iv_wl {h : HA} {b : Nat} {D : DT} {α : Nat → Nat} {lm : Nat → Nat → Nat} {im : Nat → Option (Nat × DT)} (hi : IV h b D α lm im) {s j : Nat} (h1 : 1 ≤ s) (h2 : s < 4) (hj : j < dN D s) : WL s (dR D s j) := (iv_w hi).2.2.2.1 s j h1 h2 hj
theorem c_deed {h : HA} {b : Nat} {D : DT} {α : Nat → Nat} {lm : Nat → Nat → Nat} {im : Nat → Option (Nat × DT)} (hi : IV h b D α lm im) (x k w : Int32) : X7_deed h b x k w = some (qcell 1 D x k w) := by
  unfold X7_deed qcell
  rw [if_pos (fx_c hi.1)]
  rcases listAt_ok hi (s := 1) (by omega) (by omega) x with ⟨h1, h2⟩ | ⟨a, ha, rfl, hr, e1⟩
  · rw [show X7_listAt h b 1 x = _ from h2, h1]; rfl
  · have := (iv_w hi).2.1 1 (by omega)
    rw [show X7_listAt h b 1 (nI a) = _ from e1, hr, Option.bind_some, if_pos rfl, tn_nI (by omega)]
    dsimp only
    rw [cellOf_c (iv_ll hi (by omega) (by omega) ha) (iv_wl hi (by omega) (by omega) ha)]; rfl
theorem c_rule {h : HA} {b : Nat} {D : DT} {α : Nat → Nat} {lm : Nat → Nat → Nat} {im : Nat → Option (Nat × DT)} (hi : IV h b D α lm im) (x k w : Int32) : X7_rule h b x k w = some (qcell 2 D x k w) := by
  unfold X7_rule qcell
  rw [if_pos (fx_c hi.1)]
  rcases listAt_ok hi (s := 2) (by omega) (by omega) x with ⟨h1, h2⟩ | ⟨a, ha, rfl, hr, e1⟩
  · rw [show X7_listAt h b 2 x = _ from h2, h1]; rfl
  · have := (iv_w hi).2.1 2 (by omega)
    rw [show X7_listAt h b 2 (nI a) = _ from e1, hr, Option.bind_some, if_pos rfl, tn_nI (by omega)]
    dsimp only
    rw [cellOf_c (iv_ll hi (by omega) (by omega) ha) (iv_wl hi (by omega) (by omega) ha)]; rfl
theorem c_claim {h : HA} {b : Nat} {D : DT} {α : Nat → Nat} {lm : Nat → Nat → Nat} {im : Nat → Option (Nat × DT)} (hi : IV h b D α lm im) (x k w : Int32) : X7_claim h b x k w = some (qcell 3 D x k w) := by
  unfold X7_claim qcell
  rw [if_pos (fx_c hi.1)]
  rcases listAt_ok hi (s := 3) (by omega) (by omega) x with ⟨h1, h2⟩ | ⟨a, ha, rfl, hr, e1⟩
  · rw [show X7_listAt h b 3 x = _ from h2, h1]; rfl
  · have := (iv_w hi).2.1 3 (by omega)
    rw [show X7_listAt h b 3 (nI a) = _ from e1, hr, Option.bind_some, if_pos rfl, tn_nI (by omega)]
    dsimp only
    rw [cellOf_c (iv_ll hi (by omega) (by omega) ha) (iv_wl hi (by omega) (by omega) ha)]; rfl
theorem md_row {h : HA} {b : Nat} {D : DT} {α : Nat → Nat} {lm : Nat → Nat → Nat} {im : Nat → Option (Nat × DT)} (hi : IV h b D α lm im) {s j k : Nat} (h1 : 1 ≤ s) (h2 : s < 4) (hj : j < dN D s) (hk : k < lrw s) : gi h (b + 55 + (6 + s)) (lrw s * j + k) = dR D s j k := by
  have := (iv_m hi).2.2.2.2.2.2 s j k h1 h2 hj hk
  rw [show 2 * lrw s * 0 + (lrw s * j + k) = lrw s * j + k by omega] at this
  exact this
theorem deeds_n {h : HA} {b : Nat} {D : DT} {α : Nat → Nat} {lm : Nat → Nat → Nat} {im : Nat → Option (Nat × DT)} (hi : IV h b D α lm im) {a : Nat} (ha : a < dN D 1) (hg : gi h (b + 55) 38 = nI a) : X8_deeds h (b + 55) = some (nI (llen (dR D 1 a))) := by
  have hn := (iv_w hi).2.1 1 (by omega)
  unfold X8_deeds
  rw [if_pos (ms_c (iv_ms hi)), ms_r7 (iv_ms hi), Option.bind_some, ms_I (iv_ms hi), hg, Option.bind_some, show (121 : Int32) = nI 121 from rfl, nI_mul, ldI_n (ms_k7 (iv_ms hi)) (by omega) (by omega)]
  have := md_row hi (s := 1) (j := a) (k := 0) (by omega) (by omega) ha (by decide)
  rw [show lrw 1 * a + 0 = 121 * a from rfl] at this
  rw [show b + 55 + 7 = b + 55 + (6 + 1) from rfl, this, (iv_wl hi (s := 1) (by omega) (by omega) ha).2.1]; rfl
theorem deedOf_n {h : HA} {b : Nat} {D : DT} {α : Nat → Nat} {lm : Nat → Nat → Nat} {im : Nat → Option (Nat × DT)} (hi : IV h b D α lm im) {a k w : Nat} (ha : a < dN D 1) (hg : gi h (b + 55) 38 = nI a) (hk : k < 30) (hw : w < 4) : X8_deedOf h (b + 55) (nI k) (nI w) = some (dR D 1 a (1 + 4 * k + w)) := by
  have hn := (iv_w hi).2.1 1 (by omega)
  unfold X8_deedOf
  rw [if_pos (ms_c (iv_ms hi)), ms_r7 (iv_ms hi), Option.bind_some, ms_I (iv_ms hi), hg, Option.bind_some, show (121 : Int32) = nI 121 from rfl, nI_mul, show (4 : Int32) = nI 4 from rfl, nI_mul, nI_p1, nI_add, nI_add, ldI_n (ms_k7 (iv_ms hi)) (by omega) (by omega)]
  have := md_row hi (s := 1) (j := a) (k := 1 + 4 * k + w) (by omega) (by omega) ha (by show _ < 121; omega)
  rw [show lrw 1 * a + (1 + 4 * k + w) = 121 * a + 1 + 4 * k + w by show 121 * a + (1 + 4 * k + w) = _; omega] at this
  rw [show b + 55 + 7 = b + 55 + (6 + 1) from rfl, this]; rfl
theorem rules_n {h : HA} {b : Nat} {D : DT} {α : Nat → Nat} {lm : Nat → Nat → Nat} {im : Nat → Option (Nat × DT)} (hi : IV h b D α lm im) {a : Nat} (ha : a < dN D 2) (hg : gi h (b + 55) 47 = nI a) : X8_rules h (b + 55) = some (nI (llen (dR D 2 a))) := by
  have hn := (iv_w hi).2.1 2 (by omega)
  unfold X8_rules
  rw [if_pos (ms_c (iv_ms hi)), ms_r8 (iv_ms hi), Option.bind_some, ms_I (iv_ms hi), hg, Option.bind_some, show (25 : Int32) = nI 25 from rfl, nI_mul, ldI_n (ms_k8 (iv_ms hi)) (by omega) (by omega)]
  have := md_row hi (s := 2) (j := a) (k := 0) (by omega) (by omega) ha (by decide)
  rw [show lrw 2 * a + 0 = 25 * a from rfl] at this
  rw [show b + 55 + 8 = b + 55 + (6 + 2) from rfl, this, (iv_wl hi (s := 2) (by omega) (by omega) ha).2.1]; rfl
theorem ruleOf_n {h : HA} {b : Nat} {D : DT} {α : Nat → Nat} {lm : Nat → Nat → Nat} {im : Nat → Option (Nat × DT)} (hi : IV h b D α lm im) {a k w : Nat} (ha : a < dN D 2) (hg : gi h (b + 55) 47 = nI a) (hk : k < 8) (hw : w < 3) : X8_ruleOf h (b + 55) (nI k) (nI w) = some (dR D 2 a (1 + 3 * k + w)) := by
  have hn := (iv_w hi).2.1 2 (by omega)
  unfold X8_ruleOf
  rw [if_pos (ms_c (iv_ms hi)), ms_r8 (iv_ms hi), Option.bind_some, ms_I (iv_ms hi), hg, Option.bind_some, show (25 : Int32) = nI 25 from rfl, nI_mul, show (3 : Int32) = nI 3 from rfl, nI_mul, nI_p1, nI_add, nI_add, ldI_n (ms_k8 (iv_ms hi)) (by omega) (by omega)]
  have := md_row hi (s := 2) (j := a) (k := 1 + 3 * k + w) (by omega) (by omega) ha (by show _ < 25; omega)
  rw [show lrw 2 * a + (1 + 3 * k + w) = 25 * a + 1 + 3 * k + w by show 25 * a + (1 + 3 * k + w) = _; omega] at this
  rw [show b + 55 + 8 = b + 55 + (6 + 2) from rfl, this]; rfl
theorem claims_n {h : HA} {b : Nat} {D : DT} {α : Nat → Nat} {lm : Nat → Nat → Nat} {im : Nat → Option (Nat × DT)} (hi : IV h b D α lm im) {a : Nat} (ha : a < dN D 3) (hg : gi h (b + 55) 52 = nI a) : X8_claims h (b + 55) = some (nI (llen (dR D 3 a))) := by
  have hn := (iv_w hi).2.1 3 (by omega)
  unfold X8_claims
  rw [if_pos (ms_c (iv_ms hi)), ms_r9 (iv_ms hi), Option.bind_some, ms_I (iv_ms hi), hg, Option.bind_some, show (25 : Int32) = nI 25 from rfl, nI_mul, ldI_n (ms_k9 (iv_ms hi)) (by omega) (by omega)]
  have := md_row hi (s := 3) (j := a) (k := 0) (by omega) (by omega) ha (by decide)
  rw [show lrw 3 * a + 0 = 25 * a from rfl] at this
  rw [show b + 55 + 9 = b + 55 + (6 + 3) from rfl, this, (iv_wl hi (s := 3) (by omega) (by omega) ha).2.1]; rfl
theorem claimOf_n {h : HA} {b : Nat} {D : DT} {α : Nat → Nat} {lm : Nat → Nat → Nat} {im : Nat → Option (Nat × DT)} (hi : IV h b D α lm im) {a k w : Nat} (ha : a < dN D 3) (hg : gi h (b + 55) 52 = nI a) (hk : k < 12) (hw : w < 2) : X8_claimOf h (b + 55) (nI k) (nI w) = some (dR D 3 a (1 + 2 * k + w)) := by
  have hn := (iv_w hi).2.1 3 (by omega)
  unfold X8_claimOf
  rw [if_pos (ms_c (iv_ms hi)), ms_r9 (iv_ms hi), Option.bind_some, ms_I (iv_ms hi), hg, Option.bind_some, show (25 : Int32) = nI 25 from rfl, nI_mul, show (2 : Int32) = nI 2 from rfl, nI_mul, nI_p1, nI_add, nI_add, ldI_n (ms_k9 (iv_ms hi)) (by omega) (by omega)]
  have := md_row hi (s := 3) (j := a) (k := 1 + 2 * k + w) (by omega) (by omega) ha (by show _ < 25; omega)
  rw [show lrw 3 * a + (1 + 2 * k + w) = 25 * a + 1 + 2 * k + w by show 25 * a + (1 + 2 * k + w) = _; omega] at this
  rw [show b + 55 + 9 = b + 55 + (6 + 3) from rfl, this]; rfl
theorem iv_si {h : HA} {b k : Nat} {v : Int32} : gi (si h (b + 55) k v) (b + 55) k = v := by rw [gi_si, if_pos ⟨rfl, rfl⟩]
theorem hasLaw_n {h : HA} {b : Nat} {D : DT} {α : Nat → Nat} {lm : Nat → Nat → Nat} {im : Nat → Option (Nat × DT)} (hi : IV h b D α lm im) (x : Int32) : X8_hasLaw h (b + 55) x = some (bI (rg x (dN D 2)), si h (b + 55) 47 x) := by
  unfold X8_hasLaw
  rw [if_pos (ms_c (iv_ms hi)), ms_p (iv_ms hi), Option.bind_some, show X8_is (si h (b + 55) 47 x) (b + 55) 2 x = _ from is_ok (IV_m0 hi 47 x) (s := 2) (by omega) x, Option.bind_some, bz_b, Option.bind_some]
theorem hasRoll_n {h : HA} {b : Nat} {D : DT} {α : Nat → Nat} {lm : Nat → Nat → Nat} {im : Nat → Option (Nat × DT)} (hi : IV h b D α lm im) (x : Int32) : X8_hasRoll h (b + 55) x = some (bI (rg x (dN D 3)), si h (b + 55) 52 x) := by
  unfold X8_hasRoll
  rw [if_pos (ms_c (iv_ms hi)), ms_p (iv_ms hi), Option.bind_some, show X8_is (si h (b + 55) 52 x) (b + 55) 3 x = _ from is_ok (IV_m0 hi 52 x) (s := 3) (by omega) x, Option.bind_some, bz_b, Option.bind_some]
theorem m_deed {h : HA} {b : Nat} {D : DT} {α : Nat → Nat} {lm : Nat → Nat → Nat} {im : Nat → Option (Nat × DT)} (hi : IV h b D α lm im) (x k w : Int32) : AC b D α lm im (X8_deed h (b + 55) x k w) (qcell 1 D x k w) := by
  unfold X8_deed qcell
  rw [if_pos (ms_c (iv_ms hi)), ms_p (iv_ms hi), Option.bind_some]
  have hi0 := IV_m0 hi 0 0
  rw [show X8_is (si h (b + 55) 0 0) (b + 55) 1 x = _ from is_ok hi0 (s := 1) (by omega) x, Option.bind_some]
  cases hr : rg x (dN D 1) with
  | false => exact ⟨_, rfl, hi0⟩
  | true =>
    have hn := (iv_w hi).2.1 1 (by omega)
    obtain ⟨a, ha, rfl⟩ := (rg_iff (by omega)).mp hr
    simp only [bi_t, if_false, if_true]
    rw [ms_p (iv_ms hi0), Option.bind_some, tn_nI (by omega)]
    have hi1 := IV_m0 hi0 38 (nI a)
    have g1 : gi (si (si h (b + 55) 0 0) (b + 55) 38 (nI a)) (b + 55) 38 = nI a := iv_si
    generalize si (si h (b + 55) 0 0) (b + 55) 38 (nI a) = h1 at *
    refine ⟨h1, ?_, hi1⟩
    have hL := iv_wl hi (s := 1) (by omega) (by omega) ha
    have h30 : llen (dR D 1 a) ≤ 30 := hL.1
    rw [deeds_n hi1 ha g1, Option.bind_some, Option.bind_some]
    unfold qc
    by_cases h1 : k = -1
    · rw [if_pos h1, if_pos h1]
      by_cases h2 : w = 0
      · rw [if_pos h2, if_pos h2]
      · rw [if_neg h2, if_neg h2]
    · rw [if_neg h1, if_neg h1, in_rg k (by omega), Option.bind_some, show X8_in w 0 3 = _ from in_rn w (n := 3) (by omega)]
      cases hk : rg k (llen (dR D 1 a)) with
      | false => rfl
      | true =>
        simp only [bi_t, if_false, Option.bind_some]
        cases hw2 : rg w (3 + 1) with
        | false => rw [show rg w (lwd 1) = false from hw2]; rfl
        | true =>
          obtain ⟨q, hq, rfl⟩ := (rg_iff (by omega)).mp hk
          obtain ⟨r, hr2, rfl⟩ := (rg_iff (by omega)).mp hw2
          simp only [bi_t, if_false]
          rw [deedOf_n hi1 ha g1 (by omega) hr2, show rg (nI r) (lwd 1) = true from hw2, tn_nI (by omega), tn_nI (by omega)]; rfl
theorem m_rule {h : HA} {b : Nat} {D : DT} {α : Nat → Nat} {lm : Nat → Nat → Nat} {im : Nat → Option (Nat × DT)} (hi : IV h b D α lm im) (x k w : Int32) : AC b D α lm im (X8_rule h (b + 55) x k w) (qcell 2 D x k w) := by
  unfold X8_rule qcell
  rw [if_pos (ms_c (iv_ms hi)), ms_p (iv_ms hi), Option.bind_some]
  have hi0 := IV_m0 hi 0 0
  rw [hasLaw_n hi0, Option.bind_some]
  have hi1 := IV_m0 hi0 47 x
  cases hr : rg x (dN D 2) with
  | false => exact ⟨_, rfl, hi1⟩
  | true =>
    have hn := (iv_w hi).2.1 2 (by omega)
    obtain ⟨a, ha, rfl⟩ := (rg_iff (by omega)).mp hr
    simp only [bi_t, if_false, if_true]
    rw [tn_nI (by omega)]
    have g1 : gi (si (si h (b + 55) 0 0) (b + 55) 47 (nI a)) (b + 55) 47 = nI a := iv_si
    generalize si (si h (b + 55) 0 0) (b + 55) 47 (nI a) = h1 at *
    refine ⟨h1, ?_, hi1⟩
    have hL := iv_wl hi (s := 2) (by omega) (by omega) ha
    have h30 : llen (dR D 2 a) ≤ 8 := hL.1
    rw [rules_n hi1 ha g1, Option.bind_some, Option.bind_some]
    unfold qc
    by_cases h1 : k = -1
    · rw [if_pos h1, if_pos h1]
      by_cases h2 : w = 0
      · rw [if_pos h2, if_pos h2]
      · rw [if_neg h2, if_neg h2]
    · rw [if_neg h1, if_neg h1, in_rg k (by omega), Option.bind_some, show X8_in w 0 2 = _ from in_rn w (n := 2) (by omega)]
      cases hk : rg k (llen (dR D 2 a)) with
      | false => rfl
      | true =>
        simp only [bi_t, if_false, Option.bind_some]
        cases hw2 : rg w (2 + 1) with
        | false => rw [show rg w (lwd 2) = false from hw2]; rfl
        | true =>
          obtain ⟨q, hq, rfl⟩ := (rg_iff (by omega)).mp hk
          obtain ⟨r, hr2, rfl⟩ := (rg_iff (by omega)).mp hw2
          simp only [bi_t, if_false]
          rw [ruleOf_n hi1 ha g1 (by omega) hr2, show rg (nI r) (lwd 2) = true from hw2, tn_nI (by omega), tn_nI (by omega)]; rfl
theorem m_claim {h : HA} {b : Nat} {D : DT} {α : Nat → Nat} {lm : Nat → Nat → Nat} {im : Nat → Option (Nat × DT)} (hi : IV h b D α lm im) (x k w : Int32) : AC b D α lm im (X8_claim h (b + 55) x k w) (qcell 3 D x k w) := by
  unfold X8_claim qcell
  rw [if_pos (ms_c (iv_ms hi)), ms_p (iv_ms hi), Option.bind_some]
  have hi0 := IV_m0 hi 0 0
  rw [hasRoll_n hi0, Option.bind_some]
  have hi1 := IV_m0 hi0 52 x
  cases hr : rg x (dN D 3) with
  | false => exact ⟨_, rfl, hi1⟩
  | true =>
    have hn := (iv_w hi).2.1 3 (by omega)
    obtain ⟨a, ha, rfl⟩ := (rg_iff (by omega)).mp hr
    simp only [bi_t, if_false, if_true]
    rw [tn_nI (by omega)]
    have g1 : gi (si (si h (b + 55) 0 0) (b + 55) 52 (nI a)) (b + 55) 52 = nI a := iv_si
    generalize si (si h (b + 55) 0 0) (b + 55) 52 (nI a) = h1 at *
    refine ⟨h1, ?_, hi1⟩
    have hL := iv_wl hi (s := 3) (by omega) (by omega) ha
    have h30 : llen (dR D 3 a) ≤ 12 := hL.1
    rw [claims_n hi1 ha g1, Option.bind_some, Option.bind_some]
    unfold qc
    by_cases h1 : k = -1
    · rw [if_pos h1, if_pos h1]
      by_cases h2 : w = 0
      · rw [if_pos h2, if_pos h2]
      · rw [if_neg h2, if_neg h2]
    · rw [if_neg h1, if_neg h1, in_rg k (by omega), Option.bind_some, show X8_in w 0 1 = _ from in_rn w (n := 1) (by omega)]
      cases hk : rg k (llen (dR D 3 a)) with
      | false => rfl
      | true =>
        simp only [bi_t, if_false, Option.bind_some]
        cases hw2 : rg w (1 + 1) with
        | false => rw [show rg w (lwd 3) = false from hw2]; rfl
        | true =>
          obtain ⟨q, hq, rfl⟩ := (rg_iff (by omega)).mp hk
          obtain ⟨r, hr2, rfl⟩ := (rg_iff (by omega)).mp hw2
          simp only [bi_t, if_false]
          rw [claimOf_n hi1 ha g1 (by omega) hr2, show rg (nI r) (lwd 3) = true from hw2, tn_nI (by omega), tn_nI (by omega)]; rfl
def qcount (D : DT) (x : Int32) : Int32 := if rg x 4 = true then nI (dN D (tn x)) else -2
theorem c_count {h : HA} {b : Nat} {D : DT} {α : Nat → Nat} {lm : Nat → Nat → Nat} {im : Nat → Option (Nat × DT)} (hi : IV h b D α lm im) (x : Int32) : X7_count h b x = some (qcount D x) := by
  unfold X7_count qcount
  rw [if_pos (fx_c hi.1)]
  rcases i_nat x with h1 | ⟨a, ha, rfl⟩
  · rw [if_pos h1, neg_rg h1]; rfl
  · rw [if_neg (nI_lt0 ha), rg_n ha]
    by_cases h2 : a < 4
    · rw [if_pos (show nI a < 4 from lt_lit (n := 4) h2 (by omega)), fx_told hi.1, Option.bind_some, fx_cnt hi.1, Option.bind_some, ldI_n (fx_kcnt hi.1) h2 ha, iv_n hi h2, Option.bind_some, if_pos (by simpa using h2), tn_nI ha]
    · rw [if_neg (show ¬ nI a < 4 from nlt_lit (n := 4) (by omega) ha), if_neg (by simpa using h2)]
theorem m_count {h : HA} {b : Nat} {D : DT} {α : Nat → Nat} {lm : Nat → Nat → Nat} {im : Nat → Option (Nat × DT)} (hi : IV h b D α lm im) (x : Int32) : AC b D α lm im (X8_count h (b + 55) x) (qcount D x) := by
  unfold X8_count qcount
  rw [if_pos (ms_c (iv_ms hi)), ms_p (iv_ms hi), Option.bind_some]
  have hi0 := IV_m0 hi 0 0
  refine ⟨_, ?_, hi0⟩
  rw [show X8_in x 0 3 = _ from in_rn x (n := 3) (by omega), Option.bind_some]
  cases hr : rg x (3 + 1) with
  | false => rfl
  | true =>
    obtain ⟨a, ha, rfl⟩ := (rg_iff (by omega)).mp hr
    have hg := (iv_m hi0).2.2.2.2.1 a ha
    rw [show 4 * 0 + a = a by omega] at hg
    simp only [bi_t, if_false, if_true]
    rw [ms_r5 (iv_ms hi0), Option.bind_some, ldI_n (ms_k5 (iv_ms hi0)) (by omega) (by omega), hg, Option.bind_some, tn_nI (by omega)]
def qfault (D : DT) (x : Int32) : Int32 := if x = 0 then dF D else if x = 1 then dP D else -1
theorem fx_kt {h : HA} {b : Nat} (hf : FX h b) : kd h (b + 1) = (6, 0) := hf.2.2.1.1
theorem c_fault {h : HA} {b : Nat} {D : DT} {α : Nat → Nat} {lm : Nat → Nat → Nat} {im : Nat → Option (Nat × DT)} (hi : IV h b D α lm im) (x : Int32) : X7_fault h b x = some (qfault D x) := by
  unfold X7_fault qfault
  obtain ⟨t1, t2, t3, _⟩ := hi.2.2.2.2.2.1
  rw [if_pos (fx_c hi.1), fx_told hi.1, Option.bind_some, Option.bind_some, gI_n (fx_kt hi.1), gI_n (fx_kt hi.1), t2, t3]
  repeat' split
  all_goals rfl
theorem m_fault {h : HA} {b : Nat} {D : DT} {α : Nat → Nat} {lm : Nat → Nat → Nat} {im : Nat → Option (Nat × DT)} (hi : IV h b D α lm im) (x : Int32) : AC b D α lm im (X8_fault h (b + 55) x) (qfault D x) := by
  unfold X8_fault qfault
  rw [if_pos (ms_c (iv_ms hi)), ms_p (iv_ms hi), Option.bind_some]
  have hi0 := IV_m0 hi 0 0
  refine ⟨_, ?_, hi0⟩
  obtain ⟨t1, t2, t3, _⟩ := iv_m hi0
  rw [ms_r3 (iv_ms hi0), ms_r4 (iv_ms hi0), Option.bind_some, Option.bind_some, show ldI (si h (b + 55) 0 0) (b + 55 + 3) 20 0 = _ from ldI_n (i := 0) (ms_k3 (iv_ms hi0)) (by omega) (by omega), show ldI (si h (b + 55) 0 0) (b + 55 + 4) 20 0 = _ from ldI_n (i := 0) (ms_k4 (iv_ms hi0)) (by omega) (by omega)]
  rw [t2, t3]
  repeat' split
  all_goals rfl
