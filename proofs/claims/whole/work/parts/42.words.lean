/-! who hears what, DEED by DEED -/
def zs (C L : CR) (k i : Nat) : Int32 := ((dz C L k).getD (fun _ => -1)) i
theorem zs_eq {C L : CR} {k : Nat} {Z : ZT} (h : dz C L k = some Z) (i : Nat) : zs C L k i = Z i := by unfold zs; rw [h]; rfl
theorem dz_lt {C L : CR} {n k : Nat} (h : (dz C L n).isSome = true) (hk : k ≤ n) : ∃ Z, dz C L k = some Z := by
  cases h1 : dz C L k with
  | some Z => exact ⟨Z, rfl⟩
  | none => rw [dz_none h1 n hk] at h; simp at h
def hd (C L : CR) (th : Nat → Nat) (k seat ew rng : Nat) : Bool := sd L k && (hr C seat (ew &&& (15 ^^^ th k)) (rng + lud L k) (tn (zs C L k (2 * who L k))) || (!decide (zs C L k (2 * who L k + 1) = -1) && hr C seat (ew &&& (15 ^^^ th k)) (rng + lud L k) (tn (zs C L k (2 * who L k + 1)))))
theorem say_c {L : CR} (hL : WL 1 L) {k : Nat} (hk : k < llen L) (hs : sd L k = true) : dK L k 0 = 1 ∧ who L k < 4 ∧ wrd L k < 10 ∧ lud L k < 10 ∧ dK L k 1 = nI (who L k) ∧ dK L k 2 = nI (wrd L k) ∧ dK L k 3 = nI (lud L k) := by
  unfold sd at hs
  have hs1 : dK L k 0 = 1 := by simpa using hs
  rcases deed_c hL hk with ⟨e0, _⟩ | ⟨e0, p, w, lo, hp, hwd, hlo, e1, e2, e3⟩ | ⟨e0, _⟩
  · rw [e0] at hs1; exact absurd hs1 (by decide)
  · unfold who wrd lud
    rw [e1, e2, e3, tn_nI (by omega), tn_nI (by omega), tn_nI (by omega)]
    exact ⟨e0, hp, hwd, hlo, rfl, rfl, rfl⟩
  · rw [e0] at hs1; exact absurd hs1 (by decide)
/-- a DEED that was said: who said it is there -/
theorem said_p {C L : CR} (hL : WL 1 L) {k : Nat} (hk : k < llen L) (hs : sd L k = true) {Z Z1 : ZT} (hd : dnx C L k Z = some Z1) : who L k < cP C := by
  have h0 := (say_c hL hk hs).1
  unfold dnx at hd
  rw [if_neg (by rw [h0]; decide)] at hd
  by_cases h : cP C ≤ who L k
  · rw [if_pos h] at hd; simp at hd
  · omega
/-- from where it was said -/
theorem src_c {C L : CR} (hw : WF C) (hL : WL 1 L) {n k : Nat} (hn : n ≤ llen L) (hz : (dz C L n).isSome = true) (hk : k < n) (hs : sd L k = true) :
    who L k < cP C ∧ (∃ g, zs C L k (2 * who L k) = nI g ∧ op C g = true) ∧ (zs C L k (2 * who L k + 1) = -1 ∨ ∃ g, zs C L k (2 * who L k + 1) = nI g ∧ op C g = true) := by
  obtain ⟨Z, hZ⟩ := dz_lt hz (show k ≤ n by omega)
  obtain ⟨Z1, hZ1⟩ := dz_lt hz (show k + 1 ≤ n by omega)
  have h1 : dnx C L k Z = some Z1 := by rw [dz, hZ] at hZ1; exact hZ1
  have hp := said_p hL (by omega) hs h1
  have zv := dz_ZV hw hL (by omega) hZ _ hp
  rw [zs_eq hZ, zs_eq hZ]
  exact ⟨hp, zv⟩
theorem hp_wf {h : HA} {b c l : Nat} {C L : CR} {th : Nat → Nat} {n : Nat} (hp : HP h b c l C L th n) : WF C := (hb_cc hp.1).2.1
theorem hp_L {h : HA} {b c l : Nat} {C L : CR} {th : Nat → Nat} {n : Nat} (hp : HP h b c l C L th n) : WL 1 L := hp.1.2.2.2.2.2.2.2
theorem hp_z {h : HA} {b c l : Nat} {C L : CR} {th : Nat → Nat} {n : Nat} (hp : HP h b c l C L th n) : (dz C L n).isSome = true := by obtain ⟨Z, hZ, _⟩ := hp.2.2.2.1; rw [hZ]; rfl
theorem isSaid_c {h : HA} {b c l k : Nat} {C L : CR} (hb : HB h b c l C L) (hk : k < llen L) : X1_isSaid h (b + 46) (nI k) = some (bI (sd L k)) := by
  unfold X1_isSaid sd
  rw [if_pos (hb_t hb), hb_l hb, Option.bind_some, show X2_at h l (nI k) 0 = _ from hb_at (w := 0) hb hk (by omega), Option.bind_some]
  by_cases e : dK L k 0 = 1
  · rw [if_pos e]; simp [e, bI]
  · rw [if_neg e]; simp [e, bI]
theorem isHeard_c {h : HA} {b c l k j e reach : Nat} {C L : CR} {th : Nat → Nat} {n : Nat} (hp : HP h b c l C L th n) (hk : k < n) (hs : sd L k = true) (hj : j < cJ C) (he : e < 16) (hr1 : reach < 10) :
    X1_isHeard h (b + 46) (nI k) (nI j) (nI reach) (nI e) = some (bI (hd C L th k (jg C j 0) e reach)) := by
  obtain ⟨hb, p1, p2, p3, p4⟩ := hp
  have hL := hb.2.2.2.2.2.2.2
  have hw := (hb_cc hb).2.1
  have hF := cF_le hw.1
  have h30 := llen_30 hL
  obtain ⟨s0, s1, s2, s3, s4, s5, s6⟩ := say_c hL (show k < llen L by omega) hs
  obtain ⟨⟨t1, t2⟩, t3⟩ := p4 k hk
  obtain ⟨Zn, hZn, _⟩ := p3
  have hiz : (dz C L n).isSome = true := by rw [hZn]; rfl
  obtain ⟨q1, ⟨g, q2, q3⟩, q4⟩ := src_c hw hL p2 hiz hk hs
  obtain ⟨Z, hZ⟩ := dz_lt hiz (show k ≤ n by omega)
  have hgF := op_lt q3
  have t4 := t3 Z hZ
  have he2 : e &&& (15 ^^^ th k) < 16 := Nat.lt_of_le_of_lt Nat.and_le_left he
  obtain ⟨X, hX, hXb⟩ := audF (e := e &&& (15 ^^^ th k)) (r := reach + lud L k) hb.2.2.2.2.2.1 hj he2 (by omega)
  unfold X1_isHeard
  rw [if_pos (hb_t hb), hb_l hb, Option.bind_some, show X2_at h l (nI k) 3 = _ from hb_at (w := 3) hb (by omega) (by omega), Option.bind_some, hb_c hb, Option.bind_some, fx_r7 hb.1, Option.bind_some, ldI_n (fx_k51 hb.1) (by omega) (by omega), Option.bind_some, t1, s6, nI_add, and_not _ he _ t2, hX, Option.bind_some, fx_r6 hb.1, Option.bind_some, ldJ_n (fx_k50 hb.1) (by omega) (by omega), Option.bind_some]
  have key : (X &&& gj h (b + 50) k) = 0 ↔ hd C L th k (jg C j 0) e reach = false := by
    rw [tb_eq0]
    unfold hd
    rw [hs, Bool.true_and, q2, tn_nI (by omega)]
    have hfb : ∀ f, f < 64 → (tb (X &&& gj h (b + 50) k) f = (hr C (jg C j 0) (e &&& (15 ^^^ th k)) (reach + lud L k) f && (decide (nI g = nI f) || decide (zs C L k (2 * who L k + 1) = nI f)))) := by
      intro f hf
      rw [tb_and, hXb f hf, t4 f hf]
      unfold fbz
      rw [hs, Bool.true_and, ← zs_eq hZ, ← zs_eq hZ, q2]
    constructor
    · intro h1
      rw [Bool.or_eq_false_iff]
      constructor
      · have := h1 g (by omega)
        rw [hfb g (by omega)] at this
        simpa using this
      · rcases q4 with q5 | ⟨g2, q5, q6⟩
        · rw [q5]; rfl
        · have h2 := op_lt q6
          have := h1 g2 (by omega)
          rw [hfb g2 (by omega), q5] at this
          rw [q5, tn_nI (by omega)]
          have h3 : hr C (jg C j 0) (e &&& (15 ^^^ th k)) (reach + lud L k) g2 = false := by simpa using this
          rw [h3, Bool.and_false]
    · intro h1 f hf
      rw [Bool.or_eq_false_iff] at h1
      rw [hfb f hf]
      cases h2 : decide (nI g = nI f) with
      | true =>
        have : g = f := nI_inj (by omega) (by omega) (by simpa using h2)
        rw [← this, h1.1]; rfl
      | false =>
        cases h3 : decide (zs C L k (2 * who L k + 1) = nI f) with
        | false => rw [Bool.or_false, Bool.and_false]
        | true =>
          have h4 : zs C L k (2 * who L k + 1) = nI f := by simpa using h3
          have h5 := h1.2
          rw [h4, tn_nI (by omega)] at h5
          have : ¬ nI f = -1 := nI_nm1 (by omega)
          simp only [this, decide_false, Bool.not_false, Bool.true_and] at h5
          rw [h5]; rfl
  cases h1 : hd C L th k (jg C j 0) e reach with
  | false => rw [if_pos (key.mpr h1)]; rfl
  | true => rw [if_neg (fun z => by rw [key.mp z] at h1; simp at h1)]; rfl
def orf (p : Nat → Bool) (w : Nat → Nat) : Nat → Nat
  | 0 => 0
  | n + 1 => if p n = true then orf p w n ||| 2 ^ w n else orf p w n
theorem orf_lt {p : Nat → Bool} {w : Nat → Nat} {n : Nat} (h : ∀ k, k < n → p k = true → w k < 10) : orf p w n < 1024 := by
  induction n with
  | zero => show 0 < 1024; omega
  | succ n ih =>
    have := ih (fun k hk => h k (by omega))
    rw [orf]
    split
    · rename_i hp
      have h1 := h n (by omega) hp
      have h2 : 2 ^ w n < 2 ^ 10 := Nat.pow_lt_pow_right (by omega) h1
      exact Nat.or_lt_two_pow (n := 10) this h2
    · exact this
theorem orf_cong {p q : Nat → Bool} {w v : Nat → Nat} {n : Nat} (h : ∀ k, k < n → p k = q k ∧ (p k = true → w k = v k)) : orf p w n = orf q v n := by
  induction n with
  | zero => rfl
  | succ n ih =>
    rw [orf, orf, ih (fun k hk => h k (by omega)), (h n (by omega)).1]
    by_cases e : q n = true
    · rw [if_pos e, if_pos e, (h n (by omega)).2 (by rw [(h n (by omega)).1]; exact e)]
    · rw [if_neg e, if_neg e]
/-- the WORDS heard on a JUDGE's seat, with these ears and that REACH, FACING that side at first, the TRIAL so many hours later -/
def kwd (C L : CR) (th : Nat → Nat) (n j e reach side later : Nat) : Nat := orf (fun k => hd C L th k (jg C j 0) (trl e ((side + (k + later) * jg C j 4) % 4)) reach) (wrd L) n
theorem hd_sd {C L : CR} {th : Nat → Nat} {k seat ew rng : Nat} (h : hd C L th k seat ew rng = true) : sd L k = true := by
  unfold hd at h; rw [Bool.and_eq_true] at h; exact h.1
theorem kwd_lt {C L : CR} (hL : WL 1 L) {th : Nat → Nat} {n j e reach side later : Nat} (hn : n ≤ llen L) : kwd C L th n j e reach side later < 1024 :=
  orf_lt (fun k hk h => (say_c hL (by omega) (hd_sd h)).2.2.1)
theorem turn_q : ∀ e, e < 16 → ∀ o, o < 4 → ∀ s, s < 4 → ∀ x, x < 4 → X0_turned (nI e) (nI ((o + x) % 4) + (nI s - nI o)) = some (nI (trl e ((s + x) % 4))) := by decide +kernel
theorem wordsOn_c {h : HA} {b c l j e reach side later m : Nat} {C L : CR} {th : Nat → Nat} {n : Nat} (hp : HP h b c l C L th n) (hm : m ≤ n) (hj : j < cJ C) (he : e < 16) (hr1 : reach < 10) (hs4 : side < 4) :
    X1_wordsOn h (b + 46) (nI j) (nI reach) (nI e) (nI side - nI (jg C j 1)) (nI later) (nI m) = some (nI (kwd C L th m j e reach side later)) := by
  have hb := hp.1
  have hL := hp_L hp
  have h30 := llen_30 hL
  have hn := hp.2.2.1
  obtain ⟨_, w1, w2, w3, w4, w5⟩ := (hp_wf hp).2.1 j hj
  unfold X1_wordsOn
  rw [if_pos (hb_t hb)]
  have hl2 := loop_st (fun fu k (a : Int32) => X1_wordsOn_L6 h (b + 46) (nI j) (nI reach) (nI e) (nI side - nI (jg C j 1)) (nI later) (nI m) fu a (nI k)) (fun k => nI (kwd C L th k j e reach side later)) (some (nI (kwd C L th m j e reach side later))) m (fun k fu hk => by
    try simp only []
    rw [X1_wordsOn_L6, if_pos (lt_lit hk (by omega)), isSaid_c hb (by omega), Option.bind_some, nI_p1]
    have e2 : kwd C L th (k + 1) j e reach side later = if hd C L th k (jg C j 0) (trl e ((side + (k + later) * jg C j 4) % 4)) reach = true then kwd C L th k j e reach side later ||| 2 ^ wrd L k else kwd C L th k j e reach side later := rfl
    rw [e2]
    cases hs : sd L k with
    | false =>
      rw [if_pos (by decide), if_neg]
      intro z; have := hd_sd z; rw [hs] at this; simp at this
    | true =>
      obtain ⟨s0, s1, s2, s3, s4, s5, s6⟩ := say_c hL (show k < llen L by omega) hs
      have ht := turn_q e he (jg C j 1) w2 side hs4 ((k + later) * jg C j 4 % 4) (Nat.mod_lt _ (by omega))
      rw [show (jg C j 1 + (k + later) * jg C j 4 % 4) % 4 = fc C j (k + later) by unfold fc; omega, show (side + (k + later) * jg C j 4 % 4) % 4 = (side + (k + later) * jg C j 4) % 4 by omega] at ht
      rw [if_neg (by decide), hb_c hb, Option.bind_some, nI_add, faces_c (hb_cc hb) hj, Option.bind_some, ht, Option.bind_some, isHeard_c hp (by omega) hs hj (trl_lt _ he _ (Nat.mod_lt _ (by omega))) hr1, Option.bind_some]
      cases hd C L th k (jg C j 0) (trl e ((side + (k + later) * jg C j 4) % 4)) reach with
      | false => rw [if_pos (by decide), if_neg (by simp)]
      | true => rw [if_neg (by decide), hb_l hb, Option.bind_some, show X2_at h l (nI k) 2 = _ from hb_at (w := 2) hb (by omega) (by omega), Option.bind_some, s5, shl1 _ (by omega), nI_or, if_pos rfl])
    (fun fu => by (try simp only []); rw [X1_wordsOn_L6, if_neg (nlt_lit (Nat.le_refl _) (by omega))]) FU (FU_gt (by omega))
  rw [show X1_wordsOn_L6 h (b + 46) (nI j) (nI reach) (nI e) (nI side - nI (jg C j 1)) (nI later) (nI m) FU 0 0 = _ from hl2]
  rfl
theorem wordsOn_0 {h : HA} {b c l j e reach later m : Nat} {C L : CR} {th : Nat → Nat} {n : Nat} (hp : HP h b c l C L th n) (hm : m ≤ n) (hj : j < cJ C) (he : e < 16) (hr1 : reach < 10) :
    X1_wordsOn h (b + 46) (nI j) (nI reach) (nI e) 0 (nI later) (nI m) = some (nI (kwd C L th m j e reach (jg C j 1) later)) := by
  have := wordsOn_c (later := later) hp hm hj he hr1 ((hp_wf hp).2.1 j hj).2.2.1
  rw [Int32.sub_self] at this
  exact this
/-- what a JUDGE KNOWS -/
def kn (C L : CR) (th : Nat → Nat) (n j : Nat) : Nat := kwd C L th n j (eW C j) (jg C j 3) (jg C j 1) 0
theorem kn_lt {C L : CR} (hL : WL 1 L) {th : Nat → Nat} {n j : Nat} (hn : n ≤ llen L) : kn C L th n j < 1024 := kwd_lt hL hn
theorem ownSides_c {h : HA} {b c l j : Nat} {C L : CR} (hb : HB h b c l C L) (hj : j < cJ C) : X1_ownSides h (b + 46) (nI j) = some (nI (eW C j)) := by
  have h2 := ((hb_cc hb).2.1.2.1 j hj).2.2.2.1
  unfold X1_ownSides
  rw [if_pos (hb_t hb), hb_c hb, Option.bind_some, show X0_of h c (nI j) 2 = _ from of_c (w := 2) (hb_cc hb) hj (by omega), Option.bind_some, sidesOf_c h2, Option.bind_some]
theorem hb_o3 {h : HA} {b c l j : Nat} {C L : CR} (hb : HB h b c l C L) (hj : j < cJ C) : X0_of h c (nI j) 3 = some (nI (jg C j 3)) := of_c (w := 3) (hb_cc hb) hj (by omega)
theorem learned_c {h : HA} {b c l j m : Nat} {C L : CR} {th : Nat → Nat} {n : Nat} (hp : HP h b c l C L th n) (hm : m ≤ n) (hj : j < cJ C) : X1_learned h (b + 46) (nI j) (nI m) = some (nI (kn C L th m j)) := by
  have hb := hp.1
  have h3 := ((hp_wf hp).2.1 j hj).2.2.2.2.1
  unfold X1_learned
  rw [if_pos (hb_t hb), hb_c hb, Option.bind_some, hb_o3 hb hj, Option.bind_some, ownSides_c hb hj, Option.bind_some, show X1_wordsOn h (b + 46) (nI j) (nI (jg C j 3)) (nI (eW C j)) 0 0 (nI m) = _ from wordsOn_0 (later := 0) hp hm hj (eW_lt C j) h3]
  rfl
theorem learnedFrom_c {h : HA} {b c l j e : Nat} {C L : CR} {th : Nat → Nat} {n : Nat} (hp : HP h b c l C L th n) (hj : j < cJ C) (he : e < 16) : X1_learnedFrom h (b + 46) (nI j) (nI e) = some (nI (kwd C L th n j e (jg C j 3) (jg C j 1) 0)) := by
  have hb := hp.1
  have h3 := ((hp_wf hp).2.1 j hj).2.2.2.2.1
  unfold X1_learnedFrom
  rw [if_pos (hb_t hb), hb_c hb, Option.bind_some, hb_o3 hb hj, Option.bind_some, gI_n (fx_hk hb.1), hp.2.1, Option.bind_some, show X1_wordsOn h (b + 46) (nI j) (nI (jg C j 3)) (nI e) 0 0 (nI n) = _ from wordsOn_0 (later := 0) hp (Nat.le_refl _) hj he h3]
  rfl
/-! the model's -/
theorem mp_z {h : HA} {m c t : Nat} {C L : CR} {th : Nat → Nat} {n : Nat} (mp : MP h m c t C L th n) : (dz C L n).isSome = true := by obtain ⟨Z, hZ, _⟩ := mp.2.2.2.2.2.1; rw [hZ]; rfl
theorem mp_L {h : HA} {m c t : Nat} {C L : CR} {th : Nat → Nat} {n : Nat} (mp : MP h m c t C L th n) : WL 1 L := mp.2.2.1.2.2.2
theorem mp_said {h : HA} {m c t k : Nat} {C L : CR} {th : Nat → Nat} {n : Nat} (mp : MP h m c t C L th n) (hk : k < n) : ldI h (m + 21) 20 (nI k) = some (if sd L k = true then nI (wrd L k) else -1) := by
  have h30 := llen_30 (mp_L mp)
  have hn := mp.2.2.2.2.1
  obtain ⟨Z, hZ⟩ := dz_lt (mp_z mp) (show k ≤ n by omega)
  have h1 := (mp.2.2.2.2.2.2.2 k hk Z hZ).1
  rw [ldI_n (ms_k42 mp.1.1.1) (by omega) (by omega), h1]
  by_cases e : sd L k = true
  · rw [if_pos e, if_pos e, (say_c (mp_L mp) (by omega) e).2.2.2.2.2.1]
  · rw [if_neg e, if_neg e]
theorem hearsDeed_n {h : HA} {m c t k seat face ears reach : Nat} {C L : CR} {th : Nat → Nat} {n : Nat} (mp : MP h m c t C L th n) (hk : k < n) (hs : op C seat = true) (h4 : face < 4) (he : ears < 16) (hr1 : reach < 10) :
    X8_hearsDeed h m (nI k) (nI seat) (nI face) (nI ears) (nI reach) = some (bI (hd C L th k seat (trl ears face) reach)) := by
  have hm := mp.1.1.1
  have hL := mp_L mp
  have h30 := llen_30 hL
  have hn := mp.2.2.2.2.1
  have hw := mp.2.1
  have hF := cF_le hw.1
  unfold X8_hearsDeed
  rw [if_pos (ms_c hm), ms_r42 hm, Option.bind_some, mp_said mp hk, Option.bind_some]
  cases hsd : sd L k with
  | false =>
    rw [if_pos (show (if false = true then nI (wrd L k) else -1) = -1 from rfl)]
    unfold hd; rw [hsd]; rfl
  | true =>
    obtain ⟨s0, s1, s2, s3, s4, s5, s6⟩ := say_c hL (show k < llen L by omega) hsd
    obtain ⟨Z, hZ⟩ := dz_lt (mp_z mp) (show k ≤ n by omega)
    obtain ⟨d1, d2, d3⟩ := (mp.2.2.2.2.2.2.2 k hk Z hZ).2 hsd
    obtain ⟨q1, ⟨g, q2, q3⟩, q4⟩ := src_c hw hL hn (mp_z mp) hk hsd
    rw [← zs_eq hZ] at d2 d3
    have hgF := op_lt q3
    obtain ⟨t1, t2⟩ := mp.2.2.2.2.2.2.1 k hk
    rw [if_pos rfl, if_neg (nI_nm1 (by omega)), ms_r44 hm, Option.bind_some, ldI_n (ms_k44 hm) (by omega) (by omega), d2, q2, Option.bind_some, ms_r43 hm, Option.bind_some, ldI_n (ms_k43 hm) (by omega) (by omega), d1, s6, Option.bind_some, ms_r46 hm, Option.bind_some, ldI_n (ms_k46 hm) (by omega) (by omega), t1, Option.bind_some, hearsAt_n mp.1 hs hgF h4 he (by omega) (by omega) t2, Option.bind_some]
    unfold hd
    rw [hsd, q2, tn_nI (show g < 2 ^ 31 by omega), Bool.true_and]
    cases h1 : hr C seat (trl ears face &&& (15 ^^^ th k)) (reach + lud L k) g with
    | true => rw [if_neg (by decide)]; rfl
    | false =>
      rw [if_pos (by decide), ms_r45 hm, Option.bind_some, ldI_n (ms_k45 hm) (by omega) (by omega), d3, Option.bind_some]
      rcases q4 with q5 | ⟨g2, q5, q6⟩
      · rw [if_pos q5, q5]; rfl
      · have h2 := op_lt q6
        have r1 : ldI h (m + 24) 20 (nI k) = some (nI g2) := by rw [ldI_n (ms_k45 hm) (by omega) (by omega), d3, q5]
        have r2 : ldI h (m + 22) 20 (nI k) = some (nI (lud L k)) := by rw [ldI_n (ms_k43 hm) (by omega) (by omega), d1, s6]
        have r3 : ldI h (m + 25) 20 (nI k) = some (nI (th k)) := by rw [ldI_n (ms_k46 hm) (by omega) (by omega), t1]
        rw [q5, if_neg (nI_nm1 (by omega)), Option.bind_some, r1, Option.bind_some, Option.bind_some, r2, Option.bind_some, Option.bind_some, r3, Option.bind_some, hearsAt_n mp.1 hs h2 h4 he (by omega) (by omega) t2, Option.bind_some, tn_nI (show g2 < 2 ^ 31 by omega)]
        have : ¬ nI g2 = -1 := nI_nm1 (by omega)
        simp only [this, decide_false, Bool.not_false, Bool.true_and, Bool.false_or]
        cases hr C seat (trl ears face &&& (15 ^^^ th k)) (reach + lud L k) g2 <;> rfl
theorem knownFrom_n {h : HA} {m c t j side later ears reach : Nat} {C L : CR} {th : Nat → Nat} {n : Nat} (mp : MP h m c t C L th n) (hj : j < cJ C) (hs4 : side < 4) (hl : later < 100) (he : ears < 16) (hr1 : reach < 10) :
    X8_knownFrom h m (nI j) (nI side) (nI later) (nI ears) (nI reach) = some (nI (kwd C L th n j ears reach side later)) := by
  have hm := mp.1.1.1
  have hL := mp_L mp
  have h30 := llen_30 hL
  have hn := mp.2.2.2.2.1
  have hw := mp.2.1
  obtain ⟨_, w1, w2, w3, w4, w5⟩ := hw.2.1 j hj
  unfold X8_knownFrom
  rw [if_pos (ms_c hm)]
  have hl2 := loop_st (fun fu k (a : Int32) => X8_knownFrom_L6 h m (nI j) (nI side) (nI later) (nI ears) (nI reach) fu a (nI k)) (fun k => nI (kwd C L th k j ears reach side later)) (some (nI (kwd C L th n j ears reach side later))) n (fun k fu hk => by
    try simp only []
    rw [X8_knownFrom_L6, ms_I hm, mp.2.2.2.1, Option.bind_some, if_pos (lt_lit hk (by omega)), jo0 mp.1.1 hw.2.1 hj, Option.bind_some, jo4 mp.1.1 hw.2.1 hj, Option.bind_some, nI_add, faces_n mp.1.1 (by omega) (by omega) (by omega), Option.bind_some, hearsDeed_n mp hk w1 (Nat.mod_lt _ (by omega)) he hr1, Option.bind_some, nI_p1]
    have e2 : kwd C L th (k + 1) j ears reach side later = if hd C L th k (jg C j 0) (trl ears ((side + (k + later) * jg C j 4) % 4)) reach = true then kwd C L th k j ears reach side later ||| 2 ^ wrd L k else kwd C L th k j ears reach side later := rfl
    rw [e2]
    cases hh : hd C L th k (jg C j 0) (trl ears ((side + (k + later) * jg C j 4) % 4)) reach with
    | false => rw [if_pos (by decide), if_neg (by simp), or_0]
    | true =>
      have hsd := hd_sd hh
      have s2 := (say_c hL (show k < llen L by omega) hsd).2.2.1
      rw [if_neg (by decide), ms_r42 hm, Option.bind_some, mp_said mp hk, Option.bind_some, if_pos hsd, shl1 _ (by omega), nI_or, if_pos rfl])
    (fun fu => by (try simp only []); rw [X8_knownFrom_L6, ms_I hm, mp.2.2.2.1, Option.bind_some, if_neg (nlt_lit (Nat.le_refl _) (by omega))]) FU (FU_gt (by omega))
  rw [show X8_knownFrom_L6 h m (nI j) (nI side) (nI later) (nI ears) (nI reach) FU 0 0 = _ from hl2]
  rfl
theorem knownIn_n {h : HA} {m c t j ears reach : Nat} {C L : CR} {th : Nat → Nat} {n : Nat} (mp : MP h m c t C L th n) (hj : j < cJ C) (he : ears < 16) (hr1 : reach < 10) :
    X8_knownIn h m (nI j) (nI ears) (nI reach) = some (nI (kwd C L th n j ears reach (jg C j 1) 0)) := by
  have hw := mp.2.1
  unfold X8_knownIn
  rw [if_pos (ms_c mp.1.1.1), jo1 mp.1.1 hw.2.1 hj, Option.bind_some, show X8_knownFrom h m (nI j) (nI (jg C j 1)) 0 (nI ears) (nI reach) = _ from knownFrom_n (later := 0) mp hj (hw.2.1 j hj).2.2.1 (by omega) he hr1]
  rfl
theorem known_n {h : HA} {m c t j : Nat} {C L : CR} {th : Nat → Nat} {n : Nat} (mp : MP h m c t C L th n) (hj : j < cJ C) : X8_known h m (nI j) = some (nI (kn C L th n j)) := by
  have hw := mp.2.1
  unfold X8_known
  rw [if_pos (ms_c mp.1.1.1), earsOf_n mp.1.1 hw.2.1 hj, Option.bind_some, jo3 mp.1.1 hw.2.1 hj, Option.bind_some, knownIn_n mp hj (eW_lt C j) (hw.2.1 j hj).2.2.2.2.1]
  rfl
