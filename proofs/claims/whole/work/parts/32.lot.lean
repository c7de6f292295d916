/-! the class, one lot of sounds -/
theorem cx_hold {r c p2 : Int} {M : Mem} {Lf : Int → Int} {Q : Int → Mem → Prop} (hc0 : 0 ≤ c) (hc : c < 10) (h0 : 0 ≤ M (r + 2) c) (h1 : M (r + 2) c ≤ M (r + 2) (c + 1)) (h2 : M (r + 2) (c + 1) ≤ 100) (hw : wfE (M (r + 3)) (M (r + 2) (c + 1) - M (r + 2) c).toNat (M (r + 2) c) 0) (hL : ∀ k, 0 ≤ k → k < 6 → M p2 k = Lf k) (k : Q (if hC M r Lf c = true then 1 else 0) M) : wp (f_X3_holds r c p2 M) Q := by
  unfold f_X3_holds
  refine wp_and ⟨hc0, by omega⟩ ?_
  obtain ⟨b, hb⟩ : ∃ b : Nat, M (r + 2) c = (b : Int) := ⟨(M (r + 2) c).toNat, by omega⟩
  obtain ⟨N, hN⟩ : ∃ N : Nat, M (r + 2) (c + 1) = (N : Int) := ⟨(M (r + 2) (c + 1)).toNat, by omega⟩
  have hT : hC M r Lf c = hdB (ev (M (r + 3)) (M (r + 4)) (M (r + 5)) Lf (N - b) (b : Int) []) := by
    unfold hC
    rw [hb, hN, show ((N : Int) - (b : Int)).toNat = N - b by omega]
  rw [hb, hN, show ((N : Int) - (b : Int)).toNat = N - b by omega] at hw
  rw [hb]
  refine wloop (St := List Bool) (L := fun fuel x st M' => f_X3_holds_10 r c p2 fuel c ((enc st : Nat) : Int) x M') (N := N) (Inv := fun i st M' => M' = M ∧ st.length ≤ 28 ∧ wfE (M (r + 3)) (N - i) (i : Int) st.length ∧ hdB (ev (M (r + 3)) (M (r + 4)) (M (r + 5)) Lf (N - i) (i : Int) st) = hC M r Lf c) (Q := Q) ?_ ?_ (N - b) FU b [] M (by rw [FU_e]; omega) (by omega) ⟨rfl, by simp, hw, hT.symm⟩
  · intro i fuel st M' hi ⟨e, hl, hw', ht⟩ kk
    subst e
    obtain ⟨m, hm⟩ : ∃ m, N - i = m + 1 := ⟨N - i - 1, by omega⟩
    rw [hm] at hw' ht
    have hm' : N - (i + 1) = m := by omega
    have hs : (i : Int) + 1 = ((i + 1 : Nat) : Int) := by omega
    show wp (f_X3_holds_10 r c p2 (fuel + 1) c ((enc st : Nat) : Int) (i : Int) M') Q
    rw [f_X3_holds_10.eq_2, w_id (z := c + 1) (by omega) (by omega), hN]
    refine wp_and ⟨by omega, by omega⟩ (wp_f (by omega) (wp_and ⟨by omega, by omega⟩ ?_))
    have hE := enc_30 hl
    unfold wfE at hw'
    unfold ev tk at ht
    rw [hs] at hw' ht
    rcases hw' with ⟨ho, hd, hw'⟩ | ⟨ho, hd, hw'⟩ | ⟨ho1, ho2, hd, hw'⟩
    · refine wp_t ho ?_
      rw [if_pos ho] at ht
      cases st with
      | nil => simp at hd
      | cons b t =>
        unfold f_X3_holds_191
        rw [w_suc (by omega), b_xor1 (by omega)]
        have e : (if enc (b :: t) % 2 = 0 then enc (b :: t) + 1 else enc (b :: t) - 1) = enc ((!b) :: t) := by
          cases b <;> simp [enc] <;> omega
        rw [e]
        exact kk ((!b) :: t) M' ⟨rfl, by simpa using hl, by rw [hm']; simpa using hw', by rw [hm']; exact ht⟩
    · rcases ho with ho | ho
      · refine wp_f (by omega) (wp_t ho ?_)
        rw [if_neg (by omega), if_pos ho] at ht
        cases st with
        | nil => simp at hd
        | cons a t0 =>
          cases t0 with
          | nil => simp at hd
          | cons b t =>
            unfold f_X3_holds_191
            rw [w_suc (by omega), b_and (by omega)]
            have e : (enc (a :: b :: t) / 4 * 2 + if enc (a :: b :: t) / 2 % 2 = 1 ∧ enc (a :: b :: t) % 2 = 1 then 1 else 0) = enc ((b && a) :: t) := by
              cases a <;> cases b <;> simp [enc] <;> (try split) <;> omega
            rw [e]
            exact kk ((b && a) :: t) M' ⟨rfl, by simp at hl ⊢; omega, by rw [hm']; simpa using hw', by rw [hm']; exact ht⟩
      · refine wp_f (by omega) (wp_f (by omega) (wp_t ho ?_))
        rw [if_neg (by omega), if_neg (by omega), if_pos ho] at ht
        cases st with
        | nil => simp at hd
        | cons a t0 =>
          cases t0 with
          | nil => simp at hd
          | cons b t =>
            unfold f_X3_holds_191
            rw [w_suc (by omega), b_orx (by omega)]
            have e : (enc (a :: b :: t) / 4 * 2 + if enc (a :: b :: t) / 2 % 2 = 1 ∨ enc (a :: b :: t) % 2 = 1 then 1 else 0) = enc ((b || a) :: t) := by
              cases a <;> cases b <;> simp [enc] <;> (try split) <;> omega
            rw [e]
            exact kk ((b || a) :: t) M' ⟨rfl, by simp at hl ⊢; omega, by rw [hm']; simpa using hw', by rw [hm']; exact ht⟩
    · refine wp_f (by omega) (wp_f (by omega) (wp_f (by omega) (wp_and ⟨by omega, by omega⟩ (wp_and ⟨ho1, by omega⟩ (wp_and ⟨by omega, by omega⟩ ?_)))))
      rw [if_neg (by omega), if_neg (by omega), if_neg (by omega)] at ht
      rw [hL _ ho1 (by omega)]
      have g : 0 ≤ (i : Int) ∧ (i : Int) < 100 := ⟨by omega, by omega⟩
      have tt : tq (M' (r + 4) (i : Int)) (Lf (M' (r + 3) (i : Int))) (M' (r + 5) (i : Int)) = true → wp (f_X3_holds_174 r c p2 (f_X3_holds_10 r c p2 fuel) c ((enc st : Nat) : Int) (i : Int) 1 M') Q := by
        intro hq
        unfold f_X3_holds_174 f_X3_holds_189 f_X3_holds_191
        rw [if_neg (by decide), w_suc (by omega), b_push1 (by omega)]
        exact kk (true :: st) M' ⟨rfl, by simp; omega, by rw [hm']; simpa using hw', by rw [hm']; rw [hq] at ht; exact ht⟩
      have ff : tq (M' (r + 4) (i : Int)) (Lf (M' (r + 3) (i : Int))) (M' (r + 5) (i : Int)) = false → wp (f_X3_holds_174 r c p2 (f_X3_holds_10 r c p2 fuel) c ((enc st : Nat) : Int) (i : Int) 0 M') Q := by
        intro hq
        unfold f_X3_holds_174 f_X3_holds_189 f_X3_holds_191
        rw [if_pos rfl, w_suc (by omega), b_push0 (by omega)]
        exact kk (false :: st) M' ⟨rfl, by simp; omega, by rw [hm']; simpa using hw', by rw [hm']; rw [hq] at ht; exact ht⟩
      by_cases c1 : 0 ≤ M' (r + 4) (i : Int)
      · refine wp_t c1 (wp_and g ?_)
        by_cases c2 : M' (r + 4) (i : Int) ≤ 0
        · refine wp_t c2 (wp_and g ?_)
          by_cases hq : Lf (M' (r + 3) (i : Int)) = M' (r + 5) (i : Int)
          · exact wp_t hq (tt ((tq_e (by omega)).trans (decide_eq_true hq)))
          · exact wp_f hq (ff ((tq_e (by omega)).trans (decide_eq_false hq)))
        · refine wp_f c2 (wp_and g ?_)
          by_cases hq : Lf (M' (r + 3) (i : Int)) ≤ M' (r + 5) (i : Int)
          · exact wp_t hq (ff ((tq_g (by omega)).trans (decide_eq_false (by omega))))
          · exact wp_f hq (tt ((tq_g (by omega)).trans (decide_eq_true (by omega))))
      · refine wp_f c1 (wp_and g ?_)
        by_cases hq : M' (r + 5) (i : Int) ≤ Lf (M' (r + 3) (i : Int))
        · exact wp_t hq (ff ((tq_l (by omega)).trans (decide_eq_false (by omega))))
        · exact wp_f hq (tt ((tq_l (by omega)).trans (decide_eq_true (by omega))))
  · intro fuel st M' ⟨e, hl, hw', ht⟩
    subst e
    rw [Nat.sub_self] at hw' ht
    unfold wfE at hw'
    unfold ev at ht
    show wp (f_X3_holds_10 r c p2 (fuel + 1) c ((enc st : Nat) : Int) (N : Int) M') Q
    rw [f_X3_holds_10.eq_2, w_id (z := c + 1) (by omega) (by omega), hN]
    refine wp_and ⟨by omega, by omega⟩ (wp_t (by omega) ?_)
    have hE := enc_30 hl
    rw [b_and1 (by omega)]
    cases st with
    | nil => simp at hw'
    | cons b t =>
      simp only [List.length_cons] at hw'
      obtain rfl : t = [] := List.eq_nil_of_length_eq_zero (by omega)
      rw [← ht] at k
      cases b
      · refine wp_f (by decide) ?_
        rw [wp_some]; exact k
      · refine wp_t (by decide) ?_
        rw [wp_some]; exact k
theorem gC_r {M : Mem} {r : Int} (h : wfS r M) (Lf : Int → Int) : ∀ n : Nat, (n : Int) ≤ M r 3 → -99 * n ≤ gC M r Lf n ∧ gC M r Lf n ≤ 99 * n
  | 0, _ => by unfold gC; omega
  | n + 1, q => by
    have ih := gC_r h Lf n (by omega)
    have hc := h.2.2 n (by omega) (by omega)
    unfold gC
    split <;> omega
theorem c_voice {o s h : Int} {e : Vw} {M : Mem} {Q : Int → Mem → Prop} (hR : Rg e) (ho : isLot o) (hL : LC o e M) (hs : 0 ≤ s ∧ s < 6) (k : ∀ M', (∀ j, j ≠ o + 18 → M' j = M j) → Q (vo e s h) M') : wp (f_X1_voiceIn o s h M) Q := by
  obtain ⟨l0, l6, ls, l5, hr, w0, w1, w2, hw, hg⟩ := hL
  obtain ⟨k1, k2, k3, k4⟩ := ls s hs.1 hs.2
  have hRs := hR.2.2.1 s
  unfold f_X1_voiceIn
  refine wp_and hs ?_
  by_cases hz : M (o + 3) s = 0
  · refine wp_t hz ?_
    rw [wp_some]
    have : vo e s h = 0 := by unfold vo; rw [if_pos (by omega)]
    rw [← this]
    exact k M (fun _ _ => rfl)
  · refine wp_f hz ?_
    simp only [lt, hs, and_self, if_true]
    generalize hb : stM (stM (stM (stM (stM (stM M (o + 18) 0 s) (o + 18) 1 h) (o + 18) 2 _) (o + 18) 3 _) (o + 18) 4 _) (o + 18) 5 _ = M1
    have f1 : ∀ j, j ≠ o + 18 → M1 j = M j := by
      intro j hj
      rw [← hb]
      simp only [st_nc hj]
    have d10 := w32_id (z := Int.tdiv (e.1 3 s) 10) (by have := tdiv_r (a := e.1 3 s) (d := 10) hRs.2.2.1.1 (by decide); constructor <;> omega)
    have f2 : ∀ q, 0 ≤ q → q < 6 → M1 (o + 18) q = lets e s h q := by
      intro q q0 q6
      rw [← hb]
      unfold lets
      simp only [st_nc (show o + 1 ≠ o + 18 by omega), st_nc (show o + 2 ≠ o + 18 by omega), st_nc (show o + 3 ≠ o + 18 by omega), st_nc (show o ≠ o + 18 by omega), st_ap, k1, k2, k3, l6, d10, true_and]
      have : q = 0 ∨ q = 1 ∨ q = 2 ∨ q = 3 ∨ q = 4 ∨ q = 5 := by omega
      rcases this with rfl | rfl | rfl | rfl | rfl | rfl <;> simp [d10]
    rw [f1 (o + 3) (by omega)]
    have hne : ∀ i : Int, 0 ≤ i → i ≤ 5 → M o 7 + i ≠ o + 18 := by
      intro i i0 i5
      rcases ho with rfl | rfl | rfl <;> (unfold isStr at hr; omega)
    have r0 : M1 (M o 7) = M (M o 7) := f1 _ (by have := hne 0 (by omega) (by omega); omega)
    have r1 := f1 _ (hne 1 (by omega) (by omega))
    have r2 := f1 _ (hne 2 (by omega) (by omega))
    have r3 := f1 _ (hne 3 (by omega) (by omega))
    have r4 := f1 _ (hne 4 (by omega) (by omega))
    have r5 := f1 _ (hne 5 (by omega) (by omega))
    have rr : M1 o = M o := f1 _ (by omega)
    have hw1 : wfS (M o 7) M1 := by unfold wfS; rw [r0, r1, r2, r3]; exact hw
    have hg1 : ∀ Lf, gC M1 (M o 7) Lf (M (M o 7) 3).toNat = e.2.2 Lf := by
      intro Lf
      rw [← hg Lf]
      generalize (M (M o 7) 3).toNat = n
      induction n with
      | zero => rfl
      | succ n ih => unfold gC hC; rw [ih, r1, r2, r3, r4, r5]
    obtain ⟨N, hN⟩ : ∃ N : Nat, M (M o 7) 3 = (N : Int) := ⟨(M (M o 7) 3).toNat, by have := hw.1; omega⟩
    have hN10 : N ≤ 10 := by have := hw.2.1; omega
    rw [hN, Int.toNat_natCast] at hg1
    refine wloop0 (St := Int) (L := fun fuel x st M' => f_X1_voiceIn_87 o s h fuel st x M') N (Inv := fun i st M' => M' = M1 ∧ st = M (o + 3) s + gC M1 (M o 7) (lets e s h) i) (Q := Q) (by omega) ?_ ?_ ⟨rfl, by unfold gC; omega⟩
    · intro i fuel st M' hi ⟨e1, e2⟩ kk
      subst e1
      show wp (f_X1_voiceIn_87 o s h (fuel + 1) st (i : Int) M') Q
      rw [f_X1_voiceIn_87.eq_2, rr, r0, hN]
      refine wp_f (by omega) ?_
      rw [wp_bind]
      have hc := hw1.2.2 i (by omega) (by rw [r0, hN]; omega)
      have gr := gC_r hw1 (lets e s h) i (by rw [r0, hN]; omega)
      refine cx_hold (Lf := lets e s h) (by omega) (by omega) hc.2.2.1 hc.2.2.2.1 hc.2.2.2.2.1 hc.2.2.2.2.2 f2 ?_
      have e3 : gC M' (M o 7) (lets e s h) (i + 1) = gC M' (M o 7) (lets e s h) i + (if hC M' (M o 7) (lets e s h) (i : Int) = true then M' (M o 7 + 1) (i : Int) else 0) := rfl
      by_cases hq : hC M' (M o 7) (lets e s h) (i : Int) = true
      · rw [if_pos hq] at e3
        rw [if_pos hq]
        refine wp_f (show ¬ (1 : Int) = 0 by decide) (wp_and ⟨by omega, by omega⟩ ?_)
        unfold f_X1_voiceIn_128
        simp only [rr]
        rw [w_suc (by omega), w_id (by omega) (by omega)]
        exact kk _ M' ⟨rfl, by rw [e3, e2]; omega⟩
      · rw [if_neg hq] at e3
        rw [if_neg hq]
        refine wp_t rfl ?_
        unfold f_X1_voiceIn_128
        rw [w_suc (by omega)]
        exact kk _ M' ⟨rfl, by rw [e3, e2]; omega⟩
    · intro fuel st M' ⟨e1, e2⟩
      subst e1
      show wp (f_X1_voiceIn_87 o s h (fuel + 1) st (N : Int) M') Q
      rw [f_X1_voiceIn_87.eq_2, rr, r0, hN]
      refine wp_t (by omega) ?_
      rw [wp_some]
      have : vo e s h = max 0 st := by
        unfold vo
        rw [if_neg (by omega), e2, hg1, k3]
      rw [← this]
      exact k M' f1
theorem c_heard {o s vc f t : Int} {e : Vw} {M : Mem} {Q : Int → Mem → Prop} (hR : Rg e) (hL : LC o e M) (hs : 0 ≤ s ∧ s < 6) (hf : 0 ≤ f ∧ f ≤ 4) (ht : 0 ≤ t ∧ t ≤ 4) (hv : 0 ≤ vc ∧ vc ≤ 1089) (k : Q (hb e s vc f t) M) : wp (f_X1_heard o s vc f t M) Q := by
  obtain ⟨l0, l6, ls, l5, hr, w0, w1, w2, hw, hg⟩ := hL
  obtain ⟨k1, k2, k3, k4⟩ := ls s hs.1 hs.2
  obtain ⟨_, y, a, w, _⟩ := hR
  have a1 := a s
  have w00 := w 0
  have d := far_r hf.1 hf.2 ht.1 ht.2
  have m := mul_r w00.1 w00.2 d.1 d.2
  have t2 := tdiv_r (d := 2) w00.1 (by decide)
  have m2 := mul_r (a := Int.tdiv (e.2.1 0) 2) t2.1 (by omega) d.1 d.2
  have t3 := tdiv_r (a := max 0 (vc - e.2.1 0 * far f t)) (d := 2) (by omega) (by decide)
  have t4 := tmod_r (a := e.1 6 0) (d := 4) y.1 (by decide)
  have a2 := a (s * 4 + Int.tmod (e.1 6 0) 4)
  have e1 : ab32 (w32 (f - t)) = far f t := by
    unfold ab32 far
    rw [w_id (by omega) (by omega)]
    rw [w_id (z := -(f - t)) (by omega) (by omega)]
    split <;> split <;> omega
  unfold f_X1_heard f_X1_heard_65
  rw [l6, w0, e1, w_id (z := e.2.1 0 * far f t) (by omega) (by omega), w_id (z := Int.tdiv (e.2.1 0) 2) (by omega) (by omega), w_id (z := Int.tdiv (e.2.1 0) 2 * far f t) (by omega) (by omega), w_id (z := vc - e.2.1 0 * far f t) (by omega) (by omega), w_id (z := vc - Int.tdiv (e.2.1 0) 2 * far f t) (by omega) (by omega), w_id (z := Int.tdiv (max 0 (vc - e.2.1 0 * far f t)) 2) (by omega) (by omega), w_id (z := s * 4) (by omega) (by omega), w_id (z := s * 4 + Int.tmod (e.1 6 0) 4) (by omega) (by omega), l5 _ (by omega) (by omega), k1, k2]
  have g : 0 ≤ s * 4 + Int.tmod (e.1 6 0) 4 ∧ s * 4 + Int.tmod (e.1 6 0) 4 < 24 := by omega
  rw [w_id (z := Int.tdiv (max 0 (vc - e.2.1 0 * far f t)) 2 + e.1 2 s) (by omega) (by omega), w_id (z := max 0 (vc - e.2.1 0 * far f t) + e.1 2 s) (by omega) (by omega), w_id (z := max 0 (vc - Int.tdiv (e.2.1 0) 2 * far f t) + e.1 5 (s * 4 + Int.tmod (e.1 6 0) 4)) (by omega) (by omega)]
  simp only [hs, g, and_self, if_true]
  unfold hb at k
  generalize Int.tdiv (max 0 (vc - e.2.1 0 * far f t)) 2 = D1 at *
  generalize max 0 (vc - e.2.1 0 * far f t) = D2 at *
  generalize max 0 (vc - Int.tdiv (e.2.1 0) 2 * far f t) = D3 at *
  generalize e.1 5 (s * 4 + Int.tmod (e.1 6 0) 4) = RW at *
  generalize Int.tmod (e.1 6 0) 2 = Y at *
  generalize e.1 1 s = KK at *
  generalize e.1 2 s = VV at *
  generalize far f t = FF at *
  clear l0 l6 ls l5 hr w0 w1 w2 hw hg k1 k2 k3 k4 y a a1 w w00 d m t2 m2 t3 t4 a2 e1 g
  simp only [wp_ite, wp_some]
  grind

theorem c_isLost {o s : Int} {M : Mem} {Q : Int → Mem → Prop} (hs : 0 ≤ s ∧ s < 6) (k : Q (if M (o + 4) s = -1 then 1 else 0) M) : wp (f_X1_isLost o s M) Q := by
  unfold f_X1_isLost
  refine wp_and hs ?_
  by_cases h : M (o + 4) s = -1
  · rw [if_pos h] at k ⊢; exact wp_some.mpr k
  · rw [if_neg h] at k ⊢; exact wp_some.mpr k
theorem SC_fr {o r : Int} {e : Vw} {M M' : Mem} (ho : isLot o) (h : SC r e M) (hM : ∀ j, j ≠ o + 18 → M' j = M j) : SC r e M' := by
  obtain ⟨hr, w0, w1, w2, hw, hg⟩ := h
  have hne : ∀ i : Int, 0 ≤ i → i ≤ 5 → r + i ≠ o + 18 := by
    intro i i0 i5
    rcases ho with rfl | rfl | rfl <;> (unfold isStr at hr; omega)
  have r0 : M' r = M r := hM _ (by have := hne 0 (by omega) (by omega); omega)
  have r1 := hM _ (hne 1 (by omega) (by omega))
  have r2 := hM _ (hne 2 (by omega) (by omega))
  have r3 := hM _ (hne 3 (by omega) (by omega))
  have r4 := hM _ (hne 4 (by omega) (by omega))
  have r5 := hM _ (hne 5 (by omega) (by omega))
  refine ⟨hr, by rw [r0]; exact w0, by rw [r0]; exact w1, by rw [r0]; exact w2, by unfold wfS; rw [r0, r1, r2, r3]; exact hw, ?_⟩
  intro Lf
  rw [← hg Lf, r0]
  generalize (M r 3).toNat = n
  induction n with
  | zero => rfl
  | succ n ih => unfold gC hC; rw [ih, r1, r2, r3, r4, r5]
/-- what a street holds doesn't hang on cells that aren't its own -/
theorem SC_fr2 {r : Int} {e e' : Vw} {M M' : Mem} (h : SC r e M) (hM : ∀ i : Int, 0 ≤ i → i ≤ 5 → M' (r + i) = M (r + i)) (he : e'.2 = e.2) : SC r e' M' := by
  obtain ⟨hr, w0, w1, w2, hw, hg⟩ := h
  have r0 : M' r = M r := by have := hM 0 (by omega) (by omega); simpa using this
  have r1 := hM 1 (by omega) (by omega)
  have r2 := hM 2 (by omega) (by omega)
  have r3 := hM 3 (by omega) (by omega)
  have r4 := hM 4 (by omega) (by omega)
  have r5 := hM 5 (by omega) (by omega)
  refine ⟨hr, by rw [r0, he]; exact w0, by rw [r0, he]; exact w1, by rw [r0, he]; exact w2, by unfold wfS; rw [r0, r1, r2, r3]; exact hw, ?_⟩
  intro Lf
  rw [he, ← hg Lf, r0]
  generalize (M r 3).toNat = n
  induction n with
  | zero => rfl
  | succ n ih => unfold gC hC; rw [ih, r1, r2, r3, r4, r5]
theorem LC_fr {o : Int} {e : Vw} {M M' : Mem} (ho : isLot o) (h : LC o e M) (hM : ∀ j, j ≠ o + 18 → M' j = M j) : LC o e M' := by
  obtain ⟨l0, l6, ls, l5, hs⟩ := h
  refine ⟨by rw [hM _ (by omega)]; exact l0, by rw [hM _ (by omega)]; exact l6, ?_, ?_, ?_⟩
  · intro s h0 h6
    rw [hM (o + 1) (by omega), hM (o + 2) (by omega), hM (o + 3) (by omega), hM (o + 4) (by omega)]
    exact ls s h0 h6
  · rw [hM (o + 5) (by omega)]; exact l5
  · rw [hM o (by omega)]
    exact SC_fr ho hs hM
theorem c_heardIn {o s t : Int} {e : Vw} {M : Mem} {Q : Int → Mem → Prop} (hR : Rg e) (ho : isLot o) (hL : LC o e M) (hs : 0 ≤ s ∧ s < 6) (ht : 0 ≤ t ∧ t ≤ 4) (k : ∀ M', (∀ j, j ≠ o + 18 → M' j = M j) → Q (if e.1 4 s = -1 then 0 else Fh e s (e.1 4 s) t) M') : wp (f_X1_heardIn o s t M) Q := by
  have k4 := (hL.2.2.1 s hs.1 hs.2).2.2.2
  have hRs := (hR.2.2.1 s).2.2.2.1
  unfold f_X1_heardIn
  rw [wp_bind]
  refine c_isLost hs ?_
  rw [k4]
  by_cases hq : e.1 4 s = -1
  · rw [if_pos hq] at k
    rw [if_pos hq]
    refine wp_f (show ¬ (1 : Int) = 0 by decide) ?_
    rw [wp_some]
    exact k M (fun _ _ => rfl)
  · rw [if_neg hq] at k
    rw [if_neg hq]
    refine wp_t rfl (wp_and hs ?_)
    rw [wp_bind]
    refine c_voice hR ho hL hs ?_
    intro M1 h1
    have h2 : M1 (o + 4) = M (o + 4) := h1 _ (by omega)
    show wp (if 0 ≤ s ∧ s < 6 then (f_X1_heard o s (vo e s (M (o + 4) s)) (M1 (o + 4) s) t M1).bind _ else none) Q
    refine wp_and hs ?_
    rw [wp_bind, h2, k4]
    refine c_heard hR (LC_fr ho hL h1) hs (by omega) ht (vo_r hR _ _) ?_
    rw [wp_some]
    exact k M1 h1
theorem c_noise {o t : Int} {e : Vw} {M : Mem} {Q : Int → Mem → Prop} (hR : Rg e) (ho : isLot o) (hL : LC o e M) (ht : 0 ≤ t ∧ t ≤ 4) (k : ∀ M', (∀ j, j ≠ o + 18 → M' j = M j) → Q (NZ e t) M') : wp (f_X1_noiseOf o t M) Q := by
  unfold f_X1_noiseOf
  have hn := hR.1
  refine wloop0 (St := Int) (L := fun fuel x st M' => f_X1_noiseOf_4 o t fuel t st x M') (e.1 0 0).toNat (Inv := fun i st M' => (∀ j, j ≠ o + 18 → M' j = M j) ∧ st = nzs (Fh e) (e.1 4) t i) (Q := Q) (by omega) ?_ ?_ ⟨fun _ _ => rfl, rfl⟩
  · intro i fuel st M' hi ⟨h1, h2⟩ kk
    have hL' := LC_fr ho hL h1
    show wp (f_X1_noiseOf_4 o t (fuel + 1) t st (i : Int) M') Q
    rw [f_X1_noiseOf_4.eq_2, hL'.1]
    refine wp_f (by omega) ?_
    rw [wp_bind]
    refine c_heardIn hR ho hL' (by omega) ht ?_
    intro M2 h3
    have r1 := NZ_r hR ht.1 ht.2 i (by omega)
    have r2 := NZ_r hR ht.1 ht.2 (i + 1) (by omega)
    have e3 : nzs (Fh e) (e.1 4) t (i + 1) = nzs (Fh e) (e.1 4) t i + (if e.1 4 (i : Int) = -1 then 0 else Fh e (i : Int) (e.1 4 (i : Int)) t) := rfl
    simp only []
    rw [w_suc (by omega), h2, ← e3, w_id (by omega) (by omega)]
    exact kk _ M2 ⟨fun j hj => by rw [h3 j hj, h1 j hj], rfl⟩
  · intro fuel st M' ⟨h1, h2⟩
    have hL' := LC_fr ho hL h1
    show wp (f_X1_noiseOf_4 o t (fuel + 1) t st (((e.1 0 0).toNat : Nat) : Int) M') Q
    rw [f_X1_noiseOf_4.eq_2, hL'.1]
    refine wp_t (by omega) ?_
    rw [wp_some, h2]
    exact k M' h1
theorem c_great {o : Int} {e : Vw} {M : Mem} {Q : Int → Mem → Prop} (hR : Rg e) (ho : isLot o) (hL : LC o e M) (k : ∀ M', (∀ j, j ≠ o + 18 → M' j = M j) → Q (grs (NZ e) 5) M') : wp (f_X1_greatest o M) Q := by
  unfold f_X1_greatest
  refine wloop0 (St := Int) (L := fun fuel x st M' => f_X1_greatest_4 o fuel st x M') 5 (Inv := fun i st M' => (∀ j, j ≠ o + 18 → M' j = M j) ∧ st = grs (NZ e) i) (Q := Q) (by omega) ?_ ?_ ⟨fun _ _ => rfl, rfl⟩
  · intro i fuel st M' hi ⟨h1, h2⟩ kk
    have hL' := LC_fr ho hL h1
    show wp (f_X1_greatest_4 o (fuel + 1) st (i : Int) M') Q
    rw [f_X1_greatest_4.eq_2]
    refine wp_f (by omega) ?_
    rw [wp_bind]
    refine c_noise hR ho hL' (by omega) ?_
    intro M2 h3
    simp only []
    rw [w_suc (by omega), h2]
    exact kk _ M2 ⟨fun j hj => by rw [h3 j hj, h1 j hj], rfl⟩
  · intro fuel st M' ⟨h1, h2⟩
    show wp (f_X1_greatest_4 o (fuel + 1) st ((5 : Nat) : Int) M') Q
    rw [f_X1_greatest_4.eq_2]
    refine wp_t (by omega) ?_
    rw [wp_some, h2]
    exact k M' h1
theorem c_still {o : Int} {e : Vw} {M : Mem} {Q : Int → Mem → Prop} (hR : Rg e) (ho : isLot o) (hL : LC o e M) (k : ∀ M', (∀ j, j ≠ o + 18 → M' j = M j) → Q (bts (fun t => decide (NZ e t ≤ e.2.1 1)) 5) M') : wp (f_X1_stillHouses o M) Q := by
  unfold f_X1_stillHouses
  refine wloop0 (St := Int) (L := fun fuel x st M' => f_X1_stillHouses_4 o fuel st x M') 5 (Inv := fun i st M' => (∀ j, j ≠ o + 18 → M' j = M j) ∧ st = bts (fun t => decide (NZ e t ≤ e.2.1 1)) i) (Q := Q) (by omega) ?_ ?_ ⟨fun _ _ => rfl, rfl⟩
  · intro i fuel st M' hi ⟨h1, h2⟩ kk
    have hL' := LC_fr ho hL h1
    show wp (f_X1_stillHouses_4 o (fuel + 1) st (i : Int) M') Q
    rw [f_X1_stillHouses_4.eq_2]
    refine wp_f (by omega) ?_
    rw [wp_bind]
    refine c_noise hR ho hL' (by omega) ?_
    intro M2 h3
    have hL2 := LC_fr ho hL' h3
    simp only []
    have e3 : bts (fun t => decide (NZ e t ≤ e.2.1 1)) (i + 1) = if (decide (NZ e (i : Int) ≤ e.2.1 1)) = true then or32 (bts (fun t => decide (NZ e t ≤ e.2.1 1)) i) (shl32 1 (i : Int)) else bts (fun t => decide (NZ e t ≤ e.2.1 1)) i := rfl
    rw [hL2.2.2.2.2.2.2.1]
    unfold f_X1_stillHouses_30
    rw [w_suc (by omega), h2]
    by_cases hq : NZ e (i : Int) ≤ e.2.1 1
    · rw [if_pos (decide_eq_true hq)] at e3
      refine wp_f (by omega) (kk _ M2 ⟨fun j hj => by rw [h3 j hj, h1 j hj], e3.symm⟩)
    · rw [if_neg (by rw [decide_eq_false hq]; decide)] at e3
      refine wp_t (by omega) (kk _ M2 ⟨fun j hj => by rw [h3 j hj, h1 j hj], e3.symm⟩)
  · intro fuel st M' ⟨h1, h2⟩
    show wp (f_X1_stillHouses_4 o (fuel + 1) st ((5 : Nat) : Int) M') Q
    rw [f_X1_stillHouses_4.eq_2]
    refine wp_t (by omega) ?_
    rw [wp_some, h2]
    exact k M' h1
theorem c_wears {o s : Int} {e : Vw} {M : Mem} {Q : Int → Mem → Prop} (hR : Rg e) (hL : LC o e M) (hs : 0 ≤ s ∧ s < 6) (k : Q (we e s) M) : wp (f_X1_wears o s M) Q := by
  obtain ⟨l0, l6, ls, l5, hr, w0, w1, w2, hw, hg⟩ := hL
  have k1 := (ls s hs.1 hs.2).1
  have w00 := hR.2.2.2.1 2
  have t2 := tdiv_r (d := 2) w00.1 (by decide)
  unfold f_X1_wears
  rw [w2, l6, k1, w_id (by omega) (by omega)]
  unfold we at k
  simp only [wp_ite, wp_some, wp_none]
  grind
