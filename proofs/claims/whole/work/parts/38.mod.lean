/-! the model: one street's sounds -/
def hm (z : Int) : Int := if z = -1 then -5 else z
def opM (t : Int) : Int := if t = -33 then 6 else if t = -38 then 7 else if t < 0 then 8 else Int.tdiv t 1000
def odM (t : Int) : Int := Int.tmod (Int.tdiv t 100) 10 - 1
def nuM (t : Int) : Int := Int.tmod t 100
def hMd (M : Mem) (Lf : Int → Int) (c : Int) : Bool := hdB (ev (fun i => opM (M 139 i)) (fun i => odM (M 139 i)) (fun i => nuM (M 139 i)) Lf (M 138 c - M 137 c).toNat (M 137 c) [])
def gM (M : Mem) (b : Int) (Lf : Int → Int) : Nat → Int
  | 0 => 0
  | n + 1 => gM M b Lf n + (if M 135 (b + n) ≤ 1 ∧ hMd M Lf (b + n) = true then (if M 135 (b + n) = 0 then M 136 (b + n) else -M 136 (b + n)) else 0)
def lsM (M : Mem) (b w d : Int) : Nat → Int
  | 0 => d
  | n + 1 => if M 135 (b + n) = w then M 136 (b + n) else lsM M b w d n
def wfC (M : Mem) (c : Int) : Prop := 0 ≤ M 135 c ∧ M 135 c ≤ 4 ∧ 0 ≤ M 136 c ∧ M 136 c ≤ 99 ∧ (M 135 c ≤ 1 → 0 ≤ M 137 c ∧ M 137 c ≤ M 138 c ∧ M 138 c ≤ 600 ∧ wfE (fun i => opM (M 139 i)) (M 138 c - M 137 c).toNat (M 137 c) 0 ∧ ∀ i, M 137 c ≤ i → i < M 138 c → 0 ≤ M 139 i → M 139 i < 6000 ∧ 0 ≤ odM (M 139 i) + 1 ∧ odM (M 139 i) ≤ 1)
def cnM (k : Int) (M : Mem) : Nat := if 0 ≤ k then (M 134 k).toNat else 0
def SM (k : Int) (e : Vw) (M : Mem) : Prop := (-1 ≤ k ∧ k ≤ 5) ∧ (0 ≤ k → 0 ≤ M 134 k ∧ M 134 k ≤ 10 ∧ ∀ c : Int, 10 * k ≤ c → c < 10 * k + M 134 k → wfC M c) ∧ e.2.1 0 = lsM M (10 * k) 2 6 (cnM k M) ∧ e.2.1 1 = lsM M (10 * k) 3 10 (cnM k M) ∧ e.2.1 2 = lsM M (10 * k) 4 1 (cnM k M) ∧ ∀ Lf, gM M (10 * k) Lf (cnM k M) = e.2.2 Lf
def LM (e : Vw) (M : Mem) : Prop := M 127 0 = e.1 0 0 ∧ M 127 1 = e.1 6 0 ∧ (∀ s : Int, 0 ≤ s → s < 6 → M 128 s = e.1 1 s ∧ M 129 s = e.1 2 s ∧ M 130 s = e.1 3 s ∧ M 131 s = hm (e.1 4 s)) ∧ (∀ i : Int, 0 ≤ i → i < 4 * e.1 0 0 → M 132 i = e.1 5 i) ∧ SM (M 127 8) e M
def PL : List Bool → Mem → Prop
  | [], _ => True
  | b :: t, M => M 142 (t.length : Int) = (if b = true then 1 else 0) ∧ PL t M
theorem PL_fr : ∀ (st : List Bool) (M M' : Mem), PL st M → (∀ q : Int, q < st.length → M' 142 q = M 142 q) → PL st M'
  | [], _, _, _, _ => True.intro
  | b :: t, M, M', h, hq => ⟨by rw [hq _ (by rw [List.length_cons]; omega)]; exact h.1, PL_fr t M M' h.2 (fun q h2 => hq q (by rw [List.length_cons]; omega))⟩
theorem m_fact {e : Vw} {M : Mem} {s h f : Int} {Q : Int → Mem → Prop} (hR : Rg e) (hL : LM e M) (hs : 0 ≤ s ∧ s < 6) (hf : 0 ≤ f ∧ f ≤ 5) (k : Q (lets e s h f) M) : wp (f_X8_factOf f s h M) Q := by
  obtain ⟨a1, a2, a3, a4⟩ := hL.2.2.1 s hs.1 hs.2
  have d := tdiv_r (a := e.1 3 s) (d := 10) (hR.2.2.1 s).2.2.1.1 (by decide)
  have r := (hR.2.2.1 s).2.2.1.2
  unfold f_X8_factOf
  rw [a1, a2, a3, hL.2.1, w_id (by omega) (by omega)]
  unfold lets at k
  simp only [hs, and_self, if_true]
  have : f = 0 ∨ f = 1 ∨ f = 2 ∨ f = 3 ∨ f = 4 ∨ f = 5 := by omega
  rcases this with rfl | rfl | rfl | rfl | rfl | rfl <;> exact wp_some.mpr k
theorem m_hold {e : Vw} {M : Mem} {c s h : Int} {Q : Int → Mem → Prop} (hR : Rg e) (hL : LM e M) (hs : 0 ≤ s ∧ s < 6) (hc : 0 ≤ c ∧ c < 60) (hw : wfC M c) (h1 : M 135 c ≤ 1)
    (k : ∀ M', (∀ j, j ≠ 142 → M' j = M j) → Q (if hMd M (lets e s h) c = true then 1 else 0) M') : wp (f_X8_holds c s h M) Q := by
  obtain ⟨_, _, _, _, hw⟩ := hw
  obtain ⟨p1, p2, p3, p4, p5⟩ := hw h1
  unfold f_X8_holds
  refine wp_and hc ?_
  obtain ⟨b, hb⟩ : ∃ b : Nat, M 137 c = (b : Int) := ⟨(M 137 c).toNat, by omega⟩
  obtain ⟨N, hN⟩ : ∃ N : Nat, M 138 c = (N : Int) := ⟨(M 138 c).toNat, by omega⟩
  generalize hop : (fun i => opM (M 139 i)) = op at p4
  generalize hod : (fun i => odM (M 139 i)) = od
  generalize hnu : (fun i => nuM (M 139 i)) = nu
  have hT : hMd M (lets e s h) c = hdB (ev op od nu (lets e s h) (N - b) (b : Int) []) := by
    unfold hMd
    rw [hop, hod, hnu, hb, hN, show ((N : Int) - (b : Int)).toNat = N - b by omega]
  rw [hb, hN, show ((N : Int) - (b : Int)).toNat = N - b by omega] at p4
  rw [hb]
  generalize hMd M (lets e s h) c = T at hT k
  refine wloop (St := List Bool) (L := fun fuel x st M' => f_X8_holds_11 c s h fuel c s h ((st.length : Nat) : Int) x M') (N := N) (Inv := fun i st M' => (∀ j, j ≠ 142 → M' j = M j) ∧ PL st M' ∧ st.length ≤ 28 ∧ wfE op (N - i) (i : Int) st.length ∧ hdB (ev op od nu (lets e s h) (N - i) (i : Int) st) = T ∧ b ≤ i) (Q := Q) ?_ ?_ (N - b) FU b [] M (by rw [FU_e]; omega) (by omega) ⟨fun _ _ => rfl, True.intro, by simp, p4, hT.symm, Nat.le_refl _⟩
  · intro i fuel st M' hi ⟨h1, hP, hl, hw', ht, hbi⟩ kk
    obtain ⟨m, hmm⟩ : ∃ m, N - i = m + 1 := ⟨N - i - 1, by omega⟩
    rw [hmm] at hw' ht
    have hm' : N - (i + 1) = m := by omega
    have hi1 : (i : Int) + 1 = ((i + 1 : Nat) : Int) := by omega
    show wp (f_X8_holds_11 c s h (fuel + 1) c s h ((st.length : Nat) : Int) (i : Int) M') Q
    have hL' : LM e M' := by
      obtain ⟨q0, q6, qs, q5, qS⟩ := hL
      refine ⟨by rw [h1 127 (by decide)]; exact q0, by rw [h1 127 (by decide)]; exact q6, by rw [h1 128 (by decide), h1 129 (by decide), h1 130 (by decide), h1 131 (by decide)]; exact qs, by rw [h1 132 (by decide)]; exact q5, ?_⟩
      obtain ⟨z1, z2, z3, z4, z5, z6⟩ := qS
      have eg : ∀ Lf n b, gM M' b Lf n = gM M b Lf n := by
        intro Lf n b
        induction n with
        | zero => rfl
        | succ n ih => unfold gM hMd; rw [ih, h1 135 (by decide), h1 136 (by decide), h1 137 (by decide), h1 138 (by decide), h1 139 (by decide)]
      have el : ∀ b w d n, lsM M' b w d n = lsM M b w d n := by
        intro b w d n
        induction n with
        | zero => rfl
        | succ n ih => unfold lsM; rw [ih, h1 135 (by decide), h1 136 (by decide)]
      refine ⟨by rw [h1 127 (by decide)]; exact z1, by unfold wfC; rw [h1 127 (by decide), h1 134 (by decide), h1 135 (by decide), h1 136 (by decide), h1 137 (by decide), h1 138 (by decide), h1 139 (by decide)]; exact z2, ?_, ?_, ?_, ?_⟩
      · unfold cnM; rw [h1 127 (by decide), h1 134 (by decide), el]; exact z3
      · unfold cnM; rw [h1 127 (by decide), h1 134 (by decide), el]; exact z4
      · unfold cnM; rw [h1 127 (by decide), h1 134 (by decide), el]; exact z5
      · intro Lf; unfold cnM; rw [h1 127 (by decide), h1 134 (by decide), eg]; exact z6 Lf
    rw [f_X8_holds_11.eq_2, h1 138 (by decide), h1 139 (by decide), hN]
    refine wp_and hc (wp_f (by omega) (wp_and ⟨by omega, by omega⟩ ?_))
    unfold wfE at hw'
    unfold ev tk at ht
    rw [hi1] at hw' ht
    have hopi : op (i : Int) = opM (M 139 (i : Int)) := by rw [← hop]
    have hodi : od (i : Int) = odM (M 139 (i : Int)) := by rw [← hod]
    have hnui : nu (i : Int) = nuM (M 139 (i : Int)) := by rw [← hnu]
    have p5i := p5 (i : Int) (by omega) (by omega)
    generalize M 139 (i : Int) = t at hopi hodi hnui p5i
    have td := fun h => tdiv_r (a := t) (d := 1000) h (by decide)
    have td5 : 0 ≤ t → t < 6000 → Int.tdiv t 1000 ≤ 5 := fun a b => by rw [Int.tdiv_eq_ediv_of_nonneg a]; omega
    -- a push, a change at the top
    have put : ∀ (st' : List Bool) (b : Bool) (M2 : Mem), (∀ j, j ≠ 142 → M2 j = M' j) → PL st' M2 → M2 142 (st'.length : Int) = (if b = true then 1 else 0) → (b :: st').length ≤ 28 → wfE op m ((i + 1 : Nat) : Int) (b :: st').length → hdB (ev op od nu (lets e s h) m ((i + 1 : Nat) : Int) (b :: st')) = T → wp (f_X8_holds_11 c s h fuel c s h (((b :: st').length : Nat) : Int) ((i + 1 : Nat) : Int) M2) Q := by
      intro st' b M2 e1 e2 e3 e4 e5 e6
      exact kk (b :: st') M2 ⟨fun j hj => (e1 j hj).trans (h1 j hj), ⟨e3, e2⟩, e4, by rw [hm']; exact e5, by rw [hm']; exact e6, by omega⟩
    have stf : ∀ (st' : List Bool) (x z : Int), PL st' M' → x = (st'.length : Int) → PL st' (stM M' 142 x z) ∧ stM M' 142 x z 142 (st'.length : Int) = z := by
      intro st' x z e1 e2
      refine ⟨PL_fr st' M' _ e1 (fun q hq => by rw [st_ap, if_neg (by omega)]), by rw [st_ap, if_pos ⟨rfl, e2.symm⟩]⟩
    rcases hw' with ⟨ho, hd, hw'⟩ | ⟨ho, hd, hw'⟩ | ⟨ho1, ho2, hd, hw'⟩
    · -- not
      have ht33 : t = -33 := by
        unfold opM at hopi
        by_cases q : t = -33
        · exact q
        · rw [if_neg q] at hopi
          by_cases q2 : t = -38
          · rw [if_pos q2] at hopi; omega
          · rw [if_neg q2] at hopi
            by_cases q3 : t < 0
            · rw [if_pos q3] at hopi; omega
            · rw [if_neg q3] at hopi
              have := td5 (by omega) (p5i (by omega)).1
              omega
      refine wp_t ht33 ?_
      rw [if_pos ho] at ht
      cases st with
      | nil => simp at hd
      | cons b st' =>
        simp only [List.length_cons] at hl hw' ⊢
        rw [w_id (z := ((st'.length + 1 : Nat) : Int) - 1) (by omega) (by omega), show ((st'.length + 1 : Nat) : Int) - 1 = (st'.length : Int) by omega, hP.1]
        refine wp_and (by omega) ?_
        unfold f_X8_holds_63 f_X8_holds_247
        rw [w_suc (by omega)]
        cases b with
        | true =>
          refine wp_f (by decide) (wp_and (by omega) (wp_and (by decide) ?_))
          rw [wp_lt]
          exact put st' false _ (fun j hj => st_nc hj) (stf st' _ _ hP.2 rfl).1 (stf st' _ _ hP.2 rfl).2 hl hw' ht
        | false =>
          refine wp_t (by decide) (wp_and (by omega) (wp_and (by decide) ?_))
          rw [wp_lt]
          exact put st' true _ (fun j hj => st_nc hj) (stf st' _ _ hP.2 rfl).1 (stf st' _ _ hP.2 rfl).2 hl hw' ht
    · -- and, or
      have htn : t ≠ -33 ∧ t < 0 ∧ (t = -38 → op (i : Int) = 7) ∧ (¬ t = -38 → op (i : Int) = 8) := by
        unfold opM at hopi
        by_cases q : t = -33
        · rw [if_pos q] at hopi; omega
        · rw [if_neg q] at hopi
          by_cases q2 : t = -38
          · rw [if_pos q2] at hopi
            exact ⟨q, by omega, fun _ => hopi, fun h => absurd q2 h⟩
          · rw [if_neg q2] at hopi
            by_cases q3 : t < 0
            · rw [if_pos q3] at hopi
              exact ⟨q, q3, fun h => absurd h q2, fun _ => hopi⟩
            · rw [if_neg q3] at hopi
              have := td5 (by omega) (p5i (by omega)).1
              omega
      refine wp_f htn.1 (wp_f (by omega) ?_)
      cases st with
      | nil => simp at hd
      | cons a st0 =>
        cases st0 with
        | nil => simp at hd
        | cons b st' =>
          simp only [List.length_cons] at hl hw' ⊢
          have hPa : M' 142 ((st'.length + 1 : Nat) : Int) = (if a = true then 1 else 0) := hP.1
          have hPb : M' 142 ((st'.length : Nat) : Int) = (if b = true then 1 else 0) := hP.2.1
          rw [w_id (z := ((st'.length + 1 + 1 : Nat) : Int) + (-1)) (by omega) (by omega), show ((st'.length + 1 + 1 : Nat) : Int) + (-1) = ((st'.length + 1 : Nat) : Int) by omega, w_id (z := ((st'.length + 1 : Nat) : Int) - 1) (by omega) (by omega), show ((st'.length + 1 : Nat) : Int) - 1 = (st'.length : Int) by omega, hPa, hPb]
          unfold f_X8_holds_116 f_X8_holds_142 f_X8_holds_147 f_X8_holds_247
          rw [w_suc (by omega)]
          have fin : ∀ r : Bool, wfE op m ((i + 1 : Nat) : Int) (r :: st').length → hdB (ev op od nu (lets e s h) m ((i + 1 : Nat) : Int) (r :: st')) = T → wp (f_X8_holds_11 c s h fuel c s h ((st'.length + 1 : Nat) : Int) ((i + 1 : Nat) : Int) (stM M' 142 (st'.length : Int) (if r = true then 1 else 0))) Q := by
            intro r e1 e2
            exact put st' r _ (fun j hj => st_nc hj) (stf st' _ _ hP.2.2 rfl).1 (stf st' _ _ hP.2.2 rfl).2 (by rw [List.length_cons]; omega) e1 e2
          have hw2 : wfE op m ((i + 1 : Nat) : Int) (st'.length + 1) := hw'
          have g1 : 0 ≤ (st'.length : Int) ∧ (st'.length : Int) < 100 := by omega
          have g2 : 0 ≤ ((st'.length + 1 : Nat) : Int) ∧ ((st'.length + 1 : Nat) : Int) < 100 := by omega
          have e10 : ((1 : Int) = 0) = False := eq_false (by decide)
          have ff := fin false hw2
          have tt := fin true hw2
          clear put stf fin hopi hodi hnui td td5 p5i p5 p4
          by_cases h38 : t = -38
          · have ho7 : op (i : Int) = 7 := htn.2.2.1 h38
            rw [if_neg (by omega), if_pos ho7] at ht
            refine wp_t h38 ?_
            cases a <;> cases b <;> simp only [Bool.false_eq_true, if_true, if_false, g1, g2, and_self, lt, e10, true_or, or_true, Bool.and_true, Bool.and_false, Bool.true_and, Bool.false_and] at ff tt ht ⊢ <;> first | exact ff ht | exact tt ht
          · have ho8 : op (i : Int) = 8 := htn.2.2.2 h38
            rw [if_neg (by omega), if_neg (by omega), if_pos ho8] at ht
            refine wp_f h38 ?_
            cases a <;> cases b <;> simp only [Bool.false_eq_true, if_true, if_false, g1, g2, and_self, lt, e10, true_or, or_true, Bool.or_true, Bool.or_false, Bool.true_or, Bool.false_or] at ff tt ht ⊢ <;> first | exact ff ht | exact tt ht
    · -- a test
      have ht0 : ¬ t = -33 ∧ 0 ≤ t ∧ op (i : Int) = Int.tdiv t 1000 := by
        unfold opM at hopi
        by_cases q : t = -33
        · rw [if_pos q] at hopi; omega
        · rw [if_neg q] at hopi
          by_cases q2 : t = -38
          · rw [if_pos q2] at hopi; omega
          · rw [if_neg q2] at hopi
            by_cases q3 : t < 0
            · rw [if_pos q3] at hopi; omega
            · rw [if_neg q3] at hopi
              exact ⟨q, by omega, hopi⟩
      rw [if_neg (by omega), if_neg (by omega), if_neg (by omega)] at ht
      obtain ⟨q1, q2, q3⟩ := p5i ht0.2.1
      have td1 := td ht0.2.1
      have td2 := tdiv_r (a := t) (d := 100) ht0.2.1 (by decide)
      refine wp_f ht0.1 (wp_t ht0.2.1 ?_)
      rw [wp_bind, w_id (z := Int.tdiv t 1000) (by omega) (by omega), ← ht0.2.2, w_id (z := Int.tdiv t 100) (by omega) (by omega)]
      refine m_fact hR hL' hs ⟨ho1, ho2⟩ ?_
      simp only []
      rw [hodi, hnui] at ht
      unfold f_X8_holds_243 f_X8_holds_247
      rw [w_suc (i := i) (by omega), w_suc (i := st.length) (by omega)]
      have fin : ∀ r : Bool, tq (odM t) (lets e s h (op (i : Int))) (nuM t) = r → wp (f_X8_holds_11 c s h fuel c s h ((st.length + 1 : Nat) : Int) ((i + 1 : Nat) : Int) (stM M' 142 (st.length : Int) (if r = true then 1 else 0))) Q := by
        intro r e1
        rw [e1] at ht
        exact put st r _ (fun j hj => st_nc hj) (stf st _ _ hP rfl).1 (stf st _ (if r = true then 1 else 0) hP rfl).2 (by rw [List.length_cons]; omega) hw' ht
      generalize lets e s h (op (i : Int)) = x at fin
      have ff := fin false
      have tt := fin true
      simp only [if_true, Bool.false_eq_true, if_false] at ff tt
      have g : 0 ≤ (st.length : Int) ∧ (st.length : Int) < 100 := by omega
      have g0 : (0 : Int) = 0 ∨ (0 : Int) = 1 := by decide
      have g1 : (1 : Int) = 0 ∨ (1 : Int) = 1 := by decide
      have em : Int.tmod (Int.tdiv t 100) 10 = odM t + 1 := by unfold odM; omega
      have en : Int.tmod t 100 = nuM t := rfl
      rw [em, en]
      simp only [g, g0, g1, and_self, if_true, lt]
      generalize odM t = od1 at *
      generalize nuM t = nu1 at *
      by_cases c0 : od1 + 1 = 0
      · refine wp_t c0 ?_
        rw [tq_l (show od1 < 0 by omega)] at ff tt
        by_cases c1 : nu1 ≤ x
        · exact wp_t c1 (ff (decide_eq_false (by omega)))
        · exact wp_f c1 (tt (decide_eq_true (by omega)))
      · refine wp_f c0 ?_
        by_cases c1 : od1 + 1 = 1
        · refine wp_t c1 ?_
          rw [tq_e (show od1 = 0 by omega)] at ff tt
          by_cases c2 : x = nu1
          · exact wp_t c2 (tt (decide_eq_true c2))
          · exact wp_f c2 (ff (decide_eq_false c2))
        · refine wp_f c1 ?_
          rw [tq_g (show 0 < od1 by omega)] at ff tt
          by_cases c2 : x ≤ nu1
          · exact wp_t c2 (ff (decide_eq_false (by omega)))
          · exact wp_f c2 (tt (decide_eq_true (by omega)))
  · intro fuel st M' ⟨h1, hP, hl, hw', ht, hbi⟩
    rw [Nat.sub_self] at hw' ht
    unfold wfE at hw'
    unfold ev at ht
    show wp (f_X8_holds_11 c s h (fuel + 1) c s h ((st.length : Nat) : Int) (N : Int) M') Q
    rw [f_X8_holds_11.eq_2, h1 138 (by decide), hN]
    refine wp_and hc (wp_t (by omega) ?_)
    rw [wp_some]
    cases st with
    | nil => simp at hw'
    | cons b st' =>
      simp only [List.length_cons] at hw'
      obtain rfl : st' = [] := List.eq_nil_of_length_eq_zero (by omega)
      have : M' 142 0 = (if b = true then 1 else 0) := hP.1
      rw [this]
      have hTb : T = b := ht.symm
      rw [hTb] at k
      exact k M' h1
