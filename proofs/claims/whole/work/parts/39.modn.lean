/-! the model: noises, years -/
theorem hMd_fr {M M' : Mem} (h7 : M' 137 = M 137) (h8 : M' 138 = M 138) (h9 : M' 139 = M 139) (Lf : Int → Int) (c : Int) : hMd M' Lf c = hMd M Lf c := by
  unfold hMd; rw [h7, h8, h9]
theorem gM_fr {M M' : Mem} (h5 : M' 135 = M 135) (h6 : M' 136 = M 136) (h7 : M' 137 = M 137) (h8 : M' 138 = M 138) (h9 : M' 139 = M 139) (b : Int) (Lf : Int → Int) : ∀ n : Nat, gM M' b Lf n = gM M b Lf n
  | 0 => rfl
  | n + 1 => by unfold gM; rw [gM_fr h5 h6 h7 h8 h9 b Lf n, hMd_fr h7 h8 h9, h5, h6]
theorem lsM_fr {M M' : Mem} (h5 : M' 135 = M 135) (h6 : M' 136 = M 136) (b w d : Int) : ∀ n : Nat, lsM M' b w d n = lsM M b w d n
  | 0 => rfl
  | n + 1 => by unfold lsM; rw [lsM_fr h5 h6 b w d n, h5, h6]
theorem SM_fr {k : Int} {e e' : Vw} {M M' : Mem} (h : SM k e M) (hM : ∀ j : Int, 134 ≤ j → j ≤ 139 → M' j = M j) (he : e'.2 = e.2) : SM k e' M' := by
  have h4 := hM 134 (by decide) (by decide)
  have h5 := hM 135 (by decide) (by decide)
  have h6 := hM 136 (by decide) (by decide)
  have h7 := hM 137 (by decide) (by decide)
  have h8 := hM 138 (by decide) (by decide)
  have h9 := hM 139 (by decide) (by decide)
  obtain ⟨z1, z2, z3, z4, z5, z6⟩ := h
  refine ⟨z1, by unfold wfC; rw [h4, h5, h6, h7, h8, h9]; exact z2, ?_, ?_, ?_, ?_⟩
  · unfold cnM; rw [h4, lsM_fr h5 h6, he]; exact z3
  · unfold cnM; rw [h4, lsM_fr h5 h6, he]; exact z4
  · unfold cnM; rw [h4, lsM_fr h5 h6, he]; exact z5
  · intro Lf; unfold cnM; rw [h4, gM_fr h5 h6 h7 h8 h9, he]; exact z6 Lf
theorem LM_fr {e : Vw} {M M' : Mem} (h : LM e M) (hM : ∀ j : Int, j < 142 → M' j = M j) : LM e M' := by
  obtain ⟨q0, q6, qs, q5, qS⟩ := h
  refine ⟨by rw [hM 127 (by decide)]; exact q0, by rw [hM 127 (by decide)]; exact q6, by rw [hM 128 (by decide), hM 129 (by decide), hM 130 (by decide), hM 131 (by decide)]; exact qs, by rw [hM 132 (by decide)]; exact q5, ?_⟩
  rw [hM 127 (by decide)]
  exact SM_fr qS (fun j _ _ => hM j (by omega)) rfl
def bM (k : Int) : Int := if 0 ≤ k then 10 * k else 0
theorem m_begin {e : Vw} {M : Mem} {Q : Int → Mem → Prop} (hS : SM (M 127 8) e M) (k : Q (bM (M 127 8)) M) : wp (f_X8_begin M) Q := by
  have := hS.1
  unfold f_X8_begin
  unfold bM at k
  rw [w_id (by omega) (by omega)]
  by_cases h : 0 ≤ M 127 8
  · rw [if_pos h] at k ⊢; exact wp_some.mpr k
  · rw [if_neg h] at k ⊢; exact wp_some.mpr k
theorem m_behind {e : Vw} {M : Mem} {Q : Int → Mem → Prop} (hS : SM (M 127 8) e M) (k : Q (bM (M 127 8) + cnM (M 127 8) M) M) : wp (f_X8_behind M) Q := by
  have h1 := hS.1
  have h2 := hS.2.1
  unfold f_X8_behind
  unfold bM cnM at k
  by_cases h : 0 ≤ M 127 8
  · have h3 := h2 h
    rw [if_pos h, if_pos h] at k
    rw [if_pos h, w_id (z := 10 * M 127 8) (by omega) (by omega), w_id (by omega) (by omega)]
    refine wp_and (by omega) (wp_some.mpr ?_)
    rw [show (((M 134 (M 127 8)).toNat : Nat) : Int) = M 134 (M 127 8) by omega] at k
    exact k
  · rw [if_neg h, if_neg h] at k
    rw [if_neg h]
    exact wp_some.mpr k
theorem cn_r {k : Int} {e : Vw} {M : Mem} (hS : SM k e M) : cnM k M ≤ 10 ∧ (∀ i : Nat, i < cnM k M → 0 ≤ k ∧ wfC M (bM k + i) ∧ bM k = 10 * k) := by
  have h1 := hS.1
  have h2 := hS.2.1
  unfold cnM bM
  by_cases h : 0 ≤ k
  · have h3 := h2 h
    rw [if_pos h, if_pos h]
    refine ⟨by omega, fun i hi => ⟨h, h3.2.2 _ (by omega) (by omega), rfl⟩⟩
  · rw [if_neg h]
    exact ⟨by omega, fun i hi => by omega⟩
theorem m_last {w d : Int} {e : Vw} {M : Mem} {Q : Int → Mem → Prop} (hS : SM (M 127 8) e M) (k : Q (lsM M (10 * M 127 8) w d (cnM (M 127 8) M)) M) : wp (f_X8_lastOf w d M) Q := by
  unfold f_X8_lastOf
  rw [wp_bind]
  refine m_begin hS ?_
  obtain ⟨hc1, hc2⟩ := cn_r hS
  have h1 := hS.1
  have hb : 0 ≤ bM (M 127 8) ∧ bM (M 127 8) ≤ 50 := by unfold bM; split <;> omega
  generalize hN : cnM (M 127 8) M = N at *
  have key : wp (f_X8_lastOf_8 w d FU w d (bM (M 127 8) + 0) M) Q := by
    refine wloop0 (St := Int) (L := fun fuel x st M' => f_X8_lastOf_8 w d fuel w st (bM (M 127 8) + x) M') N (Inv := fun i st M' => M' = M ∧ st = lsM M (10 * M 127 8) w d i) (Q := Q) (by omega) ?_ ?_ (st := d) ⟨rfl, rfl⟩
    · intro i fuel st M' hi ⟨e1, e2⟩ kk
      subst e1
      show wp (f_X8_lastOf_8 w d (fuel + 1) w st (bM (M' 127 8) + (i : Int)) M') Q
      rw [f_X8_lastOf_8.eq_2, wp_bind]
      refine m_behind hS ?_
      rw [hN]
      obtain ⟨c1, c2, c3⟩ := hc2 i hi
      refine wp_f (by omega) (wp_and (by omega) ?_)
      unfold f_X8_lastOf_39
      simp only []
      rw [w_id (by omega) (by omega), show bM (M' 127 8) + (i : Int) + 1 = bM (M' 127 8) + ((i + 1 : Nat) : Int) by omega]
      have e3 : lsM M' (10 * M' 127 8) w d (i + 1) = if M' 135 (10 * M' 127 8 + i) = w then M' 136 (10 * M' 127 8 + i) else lsM M' (10 * M' 127 8) w d i := rfl
      rw [← c3] at e3
      by_cases hq : M' 135 (bM (M' 127 8) + i) = w
      · rw [if_pos hq] at e3
        refine wp_t hq (wp_and (by omega) (kk _ M' ⟨rfl, by rw [c3] at e3; rw [e3, c3]⟩))
      · rw [if_neg hq] at e3
        refine wp_f hq (kk _ M' ⟨rfl, by rw [c3] at e3; rw [e3, e2]⟩)
    · intro fuel st M' ⟨e1, e2⟩
      subst e1
      show wp (f_X8_lastOf_8 w d (fuel + 1) w st (bM (M' 127 8) + (N : Int)) M') Q
      rw [f_X8_lastOf_8.eq_2, wp_bind]
      refine m_behind hS ?_
      rw [hN]
      refine wp_t (Int.le_refl _) ?_
      rw [wp_some, e2]
      exact k
  rw [Int.add_zero] at key
  exact key
theorem m_wall {e : Vw} {M : Mem} {Q : Int → Mem → Prop} (hS : SM (M 127 8) e M) (k : Q (e.2.1 0) M) : wp (f_X8_wall M) Q := by
  unfold f_X8_wall
  rw [wp_bind]
  refine m_last hS ?_
  rw [wp_some, ← hS.2.2.1]
  exact k
theorem m_calm {e : Vw} {M : Mem} {Q : Int → Mem → Prop} (hS : SM (M 127 8) e M) (k : Q (e.2.1 1) M) : wp (f_X8_calm M) Q := by
  unfold f_X8_calm
  rw [wp_bind]
  refine m_last hS ?_
  rw [wp_some, ← hS.2.2.2.1]
  exact k
theorem m_wear {e : Vw} {M : Mem} {Q : Int → Mem → Prop} (hS : SM (M 127 8) e M) (k : Q (e.2.1 2) M) : wp (f_X8_wear M) Q := by
  unfold f_X8_wear
  rw [wp_bind]
  refine m_last hS ?_
  rw [wp_some, ← hS.2.2.2.2.1]
  exact k
theorem m_least {z : Int} {M : Mem} {Q : Int → Mem → Prop} (k : Q (max 0 z) M) : wp (f_X8_least0 z M) Q := by
  unfold f_X8_least0
  by_cases h : 0 ≤ z
  · rw [if_pos h, wp_some, show z = max 0 z by omega]; exact k
  · rw [if_neg h, wp_some, show (0 : Int) = max 0 z by omega]; exact k
theorem m_isLost {e : Vw} {s : Int} {M : Mem} {Q : Int → Mem → Prop} (hR : Rg e) (hL : LM e M) (hs : 0 ≤ s ∧ s < 6) (k : Q (if e.1 4 s = -1 then 1 else 0) M) : wp (f_X8_isLost s M) Q := by
  have h := (hL.2.2.1 s hs.1 hs.2).2.2.2
  have r := (hR.2.2.1 s).2.2.2.1
  unfold f_X8_isLost
  refine wp_and hs ?_
  rw [h]
  unfold hm
  by_cases hq : e.1 4 s = -1
  · rw [if_pos hq] at k
    rw [if_pos hq]
    exact wp_t rfl (wp_some.mpr k)
  · rw [if_neg hq] at k
    rw [if_neg hq]
    exact wp_f (by omega) (wp_some.mpr k)
theorem gM_r {k : Int} {e : Vw} {M : Mem} (hS : SM k e M) (Lf : Int → Int) : ∀ i : Nat, i ≤ cnM k M → -99 * i ≤ gM M (10 * k) Lf i ∧ gM M (10 * k) Lf i ≤ 99 * i
  | 0, _ => by unfold gM; omega
  | i + 1, hi => by
    have ih := gM_r hS Lf i (by omega)
    obtain ⟨c1, c2, c3⟩ := (cn_r hS).2 i (by omega)
    rw [c3] at c2
    obtain ⟨d1, d2, d3, d4, _⟩ := c2
    unfold gM
    split
    · split <;> omega
    · omega
theorem m_voice {e : Vw} {s h : Int} {M : Mem} {Q : Int → Mem → Prop} (hR : Rg e) (hL : LM e M) (hs : 0 ≤ s ∧ s < 6) (k : ∀ M', (∀ j, j ≠ 142 → M' j = M j) → Q (if e.1 4 s = -1 then 0 else vo e s h) M') : wp (f_X8_voice s h M) Q := by
  have h3 := (hL.2.2.1 s hs.1 hs.2).2.2.1
  have r3 := (hR.2.2.1 s).2.2.1
  unfold f_X8_voice
  rw [wp_bind]
  refine m_isLost hR hL hs ?_
  by_cases hq : e.1 4 s = -1
  · rw [if_pos hq] at k
    rw [if_pos hq]
    refine wp_f (show ¬ (1 : Int) = 0 by decide) ?_
    rw [wp_some]
    exact k M (fun _ _ => rfl)
  · rw [if_neg hq] at k
    rw [if_neg hq]
    refine wp_t rfl (wp_and hs ?_)
    simp only [h3]
    by_cases hz : e.1 3 s = 0
    · refine wp_t hz ?_
      rw [wp_some]
      have : vo e s h = 0 := by unfold vo; rw [if_pos hz]
      rw [this] at k
      exact k M (fun _ _ => rfl)
    · refine wp_f hz (wp_and hs ?_)
      rw [wp_bind]
      have hS := hL.2.2.2.2
      refine m_begin hS ?_
      obtain ⟨hc1, hc2⟩ := cn_r hS
      have h1 := hS.1
      have hb : 0 ≤ bM (M 127 8) ∧ bM (M 127 8) ≤ 50 := by unfold bM; split <;> omega
      have hgr := gM_r hS (lets e s h)
      generalize hN : cnM (M 127 8) M = N at *
      have key : wp (f_X8_voice_32 s h FU s h (e.1 3 s) (bM (M 127 8) + 0) M) Q := by
        refine wloop0 (St := Int) (L := fun fuel x st M' => f_X8_voice_32 s h fuel s h st (bM (M 127 8) + x) M') N (Inv := fun i st M' => (∀ j, j ≠ 142 → M' j = M j) ∧ st = e.1 3 s + gM M (10 * M 127 8) (lets e s h) i) (Q := Q) (by omega) ?_ ?_ (st := e.1 3 s) ⟨fun _ _ => rfl, by unfold gM; omega⟩
        · intro i fuel st M' hi ⟨e1, e2⟩ kk
          have hL' : LM e M' := LM_fr hL (fun j hj => e1 j (by omega))
          have hS' := hL'.2.2.2.2
          have e8 : M' 127 8 = M 127 8 := by rw [e1 127 (by decide)]
          have eN : cnM (M' 127 8) M' = N := by rw [← hN]; unfold cnM; rw [e8, e1 134 (by decide)]
          show wp (f_X8_voice_32 s h (fuel + 1) s h st (bM (M 127 8) + (i : Int)) M') Q
          rw [f_X8_voice_32.eq_2, wp_bind]
          refine m_behind hS' ?_
          rw [eN, e8]
          obtain ⟨c1, c2, c3⟩ := hc2 i hi
          have r1 := hgr i (by omega)
          have r2 := hgr (i + 1) (by omega)
          refine wp_f (by omega) (wp_and (by omega) ?_)
          simp only [e1 135 (by decide), e1 136 (by decide)]
          unfold f_X8_voice_97
          rw [w_id (z := bM (M 127 8) + (i : Int) + 1) (by omega) (by omega), show bM (M 127 8) + (i : Int) + 1 = bM (M 127 8) + ((i + 1 : Nat) : Int) by omega]
          have e3 : gM M (10 * M 127 8) (lets e s h) (i + 1) = gM M (10 * M 127 8) (lets e s h) i + (if M 135 (10 * M 127 8 + i) ≤ 1 ∧ hMd M (lets e s h) (10 * M 127 8 + i) = true then (if M 135 (10 * M 127 8 + i) = 0 then M 136 (10 * M 127 8 + i) else -M 136 (10 * M 127 8 + i)) else 0) := rfl
          rw [← c3] at e3 r1 r2 e2
          have kk' : ∀ st' M', (∀ j, j ≠ 142 → M' j = M j) → st' = e.1 3 s + gM M (bM (M 127 8)) (lets e s h) (i + 1) → wp (f_X8_voice_32 s h fuel s h st' (bM (M 127 8) + ((i + 1 : Nat) : Int)) M') Q := fun st' M' a b => kk st' M' ⟨a, by rw [← c3]; exact b⟩
          by_cases hw : 1 < M 135 (bM (M 127 8) + i)
          · rw [if_neg (by omega)] at e3
            exact wp_t hw (kk' _ M' e1 (by omega))
          · refine wp_f hw ?_
            rw [wp_bind]
            have hwf : wfC M' (bM (M 127 8) + i) := by
              unfold wfC
              rw [e1 135 (by decide), e1 136 (by decide), e1 137 (by decide), e1 138 (by decide), e1 139 (by decide)]
              exact c2
            refine m_hold hR hL' hs (by omega) hwf (by rw [e1 135 (by decide)]; omega) ?_
            intro M2 g1
            have fr : ∀ j, j ≠ 142 → M2 j = M j := fun j hj => (g1 j hj).trans (e1 j hj)
            rw [hMd_fr (e1 137 (by decide)) (e1 138 (by decide)) (e1 139 (by decide))]
            obtain ⟨d1, d2, d3, d4, _⟩ := c2
            by_cases hh : hMd M (lets e s h) (bM (M 127 8) + i) = true
            · rw [if_pos ⟨by omega, hh⟩] at e3
              rw [if_pos hh]
              refine wp_f (show ¬ (1 : Int) = 0 by decide) (wp_and (by omega) ?_)
              simp only [fr 135 (by decide), fr 136 (by decide)]
              unfold f_X8_voice_95 f_X8_voice_97
              rw [w_id (z := bM (M 127 8) + (i : Int) + 1) (by omega) (by omega), show bM (M 127 8) + (i : Int) + 1 = bM (M 127 8) + ((i + 1 : Nat) : Int) by omega]
              by_cases hw0 : M 135 (bM (M 127 8) + i) = 0
              · rw [if_pos hw0] at e3
                refine wp_t hw0 (wp_and (by omega) ?_)
                rw [w_id (by omega) (by omega)]
                exact kk' _ M2 fr (by omega)
              · rw [if_neg hw0] at e3
                refine wp_f hw0 (wp_and (by omega) ?_)
                rw [w_id (z := -M 136 (bM (M 127 8) + i)) (by omega) (by omega), w_id (by omega) (by omega)]
                exact kk' _ M2 fr (by omega)
            · rw [if_neg (fun c => hh c.2)] at e3
              rw [if_neg hh]
              exact wp_t rfl (kk' _ M2 fr (by omega))
        · intro fuel st M' ⟨e1, e2⟩
          have hL' : LM e M' := LM_fr hL (fun j hj => e1 j (by omega))
          have hS' := hL'.2.2.2.2
          have e8 : M' 127 8 = M 127 8 := by rw [e1 127 (by decide)]
          have eN : cnM (M' 127 8) M' = N := by rw [← hN]; unfold cnM; rw [e8, e1 134 (by decide)]
          show wp (f_X8_voice_32 s h (fuel + 1) s h st (bM (M 127 8) + (N : Int)) M') Q
          rw [f_X8_voice_32.eq_2, wp_bind]
          refine m_behind hS' ?_
          rw [eN, e8]
          refine wp_t (Int.le_refl _) ?_
          rw [wp_bind]
          refine m_least ?_
          rw [wp_some]
          have : vo e s h = max 0 st := by
            unfold vo
            rw [if_neg hz, e2, ← hN, hS.2.2.2.2.2]
          rw [← this]
          exact k M' e1
      rw [Int.add_zero] at key
      exact key
theorem m_heardBy {e : Vw} {s vc t : Int} {M : Mem} {Q : Int → Mem → Prop} (hR : Rg e) (hL : LM e M) (hs : 0 ≤ s ∧ s < e.1 0 0) (hl : e.1 4 s ≠ -1) (ht : 0 ≤ t ∧ t ≤ 4) (hv : 0 ≤ vc ∧ vc ≤ 1089) (k : Q (hb e s vc (e.1 4 s) t) M) : wp (f_X8_heardBy s vc t M) Q := by
  obtain ⟨q0, q6, qs, q5, qS⟩ := hL
  obtain ⟨⟨n0, n1⟩, y, a, w, _⟩ := hR
  obtain ⟨k1, k2, k3, k4⟩ := qs s hs.1 (by omega)
  have a1 := a s
  have w00 := w 0
  have hmf : hm (e.1 4 s) = e.1 4 s := by unfold hm; rw [if_neg hl]
  rw [hmf] at k4
  generalize hf : e.1 4 s = f at k k4 a1 hl
  have d := far_r (f := f) (by omega) (by omega) ht.1 ht.2
  have m := mul_r w00.1 w00.2 d.1 d.2
  have t2 := tdiv_r (d := 2) w00.1 (by decide)
  have m2 := mul_r (a := Int.tdiv (e.2.1 0) 2) t2.1 (by omega) d.1 d.2
  have t3 := tdiv_r (a := max 0 (vc - e.2.1 0 * far f t)) (d := 2) (by omega) (by decide)
  have t4 := tmod_r (a := e.1 6 0) (d := 4) y.1 (by decide)
  have t5 := tmod_r (a := e.1 6 0) (d := 2) y.1 (by decide)
  have a2 := a (s * 4 + Int.tmod (e.1 6 0) 4)
  have e5 := q5 (4 * s + Int.tmod (e.1 6 0) 4) (by omega) (by omega)
  rw [show 4 * s + Int.tmod (e.1 6 0) 4 = s * 4 + Int.tmod (e.1 6 0) 4 by omega] at e5
  unfold f_X8_heardBy
  refine wp_and (by omega) ?_
  rw [wp_bind, k4]
  have hfar : f_X8_farOf f t M = some (far f t, M) := by
    unfold f_X8_farOf far
    by_cases h : f ≤ t
    · rw [if_pos h, if_pos h, w_id (by omega) (by omega)]
    · rw [if_neg h, if_neg h, w_id (by omega) (by omega)]
  rw [hfar, wp_some, wp_bind]
  refine m_wall qS ?_
  rw [wp_bind]
  simp only []
  rw [w_id (z := e.2.1 0 * far f t) (by omega) (by omega), w_id (z := vc - e.2.1 0 * far f t) (by omega) (by omega)]
  refine m_least ?_
  rw [wp_bind]
  refine m_wall qS ?_
  rw [wp_bind]
  simp only []
  rw [w_id (z := Int.tdiv (e.2.1 0) 2) (by omega) (by omega), w_id (z := Int.tdiv (e.2.1 0) 2 * far f t) (by omega) (by omega), w_id (z := vc - Int.tdiv (e.2.1 0) 2 * far f t) (by omega) (by omega)]
  refine m_least ?_
  simp only [q6]
  unfold f_X8_heardBy_64
  rw [w_id (z := Int.tdiv (max 0 (vc - e.2.1 0 * far f t)) 2) (by omega) (by omega), w_id (z := 4 * s) (by omega) (by omega), w_id (z := 4 * s + Int.tmod (M 127 1) 4) (by rw [q6]; omega) (by rw [q6]; omega), q6, k1, k2, k4, show 4 * s + Int.tmod (e.1 6 0) 4 = s * 4 + Int.tmod (e.1 6 0) 4 by omega, e5]
  have g : 0 ≤ s * 4 + Int.tmod (e.1 6 0) 4 ∧ s * 4 + Int.tmod (e.1 6 0) 4 < 24 := by omega
  have gs : 0 ≤ s ∧ s < 6 := by omega
  rw [w_id (z := Int.tdiv (max 0 (vc - e.2.1 0 * far f t)) 2 + e.1 2 s) (by omega) (by omega), w_id (z := max 0 (vc - e.2.1 0 * far f t) + e.1 2 s) (by omega) (by omega), w_id (z := max 0 (vc - Int.tdiv (e.2.1 0) 2 * far f t) + e.1 5 (s * 4 + Int.tmod (e.1 6 0) 4)) (by omega) (by omega)]
  simp only [gs, g, and_self, if_true]
  unfold hb at k
  generalize Int.tdiv (max 0 (vc - e.2.1 0 * far f t)) 2 = D1 at *
  generalize max 0 (vc - e.2.1 0 * far f t) = D2 at *
  generalize max 0 (vc - Int.tdiv (e.2.1 0) 2 * far f t) = D3 at *
  generalize e.1 5 (s * 4 + Int.tmod (e.1 6 0) 4) = RW at *
  generalize Int.tmod (e.1 6 0) 2 = Y at *
  generalize e.1 1 s = KK at *
  generalize e.1 2 s = VV at *
  generalize far f t = FF at *
  clear q0 q6 qs q5 qS n0 n1 y a w k1 k2 k3 k4 a1 w00 hmf hf d m t2 m2 t3 t4 a2 e5 hfar g gs
  simp only [wp_ite, wp_some]
  grind
theorem m_lay {e : Vw} {M : Mem} {Q : Int → Mem → Prop} (hR : Rg e) (hL : LM e M) (k : ∀ M', (∀ j, j ≠ 142 → j ≠ 143 → M' j = M j) → (∀ h : Int, 0 ≤ h → h < 5 → M' 143 h = NZ e h) → Q 0 M') : wp (f_X8_layNoises M) Q := by
  have hn := hR.1
  obtain ⟨N, hN⟩ : ∃ N : Nat, e.1 0 0 = (N : Int) := ⟨(e.1 0 0).toNat, by omega⟩
  have kz : ∀ h, NZ e h = nzs (Fh e) (e.1 4) h N := fun h => by unfold NZ; rw [hN, Int.toNat_natCast]
  unfold f_X8_layNoises
  refine wloop0 (St := Unit) (L := fun fuel x st M' => f_X8_layNoises_2 fuel x M') 5 (Inv := fun i st M' => (∀ j, j ≠ 143 → M' j = M j) ∧ ∀ h : Int, 0 ≤ h → h < (i : Int) → M' 143 h = 0) (Q := Q) (by omega) ?_ ?_ (st := ()) ⟨fun _ _ => rfl, fun h a b => by omega⟩
  · intro i fuel st M' hi ⟨h1, h2⟩ kk
    show wp (f_X8_layNoises_2 (fuel + 1) (i : Int) M') Q
    rw [f_X8_layNoises_2.eq_2]
    refine wp_f (by omega) (wp_and (by omega) ?_)
    rw [wp_lt, w_suc (by omega)]
    refine kk () _ ⟨fun j hj => by rw [st_nc hj]; exact h1 j hj, fun h a b => ?_⟩
    rw [st_ap]
    by_cases hq : h = (i : Int)
    · rw [if_pos ⟨rfl, hq⟩]
    · rw [if_neg (fun c => hq c.2)]; exact h2 h a (by omega)
  · intro fuel st M1 ⟨h1, h2⟩
    show wp (f_X8_layNoises_2 (fuel + 1) ((5 : Nat) : Int) M1) Q
    rw [f_X8_layNoises_2.eq_2]
    refine wp_t (by omega) ?_
    refine wloop0 (St := Unit) (L := fun fuel x st M' => f_X8_layNoises_22 fuel x M') N (Inv := fun i st M' => (∀ j, j ≠ 142 → j ≠ 143 → M' j = M j) ∧ ∀ h : Int, 0 ≤ h → h < 5 → M' 143 h = nzs (Fh e) (e.1 4) h i) (Q := Q) (by omega) ?_ ?_ (st := ()) ⟨fun j _ b => h1 j b, fun h a b => h2 h a (by omega)⟩
    · intro i fuel st M2 hi ⟨g1, g2⟩ kk
      have hL2 : LM e M2 := LM_fr hL (fun j hj => g1 j (by omega) (by omega))
      show wp (f_X8_layNoises_22 (fuel + 1) (i : Int) M2) Q
      rw [f_X8_layNoises_22.eq_2, hL2.1, hN]
      refine wp_f (by omega) ?_
      rw [wp_bind]
      refine m_isLost hR hL2 (by omega) ?_
      have e3 : ∀ h, nzs (Fh e) (e.1 4) h (i + 1) = nzs (Fh e) (e.1 4) h i + (if e.1 4 (i : Int) = -1 then 0 else Fh e (i : Int) (e.1 4 (i : Int)) h) := fun h => rfl
      unfold f_X8_layNoises_82
      by_cases hq : e.1 4 (i : Int) = -1
      · rw [if_pos hq]
        refine wp_f (show ¬ (1 : Int) = 0 by decide) ?_
        simp only []
        rw [w_suc (by omega)]
        exact kk () M2 ⟨g1, fun h a b => by rw [e3, if_pos hq, g2 h a b]; omega⟩
      · rw [if_neg hq]
        refine wp_t rfl (wp_and (by omega) ?_)
        rw [wp_bind]
        have hi4 := (hL2.2.2.1 i (by omega) (by omega)).2.2.2
        have hmf : hm (e.1 4 i) = e.1 4 i := by unfold hm; rw [if_neg hq]
        rw [hmf] at hi4
        simp only [hi4]
        refine m_voice hR hL2 (by omega) ?_
        intro M3 u1
        rw [if_neg hq]
        have r4 := (hR.2.2.1 (i : Int)).2.2.2.1
        refine wloop0 (St := Unit) (L := fun fuel' x st M' => f_X8_layNoises_55 (f_X8_layNoises_22 fuel) fuel' (i : Int) (vo e i (e.1 4 i)) x M') 5 (Inv := fun t st M' => (∀ j, j ≠ 142 → j ≠ 143 → M' j = M j) ∧ ∀ h : Int, 0 ≤ h → h < 5 → M' 143 h = if h < (t : Int) then nzs (Fh e) (e.1 4) h (i + 1) else nzs (Fh e) (e.1 4) h i) (Q := Q) (by omega) ?_ ?_ (st := ()) ⟨fun j a b => (u1 j a).trans (g1 j a b), fun h a b => by rw [if_neg (by omega)]; show M3 143 h = _; rw [u1 143 (by decide)]; exact g2 h a b⟩
        · intro t fuel' st M4 ht ⟨v1, v2⟩ kk2
          have hL4 : LM e M4 := LM_fr hL (fun j hj => v1 j (by omega) (by omega))
          show wp (f_X8_layNoises_55 (f_X8_layNoises_22 fuel) (fuel' + 1) (i : Int) (vo e i (e.1 4 i)) (t : Int) M4) Q
          rw [f_X8_layNoises_55.eq_2]
          refine wp_f (by omega) (wp_and (by omega) ?_)
          rw [wp_bind]
          refine m_heardBy hR hL4 (by omega) hq (by omega) (vo_r hR _ _) ?_
          refine wp_and (by omega) ?_
          simp only []
          have nr := NZ_r hR (t := (t : Int)) (by omega) (by omega) i (by omega)
          have nr2 := NZ_r hR (t := (t : Int)) (by omega) (by omega) (i + 1) (by omega)
          have e4 := e3 (t : Int)
          rw [if_neg hq] at e4
          rw [show Fh e (i : Int) (e.1 4 (i : Int)) (t : Int) = hb e (i : Int) (vo e (i : Int) (e.1 4 (i : Int))) (e.1 4 (i : Int)) (t : Int) from rfl] at e4
          have e5 := v2 (t : Int) (by omega) (by omega)
          rw [if_neg (by omega)] at e5
          rw [wp_lt, e5, w_suc (by omega), ← e4, w_id (by omega) (by omega)]
          refine kk2 () _ ⟨fun j a b => by rw [st_nc b]; exact v1 j a b, fun h a b => ?_⟩
          rw [st_ap]
          by_cases hq2 : h = (t : Int)
          · subst hq2
            rw [if_pos ⟨rfl, rfl⟩, if_pos (by omega)]
          · rw [if_neg (fun c => hq2 c.2), v2 h a b]
            by_cases hlt : h < (t : Int)
            · rw [if_pos hlt, if_pos (by omega)]
            · rw [if_neg hlt, if_neg (by omega)]
        · intro fuel' st M4 ⟨v1, v2⟩
          show wp (f_X8_layNoises_55 (f_X8_layNoises_22 fuel) (fuel' + 1) (i : Int) (vo e i (e.1 4 i)) ((5 : Nat) : Int) M4) Q
          rw [f_X8_layNoises_55.eq_2]
          refine wp_t (by omega) ?_
          unfold f_X8_layNoises_82
          rw [w_suc (by omega)]
          exact kk () M4 ⟨v1, fun h a b => by rw [v2 h a b, if_pos (by omega)]⟩
    · intro fuel st M2 ⟨g1, g2⟩
      have hL2 : LM e M2 := LM_fr hL (fun j hj => g1 j (by omega) (by omega))
      show wp (f_X8_layNoises_22 (fuel + 1) (N : Int) M2) Q
      rw [f_X8_layNoises_22.eq_2, hL2.1, hN]
      refine wp_t (by omega) ?_
      rw [wp_some]
      exact k M2 g1 (fun h a b => by rw [kz]; exact g2 h a b)
