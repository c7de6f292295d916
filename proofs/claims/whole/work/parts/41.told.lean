/-! both, asked: what is told, of one, on, when -/
/-- what asking may leave behind in the class -/
def CF (M M' : Mem) : Prop := ∀ j : Int, (j < 4 ∨ 12 < j) → j ≠ 40 → (j < 60 ∨ 65 < j) → j ≠ 78 → M' j = M j
theorem CF_rfl (M : Mem) : CF M M := fun _ _ _ _ _ => rfl
theorem CF_tr {M M1 M2 : Mem} (h : CF M M1) (g : CF M1 M2) : CF M M2 := fun j a b c d => (g j a b c d).trans (h j a b c d)
theorem CF_22 {M M' : Mem} (h : ∀ j, j ≠ 22 + 18 → M' j = M j) : CF M M' := fun j _ b _ _ => h j (by omega)
theorem CF_60 {M M' : Mem} (h : ∀ j, j ≠ 60 + 18 → M' j = M j) : CF M M' := fun j _ _ _ d => h j (by omega)
theorem CF_LM {e : Vw} {M M' : Mem} (hL : LM e M) (h : CF M M') : LM e M' := by
  obtain ⟨q0, q6, qs, q5, qS⟩ := hL
  have hj : ∀ j : Int, 127 ≤ j → M' j = M j := fun j hj => h j (by omega) (by omega) (by omega) (by omega)
  refine ⟨by rw [hj 127 (by decide)]; exact q0, by rw [hj 127 (by decide)]; exact q6, by rw [hj 128 (by decide), hj 129 (by decide), hj 130 (by decide), hj 131 (by decide)]; exact qs, by rw [hj 132 (by decide)]; exact q5, ?_⟩
  rw [hj 127 (by decide)]
  exact SM_fr qS (fun j _ _ => hj j (by omega)) rfl
def QQ (a b : Mem → Option (Int × Mem)) (e : Vw) (M : Mem) : Prop := wp (a M) (fun v M1 => wp (b M1) (fun v' M2 => v = v' ∧ CF M M1 ∧ MF M1 M2 ∧ LM e M2))
theorem m_in {p lo hi : Int} {M : Mem} {Q : Int → Mem → Prop} (k : Q (if lo ≤ p ∧ p ≤ hi then 1 else 0) M) : wp (f_X8_in p lo hi M) Q := by
  unfold f_X8_in
  simp only [wp_ite, wp_some]
  grind
theorem m_in_t {p lo hi : Int} {M : Mem} {Q : Int → Mem → Prop} (h : lo ≤ p ∧ p ≤ hi) (k : Q 1 M) : wp (f_X8_in p lo hi M) Q := m_in (by rw [if_pos h]; exact k)
theorem m_in_f {p lo hi : Int} {M : Mem} {Q : Int → Mem → Prop} (h : ¬ (lo ≤ p ∧ p ≤ hi)) (k : Q 0 M) : wp (f_X8_in p lo hi M) Q := m_in (by rw [if_neg h]; exact k)
theorem m_isS {e : Vw} {p : Int} {M : Mem} {Q : Int → Mem → Prop} (hR : Rg e) (hL : LM e M) (k : Q (if 0 ≤ p ∧ p < e.1 0 0 then 1 else 0) M) : wp (f_X8_isSound p M) Q := by
  have := hR.1
  unfold f_X8_isSound
  rw [wp_bind, hL.1, w_id (by omega) (by omega)]
  refine m_in ?_
  rw [wp_some]
  have e1 : (0 ≤ p ∧ p ≤ e.1 0 0 - 1) ↔ (0 ≤ p ∧ p < e.1 0 0) := by omega
  by_cases h : 0 ≤ p ∧ p < e.1 0 0
  · rw [if_pos h] at k; rw [if_pos (e1.mpr h)]; exact k
  · rw [if_neg h] at k; rw [if_neg (fun c => h (e1.mp c))]; exact k
theorem m_isH {p : Int} {M : Mem} {Q : Int → Mem → Prop} (k : Q (if 0 ≤ p ∧ p ≤ 4 then 1 else 0) M) : wp (f_X8_isHouse p M) Q := by
  unfold f_X8_isHouse
  rw [wp_bind]
  refine m_in ?_
  rw [wp_some]
  exact k
theorem c_isIn {p hi : Int} {M : Mem} {Q : Int → Mem → Prop} (k : Q (if 0 ≤ p ∧ p ≤ hi then 1 else 0) M) : wp (f_X7_isIn p hi M) Q := by
  unfold f_X7_isIn
  simp only [wp_ite, wp_some]
  grind
theorem c_has {e : Vw} {o p : Int} {M : Mem} {Q : Int → Mem → Prop} (hL : LC o e M) (k : Q (if 0 ≤ p ∧ p < e.1 0 0 then 1 else 0) M) : wp (f_X1_has o p M) Q := by
  unfold f_X1_has
  rw [hL.1]
  simp only [wp_ite, wp_some]
  grind
theorem w_10 {p : Int} (h : i32 p) : (0 ≤ w32 (p - 10) ∧ w32 (p - 10) ≤ 4) ↔ (10 ≤ p ∧ p ≤ 14) := by
  unfold i32 at h; unfold w32; omega
theorem w_20 {p : Int} (h : i32 p) : (0 ≤ w32 (p - 20) ∧ w32 (p - 20) ≤ 4) ↔ (20 ≤ p ∧ p ≤ 24) := by
  unfold i32 at h; unfold w32; omega
theorem one_ne : ¬ (1 : Int) = 0 := by decide
theorem ne_one {P : Prop} (h : ¬ P) [Decidable P] : (if P then (1 : Int) else 0) = 0 := if_neg h
theorem q_told {p : Int} {e : Vw} {M : Mem} (hp : i32 p) (hR : Rg e) (hC : LC 22 e M) (hM : LM e M) : QQ (f_X7_told p) (f_X8_told p) e M := by
  have ho : isLot 22 := Or.inl rfl
  unfold QQ f_X7_told
  rw [wp_bind]
  refine c_isH ?_
  by_cases h : 10 ≤ p ∧ p ≤ 14
  · rw [if_pos ((w_10 hp).mpr h)]
    refine wp_f one_ne ?_
    rw [wp_bind, w_id (by omega) (by omega)]
    refine c_noise hR ho hC (by omega) ?_
    intro M1 h1
    have hM1 := CF_LM hM (CF_22 h1)
    rw [wp_some]
    unfold f_X8_told
    rw [wp_bind]
    refine m_in ?_
    rw [if_pos h]
    refine wp_f one_ne ?_
    rw [wp_bind, w_id (by omega) (by omega)]
    refine m_noise hR hM1 (by omega) ?_
    intro M2 h2
    rw [wp_some]
    exact ⟨rfl, CF_22 h1, MF_s h2, LM_s hM1 h2⟩
  · rw [if_neg (fun c => h ((w_10 hp).mp c))]
    refine wp_t rfl ?_
    have mm : ∀ (M1 : Mem) (Q : Int → Mem → Prop), wp (if p = 0 then some (M1 127 1, M1) else if p = 1 then (f_X8_wall M1).bind (fun q6 => some (q6.1, q6.2)) else if p = 2 then (f_X8_calm M1).bind (fun q9 => some (q9.1, q9.2)) else if p = 3 then (f_X8_wear M1).bind (fun q12 => some (q12.1, q12.2)) else if p = 4 then (f_X8_greatest M1).bind (fun q15 => some (q15.1, q15.2)) else if p = 5 then (f_X8_stillSet M1).bind (fun q18 => some (q18.1, q18.2)) else some ((-1), M1)) Q → wp (f_X8_told p M1) Q := by
      intro M1 Q k
      unfold f_X8_told
      rw [wp_bind]
      refine m_in ?_
      rw [if_neg h]
      exact wp_t rfl k
    by_cases h0 : p = 0
    · refine wp_t h0 ?_
      rw [wp_some]
      refine mm _ _ (wp_t h0 ?_)
      rw [wp_some]
      exact ⟨by simp only [hC.2.1, hM.2.1], CF_rfl M, MF_rfl M, hM⟩
    refine wp_f h0 ?_
    by_cases h1 : p = 1
    · refine wp_t h1 ?_
      rw [wp_some]
      refine mm _ _ (wp_f h0 (wp_t h1 ?_))
      rw [wp_bind]
      refine m_wall hM.2.2.2.2 ?_
      rw [wp_some]
      exact ⟨hC.2.2.2.2.2.1, CF_rfl M, MF_rfl M, hM⟩
    refine wp_f h1 ?_
    by_cases h2 : p = 2
    · refine wp_t h2 ?_
      rw [wp_some]
      refine mm _ _ (wp_f h0 (wp_f h1 (wp_t h2 ?_)))
      rw [wp_bind]
      refine m_calm hM.2.2.2.2 ?_
      rw [wp_some]
      exact ⟨hC.2.2.2.2.2.2.1, CF_rfl M, MF_rfl M, hM⟩
    refine wp_f h2 ?_
    by_cases h3 : p = 3
    · refine wp_t h3 ?_
      rw [wp_some]
      refine mm _ _ (wp_f h0 (wp_f h1 (wp_f h2 (wp_t h3 ?_))))
      rw [wp_bind]
      refine m_wear hM.2.2.2.2 ?_
      rw [wp_some]
      exact ⟨hC.2.2.2.2.2.2.2.1, CF_rfl M, MF_rfl M, hM⟩
    refine wp_f h3 ?_
    by_cases h4 : p = 4
    · refine wp_t h4 ?_
      rw [wp_bind]
      refine c_great hR ho hC ?_
      intro M1 g1
      have hM1 := CF_LM hM (CF_22 g1)
      rw [wp_some]
      refine mm _ _ (wp_f h0 (wp_f h1 (wp_f h2 (wp_f h3 (wp_t h4 ?_)))))
      rw [wp_bind]
      refine m_great hR hM1 ?_
      intro M2 g2
      rw [wp_some]
      exact ⟨rfl, CF_22 g1, MF_s g2, LM_s hM1 g2⟩
    refine wp_f h4 ?_
    by_cases h5 : p = 5
    · refine wp_t h5 ?_
      rw [wp_bind]
      refine c_still hR ho hC ?_
      intro M1 g1
      have hM1 := CF_LM hM (CF_22 g1)
      rw [wp_some]
      refine mm _ _ (wp_f h0 (wp_f h1 (wp_f h2 (wp_f h3 (wp_f h4 (wp_t h5 ?_))))))
      rw [wp_bind]
      refine m_still hR hM1 ?_
      intro M2 g2
      rw [wp_some]
      exact ⟨rfl, CF_22 g1, MF_s g2, LM_s hM1 g2⟩
    refine wp_f h5 ?_
    rw [wp_some]
    refine mm _ _ (wp_f h0 (wp_f h1 (wp_f h2 (wp_f h3 (wp_f h4 (wp_f h5 ?_))))))
    rw [wp_some]
    exact ⟨rfl, CF_rfl M, MF_rfl M, hM⟩
theorem hm_l {z : Int} (h : -1 ≤ z ∧ z ≤ 4) : (if z = -1 then (-5 : Int) else z) = hm z := rfl
theorem q_of {s p : Int} {e : Vw} {M : Mem} (hp : i32 p) (hR : Rg e) (hC : LC 22 e M) (hM : LM e M) : QQ (f_X7_of s p) (f_X8_of s p) e M := by
  have ho : isLot 22 := Or.inl rfl
  have hn := hR.1
  unfold QQ f_X7_of
  rw [wp_bind]
  refine c_has hC ?_
  have mm0 : ∀ (M1 : Mem) (Q : Int → Mem → Prop), LM e M1 → ¬ (0 ≤ s ∧ s < e.1 0 0) → Q (-1001) M1 → wp (f_X8_of s p M1) Q := by
    intro M1 Q h hs k
    unfold f_X8_of
    rw [wp_bind]
    refine m_isS hR h ?_
    rw [if_neg hs]
    exact wp_t rfl (wp_some.mpr k)
  by_cases hs : 0 ≤ s ∧ s < e.1 0 0
  · rw [if_pos hs]
    refine wp_f one_ne ?_
    obtain ⟨c1, c2, c3, c4⟩ := hC.2.2.1 s hs.1 (by omega)
    have hs6 : 0 ≤ s ∧ s < 6 := by omega
    have mm1 : ∀ (M1 : Mem) (Q : Int → Mem → Prop), LM e M1 → wp ((f_X8_in p 10 14 M1).bind (fun q4 => if q4.1 = 0 then (f_X8_in p 20 24 q4.2).bind (fun q7 => if q7.1 = 0 then if p = 0 then if 0 ≤ s ∧ s < 6 then some (q7.2 128 s, q7.2) else none else if p = 1 then if 0 ≤ s ∧ s < 6 then some (q7.2 129 s, q7.2) else none else if p = 2 then if 0 ≤ s ∧ s < 6 then some (q7.2 130 s, q7.2) else none else if p = 3 then if 0 ≤ s ∧ s < 6 then some (q7.2 131 s, q7.2) else none else if p = 4 then (f_X8_wears s q7.2).bind (fun q19 => some (q19.1, q19.2)) else some ((-1001), q7.2) else (f_X8_heard s (w32 (p - 20)) q7.2).bind (fun q21 => some (q21.1, q21.2))) else (f_X8_voice s (w32 (p - 10)) q4.2).bind (fun q23 => some (q23.1, q23.2)))) Q → wp (f_X8_of s p M1) Q := by
      intro M1 Q h k
      unfold f_X8_of
      rw [wp_bind]
      refine m_isS hR h ?_
      rw [if_pos hs]
      exact wp_f one_ne k
    rw [wp_bind]
    refine c_isH ?_
    by_cases h : 10 ≤ p ∧ p ≤ 14
    · rw [if_pos ((w_10 hp).mpr h)]
      refine wp_f one_ne ?_
      rw [wp_bind]
      refine c_isLost hs6 ?_
      simp only [c4]
      have mmv : ∀ (M1 : Mem), LM e M1 → CF M M1 → wp (f_X8_of s p M1) (fun v' M2 => (if e.1 4 s = -1 then 0 else vo e s (p - 10)) = v' ∧ CF M M1 ∧ MF M1 M2 ∧ LM e M2) := by
        intro M1 hM1 hCF
        refine mm1 M1 _ hM1 ?_
        rw [wp_bind]
        refine m_in ?_
        rw [if_pos h]
        refine wp_f one_ne ?_
        rw [wp_bind, w_id (by omega) (by omega)]
        refine m_voice hR hM1 hs6 ?_
        intro M2 h2
        rw [wp_some]
        exact ⟨rfl, hCF, MF_s (fun j a _ => h2 j a), LM_s hM1 (fun j a _ => h2 j a)⟩
      by_cases hq : e.1 4 s = -1
      · rw [if_pos hq]
        refine wp_f one_ne ?_
        rw [wp_some]
        have := mmv M hM (CF_rfl M)
        rw [if_pos hq] at this
        exact this
      · rw [if_neg hq]
        refine wp_t rfl ?_
        rw [wp_bind, w_id (by omega) (by omega)]
        refine c_voice hR ho hC hs6 ?_
        intro M1 h1
        rw [wp_some]
        have := mmv M1 (CF_LM hM (CF_22 h1)) (CF_22 h1)
        rw [if_neg hq] at this
        exact this
    · rw [if_neg (fun c => h ((w_10 hp).mp c))]
      refine wp_t rfl ?_
      rw [wp_bind]
      refine c_isH ?_
      have mm2 : ∀ (M1 : Mem) (Q : Int → Mem → Prop), LM e M1 → wp ((f_X8_in p 20 24 M1).bind (fun q7 => if q7.1 = 0 then if p = 0 then if 0 ≤ s ∧ s < 6 then some (q7.2 128 s, q7.2) else none else if p = 1 then if 0 ≤ s ∧ s < 6 then some (q7.2 129 s, q7.2) else none else if p = 2 then if 0 ≤ s ∧ s < 6 then some (q7.2 130 s, q7.2) else none else if p = 3 then if 0 ≤ s ∧ s < 6 then some (q7.2 131 s, q7.2) else none else if p = 4 then (f_X8_wears s q7.2).bind (fun q19 => some (q19.1, q19.2)) else some ((-1001), q7.2) else (f_X8_heard s (w32 (p - 20)) q7.2).bind (fun q21 => some (q21.1, q21.2)))) Q → wp (f_X8_of s p M1) Q := by
        intro M1 Q h' k
        refine mm1 M1 Q h' ?_
        rw [wp_bind]
        refine m_in ?_
        rw [if_neg h]
        exact wp_t rfl k
      by_cases h2 : 20 ≤ p ∧ p ≤ 24
      · rw [if_pos ((w_20 hp).mpr h2)]
        refine wp_f one_ne ?_
        rw [wp_bind, w_id (by omega) (by omega)]
        refine c_heardIn hR ho hC hs6 (by omega) ?_
        intro M1 h1
        have hM1 := CF_LM hM (CF_22 h1)
        rw [wp_some]
        refine mm2 M1 _ hM1 ?_
        rw [wp_bind]
        refine m_in ?_
        rw [if_pos h2]
        refine wp_f one_ne ?_
        rw [wp_bind, w_id (by omega) (by omega)]
        unfold f_X8_heard
        rw [wp_bind]
        refine m_isLost hR hM1 hs6 ?_
        by_cases hq : e.1 4 s = -1
        · rw [if_pos hq, if_pos hq]
          refine wp_f one_ne ?_
          rw [wp_some, wp_some]
          exact ⟨rfl, CF_22 h1, MF_rfl _, hM1⟩
        · rw [if_neg hq, if_neg hq]
          refine wp_t rfl (wp_and hs6 ?_)
          rw [wp_bind]
          have h4 := (hM1.2.2.1 s hs6.1 hs6.2).2.2.2
          have hmf : hm (e.1 4 s) = e.1 4 s := by unfold hm; rw [if_neg hq]
          rw [hmf] at h4
          simp only [h4]
          refine m_voice hR hM1 hs6 ?_
          intro M2 g2
          rw [if_neg hq, wp_bind]
          have hM2 := LM_s hM1 (fun j a _ => g2 j a)
          refine m_heardBy hR hM2 hs hq (by omega) (vo_r hR _ _) ?_
          rw [wp_some, wp_some]
          exact ⟨rfl, CF_22 h1, MF_s (fun j a _ => g2 j a), hM2⟩
      · rw [if_neg (fun c => h2 ((w_20 hp).mp c))]
        refine wp_t rfl ?_
        have mm3 : ∀ (M1 : Mem) (Q : Int → Mem → Prop), LM e M1 → wp (if p = 0 then if 0 ≤ s ∧ s < 6 then some (M1 128 s, M1) else none else if p = 1 then if 0 ≤ s ∧ s < 6 then some (M1 129 s, M1) else none else if p = 2 then if 0 ≤ s ∧ s < 6 then some (M1 130 s, M1) else none else if p = 3 then if 0 ≤ s ∧ s < 6 then some (M1 131 s, M1) else none else if p = 4 then (f_X8_wears s M1).bind (fun q19 => some (q19.1, q19.2)) else some ((-1001), M1)) Q → wp (f_X8_of s p M1) Q := by
          intro M1 Q h' k
          refine mm2 M1 Q h' ?_
          rw [wp_bind]
          refine m_in ?_
          rw [if_neg h2]
          exact wp_t rfl k
        obtain ⟨b1, b2, b3, b4⟩ := hM.2.2.1 s hs6.1 hs6.2
        have fin : ∀ v v' : Int, v = v' → (v = v' ∧ CF M M ∧ MF M M ∧ LM e M) := fun v v' h => ⟨h, CF_rfl M, MF_rfl M, hM⟩
        by_cases h0 : p = 0
        · refine wp_t h0 (wp_and hs6 ?_)
          rw [wp_some]
          refine mm3 _ _ hM (wp_t h0 (wp_and hs6 ?_))
          rw [wp_some]
          exact fin _ _ (c1.trans b1.symm)
        refine wp_f h0 ?_
        by_cases h1 : p = 1
        · refine wp_t h1 (wp_and hs6 ?_)
          rw [wp_some]
          refine mm3 _ _ hM (wp_f h0 (wp_t h1 (wp_and hs6 ?_)))
          rw [wp_some]
          exact fin _ _ (c2.trans b2.symm)
        refine wp_f h1 ?_
        by_cases h2 : p = 2
        · refine wp_t h2 (wp_and hs6 ?_)
          rw [wp_some]
          refine mm3 _ _ hM (wp_f h0 (wp_f h1 (wp_t h2 (wp_and hs6 ?_))))
          rw [wp_some]
          exact fin _ _ (c3.trans b3.symm)
        refine wp_f h2 ?_
        by_cases h3 : p = 3
        · refine wp_t h3 ?_
          rw [wp_bind]
          refine c_isLost hs6 ?_
          simp only [c4]
          have mmh : wp (f_X8_of s p M) (fun v' M2 => hm (e.1 4 s) = v' ∧ CF M M ∧ MF M M2 ∧ LM e M2) := by
            refine mm3 _ _ hM (wp_f h0 (wp_f h1 (wp_f h2 (wp_t h3 (wp_and hs6 ?_)))))
            rw [wp_some]
            exact fin _ _ b4.symm
          unfold hm at mmh
          by_cases hq : e.1 4 s = -1
          · rw [if_pos hq] at mmh
            rw [if_pos hq]
            refine wp_f one_ne ?_
            rw [wp_some]
            exact mmh
          · rw [if_neg hq] at mmh
            rw [if_neg hq]
            refine wp_t rfl (wp_and hs6 ?_)
            rw [wp_some]
            rw [← show M (22 + 4) s = e.1 4 s from c4] at mmh
            exact mmh
        refine wp_f h3 ?_
        by_cases h4 : p = 4
        · refine wp_t h4 ?_
          rw [wp_bind]
          refine c_wears hR hC hs6 ?_
          rw [wp_some]
          refine mm3 _ _ hM (wp_f h0 (wp_f h1 (wp_f h2 (wp_f h3 (wp_t h4 ?_)))))
          rw [wp_bind]
          refine m_wears hR hM hs6 ?_
          rw [wp_some]
          exact fin _ _ rfl
        refine wp_f h4 ?_
        rw [wp_some]
        refine mm3 _ _ hM (wp_f h0 (wp_f h1 (wp_f h2 (wp_f h3 (wp_f h4 ?_)))))
        rw [wp_some]
        exact fin _ _ rfl
  · rw [if_neg hs]
    refine wp_t rfl ?_
    rw [wp_some]
    refine mm0 M _ hM hs ?_
    exact ⟨rfl, CF_rfl M, MF_rfl M, hM⟩
