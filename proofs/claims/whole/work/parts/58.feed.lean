/-! both: feeding, counts, what was taken, traces -/
theorem Rl_7 {e : Vw} {M M' : Mem} (h : Rl e M) (h7' : R7 M') (hf : ∀ j q : Int, j ≠ 2 → (j ≠ 1 ∨ q ≠ 1) → j ≠ 133 → (j ≠ 127 ∨ (q ≠ 9 ∧ q ≠ 10)) → M' j q = M j q) : Rl e M' := by
  obtain ⟨h1, h2, h3, h4, h5, h6, h7, h8, h9⟩ := h
  refine ⟨R1_fr h1 ?_, R2_fr h2 ?_, R3_fr h3 ?_, R4_fr h4 ?_, R5_fr h5 ?_, R6_fr h6 ?_ ?_, h7', R8_fr h8 ?_, R9_fr h9 ?_⟩
  · exact fun j q c => hf j q (by omega) (by omega) (by omega) (by omega)
  · exact fun j q c => hf j q (by omega) (by omega) (by omega) (by omega)
  · exact fun j q c => hf j q (by omega) (by omega) (by omega) (by omega)
  · exact fun j q c => hf j q (by omega) (by omega) (by omega) (by omega)
  · exact fun j q c => hf j q (by omega) (by omega) (by omega) (by omega)
  · exact fun j q c => hf j q (by omega) (by omega) (by omega) (by omega)
  · rw [hf 0 6 (by omega) (by omega) (by omega) (by omega)]; exact Int.le_refl _
  · exact fun j q c => hf j q (by omega) (by omega) (by omega) (by omega)
  · exact fun j q c => hf j q (by omega) (by omega) (by omega) (by omega)
theorem w8_id {z : Int} (h : 0 ≤ z ∧ z ≤ 127) : w8 z = z := by unfold w8; omega
theorem o_feed {s : Int} {M : Mem} (hr : Rel M) : OP (f_X7_feed s) (f_X8_feed s) M := by
  obtain ⟨e, h⟩ := hr
  obtain ⟨g1, g2, g3, g4⟩ := h.2.2.2.2.2.2.1
  unfold OP f_X7_feed
  rw [wp_bind]
  refine c_isIn ?_
  by_cases hs : 0 ≤ s ∧ s ≤ 127
  · rw [if_pos hs]
    refine wp_f one_ne ?_
    simp only []
    by_cases hl : M 1 1 < 100
    · refine wp_t hl ?_
      rw [wp_bind, w8_id hs]
      unfold f_X5_grow
      rw [w8_id hs]
      refine wp_and (by omega) ?_
      rw [wp_lt]
      generalize hA : stM M 2 (M 1 1) s = A
      have a0 : A 1 1 = M 1 1 := by rw [← hA, st_nc (by decide)]
      rw [wp_lt, wp_some, a0, w_id (by omega) (by omega)]
      have hz : stM A 1 1 (M 1 1 + 1) 1 1 = M 1 1 + 1 := by rw [st_ap, if_pos ⟨rfl, rfl⟩]
      rw [hz, wp_some]
      have u1 : ∀ j q : Int, stM A 1 1 (M 1 1 + 1) j q = if j = 1 ∧ q = 1 then M 1 1 + 1 else if j = 2 ∧ q = M 1 1 then s else M j q := by
        intro j q
        rw [st_ap, ← hA, st_ap]
      generalize stM A 1 1 (M 1 1 + 1) = M1 at u1
      show wp (f_X8_feed s M1) _
      unfold f_X8_feed
      rw [wp_bind]
      refine m_in_t hs ?_
      refine wp_f one_ne ?_
      simp only []
      have b0 : M1 127 9 = M 1 1 := by rw [u1, if_neg (by omega), if_neg (by omega), g1]
      refine wp_f (by omega) (wp_and (by omega) ?_)
      rw [wp_lt, b0]
      generalize hB : stM M1 133 (M 1 1) s = B
      have b1 : B 127 9 = M 1 1 := by rw [← hB, st_nc (by decide), b0]
      rw [wp_lt, wp_some, b1, w_id (by omega) (by omega)]
      have hz2 : stM B 127 9 (M 1 1 + 1) 127 9 = M 1 1 + 1 := by rw [st_ap, if_pos ⟨rfl, rfl⟩]
      rw [hz2]
      have u2 : ∀ j q : Int, stM B 127 9 (M 1 1 + 1) j q = if j = 127 ∧ q = 9 then M 1 1 + 1 else if j = 133 ∧ q = M 1 1 then s else M1 j q := by
        intro j q
        rw [st_ap, ← hB, st_ap]
      generalize stM B 127 9 (M 1 1 + 1) = M2 at u2
      have e11 : M2 1 1 = M 1 1 + 1 := by rw [u2, if_neg (by omega), if_neg (by omega), u1, if_pos ⟨rfl, rfl⟩]
      refine ⟨rfl, e, Rl_7 h ⟨?_, ?_, ?_, ?_⟩ ?_⟩
      · rw [e11, u2, if_pos ⟨rfl, rfl⟩]
      · rw [e11]; omega
      · intro i i0 i1
        rw [e11] at i1
        have c1 : M2 2 i = if i = M 1 1 then s else M 2 i := by rw [u2, if_neg (by omega), if_neg (by omega), u1]; simp
        have c2 : M2 133 i = if i = M 1 1 then s else M 133 i := by rw [u2, u1]; simp
        rw [c1, c2]
        by_cases hi : i = M 1 1
        · rw [if_pos hi, if_pos hi]
          exact ⟨rfl, hs⟩
        · rw [if_neg hi, if_neg hi]
          exact g3 i i0 (by omega)
      · intro i i0 i1
        rw [u2, if_neg (by omega), if_neg (by omega), u1, if_neg (by omega), if_neg (by omega)]
        exact g4 i i0 i1
      · intro j q a1 a2 a3 a4
        rw [u2, if_neg (by omega), if_neg (by omega), u1, if_neg (by omega), if_neg (by omega)]
    · refine wp_f hl ?_
      rw [wp_some]
      show wp (f_X8_feed s M) _
      unfold f_X8_feed
      rw [wp_bind]
      refine m_in_t hs ?_
      refine wp_f one_ne (wp_t (by simp only []; omega) ?_)
      rw [wp_some]
      exact ⟨rfl, e, h⟩
  · rw [if_neg hs]
    refine wp_t rfl ?_
    rw [wp_some]
    show wp (f_X8_feed s M) _
    unfold f_X8_feed
    rw [wp_bind]
    refine m_in_f hs ?_
    refine wp_t rfl ?_
    rw [wp_some]
    exact ⟨rfl, e, h⟩
theorem o_count {w : Int} {M : Mem} (hr : Rel M) : OP (f_X7_count w) (f_X8_count w) M := by
  obtain ⟨e, h⟩ := hr
  have r0 : M 22 0 = M 127 0 := by rw [h.1.2.2.1.1, h.1.2.2.2.1.1]
  have r1 := h.2.2.2.2.1.2.1
  have r2 := h.2.1.1
  have r3 := h.2.2.1.1
  have r4 := h.2.2.2.1.1
  have r5 := h.2.2.2.2.2.2.1.1
  have r6 := h.2.2.2.2.2.2.2.1.1
  unfold OP f_X7_count f_X8_count
  by_cases h0 : w = 0
  · refine wp_t h0 ?_
    rw [wp_some]
    refine wp_t h0 ?_
    rw [wp_some]
    exact ⟨r0, e, h⟩
  refine wp_f h0 ?_
  by_cases h1 : w = 1
  · refine wp_t h1 ?_
    rw [wp_some]
    refine wp_f h0 (wp_t h1 ?_)
    rw [wp_some]
    exact ⟨r1.symm, e, h⟩
  refine wp_f h1 ?_
  by_cases h2 : w = 2
  · refine wp_t h2 ?_
    rw [wp_some]
    refine wp_f h0 (wp_f h1 (wp_t h2 ?_))
    rw [wp_some]
    exact ⟨r2.symm, e, h⟩
  refine wp_f h2 ?_
  by_cases h3 : w = 3
  · refine wp_t h3 ?_
    rw [wp_some]
    refine wp_f h0 (wp_f h1 (wp_f h2 (wp_t h3 ?_)))
    rw [wp_some]
    exact ⟨r3.symm, e, h⟩
  refine wp_f h3 ?_
  by_cases h4 : w = 4
  · refine wp_t h4 ?_
    rw [wp_some]
    refine wp_f h0 (wp_f h1 (wp_f h2 (wp_f h3 (wp_t h4 ?_))))
    rw [wp_some]
    exact ⟨r4.symm, e, h⟩
  refine wp_f h4 ?_
  by_cases h5 : w = 5
  · refine wp_t h5 ?_
    rw [wp_some]
    refine wp_f h0 (wp_f h1 (wp_f h2 (wp_f h3 (wp_f h4 (wp_t h5 ?_)))))
    rw [wp_some]
    exact ⟨r5.symm, e, h⟩
  refine wp_f h5 ?_
  by_cases h6 : w = 6
  · refine wp_t h6 ?_
    rw [wp_some]
    refine wp_f h0 (wp_f h1 (wp_f h2 (wp_f h3 (wp_f h4 (wp_f h5 (wp_t h6 ?_))))))
    rw [wp_some]
    exact ⟨r6.symm, e, h⟩
  refine wp_f h6 ?_
  rw [wp_some]
  refine wp_f h0 (wp_f h1 (wp_f h2 (wp_f h3 (wp_f h4 (wp_f h5 (wp_f h6 ?_))))))
  rw [wp_some]
  exact ⟨rfl, e, h⟩
theorem o_trace {i : Int} {M : Mem} (hr : Rel M) : OP (f_X7_trace i) (f_X8_trace i) M := by
  obtain ⟨e, h⟩ := hr
  obtain ⟨g1, g2, g3⟩ := h.2.2.2.2.2.2.2.1
  have no : ¬ (0 ≤ i ∧ i ≤ 19) → wp (f_X8_trace i M) (fun v' M2 => (-1 : Int) = v' ∧ Rel M2) := by
    intro hi
    unfold f_X8_trace
    rw [wp_bind]
    refine m_in_f hi ?_
    refine wp_t rfl ?_
    rw [wp_some]
    exact ⟨rfl, e, h⟩
  unfold OP f_X7_trace
  by_cases h0 : i < 0
  · refine wp_t h0 ?_
    rw [wp_some]
    exact no (by omega)
  refine wp_f h0 ?_
  by_cases h1 : 20 ≤ i
  · refine wp_t h1 ?_
    rw [wp_some]
    exact no (by omega)
  refine wp_f h1 ?_
  by_cases h2 : M 13 0 ≤ i
  · refine wp_t h2 ?_
    rw [wp_some]
    show wp (f_X8_trace i M) _
    unfold f_X8_trace
    rw [wp_bind]
    refine m_in_t (by omega) ?_
    refine wp_f one_ne (wp_t (by simp only []; omega) ?_)
    rw [wp_some]
    exact ⟨rfl, e, h⟩
  · refine wp_f h2 (wp_and (by omega) ?_)
    rw [wp_some]
    show wp (f_X8_trace i M) _
    unfold f_X8_trace
    rw [wp_bind]
    refine m_in_t (by omega) ?_
    refine wp_f one_ne (wp_f (by simp only []; omega) (wp_and (by omega) ?_))
    rw [wp_some]
    exact ⟨g3 i (by omega) (by omega) (by omega), e, h⟩
theorem tk_n {p1 p2 x2 x3 x4 x5 : Int} {F : Nat} {M : Mem} {Q : Int → Mem → Prop} (h5 : x5 < 7) (h4 : x4 < 0) (k : Q (-12) M) : wp (f_X7_taken_42 p1 p2 (F + 1) x2 x3 x4 x5 M) Q := by
  rw [f_X7_taken_42.eq_2]
  refine wp_f (by omega) (wp_t h4 ?_)
  rw [wp_some]
  exact k
theorem tk_s {p1 p2 x2 x3 x4 x5 y : Int} {F : Nat} {M : Mem} {Q : Int → Mem → Prop} (h5 : 0 ≤ x5 ∧ x5 < 7) (h4 : 0 ≤ x4 ∧ x4 < 7) (hy : tabA.getD x4.toNat 0 = y) (k1 : x4 = x2 → Q x3 M) (k2 : x4 ≠ x2 → wp (f_X7_taken_42 p1 p2 F x2 x3 y (x5 + 1) M) Q) : wp (f_X7_taken_42 p1 p2 (F + 1) x2 x3 x4 x5 M) Q := by
  rw [f_X7_taken_42.eq_2]
  refine wp_f (by omega) (wp_f (by omega) ?_)
  by_cases h : x4 = x2
  · refine wp_t h ?_
    rw [wp_some]
    exact k1 h
  · refine wp_f h (wp_and h4 ?_)
    rw [hy, w_id (by omega) (by omega)]
    exact k2 h
def tkA (kd k : Int) : Int := if k = 0 ∨ kd = k ∨ (k = 1 ∧ kd = 4) ∨ (k = 2 ∧ kd = 5) ∨ (k = 3 ∧ kd = 6) then kd else -12
theorem c_tk {p1 p2 k kd : Int} {M : Mem} {Q : Int → Mem → Prop} (hk : 0 ≤ k ∧ k ≤ 6) (hd : 0 ≤ kd ∧ kd ≤ 6) (kk : Q (tkA kd k) M) : wp (f_X7_taken_42 p1 p2 FU k kd kd 0 M) Q := by
  rw [FU_e, show (100000 : Nat) = 99996 + 1 + 1 + 1 + 1 from rfl]
  unfold tkA at kk
  have hc : kd = 0 ∨ kd = 1 ∨ kd = 2 ∨ kd = 3 ∨ kd = 4 ∨ kd = 5 ∨ kd = 6 := by omega
  rcases hc with rfl | rfl | rfl | rfl | rfl | rfl | rfl
  · refine tk_s (y := -1) (by omega) (by omega) rfl (fun h => ?_) (fun h => tk_n (by omega) (by omega) ?_)
    · rw [if_pos (by omega)] at kk; exact kk
    · rw [if_neg (by omega)] at kk; exact kk
  · refine tk_s (y := 0) (by omega) (by omega) rfl (fun h => ?_) (fun h => tk_s (y := -1) (by omega) (by omega) rfl (fun h => ?_) (fun h => tk_n (by omega) (by omega) ?_))
    · rw [if_pos (by omega)] at kk; exact kk
    · rw [if_pos (by omega)] at kk; exact kk
    · rw [if_neg (by omega)] at kk; exact kk
  · refine tk_s (y := 0) (by omega) (by omega) rfl (fun h => ?_) (fun h => tk_s (y := -1) (by omega) (by omega) rfl (fun h => ?_) (fun h => tk_n (by omega) (by omega) ?_))
    · rw [if_pos (by omega)] at kk; exact kk
    · rw [if_pos (by omega)] at kk; exact kk
    · rw [if_neg (by omega)] at kk; exact kk
  · refine tk_s (y := 0) (by omega) (by omega) rfl (fun h => ?_) (fun h => tk_s (y := -1) (by omega) (by omega) rfl (fun h => ?_) (fun h => tk_n (by omega) (by omega) ?_))
    · rw [if_pos (by omega)] at kk; exact kk
    · rw [if_pos (by omega)] at kk; exact kk
    · rw [if_neg (by omega)] at kk; exact kk
  · refine tk_s (y := 1) (by omega) (by omega) rfl (fun h => ?_) (fun h => tk_s (y := 0) (by omega) (by omega) rfl (fun h => ?_) (fun h => tk_s (y := -1) (by omega) (by omega) rfl (fun h => ?_) (fun h => tk_n (by omega) (by omega) ?_)))
    · rw [if_pos (by omega)] at kk; exact kk
    · rw [if_pos (by omega)] at kk; exact kk
    · rw [if_pos (by omega)] at kk; exact kk
    · rw [if_neg (by omega)] at kk; exact kk
  · refine tk_s (y := 2) (by omega) (by omega) rfl (fun h => ?_) (fun h => tk_s (y := 0) (by omega) (by omega) rfl (fun h => ?_) (fun h => tk_s (y := -1) (by omega) (by omega) rfl (fun h => ?_) (fun h => tk_n (by omega) (by omega) ?_)))
    · rw [if_pos (by omega)] at kk; exact kk
    · rw [if_pos (by omega)] at kk; exact kk
    · rw [if_pos (by omega)] at kk; exact kk
    · rw [if_neg (by omega)] at kk; exact kk
  · refine tk_s (y := 3) (by omega) (by omega) rfl (fun h => ?_) (fun h => tk_s (y := 0) (by omega) (by omega) rfl (fun h => ?_) (fun h => tk_s (y := -1) (by omega) (by omega) rfl (fun h => ?_) (fun h => tk_n (by omega) (by omega) ?_)))
    · rw [if_pos (by omega)] at kk; exact kk
    · rw [if_pos (by omega)] at kk; exact kk
    · rw [if_pos (by omega)] at kk; exact kk
    · rw [if_neg (by omega)] at kk; exact kk
theorem m_tk {s k kd : Int} {M : Mem} {Q : Int → Mem → Prop} (hs : 0 ≤ s ∧ s < 6) (h128 : M 128 s = kd) (hk : 0 ≤ k ∧ k ≤ 6) (hd : 0 ≤ kd ∧ kd ≤ 6) (kk : Q (tkA kd k) M) : wp (if 0 ≤ s ∧ s < 6 then if k = 0 then some (M 128 s, M) else if M 128 s = k then some (M 128 s, M) else if k = 1 then if M 128 s = 4 then some (M 128 s, M) else f_X8_taken_51 s k k (M 128 s) M else f_X8_taken_51 s k k (M 128 s) M else none) Q := by
  refine wp_and hs ?_
  rw [h128]
  unfold f_X8_taken_51 f_X8_taken_61
  unfold tkA at kk
  by_cases k0 : k = 0
  · rw [if_pos (Or.inl k0)] at kk
    refine wp_t k0 ?_
    rw [wp_some]
    exact kk
  refine wp_f k0 ?_
  by_cases k1 : kd = k
  · rw [if_pos (Or.inr (Or.inl k1))] at kk
    refine wp_t k1 ?_
    rw [wp_some]
    exact kk
  refine wp_f k1 ?_
  by_cases a1 : k = 1
  · refine wp_t a1 ?_
    by_cases a4 : kd = 4
    · rw [if_pos (by omega)] at kk
      refine wp_t a4 ?_
      rw [wp_some]
      exact kk
    · rw [if_neg (by omega)] at kk
      refine wp_f a4 (wp_f (by omega) (wp_f (by omega) ?_))
      rw [wp_some]
      exact kk
  refine wp_f a1 ?_
  by_cases a2 : k = 2
  · refine wp_t a2 ?_
    by_cases a5 : kd = 5
    · rw [if_pos (by omega)] at kk
      refine wp_t a5 ?_
      rw [wp_some]
      exact kk
    · rw [if_neg (by omega)] at kk
      refine wp_f a5 (wp_f (by omega) ?_)
      rw [wp_some]
      exact kk
  refine wp_f a2 ?_
  by_cases a3 : k = 3
  · refine wp_t a3 ?_
    by_cases a6 : kd = 6
    · rw [if_pos (by omega)] at kk
      refine wp_t a6 ?_
      rw [wp_some]
      exact kk
    · rw [if_neg (by omega)] at kk
      refine wp_f a6 ?_
      rw [wp_some]
      exact kk
  refine wp_f a3 ?_
  rw [if_neg (by omega)] at kk
  rw [wp_some]
  exact kk
theorem o_taken {s k : Int} {M : Mem} (hr : Rel M) : OP (f_X7_taken s k) (f_X8_taken s k) M := by
  obtain ⟨e, h⟩ := hr
  obtain ⟨hR, hy, hC, hM, hz, h7⟩ := h.1
  have h6 := hR.1
  unfold OP f_X7_taken
  rw [wp_bind]
  refine c_isIn ?_
  by_cases hk : 0 ≤ k ∧ k ≤ 6
  · rw [if_pos hk]
    refine wp_f one_ne ?_
    rw [wp_bind]
    refine c_has hC ?_
    by_cases hs : 0 ≤ s ∧ s < e.1 0 0
    · rw [if_pos hs]
      refine wp_f one_ne (wp_and (by omega) ?_)
      have a : M 23 s = e.1 1 s := (hC.2.2.1 s hs.1 (by omega)).1
      have b := (hM.2.2.1 s hs.1 (by omega)).1
      have d := (hR.2.2.1 s).1
      simp only []
      rw [a]
      refine c_tk hk d ?_
      unfold f_X8_taken
      rw [wp_bind]
      refine m_in_t hk ?_
      refine wp_f one_ne ?_
      rw [wp_bind]
      refine m_isS hR hM ?_
      rw [if_pos hs]
      refine wp_f one_ne ?_
      exact m_tk (by omega) b hk d ⟨rfl, e, h⟩
    · rw [if_neg hs]
      refine wp_t rfl ?_
      rw [wp_some]
      show wp (f_X8_taken s k M) _
      unfold f_X8_taken
      rw [wp_bind]
      refine m_in_t hk ?_
      refine wp_f one_ne ?_
      rw [wp_bind]
      refine m_isS hR hM ?_
      rw [if_neg hs]
      refine wp_t rfl ?_
      rw [wp_some]
      exact ⟨rfl, e, h⟩
  · rw [if_neg hk]
    refine wp_t rfl ?_
    rw [wp_some]
    show wp (f_X8_taken s k M) _
    unfold f_X8_taken
    rw [wp_bind]
    refine m_in_f hk ?_
    refine wp_t rfl ?_
    rw [wp_some]
    exact ⟨rfl, e, h⟩
