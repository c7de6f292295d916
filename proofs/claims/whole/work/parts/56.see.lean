/-! both: what is seen, planned, booked; counts -/
theorem c_empty {o : Int} {M : Mem} {Q : Int → Mem → Prop} (k : Q 0 (stM M o 0 0)) : wp (f_X2_empty o M) Q := by
  unfold f_X2_empty
  rw [wp_lt, wp_some]
  have : stM M o 0 0 o 0 = 0 := by rw [st_ap, if_pos ⟨rfl, rfl⟩]
  rw [this]
  exact k
theorem c_full {o : Int} {N : Nat} {M : Mem} {Q : Int → Mem → Prop} (hN : rwN o = N) (k : Q (if M o 0 < (N : Int) then 0 else 1) M) : wp (f_X2_isFull o M) Q := by
  unfold f_X2_isFull
  rw [hN]
  by_cases h : M o 0 < (N : Int)
  · rw [if_pos h] at k
    refine wp_t h ?_
    rw [wp_some]
    exact k
  · rw [if_neg h] at k
    refine wp_f h ?_
    rw [wp_some]
    exact k
def wr4 (M : Mem) (o n a b c z : Int) (M' : Mem) : Prop := ∀ j q : Int, M' j q = if j = o ∧ q = 0 then z else if j = o + 1 ∧ q = n then a else if j = o + 2 ∧ q = n then b else if j = o + 3 ∧ q = n then c else M j q
theorem c_add {o a b c n : Int} {N : Nat} {M : Mem} {Q : Int → Mem → Prop} (hN : rwN o = N) (hN2 : N ≤ 10) (h0 : M o 0 = n) (hn : 0 ≤ n ∧ n < N) (kk : ∀ M', wr4 M o n a b c (n + 1) M' → Q (n + 1) M') : wp (f_X2_add o a b c M) Q := by
  unfold f_X2_add
  rw [hN]
  refine wp_and (by omega) ?_
  rw [wp_lt]
  generalize hA : stM M (o + 1) (M o 0) a = A
  have a0 : A o 0 = n := by rw [← hA, st_nc (by omega), h0]
  refine wp_and (by omega) ?_
  rw [wp_lt]
  generalize hB : stM A (o + 2) (A o 0) b = B
  have b0 : B o 0 = n := by rw [← hB, st_nc (by omega), a0]
  refine wp_and (by omega) ?_
  rw [wp_lt]
  generalize hD : stM B (o + 3) (B o 0) c = D
  have d0 : D o 0 = n := by rw [← hD, st_nc (by omega), b0]
  rw [wp_lt, wp_some, d0, w_id (by omega) (by omega)]
  have hz : stM D o 0 (n + 1) o 0 = n + 1 := by
    rw [st_ap, if_pos ⟨rfl, rfl⟩]
  rw [hz]
  refine kk _ ?_
  intro j q
  rw [st_ap, ← hD, st_ap, b0, ← hB, st_ap, a0, ← hA, st_ap, h0]
  clear hA hB hD a0 b0 d0 hz kk
  generalize M j q = m
  clear h0
  grind
theorem Rl_2 {e : Vw} {M M' : Mem} (h : Rl e M) (h2' : R2 M') (hf : ∀ j q : Int, (j < 28 ∨ 31 < j) → (j < 148 ∨ 150 < j) → (j ≠ 127 ∨ q ≠ 33) → M' j q = M j q) : Rl e M' := by
  obtain ⟨h1, h2, h3, h4, h5, h6, h7, h8, h9⟩ := h
  refine ⟨R1_fr h1 ?_, h2', R3_fr h3 ?_, R4_fr h4 ?_, R5_fr h5 ?_, R6_fr h6 ?_ ?_, R7_fr h7 ?_, R8_fr h8 ?_, R9_fr h9 ?_⟩
  · exact fun j q c => hf j q (by omega) (by omega) (by omega)
  · exact fun j q c => hf j q (by omega) (by omega) (by omega)
  · exact fun j q c => hf j q (by omega) (by omega) (by omega)
  · exact fun j q c => hf j q (by omega) (by omega) (by omega)
  · exact fun j q c => hf j q (by omega) (by omega) (by omega)
  · rw [hf 0 6 (by omega) (by omega) (by omega)]; exact Int.le_refl _
  · exact fun j q c => hf j q (by omega) (by omega) (by omega)
  · exact fun j q c => hf j q (by omega) (by omega) (by omega)
  · exact fun j q c => hf j q (by omega) (by omega) (by omega)
theorem Rl_3 {e : Vw} {M M' : Mem} (h : Rl e M) (h3' : R3 (e.1 0 0) M') (hf : ∀ j q : Int, (j < 32 ∨ 35 < j) → (j < 151 ∨ 152 < j) → (j ≠ 127 ∨ q ≠ 37) → M' j q = M j q) : Rl e M' := by
  obtain ⟨h1, h2, h3, h4, h5, h6, h7, h8, h9⟩ := h
  refine ⟨R1_fr h1 ?_, R2_fr h2 ?_, h3', R4_fr h4 ?_, R5_fr h5 ?_, R6_fr h6 ?_ ?_, R7_fr h7 ?_, R8_fr h8 ?_, R9_fr h9 ?_⟩
  · exact fun j q c => hf j q (by omega) (by omega) (by omega)
  · exact fun j q c => hf j q (by omega) (by omega) (by omega)
  · exact fun j q c => hf j q (by omega) (by omega) (by omega)
  · exact fun j q c => hf j q (by omega) (by omega) (by omega)
  · exact fun j q c => hf j q (by omega) (by omega) (by omega)
  · rw [hf 0 6 (by omega) (by omega) (by omega)]; exact Int.le_refl _
  · exact fun j q c => hf j q (by omega) (by omega) (by omega)
  · exact fun j q c => hf j q (by omega) (by omega) (by omega)
  · exact fun j q c => hf j q (by omega) (by omega) (by omega)
theorem Rl_4 {e : Vw} {M M' : Mem} (h : Rl e M) (h4' : R4 (e.1 0 0) M') (hf : ∀ j q : Int, (j < 36 ∨ 39 < j) → (j < 153 ∨ 154 < j) → (j ≠ 127 ∨ q ≠ 38) → M' j q = M j q) : Rl e M' := by
  obtain ⟨h1, h2, h3, h4, h5, h6, h7, h8, h9⟩ := h
  refine ⟨R1_fr h1 ?_, R2_fr h2 ?_, R3_fr h3 ?_, h4', R5_fr h5 ?_, R6_fr h6 ?_ ?_, R7_fr h7 ?_, R8_fr h8 ?_, R9_fr h9 ?_⟩
  · exact fun j q c => hf j q (by omega) (by omega) (by omega)
  · exact fun j q c => hf j q (by omega) (by omega) (by omega)
  · exact fun j q c => hf j q (by omega) (by omega) (by omega)
  · exact fun j q c => hf j q (by omega) (by omega) (by omega)
  · exact fun j q c => hf j q (by omega) (by omega) (by omega)
  · rw [hf 0 6 (by omega) (by omega) (by omega)]; exact Int.le_refl _
  · exact fun j q c => hf j q (by omega) (by omega) (by omega)
  · exact fun j q c => hf j q (by omega) (by omega) (by omega)
  · exact fun j q c => hf j q (by omega) (by omega) (by omega)
theorem o_see {t n y : Int} {M : Mem} (hr : Rel M) : OP (f_X7_see t n y) (f_X8_see t n y) M := by
  obtain ⟨e, h⟩ := hr
  obtain ⟨g1, g2, g3⟩ := h.2.1
  unfold OP f_X7_see
  by_cases ht1 : t = -1
  · refine wp_t ht1 ?_
    rw [wp_bind]
    refine c_empty ?_
    rw [wp_some]
    show wp (f_X8_see t n y (stM M 28 0 0)) _
    unfold f_X8_see
    refine wp_t ht1 ?_
    rw [wp_lt, wp_some]
    refine ⟨rfl, e, Rl_2 h ⟨?_, ?_⟩ ?_⟩
    · rw [st_ap, if_pos ⟨rfl, rfl⟩, st_nc (by decide), st_ap, if_pos ⟨rfl, rfl⟩]
    · rw [st_nc (show (28 : Int) ≠ 127 by decide), st_ap, if_pos ⟨rfl, rfl⟩]
      exact ⟨by omega, fun i a b => by omega⟩
    · intro j q a1 a2 a3
      rw [st_ap, if_neg (by omega), st_ap, if_neg (by omega)]
  · refine wp_f ht1 ?_
    have mm : ∀ (Q : Int → Mem → Prop) (M1 : Mem), M1 127 33 = M 127 33 → (¬ (0 ≤ t ∧ t ≤ 4) → Q (-1) M1) → ((0 ≤ t ∧ t ≤ 4) → ¬ ((0 ≤ n ∧ n ≤ 999) ∧ 0 ≤ y ∧ y ≤ 20) → Q (-2) M1) → ((0 ≤ t ∧ t ≤ 4) → ((0 ≤ n ∧ n ≤ 999) ∧ 0 ≤ y ∧ y ≤ 20) → ¬ M 28 0 < 5 → Q (-4) M1) → ((0 ≤ t ∧ t ≤ 4) → ((0 ≤ n ∧ n ≤ 999) ∧ 0 ≤ y ∧ y ≤ 20) → M 28 0 < 5 → ∀ M', (∀ j q : Int, M' j q = if j = 127 ∧ q = 33 then M 28 0 + 1 else if j = 148 ∧ q = M 28 0 then t else if j = 149 ∧ q = M 28 0 then n else if j = 150 ∧ q = M 28 0 then y else M1 j q) → Q (M 28 0 + 1) M') → wp (f_X8_see t n y M1) Q := by
      intro Q M1 h33 k1 k2 k3 k4
      rw [g1] at h33
      unfold f_X8_see
      refine wp_f ht1 ?_
      rw [wp_bind]
      refine m_isH ?_
      by_cases ht : 0 ≤ t ∧ t ≤ 4
      · rw [if_pos ht]
        refine wp_f one_ne ?_
        rw [wp_bind]
        refine m_in ?_
        by_cases hn : 0 ≤ n ∧ n ≤ 999
        · rw [if_pos hn]
          refine wp_f one_ne ?_
          rw [wp_bind]
          refine m_in ?_
          by_cases hy : 0 ≤ y ∧ y ≤ 20
          · rw [if_pos hy]
            refine wp_f one_ne ?_
            simp only []
            by_cases h5 : M 28 0 < 5
            · refine wp_f (by omega) (wp_and (by omega) ?_)
              rw [wp_lt]
              generalize hA : stM M1 148 (M1 127 33) t = A
              have a0 : A 127 33 = M 28 0 := by rw [← hA, st_nc (by decide), h33]
              refine wp_and (by omega) ?_
              rw [wp_lt]
              generalize hB : stM A 149 (A 127 33) n = B
              have b0 : B 127 33 = M 28 0 := by rw [← hB, st_nc (by decide), a0]
              refine wp_and (by omega) ?_
              rw [wp_lt]
              generalize hD : stM B 150 (B 127 33) y = D
              have d0 : D 127 33 = M 28 0 := by rw [← hD, st_nc (by decide), b0]
              rw [wp_lt, wp_some, d0, w_id (by omega) (by omega)]
              have hz : stM D 127 33 (M 28 0 + 1) 127 33 = M 28 0 + 1 := by rw [st_ap, if_pos ⟨rfl, rfl⟩]
              rw [hz]
              refine k4 ht ⟨hn, hy⟩ h5 _ ?_
              intro j q
              rw [st_ap, ← hD, st_ap, b0, ← hB, st_ap, a0, ← hA, st_ap, h33]
              clear hA hB hD a0 b0 d0 hz k1 k2 k3 k4 h33
              generalize M1 j q = m
              generalize M 28 0 = w
              grind
            · refine wp_t (by have := g2.2; omega) ?_
              rw [wp_some]
              exact k3 ht ⟨hn, hy⟩ h5
          · rw [if_neg hy]
            refine wp_t rfl ?_
            rw [wp_some]
            exact k2 ht (fun c => hy c.2)
        · rw [if_neg hn]
          refine wp_t rfl ?_
          rw [wp_some]
          exact k2 ht (fun c => hn c.1)
      · rw [if_neg ht]
        refine wp_t rfl ?_
        rw [wp_some]
        exact k1 ht
    rw [wp_bind]
    refine c_isH ?_
    by_cases ht : 0 ≤ t ∧ t ≤ 4
    · rw [if_pos ht]
      refine wp_f one_ne ?_
      rw [wp_bind]
      refine c_isIn ?_
      by_cases hn : 0 ≤ n ∧ n ≤ 999
      · rw [if_pos hn]
        refine wp_f one_ne ?_
        rw [wp_bind]
        refine c_isIn ?_
        by_cases hy : 0 ≤ y ∧ y ≤ 20
        · rw [if_pos hy]
          refine wp_f one_ne ?_
          rw [wp_bind]
          refine c_full (N := 5) rfl ?_
          by_cases h5 : M 28 0 < 5
          · rw [if_pos (show M 28 0 < ((5 : Nat) : Int) from h5)]
            refine wp_t rfl ?_
            rw [wp_bind]
            refine c_add (n := M 28 0) (N := 5) rfl (by decide) rfl ⟨g2.1, h5⟩ ?_
            intro M1 u1
            have u1 : ∀ j q : Int, M1 j q = if j = 28 ∧ q = 0 then M 28 0 + 1 else if j = 28 + 1 ∧ q = M 28 0 then t else if j = 28 + 2 ∧ q = M 28 0 then n else if j = 28 + 3 ∧ q = M 28 0 then y else M j q := u1
            rw [wp_some]
            refine mm _ M1 (by rw [u1, if_neg (by omega), if_neg (by omega), if_neg (by omega), if_neg (by omega)]) (fun c => absurd ht c) (fun _ c => absurd ⟨hn, hy⟩ c) (fun _ _ c => absurd h5 c) ?_
            intro _ _ _ M2 u2
            refine ⟨rfl, e, Rl_2 h ⟨?_, ?_, ?_⟩ ?_⟩
            · rw [u2, if_pos ⟨rfl, rfl⟩, u2, if_neg (by omega), if_neg (by omega), if_neg (by omega), if_neg (by omega), u1, if_pos ⟨rfl, rfl⟩]
            · have e28 : M2 28 0 = M 28 0 + 1 := by rw [u2, if_neg (by omega), if_neg (by omega), if_neg (by omega), if_neg (by omega), u1, if_pos ⟨rfl, rfl⟩]
              rw [e28]
              omega
            · have e28 : M2 28 0 = M 28 0 + 1 := by rw [u2, if_neg (by omega), if_neg (by omega), if_neg (by omega), if_neg (by omega), u1, if_pos ⟨rfl, rfl⟩]
              intro i i0 i1
              rw [e28] at i1
              have cl : M2 29 i = (if i = M 28 0 then t else M 29 i) ∧ M2 30 i = (if i = M 28 0 then n else M 30 i) ∧ M2 31 i = (if i = M 28 0 then y else M 31 i) ∧ M2 148 i = (if i = M 28 0 then t else M 148 i) ∧ M2 149 i = (if i = M 28 0 then n else M 149 i) ∧ M2 150 i = (if i = M 28 0 then y else M 150 i) := by
                refine ⟨?_, ?_, ?_, ?_, ?_, ?_⟩
                · rw [u2, if_neg (by omega), if_neg (by omega), if_neg (by omega), if_neg (by omega), u1]; simp
                · rw [u2, if_neg (by omega), if_neg (by omega), if_neg (by omega), if_neg (by omega), u1]; simp
                · rw [u2, if_neg (by omega), if_neg (by omega), if_neg (by omega), if_neg (by omega), u1]; simp
                · rw [u2, u1]; simp
                · rw [u2, u1]; simp
                · rw [u2, u1]; simp
              rw [cl.1, cl.2.1, cl.2.2.1, cl.2.2.2.1, cl.2.2.2.2.1, cl.2.2.2.2.2]
              by_cases hi : i = M 28 0
              · rw [if_pos hi, if_pos hi, if_pos hi, if_pos hi, if_pos hi, if_pos hi]
                exact ⟨rfl, rfl, rfl, ht, hy⟩
              · rw [if_neg hi, if_neg hi, if_neg hi, if_neg hi, if_neg hi, if_neg hi]
                exact g3 i i0 (by omega)
            · intro j q a1 a2 a3
              rw [u2, if_neg (by omega), if_neg (by omega), if_neg (by omega), if_neg (by omega), u1, if_neg (by omega), if_neg (by omega), if_neg (by omega), if_neg (by omega)]
          · rw [if_neg (show ¬ M 28 0 < ((5 : Nat) : Int) from h5)]
            refine wp_f one_ne ?_
            rw [wp_some]
            exact mm _ _ rfl (fun c => absurd ht c) (fun _ c => absurd ⟨hn, hy⟩ c) (fun _ _ _ => ⟨rfl, e, h⟩) (fun _ _ c => absurd c h5)
        · rw [if_neg hy]
          refine wp_t rfl ?_
          rw [wp_some]
          exact mm _ _ rfl (fun c => absurd ht c) (fun _ _ => ⟨rfl, e, h⟩) (fun _ c => absurd c.2 hy) (fun _ c => absurd c.2 hy)
      · rw [if_neg hn]
        refine wp_t rfl ?_
        rw [wp_some]
        exact mm _ _ rfl (fun c => absurd ht c) (fun _ _ => ⟨rfl, e, h⟩) (fun _ c => absurd c.1 hn) (fun _ c => absurd c.1 hn)
    · rw [if_neg ht]
      refine wp_t rfl ?_
      rw [wp_some]
      exact mm _ _ rfl (fun _ => ⟨rfl, e, h⟩) (fun c => absurd c ht) (fun c => absurd c ht) (fun c => absurd c ht)
