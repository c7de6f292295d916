/-! both: a new sound -/
def nw (e : Vw) (k v l h : Int) : Vw := (fun c q => if c = 0 ∧ q = 0 then e.1 0 0 + 1 else if c = 1 ∧ q = e.1 0 0 then k else if c = 2 ∧ q = e.1 0 0 then v else if c = 3 ∧ q = e.1 0 0 then l else if c = 4 ∧ q = e.1 0 0 then h else e.1 c q, e.2)
theorem nw_0 {e : Vw} {k v l h : Int} : (nw e k v l h).1 0 0 = e.1 0 0 + 1 := rfl
theorem nw_6 {e : Vw} {k v l h : Int} : (nw e k v l h).1 6 0 = e.1 6 0 := rfl
theorem nw_5 {e : Vw} {k v l h q : Int} : (nw e k v l h).1 5 q = e.1 5 q := rfl
theorem nw_1 {e : Vw} {k v l h q : Int} : (nw e k v l h).1 1 q = if q = e.1 0 0 then k else e.1 1 q := by simp [nw]
theorem nw_2 {e : Vw} {k v l h q : Int} : (nw e k v l h).1 2 q = if q = e.1 0 0 then v else e.1 2 q := by simp [nw]
theorem nw_3 {e : Vw} {k v l h q : Int} : (nw e k v l h).1 3 q = if q = e.1 0 0 then l else e.1 3 q := by simp [nw]
theorem nw_4 {e : Vw} {k v l h q : Int} : (nw e k v l h).1 4 q = if q = e.1 0 0 then h else e.1 4 q := by simp [nw]
/-- five cells are written: four rows at the place, and the count -/
def wr5 (M : Mem) (o : Int) (n a b c d z : Int) (M' : Mem) : Prop := ∀ j q : Int, M' j q = if j = o ∧ q = 0 then z else if j = o + 1 ∧ q = n then a else if j = o + 2 ∧ q = n then b else if j = o + 3 ∧ q = n then c else if j = o + 4 ∧ q = n then d else M j q
theorem c_come {e : Vw} {k v l h : Int} {M : Mem} {Q : Int → Mem → Prop} (hC : LC 22 e M) (hn : 0 ≤ e.1 0 0 ∧ e.1 0 0 < 6) (kk : ∀ M', wr5 M 22 (e.1 0 0) k v l h (e.1 0 0 + 1) M' → Q (e.1 0 0) M') : wp (f_X1_come 22 k v l h M) Q := by
  have h0 := hC.1
  unfold f_X1_come
  refine wp_and (by omega) ?_
  rw [wp_lt]
  generalize hA : stM M (22 + 1) (M 22 0) k = A
  have a0 : A 22 0 = M 22 0 := by rw [← hA, st_nc (by decide)]
  refine wp_and (by omega) ?_
  rw [wp_lt]
  generalize hB : stM A (22 + 2) (A 22 0) v = B
  have b0 : B 22 0 = M 22 0 := by rw [← hB, st_nc (by decide), a0]
  refine wp_and (by omega) ?_
  rw [wp_lt]
  generalize hD : stM B (22 + 3) (B 22 0) l = D
  have d0 : D 22 0 = M 22 0 := by rw [← hD, st_nc (by decide), b0]
  refine wp_and (by omega) ?_
  rw [wp_lt]
  generalize hE : stM D (22 + 4) (D 22 0) h = E
  have e0 : E 22 0 = M 22 0 := by rw [← hE, st_nc (by decide), d0]
  rw [wp_lt, wp_some]
  have hz : stM E 22 0 (w32 (E 22 0 + 1)) 22 0 = e.1 0 0 + 1 := by
    rw [st_ap, if_pos ⟨rfl, rfl⟩, e0, h0, w_id (by omega) (by omega)]
  rw [hz, w_id (by omega) (by omega), show e.1 0 0 + 1 - 1 = e.1 0 0 by omega]
  refine kk _ ?_
  intro j q
  rw [st_ap, e0, h0, w_id (by omega) (by omega), ← hE, st_ap, d0, h0, ← hD, st_ap, b0, h0, ← hB, st_ap, a0, h0, ← hA, st_ap, h0]
  clear hA hB hD hE a0 b0 d0 e0 hz kk hC
  generalize M j q = m
  generalize e.1 0 0 = n at hn ⊢
  clear h0
  grind
theorem o_sound {k v l h : Int} {M : Mem} (hr : Rel M) : OP (f_X7_sound k v l h) (f_X8_sound k v l h) M := by
  obtain ⟨e, hh⟩ := hr
  obtain ⟨hR, hy, hC, hM, hz, h7⟩ := hh.1
  have h6 := hR.1
  have mm : ∀ (M1 : Mem) (Q : Int → Mem → Prop), LM e M1 → (¬ ((0 ≤ k ∧ k ≤ 6) ∧ 0 ≤ h ∧ h ≤ 4) → Q (-1) M1) → ((0 ≤ k ∧ k ≤ 6) ∧ 0 ≤ h ∧ h ≤ 4 → ¬ ((0 ≤ v ∧ v ≤ 9) ∧ 0 ≤ l ∧ l ≤ 99) → Q (-2) M1) → ((0 ≤ k ∧ k ≤ 6) ∧ 0 ≤ h ∧ h ≤ 4 → (0 ≤ v ∧ v ≤ 9) ∧ 0 ≤ l ∧ l ≤ 99 → ¬ e.1 0 0 < 6 → Q (-4) M1) →
      ((0 ≤ k ∧ k ≤ 6) ∧ 0 ≤ h ∧ h ≤ 4 → (0 ≤ v ∧ v ≤ 9) ∧ 0 ≤ l ∧ l ≤ 99 → e.1 0 0 < 6 → ∀ M', (∀ j q : Int, (j ≠ 127 ∨ q ≠ 0) → (j < 128 ∨ 132 < j) → M' j q = M1 j q) → M' 127 0 = e.1 0 0 + 1 → (∀ s : Int, M' 128 s = (if s = e.1 0 0 then k else M1 128 s) ∧ M' 129 s = (if s = e.1 0 0 then v else M1 129 s) ∧ M' 130 s = (if s = e.1 0 0 then l else M1 130 s) ∧ M' 131 s = (if s = e.1 0 0 then h else M1 131 s)) → (∀ i : Int, M' 132 i = if 4 * e.1 0 0 ≤ i ∧ i < 4 * e.1 0 0 + 4 then 0 else M1 132 i) → Q (e.1 0 0) M') → wp (f_X8_sound k v l h M1) Q := by
    intro M1 Q hM1 k1 k2 k3 k4
    have hm0 := hM1.1
    unfold f_X8_sound
    rw [wp_bind]
    refine m_in ?_
    by_cases hk : 0 ≤ k ∧ k ≤ 6
    · rw [if_pos hk]
      refine wp_f one_ne ?_
      rw [wp_bind]
      refine m_isH ?_
      by_cases hh : 0 ≤ h ∧ h ≤ 4
      · rw [if_pos hh]
        refine wp_f one_ne ?_
        rw [wp_bind]
        refine m_in ?_
        by_cases hv : 0 ≤ v ∧ v ≤ 9
        · rw [if_pos hv]
          refine wp_f one_ne ?_
          rw [wp_bind]
          refine m_isLoud ?_
          by_cases hl : 0 ≤ l ∧ l ≤ 99
          · rw [if_pos hl]
            refine wp_f one_ne ?_
            simp only []
            by_cases h66 : e.1 0 0 < 6
            · refine wp_f (by omega) (wp_and (by omega) ?_)
              rw [wp_lt]
              generalize hA : stM M1 128 (M1 127 0) k = A
              have a0 : A 127 0 = M1 127 0 := by rw [← hA, st_nc (by decide)]
              refine wp_and (by omega) ?_
              rw [wp_lt]
              generalize hB : stM A 129 (A 127 0) v = B
              have b0 : B 127 0 = M1 127 0 := by rw [← hB, st_nc (by decide), a0]
              refine wp_and (by omega) ?_
              rw [wp_lt]
              generalize hD : stM B 130 (B 127 0) l = D
              have d0 : D 127 0 = M1 127 0 := by rw [← hD, st_nc (by decide), b0]
              refine wp_and (by omega) ?_
              rw [wp_lt]
              generalize hE : stM D 131 (D 127 0) h = E
              have e0 : E 127 0 = M1 127 0 := by rw [← hE, st_nc (by decide), d0]
              have hEj : ∀ j : Int, (j < 128 ∨ 131 < j) → E j = M1 j := fun j hj => by rw [← hE, st_nc (by omega), ← hD, st_nc (by omega), ← hB, st_nc (by omega), ← hA, st_nc (by omega)]
              have hEs : ∀ s : Int, E 128 s = (if s = e.1 0 0 then k else M1 128 s) ∧ E 129 s = (if s = e.1 0 0 then v else M1 129 s) ∧ E 130 s = (if s = e.1 0 0 then l else M1 130 s) ∧ E 131 s = (if s = e.1 0 0 then h else M1 131 s) := by
                intro s
                rw [← hE, st_ap, st_ap, st_ap, st_ap, d0, hm0, ← hD, st_ap, st_ap, st_ap, st_ap, b0, hm0, ← hB, st_ap, st_ap, st_ap, st_ap, a0, hm0, ← hA, st_ap, st_ap, st_ap, st_ap, hm0]
                refine ⟨?_, ?_, ?_, ?_⟩ <;> simp
              refine wloop0 (St := Unit) (L := fun fuel x st M' => f_X8_sound_100 k v l h fuel x M') 4 (Inv := fun i st M' => (∀ j, j ≠ 132 → M' j = E j) ∧ ∀ q : Int, M' 132 q = if 4 * e.1 0 0 ≤ q ∧ q < 4 * e.1 0 0 + i then 0 else E 132 q) (by omega) ?_ ?_ (st := ()) ⟨fun _ _ => rfl, fun q => by rw [if_neg (by omega)]⟩
              · intro i fuel st M2 hi ⟨g1, g2⟩ kk
                show wp (f_X8_sound_100 k v l h (fuel + 1) (i : Int) M2) _
                rw [f_X8_sound_100.eq_2, g1 127 (by decide), e0, hm0, w_id (z := 4 * e.1 0 0) (by omega) (by omega), w_id (z := 4 * e.1 0 0 + (i : Int)) (by omega) (by omega)]
                refine wp_f (by omega) (wp_and (by omega) ?_)
                rw [wp_lt, w_suc (by omega)]
                refine kk () _ ⟨fun j hj => (st_nc hj).trans (g1 j hj), fun q => ?_⟩
                rw [st_ap, g2]
                generalize E 132 q = m
                by_cases hq : q = 4 * e.1 0 0 + (i : Int)
                · rw [if_pos ⟨rfl, hq⟩, if_pos (by omega)]
                · rw [if_neg (fun c => hq c.2)]
                  by_cases hq2 : 4 * e.1 0 0 ≤ q ∧ q < 4 * e.1 0 0 + (i : Int)
                  · rw [if_pos hq2, if_pos (by omega)]
                  · rw [if_neg hq2, if_neg (by omega)]
              · intro fuel st M2 ⟨g1, g2⟩
                show wp (f_X8_sound_100 k v l h (fuel + 1) ((4 : Nat) : Int) M2) _
                rw [f_X8_sound_100.eq_2]
                refine wp_t (by omega) ?_
                rw [wp_lt, wp_some]
                have z0 : stM M2 127 0 (w32 (M2 127 0 + 1)) 127 0 = e.1 0 0 + 1 := by
                  rw [st_ap, if_pos ⟨rfl, rfl⟩, g1 127 (by decide), e0, hm0, w_id (by omega) (by omega)]
                rw [z0, w_id (by omega) (by omega), show e.1 0 0 + 1 - 1 = e.1 0 0 by omega]
                refine k4 ⟨hk, hh⟩ ⟨hv, hl⟩ h66 _ ?_ z0 ?_ ?_
                · intro j q hj hj2
                  rw [st_ap, if_neg (by omega), g1 j (by omega), hEj j (by omega)]
                · rw [st_nc (by decide), st_nc (by decide), st_nc (by decide), st_nc (by decide), g1 128 (by decide), g1 129 (by decide), g1 130 (by decide), g1 131 (by decide)]
                  exact hEs
                · intro i
                  rw [st_nc (by decide), g2, hEj 132 (by omega)]
                  rfl
            · refine wp_t (by omega) ?_
              rw [wp_some]
              exact k3 ⟨hk, hh⟩ ⟨hv, hl⟩ h66
          · rw [if_neg hl]
            refine wp_t rfl ?_
            rw [wp_some]
            exact k2 ⟨hk, hh⟩ (fun c => hl c.2)
        · rw [if_neg hv]
          refine wp_t rfl ?_
          rw [wp_some]
          exact k2 ⟨hk, hh⟩ (fun c => hv c.1)
      · rw [if_neg hh]
        refine wp_t rfl ?_
        rw [wp_some]
        exact k1 (fun c => hh c.2)
    · rw [if_neg hk]
      refine wp_t rfl ?_
      rw [wp_some]
      exact k1 (fun c => hk c.1)
  unfold OP f_X7_sound
  rw [wp_bind]
  refine c_isIn ?_
  by_cases hk : 0 ≤ k ∧ k ≤ 6
  · rw [if_pos hk]
    refine wp_f one_ne ?_
    rw [wp_bind]
    refine c_isH ?_
    by_cases hh4 : 0 ≤ h ∧ h ≤ 4
    · rw [if_pos hh4]
      refine wp_f one_ne ?_
      rw [wp_bind]
      refine c_isIn ?_
      by_cases hv : 0 ≤ v ∧ v ≤ 9
      · rw [if_pos hv]
        refine wp_f one_ne ?_
        rw [wp_bind]
        refine c_isIn ?_
        by_cases hl : 0 ≤ l ∧ l ≤ 99
        · rw [if_pos hl]
          refine wp_f one_ne ?_
          simp only []
          have e0 : M 22 0 = e.1 0 0 := hC.1
          by_cases h66 : e.1 0 0 < 6
          · refine wp_t (by omega) ?_
            rw [wp_bind]
            refine c_come hC (by omega) ?_
            intro M1 g1
            rw [wp_some]
            have f1 : ∀ j q : Int, (j < 22 ∨ 26 < j ∨ (j = 22 ∧ q ≠ 0)) → M1 j q = M j q := fun j q c => by
              rw [g1 j q, if_neg (by omega), if_neg (by omega), if_neg (by omega), if_neg (by omega), if_neg (by omega)]
            have hM1 : LM e M1 := LM2_fr hM (fun j q c => f1 j q (by omega))
            refine mm _ _ hM1 (fun c => absurd ⟨hk, hh4⟩ c) (fun _ c => absurd ⟨hv, hl⟩ c) (fun _ _ c => absurd h66 c) ?_
            intro _ _ _ M2 u1 u2 u3 u4
            refine ⟨rfl, nw e k v l h, Rl_lot hh ?_ hy ?_ ?_ ?_ (by rw [nw_0]; omega) ?_⟩
            · obtain ⟨r1, r2, r3, r4, r5⟩ := hR
              refine ⟨by rw [nw_0]; omega, r2, ?_, r4, r5⟩
              intro q
              have := r3 q
              rw [nw_1, nw_2, nw_3, nw_4, nw_5]
              refine ⟨?_, ?_, ?_, ?_, this.2.2.2.2⟩
              · split <;> omega
              · split <;> omega
              · split <;> omega
              · split <;> omega
            · have u1' : ∀ j q : Int, j < 127 → M2 j q = M1 j q := fun j q c => u1 j q (by omega) (by omega)
              obtain ⟨q0, q6, qs, q5, qS⟩ := hC
              refine ⟨?_, ?_, ?_, ?_, ?_⟩
              · rw [u1' 22 0 (by decide), g1, if_pos ⟨rfl, rfl⟩, nw_0]
              · rw [u1' 22 6 (by decide), f1 22 6 (by omega)]; exact q6
              · intro t t0 t6
                obtain ⟨b1, b2, b3, b4⟩ := qs t t0 t6
                rw [nw_1, nw_2, nw_3, nw_4, u1' _ _ (by decide), u1' _ _ (by decide), u1' _ _ (by decide), u1' _ _ (by decide), g1, g1, g1, g1, b1, b2, b3, b4]
                refine ⟨?_, ?_, ?_, ?_⟩ <;> simp
              · intro i i0 i24
                rw [nw_5, u1' _ _ (by decide), f1 _ _ (by omega)]
                exact q5 i i0 i24
              · have hr := qS.1
                unfold isStr at hr
                rw [u1' 22 7 (by decide), f1 22 7 (by omega)]
                exact SC_fr2 qS (fun a a0 a5 => fr_j (fun q => (u1' _ q (by omega)).trans (f1 _ q (by omega)))) rfl
            · obtain ⟨q0, q6, qs, q5, qS⟩ := hM1
              refine ⟨by rw [u2, nw_0], by rw [u1 127 1 (by omega) (by omega)]; exact q6, ?_, ?_, ?_⟩
              · intro t t0 t6
                obtain ⟨b1, b2, b3, b4⟩ := qs t t0 t6
                obtain ⟨c1, c2, c3, c4⟩ := u3 t
                simp only [] at c1 c2 c3 c4
                rw [nw_1, nw_2, nw_3, nw_4, c1, c2, c3, c4, b1, b2, b3, b4]
                refine ⟨rfl, rfl, rfl, ?_⟩
                split
                · exact (hm_of (by omega)).symm
                · rfl
              · intro i i0 i4
                rw [nw_0] at i4
                rw [u4 i, nw_5]
                by_cases hi : 4 * e.1 0 0 ≤ i ∧ i < 4 * e.1 0 0 + 4
                · rw [if_pos hi]
                  exact (hz i hi.1 (by omega)).symm
                · rw [if_neg hi]
                  exact q5 i i0 (by omega)
              · rw [u1 127 8 (by omega) (by omega)]
                exact SM_fr qS (fun j a b => fr_j (fun q => u1 j q (by omega) (by omega))) rfl
            · intro i i0 i24
              rw [nw_0] at i0
              rw [nw_5]
              exact hz i (by omega) i24
            · intro j q a1 a2 a3 a4 a5 a6 a7
              exact (u1 j q (by omega) (by omega)).trans (f1 j q (by omega))
          · refine wp_f (by omega) ?_
            rw [wp_some]
            exact mm _ _ hM (fun c => absurd ⟨hk, hh4⟩ c) (fun _ c => absurd ⟨hv, hl⟩ c) (fun _ _ _ => ⟨rfl, e, hh⟩) (fun _ _ c => absurd c h66)
        · rw [if_neg hl]
          refine wp_t rfl ?_
          rw [wp_some]
          exact mm _ _ hM (fun c => absurd ⟨hk, hh4⟩ c) (fun _ _ => ⟨rfl, e, hh⟩) (fun _ c => absurd c.2 hl) (fun _ c => absurd c.2 hl)
      · rw [if_neg hv]
        refine wp_t rfl ?_
        rw [wp_some]
        exact mm _ _ hM (fun c => absurd ⟨hk, hh4⟩ c) (fun _ _ => ⟨rfl, e, hh⟩) (fun _ c => absurd c.1 hv) (fun _ c => absurd c.1 hv)
    · rw [if_neg hh4]
      refine wp_t rfl ?_
      rw [wp_some]
      exact mm _ _ hM (fun _ => ⟨rfl, e, hh⟩) (fun c => absurd c.2 hh4) (fun c => absurd c.2 hh4) (fun c => absurd c.2 hh4)
  · rw [if_neg hk]
    refine wp_t rfl ?_
    rw [wp_some]
    exact mm _ _ hM (fun _ => ⟨rfl, e, hh⟩) (fun c => absurd c.1 hk) (fun c => absurd c.1 hk) (fun c => absurd c.1 hk)
