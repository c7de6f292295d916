/-! both: the image, and what brings it back -/
theorem cp_image_230 {M : Mem} {Q : Int → Mem → Prop} (k : ∀ M', (∀ j : Int, j ≠ 165 → j ≠ 166 → M' j = M j) → (∀ q : Int, 0 ≤ q → q < 8 → M' 165 q = M 153 q ∧ M' 166 q = M 154 q) → Q (M' 127 0) M') : wp (f_X8_image_230 FU 0 M) Q := by
  refine wloop0 (St := Unit) (L := fun fuel x st M' => f_X8_image_230 fuel x M') 8 (Inv := fun i st M' => (∀ j : Int, j ≠ 165 → j ≠ 166 → M' j = M j) ∧ ∀ q : Int, 0 ≤ q → q < (i : Int) → M' 165 q = M 153 q ∧ M' 166 q = M 154 q) (by omega) ?_ ?_ (st := ()) ⟨fun j _ _ => rfl, fun q h1 h2 => by omega⟩
  · intro i fuel st M1 hi ⟨g1, g2⟩ kk
    show wp (f_X8_image_230 (fuel + 1) (i : Int) M1) _
    rw [f_X8_image_230.eq_2]
    refine wp_f (by omega) ?_
    refine wp_and (by omega) (wp_and (by omega) ?_)
    rw [wp_lt]
    generalize hA0 : stM M1 165 (i : Int) (M1 153 (i : Int)) = A0
    have s0 : M1 153 (i : Int) = M 153 (i : Int) := by rw [g1 153 (by decide) (by decide)]
    refine wp_and (by omega) (wp_and (by omega) ?_)
    rw [wp_lt]
    generalize hA1 : stM A0 166 (i : Int) (A0 154 (i : Int)) = A1
    have s1 : A0 154 (i : Int) = M 154 (i : Int) := by rw [← hA0, st_nc (by decide), g1 154 (by decide) (by decide)]
    rw [w_suc (by omega)]
    refine kk () A1 ⟨fun j c165 c166 => by rw [← hA1, st_nc c166, ← hA0, st_nc c165]; exact g1 j c165 c166, fun q q0 q1 => ?_⟩
    by_cases hq : q = (i : Int)
    · subst hq
      exact ⟨by rw [← hA1, st_nc (by decide), ← hA0, st_ap, if_pos ⟨rfl, rfl⟩, s0], by rw [← hA1, st_ap, if_pos ⟨rfl, rfl⟩, s1]⟩
    · exact ⟨by rw [← hA1, st_nc (by decide), ← hA0, st_ap, if_neg (fun c => hq c.2)]; exact (g2 q q0 (by omega)).1, by rw [← hA1, st_ap, if_neg (fun c => hq c.2), ← hA0, st_nc (by decide)]; exact (g2 q q0 (by omega)).2⟩
  · intro fuel st M1 ⟨g1, g2⟩
    show wp (f_X8_image_230 (fuel + 1) ((8 : Nat) : Int) M1) _
    rw [f_X8_image_230.eq_2]
    refine wp_t (by omega) ?_
    rw [wp_some]
    exact k M1 g1 (fun q h1 h2 => g2 q h1 (by omega))
theorem cp_image_192 {M : Mem} {Q : Int → Mem → Prop} (k : ∀ M', (∀ j : Int, j ≠ 163 → j ≠ 164 → M' j = M j) → (∀ q : Int, 0 ≤ q → q < 10 → M' 163 q = M 151 q ∧ M' 164 q = M 152 q) → wp (f_X8_image_230 FU 0 M') Q) : wp (f_X8_image_192 FU 0 M) Q := by
  refine wloop0 (St := Unit) (L := fun fuel x st M' => f_X8_image_192 fuel x M') 10 (Inv := fun i st M' => (∀ j : Int, j ≠ 163 → j ≠ 164 → M' j = M j) ∧ ∀ q : Int, 0 ≤ q → q < (i : Int) → M' 163 q = M 151 q ∧ M' 164 q = M 152 q) (by omega) ?_ ?_ (st := ()) ⟨fun j _ _ => rfl, fun q h1 h2 => by omega⟩
  · intro i fuel st M1 hi ⟨g1, g2⟩ kk
    show wp (f_X8_image_192 (fuel + 1) (i : Int) M1) _
    rw [f_X8_image_192.eq_2]
    refine wp_f (by omega) ?_
    refine wp_and (by omega) (wp_and (by omega) ?_)
    rw [wp_lt]
    generalize hA0 : stM M1 163 (i : Int) (M1 151 (i : Int)) = A0
    have s0 : M1 151 (i : Int) = M 151 (i : Int) := by rw [g1 151 (by decide) (by decide)]
    refine wp_and (by omega) (wp_and (by omega) ?_)
    rw [wp_lt]
    generalize hA1 : stM A0 164 (i : Int) (A0 152 (i : Int)) = A1
    have s1 : A0 152 (i : Int) = M 152 (i : Int) := by rw [← hA0, st_nc (by decide), g1 152 (by decide) (by decide)]
    rw [w_suc (by omega)]
    refine kk () A1 ⟨fun j c163 c164 => by rw [← hA1, st_nc c164, ← hA0, st_nc c163]; exact g1 j c163 c164, fun q q0 q1 => ?_⟩
    by_cases hq : q = (i : Int)
    · subst hq
      exact ⟨by rw [← hA1, st_nc (by decide), ← hA0, st_ap, if_pos ⟨rfl, rfl⟩, s0], by rw [← hA1, st_ap, if_pos ⟨rfl, rfl⟩, s1]⟩
    · exact ⟨by rw [← hA1, st_nc (by decide), ← hA0, st_ap, if_neg (fun c => hq c.2)]; exact (g2 q q0 (by omega)).1, by rw [← hA1, st_ap, if_neg (fun c => hq c.2), ← hA0, st_nc (by decide)]; exact (g2 q q0 (by omega)).2⟩
  · intro fuel st M1 ⟨g1, g2⟩
    show wp (f_X8_image_192 (fuel + 1) ((10 : Nat) : Int) M1) _
    rw [f_X8_image_192.eq_2]
    refine wp_t (by omega) ?_
    exact k M1 g1 (fun q h1 h2 => g2 q h1 (by omega))
theorem cp_image_143 {M : Mem} {Q : Int → Mem → Prop} (k : ∀ M', (∀ j : Int, j ≠ 160 → j ≠ 161 → j ≠ 162 → M' j = M j) → (∀ q : Int, 0 ≤ q → q < 5 → M' 160 q = M 148 q ∧ M' 161 q = M 149 q ∧ M' 162 q = M 150 q) → wp (f_X8_image_192 FU 0 M') Q) : wp (f_X8_image_143 FU 0 M) Q := by
  refine wloop0 (St := Unit) (L := fun fuel x st M' => f_X8_image_143 fuel x M') 5 (Inv := fun i st M' => (∀ j : Int, j ≠ 160 → j ≠ 161 → j ≠ 162 → M' j = M j) ∧ ∀ q : Int, 0 ≤ q → q < (i : Int) → M' 160 q = M 148 q ∧ M' 161 q = M 149 q ∧ M' 162 q = M 150 q) (by omega) ?_ ?_ (st := ()) ⟨fun j _ _ _ => rfl, fun q h1 h2 => by omega⟩
  · intro i fuel st M1 hi ⟨g1, g2⟩ kk
    show wp (f_X8_image_143 (fuel + 1) (i : Int) M1) _
    rw [f_X8_image_143.eq_2]
    refine wp_f (by omega) ?_
    refine wp_and (by omega) (wp_and (by omega) ?_)
    rw [wp_lt]
    generalize hA0 : stM M1 160 (i : Int) (M1 148 (i : Int)) = A0
    have s0 : M1 148 (i : Int) = M 148 (i : Int) := by rw [g1 148 (by decide) (by decide) (by decide)]
    refine wp_and (by omega) (wp_and (by omega) ?_)
    rw [wp_lt]
    generalize hA1 : stM A0 161 (i : Int) (A0 149 (i : Int)) = A1
    have s1 : A0 149 (i : Int) = M 149 (i : Int) := by rw [← hA0, st_nc (by decide), g1 149 (by decide) (by decide) (by decide)]
    refine wp_and (by omega) (wp_and (by omega) ?_)
    rw [wp_lt]
    generalize hA2 : stM A1 162 (i : Int) (A1 150 (i : Int)) = A2
    have s2 : A1 150 (i : Int) = M 150 (i : Int) := by rw [← hA1, st_nc (by decide), ← hA0, st_nc (by decide), g1 150 (by decide) (by decide) (by decide)]
    rw [w_suc (by omega)]
    refine kk () A2 ⟨fun j c160 c161 c162 => by rw [← hA2, st_nc c162, ← hA1, st_nc c161, ← hA0, st_nc c160]; exact g1 j c160 c161 c162, fun q q0 q1 => ?_⟩
    by_cases hq : q = (i : Int)
    · subst hq
      exact ⟨by rw [← hA2, st_nc (by decide), ← hA1, st_nc (by decide), ← hA0, st_ap, if_pos ⟨rfl, rfl⟩, s0], by rw [← hA2, st_nc (by decide), ← hA1, st_ap, if_pos ⟨rfl, rfl⟩, s1], by rw [← hA2, st_ap, if_pos ⟨rfl, rfl⟩, s2]⟩
    · exact ⟨by rw [← hA2, st_nc (by decide), ← hA1, st_nc (by decide), ← hA0, st_ap, if_neg (fun c => hq c.2)]; exact (g2 q q0 (by omega)).1, by rw [← hA2, st_nc (by decide), ← hA1, st_ap, if_neg (fun c => hq c.2), ← hA0, st_nc (by decide)]; exact (g2 q q0 (by omega)).2.1, by rw [← hA2, st_ap, if_neg (fun c => hq c.2), ← hA1, st_nc (by decide), ← hA0, st_nc (by decide)]; exact (g2 q q0 (by omega)).2.2⟩
  · intro fuel st M1 ⟨g1, g2⟩
    show wp (f_X8_image_143 (fuel + 1) ((5 : Nat) : Int) M1) _
    rw [f_X8_image_143.eq_2]
    refine wp_t (by omega) ?_
    exact k M1 g1 (fun q h1 h2 => g2 q h1 (by omega))
theorem cp_image_117 {M : Mem} {Q : Int → Mem → Prop} (k : ∀ M', (∀ j : Int, j ≠ 159 → M' j = M j) → (∀ q : Int, 0 ≤ q → q < 24 → M' 159 q = M 132 q) → wp (f_X8_image_143 FU 0 M') Q) : wp (f_X8_image_117 FU 0 M) Q := by
  refine wloop0 (St := Unit) (L := fun fuel x st M' => f_X8_image_117 fuel x M') 24 (Inv := fun i st M' => (∀ j : Int, j ≠ 159 → M' j = M j) ∧ ∀ q : Int, 0 ≤ q → q < (i : Int) → M' 159 q = M 132 q) (by omega) ?_ ?_ (st := ()) ⟨fun j _ => rfl, fun q h1 h2 => by omega⟩
  · intro i fuel st M1 hi ⟨g1, g2⟩ kk
    show wp (f_X8_image_117 (fuel + 1) (i : Int) M1) _
    rw [f_X8_image_117.eq_2]
    refine wp_f (by omega) ?_
    refine wp_and (by omega) (wp_and (by omega) ?_)
    rw [wp_lt]
    generalize hA0 : stM M1 159 (i : Int) (M1 132 (i : Int)) = A0
    have s0 : M1 132 (i : Int) = M 132 (i : Int) := by rw [g1 132 (by decide)]
    rw [w_suc (by omega)]
    refine kk () A0 ⟨fun j c159 => by rw [← hA0, st_nc c159]; exact g1 j c159, fun q q0 q1 => ?_⟩
    by_cases hq : q = (i : Int)
    · subst hq
      exact by rw [← hA0, st_ap, if_pos ⟨rfl, rfl⟩, s0]
    · exact by rw [← hA0, st_ap, if_neg (fun c => hq c.2)]; exact (g2 q q0 (by omega))
  · intro fuel st M1 ⟨g1, g2⟩
    show wp (f_X8_image_117 (fuel + 1) ((24 : Nat) : Int) M1) _
    rw [f_X8_image_117.eq_2]
    refine wp_t (by omega) ?_
    exact k M1 g1 (fun q h1 h2 => g2 q h1 (by omega))
theorem cp_image_55 {M : Mem} {Q : Int → Mem → Prop} (k : ∀ M', (∀ j : Int, j ≠ 155 → j ≠ 156 → j ≠ 157 → j ≠ 158 → M' j = M j) → (∀ q : Int, 0 ≤ q → q < 6 → M' 155 q = M 128 q ∧ M' 156 q = M 129 q ∧ M' 157 q = M 130 q ∧ M' 158 q = M 131 q) → wp (f_X8_image_117 FU 0 M') Q) : wp (f_X8_image_55 FU 0 M) Q := by
  refine wloop0 (St := Unit) (L := fun fuel x st M' => f_X8_image_55 fuel x M') 6 (Inv := fun i st M' => (∀ j : Int, j ≠ 155 → j ≠ 156 → j ≠ 157 → j ≠ 158 → M' j = M j) ∧ ∀ q : Int, 0 ≤ q → q < (i : Int) → M' 155 q = M 128 q ∧ M' 156 q = M 129 q ∧ M' 157 q = M 130 q ∧ M' 158 q = M 131 q) (by omega) ?_ ?_ (st := ()) ⟨fun j _ _ _ _ => rfl, fun q h1 h2 => by omega⟩
  · intro i fuel st M1 hi ⟨g1, g2⟩ kk
    show wp (f_X8_image_55 (fuel + 1) (i : Int) M1) _
    rw [f_X8_image_55.eq_2]
    refine wp_f (by omega) ?_
    refine wp_and (by omega) (wp_and (by omega) ?_)
    rw [wp_lt]
    generalize hA0 : stM M1 155 (i : Int) (M1 128 (i : Int)) = A0
    have s0 : M1 128 (i : Int) = M 128 (i : Int) := by rw [g1 128 (by decide) (by decide) (by decide) (by decide)]
    refine wp_and (by omega) (wp_and (by omega) ?_)
    rw [wp_lt]
    generalize hA1 : stM A0 156 (i : Int) (A0 129 (i : Int)) = A1
    have s1 : A0 129 (i : Int) = M 129 (i : Int) := by rw [← hA0, st_nc (by decide), g1 129 (by decide) (by decide) (by decide) (by decide)]
    refine wp_and (by omega) (wp_and (by omega) ?_)
    rw [wp_lt]
    generalize hA2 : stM A1 157 (i : Int) (A1 130 (i : Int)) = A2
    have s2 : A1 130 (i : Int) = M 130 (i : Int) := by rw [← hA1, st_nc (by decide), ← hA0, st_nc (by decide), g1 130 (by decide) (by decide) (by decide) (by decide)]
    refine wp_and (by omega) (wp_and (by omega) ?_)
    rw [wp_lt]
    generalize hA3 : stM A2 158 (i : Int) (A2 131 (i : Int)) = A3
    have s3 : A2 131 (i : Int) = M 131 (i : Int) := by rw [← hA2, st_nc (by decide), ← hA1, st_nc (by decide), ← hA0, st_nc (by decide), g1 131 (by decide) (by decide) (by decide) (by decide)]
    rw [w_suc (by omega)]
    refine kk () A3 ⟨fun j c155 c156 c157 c158 => by rw [← hA3, st_nc c158, ← hA2, st_nc c157, ← hA1, st_nc c156, ← hA0, st_nc c155]; exact g1 j c155 c156 c157 c158, fun q q0 q1 => ?_⟩
    by_cases hq : q = (i : Int)
    · subst hq
      exact ⟨by rw [← hA3, st_nc (by decide), ← hA2, st_nc (by decide), ← hA1, st_nc (by decide), ← hA0, st_ap, if_pos ⟨rfl, rfl⟩, s0], by rw [← hA3, st_nc (by decide), ← hA2, st_nc (by decide), ← hA1, st_ap, if_pos ⟨rfl, rfl⟩, s1], by rw [← hA3, st_nc (by decide), ← hA2, st_ap, if_pos ⟨rfl, rfl⟩, s2], by rw [← hA3, st_ap, if_pos ⟨rfl, rfl⟩, s3]⟩
    · exact ⟨by rw [← hA3, st_nc (by decide), ← hA2, st_nc (by decide), ← hA1, st_nc (by decide), ← hA0, st_ap, if_neg (fun c => hq c.2)]; exact (g2 q q0 (by omega)).1, by rw [← hA3, st_nc (by decide), ← hA2, st_nc (by decide), ← hA1, st_ap, if_neg (fun c => hq c.2), ← hA0, st_nc (by decide)]; exact (g2 q q0 (by omega)).2.1, by rw [← hA3, st_nc (by decide), ← hA2, st_ap, if_neg (fun c => hq c.2), ← hA1, st_nc (by decide), ← hA0, st_nc (by decide)]; exact (g2 q q0 (by omega)).2.2.1, by rw [← hA3, st_ap, if_neg (fun c => hq c.2), ← hA2, st_nc (by decide), ← hA1, st_nc (by decide), ← hA0, st_nc (by decide)]; exact (g2 q q0 (by omega)).2.2.2⟩
  · intro fuel st M1 ⟨g1, g2⟩
    show wp (f_X8_image_55 (fuel + 1) ((6 : Nat) : Int) M1) _
    rw [f_X8_image_55.eq_2]
    refine wp_t (by omega) ?_
    exact k M1 g1 (fun q h1 h2 => g2 q h1 (by omega))
theorem cp_undo_235 {M : Mem} {Q : Int → Mem → Prop} (k : ∀ M', (∀ j : Int, j ≠ 153 → j ≠ 154 → M' j = M j) → (∀ q : Int, 0 ≤ q → q < 8 → M' 153 q = M 165 q ∧ M' 154 q = M 166 q) → Q (M' 127 0) M') : wp (f_X8_undo_235 FU 0 M) Q := by
  refine wloop0 (St := Unit) (L := fun fuel x st M' => f_X8_undo_235 fuel x M') 8 (Inv := fun i st M' => (∀ j : Int, j ≠ 153 → j ≠ 154 → M' j = M j) ∧ ∀ q : Int, 0 ≤ q → q < (i : Int) → M' 153 q = M 165 q ∧ M' 154 q = M 166 q) (by omega) ?_ ?_ (st := ()) ⟨fun j _ _ => rfl, fun q h1 h2 => by omega⟩
  · intro i fuel st M1 hi ⟨g1, g2⟩ kk
    show wp (f_X8_undo_235 (fuel + 1) (i : Int) M1) _
    rw [f_X8_undo_235.eq_2]
    refine wp_f (by omega) ?_
    refine wp_and (by omega) (wp_and (by omega) ?_)
    rw [wp_lt]
    generalize hA0 : stM M1 153 (i : Int) (M1 165 (i : Int)) = A0
    have s0 : M1 165 (i : Int) = M 165 (i : Int) := by rw [g1 165 (by decide) (by decide)]
    refine wp_and (by omega) (wp_and (by omega) ?_)
    rw [wp_lt]
    generalize hA1 : stM A0 154 (i : Int) (A0 166 (i : Int)) = A1
    have s1 : A0 166 (i : Int) = M 166 (i : Int) := by rw [← hA0, st_nc (by decide), g1 166 (by decide) (by decide)]
    rw [w_suc (by omega)]
    refine kk () A1 ⟨fun j c153 c154 => by rw [← hA1, st_nc c154, ← hA0, st_nc c153]; exact g1 j c153 c154, fun q q0 q1 => ?_⟩
    by_cases hq : q = (i : Int)
    · subst hq
      exact ⟨by rw [← hA1, st_nc (by decide), ← hA0, st_ap, if_pos ⟨rfl, rfl⟩, s0], by rw [← hA1, st_ap, if_pos ⟨rfl, rfl⟩, s1]⟩
    · exact ⟨by rw [← hA1, st_nc (by decide), ← hA0, st_ap, if_neg (fun c => hq c.2)]; exact (g2 q q0 (by omega)).1, by rw [← hA1, st_ap, if_neg (fun c => hq c.2), ← hA0, st_nc (by decide)]; exact (g2 q q0 (by omega)).2⟩
  · intro fuel st M1 ⟨g1, g2⟩
    show wp (f_X8_undo_235 (fuel + 1) ((8 : Nat) : Int) M1) _
    rw [f_X8_undo_235.eq_2]
    refine wp_t (by omega) ?_
    rw [wp_some]
    exact k M1 g1 (fun q h1 h2 => g2 q h1 (by omega))
theorem cp_undo_197 {M : Mem} {Q : Int → Mem → Prop} (k : ∀ M', (∀ j : Int, j ≠ 151 → j ≠ 152 → M' j = M j) → (∀ q : Int, 0 ≤ q → q < 10 → M' 151 q = M 163 q ∧ M' 152 q = M 164 q) → wp (f_X8_undo_235 FU 0 M') Q) : wp (f_X8_undo_197 FU 0 M) Q := by
  refine wloop0 (St := Unit) (L := fun fuel x st M' => f_X8_undo_197 fuel x M') 10 (Inv := fun i st M' => (∀ j : Int, j ≠ 151 → j ≠ 152 → M' j = M j) ∧ ∀ q : Int, 0 ≤ q → q < (i : Int) → M' 151 q = M 163 q ∧ M' 152 q = M 164 q) (by omega) ?_ ?_ (st := ()) ⟨fun j _ _ => rfl, fun q h1 h2 => by omega⟩
  · intro i fuel st M1 hi ⟨g1, g2⟩ kk
    show wp (f_X8_undo_197 (fuel + 1) (i : Int) M1) _
    rw [f_X8_undo_197.eq_2]
    refine wp_f (by omega) ?_
    refine wp_and (by omega) (wp_and (by omega) ?_)
    rw [wp_lt]
    generalize hA0 : stM M1 151 (i : Int) (M1 163 (i : Int)) = A0
    have s0 : M1 163 (i : Int) = M 163 (i : Int) := by rw [g1 163 (by decide) (by decide)]
    refine wp_and (by omega) (wp_and (by omega) ?_)
    rw [wp_lt]
    generalize hA1 : stM A0 152 (i : Int) (A0 164 (i : Int)) = A1
    have s1 : A0 164 (i : Int) = M 164 (i : Int) := by rw [← hA0, st_nc (by decide), g1 164 (by decide) (by decide)]
    rw [w_suc (by omega)]
    refine kk () A1 ⟨fun j c151 c152 => by rw [← hA1, st_nc c152, ← hA0, st_nc c151]; exact g1 j c151 c152, fun q q0 q1 => ?_⟩
    by_cases hq : q = (i : Int)
    · subst hq
      exact ⟨by rw [← hA1, st_nc (by decide), ← hA0, st_ap, if_pos ⟨rfl, rfl⟩, s0], by rw [← hA1, st_ap, if_pos ⟨rfl, rfl⟩, s1]⟩
    · exact ⟨by rw [← hA1, st_nc (by decide), ← hA0, st_ap, if_neg (fun c => hq c.2)]; exact (g2 q q0 (by omega)).1, by rw [← hA1, st_ap, if_neg (fun c => hq c.2), ← hA0, st_nc (by decide)]; exact (g2 q q0 (by omega)).2⟩
  · intro fuel st M1 ⟨g1, g2⟩
    show wp (f_X8_undo_197 (fuel + 1) ((10 : Nat) : Int) M1) _
    rw [f_X8_undo_197.eq_2]
    refine wp_t (by omega) ?_
    exact k M1 g1 (fun q h1 h2 => g2 q h1 (by omega))
theorem cp_undo_148 {M : Mem} {Q : Int → Mem → Prop} (k : ∀ M', (∀ j : Int, j ≠ 148 → j ≠ 149 → j ≠ 150 → M' j = M j) → (∀ q : Int, 0 ≤ q → q < 5 → M' 148 q = M 160 q ∧ M' 149 q = M 161 q ∧ M' 150 q = M 162 q) → wp (f_X8_undo_197 FU 0 M') Q) : wp (f_X8_undo_148 FU 0 M) Q := by
  refine wloop0 (St := Unit) (L := fun fuel x st M' => f_X8_undo_148 fuel x M') 5 (Inv := fun i st M' => (∀ j : Int, j ≠ 148 → j ≠ 149 → j ≠ 150 → M' j = M j) ∧ ∀ q : Int, 0 ≤ q → q < (i : Int) → M' 148 q = M 160 q ∧ M' 149 q = M 161 q ∧ M' 150 q = M 162 q) (by omega) ?_ ?_ (st := ()) ⟨fun j _ _ _ => rfl, fun q h1 h2 => by omega⟩
  · intro i fuel st M1 hi ⟨g1, g2⟩ kk
    show wp (f_X8_undo_148 (fuel + 1) (i : Int) M1) _
    rw [f_X8_undo_148.eq_2]
    refine wp_f (by omega) ?_
    refine wp_and (by omega) (wp_and (by omega) ?_)
    rw [wp_lt]
    generalize hA0 : stM M1 148 (i : Int) (M1 160 (i : Int)) = A0
    have s0 : M1 160 (i : Int) = M 160 (i : Int) := by rw [g1 160 (by decide) (by decide) (by decide)]
    refine wp_and (by omega) (wp_and (by omega) ?_)
    rw [wp_lt]
    generalize hA1 : stM A0 149 (i : Int) (A0 161 (i : Int)) = A1
    have s1 : A0 161 (i : Int) = M 161 (i : Int) := by rw [← hA0, st_nc (by decide), g1 161 (by decide) (by decide) (by decide)]
    refine wp_and (by omega) (wp_and (by omega) ?_)
    rw [wp_lt]
    generalize hA2 : stM A1 150 (i : Int) (A1 162 (i : Int)) = A2
    have s2 : A1 162 (i : Int) = M 162 (i : Int) := by rw [← hA1, st_nc (by decide), ← hA0, st_nc (by decide), g1 162 (by decide) (by decide) (by decide)]
    rw [w_suc (by omega)]
    refine kk () A2 ⟨fun j c148 c149 c150 => by rw [← hA2, st_nc c150, ← hA1, st_nc c149, ← hA0, st_nc c148]; exact g1 j c148 c149 c150, fun q q0 q1 => ?_⟩
    by_cases hq : q = (i : Int)
    · subst hq
      exact ⟨by rw [← hA2, st_nc (by decide), ← hA1, st_nc (by decide), ← hA0, st_ap, if_pos ⟨rfl, rfl⟩, s0], by rw [← hA2, st_nc (by decide), ← hA1, st_ap, if_pos ⟨rfl, rfl⟩, s1], by rw [← hA2, st_ap, if_pos ⟨rfl, rfl⟩, s2]⟩
    · exact ⟨by rw [← hA2, st_nc (by decide), ← hA1, st_nc (by decide), ← hA0, st_ap, if_neg (fun c => hq c.2)]; exact (g2 q q0 (by omega)).1, by rw [← hA2, st_nc (by decide), ← hA1, st_ap, if_neg (fun c => hq c.2), ← hA0, st_nc (by decide)]; exact (g2 q q0 (by omega)).2.1, by rw [← hA2, st_ap, if_neg (fun c => hq c.2), ← hA1, st_nc (by decide), ← hA0, st_nc (by decide)]; exact (g2 q q0 (by omega)).2.2⟩
  · intro fuel st M1 ⟨g1, g2⟩
    show wp (f_X8_undo_148 (fuel + 1) ((5 : Nat) : Int) M1) _
    rw [f_X8_undo_148.eq_2]
    refine wp_t (by omega) ?_
    exact k M1 g1 (fun q h1 h2 => g2 q h1 (by omega))
theorem cp_undo_122 {M : Mem} {Q : Int → Mem → Prop} (k : ∀ M', (∀ j : Int, j ≠ 132 → M' j = M j) → (∀ q : Int, 0 ≤ q → q < 24 → M' 132 q = M 159 q) → wp (f_X8_undo_148 FU 0 M') Q) : wp (f_X8_undo_122 FU 0 M) Q := by
  refine wloop0 (St := Unit) (L := fun fuel x st M' => f_X8_undo_122 fuel x M') 24 (Inv := fun i st M' => (∀ j : Int, j ≠ 132 → M' j = M j) ∧ ∀ q : Int, 0 ≤ q → q < (i : Int) → M' 132 q = M 159 q) (by omega) ?_ ?_ (st := ()) ⟨fun j _ => rfl, fun q h1 h2 => by omega⟩
  · intro i fuel st M1 hi ⟨g1, g2⟩ kk
    show wp (f_X8_undo_122 (fuel + 1) (i : Int) M1) _
    rw [f_X8_undo_122.eq_2]
    refine wp_f (by omega) ?_
    refine wp_and (by omega) (wp_and (by omega) ?_)
    rw [wp_lt]
    generalize hA0 : stM M1 132 (i : Int) (M1 159 (i : Int)) = A0
    have s0 : M1 159 (i : Int) = M 159 (i : Int) := by rw [g1 159 (by decide)]
    rw [w_suc (by omega)]
    refine kk () A0 ⟨fun j c132 => by rw [← hA0, st_nc c132]; exact g1 j c132, fun q q0 q1 => ?_⟩
    by_cases hq : q = (i : Int)
    · subst hq
      exact by rw [← hA0, st_ap, if_pos ⟨rfl, rfl⟩, s0]
    · exact by rw [← hA0, st_ap, if_neg (fun c => hq c.2)]; exact (g2 q q0 (by omega))
  · intro fuel st M1 ⟨g1, g2⟩
    show wp (f_X8_undo_122 (fuel + 1) ((24 : Nat) : Int) M1) _
    rw [f_X8_undo_122.eq_2]
    refine wp_t (by omega) ?_
    exact k M1 g1 (fun q h1 h2 => g2 q h1 (by omega))
theorem cp_undo_60 {M : Mem} {Q : Int → Mem → Prop} (k : ∀ M', (∀ j : Int, j ≠ 128 → j ≠ 129 → j ≠ 130 → j ≠ 131 → M' j = M j) → (∀ q : Int, 0 ≤ q → q < 6 → M' 128 q = M 155 q ∧ M' 129 q = M 156 q ∧ M' 130 q = M 157 q ∧ M' 131 q = M 158 q) → wp (f_X8_undo_122 FU 0 M') Q) : wp (f_X8_undo_60 FU 0 M) Q := by
  refine wloop0 (St := Unit) (L := fun fuel x st M' => f_X8_undo_60 fuel x M') 6 (Inv := fun i st M' => (∀ j : Int, j ≠ 128 → j ≠ 129 → j ≠ 130 → j ≠ 131 → M' j = M j) ∧ ∀ q : Int, 0 ≤ q → q < (i : Int) → M' 128 q = M 155 q ∧ M' 129 q = M 156 q ∧ M' 130 q = M 157 q ∧ M' 131 q = M 158 q) (by omega) ?_ ?_ (st := ()) ⟨fun j _ _ _ _ => rfl, fun q h1 h2 => by omega⟩
  · intro i fuel st M1 hi ⟨g1, g2⟩ kk
    show wp (f_X8_undo_60 (fuel + 1) (i : Int) M1) _
    rw [f_X8_undo_60.eq_2]
    refine wp_f (by omega) ?_
    refine wp_and (by omega) (wp_and (by omega) ?_)
    rw [wp_lt]
    generalize hA0 : stM M1 128 (i : Int) (M1 155 (i : Int)) = A0
    have s0 : M1 155 (i : Int) = M 155 (i : Int) := by rw [g1 155 (by decide) (by decide) (by decide) (by decide)]
    refine wp_and (by omega) (wp_and (by omega) ?_)
    rw [wp_lt]
    generalize hA1 : stM A0 129 (i : Int) (A0 156 (i : Int)) = A1
    have s1 : A0 156 (i : Int) = M 156 (i : Int) := by rw [← hA0, st_nc (by decide), g1 156 (by decide) (by decide) (by decide) (by decide)]
    refine wp_and (by omega) (wp_and (by omega) ?_)
    rw [wp_lt]
    generalize hA2 : stM A1 130 (i : Int) (A1 157 (i : Int)) = A2
    have s2 : A1 157 (i : Int) = M 157 (i : Int) := by rw [← hA1, st_nc (by decide), ← hA0, st_nc (by decide), g1 157 (by decide) (by decide) (by decide) (by decide)]
    refine wp_and (by omega) (wp_and (by omega) ?_)
    rw [wp_lt]
    generalize hA3 : stM A2 131 (i : Int) (A2 158 (i : Int)) = A3
    have s3 : A2 158 (i : Int) = M 158 (i : Int) := by rw [← hA2, st_nc (by decide), ← hA1, st_nc (by decide), ← hA0, st_nc (by decide), g1 158 (by decide) (by decide) (by decide) (by decide)]
    rw [w_suc (by omega)]
    refine kk () A3 ⟨fun j c128 c129 c130 c131 => by rw [← hA3, st_nc c131, ← hA2, st_nc c130, ← hA1, st_nc c129, ← hA0, st_nc c128]; exact g1 j c128 c129 c130 c131, fun q q0 q1 => ?_⟩
    by_cases hq : q = (i : Int)
    · subst hq
      exact ⟨by rw [← hA3, st_nc (by decide), ← hA2, st_nc (by decide), ← hA1, st_nc (by decide), ← hA0, st_ap, if_pos ⟨rfl, rfl⟩, s0], by rw [← hA3, st_nc (by decide), ← hA2, st_nc (by decide), ← hA1, st_ap, if_pos ⟨rfl, rfl⟩, s1], by rw [← hA3, st_nc (by decide), ← hA2, st_ap, if_pos ⟨rfl, rfl⟩, s2], by rw [← hA3, st_ap, if_pos ⟨rfl, rfl⟩, s3]⟩
    · exact ⟨by rw [← hA3, st_nc (by decide), ← hA2, st_nc (by decide), ← hA1, st_nc (by decide), ← hA0, st_ap, if_neg (fun c => hq c.2)]; exact (g2 q q0 (by omega)).1, by rw [← hA3, st_nc (by decide), ← hA2, st_nc (by decide), ← hA1, st_ap, if_neg (fun c => hq c.2), ← hA0, st_nc (by decide)]; exact (g2 q q0 (by omega)).2.1, by rw [← hA3, st_nc (by decide), ← hA2, st_ap, if_neg (fun c => hq c.2), ← hA1, st_nc (by decide), ← hA0, st_nc (by decide)]; exact (g2 q q0 (by omega)).2.2.1, by rw [← hA3, st_ap, if_neg (fun c => hq c.2), ← hA2, st_nc (by decide), ← hA1, st_nc (by decide), ← hA0, st_nc (by decide)]; exact (g2 q q0 (by omega)).2.2.2⟩
  · intro fuel st M1 ⟨g1, g2⟩
    show wp (f_X8_undo_60 (fuel + 1) ((6 : Nat) : Int) M1) _
    rw [f_X8_undo_60.eq_2]
    refine wp_t (by omega) ?_
    exact k M1 g1 (fun q h1 h2 => g2 q h1 (by omega))
theorem c_t2 {o p : Int} {N : Nat} {M : Mem} {Q : Int → Mem → Prop} (hN : rwN o = N) (hN2 : rwN p = N) (hop : p + 3 < o ∨ o + 3 < p)
    (k : ∀ M', (∀ j, j < o ∨ o + 3 < j → M' j = M j) → M' o 0 = M p 0 → (∀ q : Int, 0 ≤ q → q < N → M' (o + 1) q = M (p + 1) q ∧ M' (o + 2) q = M (p + 2) q ∧ M' (o + 3) q = M (p + 3) q) → Q 0 M') : wp (f_X2_takeAll o p M) Q := by
  unfold f_X2_takeAll
  rw [hN, hN2]
  refine wp_and (by omega) ?_
  rw [wp_lt]
  generalize hA : cpM M (p + 1) (o + 1) 0 0 (N : Int) = A
  refine wp_and (by omega) ?_
  rw [wp_lt]
  generalize hB : cpM A (p + 2) (o + 2) 0 0 (N : Int) = B
  refine wp_and (by omega) ?_
  rw [wp_lt]
  generalize hD : cpM B (p + 3) (o + 3) 0 0 (N : Int) = D
  have a1 : ∀ j : Int, j ≠ o + 1 → A j = M j := fun j hj => by rw [← hA, cp_nc hj]
  have b1 : ∀ j : Int, j ≠ o + 2 → B j = A j := fun j hj => by rw [← hB, cp_nc hj]
  have d1 : ∀ j : Int, j ≠ o + 3 → D j = B j := fun j hj => by rw [← hD, cp_nc hj]
  have e0 : ∀ j : Int, j < o + 1 ∨ o + 3 < j → D j = M j := fun j hj => by rw [d1 j (by omega), b1 j (by omega), a1 j (by omega)]
  rw [wp_lt, wp_some]
  refine k _ ?_ ?_ ?_
  · intro j hj
    rw [st_nc (by omega)]
    exact e0 j (by omega)
  · rw [st_ap, if_pos ⟨rfl, rfl⟩, e0 p (by omega)]
  · intro q q0 qN
    rw [st_nc (by omega), st_nc (by omega), st_nc (by omega)]
    refine ⟨?_, ?_, ?_⟩
    · rw [d1 (o + 1) (by omega), b1 (o + 1) (by omega), ← hA, cp_ap2, if_pos (by omega)]
      congr 1
      omega
    · rw [d1 (o + 2) (by omega), ← hB, cp_ap2, if_pos (by omega), a1 (p + 2) (by omega)]
      congr 1
      omega
    · rw [← hD, cp_ap2, if_pos (by omega), b1 (p + 3) (by omega), a1 (p + 3) (by omega)]
      congr 1
      omega
theorem c_tA {o p : Int} {M : Mem} {Q : Int → Mem → Prop} (hop : (o = 22 ∧ p = 41) ∨ (o = 41 ∧ p = 22))
    (k : ∀ M', (∀ j, j < o ∨ o + 17 < j → M' j = M j) → M' o 0 = M p 0 → M' o 6 = M p 6 → M' o 7 = M p 7 → (∀ q : Int, 0 ≤ q → q < 6 → M' (o + 1) q = M (p + 1) q ∧ M' (o + 2) q = M (p + 2) q ∧ M' (o + 3) q = M (p + 3) q ∧ M' (o + 4) q = M (p + 4) q) → (∀ q : Int, 0 ≤ q → q < 24 → M' (o + 5) q = M (p + 5) q) →
      (M' (o + 6) 0 = M (p + 6) 0 ∧ ∀ q : Int, 0 ≤ q → q < 5 → M' (o + 7) q = M (p + 7) q ∧ M' (o + 8) q = M (p + 8) q ∧ M' (o + 9) q = M (p + 9) q) →
      (M' (o + 10) 0 = M (p + 10) 0 ∧ ∀ q : Int, 0 ≤ q → q < 10 → M' (o + 11) q = M (p + 11) q ∧ M' (o + 12) q = M (p + 12) q) →
      (M' (o + 14) 0 = M (p + 14) 0 ∧ ∀ q : Int, 0 ≤ q → q < 8 → M' (o + 15) q = M (p + 15) q ∧ M' (o + 16) q = M (p + 16) q) → Q 0 M') : wp (f_X1_takeAll o p M) Q := by
  unfold f_X1_takeAll
  rw [wp_bind]
  refine c_takeS (by omega) ?_
  intro M1 h0 h1 h2 h3 h4 h5 h6
  rw [wp_bind]
  have n1 : rwN (o + 6) = 5 ∧ rwN (p + 6) = 5 := by rcases hop with ⟨rfl, rfl⟩ | ⟨rfl, rfl⟩ <;> exact ⟨rfl, rfl⟩
  have n2 : rwN (o + 10) = 10 ∧ rwN (p + 10) = 10 := by rcases hop with ⟨rfl, rfl⟩ | ⟨rfl, rfl⟩ <;> exact ⟨rfl, rfl⟩
  have n3 : rwN (o + 14) = 8 ∧ rwN (p + 14) = 8 := by rcases hop with ⟨rfl, rfl⟩ | ⟨rfl, rfl⟩ <;> exact ⟨rfl, rfl⟩
  refine c_t2 n1.1 n1.2 (by omega) ?_
  intro M2 a0 a1 a2
  rw [wp_bind]
  refine c_t2 n2.1 n2.2 (by omega) ?_
  intro M3 b0 b1 b2
  rw [wp_bind]
  refine c_t2 n3.1 n3.2 (by omega) ?_
  intro M4 d0 d1 d2
  simp only [] at a0 a1 a2 b0 b1 b2 d0 d1 d2
  rw [wp_some]
  have lo : ∀ j : Int, j < o + 6 ∨ o + 17 < j → M4 j = M1 j := fun j hj => by rw [d0 j (by omega), b0 j (by omega), a0 j (by omega)]
  refine k M4 ?_ ?_ ?_ ?_ ?_ ?_ ⟨?_, ?_⟩ ⟨?_, ?_⟩ ⟨?_, ?_⟩
  · intro j hj
    rw [lo j (by omega), h0 j (by omega)]
  · rw [lo o (by omega)]; exact h1
  · rw [lo o (by omega)]; exact h2
  · rw [lo o (by omega)]; exact h3
  · rw [lo (o + 1) (by omega), lo (o + 2) (by omega), lo (o + 3) (by omega), lo (o + 4) (by omega)]; exact h5
  · rw [lo (o + 5) (by omega)]; exact h6
  · rw [d0 (o + 6) (by omega), b0 (o + 6) (by omega), a1, h0 (p + 6) (by omega)]
  · intro q q0 q5
    have := a2 q q0 (by omega)
    rw [show o + 6 + 1 = o + 7 by omega, show o + 6 + 2 = o + 8 by omega, show o + 6 + 3 = o + 9 by omega, show p + 6 + 1 = p + 7 by omega, show p + 6 + 2 = p + 8 by omega, show p + 6 + 3 = p + 9 by omega] at this
    rw [d0 (o + 7) (by omega), b0 (o + 7) (by omega), d0 (o + 8) (by omega), b0 (o + 8) (by omega), d0 (o + 9) (by omega), b0 (o + 9) (by omega), this.1, this.2.1, this.2.2, h0 (p + 7) (by omega), h0 (p + 8) (by omega), h0 (p + 9) (by omega)]
    exact ⟨rfl, rfl, rfl⟩
  · rw [d0 (o + 10) (by omega), b1, a0 (p + 10) (by omega), h0 (p + 10) (by omega)]
  · intro q q0 q5
    have := b2 q q0 (by omega)
    rw [show o + 10 + 1 = o + 11 by omega, show o + 10 + 2 = o + 12 by omega, show p + 10 + 1 = p + 11 by omega, show p + 10 + 2 = p + 12 by omega] at this
    rw [d0 (o + 11) (by omega), d0 (o + 12) (by omega), this.1, this.2.1, a0 (p + 11) (by omega), a0 (p + 12) (by omega), h0 (p + 11) (by omega), h0 (p + 12) (by omega)]
    exact ⟨rfl, rfl⟩
  · rw [d1, b0 (p + 14) (by omega), a0 (p + 14) (by omega), h0 (p + 14) (by omega)]
  · intro q q0 q5
    have := d2 q q0 (by omega)
    rw [show o + 14 + 1 = o + 15 by omega, show o + 14 + 2 = o + 16 by omega, show p + 14 + 1 = p + 15 by omega, show p + 14 + 2 = p + 16 by omega] at this
    rw [this.1, this.2.1, b0 (p + 15) (by omega), b0 (p + 16) (by omega), a0 (p + 15) (by omega), a0 (p + 16) (by omega), h0 (p + 15) (by omega), h0 (p + 16) (by omega)]
    exact ⟨rfl, rfl⟩
theorem SeR_cg {n n' : Int} {a1 a2 a3 b1 b2 b3 a1' a2' a3' b1' b2' b3' : Int → Int} (h : SeR n a1 a2 a3 b1 b2 b3) (hn : n' = n) (hq : ∀ q : Int, 0 ≤ q → q < 5 → (a1' q = a1 q ∧ a2' q = a2 q ∧ a3' q = a3 q) ∧ b1' q = b1 q ∧ b2' q = b2 q ∧ b3' q = b3 q) : SeR n' a1' a2' a3' b1' b2' b3' := by
  subst hn
  refine ⟨h.1, fun i i0 i1 => ?_⟩
  have c := hq i i0 (by have := h.1; omega)
  rw [c.1.1, c.1.2.1, c.1.2.2, c.2.1, c.2.2.1, c.2.2.2]
  exact h.2 i i0 i1
theorem PlR_cg {n n' N : Int} {a1 a2 b1 b2 a1' a2' b1' b2' : Int → Int} (h : PlR n a1 a2 b1 b2 N) (hn : n' = n) (hq : ∀ q : Int, 0 ≤ q → q < 10 → (a1' q = a1 q ∧ a2' q = a2 q) ∧ b1' q = b1 q ∧ b2' q = b2 q) : PlR n' a1' a2' b1' b2' N := by
  subst hn
  refine ⟨h.1, fun i i0 i1 => ?_⟩
  have c := hq i i0 (by have := h.1; omega)
  rw [c.1.1, c.1.2, c.2.1, c.2.2]
  exact h.2 i i0 i1
theorem BoR_cg {n n' N : Int} {a1 a2 b1 b2 a1' a2' b1' b2' : Int → Int} (h : BoR n a1 a2 b1 b2 N) (hn : n' = n) (hq : ∀ q : Int, 0 ≤ q → q < 8 → (a1' q = a1 q ∧ a2' q = a2 q) ∧ b1' q = b1 q ∧ b2' q = b2 q) : BoR n' a1' a2' b1' b2' N := by
  subst hn
  refine ⟨h.1, fun i i0 i1 => ?_⟩
  have c := hq i i0 (by have := h.1; omega)
  rw [c.1.1, c.1.2, c.2.1, c.2.2]
  exact h.2 i i0 i1
