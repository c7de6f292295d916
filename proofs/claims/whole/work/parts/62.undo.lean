/-! both: the image taken and brought back -/
theorem SM_k {k : Int} {e : Vw} {M : Mem} (h : SM k e M) : -1 ≤ k ∧ k ≤ 5 := h.1
theorem o_image {M : Mem} (hr : Rel M) : OP f_X7_image f_X8_image M := by
  obtain ⟨e, h⟩ := hr
  obtain ⟨hR, hy, hC, hM, hz, h7⟩ := h.1
  have h6 := hR.1
  unfold OP f_X7_image
  rw [wp_bind]
  refine c_tA (Or.inr ⟨rfl, rfl⟩) ?_
  intro M0 t0 t1 t2 t3 t4 t5 t6 t7 t8
  rw [wp_lt, wp_some]
  show wp (f_X8_image (stM M0 0 3 1)) (fun v' M2 => stM M0 0 3 1 22 0 = v' ∧ Rel M2)
  generalize hA : stM M0 0 3 1 = A
  have a0 : ∀ j : Int, j ≠ 0 → A j = M0 j := fun j hj => by rw [← hA, st_nc hj]
  have a1 : ∀ q : Int, A 0 q = if q = 3 then 1 else M 0 q := fun q => by
    rw [← hA, st_ap]
    by_cases hq : q = 3
    · rw [if_pos ⟨rfl, hq⟩, if_pos hq]
    · rw [if_neg (fun c => hq c.2), if_neg hq, t0 0 (by omega)]
  have aj : ∀ j : Int, j ≠ 0 → (j < 41 ∨ 58 < j) → A j = M j := fun j c1 c2 => by rw [a0 j c1, t0 j (by omega)]
  unfold f_X8_image
  rw [wp_lt, wp_lt, wp_lt, wp_lt, wp_lt, wp_lt, wp_lt]
  generalize hB1 : stM A 127 43 1 = B1
  have b1 : ∀ q : Int, B1 127 q = if q = 43 then 1 else M 127 q := fun q => by
    rw [← hB1, st_ap, aj 127 (by omega) (by omega)]
    by_cases hq : q = 43
    · rw [if_pos ⟨rfl, hq⟩, if_pos hq]
    · rw [if_neg (fun c => hq c.2), if_neg hq]
  rw [b1 8, if_neg (by omega)]
  generalize hB2 : stM B1 127 44 (M 127 8) = B2
  have b2 : ∀ q : Int, B2 127 q = if q = 44 then M 127 8 else if q = 43 then 1 else M 127 q := fun q => by
    rw [← hB2, st_ap, b1]
    by_cases hq : q = 44
    · rw [if_pos ⟨rfl, hq⟩, if_pos hq]
    · rw [if_neg (fun c => hq c.2), if_neg hq]
  rw [b2 0, if_neg (by omega), if_neg (by omega)]
  generalize hB3 : stM B2 127 45 (M 127 0) = B3
  have b3 : ∀ q : Int, B3 127 q = if q = 45 then M 127 0 else if q = 44 then M 127 8 else if q = 43 then 1 else M 127 q := fun q => by
    rw [← hB3, st_ap, b2]
    by_cases hq : q = 45
    · rw [if_pos ⟨rfl, hq⟩, if_pos hq]
    · rw [if_neg (fun c => hq c.2), if_neg hq]
  rw [b3 1, if_neg (by omega), if_neg (by omega), if_neg (by omega)]
  generalize hB4 : stM B3 127 46 (M 127 1) = B4
  have b4 : ∀ q : Int, B4 127 q = if q = 46 then M 127 1 else if q = 45 then M 127 0 else if q = 44 then M 127 8 else if q = 43 then 1 else M 127 q := fun q => by
    rw [← hB4, st_ap, b3]
    by_cases hq : q = 46
    · rw [if_pos ⟨rfl, hq⟩, if_pos hq]
    · rw [if_neg (fun c => hq c.2), if_neg hq]
  rw [b4 33, if_neg (by omega), if_neg (by omega), if_neg (by omega), if_neg (by omega)]
  generalize hB5 : stM B4 127 47 (M 127 33) = B5
  have b5 : ∀ q : Int, B5 127 q = if q = 47 then M 127 33 else if q = 46 then M 127 1 else if q = 45 then M 127 0 else if q = 44 then M 127 8 else if q = 43 then 1 else M 127 q := fun q => by
    rw [← hB5, st_ap, b4]
    by_cases hq : q = 47
    · rw [if_pos ⟨rfl, hq⟩, if_pos hq]
    · rw [if_neg (fun c => hq c.2), if_neg hq]
  rw [b5 37, if_neg (by omega), if_neg (by omega), if_neg (by omega), if_neg (by omega), if_neg (by omega)]
  generalize hB6 : stM B5 127 48 (M 127 37) = B6
  have b6 : ∀ q : Int, B6 127 q = if q = 48 then M 127 37 else if q = 47 then M 127 33 else if q = 46 then M 127 1 else if q = 45 then M 127 0 else if q = 44 then M 127 8 else if q = 43 then 1 else M 127 q := fun q => by
    rw [← hB6, st_ap, b5]
    by_cases hq : q = 48
    · rw [if_pos ⟨rfl, hq⟩, if_pos hq]
    · rw [if_neg (fun c => hq c.2), if_neg hq]
  rw [b6 38, if_neg (by omega), if_neg (by omega), if_neg (by omega), if_neg (by omega), if_neg (by omega), if_neg (by omega)]
  generalize hB7 : stM B6 127 49 (M 127 38) = B7
  have b7 : ∀ q : Int, B7 127 q = if q = 49 then M 127 38 else if q = 48 then M 127 37 else if q = 47 then M 127 33 else if q = 46 then M 127 1 else if q = 45 then M 127 0 else if q = 44 then M 127 8 else if q = 43 then 1 else M 127 q := fun q => by
    rw [← hB7, st_ap, b6]
    by_cases hq : q = 49
    · rw [if_pos ⟨rfl, hq⟩, if_pos hq]
    · rw [if_neg (fun c => hq c.2), if_neg hq]
  have bj : ∀ j : Int, j ≠ 127 → B7 j = A j := fun j hj => by rw [← hB7, st_nc hj, ← hB6, st_nc hj, ← hB5, st_nc hj, ← hB4, st_nc hj, ← hB3, st_nc hj, ← hB2, st_nc hj, ← hB1, st_nc hj]
  clear hB1 hB2 hB3 hB4 hB5 hB6 hB7 b1 b2 b3 b4 b5 b6
  refine cp_image_55 ?_
  intro C1 c1 d1
  refine cp_image_117 ?_
  intro C2 c2 d2
  refine cp_image_143 ?_
  intro C3 c3 d3
  refine cp_image_192 ?_
  intro C4 c4 d4
  refine cp_image_230 ?_
  intro C5 c5 d5
  have cj : ∀ j : Int, (j < 155 ∨ 166 < j) → C5 j = B7 j := fun j hj => by rw [c5 j (by omega) (by omega), c4 j (by omega) (by omega), c3 j (by omega) (by omega) (by omega), c2 j (by omega), c1 j (by omega) (by omega) (by omega) (by omega)]
  have f127 : ∀ q : Int, C5 127 q = if q = 49 then M 127 38 else if q = 48 then M 127 37 else if q = 47 then M 127 33 else if q = 46 then M 127 1 else if q = 45 then M 127 0 else if q = 44 then M 127 8 else if q = 43 then 1 else M 127 q := fun q => by rw [cj 127 (by omega), b7]
  have fj : ∀ j : Int, j ≠ 0 → j ≠ 127 → (j < 41 ∨ 58 < j) → (j < 155 ∨ 166 < j) → C5 j = M j := fun j x1 x2 x3 x4 => by rw [cj j x4, bj j x2, aj j x1 x3]
  have f0 : ∀ q : Int, C5 0 q = if q = 3 then 1 else M 0 q := fun q => by rw [cj 0 (by omega), bj 0 (by omega), a1]
  have fk : ∀ j : Int, 41 ≤ j → j ≤ 58 → C5 j = M0 j := fun j x1 x2 => by rw [cj j (by omega), bj j (by omega), a0 j (by omega)]
  have hf : ∀ j q : Int, (j ≠ 0 ∨ q ≠ 3) → (j < 41 ∨ 58 < j) → (j ≠ 127 ∨ q < 43 ∨ 49 < q) → (j < 155 ∨ 166 < j) → C5 j q = M j q := by
    intro j q x1 x2 x3 x4
    by_cases j0 : j = 0
    · subst j0
      rw [f0, if_neg (by omega)]
    · by_cases j1 : j = 127
      · subst j1
        rw [f127, if_neg (by omega), if_neg (by omega), if_neg (by omega), if_neg (by omega), if_neg (by omega), if_neg (by omega), if_neg (by omega)]
      · rw [fj j j0 j1 x2 x4]
  obtain ⟨r1, r2, r3, r4, r5, r6, r7, r8, r9⟩ := h
  refine ⟨?_, e, R1_fr r1 ?_, R2_fr r2 ?_, R3_fr r3 ?_, R4_fr r4 ?_, R5_fr r5 ?_, ⟨?_, fun _ => ⟨e, hR, hy, hz, ?_, ?_, ?_, ?_, ?_, ⟨?_, ?_⟩, ⟨?_, ?_⟩, ⟨?_, ?_⟩⟩⟩, R7_fr r7 ?_, R8_fr r8 ?_, R9_fr r9 ?_⟩
  · rw [aj 22 (by omega) (by omega), hC.1]
    show _ = C5 127 0
    rw [hf 127 0 (by omega) (by omega) (by omega) (by omega), hM.1]
  · exact fun j q c => hf j q (by omega) (by omega) (by omega) (by omega)
  · exact fun j q c => hf j q (by omega) (by omega) (by omega) (by omega)
  · exact fun j q c => hf j q (by omega) (by omega) (by omega) (by omega)
  · exact fun j q c => hf j q (by omega) (by omega) (by omega) (by omega)
  · exact fun j q c => hf j q (by omega) (by omega) (by omega) (by omega)
  · rw [f127 43, f0 3]
    rfl
  · rw [fk 41 (by omega) (by omega), t1, t2, f127 45, f127 46]
    exact ⟨hC.1, hC.2.1, hM.1, hM.2.1⟩
  · intro s s0 s6
    obtain ⟨u1, u2, u3, u4⟩ := t4 s s0 s6
    obtain ⟨v1, v2, v3, v4⟩ := hC.2.2.1 s s0 s6
    obtain ⟨w1, w2, w3, w4⟩ := hM.2.2.1 s s0 s6
    obtain ⟨x1, x2, x3, x4⟩ := d1 s s0 s6
    have c15 : ∀ j : Int, 155 ≤ j → j ≤ 158 → C5 j = C1 j := fun j z1 z2 => by rw [c5 j (by omega) (by omega), c4 j (by omega) (by omega), c3 j (by omega) (by omega) (by omega), c2 j (by omega)]
    rw [c15 155 (by omega) (by omega), c15 156 (by omega) (by omega), c15 157 (by omega) (by omega), c15 158 (by omega) (by omega), x1, x2, x3, x4]
    have bM : ∀ j : Int, 128 ≤ j → j ≤ 131 → B7 j = M j := fun j z1 z2 => by rw [bj j (by omega), aj j (by omega) (by omega)]
    rw [bM 128 (by omega) (by omega), bM 129 (by omega) (by omega), bM 130 (by omega) (by omega), bM 131 (by omega) (by omega), fk 42 (by omega) (by omega), fk 43 (by omega) (by omega), fk 44 (by omega) (by omega), fk 45 (by omega) (by omega)]
    exact ⟨u1.trans v1, u2.trans v2, u3.trans v3, u4.trans v4, w1, w2, w3, w4⟩
  · intro i i0 i24
    rw [fk 46 (by omega) (by omega)]
    exact (t5 i i0 i24).trans (hC.2.2.2.1 i i0 i24)
  · intro i i0 i4
    rw [c5 159 (by omega) (by omega), c4 159 (by omega) (by omega), c3 159 (by omega) (by omega) (by omega), d2 i i0 (by omega), c1 132 (by omega) (by omega) (by omega) (by omega), bj 132 (by omega), aj 132 (by omega) (by omega)]
    exact hM.2.2.2.1 i i0 i4
  · rw [fk 41 (by omega) (by omega), t3, f127 44, f0 6]
    have hk := hM.2.2.2.2.1
    exact ⟨h7, hk.1, r5.2.2.1⟩
  · rw [f127 47, fk 47 (by omega) (by omega)]
    exact r2.1.trans t6.1.symm
  · refine SeR_cg r2.2 (by rw [fk 47 (by omega) (by omega)]; exact t6.1) ?_
    intro q q0 q5
    have u := t6.2 q q0 q5
    have x := d3 q q0 q5
    have c23 : ∀ j : Int, 148 ≤ j → j ≤ 150 → C2 j = M j := fun j z1 z2 => by rw [c2 j (by omega), c1 j (by omega) (by omega) (by omega) (by omega), bj j (by omega), aj j (by omega) (by omega)]
    rw [c23 148 (by omega) (by omega), c23 149 (by omega) (by omega), c23 150 (by omega) (by omega)] at x
    rw [fk 48 (by omega) (by omega), fk 49 (by omega) (by omega), fk 50 (by omega) (by omega), c5 160 (by omega) (by omega), c4 160 (by omega) (by omega), c5 161 (by omega) (by omega), c4 161 (by omega) (by omega), c5 162 (by omega) (by omega), c4 162 (by omega) (by omega)]
    exact ⟨u, x⟩
  · rw [f127 48, fk 51 (by omega) (by omega)]
    exact r3.1.trans t7.1.symm
  · refine PlR_cg r3.2 (by rw [fk 51 (by omega) (by omega)]; exact t7.1) ?_
    intro q q0 q5
    have u := t7.2 q q0 q5
    have x := d4 q q0 q5
    have c23 : ∀ j : Int, 151 ≤ j → j ≤ 152 → C3 j = M j := fun j z1 z2 => by rw [c3 j (by omega) (by omega) (by omega), c2 j (by omega), c1 j (by omega) (by omega) (by omega) (by omega), bj j (by omega), aj j (by omega) (by omega)]
    rw [c23 151 (by omega) (by omega), c23 152 (by omega) (by omega)] at x
    rw [fk 52 (by omega) (by omega), fk 53 (by omega) (by omega), c5 163 (by omega) (by omega), c5 164 (by omega) (by omega)]
    exact ⟨u, x⟩
  · rw [f127 49, fk 55 (by omega) (by omega)]
    exact r4.1.trans t8.1.symm
  · refine BoR_cg r4.2 (by rw [fk 55 (by omega) (by omega)]; exact t8.1) ?_
    intro q q0 q5
    have u := t8.2 q q0 q5
    have x := d5 q q0 q5
    have c23 : ∀ j : Int, 153 ≤ j → j ≤ 154 → C4 j = M j := fun j z1 z2 => by rw [c4 j (by omega) (by omega), c3 j (by omega) (by omega) (by omega), c2 j (by omega), c1 j (by omega) (by omega) (by omega) (by omega), bj j (by omega), aj j (by omega) (by omega)]
    rw [c23 153 (by omega) (by omega), c23 154 (by omega) (by omega)] at x
    rw [fk 56 (by omega) (by omega), fk 57 (by omega) (by omega)]
    exact ⟨u, x⟩
  · exact fun j q c => hf j q (by omega) (by omega) (by omega) (by omega)
  · exact fun j q c => hf j q (by omega) (by omega) (by omega) (by omega)
  · exact fun j q c => hf j q (by omega) (by omega) (by omega) (by omega)
theorem o_undo {M : Mem} (hr : Rel M) : OP f_X7_undo f_X8_undo M := by
  obtain ⟨e0, h⟩ := hr
  obtain ⟨r1, r2, r3, r4, r5, r6, r7, r8, r9⟩ := h
  unfold OP f_X7_undo
  by_cases h3 : M 0 3 = 0
  · refine wp_t h3 ?_
    rw [wp_some]
    unfold f_X8_undo
    refine wp_t (r6.1.trans h3) ?_
    rw [wp_some]
    exact ⟨rfl, e0, r1, r2, r3, r4, r5, r6, r7, r8, r9⟩
  refine wp_f h3 ?_
  obtain ⟨ei, him⟩ := r6.2 h3
  obtain ⟨iR, iy, iz, i0, i1, i2, i3, i4, i5, i6, i7⟩ := him
  have hn6 := iR.1
  rw [wp_bind]
  refine c_tA (Or.inl ⟨rfl, rfl⟩) ?_
  intro A t0 t1 t2 t3 t4 t5 t6 t7 t8
  rw [wp_some]
  show wp (f_X8_undo A) (fun v' M2 => A 22 0 = v' ∧ Rel M2)
  have aj : ∀ j : Int, (j < 22 ∨ 39 < j) → A j = M j := fun j c => t0 j (by omega)
  unfold f_X8_undo
  refine wp_f (by rw [aj 127 (by omega)]; exact fun c => h3 (r6.1.symm.trans c)) ?_
  rw [wp_lt, wp_lt, wp_lt, wp_lt, wp_lt, wp_lt]
  rw [aj 127 (by omega)]
  generalize hB1 : stM A 127 8 (M 127 44) = B1
  have b1 : ∀ q : Int, B1 127 q = if q = 8 then M 127 44 else M 127 q := fun q => by
    rw [← hB1, st_ap, aj 127 (by omega)]
    by_cases hq : q = 8
    · rw [if_pos ⟨rfl, hq⟩, if_pos hq]
    · rw [if_neg (fun c => hq c.2), if_neg hq]
  rw [b1 45, if_neg (by omega)]
  generalize hB2 : stM B1 127 0 (M 127 45) = B2
  have b2 : ∀ q : Int, B2 127 q = if q = 0 then M 127 45 else if q = 8 then M 127 44 else M 127 q := fun q => by
    rw [← hB2, st_ap, b1]
    by_cases hq : q = 0
    · rw [if_pos ⟨rfl, hq⟩, if_pos hq]
    · rw [if_neg (fun c => hq c.2), if_neg hq]
  rw [b2 46, if_neg (by omega), if_neg (by omega)]
  generalize hB3 : stM B2 127 1 (M 127 46) = B3
  have b3 : ∀ q : Int, B3 127 q = if q = 1 then M 127 46 else if q = 0 then M 127 45 else if q = 8 then M 127 44 else M 127 q := fun q => by
    rw [← hB3, st_ap, b2]
    by_cases hq : q = 1
    · rw [if_pos ⟨rfl, hq⟩, if_pos hq]
    · rw [if_neg (fun c => hq c.2), if_neg hq]
  rw [b3 47, if_neg (by omega), if_neg (by omega), if_neg (by omega)]
  generalize hB4 : stM B3 127 33 (M 127 47) = B4
  have b4 : ∀ q : Int, B4 127 q = if q = 33 then M 127 47 else if q = 1 then M 127 46 else if q = 0 then M 127 45 else if q = 8 then M 127 44 else M 127 q := fun q => by
    rw [← hB4, st_ap, b3]
    by_cases hq : q = 33
    · rw [if_pos ⟨rfl, hq⟩, if_pos hq]
    · rw [if_neg (fun c => hq c.2), if_neg hq]
  rw [b4 48, if_neg (by omega), if_neg (by omega), if_neg (by omega), if_neg (by omega)]
  generalize hB5 : stM B4 127 37 (M 127 48) = B5
  have b5 : ∀ q : Int, B5 127 q = if q = 37 then M 127 48 else if q = 33 then M 127 47 else if q = 1 then M 127 46 else if q = 0 then M 127 45 else if q = 8 then M 127 44 else M 127 q := fun q => by
    rw [← hB5, st_ap, b4]
    by_cases hq : q = 37
    · rw [if_pos ⟨rfl, hq⟩, if_pos hq]
    · rw [if_neg (fun c => hq c.2), if_neg hq]
  rw [b5 49, if_neg (by omega), if_neg (by omega), if_neg (by omega), if_neg (by omega), if_neg (by omega)]
  generalize hB6 : stM B5 127 38 (M 127 49) = B7
  have b7 : ∀ q : Int, B7 127 q = if q = 38 then M 127 49 else if q = 37 then M 127 48 else if q = 33 then M 127 47 else if q = 1 then M 127 46 else if q = 0 then M 127 45 else if q = 8 then M 127 44 else M 127 q := fun q => by
    rw [← hB6, st_ap, b5]
    by_cases hq : q = 38
    · rw [if_pos ⟨rfl, hq⟩, if_pos hq]
    · rw [if_neg (fun c => hq c.2), if_neg hq]
  have bj : ∀ j : Int, j ≠ 127 → B7 j = A j := fun j hj => by rw [← hB6, st_nc hj, ← hB5, st_nc hj, ← hB4, st_nc hj, ← hB3, st_nc hj, ← hB2, st_nc hj, ← hB1, st_nc hj]
  clear hB1 hB2 hB3 hB4 hB5 hB6 b1 b2 b3 b4 b5
  refine cp_undo_60 ?_
  intro C1 c1 d1
  refine cp_undo_122 ?_
  intro C2 c2 d2
  refine cp_undo_148 ?_
  intro C3 c3 d3
  refine cp_undo_197 ?_
  intro C4 c4 d4
  refine cp_undo_235 ?_
  intro C5 c5 d5
  have cj : ∀ j : Int, (j < 128 ∨ j = 133 ∨ (133 < j ∧ j < 148) ∨ 154 < j) → C5 j = B7 j := fun j hj => by rw [c5 j (by omega) (by omega), c4 j (by omega) (by omega), c3 j (by omega) (by omega) (by omega), c2 j (by omega), c1 j (by omega) (by omega) (by omega) (by omega)]
  have f127 : ∀ q : Int, C5 127 q = if q = 38 then M 127 49 else if q = 37 then M 127 48 else if q = 33 then M 127 47 else if q = 1 then M 127 46 else if q = 0 then M 127 45 else if q = 8 then M 127 44 else M 127 q := fun q => by rw [cj 127 (by omega), b7]
  have fj : ∀ j : Int, j ≠ 127 → (j < 22 ∨ 39 < j) → (j < 128 ∨ 132 < j) → (j < 148 ∨ 154 < j) → C5 j = M j := fun j x1 x2 x3 x4 => by rw [cj j (by omega), bj j x1, aj j x2]
  have fk : ∀ j : Int, 22 ≤ j → j ≤ 39 → C5 j = A j := fun j x1 x2 => by rw [cj j (by omega), bj j (by omega)]
  have hf : ∀ j q : Int, (j < 22 ∨ 39 < j) → (j ≠ 127 ∨ (q ≠ 38 ∧ q ≠ 37 ∧ q ≠ 33 ∧ q ≠ 1 ∧ q ≠ 0 ∧ q ≠ 8)) → (j < 128 ∨ 132 < j) → (j < 148 ∨ 154 < j) → C5 j q = M j q := by
    intro j q x1 x2 x3 x4
    by_cases j1 : j = 127
    · subst j1
      rw [f127, if_neg (by omega), if_neg (by omega), if_neg (by omega), if_neg (by omega), if_neg (by omega), if_neg (by omega)]
    · rw [fj j j1 x1 x3 x4]
  have hSt := r5.2.2.2 (M 127 44) i4.2.1 i4.2.2
  obtain ⟨es, s1, s2, s3⟩ := hSt
  have hk5 := s2.1
  have hso := stO_r hk5.1 hk5.2
  have e8 : C5 127 8 = M 127 44 := by rw [f127 8]; rfl
  have e22 : C5 22 7 = stO (M 127 44) := by rw [fk 22 (by omega) (by omega), t3, i4.1]
  have hLC : LC 22 (ei.1, es.2) C5 := by
    refine ⟨?_, ?_, ?_, ?_, ?_⟩
    · rw [fk 22 (by omega) (by omega), t1]; exact i0.1
    · rw [fk 22 (by omega) (by omega), t2]; exact i0.2.1
    · intro s s0 s6
      have u := t4 s s0 s6
      have v := i1 s s0 s6
      rw [fk (22 + 1) (by omega) (by omega), fk (22 + 2) (by omega) (by omega), fk (22 + 3) (by omega) (by omega), fk (22 + 4) (by omega) (by omega), u.1, u.2.1, u.2.2.1, u.2.2.2]
      exact ⟨v.1, v.2.1, v.2.2.1, v.2.2.2.1⟩
    · intro i x0 x24
      rw [fk (22 + 5) (by omega) (by omega), t5 i x0 x24]
      exact i2 i x0 x24
    · rw [e22]
      exact SC_fr2 s1 (fun i a0 a5 => fr_j (fun q => hf _ q (by omega) (by omega) (by omega) (by omega))) rfl
  have hLM : LM (ei.1, es.2) C5 := by
    refine ⟨?_, ?_, ?_, ?_, ?_⟩
    · rw [f127 0]; exact i0.2.2.1
    · rw [f127 1]; exact i0.2.2.2
    · intro s s0 s6
      have v := i1 s s0 s6
      obtain ⟨x1, x2, x3, x4⟩ := d1 s s0 s6
      have c15 : ∀ j : Int, 128 ≤ j → j ≤ 131 → C5 j = C1 j := fun j z1 z2 => by rw [c5 j (by omega) (by omega), c4 j (by omega) (by omega), c3 j (by omega) (by omega) (by omega), c2 j (by omega)]
      have bM : ∀ j : Int, 155 ≤ j → j ≤ 158 → B7 j = M j := fun j z1 z2 => by rw [bj j (by omega), aj j (by omega)]
      rw [c15 128 (by omega) (by omega), c15 129 (by omega) (by omega), c15 130 (by omega) (by omega), c15 131 (by omega) (by omega), x1, x2, x3, x4, bM 155 (by omega) (by omega), bM 156 (by omega) (by omega), bM 157 (by omega) (by omega), bM 158 (by omega) (by omega)]
      exact v.2.2.2.2
    · intro i x0 x4
      have x4 : i < 4 * ei.1 0 0 := x4
      rw [c5 132 (by omega) (by omega), c4 132 (by omega) (by omega), c3 132 (by omega) (by omega) (by omega), d2 i x0 (by omega), c1 159 (by omega) (by omega) (by omega) (by omega), bj 159 (by omega), aj 159 (by omega)]
      exact i3 i x0 x4
    · rw [e8]
      exact SM_fr s2 (fun j a b => fr_j (fun q => hf j q (by omega) (by omega) (by omega) (by omega))) rfl
  refine ⟨?_, (ei.1, es.2), ⟨⟨iR.1, iR.2.1, iR.2.2.1, s3.1.1, s3.1.2⟩, iy, hLC, hLM, iz, by rw [e22, e8]⟩, ⟨?_, ?_⟩, ⟨?_, ?_⟩, ⟨?_, ?_⟩, ?_, R6_fr r6 ?_ ?_, R7_fr r7 ?_, R8_fr r8 ?_, R9_fr r9 ?_⟩
  · show A 22 0 = C5 127 0
    rw [t1, f127 0]
    exact i0.1.trans i0.2.2.1.symm
  · rw [f127 33, fk 28 (by omega) (by omega)]
    exact i5.1.trans t6.1.symm
  · refine SeR_cg i5.2 (by rw [fk 28 (by omega) (by omega)]; exact t6.1) ?_
    intro q q0 q5
    have u := t6.2 q q0 q5
    have x := d3 q q0 q5
    have c23 : ∀ j : Int, 160 ≤ j → j ≤ 162 → C2 j = M j := fun j z1 z2 => by rw [c2 j (by omega), c1 j (by omega) (by omega) (by omega) (by omega), bj j (by omega), aj j (by omega)]
    rw [c23 160 (by omega) (by omega), c23 161 (by omega) (by omega), c23 162 (by omega) (by omega)] at x
    rw [fk 29 (by omega) (by omega), fk 30 (by omega) (by omega), fk 31 (by omega) (by omega), c5 148 (by omega) (by omega), c4 148 (by omega) (by omega), c5 149 (by omega) (by omega), c4 149 (by omega) (by omega), c5 150 (by omega) (by omega), c4 150 (by omega) (by omega)]
    exact ⟨u, x⟩
  · rw [f127 37, fk 32 (by omega) (by omega)]
    exact i6.1.trans t7.1.symm
  · refine PlR_cg i6.2 (by rw [fk 32 (by omega) (by omega)]; exact t7.1) ?_
    intro q q0 q5
    have u := t7.2 q q0 q5
    have x := d4 q q0 q5
    have c23 : ∀ j : Int, 163 ≤ j → j ≤ 164 → C3 j = M j := fun j z1 z2 => by rw [c3 j (by omega) (by omega) (by omega), c2 j (by omega), c1 j (by omega) (by omega) (by omega) (by omega), bj j (by omega), aj j (by omega)]
    rw [c23 163 (by omega) (by omega), c23 164 (by omega) (by omega)] at x
    rw [fk 33 (by omega) (by omega), fk 34 (by omega) (by omega), c5 151 (by omega) (by omega), c5 152 (by omega) (by omega)]
    exact ⟨u, x⟩
  · rw [f127 38, fk 36 (by omega) (by omega)]
    exact i7.1.trans t8.1.symm
  · refine BoR_cg i7.2 (by rw [fk 36 (by omega) (by omega)]; exact t8.1) ?_
    intro q q0 q5
    have u := t8.2 q q0 q5
    have x := d5 q q0 q5
    have c23 : ∀ j : Int, 165 ≤ j → j ≤ 166 → C4 j = M j := fun j z1 z2 => by rw [c4 j (by omega) (by omega), c3 j (by omega) (by omega) (by omega), c2 j (by omega), c1 j (by omega) (by omega) (by omega) (by omega), bj j (by omega), aj j (by omega)]
    rw [c23 165 (by omega) (by omega), c23 166 (by omega) (by omega)] at x
    rw [fk 37 (by omega) (by omega), fk 38 (by omega) (by omega)]
    exact ⟨u, x⟩
  · refine ⟨?_, ?_, ?_, ?_⟩
    · rw [hf 0 6 (by omega) (by omega) (by omega) (by omega)]; exact ⟨r5.1.1, fun k a b => by rw [hf _ _ (by omega) (by omega) (by omega) (by omega)]; exact r5.1.2 k a b⟩
    · rw [hf 0 6 (by omega) (by omega) (by omega) (by omega), hf 127 7 (by omega) (by omega) (by omega) (by omega)]; exact r5.2.1
    · rw [e8, hf 0 6 (by omega) (by omega) (by omega) (by omega)]; exact i4.2.2
    · intro k k0 k1
      rw [hf 0 6 (by omega) (by omega) (by omega) (by omega)] at k1
      exact StP_fr (r5.2.2.2 k k0 k1) (fun j q c => hf j q (by omega) (by omega) (by omega) (by omega))
  · exact fun j q c => hf j q (by omega) (by omega) (by omega) (by omega)
  · rw [hf 0 6 (by omega) (by omega) (by omega) (by omega)]; exact Int.le_refl _
  · exact fun j q c => hf j q (by omega) (by omega) (by omega) (by omega)
  · exact fun j q c => hf j q (by omega) (by omega) (by omega) (by omega)
  · exact fun j q c => hf j q (by omega) (by omega) (by omega) (by omega)
