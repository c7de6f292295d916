/-! what is made, in which order: the cells of the two objects, and what lies in their fixed fields -/
def SH : List Shp := [(17, 10), (15, 4), (1, 100), (4, 6), (16, 12), (0, 150), (0, 6), (0, 5), (2, 6), (0, 30), (0, 35), (0, 6), (0, 3), (10, 5), (0, 20), (5, 6), (13, 10), (0, 10), (0, 11), (0, 100), (0, 100), (0, 100), (11, 12), (0, 6), (0, 6), (0, 6), (0, 6), (0, 24), (12, 4), (0, 5), (0, 5), (0, 5), (12, 4), (0, 10), (0, 10), (0, 10), (12, 4), (0, 8), (0, 8), (0, 8), (0, 6), (11, 12), (0, 6), (0, 6), (0, 6), (0, 6), (0, 24), (12, 4), (0, 5), (0, 5), (0, 5), (12, 4), (0, 10), (0, 10), (0, 10), (12, 4), (0, 8), (0, 8), (0, 8), (0, 6), (11, 12), (0, 6), (0, 6), (0, 6), (0, 6), (0, 24), (12, 4), (0, 5), (0, 5), (0, 5), (12, 4), (0, 10), (0, 10), (0, 10), (12, 4), (0, 8), (0, 8), (0, 8), (0, 6), (13, 10), (0, 10), (0, 11), (0, 100), (0, 100), (0, 100), (13, 10), (0, 10), (0, 11), (0, 100), (0, 100), (0, 100), (13, 10), (0, 10), (0, 11), (0, 100), (0, 100), (0, 100), (13, 10), (0, 10), (0, 11), (0, 100), (0, 100), (0, 100), (13, 10), (0, 10), (0, 11), (0, 100), (0, 100), (0, 100), (13, 10), (0, 10), (0, 11), (0, 100), (0, 100), (0, 100), (14, 3), (3, 60), (14, 3), (3, 60), (14, 3), (3, 60), (14, 3), (3, 60), (14, 3), (3, 60), (14, 3), (3, 60), (18, 68), (0, 6), (0, 6), (0, 6), (0, 6), (0, 24), (0, 100), (0, 6), (0, 60), (0, 60), (0, 60), (0, 60), (0, 600), (0, 101), (0, 20), (2, 100), (0, 5), (0, 6), (0, 6), (0, 150), (0, 6), (0, 5), (0, 5), (0, 5), (0, 10), (0, 10), (0, 8), (0, 8), (0, 6), (0, 6), (0, 6), (0, 6), (0, 24), (0, 5), (0, 5), (0, 5), (0, 10), (0, 10), (0, 8), (0, 8), (0, 20), (0, 6), (0, 6), (3, 360), (3, 60)]
def LAY : List (Int × (Int × Int)) := [(1, 0, 2), (0, 4, 1), (0, 5, 3), (4, 2, 5), (4, 3, 6), (4, 4, 7), (4, 5, 8), (4, 6, 9), (4, 7, 10), (4, 8, 11), (4, 11, 12), (0, 7, 4), (13, 1, 14), (0, 8, 13), (0, 9, 15), (16, 4, 17), (16, 5, 18), (16, 7, 19), (16, 8, 20), (16, 9, 21), (22, 1, 23), (22, 2, 24), (22, 3, 25), (22, 4, 26), (22, 5, 27), (28, 1, 29), (28, 2, 30), (28, 3, 31), (22, 8, 28), (32, 1, 33), (32, 2, 34), (32, 3, 35), (22, 9, 32), (36, 1, 37), (36, 2, 38), (36, 3, 39), (22, 10, 36), (22, 11, 40), (41, 1, 42), (41, 2, 43), (41, 3, 44), (41, 4, 45), (41, 5, 46), (47, 1, 48), (47, 2, 49), (47, 3, 50), (41, 8, 47), (51, 1, 52), (51, 2, 53), (51, 3, 54), (41, 9, 51), (55, 1, 56), (55, 2, 57), (55, 3, 58), (41, 10, 55), (41, 11, 59), (60, 1, 61), (60, 2, 62), (60, 3, 63), (60, 4, 64), (60, 5, 65), (66, 1, 67), (66, 2, 68), (66, 3, 69), (60, 8, 66), (70, 1, 71), (70, 2, 72), (70, 3, 73), (60, 9, 70), (74, 1, 75), (74, 2, 76), (74, 3, 77), (60, 10, 74), (60, 11, 78), (0, 0, 22), (0, 1, 41), (0, 2, 60), (79, 4, 80), (79, 5, 81), (79, 7, 82), (79, 8, 83), (79, 9, 84), (3, 0, 79), (85, 4, 86), (85, 5, 87), (85, 7, 88), (85, 8, 89), (85, 9, 90), (3, 1, 85), (91, 4, 92), (91, 5, 93), (91, 7, 94), (91, 8, 95), (91, 9, 96), (3, 2, 91), (97, 4, 98), (97, 5, 99), (97, 7, 100), (97, 8, 101), (97, 9, 102), (3, 3, 97), (103, 4, 104), (103, 5, 105), (103, 7, 106), (103, 8, 107), (103, 9, 108), (3, 4, 103), (109, 4, 110), (109, 5, 111), (109, 7, 112), (109, 8, 113), (109, 9, 114), (3, 5, 109), (115, 2, 116), (15, 0, 115), (117, 2, 118), (15, 1, 117), (119, 2, 120), (15, 2, 119), (121, 2, 122), (15, 3, 121), (123, 2, 124), (15, 4, 123), (125, 2, 126), (15, 5, 125), (127, 2, 128), (127, 3, 129), (127, 4, 130), (127, 5, 131), (127, 6, 132), (127, 12, 133), (127, 13, 134), (127, 14, 135), (127, 15, 136), (127, 16, 137), (127, 17, 138), (127, 18, 139), (127, 19, 140), (127, 23, 141), (127, 24, 142), (127, 25, 143), (127, 27, 144), (127, 28, 145), (127, 29, 146), (127, 30, 147), (127, 34, 148), (127, 35, 149), (127, 36, 150), (127, 39, 151), (127, 40, 152), (127, 41, 153), (127, 42, 154), (127, 50, 155), (127, 51, 156), (127, 52, 157), (127, 53, 158), (127, 54, 159), (127, 55, 160), (127, 56, 161), (127, 57, 162), (127, 58, 163), (127, 59, 164), (127, 60, 165), (127, 61, 166), (127, 63, 167), (127, 64, 168), (127, 65, 169), (127, 66, 170), (127, 67, 171)]
def isLot (o : Int) : Prop := o = 22 ∨ o = 41 ∨ o = 60
def isRw (o : Int) : Prop := o = 28 ∨ o = 32 ∨ o = 36 ∨ o = 47 ∨ o = 51 ∨ o = 55 ∨ o = 66 ∨ o = 70 ∨ o = 74
def isStr (o : Int) : Prop := o = 16 ∨ o = 79 ∨ o = 85 ∨ o = 91 ∨ o = 97 ∨ o = 103 ∨ o = 109
def isTp (o : Int) : Prop := o = 115 ∨ o = 117 ∨ o = 119 ∨ o = 121 ∨ o = 123 ∨ o = 125
def OK (M : Mem) : Prop := (∀ e ∈ LAY, M e.1 e.2.1 = e.2.2) ∧ isStr (M 22 7) ∧ isStr (M 41 7) ∧ isStr (M 60 7) ∧ (M 1 3 = -1 ∨ isStr (M 1 3))
theorem p_1_22 : isLot 22 := Or.inl rfl
theorem p_1_41 : isLot 41 := Or.inr (Or.inl rfl)
theorem p_1_60 : isLot 60 := Or.inr (Or.inr (rfl))
theorem p_2_28 : isRw 28 := Or.inl rfl
theorem p_2_32 : isRw 32 := Or.inr (Or.inl rfl)
theorem p_2_36 : isRw 36 := Or.inr (Or.inr (Or.inl rfl))
theorem p_2_47 : isRw 47 := Or.inr (Or.inr (Or.inr (Or.inl rfl)))
theorem p_2_51 : isRw 51 := Or.inr (Or.inr (Or.inr (Or.inr (Or.inl rfl))))
theorem p_2_55 : isRw 55 := Or.inr (Or.inr (Or.inr (Or.inr (Or.inr (Or.inl rfl)))))
theorem p_2_66 : isRw 66 := Or.inr (Or.inr (Or.inr (Or.inr (Or.inr (Or.inr (Or.inl rfl))))))
theorem p_2_70 : isRw 70 := Or.inr (Or.inr (Or.inr (Or.inr (Or.inr (Or.inr (Or.inr (Or.inl rfl)))))))
theorem p_2_74 : isRw 74 := Or.inr (Or.inr (Or.inr (Or.inr (Or.inr (Or.inr (Or.inr (Or.inr (rfl))))))))
theorem p_3_16 : isStr 16 := Or.inl rfl
theorem p_3_79 : isStr 79 := Or.inr (Or.inl rfl)
theorem p_3_85 : isStr 85 := Or.inr (Or.inr (Or.inl rfl))
theorem p_3_91 : isStr 91 := Or.inr (Or.inr (Or.inr (Or.inl rfl)))
theorem p_3_97 : isStr 97 := Or.inr (Or.inr (Or.inr (Or.inr (Or.inl rfl))))
theorem p_3_103 : isStr 103 := Or.inr (Or.inr (Or.inr (Or.inr (Or.inr (Or.inl rfl)))))
theorem p_3_109 : isStr 109 := Or.inr (Or.inr (Or.inr (Or.inr (Or.inr (Or.inr (rfl))))))
theorem p_4_115 : isTp 115 := Or.inl rfl
theorem p_4_117 : isTp 117 := Or.inr (Or.inl rfl)
theorem p_4_119 : isTp 119 := Or.inr (Or.inr (Or.inl rfl))
theorem p_4_121 : isTp 121 := Or.inr (Or.inr (Or.inr (Or.inl rfl)))
theorem p_4_123 : isTp 123 := Or.inr (Or.inr (Or.inr (Or.inr (Or.inl rfl))))
theorem p_4_125 : isTp 125 := Or.inr (Or.inr (Or.inr (Or.inr (Or.inr (rfl)))))
theorem lay_at {M : Mem} (hO : OK M) (o k v : Int) (h : (o, k, v) ∈ LAY) : M o k = v := hO.1 _ h
theorem stM_o {M : Mem} {i k v o q : Int} (h : ¬ (o = i ∧ q = k)) : stM M i k v o q = M o q := by
  unfold stM
  by_cases h1 : o = i
  · rw [if_pos h1]
    show (if q = k then v else M i q) = _
    rw [if_neg (fun h2 => h ⟨h1, h2⟩), h1]
  · rw [if_neg h1]
theorem ok_st {M : Mem} {i k v : Int} (hO : OK M) (h : LAY.all (fun e => !(decide (e.1 = i) && decide (e.2.1 = k))) = true) (h1 : ¬ (22 = i ∧ 7 = k)) (h2 : ¬ (41 = i ∧ 7 = k)) (h3 : ¬ (60 = i ∧ 7 = k)) (h4 : ¬ (1 = i ∧ 3 = k)) : OK (stM M i k v) := by
  refine ⟨fun e he => ?_, ?_, ?_, ?_, ?_⟩
  · have := List.all_eq_true.mp h e he
    rw [stM_o (fun q => by rw [q.1, q.2] at this; simp at this)]
    exact hO.1 e he
  · rw [stM_o h1]; exact hO.2.1
  · rw [stM_o h2]; exact hO.2.2.1
  · rw [stM_o h3]; exact hO.2.2.2.1
  · rw [stM_o h4]; exact hO.2.2.2.2
/-- the rows of numbers are none of the fixed fields -/
theorem ok_arr {M : Mem} {i k v : Int} {q n : Nat} (hO : OK M) (hs : shp SH i = some (q, n)) (hq : q < 4) : OK (stM M i k v) := by
  have h0 : ∀ e ∈ LAY, ∀ s, shp SH e.1 = some s → 4 ≤ s.1 := by
    have : LAY.all (fun e => match shp SH e.1 with | some s => decide (4 ≤ s.1) | none => false) = true := by decide +kernel
    intro e he s hs'
    have := List.all_eq_true.mp this e he
    rw [hs'] at this
    simpa using this
  refine ⟨fun e he => ?_, ?_, ?_, ?_, ?_⟩
  · rw [stM_o (fun z => by
      rw [← z.1] at hs
      have := h0 e he _ hs
      exact absurd hq (Nat.not_lt.mpr this))]
    exact hO.1 e he
  · rw [stM_o (fun z => by rw [← z.1] at hs; cases hs; omega)]; exact hO.2.1
  · rw [stM_o (fun z => by rw [← z.1] at hs; cases hs; omega)]; exact hO.2.2.1
  · rw [stM_o (fun z => by rw [← z.1] at hs; cases hs; omega)]; exact hO.2.2.2.1
  · rw [stM_o (fun z => by rw [← z.1] at hs; cases hs; omega)]; exact hO.2.2.2.2
theorem ok_cp {M : Mem} {a b sp dp n : Int} {q m : Nat} (hO : OK M) (hs : shp SH b = some (q, m)) (hq : q < 4) : OK (cpM M a b sp dp n) := by
  have h0 : ∀ e ∈ LAY, ∀ s, shp SH e.1 = some s → 4 ≤ s.1 := by
    have : LAY.all (fun e => match shp SH e.1 with | some s => decide (4 ≤ s.1) | none => false) = true := by decide +kernel
    intro e he s hs'
    have := List.all_eq_true.mp this e he
    rw [hs'] at this
    simpa using this
  have key : ∀ o k, o ≠ b → cpM M a b sp dp n o k = M o k := fun o k h => by unfold cpM; rw [if_neg h]
  refine ⟨fun e he => ?_, ?_, ?_, ?_, ?_⟩
  · rw [key _ _ (fun z => by
      rw [← z] at hs
      have := h0 e he _ hs
      exact absurd hq (Nat.not_lt.mpr this))]
    exact hO.1 e he
  · rw [key _ _ (fun z => by rw [← z] at hs; cases hs; omega)]; exact hO.2.1
  · rw [key _ _ (fun z => by rw [← z] at hs; cases hs; omega)]; exact hO.2.2.1
  · rw [key _ _ (fun z => by rw [← z] at hs; cases hs; omega)]; exact hO.2.2.2.1
  · rw [key _ _ (fun z => by rw [← z] at hs; cases hs; omega)]; exact hO.2.2.2.2
theorem so_0 : shp SH 13 = some (10 + 0, 5) := rfl
theorem so_1 {o : Int} (h : isLot o) : shp SH o = some (10 + 1, 12) := by
  rcases h with rfl | rfl | rfl <;> rfl
theorem so_2 {o : Int} (h : isRw o) : shp SH o = some (10 + 2, 4) := by
  rcases h with rfl | rfl | rfl | rfl | rfl | rfl | rfl | rfl | rfl <;> rfl
theorem so_3 {o : Int} (h : isStr o) : shp SH o = some (10 + 3, 10) := by
  rcases h with rfl | rfl | rfl | rfl | rfl | rfl | rfl <;> rfl
theorem so_4 {o : Int} (h : isTp o) : shp SH o = some (10 + 4, 3) := by
  rcases h with rfl | rfl | rfl | rfl | rfl | rfl <;> rfl
theorem so_5 : shp SH 1 = some (10 + 5, 4) := rfl
theorem so_6 : shp SH 4 = some (10 + 6, 12) := rfl
theorem so_7 : shp SH 0 = some (10 + 7, 10) := rfl
theorem so_8 : shp SH 127 = some (10 + 8, 68) := rfl
def rwN (o : Int) : Nat := if o = 28 then 5 else if o = 32 then 10 else if o = 36 then 8 else if o = 47 then 5 else if o = 51 then 10 else if o = 55 then 8 else if o = 66 then 5 else if o = 70 then 10 else 8
theorem okf_0_0 {M : Mem} {v : Int} (hO : OK M) : OK (stM M 13 0 v) := ok_st hO (by decide +kernel) (by decide) (by decide) (by decide) (by decide)
theorem lay_0_1 {M : Mem} (hO : OK M) : M 13 1 = 14 := lay_at hO 13 1 14 (by decide +kernel)
theorem sh_0_1 : shp SH 14 = some (0, 20) := rfl
theorem okf_0_2 {M : Mem} {v : Int} (hO : OK M) : OK (stM M 13 2 v) := ok_st hO (by decide +kernel) (by decide) (by decide) (by decide) (by decide)
theorem okf_0_3 {M : Mem} {v : Int} (hO : OK M) : OK (stM M 13 3 v) := ok_st hO (by decide +kernel) (by decide) (by decide) (by decide) (by decide)
theorem okf_0_4 {M : Mem} {v : Int} (hO : OK M) : OK (stM M 13 4 v) := ok_st hO (by decide +kernel) (by decide) (by decide) (by decide) (by decide)
theorem okf_1_0 {M : Mem} {o v : Int} (hO : OK M) (h : isLot o) : OK (stM M o 0 v) := by
  rcases h with rfl | rfl | rfl <;> exact ok_st hO (by decide +kernel) (by decide) (by decide) (by decide) (by decide)
theorem lay_1_1 {M : Mem} {o : Int} (hO : OK M) (h : isLot o) : M o 1 = o + 1 := by
  rcases h with rfl | rfl | rfl <;> exact lay_at hO _ _ _ (by decide +kernel)
theorem sh_1_1 {o : Int} (h : isLot o) : shp SH (o + 1) = some (0, 6) := by
  rcases h with rfl | rfl | rfl <;> rfl
theorem lay_1_2 {M : Mem} {o : Int} (hO : OK M) (h : isLot o) : M o 2 = o + 2 := by
  rcases h with rfl | rfl | rfl <;> exact lay_at hO _ _ _ (by decide +kernel)
theorem sh_1_2 {o : Int} (h : isLot o) : shp SH (o + 2) = some (0, 6) := by
  rcases h with rfl | rfl | rfl <;> rfl
theorem lay_1_3 {M : Mem} {o : Int} (hO : OK M) (h : isLot o) : M o 3 = o + 3 := by
  rcases h with rfl | rfl | rfl <;> exact lay_at hO _ _ _ (by decide +kernel)
theorem sh_1_3 {o : Int} (h : isLot o) : shp SH (o + 3) = some (0, 6) := by
  rcases h with rfl | rfl | rfl <;> rfl
theorem lay_1_4 {M : Mem} {o : Int} (hO : OK M) (h : isLot o) : M o 4 = o + 4 := by
  rcases h with rfl | rfl | rfl <;> exact lay_at hO _ _ _ (by decide +kernel)
theorem sh_1_4 {o : Int} (h : isLot o) : shp SH (o + 4) = some (0, 6) := by
  rcases h with rfl | rfl | rfl <;> rfl
theorem lay_1_5 {M : Mem} {o : Int} (hO : OK M) (h : isLot o) : M o 5 = o + 5 := by
  rcases h with rfl | rfl | rfl <;> exact lay_at hO _ _ _ (by decide +kernel)
theorem sh_1_5 {o : Int} (h : isLot o) : shp SH (o + 5) = some (0, 24) := by
  rcases h with rfl | rfl | rfl <;> rfl
theorem okf_1_6 {M : Mem} {o v : Int} (hO : OK M) (h : isLot o) : OK (stM M o 6 v) := by
  rcases h with rfl | rfl | rfl <;> exact ok_st hO (by decide +kernel) (by decide) (by decide) (by decide) (by decide)
theorem lay_1_8 {M : Mem} {o : Int} (hO : OK M) (h : isLot o) : M o 8 = o + 6 := by
  rcases h with rfl | rfl | rfl <;> exact lay_at hO _ _ _ (by decide +kernel)
theorem mem_1_8 {o : Int} (h : isLot o) : isRw (o + 6) := by
  rcases h with rfl | rfl | rfl
  · exact p_2_28
  · exact p_2_47
  · exact p_2_66
theorem lay_1_9 {M : Mem} {o : Int} (hO : OK M) (h : isLot o) : M o 9 = o + 10 := by
  rcases h with rfl | rfl | rfl <;> exact lay_at hO _ _ _ (by decide +kernel)
theorem mem_1_9 {o : Int} (h : isLot o) : isRw (o + 10) := by
  rcases h with rfl | rfl | rfl
  · exact p_2_32
  · exact p_2_51
  · exact p_2_70
theorem lay_1_10 {M : Mem} {o : Int} (hO : OK M) (h : isLot o) : M o 10 = o + 14 := by
  rcases h with rfl | rfl | rfl <;> exact lay_at hO _ _ _ (by decide +kernel)
theorem mem_1_10 {o : Int} (h : isLot o) : isRw (o + 14) := by
  rcases h with rfl | rfl | rfl
  · exact p_2_36
  · exact p_2_55
  · exact p_2_74
theorem lay_1_11 {M : Mem} {o : Int} (hO : OK M) (h : isLot o) : M o 11 = o + 18 := by
  rcases h with rfl | rfl | rfl <;> exact lay_at hO _ _ _ (by decide +kernel)
theorem sh_1_11 {o : Int} (h : isLot o) : shp SH (o + 18) = some (0, 6) := by
  rcases h with rfl | rfl | rfl <;> rfl
theorem okf_2_0 {M : Mem} {o v : Int} (hO : OK M) (h : isRw o) : OK (stM M o 0 v) := by
  rcases h with rfl | rfl | rfl | rfl | rfl | rfl | rfl | rfl | rfl <;> exact ok_st hO (by decide +kernel) (by decide) (by decide) (by decide) (by decide)
theorem lay_2_1 {M : Mem} {o : Int} (hO : OK M) (h : isRw o) : M o 1 = o + 1 := by
  rcases h with rfl | rfl | rfl | rfl | rfl | rfl | rfl | rfl | rfl <;> exact lay_at hO _ _ _ (by decide +kernel)
theorem sh_2_1 {o : Int} (h : isRw o) : shp SH (o + 1) = some (0, rwN o) := by
  rcases h with rfl | rfl | rfl | rfl | rfl | rfl | rfl | rfl | rfl <;> rfl
theorem lay_2_2 {M : Mem} {o : Int} (hO : OK M) (h : isRw o) : M o 2 = o + 2 := by
  rcases h with rfl | rfl | rfl | rfl | rfl | rfl | rfl | rfl | rfl <;> exact lay_at hO _ _ _ (by decide +kernel)
theorem sh_2_2 {o : Int} (h : isRw o) : shp SH (o + 2) = some (0, rwN o) := by
  rcases h with rfl | rfl | rfl | rfl | rfl | rfl | rfl | rfl | rfl <;> rfl
theorem lay_2_3 {M : Mem} {o : Int} (hO : OK M) (h : isRw o) : M o 3 = o + 3 := by
  rcases h with rfl | rfl | rfl | rfl | rfl | rfl | rfl | rfl | rfl <;> exact lay_at hO _ _ _ (by decide +kernel)
theorem sh_2_3 {o : Int} (h : isRw o) : shp SH (o + 3) = some (0, rwN o) := by
  rcases h with rfl | rfl | rfl | rfl | rfl | rfl | rfl | rfl | rfl <;> rfl
theorem okf_3_0 {M : Mem} {o v : Int} (hO : OK M) (h : isStr o) : OK (stM M o 0 v) := by
  rcases h with rfl | rfl | rfl | rfl | rfl | rfl | rfl <;> exact ok_st hO (by decide +kernel) (by decide) (by decide) (by decide) (by decide)
theorem okf_3_1 {M : Mem} {o v : Int} (hO : OK M) (h : isStr o) : OK (stM M o 1 v) := by
  rcases h with rfl | rfl | rfl | rfl | rfl | rfl | rfl <;> exact ok_st hO (by decide +kernel) (by decide) (by decide) (by decide) (by decide)
theorem okf_3_2 {M : Mem} {o v : Int} (hO : OK M) (h : isStr o) : OK (stM M o 2 v) := by
  rcases h with rfl | rfl | rfl | rfl | rfl | rfl | rfl <;> exact ok_st hO (by decide +kernel) (by decide) (by decide) (by decide) (by decide)
theorem okf_3_3 {M : Mem} {o v : Int} (hO : OK M) (h : isStr o) : OK (stM M o 3 v) := by
  rcases h with rfl | rfl | rfl | rfl | rfl | rfl | rfl <;> exact ok_st hO (by decide +kernel) (by decide) (by decide) (by decide) (by decide)
theorem lay_3_4 {M : Mem} {o : Int} (hO : OK M) (h : isStr o) : M o 4 = o + 1 := by
  rcases h with rfl | rfl | rfl | rfl | rfl | rfl | rfl <;> exact lay_at hO _ _ _ (by decide +kernel)
theorem sh_3_4 {o : Int} (h : isStr o) : shp SH (o + 1) = some (0, 10) := by
  rcases h with rfl | rfl | rfl | rfl | rfl | rfl | rfl <;> rfl
theorem lay_3_5 {M : Mem} {o : Int} (hO : OK M) (h : isStr o) : M o 5 = o + 2 := by
  rcases h with rfl | rfl | rfl | rfl | rfl | rfl | rfl <;> exact lay_at hO _ _ _ (by decide +kernel)
theorem sh_3_5 {o : Int} (h : isStr o) : shp SH (o + 2) = some (0, 11) := by
  rcases h with rfl | rfl | rfl | rfl | rfl | rfl | rfl <;> rfl
theorem okf_3_6 {M : Mem} {o v : Int} (hO : OK M) (h : isStr o) : OK (stM M o 6 v) := by
  rcases h with rfl | rfl | rfl | rfl | rfl | rfl | rfl <;> exact ok_st hO (by decide +kernel) (by decide) (by decide) (by decide) (by decide)
theorem lay_3_7 {M : Mem} {o : Int} (hO : OK M) (h : isStr o) : M o 7 = o + 3 := by
  rcases h with rfl | rfl | rfl | rfl | rfl | rfl | rfl <;> exact lay_at hO _ _ _ (by decide +kernel)
theorem sh_3_7 {o : Int} (h : isStr o) : shp SH (o + 3) = some (0, 100) := by
  rcases h with rfl | rfl | rfl | rfl | rfl | rfl | rfl <;> rfl
theorem lay_3_8 {M : Mem} {o : Int} (hO : OK M) (h : isStr o) : M o 8 = o + 4 := by
  rcases h with rfl | rfl | rfl | rfl | rfl | rfl | rfl <;> exact lay_at hO _ _ _ (by decide +kernel)
theorem sh_3_8 {o : Int} (h : isStr o) : shp SH (o + 4) = some (0, 100) := by
  rcases h with rfl | rfl | rfl | rfl | rfl | rfl | rfl <;> rfl
theorem lay_3_9 {M : Mem} {o : Int} (hO : OK M) (h : isStr o) : M o 9 = o + 5 := by
  rcases h with rfl | rfl | rfl | rfl | rfl | rfl | rfl <;> exact lay_at hO _ _ _ (by decide +kernel)
theorem sh_3_9 {o : Int} (h : isStr o) : shp SH (o + 5) = some (0, 100) := by
  rcases h with rfl | rfl | rfl | rfl | rfl | rfl | rfl <;> rfl
theorem okf_4_0 {M : Mem} {o v : Int} (hO : OK M) (h : isTp o) : OK (stM M o 0 v) := by
  rcases h with rfl | rfl | rfl | rfl | rfl | rfl <;> exact ok_st hO (by decide +kernel) (by decide) (by decide) (by decide) (by decide)
theorem okf_4_1 {M : Mem} {o v : Int} (hO : OK M) (h : isTp o) : OK (stM M o 1 v) := by
  rcases h with rfl | rfl | rfl | rfl | rfl | rfl <;> exact ok_st hO (by decide +kernel) (by decide) (by decide) (by decide) (by decide)
theorem lay_4_2 {M : Mem} {o : Int} (hO : OK M) (h : isTp o) : M o 2 = o + 1 := by
  rcases h with rfl | rfl | rfl | rfl | rfl | rfl <;> exact lay_at hO _ _ _ (by decide +kernel)
theorem sh_4_2 {o : Int} (h : isTp o) : shp SH (o + 1) = some (3, 60) := by
  rcases h with rfl | rfl | rfl | rfl | rfl | rfl <;> rfl
theorem lay_5_0 {M : Mem} (hO : OK M) : M 1 0 = 2 := lay_at hO 1 0 2 (by decide +kernel)
theorem sh_5_0 : shp SH 2 = some (1, 100) := rfl
theorem okf_5_1 {M : Mem} {v : Int} (hO : OK M) : OK (stM M 1 1 v) := ok_st hO (by decide +kernel) (by decide) (by decide) (by decide) (by decide)
theorem okf_5_2 {M : Mem} {v : Int} (hO : OK M) : OK (stM M 1 2 v) := ok_st hO (by decide +kernel) (by decide) (by decide) (by decide) (by decide)
theorem okf_6_0 {M : Mem} {v : Int} (hO : OK M) : OK (stM M 4 0 v) := ok_st hO (by decide +kernel) (by decide) (by decide) (by decide) (by decide)
theorem okf_6_1 {M : Mem} {v : Int} (hO : OK M) : OK (stM M 4 1 v) := ok_st hO (by decide +kernel) (by decide) (by decide) (by decide) (by decide)
theorem lay_6_2 {M : Mem} (hO : OK M) : M 4 2 = 5 := lay_at hO 4 2 5 (by decide +kernel)
theorem sh_6_2 : shp SH 5 = some (0, 150) := rfl
theorem lay_6_3 {M : Mem} (hO : OK M) : M 4 3 = 6 := lay_at hO 4 3 6 (by decide +kernel)
theorem sh_6_3 : shp SH 6 = some (0, 6) := rfl
theorem lay_6_4 {M : Mem} (hO : OK M) : M 4 4 = 7 := lay_at hO 4 4 7 (by decide +kernel)
theorem sh_6_4 : shp SH 7 = some (0, 5) := rfl
theorem lay_6_5 {M : Mem} (hO : OK M) : M 4 5 = 8 := lay_at hO 4 5 8 (by decide +kernel)
theorem sh_6_5 : shp SH 8 = some (2, 6) := rfl
theorem lay_6_6 {M : Mem} (hO : OK M) : M 4 6 = 9 := lay_at hO 4 6 9 (by decide +kernel)
theorem sh_6_6 : shp SH 9 = some (0, 30) := rfl
theorem lay_6_7 {M : Mem} (hO : OK M) : M 4 7 = 10 := lay_at hO 4 7 10 (by decide +kernel)
theorem sh_6_7 : shp SH 10 = some (0, 35) := rfl
theorem lay_6_8 {M : Mem} (hO : OK M) : M 4 8 = 11 := lay_at hO 4 8 11 (by decide +kernel)
theorem sh_6_8 : shp SH 11 = some (0, 6) := rfl
theorem okf_6_9 {M : Mem} {v : Int} (hO : OK M) : OK (stM M 4 9 v) := ok_st hO (by decide +kernel) (by decide) (by decide) (by decide) (by decide)
theorem okf_6_10 {M : Mem} {v : Int} (hO : OK M) : OK (stM M 4 10 v) := ok_st hO (by decide +kernel) (by decide) (by decide) (by decide) (by decide)
theorem lay_6_11 {M : Mem} (hO : OK M) : M 4 11 = 12 := lay_at hO 4 11 12 (by decide +kernel)
theorem sh_6_11 : shp SH 12 = some (0, 3) := rfl
theorem lay_7_0 {M : Mem} (hO : OK M) : M 0 0 = 22 := lay_at hO 0 0 22 (by decide +kernel)
theorem lay_7_1 {M : Mem} (hO : OK M) : M 0 1 = 41 := lay_at hO 0 1 41 (by decide +kernel)
theorem lay_7_2 {M : Mem} (hO : OK M) : M 0 2 = 60 := lay_at hO 0 2 60 (by decide +kernel)
theorem okf_7_3 {M : Mem} {v : Int} (hO : OK M) : OK (stM M 0 3 v) := ok_st hO (by decide +kernel) (by decide) (by decide) (by decide) (by decide)
theorem lay_7_4 {M : Mem} (hO : OK M) : M 0 4 = 1 := lay_at hO 0 4 1 (by decide +kernel)
theorem lay_7_5 {M : Mem} (hO : OK M) : M 0 5 = 3 := lay_at hO 0 5 3 (by decide +kernel)
theorem sh_7_5 : shp SH 3 = some (4, 6) := rfl
theorem okf_7_6 {M : Mem} {v : Int} (hO : OK M) : OK (stM M 0 6 v) := ok_st hO (by decide +kernel) (by decide) (by decide) (by decide) (by decide)
theorem lay_7_7 {M : Mem} (hO : OK M) : M 0 7 = 4 := lay_at hO 0 7 4 (by decide +kernel)
theorem lay_7_8 {M : Mem} (hO : OK M) : M 0 8 = 13 := lay_at hO 0 8 13 (by decide +kernel)
theorem lay_7_9 {M : Mem} (hO : OK M) : M 0 9 = 15 := lay_at hO 0 9 15 (by decide +kernel)
theorem sh_7_9 : shp SH 15 = some (5, 6) := rfl
theorem okf_8_0 {M : Mem} {v : Int} (hO : OK M) : OK (stM M 127 0 v) := ok_st hO (by decide +kernel) (by decide) (by decide) (by decide) (by decide)
theorem okf_8_1 {M : Mem} {v : Int} (hO : OK M) : OK (stM M 127 1 v) := ok_st hO (by decide +kernel) (by decide) (by decide) (by decide) (by decide)
theorem lay_8_2 {M : Mem} (hO : OK M) : M 127 2 = 128 := lay_at hO 127 2 128 (by decide +kernel)
theorem sh_8_2 : shp SH 128 = some (0, 6) := rfl
theorem lay_8_3 {M : Mem} (hO : OK M) : M 127 3 = 129 := lay_at hO 127 3 129 (by decide +kernel)
theorem sh_8_3 : shp SH 129 = some (0, 6) := rfl
theorem lay_8_4 {M : Mem} (hO : OK M) : M 127 4 = 130 := lay_at hO 127 4 130 (by decide +kernel)
theorem sh_8_4 : shp SH 130 = some (0, 6) := rfl
theorem lay_8_5 {M : Mem} (hO : OK M) : M 127 5 = 131 := lay_at hO 127 5 131 (by decide +kernel)
theorem sh_8_5 : shp SH 131 = some (0, 6) := rfl
theorem lay_8_6 {M : Mem} (hO : OK M) : M 127 6 = 132 := lay_at hO 127 6 132 (by decide +kernel)
theorem sh_8_6 : shp SH 132 = some (0, 24) := rfl
theorem okf_8_7 {M : Mem} {v : Int} (hO : OK M) : OK (stM M 127 7 v) := ok_st hO (by decide +kernel) (by decide) (by decide) (by decide) (by decide)
theorem okf_8_8 {M : Mem} {v : Int} (hO : OK M) : OK (stM M 127 8 v) := ok_st hO (by decide +kernel) (by decide) (by decide) (by decide) (by decide)
theorem okf_8_9 {M : Mem} {v : Int} (hO : OK M) : OK (stM M 127 9 v) := ok_st hO (by decide +kernel) (by decide) (by decide) (by decide) (by decide)
theorem okf_8_10 {M : Mem} {v : Int} (hO : OK M) : OK (stM M 127 10 v) := ok_st hO (by decide +kernel) (by decide) (by decide) (by decide) (by decide)
theorem okf_8_11 {M : Mem} {v : Int} (hO : OK M) : OK (stM M 127 11 v) := ok_st hO (by decide +kernel) (by decide) (by decide) (by decide) (by decide)
theorem lay_8_12 {M : Mem} (hO : OK M) : M 127 12 = 133 := lay_at hO 127 12 133 (by decide +kernel)
theorem sh_8_12 : shp SH 133 = some (0, 100) := rfl
theorem lay_8_13 {M : Mem} (hO : OK M) : M 127 13 = 134 := lay_at hO 127 13 134 (by decide +kernel)
theorem sh_8_13 : shp SH 134 = some (0, 6) := rfl
theorem lay_8_14 {M : Mem} (hO : OK M) : M 127 14 = 135 := lay_at hO 127 14 135 (by decide +kernel)
theorem sh_8_14 : shp SH 135 = some (0, 60) := rfl
theorem lay_8_15 {M : Mem} (hO : OK M) : M 127 15 = 136 := lay_at hO 127 15 136 (by decide +kernel)
theorem sh_8_15 : shp SH 136 = some (0, 60) := rfl
theorem lay_8_16 {M : Mem} (hO : OK M) : M 127 16 = 137 := lay_at hO 127 16 137 (by decide +kernel)
theorem sh_8_16 : shp SH 137 = some (0, 60) := rfl
theorem lay_8_17 {M : Mem} (hO : OK M) : M 127 17 = 138 := lay_at hO 127 17 138 (by decide +kernel)
theorem sh_8_17 : shp SH 138 = some (0, 60) := rfl
theorem lay_8_18 {M : Mem} (hO : OK M) : M 127 18 = 139 := lay_at hO 127 18 139 (by decide +kernel)
theorem sh_8_18 : shp SH 139 = some (0, 600) := rfl
theorem lay_8_19 {M : Mem} (hO : OK M) : M 127 19 = 140 := lay_at hO 127 19 140 (by decide +kernel)
theorem sh_8_19 : shp SH 140 = some (0, 101) := rfl
theorem okf_8_20 {M : Mem} {v : Int} (hO : OK M) : OK (stM M 127 20 v) := ok_st hO (by decide +kernel) (by decide) (by decide) (by decide) (by decide)
theorem okf_8_21 {M : Mem} {v : Int} (hO : OK M) : OK (stM M 127 21 v) := ok_st hO (by decide +kernel) (by decide) (by decide) (by decide) (by decide)
theorem okf_8_22 {M : Mem} {v : Int} (hO : OK M) : OK (stM M 127 22 v) := ok_st hO (by decide +kernel) (by decide) (by decide) (by decide) (by decide)
theorem lay_8_23 {M : Mem} (hO : OK M) : M 127 23 = 141 := lay_at hO 127 23 141 (by decide +kernel)
theorem sh_8_23 : shp SH 141 = some (0, 20) := rfl
theorem lay_8_24 {M : Mem} (hO : OK M) : M 127 24 = 142 := lay_at hO 127 24 142 (by decide +kernel)
theorem sh_8_24 : shp SH 142 = some (2, 100) := rfl
theorem lay_8_25 {M : Mem} (hO : OK M) : M 127 25 = 143 := lay_at hO 127 25 143 (by decide +kernel)
theorem sh_8_25 : shp SH 143 = some (0, 5) := rfl
theorem okf_8_26 {M : Mem} {v : Int} (hO : OK M) : OK (stM M 127 26 v) := ok_st hO (by decide +kernel) (by decide) (by decide) (by decide) (by decide)
theorem lay_8_27 {M : Mem} (hO : OK M) : M 127 27 = 144 := lay_at hO 127 27 144 (by decide +kernel)
theorem sh_8_27 : shp SH 144 = some (0, 6) := rfl
theorem lay_8_28 {M : Mem} (hO : OK M) : M 127 28 = 145 := lay_at hO 127 28 145 (by decide +kernel)
theorem sh_8_28 : shp SH 145 = some (0, 6) := rfl
theorem lay_8_29 {M : Mem} (hO : OK M) : M 127 29 = 146 := lay_at hO 127 29 146 (by decide +kernel)
theorem sh_8_29 : shp SH 146 = some (0, 150) := rfl
theorem lay_8_30 {M : Mem} (hO : OK M) : M 127 30 = 147 := lay_at hO 127 30 147 (by decide +kernel)
theorem sh_8_30 : shp SH 147 = some (0, 6) := rfl
theorem okf_8_31 {M : Mem} {v : Int} (hO : OK M) : OK (stM M 127 31 v) := ok_st hO (by decide +kernel) (by decide) (by decide) (by decide) (by decide)
theorem okf_8_32 {M : Mem} {v : Int} (hO : OK M) : OK (stM M 127 32 v) := ok_st hO (by decide +kernel) (by decide) (by decide) (by decide) (by decide)
theorem okf_8_33 {M : Mem} {v : Int} (hO : OK M) : OK (stM M 127 33 v) := ok_st hO (by decide +kernel) (by decide) (by decide) (by decide) (by decide)
theorem lay_8_34 {M : Mem} (hO : OK M) : M 127 34 = 148 := lay_at hO 127 34 148 (by decide +kernel)
theorem sh_8_34 : shp SH 148 = some (0, 5) := rfl
theorem lay_8_35 {M : Mem} (hO : OK M) : M 127 35 = 149 := lay_at hO 127 35 149 (by decide +kernel)
theorem sh_8_35 : shp SH 149 = some (0, 5) := rfl
theorem lay_8_36 {M : Mem} (hO : OK M) : M 127 36 = 150 := lay_at hO 127 36 150 (by decide +kernel)
theorem sh_8_36 : shp SH 150 = some (0, 5) := rfl
theorem okf_8_37 {M : Mem} {v : Int} (hO : OK M) : OK (stM M 127 37 v) := ok_st hO (by decide +kernel) (by decide) (by decide) (by decide) (by decide)
theorem okf_8_38 {M : Mem} {v : Int} (hO : OK M) : OK (stM M 127 38 v) := ok_st hO (by decide +kernel) (by decide) (by decide) (by decide) (by decide)
theorem lay_8_39 {M : Mem} (hO : OK M) : M 127 39 = 151 := lay_at hO 127 39 151 (by decide +kernel)
theorem sh_8_39 : shp SH 151 = some (0, 10) := rfl
theorem lay_8_40 {M : Mem} (hO : OK M) : M 127 40 = 152 := lay_at hO 127 40 152 (by decide +kernel)
theorem sh_8_40 : shp SH 152 = some (0, 10) := rfl
theorem lay_8_41 {M : Mem} (hO : OK M) : M 127 41 = 153 := lay_at hO 127 41 153 (by decide +kernel)
theorem sh_8_41 : shp SH 153 = some (0, 8) := rfl
theorem lay_8_42 {M : Mem} (hO : OK M) : M 127 42 = 154 := lay_at hO 127 42 154 (by decide +kernel)
theorem sh_8_42 : shp SH 154 = some (0, 8) := rfl
theorem okf_8_43 {M : Mem} {v : Int} (hO : OK M) : OK (stM M 127 43 v) := ok_st hO (by decide +kernel) (by decide) (by decide) (by decide) (by decide)
theorem okf_8_44 {M : Mem} {v : Int} (hO : OK M) : OK (stM M 127 44 v) := ok_st hO (by decide +kernel) (by decide) (by decide) (by decide) (by decide)
theorem okf_8_45 {M : Mem} {v : Int} (hO : OK M) : OK (stM M 127 45 v) := ok_st hO (by decide +kernel) (by decide) (by decide) (by decide) (by decide)
theorem okf_8_46 {M : Mem} {v : Int} (hO : OK M) : OK (stM M 127 46 v) := ok_st hO (by decide +kernel) (by decide) (by decide) (by decide) (by decide)
theorem okf_8_47 {M : Mem} {v : Int} (hO : OK M) : OK (stM M 127 47 v) := ok_st hO (by decide +kernel) (by decide) (by decide) (by decide) (by decide)
theorem okf_8_48 {M : Mem} {v : Int} (hO : OK M) : OK (stM M 127 48 v) := ok_st hO (by decide +kernel) (by decide) (by decide) (by decide) (by decide)
theorem okf_8_49 {M : Mem} {v : Int} (hO : OK M) : OK (stM M 127 49 v) := ok_st hO (by decide +kernel) (by decide) (by decide) (by decide) (by decide)
theorem lay_8_50 {M : Mem} (hO : OK M) : M 127 50 = 155 := lay_at hO 127 50 155 (by decide +kernel)
theorem sh_8_50 : shp SH 155 = some (0, 6) := rfl
theorem lay_8_51 {M : Mem} (hO : OK M) : M 127 51 = 156 := lay_at hO 127 51 156 (by decide +kernel)
theorem sh_8_51 : shp SH 156 = some (0, 6) := rfl
theorem lay_8_52 {M : Mem} (hO : OK M) : M 127 52 = 157 := lay_at hO 127 52 157 (by decide +kernel)
theorem sh_8_52 : shp SH 157 = some (0, 6) := rfl
theorem lay_8_53 {M : Mem} (hO : OK M) : M 127 53 = 158 := lay_at hO 127 53 158 (by decide +kernel)
theorem sh_8_53 : shp SH 158 = some (0, 6) := rfl
theorem lay_8_54 {M : Mem} (hO : OK M) : M 127 54 = 159 := lay_at hO 127 54 159 (by decide +kernel)
theorem sh_8_54 : shp SH 159 = some (0, 24) := rfl
theorem lay_8_55 {M : Mem} (hO : OK M) : M 127 55 = 160 := lay_at hO 127 55 160 (by decide +kernel)
theorem sh_8_55 : shp SH 160 = some (0, 5) := rfl
theorem lay_8_56 {M : Mem} (hO : OK M) : M 127 56 = 161 := lay_at hO 127 56 161 (by decide +kernel)
theorem sh_8_56 : shp SH 161 = some (0, 5) := rfl
theorem lay_8_57 {M : Mem} (hO : OK M) : M 127 57 = 162 := lay_at hO 127 57 162 (by decide +kernel)
theorem sh_8_57 : shp SH 162 = some (0, 5) := rfl
theorem lay_8_58 {M : Mem} (hO : OK M) : M 127 58 = 163 := lay_at hO 127 58 163 (by decide +kernel)
theorem sh_8_58 : shp SH 163 = some (0, 10) := rfl
theorem lay_8_59 {M : Mem} (hO : OK M) : M 127 59 = 164 := lay_at hO 127 59 164 (by decide +kernel)
theorem sh_8_59 : shp SH 164 = some (0, 10) := rfl
theorem lay_8_60 {M : Mem} (hO : OK M) : M 127 60 = 165 := lay_at hO 127 60 165 (by decide +kernel)
theorem sh_8_60 : shp SH 165 = some (0, 8) := rfl
theorem lay_8_61 {M : Mem} (hO : OK M) : M 127 61 = 166 := lay_at hO 127 61 166 (by decide +kernel)
theorem sh_8_61 : shp SH 166 = some (0, 8) := rfl
theorem okf_8_62 {M : Mem} {v : Int} (hO : OK M) : OK (stM M 127 62 v) := ok_st hO (by decide +kernel) (by decide) (by decide) (by decide) (by decide)
theorem lay_8_63 {M : Mem} (hO : OK M) : M 127 63 = 167 := lay_at hO 127 63 167 (by decide +kernel)
theorem sh_8_63 : shp SH 167 = some (0, 20) := rfl
theorem lay_8_64 {M : Mem} (hO : OK M) : M 127 64 = 168 := lay_at hO 127 64 168 (by decide +kernel)
theorem sh_8_64 : shp SH 168 = some (0, 6) := rfl
theorem lay_8_65 {M : Mem} (hO : OK M) : M 127 65 = 169 := lay_at hO 127 65 169 (by decide +kernel)
theorem sh_8_65 : shp SH 169 = some (0, 6) := rfl
theorem lay_8_66 {M : Mem} (hO : OK M) : M 127 66 = 170 := lay_at hO 127 66 170 (by decide +kernel)
theorem sh_8_66 : shp SH 170 = some (3, 360) := rfl
theorem lay_8_67 {M : Mem} (hO : OK M) : M 127 67 = 171 := lay_at hO 127 67 171 (by decide +kernel)
theorem sh_8_67 : shp SH 171 = some (3, 60) := rfl
theorem str_of {M : Mem} {o : Int} (hO : OK M) (h : isLot o) : isStr (M o 7) := by
  rcases h with rfl | rfl | rfl
  · exact hO.2.1
  · exact hO.2.2.1
  · exact hO.2.2.2.1
theorem made_of {M : Mem} (hO : OK M) (h : 0 ≤ M 1 3) : isStr (M 1 3) := by
  rcases hO.2.2.2.2 with e | e
  · omega
  · exact e
theorem str_pos {s : Int} (h : isStr s) : 0 ≤ s ∧ s < 1000000 := by
  rcases h with rfl | rfl | rfl | rfl | rfl | rfl | rfl <;> omega
theorem tp_pos {s : Int} (h : isTp s) : 0 ≤ s ∧ s < 1000000 := by
  rcases h with rfl | rfl | rfl | rfl | rfl | rfl <;> omega
theorem lot_pos {s : Int} (h : isLot s) : 0 ≤ s ∧ s < 1000000 := by
  rcases h with rfl | rfl | rfl <;> omega
theorem rw_pos {s : Int} (h : isRw s) : 0 ≤ s ∧ s < 1000000 := by
  rcases h with rfl | rfl | rfl | rfl | rfl | rfl | rfl | rfl | rfl <;> omega
theorem rwN_in (o : Int) : rwN o < 2147483648 := by
  unfold rwN
  repeat' split
  all_goals omega
theorem ok_street {M : Mem} {o s : Int} (hO : OK M) (h : isLot o) (hs : isStr s) : OK (stM M o 7 s) := by
  have key : ∀ a : Int, isStr (M a 7) → isStr (stM M o 7 s a 7) := fun a ha => by
    by_cases e : a = o
    · subst e; rw [stM_at, if_pos rfl]; exact hs
    · rw [stM_o (fun z => e z.1)]; exact ha
  refine ⟨fun e he => ?_, key _ hO.2.1, key _ hO.2.2.1, key _ hO.2.2.2.1, ?_⟩
  · have h0 : LAY.all (fun e => !((decide (e.1 = 22) || decide (e.1 = 41) || decide (e.1 = 60)) && decide (e.2.1 = 7))) = true := by decide +kernel
    have := List.all_eq_true.mp h0 e he
    rw [stM_o (fun z => by
      rw [z.1, z.2] at this
      rcases h with rfl | rfl | rfl <;> simp at this)]
    exact hO.1 e he
  · rw [stM_o (fun z => by rcases h with rfl | rfl | rfl <;> omega)]; exact hO.2.2.2.2
theorem ok_made {M : Mem} {s : Int} (hO : OK M) (hs : isStr s) : OK (stM M 1 3 s) := by
  refine ⟨fun e he => ?_, ?_, ?_, ?_, ?_⟩
  · have h0 : LAY.all (fun e => !(decide (e.1 = 1) && decide (e.2.1 = 3))) = true := by decide +kernel
    have := List.all_eq_true.mp h0 e he
    rw [stM_o (fun z => by rw [z.1, z.2] at this; simp at this)]
    exact hO.1 e he
  · rw [stM_o (by decide)]; exact hO.2.1
  · rw [stM_o (by decide)]; exact hO.2.2.1
  · rw [stM_o (by decide)]; exact hO.2.2.2.1
  · right; rw [stM_at, if_pos rfl]; exact hs
theorem street_at {M : Mem} (hO : OK M) {i : Int} (h0 : 0 ≤ i) (h1 : i < 6) : M 3 i = 79 + 6 * i ∧ isStr (79 + 6 * i) := by
  rcases (by omega : i = 0 ∨ i = 1 ∨ i = 2 ∨ i = 3 ∨ i = 4 ∨ i = 5) with rfl | rfl | rfl | rfl | rfl | rfl
  · exact ⟨lay_at hO 3 0 79 (by decide +kernel), p_3_79⟩
  · exact ⟨lay_at hO 3 1 85 (by decide +kernel), p_3_85⟩
  · exact ⟨lay_at hO 3 2 91 (by decide +kernel), p_3_91⟩
  · exact ⟨lay_at hO 3 3 97 (by decide +kernel), p_3_97⟩
  · exact ⟨lay_at hO 3 4 103 (by decide +kernel), p_3_103⟩
  · exact ⟨lay_at hO 3 5 109 (by decide +kernel), p_3_109⟩
theorem tape_at {M : Mem} (hO : OK M) {i : Int} (h0 : 0 ≤ i) (h1 : i < 6) : M 15 i = 115 + 2 * i ∧ isTp (115 + 2 * i) := by
  rcases (by omega : i = 0 ∨ i = 1 ∨ i = 2 ∨ i = 3 ∨ i = 4 ∨ i = 5) with rfl | rfl | rfl | rfl | rfl | rfl
  · exact ⟨lay_at hO 15 0 115 (by decide +kernel), p_4_115⟩
  · exact ⟨lay_at hO 15 1 117 (by decide +kernel), p_4_117⟩
  · exact ⟨lay_at hO 15 2 119 (by decide +kernel), p_4_119⟩
  · exact ⟨lay_at hO 15 3 121 (by decide +kernel), p_4_121⟩
  · exact ⟨lay_at hO 15 4 123 (by decide +kernel), p_4_123⟩
  · exact ⟨lay_at hO 15 5 125 (by decide +kernel), p_4_125⟩
