def f_X7_sound (p1 : Int) (p2 : Int) (p3 : Int) (p4 : Int) (M : Mem) : Option (Int × Mem) :=
  (f_X7_isIn p1 6 M).bind (fun q1 => if q1.1 = 0 then some ((-1), q1.2) else (f_X7_isHouse p4 q1.2).bind (fun q4 => if q4.1 = 0 then some ((-1), q4.2) else (f_X7_isIn p2 9 q4.2).bind (fun q7 => if q7.1 = 0 then some ((-2), q7.2) else (f_X7_isIn p3 99 q7.2).bind (fun q10 => if q10.1 = 0 then some ((-2), q10.2) else if q10.2 22 0 < 6 then (f_X1_come 22 p1 p2 p3 p4 q10.2).bind (fun q14 => some (q14.1, q14.2)) else some ((-4), q10.2)))))
set_option maxRecDepth 20000 in
set_option maxHeartbeats 4000000 in
theorem m_X7_sound {p1 : Int} {p2 : Int} {p3 : Int} {p4 : Int} {M : Mem} {res : Int × Mem} (hOM : OK M) (h : f_X7_sound p1 p2 p3 p4 M = some res) : Mth false yX7_sound cX7_sound 5 (some .int) 3 0 0 SH [aR 0, aI p1, aI p2, aI p3, aI p4] M (some (aI res.1)) SH res.2 (OK res.2) := by
  refine Mth.of (by decide +kernel) (Nat.le_of_ble_eq_true rfl) (fun K B C => ?_)
  show Wx K B _ 0 0 SH 5 M 0 [some (aR 0), some (aI p1), some (aI p2), some (aI p3), some (aI p4)] []
  unfold f_X7_sound at h
  refine mx_iload_n (pc := 0) C dX7_sound_0 rfl ?_
  refine mx_bipush (pc := 1) C dX7_sound_1 (z := 6) rfl (by constructor <;> decide) ?_
  obtain ⟨q1, hq1, h⟩ := of_bd h
  refine mc_S (pc := 3) (as := [aI p1, aI 6]) (rest := []) (stk2 := [aI q1.1]) C ⟨Nat.le_refl _, Nat.le_refl _⟩ (m_X7_isIn hOM hq1) mi_X7_isIn ms_X7_isIn ml_X7_61 (by omega) rfl (Nat.le_of_ble_eq_true rfl) dX7_sound_3 rfl (fun hp2 => ?_)
  have hOq1 : OK q1.2 := hp2.1
  refine mx_if_eq (pc := 6) (tgt := 17) C dX7_sound_6 rfl (fun c3 => ?_) (fun c3 => ?_)
  · rw [if_pos c3] at h
    refine mx_iconst (pc := 17) C dX7_sound_17 (z := (-1)) rfl (by constructor <;> decide) ?_
    rw [← Option.some.inj h]
    exact mx_ireturn (pc := 18) C dX7_sound_18 hOq1 ⟨Nat.le_refl _, Nat.le_refl _⟩
  · rw [if_neg c3] at h
    refine mx_iload (pc := 9) C dX7_sound_9 rfl ?_
    obtain ⟨q4, hq4, h⟩ := of_bd h
    refine mc_S (pc := 11) (as := [aI p4]) (rest := []) (stk2 := [aI q4.1]) C ⟨Nat.le_refl _, Nat.le_refl _⟩ (m_X7_isHouse hOq1 hq4) mi_X7_isHouse ms_X7_isHouse ml_X7_65 (by omega) rfl (Nat.le_of_ble_eq_true rfl) dX7_sound_11 rfl (fun hp5 => ?_)
    have hOq4 : OK q4.2 := hp5.1
    refine mx_if_ne (pc := 14) (tgt := 19) C dX7_sound_14 rfl (fun c6 => ?_) (fun c6 => ?_)
    · rw [if_neg c6] at h
      refine mx_iload_n (pc := 19) C dX7_sound_19 rfl ?_
      refine mx_bipush (pc := 20) C dX7_sound_20 (z := 9) rfl (by constructor <;> decide) ?_
      obtain ⟨q7, hq7, h⟩ := of_bd h
      refine mc_S (pc := 22) (as := [aI p2, aI 9]) (rest := []) (stk2 := [aI q7.1]) C ⟨Nat.le_refl _, Nat.le_refl _⟩ (m_X7_isIn hOq4 hq7) mi_X7_isIn ms_X7_isIn ml_X7_61 (by omega) rfl (Nat.le_of_ble_eq_true rfl) dX7_sound_22 rfl (fun hp8 => ?_)
      have hOq7 : OK q7.2 := hp8.1
      refine mx_if_eq (pc := 25) (tgt := 37) C dX7_sound_25 rfl (fun c9 => ?_) (fun c9 => ?_)
      · rw [if_pos c9] at h
        refine mx_bipush (pc := 37) C dX7_sound_37 (z := (-2)) rfl (by constructor <;> decide) ?_
        rw [← Option.some.inj h]
        exact mx_ireturn (pc := 39) C dX7_sound_39 hOq7 ⟨Nat.le_refl _, Nat.le_refl _⟩
      · rw [if_neg c9] at h
        refine mx_iload_n (pc := 28) C dX7_sound_28 rfl ?_
        refine mx_bipush (pc := 29) C dX7_sound_29 (z := 99) rfl (by constructor <;> decide) ?_
        obtain ⟨q10, hq10, h⟩ := of_bd h
        refine mc_S (pc := 31) (as := [aI p3, aI 99]) (rest := []) (stk2 := [aI q10.1]) C ⟨Nat.le_refl _, Nat.le_refl _⟩ (m_X7_isIn hOq7 hq10) mi_X7_isIn ms_X7_isIn ml_X7_61 (by omega) rfl (Nat.le_of_ble_eq_true rfl) dX7_sound_31 rfl (fun hp11 => ?_)
        have hOq10 : OK q10.2 := hp11.1
        refine mx_if_ne (pc := 34) (tgt := 40) C dX7_sound_34 rfl (fun c12 => ?_) (fun c12 => ?_)
        · rw [if_neg c12] at h
          refine mx_aload_n (pc := 40) C dX7_sound_40 rfl ?_
          refine mx_getR (pc := 41) (v := 22) C dX7_sound_41 so_7 ci_7 (k := 0) (by decide) fl_X7_50 rfl (q := 0) rfl (lay_7_0 hOq10) (by decide) ?_
          refine mx_getI (pc := 44) C dX7_sound_44 (so_1 p_1_22) ci_1 (k := 0) (by decide) fl_X7_69 rfl (q := 0) rfl ?_
          refine mx_bipush (pc := 47) C dX7_sound_47 (z := 6) rfl (by constructor <;> decide) ?_
          refine mx_icmp_lt (pc := 49) (tgt := 57) C dX7_sound_49 rfl (fun c13 => ?_) (fun c13 => ?_)
          · rw [if_pos c13] at h
            refine mx_aload_n (pc := 57) C dX7_sound_57 rfl ?_
            refine mx_getR (pc := 58) (v := 22) C dX7_sound_58 so_7 ci_7 (k := 0) (by decide) fl_X7_50 rfl (q := 0) rfl (lay_7_0 hOq10) (by decide) ?_
            refine mx_iload_n (pc := 61) C dX7_sound_61 rfl ?_
            refine mx_iload_n (pc := 62) C dX7_sound_62 rfl ?_
            refine mx_iload_n (pc := 63) C dX7_sound_63 rfl ?_
            refine mx_iload (pc := 64) C dX7_sound_64 rfl ?_
            obtain ⟨q14, hq14, h⟩ := of_bd h
            refine mc_V (pc := 66) (as := [aI p1, aI p2, aI p3, aI p4]) (rest := []) (stk2 := [aI q14.1]) C ⟨Nat.le_refl _, Nat.le_refl _⟩ (m_X1_come hOq10 p_1_22 hq14) mi_X1_come mv_X1_come ml_X7_73 ci_1 rfl (so_1 p_1_22) (by omega) rfl (Nat.le_of_ble_eq_true rfl) dX7_sound_66 rfl (fun hp15 => ?_)
            have hOq14 : OK q14.2 := hp15
            rw [← Option.some.inj h]
            exact mx_ireturn (pc := 69) C dX7_sound_69 hOq14 ⟨Nat.le_refl _, Nat.le_refl _⟩
          · rw [if_neg c13] at h
            refine mx_bipush (pc := 52) C dX7_sound_52 (z := (-4)) rfl (by constructor <;> decide) ?_
            refine mx_goto (pc := 54) (tgt := 69) C dX7_sound_54 rfl ?_
            rw [← Option.some.inj h]
            exact mx_ireturn (pc := 69) C dX7_sound_69 hOq10 ⟨Nat.le_refl _, Nat.le_refl _⟩
        · rw [if_pos c12] at h
          refine mx_bipush (pc := 37) C dX7_sound_37 (z := (-2)) rfl (by constructor <;> decide) ?_
          rw [← Option.some.inj h]
          exact mx_ireturn (pc := 39) C dX7_sound_39 hOq10 ⟨Nat.le_refl _, Nat.le_refl _⟩
    · rw [if_pos c6] at h
      refine mx_iconst (pc := 17) C dX7_sound_17 (z := (-1)) rfl (by constructor <;> decide) ?_
      rw [← Option.some.inj h]
      exact mx_ireturn (pc := 18) C dX7_sound_18 hOq4 ⟨Nat.le_refl _, Nat.le_refl _⟩

def f_X7_of (p1 : Int) (p2 : Int) (M : Mem) : Option (Int × Mem) :=
  (f_X1_has 22 p1 M).bind (fun q1 => if q1.1 = 0 then some ((-1001), q1.2) else (f_X7_isHouse (w32 (p2 - 10)) q1.2).bind (fun q4 => if q4.1 = 0 then (f_X7_isHouse (w32 (p2 - 20)) q4.2).bind (fun q7 => if q7.1 = 0 then if p2 = 0 then if 0 ≤ p1 ∧ p1 < 6 then some (q7.2 23 p1, q7.2) else none else if p2 = 1 then if 0 ≤ p1 ∧ p1 < 6 then some (q7.2 24 p1, q7.2) else none else if p2 = 2 then if 0 ≤ p1 ∧ p1 < 6 then some (q7.2 25 p1, q7.2) else none else if p2 = 3 then (f_X1_isLost 22 p1 q7.2).bind (fun q17 => if q17.1 = 0 then if 0 ≤ p1 ∧ p1 < 6 then some (q17.2 26 p1, q17.2) else none else some ((-5), q17.2)) else if p2 = 4 then (f_X1_wears 22 p1 q7.2).bind (fun q22 => some (q22.1, q22.2)) else some ((-1001), q7.2) else (f_X1_heardIn 22 p1 (w32 (p2 - 20)) q7.2).bind (fun q24 => some (q24.1, q24.2))) else (f_X1_isLost 22 p1 q4.2).bind (fun q26 => if q26.1 = 0 then (f_X1_voiceIn 22 p1 (w32 (p2 - 10)) q26.2).bind (fun q29 => some (q29.1, q29.2)) else some (0, q26.2))))
set_option maxRecDepth 20000 in
set_option maxHeartbeats 4000000 in
theorem m_X7_of {p1 : Int} {p2 : Int} {M : Mem} {res : Int × Mem} (hOM : OK M) (h : f_X7_of p1 p2 M = some res) : Mth false yX7_of cX7_of 3 (some .int) 4 0 0 SH [aR 0, aI p1, aI p2] M (some (aI res.1)) SH res.2 (OK res.2) := by
  refine Mth.of (by decide +kernel) (Nat.le_of_ble_eq_true rfl) (fun K B C => ?_)
  show Wx K B _ 0 0 SH 3 M 0 [some (aR 0), some (aI p1), some (aI p2)] []
  unfold f_X7_of at h
  refine mx_aload_n (pc := 0) C dX7_of_0 rfl ?_
  refine mx_getR (pc := 1) (v := 22) C dX7_of_1 so_7 ci_7 (k := 0) (by decide) fl_X7_50 rfl (q := 0) rfl (lay_7_0 hOM) (by decide) ?_
  refine mx_iload_n (pc := 4) C dX7_of_4 rfl ?_
  obtain ⟨q1, hq1, h⟩ := of_bd h
  refine mc_V (pc := 5) (as := [aI p1]) (rest := []) (stk2 := [aI q1.1]) C ⟨Nat.le_refl _, Nat.le_refl _⟩ (m_X1_has hOM p_1_22 hq1) mi_X1_has mv_X1_has ml_X7_77 ci_1 rfl (so_1 p_1_22) (by omega) rfl (Nat.le_of_ble_eq_true rfl) dX7_of_5 rfl (fun hp2 => ?_)
  have hOq1 : OK q1.2 := hp2.1
  refine mx_if_ne (pc := 8) (tgt := 15) C dX7_of_8 rfl (fun c3 => ?_) (fun c3 => ?_)
  · rw [if_neg c3] at h
    refine mx_iload_n (pc := 15) C dX7_of_15 rfl ?_
    refine mx_bipush (pc := 16) C dX7_of_16 (z := 10) rfl (by constructor <;> decide) ?_
    refine mx_isub (pc := 18) C dX7_of_18  ?_
    obtain ⟨q4, hq4, h⟩ := of_bd h
    refine mc_S (pc := 19) (as := [aI (w32 (p2 - 10))]) (rest := []) (stk2 := [aI q4.1]) C ⟨Nat.le_refl _, Nat.le_refl _⟩ (m_X7_isHouse hOq1 hq4) mi_X7_isHouse ms_X7_isHouse ml_X7_65 (by omega) rfl (Nat.le_of_ble_eq_true rfl) dX7_of_19 rfl (fun hp5 => ?_)
    have hOq4 : OK q4.2 := hp5.1
    refine mx_if_eq (pc := 22) (tgt := 53) C dX7_of_22 rfl (fun c6 => ?_) (fun c6 => ?_)
    · rw [if_pos c6] at h
      refine mx_iload_n (pc := 53) C dX7_of_53 rfl ?_
      refine mx_bipush (pc := 54) C dX7_of_54 (z := 20) rfl (by constructor <;> decide) ?_
      refine mx_isub (pc := 56) C dX7_of_56  ?_
      obtain ⟨q7, hq7, h⟩ := of_bd h
      refine mc_S (pc := 57) (as := [aI (w32 (p2 - 20))]) (rest := []) (stk2 := [aI q7.1]) C ⟨Nat.le_refl _, Nat.le_refl _⟩ (m_X7_isHouse hOq4 hq7) mi_X7_isHouse ms_X7_isHouse ml_X7_65 (by omega) rfl (Nat.le_of_ble_eq_true rfl) dX7_of_57 rfl (fun hp8 => ?_)
      have hOq7 : OK q7.2 := hp8.1
      refine mx_if_eq (pc := 60) (tgt := 76) C dX7_of_60 rfl (fun c9 => ?_) (fun c9 => ?_)
      · rw [if_pos c9] at h
        refine mx_iload_n (pc := 76) C dX7_of_76 rfl ?_
        by_cases c10 : p2 = 0
        · rw [if_pos c10] at h
          refine mx_tin (pc := 77) (tgt := 112) C 0 dX7_of_77 c10 (by decide) (by decide) rfl rfl ?_
          refine mx_aload_n (pc := 112) C dX7_of_112 rfl ?_
          refine mx_getR (pc := 113) (v := 22) C dX7_of_113 so_7 ci_7 (k := 0) (by decide) fl_X7_50 rfl (q := 0) rfl (lay_7_0 hOq7) (by decide) ?_
          refine mx_getR (pc := 116) (v := 23) C dX7_of_116 (so_1 p_1_22) ci_1 (k := 1) (by decide) fl_X7_90 rfl (q := 1) rfl ((lay_1_1 hOq7 p_1_22).trans (by decide)) (by have := lot_pos p_1_22; omega) ?_
          refine mx_iload_n (pc := 119) C dX7_of_119 rfl ?_
          obtain ⟨g11, h⟩ := of_gd h
          refine mx_iald (pc := 120) C dX7_of_120 (rfl : shp SH 23 = some (0, 6)) g11.1 g11.2 ?_
          rw [← Option.some.inj h]
          exact mx_ireturn (pc := 121) C dX7_of_121 hOq7 ⟨Nat.le_refl _, Nat.le_refl _⟩
        · rw [if_neg c10] at h
          by_cases c12 : p2 = 1
          · rw [if_pos c12] at h
            refine mx_tin (pc := 77) (tgt := 122) C 1 dX7_of_77 c12 (by decide) (by decide) rfl rfl ?_
            refine mx_aload_n (pc := 122) C dX7_of_122 rfl ?_
            refine mx_getR (pc := 123) (v := 22) C dX7_of_123 so_7 ci_7 (k := 0) (by decide) fl_X7_50 rfl (q := 0) rfl (lay_7_0 hOq7) (by decide) ?_
            refine mx_getR (pc := 126) (v := 24) C dX7_of_126 (so_1 p_1_22) ci_1 (k := 2) (by decide) fl_X7_94 rfl (q := 2) rfl ((lay_1_2 hOq7 p_1_22).trans (by decide)) (by have := lot_pos p_1_22; omega) ?_
            refine mx_iload_n (pc := 129) C dX7_of_129 rfl ?_
            obtain ⟨g13, h⟩ := of_gd h
            refine mx_iald (pc := 130) C dX7_of_130 (rfl : shp SH 24 = some (0, 6)) g13.1 g13.2 ?_
            rw [← Option.some.inj h]
            exact mx_ireturn (pc := 131) C dX7_of_131 hOq7 ⟨Nat.le_refl _, Nat.le_refl _⟩
          · rw [if_neg c12] at h
            by_cases c14 : p2 = 2
            · rw [if_pos c14] at h
              refine mx_tin (pc := 77) (tgt := 132) C 2 dX7_of_77 c14 (by decide) (by decide) rfl rfl ?_
              refine mx_aload_n (pc := 132) C dX7_of_132 rfl ?_
              refine mx_getR (pc := 133) (v := 22) C dX7_of_133 so_7 ci_7 (k := 0) (by decide) fl_X7_50 rfl (q := 0) rfl (lay_7_0 hOq7) (by decide) ?_
              refine mx_getR (pc := 136) (v := 25) C dX7_of_136 (so_1 p_1_22) ci_1 (k := 3) (by decide) fl_X7_97 rfl (q := 3) rfl ((lay_1_3 hOq7 p_1_22).trans (by decide)) (by have := lot_pos p_1_22; omega) ?_
              refine mx_iload_n (pc := 139) C dX7_of_139 rfl ?_
              obtain ⟨g15, h⟩ := of_gd h
              refine mx_iald (pc := 140) C dX7_of_140 (rfl : shp SH 25 = some (0, 6)) g15.1 g15.2 ?_
              rw [← Option.some.inj h]
              exact mx_ireturn (pc := 141) C dX7_of_141 hOq7 ⟨Nat.le_refl _, Nat.le_refl _⟩
            · rw [if_neg c14] at h
              by_cases c16 : p2 = 3
              · rw [if_pos c16] at h
                refine mx_tin (pc := 77) (tgt := 142) C 3 dX7_of_77 c16 (by decide) (by decide) rfl rfl ?_
                refine mx_aload_n (pc := 142) C dX7_of_142 rfl ?_
                refine mx_getR (pc := 143) (v := 22) C dX7_of_143 so_7 ci_7 (k := 0) (by decide) fl_X7_50 rfl (q := 0) rfl (lay_7_0 hOq7) (by decide) ?_
                refine mx_iload_n (pc := 146) C dX7_of_146 rfl ?_
                obtain ⟨q17, hq17, h⟩ := of_bd h
                refine mc_V (pc := 147) (as := [aI p1]) (rest := []) (stk2 := [aI q17.1]) C ⟨Nat.le_refl _, Nat.le_refl _⟩ (m_X1_isLost hOq7 p_1_22 hq17) mi_X1_isLost mv_X1_isLost ml_X7_80 ci_1 rfl (so_1 p_1_22) (by omega) rfl (Nat.le_of_ble_eq_true rfl) dX7_of_147 rfl (fun hp18 => ?_)
                have hOq17 : OK q17.2 := hp18.1
                refine mx_if_eq (pc := 150) (tgt := 158) C dX7_of_150 rfl (fun c19 => ?_) (fun c19 => ?_)
                · rw [if_pos c19] at h
                  refine mx_aload_n (pc := 158) C dX7_of_158 rfl ?_
                  refine mx_getR (pc := 159) (v := 22) C dX7_of_159 so_7 ci_7 (k := 0) (by decide) fl_X7_50 rfl (q := 0) rfl (lay_7_0 hOq17) (by decide) ?_
                  refine mx_getR (pc := 162) (v := 26) C dX7_of_162 (so_1 p_1_22) ci_1 (k := 4) (by decide) fl_X7_100 rfl (q := 4) rfl ((lay_1_4 hOq17 p_1_22).trans (by decide)) (by have := lot_pos p_1_22; omega) ?_
                  refine mx_iload_n (pc := 165) C dX7_of_165 rfl ?_
                  obtain ⟨g20, h⟩ := of_gd h
                  refine mx_iald (pc := 166) C dX7_of_166 (rfl : shp SH 26 = some (0, 6)) g20.1 g20.2 ?_
                  rw [← Option.some.inj h]
                  exact mx_ireturn (pc := 167) C dX7_of_167 hOq17 ⟨Nat.le_refl _, Nat.le_refl _⟩
                · rw [if_neg c19] at h
                  refine mx_bipush (pc := 153) C dX7_of_153 (z := (-5)) rfl (by constructor <;> decide) ?_
                  refine mx_goto (pc := 155) (tgt := 167) C dX7_of_155 rfl ?_
                  rw [← Option.some.inj h]
                  exact mx_ireturn (pc := 167) C dX7_of_167 hOq17 ⟨Nat.le_refl _, Nat.le_refl _⟩
              · rw [if_neg c16] at h
                by_cases c21 : p2 = 4
                · rw [if_pos c21] at h
                  refine mx_tin (pc := 77) (tgt := 168) C 4 dX7_of_77 c21 (by decide) (by decide) rfl rfl ?_
                  refine mx_aload_n (pc := 168) C dX7_of_168 rfl ?_
                  refine mx_getR (pc := 169) (v := 22) C dX7_of_169 so_7 ci_7 (k := 0) (by decide) fl_X7_50 rfl (q := 0) rfl (lay_7_0 hOq7) (by decide) ?_
                  refine mx_iload_n (pc := 172) C dX7_of_172 rfl ?_
                  obtain ⟨q22, hq22, h⟩ := of_bd h
                  refine mc_V (pc := 173) (as := [aI p1]) (rest := []) (stk2 := [aI q22.1]) C ⟨Nat.le_refl _, Nat.le_refl _⟩ (m_X1_wears hOq7 p_1_22 hq22) mi_X1_wears mv_X1_wears ml_X7_103 ci_1 rfl (so_1 p_1_22) (by omega) rfl (Nat.le_of_ble_eq_true rfl) dX7_of_173 rfl (fun hp23 => ?_)
                  have hOq22 : OK q22.2 := hp23
                  rw [← Option.some.inj h]
                  exact mx_ireturn (pc := 176) C dX7_of_176 hOq22 ⟨Nat.le_refl _, Nat.le_refl _⟩
                · rw [if_neg c21] at h
                  refine mx_tout (pc := 77) (tgt := 177) C dX7_of_77 (by omega) rfl ?_
                  refine mx_sipush (pc := 177) C dX7_of_177 (z := (-1001)) rfl (by constructor <;> decide) ?_
                  rw [← Option.some.inj h]
                  exact mx_ireturn (pc := 180) C dX7_of_180 hOq7 ⟨Nat.le_refl _, Nat.le_refl _⟩
      · rw [if_neg c9] at h
        refine mx_aload_n (pc := 63) C dX7_of_63 rfl ?_
        refine mx_getR (pc := 64) (v := 22) C dX7_of_64 so_7 ci_7 (k := 0) (by decide) fl_X7_50 rfl (q := 0) rfl (lay_7_0 hOq7) (by decide) ?_
        refine mx_iload_n (pc := 67) C dX7_of_67 rfl ?_
        refine mx_iload_n (pc := 68) C dX7_of_68 rfl ?_
        refine mx_bipush (pc := 69) C dX7_of_69 (z := 20) rfl (by constructor <;> decide) ?_
        refine mx_isub (pc := 71) C dX7_of_71  ?_
        obtain ⟨q24, hq24, h⟩ := of_bd h
        refine mc_V (pc := 72) (as := [aI p1, aI (w32 (p2 - 20))]) (rest := []) (stk2 := [aI q24.1]) C ⟨Nat.le_refl _, Nat.le_refl _⟩ (m_X1_heardIn hOq7 p_1_22 hq24) mi_X1_heardIn mv_X1_heardIn ml_X7_87 ci_1 rfl (so_1 p_1_22) (by omega) rfl (Nat.le_of_ble_eq_true rfl) dX7_of_72 rfl (fun hp25 => ?_)
        have hOq24 : OK q24.2 := hp25
        rw [← Option.some.inj h]
        exact mx_ireturn (pc := 75) C dX7_of_75 hOq24 ⟨Nat.le_refl _, Nat.le_refl _⟩
    · rw [if_neg c6] at h
      refine mx_aload_n (pc := 25) C dX7_of_25 rfl ?_
      refine mx_getR (pc := 26) (v := 22) C dX7_of_26 so_7 ci_7 (k := 0) (by decide) fl_X7_50 rfl (q := 0) rfl (lay_7_0 hOq4) (by decide) ?_
      refine mx_iload_n (pc := 29) C dX7_of_29 rfl ?_
      obtain ⟨q26, hq26, h⟩ := of_bd h
      refine mc_V (pc := 30) (as := [aI p1]) (rest := []) (stk2 := [aI q26.1]) C ⟨Nat.le_refl _, Nat.le_refl _⟩ (m_X1_isLost hOq4 p_1_22 hq26) mi_X1_isLost mv_X1_isLost ml_X7_80 ci_1 rfl (so_1 p_1_22) (by omega) rfl (Nat.le_of_ble_eq_true rfl) dX7_of_30 rfl (fun hp27 => ?_)
      have hOq26 : OK q26.2 := hp27.1
      refine mx_if_eq (pc := 33) (tgt := 40) C dX7_of_33 rfl (fun c28 => ?_) (fun c28 => ?_)
      · rw [if_pos c28] at h
        refine mx_aload_n (pc := 40) C dX7_of_40 rfl ?_
        refine mx_getR (pc := 41) (v := 22) C dX7_of_41 so_7 ci_7 (k := 0) (by decide) fl_X7_50 rfl (q := 0) rfl (lay_7_0 hOq26) (by decide) ?_
        refine mx_iload_n (pc := 44) C dX7_of_44 rfl ?_
        refine mx_iload_n (pc := 45) C dX7_of_45 rfl ?_
        refine mx_bipush (pc := 46) C dX7_of_46 (z := 10) rfl (by constructor <;> decide) ?_
        refine mx_isub (pc := 48) C dX7_of_48  ?_
        obtain ⟨q29, hq29, h⟩ := of_bd h
        refine mc_V (pc := 49) (as := [aI p1, aI (w32 (p2 - 10))]) (rest := []) (stk2 := [aI q29.1]) C ⟨Nat.le_refl _, Nat.le_refl _⟩ (m_X1_voiceIn hOq26 p_1_22 hq29) mi_X1_voiceIn mv_X1_voiceIn ml_X7_83 ci_1 rfl (so_1 p_1_22) (by omega) rfl (Nat.le_of_ble_eq_true rfl) dX7_of_49 rfl (fun hp30 => ?_)
        have hOq29 : OK q29.2 := hp30
        rw [← Option.some.inj h]
        exact mx_ireturn (pc := 52) C dX7_of_52 hOq29 ⟨Nat.le_refl _, Nat.le_refl _⟩
      · rw [if_neg c28] at h
        refine mx_iconst (pc := 36) C dX7_of_36 (z := 0) rfl (by constructor <;> decide) ?_
        refine mx_goto (pc := 37) (tgt := 52) C dX7_of_37 rfl ?_
        rw [← Option.some.inj h]
        exact mx_ireturn (pc := 52) C dX7_of_52 hOq26 ⟨Nat.le_refl _, Nat.le_refl _⟩
  · rw [if_pos c3] at h
    refine mx_sipush (pc := 11) C dX7_of_11 (z := (-1001)) rfl (by constructor <;> decide) ?_
    rw [← Option.some.inj h]
    exact mx_ireturn (pc := 14) C dX7_of_14 hOq1 ⟨Nat.le_refl _, Nat.le_refl _⟩

def f_X7_set (p1 : Int) (p2 : Int) (M : Mem) : Option (Int × Mem) :=
  (f_X1_has 22 p1 M).bind (fun q1 => if q1.1 = 0 then some ((-1), q1.2) else (f_X7_isIn p2 99 q1.2).bind (fun q4 => if q4.1 = 0 then some ((-2), q4.2) else if 0 ≤ p1 ∧ p1 < 6 then if 0 ≤ p1 ∧ p1 < 6 then lt (stM q4.2 25 p1 p2) (fun M9 => some (q4.2 25 p1, M9)) else none else none))
set_option maxRecDepth 20000 in
set_option maxHeartbeats 4000000 in
theorem m_X7_set {p1 : Int} {p2 : Int} {M : Mem} {res : Int × Mem} (hOM : OK M) (h : f_X7_set p1 p2 M = some res) : Mth false yX7_set cX7_set 4 (some .int) 2 0 0 SH [aR 0, aI p1, aI p2] M (some (aI res.1)) SH res.2 (OK res.2) := by
  refine Mth.of (by decide +kernel) (Nat.le_of_ble_eq_true rfl) (fun K B C => ?_)
  show Wx K B _ 0 0 SH 4 M 0 [some (aR 0), some (aI p1), some (aI p2), none] []
  unfold f_X7_set at h
  refine mx_aload_n (pc := 0) C dX7_set_0 rfl ?_
  refine mx_getR (pc := 1) (v := 22) C dX7_set_1 so_7 ci_7 (k := 0) (by decide) fl_X7_50 rfl (q := 0) rfl (lay_7_0 hOM) (by decide) ?_
  refine mx_iload_n (pc := 4) C dX7_set_4 rfl ?_
  obtain ⟨q1, hq1, h⟩ := of_bd h
  refine mc_V (pc := 5) (as := [aI p1]) (rest := []) (stk2 := [aI q1.1]) C ⟨Nat.le_refl _, Nat.le_refl _⟩ (m_X1_has hOM p_1_22 hq1) mi_X1_has mv_X1_has ml_X7_77 ci_1 rfl (so_1 p_1_22) (by omega) rfl (Nat.le_of_ble_eq_true rfl) dX7_set_5 rfl (fun hp2 => ?_)
  have hOq1 : OK q1.2 := hp2.1
  refine mx_if_ne (pc := 8) (tgt := 13) C dX7_set_8 rfl (fun c3 => ?_) (fun c3 => ?_)
  · rw [if_neg c3] at h
    refine mx_iload_n (pc := 13) C dX7_set_13 rfl ?_
    refine mx_bipush (pc := 14) C dX7_set_14 (z := 99) rfl (by constructor <;> decide) ?_
    obtain ⟨q4, hq4, h⟩ := of_bd h
    refine mc_S (pc := 16) (as := [aI p2, aI 99]) (rest := []) (stk2 := [aI q4.1]) C ⟨Nat.le_refl _, Nat.le_refl _⟩ (m_X7_isIn hOq1 hq4) mi_X7_isIn ms_X7_isIn ml_X7_61 (by omega) rfl (Nat.le_of_ble_eq_true rfl) dX7_set_16 rfl (fun hp5 => ?_)
    have hOq4 : OK q4.2 := hp5.1
    refine mx_if_ne (pc := 19) (tgt := 25) C dX7_set_19 rfl (fun c6 => ?_) (fun c6 => ?_)
    · rw [if_neg c6] at h
      refine mx_aload_n (pc := 25) C dX7_set_25 rfl ?_
      refine mx_getR (pc := 26) (v := 22) C dX7_set_26 so_7 ci_7 (k := 0) (by decide) fl_X7_50 rfl (q := 0) rfl (lay_7_0 hOq4) (by decide) ?_
      refine mx_getR (pc := 29) (v := 25) C dX7_set_29 (so_1 p_1_22) ci_1 (k := 3) (by decide) fl_X7_97 rfl (q := 3) rfl ((lay_1_3 hOq4 p_1_22).trans (by decide)) (by have := lot_pos p_1_22; omega) ?_
      refine mx_iload_n (pc := 32) C dX7_set_32 rfl ?_
      obtain ⟨g7, h⟩ := of_gd h
      refine mx_iald (pc := 33) C dX7_set_33 (rfl : shp SH 25 = some (0, 6)) g7.1 g7.2 ?_
      refine mx_istore_n (pc := 34) C dX7_set_34 (ls' := [some (aR 0), some (aI p1), some (aI p2), some (aI (q4.2 25 p1))]) (by decide) rfl rfl ?_
      refine mx_aload_n (pc := 35) C dX7_set_35 rfl ?_
      refine mx_getR (pc := 36) (v := 22) C dX7_set_36 so_7 ci_7 (k := 0) (by decide) fl_X7_50 rfl (q := 0) rfl (lay_7_0 hOq4) (by decide) ?_
      refine mx_getR (pc := 39) (v := 25) C dX7_set_39 (so_1 p_1_22) ci_1 (k := 3) (by decide) fl_X7_97 rfl (q := 3) rfl ((lay_1_3 hOq4 p_1_22).trans (by decide)) (by have := lot_pos p_1_22; omega) ?_
      refine mx_iload_n (pc := 42) C dX7_set_42 rfl ?_
      refine mx_iload_n (pc := 43) C dX7_set_43 rfl ?_
      obtain ⟨g8, h⟩ := of_gd h
      refine mx_iast (pc := 44) C dX7_set_44 (rfl : shp SH 25 = some (0, 6)) g8.1 g8.2 ?_
      generalize hmM9 : stM q4.2 25 p1 p2 = M9 at h ⊢
      replace h := lt_e h
      have hOM9 : OK M9 := by rw [← hmM9]; exact ok_arr hOq4 (rfl : shp SH 25 = some (0, 6)) (by decide)
      refine mx_iload_n (pc := 45) C dX7_set_45 rfl ?_
      rw [← Option.some.inj h]
      exact mx_ireturn (pc := 46) C dX7_set_46 hOM9 ⟨Nat.le_refl _, Nat.le_refl _⟩
    · rw [if_pos c6] at h
      refine mx_bipush (pc := 22) C dX7_set_22 (z := (-2)) rfl (by constructor <;> decide) ?_
      rw [← Option.some.inj h]
      exact mx_ireturn (pc := 24) C dX7_set_24 hOq4 ⟨Nat.le_refl _, Nat.le_refl _⟩
  · rw [if_pos c3] at h
    refine mx_iconst (pc := 11) C dX7_set_11 (z := (-1)) rfl (by constructor <;> decide) ?_
    rw [← Option.some.inj h]
    exact mx_ireturn (pc := 12) C dX7_set_12 hOq1 ⟨Nat.le_refl _, Nat.le_refl _⟩

def f_X7_pass (p1 : Int) (p2 : Int) (M : Mem) : Option (Int × Mem) :=
  (f_X1_has 22 p1 M).bind (fun q1 => if q1.1 = 0 then some ((-1), q1.2) else (f_X7_isHouse p2 q1.2).bind (fun q4 => if q4.1 = 0 then some ((-1), q4.2) else (f_X1_isLost 22 p1 q4.2).bind (fun q7 => if q7.1 = 0 then if 0 ≤ p1 ∧ p1 < 6 then if ab32 (w32 ((q7.2 26 p1) - p2)) = 1 then if 0 ≤ p1 ∧ p1 < 6 then lt (stM q7.2 26 p1 p2) (fun M13 => (f_X1_noiseOf 22 p2 M13).bind (fun q14 => some (q14.1, q14.2))) else none else some ((-3), q7.2) else none else some ((-3), q7.2))))
set_option maxRecDepth 20000 in
set_option maxHeartbeats 4000000 in
theorem m_X7_pass {p1 : Int} {p2 : Int} {M : Mem} {res : Int × Mem} (hOM : OK M) (h : f_X7_pass p1 p2 M = some res) : Mth false yX7_pass cX7_pass 3 (some .int) 5 0 0 SH [aR 0, aI p1, aI p2] M (some (aI res.1)) SH res.2 (OK res.2) := by
  refine Mth.of (by decide +kernel) (Nat.le_of_ble_eq_true rfl) (fun K B C => ?_)
  show Wx K B _ 0 0 SH 3 M 0 [some (aR 0), some (aI p1), some (aI p2)] []
  unfold f_X7_pass at h
  refine mx_aload_n (pc := 0) C dX7_pass_0 rfl ?_
  refine mx_getR (pc := 1) (v := 22) C dX7_pass_1 so_7 ci_7 (k := 0) (by decide) fl_X7_50 rfl (q := 0) rfl (lay_7_0 hOM) (by decide) ?_
  refine mx_iload_n (pc := 4) C dX7_pass_4 rfl ?_
  obtain ⟨q1, hq1, h⟩ := of_bd h
  refine mc_V (pc := 5) (as := [aI p1]) (rest := []) (stk2 := [aI q1.1]) C ⟨Nat.le_refl _, Nat.le_refl _⟩ (m_X1_has hOM p_1_22 hq1) mi_X1_has mv_X1_has ml_X7_77 ci_1 rfl (so_1 p_1_22) (by omega) rfl (Nat.le_of_ble_eq_true rfl) dX7_pass_5 rfl (fun hp2 => ?_)
  have hOq1 : OK q1.2 := hp2.1
  refine mx_if_eq (pc := 8) (tgt := 18) C dX7_pass_8 rfl (fun c3 => ?_) (fun c3 => ?_)
  · rw [if_pos c3] at h
    refine mx_iconst (pc := 18) C dX7_pass_18 (z := (-1)) rfl (by constructor <;> decide) ?_
    rw [← Option.some.inj h]
    exact mx_ireturn (pc := 19) C dX7_pass_19 hOq1 ⟨Nat.le_refl _, Nat.le_refl _⟩
  · rw [if_neg c3] at h
    refine mx_iload_n (pc := 11) C dX7_pass_11 rfl ?_
    obtain ⟨q4, hq4, h⟩ := of_bd h
    refine mc_S (pc := 12) (as := [aI p2]) (rest := []) (stk2 := [aI q4.1]) C ⟨Nat.le_refl _, Nat.le_refl _⟩ (m_X7_isHouse hOq1 hq4) mi_X7_isHouse ms_X7_isHouse ml_X7_65 (by omega) rfl (Nat.le_of_ble_eq_true rfl) dX7_pass_12 rfl (fun hp5 => ?_)
    have hOq4 : OK q4.2 := hp5.1
    refine mx_if_ne (pc := 15) (tgt := 20) C dX7_pass_15 rfl (fun c6 => ?_) (fun c6 => ?_)
    · rw [if_neg c6] at h
      refine mx_aload_n (pc := 20) C dX7_pass_20 rfl ?_
      refine mx_getR (pc := 21) (v := 22) C dX7_pass_21 so_7 ci_7 (k := 0) (by decide) fl_X7_50 rfl (q := 0) rfl (lay_7_0 hOq4) (by decide) ?_
      refine mx_iload_n (pc := 24) C dX7_pass_24 rfl ?_
      obtain ⟨q7, hq7, h⟩ := of_bd h
      refine mc_V (pc := 25) (as := [aI p1]) (rest := []) (stk2 := [aI q7.1]) C ⟨Nat.le_refl _, Nat.le_refl _⟩ (m_X1_isLost hOq4 p_1_22 hq7) mi_X1_isLost mv_X1_isLost ml_X7_80 ci_1 rfl (so_1 p_1_22) (by omega) rfl (Nat.le_of_ble_eq_true rfl) dX7_pass_25 rfl (fun hp8 => ?_)
      have hOq7 : OK q7.2 := hp8.1
      refine mx_if_ne (pc := 28) (tgt := 49) C dX7_pass_28 rfl (fun c9 => ?_) (fun c9 => ?_)
      · rw [if_neg c9] at h
        refine mx_bipush (pc := 49) C dX7_pass_49 (z := (-3)) rfl (by constructor <;> decide) ?_
        rw [← Option.some.inj h]
        exact mx_ireturn (pc := 51) C dX7_pass_51 hOq7 ⟨Nat.le_refl _, Nat.le_refl _⟩
      · rw [if_pos c9] at h
        refine mx_aload_n (pc := 31) C dX7_pass_31 rfl ?_
        refine mx_getR (pc := 32) (v := 22) C dX7_pass_32 so_7 ci_7 (k := 0) (by decide) fl_X7_50 rfl (q := 0) rfl (lay_7_0 hOq7) (by decide) ?_
        refine mx_getR (pc := 35) (v := 26) C dX7_pass_35 (so_1 p_1_22) ci_1 (k := 4) (by decide) fl_X7_100 rfl (q := 4) rfl ((lay_1_4 hOq7 p_1_22).trans (by decide)) (by have := lot_pos p_1_22; omega) ?_
        refine mx_iload_n (pc := 38) C dX7_pass_38 rfl ?_
        obtain ⟨g10, h⟩ := of_gd h
        refine mx_iald (pc := 39) C dX7_pass_39 (rfl : shp SH 26 = some (0, 6)) g10.1 g10.2 ?_
        refine mx_iload_n (pc := 40) C dX7_pass_40 rfl ?_
        refine mx_isub (pc := 41) C dX7_pass_41  ?_
        refine mx_abs (pc := 42) C ⟨Nat.le_refl _, Nat.le_refl _⟩ (by omega) (Nat.le_of_ble_eq_true rfl) ml_X7_107 dX7_pass_42 ?_
        refine mx_iconst (pc := 45) C dX7_pass_45 (z := 1) rfl (by constructor <;> decide) ?_
        refine mx_icmp_eq (pc := 46) (tgt := 52) C dX7_pass_46 rfl (fun c11 => ?_) (fun c11 => ?_)
        · rw [if_pos c11] at h
          refine mx_aload_n (pc := 52) C dX7_pass_52 rfl ?_
          refine mx_getR (pc := 53) (v := 22) C dX7_pass_53 so_7 ci_7 (k := 0) (by decide) fl_X7_50 rfl (q := 0) rfl (lay_7_0 hOq7) (by decide) ?_
          refine mx_getR (pc := 56) (v := 26) C dX7_pass_56 (so_1 p_1_22) ci_1 (k := 4) (by decide) fl_X7_100 rfl (q := 4) rfl ((lay_1_4 hOq7 p_1_22).trans (by decide)) (by have := lot_pos p_1_22; omega) ?_
          refine mx_iload_n (pc := 59) C dX7_pass_59 rfl ?_
          refine mx_iload_n (pc := 60) C dX7_pass_60 rfl ?_
          obtain ⟨g12, h⟩ := of_gd h
          refine mx_iast (pc := 61) C dX7_pass_61 (rfl : shp SH 26 = some (0, 6)) g12.1 g12.2 ?_
          generalize hmM13 : stM q7.2 26 p1 p2 = M13 at h ⊢
          replace h := lt_e h
          have hOM13 : OK M13 := by rw [← hmM13]; exact ok_arr hOq7 (rfl : shp SH 26 = some (0, 6)) (by decide)
          refine mx_aload_n (pc := 62) C dX7_pass_62 rfl ?_
          refine mx_getR (pc := 63) (v := 22) C dX7_pass_63 so_7 ci_7 (k := 0) (by decide) fl_X7_50 rfl (q := 0) rfl (lay_7_0 hOM13) (by decide) ?_
          refine mx_iload_n (pc := 66) C dX7_pass_66 rfl ?_
          obtain ⟨q14, hq14, h⟩ := of_bd h
          refine mc_V (pc := 67) (as := [aI p2]) (rest := []) (stk2 := [aI q14.1]) C ⟨Nat.le_refl _, Nat.le_refl _⟩ (m_X1_noiseOf hOM13 p_1_22 hq14) mi_X1_noiseOf mv_X1_noiseOf ml_X7_112 ci_1 rfl (so_1 p_1_22) (by omega) rfl (Nat.le_of_ble_eq_true rfl) dX7_pass_67 rfl (fun hp15 => ?_)
          have hOq14 : OK q14.2 := hp15
          rw [← Option.some.inj h]
          exact mx_ireturn (pc := 70) C dX7_pass_70 hOq14 ⟨Nat.le_refl _, Nat.le_refl _⟩
        · rw [if_neg c11] at h
          refine mx_bipush (pc := 49) C dX7_pass_49 (z := (-3)) rfl (by constructor <;> decide) ?_
          rw [← Option.some.inj h]
          exact mx_ireturn (pc := 51) C dX7_pass_51 hOq7 ⟨Nat.le_refl _, Nat.le_refl _⟩
    · rw [if_pos c6] at h
      refine mx_iconst (pc := 18) C dX7_pass_18 (z := (-1)) rfl (by constructor <;> decide) ?_
      rw [← Option.some.inj h]
      exact mx_ireturn (pc := 19) C dX7_pass_19 hOq4 ⟨Nat.le_refl _, Nat.le_refl _⟩

def f_X7_lose (p1 : Int) (M : Mem) : Option (Int × Mem) :=
  (f_X1_has 22 p1 M).bind (fun q1 => if q1.1 = 0 then some ((-1), q1.2) else (f_X1_isLost 22 p1 q1.2).bind (fun q4 => if q4.1 = 0 then if 0 ≤ p1 ∧ p1 < 6 then if 0 ≤ p1 ∧ p1 < 6 then lt (stM q4.2 26 p1 (-1)) (fun M9 => some (q4.2 26 p1, M9)) else none else none else some ((-3), q4.2)))
set_option maxRecDepth 20000 in
set_option maxHeartbeats 4000000 in
theorem m_X7_lose {p1 : Int} {M : Mem} {res : Int × Mem} (hOM : OK M) (h : f_X7_lose p1 M = some res) : Mth false yX7_lose cX7_lose 3 (some .int) 2 0 0 SH [aR 0, aI p1] M (some (aI res.1)) SH res.2 (OK res.2) := by
  refine Mth.of (by decide +kernel) (Nat.le_of_ble_eq_true rfl) (fun K B C => ?_)
  show Wx K B _ 0 0 SH 3 M 0 [some (aR 0), some (aI p1), none] []
  unfold f_X7_lose at h
  refine mx_aload_n (pc := 0) C dX7_lose_0 rfl ?_
  refine mx_getR (pc := 1) (v := 22) C dX7_lose_1 so_7 ci_7 (k := 0) (by decide) fl_X7_50 rfl (q := 0) rfl (lay_7_0 hOM) (by decide) ?_
  refine mx_iload_n (pc := 4) C dX7_lose_4 rfl ?_
  obtain ⟨q1, hq1, h⟩ := of_bd h
  refine mc_V (pc := 5) (as := [aI p1]) (rest := []) (stk2 := [aI q1.1]) C ⟨Nat.le_refl _, Nat.le_refl _⟩ (m_X1_has hOM p_1_22 hq1) mi_X1_has mv_X1_has ml_X7_77 ci_1 rfl (so_1 p_1_22) (by omega) rfl (Nat.le_of_ble_eq_true rfl) dX7_lose_5 rfl (fun hp2 => ?_)
  have hOq1 : OK q1.2 := hp2.1
  refine mx_if_ne (pc := 8) (tgt := 13) C dX7_lose_8 rfl (fun c3 => ?_) (fun c3 => ?_)
  · rw [if_neg c3] at h
    refine mx_aload_n (pc := 13) C dX7_lose_13 rfl ?_
    refine mx_getR (pc := 14) (v := 22) C dX7_lose_14 so_7 ci_7 (k := 0) (by decide) fl_X7_50 rfl (q := 0) rfl (lay_7_0 hOq1) (by decide) ?_
    refine mx_iload_n (pc := 17) C dX7_lose_17 rfl ?_
    obtain ⟨q4, hq4, h⟩ := of_bd h
    refine mc_V (pc := 18) (as := [aI p1]) (rest := []) (stk2 := [aI q4.1]) C ⟨Nat.le_refl _, Nat.le_refl _⟩ (m_X1_isLost hOq1 p_1_22 hq4) mi_X1_isLost mv_X1_isLost ml_X7_80 ci_1 rfl (so_1 p_1_22) (by omega) rfl (Nat.le_of_ble_eq_true rfl) dX7_lose_18 rfl (fun hp5 => ?_)
    have hOq4 : OK q4.2 := hp5.1
    refine mx_if_eq (pc := 21) (tgt := 27) C dX7_lose_21 rfl (fun c6 => ?_) (fun c6 => ?_)
    · rw [if_pos c6] at h
      refine mx_aload_n (pc := 27) C dX7_lose_27 rfl ?_
      refine mx_getR (pc := 28) (v := 22) C dX7_lose_28 so_7 ci_7 (k := 0) (by decide) fl_X7_50 rfl (q := 0) rfl (lay_7_0 hOq4) (by decide) ?_
      refine mx_getR (pc := 31) (v := 26) C dX7_lose_31 (so_1 p_1_22) ci_1 (k := 4) (by decide) fl_X7_100 rfl (q := 4) rfl ((lay_1_4 hOq4 p_1_22).trans (by decide)) (by have := lot_pos p_1_22; omega) ?_
      refine mx_iload_n (pc := 34) C dX7_lose_34 rfl ?_
      obtain ⟨g7, h⟩ := of_gd h
      refine mx_iald (pc := 35) C dX7_lose_35 (rfl : shp SH 26 = some (0, 6)) g7.1 g7.2 ?_
      refine mx_istore_n (pc := 36) C dX7_lose_36 (ls' := [some (aR 0), some (aI p1), some (aI (q4.2 26 p1))]) (by decide) rfl rfl ?_
      refine mx_aload_n (pc := 37) C dX7_lose_37 rfl ?_
      refine mx_getR (pc := 38) (v := 22) C dX7_lose_38 so_7 ci_7 (k := 0) (by decide) fl_X7_50 rfl (q := 0) rfl (lay_7_0 hOq4) (by decide) ?_
      refine mx_getR (pc := 41) (v := 26) C dX7_lose_41 (so_1 p_1_22) ci_1 (k := 4) (by decide) fl_X7_100 rfl (q := 4) rfl ((lay_1_4 hOq4 p_1_22).trans (by decide)) (by have := lot_pos p_1_22; omega) ?_
      refine mx_iload_n (pc := 44) C dX7_lose_44 rfl ?_
      refine mx_iconst (pc := 45) C dX7_lose_45 (z := (-1)) rfl (by constructor <;> decide) ?_
      obtain ⟨g8, h⟩ := of_gd h
      refine mx_iast (pc := 46) C dX7_lose_46 (rfl : shp SH 26 = some (0, 6)) g8.1 g8.2 ?_
      generalize hmM9 : stM q4.2 26 p1 (-1) = M9 at h ⊢
      replace h := lt_e h
      have hOM9 : OK M9 := by rw [← hmM9]; exact ok_arr hOq4 (rfl : shp SH 26 = some (0, 6)) (by decide)
      refine mx_iload_n (pc := 47) C dX7_lose_47 rfl ?_
      rw [← Option.some.inj h]
      exact mx_ireturn (pc := 48) C dX7_lose_48 hOM9 ⟨Nat.le_refl _, Nat.le_refl _⟩
    · rw [if_neg c6] at h
      refine mx_bipush (pc := 24) C dX7_lose_24 (z := (-3)) rfl (by constructor <;> decide) ?_
      rw [← Option.some.inj h]
      exact mx_ireturn (pc := 26) C dX7_lose_26 hOq4 ⟨Nat.le_refl _, Nat.le_refl _⟩
  · rw [if_pos c3] at h
    refine mx_iconst (pc := 11) C dX7_lose_11 (z := (-1)) rfl (by constructor <;> decide) ?_
    rw [← Option.some.inj h]
    exact mx_ireturn (pc := 12) C dX7_lose_12 hOq1 ⟨Nat.le_refl _, Nat.le_refl _⟩

def f_X7_find (p1 : Int) (p2 : Int) (M : Mem) : Option (Int × Mem) :=
  (f_X1_has 22 p1 M).bind (fun q1 => if q1.1 = 0 then some ((-1), q1.2) else (f_X7_isHouse p2 q1.2).bind (fun q4 => if q4.1 = 0 then some ((-1), q4.2) else (f_X1_isLost 22 p1 q4.2).bind (fun q7 => if q7.1 = 0 then some ((-3), q7.2) else if 0 ≤ p1 ∧ p1 < 6 then lt (stM q7.2 26 p1 p2) (fun M11 => (f_X1_noiseOf 22 p2 M11).bind (fun q12 => some (q12.1, q12.2))) else none)))
set_option maxRecDepth 20000 in
set_option maxHeartbeats 4000000 in
theorem m_X7_find {p1 : Int} {p2 : Int} {M : Mem} {res : Int × Mem} (hOM : OK M) (h : f_X7_find p1 p2 M = some res) : Mth false yX7_find cX7_find 3 (some .int) 5 0 0 SH [aR 0, aI p1, aI p2] M (some (aI res.1)) SH res.2 (OK res.2) := by
  refine Mth.of (by decide +kernel) (Nat.le_of_ble_eq_true rfl) (fun K B C => ?_)
  show Wx K B _ 0 0 SH 3 M 0 [some (aR 0), some (aI p1), some (aI p2)] []
  unfold f_X7_find at h
  refine mx_aload_n (pc := 0) C dX7_find_0 rfl ?_
  refine mx_getR (pc := 1) (v := 22) C dX7_find_1 so_7 ci_7 (k := 0) (by decide) fl_X7_50 rfl (q := 0) rfl (lay_7_0 hOM) (by decide) ?_
  refine mx_iload_n (pc := 4) C dX7_find_4 rfl ?_
  obtain ⟨q1, hq1, h⟩ := of_bd h
  refine mc_V (pc := 5) (as := [aI p1]) (rest := []) (stk2 := [aI q1.1]) C ⟨Nat.le_refl _, Nat.le_refl _⟩ (m_X1_has hOM p_1_22 hq1) mi_X1_has mv_X1_has ml_X7_77 ci_1 rfl (so_1 p_1_22) (by omega) rfl (Nat.le_of_ble_eq_true rfl) dX7_find_5 rfl (fun hp2 => ?_)
  have hOq1 : OK q1.2 := hp2.1
  refine mx_if_eq (pc := 8) (tgt := 18) C dX7_find_8 rfl (fun c3 => ?_) (fun c3 => ?_)
  · rw [if_pos c3] at h
    refine mx_iconst (pc := 18) C dX7_find_18 (z := (-1)) rfl (by constructor <;> decide) ?_
    rw [← Option.some.inj h]
    exact mx_ireturn (pc := 19) C dX7_find_19 hOq1 ⟨Nat.le_refl _, Nat.le_refl _⟩
  · rw [if_neg c3] at h
    refine mx_iload_n (pc := 11) C dX7_find_11 rfl ?_
    obtain ⟨q4, hq4, h⟩ := of_bd h
    refine mc_S (pc := 12) (as := [aI p2]) (rest := []) (stk2 := [aI q4.1]) C ⟨Nat.le_refl _, Nat.le_refl _⟩ (m_X7_isHouse hOq1 hq4) mi_X7_isHouse ms_X7_isHouse ml_X7_65 (by omega) rfl (Nat.le_of_ble_eq_true rfl) dX7_find_12 rfl (fun hp5 => ?_)
    have hOq4 : OK q4.2 := hp5.1
    refine mx_if_ne (pc := 15) (tgt := 20) C dX7_find_15 rfl (fun c6 => ?_) (fun c6 => ?_)
    · rw [if_neg c6] at h
      refine mx_aload_n (pc := 20) C dX7_find_20 rfl ?_
      refine mx_getR (pc := 21) (v := 22) C dX7_find_21 so_7 ci_7 (k := 0) (by decide) fl_X7_50 rfl (q := 0) rfl (lay_7_0 hOq4) (by decide) ?_
      refine mx_iload_n (pc := 24) C dX7_find_24 rfl ?_
      obtain ⟨q7, hq7, h⟩ := of_bd h
      refine mc_V (pc := 25) (as := [aI p1]) (rest := []) (stk2 := [aI q7.1]) C ⟨Nat.le_refl _, Nat.le_refl _⟩ (m_X1_isLost hOq4 p_1_22 hq7) mi_X1_isLost mv_X1_isLost ml_X7_80 ci_1 rfl (so_1 p_1_22) (by omega) rfl (Nat.le_of_ble_eq_true rfl) dX7_find_25 rfl (fun hp8 => ?_)
      have hOq7 : OK q7.2 := hp8.1
      refine mx_if_ne (pc := 28) (tgt := 34) C dX7_find_28 rfl (fun c9 => ?_) (fun c9 => ?_)
      · rw [if_neg c9] at h
        refine mx_aload_n (pc := 34) C dX7_find_34 rfl ?_
        refine mx_getR (pc := 35) (v := 22) C dX7_find_35 so_7 ci_7 (k := 0) (by decide) fl_X7_50 rfl (q := 0) rfl (lay_7_0 hOq7) (by decide) ?_
        refine mx_getR (pc := 38) (v := 26) C dX7_find_38 (so_1 p_1_22) ci_1 (k := 4) (by decide) fl_X7_100 rfl (q := 4) rfl ((lay_1_4 hOq7 p_1_22).trans (by decide)) (by have := lot_pos p_1_22; omega) ?_
        refine mx_iload_n (pc := 41) C dX7_find_41 rfl ?_
        refine mx_iload_n (pc := 42) C dX7_find_42 rfl ?_
        obtain ⟨g10, h⟩ := of_gd h
        refine mx_iast (pc := 43) C dX7_find_43 (rfl : shp SH 26 = some (0, 6)) g10.1 g10.2 ?_
        generalize hmM11 : stM q7.2 26 p1 p2 = M11 at h ⊢
        replace h := lt_e h
        have hOM11 : OK M11 := by rw [← hmM11]; exact ok_arr hOq7 (rfl : shp SH 26 = some (0, 6)) (by decide)
        refine mx_aload_n (pc := 44) C dX7_find_44 rfl ?_
        refine mx_getR (pc := 45) (v := 22) C dX7_find_45 so_7 ci_7 (k := 0) (by decide) fl_X7_50 rfl (q := 0) rfl (lay_7_0 hOM11) (by decide) ?_
        refine mx_iload_n (pc := 48) C dX7_find_48 rfl ?_
        obtain ⟨q12, hq12, h⟩ := of_bd h
        refine mc_V (pc := 49) (as := [aI p2]) (rest := []) (stk2 := [aI q12.1]) C ⟨Nat.le_refl _, Nat.le_refl _⟩ (m_X1_noiseOf hOM11 p_1_22 hq12) mi_X1_noiseOf mv_X1_noiseOf ml_X7_112 ci_1 rfl (so_1 p_1_22) (by omega) rfl (Nat.le_of_ble_eq_true rfl) dX7_find_49 rfl (fun hp13 => ?_)
        have hOq12 : OK q12.2 := hp13
        rw [← Option.some.inj h]
        exact mx_ireturn (pc := 52) C dX7_find_52 hOq12 ⟨Nat.le_refl _, Nat.le_refl _⟩
      · rw [if_pos c9] at h
        refine mx_bipush (pc := 31) C dX7_find_31 (z := (-3)) rfl (by constructor <;> decide) ?_
        rw [← Option.some.inj h]
        exact mx_ireturn (pc := 33) C dX7_find_33 hOq7 ⟨Nat.le_refl _, Nat.le_refl _⟩
    · rw [if_pos c6] at h
      refine mx_iconst (pc := 18) C dX7_find_18 (z := (-1)) rfl (by constructor <;> decide) ?_
      rw [← Option.some.inj h]
      exact mx_ireturn (pc := 19) C dX7_find_19 hOq4 ⟨Nat.le_refl _, Nat.le_refl _⟩

def f_X7_row (p1 : Int) (p2 : Int) (p3 : Int) (M : Mem) : Option (Int × Mem) :=
  (f_X1_has 22 p1 M).bind (fun q1 => if q1.1 = 0 then some ((-1), q1.2) else (f_X7_isIn p2 3 q1.2).bind (fun q4 => if q4.1 = 0 then some ((-1), q4.2) else (f_X7_isIn p3 9 q4.2).bind (fun q7 => if q7.1 = 0 then some ((-2), q7.2) else if 0 ≤ p1 ∧ p1 < 6 then if q7.2 23 p1 = 6 then if 0 ≤ w32 ((w32 (p1 * 4)) + p2) ∧ w32 ((w32 (p1 * 4)) + p2) < 24 then if 0 ≤ w32 ((w32 (p1 * 4)) + p2) ∧ w32 ((w32 (p1 * 4)) + p2) < 24 then lt (stM q7.2 27 (w32 ((w32 (p1 * 4)) + p2)) p3) (fun M14 => some (q7.2 27 (w32 ((w32 (p1 * 4)) + p2)), M14)) else none else none else some ((-3), q7.2) else none)))
set_option maxRecDepth 20000 in
set_option maxHeartbeats 4000000 in
theorem m_X7_row {p1 : Int} {p2 : Int} {p3 : Int} {M : Mem} {res : Int × Mem} (hOM : OK M) (h : f_X7_row p1 p2 p3 M = some res) : Mth false yX7_row cX7_row 6 (some .int) 2 0 0 SH [aR 0, aI p1, aI p2, aI p3] M (some (aI res.1)) SH res.2 (OK res.2) := by
  refine Mth.of (by decide +kernel) (Nat.le_of_ble_eq_true rfl) (fun K B C => ?_)
  show Wx K B _ 0 0 SH 6 M 0 [some (aR 0), some (aI p1), some (aI p2), some (aI p3), none, none] []
  unfold f_X7_row at h
  refine mx_aload_n (pc := 0) C dX7_row_0 rfl ?_
  refine mx_getR (pc := 1) (v := 22) C dX7_row_1 so_7 ci_7 (k := 0) (by decide) fl_X7_50 rfl (q := 0) rfl (lay_7_0 hOM) (by decide) ?_
  refine mx_iload_n (pc := 4) C dX7_row_4 rfl ?_
  obtain ⟨q1, hq1, h⟩ := of_bd h
  refine mc_V (pc := 5) (as := [aI p1]) (rest := []) (stk2 := [aI q1.1]) C ⟨Nat.le_refl _, Nat.le_refl _⟩ (m_X1_has hOM p_1_22 hq1) mi_X1_has mv_X1_has ml_X7_77 ci_1 rfl (so_1 p_1_22) (by omega) rfl (Nat.le_of_ble_eq_true rfl) dX7_row_5 rfl (fun hp2 => ?_)
  have hOq1 : OK q1.2 := hp2.1
  refine mx_if_eq (pc := 8) (tgt := 19) C dX7_row_8 rfl (fun c3 => ?_) (fun c3 => ?_)
  · rw [if_pos c3] at h
    refine mx_iconst (pc := 19) C dX7_row_19 (z := (-1)) rfl (by constructor <;> decide) ?_
    rw [← Option.some.inj h]
    exact mx_ireturn (pc := 20) C dX7_row_20 hOq1 ⟨Nat.le_refl _, Nat.le_refl _⟩
  · rw [if_neg c3] at h
    refine mx_iload_n (pc := 11) C dX7_row_11 rfl ?_
    refine mx_iconst (pc := 12) C dX7_row_12 (z := 3) rfl (by constructor <;> decide) ?_
    obtain ⟨q4, hq4, h⟩ := of_bd h
    refine mc_S (pc := 13) (as := [aI p2, aI 3]) (rest := []) (stk2 := [aI q4.1]) C ⟨Nat.le_refl _, Nat.le_refl _⟩ (m_X7_isIn hOq1 hq4) mi_X7_isIn ms_X7_isIn ml_X7_61 (by omega) rfl (Nat.le_of_ble_eq_true rfl) dX7_row_13 rfl (fun hp5 => ?_)
    have hOq4 : OK q4.2 := hp5.1
    refine mx_if_ne (pc := 16) (tgt := 21) C dX7_row_16 rfl (fun c6 => ?_) (fun c6 => ?_)
    · rw [if_neg c6] at h
      refine mx_iload_n (pc := 21) C dX7_row_21 rfl ?_
      refine mx_bipush (pc := 22) C dX7_row_22 (z := 9) rfl (by constructor <;> decide) ?_
      obtain ⟨q7, hq7, h⟩ := of_bd h
      refine mc_S (pc := 24) (as := [aI p3, aI 9]) (rest := []) (stk2 := [aI q7.1]) C ⟨Nat.le_refl _, Nat.le_refl _⟩ (m_X7_isIn hOq4 hq7) mi_X7_isIn ms_X7_isIn ml_X7_61 (by omega) rfl (Nat.le_of_ble_eq_true rfl) dX7_row_24 rfl (fun hp8 => ?_)
      have hOq7 : OK q7.2 := hp8.1
      refine mx_if_ne (pc := 27) (tgt := 33) C dX7_row_27 rfl (fun c9 => ?_) (fun c9 => ?_)
      · rw [if_neg c9] at h
        refine mx_aload_n (pc := 33) C dX7_row_33 rfl ?_
        refine mx_getR (pc := 34) (v := 22) C dX7_row_34 so_7 ci_7 (k := 0) (by decide) fl_X7_50 rfl (q := 0) rfl (lay_7_0 hOq7) (by decide) ?_
        refine mx_getR (pc := 37) (v := 23) C dX7_row_37 (so_1 p_1_22) ci_1 (k := 1) (by decide) fl_X7_90 rfl (q := 1) rfl ((lay_1_1 hOq7 p_1_22).trans (by decide)) (by have := lot_pos p_1_22; omega) ?_
        refine mx_iload_n (pc := 40) C dX7_row_40 rfl ?_
        obtain ⟨g10, h⟩ := of_gd h
        refine mx_iald (pc := 41) C dX7_row_41 (rfl : shp SH 23 = some (0, 6)) g10.1 g10.2 ?_
        refine mx_bipush (pc := 42) C dX7_row_42 (z := 6) rfl (by constructor <;> decide) ?_
        refine mx_icmp_eq (pc := 44) (tgt := 50) C dX7_row_44 rfl (fun c11 => ?_) (fun c11 => ?_)
        · rw [if_pos c11] at h
          refine mx_iload_n (pc := 50) C dX7_row_50 rfl ?_
          refine mx_iconst (pc := 51) C dX7_row_51 (z := 4) rfl (by constructor <;> decide) ?_
          refine mx_imul (pc := 52) C dX7_row_52  ?_
          refine mx_iload_n (pc := 53) C dX7_row_53 rfl ?_
          refine mx_iadd (pc := 54) C dX7_row_54  ?_
          refine mx_istore (pc := 55) C dX7_row_55 (ls' := [some (aR 0), some (aI p1), some (aI p2), some (aI p3), some (aI (w32 ((w32 (p1 * 4)) + p2))), none]) (by decide) rfl rfl ?_
          refine mx_aload_n (pc := 57) C dX7_row_57 rfl ?_
          refine mx_getR (pc := 58) (v := 22) C dX7_row_58 so_7 ci_7 (k := 0) (by decide) fl_X7_50 rfl (q := 0) rfl (lay_7_0 hOq7) (by decide) ?_
          refine mx_getR (pc := 61) (v := 27) C dX7_row_61 (so_1 p_1_22) ci_1 (k := 5) (by decide) fl_X7_115 rfl (q := 5) rfl ((lay_1_5 hOq7 p_1_22).trans (by decide)) (by have := lot_pos p_1_22; omega) ?_
          refine mx_iload (pc := 64) C dX7_row_64 rfl ?_
          obtain ⟨g12, h⟩ := of_gd h
          refine mx_iald (pc := 66) C dX7_row_66 (rfl : shp SH 27 = some (0, 24)) g12.1 g12.2 ?_
          refine mx_istore (pc := 67) C dX7_row_67 (ls' := [some (aR 0), some (aI p1), some (aI p2), some (aI p3), some (aI (w32 ((w32 (p1 * 4)) + p2))), some (aI (q7.2 27 (w32 ((w32 (p1 * 4)) + p2))))]) (by decide) rfl rfl ?_
          refine mx_aload_n (pc := 69) C dX7_row_69 rfl ?_
          refine mx_getR (pc := 70) (v := 22) C dX7_row_70 so_7 ci_7 (k := 0) (by decide) fl_X7_50 rfl (q := 0) rfl (lay_7_0 hOq7) (by decide) ?_
          refine mx_getR (pc := 73) (v := 27) C dX7_row_73 (so_1 p_1_22) ci_1 (k := 5) (by decide) fl_X7_115 rfl (q := 5) rfl ((lay_1_5 hOq7 p_1_22).trans (by decide)) (by have := lot_pos p_1_22; omega) ?_
          refine mx_iload (pc := 76) C dX7_row_76 rfl ?_
          refine mx_iload_n (pc := 78) C dX7_row_78 rfl ?_
          obtain ⟨g13, h⟩ := of_gd h
          refine mx_iast (pc := 79) C dX7_row_79 (rfl : shp SH 27 = some (0, 24)) g13.1 g13.2 ?_
          generalize hmM14 : stM q7.2 27 (w32 ((w32 (p1 * 4)) + p2)) p3 = M14 at h ⊢
          replace h := lt_e h
          have hOM14 : OK M14 := by rw [← hmM14]; exact ok_arr hOq7 (rfl : shp SH 27 = some (0, 24)) (by decide)
          refine mx_iload (pc := 80) C dX7_row_80 rfl ?_
          rw [← Option.some.inj h]
          exact mx_ireturn (pc := 82) C dX7_row_82 hOM14 ⟨Nat.le_refl _, Nat.le_refl _⟩
        · rw [if_neg c11] at h
          refine mx_bipush (pc := 47) C dX7_row_47 (z := (-3)) rfl (by constructor <;> decide) ?_
          rw [← Option.some.inj h]
          exact mx_ireturn (pc := 49) C dX7_row_49 hOq7 ⟨Nat.le_refl _, Nat.le_refl _⟩
      · rw [if_pos c9] at h
        refine mx_bipush (pc := 30) C dX7_row_30 (z := (-2)) rfl (by constructor <;> decide) ?_
        rw [← Option.some.inj h]
        exact mx_ireturn (pc := 32) C dX7_row_32 hOq7 ⟨Nat.le_refl _, Nat.le_refl _⟩
    · rw [if_pos c6] at h
      refine mx_iconst (pc := 19) C dX7_row_19 (z := (-1)) rfl (by constructor <;> decide) ?_
      rw [← Option.some.inj h]
      exact mx_ireturn (pc := 20) C dX7_row_20 hOq4 ⟨Nat.le_refl _, Nat.le_refl _⟩

def f_X7_feed (p1 : Int) (M : Mem) : Option (Int × Mem) :=
  (f_X7_isIn p1 127 M).bind (fun q1 => if q1.1 = 0 then some ((-2), q1.2) else if q1.2 1 1 < 100 then (f_X5_grow (w8 p1) q1.2).bind (fun q5 => some (q5.1, q5.2)) else some ((-4), q1.2))
set_option maxRecDepth 20000 in
set_option maxHeartbeats 4000000 in
theorem m_X7_feed {p1 : Int} {M : Mem} {res : Int × Mem} (hOM : OK M) (h : f_X7_feed p1 M = some res) : Mth false yX7_feed cX7_feed 2 (some .int) 2 0 0 SH [aR 0, aI p1] M (some (aI res.1)) SH res.2 (OK res.2) := by
  refine Mth.of (by decide +kernel) (Nat.le_of_ble_eq_true rfl) (fun K B C => ?_)
  show Wx K B _ 0 0 SH 2 M 0 [some (aR 0), some (aI p1)] []
  unfold f_X7_feed at h
  refine mx_iload_n (pc := 0) C dX7_feed_0 rfl ?_
  refine mx_bipush (pc := 1) C dX7_feed_1 (z := 127) rfl (by constructor <;> decide) ?_
  obtain ⟨q1, hq1, h⟩ := of_bd h
  refine mc_S (pc := 3) (as := [aI p1, aI 127]) (rest := []) (stk2 := [aI q1.1]) C ⟨Nat.le_refl _, Nat.le_refl _⟩ (m_X7_isIn hOM hq1) mi_X7_isIn ms_X7_isIn ml_X7_61 (by omega) rfl (Nat.le_of_ble_eq_true rfl) dX7_feed_3 rfl (fun hp2 => ?_)
  have hOq1 : OK q1.2 := hp2.1
  refine mx_if_ne (pc := 6) (tgt := 12) C dX7_feed_6 rfl (fun c3 => ?_) (fun c3 => ?_)
  · rw [if_neg c3] at h
    refine mx_aload_n (pc := 12) C dX7_feed_12 rfl ?_
    refine mx_getR (pc := 13) (v := 1) C dX7_feed_13 so_7 ci_7 (k := 4) (by decide) fl_X7_14 rfl (q := 4) rfl (lay_7_4 hOq1) (by decide) ?_
    refine mx_getI (pc := 16) C dX7_feed_16 so_5 ci_5 (k := 1) (by decide) fl_X7_118 rfl (q := 1) rfl ?_
    refine mx_bipush (pc := 19) C dX7_feed_19 (z := 100) rfl (by constructor <;> decide) ?_
    refine mx_icmp_lt (pc := 21) (tgt := 29) C dX7_feed_21 rfl (fun c4 => ?_) (fun c4 => ?_)
    · rw [if_pos c4] at h
      refine mx_aload_n (pc := 29) C dX7_feed_29 rfl ?_
      refine mx_getR (pc := 30) (v := 1) C dX7_feed_30 so_7 ci_7 (k := 4) (by decide) fl_X7_14 rfl (q := 4) rfl (lay_7_4 hOq1) (by decide) ?_
      refine mx_iload_n (pc := 33) C dX7_feed_33 rfl ?_
      refine mx_i2b (pc := 34) C dX7_feed_34  ?_
      obtain ⟨q5, hq5, h⟩ := of_bd h
      refine mc_V (pc := 35) (as := [aI (w8 p1)]) (rest := []) (stk2 := [aI q5.1]) C ⟨Nat.le_refl _, Nat.le_refl _⟩ (m_X5_grow hOq1 hq5) mi_X5_grow mv_X5_grow ml_X7_121 ci_5 rfl so_5 (by omega) rfl (Nat.le_of_ble_eq_true rfl) dX7_feed_35 rfl (fun hp6 => ?_)
      have hOq5 : OK q5.2 := hp6
      rw [← Option.some.inj h]
      exact mx_ireturn (pc := 38) C dX7_feed_38 hOq5 ⟨Nat.le_refl _, Nat.le_refl _⟩
    · rw [if_neg c4] at h
      refine mx_bipush (pc := 24) C dX7_feed_24 (z := (-4)) rfl (by constructor <;> decide) ?_
      refine mx_goto (pc := 26) (tgt := 38) C dX7_feed_26 rfl ?_
      rw [← Option.some.inj h]
      exact mx_ireturn (pc := 38) C dX7_feed_38 hOq1 ⟨Nat.le_refl _, Nat.le_refl _⟩
  · rw [if_pos c3] at h
    refine mx_bipush (pc := 9) C dX7_feed_9 (z := (-2)) rfl (by constructor <;> decide) ?_
    rw [← Option.some.inj h]
    exact mx_ireturn (pc := 11) C dX7_feed_11 hOq1 ⟨Nat.le_refl _, Nat.le_refl _⟩

def f_X7_street (M : Mem) : Option (Int × Mem) :=
  if M 0 6 < 6 then if 0 ≤ M 0 6 ∧ M 0 6 < 6 then (f_X5_makes (79 + 6 * (M 0 6)) M).bind (fun q3 => lt (stM q3.2 1 1 0) (fun M5 => if q3.1 = 0 then some (w32 ((-10) - (M5 1 2)), M5) else lt (stM M5 22 7 (79 + 6 * (M 0 6))) (fun M7 => lt (stM M7 0 6 (w32 ((M7 0 6) + 1))) (fun M8 => some (w32 ((M8 0 6) - 1), M8))))) else none else some ((-4), M)
set_option maxRecDepth 20000 in
set_option maxHeartbeats 4000000 in
theorem m_X7_street {M : Mem} {res : Int × Mem} (hOM : OK M) (h : f_X7_street M = some res) : Mth false yX7_street cX7_street 3 (some .int) 79 0 0 SH [aR 0] M (some (aI res.1)) SH res.2 (OK res.2) := by
  refine Mth.of (by decide +kernel) (Nat.le_of_ble_eq_true rfl) (fun K B C => ?_)
  show Wx K B _ 0 0 SH 3 M 0 [some (aR 0), none, none] []
  unfold f_X7_street at h
  refine mx_aload_n (pc := 0) C dX7_street_0 rfl ?_
  refine mx_getI (pc := 1) C dX7_street_1 so_7 ci_7 (k := 6) (by decide) fl_X7_125 rfl (q := 6) rfl ?_
  refine mx_bipush (pc := 4) C dX7_street_4 (z := 6) rfl (by constructor <;> decide) ?_
  refine mx_icmp_lt (pc := 6) (tgt := 12) C dX7_street_6 rfl (fun c1 => ?_) (fun c1 => ?_)
  · rw [if_pos c1] at h
    refine mx_aload_n (pc := 12) C dX7_street_12 rfl ?_
    refine mx_getR (pc := 13) (v := 3) C dX7_street_13 so_7 ci_7 (k := 5) (by decide) fl_X7_20 rfl (q := 5) rfl (lay_7_5 hOM) (by decide) ?_
    refine mx_aload_n (pc := 16) C dX7_street_16 rfl ?_
    refine mx_getI (pc := 17) C dX7_street_17 so_7 ci_7 (k := 6) (by decide) fl_X7_125 rfl (q := 6) rfl ?_
    obtain ⟨g2, h⟩ := of_gd h
    refine mx_aald (pc := 20) (v := (79 + 6 * (M 0 6))) C dX7_street_20 (rfl : shp SH 3 = some (4, 6)) (by decide) g2.1 g2.2 (street_at hOM g2.1 g2.2).1 (str_pos (street_at hOM g2.1 g2.2).2).1 ?_
    refine mx_astore_n (pc := 21) C dX7_street_21 (ls' := [some (aR 0), some (aR (79 + 6 * (M 0 6))), none]) (by decide) rfl rfl ?_
    refine mx_aload_n (pc := 22) C dX7_street_22 rfl ?_
    refine mx_getR (pc := 23) (v := 1) C dX7_street_23 so_7 ci_7 (k := 4) (by decide) fl_X7_14 rfl (q := 4) rfl (lay_7_4 hOM) (by decide) ?_
    refine mx_aload_n (pc := 26) C dX7_street_26 rfl ?_
    obtain ⟨q3, hq3, h⟩ := of_bd h
    refine mc_V (pc := 27) (as := [aR (79 + 6 * (M 0 6))]) (rest := []) (stk2 := [aI q3.1]) C ⟨Nat.le_refl _, Nat.le_refl _⟩ (m_X5_makes hOM ((street_at hOM g2.1 g2.2).2) hq3) mi_X5_makes mv_X5_makes ml_X7_128 ci_5 rfl so_5 (by omega) rfl (Nat.le_of_ble_eq_true rfl) dX7_street_27 rfl (fun hp4 => ?_)
    have hOq3 : OK q3.2 := hp4.1
    refine mx_istore_n (pc := 30) C dX7_street_30 (ls' := [some (aR 0), some (aR (79 + 6 * (M 0 6))), some (aI q3.1)]) (by decide) rfl rfl ?_
    refine mx_aload_n (pc := 31) C dX7_street_31 rfl ?_
    refine mx_getR (pc := 32) (v := 1) C dX7_street_32 so_7 ci_7 (k := 4) (by decide) fl_X7_14 rfl (q := 4) rfl (lay_7_4 hOq3) (by decide) ?_
    refine mx_iconst (pc := 35) C dX7_street_35 (z := 0) rfl (by constructor <;> decide) ?_
    refine mx_putI (pc := 36) C dX7_street_36 so_5 ci_5 (k := 1) (by decide) fl_X7_118 (Or.inl rfl) rfl (q := 1) rfl ?_
    generalize hmM5 : stM q3.2 1 1 0 = M5 at h ⊢
    replace h := lt_e h
    have hOM5 : OK M5 := by rw [← hmM5]; exact okf_5_1 hOq3
    refine mx_iload_n (pc := 39) C dX7_street_39 rfl ?_
    refine mx_if_ne (pc := 40) (tgt := 54) C dX7_street_40 rfl (fun c6 => ?_) (fun c6 => ?_)
    · rw [if_neg c6] at h
      refine mx_aload_n (pc := 54) C dX7_street_54 rfl ?_
      refine mx_getR (pc := 55) (v := 22) C dX7_street_55 so_7 ci_7 (k := 0) (by decide) fl_X7_50 rfl (q := 0) rfl (lay_7_0 hOM5) (by decide) ?_
      refine mx_aload_n (pc := 58) C dX7_street_58 rfl ?_
      refine mx_putR (pc := 59) C dX7_street_59 (so_1 p_1_22) ci_1 (k := 7) (by decide) fl_X7_135 (Or.inl rfl) rfl (str_pos (street_at hOM g2.1 g2.2).2).1 (str_pos (street_at hOM g2.1 g2.2).2).2 (q := 7) rfl ?_
      generalize hmM7 : stM M5 22 7 (79 + 6 * (M 0 6)) = M7 at h ⊢
      replace h := lt_e h
      have hOM7 : OK M7 := by rw [← hmM7]; exact ok_street hOM5 p_1_22 (street_at hOM g2.1 g2.2).2
      refine mx_aload_n (pc := 62) C dX7_street_62 rfl ?_
      refine mx_dup (pc := 63) C dX7_street_63 rfl ?_
      refine mx_getI (pc := 64) C dX7_street_64 so_7 ci_7 (k := 6) (by decide) fl_X7_125 rfl (q := 6) rfl ?_
      refine mx_iconst (pc := 67) C dX7_street_67 (z := 1) rfl (by constructor <;> decide) ?_
      refine mx_iadd (pc := 68) C dX7_street_68  ?_
      refine mx_putI (pc := 69) C dX7_street_69 so_7 ci_7 (k := 6) (by decide) fl_X7_125 (Or.inl rfl) rfl (q := 6) rfl ?_
      generalize hmM8 : stM M7 0 6 (w32 ((M7 0 6) + 1)) = M8 at h ⊢
      replace h := lt_e h
      have hOM8 : OK M8 := by rw [← hmM8]; exact okf_7_6 hOM7
      refine mx_aload_n (pc := 72) C dX7_street_72 rfl ?_
      refine mx_getI (pc := 73) C dX7_street_73 so_7 ci_7 (k := 6) (by decide) fl_X7_125 rfl (q := 6) rfl ?_
      refine mx_iconst (pc := 76) C dX7_street_76 (z := 1) rfl (by constructor <;> decide) ?_
      refine mx_isub (pc := 77) C dX7_street_77  ?_
      rw [← Option.some.inj h]
      exact mx_ireturn (pc := 78) C dX7_street_78 hOM8 ⟨Nat.le_refl _, Nat.le_refl _⟩
    · rw [if_pos c6] at h
      refine mx_bipush (pc := 43) C dX7_street_43 (z := (-10)) rfl (by constructor <;> decide) ?_
      refine mx_aload_n (pc := 45) C dX7_street_45 rfl ?_
      refine mx_getR (pc := 46) (v := 1) C dX7_street_46 so_7 ci_7 (k := 4) (by decide) fl_X7_14 rfl (q := 4) rfl (lay_7_4 hOM5) (by decide) ?_
      refine mx_getI (pc := 49) C dX7_street_49 so_5 ci_5 (k := 2) (by decide) fl_X7_132 rfl (q := 2) rfl ?_
      refine mx_isub (pc := 52) C dX7_street_52  ?_
      rw [← Option.some.inj h]
      exact mx_ireturn (pc := 53) C dX7_street_53 hOM5 ⟨Nat.le_refl _, Nat.le_refl _⟩
  · rw [if_neg c1] at h
    refine mx_bipush (pc := 9) C dX7_street_9 (z := (-4)) rfl (by constructor <;> decide) ?_
    rw [← Option.some.inj h]
    exact mx_ireturn (pc := 11) C dX7_street_11 hOM ⟨Nat.le_refl _, Nat.le_refl _⟩

def f_X7_told (p1 : Int) (M : Mem) : Option (Int × Mem) :=
  (f_X7_isHouse (w32 (p1 - 10)) M).bind (fun q1 => if q1.1 = 0 then if p1 = 0 then some (q1.2 22 6, q1.2) else if p1 = 1 then some (q1.2 (q1.2 22 7) 0, q1.2) else if p1 = 2 then some (q1.2 (q1.2 22 7) 1, q1.2) else if p1 = 3 then some (q1.2 (q1.2 22 7) 2, q1.2) else if p1 = 4 then (f_X1_greatest 22 q1.2).bind (fun q9 => some (q9.1, q9.2)) else if p1 = 5 then (f_X1_stillHouses 22 q1.2).bind (fun q12 => some (q12.1, q12.2)) else some ((-1), q1.2) else (f_X1_noiseOf 22 (w32 (p1 - 10)) q1.2).bind (fun q14 => some (q14.1, q14.2)))
set_option maxRecDepth 20000 in
set_option maxHeartbeats 4000000 in
theorem m_X7_told {p1 : Int} {M : Mem} {res : Int × Mem} (hOM : OK M) (h : f_X7_told p1 M = some res) : Mth false yX7_told cX7_told 2 (some .int) 6 0 0 SH [aR 0, aI p1] M (some (aI res.1)) SH res.2 (OK res.2) := by
  refine Mth.of (by decide +kernel) (Nat.le_of_ble_eq_true rfl) (fun K B C => ?_)
  show Wx K B _ 0 0 SH 2 M 0 [some (aR 0), some (aI p1)] []
  unfold f_X7_told at h
  refine mx_iload_n (pc := 0) C dX7_told_0 rfl ?_
  refine mx_bipush (pc := 1) C dX7_told_1 (z := 10) rfl (by constructor <;> decide) ?_
  refine mx_isub (pc := 3) C dX7_told_3  ?_
  obtain ⟨q1, hq1, h⟩ := of_bd h
  refine mc_S (pc := 4) (as := [aI (w32 (p1 - 10))]) (rest := []) (stk2 := [aI q1.1]) C ⟨Nat.le_refl _, Nat.le_refl _⟩ (m_X7_isHouse hOM hq1) mi_X7_isHouse ms_X7_isHouse ml_X7_65 (by omega) rfl (Nat.le_of_ble_eq_true rfl) dX7_told_4 rfl (fun hp2 => ?_)
  have hOq1 : OK q1.2 := hp2.1
  refine mx_if_eq (pc := 7) (tgt := 22) C dX7_told_7 rfl (fun c3 => ?_) (fun c3 => ?_)
  · rw [if_pos c3] at h
    refine mx_iload_n (pc := 22) C dX7_told_22 rfl ?_
    by_cases c4 : p1 = 0
    · rw [if_pos c4] at h
      refine mx_tin (pc := 23) (tgt := 60) C 0 dX7_told_23 c4 (by decide) (by decide) rfl rfl ?_
      refine mx_aload_n (pc := 60) C dX7_told_60 rfl ?_
      refine mx_getR (pc := 61) (v := 22) C dX7_told_61 so_7 ci_7 (k := 0) (by decide) fl_X7_50 rfl (q := 0) rfl (lay_7_0 hOq1) (by decide) ?_
      refine mx_getI (pc := 64) C dX7_told_64 (so_1 p_1_22) ci_1 (k := 6) (by decide) fl_X7_139 rfl (q := 6) rfl ?_
      rw [← Option.some.inj h]
      exact mx_ireturn (pc := 67) C dX7_told_67 hOq1 ⟨Nat.le_refl _, Nat.le_refl _⟩
    · rw [if_neg c4] at h
      by_cases c5 : p1 = 1
      · rw [if_pos c5] at h
        refine mx_tin (pc := 23) (tgt := 68) C 1 dX7_told_23 c5 (by decide) (by decide) rfl rfl ?_
        refine mx_aload_n (pc := 68) C dX7_told_68 rfl ?_
        refine mx_getR (pc := 69) (v := 22) C dX7_told_69 so_7 ci_7 (k := 0) (by decide) fl_X7_50 rfl (q := 0) rfl (lay_7_0 hOq1) (by decide) ?_
        refine mx_getR (pc := 72) (v := (q1.2 22 7)) C dX7_told_72 (so_1 p_1_22) ci_1 (k := 7) (by decide) fl_X7_135 rfl (q := 7) rfl rfl (str_pos (str_of hOq1 p_1_22)).1 ?_
        refine mx_getI (pc := 75) C dX7_told_75 (so_3 (str_of hOq1 p_1_22)) ci_3 (k := 0) (by decide) fl_X7_142 rfl (q := 0) rfl ?_
        rw [← Option.some.inj h]
        exact mx_ireturn (pc := 78) C dX7_told_78 hOq1 ⟨Nat.le_refl _, Nat.le_refl _⟩
      · rw [if_neg c5] at h
        by_cases c6 : p1 = 2
        · rw [if_pos c6] at h
          refine mx_tin (pc := 23) (tgt := 79) C 2 dX7_told_23 c6 (by decide) (by decide) rfl rfl ?_
          refine mx_aload_n (pc := 79) C dX7_told_79 rfl ?_
          refine mx_getR (pc := 80) (v := 22) C dX7_told_80 so_7 ci_7 (k := 0) (by decide) fl_X7_50 rfl (q := 0) rfl (lay_7_0 hOq1) (by decide) ?_
          refine mx_getR (pc := 83) (v := (q1.2 22 7)) C dX7_told_83 (so_1 p_1_22) ci_1 (k := 7) (by decide) fl_X7_135 rfl (q := 7) rfl rfl (str_pos (str_of hOq1 p_1_22)).1 ?_
          refine mx_getI (pc := 86) C dX7_told_86 (so_3 (str_of hOq1 p_1_22)) ci_3 (k := 1) (by decide) fl_X7_145 rfl (q := 1) rfl ?_
          rw [← Option.some.inj h]
          exact mx_ireturn (pc := 89) C dX7_told_89 hOq1 ⟨Nat.le_refl _, Nat.le_refl _⟩
        · rw [if_neg c6] at h
          by_cases c7 : p1 = 3
          · rw [if_pos c7] at h
            refine mx_tin (pc := 23) (tgt := 90) C 3 dX7_told_23 c7 (by decide) (by decide) rfl rfl ?_
            refine mx_aload_n (pc := 90) C dX7_told_90 rfl ?_
            refine mx_getR (pc := 91) (v := 22) C dX7_told_91 so_7 ci_7 (k := 0) (by decide) fl_X7_50 rfl (q := 0) rfl (lay_7_0 hOq1) (by decide) ?_
            refine mx_getR (pc := 94) (v := (q1.2 22 7)) C dX7_told_94 (so_1 p_1_22) ci_1 (k := 7) (by decide) fl_X7_135 rfl (q := 7) rfl rfl (str_pos (str_of hOq1 p_1_22)).1 ?_
            refine mx_getI (pc := 97) C dX7_told_97 (so_3 (str_of hOq1 p_1_22)) ci_3 (k := 2) (by decide) fl_X7_148 rfl (q := 2) rfl ?_
            rw [← Option.some.inj h]
            exact mx_ireturn (pc := 100) C dX7_told_100 hOq1 ⟨Nat.le_refl _, Nat.le_refl _⟩
          · rw [if_neg c7] at h
            by_cases c8 : p1 = 4
            · rw [if_pos c8] at h
              refine mx_tin (pc := 23) (tgt := 101) C 4 dX7_told_23 c8 (by decide) (by decide) rfl rfl ?_
              refine mx_aload_n (pc := 101) C dX7_told_101 rfl ?_
              refine mx_getR (pc := 102) (v := 22) C dX7_told_102 so_7 ci_7 (k := 0) (by decide) fl_X7_50 rfl (q := 0) rfl (lay_7_0 hOq1) (by decide) ?_
              obtain ⟨q9, hq9, h⟩ := of_bd h
              refine mc_V (pc := 105) (as := []) (rest := []) (stk2 := [aI q9.1]) C ⟨Nat.le_refl _, Nat.le_refl _⟩ (m_X1_greatest hOq1 p_1_22 hq9) mi_X1_greatest mv_X1_greatest ml_X7_151 ci_1 rfl (so_1 p_1_22) (by omega) rfl (Nat.le_of_ble_eq_true rfl) dX7_told_105 rfl (fun hp10 => ?_)
              have hOq9 : OK q9.2 := hp10
              rw [← Option.some.inj h]
              exact mx_ireturn (pc := 108) C dX7_told_108 hOq9 ⟨Nat.le_refl _, Nat.le_refl _⟩
            · rw [if_neg c8] at h
              by_cases c11 : p1 = 5
              · rw [if_pos c11] at h
                refine mx_tin (pc := 23) (tgt := 109) C 5 dX7_told_23 c11 (by decide) (by decide) rfl rfl ?_
                refine mx_aload_n (pc := 109) C dX7_told_109 rfl ?_
                refine mx_getR (pc := 110) (v := 22) C dX7_told_110 so_7 ci_7 (k := 0) (by decide) fl_X7_50 rfl (q := 0) rfl (lay_7_0 hOq1) (by decide) ?_
                obtain ⟨q12, hq12, h⟩ := of_bd h
                refine mc_V (pc := 113) (as := []) (rest := []) (stk2 := [aI q12.1]) C ⟨Nat.le_refl _, Nat.le_refl _⟩ (m_X1_stillHouses hOq1 p_1_22 hq12) mi_X1_stillHouses mv_X1_stillHouses ml_X7_155 ci_1 rfl (so_1 p_1_22) (by omega) rfl (Nat.le_of_ble_eq_true rfl) dX7_told_113 rfl (fun hp13 => ?_)
                have hOq12 : OK q12.2 := hp13
                rw [← Option.some.inj h]
                exact mx_ireturn (pc := 116) C dX7_told_116 hOq12 ⟨Nat.le_refl _, Nat.le_refl _⟩
              · rw [if_neg c11] at h
                refine mx_tout (pc := 23) (tgt := 117) C dX7_told_23 (by omega) rfl ?_
                refine mx_iconst (pc := 117) C dX7_told_117 (z := (-1)) rfl (by constructor <;> decide) ?_
                rw [← Option.some.inj h]
                exact mx_ireturn (pc := 118) C dX7_told_118 hOq1 ⟨Nat.le_refl _, Nat.le_refl _⟩
  · rw [if_neg c3] at h
    refine mx_aload_n (pc := 10) C dX7_told_10 rfl ?_
    refine mx_getR (pc := 11) (v := 22) C dX7_told_11 so_7 ci_7 (k := 0) (by decide) fl_X7_50 rfl (q := 0) rfl (lay_7_0 hOq1) (by decide) ?_
    refine mx_iload_n (pc := 14) C dX7_told_14 rfl ?_
    refine mx_bipush (pc := 15) C dX7_told_15 (z := 10) rfl (by constructor <;> decide) ?_
    refine mx_isub (pc := 17) C dX7_told_17  ?_
    obtain ⟨q14, hq14, h⟩ := of_bd h
    refine mc_V (pc := 18) (as := [aI (w32 (p1 - 10))]) (rest := []) (stk2 := [aI q14.1]) C ⟨Nat.le_refl _, Nat.le_refl _⟩ (m_X1_noiseOf hOq1 p_1_22 hq14) mi_X1_noiseOf mv_X1_noiseOf ml_X7_112 ci_1 rfl (so_1 p_1_22) (by omega) rfl (Nat.le_of_ble_eq_true rfl) dX7_told_18 rfl (fun hp15 => ?_)
    have hOq14 : OK q14.2 := hp15
    rw [← Option.some.inj h]
    exact mx_ireturn (pc := 21) C dX7_told_21 hOq14 ⟨Nat.le_refl _, Nat.le_refl _⟩

def f_X7_years (p1 : Int) (M : Mem) : Option (Int × Mem) :=
  (f_X7_isIn p1 60 M).bind (fun q1 => if q1.1 = 0 then some ((-2), q1.2) else if w32 ((q1.2 22 6) + p1) ≤ 9999 then (f_X1_goYears 22 p1 q1.2).bind (fun q5 => some (q5.2 22 6, q5.2)) else some ((-3), q1.2))
set_option maxRecDepth 20000 in
set_option maxHeartbeats 4000000 in
theorem m_X7_years {p1 : Int} {M : Mem} {res : Int × Mem} (hOM : OK M) (h : f_X7_years p1 M = some res) : Mth false yX7_years cX7_years 2 (some .int) 3 0 0 SH [aR 0, aI p1] M (some (aI res.1)) SH res.2 (OK res.2) := by
  refine Mth.of (by decide +kernel) (Nat.le_of_ble_eq_true rfl) (fun K B C => ?_)
  show Wx K B _ 0 0 SH 2 M 0 [some (aR 0), some (aI p1)] []
  unfold f_X7_years at h
  refine mx_iload_n (pc := 0) C dX7_years_0 rfl ?_
  refine mx_bipush (pc := 1) C dX7_years_1 (z := 60) rfl (by constructor <;> decide) ?_
  obtain ⟨q1, hq1, h⟩ := of_bd h
  refine mc_S (pc := 3) (as := [aI p1, aI 60]) (rest := []) (stk2 := [aI q1.1]) C ⟨Nat.le_refl _, Nat.le_refl _⟩ (m_X7_isIn hOM hq1) mi_X7_isIn ms_X7_isIn ml_X7_61 (by omega) rfl (Nat.le_of_ble_eq_true rfl) dX7_years_3 rfl (fun hp2 => ?_)
  have hOq1 : OK q1.2 := hp2.1
  refine mx_if_ne (pc := 6) (tgt := 12) C dX7_years_6 rfl (fun c3 => ?_) (fun c3 => ?_)
  · rw [if_neg c3] at h
    refine mx_aload_n (pc := 12) C dX7_years_12 rfl ?_
    refine mx_getR (pc := 13) (v := 22) C dX7_years_13 so_7 ci_7 (k := 0) (by decide) fl_X7_50 rfl (q := 0) rfl (lay_7_0 hOq1) (by decide) ?_
    refine mx_getI (pc := 16) C dX7_years_16 (so_1 p_1_22) ci_1 (k := 6) (by decide) fl_X7_139 rfl (q := 6) rfl ?_
    refine mx_iload_n (pc := 19) C dX7_years_19 rfl ?_
    refine mx_iadd (pc := 20) C dX7_years_20  ?_
    refine mx_sipush (pc := 21) C dX7_years_21 (z := 9999) rfl (by constructor <;> decide) ?_
    refine mx_icmp_le (pc := 24) (tgt := 30) C dX7_years_24 rfl (fun c4 => ?_) (fun c4 => ?_)
    · rw [if_pos c4] at h
      refine mx_aload_n (pc := 30) C dX7_years_30 rfl ?_
      refine mx_getR (pc := 31) (v := 22) C dX7_years_31 so_7 ci_7 (k := 0) (by decide) fl_X7_50 rfl (q := 0) rfl (lay_7_0 hOq1) (by decide) ?_
      refine mx_iload_n (pc := 34) C dX7_years_34 rfl ?_
      obtain ⟨q5, hq5, h⟩ := of_bd h
      refine mc_V (pc := 35) (as := [aI p1]) (rest := []) (stk2 := []) C ⟨Nat.le_refl _, Nat.le_refl _⟩ (m_X1_goYears hOq1 p_1_22 hq5) mi_X1_goYears mv_X1_goYears ml_X7_158 ci_1 rfl (so_1 p_1_22) (by omega) rfl (Nat.le_of_ble_eq_true rfl) dX7_years_35 rfl (fun hp6 => ?_)
      have hOq5 : OK q5.2 := hp6
      refine mx_aload_n (pc := 38) C dX7_years_38 rfl ?_
      refine mx_getR (pc := 39) (v := 22) C dX7_years_39 so_7 ci_7 (k := 0) (by decide) fl_X7_50 rfl (q := 0) rfl (lay_7_0 hOq5) (by decide) ?_
      refine mx_getI (pc := 42) C dX7_years_42 (so_1 p_1_22) ci_1 (k := 6) (by decide) fl_X7_139 rfl (q := 6) rfl ?_
      rw [← Option.some.inj h]
      exact mx_ireturn (pc := 45) C dX7_years_45 hOq5 ⟨Nat.le_refl _, Nat.le_refl _⟩
    · rw [if_neg c4] at h
      refine mx_bipush (pc := 27) C dX7_years_27 (z := (-3)) rfl (by constructor <;> decide) ?_
      rw [← Option.some.inj h]
      exact mx_ireturn (pc := 29) C dX7_years_29 hOq1 ⟨Nat.le_refl _, Nat.le_refl _⟩
  · rw [if_pos c3] at h
    refine mx_bipush (pc := 9) C dX7_years_9 (z := (-2)) rfl (by constructor <;> decide) ?_
    rw [← Option.some.inj h]
    exact mx_ireturn (pc := 11) C dX7_years_11 hOq1 ⟨Nat.le_refl _, Nat.le_refl _⟩

def f_X7_on_50 (p1 : Int) (p2 : Int) (x1 : Int) (x2 : Int) (x3 : Int) (x4 : Int) (M : Mem) : Option (Int × Mem) :=
  (f_X7_isIn x1 60 M).bind (fun q1 => if q1.1 = 0 then some ((-2), q1.2) else (f_X1_takeSounds 60 22 q1.2).bind (fun q4 => (f_X1_goYears 60 x1 q4.2).bind (fun q6 => if x3 = 0 then if x4 = 0 then (f_X1_greatest 60 q6.2).bind (fun q10 => some (q10.1, q10.2)) else if 0 ≤ w32 (x2 - 20) ∧ w32 (x2 - 20) < 6 then some (q6.2 63 (w32 (x2 - 20)), q6.2) else none else (f_X1_noiseOf 60 (w32 (x2 - 10)) q6.2).bind (fun q13 => some (q13.1, q13.2)))))
def f_X7_on_33 (p1 : Int) (p2 : Int) (x1 : Int) (x2 : Int) (x3 : Int) (t0 : Int) (M : Mem) : Option (Int × Mem) :=
  if x2 = 0 then f_X7_on_50 p1 p2 x1 x2 x3 t0 M else if x3 = 0 then if t0 = 0 then some ((-1), M) else f_X7_on_50 p1 p2 x1 x2 x3 t0 M else f_X7_on_50 p1 p2 x1 x2 x3 t0 M
def f_X7_on_32 (p1 : Int) (p2 : Int) (x1 : Int) (x2 : Int) (x3 : Int) (M : Mem) : Option (Int × Mem) :=
  f_X7_on_33 p1 p2 x1 x2 x3 0 M
def f_X7_on (p1 : Int) (p2 : Int) (M : Mem) : Option (Int × Mem) :=
  (f_X7_isHouse (w32 (p2 - 10)) M).bind (fun q1 => if p2 < 20 then f_X7_on_32 p1 p2 p1 p2 q1.1 q1.2 else (f_X1_has 22 (w32 (p2 - 20)) q1.2).bind (fun q4 => if q4.1 = 0 then f_X7_on_32 p1 p2 p1 p2 q1.1 q4.2 else f_X7_on_33 p1 p2 p1 p2 q1.1 1 q4.2))
set_option maxRecDepth 20000 in
set_option maxHeartbeats 4000000 in
theorem b_X7_on_50 {K : KX} {B : BX} {res : Int × Mem} {p1 : Int} {p2 : Int} (C : Cx K B false yX7_on cX7_on 5 (some .int) 6 0 0) : ∀ (x1 : Int) (x2 : Int) (x3 : Int) (x4 : Int) (M : Mem), OK M → f_X7_on_50 p1 p2 x1 x2 x3 x4 M = some res → Wx K B (Zr K B (some (aI res.1)) SH res.2 (OK res.2) 0 0) 0 0 SH 5 M 50 [some (aR 0), some (aI x1), some (aI x2), some (aI x3), some (aI x4)] [] := by
  intro x1 x2 x3 x4 M hOM h
  unfold f_X7_on_50 at h
  refine mx_iload_n (pc := 50) C dX7_on_50 rfl ?_
  refine mx_bipush (pc := 51) C dX7_on_51 (z := 60) rfl (by constructor <;> decide) ?_
  obtain ⟨q1, hq1, h⟩ := of_bd h
  refine mc_S (pc := 53) (as := [aI x1, aI 60]) (rest := []) (stk2 := [aI q1.1]) C ⟨Nat.le_refl _, Nat.le_refl _⟩ (m_X7_isIn hOM hq1) mi_X7_isIn ms_X7_isIn ml_X7_61 (by omega) rfl (Nat.le_of_ble_eq_true rfl) dX7_on_53 rfl (fun hp2 => ?_)
  have hOq1 : OK q1.2 := hp2.1
  refine mx_if_ne (pc := 56) (tgt := 62) C dX7_on_56 rfl (fun c3 => ?_) (fun c3 => ?_)
  · rw [if_neg c3] at h
    refine mx_aload_n (pc := 62) C dX7_on_62 rfl ?_
    refine mx_getR (pc := 63) (v := 60) C dX7_on_63 so_7 ci_7 (k := 2) (by decide) fl_X7_57 rfl (q := 2) rfl (lay_7_2 hOq1) (by decide) ?_
    refine mx_aload_n (pc := 66) C dX7_on_66 rfl ?_
    refine mx_getR (pc := 67) (v := 22) C dX7_on_67 so_7 ci_7 (k := 0) (by decide) fl_X7_50 rfl (q := 0) rfl (lay_7_0 hOq1) (by decide) ?_
    obtain ⟨q4, hq4, h⟩ := of_bd h
    refine mc_V (pc := 70) (as := [aR 22]) (rest := []) (stk2 := []) C ⟨Nat.le_refl _, Nat.le_refl _⟩ (m_X1_takeSounds hOq1 p_1_60 p_1_22 hq4) mi_X1_takeSounds mv_X1_takeSounds ml_X7_162 ci_1 rfl (so_1 p_1_60) (by omega) rfl (Nat.le_of_ble_eq_true rfl) dX7_on_70 rfl (fun hp5 => ?_)
    have hOq4 : OK q4.2 := hp5
    refine mx_aload_n (pc := 73) C dX7_on_73 rfl ?_
    refine mx_getR (pc := 74) (v := 60) C dX7_on_74 so_7 ci_7 (k := 2) (by decide) fl_X7_57 rfl (q := 2) rfl (lay_7_2 hOq4) (by decide) ?_
    refine mx_iload_n (pc := 77) C dX7_on_77 rfl ?_
    obtain ⟨q6, hq6, h⟩ := of_bd h
    refine mc_V (pc := 78) (as := [aI x1]) (rest := []) (stk2 := []) C ⟨Nat.le_refl _, Nat.le_refl _⟩ (m_X1_goYears hOq4 p_1_60 hq6) mi_X1_goYears mv_X1_goYears ml_X7_158 ci_1 rfl (so_1 p_1_60) (by omega) rfl (Nat.le_of_ble_eq_true rfl) dX7_on_78 rfl (fun hp7 => ?_)
    have hOq6 : OK q6.2 := hp7
    refine mx_iload_n (pc := 81) C dX7_on_81 rfl ?_
    refine mx_if_eq (pc := 82) (tgt := 97) C dX7_on_82 rfl (fun c8 => ?_) (fun c8 => ?_)
    · rw [if_pos c8] at h
      refine mx_iload (pc := 97) C dX7_on_97 rfl ?_
      refine mx_if_eq (pc := 99) (tgt := 117) C dX7_on_99 rfl (fun c9 => ?_) (fun c9 => ?_)
      · rw [if_pos c9] at h
        refine mx_aload_n (pc := 117) C dX7_on_117 rfl ?_
        refine mx_getR (pc := 118) (v := 60) C dX7_on_118 so_7 ci_7 (k := 2) (by decide) fl_X7_57 rfl (q := 2) rfl (lay_7_2 hOq6) (by decide) ?_
        obtain ⟨q10, hq10, h⟩ := of_bd h
        refine mc_V (pc := 121) (as := []) (rest := []) (stk2 := [aI q10.1]) C ⟨Nat.le_refl _, Nat.le_refl _⟩ (m_X1_greatest hOq6 p_1_60 hq10) mi_X1_greatest mv_X1_greatest ml_X7_151 ci_1 rfl (so_1 p_1_60) (by omega) rfl (Nat.le_of_ble_eq_true rfl) dX7_on_121 rfl (fun hp11 => ?_)
        have hOq10 : OK q10.2 := hp11
        rw [← Option.some.inj h]
        exact mx_ireturn (pc := 124) C dX7_on_124 hOq10 ⟨Nat.le_refl _, Nat.le_refl _⟩
      · rw [if_neg c9] at h
        refine mx_aload_n (pc := 102) C dX7_on_102 rfl ?_
        refine mx_getR (pc := 103) (v := 60) C dX7_on_103 so_7 ci_7 (k := 2) (by decide) fl_X7_57 rfl (q := 2) rfl (lay_7_2 hOq6) (by decide) ?_
        refine mx_getR (pc := 106) (v := 63) C dX7_on_106 (so_1 p_1_60) ci_1 (k := 3) (by decide) fl_X7_97 rfl (q := 3) rfl ((lay_1_3 hOq6 p_1_60).trans (by decide)) (by have := lot_pos p_1_60; omega) ?_
        refine mx_iload_n (pc := 109) C dX7_on_109 rfl ?_
        refine mx_bipush (pc := 110) C dX7_on_110 (z := 20) rfl (by constructor <;> decide) ?_
        refine mx_isub (pc := 112) C dX7_on_112  ?_
        obtain ⟨g12, h⟩ := of_gd h
        refine mx_iald (pc := 113) C dX7_on_113 (rfl : shp SH 63 = some (0, 6)) g12.1 g12.2 ?_
        refine mx_goto (pc := 114) (tgt := 124) C dX7_on_114 rfl ?_
        rw [← Option.some.inj h]
        exact mx_ireturn (pc := 124) C dX7_on_124 hOq6 ⟨Nat.le_refl _, Nat.le_refl _⟩
    · rw [if_neg c8] at h
      refine mx_aload_n (pc := 85) C dX7_on_85 rfl ?_
      refine mx_getR (pc := 86) (v := 60) C dX7_on_86 so_7 ci_7 (k := 2) (by decide) fl_X7_57 rfl (q := 2) rfl (lay_7_2 hOq6) (by decide) ?_
      refine mx_iload_n (pc := 89) C dX7_on_89 rfl ?_
      refine mx_bipush (pc := 90) C dX7_on_90 (z := 10) rfl (by constructor <;> decide) ?_
      refine mx_isub (pc := 92) C dX7_on_92  ?_
      obtain ⟨q13, hq13, h⟩ := of_bd h
      refine mc_V (pc := 93) (as := [aI (w32 (x2 - 10))]) (rest := []) (stk2 := [aI q13.1]) C ⟨Nat.le_refl _, Nat.le_refl _⟩ (m_X1_noiseOf hOq6 p_1_60 hq13) mi_X1_noiseOf mv_X1_noiseOf ml_X7_112 ci_1 rfl (so_1 p_1_60) (by omega) rfl (Nat.le_of_ble_eq_true rfl) dX7_on_93 rfl (fun hp14 => ?_)
      have hOq13 : OK q13.2 := hp14
      rw [← Option.some.inj h]
      exact mx_ireturn (pc := 96) C dX7_on_96 hOq13 ⟨Nat.le_refl _, Nat.le_refl _⟩
  · rw [if_pos c3] at h
    refine mx_bipush (pc := 59) C dX7_on_59 (z := (-2)) rfl (by constructor <;> decide) ?_
    rw [← Option.some.inj h]
    exact mx_ireturn (pc := 61) C dX7_on_61 hOq1 ⟨Nat.le_refl _, Nat.le_refl _⟩
set_option maxRecDepth 20000 in
set_option maxHeartbeats 4000000 in
theorem b_X7_on_33 {K : KX} {B : BX} {res : Int × Mem} {p1 : Int} {p2 : Int} (C : Cx K B false yX7_on cX7_on 5 (some .int) 6 0 0) : ∀ (x1 : Int) (x2 : Int) (x3 : Int) (t0 : Int) (M : Mem), OK M → f_X7_on_33 p1 p2 x1 x2 x3 t0 M = some res → Wx K B (Zr K B (some (aI res.1)) SH res.2 (OK res.2) 0 0) 0 0 SH 5 M 33 [some (aR 0), some (aI x1), some (aI x2), some (aI x3), none] [aI t0] := by
  intro x1 x2 x3 t0 M hOM h
  unfold f_X7_on_33 at h
  refine mx_istore (pc := 33) C dX7_on_33 (ls' := [some (aR 0), some (aI x1), some (aI x2), some (aI x3), some (aI t0)]) (by decide) rfl rfl ?_
  refine mx_iload_n (pc := 35) C dX7_on_35 rfl ?_
  refine mx_if_eq (pc := 36) (tgt := 50) C dX7_on_36 rfl (fun c1 => ?_) (fun c1 => ?_)
  · rw [if_pos c1] at h
    exact b_X7_on_50 C x1 x2 x3 t0 M hOM h
  · rw [if_neg c1] at h
    refine mx_iload_n (pc := 39) C dX7_on_39 rfl ?_
    refine mx_if_ne (pc := 40) (tgt := 50) C dX7_on_40 rfl (fun c2 => ?_) (fun c2 => ?_)
    · rw [if_neg c2] at h
      exact b_X7_on_50 C x1 x2 x3 t0 M hOM h
    · rw [if_pos c2] at h
      refine mx_iload (pc := 43) C dX7_on_43 rfl ?_
      refine mx_if_ne (pc := 45) (tgt := 50) C dX7_on_45 rfl (fun c3 => ?_) (fun c3 => ?_)
      · rw [if_neg c3] at h
        exact b_X7_on_50 C x1 x2 x3 t0 M hOM h
      · rw [if_pos c3] at h
        refine mx_iconst (pc := 48) C dX7_on_48 (z := (-1)) rfl (by constructor <;> decide) ?_
        rw [← Option.some.inj h]
        exact mx_ireturn (pc := 49) C dX7_on_49 hOM ⟨Nat.le_refl _, Nat.le_refl _⟩
set_option maxRecDepth 20000 in
set_option maxHeartbeats 4000000 in
theorem b_X7_on_32 {K : KX} {B : BX} {res : Int × Mem} {p1 : Int} {p2 : Int} (C : Cx K B false yX7_on cX7_on 5 (some .int) 6 0 0) : ∀ (x1 : Int) (x2 : Int) (x3 : Int) (M : Mem), OK M → f_X7_on_32 p1 p2 x1 x2 x3 M = some res → Wx K B (Zr K B (some (aI res.1)) SH res.2 (OK res.2) 0 0) 0 0 SH 5 M 32 [some (aR 0), some (aI x1), some (aI x2), some (aI x3), none] [] := by
  intro x1 x2 x3 M hOM h
  unfold f_X7_on_32 at h
  refine mx_iconst (pc := 32) C dX7_on_32 (z := 0) rfl (by constructor <;> decide) ?_
  exact b_X7_on_33 C x1 x2 x3 0 M hOM h
set_option maxRecDepth 20000 in
set_option maxHeartbeats 4000000 in
theorem m_X7_on {p1 : Int} {p2 : Int} {M : Mem} {res : Int × Mem} (hOM : OK M) (h : f_X7_on p1 p2 M = some res) : Mth false yX7_on cX7_on 5 (some .int) 6 0 0 SH [aR 0, aI p1, aI p2] M (some (aI res.1)) SH res.2 (OK res.2) := by
  refine Mth.of (by decide +kernel) (Nat.le_of_ble_eq_true rfl) (fun K B C => ?_)
  show Wx K B _ 0 0 SH 5 M 0 [some (aR 0), some (aI p1), some (aI p2), none, none] []
  unfold f_X7_on at h
  refine mx_iload_n (pc := 0) C dX7_on_0 rfl ?_
  refine mx_bipush (pc := 1) C dX7_on_1 (z := 10) rfl (by constructor <;> decide) ?_
  refine mx_isub (pc := 3) C dX7_on_3  ?_
  obtain ⟨q1, hq1, h⟩ := of_bd h
  refine mc_S (pc := 4) (as := [aI (w32 (p2 - 10))]) (rest := []) (stk2 := [aI q1.1]) C ⟨Nat.le_refl _, Nat.le_refl _⟩ (m_X7_isHouse hOM hq1) mi_X7_isHouse ms_X7_isHouse ml_X7_65 (by omega) rfl (Nat.le_of_ble_eq_true rfl) dX7_on_4 rfl (fun hp2 => ?_)
  have hOq1 : OK q1.2 := hp2.1
  refine mx_istore_n (pc := 7) C dX7_on_7 (ls' := [some (aR 0), some (aI p1), some (aI p2), some (aI q1.1), none]) (by decide) rfl rfl ?_
  refine mx_iload_n (pc := 8) C dX7_on_8 rfl ?_
  refine mx_bipush (pc := 9) C dX7_on_9 (z := 20) rfl (by constructor <;> decide) ?_
  refine mx_icmp_lt (pc := 11) (tgt := 32) C dX7_on_11 rfl (fun c3 => ?_) (fun c3 => ?_)
  · rw [if_pos c3] at h
    exact b_X7_on_32 C p1 p2 q1.1 q1.2 hOq1 h
  · rw [if_neg c3] at h
    refine mx_aload_n (pc := 14) C dX7_on_14 rfl ?_
    refine mx_getR (pc := 15) (v := 22) C dX7_on_15 so_7 ci_7 (k := 0) (by decide) fl_X7_50 rfl (q := 0) rfl (lay_7_0 hOq1) (by decide) ?_
    refine mx_iload_n (pc := 18) C dX7_on_18 rfl ?_
    refine mx_bipush (pc := 19) C dX7_on_19 (z := 20) rfl (by constructor <;> decide) ?_
    refine mx_isub (pc := 21) C dX7_on_21  ?_
    obtain ⟨q4, hq4, h⟩ := of_bd h
    refine mc_V (pc := 22) (as := [aI (w32 (p2 - 20))]) (rest := []) (stk2 := [aI q4.1]) C ⟨Nat.le_refl _, Nat.le_refl _⟩ (m_X1_has hOq1 p_1_22 hq4) mi_X1_has mv_X1_has ml_X7_77 ci_1 rfl (so_1 p_1_22) (by omega) rfl (Nat.le_of_ble_eq_true rfl) dX7_on_22 rfl (fun hp5 => ?_)
    have hOq4 : OK q4.2 := hp5.1
    refine mx_if_eq (pc := 25) (tgt := 32) C dX7_on_25 rfl (fun c6 => ?_) (fun c6 => ?_)
    · rw [if_pos c6] at h
      exact b_X7_on_32 C p1 p2 q1.1 q4.2 hOq4 h
    · rw [if_neg c6] at h
      refine mx_iconst (pc := 28) C dX7_on_28 (z := 1) rfl (by constructor <;> decide) ?_
      refine mx_goto (pc := 29) (tgt := 33) C dX7_on_29 rfl ?_
      exact b_X7_on_33 C p1 p2 q1.1 1 q4.2 hOq4 h

def f_X7_stillBy_13 (p1 : Int) : Nat → Int → Int → Mem → Option (Int × Mem)
  | 0, _, _, _ => none
  | n + 1, x1, x2, M => if 60 < x2 then some ((-5), M) else (f_X1_noiseOf 60 x1 M).bind (fun q2 => if q2.2 (q2.2 60 7) 1 < q2.1 then (f_X1_goYears 60 1 q2.2).bind (fun q5 => f_X7_stillBy_13 p1 n x1 (w32 (x2 + 1)) q5.2) else some (x2, q2.2))
def f_X7_stillBy (p1 : Int) (M : Mem) : Option (Int × Mem) :=
  (f_X1_takeSounds 60 22 M).bind (fun q1 => f_X7_stillBy_13 p1 FU p1 0 q1.2)
set_option maxRecDepth 20000 in
set_option maxHeartbeats 4000000 in
theorem b_X7_stillBy_13 {K : KX} {B : BX} {res : Int × Mem} {p1 : Int} (C : Cx K B false yX7_stillBy cX7_stillBy 3 (some .int) 5 0 0) : ∀ (n : Nat) (x1 : Int) (x2 : Int) (M : Mem), OK M → f_X7_stillBy_13 p1 n x1 x2 M = some res → Wx K B (Zr K B (some (aI res.1)) SH res.2 (OK res.2) 0 0) 0 0 SH 3 M 13 [some (aR 0), some (aI x1), some (aI x2)] [] := by
  intro n
  induction n with
  | zero =>
    intro x1 x2 M hOM h
    cases h
  | succ n ih =>
    intro x1 x2 M hOM h
    rw [f_X7_stillBy_13.eq_2] at h
    refine mx_iload_n (pc := 13) C dX7_stillBy_13 rfl ?_
    refine mx_bipush (pc := 14) C dX7_stillBy_14 (z := 60) rfl (by constructor <;> decide) ?_
    refine mx_icmp_gt (pc := 16) (tgt := 56) C dX7_stillBy_16 rfl (fun c1 => ?_) (fun c1 => ?_)
    · rw [if_pos c1] at h
      refine mx_bipush (pc := 56) C dX7_stillBy_56 (z := (-5)) rfl (by constructor <;> decide) ?_
      rw [← Option.some.inj h]
      exact mx_ireturn (pc := 58) C dX7_stillBy_58 hOM ⟨Nat.le_refl _, Nat.le_refl _⟩
    · rw [if_neg c1] at h
      refine mx_aload_n (pc := 19) C dX7_stillBy_19 rfl ?_
      refine mx_getR (pc := 20) (v := 60) C dX7_stillBy_20 so_7 ci_7 (k := 2) (by decide) fl_X7_57 rfl (q := 2) rfl (lay_7_2 hOM) (by decide) ?_
      refine mx_iload_n (pc := 23) C dX7_stillBy_23 rfl ?_
      obtain ⟨q2, hq2, h⟩ := of_bd h
      refine mc_V (pc := 24) (as := [aI x1]) (rest := []) (stk2 := [aI q2.1]) C ⟨Nat.le_refl _, Nat.le_refl _⟩ (m_X1_noiseOf hOM p_1_60 hq2) mi_X1_noiseOf mv_X1_noiseOf ml_X7_112 ci_1 rfl (so_1 p_1_60) (by omega) rfl (Nat.le_of_ble_eq_true rfl) dX7_stillBy_24 rfl (fun hp3 => ?_)
      have hOq2 : OK q2.2 := hp3
      refine mx_aload_n (pc := 27) C dX7_stillBy_27 rfl ?_
      refine mx_getR (pc := 28) (v := 60) C dX7_stillBy_28 so_7 ci_7 (k := 2) (by decide) fl_X7_57 rfl (q := 2) rfl (lay_7_2 hOq2) (by decide) ?_
      refine mx_getR (pc := 31) (v := (q2.2 60 7)) C dX7_stillBy_31 (so_1 p_1_60) ci_1 (k := 7) (by decide) fl_X7_135 rfl (q := 7) rfl rfl (str_pos (str_of hOq2 p_1_60)).1 ?_
      refine mx_getI (pc := 34) C dX7_stillBy_34 (so_3 (str_of hOq2 p_1_60)) ci_3 (k := 1) (by decide) fl_X7_145 rfl (q := 1) rfl ?_
      refine mx_icmp_gt (pc := 37) (tgt := 42) C dX7_stillBy_37 rfl (fun c4 => ?_) (fun c4 => ?_)
      · rw [if_pos c4] at h
        refine mx_aload_n (pc := 42) C dX7_stillBy_42 rfl ?_
        refine mx_getR (pc := 43) (v := 60) C dX7_stillBy_43 so_7 ci_7 (k := 2) (by decide) fl_X7_57 rfl (q := 2) rfl (lay_7_2 hOq2) (by decide) ?_
        refine mx_iconst (pc := 46) C dX7_stillBy_46 (z := 1) rfl (by constructor <;> decide) ?_
        obtain ⟨q5, hq5, h⟩ := of_bd h
        refine mc_V (pc := 47) (as := [aI 1]) (rest := []) (stk2 := []) C ⟨Nat.le_refl _, Nat.le_refl _⟩ (m_X1_goYears hOq2 p_1_60 hq5) mi_X1_goYears mv_X1_goYears ml_X7_158 ci_1 rfl (so_1 p_1_60) (by omega) rfl (Nat.le_of_ble_eq_true rfl) dX7_stillBy_47 rfl (fun hp6 => ?_)
        have hOq5 : OK q5.2 := hp6
        refine mx_iinc (pc := 50) C dX7_stillBy_50 (ls' := [some (aR 0), some (aI x1), some (aI (w32 (x2 + 1)))]) rfl (by decide) rfl (by constructor <;> decide) rfl rfl ?_
        refine mx_goto (pc := 53) (tgt := 13) C dX7_stillBy_53 rfl ?_
        exact ih x1 (w32 (x2 + 1)) q5.2 hOq5 h
      · rw [if_neg c4] at h
        refine mx_iload_n (pc := 40) C dX7_stillBy_40 rfl ?_
        rw [← Option.some.inj h]
        exact mx_ireturn (pc := 41) C dX7_stillBy_41 hOq2 ⟨Nat.le_refl _, Nat.le_refl _⟩
set_option maxRecDepth 20000 in
set_option maxHeartbeats 4000000 in
theorem m_X7_stillBy {p1 : Int} {M : Mem} {res : Int × Mem} (hOM : OK M) (h : f_X7_stillBy p1 M = some res) : Mth false yX7_stillBy cX7_stillBy 3 (some .int) 5 0 0 SH [aR 0, aI p1] M (some (aI res.1)) SH res.2 (OK res.2) := by
  refine Mth.of (by decide +kernel) (Nat.le_of_ble_eq_true rfl) (fun K B C => ?_)
  show Wx K B _ 0 0 SH 3 M 0 [some (aR 0), some (aI p1), none] []
  unfold f_X7_stillBy at h
  refine mx_aload_n (pc := 0) C dX7_stillBy_0 rfl ?_
  refine mx_getR (pc := 1) (v := 60) C dX7_stillBy_1 so_7 ci_7 (k := 2) (by decide) fl_X7_57 rfl (q := 2) rfl (lay_7_2 hOM) (by decide) ?_
  refine mx_aload_n (pc := 4) C dX7_stillBy_4 rfl ?_
  refine mx_getR (pc := 5) (v := 22) C dX7_stillBy_5 so_7 ci_7 (k := 0) (by decide) fl_X7_50 rfl (q := 0) rfl (lay_7_0 hOM) (by decide) ?_
  obtain ⟨q1, hq1, h⟩ := of_bd h
  refine mc_V (pc := 8) (as := [aR 22]) (rest := []) (stk2 := []) C ⟨Nat.le_refl _, Nat.le_refl _⟩ (m_X1_takeSounds hOM p_1_60 p_1_22 hq1) mi_X1_takeSounds mv_X1_takeSounds ml_X7_162 ci_1 rfl (so_1 p_1_60) (by omega) rfl (Nat.le_of_ble_eq_true rfl) dX7_stillBy_8 rfl (fun hp2 => ?_)
  have hOq1 : OK q1.2 := hp2
  refine mx_iconst (pc := 11) C dX7_stillBy_11 (z := 0) rfl (by constructor <;> decide) ?_
  refine mx_istore_n (pc := 12) C dX7_stillBy_12 (ls' := [some (aR 0), some (aI p1), some (aI 0)]) (by decide) rfl rfl ?_
  exact b_X7_stillBy_13 C FU p1 0 q1.2 hOq1 h

def f_X7_silentBy_13 (p1 : Int) : Nat → Int → Int → Mem → Option (Int × Mem)
  | 0, _, _, _ => none
  | n + 1, x1, x2, M => if 60 < x2 then some ((-5), M) else if 0 ≤ x1 ∧ x1 < 6 then if M 63 x1 = 0 then some (x2, M) else (f_X1_goYears 60 1 M).bind (fun q4 => f_X7_silentBy_13 p1 n x1 (w32 (x2 + 1)) q4.2) else none
def f_X7_silentBy (p1 : Int) (M : Mem) : Option (Int × Mem) :=
  (f_X1_takeSounds 60 22 M).bind (fun q1 => f_X7_silentBy_13 p1 FU p1 0 q1.2)
set_option maxRecDepth 20000 in
set_option maxHeartbeats 4000000 in
theorem b_X7_silentBy_13 {K : KX} {B : BX} {res : Int × Mem} {p1 : Int} (C : Cx K B false yX7_silentBy cX7_silentBy 3 (some .int) 3 0 0) : ∀ (n : Nat) (x1 : Int) (x2 : Int) (M : Mem), OK M → f_X7_silentBy_13 p1 n x1 x2 M = some res → Wx K B (Zr K B (some (aI res.1)) SH res.2 (OK res.2) 0 0) 0 0 SH 3 M 13 [some (aR 0), some (aI x1), some (aI x2)] [] := by
  intro n
  induction n with
  | zero =>
    intro x1 x2 M hOM h
    cases h
  | succ n ih =>
    intro x1 x2 M hOM h
    rw [f_X7_silentBy_13.eq_2] at h
    refine mx_iload_n (pc := 13) C dX7_silentBy_13 rfl ?_
    refine mx_bipush (pc := 14) C dX7_silentBy_14 (z := 60) rfl (by constructor <;> decide) ?_
    refine mx_icmp_gt (pc := 16) (tgt := 47) C dX7_silentBy_16 rfl (fun c1 => ?_) (fun c1 => ?_)
    · rw [if_pos c1] at h
      refine mx_bipush (pc := 47) C dX7_silentBy_47 (z := (-5)) rfl (by constructor <;> decide) ?_
      rw [← Option.some.inj h]
      exact mx_ireturn (pc := 49) C dX7_silentBy_49 hOM ⟨Nat.le_refl _, Nat.le_refl _⟩
    · rw [if_neg c1] at h
      refine mx_aload_n (pc := 19) C dX7_silentBy_19 rfl ?_
      refine mx_getR (pc := 20) (v := 60) C dX7_silentBy_20 so_7 ci_7 (k := 2) (by decide) fl_X7_57 rfl (q := 2) rfl (lay_7_2 hOM) (by decide) ?_
      refine mx_getR (pc := 23) (v := 63) C dX7_silentBy_23 (so_1 p_1_60) ci_1 (k := 3) (by decide) fl_X7_97 rfl (q := 3) rfl ((lay_1_3 hOM p_1_60).trans (by decide)) (by have := lot_pos p_1_60; omega) ?_
      refine mx_iload_n (pc := 26) C dX7_silentBy_26 rfl ?_
      obtain ⟨g2, h⟩ := of_gd h
      refine mx_iald (pc := 27) C dX7_silentBy_27 (rfl : shp SH 63 = some (0, 6)) g2.1 g2.2 ?_
      refine mx_if_ne (pc := 28) (tgt := 33) C dX7_silentBy_28 rfl (fun c3 => ?_) (fun c3 => ?_)
      · rw [if_neg c3] at h
        refine mx_aload_n (pc := 33) C dX7_silentBy_33 rfl ?_
        refine mx_getR (pc := 34) (v := 60) C dX7_silentBy_34 so_7 ci_7 (k := 2) (by decide) fl_X7_57 rfl (q := 2) rfl (lay_7_2 hOM) (by decide) ?_
        refine mx_iconst (pc := 37) C dX7_silentBy_37 (z := 1) rfl (by constructor <;> decide) ?_
        obtain ⟨q4, hq4, h⟩ := of_bd h
        refine mc_V (pc := 38) (as := [aI 1]) (rest := []) (stk2 := []) C ⟨Nat.le_refl _, Nat.le_refl _⟩ (m_X1_goYears hOM p_1_60 hq4) mi_X1_goYears mv_X1_goYears ml_X7_158 ci_1 rfl (so_1 p_1_60) (by omega) rfl (Nat.le_of_ble_eq_true rfl) dX7_silentBy_38 rfl (fun hp5 => ?_)
        have hOq4 : OK q4.2 := hp5
        refine mx_iinc (pc := 41) C dX7_silentBy_41 (ls' := [some (aR 0), some (aI x1), some (aI (w32 (x2 + 1)))]) rfl (by decide) rfl (by constructor <;> decide) rfl rfl ?_
        refine mx_goto (pc := 44) (tgt := 13) C dX7_silentBy_44 rfl ?_
        exact ih x1 (w32 (x2 + 1)) q4.2 hOq4 h
      · rw [if_pos c3] at h
        refine mx_iload_n (pc := 31) C dX7_silentBy_31 rfl ?_
        rw [← Option.some.inj h]
        exact mx_ireturn (pc := 32) C dX7_silentBy_32 hOM ⟨Nat.le_refl _, Nat.le_refl _⟩
set_option maxRecDepth 20000 in
set_option maxHeartbeats 4000000 in
theorem m_X7_silentBy {p1 : Int} {M : Mem} {res : Int × Mem} (hOM : OK M) (h : f_X7_silentBy p1 M = some res) : Mth false yX7_silentBy cX7_silentBy 3 (some .int) 3 0 0 SH [aR 0, aI p1] M (some (aI res.1)) SH res.2 (OK res.2) := by
  refine Mth.of (by decide +kernel) (Nat.le_of_ble_eq_true rfl) (fun K B C => ?_)
  show Wx K B _ 0 0 SH 3 M 0 [some (aR 0), some (aI p1), none] []
  unfold f_X7_silentBy at h
  refine mx_aload_n (pc := 0) C dX7_silentBy_0 rfl ?_
  refine mx_getR (pc := 1) (v := 60) C dX7_silentBy_1 so_7 ci_7 (k := 2) (by decide) fl_X7_57 rfl (q := 2) rfl (lay_7_2 hOM) (by decide) ?_
  refine mx_aload_n (pc := 4) C dX7_silentBy_4 rfl ?_
  refine mx_getR (pc := 5) (v := 22) C dX7_silentBy_5 so_7 ci_7 (k := 0) (by decide) fl_X7_50 rfl (q := 0) rfl (lay_7_0 hOM) (by decide) ?_
  obtain ⟨q1, hq1, h⟩ := of_bd h
  refine mc_V (pc := 8) (as := [aR 22]) (rest := []) (stk2 := []) C ⟨Nat.le_refl _, Nat.le_refl _⟩ (m_X1_takeSounds hOM p_1_60 p_1_22 hq1) mi_X1_takeSounds mv_X1_takeSounds ml_X7_162 ci_1 rfl (so_1 p_1_60) (by omega) rfl (Nat.le_of_ble_eq_true rfl) dX7_silentBy_8 rfl (fun hp2 => ?_)
  have hOq1 : OK q1.2 := hp2
  refine mx_iconst (pc := 11) C dX7_silentBy_11 (z := 0) rfl (by constructor <;> decide) ?_
  refine mx_istore_n (pc := 12) C dX7_silentBy_12 (ls' := [some (aR 0), some (aI p1), some (aI 0)]) (by decide) rfl rfl ?_
  exact b_X7_silentBy_13 C FU p1 0 q1.2 hOq1 h

def f_X7_when_17 (p1 : Int) (p2 : Int) (x1 : Int) (x2 : Int) (M : Mem) : Option (Int × Mem) :=
  if x1 = 1 then (f_X1_has 22 x2 M).bind (fun q2 => if q2.1 = 0 then some ((-1), q2.2) else (f_X1_isLost 22 x2 q2.2).bind (fun q5 => if q5.1 = 0 then (f_X7_silentBy x2 q5.2).bind (fun q8 => some (q8.1, q8.2)) else some ((-5), q5.2))) else some ((-1), M)
def f_X7_when (p1 : Int) (p2 : Int) (M : Mem) : Option (Int × Mem) :=
  if p1 = 0 then (f_X7_isHouse p2 M).bind (fun q2 => if q2.1 = 0 then f_X7_when_17 p1 p2 p1 p2 q2.2 else (f_X7_stillBy p2 q2.2).bind (fun q5 => some (q5.1, q5.2))) else f_X7_when_17 p1 p2 p1 p2 M
set_option maxRecDepth 20000 in
set_option maxHeartbeats 4000000 in
theorem b_X7_when_17 {K : KX} {B : BX} {res : Int × Mem} {p1 : Int} {p2 : Int} (C : Cx K B false yX7_when cX7_when 3 (some .int) 6 0 0) : ∀ (x1 : Int) (x2 : Int) (M : Mem), OK M → f_X7_when_17 p1 p2 x1 x2 M = some res → Wx K B (Zr K B (some (aI res.1)) SH res.2 (OK res.2) 0 0) 0 0 SH 3 M 17 [some (aR 0), some (aI x1), some (aI x2)] [] := by
  intro x1 x2 M hOM h
  unfold f_X7_when_17 at h
  refine mx_iload_n (pc := 17) C dX7_when_17 rfl ?_
  refine mx_iconst (pc := 18) C dX7_when_18 (z := 1) rfl (by constructor <;> decide) ?_
  refine mx_icmp_ne (pc := 19) (tgt := 55) C dX7_when_19 rfl (fun c1 => ?_) (fun c1 => ?_)
  · rw [if_neg c1] at h
    refine mx_iconst (pc := 55) C dX7_when_55 (z := (-1)) rfl (by constructor <;> decide) ?_
    rw [← Option.some.inj h]
    exact mx_ireturn (pc := 56) C dX7_when_56 hOM ⟨Nat.le_refl _, Nat.le_refl _⟩
  · rw [if_pos c1] at h
    refine mx_aload_n (pc := 22) C dX7_when_22 rfl ?_
    refine mx_getR (pc := 23) (v := 22) C dX7_when_23 so_7 ci_7 (k := 0) (by decide) fl_X7_50 rfl (q := 0) rfl (lay_7_0 hOM) (by decide) ?_
    refine mx_iload_n (pc := 26) C dX7_when_26 rfl ?_
    obtain ⟨q2, hq2, h⟩ := of_bd h
    refine mc_V (pc := 27) (as := [aI x2]) (rest := []) (stk2 := [aI q2.1]) C ⟨Nat.le_refl _, Nat.le_refl _⟩ (m_X1_has hOM p_1_22 hq2) mi_X1_has mv_X1_has ml_X7_77 ci_1 rfl (so_1 p_1_22) (by omega) rfl (Nat.le_of_ble_eq_true rfl) dX7_when_27 rfl (fun hp3 => ?_)
    have hOq2 : OK q2.2 := hp3.1
    refine mx_if_eq (pc := 30) (tgt := 55) C dX7_when_30 rfl (fun c4 => ?_) (fun c4 => ?_)
    · rw [if_pos c4] at h
      refine mx_iconst (pc := 55) C dX7_when_55 (z := (-1)) rfl (by constructor <;> decide) ?_
      rw [← Option.some.inj h]
      exact mx_ireturn (pc := 56) C dX7_when_56 hOq2 ⟨Nat.le_refl _, Nat.le_refl _⟩
    · rw [if_neg c4] at h
      refine mx_aload_n (pc := 33) C dX7_when_33 rfl ?_
      refine mx_getR (pc := 34) (v := 22) C dX7_when_34 so_7 ci_7 (k := 0) (by decide) fl_X7_50 rfl (q := 0) rfl (lay_7_0 hOq2) (by decide) ?_
      refine mx_iload_n (pc := 37) C dX7_when_37 rfl ?_
      obtain ⟨q5, hq5, h⟩ := of_bd h
      refine mc_V (pc := 38) (as := [aI x2]) (rest := []) (stk2 := [aI q5.1]) C ⟨Nat.le_refl _, Nat.le_refl _⟩ (m_X1_isLost hOq2 p_1_22 hq5) mi_X1_isLost mv_X1_isLost ml_X7_80 ci_1 rfl (so_1 p_1_22) (by omega) rfl (Nat.le_of_ble_eq_true rfl) dX7_when_38 rfl (fun hp6 => ?_)
      have hOq5 : OK q5.2 := hp6.1
      refine mx_if_eq (pc := 41) (tgt := 49) C dX7_when_41 rfl (fun c7 => ?_) (fun c7 => ?_)
      · rw [if_pos c7] at h
        refine mx_aload_n (pc := 49) C dX7_when_49 rfl ?_
        refine mx_iload_n (pc := 50) C dX7_when_50 rfl ?_
        obtain ⟨q8, hq8, h⟩ := of_bd h
        refine mc_V (pc := 51) (as := [aI x2]) (rest := []) (stk2 := [aI q8.1]) C ⟨Nat.le_refl _, Nat.le_refl _⟩ (m_X7_silentBy hOq5 hq8) mi_X7_silentBy mv_X7_silentBy ml_X7_169 ci_7 rfl so_7 (by omega) rfl (Nat.le_of_ble_eq_true rfl) dX7_when_51 rfl (fun hp9 => ?_)
        have hOq8 : OK q8.2 := hp9
        rw [← Option.some.inj h]
        exact mx_ireturn (pc := 54) C dX7_when_54 hOq8 ⟨Nat.le_refl _, Nat.le_refl _⟩
      · rw [if_neg c7] at h
        refine mx_bipush (pc := 44) C dX7_when_44 (z := (-5)) rfl (by constructor <;> decide) ?_
        refine mx_goto (pc := 46) (tgt := 54) C dX7_when_46 rfl ?_
        rw [← Option.some.inj h]
        exact mx_ireturn (pc := 54) C dX7_when_54 hOq5 ⟨Nat.le_refl _, Nat.le_refl _⟩
set_option maxRecDepth 20000 in
set_option maxHeartbeats 4000000 in
theorem m_X7_when {p1 : Int} {p2 : Int} {M : Mem} {res : Int × Mem} (hOM : OK M) (h : f_X7_when p1 p2 M = some res) : Mth false yX7_when cX7_when 3 (some .int) 6 0 0 SH [aR 0, aI p1, aI p2] M (some (aI res.1)) SH res.2 (OK res.2) := by
  refine Mth.of (by decide +kernel) (Nat.le_of_ble_eq_true rfl) (fun K B C => ?_)
  show Wx K B _ 0 0 SH 3 M 0 [some (aR 0), some (aI p1), some (aI p2)] []
  unfold f_X7_when at h
  refine mx_iload_n (pc := 0) C dX7_when_0 rfl ?_
  refine mx_if_ne (pc := 1) (tgt := 17) C dX7_when_1 rfl (fun c1 => ?_) (fun c1 => ?_)
  · rw [if_neg c1] at h
    exact b_X7_when_17 C p1 p2 M hOM h
  · rw [if_pos c1] at h
    refine mx_iload_n (pc := 4) C dX7_when_4 rfl ?_
    obtain ⟨q2, hq2, h⟩ := of_bd h
    refine mc_S (pc := 5) (as := [aI p2]) (rest := []) (stk2 := [aI q2.1]) C ⟨Nat.le_refl _, Nat.le_refl _⟩ (m_X7_isHouse hOM hq2) mi_X7_isHouse ms_X7_isHouse ml_X7_65 (by omega) rfl (Nat.le_of_ble_eq_true rfl) dX7_when_5 rfl (fun hp3 => ?_)
    have hOq2 : OK q2.2 := hp3.1
    refine mx_if_eq (pc := 8) (tgt := 17) C dX7_when_8 rfl (fun c4 => ?_) (fun c4 => ?_)
    · rw [if_pos c4] at h
      exact b_X7_when_17 C p1 p2 q2.2 hOq2 h
    · rw [if_neg c4] at h
      refine mx_aload_n (pc := 11) C dX7_when_11 rfl ?_
      refine mx_iload_n (pc := 12) C dX7_when_12 rfl ?_
      obtain ⟨q5, hq5, h⟩ := of_bd h
      refine mc_V (pc := 13) (as := [aI p2]) (rest := []) (stk2 := [aI q5.1]) C ⟨Nat.le_refl _, Nat.le_refl _⟩ (m_X7_stillBy hOq2 hq5) mi_X7_stillBy mv_X7_stillBy ml_X7_166 ci_7 rfl so_7 (by omega) rfl (Nat.le_of_ble_eq_true rfl) dX7_when_13 rfl (fun hp6 => ?_)
      have hOq5 : OK q5.2 := hp6
      rw [← Option.some.inj h]
      exact mx_ireturn (pc := 16) C dX7_when_16 hOq5 ⟨Nat.le_refl _, Nat.le_refl _⟩

def f_X7_home (p1 : Int) (M : Mem) : Option (Int × Mem) :=
  (f_X1_has 22 p1 M).bind (fun q1 => if q1.1 = 0 then some ((-1), q1.2) else (f_X6_take 22 q1.2).bind (fun q4 => (f_X6_calmestHouse p1 q4.2).bind (fun q6 => some (q6.1, q6.2))))
set_option maxRecDepth 20000 in
set_option maxHeartbeats 4000000 in
theorem m_X7_home {p1 : Int} {M : Mem} {res : Int × Mem} (hOM : OK M) (h : f_X7_home p1 M = some res) : Mth false yX7_home cX7_home 2 (some .int) 4 0 0 SH [aR 0, aI p1] M (some (aI res.1)) SH res.2 (OK res.2) := by
  refine Mth.of (by decide +kernel) (Nat.le_of_ble_eq_true rfl) (fun K B C => ?_)
  show Wx K B _ 0 0 SH 2 M 0 [some (aR 0), some (aI p1)] []
  unfold f_X7_home at h
  refine mx_aload_n (pc := 0) C dX7_home_0 rfl ?_
  refine mx_getR (pc := 1) (v := 22) C dX7_home_1 so_7 ci_7 (k := 0) (by decide) fl_X7_50 rfl (q := 0) rfl (lay_7_0 hOM) (by decide) ?_
  refine mx_iload_n (pc := 4) C dX7_home_4 rfl ?_
  obtain ⟨q1, hq1, h⟩ := of_bd h
  refine mc_V (pc := 5) (as := [aI p1]) (rest := []) (stk2 := [aI q1.1]) C ⟨Nat.le_refl _, Nat.le_refl _⟩ (m_X1_has hOM p_1_22 hq1) mi_X1_has mv_X1_has ml_X7_77 ci_1 rfl (so_1 p_1_22) (by omega) rfl (Nat.le_of_ble_eq_true rfl) dX7_home_5 rfl (fun hp2 => ?_)
  have hOq1 : OK q1.2 := hp2.1
  refine mx_if_ne (pc := 8) (tgt := 13) C dX7_home_8 rfl (fun c3 => ?_) (fun c3 => ?_)
  · rw [if_neg c3] at h
    refine mx_aload_n (pc := 13) C dX7_home_13 rfl ?_
    refine mx_getR (pc := 14) (v := 4) C dX7_home_14 so_7 ci_7 (k := 7) (by decide) fl_X7_27 rfl (q := 7) rfl (lay_7_7 hOq1) (by decide) ?_
    refine mx_aload_n (pc := 17) C dX7_home_17 rfl ?_
    refine mx_getR (pc := 18) (v := 22) C dX7_home_18 so_7 ci_7 (k := 0) (by decide) fl_X7_50 rfl (q := 0) rfl (lay_7_0 hOq1) (by decide) ?_
    obtain ⟨q4, hq4, h⟩ := of_bd h
    refine mc_V (pc := 21) (as := [aR 22]) (rest := []) (stk2 := []) C ⟨Nat.le_refl _, Nat.le_refl _⟩ (m_X6_take hOq1 p_1_22 hq4) mi_X6_take mv_X6_take ml_X7_172 ci_6 rfl so_6 (by omega) rfl (Nat.le_of_ble_eq_true rfl) dX7_home_21 rfl (fun hp5 => ?_)
    have hOq4 : OK q4.2 := hp5
    refine mx_aload_n (pc := 24) C dX7_home_24 rfl ?_
    refine mx_getR (pc := 25) (v := 4) C dX7_home_25 so_7 ci_7 (k := 7) (by decide) fl_X7_27 rfl (q := 7) rfl (lay_7_7 hOq4) (by decide) ?_
    refine mx_iload_n (pc := 28) C dX7_home_28 rfl ?_
    obtain ⟨q6, hq6, h⟩ := of_bd h
    refine mc_V (pc := 29) (as := [aI p1]) (rest := []) (stk2 := [aI q6.1]) C ⟨Nat.le_refl _, Nat.le_refl _⟩ (m_X6_calmestHouse hOq4 hq6) mi_X6_calmestHouse mv_X6_calmestHouse ml_X7_175 ci_6 rfl so_6 (by omega) rfl (Nat.le_of_ble_eq_true rfl) dX7_home_29 rfl (fun hp7 => ?_)
    have hOq6 : OK q6.2 := hp7
    rw [← Option.some.inj h]
    exact mx_ireturn (pc := 32) C dX7_home_32 hOq6 ⟨Nat.le_refl _, Nat.le_refl _⟩
  · rw [if_pos c3] at h
    refine mx_iconst (pc := 11) C dX7_home_11 (z := (-1)) rfl (by constructor <;> decide) ?_
    rw [← Option.some.inj h]
    exact mx_ireturn (pc := 12) C dX7_home_12 hOq1 ⟨Nat.le_refl _, Nat.le_refl _⟩

def f_X7_shared_61 (p1 : Int) (x1 : Int) (x2 : Int) (x3 : Int) (M : Mem) : Option (Int × Mem) :=
  (f_X6_take 22 M).bind (fun q1 => (f_X6_shareOut q1.2).bind (fun q3 => if x3 = 0 then if x1 = 0 then some (q3.2 4 9, q3.2) else some (q3.2 4 10, q3.2) else if 0 ≤ x2 ∧ x2 < 6 then some (q3.2 11 x2, q3.2) else none))
def f_X7_shared_43 (p1 : Int) (x1 : Int) (x2 : Int) (x3 : Int) (M : Mem) : Option (Int × Mem) :=
  if x3 = 0 then f_X7_shared_61 p1 x1 x2 x3 M else (f_X1_isLost 22 x2 M).bind (fun q2 => if q2.1 = 0 then f_X7_shared_61 p1 x1 x2 x3 q2.2 else some ((-5), q2.2))
def f_X7_shared_27 (p1 : Int) (x1 : Int) (x2 : Int) (t0 : Int) (M : Mem) : Option (Int × Mem) :=
  if x1 = 0 then f_X7_shared_43 p1 x1 x2 t0 M else if x1 = 1 then f_X7_shared_43 p1 x1 x2 t0 M else if t0 = 0 then some ((-1), M) else f_X7_shared_43 p1 x1 x2 t0 M
def f_X7_shared_26 (p1 : Int) (x1 : Int) (x2 : Int) (M : Mem) : Option (Int × Mem) :=
  f_X7_shared_27 p1 x1 x2 0 M
def f_X7_shared (p1 : Int) (M : Mem) : Option (Int × Mem) :=
  if p1 < 10 then f_X7_shared_26 p1 p1 (w32 (p1 - 10)) M else (f_X1_has 22 (w32 (p1 - 10)) M).bind (fun q2 => if q2.1 = 0 then f_X7_shared_26 p1 p1 (w32 (p1 - 10)) q2.2 else f_X7_shared_27 p1 p1 (w32 (p1 - 10)) 1 q2.2)
set_option maxRecDepth 20000 in
set_option maxHeartbeats 4000000 in
theorem b_X7_shared_61 {K : KX} {B : BX} {res : Int × Mem} {p1 : Int} (C : Cx K B false yX7_shared cX7_shared 4 (some .int) 26 0 0) : ∀ (x1 : Int) (x2 : Int) (x3 : Int) (M : Mem), OK M → f_X7_shared_61 p1 x1 x2 x3 M = some res → Wx K B (Zr K B (some (aI res.1)) SH res.2 (OK res.2) 0 0) 0 0 SH 4 M 61 [some (aR 0), some (aI x1), some (aI x2), some (aI x3)] [] := by
  intro x1 x2 x3 M hOM h
  unfold f_X7_shared_61 at h
  refine mx_aload_n (pc := 61) C dX7_shared_61 rfl ?_
  refine mx_getR (pc := 62) (v := 4) C dX7_shared_62 so_7 ci_7 (k := 7) (by decide) fl_X7_27 rfl (q := 7) rfl (lay_7_7 hOM) (by decide) ?_
  refine mx_aload_n (pc := 65) C dX7_shared_65 rfl ?_
  refine mx_getR (pc := 66) (v := 22) C dX7_shared_66 so_7 ci_7 (k := 0) (by decide) fl_X7_50 rfl (q := 0) rfl (lay_7_0 hOM) (by decide) ?_
  obtain ⟨q1, hq1, h⟩ := of_bd h
  refine mc_V (pc := 69) (as := [aR 22]) (rest := []) (stk2 := []) C ⟨Nat.le_refl _, Nat.le_refl _⟩ (m_X6_take hOM p_1_22 hq1) mi_X6_take mv_X6_take ml_X7_172 ci_6 rfl so_6 (by omega) rfl (Nat.le_of_ble_eq_true rfl) dX7_shared_69 rfl (fun hp2 => ?_)
  have hOq1 : OK q1.2 := hp2
  refine mx_aload_n (pc := 72) C dX7_shared_72 rfl ?_
  refine mx_getR (pc := 73) (v := 4) C dX7_shared_73 so_7 ci_7 (k := 7) (by decide) fl_X7_27 rfl (q := 7) rfl (lay_7_7 hOq1) (by decide) ?_
  obtain ⟨q3, hq3, h⟩ := of_bd h
  refine mc_V (pc := 76) (as := []) (rest := []) (stk2 := []) C ⟨Nat.le_refl _, Nat.le_refl _⟩ (m_X6_shareOut hOq1 hq3) mi_X6_shareOut mv_X6_shareOut ml_X7_178 ci_6 rfl so_6 (by omega) rfl (Nat.le_of_ble_eq_true rfl) dX7_shared_76 rfl (fun hp4 => ?_)
  have hOq3 : OK q3.2 := hp4
  refine mx_iload_n (pc := 79) C dX7_shared_79 rfl ?_
  refine mx_if_eq (pc := 80) (tgt := 93) C dX7_shared_80 rfl (fun c5 => ?_) (fun c5 => ?_)
  · rw [if_pos c5] at h
    refine mx_iload_n (pc := 93) C dX7_shared_93 rfl ?_
    refine mx_if_ne (pc := 94) (tgt := 107) C dX7_shared_94 rfl (fun c6 => ?_) (fun c6 => ?_)
    · rw [if_neg c6] at h
      refine mx_aload_n (pc := 107) C dX7_shared_107 rfl ?_
      refine mx_getR (pc := 108) (v := 4) C dX7_shared_108 so_7 ci_7 (k := 7) (by decide) fl_X7_27 rfl (q := 7) rfl (lay_7_7 hOq3) (by decide) ?_
      refine mx_getI (pc := 111) C dX7_shared_111 so_6 ci_6 (k := 10) (by decide) fl_X7_187 rfl (q := 10) rfl ?_
      rw [← Option.some.inj h]
      exact mx_ireturn (pc := 114) C dX7_shared_114 hOq3 ⟨Nat.le_refl _, Nat.le_refl _⟩
    · rw [if_pos c6] at h
      refine mx_aload_n (pc := 97) C dX7_shared_97 rfl ?_
      refine mx_getR (pc := 98) (v := 4) C dX7_shared_98 so_7 ci_7 (k := 7) (by decide) fl_X7_27 rfl (q := 7) rfl (lay_7_7 hOq3) (by decide) ?_
      refine mx_getI (pc := 101) C dX7_shared_101 so_6 ci_6 (k := 9) (by decide) fl_X7_184 rfl (q := 9) rfl ?_
      refine mx_goto (pc := 104) (tgt := 114) C dX7_shared_104 rfl ?_
      rw [← Option.some.inj h]
      exact mx_ireturn (pc := 114) C dX7_shared_114 hOq3 ⟨Nat.le_refl _, Nat.le_refl _⟩
  · rw [if_neg c5] at h
    refine mx_aload_n (pc := 83) C dX7_shared_83 rfl ?_
    refine mx_getR (pc := 84) (v := 4) C dX7_shared_84 so_7 ci_7 (k := 7) (by decide) fl_X7_27 rfl (q := 7) rfl (lay_7_7 hOq3) (by decide) ?_
    refine mx_getR (pc := 87) (v := 11) C dX7_shared_87 so_6 ci_6 (k := 8) (by decide) fl_X7_181 rfl (q := 8) rfl (lay_6_8 hOq3) (by decide) ?_
    refine mx_iload_n (pc := 90) C dX7_shared_90 rfl ?_
    obtain ⟨g7, h⟩ := of_gd h
    refine mx_iald (pc := 91) C dX7_shared_91 sh_6_8 g7.1 g7.2 ?_
    rw [← Option.some.inj h]
    exact mx_ireturn (pc := 92) C dX7_shared_92 hOq3 ⟨Nat.le_refl _, Nat.le_refl _⟩
set_option maxRecDepth 20000 in
set_option maxHeartbeats 4000000 in
theorem b_X7_shared_43 {K : KX} {B : BX} {res : Int × Mem} {p1 : Int} (C : Cx K B false yX7_shared cX7_shared 4 (some .int) 26 0 0) : ∀ (x1 : Int) (x2 : Int) (x3 : Int) (M : Mem), OK M → f_X7_shared_43 p1 x1 x2 x3 M = some res → Wx K B (Zr K B (some (aI res.1)) SH res.2 (OK res.2) 0 0) 0 0 SH 4 M 43 [some (aR 0), some (aI x1), some (aI x2), some (aI x3)] [] := by
  intro x1 x2 x3 M hOM h
  unfold f_X7_shared_43 at h
  refine mx_iload_n (pc := 43) C dX7_shared_43 rfl ?_
  refine mx_if_eq (pc := 44) (tgt := 61) C dX7_shared_44 rfl (fun c1 => ?_) (fun c1 => ?_)
  · rw [if_pos c1] at h
    exact b_X7_shared_61 C x1 x2 x3 M hOM h
  · rw [if_neg c1] at h
    refine mx_aload_n (pc := 47) C dX7_shared_47 rfl ?_
    refine mx_getR (pc := 48) (v := 22) C dX7_shared_48 so_7 ci_7 (k := 0) (by decide) fl_X7_50 rfl (q := 0) rfl (lay_7_0 hOM) (by decide) ?_
    refine mx_iload_n (pc := 51) C dX7_shared_51 rfl ?_
    obtain ⟨q2, hq2, h⟩ := of_bd h
    refine mc_V (pc := 52) (as := [aI x2]) (rest := []) (stk2 := [aI q2.1]) C ⟨Nat.le_refl _, Nat.le_refl _⟩ (m_X1_isLost hOM p_1_22 hq2) mi_X1_isLost mv_X1_isLost ml_X7_80 ci_1 rfl (so_1 p_1_22) (by omega) rfl (Nat.le_of_ble_eq_true rfl) dX7_shared_52 rfl (fun hp3 => ?_)
    have hOq2 : OK q2.2 := hp3.1
    refine mx_if_eq (pc := 55) (tgt := 61) C dX7_shared_55 rfl (fun c4 => ?_) (fun c4 => ?_)
    · rw [if_pos c4] at h
      exact b_X7_shared_61 C x1 x2 x3 q2.2 hOq2 h
    · rw [if_neg c4] at h
      refine mx_bipush (pc := 58) C dX7_shared_58 (z := (-5)) rfl (by constructor <;> decide) ?_
      rw [← Option.some.inj h]
      exact mx_ireturn (pc := 60) C dX7_shared_60 hOq2 ⟨Nat.le_refl _, Nat.le_refl _⟩
set_option maxRecDepth 20000 in
set_option maxHeartbeats 4000000 in
theorem b_X7_shared_27 {K : KX} {B : BX} {res : Int × Mem} {p1 : Int} (C : Cx K B false yX7_shared cX7_shared 4 (some .int) 26 0 0) : ∀ (x1 : Int) (x2 : Int) (t0 : Int) (M : Mem), OK M → f_X7_shared_27 p1 x1 x2 t0 M = some res → Wx K B (Zr K B (some (aI res.1)) SH res.2 (OK res.2) 0 0) 0 0 SH 4 M 27 [some (aR 0), some (aI x1), some (aI x2), none] [aI t0] := by
  intro x1 x2 t0 M hOM h
  unfold f_X7_shared_27 at h
  refine mx_istore_n (pc := 27) C dX7_shared_27 (ls' := [some (aR 0), some (aI x1), some (aI x2), some (aI t0)]) (by decide) rfl rfl ?_
  refine mx_iload_n (pc := 28) C dX7_shared_28 rfl ?_
  refine mx_if_eq (pc := 29) (tgt := 43) C dX7_shared_29 rfl (fun c1 => ?_) (fun c1 => ?_)
  · rw [if_pos c1] at h
    exact b_X7_shared_43 C x1 x2 t0 M hOM h
  · rw [if_neg c1] at h
    refine mx_iload_n (pc := 32) C dX7_shared_32 rfl ?_
    refine mx_iconst (pc := 33) C dX7_shared_33 (z := 1) rfl (by constructor <;> decide) ?_
    refine mx_icmp_eq (pc := 34) (tgt := 43) C dX7_shared_34 rfl (fun c2 => ?_) (fun c2 => ?_)
    · rw [if_pos c2] at h
      exact b_X7_shared_43 C x1 x2 t0 M hOM h
    · rw [if_neg c2] at h
      refine mx_iload_n (pc := 37) C dX7_shared_37 rfl ?_
      refine mx_if_ne (pc := 38) (tgt := 43) C dX7_shared_38 rfl (fun c3 => ?_) (fun c3 => ?_)
      · rw [if_neg c3] at h
        exact b_X7_shared_43 C x1 x2 t0 M hOM h
      · rw [if_pos c3] at h
        refine mx_iconst (pc := 41) C dX7_shared_41 (z := (-1)) rfl (by constructor <;> decide) ?_
        rw [← Option.some.inj h]
        exact mx_ireturn (pc := 42) C dX7_shared_42 hOM ⟨Nat.le_refl _, Nat.le_refl _⟩
set_option maxRecDepth 20000 in
set_option maxHeartbeats 4000000 in
theorem b_X7_shared_26 {K : KX} {B : BX} {res : Int × Mem} {p1 : Int} (C : Cx K B false yX7_shared cX7_shared 4 (some .int) 26 0 0) : ∀ (x1 : Int) (x2 : Int) (M : Mem), OK M → f_X7_shared_26 p1 x1 x2 M = some res → Wx K B (Zr K B (some (aI res.1)) SH res.2 (OK res.2) 0 0) 0 0 SH 4 M 26 [some (aR 0), some (aI x1), some (aI x2), none] [] := by
  intro x1 x2 M hOM h
  unfold f_X7_shared_26 at h
  refine mx_iconst (pc := 26) C dX7_shared_26 (z := 0) rfl (by constructor <;> decide) ?_
  exact b_X7_shared_27 C x1 x2 0 M hOM h
set_option maxRecDepth 20000 in
set_option maxHeartbeats 4000000 in
theorem m_X7_shared {p1 : Int} {M : Mem} {res : Int × Mem} (hOM : OK M) (h : f_X7_shared p1 M = some res) : Mth false yX7_shared cX7_shared 4 (some .int) 26 0 0 SH [aR 0, aI p1] M (some (aI res.1)) SH res.2 (OK res.2) := by
  refine Mth.of (by decide +kernel) (Nat.le_of_ble_eq_true rfl) (fun K B C => ?_)
  show Wx K B _ 0 0 SH 4 M 0 [some (aR 0), some (aI p1), none, none] []
  unfold f_X7_shared at h
  refine mx_iload_n (pc := 0) C dX7_shared_0 rfl ?_
  refine mx_bipush (pc := 1) C dX7_shared_1 (z := 10) rfl (by constructor <;> decide) ?_
  refine mx_isub (pc := 3) C dX7_shared_3  ?_
  refine mx_istore_n (pc := 4) C dX7_shared_4 (ls' := [some (aR 0), some (aI p1), some (aI (w32 (p1 - 10))), none]) (by decide) rfl rfl ?_
  refine mx_iload_n (pc := 5) C dX7_shared_5 rfl ?_
  refine mx_bipush (pc := 6) C dX7_shared_6 (z := 10) rfl (by constructor <;> decide) ?_
  refine mx_icmp_lt (pc := 8) (tgt := 26) C dX7_shared_8 rfl (fun c1 => ?_) (fun c1 => ?_)
  · rw [if_pos c1] at h
    exact b_X7_shared_26 C p1 (w32 (p1 - 10)) M hOM h
  · rw [if_neg c1] at h
    refine mx_aload_n (pc := 11) C dX7_shared_11 rfl ?_
    refine mx_getR (pc := 12) (v := 22) C dX7_shared_12 so_7 ci_7 (k := 0) (by decide) fl_X7_50 rfl (q := 0) rfl (lay_7_0 hOM) (by decide) ?_
    refine mx_iload_n (pc := 15) C dX7_shared_15 rfl ?_
    obtain ⟨q2, hq2, h⟩ := of_bd h
    refine mc_V (pc := 16) (as := [aI (w32 (p1 - 10))]) (rest := []) (stk2 := [aI q2.1]) C ⟨Nat.le_refl _, Nat.le_refl _⟩ (m_X1_has hOM p_1_22 hq2) mi_X1_has mv_X1_has ml_X7_77 ci_1 rfl (so_1 p_1_22) (by omega) rfl (Nat.le_of_ble_eq_true rfl) dX7_shared_16 rfl (fun hp3 => ?_)
    have hOq2 : OK q2.2 := hp3.1
    refine mx_if_eq (pc := 19) (tgt := 26) C dX7_shared_19 rfl (fun c4 => ?_) (fun c4 => ?_)
    · rw [if_pos c4] at h
      exact b_X7_shared_26 C p1 (w32 (p1 - 10)) q2.2 hOq2 h
    · rw [if_neg c4] at h
      refine mx_iconst (pc := 22) C dX7_shared_22 (z := 1) rfl (by constructor <;> decide) ?_
      refine mx_goto (pc := 23) (tgt := 27) C dX7_shared_23 rfl ?_
      exact b_X7_shared_27 C p1 (w32 (p1 - 10)) 1 q2.2 hOq2 h

def f_X7_best_11 (p1 : Int) (x1 : Int) (M : Mem) : Option (Int × Mem) :=
  (f_X6_take 22 M).bind (fun q1 => if x1 = 0 then (f_X6_bestSwap q1.2).bind (fun q6 => some (q6.1, q6.2)) else (f_X6_worstSound q1.2).bind (fun q4 => some (q4.1, q4.2)))
def f_X7_best (p1 : Int) (M : Mem) : Option (Int × Mem) :=
  if p1 = 0 then f_X7_best_11 p1 p1 M else if p1 = 1 then f_X7_best_11 p1 p1 M else some ((-1), M)
set_option maxRecDepth 20000 in
set_option maxHeartbeats 4000000 in
theorem b_X7_best_11 {K : KX} {B : BX} {res : Int × Mem} {p1 : Int} (C : Cx K B false yX7_best cX7_best 2 (some .int) 5 0 0) : ∀ (x1 : Int) (M : Mem), OK M → f_X7_best_11 p1 x1 M = some res → Wx K B (Zr K B (some (aI res.1)) SH res.2 (OK res.2) 0 0) 0 0 SH 2 M 11 [some (aR 0), some (aI x1)] [] := by
  intro x1 M hOM h
  unfold f_X7_best_11 at h
  refine mx_aload_n (pc := 11) C dX7_best_11 rfl ?_
  refine mx_getR (pc := 12) (v := 4) C dX7_best_12 so_7 ci_7 (k := 7) (by decide) fl_X7_27 rfl (q := 7) rfl (lay_7_7 hOM) (by decide) ?_
  refine mx_aload_n (pc := 15) C dX7_best_15 rfl ?_
  refine mx_getR (pc := 16) (v := 22) C dX7_best_16 so_7 ci_7 (k := 0) (by decide) fl_X7_50 rfl (q := 0) rfl (lay_7_0 hOM) (by decide) ?_
  obtain ⟨q1, hq1, h⟩ := of_bd h
  refine mc_V (pc := 19) (as := [aR 22]) (rest := []) (stk2 := []) C ⟨Nat.le_refl _, Nat.le_refl _⟩ (m_X6_take hOM p_1_22 hq1) mi_X6_take mv_X6_take ml_X7_172 ci_6 rfl so_6 (by omega) rfl (Nat.le_of_ble_eq_true rfl) dX7_best_19 rfl (fun hp2 => ?_)
  have hOq1 : OK q1.2 := hp2
  refine mx_iload_n (pc := 22) C dX7_best_22 rfl ?_
  refine mx_if_ne (pc := 23) (tgt := 36) C dX7_best_23 rfl (fun c3 => ?_) (fun c3 => ?_)
  · rw [if_neg c3] at h
    refine mx_aload_n (pc := 36) C dX7_best_36 rfl ?_
    refine mx_getR (pc := 37) (v := 4) C dX7_best_37 so_7 ci_7 (k := 7) (by decide) fl_X7_27 rfl (q := 7) rfl (lay_7_7 hOq1) (by decide) ?_
    obtain ⟨q4, hq4, h⟩ := of_bd h
    refine mc_V (pc := 40) (as := []) (rest := []) (stk2 := [aI q4.1]) C ⟨Nat.le_refl _, Nat.le_refl _⟩ (m_X6_worstSound hOq1 hq4) mi_X6_worstSound mv_X6_worstSound ml_X7_193 ci_6 rfl so_6 (by omega) rfl (Nat.le_of_ble_eq_true rfl) dX7_best_40 rfl (fun hp5 => ?_)
    have hOq4 : OK q4.2 := hp5
    rw [← Option.some.inj h]
    exact mx_ireturn (pc := 43) C dX7_best_43 hOq4 ⟨Nat.le_refl _, Nat.le_refl _⟩
  · rw [if_pos c3] at h
    refine mx_aload_n (pc := 26) C dX7_best_26 rfl ?_
    refine mx_getR (pc := 27) (v := 4) C dX7_best_27 so_7 ci_7 (k := 7) (by decide) fl_X7_27 rfl (q := 7) rfl (lay_7_7 hOq1) (by decide) ?_
    obtain ⟨q6, hq6, h⟩ := of_bd h
    refine mc_V (pc := 30) (as := []) (rest := []) (stk2 := [aI q6.1]) C ⟨Nat.le_refl _, Nat.le_refl _⟩ (m_X6_bestSwap hOq1 hq6) mi_X6_bestSwap mv_X6_bestSwap ml_X7_190 ci_6 rfl so_6 (by omega) rfl (Nat.le_of_ble_eq_true rfl) dX7_best_30 rfl (fun hp7 => ?_)
    have hOq6 : OK q6.2 := hp7
    refine mx_goto (pc := 33) (tgt := 43) C dX7_best_33 rfl ?_
    rw [← Option.some.inj h]
    exact mx_ireturn (pc := 43) C dX7_best_43 hOq6 ⟨Nat.le_refl _, Nat.le_refl _⟩
set_option maxRecDepth 20000 in
set_option maxHeartbeats 4000000 in
theorem m_X7_best {p1 : Int} {M : Mem} {res : Int × Mem} (hOM : OK M) (h : f_X7_best p1 M = some res) : Mth false yX7_best cX7_best 2 (some .int) 5 0 0 SH [aR 0, aI p1] M (some (aI res.1)) SH res.2 (OK res.2) := by
  refine Mth.of (by decide +kernel) (Nat.le_of_ble_eq_true rfl) (fun K B C => ?_)
  show Wx K B _ 0 0 SH 2 M 0 [some (aR 0), some (aI p1)] []
  unfold f_X7_best at h
  refine mx_iload_n (pc := 0) C dX7_best_0 rfl ?_
  refine mx_if_eq (pc := 1) (tgt := 11) C dX7_best_1 rfl (fun c1 => ?_) (fun c1 => ?_)
  · rw [if_pos c1] at h
    exact b_X7_best_11 C p1 M hOM h
  · rw [if_neg c1] at h
    refine mx_iload_n (pc := 4) C dX7_best_4 rfl ?_
    refine mx_iconst (pc := 5) C dX7_best_5 (z := 1) rfl (by constructor <;> decide) ?_
    refine mx_icmp_eq (pc := 6) (tgt := 11) C dX7_best_6 rfl (fun c2 => ?_) (fun c2 => ?_)
    · rw [if_pos c2] at h
      exact b_X7_best_11 C p1 M hOM h
    · rw [if_neg c2] at h
      refine mx_iconst (pc := 9) C dX7_best_9 (z := (-1)) rfl (by constructor <;> decide) ?_
      rw [← Option.some.inj h]
      exact mx_ireturn (pc := 10) C dX7_best_10 hOM ⟨Nat.le_refl _, Nat.le_refl _⟩

def f_X7_fewest (p1 : Int) (M : Mem) : Option (Int × Mem) :=
  if p1 < (-1) then some ((-1), M) else if p1 < 3 then (f_X6_take 22 M).bind (fun q3 => (f_X6_fewestSteps q3.2).bind (fun q5 => if p1 = (-1) then some (q5.1, q5.2) else if q5.1 ≤ p1 then some ((-5), q5.2) else if 0 ≤ p1 ∧ p1 < 3 then some (q5.2 12 p1, q5.2) else none)) else some ((-1), M)
set_option maxRecDepth 20000 in
set_option maxHeartbeats 4000000 in
theorem m_X7_fewest {p1 : Int} {M : Mem} {res : Int × Mem} (hOM : OK M) (h : f_X7_fewest p1 M = some res) : Mth false yX7_fewest cX7_fewest 3 (some .int) 17 0 0 SH [aR 0, aI p1] M (some (aI res.1)) SH res.2 (OK res.2) := by
  refine Mth.of (by decide +kernel) (Nat.le_of_ble_eq_true rfl) (fun K B C => ?_)
  show Wx K B _ 0 0 SH 3 M 0 [some (aR 0), some (aI p1), none] []
  unfold f_X7_fewest at h
  refine mx_iload_n (pc := 0) C dX7_fewest_0 rfl ?_
  refine mx_iconst (pc := 1) C dX7_fewest_1 (z := (-1)) rfl (by constructor <;> decide) ?_
  refine mx_icmp_lt (pc := 2) (tgt := 10) C dX7_fewest_2 rfl (fun c1 => ?_) (fun c1 => ?_)
  · rw [if_pos c1] at h
    refine mx_iconst (pc := 10) C dX7_fewest_10 (z := (-1)) rfl (by constructor <;> decide) ?_
    rw [← Option.some.inj h]
    exact mx_ireturn (pc := 11) C dX7_fewest_11 hOM ⟨Nat.le_refl _, Nat.le_refl _⟩
  · rw [if_neg c1] at h
    refine mx_iload_n (pc := 5) C dX7_fewest_5 rfl ?_
    refine mx_iconst (pc := 6) C dX7_fewest_6 (z := 3) rfl (by constructor <;> decide) ?_
    refine mx_icmp_lt (pc := 7) (tgt := 12) C dX7_fewest_7 rfl (fun c2 => ?_) (fun c2 => ?_)
    · rw [if_pos c2] at h
      refine mx_aload_n (pc := 12) C dX7_fewest_12 rfl ?_
      refine mx_getR (pc := 13) (v := 4) C dX7_fewest_13 so_7 ci_7 (k := 7) (by decide) fl_X7_27 rfl (q := 7) rfl (lay_7_7 hOM) (by decide) ?_
      refine mx_aload_n (pc := 16) C dX7_fewest_16 rfl ?_
      refine mx_getR (pc := 17) (v := 22) C dX7_fewest_17 so_7 ci_7 (k := 0) (by decide) fl_X7_50 rfl (q := 0) rfl (lay_7_0 hOM) (by decide) ?_
      obtain ⟨q3, hq3, h⟩ := of_bd h
      refine mc_V (pc := 20) (as := [aR 22]) (rest := []) (stk2 := []) C ⟨Nat.le_refl _, Nat.le_refl _⟩ (m_X6_take hOM p_1_22 hq3) mi_X6_take mv_X6_take ml_X7_172 ci_6 rfl so_6 (by omega) rfl (Nat.le_of_ble_eq_true rfl) dX7_fewest_20 rfl (fun hp4 => ?_)
      have hOq3 : OK q3.2 := hp4
      refine mx_aload_n (pc := 23) C dX7_fewest_23 rfl ?_
      refine mx_getR (pc := 24) (v := 4) C dX7_fewest_24 so_7 ci_7 (k := 7) (by decide) fl_X7_27 rfl (q := 7) rfl (lay_7_7 hOq3) (by decide) ?_
      obtain ⟨q5, hq5, h⟩ := of_bd h
      refine mc_V (pc := 27) (as := []) (rest := []) (stk2 := [aI q5.1]) C ⟨Nat.le_refl _, Nat.le_refl _⟩ (m_X6_fewestSteps hOq3 hq5) mi_X6_fewestSteps mv_X6_fewestSteps ml_X7_196 ci_6 rfl so_6 (by omega) rfl (Nat.le_of_ble_eq_true rfl) dX7_fewest_27 rfl (fun hp6 => ?_)
      have hOq5 : OK q5.2 := hp6
      refine mx_istore_n (pc := 30) C dX7_fewest_30 (ls' := [some (aR 0), some (aI p1), some (aI q5.1)]) (by decide) rfl rfl ?_
      refine mx_iload_n (pc := 31) C dX7_fewest_31 rfl ?_
      refine mx_iconst (pc := 32) C dX7_fewest_32 (z := (-1)) rfl (by constructor <;> decide) ?_
      refine mx_icmp_ne (pc := 33) (tgt := 38) C dX7_fewest_33 rfl (fun c7 => ?_) (fun c7 => ?_)
      · rw [if_neg c7] at h
        refine mx_iload_n (pc := 38) C dX7_fewest_38 rfl ?_
        refine mx_iload_n (pc := 39) C dX7_fewest_39 rfl ?_
        refine mx_icmp_ge (pc := 40) (tgt := 55) C dX7_fewest_40 rfl (fun c8 => ?_) (fun c8 => ?_)
        · rw [if_pos c8] at h
          refine mx_bipush (pc := 55) C dX7_fewest_55 (z := (-5)) rfl (by constructor <;> decide) ?_
          rw [← Option.some.inj h]
          exact mx_ireturn (pc := 57) C dX7_fewest_57 hOq5 ⟨Nat.le_refl _, Nat.le_refl _⟩
        · rw [if_neg c8] at h
          refine mx_aload_n (pc := 43) C dX7_fewest_43 rfl ?_
          refine mx_getR (pc := 44) (v := 4) C dX7_fewest_44 so_7 ci_7 (k := 7) (by decide) fl_X7_27 rfl (q := 7) rfl (lay_7_7 hOq5) (by decide) ?_
          refine mx_getR (pc := 47) (v := 12) C dX7_fewest_47 so_6 ci_6 (k := 11) (by decide) fl_X7_199 rfl (q := 11) rfl (lay_6_11 hOq5) (by decide) ?_
          refine mx_iload_n (pc := 50) C dX7_fewest_50 rfl ?_
          obtain ⟨g9, h⟩ := of_gd h
          refine mx_iald (pc := 51) C dX7_fewest_51 sh_6_11 g9.1 g9.2 ?_
          refine mx_goto (pc := 52) (tgt := 57) C dX7_fewest_52 rfl ?_
          rw [← Option.some.inj h]
          exact mx_ireturn (pc := 57) C dX7_fewest_57 hOq5 ⟨Nat.le_refl _, Nat.le_refl _⟩
      · rw [if_pos c7] at h
        refine mx_iload_n (pc := 36) C dX7_fewest_36 rfl ?_
        rw [← Option.some.inj h]
        exact mx_ireturn (pc := 37) C dX7_fewest_37 hOq5 ⟨Nat.le_refl _, Nat.le_refl _⟩
    · rw [if_neg c2] at h
      refine mx_iconst (pc := 10) C dX7_fewest_10 (z := (-1)) rfl (by constructor <;> decide) ?_
      rw [← Option.some.inj h]
      exact mx_ireturn (pc := 11) C dX7_fewest_11 hOM ⟨Nat.le_refl _, Nat.le_refl _⟩

def f_X7_see (p1 : Int) (p2 : Int) (p3 : Int) (M : Mem) : Option (Int × Mem) :=
  if p1 = (-1) then (f_X2_empty 28 M).bind (fun q16 => some (q16.1, q16.2)) else (f_X7_isHouse p1 M).bind (fun q2 => if q2.1 = 0 then some ((-1), q2.2) else (f_X7_isIn p2 999 q2.2).bind (fun q5 => if q5.1 = 0 then some ((-2), q5.2) else (f_X7_isIn p3 20 q5.2).bind (fun q8 => if q8.1 = 0 then some ((-2), q8.2) else (f_X2_isFull 28 q8.2).bind (fun q11 => if q11.1 = 0 then (f_X2_add 28 p1 p2 p3 q11.2).bind (fun q14 => some (q14.1, q14.2)) else some ((-4), q11.2)))))
set_option maxRecDepth 20000 in
set_option maxHeartbeats 4000000 in
theorem m_X7_see {p1 : Int} {p2 : Int} {p3 : Int} {M : Mem} {res : Int × Mem} (hOM : OK M) (h : f_X7_see p1 p2 p3 M = some res) : Mth false yX7_see cX7_see 4 (some .int) 3 0 0 SH [aR 0, aI p1, aI p2, aI p3] M (some (aI res.1)) SH res.2 (OK res.2) := by
  refine Mth.of (by decide +kernel) (Nat.le_of_ble_eq_true rfl) (fun K B C => ?_)
  show Wx K B _ 0 0 SH 4 M 0 [some (aR 0), some (aI p1), some (aI p2), some (aI p3)] []
  unfold f_X7_see at h
  refine mx_iload_n (pc := 0) C dX7_see_0 rfl ?_
  refine mx_iconst (pc := 1) C dX7_see_1 (z := (-1)) rfl (by constructor <;> decide) ?_
  refine mx_icmp_ne (pc := 2) (tgt := 16) C dX7_see_2 rfl (fun c1 => ?_) (fun c1 => ?_)
  · rw [if_neg c1] at h
    refine mx_iload_n (pc := 16) C dX7_see_16 rfl ?_
    obtain ⟨q2, hq2, h⟩ := of_bd h
    refine mc_S (pc := 17) (as := [aI p1]) (rest := []) (stk2 := [aI q2.1]) C ⟨Nat.le_refl _, Nat.le_refl _⟩ (m_X7_isHouse hOM hq2) mi_X7_isHouse ms_X7_isHouse ml_X7_65 (by omega) rfl (Nat.le_of_ble_eq_true rfl) dX7_see_17 rfl (fun hp3 => ?_)
    have hOq2 : OK q2.2 := hp3.1
    refine mx_if_ne (pc := 20) (tgt := 25) C dX7_see_20 rfl (fun c4 => ?_) (fun c4 => ?_)
    · rw [if_neg c4] at h
      refine mx_iload_n (pc := 25) C dX7_see_25 rfl ?_
      refine mx_sipush (pc := 26) C dX7_see_26 (z := 999) rfl (by constructor <;> decide) ?_
      obtain ⟨q5, hq5, h⟩ := of_bd h
      refine mc_S (pc := 29) (as := [aI p2, aI 999]) (rest := []) (stk2 := [aI q5.1]) C ⟨Nat.le_refl _, Nat.le_refl _⟩ (m_X7_isIn hOq2 hq5) mi_X7_isIn ms_X7_isIn ml_X7_61 (by omega) rfl (Nat.le_of_ble_eq_true rfl) dX7_see_29 rfl (fun hp6 => ?_)
      have hOq5 : OK q5.2 := hp6.1
      refine mx_if_eq (pc := 32) (tgt := 44) C dX7_see_32 rfl (fun c7 => ?_) (fun c7 => ?_)
      · rw [if_pos c7] at h
        refine mx_bipush (pc := 44) C dX7_see_44 (z := (-2)) rfl (by constructor <;> decide) ?_
        rw [← Option.some.inj h]
        exact mx_ireturn (pc := 46) C dX7_see_46 hOq5 ⟨Nat.le_refl _, Nat.le_refl _⟩
      · rw [if_neg c7] at h
        refine mx_iload_n (pc := 35) C dX7_see_35 rfl ?_
        refine mx_bipush (pc := 36) C dX7_see_36 (z := 20) rfl (by constructor <;> decide) ?_
        obtain ⟨q8, hq8, h⟩ := of_bd h
        refine mc_S (pc := 38) (as := [aI p3, aI 20]) (rest := []) (stk2 := [aI q8.1]) C ⟨Nat.le_refl _, Nat.le_refl _⟩ (m_X7_isIn hOq5 hq8) mi_X7_isIn ms_X7_isIn ml_X7_61 (by omega) rfl (Nat.le_of_ble_eq_true rfl) dX7_see_38 rfl (fun hp9 => ?_)
        have hOq8 : OK q8.2 := hp9.1
        refine mx_if_ne (pc := 41) (tgt := 47) C dX7_see_41 rfl (fun c10 => ?_) (fun c10 => ?_)
        · rw [if_neg c10] at h
          refine mx_aload_n (pc := 47) C dX7_see_47 rfl ?_
          refine mx_getR (pc := 48) (v := 22) C dX7_see_48 so_7 ci_7 (k := 0) (by decide) fl_X7_50 rfl (q := 0) rfl (lay_7_0 hOq8) (by decide) ?_
          refine mx_getR (pc := 51) (v := 28) C dX7_see_51 (so_1 p_1_22) ci_1 (k := 8) (by decide) fl_X7_202 rfl (q := 8) rfl ((lay_1_8 hOq8 p_1_22).trans (by decide)) (by have := lot_pos p_1_22; omega) ?_
          obtain ⟨q11, hq11, h⟩ := of_bd h
          refine mc_V (pc := 54) (as := []) (rest := []) (stk2 := [aI q11.1]) C ⟨Nat.le_refl _, Nat.le_refl _⟩ (m_X2_isFull hOq8 p_2_28 hq11) mi_X2_isFull mv_X2_isFull ml_X7_211 ci_2 rfl (so_2 p_2_28) (by omega) rfl (Nat.le_of_ble_eq_true rfl) dX7_see_54 rfl (fun hp12 => ?_)
          have hOq11 : OK q11.2 := hp12.1
          refine mx_if_eq (pc := 57) (tgt := 65) C dX7_see_57 rfl (fun c13 => ?_) (fun c13 => ?_)
          · rw [if_pos c13] at h
            refine mx_aload_n (pc := 65) C dX7_see_65 rfl ?_
            refine mx_getR (pc := 66) (v := 22) C dX7_see_66 so_7 ci_7 (k := 0) (by decide) fl_X7_50 rfl (q := 0) rfl (lay_7_0 hOq11) (by decide) ?_
            refine mx_getR (pc := 69) (v := 28) C dX7_see_69 (so_1 p_1_22) ci_1 (k := 8) (by decide) fl_X7_202 rfl (q := 8) rfl ((lay_1_8 hOq11 p_1_22).trans (by decide)) (by have := lot_pos p_1_22; omega) ?_
            refine mx_iload_n (pc := 72) C dX7_see_72 rfl ?_
            refine mx_iload_n (pc := 73) C dX7_see_73 rfl ?_
            refine mx_iload_n (pc := 74) C dX7_see_74 rfl ?_
            obtain ⟨q14, hq14, h⟩ := of_bd h
            refine mc_V (pc := 75) (as := [aI p1, aI p2, aI p3]) (rest := []) (stk2 := [aI q14.1]) C ⟨Nat.le_refl _, Nat.le_refl _⟩ (m_X2_add hOq11 p_2_28 hq14) mi_X2_add mv_X2_add ml_X7_215 ci_2 rfl (so_2 p_2_28) (by omega) rfl (Nat.le_of_ble_eq_true rfl) dX7_see_75 rfl (fun hp15 => ?_)
            have hOq14 : OK q14.2 := hp15
            rw [← Option.some.inj h]
            exact mx_ireturn (pc := 78) C dX7_see_78 hOq14 ⟨Nat.le_refl _, Nat.le_refl _⟩
          · rw [if_neg c13] at h
            refine mx_bipush (pc := 60) C dX7_see_60 (z := (-4)) rfl (by constructor <;> decide) ?_
            refine mx_goto (pc := 62) (tgt := 78) C dX7_see_62 rfl ?_
            rw [← Option.some.inj h]
            exact mx_ireturn (pc := 78) C dX7_see_78 hOq11 ⟨Nat.le_refl _, Nat.le_refl _⟩
        · rw [if_pos c10] at h
          refine mx_bipush (pc := 44) C dX7_see_44 (z := (-2)) rfl (by constructor <;> decide) ?_
          rw [← Option.some.inj h]
          exact mx_ireturn (pc := 46) C dX7_see_46 hOq8 ⟨Nat.le_refl _, Nat.le_refl _⟩
    · rw [if_pos c4] at h
      refine mx_iconst (pc := 23) C dX7_see_23 (z := (-1)) rfl (by constructor <;> decide) ?_
      rw [← Option.some.inj h]
      exact mx_ireturn (pc := 24) C dX7_see_24 hOq2 ⟨Nat.le_refl _, Nat.le_refl _⟩
  · rw [if_pos c1] at h
    refine mx_aload_n (pc := 5) C dX7_see_5 rfl ?_
    refine mx_getR (pc := 6) (v := 22) C dX7_see_6 so_7 ci_7 (k := 0) (by decide) fl_X7_50 rfl (q := 0) rfl (lay_7_0 hOM) (by decide) ?_
    refine mx_getR (pc := 9) (v := 28) C dX7_see_9 (so_1 p_1_22) ci_1 (k := 8) (by decide) fl_X7_202 rfl (q := 8) rfl ((lay_1_8 hOM p_1_22).trans (by decide)) (by have := lot_pos p_1_22; omega) ?_
    obtain ⟨q16, hq16, h⟩ := of_bd h
    refine mc_V (pc := 12) (as := []) (rest := []) (stk2 := [aI q16.1]) C ⟨Nat.le_refl _, Nat.le_refl _⟩ (m_X2_empty hOM p_2_28 hq16) mi_X2_empty mv_X2_empty ml_X7_206 ci_2 rfl (so_2 p_2_28) (by omega) rfl (Nat.le_of_ble_eq_true rfl) dX7_see_12 rfl (fun hp17 => ?_)
    have hOq16 : OK q16.2 := hp17
    rw [← Option.some.inj h]
    exact mx_ireturn (pc := 15) C dX7_see_15 hOq16 ⟨Nat.le_refl _, Nat.le_refl _⟩

def f_X7_isAsSeen_78 (k12 : Int → Int → Mem → Option (Int × Mem)) (k29 : Int → Int → Int → Mem → Option (Int × Mem)) (x2 : Int) (x3 : Int) (x4 : Int) (M : Mem) : Option (Int × Mem) :=
  k29 x2 x3 (w32 (x4 + 1)) M
def f_X7_isAsSeen_29 (k12 : Int → Int → Mem → Option (Int × Mem)) : Nat → Int → Int → Int → Mem → Option (Int × Mem)
  | 0, _, _, _, _ => none
  | n + 1, x2, x3, x4, M => if M 28 0 ≤ x4 then (f_X1_goYears 60 1 M).bind (fun q2 => k12 x2 (w32 (x3 + 1)) q2.2) else if 0 ≤ x4 ∧ x4 < 5 then if M 31 x4 = x3 then if 0 ≤ x4 ∧ x4 < 5 then (f_X1_noiseOf 60 (M 29 x4) M).bind (fun q7 => if 0 ≤ x4 ∧ x4 < 5 then if q7.1 = q7.2 30 x4 then f_X7_isAsSeen_78 k12 (f_X7_isAsSeen_29 k12 n) (w32 (x2 + 1)) x3 x4 q7.2 else some (0, q7.2) else none) else none else f_X7_isAsSeen_78 k12 (f_X7_isAsSeen_29 k12 n) x2 x3 x4 M else none
def f_X7_isAsSeen_12 : Nat → Int → Int → Mem → Option (Int × Mem)
  | 0, _, _, _ => none
  | n + 1, x2, x3, M => if 20 < x3 then some (1, M) else if M 28 0 ≤ x2 then some (1, M) else f_X7_isAsSeen_29 (f_X7_isAsSeen_12 n) FU x2 x3 0 M
def f_X7_isAsSeen (M : Mem) : Option (Int × Mem) :=
  f_X7_isAsSeen_12 FU 0 0 M
set_option maxRecDepth 20000 in
set_option maxHeartbeats 4000000 in
theorem b_X7_isAsSeen_78 {K : KX} {B : BX} {res : Int × Mem} {k12 : Int → Int → Mem → Option (Int × Mem)} {k29 : Int → Int → Int → Mem → Option (Int × Mem)} (C : Cx K B false yX7_isAsSeen cX7_isAsSeen 5 (some .boolean) 5 0 0) (hk12 : ∀ (x2 : Int) (x3 : Int) (M : Mem), OK M → k12 x2 x3 M = some res → Wx K B (Zr K B (some (aI res.1)) SH res.2 (OK res.2 ∧ (res.1 = 0 ∨ res.1 = 1)) 0 0) 0 0 SH 5 M 12 [some (aR 0), some (aR 28), some (aI x2), some (aI x3), none] []) (hk29 : ∀ (x2 : Int) (x3 : Int) (x4 : Int) (M : Mem), OK M → k29 x2 x3 x4 M = some res → Wx K B (Zr K B (some (aI res.1)) SH res.2 (OK res.2 ∧ (res.1 = 0 ∨ res.1 = 1)) 0 0) 0 0 SH 5 M 29 [some (aR 0), some (aR 28), some (aI x2), some (aI x3), some (aI x4)] []) : ∀ (x2 : Int) (x3 : Int) (x4 : Int) (M : Mem), OK M → f_X7_isAsSeen_78 k12 k29 x2 x3 x4 M = some res → Wx K B (Zr K B (some (aI res.1)) SH res.2 (OK res.2 ∧ (res.1 = 0 ∨ res.1 = 1)) 0 0) 0 0 SH 5 M 78 [some (aR 0), some (aR 28), some (aI x2), some (aI x3), some (aI x4)] [] := by
  intro x2 x3 x4 M hOM h
  unfold f_X7_isAsSeen_78 at h
  refine mx_iinc (pc := 78) C dX7_isAsSeen_78 (ls' := [some (aR 0), some (aR 28), some (aI x2), some (aI x3), some (aI (w32 (x4 + 1)))]) rfl (by decide) rfl (by constructor <;> decide) rfl rfl ?_
  refine mx_goto (pc := 81) (tgt := 29) C dX7_isAsSeen_81 rfl ?_
  exact hk29 x2 x3 (w32 (x4 + 1)) M hOM h
set_option maxRecDepth 20000 in
set_option maxHeartbeats 4000000 in
theorem b_X7_isAsSeen_29 {K : KX} {B : BX} {res : Int × Mem} {k12 : Int → Int → Mem → Option (Int × Mem)} (C : Cx K B false yX7_isAsSeen cX7_isAsSeen 5 (some .boolean) 5 0 0) (hk12 : ∀ (x2 : Int) (x3 : Int) (M : Mem), OK M → k12 x2 x3 M = some res → Wx K B (Zr K B (some (aI res.1)) SH res.2 (OK res.2 ∧ (res.1 = 0 ∨ res.1 = 1)) 0 0) 0 0 SH 5 M 12 [some (aR 0), some (aR 28), some (aI x2), some (aI x3), none] []) : ∀ (n : Nat) (x2 : Int) (x3 : Int) (x4 : Int) (M : Mem), OK M → f_X7_isAsSeen_29 k12 n x2 x3 x4 M = some res → Wx K B (Zr K B (some (aI res.1)) SH res.2 (OK res.2 ∧ (res.1 = 0 ∨ res.1 = 1)) 0 0) 0 0 SH 5 M 29 [some (aR 0), some (aR 28), some (aI x2), some (aI x3), some (aI x4)] [] := by
  intro n
  induction n with
  | zero =>
    intro x2 x3 x4 M hOM h
    cases h
  | succ n ih =>
    intro x2 x3 x4 M hOM h
    rw [f_X7_isAsSeen_29.eq_2] at h
    refine mx_iload (pc := 29) C dX7_isAsSeen_29 rfl ?_
    refine mx_aload_n (pc := 31) C dX7_isAsSeen_31 rfl ?_
    refine mx_getI (pc := 32) C dX7_isAsSeen_32 (so_2 p_2_28) ci_2 (k := 0) (by decide) fl_X7_226 rfl (q := 0) rfl ?_
    refine mx_icmp_ge (pc := 35) (tgt := 84) C dX7_isAsSeen_35 rfl (fun c1 => ?_) (fun c1 => ?_)
    · rw [if_pos c1] at h
      refine mx_aload_n (pc := 84) C dX7_isAsSeen_84 rfl ?_
      refine mx_getR (pc := 85) (v := 60) C dX7_isAsSeen_85 so_7 ci_7 (k := 2) (by decide) fl_X7_57 rfl (q := 2) rfl (lay_7_2 hOM) (by decide) ?_
      refine mx_iconst (pc := 88) C dX7_isAsSeen_88 (z := 1) rfl (by constructor <;> decide) ?_
      obtain ⟨q2, hq2, h⟩ := of_bd h
      refine mc_V (pc := 89) (as := [aI 1]) (rest := []) (stk2 := []) C ⟨Nat.le_refl _, Nat.le_refl _⟩ (m_X1_goYears hOM p_1_60 hq2) mi_X1_goYears mv_X1_goYears ml_X7_158 ci_1 rfl (so_1 p_1_60) (by omega) rfl (Nat.le_of_ble_eq_true rfl) dX7_isAsSeen_89 rfl (fun hp3 => ?_)
      have hOq2 : OK q2.2 := hp3
      refine mx_iinc (pc := 92) C dX7_isAsSeen_92 (ls' := [some (aR 0), some (aR 28), some (aI x2), some (aI (w32 (x3 + 1))), some (aI x4)]) rfl (by decide) rfl (by constructor <;> decide) rfl rfl ?_
      refine mx_goto (pc := 95) (tgt := 12) C dX7_isAsSeen_95 rfl ?_
      refine mx_mask [true, true, true, true, false] (ls' := [some (aR 0), some (aR 28), some (aI x2), some (aI (w32 (x3 + 1))), none]) rfl rfl ?_
      exact hk12 x2 (w32 (x3 + 1)) q2.2 hOq2 h
    · rw [if_neg c1] at h
      refine mx_aload_n (pc := 38) C dX7_isAsSeen_38 rfl ?_
      refine mx_getR (pc := 39) (v := 31) C dX7_isAsSeen_39 (so_2 p_2_28) ci_2 (k := 3) (by decide) fl_X7_229 rfl (q := 3) rfl ((lay_2_3 hOM p_2_28).trans (by decide)) (by have := rw_pos p_2_28; omega) ?_
      refine mx_iload (pc := 42) C dX7_isAsSeen_42 rfl ?_
      obtain ⟨g4, h⟩ := of_gd h
      refine mx_iald (pc := 44) C dX7_isAsSeen_44 (rfl : shp SH 31 = some (0, 5)) g4.1 g4.2 ?_
      refine mx_iload_n (pc := 45) C dX7_isAsSeen_45 rfl ?_
      refine mx_icmp_ne (pc := 46) (tgt := 78) C dX7_isAsSeen_46 rfl (fun c5 => ?_) (fun c5 => ?_)
      · rw [if_neg c5] at h
        exact b_X7_isAsSeen_78 C hk12 ih x2 x3 x4 M hOM h
      · rw [if_pos c5] at h
        refine mx_aload_n (pc := 49) C dX7_isAsSeen_49 rfl ?_
        refine mx_getR (pc := 50) (v := 60) C dX7_isAsSeen_50 so_7 ci_7 (k := 2) (by decide) fl_X7_57 rfl (q := 2) rfl (lay_7_2 hOM) (by decide) ?_
        refine mx_aload_n (pc := 53) C dX7_isAsSeen_53 rfl ?_
        refine mx_getR (pc := 54) (v := 29) C dX7_isAsSeen_54 (so_2 p_2_28) ci_2 (k := 1) (by decide) fl_X7_232 rfl (q := 1) rfl ((lay_2_1 hOM p_2_28).trans (by decide)) (by have := rw_pos p_2_28; omega) ?_
        refine mx_iload (pc := 57) C dX7_isAsSeen_57 rfl ?_
        obtain ⟨g6, h⟩ := of_gd h
        refine mx_iald (pc := 59) C dX7_isAsSeen_59 (rfl : shp SH 29 = some (0, 5)) g6.1 g6.2 ?_
        obtain ⟨q7, hq7, h⟩ := of_bd h
        refine mc_V (pc := 60) (as := [aI (M 29 x4)]) (rest := []) (stk2 := [aI q7.1]) C ⟨Nat.le_refl _, Nat.le_refl _⟩ (m_X1_noiseOf hOM p_1_60 hq7) mi_X1_noiseOf mv_X1_noiseOf ml_X7_112 ci_1 rfl (so_1 p_1_60) (by omega) rfl (Nat.le_of_ble_eq_true rfl) dX7_isAsSeen_60 rfl (fun hp8 => ?_)
        have hOq7 : OK q7.2 := hp8
        refine mx_aload_n (pc := 63) C dX7_isAsSeen_63 rfl ?_
        refine mx_getR (pc := 64) (v := 30) C dX7_isAsSeen_64 (so_2 p_2_28) ci_2 (k := 2) (by decide) fl_X7_235 rfl (q := 2) rfl ((lay_2_2 hOq7 p_2_28).trans (by decide)) (by have := rw_pos p_2_28; omega) ?_
        refine mx_iload (pc := 67) C dX7_isAsSeen_67 rfl ?_
        obtain ⟨g9, h⟩ := of_gd h
        refine mx_iald (pc := 69) C dX7_isAsSeen_69 (rfl : shp SH 30 = some (0, 5)) g9.1 g9.2 ?_
        refine mx_icmp_eq (pc := 70) (tgt := 75) C dX7_isAsSeen_70 rfl (fun c10 => ?_) (fun c10 => ?_)
        · rw [if_pos c10] at h
          refine mx_iinc (pc := 75) C dX7_isAsSeen_75 (ls' := [some (aR 0), some (aR 28), some (aI (w32 (x2 + 1))), some (aI x3), some (aI x4)]) rfl (by decide) rfl (by constructor <;> decide) rfl rfl ?_
          exact b_X7_isAsSeen_78 C hk12 ih (w32 (x2 + 1)) x3 x4 q7.2 hOq7 h
        · rw [if_neg c10] at h
          refine mx_iconst (pc := 73) C dX7_isAsSeen_73 (z := 0) rfl (by constructor <;> decide) ?_
          rw [← Option.some.inj h]
          exact mx_zreturn (pc := 74) C dX7_isAsSeen_74 (Or.inl rfl) ⟨hOq7, (Or.inl rfl)⟩ ⟨Nat.le_refl _, Nat.le_refl _⟩
set_option maxRecDepth 20000 in
set_option maxHeartbeats 4000000 in
theorem b_X7_isAsSeen_12 {K : KX} {B : BX} {res : Int × Mem} (C : Cx K B false yX7_isAsSeen cX7_isAsSeen 5 (some .boolean) 5 0 0) : ∀ (n : Nat) (x2 : Int) (x3 : Int) (M : Mem), OK M → f_X7_isAsSeen_12 n x2 x3 M = some res → Wx K B (Zr K B (some (aI res.1)) SH res.2 (OK res.2 ∧ (res.1 = 0 ∨ res.1 = 1)) 0 0) 0 0 SH 5 M 12 [some (aR 0), some (aR 28), some (aI x2), some (aI x3), none] [] := by
  intro n
  induction n with
  | zero =>
    intro x2 x3 M hOM h
    cases h
  | succ n ih =>
    intro x2 x3 M hOM h
    rw [f_X7_isAsSeen_12.eq_2] at h
    refine mx_iload_n (pc := 12) C dX7_isAsSeen_12 rfl ?_
    refine mx_bipush (pc := 13) C dX7_isAsSeen_13 (z := 20) rfl (by constructor <;> decide) ?_
    refine mx_icmp_gt (pc := 15) (tgt := 98) C dX7_isAsSeen_15 rfl (fun c1 => ?_) (fun c1 => ?_)
    · rw [if_pos c1] at h
      refine mx_iconst (pc := 98) C dX7_isAsSeen_98 (z := 1) rfl (by constructor <;> decide) ?_
      rw [← Option.some.inj h]
      exact mx_zreturn (pc := 99) C dX7_isAsSeen_99 (Or.inr rfl) ⟨hOM, (Or.inr rfl)⟩ ⟨Nat.le_refl _, Nat.le_refl _⟩
    · rw [if_neg c1] at h
      refine mx_iload_n (pc := 18) C dX7_isAsSeen_18 rfl ?_
      refine mx_aload_n (pc := 19) C dX7_isAsSeen_19 rfl ?_
      refine mx_getI (pc := 20) C dX7_isAsSeen_20 (so_2 p_2_28) ci_2 (k := 0) (by decide) fl_X7_226 rfl (q := 0) rfl ?_
      refine mx_icmp_ge (pc := 23) (tgt := 98) C dX7_isAsSeen_23 rfl (fun c2 => ?_) (fun c2 => ?_)
      · rw [if_pos c2] at h
        refine mx_iconst (pc := 98) C dX7_isAsSeen_98 (z := 1) rfl (by constructor <;> decide) ?_
        rw [← Option.some.inj h]
        exact mx_zreturn (pc := 99) C dX7_isAsSeen_99 (Or.inr rfl) ⟨hOM, (Or.inr rfl)⟩ ⟨Nat.le_refl _, Nat.le_refl _⟩
      · rw [if_neg c2] at h
        refine mx_iconst (pc := 26) C dX7_isAsSeen_26 (z := 0) rfl (by constructor <;> decide) ?_
        refine mx_istore (pc := 27) C dX7_isAsSeen_27 (ls' := [some (aR 0), some (aR 28), some (aI x2), some (aI x3), some (aI 0)]) (by decide) rfl rfl ?_
        exact b_X7_isAsSeen_29 C ih FU x2 x3 0 M hOM h
set_option maxRecDepth 20000 in
set_option maxHeartbeats 4000000 in
theorem m_X7_isAsSeen {M : Mem} {res : Int × Mem} (hOM : OK M) (h : f_X7_isAsSeen M = some res) : Mth false yX7_isAsSeen cX7_isAsSeen 5 (some .boolean) 5 0 0 SH [aR 0] M (some (aI res.1)) SH res.2 (OK res.2 ∧ (res.1 = 0 ∨ res.1 = 1)) := by
  refine Mth.of (by decide +kernel) (Nat.le_of_ble_eq_true rfl) (fun K B C => ?_)
  show Wx K B _ 0 0 SH 5 M 0 [some (aR 0), none, none, none, none] []
  unfold f_X7_isAsSeen at h
  refine mx_aload_n (pc := 0) C dX7_isAsSeen_0 rfl ?_
  refine mx_getR (pc := 1) (v := 22) C dX7_isAsSeen_1 so_7 ci_7 (k := 0) (by decide) fl_X7_50 rfl (q := 0) rfl (lay_7_0 hOM) (by decide) ?_
  refine mx_getR (pc := 4) (v := 28) C dX7_isAsSeen_4 (so_1 p_1_22) ci_1 (k := 8) (by decide) fl_X7_202 rfl (q := 8) rfl ((lay_1_8 hOM p_1_22).trans (by decide)) (by have := lot_pos p_1_22; omega) ?_
  refine mx_astore_n (pc := 7) C dX7_isAsSeen_7 (ls' := [some (aR 0), some (aR 28), none, none, none]) (by decide) rfl rfl ?_
  refine mx_iconst (pc := 8) C dX7_isAsSeen_8 (z := 0) rfl (by constructor <;> decide) ?_
  refine mx_istore_n (pc := 9) C dX7_isAsSeen_9 (ls' := [some (aR 0), some (aR 28), some (aI 0), none, none]) (by decide) rfl rfl ?_
  refine mx_iconst (pc := 10) C dX7_isAsSeen_10 (z := 0) rfl (by constructor <;> decide) ?_
  refine mx_istore_n (pc := 11) C dX7_isAsSeen_11 (ls' := [some (aR 0), some (aR 28), some (aI 0), some (aI 0), none]) (by decide) rfl rfl ?_
  exact b_X7_isAsSeen_12 C FU 0 0 M hOM h

def f_X7_fitting_69 (p1 : Int) (p2 : Int) (p3 : Int) (p4 : Int) (k34 : Int → Int → Int → Int → Int → Mem → Option (Int × Mem)) (x3 : Int) (x4 : Int) (x5 : Int) (x6 : Int) (x7 : Int) (M : Mem) : Option (Int × Mem) :=
  k34 x3 x4 x5 x6 (w32 (x7 + (-1))) M
def f_X7_fitting_34 (p1 : Int) (p2 : Int) (p3 : Int) (p4 : Int) : Nat → Int → Int → Int → Int → Int → Mem → Option (Int × Mem)
  | 0, _, _, _, _, _, _ => none
  | n + 1, x3, x4, x5, x6, x7, M => if x7 < 0 then if x4 = 0 then some (x5, M) else some (x6, M) else (f_X1_takeSounds 60 22 M).bind (fun q3 => if 0 ≤ x3 ∧ x3 < 6 then lt (stM q3.2 p1 x3 x7) (fun M6 => (f_X7_isAsSeen M6).bind (fun q7 => if q7.1 = 0 then f_X7_fitting_69 p1 p2 p3 p4 (f_X7_fitting_34 p1 p2 p3 p4 n) x3 x4 x5 x6 x7 q7.2 else f_X7_fitting_69 p1 p2 p3 p4 (f_X7_fitting_34 p1 p2 p3 p4 n) x3 x4 (w32 (x5 + 1)) x7 x7 q7.2)) else none)
def f_X7_fitting_24 (p1 : Int) (p2 : Int) (p3 : Int) (p4 : Int) (x2 : Int) (x3 : Int) (x4 : Int) (M : Mem) : Option (Int × Mem) :=
  f_X7_fitting_34 p1 p2 p3 p4 FU x3 x4 0 (-5) x2 M
def f_X7_fitting (p1 : Int) (p2 : Int) (p3 : Int) (p4 : Int) (M : Mem) : Option (Int × Mem) :=
  (f_X1_has 22 p3 M).bind (fun q1 => if q1.1 = 0 then some ((-1), q1.2) else if p4 = 0 then f_X7_fitting_24 p1 p2 p3 p4 p2 p3 p4 q1.2 else if p4 = 1 then f_X7_fitting_24 p1 p2 p3 p4 p2 p3 p4 q1.2 else some ((-1), q1.2))
set_option maxRecDepth 20000 in
set_option maxHeartbeats 4000000 in
theorem b_X7_fitting_69 {K : KX} {B : BX} {res : Int × Mem} {p1 : Int} {p2 : Int} {p3 : Int} {p4 : Int} {k34 : Int → Int → Int → Int → Int → Mem → Option (Int × Mem)} (C : Cx K B false yX7_fitting cX7_fitting 8 (some .int) 6 0 0) (hp1 : shp SH p1 = some (0, 6)) (hk34 : ∀ (x3 : Int) (x4 : Int) (x5 : Int) (x6 : Int) (x7 : Int) (M : Mem), OK M → k34 x3 x4 x5 x6 x7 M = some res → Wx K B (Zr K B (some (aI res.1)) SH res.2 (OK res.2) 0 0) 0 0 SH 8 M 34 [some (aR 0), some (aR p1), none, some (aI x3), some (aI x4), some (aI x5), some (aI x6), some (aI x7)] []) : ∀ (x3 : Int) (x4 : Int) (x5 : Int) (x6 : Int) (x7 : Int) (M : Mem), OK M → f_X7_fitting_69 p1 p2 p3 p4 k34 x3 x4 x5 x6 x7 M = some res → Wx K B (Zr K B (some (aI res.1)) SH res.2 (OK res.2) 0 0) 0 0 SH 8 M 69 [some (aR 0), some (aR p1), none, some (aI x3), some (aI x4), some (aI x5), some (aI x6), some (aI x7)] [] := by
  intro x3 x4 x5 x6 x7 M hOM h
  unfold f_X7_fitting_69 at h
  refine mx_iinc (pc := 69) C dX7_fitting_69 (ls' := [some (aR 0), some (aR p1), none, some (aI x3), some (aI x4), some (aI x5), some (aI x6), some (aI (w32 (x7 + (-1))))]) rfl (by decide) rfl (by constructor <;> decide) rfl rfl ?_
  refine mx_goto (pc := 72) (tgt := 34) C dX7_fitting_72 rfl ?_
  exact hk34 x3 x4 x5 x6 (w32 (x7 + (-1))) M hOM h
set_option maxRecDepth 20000 in
set_option maxHeartbeats 4000000 in
theorem b_X7_fitting_34 {K : KX} {B : BX} {res : Int × Mem} {p1 : Int} {p2 : Int} {p3 : Int} {p4 : Int} (C : Cx K B false yX7_fitting cX7_fitting 8 (some .int) 6 0 0) (hp1 : shp SH p1 = some (0, 6)) : ∀ (n : Nat) (x3 : Int) (x4 : Int) (x5 : Int) (x6 : Int) (x7 : Int) (M : Mem), OK M → f_X7_fitting_34 p1 p2 p3 p4 n x3 x4 x5 x6 x7 M = some res → Wx K B (Zr K B (some (aI res.1)) SH res.2 (OK res.2) 0 0) 0 0 SH 8 M 34 [some (aR 0), some (aR p1), none, some (aI x3), some (aI x4), some (aI x5), some (aI x6), some (aI x7)] [] := by
  intro n
  induction n with
  | zero =>
    intro x3 x4 x5 x6 x7 M hOM h
    cases h
  | succ n ih =>
    intro x3 x4 x5 x6 x7 M hOM h
    rw [f_X7_fitting_34.eq_2] at h
    refine mx_iload (pc := 34) C dX7_fitting_34 rfl ?_
    refine mx_if_lt (pc := 36) (tgt := 75) C dX7_fitting_36 rfl (fun c1 => ?_) (fun c1 => ?_)
    · rw [if_pos c1] at h
      refine mx_iload (pc := 75) C dX7_fitting_75 rfl ?_
      refine mx_if_ne (pc := 77) (tgt := 85) C dX7_fitting_77 rfl (fun c2 => ?_) (fun c2 => ?_)
      · rw [if_neg c2] at h
        refine mx_iload (pc := 85) C dX7_fitting_85 rfl ?_
        rw [← Option.some.inj h]
        exact mx_ireturn (pc := 87) C dX7_fitting_87 hOM ⟨Nat.le_refl _, Nat.le_refl _⟩
      · rw [if_pos c2] at h
        refine mx_iload (pc := 80) C dX7_fitting_80 rfl ?_
        refine mx_goto (pc := 82) (tgt := 87) C dX7_fitting_82 rfl ?_
        rw [← Option.some.inj h]
        exact mx_ireturn (pc := 87) C dX7_fitting_87 hOM ⟨Nat.le_refl _, Nat.le_refl _⟩
    · rw [if_neg c1] at h
      refine mx_aload_n (pc := 39) C dX7_fitting_39 rfl ?_
      refine mx_getR (pc := 40) (v := 60) C dX7_fitting_40 so_7 ci_7 (k := 2) (by decide) fl_X7_57 rfl (q := 2) rfl (lay_7_2 hOM) (by decide) ?_
      refine mx_aload_n (pc := 43) C dX7_fitting_43 rfl ?_
      refine mx_getR (pc := 44) (v := 22) C dX7_fitting_44 so_7 ci_7 (k := 0) (by decide) fl_X7_50 rfl (q := 0) rfl (lay_7_0 hOM) (by decide) ?_
      obtain ⟨q3, hq3, h⟩ := of_bd h
      refine mc_V (pc := 47) (as := [aR 22]) (rest := []) (stk2 := []) C ⟨Nat.le_refl _, Nat.le_refl _⟩ (m_X1_takeSounds hOM p_1_60 p_1_22 hq3) mi_X1_takeSounds mv_X1_takeSounds ml_X7_162 ci_1 rfl (so_1 p_1_60) (by omega) rfl (Nat.le_of_ble_eq_true rfl) dX7_fitting_47 rfl (fun hp4 => ?_)
      have hOq3 : OK q3.2 := hp4
      refine mx_aload_n (pc := 50) C dX7_fitting_50 rfl ?_
      refine mx_iload_n (pc := 51) C dX7_fitting_51 rfl ?_
      refine mx_iload (pc := 52) C dX7_fitting_52 rfl ?_
      obtain ⟨g5, h⟩ := of_gd h
      refine mx_iast (pc := 54) C dX7_fitting_54 hp1 g5.1 g5.2 ?_
      generalize hmM6 : stM q3.2 p1 x3 x7 = M6 at h ⊢
      replace h := lt_e h
      have hOM6 : OK M6 := by rw [← hmM6]; exact ok_arr hOq3 hp1 (by decide)
      refine mx_aload_n (pc := 55) C dX7_fitting_55 rfl ?_
      obtain ⟨q7, hq7, h⟩ := of_bd h
      refine mc_V (pc := 56) (as := []) (rest := []) (stk2 := [aI q7.1]) C ⟨Nat.le_refl _, Nat.le_refl _⟩ (m_X7_isAsSeen hOM6 hq7) mi_X7_isAsSeen mv_X7_isAsSeen ml_X7_223 ci_7 rfl so_7 (by omega) rfl (Nat.le_of_ble_eq_true rfl) dX7_fitting_56 rfl (fun hp8 => ?_)
      have hOq7 : OK q7.2 := hp8.1
      refine mx_if_eq (pc := 59) (tgt := 69) C dX7_fitting_59 rfl (fun c9 => ?_) (fun c9 => ?_)
      · rw [if_pos c9] at h
        exact b_X7_fitting_69 C hp1 ih x3 x4 x5 x6 x7 q7.2 hOq7 h
      · rw [if_neg c9] at h
        refine mx_iinc (pc := 62) C dX7_fitting_62 (ls' := [some (aR 0), some (aR p1), none, some (aI x3), some (aI x4), some (aI (w32 (x5 + 1))), some (aI x6), some (aI x7)]) rfl (by decide) rfl (by constructor <;> decide) rfl rfl ?_
        refine mx_iload (pc := 65) C dX7_fitting_65 rfl ?_
        refine mx_istore (pc := 67) C dX7_fitting_67 (ls' := [some (aR 0), some (aR p1), none, some (aI x3), some (aI x4), some (aI (w32 (x5 + 1))), some (aI x7), some (aI x7)]) (by decide) rfl rfl ?_
        exact b_X7_fitting_69 C hp1 ih x3 x4 (w32 (x5 + 1)) x7 x7 q7.2 hOq7 h
set_option maxRecDepth 20000 in
set_option maxHeartbeats 4000000 in
theorem b_X7_fitting_24 {K : KX} {B : BX} {res : Int × Mem} {p1 : Int} {p2 : Int} {p3 : Int} {p4 : Int} (C : Cx K B false yX7_fitting cX7_fitting 8 (some .int) 6 0 0) (hp1 : shp SH p1 = some (0, 6)) : ∀ (x2 : Int) (x3 : Int) (x4 : Int) (M : Mem), OK M → f_X7_fitting_24 p1 p2 p3 p4 x2 x3 x4 M = some res → Wx K B (Zr K B (some (aI res.1)) SH res.2 (OK res.2) 0 0) 0 0 SH 8 M 24 [some (aR 0), some (aR p1), some (aI x2), some (aI x3), some (aI x4), none, none, none] [] := by
  intro x2 x3 x4 M hOM h
  unfold f_X7_fitting_24 at h
  refine mx_iconst (pc := 24) C dX7_fitting_24 (z := 0) rfl (by constructor <;> decide) ?_
  refine mx_istore (pc := 25) C dX7_fitting_25 (ls' := [some (aR 0), some (aR p1), some (aI x2), some (aI x3), some (aI x4), some (aI 0), none, none]) (by decide) rfl rfl ?_
  refine mx_bipush (pc := 27) C dX7_fitting_27 (z := (-5)) rfl (by constructor <;> decide) ?_
  refine mx_istore (pc := 29) C dX7_fitting_29 (ls' := [some (aR 0), some (aR p1), some (aI x2), some (aI x3), some (aI x4), some (aI 0), some (aI (-5)), none]) (by decide) rfl rfl ?_
  refine mx_iload_n (pc := 31) C dX7_fitting_31 rfl ?_
  refine mx_istore (pc := 32) C dX7_fitting_32 (ls' := [some (aR 0), some (aR p1), some (aI x2), some (aI x3), some (aI x4), some (aI 0), some (aI (-5)), some (aI x2)]) (by decide) rfl rfl ?_
  refine mx_mask [true, true, false, true, true, true, true, true] (ls' := [some (aR 0), some (aR p1), none, some (aI x3), some (aI x4), some (aI 0), some (aI (-5)), some (aI x2)]) rfl rfl ?_
  exact b_X7_fitting_34 C hp1 FU x3 x4 0 (-5) x2 M hOM h
set_option maxRecDepth 20000 in
set_option maxHeartbeats 4000000 in
theorem m_X7_fitting {p1 : Int} {p2 : Int} {p3 : Int} {p4 : Int} {M : Mem} {res : Int × Mem} (hOM : OK M) (hp1 : shp SH p1 = some (0, 6)) (h : f_X7_fitting p1 p2 p3 p4 M = some res) : Mth false yX7_fitting cX7_fitting 8 (some .int) 6 0 0 SH [aR 0, aR p1, aI p2, aI p3, aI p4] M (some (aI res.1)) SH res.2 (OK res.2) := by
  refine Mth.of (by decide +kernel) (Nat.le_of_ble_eq_true rfl) (fun K B C => ?_)
  show Wx K B _ 0 0 SH 8 M 0 [some (aR 0), some (aR p1), some (aI p2), some (aI p3), some (aI p4), none, none, none] []
  unfold f_X7_fitting at h
  refine mx_aload_n (pc := 0) C dX7_fitting_0 rfl ?_
  refine mx_getR (pc := 1) (v := 22) C dX7_fitting_1 so_7 ci_7 (k := 0) (by decide) fl_X7_50 rfl (q := 0) rfl (lay_7_0 hOM) (by decide) ?_
  refine mx_iload_n (pc := 4) C dX7_fitting_4 rfl ?_
  obtain ⟨q1, hq1, h⟩ := of_bd h
  refine mc_V (pc := 5) (as := [aI p3]) (rest := []) (stk2 := [aI q1.1]) C ⟨Nat.le_refl _, Nat.le_refl _⟩ (m_X1_has hOM p_1_22 hq1) mi_X1_has mv_X1_has ml_X7_77 ci_1 rfl (so_1 p_1_22) (by omega) rfl (Nat.le_of_ble_eq_true rfl) dX7_fitting_5 rfl (fun hp2 => ?_)
  have hOq1 : OK q1.2 := hp2.1
  refine mx_if_eq (pc := 8) (tgt := 22) C dX7_fitting_8 rfl (fun c3 => ?_) (fun c3 => ?_)
  · rw [if_pos c3] at h
    refine mx_iconst (pc := 22) C dX7_fitting_22 (z := (-1)) rfl (by constructor <;> decide) ?_
    rw [← Option.some.inj h]
    exact mx_ireturn (pc := 23) C dX7_fitting_23 hOq1 ⟨Nat.le_refl _, Nat.le_refl _⟩
  · rw [if_neg c3] at h
    refine mx_iload (pc := 11) C dX7_fitting_11 rfl ?_
    refine mx_if_eq (pc := 13) (tgt := 24) C dX7_fitting_13 rfl (fun c4 => ?_) (fun c4 => ?_)
    · rw [if_pos c4] at h
      exact b_X7_fitting_24 C hp1 p2 p3 p4 q1.2 hOq1 h
    · rw [if_neg c4] at h
      refine mx_iload (pc := 16) C dX7_fitting_16 rfl ?_
      refine mx_iconst (pc := 18) C dX7_fitting_18 (z := 1) rfl (by constructor <;> decide) ?_
      refine mx_icmp_eq (pc := 19) (tgt := 24) C dX7_fitting_19 rfl (fun c5 => ?_) (fun c5 => ?_)
      · rw [if_pos c5] at h
        exact b_X7_fitting_24 C hp1 p2 p3 p4 q1.2 hOq1 h
      · rw [if_neg c5] at h
        refine mx_iconst (pc := 22) C dX7_fitting_22 (z := (-1)) rfl (by constructor <;> decide) ?_
        rw [← Option.some.inj h]
        exact mx_ireturn (pc := 23) C dX7_fitting_23 hOq1 ⟨Nat.le_refl _, Nat.le_refl _⟩

def f_X7_louds (p1 : Int) (p2 : Int) (M : Mem) : Option (Int × Mem) :=
  (f_X7_fitting 63 40 p1 p2 M).bind (fun q1 => some (q1.1, q1.2))
set_option maxRecDepth 20000 in
set_option maxHeartbeats 4000000 in
theorem m_X7_louds {p1 : Int} {p2 : Int} {M : Mem} {res : Int × Mem} (hOM : OK M) (h : f_X7_louds p1 p2 M = some res) : Mth false yX7_louds cX7_louds 3 (some .int) 7 0 0 SH [aR 0, aI p1, aI p2] M (some (aI res.1)) SH res.2 (OK res.2) := by
  refine Mth.of (by decide +kernel) (Nat.le_of_ble_eq_true rfl) (fun K B C => ?_)
  show Wx K B _ 0 0 SH 3 M 0 [some (aR 0), some (aI p1), some (aI p2)] []
  unfold f_X7_louds at h
  refine mx_aload_n (pc := 0) C dX7_louds_0 rfl ?_
  refine mx_aload_n (pc := 1) C dX7_louds_1 rfl ?_
  refine mx_getR (pc := 2) (v := 60) C dX7_louds_2 so_7 ci_7 (k := 2) (by decide) fl_X7_57 rfl (q := 2) rfl (lay_7_2 hOM) (by decide) ?_
  refine mx_getR (pc := 5) (v := 63) C dX7_louds_5 (so_1 p_1_60) ci_1 (k := 3) (by decide) fl_X7_97 rfl (q := 3) rfl ((lay_1_3 hOM p_1_60).trans (by decide)) (by have := lot_pos p_1_60; omega) ?_
  refine mx_bipush (pc := 8) C dX7_louds_8 (z := 40) rfl (by constructor <;> decide) ?_
  refine mx_iload_n (pc := 10) C dX7_louds_10 rfl ?_
  refine mx_iload_n (pc := 11) C dX7_louds_11 rfl ?_
  obtain ⟨q1, hq1, h⟩ := of_bd h
  refine mc_V (pc := 12) (as := [aR 63, aI 40, aI p1, aI p2]) (rest := []) (stk2 := [aI q1.1]) C ⟨Nat.le_refl _, Nat.le_refl _⟩ (m_X7_fitting hOM (rfl : shp SH 63 = some (0, 6)) hq1) mi_X7_fitting mv_X7_fitting ml_X7_219 ci_7 rfl so_7 (by omega) rfl (Nat.le_of_ble_eq_true rfl) dX7_louds_12 rfl (fun hp2 => ?_)
  have hOq1 : OK q1.2 := hp2
  rw [← Option.some.inj h]
  exact mx_ireturn (pc := 15) C dX7_louds_15 hOq1 ⟨Nat.le_refl _, Nat.le_refl _⟩

def f_X7_can (p1 : Int) (p2 : Int) (M : Mem) : Option (Int × Mem) :=
  (f_X7_fitting 62 9 p1 p2 M).bind (fun q1 => some (q1.1, q1.2))
set_option maxRecDepth 20000 in
set_option maxHeartbeats 4000000 in
theorem m_X7_can {p1 : Int} {p2 : Int} {M : Mem} {res : Int × Mem} (hOM : OK M) (h : f_X7_can p1 p2 M = some res) : Mth false yX7_can cX7_can 3 (some .int) 7 0 0 SH [aR 0, aI p1, aI p2] M (some (aI res.1)) SH res.2 (OK res.2) := by
  refine Mth.of (by decide +kernel) (Nat.le_of_ble_eq_true rfl) (fun K B C => ?_)
  show Wx K B _ 0 0 SH 3 M 0 [some (aR 0), some (aI p1), some (aI p2)] []
  unfold f_X7_can at h
  refine mx_aload_n (pc := 0) C dX7_can_0 rfl ?_
  refine mx_aload_n (pc := 1) C dX7_can_1 rfl ?_
  refine mx_getR (pc := 2) (v := 60) C dX7_can_2 so_7 ci_7 (k := 2) (by decide) fl_X7_57 rfl (q := 2) rfl (lay_7_2 hOM) (by decide) ?_
  refine mx_getR (pc := 5) (v := 62) C dX7_can_5 (so_1 p_1_60) ci_1 (k := 2) (by decide) fl_X7_94 rfl (q := 2) rfl ((lay_1_2 hOM p_1_60).trans (by decide)) (by have := lot_pos p_1_60; omega) ?_
  refine mx_bipush (pc := 8) C dX7_can_8 (z := 9) rfl (by constructor <;> decide) ?_
  refine mx_iload_n (pc := 10) C dX7_can_10 rfl ?_
  refine mx_iload_n (pc := 11) C dX7_can_11 rfl ?_
  obtain ⟨q1, hq1, h⟩ := of_bd h
  refine mc_V (pc := 12) (as := [aR 62, aI 9, aI p1, aI p2]) (rest := []) (stk2 := [aI q1.1]) C ⟨Nat.le_refl _, Nat.le_refl _⟩ (m_X7_fitting hOM (rfl : shp SH 62 = some (0, 6)) hq1) mi_X7_fitting mv_X7_fitting ml_X7_219 ci_7 rfl so_7 (by omega) rfl (Nat.le_of_ble_eq_true rfl) dX7_can_12 rfl (fun hp2 => ?_)
  have hOq1 : OK q1.2 := hp2
  rw [← Option.some.inj h]
  exact mx_ireturn (pc := 15) C dX7_can_15 hOq1 ⟨Nat.le_refl _, Nat.le_refl _⟩

def f_X7_where_56 (p1 : Int) (k17 : Int → Int → Int → Mem → Option (Int × Mem)) (x1 : Int) (x2 : Int) (x3 : Int) (M : Mem) : Option (Int × Mem) :=
  k17 x1 x2 (w32 (x3 + 1)) M
def f_X7_where_17 (p1 : Int) : Nat → Int → Int → Int → Mem → Option (Int × Mem)
  | 0, _, _, _, _ => none
  | n + 1, x1, x2, x3, M => if 5 ≤ x3 then some (x2, M) else (f_X1_takeSounds 60 22 M).bind (fun q2 => if 0 ≤ x1 ∧ x1 < 6 then lt (stM q2.2 64 x1 x3) (fun M5 => (f_X7_isAsSeen M5).bind (fun q6 => if q6.1 = 0 then f_X7_where_56 p1 (f_X7_where_17 p1 n) x1 x2 x3 q6.2 else f_X7_where_56 p1 (f_X7_where_17 p1 n) x1 (or32 x2 (shl32 1 x3)) x3 q6.2)) else none)
def f_X7_where (p1 : Int) (M : Mem) : Option (Int × Mem) :=
  (f_X1_has 22 p1 M).bind (fun q1 => if q1.1 = 0 then some ((-1), q1.2) else f_X7_where_17 p1 FU p1 0 0 q1.2)
set_option maxRecDepth 20000 in
set_option maxHeartbeats 4000000 in
theorem b_X7_where_56 {K : KX} {B : BX} {res : Int × Mem} {p1 : Int} {k17 : Int → Int → Int → Mem → Option (Int × Mem)} (C : Cx K B false yX7_where cX7_where 4 (some .int) 6 0 0) (hk17 : ∀ (x1 : Int) (x2 : Int) (x3 : Int) (M : Mem), OK M → k17 x1 x2 x3 M = some res → Wx K B (Zr K B (some (aI res.1)) SH res.2 (OK res.2) 0 0) 0 0 SH 4 M 17 [some (aR 0), some (aI x1), some (aI x2), some (aI x3)] []) : ∀ (x1 : Int) (x2 : Int) (x3 : Int) (M : Mem), OK M → f_X7_where_56 p1 k17 x1 x2 x3 M = some res → Wx K B (Zr K B (some (aI res.1)) SH res.2 (OK res.2) 0 0) 0 0 SH 4 M 56 [some (aR 0), some (aI x1), some (aI x2), some (aI x3)] [] := by
  intro x1 x2 x3 M hOM h
  unfold f_X7_where_56 at h
  refine mx_iinc (pc := 56) C dX7_where_56 (ls' := [some (aR 0), some (aI x1), some (aI x2), some (aI (w32 (x3 + 1)))]) rfl (by decide) rfl (by constructor <;> decide) rfl rfl ?_
  refine mx_goto (pc := 59) (tgt := 17) C dX7_where_59 rfl ?_
  exact hk17 x1 x2 (w32 (x3 + 1)) M hOM h
set_option maxRecDepth 20000 in
set_option maxHeartbeats 4000000 in
theorem b_X7_where_17 {K : KX} {B : BX} {res : Int × Mem} {p1 : Int} (C : Cx K B false yX7_where cX7_where 4 (some .int) 6 0 0) : ∀ (n : Nat) (x1 : Int) (x2 : Int) (x3 : Int) (M : Mem), OK M → f_X7_where_17 p1 n x1 x2 x3 M = some res → Wx K B (Zr K B (some (aI res.1)) SH res.2 (OK res.2) 0 0) 0 0 SH 4 M 17 [some (aR 0), some (aI x1), some (aI x2), some (aI x3)] [] := by
  intro n
  induction n with
  | zero =>
    intro x1 x2 x3 M hOM h
    cases h
  | succ n ih =>
    intro x1 x2 x3 M hOM h
    rw [f_X7_where_17.eq_2] at h
    refine mx_iload_n (pc := 17) C dX7_where_17 rfl ?_
    refine mx_iconst (pc := 18) C dX7_where_18 (z := 5) rfl (by constructor <;> decide) ?_
    refine mx_icmp_ge (pc := 19) (tgt := 62) C dX7_where_19 rfl (fun c1 => ?_) (fun c1 => ?_)
    · rw [if_pos c1] at h
      refine mx_iload_n (pc := 62) C dX7_where_62 rfl ?_
      rw [← Option.some.inj h]
      exact mx_ireturn (pc := 63) C dX7_where_63 hOM ⟨Nat.le_refl _, Nat.le_refl _⟩
    · rw [if_neg c1] at h
      refine mx_aload_n (pc := 22) C dX7_where_22 rfl ?_
      refine mx_getR (pc := 23) (v := 60) C dX7_where_23 so_7 ci_7 (k := 2) (by decide) fl_X7_57 rfl (q := 2) rfl (lay_7_2 hOM) (by decide) ?_
      refine mx_aload_n (pc := 26) C dX7_where_26 rfl ?_
      refine mx_getR (pc := 27) (v := 22) C dX7_where_27 so_7 ci_7 (k := 0) (by decide) fl_X7_50 rfl (q := 0) rfl (lay_7_0 hOM) (by decide) ?_
      obtain ⟨q2, hq2, h⟩ := of_bd h
      refine mc_V (pc := 30) (as := [aR 22]) (rest := []) (stk2 := []) C ⟨Nat.le_refl _, Nat.le_refl _⟩ (m_X1_takeSounds hOM p_1_60 p_1_22 hq2) mi_X1_takeSounds mv_X1_takeSounds ml_X7_162 ci_1 rfl (so_1 p_1_60) (by omega) rfl (Nat.le_of_ble_eq_true rfl) dX7_where_30 rfl (fun hp3 => ?_)
      have hOq2 : OK q2.2 := hp3
      refine mx_aload_n (pc := 33) C dX7_where_33 rfl ?_
      refine mx_getR (pc := 34) (v := 60) C dX7_where_34 so_7 ci_7 (k := 2) (by decide) fl_X7_57 rfl (q := 2) rfl (lay_7_2 hOq2) (by decide) ?_
      refine mx_getR (pc := 37) (v := 64) C dX7_where_37 (so_1 p_1_60) ci_1 (k := 4) (by decide) fl_X7_100 rfl (q := 4) rfl ((lay_1_4 hOq2 p_1_60).trans (by decide)) (by have := lot_pos p_1_60; omega) ?_
      refine mx_iload_n (pc := 40) C dX7_where_40 rfl ?_
      refine mx_iload_n (pc := 41) C dX7_where_41 rfl ?_
      obtain ⟨g4, h⟩ := of_gd h
      refine mx_iast (pc := 42) C dX7_where_42 (rfl : shp SH 64 = some (0, 6)) g4.1 g4.2 ?_
      generalize hmM5 : stM q2.2 64 x1 x3 = M5 at h ⊢
      replace h := lt_e h
      have hOM5 : OK M5 := by rw [← hmM5]; exact ok_arr hOq2 (rfl : shp SH 64 = some (0, 6)) (by decide)
      refine mx_aload_n (pc := 43) C dX7_where_43 rfl ?_
      obtain ⟨q6, hq6, h⟩ := of_bd h
      refine mc_V (pc := 44) (as := []) (rest := []) (stk2 := [aI q6.1]) C ⟨Nat.le_refl _, Nat.le_refl _⟩ (m_X7_isAsSeen hOM5 hq6) mi_X7_isAsSeen mv_X7_isAsSeen ml_X7_223 ci_7 rfl so_7 (by omega) rfl (Nat.le_of_ble_eq_true rfl) dX7_where_44 rfl (fun hp7 => ?_)
      have hOq6 : OK q6.2 := hp7.1
      refine mx_if_eq (pc := 47) (tgt := 56) C dX7_where_47 rfl (fun c8 => ?_) (fun c8 => ?_)
      · rw [if_pos c8] at h
        exact b_X7_where_56 C ih x1 x2 x3 q6.2 hOq6 h
      · rw [if_neg c8] at h
        refine mx_iload_n (pc := 50) C dX7_where_50 rfl ?_
        refine mx_iconst (pc := 51) C dX7_where_51 (z := 1) rfl (by constructor <;> decide) ?_
        refine mx_iload_n (pc := 52) C dX7_where_52 rfl ?_
        refine mx_ishl (pc := 53) C dX7_where_53  ?_
        refine mx_ior (pc := 54) C dX7_where_54  ?_
        refine mx_istore_n (pc := 55) C dX7_where_55 (ls' := [some (aR 0), some (aI x1), some (aI (or32 x2 (shl32 1 x3))), some (aI x3)]) (by decide) rfl rfl ?_
        exact b_X7_where_56 C ih x1 (or32 x2 (shl32 1 x3)) x3 q6.2 hOq6 h
set_option maxRecDepth 20000 in
set_option maxHeartbeats 4000000 in
theorem m_X7_where {p1 : Int} {M : Mem} {res : Int × Mem} (hOM : OK M) (h : f_X7_where p1 M = some res) : Mth false yX7_where cX7_where 4 (some .int) 6 0 0 SH [aR 0, aI p1] M (some (aI res.1)) SH res.2 (OK res.2) := by
  refine Mth.of (by decide +kernel) (Nat.le_of_ble_eq_true rfl) (fun K B C => ?_)
  show Wx K B _ 0 0 SH 4 M 0 [some (aR 0), some (aI p1), none, none] []
  unfold f_X7_where at h
  refine mx_aload_n (pc := 0) C dX7_where_0 rfl ?_
  refine mx_getR (pc := 1) (v := 22) C dX7_where_1 so_7 ci_7 (k := 0) (by decide) fl_X7_50 rfl (q := 0) rfl (lay_7_0 hOM) (by decide) ?_
  refine mx_iload_n (pc := 4) C dX7_where_4 rfl ?_
  obtain ⟨q1, hq1, h⟩ := of_bd h
  refine mc_V (pc := 5) (as := [aI p1]) (rest := []) (stk2 := [aI q1.1]) C ⟨Nat.le_refl _, Nat.le_refl _⟩ (m_X1_has hOM p_1_22 hq1) mi_X1_has mv_X1_has ml_X7_77 ci_1 rfl (so_1 p_1_22) (by omega) rfl (Nat.le_of_ble_eq_true rfl) dX7_where_5 rfl (fun hp2 => ?_)
  have hOq1 : OK q1.2 := hp2.1
  refine mx_if_ne (pc := 8) (tgt := 13) C dX7_where_8 rfl (fun c3 => ?_) (fun c3 => ?_)
  · rw [if_neg c3] at h
    refine mx_iconst (pc := 13) C dX7_where_13 (z := 0) rfl (by constructor <;> decide) ?_
    refine mx_istore_n (pc := 14) C dX7_where_14 (ls' := [some (aR 0), some (aI p1), some (aI 0), none]) (by decide) rfl rfl ?_
    refine mx_iconst (pc := 15) C dX7_where_15 (z := 0) rfl (by constructor <;> decide) ?_
    refine mx_istore_n (pc := 16) C dX7_where_16 (ls' := [some (aR 0), some (aI p1), some (aI 0), some (aI 0)]) (by decide) rfl rfl ?_
    exact b_X7_where_17 C FU p1 0 0 q1.2 hOq1 h
  · rw [if_pos c3] at h
    refine mx_iconst (pc := 11) C dX7_where_11 (z := (-1)) rfl (by constructor <;> decide) ?_
    rw [← Option.some.inj h]
    exact mx_ireturn (pc := 12) C dX7_where_12 hOq1 ⟨Nat.le_refl _, Nat.le_refl _⟩

def f_X7_commonDivisor_23 (p1 : Int) (p2 : Int) (k4 : Int → Int → Int → Int → Mem → Option (Int × Mem)) (x0 : Int) (x1 : Int) (x2 : Int) (x3 : Int) (M : Mem) : Option (Int × Mem) :=
  k4 x0 x1 x2 (w32 (x3 + 1)) M
def f_X7_commonDivisor_4 (p1 : Int) (p2 : Int) : Nat → Int → Int → Int → Int → Mem → Option (Int × Mem)
  | 0, _, _, _, _, _ => none
  | n + 1, x0, x1, x2, x3, M => if x1 < x3 then some (x2, M) else if x3 = 0 then none else if Int.tmod x0 x3 = 0 then if x3 = 0 then none else if Int.tmod x1 x3 = 0 then f_X7_commonDivisor_23 p1 p2 (f_X7_commonDivisor_4 p1 p2 n) x0 x1 x3 x3 M else f_X7_commonDivisor_23 p1 p2 (f_X7_commonDivisor_4 p1 p2 n) x0 x1 x2 x3 M else f_X7_commonDivisor_23 p1 p2 (f_X7_commonDivisor_4 p1 p2 n) x0 x1 x2 x3 M
def f_X7_commonDivisor (p1 : Int) (p2 : Int) (M : Mem) : Option (Int × Mem) :=
  f_X7_commonDivisor_4 p1 p2 FU p1 p2 1 2 M
set_option maxRecDepth 20000 in
set_option maxHeartbeats 4000000 in
theorem b_X7_commonDivisor_23 {K : KX} {B : BX} {res : Int × Mem} {p1 : Int} {p2 : Int} {k4 : Int → Int → Int → Int → Mem → Option (Int × Mem)} (C : Cx K B false yX7_commonDivisor cX7_commonDivisor 4 (some .int) 1 0 0) (hk4 : ∀ (x0 : Int) (x1 : Int) (x2 : Int) (x3 : Int) (M : Mem), OK M → k4 x0 x1 x2 x3 M = some res → Wx K B (Zr K B (some (aI res.1)) SH res.2 (OK res.2) 0 0) 0 0 SH 4 M 4 [some (aI x0), some (aI x1), some (aI x2), some (aI x3)] []) : ∀ (x0 : Int) (x1 : Int) (x2 : Int) (x3 : Int) (M : Mem), OK M → f_X7_commonDivisor_23 p1 p2 k4 x0 x1 x2 x3 M = some res → Wx K B (Zr K B (some (aI res.1)) SH res.2 (OK res.2) 0 0) 0 0 SH 4 M 23 [some (aI x0), some (aI x1), some (aI x2), some (aI x3)] [] := by
  intro x0 x1 x2 x3 M hOM h
  unfold f_X7_commonDivisor_23 at h
  refine mx_iinc (pc := 23) C dX7_commonDivisor_23 (ls' := [some (aI x0), some (aI x1), some (aI x2), some (aI (w32 (x3 + 1)))]) rfl (by decide) rfl (by constructor <;> decide) rfl rfl ?_
  refine mx_goto (pc := 26) (tgt := 4) C dX7_commonDivisor_26 rfl ?_
  exact hk4 x0 x1 x2 (w32 (x3 + 1)) M hOM h
set_option maxRecDepth 20000 in
set_option maxHeartbeats 4000000 in
theorem b_X7_commonDivisor_4 {K : KX} {B : BX} {res : Int × Mem} {p1 : Int} {p2 : Int} (C : Cx K B false yX7_commonDivisor cX7_commonDivisor 4 (some .int) 1 0 0) : ∀ (n : Nat) (x0 : Int) (x1 : Int) (x2 : Int) (x3 : Int) (M : Mem), OK M → f_X7_commonDivisor_4 p1 p2 n x0 x1 x2 x3 M = some res → Wx K B (Zr K B (some (aI res.1)) SH res.2 (OK res.2) 0 0) 0 0 SH 4 M 4 [some (aI x0), some (aI x1), some (aI x2), some (aI x3)] [] := by
  intro n
  induction n with
  | zero =>
    intro x0 x1 x2 x3 M hOM h
    cases h
  | succ n ih =>
    intro x0 x1 x2 x3 M hOM h
    rw [f_X7_commonDivisor_4.eq_2] at h
    refine mx_iload_n (pc := 4) C dX7_commonDivisor_4 rfl ?_
    refine mx_iload_n (pc := 5) C dX7_commonDivisor_5 rfl ?_
    refine mx_icmp_gt (pc := 6) (tgt := 29) C dX7_commonDivisor_6 rfl (fun c1 => ?_) (fun c1 => ?_)
    · rw [if_pos c1] at h
      refine mx_iload_n (pc := 29) C dX7_commonDivisor_29 rfl ?_
      rw [← Option.some.inj h]
      exact mx_ireturn (pc := 30) C dX7_commonDivisor_30 hOM ⟨Nat.le_refl _, Nat.le_refl _⟩
    · rw [if_neg c1] at h
      refine mx_iload_n (pc := 9) C dX7_commonDivisor_9 rfl ?_
      refine mx_iload_n (pc := 10) C dX7_commonDivisor_10 rfl ?_
      obtain ⟨g2, h⟩ := of_nz h
      refine mx_irem (pc := 11) C dX7_commonDivisor_11 g2 ?_
      refine mx_if_ne (pc := 12) (tgt := 23) C dX7_commonDivisor_12 rfl (fun c3 => ?_) (fun c3 => ?_)
      · rw [if_neg c3] at h
        exact b_X7_commonDivisor_23 C ih x0 x1 x2 x3 M hOM h
      · rw [if_pos c3] at h
        refine mx_iload_n (pc := 15) C dX7_commonDivisor_15 rfl ?_
        refine mx_iload_n (pc := 16) C dX7_commonDivisor_16 rfl ?_
        obtain ⟨g4, h⟩ := of_nz h
        refine mx_irem (pc := 17) C dX7_commonDivisor_17 g4 ?_
        refine mx_if_ne (pc := 18) (tgt := 23) C dX7_commonDivisor_18 rfl (fun c5 => ?_) (fun c5 => ?_)
        · rw [if_neg c5] at h
          exact b_X7_commonDivisor_23 C ih x0 x1 x2 x3 M hOM h
        · rw [if_pos c5] at h
          refine mx_iload_n (pc := 21) C dX7_commonDivisor_21 rfl ?_
          refine mx_istore_n (pc := 22) C dX7_commonDivisor_22 (ls' := [some (aI x0), some (aI x1), some (aI x3), some (aI x3)]) (by decide) rfl rfl ?_
          exact b_X7_commonDivisor_23 C ih x0 x1 x3 x3 M hOM h
set_option maxRecDepth 20000 in
set_option maxHeartbeats 4000000 in
theorem m_X7_commonDivisor {p1 : Int} {p2 : Int} {M : Mem} {res : Int × Mem} (hOM : OK M) (h : f_X7_commonDivisor p1 p2 M = some res) : Mth false yX7_commonDivisor cX7_commonDivisor 4 (some .int) 1 0 0 SH [aI p1, aI p2] M (some (aI res.1)) SH res.2 (OK res.2) := by
  refine Mth.of (by decide +kernel) (Nat.le_of_ble_eq_true rfl) (fun K B C => ?_)
  show Wx K B _ 0 0 SH 4 M 0 [some (aI p1), some (aI p2), none, none] []
  unfold f_X7_commonDivisor at h
  refine mx_iconst (pc := 0) C dX7_commonDivisor_0 (z := 1) rfl (by constructor <;> decide) ?_
  refine mx_istore_n (pc := 1) C dX7_commonDivisor_1 (ls' := [some (aI p1), some (aI p2), some (aI 1), none]) (by decide) rfl rfl ?_
  refine mx_iconst (pc := 2) C dX7_commonDivisor_2 (z := 2) rfl (by constructor <;> decide) ?_
  refine mx_istore_n (pc := 3) C dX7_commonDivisor_3 (ls' := [some (aI p1), some (aI p2), some (aI 1), some (aI 2)]) (by decide) rfl rfl ?_
  exact b_X7_commonDivisor_4 C FU p1 p2 1 2 M hOM h

def f_X7_ofFraction_24 (p1 : Int) (p2 : Int) (p3 : Int) (x0 : Int) (x1 : Int) (x2 : Int) (x3 : Int) (M : Mem) : Option (Int × Mem) :=
  if x2 = 0 then if x3 = 0 then none else some (w32 (Int.tdiv x0 x3), M) else if x3 = 0 then none else some (w32 (Int.tdiv x1 x3), M)
def f_X7_ofFraction (p1 : Int) (p2 : Int) (p3 : Int) (M : Mem) : Option (Int × Mem) :=
  (f_X7_commonDivisor p1 p2 M).bind (fun q1 => if q1.1 < 1 then some ((-9223372036854775808), q1.2) else if p3 = 0 then f_X7_ofFraction_24 p1 p2 p3 p1 p2 p3 q1.1 q1.2 else if p3 = 1 then f_X7_ofFraction_24 p1 p2 p3 p1 p2 p3 q1.1 q1.2 else some ((-9223372036854775808), q1.2))
set_option maxRecDepth 20000 in
set_option maxHeartbeats 4000000 in
theorem b_X7_ofFraction_24 {K : KX} {B : BX} {res : Int × Mem} {p1 : Int} {p2 : Int} {p3 : Int} (C : Cx K B false yX7_ofFraction cX7_ofFraction 4 (some .long) 2 0 0) : ∀ (x0 : Int) (x1 : Int) (x2 : Int) (x3 : Int) (M : Mem), OK M → f_X7_ofFraction_24 p1 p2 p3 x0 x1 x2 x3 M = some res → Wx K B (Zr K B (some (aJ res.1)) SH res.2 (OK res.2) 0 0) 0 0 SH 4 M 24 [some (aI x0), some (aI x1), some (aI x2), some (aI x3)] [] := by
  intro x0 x1 x2 x3 M hOM h
  unfold f_X7_ofFraction_24 at h
  refine mx_iload_n (pc := 24) C dX7_ofFraction_24 rfl ?_
  refine mx_if_ne (pc := 25) (tgt := 32) C dX7_ofFraction_25 rfl (fun c1 => ?_) (fun c1 => ?_)
  · rw [if_neg c1] at h
    refine mx_iload_n (pc := 32) C dX7_ofFraction_32 rfl ?_
    refine mx_iload_n (pc := 33) C dX7_ofFraction_33 rfl ?_
    obtain ⟨g2, h⟩ := of_nz h
    refine mx_idiv (pc := 34) C dX7_ofFraction_34 g2 ?_
    refine mx_i2l (pc := 35) C dX7_ofFraction_35  ?_
    rw [← Option.some.inj h]
    exact mx_lreturn (pc := 36) C dX7_ofFraction_36 hOM ⟨Nat.le_refl _, Nat.le_refl _⟩
  · rw [if_pos c1] at h
    refine mx_iload_n (pc := 28) C dX7_ofFraction_28 rfl ?_
    refine mx_goto (pc := 29) (tgt := 33) C dX7_ofFraction_29 rfl ?_
    refine mx_iload_n (pc := 33) C dX7_ofFraction_33 rfl ?_
    obtain ⟨g3, h⟩ := of_nz h
    refine mx_idiv (pc := 34) C dX7_ofFraction_34 g3 ?_
    refine mx_i2l (pc := 35) C dX7_ofFraction_35  ?_
    rw [← Option.some.inj h]
    exact mx_lreturn (pc := 36) C dX7_ofFraction_36 hOM ⟨Nat.le_refl _, Nat.le_refl _⟩
set_option maxRecDepth 20000 in
set_option maxHeartbeats 4000000 in
theorem m_X7_ofFraction {p1 : Int} {p2 : Int} {p3 : Int} {M : Mem} {res : Int × Mem} (hOM : OK M) (h : f_X7_ofFraction p1 p2 p3 M = some res) : Mth false yX7_ofFraction cX7_ofFraction 4 (some .long) 2 0 0 SH [aI p1, aI p2, aI p3] M (some (aJ res.1)) SH res.2 (OK res.2) := by
  refine Mth.of (by decide +kernel) (Nat.le_of_ble_eq_true rfl) (fun K B C => ?_)
  show Wx K B _ 0 0 SH 4 M 0 [some (aI p1), some (aI p2), some (aI p3), none] []
  unfold f_X7_ofFraction at h
  refine mx_iload_n (pc := 0) C dX7_ofFraction_0 rfl ?_
  refine mx_iload_n (pc := 1) C dX7_ofFraction_1 rfl ?_
  obtain ⟨q1, hq1, h⟩ := of_bd h
  refine mc_S (pc := 2) (as := [aI p1, aI p2]) (rest := []) (stk2 := [aI q1.1]) C ⟨Nat.le_refl _, Nat.le_refl _⟩ (m_X7_commonDivisor hOM hq1) mi_X7_commonDivisor ms_X7_commonDivisor ml_X7_247 (by omega) rfl (Nat.le_of_ble_eq_true rfl) dX7_ofFraction_2 rfl (fun hp2 => ?_)
  have hOq1 : OK q1.2 := hp2
  refine mx_istore_n (pc := 5) C dX7_ofFraction_5 (ls' := [some (aI p1), some (aI p2), some (aI p3), some (aI q1.1)]) (by decide) rfl rfl ?_
  refine mx_iload_n (pc := 6) C dX7_ofFraction_6 rfl ?_
  refine mx_iconst (pc := 7) C dX7_ofFraction_7 (z := 1) rfl (by constructor <;> decide) ?_
  refine mx_icmp_lt (pc := 8) (tgt := 20) C dX7_ofFraction_8 rfl (fun c3 => ?_) (fun c3 => ?_)
  · rw [if_pos c3] at h
    refine mx_ldc2 (pc := 20) C dX7_ofFraction_20 kl_X7_238 (by constructor <;> decide) ?_
    rw [← Option.some.inj h]
    exact mx_lreturn (pc := 23) C dX7_ofFraction_23 hOq1 ⟨Nat.le_refl _, Nat.le_refl _⟩
  · rw [if_neg c3] at h
    refine mx_iload_n (pc := 11) C dX7_ofFraction_11 rfl ?_
    refine mx_if_eq (pc := 12) (tgt := 24) C dX7_ofFraction_12 rfl (fun c4 => ?_) (fun c4 => ?_)
    · rw [if_pos c4] at h
      exact b_X7_ofFraction_24 C p1 p2 p3 q1.1 q1.2 hOq1 h
    · rw [if_neg c4] at h
      refine mx_iload_n (pc := 15) C dX7_ofFraction_15 rfl ?_
      refine mx_iconst (pc := 16) C dX7_ofFraction_16 (z := 1) rfl (by constructor <;> decide) ?_
      refine mx_icmp_eq (pc := 17) (tgt := 24) C dX7_ofFraction_17 rfl (fun c5 => ?_) (fun c5 => ?_)
      · rw [if_pos c5] at h
        exact b_X7_ofFraction_24 C p1 p2 p3 q1.1 q1.2 hOq1 h
      · rw [if_neg c5] at h
        refine mx_ldc2 (pc := 20) C dX7_ofFraction_20 kl_X7_238 (by constructor <;> decide) ?_
        rw [← Option.some.inj h]
        exact mx_lreturn (pc := 23) C dX7_ofFraction_23 hOq1 ⟨Nat.le_refl _, Nat.le_refl _⟩

def f_X7_odds (p1 : Int) (p2 : Int) (M : Mem) : Option (Int × Mem) :=
  (f_X7_isHouse p1 M).bind (fun q1 => if q1.1 = 0 then some ((-9223372036854775808), q1.2) else if q1.2 22 0 = 0 then some ((-9223372036854775808), q1.2) else (f_X6_take 22 q1.2).bind (fun q5 => (f_X6_stillWithoutOne p1 q5.2).bind (fun q7 => (f_X7_ofFraction q7.1 (q7.2 22 0) p2 q7.2).bind (fun q9 => some (q9.1, q9.2)))))
set_option maxRecDepth 20000 in
set_option maxHeartbeats 4000000 in
theorem m_X7_odds {p1 : Int} {p2 : Int} {M : Mem} {res : Int × Mem} (hOM : OK M) (h : f_X7_odds p1 p2 M = some res) : Mth false yX7_odds cX7_odds 3 (some .long) 4 0 0 SH [aR 0, aI p1, aI p2] M (some (aJ res.1)) SH res.2 (OK res.2) := by
  refine Mth.of (by decide +kernel) (Nat.le_of_ble_eq_true rfl) (fun K B C => ?_)
  show Wx K B _ 0 0 SH 3 M 0 [some (aR 0), some (aI p1), some (aI p2)] []
  unfold f_X7_odds at h
  refine mx_iload_n (pc := 0) C dX7_odds_0 rfl ?_
  obtain ⟨q1, hq1, h⟩ := of_bd h
  refine mc_S (pc := 1) (as := [aI p1]) (rest := []) (stk2 := [aI q1.1]) C ⟨Nat.le_refl _, Nat.le_refl _⟩ (m_X7_isHouse hOM hq1) mi_X7_isHouse ms_X7_isHouse ml_X7_65 (by omega) rfl (Nat.le_of_ble_eq_true rfl) dX7_odds_1 rfl (fun hp2 => ?_)
  have hOq1 : OK q1.2 := hp2.1
  refine mx_if_eq (pc := 4) (tgt := 17) C dX7_odds_4 rfl (fun c3 => ?_) (fun c3 => ?_)
  · rw [if_pos c3] at h
    refine mx_ldc2 (pc := 17) C dX7_odds_17 kl_X7_238 (by constructor <;> decide) ?_
    rw [← Option.some.inj h]
    exact mx_lreturn (pc := 20) C dX7_odds_20 hOq1 ⟨Nat.le_refl _, Nat.le_refl _⟩
  · rw [if_neg c3] at h
    refine mx_aload_n (pc := 7) C dX7_odds_7 rfl ?_
    refine mx_getR (pc := 8) (v := 22) C dX7_odds_8 so_7 ci_7 (k := 0) (by decide) fl_X7_50 rfl (q := 0) rfl (lay_7_0 hOq1) (by decide) ?_
    refine mx_getI (pc := 11) C dX7_odds_11 (so_1 p_1_22) ci_1 (k := 0) (by decide) fl_X7_69 rfl (q := 0) rfl ?_
    refine mx_if_ne (pc := 14) (tgt := 21) C dX7_odds_14 rfl (fun c4 => ?_) (fun c4 => ?_)
    · rw [if_neg c4] at h
      refine mx_aload_n (pc := 21) C dX7_odds_21 rfl ?_
      refine mx_getR (pc := 22) (v := 4) C dX7_odds_22 so_7 ci_7 (k := 7) (by decide) fl_X7_27 rfl (q := 7) rfl (lay_7_7 hOq1) (by decide) ?_
      refine mx_aload_n (pc := 25) C dX7_odds_25 rfl ?_
      refine mx_getR (pc := 26) (v := 22) C dX7_odds_26 so_7 ci_7 (k := 0) (by decide) fl_X7_50 rfl (q := 0) rfl (lay_7_0 hOq1) (by decide) ?_
      obtain ⟨q5, hq5, h⟩ := of_bd h
      refine mc_V (pc := 29) (as := [aR 22]) (rest := []) (stk2 := []) C ⟨Nat.le_refl _, Nat.le_refl _⟩ (m_X6_take hOq1 p_1_22 hq5) mi_X6_take mv_X6_take ml_X7_172 ci_6 rfl so_6 (by omega) rfl (Nat.le_of_ble_eq_true rfl) dX7_odds_29 rfl (fun hp6 => ?_)
      have hOq5 : OK q5.2 := hp6
      refine mx_aload_n (pc := 32) C dX7_odds_32 rfl ?_
      refine mx_getR (pc := 33) (v := 4) C dX7_odds_33 so_7 ci_7 (k := 7) (by decide) fl_X7_27 rfl (q := 7) rfl (lay_7_7 hOq5) (by decide) ?_
      refine mx_iload_n (pc := 36) C dX7_odds_36 rfl ?_
      obtain ⟨q7, hq7, h⟩ := of_bd h
      refine mc_V (pc := 37) (as := [aI p1]) (rest := []) (stk2 := [aI q7.1]) C ⟨Nat.le_refl _, Nat.le_refl _⟩ (m_X6_stillWithoutOne hOq5 hq7) mi_X6_stillWithoutOne mv_X6_stillWithoutOne ml_X7_240 ci_6 rfl so_6 (by omega) rfl (Nat.le_of_ble_eq_true rfl) dX7_odds_37 rfl (fun hp8 => ?_)
      have hOq7 : OK q7.2 := hp8
      refine mx_aload_n (pc := 40) C dX7_odds_40 rfl ?_
      refine mx_getR (pc := 41) (v := 22) C dX7_odds_41 so_7 ci_7 (k := 0) (by decide) fl_X7_50 rfl (q := 0) rfl (lay_7_0 hOq7) (by decide) ?_
      refine mx_getI (pc := 44) C dX7_odds_44 (so_1 p_1_22) ci_1 (k := 0) (by decide) fl_X7_69 rfl (q := 0) rfl ?_
      refine mx_iload_n (pc := 47) C dX7_odds_47 rfl ?_
      obtain ⟨q9, hq9, h⟩ := of_bd h
      refine mc_S (pc := 48) (as := [aI q7.1, aI (q7.2 22 0), aI p2]) (rest := []) (stk2 := [aJ q9.1]) C ⟨Nat.le_refl _, Nat.le_refl _⟩ (m_X7_ofFraction hOq7 hq9) mi_X7_ofFraction ms_X7_ofFraction ml_X7_243 (by omega) rfl (Nat.le_of_ble_eq_true rfl) dX7_odds_48 rfl (fun hp10 => ?_)
      have hOq9 : OK q9.2 := hp10
      rw [← Option.some.inj h]
      exact mx_lreturn (pc := 51) C dX7_odds_51 hOq9 ⟨Nat.le_refl _, Nat.le_refl _⟩
    · rw [if_pos c4] at h
      refine mx_ldc2 (pc := 17) C dX7_odds_17 kl_X7_238 (by constructor <;> decide) ?_
      rw [← Option.some.inj h]
      exact mx_lreturn (pc := 20) C dX7_odds_20 hOq1 ⟨Nat.le_refl _, Nat.le_refl _⟩

def f_X7_mean_37 (p1 : Int) (p2 : Int) : Nat → Int → Int → Int → Mem → Option (Int × Mem)
  | 0, _, _, _, _ => none
  | n + 1, x2, x3, x4, M => if 5 ≤ x4 then (f_X7_ofFraction x3 5 x2 M).bind (fun q2 => some (q2.1, q2.2)) else (f_X1_noiseOf 60 x4 M).bind (fun q4 => f_X7_mean_37 p1 p2 n x2 (w32 (x3 + q4.1)) (w32 (x4 + 1)) q4.2)
def f_X7_mean (p1 : Int) (p2 : Int) (M : Mem) : Option (Int × Mem) :=
  (f_X7_isIn p1 60 M).bind (fun q1 => if q1.1 = 0 then some ((-9223372036854775808), q1.2) else (f_X1_takeSounds 60 22 q1.2).bind (fun q4 => (f_X1_goYears 60 p1 q4.2).bind (fun q6 => f_X7_mean_37 p1 p2 FU p2 0 0 q6.2)))
set_option maxRecDepth 20000 in
set_option maxHeartbeats 4000000 in
theorem b_X7_mean_37 {K : KX} {B : BX} {res : Int × Mem} {p1 : Int} {p2 : Int} (C : Cx K B false yX7_mean cX7_mean 5 (some .long) 5 0 0) : ∀ (n : Nat) (x2 : Int) (x3 : Int) (x4 : Int) (M : Mem), OK M → f_X7_mean_37 p1 p2 n x2 x3 x4 M = some res → Wx K B (Zr K B (some (aJ res.1)) SH res.2 (OK res.2) 0 0) 0 0 SH 5 M 37 [some (aR 0), none, some (aI x2), some (aI x3), some (aI x4)] [] := by
  intro n
  induction n with
  | zero =>
    intro x2 x3 x4 M hOM h
    cases h
  | succ n ih =>
    intro x2 x3 x4 M hOM h
    rw [f_X7_mean_37.eq_2] at h
    refine mx_iload (pc := 37) C dX7_mean_37 rfl ?_
    refine mx_iconst (pc := 39) C dX7_mean_39 (z := 5) rfl (by constructor <;> decide) ?_
    refine mx_icmp_ge (pc := 40) (tgt := 61) C dX7_mean_40 rfl (fun c1 => ?_) (fun c1 => ?_)
    · rw [if_pos c1] at h
      refine mx_iload_n (pc := 61) C dX7_mean_61 rfl ?_
      refine mx_iconst (pc := 62) C dX7_mean_62 (z := 5) rfl (by constructor <;> decide) ?_
      refine mx_iload_n (pc := 63) C dX7_mean_63 rfl ?_
      obtain ⟨q2, hq2, h⟩ := of_bd h
      refine mc_S (pc := 64) (as := [aI x3, aI 5, aI x2]) (rest := []) (stk2 := [aJ q2.1]) C ⟨Nat.le_refl _, Nat.le_refl _⟩ (m_X7_ofFraction hOM hq2) mi_X7_ofFraction ms_X7_ofFraction ml_X7_243 (by omega) rfl (Nat.le_of_ble_eq_true rfl) dX7_mean_64 rfl (fun hp3 => ?_)
      have hOq2 : OK q2.2 := hp3
      rw [← Option.some.inj h]
      exact mx_lreturn (pc := 67) C dX7_mean_67 hOq2 ⟨Nat.le_refl _, Nat.le_refl _⟩
    · rw [if_neg c1] at h
      refine mx_iload_n (pc := 43) C dX7_mean_43 rfl ?_
      refine mx_aload_n (pc := 44) C dX7_mean_44 rfl ?_
      refine mx_getR (pc := 45) (v := 60) C dX7_mean_45 so_7 ci_7 (k := 2) (by decide) fl_X7_57 rfl (q := 2) rfl (lay_7_2 hOM) (by decide) ?_
      refine mx_iload (pc := 48) C dX7_mean_48 rfl ?_
      obtain ⟨q4, hq4, h⟩ := of_bd h
      refine mc_V (pc := 50) (as := [aI x4]) (rest := [aI x3]) (stk2 := [aI q4.1, aI x3]) C ⟨Nat.le_refl _, Nat.le_refl _⟩ (m_X1_noiseOf hOM p_1_60 hq4) mi_X1_noiseOf mv_X1_noiseOf ml_X7_112 ci_1 rfl (so_1 p_1_60) (by omega) rfl (Nat.le_of_ble_eq_true rfl) dX7_mean_50 rfl (fun hp5 => ?_)
      have hOq4 : OK q4.2 := hp5
      refine mx_iadd (pc := 53) C dX7_mean_53  ?_
      refine mx_istore_n (pc := 54) C dX7_mean_54 (ls' := [some (aR 0), none, some (aI x2), some (aI (w32 (x3 + q4.1))), some (aI x4)]) (by decide) rfl rfl ?_
      refine mx_iinc (pc := 55) C dX7_mean_55 (ls' := [some (aR 0), none, some (aI x2), some (aI (w32 (x3 + q4.1))), some (aI (w32 (x4 + 1)))]) rfl (by decide) rfl (by constructor <;> decide) rfl rfl ?_
      refine mx_goto (pc := 58) (tgt := 37) C dX7_mean_58 rfl ?_
      exact ih x2 (w32 (x3 + q4.1)) (w32 (x4 + 1)) q4.2 hOq4 h
set_option maxRecDepth 20000 in
set_option maxHeartbeats 4000000 in
theorem m_X7_mean {p1 : Int} {p2 : Int} {M : Mem} {res : Int × Mem} (hOM : OK M) (h : f_X7_mean p1 p2 M = some res) : Mth false yX7_mean cX7_mean 5 (some .long) 5 0 0 SH [aR 0, aI p1, aI p2] M (some (aJ res.1)) SH res.2 (OK res.2) := by
  refine Mth.of (by decide +kernel) (Nat.le_of_ble_eq_true rfl) (fun K B C => ?_)
  show Wx K B _ 0 0 SH 5 M 0 [some (aR 0), some (aI p1), some (aI p2), none, none] []
  unfold f_X7_mean at h
  refine mx_iload_n (pc := 0) C dX7_mean_0 rfl ?_
  refine mx_bipush (pc := 1) C dX7_mean_1 (z := 60) rfl (by constructor <;> decide) ?_
  obtain ⟨q1, hq1, h⟩ := of_bd h
  refine mc_S (pc := 3) (as := [aI p1, aI 60]) (rest := []) (stk2 := [aI q1.1]) C ⟨Nat.le_refl _, Nat.le_refl _⟩ (m_X7_isIn hOM hq1) mi_X7_isIn ms_X7_isIn ml_X7_61 (by omega) rfl (Nat.le_of_ble_eq_true rfl) dX7_mean_3 rfl (fun hp2 => ?_)
  have hOq1 : OK q1.2 := hp2.1
  refine mx_if_ne (pc := 6) (tgt := 13) C dX7_mean_6 rfl (fun c3 => ?_) (fun c3 => ?_)
  · rw [if_neg c3] at h
    refine mx_aload_n (pc := 13) C dX7_mean_13 rfl ?_
    refine mx_getR (pc := 14) (v := 60) C dX7_mean_14 so_7 ci_7 (k := 2) (by decide) fl_X7_57 rfl (q := 2) rfl (lay_7_2 hOq1) (by decide) ?_
    refine mx_aload_n (pc := 17) C dX7_mean_17 rfl ?_
    refine mx_getR (pc := 18) (v := 22) C dX7_mean_18 so_7 ci_7 (k := 0) (by decide) fl_X7_50 rfl (q := 0) rfl (lay_7_0 hOq1) (by decide) ?_
    obtain ⟨q4, hq4, h⟩ := of_bd h
    refine mc_V (pc := 21) (as := [aR 22]) (rest := []) (stk2 := []) C ⟨Nat.le_refl _, Nat.le_refl _⟩ (m_X1_takeSounds hOq1 p_1_60 p_1_22 hq4) mi_X1_takeSounds mv_X1_takeSounds ml_X7_162 ci_1 rfl (so_1 p_1_60) (by omega) rfl (Nat.le_of_ble_eq_true rfl) dX7_mean_21 rfl (fun hp5 => ?_)
    have hOq4 : OK q4.2 := hp5
    refine mx_aload_n (pc := 24) C dX7_mean_24 rfl ?_
    refine mx_getR (pc := 25) (v := 60) C dX7_mean_25 so_7 ci_7 (k := 2) (by decide) fl_X7_57 rfl (q := 2) rfl (lay_7_2 hOq4) (by decide) ?_
    refine mx_iload_n (pc := 28) C dX7_mean_28 rfl ?_
    obtain ⟨q6, hq6, h⟩ := of_bd h
    refine mc_V (pc := 29) (as := [aI p1]) (rest := []) (stk2 := []) C ⟨Nat.le_refl _, Nat.le_refl _⟩ (m_X1_goYears hOq4 p_1_60 hq6) mi_X1_goYears mv_X1_goYears ml_X7_158 ci_1 rfl (so_1 p_1_60) (by omega) rfl (Nat.le_of_ble_eq_true rfl) dX7_mean_29 rfl (fun hp7 => ?_)
    have hOq6 : OK q6.2 := hp7
    refine mx_iconst (pc := 32) C dX7_mean_32 (z := 0) rfl (by constructor <;> decide) ?_
    refine mx_istore_n (pc := 33) C dX7_mean_33 (ls' := [some (aR 0), some (aI p1), some (aI p2), some (aI 0), none]) (by decide) rfl rfl ?_
    refine mx_iconst (pc := 34) C dX7_mean_34 (z := 0) rfl (by constructor <;> decide) ?_
    refine mx_istore (pc := 35) C dX7_mean_35 (ls' := [some (aR 0), some (aI p1), some (aI p2), some (aI 0), some (aI 0)]) (by decide) rfl rfl ?_
    refine mx_mask [true, false, true, true, true] (ls' := [some (aR 0), none, some (aI p2), some (aI 0), some (aI 0)]) rfl rfl ?_
    exact b_X7_mean_37 C FU p2 0 0 q6.2 hOq6 h
  · rw [if_pos c3] at h
    refine mx_ldc2 (pc := 9) C dX7_mean_9 kl_X7_238 (by constructor <;> decide) ?_
    rw [← Option.some.inj h]
    exact mx_lreturn (pc := 12) C dX7_mean_12 hOq1 ⟨Nat.le_refl _, Nat.le_refl _⟩

def f_X7_plan_41 (p1 : Int) (p2 : Int) (x1 : Int) (x2 : Int) (M : Mem) : Option (Int × Mem) :=
  (f_X2_isFull 32 M).bind (fun q1 => if q1.1 = 0 then (f_X2_add 32 x1 x2 0 q1.2).bind (fun q4 => some (q4.1, q4.2)) else some ((-4), q1.2))
def f_X7_plan (p1 : Int) (p2 : Int) (M : Mem) : Option (Int × Mem) :=
  if p1 = (-1) then (f_X2_empty 32 M).bind (fun q9 => some (q9.1, q9.2)) else (f_X7_isIn p1 3 M).bind (fun q2 => if q2.1 = 0 then some ((-1), q2.2) else if p1 = 0 then f_X7_plan_41 p1 p2 p1 p2 q2.2 else (f_X1_has 22 p2 q2.2).bind (fun q6 => if q6.1 = 0 then some ((-1), q6.2) else f_X7_plan_41 p1 p2 p1 p2 q6.2))
set_option maxRecDepth 20000 in
set_option maxHeartbeats 4000000 in
theorem b_X7_plan_41 {K : KX} {B : BX} {res : Int × Mem} {p1 : Int} {p2 : Int} (C : Cx K B false yX7_plan cX7_plan 3 (some .int) 2 0 0) : ∀ (x1 : Int) (x2 : Int) (M : Mem), OK M → f_X7_plan_41 p1 p2 x1 x2 M = some res → Wx K B (Zr K B (some (aI res.1)) SH res.2 (OK res.2) 0 0) 0 0 SH 3 M 41 [some (aR 0), some (aI x1), some (aI x2)] [] := by
  intro x1 x2 M hOM h
  unfold f_X7_plan_41 at h
  refine mx_aload_n (pc := 41) C dX7_plan_41 rfl ?_
  refine mx_getR (pc := 42) (v := 22) C dX7_plan_42 so_7 ci_7 (k := 0) (by decide) fl_X7_50 rfl (q := 0) rfl (lay_7_0 hOM) (by decide) ?_
  refine mx_getR (pc := 45) (v := 32) C dX7_plan_45 (so_1 p_1_22) ci_1 (k := 9) (by decide) fl_X7_250 rfl (q := 9) rfl ((lay_1_9 hOM p_1_22).trans (by decide)) (by have := lot_pos p_1_22; omega) ?_
  obtain ⟨q1, hq1, h⟩ := of_bd h
  refine mc_V (pc := 48) (as := []) (rest := []) (stk2 := [aI q1.1]) C ⟨Nat.le_refl _, Nat.le_refl _⟩ (m_X2_isFull hOM p_2_32 hq1) mi_X2_isFull mv_X2_isFull ml_X7_211 ci_2 rfl (so_2 p_2_32) (by omega) rfl (Nat.le_of_ble_eq_true rfl) dX7_plan_48 rfl (fun hp2 => ?_)
  have hOq1 : OK q1.2 := hp2.1
  refine mx_if_eq (pc := 51) (tgt := 59) C dX7_plan_51 rfl (fun c3 => ?_) (fun c3 => ?_)
  · rw [if_pos c3] at h
    refine mx_aload_n (pc := 59) C dX7_plan_59 rfl ?_
    refine mx_getR (pc := 60) (v := 22) C dX7_plan_60 so_7 ci_7 (k := 0) (by decide) fl_X7_50 rfl (q := 0) rfl (lay_7_0 hOq1) (by decide) ?_
    refine mx_getR (pc := 63) (v := 32) C dX7_plan_63 (so_1 p_1_22) ci_1 (k := 9) (by decide) fl_X7_250 rfl (q := 9) rfl ((lay_1_9 hOq1 p_1_22).trans (by decide)) (by have := lot_pos p_1_22; omega) ?_
    refine mx_iload_n (pc := 66) C dX7_plan_66 rfl ?_
    refine mx_iload_n (pc := 67) C dX7_plan_67 rfl ?_
    refine mx_iconst (pc := 68) C dX7_plan_68 (z := 0) rfl (by constructor <;> decide) ?_
    obtain ⟨q4, hq4, h⟩ := of_bd h
    refine mc_V (pc := 69) (as := [aI x1, aI x2, aI 0]) (rest := []) (stk2 := [aI q4.1]) C ⟨Nat.le_refl _, Nat.le_refl _⟩ (m_X2_add hOq1 p_2_32 hq4) mi_X2_add mv_X2_add ml_X7_215 ci_2 rfl (so_2 p_2_32) (by omega) rfl (Nat.le_of_ble_eq_true rfl) dX7_plan_69 rfl (fun hp5 => ?_)
    have hOq4 : OK q4.2 := hp5
    rw [← Option.some.inj h]
    exact mx_ireturn (pc := 72) C dX7_plan_72 hOq4 ⟨Nat.le_refl _, Nat.le_refl _⟩
  · rw [if_neg c3] at h
    refine mx_bipush (pc := 54) C dX7_plan_54 (z := (-4)) rfl (by constructor <;> decide) ?_
    refine mx_goto (pc := 56) (tgt := 72) C dX7_plan_56 rfl ?_
    rw [← Option.some.inj h]
    exact mx_ireturn (pc := 72) C dX7_plan_72 hOq1 ⟨Nat.le_refl _, Nat.le_refl _⟩
set_option maxRecDepth 20000 in
set_option maxHeartbeats 4000000 in
theorem m_X7_plan {p1 : Int} {p2 : Int} {M : Mem} {res : Int × Mem} (hOM : OK M) (h : f_X7_plan p1 p2 M = some res) : Mth false yX7_plan cX7_plan 3 (some .int) 2 0 0 SH [aR 0, aI p1, aI p2] M (some (aI res.1)) SH res.2 (OK res.2) := by
  refine Mth.of (by decide +kernel) (Nat.le_of_ble_eq_true rfl) (fun K B C => ?_)
  show Wx K B _ 0 0 SH 3 M 0 [some (aR 0), some (aI p1), some (aI p2)] []
  unfold f_X7_plan at h
  refine mx_iload_n (pc := 0) C dX7_plan_0 rfl ?_
  refine mx_iconst (pc := 1) C dX7_plan_1 (z := (-1)) rfl (by constructor <;> decide) ?_
  refine mx_icmp_ne (pc := 2) (tgt := 16) C dX7_plan_2 rfl (fun c1 => ?_) (fun c1 => ?_)
  · rw [if_neg c1] at h
    refine mx_iload_n (pc := 16) C dX7_plan_16 rfl ?_
    refine mx_iconst (pc := 17) C dX7_plan_17 (z := 3) rfl (by constructor <;> decide) ?_
    obtain ⟨q2, hq2, h⟩ := of_bd h
    refine mc_S (pc := 18) (as := [aI p1, aI 3]) (rest := []) (stk2 := [aI q2.1]) C ⟨Nat.le_refl _, Nat.le_refl _⟩ (m_X7_isIn hOM hq2) mi_X7_isIn ms_X7_isIn ml_X7_61 (by omega) rfl (Nat.le_of_ble_eq_true rfl) dX7_plan_18 rfl (fun hp3 => ?_)
    have hOq2 : OK q2.2 := hp3.1
    refine mx_if_eq (pc := 21) (tgt := 39) C dX7_plan_21 rfl (fun c4 => ?_) (fun c4 => ?_)
    · rw [if_pos c4] at h
      refine mx_iconst (pc := 39) C dX7_plan_39 (z := (-1)) rfl (by constructor <;> decide) ?_
      rw [← Option.some.inj h]
      exact mx_ireturn (pc := 40) C dX7_plan_40 hOq2 ⟨Nat.le_refl _, Nat.le_refl _⟩
    · rw [if_neg c4] at h
      refine mx_iload_n (pc := 24) C dX7_plan_24 rfl ?_
      refine mx_if_eq (pc := 25) (tgt := 41) C dX7_plan_25 rfl (fun c5 => ?_) (fun c5 => ?_)
      · rw [if_pos c5] at h
        exact b_X7_plan_41 C p1 p2 q2.2 hOq2 h
      · rw [if_neg c5] at h
        refine mx_aload_n (pc := 28) C dX7_plan_28 rfl ?_
        refine mx_getR (pc := 29) (v := 22) C dX7_plan_29 so_7 ci_7 (k := 0) (by decide) fl_X7_50 rfl (q := 0) rfl (lay_7_0 hOq2) (by decide) ?_
        refine mx_iload_n (pc := 32) C dX7_plan_32 rfl ?_
        obtain ⟨q6, hq6, h⟩ := of_bd h
        refine mc_V (pc := 33) (as := [aI p2]) (rest := []) (stk2 := [aI q6.1]) C ⟨Nat.le_refl _, Nat.le_refl _⟩ (m_X1_has hOq2 p_1_22 hq6) mi_X1_has mv_X1_has ml_X7_77 ci_1 rfl (so_1 p_1_22) (by omega) rfl (Nat.le_of_ble_eq_true rfl) dX7_plan_33 rfl (fun hp7 => ?_)
        have hOq6 : OK q6.2 := hp7.1
        refine mx_if_ne (pc := 36) (tgt := 41) C dX7_plan_36 rfl (fun c8 => ?_) (fun c8 => ?_)
        · rw [if_neg c8] at h
          exact b_X7_plan_41 C p1 p2 q6.2 hOq6 h
        · rw [if_pos c8] at h
          refine mx_iconst (pc := 39) C dX7_plan_39 (z := (-1)) rfl (by constructor <;> decide) ?_
          rw [← Option.some.inj h]
          exact mx_ireturn (pc := 40) C dX7_plan_40 hOq6 ⟨Nat.le_refl _, Nat.le_refl _⟩
  · rw [if_pos c1] at h
    refine mx_aload_n (pc := 5) C dX7_plan_5 rfl ?_
    refine mx_getR (pc := 6) (v := 22) C dX7_plan_6 so_7 ci_7 (k := 0) (by decide) fl_X7_50 rfl (q := 0) rfl (lay_7_0 hOM) (by decide) ?_
    refine mx_getR (pc := 9) (v := 32) C dX7_plan_9 (so_1 p_1_22) ci_1 (k := 9) (by decide) fl_X7_250 rfl (q := 9) rfl ((lay_1_9 hOM p_1_22).trans (by decide)) (by have := lot_pos p_1_22; omega) ?_
    obtain ⟨q9, hq9, h⟩ := of_bd h
    refine mc_V (pc := 12) (as := []) (rest := []) (stk2 := [aI q9.1]) C ⟨Nat.le_refl _, Nat.le_refl _⟩ (m_X2_empty hOM p_2_32 hq9) mi_X2_empty mv_X2_empty ml_X7_206 ci_2 rfl (so_2 p_2_32) (by omega) rfl (Nat.le_of_ble_eq_true rfl) dX7_plan_12 rfl (fun hp10 => ?_)
    have hOq9 : OK q9.2 := hp10
    rw [← Option.some.inj h]
    exact mx_ireturn (pc := 15) C dX7_plan_15 hOq9 ⟨Nat.le_refl _, Nat.le_refl _⟩

def f_X7_ends_24 (p1 : Int) : Nat → Int → Int → Mem → Option (Int × Mem)
  | 0, _, _, _ => none
  | n + 1, x1, x2, M => if M 32 0 ≤ x2 then if x1 = 0 then (f_X1_greatest 60 M).bind (fun q7 => some (q7.1, q7.2)) else (f_X1_stillHouses 60 M).bind (fun q3 => (f_J6_bitCount_0f7a4 q3.1 q3.2).bind (fun q5 => some (q5.1, q5.2))) else if 0 ≤ x2 ∧ x2 < 10 then if 0 ≤ x2 ∧ x2 < 10 then (f_X1_go 60 (M 33 x2) (M 34 x2) M).bind (fun q11 => f_X7_ends_24 p1 n x1 (w32 (x2 + 1)) q11.2) else none else none
def f_X7_ends_11 (p1 : Int) (x1 : Int) (M : Mem) : Option (Int × Mem) :=
  (f_X1_takeSounds 60 22 M).bind (fun q1 => f_X7_ends_24 p1 FU x1 0 q1.2)
def f_X7_ends (p1 : Int) (M : Mem) : Option (Int × Mem) :=
  if p1 = 0 then f_X7_ends_11 p1 p1 M else if p1 = 1 then f_X7_ends_11 p1 p1 M else some ((-1), M)
set_option maxRecDepth 20000 in
set_option maxHeartbeats 4000000 in
theorem b_X7_ends_24 {K : KX} {B : BX} {res : Int × Mem} {p1 : Int} (C : Cx K B false yX7_ends cX7_ends 3 (some .int) 6 0 0) : ∀ (n : Nat) (x1 : Int) (x2 : Int) (M : Mem), OK M → f_X7_ends_24 p1 n x1 x2 M = some res → Wx K B (Zr K B (some (aI res.1)) SH res.2 (OK res.2) 0 0) 0 0 SH 3 M 24 [some (aR 0), some (aI x1), some (aI x2)] [] := by
  intro n
  induction n with
  | zero =>
    intro x1 x2 M hOM h
    cases h
  | succ n ih =>
    intro x1 x2 M hOM h
    rw [f_X7_ends_24.eq_2] at h
    refine mx_iload_n (pc := 24) C dX7_ends_24 rfl ?_
    refine mx_aload_n (pc := 25) C dX7_ends_25 rfl ?_
    refine mx_getR (pc := 26) (v := 22) C dX7_ends_26 so_7 ci_7 (k := 0) (by decide) fl_X7_50 rfl (q := 0) rfl (lay_7_0 hOM) (by decide) ?_
    refine mx_getR (pc := 29) (v := 32) C dX7_ends_29 (so_1 p_1_22) ci_1 (k := 9) (by decide) fl_X7_250 rfl (q := 9) rfl ((lay_1_9 hOM p_1_22).trans (by decide)) (by have := lot_pos p_1_22; omega) ?_
    refine mx_getI (pc := 32) C dX7_ends_32 (so_2 p_2_32) ci_2 (k := 0) (by decide) fl_X7_226 rfl (q := 0) rfl ?_
    refine mx_icmp_ge (pc := 35) (tgt := 75) C dX7_ends_35 rfl (fun c1 => ?_) (fun c1 => ?_)
    · rw [if_pos c1] at h
      refine mx_iload_n (pc := 75) C dX7_ends_75 rfl ?_
      refine mx_if_ne (pc := 76) (tgt := 89) C dX7_ends_76 rfl (fun c2 => ?_) (fun c2 => ?_)
      · rw [if_neg c2] at h
        refine mx_aload_n (pc := 89) C dX7_ends_89 rfl ?_
        refine mx_getR (pc := 90) (v := 60) C dX7_ends_90 so_7 ci_7 (k := 2) (by decide) fl_X7_57 rfl (q := 2) rfl (lay_7_2 hOM) (by decide) ?_
        obtain ⟨q3, hq3, h⟩ := of_bd h
        refine mc_V (pc := 93) (as := []) (rest := []) (stk2 := [aI q3.1]) C ⟨Nat.le_refl _, Nat.le_refl _⟩ (m_X1_stillHouses hOM p_1_60 hq3) mi_X1_stillHouses mv_X1_stillHouses ml_X7_155 ci_1 rfl (so_1 p_1_60) (by omega) rfl (Nat.le_of_ble_eq_true rfl) dX7_ends_93 rfl (fun hp4 => ?_)
        have hOq3 : OK q3.2 := hp4
        obtain ⟨q5, hq5, h⟩ := of_bd h
        refine mc_S (pc := 96) (as := [aI q3.1]) (rest := []) (stk2 := [aI q5.1]) C ⟨Nat.le_refl _, Nat.le_refl _⟩ (m_J6_bitCount_0f7a4 hOq3 hq5) mi_J6_bitCount_0f7a4 ms_J6_bitCount_0f7a4 ml_X7_257 (by omega) rfl (Nat.le_of_ble_eq_true rfl) dX7_ends_96 rfl (fun hp6 => ?_)
        have hOq5 : OK q5.2 := hp6
        rw [← Option.some.inj h]
        exact mx_ireturn (pc := 99) C dX7_ends_99 hOq5 ⟨Nat.le_refl _, Nat.le_refl _⟩
      · rw [if_pos c2] at h
        refine mx_aload_n (pc := 79) C dX7_ends_79 rfl ?_
        refine mx_getR (pc := 80) (v := 60) C dX7_ends_80 so_7 ci_7 (k := 2) (by decide) fl_X7_57 rfl (q := 2) rfl (lay_7_2 hOM) (by decide) ?_
        obtain ⟨q7, hq7, h⟩ := of_bd h
        refine mc_V (pc := 83) (as := []) (rest := []) (stk2 := [aI q7.1]) C ⟨Nat.le_refl _, Nat.le_refl _⟩ (m_X1_greatest hOM p_1_60 hq7) mi_X1_greatest mv_X1_greatest ml_X7_151 ci_1 rfl (so_1 p_1_60) (by omega) rfl (Nat.le_of_ble_eq_true rfl) dX7_ends_83 rfl (fun hp8 => ?_)
        have hOq7 : OK q7.2 := hp8
        refine mx_goto (pc := 86) (tgt := 99) C dX7_ends_86 rfl ?_
        rw [← Option.some.inj h]
        exact mx_ireturn (pc := 99) C dX7_ends_99 hOq7 ⟨Nat.le_refl _, Nat.le_refl _⟩
    · rw [if_neg c1] at h
      refine mx_aload_n (pc := 38) C dX7_ends_38 rfl ?_
      refine mx_getR (pc := 39) (v := 60) C dX7_ends_39 so_7 ci_7 (k := 2) (by decide) fl_X7_57 rfl (q := 2) rfl (lay_7_2 hOM) (by decide) ?_
      refine mx_aload_n (pc := 42) C dX7_ends_42 rfl ?_
      refine mx_getR (pc := 43) (v := 22) C dX7_ends_43 so_7 ci_7 (k := 0) (by decide) fl_X7_50 rfl (q := 0) rfl (lay_7_0 hOM) (by decide) ?_
      refine mx_getR (pc := 46) (v := 32) C dX7_ends_46 (so_1 p_1_22) ci_1 (k := 9) (by decide) fl_X7_250 rfl (q := 9) rfl ((lay_1_9 hOM p_1_22).trans (by decide)) (by have := lot_pos p_1_22; omega) ?_
      refine mx_getR (pc := 49) (v := 33) C dX7_ends_49 (so_2 p_2_32) ci_2 (k := 1) (by decide) fl_X7_232 rfl (q := 1) rfl ((lay_2_1 hOM p_2_32).trans (by decide)) (by have := rw_pos p_2_32; omega) ?_
      refine mx_iload_n (pc := 52) C dX7_ends_52 rfl ?_
      obtain ⟨g9, h⟩ := of_gd h
      refine mx_iald (pc := 53) C dX7_ends_53 (rfl : shp SH 33 = some (0, 10)) g9.1 g9.2 ?_
      refine mx_aload_n (pc := 54) C dX7_ends_54 rfl ?_
      refine mx_getR (pc := 55) (v := 22) C dX7_ends_55 so_7 ci_7 (k := 0) (by decide) fl_X7_50 rfl (q := 0) rfl (lay_7_0 hOM) (by decide) ?_
      refine mx_getR (pc := 58) (v := 32) C dX7_ends_58 (so_1 p_1_22) ci_1 (k := 9) (by decide) fl_X7_250 rfl (q := 9) rfl ((lay_1_9 hOM p_1_22).trans (by decide)) (by have := lot_pos p_1_22; omega) ?_
      refine mx_getR (pc := 61) (v := 34) C dX7_ends_61 (so_2 p_2_32) ci_2 (k := 2) (by decide) fl_X7_235 rfl (q := 2) rfl ((lay_2_2 hOM p_2_32).trans (by decide)) (by have := rw_pos p_2_32; omega) ?_
      refine mx_iload_n (pc := 64) C dX7_ends_64 rfl ?_
      obtain ⟨g10, h⟩ := of_gd h
      refine mx_iald (pc := 65) C dX7_ends_65 (rfl : shp SH 34 = some (0, 10)) g10.1 g10.2 ?_
      obtain ⟨q11, hq11, h⟩ := of_bd h
      refine mc_V (pc := 66) (as := [aI (M 33 x2), aI (M 34 x2)]) (rest := []) (stk2 := []) C ⟨Nat.le_refl _, Nat.le_refl _⟩ (m_X1_go hOM p_1_60 hq11) mi_X1_go mv_X1_go ml_X7_253 ci_1 rfl (so_1 p_1_60) (by omega) rfl (Nat.le_of_ble_eq_true rfl) dX7_ends_66 rfl (fun hp12 => ?_)
      have hOq11 : OK q11.2 := hp12
      refine mx_iinc (pc := 69) C dX7_ends_69 (ls' := [some (aR 0), some (aI x1), some (aI (w32 (x2 + 1)))]) rfl (by decide) rfl (by constructor <;> decide) rfl rfl ?_
      refine mx_goto (pc := 72) (tgt := 24) C dX7_ends_72 rfl ?_
      exact ih x1 (w32 (x2 + 1)) q11.2 hOq11 h
set_option maxRecDepth 20000 in
set_option maxHeartbeats 4000000 in
theorem b_X7_ends_11 {K : KX} {B : BX} {res : Int × Mem} {p1 : Int} (C : Cx K B false yX7_ends cX7_ends 3 (some .int) 6 0 0) : ∀ (x1 : Int) (M : Mem), OK M → f_X7_ends_11 p1 x1 M = some res → Wx K B (Zr K B (some (aI res.1)) SH res.2 (OK res.2) 0 0) 0 0 SH 3 M 11 [some (aR 0), some (aI x1), none] [] := by
  intro x1 M hOM h
  unfold f_X7_ends_11 at h
  refine mx_aload_n (pc := 11) C dX7_ends_11 rfl ?_
  refine mx_getR (pc := 12) (v := 60) C dX7_ends_12 so_7 ci_7 (k := 2) (by decide) fl_X7_57 rfl (q := 2) rfl (lay_7_2 hOM) (by decide) ?_
  refine mx_aload_n (pc := 15) C dX7_ends_15 rfl ?_
  refine mx_getR (pc := 16) (v := 22) C dX7_ends_16 so_7 ci_7 (k := 0) (by decide) fl_X7_50 rfl (q := 0) rfl (lay_7_0 hOM) (by decide) ?_
  obtain ⟨q1, hq1, h⟩ := of_bd h
  refine mc_V (pc := 19) (as := [aR 22]) (rest := []) (stk2 := []) C ⟨Nat.le_refl _, Nat.le_refl _⟩ (m_X1_takeSounds hOM p_1_60 p_1_22 hq1) mi_X1_takeSounds mv_X1_takeSounds ml_X7_162 ci_1 rfl (so_1 p_1_60) (by omega) rfl (Nat.le_of_ble_eq_true rfl) dX7_ends_19 rfl (fun hp2 => ?_)
  have hOq1 : OK q1.2 := hp2
  refine mx_iconst (pc := 22) C dX7_ends_22 (z := 0) rfl (by constructor <;> decide) ?_
  refine mx_istore_n (pc := 23) C dX7_ends_23 (ls' := [some (aR 0), some (aI x1), some (aI 0)]) (by decide) rfl rfl ?_
  exact b_X7_ends_24 C FU x1 0 q1.2 hOq1 h
set_option maxRecDepth 20000 in
set_option maxHeartbeats 4000000 in
theorem m_X7_ends {p1 : Int} {M : Mem} {res : Int × Mem} (hOM : OK M) (h : f_X7_ends p1 M = some res) : Mth false yX7_ends cX7_ends 3 (some .int) 6 0 0 SH [aR 0, aI p1] M (some (aI res.1)) SH res.2 (OK res.2) := by
  refine Mth.of (by decide +kernel) (Nat.le_of_ble_eq_true rfl) (fun K B C => ?_)
  show Wx K B _ 0 0 SH 3 M 0 [some (aR 0), some (aI p1), none] []
  unfold f_X7_ends at h
  refine mx_iload_n (pc := 0) C dX7_ends_0 rfl ?_
  refine mx_if_eq (pc := 1) (tgt := 11) C dX7_ends_1 rfl (fun c1 => ?_) (fun c1 => ?_)
  · rw [if_pos c1] at h
    exact b_X7_ends_11 C p1 M hOM h
  · rw [if_neg c1] at h
    refine mx_iload_n (pc := 4) C dX7_ends_4 rfl ?_
    refine mx_iconst (pc := 5) C dX7_ends_5 (z := 1) rfl (by constructor <;> decide) ?_
    refine mx_icmp_eq (pc := 6) (tgt := 11) C dX7_ends_6 rfl (fun c2 => ?_) (fun c2 => ?_)
    · rw [if_pos c2] at h
      exact b_X7_ends_11 C p1 M hOM h
    · rw [if_neg c2] at h
      refine mx_iconst (pc := 9) C dX7_ends_9 (z := (-1)) rfl (by constructor <;> decide) ?_
      rw [← Option.some.inj h]
      exact mx_ireturn (pc := 10) C dX7_ends_10 hOM ⟨Nat.le_refl _, Nat.le_refl _⟩

def f_X7_book (p1 : Int) (p2 : Int) (M : Mem) : Option (Int × Mem) :=
  if p1 = (-1) then (f_X2_empty 36 M).bind (fun q13 => some (q13.1, q13.2)) else (f_X1_has 22 p1 M).bind (fun q2 => if q2.1 = 0 then some ((-1), q2.2) else (f_X7_isIn p2 5 q2.2).bind (fun q5 => if q5.1 = 0 then some ((-1), q5.2) else (f_X2_isFull 36 q5.2).bind (fun q8 => if q8.1 = 0 then (f_X2_add 36 p1 p2 0 q8.2).bind (fun q11 => some (q11.1, q11.2)) else some ((-4), q8.2))))
set_option maxRecDepth 20000 in
set_option maxHeartbeats 4000000 in
theorem m_X7_book {p1 : Int} {p2 : Int} {M : Mem} {res : Int × Mem} (hOM : OK M) (h : f_X7_book p1 p2 M = some res) : Mth false yX7_book cX7_book 3 (some .int) 2 0 0 SH [aR 0, aI p1, aI p2] M (some (aI res.1)) SH res.2 (OK res.2) := by
  refine Mth.of (by decide +kernel) (Nat.le_of_ble_eq_true rfl) (fun K B C => ?_)
  show Wx K B _ 0 0 SH 3 M 0 [some (aR 0), some (aI p1), some (aI p2)] []
  unfold f_X7_book at h
  refine mx_iload_n (pc := 0) C dX7_book_0 rfl ?_
  refine mx_iconst (pc := 1) C dX7_book_1 (z := (-1)) rfl (by constructor <;> decide) ?_
  refine mx_icmp_ne (pc := 2) (tgt := 16) C dX7_book_2 rfl (fun c1 => ?_) (fun c1 => ?_)
  · rw [if_neg c1] at h
    refine mx_aload_n (pc := 16) C dX7_book_16 rfl ?_
    refine mx_getR (pc := 17) (v := 22) C dX7_book_17 so_7 ci_7 (k := 0) (by decide) fl_X7_50 rfl (q := 0) rfl (lay_7_0 hOM) (by decide) ?_
    refine mx_iload_n (pc := 20) C dX7_book_20 rfl ?_
    obtain ⟨q2, hq2, h⟩ := of_bd h
    refine mc_V (pc := 21) (as := [aI p1]) (rest := []) (stk2 := [aI q2.1]) C ⟨Nat.le_refl _, Nat.le_refl _⟩ (m_X1_has hOM p_1_22 hq2) mi_X1_has mv_X1_has ml_X7_77 ci_1 rfl (so_1 p_1_22) (by omega) rfl (Nat.le_of_ble_eq_true rfl) dX7_book_21 rfl (fun hp3 => ?_)
    have hOq2 : OK q2.2 := hp3.1
    refine mx_if_eq (pc := 24) (tgt := 35) C dX7_book_24 rfl (fun c4 => ?_) (fun c4 => ?_)
    · rw [if_pos c4] at h
      refine mx_iconst (pc := 35) C dX7_book_35 (z := (-1)) rfl (by constructor <;> decide) ?_
      rw [← Option.some.inj h]
      exact mx_ireturn (pc := 36) C dX7_book_36 hOq2 ⟨Nat.le_refl _, Nat.le_refl _⟩
    · rw [if_neg c4] at h
      refine mx_iload_n (pc := 27) C dX7_book_27 rfl ?_
      refine mx_iconst (pc := 28) C dX7_book_28 (z := 5) rfl (by constructor <;> decide) ?_
      obtain ⟨q5, hq5, h⟩ := of_bd h
      refine mc_S (pc := 29) (as := [aI p2, aI 5]) (rest := []) (stk2 := [aI q5.1]) C ⟨Nat.le_refl _, Nat.le_refl _⟩ (m_X7_isIn hOq2 hq5) mi_X7_isIn ms_X7_isIn ml_X7_61 (by omega) rfl (Nat.le_of_ble_eq_true rfl) dX7_book_29 rfl (fun hp6 => ?_)
      have hOq5 : OK q5.2 := hp6.1
      refine mx_if_ne (pc := 32) (tgt := 37) C dX7_book_32 rfl (fun c7 => ?_) (fun c7 => ?_)
      · rw [if_neg c7] at h
        refine mx_aload_n (pc := 37) C dX7_book_37 rfl ?_
        refine mx_getR (pc := 38) (v := 22) C dX7_book_38 so_7 ci_7 (k := 0) (by decide) fl_X7_50 rfl (q := 0) rfl (lay_7_0 hOq5) (by decide) ?_
        refine mx_getR (pc := 41) (v := 36) C dX7_book_41 (so_1 p_1_22) ci_1 (k := 10) (by decide) fl_X7_262 rfl (q := 10) rfl ((lay_1_10 hOq5 p_1_22).trans (by decide)) (by have := lot_pos p_1_22; omega) ?_
        obtain ⟨q8, hq8, h⟩ := of_bd h
        refine mc_V (pc := 44) (as := []) (rest := []) (stk2 := [aI q8.1]) C ⟨Nat.le_refl _, Nat.le_refl _⟩ (m_X2_isFull hOq5 p_2_36 hq8) mi_X2_isFull mv_X2_isFull ml_X7_211 ci_2 rfl (so_2 p_2_36) (by omega) rfl (Nat.le_of_ble_eq_true rfl) dX7_book_44 rfl (fun hp9 => ?_)
        have hOq8 : OK q8.2 := hp9.1
        refine mx_if_eq (pc := 47) (tgt := 55) C dX7_book_47 rfl (fun c10 => ?_) (fun c10 => ?_)
        · rw [if_pos c10] at h
          refine mx_aload_n (pc := 55) C dX7_book_55 rfl ?_
          refine mx_getR (pc := 56) (v := 22) C dX7_book_56 so_7 ci_7 (k := 0) (by decide) fl_X7_50 rfl (q := 0) rfl (lay_7_0 hOq8) (by decide) ?_
          refine mx_getR (pc := 59) (v := 36) C dX7_book_59 (so_1 p_1_22) ci_1 (k := 10) (by decide) fl_X7_262 rfl (q := 10) rfl ((lay_1_10 hOq8 p_1_22).trans (by decide)) (by have := lot_pos p_1_22; omega) ?_
          refine mx_iload_n (pc := 62) C dX7_book_62 rfl ?_
          refine mx_iload_n (pc := 63) C dX7_book_63 rfl ?_
          refine mx_iconst (pc := 64) C dX7_book_64 (z := 0) rfl (by constructor <;> decide) ?_
          obtain ⟨q11, hq11, h⟩ := of_bd h
          refine mc_V (pc := 65) (as := [aI p1, aI p2, aI 0]) (rest := []) (stk2 := [aI q11.1]) C ⟨Nat.le_refl _, Nat.le_refl _⟩ (m_X2_add hOq8 p_2_36 hq11) mi_X2_add mv_X2_add ml_X7_215 ci_2 rfl (so_2 p_2_36) (by omega) rfl (Nat.le_of_ble_eq_true rfl) dX7_book_65 rfl (fun hp12 => ?_)
          have hOq11 : OK q11.2 := hp12
          rw [← Option.some.inj h]
          exact mx_ireturn (pc := 68) C dX7_book_68 hOq11 ⟨Nat.le_refl _, Nat.le_refl _⟩
        · rw [if_neg c10] at h
          refine mx_bipush (pc := 50) C dX7_book_50 (z := (-4)) rfl (by constructor <;> decide) ?_
          refine mx_goto (pc := 52) (tgt := 68) C dX7_book_52 rfl ?_
          rw [← Option.some.inj h]
          exact mx_ireturn (pc := 68) C dX7_book_68 hOq8 ⟨Nat.le_refl _, Nat.le_refl _⟩
      · rw [if_pos c7] at h
        refine mx_iconst (pc := 35) C dX7_book_35 (z := (-1)) rfl (by constructor <;> decide) ?_
        rw [← Option.some.inj h]
        exact mx_ireturn (pc := 36) C dX7_book_36 hOq5 ⟨Nat.le_refl _, Nat.le_refl _⟩
  · rw [if_pos c1] at h
    refine mx_aload_n (pc := 5) C dX7_book_5 rfl ?_
    refine mx_getR (pc := 6) (v := 22) C dX7_book_6 so_7 ci_7 (k := 0) (by decide) fl_X7_50 rfl (q := 0) rfl (lay_7_0 hOM) (by decide) ?_
    refine mx_getR (pc := 9) (v := 36) C dX7_book_9 (so_1 p_1_22) ci_1 (k := 10) (by decide) fl_X7_262 rfl (q := 10) rfl ((lay_1_10 hOM p_1_22).trans (by decide)) (by have := lot_pos p_1_22; omega) ?_
    obtain ⟨q13, hq13, h⟩ := of_bd h
    refine mc_V (pc := 12) (as := []) (rest := []) (stk2 := [aI q13.1]) C ⟨Nat.le_refl _, Nat.le_refl _⟩ (m_X2_empty hOM p_2_36 hq13) mi_X2_empty mv_X2_empty ml_X7_206 ci_2 rfl (so_2 p_2_36) (by omega) rfl (Nat.le_of_ble_eq_true rfl) dX7_book_12 rfl (fun hp14 => ?_)
    have hOq13 : OK q13.2 := hp14
    rw [← Option.some.inj h]
    exact mx_ireturn (pc := 15) C dX7_book_15 hOq13 ⟨Nat.le_refl _, Nat.le_refl _⟩

def f_X7_looked_59 (k2 : Int → Mem → Option (Int × Mem)) (x1 : Int) (t0 : Int) (t1 : Int) (M : Mem) : Option (Int × Mem) :=
  if t0 = t1 then k2 (w32 (x1 + 1)) M else some (x1, M)
def f_X7_looked_2 : Nat → Int → Mem → Option (Int × Mem)
  | 0, _, _ => none
  | n + 1, x1, M => if M 36 0 ≤ x1 then some ((-5), M) else if 0 ≤ x1 ∧ x1 < 8 then if 0 ≤ M 37 x1 ∧ M 37 x1 < 6 then if 0 ≤ x1 ∧ x1 < 8 then if M 26 (M 37 x1) = (-1) then f_X7_looked_59 (f_X7_looked_2 n) x1 (M 38 x1) 5 M else f_X7_looked_59 (f_X7_looked_2 n) x1 (M 38 x1) (M 26 (M 37 x1)) M else none else none else none
def f_X7_looked (M : Mem) : Option (Int × Mem) :=
  f_X7_looked_2 FU 0 M
set_option maxRecDepth 20000 in
set_option maxHeartbeats 4000000 in
theorem b_X7_looked_59 {K : KX} {B : BX} {res : Int × Mem} {k2 : Int → Mem → Option (Int × Mem)} (C : Cx K B false yX7_looked cX7_looked 3 (some .int) 1 0 0) (hk2 : ∀ (x1 : Int) (M : Mem), OK M → k2 x1 M = some res → Wx K B (Zr K B (some (aI res.1)) SH res.2 (OK res.2) 0 0) 0 0 SH 3 M 2 [some (aR 0), some (aI x1), none] []) : ∀ (x1 : Int) (t0 : Int) (t1 : Int) (M : Mem), OK M → f_X7_looked_59 k2 x1 t0 t1 M = some res → Wx K B (Zr K B (some (aI res.1)) SH res.2 (OK res.2) 0 0) 0 0 SH 3 M 59 [some (aR 0), some (aI x1), none] [aI t1, aI t0] := by
  intro x1 t0 t1 M hOM h
  unfold f_X7_looked_59 at h
  refine mx_icmp_eq (pc := 59) (tgt := 64) C dX7_looked_59 rfl (fun c1 => ?_) (fun c1 => ?_)
  · rw [if_pos c1] at h
    refine mx_iinc (pc := 64) C dX7_looked_64 (ls' := [some (aR 0), some (aI (w32 (x1 + 1))), none]) rfl (by decide) rfl (by constructor <;> decide) rfl rfl ?_
    refine mx_goto (pc := 67) (tgt := 2) C dX7_looked_67 rfl ?_
    exact hk2 (w32 (x1 + 1)) M hOM h
  · rw [if_neg c1] at h
    refine mx_iload_n (pc := 62) C dX7_looked_62 rfl ?_
    rw [← Option.some.inj h]
    exact mx_ireturn (pc := 63) C dX7_looked_63 hOM ⟨Nat.le_refl _, Nat.le_refl _⟩
set_option maxRecDepth 20000 in
set_option maxHeartbeats 4000000 in
theorem b_X7_looked_2 {K : KX} {B : BX} {res : Int × Mem} (C : Cx K B false yX7_looked cX7_looked 3 (some .int) 1 0 0) : ∀ (n : Nat) (x1 : Int) (M : Mem), OK M → f_X7_looked_2 n x1 M = some res → Wx K B (Zr K B (some (aI res.1)) SH res.2 (OK res.2) 0 0) 0 0 SH 3 M 2 [some (aR 0), some (aI x1), none] [] := by
  intro n
  induction n with
  | zero =>
    intro x1 M hOM h
    cases h
  | succ n ih =>
    intro x1 M hOM h
    rw [f_X7_looked_2.eq_2] at h
    refine mx_iload_n (pc := 2) C dX7_looked_2 rfl ?_
    refine mx_aload_n (pc := 3) C dX7_looked_3 rfl ?_
    refine mx_getR (pc := 4) (v := 22) C dX7_looked_4 so_7 ci_7 (k := 0) (by decide) fl_X7_50 rfl (q := 0) rfl (lay_7_0 hOM) (by decide) ?_
    refine mx_getR (pc := 7) (v := 36) C dX7_looked_7 (so_1 p_1_22) ci_1 (k := 10) (by decide) fl_X7_262 rfl (q := 10) rfl ((lay_1_10 hOM p_1_22).trans (by decide)) (by have := lot_pos p_1_22; omega) ?_
    refine mx_getI (pc := 10) C dX7_looked_10 (so_2 p_2_36) ci_2 (k := 0) (by decide) fl_X7_226 rfl (q := 0) rfl ?_
    refine mx_icmp_ge (pc := 13) (tgt := 70) C dX7_looked_13 rfl (fun c1 => ?_) (fun c1 => ?_)
    · rw [if_pos c1] at h
      refine mx_bipush (pc := 70) C dX7_looked_70 (z := (-5)) rfl (by constructor <;> decide) ?_
      rw [← Option.some.inj h]
      exact mx_ireturn (pc := 72) C dX7_looked_72 hOM ⟨Nat.le_refl _, Nat.le_refl _⟩
    · rw [if_neg c1] at h
      refine mx_aload_n (pc := 16) C dX7_looked_16 rfl ?_
      refine mx_getR (pc := 17) (v := 22) C dX7_looked_17 so_7 ci_7 (k := 0) (by decide) fl_X7_50 rfl (q := 0) rfl (lay_7_0 hOM) (by decide) ?_
      refine mx_getR (pc := 20) (v := 26) C dX7_looked_20 (so_1 p_1_22) ci_1 (k := 4) (by decide) fl_X7_100 rfl (q := 4) rfl ((lay_1_4 hOM p_1_22).trans (by decide)) (by have := lot_pos p_1_22; omega) ?_
      refine mx_aload_n (pc := 23) C dX7_looked_23 rfl ?_
      refine mx_getR (pc := 24) (v := 22) C dX7_looked_24 so_7 ci_7 (k := 0) (by decide) fl_X7_50 rfl (q := 0) rfl (lay_7_0 hOM) (by decide) ?_
      refine mx_getR (pc := 27) (v := 36) C dX7_looked_27 (so_1 p_1_22) ci_1 (k := 10) (by decide) fl_X7_262 rfl (q := 10) rfl ((lay_1_10 hOM p_1_22).trans (by decide)) (by have := lot_pos p_1_22; omega) ?_
      refine mx_getR (pc := 30) (v := 37) C dX7_looked_30 (so_2 p_2_36) ci_2 (k := 1) (by decide) fl_X7_232 rfl (q := 1) rfl ((lay_2_1 hOM p_2_36).trans (by decide)) (by have := rw_pos p_2_36; omega) ?_
      refine mx_iload_n (pc := 33) C dX7_looked_33 rfl ?_
      obtain ⟨g2, h⟩ := of_gd h
      refine mx_iald (pc := 34) C dX7_looked_34 (rfl : shp SH 37 = some (0, 8)) g2.1 g2.2 ?_
      obtain ⟨g3, h⟩ := of_gd h
      refine mx_iald (pc := 35) C dX7_looked_35 (rfl : shp SH 26 = some (0, 6)) g3.1 g3.2 ?_
      refine mx_istore_n (pc := 36) C dX7_looked_36 (ls' := [some (aR 0), some (aI x1), some (aI (M 26 (M 37 x1)))]) (by decide) rfl rfl ?_
      refine mx_aload_n (pc := 37) C dX7_looked_37 rfl ?_
      refine mx_getR (pc := 38) (v := 22) C dX7_looked_38 so_7 ci_7 (k := 0) (by decide) fl_X7_50 rfl (q := 0) rfl (lay_7_0 hOM) (by decide) ?_
      refine mx_getR (pc := 41) (v := 36) C dX7_looked_41 (so_1 p_1_22) ci_1 (k := 10) (by decide) fl_X7_262 rfl (q := 10) rfl ((lay_1_10 hOM p_1_22).trans (by decide)) (by have := lot_pos p_1_22; omega) ?_
      refine mx_getR (pc := 44) (v := 38) C dX7_looked_44 (so_2 p_2_36) ci_2 (k := 2) (by decide) fl_X7_235 rfl (q := 2) rfl ((lay_2_2 hOM p_2_36).trans (by decide)) (by have := rw_pos p_2_36; omega) ?_
      refine mx_iload_n (pc := 47) C dX7_looked_47 rfl ?_
      obtain ⟨g4, h⟩ := of_gd h
      refine mx_iald (pc := 48) C dX7_looked_48 (rfl : shp SH 38 = some (0, 8)) g4.1 g4.2 ?_
      refine mx_iload_n (pc := 49) C dX7_looked_49 rfl ?_
      refine mx_iconst (pc := 50) C dX7_looked_50 (z := (-1)) rfl (by constructor <;> decide) ?_
      refine mx_icmp_ne (pc := 51) (tgt := 58) C dX7_looked_51 rfl (fun c5 => ?_) (fun c5 => ?_)
      · rw [if_neg c5] at h
        refine mx_iload_n (pc := 58) C dX7_looked_58 rfl ?_
        refine mx_mask [true, true, false] (ls' := [some (aR 0), some (aI x1), none]) rfl rfl ?_
        exact b_X7_looked_59 C ih x1 (M 38 x1) (M 26 (M 37 x1)) M hOM h
      · rw [if_pos c5] at h
        refine mx_iconst (pc := 54) C dX7_looked_54 (z := 5) rfl (by constructor <;> decide) ?_
        refine mx_goto (pc := 55) (tgt := 59) C dX7_looked_55 rfl ?_
        refine mx_mask [true, true, false] (ls' := [some (aR 0), some (aI x1), none]) rfl rfl ?_
        exact b_X7_looked_59 C ih x1 (M 38 x1) 5 M hOM h
set_option maxRecDepth 20000 in
set_option maxHeartbeats 4000000 in
theorem m_X7_looked {M : Mem} {res : Int × Mem} (hOM : OK M) (h : f_X7_looked M = some res) : Mth false yX7_looked cX7_looked 3 (some .int) 1 0 0 SH [aR 0] M (some (aI res.1)) SH res.2 (OK res.2) := by
  refine Mth.of (by decide +kernel) (Nat.le_of_ble_eq_true rfl) (fun K B C => ?_)
  show Wx K B _ 0 0 SH 3 M 0 [some (aR 0), none, none] []
  unfold f_X7_looked at h
  refine mx_iconst (pc := 0) C dX7_looked_0 (z := 0) rfl (by constructor <;> decide) ?_
  refine mx_istore_n (pc := 1) C dX7_looked_1 (ls' := [some (aR 0), some (aI 0), none]) (by decide) rfl rfl ?_
  exact b_X7_looked_2 C FU 0 M hOM h

def f_X7_judge_37 (p1 : Int) (p2 : Int) : Nat → Int → Int → Int → Mem → Option (Int × Mem)
  | 0, _, _, _, _ => none
  | n + 1, x2, r3, x4, M => if M 22 0 ≤ x4 then some ((-5), M) else if x2 < 0 then some (w32 (100 + x4), M) else if x2 < w32 ((M r3 1) - x4) then if 0 ≤ w32 (x2 + x4) ∧ w32 (x2 + x4) < 60 then if 0 ≤ x4 ∧ x4 < 6 then if cmp64 (M (r3 + 1) (w32 (x2 + x4))) (M 25 x4) = 0 then f_X7_judge_37 p1 p2 n x2 r3 (w32 (x4 + 1)) M else some (x4, M) else none else none else some (w32 (100 + x4), M)
def f_X7_judge_34 (p1 : Int) (p2 : Int) (x2 : Int) (r3 : Int) (M : Mem) : Option (Int × Mem) :=
  f_X7_judge_37 p1 p2 FU x2 r3 0 M
def f_X7_judge (p1 : Int) (p2 : Int) (M : Mem) : Option (Int × Mem) :=
  (f_X7_isTape p1 M).bind (fun q1 => if q1.1 = 0 then some ((-1), q1.2) else if 0 ≤ p1 ∧ p1 < 6 then if q1.2 (115 + 2 * p1) 0 = (-1) then f_X7_judge_34 p1 p2 p2 (115 + 2 * p1) q1.2 else if q1.2 (115 + 2 * p1) 0 = 0 then f_X7_judge_34 p1 p2 p2 (115 + 2 * p1) q1.2 else some ((-12), q1.2) else none)
set_option maxRecDepth 20000 in
set_option maxHeartbeats 4000000 in
theorem b_X7_judge_37 {K : KX} {B : BX} {res : Int × Mem} {p1 : Int} {p2 : Int} (C : Cx K B false yX7_judge cX7_judge 5 (some .int) 3 0 0) : ∀ (n : Nat) (x2 : Int) (r3 : Int) (x4 : Int) (M : Mem), OK M → isTp r3 → f_X7_judge_37 p1 p2 n x2 r3 x4 M = some res → Wx K B (Zr K B (some (aI res.1)) SH res.2 (OK res.2) 0 0) 0 0 SH 5 M 37 [some (aR 0), none, some (aI x2), some (aR r3), some (aI x4)] [] := by
  intro n
  induction n with
  | zero =>
    intro x2 r3 x4 M hOM hr3 h
    cases h
  | succ n ih =>
    intro x2 r3 x4 M hOM hr3 h
    rw [f_X7_judge_37.eq_2] at h
    refine mx_iload (pc := 37) C dX7_judge_37 rfl ?_
    refine mx_aload_n (pc := 39) C dX7_judge_39 rfl ?_
    refine mx_getR (pc := 40) (v := 22) C dX7_judge_40 so_7 ci_7 (k := 0) (by decide) fl_X7_50 rfl (q := 0) rfl (lay_7_0 hOM) (by decide) ?_
    refine mx_getI (pc := 43) C dX7_judge_43 (so_1 p_1_22) ci_1 (k := 0) (by decide) fl_X7_69 rfl (q := 0) rfl ?_
    refine mx_icmp_ge (pc := 46) (tgt := 103) C dX7_judge_46 rfl (fun c1 => ?_) (fun c1 => ?_)
    · rw [if_pos c1] at h
      refine mx_bipush (pc := 103) C dX7_judge_103 (z := (-5)) rfl (by constructor <;> decide) ?_
      rw [← Option.some.inj h]
      exact mx_ireturn (pc := 105) C dX7_judge_105 hOM ⟨Nat.le_refl _, Nat.le_refl _⟩
    · rw [if_neg c1] at h
      refine mx_iload_n (pc := 49) C dX7_judge_49 rfl ?_
      refine mx_if_lt (pc := 50) (tgt := 64) C dX7_judge_50 rfl (fun c2 => ?_) (fun c2 => ?_)
      · rw [if_pos c2] at h
        refine mx_bipush (pc := 64) C dX7_judge_64 (z := 100) rfl (by constructor <;> decide) ?_
        refine mx_iload (pc := 66) C dX7_judge_66 rfl ?_
        refine mx_iadd (pc := 68) C dX7_judge_68  ?_
        rw [← Option.some.inj h]
        exact mx_ireturn (pc := 69) C dX7_judge_69 hOM ⟨Nat.le_refl _, Nat.le_refl _⟩
      · rw [if_neg c2] at h
        refine mx_iload_n (pc := 53) C dX7_judge_53 rfl ?_
        refine mx_aload_n (pc := 54) C dX7_judge_54 rfl ?_
        refine mx_getI (pc := 55) C dX7_judge_55 (so_4 hr3) ci_4 (k := 1) (by decide) fl_X7_271 rfl (q := 1) rfl ?_
        refine mx_iload (pc := 58) C dX7_judge_58 rfl ?_
        refine mx_isub (pc := 60) C dX7_judge_60  ?_
        refine mx_icmp_lt (pc := 61) (tgt := 70) C dX7_judge_61 rfl (fun c3 => ?_) (fun c3 => ?_)
        · rw [if_pos c3] at h
          refine mx_aload_n (pc := 70) C dX7_judge_70 rfl ?_
          refine mx_getR (pc := 71) (v := r3 + 1) C dX7_judge_71 (so_4 hr3) ci_4 (k := 2) (by decide) fl_X7_274 rfl (q := 2) rfl (lay_4_2 hOM hr3) (by have := tp_pos hr3; omega) ?_
          refine mx_iload_n (pc := 74) C dX7_judge_74 rfl ?_
          refine mx_iload (pc := 75) C dX7_judge_75 rfl ?_
          refine mx_iadd (pc := 77) C dX7_judge_77  ?_
          obtain ⟨g4, h⟩ := of_gd h
          refine mx_lald (pc := 78) C dX7_judge_78 (sh_4_2 hr3) g4.1 g4.2 ?_
          refine mx_aload_n (pc := 79) C dX7_judge_79 rfl ?_
          refine mx_getR (pc := 80) (v := 22) C dX7_judge_80 so_7 ci_7 (k := 0) (by decide) fl_X7_50 rfl (q := 0) rfl (lay_7_0 hOM) (by decide) ?_
          refine mx_getR (pc := 83) (v := 25) C dX7_judge_83 (so_1 p_1_22) ci_1 (k := 3) (by decide) fl_X7_97 rfl (q := 3) rfl ((lay_1_3 hOM p_1_22).trans (by decide)) (by have := lot_pos p_1_22; omega) ?_
          refine mx_iload (pc := 86) C dX7_judge_86 rfl ?_
          obtain ⟨g5, h⟩ := of_gd h
          refine mx_iald (pc := 88) C dX7_judge_88 (rfl : shp SH 25 = some (0, 6)) g5.1 g5.2 ?_
          refine mx_i2l (pc := 89) C dX7_judge_89  ?_
          refine mx_lcmp (pc := 90) C dX7_judge_90  ?_
          refine mx_if_eq (pc := 91) (tgt := 97) C dX7_judge_91 rfl (fun c6 => ?_) (fun c6 => ?_)
          · rw [if_pos c6] at h
            refine mx_iinc (pc := 97) C dX7_judge_97 (ls' := [some (aR 0), none, some (aI x2), some (aR r3), some (aI (w32 (x4 + 1)))]) rfl (by decide) rfl (by constructor <;> decide) rfl rfl ?_
            refine mx_goto (pc := 100) (tgt := 37) C dX7_judge_100 rfl ?_
            exact ih x2 r3 (w32 (x4 + 1)) M hOM hr3 h
          · rw [if_neg c6] at h
            refine mx_iload (pc := 94) C dX7_judge_94 rfl ?_
            rw [← Option.some.inj h]
            exact mx_ireturn (pc := 96) C dX7_judge_96 hOM ⟨Nat.le_refl _, Nat.le_refl _⟩
        · rw [if_neg c3] at h
          refine mx_bipush (pc := 64) C dX7_judge_64 (z := 100) rfl (by constructor <;> decide) ?_
          refine mx_iload (pc := 66) C dX7_judge_66 rfl ?_
          refine mx_iadd (pc := 68) C dX7_judge_68  ?_
          rw [← Option.some.inj h]
          exact mx_ireturn (pc := 69) C dX7_judge_69 hOM ⟨Nat.le_refl _, Nat.le_refl _⟩
set_option maxRecDepth 20000 in
set_option maxHeartbeats 4000000 in
theorem b_X7_judge_34 {K : KX} {B : BX} {res : Int × Mem} {p1 : Int} {p2 : Int} (C : Cx K B false yX7_judge cX7_judge 5 (some .int) 3 0 0) : ∀ (x2 : Int) (r3 : Int) (M : Mem), OK M → isTp r3 → f_X7_judge_34 p1 p2 x2 r3 M = some res → Wx K B (Zr K B (some (aI res.1)) SH res.2 (OK res.2) 0 0) 0 0 SH 5 M 34 [some (aR 0), none, some (aI x2), some (aR r3), none] [] := by
  intro x2 r3 M hOM hr3 h
  unfold f_X7_judge_34 at h
  refine mx_iconst (pc := 34) C dX7_judge_34 (z := 0) rfl (by constructor <;> decide) ?_
  refine mx_istore (pc := 35) C dX7_judge_35 (ls' := [some (aR 0), none, some (aI x2), some (aR r3), some (aI 0)]) (by decide) rfl rfl ?_
  exact b_X7_judge_37 C FU x2 r3 0 M hOM hr3 h
set_option maxRecDepth 20000 in
set_option maxHeartbeats 4000000 in
theorem m_X7_judge {p1 : Int} {p2 : Int} {M : Mem} {res : Int × Mem} (hOM : OK M) (h : f_X7_judge p1 p2 M = some res) : Mth false yX7_judge cX7_judge 5 (some .int) 3 0 0 SH [aR 0, aI p1, aI p2] M (some (aI res.1)) SH res.2 (OK res.2) := by
  refine Mth.of (by decide +kernel) (Nat.le_of_ble_eq_true rfl) (fun K B C => ?_)
  show Wx K B _ 0 0 SH 5 M 0 [some (aR 0), some (aI p1), some (aI p2), none, none] []
  unfold f_X7_judge at h
  refine mx_iload_n (pc := 0) C dX7_judge_0 rfl ?_
  obtain ⟨q1, hq1, h⟩ := of_bd h
  refine mc_S (pc := 1) (as := [aI p1]) (rest := []) (stk2 := [aI q1.1]) C ⟨Nat.le_refl _, Nat.le_refl _⟩ (m_X7_isTape hOM hq1) mi_X7_isTape ms_X7_isTape ml_X7_265 (by omega) rfl (Nat.le_of_ble_eq_true rfl) dX7_judge_1 rfl (fun hp2 => ?_)
  have hOq1 : OK q1.2 := hp2.1
  refine mx_if_ne (pc := 4) (tgt := 9) C dX7_judge_4 rfl (fun c3 => ?_) (fun c3 => ?_)
  · rw [if_neg c3] at h
    refine mx_aload_n (pc := 9) C dX7_judge_9 rfl ?_
    refine mx_getR (pc := 10) (v := 15) C dX7_judge_10 so_7 ci_7 (k := 9) (by decide) fl_X7_40 rfl (q := 9) rfl (lay_7_9 hOq1) (by decide) ?_
    refine mx_iload_n (pc := 13) C dX7_judge_13 rfl ?_
    obtain ⟨g4, h⟩ := of_gd h
    refine mx_aald (pc := 14) (v := (115 + 2 * p1)) C dX7_judge_14 (rfl : shp SH 15 = some (5, 6)) (by decide) g4.1 g4.2 (tape_at hOq1 g4.1 g4.2).1 (tp_pos (tape_at hOq1 g4.1 g4.2).2).1 ?_
    refine mx_astore_n (pc := 15) C dX7_judge_15 (ls' := [some (aR 0), some (aI p1), some (aI p2), some (aR (115 + 2 * p1)), none]) (by decide) rfl rfl ?_
    refine mx_aload_n (pc := 16) C dX7_judge_16 rfl ?_
    refine mx_getI (pc := 17) C dX7_judge_17 (so_4 (tape_at hOq1 g4.1 g4.2).2) ci_4 (k := 0) (by decide) fl_X7_268 rfl (q := 0) rfl ?_
    refine mx_iconst (pc := 20) C dX7_judge_20 (z := (-1)) rfl (by constructor <;> decide) ?_
    refine mx_icmp_eq (pc := 21) (tgt := 34) C dX7_judge_21 rfl (fun c5 => ?_) (fun c5 => ?_)
    · rw [if_pos c5] at h
      refine mx_mask [true, false, true, true, false] (ls' := [some (aR 0), none, some (aI p2), some (aR (115 + 2 * p1)), none]) rfl rfl ?_
      exact b_X7_judge_34 C p2 (115 + 2 * p1) q1.2 hOq1 ((tape_at hOq1 g4.1 g4.2).2) h
    · rw [if_neg c5] at h
      refine mx_aload_n (pc := 24) C dX7_judge_24 rfl ?_
      refine mx_getI (pc := 25) C dX7_judge_25 (so_4 (tape_at hOq1 g4.1 g4.2).2) ci_4 (k := 0) (by decide) fl_X7_268 rfl (q := 0) rfl ?_
      refine mx_if_eq (pc := 28) (tgt := 34) C dX7_judge_28 rfl (fun c6 => ?_) (fun c6 => ?_)
      · rw [if_pos c6] at h
        refine mx_mask [true, false, true, true, false] (ls' := [some (aR 0), none, some (aI p2), some (aR (115 + 2 * p1)), none]) rfl rfl ?_
        exact b_X7_judge_34 C p2 (115 + 2 * p1) q1.2 hOq1 ((tape_at hOq1 g4.1 g4.2).2) h
      · rw [if_neg c6] at h
        refine mx_bipush (pc := 31) C dX7_judge_31 (z := (-12)) rfl (by constructor <;> decide) ?_
        rw [← Option.some.inj h]
        exact mx_ireturn (pc := 33) C dX7_judge_33 hOq1 ⟨Nat.le_refl _, Nat.le_refl _⟩
  · rw [if_pos c3] at h
    refine mx_iconst (pc := 7) C dX7_judge_7 (z := (-1)) rfl (by constructor <;> decide) ?_
    rw [← Option.some.inj h]
    exact mx_ireturn (pc := 8) C dX7_judge_8 hOq1 ⟨Nat.le_refl _, Nat.le_refl _⟩

def f_X7_image (M : Mem) : Option (Int × Mem) :=
  (f_X1_takeAll 41 22 M).bind (fun q1 => lt (stM q1.2 0 3 1) (fun M3 => some (M3 22 0, M3)))
set_option maxRecDepth 20000 in
set_option maxHeartbeats 4000000 in
theorem m_X7_image {M : Mem} {res : Int × Mem} (hOM : OK M) (h : f_X7_image M = some res) : Mth false yX7_image cX7_image 1 (some .int) 3 0 0 SH [aR 0] M (some (aI res.1)) SH res.2 (OK res.2) := by
  refine Mth.of (by decide +kernel) (Nat.le_of_ble_eq_true rfl) (fun K B C => ?_)
  show Wx K B _ 0 0 SH 1 M 0 [some (aR 0)] []
  unfold f_X7_image at h
  refine mx_aload_n (pc := 0) C dX7_image_0 rfl ?_
  refine mx_getR (pc := 1) (v := 41) C dX7_image_1 so_7 ci_7 (k := 1) (by decide) fl_X7_54 rfl (q := 1) rfl (lay_7_1 hOM) (by decide) ?_
  refine mx_aload_n (pc := 4) C dX7_image_4 rfl ?_
  refine mx_getR (pc := 5) (v := 22) C dX7_image_5 so_7 ci_7 (k := 0) (by decide) fl_X7_50 rfl (q := 0) rfl (lay_7_0 hOM) (by decide) ?_
  obtain ⟨q1, hq1, h⟩ := of_bd h
  refine mc_V (pc := 8) (as := [aR 22]) (rest := []) (stk2 := []) C ⟨Nat.le_refl _, Nat.le_refl _⟩ (m_X1_takeAll hOM p_1_41 p_1_22 hq1) mi_X1_takeAll mv_X1_takeAll ml_X7_278 ci_1 rfl (so_1 p_1_41) (by omega) rfl (Nat.le_of_ble_eq_true rfl) dX7_image_8 rfl (fun hp2 => ?_)
  have hOq1 : OK q1.2 := hp2
  refine mx_aload_n (pc := 11) C dX7_image_11 rfl ?_
  refine mx_iconst (pc := 12) C dX7_image_12 (z := 1) rfl (by constructor <;> decide) ?_
  refine mx_putZ (pc := 13) C dX7_image_13 so_7 ci_7 (k := 3) (by decide) fl_X7_281 (Or.inl rfl) rfl (Or.inr rfl) (q := 3) rfl ?_
  generalize hmM3 : stM q1.2 0 3 1 = M3 at h ⊢
  replace h := lt_e h
  have hOM3 : OK M3 := by rw [← hmM3]; exact okf_7_3 hOq1
  refine mx_aload_n (pc := 16) C dX7_image_16 rfl ?_
  refine mx_getR (pc := 17) (v := 22) C dX7_image_17 so_7 ci_7 (k := 0) (by decide) fl_X7_50 rfl (q := 0) rfl (lay_7_0 hOM3) (by decide) ?_
  refine mx_getI (pc := 20) C dX7_image_20 (so_1 p_1_22) ci_1 (k := 0) (by decide) fl_X7_69 rfl (q := 0) rfl ?_
  rw [← Option.some.inj h]
  exact mx_ireturn (pc := 23) C dX7_image_23 hOM3 ⟨Nat.le_refl _, Nat.le_refl _⟩

def f_X7_undo (M : Mem) : Option (Int × Mem) :=
  if M 0 3 = 0 then some ((-3), M) else (f_X1_takeAll 22 41 M).bind (fun q2 => some (q2.2 22 0, q2.2))
set_option maxRecDepth 20000 in
set_option maxHeartbeats 4000000 in
theorem m_X7_undo {M : Mem} {res : Int × Mem} (hOM : OK M) (h : f_X7_undo M = some res) : Mth false yX7_undo cX7_undo 1 (some .int) 3 0 0 SH [aR 0] M (some (aI res.1)) SH res.2 (OK res.2) := by
  refine Mth.of (by decide +kernel) (Nat.le_of_ble_eq_true rfl) (fun K B C => ?_)
  show Wx K B _ 0 0 SH 1 M 0 [some (aR 0)] []
  unfold f_X7_undo at h
  refine mx_aload_n (pc := 0) C dX7_undo_0 rfl ?_
  refine mx_getI (pc := 1) C dX7_undo_1 so_7 ci_7 (k := 3) (by decide) fl_X7_281 rfl (q := 3) rfl ?_
  refine mx_if_ne (pc := 4) (tgt := 10) C dX7_undo_4 rfl (fun c1 => ?_) (fun c1 => ?_)
  · rw [if_neg c1] at h
    refine mx_aload_n (pc := 10) C dX7_undo_10 rfl ?_
    refine mx_getR (pc := 11) (v := 22) C dX7_undo_11 so_7 ci_7 (k := 0) (by decide) fl_X7_50 rfl (q := 0) rfl (lay_7_0 hOM) (by decide) ?_
    refine mx_aload_n (pc := 14) C dX7_undo_14 rfl ?_
    refine mx_getR (pc := 15) (v := 41) C dX7_undo_15 so_7 ci_7 (k := 1) (by decide) fl_X7_54 rfl (q := 1) rfl (lay_7_1 hOM) (by decide) ?_
    obtain ⟨q2, hq2, h⟩ := of_bd h
    refine mc_V (pc := 18) (as := [aR 41]) (rest := []) (stk2 := []) C ⟨Nat.le_refl _, Nat.le_refl _⟩ (m_X1_takeAll hOM p_1_22 p_1_41 hq2) mi_X1_takeAll mv_X1_takeAll ml_X7_278 ci_1 rfl (so_1 p_1_22) (by omega) rfl (Nat.le_of_ble_eq_true rfl) dX7_undo_18 rfl (fun hp3 => ?_)
    have hOq2 : OK q2.2 := hp3
    refine mx_aload_n (pc := 21) C dX7_undo_21 rfl ?_
    refine mx_getR (pc := 22) (v := 22) C dX7_undo_22 so_7 ci_7 (k := 0) (by decide) fl_X7_50 rfl (q := 0) rfl (lay_7_0 hOq2) (by decide) ?_
    refine mx_getI (pc := 25) C dX7_undo_25 (so_1 p_1_22) ci_1 (k := 0) (by decide) fl_X7_69 rfl (q := 0) rfl ?_
    rw [← Option.some.inj h]
    exact mx_ireturn (pc := 28) C dX7_undo_28 hOq2 ⟨Nat.le_refl _, Nat.le_refl _⟩
  · rw [if_pos c1] at h
    refine mx_bipush (pc := 7) C dX7_undo_7 (z := (-3)) rfl (by constructor <;> decide) ?_
    rw [← Option.some.inj h]
    exact mx_ireturn (pc := 9) C dX7_undo_9 hOM ⟨Nat.le_refl _, Nat.le_refl _⟩

def f_X7_act (p1 : Int) (p2 : Int) (p3 : Int) (M : Mem) : Option (Int × Mem) :=
  lt (stM M 13 0 0) (fun M1 => (f_X1_has 22 p1 M1).bind (fun q2 => if q2.1 = 0 then some (0, q2.2) else if 0 ≤ p1 ∧ p1 < 6 then if 0 ≤ p1 ∧ p1 < 6 then (f_X0_perform (q2.2 23 p1) p1 (q2.2 24 p1) p2 p3 q2.2).bind (fun q7 => some (q7.1, q7.2)) else none else none))
set_option maxRecDepth 20000 in
set_option maxHeartbeats 4000000 in
theorem m_X7_act {p1 : Int} {p2 : Int} {p3 : Int} {M : Mem} {res : Int × Mem} (hOM : OK M) (h : f_X7_act p1 p2 p3 M = some res) : Mth false yX7_act cX7_act 4 (some .int) 150 0 0 SH [aR 0, aI p1, aI p2, aI p3] M (some (aI res.1)) SH res.2 (OK res.2) := by
  refine Mth.of (by decide +kernel) (Nat.le_of_ble_eq_true rfl) (fun K B C => ?_)
  show Wx K B _ 0 0 SH 4 M 0 [some (aR 0), some (aI p1), some (aI p2), some (aI p3)] []
  unfold f_X7_act at h
  refine mx_aload_n (pc := 0) C dX7_act_0 rfl ?_
  refine mx_getR (pc := 1) (v := 13) C dX7_act_1 so_7 ci_7 (k := 8) (by decide) fl_X7_34 rfl (q := 8) rfl (lay_7_8 hOM) (by decide) ?_
  refine mx_iconst (pc := 4) C dX7_act_4 (z := 0) rfl (by constructor <;> decide) ?_
  refine mx_putI (pc := 5) C dX7_act_5 so_0 ci_0 (k := 0) (by decide) fl_X7_285 (Or.inl rfl) rfl (q := 0) rfl ?_
  generalize hmM1 : stM M 13 0 0 = M1 at h ⊢
  replace h := lt_e h
  have hOM1 : OK M1 := by rw [← hmM1]; exact okf_0_0 hOM
  refine mx_aload_n (pc := 8) C dX7_act_8 rfl ?_
  refine mx_getR (pc := 9) (v := 22) C dX7_act_9 so_7 ci_7 (k := 0) (by decide) fl_X7_50 rfl (q := 0) rfl (lay_7_0 hOM1) (by decide) ?_
  refine mx_iload_n (pc := 12) C dX7_act_12 rfl ?_
  obtain ⟨q2, hq2, h⟩ := of_bd h
  refine mc_V (pc := 13) (as := [aI p1]) (rest := []) (stk2 := [aI q2.1]) C ⟨Nat.le_refl _, Nat.le_refl _⟩ (m_X1_has hOM1 p_1_22 hq2) mi_X1_has mv_X1_has ml_X7_77 ci_1 rfl (so_1 p_1_22) (by omega) rfl (Nat.le_of_ble_eq_true rfl) dX7_act_13 rfl (fun hp3 => ?_)
  have hOq2 : OK q2.2 := hp3.1
  refine mx_if_eq (pc := 16) (tgt := 50) C dX7_act_16 rfl (fun c4 => ?_) (fun c4 => ?_)
  · rw [if_pos c4] at h
    refine mx_iconst (pc := 50) C dX7_act_50 (z := 0) rfl (by constructor <;> decide) ?_
    rw [← Option.some.inj h]
    exact mx_ireturn (pc := 51) C dX7_act_51 hOq2 ⟨Nat.le_refl _, Nat.le_refl _⟩
  · rw [if_neg c4] at h
    refine mx_aload_n (pc := 19) C dX7_act_19 rfl ?_
    refine mx_getR (pc := 20) (v := 13) C dX7_act_20 so_7 ci_7 (k := 8) (by decide) fl_X7_34 rfl (q := 8) rfl (lay_7_8 hOq2) (by decide) ?_
    refine mx_aload_n (pc := 23) C dX7_act_23 rfl ?_
    refine mx_getR (pc := 24) (v := 22) C dX7_act_24 so_7 ci_7 (k := 0) (by decide) fl_X7_50 rfl (q := 0) rfl (lay_7_0 hOq2) (by decide) ?_
    refine mx_getR (pc := 27) (v := 23) C dX7_act_27 (so_1 p_1_22) ci_1 (k := 1) (by decide) fl_X7_90 rfl (q := 1) rfl ((lay_1_1 hOq2 p_1_22).trans (by decide)) (by have := lot_pos p_1_22; omega) ?_
    refine mx_iload_n (pc := 30) C dX7_act_30 rfl ?_
    obtain ⟨g5, h⟩ := of_gd h
    refine mx_iald (pc := 31) C dX7_act_31 (rfl : shp SH 23 = some (0, 6)) g5.1 g5.2 ?_
    refine mx_iload_n (pc := 32) C dX7_act_32 rfl ?_
    refine mx_aload_n (pc := 33) C dX7_act_33 rfl ?_
    refine mx_getR (pc := 34) (v := 22) C dX7_act_34 so_7 ci_7 (k := 0) (by decide) fl_X7_50 rfl (q := 0) rfl (lay_7_0 hOq2) (by decide) ?_
    refine mx_getR (pc := 37) (v := 24) C dX7_act_37 (so_1 p_1_22) ci_1 (k := 2) (by decide) fl_X7_94 rfl (q := 2) rfl ((lay_1_2 hOq2 p_1_22).trans (by decide)) (by have := lot_pos p_1_22; omega) ?_
    refine mx_iload_n (pc := 40) C dX7_act_40 rfl ?_
    obtain ⟨g6, h⟩ := of_gd h
    refine mx_iald (pc := 41) C dX7_act_41 (rfl : shp SH 24 = some (0, 6)) g6.1 g6.2 ?_
    refine mx_iload_n (pc := 42) C dX7_act_42 rfl ?_
    refine mx_iload_n (pc := 43) C dX7_act_43 rfl ?_
    obtain ⟨q7, hq7, h⟩ := of_bd h
    refine mc_V (pc := 44) (as := [aI (q2.2 23 p1), aI p1, aI (q2.2 24 p1), aI p2, aI p3]) (rest := []) (stk2 := [aI q7.1]) C ⟨Nat.le_refl _, Nat.le_refl _⟩ (m_X0_perform hOq2 hq7) mi_X0_perform mv_X0_perform ml_X7_288 ci_0 rfl so_0 (by omega) rfl (Nat.le_of_ble_eq_true rfl) dX7_act_44 rfl (fun hp8 => ?_)
    have hOq7 : OK q7.2 := hp8
    refine mx_goto (pc := 47) (tgt := 51) C dX7_act_47 rfl ?_
    rw [← Option.some.inj h]
    exact mx_ireturn (pc := 51) C dX7_act_51 hOq7 ⟨Nat.le_refl _, Nat.le_refl _⟩

def f_X7_trace (p1 : Int) (M : Mem) : Option (Int × Mem) :=
  if p1 < 0 then some ((-1), M) else if 20 ≤ p1 then some ((-1), M) else if M 13 0 ≤ p1 then some ((-1), M) else if 0 ≤ p1 ∧ p1 < 20 then some (M 14 p1, M) else none
set_option maxRecDepth 20000 in
set_option maxHeartbeats 4000000 in
theorem m_X7_trace {p1 : Int} {M : Mem} {res : Int × Mem} (hOM : OK M) (h : f_X7_trace p1 M = some res) : Mth false yX7_trace cX7_trace 2 (some .int) 1 0 0 SH [aR 0, aI p1] M (some (aI res.1)) SH res.2 (OK res.2) := by
  refine Mth.of (by decide +kernel) (Nat.le_of_ble_eq_true rfl) (fun K B C => ?_)
  show Wx K B _ 0 0 SH 2 M 0 [some (aR 0), some (aI p1)] []
  unfold f_X7_trace at h
  refine mx_iload_n (pc := 0) C dX7_trace_0 rfl ?_
  refine mx_if_lt (pc := 1) (tgt := 33) C dX7_trace_1 rfl (fun c1 => ?_) (fun c1 => ?_)
  · rw [if_pos c1] at h
    refine mx_iconst (pc := 33) C dX7_trace_33 (z := (-1)) rfl (by constructor <;> decide) ?_
    rw [← Option.some.inj h]
    exact mx_ireturn (pc := 34) C dX7_trace_34 hOM ⟨Nat.le_refl _, Nat.le_refl _⟩
  · rw [if_neg c1] at h
    refine mx_iload_n (pc := 4) C dX7_trace_4 rfl ?_
    refine mx_bipush (pc := 5) C dX7_trace_5 (z := 20) rfl (by constructor <;> decide) ?_
    refine mx_icmp_ge (pc := 7) (tgt := 33) C dX7_trace_7 rfl (fun c2 => ?_) (fun c2 => ?_)
    · rw [if_pos c2] at h
      refine mx_iconst (pc := 33) C dX7_trace_33 (z := (-1)) rfl (by constructor <;> decide) ?_
      rw [← Option.some.inj h]
      exact mx_ireturn (pc := 34) C dX7_trace_34 hOM ⟨Nat.le_refl _, Nat.le_refl _⟩
    · rw [if_neg c2] at h
      refine mx_iload_n (pc := 10) C dX7_trace_10 rfl ?_
      refine mx_aload_n (pc := 11) C dX7_trace_11 rfl ?_
      refine mx_getR (pc := 12) (v := 13) C dX7_trace_12 so_7 ci_7 (k := 8) (by decide) fl_X7_34 rfl (q := 8) rfl (lay_7_8 hOM) (by decide) ?_
      refine mx_getI (pc := 15) C dX7_trace_15 so_0 ci_0 (k := 0) (by decide) fl_X7_285 rfl (q := 0) rfl ?_
      refine mx_icmp_ge (pc := 18) (tgt := 33) C dX7_trace_18 rfl (fun c3 => ?_) (fun c3 => ?_)
      · rw [if_pos c3] at h
        refine mx_iconst (pc := 33) C dX7_trace_33 (z := (-1)) rfl (by constructor <;> decide) ?_
        rw [← Option.some.inj h]
        exact mx_ireturn (pc := 34) C dX7_trace_34 hOM ⟨Nat.le_refl _, Nat.le_refl _⟩
      · rw [if_neg c3] at h
        refine mx_aload_n (pc := 21) C dX7_trace_21 rfl ?_
        refine mx_getR (pc := 22) (v := 13) C dX7_trace_22 so_7 ci_7 (k := 8) (by decide) fl_X7_34 rfl (q := 8) rfl (lay_7_8 hOM) (by decide) ?_
        refine mx_getR (pc := 25) (v := 14) C dX7_trace_25 so_0 ci_0 (k := 1) (by decide) fl_X7_292 rfl (q := 1) rfl (lay_0_1 hOM) (by decide) ?_
        refine mx_iload_n (pc := 28) C dX7_trace_28 rfl ?_
        obtain ⟨g4, h⟩ := of_gd h
        refine mx_iald (pc := 29) C dX7_trace_29 sh_0_1 g4.1 g4.2 ?_
        refine mx_goto (pc := 30) (tgt := 34) C dX7_trace_30 rfl ?_
        rw [← Option.some.inj h]
        exact mx_ireturn (pc := 34) C dX7_trace_34 hOM ⟨Nat.le_refl _, Nat.le_refl _⟩

def f_X7_taken_42 (p1 : Int) (p2 : Int) : Nat → Int → Int → Int → Int → Mem → Option (Int × Mem)
  | 0, _, _, _, _, _ => none
  | n + 1, x2, x3, x4, x5, M => if 7 ≤ x5 then some ((-12), M) else if x4 < 0 then some ((-12), M) else if x4 = x2 then some (x3, M) else if 0 ≤ x4 ∧ x4 < 7 then f_X7_taken_42 p1 p2 n x2 x3 (tabA.getD (x4).toNat 0) (w32 (x5 + 1)) M else none
def f_X7_taken (p1 : Int) (p2 : Int) (M : Mem) : Option (Int × Mem) :=
  (f_X7_isIn p2 6 M).bind (fun q1 => if q1.1 = 0 then some ((-2), q1.2) else (f_X1_has 22 p1 q1.2).bind (fun q4 => if q4.1 = 0 then some ((-11), q4.2) else if 0 ≤ p1 ∧ p1 < 6 then f_X7_taken_42 p1 p2 FU p2 (q4.2 23 p1) (q4.2 23 p1) 0 q4.2 else none))
set_option maxRecDepth 20000 in
set_option maxHeartbeats 4000000 in
theorem b_X7_taken_42 {K : KX} {B : BX} {res : Int × Mem} {p1 : Int} {p2 : Int} (C : Cx K B false yX7_taken cX7_taken 6 (some .int) 2 0 0) : ∀ (n : Nat) (x2 : Int) (x3 : Int) (x4 : Int) (x5 : Int) (M : Mem), OK M → f_X7_taken_42 p1 p2 n x2 x3 x4 x5 M = some res → Wx K B (Zr K B (some (aI res.1)) SH res.2 (OK res.2) 0 0) 0 0 SH 6 M 42 [none, none, some (aI x2), some (aI x3), some (aI x4), some (aI x5)] [] := by
  intro n
  induction n with
  | zero =>
    intro x2 x3 x4 x5 M hOM h
    cases h
  | succ n ih =>
    intro x2 x3 x4 x5 M hOM h
    rw [f_X7_taken_42.eq_2] at h
    refine mx_iload (pc := 42) C dX7_taken_42 rfl ?_
    refine mx_bipush (pc := 44) C dX7_taken_44 (z := 7) rfl (by constructor <;> decide) ?_
    refine mx_icmp_ge (pc := 46) (tgt := 76) C dX7_taken_46 rfl (fun c1 => ?_) (fun c1 => ?_)
    · rw [if_pos c1] at h
      refine mx_bipush (pc := 76) C dX7_taken_76 (z := (-12)) rfl (by constructor <;> decide) ?_
      rw [← Option.some.inj h]
      exact mx_ireturn (pc := 78) C dX7_taken_78 hOM ⟨Nat.le_refl _, Nat.le_refl _⟩
    · rw [if_neg c1] at h
      refine mx_iload (pc := 49) C dX7_taken_49 rfl ?_
      refine mx_if_lt (pc := 51) (tgt := 76) C dX7_taken_51 rfl (fun c2 => ?_) (fun c2 => ?_)
      · rw [if_pos c2] at h
        refine mx_bipush (pc := 76) C dX7_taken_76 (z := (-12)) rfl (by constructor <;> decide) ?_
        rw [← Option.some.inj h]
        exact mx_ireturn (pc := 78) C dX7_taken_78 hOM ⟨Nat.le_refl _, Nat.le_refl _⟩
      · rw [if_neg c2] at h
        refine mx_iload (pc := 54) C dX7_taken_54 rfl ?_
        refine mx_iload_n (pc := 56) C dX7_taken_56 rfl ?_
        refine mx_icmp_ne (pc := 57) (tgt := 62) C dX7_taken_57 rfl (fun c3 => ?_) (fun c3 => ?_)
        · rw [if_neg c3] at h
          refine mx_getA (pc := 62) C dX7_taken_62 fl_X7_295 ?_
          refine mx_iload (pc := 65) C dX7_taken_65 rfl ?_
          obtain ⟨g4, h⟩ := of_gd h
          refine mx_tabA (pc := 67) C dX7_taken_67 g4.1 g4.2 ?_
          refine mx_istore (pc := 68) C dX7_taken_68 (ls' := [none, none, some (aI x2), some (aI x3), some (aI (tabA.getD (x4).toNat 0)), some (aI x5)]) (by decide) rfl rfl ?_
          refine mx_iinc (pc := 70) C dX7_taken_70 (ls' := [none, none, some (aI x2), some (aI x3), some (aI (tabA.getD (x4).toNat 0)), some (aI (w32 (x5 + 1)))]) rfl (by decide) rfl (by constructor <;> decide) rfl rfl ?_
          refine mx_goto (pc := 73) (tgt := 42) C dX7_taken_73 rfl ?_
          exact ih x2 x3 (tabA.getD (x4).toNat 0) (w32 (x5 + 1)) M hOM h
        · rw [if_pos c3] at h
          refine mx_iload_n (pc := 60) C dX7_taken_60 rfl ?_
          rw [← Option.some.inj h]
          exact mx_ireturn (pc := 61) C dX7_taken_61 hOM ⟨Nat.le_refl _, Nat.le_refl _⟩
set_option maxRecDepth 20000 in
set_option maxHeartbeats 4000000 in
theorem m_X7_taken {p1 : Int} {p2 : Int} {M : Mem} {res : Int × Mem} (hOM : OK M) (h : f_X7_taken p1 p2 M = some res) : Mth false yX7_taken cX7_taken 6 (some .int) 2 0 0 SH [aR 0, aI p1, aI p2] M (some (aI res.1)) SH res.2 (OK res.2) := by
  refine Mth.of (by decide +kernel) (Nat.le_of_ble_eq_true rfl) (fun K B C => ?_)
  show Wx K B _ 0 0 SH 6 M 0 [some (aR 0), some (aI p1), some (aI p2), none, none, none] []
  unfold f_X7_taken at h
  refine mx_iload_n (pc := 0) C dX7_taken_0 rfl ?_
  refine mx_bipush (pc := 1) C dX7_taken_1 (z := 6) rfl (by constructor <;> decide) ?_
  obtain ⟨q1, hq1, h⟩ := of_bd h
  refine mc_S (pc := 3) (as := [aI p2, aI 6]) (rest := []) (stk2 := [aI q1.1]) C ⟨Nat.le_refl _, Nat.le_refl _⟩ (m_X7_isIn hOM hq1) mi_X7_isIn ms_X7_isIn ml_X7_61 (by omega) rfl (Nat.le_of_ble_eq_true rfl) dX7_taken_3 rfl (fun hp2 => ?_)
  have hOq1 : OK q1.2 := hp2.1
  refine mx_if_ne (pc := 6) (tgt := 12) C dX7_taken_6 rfl (fun c3 => ?_) (fun c3 => ?_)
  · rw [if_neg c3] at h
    refine mx_aload_n (pc := 12) C dX7_taken_12 rfl ?_
    refine mx_getR (pc := 13) (v := 22) C dX7_taken_13 so_7 ci_7 (k := 0) (by decide) fl_X7_50 rfl (q := 0) rfl (lay_7_0 hOq1) (by decide) ?_
    refine mx_iload_n (pc := 16) C dX7_taken_16 rfl ?_
    obtain ⟨q4, hq4, h⟩ := of_bd h
    refine mc_V (pc := 17) (as := [aI p1]) (rest := []) (stk2 := [aI q4.1]) C ⟨Nat.le_refl _, Nat.le_refl _⟩ (m_X1_has hOq1 p_1_22 hq4) mi_X1_has mv_X1_has ml_X7_77 ci_1 rfl (so_1 p_1_22) (by omega) rfl (Nat.le_of_ble_eq_true rfl) dX7_taken_17 rfl (fun hp5 => ?_)
    have hOq4 : OK q4.2 := hp5.1
    refine mx_if_ne (pc := 20) (tgt := 26) C dX7_taken_20 rfl (fun c6 => ?_) (fun c6 => ?_)
    · rw [if_neg c6] at h
      refine mx_aload_n (pc := 26) C dX7_taken_26 rfl ?_
      refine mx_getR (pc := 27) (v := 22) C dX7_taken_27 so_7 ci_7 (k := 0) (by decide) fl_X7_50 rfl (q := 0) rfl (lay_7_0 hOq4) (by decide) ?_
      refine mx_getR (pc := 30) (v := 23) C dX7_taken_30 (so_1 p_1_22) ci_1 (k := 1) (by decide) fl_X7_90 rfl (q := 1) rfl ((lay_1_1 hOq4 p_1_22).trans (by decide)) (by have := lot_pos p_1_22; omega) ?_
      refine mx_iload_n (pc := 33) C dX7_taken_33 rfl ?_
      obtain ⟨g7, h⟩ := of_gd h
      refine mx_iald (pc := 34) C dX7_taken_34 (rfl : shp SH 23 = some (0, 6)) g7.1 g7.2 ?_
      refine mx_istore_n (pc := 35) C dX7_taken_35 (ls' := [some (aR 0), some (aI p1), some (aI p2), some (aI (q4.2 23 p1)), none, none]) (by decide) rfl rfl ?_
      refine mx_iload_n (pc := 36) C dX7_taken_36 rfl ?_
      refine mx_istore (pc := 37) C dX7_taken_37 (ls' := [some (aR 0), some (aI p1), some (aI p2), some (aI (q4.2 23 p1)), some (aI (q4.2 23 p1)), none]) (by decide) rfl rfl ?_
      refine mx_iconst (pc := 39) C dX7_taken_39 (z := 0) rfl (by constructor <;> decide) ?_
      refine mx_istore (pc := 40) C dX7_taken_40 (ls' := [some (aR 0), some (aI p1), some (aI p2), some (aI (q4.2 23 p1)), some (aI (q4.2 23 p1)), some (aI 0)]) (by decide) rfl rfl ?_
      refine mx_mask [false, false, true, true, true, true] (ls' := [none, none, some (aI p2), some (aI (q4.2 23 p1)), some (aI (q4.2 23 p1)), some (aI 0)]) rfl rfl ?_
      exact b_X7_taken_42 C FU p2 (q4.2 23 p1) (q4.2 23 p1) 0 q4.2 hOq4 h
    · rw [if_pos c6] at h
      refine mx_bipush (pc := 23) C dX7_taken_23 (z := (-11)) rfl (by constructor <;> decide) ?_
      rw [← Option.some.inj h]
      exact mx_ireturn (pc := 25) C dX7_taken_25 hOq4 ⟨Nat.le_refl _, Nat.le_refl _⟩
  · rw [if_pos c3] at h
    refine mx_bipush (pc := 9) C dX7_taken_9 (z := (-2)) rfl (by constructor <;> decide) ?_
    rw [← Option.some.inj h]
    exact mx_ireturn (pc := 11) C dX7_taken_11 hOq1 ⟨Nat.le_refl _, Nat.le_refl _⟩

def f_X7_count (p1 : Int) (M : Mem) : Option (Int × Mem) :=
  if p1 = 0 then some (M 22 0, M) else if p1 = 1 then some (M 0 6, M) else if p1 = 2 then some (M 28 0, M) else if p1 = 3 then some (M 32 0, M) else if p1 = 4 then some (M 36 0, M) else if p1 = 5 then some (M 1 1, M) else if p1 = 6 then some (M 13 0, M) else some ((-2), M)
set_option maxRecDepth 20000 in
set_option maxHeartbeats 4000000 in
theorem m_X7_count {p1 : Int} {M : Mem} {res : Int × Mem} (hOM : OK M) (h : f_X7_count p1 M = some res) : Mth false yX7_count cX7_count 2 (some .int) 1 0 0 SH [aR 0, aI p1] M (some (aI res.1)) SH res.2 (OK res.2) := by
  refine Mth.of (by decide +kernel) (Nat.le_of_ble_eq_true rfl) (fun K B C => ?_)
  show Wx K B _ 0 0 SH 2 M 0 [some (aR 0), some (aI p1)] []
  unfold f_X7_count at h
  refine mx_iload_n (pc := 0) C dX7_count_0 rfl ?_
  by_cases c1 : p1 = 0
  · rw [if_pos c1] at h
    refine mx_tin (pc := 1) (tgt := 44) C 0 dX7_count_1 c1 (by decide) (by decide) rfl rfl ?_
    refine mx_aload_n (pc := 44) C dX7_count_44 rfl ?_
    refine mx_getR (pc := 45) (v := 22) C dX7_count_45 so_7 ci_7 (k := 0) (by decide) fl_X7_50 rfl (q := 0) rfl (lay_7_0 hOM) (by decide) ?_
    refine mx_getI (pc := 48) C dX7_count_48 (so_1 p_1_22) ci_1 (k := 0) (by decide) fl_X7_69 rfl (q := 0) rfl ?_
    rw [← Option.some.inj h]
    exact mx_ireturn (pc := 51) C dX7_count_51 hOM ⟨Nat.le_refl _, Nat.le_refl _⟩
  · rw [if_neg c1] at h
    by_cases c2 : p1 = 1
    · rw [if_pos c2] at h
      refine mx_tin (pc := 1) (tgt := 52) C 1 dX7_count_1 c2 (by decide) (by decide) rfl rfl ?_
      refine mx_aload_n (pc := 52) C dX7_count_52 rfl ?_
      refine mx_getI (pc := 53) C dX7_count_53 so_7 ci_7 (k := 6) (by decide) fl_X7_125 rfl (q := 6) rfl ?_
      rw [← Option.some.inj h]
      exact mx_ireturn (pc := 56) C dX7_count_56 hOM ⟨Nat.le_refl _, Nat.le_refl _⟩
    · rw [if_neg c2] at h
      by_cases c3 : p1 = 2
      · rw [if_pos c3] at h
        refine mx_tin (pc := 1) (tgt := 57) C 2 dX7_count_1 c3 (by decide) (by decide) rfl rfl ?_
        refine mx_aload_n (pc := 57) C dX7_count_57 rfl ?_
        refine mx_getR (pc := 58) (v := 22) C dX7_count_58 so_7 ci_7 (k := 0) (by decide) fl_X7_50 rfl (q := 0) rfl (lay_7_0 hOM) (by decide) ?_
        refine mx_getR (pc := 61) (v := 28) C dX7_count_61 (so_1 p_1_22) ci_1 (k := 8) (by decide) fl_X7_202 rfl (q := 8) rfl ((lay_1_8 hOM p_1_22).trans (by decide)) (by have := lot_pos p_1_22; omega) ?_
        refine mx_getI (pc := 64) C dX7_count_64 (so_2 p_2_28) ci_2 (k := 0) (by decide) fl_X7_226 rfl (q := 0) rfl ?_
        rw [← Option.some.inj h]
        exact mx_ireturn (pc := 67) C dX7_count_67 hOM ⟨Nat.le_refl _, Nat.le_refl _⟩
      · rw [if_neg c3] at h
        by_cases c4 : p1 = 3
        · rw [if_pos c4] at h
          refine mx_tin (pc := 1) (tgt := 68) C 3 dX7_count_1 c4 (by decide) (by decide) rfl rfl ?_
          refine mx_aload_n (pc := 68) C dX7_count_68 rfl ?_
          refine mx_getR (pc := 69) (v := 22) C dX7_count_69 so_7 ci_7 (k := 0) (by decide) fl_X7_50 rfl (q := 0) rfl (lay_7_0 hOM) (by decide) ?_
          refine mx_getR (pc := 72) (v := 32) C dX7_count_72 (so_1 p_1_22) ci_1 (k := 9) (by decide) fl_X7_250 rfl (q := 9) rfl ((lay_1_9 hOM p_1_22).trans (by decide)) (by have := lot_pos p_1_22; omega) ?_
          refine mx_getI (pc := 75) C dX7_count_75 (so_2 p_2_32) ci_2 (k := 0) (by decide) fl_X7_226 rfl (q := 0) rfl ?_
          rw [← Option.some.inj h]
          exact mx_ireturn (pc := 78) C dX7_count_78 hOM ⟨Nat.le_refl _, Nat.le_refl _⟩
        · rw [if_neg c4] at h
          by_cases c5 : p1 = 4
          · rw [if_pos c5] at h
            refine mx_tin (pc := 1) (tgt := 79) C 4 dX7_count_1 c5 (by decide) (by decide) rfl rfl ?_
            refine mx_aload_n (pc := 79) C dX7_count_79 rfl ?_
            refine mx_getR (pc := 80) (v := 22) C dX7_count_80 so_7 ci_7 (k := 0) (by decide) fl_X7_50 rfl (q := 0) rfl (lay_7_0 hOM) (by decide) ?_
            refine mx_getR (pc := 83) (v := 36) C dX7_count_83 (so_1 p_1_22) ci_1 (k := 10) (by decide) fl_X7_262 rfl (q := 10) rfl ((lay_1_10 hOM p_1_22).trans (by decide)) (by have := lot_pos p_1_22; omega) ?_
            refine mx_getI (pc := 86) C dX7_count_86 (so_2 p_2_36) ci_2 (k := 0) (by decide) fl_X7_226 rfl (q := 0) rfl ?_
            rw [← Option.some.inj h]
            exact mx_ireturn (pc := 89) C dX7_count_89 hOM ⟨Nat.le_refl _, Nat.le_refl _⟩
          · rw [if_neg c5] at h
            by_cases c6 : p1 = 5
            · rw [if_pos c6] at h
              refine mx_tin (pc := 1) (tgt := 90) C 5 dX7_count_1 c6 (by decide) (by decide) rfl rfl ?_
              refine mx_aload_n (pc := 90) C dX7_count_90 rfl ?_
              refine mx_getR (pc := 91) (v := 1) C dX7_count_91 so_7 ci_7 (k := 4) (by decide) fl_X7_14 rfl (q := 4) rfl (lay_7_4 hOM) (by decide) ?_
              refine mx_getI (pc := 94) C dX7_count_94 so_5 ci_5 (k := 1) (by decide) fl_X7_118 rfl (q := 1) rfl ?_
              rw [← Option.some.inj h]
              exact mx_ireturn (pc := 97) C dX7_count_97 hOM ⟨Nat.le_refl _, Nat.le_refl _⟩
            · rw [if_neg c6] at h
              by_cases c7 : p1 = 6
              · rw [if_pos c7] at h
                refine mx_tin (pc := 1) (tgt := 98) C 6 dX7_count_1 c7 (by decide) (by decide) rfl rfl ?_
                refine mx_aload_n (pc := 98) C dX7_count_98 rfl ?_
                refine mx_getR (pc := 99) (v := 13) C dX7_count_99 so_7 ci_7 (k := 8) (by decide) fl_X7_34 rfl (q := 8) rfl (lay_7_8 hOM) (by decide) ?_
                refine mx_getI (pc := 102) C dX7_count_102 so_0 ci_0 (k := 0) (by decide) fl_X7_285 rfl (q := 0) rfl ?_
                rw [← Option.some.inj h]
                exact mx_ireturn (pc := 105) C dX7_count_105 hOM ⟨Nat.le_refl _, Nat.le_refl _⟩
              · rw [if_neg c7] at h
                refine mx_tout (pc := 1) (tgt := 106) C dX7_count_1 (by omega) rfl ?_
                refine mx_bipush (pc := 106) C dX7_count_106 (z := (-2)) rfl (by constructor <;> decide) ?_
                rw [← Option.some.inj h]
                exact mx_ireturn (pc := 108) C dX7_count_108 hOM ⟨Nat.le_refl _, Nat.le_refl _⟩

def f_X7_tape (p1 : Int) (p2 : Int) (p3 : Int) (M : Mem) : Option (Int × Mem) :=
  (f_X7_isTape p1 M).bind (fun q1 => if q1.1 = 0 then some ((-1), q1.2) else if p2 = (-1) then if 0 ≤ p1 ∧ p1 < 6 then (f_X4_become (115 + 2 * p1) (-1) 0 q1.2).bind (fun q14 => some (1, q14.2)) else none else (f_X7_isIn p2 4 q1.2).bind (fun q5 => if q5.1 = 0 then some ((-2), q5.2) else if p3 ≤ 60 then if 0 ≤ p3 then if 0 ≤ p1 ∧ p1 < 6 then (f_X4_become (115 + 2 * p1) p2 p3 q5.2).bind (fun q11 => some (1, q11.2)) else none else some ((-14), q5.2) else some ((-2), q5.2)))
set_option maxRecDepth 20000 in
set_option maxHeartbeats 4000000 in
theorem m_X7_tape {p1 : Int} {p2 : Int} {p3 : Int} {M : Mem} {res : Int × Mem} (hOM : OK M) (h : f_X7_tape p1 p2 p3 M = some res) : Mth false yX7_tape cX7_tape 4 (some .int) 3 0 0 SH [aR 0, aI p1, aI p2, aI p3] M (some (aI res.1)) SH res.2 (OK res.2) := by
  refine Mth.of (by decide +kernel) (Nat.le_of_ble_eq_true rfl) (fun K B C => ?_)
  show Wx K B _ 0 0 SH 4 M 0 [some (aR 0), some (aI p1), some (aI p2), some (aI p3)] []
  unfold f_X7_tape at h
  refine mx_iload_n (pc := 0) C dX7_tape_0 rfl ?_
  obtain ⟨q1, hq1, h⟩ := of_bd h
  refine mc_S (pc := 1) (as := [aI p1]) (rest := []) (stk2 := [aI q1.1]) C ⟨Nat.le_refl _, Nat.le_refl _⟩ (m_X7_isTape hOM hq1) mi_X7_isTape ms_X7_isTape ml_X7_265 (by omega) rfl (Nat.le_of_ble_eq_true rfl) dX7_tape_1 rfl (fun hp2 => ?_)
  have hOq1 : OK q1.2 := hp2.1
  refine mx_if_ne (pc := 4) (tgt := 9) C dX7_tape_4 rfl (fun c3 => ?_) (fun c3 => ?_)
  · rw [if_neg c3] at h
    refine mx_iload_n (pc := 9) C dX7_tape_9 rfl ?_
    refine mx_iconst (pc := 10) C dX7_tape_10 (z := (-1)) rfl (by constructor <;> decide) ?_
    refine mx_icmp_ne (pc := 11) (tgt := 27) C dX7_tape_11 rfl (fun c4 => ?_) (fun c4 => ?_)
    · rw [if_neg c4] at h
      refine mx_iload_n (pc := 27) C dX7_tape_27 rfl ?_
      refine mx_iconst (pc := 28) C dX7_tape_28 (z := 4) rfl (by constructor <;> decide) ?_
      obtain ⟨q5, hq5, h⟩ := of_bd h
      refine mc_S (pc := 29) (as := [aI p2, aI 4]) (rest := []) (stk2 := [aI q5.1]) C ⟨Nat.le_refl _, Nat.le_refl _⟩ (m_X7_isIn hOq1 hq5) mi_X7_isIn ms_X7_isIn ml_X7_61 (by omega) rfl (Nat.le_of_ble_eq_true rfl) dX7_tape_29 rfl (fun hp6 => ?_)
      have hOq5 : OK q5.2 := hp6.1
      refine mx_if_eq (pc := 32) (tgt := 41) C dX7_tape_32 rfl (fun c7 => ?_) (fun c7 => ?_)
      · rw [if_pos c7] at h
        refine mx_bipush (pc := 41) C dX7_tape_41 (z := (-2)) rfl (by constructor <;> decide) ?_
        rw [← Option.some.inj h]
        exact mx_ireturn (pc := 43) C dX7_tape_43 hOq5 ⟨Nat.le_refl _, Nat.le_refl _⟩
      · rw [if_neg c7] at h
        refine mx_iload_n (pc := 35) C dX7_tape_35 rfl ?_
        refine mx_bipush (pc := 36) C dX7_tape_36 (z := 60) rfl (by constructor <;> decide) ?_
        refine mx_icmp_le (pc := 38) (tgt := 44) C dX7_tape_38 rfl (fun c8 => ?_) (fun c8 => ?_)
        · rw [if_pos c8] at h
          refine mx_iload_n (pc := 44) C dX7_tape_44 rfl ?_
          refine mx_if_ge (pc := 45) (tgt := 51) C dX7_tape_45 rfl (fun c9 => ?_) (fun c9 => ?_)
          · rw [if_pos c9] at h
            refine mx_aload_n (pc := 51) C dX7_tape_51 rfl ?_
            refine mx_getR (pc := 52) (v := 15) C dX7_tape_52 so_7 ci_7 (k := 9) (by decide) fl_X7_40 rfl (q := 9) rfl (lay_7_9 hOq5) (by decide) ?_
            refine mx_iload_n (pc := 55) C dX7_tape_55 rfl ?_
            obtain ⟨g10, h⟩ := of_gd h
            refine mx_aald (pc := 56) (v := (115 + 2 * p1)) C dX7_tape_56 (rfl : shp SH 15 = some (5, 6)) (by decide) g10.1 g10.2 (tape_at hOq5 g10.1 g10.2).1 (tp_pos (tape_at hOq5 g10.1 g10.2).2).1 ?_
            refine mx_iload_n (pc := 57) C dX7_tape_57 rfl ?_
            refine mx_iload_n (pc := 58) C dX7_tape_58 rfl ?_
            obtain ⟨q11, hq11, h⟩ := of_bd h
            refine mc_V (pc := 59) (as := [aI p2, aI p3]) (rest := []) (stk2 := []) C ⟨Nat.le_refl _, Nat.le_refl _⟩ (m_X4_become hOq5 ((tape_at hOq5 g10.1 g10.2).2) hq11) mi_X4_become mv_X4_become ml_X7_298 ci_4 rfl (so_4 (tape_at hOq5 g10.1 g10.2).2) (by omega) rfl (Nat.le_of_ble_eq_true rfl) dX7_tape_59 rfl (fun hp12 => ?_)
            have hOq11 : OK q11.2 := hp12
            refine mx_iconst (pc := 62) C dX7_tape_62 (z := 1) rfl (by constructor <;> decide) ?_
            rw [← Option.some.inj h]
            exact mx_ireturn (pc := 63) C dX7_tape_63 hOq11 ⟨Nat.le_refl _, Nat.le_refl _⟩
          · rw [if_neg c9] at h
            refine mx_bipush (pc := 48) C dX7_tape_48 (z := (-14)) rfl (by constructor <;> decide) ?_
            rw [← Option.some.inj h]
            exact mx_ireturn (pc := 50) C dX7_tape_50 hOq5 ⟨Nat.le_refl _, Nat.le_refl _⟩
        · rw [if_neg c8] at h
          refine mx_bipush (pc := 41) C dX7_tape_41 (z := (-2)) rfl (by constructor <;> decide) ?_
          rw [← Option.some.inj h]
          exact mx_ireturn (pc := 43) C dX7_tape_43 hOq5 ⟨Nat.le_refl _, Nat.le_refl _⟩
    · rw [if_pos c4] at h
      refine mx_aload_n (pc := 14) C dX7_tape_14 rfl ?_
      refine mx_getR (pc := 15) (v := 15) C dX7_tape_15 so_7 ci_7 (k := 9) (by decide) fl_X7_40 rfl (q := 9) rfl (lay_7_9 hOq1) (by decide) ?_
      refine mx_iload_n (pc := 18) C dX7_tape_18 rfl ?_
      obtain ⟨g13, h⟩ := of_gd h
      refine mx_aald (pc := 19) (v := (115 + 2 * p1)) C dX7_tape_19 (rfl : shp SH 15 = some (5, 6)) (by decide) g13.1 g13.2 (tape_at hOq1 g13.1 g13.2).1 (tp_pos (tape_at hOq1 g13.1 g13.2).2).1 ?_
      refine mx_iconst (pc := 20) C dX7_tape_20 (z := (-1)) rfl (by constructor <;> decide) ?_
      refine mx_iconst (pc := 21) C dX7_tape_21 (z := 0) rfl (by constructor <;> decide) ?_
      obtain ⟨q14, hq14, h⟩ := of_bd h
      refine mc_V (pc := 22) (as := [aI (-1), aI 0]) (rest := []) (stk2 := []) C ⟨Nat.le_refl _, Nat.le_refl _⟩ (m_X4_become hOq1 ((tape_at hOq1 g13.1 g13.2).2) hq14) mi_X4_become mv_X4_become ml_X7_298 ci_4 rfl (so_4 (tape_at hOq1 g13.1 g13.2).2) (by omega) rfl (Nat.le_of_ble_eq_true rfl) dX7_tape_22 rfl (fun hp15 => ?_)
      have hOq14 : OK q14.2 := hp15
      refine mx_iconst (pc := 25) C dX7_tape_25 (z := 1) rfl (by constructor <;> decide) ?_
      rw [← Option.some.inj h]
      exact mx_ireturn (pc := 26) C dX7_tape_26 hOq14 ⟨Nat.le_refl _, Nat.le_refl _⟩
  · rw [if_pos c3] at h
    refine mx_iconst (pc := 7) C dX7_tape_7 (z := (-1)) rfl (by constructor <;> decide) ?_
    rw [← Option.some.inj h]
    exact mx_ireturn (pc := 8) C dX7_tape_8 hOq1 ⟨Nat.le_refl _, Nat.le_refl _⟩

def f_X7_item (p1 : Int) (p2 : Int) (p3 : Int) (M : Mem) : Option (Int × Mem) :=
  (f_X7_isTape p1 M).bind (fun q1 => if q1.1 = 0 then some ((-1), q1.2) else if 0 ≤ p1 ∧ p1 < 6 then if q1.2 (115 + 2 * p1) 0 = (-1) then some ((-11), q1.2) else if 0 ≤ p1 ∧ p1 < 6 then (f_X4_hasPlace (115 + 2 * p1) p2 q1.2).bind (fun q7 => if q7.1 = 0 then some ((-13), q7.2) else if 0 ≤ p1 ∧ p1 < 6 then (f_X4_put (115 + 2 * p1) p2 p3 q7.2).bind (fun q11 => some (1, q11.2)) else none) else none else none)
set_option maxRecDepth 20000 in
set_option maxHeartbeats 4000000 in
theorem m_X7_item {p1 : Int} {p2 : Int} {p3 : Int} {M : Mem} {res : Int × Mem} (hOM : OK M) (h : f_X7_item p1 p2 p3 M = some res) : Mth false yX7_item cX7_item 5 (some .int) 3 0 0 SH [aR 0, aI p1, aI p2, aJ p3] M (some (aI res.1)) SH res.2 (OK res.2) := by
  refine Mth.of (by decide +kernel) (Nat.le_of_ble_eq_true rfl) (fun K B C => ?_)
  show Wx K B _ 0 0 SH 5 M 0 [some (aR 0), some (aI p1), some (aI p2), some (aJ p3), none] []
  unfold f_X7_item at h
  refine mx_iload_n (pc := 0) C dX7_item_0 rfl ?_
  obtain ⟨q1, hq1, h⟩ := of_bd h
  refine mc_S (pc := 1) (as := [aI p1]) (rest := []) (stk2 := [aI q1.1]) C ⟨Nat.le_refl _, Nat.le_refl _⟩ (m_X7_isTape hOM hq1) mi_X7_isTape ms_X7_isTape ml_X7_265 (by omega) rfl (Nat.le_of_ble_eq_true rfl) dX7_item_1 rfl (fun hp2 => ?_)
  have hOq1 : OK q1.2 := hp2.1
  refine mx_if_ne (pc := 4) (tgt := 9) C dX7_item_4 rfl (fun c3 => ?_) (fun c3 => ?_)
  · rw [if_neg c3] at h
    refine mx_aload_n (pc := 9) C dX7_item_9 rfl ?_
    refine mx_getR (pc := 10) (v := 15) C dX7_item_10 so_7 ci_7 (k := 9) (by decide) fl_X7_40 rfl (q := 9) rfl (lay_7_9 hOq1) (by decide) ?_
    refine mx_iload_n (pc := 13) C dX7_item_13 rfl ?_
    obtain ⟨g4, h⟩ := of_gd h
    refine mx_aald (pc := 14) (v := (115 + 2 * p1)) C dX7_item_14 (rfl : shp SH 15 = some (5, 6)) (by decide) g4.1 g4.2 (tape_at hOq1 g4.1 g4.2).1 (tp_pos (tape_at hOq1 g4.1 g4.2).2).1 ?_
    refine mx_getI (pc := 15) C dX7_item_15 (so_4 (tape_at hOq1 g4.1 g4.2).2) ci_4 (k := 0) (by decide) fl_X7_268 rfl (q := 0) rfl ?_
    refine mx_iconst (pc := 18) C dX7_item_18 (z := (-1)) rfl (by constructor <;> decide) ?_
    refine mx_icmp_ne (pc := 19) (tgt := 25) C dX7_item_19 rfl (fun c5 => ?_) (fun c5 => ?_)
    · rw [if_neg c5] at h
      refine mx_aload_n (pc := 25) C dX7_item_25 rfl ?_
      refine mx_getR (pc := 26) (v := 15) C dX7_item_26 so_7 ci_7 (k := 9) (by decide) fl_X7_40 rfl (q := 9) rfl (lay_7_9 hOq1) (by decide) ?_
      refine mx_iload_n (pc := 29) C dX7_item_29 rfl ?_
      obtain ⟨g6, h⟩ := of_gd h
      refine mx_aald (pc := 30) (v := (115 + 2 * p1)) C dX7_item_30 (rfl : shp SH 15 = some (5, 6)) (by decide) g6.1 g6.2 (tape_at hOq1 g6.1 g6.2).1 (tp_pos (tape_at hOq1 g6.1 g6.2).2).1 ?_
      refine mx_iload_n (pc := 31) C dX7_item_31 rfl ?_
      obtain ⟨q7, hq7, h⟩ := of_bd h
      refine mc_V (pc := 32) (as := [aI p2]) (rest := []) (stk2 := [aI q7.1]) C ⟨Nat.le_refl _, Nat.le_refl _⟩ (m_X4_hasPlace hOq1 ((tape_at hOq1 g6.1 g6.2).2) hq7) mi_X4_hasPlace mv_X4_hasPlace ml_X7_301 ci_4 rfl (so_4 (tape_at hOq1 g6.1 g6.2).2) (by omega) rfl (Nat.le_of_ble_eq_true rfl) dX7_item_32 rfl (fun hp8 => ?_)
      have hOq7 : OK q7.2 := hp8.1
      refine mx_if_ne (pc := 35) (tgt := 41) C dX7_item_35 rfl (fun c9 => ?_) (fun c9 => ?_)
      · rw [if_neg c9] at h
        refine mx_aload_n (pc := 41) C dX7_item_41 rfl ?_
        refine mx_getR (pc := 42) (v := 15) C dX7_item_42 so_7 ci_7 (k := 9) (by decide) fl_X7_40 rfl (q := 9) rfl (lay_7_9 hOq7) (by decide) ?_
        refine mx_iload_n (pc := 45) C dX7_item_45 rfl ?_
        obtain ⟨g10, h⟩ := of_gd h
        refine mx_aald (pc := 46) (v := (115 + 2 * p1)) C dX7_item_46 (rfl : shp SH 15 = some (5, 6)) (by decide) g10.1 g10.2 (tape_at hOq7 g10.1 g10.2).1 (tp_pos (tape_at hOq7 g10.1 g10.2).2).1 ?_
        refine mx_iload_n (pc := 47) C dX7_item_47 rfl ?_
        refine mx_lload_n (pc := 48) C dX7_item_48 rfl ?_
        obtain ⟨q11, hq11, h⟩ := of_bd h
        refine mc_V (pc := 49) (as := [aI p2, aJ p3]) (rest := []) (stk2 := []) C ⟨Nat.le_refl _, Nat.le_refl _⟩ (m_X4_put hOq7 ((tape_at hOq7 g10.1 g10.2).2) hq11) mi_X4_put mv_X4_put ml_X7_304 ci_4 rfl (so_4 (tape_at hOq7 g10.1 g10.2).2) (by omega) rfl (Nat.le_of_ble_eq_true rfl) dX7_item_49 rfl (fun hp12 => ?_)
        have hOq11 : OK q11.2 := hp12
        refine mx_iconst (pc := 52) C dX7_item_52 (z := 1) rfl (by constructor <;> decide) ?_
        rw [← Option.some.inj h]
        exact mx_ireturn (pc := 53) C dX7_item_53 hOq11 ⟨Nat.le_refl _, Nat.le_refl _⟩
      · rw [if_pos c9] at h
        refine mx_bipush (pc := 38) C dX7_item_38 (z := (-13)) rfl (by constructor <;> decide) ?_
        rw [← Option.some.inj h]
        exact mx_ireturn (pc := 40) C dX7_item_40 hOq7 ⟨Nat.le_refl _, Nat.le_refl _⟩
    · rw [if_pos c5] at h
      refine mx_bipush (pc := 22) C dX7_item_22 (z := (-11)) rfl (by constructor <;> decide) ?_
      rw [← Option.some.inj h]
      exact mx_ireturn (pc := 24) C dX7_item_24 hOq1 ⟨Nat.le_refl _, Nat.le_refl _⟩
  · rw [if_pos c3] at h
    refine mx_iconst (pc := 7) C dX7_item_7 (z := (-1)) rfl (by constructor <;> decide) ?_
    rw [← Option.some.inj h]
    exact mx_ireturn (pc := 8) C dX7_item_8 hOq1 ⟨Nat.le_refl _, Nat.le_refl _⟩

def f_X7_read (p1 : Int) (p2 : Int) (M : Mem) : Option (Int × Mem) :=
  (f_X7_isTape p1 M).bind (fun q1 => if q1.1 = 0 then some ((-9223372036854775808), q1.2) else if 0 ≤ p1 ∧ p1 < 6 then (f_X4_hasPlace (115 + 2 * p1) p2 q1.2).bind (fun q5 => if q5.1 = 0 then some ((-9223372036854775808), q5.2) else if 0 ≤ p1 ∧ p1 < 6 then if 0 ≤ p2 ∧ p2 < 60 then some (q5.2 ((115 + 2 * p1) + 1) p2, q5.2) else none else none) else none)
set_option maxRecDepth 20000 in
set_option maxHeartbeats 4000000 in
theorem m_X7_read {p1 : Int} {p2 : Int} {M : Mem} {res : Int × Mem} (hOM : OK M) (h : f_X7_read p1 p2 M = some res) : Mth false yX7_read cX7_read 3 (some .long) 3 0 0 SH [aR 0, aI p1, aI p2] M (some (aJ res.1)) SH res.2 (OK res.2) := by
  refine Mth.of (by decide +kernel) (Nat.le_of_ble_eq_true rfl) (fun K B C => ?_)
  show Wx K B _ 0 0 SH 3 M 0 [some (aR 0), some (aI p1), some (aI p2)] []
  unfold f_X7_read at h
  refine mx_iload_n (pc := 0) C dX7_read_0 rfl ?_
  obtain ⟨q1, hq1, h⟩ := of_bd h
  refine mc_S (pc := 1) (as := [aI p1]) (rest := []) (stk2 := [aI q1.1]) C ⟨Nat.le_refl _, Nat.le_refl _⟩ (m_X7_isTape hOM hq1) mi_X7_isTape ms_X7_isTape ml_X7_265 (by omega) rfl (Nat.le_of_ble_eq_true rfl) dX7_read_1 rfl (fun hp2 => ?_)
  have hOq1 : OK q1.2 := hp2.1
  refine mx_if_eq (pc := 4) (tgt := 34) C dX7_read_4 rfl (fun c3 => ?_) (fun c3 => ?_)
  · rw [if_pos c3] at h
    refine mx_ldc2 (pc := 34) C dX7_read_34 kl_X7_238 (by constructor <;> decide) ?_
    rw [← Option.some.inj h]
    exact mx_lreturn (pc := 37) C dX7_read_37 hOq1 ⟨Nat.le_refl _, Nat.le_refl _⟩
  · rw [if_neg c3] at h
    refine mx_aload_n (pc := 7) C dX7_read_7 rfl ?_
    refine mx_getR (pc := 8) (v := 15) C dX7_read_8 so_7 ci_7 (k := 9) (by decide) fl_X7_40 rfl (q := 9) rfl (lay_7_9 hOq1) (by decide) ?_
    refine mx_iload_n (pc := 11) C dX7_read_11 rfl ?_
    obtain ⟨g4, h⟩ := of_gd h
    refine mx_aald (pc := 12) (v := (115 + 2 * p1)) C dX7_read_12 (rfl : shp SH 15 = some (5, 6)) (by decide) g4.1 g4.2 (tape_at hOq1 g4.1 g4.2).1 (tp_pos (tape_at hOq1 g4.1 g4.2).2).1 ?_
    refine mx_iload_n (pc := 13) C dX7_read_13 rfl ?_
    obtain ⟨q5, hq5, h⟩ := of_bd h
    refine mc_V (pc := 14) (as := [aI p2]) (rest := []) (stk2 := [aI q5.1]) C ⟨Nat.le_refl _, Nat.le_refl _⟩ (m_X4_hasPlace hOq1 ((tape_at hOq1 g4.1 g4.2).2) hq5) mi_X4_hasPlace mv_X4_hasPlace ml_X7_301 ci_4 rfl (so_4 (tape_at hOq1 g4.1 g4.2).2) (by omega) rfl (Nat.le_of_ble_eq_true rfl) dX7_read_14 rfl (fun hp6 => ?_)
    have hOq5 : OK q5.2 := hp6.1
    refine mx_if_eq (pc := 17) (tgt := 34) C dX7_read_17 rfl (fun c7 => ?_) (fun c7 => ?_)
    · rw [if_pos c7] at h
      refine mx_ldc2 (pc := 34) C dX7_read_34 kl_X7_238 (by constructor <;> decide) ?_
      rw [← Option.some.inj h]
      exact mx_lreturn (pc := 37) C dX7_read_37 hOq5 ⟨Nat.le_refl _, Nat.le_refl _⟩
    · rw [if_neg c7] at h
      refine mx_aload_n (pc := 20) C dX7_read_20 rfl ?_
      refine mx_getR (pc := 21) (v := 15) C dX7_read_21 so_7 ci_7 (k := 9) (by decide) fl_X7_40 rfl (q := 9) rfl (lay_7_9 hOq5) (by decide) ?_
      refine mx_iload_n (pc := 24) C dX7_read_24 rfl ?_
      obtain ⟨g8, h⟩ := of_gd h
      refine mx_aald (pc := 25) (v := (115 + 2 * p1)) C dX7_read_25 (rfl : shp SH 15 = some (5, 6)) (by decide) g8.1 g8.2 (tape_at hOq5 g8.1 g8.2).1 (tp_pos (tape_at hOq5 g8.1 g8.2).2).1 ?_
      refine mx_getR (pc := 26) (v := (115 + 2 * p1) + 1) C dX7_read_26 (so_4 (tape_at hOq5 g8.1 g8.2).2) ci_4 (k := 2) (by decide) fl_X7_274 rfl (q := 2) rfl (lay_4_2 hOq5 (tape_at hOq5 g8.1 g8.2).2) (by have := tp_pos ((tape_at hOq5 g8.1 g8.2).2); omega) ?_
      refine mx_iload_n (pc := 29) C dX7_read_29 rfl ?_
      obtain ⟨g9, h⟩ := of_gd h
      refine mx_lald (pc := 30) C dX7_read_30 (sh_4_2 (tape_at hOq5 g8.1 g8.2).2) g9.1 g9.2 ?_
      refine mx_goto (pc := 31) (tgt := 37) C dX7_read_31 rfl ?_
      rw [← Option.some.inj h]
      exact mx_lreturn (pc := 37) C dX7_read_37 hOq5 ⟨Nat.le_refl _, Nat.le_refl _⟩

def f_X7_shift (p1 : Int) (p2 : Int) (p3 : Int) (p4 : Int) (p5 : Int) (M : Mem) : Option (Int × Mem) :=
  (f_X7_isTape p1 M).bind (fun q1 => if q1.1 = 0 then some ((-1), q1.2) else (f_X7_isTape p3 q1.2).bind (fun q4 => if q4.1 = 0 then some ((-1), q4.2) else if 0 ≤ p1 ∧ p1 < 6 then if 0 ≤ p3 ∧ p3 < 6 then if q4.2 (115 + 2 * p1) 0 = (-1) then some ((-11), q4.2) else if q4.2 (115 + 2 * p3) 0 = (-1) then some ((-11), q4.2) else if q4.2 (115 + 2 * p1) 0 = q4.2 (115 + 2 * p3) 0 then (f_X4_hasPlaces (115 + 2 * p1) p2 p5 q4.2).bind (fun q12 => if q12.1 = 0 then some ((-13), q12.2) else (f_X4_hasPlaces (115 + 2 * p3) p4 p5 q12.2).bind (fun q15 => if q15.1 = 0 then some ((-13), q15.2) else if (0 : Int) ≤ p2 ∧ (0 : Int) ≤ p4 ∧ (0 : Int) ≤ p5 ∧ (p2 : Int) + p5 ≤ 60 ∧ (p4 : Int) + p5 ≤ 60 then lt (cpM q15.2 ((115 + 2 * p1) + 1) ((115 + 2 * p3) + 1) p2 p4 p5) (fun M19 => some (p5, M19)) else none)) else some ((-12), q4.2) else none else none))
set_option maxRecDepth 20000 in
set_option maxHeartbeats 4000000 in
theorem m_X7_shift {p1 : Int} {p2 : Int} {p3 : Int} {p4 : Int} {p5 : Int} {M : Mem} {res : Int × Mem} (hOM : OK M) (h : f_X7_shift p1 p2 p3 p4 p5 M = some res) : Mth false yX7_shift cX7_shift 8 (some .int) 3 0 0 SH [aR 0, aI p1, aI p2, aI p3, aI p4, aI p5] M (some (aI res.1)) SH res.2 (OK res.2) := by
  refine Mth.of (by decide +kernel) (Nat.le_of_ble_eq_true rfl) (fun K B C => ?_)
  show Wx K B _ 0 0 SH 8 M 0 [some (aR 0), some (aI p1), some (aI p2), some (aI p3), some (aI p4), some (aI p5), none, none] []
  unfold f_X7_shift at h
  refine mx_iload_n (pc := 0) C dX7_shift_0 rfl ?_
  obtain ⟨q1, hq1, h⟩ := of_bd h
  refine mc_S (pc := 1) (as := [aI p1]) (rest := []) (stk2 := [aI q1.1]) C ⟨Nat.le_refl _, Nat.le_refl _⟩ (m_X7_isTape hOM hq1) mi_X7_isTape ms_X7_isTape ml_X7_265 (by omega) rfl (Nat.le_of_ble_eq_true rfl) dX7_shift_1 rfl (fun hp2 => ?_)
  have hOq1 : OK q1.2 := hp2.1
  refine mx_if_eq (pc := 4) (tgt := 14) C dX7_shift_4 rfl (fun c3 => ?_) (fun c3 => ?_)
  · rw [if_pos c3] at h
    refine mx_iconst (pc := 14) C dX7_shift_14 (z := (-1)) rfl (by constructor <;> decide) ?_
    rw [← Option.some.inj h]
    exact mx_ireturn (pc := 15) C dX7_shift_15 hOq1 ⟨Nat.le_refl _, Nat.le_refl _⟩
  · rw [if_neg c3] at h
    refine mx_iload_n (pc := 7) C dX7_shift_7 rfl ?_
    obtain ⟨q4, hq4, h⟩ := of_bd h
    refine mc_S (pc := 8) (as := [aI p3]) (rest := []) (stk2 := [aI q4.1]) C ⟨Nat.le_refl _, Nat.le_refl _⟩ (m_X7_isTape hOq1 hq4) mi_X7_isTape ms_X7_isTape ml_X7_265 (by omega) rfl (Nat.le_of_ble_eq_true rfl) dX7_shift_8 rfl (fun hp5 => ?_)
    have hOq4 : OK q4.2 := hp5.1
    refine mx_if_ne (pc := 11) (tgt := 16) C dX7_shift_11 rfl (fun c6 => ?_) (fun c6 => ?_)
    · rw [if_neg c6] at h
      refine mx_aload_n (pc := 16) C dX7_shift_16 rfl ?_
      refine mx_getR (pc := 17) (v := 15) C dX7_shift_17 so_7 ci_7 (k := 9) (by decide) fl_X7_40 rfl (q := 9) rfl (lay_7_9 hOq4) (by decide) ?_
      refine mx_iload_n (pc := 20) C dX7_shift_20 rfl ?_
      obtain ⟨g7, h⟩ := of_gd h
      refine mx_aald (pc := 21) (v := (115 + 2 * p1)) C dX7_shift_21 (rfl : shp SH 15 = some (5, 6)) (by decide) g7.1 g7.2 (tape_at hOq4 g7.1 g7.2).1 (tp_pos (tape_at hOq4 g7.1 g7.2).2).1 ?_
      refine mx_astore (pc := 22) C dX7_shift_22 (ls' := [some (aR 0), some (aI p1), some (aI p2), some (aI p3), some (aI p4), some (aI p5), some (aR (115 + 2 * p1)), none]) (by decide) rfl rfl ?_
      refine mx_aload_n (pc := 24) C dX7_shift_24 rfl ?_
      refine mx_getR (pc := 25) (v := 15) C dX7_shift_25 so_7 ci_7 (k := 9) (by decide) fl_X7_40 rfl (q := 9) rfl (lay_7_9 hOq4) (by decide) ?_
      refine mx_iload_n (pc := 28) C dX7_shift_28 rfl ?_
      obtain ⟨g8, h⟩ := of_gd h
      refine mx_aald (pc := 29) (v := (115 + 2 * p3)) C dX7_shift_29 (rfl : shp SH 15 = some (5, 6)) (by decide) g8.1 g8.2 (tape_at hOq4 g8.1 g8.2).1 (tp_pos (tape_at hOq4 g8.1 g8.2).2).1 ?_
      refine mx_astore (pc := 30) C dX7_shift_30 (ls' := [some (aR 0), some (aI p1), some (aI p2), some (aI p3), some (aI p4), some (aI p5), some (aR (115 + 2 * p1)), some (aR (115 + 2 * p3))]) (by decide) rfl rfl ?_
      refine mx_aload (pc := 32) C dX7_shift_32 rfl ?_
      refine mx_getI (pc := 34) C dX7_shift_34 (so_4 (tape_at hOq4 g7.1 g7.2).2) ci_4 (k := 0) (by decide) fl_X7_268 rfl (q := 0) rfl ?_
      refine mx_iconst (pc := 37) C dX7_shift_37 (z := (-1)) rfl (by constructor <;> decide) ?_
      refine mx_icmp_eq (pc := 38) (tgt := 50) C dX7_shift_38 rfl (fun c9 => ?_) (fun c9 => ?_)
      · rw [if_pos c9] at h
        refine mx_bipush (pc := 50) C dX7_shift_50 (z := (-11)) rfl (by constructor <;> decide) ?_
        rw [← Option.some.inj h]
        exact mx_ireturn (pc := 52) C dX7_shift_52 hOq4 ⟨Nat.le_refl _, Nat.le_refl _⟩
      · rw [if_neg c9] at h
        refine mx_aload (pc := 41) C dX7_shift_41 rfl ?_
        refine mx_getI (pc := 43) C dX7_shift_43 (so_4 (tape_at hOq4 g8.1 g8.2).2) ci_4 (k := 0) (by decide) fl_X7_268 rfl (q := 0) rfl ?_
        refine mx_iconst (pc := 46) C dX7_shift_46 (z := (-1)) rfl (by constructor <;> decide) ?_
        refine mx_icmp_ne (pc := 47) (tgt := 53) C dX7_shift_47 rfl (fun c10 => ?_) (fun c10 => ?_)
        · rw [if_neg c10] at h
          refine mx_aload (pc := 53) C dX7_shift_53 rfl ?_
          refine mx_getI (pc := 55) C dX7_shift_55 (so_4 (tape_at hOq4 g7.1 g7.2).2) ci_4 (k := 0) (by decide) fl_X7_268 rfl (q := 0) rfl ?_
          refine mx_aload (pc := 58) C dX7_shift_58 rfl ?_
          refine mx_getI (pc := 60) C dX7_shift_60 (so_4 (tape_at hOq4 g8.1 g8.2).2) ci_4 (k := 0) (by decide) fl_X7_268 rfl (q := 0) rfl ?_
          refine mx_icmp_eq (pc := 63) (tgt := 69) C dX7_shift_63 rfl (fun c11 => ?_) (fun c11 => ?_)
          · rw [if_pos c11] at h
            refine mx_aload (pc := 69) C dX7_shift_69 rfl ?_
            refine mx_iload_n (pc := 71) C dX7_shift_71 rfl ?_
            refine mx_iload (pc := 72) C dX7_shift_72 rfl ?_
            obtain ⟨q12, hq12, h⟩ := of_bd h
            refine mc_V (pc := 74) (as := [aI p2, aI p5]) (rest := []) (stk2 := [aI q12.1]) C ⟨Nat.le_refl _, Nat.le_refl _⟩ (m_X4_hasPlaces hOq4 ((tape_at hOq4 g7.1 g7.2).2) hq12) mi_X4_hasPlaces mv_X4_hasPlaces ml_X7_308 ci_4 rfl (so_4 (tape_at hOq4 g7.1 g7.2).2) (by omega) rfl (Nat.le_of_ble_eq_true rfl) dX7_shift_74 rfl (fun hp13 => ?_)
            have hOq12 : OK q12.2 := hp13.1
            refine mx_if_eq (pc := 77) (tgt := 92) C dX7_shift_77 rfl (fun c14 => ?_) (fun c14 => ?_)
            · rw [if_pos c14] at h
              refine mx_bipush (pc := 92) C dX7_shift_92 (z := (-13)) rfl (by constructor <;> decide) ?_
              rw [← Option.some.inj h]
              exact mx_ireturn (pc := 94) C dX7_shift_94 hOq12 ⟨Nat.le_refl _, Nat.le_refl _⟩
            · rw [if_neg c14] at h
              refine mx_aload (pc := 80) C dX7_shift_80 rfl ?_
              refine mx_iload (pc := 82) C dX7_shift_82 rfl ?_
              refine mx_iload (pc := 84) C dX7_shift_84 rfl ?_
              obtain ⟨q15, hq15, h⟩ := of_bd h
              refine mc_V (pc := 86) (as := [aI p4, aI p5]) (rest := []) (stk2 := [aI q15.1]) C ⟨Nat.le_refl _, Nat.le_refl _⟩ (m_X4_hasPlaces hOq12 ((tape_at hOq4 g8.1 g8.2).2) hq15) mi_X4_hasPlaces mv_X4_hasPlaces ml_X7_308 ci_4 rfl (so_4 (tape_at hOq4 g8.1 g8.2).2) (by omega) rfl (Nat.le_of_ble_eq_true rfl) dX7_shift_86 rfl (fun hp16 => ?_)
              have hOq15 : OK q15.2 := hp16.1
              refine mx_if_ne (pc := 89) (tgt := 95) C dX7_shift_89 rfl (fun c17 => ?_) (fun c17 => ?_)
              · rw [if_neg c17] at h
                refine mx_aload (pc := 95) C dX7_shift_95 rfl ?_
                refine mx_getR (pc := 97) (v := (115 + 2 * p1) + 1) C dX7_shift_97 (so_4 (tape_at hOq4 g7.1 g7.2).2) ci_4 (k := 2) (by decide) fl_X7_274 rfl (q := 2) rfl (lay_4_2 hOq15 (tape_at hOq4 g7.1 g7.2).2) (by have := tp_pos ((tape_at hOq4 g7.1 g7.2).2); omega) ?_
                refine mx_iload_n (pc := 100) C dX7_shift_100 rfl ?_
                refine mx_aload (pc := 101) C dX7_shift_101 rfl ?_
                refine mx_getR (pc := 103) (v := (115 + 2 * p3) + 1) C dX7_shift_103 (so_4 (tape_at hOq4 g8.1 g8.2).2) ci_4 (k := 2) (by decide) fl_X7_274 rfl (q := 2) rfl (lay_4_2 hOq15 (tape_at hOq4 g8.1 g8.2).2) (by have := tp_pos ((tape_at hOq4 g8.1 g8.2).2); omega) ?_
                refine mx_iload (pc := 106) C dX7_shift_106 rfl ?_
                refine mx_iload (pc := 108) C dX7_shift_108 rfl ?_
                obtain ⟨g18, h⟩ := of_gd h
                refine mx_copyl (pc := 110) C dX7_shift_110 ml_X7_311 w_copy (sh_4_2 (tape_at hOq4 g7.1 g7.2).2) (sh_4_2 (tape_at hOq4 g8.1 g8.2).2) g18.1 g18.2.1 g18.2.2.1 g18.2.2.2.1 g18.2.2.2.2 (by omega) (Nat.le_of_ble_eq_true rfl) ?_
                generalize hmM19 : cpM q15.2 ((115 + 2 * p1) + 1) ((115 + 2 * p3) + 1) p2 p4 p5 = M19 at h ⊢
                replace h := lt_e h
                have hOM19 : OK M19 := by rw [← hmM19]; exact ok_cp hOq15 (sh_4_2 (tape_at hOq4 g8.1 g8.2).2) (by decide)
                refine mx_iload (pc := 113) C dX7_shift_113 rfl ?_
                rw [← Option.some.inj h]
                exact mx_ireturn (pc := 115) C dX7_shift_115 hOM19 ⟨Nat.le_refl _, Nat.le_refl _⟩
              · rw [if_pos c17] at h
                refine mx_bipush (pc := 92) C dX7_shift_92 (z := (-13)) rfl (by constructor <;> decide) ?_
                rw [← Option.some.inj h]
                exact mx_ireturn (pc := 94) C dX7_shift_94 hOq15 ⟨Nat.le_refl _, Nat.le_refl _⟩
          · rw [if_neg c11] at h
            refine mx_bipush (pc := 66) C dX7_shift_66 (z := (-12)) rfl (by constructor <;> decide) ?_
            rw [← Option.some.inj h]
            exact mx_ireturn (pc := 68) C dX7_shift_68 hOq4 ⟨Nat.le_refl _, Nat.le_refl _⟩
        · rw [if_pos c10] at h
          refine mx_bipush (pc := 50) C dX7_shift_50 (z := (-11)) rfl (by constructor <;> decide) ?_
          rw [← Option.some.inj h]
          exact mx_ireturn (pc := 52) C dX7_shift_52 hOq4 ⟨Nat.le_refl _, Nat.le_refl _⟩
    · rw [if_pos c6] at h
      refine mx_iconst (pc := 14) C dX7_shift_14 (z := (-1)) rfl (by constructor <;> decide) ?_
      rw [← Option.some.inj h]
      exact mx_ireturn (pc := 15) C dX7_shift_15 hOq4 ⟨Nat.le_refl _, Nat.le_refl _⟩
