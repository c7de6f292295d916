def f_X1_has (o : Int) (p1 : Int) (M : Mem) : Option (Int × Mem) :=
  if p1 < 0 then some (0, M) else if M o 0 ≤ p1 then some (0, M) else some (1, M)
set_option maxRecDepth 20000 in
set_option maxHeartbeats 4000000 in
theorem m_X1_has {o : Int} {p1 : Int} {M : Mem} {res : Int × Mem} (hOM : OK M) (ho : isLot o) (h : f_X1_has o p1 M = some res) : Mth false yX1_has cX1_has 2 (some .boolean) 1 0 0 SH [aR o, aI p1] M (some (aI res.1)) SH res.2 (OK res.2 ∧ (res.1 = 0 ∨ res.1 = 1)) := by
  refine Mth.of (by decide +kernel) (Nat.le_of_ble_eq_true rfl) (fun K B C => ?_)
  show Wx K B _ 0 0 SH 2 M 0 [some (aR o), some (aI p1)] []
  unfold f_X1_has at h
  refine mx_iload_n (pc := 0) C dX1_has_0 rfl ?_
  refine mx_if_lt (pc := 1) (tgt := 16) C dX1_has_1 rfl (fun c1 => ?_) (fun c1 => ?_)
  · rw [if_pos c1] at h
    refine mx_iconst (pc := 16) C dX1_has_16 (z := 0) rfl (by constructor <;> decide) ?_
    rw [← Option.some.inj h]
    exact mx_zreturn (pc := 17) C dX1_has_17 (Or.inl rfl) ⟨hOM, (Or.inl rfl)⟩ ⟨Nat.le_refl _, Nat.le_refl _⟩
  · rw [if_neg c1] at h
    refine mx_iload_n (pc := 4) C dX1_has_4 rfl ?_
    refine mx_aload_n (pc := 5) C dX1_has_5 rfl ?_
    refine mx_getI (pc := 6) C dX1_has_6 (so_1 ho) ci_1 (k := 0) (by decide) fl_X1_51 rfl (q := 0) rfl ?_
    refine mx_icmp_ge (pc := 9) (tgt := 16) C dX1_has_9 rfl (fun c2 => ?_) (fun c2 => ?_)
    · rw [if_pos c2] at h
      refine mx_iconst (pc := 16) C dX1_has_16 (z := 0) rfl (by constructor <;> decide) ?_
      rw [← Option.some.inj h]
      exact mx_zreturn (pc := 17) C dX1_has_17 (Or.inl rfl) ⟨hOM, (Or.inl rfl)⟩ ⟨Nat.le_refl _, Nat.le_refl _⟩
    · rw [if_neg c2] at h
      refine mx_iconst (pc := 12) C dX1_has_12 (z := 1) rfl (by constructor <;> decide) ?_
      refine mx_goto (pc := 13) (tgt := 17) C dX1_has_13 rfl ?_
      rw [← Option.some.inj h]
      exact mx_zreturn (pc := 17) C dX1_has_17 (Or.inr rfl) ⟨hOM, (Or.inr rfl)⟩ ⟨Nat.le_refl _, Nat.le_refl _⟩

def f_X1_isLost (o : Int) (p1 : Int) (M : Mem) : Option (Int × Mem) :=
  if 0 ≤ p1 ∧ p1 < 6 then if M (o + 4) p1 = (-1) then some (1, M) else some (0, M) else none
set_option maxRecDepth 20000 in
set_option maxHeartbeats 4000000 in
theorem m_X1_isLost {o : Int} {p1 : Int} {M : Mem} {res : Int × Mem} (hOM : OK M) (ho : isLot o) (h : f_X1_isLost o p1 M = some res) : Mth false yX1_isLost cX1_isLost 2 (some .boolean) 1 0 0 SH [aR o, aI p1] M (some (aI res.1)) SH res.2 (OK res.2 ∧ (res.1 = 0 ∨ res.1 = 1)) := by
  refine Mth.of (by decide +kernel) (Nat.le_of_ble_eq_true rfl) (fun K B C => ?_)
  show Wx K B _ 0 0 SH 2 M 0 [some (aR o), some (aI p1)] []
  unfold f_X1_isLost at h
  refine mx_aload_n (pc := 0) C dX1_isLost_0 rfl ?_
  refine mx_getR (pc := 1) (v := o + 4) C dX1_isLost_1 (so_1 ho) ci_1 (k := 4) (by decide) fl_X1_21 rfl (q := 4) rfl (lay_1_4 hOM ho) (by have := lot_pos ho; omega) ?_
  refine mx_iload_n (pc := 4) C dX1_isLost_4 rfl ?_
  obtain ⟨g1, h⟩ := of_gd h
  refine mx_iald (pc := 5) C dX1_isLost_5 (sh_1_4 ho) g1.1 g1.2 ?_
  refine mx_iconst (pc := 6) C dX1_isLost_6 (z := (-1)) rfl (by constructor <;> decide) ?_
  refine mx_icmp_ne (pc := 7) (tgt := 14) C dX1_isLost_7 rfl (fun c2 => ?_) (fun c2 => ?_)
  · rw [if_neg c2] at h
    refine mx_iconst (pc := 14) C dX1_isLost_14 (z := 0) rfl (by constructor <;> decide) ?_
    rw [← Option.some.inj h]
    exact mx_zreturn (pc := 15) C dX1_isLost_15 (Or.inl rfl) ⟨hOM, (Or.inl rfl)⟩ ⟨Nat.le_refl _, Nat.le_refl _⟩
  · rw [if_pos c2] at h
    refine mx_iconst (pc := 10) C dX1_isLost_10 (z := 1) rfl (by constructor <;> decide) ?_
    refine mx_goto (pc := 11) (tgt := 15) C dX1_isLost_11 rfl ?_
    rw [← Option.some.inj h]
    exact mx_zreturn (pc := 15) C dX1_isLost_15 (Or.inr rfl) ⟨hOM, (Or.inr rfl)⟩ ⟨Nat.le_refl _, Nat.le_refl _⟩

def f_X1_come (o : Int) (p1 : Int) (p2 : Int) (p3 : Int) (p4 : Int) (M : Mem) : Option (Int × Mem) :=
  if 0 ≤ M o 0 ∧ M o 0 < 6 then lt (stM M (o + 1) (M o 0) p1) (fun M2 => if 0 ≤ M2 o 0 ∧ M2 o 0 < 6 then lt (stM M2 (o + 2) (M2 o 0) p2) (fun M4 => if 0 ≤ M4 o 0 ∧ M4 o 0 < 6 then lt (stM M4 (o + 3) (M4 o 0) p3) (fun M6 => if 0 ≤ M6 o 0 ∧ M6 o 0 < 6 then lt (stM M6 (o + 4) (M6 o 0) p4) (fun M8 => lt (stM M8 o 0 (w32 ((M8 o 0) + 1))) (fun M9 => some (w32 ((M9 o 0) - 1), M9))) else none) else none) else none) else none
set_option maxRecDepth 20000 in
set_option maxHeartbeats 4000000 in
theorem m_X1_come {o : Int} {p1 : Int} {p2 : Int} {p3 : Int} {p4 : Int} {M : Mem} {res : Int × Mem} (hOM : OK M) (ho : isLot o) (h : f_X1_come o p1 p2 p3 p4 M = some res) : Mth false yX1_come cX1_come 5 (some .int) 1 0 0 SH [aR o, aI p1, aI p2, aI p3, aI p4] M (some (aI res.1)) SH res.2 (OK res.2) := by
  refine Mth.of (by decide +kernel) (Nat.le_of_ble_eq_true rfl) (fun K B C => ?_)
  show Wx K B _ 0 0 SH 5 M 0 [some (aR o), some (aI p1), some (aI p2), some (aI p3), some (aI p4)] []
  unfold f_X1_come at h
  refine mx_aload_n (pc := 0) C dX1_come_0 rfl ?_
  refine mx_getR (pc := 1) (v := o + 1) C dX1_come_1 (so_1 ho) ci_1 (k := 1) (by decide) fl_X1_9 rfl (q := 1) rfl (lay_1_1 hOM ho) (by have := lot_pos ho; omega) ?_
  refine mx_aload_n (pc := 4) C dX1_come_4 rfl ?_
  refine mx_getI (pc := 5) C dX1_come_5 (so_1 ho) ci_1 (k := 0) (by decide) fl_X1_51 rfl (q := 0) rfl ?_
  refine mx_iload_n (pc := 8) C dX1_come_8 rfl ?_
  obtain ⟨g1, h⟩ := of_gd h
  refine mx_iast (pc := 9) C dX1_come_9 (sh_1_1 ho) g1.1 g1.2 ?_
  generalize hmM2 : stM M (o + 1) (M o 0) p1 = M2 at h ⊢
  replace h := lt_e h
  have hOM2 : OK M2 := by rw [← hmM2]; exact ok_arr hOM (sh_1_1 ho) (by decide)
  refine mx_aload_n (pc := 10) C dX1_come_10 rfl ?_
  refine mx_getR (pc := 11) (v := o + 2) C dX1_come_11 (so_1 ho) ci_1 (k := 2) (by decide) fl_X1_15 rfl (q := 2) rfl (lay_1_2 hOM2 ho) (by have := lot_pos ho; omega) ?_
  refine mx_aload_n (pc := 14) C dX1_come_14 rfl ?_
  refine mx_getI (pc := 15) C dX1_come_15 (so_1 ho) ci_1 (k := 0) (by decide) fl_X1_51 rfl (q := 0) rfl ?_
  refine mx_iload_n (pc := 18) C dX1_come_18 rfl ?_
  obtain ⟨g3, h⟩ := of_gd h
  refine mx_iast (pc := 19) C dX1_come_19 (sh_1_2 ho) g3.1 g3.2 ?_
  generalize hmM4 : stM M2 (o + 2) (M2 o 0) p2 = M4 at h ⊢
  replace h := lt_e h
  have hOM4 : OK M4 := by rw [← hmM4]; exact ok_arr hOM2 (sh_1_2 ho) (by decide)
  refine mx_aload_n (pc := 20) C dX1_come_20 rfl ?_
  refine mx_getR (pc := 21) (v := o + 3) C dX1_come_21 (so_1 ho) ci_1 (k := 3) (by decide) fl_X1_18 rfl (q := 3) rfl (lay_1_3 hOM4 ho) (by have := lot_pos ho; omega) ?_
  refine mx_aload_n (pc := 24) C dX1_come_24 rfl ?_
  refine mx_getI (pc := 25) C dX1_come_25 (so_1 ho) ci_1 (k := 0) (by decide) fl_X1_51 rfl (q := 0) rfl ?_
  refine mx_iload_n (pc := 28) C dX1_come_28 rfl ?_
  obtain ⟨g5, h⟩ := of_gd h
  refine mx_iast (pc := 29) C dX1_come_29 (sh_1_3 ho) g5.1 g5.2 ?_
  generalize hmM6 : stM M4 (o + 3) (M4 o 0) p3 = M6 at h ⊢
  replace h := lt_e h
  have hOM6 : OK M6 := by rw [← hmM6]; exact ok_arr hOM4 (sh_1_3 ho) (by decide)
  refine mx_aload_n (pc := 30) C dX1_come_30 rfl ?_
  refine mx_getR (pc := 31) (v := o + 4) C dX1_come_31 (so_1 ho) ci_1 (k := 4) (by decide) fl_X1_21 rfl (q := 4) rfl (lay_1_4 hOM6 ho) (by have := lot_pos ho; omega) ?_
  refine mx_aload_n (pc := 34) C dX1_come_34 rfl ?_
  refine mx_getI (pc := 35) C dX1_come_35 (so_1 ho) ci_1 (k := 0) (by decide) fl_X1_51 rfl (q := 0) rfl ?_
  refine mx_iload (pc := 38) C dX1_come_38 rfl ?_
  obtain ⟨g7, h⟩ := of_gd h
  refine mx_iast (pc := 40) C dX1_come_40 (sh_1_4 ho) g7.1 g7.2 ?_
  generalize hmM8 : stM M6 (o + 4) (M6 o 0) p4 = M8 at h ⊢
  replace h := lt_e h
  have hOM8 : OK M8 := by rw [← hmM8]; exact ok_arr hOM6 (sh_1_4 ho) (by decide)
  refine mx_aload_n (pc := 41) C dX1_come_41 rfl ?_
  refine mx_dup (pc := 42) C dX1_come_42 rfl ?_
  refine mx_getI (pc := 43) C dX1_come_43 (so_1 ho) ci_1 (k := 0) (by decide) fl_X1_51 rfl (q := 0) rfl ?_
  refine mx_iconst (pc := 46) C dX1_come_46 (z := 1) rfl (by constructor <;> decide) ?_
  refine mx_iadd (pc := 47) C dX1_come_47  ?_
  refine mx_putI (pc := 48) C dX1_come_48 (so_1 ho) ci_1 (k := 0) (by decide) fl_X1_51 (Or.inl rfl) rfl (q := 0) rfl ?_
  generalize hmM9 : stM M8 o 0 (w32 ((M8 o 0) + 1)) = M9 at h ⊢
  replace h := lt_e h
  have hOM9 : OK M9 := by rw [← hmM9]; exact okf_1_0 hOM8 ho
  refine mx_aload_n (pc := 51) C dX1_come_51 rfl ?_
  refine mx_getI (pc := 52) C dX1_come_52 (so_1 ho) ci_1 (k := 0) (by decide) fl_X1_51 rfl (q := 0) rfl ?_
  refine mx_iconst (pc := 55) C dX1_come_55 (z := 1) rfl (by constructor <;> decide) ?_
  refine mx_isub (pc := 56) C dX1_come_56  ?_
  rw [← Option.some.inj h]
  exact mx_ireturn (pc := 57) C dX1_come_57 hOM9 ⟨Nat.le_refl _, Nat.le_refl _⟩

def f_X1_takeSounds (o : Int) (p1 : Int) (M : Mem) : Option (Int × Mem) :=
  lt (stM M o 0 (M p1 0)) (fun M1 => lt (cpM M1 (p1 + 1) (o + 1) 0 0 6) (fun M3 => lt (cpM M3 (p1 + 2) (o + 2) 0 0 6) (fun M5 => lt (cpM M5 (p1 + 3) (o + 3) 0 0 6) (fun M7 => lt (cpM M7 (p1 + 4) (o + 4) 0 0 6) (fun M9 => lt (cpM M9 (p1 + 5) (o + 5) 0 0 24) (fun M11 => lt (stM M11 o 6 (M11 p1 6)) (fun M12 => lt (stM M12 o 7 (M12 p1 7)) (fun M13 => some (0, M13)))))))))
set_option maxRecDepth 20000 in
set_option maxHeartbeats 4000000 in
theorem m_X1_takeSounds {o : Int} {p1 : Int} {M : Mem} {res : Int × Mem} (hOM : OK M) (ho : isLot o) (hp1 : isLot p1) (h : f_X1_takeSounds o p1 M = some res) : Mth false yX1_takeSounds cX1_takeSounds 2 none 1 0 0 SH [aR o, aR p1] M none SH res.2 (OK res.2) := by
  refine Mth.of (by decide +kernel) (Nat.le_of_ble_eq_true rfl) (fun K B C => ?_)
  show Wx K B _ 0 0 SH 2 M 0 [some (aR o), some (aR p1)] []
  unfold f_X1_takeSounds at h
  refine mx_aload_n (pc := 0) C dX1_takeSounds_0 rfl ?_
  refine mx_aload_n (pc := 1) C dX1_takeSounds_1 rfl ?_
  refine mx_getI (pc := 2) C dX1_takeSounds_2 (so_1 hp1) ci_1 (k := 0) (by decide) fl_X1_51 rfl (q := 0) rfl ?_
  refine mx_putI (pc := 5) C dX1_takeSounds_5 (so_1 ho) ci_1 (k := 0) (by decide) fl_X1_51 (Or.inl rfl) rfl (q := 0) rfl ?_
  generalize hmM1 : stM M o 0 (M p1 0) = M1 at h ⊢
  replace h := lt_e h
  have hOM1 : OK M1 := by rw [← hmM1]; exact okf_1_0 hOM ho
  refine mx_aload_n (pc := 8) C dX1_takeSounds_8 rfl ?_
  refine mx_getR (pc := 9) (v := p1 + 1) C dX1_takeSounds_9 (so_1 hp1) ci_1 (k := 1) (by decide) fl_X1_9 rfl (q := 1) rfl (lay_1_1 hOM1 hp1) (by have := lot_pos hp1; omega) ?_
  refine mx_iconst (pc := 12) C dX1_takeSounds_12 (z := 0) rfl (by constructor <;> decide) ?_
  refine mx_aload_n (pc := 13) C dX1_takeSounds_13 rfl ?_
  refine mx_getR (pc := 14) (v := o + 1) C dX1_takeSounds_14 (so_1 ho) ci_1 (k := 1) (by decide) fl_X1_9 rfl (q := 1) rfl (lay_1_1 hOM1 ho) (by have := lot_pos ho; omega) ?_
  refine mx_iconst (pc := 17) C dX1_takeSounds_17 (z := 0) rfl (by constructor <;> decide) ?_
  refine mx_bipush (pc := 18) C dX1_takeSounds_18 (z := 6) rfl (by constructor <;> decide) ?_
  refine mx_copyi (pc := 20) C dX1_takeSounds_20 ml_X1_55 w_copy (sh_1_1 hp1) (sh_1_1 ho) (by decide) (by decide) (by decide) (by decide) (by decide) (by omega) (Nat.le_of_ble_eq_true rfl) ?_
  generalize hmM3 : cpM M1 (p1 + 1) (o + 1) 0 0 6 = M3 at h ⊢
  replace h := lt_e h
  have hOM3 : OK M3 := by rw [← hmM3]; exact ok_cp hOM1 (sh_1_1 ho) (by decide)
  refine mx_aload_n (pc := 23) C dX1_takeSounds_23 rfl ?_
  refine mx_getR (pc := 24) (v := p1 + 2) C dX1_takeSounds_24 (so_1 hp1) ci_1 (k := 2) (by decide) fl_X1_15 rfl (q := 2) rfl (lay_1_2 hOM3 hp1) (by have := lot_pos hp1; omega) ?_
  refine mx_iconst (pc := 27) C dX1_takeSounds_27 (z := 0) rfl (by constructor <;> decide) ?_
  refine mx_aload_n (pc := 28) C dX1_takeSounds_28 rfl ?_
  refine mx_getR (pc := 29) (v := o + 2) C dX1_takeSounds_29 (so_1 ho) ci_1 (k := 2) (by decide) fl_X1_15 rfl (q := 2) rfl (lay_1_2 hOM3 ho) (by have := lot_pos ho; omega) ?_
  refine mx_iconst (pc := 32) C dX1_takeSounds_32 (z := 0) rfl (by constructor <;> decide) ?_
  refine mx_bipush (pc := 33) C dX1_takeSounds_33 (z := 6) rfl (by constructor <;> decide) ?_
  refine mx_copyi (pc := 35) C dX1_takeSounds_35 ml_X1_55 w_copy (sh_1_2 hp1) (sh_1_2 ho) (by decide) (by decide) (by decide) (by decide) (by decide) (by omega) (Nat.le_of_ble_eq_true rfl) ?_
  generalize hmM5 : cpM M3 (p1 + 2) (o + 2) 0 0 6 = M5 at h ⊢
  replace h := lt_e h
  have hOM5 : OK M5 := by rw [← hmM5]; exact ok_cp hOM3 (sh_1_2 ho) (by decide)
  refine mx_aload_n (pc := 38) C dX1_takeSounds_38 rfl ?_
  refine mx_getR (pc := 39) (v := p1 + 3) C dX1_takeSounds_39 (so_1 hp1) ci_1 (k := 3) (by decide) fl_X1_18 rfl (q := 3) rfl (lay_1_3 hOM5 hp1) (by have := lot_pos hp1; omega) ?_
  refine mx_iconst (pc := 42) C dX1_takeSounds_42 (z := 0) rfl (by constructor <;> decide) ?_
  refine mx_aload_n (pc := 43) C dX1_takeSounds_43 rfl ?_
  refine mx_getR (pc := 44) (v := o + 3) C dX1_takeSounds_44 (so_1 ho) ci_1 (k := 3) (by decide) fl_X1_18 rfl (q := 3) rfl (lay_1_3 hOM5 ho) (by have := lot_pos ho; omega) ?_
  refine mx_iconst (pc := 47) C dX1_takeSounds_47 (z := 0) rfl (by constructor <;> decide) ?_
  refine mx_bipush (pc := 48) C dX1_takeSounds_48 (z := 6) rfl (by constructor <;> decide) ?_
  refine mx_copyi (pc := 50) C dX1_takeSounds_50 ml_X1_55 w_copy (sh_1_3 hp1) (sh_1_3 ho) (by decide) (by decide) (by decide) (by decide) (by decide) (by omega) (Nat.le_of_ble_eq_true rfl) ?_
  generalize hmM7 : cpM M5 (p1 + 3) (o + 3) 0 0 6 = M7 at h ⊢
  replace h := lt_e h
  have hOM7 : OK M7 := by rw [← hmM7]; exact ok_cp hOM5 (sh_1_3 ho) (by decide)
  refine mx_aload_n (pc := 53) C dX1_takeSounds_53 rfl ?_
  refine mx_getR (pc := 54) (v := p1 + 4) C dX1_takeSounds_54 (so_1 hp1) ci_1 (k := 4) (by decide) fl_X1_21 rfl (q := 4) rfl (lay_1_4 hOM7 hp1) (by have := lot_pos hp1; omega) ?_
  refine mx_iconst (pc := 57) C dX1_takeSounds_57 (z := 0) rfl (by constructor <;> decide) ?_
  refine mx_aload_n (pc := 58) C dX1_takeSounds_58 rfl ?_
  refine mx_getR (pc := 59) (v := o + 4) C dX1_takeSounds_59 (so_1 ho) ci_1 (k := 4) (by decide) fl_X1_21 rfl (q := 4) rfl (lay_1_4 hOM7 ho) (by have := lot_pos ho; omega) ?_
  refine mx_iconst (pc := 62) C dX1_takeSounds_62 (z := 0) rfl (by constructor <;> decide) ?_
  refine mx_bipush (pc := 63) C dX1_takeSounds_63 (z := 6) rfl (by constructor <;> decide) ?_
  refine mx_copyi (pc := 65) C dX1_takeSounds_65 ml_X1_55 w_copy (sh_1_4 hp1) (sh_1_4 ho) (by decide) (by decide) (by decide) (by decide) (by decide) (by omega) (Nat.le_of_ble_eq_true rfl) ?_
  generalize hmM9 : cpM M7 (p1 + 4) (o + 4) 0 0 6 = M9 at h ⊢
  replace h := lt_e h
  have hOM9 : OK M9 := by rw [← hmM9]; exact ok_cp hOM7 (sh_1_4 ho) (by decide)
  refine mx_aload_n (pc := 68) C dX1_takeSounds_68 rfl ?_
  refine mx_getR (pc := 69) (v := p1 + 5) C dX1_takeSounds_69 (so_1 hp1) ci_1 (k := 5) (by decide) fl_X1_24 rfl (q := 5) rfl (lay_1_5 hOM9 hp1) (by have := lot_pos hp1; omega) ?_
  refine mx_iconst (pc := 72) C dX1_takeSounds_72 (z := 0) rfl (by constructor <;> decide) ?_
  refine mx_aload_n (pc := 73) C dX1_takeSounds_73 rfl ?_
  refine mx_getR (pc := 74) (v := o + 5) C dX1_takeSounds_74 (so_1 ho) ci_1 (k := 5) (by decide) fl_X1_24 rfl (q := 5) rfl (lay_1_5 hOM9 ho) (by have := lot_pos ho; omega) ?_
  refine mx_iconst (pc := 77) C dX1_takeSounds_77 (z := 0) rfl (by constructor <;> decide) ?_
  refine mx_bipush (pc := 78) C dX1_takeSounds_78 (z := 24) rfl (by constructor <;> decide) ?_
  refine mx_copyi (pc := 80) C dX1_takeSounds_80 ml_X1_55 w_copy (sh_1_5 hp1) (sh_1_5 ho) (by decide) (by decide) (by decide) (by decide) (by decide) (by omega) (Nat.le_of_ble_eq_true rfl) ?_
  generalize hmM11 : cpM M9 (p1 + 5) (o + 5) 0 0 24 = M11 at h ⊢
  replace h := lt_e h
  have hOM11 : OK M11 := by rw [← hmM11]; exact ok_cp hOM9 (sh_1_5 ho) (by decide)
  refine mx_aload_n (pc := 83) C dX1_takeSounds_83 rfl ?_
  refine mx_aload_n (pc := 84) C dX1_takeSounds_84 rfl ?_
  refine mx_getI (pc := 85) C dX1_takeSounds_85 (so_1 hp1) ci_1 (k := 6) (by decide) fl_X1_61 rfl (q := 6) rfl ?_
  refine mx_putI (pc := 88) C dX1_takeSounds_88 (so_1 ho) ci_1 (k := 6) (by decide) fl_X1_61 (Or.inl rfl) rfl (q := 6) rfl ?_
  generalize hmM12 : stM M11 o 6 (M11 p1 6) = M12 at h ⊢
  replace h := lt_e h
  have hOM12 : OK M12 := by rw [← hmM12]; exact okf_1_6 hOM11 ho
  refine mx_aload_n (pc := 91) C dX1_takeSounds_91 rfl ?_
  refine mx_aload_n (pc := 92) C dX1_takeSounds_92 rfl ?_
  refine mx_getR (pc := 93) (v := (M12 p1 7)) C dX1_takeSounds_93 (so_1 hp1) ci_1 (k := 7) (by decide) fl_X1_47 rfl (q := 7) rfl rfl (str_pos (str_of hOM12 hp1)).1 ?_
  refine mx_putR (pc := 96) C dX1_takeSounds_96 (so_1 ho) ci_1 (k := 7) (by decide) fl_X1_47 (Or.inl rfl) rfl (str_pos (str_of hOM12 hp1)).1 (str_pos (str_of hOM12 hp1)).2 (q := 7) rfl ?_
  generalize hmM13 : stM M12 o 7 (M12 p1 7) = M13 at h ⊢
  replace h := lt_e h
  have hOM13 : OK M13 := by rw [← hmM13]; exact ok_street hOM12 ho (str_of hOM12 hp1)
  rw [← Option.some.inj h]
  exact mx_return (pc := 99) C dX1_takeSounds_99 hOM13 ⟨Nat.le_refl _, Nat.le_refl _⟩

def f_X1_takeAll (o : Int) (p1 : Int) (M : Mem) : Option (Int × Mem) :=
  (f_X1_takeSounds o p1 M).bind (fun q1 => (f_X2_takeAll (o + 6) (p1 + 6) q1.2).bind (fun q3 => (f_X2_takeAll (o + 10) (p1 + 10) q3.2).bind (fun q5 => (f_X2_takeAll (o + 14) (p1 + 14) q5.2).bind (fun q7 => some (0, q7.2)))))
set_option maxRecDepth 20000 in
set_option maxHeartbeats 4000000 in
theorem m_X1_takeAll {o : Int} {p1 : Int} {M : Mem} {res : Int × Mem} (hOM : OK M) (ho : isLot o) (hp1 : isLot p1) (h : f_X1_takeAll o p1 M = some res) : Mth false yX1_takeAll cX1_takeAll 2 none 2 0 0 SH [aR o, aR p1] M none SH res.2 (OK res.2) := by
  refine Mth.of (by decide +kernel) (Nat.le_of_ble_eq_true rfl) (fun K B C => ?_)
  show Wx K B _ 0 0 SH 2 M 0 [some (aR o), some (aR p1)] []
  unfold f_X1_takeAll at h
  refine mx_aload_n (pc := 0) C dX1_takeAll_0 rfl ?_
  refine mx_aload_n (pc := 1) C dX1_takeAll_1 rfl ?_
  obtain ⟨q1, hq1, h⟩ := of_bd h
  refine mc_V (pc := 2) (as := [aR p1]) (rest := []) (stk2 := []) C ⟨Nat.le_refl _, Nat.le_refl _⟩ (m_X1_takeSounds hOM ho hp1 hq1) mi_X1_takeSounds mv_X1_takeSounds ml_X1_64 ci_1 rfl (so_1 ho) (by omega) rfl (Nat.le_of_ble_eq_true rfl) dX1_takeAll_2 rfl (fun hp2 => ?_)
  have hOq1 : OK q1.2 := hp2
  refine mx_aload_n (pc := 5) C dX1_takeAll_5 rfl ?_
  refine mx_getR (pc := 6) (v := o + 6) C dX1_takeAll_6 (so_1 ho) ci_1 (k := 8) (by decide) fl_X1_32 rfl (q := 8) rfl (lay_1_8 hOq1 ho) (by have := lot_pos ho; omega) ?_
  refine mx_aload_n (pc := 9) C dX1_takeAll_9 rfl ?_
  refine mx_getR (pc := 10) (v := p1 + 6) C dX1_takeAll_10 (so_1 hp1) ci_1 (k := 8) (by decide) fl_X1_32 rfl (q := 8) rfl (lay_1_8 hOq1 hp1) (by have := lot_pos hp1; omega) ?_
  obtain ⟨q3, hq3, h⟩ := of_bd h
  refine mc_V (pc := 13) (as := [aR (p1 + 6)]) (rest := []) (stk2 := []) C ⟨Nat.le_refl _, Nat.le_refl _⟩ (m_X2_takeAll hOq1 (mem_1_8 ho) (mem_1_8 hp1) hq3) mi_X2_takeAll mv_X2_takeAll ml_X1_68 ci_2 rfl (so_2 (mem_1_8 ho)) (by omega) rfl (Nat.le_of_ble_eq_true rfl) dX1_takeAll_13 rfl (fun hp4 => ?_)
  have hOq3 : OK q3.2 := hp4
  refine mx_aload_n (pc := 16) C dX1_takeAll_16 rfl ?_
  refine mx_getR (pc := 17) (v := o + 10) C dX1_takeAll_17 (so_1 ho) ci_1 (k := 9) (by decide) fl_X1_36 rfl (q := 9) rfl (lay_1_9 hOq3 ho) (by have := lot_pos ho; omega) ?_
  refine mx_aload_n (pc := 20) C dX1_takeAll_20 rfl ?_
  refine mx_getR (pc := 21) (v := p1 + 10) C dX1_takeAll_21 (so_1 hp1) ci_1 (k := 9) (by decide) fl_X1_36 rfl (q := 9) rfl (lay_1_9 hOq3 hp1) (by have := lot_pos hp1; omega) ?_
  obtain ⟨q5, hq5, h⟩ := of_bd h
  refine mc_V (pc := 24) (as := [aR (p1 + 10)]) (rest := []) (stk2 := []) C ⟨Nat.le_refl _, Nat.le_refl _⟩ (m_X2_takeAll hOq3 (mem_1_9 ho) (mem_1_9 hp1) hq5) mi_X2_takeAll mv_X2_takeAll ml_X1_68 ci_2 rfl (so_2 (mem_1_9 ho)) (by omega) rfl (Nat.le_of_ble_eq_true rfl) dX1_takeAll_24 rfl (fun hp6 => ?_)
  have hOq5 : OK q5.2 := hp6
  refine mx_aload_n (pc := 27) C dX1_takeAll_27 rfl ?_
  refine mx_getR (pc := 28) (v := o + 14) C dX1_takeAll_28 (so_1 ho) ci_1 (k := 10) (by decide) fl_X1_39 rfl (q := 10) rfl (lay_1_10 hOq5 ho) (by have := lot_pos ho; omega) ?_
  refine mx_aload_n (pc := 31) C dX1_takeAll_31 rfl ?_
  refine mx_getR (pc := 32) (v := p1 + 14) C dX1_takeAll_32 (so_1 hp1) ci_1 (k := 10) (by decide) fl_X1_39 rfl (q := 10) rfl (lay_1_10 hOq5 hp1) (by have := lot_pos hp1; omega) ?_
  obtain ⟨q7, hq7, h⟩ := of_bd h
  refine mc_V (pc := 35) (as := [aR (p1 + 14)]) (rest := []) (stk2 := []) C ⟨Nat.le_refl _, Nat.le_refl _⟩ (m_X2_takeAll hOq5 (mem_1_10 ho) (mem_1_10 hp1) hq7) mi_X2_takeAll mv_X2_takeAll ml_X1_68 ci_2 rfl (so_2 (mem_1_10 ho)) (by omega) rfl (Nat.le_of_ble_eq_true rfl) dX1_takeAll_35 rfl (fun hp8 => ?_)
  have hOq7 : OK q7.2 := hp8
  rw [← Option.some.inj h]
  exact mx_return (pc := 38) C dX1_takeAll_38 hOq7 ⟨Nat.le_refl _, Nat.le_refl _⟩

def f_X1_wears (o : Int) (p1 : Int) (M : Mem) : Option (Int × Mem) :=
  if 0 ≤ p1 ∧ p1 < 6 then if M (o + 1) p1 = 1 then some (w32 (Int.tdiv (M (M o 7) 2) 2), M) else if M (o + 1) p1 = 4 then some (w32 (Int.tdiv (M (M o 7) 2) 2), M) else if M (o + 1) p1 = 6 then if Int.tmod (M o 6) 2 = 0 then some (0, M) else some (M (M o 7) 2, M) else some (M (M o 7) 2, M) else none
set_option maxRecDepth 20000 in
set_option maxHeartbeats 4000000 in
theorem m_X1_wears {o : Int} {p1 : Int} {M : Mem} {res : Int × Mem} (hOM : OK M) (ho : isLot o) (h : f_X1_wears o p1 M = some res) : Mth false yX1_wears cX1_wears 2 (some .int) 1 0 0 SH [aR o, aI p1] M (some (aI res.1)) SH res.2 (OK res.2) := by
  refine Mth.of (by decide +kernel) (Nat.le_of_ble_eq_true rfl) (fun K B C => ?_)
  show Wx K B _ 0 0 SH 2 M 0 [some (aR o), some (aI p1)] []
  unfold f_X1_wears at h
  refine mx_aload_n (pc := 0) C dX1_wears_0 rfl ?_
  refine mx_getR (pc := 1) (v := o + 1) C dX1_wears_1 (so_1 ho) ci_1 (k := 1) (by decide) fl_X1_9 rfl (q := 1) rfl (lay_1_1 hOM ho) (by have := lot_pos ho; omega) ?_
  refine mx_iload_n (pc := 4) C dX1_wears_4 rfl ?_
  obtain ⟨g1, h⟩ := of_gd h
  refine mx_iald (pc := 5) C dX1_wears_5 (sh_1_1 ho) g1.1 g1.2 ?_
  by_cases c2 : M (o + 1) p1 = 1
  · rw [if_pos c2] at h
    refine mx_lsw (pc := 6) (tgt := 40) (off := 34) C dX1_wears_6 (by decide) (by rw [c2]; rfl) rfl ?_
    refine mx_aload_n (pc := 40) C dX1_wears_40 rfl ?_
    refine mx_getR (pc := 41) (v := (M o 7)) C dX1_wears_41 (so_1 ho) ci_1 (k := 7) (by decide) fl_X1_47 rfl (q := 7) rfl rfl (str_pos (str_of hOM ho)).1 ?_
    refine mx_getI (pc := 44) C dX1_wears_44 (so_3 (str_of hOM ho)) ci_3 (k := 2) (by decide) fl_X1_72 rfl (q := 2) rfl ?_
    refine mx_iconst (pc := 47) C dX1_wears_47 (z := 2) rfl (by constructor <;> decide) ?_
    refine mx_idiv (pc := 48) C dX1_wears_48 (by decide) ?_
    rw [← Option.some.inj h]
    exact mx_ireturn (pc := 49) C dX1_wears_49 hOM ⟨Nat.le_refl _, Nat.le_refl _⟩
  · rw [if_neg c2] at h
    by_cases c3 : M (o + 1) p1 = 4
    · rw [if_pos c3] at h
      refine mx_lsw (pc := 6) (tgt := 40) (off := 34) C dX1_wears_6 (by decide) (by rw [c3]; rfl) rfl ?_
      refine mx_aload_n (pc := 40) C dX1_wears_40 rfl ?_
      refine mx_getR (pc := 41) (v := (M o 7)) C dX1_wears_41 (so_1 ho) ci_1 (k := 7) (by decide) fl_X1_47 rfl (q := 7) rfl rfl (str_pos (str_of hOM ho)).1 ?_
      refine mx_getI (pc := 44) C dX1_wears_44 (so_3 (str_of hOM ho)) ci_3 (k := 2) (by decide) fl_X1_72 rfl (q := 2) rfl ?_
      refine mx_iconst (pc := 47) C dX1_wears_47 (z := 2) rfl (by constructor <;> decide) ?_
      refine mx_idiv (pc := 48) C dX1_wears_48 (by decide) ?_
      rw [← Option.some.inj h]
      exact mx_ireturn (pc := 49) C dX1_wears_49 hOM ⟨Nat.le_refl _, Nat.le_refl _⟩
    · rw [if_neg c3] at h
      by_cases c4 : M (o + 1) p1 = 6
      · rw [if_pos c4] at h
        refine mx_lsw (pc := 6) (tgt := 50) (off := 44) C dX1_wears_6 (by decide) (by rw [c4]; rfl) rfl ?_
        refine mx_aload_n (pc := 50) C dX1_wears_50 rfl ?_
        refine mx_getI (pc := 51) C dX1_wears_51 (so_1 ho) ci_1 (k := 6) (by decide) fl_X1_61 rfl (q := 6) rfl ?_
        refine mx_iconst (pc := 54) C dX1_wears_54 (z := 2) rfl (by constructor <;> decide) ?_
        refine mx_irem (pc := 55) C dX1_wears_55 (by decide) ?_
        refine mx_if_ne (pc := 56) (tgt := 63) C dX1_wears_56 rfl (fun c5 => ?_) (fun c5 => ?_)
        · rw [if_neg c5] at h
          refine mx_aload_n (pc := 63) C dX1_wears_63 rfl ?_
          refine mx_getR (pc := 64) (v := (M o 7)) C dX1_wears_64 (so_1 ho) ci_1 (k := 7) (by decide) fl_X1_47 rfl (q := 7) rfl rfl (str_pos (str_of hOM ho)).1 ?_
          refine mx_getI (pc := 67) C dX1_wears_67 (so_3 (str_of hOM ho)) ci_3 (k := 2) (by decide) fl_X1_72 rfl (q := 2) rfl ?_
          rw [← Option.some.inj h]
          exact mx_ireturn (pc := 70) C dX1_wears_70 hOM ⟨Nat.le_refl _, Nat.le_refl _⟩
        · rw [if_pos c5] at h
          refine mx_iconst (pc := 59) C dX1_wears_59 (z := 0) rfl (by constructor <;> decide) ?_
          refine mx_goto (pc := 60) (tgt := 70) C dX1_wears_60 rfl ?_
          rw [← Option.some.inj h]
          exact mx_ireturn (pc := 70) C dX1_wears_70 hOM ⟨Nat.le_refl _, Nat.le_refl _⟩
      · rw [if_neg c4] at h
        refine mx_lsw (pc := 6) (tgt := 71) (off := 65) C dX1_wears_6 (by decide) (by show Op.lookupswitch.offset [(1, 34), (4, 34), (6, 44)] _ _ = _; rw [Op.lookupswitch.offset_cons, if_neg (fun e => c2 e.symm), Op.lookupswitch.offset_cons, if_neg (fun e => c3 e.symm), Op.lookupswitch.offset_cons, if_neg (fun e => c4 e.symm)]; rfl) rfl ?_
        refine mx_aload_n (pc := 71) C dX1_wears_71 rfl ?_
        refine mx_getR (pc := 72) (v := (M o 7)) C dX1_wears_72 (so_1 ho) ci_1 (k := 7) (by decide) fl_X1_47 rfl (q := 7) rfl rfl (str_pos (str_of hOM ho)).1 ?_
        refine mx_getI (pc := 75) C dX1_wears_75 (so_3 (str_of hOM ho)) ci_3 (k := 2) (by decide) fl_X1_72 rfl (q := 2) rfl ?_
        rw [← Option.some.inj h]
        exact mx_ireturn (pc := 78) C dX1_wears_78 hOM ⟨Nat.le_refl _, Nat.le_refl _⟩

def f_X1_goYears_47 (o : Int) (p1 : Int) (k2 : Int → Int → Mem → Option (Int × Mem)) (k9 : Int → Int → Int → Mem → Option (Int × Mem)) (x1 : Int) (x2 : Int) (x3 : Int) (M : Mem) : Option (Int × Mem) :=
  k9 x1 x2 (w32 (x3 + 1)) M
def f_X1_goYears_9 (o : Int) (p1 : Int) (k2 : Int → Int → Mem → Option (Int × Mem)) : Nat → Int → Int → Int → Mem → Option (Int × Mem)
  | 0, _, _, _, _ => none
  | n + 1, x1, x2, x3, M => if M o 0 ≤ x3 then lt (stM M o 6 (w32 ((M o 6) + 1))) (fun M2 => k2 x1 (w32 (x2 + 1)) M2) else (f_X1_isLost o x3 M).bind (fun q3 => if q3.1 = 0 then if 0 ≤ x3 ∧ x3 < 6 then (f_X1_wears o x3 q3.2).bind (fun q7 => if 0 ≤ x3 ∧ x3 < 6 then lt (stM q7.2 (o + 3) x3 (max 0 (w32 ((q3.2 (o + 3) x3) - q7.1)))) (fun M10 => f_X1_goYears_47 o p1 k2 (f_X1_goYears_9 o p1 k2 n) x1 x2 x3 M10) else none) else none else f_X1_goYears_47 o p1 k2 (f_X1_goYears_9 o p1 k2 n) x1 x2 x3 q3.2)
def f_X1_goYears_2 (o : Int) (p1 : Int) : Nat → Int → Int → Mem → Option (Int × Mem)
  | 0, _, _, _ => none
  | n + 1, x1, x2, M => if x1 ≤ x2 then some (0, M) else f_X1_goYears_9 o p1 (f_X1_goYears_2 o p1 n) FU x1 x2 0 M
def f_X1_goYears (o : Int) (p1 : Int) (M : Mem) : Option (Int × Mem) :=
  f_X1_goYears_2 o p1 FU p1 0 M
set_option maxRecDepth 20000 in
set_option maxHeartbeats 4000000 in
theorem b_X1_goYears_47 {K : KX} {B : BX} {res : Int × Mem} {o : Int} {p1 : Int} {k2 : Int → Int → Mem → Option (Int × Mem)} {k9 : Int → Int → Int → Mem → Option (Int × Mem)} (C : Cx K B false yX1_goYears cX1_goYears 4 none 2 0 0) (ho : isLot o) (hk2 : ∀ (x1 : Int) (x2 : Int) (M : Mem), OK M → k2 x1 x2 M = some res → Wx K B (Zr K B none SH res.2 (OK res.2) 0 0) 0 0 SH 4 M 2 [some (aR o), some (aI x1), some (aI x2), none] []) (hk9 : ∀ (x1 : Int) (x2 : Int) (x3 : Int) (M : Mem), OK M → k9 x1 x2 x3 M = some res → Wx K B (Zr K B none SH res.2 (OK res.2) 0 0) 0 0 SH 4 M 9 [some (aR o), some (aI x1), some (aI x2), some (aI x3)] []) : ∀ (x1 : Int) (x2 : Int) (x3 : Int) (M : Mem), OK M → f_X1_goYears_47 o p1 k2 k9 x1 x2 x3 M = some res → Wx K B (Zr K B none SH res.2 (OK res.2) 0 0) 0 0 SH 4 M 47 [some (aR o), some (aI x1), some (aI x2), some (aI x3)] [] := by
  intro x1 x2 x3 M hOM h
  unfold f_X1_goYears_47 at h
  refine mx_iinc (pc := 47) C dX1_goYears_47 (ls' := [some (aR o), some (aI x1), some (aI x2), some (aI (w32 (x3 + 1)))]) rfl (by decide) rfl (by constructor <;> decide) rfl rfl ?_
  refine mx_goto (pc := 50) (tgt := 9) C dX1_goYears_50 rfl ?_
  exact hk9 x1 x2 (w32 (x3 + 1)) M hOM h
set_option maxRecDepth 20000 in
set_option maxHeartbeats 4000000 in
theorem b_X1_goYears_9 {K : KX} {B : BX} {res : Int × Mem} {o : Int} {p1 : Int} {k2 : Int → Int → Mem → Option (Int × Mem)} (C : Cx K B false yX1_goYears cX1_goYears 4 none 2 0 0) (ho : isLot o) (hk2 : ∀ (x1 : Int) (x2 : Int) (M : Mem), OK M → k2 x1 x2 M = some res → Wx K B (Zr K B none SH res.2 (OK res.2) 0 0) 0 0 SH 4 M 2 [some (aR o), some (aI x1), some (aI x2), none] []) : ∀ (n : Nat) (x1 : Int) (x2 : Int) (x3 : Int) (M : Mem), OK M → f_X1_goYears_9 o p1 k2 n x1 x2 x3 M = some res → Wx K B (Zr K B none SH res.2 (OK res.2) 0 0) 0 0 SH 4 M 9 [some (aR o), some (aI x1), some (aI x2), some (aI x3)] [] := by
  intro n
  induction n with
  | zero =>
    intro x1 x2 x3 M hOM h
    cases h
  | succ n ih =>
    intro x1 x2 x3 M hOM h
    rw [f_X1_goYears_9.eq_2] at h
    refine mx_iload_n (pc := 9) C dX1_goYears_9 rfl ?_
    refine mx_aload_n (pc := 10) C dX1_goYears_10 rfl ?_
    refine mx_getI (pc := 11) C dX1_goYears_11 (so_1 ho) ci_1 (k := 0) (by decide) fl_X1_51 rfl (q := 0) rfl ?_
    refine mx_icmp_ge (pc := 14) (tgt := 53) C dX1_goYears_14 rfl (fun c1 => ?_) (fun c1 => ?_)
    · rw [if_pos c1] at h
      refine mx_aload_n (pc := 53) C dX1_goYears_53 rfl ?_
      refine mx_dup (pc := 54) C dX1_goYears_54 rfl ?_
      refine mx_getI (pc := 55) C dX1_goYears_55 (so_1 ho) ci_1 (k := 6) (by decide) fl_X1_61 rfl (q := 6) rfl ?_
      refine mx_iconst (pc := 58) C dX1_goYears_58 (z := 1) rfl (by constructor <;> decide) ?_
      refine mx_iadd (pc := 59) C dX1_goYears_59  ?_
      refine mx_putI (pc := 60) C dX1_goYears_60 (so_1 ho) ci_1 (k := 6) (by decide) fl_X1_61 (Or.inl rfl) rfl (q := 6) rfl ?_
      generalize hmM2 : stM M o 6 (w32 ((M o 6) + 1)) = M2 at h ⊢
      replace h := lt_e h
      have hOM2 : OK M2 := by rw [← hmM2]; exact okf_1_6 hOM ho
      refine mx_iinc (pc := 63) C dX1_goYears_63 (ls' := [some (aR o), some (aI x1), some (aI (w32 (x2 + 1))), some (aI x3)]) rfl (by decide) rfl (by constructor <;> decide) rfl rfl ?_
      refine mx_goto (pc := 66) (tgt := 2) C dX1_goYears_66 rfl ?_
      refine mx_mask [true, true, true, false] (ls' := [some (aR o), some (aI x1), some (aI (w32 (x2 + 1))), none]) rfl rfl ?_
      exact hk2 x1 (w32 (x2 + 1)) M2 hOM2 h
    · rw [if_neg c1] at h
      refine mx_aload_n (pc := 17) C dX1_goYears_17 rfl ?_
      refine mx_iload_n (pc := 18) C dX1_goYears_18 rfl ?_
      obtain ⟨q3, hq3, h⟩ := of_bd h
      refine mc_V (pc := 19) (as := [aI x3]) (rest := []) (stk2 := [aI q3.1]) C ⟨Nat.le_refl _, Nat.le_refl _⟩ (m_X1_isLost hOM ho hq3) mi_X1_isLost mv_X1_isLost ml_X1_75 ci_1 rfl (so_1 ho) (by omega) rfl (Nat.le_of_ble_eq_true rfl) dX1_goYears_19 rfl (fun hp4 => ?_)
      have hOq3 : OK q3.2 := hp4.1
      refine mx_if_ne (pc := 22) (tgt := 47) C dX1_goYears_22 rfl (fun c5 => ?_) (fun c5 => ?_)
      · rw [if_neg c5] at h
        exact b_X1_goYears_47 C ho hk2 ih x1 x2 x3 q3.2 hOq3 h
      · rw [if_pos c5] at h
        refine mx_aload_n (pc := 25) C dX1_goYears_25 rfl ?_
        refine mx_getR (pc := 26) (v := o + 3) C dX1_goYears_26 (so_1 ho) ci_1 (k := 3) (by decide) fl_X1_18 rfl (q := 3) rfl (lay_1_3 hOq3 ho) (by have := lot_pos ho; omega) ?_
        refine mx_iload_n (pc := 29) C dX1_goYears_29 rfl ?_
        refine mx_iconst (pc := 30) C dX1_goYears_30 (z := 0) rfl (by constructor <;> decide) ?_
        refine mx_aload_n (pc := 31) C dX1_goYears_31 rfl ?_
        refine mx_getR (pc := 32) (v := o + 3) C dX1_goYears_32 (so_1 ho) ci_1 (k := 3) (by decide) fl_X1_18 rfl (q := 3) rfl (lay_1_3 hOq3 ho) (by have := lot_pos ho; omega) ?_
        refine mx_iload_n (pc := 35) C dX1_goYears_35 rfl ?_
        obtain ⟨g6, h⟩ := of_gd h
        refine mx_iald (pc := 36) C dX1_goYears_36 (sh_1_3 ho) g6.1 g6.2 ?_
        refine mx_aload_n (pc := 37) C dX1_goYears_37 rfl ?_
        refine mx_iload_n (pc := 38) C dX1_goYears_38 rfl ?_
        obtain ⟨q7, hq7, h⟩ := of_bd h
        refine mc_V (pc := 39) (as := [aI x3]) (rest := [aI (q3.2 (o + 3) x3), aI 0, aI x3, aR (o + 3)]) (stk2 := [aI q7.1, aI (q3.2 (o + 3) x3), aI 0, aI x3, aR (o + 3)]) C ⟨Nat.le_refl _, Nat.le_refl _⟩ (m_X1_wears hOq3 ho hq7) mi_X1_wears mv_X1_wears ml_X1_79 ci_1 rfl (so_1 ho) (by omega) rfl (Nat.le_of_ble_eq_true rfl) dX1_goYears_39 rfl (fun hp8 => ?_)
        have hOq7 : OK q7.2 := hp8
        refine mx_isub (pc := 42) C dX1_goYears_42  ?_
        refine mx_max (pc := 43) C ⟨Nat.le_refl _, Nat.le_refl _⟩ (by omega) (Nat.le_of_ble_eq_true rfl) ml_X1_83 dX1_goYears_43 ?_
        obtain ⟨g9, h⟩ := of_gd h
        refine mx_iast (pc := 46) C dX1_goYears_46 (sh_1_3 ho) g9.1 g9.2 ?_
        generalize hmM10 : stM q7.2 (o + 3) x3 (max 0 (w32 ((q3.2 (o + 3) x3) - q7.1))) = M10 at h ⊢
        replace h := lt_e h
        have hOM10 : OK M10 := by rw [← hmM10]; exact ok_arr hOq7 (sh_1_3 ho) (by decide)
        exact b_X1_goYears_47 C ho hk2 ih x1 x2 x3 M10 hOM10 h
set_option maxRecDepth 20000 in
set_option maxHeartbeats 4000000 in
theorem b_X1_goYears_2 {K : KX} {B : BX} {res : Int × Mem} {o : Int} {p1 : Int} (C : Cx K B false yX1_goYears cX1_goYears 4 none 2 0 0) (ho : isLot o) : ∀ (n : Nat) (x1 : Int) (x2 : Int) (M : Mem), OK M → f_X1_goYears_2 o p1 n x1 x2 M = some res → Wx K B (Zr K B none SH res.2 (OK res.2) 0 0) 0 0 SH 4 M 2 [some (aR o), some (aI x1), some (aI x2), none] [] := by
  intro n
  induction n with
  | zero =>
    intro x1 x2 M hOM h
    cases h
  | succ n ih =>
    intro x1 x2 M hOM h
    rw [f_X1_goYears_2.eq_2] at h
    refine mx_iload_n (pc := 2) C dX1_goYears_2 rfl ?_
    refine mx_iload_n (pc := 3) C dX1_goYears_3 rfl ?_
    refine mx_icmp_ge (pc := 4) (tgt := 69) C dX1_goYears_4 rfl (fun c1 => ?_) (fun c1 => ?_)
    · rw [if_pos c1] at h
      rw [← Option.some.inj h]
      exact mx_return (pc := 69) C dX1_goYears_69 hOM ⟨Nat.le_refl _, Nat.le_refl _⟩
    · rw [if_neg c1] at h
      refine mx_iconst (pc := 7) C dX1_goYears_7 (z := 0) rfl (by constructor <;> decide) ?_
      refine mx_istore_n (pc := 8) C dX1_goYears_8 (ls' := [some (aR o), some (aI x1), some (aI x2), some (aI 0)]) (by decide) rfl rfl ?_
      exact b_X1_goYears_9 C ho ih FU x1 x2 0 M hOM h
set_option maxRecDepth 20000 in
set_option maxHeartbeats 4000000 in
theorem m_X1_goYears {o : Int} {p1 : Int} {M : Mem} {res : Int × Mem} (hOM : OK M) (ho : isLot o) (h : f_X1_goYears o p1 M = some res) : Mth false yX1_goYears cX1_goYears 4 none 2 0 0 SH [aR o, aI p1] M none SH res.2 (OK res.2) := by
  refine Mth.of (by decide +kernel) (Nat.le_of_ble_eq_true rfl) (fun K B C => ?_)
  show Wx K B _ 0 0 SH 4 M 0 [some (aR o), some (aI p1), none, none] []
  unfold f_X1_goYears at h
  refine mx_iconst (pc := 0) C dX1_goYears_0 (z := 0) rfl (by constructor <;> decide) ?_
  refine mx_istore_n (pc := 1) C dX1_goYears_1 (ls' := [some (aR o), some (aI p1), some (aI 0), none]) (by decide) rfl rfl ?_
  exact b_X1_goYears_2 C ho FU p1 0 M hOM h

def f_X1_go_71 (o : Int) (p1 : Int) (p2 : Int) (x1 : Int) (x2 : Int) (M : Mem) : Option (Int × Mem) :=
  if x1 = 3 then if 0 ≤ x2 ∧ x2 < 6 then if M (o + 4) x2 ≤ 0 then some (0, M) else if 0 ≤ x2 ∧ x2 < 6 then if 0 ≤ x2 ∧ x2 < 6 then lt (stM M (o + 4) x2 (w32 ((M (o + 4) x2) - 1))) (fun M6 => some (0, M6)) else none else none else none else some (0, M)
def f_X1_go (o : Int) (p1 : Int) (p2 : Int) (M : Mem) : Option (Int × Mem) :=
  if p1 = 0 then (f_X1_goYears o 1 M).bind (fun q17 => some (0, q17.2)) else (f_X1_has o p2 M).bind (fun q2 => if q2.1 = 0 then some (0, q2.2) else (f_X1_isLost o p2 q2.2).bind (fun q5 => if q5.1 = 0 then if p1 = 1 then if 0 ≤ p2 ∧ p2 < 6 then lt (stM q5.2 (o + 4) p2 (-1)) (fun M16 => some (0, M16)) else none else if p1 = 2 then if 0 ≤ p2 ∧ p2 < 6 then if 4 ≤ q5.2 (o + 4) p2 then f_X1_go_71 o p1 p2 p1 p2 q5.2 else if 0 ≤ p2 ∧ p2 < 6 then if 0 ≤ p2 ∧ p2 < 6 then lt (stM q5.2 (o + 4) p2 (w32 ((q5.2 (o + 4) p2) + 1))) (fun M14 => some (0, M14)) else none else none else none else f_X1_go_71 o p1 p2 p1 p2 q5.2 else some (0, q5.2)))
set_option maxRecDepth 20000 in
set_option maxHeartbeats 4000000 in
theorem b_X1_go_71 {K : KX} {B : BX} {res : Int × Mem} {o : Int} {p1 : Int} {p2 : Int} (C : Cx K B false yX1_go cX1_go 3 none 3 0 0) (ho : isLot o) : ∀ (x1 : Int) (x2 : Int) (M : Mem), OK M → f_X1_go_71 o p1 p2 x1 x2 M = some res → Wx K B (Zr K B none SH res.2 (OK res.2) 0 0) 0 0 SH 3 M 71 [some (aR o), some (aI x1), some (aI x2)] [] := by
  intro x1 x2 M hOM h
  unfold f_X1_go_71 at h
  refine mx_iload_n (pc := 71) C dX1_go_71 rfl ?_
  refine mx_iconst (pc := 72) C dX1_go_72 (z := 3) rfl (by constructor <;> decide) ?_
  refine mx_icmp_ne (pc := 73) (tgt := 95) C dX1_go_73 rfl (fun c1 => ?_) (fun c1 => ?_)
  · rw [if_neg c1] at h
    rw [← Option.some.inj h]
    exact mx_return (pc := 95) C dX1_go_95 hOM ⟨Nat.le_refl _, Nat.le_refl _⟩
  · rw [if_pos c1] at h
    refine mx_aload_n (pc := 76) C dX1_go_76 rfl ?_
    refine mx_getR (pc := 77) (v := o + 4) C dX1_go_77 (so_1 ho) ci_1 (k := 4) (by decide) fl_X1_21 rfl (q := 4) rfl (lay_1_4 hOM ho) (by have := lot_pos ho; omega) ?_
    refine mx_iload_n (pc := 80) C dX1_go_80 rfl ?_
    obtain ⟨g2, h⟩ := of_gd h
    refine mx_iald (pc := 81) C dX1_go_81 (sh_1_4 ho) g2.1 g2.2 ?_
    refine mx_if_le (pc := 82) (tgt := 95) C dX1_go_82 rfl (fun c3 => ?_) (fun c3 => ?_)
    · rw [if_pos c3] at h
      rw [← Option.some.inj h]
      exact mx_return (pc := 95) C dX1_go_95 hOM ⟨Nat.le_refl _, Nat.le_refl _⟩
    · rw [if_neg c3] at h
      refine mx_aload_n (pc := 85) C dX1_go_85 rfl ?_
      refine mx_getR (pc := 86) (v := o + 4) C dX1_go_86 (so_1 ho) ci_1 (k := 4) (by decide) fl_X1_21 rfl (q := 4) rfl (lay_1_4 hOM ho) (by have := lot_pos ho; omega) ?_
      refine mx_iload_n (pc := 89) C dX1_go_89 rfl ?_
      refine mx_dup2 (pc := 90) C dX1_go_90 rfl rfl ?_
      obtain ⟨g4, h⟩ := of_gd h
      refine mx_iald (pc := 91) C dX1_go_91 (sh_1_4 ho) g4.1 g4.2 ?_
      refine mx_iconst (pc := 92) C dX1_go_92 (z := 1) rfl (by constructor <;> decide) ?_
      refine mx_isub (pc := 93) C dX1_go_93  ?_
      obtain ⟨g5, h⟩ := of_gd h
      refine mx_iast (pc := 94) C dX1_go_94 (sh_1_4 ho) g5.1 g5.2 ?_
      generalize hmM6 : stM M (o + 4) x2 (w32 ((M (o + 4) x2) - 1)) = M6 at h ⊢
      replace h := lt_e h
      have hOM6 : OK M6 := by rw [← hmM6]; exact ok_arr hOM (sh_1_4 ho) (by decide)
      rw [← Option.some.inj h]
      exact mx_return (pc := 95) C dX1_go_95 hOM6 ⟨Nat.le_refl _, Nat.le_refl _⟩
set_option maxRecDepth 20000 in
set_option maxHeartbeats 4000000 in
theorem m_X1_go {o : Int} {p1 : Int} {p2 : Int} {M : Mem} {res : Int × Mem} (hOM : OK M) (ho : isLot o) (h : f_X1_go o p1 p2 M = some res) : Mth false yX1_go cX1_go 3 none 3 0 0 SH [aR o, aI p1, aI p2] M none SH res.2 (OK res.2) := by
  refine Mth.of (by decide +kernel) (Nat.le_of_ble_eq_true rfl) (fun K B C => ?_)
  show Wx K B _ 0 0 SH 3 M 0 [some (aR o), some (aI p1), some (aI p2)] []
  unfold f_X1_go at h
  refine mx_iload_n (pc := 0) C dX1_go_0 rfl ?_
  refine mx_if_ne (pc := 1) (tgt := 12) C dX1_go_1 rfl (fun c1 => ?_) (fun c1 => ?_)
  · rw [if_neg c1] at h
    refine mx_aload_n (pc := 12) C dX1_go_12 rfl ?_
    refine mx_iload_n (pc := 13) C dX1_go_13 rfl ?_
    obtain ⟨q2, hq2, h⟩ := of_bd h
    refine mc_V (pc := 14) (as := [aI p2]) (rest := []) (stk2 := [aI q2.1]) C ⟨Nat.le_refl _, Nat.le_refl _⟩ (m_X1_has hOM ho hq2) mi_X1_has mv_X1_has ml_X1_92 ci_1 rfl (so_1 ho) (by omega) rfl (Nat.le_of_ble_eq_true rfl) dX1_go_14 rfl (fun hp3 => ?_)
    have hOq2 : OK q2.2 := hp3.1
    refine mx_if_eq (pc := 17) (tgt := 95) C dX1_go_17 rfl (fun c4 => ?_) (fun c4 => ?_)
    · rw [if_pos c4] at h
      rw [← Option.some.inj h]
      exact mx_return (pc := 95) C dX1_go_95 hOq2 ⟨Nat.le_refl _, Nat.le_refl _⟩
    · rw [if_neg c4] at h
      refine mx_aload_n (pc := 20) C dX1_go_20 rfl ?_
      refine mx_iload_n (pc := 21) C dX1_go_21 rfl ?_
      obtain ⟨q5, hq5, h⟩ := of_bd h
      refine mc_V (pc := 22) (as := [aI p2]) (rest := []) (stk2 := [aI q5.1]) C ⟨Nat.le_refl _, Nat.le_refl _⟩ (m_X1_isLost hOq2 ho hq5) mi_X1_isLost mv_X1_isLost ml_X1_75 ci_1 rfl (so_1 ho) (by omega) rfl (Nat.le_of_ble_eq_true rfl) dX1_go_22 rfl (fun hp6 => ?_)
      have hOq5 : OK q5.2 := hp6.1
      refine mx_if_ne (pc := 25) (tgt := 95) C dX1_go_25 rfl (fun c7 => ?_) (fun c7 => ?_)
      · rw [if_neg c7] at h
        rw [← Option.some.inj h]
        exact mx_return (pc := 95) C dX1_go_95 hOq5 ⟨Nat.le_refl _, Nat.le_refl _⟩
      · rw [if_pos c7] at h
        refine mx_iload_n (pc := 28) C dX1_go_28 rfl ?_
        refine mx_iconst (pc := 29) C dX1_go_29 (z := 1) rfl (by constructor <;> decide) ?_
        refine mx_icmp_ne (pc := 30) (tgt := 43) C dX1_go_30 rfl (fun c8 => ?_) (fun c8 => ?_)
        · rw [if_neg c8] at h
          refine mx_iload_n (pc := 43) C dX1_go_43 rfl ?_
          refine mx_iconst (pc := 44) C dX1_go_44 (z := 2) rfl (by constructor <;> decide) ?_
          refine mx_icmp_ne (pc := 45) (tgt := 71) C dX1_go_45 rfl (fun c9 => ?_) (fun c9 => ?_)
          · rw [if_neg c9] at h
            exact b_X1_go_71 C ho p1 p2 q5.2 hOq5 h
          · rw [if_pos c9] at h
            refine mx_aload_n (pc := 48) C dX1_go_48 rfl ?_
            refine mx_getR (pc := 49) (v := o + 4) C dX1_go_49 (so_1 ho) ci_1 (k := 4) (by decide) fl_X1_21 rfl (q := 4) rfl (lay_1_4 hOq5 ho) (by have := lot_pos ho; omega) ?_
            refine mx_iload_n (pc := 52) C dX1_go_52 rfl ?_
            obtain ⟨g10, h⟩ := of_gd h
            refine mx_iald (pc := 53) C dX1_go_53 (sh_1_4 ho) g10.1 g10.2 ?_
            refine mx_iconst (pc := 54) C dX1_go_54 (z := 4) rfl (by constructor <;> decide) ?_
            refine mx_icmp_ge (pc := 55) (tgt := 71) C dX1_go_55 rfl (fun c11 => ?_) (fun c11 => ?_)
            · rw [if_pos c11] at h
              exact b_X1_go_71 C ho p1 p2 q5.2 hOq5 h
            · rw [if_neg c11] at h
              refine mx_aload_n (pc := 58) C dX1_go_58 rfl ?_
              refine mx_getR (pc := 59) (v := o + 4) C dX1_go_59 (so_1 ho) ci_1 (k := 4) (by decide) fl_X1_21 rfl (q := 4) rfl (lay_1_4 hOq5 ho) (by have := lot_pos ho; omega) ?_
              refine mx_iload_n (pc := 62) C dX1_go_62 rfl ?_
              refine mx_dup2 (pc := 63) C dX1_go_63 rfl rfl ?_
              obtain ⟨g12, h⟩ := of_gd h
              refine mx_iald (pc := 64) C dX1_go_64 (sh_1_4 ho) g12.1 g12.2 ?_
              refine mx_iconst (pc := 65) C dX1_go_65 (z := 1) rfl (by constructor <;> decide) ?_
              refine mx_iadd (pc := 66) C dX1_go_66  ?_
              obtain ⟨g13, h⟩ := of_gd h
              refine mx_iast (pc := 67) C dX1_go_67 (sh_1_4 ho) g13.1 g13.2 ?_
              generalize hmM14 : stM q5.2 (o + 4) p2 (w32 ((q5.2 (o + 4) p2) + 1)) = M14 at h ⊢
              replace h := lt_e h
              have hOM14 : OK M14 := by rw [← hmM14]; exact ok_arr hOq5 (sh_1_4 ho) (by decide)
              refine mx_goto (pc := 68) (tgt := 95) C dX1_go_68 rfl ?_
              rw [← Option.some.inj h]
              exact mx_return (pc := 95) C dX1_go_95 hOM14 ⟨Nat.le_refl _, Nat.le_refl _⟩
        · rw [if_pos c8] at h
          refine mx_aload_n (pc := 33) C dX1_go_33 rfl ?_
          refine mx_getR (pc := 34) (v := o + 4) C dX1_go_34 (so_1 ho) ci_1 (k := 4) (by decide) fl_X1_21 rfl (q := 4) rfl (lay_1_4 hOq5 ho) (by have := lot_pos ho; omega) ?_
          refine mx_iload_n (pc := 37) C dX1_go_37 rfl ?_
          refine mx_iconst (pc := 38) C dX1_go_38 (z := (-1)) rfl (by constructor <;> decide) ?_
          obtain ⟨g15, h⟩ := of_gd h
          refine mx_iast (pc := 39) C dX1_go_39 (sh_1_4 ho) g15.1 g15.2 ?_
          generalize hmM16 : stM q5.2 (o + 4) p2 (-1) = M16 at h ⊢
          replace h := lt_e h
          have hOM16 : OK M16 := by rw [← hmM16]; exact ok_arr hOq5 (sh_1_4 ho) (by decide)
          refine mx_goto (pc := 40) (tgt := 95) C dX1_go_40 rfl ?_
          rw [← Option.some.inj h]
          exact mx_return (pc := 95) C dX1_go_95 hOM16 ⟨Nat.le_refl _, Nat.le_refl _⟩
  · rw [if_pos c1] at h
    refine mx_aload_n (pc := 4) C dX1_go_4 rfl ?_
    refine mx_iconst (pc := 5) C dX1_go_5 (z := 1) rfl (by constructor <;> decide) ?_
    obtain ⟨q17, hq17, h⟩ := of_bd h
    refine mc_V (pc := 6) (as := [aI 1]) (rest := []) (stk2 := []) C ⟨Nat.le_refl _, Nat.le_refl _⟩ (m_X1_goYears hOM ho hq17) mi_X1_goYears mv_X1_goYears ml_X1_89 ci_1 rfl (so_1 ho) (by omega) rfl (Nat.le_of_ble_eq_true rfl) dX1_go_6 rfl (fun hp18 => ?_)
    have hOq17 : OK q17.2 := hp18
    refine mx_goto (pc := 9) (tgt := 95) C dX1_go_9 rfl ?_
    rw [← Option.some.inj h]
    exact mx_return (pc := 95) C dX1_go_95 hOq17 ⟨Nat.le_refl _, Nat.le_refl _⟩

def f_X1_voiceIn_128 (o : Int) (p1 : Int) (p2 : Int) (k87 : Int → Int → Mem → Option (Int × Mem)) (x3 : Int) (x4 : Int) (M : Mem) : Option (Int × Mem) :=
  k87 x3 (w32 (x4 + 1)) M
def f_X1_voiceIn_87 (o : Int) (p1 : Int) (p2 : Int) : Nat → Int → Int → Mem → Option (Int × Mem)
  | 0, _, _, _ => none
  | n + 1, x3, x4, M => if M (M o 7) 3 ≤ x4 then some (max 0 x3, M) else (f_X3_holds (M o 7) x4 (o + 18) M).bind (fun q2 => if q2.1 = 0 then f_X1_voiceIn_128 o p1 p2 (f_X1_voiceIn_87 o p1 p2 n) x3 x4 q2.2 else if 0 ≤ x4 ∧ x4 < 10 then f_X1_voiceIn_128 o p1 p2 (f_X1_voiceIn_87 o p1 p2 n) (w32 (x3 + (q2.2 ((q2.2 o 7) + 1) x4))) x4 q2.2 else none)
def f_X1_voiceIn (o : Int) (p1 : Int) (p2 : Int) (M : Mem) : Option (Int × Mem) :=
  if 0 ≤ p1 ∧ p1 < 6 then if M (o + 3) p1 = 0 then some (0, M) else lt (stM M (o + 18) 0 p1) (fun M3 => lt (stM M3 (o + 18) 1 p2) (fun M4 => if 0 ≤ p1 ∧ p1 < 6 then lt (stM M4 (o + 18) 2 (M4 (o + 1) p1)) (fun M6 => if 0 ≤ p1 ∧ p1 < 6 then lt (stM M6 (o + 18) 3 (M6 (o + 2) p1)) (fun M8 => if 0 ≤ p1 ∧ p1 < 6 then lt (stM M8 (o + 18) 4 (w32 (Int.tdiv (M8 (o + 3) p1) 10))) (fun M10 => lt (stM M10 (o + 18) 5 (Int.tmod (M10 o 6) 10)) (fun M11 => if 0 ≤ p1 ∧ p1 < 6 then f_X1_voiceIn_87 o p1 p2 FU (M11 (o + 3) p1) 0 M11 else none)) else none) else none) else none)) else none
set_option maxRecDepth 20000 in
set_option maxHeartbeats 4000000 in
theorem b_X1_voiceIn_128 {K : KX} {B : BX} {res : Int × Mem} {o : Int} {p1 : Int} {p2 : Int} {k87 : Int → Int → Mem → Option (Int × Mem)} (C : Cx K B false yX1_voiceIn cX1_voiceIn 5 (some .int) 2 0 0) (ho : isLot o) (hk87 : ∀ (x3 : Int) (x4 : Int) (M : Mem), OK M → k87 x3 x4 M = some res → Wx K B (Zr K B (some (aI res.1)) SH res.2 (OK res.2) 0 0) 0 0 SH 5 M 87 [some (aR o), none, none, some (aI x3), some (aI x4)] []) : ∀ (x3 : Int) (x4 : Int) (M : Mem), OK M → f_X1_voiceIn_128 o p1 p2 k87 x3 x4 M = some res → Wx K B (Zr K B (some (aI res.1)) SH res.2 (OK res.2) 0 0) 0 0 SH 5 M 128 [some (aR o), none, none, some (aI x3), some (aI x4)] [] := by
  intro x3 x4 M hOM h
  unfold f_X1_voiceIn_128 at h
  refine mx_iinc (pc := 128) C dX1_voiceIn_128 (ls' := [some (aR o), none, none, some (aI x3), some (aI (w32 (x4 + 1)))]) rfl (by decide) rfl (by constructor <;> decide) rfl rfl ?_
  refine mx_goto (pc := 131) (tgt := 87) C dX1_voiceIn_131 rfl ?_
  exact hk87 x3 (w32 (x4 + 1)) M hOM h
set_option maxRecDepth 20000 in
set_option maxHeartbeats 4000000 in
theorem b_X1_voiceIn_87 {K : KX} {B : BX} {res : Int × Mem} {o : Int} {p1 : Int} {p2 : Int} (C : Cx K B false yX1_voiceIn cX1_voiceIn 5 (some .int) 2 0 0) (ho : isLot o) : ∀ (n : Nat) (x3 : Int) (x4 : Int) (M : Mem), OK M → f_X1_voiceIn_87 o p1 p2 n x3 x4 M = some res → Wx K B (Zr K B (some (aI res.1)) SH res.2 (OK res.2) 0 0) 0 0 SH 5 M 87 [some (aR o), none, none, some (aI x3), some (aI x4)] [] := by
  intro n
  induction n with
  | zero =>
    intro x3 x4 M hOM h
    cases h
  | succ n ih =>
    intro x3 x4 M hOM h
    rw [f_X1_voiceIn_87.eq_2] at h
    refine mx_iload (pc := 87) C dX1_voiceIn_87 rfl ?_
    refine mx_aload_n (pc := 89) C dX1_voiceIn_89 rfl ?_
    refine mx_getR (pc := 90) (v := (M o 7)) C dX1_voiceIn_90 (so_1 ho) ci_1 (k := 7) (by decide) fl_X1_47 rfl (q := 7) rfl rfl (str_pos (str_of hOM ho)).1 ?_
    refine mx_getI (pc := 93) C dX1_voiceIn_93 (so_3 (str_of hOM ho)) ci_3 (k := 3) (by decide) fl_X1_95 rfl (q := 3) rfl ?_
    refine mx_icmp_ge (pc := 96) (tgt := 134) C dX1_voiceIn_96 rfl (fun c1 => ?_) (fun c1 => ?_)
    · rw [if_pos c1] at h
      refine mx_iconst (pc := 134) C dX1_voiceIn_134 (z := 0) rfl (by constructor <;> decide) ?_
      refine mx_iload_n (pc := 135) C dX1_voiceIn_135 rfl ?_
      refine mx_max (pc := 136) C ⟨Nat.le_refl _, Nat.le_refl _⟩ (by omega) (Nat.le_of_ble_eq_true rfl) ml_X1_83 dX1_voiceIn_136 ?_
      rw [← Option.some.inj h]
      exact mx_ireturn (pc := 139) C dX1_voiceIn_139 hOM ⟨Nat.le_refl _, Nat.le_refl _⟩
    · rw [if_neg c1] at h
      refine mx_aload_n (pc := 99) C dX1_voiceIn_99 rfl ?_
      refine mx_getR (pc := 100) (v := (M o 7)) C dX1_voiceIn_100 (so_1 ho) ci_1 (k := 7) (by decide) fl_X1_47 rfl (q := 7) rfl rfl (str_pos (str_of hOM ho)).1 ?_
      refine mx_iload (pc := 103) C dX1_voiceIn_103 rfl ?_
      refine mx_aload_n (pc := 105) C dX1_voiceIn_105 rfl ?_
      refine mx_getR (pc := 106) (v := o + 18) C dX1_voiceIn_106 (so_1 ho) ci_1 (k := 11) (by decide) fl_X1_44 rfl (q := 11) rfl (lay_1_11 hOM ho) (by have := lot_pos ho; omega) ?_
      obtain ⟨q2, hq2, h⟩ := of_bd h
      refine mc_V (pc := 109) (as := [aI x4, aR (o + 18)]) (rest := []) (stk2 := [aI q2.1]) C ⟨Nat.le_refl _, Nat.le_refl _⟩ (m_X3_holds hOM (str_of hOM ho) (sh_1_11 ho) hq2) mi_X3_holds mv_X3_holds ml_X1_98 ci_3 rfl (so_3 (str_of hOM ho)) (by omega) rfl (Nat.le_of_ble_eq_true rfl) dX1_voiceIn_109 rfl (fun hp3 => ?_)
      have hOq2 : OK q2.2 := hp3.1
      refine mx_if_eq (pc := 112) (tgt := 128) C dX1_voiceIn_112 rfl (fun c4 => ?_) (fun c4 => ?_)
      · rw [if_pos c4] at h
        exact b_X1_voiceIn_128 C ho ih x3 x4 q2.2 hOq2 h
      · rw [if_neg c4] at h
        refine mx_iload_n (pc := 115) C dX1_voiceIn_115 rfl ?_
        refine mx_aload_n (pc := 116) C dX1_voiceIn_116 rfl ?_
        refine mx_getR (pc := 117) (v := (q2.2 o 7)) C dX1_voiceIn_117 (so_1 ho) ci_1 (k := 7) (by decide) fl_X1_47 rfl (q := 7) rfl rfl (str_pos (str_of hOq2 ho)).1 ?_
        refine mx_getR (pc := 120) (v := (q2.2 o 7) + 1) C dX1_voiceIn_120 (so_3 (str_of hOq2 ho)) ci_3 (k := 4) (by decide) fl_X1_102 rfl (q := 4) rfl (lay_3_4 hOq2 (str_of hOq2 ho)) (by have := str_pos (str_of hOq2 ho); omega) ?_
        refine mx_iload (pc := 123) C dX1_voiceIn_123 rfl ?_
        obtain ⟨g5, h⟩ := of_gd h
        refine mx_iald (pc := 125) C dX1_voiceIn_125 (sh_3_4 (str_of hOq2 ho)) g5.1 g5.2 ?_
        refine mx_iadd (pc := 126) C dX1_voiceIn_126  ?_
        refine mx_istore_n (pc := 127) C dX1_voiceIn_127 (ls' := [some (aR o), none, none, some (aI (w32 (x3 + (q2.2 ((q2.2 o 7) + 1) x4)))), some (aI x4)]) (by decide) rfl rfl ?_
        exact b_X1_voiceIn_128 C ho ih (w32 (x3 + (q2.2 ((q2.2 o 7) + 1) x4))) x4 q2.2 hOq2 h
set_option maxRecDepth 20000 in
set_option maxHeartbeats 4000000 in
theorem m_X1_voiceIn {o : Int} {p1 : Int} {p2 : Int} {M : Mem} {res : Int × Mem} (hOM : OK M) (ho : isLot o) (h : f_X1_voiceIn o p1 p2 M = some res) : Mth false yX1_voiceIn cX1_voiceIn 5 (some .int) 2 0 0 SH [aR o, aI p1, aI p2] M (some (aI res.1)) SH res.2 (OK res.2) := by
  refine Mth.of (by decide +kernel) (Nat.le_of_ble_eq_true rfl) (fun K B C => ?_)
  show Wx K B _ 0 0 SH 5 M 0 [some (aR o), some (aI p1), some (aI p2), none, none] []
  unfold f_X1_voiceIn at h
  refine mx_aload_n (pc := 0) C dX1_voiceIn_0 rfl ?_
  refine mx_getR (pc := 1) (v := o + 3) C dX1_voiceIn_1 (so_1 ho) ci_1 (k := 3) (by decide) fl_X1_18 rfl (q := 3) rfl (lay_1_3 hOM ho) (by have := lot_pos ho; omega) ?_
  refine mx_iload_n (pc := 4) C dX1_voiceIn_4 rfl ?_
  obtain ⟨g1, h⟩ := of_gd h
  refine mx_iald (pc := 5) C dX1_voiceIn_5 (sh_1_3 ho) g1.1 g1.2 ?_
  refine mx_if_ne (pc := 6) (tgt := 11) C dX1_voiceIn_6 rfl (fun c2 => ?_) (fun c2 => ?_)
  · rw [if_neg c2] at h
    refine mx_aload_n (pc := 11) C dX1_voiceIn_11 rfl ?_
    refine mx_getR (pc := 12) (v := o + 18) C dX1_voiceIn_12 (so_1 ho) ci_1 (k := 11) (by decide) fl_X1_44 rfl (q := 11) rfl (lay_1_11 hOM ho) (by have := lot_pos ho; omega) ?_
    refine mx_iconst (pc := 15) C dX1_voiceIn_15 (z := 0) rfl (by constructor <;> decide) ?_
    refine mx_iload_n (pc := 16) C dX1_voiceIn_16 rfl ?_
    refine mx_iast (pc := 17) C dX1_voiceIn_17 (sh_1_11 ho) (by decide) (by decide) ?_
    generalize hmM3 : stM M (o + 18) 0 p1 = M3 at h ⊢
    replace h := lt_e h
    have hOM3 : OK M3 := by rw [← hmM3]; exact ok_arr hOM (sh_1_11 ho) (by decide)
    refine mx_aload_n (pc := 18) C dX1_voiceIn_18 rfl ?_
    refine mx_getR (pc := 19) (v := o + 18) C dX1_voiceIn_19 (so_1 ho) ci_1 (k := 11) (by decide) fl_X1_44 rfl (q := 11) rfl (lay_1_11 hOM3 ho) (by have := lot_pos ho; omega) ?_
    refine mx_iconst (pc := 22) C dX1_voiceIn_22 (z := 1) rfl (by constructor <;> decide) ?_
    refine mx_iload_n (pc := 23) C dX1_voiceIn_23 rfl ?_
    refine mx_iast (pc := 24) C dX1_voiceIn_24 (sh_1_11 ho) (by decide) (by decide) ?_
    generalize hmM4 : stM M3 (o + 18) 1 p2 = M4 at h ⊢
    replace h := lt_e h
    have hOM4 : OK M4 := by rw [← hmM4]; exact ok_arr hOM3 (sh_1_11 ho) (by decide)
    refine mx_aload_n (pc := 25) C dX1_voiceIn_25 rfl ?_
    refine mx_getR (pc := 26) (v := o + 18) C dX1_voiceIn_26 (so_1 ho) ci_1 (k := 11) (by decide) fl_X1_44 rfl (q := 11) rfl (lay_1_11 hOM4 ho) (by have := lot_pos ho; omega) ?_
    refine mx_iconst (pc := 29) C dX1_voiceIn_29 (z := 2) rfl (by constructor <;> decide) ?_
    refine mx_aload_n (pc := 30) C dX1_voiceIn_30 rfl ?_
    refine mx_getR (pc := 31) (v := o + 1) C dX1_voiceIn_31 (so_1 ho) ci_1 (k := 1) (by decide) fl_X1_9 rfl (q := 1) rfl (lay_1_1 hOM4 ho) (by have := lot_pos ho; omega) ?_
    refine mx_iload_n (pc := 34) C dX1_voiceIn_34 rfl ?_
    obtain ⟨g5, h⟩ := of_gd h
    refine mx_iald (pc := 35) C dX1_voiceIn_35 (sh_1_1 ho) g5.1 g5.2 ?_
    refine mx_iast (pc := 36) C dX1_voiceIn_36 (sh_1_11 ho) (by decide) (by decide) ?_
    generalize hmM6 : stM M4 (o + 18) 2 (M4 (o + 1) p1) = M6 at h ⊢
    replace h := lt_e h
    have hOM6 : OK M6 := by rw [← hmM6]; exact ok_arr hOM4 (sh_1_11 ho) (by decide)
    refine mx_aload_n (pc := 37) C dX1_voiceIn_37 rfl ?_
    refine mx_getR (pc := 38) (v := o + 18) C dX1_voiceIn_38 (so_1 ho) ci_1 (k := 11) (by decide) fl_X1_44 rfl (q := 11) rfl (lay_1_11 hOM6 ho) (by have := lot_pos ho; omega) ?_
    refine mx_iconst (pc := 41) C dX1_voiceIn_41 (z := 3) rfl (by constructor <;> decide) ?_
    refine mx_aload_n (pc := 42) C dX1_voiceIn_42 rfl ?_
    refine mx_getR (pc := 43) (v := o + 2) C dX1_voiceIn_43 (so_1 ho) ci_1 (k := 2) (by decide) fl_X1_15 rfl (q := 2) rfl (lay_1_2 hOM6 ho) (by have := lot_pos ho; omega) ?_
    refine mx_iload_n (pc := 46) C dX1_voiceIn_46 rfl ?_
    obtain ⟨g7, h⟩ := of_gd h
    refine mx_iald (pc := 47) C dX1_voiceIn_47 (sh_1_2 ho) g7.1 g7.2 ?_
    refine mx_iast (pc := 48) C dX1_voiceIn_48 (sh_1_11 ho) (by decide) (by decide) ?_
    generalize hmM8 : stM M6 (o + 18) 3 (M6 (o + 2) p1) = M8 at h ⊢
    replace h := lt_e h
    have hOM8 : OK M8 := by rw [← hmM8]; exact ok_arr hOM6 (sh_1_11 ho) (by decide)
    refine mx_aload_n (pc := 49) C dX1_voiceIn_49 rfl ?_
    refine mx_getR (pc := 50) (v := o + 18) C dX1_voiceIn_50 (so_1 ho) ci_1 (k := 11) (by decide) fl_X1_44 rfl (q := 11) rfl (lay_1_11 hOM8 ho) (by have := lot_pos ho; omega) ?_
    refine mx_iconst (pc := 53) C dX1_voiceIn_53 (z := 4) rfl (by constructor <;> decide) ?_
    refine mx_aload_n (pc := 54) C dX1_voiceIn_54 rfl ?_
    refine mx_getR (pc := 55) (v := o + 3) C dX1_voiceIn_55 (so_1 ho) ci_1 (k := 3) (by decide) fl_X1_18 rfl (q := 3) rfl (lay_1_3 hOM8 ho) (by have := lot_pos ho; omega) ?_
    refine mx_iload_n (pc := 58) C dX1_voiceIn_58 rfl ?_
    obtain ⟨g9, h⟩ := of_gd h
    refine mx_iald (pc := 59) C dX1_voiceIn_59 (sh_1_3 ho) g9.1 g9.2 ?_
    refine mx_bipush (pc := 60) C dX1_voiceIn_60 (z := 10) rfl (by constructor <;> decide) ?_
    refine mx_idiv (pc := 62) C dX1_voiceIn_62 (by decide) ?_
    refine mx_iast (pc := 63) C dX1_voiceIn_63 (sh_1_11 ho) (by decide) (by decide) ?_
    generalize hmM10 : stM M8 (o + 18) 4 (w32 (Int.tdiv (M8 (o + 3) p1) 10)) = M10 at h ⊢
    replace h := lt_e h
    have hOM10 : OK M10 := by rw [← hmM10]; exact ok_arr hOM8 (sh_1_11 ho) (by decide)
    refine mx_aload_n (pc := 64) C dX1_voiceIn_64 rfl ?_
    refine mx_getR (pc := 65) (v := o + 18) C dX1_voiceIn_65 (so_1 ho) ci_1 (k := 11) (by decide) fl_X1_44 rfl (q := 11) rfl (lay_1_11 hOM10 ho) (by have := lot_pos ho; omega) ?_
    refine mx_iconst (pc := 68) C dX1_voiceIn_68 (z := 5) rfl (by constructor <;> decide) ?_
    refine mx_aload_n (pc := 69) C dX1_voiceIn_69 rfl ?_
    refine mx_getI (pc := 70) C dX1_voiceIn_70 (so_1 ho) ci_1 (k := 6) (by decide) fl_X1_61 rfl (q := 6) rfl ?_
    refine mx_bipush (pc := 73) C dX1_voiceIn_73 (z := 10) rfl (by constructor <;> decide) ?_
    refine mx_irem (pc := 75) C dX1_voiceIn_75 (by decide) ?_
    refine mx_iast (pc := 76) C dX1_voiceIn_76 (sh_1_11 ho) (by decide) (by decide) ?_
    generalize hmM11 : stM M10 (o + 18) 5 (Int.tmod (M10 o 6) 10) = M11 at h ⊢
    replace h := lt_e h
    have hOM11 : OK M11 := by rw [← hmM11]; exact ok_arr hOM10 (sh_1_11 ho) (by decide)
    refine mx_aload_n (pc := 77) C dX1_voiceIn_77 rfl ?_
    refine mx_getR (pc := 78) (v := o + 3) C dX1_voiceIn_78 (so_1 ho) ci_1 (k := 3) (by decide) fl_X1_18 rfl (q := 3) rfl (lay_1_3 hOM11 ho) (by have := lot_pos ho; omega) ?_
    refine mx_iload_n (pc := 81) C dX1_voiceIn_81 rfl ?_
    obtain ⟨g12, h⟩ := of_gd h
    refine mx_iald (pc := 82) C dX1_voiceIn_82 (sh_1_3 ho) g12.1 g12.2 ?_
    refine mx_istore_n (pc := 83) C dX1_voiceIn_83 (ls' := [some (aR o), some (aI p1), some (aI p2), some (aI (M11 (o + 3) p1)), none]) (by decide) rfl rfl ?_
    refine mx_iconst (pc := 84) C dX1_voiceIn_84 (z := 0) rfl (by constructor <;> decide) ?_
    refine mx_istore (pc := 85) C dX1_voiceIn_85 (ls' := [some (aR o), some (aI p1), some (aI p2), some (aI (M11 (o + 3) p1)), some (aI 0)]) (by decide) rfl rfl ?_
    refine mx_mask [true, false, false, true, true] (ls' := [some (aR o), none, none, some (aI (M11 (o + 3) p1)), some (aI 0)]) rfl rfl ?_
    exact b_X1_voiceIn_87 C ho FU (M11 (o + 3) p1) 0 M11 hOM11 h
  · rw [if_pos c2] at h
    refine mx_iconst (pc := 9) C dX1_voiceIn_9 (z := 0) rfl (by constructor <;> decide) ?_
    rw [← Option.some.inj h]
    exact mx_ireturn (pc := 10) C dX1_voiceIn_10 hOM ⟨Nat.le_refl _, Nat.le_refl _⟩

def f_X1_heard_65 (o : Int) (p1 : Int) (p2 : Int) (p3 : Int) (p4 : Int) (x1 : Int) (x3 : Int) (x4 : Int) (x5 : Int) (x6 : Int) (x7 : Int) (t0 : Int) (M : Mem) : Option (Int × Mem) :=
  if 0 ≤ x1 ∧ x1 < 6 then if M (o + 1) x1 = 2 then some (t0, M) else if M (o + 1) x1 = 3 then some (x7, M) else if M (o + 1) x1 = 4 then if x5 = 0 then some (x6, M) else some (0, M) else if M (o + 1) x1 = 5 then if x3 ≤ x4 then some (t0, M) else if 0 ≤ x1 ∧ x1 < 6 then some (w32 (t0 + (M (o + 2) x1)), M) else none else if M (o + 1) x1 = 6 then if x5 = 0 then if 0 ≤ w32 ((w32 (x1 * 4)) + (Int.tmod (M o 6) 4)) ∧ w32 ((w32 (x1 * 4)) + (Int.tmod (M o 6) 4)) < 24 then some (w32 (x7 + (M (o + 5) (w32 ((w32 (x1 * 4)) + (Int.tmod (M o 6) 4))))), M) else none else some (x7, M) else some (x6, M) else none
def f_X1_heard (o : Int) (p1 : Int) (p2 : Int) (p3 : Int) (p4 : Int) (M : Mem) : Option (Int × Mem) :=
  if Int.tmod (M o 6) 2 = 0 then f_X1_heard_65 o p1 p2 p3 p4 p1 p3 p4 (ab32 (w32 (p3 - p4))) (max 0 (w32 (p2 - (w32 ((M (M o 7) 0) * (ab32 (w32 (p3 - p4)))))))) (max 0 (w32 (p2 - (w32 ((w32 (Int.tdiv (M (M o 7) 0) 2)) * (ab32 (w32 (p3 - p4)))))))) (w32 (Int.tdiv (max 0 (w32 (p2 - (w32 ((M (M o 7) 0) * (ab32 (w32 (p3 - p4)))))))) 2)) M else f_X1_heard_65 o p1 p2 p3 p4 p1 p3 p4 (ab32 (w32 (p3 - p4))) (max 0 (w32 (p2 - (w32 ((M (M o 7) 0) * (ab32 (w32 (p3 - p4)))))))) (max 0 (w32 (p2 - (w32 ((w32 (Int.tdiv (M (M o 7) 0) 2)) * (ab32 (w32 (p3 - p4)))))))) (max 0 (w32 (p2 - (w32 ((M (M o 7) 0) * (ab32 (w32 (p3 - p4)))))))) M
set_option maxRecDepth 20000 in
set_option maxHeartbeats 4000000 in
theorem b_X1_heard_65 {K : KX} {B : BX} {res : Int × Mem} {o : Int} {p1 : Int} {p2 : Int} {p3 : Int} {p4 : Int} (C : Cx K B false yX1_heard cX1_heard 9 (some .int) 1 0 0) (ho : isLot o) : ∀ (x1 : Int) (x3 : Int) (x4 : Int) (x5 : Int) (x6 : Int) (x7 : Int) (t0 : Int) (M : Mem), OK M → f_X1_heard_65 o p1 p2 p3 p4 x1 x3 x4 x5 x6 x7 t0 M = some res → Wx K B (Zr K B (some (aI res.1)) SH res.2 (OK res.2) 0 0) 0 0 SH 9 M 65 [some (aR o), some (aI x1), none, some (aI x3), some (aI x4), some (aI x5), some (aI x6), some (aI x7), none] [aI t0] := by
  intro x1 x3 x4 x5 x6 x7 t0 M hOM h
  unfold f_X1_heard_65 at h
  refine mx_istore (pc := 65) C dX1_heard_65 (ls' := [some (aR o), some (aI x1), none, some (aI x3), some (aI x4), some (aI x5), some (aI x6), some (aI x7), some (aI t0)]) (by decide) rfl rfl ?_
  refine mx_aload_n (pc := 67) C dX1_heard_67 rfl ?_
  refine mx_getR (pc := 68) (v := o + 1) C dX1_heard_68 (so_1 ho) ci_1 (k := 1) (by decide) fl_X1_9 rfl (q := 1) rfl (lay_1_1 hOM ho) (by have := lot_pos ho; omega) ?_
  refine mx_iload_n (pc := 71) C dX1_heard_71 rfl ?_
  obtain ⟨g1, h⟩ := of_gd h
  refine mx_iald (pc := 72) C dX1_heard_72 (sh_1_1 ho) g1.1 g1.2 ?_
  by_cases c2 : M (o + 1) x1 = 2
  · rw [if_pos c2] at h
    refine mx_tin (pc := 73) (tgt := 108) C 2 dX1_heard_73 c2 (by decide) (by decide) rfl rfl ?_
    refine mx_iload (pc := 108) C dX1_heard_108 rfl ?_
    rw [← Option.some.inj h]
    exact mx_ireturn (pc := 110) C dX1_heard_110 hOM ⟨Nat.le_refl _, Nat.le_refl _⟩
  · rw [if_neg c2] at h
    by_cases c3 : M (o + 1) x1 = 3
    · rw [if_pos c3] at h
      refine mx_tin (pc := 73) (tgt := 111) C 3 dX1_heard_73 c3 (by decide) (by decide) rfl rfl ?_
      refine mx_iload (pc := 111) C dX1_heard_111 rfl ?_
      rw [← Option.some.inj h]
      exact mx_ireturn (pc := 113) C dX1_heard_113 hOM ⟨Nat.le_refl _, Nat.le_refl _⟩
    · rw [if_neg c3] at h
      by_cases c4 : M (o + 1) x1 = 4
      · rw [if_pos c4] at h
        refine mx_tin (pc := 73) (tgt := 114) C 4 dX1_heard_73 c4 (by decide) (by decide) rfl rfl ?_
        refine mx_iload (pc := 114) C dX1_heard_114 rfl ?_
        refine mx_if_ne (pc := 116) (tgt := 124) C dX1_heard_116 rfl (fun c5 => ?_) (fun c5 => ?_)
        · rw [if_neg c5] at h
          refine mx_iconst (pc := 124) C dX1_heard_124 (z := 0) rfl (by constructor <;> decide) ?_
          rw [← Option.some.inj h]
          exact mx_ireturn (pc := 125) C dX1_heard_125 hOM ⟨Nat.le_refl _, Nat.le_refl _⟩
        · rw [if_pos c5] at h
          refine mx_iload (pc := 119) C dX1_heard_119 rfl ?_
          refine mx_goto (pc := 121) (tgt := 125) C dX1_heard_121 rfl ?_
          rw [← Option.some.inj h]
          exact mx_ireturn (pc := 125) C dX1_heard_125 hOM ⟨Nat.le_refl _, Nat.le_refl _⟩
      · rw [if_neg c4] at h
        by_cases c6 : M (o + 1) x1 = 5
        · rw [if_pos c6] at h
          refine mx_tin (pc := 73) (tgt := 126) C 5 dX1_heard_73 c6 (by decide) (by decide) rfl rfl ?_
          refine mx_iload (pc := 126) C dX1_heard_126 rfl ?_
          refine mx_iload_n (pc := 128) C dX1_heard_128 rfl ?_
          refine mx_icmp_ge (pc := 129) (tgt := 144) C dX1_heard_129 rfl (fun c7 => ?_) (fun c7 => ?_)
          · rw [if_pos c7] at h
            refine mx_iload (pc := 144) C dX1_heard_144 rfl ?_
            rw [← Option.some.inj h]
            exact mx_ireturn (pc := 146) C dX1_heard_146 hOM ⟨Nat.le_refl _, Nat.le_refl _⟩
          · rw [if_neg c7] at h
            refine mx_iload (pc := 132) C dX1_heard_132 rfl ?_
            refine mx_aload_n (pc := 134) C dX1_heard_134 rfl ?_
            refine mx_getR (pc := 135) (v := o + 2) C dX1_heard_135 (so_1 ho) ci_1 (k := 2) (by decide) fl_X1_15 rfl (q := 2) rfl (lay_1_2 hOM ho) (by have := lot_pos ho; omega) ?_
            refine mx_iload_n (pc := 138) C dX1_heard_138 rfl ?_
            obtain ⟨g8, h⟩ := of_gd h
            refine mx_iald (pc := 139) C dX1_heard_139 (sh_1_2 ho) g8.1 g8.2 ?_
            refine mx_iadd (pc := 140) C dX1_heard_140  ?_
            refine mx_goto (pc := 141) (tgt := 146) C dX1_heard_141 rfl ?_
            rw [← Option.some.inj h]
            exact mx_ireturn (pc := 146) C dX1_heard_146 hOM ⟨Nat.le_refl _, Nat.le_refl _⟩
        · rw [if_neg c6] at h
          by_cases c9 : M (o + 1) x1 = 6
          · rw [if_pos c9] at h
            refine mx_tin (pc := 73) (tgt := 147) C 6 dX1_heard_73 c9 (by decide) (by decide) rfl rfl ?_
            refine mx_iload (pc := 147) C dX1_heard_147 rfl ?_
            refine mx_if_ne (pc := 149) (tgt := 173) C dX1_heard_149 rfl (fun c10 => ?_) (fun c10 => ?_)
            · rw [if_neg c10] at h
              refine mx_iload (pc := 173) C dX1_heard_173 rfl ?_
              rw [← Option.some.inj h]
              exact mx_ireturn (pc := 175) C dX1_heard_175 hOM ⟨Nat.le_refl _, Nat.le_refl _⟩
            · rw [if_pos c10] at h
              refine mx_iload (pc := 152) C dX1_heard_152 rfl ?_
              refine mx_aload_n (pc := 154) C dX1_heard_154 rfl ?_
              refine mx_getR (pc := 155) (v := o + 5) C dX1_heard_155 (so_1 ho) ci_1 (k := 5) (by decide) fl_X1_24 rfl (q := 5) rfl (lay_1_5 hOM ho) (by have := lot_pos ho; omega) ?_
              refine mx_iload_n (pc := 158) C dX1_heard_158 rfl ?_
              refine mx_iconst (pc := 159) C dX1_heard_159 (z := 4) rfl (by constructor <;> decide) ?_
              refine mx_imul (pc := 160) C dX1_heard_160  ?_
              refine mx_aload_n (pc := 161) C dX1_heard_161 rfl ?_
              refine mx_getI (pc := 162) C dX1_heard_162 (so_1 ho) ci_1 (k := 6) (by decide) fl_X1_61 rfl (q := 6) rfl ?_
              refine mx_iconst (pc := 165) C dX1_heard_165 (z := 4) rfl (by constructor <;> decide) ?_
              refine mx_irem (pc := 166) C dX1_heard_166 (by decide) ?_
              refine mx_iadd (pc := 167) C dX1_heard_167  ?_
              obtain ⟨g11, h⟩ := of_gd h
              refine mx_iald (pc := 168) C dX1_heard_168 (sh_1_5 ho) g11.1 g11.2 ?_
              refine mx_iadd (pc := 169) C dX1_heard_169  ?_
              refine mx_goto (pc := 170) (tgt := 175) C dX1_heard_170 rfl ?_
              rw [← Option.some.inj h]
              exact mx_ireturn (pc := 175) C dX1_heard_175 hOM ⟨Nat.le_refl _, Nat.le_refl _⟩
          · rw [if_neg c9] at h
            refine mx_tout (pc := 73) (tgt := 176) C dX1_heard_73 (by omega) rfl ?_
            refine mx_iload (pc := 176) C dX1_heard_176 rfl ?_
            rw [← Option.some.inj h]
            exact mx_ireturn (pc := 178) C dX1_heard_178 hOM ⟨Nat.le_refl _, Nat.le_refl _⟩
set_option maxRecDepth 20000 in
set_option maxHeartbeats 4000000 in
theorem m_X1_heard {o : Int} {p1 : Int} {p2 : Int} {p3 : Int} {p4 : Int} {M : Mem} {res : Int × Mem} (hOM : OK M) (ho : isLot o) (h : f_X1_heard o p1 p2 p3 p4 M = some res) : Mth false yX1_heard cX1_heard 9 (some .int) 1 0 0 SH [aR o, aI p1, aI p2, aI p3, aI p4] M (some (aI res.1)) SH res.2 (OK res.2) := by
  refine Mth.of (by decide +kernel) (Nat.le_of_ble_eq_true rfl) (fun K B C => ?_)
  show Wx K B _ 0 0 SH 9 M 0 [some (aR o), some (aI p1), some (aI p2), some (aI p3), some (aI p4), none, none, none, none] []
  unfold f_X1_heard at h
  refine mx_iload_n (pc := 0) C dX1_heard_0 rfl ?_
  refine mx_iload (pc := 1) C dX1_heard_1 rfl ?_
  refine mx_isub (pc := 3) C dX1_heard_3  ?_
  refine mx_abs (pc := 4) C ⟨Nat.le_refl _, Nat.le_refl _⟩ (by omega) (Nat.le_of_ble_eq_true rfl) ml_X1_105 dX1_heard_4 ?_
  refine mx_istore (pc := 7) C dX1_heard_7 (ls' := [some (aR o), some (aI p1), some (aI p2), some (aI p3), some (aI p4), some (aI (ab32 (w32 (p3 - p4)))), none, none, none]) (by decide) rfl rfl ?_
  refine mx_iconst (pc := 9) C dX1_heard_9 (z := 0) rfl (by constructor <;> decide) ?_
  refine mx_iload_n (pc := 10) C dX1_heard_10 rfl ?_
  refine mx_aload_n (pc := 11) C dX1_heard_11 rfl ?_
  refine mx_getR (pc := 12) (v := (M o 7)) C dX1_heard_12 (so_1 ho) ci_1 (k := 7) (by decide) fl_X1_47 rfl (q := 7) rfl rfl (str_pos (str_of hOM ho)).1 ?_
  refine mx_getI (pc := 15) C dX1_heard_15 (so_3 (str_of hOM ho)) ci_3 (k := 0) (by decide) fl_X1_108 rfl (q := 0) rfl ?_
  refine mx_iload (pc := 18) C dX1_heard_18 rfl ?_
  refine mx_imul (pc := 20) C dX1_heard_20  ?_
  refine mx_isub (pc := 21) C dX1_heard_21  ?_
  refine mx_max (pc := 22) C ⟨Nat.le_refl _, Nat.le_refl _⟩ (by omega) (Nat.le_of_ble_eq_true rfl) ml_X1_83 dX1_heard_22 ?_
  refine mx_istore (pc := 25) C dX1_heard_25 (ls' := [some (aR o), some (aI p1), some (aI p2), some (aI p3), some (aI p4), some (aI (ab32 (w32 (p3 - p4)))), some (aI (max 0 (w32 (p2 - (w32 ((M (M o 7) 0) * (ab32 (w32 (p3 - p4))))))))), none, none]) (by decide) rfl rfl ?_
  refine mx_iconst (pc := 27) C dX1_heard_27 (z := 0) rfl (by constructor <;> decide) ?_
  refine mx_iload_n (pc := 28) C dX1_heard_28 rfl ?_
  refine mx_aload_n (pc := 29) C dX1_heard_29 rfl ?_
  refine mx_getR (pc := 30) (v := (M o 7)) C dX1_heard_30 (so_1 ho) ci_1 (k := 7) (by decide) fl_X1_47 rfl (q := 7) rfl rfl (str_pos (str_of hOM ho)).1 ?_
  refine mx_getI (pc := 33) C dX1_heard_33 (so_3 (str_of hOM ho)) ci_3 (k := 0) (by decide) fl_X1_108 rfl (q := 0) rfl ?_
  refine mx_iconst (pc := 36) C dX1_heard_36 (z := 2) rfl (by constructor <;> decide) ?_
  refine mx_idiv (pc := 37) C dX1_heard_37 (by decide) ?_
  refine mx_iload (pc := 38) C dX1_heard_38 rfl ?_
  refine mx_imul (pc := 40) C dX1_heard_40  ?_
  refine mx_isub (pc := 41) C dX1_heard_41  ?_
  refine mx_max (pc := 42) C ⟨Nat.le_refl _, Nat.le_refl _⟩ (by omega) (Nat.le_of_ble_eq_true rfl) ml_X1_83 dX1_heard_42 ?_
  refine mx_istore (pc := 45) C dX1_heard_45 (ls' := [some (aR o), some (aI p1), some (aI p2), some (aI p3), some (aI p4), some (aI (ab32 (w32 (p3 - p4)))), some (aI (max 0 (w32 (p2 - (w32 ((M (M o 7) 0) * (ab32 (w32 (p3 - p4))))))))), some (aI (max 0 (w32 (p2 - (w32 ((w32 (Int.tdiv (M (M o 7) 0) 2)) * (ab32 (w32 (p3 - p4))))))))), none]) (by decide) rfl rfl ?_
  refine mx_aload_n (pc := 47) C dX1_heard_47 rfl ?_
  refine mx_getI (pc := 48) C dX1_heard_48 (so_1 ho) ci_1 (k := 6) (by decide) fl_X1_61 rfl (q := 6) rfl ?_
  refine mx_iconst (pc := 51) C dX1_heard_51 (z := 2) rfl (by constructor <;> decide) ?_
  refine mx_irem (pc := 52) C dX1_heard_52 (by decide) ?_
  refine mx_if_ne (pc := 53) (tgt := 63) C dX1_heard_53 rfl (fun c1 => ?_) (fun c1 => ?_)
  · rw [if_neg c1] at h
    refine mx_iload (pc := 63) C dX1_heard_63 rfl ?_
    refine mx_mask [true, true, false, true, true, true, true, true, false] (ls' := [some (aR o), some (aI p1), none, some (aI p3), some (aI p4), some (aI (ab32 (w32 (p3 - p4)))), some (aI (max 0 (w32 (p2 - (w32 ((M (M o 7) 0) * (ab32 (w32 (p3 - p4))))))))), some (aI (max 0 (w32 (p2 - (w32 ((w32 (Int.tdiv (M (M o 7) 0) 2)) * (ab32 (w32 (p3 - p4))))))))), none]) rfl rfl ?_
    exact b_X1_heard_65 C ho p1 p3 p4 (ab32 (w32 (p3 - p4))) (max 0 (w32 (p2 - (w32 ((M (M o 7) 0) * (ab32 (w32 (p3 - p4)))))))) (max 0 (w32 (p2 - (w32 ((w32 (Int.tdiv (M (M o 7) 0) 2)) * (ab32 (w32 (p3 - p4)))))))) (max 0 (w32 (p2 - (w32 ((M (M o 7) 0) * (ab32 (w32 (p3 - p4)))))))) M hOM h
  · rw [if_pos c1] at h
    refine mx_iload (pc := 56) C dX1_heard_56 rfl ?_
    refine mx_iconst (pc := 58) C dX1_heard_58 (z := 2) rfl (by constructor <;> decide) ?_
    refine mx_idiv (pc := 59) C dX1_heard_59 (by decide) ?_
    refine mx_goto (pc := 60) (tgt := 65) C dX1_heard_60 rfl ?_
    refine mx_mask [true, true, false, true, true, true, true, true, false] (ls' := [some (aR o), some (aI p1), none, some (aI p3), some (aI p4), some (aI (ab32 (w32 (p3 - p4)))), some (aI (max 0 (w32 (p2 - (w32 ((M (M o 7) 0) * (ab32 (w32 (p3 - p4))))))))), some (aI (max 0 (w32 (p2 - (w32 ((w32 (Int.tdiv (M (M o 7) 0) 2)) * (ab32 (w32 (p3 - p4))))))))), none]) rfl rfl ?_
    exact b_X1_heard_65 C ho p1 p3 p4 (ab32 (w32 (p3 - p4))) (max 0 (w32 (p2 - (w32 ((M (M o 7) 0) * (ab32 (w32 (p3 - p4)))))))) (max 0 (w32 (p2 - (w32 ((w32 (Int.tdiv (M (M o 7) 0) 2)) * (ab32 (w32 (p3 - p4)))))))) (w32 (Int.tdiv (max 0 (w32 (p2 - (w32 ((M (M o 7) 0) * (ab32 (w32 (p3 - p4)))))))) 2)) M hOM h

def f_X1_heardIn (o : Int) (p1 : Int) (p2 : Int) (M : Mem) : Option (Int × Mem) :=
  (f_X1_isLost o p1 M).bind (fun q1 => if q1.1 = 0 then if 0 ≤ p1 ∧ p1 < 6 then (f_X1_voiceIn o p1 (q1.2 (o + 4) p1) q1.2).bind (fun q5 => if 0 ≤ p1 ∧ p1 < 6 then (f_X1_heard o p1 q5.1 (q5.2 (o + 4) p1) p2 q5.2).bind (fun q8 => some (q8.1, q8.2)) else none) else none else some (0, q1.2))
set_option maxRecDepth 20000 in
set_option maxHeartbeats 4000000 in
theorem m_X1_heardIn {o : Int} {p1 : Int} {p2 : Int} {M : Mem} {res : Int × Mem} (hOM : OK M) (ho : isLot o) (h : f_X1_heardIn o p1 p2 M = some res) : Mth false yX1_heardIn cX1_heardIn 3 (some .int) 3 0 0 SH [aR o, aI p1, aI p2] M (some (aI res.1)) SH res.2 (OK res.2) := by
  refine Mth.of (by decide +kernel) (Nat.le_of_ble_eq_true rfl) (fun K B C => ?_)
  show Wx K B _ 0 0 SH 3 M 0 [some (aR o), some (aI p1), some (aI p2)] []
  unfold f_X1_heardIn at h
  refine mx_aload_n (pc := 0) C dX1_heardIn_0 rfl ?_
  refine mx_iload_n (pc := 1) C dX1_heardIn_1 rfl ?_
  obtain ⟨q1, hq1, h⟩ := of_bd h
  refine mc_V (pc := 2) (as := [aI p1]) (rest := []) (stk2 := [aI q1.1]) C ⟨Nat.le_refl _, Nat.le_refl _⟩ (m_X1_isLost hOM ho hq1) mi_X1_isLost mv_X1_isLost ml_X1_75 ci_1 rfl (so_1 ho) (by omega) rfl (Nat.le_of_ble_eq_true rfl) dX1_heardIn_2 rfl (fun hp2 => ?_)
  have hOq1 : OK q1.2 := hp2.1
  refine mx_if_eq (pc := 5) (tgt := 10) C dX1_heardIn_5 rfl (fun c3 => ?_) (fun c3 => ?_)
  · rw [if_pos c3] at h
    refine mx_aload_n (pc := 10) C dX1_heardIn_10 rfl ?_
    refine mx_iload_n (pc := 11) C dX1_heardIn_11 rfl ?_
    refine mx_aload_n (pc := 12) C dX1_heardIn_12 rfl ?_
    refine mx_iload_n (pc := 13) C dX1_heardIn_13 rfl ?_
    refine mx_aload_n (pc := 14) C dX1_heardIn_14 rfl ?_
    refine mx_getR (pc := 15) (v := o + 4) C dX1_heardIn_15 (so_1 ho) ci_1 (k := 4) (by decide) fl_X1_21 rfl (q := 4) rfl (lay_1_4 hOq1 ho) (by have := lot_pos ho; omega) ?_
    refine mx_iload_n (pc := 18) C dX1_heardIn_18 rfl ?_
    obtain ⟨g4, h⟩ := of_gd h
    refine mx_iald (pc := 19) C dX1_heardIn_19 (sh_1_4 ho) g4.1 g4.2 ?_
    obtain ⟨q5, hq5, h⟩ := of_bd h
    refine mc_V (pc := 20) (as := [aI p1, aI (q1.2 (o + 4) p1)]) (rest := [aI p1, aR o]) (stk2 := [aI q5.1, aI p1, aR o]) C ⟨Nat.le_refl _, Nat.le_refl _⟩ (m_X1_voiceIn hOq1 ho hq5) mi_X1_voiceIn mv_X1_voiceIn ml_X1_111 ci_1 rfl (so_1 ho) (by omega) rfl (Nat.le_of_ble_eq_true rfl) dX1_heardIn_20 rfl (fun hp6 => ?_)
    have hOq5 : OK q5.2 := hp6
    refine mx_aload_n (pc := 23) C dX1_heardIn_23 rfl ?_
    refine mx_getR (pc := 24) (v := o + 4) C dX1_heardIn_24 (so_1 ho) ci_1 (k := 4) (by decide) fl_X1_21 rfl (q := 4) rfl (lay_1_4 hOq5 ho) (by have := lot_pos ho; omega) ?_
    refine mx_iload_n (pc := 27) C dX1_heardIn_27 rfl ?_
    obtain ⟨g7, h⟩ := of_gd h
    refine mx_iald (pc := 28) C dX1_heardIn_28 (sh_1_4 ho) g7.1 g7.2 ?_
    refine mx_iload_n (pc := 29) C dX1_heardIn_29 rfl ?_
    obtain ⟨q8, hq8, h⟩ := of_bd h
    refine mc_V (pc := 30) (as := [aI p1, aI q5.1, aI (q5.2 (o + 4) p1), aI p2]) (rest := []) (stk2 := [aI q8.1]) C ⟨Nat.le_refl _, Nat.le_refl _⟩ (m_X1_heard hOq5 ho hq8) mi_X1_heard mv_X1_heard ml_X1_114 ci_1 rfl (so_1 ho) (by omega) rfl (Nat.le_of_ble_eq_true rfl) dX1_heardIn_30 rfl (fun hp9 => ?_)
    have hOq8 : OK q8.2 := hp9
    rw [← Option.some.inj h]
    exact mx_ireturn (pc := 33) C dX1_heardIn_33 hOq8 ⟨Nat.le_refl _, Nat.le_refl _⟩
  · rw [if_neg c3] at h
    refine mx_iconst (pc := 8) C dX1_heardIn_8 (z := 0) rfl (by constructor <;> decide) ?_
    rw [← Option.some.inj h]
    exact mx_ireturn (pc := 9) C dX1_heardIn_9 hOq1 ⟨Nat.le_refl _, Nat.le_refl _⟩

def f_X1_noiseOf_4 (o : Int) (p1 : Int) : Nat → Int → Int → Int → Mem → Option (Int × Mem)
  | 0, _, _, _, _ => none
  | n + 1, x1, x2, x3, M => if M o 0 ≤ x3 then some (x2, M) else (f_X1_heardIn o x3 x1 M).bind (fun q2 => f_X1_noiseOf_4 o p1 n x1 (w32 (x2 + q2.1)) (w32 (x3 + 1)) q2.2)
def f_X1_noiseOf (o : Int) (p1 : Int) (M : Mem) : Option (Int × Mem) :=
  f_X1_noiseOf_4 o p1 FU p1 0 0 M
set_option maxRecDepth 20000 in
set_option maxHeartbeats 4000000 in
theorem b_X1_noiseOf_4 {K : KX} {B : BX} {res : Int × Mem} {o : Int} {p1 : Int} (C : Cx K B false yX1_noiseOf cX1_noiseOf 4 (some .int) 4 0 0) (ho : isLot o) : ∀ (n : Nat) (x1 : Int) (x2 : Int) (x3 : Int) (M : Mem), OK M → f_X1_noiseOf_4 o p1 n x1 x2 x3 M = some res → Wx K B (Zr K B (some (aI res.1)) SH res.2 (OK res.2) 0 0) 0 0 SH 4 M 4 [some (aR o), some (aI x1), some (aI x2), some (aI x3)] [] := by
  intro n
  induction n with
  | zero =>
    intro x1 x2 x3 M hOM h
    cases h
  | succ n ih =>
    intro x1 x2 x3 M hOM h
    rw [f_X1_noiseOf_4.eq_2] at h
    refine mx_iload_n (pc := 4) C dX1_noiseOf_4 rfl ?_
    refine mx_aload_n (pc := 5) C dX1_noiseOf_5 rfl ?_
    refine mx_getI (pc := 6) C dX1_noiseOf_6 (so_1 ho) ci_1 (k := 0) (by decide) fl_X1_51 rfl (q := 0) rfl ?_
    refine mx_icmp_ge (pc := 9) (tgt := 27) C dX1_noiseOf_9 rfl (fun c1 => ?_) (fun c1 => ?_)
    · rw [if_pos c1] at h
      refine mx_iload_n (pc := 27) C dX1_noiseOf_27 rfl ?_
      rw [← Option.some.inj h]
      exact mx_ireturn (pc := 28) C dX1_noiseOf_28 hOM ⟨Nat.le_refl _, Nat.le_refl _⟩
    · rw [if_neg c1] at h
      refine mx_iload_n (pc := 12) C dX1_noiseOf_12 rfl ?_
      refine mx_aload_n (pc := 13) C dX1_noiseOf_13 rfl ?_
      refine mx_iload_n (pc := 14) C dX1_noiseOf_14 rfl ?_
      refine mx_iload_n (pc := 15) C dX1_noiseOf_15 rfl ?_
      obtain ⟨q2, hq2, h⟩ := of_bd h
      refine mc_V (pc := 16) (as := [aI x3, aI x1]) (rest := [aI x2]) (stk2 := [aI q2.1, aI x2]) C ⟨Nat.le_refl _, Nat.le_refl _⟩ (m_X1_heardIn hOM ho hq2) mi_X1_heardIn mv_X1_heardIn ml_X1_118 ci_1 rfl (so_1 ho) (by omega) rfl (Nat.le_of_ble_eq_true rfl) dX1_noiseOf_16 rfl (fun hp3 => ?_)
      have hOq2 : OK q2.2 := hp3
      refine mx_iadd (pc := 19) C dX1_noiseOf_19  ?_
      refine mx_istore_n (pc := 20) C dX1_noiseOf_20 (ls' := [some (aR o), some (aI x1), some (aI (w32 (x2 + q2.1))), some (aI x3)]) (by decide) rfl rfl ?_
      refine mx_iinc (pc := 21) C dX1_noiseOf_21 (ls' := [some (aR o), some (aI x1), some (aI (w32 (x2 + q2.1))), some (aI (w32 (x3 + 1)))]) rfl (by decide) rfl (by constructor <;> decide) rfl rfl ?_
      refine mx_goto (pc := 24) (tgt := 4) C dX1_noiseOf_24 rfl ?_
      exact ih x1 (w32 (x2 + q2.1)) (w32 (x3 + 1)) q2.2 hOq2 h
set_option maxRecDepth 20000 in
set_option maxHeartbeats 4000000 in
theorem m_X1_noiseOf {o : Int} {p1 : Int} {M : Mem} {res : Int × Mem} (hOM : OK M) (ho : isLot o) (h : f_X1_noiseOf o p1 M = some res) : Mth false yX1_noiseOf cX1_noiseOf 4 (some .int) 4 0 0 SH [aR o, aI p1] M (some (aI res.1)) SH res.2 (OK res.2) := by
  refine Mth.of (by decide +kernel) (Nat.le_of_ble_eq_true rfl) (fun K B C => ?_)
  show Wx K B _ 0 0 SH 4 M 0 [some (aR o), some (aI p1), none, none] []
  unfold f_X1_noiseOf at h
  refine mx_iconst (pc := 0) C dX1_noiseOf_0 (z := 0) rfl (by constructor <;> decide) ?_
  refine mx_istore_n (pc := 1) C dX1_noiseOf_1 (ls' := [some (aR o), some (aI p1), some (aI 0), none]) (by decide) rfl rfl ?_
  refine mx_iconst (pc := 2) C dX1_noiseOf_2 (z := 0) rfl (by constructor <;> decide) ?_
  refine mx_istore_n (pc := 3) C dX1_noiseOf_3 (ls' := [some (aR o), some (aI p1), some (aI 0), some (aI 0)]) (by decide) rfl rfl ?_
  exact b_X1_noiseOf_4 C ho FU p1 0 0 M hOM h

def f_X1_greatest_4 (o : Int) : Nat → Int → Int → Mem → Option (Int × Mem)
  | 0, _, _, _ => none
  | n + 1, x1, x2, M => if 5 ≤ x2 then some (x1, M) else (f_X1_noiseOf o x2 M).bind (fun q2 => f_X1_greatest_4 o n (max x1 q2.1) (w32 (x2 + 1)) q2.2)
def f_X1_greatest (o : Int) (M : Mem) : Option (Int × Mem) :=
  f_X1_greatest_4 o FU 0 0 M
set_option maxRecDepth 20000 in
set_option maxHeartbeats 4000000 in
theorem b_X1_greatest_4 {K : KX} {B : BX} {res : Int × Mem} {o : Int} (C : Cx K B false yX1_greatest cX1_greatest 3 (some .int) 5 0 0) (ho : isLot o) : ∀ (n : Nat) (x1 : Int) (x2 : Int) (M : Mem), OK M → f_X1_greatest_4 o n x1 x2 M = some res → Wx K B (Zr K B (some (aI res.1)) SH res.2 (OK res.2) 0 0) 0 0 SH 3 M 4 [some (aR o), some (aI x1), some (aI x2)] [] := by
  intro n
  induction n with
  | zero =>
    intro x1 x2 M hOM h
    cases h
  | succ n ih =>
    intro x1 x2 M hOM h
    rw [f_X1_greatest_4.eq_2] at h
    refine mx_iload_n (pc := 4) C dX1_greatest_4 rfl ?_
    refine mx_iconst (pc := 5) C dX1_greatest_5 (z := 5) rfl (by constructor <;> decide) ?_
    refine mx_icmp_ge (pc := 6) (tgt := 25) C dX1_greatest_6 rfl (fun c1 => ?_) (fun c1 => ?_)
    · rw [if_pos c1] at h
      refine mx_iload_n (pc := 25) C dX1_greatest_25 rfl ?_
      rw [← Option.some.inj h]
      exact mx_ireturn (pc := 26) C dX1_greatest_26 hOM ⟨Nat.le_refl _, Nat.le_refl _⟩
    · rw [if_neg c1] at h
      refine mx_iload_n (pc := 9) C dX1_greatest_9 rfl ?_
      refine mx_aload_n (pc := 10) C dX1_greatest_10 rfl ?_
      refine mx_iload_n (pc := 11) C dX1_greatest_11 rfl ?_
      obtain ⟨q2, hq2, h⟩ := of_bd h
      refine mc_V (pc := 12) (as := [aI x2]) (rest := [aI x1]) (stk2 := [aI q2.1, aI x1]) C ⟨Nat.le_refl _, Nat.le_refl _⟩ (m_X1_noiseOf hOM ho hq2) mi_X1_noiseOf mv_X1_noiseOf ml_X1_121 ci_1 rfl (so_1 ho) (by omega) rfl (Nat.le_of_ble_eq_true rfl) dX1_greatest_12 rfl (fun hp3 => ?_)
      have hOq2 : OK q2.2 := hp3
      refine mx_max (pc := 15) C ⟨Nat.le_refl _, Nat.le_refl _⟩ (by omega) (Nat.le_of_ble_eq_true rfl) ml_X1_83 dX1_greatest_15 ?_
      refine mx_istore_n (pc := 18) C dX1_greatest_18 (ls' := [some (aR o), some (aI (max x1 q2.1)), some (aI x2)]) (by decide) rfl rfl ?_
      refine mx_iinc (pc := 19) C dX1_greatest_19 (ls' := [some (aR o), some (aI (max x1 q2.1)), some (aI (w32 (x2 + 1)))]) rfl (by decide) rfl (by constructor <;> decide) rfl rfl ?_
      refine mx_goto (pc := 22) (tgt := 4) C dX1_greatest_22 rfl ?_
      exact ih (max x1 q2.1) (w32 (x2 + 1)) q2.2 hOq2 h
set_option maxRecDepth 20000 in
set_option maxHeartbeats 4000000 in
theorem m_X1_greatest {o : Int} {M : Mem} {res : Int × Mem} (hOM : OK M) (ho : isLot o) (h : f_X1_greatest o M = some res) : Mth false yX1_greatest cX1_greatest 3 (some .int) 5 0 0 SH [aR o] M (some (aI res.1)) SH res.2 (OK res.2) := by
  refine Mth.of (by decide +kernel) (Nat.le_of_ble_eq_true rfl) (fun K B C => ?_)
  show Wx K B _ 0 0 SH 3 M 0 [some (aR o), none, none] []
  unfold f_X1_greatest at h
  refine mx_iconst (pc := 0) C dX1_greatest_0 (z := 0) rfl (by constructor <;> decide) ?_
  refine mx_istore_n (pc := 1) C dX1_greatest_1 (ls' := [some (aR o), some (aI 0), none]) (by decide) rfl rfl ?_
  refine mx_iconst (pc := 2) C dX1_greatest_2 (z := 0) rfl (by constructor <;> decide) ?_
  refine mx_istore_n (pc := 3) C dX1_greatest_3 (ls' := [some (aR o), some (aI 0), some (aI 0)]) (by decide) rfl rfl ?_
  exact b_X1_greatest_4 C ho FU 0 0 M hOM h

def f_X1_stillHouses_30 (o : Int) (k4 : Int → Int → Mem → Option (Int × Mem)) (x1 : Int) (x2 : Int) (M : Mem) : Option (Int × Mem) :=
  k4 x1 (w32 (x2 + 1)) M
def f_X1_stillHouses_4 (o : Int) : Nat → Int → Int → Mem → Option (Int × Mem)
  | 0, _, _, _ => none
  | n + 1, x1, x2, M => if 5 ≤ x2 then some (x1, M) else (f_X1_noiseOf o x2 M).bind (fun q2 => if q2.2 (q2.2 o 7) 1 < q2.1 then f_X1_stillHouses_30 o (f_X1_stillHouses_4 o n) x1 x2 q2.2 else f_X1_stillHouses_30 o (f_X1_stillHouses_4 o n) (or32 x1 (shl32 1 x2)) x2 q2.2)
def f_X1_stillHouses (o : Int) (M : Mem) : Option (Int × Mem) :=
  f_X1_stillHouses_4 o FU 0 0 M
set_option maxRecDepth 20000 in
set_option maxHeartbeats 4000000 in
theorem b_X1_stillHouses_30 {K : KX} {B : BX} {res : Int × Mem} {o : Int} {k4 : Int → Int → Mem → Option (Int × Mem)} (C : Cx K B false yX1_stillHouses cX1_stillHouses 3 (some .int) 5 0 0) (ho : isLot o) (hk4 : ∀ (x1 : Int) (x2 : Int) (M : Mem), OK M → k4 x1 x2 M = some res → Wx K B (Zr K B (some (aI res.1)) SH res.2 (OK res.2) 0 0) 0 0 SH 3 M 4 [some (aR o), some (aI x1), some (aI x2)] []) : ∀ (x1 : Int) (x2 : Int) (M : Mem), OK M → f_X1_stillHouses_30 o k4 x1 x2 M = some res → Wx K B (Zr K B (some (aI res.1)) SH res.2 (OK res.2) 0 0) 0 0 SH 3 M 30 [some (aR o), some (aI x1), some (aI x2)] [] := by
  intro x1 x2 M hOM h
  unfold f_X1_stillHouses_30 at h
  refine mx_iinc (pc := 30) C dX1_stillHouses_30 (ls' := [some (aR o), some (aI x1), some (aI (w32 (x2 + 1)))]) rfl (by decide) rfl (by constructor <;> decide) rfl rfl ?_
  refine mx_goto (pc := 33) (tgt := 4) C dX1_stillHouses_33 rfl ?_
  exact hk4 x1 (w32 (x2 + 1)) M hOM h
set_option maxRecDepth 20000 in
set_option maxHeartbeats 4000000 in
theorem b_X1_stillHouses_4 {K : KX} {B : BX} {res : Int × Mem} {o : Int} (C : Cx K B false yX1_stillHouses cX1_stillHouses 3 (some .int) 5 0 0) (ho : isLot o) : ∀ (n : Nat) (x1 : Int) (x2 : Int) (M : Mem), OK M → f_X1_stillHouses_4 o n x1 x2 M = some res → Wx K B (Zr K B (some (aI res.1)) SH res.2 (OK res.2) 0 0) 0 0 SH 3 M 4 [some (aR o), some (aI x1), some (aI x2)] [] := by
  intro n
  induction n with
  | zero =>
    intro x1 x2 M hOM h
    cases h
  | succ n ih =>
    intro x1 x2 M hOM h
    rw [f_X1_stillHouses_4.eq_2] at h
    refine mx_iload_n (pc := 4) C dX1_stillHouses_4 rfl ?_
    refine mx_iconst (pc := 5) C dX1_stillHouses_5 (z := 5) rfl (by constructor <;> decide) ?_
    refine mx_icmp_ge (pc := 6) (tgt := 36) C dX1_stillHouses_6 rfl (fun c1 => ?_) (fun c1 => ?_)
    · rw [if_pos c1] at h
      refine mx_iload_n (pc := 36) C dX1_stillHouses_36 rfl ?_
      rw [← Option.some.inj h]
      exact mx_ireturn (pc := 37) C dX1_stillHouses_37 hOM ⟨Nat.le_refl _, Nat.le_refl _⟩
    · rw [if_neg c1] at h
      refine mx_aload_n (pc := 9) C dX1_stillHouses_9 rfl ?_
      refine mx_iload_n (pc := 10) C dX1_stillHouses_10 rfl ?_
      obtain ⟨q2, hq2, h⟩ := of_bd h
      refine mc_V (pc := 11) (as := [aI x2]) (rest := []) (stk2 := [aI q2.1]) C ⟨Nat.le_refl _, Nat.le_refl _⟩ (m_X1_noiseOf hOM ho hq2) mi_X1_noiseOf mv_X1_noiseOf ml_X1_121 ci_1 rfl (so_1 ho) (by omega) rfl (Nat.le_of_ble_eq_true rfl) dX1_stillHouses_11 rfl (fun hp3 => ?_)
      have hOq2 : OK q2.2 := hp3
      refine mx_aload_n (pc := 14) C dX1_stillHouses_14 rfl ?_
      refine mx_getR (pc := 15) (v := (q2.2 o 7)) C dX1_stillHouses_15 (so_1 ho) ci_1 (k := 7) (by decide) fl_X1_47 rfl (q := 7) rfl rfl (str_pos (str_of hOq2 ho)).1 ?_
      refine mx_getI (pc := 18) C dX1_stillHouses_18 (so_3 (str_of hOq2 ho)) ci_3 (k := 1) (by decide) fl_X1_124 rfl (q := 1) rfl ?_
      refine mx_icmp_gt (pc := 21) (tgt := 30) C dX1_stillHouses_21 rfl (fun c4 => ?_) (fun c4 => ?_)
      · rw [if_pos c4] at h
        exact b_X1_stillHouses_30 C ho ih x1 x2 q2.2 hOq2 h
      · rw [if_neg c4] at h
        refine mx_iload_n (pc := 24) C dX1_stillHouses_24 rfl ?_
        refine mx_iconst (pc := 25) C dX1_stillHouses_25 (z := 1) rfl (by constructor <;> decide) ?_
        refine mx_iload_n (pc := 26) C dX1_stillHouses_26 rfl ?_
        refine mx_ishl (pc := 27) C dX1_stillHouses_27  ?_
        refine mx_ior (pc := 28) C dX1_stillHouses_28  ?_
        refine mx_istore_n (pc := 29) C dX1_stillHouses_29 (ls' := [some (aR o), some (aI (or32 x1 (shl32 1 x2))), some (aI x2)]) (by decide) rfl rfl ?_
        exact b_X1_stillHouses_30 C ho ih (or32 x1 (shl32 1 x2)) x2 q2.2 hOq2 h
set_option maxRecDepth 20000 in
set_option maxHeartbeats 4000000 in
theorem m_X1_stillHouses {o : Int} {M : Mem} {res : Int × Mem} (hOM : OK M) (ho : isLot o) (h : f_X1_stillHouses o M = some res) : Mth false yX1_stillHouses cX1_stillHouses 3 (some .int) 5 0 0 SH [aR o] M (some (aI res.1)) SH res.2 (OK res.2) := by
  refine Mth.of (by decide +kernel) (Nat.le_of_ble_eq_true rfl) (fun K B C => ?_)
  show Wx K B _ 0 0 SH 3 M 0 [some (aR o), none, none] []
  unfold f_X1_stillHouses at h
  refine mx_iconst (pc := 0) C dX1_stillHouses_0 (z := 0) rfl (by constructor <;> decide) ?_
  refine mx_istore_n (pc := 1) C dX1_stillHouses_1 (ls' := [some (aR o), some (aI 0), none]) (by decide) rfl rfl ?_
  refine mx_iconst (pc := 2) C dX1_stillHouses_2 (z := 0) rfl (by constructor <;> decide) ?_
  refine mx_istore_n (pc := 3) C dX1_stillHouses_3 (ls' := [some (aR o), some (aI 0), some (aI 0)]) (by decide) rfl rfl ?_
  exact b_X1_stillHouses_4 C ho FU 0 0 M hOM h
