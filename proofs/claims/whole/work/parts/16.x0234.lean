def f_X3_add (o : Int) (p1 : Int) (p2 : Int) (p3 : Int) (M : Mem) : Option (Int × Mem) :=
  if 100 ≤ M o 6 then some (0, M) else if 0 ≤ M o 6 ∧ M o 6 < 100 then lt (stM M (o + 3) (M o 6) p1) (fun M3 => if 0 ≤ M3 o 6 ∧ M3 o 6 < 100 then lt (stM M3 (o + 4) (M3 o 6) p2) (fun M5 => if 0 ≤ M5 o 6 ∧ M5 o 6 < 100 then lt (stM M5 (o + 5) (M5 o 6) p3) (fun M7 => lt (stM M7 o 6 (w32 ((M7 o 6) + 1))) (fun M8 => some (0, M8))) else none) else none) else none
set_option maxRecDepth 20000 in
set_option maxHeartbeats 4000000 in
theorem m_X3_add {o : Int} {p1 : Int} {p2 : Int} {p3 : Int} {M : Mem} {res : Int × Mem} (hOM : OK M) (ho : isStr o) (h : f_X3_add o p1 p2 p3 M = some res) : Mth false yX3_add cX3_add 4 none 1 0 0 SH [aR o, aI p1, aI p2, aI p3] M none SH res.2 (OK res.2) := by
  refine Mth.of (by decide +kernel) (Nat.le_of_ble_eq_true rfl) (fun K B C => ?_)
  show Wx K B _ 0 0 SH 4 M 0 [some (aR o), some (aI p1), some (aI p2), some (aI p3)] []
  unfold f_X3_add at h
  refine mx_aload_n (pc := 0) C dX3_add_0 rfl ?_
  refine mx_getI (pc := 1) C dX3_add_1 (so_3 ho) ci_3 (k := 6) (by decide) fl_X3_43 rfl (q := 6) rfl ?_
  refine mx_bipush (pc := 4) C dX3_add_4 (z := 100) rfl (by constructor <;> decide) ?_
  refine mx_icmp_ge (pc := 6) (tgt := 49) C dX3_add_6 rfl (fun c1 => ?_) (fun c1 => ?_)
  · rw [if_pos c1] at h
    rw [← Option.some.inj h]
    exact mx_return (pc := 49) C dX3_add_49 hOM ⟨Nat.le_refl _, Nat.le_refl _⟩
  · rw [if_neg c1] at h
    refine mx_aload_n (pc := 9) C dX3_add_9 rfl ?_
    refine mx_getR (pc := 10) (v := o + 3) C dX3_add_10 (so_3 ho) ci_3 (k := 7) (by decide) fl_X3_18 rfl (q := 7) rfl (lay_3_7 hOM ho) (by have := str_pos ho; omega) ?_
    refine mx_aload_n (pc := 13) C dX3_add_13 rfl ?_
    refine mx_getI (pc := 14) C dX3_add_14 (so_3 ho) ci_3 (k := 6) (by decide) fl_X3_43 rfl (q := 6) rfl ?_
    refine mx_iload_n (pc := 17) C dX3_add_17 rfl ?_
    obtain ⟨g2, h⟩ := of_gd h
    refine mx_iast (pc := 18) C dX3_add_18 (sh_3_7 ho) g2.1 g2.2 ?_
    generalize hmM3 : stM M (o + 3) (M o 6) p1 = M3 at h ⊢
    replace h := lt_e h
    have hOM3 : OK M3 := by rw [← hmM3]; exact ok_arr hOM (sh_3_7 ho) (by decide)
    refine mx_aload_n (pc := 19) C dX3_add_19 rfl ?_
    refine mx_getR (pc := 20) (v := o + 4) C dX3_add_20 (so_3 ho) ci_3 (k := 8) (by decide) fl_X3_21 rfl (q := 8) rfl (lay_3_8 hOM3 ho) (by have := str_pos ho; omega) ?_
    refine mx_aload_n (pc := 23) C dX3_add_23 rfl ?_
    refine mx_getI (pc := 24) C dX3_add_24 (so_3 ho) ci_3 (k := 6) (by decide) fl_X3_43 rfl (q := 6) rfl ?_
    refine mx_iload_n (pc := 27) C dX3_add_27 rfl ?_
    obtain ⟨g4, h⟩ := of_gd h
    refine mx_iast (pc := 28) C dX3_add_28 (sh_3_8 ho) g4.1 g4.2 ?_
    generalize hmM5 : stM M3 (o + 4) (M3 o 6) p2 = M5 at h ⊢
    replace h := lt_e h
    have hOM5 : OK M5 := by rw [← hmM5]; exact ok_arr hOM3 (sh_3_8 ho) (by decide)
    refine mx_aload_n (pc := 29) C dX3_add_29 rfl ?_
    refine mx_getR (pc := 30) (v := o + 5) C dX3_add_30 (so_3 ho) ci_3 (k := 9) (by decide) fl_X3_24 rfl (q := 9) rfl (lay_3_9 hOM5 ho) (by have := str_pos ho; omega) ?_
    refine mx_aload_n (pc := 33) C dX3_add_33 rfl ?_
    refine mx_getI (pc := 34) C dX3_add_34 (so_3 ho) ci_3 (k := 6) (by decide) fl_X3_43 rfl (q := 6) rfl ?_
    refine mx_iload_n (pc := 37) C dX3_add_37 rfl ?_
    obtain ⟨g6, h⟩ := of_gd h
    refine mx_iast (pc := 38) C dX3_add_38 (sh_3_9 ho) g6.1 g6.2 ?_
    generalize hmM7 : stM M5 (o + 5) (M5 o 6) p3 = M7 at h ⊢
    replace h := lt_e h
    have hOM7 : OK M7 := by rw [← hmM7]; exact ok_arr hOM5 (sh_3_9 ho) (by decide)
    refine mx_aload_n (pc := 39) C dX3_add_39 rfl ?_
    refine mx_dup (pc := 40) C dX3_add_40 rfl ?_
    refine mx_getI (pc := 41) C dX3_add_41 (so_3 ho) ci_3 (k := 6) (by decide) fl_X3_43 rfl (q := 6) rfl ?_
    refine mx_iconst (pc := 44) C dX3_add_44 (z := 1) rfl (by constructor <;> decide) ?_
    refine mx_iadd (pc := 45) C dX3_add_45  ?_
    refine mx_putI (pc := 46) C dX3_add_46 (so_3 ho) ci_3 (k := 6) (by decide) fl_X3_43 (Or.inl rfl) rfl (q := 6) rfl ?_
    generalize hmM8 : stM M7 o 6 (w32 ((M7 o 6) + 1)) = M8 at h ⊢
    replace h := lt_e h
    have hOM8 : OK M8 := by rw [← hmM8]; exact okf_3_6 hOM7 ho
    rw [← Option.some.inj h]
    exact mx_return (pc := 49) C dX3_add_49 hOM8 ⟨Nat.le_refl _, Nat.le_refl _⟩

def f_X0_begin_19 (p1 : Int) (M : Mem) : Option (Int × Mem) :=
  lt (stM M 13 0 (w32 ((M 13 0) + 1))) (fun M1 => some (0, M1))
def f_X0_begin (p1 : Int) (M : Mem) : Option (Int × Mem) :=
  if 20 ≤ M 13 0 then f_X0_begin_19 p1 M else if 0 ≤ M 13 0 ∧ M 13 0 < 20 then lt (stM M 14 (M 13 0) p1) (fun M3 => f_X0_begin_19 p1 M3) else none
set_option maxRecDepth 20000 in
set_option maxHeartbeats 4000000 in
theorem b_X0_begin_19 {K : KX} {B : BX} {res : Int × Mem} {p1 : Int} (C : Cx K B false yX0_begin cX0_begin 2 none 1 0 0) : ∀ (M : Mem), OK M → f_X0_begin_19 p1 M = some res → Wx K B (Zr K B none SH res.2 (OK res.2) 0 0) 0 0 SH 2 M 19 [some (aR 13), none] [] := by
  intro M hOM h
  unfold f_X0_begin_19 at h
  refine mx_aload_n (pc := 19) C dX0_begin_19 rfl ?_
  refine mx_dup (pc := 20) C dX0_begin_20 rfl ?_
  refine mx_getI (pc := 21) C dX0_begin_21 so_0 ci_0 (k := 0) (by decide) fl_X0_35 rfl (q := 0) rfl ?_
  refine mx_iconst (pc := 24) C dX0_begin_24 (z := 1) rfl (by constructor <;> decide) ?_
  refine mx_iadd (pc := 25) C dX0_begin_25  ?_
  refine mx_putI (pc := 26) C dX0_begin_26 so_0 ci_0 (k := 0) (by decide) fl_X0_35 (Or.inl rfl) rfl (q := 0) rfl ?_
  generalize hmM1 : stM M 13 0 (w32 ((M 13 0) + 1)) = M1 at h ⊢
  replace h := lt_e h
  have hOM1 : OK M1 := by rw [← hmM1]; exact okf_0_0 hOM
  rw [← Option.some.inj h]
  exact mx_return (pc := 29) C dX0_begin_29 hOM1 ⟨Nat.le_refl _, Nat.le_refl _⟩
set_option maxRecDepth 20000 in
set_option maxHeartbeats 4000000 in
theorem m_X0_begin {p1 : Int} {M : Mem} {res : Int × Mem} (hOM : OK M) (h : f_X0_begin p1 M = some res) : Mth false yX0_begin cX0_begin 2 none 1 0 0 SH [aR 13, aI p1] M none SH res.2 (OK res.2) := by
  refine Mth.of (by decide +kernel) (Nat.le_of_ble_eq_true rfl) (fun K B C => ?_)
  show Wx K B _ 0 0 SH 2 M 0 [some (aR 13), some (aI p1)] []
  unfold f_X0_begin at h
  refine mx_aload_n (pc := 0) C dX0_begin_0 rfl ?_
  refine mx_getI (pc := 1) C dX0_begin_1 so_0 ci_0 (k := 0) (by decide) fl_X0_35 rfl (q := 0) rfl ?_
  refine mx_bipush (pc := 4) C dX0_begin_4 (z := 20) rfl (by constructor <;> decide) ?_
  refine mx_icmp_ge (pc := 6) (tgt := 19) C dX0_begin_6 rfl (fun c1 => ?_) (fun c1 => ?_)
  · rw [if_pos c1] at h
    refine mx_mask [true, false] (ls' := [some (aR 13), none]) rfl rfl ?_
    exact b_X0_begin_19 C M hOM h
  · rw [if_neg c1] at h
    refine mx_aload_n (pc := 9) C dX0_begin_9 rfl ?_
    refine mx_getR (pc := 10) (v := 14) C dX0_begin_10 so_0 ci_0 (k := 1) (by decide) fl_X0_9 rfl (q := 1) rfl (lay_0_1 hOM) (by decide) ?_
    refine mx_aload_n (pc := 13) C dX0_begin_13 rfl ?_
    refine mx_getI (pc := 14) C dX0_begin_14 so_0 ci_0 (k := 0) (by decide) fl_X0_35 rfl (q := 0) rfl ?_
    refine mx_iload_n (pc := 17) C dX0_begin_17 rfl ?_
    obtain ⟨g2, h⟩ := of_gd h
    refine mx_iast (pc := 18) C dX0_begin_18 sh_0_1 g2.1 g2.2 ?_
    generalize hmM3 : stM M 14 (M 13 0) p1 = M3 at h ⊢
    replace h := lt_e h
    have hOM3 : OK M3 := by rw [← hmM3]; exact ok_arr hOM sh_0_1 (by decide)
    refine mx_mask [true, false] (ls' := [some (aR 13), none]) rfl rfl ?_
    exact b_X0_begin_19 C M3 hOM3 h

def s_X0_creaks (rc : Int → Int → Mem → Option (Int × Mem)) (p1 : Int) (p2 : Int) (M : Mem) : Option (Int × Mem) :=
  if p1 = 2 then (f_X0_begin 30 M).bind (fun q2 => (rc 0 (w32 (p2 * 3)) q2.2).bind (fun q4 => some (q4.1, q4.2))) else if p1 = 4 then (f_X0_begin 50 M).bind (fun q7 => (rc 1 p2 q7.2).bind (fun q9 => some (w32 (-q9.1), q9.2))) else if p1 = 5 then (f_X0_begin 30 M).bind (fun q12 => (rc 0 (w32 (p2 * 3)) q12.2).bind (fun q14 => some (q14.1, q14.2))) else if p1 = 6 then (f_X0_begin 71 M).bind (fun q17 => (rc 3 p2 q17.2).bind (fun q19 => some (xor32 q19.1 (q19.2 13 4), q19.2))) else (f_X0_begin 10 M).bind (fun q21 => some (w32 (p2 + (q21.2 13 3)), q21.2))
set_option maxRecDepth 20000 in
set_option maxHeartbeats 4000000 in
theorem mr_X0_creaks {d : Nat} {d_X0_creaks : Nat} {p1 : Int} {p2 : Int} {M : Mem} {res : Int × Mem} {rc : Int → Int → Mem → Option (Int × Mem)} (hdc : 2 ≤ d) (hd_X0_creaks : d_X0_creaks + 1 ≤ d) (hrc : ∀ (p1 : Int) (p2 : Int) (M : Mem) (res : Int × Mem), OK M → rc p1 p2 M = some res → Mth false yX0_creaks cX0_creaks 3 (some .int) d_X0_creaks 0 0 SH [aR 13, aI p1, aI p2] M (some (aI res.1)) SH res.2 (OK res.2)) (hOM : OK M) (h : s_X0_creaks rc p1 p2 M = some res) : Mth false yX0_creaks cX0_creaks 3 (some .int) d 0 0 SH [aR 13, aI p1, aI p2] M (some (aI res.1)) SH res.2 (OK res.2) := by
  refine Mth.of (by decide +kernel) (Nat.le_of_ble_eq_true rfl) (fun K B C => ?_)
  show Wx K B _ 0 0 SH 3 M 0 [some (aR 13), some (aI p1), some (aI p2)] []
  unfold s_X0_creaks at h
  refine mx_iload_n (pc := 0) C dX0_creaks_0 rfl ?_
  by_cases c1 : p1 = 2
  · rw [if_pos c1] at h
    refine mx_tin (pc := 1) (tgt := 68) C 2 dX0_creaks_1 c1 (by decide) (by decide) rfl rfl ?_
    refine mx_aload_n (pc := 68) C dX0_creaks_68 rfl ?_
    refine mx_bipush (pc := 69) C dX0_creaks_69 (z := 30) rfl (by constructor <;> decide) ?_
    obtain ⟨q2, hq2, h⟩ := of_bd h
    refine mc_V (pc := 71) (as := [aI 30]) (rest := []) (stk2 := []) C ⟨Nat.le_refl _, Nat.le_refl _⟩ (m_X0_begin hOM hq2) mi_X0_begin mv_X0_begin ml_X0_38 ci_0 rfl so_0 (by omega) rfl (Nat.le_of_ble_eq_true rfl) dX0_creaks_71 rfl (fun hp3 => ?_)
    have hOq2 : OK q2.2 := hp3
    refine mx_aload_n (pc := 74) C dX0_creaks_74 rfl ?_
    refine mx_iconst (pc := 75) C dX0_creaks_75 (z := 0) rfl (by constructor <;> decide) ?_
    refine mx_iload_n (pc := 76) C dX0_creaks_76 rfl ?_
    refine mx_iconst (pc := 77) C dX0_creaks_77 (z := 3) rfl (by constructor <;> decide) ?_
    refine mx_imul (pc := 78) C dX0_creaks_78  ?_
    obtain ⟨q4, hq4, h⟩ := of_bd h
    refine mc_V (pc := 79) (as := [aI 0, aI (w32 (p2 * 3))]) (rest := []) (stk2 := [aI q4.1]) C ⟨Nat.le_refl _, Nat.le_refl _⟩ (hrc 0 (w32 (p2 * 3)) q2.2 _ hOq2 hq4) mi_X0_creaks mv_X0_creaks ml_X0_25 ci_0 rfl so_0 (by omega) rfl (Nat.le_of_ble_eq_true rfl) dX0_creaks_79 rfl (fun hp5 => ?_)
    have hOq4 : OK q4.2 := hp5
    rw [← Option.some.inj h]
    exact mx_ireturn (pc := 82) C dX0_creaks_82 hOq4 ⟨Nat.le_refl _, Nat.le_refl _⟩
  · rw [if_neg c1] at h
    by_cases c6 : p1 = 4
    · rw [if_pos c6] at h
      refine mx_tin (pc := 1) (tgt := 54) C 4 dX0_creaks_1 c6 (by decide) (by decide) rfl rfl ?_
      refine mx_aload_n (pc := 54) C dX0_creaks_54 rfl ?_
      refine mx_bipush (pc := 55) C dX0_creaks_55 (z := 50) rfl (by constructor <;> decide) ?_
      obtain ⟨q7, hq7, h⟩ := of_bd h
      refine mc_V (pc := 57) (as := [aI 50]) (rest := []) (stk2 := []) C ⟨Nat.le_refl _, Nat.le_refl _⟩ (m_X0_begin hOM hq7) mi_X0_begin mv_X0_begin ml_X0_38 ci_0 rfl so_0 (by omega) rfl (Nat.le_of_ble_eq_true rfl) dX0_creaks_57 rfl (fun hp8 => ?_)
      have hOq7 : OK q7.2 := hp8
      refine mx_aload_n (pc := 60) C dX0_creaks_60 rfl ?_
      refine mx_iconst (pc := 61) C dX0_creaks_61 (z := 1) rfl (by constructor <;> decide) ?_
      refine mx_iload_n (pc := 62) C dX0_creaks_62 rfl ?_
      obtain ⟨q9, hq9, h⟩ := of_bd h
      refine mc_V (pc := 63) (as := [aI 1, aI p2]) (rest := []) (stk2 := [aI q9.1]) C ⟨Nat.le_refl _, Nat.le_refl _⟩ (hrc 1 p2 q7.2 _ hOq7 hq9) mi_X0_creaks mv_X0_creaks ml_X0_25 ci_0 rfl so_0 (by omega) rfl (Nat.le_of_ble_eq_true rfl) dX0_creaks_63 rfl (fun hp10 => ?_)
      have hOq9 : OK q9.2 := hp10
      refine mx_ineg (pc := 66) C dX0_creaks_66  ?_
      rw [← Option.some.inj h]
      exact mx_ireturn (pc := 67) C dX0_creaks_67 hOq9 ⟨Nat.le_refl _, Nat.le_refl _⟩
    · rw [if_neg c6] at h
      by_cases c11 : p1 = 5
      · rw [if_pos c11] at h
        refine mx_tin (pc := 1) (tgt := 68) C 5 dX0_creaks_1 c11 (by decide) (by decide) rfl rfl ?_
        refine mx_aload_n (pc := 68) C dX0_creaks_68 rfl ?_
        refine mx_bipush (pc := 69) C dX0_creaks_69 (z := 30) rfl (by constructor <;> decide) ?_
        obtain ⟨q12, hq12, h⟩ := of_bd h
        refine mc_V (pc := 71) (as := [aI 30]) (rest := []) (stk2 := []) C ⟨Nat.le_refl _, Nat.le_refl _⟩ (m_X0_begin hOM hq12) mi_X0_begin mv_X0_begin ml_X0_38 ci_0 rfl so_0 (by omega) rfl (Nat.le_of_ble_eq_true rfl) dX0_creaks_71 rfl (fun hp13 => ?_)
        have hOq12 : OK q12.2 := hp13
        refine mx_aload_n (pc := 74) C dX0_creaks_74 rfl ?_
        refine mx_iconst (pc := 75) C dX0_creaks_75 (z := 0) rfl (by constructor <;> decide) ?_
        refine mx_iload_n (pc := 76) C dX0_creaks_76 rfl ?_
        refine mx_iconst (pc := 77) C dX0_creaks_77 (z := 3) rfl (by constructor <;> decide) ?_
        refine mx_imul (pc := 78) C dX0_creaks_78  ?_
        obtain ⟨q14, hq14, h⟩ := of_bd h
        refine mc_V (pc := 79) (as := [aI 0, aI (w32 (p2 * 3))]) (rest := []) (stk2 := [aI q14.1]) C ⟨Nat.le_refl _, Nat.le_refl _⟩ (hrc 0 (w32 (p2 * 3)) q12.2 _ hOq12 hq14) mi_X0_creaks mv_X0_creaks ml_X0_25 ci_0 rfl so_0 (by omega) rfl (Nat.le_of_ble_eq_true rfl) dX0_creaks_79 rfl (fun hp15 => ?_)
        have hOq14 : OK q14.2 := hp15
        rw [← Option.some.inj h]
        exact mx_ireturn (pc := 82) C dX0_creaks_82 hOq14 ⟨Nat.le_refl _, Nat.le_refl _⟩
      · rw [if_neg c11] at h
        by_cases c16 : p1 = 6
        · rw [if_pos c16] at h
          refine mx_tin (pc := 1) (tgt := 36) C 6 dX0_creaks_1 c16 (by decide) (by decide) rfl rfl ?_
          refine mx_aload_n (pc := 36) C dX0_creaks_36 rfl ?_
          refine mx_bipush (pc := 37) C dX0_creaks_37 (z := 71) rfl (by constructor <;> decide) ?_
          obtain ⟨q17, hq17, h⟩ := of_bd h
          refine mc_V (pc := 39) (as := [aI 71]) (rest := []) (stk2 := []) C ⟨Nat.le_refl _, Nat.le_refl _⟩ (m_X0_begin hOM hq17) mi_X0_begin mv_X0_begin ml_X0_38 ci_0 rfl so_0 (by omega) rfl (Nat.le_of_ble_eq_true rfl) dX0_creaks_39 rfl (fun hp18 => ?_)
          have hOq17 : OK q17.2 := hp18
          refine mx_aload_n (pc := 42) C dX0_creaks_42 rfl ?_
          refine mx_iconst (pc := 43) C dX0_creaks_43 (z := 3) rfl (by constructor <;> decide) ?_
          refine mx_iload_n (pc := 44) C dX0_creaks_44 rfl ?_
          obtain ⟨q19, hq19, h⟩ := of_bd h
          refine mc_V (pc := 45) (as := [aI 3, aI p2]) (rest := []) (stk2 := [aI q19.1]) C ⟨Nat.le_refl _, Nat.le_refl _⟩ (hrc 3 p2 q17.2 _ hOq17 hq19) mi_X0_creaks mv_X0_creaks ml_X0_25 ci_0 rfl so_0 (by omega) rfl (Nat.le_of_ble_eq_true rfl) dX0_creaks_45 rfl (fun hp20 => ?_)
          have hOq19 : OK q19.2 := hp20
          refine mx_aload_n (pc := 48) C dX0_creaks_48 rfl ?_
          refine mx_getI (pc := 49) C dX0_creaks_49 so_0 ci_0 (k := 4) (by decide) fl_X0_22 rfl (q := 4) rfl ?_
          refine mx_ixor (pc := 52) C dX0_creaks_52  ?_
          rw [← Option.some.inj h]
          exact mx_ireturn (pc := 53) C dX0_creaks_53 hOq19 ⟨Nat.le_refl _, Nat.le_refl _⟩
        · rw [if_neg c16] at h
          rcases (by omega : (p1 < 2 ∨ 6 < p1) ∨ p1 = 3) with hs | hs
          · refine mx_tout (pc := 1) (tgt := 83) C dX0_creaks_1 hs rfl ?_
            refine mx_aload_n (pc := 83) C dX0_creaks_83 rfl ?_
            refine mx_bipush (pc := 84) C dX0_creaks_84 (z := 10) rfl (by constructor <;> decide) ?_
            obtain ⟨q21, hq21, h⟩ := of_bd h
            refine mc_V (pc := 86) (as := [aI 10]) (rest := []) (stk2 := []) C ⟨Nat.le_refl _, Nat.le_refl _⟩ (m_X0_begin hOM hq21) mi_X0_begin mv_X0_begin ml_X0_38 ci_0 rfl so_0 (by omega) rfl (Nat.le_of_ble_eq_true rfl) dX0_creaks_86 rfl (fun hp22 => ?_)
            have hOq21 : OK q21.2 := hp22
            refine mx_iload_n (pc := 89) C dX0_creaks_89 rfl ?_
            refine mx_aload_n (pc := 90) C dX0_creaks_90 rfl ?_
            refine mx_getI (pc := 91) C dX0_creaks_91 so_0 ci_0 (k := 3) (by decide) fl_X0_19 rfl (q := 3) rfl ?_
            refine mx_iadd (pc := 94) C dX0_creaks_94  ?_
            rw [← Option.some.inj h]
            exact mx_ireturn (pc := 95) C dX0_creaks_95 hOq21 ⟨Nat.le_refl _, Nat.le_refl _⟩
          · refine mx_tin (pc := 1) (tgt := 83) C 3 dX0_creaks_1 hs (by decide) (by decide) rfl rfl ?_
            refine mx_aload_n (pc := 83) C dX0_creaks_83 rfl ?_
            refine mx_bipush (pc := 84) C dX0_creaks_84 (z := 10) rfl (by constructor <;> decide) ?_
            obtain ⟨q21, hq21, h⟩ := of_bd h
            refine mc_V (pc := 86) (as := [aI 10]) (rest := []) (stk2 := []) C ⟨Nat.le_refl _, Nat.le_refl _⟩ (m_X0_begin hOM hq21) mi_X0_begin mv_X0_begin ml_X0_38 ci_0 rfl so_0 (by omega) rfl (Nat.le_of_ble_eq_true rfl) dX0_creaks_86 rfl (fun hp22 => ?_)
            have hOq21 : OK q21.2 := hp22
            refine mx_iload_n (pc := 89) C dX0_creaks_89 rfl ?_
            refine mx_aload_n (pc := 90) C dX0_creaks_90 rfl ?_
            refine mx_getI (pc := 91) C dX0_creaks_91 so_0 ci_0 (k := 3) (by decide) fl_X0_19 rfl (q := 3) rfl ?_
            refine mx_iadd (pc := 94) C dX0_creaks_94  ?_
            rw [← Option.some.inj h]
            exact mx_ireturn (pc := 95) C dX0_creaks_95 hOq21 ⟨Nat.le_refl _, Nat.le_refl _⟩
def f_X0_creaks : Nat → Int → Int → Mem → Option (Int × Mem)
  | 0, _, _, _ => none
  | n + 1, p1, p2, M => s_X0_creaks (f_X0_creaks n) p1 p2 M
theorem mg_X0_creaks : ∀ (n : Nat) (p1 : Int) (p2 : Int) (M : Mem) (res : Int × Mem), OK M → f_X0_creaks n p1 p2 M = some res → Mth false yX0_creaks cX0_creaks 3 (some .int) (2 * n) 0 0 SH [aR 13, aI p1, aI p2] M (some (aI res.1)) SH res.2 (OK res.2) := by
  intro n
  induction n with
  | zero =>
    intro p1 p2 M res hO h
    cases h
  | succ n ih =>
    intro p1 p2 M res hO h
    rw [f_X0_creaks.eq_2] at h
    exact mr_X0_creaks (d := 2 * (n + 1)) (d_X0_creaks := 2 * n) (by omega) (by omega) ih hO h
theorem m_X0_creaks {p1 : Int} {p2 : Int} {M : Mem} {res : Int × Mem} (hO : OK M) (h : f_X0_creaks 4 p1 p2 M = some res) : Mth false yX0_creaks cX0_creaks 3 (some .int) 8 0 0 SH [aR 13, aI p1, aI p2] M (some (aI res.1)) SH res.2 (OK res.2) := mg_X0_creaks 4 p1 p2 M res hO h

def s_X0_rings (rc : Int → Int → Mem → Option (Int × Mem)) (p1 : Int) (p2 : Int) (M : Mem) : Option (Int × Mem) :=
  if p1 = 1 then (f_X0_begin 20 M).bind (fun q2 => (rc 0 p2 q2.2).bind (fun q4 => some (xor32 q4.1 6, q4.2))) else if p1 = 4 then (f_X0_begin 51 M).bind (fun q7 => (rc 1 (w32 (p2 + 1)) q7.2).bind (fun q9 => some (q9.1, q9.2))) else if p1 = 6 then (f_X0_begin 70 M).bind (fun q12 => (rc 3 p2 q12.2).bind (fun q14 => (f_X0_creaks 4 3 2 q14.2).bind (fun q16 => some (w32 (q14.1 + q16.1), q16.2)))) else (f_X0_begin 11 M).bind (fun q18 => (f_X0_creaks 4 (q18.2 13 2) p2 q18.2).bind (fun q20 => some (w32 (q20.1 - (q20.2 13 4)), q20.2)))
set_option maxRecDepth 20000 in
set_option maxHeartbeats 4000000 in
theorem mr_X0_rings {d : Nat} {d_X0_rings : Nat} {p1 : Int} {p2 : Int} {M : Mem} {res : Int × Mem} {rc : Int → Int → Mem → Option (Int × Mem)} (hdc : 9 ≤ d) (hd_X0_rings : d_X0_rings + 1 ≤ d) (hrc : ∀ (p1 : Int) (p2 : Int) (M : Mem) (res : Int × Mem), OK M → rc p1 p2 M = some res → Mth false yX0_rings cX0_rings 4 (some .int) d_X0_rings 0 0 SH [aR 13, aI p1, aI p2] M (some (aI res.1)) SH res.2 (OK res.2)) (hOM : OK M) (h : s_X0_rings rc p1 p2 M = some res) : Mth false yX0_rings cX0_rings 4 (some .int) d 0 0 SH [aR 13, aI p1, aI p2] M (some (aI res.1)) SH res.2 (OK res.2) := by
  refine Mth.of (by decide +kernel) (Nat.le_of_ble_eq_true rfl) (fun K B C => ?_)
  show Wx K B _ 0 0 SH 4 M 0 [some (aR 13), some (aI p1), some (aI p2), none] []
  unfold s_X0_rings at h
  refine mx_iload_n (pc := 0) C dX0_rings_0 rfl ?_
  by_cases c1 : p1 = 1
  · rw [if_pos c1] at h
    refine mx_lsw (pc := 1) (tgt := 73) (off := 72) C dX0_rings_1 (by decide) (by rw [c1]; rfl) rfl ?_
    refine mx_aload_n (pc := 73) C dX0_rings_73 rfl ?_
    refine mx_bipush (pc := 74) C dX0_rings_74 (z := 20) rfl (by constructor <;> decide) ?_
    obtain ⟨q2, hq2, h⟩ := of_bd h
    refine mc_V (pc := 76) (as := [aI 20]) (rest := []) (stk2 := []) C ⟨Nat.le_refl _, Nat.le_refl _⟩ (m_X0_begin hOM hq2) mi_X0_begin mv_X0_begin ml_X0_38 ci_0 rfl so_0 (by omega) rfl (Nat.le_of_ble_eq_true rfl) dX0_rings_76 rfl (fun hp3 => ?_)
    have hOq2 : OK q2.2 := hp3
    refine mx_aload_n (pc := 79) C dX0_rings_79 rfl ?_
    refine mx_iconst (pc := 80) C dX0_rings_80 (z := 0) rfl (by constructor <;> decide) ?_
    refine mx_iload_n (pc := 81) C dX0_rings_81 rfl ?_
    obtain ⟨q4, hq4, h⟩ := of_bd h
    refine mc_V (pc := 82) (as := [aI 0, aI p2]) (rest := []) (stk2 := [aI q4.1]) C ⟨Nat.le_refl _, Nat.le_refl _⟩ (hrc 0 p2 q2.2 _ hOq2 hq4) mi_X0_rings mv_X0_rings ml_X0_29 ci_0 rfl so_0 (by omega) rfl (Nat.le_of_ble_eq_true rfl) dX0_rings_82 rfl (fun hp5 => ?_)
    have hOq4 : OK q4.2 := hp5
    refine mx_bipush (pc := 85) C dX0_rings_85 (z := 6) rfl (by constructor <;> decide) ?_
    refine mx_ixor (pc := 87) C dX0_rings_87  ?_
    rw [← Option.some.inj h]
    exact mx_ireturn (pc := 88) C dX0_rings_88 hOq4 ⟨Nat.le_refl _, Nat.le_refl _⟩
  · rw [if_neg c1] at h
    by_cases c6 : p1 = 4
    · rw [if_pos c6] at h
      refine mx_lsw (pc := 1) (tgt := 58) (off := 57) C dX0_rings_1 (by decide) (by rw [c6]; rfl) rfl ?_
      refine mx_aload_n (pc := 58) C dX0_rings_58 rfl ?_
      refine mx_bipush (pc := 59) C dX0_rings_59 (z := 51) rfl (by constructor <;> decide) ?_
      obtain ⟨q7, hq7, h⟩ := of_bd h
      refine mc_V (pc := 61) (as := [aI 51]) (rest := []) (stk2 := []) C ⟨Nat.le_refl _, Nat.le_refl _⟩ (m_X0_begin hOM hq7) mi_X0_begin mv_X0_begin ml_X0_38 ci_0 rfl so_0 (by omega) rfl (Nat.le_of_ble_eq_true rfl) dX0_rings_61 rfl (fun hp8 => ?_)
      have hOq7 : OK q7.2 := hp8
      refine mx_aload_n (pc := 64) C dX0_rings_64 rfl ?_
      refine mx_iconst (pc := 65) C dX0_rings_65 (z := 1) rfl (by constructor <;> decide) ?_
      refine mx_iload_n (pc := 66) C dX0_rings_66 rfl ?_
      refine mx_iconst (pc := 67) C dX0_rings_67 (z := 1) rfl (by constructor <;> decide) ?_
      refine mx_iadd (pc := 68) C dX0_rings_68  ?_
      obtain ⟨q9, hq9, h⟩ := of_bd h
      refine mc_V (pc := 69) (as := [aI 1, aI (w32 (p2 + 1))]) (rest := []) (stk2 := [aI q9.1]) C ⟨Nat.le_refl _, Nat.le_refl _⟩ (hrc 1 (w32 (p2 + 1)) q7.2 _ hOq7 hq9) mi_X0_rings mv_X0_rings ml_X0_29 ci_0 rfl so_0 (by omega) rfl (Nat.le_of_ble_eq_true rfl) dX0_rings_69 rfl (fun hp10 => ?_)
      have hOq9 : OK q9.2 := hp10
      rw [← Option.some.inj h]
      exact mx_ireturn (pc := 72) C dX0_rings_72 hOq9 ⟨Nat.le_refl _, Nat.le_refl _⟩
    · rw [if_neg c6] at h
      by_cases c11 : p1 = 6
      · rw [if_pos c11] at h
        refine mx_lsw (pc := 1) (tgt := 36) (off := 35) C dX0_rings_1 (by decide) (by rw [c11]; rfl) rfl ?_
        refine mx_aload_n (pc := 36) C dX0_rings_36 rfl ?_
        refine mx_bipush (pc := 37) C dX0_rings_37 (z := 70) rfl (by constructor <;> decide) ?_
        obtain ⟨q12, hq12, h⟩ := of_bd h
        refine mc_V (pc := 39) (as := [aI 70]) (rest := []) (stk2 := []) C ⟨Nat.le_refl _, Nat.le_refl _⟩ (m_X0_begin hOM hq12) mi_X0_begin mv_X0_begin ml_X0_38 ci_0 rfl so_0 (by omega) rfl (Nat.le_of_ble_eq_true rfl) dX0_rings_39 rfl (fun hp13 => ?_)
        have hOq12 : OK q12.2 := hp13
        refine mx_aload_n (pc := 42) C dX0_rings_42 rfl ?_
        refine mx_iconst (pc := 43) C dX0_rings_43 (z := 3) rfl (by constructor <;> decide) ?_
        refine mx_iload_n (pc := 44) C dX0_rings_44 rfl ?_
        obtain ⟨q14, hq14, h⟩ := of_bd h
        refine mc_V (pc := 45) (as := [aI 3, aI p2]) (rest := []) (stk2 := [aI q14.1]) C ⟨Nat.le_refl _, Nat.le_refl _⟩ (hrc 3 p2 q12.2 _ hOq12 hq14) mi_X0_rings mv_X0_rings ml_X0_29 ci_0 rfl so_0 (by omega) rfl (Nat.le_of_ble_eq_true rfl) dX0_rings_45 rfl (fun hp15 => ?_)
        have hOq14 : OK q14.2 := hp15
        refine mx_istore_n (pc := 48) C dX0_rings_48 (ls' := [some (aR 13), some (aI p1), some (aI p2), some (aI q14.1)]) (by decide) rfl rfl ?_
        refine mx_iload_n (pc := 49) C dX0_rings_49 rfl ?_
        refine mx_aload_n (pc := 50) C dX0_rings_50 rfl ?_
        refine mx_iconst (pc := 51) C dX0_rings_51 (z := 3) rfl (by constructor <;> decide) ?_
        refine mx_iconst (pc := 52) C dX0_rings_52 (z := 2) rfl (by constructor <;> decide) ?_
        obtain ⟨q16, hq16, h⟩ := of_bd h
        refine mc_V (pc := 53) (as := [aI 3, aI 2]) (rest := [aI q14.1]) (stk2 := [aI q16.1, aI q14.1]) C ⟨Nat.le_refl _, Nat.le_refl _⟩ (m_X0_creaks hOq14 hq16) mi_X0_creaks mv_X0_creaks ml_X0_25 ci_0 rfl so_0 (by omega) rfl (Nat.le_of_ble_eq_true rfl) dX0_rings_53 rfl (fun hp17 => ?_)
        have hOq16 : OK q16.2 := hp17
        refine mx_iadd (pc := 56) C dX0_rings_56  ?_
        rw [← Option.some.inj h]
        exact mx_ireturn (pc := 57) C dX0_rings_57 hOq16 ⟨Nat.le_refl _, Nat.le_refl _⟩
      · rw [if_neg c11] at h
        refine mx_lsw (pc := 1) (tgt := 89) (off := 88) C dX0_rings_1 (by decide) (by show Op.lookupswitch.offset [(1, 72), (4, 57), (6, 35)] _ _ = _; rw [Op.lookupswitch.offset_cons, if_neg (fun e => c1 e.symm), Op.lookupswitch.offset_cons, if_neg (fun e => c6 e.symm), Op.lookupswitch.offset_cons, if_neg (fun e => c11 e.symm)]; rfl) rfl ?_
        refine mx_aload_n (pc := 89) C dX0_rings_89 rfl ?_
        refine mx_bipush (pc := 90) C dX0_rings_90 (z := 11) rfl (by constructor <;> decide) ?_
        obtain ⟨q18, hq18, h⟩ := of_bd h
        refine mc_V (pc := 92) (as := [aI 11]) (rest := []) (stk2 := []) C ⟨Nat.le_refl _, Nat.le_refl _⟩ (m_X0_begin hOM hq18) mi_X0_begin mv_X0_begin ml_X0_38 ci_0 rfl so_0 (by omega) rfl (Nat.le_of_ble_eq_true rfl) dX0_rings_92 rfl (fun hp19 => ?_)
        have hOq18 : OK q18.2 := hp19
        refine mx_aload_n (pc := 95) C dX0_rings_95 rfl ?_
        refine mx_aload_n (pc := 96) C dX0_rings_96 rfl ?_
        refine mx_getI (pc := 97) C dX0_rings_97 so_0 ci_0 (k := 2) (by decide) fl_X0_15 rfl (q := 2) rfl ?_
        refine mx_iload_n (pc := 100) C dX0_rings_100 rfl ?_
        obtain ⟨q20, hq20, h⟩ := of_bd h
        refine mc_V (pc := 101) (as := [aI (q18.2 13 2), aI p2]) (rest := []) (stk2 := [aI q20.1]) C ⟨Nat.le_refl _, Nat.le_refl _⟩ (m_X0_creaks hOq18 hq20) mi_X0_creaks mv_X0_creaks ml_X0_25 ci_0 rfl so_0 (by omega) rfl (Nat.le_of_ble_eq_true rfl) dX0_rings_101 rfl (fun hp21 => ?_)
        have hOq20 : OK q20.2 := hp21
        refine mx_aload_n (pc := 104) C dX0_rings_104 rfl ?_
        refine mx_getI (pc := 105) C dX0_rings_105 so_0 ci_0 (k := 4) (by decide) fl_X0_22 rfl (q := 4) rfl ?_
        refine mx_isub (pc := 108) C dX0_rings_108  ?_
        rw [← Option.some.inj h]
        exact mx_ireturn (pc := 109) C dX0_rings_109 hOq20 ⟨Nat.le_refl _, Nat.le_refl _⟩
def f_X0_rings : Nat → Int → Int → Mem → Option (Int × Mem)
  | 0, _, _, _ => none
  | n + 1, p1, p2, M => s_X0_rings (f_X0_rings n) p1 p2 M
theorem mg_X0_rings : ∀ (n : Nat) (p1 : Int) (p2 : Int) (M : Mem) (res : Int × Mem), OK M → f_X0_rings n p1 p2 M = some res → Mth false yX0_rings cX0_rings 4 (some .int) (9 * n) 0 0 SH [aR 13, aI p1, aI p2] M (some (aI res.1)) SH res.2 (OK res.2) := by
  intro n
  induction n with
  | zero =>
    intro p1 p2 M res hO h
    cases h
  | succ n ih =>
    intro p1 p2 M res hO h
    rw [f_X0_rings.eq_2] at h
    exact mr_X0_rings (d := 9 * (n + 1)) (d_X0_rings := 9 * n) (by omega) (by omega) ih hO h
theorem m_X0_rings {p1 : Int} {p2 : Int} {M : Mem} {res : Int × Mem} (hO : OK M) (h : f_X0_rings 4 p1 p2 M = some res) : Mth false yX0_rings cX0_rings 4 (some .int) 36 0 0 SH [aR 13, aI p1, aI p2] M (some (aI res.1)) SH res.2 (OK res.2) := mg_X0_rings 4 p1 p2 M res hO h

def s_X0_tells (rc : Int → Int → Mem → Option (Int × Mem)) (p1 : Int) (p2 : Int) (M : Mem) : Option (Int × Mem) :=
  if p1 = 3 then (f_X0_begin 40 M).bind (fun q2 => (rc 0 p2 q2.2).bind (fun q4 => (f_X0_rings 4 (q4.2 13 2) 1 q4.2).bind (fun q6 => some (w32 (q4.1 + q6.1), q6.2)))) else if p1 = 5 then (f_X0_begin 60 M).bind (fun q9 => (rc 2 (w32 (p2 - (q9.2 13 3))) q9.2).bind (fun q11 => some (q11.1, q11.2))) else if p1 = 6 then (f_X0_begin 40 M).bind (fun q14 => (rc 0 p2 q14.2).bind (fun q16 => (f_X0_rings 4 (q16.2 13 2) 1 q16.2).bind (fun q18 => some (w32 (q16.1 + q18.1), q18.2)))) else (f_X0_begin 12 M).bind (fun q20 => (f_X0_rings 4 (q20.2 13 2) p2 q20.2).bind (fun q22 => some (w32 (q22.1 * 2), q22.2)))
set_option maxRecDepth 20000 in
set_option maxHeartbeats 4000000 in
theorem mr_X0_tells {d : Nat} {d_X0_tells : Nat} {p1 : Int} {p2 : Int} {M : Mem} {res : Int × Mem} {rc : Int → Int → Mem → Option (Int × Mem)} (hdc : 37 ≤ d) (hd_X0_tells : d_X0_tells + 1 ≤ d) (hrc : ∀ (p1 : Int) (p2 : Int) (M : Mem) (res : Int × Mem), OK M → rc p1 p2 M = some res → Mth false yX0_tells cX0_tells 4 (some .int) d_X0_tells 0 0 SH [aR 13, aI p1, aI p2] M (some (aI res.1)) SH res.2 (OK res.2)) (hOM : OK M) (h : s_X0_tells rc p1 p2 M = some res) : Mth false yX0_tells cX0_tells 4 (some .int) d 0 0 SH [aR 13, aI p1, aI p2] M (some (aI res.1)) SH res.2 (OK res.2) := by
  refine Mth.of (by decide +kernel) (Nat.le_of_ble_eq_true rfl) (fun K B C => ?_)
  show Wx K B _ 0 0 SH 4 M 0 [some (aR 13), some (aI p1), some (aI p2), none] []
  unfold s_X0_tells at h
  refine mx_iload_n (pc := 0) C dX0_tells_0 rfl ?_
  by_cases c1 : p1 = 3
  · rw [if_pos c1] at h
    refine mx_tin (pc := 1) (tgt := 50) C 3 dX0_tells_1 c1 (by decide) (by decide) rfl rfl ?_
    refine mx_aload_n (pc := 50) C dX0_tells_50 rfl ?_
    refine mx_bipush (pc := 51) C dX0_tells_51 (z := 40) rfl (by constructor <;> decide) ?_
    obtain ⟨q2, hq2, h⟩ := of_bd h
    refine mc_V (pc := 53) (as := [aI 40]) (rest := []) (stk2 := []) C ⟨Nat.le_refl _, Nat.le_refl _⟩ (m_X0_begin hOM hq2) mi_X0_begin mv_X0_begin ml_X0_38 ci_0 rfl so_0 (by omega) rfl (Nat.le_of_ble_eq_true rfl) dX0_tells_53 rfl (fun hp3 => ?_)
    have hOq2 : OK q2.2 := hp3
    refine mx_aload_n (pc := 56) C dX0_tells_56 rfl ?_
    refine mx_iconst (pc := 57) C dX0_tells_57 (z := 0) rfl (by constructor <;> decide) ?_
    refine mx_iload_n (pc := 58) C dX0_tells_58 rfl ?_
    obtain ⟨q4, hq4, h⟩ := of_bd h
    refine mc_V (pc := 59) (as := [aI 0, aI p2]) (rest := []) (stk2 := [aI q4.1]) C ⟨Nat.le_refl _, Nat.le_refl _⟩ (hrc 0 p2 q2.2 _ hOq2 hq4) mi_X0_tells mv_X0_tells ml_X0_32 ci_0 rfl so_0 (by omega) rfl (Nat.le_of_ble_eq_true rfl) dX0_tells_59 rfl (fun hp5 => ?_)
    have hOq4 : OK q4.2 := hp5
    refine mx_istore_n (pc := 62) C dX0_tells_62 (ls' := [some (aR 13), some (aI p1), some (aI p2), some (aI q4.1)]) (by decide) rfl rfl ?_
    refine mx_iload_n (pc := 63) C dX0_tells_63 rfl ?_
    refine mx_aload_n (pc := 64) C dX0_tells_64 rfl ?_
    refine mx_aload_n (pc := 65) C dX0_tells_65 rfl ?_
    refine mx_getI (pc := 66) C dX0_tells_66 so_0 ci_0 (k := 2) (by decide) fl_X0_15 rfl (q := 2) rfl ?_
    refine mx_iconst (pc := 69) C dX0_tells_69 (z := 1) rfl (by constructor <;> decide) ?_
    obtain ⟨q6, hq6, h⟩ := of_bd h
    refine mc_V (pc := 70) (as := [aI (q4.2 13 2), aI 1]) (rest := [aI q4.1]) (stk2 := [aI q6.1, aI q4.1]) C ⟨Nat.le_refl _, Nat.le_refl _⟩ (m_X0_rings hOq4 hq6) mi_X0_rings mv_X0_rings ml_X0_29 ci_0 rfl so_0 (by omega) rfl (Nat.le_of_ble_eq_true rfl) dX0_tells_70 rfl (fun hp7 => ?_)
    have hOq6 : OK q6.2 := hp7
    refine mx_iadd (pc := 73) C dX0_tells_73  ?_
    rw [← Option.some.inj h]
    exact mx_ireturn (pc := 74) C dX0_tells_74 hOq6 ⟨Nat.le_refl _, Nat.le_refl _⟩
  · rw [if_neg c1] at h
    by_cases c8 : p1 = 5
    · rw [if_pos c8] at h
      refine mx_tin (pc := 1) (tgt := 32) C 5 dX0_tells_1 c8 (by decide) (by decide) rfl rfl ?_
      refine mx_aload_n (pc := 32) C dX0_tells_32 rfl ?_
      refine mx_bipush (pc := 33) C dX0_tells_33 (z := 60) rfl (by constructor <;> decide) ?_
      obtain ⟨q9, hq9, h⟩ := of_bd h
      refine mc_V (pc := 35) (as := [aI 60]) (rest := []) (stk2 := []) C ⟨Nat.le_refl _, Nat.le_refl _⟩ (m_X0_begin hOM hq9) mi_X0_begin mv_X0_begin ml_X0_38 ci_0 rfl so_0 (by omega) rfl (Nat.le_of_ble_eq_true rfl) dX0_tells_35 rfl (fun hp10 => ?_)
      have hOq9 : OK q9.2 := hp10
      refine mx_aload_n (pc := 38) C dX0_tells_38 rfl ?_
      refine mx_iconst (pc := 39) C dX0_tells_39 (z := 2) rfl (by constructor <;> decide) ?_
      refine mx_iload_n (pc := 40) C dX0_tells_40 rfl ?_
      refine mx_aload_n (pc := 41) C dX0_tells_41 rfl ?_
      refine mx_getI (pc := 42) C dX0_tells_42 so_0 ci_0 (k := 3) (by decide) fl_X0_19 rfl (q := 3) rfl ?_
      refine mx_isub (pc := 45) C dX0_tells_45  ?_
      obtain ⟨q11, hq11, h⟩ := of_bd h
      refine mc_V (pc := 46) (as := [aI 2, aI (w32 (p2 - (q9.2 13 3)))]) (rest := []) (stk2 := [aI q11.1]) C ⟨Nat.le_refl _, Nat.le_refl _⟩ (hrc 2 (w32 (p2 - (q9.2 13 3))) q9.2 _ hOq9 hq11) mi_X0_tells mv_X0_tells ml_X0_32 ci_0 rfl so_0 (by omega) rfl (Nat.le_of_ble_eq_true rfl) dX0_tells_46 rfl (fun hp12 => ?_)
      have hOq11 : OK q11.2 := hp12
      rw [← Option.some.inj h]
      exact mx_ireturn (pc := 49) C dX0_tells_49 hOq11 ⟨Nat.le_refl _, Nat.le_refl _⟩
    · rw [if_neg c8] at h
      by_cases c13 : p1 = 6
      · rw [if_pos c13] at h
        refine mx_tin (pc := 1) (tgt := 50) C 6 dX0_tells_1 c13 (by decide) (by decide) rfl rfl ?_
        refine mx_aload_n (pc := 50) C dX0_tells_50 rfl ?_
        refine mx_bipush (pc := 51) C dX0_tells_51 (z := 40) rfl (by constructor <;> decide) ?_
        obtain ⟨q14, hq14, h⟩ := of_bd h
        refine mc_V (pc := 53) (as := [aI 40]) (rest := []) (stk2 := []) C ⟨Nat.le_refl _, Nat.le_refl _⟩ (m_X0_begin hOM hq14) mi_X0_begin mv_X0_begin ml_X0_38 ci_0 rfl so_0 (by omega) rfl (Nat.le_of_ble_eq_true rfl) dX0_tells_53 rfl (fun hp15 => ?_)
        have hOq14 : OK q14.2 := hp15
        refine mx_aload_n (pc := 56) C dX0_tells_56 rfl ?_
        refine mx_iconst (pc := 57) C dX0_tells_57 (z := 0) rfl (by constructor <;> decide) ?_
        refine mx_iload_n (pc := 58) C dX0_tells_58 rfl ?_
        obtain ⟨q16, hq16, h⟩ := of_bd h
        refine mc_V (pc := 59) (as := [aI 0, aI p2]) (rest := []) (stk2 := [aI q16.1]) C ⟨Nat.le_refl _, Nat.le_refl _⟩ (hrc 0 p2 q14.2 _ hOq14 hq16) mi_X0_tells mv_X0_tells ml_X0_32 ci_0 rfl so_0 (by omega) rfl (Nat.le_of_ble_eq_true rfl) dX0_tells_59 rfl (fun hp17 => ?_)
        have hOq16 : OK q16.2 := hp17
        refine mx_istore_n (pc := 62) C dX0_tells_62 (ls' := [some (aR 13), some (aI p1), some (aI p2), some (aI q16.1)]) (by decide) rfl rfl ?_
        refine mx_iload_n (pc := 63) C dX0_tells_63 rfl ?_
        refine mx_aload_n (pc := 64) C dX0_tells_64 rfl ?_
        refine mx_aload_n (pc := 65) C dX0_tells_65 rfl ?_
        refine mx_getI (pc := 66) C dX0_tells_66 so_0 ci_0 (k := 2) (by decide) fl_X0_15 rfl (q := 2) rfl ?_
        refine mx_iconst (pc := 69) C dX0_tells_69 (z := 1) rfl (by constructor <;> decide) ?_
        obtain ⟨q18, hq18, h⟩ := of_bd h
        refine mc_V (pc := 70) (as := [aI (q16.2 13 2), aI 1]) (rest := [aI q16.1]) (stk2 := [aI q18.1, aI q16.1]) C ⟨Nat.le_refl _, Nat.le_refl _⟩ (m_X0_rings hOq16 hq18) mi_X0_rings mv_X0_rings ml_X0_29 ci_0 rfl so_0 (by omega) rfl (Nat.le_of_ble_eq_true rfl) dX0_tells_70 rfl (fun hp19 => ?_)
        have hOq18 : OK q18.2 := hp19
        refine mx_iadd (pc := 73) C dX0_tells_73  ?_
        rw [← Option.some.inj h]
        exact mx_ireturn (pc := 74) C dX0_tells_74 hOq18 ⟨Nat.le_refl _, Nat.le_refl _⟩
      · rw [if_neg c13] at h
        rcases (by omega : (p1 < 3 ∨ 6 < p1) ∨ p1 = 4) with hs | hs
        · refine mx_tout (pc := 1) (tgt := 75) C dX0_tells_1 hs rfl ?_
          refine mx_aload_n (pc := 75) C dX0_tells_75 rfl ?_
          refine mx_bipush (pc := 76) C dX0_tells_76 (z := 12) rfl (by constructor <;> decide) ?_
          obtain ⟨q20, hq20, h⟩ := of_bd h
          refine mc_V (pc := 78) (as := [aI 12]) (rest := []) (stk2 := []) C ⟨Nat.le_refl _, Nat.le_refl _⟩ (m_X0_begin hOM hq20) mi_X0_begin mv_X0_begin ml_X0_38 ci_0 rfl so_0 (by omega) rfl (Nat.le_of_ble_eq_true rfl) dX0_tells_78 rfl (fun hp21 => ?_)
          have hOq20 : OK q20.2 := hp21
          refine mx_aload_n (pc := 81) C dX0_tells_81 rfl ?_
          refine mx_aload_n (pc := 82) C dX0_tells_82 rfl ?_
          refine mx_getI (pc := 83) C dX0_tells_83 so_0 ci_0 (k := 2) (by decide) fl_X0_15 rfl (q := 2) rfl ?_
          refine mx_iload_n (pc := 86) C dX0_tells_86 rfl ?_
          obtain ⟨q22, hq22, h⟩ := of_bd h
          refine mc_V (pc := 87) (as := [aI (q20.2 13 2), aI p2]) (rest := []) (stk2 := [aI q22.1]) C ⟨Nat.le_refl _, Nat.le_refl _⟩ (m_X0_rings hOq20 hq22) mi_X0_rings mv_X0_rings ml_X0_29 ci_0 rfl so_0 (by omega) rfl (Nat.le_of_ble_eq_true rfl) dX0_tells_87 rfl (fun hp23 => ?_)
          have hOq22 : OK q22.2 := hp23
          refine mx_iconst (pc := 90) C dX0_tells_90 (z := 2) rfl (by constructor <;> decide) ?_
          refine mx_imul (pc := 91) C dX0_tells_91  ?_
          rw [← Option.some.inj h]
          exact mx_ireturn (pc := 92) C dX0_tells_92 hOq22 ⟨Nat.le_refl _, Nat.le_refl _⟩
        · refine mx_tin (pc := 1) (tgt := 75) C 4 dX0_tells_1 hs (by decide) (by decide) rfl rfl ?_
          refine mx_aload_n (pc := 75) C dX0_tells_75 rfl ?_
          refine mx_bipush (pc := 76) C dX0_tells_76 (z := 12) rfl (by constructor <;> decide) ?_
          obtain ⟨q20, hq20, h⟩ := of_bd h
          refine mc_V (pc := 78) (as := [aI 12]) (rest := []) (stk2 := []) C ⟨Nat.le_refl _, Nat.le_refl _⟩ (m_X0_begin hOM hq20) mi_X0_begin mv_X0_begin ml_X0_38 ci_0 rfl so_0 (by omega) rfl (Nat.le_of_ble_eq_true rfl) dX0_tells_78 rfl (fun hp21 => ?_)
          have hOq20 : OK q20.2 := hp21
          refine mx_aload_n (pc := 81) C dX0_tells_81 rfl ?_
          refine mx_aload_n (pc := 82) C dX0_tells_82 rfl ?_
          refine mx_getI (pc := 83) C dX0_tells_83 so_0 ci_0 (k := 2) (by decide) fl_X0_15 rfl (q := 2) rfl ?_
          refine mx_iload_n (pc := 86) C dX0_tells_86 rfl ?_
          obtain ⟨q22, hq22, h⟩ := of_bd h
          refine mc_V (pc := 87) (as := [aI (q20.2 13 2), aI p2]) (rest := []) (stk2 := [aI q22.1]) C ⟨Nat.le_refl _, Nat.le_refl _⟩ (m_X0_rings hOq20 hq22) mi_X0_rings mv_X0_rings ml_X0_29 ci_0 rfl so_0 (by omega) rfl (Nat.le_of_ble_eq_true rfl) dX0_tells_87 rfl (fun hp23 => ?_)
          have hOq22 : OK q22.2 := hp23
          refine mx_iconst (pc := 90) C dX0_tells_90 (z := 2) rfl (by constructor <;> decide) ?_
          refine mx_imul (pc := 91) C dX0_tells_91  ?_
          rw [← Option.some.inj h]
          exact mx_ireturn (pc := 92) C dX0_tells_92 hOq22 ⟨Nat.le_refl _, Nat.le_refl _⟩
def f_X0_tells : Nat → Int → Int → Mem → Option (Int × Mem)
  | 0, _, _, _ => none
  | n + 1, p1, p2, M => s_X0_tells (f_X0_tells n) p1 p2 M
theorem mg_X0_tells : ∀ (n : Nat) (p1 : Int) (p2 : Int) (M : Mem) (res : Int × Mem), OK M → f_X0_tells n p1 p2 M = some res → Mth false yX0_tells cX0_tells 4 (some .int) (37 * n) 0 0 SH [aR 13, aI p1, aI p2] M (some (aI res.1)) SH res.2 (OK res.2) := by
  intro n
  induction n with
  | zero =>
    intro p1 p2 M res hO h
    cases h
  | succ n ih =>
    intro p1 p2 M res hO h
    rw [f_X0_tells.eq_2] at h
    exact mr_X0_tells (d := 37 * (n + 1)) (d_X0_tells := 37 * n) (by omega) (by omega) ih hO h
theorem m_X0_tells {p1 : Int} {p2 : Int} {M : Mem} {res : Int × Mem} (hO : OK M) (h : f_X0_tells 4 p1 p2 M = some res) : Mth false yX0_tells cX0_tells 4 (some .int) 148 0 0 SH [aR 13, aI p1, aI p2] M (some (aI res.1)) SH res.2 (OK res.2) := mg_X0_tells 4 p1 p2 M res hO h

def f_X0_perform (p1 : Int) (p2 : Int) (p3 : Int) (p4 : Int) (p5 : Int) (M : Mem) : Option (Int × Mem) :=
  lt (stM M 13 2 p1) (fun M1 => lt (stM M1 13 3 p2) (fun M2 => lt (stM M2 13 4 p3) (fun M3 => if p4 = 0 then (f_X0_creaks 4 (M3 13 2) p5 M3).bind (fun q5 => some (q5.1, q5.2)) else if p4 = 1 then (f_X0_rings 4 (M3 13 2) p5 M3).bind (fun q8 => some (q8.1, q8.2)) else if p4 = 2 then (f_X0_tells 4 (M3 13 2) p5 M3).bind (fun q11 => some (q11.1, q11.2)) else some (0, M3))))
set_option maxRecDepth 20000 in
set_option maxHeartbeats 4000000 in
theorem m_X0_perform {p1 : Int} {p2 : Int} {p3 : Int} {p4 : Int} {p5 : Int} {M : Mem} {res : Int × Mem} (hOM : OK M) (h : f_X0_perform p1 p2 p3 p4 p5 M = some res) : Mth false yX0_perform cX0_perform 6 (some .int) 149 0 0 SH [aR 13, aI p1, aI p2, aI p3, aI p4, aI p5] M (some (aI res.1)) SH res.2 (OK res.2) := by
  refine Mth.of (by decide +kernel) (Nat.le_of_ble_eq_true rfl) (fun K B C => ?_)
  show Wx K B _ 0 0 SH 6 M 0 [some (aR 13), some (aI p1), some (aI p2), some (aI p3), some (aI p4), some (aI p5)] []
  unfold f_X0_perform at h
  refine mx_aload_n (pc := 0) C dX0_perform_0 rfl ?_
  refine mx_iload_n (pc := 1) C dX0_perform_1 rfl ?_
  refine mx_putI (pc := 2) C dX0_perform_2 so_0 ci_0 (k := 2) (by decide) fl_X0_15 (Or.inl rfl) rfl (q := 2) rfl ?_
  generalize hmM1 : stM M 13 2 p1 = M1 at h ⊢
  replace h := lt_e h
  have hOM1 : OK M1 := by rw [← hmM1]; exact okf_0_2 hOM
  refine mx_aload_n (pc := 5) C dX0_perform_5 rfl ?_
  refine mx_iload_n (pc := 6) C dX0_perform_6 rfl ?_
  refine mx_putI (pc := 7) C dX0_perform_7 so_0 ci_0 (k := 3) (by decide) fl_X0_19 (Or.inl rfl) rfl (q := 3) rfl ?_
  generalize hmM2 : stM M1 13 3 p2 = M2 at h ⊢
  replace h := lt_e h
  have hOM2 : OK M2 := by rw [← hmM2]; exact okf_0_3 hOM1
  refine mx_aload_n (pc := 10) C dX0_perform_10 rfl ?_
  refine mx_iload_n (pc := 11) C dX0_perform_11 rfl ?_
  refine mx_putI (pc := 12) C dX0_perform_12 so_0 ci_0 (k := 4) (by decide) fl_X0_22 (Or.inl rfl) rfl (q := 4) rfl ?_
  generalize hmM3 : stM M2 13 4 p3 = M3 at h ⊢
  replace h := lt_e h
  have hOM3 : OK M3 := by rw [← hmM3]; exact okf_0_4 hOM2
  refine mx_iload (pc := 15) C dX0_perform_15 rfl ?_
  by_cases c4 : p4 = 0
  · rw [if_pos c4] at h
    refine mx_tin (pc := 17) (tgt := 44) C 0 dX0_perform_17 c4 (by decide) (by decide) rfl rfl ?_
    refine mx_aload_n (pc := 44) C dX0_perform_44 rfl ?_
    refine mx_aload_n (pc := 45) C dX0_perform_45 rfl ?_
    refine mx_getI (pc := 46) C dX0_perform_46 so_0 ci_0 (k := 2) (by decide) fl_X0_15 rfl (q := 2) rfl ?_
    refine mx_iload (pc := 49) C dX0_perform_49 rfl ?_
    obtain ⟨q5, hq5, h⟩ := of_bd h
    refine mc_V (pc := 51) (as := [aI (M3 13 2), aI p5]) (rest := []) (stk2 := [aI q5.1]) C ⟨Nat.le_refl _, Nat.le_refl _⟩ (m_X0_creaks hOM3 hq5) mi_X0_creaks mv_X0_creaks ml_X0_25 ci_0 rfl so_0 (by omega) rfl (Nat.le_of_ble_eq_true rfl) dX0_perform_51 rfl (fun hp6 => ?_)
    have hOq5 : OK q5.2 := hp6
    rw [← Option.some.inj h]
    exact mx_ireturn (pc := 54) C dX0_perform_54 hOq5 ⟨Nat.le_refl _, Nat.le_refl _⟩
  · rw [if_neg c4] at h
    by_cases c7 : p4 = 1
    · rw [if_pos c7] at h
      refine mx_tin (pc := 17) (tgt := 55) C 1 dX0_perform_17 c7 (by decide) (by decide) rfl rfl ?_
      refine mx_aload_n (pc := 55) C dX0_perform_55 rfl ?_
      refine mx_aload_n (pc := 56) C dX0_perform_56 rfl ?_
      refine mx_getI (pc := 57) C dX0_perform_57 so_0 ci_0 (k := 2) (by decide) fl_X0_15 rfl (q := 2) rfl ?_
      refine mx_iload (pc := 60) C dX0_perform_60 rfl ?_
      obtain ⟨q8, hq8, h⟩ := of_bd h
      refine mc_V (pc := 62) (as := [aI (M3 13 2), aI p5]) (rest := []) (stk2 := [aI q8.1]) C ⟨Nat.le_refl _, Nat.le_refl _⟩ (m_X0_rings hOM3 hq8) mi_X0_rings mv_X0_rings ml_X0_29 ci_0 rfl so_0 (by omega) rfl (Nat.le_of_ble_eq_true rfl) dX0_perform_62 rfl (fun hp9 => ?_)
      have hOq8 : OK q8.2 := hp9
      rw [← Option.some.inj h]
      exact mx_ireturn (pc := 65) C dX0_perform_65 hOq8 ⟨Nat.le_refl _, Nat.le_refl _⟩
    · rw [if_neg c7] at h
      by_cases c10 : p4 = 2
      · rw [if_pos c10] at h
        refine mx_tin (pc := 17) (tgt := 66) C 2 dX0_perform_17 c10 (by decide) (by decide) rfl rfl ?_
        refine mx_aload_n (pc := 66) C dX0_perform_66 rfl ?_
        refine mx_aload_n (pc := 67) C dX0_perform_67 rfl ?_
        refine mx_getI (pc := 68) C dX0_perform_68 so_0 ci_0 (k := 2) (by decide) fl_X0_15 rfl (q := 2) rfl ?_
        refine mx_iload (pc := 71) C dX0_perform_71 rfl ?_
        obtain ⟨q11, hq11, h⟩ := of_bd h
        refine mc_V (pc := 73) (as := [aI (M3 13 2), aI p5]) (rest := []) (stk2 := [aI q11.1]) C ⟨Nat.le_refl _, Nat.le_refl _⟩ (m_X0_tells hOM3 hq11) mi_X0_tells mv_X0_tells ml_X0_32 ci_0 rfl so_0 (by omega) rfl (Nat.le_of_ble_eq_true rfl) dX0_perform_73 rfl (fun hp12 => ?_)
        have hOq11 : OK q11.2 := hp12
        rw [← Option.some.inj h]
        exact mx_ireturn (pc := 76) C dX0_perform_76 hOq11 ⟨Nat.le_refl _, Nat.le_refl _⟩
      · rw [if_neg c10] at h
        refine mx_tout (pc := 17) (tgt := 77) C dX0_perform_17 (by omega) rfl ?_
        refine mx_iconst (pc := 77) C dX0_perform_77 (z := 0) rfl (by constructor <;> decide) ?_
        rw [← Option.some.inj h]
        exact mx_ireturn (pc := 78) C dX0_perform_78 hOM3 ⟨Nat.le_refl _, Nat.le_refl _⟩

def f_X2_takeAll (o : Int) (p1 : Int) (M : Mem) : Option (Int × Mem) :=
  if (0 : Int) ≤ 0 ∧ (0 : Int) ≤ 0 ∧ (0 : Int) ≤ ((rwN o : Nat) : Int) ∧ (0 : Int) + ((rwN o : Nat) : Int) ≤ ((rwN p1 : Nat) : Int) ∧ (0 : Int) + ((rwN o : Nat) : Int) ≤ ((rwN o : Nat) : Int) then lt (cpM M (p1 + 1) (o + 1) 0 0 ((rwN o : Nat) : Int)) (fun M2 => if (0 : Int) ≤ 0 ∧ (0 : Int) ≤ 0 ∧ (0 : Int) ≤ ((rwN o : Nat) : Int) ∧ (0 : Int) + ((rwN o : Nat) : Int) ≤ ((rwN p1 : Nat) : Int) ∧ (0 : Int) + ((rwN o : Nat) : Int) ≤ ((rwN o : Nat) : Int) then lt (cpM M2 (p1 + 2) (o + 2) 0 0 ((rwN o : Nat) : Int)) (fun M4 => if (0 : Int) ≤ 0 ∧ (0 : Int) ≤ 0 ∧ (0 : Int) ≤ ((rwN o : Nat) : Int) ∧ (0 : Int) + ((rwN o : Nat) : Int) ≤ ((rwN p1 : Nat) : Int) ∧ (0 : Int) + ((rwN o : Nat) : Int) ≤ ((rwN o : Nat) : Int) then lt (cpM M4 (p1 + 3) (o + 3) 0 0 ((rwN o : Nat) : Int)) (fun M6 => lt (stM M6 o 0 (M6 p1 0)) (fun M7 => some (0, M7))) else none) else none) else none
set_option maxRecDepth 20000 in
set_option maxHeartbeats 4000000 in
theorem m_X2_takeAll {o : Int} {p1 : Int} {M : Mem} {res : Int × Mem} (hOM : OK M) (ho : isRw o) (hp1 : isRw p1) (h : f_X2_takeAll o p1 M = some res) : Mth false yX2_takeAll cX2_takeAll 2 none 1 0 0 SH [aR o, aR p1] M none SH res.2 (OK res.2) := by
  refine Mth.of (by decide +kernel) (Nat.le_of_ble_eq_true rfl) (fun K B C => ?_)
  show Wx K B _ 0 0 SH 2 M 0 [some (aR o), some (aR p1)] []
  unfold f_X2_takeAll at h
  refine mx_aload_n (pc := 0) C dX2_takeAll_0 rfl ?_
  refine mx_getR (pc := 1) (v := p1 + 1) C dX2_takeAll_1 (so_2 hp1) ci_2 (k := 1) (by decide) fl_X2_7 rfl (q := 1) rfl (lay_2_1 hOM hp1) (by have := rw_pos hp1; omega) ?_
  refine mx_iconst (pc := 4) C dX2_takeAll_4 (z := 0) rfl (by constructor <;> decide) ?_
  refine mx_aload_n (pc := 5) C dX2_takeAll_5 rfl ?_
  refine mx_getR (pc := 6) (v := o + 1) C dX2_takeAll_6 (so_2 ho) ci_2 (k := 1) (by decide) fl_X2_7 rfl (q := 1) rfl (lay_2_1 hOM ho) (by have := rw_pos ho; omega) ?_
  refine mx_iconst (pc := 9) C dX2_takeAll_9 (z := 0) rfl (by constructor <;> decide) ?_
  refine mx_aload_n (pc := 10) C dX2_takeAll_10 rfl ?_
  refine mx_getR (pc := 11) (v := o + 1) C dX2_takeAll_11 (so_2 ho) ci_2 (k := 1) (by decide) fl_X2_7 rfl (q := 1) rfl (lay_2_1 hOM ho) (by have := rw_pos ho; omega) ?_
  refine mx_alen (pc := 14) C dX2_takeAll_14 (sh_2_1 ho) (by decide) (rwN_in _) ?_
  obtain ⟨g1, h⟩ := of_gd h
  refine mx_copyi (pc := 15) C dX2_takeAll_15 ml_X2_23 w_copy (sh_2_1 hp1) (sh_2_1 ho) g1.1 g1.2.1 g1.2.2.1 g1.2.2.2.1 g1.2.2.2.2 (by omega) (Nat.le_of_ble_eq_true rfl) ?_
  generalize hmM2 : cpM M (p1 + 1) (o + 1) 0 0 ((rwN o : Nat) : Int) = M2 at h ⊢
  replace h := lt_e h
  have hOM2 : OK M2 := by rw [← hmM2]; exact ok_cp hOM (sh_2_1 ho) (by decide)
  refine mx_aload_n (pc := 18) C dX2_takeAll_18 rfl ?_
  refine mx_getR (pc := 19) (v := p1 + 2) C dX2_takeAll_19 (so_2 hp1) ci_2 (k := 2) (by decide) fl_X2_13 rfl (q := 2) rfl (lay_2_2 hOM2 hp1) (by have := rw_pos hp1; omega) ?_
  refine mx_iconst (pc := 22) C dX2_takeAll_22 (z := 0) rfl (by constructor <;> decide) ?_
  refine mx_aload_n (pc := 23) C dX2_takeAll_23 rfl ?_
  refine mx_getR (pc := 24) (v := o + 2) C dX2_takeAll_24 (so_2 ho) ci_2 (k := 2) (by decide) fl_X2_13 rfl (q := 2) rfl (lay_2_2 hOM2 ho) (by have := rw_pos ho; omega) ?_
  refine mx_iconst (pc := 27) C dX2_takeAll_27 (z := 0) rfl (by constructor <;> decide) ?_
  refine mx_aload_n (pc := 28) C dX2_takeAll_28 rfl ?_
  refine mx_getR (pc := 29) (v := o + 2) C dX2_takeAll_29 (so_2 ho) ci_2 (k := 2) (by decide) fl_X2_13 rfl (q := 2) rfl (lay_2_2 hOM2 ho) (by have := rw_pos ho; omega) ?_
  refine mx_alen (pc := 32) C dX2_takeAll_32 (sh_2_2 ho) (by decide) (rwN_in _) ?_
  obtain ⟨g3, h⟩ := of_gd h
  refine mx_copyi (pc := 33) C dX2_takeAll_33 ml_X2_23 w_copy (sh_2_2 hp1) (sh_2_2 ho) g3.1 g3.2.1 g3.2.2.1 g3.2.2.2.1 g3.2.2.2.2 (by omega) (Nat.le_of_ble_eq_true rfl) ?_
  generalize hmM4 : cpM M2 (p1 + 2) (o + 2) 0 0 ((rwN o : Nat) : Int) = M4 at h ⊢
  replace h := lt_e h
  have hOM4 : OK M4 := by rw [← hmM4]; exact ok_cp hOM2 (sh_2_2 ho) (by decide)
  refine mx_aload_n (pc := 36) C dX2_takeAll_36 rfl ?_
  refine mx_getR (pc := 37) (v := p1 + 3) C dX2_takeAll_37 (so_2 hp1) ci_2 (k := 3) (by decide) fl_X2_16 rfl (q := 3) rfl (lay_2_3 hOM4 hp1) (by have := rw_pos hp1; omega) ?_
  refine mx_iconst (pc := 40) C dX2_takeAll_40 (z := 0) rfl (by constructor <;> decide) ?_
  refine mx_aload_n (pc := 41) C dX2_takeAll_41 rfl ?_
  refine mx_getR (pc := 42) (v := o + 3) C dX2_takeAll_42 (so_2 ho) ci_2 (k := 3) (by decide) fl_X2_16 rfl (q := 3) rfl (lay_2_3 hOM4 ho) (by have := rw_pos ho; omega) ?_
  refine mx_iconst (pc := 45) C dX2_takeAll_45 (z := 0) rfl (by constructor <;> decide) ?_
  refine mx_aload_n (pc := 46) C dX2_takeAll_46 rfl ?_
  refine mx_getR (pc := 47) (v := o + 3) C dX2_takeAll_47 (so_2 ho) ci_2 (k := 3) (by decide) fl_X2_16 rfl (q := 3) rfl (lay_2_3 hOM4 ho) (by have := rw_pos ho; omega) ?_
  refine mx_alen (pc := 50) C dX2_takeAll_50 (sh_2_3 ho) (by decide) (rwN_in _) ?_
  obtain ⟨g5, h⟩ := of_gd h
  refine mx_copyi (pc := 51) C dX2_takeAll_51 ml_X2_23 w_copy (sh_2_3 hp1) (sh_2_3 ho) g5.1 g5.2.1 g5.2.2.1 g5.2.2.2.1 g5.2.2.2.2 (by omega) (Nat.le_of_ble_eq_true rfl) ?_
  generalize hmM6 : cpM M4 (p1 + 3) (o + 3) 0 0 ((rwN o : Nat) : Int) = M6 at h ⊢
  replace h := lt_e h
  have hOM6 : OK M6 := by rw [← hmM6]; exact ok_cp hOM4 (sh_2_3 ho) (by decide)
  refine mx_aload_n (pc := 54) C dX2_takeAll_54 rfl ?_
  refine mx_aload_n (pc := 55) C dX2_takeAll_55 rfl ?_
  refine mx_getI (pc := 56) C dX2_takeAll_56 (so_2 hp1) ci_2 (k := 0) (by decide) fl_X2_19 rfl (q := 0) rfl ?_
  refine mx_putI (pc := 59) C dX2_takeAll_59 (so_2 ho) ci_2 (k := 0) (by decide) fl_X2_19 (Or.inl rfl) rfl (q := 0) rfl ?_
  generalize hmM7 : stM M6 o 0 (M6 p1 0) = M7 at h ⊢
  replace h := lt_e h
  have hOM7 : OK M7 := by rw [← hmM7]; exact okf_2_0 hOM6 ho
  rw [← Option.some.inj h]
  exact mx_return (pc := 62) C dX2_takeAll_62 hOM7 ⟨Nat.le_refl _, Nat.le_refl _⟩

def f_X3_holds_191 (o : Int) (p1 : Int) (p2 : Int) (k10 : Int → Int → Int → Mem → Option (Int × Mem)) (x1 : Int) (x3 : Int) (x4 : Int) (M : Mem) : Option (Int × Mem) :=
  k10 x1 x3 (w32 (x4 + 1)) M
def f_X3_holds_189 (o : Int) (p1 : Int) (p2 : Int) (k10 : Int → Int → Int → Mem → Option (Int × Mem)) (x1 : Int) (x4 : Int) (t0 : Int) (t1 : Int) (M : Mem) : Option (Int × Mem) :=
  f_X3_holds_191 o p1 p2 k10 x1 (or32 t0 t1) x4 M
def f_X3_holds_174 (o : Int) (p1 : Int) (p2 : Int) (k10 : Int → Int → Int → Mem → Option (Int × Mem)) (x1 : Int) (x3 : Int) (x4 : Int) (t0 : Int) (M : Mem) : Option (Int × Mem) :=
  if t0 = 0 then f_X3_holds_189 o p1 p2 k10 x1 x4 (shl32 x3 1) 0 M else f_X3_holds_189 o p1 p2 k10 x1 x4 (shl32 x3 1) 1 M
def f_X3_holds_10 (o : Int) (p1 : Int) (p2 : Int) : Nat → Int → Int → Int → Mem → Option (Int × Mem)
  | 0, _, _, _, _ => none
  | n + 1, x1, x3, x4, M => if 0 ≤ w32 (x1 + 1) ∧ w32 (x1 + 1) < 11 then if M (o + 2) (w32 (x1 + 1)) ≤ x4 then if and32 x3 1 = 1 then some (1, M) else some (0, M) else if 0 ≤ x4 ∧ x4 < 100 then if M (o + 3) x4 = 6 then f_X3_holds_191 o p1 p2 (f_X3_holds_10 o p1 p2 n) x1 (xor32 x3 1) x4 M else if M (o + 3) x4 = 7 then f_X3_holds_191 o p1 p2 (f_X3_holds_10 o p1 p2 n) x1 (and32 (shr32 x3 1) (or32 x3 (-2))) x4 M else if M (o + 3) x4 = 8 then f_X3_holds_191 o p1 p2 (f_X3_holds_10 o p1 p2 n) x1 (or32 (shr32 x3 1) (and32 x3 1)) x4 M else if 0 ≤ x4 ∧ x4 < 100 then if 0 ≤ M (o + 3) x4 ∧ M (o + 3) x4 < 6 then if 0 ≤ x4 ∧ x4 < 100 then if 0 ≤ M (o + 4) x4 then if 0 ≤ x4 ∧ x4 < 100 then if M (o + 4) x4 ≤ 0 then if 0 ≤ x4 ∧ x4 < 100 then if M p2 (M (o + 3) x4) = M (o + 5) x4 then f_X3_holds_174 o p1 p2 (f_X3_holds_10 o p1 p2 n) x1 x3 x4 1 M else f_X3_holds_174 o p1 p2 (f_X3_holds_10 o p1 p2 n) x1 x3 x4 0 M else none else if 0 ≤ x4 ∧ x4 < 100 then if M p2 (M (o + 3) x4) ≤ M (o + 5) x4 then f_X3_holds_174 o p1 p2 (f_X3_holds_10 o p1 p2 n) x1 x3 x4 0 M else f_X3_holds_174 o p1 p2 (f_X3_holds_10 o p1 p2 n) x1 x3 x4 1 M else none else none else if 0 ≤ x4 ∧ x4 < 100 then if M (o + 5) x4 ≤ M p2 (M (o + 3) x4) then f_X3_holds_174 o p1 p2 (f_X3_holds_10 o p1 p2 n) x1 x3 x4 0 M else f_X3_holds_174 o p1 p2 (f_X3_holds_10 o p1 p2 n) x1 x3 x4 1 M else none else none else none else none else none else none
def f_X3_holds (o : Int) (p1 : Int) (p2 : Int) (M : Mem) : Option (Int × Mem) :=
  if 0 ≤ p1 ∧ p1 < 11 then f_X3_holds_10 o p1 p2 FU p1 0 (M (o + 2) p1) M else none
set_option maxRecDepth 20000 in
set_option maxHeartbeats 4000000 in
theorem b_X3_holds_191 {K : KX} {B : BX} {res : Int × Mem} {o : Int} {p1 : Int} {p2 : Int} {k10 : Int → Int → Int → Mem → Option (Int × Mem)} (C : Cx K B false yX3_holds cX3_holds 7 (some .boolean) 1 0 0) (ho : isStr o) (hp2 : shp SH p2 = some (0, 6)) (hk10 : ∀ (x1 : Int) (x3 : Int) (x4 : Int) (M : Mem), OK M → k10 x1 x3 x4 M = some res → Wx K B (Zr K B (some (aI res.1)) SH res.2 (OK res.2 ∧ (res.1 = 0 ∨ res.1 = 1)) 0 0) 0 0 SH 7 M 10 [some (aR o), some (aI x1), some (aR p2), some (aI x3), some (aI x4), none, none] []) : ∀ (x1 : Int) (x3 : Int) (x4 : Int) (M : Mem), OK M → f_X3_holds_191 o p1 p2 k10 x1 x3 x4 M = some res → Wx K B (Zr K B (some (aI res.1)) SH res.2 (OK res.2 ∧ (res.1 = 0 ∨ res.1 = 1)) 0 0) 0 0 SH 7 M 191 [some (aR o), some (aI x1), some (aR p2), some (aI x3), some (aI x4), none, none] [] := by
  intro x1 x3 x4 M hOM h
  unfold f_X3_holds_191 at h
  refine mx_iinc (pc := 191) C dX3_holds_191 (ls' := [some (aR o), some (aI x1), some (aR p2), some (aI x3), some (aI (w32 (x4 + 1))), none, none]) rfl (by decide) rfl (by constructor <;> decide) rfl rfl ?_
  refine mx_goto (pc := 194) (tgt := 10) C dX3_holds_194 rfl ?_
  exact hk10 x1 x3 (w32 (x4 + 1)) M hOM h
set_option maxRecDepth 20000 in
set_option maxHeartbeats 4000000 in
theorem b_X3_holds_189 {K : KX} {B : BX} {res : Int × Mem} {o : Int} {p1 : Int} {p2 : Int} {k10 : Int → Int → Int → Mem → Option (Int × Mem)} (C : Cx K B false yX3_holds cX3_holds 7 (some .boolean) 1 0 0) (ho : isStr o) (hp2 : shp SH p2 = some (0, 6)) (hk10 : ∀ (x1 : Int) (x3 : Int) (x4 : Int) (M : Mem), OK M → k10 x1 x3 x4 M = some res → Wx K B (Zr K B (some (aI res.1)) SH res.2 (OK res.2 ∧ (res.1 = 0 ∨ res.1 = 1)) 0 0) 0 0 SH 7 M 10 [some (aR o), some (aI x1), some (aR p2), some (aI x3), some (aI x4), none, none] []) : ∀ (x1 : Int) (x4 : Int) (t0 : Int) (t1 : Int) (M : Mem), OK M → f_X3_holds_189 o p1 p2 k10 x1 x4 t0 t1 M = some res → Wx K B (Zr K B (some (aI res.1)) SH res.2 (OK res.2 ∧ (res.1 = 0 ∨ res.1 = 1)) 0 0) 0 0 SH 7 M 189 [some (aR o), some (aI x1), some (aR p2), none, some (aI x4), none, none] [aI t1, aI t0] := by
  intro x1 x4 t0 t1 M hOM h
  unfold f_X3_holds_189 at h
  refine mx_ior (pc := 189) C dX3_holds_189  ?_
  refine mx_istore_n (pc := 190) C dX3_holds_190 (ls' := [some (aR o), some (aI x1), some (aR p2), some (aI (or32 t0 t1)), some (aI x4), none, none]) (by decide) rfl rfl ?_
  exact b_X3_holds_191 C ho hp2 hk10 x1 (or32 t0 t1) x4 M hOM h
set_option maxRecDepth 20000 in
set_option maxHeartbeats 4000000 in
theorem b_X3_holds_174 {K : KX} {B : BX} {res : Int × Mem} {o : Int} {p1 : Int} {p2 : Int} {k10 : Int → Int → Int → Mem → Option (Int × Mem)} (C : Cx K B false yX3_holds cX3_holds 7 (some .boolean) 1 0 0) (ho : isStr o) (hp2 : shp SH p2 = some (0, 6)) (hk10 : ∀ (x1 : Int) (x3 : Int) (x4 : Int) (M : Mem), OK M → k10 x1 x3 x4 M = some res → Wx K B (Zr K B (some (aI res.1)) SH res.2 (OK res.2 ∧ (res.1 = 0 ∨ res.1 = 1)) 0 0) 0 0 SH 7 M 10 [some (aR o), some (aI x1), some (aR p2), some (aI x3), some (aI x4), none, none] []) : ∀ (x1 : Int) (x3 : Int) (x4 : Int) (t0 : Int) (M : Mem), OK M → f_X3_holds_174 o p1 p2 k10 x1 x3 x4 t0 M = some res → Wx K B (Zr K B (some (aI res.1)) SH res.2 (OK res.2 ∧ (res.1 = 0 ∨ res.1 = 1)) 0 0) 0 0 SH 7 M 174 [some (aR o), some (aI x1), some (aR p2), some (aI x3), some (aI x4), none, none] [aI t0] := by
  intro x1 x3 x4 t0 M hOM h
  unfold f_X3_holds_174 at h
  refine mx_istore (pc := 174) C dX3_holds_174 (ls' := [some (aR o), some (aI x1), some (aR p2), some (aI x3), some (aI x4), none, some (aI t0)]) (by decide) rfl rfl ?_
  refine mx_iload_n (pc := 176) C dX3_holds_176 rfl ?_
  refine mx_iconst (pc := 177) C dX3_holds_177 (z := 1) rfl (by constructor <;> decide) ?_
  refine mx_ishl (pc := 178) C dX3_holds_178  ?_
  refine mx_iload (pc := 179) C dX3_holds_179 rfl ?_
  refine mx_if_eq (pc := 181) (tgt := 188) C dX3_holds_181 rfl (fun c1 => ?_) (fun c1 => ?_)
  · rw [if_pos c1] at h
    refine mx_iconst (pc := 188) C dX3_holds_188 (z := 0) rfl (by constructor <;> decide) ?_
    refine mx_mask [true, true, true, false, true, false, false] (ls' := [some (aR o), some (aI x1), some (aR p2), none, some (aI x4), none, none]) rfl rfl ?_
    exact b_X3_holds_189 C ho hp2 hk10 x1 x4 (shl32 x3 1) 0 M hOM h
  · rw [if_neg c1] at h
    refine mx_iconst (pc := 184) C dX3_holds_184 (z := 1) rfl (by constructor <;> decide) ?_
    refine mx_goto (pc := 185) (tgt := 189) C dX3_holds_185 rfl ?_
    refine mx_mask [true, true, true, false, true, false, false] (ls' := [some (aR o), some (aI x1), some (aR p2), none, some (aI x4), none, none]) rfl rfl ?_
    exact b_X3_holds_189 C ho hp2 hk10 x1 x4 (shl32 x3 1) 1 M hOM h
set_option maxRecDepth 20000 in
set_option maxHeartbeats 4000000 in
theorem b_X3_holds_10 {K : KX} {B : BX} {res : Int × Mem} {o : Int} {p1 : Int} {p2 : Int} (C : Cx K B false yX3_holds cX3_holds 7 (some .boolean) 1 0 0) (ho : isStr o) (hp2 : shp SH p2 = some (0, 6)) : ∀ (n : Nat) (x1 : Int) (x3 : Int) (x4 : Int) (M : Mem), OK M → f_X3_holds_10 o p1 p2 n x1 x3 x4 M = some res → Wx K B (Zr K B (some (aI res.1)) SH res.2 (OK res.2 ∧ (res.1 = 0 ∨ res.1 = 1)) 0 0) 0 0 SH 7 M 10 [some (aR o), some (aI x1), some (aR p2), some (aI x3), some (aI x4), none, none] [] := by
  intro n
  induction n with
  | zero =>
    intro x1 x3 x4 M hOM h
    cases h
  | succ n ih =>
    intro x1 x3 x4 M hOM h
    rw [f_X3_holds_10.eq_2] at h
    refine mx_iload (pc := 10) C dX3_holds_10 rfl ?_
    refine mx_aload_n (pc := 12) C dX3_holds_12 rfl ?_
    refine mx_getR (pc := 13) (v := o + 2) C dX3_holds_13 (so_3 ho) ci_3 (k := 5) (by decide) fl_X3_15 rfl (q := 5) rfl (lay_3_5 hOM ho) (by have := str_pos ho; omega) ?_
    refine mx_iload_n (pc := 16) C dX3_holds_16 rfl ?_
    refine mx_iconst (pc := 17) C dX3_holds_17 (z := 1) rfl (by constructor <;> decide) ?_
    refine mx_iadd (pc := 18) C dX3_holds_18  ?_
    obtain ⟨g1, h⟩ := of_gd h
    refine mx_iald (pc := 19) C dX3_holds_19 (sh_3_5 ho) g1.1 g1.2 ?_
    refine mx_icmp_ge (pc := 20) (tgt := 197) C dX3_holds_20 rfl (fun c2 => ?_) (fun c2 => ?_)
    · rw [if_pos c2] at h
      refine mx_iload_n (pc := 197) C dX3_holds_197 rfl ?_
      refine mx_iconst (pc := 198) C dX3_holds_198 (z := 1) rfl (by constructor <;> decide) ?_
      refine mx_iand (pc := 199) C dX3_holds_199  ?_
      refine mx_iconst (pc := 200) C dX3_holds_200 (z := 1) rfl (by constructor <;> decide) ?_
      refine mx_icmp_ne (pc := 201) (tgt := 208) C dX3_holds_201 rfl (fun c3 => ?_) (fun c3 => ?_)
      · rw [if_neg c3] at h
        refine mx_iconst (pc := 208) C dX3_holds_208 (z := 0) rfl (by constructor <;> decide) ?_
        rw [← Option.some.inj h]
        exact mx_zreturn (pc := 209) C dX3_holds_209 (Or.inl rfl) ⟨hOM, (Or.inl rfl)⟩ ⟨Nat.le_refl _, Nat.le_refl _⟩
      · rw [if_pos c3] at h
        refine mx_iconst (pc := 204) C dX3_holds_204 (z := 1) rfl (by constructor <;> decide) ?_
        refine mx_goto (pc := 205) (tgt := 209) C dX3_holds_205 rfl ?_
        rw [← Option.some.inj h]
        exact mx_zreturn (pc := 209) C dX3_holds_209 (Or.inr rfl) ⟨hOM, (Or.inr rfl)⟩ ⟨Nat.le_refl _, Nat.le_refl _⟩
    · rw [if_neg c2] at h
      refine mx_aload_n (pc := 23) C dX3_holds_23 rfl ?_
      refine mx_getR (pc := 24) (v := o + 3) C dX3_holds_24 (so_3 ho) ci_3 (k := 7) (by decide) fl_X3_18 rfl (q := 7) rfl (lay_3_7 hOM ho) (by have := str_pos ho; omega) ?_
      refine mx_iload (pc := 27) C dX3_holds_27 rfl ?_
      obtain ⟨g4, h⟩ := of_gd h
      refine mx_iald (pc := 29) C dX3_holds_29 (sh_3_7 ho) g4.1 g4.2 ?_
      by_cases c5 : M (o + 3) x4 = 6
      · rw [if_pos c5] at h
        refine mx_tin (pc := 30) (tgt := 56) C 6 dX3_holds_30 c5 (by decide) (by decide) rfl rfl ?_
        refine mx_iload_n (pc := 56) C dX3_holds_56 rfl ?_
        refine mx_iconst (pc := 57) C dX3_holds_57 (z := 1) rfl (by constructor <;> decide) ?_
        refine mx_ixor (pc := 58) C dX3_holds_58  ?_
        refine mx_istore_n (pc := 59) C dX3_holds_59 (ls' := [some (aR o), some (aI x1), some (aR p2), some (aI (xor32 x3 1)), some (aI x4), none, none]) (by decide) rfl rfl ?_
        refine mx_goto (pc := 60) (tgt := 191) C dX3_holds_60 rfl ?_
        exact b_X3_holds_191 C ho hp2 ih x1 (xor32 x3 1) x4 M hOM h
      · rw [if_neg c5] at h
        by_cases c6 : M (o + 3) x4 = 7
        · rw [if_pos c6] at h
          refine mx_tin (pc := 30) (tgt := 63) C 7 dX3_holds_30 c6 (by decide) (by decide) rfl rfl ?_
          refine mx_iload_n (pc := 63) C dX3_holds_63 rfl ?_
          refine mx_iconst (pc := 64) C dX3_holds_64 (z := 1) rfl (by constructor <;> decide) ?_
          refine mx_ishr (pc := 65) C dX3_holds_65  ?_
          refine mx_iload_n (pc := 66) C dX3_holds_66 rfl ?_
          refine mx_bipush (pc := 67) C dX3_holds_67 (z := (-2)) rfl (by constructor <;> decide) ?_
          refine mx_ior (pc := 69) C dX3_holds_69  ?_
          refine mx_iand (pc := 70) C dX3_holds_70  ?_
          refine mx_istore_n (pc := 71) C dX3_holds_71 (ls' := [some (aR o), some (aI x1), some (aR p2), some (aI (and32 (shr32 x3 1) (or32 x3 (-2)))), some (aI x4), none, none]) (by decide) rfl rfl ?_
          refine mx_goto (pc := 72) (tgt := 191) C dX3_holds_72 rfl ?_
          exact b_X3_holds_191 C ho hp2 ih x1 (and32 (shr32 x3 1) (or32 x3 (-2))) x4 M hOM h
        · rw [if_neg c6] at h
          by_cases c7 : M (o + 3) x4 = 8
          · rw [if_pos c7] at h
            refine mx_tin (pc := 30) (tgt := 75) C 8 dX3_holds_30 c7 (by decide) (by decide) rfl rfl ?_
            refine mx_iload_n (pc := 75) C dX3_holds_75 rfl ?_
            refine mx_iconst (pc := 76) C dX3_holds_76 (z := 1) rfl (by constructor <;> decide) ?_
            refine mx_ishr (pc := 77) C dX3_holds_77  ?_
            refine mx_iload_n (pc := 78) C dX3_holds_78 rfl ?_
            refine mx_iconst (pc := 79) C dX3_holds_79 (z := 1) rfl (by constructor <;> decide) ?_
            refine mx_iand (pc := 80) C dX3_holds_80  ?_
            refine mx_ior (pc := 81) C dX3_holds_81  ?_
            refine mx_istore_n (pc := 82) C dX3_holds_82 (ls' := [some (aR o), some (aI x1), some (aR p2), some (aI (or32 (shr32 x3 1) (and32 x3 1))), some (aI x4), none, none]) (by decide) rfl rfl ?_
            refine mx_goto (pc := 83) (tgt := 191) C dX3_holds_83 rfl ?_
            exact b_X3_holds_191 C ho hp2 ih x1 (or32 (shr32 x3 1) (and32 x3 1)) x4 M hOM h
          · rw [if_neg c7] at h
            refine mx_tout (pc := 30) (tgt := 86) C dX3_holds_30 (by omega) rfl ?_
            refine mx_aload_n (pc := 86) C dX3_holds_86 rfl ?_
            refine mx_aload_n (pc := 87) C dX3_holds_87 rfl ?_
            refine mx_getR (pc := 88) (v := o + 3) C dX3_holds_88 (so_3 ho) ci_3 (k := 7) (by decide) fl_X3_18 rfl (q := 7) rfl (lay_3_7 hOM ho) (by have := str_pos ho; omega) ?_
            refine mx_iload (pc := 91) C dX3_holds_91 rfl ?_
            obtain ⟨g8, h⟩ := of_gd h
            refine mx_iald (pc := 93) C dX3_holds_93 (sh_3_7 ho) g8.1 g8.2 ?_
            obtain ⟨g9, h⟩ := of_gd h
            refine mx_iald (pc := 94) C dX3_holds_94 hp2 g9.1 g9.2 ?_
            refine mx_istore (pc := 95) C dX3_holds_95 (ls' := [some (aR o), some (aI x1), some (aR p2), some (aI x3), some (aI x4), some (aI (M p2 (M (o + 3) x4))), none]) (by decide) rfl rfl ?_
            refine mx_aload_n (pc := 97) C dX3_holds_97 rfl ?_
            refine mx_getR (pc := 98) (v := o + 4) C dX3_holds_98 (so_3 ho) ci_3 (k := 8) (by decide) fl_X3_21 rfl (q := 8) rfl (lay_3_8 hOM ho) (by have := str_pos ho; omega) ?_
            refine mx_iload (pc := 101) C dX3_holds_101 rfl ?_
            obtain ⟨g10, h⟩ := of_gd h
            refine mx_iald (pc := 103) C dX3_holds_103 (sh_3_8 ho) g10.1 g10.2 ?_
            refine mx_if_ge (pc := 104) (tgt := 127) C dX3_holds_104 rfl (fun c11 => ?_) (fun c11 => ?_)
            · rw [if_pos c11] at h
              refine mx_aload_n (pc := 127) C dX3_holds_127 rfl ?_
              refine mx_getR (pc := 128) (v := o + 4) C dX3_holds_128 (so_3 ho) ci_3 (k := 8) (by decide) fl_X3_21 rfl (q := 8) rfl (lay_3_8 hOM ho) (by have := str_pos ho; omega) ?_
              refine mx_iload (pc := 131) C dX3_holds_131 rfl ?_
              obtain ⟨g12, h⟩ := of_gd h
              refine mx_iald (pc := 133) C dX3_holds_133 (sh_3_8 ho) g12.1 g12.2 ?_
              refine mx_if_le (pc := 134) (tgt := 157) C dX3_holds_134 rfl (fun c13 => ?_) (fun c13 => ?_)
              · rw [if_pos c13] at h
                refine mx_iload (pc := 157) C dX3_holds_157 rfl ?_
                refine mx_aload_n (pc := 159) C dX3_holds_159 rfl ?_
                refine mx_getR (pc := 160) (v := o + 5) C dX3_holds_160 (so_3 ho) ci_3 (k := 9) (by decide) fl_X3_24 rfl (q := 9) rfl (lay_3_9 hOM ho) (by have := str_pos ho; omega) ?_
                refine mx_iload (pc := 163) C dX3_holds_163 rfl ?_
                obtain ⟨g14, h⟩ := of_gd h
                refine mx_iald (pc := 165) C dX3_holds_165 (sh_3_9 ho) g14.1 g14.2 ?_
                refine mx_icmp_ne (pc := 166) (tgt := 173) C dX3_holds_166 rfl (fun c15 => ?_) (fun c15 => ?_)
                · rw [if_neg c15] at h
                  refine mx_iconst (pc := 173) C dX3_holds_173 (z := 0) rfl (by constructor <;> decide) ?_
                  refine mx_mask [true, true, true, true, true, false, false] (ls' := [some (aR o), some (aI x1), some (aR p2), some (aI x3), some (aI x4), none, none]) rfl rfl ?_
                  exact b_X3_holds_174 C ho hp2 ih x1 x3 x4 0 M hOM h
                · rw [if_pos c15] at h
                  refine mx_iconst (pc := 169) C dX3_holds_169 (z := 1) rfl (by constructor <;> decide) ?_
                  refine mx_goto (pc := 170) (tgt := 174) C dX3_holds_170 rfl ?_
                  refine mx_mask [true, true, true, true, true, false, false] (ls' := [some (aR o), some (aI x1), some (aR p2), some (aI x3), some (aI x4), none, none]) rfl rfl ?_
                  exact b_X3_holds_174 C ho hp2 ih x1 x3 x4 1 M hOM h
              · rw [if_neg c13] at h
                refine mx_iload (pc := 137) C dX3_holds_137 rfl ?_
                refine mx_aload_n (pc := 139) C dX3_holds_139 rfl ?_
                refine mx_getR (pc := 140) (v := o + 5) C dX3_holds_140 (so_3 ho) ci_3 (k := 9) (by decide) fl_X3_24 rfl (q := 9) rfl (lay_3_9 hOM ho) (by have := str_pos ho; omega) ?_
                refine mx_iload (pc := 143) C dX3_holds_143 rfl ?_
                obtain ⟨g16, h⟩ := of_gd h
                refine mx_iald (pc := 145) C dX3_holds_145 (sh_3_9 ho) g16.1 g16.2 ?_
                refine mx_icmp_le (pc := 146) (tgt := 153) C dX3_holds_146 rfl (fun c17 => ?_) (fun c17 => ?_)
                · rw [if_pos c17] at h
                  refine mx_iconst (pc := 153) C dX3_holds_153 (z := 0) rfl (by constructor <;> decide) ?_
                  refine mx_goto (pc := 154) (tgt := 174) C dX3_holds_154 rfl ?_
                  refine mx_mask [true, true, true, true, true, false, false] (ls' := [some (aR o), some (aI x1), some (aR p2), some (aI x3), some (aI x4), none, none]) rfl rfl ?_
                  exact b_X3_holds_174 C ho hp2 ih x1 x3 x4 0 M hOM h
                · rw [if_neg c17] at h
                  refine mx_iconst (pc := 149) C dX3_holds_149 (z := 1) rfl (by constructor <;> decide) ?_
                  refine mx_goto (pc := 150) (tgt := 174) C dX3_holds_150 rfl ?_
                  refine mx_mask [true, true, true, true, true, false, false] (ls' := [some (aR o), some (aI x1), some (aR p2), some (aI x3), some (aI x4), none, none]) rfl rfl ?_
                  exact b_X3_holds_174 C ho hp2 ih x1 x3 x4 1 M hOM h
            · rw [if_neg c11] at h
              refine mx_iload (pc := 107) C dX3_holds_107 rfl ?_
              refine mx_aload_n (pc := 109) C dX3_holds_109 rfl ?_
              refine mx_getR (pc := 110) (v := o + 5) C dX3_holds_110 (so_3 ho) ci_3 (k := 9) (by decide) fl_X3_24 rfl (q := 9) rfl (lay_3_9 hOM ho) (by have := str_pos ho; omega) ?_
              refine mx_iload (pc := 113) C dX3_holds_113 rfl ?_
              obtain ⟨g18, h⟩ := of_gd h
              refine mx_iald (pc := 115) C dX3_holds_115 (sh_3_9 ho) g18.1 g18.2 ?_
              refine mx_icmp_ge (pc := 116) (tgt := 123) C dX3_holds_116 rfl (fun c19 => ?_) (fun c19 => ?_)
              · rw [if_pos c19] at h
                refine mx_iconst (pc := 123) C dX3_holds_123 (z := 0) rfl (by constructor <;> decide) ?_
                refine mx_goto (pc := 124) (tgt := 174) C dX3_holds_124 rfl ?_
                refine mx_mask [true, true, true, true, true, false, false] (ls' := [some (aR o), some (aI x1), some (aR p2), some (aI x3), some (aI x4), none, none]) rfl rfl ?_
                exact b_X3_holds_174 C ho hp2 ih x1 x3 x4 0 M hOM h
              · rw [if_neg c19] at h
                refine mx_iconst (pc := 119) C dX3_holds_119 (z := 1) rfl (by constructor <;> decide) ?_
                refine mx_goto (pc := 120) (tgt := 174) C dX3_holds_120 rfl ?_
                refine mx_mask [true, true, true, true, true, false, false] (ls' := [some (aR o), some (aI x1), some (aR p2), some (aI x3), some (aI x4), none, none]) rfl rfl ?_
                exact b_X3_holds_174 C ho hp2 ih x1 x3 x4 1 M hOM h
set_option maxRecDepth 20000 in
set_option maxHeartbeats 4000000 in
theorem m_X3_holds {o : Int} {p1 : Int} {p2 : Int} {M : Mem} {res : Int × Mem} (hOM : OK M) (ho : isStr o) (hp2 : shp SH p2 = some (0, 6)) (h : f_X3_holds o p1 p2 M = some res) : Mth false yX3_holds cX3_holds 7 (some .boolean) 1 0 0 SH [aR o, aI p1, aR p2] M (some (aI res.1)) SH res.2 (OK res.2 ∧ (res.1 = 0 ∨ res.1 = 1)) := by
  refine Mth.of (by decide +kernel) (Nat.le_of_ble_eq_true rfl) (fun K B C => ?_)
  show Wx K B _ 0 0 SH 7 M 0 [some (aR o), some (aI p1), some (aR p2), none, none, none, none] []
  unfold f_X3_holds at h
  refine mx_iconst (pc := 0) C dX3_holds_0 (z := 0) rfl (by constructor <;> decide) ?_
  refine mx_istore_n (pc := 1) C dX3_holds_1 (ls' := [some (aR o), some (aI p1), some (aR p2), some (aI 0), none, none, none]) (by decide) rfl rfl ?_
  refine mx_aload_n (pc := 2) C dX3_holds_2 rfl ?_
  refine mx_getR (pc := 3) (v := o + 2) C dX3_holds_3 (so_3 ho) ci_3 (k := 5) (by decide) fl_X3_15 rfl (q := 5) rfl (lay_3_5 hOM ho) (by have := str_pos ho; omega) ?_
  refine mx_iload_n (pc := 6) C dX3_holds_6 rfl ?_
  obtain ⟨g1, h⟩ := of_gd h
  refine mx_iald (pc := 7) C dX3_holds_7 (sh_3_5 ho) g1.1 g1.2 ?_
  refine mx_istore (pc := 8) C dX3_holds_8 (ls' := [some (aR o), some (aI p1), some (aR p2), some (aI 0), some (aI (M (o + 2) p1)), none, none]) (by decide) rfl rfl ?_
  exact b_X3_holds_10 C ho hp2 FU p1 0 (M (o + 2) p1) M hOM h

def f_X2_isFull (o : Int) (M : Mem) : Option (Int × Mem) :=
  if M o 0 < ((rwN o : Nat) : Int) then some (0, M) else some (1, M)
set_option maxRecDepth 20000 in
set_option maxHeartbeats 4000000 in
theorem m_X2_isFull {o : Int} {M : Mem} {res : Int × Mem} (hOM : OK M) (ho : isRw o) (h : f_X2_isFull o M = some res) : Mth false yX2_isFull cX2_isFull 1 (some .boolean) 1 0 0 SH [aR o] M (some (aI res.1)) SH res.2 (OK res.2 ∧ (res.1 = 0 ∨ res.1 = 1)) := by
  refine Mth.of (by decide +kernel) (Nat.le_of_ble_eq_true rfl) (fun K B C => ?_)
  show Wx K B _ 0 0 SH 1 M 0 [some (aR o)] []
  unfold f_X2_isFull at h
  refine mx_aload_n (pc := 0) C dX2_isFull_0 rfl ?_
  refine mx_getI (pc := 1) C dX2_isFull_1 (so_2 ho) ci_2 (k := 0) (by decide) fl_X2_19 rfl (q := 0) rfl ?_
  refine mx_aload_n (pc := 4) C dX2_isFull_4 rfl ?_
  refine mx_getR (pc := 5) (v := o + 1) C dX2_isFull_5 (so_2 ho) ci_2 (k := 1) (by decide) fl_X2_7 rfl (q := 1) rfl (lay_2_1 hOM ho) (by have := rw_pos ho; omega) ?_
  refine mx_alen (pc := 8) C dX2_isFull_8 (sh_2_1 ho) (by decide) (rwN_in _) ?_
  refine mx_icmp_lt (pc := 9) (tgt := 16) C dX2_isFull_9 rfl (fun c1 => ?_) (fun c1 => ?_)
  · rw [if_pos c1] at h
    refine mx_iconst (pc := 16) C dX2_isFull_16 (z := 0) rfl (by constructor <;> decide) ?_
    rw [← Option.some.inj h]
    exact mx_zreturn (pc := 17) C dX2_isFull_17 (Or.inl rfl) ⟨hOM, (Or.inl rfl)⟩ ⟨Nat.le_refl _, Nat.le_refl _⟩
  · rw [if_neg c1] at h
    refine mx_iconst (pc := 12) C dX2_isFull_12 (z := 1) rfl (by constructor <;> decide) ?_
    refine mx_goto (pc := 13) (tgt := 17) C dX2_isFull_13 rfl ?_
    rw [← Option.some.inj h]
    exact mx_zreturn (pc := 17) C dX2_isFull_17 (Or.inr rfl) ⟨hOM, (Or.inr rfl)⟩ ⟨Nat.le_refl _, Nat.le_refl _⟩

def f_X2_empty (o : Int) (M : Mem) : Option (Int × Mem) :=
  lt (stM M o 0 0) (fun M1 => some (M1 o 0, M1))
set_option maxRecDepth 20000 in
set_option maxHeartbeats 4000000 in
theorem m_X2_empty {o : Int} {M : Mem} {res : Int × Mem} (hOM : OK M) (ho : isRw o) (h : f_X2_empty o M = some res) : Mth false yX2_empty cX2_empty 1 (some .int) 1 0 0 SH [aR o] M (some (aI res.1)) SH res.2 (OK res.2) := by
  refine Mth.of (by decide +kernel) (Nat.le_of_ble_eq_true rfl) (fun K B C => ?_)
  show Wx K B _ 0 0 SH 1 M 0 [some (aR o)] []
  unfold f_X2_empty at h
  refine mx_aload_n (pc := 0) C dX2_empty_0 rfl ?_
  refine mx_iconst (pc := 1) C dX2_empty_1 (z := 0) rfl (by constructor <;> decide) ?_
  refine mx_putI (pc := 2) C dX2_empty_2 (so_2 ho) ci_2 (k := 0) (by decide) fl_X2_19 (Or.inl rfl) rfl (q := 0) rfl ?_
  generalize hmM1 : stM M o 0 0 = M1 at h ⊢
  replace h := lt_e h
  have hOM1 : OK M1 := by rw [← hmM1]; exact okf_2_0 hOM ho
  refine mx_aload_n (pc := 5) C dX2_empty_5 rfl ?_
  refine mx_getI (pc := 6) C dX2_empty_6 (so_2 ho) ci_2 (k := 0) (by decide) fl_X2_19 rfl (q := 0) rfl ?_
  rw [← Option.some.inj h]
  exact mx_ireturn (pc := 9) C dX2_empty_9 hOM1 ⟨Nat.le_refl _, Nat.le_refl _⟩

def f_X2_add (o : Int) (p1 : Int) (p2 : Int) (p3 : Int) (M : Mem) : Option (Int × Mem) :=
  if 0 ≤ M o 0 ∧ M o 0 < ((rwN o : Nat) : Int) then lt (stM M (o + 1) (M o 0) p1) (fun M2 => if 0 ≤ M2 o 0 ∧ M2 o 0 < ((rwN o : Nat) : Int) then lt (stM M2 (o + 2) (M2 o 0) p2) (fun M4 => if 0 ≤ M4 o 0 ∧ M4 o 0 < ((rwN o : Nat) : Int) then lt (stM M4 (o + 3) (M4 o 0) p3) (fun M6 => lt (stM M6 o 0 (w32 ((M6 o 0) + 1))) (fun M7 => some (M7 o 0, M7))) else none) else none) else none
set_option maxRecDepth 20000 in
set_option maxHeartbeats 4000000 in
theorem m_X2_add {o : Int} {p1 : Int} {p2 : Int} {p3 : Int} {M : Mem} {res : Int × Mem} (hOM : OK M) (ho : isRw o) (h : f_X2_add o p1 p2 p3 M = some res) : Mth false yX2_add cX2_add 4 (some .int) 1 0 0 SH [aR o, aI p1, aI p2, aI p3] M (some (aI res.1)) SH res.2 (OK res.2) := by
  refine Mth.of (by decide +kernel) (Nat.le_of_ble_eq_true rfl) (fun K B C => ?_)
  show Wx K B _ 0 0 SH 4 M 0 [some (aR o), some (aI p1), some (aI p2), some (aI p3)] []
  unfold f_X2_add at h
  refine mx_aload_n (pc := 0) C dX2_add_0 rfl ?_
  refine mx_getR (pc := 1) (v := o + 1) C dX2_add_1 (so_2 ho) ci_2 (k := 1) (by decide) fl_X2_7 rfl (q := 1) rfl (lay_2_1 hOM ho) (by have := rw_pos ho; omega) ?_
  refine mx_aload_n (pc := 4) C dX2_add_4 rfl ?_
  refine mx_getI (pc := 5) C dX2_add_5 (so_2 ho) ci_2 (k := 0) (by decide) fl_X2_19 rfl (q := 0) rfl ?_
  refine mx_iload_n (pc := 8) C dX2_add_8 rfl ?_
  obtain ⟨g1, h⟩ := of_gd h
  refine mx_iast (pc := 9) C dX2_add_9 (sh_2_1 ho) g1.1 g1.2 ?_
  generalize hmM2 : stM M (o + 1) (M o 0) p1 = M2 at h ⊢
  replace h := lt_e h
  have hOM2 : OK M2 := by rw [← hmM2]; exact ok_arr hOM (sh_2_1 ho) (by decide)
  refine mx_aload_n (pc := 10) C dX2_add_10 rfl ?_
  refine mx_getR (pc := 11) (v := o + 2) C dX2_add_11 (so_2 ho) ci_2 (k := 2) (by decide) fl_X2_13 rfl (q := 2) rfl (lay_2_2 hOM2 ho) (by have := rw_pos ho; omega) ?_
  refine mx_aload_n (pc := 14) C dX2_add_14 rfl ?_
  refine mx_getI (pc := 15) C dX2_add_15 (so_2 ho) ci_2 (k := 0) (by decide) fl_X2_19 rfl (q := 0) rfl ?_
  refine mx_iload_n (pc := 18) C dX2_add_18 rfl ?_
  obtain ⟨g3, h⟩ := of_gd h
  refine mx_iast (pc := 19) C dX2_add_19 (sh_2_2 ho) g3.1 g3.2 ?_
  generalize hmM4 : stM M2 (o + 2) (M2 o 0) p2 = M4 at h ⊢
  replace h := lt_e h
  have hOM4 : OK M4 := by rw [← hmM4]; exact ok_arr hOM2 (sh_2_2 ho) (by decide)
  refine mx_aload_n (pc := 20) C dX2_add_20 rfl ?_
  refine mx_getR (pc := 21) (v := o + 3) C dX2_add_21 (so_2 ho) ci_2 (k := 3) (by decide) fl_X2_16 rfl (q := 3) rfl (lay_2_3 hOM4 ho) (by have := rw_pos ho; omega) ?_
  refine mx_aload_n (pc := 24) C dX2_add_24 rfl ?_
  refine mx_getI (pc := 25) C dX2_add_25 (so_2 ho) ci_2 (k := 0) (by decide) fl_X2_19 rfl (q := 0) rfl ?_
  refine mx_iload_n (pc := 28) C dX2_add_28 rfl ?_
  obtain ⟨g5, h⟩ := of_gd h
  refine mx_iast (pc := 29) C dX2_add_29 (sh_2_3 ho) g5.1 g5.2 ?_
  generalize hmM6 : stM M4 (o + 3) (M4 o 0) p3 = M6 at h ⊢
  replace h := lt_e h
  have hOM6 : OK M6 := by rw [← hmM6]; exact ok_arr hOM4 (sh_2_3 ho) (by decide)
  refine mx_aload_n (pc := 30) C dX2_add_30 rfl ?_
  refine mx_dup (pc := 31) C dX2_add_31 rfl ?_
  refine mx_getI (pc := 32) C dX2_add_32 (so_2 ho) ci_2 (k := 0) (by decide) fl_X2_19 rfl (q := 0) rfl ?_
  refine mx_iconst (pc := 35) C dX2_add_35 (z := 1) rfl (by constructor <;> decide) ?_
  refine mx_iadd (pc := 36) C dX2_add_36  ?_
  refine mx_putI (pc := 37) C dX2_add_37 (so_2 ho) ci_2 (k := 0) (by decide) fl_X2_19 (Or.inl rfl) rfl (q := 0) rfl ?_
  generalize hmM7 : stM M6 o 0 (w32 ((M6 o 0) + 1)) = M7 at h ⊢
  replace h := lt_e h
  have hOM7 : OK M7 := by rw [← hmM7]; exact okf_2_0 hOM6 ho
  refine mx_aload_n (pc := 40) C dX2_add_40 rfl ?_
  refine mx_getI (pc := 41) C dX2_add_41 (so_2 ho) ci_2 (k := 0) (by decide) fl_X2_19 rfl (q := 0) rfl ?_
  rw [← Option.some.inj h]
  exact mx_ireturn (pc := 44) C dX2_add_44 hOM7 ⟨Nat.le_refl _, Nat.le_refl _⟩

def f_X3_empty (o : Int) (M : Mem) : Option (Int × Mem) :=
  lt (stM M o 0 6) (fun M1 => lt (stM M1 o 1 10) (fun M2 => lt (stM M2 o 2 1) (fun M3 => lt (stM M3 o 3 0) (fun M4 => lt (stM M4 o 6 0) (fun M5 => some (0, M5))))))
set_option maxRecDepth 20000 in
set_option maxHeartbeats 4000000 in
theorem m_X3_empty {o : Int} {M : Mem} {res : Int × Mem} (hOM : OK M) (ho : isStr o) (h : f_X3_empty o M = some res) : Mth false yX3_empty cX3_empty 1 none 1 0 0 SH [aR o] M none SH res.2 (OK res.2) := by
  refine Mth.of (by decide +kernel) (Nat.le_of_ble_eq_true rfl) (fun K B C => ?_)
  show Wx K B _ 0 0 SH 1 M 0 [some (aR o)] []
  unfold f_X3_empty at h
  refine mx_aload_n (pc := 0) C dX3_empty_0 rfl ?_
  refine mx_bipush (pc := 1) C dX3_empty_1 (z := 6) rfl (by constructor <;> decide) ?_
  refine mx_putI (pc := 3) C dX3_empty_3 (so_3 ho) ci_3 (k := 0) (by decide) fl_X3_30 (Or.inl rfl) rfl (q := 0) rfl ?_
  generalize hmM1 : stM M o 0 6 = M1 at h ⊢
  replace h := lt_e h
  have hOM1 : OK M1 := by rw [← hmM1]; exact okf_3_0 hOM ho
  refine mx_aload_n (pc := 6) C dX3_empty_6 rfl ?_
  refine mx_bipush (pc := 7) C dX3_empty_7 (z := 10) rfl (by constructor <;> decide) ?_
  refine mx_putI (pc := 9) C dX3_empty_9 (so_3 ho) ci_3 (k := 1) (by decide) fl_X3_34 (Or.inl rfl) rfl (q := 1) rfl ?_
  generalize hmM2 : stM M1 o 1 10 = M2 at h ⊢
  replace h := lt_e h
  have hOM2 : OK M2 := by rw [← hmM2]; exact okf_3_1 hOM1 ho
  refine mx_aload_n (pc := 12) C dX3_empty_12 rfl ?_
  refine mx_iconst (pc := 13) C dX3_empty_13 (z := 1) rfl (by constructor <;> decide) ?_
  refine mx_putI (pc := 14) C dX3_empty_14 (so_3 ho) ci_3 (k := 2) (by decide) fl_X3_37 (Or.inl rfl) rfl (q := 2) rfl ?_
  generalize hmM3 : stM M2 o 2 1 = M3 at h ⊢
  replace h := lt_e h
  have hOM3 : OK M3 := by rw [← hmM3]; exact okf_3_2 hOM2 ho
  refine mx_aload_n (pc := 17) C dX3_empty_17 rfl ?_
  refine mx_iconst (pc := 18) C dX3_empty_18 (z := 0) rfl (by constructor <;> decide) ?_
  refine mx_putI (pc := 19) C dX3_empty_19 (so_3 ho) ci_3 (k := 3) (by decide) fl_X3_40 (Or.inl rfl) rfl (q := 3) rfl ?_
  generalize hmM4 : stM M3 o 3 0 = M4 at h ⊢
  replace h := lt_e h
  have hOM4 : OK M4 := by rw [← hmM4]; exact okf_3_3 hOM3 ho
  refine mx_aload_n (pc := 22) C dX3_empty_22 rfl ?_
  refine mx_iconst (pc := 23) C dX3_empty_23 (z := 0) rfl (by constructor <;> decide) ?_
  refine mx_putI (pc := 24) C dX3_empty_24 (so_3 ho) ci_3 (k := 6) (by decide) fl_X3_43 (Or.inl rfl) rfl (q := 6) rfl ?_
  generalize hmM5 : stM M4 o 6 0 = M5 at h ⊢
  replace h := lt_e h
  have hOM5 : OK M5 := by rw [← hmM5]; exact okf_3_6 hOM4 ho
  rw [← Option.some.inj h]
  exact mx_return (pc := 27) C dX3_empty_27 hOM5 ⟨Nat.le_refl _, Nat.le_refl _⟩

def f_X3_endClause (o : Int) (p1 : Int) (M : Mem) : Option (Int × Mem) :=
  if 10 ≤ M o 3 then some (0, M) else if 0 ≤ M o 3 ∧ M o 3 < 10 then lt (stM M (o + 1) (M o 3) p1) (fun M3 => lt (stM M3 o 3 (w32 ((M3 o 3) + 1))) (fun M4 => if 0 ≤ M4 o 3 ∧ M4 o 3 < 11 then lt (stM M4 (o + 2) (M4 o 3) (M4 o 6)) (fun M6 => some (0, M6)) else none)) else none
set_option maxRecDepth 20000 in
set_option maxHeartbeats 4000000 in
theorem m_X3_endClause {o : Int} {p1 : Int} {M : Mem} {res : Int × Mem} (hOM : OK M) (ho : isStr o) (h : f_X3_endClause o p1 M = some res) : Mth false yX3_endClause cX3_endClause 2 none 1 0 0 SH [aR o, aI p1] M none SH res.2 (OK res.2) := by
  refine Mth.of (by decide +kernel) (Nat.le_of_ble_eq_true rfl) (fun K B C => ?_)
  show Wx K B _ 0 0 SH 2 M 0 [some (aR o), some (aI p1)] []
  unfold f_X3_endClause at h
  refine mx_aload_n (pc := 0) C dX3_endClause_0 rfl ?_
  refine mx_getI (pc := 1) C dX3_endClause_1 (so_3 ho) ci_3 (k := 3) (by decide) fl_X3_40 rfl (q := 3) rfl ?_
  refine mx_bipush (pc := 4) C dX3_endClause_4 (z := 10) rfl (by constructor <;> decide) ?_
  refine mx_icmp_ge (pc := 6) (tgt := 42) C dX3_endClause_6 rfl (fun c1 => ?_) (fun c1 => ?_)
  · rw [if_pos c1] at h
    rw [← Option.some.inj h]
    exact mx_return (pc := 42) C dX3_endClause_42 hOM ⟨Nat.le_refl _, Nat.le_refl _⟩
  · rw [if_neg c1] at h
    refine mx_aload_n (pc := 9) C dX3_endClause_9 rfl ?_
    refine mx_getR (pc := 10) (v := o + 1) C dX3_endClause_10 (so_3 ho) ci_3 (k := 4) (by decide) fl_X3_9 rfl (q := 4) rfl (lay_3_4 hOM ho) (by have := str_pos ho; omega) ?_
    refine mx_aload_n (pc := 13) C dX3_endClause_13 rfl ?_
    refine mx_getI (pc := 14) C dX3_endClause_14 (so_3 ho) ci_3 (k := 3) (by decide) fl_X3_40 rfl (q := 3) rfl ?_
    refine mx_iload_n (pc := 17) C dX3_endClause_17 rfl ?_
    obtain ⟨g2, h⟩ := of_gd h
    refine mx_iast (pc := 18) C dX3_endClause_18 (sh_3_4 ho) g2.1 g2.2 ?_
    generalize hmM3 : stM M (o + 1) (M o 3) p1 = M3 at h ⊢
    replace h := lt_e h
    have hOM3 : OK M3 := by rw [← hmM3]; exact ok_arr hOM (sh_3_4 ho) (by decide)
    refine mx_aload_n (pc := 19) C dX3_endClause_19 rfl ?_
    refine mx_dup (pc := 20) C dX3_endClause_20 rfl ?_
    refine mx_getI (pc := 21) C dX3_endClause_21 (so_3 ho) ci_3 (k := 3) (by decide) fl_X3_40 rfl (q := 3) rfl ?_
    refine mx_iconst (pc := 24) C dX3_endClause_24 (z := 1) rfl (by constructor <;> decide) ?_
    refine mx_iadd (pc := 25) C dX3_endClause_25  ?_
    refine mx_putI (pc := 26) C dX3_endClause_26 (so_3 ho) ci_3 (k := 3) (by decide) fl_X3_40 (Or.inl rfl) rfl (q := 3) rfl ?_
    generalize hmM4 : stM M3 o 3 (w32 ((M3 o 3) + 1)) = M4 at h ⊢
    replace h := lt_e h
    have hOM4 : OK M4 := by rw [← hmM4]; exact okf_3_3 hOM3 ho
    refine mx_aload_n (pc := 29) C dX3_endClause_29 rfl ?_
    refine mx_getR (pc := 30) (v := o + 2) C dX3_endClause_30 (so_3 ho) ci_3 (k := 5) (by decide) fl_X3_15 rfl (q := 5) rfl (lay_3_5 hOM4 ho) (by have := str_pos ho; omega) ?_
    refine mx_aload_n (pc := 33) C dX3_endClause_33 rfl ?_
    refine mx_getI (pc := 34) C dX3_endClause_34 (so_3 ho) ci_3 (k := 3) (by decide) fl_X3_40 rfl (q := 3) rfl ?_
    refine mx_aload_n (pc := 37) C dX3_endClause_37 rfl ?_
    refine mx_getI (pc := 38) C dX3_endClause_38 (so_3 ho) ci_3 (k := 6) (by decide) fl_X3_43 rfl (q := 6) rfl ?_
    obtain ⟨g5, h⟩ := of_gd h
    refine mx_iast (pc := 41) C dX3_endClause_41 (sh_3_5 ho) g5.1 g5.2 ?_
    generalize hmM6 : stM M4 (o + 2) (M4 o 3) (M4 o 6) = M6 at h ⊢
    replace h := lt_e h
    have hOM6 : OK M6 := by rw [← hmM6]; exact ok_arr hOM4 (sh_3_5 ho) (by decide)
    rw [← Option.some.inj h]
    exact mx_return (pc := 42) C dX3_endClause_42 hOM6 ⟨Nat.le_refl _, Nat.le_refl _⟩

def f_X4_become_12 (o : Int) (p1 : Int) (p2 : Int) : Nat → Int → Mem → Option (Int × Mem)
  | 0, _, _ => none
  | n + 1, x3, M => if 60 ≤ x3 then some (0, M) else if 0 ≤ x3 ∧ x3 < 60 then lt (stM M (o + 1) x3 0) (fun M3 => f_X4_become_12 o p1 p2 n (w32 (x3 + 1)) M3) else none
def f_X4_become (o : Int) (p1 : Int) (p2 : Int) (M : Mem) : Option (Int × Mem) :=
  lt (stM M o 0 p1) (fun M1 => lt (stM M1 o 1 p2) (fun M2 => f_X4_become_12 o p1 p2 FU 0 M2))
set_option maxRecDepth 20000 in
set_option maxHeartbeats 4000000 in
theorem b_X4_become_12 {K : KX} {B : BX} {res : Int × Mem} {o : Int} {p1 : Int} {p2 : Int} (C : Cx K B false yX4_become cX4_become 4 none 1 0 0) (ho : isTp o) : ∀ (n : Nat) (x3 : Int) (M : Mem), OK M → f_X4_become_12 o p1 p2 n x3 M = some res → Wx K B (Zr K B none SH res.2 (OK res.2) 0 0) 0 0 SH 4 M 12 [some (aR o), none, none, some (aI x3)] [] := by
  intro n
  induction n with
  | zero =>
    intro x3 M hOM h
    cases h
  | succ n ih =>
    intro x3 M hOM h
    rw [f_X4_become_12.eq_2] at h
    refine mx_iload_n (pc := 12) C dX4_become_12 rfl ?_
    refine mx_bipush (pc := 13) C dX4_become_13 (z := 60) rfl (by constructor <;> decide) ?_
    refine mx_icmp_ge (pc := 15) (tgt := 31) C dX4_become_15 rfl (fun c1 => ?_) (fun c1 => ?_)
    · rw [if_pos c1] at h
      rw [← Option.some.inj h]
      exact mx_return (pc := 31) C dX4_become_31 hOM ⟨Nat.le_refl _, Nat.le_refl _⟩
    · rw [if_neg c1] at h
      refine mx_aload_n (pc := 18) C dX4_become_18 rfl ?_
      refine mx_getR (pc := 19) (v := o + 1) C dX4_become_19 (so_4 ho) ci_4 (k := 2) (by decide) fl_X4_15 rfl (q := 2) rfl (lay_4_2 hOM ho) (by have := tp_pos ho; omega) ?_
      refine mx_iload_n (pc := 22) C dX4_become_22 rfl ?_
      refine mx_lconst (pc := 23) C dX4_become_23 (z := 0) rfl (by constructor <;> decide) ?_
      obtain ⟨g2, h⟩ := of_gd h
      refine mx_last (pc := 24) C dX4_become_24 (sh_4_2 ho) g2.1 g2.2 ?_
      generalize hmM3 : stM M (o + 1) x3 0 = M3 at h ⊢
      replace h := lt_e h
      have hOM3 : OK M3 := by rw [← hmM3]; exact ok_arr hOM (sh_4_2 ho) (by decide)
      refine mx_iinc (pc := 25) C dX4_become_25 (ls' := [some (aR o), none, none, some (aI (w32 (x3 + 1)))]) rfl (by decide) rfl (by constructor <;> decide) rfl rfl ?_
      refine mx_goto (pc := 28) (tgt := 12) C dX4_become_28 rfl ?_
      exact ih (w32 (x3 + 1)) M3 hOM3 h
set_option maxRecDepth 20000 in
set_option maxHeartbeats 4000000 in
theorem m_X4_become {o : Int} {p1 : Int} {p2 : Int} {M : Mem} {res : Int × Mem} (hOM : OK M) (ho : isTp o) (h : f_X4_become o p1 p2 M = some res) : Mth false yX4_become cX4_become 4 none 1 0 0 SH [aR o, aI p1, aI p2] M none SH res.2 (OK res.2) := by
  refine Mth.of (by decide +kernel) (Nat.le_of_ble_eq_true rfl) (fun K B C => ?_)
  show Wx K B _ 0 0 SH 4 M 0 [some (aR o), some (aI p1), some (aI p2), none] []
  unfold f_X4_become at h
  refine mx_aload_n (pc := 0) C dX4_become_0 rfl ?_
  refine mx_iload_n (pc := 1) C dX4_become_1 rfl ?_
  refine mx_putI (pc := 2) C dX4_become_2 (so_4 ho) ci_4 (k := 0) (by decide) fl_X4_9 (Or.inl rfl) rfl (q := 0) rfl ?_
  generalize hmM1 : stM M o 0 p1 = M1 at h ⊢
  replace h := lt_e h
  have hOM1 : OK M1 := by rw [← hmM1]; exact okf_4_0 hOM ho
  refine mx_aload_n (pc := 5) C dX4_become_5 rfl ?_
  refine mx_iload_n (pc := 6) C dX4_become_6 rfl ?_
  refine mx_putI (pc := 7) C dX4_become_7 (so_4 ho) ci_4 (k := 1) (by decide) fl_X4_19 (Or.inl rfl) rfl (q := 1) rfl ?_
  generalize hmM2 : stM M1 o 1 p2 = M2 at h ⊢
  replace h := lt_e h
  have hOM2 : OK M2 := by rw [← hmM2]; exact okf_4_1 hOM1 ho
  refine mx_iconst (pc := 10) C dX4_become_10 (z := 0) rfl (by constructor <;> decide) ?_
  refine mx_istore_n (pc := 11) C dX4_become_11 (ls' := [some (aR o), some (aI p1), some (aI p2), some (aI 0)]) (by decide) rfl rfl ?_
  refine mx_mask [true, false, false, true] (ls' := [some (aR o), none, none, some (aI 0)]) rfl rfl ?_
  exact b_X4_become_12 C ho FU 0 M2 hOM2 h

def f_X4_hasPlace (o : Int) (p1 : Int) (M : Mem) : Option (Int × Mem) :=
  if p1 < 0 then some (0, M) else if M o 1 ≤ p1 then some (0, M) else some (1, M)
set_option maxRecDepth 20000 in
set_option maxHeartbeats 4000000 in
theorem m_X4_hasPlace {o : Int} {p1 : Int} {M : Mem} {res : Int × Mem} (hOM : OK M) (ho : isTp o) (h : f_X4_hasPlace o p1 M = some res) : Mth false yX4_hasPlace cX4_hasPlace 2 (some .boolean) 1 0 0 SH [aR o, aI p1] M (some (aI res.1)) SH res.2 (OK res.2 ∧ (res.1 = 0 ∨ res.1 = 1)) := by
  refine Mth.of (by decide +kernel) (Nat.le_of_ble_eq_true rfl) (fun K B C => ?_)
  show Wx K B _ 0 0 SH 2 M 0 [some (aR o), some (aI p1)] []
  unfold f_X4_hasPlace at h
  refine mx_iload_n (pc := 0) C dX4_hasPlace_0 rfl ?_
  refine mx_if_lt (pc := 1) (tgt := 16) C dX4_hasPlace_1 rfl (fun c1 => ?_) (fun c1 => ?_)
  · rw [if_pos c1] at h
    refine mx_iconst (pc := 16) C dX4_hasPlace_16 (z := 0) rfl (by constructor <;> decide) ?_
    rw [← Option.some.inj h]
    exact mx_zreturn (pc := 17) C dX4_hasPlace_17 (Or.inl rfl) ⟨hOM, (Or.inl rfl)⟩ ⟨Nat.le_refl _, Nat.le_refl _⟩
  · rw [if_neg c1] at h
    refine mx_iload_n (pc := 4) C dX4_hasPlace_4 rfl ?_
    refine mx_aload_n (pc := 5) C dX4_hasPlace_5 rfl ?_
    refine mx_getI (pc := 6) C dX4_hasPlace_6 (so_4 ho) ci_4 (k := 1) (by decide) fl_X4_19 rfl (q := 1) rfl ?_
    refine mx_icmp_ge (pc := 9) (tgt := 16) C dX4_hasPlace_9 rfl (fun c2 => ?_) (fun c2 => ?_)
    · rw [if_pos c2] at h
      refine mx_iconst (pc := 16) C dX4_hasPlace_16 (z := 0) rfl (by constructor <;> decide) ?_
      rw [← Option.some.inj h]
      exact mx_zreturn (pc := 17) C dX4_hasPlace_17 (Or.inl rfl) ⟨hOM, (Or.inl rfl)⟩ ⟨Nat.le_refl _, Nat.le_refl _⟩
    · rw [if_neg c2] at h
      refine mx_iconst (pc := 12) C dX4_hasPlace_12 (z := 1) rfl (by constructor <;> decide) ?_
      refine mx_goto (pc := 13) (tgt := 17) C dX4_hasPlace_13 rfl ?_
      rw [← Option.some.inj h]
      exact mx_zreturn (pc := 17) C dX4_hasPlace_17 (Or.inr rfl) ⟨hOM, (Or.inr rfl)⟩ ⟨Nat.le_refl _, Nat.le_refl _⟩

def f_X4_hasPlaces (o : Int) (p1 : Int) (p2 : Int) (M : Mem) : Option (Int × Mem) :=
  if p2 < 0 then some (0, M) else if p1 < 0 then some (0, M) else if M o 1 < p2 then some (0, M) else if w32 ((M o 1) - p2) < p1 then some (0, M) else some (1, M)
set_option maxRecDepth 20000 in
set_option maxHeartbeats 4000000 in
theorem m_X4_hasPlaces {o : Int} {p1 : Int} {p2 : Int} {M : Mem} {res : Int × Mem} (hOM : OK M) (ho : isTp o) (h : f_X4_hasPlaces o p1 p2 M = some res) : Mth false yX4_hasPlaces cX4_hasPlaces 3 (some .boolean) 1 0 0 SH [aR o, aI p1, aI p2] M (some (aI res.1)) SH res.2 (OK res.2 ∧ (res.1 = 0 ∨ res.1 = 1)) := by
  refine Mth.of (by decide +kernel) (Nat.le_of_ble_eq_true rfl) (fun K B C => ?_)
  show Wx K B _ 0 0 SH 3 M 0 [some (aR o), some (aI p1), some (aI p2)] []
  unfold f_X4_hasPlaces at h
  refine mx_iload_n (pc := 0) C dX4_hasPlaces_0 rfl ?_
  refine mx_if_lt (pc := 1) (tgt := 30) C dX4_hasPlaces_1 rfl (fun c1 => ?_) (fun c1 => ?_)
  · rw [if_pos c1] at h
    refine mx_iconst (pc := 30) C dX4_hasPlaces_30 (z := 0) rfl (by constructor <;> decide) ?_
    rw [← Option.some.inj h]
    exact mx_zreturn (pc := 31) C dX4_hasPlaces_31 (Or.inl rfl) ⟨hOM, (Or.inl rfl)⟩ ⟨Nat.le_refl _, Nat.le_refl _⟩
  · rw [if_neg c1] at h
    refine mx_iload_n (pc := 4) C dX4_hasPlaces_4 rfl ?_
    refine mx_if_lt (pc := 5) (tgt := 30) C dX4_hasPlaces_5 rfl (fun c2 => ?_) (fun c2 => ?_)
    · rw [if_pos c2] at h
      refine mx_iconst (pc := 30) C dX4_hasPlaces_30 (z := 0) rfl (by constructor <;> decide) ?_
      rw [← Option.some.inj h]
      exact mx_zreturn (pc := 31) C dX4_hasPlaces_31 (Or.inl rfl) ⟨hOM, (Or.inl rfl)⟩ ⟨Nat.le_refl _, Nat.le_refl _⟩
    · rw [if_neg c2] at h
      refine mx_iload_n (pc := 8) C dX4_hasPlaces_8 rfl ?_
      refine mx_aload_n (pc := 9) C dX4_hasPlaces_9 rfl ?_
      refine mx_getI (pc := 10) C dX4_hasPlaces_10 (so_4 ho) ci_4 (k := 1) (by decide) fl_X4_19 rfl (q := 1) rfl ?_
      refine mx_icmp_gt (pc := 13) (tgt := 30) C dX4_hasPlaces_13 rfl (fun c3 => ?_) (fun c3 => ?_)
      · rw [if_pos c3] at h
        refine mx_iconst (pc := 30) C dX4_hasPlaces_30 (z := 0) rfl (by constructor <;> decide) ?_
        rw [← Option.some.inj h]
        exact mx_zreturn (pc := 31) C dX4_hasPlaces_31 (Or.inl rfl) ⟨hOM, (Or.inl rfl)⟩ ⟨Nat.le_refl _, Nat.le_refl _⟩
      · rw [if_neg c3] at h
        refine mx_iload_n (pc := 16) C dX4_hasPlaces_16 rfl ?_
        refine mx_aload_n (pc := 17) C dX4_hasPlaces_17 rfl ?_
        refine mx_getI (pc := 18) C dX4_hasPlaces_18 (so_4 ho) ci_4 (k := 1) (by decide) fl_X4_19 rfl (q := 1) rfl ?_
        refine mx_iload_n (pc := 21) C dX4_hasPlaces_21 rfl ?_
        refine mx_isub (pc := 22) C dX4_hasPlaces_22  ?_
        refine mx_icmp_gt (pc := 23) (tgt := 30) C dX4_hasPlaces_23 rfl (fun c4 => ?_) (fun c4 => ?_)
        · rw [if_pos c4] at h
          refine mx_iconst (pc := 30) C dX4_hasPlaces_30 (z := 0) rfl (by constructor <;> decide) ?_
          rw [← Option.some.inj h]
          exact mx_zreturn (pc := 31) C dX4_hasPlaces_31 (Or.inl rfl) ⟨hOM, (Or.inl rfl)⟩ ⟨Nat.le_refl _, Nat.le_refl _⟩
        · rw [if_neg c4] at h
          refine mx_iconst (pc := 26) C dX4_hasPlaces_26 (z := 1) rfl (by constructor <;> decide) ?_
          refine mx_goto (pc := 27) (tgt := 31) C dX4_hasPlaces_27 rfl ?_
          rw [← Option.some.inj h]
          exact mx_zreturn (pc := 31) C dX4_hasPlaces_31 (Or.inr rfl) ⟨hOM, (Or.inr rfl)⟩ ⟨Nat.le_refl _, Nat.le_refl _⟩

def f_X4_put (o : Int) (p1 : Int) (p2 : Int) (M : Mem) : Option (Int × Mem) :=
  if M o 0 = 0 then if 0 ≤ p1 ∧ p1 < 60 then lt (stM M (o + 1) p1 (w8 (w32 p2))) (fun M3 => some (0, M3)) else none else if M o 0 = 1 then if 0 ≤ p1 ∧ p1 < 60 then lt (stM M (o + 1) p1 (w16 (w32 p2))) (fun M6 => some (0, M6)) else none else if M o 0 = 2 then if 0 ≤ p1 ∧ p1 < 60 then lt (stM M (o + 1) p1 (w32 p2)) (fun M9 => some (0, M9)) else none else if M o 0 = 3 then if 0 ≤ p1 ∧ p1 < 60 then lt (stM M (o + 1) p1 p2) (fun M12 => some (0, M12)) else none else if cmp64 p2 0 = 0 then if 0 ≤ p1 ∧ p1 < 60 then lt (stM M (o + 1) p1 0) (fun M15 => some (0, M15)) else none else if 0 ≤ p1 ∧ p1 < 60 then lt (stM M (o + 1) p1 1) (fun M17 => some (0, M17)) else none
set_option maxRecDepth 20000 in
set_option maxHeartbeats 4000000 in
theorem m_X4_put {o : Int} {p1 : Int} {p2 : Int} {M : Mem} {res : Int × Mem} (hOM : OK M) (ho : isTp o) (h : f_X4_put o p1 p2 M = some res) : Mth false yX4_put cX4_put 4 none 1 0 0 SH [aR o, aI p1, aJ p2] M none SH res.2 (OK res.2) := by
  refine Mth.of (by decide +kernel) (Nat.le_of_ble_eq_true rfl) (fun K B C => ?_)
  show Wx K B _ 0 0 SH 4 M 0 [some (aR o), some (aI p1), some (aJ p2), none] []
  unfold f_X4_put at h
  refine mx_aload_n (pc := 0) C dX4_put_0 rfl ?_
  refine mx_getI (pc := 1) C dX4_put_1 (so_4 ho) ci_4 (k := 0) (by decide) fl_X4_9 rfl (q := 0) rfl ?_
  by_cases c1 : M o 0 = 0
  · rw [if_pos c1] at h
    refine mx_tin (pc := 4) (tgt := 36) C 0 dX4_put_4 c1 (by decide) (by decide) rfl rfl ?_
    refine mx_aload_n (pc := 36) C dX4_put_36 rfl ?_
    refine mx_getR (pc := 37) (v := o + 1) C dX4_put_37 (so_4 ho) ci_4 (k := 2) (by decide) fl_X4_15 rfl (q := 2) rfl (lay_4_2 hOM ho) (by have := tp_pos ho; omega) ?_
    refine mx_iload_n (pc := 40) C dX4_put_40 rfl ?_
    refine mx_lload_n (pc := 41) C dX4_put_41 rfl ?_
    refine mx_l2i (pc := 42) C dX4_put_42  ?_
    refine mx_i2b (pc := 43) C dX4_put_43  ?_
    refine mx_i2l (pc := 44) C dX4_put_44  ?_
    obtain ⟨g2, h⟩ := of_gd h
    refine mx_last (pc := 45) C dX4_put_45 (sh_4_2 ho) g2.1 g2.2 ?_
    generalize hmM3 : stM M (o + 1) p1 (w8 (w32 p2)) = M3 at h ⊢
    replace h := lt_e h
    have hOM3 : OK M3 := by rw [← hmM3]; exact ok_arr hOM (sh_4_2 ho) (by decide)
    refine mx_goto (pc := 46) (tgt := 101) C dX4_put_46 rfl ?_
    rw [← Option.some.inj h]
    exact mx_return (pc := 101) C dX4_put_101 hOM3 ⟨Nat.le_refl _, Nat.le_refl _⟩
  · rw [if_neg c1] at h
    by_cases c4 : M o 0 = 1
    · rw [if_pos c4] at h
      refine mx_tin (pc := 4) (tgt := 49) C 1 dX4_put_4 c4 (by decide) (by decide) rfl rfl ?_
      refine mx_aload_n (pc := 49) C dX4_put_49 rfl ?_
      refine mx_getR (pc := 50) (v := o + 1) C dX4_put_50 (so_4 ho) ci_4 (k := 2) (by decide) fl_X4_15 rfl (q := 2) rfl (lay_4_2 hOM ho) (by have := tp_pos ho; omega) ?_
      refine mx_iload_n (pc := 53) C dX4_put_53 rfl ?_
      refine mx_lload_n (pc := 54) C dX4_put_54 rfl ?_
      refine mx_l2i (pc := 55) C dX4_put_55  ?_
      refine mx_i2s (pc := 56) C dX4_put_56  ?_
      refine mx_i2l (pc := 57) C dX4_put_57  ?_
      obtain ⟨g5, h⟩ := of_gd h
      refine mx_last (pc := 58) C dX4_put_58 (sh_4_2 ho) g5.1 g5.2 ?_
      generalize hmM6 : stM M (o + 1) p1 (w16 (w32 p2)) = M6 at h ⊢
      replace h := lt_e h
      have hOM6 : OK M6 := by rw [← hmM6]; exact ok_arr hOM (sh_4_2 ho) (by decide)
      refine mx_goto (pc := 59) (tgt := 101) C dX4_put_59 rfl ?_
      rw [← Option.some.inj h]
      exact mx_return (pc := 101) C dX4_put_101 hOM6 ⟨Nat.le_refl _, Nat.le_refl _⟩
    · rw [if_neg c4] at h
      by_cases c7 : M o 0 = 2
      · rw [if_pos c7] at h
        refine mx_tin (pc := 4) (tgt := 62) C 2 dX4_put_4 c7 (by decide) (by decide) rfl rfl ?_
        refine mx_aload_n (pc := 62) C dX4_put_62 rfl ?_
        refine mx_getR (pc := 63) (v := o + 1) C dX4_put_63 (so_4 ho) ci_4 (k := 2) (by decide) fl_X4_15 rfl (q := 2) rfl (lay_4_2 hOM ho) (by have := tp_pos ho; omega) ?_
        refine mx_iload_n (pc := 66) C dX4_put_66 rfl ?_
        refine mx_lload_n (pc := 67) C dX4_put_67 rfl ?_
        refine mx_l2i (pc := 68) C dX4_put_68  ?_
        refine mx_i2l (pc := 69) C dX4_put_69  ?_
        obtain ⟨g8, h⟩ := of_gd h
        refine mx_last (pc := 70) C dX4_put_70 (sh_4_2 ho) g8.1 g8.2 ?_
        generalize hmM9 : stM M (o + 1) p1 (w32 p2) = M9 at h ⊢
        replace h := lt_e h
        have hOM9 : OK M9 := by rw [← hmM9]; exact ok_arr hOM (sh_4_2 ho) (by decide)
        refine mx_goto (pc := 71) (tgt := 101) C dX4_put_71 rfl ?_
        rw [← Option.some.inj h]
        exact mx_return (pc := 101) C dX4_put_101 hOM9 ⟨Nat.le_refl _, Nat.le_refl _⟩
      · rw [if_neg c7] at h
        by_cases c10 : M o 0 = 3
        · rw [if_pos c10] at h
          refine mx_tin (pc := 4) (tgt := 74) C 3 dX4_put_4 c10 (by decide) (by decide) rfl rfl ?_
          refine mx_aload_n (pc := 74) C dX4_put_74 rfl ?_
          refine mx_getR (pc := 75) (v := o + 1) C dX4_put_75 (so_4 ho) ci_4 (k := 2) (by decide) fl_X4_15 rfl (q := 2) rfl (lay_4_2 hOM ho) (by have := tp_pos ho; omega) ?_
          refine mx_iload_n (pc := 78) C dX4_put_78 rfl ?_
          refine mx_lload_n (pc := 79) C dX4_put_79 rfl ?_
          obtain ⟨g11, h⟩ := of_gd h
          refine mx_last (pc := 80) C dX4_put_80 (sh_4_2 ho) g11.1 g11.2 ?_
          generalize hmM12 : stM M (o + 1) p1 p2 = M12 at h ⊢
          replace h := lt_e h
          have hOM12 : OK M12 := by rw [← hmM12]; exact ok_arr hOM (sh_4_2 ho) (by decide)
          refine mx_goto (pc := 81) (tgt := 101) C dX4_put_81 rfl ?_
          rw [← Option.some.inj h]
          exact mx_return (pc := 101) C dX4_put_101 hOM12 ⟨Nat.le_refl _, Nat.le_refl _⟩
        · rw [if_neg c10] at h
          refine mx_tout (pc := 4) (tgt := 84) C dX4_put_4 (by omega) rfl ?_
          refine mx_aload_n (pc := 84) C dX4_put_84 rfl ?_
          refine mx_getR (pc := 85) (v := o + 1) C dX4_put_85 (so_4 ho) ci_4 (k := 2) (by decide) fl_X4_15 rfl (q := 2) rfl (lay_4_2 hOM ho) (by have := tp_pos ho; omega) ?_
          refine mx_iload_n (pc := 88) C dX4_put_88 rfl ?_
          refine mx_lload_n (pc := 89) C dX4_put_89 rfl ?_
          refine mx_lconst (pc := 90) C dX4_put_90 (z := 0) rfl (by constructor <;> decide) ?_
          refine mx_lcmp (pc := 91) C dX4_put_91  ?_
          refine mx_if_eq (pc := 92) (tgt := 99) C dX4_put_92 rfl (fun c13 => ?_) (fun c13 => ?_)
          · rw [if_pos c13] at h
            refine mx_lconst (pc := 99) C dX4_put_99 (z := 0) rfl (by constructor <;> decide) ?_
            obtain ⟨g14, h⟩ := of_gd h
            refine mx_last (pc := 100) C dX4_put_100 (sh_4_2 ho) g14.1 g14.2 ?_
            generalize hmM15 : stM M (o + 1) p1 0 = M15 at h ⊢
            replace h := lt_e h
            have hOM15 : OK M15 := by rw [← hmM15]; exact ok_arr hOM (sh_4_2 ho) (by decide)
            rw [← Option.some.inj h]
            exact mx_return (pc := 101) C dX4_put_101 hOM15 ⟨Nat.le_refl _, Nat.le_refl _⟩
          · rw [if_neg c13] at h
            refine mx_lconst (pc := 95) C dX4_put_95 (z := 1) rfl (by constructor <;> decide) ?_
            refine mx_goto (pc := 96) (tgt := 100) C dX4_put_96 rfl ?_
            obtain ⟨g16, h⟩ := of_gd h
            refine mx_last (pc := 100) C dX4_put_100 (sh_4_2 ho) g16.1 g16.2 ?_
            generalize hmM17 : stM M (o + 1) p1 1 = M17 at h ⊢
            replace h := lt_e h
            have hOM17 : OK M17 := by rw [← hmM17]; exact ok_arr hOM (sh_4_2 ho) (by decide)
            rw [← Option.some.inj h]
            exact mx_return (pc := 101) C dX4_put_101 hOM17 ⟨Nat.le_refl _, Nat.le_refl _⟩
