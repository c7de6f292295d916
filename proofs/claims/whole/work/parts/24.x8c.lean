def f_X8_putBack_10 : Nat → Int → Mem → Option (Int × Mem)
  | 0, _, _ => none
  | n + 1, x1, M => if 6 ≤ x1 then some (0, M) else if 0 ≤ x1 ∧ x1 < 6 then if 0 ≤ x1 ∧ x1 < 6 then lt (stM M 130 x1 (M 144 x1)) (fun M4 => if 0 ≤ x1 ∧ x1 < 6 then if 0 ≤ x1 ∧ x1 < 6 then lt (stM M4 131 x1 (M4 145 x1)) (fun M7 => f_X8_putBack_10 n (w32 (x1 + 1)) M7) else none else none) else none else none
def f_X8_putBack (M : Mem) : Option (Int × Mem) :=
  lt (stM M 127 1 (M 127 26)) (fun M1 => f_X8_putBack_10 FU 0 M1)
set_option maxRecDepth 20000 in
set_option maxHeartbeats 4000000 in
theorem b_X8_putBack_10 {K : KX} {B : BX} {res : Int × Mem} (C : Cx K B false yX8_putBack cX8_putBack 2 none 1 0 0) : ∀ (n : Nat) (x1 : Int) (M : Mem), OK M → f_X8_putBack_10 n x1 M = some res → Wx K B (Zr K B none SH res.2 (OK res.2) 0 0) 0 0 SH 2 M 10 [some (aR 127), some (aI x1)] [] := by
  intro n
  induction n with
  | zero =>
    intro x1 M hOM h
    cases h
  | succ n ih =>
    intro x1 M hOM h
    rw [f_X8_putBack_10.eq_2] at h
    refine mx_iload_n (pc := 10) C dX8_putBack_10 rfl ?_
    refine mx_bipush (pc := 11) C dX8_putBack_11 (z := 6) rfl (by constructor <;> decide) ?_
    refine mx_icmp_ge (pc := 13) (tgt := 46) C dX8_putBack_13 rfl (fun c1 => ?_) (fun c1 => ?_)
    · rw [if_pos c1] at h
      rw [← Option.some.inj h]
      exact mx_return (pc := 46) C dX8_putBack_46 hOM ⟨Nat.le_refl _, Nat.le_refl _⟩
    · rw [if_neg c1] at h
      refine mx_aload_n (pc := 16) C dX8_putBack_16 rfl ?_
      refine mx_getR (pc := 17) (v := 130) C dX8_putBack_17 so_8 ci_8 (k := 4) (by decide) fl_X8_23 rfl (q := 4) rfl (lay_8_4 hOM) (by decide) ?_
      refine mx_iload_n (pc := 20) C dX8_putBack_20 rfl ?_
      refine mx_aload_n (pc := 21) C dX8_putBack_21 rfl ?_
      refine mx_getR (pc := 22) (v := 144) C dX8_putBack_22 so_8 ci_8 (k := 27) (by decide) fl_X8_93 rfl (q := 27) rfl (lay_8_27 hOM) (by decide) ?_
      refine mx_iload_n (pc := 25) C dX8_putBack_25 rfl ?_
      obtain ⟨g2, h⟩ := of_gd h
      refine mx_iald (pc := 26) C dX8_putBack_26 sh_8_27 g2.1 g2.2 ?_
      obtain ⟨g3, h⟩ := of_gd h
      refine mx_iast (pc := 27) C dX8_putBack_27 sh_8_4 g3.1 g3.2 ?_
      generalize hmM4 : stM M 130 x1 (M 144 x1) = M4 at h ⊢
      replace h := lt_e h
      have hOM4 : OK M4 := by rw [← hmM4]; exact ok_arr hOM sh_8_4 (by decide)
      refine mx_aload_n (pc := 28) C dX8_putBack_28 rfl ?_
      refine mx_getR (pc := 29) (v := 131) C dX8_putBack_29 so_8 ci_8 (k := 5) (by decide) fl_X8_26 rfl (q := 5) rfl (lay_8_5 hOM4) (by decide) ?_
      refine mx_iload_n (pc := 32) C dX8_putBack_32 rfl ?_
      refine mx_aload_n (pc := 33) C dX8_putBack_33 rfl ?_
      refine mx_getR (pc := 34) (v := 145) C dX8_putBack_34 so_8 ci_8 (k := 28) (by decide) fl_X8_96 rfl (q := 28) rfl (lay_8_28 hOM4) (by decide) ?_
      refine mx_iload_n (pc := 37) C dX8_putBack_37 rfl ?_
      obtain ⟨g5, h⟩ := of_gd h
      refine mx_iald (pc := 38) C dX8_putBack_38 sh_8_28 g5.1 g5.2 ?_
      obtain ⟨g6, h⟩ := of_gd h
      refine mx_iast (pc := 39) C dX8_putBack_39 sh_8_5 g6.1 g6.2 ?_
      generalize hmM7 : stM M4 131 x1 (M4 145 x1) = M7 at h ⊢
      replace h := lt_e h
      have hOM7 : OK M7 := by rw [← hmM7]; exact ok_arr hOM4 sh_8_5 (by decide)
      refine mx_iinc (pc := 40) C dX8_putBack_40 (ls' := [some (aR 127), some (aI (w32 (x1 + 1)))]) rfl (by decide) rfl (by constructor <;> decide) rfl rfl ?_
      refine mx_goto (pc := 43) (tgt := 10) C dX8_putBack_43 rfl ?_
      exact ih (w32 (x1 + 1)) M7 hOM7 h
set_option maxRecDepth 20000 in
set_option maxHeartbeats 4000000 in
theorem m_X8_putBack {M : Mem} {res : Int × Mem} (hOM : OK M) (h : f_X8_putBack M = some res) : Mth false yX8_putBack cX8_putBack 2 none 1 0 0 SH [aR 127] M none SH res.2 (OK res.2) := by
  refine Mth.of (by decide +kernel) (Nat.le_of_ble_eq_true rfl) (fun K B C => ?_)
  show Wx K B _ 0 0 SH 2 M 0 [some (aR 127), none] []
  unfold f_X8_putBack at h
  refine mx_aload_n (pc := 0) C dX8_putBack_0 rfl ?_
  refine mx_aload_n (pc := 1) C dX8_putBack_1 rfl ?_
  refine mx_getI (pc := 2) C dX8_putBack_2 so_8 ci_8 (k := 26) (by decide) fl_X8_90 rfl (q := 26) rfl ?_
  refine mx_putI (pc := 5) C dX8_putBack_5 so_8 ci_8 (k := 1) (by decide) fl_X8_13 (Or.inl rfl) rfl (q := 1) rfl ?_
  generalize hmM1 : stM M 127 1 (M 127 26) = M1 at h ⊢
  replace h := lt_e h
  have hOM1 : OK M1 := by rw [← hmM1]; exact okf_8_1 hOM
  refine mx_iconst (pc := 8) C dX8_putBack_8 (z := 0) rfl (by constructor <;> decide) ?_
  refine mx_istore_n (pc := 9) C dX8_putBack_9 (ls' := [some (aR 127), some (aI 0)]) (by decide) rfl rfl ?_
  exact b_X8_putBack_10 C FU 0 M1 hOM1 h

def f_X8_on_92 (p1 : Int) (p2 : Int) (t0 : Int) (M : Mem) : Option (Int × Mem) :=
  (f_X8_putBack M).bind (fun q1 => some (t0, q1.2))
def f_X8_on_35 (p1 : Int) (p2 : Int) (x1 : Int) (x2 : Int) (M : Mem) : Option (Int × Mem) :=
  (f_X8_isYears x1 M).bind (fun q1 => if q1.1 = 0 then some ((-2), q1.2) else (f_X8_save q1.2).bind (fun q4 => (f_X8_goYears x1 q4.2).bind (fun q6 => if x2 = 0 then (f_X8_greatest q6.2).bind (fun q13 => f_X8_on_92 p1 p2 q13.1 q13.2) else if 20 ≤ x2 then if 0 ≤ w32 (x2 - 20) ∧ w32 (x2 - 20) < 6 then f_X8_on_92 p1 p2 (q6.2 130 (w32 (x2 - 20))) q6.2 else none else (f_X8_noise (w32 (x2 - 10)) q6.2).bind (fun q11 => f_X8_on_92 p1 p2 q11.1 q11.2))))
def f_X8_on (p1 : Int) (p2 : Int) (M : Mem) : Option (Int × Mem) :=
  if p2 = 0 then f_X8_on_35 p1 p2 p1 p2 M else (f_X8_in p2 10 14 M).bind (fun q2 => if q2.1 = 0 then (f_X8_in p2 20 (w32 (19 + (q2.2 127 0))) q2.2).bind (fun q5 => if q5.1 = 0 then some ((-1), q5.2) else f_X8_on_35 p1 p2 p1 p2 q5.2) else f_X8_on_35 p1 p2 p1 p2 q2.2)
set_option maxRecDepth 20000 in
set_option maxHeartbeats 4000000 in
theorem b_X8_on_92 {K : KX} {B : BX} {res : Int × Mem} {p1 : Int} {p2 : Int} (C : Cx K B false yX8_on cX8_on 4 (some .int) 7 0 0) : ∀ (t0 : Int) (M : Mem), OK M → f_X8_on_92 p1 p2 t0 M = some res → Wx K B (Zr K B (some (aI res.1)) SH res.2 (OK res.2) 0 0) 0 0 SH 4 M 92 [some (aR 127), none, none, none] [aI t0] := by
  intro t0 M hOM h
  unfold f_X8_on_92 at h
  refine mx_istore_n (pc := 92) C dX8_on_92 (ls' := [some (aR 127), none, none, some (aI t0)]) (by decide) rfl rfl ?_
  refine mx_aload_n (pc := 93) C dX8_on_93 rfl ?_
  obtain ⟨q1, hq1, h⟩ := of_bd h
  refine mc_V (pc := 94) (as := []) (rest := []) (stk2 := []) C ⟨Nat.le_refl _, Nat.le_refl _⟩ (m_X8_putBack hOM hq1) mi_X8_putBack mv_X8_putBack ml_X8_356 ci_8 rfl so_8 (by omega) rfl (Nat.le_of_ble_eq_true rfl) dX8_on_94 rfl (fun hp2 => ?_)
  have hOq1 : OK q1.2 := hp2
  refine mx_iload_n (pc := 97) C dX8_on_97 rfl ?_
  rw [← Option.some.inj h]
  exact mx_ireturn (pc := 98) C dX8_on_98 hOq1 ⟨Nat.le_refl _, Nat.le_refl _⟩
set_option maxRecDepth 20000 in
set_option maxHeartbeats 4000000 in
theorem b_X8_on_35 {K : KX} {B : BX} {res : Int × Mem} {p1 : Int} {p2 : Int} (C : Cx K B false yX8_on cX8_on 4 (some .int) 7 0 0) : ∀ (x1 : Int) (x2 : Int) (M : Mem), OK M → f_X8_on_35 p1 p2 x1 x2 M = some res → Wx K B (Zr K B (some (aI res.1)) SH res.2 (OK res.2) 0 0) 0 0 SH 4 M 35 [some (aR 127), some (aI x1), some (aI x2), none] [] := by
  intro x1 x2 M hOM h
  unfold f_X8_on_35 at h
  refine mx_aload_n (pc := 35) C dX8_on_35 rfl ?_
  refine mx_iload_n (pc := 36) C dX8_on_36 rfl ?_
  obtain ⟨q1, hq1, h⟩ := of_bd h
  refine mc_V (pc := 37) (as := [aI x1]) (rest := []) (stk2 := [aI q1.1]) C ⟨Nat.le_refl _, Nat.le_refl _⟩ (m_X8_isYears hOM hq1) mi_X8_isYears mv_X8_isYears ml_X8_347 ci_8 rfl so_8 (by omega) rfl (Nat.le_of_ble_eq_true rfl) dX8_on_37 rfl (fun hp2 => ?_)
  have hOq1 : OK q1.2 := hp2.1
  refine mx_if_ne (pc := 40) (tgt := 46) C dX8_on_40 rfl (fun c3 => ?_) (fun c3 => ?_)
  · rw [if_neg c3] at h
    refine mx_aload_n (pc := 46) C dX8_on_46 rfl ?_
    obtain ⟨q4, hq4, h⟩ := of_bd h
    refine mc_V (pc := 47) (as := []) (rest := []) (stk2 := []) C ⟨Nat.le_refl _, Nat.le_refl _⟩ (m_X8_save hOq1 hq4) mi_X8_save mv_X8_save ml_X8_353 ci_8 rfl so_8 (by omega) rfl (Nat.le_of_ble_eq_true rfl) dX8_on_47 rfl (fun hp5 => ?_)
    have hOq4 : OK q4.2 := hp5
    refine mx_aload_n (pc := 50) C dX8_on_50 rfl ?_
    refine mx_iload_n (pc := 51) C dX8_on_51 rfl ?_
    obtain ⟨q6, hq6, h⟩ := of_bd h
    refine mc_V (pc := 52) (as := [aI x1]) (rest := []) (stk2 := []) C ⟨Nat.le_refl _, Nat.le_refl _⟩ (m_X8_goYears hOq4 hq6) mi_X8_goYears mv_X8_goYears ml_X8_350 ci_8 rfl so_8 (by omega) rfl (Nat.le_of_ble_eq_true rfl) dX8_on_52 rfl (fun hp7 => ?_)
    have hOq6 : OK q6.2 := hp7
    refine mx_iload_n (pc := 55) C dX8_on_55 rfl ?_
    refine mx_if_ne (pc := 56) (tgt := 66) C dX8_on_56 rfl (fun c8 => ?_) (fun c8 => ?_)
    · rw [if_neg c8] at h
      refine mx_iload_n (pc := 66) C dX8_on_66 rfl ?_
      refine mx_bipush (pc := 67) C dX8_on_67 (z := 20) rfl (by constructor <;> decide) ?_
      refine mx_icmp_ge (pc := 69) (tgt := 83) C dX8_on_69 rfl (fun c9 => ?_) (fun c9 => ?_)
      · rw [if_pos c9] at h
        refine mx_aload_n (pc := 83) C dX8_on_83 rfl ?_
        refine mx_getR (pc := 84) (v := 130) C dX8_on_84 so_8 ci_8 (k := 4) (by decide) fl_X8_23 rfl (q := 4) rfl (lay_8_4 hOq6) (by decide) ?_
        refine mx_iload_n (pc := 87) C dX8_on_87 rfl ?_
        refine mx_bipush (pc := 88) C dX8_on_88 (z := 20) rfl (by constructor <;> decide) ?_
        refine mx_isub (pc := 90) C dX8_on_90  ?_
        obtain ⟨g10, h⟩ := of_gd h
        refine mx_iald (pc := 91) C dX8_on_91 sh_8_4 g10.1 g10.2 ?_
        refine mx_mask [true, false, false, false] (ls' := [some (aR 127), none, none, none]) rfl rfl ?_
        exact b_X8_on_92 C (q6.2 130 (w32 (x2 - 20))) q6.2 hOq6 h
      · rw [if_neg c9] at h
        refine mx_aload_n (pc := 72) C dX8_on_72 rfl ?_
        refine mx_iload_n (pc := 73) C dX8_on_73 rfl ?_
        refine mx_bipush (pc := 74) C dX8_on_74 (z := 10) rfl (by constructor <;> decide) ?_
        refine mx_isub (pc := 76) C dX8_on_76  ?_
        obtain ⟨q11, hq11, h⟩ := of_bd h
        refine mc_V (pc := 77) (as := [aI (w32 (x2 - 10))]) (rest := []) (stk2 := [aI q11.1]) C ⟨Nat.le_refl _, Nat.le_refl _⟩ (m_X8_noise hOq6 hq11) mi_X8_noise mv_X8_noise ml_X8_239 ci_8 rfl so_8 (by omega) rfl (Nat.le_of_ble_eq_true rfl) dX8_on_77 rfl (fun hp12 => ?_)
        have hOq11 : OK q11.2 := hp12
        refine mx_goto (pc := 80) (tgt := 92) C dX8_on_80 rfl ?_
        refine mx_mask [true, false, false, false] (ls' := [some (aR 127), none, none, none]) rfl rfl ?_
        exact b_X8_on_92 C q11.1 q11.2 hOq11 h
    · rw [if_pos c8] at h
      refine mx_aload_n (pc := 59) C dX8_on_59 rfl ?_
      obtain ⟨q13, hq13, h⟩ := of_bd h
      refine mc_V (pc := 60) (as := []) (rest := []) (stk2 := [aI q13.1]) C ⟨Nat.le_refl _, Nat.le_refl _⟩ (m_X8_greatest hOq6 hq13) mi_X8_greatest mv_X8_greatest ml_X8_338 ci_8 rfl so_8 (by omega) rfl (Nat.le_of_ble_eq_true rfl) dX8_on_60 rfl (fun hp14 => ?_)
      have hOq13 : OK q13.2 := hp14
      refine mx_goto (pc := 63) (tgt := 92) C dX8_on_63 rfl ?_
      refine mx_mask [true, false, false, false] (ls' := [some (aR 127), none, none, none]) rfl rfl ?_
      exact b_X8_on_92 C q13.1 q13.2 hOq13 h
  · rw [if_pos c3] at h
    refine mx_bipush (pc := 43) C dX8_on_43 (z := (-2)) rfl (by constructor <;> decide) ?_
    rw [← Option.some.inj h]
    exact mx_ireturn (pc := 45) C dX8_on_45 hOq1 ⟨Nat.le_refl _, Nat.le_refl _⟩
set_option maxRecDepth 20000 in
set_option maxHeartbeats 4000000 in
theorem m_X8_on {p1 : Int} {p2 : Int} {M : Mem} {res : Int × Mem} (hOM : OK M) (h : f_X8_on p1 p2 M = some res) : Mth false yX8_on cX8_on 4 (some .int) 7 0 0 SH [aR 127, aI p1, aI p2] M (some (aI res.1)) SH res.2 (OK res.2) := by
  refine Mth.of (by decide +kernel) (Nat.le_of_ble_eq_true rfl) (fun K B C => ?_)
  show Wx K B _ 0 0 SH 4 M 0 [some (aR 127), some (aI p1), some (aI p2), none] []
  unfold f_X8_on at h
  refine mx_iload_n (pc := 0) C dX8_on_0 rfl ?_
  refine mx_if_eq (pc := 1) (tgt := 35) C dX8_on_1 rfl (fun c1 => ?_) (fun c1 => ?_)
  · rw [if_pos c1] at h
    exact b_X8_on_35 C p1 p2 M hOM h
  · rw [if_neg c1] at h
    refine mx_aload_n (pc := 4) C dX8_on_4 rfl ?_
    refine mx_iload_n (pc := 5) C dX8_on_5 rfl ?_
    refine mx_bipush (pc := 6) C dX8_on_6 (z := 10) rfl (by constructor <;> decide) ?_
    refine mx_bipush (pc := 8) C dX8_on_8 (z := 14) rfl (by constructor <;> decide) ?_
    obtain ⟨q2, hq2, h⟩ := of_bd h
    refine mc_V (pc := 10) (as := [aI p2, aI 10, aI 14]) (rest := []) (stk2 := [aI q2.1]) C ⟨Nat.le_refl _, Nat.le_refl _⟩ (m_X8_in hOM hq2) mi_X8_in mv_X8_in ml_X8_218 ci_8 rfl so_8 (by omega) rfl (Nat.le_of_ble_eq_true rfl) dX8_on_10 rfl (fun hp3 => ?_)
    have hOq2 : OK q2.2 := hp3.1
    refine mx_if_ne (pc := 13) (tgt := 35) C dX8_on_13 rfl (fun c4 => ?_) (fun c4 => ?_)
    · rw [if_neg c4] at h
      exact b_X8_on_35 C p1 p2 q2.2 hOq2 h
    · rw [if_pos c4] at h
      refine mx_aload_n (pc := 16) C dX8_on_16 rfl ?_
      refine mx_iload_n (pc := 17) C dX8_on_17 rfl ?_
      refine mx_bipush (pc := 18) C dX8_on_18 (z := 20) rfl (by constructor <;> decide) ?_
      refine mx_bipush (pc := 20) C dX8_on_20 (z := 19) rfl (by constructor <;> decide) ?_
      refine mx_aload_n (pc := 22) C dX8_on_22 rfl ?_
      refine mx_getI (pc := 23) C dX8_on_23 so_8 ci_8 (k := 0) (by decide) fl_X8_7 rfl (q := 0) rfl ?_
      refine mx_iadd (pc := 26) C dX8_on_26  ?_
      obtain ⟨q5, hq5, h⟩ := of_bd h
      refine mc_V (pc := 27) (as := [aI p2, aI 20, aI (w32 (19 + (q2.2 127 0)))]) (rest := []) (stk2 := [aI q5.1]) C ⟨Nat.le_refl _, Nat.le_refl _⟩ (m_X8_in hOq2 hq5) mi_X8_in mv_X8_in ml_X8_218 ci_8 rfl so_8 (by omega) rfl (Nat.le_of_ble_eq_true rfl) dX8_on_27 rfl (fun hp6 => ?_)
      have hOq5 : OK q5.2 := hp6.1
      refine mx_if_ne (pc := 30) (tgt := 35) C dX8_on_30 rfl (fun c7 => ?_) (fun c7 => ?_)
      · rw [if_neg c7] at h
        exact b_X8_on_35 C p1 p2 q5.2 hOq5 h
      · rw [if_pos c7] at h
        refine mx_iconst (pc := 33) C dX8_on_33 (z := (-1)) rfl (by constructor <;> decide) ?_
        rw [← Option.some.inj h]
        exact mx_ireturn (pc := 34) C dX8_on_34 hOq5 ⟨Nat.le_refl _, Nat.le_refl _⟩

def f_X8_when_124 (p1 : Int) (p2 : Int) (k61 : Int → Int → Int → Int → Mem → Option (Int × Mem)) (x1 : Int) (x2 : Int) (x4 : Int) (t0 : Int) (M : Mem) : Option (Int × Mem) :=
  (f_X8_goYear M).bind (fun q1 => k61 x1 x2 t0 (w32 (x4 + 1)) q1.2)
def f_X8_when_110 (p1 : Int) (p2 : Int) (k61 : Int → Int → Int → Int → Mem → Option (Int × Mem)) (x1 : Int) (x2 : Int) (x4 : Int) (t0 : Int) (M : Mem) : Option (Int × Mem) :=
  if t0 = 0 then f_X8_when_124 p1 p2 k61 x1 x2 x4 (-5) M else f_X8_when_124 p1 p2 k61 x1 x2 x4 x4 M
def f_X8_when_135 (p1 : Int) (p2 : Int) (x3 : Int) (M : Mem) : Option (Int × Mem) :=
  (f_X8_putBack M).bind (fun q1 => some (x3, q1.2))
def f_X8_when_61 (p1 : Int) (p2 : Int) : Nat → Int → Int → Int → Int → Mem → Option (Int × Mem)
  | 0, _, _, _, _, _ => none
  | n + 1, x1, x2, x3, x4, M => if 61 ≤ x4 then f_X8_when_135 p1 p2 x3 M else if 0 ≤ x3 then f_X8_when_135 p1 p2 x3 M else if x1 = 0 then (f_X8_noise x2 M).bind (fun q6 => (f_X8_calm q6.2).bind (fun q8 => if q8.1 < q6.1 then f_X8_when_110 p1 p2 (f_X8_when_61 p1 p2 n) x1 x2 x4 0 q8.2 else f_X8_when_110 p1 p2 (f_X8_when_61 p1 p2 n) x1 x2 x4 1 q8.2)) else if 0 ≤ x2 ∧ x2 < 6 then if M 130 x2 = 0 then f_X8_when_110 p1 p2 (f_X8_when_61 p1 p2 n) x1 x2 x4 1 M else f_X8_when_110 p1 p2 (f_X8_when_61 p1 p2 n) x1 x2 x4 0 M else none
def f_X8_when_51 (p1 : Int) (p2 : Int) (x1 : Int) (x2 : Int) (M : Mem) : Option (Int × Mem) :=
  (f_X8_save M).bind (fun q1 => f_X8_when_61 p1 p2 FU x1 x2 (-5) 0 q1.2)
def f_X8_when_35 (p1 : Int) (p2 : Int) (x1 : Int) (x2 : Int) (M : Mem) : Option (Int × Mem) :=
  if x1 = 1 then (f_X8_isLost x2 M).bind (fun q2 => if q2.1 = 0 then f_X8_when_51 p1 p2 x1 x2 q2.2 else some ((-5), q2.2)) else f_X8_when_51 p1 p2 x1 x2 M
def f_X8_when (p1 : Int) (p2 : Int) (M : Mem) : Option (Int × Mem) :=
  (f_X8_in p1 0 1 M).bind (fun q1 => if q1.1 = 0 then some ((-1), q1.2) else if p1 = 0 then (f_X8_isHouse p2 q1.2).bind (fun q8 => if q8.1 = 0 then some ((-1), q8.2) else f_X8_when_35 p1 p2 p1 p2 q8.2) else (f_X8_isSound p2 q1.2).bind (fun q5 => if q5.1 = 0 then some ((-1), q5.2) else f_X8_when_35 p1 p2 p1 p2 q5.2))
set_option maxRecDepth 20000 in
set_option maxHeartbeats 4000000 in
theorem b_X8_when_124 {K : KX} {B : BX} {res : Int × Mem} {p1 : Int} {p2 : Int} {k61 : Int → Int → Int → Int → Mem → Option (Int × Mem)} (C : Cx K B false yX8_when cX8_when 6 (some .int) 7 0 0) (hk61 : ∀ (x1 : Int) (x2 : Int) (x3 : Int) (x4 : Int) (M : Mem), OK M → k61 x1 x2 x3 x4 M = some res → Wx K B (Zr K B (some (aI res.1)) SH res.2 (OK res.2) 0 0) 0 0 SH 6 M 61 [some (aR 127), some (aI x1), some (aI x2), some (aI x3), some (aI x4), none] []) : ∀ (x1 : Int) (x2 : Int) (x4 : Int) (t0 : Int) (M : Mem), OK M → f_X8_when_124 p1 p2 k61 x1 x2 x4 t0 M = some res → Wx K B (Zr K B (some (aI res.1)) SH res.2 (OK res.2) 0 0) 0 0 SH 6 M 124 [some (aR 127), some (aI x1), some (aI x2), none, some (aI x4), none] [aI t0] := by
  intro x1 x2 x4 t0 M hOM h
  unfold f_X8_when_124 at h
  refine mx_istore_n (pc := 124) C dX8_when_124 (ls' := [some (aR 127), some (aI x1), some (aI x2), some (aI t0), some (aI x4), none]) (by decide) rfl rfl ?_
  refine mx_aload_n (pc := 125) C dX8_when_125 rfl ?_
  obtain ⟨q1, hq1, h⟩ := of_bd h
  refine mc_V (pc := 126) (as := []) (rest := []) (stk2 := []) C ⟨Nat.le_refl _, Nat.le_refl _⟩ (m_X8_goYear hOM hq1) mi_X8_goYear mv_X8_goYear ml_X8_344 ci_8 rfl so_8 (by omega) rfl (Nat.le_of_ble_eq_true rfl) dX8_when_126 rfl (fun hp2 => ?_)
  have hOq1 : OK q1.2 := hp2
  refine mx_iinc (pc := 129) C dX8_when_129 (ls' := [some (aR 127), some (aI x1), some (aI x2), some (aI t0), some (aI (w32 (x4 + 1))), none]) rfl (by decide) rfl (by constructor <;> decide) rfl rfl ?_
  refine mx_goto (pc := 132) (tgt := 61) C dX8_when_132 rfl ?_
  exact hk61 x1 x2 t0 (w32 (x4 + 1)) q1.2 hOq1 h
set_option maxRecDepth 20000 in
set_option maxHeartbeats 4000000 in
theorem b_X8_when_110 {K : KX} {B : BX} {res : Int × Mem} {p1 : Int} {p2 : Int} {k61 : Int → Int → Int → Int → Mem → Option (Int × Mem)} (C : Cx K B false yX8_when cX8_when 6 (some .int) 7 0 0) (hk61 : ∀ (x1 : Int) (x2 : Int) (x3 : Int) (x4 : Int) (M : Mem), OK M → k61 x1 x2 x3 x4 M = some res → Wx K B (Zr K B (some (aI res.1)) SH res.2 (OK res.2) 0 0) 0 0 SH 6 M 61 [some (aR 127), some (aI x1), some (aI x2), some (aI x3), some (aI x4), none] []) : ∀ (x1 : Int) (x2 : Int) (x4 : Int) (t0 : Int) (M : Mem), OK M → f_X8_when_110 p1 p2 k61 x1 x2 x4 t0 M = some res → Wx K B (Zr K B (some (aI res.1)) SH res.2 (OK res.2) 0 0) 0 0 SH 6 M 110 [some (aR 127), some (aI x1), some (aI x2), none, some (aI x4), none] [aI t0] := by
  intro x1 x2 x4 t0 M hOM h
  unfold f_X8_when_110 at h
  refine mx_istore (pc := 110) C dX8_when_110 (ls' := [some (aR 127), some (aI x1), some (aI x2), none, some (aI x4), some (aI t0)]) (by decide) rfl rfl ?_
  refine mx_iload (pc := 112) C dX8_when_112 rfl ?_
  refine mx_if_eq (pc := 114) (tgt := 122) C dX8_when_114 rfl (fun c1 => ?_) (fun c1 => ?_)
  · rw [if_pos c1] at h
    refine mx_bipush (pc := 122) C dX8_when_122 (z := (-5)) rfl (by constructor <;> decide) ?_
    refine mx_mask [true, true, true, false, true, false] (ls' := [some (aR 127), some (aI x1), some (aI x2), none, some (aI x4), none]) rfl rfl ?_
    exact b_X8_when_124 C hk61 x1 x2 x4 (-5) M hOM h
  · rw [if_neg c1] at h
    refine mx_iload (pc := 117) C dX8_when_117 rfl ?_
    refine mx_goto (pc := 119) (tgt := 124) C dX8_when_119 rfl ?_
    refine mx_mask [true, true, true, false, true, false] (ls' := [some (aR 127), some (aI x1), some (aI x2), none, some (aI x4), none]) rfl rfl ?_
    exact b_X8_when_124 C hk61 x1 x2 x4 x4 M hOM h
set_option maxRecDepth 20000 in
set_option maxHeartbeats 4000000 in
theorem b_X8_when_135 {K : KX} {B : BX} {res : Int × Mem} {p1 : Int} {p2 : Int} (C : Cx K B false yX8_when cX8_when 6 (some .int) 7 0 0) : ∀ (x3 : Int) (M : Mem), OK M → f_X8_when_135 p1 p2 x3 M = some res → Wx K B (Zr K B (some (aI res.1)) SH res.2 (OK res.2) 0 0) 0 0 SH 6 M 135 [some (aR 127), none, none, some (aI x3), none, none] [] := by
  intro x3 M hOM h
  unfold f_X8_when_135 at h
  refine mx_aload_n (pc := 135) C dX8_when_135 rfl ?_
  obtain ⟨q1, hq1, h⟩ := of_bd h
  refine mc_V (pc := 136) (as := []) (rest := []) (stk2 := []) C ⟨Nat.le_refl _, Nat.le_refl _⟩ (m_X8_putBack hOM hq1) mi_X8_putBack mv_X8_putBack ml_X8_356 ci_8 rfl so_8 (by omega) rfl (Nat.le_of_ble_eq_true rfl) dX8_when_136 rfl (fun hp2 => ?_)
  have hOq1 : OK q1.2 := hp2
  refine mx_iload_n (pc := 139) C dX8_when_139 rfl ?_
  rw [← Option.some.inj h]
  exact mx_ireturn (pc := 140) C dX8_when_140 hOq1 ⟨Nat.le_refl _, Nat.le_refl _⟩
set_option maxRecDepth 20000 in
set_option maxHeartbeats 4000000 in
theorem b_X8_when_61 {K : KX} {B : BX} {res : Int × Mem} {p1 : Int} {p2 : Int} (C : Cx K B false yX8_when cX8_when 6 (some .int) 7 0 0) : ∀ (n : Nat) (x1 : Int) (x2 : Int) (x3 : Int) (x4 : Int) (M : Mem), OK M → f_X8_when_61 p1 p2 n x1 x2 x3 x4 M = some res → Wx K B (Zr K B (some (aI res.1)) SH res.2 (OK res.2) 0 0) 0 0 SH 6 M 61 [some (aR 127), some (aI x1), some (aI x2), some (aI x3), some (aI x4), none] [] := by
  intro n
  induction n with
  | zero =>
    intro x1 x2 x3 x4 M hOM h
    cases h
  | succ n ih =>
    intro x1 x2 x3 x4 M hOM h
    rw [f_X8_when_61.eq_2] at h
    refine mx_iload (pc := 61) C dX8_when_61 rfl ?_
    refine mx_bipush (pc := 63) C dX8_when_63 (z := 61) rfl (by constructor <;> decide) ?_
    refine mx_icmp_ge (pc := 65) (tgt := 135) C dX8_when_65 rfl (fun c1 => ?_) (fun c1 => ?_)
    · rw [if_pos c1] at h
      refine mx_mask [true, false, false, true, false, false] (ls' := [some (aR 127), none, none, some (aI x3), none, none]) rfl rfl ?_
      exact b_X8_when_135 C x3 M hOM h
    · rw [if_neg c1] at h
      refine mx_iload_n (pc := 68) C dX8_when_68 rfl ?_
      refine mx_if_ge (pc := 69) (tgt := 135) C dX8_when_69 rfl (fun c2 => ?_) (fun c2 => ?_)
      · rw [if_pos c2] at h
        refine mx_mask [true, false, false, true, false, false] (ls' := [some (aR 127), none, none, some (aI x3), none, none]) rfl rfl ?_
        exact b_X8_when_135 C x3 M hOM h
      · rw [if_neg c2] at h
        refine mx_iload_n (pc := 72) C dX8_when_72 rfl ?_
        refine mx_if_ne (pc := 73) (tgt := 96) C dX8_when_73 rfl (fun c3 => ?_) (fun c3 => ?_)
        · rw [if_neg c3] at h
          refine mx_aload_n (pc := 96) C dX8_when_96 rfl ?_
          refine mx_getR (pc := 97) (v := 130) C dX8_when_97 so_8 ci_8 (k := 4) (by decide) fl_X8_23 rfl (q := 4) rfl (lay_8_4 hOM) (by decide) ?_
          refine mx_iload_n (pc := 100) C dX8_when_100 rfl ?_
          obtain ⟨g4, h⟩ := of_gd h
          refine mx_iald (pc := 101) C dX8_when_101 sh_8_4 g4.1 g4.2 ?_
          refine mx_if_ne (pc := 102) (tgt := 109) C dX8_when_102 rfl (fun c5 => ?_) (fun c5 => ?_)
          · rw [if_neg c5] at h
            refine mx_iconst (pc := 109) C dX8_when_109 (z := 0) rfl (by constructor <;> decide) ?_
            refine mx_mask [true, true, true, false, true, false] (ls' := [some (aR 127), some (aI x1), some (aI x2), none, some (aI x4), none]) rfl rfl ?_
            exact b_X8_when_110 C ih x1 x2 x4 0 M hOM h
          · rw [if_pos c5] at h
            refine mx_iconst (pc := 105) C dX8_when_105 (z := 1) rfl (by constructor <;> decide) ?_
            refine mx_goto (pc := 106) (tgt := 110) C dX8_when_106 rfl ?_
            refine mx_mask [true, true, true, false, true, false] (ls' := [some (aR 127), some (aI x1), some (aI x2), none, some (aI x4), none]) rfl rfl ?_
            exact b_X8_when_110 C ih x1 x2 x4 1 M hOM h
        · rw [if_pos c3] at h
          refine mx_aload_n (pc := 76) C dX8_when_76 rfl ?_
          refine mx_iload_n (pc := 77) C dX8_when_77 rfl ?_
          obtain ⟨q6, hq6, h⟩ := of_bd h
          refine mc_V (pc := 78) (as := [aI x2]) (rest := []) (stk2 := [aI q6.1]) C ⟨Nat.le_refl _, Nat.le_refl _⟩ (m_X8_noise hOM hq6) mi_X8_noise mv_X8_noise ml_X8_239 ci_8 rfl so_8 (by omega) rfl (Nat.le_of_ble_eq_true rfl) dX8_when_78 rfl (fun hp7 => ?_)
          have hOq6 : OK q6.2 := hp7
          refine mx_aload_n (pc := 81) C dX8_when_81 rfl ?_
          obtain ⟨q8, hq8, h⟩ := of_bd h
          refine mc_V (pc := 82) (as := []) (rest := [aI q6.1]) (stk2 := [aI q8.1, aI q6.1]) C ⟨Nat.le_refl _, Nat.le_refl _⟩ (m_X8_calm hOq6 hq8) mi_X8_calm mv_X8_calm ml_X8_326 ci_8 rfl so_8 (by omega) rfl (Nat.le_of_ble_eq_true rfl) dX8_when_82 rfl (fun hp9 => ?_)
          have hOq8 : OK q8.2 := hp9
          refine mx_icmp_gt (pc := 85) (tgt := 92) C dX8_when_85 rfl (fun c10 => ?_) (fun c10 => ?_)
          · rw [if_pos c10] at h
            refine mx_iconst (pc := 92) C dX8_when_92 (z := 0) rfl (by constructor <;> decide) ?_
            refine mx_goto (pc := 93) (tgt := 110) C dX8_when_93 rfl ?_
            refine mx_mask [true, true, true, false, true, false] (ls' := [some (aR 127), some (aI x1), some (aI x2), none, some (aI x4), none]) rfl rfl ?_
            exact b_X8_when_110 C ih x1 x2 x4 0 q8.2 hOq8 h
          · rw [if_neg c10] at h
            refine mx_iconst (pc := 88) C dX8_when_88 (z := 1) rfl (by constructor <;> decide) ?_
            refine mx_goto (pc := 89) (tgt := 110) C dX8_when_89 rfl ?_
            refine mx_mask [true, true, true, false, true, false] (ls' := [some (aR 127), some (aI x1), some (aI x2), none, some (aI x4), none]) rfl rfl ?_
            exact b_X8_when_110 C ih x1 x2 x4 1 q8.2 hOq8 h
set_option maxRecDepth 20000 in
set_option maxHeartbeats 4000000 in
theorem b_X8_when_51 {K : KX} {B : BX} {res : Int × Mem} {p1 : Int} {p2 : Int} (C : Cx K B false yX8_when cX8_when 6 (some .int) 7 0 0) : ∀ (x1 : Int) (x2 : Int) (M : Mem), OK M → f_X8_when_51 p1 p2 x1 x2 M = some res → Wx K B (Zr K B (some (aI res.1)) SH res.2 (OK res.2) 0 0) 0 0 SH 6 M 51 [some (aR 127), some (aI x1), some (aI x2), none, none, none] [] := by
  intro x1 x2 M hOM h
  unfold f_X8_when_51 at h
  refine mx_aload_n (pc := 51) C dX8_when_51 rfl ?_
  obtain ⟨q1, hq1, h⟩ := of_bd h
  refine mc_V (pc := 52) (as := []) (rest := []) (stk2 := []) C ⟨Nat.le_refl _, Nat.le_refl _⟩ (m_X8_save hOM hq1) mi_X8_save mv_X8_save ml_X8_353 ci_8 rfl so_8 (by omega) rfl (Nat.le_of_ble_eq_true rfl) dX8_when_52 rfl (fun hp2 => ?_)
  have hOq1 : OK q1.2 := hp2
  refine mx_bipush (pc := 55) C dX8_when_55 (z := (-5)) rfl (by constructor <;> decide) ?_
  refine mx_istore_n (pc := 57) C dX8_when_57 (ls' := [some (aR 127), some (aI x1), some (aI x2), some (aI (-5)), none, none]) (by decide) rfl rfl ?_
  refine mx_iconst (pc := 58) C dX8_when_58 (z := 0) rfl (by constructor <;> decide) ?_
  refine mx_istore (pc := 59) C dX8_when_59 (ls' := [some (aR 127), some (aI x1), some (aI x2), some (aI (-5)), some (aI 0), none]) (by decide) rfl rfl ?_
  exact b_X8_when_61 C FU x1 x2 (-5) 0 q1.2 hOq1 h
set_option maxRecDepth 20000 in
set_option maxHeartbeats 4000000 in
theorem b_X8_when_35 {K : KX} {B : BX} {res : Int × Mem} {p1 : Int} {p2 : Int} (C : Cx K B false yX8_when cX8_when 6 (some .int) 7 0 0) : ∀ (x1 : Int) (x2 : Int) (M : Mem), OK M → f_X8_when_35 p1 p2 x1 x2 M = some res → Wx K B (Zr K B (some (aI res.1)) SH res.2 (OK res.2) 0 0) 0 0 SH 6 M 35 [some (aR 127), some (aI x1), some (aI x2), none, none, none] [] := by
  intro x1 x2 M hOM h
  unfold f_X8_when_35 at h
  refine mx_iload_n (pc := 35) C dX8_when_35 rfl ?_
  refine mx_iconst (pc := 36) C dX8_when_36 (z := 1) rfl (by constructor <;> decide) ?_
  refine mx_icmp_ne (pc := 37) (tgt := 51) C dX8_when_37 rfl (fun c1 => ?_) (fun c1 => ?_)
  · rw [if_neg c1] at h
    exact b_X8_when_51 C x1 x2 M hOM h
  · rw [if_pos c1] at h
    refine mx_aload_n (pc := 40) C dX8_when_40 rfl ?_
    refine mx_iload_n (pc := 41) C dX8_when_41 rfl ?_
    obtain ⟨q2, hq2, h⟩ := of_bd h
    refine mc_V (pc := 42) (as := [aI x2]) (rest := []) (stk2 := [aI q2.1]) C ⟨Nat.le_refl _, Nat.le_refl _⟩ (m_X8_isLost hOM hq2) mi_X8_isLost mv_X8_isLost ml_X8_232 ci_8 rfl so_8 (by omega) rfl (Nat.le_of_ble_eq_true rfl) dX8_when_42 rfl (fun hp3 => ?_)
    have hOq2 : OK q2.2 := hp3.1
    refine mx_if_eq (pc := 45) (tgt := 51) C dX8_when_45 rfl (fun c4 => ?_) (fun c4 => ?_)
    · rw [if_pos c4] at h
      exact b_X8_when_51 C x1 x2 q2.2 hOq2 h
    · rw [if_neg c4] at h
      refine mx_bipush (pc := 48) C dX8_when_48 (z := (-5)) rfl (by constructor <;> decide) ?_
      rw [← Option.some.inj h]
      exact mx_ireturn (pc := 50) C dX8_when_50 hOq2 ⟨Nat.le_refl _, Nat.le_refl _⟩
set_option maxRecDepth 20000 in
set_option maxHeartbeats 4000000 in
theorem m_X8_when {p1 : Int} {p2 : Int} {M : Mem} {res : Int × Mem} (hOM : OK M) (h : f_X8_when p1 p2 M = some res) : Mth false yX8_when cX8_when 6 (some .int) 7 0 0 SH [aR 127, aI p1, aI p2] M (some (aI res.1)) SH res.2 (OK res.2) := by
  refine Mth.of (by decide +kernel) (Nat.le_of_ble_eq_true rfl) (fun K B C => ?_)
  show Wx K B _ 0 0 SH 6 M 0 [some (aR 127), some (aI p1), some (aI p2), none, none, none] []
  unfold f_X8_when at h
  refine mx_aload_n (pc := 0) C dX8_when_0 rfl ?_
  refine mx_iload_n (pc := 1) C dX8_when_1 rfl ?_
  refine mx_iconst (pc := 2) C dX8_when_2 (z := 0) rfl (by constructor <;> decide) ?_
  refine mx_iconst (pc := 3) C dX8_when_3 (z := 1) rfl (by constructor <;> decide) ?_
  obtain ⟨q1, hq1, h⟩ := of_bd h
  refine mc_V (pc := 4) (as := [aI p1, aI 0, aI 1]) (rest := []) (stk2 := [aI q1.1]) C ⟨Nat.le_refl _, Nat.le_refl _⟩ (m_X8_in hOM hq1) mi_X8_in mv_X8_in ml_X8_218 ci_8 rfl so_8 (by omega) rfl (Nat.le_of_ble_eq_true rfl) dX8_when_4 rfl (fun hp2 => ?_)
  have hOq1 : OK q1.2 := hp2.1
  refine mx_if_eq (pc := 7) (tgt := 33) C dX8_when_7 rfl (fun c3 => ?_) (fun c3 => ?_)
  · rw [if_pos c3] at h
    refine mx_iconst (pc := 33) C dX8_when_33 (z := (-1)) rfl (by constructor <;> decide) ?_
    rw [← Option.some.inj h]
    exact mx_ireturn (pc := 34) C dX8_when_34 hOq1 ⟨Nat.le_refl _, Nat.le_refl _⟩
  · rw [if_neg c3] at h
    refine mx_iload_n (pc := 10) C dX8_when_10 rfl ?_
    refine mx_if_ne (pc := 11) (tgt := 25) C dX8_when_11 rfl (fun c4 => ?_) (fun c4 => ?_)
    · rw [if_neg c4] at h
      refine mx_aload_n (pc := 25) C dX8_when_25 rfl ?_
      refine mx_iload_n (pc := 26) C dX8_when_26 rfl ?_
      obtain ⟨q5, hq5, h⟩ := of_bd h
      refine mc_V (pc := 27) (as := [aI p2]) (rest := []) (stk2 := [aI q5.1]) C ⟨Nat.le_refl _, Nat.le_refl _⟩ (m_X8_isSound hOq1 hq5) mi_X8_isSound mv_X8_isSound ml_X8_229 ci_8 rfl so_8 (by omega) rfl (Nat.le_of_ble_eq_true rfl) dX8_when_27 rfl (fun hp6 => ?_)
      have hOq5 : OK q5.2 := hp6.1
      refine mx_if_ne (pc := 30) (tgt := 35) C dX8_when_30 rfl (fun c7 => ?_) (fun c7 => ?_)
      · rw [if_neg c7] at h
        exact b_X8_when_35 C p1 p2 q5.2 hOq5 h
      · rw [if_pos c7] at h
        refine mx_iconst (pc := 33) C dX8_when_33 (z := (-1)) rfl (by constructor <;> decide) ?_
        rw [← Option.some.inj h]
        exact mx_ireturn (pc := 34) C dX8_when_34 hOq5 ⟨Nat.le_refl _, Nat.le_refl _⟩
    · rw [if_pos c4] at h
      refine mx_aload_n (pc := 14) C dX8_when_14 rfl ?_
      refine mx_iload_n (pc := 15) C dX8_when_15 rfl ?_
      obtain ⟨q8, hq8, h⟩ := of_bd h
      refine mc_V (pc := 16) (as := [aI p2]) (rest := []) (stk2 := [aI q8.1]) C ⟨Nat.le_refl _, Nat.le_refl _⟩ (m_X8_isHouse hOq1 hq8) mi_X8_isHouse mv_X8_isHouse ml_X8_222 ci_8 rfl so_8 (by omega) rfl (Nat.le_of_ble_eq_true rfl) dX8_when_16 rfl (fun hp9 => ?_)
      have hOq8 : OK q8.2 := hp9.1
      refine mx_if_ne (pc := 19) (tgt := 35) C dX8_when_19 rfl (fun c10 => ?_) (fun c10 => ?_)
      · rw [if_neg c10] at h
        exact b_X8_when_35 C p1 p2 q8.2 hOq8 h
      · rw [if_pos c10] at h
        refine mx_goto (pc := 22) (tgt := 33) C dX8_when_22 rfl ?_
        refine mx_iconst (pc := 33) C dX8_when_33 (z := (-1)) rfl (by constructor <;> decide) ?_
        rw [← Option.some.inj h]
        exact mx_ireturn (pc := 34) C dX8_when_34 hOq8 ⟨Nat.le_refl _, Nat.le_refl _⟩

def f_X8_home_64 (p1 : Int) (k27 : Int → Int → Int → Int → Int → Mem → Option (Int × Mem)) (x1 : Int) (x2 : Int) (x3 : Int) (x4 : Int) (x5 : Int) (M : Mem) : Option (Int × Mem) :=
  k27 x1 x2 x3 x4 (w32 (x5 + 1)) M
def f_X8_home_27 (p1 : Int) : Nat → Int → Int → Int → Int → Int → Mem → Option (Int × Mem)
  | 0, _, _, _, _, _, _ => none
  | n + 1, x1, x2, x3, x4, x5, M => if 5 ≤ x5 then if 0 ≤ x1 ∧ x1 < 6 then lt (stM M 131 x1 x2) (fun M3 => some (x3, M3)) else none else if 0 ≤ x1 ∧ x1 < 6 then lt (stM M 131 x1 x5) (fun M5 => (f_X8_greatest M5).bind (fun q6 => if q6.1 < x4 then f_X8_home_64 p1 (f_X8_home_27 p1 n) x1 x2 x5 q6.1 x5 q6.2 else f_X8_home_64 p1 (f_X8_home_27 p1 n) x1 x2 x3 x4 x5 q6.2)) else none
def f_X8_home (p1 : Int) (M : Mem) : Option (Int × Mem) :=
  (f_X8_isSound p1 M).bind (fun q1 => if q1.1 = 0 then some ((-1), q1.2) else if 0 ≤ p1 ∧ p1 < 6 then f_X8_home_27 p1 FU p1 (q1.2 131 p1) 0 2000000000 0 q1.2 else none)
set_option maxRecDepth 20000 in
set_option maxHeartbeats 4000000 in
theorem b_X8_home_64 {K : KX} {B : BX} {res : Int × Mem} {p1 : Int} {k27 : Int → Int → Int → Int → Int → Mem → Option (Int × Mem)} (C : Cx K B false yX8_home cX8_home 7 (some .int) 7 0 0) (hk27 : ∀ (x1 : Int) (x2 : Int) (x3 : Int) (x4 : Int) (x5 : Int) (M : Mem), OK M → k27 x1 x2 x3 x4 x5 M = some res → Wx K B (Zr K B (some (aI res.1)) SH res.2 (OK res.2) 0 0) 0 0 SH 7 M 27 [some (aR 127), some (aI x1), some (aI x2), some (aI x3), some (aI x4), some (aI x5), none] []) : ∀ (x1 : Int) (x2 : Int) (x3 : Int) (x4 : Int) (x5 : Int) (M : Mem), OK M → f_X8_home_64 p1 k27 x1 x2 x3 x4 x5 M = some res → Wx K B (Zr K B (some (aI res.1)) SH res.2 (OK res.2) 0 0) 0 0 SH 7 M 64 [some (aR 127), some (aI x1), some (aI x2), some (aI x3), some (aI x4), some (aI x5), none] [] := by
  intro x1 x2 x3 x4 x5 M hOM h
  unfold f_X8_home_64 at h
  refine mx_iinc (pc := 64) C dX8_home_64 (ls' := [some (aR 127), some (aI x1), some (aI x2), some (aI x3), some (aI x4), some (aI (w32 (x5 + 1))), none]) rfl (by decide) rfl (by constructor <;> decide) rfl rfl ?_
  refine mx_goto (pc := 67) (tgt := 27) C dX8_home_67 rfl ?_
  exact hk27 x1 x2 x3 x4 (w32 (x5 + 1)) M hOM h
set_option maxRecDepth 20000 in
set_option maxHeartbeats 4000000 in
theorem b_X8_home_27 {K : KX} {B : BX} {res : Int × Mem} {p1 : Int} (C : Cx K B false yX8_home cX8_home 7 (some .int) 7 0 0) : ∀ (n : Nat) (x1 : Int) (x2 : Int) (x3 : Int) (x4 : Int) (x5 : Int) (M : Mem), OK M → f_X8_home_27 p1 n x1 x2 x3 x4 x5 M = some res → Wx K B (Zr K B (some (aI res.1)) SH res.2 (OK res.2) 0 0) 0 0 SH 7 M 27 [some (aR 127), some (aI x1), some (aI x2), some (aI x3), some (aI x4), some (aI x5), none] [] := by
  intro n
  induction n with
  | zero =>
    intro x1 x2 x3 x4 x5 M hOM h
    cases h
  | succ n ih =>
    intro x1 x2 x3 x4 x5 M hOM h
    rw [f_X8_home_27.eq_2] at h
    refine mx_iload (pc := 27) C dX8_home_27 rfl ?_
    refine mx_iconst (pc := 29) C dX8_home_29 (z := 5) rfl (by constructor <;> decide) ?_
    refine mx_icmp_ge (pc := 30) (tgt := 70) C dX8_home_30 rfl (fun c1 => ?_) (fun c1 => ?_)
    · rw [if_pos c1] at h
      refine mx_aload_n (pc := 70) C dX8_home_70 rfl ?_
      refine mx_getR (pc := 71) (v := 131) C dX8_home_71 so_8 ci_8 (k := 5) (by decide) fl_X8_26 rfl (q := 5) rfl (lay_8_5 hOM) (by decide) ?_
      refine mx_iload_n (pc := 74) C dX8_home_74 rfl ?_
      refine mx_iload_n (pc := 75) C dX8_home_75 rfl ?_
      obtain ⟨g2, h⟩ := of_gd h
      refine mx_iast (pc := 76) C dX8_home_76 sh_8_5 g2.1 g2.2 ?_
      generalize hmM3 : stM M 131 x1 x2 = M3 at h ⊢
      replace h := lt_e h
      have hOM3 : OK M3 := by rw [← hmM3]; exact ok_arr hOM sh_8_5 (by decide)
      refine mx_iload_n (pc := 77) C dX8_home_77 rfl ?_
      rw [← Option.some.inj h]
      exact mx_ireturn (pc := 78) C dX8_home_78 hOM3 ⟨Nat.le_refl _, Nat.le_refl _⟩
    · rw [if_neg c1] at h
      refine mx_aload_n (pc := 33) C dX8_home_33 rfl ?_
      refine mx_getR (pc := 34) (v := 131) C dX8_home_34 so_8 ci_8 (k := 5) (by decide) fl_X8_26 rfl (q := 5) rfl (lay_8_5 hOM) (by decide) ?_
      refine mx_iload_n (pc := 37) C dX8_home_37 rfl ?_
      refine mx_iload (pc := 38) C dX8_home_38 rfl ?_
      obtain ⟨g4, h⟩ := of_gd h
      refine mx_iast (pc := 40) C dX8_home_40 sh_8_5 g4.1 g4.2 ?_
      generalize hmM5 : stM M 131 x1 x5 = M5 at h ⊢
      replace h := lt_e h
      have hOM5 : OK M5 := by rw [← hmM5]; exact ok_arr hOM sh_8_5 (by decide)
      refine mx_aload_n (pc := 41) C dX8_home_41 rfl ?_
      obtain ⟨q6, hq6, h⟩ := of_bd h
      refine mc_V (pc := 42) (as := []) (rest := []) (stk2 := [aI q6.1]) C ⟨Nat.le_refl _, Nat.le_refl _⟩ (m_X8_greatest hOM5 hq6) mi_X8_greatest mv_X8_greatest ml_X8_338 ci_8 rfl so_8 (by omega) rfl (Nat.le_of_ble_eq_true rfl) dX8_home_42 rfl (fun hp7 => ?_)
      have hOq6 : OK q6.2 := hp7
      refine mx_istore (pc := 45) C dX8_home_45 (ls' := [some (aR 127), some (aI x1), some (aI x2), some (aI x3), some (aI x4), some (aI x5), some (aI q6.1)]) (by decide) rfl rfl ?_
      refine mx_iload (pc := 47) C dX8_home_47 rfl ?_
      refine mx_iload (pc := 49) C dX8_home_49 rfl ?_
      refine mx_icmp_lt (pc := 51) (tgt := 57) C dX8_home_51 rfl (fun c8 => ?_) (fun c8 => ?_)
      · rw [if_pos c8] at h
        refine mx_iload (pc := 57) C dX8_home_57 rfl ?_
        refine mx_istore_n (pc := 59) C dX8_home_59 (ls' := [some (aR 127), some (aI x1), some (aI x2), some (aI x5), some (aI x4), some (aI x5), some (aI q6.1)]) (by decide) rfl rfl ?_
        refine mx_iload (pc := 60) C dX8_home_60 rfl ?_
        refine mx_istore (pc := 62) C dX8_home_62 (ls' := [some (aR 127), some (aI x1), some (aI x2), some (aI x5), some (aI q6.1), some (aI x5), some (aI q6.1)]) (by decide) rfl rfl ?_
        refine mx_mask [true, true, true, true, true, true, false] (ls' := [some (aR 127), some (aI x1), some (aI x2), some (aI x5), some (aI q6.1), some (aI x5), none]) rfl rfl ?_
        exact b_X8_home_64 C ih x1 x2 x5 q6.1 x5 q6.2 hOq6 h
      · rw [if_neg c8] at h
        refine mx_goto (pc := 54) (tgt := 64) C dX8_home_54 rfl ?_
        refine mx_mask [true, true, true, true, true, true, false] (ls' := [some (aR 127), some (aI x1), some (aI x2), some (aI x3), some (aI x4), some (aI x5), none]) rfl rfl ?_
        exact b_X8_home_64 C ih x1 x2 x3 x4 x5 q6.2 hOq6 h
set_option maxRecDepth 20000 in
set_option maxHeartbeats 4000000 in
theorem m_X8_home {p1 : Int} {M : Mem} {res : Int × Mem} (hOM : OK M) (h : f_X8_home p1 M = some res) : Mth false yX8_home cX8_home 7 (some .int) 7 0 0 SH [aR 127, aI p1] M (some (aI res.1)) SH res.2 (OK res.2) := by
  refine Mth.of (by decide +kernel) (Nat.le_of_ble_eq_true rfl) (fun K B C => ?_)
  show Wx K B _ 0 0 SH 7 M 0 [some (aR 127), some (aI p1), none, none, none, none, none] []
  unfold f_X8_home at h
  refine mx_aload_n (pc := 0) C dX8_home_0 rfl ?_
  refine mx_iload_n (pc := 1) C dX8_home_1 rfl ?_
  obtain ⟨q1, hq1, h⟩ := of_bd h
  refine mc_V (pc := 2) (as := [aI p1]) (rest := []) (stk2 := [aI q1.1]) C ⟨Nat.le_refl _, Nat.le_refl _⟩ (m_X8_isSound hOM hq1) mi_X8_isSound mv_X8_isSound ml_X8_229 ci_8 rfl so_8 (by omega) rfl (Nat.le_of_ble_eq_true rfl) dX8_home_2 rfl (fun hp2 => ?_)
  have hOq1 : OK q1.2 := hp2.1
  refine mx_if_ne (pc := 5) (tgt := 10) C dX8_home_5 rfl (fun c3 => ?_) (fun c3 => ?_)
  · rw [if_neg c3] at h
    refine mx_aload_n (pc := 10) C dX8_home_10 rfl ?_
    refine mx_getR (pc := 11) (v := 131) C dX8_home_11 so_8 ci_8 (k := 5) (by decide) fl_X8_26 rfl (q := 5) rfl (lay_8_5 hOq1) (by decide) ?_
    refine mx_iload_n (pc := 14) C dX8_home_14 rfl ?_
    obtain ⟨g4, h⟩ := of_gd h
    refine mx_iald (pc := 15) C dX8_home_15 sh_8_5 g4.1 g4.2 ?_
    refine mx_istore_n (pc := 16) C dX8_home_16 (ls' := [some (aR 127), some (aI p1), some (aI (q1.2 131 p1)), none, none, none, none]) (by decide) rfl rfl ?_
    refine mx_iconst (pc := 17) C dX8_home_17 (z := 0) rfl (by constructor <;> decide) ?_
    refine mx_istore_n (pc := 18) C dX8_home_18 (ls' := [some (aR 127), some (aI p1), some (aI (q1.2 131 p1)), some (aI 0), none, none, none]) (by decide) rfl rfl ?_
    refine mx_ldcw (pc := 19) C dX8_home_19 kc_X8_359 (by constructor <;> decide) ?_
    refine mx_istore (pc := 22) C dX8_home_22 (ls' := [some (aR 127), some (aI p1), some (aI (q1.2 131 p1)), some (aI 0), some (aI 2000000000), none, none]) (by decide) rfl rfl ?_
    refine mx_iconst (pc := 24) C dX8_home_24 (z := 0) rfl (by constructor <;> decide) ?_
    refine mx_istore (pc := 25) C dX8_home_25 (ls' := [some (aR 127), some (aI p1), some (aI (q1.2 131 p1)), some (aI 0), some (aI 2000000000), some (aI 0), none]) (by decide) rfl rfl ?_
    exact b_X8_home_27 C FU p1 (q1.2 131 p1) 0 2000000000 0 q1.2 hOq1 h
  · rw [if_pos c3] at h
    refine mx_iconst (pc := 8) C dX8_home_8 (z := (-1)) rfl (by constructor <;> decide) ?_
    rw [← Option.some.inj h]
    exact mx_ireturn (pc := 9) C dX8_home_9 hOq1 ⟨Nat.le_refl _, Nat.le_refl _⟩

def f_X8_layAll_53 (k2 : Int → Mem → Option (Int × Mem)) (k30 : Int → Int → Int → Mem → Option (Int × Mem)) : Nat → Int → Int → Int → Int → Int → Mem → Option (Int × Mem)
  | 0, _, _, _, _, _, _ => none
  | n + 1, x1, x2, x3, x4, x5, M => if 5 ≤ x5 then k30 x1 x2 (w32 (x3 + 1)) M else (f_X8_heardBy x1 x4 x5 M).bind (fun q2 => if 0 ≤ w32 ((w32 ((w32 (25 * x1)) + (w32 (5 * x3)))) + x5) ∧ w32 ((w32 ((w32 (25 * x1)) + (w32 (5 * x3)))) + x5) < 150 then lt (stM q2.2 146 (w32 ((w32 ((w32 (25 * x1)) + (w32 (5 * x3)))) + x5)) q2.1) (fun M5 => f_X8_layAll_53 k2 k30 n x1 x2 x3 x4 (w32 (x5 + 1)) M5) else none)
def f_X8_layAll_103 (k2 : Int → Mem → Option (Int × Mem)) (x1 : Int) (M : Mem) : Option (Int × Mem) :=
  k2 (w32 (x1 + 1)) M
def f_X8_layAll_30 (k2 : Int → Mem → Option (Int × Mem)) : Nat → Int → Int → Int → Mem → Option (Int × Mem)
  | 0, _, _, _, _ => none
  | n + 1, x1, x2, x3, M => if 5 ≤ x3 then if 0 ≤ x1 ∧ x1 < 6 then lt (stM M 131 x1 x2) (fun M3 => f_X8_layAll_103 k2 x1 M3) else none else if 0 ≤ x1 ∧ x1 < 6 then lt (stM M 131 x1 x3) (fun M5 => (f_X8_voice x1 x3 M5).bind (fun q6 => f_X8_layAll_53 k2 (f_X8_layAll_30 k2 n) FU x1 x2 x3 q6.1 0 q6.2)) else none
def f_X8_layAll_2 : Nat → Int → Mem → Option (Int × Mem)
  | 0, _, _ => none
  | n + 1, x1, M => if M 127 0 ≤ x1 then some (0, M) else (f_X8_isLost x1 M).bind (fun q2 => if q2.1 = 0 then if 0 ≤ x1 ∧ x1 < 6 then f_X8_layAll_30 (f_X8_layAll_2 n) FU x1 (q2.2 131 x1) 0 q2.2 else none else f_X8_layAll_103 (f_X8_layAll_2 n) x1 q2.2)
def f_X8_layAll (M : Mem) : Option (Int × Mem) :=
  f_X8_layAll_2 FU 0 M
set_option maxRecDepth 20000 in
set_option maxHeartbeats 4000000 in
theorem b_X8_layAll_53 {K : KX} {B : BX} {res : Int × Mem} {k2 : Int → Mem → Option (Int × Mem)} {k30 : Int → Int → Int → Mem → Option (Int × Mem)} (C : Cx K B false yX8_layAll cX8_layAll 6 none 5 0 0) (hk2 : ∀ (x1 : Int) (M : Mem), OK M → k2 x1 M = some res → Wx K B (Zr K B none SH res.2 (OK res.2) 0 0) 0 0 SH 6 M 2 [some (aR 127), some (aI x1), none, none, none, none] []) (hk30 : ∀ (x1 : Int) (x2 : Int) (x3 : Int) (M : Mem), OK M → k30 x1 x2 x3 M = some res → Wx K B (Zr K B none SH res.2 (OK res.2) 0 0) 0 0 SH 6 M 30 [some (aR 127), some (aI x1), some (aI x2), some (aI x3), none, none] []) : ∀ (n : Nat) (x1 : Int) (x2 : Int) (x3 : Int) (x4 : Int) (x5 : Int) (M : Mem), OK M → f_X8_layAll_53 k2 k30 n x1 x2 x3 x4 x5 M = some res → Wx K B (Zr K B none SH res.2 (OK res.2) 0 0) 0 0 SH 6 M 53 [some (aR 127), some (aI x1), some (aI x2), some (aI x3), some (aI x4), some (aI x5)] [] := by
  intro n
  induction n with
  | zero =>
    intro x1 x2 x3 x4 x5 M hOM h
    cases h
  | succ n ih =>
    intro x1 x2 x3 x4 x5 M hOM h
    rw [f_X8_layAll_53.eq_2] at h
    refine mx_iload (pc := 53) C dX8_layAll_53 rfl ?_
    refine mx_iconst (pc := 55) C dX8_layAll_55 (z := 5) rfl (by constructor <;> decide) ?_
    refine mx_icmp_ge (pc := 56) (tgt := 90) C dX8_layAll_56 rfl (fun c1 => ?_) (fun c1 => ?_)
    · rw [if_pos c1] at h
      refine mx_iinc (pc := 90) C dX8_layAll_90 (ls' := [some (aR 127), some (aI x1), some (aI x2), some (aI (w32 (x3 + 1))), some (aI x4), some (aI x5)]) rfl (by decide) rfl (by constructor <;> decide) rfl rfl ?_
      refine mx_goto (pc := 93) (tgt := 30) C dX8_layAll_93 rfl ?_
      refine mx_mask [true, true, true, true, false, false] (ls' := [some (aR 127), some (aI x1), some (aI x2), some (aI (w32 (x3 + 1))), none, none]) rfl rfl ?_
      exact hk30 x1 x2 (w32 (x3 + 1)) M hOM h
    · rw [if_neg c1] at h
      refine mx_aload_n (pc := 59) C dX8_layAll_59 rfl ?_
      refine mx_getR (pc := 60) (v := 146) C dX8_layAll_60 so_8 ci_8 (k := 29) (by decide) fl_X8_99 rfl (q := 29) rfl (lay_8_29 hOM) (by decide) ?_
      refine mx_bipush (pc := 63) C dX8_layAll_63 (z := 25) rfl (by constructor <;> decide) ?_
      refine mx_iload_n (pc := 65) C dX8_layAll_65 rfl ?_
      refine mx_imul (pc := 66) C dX8_layAll_66  ?_
      refine mx_iconst (pc := 67) C dX8_layAll_67 (z := 5) rfl (by constructor <;> decide) ?_
      refine mx_iload_n (pc := 68) C dX8_layAll_68 rfl ?_
      refine mx_imul (pc := 69) C dX8_layAll_69  ?_
      refine mx_iadd (pc := 70) C dX8_layAll_70  ?_
      refine mx_iload (pc := 71) C dX8_layAll_71 rfl ?_
      refine mx_iadd (pc := 73) C dX8_layAll_73  ?_
      refine mx_aload_n (pc := 74) C dX8_layAll_74 rfl ?_
      refine mx_iload_n (pc := 75) C dX8_layAll_75 rfl ?_
      refine mx_iload (pc := 76) C dX8_layAll_76 rfl ?_
      refine mx_iload (pc := 78) C dX8_layAll_78 rfl ?_
      obtain ⟨q2, hq2, h⟩ := of_bd h
      refine mc_V (pc := 80) (as := [aI x1, aI x4, aI x5]) (rest := [aI (w32 ((w32 ((w32 (25 * x1)) + (w32 (5 * x3)))) + x5)), aR 146]) (stk2 := [aI q2.1, aI (w32 ((w32 ((w32 (25 * x1)) + (w32 (5 * x3)))) + x5)), aR 146]) C ⟨Nat.le_refl _, Nat.le_refl _⟩ (m_X8_heardBy hOM hq2) mi_X8_heardBy mv_X8_heardBy ml_X8_317 ci_8 rfl so_8 (by omega) rfl (Nat.le_of_ble_eq_true rfl) dX8_layAll_80 rfl (fun hp3 => ?_)
      have hOq2 : OK q2.2 := hp3
      obtain ⟨g4, h⟩ := of_gd h
      refine mx_iast (pc := 83) C dX8_layAll_83 sh_8_29 g4.1 g4.2 ?_
      generalize hmM5 : stM q2.2 146 (w32 ((w32 ((w32 (25 * x1)) + (w32 (5 * x3)))) + x5)) q2.1 = M5 at h ⊢
      replace h := lt_e h
      have hOM5 : OK M5 := by rw [← hmM5]; exact ok_arr hOq2 sh_8_29 (by decide)
      refine mx_iinc (pc := 84) C dX8_layAll_84 (ls' := [some (aR 127), some (aI x1), some (aI x2), some (aI x3), some (aI x4), some (aI (w32 (x5 + 1)))]) rfl (by decide) rfl (by constructor <;> decide) rfl rfl ?_
      refine mx_goto (pc := 87) (tgt := 53) C dX8_layAll_87 rfl ?_
      exact ih x1 x2 x3 x4 (w32 (x5 + 1)) M5 hOM5 h
set_option maxRecDepth 20000 in
set_option maxHeartbeats 4000000 in
theorem b_X8_layAll_103 {K : KX} {B : BX} {res : Int × Mem} {k2 : Int → Mem → Option (Int × Mem)} (C : Cx K B false yX8_layAll cX8_layAll 6 none 5 0 0) (hk2 : ∀ (x1 : Int) (M : Mem), OK M → k2 x1 M = some res → Wx K B (Zr K B none SH res.2 (OK res.2) 0 0) 0 0 SH 6 M 2 [some (aR 127), some (aI x1), none, none, none, none] []) : ∀ (x1 : Int) (M : Mem), OK M → f_X8_layAll_103 k2 x1 M = some res → Wx K B (Zr K B none SH res.2 (OK res.2) 0 0) 0 0 SH 6 M 103 [some (aR 127), some (aI x1), none, none, none, none] [] := by
  intro x1 M hOM h
  unfold f_X8_layAll_103 at h
  refine mx_iinc (pc := 103) C dX8_layAll_103 (ls' := [some (aR 127), some (aI (w32 (x1 + 1))), none, none, none, none]) rfl (by decide) rfl (by constructor <;> decide) rfl rfl ?_
  refine mx_goto (pc := 106) (tgt := 2) C dX8_layAll_106 rfl ?_
  exact hk2 (w32 (x1 + 1)) M hOM h
set_option maxRecDepth 20000 in
set_option maxHeartbeats 4000000 in
theorem b_X8_layAll_30 {K : KX} {B : BX} {res : Int × Mem} {k2 : Int → Mem → Option (Int × Mem)} (C : Cx K B false yX8_layAll cX8_layAll 6 none 5 0 0) (hk2 : ∀ (x1 : Int) (M : Mem), OK M → k2 x1 M = some res → Wx K B (Zr K B none SH res.2 (OK res.2) 0 0) 0 0 SH 6 M 2 [some (aR 127), some (aI x1), none, none, none, none] []) : ∀ (n : Nat) (x1 : Int) (x2 : Int) (x3 : Int) (M : Mem), OK M → f_X8_layAll_30 k2 n x1 x2 x3 M = some res → Wx K B (Zr K B none SH res.2 (OK res.2) 0 0) 0 0 SH 6 M 30 [some (aR 127), some (aI x1), some (aI x2), some (aI x3), none, none] [] := by
  intro n
  induction n with
  | zero =>
    intro x1 x2 x3 M hOM h
    cases h
  | succ n ih =>
    intro x1 x2 x3 M hOM h
    rw [f_X8_layAll_30.eq_2] at h
    refine mx_iload_n (pc := 30) C dX8_layAll_30 rfl ?_
    refine mx_iconst (pc := 31) C dX8_layAll_31 (z := 5) rfl (by constructor <;> decide) ?_
    refine mx_icmp_ge (pc := 32) (tgt := 96) C dX8_layAll_32 rfl (fun c1 => ?_) (fun c1 => ?_)
    · rw [if_pos c1] at h
      refine mx_aload_n (pc := 96) C dX8_layAll_96 rfl ?_
      refine mx_getR (pc := 97) (v := 131) C dX8_layAll_97 so_8 ci_8 (k := 5) (by decide) fl_X8_26 rfl (q := 5) rfl (lay_8_5 hOM) (by decide) ?_
      refine mx_iload_n (pc := 100) C dX8_layAll_100 rfl ?_
      refine mx_iload_n (pc := 101) C dX8_layAll_101 rfl ?_
      obtain ⟨g2, h⟩ := of_gd h
      refine mx_iast (pc := 102) C dX8_layAll_102 sh_8_5 g2.1 g2.2 ?_
      generalize hmM3 : stM M 131 x1 x2 = M3 at h ⊢
      replace h := lt_e h
      have hOM3 : OK M3 := by rw [← hmM3]; exact ok_arr hOM sh_8_5 (by decide)
      refine mx_mask [true, true, false, false, false, false] (ls' := [some (aR 127), some (aI x1), none, none, none, none]) rfl rfl ?_
      exact b_X8_layAll_103 C hk2 x1 M3 hOM3 h
    · rw [if_neg c1] at h
      refine mx_aload_n (pc := 35) C dX8_layAll_35 rfl ?_
      refine mx_getR (pc := 36) (v := 131) C dX8_layAll_36 so_8 ci_8 (k := 5) (by decide) fl_X8_26 rfl (q := 5) rfl (lay_8_5 hOM) (by decide) ?_
      refine mx_iload_n (pc := 39) C dX8_layAll_39 rfl ?_
      refine mx_iload_n (pc := 40) C dX8_layAll_40 rfl ?_
      obtain ⟨g4, h⟩ := of_gd h
      refine mx_iast (pc := 41) C dX8_layAll_41 sh_8_5 g4.1 g4.2 ?_
      generalize hmM5 : stM M 131 x1 x3 = M5 at h ⊢
      replace h := lt_e h
      have hOM5 : OK M5 := by rw [← hmM5]; exact ok_arr hOM sh_8_5 (by decide)
      refine mx_aload_n (pc := 42) C dX8_layAll_42 rfl ?_
      refine mx_iload_n (pc := 43) C dX8_layAll_43 rfl ?_
      refine mx_iload_n (pc := 44) C dX8_layAll_44 rfl ?_
      obtain ⟨q6, hq6, h⟩ := of_bd h
      refine mc_V (pc := 45) (as := [aI x1, aI x3]) (rest := []) (stk2 := [aI q6.1]) C ⟨Nat.le_refl _, Nat.le_refl _⟩ (m_X8_voice hOM5 hq6) mi_X8_voice mv_X8_voice ml_X8_314 ci_8 rfl so_8 (by omega) rfl (Nat.le_of_ble_eq_true rfl) dX8_layAll_45 rfl (fun hp7 => ?_)
      have hOq6 : OK q6.2 := hp7
      refine mx_istore (pc := 48) C dX8_layAll_48 (ls' := [some (aR 127), some (aI x1), some (aI x2), some (aI x3), some (aI q6.1), none]) (by decide) rfl rfl ?_
      refine mx_iconst (pc := 50) C dX8_layAll_50 (z := 0) rfl (by constructor <;> decide) ?_
      refine mx_istore (pc := 51) C dX8_layAll_51 (ls' := [some (aR 127), some (aI x1), some (aI x2), some (aI x3), some (aI q6.1), some (aI 0)]) (by decide) rfl rfl ?_
      exact b_X8_layAll_53 C hk2 ih FU x1 x2 x3 q6.1 0 q6.2 hOq6 h
set_option maxRecDepth 20000 in
set_option maxHeartbeats 4000000 in
theorem b_X8_layAll_2 {K : KX} {B : BX} {res : Int × Mem} (C : Cx K B false yX8_layAll cX8_layAll 6 none 5 0 0) : ∀ (n : Nat) (x1 : Int) (M : Mem), OK M → f_X8_layAll_2 n x1 M = some res → Wx K B (Zr K B none SH res.2 (OK res.2) 0 0) 0 0 SH 6 M 2 [some (aR 127), some (aI x1), none, none, none, none] [] := by
  intro n
  induction n with
  | zero =>
    intro x1 M hOM h
    cases h
  | succ n ih =>
    intro x1 M hOM h
    rw [f_X8_layAll_2.eq_2] at h
    refine mx_iload_n (pc := 2) C dX8_layAll_2 rfl ?_
    refine mx_aload_n (pc := 3) C dX8_layAll_3 rfl ?_
    refine mx_getI (pc := 4) C dX8_layAll_4 so_8 ci_8 (k := 0) (by decide) fl_X8_7 rfl (q := 0) rfl ?_
    refine mx_icmp_ge (pc := 7) (tgt := 109) C dX8_layAll_7 rfl (fun c1 => ?_) (fun c1 => ?_)
    · rw [if_pos c1] at h
      rw [← Option.some.inj h]
      exact mx_return (pc := 109) C dX8_layAll_109 hOM ⟨Nat.le_refl _, Nat.le_refl _⟩
    · rw [if_neg c1] at h
      refine mx_aload_n (pc := 10) C dX8_layAll_10 rfl ?_
      refine mx_iload_n (pc := 11) C dX8_layAll_11 rfl ?_
      obtain ⟨q2, hq2, h⟩ := of_bd h
      refine mc_V (pc := 12) (as := [aI x1]) (rest := []) (stk2 := [aI q2.1]) C ⟨Nat.le_refl _, Nat.le_refl _⟩ (m_X8_isLost hOM hq2) mi_X8_isLost mv_X8_isLost ml_X8_232 ci_8 rfl so_8 (by omega) rfl (Nat.le_of_ble_eq_true rfl) dX8_layAll_12 rfl (fun hp3 => ?_)
      have hOq2 : OK q2.2 := hp3.1
      refine mx_if_eq (pc := 15) (tgt := 21) C dX8_layAll_15 rfl (fun c4 => ?_) (fun c4 => ?_)
      · rw [if_pos c4] at h
        refine mx_aload_n (pc := 21) C dX8_layAll_21 rfl ?_
        refine mx_getR (pc := 22) (v := 131) C dX8_layAll_22 so_8 ci_8 (k := 5) (by decide) fl_X8_26 rfl (q := 5) rfl (lay_8_5 hOq2) (by decide) ?_
        refine mx_iload_n (pc := 25) C dX8_layAll_25 rfl ?_
        obtain ⟨g5, h⟩ := of_gd h
        refine mx_iald (pc := 26) C dX8_layAll_26 sh_8_5 g5.1 g5.2 ?_
        refine mx_istore_n (pc := 27) C dX8_layAll_27 (ls' := [some (aR 127), some (aI x1), some (aI (q2.2 131 x1)), none, none, none]) (by decide) rfl rfl ?_
        refine mx_iconst (pc := 28) C dX8_layAll_28 (z := 0) rfl (by constructor <;> decide) ?_
        refine mx_istore_n (pc := 29) C dX8_layAll_29 (ls' := [some (aR 127), some (aI x1), some (aI (q2.2 131 x1)), some (aI 0), none, none]) (by decide) rfl rfl ?_
        exact b_X8_layAll_30 C ih FU x1 (q2.2 131 x1) 0 q2.2 hOq2 h
      · rw [if_neg c4] at h
        refine mx_goto (pc := 18) (tgt := 103) C dX8_layAll_18 rfl ?_
        exact b_X8_layAll_103 C ih x1 q2.2 hOq2 h
set_option maxRecDepth 20000 in
set_option maxHeartbeats 4000000 in
theorem m_X8_layAll {M : Mem} {res : Int × Mem} (hOM : OK M) (h : f_X8_layAll M = some res) : Mth false yX8_layAll cX8_layAll 6 none 5 0 0 SH [aR 127] M none SH res.2 (OK res.2) := by
  refine Mth.of (by decide +kernel) (Nat.le_of_ble_eq_true rfl) (fun K B C => ?_)
  show Wx K B _ 0 0 SH 6 M 0 [some (aR 127), none, none, none, none, none] []
  unfold f_X8_layAll at h
  refine mx_iconst (pc := 0) C dX8_layAll_0 (z := 0) rfl (by constructor <;> decide) ?_
  refine mx_istore_n (pc := 1) C dX8_layAll_1 (ls' := [some (aR 127), some (aI 0), none, none, none, none]) (by decide) rfl rfl ?_
  exact b_X8_layAll_2 C FU 0 M hOM h

def f_X8_layPlaces_37 (p1 : Int) (k9 : Int → Int → Mem → Option (Int × Mem)) (x2 : Int) (x3 : Int) (M : Mem) : Option (Int × Mem) :=
  k9 x2 (w32 (x3 + (-1))) M
def f_X8_layPlaces_111 (p1 : Int) (k45 : Int → Mem → Option (Int × Mem)) (k60 : Int → Int → Mem → Option (Int × Mem)) (x3 : Int) (x4 : Int) (t1 : Int) (t2 : Int) (t3 : Int) (M : Mem) : Option (Int × Mem) :=
  if 0 ≤ t1 ∧ t1 < 5 then lt (stM M 143 t1 (w32 (t2 + t3))) (fun M2 => k60 x3 (w32 (x4 + 1)) M2) else none
def f_X8_layPlaces_60 (p1 : Int) (k45 : Int → Mem → Option (Int × Mem)) : Nat → Int → Int → Mem → Option (Int × Mem)
  | 0, _, _, _ => none
  | n + 1, x3, x4, M => if M 127 0 ≤ x4 then k45 (w32 (x3 + 1)) M else if 0 ≤ x3 ∧ x3 < 5 then (f_X8_isLost x4 M).bind (fun q3 => if q3.1 = 0 then if 0 ≤ x4 ∧ x4 < 6 then if 0 ≤ w32 ((w32 ((w32 (25 * x4)) + (w32 (5 * (q3.2 131 x4))))) + x3) ∧ w32 ((w32 ((w32 (25 * x4)) + (w32 (5 * (q3.2 131 x4))))) + x3) < 150 then f_X8_layPlaces_111 p1 k45 (f_X8_layPlaces_60 p1 k45 n) x3 x4 x3 (M 143 x3) (q3.2 146 (w32 ((w32 ((w32 (25 * x4)) + (w32 (5 * (q3.2 131 x4))))) + x3))) q3.2 else none else none else f_X8_layPlaces_111 p1 k45 (f_X8_layPlaces_60 p1 k45 n) x3 x4 x3 (M 143 x3) 0 q3.2) else none
def f_X8_layPlaces_45 (p1 : Int) : Nat → Int → Mem → Option (Int × Mem)
  | 0, _, _ => none
  | n + 1, x3, M => if 5 ≤ x3 then some (0, M) else if 0 ≤ x3 ∧ x3 < 5 then lt (stM M 143 x3 0) (fun M3 => f_X8_layPlaces_60 p1 (f_X8_layPlaces_45 p1 n) FU x3 0 M3) else none
def f_X8_layPlaces_9 (p1 : Int) : Nat → Int → Int → Mem → Option (Int × Mem)
  | 0, _, _, _ => none
  | n + 1, x2, x3, M => if x3 < 0 then f_X8_layPlaces_45 p1 FU 0 M else (f_X8_isLost x3 M).bind (fun q2 => if q2.1 = 0 then if 0 ≤ x3 ∧ x3 < 6 then lt (stM q2.2 131 x3 (Int.tmod x2 5)) (fun M6 => f_X8_layPlaces_37 p1 (f_X8_layPlaces_9 p1 n) (w32 (Int.tdiv x2 5)) x3 M6) else none else f_X8_layPlaces_37 p1 (f_X8_layPlaces_9 p1 n) x2 x3 q2.2)
def f_X8_layPlaces (p1 : Int) (M : Mem) : Option (Int × Mem) :=
  f_X8_layPlaces_9 p1 FU p1 (w32 ((M 127 0) - 1)) M
set_option maxRecDepth 20000 in
set_option maxHeartbeats 4000000 in
theorem b_X8_layPlaces_37 {K : KX} {B : BX} {res : Int × Mem} {p1 : Int} {k9 : Int → Int → Mem → Option (Int × Mem)} (C : Cx K B false yX8_layPlaces cX8_layPlaces 5 none 2 0 0) (hk9 : ∀ (x2 : Int) (x3 : Int) (M : Mem), OK M → k9 x2 x3 M = some res → Wx K B (Zr K B none SH res.2 (OK res.2) 0 0) 0 0 SH 5 M 9 [some (aR 127), none, some (aI x2), some (aI x3), none] []) : ∀ (x2 : Int) (x3 : Int) (M : Mem), OK M → f_X8_layPlaces_37 p1 k9 x2 x3 M = some res → Wx K B (Zr K B none SH res.2 (OK res.2) 0 0) 0 0 SH 5 M 37 [some (aR 127), none, some (aI x2), some (aI x3), none] [] := by
  intro x2 x3 M hOM h
  unfold f_X8_layPlaces_37 at h
  refine mx_iinc (pc := 37) C dX8_layPlaces_37 (ls' := [some (aR 127), none, some (aI x2), some (aI (w32 (x3 + (-1)))), none]) rfl (by decide) rfl (by constructor <;> decide) rfl rfl ?_
  refine mx_goto (pc := 40) (tgt := 9) C dX8_layPlaces_40 rfl ?_
  exact hk9 x2 (w32 (x3 + (-1))) M hOM h
set_option maxRecDepth 20000 in
set_option maxHeartbeats 4000000 in
theorem b_X8_layPlaces_111 {K : KX} {B : BX} {res : Int × Mem} {p1 : Int} {k45 : Int → Mem → Option (Int × Mem)} {k60 : Int → Int → Mem → Option (Int × Mem)} (C : Cx K B false yX8_layPlaces cX8_layPlaces 5 none 2 0 0) (hk45 : ∀ (x3 : Int) (M : Mem), OK M → k45 x3 M = some res → Wx K B (Zr K B none SH res.2 (OK res.2) 0 0) 0 0 SH 5 M 45 [some (aR 127), none, none, some (aI x3), none] []) (hk60 : ∀ (x3 : Int) (x4 : Int) (M : Mem), OK M → k60 x3 x4 M = some res → Wx K B (Zr K B none SH res.2 (OK res.2) 0 0) 0 0 SH 5 M 60 [some (aR 127), none, none, some (aI x3), some (aI x4)] []) : ∀ (x3 : Int) (x4 : Int) (t1 : Int) (t2 : Int) (t3 : Int) (M : Mem), OK M → f_X8_layPlaces_111 p1 k45 k60 x3 x4 t1 t2 t3 M = some res → Wx K B (Zr K B none SH res.2 (OK res.2) 0 0) 0 0 SH 5 M 111 [some (aR 127), none, none, some (aI x3), some (aI x4)] [aI t3, aI t2, aI t1, aR 143] := by
  intro x3 x4 t1 t2 t3 M hOM h
  unfold f_X8_layPlaces_111 at h
  refine mx_iadd (pc := 111) C dX8_layPlaces_111  ?_
  obtain ⟨g1, h⟩ := of_gd h
  refine mx_iast (pc := 112) C dX8_layPlaces_112 sh_8_25 g1.1 g1.2 ?_
  generalize hmM2 : stM M 143 t1 (w32 (t2 + t3)) = M2 at h ⊢
  replace h := lt_e h
  have hOM2 : OK M2 := by rw [← hmM2]; exact ok_arr hOM sh_8_25 (by decide)
  refine mx_iinc (pc := 113) C dX8_layPlaces_113 (ls' := [some (aR 127), none, none, some (aI x3), some (aI (w32 (x4 + 1)))]) rfl (by decide) rfl (by constructor <;> decide) rfl rfl ?_
  refine mx_goto (pc := 116) (tgt := 60) C dX8_layPlaces_116 rfl ?_
  exact hk60 x3 (w32 (x4 + 1)) M2 hOM2 h
set_option maxRecDepth 20000 in
set_option maxHeartbeats 4000000 in
theorem b_X8_layPlaces_60 {K : KX} {B : BX} {res : Int × Mem} {p1 : Int} {k45 : Int → Mem → Option (Int × Mem)} (C : Cx K B false yX8_layPlaces cX8_layPlaces 5 none 2 0 0) (hk45 : ∀ (x3 : Int) (M : Mem), OK M → k45 x3 M = some res → Wx K B (Zr K B none SH res.2 (OK res.2) 0 0) 0 0 SH 5 M 45 [some (aR 127), none, none, some (aI x3), none] []) : ∀ (n : Nat) (x3 : Int) (x4 : Int) (M : Mem), OK M → f_X8_layPlaces_60 p1 k45 n x3 x4 M = some res → Wx K B (Zr K B none SH res.2 (OK res.2) 0 0) 0 0 SH 5 M 60 [some (aR 127), none, none, some (aI x3), some (aI x4)] [] := by
  intro n
  induction n with
  | zero =>
    intro x3 x4 M hOM h
    cases h
  | succ n ih =>
    intro x3 x4 M hOM h
    rw [f_X8_layPlaces_60.eq_2] at h
    refine mx_iload (pc := 60) C dX8_layPlaces_60 rfl ?_
    refine mx_aload_n (pc := 62) C dX8_layPlaces_62 rfl ?_
    refine mx_getI (pc := 63) C dX8_layPlaces_63 so_8 ci_8 (k := 0) (by decide) fl_X8_7 rfl (q := 0) rfl ?_
    refine mx_icmp_ge (pc := 66) (tgt := 119) C dX8_layPlaces_66 rfl (fun c1 => ?_) (fun c1 => ?_)
    · rw [if_pos c1] at h
      refine mx_iinc (pc := 119) C dX8_layPlaces_119 (ls' := [some (aR 127), none, none, some (aI (w32 (x3 + 1))), some (aI x4)]) rfl (by decide) rfl (by constructor <;> decide) rfl rfl ?_
      refine mx_goto (pc := 122) (tgt := 45) C dX8_layPlaces_122 rfl ?_
      refine mx_mask [true, false, false, true, false] (ls' := [some (aR 127), none, none, some (aI (w32 (x3 + 1))), none]) rfl rfl ?_
      exact hk45 (w32 (x3 + 1)) M hOM h
    · rw [if_neg c1] at h
      refine mx_aload_n (pc := 69) C dX8_layPlaces_69 rfl ?_
      refine mx_getR (pc := 70) (v := 143) C dX8_layPlaces_70 so_8 ci_8 (k := 25) (by decide) fl_X8_87 rfl (q := 25) rfl (lay_8_25 hOM) (by decide) ?_
      refine mx_iload_n (pc := 73) C dX8_layPlaces_73 rfl ?_
      refine mx_dup2 (pc := 74) C dX8_layPlaces_74 rfl rfl ?_
      obtain ⟨g2, h⟩ := of_gd h
      refine mx_iald (pc := 75) C dX8_layPlaces_75 sh_8_25 g2.1 g2.2 ?_
      refine mx_aload_n (pc := 76) C dX8_layPlaces_76 rfl ?_
      refine mx_iload (pc := 77) C dX8_layPlaces_77 rfl ?_
      obtain ⟨q3, hq3, h⟩ := of_bd h
      refine mc_V (pc := 79) (as := [aI x4]) (rest := [aI (M 143 x3), aI x3, aR 143]) (stk2 := [aI q3.1, aI (M 143 x3), aI x3, aR 143]) C ⟨Nat.le_refl _, Nat.le_refl _⟩ (m_X8_isLost hOM hq3) mi_X8_isLost mv_X8_isLost ml_X8_232 ci_8 rfl so_8 (by omega) rfl (Nat.le_of_ble_eq_true rfl) dX8_layPlaces_79 rfl (fun hp4 => ?_)
      have hOq3 : OK q3.2 := hp4.1
      refine mx_if_eq (pc := 82) (tgt := 89) C dX8_layPlaces_82 rfl (fun c5 => ?_) (fun c5 => ?_)
      · rw [if_pos c5] at h
        refine mx_aload_n (pc := 89) C dX8_layPlaces_89 rfl ?_
        refine mx_getR (pc := 90) (v := 146) C dX8_layPlaces_90 so_8 ci_8 (k := 29) (by decide) fl_X8_99 rfl (q := 29) rfl (lay_8_29 hOq3) (by decide) ?_
        refine mx_bipush (pc := 93) C dX8_layPlaces_93 (z := 25) rfl (by constructor <;> decide) ?_
        refine mx_iload (pc := 95) C dX8_layPlaces_95 rfl ?_
        refine mx_imul (pc := 97) C dX8_layPlaces_97  ?_
        refine mx_iconst (pc := 98) C dX8_layPlaces_98 (z := 5) rfl (by constructor <;> decide) ?_
        refine mx_aload_n (pc := 99) C dX8_layPlaces_99 rfl ?_
        refine mx_getR (pc := 100) (v := 131) C dX8_layPlaces_100 so_8 ci_8 (k := 5) (by decide) fl_X8_26 rfl (q := 5) rfl (lay_8_5 hOq3) (by decide) ?_
        refine mx_iload (pc := 103) C dX8_layPlaces_103 rfl ?_
        obtain ⟨g6, h⟩ := of_gd h
        refine mx_iald (pc := 105) C dX8_layPlaces_105 sh_8_5 g6.1 g6.2 ?_
        refine mx_imul (pc := 106) C dX8_layPlaces_106  ?_
        refine mx_iadd (pc := 107) C dX8_layPlaces_107  ?_
        refine mx_iload_n (pc := 108) C dX8_layPlaces_108 rfl ?_
        refine mx_iadd (pc := 109) C dX8_layPlaces_109  ?_
        obtain ⟨g7, h⟩ := of_gd h
        refine mx_iald (pc := 110) C dX8_layPlaces_110 sh_8_29 g7.1 g7.2 ?_
        exact b_X8_layPlaces_111 C hk45 ih x3 x4 x3 (M 143 x3) (q3.2 146 (w32 ((w32 ((w32 (25 * x4)) + (w32 (5 * (q3.2 131 x4))))) + x3))) q3.2 hOq3 h
      · rw [if_neg c5] at h
        refine mx_iconst (pc := 85) C dX8_layPlaces_85 (z := 0) rfl (by constructor <;> decide) ?_
        refine mx_goto (pc := 86) (tgt := 111) C dX8_layPlaces_86 rfl ?_
        exact b_X8_layPlaces_111 C hk45 ih x3 x4 x3 (M 143 x3) 0 q3.2 hOq3 h
set_option maxRecDepth 20000 in
set_option maxHeartbeats 4000000 in
theorem b_X8_layPlaces_45 {K : KX} {B : BX} {res : Int × Mem} {p1 : Int} (C : Cx K B false yX8_layPlaces cX8_layPlaces 5 none 2 0 0) : ∀ (n : Nat) (x3 : Int) (M : Mem), OK M → f_X8_layPlaces_45 p1 n x3 M = some res → Wx K B (Zr K B none SH res.2 (OK res.2) 0 0) 0 0 SH 5 M 45 [some (aR 127), none, none, some (aI x3), none] [] := by
  intro n
  induction n with
  | zero =>
    intro x3 M hOM h
    cases h
  | succ n ih =>
    intro x3 M hOM h
    rw [f_X8_layPlaces_45.eq_2] at h
    refine mx_iload_n (pc := 45) C dX8_layPlaces_45 rfl ?_
    refine mx_iconst (pc := 46) C dX8_layPlaces_46 (z := 5) rfl (by constructor <;> decide) ?_
    refine mx_icmp_ge (pc := 47) (tgt := 125) C dX8_layPlaces_47 rfl (fun c1 => ?_) (fun c1 => ?_)
    · rw [if_pos c1] at h
      rw [← Option.some.inj h]
      exact mx_return (pc := 125) C dX8_layPlaces_125 hOM ⟨Nat.le_refl _, Nat.le_refl _⟩
    · rw [if_neg c1] at h
      refine mx_aload_n (pc := 50) C dX8_layPlaces_50 rfl ?_
      refine mx_getR (pc := 51) (v := 143) C dX8_layPlaces_51 so_8 ci_8 (k := 25) (by decide) fl_X8_87 rfl (q := 25) rfl (lay_8_25 hOM) (by decide) ?_
      refine mx_iload_n (pc := 54) C dX8_layPlaces_54 rfl ?_
      refine mx_iconst (pc := 55) C dX8_layPlaces_55 (z := 0) rfl (by constructor <;> decide) ?_
      obtain ⟨g2, h⟩ := of_gd h
      refine mx_iast (pc := 56) C dX8_layPlaces_56 sh_8_25 g2.1 g2.2 ?_
      generalize hmM3 : stM M 143 x3 0 = M3 at h ⊢
      replace h := lt_e h
      have hOM3 : OK M3 := by rw [← hmM3]; exact ok_arr hOM sh_8_25 (by decide)
      refine mx_iconst (pc := 57) C dX8_layPlaces_57 (z := 0) rfl (by constructor <;> decide) ?_
      refine mx_istore (pc := 58) C dX8_layPlaces_58 (ls' := [some (aR 127), none, none, some (aI x3), some (aI 0)]) (by decide) rfl rfl ?_
      exact b_X8_layPlaces_60 C ih FU x3 0 M3 hOM3 h
set_option maxRecDepth 20000 in
set_option maxHeartbeats 4000000 in
theorem b_X8_layPlaces_9 {K : KX} {B : BX} {res : Int × Mem} {p1 : Int} (C : Cx K B false yX8_layPlaces cX8_layPlaces 5 none 2 0 0) : ∀ (n : Nat) (x2 : Int) (x3 : Int) (M : Mem), OK M → f_X8_layPlaces_9 p1 n x2 x3 M = some res → Wx K B (Zr K B none SH res.2 (OK res.2) 0 0) 0 0 SH 5 M 9 [some (aR 127), none, some (aI x2), some (aI x3), none] [] := by
  intro n
  induction n with
  | zero =>
    intro x2 x3 M hOM h
    cases h
  | succ n ih =>
    intro x2 x3 M hOM h
    rw [f_X8_layPlaces_9.eq_2] at h
    refine mx_iload_n (pc := 9) C dX8_layPlaces_9 rfl ?_
    refine mx_if_lt (pc := 10) (tgt := 43) C dX8_layPlaces_10 rfl (fun c1 => ?_) (fun c1 => ?_)
    · rw [if_pos c1] at h
      refine mx_iconst (pc := 43) C dX8_layPlaces_43 (z := 0) rfl (by constructor <;> decide) ?_
      refine mx_istore_n (pc := 44) C dX8_layPlaces_44 (ls' := [some (aR 127), none, some (aI x2), some (aI 0), none]) (by decide) rfl rfl ?_
      refine mx_mask [true, false, false, true, false] (ls' := [some (aR 127), none, none, some (aI 0), none]) rfl rfl ?_
      exact b_X8_layPlaces_45 C FU 0 M hOM h
    · rw [if_neg c1] at h
      refine mx_aload_n (pc := 13) C dX8_layPlaces_13 rfl ?_
      refine mx_iload_n (pc := 14) C dX8_layPlaces_14 rfl ?_
      obtain ⟨q2, hq2, h⟩ := of_bd h
      refine mc_V (pc := 15) (as := [aI x3]) (rest := []) (stk2 := [aI q2.1]) C ⟨Nat.le_refl _, Nat.le_refl _⟩ (m_X8_isLost hOM hq2) mi_X8_isLost mv_X8_isLost ml_X8_232 ci_8 rfl so_8 (by omega) rfl (Nat.le_of_ble_eq_true rfl) dX8_layPlaces_15 rfl (fun hp3 => ?_)
      have hOq2 : OK q2.2 := hp3.1
      refine mx_if_eq (pc := 18) (tgt := 24) C dX8_layPlaces_18 rfl (fun c4 => ?_) (fun c4 => ?_)
      · rw [if_pos c4] at h
        refine mx_aload_n (pc := 24) C dX8_layPlaces_24 rfl ?_
        refine mx_getR (pc := 25) (v := 131) C dX8_layPlaces_25 so_8 ci_8 (k := 5) (by decide) fl_X8_26 rfl (q := 5) rfl (lay_8_5 hOq2) (by decide) ?_
        refine mx_iload_n (pc := 28) C dX8_layPlaces_28 rfl ?_
        refine mx_iload_n (pc := 29) C dX8_layPlaces_29 rfl ?_
        refine mx_iconst (pc := 30) C dX8_layPlaces_30 (z := 5) rfl (by constructor <;> decide) ?_
        refine mx_irem (pc := 31) C dX8_layPlaces_31 (by decide) ?_
        obtain ⟨g5, h⟩ := of_gd h
        refine mx_iast (pc := 32) C dX8_layPlaces_32 sh_8_5 g5.1 g5.2 ?_
        generalize hmM6 : stM q2.2 131 x3 (Int.tmod x2 5) = M6 at h ⊢
        replace h := lt_e h
        have hOM6 : OK M6 := by rw [← hmM6]; exact ok_arr hOq2 sh_8_5 (by decide)
        refine mx_iload_n (pc := 33) C dX8_layPlaces_33 rfl ?_
        refine mx_iconst (pc := 34) C dX8_layPlaces_34 (z := 5) rfl (by constructor <;> decide) ?_
        refine mx_idiv (pc := 35) C dX8_layPlaces_35 (by decide) ?_
        refine mx_istore_n (pc := 36) C dX8_layPlaces_36 (ls' := [some (aR 127), none, some (aI (w32 (Int.tdiv x2 5))), some (aI x3), none]) (by decide) rfl rfl ?_
        exact b_X8_layPlaces_37 C ih (w32 (Int.tdiv x2 5)) x3 M6 hOM6 h
      · rw [if_neg c4] at h
        refine mx_goto (pc := 21) (tgt := 37) C dX8_layPlaces_21 rfl ?_
        exact b_X8_layPlaces_37 C ih x2 x3 q2.2 hOq2 h
set_option maxRecDepth 20000 in
set_option maxHeartbeats 4000000 in
theorem m_X8_layPlaces {p1 : Int} {M : Mem} {res : Int × Mem} (hOM : OK M) (h : f_X8_layPlaces p1 M = some res) : Mth false yX8_layPlaces cX8_layPlaces 5 none 2 0 0 SH [aR 127, aI p1] M none SH res.2 (OK res.2) := by
  refine Mth.of (by decide +kernel) (Nat.le_of_ble_eq_true rfl) (fun K B C => ?_)
  show Wx K B _ 0 0 SH 5 M 0 [some (aR 127), some (aI p1), none, none, none] []
  unfold f_X8_layPlaces at h
  refine mx_iload_n (pc := 0) C dX8_layPlaces_0 rfl ?_
  refine mx_istore_n (pc := 1) C dX8_layPlaces_1 (ls' := [some (aR 127), some (aI p1), some (aI p1), none, none]) (by decide) rfl rfl ?_
  refine mx_aload_n (pc := 2) C dX8_layPlaces_2 rfl ?_
  refine mx_getI (pc := 3) C dX8_layPlaces_3 so_8 ci_8 (k := 0) (by decide) fl_X8_7 rfl (q := 0) rfl ?_
  refine mx_iconst (pc := 6) C dX8_layPlaces_6 (z := 1) rfl (by constructor <;> decide) ?_
  refine mx_isub (pc := 7) C dX8_layPlaces_7  ?_
  refine mx_istore_n (pc := 8) C dX8_layPlaces_8 (ls' := [some (aR 127), some (aI p1), some (aI p1), some (aI (w32 ((M 127 0) - 1))), none]) (by decide) rfl rfl ?_
  refine mx_mask [true, false, true, true, false] (ls' := [some (aR 127), none, some (aI p1), some (aI (w32 ((M 127 0) - 1))), none]) rfl rfl ?_
  exact b_X8_layPlaces_9 C FU p1 (w32 ((M 127 0) - 1)) M hOM h

def f_X8_sumLaid (M : Mem) : Option (Int × Mem) :=
  some (w32 ((w32 ((w32 ((w32 ((M 143 0) + (M 143 1))) + (M 143 2))) + (M 143 3))) + (M 143 4)), M)
set_option maxRecDepth 20000 in
set_option maxHeartbeats 4000000 in
theorem m_X8_sumLaid {M : Mem} {res : Int × Mem} (hOM : OK M) (h : f_X8_sumLaid M = some res) : Mth false yX8_sumLaid cX8_sumLaid 1 (some .int) 1 0 0 SH [aR 127] M (some (aI res.1)) SH res.2 (OK res.2) := by
  refine Mth.of (by decide +kernel) (Nat.le_of_ble_eq_true rfl) (fun K B C => ?_)
  show Wx K B _ 0 0 SH 1 M 0 [some (aR 127)] []
  unfold f_X8_sumLaid at h
  refine mx_aload_n (pc := 0) C dX8_sumLaid_0 rfl ?_
  refine mx_getR (pc := 1) (v := 143) C dX8_sumLaid_1 so_8 ci_8 (k := 25) (by decide) fl_X8_87 rfl (q := 25) rfl (lay_8_25 hOM) (by decide) ?_
  refine mx_iconst (pc := 4) C dX8_sumLaid_4 (z := 0) rfl (by constructor <;> decide) ?_
  refine mx_iald (pc := 5) C dX8_sumLaid_5 sh_8_25 (by decide) (by decide) ?_
  refine mx_aload_n (pc := 6) C dX8_sumLaid_6 rfl ?_
  refine mx_getR (pc := 7) (v := 143) C dX8_sumLaid_7 so_8 ci_8 (k := 25) (by decide) fl_X8_87 rfl (q := 25) rfl (lay_8_25 hOM) (by decide) ?_
  refine mx_iconst (pc := 10) C dX8_sumLaid_10 (z := 1) rfl (by constructor <;> decide) ?_
  refine mx_iald (pc := 11) C dX8_sumLaid_11 sh_8_25 (by decide) (by decide) ?_
  refine mx_iadd (pc := 12) C dX8_sumLaid_12  ?_
  refine mx_aload_n (pc := 13) C dX8_sumLaid_13 rfl ?_
  refine mx_getR (pc := 14) (v := 143) C dX8_sumLaid_14 so_8 ci_8 (k := 25) (by decide) fl_X8_87 rfl (q := 25) rfl (lay_8_25 hOM) (by decide) ?_
  refine mx_iconst (pc := 17) C dX8_sumLaid_17 (z := 2) rfl (by constructor <;> decide) ?_
  refine mx_iald (pc := 18) C dX8_sumLaid_18 sh_8_25 (by decide) (by decide) ?_
  refine mx_iadd (pc := 19) C dX8_sumLaid_19  ?_
  refine mx_aload_n (pc := 20) C dX8_sumLaid_20 rfl ?_
  refine mx_getR (pc := 21) (v := 143) C dX8_sumLaid_21 so_8 ci_8 (k := 25) (by decide) fl_X8_87 rfl (q := 25) rfl (lay_8_25 hOM) (by decide) ?_
  refine mx_iconst (pc := 24) C dX8_sumLaid_24 (z := 3) rfl (by constructor <;> decide) ?_
  refine mx_iald (pc := 25) C dX8_sumLaid_25 sh_8_25 (by decide) (by decide) ?_
  refine mx_iadd (pc := 26) C dX8_sumLaid_26  ?_
  refine mx_aload_n (pc := 27) C dX8_sumLaid_27 rfl ?_
  refine mx_getR (pc := 28) (v := 143) C dX8_sumLaid_28 so_8 ci_8 (k := 25) (by decide) fl_X8_87 rfl (q := 25) rfl (lay_8_25 hOM) (by decide) ?_
  refine mx_iconst (pc := 31) C dX8_sumLaid_31 (z := 4) rfl (by constructor <;> decide) ?_
  refine mx_iald (pc := 32) C dX8_sumLaid_32 sh_8_25 (by decide) (by decide) ?_
  refine mx_iadd (pc := 33) C dX8_sumLaid_33  ?_
  rw [← Option.some.inj h]
  exact mx_ireturn (pc := 34) C dX8_sumLaid_34 hOM ⟨Nat.le_refl _, Nat.le_refl _⟩

def f_X8_layShared_34 (k12 : Int → Int → Mem → Option (Int × Mem)) (x2 : Int) (t0 : Int) (t1 : Int) (M : Mem) : Option (Int × Mem) :=
  k12 (w32 (t0 * t1)) (w32 (x2 + 1)) M
def f_X8_layShared_146 (k56 : Int → Int → Mem → Option (Int × Mem)) (x1 : Int) (x2 : Int) (M : Mem) : Option (Int × Mem) :=
  k56 x1 (w32 (x2 + 1)) M
def f_X8_layShared_119 (k56 : Int → Int → Mem → Option (Int × Mem)) : Nat → Int → Int → Int → Mem → Option (Int × Mem)
  | 0, _, _, _, _ => none
  | n + 1, x1, x2, x5, M => if 6 ≤ x5 then f_X8_layShared_146 k56 x1 x2 M else if 0 ≤ x5 ∧ x5 < 6 then if 0 ≤ x5 ∧ x5 < 6 then lt (stM M 147 x5 (M 131 x5)) (fun M4 => f_X8_layShared_119 k56 n x1 x2 (w32 (x5 + 1)) M4) else none else none
def f_X8_layShared_105 (k56 : Int → Int → Mem → Option (Int × Mem)) (x1 : Int) (x2 : Int) (x3 : Int) (x4 : Int) (M : Mem) : Option (Int × Mem) :=
  lt (stM M 127 31 x3) (fun M1 => lt (stM M1 127 32 x4) (fun M2 => f_X8_layShared_119 k56 FU x1 x2 0 M2))
def f_X8_layShared_56 : Nat → Int → Int → Mem → Option (Int × Mem)
  | 0, _, _, _ => none
  | n + 1, x1, x2, M => if x1 ≤ x2 then (f_X8_putBack M).bind (fun q2 => some (0, q2.2)) else (f_X8_layPlaces x2 M).bind (fun q4 => (f_X8_greatestLaid q4.2).bind (fun q6 => (f_X8_sumLaid q6.2).bind (fun q8 => if q8.2 127 31 < q6.1 then f_X8_layShared_146 (f_X8_layShared_56 n) x1 x2 q8.2 else if q6.1 = q8.2 127 31 then if q8.1 < q8.2 127 32 then f_X8_layShared_105 (f_X8_layShared_56 n) x1 x2 q6.1 q8.1 q8.2 else f_X8_layShared_146 (f_X8_layShared_56 n) x1 x2 q8.2 else f_X8_layShared_105 (f_X8_layShared_56 n) x1 x2 q6.1 q8.1 q8.2)))
def f_X8_layShared_12 : Nat → Int → Int → Mem → Option (Int × Mem)
  | 0, _, _, _ => none
  | n + 1, x1, x2, M => if M 127 0 ≤ x2 then lt (stM M 127 31 2000000000) (fun M2 => lt (stM M2 127 32 0) (fun M3 => f_X8_layShared_56 FU x1 0 M3)) else (f_X8_isLost x2 M).bind (fun q4 => if q4.1 = 0 then f_X8_layShared_34 (f_X8_layShared_12 n) x2 x1 5 q4.2 else f_X8_layShared_34 (f_X8_layShared_12 n) x2 x1 1 q4.2)
def f_X8_layShared (M : Mem) : Option (Int × Mem) :=
  (f_X8_layAll M).bind (fun q1 => (f_X8_save q1.2).bind (fun q3 => f_X8_layShared_12 FU 1 0 q3.2))
set_option maxRecDepth 20000 in
set_option maxHeartbeats 4000000 in
theorem b_X8_layShared_34 {K : KX} {B : BX} {res : Int × Mem} {k12 : Int → Int → Mem → Option (Int × Mem)} (C : Cx K B false yX8_layShared cX8_layShared 6 none 6 0 0) (hk12 : ∀ (x1 : Int) (x2 : Int) (M : Mem), OK M → k12 x1 x2 M = some res → Wx K B (Zr K B none SH res.2 (OK res.2) 0 0) 0 0 SH 6 M 12 [some (aR 127), some (aI x1), some (aI x2), none, none, none] []) : ∀ (x2 : Int) (t0 : Int) (t1 : Int) (M : Mem), OK M → f_X8_layShared_34 k12 x2 t0 t1 M = some res → Wx K B (Zr K B none SH res.2 (OK res.2) 0 0) 0 0 SH 6 M 34 [some (aR 127), none, some (aI x2), none, none, none] [aI t1, aI t0] := by
  intro x2 t0 t1 M hOM h
  unfold f_X8_layShared_34 at h
  refine mx_imul (pc := 34) C dX8_layShared_34  ?_
  refine mx_istore_n (pc := 35) C dX8_layShared_35 (ls' := [some (aR 127), some (aI (w32 (t0 * t1))), some (aI x2), none, none, none]) (by decide) rfl rfl ?_
  refine mx_iinc (pc := 36) C dX8_layShared_36 (ls' := [some (aR 127), some (aI (w32 (t0 * t1))), some (aI (w32 (x2 + 1))), none, none, none]) rfl (by decide) rfl (by constructor <;> decide) rfl rfl ?_
  refine mx_goto (pc := 39) (tgt := 12) C dX8_layShared_39 rfl ?_
  exact hk12 (w32 (t0 * t1)) (w32 (x2 + 1)) M hOM h
set_option maxRecDepth 20000 in
set_option maxHeartbeats 4000000 in
theorem b_X8_layShared_146 {K : KX} {B : BX} {res : Int × Mem} {k56 : Int → Int → Mem → Option (Int × Mem)} (C : Cx K B false yX8_layShared cX8_layShared 6 none 6 0 0) (hk56 : ∀ (x1 : Int) (x2 : Int) (M : Mem), OK M → k56 x1 x2 M = some res → Wx K B (Zr K B none SH res.2 (OK res.2) 0 0) 0 0 SH 6 M 56 [some (aR 127), some (aI x1), some (aI x2), none, none, none] []) : ∀ (x1 : Int) (x2 : Int) (M : Mem), OK M → f_X8_layShared_146 k56 x1 x2 M = some res → Wx K B (Zr K B none SH res.2 (OK res.2) 0 0) 0 0 SH 6 M 146 [some (aR 127), some (aI x1), some (aI x2), none, none, none] [] := by
  intro x1 x2 M hOM h
  unfold f_X8_layShared_146 at h
  refine mx_iinc (pc := 146) C dX8_layShared_146 (ls' := [some (aR 127), some (aI x1), some (aI (w32 (x2 + 1))), none, none, none]) rfl (by decide) rfl (by constructor <;> decide) rfl rfl ?_
  refine mx_goto (pc := 149) (tgt := 56) C dX8_layShared_149 rfl ?_
  exact hk56 x1 (w32 (x2 + 1)) M hOM h
set_option maxRecDepth 20000 in
set_option maxHeartbeats 4000000 in
theorem b_X8_layShared_119 {K : KX} {B : BX} {res : Int × Mem} {k56 : Int → Int → Mem → Option (Int × Mem)} (C : Cx K B false yX8_layShared cX8_layShared 6 none 6 0 0) (hk56 : ∀ (x1 : Int) (x2 : Int) (M : Mem), OK M → k56 x1 x2 M = some res → Wx K B (Zr K B none SH res.2 (OK res.2) 0 0) 0 0 SH 6 M 56 [some (aR 127), some (aI x1), some (aI x2), none, none, none] []) : ∀ (n : Nat) (x1 : Int) (x2 : Int) (x5 : Int) (M : Mem), OK M → f_X8_layShared_119 k56 n x1 x2 x5 M = some res → Wx K B (Zr K B none SH res.2 (OK res.2) 0 0) 0 0 SH 6 M 119 [some (aR 127), some (aI x1), some (aI x2), none, none, some (aI x5)] [] := by
  intro n
  induction n with
  | zero =>
    intro x1 x2 x5 M hOM h
    cases h
  | succ n ih =>
    intro x1 x2 x5 M hOM h
    rw [f_X8_layShared_119.eq_2] at h
    refine mx_iload (pc := 119) C dX8_layShared_119 rfl ?_
    refine mx_bipush (pc := 121) C dX8_layShared_121 (z := 6) rfl (by constructor <;> decide) ?_
    refine mx_icmp_ge (pc := 123) (tgt := 146) C dX8_layShared_123 rfl (fun c1 => ?_) (fun c1 => ?_)
    · rw [if_pos c1] at h
      refine mx_mask [true, true, true, false, false, false] (ls' := [some (aR 127), some (aI x1), some (aI x2), none, none, none]) rfl rfl ?_
      exact b_X8_layShared_146 C hk56 x1 x2 M hOM h
    · rw [if_neg c1] at h
      refine mx_aload_n (pc := 126) C dX8_layShared_126 rfl ?_
      refine mx_getR (pc := 127) (v := 147) C dX8_layShared_127 so_8 ci_8 (k := 30) (by decide) fl_X8_102 rfl (q := 30) rfl (lay_8_30 hOM) (by decide) ?_
      refine mx_iload (pc := 130) C dX8_layShared_130 rfl ?_
      refine mx_aload_n (pc := 132) C dX8_layShared_132 rfl ?_
      refine mx_getR (pc := 133) (v := 131) C dX8_layShared_133 so_8 ci_8 (k := 5) (by decide) fl_X8_26 rfl (q := 5) rfl (lay_8_5 hOM) (by decide) ?_
      refine mx_iload (pc := 136) C dX8_layShared_136 rfl ?_
      obtain ⟨g2, h⟩ := of_gd h
      refine mx_iald (pc := 138) C dX8_layShared_138 sh_8_5 g2.1 g2.2 ?_
      obtain ⟨g3, h⟩ := of_gd h
      refine mx_iast (pc := 139) C dX8_layShared_139 sh_8_30 g3.1 g3.2 ?_
      generalize hmM4 : stM M 147 x5 (M 131 x5) = M4 at h ⊢
      replace h := lt_e h
      have hOM4 : OK M4 := by rw [← hmM4]; exact ok_arr hOM sh_8_30 (by decide)
      refine mx_iinc (pc := 140) C dX8_layShared_140 (ls' := [some (aR 127), some (aI x1), some (aI x2), none, none, some (aI (w32 (x5 + 1)))]) rfl (by decide) rfl (by constructor <;> decide) rfl rfl ?_
      refine mx_goto (pc := 143) (tgt := 119) C dX8_layShared_143 rfl ?_
      exact ih x1 x2 (w32 (x5 + 1)) M4 hOM4 h
set_option maxRecDepth 20000 in
set_option maxHeartbeats 4000000 in
theorem b_X8_layShared_105 {K : KX} {B : BX} {res : Int × Mem} {k56 : Int → Int → Mem → Option (Int × Mem)} (C : Cx K B false yX8_layShared cX8_layShared 6 none 6 0 0) (hk56 : ∀ (x1 : Int) (x2 : Int) (M : Mem), OK M → k56 x1 x2 M = some res → Wx K B (Zr K B none SH res.2 (OK res.2) 0 0) 0 0 SH 6 M 56 [some (aR 127), some (aI x1), some (aI x2), none, none, none] []) : ∀ (x1 : Int) (x2 : Int) (x3 : Int) (x4 : Int) (M : Mem), OK M → f_X8_layShared_105 k56 x1 x2 x3 x4 M = some res → Wx K B (Zr K B none SH res.2 (OK res.2) 0 0) 0 0 SH 6 M 105 [some (aR 127), some (aI x1), some (aI x2), some (aI x3), some (aI x4), none] [] := by
  intro x1 x2 x3 x4 M hOM h
  unfold f_X8_layShared_105 at h
  refine mx_aload_n (pc := 105) C dX8_layShared_105 rfl ?_
  refine mx_iload_n (pc := 106) C dX8_layShared_106 rfl ?_
  refine mx_putI (pc := 107) C dX8_layShared_107 so_8 ci_8 (k := 31) (by decide) fl_X8_105 (Or.inl rfl) rfl (q := 31) rfl ?_
  generalize hmM1 : stM M 127 31 x3 = M1 at h ⊢
  replace h := lt_e h
  have hOM1 : OK M1 := by rw [← hmM1]; exact okf_8_31 hOM
  refine mx_aload_n (pc := 110) C dX8_layShared_110 rfl ?_
  refine mx_iload (pc := 111) C dX8_layShared_111 rfl ?_
  refine mx_putI (pc := 113) C dX8_layShared_113 so_8 ci_8 (k := 32) (by decide) fl_X8_108 (Or.inl rfl) rfl (q := 32) rfl ?_
  generalize hmM2 : stM M1 127 32 x4 = M2 at h ⊢
  replace h := lt_e h
  have hOM2 : OK M2 := by rw [← hmM2]; exact okf_8_32 hOM1
  refine mx_iconst (pc := 116) C dX8_layShared_116 (z := 0) rfl (by constructor <;> decide) ?_
  refine mx_istore (pc := 117) C dX8_layShared_117 (ls' := [some (aR 127), some (aI x1), some (aI x2), some (aI x3), some (aI x4), some (aI 0)]) (by decide) rfl rfl ?_
  refine mx_mask [true, true, true, false, false, true] (ls' := [some (aR 127), some (aI x1), some (aI x2), none, none, some (aI 0)]) rfl rfl ?_
  exact b_X8_layShared_119 C hk56 FU x1 x2 0 M2 hOM2 h
set_option maxRecDepth 20000 in
set_option maxHeartbeats 4000000 in
theorem b_X8_layShared_56 {K : KX} {B : BX} {res : Int × Mem} (C : Cx K B false yX8_layShared cX8_layShared 6 none 6 0 0) : ∀ (n : Nat) (x1 : Int) (x2 : Int) (M : Mem), OK M → f_X8_layShared_56 n x1 x2 M = some res → Wx K B (Zr K B none SH res.2 (OK res.2) 0 0) 0 0 SH 6 M 56 [some (aR 127), some (aI x1), some (aI x2), none, none, none] [] := by
  intro n
  induction n with
  | zero =>
    intro x1 x2 M hOM h
    cases h
  | succ n ih =>
    intro x1 x2 M hOM h
    rw [f_X8_layShared_56.eq_2] at h
    refine mx_iload_n (pc := 56) C dX8_layShared_56 rfl ?_
    refine mx_iload_n (pc := 57) C dX8_layShared_57 rfl ?_
    refine mx_icmp_ge (pc := 58) (tgt := 152) C dX8_layShared_58 rfl (fun c1 => ?_) (fun c1 => ?_)
    · rw [if_pos c1] at h
      refine mx_aload_n (pc := 152) C dX8_layShared_152 rfl ?_
      obtain ⟨q2, hq2, h⟩ := of_bd h
      refine mc_V (pc := 153) (as := []) (rest := []) (stk2 := []) C ⟨Nat.le_refl _, Nat.le_refl _⟩ (m_X8_putBack hOM hq2) mi_X8_putBack mv_X8_putBack ml_X8_356 ci_8 rfl so_8 (by omega) rfl (Nat.le_of_ble_eq_true rfl) dX8_layShared_153 rfl (fun hp3 => ?_)
      have hOq2 : OK q2.2 := hp3
      rw [← Option.some.inj h]
      exact mx_return (pc := 156) C dX8_layShared_156 hOq2 ⟨Nat.le_refl _, Nat.le_refl _⟩
    · rw [if_neg c1] at h
      refine mx_aload_n (pc := 61) C dX8_layShared_61 rfl ?_
      refine mx_iload_n (pc := 62) C dX8_layShared_62 rfl ?_
      obtain ⟨q4, hq4, h⟩ := of_bd h
      refine mc_V (pc := 63) (as := [aI x2]) (rest := []) (stk2 := []) C ⟨Nat.le_refl _, Nat.le_refl _⟩ (m_X8_layPlaces hOM hq4) mi_X8_layPlaces mv_X8_layPlaces ml_X8_363 ci_8 rfl so_8 (by omega) rfl (Nat.le_of_ble_eq_true rfl) dX8_layShared_63 rfl (fun hp5 => ?_)
      have hOq4 : OK q4.2 := hp5
      refine mx_aload_n (pc := 66) C dX8_layShared_66 rfl ?_
      obtain ⟨q6, hq6, h⟩ := of_bd h
      refine mc_V (pc := 67) (as := []) (rest := []) (stk2 := [aI q6.1]) C ⟨Nat.le_refl _, Nat.le_refl _⟩ (m_X8_greatestLaid hOq4 hq6) mi_X8_greatestLaid mv_X8_greatestLaid ml_X8_323 ci_8 rfl so_8 (by omega) rfl (Nat.le_of_ble_eq_true rfl) dX8_layShared_67 rfl (fun hp7 => ?_)
      have hOq6 : OK q6.2 := hp7
      refine mx_istore_n (pc := 70) C dX8_layShared_70 (ls' := [some (aR 127), some (aI x1), some (aI x2), some (aI q6.1), none, none]) (by decide) rfl rfl ?_
      refine mx_aload_n (pc := 71) C dX8_layShared_71 rfl ?_
      obtain ⟨q8, hq8, h⟩ := of_bd h
      refine mc_V (pc := 72) (as := []) (rest := []) (stk2 := [aI q8.1]) C ⟨Nat.le_refl _, Nat.le_refl _⟩ (m_X8_sumLaid hOq6 hq8) mi_X8_sumLaid mv_X8_sumLaid ml_X8_366 ci_8 rfl so_8 (by omega) rfl (Nat.le_of_ble_eq_true rfl) dX8_layShared_72 rfl (fun hp9 => ?_)
      have hOq8 : OK q8.2 := hp9
      refine mx_istore (pc := 75) C dX8_layShared_75 (ls' := [some (aR 127), some (aI x1), some (aI x2), some (aI q6.1), some (aI q8.1), none]) (by decide) rfl rfl ?_
      refine mx_iload_n (pc := 77) C dX8_layShared_77 rfl ?_
      refine mx_aload_n (pc := 78) C dX8_layShared_78 rfl ?_
      refine mx_getI (pc := 79) C dX8_layShared_79 so_8 ci_8 (k := 31) (by decide) fl_X8_105 rfl (q := 31) rfl ?_
      refine mx_icmp_gt (pc := 82) (tgt := 146) C dX8_layShared_82 rfl (fun c10 => ?_) (fun c10 => ?_)
      · rw [if_pos c10] at h
        refine mx_mask [true, true, true, false, false, false] (ls' := [some (aR 127), some (aI x1), some (aI x2), none, none, none]) rfl rfl ?_
        exact b_X8_layShared_146 C ih x1 x2 q8.2 hOq8 h
      · rw [if_neg c10] at h
        refine mx_iload_n (pc := 85) C dX8_layShared_85 rfl ?_
        refine mx_aload_n (pc := 86) C dX8_layShared_86 rfl ?_
        refine mx_getI (pc := 87) C dX8_layShared_87 so_8 ci_8 (k := 31) (by decide) fl_X8_105 rfl (q := 31) rfl ?_
        refine mx_icmp_ne (pc := 90) (tgt := 105) C dX8_layShared_90 rfl (fun c11 => ?_) (fun c11 => ?_)
        · rw [if_neg c11] at h
          exact b_X8_layShared_105 C ih x1 x2 q6.1 q8.1 q8.2 hOq8 h
        · rw [if_pos c11] at h
          refine mx_iload (pc := 93) C dX8_layShared_93 rfl ?_
          refine mx_aload_n (pc := 95) C dX8_layShared_95 rfl ?_
          refine mx_getI (pc := 96) C dX8_layShared_96 so_8 ci_8 (k := 32) (by decide) fl_X8_108 rfl (q := 32) rfl ?_
          refine mx_icmp_lt (pc := 99) (tgt := 105) C dX8_layShared_99 rfl (fun c12 => ?_) (fun c12 => ?_)
          · rw [if_pos c12] at h
            exact b_X8_layShared_105 C ih x1 x2 q6.1 q8.1 q8.2 hOq8 h
          · rw [if_neg c12] at h
            refine mx_goto (pc := 102) (tgt := 146) C dX8_layShared_102 rfl ?_
            refine mx_mask [true, true, true, false, false, false] (ls' := [some (aR 127), some (aI x1), some (aI x2), none, none, none]) rfl rfl ?_
            exact b_X8_layShared_146 C ih x1 x2 q8.2 hOq8 h
set_option maxRecDepth 20000 in
set_option maxHeartbeats 4000000 in
theorem b_X8_layShared_12 {K : KX} {B : BX} {res : Int × Mem} (C : Cx K B false yX8_layShared cX8_layShared 6 none 6 0 0) : ∀ (n : Nat) (x1 : Int) (x2 : Int) (M : Mem), OK M → f_X8_layShared_12 n x1 x2 M = some res → Wx K B (Zr K B none SH res.2 (OK res.2) 0 0) 0 0 SH 6 M 12 [some (aR 127), some (aI x1), some (aI x2), none, none, none] [] := by
  intro n
  induction n with
  | zero =>
    intro x1 x2 M hOM h
    cases h
  | succ n ih =>
    intro x1 x2 M hOM h
    rw [f_X8_layShared_12.eq_2] at h
    refine mx_iload_n (pc := 12) C dX8_layShared_12 rfl ?_
    refine mx_aload_n (pc := 13) C dX8_layShared_13 rfl ?_
    refine mx_getI (pc := 14) C dX8_layShared_14 so_8 ci_8 (k := 0) (by decide) fl_X8_7 rfl (q := 0) rfl ?_
    refine mx_icmp_ge (pc := 17) (tgt := 42) C dX8_layShared_17 rfl (fun c1 => ?_) (fun c1 => ?_)
    · rw [if_pos c1] at h
      refine mx_aload_n (pc := 42) C dX8_layShared_42 rfl ?_
      refine mx_ldcw (pc := 43) C dX8_layShared_43 kc_X8_359 (by constructor <;> decide) ?_
      refine mx_putI (pc := 46) C dX8_layShared_46 so_8 ci_8 (k := 31) (by decide) fl_X8_105 (Or.inl rfl) rfl (q := 31) rfl ?_
      generalize hmM2 : stM M 127 31 2000000000 = M2 at h ⊢
      replace h := lt_e h
      have hOM2 : OK M2 := by rw [← hmM2]; exact okf_8_31 hOM
      refine mx_aload_n (pc := 49) C dX8_layShared_49 rfl ?_
      refine mx_iconst (pc := 50) C dX8_layShared_50 (z := 0) rfl (by constructor <;> decide) ?_
      refine mx_putI (pc := 51) C dX8_layShared_51 so_8 ci_8 (k := 32) (by decide) fl_X8_108 (Or.inl rfl) rfl (q := 32) rfl ?_
      generalize hmM3 : stM M2 127 32 0 = M3 at h ⊢
      replace h := lt_e h
      have hOM3 : OK M3 := by rw [← hmM3]; exact okf_8_32 hOM2
      refine mx_iconst (pc := 54) C dX8_layShared_54 (z := 0) rfl (by constructor <;> decide) ?_
      refine mx_istore_n (pc := 55) C dX8_layShared_55 (ls' := [some (aR 127), some (aI x1), some (aI 0), none, none, none]) (by decide) rfl rfl ?_
      exact b_X8_layShared_56 C FU x1 0 M3 hOM3 h
    · rw [if_neg c1] at h
      refine mx_iload_n (pc := 20) C dX8_layShared_20 rfl ?_
      refine mx_aload_n (pc := 21) C dX8_layShared_21 rfl ?_
      refine mx_iload_n (pc := 22) C dX8_layShared_22 rfl ?_
      obtain ⟨q4, hq4, h⟩ := of_bd h
      refine mc_V (pc := 23) (as := [aI x2]) (rest := [aI x1]) (stk2 := [aI q4.1, aI x1]) C ⟨Nat.le_refl _, Nat.le_refl _⟩ (m_X8_isLost hOM hq4) mi_X8_isLost mv_X8_isLost ml_X8_232 ci_8 rfl so_8 (by omega) rfl (Nat.le_of_ble_eq_true rfl) dX8_layShared_23 rfl (fun hp5 => ?_)
      have hOq4 : OK q4.2 := hp5.1
      refine mx_if_eq (pc := 26) (tgt := 33) C dX8_layShared_26 rfl (fun c6 => ?_) (fun c6 => ?_)
      · rw [if_pos c6] at h
        refine mx_iconst (pc := 33) C dX8_layShared_33 (z := 5) rfl (by constructor <;> decide) ?_
        refine mx_mask [true, false, true, false, false, false] (ls' := [some (aR 127), none, some (aI x2), none, none, none]) rfl rfl ?_
        exact b_X8_layShared_34 C ih x2 x1 5 q4.2 hOq4 h
      · rw [if_neg c6] at h
        refine mx_iconst (pc := 29) C dX8_layShared_29 (z := 1) rfl (by constructor <;> decide) ?_
        refine mx_goto (pc := 30) (tgt := 34) C dX8_layShared_30 rfl ?_
        refine mx_mask [true, false, true, false, false, false] (ls' := [some (aR 127), none, some (aI x2), none, none, none]) rfl rfl ?_
        exact b_X8_layShared_34 C ih x2 x1 1 q4.2 hOq4 h
set_option maxRecDepth 20000 in
set_option maxHeartbeats 4000000 in
theorem m_X8_layShared {M : Mem} {res : Int × Mem} (hOM : OK M) (h : f_X8_layShared M = some res) : Mth false yX8_layShared cX8_layShared 6 none 6 0 0 SH [aR 127] M none SH res.2 (OK res.2) := by
  refine Mth.of (by decide +kernel) (Nat.le_of_ble_eq_true rfl) (fun K B C => ?_)
  show Wx K B _ 0 0 SH 6 M 0 [some (aR 127), none, none, none, none, none] []
  unfold f_X8_layShared at h
  refine mx_aload_n (pc := 0) C dX8_layShared_0 rfl ?_
  obtain ⟨q1, hq1, h⟩ := of_bd h
  refine mc_V (pc := 1) (as := []) (rest := []) (stk2 := []) C ⟨Nat.le_refl _, Nat.le_refl _⟩ (m_X8_layAll hOM hq1) mi_X8_layAll mv_X8_layAll ml_X8_360 ci_8 rfl so_8 (by omega) rfl (Nat.le_of_ble_eq_true rfl) dX8_layShared_1 rfl (fun hp2 => ?_)
  have hOq1 : OK q1.2 := hp2
  refine mx_aload_n (pc := 4) C dX8_layShared_4 rfl ?_
  obtain ⟨q3, hq3, h⟩ := of_bd h
  refine mc_V (pc := 5) (as := []) (rest := []) (stk2 := []) C ⟨Nat.le_refl _, Nat.le_refl _⟩ (m_X8_save hOq1 hq3) mi_X8_save mv_X8_save ml_X8_353 ci_8 rfl so_8 (by omega) rfl (Nat.le_of_ble_eq_true rfl) dX8_layShared_5 rfl (fun hp4 => ?_)
  have hOq3 : OK q3.2 := hp4
  refine mx_iconst (pc := 8) C dX8_layShared_8 (z := 1) rfl (by constructor <;> decide) ?_
  refine mx_istore_n (pc := 9) C dX8_layShared_9 (ls' := [some (aR 127), some (aI 1), none, none, none, none]) (by decide) rfl rfl ?_
  refine mx_iconst (pc := 10) C dX8_layShared_10 (z := 0) rfl (by constructor <;> decide) ?_
  refine mx_istore_n (pc := 11) C dX8_layShared_11 (ls' := [some (aR 127), some (aI 1), some (aI 0), none, none, none]) (by decide) rfl rfl ?_
  exact b_X8_layShared_12 C FU 1 0 q3.2 hOq3 h

def f_X8_shared_29 (p1 : Int) (x1 : Int) (M : Mem) : Option (Int × Mem) :=
  (f_X8_layShared M).bind (fun q1 => if x1 = 0 then some (q1.2 127 31, q1.2) else if x1 = 1 then some (q1.2 127 32, q1.2) else if 0 ≤ w32 (x1 - 10) ∧ w32 (x1 - 10) < 6 then some (q1.2 147 (w32 (x1 - 10)), q1.2) else none)
def f_X8_shared (p1 : Int) (M : Mem) : Option (Int × Mem) :=
  (f_X8_in p1 0 1 M).bind (fun q1 => if q1.1 = 0 then (f_X8_in p1 10 (w32 (9 + (q1.2 127 0))) q1.2).bind (fun q4 => if q4.1 = 0 then some ((-1), q4.2) else f_X8_shared_29 p1 p1 q4.2) else f_X8_shared_29 p1 p1 q1.2)
set_option maxRecDepth 20000 in
set_option maxHeartbeats 4000000 in
theorem b_X8_shared_29 {K : KX} {B : BX} {res : Int × Mem} {p1 : Int} (C : Cx K B false yX8_shared cX8_shared 2 (some .int) 7 0 0) : ∀ (x1 : Int) (M : Mem), OK M → f_X8_shared_29 p1 x1 M = some res → Wx K B (Zr K B (some (aI res.1)) SH res.2 (OK res.2) 0 0) 0 0 SH 2 M 29 [some (aR 127), some (aI x1)] [] := by
  intro x1 M hOM h
  unfold f_X8_shared_29 at h
  refine mx_aload_n (pc := 29) C dX8_shared_29 rfl ?_
  obtain ⟨q1, hq1, h⟩ := of_bd h
  refine mc_V (pc := 30) (as := []) (rest := []) (stk2 := []) C ⟨Nat.le_refl _, Nat.le_refl _⟩ (m_X8_layShared hOM hq1) mi_X8_layShared mv_X8_layShared ml_X8_369 ci_8 rfl so_8 (by omega) rfl (Nat.le_of_ble_eq_true rfl) dX8_shared_30 rfl (fun hp2 => ?_)
  have hOq1 : OK q1.2 := hp2
  refine mx_iload_n (pc := 33) C dX8_shared_33 rfl ?_
  refine mx_if_ne (pc := 34) (tgt := 44) C dX8_shared_34 rfl (fun c3 => ?_) (fun c3 => ?_)
  · rw [if_neg c3] at h
    refine mx_iload_n (pc := 44) C dX8_shared_44 rfl ?_
    refine mx_iconst (pc := 45) C dX8_shared_45 (z := 1) rfl (by constructor <;> decide) ?_
    refine mx_icmp_ne (pc := 46) (tgt := 56) C dX8_shared_46 rfl (fun c4 => ?_) (fun c4 => ?_)
    · rw [if_neg c4] at h
      refine mx_aload_n (pc := 56) C dX8_shared_56 rfl ?_
      refine mx_getR (pc := 57) (v := 147) C dX8_shared_57 so_8 ci_8 (k := 30) (by decide) fl_X8_102 rfl (q := 30) rfl (lay_8_30 hOq1) (by decide) ?_
      refine mx_iload_n (pc := 60) C dX8_shared_60 rfl ?_
      refine mx_bipush (pc := 61) C dX8_shared_61 (z := 10) rfl (by constructor <;> decide) ?_
      refine mx_isub (pc := 63) C dX8_shared_63  ?_
      obtain ⟨g5, h⟩ := of_gd h
      refine mx_iald (pc := 64) C dX8_shared_64 sh_8_30 g5.1 g5.2 ?_
      rw [← Option.some.inj h]
      exact mx_ireturn (pc := 65) C dX8_shared_65 hOq1 ⟨Nat.le_refl _, Nat.le_refl _⟩
    · rw [if_pos c4] at h
      refine mx_aload_n (pc := 49) C dX8_shared_49 rfl ?_
      refine mx_getI (pc := 50) C dX8_shared_50 so_8 ci_8 (k := 32) (by decide) fl_X8_108 rfl (q := 32) rfl ?_
      refine mx_goto (pc := 53) (tgt := 65) C dX8_shared_53 rfl ?_
      rw [← Option.some.inj h]
      exact mx_ireturn (pc := 65) C dX8_shared_65 hOq1 ⟨Nat.le_refl _, Nat.le_refl _⟩
  · rw [if_pos c3] at h
    refine mx_aload_n (pc := 37) C dX8_shared_37 rfl ?_
    refine mx_getI (pc := 38) C dX8_shared_38 so_8 ci_8 (k := 31) (by decide) fl_X8_105 rfl (q := 31) rfl ?_
    refine mx_goto (pc := 41) (tgt := 65) C dX8_shared_41 rfl ?_
    rw [← Option.some.inj h]
    exact mx_ireturn (pc := 65) C dX8_shared_65 hOq1 ⟨Nat.le_refl _, Nat.le_refl _⟩
set_option maxRecDepth 20000 in
set_option maxHeartbeats 4000000 in
theorem m_X8_shared {p1 : Int} {M : Mem} {res : Int × Mem} (hOM : OK M) (h : f_X8_shared p1 M = some res) : Mth false yX8_shared cX8_shared 2 (some .int) 7 0 0 SH [aR 127, aI p1] M (some (aI res.1)) SH res.2 (OK res.2) := by
  refine Mth.of (by decide +kernel) (Nat.le_of_ble_eq_true rfl) (fun K B C => ?_)
  show Wx K B _ 0 0 SH 2 M 0 [some (aR 127), some (aI p1)] []
  unfold f_X8_shared at h
  refine mx_aload_n (pc := 0) C dX8_shared_0 rfl ?_
  refine mx_iload_n (pc := 1) C dX8_shared_1 rfl ?_
  refine mx_iconst (pc := 2) C dX8_shared_2 (z := 0) rfl (by constructor <;> decide) ?_
  refine mx_iconst (pc := 3) C dX8_shared_3 (z := 1) rfl (by constructor <;> decide) ?_
  obtain ⟨q1, hq1, h⟩ := of_bd h
  refine mc_V (pc := 4) (as := [aI p1, aI 0, aI 1]) (rest := []) (stk2 := [aI q1.1]) C ⟨Nat.le_refl _, Nat.le_refl _⟩ (m_X8_in hOM hq1) mi_X8_in mv_X8_in ml_X8_218 ci_8 rfl so_8 (by omega) rfl (Nat.le_of_ble_eq_true rfl) dX8_shared_4 rfl (fun hp2 => ?_)
  have hOq1 : OK q1.2 := hp2.1
  refine mx_if_ne (pc := 7) (tgt := 29) C dX8_shared_7 rfl (fun c3 => ?_) (fun c3 => ?_)
  · rw [if_neg c3] at h
    exact b_X8_shared_29 C p1 q1.2 hOq1 h
  · rw [if_pos c3] at h
    refine mx_aload_n (pc := 10) C dX8_shared_10 rfl ?_
    refine mx_iload_n (pc := 11) C dX8_shared_11 rfl ?_
    refine mx_bipush (pc := 12) C dX8_shared_12 (z := 10) rfl (by constructor <;> decide) ?_
    refine mx_bipush (pc := 14) C dX8_shared_14 (z := 9) rfl (by constructor <;> decide) ?_
    refine mx_aload_n (pc := 16) C dX8_shared_16 rfl ?_
    refine mx_getI (pc := 17) C dX8_shared_17 so_8 ci_8 (k := 0) (by decide) fl_X8_7 rfl (q := 0) rfl ?_
    refine mx_iadd (pc := 20) C dX8_shared_20  ?_
    obtain ⟨q4, hq4, h⟩ := of_bd h
    refine mc_V (pc := 21) (as := [aI p1, aI 10, aI (w32 (9 + (q1.2 127 0)))]) (rest := []) (stk2 := [aI q4.1]) C ⟨Nat.le_refl _, Nat.le_refl _⟩ (m_X8_in hOq1 hq4) mi_X8_in mv_X8_in ml_X8_218 ci_8 rfl so_8 (by omega) rfl (Nat.le_of_ble_eq_true rfl) dX8_shared_21 rfl (fun hp5 => ?_)
    have hOq4 : OK q4.2 := hp5.1
    refine mx_if_ne (pc := 24) (tgt := 29) C dX8_shared_24 rfl (fun c6 => ?_) (fun c6 => ?_)
    · rw [if_neg c6] at h
      exact b_X8_shared_29 C p1 q4.2 hOq4 h
    · rw [if_pos c6] at h
      refine mx_iconst (pc := 27) C dX8_shared_27 (z := (-1)) rfl (by constructor <;> decide) ?_
      rw [← Option.some.inj h]
      exact mx_ireturn (pc := 28) C dX8_shared_28 hOq4 ⟨Nat.le_refl _, Nat.le_refl _⟩

def f_X8_swaps (p1 : Int) (p2 : Int) (M : Mem) : Option (Int × Mem) :=
  if 0 ≤ p1 ∧ p1 < 6 then if 0 ≤ p2 ∧ p2 < 6 then if 0 ≤ p1 ∧ p1 < 6 then lt (stM M 131 p1 (M 131 p2)) (fun M4 => if 0 ≤ p2 ∧ p2 < 6 then lt (stM M4 131 p2 (M 131 p1)) (fun M6 => some (0, M6)) else none) else none else none else none
set_option maxRecDepth 20000 in
set_option maxHeartbeats 4000000 in
theorem m_X8_swaps {p1 : Int} {p2 : Int} {M : Mem} {res : Int × Mem} (hOM : OK M) (h : f_X8_swaps p1 p2 M = some res) : Mth false yX8_swaps cX8_swaps 4 none 1 0 0 SH [aR 127, aI p1, aI p2] M none SH res.2 (OK res.2) := by
  refine Mth.of (by decide +kernel) (Nat.le_of_ble_eq_true rfl) (fun K B C => ?_)
  show Wx K B _ 0 0 SH 4 M 0 [some (aR 127), some (aI p1), some (aI p2), none] []
  unfold f_X8_swaps at h
  refine mx_aload_n (pc := 0) C dX8_swaps_0 rfl ?_
  refine mx_getR (pc := 1) (v := 131) C dX8_swaps_1 so_8 ci_8 (k := 5) (by decide) fl_X8_26 rfl (q := 5) rfl (lay_8_5 hOM) (by decide) ?_
  refine mx_iload_n (pc := 4) C dX8_swaps_4 rfl ?_
  obtain ⟨g1, h⟩ := of_gd h
  refine mx_iald (pc := 5) C dX8_swaps_5 sh_8_5 g1.1 g1.2 ?_
  refine mx_istore_n (pc := 6) C dX8_swaps_6 (ls' := [some (aR 127), some (aI p1), some (aI p2), some (aI (M 131 p1))]) (by decide) rfl rfl ?_
  refine mx_aload_n (pc := 7) C dX8_swaps_7 rfl ?_
  refine mx_getR (pc := 8) (v := 131) C dX8_swaps_8 so_8 ci_8 (k := 5) (by decide) fl_X8_26 rfl (q := 5) rfl (lay_8_5 hOM) (by decide) ?_
  refine mx_iload_n (pc := 11) C dX8_swaps_11 rfl ?_
  refine mx_aload_n (pc := 12) C dX8_swaps_12 rfl ?_
  refine mx_getR (pc := 13) (v := 131) C dX8_swaps_13 so_8 ci_8 (k := 5) (by decide) fl_X8_26 rfl (q := 5) rfl (lay_8_5 hOM) (by decide) ?_
  refine mx_iload_n (pc := 16) C dX8_swaps_16 rfl ?_
  obtain ⟨g2, h⟩ := of_gd h
  refine mx_iald (pc := 17) C dX8_swaps_17 sh_8_5 g2.1 g2.2 ?_
  obtain ⟨g3, h⟩ := of_gd h
  refine mx_iast (pc := 18) C dX8_swaps_18 sh_8_5 g3.1 g3.2 ?_
  generalize hmM4 : stM M 131 p1 (M 131 p2) = M4 at h ⊢
  replace h := lt_e h
  have hOM4 : OK M4 := by rw [← hmM4]; exact ok_arr hOM sh_8_5 (by decide)
  refine mx_aload_n (pc := 19) C dX8_swaps_19 rfl ?_
  refine mx_getR (pc := 20) (v := 131) C dX8_swaps_20 so_8 ci_8 (k := 5) (by decide) fl_X8_26 rfl (q := 5) rfl (lay_8_5 hOM4) (by decide) ?_
  refine mx_iload_n (pc := 23) C dX8_swaps_23 rfl ?_
  refine mx_iload_n (pc := 24) C dX8_swaps_24 rfl ?_
  obtain ⟨g5, h⟩ := of_gd h
  refine mx_iast (pc := 25) C dX8_swaps_25 sh_8_5 g5.1 g5.2 ?_
  generalize hmM6 : stM M4 131 p2 (M 131 p1) = M6 at h ⊢
  replace h := lt_e h
  have hOM6 : OK M6 := by rw [← hmM6]; exact ok_arr hOM4 sh_8_5 (by decide)
  rw [← Option.some.inj h]
  exact mx_return (pc := 26) C dX8_swaps_26 hOM6 ⟨Nat.le_refl _, Nat.le_refl _⟩

def f_X8_changeOf_92 (k10 : Int → Int → Int → Mem → Option (Int × Mem)) (k23 : Int → Int → Int → Int → Mem → Option (Int × Mem)) (x1 : Int) (x2 : Int) (x3 : Int) (x4 : Int) (M : Mem) : Option (Int × Mem) :=
  k23 x1 x2 x3 (w32 (x4 + 1)) M
def f_X8_changeOf_23 (k10 : Int → Int → Int → Mem → Option (Int × Mem)) : Nat → Int → Int → Int → Int → Mem → Option (Int × Mem)
  | 0, _, _, _, _, _ => none
  | n + 1, x1, x2, x3, x4, M => if M 127 0 ≤ x4 then k10 x1 x2 (w32 (x3 + 1)) M else (f_X8_isLost x3 M).bind (fun q2 => if q2.1 = 0 then (f_X8_isLost x4 q2.2).bind (fun q5 => if q5.1 = 0 then (f_X8_swaps x3 x4 q5.2).bind (fun q8 => (f_X8_greatest q8.2).bind (fun q10 => (f_X8_swaps x3 x4 q10.2).bind (fun q12 => if q10.1 < x2 then f_X8_changeOf_92 k10 (f_X8_changeOf_23 k10 n) (w32 ((w32 (10 * x3)) + x4)) q10.1 x3 x4 q12.2 else f_X8_changeOf_92 k10 (f_X8_changeOf_23 k10 n) x1 x2 x3 x4 q12.2))) else f_X8_changeOf_92 k10 (f_X8_changeOf_23 k10 n) x1 x2 x3 x4 q5.2) else f_X8_changeOf_92 k10 (f_X8_changeOf_23 k10 n) x1 x2 x3 x4 q2.2)
def f_X8_changeOf_10 : Nat → Int → Int → Int → Mem → Option (Int × Mem)
  | 0, _, _, _, _ => none
  | n + 1, x1, x2, x3, M => if M 127 0 ≤ x3 then some (x1, M) else f_X8_changeOf_23 (f_X8_changeOf_10 n) FU x1 x2 x3 (w32 (x3 + 1)) M
def f_X8_changeOf (M : Mem) : Option (Int × Mem) :=
  (f_X8_greatest M).bind (fun q1 => f_X8_changeOf_10 FU (-5) q1.1 0 q1.2)
set_option maxRecDepth 20000 in
set_option maxHeartbeats 4000000 in
theorem b_X8_changeOf_92 {K : KX} {B : BX} {res : Int × Mem} {k10 : Int → Int → Int → Mem → Option (Int × Mem)} {k23 : Int → Int → Int → Int → Mem → Option (Int × Mem)} (C : Cx K B false yX8_changeOf cX8_changeOf 6 (some .int) 7 0 0) (hk10 : ∀ (x1 : Int) (x2 : Int) (x3 : Int) (M : Mem), OK M → k10 x1 x2 x3 M = some res → Wx K B (Zr K B (some (aI res.1)) SH res.2 (OK res.2) 0 0) 0 0 SH 6 M 10 [some (aR 127), some (aI x1), some (aI x2), some (aI x3), none, none] []) (hk23 : ∀ (x1 : Int) (x2 : Int) (x3 : Int) (x4 : Int) (M : Mem), OK M → k23 x1 x2 x3 x4 M = some res → Wx K B (Zr K B (some (aI res.1)) SH res.2 (OK res.2) 0 0) 0 0 SH 6 M 23 [some (aR 127), some (aI x1), some (aI x2), some (aI x3), some (aI x4), none] []) : ∀ (x1 : Int) (x2 : Int) (x3 : Int) (x4 : Int) (M : Mem), OK M → f_X8_changeOf_92 k10 k23 x1 x2 x3 x4 M = some res → Wx K B (Zr K B (some (aI res.1)) SH res.2 (OK res.2) 0 0) 0 0 SH 6 M 92 [some (aR 127), some (aI x1), some (aI x2), some (aI x3), some (aI x4), none] [] := by
  intro x1 x2 x3 x4 M hOM h
  unfold f_X8_changeOf_92 at h
  refine mx_iinc (pc := 92) C dX8_changeOf_92 (ls' := [some (aR 127), some (aI x1), some (aI x2), some (aI x3), some (aI (w32 (x4 + 1))), none]) rfl (by decide) rfl (by constructor <;> decide) rfl rfl ?_
  refine mx_goto (pc := 95) (tgt := 23) C dX8_changeOf_95 rfl ?_
  exact hk23 x1 x2 x3 (w32 (x4 + 1)) M hOM h
set_option maxRecDepth 20000 in
set_option maxHeartbeats 4000000 in
theorem b_X8_changeOf_23 {K : KX} {B : BX} {res : Int × Mem} {k10 : Int → Int → Int → Mem → Option (Int × Mem)} (C : Cx K B false yX8_changeOf cX8_changeOf 6 (some .int) 7 0 0) (hk10 : ∀ (x1 : Int) (x2 : Int) (x3 : Int) (M : Mem), OK M → k10 x1 x2 x3 M = some res → Wx K B (Zr K B (some (aI res.1)) SH res.2 (OK res.2) 0 0) 0 0 SH 6 M 10 [some (aR 127), some (aI x1), some (aI x2), some (aI x3), none, none] []) : ∀ (n : Nat) (x1 : Int) (x2 : Int) (x3 : Int) (x4 : Int) (M : Mem), OK M → f_X8_changeOf_23 k10 n x1 x2 x3 x4 M = some res → Wx K B (Zr K B (some (aI res.1)) SH res.2 (OK res.2) 0 0) 0 0 SH 6 M 23 [some (aR 127), some (aI x1), some (aI x2), some (aI x3), some (aI x4), none] [] := by
  intro n
  induction n with
  | zero =>
    intro x1 x2 x3 x4 M hOM h
    cases h
  | succ n ih =>
    intro x1 x2 x3 x4 M hOM h
    rw [f_X8_changeOf_23.eq_2] at h
    refine mx_iload (pc := 23) C dX8_changeOf_23 rfl ?_
    refine mx_aload_n (pc := 25) C dX8_changeOf_25 rfl ?_
    refine mx_getI (pc := 26) C dX8_changeOf_26 so_8 ci_8 (k := 0) (by decide) fl_X8_7 rfl (q := 0) rfl ?_
    refine mx_icmp_ge (pc := 29) (tgt := 98) C dX8_changeOf_29 rfl (fun c1 => ?_) (fun c1 => ?_)
    · rw [if_pos c1] at h
      refine mx_iinc (pc := 98) C dX8_changeOf_98 (ls' := [some (aR 127), some (aI x1), some (aI x2), some (aI (w32 (x3 + 1))), some (aI x4), none]) rfl (by decide) rfl (by constructor <;> decide) rfl rfl ?_
      refine mx_goto (pc := 101) (tgt := 10) C dX8_changeOf_101 rfl ?_
      refine mx_mask [true, true, true, true, false, false] (ls' := [some (aR 127), some (aI x1), some (aI x2), some (aI (w32 (x3 + 1))), none, none]) rfl rfl ?_
      exact hk10 x1 x2 (w32 (x3 + 1)) M hOM h
    · rw [if_neg c1] at h
      refine mx_aload_n (pc := 32) C dX8_changeOf_32 rfl ?_
      refine mx_iload_n (pc := 33) C dX8_changeOf_33 rfl ?_
      obtain ⟨q2, hq2, h⟩ := of_bd h
      refine mc_V (pc := 34) (as := [aI x3]) (rest := []) (stk2 := [aI q2.1]) C ⟨Nat.le_refl _, Nat.le_refl _⟩ (m_X8_isLost hOM hq2) mi_X8_isLost mv_X8_isLost ml_X8_232 ci_8 rfl so_8 (by omega) rfl (Nat.le_of_ble_eq_true rfl) dX8_changeOf_34 rfl (fun hp3 => ?_)
      have hOq2 : OK q2.2 := hp3.1
      refine mx_if_ne (pc := 37) (tgt := 92) C dX8_changeOf_37 rfl (fun c4 => ?_) (fun c4 => ?_)
      · rw [if_neg c4] at h
        exact b_X8_changeOf_92 C hk10 ih x1 x2 x3 x4 q2.2 hOq2 h
      · rw [if_pos c4] at h
        refine mx_aload_n (pc := 40) C dX8_changeOf_40 rfl ?_
        refine mx_iload (pc := 41) C dX8_changeOf_41 rfl ?_
        obtain ⟨q5, hq5, h⟩ := of_bd h
        refine mc_V (pc := 43) (as := [aI x4]) (rest := []) (stk2 := [aI q5.1]) C ⟨Nat.le_refl _, Nat.le_refl _⟩ (m_X8_isLost hOq2 hq5) mi_X8_isLost mv_X8_isLost ml_X8_232 ci_8 rfl so_8 (by omega) rfl (Nat.le_of_ble_eq_true rfl) dX8_changeOf_43 rfl (fun hp6 => ?_)
        have hOq5 : OK q5.2 := hp6.1
        refine mx_if_eq (pc := 46) (tgt := 52) C dX8_changeOf_46 rfl (fun c7 => ?_) (fun c7 => ?_)
        · rw [if_pos c7] at h
          refine mx_aload_n (pc := 52) C dX8_changeOf_52 rfl ?_
          refine mx_iload_n (pc := 53) C dX8_changeOf_53 rfl ?_
          refine mx_iload (pc := 54) C dX8_changeOf_54 rfl ?_
          obtain ⟨q8, hq8, h⟩ := of_bd h
          refine mc_V (pc := 56) (as := [aI x3, aI x4]) (rest := []) (stk2 := []) C ⟨Nat.le_refl _, Nat.le_refl _⟩ (m_X8_swaps hOq5 hq8) mi_X8_swaps mv_X8_swaps ml_X8_372 ci_8 rfl so_8 (by omega) rfl (Nat.le_of_ble_eq_true rfl) dX8_changeOf_56 rfl (fun hp9 => ?_)
          have hOq8 : OK q8.2 := hp9
          refine mx_aload_n (pc := 59) C dX8_changeOf_59 rfl ?_
          obtain ⟨q10, hq10, h⟩ := of_bd h
          refine mc_V (pc := 60) (as := []) (rest := []) (stk2 := [aI q10.1]) C ⟨Nat.le_refl _, Nat.le_refl _⟩ (m_X8_greatest hOq8 hq10) mi_X8_greatest mv_X8_greatest ml_X8_338 ci_8 rfl so_8 (by omega) rfl (Nat.le_of_ble_eq_true rfl) dX8_changeOf_60 rfl (fun hp11 => ?_)
          have hOq10 : OK q10.2 := hp11
          refine mx_istore (pc := 63) C dX8_changeOf_63 (ls' := [some (aR 127), some (aI x1), some (aI x2), some (aI x3), some (aI x4), some (aI q10.1)]) (by decide) rfl rfl ?_
          refine mx_aload_n (pc := 65) C dX8_changeOf_65 rfl ?_
          refine mx_iload_n (pc := 66) C dX8_changeOf_66 rfl ?_
          refine mx_iload (pc := 67) C dX8_changeOf_67 rfl ?_
          obtain ⟨q12, hq12, h⟩ := of_bd h
          refine mc_V (pc := 69) (as := [aI x3, aI x4]) (rest := []) (stk2 := []) C ⟨Nat.le_refl _, Nat.le_refl _⟩ (m_X8_swaps hOq10 hq12) mi_X8_swaps mv_X8_swaps ml_X8_372 ci_8 rfl so_8 (by omega) rfl (Nat.le_of_ble_eq_true rfl) dX8_changeOf_69 rfl (fun hp13 => ?_)
          have hOq12 : OK q12.2 := hp13
          refine mx_iload (pc := 72) C dX8_changeOf_72 rfl ?_
          refine mx_iload_n (pc := 74) C dX8_changeOf_74 rfl ?_
          refine mx_icmp_lt (pc := 75) (tgt := 81) C dX8_changeOf_75 rfl (fun c14 => ?_) (fun c14 => ?_)
          · rw [if_pos c14] at h
            refine mx_bipush (pc := 81) C dX8_changeOf_81 (z := 10) rfl (by constructor <;> decide) ?_
            refine mx_iload_n (pc := 83) C dX8_changeOf_83 rfl ?_
            refine mx_imul (pc := 84) C dX8_changeOf_84  ?_
            refine mx_iload (pc := 85) C dX8_changeOf_85 rfl ?_
            refine mx_iadd (pc := 87) C dX8_changeOf_87  ?_
            refine mx_istore_n (pc := 88) C dX8_changeOf_88 (ls' := [some (aR 127), some (aI (w32 ((w32 (10 * x3)) + x4))), some (aI x2), some (aI x3), some (aI x4), some (aI q10.1)]) (by decide) rfl rfl ?_
            refine mx_iload (pc := 89) C dX8_changeOf_89 rfl ?_
            refine mx_istore_n (pc := 91) C dX8_changeOf_91 (ls' := [some (aR 127), some (aI (w32 ((w32 (10 * x3)) + x4))), some (aI q10.1), some (aI x3), some (aI x4), some (aI q10.1)]) (by decide) rfl rfl ?_
            refine mx_mask [true, true, true, true, true, false] (ls' := [some (aR 127), some (aI (w32 ((w32 (10 * x3)) + x4))), some (aI q10.1), some (aI x3), some (aI x4), none]) rfl rfl ?_
            exact b_X8_changeOf_92 C hk10 ih (w32 ((w32 (10 * x3)) + x4)) q10.1 x3 x4 q12.2 hOq12 h
          · rw [if_neg c14] at h
            refine mx_goto (pc := 78) (tgt := 92) C dX8_changeOf_78 rfl ?_
            refine mx_mask [true, true, true, true, true, false] (ls' := [some (aR 127), some (aI x1), some (aI x2), some (aI x3), some (aI x4), none]) rfl rfl ?_
            exact b_X8_changeOf_92 C hk10 ih x1 x2 x3 x4 q12.2 hOq12 h
        · rw [if_neg c7] at h
          refine mx_goto (pc := 49) (tgt := 92) C dX8_changeOf_49 rfl ?_
          exact b_X8_changeOf_92 C hk10 ih x1 x2 x3 x4 q5.2 hOq5 h
set_option maxRecDepth 20000 in
set_option maxHeartbeats 4000000 in
theorem b_X8_changeOf_10 {K : KX} {B : BX} {res : Int × Mem} (C : Cx K B false yX8_changeOf cX8_changeOf 6 (some .int) 7 0 0) : ∀ (n : Nat) (x1 : Int) (x2 : Int) (x3 : Int) (M : Mem), OK M → f_X8_changeOf_10 n x1 x2 x3 M = some res → Wx K B (Zr K B (some (aI res.1)) SH res.2 (OK res.2) 0 0) 0 0 SH 6 M 10 [some (aR 127), some (aI x1), some (aI x2), some (aI x3), none, none] [] := by
  intro n
  induction n with
  | zero =>
    intro x1 x2 x3 M hOM h
    cases h
  | succ n ih =>
    intro x1 x2 x3 M hOM h
    rw [f_X8_changeOf_10.eq_2] at h
    refine mx_iload_n (pc := 10) C dX8_changeOf_10 rfl ?_
    refine mx_aload_n (pc := 11) C dX8_changeOf_11 rfl ?_
    refine mx_getI (pc := 12) C dX8_changeOf_12 so_8 ci_8 (k := 0) (by decide) fl_X8_7 rfl (q := 0) rfl ?_
    refine mx_icmp_ge (pc := 15) (tgt := 104) C dX8_changeOf_15 rfl (fun c1 => ?_) (fun c1 => ?_)
    · rw [if_pos c1] at h
      refine mx_iload_n (pc := 104) C dX8_changeOf_104 rfl ?_
      rw [← Option.some.inj h]
      exact mx_ireturn (pc := 105) C dX8_changeOf_105 hOM ⟨Nat.le_refl _, Nat.le_refl _⟩
    · rw [if_neg c1] at h
      refine mx_iload_n (pc := 18) C dX8_changeOf_18 rfl ?_
      refine mx_iconst (pc := 19) C dX8_changeOf_19 (z := 1) rfl (by constructor <;> decide) ?_
      refine mx_iadd (pc := 20) C dX8_changeOf_20  ?_
      refine mx_istore (pc := 21) C dX8_changeOf_21 (ls' := [some (aR 127), some (aI x1), some (aI x2), some (aI x3), some (aI (w32 (x3 + 1))), none]) (by decide) rfl rfl ?_
      exact b_X8_changeOf_23 C ih FU x1 x2 x3 (w32 (x3 + 1)) M hOM h
set_option maxRecDepth 20000 in
set_option maxHeartbeats 4000000 in
theorem m_X8_changeOf {M : Mem} {res : Int × Mem} (hOM : OK M) (h : f_X8_changeOf M = some res) : Mth false yX8_changeOf cX8_changeOf 6 (some .int) 7 0 0 SH [aR 127] M (some (aI res.1)) SH res.2 (OK res.2) := by
  refine Mth.of (by decide +kernel) (Nat.le_of_ble_eq_true rfl) (fun K B C => ?_)
  show Wx K B _ 0 0 SH 6 M 0 [some (aR 127), none, none, none, none, none] []
  unfold f_X8_changeOf at h
  refine mx_bipush (pc := 0) C dX8_changeOf_0 (z := (-5)) rfl (by constructor <;> decide) ?_
  refine mx_istore_n (pc := 2) C dX8_changeOf_2 (ls' := [some (aR 127), some (aI (-5)), none, none, none, none]) (by decide) rfl rfl ?_
  refine mx_aload_n (pc := 3) C dX8_changeOf_3 rfl ?_
  obtain ⟨q1, hq1, h⟩ := of_bd h
  refine mc_V (pc := 4) (as := []) (rest := []) (stk2 := [aI q1.1]) C ⟨Nat.le_refl _, Nat.le_refl _⟩ (m_X8_greatest hOM hq1) mi_X8_greatest mv_X8_greatest ml_X8_338 ci_8 rfl so_8 (by omega) rfl (Nat.le_of_ble_eq_true rfl) dX8_changeOf_4 rfl (fun hp2 => ?_)
  have hOq1 : OK q1.2 := hp2
  refine mx_istore_n (pc := 7) C dX8_changeOf_7 (ls' := [some (aR 127), some (aI (-5)), some (aI q1.1), none, none, none]) (by decide) rfl rfl ?_
  refine mx_iconst (pc := 8) C dX8_changeOf_8 (z := 0) rfl (by constructor <;> decide) ?_
  refine mx_istore_n (pc := 9) C dX8_changeOf_9 (ls' := [some (aR 127), some (aI (-5)), some (aI q1.1), some (aI 0), none, none]) (by decide) rfl rfl ?_
  exact b_X8_changeOf_10 C FU (-5) q1.1 0 q1.2 hOq1 h

def f_X8_greatestWithout (p1 : Int) (M : Mem) : Option (Int × Mem) :=
  if 0 ≤ p1 ∧ p1 < 6 then if 0 ≤ p1 ∧ p1 < 6 then lt (stM M 131 p1 (-5)) (fun M3 => (f_X8_greatest M3).bind (fun q4 => if 0 ≤ p1 ∧ p1 < 6 then lt (stM q4.2 131 p1 (M 131 p1)) (fun M7 => some (q4.1, M7)) else none)) else none else none
set_option maxRecDepth 20000 in
set_option maxHeartbeats 4000000 in
theorem m_X8_greatestWithout {p1 : Int} {M : Mem} {res : Int × Mem} (hOM : OK M) (h : f_X8_greatestWithout p1 M = some res) : Mth false yX8_greatestWithout cX8_greatestWithout 4 (some .int) 7 0 0 SH [aR 127, aI p1] M (some (aI res.1)) SH res.2 (OK res.2) := by
  refine Mth.of (by decide +kernel) (Nat.le_of_ble_eq_true rfl) (fun K B C => ?_)
  show Wx K B _ 0 0 SH 4 M 0 [some (aR 127), some (aI p1), none, none] []
  unfold f_X8_greatestWithout at h
  refine mx_aload_n (pc := 0) C dX8_greatestWithout_0 rfl ?_
  refine mx_getR (pc := 1) (v := 131) C dX8_greatestWithout_1 so_8 ci_8 (k := 5) (by decide) fl_X8_26 rfl (q := 5) rfl (lay_8_5 hOM) (by decide) ?_
  refine mx_iload_n (pc := 4) C dX8_greatestWithout_4 rfl ?_
  obtain ⟨g1, h⟩ := of_gd h
  refine mx_iald (pc := 5) C dX8_greatestWithout_5 sh_8_5 g1.1 g1.2 ?_
  refine mx_istore_n (pc := 6) C dX8_greatestWithout_6 (ls' := [some (aR 127), some (aI p1), some (aI (M 131 p1)), none]) (by decide) rfl rfl ?_
  refine mx_aload_n (pc := 7) C dX8_greatestWithout_7 rfl ?_
  refine mx_getR (pc := 8) (v := 131) C dX8_greatestWithout_8 so_8 ci_8 (k := 5) (by decide) fl_X8_26 rfl (q := 5) rfl (lay_8_5 hOM) (by decide) ?_
  refine mx_iload_n (pc := 11) C dX8_greatestWithout_11 rfl ?_
  refine mx_bipush (pc := 12) C dX8_greatestWithout_12 (z := (-5)) rfl (by constructor <;> decide) ?_
  obtain ⟨g2, h⟩ := of_gd h
  refine mx_iast (pc := 14) C dX8_greatestWithout_14 sh_8_5 g2.1 g2.2 ?_
  generalize hmM3 : stM M 131 p1 (-5) = M3 at h ⊢
  replace h := lt_e h
  have hOM3 : OK M3 := by rw [← hmM3]; exact ok_arr hOM sh_8_5 (by decide)
  refine mx_aload_n (pc := 15) C dX8_greatestWithout_15 rfl ?_
  obtain ⟨q4, hq4, h⟩ := of_bd h
  refine mc_V (pc := 16) (as := []) (rest := []) (stk2 := [aI q4.1]) C ⟨Nat.le_refl _, Nat.le_refl _⟩ (m_X8_greatest hOM3 hq4) mi_X8_greatest mv_X8_greatest ml_X8_338 ci_8 rfl so_8 (by omega) rfl (Nat.le_of_ble_eq_true rfl) dX8_greatestWithout_16 rfl (fun hp5 => ?_)
  have hOq4 : OK q4.2 := hp5
  refine mx_istore_n (pc := 19) C dX8_greatestWithout_19 (ls' := [some (aR 127), some (aI p1), some (aI (M 131 p1)), some (aI q4.1)]) (by decide) rfl rfl ?_
  refine mx_aload_n (pc := 20) C dX8_greatestWithout_20 rfl ?_
  refine mx_getR (pc := 21) (v := 131) C dX8_greatestWithout_21 so_8 ci_8 (k := 5) (by decide) fl_X8_26 rfl (q := 5) rfl (lay_8_5 hOq4) (by decide) ?_
  refine mx_iload_n (pc := 24) C dX8_greatestWithout_24 rfl ?_
  refine mx_iload_n (pc := 25) C dX8_greatestWithout_25 rfl ?_
  obtain ⟨g6, h⟩ := of_gd h
  refine mx_iast (pc := 26) C dX8_greatestWithout_26 sh_8_5 g6.1 g6.2 ?_
  generalize hmM7 : stM q4.2 131 p1 (M 131 p1) = M7 at h ⊢
  replace h := lt_e h
  have hOM7 : OK M7 := by rw [← hmM7]; exact ok_arr hOq4 sh_8_5 (by decide)
  refine mx_iload_n (pc := 27) C dX8_greatestWithout_27 rfl ?_
  rw [← Option.some.inj h]
  exact mx_ireturn (pc := 28) C dX8_greatestWithout_28 hOM7 ⟨Nat.le_refl _, Nat.le_refl _⟩

def f_X8_worstOf_40 (k7 : Int → Int → Int → Mem → Option (Int × Mem)) (x1 : Int) (x2 : Int) (x3 : Int) (M : Mem) : Option (Int × Mem) :=
  k7 x1 x2 (w32 (x3 + 1)) M
def f_X8_worstOf_35 (k7 : Int → Int → Int → Mem → Option (Int × Mem)) (x3 : Int) (x4 : Int) (M : Mem) : Option (Int × Mem) :=
  f_X8_worstOf_40 k7 x3 x4 x3 M
def f_X8_worstOf_7 : Nat → Int → Int → Int → Mem → Option (Int × Mem)
  | 0, _, _, _, _ => none
  | n + 1, x1, x2, x3, M => if M 127 0 ≤ x3 then some (x1, M) else (f_X8_greatestWithout x3 M).bind (fun q2 => if x1 < 0 then f_X8_worstOf_35 (f_X8_worstOf_7 n) x3 q2.1 q2.2 else if q2.1 < x2 then f_X8_worstOf_35 (f_X8_worstOf_7 n) x3 q2.1 q2.2 else f_X8_worstOf_40 (f_X8_worstOf_7 n) x1 x2 x3 q2.2)
def f_X8_worstOf (M : Mem) : Option (Int × Mem) :=
  f_X8_worstOf_7 FU (-5) 0 0 M
set_option maxRecDepth 20000 in
set_option maxHeartbeats 4000000 in
theorem b_X8_worstOf_40 {K : KX} {B : BX} {res : Int × Mem} {k7 : Int → Int → Int → Mem → Option (Int × Mem)} (C : Cx K B false yX8_worstOf cX8_worstOf 5 (some .int) 8 0 0) (hk7 : ∀ (x1 : Int) (x2 : Int) (x3 : Int) (M : Mem), OK M → k7 x1 x2 x3 M = some res → Wx K B (Zr K B (some (aI res.1)) SH res.2 (OK res.2) 0 0) 0 0 SH 5 M 7 [some (aR 127), some (aI x1), some (aI x2), some (aI x3), none] []) : ∀ (x1 : Int) (x2 : Int) (x3 : Int) (M : Mem), OK M → f_X8_worstOf_40 k7 x1 x2 x3 M = some res → Wx K B (Zr K B (some (aI res.1)) SH res.2 (OK res.2) 0 0) 0 0 SH 5 M 40 [some (aR 127), some (aI x1), some (aI x2), some (aI x3), none] [] := by
  intro x1 x2 x3 M hOM h
  unfold f_X8_worstOf_40 at h
  refine mx_iinc (pc := 40) C dX8_worstOf_40 (ls' := [some (aR 127), some (aI x1), some (aI x2), some (aI (w32 (x3 + 1))), none]) rfl (by decide) rfl (by constructor <;> decide) rfl rfl ?_
  refine mx_goto (pc := 43) (tgt := 7) C dX8_worstOf_43 rfl ?_
  exact hk7 x1 x2 (w32 (x3 + 1)) M hOM h
set_option maxRecDepth 20000 in
set_option maxHeartbeats 4000000 in
theorem b_X8_worstOf_35 {K : KX} {B : BX} {res : Int × Mem} {k7 : Int → Int → Int → Mem → Option (Int × Mem)} (C : Cx K B false yX8_worstOf cX8_worstOf 5 (some .int) 8 0 0) (hk7 : ∀ (x1 : Int) (x2 : Int) (x3 : Int) (M : Mem), OK M → k7 x1 x2 x3 M = some res → Wx K B (Zr K B (some (aI res.1)) SH res.2 (OK res.2) 0 0) 0 0 SH 5 M 7 [some (aR 127), some (aI x1), some (aI x2), some (aI x3), none] []) : ∀ (x3 : Int) (x4 : Int) (M : Mem), OK M → f_X8_worstOf_35 k7 x3 x4 M = some res → Wx K B (Zr K B (some (aI res.1)) SH res.2 (OK res.2) 0 0) 0 0 SH 5 M 35 [some (aR 127), none, none, some (aI x3), some (aI x4)] [] := by
  intro x3 x4 M hOM h
  unfold f_X8_worstOf_35 at h
  refine mx_iload_n (pc := 35) C dX8_worstOf_35 rfl ?_
  refine mx_istore_n (pc := 36) C dX8_worstOf_36 (ls' := [some (aR 127), some (aI x3), none, some (aI x3), some (aI x4)]) (by decide) rfl rfl ?_
  refine mx_iload (pc := 37) C dX8_worstOf_37 rfl ?_
  refine mx_istore_n (pc := 39) C dX8_worstOf_39 (ls' := [some (aR 127), some (aI x3), some (aI x4), some (aI x3), some (aI x4)]) (by decide) rfl rfl ?_
  refine mx_mask [true, true, true, true, false] (ls' := [some (aR 127), some (aI x3), some (aI x4), some (aI x3), none]) rfl rfl ?_
  exact b_X8_worstOf_40 C hk7 x3 x4 x3 M hOM h
set_option maxRecDepth 20000 in
set_option maxHeartbeats 4000000 in
theorem b_X8_worstOf_7 {K : KX} {B : BX} {res : Int × Mem} (C : Cx K B false yX8_worstOf cX8_worstOf 5 (some .int) 8 0 0) : ∀ (n : Nat) (x1 : Int) (x2 : Int) (x3 : Int) (M : Mem), OK M → f_X8_worstOf_7 n x1 x2 x3 M = some res → Wx K B (Zr K B (some (aI res.1)) SH res.2 (OK res.2) 0 0) 0 0 SH 5 M 7 [some (aR 127), some (aI x1), some (aI x2), some (aI x3), none] [] := by
  intro n
  induction n with
  | zero =>
    intro x1 x2 x3 M hOM h
    cases h
  | succ n ih =>
    intro x1 x2 x3 M hOM h
    rw [f_X8_worstOf_7.eq_2] at h
    refine mx_iload_n (pc := 7) C dX8_worstOf_7 rfl ?_
    refine mx_aload_n (pc := 8) C dX8_worstOf_8 rfl ?_
    refine mx_getI (pc := 9) C dX8_worstOf_9 so_8 ci_8 (k := 0) (by decide) fl_X8_7 rfl (q := 0) rfl ?_
    refine mx_icmp_ge (pc := 12) (tgt := 46) C dX8_worstOf_12 rfl (fun c1 => ?_) (fun c1 => ?_)
    · rw [if_pos c1] at h
      refine mx_iload_n (pc := 46) C dX8_worstOf_46 rfl ?_
      rw [← Option.some.inj h]
      exact mx_ireturn (pc := 47) C dX8_worstOf_47 hOM ⟨Nat.le_refl _, Nat.le_refl _⟩
    · rw [if_neg c1] at h
      refine mx_aload_n (pc := 15) C dX8_worstOf_15 rfl ?_
      refine mx_iload_n (pc := 16) C dX8_worstOf_16 rfl ?_
      obtain ⟨q2, hq2, h⟩ := of_bd h
      refine mc_V (pc := 17) (as := [aI x3]) (rest := []) (stk2 := [aI q2.1]) C ⟨Nat.le_refl _, Nat.le_refl _⟩ (m_X8_greatestWithout hOM hq2) mi_X8_greatestWithout mv_X8_greatestWithout ml_X8_376 ci_8 rfl so_8 (by omega) rfl (Nat.le_of_ble_eq_true rfl) dX8_worstOf_17 rfl (fun hp3 => ?_)
      have hOq2 : OK q2.2 := hp3
      refine mx_istore (pc := 20) C dX8_worstOf_20 (ls' := [some (aR 127), some (aI x1), some (aI x2), some (aI x3), some (aI q2.1)]) (by decide) rfl rfl ?_
      refine mx_iload_n (pc := 22) C dX8_worstOf_22 rfl ?_
      refine mx_if_lt (pc := 23) (tgt := 35) C dX8_worstOf_23 rfl (fun c4 => ?_) (fun c4 => ?_)
      · rw [if_pos c4] at h
        refine mx_mask [true, false, false, true, true] (ls' := [some (aR 127), none, none, some (aI x3), some (aI q2.1)]) rfl rfl ?_
        exact b_X8_worstOf_35 C ih x3 q2.1 q2.2 hOq2 h
      · rw [if_neg c4] at h
        refine mx_iload (pc := 26) C dX8_worstOf_26 rfl ?_
        refine mx_iload_n (pc := 28) C dX8_worstOf_28 rfl ?_
        refine mx_icmp_lt (pc := 29) (tgt := 35) C dX8_worstOf_29 rfl (fun c5 => ?_) (fun c5 => ?_)
        · rw [if_pos c5] at h
          refine mx_mask [true, false, false, true, true] (ls' := [some (aR 127), none, none, some (aI x3), some (aI q2.1)]) rfl rfl ?_
          exact b_X8_worstOf_35 C ih x3 q2.1 q2.2 hOq2 h
        · rw [if_neg c5] at h
          refine mx_goto (pc := 32) (tgt := 40) C dX8_worstOf_32 rfl ?_
          refine mx_mask [true, true, true, true, false] (ls' := [some (aR 127), some (aI x1), some (aI x2), some (aI x3), none]) rfl rfl ?_
          exact b_X8_worstOf_40 C ih x1 x2 x3 q2.2 hOq2 h
set_option maxRecDepth 20000 in
set_option maxHeartbeats 4000000 in
theorem m_X8_worstOf {M : Mem} {res : Int × Mem} (hOM : OK M) (h : f_X8_worstOf M = some res) : Mth false yX8_worstOf cX8_worstOf 5 (some .int) 8 0 0 SH [aR 127] M (some (aI res.1)) SH res.2 (OK res.2) := by
  refine Mth.of (by decide +kernel) (Nat.le_of_ble_eq_true rfl) (fun K B C => ?_)
  show Wx K B _ 0 0 SH 5 M 0 [some (aR 127), none, none, none, none] []
  unfold f_X8_worstOf at h
  refine mx_bipush (pc := 0) C dX8_worstOf_0 (z := (-5)) rfl (by constructor <;> decide) ?_
  refine mx_istore_n (pc := 2) C dX8_worstOf_2 (ls' := [some (aR 127), some (aI (-5)), none, none, none]) (by decide) rfl rfl ?_
  refine mx_iconst (pc := 3) C dX8_worstOf_3 (z := 0) rfl (by constructor <;> decide) ?_
  refine mx_istore_n (pc := 4) C dX8_worstOf_4 (ls' := [some (aR 127), some (aI (-5)), some (aI 0), none, none]) (by decide) rfl rfl ?_
  refine mx_iconst (pc := 5) C dX8_worstOf_5 (z := 0) rfl (by constructor <;> decide) ?_
  refine mx_istore_n (pc := 6) C dX8_worstOf_6 (ls' := [some (aR 127), some (aI (-5)), some (aI 0), some (aI 0), none]) (by decide) rfl rfl ?_
  exact b_X8_worstOf_7 C FU (-5) 0 0 M hOM h

def f_X8_best (p1 : Int) (M : Mem) : Option (Int × Mem) :=
  if p1 = 0 then (f_X8_changeOf M).bind (fun q5 => some (q5.1, q5.2)) else if p1 = 1 then (f_X8_worstOf M).bind (fun q3 => some (q3.1, q3.2)) else some ((-1), M)
set_option maxRecDepth 20000 in
set_option maxHeartbeats 4000000 in
theorem m_X8_best {p1 : Int} {M : Mem} {res : Int × Mem} (hOM : OK M) (h : f_X8_best p1 M = some res) : Mth false yX8_best cX8_best 2 (some .int) 9 0 0 SH [aR 127, aI p1] M (some (aI res.1)) SH res.2 (OK res.2) := by
  refine Mth.of (by decide +kernel) (Nat.le_of_ble_eq_true rfl) (fun K B C => ?_)
  show Wx K B _ 0 0 SH 2 M 0 [some (aR 127), some (aI p1)] []
  unfold f_X8_best at h
  refine mx_iload_n (pc := 0) C dX8_best_0 rfl ?_
  refine mx_if_ne (pc := 1) (tgt := 11) C dX8_best_1 rfl (fun c1 => ?_) (fun c1 => ?_)
  · rw [if_neg c1] at h
    refine mx_iload_n (pc := 11) C dX8_best_11 rfl ?_
    refine mx_iconst (pc := 12) C dX8_best_12 (z := 1) rfl (by constructor <;> decide) ?_
    refine mx_icmp_ne (pc := 13) (tgt := 23) C dX8_best_13 rfl (fun c2 => ?_) (fun c2 => ?_)
    · rw [if_neg c2] at h
      refine mx_iconst (pc := 23) C dX8_best_23 (z := (-1)) rfl (by constructor <;> decide) ?_
      rw [← Option.some.inj h]
      exact mx_ireturn (pc := 24) C dX8_best_24 hOM ⟨Nat.le_refl _, Nat.le_refl _⟩
    · rw [if_pos c2] at h
      refine mx_aload_n (pc := 16) C dX8_best_16 rfl ?_
      obtain ⟨q3, hq3, h⟩ := of_bd h
      refine mc_V (pc := 17) (as := []) (rest := []) (stk2 := [aI q3.1]) C ⟨Nat.le_refl _, Nat.le_refl _⟩ (m_X8_worstOf hOM hq3) mi_X8_worstOf mv_X8_worstOf ml_X8_382 ci_8 rfl so_8 (by omega) rfl (Nat.le_of_ble_eq_true rfl) dX8_best_17 rfl (fun hp4 => ?_)
      have hOq3 : OK q3.2 := hp4
      refine mx_goto (pc := 20) (tgt := 24) C dX8_best_20 rfl ?_
      rw [← Option.some.inj h]
      exact mx_ireturn (pc := 24) C dX8_best_24 hOq3 ⟨Nat.le_refl _, Nat.le_refl _⟩
  · rw [if_pos c1] at h
    refine mx_aload_n (pc := 4) C dX8_best_4 rfl ?_
    obtain ⟨q5, hq5, h⟩ := of_bd h
    refine mc_V (pc := 5) (as := []) (rest := []) (stk2 := [aI q5.1]) C ⟨Nat.le_refl _, Nat.le_refl _⟩ (m_X8_changeOf hOM hq5) mi_X8_changeOf mv_X8_changeOf ml_X8_379 ci_8 rfl so_8 (by omega) rfl (Nat.le_of_ble_eq_true rfl) dX8_best_5 rfl (fun hp6 => ?_)
    have hOq5 : OK q5.2 := hp6
    refine mx_goto (pc := 8) (tgt := 24) C dX8_best_8 rfl ?_
    rw [← Option.some.inj h]
    exact mx_ireturn (pc := 24) C dX8_best_24 hOq5 ⟨Nat.le_refl _, Nat.le_refl _⟩

def f_X8_stepOf_8 (p1 : Int) (p2 : Int) (p3 : Int) : Nat → Int → Int → Int → Int → Mem → Option (Int × Mem)
  | 0, _, _, _, _, _ => none
  | n + 1, x1, x2, x4, x5, M => if x2 ≤ x5 then if x4 = 0 then none else some (Int.tmod (w32 (Int.tdiv x1 x4)) 30, M) else f_X8_stepOf_8 p1 p2 p3 n x1 x2 (w32 (x4 * 30)) (w32 (x5 + 1)) M
def f_X8_stepOf (p1 : Int) (p2 : Int) (p3 : Int) (M : Mem) : Option (Int × Mem) :=
  f_X8_stepOf_8 p1 p2 p3 FU p1 p2 1 (w32 (p3 + 1)) M
set_option maxRecDepth 20000 in
set_option maxHeartbeats 4000000 in
theorem b_X8_stepOf_8 {K : KX} {B : BX} {res : Int × Mem} {p1 : Int} {p2 : Int} {p3 : Int} (C : Cx K B false yX8_stepOf cX8_stepOf 6 (some .int) 1 0 0) : ∀ (n : Nat) (x1 : Int) (x2 : Int) (x4 : Int) (x5 : Int) (M : Mem), OK M → f_X8_stepOf_8 p1 p2 p3 n x1 x2 x4 x5 M = some res → Wx K B (Zr K B (some (aI res.1)) SH res.2 (OK res.2) 0 0) 0 0 SH 6 M 8 [none, some (aI x1), some (aI x2), none, some (aI x4), some (aI x5)] [] := by
  intro n
  induction n with
  | zero =>
    intro x1 x2 x4 x5 M hOM h
    cases h
  | succ n ih =>
    intro x1 x2 x4 x5 M hOM h
    rw [f_X8_stepOf_8.eq_2] at h
    refine mx_iload (pc := 8) C dX8_stepOf_8 rfl ?_
    refine mx_iload_n (pc := 10) C dX8_stepOf_10 rfl ?_
    refine mx_icmp_ge (pc := 11) (tgt := 27) C dX8_stepOf_11 rfl (fun c1 => ?_) (fun c1 => ?_)
    · rw [if_pos c1] at h
      refine mx_iload_n (pc := 27) C dX8_stepOf_27 rfl ?_
      refine mx_iload (pc := 28) C dX8_stepOf_28 rfl ?_
      obtain ⟨g2, h⟩ := of_nz h
      refine mx_idiv (pc := 30) C dX8_stepOf_30 g2 ?_
      refine mx_bipush (pc := 31) C dX8_stepOf_31 (z := 30) rfl (by constructor <;> decide) ?_
      refine mx_irem (pc := 33) C dX8_stepOf_33 (by decide) ?_
      rw [← Option.some.inj h]
      exact mx_ireturn (pc := 34) C dX8_stepOf_34 hOM ⟨Nat.le_refl _, Nat.le_refl _⟩
    · rw [if_neg c1] at h
      refine mx_iload (pc := 14) C dX8_stepOf_14 rfl ?_
      refine mx_bipush (pc := 16) C dX8_stepOf_16 (z := 30) rfl (by constructor <;> decide) ?_
      refine mx_imul (pc := 18) C dX8_stepOf_18  ?_
      refine mx_istore (pc := 19) C dX8_stepOf_19 (ls' := [none, some (aI x1), some (aI x2), none, some (aI (w32 (x4 * 30))), some (aI x5)]) (by decide) rfl rfl ?_
      refine mx_iinc (pc := 21) C dX8_stepOf_21 (ls' := [none, some (aI x1), some (aI x2), none, some (aI (w32 (x4 * 30))), some (aI (w32 (x5 + 1)))]) rfl (by decide) rfl (by constructor <;> decide) rfl rfl ?_
      refine mx_goto (pc := 24) (tgt := 8) C dX8_stepOf_24 rfl ?_
      exact ih x1 x2 (w32 (x4 * 30)) (w32 (x5 + 1)) M hOM h
set_option maxRecDepth 20000 in
set_option maxHeartbeats 4000000 in
theorem m_X8_stepOf {p1 : Int} {p2 : Int} {p3 : Int} {M : Mem} {res : Int × Mem} (hOM : OK M) (h : f_X8_stepOf p1 p2 p3 M = some res) : Mth false yX8_stepOf cX8_stepOf 6 (some .int) 1 0 0 SH [aR 127, aI p1, aI p2, aI p3] M (some (aI res.1)) SH res.2 (OK res.2) := by
  refine Mth.of (by decide +kernel) (Nat.le_of_ble_eq_true rfl) (fun K B C => ?_)
  show Wx K B _ 0 0 SH 6 M 0 [some (aR 127), some (aI p1), some (aI p2), some (aI p3), none, none] []
  unfold f_X8_stepOf at h
  refine mx_iconst (pc := 0) C dX8_stepOf_0 (z := 1) rfl (by constructor <;> decide) ?_
  refine mx_istore (pc := 1) C dX8_stepOf_1 (ls' := [some (aR 127), some (aI p1), some (aI p2), some (aI p3), some (aI 1), none]) (by decide) rfl rfl ?_
  refine mx_iload_n (pc := 3) C dX8_stepOf_3 rfl ?_
  refine mx_iconst (pc := 4) C dX8_stepOf_4 (z := 1) rfl (by constructor <;> decide) ?_
  refine mx_iadd (pc := 5) C dX8_stepOf_5  ?_
  refine mx_istore (pc := 6) C dX8_stepOf_6 (ls' := [some (aR 127), some (aI p1), some (aI p2), some (aI p3), some (aI 1), some (aI (w32 (p3 + 1)))]) (by decide) rfl rfl ?_
  refine mx_mask [false, true, true, false, true, true] (ls' := [none, some (aI p1), some (aI p2), none, some (aI 1), some (aI (w32 (p3 + 1)))]) rfl rfl ?_
  exact b_X8_stepOf_8 C FU p1 p2 1 (w32 (p3 + 1)) M hOM h

def f_X8_isStillBy_97 (p1 : Int) (p2 : Int) (k9 : Int → Int → Int → Int → Mem → Option (Int × Mem)) (x1 : Int) (x2 : Int) (x3 : Int) (x4 : Int) (M : Mem) : Option (Int × Mem) :=
  k9 x1 x2 x3 (w32 (x4 + 1)) M
def f_X8_isStillBy_83 (p1 : Int) (p2 : Int) (k9 : Int → Int → Int → Int → Mem → Option (Int × Mem)) (x1 : Int) (x2 : Int) (x4 : Int) (x5 : Int) (x6 : Int) (t0 : Int) (M : Mem) : Option (Int × Mem) :=
  if t0 = 0 then f_X8_isStillBy_97 p1 p2 k9 x1 x2 t0 x4 M else if 0 ≤ x5 ∧ x5 < 6 then lt (stM M 131 x5 x6) (fun M3 => f_X8_isStillBy_97 p1 p2 k9 x1 x2 t0 x4 M3) else none
def f_X8_isStillBy_82 (p1 : Int) (p2 : Int) (k9 : Int → Int → Int → Int → Mem → Option (Int × Mem)) (x1 : Int) (x2 : Int) (x4 : Int) (x5 : Int) (x6 : Int) (M : Mem) : Option (Int × Mem) :=
  f_X8_isStillBy_83 p1 p2 k9 x1 x2 x4 x5 x6 0 M
def f_X8_isStillBy_121 (p1 : Int) (p2 : Int) (t0 : Int) (M : Mem) : Option (Int × Mem) :=
  (f_X8_putBack M).bind (fun q1 => if t0 = 0 ∨ t0 = 1 then some (t0, q1.2) else none)
def f_X8_isStillBy_120 (p1 : Int) (p2 : Int) (M : Mem) : Option (Int × Mem) :=
  f_X8_isStillBy_121 p1 p2 0 M
def f_X8_isStillBy_103 (p1 : Int) (p2 : Int) (x3 : Int) (M : Mem) : Option (Int × Mem) :=
  if x3 = 0 then f_X8_isStillBy_120 p1 p2 M else (f_X8_stillSet M).bind (fun q2 => if q2.1 = 31 then f_X8_isStillBy_121 p1 p2 1 q2.2 else f_X8_isStillBy_120 p1 p2 q2.2)
def f_X8_isStillBy_9 (p1 : Int) (p2 : Int) : Nat → Int → Int → Int → Int → Mem → Option (Int × Mem)
  | 0, _, _, _, _, _ => none
  | n + 1, x1, x2, x3, x4, M => if x2 ≤ x4 then f_X8_isStillBy_103 p1 p2 x3 M else if x3 = 0 then f_X8_isStillBy_103 p1 p2 x3 M else (f_X8_stepOf x1 x2 x4 M).bind (fun q3 => (f_X8_stepOf x1 x2 x4 q3.2).bind (fun q5 => (f_X8_isSound (w32 (Int.tdiv q3.1 5)) q5.2).bind (fun q7 => if q7.1 = 0 then f_X8_isStillBy_82 p1 p2 (f_X8_isStillBy_9 p1 p2 n) x1 x2 x4 (w32 (Int.tdiv q3.1 5)) (Int.tmod q5.1 5) q7.2 else (f_X8_isLost (w32 (Int.tdiv q3.1 5)) q7.2).bind (fun q10 => if q10.1 = 0 then if 0 ≤ w32 (Int.tdiv q3.1 5) ∧ w32 (Int.tdiv q3.1 5) < 6 then (f_X8_farOf (q10.2 131 (w32 (Int.tdiv q3.1 5))) (Int.tmod q5.1 5) q10.2).bind (fun q14 => if q14.1 = 1 then f_X8_isStillBy_83 p1 p2 (f_X8_isStillBy_9 p1 p2 n) x1 x2 x4 (w32 (Int.tdiv q3.1 5)) (Int.tmod q5.1 5) 1 q14.2 else f_X8_isStillBy_82 p1 p2 (f_X8_isStillBy_9 p1 p2 n) x1 x2 x4 (w32 (Int.tdiv q3.1 5)) (Int.tmod q5.1 5) q14.2) else none else f_X8_isStillBy_82 p1 p2 (f_X8_isStillBy_9 p1 p2 n) x1 x2 x4 (w32 (Int.tdiv q3.1 5)) (Int.tmod q5.1 5) q10.2))))
def f_X8_isStillBy (p1 : Int) (p2 : Int) (M : Mem) : Option (Int × Mem) :=
  (f_X8_save M).bind (fun q1 => f_X8_isStillBy_9 p1 p2 FU p1 p2 1 0 q1.2)
set_option maxRecDepth 20000 in
set_option maxHeartbeats 4000000 in
theorem b_X8_isStillBy_97 {K : KX} {B : BX} {res : Int × Mem} {p1 : Int} {p2 : Int} {k9 : Int → Int → Int → Int → Mem → Option (Int × Mem)} (C : Cx K B false yX8_isStillBy cX8_isStillBy 7 (some .boolean) 7 0 0) (hk9 : ∀ (x1 : Int) (x2 : Int) (x3 : Int) (x4 : Int) (M : Mem), OK M → k9 x1 x2 x3 x4 M = some res → Wx K B (Zr K B (some (aI res.1)) SH res.2 (OK res.2 ∧ (res.1 = 0 ∨ res.1 = 1)) 0 0) 0 0 SH 7 M 9 [some (aR 127), some (aI x1), some (aI x2), some (aI x3), some (aI x4), none, none] []) : ∀ (x1 : Int) (x2 : Int) (x3 : Int) (x4 : Int) (M : Mem), OK M → f_X8_isStillBy_97 p1 p2 k9 x1 x2 x3 x4 M = some res → Wx K B (Zr K B (some (aI res.1)) SH res.2 (OK res.2 ∧ (res.1 = 0 ∨ res.1 = 1)) 0 0) 0 0 SH 7 M 97 [some (aR 127), some (aI x1), some (aI x2), some (aI x3), some (aI x4), none, none] [] := by
  intro x1 x2 x3 x4 M hOM h
  unfold f_X8_isStillBy_97 at h
  refine mx_iinc (pc := 97) C dX8_isStillBy_97 (ls' := [some (aR 127), some (aI x1), some (aI x2), some (aI x3), some (aI (w32 (x4 + 1))), none, none]) rfl (by decide) rfl (by constructor <;> decide) rfl rfl ?_
  refine mx_goto (pc := 100) (tgt := 9) C dX8_isStillBy_100 rfl ?_
  exact hk9 x1 x2 x3 (w32 (x4 + 1)) M hOM h
set_option maxRecDepth 20000 in
set_option maxHeartbeats 4000000 in
theorem b_X8_isStillBy_83 {K : KX} {B : BX} {res : Int × Mem} {p1 : Int} {p2 : Int} {k9 : Int → Int → Int → Int → Mem → Option (Int × Mem)} (C : Cx K B false yX8_isStillBy cX8_isStillBy 7 (some .boolean) 7 0 0) (hk9 : ∀ (x1 : Int) (x2 : Int) (x3 : Int) (x4 : Int) (M : Mem), OK M → k9 x1 x2 x3 x4 M = some res → Wx K B (Zr K B (some (aI res.1)) SH res.2 (OK res.2 ∧ (res.1 = 0 ∨ res.1 = 1)) 0 0) 0 0 SH 7 M 9 [some (aR 127), some (aI x1), some (aI x2), some (aI x3), some (aI x4), none, none] []) : ∀ (x1 : Int) (x2 : Int) (x4 : Int) (x5 : Int) (x6 : Int) (t0 : Int) (M : Mem), OK M → f_X8_isStillBy_83 p1 p2 k9 x1 x2 x4 x5 x6 t0 M = some res → Wx K B (Zr K B (some (aI res.1)) SH res.2 (OK res.2 ∧ (res.1 = 0 ∨ res.1 = 1)) 0 0) 0 0 SH 7 M 83 [some (aR 127), some (aI x1), some (aI x2), none, some (aI x4), some (aI x5), some (aI x6)] [aI t0] := by
  intro x1 x2 x4 x5 x6 t0 M hOM h
  unfold f_X8_isStillBy_83 at h
  refine mx_istore_n (pc := 83) C dX8_isStillBy_83 (ls' := [some (aR 127), some (aI x1), some (aI x2), some (aI t0), some (aI x4), some (aI x5), some (aI x6)]) (by decide) rfl rfl ?_
  refine mx_iload_n (pc := 84) C dX8_isStillBy_84 rfl ?_
  refine mx_if_eq (pc := 85) (tgt := 97) C dX8_isStillBy_85 rfl (fun c1 => ?_) (fun c1 => ?_)
  · rw [if_pos c1] at h
    refine mx_mask [true, true, true, true, true, false, false] (ls' := [some (aR 127), some (aI x1), some (aI x2), some (aI t0), some (aI x4), none, none]) rfl rfl ?_
    exact b_X8_isStillBy_97 C hk9 x1 x2 t0 x4 M hOM h
  · rw [if_neg c1] at h
    refine mx_aload_n (pc := 88) C dX8_isStillBy_88 rfl ?_
    refine mx_getR (pc := 89) (v := 131) C dX8_isStillBy_89 so_8 ci_8 (k := 5) (by decide) fl_X8_26 rfl (q := 5) rfl (lay_8_5 hOM) (by decide) ?_
    refine mx_iload (pc := 92) C dX8_isStillBy_92 rfl ?_
    refine mx_iload (pc := 94) C dX8_isStillBy_94 rfl ?_
    obtain ⟨g2, h⟩ := of_gd h
    refine mx_iast (pc := 96) C dX8_isStillBy_96 sh_8_5 g2.1 g2.2 ?_
    generalize hmM3 : stM M 131 x5 x6 = M3 at h ⊢
    replace h := lt_e h
    have hOM3 : OK M3 := by rw [← hmM3]; exact ok_arr hOM sh_8_5 (by decide)
    refine mx_mask [true, true, true, true, true, false, false] (ls' := [some (aR 127), some (aI x1), some (aI x2), some (aI t0), some (aI x4), none, none]) rfl rfl ?_
    exact b_X8_isStillBy_97 C hk9 x1 x2 t0 x4 M3 hOM3 h
set_option maxRecDepth 20000 in
set_option maxHeartbeats 4000000 in
theorem b_X8_isStillBy_82 {K : KX} {B : BX} {res : Int × Mem} {p1 : Int} {p2 : Int} {k9 : Int → Int → Int → Int → Mem → Option (Int × Mem)} (C : Cx K B false yX8_isStillBy cX8_isStillBy 7 (some .boolean) 7 0 0) (hk9 : ∀ (x1 : Int) (x2 : Int) (x3 : Int) (x4 : Int) (M : Mem), OK M → k9 x1 x2 x3 x4 M = some res → Wx K B (Zr K B (some (aI res.1)) SH res.2 (OK res.2 ∧ (res.1 = 0 ∨ res.1 = 1)) 0 0) 0 0 SH 7 M 9 [some (aR 127), some (aI x1), some (aI x2), some (aI x3), some (aI x4), none, none] []) : ∀ (x1 : Int) (x2 : Int) (x4 : Int) (x5 : Int) (x6 : Int) (M : Mem), OK M → f_X8_isStillBy_82 p1 p2 k9 x1 x2 x4 x5 x6 M = some res → Wx K B (Zr K B (some (aI res.1)) SH res.2 (OK res.2 ∧ (res.1 = 0 ∨ res.1 = 1)) 0 0) 0 0 SH 7 M 82 [some (aR 127), some (aI x1), some (aI x2), none, some (aI x4), some (aI x5), some (aI x6)] [] := by
  intro x1 x2 x4 x5 x6 M hOM h
  unfold f_X8_isStillBy_82 at h
  refine mx_iconst (pc := 82) C dX8_isStillBy_82 (z := 0) rfl (by constructor <;> decide) ?_
  exact b_X8_isStillBy_83 C hk9 x1 x2 x4 x5 x6 0 M hOM h
set_option maxRecDepth 20000 in
set_option maxHeartbeats 4000000 in
theorem b_X8_isStillBy_121 {K : KX} {B : BX} {res : Int × Mem} {p1 : Int} {p2 : Int} (C : Cx K B false yX8_isStillBy cX8_isStillBy 7 (some .boolean) 7 0 0) : ∀ (t0 : Int) (M : Mem), OK M → f_X8_isStillBy_121 p1 p2 t0 M = some res → Wx K B (Zr K B (some (aI res.1)) SH res.2 (OK res.2 ∧ (res.1 = 0 ∨ res.1 = 1)) 0 0) 0 0 SH 7 M 121 [some (aR 127), none, none, none, none, none, none] [aI t0] := by
  intro t0 M hOM h
  unfold f_X8_isStillBy_121 at h
  refine mx_istore_n (pc := 121) C dX8_isStillBy_121 (ls' := [some (aR 127), none, none, some (aI t0), none, none, none]) (by decide) rfl rfl ?_
  refine mx_aload_n (pc := 122) C dX8_isStillBy_122 rfl ?_
  obtain ⟨q1, hq1, h⟩ := of_bd h
  refine mc_V (pc := 123) (as := []) (rest := []) (stk2 := []) C ⟨Nat.le_refl _, Nat.le_refl _⟩ (m_X8_putBack hOM hq1) mi_X8_putBack mv_X8_putBack ml_X8_356 ci_8 rfl so_8 (by omega) rfl (Nat.le_of_ble_eq_true rfl) dX8_isStillBy_123 rfl (fun hp2 => ?_)
  have hOq1 : OK q1.2 := hp2
  refine mx_iload_n (pc := 126) C dX8_isStillBy_126 rfl ?_
  obtain ⟨g3, h⟩ := of_gd h
  rw [← Option.some.inj h]
  exact mx_zreturn (pc := 127) C dX8_isStillBy_127 g3 ⟨hOq1, g3⟩ ⟨Nat.le_refl _, Nat.le_refl _⟩
set_option maxRecDepth 20000 in
set_option maxHeartbeats 4000000 in
theorem b_X8_isStillBy_120 {K : KX} {B : BX} {res : Int × Mem} {p1 : Int} {p2 : Int} (C : Cx K B false yX8_isStillBy cX8_isStillBy 7 (some .boolean) 7 0 0) : ∀ (M : Mem), OK M → f_X8_isStillBy_120 p1 p2 M = some res → Wx K B (Zr K B (some (aI res.1)) SH res.2 (OK res.2 ∧ (res.1 = 0 ∨ res.1 = 1)) 0 0) 0 0 SH 7 M 120 [some (aR 127), none, none, none, none, none, none] [] := by
  intro M hOM h
  unfold f_X8_isStillBy_120 at h
  refine mx_iconst (pc := 120) C dX8_isStillBy_120 (z := 0) rfl (by constructor <;> decide) ?_
  exact b_X8_isStillBy_121 C 0 M hOM h
set_option maxRecDepth 20000 in
set_option maxHeartbeats 4000000 in
theorem b_X8_isStillBy_103 {K : KX} {B : BX} {res : Int × Mem} {p1 : Int} {p2 : Int} (C : Cx K B false yX8_isStillBy cX8_isStillBy 7 (some .boolean) 7 0 0) : ∀ (x3 : Int) (M : Mem), OK M → f_X8_isStillBy_103 p1 p2 x3 M = some res → Wx K B (Zr K B (some (aI res.1)) SH res.2 (OK res.2 ∧ (res.1 = 0 ∨ res.1 = 1)) 0 0) 0 0 SH 7 M 103 [some (aR 127), none, none, some (aI x3), none, none, none] [] := by
  intro x3 M hOM h
  unfold f_X8_isStillBy_103 at h
  refine mx_iload_n (pc := 103) C dX8_isStillBy_103 rfl ?_
  refine mx_if_eq (pc := 104) (tgt := 120) C dX8_isStillBy_104 rfl (fun c1 => ?_) (fun c1 => ?_)
  · rw [if_pos c1] at h
    refine mx_mask [true, false, false, false, false, false, false] (ls' := [some (aR 127), none, none, none, none, none, none]) rfl rfl ?_
    exact b_X8_isStillBy_120 C M hOM h
  · rw [if_neg c1] at h
    refine mx_aload_n (pc := 107) C dX8_isStillBy_107 rfl ?_
    obtain ⟨q2, hq2, h⟩ := of_bd h
    refine mc_V (pc := 108) (as := []) (rest := []) (stk2 := [aI q2.1]) C ⟨Nat.le_refl _, Nat.le_refl _⟩ (m_X8_stillSet hOM hq2) mi_X8_stillSet mv_X8_stillSet ml_X8_341 ci_8 rfl so_8 (by omega) rfl (Nat.le_of_ble_eq_true rfl) dX8_isStillBy_108 rfl (fun hp3 => ?_)
    have hOq2 : OK q2.2 := hp3
    refine mx_bipush (pc := 111) C dX8_isStillBy_111 (z := 31) rfl (by constructor <;> decide) ?_
    refine mx_icmp_ne (pc := 113) (tgt := 120) C dX8_isStillBy_113 rfl (fun c4 => ?_) (fun c4 => ?_)
    · rw [if_neg c4] at h
      refine mx_mask [true, false, false, false, false, false, false] (ls' := [some (aR 127), none, none, none, none, none, none]) rfl rfl ?_
      exact b_X8_isStillBy_120 C q2.2 hOq2 h
    · rw [if_pos c4] at h
      refine mx_iconst (pc := 116) C dX8_isStillBy_116 (z := 1) rfl (by constructor <;> decide) ?_
      refine mx_goto (pc := 117) (tgt := 121) C dX8_isStillBy_117 rfl ?_
      refine mx_mask [true, false, false, false, false, false, false] (ls' := [some (aR 127), none, none, none, none, none, none]) rfl rfl ?_
      exact b_X8_isStillBy_121 C 1 q2.2 hOq2 h
set_option maxRecDepth 20000 in
set_option maxHeartbeats 4000000 in
theorem b_X8_isStillBy_9 {K : KX} {B : BX} {res : Int × Mem} {p1 : Int} {p2 : Int} (C : Cx K B false yX8_isStillBy cX8_isStillBy 7 (some .boolean) 7 0 0) : ∀ (n : Nat) (x1 : Int) (x2 : Int) (x3 : Int) (x4 : Int) (M : Mem), OK M → f_X8_isStillBy_9 p1 p2 n x1 x2 x3 x4 M = some res → Wx K B (Zr K B (some (aI res.1)) SH res.2 (OK res.2 ∧ (res.1 = 0 ∨ res.1 = 1)) 0 0) 0 0 SH 7 M 9 [some (aR 127), some (aI x1), some (aI x2), some (aI x3), some (aI x4), none, none] [] := by
  intro n
  induction n with
  | zero =>
    intro x1 x2 x3 x4 M hOM h
    cases h
  | succ n ih =>
    intro x1 x2 x3 x4 M hOM h
    rw [f_X8_isStillBy_9.eq_2] at h
    refine mx_iload (pc := 9) C dX8_isStillBy_9 rfl ?_
    refine mx_iload_n (pc := 11) C dX8_isStillBy_11 rfl ?_
    refine mx_icmp_ge (pc := 12) (tgt := 103) C dX8_isStillBy_12 rfl (fun c1 => ?_) (fun c1 => ?_)
    · rw [if_pos c1] at h
      refine mx_mask [true, false, false, true, false, false, false] (ls' := [some (aR 127), none, none, some (aI x3), none, none, none]) rfl rfl ?_
      exact b_X8_isStillBy_103 C x3 M hOM h
    · rw [if_neg c1] at h
      refine mx_iload_n (pc := 15) C dX8_isStillBy_15 rfl ?_
      refine mx_if_eq (pc := 16) (tgt := 103) C dX8_isStillBy_16 rfl (fun c2 => ?_) (fun c2 => ?_)
      · rw [if_pos c2] at h
        refine mx_mask [true, false, false, true, false, false, false] (ls' := [some (aR 127), none, none, some (aI x3), none, none, none]) rfl rfl ?_
        exact b_X8_isStillBy_103 C x3 M hOM h
      · rw [if_neg c2] at h
        refine mx_aload_n (pc := 19) C dX8_isStillBy_19 rfl ?_
        refine mx_iload_n (pc := 20) C dX8_isStillBy_20 rfl ?_
        refine mx_iload_n (pc := 21) C dX8_isStillBy_21 rfl ?_
        refine mx_iload (pc := 22) C dX8_isStillBy_22 rfl ?_
        obtain ⟨q3, hq3, h⟩ := of_bd h
        refine mc_V (pc := 24) (as := [aI x1, aI x2, aI x4]) (rest := []) (stk2 := [aI q3.1]) C ⟨Nat.le_refl _, Nat.le_refl _⟩ (m_X8_stepOf hOM hq3) mi_X8_stepOf mv_X8_stepOf ml_X8_385 ci_8 rfl so_8 (by omega) rfl (Nat.le_of_ble_eq_true rfl) dX8_isStillBy_24 rfl (fun hp4 => ?_)
        have hOq3 : OK q3.2 := hp4
        refine mx_iconst (pc := 27) C dX8_isStillBy_27 (z := 5) rfl (by constructor <;> decide) ?_
        refine mx_idiv (pc := 28) C dX8_isStillBy_28 (by decide) ?_
        refine mx_istore (pc := 29) C dX8_isStillBy_29 (ls' := [some (aR 127), some (aI x1), some (aI x2), some (aI x3), some (aI x4), some (aI (w32 (Int.tdiv q3.1 5))), none]) (by decide) rfl rfl ?_
        refine mx_aload_n (pc := 31) C dX8_isStillBy_31 rfl ?_
        refine mx_iload_n (pc := 32) C dX8_isStillBy_32 rfl ?_
        refine mx_iload_n (pc := 33) C dX8_isStillBy_33 rfl ?_
        refine mx_iload (pc := 34) C dX8_isStillBy_34 rfl ?_
        obtain ⟨q5, hq5, h⟩ := of_bd h
        refine mc_V (pc := 36) (as := [aI x1, aI x2, aI x4]) (rest := []) (stk2 := [aI q5.1]) C ⟨Nat.le_refl _, Nat.le_refl _⟩ (m_X8_stepOf hOq3 hq5) mi_X8_stepOf mv_X8_stepOf ml_X8_385 ci_8 rfl so_8 (by omega) rfl (Nat.le_of_ble_eq_true rfl) dX8_isStillBy_36 rfl (fun hp6 => ?_)
        have hOq5 : OK q5.2 := hp6
        refine mx_iconst (pc := 39) C dX8_isStillBy_39 (z := 5) rfl (by constructor <;> decide) ?_
        refine mx_irem (pc := 40) C dX8_isStillBy_40 (by decide) ?_
        refine mx_istore (pc := 41) C dX8_isStillBy_41 (ls' := [some (aR 127), some (aI x1), some (aI x2), some (aI x3), some (aI x4), some (aI (w32 (Int.tdiv q3.1 5))), some (aI (Int.tmod q5.1 5))]) (by decide) rfl rfl ?_
        refine mx_aload_n (pc := 43) C dX8_isStillBy_43 rfl ?_
        refine mx_iload (pc := 44) C dX8_isStillBy_44 rfl ?_
        obtain ⟨q7, hq7, h⟩ := of_bd h
        refine mc_V (pc := 46) (as := [aI (w32 (Int.tdiv q3.1 5))]) (rest := []) (stk2 := [aI q7.1]) C ⟨Nat.le_refl _, Nat.le_refl _⟩ (m_X8_isSound hOq5 hq7) mi_X8_isSound mv_X8_isSound ml_X8_229 ci_8 rfl so_8 (by omega) rfl (Nat.le_of_ble_eq_true rfl) dX8_isStillBy_46 rfl (fun hp8 => ?_)
        have hOq7 : OK q7.2 := hp8.1
        refine mx_if_eq (pc := 49) (tgt := 82) C dX8_isStillBy_49 rfl (fun c9 => ?_) (fun c9 => ?_)
        · rw [if_pos c9] at h
          refine mx_mask [true, true, true, false, true, true, true] (ls' := [some (aR 127), some (aI x1), some (aI x2), none, some (aI x4), some (aI (w32 (Int.tdiv q3.1 5))), some (aI (Int.tmod q5.1 5))]) rfl rfl ?_
          exact b_X8_isStillBy_82 C ih x1 x2 x4 (w32 (Int.tdiv q3.1 5)) (Int.tmod q5.1 5) q7.2 hOq7 h
        · rw [if_neg c9] at h
          refine mx_aload_n (pc := 52) C dX8_isStillBy_52 rfl ?_
          refine mx_iload (pc := 53) C dX8_isStillBy_53 rfl ?_
          obtain ⟨q10, hq10, h⟩ := of_bd h
          refine mc_V (pc := 55) (as := [aI (w32 (Int.tdiv q3.1 5))]) (rest := []) (stk2 := [aI q10.1]) C ⟨Nat.le_refl _, Nat.le_refl _⟩ (m_X8_isLost hOq7 hq10) mi_X8_isLost mv_X8_isLost ml_X8_232 ci_8 rfl so_8 (by omega) rfl (Nat.le_of_ble_eq_true rfl) dX8_isStillBy_55 rfl (fun hp11 => ?_)
          have hOq10 : OK q10.2 := hp11.1
          refine mx_if_ne (pc := 58) (tgt := 82) C dX8_isStillBy_58 rfl (fun c12 => ?_) (fun c12 => ?_)
          · rw [if_neg c12] at h
            refine mx_mask [true, true, true, false, true, true, true] (ls' := [some (aR 127), some (aI x1), some (aI x2), none, some (aI x4), some (aI (w32 (Int.tdiv q3.1 5))), some (aI (Int.tmod q5.1 5))]) rfl rfl ?_
            exact b_X8_isStillBy_82 C ih x1 x2 x4 (w32 (Int.tdiv q3.1 5)) (Int.tmod q5.1 5) q10.2 hOq10 h
          · rw [if_pos c12] at h
            refine mx_aload_n (pc := 61) C dX8_isStillBy_61 rfl ?_
            refine mx_aload_n (pc := 62) C dX8_isStillBy_62 rfl ?_
            refine mx_getR (pc := 63) (v := 131) C dX8_isStillBy_63 so_8 ci_8 (k := 5) (by decide) fl_X8_26 rfl (q := 5) rfl (lay_8_5 hOq10) (by decide) ?_
            refine mx_iload (pc := 66) C dX8_isStillBy_66 rfl ?_
            obtain ⟨g13, h⟩ := of_gd h
            refine mx_iald (pc := 68) C dX8_isStillBy_68 sh_8_5 g13.1 g13.2 ?_
            refine mx_iload (pc := 69) C dX8_isStillBy_69 rfl ?_
            obtain ⟨q14, hq14, h⟩ := of_bd h
            refine mc_V (pc := 71) (as := [aI (q10.2 131 (w32 (Int.tdiv q3.1 5))), aI (Int.tmod q5.1 5)]) (rest := []) (stk2 := [aI q14.1]) C ⟨Nat.le_refl _, Nat.le_refl _⟩ (m_X8_farOf hOq10 hq14) mi_X8_farOf mv_X8_farOf ml_X8_235 ci_8 rfl so_8 (by omega) rfl (Nat.le_of_ble_eq_true rfl) dX8_isStillBy_71 rfl (fun hp15 => ?_)
            have hOq14 : OK q14.2 := hp15
            refine mx_iconst (pc := 74) C dX8_isStillBy_74 (z := 1) rfl (by constructor <;> decide) ?_
            refine mx_icmp_ne (pc := 75) (tgt := 82) C dX8_isStillBy_75 rfl (fun c16 => ?_) (fun c16 => ?_)
            · rw [if_neg c16] at h
              refine mx_mask [true, true, true, false, true, true, true] (ls' := [some (aR 127), some (aI x1), some (aI x2), none, some (aI x4), some (aI (w32 (Int.tdiv q3.1 5))), some (aI (Int.tmod q5.1 5))]) rfl rfl ?_
              exact b_X8_isStillBy_82 C ih x1 x2 x4 (w32 (Int.tdiv q3.1 5)) (Int.tmod q5.1 5) q14.2 hOq14 h
            · rw [if_pos c16] at h
              refine mx_iconst (pc := 78) C dX8_isStillBy_78 (z := 1) rfl (by constructor <;> decide) ?_
              refine mx_goto (pc := 79) (tgt := 83) C dX8_isStillBy_79 rfl ?_
              refine mx_mask [true, true, true, false, true, true, true] (ls' := [some (aR 127), some (aI x1), some (aI x2), none, some (aI x4), some (aI (w32 (Int.tdiv q3.1 5))), some (aI (Int.tmod q5.1 5))]) rfl rfl ?_
              exact b_X8_isStillBy_83 C ih x1 x2 x4 (w32 (Int.tdiv q3.1 5)) (Int.tmod q5.1 5) 1 q14.2 hOq14 h
set_option maxRecDepth 20000 in
set_option maxHeartbeats 4000000 in
theorem m_X8_isStillBy {p1 : Int} {p2 : Int} {M : Mem} {res : Int × Mem} (hOM : OK M) (h : f_X8_isStillBy p1 p2 M = some res) : Mth false yX8_isStillBy cX8_isStillBy 7 (some .boolean) 7 0 0 SH [aR 127, aI p1, aI p2] M (some (aI res.1)) SH res.2 (OK res.2 ∧ (res.1 = 0 ∨ res.1 = 1)) := by
  refine Mth.of (by decide +kernel) (Nat.le_of_ble_eq_true rfl) (fun K B C => ?_)
  show Wx K B _ 0 0 SH 7 M 0 [some (aR 127), some (aI p1), some (aI p2), none, none, none, none] []
  unfold f_X8_isStillBy at h
  refine mx_aload_n (pc := 0) C dX8_isStillBy_0 rfl ?_
  obtain ⟨q1, hq1, h⟩ := of_bd h
  refine mc_V (pc := 1) (as := []) (rest := []) (stk2 := []) C ⟨Nat.le_refl _, Nat.le_refl _⟩ (m_X8_save hOM hq1) mi_X8_save mv_X8_save ml_X8_353 ci_8 rfl so_8 (by omega) rfl (Nat.le_of_ble_eq_true rfl) dX8_isStillBy_1 rfl (fun hp2 => ?_)
  have hOq1 : OK q1.2 := hp2
  refine mx_iconst (pc := 4) C dX8_isStillBy_4 (z := 1) rfl (by constructor <;> decide) ?_
  refine mx_istore_n (pc := 5) C dX8_isStillBy_5 (ls' := [some (aR 127), some (aI p1), some (aI p2), some (aI 1), none, none, none]) (by decide) rfl rfl ?_
  refine mx_iconst (pc := 6) C dX8_isStillBy_6 (z := 0) rfl (by constructor <;> decide) ?_
  refine mx_istore (pc := 7) C dX8_isStillBy_7 (ls' := [some (aR 127), some (aI p1), some (aI p2), some (aI 1), some (aI 0), none, none]) (by decide) rfl rfl ?_
  exact b_X8_isStillBy_9 C FU p1 p2 1 0 q1.2 hOq1 h

def f_X8_fewest_24 (p1 : Int) (k16 : Int → Int → Int → Mem → Option (Int × Mem)) : Nat → Int → Int → Int → Int → Mem → Option (Int × Mem)
  | 0, _, _, _, _, _ => none
  | n + 1, x1, x2, x3, x4, M => if x2 ≤ x4 then k16 x1 (w32 (x2 * 30)) (w32 (x3 + 1)) M else (f_X8_isStillBy x4 x3 M).bind (fun q2 => if q2.1 = 0 then f_X8_fewest_24 p1 k16 n x1 x2 x3 (w32 (x4 + 1)) q2.2 else if 0 ≤ x1 then if x3 ≤ x1 then some ((-5), q2.2) else (f_X8_stepOf x4 x3 x1 q2.2).bind (fun q7 => (f_X8_stepOf x4 x3 x1 q7.2).bind (fun q9 => some (w32 ((w32 (10 * (w32 (Int.tdiv q7.1 5)))) + (Int.tmod q9.1 5)), q9.2))) else some (x3, q2.2))
def f_X8_fewest_16 (p1 : Int) : Nat → Int → Int → Int → Mem → Option (Int × Mem)
  | 0, _, _, _, _ => none
  | n + 1, x1, x2, x3, M => if 4 ≤ x3 then some ((-5), M) else f_X8_fewest_24 p1 (f_X8_fewest_16 p1 n) FU x1 x2 x3 0 M
def f_X8_fewest (p1 : Int) (M : Mem) : Option (Int × Mem) :=
  (f_X8_in p1 (-1) 2 M).bind (fun q1 => if q1.1 = 0 then some ((-1), q1.2) else f_X8_fewest_16 p1 FU p1 1 0 q1.2)
set_option maxRecDepth 20000 in
set_option maxHeartbeats 4000000 in
theorem b_X8_fewest_24 {K : KX} {B : BX} {res : Int × Mem} {p1 : Int} {k16 : Int → Int → Int → Mem → Option (Int × Mem)} (C : Cx K B false yX8_fewest cX8_fewest 5 (some .int) 8 0 0) (hk16 : ∀ (x1 : Int) (x2 : Int) (x3 : Int) (M : Mem), OK M → k16 x1 x2 x3 M = some res → Wx K B (Zr K B (some (aI res.1)) SH res.2 (OK res.2) 0 0) 0 0 SH 5 M 16 [some (aR 127), some (aI x1), some (aI x2), some (aI x3), none] []) : ∀ (n : Nat) (x1 : Int) (x2 : Int) (x3 : Int) (x4 : Int) (M : Mem), OK M → f_X8_fewest_24 p1 k16 n x1 x2 x3 x4 M = some res → Wx K B (Zr K B (some (aI res.1)) SH res.2 (OK res.2) 0 0) 0 0 SH 5 M 24 [some (aR 127), some (aI x1), some (aI x2), some (aI x3), some (aI x4)] [] := by
  intro n
  induction n with
  | zero =>
    intro x1 x2 x3 x4 M hOM h
    cases h
  | succ n ih =>
    intro x1 x2 x3 x4 M hOM h
    rw [f_X8_fewest_24.eq_2] at h
    refine mx_iload (pc := 24) C dX8_fewest_24 rfl ?_
    refine mx_iload_n (pc := 26) C dX8_fewest_26 rfl ?_
    refine mx_icmp_ge (pc := 27) (tgt := 90) C dX8_fewest_27 rfl (fun c1 => ?_) (fun c1 => ?_)
    · rw [if_pos c1] at h
      refine mx_iload_n (pc := 90) C dX8_fewest_90 rfl ?_
      refine mx_bipush (pc := 91) C dX8_fewest_91 (z := 30) rfl (by constructor <;> decide) ?_
      refine mx_imul (pc := 93) C dX8_fewest_93  ?_
      refine mx_istore_n (pc := 94) C dX8_fewest_94 (ls' := [some (aR 127), some (aI x1), some (aI (w32 (x2 * 30))), some (aI x3), some (aI x4)]) (by decide) rfl rfl ?_
      refine mx_iinc (pc := 95) C dX8_fewest_95 (ls' := [some (aR 127), some (aI x1), some (aI (w32 (x2 * 30))), some (aI (w32 (x3 + 1))), some (aI x4)]) rfl (by decide) rfl (by constructor <;> decide) rfl rfl ?_
      refine mx_goto (pc := 98) (tgt := 16) C dX8_fewest_98 rfl ?_
      refine mx_mask [true, true, true, true, false] (ls' := [some (aR 127), some (aI x1), some (aI (w32 (x2 * 30))), some (aI (w32 (x3 + 1))), none]) rfl rfl ?_
      exact hk16 x1 (w32 (x2 * 30)) (w32 (x3 + 1)) M hOM h
    · rw [if_neg c1] at h
      refine mx_aload_n (pc := 30) C dX8_fewest_30 rfl ?_
      refine mx_iload (pc := 31) C dX8_fewest_31 rfl ?_
      refine mx_iload_n (pc := 33) C dX8_fewest_33 rfl ?_
      obtain ⟨q2, hq2, h⟩ := of_bd h
      refine mc_V (pc := 34) (as := [aI x4, aI x3]) (rest := []) (stk2 := [aI q2.1]) C ⟨Nat.le_refl _, Nat.le_refl _⟩ (m_X8_isStillBy hOM hq2) mi_X8_isStillBy mv_X8_isStillBy ml_X8_388 ci_8 rfl so_8 (by omega) rfl (Nat.le_of_ble_eq_true rfl) dX8_fewest_34 rfl (fun hp3 => ?_)
      have hOq2 : OK q2.2 := hp3.1
      refine mx_if_ne (pc := 37) (tgt := 43) C dX8_fewest_37 rfl (fun c4 => ?_) (fun c4 => ?_)
      · rw [if_neg c4] at h
        refine mx_iload_n (pc := 43) C dX8_fewest_43 rfl ?_
        refine mx_if_ge (pc := 44) (tgt := 49) C dX8_fewest_44 rfl (fun c5 => ?_) (fun c5 => ?_)
        · rw [if_pos c5] at h
          refine mx_iload_n (pc := 49) C dX8_fewest_49 rfl ?_
          refine mx_iload_n (pc := 50) C dX8_fewest_50 rfl ?_
          refine mx_icmp_ge (pc := 51) (tgt := 81) C dX8_fewest_51 rfl (fun c6 => ?_) (fun c6 => ?_)
          · rw [if_pos c6] at h
            refine mx_bipush (pc := 81) C dX8_fewest_81 (z := (-5)) rfl (by constructor <;> decide) ?_
            rw [← Option.some.inj h]
            exact mx_ireturn (pc := 83) C dX8_fewest_83 hOq2 ⟨Nat.le_refl _, Nat.le_refl _⟩
          · rw [if_neg c6] at h
            refine mx_bipush (pc := 54) C dX8_fewest_54 (z := 10) rfl (by constructor <;> decide) ?_
            refine mx_aload_n (pc := 56) C dX8_fewest_56 rfl ?_
            refine mx_iload (pc := 57) C dX8_fewest_57 rfl ?_
            refine mx_iload_n (pc := 59) C dX8_fewest_59 rfl ?_
            refine mx_iload_n (pc := 60) C dX8_fewest_60 rfl ?_
            obtain ⟨q7, hq7, h⟩ := of_bd h
            refine mc_V (pc := 61) (as := [aI x4, aI x3, aI x1]) (rest := [aI 10]) (stk2 := [aI q7.1, aI 10]) C ⟨Nat.le_refl _, Nat.le_refl _⟩ (m_X8_stepOf hOq2 hq7) mi_X8_stepOf mv_X8_stepOf ml_X8_385 ci_8 rfl so_8 (by omega) rfl (Nat.le_of_ble_eq_true rfl) dX8_fewest_61 rfl (fun hp8 => ?_)
            have hOq7 : OK q7.2 := hp8
            refine mx_iconst (pc := 64) C dX8_fewest_64 (z := 5) rfl (by constructor <;> decide) ?_
            refine mx_idiv (pc := 65) C dX8_fewest_65 (by decide) ?_
            refine mx_imul (pc := 66) C dX8_fewest_66  ?_
            refine mx_aload_n (pc := 67) C dX8_fewest_67 rfl ?_
            refine mx_iload (pc := 68) C dX8_fewest_68 rfl ?_
            refine mx_iload_n (pc := 70) C dX8_fewest_70 rfl ?_
            refine mx_iload_n (pc := 71) C dX8_fewest_71 rfl ?_
            obtain ⟨q9, hq9, h⟩ := of_bd h
            refine mc_V (pc := 72) (as := [aI x4, aI x3, aI x1]) (rest := [aI (w32 (10 * (w32 (Int.tdiv q7.1 5))))]) (stk2 := [aI q9.1, aI (w32 (10 * (w32 (Int.tdiv q7.1 5))))]) C ⟨Nat.le_refl _, Nat.le_refl _⟩ (m_X8_stepOf hOq7 hq9) mi_X8_stepOf mv_X8_stepOf ml_X8_385 ci_8 rfl so_8 (by omega) rfl (Nat.le_of_ble_eq_true rfl) dX8_fewest_72 rfl (fun hp10 => ?_)
            have hOq9 : OK q9.2 := hp10
            refine mx_iconst (pc := 75) C dX8_fewest_75 (z := 5) rfl (by constructor <;> decide) ?_
            refine mx_irem (pc := 76) C dX8_fewest_76 (by decide) ?_
            refine mx_iadd (pc := 77) C dX8_fewest_77  ?_
            refine mx_goto (pc := 78) (tgt := 83) C dX8_fewest_78 rfl ?_
            rw [← Option.some.inj h]
            exact mx_ireturn (pc := 83) C dX8_fewest_83 hOq9 ⟨Nat.le_refl _, Nat.le_refl _⟩
        · rw [if_neg c5] at h
          refine mx_iload_n (pc := 47) C dX8_fewest_47 rfl ?_
          rw [← Option.some.inj h]
          exact mx_ireturn (pc := 48) C dX8_fewest_48 hOq2 ⟨Nat.le_refl _, Nat.le_refl _⟩
      · rw [if_pos c4] at h
        refine mx_goto (pc := 40) (tgt := 84) C dX8_fewest_40 rfl ?_
        refine mx_iinc (pc := 84) C dX8_fewest_84 (ls' := [some (aR 127), some (aI x1), some (aI x2), some (aI x3), some (aI (w32 (x4 + 1)))]) rfl (by decide) rfl (by constructor <;> decide) rfl rfl ?_
        refine mx_goto (pc := 87) (tgt := 24) C dX8_fewest_87 rfl ?_
        exact ih x1 x2 x3 (w32 (x4 + 1)) q2.2 hOq2 h
set_option maxRecDepth 20000 in
set_option maxHeartbeats 4000000 in
theorem b_X8_fewest_16 {K : KX} {B : BX} {res : Int × Mem} {p1 : Int} (C : Cx K B false yX8_fewest cX8_fewest 5 (some .int) 8 0 0) : ∀ (n : Nat) (x1 : Int) (x2 : Int) (x3 : Int) (M : Mem), OK M → f_X8_fewest_16 p1 n x1 x2 x3 M = some res → Wx K B (Zr K B (some (aI res.1)) SH res.2 (OK res.2) 0 0) 0 0 SH 5 M 16 [some (aR 127), some (aI x1), some (aI x2), some (aI x3), none] [] := by
  intro n
  induction n with
  | zero =>
    intro x1 x2 x3 M hOM h
    cases h
  | succ n ih =>
    intro x1 x2 x3 M hOM h
    rw [f_X8_fewest_16.eq_2] at h
    refine mx_iload_n (pc := 16) C dX8_fewest_16 rfl ?_
    refine mx_iconst (pc := 17) C dX8_fewest_17 (z := 4) rfl (by constructor <;> decide) ?_
    refine mx_icmp_ge (pc := 18) (tgt := 101) C dX8_fewest_18 rfl (fun c1 => ?_) (fun c1 => ?_)
    · rw [if_pos c1] at h
      refine mx_bipush (pc := 101) C dX8_fewest_101 (z := (-5)) rfl (by constructor <;> decide) ?_
      rw [← Option.some.inj h]
      exact mx_ireturn (pc := 103) C dX8_fewest_103 hOM ⟨Nat.le_refl _, Nat.le_refl _⟩
    · rw [if_neg c1] at h
      refine mx_iconst (pc := 21) C dX8_fewest_21 (z := 0) rfl (by constructor <;> decide) ?_
      refine mx_istore (pc := 22) C dX8_fewest_22 (ls' := [some (aR 127), some (aI x1), some (aI x2), some (aI x3), some (aI 0)]) (by decide) rfl rfl ?_
      exact b_X8_fewest_24 C ih FU x1 x2 x3 0 M hOM h
set_option maxRecDepth 20000 in
set_option maxHeartbeats 4000000 in
theorem m_X8_fewest {p1 : Int} {M : Mem} {res : Int × Mem} (hOM : OK M) (h : f_X8_fewest p1 M = some res) : Mth false yX8_fewest cX8_fewest 5 (some .int) 8 0 0 SH [aR 127, aI p1] M (some (aI res.1)) SH res.2 (OK res.2) := by
  refine Mth.of (by decide +kernel) (Nat.le_of_ble_eq_true rfl) (fun K B C => ?_)
  show Wx K B _ 0 0 SH 5 M 0 [some (aR 127), some (aI p1), none, none, none] []
  unfold f_X8_fewest at h
  refine mx_aload_n (pc := 0) C dX8_fewest_0 rfl ?_
  refine mx_iload_n (pc := 1) C dX8_fewest_1 rfl ?_
  refine mx_iconst (pc := 2) C dX8_fewest_2 (z := (-1)) rfl (by constructor <;> decide) ?_
  refine mx_iconst (pc := 3) C dX8_fewest_3 (z := 2) rfl (by constructor <;> decide) ?_
  obtain ⟨q1, hq1, h⟩ := of_bd h
  refine mc_V (pc := 4) (as := [aI p1, aI (-1), aI 2]) (rest := []) (stk2 := [aI q1.1]) C ⟨Nat.le_refl _, Nat.le_refl _⟩ (m_X8_in hOM hq1) mi_X8_in mv_X8_in ml_X8_218 ci_8 rfl so_8 (by omega) rfl (Nat.le_of_ble_eq_true rfl) dX8_fewest_4 rfl (fun hp2 => ?_)
  have hOq1 : OK q1.2 := hp2.1
  refine mx_if_ne (pc := 7) (tgt := 12) C dX8_fewest_7 rfl (fun c3 => ?_) (fun c3 => ?_)
  · rw [if_neg c3] at h
    refine mx_iconst (pc := 12) C dX8_fewest_12 (z := 1) rfl (by constructor <;> decide) ?_
    refine mx_istore_n (pc := 13) C dX8_fewest_13 (ls' := [some (aR 127), some (aI p1), some (aI 1), none, none]) (by decide) rfl rfl ?_
    refine mx_iconst (pc := 14) C dX8_fewest_14 (z := 0) rfl (by constructor <;> decide) ?_
    refine mx_istore_n (pc := 15) C dX8_fewest_15 (ls' := [some (aR 127), some (aI p1), some (aI 1), some (aI 0), none]) (by decide) rfl rfl ?_
    exact b_X8_fewest_16 C FU p1 1 0 q1.2 hOq1 h
  · rw [if_pos c3] at h
    refine mx_iconst (pc := 10) C dX8_fewest_10 (z := (-1)) rfl (by constructor <;> decide) ?_
    rw [← Option.some.inj h]
    exact mx_ireturn (pc := 11) C dX8_fewest_11 hOq1 ⟨Nat.le_refl _, Nat.le_refl _⟩

def f_X8_see (p1 : Int) (p2 : Int) (p3 : Int) (M : Mem) : Option (Int × Mem) :=
  if p1 = (-1) then lt (stM M 127 33 0) (fun M19 => some (0, M19)) else (f_X8_isHouse p1 M).bind (fun q2 => if q2.1 = 0 then some ((-1), q2.2) else (f_X8_in p2 0 999 q2.2).bind (fun q5 => if q5.1 = 0 then some ((-2), q5.2) else (f_X8_in p3 0 20 q5.2).bind (fun q8 => if q8.1 = 0 then some ((-2), q8.2) else if q8.2 127 33 = 5 then some ((-4), q8.2) else if 0 ≤ q8.2 127 33 ∧ q8.2 127 33 < 5 then lt (stM q8.2 148 (q8.2 127 33) p1) (fun M13 => if 0 ≤ M13 127 33 ∧ M13 127 33 < 5 then lt (stM M13 149 (M13 127 33) p2) (fun M15 => if 0 ≤ M15 127 33 ∧ M15 127 33 < 5 then lt (stM M15 150 (M15 127 33) p3) (fun M17 => lt (stM M17 127 33 (w32 ((M17 127 33) + 1))) (fun M18 => some (M18 127 33, M18))) else none) else none) else none)))
set_option maxRecDepth 20000 in
set_option maxHeartbeats 4000000 in
theorem m_X8_see {p1 : Int} {p2 : Int} {p3 : Int} {M : Mem} {res : Int × Mem} (hOM : OK M) (h : f_X8_see p1 p2 p3 M = some res) : Mth false yX8_see cX8_see 4 (some .int) 3 0 0 SH [aR 127, aI p1, aI p2, aI p3] M (some (aI res.1)) SH res.2 (OK res.2) := by
  refine Mth.of (by decide +kernel) (Nat.le_of_ble_eq_true rfl) (fun K B C => ?_)
  show Wx K B _ 0 0 SH 4 M 0 [some (aR 127), some (aI p1), some (aI p2), some (aI p3)] []
  unfold f_X8_see at h
  refine mx_iload_n (pc := 0) C dX8_see_0 rfl ?_
  refine mx_iconst (pc := 1) C dX8_see_1 (z := (-1)) rfl (by constructor <;> decide) ?_
  refine mx_icmp_ne (pc := 2) (tgt := 12) C dX8_see_2 rfl (fun c1 => ?_) (fun c1 => ?_)
  · rw [if_neg c1] at h
    refine mx_aload_n (pc := 12) C dX8_see_12 rfl ?_
    refine mx_iload_n (pc := 13) C dX8_see_13 rfl ?_
    obtain ⟨q2, hq2, h⟩ := of_bd h
    refine mc_V (pc := 14) (as := [aI p1]) (rest := []) (stk2 := [aI q2.1]) C ⟨Nat.le_refl _, Nat.le_refl _⟩ (m_X8_isHouse hOM hq2) mi_X8_isHouse mv_X8_isHouse ml_X8_222 ci_8 rfl so_8 (by omega) rfl (Nat.le_of_ble_eq_true rfl) dX8_see_14 rfl (fun hp3 => ?_)
    have hOq2 : OK q2.2 := hp3.1
    refine mx_if_ne (pc := 17) (tgt := 22) C dX8_see_17 rfl (fun c4 => ?_) (fun c4 => ?_)
    · rw [if_neg c4] at h
      refine mx_aload_n (pc := 22) C dX8_see_22 rfl ?_
      refine mx_iload_n (pc := 23) C dX8_see_23 rfl ?_
      refine mx_iconst (pc := 24) C dX8_see_24 (z := 0) rfl (by constructor <;> decide) ?_
      refine mx_sipush (pc := 25) C dX8_see_25 (z := 999) rfl (by constructor <;> decide) ?_
      obtain ⟨q5, hq5, h⟩ := of_bd h
      refine mc_V (pc := 28) (as := [aI p2, aI 0, aI 999]) (rest := []) (stk2 := [aI q5.1]) C ⟨Nat.le_refl _, Nat.le_refl _⟩ (m_X8_in hOq2 hq5) mi_X8_in mv_X8_in ml_X8_218 ci_8 rfl so_8 (by omega) rfl (Nat.le_of_ble_eq_true rfl) dX8_see_28 rfl (fun hp6 => ?_)
      have hOq5 : OK q5.2 := hp6.1
      refine mx_if_eq (pc := 31) (tgt := 45) C dX8_see_31 rfl (fun c7 => ?_) (fun c7 => ?_)
      · rw [if_pos c7] at h
        refine mx_bipush (pc := 45) C dX8_see_45 (z := (-2)) rfl (by constructor <;> decide) ?_
        rw [← Option.some.inj h]
        exact mx_ireturn (pc := 47) C dX8_see_47 hOq5 ⟨Nat.le_refl _, Nat.le_refl _⟩
      · rw [if_neg c7] at h
        refine mx_aload_n (pc := 34) C dX8_see_34 rfl ?_
        refine mx_iload_n (pc := 35) C dX8_see_35 rfl ?_
        refine mx_iconst (pc := 36) C dX8_see_36 (z := 0) rfl (by constructor <;> decide) ?_
        refine mx_bipush (pc := 37) C dX8_see_37 (z := 20) rfl (by constructor <;> decide) ?_
        obtain ⟨q8, hq8, h⟩ := of_bd h
        refine mc_V (pc := 39) (as := [aI p3, aI 0, aI 20]) (rest := []) (stk2 := [aI q8.1]) C ⟨Nat.le_refl _, Nat.le_refl _⟩ (m_X8_in hOq5 hq8) mi_X8_in mv_X8_in ml_X8_218 ci_8 rfl so_8 (by omega) rfl (Nat.le_of_ble_eq_true rfl) dX8_see_39 rfl (fun hp9 => ?_)
        have hOq8 : OK q8.2 := hp9.1
        refine mx_if_ne (pc := 42) (tgt := 48) C dX8_see_42 rfl (fun c10 => ?_) (fun c10 => ?_)
        · rw [if_neg c10] at h
          refine mx_aload_n (pc := 48) C dX8_see_48 rfl ?_
          refine mx_getI (pc := 49) C dX8_see_49 so_8 ci_8 (k := 33) (by decide) fl_X8_111 rfl (q := 33) rfl ?_
          refine mx_iconst (pc := 52) C dX8_see_52 (z := 5) rfl (by constructor <;> decide) ?_
          refine mx_icmp_ne (pc := 53) (tgt := 59) C dX8_see_53 rfl (fun c11 => ?_) (fun c11 => ?_)
          · rw [if_neg c11] at h
            refine mx_aload_n (pc := 59) C dX8_see_59 rfl ?_
            refine mx_getR (pc := 60) (v := 148) C dX8_see_60 so_8 ci_8 (k := 34) (by decide) fl_X8_114 rfl (q := 34) rfl (lay_8_34 hOq8) (by decide) ?_
            refine mx_aload_n (pc := 63) C dX8_see_63 rfl ?_
            refine mx_getI (pc := 64) C dX8_see_64 so_8 ci_8 (k := 33) (by decide) fl_X8_111 rfl (q := 33) rfl ?_
            refine mx_iload_n (pc := 67) C dX8_see_67 rfl ?_
            obtain ⟨g12, h⟩ := of_gd h
            refine mx_iast (pc := 68) C dX8_see_68 sh_8_34 g12.1 g12.2 ?_
            generalize hmM13 : stM q8.2 148 (q8.2 127 33) p1 = M13 at h ⊢
            replace h := lt_e h
            have hOM13 : OK M13 := by rw [← hmM13]; exact ok_arr hOq8 sh_8_34 (by decide)
            refine mx_aload_n (pc := 69) C dX8_see_69 rfl ?_
            refine mx_getR (pc := 70) (v := 149) C dX8_see_70 so_8 ci_8 (k := 35) (by decide) fl_X8_117 rfl (q := 35) rfl (lay_8_35 hOM13) (by decide) ?_
            refine mx_aload_n (pc := 73) C dX8_see_73 rfl ?_
            refine mx_getI (pc := 74) C dX8_see_74 so_8 ci_8 (k := 33) (by decide) fl_X8_111 rfl (q := 33) rfl ?_
            refine mx_iload_n (pc := 77) C dX8_see_77 rfl ?_
            obtain ⟨g14, h⟩ := of_gd h
            refine mx_iast (pc := 78) C dX8_see_78 sh_8_35 g14.1 g14.2 ?_
            generalize hmM15 : stM M13 149 (M13 127 33) p2 = M15 at h ⊢
            replace h := lt_e h
            have hOM15 : OK M15 := by rw [← hmM15]; exact ok_arr hOM13 sh_8_35 (by decide)
            refine mx_aload_n (pc := 79) C dX8_see_79 rfl ?_
            refine mx_getR (pc := 80) (v := 150) C dX8_see_80 so_8 ci_8 (k := 36) (by decide) fl_X8_120 rfl (q := 36) rfl (lay_8_36 hOM15) (by decide) ?_
            refine mx_aload_n (pc := 83) C dX8_see_83 rfl ?_
            refine mx_getI (pc := 84) C dX8_see_84 so_8 ci_8 (k := 33) (by decide) fl_X8_111 rfl (q := 33) rfl ?_
            refine mx_iload_n (pc := 87) C dX8_see_87 rfl ?_
            obtain ⟨g16, h⟩ := of_gd h
            refine mx_iast (pc := 88) C dX8_see_88 sh_8_36 g16.1 g16.2 ?_
            generalize hmM17 : stM M15 150 (M15 127 33) p3 = M17 at h ⊢
            replace h := lt_e h
            have hOM17 : OK M17 := by rw [← hmM17]; exact ok_arr hOM15 sh_8_36 (by decide)
            refine mx_aload_n (pc := 89) C dX8_see_89 rfl ?_
            refine mx_dup (pc := 90) C dX8_see_90 rfl ?_
            refine mx_getI (pc := 91) C dX8_see_91 so_8 ci_8 (k := 33) (by decide) fl_X8_111 rfl (q := 33) rfl ?_
            refine mx_iconst (pc := 94) C dX8_see_94 (z := 1) rfl (by constructor <;> decide) ?_
            refine mx_iadd (pc := 95) C dX8_see_95  ?_
            refine mx_putI (pc := 96) C dX8_see_96 so_8 ci_8 (k := 33) (by decide) fl_X8_111 (Or.inl rfl) rfl (q := 33) rfl ?_
            generalize hmM18 : stM M17 127 33 (w32 ((M17 127 33) + 1)) = M18 at h ⊢
            replace h := lt_e h
            have hOM18 : OK M18 := by rw [← hmM18]; exact okf_8_33 hOM17
            refine mx_aload_n (pc := 99) C dX8_see_99 rfl ?_
            refine mx_getI (pc := 100) C dX8_see_100 so_8 ci_8 (k := 33) (by decide) fl_X8_111 rfl (q := 33) rfl ?_
            rw [← Option.some.inj h]
            exact mx_ireturn (pc := 103) C dX8_see_103 hOM18 ⟨Nat.le_refl _, Nat.le_refl _⟩
          · rw [if_pos c11] at h
            refine mx_bipush (pc := 56) C dX8_see_56 (z := (-4)) rfl (by constructor <;> decide) ?_
            rw [← Option.some.inj h]
            exact mx_ireturn (pc := 58) C dX8_see_58 hOq8 ⟨Nat.le_refl _, Nat.le_refl _⟩
        · rw [if_pos c10] at h
          refine mx_bipush (pc := 45) C dX8_see_45 (z := (-2)) rfl (by constructor <;> decide) ?_
          rw [← Option.some.inj h]
          exact mx_ireturn (pc := 47) C dX8_see_47 hOq8 ⟨Nat.le_refl _, Nat.le_refl _⟩
    · rw [if_pos c4] at h
      refine mx_iconst (pc := 20) C dX8_see_20 (z := (-1)) rfl (by constructor <;> decide) ?_
      rw [← Option.some.inj h]
      exact mx_ireturn (pc := 21) C dX8_see_21 hOq2 ⟨Nat.le_refl _, Nat.le_refl _⟩
  · rw [if_pos c1] at h
    refine mx_aload_n (pc := 5) C dX8_see_5 rfl ?_
    refine mx_iconst (pc := 6) C dX8_see_6 (z := 0) rfl (by constructor <;> decide) ?_
    refine mx_putI (pc := 7) C dX8_see_7 so_8 ci_8 (k := 33) (by decide) fl_X8_111 (Or.inl rfl) rfl (q := 33) rfl ?_
    generalize hmM19 : stM M 127 33 0 = M19 at h ⊢
    replace h := lt_e h
    have hOM19 : OK M19 := by rw [← hmM19]; exact okf_8_33 hOM
    refine mx_iconst (pc := 10) C dX8_see_10 (z := 0) rfl (by constructor <;> decide) ?_
    rw [← Option.some.inj h]
    exact mx_ireturn (pc := 11) C dX8_see_11 hOM19 ⟨Nat.le_refl _, Nat.le_refl _⟩

def f_X8_isSeen_54 (k4 : Int → Int → Mem → Option (Int × Mem)) (x2 : Int) (t0 : Int) (M : Mem) : Option (Int × Mem) :=
  (f_X8_putBack M).bind (fun q1 => k4 t0 (w32 (x2 + 1)) q1.2)
def f_X8_isSeen_4 : Nat → Int → Int → Mem → Option (Int × Mem)
  | 0, _, _, _ => none
  | n + 1, x1, x2, M => if M 127 33 ≤ x2 then if x1 = 0 ∨ x1 = 1 then some (x1, M) else none else if x1 = 0 then if x1 = 0 ∨ x1 = 1 then some (x1, M) else none else (f_X8_save M).bind (fun q5 => if 0 ≤ x2 ∧ x2 < 5 then (f_X8_goYears (q5.2 150 x2) q5.2).bind (fun q8 => if 0 ≤ x2 ∧ x2 < 5 then (f_X8_noise (q8.2 148 x2) q8.2).bind (fun q11 => if 0 ≤ x2 ∧ x2 < 5 then if q11.1 = q11.2 149 x2 then f_X8_isSeen_54 (f_X8_isSeen_4 n) x2 1 q11.2 else f_X8_isSeen_54 (f_X8_isSeen_4 n) x2 0 q11.2 else none) else none) else none)
def f_X8_isSeen (M : Mem) : Option (Int × Mem) :=
  f_X8_isSeen_4 FU 1 0 M
set_option maxRecDepth 20000 in
set_option maxHeartbeats 4000000 in
theorem b_X8_isSeen_54 {K : KX} {B : BX} {res : Int × Mem} {k4 : Int → Int → Mem → Option (Int × Mem)} (C : Cx K B false yX8_isSeen cX8_isSeen 3 (some .boolean) 7 0 0) (hk4 : ∀ (x1 : Int) (x2 : Int) (M : Mem), OK M → k4 x1 x2 M = some res → Wx K B (Zr K B (some (aI res.1)) SH res.2 (OK res.2 ∧ (res.1 = 0 ∨ res.1 = 1)) 0 0) 0 0 SH 3 M 4 [some (aR 127), some (aI x1), some (aI x2)] []) : ∀ (x2 : Int) (t0 : Int) (M : Mem), OK M → f_X8_isSeen_54 k4 x2 t0 M = some res → Wx K B (Zr K B (some (aI res.1)) SH res.2 (OK res.2 ∧ (res.1 = 0 ∨ res.1 = 1)) 0 0) 0 0 SH 3 M 54 [some (aR 127), none, some (aI x2)] [aI t0] := by
  intro x2 t0 M hOM h
  unfold f_X8_isSeen_54 at h
  refine mx_istore_n (pc := 54) C dX8_isSeen_54 (ls' := [some (aR 127), some (aI t0), some (aI x2)]) (by decide) rfl rfl ?_
  refine mx_aload_n (pc := 55) C dX8_isSeen_55 rfl ?_
  obtain ⟨q1, hq1, h⟩ := of_bd h
  refine mc_V (pc := 56) (as := []) (rest := []) (stk2 := []) C ⟨Nat.le_refl _, Nat.le_refl _⟩ (m_X8_putBack hOM hq1) mi_X8_putBack mv_X8_putBack ml_X8_356 ci_8 rfl so_8 (by omega) rfl (Nat.le_of_ble_eq_true rfl) dX8_isSeen_56 rfl (fun hp2 => ?_)
  have hOq1 : OK q1.2 := hp2
  refine mx_iinc (pc := 59) C dX8_isSeen_59 (ls' := [some (aR 127), some (aI t0), some (aI (w32 (x2 + 1)))]) rfl (by decide) rfl (by constructor <;> decide) rfl rfl ?_
  refine mx_goto (pc := 62) (tgt := 4) C dX8_isSeen_62 rfl ?_
  exact hk4 t0 (w32 (x2 + 1)) q1.2 hOq1 h
set_option maxRecDepth 20000 in
set_option maxHeartbeats 4000000 in
theorem b_X8_isSeen_4 {K : KX} {B : BX} {res : Int × Mem} (C : Cx K B false yX8_isSeen cX8_isSeen 3 (some .boolean) 7 0 0) : ∀ (n : Nat) (x1 : Int) (x2 : Int) (M : Mem), OK M → f_X8_isSeen_4 n x1 x2 M = some res → Wx K B (Zr K B (some (aI res.1)) SH res.2 (OK res.2 ∧ (res.1 = 0 ∨ res.1 = 1)) 0 0) 0 0 SH 3 M 4 [some (aR 127), some (aI x1), some (aI x2)] [] := by
  intro n
  induction n with
  | zero =>
    intro x1 x2 M hOM h
    cases h
  | succ n ih =>
    intro x1 x2 M hOM h
    rw [f_X8_isSeen_4.eq_2] at h
    refine mx_iload_n (pc := 4) C dX8_isSeen_4 rfl ?_
    refine mx_aload_n (pc := 5) C dX8_isSeen_5 rfl ?_
    refine mx_getI (pc := 6) C dX8_isSeen_6 so_8 ci_8 (k := 33) (by decide) fl_X8_111 rfl (q := 33) rfl ?_
    refine mx_icmp_ge (pc := 9) (tgt := 65) C dX8_isSeen_9 rfl (fun c1 => ?_) (fun c1 => ?_)
    · rw [if_pos c1] at h
      refine mx_iload_n (pc := 65) C dX8_isSeen_65 rfl ?_
      obtain ⟨g2, h⟩ := of_gd h
      rw [← Option.some.inj h]
      exact mx_zreturn (pc := 66) C dX8_isSeen_66 g2 ⟨hOM, g2⟩ ⟨Nat.le_refl _, Nat.le_refl _⟩
    · rw [if_neg c1] at h
      refine mx_iload_n (pc := 12) C dX8_isSeen_12 rfl ?_
      refine mx_if_eq (pc := 13) (tgt := 65) C dX8_isSeen_13 rfl (fun c3 => ?_) (fun c3 => ?_)
      · rw [if_pos c3] at h
        refine mx_iload_n (pc := 65) C dX8_isSeen_65 rfl ?_
        obtain ⟨g4, h⟩ := of_gd h
        rw [← Option.some.inj h]
        exact mx_zreturn (pc := 66) C dX8_isSeen_66 g4 ⟨hOM, g4⟩ ⟨Nat.le_refl _, Nat.le_refl _⟩
      · rw [if_neg c3] at h
        refine mx_aload_n (pc := 16) C dX8_isSeen_16 rfl ?_
        obtain ⟨q5, hq5, h⟩ := of_bd h
        refine mc_V (pc := 17) (as := []) (rest := []) (stk2 := []) C ⟨Nat.le_refl _, Nat.le_refl _⟩ (m_X8_save hOM hq5) mi_X8_save mv_X8_save ml_X8_353 ci_8 rfl so_8 (by omega) rfl (Nat.le_of_ble_eq_true rfl) dX8_isSeen_17 rfl (fun hp6 => ?_)
        have hOq5 : OK q5.2 := hp6
        refine mx_aload_n (pc := 20) C dX8_isSeen_20 rfl ?_
        refine mx_aload_n (pc := 21) C dX8_isSeen_21 rfl ?_
        refine mx_getR (pc := 22) (v := 150) C dX8_isSeen_22 so_8 ci_8 (k := 36) (by decide) fl_X8_120 rfl (q := 36) rfl (lay_8_36 hOq5) (by decide) ?_
        refine mx_iload_n (pc := 25) C dX8_isSeen_25 rfl ?_
        obtain ⟨g7, h⟩ := of_gd h
        refine mx_iald (pc := 26) C dX8_isSeen_26 sh_8_36 g7.1 g7.2 ?_
        obtain ⟨q8, hq8, h⟩ := of_bd h
        refine mc_V (pc := 27) (as := [aI (q5.2 150 x2)]) (rest := []) (stk2 := []) C ⟨Nat.le_refl _, Nat.le_refl _⟩ (m_X8_goYears hOq5 hq8) mi_X8_goYears mv_X8_goYears ml_X8_350 ci_8 rfl so_8 (by omega) rfl (Nat.le_of_ble_eq_true rfl) dX8_isSeen_27 rfl (fun hp9 => ?_)
        have hOq8 : OK q8.2 := hp9
        refine mx_aload_n (pc := 30) C dX8_isSeen_30 rfl ?_
        refine mx_aload_n (pc := 31) C dX8_isSeen_31 rfl ?_
        refine mx_getR (pc := 32) (v := 148) C dX8_isSeen_32 so_8 ci_8 (k := 34) (by decide) fl_X8_114 rfl (q := 34) rfl (lay_8_34 hOq8) (by decide) ?_
        refine mx_iload_n (pc := 35) C dX8_isSeen_35 rfl ?_
        obtain ⟨g10, h⟩ := of_gd h
        refine mx_iald (pc := 36) C dX8_isSeen_36 sh_8_34 g10.1 g10.2 ?_
        obtain ⟨q11, hq11, h⟩ := of_bd h
        refine mc_V (pc := 37) (as := [aI (q8.2 148 x2)]) (rest := []) (stk2 := [aI q11.1]) C ⟨Nat.le_refl _, Nat.le_refl _⟩ (m_X8_noise hOq8 hq11) mi_X8_noise mv_X8_noise ml_X8_239 ci_8 rfl so_8 (by omega) rfl (Nat.le_of_ble_eq_true rfl) dX8_isSeen_37 rfl (fun hp12 => ?_)
        have hOq11 : OK q11.2 := hp12
        refine mx_aload_n (pc := 40) C dX8_isSeen_40 rfl ?_
        refine mx_getR (pc := 41) (v := 149) C dX8_isSeen_41 so_8 ci_8 (k := 35) (by decide) fl_X8_117 rfl (q := 35) rfl (lay_8_35 hOq11) (by decide) ?_
        refine mx_iload_n (pc := 44) C dX8_isSeen_44 rfl ?_
        obtain ⟨g13, h⟩ := of_gd h
        refine mx_iald (pc := 45) C dX8_isSeen_45 sh_8_35 g13.1 g13.2 ?_
        refine mx_icmp_ne (pc := 46) (tgt := 53) C dX8_isSeen_46 rfl (fun c14 => ?_) (fun c14 => ?_)
        · rw [if_neg c14] at h
          refine mx_iconst (pc := 53) C dX8_isSeen_53 (z := 0) rfl (by constructor <;> decide) ?_
          refine mx_mask [true, false, true] (ls' := [some (aR 127), none, some (aI x2)]) rfl rfl ?_
          exact b_X8_isSeen_54 C ih x2 0 q11.2 hOq11 h
        · rw [if_pos c14] at h
          refine mx_iconst (pc := 49) C dX8_isSeen_49 (z := 1) rfl (by constructor <;> decide) ?_
          refine mx_goto (pc := 50) (tgt := 54) C dX8_isSeen_50 rfl ?_
          refine mx_mask [true, false, true] (ls' := [some (aR 127), none, some (aI x2)]) rfl rfl ?_
          exact b_X8_isSeen_54 C ih x2 1 q11.2 hOq11 h
set_option maxRecDepth 20000 in
set_option maxHeartbeats 4000000 in
theorem m_X8_isSeen {M : Mem} {res : Int × Mem} (hOM : OK M) (h : f_X8_isSeen M = some res) : Mth false yX8_isSeen cX8_isSeen 3 (some .boolean) 7 0 0 SH [aR 127] M (some (aI res.1)) SH res.2 (OK res.2 ∧ (res.1 = 0 ∨ res.1 = 1)) := by
  refine Mth.of (by decide +kernel) (Nat.le_of_ble_eq_true rfl) (fun K B C => ?_)
  show Wx K B _ 0 0 SH 3 M 0 [some (aR 127), none, none] []
  unfold f_X8_isSeen at h
  refine mx_iconst (pc := 0) C dX8_isSeen_0 (z := 1) rfl (by constructor <;> decide) ?_
  refine mx_istore_n (pc := 1) C dX8_isSeen_1 (ls' := [some (aR 127), some (aI 1), none]) (by decide) rfl rfl ?_
  refine mx_iconst (pc := 2) C dX8_isSeen_2 (z := 0) rfl (by constructor <;> decide) ?_
  refine mx_istore_n (pc := 3) C dX8_isSeen_3 (ls' := [some (aR 127), some (aI 1), some (aI 0)]) (by decide) rfl rfl ?_
  exact b_X8_isSeen_4 C FU 1 0 M hOM h

def f_X8_louds_68 (p1 : Int) (p2 : Int) (k38 : Int → Int → Int → Int → Int → Int → Mem → Option (Int × Mem)) (x1 : Int) (x2 : Int) (x3 : Int) (x4 : Int) (x5 : Int) (x6 : Int) (M : Mem) : Option (Int × Mem) :=
  k38 x1 x2 x3 x4 x5 (w32 (x6 + (-1))) M
def f_X8_louds_38 (p1 : Int) (p2 : Int) : Nat → Int → Int → Int → Int → Int → Int → Mem → Option (Int × Mem)
  | 0, _, _, _, _, _, _, _ => none
  | n + 1, x1, x2, x3, x4, x5, x6, M => if x6 < 0 then if 0 ≤ x1 ∧ x1 < 6 then lt (stM M 130 x1 x3) (fun M3 => if x2 = 0 then some (x4, M3) else some (x5, M3)) else none else if 0 ≤ x1 ∧ x1 < 6 then lt (stM M 130 x1 x6) (fun M6 => (f_X8_isSeen M6).bind (fun q7 => if q7.1 = 0 then f_X8_louds_68 p1 p2 (f_X8_louds_38 p1 p2 n) x1 x2 x3 x4 x5 x6 q7.2 else f_X8_louds_68 p1 p2 (f_X8_louds_38 p1 p2 n) x1 x2 x3 (w32 (x4 + 1)) x6 x6 q7.2)) else none
def f_X8_louds (p1 : Int) (p2 : Int) (M : Mem) : Option (Int × Mem) :=
  (f_X8_isSound p1 M).bind (fun q1 => if q1.1 = 0 then some ((-1), q1.2) else (f_X8_in p2 0 1 q1.2).bind (fun q4 => if q4.1 = 0 then some ((-1), q4.2) else if 0 ≤ p1 ∧ p1 < 6 then f_X8_louds_38 p1 p2 FU p1 p2 (q4.2 130 p1) 0 (-5) 40 q4.2 else none))
set_option maxRecDepth 20000 in
set_option maxHeartbeats 4000000 in
theorem b_X8_louds_68 {K : KX} {B : BX} {res : Int × Mem} {p1 : Int} {p2 : Int} {k38 : Int → Int → Int → Int → Int → Int → Mem → Option (Int × Mem)} (C : Cx K B false yX8_louds cX8_louds 7 (some .int) 8 0 0) (hk38 : ∀ (x1 : Int) (x2 : Int) (x3 : Int) (x4 : Int) (x5 : Int) (x6 : Int) (M : Mem), OK M → k38 x1 x2 x3 x4 x5 x6 M = some res → Wx K B (Zr K B (some (aI res.1)) SH res.2 (OK res.2) 0 0) 0 0 SH 7 M 38 [some (aR 127), some (aI x1), some (aI x2), some (aI x3), some (aI x4), some (aI x5), some (aI x6)] []) : ∀ (x1 : Int) (x2 : Int) (x3 : Int) (x4 : Int) (x5 : Int) (x6 : Int) (M : Mem), OK M → f_X8_louds_68 p1 p2 k38 x1 x2 x3 x4 x5 x6 M = some res → Wx K B (Zr K B (some (aI res.1)) SH res.2 (OK res.2) 0 0) 0 0 SH 7 M 68 [some (aR 127), some (aI x1), some (aI x2), some (aI x3), some (aI x4), some (aI x5), some (aI x6)] [] := by
  intro x1 x2 x3 x4 x5 x6 M hOM h
  unfold f_X8_louds_68 at h
  refine mx_iinc (pc := 68) C dX8_louds_68 (ls' := [some (aR 127), some (aI x1), some (aI x2), some (aI x3), some (aI x4), some (aI x5), some (aI (w32 (x6 + (-1))))]) rfl (by decide) rfl (by constructor <;> decide) rfl rfl ?_
  refine mx_goto (pc := 71) (tgt := 38) C dX8_louds_71 rfl ?_
  exact hk38 x1 x2 x3 x4 x5 (w32 (x6 + (-1))) M hOM h
set_option maxRecDepth 20000 in
set_option maxHeartbeats 4000000 in
theorem b_X8_louds_38 {K : KX} {B : BX} {res : Int × Mem} {p1 : Int} {p2 : Int} (C : Cx K B false yX8_louds cX8_louds 7 (some .int) 8 0 0) : ∀ (n : Nat) (x1 : Int) (x2 : Int) (x3 : Int) (x4 : Int) (x5 : Int) (x6 : Int) (M : Mem), OK M → f_X8_louds_38 p1 p2 n x1 x2 x3 x4 x5 x6 M = some res → Wx K B (Zr K B (some (aI res.1)) SH res.2 (OK res.2) 0 0) 0 0 SH 7 M 38 [some (aR 127), some (aI x1), some (aI x2), some (aI x3), some (aI x4), some (aI x5), some (aI x6)] [] := by
  intro n
  induction n with
  | zero =>
    intro x1 x2 x3 x4 x5 x6 M hOM h
    cases h
  | succ n ih =>
    intro x1 x2 x3 x4 x5 x6 M hOM h
    rw [f_X8_louds_38.eq_2] at h
    refine mx_iload (pc := 38) C dX8_louds_38 rfl ?_
    refine mx_if_lt (pc := 40) (tgt := 74) C dX8_louds_40 rfl (fun c1 => ?_) (fun c1 => ?_)
    · rw [if_pos c1] at h
      refine mx_aload_n (pc := 74) C dX8_louds_74 rfl ?_
      refine mx_getR (pc := 75) (v := 130) C dX8_louds_75 so_8 ci_8 (k := 4) (by decide) fl_X8_23 rfl (q := 4) rfl (lay_8_4 hOM) (by decide) ?_
      refine mx_iload_n (pc := 78) C dX8_louds_78 rfl ?_
      refine mx_iload_n (pc := 79) C dX8_louds_79 rfl ?_
      obtain ⟨g2, h⟩ := of_gd h
      refine mx_iast (pc := 80) C dX8_louds_80 sh_8_4 g2.1 g2.2 ?_
      generalize hmM3 : stM M 130 x1 x3 = M3 at h ⊢
      replace h := lt_e h
      have hOM3 : OK M3 := by rw [← hmM3]; exact ok_arr hOM sh_8_4 (by decide)
      refine mx_iload_n (pc := 81) C dX8_louds_81 rfl ?_
      refine mx_if_ne (pc := 82) (tgt := 90) C dX8_louds_82 rfl (fun c4 => ?_) (fun c4 => ?_)
      · rw [if_neg c4] at h
        refine mx_iload (pc := 90) C dX8_louds_90 rfl ?_
        rw [← Option.some.inj h]
        exact mx_ireturn (pc := 92) C dX8_louds_92 hOM3 ⟨Nat.le_refl _, Nat.le_refl _⟩
      · rw [if_pos c4] at h
        refine mx_iload (pc := 85) C dX8_louds_85 rfl ?_
        refine mx_goto (pc := 87) (tgt := 92) C dX8_louds_87 rfl ?_
        rw [← Option.some.inj h]
        exact mx_ireturn (pc := 92) C dX8_louds_92 hOM3 ⟨Nat.le_refl _, Nat.le_refl _⟩
    · rw [if_neg c1] at h
      refine mx_aload_n (pc := 43) C dX8_louds_43 rfl ?_
      refine mx_getR (pc := 44) (v := 130) C dX8_louds_44 so_8 ci_8 (k := 4) (by decide) fl_X8_23 rfl (q := 4) rfl (lay_8_4 hOM) (by decide) ?_
      refine mx_iload_n (pc := 47) C dX8_louds_47 rfl ?_
      refine mx_iload (pc := 48) C dX8_louds_48 rfl ?_
      obtain ⟨g5, h⟩ := of_gd h
      refine mx_iast (pc := 50) C dX8_louds_50 sh_8_4 g5.1 g5.2 ?_
      generalize hmM6 : stM M 130 x1 x6 = M6 at h ⊢
      replace h := lt_e h
      have hOM6 : OK M6 := by rw [← hmM6]; exact ok_arr hOM sh_8_4 (by decide)
      refine mx_aload_n (pc := 51) C dX8_louds_51 rfl ?_
      obtain ⟨q7, hq7, h⟩ := of_bd h
      refine mc_V (pc := 52) (as := []) (rest := []) (stk2 := [aI q7.1]) C ⟨Nat.le_refl _, Nat.le_refl _⟩ (m_X8_isSeen hOM6 hq7) mi_X8_isSeen mv_X8_isSeen ml_X8_391 ci_8 rfl so_8 (by omega) rfl (Nat.le_of_ble_eq_true rfl) dX8_louds_52 rfl (fun hp8 => ?_)
      have hOq7 : OK q7.2 := hp8.1
      refine mx_if_ne (pc := 55) (tgt := 61) C dX8_louds_55 rfl (fun c9 => ?_) (fun c9 => ?_)
      · rw [if_neg c9] at h
        refine mx_iinc (pc := 61) C dX8_louds_61 (ls' := [some (aR 127), some (aI x1), some (aI x2), some (aI x3), some (aI (w32 (x4 + 1))), some (aI x5), some (aI x6)]) rfl (by decide) rfl (by constructor <;> decide) rfl rfl ?_
        refine mx_iload (pc := 64) C dX8_louds_64 rfl ?_
        refine mx_istore (pc := 66) C dX8_louds_66 (ls' := [some (aR 127), some (aI x1), some (aI x2), some (aI x3), some (aI (w32 (x4 + 1))), some (aI x6), some (aI x6)]) (by decide) rfl rfl ?_
        exact b_X8_louds_68 C ih x1 x2 x3 (w32 (x4 + 1)) x6 x6 q7.2 hOq7 h
      · rw [if_pos c9] at h
        refine mx_goto (pc := 58) (tgt := 68) C dX8_louds_58 rfl ?_
        exact b_X8_louds_68 C ih x1 x2 x3 x4 x5 x6 q7.2 hOq7 h
set_option maxRecDepth 20000 in
set_option maxHeartbeats 4000000 in
theorem m_X8_louds {p1 : Int} {p2 : Int} {M : Mem} {res : Int × Mem} (hOM : OK M) (h : f_X8_louds p1 p2 M = some res) : Mth false yX8_louds cX8_louds 7 (some .int) 8 0 0 SH [aR 127, aI p1, aI p2] M (some (aI res.1)) SH res.2 (OK res.2) := by
  refine Mth.of (by decide +kernel) (Nat.le_of_ble_eq_true rfl) (fun K B C => ?_)
  show Wx K B _ 0 0 SH 7 M 0 [some (aR 127), some (aI p1), some (aI p2), none, none, none, none] []
  unfold f_X8_louds at h
  refine mx_aload_n (pc := 0) C dX8_louds_0 rfl ?_
  refine mx_iload_n (pc := 1) C dX8_louds_1 rfl ?_
  obtain ⟨q1, hq1, h⟩ := of_bd h
  refine mc_V (pc := 2) (as := [aI p1]) (rest := []) (stk2 := [aI q1.1]) C ⟨Nat.le_refl _, Nat.le_refl _⟩ (m_X8_isSound hOM hq1) mi_X8_isSound mv_X8_isSound ml_X8_229 ci_8 rfl so_8 (by omega) rfl (Nat.le_of_ble_eq_true rfl) dX8_louds_2 rfl (fun hp2 => ?_)
  have hOq1 : OK q1.2 := hp2.1
  refine mx_if_eq (pc := 5) (tgt := 18) C dX8_louds_5 rfl (fun c3 => ?_) (fun c3 => ?_)
  · rw [if_pos c3] at h
    refine mx_iconst (pc := 18) C dX8_louds_18 (z := (-1)) rfl (by constructor <;> decide) ?_
    rw [← Option.some.inj h]
    exact mx_ireturn (pc := 19) C dX8_louds_19 hOq1 ⟨Nat.le_refl _, Nat.le_refl _⟩
  · rw [if_neg c3] at h
    refine mx_aload_n (pc := 8) C dX8_louds_8 rfl ?_
    refine mx_iload_n (pc := 9) C dX8_louds_9 rfl ?_
    refine mx_iconst (pc := 10) C dX8_louds_10 (z := 0) rfl (by constructor <;> decide) ?_
    refine mx_iconst (pc := 11) C dX8_louds_11 (z := 1) rfl (by constructor <;> decide) ?_
    obtain ⟨q4, hq4, h⟩ := of_bd h
    refine mc_V (pc := 12) (as := [aI p2, aI 0, aI 1]) (rest := []) (stk2 := [aI q4.1]) C ⟨Nat.le_refl _, Nat.le_refl _⟩ (m_X8_in hOq1 hq4) mi_X8_in mv_X8_in ml_X8_218 ci_8 rfl so_8 (by omega) rfl (Nat.le_of_ble_eq_true rfl) dX8_louds_12 rfl (fun hp5 => ?_)
    have hOq4 : OK q4.2 := hp5.1
    refine mx_if_ne (pc := 15) (tgt := 20) C dX8_louds_15 rfl (fun c6 => ?_) (fun c6 => ?_)
    · rw [if_neg c6] at h
      refine mx_aload_n (pc := 20) C dX8_louds_20 rfl ?_
      refine mx_getR (pc := 21) (v := 130) C dX8_louds_21 so_8 ci_8 (k := 4) (by decide) fl_X8_23 rfl (q := 4) rfl (lay_8_4 hOq4) (by decide) ?_
      refine mx_iload_n (pc := 24) C dX8_louds_24 rfl ?_
      obtain ⟨g7, h⟩ := of_gd h
      refine mx_iald (pc := 25) C dX8_louds_25 sh_8_4 g7.1 g7.2 ?_
      refine mx_istore_n (pc := 26) C dX8_louds_26 (ls' := [some (aR 127), some (aI p1), some (aI p2), some (aI (q4.2 130 p1)), none, none, none]) (by decide) rfl rfl ?_
      refine mx_iconst (pc := 27) C dX8_louds_27 (z := 0) rfl (by constructor <;> decide) ?_
      refine mx_istore (pc := 28) C dX8_louds_28 (ls' := [some (aR 127), some (aI p1), some (aI p2), some (aI (q4.2 130 p1)), some (aI 0), none, none]) (by decide) rfl rfl ?_
      refine mx_bipush (pc := 30) C dX8_louds_30 (z := (-5)) rfl (by constructor <;> decide) ?_
      refine mx_istore (pc := 32) C dX8_louds_32 (ls' := [some (aR 127), some (aI p1), some (aI p2), some (aI (q4.2 130 p1)), some (aI 0), some (aI (-5)), none]) (by decide) rfl rfl ?_
      refine mx_bipush (pc := 34) C dX8_louds_34 (z := 40) rfl (by constructor <;> decide) ?_
      refine mx_istore (pc := 36) C dX8_louds_36 (ls' := [some (aR 127), some (aI p1), some (aI p2), some (aI (q4.2 130 p1)), some (aI 0), some (aI (-5)), some (aI 40)]) (by decide) rfl rfl ?_
      exact b_X8_louds_38 C FU p1 p2 (q4.2 130 p1) 0 (-5) 40 q4.2 hOq4 h
    · rw [if_pos c6] at h
      refine mx_iconst (pc := 18) C dX8_louds_18 (z := (-1)) rfl (by constructor <;> decide) ?_
      rw [← Option.some.inj h]
      exact mx_ireturn (pc := 19) C dX8_louds_19 hOq4 ⟨Nat.le_refl _, Nat.le_refl _⟩

def f_X8_can_68 (p1 : Int) (p2 : Int) (k38 : Int → Int → Int → Int → Int → Int → Mem → Option (Int × Mem)) (x1 : Int) (x2 : Int) (x3 : Int) (x4 : Int) (x5 : Int) (x6 : Int) (M : Mem) : Option (Int × Mem) :=
  k38 x1 x2 x3 x4 x5 (w32 (x6 + (-1))) M
def f_X8_can_38 (p1 : Int) (p2 : Int) : Nat → Int → Int → Int → Int → Int → Int → Mem → Option (Int × Mem)
  | 0, _, _, _, _, _, _, _ => none
  | n + 1, x1, x2, x3, x4, x5, x6, M => if x6 < 0 then if 0 ≤ x1 ∧ x1 < 6 then lt (stM M 129 x1 x3) (fun M3 => if x2 = 0 then some (x4, M3) else some (x5, M3)) else none else if 0 ≤ x1 ∧ x1 < 6 then lt (stM M 129 x1 x6) (fun M6 => (f_X8_isSeen M6).bind (fun q7 => if q7.1 = 0 then f_X8_can_68 p1 p2 (f_X8_can_38 p1 p2 n) x1 x2 x3 x4 x5 x6 q7.2 else f_X8_can_68 p1 p2 (f_X8_can_38 p1 p2 n) x1 x2 x3 (w32 (x4 + 1)) x6 x6 q7.2)) else none
def f_X8_can (p1 : Int) (p2 : Int) (M : Mem) : Option (Int × Mem) :=
  (f_X8_isSound p1 M).bind (fun q1 => if q1.1 = 0 then some ((-1), q1.2) else (f_X8_in p2 0 1 q1.2).bind (fun q4 => if q4.1 = 0 then some ((-1), q4.2) else if 0 ≤ p1 ∧ p1 < 6 then f_X8_can_38 p1 p2 FU p1 p2 (q4.2 129 p1) 0 (-5) 9 q4.2 else none))
set_option maxRecDepth 20000 in
set_option maxHeartbeats 4000000 in
theorem b_X8_can_68 {K : KX} {B : BX} {res : Int × Mem} {p1 : Int} {p2 : Int} {k38 : Int → Int → Int → Int → Int → Int → Mem → Option (Int × Mem)} (C : Cx K B false yX8_can cX8_can 7 (some .int) 8 0 0) (hk38 : ∀ (x1 : Int) (x2 : Int) (x3 : Int) (x4 : Int) (x5 : Int) (x6 : Int) (M : Mem), OK M → k38 x1 x2 x3 x4 x5 x6 M = some res → Wx K B (Zr K B (some (aI res.1)) SH res.2 (OK res.2) 0 0) 0 0 SH 7 M 38 [some (aR 127), some (aI x1), some (aI x2), some (aI x3), some (aI x4), some (aI x5), some (aI x6)] []) : ∀ (x1 : Int) (x2 : Int) (x3 : Int) (x4 : Int) (x5 : Int) (x6 : Int) (M : Mem), OK M → f_X8_can_68 p1 p2 k38 x1 x2 x3 x4 x5 x6 M = some res → Wx K B (Zr K B (some (aI res.1)) SH res.2 (OK res.2) 0 0) 0 0 SH 7 M 68 [some (aR 127), some (aI x1), some (aI x2), some (aI x3), some (aI x4), some (aI x5), some (aI x6)] [] := by
  intro x1 x2 x3 x4 x5 x6 M hOM h
  unfold f_X8_can_68 at h
  refine mx_iinc (pc := 68) C dX8_can_68 (ls' := [some (aR 127), some (aI x1), some (aI x2), some (aI x3), some (aI x4), some (aI x5), some (aI (w32 (x6 + (-1))))]) rfl (by decide) rfl (by constructor <;> decide) rfl rfl ?_
  refine mx_goto (pc := 71) (tgt := 38) C dX8_can_71 rfl ?_
  exact hk38 x1 x2 x3 x4 x5 (w32 (x6 + (-1))) M hOM h
set_option maxRecDepth 20000 in
set_option maxHeartbeats 4000000 in
theorem b_X8_can_38 {K : KX} {B : BX} {res : Int × Mem} {p1 : Int} {p2 : Int} (C : Cx K B false yX8_can cX8_can 7 (some .int) 8 0 0) : ∀ (n : Nat) (x1 : Int) (x2 : Int) (x3 : Int) (x4 : Int) (x5 : Int) (x6 : Int) (M : Mem), OK M → f_X8_can_38 p1 p2 n x1 x2 x3 x4 x5 x6 M = some res → Wx K B (Zr K B (some (aI res.1)) SH res.2 (OK res.2) 0 0) 0 0 SH 7 M 38 [some (aR 127), some (aI x1), some (aI x2), some (aI x3), some (aI x4), some (aI x5), some (aI x6)] [] := by
  intro n
  induction n with
  | zero =>
    intro x1 x2 x3 x4 x5 x6 M hOM h
    cases h
  | succ n ih =>
    intro x1 x2 x3 x4 x5 x6 M hOM h
    rw [f_X8_can_38.eq_2] at h
    refine mx_iload (pc := 38) C dX8_can_38 rfl ?_
    refine mx_if_lt (pc := 40) (tgt := 74) C dX8_can_40 rfl (fun c1 => ?_) (fun c1 => ?_)
    · rw [if_pos c1] at h
      refine mx_aload_n (pc := 74) C dX8_can_74 rfl ?_
      refine mx_getR (pc := 75) (v := 129) C dX8_can_75 so_8 ci_8 (k := 3) (by decide) fl_X8_20 rfl (q := 3) rfl (lay_8_3 hOM) (by decide) ?_
      refine mx_iload_n (pc := 78) C dX8_can_78 rfl ?_
      refine mx_iload_n (pc := 79) C dX8_can_79 rfl ?_
      obtain ⟨g2, h⟩ := of_gd h
      refine mx_iast (pc := 80) C dX8_can_80 sh_8_3 g2.1 g2.2 ?_
      generalize hmM3 : stM M 129 x1 x3 = M3 at h ⊢
      replace h := lt_e h
      have hOM3 : OK M3 := by rw [← hmM3]; exact ok_arr hOM sh_8_3 (by decide)
      refine mx_iload_n (pc := 81) C dX8_can_81 rfl ?_
      refine mx_if_ne (pc := 82) (tgt := 90) C dX8_can_82 rfl (fun c4 => ?_) (fun c4 => ?_)
      · rw [if_neg c4] at h
        refine mx_iload (pc := 90) C dX8_can_90 rfl ?_
        rw [← Option.some.inj h]
        exact mx_ireturn (pc := 92) C dX8_can_92 hOM3 ⟨Nat.le_refl _, Nat.le_refl _⟩
      · rw [if_pos c4] at h
        refine mx_iload (pc := 85) C dX8_can_85 rfl ?_
        refine mx_goto (pc := 87) (tgt := 92) C dX8_can_87 rfl ?_
        rw [← Option.some.inj h]
        exact mx_ireturn (pc := 92) C dX8_can_92 hOM3 ⟨Nat.le_refl _, Nat.le_refl _⟩
    · rw [if_neg c1] at h
      refine mx_aload_n (pc := 43) C dX8_can_43 rfl ?_
      refine mx_getR (pc := 44) (v := 129) C dX8_can_44 so_8 ci_8 (k := 3) (by decide) fl_X8_20 rfl (q := 3) rfl (lay_8_3 hOM) (by decide) ?_
      refine mx_iload_n (pc := 47) C dX8_can_47 rfl ?_
      refine mx_iload (pc := 48) C dX8_can_48 rfl ?_
      obtain ⟨g5, h⟩ := of_gd h
      refine mx_iast (pc := 50) C dX8_can_50 sh_8_3 g5.1 g5.2 ?_
      generalize hmM6 : stM M 129 x1 x6 = M6 at h ⊢
      replace h := lt_e h
      have hOM6 : OK M6 := by rw [← hmM6]; exact ok_arr hOM sh_8_3 (by decide)
      refine mx_aload_n (pc := 51) C dX8_can_51 rfl ?_
      obtain ⟨q7, hq7, h⟩ := of_bd h
      refine mc_V (pc := 52) (as := []) (rest := []) (stk2 := [aI q7.1]) C ⟨Nat.le_refl _, Nat.le_refl _⟩ (m_X8_isSeen hOM6 hq7) mi_X8_isSeen mv_X8_isSeen ml_X8_391 ci_8 rfl so_8 (by omega) rfl (Nat.le_of_ble_eq_true rfl) dX8_can_52 rfl (fun hp8 => ?_)
      have hOq7 : OK q7.2 := hp8.1
      refine mx_if_ne (pc := 55) (tgt := 61) C dX8_can_55 rfl (fun c9 => ?_) (fun c9 => ?_)
      · rw [if_neg c9] at h
        refine mx_iinc (pc := 61) C dX8_can_61 (ls' := [some (aR 127), some (aI x1), some (aI x2), some (aI x3), some (aI (w32 (x4 + 1))), some (aI x5), some (aI x6)]) rfl (by decide) rfl (by constructor <;> decide) rfl rfl ?_
        refine mx_iload (pc := 64) C dX8_can_64 rfl ?_
        refine mx_istore (pc := 66) C dX8_can_66 (ls' := [some (aR 127), some (aI x1), some (aI x2), some (aI x3), some (aI (w32 (x4 + 1))), some (aI x6), some (aI x6)]) (by decide) rfl rfl ?_
        exact b_X8_can_68 C ih x1 x2 x3 (w32 (x4 + 1)) x6 x6 q7.2 hOq7 h
      · rw [if_pos c9] at h
        refine mx_goto (pc := 58) (tgt := 68) C dX8_can_58 rfl ?_
        exact b_X8_can_68 C ih x1 x2 x3 x4 x5 x6 q7.2 hOq7 h
set_option maxRecDepth 20000 in
set_option maxHeartbeats 4000000 in
theorem m_X8_can {p1 : Int} {p2 : Int} {M : Mem} {res : Int × Mem} (hOM : OK M) (h : f_X8_can p1 p2 M = some res) : Mth false yX8_can cX8_can 7 (some .int) 8 0 0 SH [aR 127, aI p1, aI p2] M (some (aI res.1)) SH res.2 (OK res.2) := by
  refine Mth.of (by decide +kernel) (Nat.le_of_ble_eq_true rfl) (fun K B C => ?_)
  show Wx K B _ 0 0 SH 7 M 0 [some (aR 127), some (aI p1), some (aI p2), none, none, none, none] []
  unfold f_X8_can at h
  refine mx_aload_n (pc := 0) C dX8_can_0 rfl ?_
  refine mx_iload_n (pc := 1) C dX8_can_1 rfl ?_
  obtain ⟨q1, hq1, h⟩ := of_bd h
  refine mc_V (pc := 2) (as := [aI p1]) (rest := []) (stk2 := [aI q1.1]) C ⟨Nat.le_refl _, Nat.le_refl _⟩ (m_X8_isSound hOM hq1) mi_X8_isSound mv_X8_isSound ml_X8_229 ci_8 rfl so_8 (by omega) rfl (Nat.le_of_ble_eq_true rfl) dX8_can_2 rfl (fun hp2 => ?_)
  have hOq1 : OK q1.2 := hp2.1
  refine mx_if_eq (pc := 5) (tgt := 18) C dX8_can_5 rfl (fun c3 => ?_) (fun c3 => ?_)
  · rw [if_pos c3] at h
    refine mx_iconst (pc := 18) C dX8_can_18 (z := (-1)) rfl (by constructor <;> decide) ?_
    rw [← Option.some.inj h]
    exact mx_ireturn (pc := 19) C dX8_can_19 hOq1 ⟨Nat.le_refl _, Nat.le_refl _⟩
  · rw [if_neg c3] at h
    refine mx_aload_n (pc := 8) C dX8_can_8 rfl ?_
    refine mx_iload_n (pc := 9) C dX8_can_9 rfl ?_
    refine mx_iconst (pc := 10) C dX8_can_10 (z := 0) rfl (by constructor <;> decide) ?_
    refine mx_iconst (pc := 11) C dX8_can_11 (z := 1) rfl (by constructor <;> decide) ?_
    obtain ⟨q4, hq4, h⟩ := of_bd h
    refine mc_V (pc := 12) (as := [aI p2, aI 0, aI 1]) (rest := []) (stk2 := [aI q4.1]) C ⟨Nat.le_refl _, Nat.le_refl _⟩ (m_X8_in hOq1 hq4) mi_X8_in mv_X8_in ml_X8_218 ci_8 rfl so_8 (by omega) rfl (Nat.le_of_ble_eq_true rfl) dX8_can_12 rfl (fun hp5 => ?_)
    have hOq4 : OK q4.2 := hp5.1
    refine mx_if_ne (pc := 15) (tgt := 20) C dX8_can_15 rfl (fun c6 => ?_) (fun c6 => ?_)
    · rw [if_neg c6] at h
      refine mx_aload_n (pc := 20) C dX8_can_20 rfl ?_
      refine mx_getR (pc := 21) (v := 129) C dX8_can_21 so_8 ci_8 (k := 3) (by decide) fl_X8_20 rfl (q := 3) rfl (lay_8_3 hOq4) (by decide) ?_
      refine mx_iload_n (pc := 24) C dX8_can_24 rfl ?_
      obtain ⟨g7, h⟩ := of_gd h
      refine mx_iald (pc := 25) C dX8_can_25 sh_8_3 g7.1 g7.2 ?_
      refine mx_istore_n (pc := 26) C dX8_can_26 (ls' := [some (aR 127), some (aI p1), some (aI p2), some (aI (q4.2 129 p1)), none, none, none]) (by decide) rfl rfl ?_
      refine mx_iconst (pc := 27) C dX8_can_27 (z := 0) rfl (by constructor <;> decide) ?_
      refine mx_istore (pc := 28) C dX8_can_28 (ls' := [some (aR 127), some (aI p1), some (aI p2), some (aI (q4.2 129 p1)), some (aI 0), none, none]) (by decide) rfl rfl ?_
      refine mx_bipush (pc := 30) C dX8_can_30 (z := (-5)) rfl (by constructor <;> decide) ?_
      refine mx_istore (pc := 32) C dX8_can_32 (ls' := [some (aR 127), some (aI p1), some (aI p2), some (aI (q4.2 129 p1)), some (aI 0), some (aI (-5)), none]) (by decide) rfl rfl ?_
      refine mx_bipush (pc := 34) C dX8_can_34 (z := 9) rfl (by constructor <;> decide) ?_
      refine mx_istore (pc := 36) C dX8_can_36 (ls' := [some (aR 127), some (aI p1), some (aI p2), some (aI (q4.2 129 p1)), some (aI 0), some (aI (-5)), some (aI 9)]) (by decide) rfl rfl ?_
      exact b_X8_can_38 C FU p1 p2 (q4.2 129 p1) 0 (-5) 9 q4.2 hOq4 h
    · rw [if_pos c6] at h
      refine mx_iconst (pc := 18) C dX8_can_18 (z := (-1)) rfl (by constructor <;> decide) ?_
      rw [← Option.some.inj h]
      exact mx_ireturn (pc := 19) C dX8_can_19 hOq4 ⟨Nat.le_refl _, Nat.le_refl _⟩

def f_X8_where_52 (p1 : Int) (k22 : Int → Int → Int → Int → Mem → Option (Int × Mem)) (x1 : Int) (x2 : Int) (x4 : Int) (t0 : Int) (t1 : Int) (M : Mem) : Option (Int × Mem) :=
  k22 x1 x2 (or32 t0 t1) (w32 (x4 + 1)) M
def f_X8_where_22 (p1 : Int) : Nat → Int → Int → Int → Int → Mem → Option (Int × Mem)
  | 0, _, _, _, _, _ => none
  | n + 1, x1, x2, x3, x4, M => if 5 ≤ x4 then if 0 ≤ x1 ∧ x1 < 6 then lt (stM M 131 x1 x2) (fun M3 => some (x3, M3)) else none else if 0 ≤ x1 ∧ x1 < 6 then lt (stM M 131 x1 x4) (fun M5 => (f_X8_isSeen M5).bind (fun q6 => if q6.1 = 0 then f_X8_where_52 p1 (f_X8_where_22 p1 n) x1 x2 x4 x3 0 q6.2 else f_X8_where_52 p1 (f_X8_where_22 p1 n) x1 x2 x4 x3 (shl32 1 x4) q6.2)) else none
def f_X8_where (p1 : Int) (M : Mem) : Option (Int × Mem) :=
  (f_X8_isSound p1 M).bind (fun q1 => if q1.1 = 0 then some ((-1), q1.2) else if 0 ≤ p1 ∧ p1 < 6 then f_X8_where_22 p1 FU p1 (q1.2 131 p1) 0 0 q1.2 else none)
set_option maxRecDepth 20000 in
set_option maxHeartbeats 4000000 in
theorem b_X8_where_52 {K : KX} {B : BX} {res : Int × Mem} {p1 : Int} {k22 : Int → Int → Int → Int → Mem → Option (Int × Mem)} (C : Cx K B false yX8_where cX8_where 5 (some .int) 8 0 0) (hk22 : ∀ (x1 : Int) (x2 : Int) (x3 : Int) (x4 : Int) (M : Mem), OK M → k22 x1 x2 x3 x4 M = some res → Wx K B (Zr K B (some (aI res.1)) SH res.2 (OK res.2) 0 0) 0 0 SH 5 M 22 [some (aR 127), some (aI x1), some (aI x2), some (aI x3), some (aI x4)] []) : ∀ (x1 : Int) (x2 : Int) (x4 : Int) (t0 : Int) (t1 : Int) (M : Mem), OK M → f_X8_where_52 p1 k22 x1 x2 x4 t0 t1 M = some res → Wx K B (Zr K B (some (aI res.1)) SH res.2 (OK res.2) 0 0) 0 0 SH 5 M 52 [some (aR 127), some (aI x1), some (aI x2), none, some (aI x4)] [aI t1, aI t0] := by
  intro x1 x2 x4 t0 t1 M hOM h
  unfold f_X8_where_52 at h
  refine mx_ior (pc := 52) C dX8_where_52  ?_
  refine mx_istore_n (pc := 53) C dX8_where_53 (ls' := [some (aR 127), some (aI x1), some (aI x2), some (aI (or32 t0 t1)), some (aI x4)]) (by decide) rfl rfl ?_
  refine mx_iinc (pc := 54) C dX8_where_54 (ls' := [some (aR 127), some (aI x1), some (aI x2), some (aI (or32 t0 t1)), some (aI (w32 (x4 + 1)))]) rfl (by decide) rfl (by constructor <;> decide) rfl rfl ?_
  refine mx_goto (pc := 57) (tgt := 22) C dX8_where_57 rfl ?_
  exact hk22 x1 x2 (or32 t0 t1) (w32 (x4 + 1)) M hOM h
set_option maxRecDepth 20000 in
set_option maxHeartbeats 4000000 in
theorem b_X8_where_22 {K : KX} {B : BX} {res : Int × Mem} {p1 : Int} (C : Cx K B false yX8_where cX8_where 5 (some .int) 8 0 0) : ∀ (n : Nat) (x1 : Int) (x2 : Int) (x3 : Int) (x4 : Int) (M : Mem), OK M → f_X8_where_22 p1 n x1 x2 x3 x4 M = some res → Wx K B (Zr K B (some (aI res.1)) SH res.2 (OK res.2) 0 0) 0 0 SH 5 M 22 [some (aR 127), some (aI x1), some (aI x2), some (aI x3), some (aI x4)] [] := by
  intro n
  induction n with
  | zero =>
    intro x1 x2 x3 x4 M hOM h
    cases h
  | succ n ih =>
    intro x1 x2 x3 x4 M hOM h
    rw [f_X8_where_22.eq_2] at h
    refine mx_iload (pc := 22) C dX8_where_22 rfl ?_
    refine mx_iconst (pc := 24) C dX8_where_24 (z := 5) rfl (by constructor <;> decide) ?_
    refine mx_icmp_ge (pc := 25) (tgt := 60) C dX8_where_25 rfl (fun c1 => ?_) (fun c1 => ?_)
    · rw [if_pos c1] at h
      refine mx_aload_n (pc := 60) C dX8_where_60 rfl ?_
      refine mx_getR (pc := 61) (v := 131) C dX8_where_61 so_8 ci_8 (k := 5) (by decide) fl_X8_26 rfl (q := 5) rfl (lay_8_5 hOM) (by decide) ?_
      refine mx_iload_n (pc := 64) C dX8_where_64 rfl ?_
      refine mx_iload_n (pc := 65) C dX8_where_65 rfl ?_
      obtain ⟨g2, h⟩ := of_gd h
      refine mx_iast (pc := 66) C dX8_where_66 sh_8_5 g2.1 g2.2 ?_
      generalize hmM3 : stM M 131 x1 x2 = M3 at h ⊢
      replace h := lt_e h
      have hOM3 : OK M3 := by rw [← hmM3]; exact ok_arr hOM sh_8_5 (by decide)
      refine mx_iload_n (pc := 67) C dX8_where_67 rfl ?_
      rw [← Option.some.inj h]
      exact mx_ireturn (pc := 68) C dX8_where_68 hOM3 ⟨Nat.le_refl _, Nat.le_refl _⟩
    · rw [if_neg c1] at h
      refine mx_aload_n (pc := 28) C dX8_where_28 rfl ?_
      refine mx_getR (pc := 29) (v := 131) C dX8_where_29 so_8 ci_8 (k := 5) (by decide) fl_X8_26 rfl (q := 5) rfl (lay_8_5 hOM) (by decide) ?_
      refine mx_iload_n (pc := 32) C dX8_where_32 rfl ?_
      refine mx_iload (pc := 33) C dX8_where_33 rfl ?_
      obtain ⟨g4, h⟩ := of_gd h
      refine mx_iast (pc := 35) C dX8_where_35 sh_8_5 g4.1 g4.2 ?_
      generalize hmM5 : stM M 131 x1 x4 = M5 at h ⊢
      replace h := lt_e h
      have hOM5 : OK M5 := by rw [← hmM5]; exact ok_arr hOM sh_8_5 (by decide)
      refine mx_iload_n (pc := 36) C dX8_where_36 rfl ?_
      refine mx_aload_n (pc := 37) C dX8_where_37 rfl ?_
      obtain ⟨q6, hq6, h⟩ := of_bd h
      refine mc_V (pc := 38) (as := []) (rest := [aI x3]) (stk2 := [aI q6.1, aI x3]) C ⟨Nat.le_refl _, Nat.le_refl _⟩ (m_X8_isSeen hOM5 hq6) mi_X8_isSeen mv_X8_isSeen ml_X8_391 ci_8 rfl so_8 (by omega) rfl (Nat.le_of_ble_eq_true rfl) dX8_where_38 rfl (fun hp7 => ?_)
      have hOq6 : OK q6.2 := hp7.1
      refine mx_if_eq (pc := 41) (tgt := 51) C dX8_where_41 rfl (fun c8 => ?_) (fun c8 => ?_)
      · rw [if_pos c8] at h
        refine mx_iconst (pc := 51) C dX8_where_51 (z := 0) rfl (by constructor <;> decide) ?_
        refine mx_mask [true, true, true, false, true] (ls' := [some (aR 127), some (aI x1), some (aI x2), none, some (aI x4)]) rfl rfl ?_
        exact b_X8_where_52 C ih x1 x2 x4 x3 0 q6.2 hOq6 h
      · rw [if_neg c8] at h
        refine mx_iconst (pc := 44) C dX8_where_44 (z := 1) rfl (by constructor <;> decide) ?_
        refine mx_iload (pc := 45) C dX8_where_45 rfl ?_
        refine mx_ishl (pc := 47) C dX8_where_47  ?_
        refine mx_goto (pc := 48) (tgt := 52) C dX8_where_48 rfl ?_
        refine mx_mask [true, true, true, false, true] (ls' := [some (aR 127), some (aI x1), some (aI x2), none, some (aI x4)]) rfl rfl ?_
        exact b_X8_where_52 C ih x1 x2 x4 x3 (shl32 1 x4) q6.2 hOq6 h
set_option maxRecDepth 20000 in
set_option maxHeartbeats 4000000 in
theorem m_X8_where {p1 : Int} {M : Mem} {res : Int × Mem} (hOM : OK M) (h : f_X8_where p1 M = some res) : Mth false yX8_where cX8_where 5 (some .int) 8 0 0 SH [aR 127, aI p1] M (some (aI res.1)) SH res.2 (OK res.2) := by
  refine Mth.of (by decide +kernel) (Nat.le_of_ble_eq_true rfl) (fun K B C => ?_)
  show Wx K B _ 0 0 SH 5 M 0 [some (aR 127), some (aI p1), none, none, none] []
  unfold f_X8_where at h
  refine mx_aload_n (pc := 0) C dX8_where_0 rfl ?_
  refine mx_iload_n (pc := 1) C dX8_where_1 rfl ?_
  obtain ⟨q1, hq1, h⟩ := of_bd h
  refine mc_V (pc := 2) (as := [aI p1]) (rest := []) (stk2 := [aI q1.1]) C ⟨Nat.le_refl _, Nat.le_refl _⟩ (m_X8_isSound hOM hq1) mi_X8_isSound mv_X8_isSound ml_X8_229 ci_8 rfl so_8 (by omega) rfl (Nat.le_of_ble_eq_true rfl) dX8_where_2 rfl (fun hp2 => ?_)
  have hOq1 : OK q1.2 := hp2.1
  refine mx_if_ne (pc := 5) (tgt := 10) C dX8_where_5 rfl (fun c3 => ?_) (fun c3 => ?_)
  · rw [if_neg c3] at h
    refine mx_aload_n (pc := 10) C dX8_where_10 rfl ?_
    refine mx_getR (pc := 11) (v := 131) C dX8_where_11 so_8 ci_8 (k := 5) (by decide) fl_X8_26 rfl (q := 5) rfl (lay_8_5 hOq1) (by decide) ?_
    refine mx_iload_n (pc := 14) C dX8_where_14 rfl ?_
    obtain ⟨g4, h⟩ := of_gd h
    refine mx_iald (pc := 15) C dX8_where_15 sh_8_5 g4.1 g4.2 ?_
    refine mx_istore_n (pc := 16) C dX8_where_16 (ls' := [some (aR 127), some (aI p1), some (aI (q1.2 131 p1)), none, none]) (by decide) rfl rfl ?_
    refine mx_iconst (pc := 17) C dX8_where_17 (z := 0) rfl (by constructor <;> decide) ?_
    refine mx_istore_n (pc := 18) C dX8_where_18 (ls' := [some (aR 127), some (aI p1), some (aI (q1.2 131 p1)), some (aI 0), none]) (by decide) rfl rfl ?_
    refine mx_iconst (pc := 19) C dX8_where_19 (z := 0) rfl (by constructor <;> decide) ?_
    refine mx_istore (pc := 20) C dX8_where_20 (ls' := [some (aR 127), some (aI p1), some (aI (q1.2 131 p1)), some (aI 0), some (aI 0)]) (by decide) rfl rfl ?_
    exact b_X8_where_22 C FU p1 (q1.2 131 p1) 0 0 q1.2 hOq1 h
  · rw [if_pos c3] at h
    refine mx_iconst (pc := 8) C dX8_where_8 (z := (-1)) rfl (by constructor <;> decide) ?_
    rw [← Option.some.inj h]
    exact mx_ireturn (pc := 9) C dX8_where_9 hOq1 ⟨Nat.le_refl _, Nat.le_refl _⟩

def f_X8_divisor_5 (p1 : Int) (p2 : Int) : Nat → Int → Int → Mem → Option (Int × Mem)
  | 0, _, _, _ => none
  | n + 1, x3, x4, M => if x4 = 0 then some (x3, M) else if x4 = 0 then none else f_X8_divisor_5 p1 p2 n x4 (Int.tmod x3 x4) M
def f_X8_divisor (p1 : Int) (p2 : Int) (M : Mem) : Option (Int × Mem) :=
  f_X8_divisor_5 p1 p2 FU p1 p2 M
set_option maxRecDepth 20000 in
set_option maxHeartbeats 4000000 in
theorem b_X8_divisor_5 {K : KX} {B : BX} {res : Int × Mem} {p1 : Int} {p2 : Int} (C : Cx K B false yX8_divisor cX8_divisor 6 (some .int) 1 0 0) : ∀ (n : Nat) (x3 : Int) (x4 : Int) (M : Mem), OK M → f_X8_divisor_5 p1 p2 n x3 x4 M = some res → Wx K B (Zr K B (some (aI res.1)) SH res.2 (OK res.2) 0 0) 0 0 SH 6 M 5 [none, none, none, some (aI x3), some (aI x4), none] [] := by
  intro n
  induction n with
  | zero =>
    intro x3 x4 M hOM h
    cases h
  | succ n ih =>
    intro x3 x4 M hOM h
    rw [f_X8_divisor_5.eq_2] at h
    refine mx_iload (pc := 5) C dX8_divisor_5 rfl ?_
    refine mx_if_eq (pc := 7) (tgt := 26) C dX8_divisor_7 rfl (fun c1 => ?_) (fun c1 => ?_)
    · rw [if_pos c1] at h
      refine mx_iload_n (pc := 26) C dX8_divisor_26 rfl ?_
      rw [← Option.some.inj h]
      exact mx_ireturn (pc := 27) C dX8_divisor_27 hOM ⟨Nat.le_refl _, Nat.le_refl _⟩
    · rw [if_neg c1] at h
      refine mx_iload_n (pc := 10) C dX8_divisor_10 rfl ?_
      refine mx_iload (pc := 11) C dX8_divisor_11 rfl ?_
      obtain ⟨g2, h⟩ := of_nz h
      refine mx_irem (pc := 13) C dX8_divisor_13 g2 ?_
      refine mx_istore (pc := 14) C dX8_divisor_14 (ls' := [none, none, none, some (aI x3), some (aI x4), some (aI (Int.tmod x3 x4))]) (by decide) rfl rfl ?_
      refine mx_iload (pc := 16) C dX8_divisor_16 rfl ?_
      refine mx_istore_n (pc := 18) C dX8_divisor_18 (ls' := [none, none, none, some (aI x4), some (aI x4), some (aI (Int.tmod x3 x4))]) (by decide) rfl rfl ?_
      refine mx_iload (pc := 19) C dX8_divisor_19 rfl ?_
      refine mx_istore (pc := 21) C dX8_divisor_21 (ls' := [none, none, none, some (aI x4), some (aI (Int.tmod x3 x4)), some (aI (Int.tmod x3 x4))]) (by decide) rfl rfl ?_
      refine mx_goto (pc := 23) (tgt := 5) C dX8_divisor_23 rfl ?_
      refine mx_mask [false, false, false, true, true, false] (ls' := [none, none, none, some (aI x4), some (aI (Int.tmod x3 x4)), none]) rfl rfl ?_
      exact ih x4 (Int.tmod x3 x4) M hOM h
set_option maxRecDepth 20000 in
set_option maxHeartbeats 4000000 in
theorem m_X8_divisor {p1 : Int} {p2 : Int} {M : Mem} {res : Int × Mem} (hOM : OK M) (h : f_X8_divisor p1 p2 M = some res) : Mth false yX8_divisor cX8_divisor 6 (some .int) 1 0 0 SH [aR 127, aI p1, aI p2] M (some (aI res.1)) SH res.2 (OK res.2) := by
  refine Mth.of (by decide +kernel) (Nat.le_of_ble_eq_true rfl) (fun K B C => ?_)
  show Wx K B _ 0 0 SH 6 M 0 [some (aR 127), some (aI p1), some (aI p2), none, none, none] []
  unfold f_X8_divisor at h
  refine mx_iload_n (pc := 0) C dX8_divisor_0 rfl ?_
  refine mx_istore_n (pc := 1) C dX8_divisor_1 (ls' := [some (aR 127), some (aI p1), some (aI p2), some (aI p1), none, none]) (by decide) rfl rfl ?_
  refine mx_iload_n (pc := 2) C dX8_divisor_2 rfl ?_
  refine mx_istore (pc := 3) C dX8_divisor_3 (ls' := [some (aR 127), some (aI p1), some (aI p2), some (aI p1), some (aI p2), none]) (by decide) rfl rfl ?_
  refine mx_mask [false, false, false, true, true, false] (ls' := [none, none, none, some (aI p1), some (aI p2), none]) rfl rfl ?_
  exact b_X8_divisor_5 C FU p1 p2 M hOM h

def f_X8_lowest (p1 : Int) (p2 : Int) (p3 : Int) (M : Mem) : Option (Int × Mem) :=
  (f_X8_divisor p1 p2 M).bind (fun q1 => if p3 = 0 then if q1.1 = 0 then none else some (w32 (Int.tdiv p1 q1.1), q1.2) else if q1.1 = 0 then none else some (w32 (Int.tdiv p2 q1.1), q1.2))
set_option maxRecDepth 20000 in
set_option maxHeartbeats 4000000 in
theorem m_X8_lowest {p1 : Int} {p2 : Int} {p3 : Int} {M : Mem} {res : Int × Mem} (hOM : OK M) (h : f_X8_lowest p1 p2 p3 M = some res) : Mth false yX8_lowest cX8_lowest 5 (some .long) 2 0 0 SH [aR 127, aI p1, aI p2, aI p3] M (some (aJ res.1)) SH res.2 (OK res.2) := by
  refine Mth.of (by decide +kernel) (Nat.le_of_ble_eq_true rfl) (fun K B C => ?_)
  show Wx K B _ 0 0 SH 5 M 0 [some (aR 127), some (aI p1), some (aI p2), some (aI p3), none] []
  unfold f_X8_lowest at h
  refine mx_aload_n (pc := 0) C dX8_lowest_0 rfl ?_
  refine mx_iload_n (pc := 1) C dX8_lowest_1 rfl ?_
  refine mx_iload_n (pc := 2) C dX8_lowest_2 rfl ?_
  obtain ⟨q1, hq1, h⟩ := of_bd h
  refine mc_V (pc := 3) (as := [aI p1, aI p2]) (rest := []) (stk2 := [aI q1.1]) C ⟨Nat.le_refl _, Nat.le_refl _⟩ (m_X8_divisor hOM hq1) mi_X8_divisor mv_X8_divisor ml_X8_394 ci_8 rfl so_8 (by omega) rfl (Nat.le_of_ble_eq_true rfl) dX8_lowest_3 rfl (fun hp2 => ?_)
  have hOq1 : OK q1.2 := hp2
  refine mx_istore (pc := 6) C dX8_lowest_6 (ls' := [some (aR 127), some (aI p1), some (aI p2), some (aI p3), some (aI q1.1)]) (by decide) rfl rfl ?_
  refine mx_iload_n (pc := 8) C dX8_lowest_8 rfl ?_
  refine mx_if_ne (pc := 9) (tgt := 20) C dX8_lowest_9 rfl (fun c3 => ?_) (fun c3 => ?_)
  · rw [if_neg c3] at h
    refine mx_iload_n (pc := 20) C dX8_lowest_20 rfl ?_
    refine mx_iload (pc := 21) C dX8_lowest_21 rfl ?_
    obtain ⟨g4, h⟩ := of_nz h
    refine mx_idiv (pc := 23) C dX8_lowest_23 g4 ?_
    refine mx_i2l (pc := 24) C dX8_lowest_24  ?_
    rw [← Option.some.inj h]
    exact mx_lreturn (pc := 25) C dX8_lowest_25 hOq1 ⟨Nat.le_refl _, Nat.le_refl _⟩
  · rw [if_pos c3] at h
    refine mx_iload_n (pc := 12) C dX8_lowest_12 rfl ?_
    refine mx_iload (pc := 13) C dX8_lowest_13 rfl ?_
    obtain ⟨g5, h⟩ := of_nz h
    refine mx_idiv (pc := 15) C dX8_lowest_15 g5 ?_
    refine mx_i2l (pc := 16) C dX8_lowest_16  ?_
    refine mx_goto (pc := 17) (tgt := 25) C dX8_lowest_17 rfl ?_
    rw [← Option.some.inj h]
    exact mx_lreturn (pc := 25) C dX8_lowest_25 hOq1 ⟨Nat.le_refl _, Nat.le_refl _⟩

def f_X8_odds_79 (p1 : Int) (p2 : Int) (k34 : Int → Int → Int → Int → Mem → Option (Int × Mem)) (x1 : Int) (x2 : Int) (x4 : Int) (x5 : Int) (t0 : Int) (t1 : Int) (M : Mem) : Option (Int × Mem) :=
  if 0 ≤ x4 ∧ x4 < 6 then lt (stM M 131 x4 x5) (fun M2 => k34 x1 x2 (w32 (t0 + t1)) (w32 (x4 + 1)) M2) else none
def f_X8_odds_34 (p1 : Int) (p2 : Int) : Nat → Int → Int → Int → Int → Mem → Option (Int × Mem)
  | 0, _, _, _, _, _ => none
  | n + 1, x1, x2, x3, x4, M => if M 127 0 ≤ x4 then (f_X8_lowest x3 (M 127 0) x2 M).bind (fun q2 => some (q2.1, q2.2)) else if 0 ≤ x4 ∧ x4 < 6 then if 0 ≤ x4 ∧ x4 < 6 then lt (stM M 131 x4 (-5)) (fun M6 => (f_X8_noise x1 M6).bind (fun q7 => (f_X8_calm q7.2).bind (fun q9 => if q9.1 < q7.1 then f_X8_odds_79 p1 p2 (f_X8_odds_34 p1 p2 n) x1 x2 x4 (M 131 x4) x3 0 q9.2 else f_X8_odds_79 p1 p2 (f_X8_odds_34 p1 p2 n) x1 x2 x4 (M 131 x4) x3 1 q9.2))) else none else none
def f_X8_odds (p1 : Int) (p2 : Int) (M : Mem) : Option (Int × Mem) :=
  (f_X8_isHouse p1 M).bind (fun q1 => if q1.1 = 0 then some ((-9223372036854775808), q1.2) else (f_X8_in p2 0 1 q1.2).bind (fun q4 => if q4.1 = 0 then some ((-9223372036854775808), q4.2) else if q4.2 127 0 = 0 then some ((-9223372036854775808), q4.2) else f_X8_odds_34 p1 p2 FU p1 p2 0 0 q4.2))
set_option maxRecDepth 20000 in
set_option maxHeartbeats 4000000 in
theorem b_X8_odds_79 {K : KX} {B : BX} {res : Int × Mem} {p1 : Int} {p2 : Int} {k34 : Int → Int → Int → Int → Mem → Option (Int × Mem)} (C : Cx K B false yX8_odds cX8_odds 6 (some .long) 7 0 0) (hk34 : ∀ (x1 : Int) (x2 : Int) (x3 : Int) (x4 : Int) (M : Mem), OK M → k34 x1 x2 x3 x4 M = some res → Wx K B (Zr K B (some (aJ res.1)) SH res.2 (OK res.2) 0 0) 0 0 SH 6 M 34 [some (aR 127), some (aI x1), some (aI x2), some (aI x3), some (aI x4), none] []) : ∀ (x1 : Int) (x2 : Int) (x4 : Int) (x5 : Int) (t0 : Int) (t1 : Int) (M : Mem), OK M → f_X8_odds_79 p1 p2 k34 x1 x2 x4 x5 t0 t1 M = some res → Wx K B (Zr K B (some (aJ res.1)) SH res.2 (OK res.2) 0 0) 0 0 SH 6 M 79 [some (aR 127), some (aI x1), some (aI x2), none, some (aI x4), some (aI x5)] [aI t1, aI t0] := by
  intro x1 x2 x4 x5 t0 t1 M hOM h
  unfold f_X8_odds_79 at h
  refine mx_iadd (pc := 79) C dX8_odds_79  ?_
  refine mx_istore_n (pc := 80) C dX8_odds_80 (ls' := [some (aR 127), some (aI x1), some (aI x2), some (aI (w32 (t0 + t1))), some (aI x4), some (aI x5)]) (by decide) rfl rfl ?_
  refine mx_aload_n (pc := 81) C dX8_odds_81 rfl ?_
  refine mx_getR (pc := 82) (v := 131) C dX8_odds_82 so_8 ci_8 (k := 5) (by decide) fl_X8_26 rfl (q := 5) rfl (lay_8_5 hOM) (by decide) ?_
  refine mx_iload (pc := 85) C dX8_odds_85 rfl ?_
  refine mx_iload (pc := 87) C dX8_odds_87 rfl ?_
  obtain ⟨g1, h⟩ := of_gd h
  refine mx_iast (pc := 89) C dX8_odds_89 sh_8_5 g1.1 g1.2 ?_
  generalize hmM2 : stM M 131 x4 x5 = M2 at h ⊢
  replace h := lt_e h
  have hOM2 : OK M2 := by rw [← hmM2]; exact ok_arr hOM sh_8_5 (by decide)
  refine mx_iinc (pc := 90) C dX8_odds_90 (ls' := [some (aR 127), some (aI x1), some (aI x2), some (aI (w32 (t0 + t1))), some (aI (w32 (x4 + 1))), some (aI x5)]) rfl (by decide) rfl (by constructor <;> decide) rfl rfl ?_
  refine mx_goto (pc := 93) (tgt := 34) C dX8_odds_93 rfl ?_
  refine mx_mask [true, true, true, true, true, false] (ls' := [some (aR 127), some (aI x1), some (aI x2), some (aI (w32 (t0 + t1))), some (aI (w32 (x4 + 1))), none]) rfl rfl ?_
  exact hk34 x1 x2 (w32 (t0 + t1)) (w32 (x4 + 1)) M2 hOM2 h
set_option maxRecDepth 20000 in
set_option maxHeartbeats 4000000 in
theorem b_X8_odds_34 {K : KX} {B : BX} {res : Int × Mem} {p1 : Int} {p2 : Int} (C : Cx K B false yX8_odds cX8_odds 6 (some .long) 7 0 0) : ∀ (n : Nat) (x1 : Int) (x2 : Int) (x3 : Int) (x4 : Int) (M : Mem), OK M → f_X8_odds_34 p1 p2 n x1 x2 x3 x4 M = some res → Wx K B (Zr K B (some (aJ res.1)) SH res.2 (OK res.2) 0 0) 0 0 SH 6 M 34 [some (aR 127), some (aI x1), some (aI x2), some (aI x3), some (aI x4), none] [] := by
  intro n
  induction n with
  | zero =>
    intro x1 x2 x3 x4 M hOM h
    cases h
  | succ n ih =>
    intro x1 x2 x3 x4 M hOM h
    rw [f_X8_odds_34.eq_2] at h
    refine mx_iload (pc := 34) C dX8_odds_34 rfl ?_
    refine mx_aload_n (pc := 36) C dX8_odds_36 rfl ?_
    refine mx_getI (pc := 37) C dX8_odds_37 so_8 ci_8 (k := 0) (by decide) fl_X8_7 rfl (q := 0) rfl ?_
    refine mx_icmp_ge (pc := 40) (tgt := 96) C dX8_odds_40 rfl (fun c1 => ?_) (fun c1 => ?_)
    · rw [if_pos c1] at h
      refine mx_aload_n (pc := 96) C dX8_odds_96 rfl ?_
      refine mx_iload_n (pc := 97) C dX8_odds_97 rfl ?_
      refine mx_aload_n (pc := 98) C dX8_odds_98 rfl ?_
      refine mx_getI (pc := 99) C dX8_odds_99 so_8 ci_8 (k := 0) (by decide) fl_X8_7 rfl (q := 0) rfl ?_
      refine mx_iload_n (pc := 102) C dX8_odds_102 rfl ?_
      obtain ⟨q2, hq2, h⟩ := of_bd h
      refine mc_V (pc := 103) (as := [aI x3, aI (M 127 0), aI x2]) (rest := []) (stk2 := [aJ q2.1]) C ⟨Nat.le_refl _, Nat.le_refl _⟩ (m_X8_lowest hOM hq2) mi_X8_lowest mv_X8_lowest ml_X8_399 ci_8 rfl so_8 (by omega) rfl (Nat.le_of_ble_eq_true rfl) dX8_odds_103 rfl (fun hp3 => ?_)
      have hOq2 : OK q2.2 := hp3
      rw [← Option.some.inj h]
      exact mx_lreturn (pc := 106) C dX8_odds_106 hOq2 ⟨Nat.le_refl _, Nat.le_refl _⟩
    · rw [if_neg c1] at h
      refine mx_aload_n (pc := 43) C dX8_odds_43 rfl ?_
      refine mx_getR (pc := 44) (v := 131) C dX8_odds_44 so_8 ci_8 (k := 5) (by decide) fl_X8_26 rfl (q := 5) rfl (lay_8_5 hOM) (by decide) ?_
      refine mx_iload (pc := 47) C dX8_odds_47 rfl ?_
      obtain ⟨g4, h⟩ := of_gd h
      refine mx_iald (pc := 49) C dX8_odds_49 sh_8_5 g4.1 g4.2 ?_
      refine mx_istore (pc := 50) C dX8_odds_50 (ls' := [some (aR 127), some (aI x1), some (aI x2), some (aI x3), some (aI x4), some (aI (M 131 x4))]) (by decide) rfl rfl ?_
      refine mx_aload_n (pc := 52) C dX8_odds_52 rfl ?_
      refine mx_getR (pc := 53) (v := 131) C dX8_odds_53 so_8 ci_8 (k := 5) (by decide) fl_X8_26 rfl (q := 5) rfl (lay_8_5 hOM) (by decide) ?_
      refine mx_iload (pc := 56) C dX8_odds_56 rfl ?_
      refine mx_bipush (pc := 58) C dX8_odds_58 (z := (-5)) rfl (by constructor <;> decide) ?_
      obtain ⟨g5, h⟩ := of_gd h
      refine mx_iast (pc := 60) C dX8_odds_60 sh_8_5 g5.1 g5.2 ?_
      generalize hmM6 : stM M 131 x4 (-5) = M6 at h ⊢
      replace h := lt_e h
      have hOM6 : OK M6 := by rw [← hmM6]; exact ok_arr hOM sh_8_5 (by decide)
      refine mx_iload_n (pc := 61) C dX8_odds_61 rfl ?_
      refine mx_aload_n (pc := 62) C dX8_odds_62 rfl ?_
      refine mx_iload_n (pc := 63) C dX8_odds_63 rfl ?_
      obtain ⟨q7, hq7, h⟩ := of_bd h
      refine mc_V (pc := 64) (as := [aI x1]) (rest := [aI x3]) (stk2 := [aI q7.1, aI x3]) C ⟨Nat.le_refl _, Nat.le_refl _⟩ (m_X8_noise hOM6 hq7) mi_X8_noise mv_X8_noise ml_X8_239 ci_8 rfl so_8 (by omega) rfl (Nat.le_of_ble_eq_true rfl) dX8_odds_64 rfl (fun hp8 => ?_)
      have hOq7 : OK q7.2 := hp8
      refine mx_aload_n (pc := 67) C dX8_odds_67 rfl ?_
      obtain ⟨q9, hq9, h⟩ := of_bd h
      refine mc_V (pc := 68) (as := []) (rest := [aI q7.1, aI x3]) (stk2 := [aI q9.1, aI q7.1, aI x3]) C ⟨Nat.le_refl _, Nat.le_refl _⟩ (m_X8_calm hOq7 hq9) mi_X8_calm mv_X8_calm ml_X8_326 ci_8 rfl so_8 (by omega) rfl (Nat.le_of_ble_eq_true rfl) dX8_odds_68 rfl (fun hp10 => ?_)
      have hOq9 : OK q9.2 := hp10
      refine mx_icmp_gt (pc := 71) (tgt := 78) C dX8_odds_71 rfl (fun c11 => ?_) (fun c11 => ?_)
      · rw [if_pos c11] at h
        refine mx_iconst (pc := 78) C dX8_odds_78 (z := 0) rfl (by constructor <;> decide) ?_
        refine mx_mask [true, true, true, false, true, true] (ls' := [some (aR 127), some (aI x1), some (aI x2), none, some (aI x4), some (aI (M 131 x4))]) rfl rfl ?_
        exact b_X8_odds_79 C ih x1 x2 x4 (M 131 x4) x3 0 q9.2 hOq9 h
      · rw [if_neg c11] at h
        refine mx_iconst (pc := 74) C dX8_odds_74 (z := 1) rfl (by constructor <;> decide) ?_
        refine mx_goto (pc := 75) (tgt := 79) C dX8_odds_75 rfl ?_
        refine mx_mask [true, true, true, false, true, true] (ls' := [some (aR 127), some (aI x1), some (aI x2), none, some (aI x4), some (aI (M 131 x4))]) rfl rfl ?_
        exact b_X8_odds_79 C ih x1 x2 x4 (M 131 x4) x3 1 q9.2 hOq9 h
set_option maxRecDepth 20000 in
set_option maxHeartbeats 4000000 in
theorem m_X8_odds {p1 : Int} {p2 : Int} {M : Mem} {res : Int × Mem} (hOM : OK M) (h : f_X8_odds p1 p2 M = some res) : Mth false yX8_odds cX8_odds 6 (some .long) 7 0 0 SH [aR 127, aI p1, aI p2] M (some (aJ res.1)) SH res.2 (OK res.2) := by
  refine Mth.of (by decide +kernel) (Nat.le_of_ble_eq_true rfl) (fun K B C => ?_)
  show Wx K B _ 0 0 SH 6 M 0 [some (aR 127), some (aI p1), some (aI p2), none, none, none] []
  unfold f_X8_odds at h
  refine mx_aload_n (pc := 0) C dX8_odds_0 rfl ?_
  refine mx_iload_n (pc := 1) C dX8_odds_1 rfl ?_
  obtain ⟨q1, hq1, h⟩ := of_bd h
  refine mc_V (pc := 2) (as := [aI p1]) (rest := []) (stk2 := [aI q1.1]) C ⟨Nat.le_refl _, Nat.le_refl _⟩ (m_X8_isHouse hOM hq1) mi_X8_isHouse mv_X8_isHouse ml_X8_222 ci_8 rfl so_8 (by omega) rfl (Nat.le_of_ble_eq_true rfl) dX8_odds_2 rfl (fun hp2 => ?_)
  have hOq1 : OK q1.2 := hp2.1
  refine mx_if_eq (pc := 5) (tgt := 25) C dX8_odds_5 rfl (fun c3 => ?_) (fun c3 => ?_)
  · rw [if_pos c3] at h
    refine mx_ldc2 (pc := 25) C dX8_odds_25 kl_X8_397 (by constructor <;> decide) ?_
    rw [← Option.some.inj h]
    exact mx_lreturn (pc := 28) C dX8_odds_28 hOq1 ⟨Nat.le_refl _, Nat.le_refl _⟩
  · rw [if_neg c3] at h
    refine mx_aload_n (pc := 8) C dX8_odds_8 rfl ?_
    refine mx_iload_n (pc := 9) C dX8_odds_9 rfl ?_
    refine mx_iconst (pc := 10) C dX8_odds_10 (z := 0) rfl (by constructor <;> decide) ?_
    refine mx_iconst (pc := 11) C dX8_odds_11 (z := 1) rfl (by constructor <;> decide) ?_
    obtain ⟨q4, hq4, h⟩ := of_bd h
    refine mc_V (pc := 12) (as := [aI p2, aI 0, aI 1]) (rest := []) (stk2 := [aI q4.1]) C ⟨Nat.le_refl _, Nat.le_refl _⟩ (m_X8_in hOq1 hq4) mi_X8_in mv_X8_in ml_X8_218 ci_8 rfl so_8 (by omega) rfl (Nat.le_of_ble_eq_true rfl) dX8_odds_12 rfl (fun hp5 => ?_)
    have hOq4 : OK q4.2 := hp5.1
    refine mx_if_eq (pc := 15) (tgt := 25) C dX8_odds_15 rfl (fun c6 => ?_) (fun c6 => ?_)
    · rw [if_pos c6] at h
      refine mx_ldc2 (pc := 25) C dX8_odds_25 kl_X8_397 (by constructor <;> decide) ?_
      rw [← Option.some.inj h]
      exact mx_lreturn (pc := 28) C dX8_odds_28 hOq4 ⟨Nat.le_refl _, Nat.le_refl _⟩
    · rw [if_neg c6] at h
      refine mx_aload_n (pc := 18) C dX8_odds_18 rfl ?_
      refine mx_getI (pc := 19) C dX8_odds_19 so_8 ci_8 (k := 0) (by decide) fl_X8_7 rfl (q := 0) rfl ?_
      refine mx_if_ne (pc := 22) (tgt := 29) C dX8_odds_22 rfl (fun c7 => ?_) (fun c7 => ?_)
      · rw [if_neg c7] at h
        refine mx_iconst (pc := 29) C dX8_odds_29 (z := 0) rfl (by constructor <;> decide) ?_
        refine mx_istore_n (pc := 30) C dX8_odds_30 (ls' := [some (aR 127), some (aI p1), some (aI p2), some (aI 0), none, none]) (by decide) rfl rfl ?_
        refine mx_iconst (pc := 31) C dX8_odds_31 (z := 0) rfl (by constructor <;> decide) ?_
        refine mx_istore (pc := 32) C dX8_odds_32 (ls' := [some (aR 127), some (aI p1), some (aI p2), some (aI 0), some (aI 0), none]) (by decide) rfl rfl ?_
        exact b_X8_odds_34 C FU p1 p2 0 0 q4.2 hOq4 h
      · rw [if_pos c7] at h
        refine mx_ldc2 (pc := 25) C dX8_odds_25 kl_X8_397 (by constructor <;> decide) ?_
        rw [← Option.some.inj h]
        exact mx_lreturn (pc := 28) C dX8_odds_28 hOq4 ⟨Nat.le_refl _, Nat.le_refl _⟩

def f_X8_mean (p1 : Int) (p2 : Int) (M : Mem) : Option (Int × Mem) :=
  (f_X8_isYears p1 M).bind (fun q1 => if q1.1 = 0 then some ((-9223372036854775808), q1.2) else (f_X8_in p2 0 1 q1.2).bind (fun q4 => if q4.1 = 0 then some ((-9223372036854775808), q4.2) else (f_X8_save q4.2).bind (fun q7 => (f_X8_goYears p1 q7.2).bind (fun q9 => (f_X8_layNoises q9.2).bind (fun q11 => (f_X8_sumLaid q11.2).bind (fun q13 => (f_X8_putBack q13.2).bind (fun q15 => (f_X8_lowest q13.1 5 p2 q15.2).bind (fun q17 => some (q17.1, q17.2)))))))))
set_option maxRecDepth 20000 in
set_option maxHeartbeats 4000000 in
theorem m_X8_mean {p1 : Int} {p2 : Int} {M : Mem} {res : Int × Mem} (hOM : OK M) (h : f_X8_mean p1 p2 M = some res) : Mth false yX8_mean cX8_mean 4 (some .long) 7 0 0 SH [aR 127, aI p1, aI p2] M (some (aJ res.1)) SH res.2 (OK res.2) := by
  refine Mth.of (by decide +kernel) (Nat.le_of_ble_eq_true rfl) (fun K B C => ?_)
  show Wx K B _ 0 0 SH 4 M 0 [some (aR 127), some (aI p1), some (aI p2), none] []
  unfold f_X8_mean at h
  refine mx_aload_n (pc := 0) C dX8_mean_0 rfl ?_
  refine mx_iload_n (pc := 1) C dX8_mean_1 rfl ?_
  obtain ⟨q1, hq1, h⟩ := of_bd h
  refine mc_V (pc := 2) (as := [aI p1]) (rest := []) (stk2 := [aI q1.1]) C ⟨Nat.le_refl _, Nat.le_refl _⟩ (m_X8_isYears hOM hq1) mi_X8_isYears mv_X8_isYears ml_X8_347 ci_8 rfl so_8 (by omega) rfl (Nat.le_of_ble_eq_true rfl) dX8_mean_2 rfl (fun hp2 => ?_)
  have hOq1 : OK q1.2 := hp2.1
  refine mx_if_eq (pc := 5) (tgt := 18) C dX8_mean_5 rfl (fun c3 => ?_) (fun c3 => ?_)
  · rw [if_pos c3] at h
    refine mx_ldc2 (pc := 18) C dX8_mean_18 kl_X8_397 (by constructor <;> decide) ?_
    rw [← Option.some.inj h]
    exact mx_lreturn (pc := 21) C dX8_mean_21 hOq1 ⟨Nat.le_refl _, Nat.le_refl _⟩
  · rw [if_neg c3] at h
    refine mx_aload_n (pc := 8) C dX8_mean_8 rfl ?_
    refine mx_iload_n (pc := 9) C dX8_mean_9 rfl ?_
    refine mx_iconst (pc := 10) C dX8_mean_10 (z := 0) rfl (by constructor <;> decide) ?_
    refine mx_iconst (pc := 11) C dX8_mean_11 (z := 1) rfl (by constructor <;> decide) ?_
    obtain ⟨q4, hq4, h⟩ := of_bd h
    refine mc_V (pc := 12) (as := [aI p2, aI 0, aI 1]) (rest := []) (stk2 := [aI q4.1]) C ⟨Nat.le_refl _, Nat.le_refl _⟩ (m_X8_in hOq1 hq4) mi_X8_in mv_X8_in ml_X8_218 ci_8 rfl so_8 (by omega) rfl (Nat.le_of_ble_eq_true rfl) dX8_mean_12 rfl (fun hp5 => ?_)
    have hOq4 : OK q4.2 := hp5.1
    refine mx_if_ne (pc := 15) (tgt := 22) C dX8_mean_15 rfl (fun c6 => ?_) (fun c6 => ?_)
    · rw [if_neg c6] at h
      refine mx_aload_n (pc := 22) C dX8_mean_22 rfl ?_
      obtain ⟨q7, hq7, h⟩ := of_bd h
      refine mc_V (pc := 23) (as := []) (rest := []) (stk2 := []) C ⟨Nat.le_refl _, Nat.le_refl _⟩ (m_X8_save hOq4 hq7) mi_X8_save mv_X8_save ml_X8_353 ci_8 rfl so_8 (by omega) rfl (Nat.le_of_ble_eq_true rfl) dX8_mean_23 rfl (fun hp8 => ?_)
      have hOq7 : OK q7.2 := hp8
      refine mx_aload_n (pc := 26) C dX8_mean_26 rfl ?_
      refine mx_iload_n (pc := 27) C dX8_mean_27 rfl ?_
      obtain ⟨q9, hq9, h⟩ := of_bd h
      refine mc_V (pc := 28) (as := [aI p1]) (rest := []) (stk2 := []) C ⟨Nat.le_refl _, Nat.le_refl _⟩ (m_X8_goYears hOq7 hq9) mi_X8_goYears mv_X8_goYears ml_X8_350 ci_8 rfl so_8 (by omega) rfl (Nat.le_of_ble_eq_true rfl) dX8_mean_28 rfl (fun hp10 => ?_)
      have hOq9 : OK q9.2 := hp10
      refine mx_aload_n (pc := 31) C dX8_mean_31 rfl ?_
      obtain ⟨q11, hq11, h⟩ := of_bd h
      refine mc_V (pc := 32) (as := []) (rest := []) (stk2 := []) C ⟨Nat.le_refl _, Nat.le_refl _⟩ (m_X8_layNoises hOq9 hq11) mi_X8_layNoises mv_X8_layNoises ml_X8_320 ci_8 rfl so_8 (by omega) rfl (Nat.le_of_ble_eq_true rfl) dX8_mean_32 rfl (fun hp12 => ?_)
      have hOq11 : OK q11.2 := hp12
      refine mx_aload_n (pc := 35) C dX8_mean_35 rfl ?_
      obtain ⟨q13, hq13, h⟩ := of_bd h
      refine mc_V (pc := 36) (as := []) (rest := []) (stk2 := [aI q13.1]) C ⟨Nat.le_refl _, Nat.le_refl _⟩ (m_X8_sumLaid hOq11 hq13) mi_X8_sumLaid mv_X8_sumLaid ml_X8_366 ci_8 rfl so_8 (by omega) rfl (Nat.le_of_ble_eq_true rfl) dX8_mean_36 rfl (fun hp14 => ?_)
      have hOq13 : OK q13.2 := hp14
      refine mx_istore_n (pc := 39) C dX8_mean_39 (ls' := [some (aR 127), some (aI p1), some (aI p2), some (aI q13.1)]) (by decide) rfl rfl ?_
      refine mx_aload_n (pc := 40) C dX8_mean_40 rfl ?_
      obtain ⟨q15, hq15, h⟩ := of_bd h
      refine mc_V (pc := 41) (as := []) (rest := []) (stk2 := []) C ⟨Nat.le_refl _, Nat.le_refl _⟩ (m_X8_putBack hOq13 hq15) mi_X8_putBack mv_X8_putBack ml_X8_356 ci_8 rfl so_8 (by omega) rfl (Nat.le_of_ble_eq_true rfl) dX8_mean_41 rfl (fun hp16 => ?_)
      have hOq15 : OK q15.2 := hp16
      refine mx_aload_n (pc := 44) C dX8_mean_44 rfl ?_
      refine mx_iload_n (pc := 45) C dX8_mean_45 rfl ?_
      refine mx_iconst (pc := 46) C dX8_mean_46 (z := 5) rfl (by constructor <;> decide) ?_
      refine mx_iload_n (pc := 47) C dX8_mean_47 rfl ?_
      obtain ⟨q17, hq17, h⟩ := of_bd h
      refine mc_V (pc := 48) (as := [aI q13.1, aI 5, aI p2]) (rest := []) (stk2 := [aJ q17.1]) C ⟨Nat.le_refl _, Nat.le_refl _⟩ (m_X8_lowest hOq15 hq17) mi_X8_lowest mv_X8_lowest ml_X8_399 ci_8 rfl so_8 (by omega) rfl (Nat.le_of_ble_eq_true rfl) dX8_mean_48 rfl (fun hp18 => ?_)
      have hOq17 : OK q17.2 := hp18
      rw [← Option.some.inj h]
      exact mx_lreturn (pc := 51) C dX8_mean_51 hOq17 ⟨Nat.le_refl _, Nat.le_refl _⟩
    · rw [if_pos c6] at h
      refine mx_ldc2 (pc := 18) C dX8_mean_18 kl_X8_397 (by constructor <;> decide) ?_
      rw [← Option.some.inj h]
      exact mx_lreturn (pc := 21) C dX8_mean_21 hOq4 ⟨Nat.le_refl _, Nat.le_refl _⟩

def f_X8_plan_75 (p1 : Int) (p2 : Int) (t1 : Int) (t2 : Int) (M : Mem) : Option (Int × Mem) :=
  if 0 ≤ t1 ∧ t1 < 10 then lt (stM M 152 t1 t2) (fun M2 => lt (stM M2 127 37 (w32 ((M2 127 37) + 1))) (fun M3 => some (M3 127 37, M3))) else none
def f_X8_plan_36 (p1 : Int) (p2 : Int) (x1 : Int) (x2 : Int) (M : Mem) : Option (Int × Mem) :=
  if M 127 37 = 10 then some ((-4), M) else if 0 ≤ M 127 37 ∧ M 127 37 < 10 then lt (stM M 151 (M 127 37) x1) (fun M3 => if x1 ≤ 0 then f_X8_plan_75 p1 p2 (M3 127 37) 0 M3 else f_X8_plan_75 p1 p2 (M3 127 37) x2 M3) else none
def f_X8_plan (p1 : Int) (p2 : Int) (M : Mem) : Option (Int × Mem) :=
  if p1 = (-1) then lt (stM M 127 37 0) (fun M9 => some (0, M9)) else (f_X8_in p1 0 3 M).bind (fun q2 => if q2.1 = 0 then some ((-1), q2.2) else if p1 ≤ 0 then f_X8_plan_36 p1 p2 p1 p2 q2.2 else (f_X8_isSound p2 q2.2).bind (fun q6 => if q6.1 = 0 then some ((-1), q6.2) else f_X8_plan_36 p1 p2 p1 p2 q6.2))
set_option maxRecDepth 20000 in
set_option maxHeartbeats 4000000 in
theorem b_X8_plan_75 {K : KX} {B : BX} {res : Int × Mem} {p1 : Int} {p2 : Int} (C : Cx K B false yX8_plan cX8_plan 3 (some .int) 3 0 0) : ∀ (t1 : Int) (t2 : Int) (M : Mem), OK M → f_X8_plan_75 p1 p2 t1 t2 M = some res → Wx K B (Zr K B (some (aI res.1)) SH res.2 (OK res.2) 0 0) 0 0 SH 3 M 75 [some (aR 127), none, none] [aI t2, aI t1, aR 152] := by
  intro t1 t2 M hOM h
  unfold f_X8_plan_75 at h
  obtain ⟨g1, h⟩ := of_gd h
  refine mx_iast (pc := 75) C dX8_plan_75 sh_8_40 g1.1 g1.2 ?_
  generalize hmM2 : stM M 152 t1 t2 = M2 at h ⊢
  replace h := lt_e h
  have hOM2 : OK M2 := by rw [← hmM2]; exact ok_arr hOM sh_8_40 (by decide)
  refine mx_aload_n (pc := 76) C dX8_plan_76 rfl ?_
  refine mx_dup (pc := 77) C dX8_plan_77 rfl ?_
  refine mx_getI (pc := 78) C dX8_plan_78 so_8 ci_8 (k := 37) (by decide) fl_X8_123 rfl (q := 37) rfl ?_
  refine mx_iconst (pc := 81) C dX8_plan_81 (z := 1) rfl (by constructor <;> decide) ?_
  refine mx_iadd (pc := 82) C dX8_plan_82  ?_
  refine mx_putI (pc := 83) C dX8_plan_83 so_8 ci_8 (k := 37) (by decide) fl_X8_123 (Or.inl rfl) rfl (q := 37) rfl ?_
  generalize hmM3 : stM M2 127 37 (w32 ((M2 127 37) + 1)) = M3 at h ⊢
  replace h := lt_e h
  have hOM3 : OK M3 := by rw [← hmM3]; exact okf_8_37 hOM2
  refine mx_aload_n (pc := 86) C dX8_plan_86 rfl ?_
  refine mx_getI (pc := 87) C dX8_plan_87 so_8 ci_8 (k := 37) (by decide) fl_X8_123 rfl (q := 37) rfl ?_
  rw [← Option.some.inj h]
  exact mx_ireturn (pc := 90) C dX8_plan_90 hOM3 ⟨Nat.le_refl _, Nat.le_refl _⟩
set_option maxRecDepth 20000 in
set_option maxHeartbeats 4000000 in
theorem b_X8_plan_36 {K : KX} {B : BX} {res : Int × Mem} {p1 : Int} {p2 : Int} (C : Cx K B false yX8_plan cX8_plan 3 (some .int) 3 0 0) : ∀ (x1 : Int) (x2 : Int) (M : Mem), OK M → f_X8_plan_36 p1 p2 x1 x2 M = some res → Wx K B (Zr K B (some (aI res.1)) SH res.2 (OK res.2) 0 0) 0 0 SH 3 M 36 [some (aR 127), some (aI x1), some (aI x2)] [] := by
  intro x1 x2 M hOM h
  unfold f_X8_plan_36 at h
  refine mx_aload_n (pc := 36) C dX8_plan_36 rfl ?_
  refine mx_getI (pc := 37) C dX8_plan_37 so_8 ci_8 (k := 37) (by decide) fl_X8_123 rfl (q := 37) rfl ?_
  refine mx_bipush (pc := 40) C dX8_plan_40 (z := 10) rfl (by constructor <;> decide) ?_
  refine mx_icmp_ne (pc := 42) (tgt := 48) C dX8_plan_42 rfl (fun c1 => ?_) (fun c1 => ?_)
  · rw [if_neg c1] at h
    refine mx_aload_n (pc := 48) C dX8_plan_48 rfl ?_
    refine mx_getR (pc := 49) (v := 151) C dX8_plan_49 so_8 ci_8 (k := 39) (by decide) fl_X8_129 rfl (q := 39) rfl (lay_8_39 hOM) (by decide) ?_
    refine mx_aload_n (pc := 52) C dX8_plan_52 rfl ?_
    refine mx_getI (pc := 53) C dX8_plan_53 so_8 ci_8 (k := 37) (by decide) fl_X8_123 rfl (q := 37) rfl ?_
    refine mx_iload_n (pc := 56) C dX8_plan_56 rfl ?_
    obtain ⟨g2, h⟩ := of_gd h
    refine mx_iast (pc := 57) C dX8_plan_57 sh_8_39 g2.1 g2.2 ?_
    generalize hmM3 : stM M 151 (M 127 37) x1 = M3 at h ⊢
    replace h := lt_e h
    have hOM3 : OK M3 := by rw [← hmM3]; exact ok_arr hOM sh_8_39 (by decide)
    refine mx_aload_n (pc := 58) C dX8_plan_58 rfl ?_
    refine mx_getR (pc := 59) (v := 152) C dX8_plan_59 so_8 ci_8 (k := 40) (by decide) fl_X8_132 rfl (q := 40) rfl (lay_8_40 hOM3) (by decide) ?_
    refine mx_aload_n (pc := 62) C dX8_plan_62 rfl ?_
    refine mx_getI (pc := 63) C dX8_plan_63 so_8 ci_8 (k := 37) (by decide) fl_X8_123 rfl (q := 37) rfl ?_
    refine mx_iload_n (pc := 66) C dX8_plan_66 rfl ?_
    refine mx_if_le (pc := 67) (tgt := 74) C dX8_plan_67 rfl (fun c4 => ?_) (fun c4 => ?_)
    · rw [if_pos c4] at h
      refine mx_iconst (pc := 74) C dX8_plan_74 (z := 0) rfl (by constructor <;> decide) ?_
      refine mx_mask [true, false, false] (ls' := [some (aR 127), none, none]) rfl rfl ?_
      exact b_X8_plan_75 C (M3 127 37) 0 M3 hOM3 h
    · rw [if_neg c4] at h
      refine mx_iload_n (pc := 70) C dX8_plan_70 rfl ?_
      refine mx_goto (pc := 71) (tgt := 75) C dX8_plan_71 rfl ?_
      refine mx_mask [true, false, false] (ls' := [some (aR 127), none, none]) rfl rfl ?_
      exact b_X8_plan_75 C (M3 127 37) x2 M3 hOM3 h
  · rw [if_pos c1] at h
    refine mx_bipush (pc := 45) C dX8_plan_45 (z := (-4)) rfl (by constructor <;> decide) ?_
    rw [← Option.some.inj h]
    exact mx_ireturn (pc := 47) C dX8_plan_47 hOM ⟨Nat.le_refl _, Nat.le_refl _⟩
set_option maxRecDepth 20000 in
set_option maxHeartbeats 4000000 in
theorem m_X8_plan {p1 : Int} {p2 : Int} {M : Mem} {res : Int × Mem} (hOM : OK M) (h : f_X8_plan p1 p2 M = some res) : Mth false yX8_plan cX8_plan 3 (some .int) 3 0 0 SH [aR 127, aI p1, aI p2] M (some (aI res.1)) SH res.2 (OK res.2) := by
  refine Mth.of (by decide +kernel) (Nat.le_of_ble_eq_true rfl) (fun K B C => ?_)
  show Wx K B _ 0 0 SH 3 M 0 [some (aR 127), some (aI p1), some (aI p2)] []
  unfold f_X8_plan at h
  refine mx_iload_n (pc := 0) C dX8_plan_0 rfl ?_
  refine mx_iconst (pc := 1) C dX8_plan_1 (z := (-1)) rfl (by constructor <;> decide) ?_
  refine mx_icmp_ne (pc := 2) (tgt := 12) C dX8_plan_2 rfl (fun c1 => ?_) (fun c1 => ?_)
  · rw [if_neg c1] at h
    refine mx_aload_n (pc := 12) C dX8_plan_12 rfl ?_
    refine mx_iload_n (pc := 13) C dX8_plan_13 rfl ?_
    refine mx_iconst (pc := 14) C dX8_plan_14 (z := 0) rfl (by constructor <;> decide) ?_
    refine mx_iconst (pc := 15) C dX8_plan_15 (z := 3) rfl (by constructor <;> decide) ?_
    obtain ⟨q2, hq2, h⟩ := of_bd h
    refine mc_V (pc := 16) (as := [aI p1, aI 0, aI 3]) (rest := []) (stk2 := [aI q2.1]) C ⟨Nat.le_refl _, Nat.le_refl _⟩ (m_X8_in hOM hq2) mi_X8_in mv_X8_in ml_X8_218 ci_8 rfl so_8 (by omega) rfl (Nat.le_of_ble_eq_true rfl) dX8_plan_16 rfl (fun hp3 => ?_)
    have hOq2 : OK q2.2 := hp3.1
    refine mx_if_eq (pc := 19) (tgt := 34) C dX8_plan_19 rfl (fun c4 => ?_) (fun c4 => ?_)
    · rw [if_pos c4] at h
      refine mx_iconst (pc := 34) C dX8_plan_34 (z := (-1)) rfl (by constructor <;> decide) ?_
      rw [← Option.some.inj h]
      exact mx_ireturn (pc := 35) C dX8_plan_35 hOq2 ⟨Nat.le_refl _, Nat.le_refl _⟩
    · rw [if_neg c4] at h
      refine mx_iload_n (pc := 22) C dX8_plan_22 rfl ?_
      refine mx_if_le (pc := 23) (tgt := 36) C dX8_plan_23 rfl (fun c5 => ?_) (fun c5 => ?_)
      · rw [if_pos c5] at h
        exact b_X8_plan_36 C p1 p2 q2.2 hOq2 h
      · rw [if_neg c5] at h
        refine mx_aload_n (pc := 26) C dX8_plan_26 rfl ?_
        refine mx_iload_n (pc := 27) C dX8_plan_27 rfl ?_
        obtain ⟨q6, hq6, h⟩ := of_bd h
        refine mc_V (pc := 28) (as := [aI p2]) (rest := []) (stk2 := [aI q6.1]) C ⟨Nat.le_refl _, Nat.le_refl _⟩ (m_X8_isSound hOq2 hq6) mi_X8_isSound mv_X8_isSound ml_X8_229 ci_8 rfl so_8 (by omega) rfl (Nat.le_of_ble_eq_true rfl) dX8_plan_28 rfl (fun hp7 => ?_)
        have hOq6 : OK q6.2 := hp7.1
        refine mx_if_ne (pc := 31) (tgt := 36) C dX8_plan_31 rfl (fun c8 => ?_) (fun c8 => ?_)
        · rw [if_neg c8] at h
          exact b_X8_plan_36 C p1 p2 q6.2 hOq6 h
        · rw [if_pos c8] at h
          refine mx_iconst (pc := 34) C dX8_plan_34 (z := (-1)) rfl (by constructor <;> decide) ?_
          rw [← Option.some.inj h]
          exact mx_ireturn (pc := 35) C dX8_plan_35 hOq6 ⟨Nat.le_refl _, Nat.le_refl _⟩
  · rw [if_pos c1] at h
    refine mx_aload_n (pc := 5) C dX8_plan_5 rfl ?_
    refine mx_iconst (pc := 6) C dX8_plan_6 (z := 0) rfl (by constructor <;> decide) ?_
    refine mx_putI (pc := 7) C dX8_plan_7 so_8 ci_8 (k := 37) (by decide) fl_X8_123 (Or.inl rfl) rfl (q := 37) rfl ?_
    generalize hmM9 : stM M 127 37 0 = M9 at h ⊢
    replace h := lt_e h
    have hOM9 : OK M9 := by rw [← hmM9]; exact okf_8_37 hOM
    refine mx_iconst (pc := 10) C dX8_plan_10 (z := 0) rfl (by constructor <;> decide) ?_
    rw [← Option.some.inj h]
    exact mx_ireturn (pc := 11) C dX8_plan_11 hOM9 ⟨Nat.le_refl _, Nat.le_refl _⟩
