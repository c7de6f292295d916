def f_X8_goPlan_59 (p1 : Int) (p2 : Int) (x1 : Int) (x2 : Int) (M : Mem) : Option (Int × Mem) :=
  if x1 = 3 then if 0 ≤ x2 ∧ x2 < 6 then if M 131 x2 ≤ 0 then some (0, M) else if 0 ≤ x2 ∧ x2 < 6 then if 0 ≤ x2 ∧ x2 < 6 then lt (stM M 131 x2 (w32 ((M 131 x2) - 1))) (fun M6 => some (0, M6)) else none else none else none else some (0, M)
def f_X8_goPlan_34 (p1 : Int) (p2 : Int) (x1 : Int) (x2 : Int) (M : Mem) : Option (Int × Mem) :=
  if x1 = 2 then if 0 ≤ x2 ∧ x2 < 6 then if 4 ≤ M 131 x2 then f_X8_goPlan_59 p1 p2 x1 x2 M else if 0 ≤ x2 ∧ x2 < 6 then if 0 ≤ x2 ∧ x2 < 6 then lt (stM M 131 x2 (w32 ((M 131 x2) + 1))) (fun M6 => f_X8_goPlan_59 p1 p2 x1 x2 M6) else none else none else none else f_X8_goPlan_59 p1 p2 x1 x2 M
def f_X8_goPlan_8 (p1 : Int) (p2 : Int) (x1 : Int) (x2 : Int) (M : Mem) : Option (Int × Mem) :=
  if x1 = 0 then some (0, M) else (f_X8_isLost x2 M).bind (fun q2 => if q2.1 = 0 then if x1 = 1 then if 0 ≤ x2 ∧ x2 < 6 then lt (stM q2.2 131 x2 (-5)) (fun M7 => f_X8_goPlan_34 p1 p2 x1 x2 M7) else none else f_X8_goPlan_34 p1 p2 x1 x2 q2.2 else some (0, q2.2))
def f_X8_goPlan (p1 : Int) (p2 : Int) (M : Mem) : Option (Int × Mem) :=
  if p1 = 0 then (f_X8_goYear M).bind (fun q2 => f_X8_goPlan_8 p1 p2 p1 p2 q2.2) else f_X8_goPlan_8 p1 p2 p1 p2 M
set_option maxRecDepth 20000 in
set_option maxHeartbeats 4000000 in
theorem b_X8_goPlan_59 {K : KX} {B : BX} {res : Int × Mem} {p1 : Int} {p2 : Int} (C : Cx K B false yX8_goPlan cX8_goPlan 3 none 6 0 0) : ∀ (x1 : Int) (x2 : Int) (M : Mem), OK M → f_X8_goPlan_59 p1 p2 x1 x2 M = some res → Wx K B (Zr K B none SH res.2 (OK res.2) 0 0) 0 0 SH 3 M 59 [some (aR 127), some (aI x1), some (aI x2)] [] := by
  intro x1 x2 M hOM h
  unfold f_X8_goPlan_59 at h
  refine mx_iload_n (pc := 59) C dX8_goPlan_59 rfl ?_
  refine mx_iconst (pc := 60) C dX8_goPlan_60 (z := 3) rfl (by constructor <;> decide) ?_
  refine mx_icmp_ne (pc := 61) (tgt := 83) C dX8_goPlan_61 rfl (fun c1 => ?_) (fun c1 => ?_)
  · rw [if_neg c1] at h
    rw [← Option.some.inj h]
    exact mx_return (pc := 83) C dX8_goPlan_83 hOM ⟨Nat.le_refl _, Nat.le_refl _⟩
  · rw [if_pos c1] at h
    refine mx_aload_n (pc := 64) C dX8_goPlan_64 rfl ?_
    refine mx_getR (pc := 65) (v := 131) C dX8_goPlan_65 so_8 ci_8 (k := 5) (by decide) fl_X8_26 rfl (q := 5) rfl (lay_8_5 hOM) (by decide) ?_
    refine mx_iload_n (pc := 68) C dX8_goPlan_68 rfl ?_
    obtain ⟨g2, h⟩ := of_gd h
    refine mx_iald (pc := 69) C dX8_goPlan_69 sh_8_5 g2.1 g2.2 ?_
    refine mx_if_le (pc := 70) (tgt := 83) C dX8_goPlan_70 rfl (fun c3 => ?_) (fun c3 => ?_)
    · rw [if_pos c3] at h
      rw [← Option.some.inj h]
      exact mx_return (pc := 83) C dX8_goPlan_83 hOM ⟨Nat.le_refl _, Nat.le_refl _⟩
    · rw [if_neg c3] at h
      refine mx_aload_n (pc := 73) C dX8_goPlan_73 rfl ?_
      refine mx_getR (pc := 74) (v := 131) C dX8_goPlan_74 so_8 ci_8 (k := 5) (by decide) fl_X8_26 rfl (q := 5) rfl (lay_8_5 hOM) (by decide) ?_
      refine mx_iload_n (pc := 77) C dX8_goPlan_77 rfl ?_
      refine mx_dup2 (pc := 78) C dX8_goPlan_78 rfl rfl ?_
      obtain ⟨g4, h⟩ := of_gd h
      refine mx_iald (pc := 79) C dX8_goPlan_79 sh_8_5 g4.1 g4.2 ?_
      refine mx_iconst (pc := 80) C dX8_goPlan_80 (z := 1) rfl (by constructor <;> decide) ?_
      refine mx_isub (pc := 81) C dX8_goPlan_81  ?_
      obtain ⟨g5, h⟩ := of_gd h
      refine mx_iast (pc := 82) C dX8_goPlan_82 sh_8_5 g5.1 g5.2 ?_
      generalize hmM6 : stM M 131 x2 (w32 ((M 131 x2) - 1)) = M6 at h ⊢
      replace h := lt_e h
      have hOM6 : OK M6 := by rw [← hmM6]; exact ok_arr hOM sh_8_5 (by decide)
      rw [← Option.some.inj h]
      exact mx_return (pc := 83) C dX8_goPlan_83 hOM6 ⟨Nat.le_refl _, Nat.le_refl _⟩
set_option maxRecDepth 20000 in
set_option maxHeartbeats 4000000 in
theorem b_X8_goPlan_34 {K : KX} {B : BX} {res : Int × Mem} {p1 : Int} {p2 : Int} (C : Cx K B false yX8_goPlan cX8_goPlan 3 none 6 0 0) : ∀ (x1 : Int) (x2 : Int) (M : Mem), OK M → f_X8_goPlan_34 p1 p2 x1 x2 M = some res → Wx K B (Zr K B none SH res.2 (OK res.2) 0 0) 0 0 SH 3 M 34 [some (aR 127), some (aI x1), some (aI x2)] [] := by
  intro x1 x2 M hOM h
  unfold f_X8_goPlan_34 at h
  refine mx_iload_n (pc := 34) C dX8_goPlan_34 rfl ?_
  refine mx_iconst (pc := 35) C dX8_goPlan_35 (z := 2) rfl (by constructor <;> decide) ?_
  refine mx_icmp_ne (pc := 36) (tgt := 59) C dX8_goPlan_36 rfl (fun c1 => ?_) (fun c1 => ?_)
  · rw [if_neg c1] at h
    exact b_X8_goPlan_59 C x1 x2 M hOM h
  · rw [if_pos c1] at h
    refine mx_aload_n (pc := 39) C dX8_goPlan_39 rfl ?_
    refine mx_getR (pc := 40) (v := 131) C dX8_goPlan_40 so_8 ci_8 (k := 5) (by decide) fl_X8_26 rfl (q := 5) rfl (lay_8_5 hOM) (by decide) ?_
    refine mx_iload_n (pc := 43) C dX8_goPlan_43 rfl ?_
    obtain ⟨g2, h⟩ := of_gd h
    refine mx_iald (pc := 44) C dX8_goPlan_44 sh_8_5 g2.1 g2.2 ?_
    refine mx_iconst (pc := 45) C dX8_goPlan_45 (z := 4) rfl (by constructor <;> decide) ?_
    refine mx_icmp_ge (pc := 46) (tgt := 59) C dX8_goPlan_46 rfl (fun c3 => ?_) (fun c3 => ?_)
    · rw [if_pos c3] at h
      exact b_X8_goPlan_59 C x1 x2 M hOM h
    · rw [if_neg c3] at h
      refine mx_aload_n (pc := 49) C dX8_goPlan_49 rfl ?_
      refine mx_getR (pc := 50) (v := 131) C dX8_goPlan_50 so_8 ci_8 (k := 5) (by decide) fl_X8_26 rfl (q := 5) rfl (lay_8_5 hOM) (by decide) ?_
      refine mx_iload_n (pc := 53) C dX8_goPlan_53 rfl ?_
      refine mx_dup2 (pc := 54) C dX8_goPlan_54 rfl rfl ?_
      obtain ⟨g4, h⟩ := of_gd h
      refine mx_iald (pc := 55) C dX8_goPlan_55 sh_8_5 g4.1 g4.2 ?_
      refine mx_iconst (pc := 56) C dX8_goPlan_56 (z := 1) rfl (by constructor <;> decide) ?_
      refine mx_iadd (pc := 57) C dX8_goPlan_57  ?_
      obtain ⟨g5, h⟩ := of_gd h
      refine mx_iast (pc := 58) C dX8_goPlan_58 sh_8_5 g5.1 g5.2 ?_
      generalize hmM6 : stM M 131 x2 (w32 ((M 131 x2) + 1)) = M6 at h ⊢
      replace h := lt_e h
      have hOM6 : OK M6 := by rw [← hmM6]; exact ok_arr hOM sh_8_5 (by decide)
      exact b_X8_goPlan_59 C x1 x2 M6 hOM6 h
set_option maxRecDepth 20000 in
set_option maxHeartbeats 4000000 in
theorem b_X8_goPlan_8 {K : KX} {B : BX} {res : Int × Mem} {p1 : Int} {p2 : Int} (C : Cx K B false yX8_goPlan cX8_goPlan 3 none 6 0 0) : ∀ (x1 : Int) (x2 : Int) (M : Mem), OK M → f_X8_goPlan_8 p1 p2 x1 x2 M = some res → Wx K B (Zr K B none SH res.2 (OK res.2) 0 0) 0 0 SH 3 M 8 [some (aR 127), some (aI x1), some (aI x2)] [] := by
  intro x1 x2 M hOM h
  unfold f_X8_goPlan_8 at h
  refine mx_iload_n (pc := 8) C dX8_goPlan_8 rfl ?_
  refine mx_if_eq (pc := 9) (tgt := 20) C dX8_goPlan_9 rfl (fun c1 => ?_) (fun c1 => ?_)
  · rw [if_pos c1] at h
    rw [← Option.some.inj h]
    exact mx_return (pc := 20) C dX8_goPlan_20 hOM ⟨Nat.le_refl _, Nat.le_refl _⟩
  · rw [if_neg c1] at h
    refine mx_aload_n (pc := 12) C dX8_goPlan_12 rfl ?_
    refine mx_iload_n (pc := 13) C dX8_goPlan_13 rfl ?_
    obtain ⟨q2, hq2, h⟩ := of_bd h
    refine mc_V (pc := 14) (as := [aI x2]) (rest := []) (stk2 := [aI q2.1]) C ⟨Nat.le_refl _, Nat.le_refl _⟩ (m_X8_isLost hOM hq2) mi_X8_isLost mv_X8_isLost ml_X8_232 ci_8 rfl so_8 (by omega) rfl (Nat.le_of_ble_eq_true rfl) dX8_goPlan_14 rfl (fun hp3 => ?_)
    have hOq2 : OK q2.2 := hp3.1
    refine mx_if_eq (pc := 17) (tgt := 21) C dX8_goPlan_17 rfl (fun c4 => ?_) (fun c4 => ?_)
    · rw [if_pos c4] at h
      refine mx_iload_n (pc := 21) C dX8_goPlan_21 rfl ?_
      refine mx_iconst (pc := 22) C dX8_goPlan_22 (z := 1) rfl (by constructor <;> decide) ?_
      refine mx_icmp_ne (pc := 23) (tgt := 34) C dX8_goPlan_23 rfl (fun c5 => ?_) (fun c5 => ?_)
      · rw [if_neg c5] at h
        exact b_X8_goPlan_34 C x1 x2 q2.2 hOq2 h
      · rw [if_pos c5] at h
        refine mx_aload_n (pc := 26) C dX8_goPlan_26 rfl ?_
        refine mx_getR (pc := 27) (v := 131) C dX8_goPlan_27 so_8 ci_8 (k := 5) (by decide) fl_X8_26 rfl (q := 5) rfl (lay_8_5 hOq2) (by decide) ?_
        refine mx_iload_n (pc := 30) C dX8_goPlan_30 rfl ?_
        refine mx_bipush (pc := 31) C dX8_goPlan_31 (z := (-5)) rfl (by constructor <;> decide) ?_
        obtain ⟨g6, h⟩ := of_gd h
        refine mx_iast (pc := 33) C dX8_goPlan_33 sh_8_5 g6.1 g6.2 ?_
        generalize hmM7 : stM q2.2 131 x2 (-5) = M7 at h ⊢
        replace h := lt_e h
        have hOM7 : OK M7 := by rw [← hmM7]; exact ok_arr hOq2 sh_8_5 (by decide)
        exact b_X8_goPlan_34 C x1 x2 M7 hOM7 h
    · rw [if_neg c4] at h
      rw [← Option.some.inj h]
      exact mx_return (pc := 20) C dX8_goPlan_20 hOq2 ⟨Nat.le_refl _, Nat.le_refl _⟩
set_option maxRecDepth 20000 in
set_option maxHeartbeats 4000000 in
theorem m_X8_goPlan {p1 : Int} {p2 : Int} {M : Mem} {res : Int × Mem} (hOM : OK M) (h : f_X8_goPlan p1 p2 M = some res) : Mth false yX8_goPlan cX8_goPlan 3 none 6 0 0 SH [aR 127, aI p1, aI p2] M none SH res.2 (OK res.2) := by
  refine Mth.of (by decide +kernel) (Nat.le_of_ble_eq_true rfl) (fun K B C => ?_)
  show Wx K B _ 0 0 SH 3 M 0 [some (aR 127), some (aI p1), some (aI p2)] []
  unfold f_X8_goPlan at h
  refine mx_iload_n (pc := 0) C dX8_goPlan_0 rfl ?_
  refine mx_if_ne (pc := 1) (tgt := 8) C dX8_goPlan_1 rfl (fun c1 => ?_) (fun c1 => ?_)
  · rw [if_neg c1] at h
    exact b_X8_goPlan_8 C p1 p2 M hOM h
  · rw [if_pos c1] at h
    refine mx_aload_n (pc := 4) C dX8_goPlan_4 rfl ?_
    obtain ⟨q2, hq2, h⟩ := of_bd h
    refine mc_V (pc := 5) (as := []) (rest := []) (stk2 := []) C ⟨Nat.le_refl _, Nat.le_refl _⟩ (m_X8_goYear hOM hq2) mi_X8_goYear mv_X8_goYear ml_X8_344 ci_8 rfl so_8 (by omega) rfl (Nat.le_of_ble_eq_true rfl) dX8_goPlan_5 rfl (fun hp3 => ?_)
    have hOq2 : OK q2.2 := hp3
    exact b_X8_goPlan_8 C p1 p2 q2.2 hOq2 h

def f_X8_ends_91 (p1 : Int) (t0 : Int) (M : Mem) : Option (Int × Mem) :=
  (f_X8_putBack M).bind (fun q1 => some (t0, q1.2))
def f_X8_ends_58 (p1 : Int) : Nat → Int → Int → Int → Int → Mem → Option (Int × Mem)
  | 0, _, _, _, _, _ => none
  | n + 1, x1, x2, x3, x4, M => if 5 ≤ x4 then if x1 = 0 then (f_X8_greatest M).bind (fun q3 => f_X8_ends_91 p1 q3.1 q3.2) else f_X8_ends_91 p1 x3 M else f_X8_ends_58 p1 n x1 x2 (w32 (x3 + (and32 (shr32 x2 x4) 1))) (w32 (x4 + 1)) M
def f_X8_ends_18 (p1 : Int) : Nat → Int → Int → Mem → Option (Int × Mem)
  | 0, _, _, _ => none
  | n + 1, x1, x2, M => if M 127 37 ≤ x2 then (f_X8_stillSet M).bind (fun q2 => f_X8_ends_58 p1 FU x1 q2.1 0 0 q2.2) else if 0 ≤ x2 ∧ x2 < 10 then if 0 ≤ x2 ∧ x2 < 10 then (f_X8_goPlan (M 151 x2) (M 152 x2) M).bind (fun q6 => f_X8_ends_18 p1 n x1 (w32 (x2 + 1)) q6.2) else none else none
def f_X8_ends (p1 : Int) (M : Mem) : Option (Int × Mem) :=
  (f_X8_in p1 0 1 M).bind (fun q1 => if q1.1 = 0 then some ((-1), q1.2) else (f_X8_save q1.2).bind (fun q4 => f_X8_ends_18 p1 FU p1 0 q4.2))
set_option maxRecDepth 20000 in
set_option maxHeartbeats 4000000 in
theorem b_X8_ends_91 {K : KX} {B : BX} {res : Int × Mem} {p1 : Int} (C : Cx K B false yX8_ends cX8_ends 5 (some .int) 7 0 0) : ∀ (t0 : Int) (M : Mem), OK M → f_X8_ends_91 p1 t0 M = some res → Wx K B (Zr K B (some (aI res.1)) SH res.2 (OK res.2) 0 0) 0 0 SH 5 M 91 [some (aR 127), none, none, none, none] [aI t0] := by
  intro t0 M hOM h
  unfold f_X8_ends_91 at h
  refine mx_istore (pc := 91) C dX8_ends_91 (ls' := [some (aR 127), none, none, none, some (aI t0)]) (by decide) rfl rfl ?_
  refine mx_aload_n (pc := 93) C dX8_ends_93 rfl ?_
  obtain ⟨q1, hq1, h⟩ := of_bd h
  refine mc_V (pc := 94) (as := []) (rest := []) (stk2 := []) C ⟨Nat.le_refl _, Nat.le_refl _⟩ (m_X8_putBack hOM hq1) mi_X8_putBack mv_X8_putBack ml_X8_356 ci_8 rfl so_8 (by omega) rfl (Nat.le_of_ble_eq_true rfl) dX8_ends_94 rfl (fun hp2 => ?_)
  have hOq1 : OK q1.2 := hp2
  refine mx_iload (pc := 97) C dX8_ends_97 rfl ?_
  rw [← Option.some.inj h]
  exact mx_ireturn (pc := 99) C dX8_ends_99 hOq1 ⟨Nat.le_refl _, Nat.le_refl _⟩
set_option maxRecDepth 20000 in
set_option maxHeartbeats 4000000 in
theorem b_X8_ends_58 {K : KX} {B : BX} {res : Int × Mem} {p1 : Int} (C : Cx K B false yX8_ends cX8_ends 5 (some .int) 7 0 0) : ∀ (n : Nat) (x1 : Int) (x2 : Int) (x3 : Int) (x4 : Int) (M : Mem), OK M → f_X8_ends_58 p1 n x1 x2 x3 x4 M = some res → Wx K B (Zr K B (some (aI res.1)) SH res.2 (OK res.2) 0 0) 0 0 SH 5 M 58 [some (aR 127), some (aI x1), some (aI x2), some (aI x3), some (aI x4)] [] := by
  intro n
  induction n with
  | zero =>
    intro x1 x2 x3 x4 M hOM h
    cases h
  | succ n ih =>
    intro x1 x2 x3 x4 M hOM h
    rw [f_X8_ends_58.eq_2] at h
    refine mx_iload (pc := 58) C dX8_ends_58 rfl ?_
    refine mx_iconst (pc := 60) C dX8_ends_60 (z := 5) rfl (by constructor <;> decide) ?_
    refine mx_icmp_ge (pc := 61) (tgt := 79) C dX8_ends_61 rfl (fun c1 => ?_) (fun c1 => ?_)
    · rw [if_pos c1] at h
      refine mx_iload_n (pc := 79) C dX8_ends_79 rfl ?_
      refine mx_if_ne (pc := 80) (tgt := 90) C dX8_ends_80 rfl (fun c2 => ?_) (fun c2 => ?_)
      · rw [if_neg c2] at h
        refine mx_iload_n (pc := 90) C dX8_ends_90 rfl ?_
        refine mx_mask [true, false, false, false, false] (ls' := [some (aR 127), none, none, none, none]) rfl rfl ?_
        exact b_X8_ends_91 C x3 M hOM h
      · rw [if_pos c2] at h
        refine mx_aload_n (pc := 83) C dX8_ends_83 rfl ?_
        obtain ⟨q3, hq3, h⟩ := of_bd h
        refine mc_V (pc := 84) (as := []) (rest := []) (stk2 := [aI q3.1]) C ⟨Nat.le_refl _, Nat.le_refl _⟩ (m_X8_greatest hOM hq3) mi_X8_greatest mv_X8_greatest ml_X8_338 ci_8 rfl so_8 (by omega) rfl (Nat.le_of_ble_eq_true rfl) dX8_ends_84 rfl (fun hp4 => ?_)
        have hOq3 : OK q3.2 := hp4
        refine mx_goto (pc := 87) (tgt := 91) C dX8_ends_87 rfl ?_
        refine mx_mask [true, false, false, false, false] (ls' := [some (aR 127), none, none, none, none]) rfl rfl ?_
        exact b_X8_ends_91 C q3.1 q3.2 hOq3 h
    · rw [if_neg c1] at h
      refine mx_iload_n (pc := 64) C dX8_ends_64 rfl ?_
      refine mx_iload_n (pc := 65) C dX8_ends_65 rfl ?_
      refine mx_iload (pc := 66) C dX8_ends_66 rfl ?_
      refine mx_ishr (pc := 68) C dX8_ends_68  ?_
      refine mx_iconst (pc := 69) C dX8_ends_69 (z := 1) rfl (by constructor <;> decide) ?_
      refine mx_iand (pc := 70) C dX8_ends_70  ?_
      refine mx_iadd (pc := 71) C dX8_ends_71  ?_
      refine mx_istore_n (pc := 72) C dX8_ends_72 (ls' := [some (aR 127), some (aI x1), some (aI x2), some (aI (w32 (x3 + (and32 (shr32 x2 x4) 1)))), some (aI x4)]) (by decide) rfl rfl ?_
      refine mx_iinc (pc := 73) C dX8_ends_73 (ls' := [some (aR 127), some (aI x1), some (aI x2), some (aI (w32 (x3 + (and32 (shr32 x2 x4) 1)))), some (aI (w32 (x4 + 1)))]) rfl (by decide) rfl (by constructor <;> decide) rfl rfl ?_
      refine mx_goto (pc := 76) (tgt := 58) C dX8_ends_76 rfl ?_
      exact ih x1 x2 (w32 (x3 + (and32 (shr32 x2 x4) 1))) (w32 (x4 + 1)) M hOM h
set_option maxRecDepth 20000 in
set_option maxHeartbeats 4000000 in
theorem b_X8_ends_18 {K : KX} {B : BX} {res : Int × Mem} {p1 : Int} (C : Cx K B false yX8_ends cX8_ends 5 (some .int) 7 0 0) : ∀ (n : Nat) (x1 : Int) (x2 : Int) (M : Mem), OK M → f_X8_ends_18 p1 n x1 x2 M = some res → Wx K B (Zr K B (some (aI res.1)) SH res.2 (OK res.2) 0 0) 0 0 SH 5 M 18 [some (aR 127), some (aI x1), some (aI x2), none, none] [] := by
  intro n
  induction n with
  | zero =>
    intro x1 x2 M hOM h
    cases h
  | succ n ih =>
    intro x1 x2 M hOM h
    rw [f_X8_ends_18.eq_2] at h
    refine mx_iload_n (pc := 18) C dX8_ends_18 rfl ?_
    refine mx_aload_n (pc := 19) C dX8_ends_19 rfl ?_
    refine mx_getI (pc := 20) C dX8_ends_20 so_8 ci_8 (k := 37) (by decide) fl_X8_123 rfl (q := 37) rfl ?_
    refine mx_icmp_ge (pc := 23) (tgt := 48) C dX8_ends_23 rfl (fun c1 => ?_) (fun c1 => ?_)
    · rw [if_pos c1] at h
      refine mx_aload_n (pc := 48) C dX8_ends_48 rfl ?_
      obtain ⟨q2, hq2, h⟩ := of_bd h
      refine mc_V (pc := 49) (as := []) (rest := []) (stk2 := [aI q2.1]) C ⟨Nat.le_refl _, Nat.le_refl _⟩ (m_X8_stillSet hOM hq2) mi_X8_stillSet mv_X8_stillSet ml_X8_341 ci_8 rfl so_8 (by omega) rfl (Nat.le_of_ble_eq_true rfl) dX8_ends_49 rfl (fun hp3 => ?_)
      have hOq2 : OK q2.2 := hp3
      refine mx_istore_n (pc := 52) C dX8_ends_52 (ls' := [some (aR 127), some (aI x1), some (aI q2.1), none, none]) (by decide) rfl rfl ?_
      refine mx_iconst (pc := 53) C dX8_ends_53 (z := 0) rfl (by constructor <;> decide) ?_
      refine mx_istore_n (pc := 54) C dX8_ends_54 (ls' := [some (aR 127), some (aI x1), some (aI q2.1), some (aI 0), none]) (by decide) rfl rfl ?_
      refine mx_iconst (pc := 55) C dX8_ends_55 (z := 0) rfl (by constructor <;> decide) ?_
      refine mx_istore (pc := 56) C dX8_ends_56 (ls' := [some (aR 127), some (aI x1), some (aI q2.1), some (aI 0), some (aI 0)]) (by decide) rfl rfl ?_
      exact b_X8_ends_58 C FU x1 q2.1 0 0 q2.2 hOq2 h
    · rw [if_neg c1] at h
      refine mx_aload_n (pc := 26) C dX8_ends_26 rfl ?_
      refine mx_aload_n (pc := 27) C dX8_ends_27 rfl ?_
      refine mx_getR (pc := 28) (v := 151) C dX8_ends_28 so_8 ci_8 (k := 39) (by decide) fl_X8_129 rfl (q := 39) rfl (lay_8_39 hOM) (by decide) ?_
      refine mx_iload_n (pc := 31) C dX8_ends_31 rfl ?_
      obtain ⟨g4, h⟩ := of_gd h
      refine mx_iald (pc := 32) C dX8_ends_32 sh_8_39 g4.1 g4.2 ?_
      refine mx_aload_n (pc := 33) C dX8_ends_33 rfl ?_
      refine mx_getR (pc := 34) (v := 152) C dX8_ends_34 so_8 ci_8 (k := 40) (by decide) fl_X8_132 rfl (q := 40) rfl (lay_8_40 hOM) (by decide) ?_
      refine mx_iload_n (pc := 37) C dX8_ends_37 rfl ?_
      obtain ⟨g5, h⟩ := of_gd h
      refine mx_iald (pc := 38) C dX8_ends_38 sh_8_40 g5.1 g5.2 ?_
      obtain ⟨q6, hq6, h⟩ := of_bd h
      refine mc_V (pc := 39) (as := [aI (M 151 x2), aI (M 152 x2)]) (rest := []) (stk2 := []) C ⟨Nat.le_refl _, Nat.le_refl _⟩ (m_X8_goPlan hOM hq6) mi_X8_goPlan mv_X8_goPlan ml_X8_403 ci_8 rfl so_8 (by omega) rfl (Nat.le_of_ble_eq_true rfl) dX8_ends_39 rfl (fun hp7 => ?_)
      have hOq6 : OK q6.2 := hp7
      refine mx_iinc (pc := 42) C dX8_ends_42 (ls' := [some (aR 127), some (aI x1), some (aI (w32 (x2 + 1))), none, none]) rfl (by decide) rfl (by constructor <;> decide) rfl rfl ?_
      refine mx_goto (pc := 45) (tgt := 18) C dX8_ends_45 rfl ?_
      exact ih x1 (w32 (x2 + 1)) q6.2 hOq6 h
set_option maxRecDepth 20000 in
set_option maxHeartbeats 4000000 in
theorem m_X8_ends {p1 : Int} {M : Mem} {res : Int × Mem} (hOM : OK M) (h : f_X8_ends p1 M = some res) : Mth false yX8_ends cX8_ends 5 (some .int) 7 0 0 SH [aR 127, aI p1] M (some (aI res.1)) SH res.2 (OK res.2) := by
  refine Mth.of (by decide +kernel) (Nat.le_of_ble_eq_true rfl) (fun K B C => ?_)
  show Wx K B _ 0 0 SH 5 M 0 [some (aR 127), some (aI p1), none, none, none] []
  unfold f_X8_ends at h
  refine mx_aload_n (pc := 0) C dX8_ends_0 rfl ?_
  refine mx_iload_n (pc := 1) C dX8_ends_1 rfl ?_
  refine mx_iconst (pc := 2) C dX8_ends_2 (z := 0) rfl (by constructor <;> decide) ?_
  refine mx_iconst (pc := 3) C dX8_ends_3 (z := 1) rfl (by constructor <;> decide) ?_
  obtain ⟨q1, hq1, h⟩ := of_bd h
  refine mc_V (pc := 4) (as := [aI p1, aI 0, aI 1]) (rest := []) (stk2 := [aI q1.1]) C ⟨Nat.le_refl _, Nat.le_refl _⟩ (m_X8_in hOM hq1) mi_X8_in mv_X8_in ml_X8_218 ci_8 rfl so_8 (by omega) rfl (Nat.le_of_ble_eq_true rfl) dX8_ends_4 rfl (fun hp2 => ?_)
  have hOq1 : OK q1.2 := hp2.1
  refine mx_if_ne (pc := 7) (tgt := 12) C dX8_ends_7 rfl (fun c3 => ?_) (fun c3 => ?_)
  · rw [if_neg c3] at h
    refine mx_aload_n (pc := 12) C dX8_ends_12 rfl ?_
    obtain ⟨q4, hq4, h⟩ := of_bd h
    refine mc_V (pc := 13) (as := []) (rest := []) (stk2 := []) C ⟨Nat.le_refl _, Nat.le_refl _⟩ (m_X8_save hOq1 hq4) mi_X8_save mv_X8_save ml_X8_353 ci_8 rfl so_8 (by omega) rfl (Nat.le_of_ble_eq_true rfl) dX8_ends_13 rfl (fun hp5 => ?_)
    have hOq4 : OK q4.2 := hp5
    refine mx_iconst (pc := 16) C dX8_ends_16 (z := 0) rfl (by constructor <;> decide) ?_
    refine mx_istore_n (pc := 17) C dX8_ends_17 (ls' := [some (aR 127), some (aI p1), some (aI 0), none, none]) (by decide) rfl rfl ?_
    exact b_X8_ends_18 C FU p1 0 q4.2 hOq4 h
  · rw [if_pos c3] at h
    refine mx_iconst (pc := 10) C dX8_ends_10 (z := (-1)) rfl (by constructor <;> decide) ?_
    rw [← Option.some.inj h]
    exact mx_ireturn (pc := 11) C dX8_ends_11 hOq1 ⟨Nat.le_refl _, Nat.le_refl _⟩

def f_X8_book_73 (p1 : Int) (p2 : Int) (t1 : Int) (t2 : Int) (M : Mem) : Option (Int × Mem) :=
  if 0 ≤ t1 ∧ t1 < 8 then lt (stM M 154 t1 t2) (fun M2 => lt (stM M2 127 38 (w32 ((M2 127 38) + 1))) (fun M3 => some (M3 127 38, M3))) else none
def f_X8_book (p1 : Int) (p2 : Int) (M : Mem) : Option (Int × Mem) :=
  if p1 = (-1) then lt (stM M 127 38 0) (fun M12 => some (0, M12)) else (f_X8_isSound p1 M).bind (fun q2 => if q2.1 = 0 then some ((-1), q2.2) else (f_X8_in p2 0 5 q2.2).bind (fun q5 => if q5.1 = 0 then some ((-1), q5.2) else if q5.2 127 38 = 8 then some ((-4), q5.2) else if 0 ≤ q5.2 127 38 ∧ q5.2 127 38 < 8 then lt (stM q5.2 153 (q5.2 127 38) p1) (fun M10 => if p2 = 5 then f_X8_book_73 p1 p2 (M10 127 38) (-5) M10 else f_X8_book_73 p1 p2 (M10 127 38) p2 M10) else none))
set_option maxRecDepth 20000 in
set_option maxHeartbeats 4000000 in
theorem b_X8_book_73 {K : KX} {B : BX} {res : Int × Mem} {p1 : Int} {p2 : Int} (C : Cx K B false yX8_book cX8_book 3 (some .int) 3 0 0) : ∀ (t1 : Int) (t2 : Int) (M : Mem), OK M → f_X8_book_73 p1 p2 t1 t2 M = some res → Wx K B (Zr K B (some (aI res.1)) SH res.2 (OK res.2) 0 0) 0 0 SH 3 M 73 [some (aR 127), none, none] [aI t2, aI t1, aR 154] := by
  intro t1 t2 M hOM h
  unfold f_X8_book_73 at h
  obtain ⟨g1, h⟩ := of_gd h
  refine mx_iast (pc := 73) C dX8_book_73 sh_8_42 g1.1 g1.2 ?_
  generalize hmM2 : stM M 154 t1 t2 = M2 at h ⊢
  replace h := lt_e h
  have hOM2 : OK M2 := by rw [← hmM2]; exact ok_arr hOM sh_8_42 (by decide)
  refine mx_aload_n (pc := 74) C dX8_book_74 rfl ?_
  refine mx_dup (pc := 75) C dX8_book_75 rfl ?_
  refine mx_getI (pc := 76) C dX8_book_76 so_8 ci_8 (k := 38) (by decide) fl_X8_126 rfl (q := 38) rfl ?_
  refine mx_iconst (pc := 79) C dX8_book_79 (z := 1) rfl (by constructor <;> decide) ?_
  refine mx_iadd (pc := 80) C dX8_book_80  ?_
  refine mx_putI (pc := 81) C dX8_book_81 so_8 ci_8 (k := 38) (by decide) fl_X8_126 (Or.inl rfl) rfl (q := 38) rfl ?_
  generalize hmM3 : stM M2 127 38 (w32 ((M2 127 38) + 1)) = M3 at h ⊢
  replace h := lt_e h
  have hOM3 : OK M3 := by rw [← hmM3]; exact okf_8_38 hOM2
  refine mx_aload_n (pc := 84) C dX8_book_84 rfl ?_
  refine mx_getI (pc := 85) C dX8_book_85 so_8 ci_8 (k := 38) (by decide) fl_X8_126 rfl (q := 38) rfl ?_
  rw [← Option.some.inj h]
  exact mx_ireturn (pc := 88) C dX8_book_88 hOM3 ⟨Nat.le_refl _, Nat.le_refl _⟩
set_option maxRecDepth 20000 in
set_option maxHeartbeats 4000000 in
theorem m_X8_book {p1 : Int} {p2 : Int} {M : Mem} {res : Int × Mem} (hOM : OK M) (h : f_X8_book p1 p2 M = some res) : Mth false yX8_book cX8_book 3 (some .int) 3 0 0 SH [aR 127, aI p1, aI p2] M (some (aI res.1)) SH res.2 (OK res.2) := by
  refine Mth.of (by decide +kernel) (Nat.le_of_ble_eq_true rfl) (fun K B C => ?_)
  show Wx K B _ 0 0 SH 3 M 0 [some (aR 127), some (aI p1), some (aI p2)] []
  unfold f_X8_book at h
  refine mx_iload_n (pc := 0) C dX8_book_0 rfl ?_
  refine mx_iconst (pc := 1) C dX8_book_1 (z := (-1)) rfl (by constructor <;> decide) ?_
  refine mx_icmp_ne (pc := 2) (tgt := 12) C dX8_book_2 rfl (fun c1 => ?_) (fun c1 => ?_)
  · rw [if_neg c1] at h
    refine mx_aload_n (pc := 12) C dX8_book_12 rfl ?_
    refine mx_iload_n (pc := 13) C dX8_book_13 rfl ?_
    obtain ⟨q2, hq2, h⟩ := of_bd h
    refine mc_V (pc := 14) (as := [aI p1]) (rest := []) (stk2 := [aI q2.1]) C ⟨Nat.le_refl _, Nat.le_refl _⟩ (m_X8_isSound hOM hq2) mi_X8_isSound mv_X8_isSound ml_X8_229 ci_8 rfl so_8 (by omega) rfl (Nat.le_of_ble_eq_true rfl) dX8_book_14 rfl (fun hp3 => ?_)
    have hOq2 : OK q2.2 := hp3.1
    refine mx_if_eq (pc := 17) (tgt := 30) C dX8_book_17 rfl (fun c4 => ?_) (fun c4 => ?_)
    · rw [if_pos c4] at h
      refine mx_iconst (pc := 30) C dX8_book_30 (z := (-1)) rfl (by constructor <;> decide) ?_
      rw [← Option.some.inj h]
      exact mx_ireturn (pc := 31) C dX8_book_31 hOq2 ⟨Nat.le_refl _, Nat.le_refl _⟩
    · rw [if_neg c4] at h
      refine mx_aload_n (pc := 20) C dX8_book_20 rfl ?_
      refine mx_iload_n (pc := 21) C dX8_book_21 rfl ?_
      refine mx_iconst (pc := 22) C dX8_book_22 (z := 0) rfl (by constructor <;> decide) ?_
      refine mx_iconst (pc := 23) C dX8_book_23 (z := 5) rfl (by constructor <;> decide) ?_
      obtain ⟨q5, hq5, h⟩ := of_bd h
      refine mc_V (pc := 24) (as := [aI p2, aI 0, aI 5]) (rest := []) (stk2 := [aI q5.1]) C ⟨Nat.le_refl _, Nat.le_refl _⟩ (m_X8_in hOq2 hq5) mi_X8_in mv_X8_in ml_X8_218 ci_8 rfl so_8 (by omega) rfl (Nat.le_of_ble_eq_true rfl) dX8_book_24 rfl (fun hp6 => ?_)
      have hOq5 : OK q5.2 := hp6.1
      refine mx_if_ne (pc := 27) (tgt := 32) C dX8_book_27 rfl (fun c7 => ?_) (fun c7 => ?_)
      · rw [if_neg c7] at h
        refine mx_aload_n (pc := 32) C dX8_book_32 rfl ?_
        refine mx_getI (pc := 33) C dX8_book_33 so_8 ci_8 (k := 38) (by decide) fl_X8_126 rfl (q := 38) rfl ?_
        refine mx_bipush (pc := 36) C dX8_book_36 (z := 8) rfl (by constructor <;> decide) ?_
        refine mx_icmp_ne (pc := 38) (tgt := 44) C dX8_book_38 rfl (fun c8 => ?_) (fun c8 => ?_)
        · rw [if_neg c8] at h
          refine mx_aload_n (pc := 44) C dX8_book_44 rfl ?_
          refine mx_getR (pc := 45) (v := 153) C dX8_book_45 so_8 ci_8 (k := 41) (by decide) fl_X8_135 rfl (q := 41) rfl (lay_8_41 hOq5) (by decide) ?_
          refine mx_aload_n (pc := 48) C dX8_book_48 rfl ?_
          refine mx_getI (pc := 49) C dX8_book_49 so_8 ci_8 (k := 38) (by decide) fl_X8_126 rfl (q := 38) rfl ?_
          refine mx_iload_n (pc := 52) C dX8_book_52 rfl ?_
          obtain ⟨g9, h⟩ := of_gd h
          refine mx_iast (pc := 53) C dX8_book_53 sh_8_41 g9.1 g9.2 ?_
          generalize hmM10 : stM q5.2 153 (q5.2 127 38) p1 = M10 at h ⊢
          replace h := lt_e h
          have hOM10 : OK M10 := by rw [← hmM10]; exact ok_arr hOq5 sh_8_41 (by decide)
          refine mx_aload_n (pc := 54) C dX8_book_54 rfl ?_
          refine mx_getR (pc := 55) (v := 154) C dX8_book_55 so_8 ci_8 (k := 42) (by decide) fl_X8_138 rfl (q := 42) rfl (lay_8_42 hOM10) (by decide) ?_
          refine mx_aload_n (pc := 58) C dX8_book_58 rfl ?_
          refine mx_getI (pc := 59) C dX8_book_59 so_8 ci_8 (k := 38) (by decide) fl_X8_126 rfl (q := 38) rfl ?_
          refine mx_iload_n (pc := 62) C dX8_book_62 rfl ?_
          refine mx_iconst (pc := 63) C dX8_book_63 (z := 5) rfl (by constructor <;> decide) ?_
          refine mx_icmp_ne (pc := 64) (tgt := 72) C dX8_book_64 rfl (fun c11 => ?_) (fun c11 => ?_)
          · rw [if_neg c11] at h
            refine mx_iload_n (pc := 72) C dX8_book_72 rfl ?_
            refine mx_mask [true, false, false] (ls' := [some (aR 127), none, none]) rfl rfl ?_
            exact b_X8_book_73 C (M10 127 38) p2 M10 hOM10 h
          · rw [if_pos c11] at h
            refine mx_bipush (pc := 67) C dX8_book_67 (z := (-5)) rfl (by constructor <;> decide) ?_
            refine mx_goto (pc := 69) (tgt := 73) C dX8_book_69 rfl ?_
            refine mx_mask [true, false, false] (ls' := [some (aR 127), none, none]) rfl rfl ?_
            exact b_X8_book_73 C (M10 127 38) (-5) M10 hOM10 h
        · rw [if_pos c8] at h
          refine mx_bipush (pc := 41) C dX8_book_41 (z := (-4)) rfl (by constructor <;> decide) ?_
          rw [← Option.some.inj h]
          exact mx_ireturn (pc := 43) C dX8_book_43 hOq5 ⟨Nat.le_refl _, Nat.le_refl _⟩
      · rw [if_pos c7] at h
        refine mx_iconst (pc := 30) C dX8_book_30 (z := (-1)) rfl (by constructor <;> decide) ?_
        rw [← Option.some.inj h]
        exact mx_ireturn (pc := 31) C dX8_book_31 hOq5 ⟨Nat.le_refl _, Nat.le_refl _⟩
  · rw [if_pos c1] at h
    refine mx_aload_n (pc := 5) C dX8_book_5 rfl ?_
    refine mx_iconst (pc := 6) C dX8_book_6 (z := 0) rfl (by constructor <;> decide) ?_
    refine mx_putI (pc := 7) C dX8_book_7 so_8 ci_8 (k := 38) (by decide) fl_X8_126 (Or.inl rfl) rfl (q := 38) rfl ?_
    generalize hmM12 : stM M 127 38 0 = M12 at h ⊢
    replace h := lt_e h
    have hOM12 : OK M12 := by rw [← hmM12]; exact okf_8_38 hOM
    refine mx_iconst (pc := 10) C dX8_book_10 (z := 0) rfl (by constructor <;> decide) ?_
    rw [← Option.some.inj h]
    exact mx_ireturn (pc := 11) C dX8_book_11 hOM12 ⟨Nat.le_refl _, Nat.le_refl _⟩

def f_X8_looked_2 : Nat → Int → Mem → Option (Int × Mem)
  | 0, _, _ => none
  | n + 1, x1, M => if M 127 38 ≤ x1 then some ((-5), M) else if 0 ≤ x1 ∧ x1 < 8 then if 0 ≤ M 153 x1 ∧ M 153 x1 < 6 then if 0 ≤ x1 ∧ x1 < 8 then if M 131 (M 153 x1) = M 154 x1 then f_X8_looked_2 n (w32 (x1 + 1)) M else some (x1, M) else none else none else none
def f_X8_looked (M : Mem) : Option (Int × Mem) :=
  f_X8_looked_2 FU 0 M
set_option maxRecDepth 20000 in
set_option maxHeartbeats 4000000 in
theorem b_X8_looked_2 {K : KX} {B : BX} {res : Int × Mem} (C : Cx K B false yX8_looked cX8_looked 2 (some .int) 1 0 0) : ∀ (n : Nat) (x1 : Int) (M : Mem), OK M → f_X8_looked_2 n x1 M = some res → Wx K B (Zr K B (some (aI res.1)) SH res.2 (OK res.2) 0 0) 0 0 SH 2 M 2 [some (aR 127), some (aI x1)] [] := by
  intro n
  induction n with
  | zero =>
    intro x1 M hOM h
    cases h
  | succ n ih =>
    intro x1 M hOM h
    rw [f_X8_looked_2.eq_2] at h
    refine mx_iload_n (pc := 2) C dX8_looked_2 rfl ?_
    refine mx_aload_n (pc := 3) C dX8_looked_3 rfl ?_
    refine mx_getI (pc := 4) C dX8_looked_4 so_8 ci_8 (k := 38) (by decide) fl_X8_126 rfl (q := 38) rfl ?_
    refine mx_icmp_ge (pc := 7) (tgt := 38) C dX8_looked_7 rfl (fun c1 => ?_) (fun c1 => ?_)
    · rw [if_pos c1] at h
      refine mx_bipush (pc := 38) C dX8_looked_38 (z := (-5)) rfl (by constructor <;> decide) ?_
      rw [← Option.some.inj h]
      exact mx_ireturn (pc := 40) C dX8_looked_40 hOM ⟨Nat.le_refl _, Nat.le_refl _⟩
    · rw [if_neg c1] at h
      refine mx_aload_n (pc := 10) C dX8_looked_10 rfl ?_
      refine mx_getR (pc := 11) (v := 131) C dX8_looked_11 so_8 ci_8 (k := 5) (by decide) fl_X8_26 rfl (q := 5) rfl (lay_8_5 hOM) (by decide) ?_
      refine mx_aload_n (pc := 14) C dX8_looked_14 rfl ?_
      refine mx_getR (pc := 15) (v := 153) C dX8_looked_15 so_8 ci_8 (k := 41) (by decide) fl_X8_135 rfl (q := 41) rfl (lay_8_41 hOM) (by decide) ?_
      refine mx_iload_n (pc := 18) C dX8_looked_18 rfl ?_
      obtain ⟨g2, h⟩ := of_gd h
      refine mx_iald (pc := 19) C dX8_looked_19 sh_8_41 g2.1 g2.2 ?_
      obtain ⟨g3, h⟩ := of_gd h
      refine mx_iald (pc := 20) C dX8_looked_20 sh_8_5 g3.1 g3.2 ?_
      refine mx_aload_n (pc := 21) C dX8_looked_21 rfl ?_
      refine mx_getR (pc := 22) (v := 154) C dX8_looked_22 so_8 ci_8 (k := 42) (by decide) fl_X8_138 rfl (q := 42) rfl (lay_8_42 hOM) (by decide) ?_
      refine mx_iload_n (pc := 25) C dX8_looked_25 rfl ?_
      obtain ⟨g4, h⟩ := of_gd h
      refine mx_iald (pc := 26) C dX8_looked_26 sh_8_42 g4.1 g4.2 ?_
      refine mx_icmp_eq (pc := 27) (tgt := 32) C dX8_looked_27 rfl (fun c5 => ?_) (fun c5 => ?_)
      · rw [if_pos c5] at h
        refine mx_iinc (pc := 32) C dX8_looked_32 (ls' := [some (aR 127), some (aI (w32 (x1 + 1)))]) rfl (by decide) rfl (by constructor <;> decide) rfl rfl ?_
        refine mx_goto (pc := 35) (tgt := 2) C dX8_looked_35 rfl ?_
        exact ih (w32 (x1 + 1)) M hOM h
      · rw [if_neg c5] at h
        refine mx_iload_n (pc := 30) C dX8_looked_30 rfl ?_
        rw [← Option.some.inj h]
        exact mx_ireturn (pc := 31) C dX8_looked_31 hOM ⟨Nat.le_refl _, Nat.le_refl _⟩
set_option maxRecDepth 20000 in
set_option maxHeartbeats 4000000 in
theorem m_X8_looked {M : Mem} {res : Int × Mem} (hOM : OK M) (h : f_X8_looked M = some res) : Mth false yX8_looked cX8_looked 2 (some .int) 1 0 0 SH [aR 127] M (some (aI res.1)) SH res.2 (OK res.2) := by
  refine Mth.of (by decide +kernel) (Nat.le_of_ble_eq_true rfl) (fun K B C => ?_)
  show Wx K B _ 0 0 SH 2 M 0 [some (aR 127), none] []
  unfold f_X8_looked at h
  refine mx_iconst (pc := 0) C dX8_looked_0 (z := 0) rfl (by constructor <;> decide) ?_
  refine mx_istore_n (pc := 1) C dX8_looked_1 (ls' := [some (aR 127), some (aI 0)]) (by decide) rfl rfl ?_
  exact b_X8_looked_2 C FU 0 M hOM h

def f_X8_isTape (p1 : Int) (M : Mem) : Option (Int × Mem) :=
  (f_X8_in p1 0 5 M).bind (fun q1 => some (q1.1, q1.2))
set_option maxRecDepth 20000 in
set_option maxHeartbeats 4000000 in
theorem m_X8_isTape {p1 : Int} {M : Mem} {res : Int × Mem} (hOM : OK M) (h : f_X8_isTape p1 M = some res) : Mth false yX8_isTape cX8_isTape 2 (some .boolean) 2 0 0 SH [aR 127, aI p1] M (some (aI res.1)) SH res.2 (OK res.2 ∧ (res.1 = 0 ∨ res.1 = 1)) := by
  refine Mth.of (by decide +kernel) (Nat.le_of_ble_eq_true rfl) (fun K B C => ?_)
  show Wx K B _ 0 0 SH 2 M 0 [some (aR 127), some (aI p1)] []
  unfold f_X8_isTape at h
  refine mx_aload_n (pc := 0) C dX8_isTape_0 rfl ?_
  refine mx_iload_n (pc := 1) C dX8_isTape_1 rfl ?_
  refine mx_iconst (pc := 2) C dX8_isTape_2 (z := 0) rfl (by constructor <;> decide) ?_
  refine mx_iconst (pc := 3) C dX8_isTape_3 (z := 5) rfl (by constructor <;> decide) ?_
  obtain ⟨q1, hq1, h⟩ := of_bd h
  refine mc_V (pc := 4) (as := [aI p1, aI 0, aI 5]) (rest := []) (stk2 := [aI q1.1]) C ⟨Nat.le_refl _, Nat.le_refl _⟩ (m_X8_in hOM hq1) mi_X8_in mv_X8_in ml_X8_218 ci_8 rfl so_8 (by omega) rfl (Nat.le_of_ble_eq_true rfl) dX8_isTape_4 rfl (fun hp2 => ?_)
  have hOq1 : OK q1.2 := hp2.1
  rw [← Option.some.inj h]
  exact mx_zreturn (pc := 7) C dX8_isTape_7 hp2.2 ⟨hOq1, hp2.2⟩ ⟨Nat.le_refl _, Nat.le_refl _⟩

def f_X8_judge_24 (p1 : Int) (p2 : Int) : Nat → Int → Int → Int → Mem → Option (Int × Mem)
  | 0, _, _, _, _ => none
  | n + 1, x1, x2, x3, M => if M 127 0 ≤ x3 then some ((-5), M) else if 0 ≤ x1 ∧ x1 < 6 then if M 168 x1 < 0 then some (w32 (100 + x3), M) else if x2 < 0 then some (w32 (100 + x3), M) else if 0 ≤ x1 ∧ x1 < 6 then if x2 ≤ w32 ((w32 ((M 169 x1) - x3)) - 1) then if 0 ≤ w32 ((w32 ((w32 (60 * x1)) + x2)) + x3) ∧ w32 ((w32 ((w32 (60 * x1)) + x2)) + x3) < 360 then if 0 ≤ x3 ∧ x3 < 6 then if cmp64 (M 170 (w32 ((w32 ((w32 (60 * x1)) + x2)) + x3))) (M 130 x3) = 0 then f_X8_judge_24 p1 p2 n x1 x2 (w32 (x3 + 1)) M else some (x3, M) else none else none else some (w32 (100 + x3), M) else none else none
def f_X8_judge (p1 : Int) (p2 : Int) (M : Mem) : Option (Int × Mem) :=
  (f_X8_isTape p1 M).bind (fun q1 => if q1.1 = 0 then some ((-1), q1.2) else if 0 ≤ p1 ∧ p1 < 6 then if q1.2 168 p1 ≤ 0 then f_X8_judge_24 p1 p2 FU p1 p2 0 q1.2 else some ((-12), q1.2) else none)
set_option maxRecDepth 20000 in
set_option maxHeartbeats 4000000 in
theorem b_X8_judge_24 {K : KX} {B : BX} {res : Int × Mem} {p1 : Int} {p2 : Int} (C : Cx K B false yX8_judge cX8_judge 4 (some .int) 3 0 0) : ∀ (n : Nat) (x1 : Int) (x2 : Int) (x3 : Int) (M : Mem), OK M → f_X8_judge_24 p1 p2 n x1 x2 x3 M = some res → Wx K B (Zr K B (some (aI res.1)) SH res.2 (OK res.2) 0 0) 0 0 SH 4 M 24 [some (aR 127), some (aI x1), some (aI x2), some (aI x3)] [] := by
  intro n
  induction n with
  | zero =>
    intro x1 x2 x3 M hOM h
    cases h
  | succ n ih =>
    intro x1 x2 x3 M hOM h
    rw [f_X8_judge_24.eq_2] at h
    refine mx_iload_n (pc := 24) C dX8_judge_24 rfl ?_
    refine mx_aload_n (pc := 25) C dX8_judge_25 rfl ?_
    refine mx_getI (pc := 26) C dX8_judge_26 so_8 ci_8 (k := 0) (by decide) fl_X8_7 rfl (q := 0) rfl ?_
    refine mx_icmp_ge (pc := 29) (tgt := 96) C dX8_judge_29 rfl (fun c1 => ?_) (fun c1 => ?_)
    · rw [if_pos c1] at h
      refine mx_bipush (pc := 96) C dX8_judge_96 (z := (-5)) rfl (by constructor <;> decide) ?_
      rw [← Option.some.inj h]
      exact mx_ireturn (pc := 98) C dX8_judge_98 hOM ⟨Nat.le_refl _, Nat.le_refl _⟩
    · rw [if_neg c1] at h
      refine mx_aload_n (pc := 32) C dX8_judge_32 rfl ?_
      refine mx_getR (pc := 33) (v := 168) C dX8_judge_33 so_8 ci_8 (k := 64) (by decide) fl_X8_205 rfl (q := 64) rfl (lay_8_64 hOM) (by decide) ?_
      refine mx_iload_n (pc := 36) C dX8_judge_36 rfl ?_
      obtain ⟨g2, h⟩ := of_gd h
      refine mx_iald (pc := 37) C dX8_judge_37 sh_8_64 g2.1 g2.2 ?_
      refine mx_if_lt (pc := 38) (tgt := 59) C dX8_judge_38 rfl (fun c3 => ?_) (fun c3 => ?_)
      · rw [if_pos c3] at h
        refine mx_bipush (pc := 59) C dX8_judge_59 (z := 100) rfl (by constructor <;> decide) ?_
        refine mx_iload_n (pc := 61) C dX8_judge_61 rfl ?_
        refine mx_iadd (pc := 62) C dX8_judge_62  ?_
        rw [← Option.some.inj h]
        exact mx_ireturn (pc := 63) C dX8_judge_63 hOM ⟨Nat.le_refl _, Nat.le_refl _⟩
      · rw [if_neg c3] at h
        refine mx_iload_n (pc := 41) C dX8_judge_41 rfl ?_
        refine mx_if_lt (pc := 42) (tgt := 59) C dX8_judge_42 rfl (fun c4 => ?_) (fun c4 => ?_)
        · rw [if_pos c4] at h
          refine mx_bipush (pc := 59) C dX8_judge_59 (z := 100) rfl (by constructor <;> decide) ?_
          refine mx_iload_n (pc := 61) C dX8_judge_61 rfl ?_
          refine mx_iadd (pc := 62) C dX8_judge_62  ?_
          rw [← Option.some.inj h]
          exact mx_ireturn (pc := 63) C dX8_judge_63 hOM ⟨Nat.le_refl _, Nat.le_refl _⟩
        · rw [if_neg c4] at h
          refine mx_iload_n (pc := 45) C dX8_judge_45 rfl ?_
          refine mx_aload_n (pc := 46) C dX8_judge_46 rfl ?_
          refine mx_getR (pc := 47) (v := 169) C dX8_judge_47 so_8 ci_8 (k := 65) (by decide) fl_X8_208 rfl (q := 65) rfl (lay_8_65 hOM) (by decide) ?_
          refine mx_iload_n (pc := 50) C dX8_judge_50 rfl ?_
          obtain ⟨g5, h⟩ := of_gd h
          refine mx_iald (pc := 51) C dX8_judge_51 sh_8_65 g5.1 g5.2 ?_
          refine mx_iload_n (pc := 52) C dX8_judge_52 rfl ?_
          refine mx_isub (pc := 53) C dX8_judge_53  ?_
          refine mx_iconst (pc := 54) C dX8_judge_54 (z := 1) rfl (by constructor <;> decide) ?_
          refine mx_isub (pc := 55) C dX8_judge_55  ?_
          refine mx_icmp_le (pc := 56) (tgt := 64) C dX8_judge_56 rfl (fun c6 => ?_) (fun c6 => ?_)
          · rw [if_pos c6] at h
            refine mx_aload_n (pc := 64) C dX8_judge_64 rfl ?_
            refine mx_getR (pc := 65) (v := 170) C dX8_judge_65 so_8 ci_8 (k := 66) (by decide) fl_X8_211 rfl (q := 66) rfl (lay_8_66 hOM) (by decide) ?_
            refine mx_bipush (pc := 68) C dX8_judge_68 (z := 60) rfl (by constructor <;> decide) ?_
            refine mx_iload_n (pc := 70) C dX8_judge_70 rfl ?_
            refine mx_imul (pc := 71) C dX8_judge_71  ?_
            refine mx_iload_n (pc := 72) C dX8_judge_72 rfl ?_
            refine mx_iadd (pc := 73) C dX8_judge_73  ?_
            refine mx_iload_n (pc := 74) C dX8_judge_74 rfl ?_
            refine mx_iadd (pc := 75) C dX8_judge_75  ?_
            obtain ⟨g7, h⟩ := of_gd h
            refine mx_lald (pc := 76) C dX8_judge_76 sh_8_66 g7.1 g7.2 ?_
            refine mx_aload_n (pc := 77) C dX8_judge_77 rfl ?_
            refine mx_getR (pc := 78) (v := 130) C dX8_judge_78 so_8 ci_8 (k := 4) (by decide) fl_X8_23 rfl (q := 4) rfl (lay_8_4 hOM) (by decide) ?_
            refine mx_iload_n (pc := 81) C dX8_judge_81 rfl ?_
            obtain ⟨g8, h⟩ := of_gd h
            refine mx_iald (pc := 82) C dX8_judge_82 sh_8_4 g8.1 g8.2 ?_
            refine mx_i2l (pc := 83) C dX8_judge_83  ?_
            refine mx_lcmp (pc := 84) C dX8_judge_84  ?_
            refine mx_if_eq (pc := 85) (tgt := 90) C dX8_judge_85 rfl (fun c9 => ?_) (fun c9 => ?_)
            · rw [if_pos c9] at h
              refine mx_iinc (pc := 90) C dX8_judge_90 (ls' := [some (aR 127), some (aI x1), some (aI x2), some (aI (w32 (x3 + 1)))]) rfl (by decide) rfl (by constructor <;> decide) rfl rfl ?_
              refine mx_goto (pc := 93) (tgt := 24) C dX8_judge_93 rfl ?_
              exact ih x1 x2 (w32 (x3 + 1)) M hOM h
            · rw [if_neg c9] at h
              refine mx_iload_n (pc := 88) C dX8_judge_88 rfl ?_
              rw [← Option.some.inj h]
              exact mx_ireturn (pc := 89) C dX8_judge_89 hOM ⟨Nat.le_refl _, Nat.le_refl _⟩
          · rw [if_neg c6] at h
            refine mx_bipush (pc := 59) C dX8_judge_59 (z := 100) rfl (by constructor <;> decide) ?_
            refine mx_iload_n (pc := 61) C dX8_judge_61 rfl ?_
            refine mx_iadd (pc := 62) C dX8_judge_62  ?_
            rw [← Option.some.inj h]
            exact mx_ireturn (pc := 63) C dX8_judge_63 hOM ⟨Nat.le_refl _, Nat.le_refl _⟩
set_option maxRecDepth 20000 in
set_option maxHeartbeats 4000000 in
theorem m_X8_judge {p1 : Int} {p2 : Int} {M : Mem} {res : Int × Mem} (hOM : OK M) (h : f_X8_judge p1 p2 M = some res) : Mth false yX8_judge cX8_judge 4 (some .int) 3 0 0 SH [aR 127, aI p1, aI p2] M (some (aI res.1)) SH res.2 (OK res.2) := by
  refine Mth.of (by decide +kernel) (Nat.le_of_ble_eq_true rfl) (fun K B C => ?_)
  show Wx K B _ 0 0 SH 4 M 0 [some (aR 127), some (aI p1), some (aI p2), none] []
  unfold f_X8_judge at h
  refine mx_aload_n (pc := 0) C dX8_judge_0 rfl ?_
  refine mx_iload_n (pc := 1) C dX8_judge_1 rfl ?_
  obtain ⟨q1, hq1, h⟩ := of_bd h
  refine mc_V (pc := 2) (as := [aI p1]) (rest := []) (stk2 := [aI q1.1]) C ⟨Nat.le_refl _, Nat.le_refl _⟩ (m_X8_isTape hOM hq1) mi_X8_isTape mv_X8_isTape ml_X8_406 ci_8 rfl so_8 (by omega) rfl (Nat.le_of_ble_eq_true rfl) dX8_judge_2 rfl (fun hp2 => ?_)
  have hOq1 : OK q1.2 := hp2.1
  refine mx_if_ne (pc := 5) (tgt := 10) C dX8_judge_5 rfl (fun c3 => ?_) (fun c3 => ?_)
  · rw [if_neg c3] at h
    refine mx_aload_n (pc := 10) C dX8_judge_10 rfl ?_
    refine mx_getR (pc := 11) (v := 168) C dX8_judge_11 so_8 ci_8 (k := 64) (by decide) fl_X8_205 rfl (q := 64) rfl (lay_8_64 hOq1) (by decide) ?_
    refine mx_iload_n (pc := 14) C dX8_judge_14 rfl ?_
    obtain ⟨g4, h⟩ := of_gd h
    refine mx_iald (pc := 15) C dX8_judge_15 sh_8_64 g4.1 g4.2 ?_
    refine mx_if_le (pc := 16) (tgt := 22) C dX8_judge_16 rfl (fun c5 => ?_) (fun c5 => ?_)
    · rw [if_pos c5] at h
      refine mx_iconst (pc := 22) C dX8_judge_22 (z := 0) rfl (by constructor <;> decide) ?_
      refine mx_istore_n (pc := 23) C dX8_judge_23 (ls' := [some (aR 127), some (aI p1), some (aI p2), some (aI 0)]) (by decide) rfl rfl ?_
      exact b_X8_judge_24 C FU p1 p2 0 q1.2 hOq1 h
    · rw [if_neg c5] at h
      refine mx_bipush (pc := 19) C dX8_judge_19 (z := (-12)) rfl (by constructor <;> decide) ?_
      rw [← Option.some.inj h]
      exact mx_ireturn (pc := 21) C dX8_judge_21 hOq1 ⟨Nat.le_refl _, Nat.le_refl _⟩
  · rw [if_pos c3] at h
    refine mx_iconst (pc := 8) C dX8_judge_8 (z := (-1)) rfl (by constructor <;> decide) ?_
    rw [← Option.some.inj h]
    exact mx_ireturn (pc := 9) C dX8_judge_9 hOq1 ⟨Nat.le_refl _, Nat.le_refl _⟩

def f_X8_image_230 : Nat → Int → Mem → Option (Int × Mem)
  | 0, _, _ => none
  | n + 1, x1, M => if 8 ≤ x1 then some (M 127 0, M) else if 0 ≤ x1 ∧ x1 < 8 then if 0 ≤ x1 ∧ x1 < 8 then lt (stM M 165 x1 (M 153 x1)) (fun M4 => if 0 ≤ x1 ∧ x1 < 8 then if 0 ≤ x1 ∧ x1 < 8 then lt (stM M4 166 x1 (M4 154 x1)) (fun M7 => f_X8_image_230 n (w32 (x1 + 1)) M7) else none else none) else none else none
def f_X8_image_192 : Nat → Int → Mem → Option (Int × Mem)
  | 0, _, _ => none
  | n + 1, x1, M => if 10 ≤ x1 then f_X8_image_230 FU 0 M else if 0 ≤ x1 ∧ x1 < 10 then if 0 ≤ x1 ∧ x1 < 10 then lt (stM M 163 x1 (M 151 x1)) (fun M4 => if 0 ≤ x1 ∧ x1 < 10 then if 0 ≤ x1 ∧ x1 < 10 then lt (stM M4 164 x1 (M4 152 x1)) (fun M7 => f_X8_image_192 n (w32 (x1 + 1)) M7) else none else none) else none else none
def f_X8_image_143 : Nat → Int → Mem → Option (Int × Mem)
  | 0, _, _ => none
  | n + 1, x1, M => if 5 ≤ x1 then f_X8_image_192 FU 0 M else if 0 ≤ x1 ∧ x1 < 5 then if 0 ≤ x1 ∧ x1 < 5 then lt (stM M 160 x1 (M 148 x1)) (fun M4 => if 0 ≤ x1 ∧ x1 < 5 then if 0 ≤ x1 ∧ x1 < 5 then lt (stM M4 161 x1 (M4 149 x1)) (fun M7 => if 0 ≤ x1 ∧ x1 < 5 then if 0 ≤ x1 ∧ x1 < 5 then lt (stM M7 162 x1 (M7 150 x1)) (fun M10 => f_X8_image_143 n (w32 (x1 + 1)) M10) else none else none) else none else none) else none else none
def f_X8_image_117 : Nat → Int → Mem → Option (Int × Mem)
  | 0, _, _ => none
  | n + 1, x1, M => if 24 ≤ x1 then f_X8_image_143 FU 0 M else if 0 ≤ x1 ∧ x1 < 24 then if 0 ≤ x1 ∧ x1 < 24 then lt (stM M 159 x1 (M 132 x1)) (fun M4 => f_X8_image_117 n (w32 (x1 + 1)) M4) else none else none
def f_X8_image_55 : Nat → Int → Mem → Option (Int × Mem)
  | 0, _, _ => none
  | n + 1, x1, M => if 6 ≤ x1 then f_X8_image_117 FU 0 M else if 0 ≤ x1 ∧ x1 < 6 then if 0 ≤ x1 ∧ x1 < 6 then lt (stM M 155 x1 (M 128 x1)) (fun M4 => if 0 ≤ x1 ∧ x1 < 6 then if 0 ≤ x1 ∧ x1 < 6 then lt (stM M4 156 x1 (M4 129 x1)) (fun M7 => if 0 ≤ x1 ∧ x1 < 6 then if 0 ≤ x1 ∧ x1 < 6 then lt (stM M7 157 x1 (M7 130 x1)) (fun M10 => if 0 ≤ x1 ∧ x1 < 6 then if 0 ≤ x1 ∧ x1 < 6 then lt (stM M10 158 x1 (M10 131 x1)) (fun M13 => f_X8_image_55 n (w32 (x1 + 1)) M13) else none else none) else none else none) else none else none) else none else none
def f_X8_image (M : Mem) : Option (Int × Mem) :=
  lt (stM M 127 43 1) (fun M1 => lt (stM M1 127 44 (M1 127 8)) (fun M2 => lt (stM M2 127 45 (M2 127 0)) (fun M3 => lt (stM M3 127 46 (M3 127 1)) (fun M4 => lt (stM M4 127 47 (M4 127 33)) (fun M5 => lt (stM M5 127 48 (M5 127 37)) (fun M6 => lt (stM M6 127 49 (M6 127 38)) (fun M7 => f_X8_image_55 FU 0 M7)))))))
set_option maxRecDepth 20000 in
set_option maxHeartbeats 4000000 in
theorem b_X8_image_230 {K : KX} {B : BX} {res : Int × Mem} (C : Cx K B false yX8_image cX8_image 2 (some .int) 1 0 0) : ∀ (n : Nat) (x1 : Int) (M : Mem), OK M → f_X8_image_230 n x1 M = some res → Wx K B (Zr K B (some (aI res.1)) SH res.2 (OK res.2) 0 0) 0 0 SH 2 M 230 [some (aR 127), some (aI x1)] [] := by
  intro n
  induction n with
  | zero =>
    intro x1 M hOM h
    cases h
  | succ n ih =>
    intro x1 M hOM h
    rw [f_X8_image_230.eq_2] at h
    refine mx_iload_n (pc := 230) C dX8_image_230 rfl ?_
    refine mx_bipush (pc := 231) C dX8_image_231 (z := 8) rfl (by constructor <;> decide) ?_
    refine mx_icmp_ge (pc := 233) (tgt := 266) C dX8_image_233 rfl (fun c1 => ?_) (fun c1 => ?_)
    · rw [if_pos c1] at h
      refine mx_aload_n (pc := 266) C dX8_image_266 rfl ?_
      refine mx_getI (pc := 267) C dX8_image_267 so_8 ci_8 (k := 0) (by decide) fl_X8_7 rfl (q := 0) rfl ?_
      rw [← Option.some.inj h]
      exact mx_ireturn (pc := 270) C dX8_image_270 hOM ⟨Nat.le_refl _, Nat.le_refl _⟩
    · rw [if_neg c1] at h
      refine mx_aload_n (pc := 236) C dX8_image_236 rfl ?_
      refine mx_getR (pc := 237) (v := 165) C dX8_image_237 so_8 ci_8 (k := 60) (by decide) fl_X8_193 rfl (q := 60) rfl (lay_8_60 hOM) (by decide) ?_
      refine mx_iload_n (pc := 240) C dX8_image_240 rfl ?_
      refine mx_aload_n (pc := 241) C dX8_image_241 rfl ?_
      refine mx_getR (pc := 242) (v := 153) C dX8_image_242 so_8 ci_8 (k := 41) (by decide) fl_X8_135 rfl (q := 41) rfl (lay_8_41 hOM) (by decide) ?_
      refine mx_iload_n (pc := 245) C dX8_image_245 rfl ?_
      obtain ⟨g2, h⟩ := of_gd h
      refine mx_iald (pc := 246) C dX8_image_246 sh_8_41 g2.1 g2.2 ?_
      obtain ⟨g3, h⟩ := of_gd h
      refine mx_iast (pc := 247) C dX8_image_247 sh_8_60 g3.1 g3.2 ?_
      generalize hmM4 : stM M 165 x1 (M 153 x1) = M4 at h ⊢
      replace h := lt_e h
      have hOM4 : OK M4 := by rw [← hmM4]; exact ok_arr hOM sh_8_60 (by decide)
      refine mx_aload_n (pc := 248) C dX8_image_248 rfl ?_
      refine mx_getR (pc := 249) (v := 166) C dX8_image_249 so_8 ci_8 (k := 61) (by decide) fl_X8_196 rfl (q := 61) rfl (lay_8_61 hOM4) (by decide) ?_
      refine mx_iload_n (pc := 252) C dX8_image_252 rfl ?_
      refine mx_aload_n (pc := 253) C dX8_image_253 rfl ?_
      refine mx_getR (pc := 254) (v := 154) C dX8_image_254 so_8 ci_8 (k := 42) (by decide) fl_X8_138 rfl (q := 42) rfl (lay_8_42 hOM4) (by decide) ?_
      refine mx_iload_n (pc := 257) C dX8_image_257 rfl ?_
      obtain ⟨g5, h⟩ := of_gd h
      refine mx_iald (pc := 258) C dX8_image_258 sh_8_42 g5.1 g5.2 ?_
      obtain ⟨g6, h⟩ := of_gd h
      refine mx_iast (pc := 259) C dX8_image_259 sh_8_61 g6.1 g6.2 ?_
      generalize hmM7 : stM M4 166 x1 (M4 154 x1) = M7 at h ⊢
      replace h := lt_e h
      have hOM7 : OK M7 := by rw [← hmM7]; exact ok_arr hOM4 sh_8_61 (by decide)
      refine mx_iinc (pc := 260) C dX8_image_260 (ls' := [some (aR 127), some (aI (w32 (x1 + 1)))]) rfl (by decide) rfl (by constructor <;> decide) rfl rfl ?_
      refine mx_goto (pc := 263) (tgt := 230) C dX8_image_263 rfl ?_
      exact ih (w32 (x1 + 1)) M7 hOM7 h
set_option maxRecDepth 20000 in
set_option maxHeartbeats 4000000 in
theorem b_X8_image_192 {K : KX} {B : BX} {res : Int × Mem} (C : Cx K B false yX8_image cX8_image 2 (some .int) 1 0 0) : ∀ (n : Nat) (x1 : Int) (M : Mem), OK M → f_X8_image_192 n x1 M = some res → Wx K B (Zr K B (some (aI res.1)) SH res.2 (OK res.2) 0 0) 0 0 SH 2 M 192 [some (aR 127), some (aI x1)] [] := by
  intro n
  induction n with
  | zero =>
    intro x1 M hOM h
    cases h
  | succ n ih =>
    intro x1 M hOM h
    rw [f_X8_image_192.eq_2] at h
    refine mx_iload_n (pc := 192) C dX8_image_192 rfl ?_
    refine mx_bipush (pc := 193) C dX8_image_193 (z := 10) rfl (by constructor <;> decide) ?_
    refine mx_icmp_ge (pc := 195) (tgt := 228) C dX8_image_195 rfl (fun c1 => ?_) (fun c1 => ?_)
    · rw [if_pos c1] at h
      refine mx_iconst (pc := 228) C dX8_image_228 (z := 0) rfl (by constructor <;> decide) ?_
      refine mx_istore_n (pc := 229) C dX8_image_229 (ls' := [some (aR 127), some (aI 0)]) (by decide) rfl rfl ?_
      exact b_X8_image_230 C FU 0 M hOM h
    · rw [if_neg c1] at h
      refine mx_aload_n (pc := 198) C dX8_image_198 rfl ?_
      refine mx_getR (pc := 199) (v := 163) C dX8_image_199 so_8 ci_8 (k := 58) (by decide) fl_X8_187 rfl (q := 58) rfl (lay_8_58 hOM) (by decide) ?_
      refine mx_iload_n (pc := 202) C dX8_image_202 rfl ?_
      refine mx_aload_n (pc := 203) C dX8_image_203 rfl ?_
      refine mx_getR (pc := 204) (v := 151) C dX8_image_204 so_8 ci_8 (k := 39) (by decide) fl_X8_129 rfl (q := 39) rfl (lay_8_39 hOM) (by decide) ?_
      refine mx_iload_n (pc := 207) C dX8_image_207 rfl ?_
      obtain ⟨g2, h⟩ := of_gd h
      refine mx_iald (pc := 208) C dX8_image_208 sh_8_39 g2.1 g2.2 ?_
      obtain ⟨g3, h⟩ := of_gd h
      refine mx_iast (pc := 209) C dX8_image_209 sh_8_58 g3.1 g3.2 ?_
      generalize hmM4 : stM M 163 x1 (M 151 x1) = M4 at h ⊢
      replace h := lt_e h
      have hOM4 : OK M4 := by rw [← hmM4]; exact ok_arr hOM sh_8_58 (by decide)
      refine mx_aload_n (pc := 210) C dX8_image_210 rfl ?_
      refine mx_getR (pc := 211) (v := 164) C dX8_image_211 so_8 ci_8 (k := 59) (by decide) fl_X8_190 rfl (q := 59) rfl (lay_8_59 hOM4) (by decide) ?_
      refine mx_iload_n (pc := 214) C dX8_image_214 rfl ?_
      refine mx_aload_n (pc := 215) C dX8_image_215 rfl ?_
      refine mx_getR (pc := 216) (v := 152) C dX8_image_216 so_8 ci_8 (k := 40) (by decide) fl_X8_132 rfl (q := 40) rfl (lay_8_40 hOM4) (by decide) ?_
      refine mx_iload_n (pc := 219) C dX8_image_219 rfl ?_
      obtain ⟨g5, h⟩ := of_gd h
      refine mx_iald (pc := 220) C dX8_image_220 sh_8_40 g5.1 g5.2 ?_
      obtain ⟨g6, h⟩ := of_gd h
      refine mx_iast (pc := 221) C dX8_image_221 sh_8_59 g6.1 g6.2 ?_
      generalize hmM7 : stM M4 164 x1 (M4 152 x1) = M7 at h ⊢
      replace h := lt_e h
      have hOM7 : OK M7 := by rw [← hmM7]; exact ok_arr hOM4 sh_8_59 (by decide)
      refine mx_iinc (pc := 222) C dX8_image_222 (ls' := [some (aR 127), some (aI (w32 (x1 + 1)))]) rfl (by decide) rfl (by constructor <;> decide) rfl rfl ?_
      refine mx_goto (pc := 225) (tgt := 192) C dX8_image_225 rfl ?_
      exact ih (w32 (x1 + 1)) M7 hOM7 h
set_option maxRecDepth 20000 in
set_option maxHeartbeats 4000000 in
theorem b_X8_image_143 {K : KX} {B : BX} {res : Int × Mem} (C : Cx K B false yX8_image cX8_image 2 (some .int) 1 0 0) : ∀ (n : Nat) (x1 : Int) (M : Mem), OK M → f_X8_image_143 n x1 M = some res → Wx K B (Zr K B (some (aI res.1)) SH res.2 (OK res.2) 0 0) 0 0 SH 2 M 143 [some (aR 127), some (aI x1)] [] := by
  intro n
  induction n with
  | zero =>
    intro x1 M hOM h
    cases h
  | succ n ih =>
    intro x1 M hOM h
    rw [f_X8_image_143.eq_2] at h
    refine mx_iload_n (pc := 143) C dX8_image_143 rfl ?_
    refine mx_iconst (pc := 144) C dX8_image_144 (z := 5) rfl (by constructor <;> decide) ?_
    refine mx_icmp_ge (pc := 145) (tgt := 190) C dX8_image_145 rfl (fun c1 => ?_) (fun c1 => ?_)
    · rw [if_pos c1] at h
      refine mx_iconst (pc := 190) C dX8_image_190 (z := 0) rfl (by constructor <;> decide) ?_
      refine mx_istore_n (pc := 191) C dX8_image_191 (ls' := [some (aR 127), some (aI 0)]) (by decide) rfl rfl ?_
      exact b_X8_image_192 C FU 0 M hOM h
    · rw [if_neg c1] at h
      refine mx_aload_n (pc := 148) C dX8_image_148 rfl ?_
      refine mx_getR (pc := 149) (v := 160) C dX8_image_149 so_8 ci_8 (k := 55) (by decide) fl_X8_178 rfl (q := 55) rfl (lay_8_55 hOM) (by decide) ?_
      refine mx_iload_n (pc := 152) C dX8_image_152 rfl ?_
      refine mx_aload_n (pc := 153) C dX8_image_153 rfl ?_
      refine mx_getR (pc := 154) (v := 148) C dX8_image_154 so_8 ci_8 (k := 34) (by decide) fl_X8_114 rfl (q := 34) rfl (lay_8_34 hOM) (by decide) ?_
      refine mx_iload_n (pc := 157) C dX8_image_157 rfl ?_
      obtain ⟨g2, h⟩ := of_gd h
      refine mx_iald (pc := 158) C dX8_image_158 sh_8_34 g2.1 g2.2 ?_
      obtain ⟨g3, h⟩ := of_gd h
      refine mx_iast (pc := 159) C dX8_image_159 sh_8_55 g3.1 g3.2 ?_
      generalize hmM4 : stM M 160 x1 (M 148 x1) = M4 at h ⊢
      replace h := lt_e h
      have hOM4 : OK M4 := by rw [← hmM4]; exact ok_arr hOM sh_8_55 (by decide)
      refine mx_aload_n (pc := 160) C dX8_image_160 rfl ?_
      refine mx_getR (pc := 161) (v := 161) C dX8_image_161 so_8 ci_8 (k := 56) (by decide) fl_X8_181 rfl (q := 56) rfl (lay_8_56 hOM4) (by decide) ?_
      refine mx_iload_n (pc := 164) C dX8_image_164 rfl ?_
      refine mx_aload_n (pc := 165) C dX8_image_165 rfl ?_
      refine mx_getR (pc := 166) (v := 149) C dX8_image_166 so_8 ci_8 (k := 35) (by decide) fl_X8_117 rfl (q := 35) rfl (lay_8_35 hOM4) (by decide) ?_
      refine mx_iload_n (pc := 169) C dX8_image_169 rfl ?_
      obtain ⟨g5, h⟩ := of_gd h
      refine mx_iald (pc := 170) C dX8_image_170 sh_8_35 g5.1 g5.2 ?_
      obtain ⟨g6, h⟩ := of_gd h
      refine mx_iast (pc := 171) C dX8_image_171 sh_8_56 g6.1 g6.2 ?_
      generalize hmM7 : stM M4 161 x1 (M4 149 x1) = M7 at h ⊢
      replace h := lt_e h
      have hOM7 : OK M7 := by rw [← hmM7]; exact ok_arr hOM4 sh_8_56 (by decide)
      refine mx_aload_n (pc := 172) C dX8_image_172 rfl ?_
      refine mx_getR (pc := 173) (v := 162) C dX8_image_173 so_8 ci_8 (k := 57) (by decide) fl_X8_184 rfl (q := 57) rfl (lay_8_57 hOM7) (by decide) ?_
      refine mx_iload_n (pc := 176) C dX8_image_176 rfl ?_
      refine mx_aload_n (pc := 177) C dX8_image_177 rfl ?_
      refine mx_getR (pc := 178) (v := 150) C dX8_image_178 so_8 ci_8 (k := 36) (by decide) fl_X8_120 rfl (q := 36) rfl (lay_8_36 hOM7) (by decide) ?_
      refine mx_iload_n (pc := 181) C dX8_image_181 rfl ?_
      obtain ⟨g8, h⟩ := of_gd h
      refine mx_iald (pc := 182) C dX8_image_182 sh_8_36 g8.1 g8.2 ?_
      obtain ⟨g9, h⟩ := of_gd h
      refine mx_iast (pc := 183) C dX8_image_183 sh_8_57 g9.1 g9.2 ?_
      generalize hmM10 : stM M7 162 x1 (M7 150 x1) = M10 at h ⊢
      replace h := lt_e h
      have hOM10 : OK M10 := by rw [← hmM10]; exact ok_arr hOM7 sh_8_57 (by decide)
      refine mx_iinc (pc := 184) C dX8_image_184 (ls' := [some (aR 127), some (aI (w32 (x1 + 1)))]) rfl (by decide) rfl (by constructor <;> decide) rfl rfl ?_
      refine mx_goto (pc := 187) (tgt := 143) C dX8_image_187 rfl ?_
      exact ih (w32 (x1 + 1)) M10 hOM10 h
set_option maxRecDepth 20000 in
set_option maxHeartbeats 4000000 in
theorem b_X8_image_117 {K : KX} {B : BX} {res : Int × Mem} (C : Cx K B false yX8_image cX8_image 2 (some .int) 1 0 0) : ∀ (n : Nat) (x1 : Int) (M : Mem), OK M → f_X8_image_117 n x1 M = some res → Wx K B (Zr K B (some (aI res.1)) SH res.2 (OK res.2) 0 0) 0 0 SH 2 M 117 [some (aR 127), some (aI x1)] [] := by
  intro n
  induction n with
  | zero =>
    intro x1 M hOM h
    cases h
  | succ n ih =>
    intro x1 M hOM h
    rw [f_X8_image_117.eq_2] at h
    refine mx_iload_n (pc := 117) C dX8_image_117 rfl ?_
    refine mx_bipush (pc := 118) C dX8_image_118 (z := 24) rfl (by constructor <;> decide) ?_
    refine mx_icmp_ge (pc := 120) (tgt := 141) C dX8_image_120 rfl (fun c1 => ?_) (fun c1 => ?_)
    · rw [if_pos c1] at h
      refine mx_iconst (pc := 141) C dX8_image_141 (z := 0) rfl (by constructor <;> decide) ?_
      refine mx_istore_n (pc := 142) C dX8_image_142 (ls' := [some (aR 127), some (aI 0)]) (by decide) rfl rfl ?_
      exact b_X8_image_143 C FU 0 M hOM h
    · rw [if_neg c1] at h
      refine mx_aload_n (pc := 123) C dX8_image_123 rfl ?_
      refine mx_getR (pc := 124) (v := 159) C dX8_image_124 so_8 ci_8 (k := 54) (by decide) fl_X8_175 rfl (q := 54) rfl (lay_8_54 hOM) (by decide) ?_
      refine mx_iload_n (pc := 127) C dX8_image_127 rfl ?_
      refine mx_aload_n (pc := 128) C dX8_image_128 rfl ?_
      refine mx_getR (pc := 129) (v := 132) C dX8_image_129 so_8 ci_8 (k := 6) (by decide) fl_X8_29 rfl (q := 6) rfl (lay_8_6 hOM) (by decide) ?_
      refine mx_iload_n (pc := 132) C dX8_image_132 rfl ?_
      obtain ⟨g2, h⟩ := of_gd h
      refine mx_iald (pc := 133) C dX8_image_133 sh_8_6 g2.1 g2.2 ?_
      obtain ⟨g3, h⟩ := of_gd h
      refine mx_iast (pc := 134) C dX8_image_134 sh_8_54 g3.1 g3.2 ?_
      generalize hmM4 : stM M 159 x1 (M 132 x1) = M4 at h ⊢
      replace h := lt_e h
      have hOM4 : OK M4 := by rw [← hmM4]; exact ok_arr hOM sh_8_54 (by decide)
      refine mx_iinc (pc := 135) C dX8_image_135 (ls' := [some (aR 127), some (aI (w32 (x1 + 1)))]) rfl (by decide) rfl (by constructor <;> decide) rfl rfl ?_
      refine mx_goto (pc := 138) (tgt := 117) C dX8_image_138 rfl ?_
      exact ih (w32 (x1 + 1)) M4 hOM4 h
set_option maxRecDepth 20000 in
set_option maxHeartbeats 4000000 in
theorem b_X8_image_55 {K : KX} {B : BX} {res : Int × Mem} (C : Cx K B false yX8_image cX8_image 2 (some .int) 1 0 0) : ∀ (n : Nat) (x1 : Int) (M : Mem), OK M → f_X8_image_55 n x1 M = some res → Wx K B (Zr K B (some (aI res.1)) SH res.2 (OK res.2) 0 0) 0 0 SH 2 M 55 [some (aR 127), some (aI x1)] [] := by
  intro n
  induction n with
  | zero =>
    intro x1 M hOM h
    cases h
  | succ n ih =>
    intro x1 M hOM h
    rw [f_X8_image_55.eq_2] at h
    refine mx_iload_n (pc := 55) C dX8_image_55 rfl ?_
    refine mx_bipush (pc := 56) C dX8_image_56 (z := 6) rfl (by constructor <;> decide) ?_
    refine mx_icmp_ge (pc := 58) (tgt := 115) C dX8_image_58 rfl (fun c1 => ?_) (fun c1 => ?_)
    · rw [if_pos c1] at h
      refine mx_iconst (pc := 115) C dX8_image_115 (z := 0) rfl (by constructor <;> decide) ?_
      refine mx_istore_n (pc := 116) C dX8_image_116 (ls' := [some (aR 127), some (aI 0)]) (by decide) rfl rfl ?_
      exact b_X8_image_117 C FU 0 M hOM h
    · rw [if_neg c1] at h
      refine mx_aload_n (pc := 61) C dX8_image_61 rfl ?_
      refine mx_getR (pc := 62) (v := 155) C dX8_image_62 so_8 ci_8 (k := 50) (by decide) fl_X8_163 rfl (q := 50) rfl (lay_8_50 hOM) (by decide) ?_
      refine mx_iload_n (pc := 65) C dX8_image_65 rfl ?_
      refine mx_aload_n (pc := 66) C dX8_image_66 rfl ?_
      refine mx_getR (pc := 67) (v := 128) C dX8_image_67 so_8 ci_8 (k := 2) (by decide) fl_X8_16 rfl (q := 2) rfl (lay_8_2 hOM) (by decide) ?_
      refine mx_iload_n (pc := 70) C dX8_image_70 rfl ?_
      obtain ⟨g2, h⟩ := of_gd h
      refine mx_iald (pc := 71) C dX8_image_71 sh_8_2 g2.1 g2.2 ?_
      obtain ⟨g3, h⟩ := of_gd h
      refine mx_iast (pc := 72) C dX8_image_72 sh_8_50 g3.1 g3.2 ?_
      generalize hmM4 : stM M 155 x1 (M 128 x1) = M4 at h ⊢
      replace h := lt_e h
      have hOM4 : OK M4 := by rw [← hmM4]; exact ok_arr hOM sh_8_50 (by decide)
      refine mx_aload_n (pc := 73) C dX8_image_73 rfl ?_
      refine mx_getR (pc := 74) (v := 156) C dX8_image_74 so_8 ci_8 (k := 51) (by decide) fl_X8_166 rfl (q := 51) rfl (lay_8_51 hOM4) (by decide) ?_
      refine mx_iload_n (pc := 77) C dX8_image_77 rfl ?_
      refine mx_aload_n (pc := 78) C dX8_image_78 rfl ?_
      refine mx_getR (pc := 79) (v := 129) C dX8_image_79 so_8 ci_8 (k := 3) (by decide) fl_X8_20 rfl (q := 3) rfl (lay_8_3 hOM4) (by decide) ?_
      refine mx_iload_n (pc := 82) C dX8_image_82 rfl ?_
      obtain ⟨g5, h⟩ := of_gd h
      refine mx_iald (pc := 83) C dX8_image_83 sh_8_3 g5.1 g5.2 ?_
      obtain ⟨g6, h⟩ := of_gd h
      refine mx_iast (pc := 84) C dX8_image_84 sh_8_51 g6.1 g6.2 ?_
      generalize hmM7 : stM M4 156 x1 (M4 129 x1) = M7 at h ⊢
      replace h := lt_e h
      have hOM7 : OK M7 := by rw [← hmM7]; exact ok_arr hOM4 sh_8_51 (by decide)
      refine mx_aload_n (pc := 85) C dX8_image_85 rfl ?_
      refine mx_getR (pc := 86) (v := 157) C dX8_image_86 so_8 ci_8 (k := 52) (by decide) fl_X8_169 rfl (q := 52) rfl (lay_8_52 hOM7) (by decide) ?_
      refine mx_iload_n (pc := 89) C dX8_image_89 rfl ?_
      refine mx_aload_n (pc := 90) C dX8_image_90 rfl ?_
      refine mx_getR (pc := 91) (v := 130) C dX8_image_91 so_8 ci_8 (k := 4) (by decide) fl_X8_23 rfl (q := 4) rfl (lay_8_4 hOM7) (by decide) ?_
      refine mx_iload_n (pc := 94) C dX8_image_94 rfl ?_
      obtain ⟨g8, h⟩ := of_gd h
      refine mx_iald (pc := 95) C dX8_image_95 sh_8_4 g8.1 g8.2 ?_
      obtain ⟨g9, h⟩ := of_gd h
      refine mx_iast (pc := 96) C dX8_image_96 sh_8_52 g9.1 g9.2 ?_
      generalize hmM10 : stM M7 157 x1 (M7 130 x1) = M10 at h ⊢
      replace h := lt_e h
      have hOM10 : OK M10 := by rw [← hmM10]; exact ok_arr hOM7 sh_8_52 (by decide)
      refine mx_aload_n (pc := 97) C dX8_image_97 rfl ?_
      refine mx_getR (pc := 98) (v := 158) C dX8_image_98 so_8 ci_8 (k := 53) (by decide) fl_X8_172 rfl (q := 53) rfl (lay_8_53 hOM10) (by decide) ?_
      refine mx_iload_n (pc := 101) C dX8_image_101 rfl ?_
      refine mx_aload_n (pc := 102) C dX8_image_102 rfl ?_
      refine mx_getR (pc := 103) (v := 131) C dX8_image_103 so_8 ci_8 (k := 5) (by decide) fl_X8_26 rfl (q := 5) rfl (lay_8_5 hOM10) (by decide) ?_
      refine mx_iload_n (pc := 106) C dX8_image_106 rfl ?_
      obtain ⟨g11, h⟩ := of_gd h
      refine mx_iald (pc := 107) C dX8_image_107 sh_8_5 g11.1 g11.2 ?_
      obtain ⟨g12, h⟩ := of_gd h
      refine mx_iast (pc := 108) C dX8_image_108 sh_8_53 g12.1 g12.2 ?_
      generalize hmM13 : stM M10 158 x1 (M10 131 x1) = M13 at h ⊢
      replace h := lt_e h
      have hOM13 : OK M13 := by rw [← hmM13]; exact ok_arr hOM10 sh_8_53 (by decide)
      refine mx_iinc (pc := 109) C dX8_image_109 (ls' := [some (aR 127), some (aI (w32 (x1 + 1)))]) rfl (by decide) rfl (by constructor <;> decide) rfl rfl ?_
      refine mx_goto (pc := 112) (tgt := 55) C dX8_image_112 rfl ?_
      exact ih (w32 (x1 + 1)) M13 hOM13 h
set_option maxRecDepth 20000 in
set_option maxHeartbeats 4000000 in
theorem m_X8_image {M : Mem} {res : Int × Mem} (hOM : OK M) (h : f_X8_image M = some res) : Mth false yX8_image cX8_image 2 (some .int) 1 0 0 SH [aR 127] M (some (aI res.1)) SH res.2 (OK res.2) := by
  refine Mth.of (by decide +kernel) (Nat.le_of_ble_eq_true rfl) (fun K B C => ?_)
  show Wx K B _ 0 0 SH 2 M 0 [some (aR 127), none] []
  unfold f_X8_image at h
  refine mx_aload_n (pc := 0) C dX8_image_0 rfl ?_
  refine mx_iconst (pc := 1) C dX8_image_1 (z := 1) rfl (by constructor <;> decide) ?_
  refine mx_putZ (pc := 2) C dX8_image_2 so_8 ci_8 (k := 43) (by decide) fl_X8_141 (Or.inl rfl) rfl (Or.inr rfl) (q := 43) rfl ?_
  generalize hmM1 : stM M 127 43 1 = M1 at h ⊢
  replace h := lt_e h
  have hOM1 : OK M1 := by rw [← hmM1]; exact okf_8_43 hOM
  refine mx_aload_n (pc := 5) C dX8_image_5 rfl ?_
  refine mx_aload_n (pc := 6) C dX8_image_6 rfl ?_
  refine mx_getI (pc := 7) C dX8_image_7 so_8 ci_8 (k := 8) (by decide) fl_X8_35 rfl (q := 8) rfl ?_
  refine mx_putI (pc := 10) C dX8_image_10 so_8 ci_8 (k := 44) (by decide) fl_X8_145 (Or.inl rfl) rfl (q := 44) rfl ?_
  generalize hmM2 : stM M1 127 44 (M1 127 8) = M2 at h ⊢
  replace h := lt_e h
  have hOM2 : OK M2 := by rw [← hmM2]; exact okf_8_44 hOM1
  refine mx_aload_n (pc := 13) C dX8_image_13 rfl ?_
  refine mx_aload_n (pc := 14) C dX8_image_14 rfl ?_
  refine mx_getI (pc := 15) C dX8_image_15 so_8 ci_8 (k := 0) (by decide) fl_X8_7 rfl (q := 0) rfl ?_
  refine mx_putI (pc := 18) C dX8_image_18 so_8 ci_8 (k := 45) (by decide) fl_X8_148 (Or.inl rfl) rfl (q := 45) rfl ?_
  generalize hmM3 : stM M2 127 45 (M2 127 0) = M3 at h ⊢
  replace h := lt_e h
  have hOM3 : OK M3 := by rw [← hmM3]; exact okf_8_45 hOM2
  refine mx_aload_n (pc := 21) C dX8_image_21 rfl ?_
  refine mx_aload_n (pc := 22) C dX8_image_22 rfl ?_
  refine mx_getI (pc := 23) C dX8_image_23 so_8 ci_8 (k := 1) (by decide) fl_X8_13 rfl (q := 1) rfl ?_
  refine mx_putI (pc := 26) C dX8_image_26 so_8 ci_8 (k := 46) (by decide) fl_X8_151 (Or.inl rfl) rfl (q := 46) rfl ?_
  generalize hmM4 : stM M3 127 46 (M3 127 1) = M4 at h ⊢
  replace h := lt_e h
  have hOM4 : OK M4 := by rw [← hmM4]; exact okf_8_46 hOM3
  refine mx_aload_n (pc := 29) C dX8_image_29 rfl ?_
  refine mx_aload_n (pc := 30) C dX8_image_30 rfl ?_
  refine mx_getI (pc := 31) C dX8_image_31 so_8 ci_8 (k := 33) (by decide) fl_X8_111 rfl (q := 33) rfl ?_
  refine mx_putI (pc := 34) C dX8_image_34 so_8 ci_8 (k := 47) (by decide) fl_X8_154 (Or.inl rfl) rfl (q := 47) rfl ?_
  generalize hmM5 : stM M4 127 47 (M4 127 33) = M5 at h ⊢
  replace h := lt_e h
  have hOM5 : OK M5 := by rw [← hmM5]; exact okf_8_47 hOM4
  refine mx_aload_n (pc := 37) C dX8_image_37 rfl ?_
  refine mx_aload_n (pc := 38) C dX8_image_38 rfl ?_
  refine mx_getI (pc := 39) C dX8_image_39 so_8 ci_8 (k := 37) (by decide) fl_X8_123 rfl (q := 37) rfl ?_
  refine mx_putI (pc := 42) C dX8_image_42 so_8 ci_8 (k := 48) (by decide) fl_X8_157 (Or.inl rfl) rfl (q := 48) rfl ?_
  generalize hmM6 : stM M5 127 48 (M5 127 37) = M6 at h ⊢
  replace h := lt_e h
  have hOM6 : OK M6 := by rw [← hmM6]; exact okf_8_48 hOM5
  refine mx_aload_n (pc := 45) C dX8_image_45 rfl ?_
  refine mx_aload_n (pc := 46) C dX8_image_46 rfl ?_
  refine mx_getI (pc := 47) C dX8_image_47 so_8 ci_8 (k := 38) (by decide) fl_X8_126 rfl (q := 38) rfl ?_
  refine mx_putI (pc := 50) C dX8_image_50 so_8 ci_8 (k := 49) (by decide) fl_X8_160 (Or.inl rfl) rfl (q := 49) rfl ?_
  generalize hmM7 : stM M6 127 49 (M6 127 38) = M7 at h ⊢
  replace h := lt_e h
  have hOM7 : OK M7 := by rw [← hmM7]; exact okf_8_49 hOM6
  refine mx_iconst (pc := 53) C dX8_image_53 (z := 0) rfl (by constructor <;> decide) ?_
  refine mx_istore_n (pc := 54) C dX8_image_54 (ls' := [some (aR 127), some (aI 0)]) (by decide) rfl rfl ?_
  exact b_X8_image_55 C FU 0 M7 hOM7 h

def f_X8_undo_235 : Nat → Int → Mem → Option (Int × Mem)
  | 0, _, _ => none
  | n + 1, x1, M => if 8 ≤ x1 then some (M 127 0, M) else if 0 ≤ x1 ∧ x1 < 8 then if 0 ≤ x1 ∧ x1 < 8 then lt (stM M 153 x1 (M 165 x1)) (fun M4 => if 0 ≤ x1 ∧ x1 < 8 then if 0 ≤ x1 ∧ x1 < 8 then lt (stM M4 154 x1 (M4 166 x1)) (fun M7 => f_X8_undo_235 n (w32 (x1 + 1)) M7) else none else none) else none else none
def f_X8_undo_197 : Nat → Int → Mem → Option (Int × Mem)
  | 0, _, _ => none
  | n + 1, x1, M => if 10 ≤ x1 then f_X8_undo_235 FU 0 M else if 0 ≤ x1 ∧ x1 < 10 then if 0 ≤ x1 ∧ x1 < 10 then lt (stM M 151 x1 (M 163 x1)) (fun M4 => if 0 ≤ x1 ∧ x1 < 10 then if 0 ≤ x1 ∧ x1 < 10 then lt (stM M4 152 x1 (M4 164 x1)) (fun M7 => f_X8_undo_197 n (w32 (x1 + 1)) M7) else none else none) else none else none
def f_X8_undo_148 : Nat → Int → Mem → Option (Int × Mem)
  | 0, _, _ => none
  | n + 1, x1, M => if 5 ≤ x1 then f_X8_undo_197 FU 0 M else if 0 ≤ x1 ∧ x1 < 5 then if 0 ≤ x1 ∧ x1 < 5 then lt (stM M 148 x1 (M 160 x1)) (fun M4 => if 0 ≤ x1 ∧ x1 < 5 then if 0 ≤ x1 ∧ x1 < 5 then lt (stM M4 149 x1 (M4 161 x1)) (fun M7 => if 0 ≤ x1 ∧ x1 < 5 then if 0 ≤ x1 ∧ x1 < 5 then lt (stM M7 150 x1 (M7 162 x1)) (fun M10 => f_X8_undo_148 n (w32 (x1 + 1)) M10) else none else none) else none else none) else none else none
def f_X8_undo_122 : Nat → Int → Mem → Option (Int × Mem)
  | 0, _, _ => none
  | n + 1, x1, M => if 24 ≤ x1 then f_X8_undo_148 FU 0 M else if 0 ≤ x1 ∧ x1 < 24 then if 0 ≤ x1 ∧ x1 < 24 then lt (stM M 132 x1 (M 159 x1)) (fun M4 => f_X8_undo_122 n (w32 (x1 + 1)) M4) else none else none
def f_X8_undo_60 : Nat → Int → Mem → Option (Int × Mem)
  | 0, _, _ => none
  | n + 1, x1, M => if 6 ≤ x1 then f_X8_undo_122 FU 0 M else if 0 ≤ x1 ∧ x1 < 6 then if 0 ≤ x1 ∧ x1 < 6 then lt (stM M 128 x1 (M 155 x1)) (fun M4 => if 0 ≤ x1 ∧ x1 < 6 then if 0 ≤ x1 ∧ x1 < 6 then lt (stM M4 129 x1 (M4 156 x1)) (fun M7 => if 0 ≤ x1 ∧ x1 < 6 then if 0 ≤ x1 ∧ x1 < 6 then lt (stM M7 130 x1 (M7 157 x1)) (fun M10 => if 0 ≤ x1 ∧ x1 < 6 then if 0 ≤ x1 ∧ x1 < 6 then lt (stM M10 131 x1 (M10 158 x1)) (fun M13 => f_X8_undo_60 n (w32 (x1 + 1)) M13) else none else none) else none else none) else none else none) else none else none
def f_X8_undo (M : Mem) : Option (Int × Mem) :=
  if M 127 43 = 0 then some ((-3), M) else lt (stM M 127 8 (M 127 44)) (fun M2 => lt (stM M2 127 0 (M2 127 45)) (fun M3 => lt (stM M3 127 1 (M3 127 46)) (fun M4 => lt (stM M4 127 33 (M4 127 47)) (fun M5 => lt (stM M5 127 37 (M5 127 48)) (fun M6 => lt (stM M6 127 38 (M6 127 49)) (fun M7 => f_X8_undo_60 FU 0 M7))))))
set_option maxRecDepth 20000 in
set_option maxHeartbeats 4000000 in
theorem b_X8_undo_235 {K : KX} {B : BX} {res : Int × Mem} (C : Cx K B false yX8_undo cX8_undo 2 (some .int) 1 0 0) : ∀ (n : Nat) (x1 : Int) (M : Mem), OK M → f_X8_undo_235 n x1 M = some res → Wx K B (Zr K B (some (aI res.1)) SH res.2 (OK res.2) 0 0) 0 0 SH 2 M 235 [some (aR 127), some (aI x1)] [] := by
  intro n
  induction n with
  | zero =>
    intro x1 M hOM h
    cases h
  | succ n ih =>
    intro x1 M hOM h
    rw [f_X8_undo_235.eq_2] at h
    refine mx_iload_n (pc := 235) C dX8_undo_235 rfl ?_
    refine mx_bipush (pc := 236) C dX8_undo_236 (z := 8) rfl (by constructor <;> decide) ?_
    refine mx_icmp_ge (pc := 238) (tgt := 271) C dX8_undo_238 rfl (fun c1 => ?_) (fun c1 => ?_)
    · rw [if_pos c1] at h
      refine mx_aload_n (pc := 271) C dX8_undo_271 rfl ?_
      refine mx_getI (pc := 272) C dX8_undo_272 so_8 ci_8 (k := 0) (by decide) fl_X8_7 rfl (q := 0) rfl ?_
      rw [← Option.some.inj h]
      exact mx_ireturn (pc := 275) C dX8_undo_275 hOM ⟨Nat.le_refl _, Nat.le_refl _⟩
    · rw [if_neg c1] at h
      refine mx_aload_n (pc := 241) C dX8_undo_241 rfl ?_
      refine mx_getR (pc := 242) (v := 153) C dX8_undo_242 so_8 ci_8 (k := 41) (by decide) fl_X8_135 rfl (q := 41) rfl (lay_8_41 hOM) (by decide) ?_
      refine mx_iload_n (pc := 245) C dX8_undo_245 rfl ?_
      refine mx_aload_n (pc := 246) C dX8_undo_246 rfl ?_
      refine mx_getR (pc := 247) (v := 165) C dX8_undo_247 so_8 ci_8 (k := 60) (by decide) fl_X8_193 rfl (q := 60) rfl (lay_8_60 hOM) (by decide) ?_
      refine mx_iload_n (pc := 250) C dX8_undo_250 rfl ?_
      obtain ⟨g2, h⟩ := of_gd h
      refine mx_iald (pc := 251) C dX8_undo_251 sh_8_60 g2.1 g2.2 ?_
      obtain ⟨g3, h⟩ := of_gd h
      refine mx_iast (pc := 252) C dX8_undo_252 sh_8_41 g3.1 g3.2 ?_
      generalize hmM4 : stM M 153 x1 (M 165 x1) = M4 at h ⊢
      replace h := lt_e h
      have hOM4 : OK M4 := by rw [← hmM4]; exact ok_arr hOM sh_8_41 (by decide)
      refine mx_aload_n (pc := 253) C dX8_undo_253 rfl ?_
      refine mx_getR (pc := 254) (v := 154) C dX8_undo_254 so_8 ci_8 (k := 42) (by decide) fl_X8_138 rfl (q := 42) rfl (lay_8_42 hOM4) (by decide) ?_
      refine mx_iload_n (pc := 257) C dX8_undo_257 rfl ?_
      refine mx_aload_n (pc := 258) C dX8_undo_258 rfl ?_
      refine mx_getR (pc := 259) (v := 166) C dX8_undo_259 so_8 ci_8 (k := 61) (by decide) fl_X8_196 rfl (q := 61) rfl (lay_8_61 hOM4) (by decide) ?_
      refine mx_iload_n (pc := 262) C dX8_undo_262 rfl ?_
      obtain ⟨g5, h⟩ := of_gd h
      refine mx_iald (pc := 263) C dX8_undo_263 sh_8_61 g5.1 g5.2 ?_
      obtain ⟨g6, h⟩ := of_gd h
      refine mx_iast (pc := 264) C dX8_undo_264 sh_8_42 g6.1 g6.2 ?_
      generalize hmM7 : stM M4 154 x1 (M4 166 x1) = M7 at h ⊢
      replace h := lt_e h
      have hOM7 : OK M7 := by rw [← hmM7]; exact ok_arr hOM4 sh_8_42 (by decide)
      refine mx_iinc (pc := 265) C dX8_undo_265 (ls' := [some (aR 127), some (aI (w32 (x1 + 1)))]) rfl (by decide) rfl (by constructor <;> decide) rfl rfl ?_
      refine mx_goto (pc := 268) (tgt := 235) C dX8_undo_268 rfl ?_
      exact ih (w32 (x1 + 1)) M7 hOM7 h
set_option maxRecDepth 20000 in
set_option maxHeartbeats 4000000 in
theorem b_X8_undo_197 {K : KX} {B : BX} {res : Int × Mem} (C : Cx K B false yX8_undo cX8_undo 2 (some .int) 1 0 0) : ∀ (n : Nat) (x1 : Int) (M : Mem), OK M → f_X8_undo_197 n x1 M = some res → Wx K B (Zr K B (some (aI res.1)) SH res.2 (OK res.2) 0 0) 0 0 SH 2 M 197 [some (aR 127), some (aI x1)] [] := by
  intro n
  induction n with
  | zero =>
    intro x1 M hOM h
    cases h
  | succ n ih =>
    intro x1 M hOM h
    rw [f_X8_undo_197.eq_2] at h
    refine mx_iload_n (pc := 197) C dX8_undo_197 rfl ?_
    refine mx_bipush (pc := 198) C dX8_undo_198 (z := 10) rfl (by constructor <;> decide) ?_
    refine mx_icmp_ge (pc := 200) (tgt := 233) C dX8_undo_200 rfl (fun c1 => ?_) (fun c1 => ?_)
    · rw [if_pos c1] at h
      refine mx_iconst (pc := 233) C dX8_undo_233 (z := 0) rfl (by constructor <;> decide) ?_
      refine mx_istore_n (pc := 234) C dX8_undo_234 (ls' := [some (aR 127), some (aI 0)]) (by decide) rfl rfl ?_
      exact b_X8_undo_235 C FU 0 M hOM h
    · rw [if_neg c1] at h
      refine mx_aload_n (pc := 203) C dX8_undo_203 rfl ?_
      refine mx_getR (pc := 204) (v := 151) C dX8_undo_204 so_8 ci_8 (k := 39) (by decide) fl_X8_129 rfl (q := 39) rfl (lay_8_39 hOM) (by decide) ?_
      refine mx_iload_n (pc := 207) C dX8_undo_207 rfl ?_
      refine mx_aload_n (pc := 208) C dX8_undo_208 rfl ?_
      refine mx_getR (pc := 209) (v := 163) C dX8_undo_209 so_8 ci_8 (k := 58) (by decide) fl_X8_187 rfl (q := 58) rfl (lay_8_58 hOM) (by decide) ?_
      refine mx_iload_n (pc := 212) C dX8_undo_212 rfl ?_
      obtain ⟨g2, h⟩ := of_gd h
      refine mx_iald (pc := 213) C dX8_undo_213 sh_8_58 g2.1 g2.2 ?_
      obtain ⟨g3, h⟩ := of_gd h
      refine mx_iast (pc := 214) C dX8_undo_214 sh_8_39 g3.1 g3.2 ?_
      generalize hmM4 : stM M 151 x1 (M 163 x1) = M4 at h ⊢
      replace h := lt_e h
      have hOM4 : OK M4 := by rw [← hmM4]; exact ok_arr hOM sh_8_39 (by decide)
      refine mx_aload_n (pc := 215) C dX8_undo_215 rfl ?_
      refine mx_getR (pc := 216) (v := 152) C dX8_undo_216 so_8 ci_8 (k := 40) (by decide) fl_X8_132 rfl (q := 40) rfl (lay_8_40 hOM4) (by decide) ?_
      refine mx_iload_n (pc := 219) C dX8_undo_219 rfl ?_
      refine mx_aload_n (pc := 220) C dX8_undo_220 rfl ?_
      refine mx_getR (pc := 221) (v := 164) C dX8_undo_221 so_8 ci_8 (k := 59) (by decide) fl_X8_190 rfl (q := 59) rfl (lay_8_59 hOM4) (by decide) ?_
      refine mx_iload_n (pc := 224) C dX8_undo_224 rfl ?_
      obtain ⟨g5, h⟩ := of_gd h
      refine mx_iald (pc := 225) C dX8_undo_225 sh_8_59 g5.1 g5.2 ?_
      obtain ⟨g6, h⟩ := of_gd h
      refine mx_iast (pc := 226) C dX8_undo_226 sh_8_40 g6.1 g6.2 ?_
      generalize hmM7 : stM M4 152 x1 (M4 164 x1) = M7 at h ⊢
      replace h := lt_e h
      have hOM7 : OK M7 := by rw [← hmM7]; exact ok_arr hOM4 sh_8_40 (by decide)
      refine mx_iinc (pc := 227) C dX8_undo_227 (ls' := [some (aR 127), some (aI (w32 (x1 + 1)))]) rfl (by decide) rfl (by constructor <;> decide) rfl rfl ?_
      refine mx_goto (pc := 230) (tgt := 197) C dX8_undo_230 rfl ?_
      exact ih (w32 (x1 + 1)) M7 hOM7 h
set_option maxRecDepth 20000 in
set_option maxHeartbeats 4000000 in
theorem b_X8_undo_148 {K : KX} {B : BX} {res : Int × Mem} (C : Cx K B false yX8_undo cX8_undo 2 (some .int) 1 0 0) : ∀ (n : Nat) (x1 : Int) (M : Mem), OK M → f_X8_undo_148 n x1 M = some res → Wx K B (Zr K B (some (aI res.1)) SH res.2 (OK res.2) 0 0) 0 0 SH 2 M 148 [some (aR 127), some (aI x1)] [] := by
  intro n
  induction n with
  | zero =>
    intro x1 M hOM h
    cases h
  | succ n ih =>
    intro x1 M hOM h
    rw [f_X8_undo_148.eq_2] at h
    refine mx_iload_n (pc := 148) C dX8_undo_148 rfl ?_
    refine mx_iconst (pc := 149) C dX8_undo_149 (z := 5) rfl (by constructor <;> decide) ?_
    refine mx_icmp_ge (pc := 150) (tgt := 195) C dX8_undo_150 rfl (fun c1 => ?_) (fun c1 => ?_)
    · rw [if_pos c1] at h
      refine mx_iconst (pc := 195) C dX8_undo_195 (z := 0) rfl (by constructor <;> decide) ?_
      refine mx_istore_n (pc := 196) C dX8_undo_196 (ls' := [some (aR 127), some (aI 0)]) (by decide) rfl rfl ?_
      exact b_X8_undo_197 C FU 0 M hOM h
    · rw [if_neg c1] at h
      refine mx_aload_n (pc := 153) C dX8_undo_153 rfl ?_
      refine mx_getR (pc := 154) (v := 148) C dX8_undo_154 so_8 ci_8 (k := 34) (by decide) fl_X8_114 rfl (q := 34) rfl (lay_8_34 hOM) (by decide) ?_
      refine mx_iload_n (pc := 157) C dX8_undo_157 rfl ?_
      refine mx_aload_n (pc := 158) C dX8_undo_158 rfl ?_
      refine mx_getR (pc := 159) (v := 160) C dX8_undo_159 so_8 ci_8 (k := 55) (by decide) fl_X8_178 rfl (q := 55) rfl (lay_8_55 hOM) (by decide) ?_
      refine mx_iload_n (pc := 162) C dX8_undo_162 rfl ?_
      obtain ⟨g2, h⟩ := of_gd h
      refine mx_iald (pc := 163) C dX8_undo_163 sh_8_55 g2.1 g2.2 ?_
      obtain ⟨g3, h⟩ := of_gd h
      refine mx_iast (pc := 164) C dX8_undo_164 sh_8_34 g3.1 g3.2 ?_
      generalize hmM4 : stM M 148 x1 (M 160 x1) = M4 at h ⊢
      replace h := lt_e h
      have hOM4 : OK M4 := by rw [← hmM4]; exact ok_arr hOM sh_8_34 (by decide)
      refine mx_aload_n (pc := 165) C dX8_undo_165 rfl ?_
      refine mx_getR (pc := 166) (v := 149) C dX8_undo_166 so_8 ci_8 (k := 35) (by decide) fl_X8_117 rfl (q := 35) rfl (lay_8_35 hOM4) (by decide) ?_
      refine mx_iload_n (pc := 169) C dX8_undo_169 rfl ?_
      refine mx_aload_n (pc := 170) C dX8_undo_170 rfl ?_
      refine mx_getR (pc := 171) (v := 161) C dX8_undo_171 so_8 ci_8 (k := 56) (by decide) fl_X8_181 rfl (q := 56) rfl (lay_8_56 hOM4) (by decide) ?_
      refine mx_iload_n (pc := 174) C dX8_undo_174 rfl ?_
      obtain ⟨g5, h⟩ := of_gd h
      refine mx_iald (pc := 175) C dX8_undo_175 sh_8_56 g5.1 g5.2 ?_
      obtain ⟨g6, h⟩ := of_gd h
      refine mx_iast (pc := 176) C dX8_undo_176 sh_8_35 g6.1 g6.2 ?_
      generalize hmM7 : stM M4 149 x1 (M4 161 x1) = M7 at h ⊢
      replace h := lt_e h
      have hOM7 : OK M7 := by rw [← hmM7]; exact ok_arr hOM4 sh_8_35 (by decide)
      refine mx_aload_n (pc := 177) C dX8_undo_177 rfl ?_
      refine mx_getR (pc := 178) (v := 150) C dX8_undo_178 so_8 ci_8 (k := 36) (by decide) fl_X8_120 rfl (q := 36) rfl (lay_8_36 hOM7) (by decide) ?_
      refine mx_iload_n (pc := 181) C dX8_undo_181 rfl ?_
      refine mx_aload_n (pc := 182) C dX8_undo_182 rfl ?_
      refine mx_getR (pc := 183) (v := 162) C dX8_undo_183 so_8 ci_8 (k := 57) (by decide) fl_X8_184 rfl (q := 57) rfl (lay_8_57 hOM7) (by decide) ?_
      refine mx_iload_n (pc := 186) C dX8_undo_186 rfl ?_
      obtain ⟨g8, h⟩ := of_gd h
      refine mx_iald (pc := 187) C dX8_undo_187 sh_8_57 g8.1 g8.2 ?_
      obtain ⟨g9, h⟩ := of_gd h
      refine mx_iast (pc := 188) C dX8_undo_188 sh_8_36 g9.1 g9.2 ?_
      generalize hmM10 : stM M7 150 x1 (M7 162 x1) = M10 at h ⊢
      replace h := lt_e h
      have hOM10 : OK M10 := by rw [← hmM10]; exact ok_arr hOM7 sh_8_36 (by decide)
      refine mx_iinc (pc := 189) C dX8_undo_189 (ls' := [some (aR 127), some (aI (w32 (x1 + 1)))]) rfl (by decide) rfl (by constructor <;> decide) rfl rfl ?_
      refine mx_goto (pc := 192) (tgt := 148) C dX8_undo_192 rfl ?_
      exact ih (w32 (x1 + 1)) M10 hOM10 h
set_option maxRecDepth 20000 in
set_option maxHeartbeats 4000000 in
theorem b_X8_undo_122 {K : KX} {B : BX} {res : Int × Mem} (C : Cx K B false yX8_undo cX8_undo 2 (some .int) 1 0 0) : ∀ (n : Nat) (x1 : Int) (M : Mem), OK M → f_X8_undo_122 n x1 M = some res → Wx K B (Zr K B (some (aI res.1)) SH res.2 (OK res.2) 0 0) 0 0 SH 2 M 122 [some (aR 127), some (aI x1)] [] := by
  intro n
  induction n with
  | zero =>
    intro x1 M hOM h
    cases h
  | succ n ih =>
    intro x1 M hOM h
    rw [f_X8_undo_122.eq_2] at h
    refine mx_iload_n (pc := 122) C dX8_undo_122 rfl ?_
    refine mx_bipush (pc := 123) C dX8_undo_123 (z := 24) rfl (by constructor <;> decide) ?_
    refine mx_icmp_ge (pc := 125) (tgt := 146) C dX8_undo_125 rfl (fun c1 => ?_) (fun c1 => ?_)
    · rw [if_pos c1] at h
      refine mx_iconst (pc := 146) C dX8_undo_146 (z := 0) rfl (by constructor <;> decide) ?_
      refine mx_istore_n (pc := 147) C dX8_undo_147 (ls' := [some (aR 127), some (aI 0)]) (by decide) rfl rfl ?_
      exact b_X8_undo_148 C FU 0 M hOM h
    · rw [if_neg c1] at h
      refine mx_aload_n (pc := 128) C dX8_undo_128 rfl ?_
      refine mx_getR (pc := 129) (v := 132) C dX8_undo_129 so_8 ci_8 (k := 6) (by decide) fl_X8_29 rfl (q := 6) rfl (lay_8_6 hOM) (by decide) ?_
      refine mx_iload_n (pc := 132) C dX8_undo_132 rfl ?_
      refine mx_aload_n (pc := 133) C dX8_undo_133 rfl ?_
      refine mx_getR (pc := 134) (v := 159) C dX8_undo_134 so_8 ci_8 (k := 54) (by decide) fl_X8_175 rfl (q := 54) rfl (lay_8_54 hOM) (by decide) ?_
      refine mx_iload_n (pc := 137) C dX8_undo_137 rfl ?_
      obtain ⟨g2, h⟩ := of_gd h
      refine mx_iald (pc := 138) C dX8_undo_138 sh_8_54 g2.1 g2.2 ?_
      obtain ⟨g3, h⟩ := of_gd h
      refine mx_iast (pc := 139) C dX8_undo_139 sh_8_6 g3.1 g3.2 ?_
      generalize hmM4 : stM M 132 x1 (M 159 x1) = M4 at h ⊢
      replace h := lt_e h
      have hOM4 : OK M4 := by rw [← hmM4]; exact ok_arr hOM sh_8_6 (by decide)
      refine mx_iinc (pc := 140) C dX8_undo_140 (ls' := [some (aR 127), some (aI (w32 (x1 + 1)))]) rfl (by decide) rfl (by constructor <;> decide) rfl rfl ?_
      refine mx_goto (pc := 143) (tgt := 122) C dX8_undo_143 rfl ?_
      exact ih (w32 (x1 + 1)) M4 hOM4 h
set_option maxRecDepth 20000 in
set_option maxHeartbeats 4000000 in
theorem b_X8_undo_60 {K : KX} {B : BX} {res : Int × Mem} (C : Cx K B false yX8_undo cX8_undo 2 (some .int) 1 0 0) : ∀ (n : Nat) (x1 : Int) (M : Mem), OK M → f_X8_undo_60 n x1 M = some res → Wx K B (Zr K B (some (aI res.1)) SH res.2 (OK res.2) 0 0) 0 0 SH 2 M 60 [some (aR 127), some (aI x1)] [] := by
  intro n
  induction n with
  | zero =>
    intro x1 M hOM h
    cases h
  | succ n ih =>
    intro x1 M hOM h
    rw [f_X8_undo_60.eq_2] at h
    refine mx_iload_n (pc := 60) C dX8_undo_60 rfl ?_
    refine mx_bipush (pc := 61) C dX8_undo_61 (z := 6) rfl (by constructor <;> decide) ?_
    refine mx_icmp_ge (pc := 63) (tgt := 120) C dX8_undo_63 rfl (fun c1 => ?_) (fun c1 => ?_)
    · rw [if_pos c1] at h
      refine mx_iconst (pc := 120) C dX8_undo_120 (z := 0) rfl (by constructor <;> decide) ?_
      refine mx_istore_n (pc := 121) C dX8_undo_121 (ls' := [some (aR 127), some (aI 0)]) (by decide) rfl rfl ?_
      exact b_X8_undo_122 C FU 0 M hOM h
    · rw [if_neg c1] at h
      refine mx_aload_n (pc := 66) C dX8_undo_66 rfl ?_
      refine mx_getR (pc := 67) (v := 128) C dX8_undo_67 so_8 ci_8 (k := 2) (by decide) fl_X8_16 rfl (q := 2) rfl (lay_8_2 hOM) (by decide) ?_
      refine mx_iload_n (pc := 70) C dX8_undo_70 rfl ?_
      refine mx_aload_n (pc := 71) C dX8_undo_71 rfl ?_
      refine mx_getR (pc := 72) (v := 155) C dX8_undo_72 so_8 ci_8 (k := 50) (by decide) fl_X8_163 rfl (q := 50) rfl (lay_8_50 hOM) (by decide) ?_
      refine mx_iload_n (pc := 75) C dX8_undo_75 rfl ?_
      obtain ⟨g2, h⟩ := of_gd h
      refine mx_iald (pc := 76) C dX8_undo_76 sh_8_50 g2.1 g2.2 ?_
      obtain ⟨g3, h⟩ := of_gd h
      refine mx_iast (pc := 77) C dX8_undo_77 sh_8_2 g3.1 g3.2 ?_
      generalize hmM4 : stM M 128 x1 (M 155 x1) = M4 at h ⊢
      replace h := lt_e h
      have hOM4 : OK M4 := by rw [← hmM4]; exact ok_arr hOM sh_8_2 (by decide)
      refine mx_aload_n (pc := 78) C dX8_undo_78 rfl ?_
      refine mx_getR (pc := 79) (v := 129) C dX8_undo_79 so_8 ci_8 (k := 3) (by decide) fl_X8_20 rfl (q := 3) rfl (lay_8_3 hOM4) (by decide) ?_
      refine mx_iload_n (pc := 82) C dX8_undo_82 rfl ?_
      refine mx_aload_n (pc := 83) C dX8_undo_83 rfl ?_
      refine mx_getR (pc := 84) (v := 156) C dX8_undo_84 so_8 ci_8 (k := 51) (by decide) fl_X8_166 rfl (q := 51) rfl (lay_8_51 hOM4) (by decide) ?_
      refine mx_iload_n (pc := 87) C dX8_undo_87 rfl ?_
      obtain ⟨g5, h⟩ := of_gd h
      refine mx_iald (pc := 88) C dX8_undo_88 sh_8_51 g5.1 g5.2 ?_
      obtain ⟨g6, h⟩ := of_gd h
      refine mx_iast (pc := 89) C dX8_undo_89 sh_8_3 g6.1 g6.2 ?_
      generalize hmM7 : stM M4 129 x1 (M4 156 x1) = M7 at h ⊢
      replace h := lt_e h
      have hOM7 : OK M7 := by rw [← hmM7]; exact ok_arr hOM4 sh_8_3 (by decide)
      refine mx_aload_n (pc := 90) C dX8_undo_90 rfl ?_
      refine mx_getR (pc := 91) (v := 130) C dX8_undo_91 so_8 ci_8 (k := 4) (by decide) fl_X8_23 rfl (q := 4) rfl (lay_8_4 hOM7) (by decide) ?_
      refine mx_iload_n (pc := 94) C dX8_undo_94 rfl ?_
      refine mx_aload_n (pc := 95) C dX8_undo_95 rfl ?_
      refine mx_getR (pc := 96) (v := 157) C dX8_undo_96 so_8 ci_8 (k := 52) (by decide) fl_X8_169 rfl (q := 52) rfl (lay_8_52 hOM7) (by decide) ?_
      refine mx_iload_n (pc := 99) C dX8_undo_99 rfl ?_
      obtain ⟨g8, h⟩ := of_gd h
      refine mx_iald (pc := 100) C dX8_undo_100 sh_8_52 g8.1 g8.2 ?_
      obtain ⟨g9, h⟩ := of_gd h
      refine mx_iast (pc := 101) C dX8_undo_101 sh_8_4 g9.1 g9.2 ?_
      generalize hmM10 : stM M7 130 x1 (M7 157 x1) = M10 at h ⊢
      replace h := lt_e h
      have hOM10 : OK M10 := by rw [← hmM10]; exact ok_arr hOM7 sh_8_4 (by decide)
      refine mx_aload_n (pc := 102) C dX8_undo_102 rfl ?_
      refine mx_getR (pc := 103) (v := 131) C dX8_undo_103 so_8 ci_8 (k := 5) (by decide) fl_X8_26 rfl (q := 5) rfl (lay_8_5 hOM10) (by decide) ?_
      refine mx_iload_n (pc := 106) C dX8_undo_106 rfl ?_
      refine mx_aload_n (pc := 107) C dX8_undo_107 rfl ?_
      refine mx_getR (pc := 108) (v := 158) C dX8_undo_108 so_8 ci_8 (k := 53) (by decide) fl_X8_172 rfl (q := 53) rfl (lay_8_53 hOM10) (by decide) ?_
      refine mx_iload_n (pc := 111) C dX8_undo_111 rfl ?_
      obtain ⟨g11, h⟩ := of_gd h
      refine mx_iald (pc := 112) C dX8_undo_112 sh_8_53 g11.1 g11.2 ?_
      obtain ⟨g12, h⟩ := of_gd h
      refine mx_iast (pc := 113) C dX8_undo_113 sh_8_5 g12.1 g12.2 ?_
      generalize hmM13 : stM M10 131 x1 (M10 158 x1) = M13 at h ⊢
      replace h := lt_e h
      have hOM13 : OK M13 := by rw [← hmM13]; exact ok_arr hOM10 sh_8_5 (by decide)
      refine mx_iinc (pc := 114) C dX8_undo_114 (ls' := [some (aR 127), some (aI (w32 (x1 + 1)))]) rfl (by decide) rfl (by constructor <;> decide) rfl rfl ?_
      refine mx_goto (pc := 117) (tgt := 60) C dX8_undo_117 rfl ?_
      exact ih (w32 (x1 + 1)) M13 hOM13 h
set_option maxRecDepth 20000 in
set_option maxHeartbeats 4000000 in
theorem m_X8_undo {M : Mem} {res : Int × Mem} (hOM : OK M) (h : f_X8_undo M = some res) : Mth false yX8_undo cX8_undo 2 (some .int) 1 0 0 SH [aR 127] M (some (aI res.1)) SH res.2 (OK res.2) := by
  refine Mth.of (by decide +kernel) (Nat.le_of_ble_eq_true rfl) (fun K B C => ?_)
  show Wx K B _ 0 0 SH 2 M 0 [some (aR 127), none] []
  unfold f_X8_undo at h
  refine mx_aload_n (pc := 0) C dX8_undo_0 rfl ?_
  refine mx_getI (pc := 1) C dX8_undo_1 so_8 ci_8 (k := 43) (by decide) fl_X8_141 rfl (q := 43) rfl ?_
  refine mx_if_ne (pc := 4) (tgt := 10) C dX8_undo_4 rfl (fun c1 => ?_) (fun c1 => ?_)
  · rw [if_neg c1] at h
    refine mx_aload_n (pc := 10) C dX8_undo_10 rfl ?_
    refine mx_aload_n (pc := 11) C dX8_undo_11 rfl ?_
    refine mx_getI (pc := 12) C dX8_undo_12 so_8 ci_8 (k := 44) (by decide) fl_X8_145 rfl (q := 44) rfl ?_
    refine mx_putI (pc := 15) C dX8_undo_15 so_8 ci_8 (k := 8) (by decide) fl_X8_35 (Or.inl rfl) rfl (q := 8) rfl ?_
    generalize hmM2 : stM M 127 8 (M 127 44) = M2 at h ⊢
    replace h := lt_e h
    have hOM2 : OK M2 := by rw [← hmM2]; exact okf_8_8 hOM
    refine mx_aload_n (pc := 18) C dX8_undo_18 rfl ?_
    refine mx_aload_n (pc := 19) C dX8_undo_19 rfl ?_
    refine mx_getI (pc := 20) C dX8_undo_20 so_8 ci_8 (k := 45) (by decide) fl_X8_148 rfl (q := 45) rfl ?_
    refine mx_putI (pc := 23) C dX8_undo_23 so_8 ci_8 (k := 0) (by decide) fl_X8_7 (Or.inl rfl) rfl (q := 0) rfl ?_
    generalize hmM3 : stM M2 127 0 (M2 127 45) = M3 at h ⊢
    replace h := lt_e h
    have hOM3 : OK M3 := by rw [← hmM3]; exact okf_8_0 hOM2
    refine mx_aload_n (pc := 26) C dX8_undo_26 rfl ?_
    refine mx_aload_n (pc := 27) C dX8_undo_27 rfl ?_
    refine mx_getI (pc := 28) C dX8_undo_28 so_8 ci_8 (k := 46) (by decide) fl_X8_151 rfl (q := 46) rfl ?_
    refine mx_putI (pc := 31) C dX8_undo_31 so_8 ci_8 (k := 1) (by decide) fl_X8_13 (Or.inl rfl) rfl (q := 1) rfl ?_
    generalize hmM4 : stM M3 127 1 (M3 127 46) = M4 at h ⊢
    replace h := lt_e h
    have hOM4 : OK M4 := by rw [← hmM4]; exact okf_8_1 hOM3
    refine mx_aload_n (pc := 34) C dX8_undo_34 rfl ?_
    refine mx_aload_n (pc := 35) C dX8_undo_35 rfl ?_
    refine mx_getI (pc := 36) C dX8_undo_36 so_8 ci_8 (k := 47) (by decide) fl_X8_154 rfl (q := 47) rfl ?_
    refine mx_putI (pc := 39) C dX8_undo_39 so_8 ci_8 (k := 33) (by decide) fl_X8_111 (Or.inl rfl) rfl (q := 33) rfl ?_
    generalize hmM5 : stM M4 127 33 (M4 127 47) = M5 at h ⊢
    replace h := lt_e h
    have hOM5 : OK M5 := by rw [← hmM5]; exact okf_8_33 hOM4
    refine mx_aload_n (pc := 42) C dX8_undo_42 rfl ?_
    refine mx_aload_n (pc := 43) C dX8_undo_43 rfl ?_
    refine mx_getI (pc := 44) C dX8_undo_44 so_8 ci_8 (k := 48) (by decide) fl_X8_157 rfl (q := 48) rfl ?_
    refine mx_putI (pc := 47) C dX8_undo_47 so_8 ci_8 (k := 37) (by decide) fl_X8_123 (Or.inl rfl) rfl (q := 37) rfl ?_
    generalize hmM6 : stM M5 127 37 (M5 127 48) = M6 at h ⊢
    replace h := lt_e h
    have hOM6 : OK M6 := by rw [← hmM6]; exact okf_8_37 hOM5
    refine mx_aload_n (pc := 50) C dX8_undo_50 rfl ?_
    refine mx_aload_n (pc := 51) C dX8_undo_51 rfl ?_
    refine mx_getI (pc := 52) C dX8_undo_52 so_8 ci_8 (k := 49) (by decide) fl_X8_160 rfl (q := 49) rfl ?_
    refine mx_putI (pc := 55) C dX8_undo_55 so_8 ci_8 (k := 38) (by decide) fl_X8_126 (Or.inl rfl) rfl (q := 38) rfl ?_
    generalize hmM7 : stM M6 127 38 (M6 127 49) = M7 at h ⊢
    replace h := lt_e h
    have hOM7 : OK M7 := by rw [← hmM7]; exact okf_8_38 hOM6
    refine mx_iconst (pc := 58) C dX8_undo_58 (z := 0) rfl (by constructor <;> decide) ?_
    refine mx_istore_n (pc := 59) C dX8_undo_59 (ls' := [some (aR 127), some (aI 0)]) (by decide) rfl rfl ?_
    exact b_X8_undo_60 C FU 0 M7 hOM7 h
  · rw [if_pos c1] at h
    refine mx_bipush (pc := 7) C dX8_undo_7 (z := (-3)) rfl (by constructor <;> decide) ?_
    rw [← Option.some.inj h]
    exact mx_ireturn (pc := 9) C dX8_undo_9 hOM ⟨Nat.le_refl _, Nat.le_refl _⟩

def f_X8_body_19 (p1 : Int) (M : Mem) : Option (Int × Mem) :=
  lt (stM M 127 62 (w32 ((M 127 62) + 1))) (fun M1 => some (0, M1))
def f_X8_body (p1 : Int) (M : Mem) : Option (Int × Mem) :=
  if 20 ≤ M 127 62 then f_X8_body_19 p1 M else if 0 ≤ M 127 62 ∧ M 127 62 < 20 then lt (stM M 167 (M 127 62) p1) (fun M3 => f_X8_body_19 p1 M3) else none
set_option maxRecDepth 20000 in
set_option maxHeartbeats 4000000 in
theorem b_X8_body_19 {K : KX} {B : BX} {res : Int × Mem} {p1 : Int} (C : Cx K B false yX8_body cX8_body 2 none 1 0 0) : ∀ (M : Mem), OK M → f_X8_body_19 p1 M = some res → Wx K B (Zr K B none SH res.2 (OK res.2) 0 0) 0 0 SH 2 M 19 [some (aR 127), none] [] := by
  intro M hOM h
  unfold f_X8_body_19 at h
  refine mx_aload_n (pc := 19) C dX8_body_19 rfl ?_
  refine mx_dup (pc := 20) C dX8_body_20 rfl ?_
  refine mx_getI (pc := 21) C dX8_body_21 so_8 ci_8 (k := 62) (by decide) fl_X8_199 rfl (q := 62) rfl ?_
  refine mx_iconst (pc := 24) C dX8_body_24 (z := 1) rfl (by constructor <;> decide) ?_
  refine mx_iadd (pc := 25) C dX8_body_25  ?_
  refine mx_putI (pc := 26) C dX8_body_26 so_8 ci_8 (k := 62) (by decide) fl_X8_199 (Or.inl rfl) rfl (q := 62) rfl ?_
  generalize hmM1 : stM M 127 62 (w32 ((M 127 62) + 1)) = M1 at h ⊢
  replace h := lt_e h
  have hOM1 : OK M1 := by rw [← hmM1]; exact okf_8_62 hOM
  rw [← Option.some.inj h]
  exact mx_return (pc := 29) C dX8_body_29 hOM1 ⟨Nat.le_refl _, Nat.le_refl _⟩
set_option maxRecDepth 20000 in
set_option maxHeartbeats 4000000 in
theorem m_X8_body {p1 : Int} {M : Mem} {res : Int × Mem} (hOM : OK M) (h : f_X8_body p1 M = some res) : Mth false yX8_body cX8_body 2 none 1 0 0 SH [aR 127, aI p1] M none SH res.2 (OK res.2) := by
  refine Mth.of (by decide +kernel) (Nat.le_of_ble_eq_true rfl) (fun K B C => ?_)
  show Wx K B _ 0 0 SH 2 M 0 [some (aR 127), some (aI p1)] []
  unfold f_X8_body at h
  refine mx_aload_n (pc := 0) C dX8_body_0 rfl ?_
  refine mx_getI (pc := 1) C dX8_body_1 so_8 ci_8 (k := 62) (by decide) fl_X8_199 rfl (q := 62) rfl ?_
  refine mx_bipush (pc := 4) C dX8_body_4 (z := 20) rfl (by constructor <;> decide) ?_
  refine mx_icmp_ge (pc := 6) (tgt := 19) C dX8_body_6 rfl (fun c1 => ?_) (fun c1 => ?_)
  · rw [if_pos c1] at h
    refine mx_mask [true, false] (ls' := [some (aR 127), none]) rfl rfl ?_
    exact b_X8_body_19 C M hOM h
  · rw [if_neg c1] at h
    refine mx_aload_n (pc := 9) C dX8_body_9 rfl ?_
    refine mx_getR (pc := 10) (v := 167) C dX8_body_10 so_8 ci_8 (k := 63) (by decide) fl_X8_202 rfl (q := 63) rfl (lay_8_63 hOM) (by decide) ?_
    refine mx_aload_n (pc := 13) C dX8_body_13 rfl ?_
    refine mx_getI (pc := 14) C dX8_body_14 so_8 ci_8 (k := 62) (by decide) fl_X8_199 rfl (q := 62) rfl ?_
    refine mx_iload_n (pc := 17) C dX8_body_17 rfl ?_
    obtain ⟨g2, h⟩ := of_gd h
    refine mx_iast (pc := 18) C dX8_body_18 sh_8_63 g2.1 g2.2 ?_
    generalize hmM3 : stM M 167 (M 127 62) p1 = M3 at h ⊢
    replace h := lt_e h
    have hOM3 : OK M3 := by rw [← hmM3]; exact ok_arr hOM sh_8_63 (by decide)
    refine mx_mask [true, false] (ls' := [some (aR 127), none]) rfl rfl ?_
    exact b_X8_body_19 C M3 hOM3 h

def f_X8_soundCreaks (p1 : Int) (p2 : Int) (M : Mem) : Option (Int × Mem) :=
  (f_X8_body 10 M).bind (fun q1 => some (w32 (p2 + p1), q1.2))
set_option maxRecDepth 20000 in
set_option maxHeartbeats 4000000 in
theorem m_X8_soundCreaks {p1 : Int} {p2 : Int} {M : Mem} {res : Int × Mem} (hOM : OK M) (h : f_X8_soundCreaks p1 p2 M = some res) : Mth false yX8_soundCreaks cX8_soundCreaks 3 (some .int) 2 0 0 SH [aR 127, aI p1, aI p2] M (some (aI res.1)) SH res.2 (OK res.2) := by
  refine Mth.of (by decide +kernel) (Nat.le_of_ble_eq_true rfl) (fun K B C => ?_)
  show Wx K B _ 0 0 SH 3 M 0 [some (aR 127), some (aI p1), some (aI p2)] []
  unfold f_X8_soundCreaks at h
  refine mx_aload_n (pc := 0) C dX8_soundCreaks_0 rfl ?_
  refine mx_bipush (pc := 1) C dX8_soundCreaks_1 (z := 10) rfl (by constructor <;> decide) ?_
  obtain ⟨q1, hq1, h⟩ := of_bd h
  refine mc_V (pc := 3) (as := [aI 10]) (rest := []) (stk2 := []) C ⟨Nat.le_refl _, Nat.le_refl _⟩ (m_X8_body hOM hq1) mi_X8_body mv_X8_body ml_X8_409 ci_8 rfl so_8 (by omega) rfl (Nat.le_of_ble_eq_true rfl) dX8_soundCreaks_3 rfl (fun hp2 => ?_)
  have hOq1 : OK q1.2 := hp2
  refine mx_iload_n (pc := 6) C dX8_soundCreaks_6 rfl ?_
  refine mx_iload_n (pc := 7) C dX8_soundCreaks_7 rfl ?_
  refine mx_iadd (pc := 8) C dX8_soundCreaks_8  ?_
  rw [← Option.some.inj h]
  exact mx_ireturn (pc := 9) C dX8_soundCreaks_9 hOq1 ⟨Nat.le_refl _, Nat.le_refl _⟩

def f_X8_creaksAct (p1 : Int) (p2 : Int) (M : Mem) : Option (Int × Mem) :=
  if 0 ≤ p1 ∧ p1 < 6 then if M 128 p1 = 2 then (f_X8_body 30 M).bind (fun q3 => (f_X8_soundCreaks p1 (w32 (p2 * 3)) q3.2).bind (fun q5 => some (q5.1, q5.2))) else if M 128 p1 = 4 then (f_X8_body 50 M).bind (fun q8 => (f_X8_soundCreaks p1 p2 q8.2).bind (fun q10 => some (w32 (-q10.1), q10.2))) else if M 128 p1 = 5 then (f_X8_body 30 M).bind (fun q13 => (f_X8_soundCreaks p1 (w32 (p2 * 3)) q13.2).bind (fun q15 => some (q15.1, q15.2))) else if M 128 p1 = 6 then (f_X8_body 71 M).bind (fun q18 => (f_X8_soundCreaks p1 p2 q18.2).bind (fun q20 => if 0 ≤ p1 ∧ p1 < 6 then some (xor32 q20.1 (q20.2 129 p1), q20.2) else none)) else (f_X8_soundCreaks p1 p2 M).bind (fun q23 => some (q23.1, q23.2)) else none
set_option maxRecDepth 20000 in
set_option maxHeartbeats 4000000 in
theorem m_X8_creaksAct {p1 : Int} {p2 : Int} {M : Mem} {res : Int × Mem} (hOM : OK M) (h : f_X8_creaksAct p1 p2 M = some res) : Mth false yX8_creaksAct cX8_creaksAct 3 (some .int) 3 0 0 SH [aR 127, aI p1, aI p2] M (some (aI res.1)) SH res.2 (OK res.2) := by
  refine Mth.of (by decide +kernel) (Nat.le_of_ble_eq_true rfl) (fun K B C => ?_)
  show Wx K B _ 0 0 SH 3 M 0 [some (aR 127), some (aI p1), some (aI p2)] []
  unfold f_X8_creaksAct at h
  refine mx_aload_n (pc := 0) C dX8_creaksAct_0 rfl ?_
  refine mx_getR (pc := 1) (v := 128) C dX8_creaksAct_1 so_8 ci_8 (k := 2) (by decide) fl_X8_16 rfl (q := 2) rfl (lay_8_2 hOM) (by decide) ?_
  refine mx_iload_n (pc := 4) C dX8_creaksAct_4 rfl ?_
  obtain ⟨g1, h⟩ := of_gd h
  refine mx_iald (pc := 5) C dX8_creaksAct_5 sh_8_2 g1.1 g1.2 ?_
  by_cases c2 : M 128 p1 = 2
  · rw [if_pos c2] at h
    refine mx_tin (pc := 6) (tgt := 40) C 2 dX8_creaksAct_6 c2 (by decide) (by decide) rfl rfl ?_
    refine mx_aload_n (pc := 40) C dX8_creaksAct_40 rfl ?_
    refine mx_bipush (pc := 41) C dX8_creaksAct_41 (z := 30) rfl (by constructor <;> decide) ?_
    obtain ⟨q3, hq3, h⟩ := of_bd h
    refine mc_V (pc := 43) (as := [aI 30]) (rest := []) (stk2 := []) C ⟨Nat.le_refl _, Nat.le_refl _⟩ (m_X8_body hOM hq3) mi_X8_body mv_X8_body ml_X8_409 ci_8 rfl so_8 (by omega) rfl (Nat.le_of_ble_eq_true rfl) dX8_creaksAct_43 rfl (fun hp4 => ?_)
    have hOq3 : OK q3.2 := hp4
    refine mx_aload_n (pc := 46) C dX8_creaksAct_46 rfl ?_
    refine mx_iload_n (pc := 47) C dX8_creaksAct_47 rfl ?_
    refine mx_iload_n (pc := 48) C dX8_creaksAct_48 rfl ?_
    refine mx_iconst (pc := 49) C dX8_creaksAct_49 (z := 3) rfl (by constructor <;> decide) ?_
    refine mx_imul (pc := 50) C dX8_creaksAct_50  ?_
    obtain ⟨q5, hq5, h⟩ := of_bd h
    refine mc_V (pc := 51) (as := [aI p1, aI (w32 (p2 * 3))]) (rest := []) (stk2 := [aI q5.1]) C ⟨Nat.le_refl _, Nat.le_refl _⟩ (m_X8_soundCreaks hOq3 hq5) mi_X8_soundCreaks mv_X8_soundCreaks ml_X8_412 ci_8 rfl so_8 (by omega) rfl (Nat.le_of_ble_eq_true rfl) dX8_creaksAct_51 rfl (fun hp6 => ?_)
    have hOq5 : OK q5.2 := hp6
    rw [← Option.some.inj h]
    exact mx_ireturn (pc := 54) C dX8_creaksAct_54 hOq5 ⟨Nat.le_refl _, Nat.le_refl _⟩
  · rw [if_neg c2] at h
    by_cases c7 : M 128 p1 = 4
    · rw [if_pos c7] at h
      refine mx_tin (pc := 6) (tgt := 55) C 4 dX8_creaksAct_6 c7 (by decide) (by decide) rfl rfl ?_
      refine mx_aload_n (pc := 55) C dX8_creaksAct_55 rfl ?_
      refine mx_bipush (pc := 56) C dX8_creaksAct_56 (z := 50) rfl (by constructor <;> decide) ?_
      obtain ⟨q8, hq8, h⟩ := of_bd h
      refine mc_V (pc := 58) (as := [aI 50]) (rest := []) (stk2 := []) C ⟨Nat.le_refl _, Nat.le_refl _⟩ (m_X8_body hOM hq8) mi_X8_body mv_X8_body ml_X8_409 ci_8 rfl so_8 (by omega) rfl (Nat.le_of_ble_eq_true rfl) dX8_creaksAct_58 rfl (fun hp9 => ?_)
      have hOq8 : OK q8.2 := hp9
      refine mx_aload_n (pc := 61) C dX8_creaksAct_61 rfl ?_
      refine mx_iload_n (pc := 62) C dX8_creaksAct_62 rfl ?_
      refine mx_iload_n (pc := 63) C dX8_creaksAct_63 rfl ?_
      obtain ⟨q10, hq10, h⟩ := of_bd h
      refine mc_V (pc := 64) (as := [aI p1, aI p2]) (rest := []) (stk2 := [aI q10.1]) C ⟨Nat.le_refl _, Nat.le_refl _⟩ (m_X8_soundCreaks hOq8 hq10) mi_X8_soundCreaks mv_X8_soundCreaks ml_X8_412 ci_8 rfl so_8 (by omega) rfl (Nat.le_of_ble_eq_true rfl) dX8_creaksAct_64 rfl (fun hp11 => ?_)
      have hOq10 : OK q10.2 := hp11
      refine mx_ineg (pc := 67) C dX8_creaksAct_67  ?_
      rw [← Option.some.inj h]
      exact mx_ireturn (pc := 68) C dX8_creaksAct_68 hOq10 ⟨Nat.le_refl _, Nat.le_refl _⟩
    · rw [if_neg c7] at h
      by_cases c12 : M 128 p1 = 5
      · rw [if_pos c12] at h
        refine mx_tin (pc := 6) (tgt := 40) C 5 dX8_creaksAct_6 c12 (by decide) (by decide) rfl rfl ?_
        refine mx_aload_n (pc := 40) C dX8_creaksAct_40 rfl ?_
        refine mx_bipush (pc := 41) C dX8_creaksAct_41 (z := 30) rfl (by constructor <;> decide) ?_
        obtain ⟨q13, hq13, h⟩ := of_bd h
        refine mc_V (pc := 43) (as := [aI 30]) (rest := []) (stk2 := []) C ⟨Nat.le_refl _, Nat.le_refl _⟩ (m_X8_body hOM hq13) mi_X8_body mv_X8_body ml_X8_409 ci_8 rfl so_8 (by omega) rfl (Nat.le_of_ble_eq_true rfl) dX8_creaksAct_43 rfl (fun hp14 => ?_)
        have hOq13 : OK q13.2 := hp14
        refine mx_aload_n (pc := 46) C dX8_creaksAct_46 rfl ?_
        refine mx_iload_n (pc := 47) C dX8_creaksAct_47 rfl ?_
        refine mx_iload_n (pc := 48) C dX8_creaksAct_48 rfl ?_
        refine mx_iconst (pc := 49) C dX8_creaksAct_49 (z := 3) rfl (by constructor <;> decide) ?_
        refine mx_imul (pc := 50) C dX8_creaksAct_50  ?_
        obtain ⟨q15, hq15, h⟩ := of_bd h
        refine mc_V (pc := 51) (as := [aI p1, aI (w32 (p2 * 3))]) (rest := []) (stk2 := [aI q15.1]) C ⟨Nat.le_refl _, Nat.le_refl _⟩ (m_X8_soundCreaks hOq13 hq15) mi_X8_soundCreaks mv_X8_soundCreaks ml_X8_412 ci_8 rfl so_8 (by omega) rfl (Nat.le_of_ble_eq_true rfl) dX8_creaksAct_51 rfl (fun hp16 => ?_)
        have hOq15 : OK q15.2 := hp16
        rw [← Option.some.inj h]
        exact mx_ireturn (pc := 54) C dX8_creaksAct_54 hOq15 ⟨Nat.le_refl _, Nat.le_refl _⟩
      · rw [if_neg c12] at h
        by_cases c17 : M 128 p1 = 6
        · rw [if_pos c17] at h
          refine mx_tin (pc := 6) (tgt := 69) C 6 dX8_creaksAct_6 c17 (by decide) (by decide) rfl rfl ?_
          refine mx_aload_n (pc := 69) C dX8_creaksAct_69 rfl ?_
          refine mx_bipush (pc := 70) C dX8_creaksAct_70 (z := 71) rfl (by constructor <;> decide) ?_
          obtain ⟨q18, hq18, h⟩ := of_bd h
          refine mc_V (pc := 72) (as := [aI 71]) (rest := []) (stk2 := []) C ⟨Nat.le_refl _, Nat.le_refl _⟩ (m_X8_body hOM hq18) mi_X8_body mv_X8_body ml_X8_409 ci_8 rfl so_8 (by omega) rfl (Nat.le_of_ble_eq_true rfl) dX8_creaksAct_72 rfl (fun hp19 => ?_)
          have hOq18 : OK q18.2 := hp19
          refine mx_aload_n (pc := 75) C dX8_creaksAct_75 rfl ?_
          refine mx_iload_n (pc := 76) C dX8_creaksAct_76 rfl ?_
          refine mx_iload_n (pc := 77) C dX8_creaksAct_77 rfl ?_
          obtain ⟨q20, hq20, h⟩ := of_bd h
          refine mc_V (pc := 78) (as := [aI p1, aI p2]) (rest := []) (stk2 := [aI q20.1]) C ⟨Nat.le_refl _, Nat.le_refl _⟩ (m_X8_soundCreaks hOq18 hq20) mi_X8_soundCreaks mv_X8_soundCreaks ml_X8_412 ci_8 rfl so_8 (by omega) rfl (Nat.le_of_ble_eq_true rfl) dX8_creaksAct_78 rfl (fun hp21 => ?_)
          have hOq20 : OK q20.2 := hp21
          refine mx_aload_n (pc := 81) C dX8_creaksAct_81 rfl ?_
          refine mx_getR (pc := 82) (v := 129) C dX8_creaksAct_82 so_8 ci_8 (k := 3) (by decide) fl_X8_20 rfl (q := 3) rfl (lay_8_3 hOq20) (by decide) ?_
          refine mx_iload_n (pc := 85) C dX8_creaksAct_85 rfl ?_
          obtain ⟨g22, h⟩ := of_gd h
          refine mx_iald (pc := 86) C dX8_creaksAct_86 sh_8_3 g22.1 g22.2 ?_
          refine mx_ixor (pc := 87) C dX8_creaksAct_87  ?_
          rw [← Option.some.inj h]
          exact mx_ireturn (pc := 88) C dX8_creaksAct_88 hOq20 ⟨Nat.le_refl _, Nat.le_refl _⟩
        · rw [if_neg c17] at h
          rcases (by omega : (M 128 p1 < 2 ∨ 6 < M 128 p1) ∨ M 128 p1 = 3) with hs | hs
          · refine mx_tout (pc := 6) (tgt := 89) C dX8_creaksAct_6 hs rfl ?_
            refine mx_aload_n (pc := 89) C dX8_creaksAct_89 rfl ?_
            refine mx_iload_n (pc := 90) C dX8_creaksAct_90 rfl ?_
            refine mx_iload_n (pc := 91) C dX8_creaksAct_91 rfl ?_
            obtain ⟨q23, hq23, h⟩ := of_bd h
            refine mc_V (pc := 92) (as := [aI p1, aI p2]) (rest := []) (stk2 := [aI q23.1]) C ⟨Nat.le_refl _, Nat.le_refl _⟩ (m_X8_soundCreaks hOM hq23) mi_X8_soundCreaks mv_X8_soundCreaks ml_X8_412 ci_8 rfl so_8 (by omega) rfl (Nat.le_of_ble_eq_true rfl) dX8_creaksAct_92 rfl (fun hp24 => ?_)
            have hOq23 : OK q23.2 := hp24
            rw [← Option.some.inj h]
            exact mx_ireturn (pc := 95) C dX8_creaksAct_95 hOq23 ⟨Nat.le_refl _, Nat.le_refl _⟩
          · refine mx_tin (pc := 6) (tgt := 89) C 3 dX8_creaksAct_6 hs (by decide) (by decide) rfl rfl ?_
            refine mx_aload_n (pc := 89) C dX8_creaksAct_89 rfl ?_
            refine mx_iload_n (pc := 90) C dX8_creaksAct_90 rfl ?_
            refine mx_iload_n (pc := 91) C dX8_creaksAct_91 rfl ?_
            obtain ⟨q23, hq23, h⟩ := of_bd h
            refine mc_V (pc := 92) (as := [aI p1, aI p2]) (rest := []) (stk2 := [aI q23.1]) C ⟨Nat.le_refl _, Nat.le_refl _⟩ (m_X8_soundCreaks hOM hq23) mi_X8_soundCreaks mv_X8_soundCreaks ml_X8_412 ci_8 rfl so_8 (by omega) rfl (Nat.le_of_ble_eq_true rfl) dX8_creaksAct_92 rfl (fun hp24 => ?_)
            have hOq23 : OK q23.2 := hp24
            rw [← Option.some.inj h]
            exact mx_ireturn (pc := 95) C dX8_creaksAct_95 hOq23 ⟨Nat.le_refl _, Nat.le_refl _⟩

def f_X8_soundRings (p1 : Int) (p2 : Int) (M : Mem) : Option (Int × Mem) :=
  (f_X8_body 11 M).bind (fun q1 => (f_X8_creaksAct p1 p2 q1.2).bind (fun q3 => if 0 ≤ p1 ∧ p1 < 6 then some (w32 (q3.1 - (q3.2 129 p1)), q3.2) else none))
set_option maxRecDepth 20000 in
set_option maxHeartbeats 4000000 in
theorem m_X8_soundRings {p1 : Int} {p2 : Int} {M : Mem} {res : Int × Mem} (hOM : OK M) (h : f_X8_soundRings p1 p2 M = some res) : Mth false yX8_soundRings cX8_soundRings 3 (some .int) 4 0 0 SH [aR 127, aI p1, aI p2] M (some (aI res.1)) SH res.2 (OK res.2) := by
  refine Mth.of (by decide +kernel) (Nat.le_of_ble_eq_true rfl) (fun K B C => ?_)
  show Wx K B _ 0 0 SH 3 M 0 [some (aR 127), some (aI p1), some (aI p2)] []
  unfold f_X8_soundRings at h
  refine mx_aload_n (pc := 0) C dX8_soundRings_0 rfl ?_
  refine mx_bipush (pc := 1) C dX8_soundRings_1 (z := 11) rfl (by constructor <;> decide) ?_
  obtain ⟨q1, hq1, h⟩ := of_bd h
  refine mc_V (pc := 3) (as := [aI 11]) (rest := []) (stk2 := []) C ⟨Nat.le_refl _, Nat.le_refl _⟩ (m_X8_body hOM hq1) mi_X8_body mv_X8_body ml_X8_409 ci_8 rfl so_8 (by omega) rfl (Nat.le_of_ble_eq_true rfl) dX8_soundRings_3 rfl (fun hp2 => ?_)
  have hOq1 : OK q1.2 := hp2
  refine mx_aload_n (pc := 6) C dX8_soundRings_6 rfl ?_
  refine mx_iload_n (pc := 7) C dX8_soundRings_7 rfl ?_
  refine mx_iload_n (pc := 8) C dX8_soundRings_8 rfl ?_
  obtain ⟨q3, hq3, h⟩ := of_bd h
  refine mc_V (pc := 9) (as := [aI p1, aI p2]) (rest := []) (stk2 := [aI q3.1]) C ⟨Nat.le_refl _, Nat.le_refl _⟩ (m_X8_creaksAct hOq1 hq3) mi_X8_creaksAct mv_X8_creaksAct ml_X8_415 ci_8 rfl so_8 (by omega) rfl (Nat.le_of_ble_eq_true rfl) dX8_soundRings_9 rfl (fun hp4 => ?_)
  have hOq3 : OK q3.2 := hp4
  refine mx_aload_n (pc := 12) C dX8_soundRings_12 rfl ?_
  refine mx_getR (pc := 13) (v := 129) C dX8_soundRings_13 so_8 ci_8 (k := 3) (by decide) fl_X8_20 rfl (q := 3) rfl (lay_8_3 hOq3) (by decide) ?_
  refine mx_iload_n (pc := 16) C dX8_soundRings_16 rfl ?_
  obtain ⟨g5, h⟩ := of_gd h
  refine mx_iald (pc := 17) C dX8_soundRings_17 sh_8_3 g5.1 g5.2 ?_
  refine mx_isub (pc := 18) C dX8_soundRings_18  ?_
  rw [← Option.some.inj h]
  exact mx_ireturn (pc := 19) C dX8_soundRings_19 hOq3 ⟨Nat.le_refl _, Nat.le_refl _⟩

def f_X8_squeakRings (p1 : Int) (p2 : Int) (M : Mem) : Option (Int × Mem) :=
  (f_X8_body 20 M).bind (fun q1 => (f_X8_soundRings p1 p2 q1.2).bind (fun q3 => some (xor32 q3.1 6, q3.2)))
set_option maxRecDepth 20000 in
set_option maxHeartbeats 4000000 in
theorem m_X8_squeakRings {p1 : Int} {p2 : Int} {M : Mem} {res : Int × Mem} (hOM : OK M) (h : f_X8_squeakRings p1 p2 M = some res) : Mth false yX8_squeakRings cX8_squeakRings 3 (some .int) 5 0 0 SH [aR 127, aI p1, aI p2] M (some (aI res.1)) SH res.2 (OK res.2) := by
  refine Mth.of (by decide +kernel) (Nat.le_of_ble_eq_true rfl) (fun K B C => ?_)
  show Wx K B _ 0 0 SH 3 M 0 [some (aR 127), some (aI p1), some (aI p2)] []
  unfold f_X8_squeakRings at h
  refine mx_aload_n (pc := 0) C dX8_squeakRings_0 rfl ?_
  refine mx_bipush (pc := 1) C dX8_squeakRings_1 (z := 20) rfl (by constructor <;> decide) ?_
  obtain ⟨q1, hq1, h⟩ := of_bd h
  refine mc_V (pc := 3) (as := [aI 20]) (rest := []) (stk2 := []) C ⟨Nat.le_refl _, Nat.le_refl _⟩ (m_X8_body hOM hq1) mi_X8_body mv_X8_body ml_X8_409 ci_8 rfl so_8 (by omega) rfl (Nat.le_of_ble_eq_true rfl) dX8_squeakRings_3 rfl (fun hp2 => ?_)
  have hOq1 : OK q1.2 := hp2
  refine mx_aload_n (pc := 6) C dX8_squeakRings_6 rfl ?_
  refine mx_iload_n (pc := 7) C dX8_squeakRings_7 rfl ?_
  refine mx_iload_n (pc := 8) C dX8_squeakRings_8 rfl ?_
  obtain ⟨q3, hq3, h⟩ := of_bd h
  refine mc_V (pc := 9) (as := [aI p1, aI p2]) (rest := []) (stk2 := [aI q3.1]) C ⟨Nat.le_refl _, Nat.le_refl _⟩ (m_X8_soundRings hOq1 hq3) mi_X8_soundRings mv_X8_soundRings ml_X8_418 ci_8 rfl so_8 (by omega) rfl (Nat.le_of_ble_eq_true rfl) dX8_squeakRings_9 rfl (fun hp4 => ?_)
  have hOq3 : OK q3.2 := hp4
  refine mx_bipush (pc := 12) C dX8_squeakRings_12 (z := 6) rfl (by constructor <;> decide) ?_
  refine mx_ixor (pc := 14) C dX8_squeakRings_14  ?_
  rw [← Option.some.inj h]
  exact mx_ireturn (pc := 15) C dX8_squeakRings_15 hOq3 ⟨Nat.le_refl _, Nat.le_refl _⟩

def f_X8_ringsAct (p1 : Int) (p2 : Int) (M : Mem) : Option (Int × Mem) :=
  if 0 ≤ p1 ∧ p1 < 6 then if M 128 p1 = 1 then (f_X8_squeakRings p1 p2 M).bind (fun q3 => some (q3.1, q3.2)) else if M 128 p1 = 4 then (f_X8_body 51 M).bind (fun q6 => (f_X8_squeakRings p1 (w32 (p2 + 1)) q6.2).bind (fun q8 => some (q8.1, q8.2))) else if M 128 p1 = 6 then (f_X8_body 70 M).bind (fun q11 => (f_X8_soundRings p1 p2 q11.2).bind (fun q13 => (f_X8_soundCreaks p1 2 q13.2).bind (fun q15 => some (w32 (q13.1 + q15.1), q15.2)))) else (f_X8_soundRings p1 p2 M).bind (fun q17 => some (q17.1, q17.2)) else none
set_option maxRecDepth 20000 in
set_option maxHeartbeats 4000000 in
theorem m_X8_ringsAct {p1 : Int} {p2 : Int} {M : Mem} {res : Int × Mem} (hOM : OK M) (h : f_X8_ringsAct p1 p2 M = some res) : Mth false yX8_ringsAct cX8_ringsAct 4 (some .int) 6 0 0 SH [aR 127, aI p1, aI p2] M (some (aI res.1)) SH res.2 (OK res.2) := by
  refine Mth.of (by decide +kernel) (Nat.le_of_ble_eq_true rfl) (fun K B C => ?_)
  show Wx K B _ 0 0 SH 4 M 0 [some (aR 127), some (aI p1), some (aI p2), none] []
  unfold f_X8_ringsAct at h
  refine mx_aload_n (pc := 0) C dX8_ringsAct_0 rfl ?_
  refine mx_getR (pc := 1) (v := 128) C dX8_ringsAct_1 so_8 ci_8 (k := 2) (by decide) fl_X8_16 rfl (q := 2) rfl (lay_8_2 hOM) (by decide) ?_
  refine mx_iload_n (pc := 4) C dX8_ringsAct_4 rfl ?_
  obtain ⟨g1, h⟩ := of_gd h
  refine mx_iald (pc := 5) C dX8_ringsAct_5 sh_8_2 g1.1 g1.2 ?_
  by_cases c2 : M 128 p1 = 1
  · rw [if_pos c2] at h
    refine mx_lsw (pc := 6) (tgt := 40) (off := 34) C dX8_ringsAct_6 (by decide) (by rw [c2]; rfl) rfl ?_
    refine mx_aload_n (pc := 40) C dX8_ringsAct_40 rfl ?_
    refine mx_iload_n (pc := 41) C dX8_ringsAct_41 rfl ?_
    refine mx_iload_n (pc := 42) C dX8_ringsAct_42 rfl ?_
    obtain ⟨q3, hq3, h⟩ := of_bd h
    refine mc_V (pc := 43) (as := [aI p1, aI p2]) (rest := []) (stk2 := [aI q3.1]) C ⟨Nat.le_refl _, Nat.le_refl _⟩ (m_X8_squeakRings hOM hq3) mi_X8_squeakRings mv_X8_squeakRings ml_X8_421 ci_8 rfl so_8 (by omega) rfl (Nat.le_of_ble_eq_true rfl) dX8_ringsAct_43 rfl (fun hp4 => ?_)
    have hOq3 : OK q3.2 := hp4
    rw [← Option.some.inj h]
    exact mx_ireturn (pc := 46) C dX8_ringsAct_46 hOq3 ⟨Nat.le_refl _, Nat.le_refl _⟩
  · rw [if_neg c2] at h
    by_cases c5 : M 128 p1 = 4
    · rw [if_pos c5] at h
      refine mx_lsw (pc := 6) (tgt := 47) (off := 41) C dX8_ringsAct_6 (by decide) (by rw [c5]; rfl) rfl ?_
      refine mx_aload_n (pc := 47) C dX8_ringsAct_47 rfl ?_
      refine mx_bipush (pc := 48) C dX8_ringsAct_48 (z := 51) rfl (by constructor <;> decide) ?_
      obtain ⟨q6, hq6, h⟩ := of_bd h
      refine mc_V (pc := 50) (as := [aI 51]) (rest := []) (stk2 := []) C ⟨Nat.le_refl _, Nat.le_refl _⟩ (m_X8_body hOM hq6) mi_X8_body mv_X8_body ml_X8_409 ci_8 rfl so_8 (by omega) rfl (Nat.le_of_ble_eq_true rfl) dX8_ringsAct_50 rfl (fun hp7 => ?_)
      have hOq6 : OK q6.2 := hp7
      refine mx_aload_n (pc := 53) C dX8_ringsAct_53 rfl ?_
      refine mx_iload_n (pc := 54) C dX8_ringsAct_54 rfl ?_
      refine mx_iload_n (pc := 55) C dX8_ringsAct_55 rfl ?_
      refine mx_iconst (pc := 56) C dX8_ringsAct_56 (z := 1) rfl (by constructor <;> decide) ?_
      refine mx_iadd (pc := 57) C dX8_ringsAct_57  ?_
      obtain ⟨q8, hq8, h⟩ := of_bd h
      refine mc_V (pc := 58) (as := [aI p1, aI (w32 (p2 + 1))]) (rest := []) (stk2 := [aI q8.1]) C ⟨Nat.le_refl _, Nat.le_refl _⟩ (m_X8_squeakRings hOq6 hq8) mi_X8_squeakRings mv_X8_squeakRings ml_X8_421 ci_8 rfl so_8 (by omega) rfl (Nat.le_of_ble_eq_true rfl) dX8_ringsAct_58 rfl (fun hp9 => ?_)
      have hOq8 : OK q8.2 := hp9
      rw [← Option.some.inj h]
      exact mx_ireturn (pc := 61) C dX8_ringsAct_61 hOq8 ⟨Nat.le_refl _, Nat.le_refl _⟩
    · rw [if_neg c5] at h
      by_cases c10 : M 128 p1 = 6
      · rw [if_pos c10] at h
        refine mx_lsw (pc := 6) (tgt := 62) (off := 56) C dX8_ringsAct_6 (by decide) (by rw [c10]; rfl) rfl ?_
        refine mx_aload_n (pc := 62) C dX8_ringsAct_62 rfl ?_
        refine mx_bipush (pc := 63) C dX8_ringsAct_63 (z := 70) rfl (by constructor <;> decide) ?_
        obtain ⟨q11, hq11, h⟩ := of_bd h
        refine mc_V (pc := 65) (as := [aI 70]) (rest := []) (stk2 := []) C ⟨Nat.le_refl _, Nat.le_refl _⟩ (m_X8_body hOM hq11) mi_X8_body mv_X8_body ml_X8_409 ci_8 rfl so_8 (by omega) rfl (Nat.le_of_ble_eq_true rfl) dX8_ringsAct_65 rfl (fun hp12 => ?_)
        have hOq11 : OK q11.2 := hp12
        refine mx_aload_n (pc := 68) C dX8_ringsAct_68 rfl ?_
        refine mx_iload_n (pc := 69) C dX8_ringsAct_69 rfl ?_
        refine mx_iload_n (pc := 70) C dX8_ringsAct_70 rfl ?_
        obtain ⟨q13, hq13, h⟩ := of_bd h
        refine mc_V (pc := 71) (as := [aI p1, aI p2]) (rest := []) (stk2 := [aI q13.1]) C ⟨Nat.le_refl _, Nat.le_refl _⟩ (m_X8_soundRings hOq11 hq13) mi_X8_soundRings mv_X8_soundRings ml_X8_418 ci_8 rfl so_8 (by omega) rfl (Nat.le_of_ble_eq_true rfl) dX8_ringsAct_71 rfl (fun hp14 => ?_)
        have hOq13 : OK q13.2 := hp14
        refine mx_istore_n (pc := 74) C dX8_ringsAct_74 (ls' := [some (aR 127), some (aI p1), some (aI p2), some (aI q13.1)]) (by decide) rfl rfl ?_
        refine mx_iload_n (pc := 75) C dX8_ringsAct_75 rfl ?_
        refine mx_aload_n (pc := 76) C dX8_ringsAct_76 rfl ?_
        refine mx_iload_n (pc := 77) C dX8_ringsAct_77 rfl ?_
        refine mx_iconst (pc := 78) C dX8_ringsAct_78 (z := 2) rfl (by constructor <;> decide) ?_
        obtain ⟨q15, hq15, h⟩ := of_bd h
        refine mc_V (pc := 79) (as := [aI p1, aI 2]) (rest := [aI q13.1]) (stk2 := [aI q15.1, aI q13.1]) C ⟨Nat.le_refl _, Nat.le_refl _⟩ (m_X8_soundCreaks hOq13 hq15) mi_X8_soundCreaks mv_X8_soundCreaks ml_X8_412 ci_8 rfl so_8 (by omega) rfl (Nat.le_of_ble_eq_true rfl) dX8_ringsAct_79 rfl (fun hp16 => ?_)
        have hOq15 : OK q15.2 := hp16
        refine mx_iadd (pc := 82) C dX8_ringsAct_82  ?_
        rw [← Option.some.inj h]
        exact mx_ireturn (pc := 83) C dX8_ringsAct_83 hOq15 ⟨Nat.le_refl _, Nat.le_refl _⟩
      · rw [if_neg c10] at h
        refine mx_lsw (pc := 6) (tgt := 84) (off := 78) C dX8_ringsAct_6 (by decide) (by show Op.lookupswitch.offset [(1, 34), (4, 41), (6, 56)] _ _ = _; rw [Op.lookupswitch.offset_cons, if_neg (fun e => c2 e.symm), Op.lookupswitch.offset_cons, if_neg (fun e => c5 e.symm), Op.lookupswitch.offset_cons, if_neg (fun e => c10 e.symm)]; rfl) rfl ?_
        refine mx_aload_n (pc := 84) C dX8_ringsAct_84 rfl ?_
        refine mx_iload_n (pc := 85) C dX8_ringsAct_85 rfl ?_
        refine mx_iload_n (pc := 86) C dX8_ringsAct_86 rfl ?_
        obtain ⟨q17, hq17, h⟩ := of_bd h
        refine mc_V (pc := 87) (as := [aI p1, aI p2]) (rest := []) (stk2 := [aI q17.1]) C ⟨Nat.le_refl _, Nat.le_refl _⟩ (m_X8_soundRings hOM hq17) mi_X8_soundRings mv_X8_soundRings ml_X8_418 ci_8 rfl so_8 (by omega) rfl (Nat.le_of_ble_eq_true rfl) dX8_ringsAct_87 rfl (fun hp18 => ?_)
        have hOq17 : OK q17.2 := hp18
        rw [← Option.some.inj h]
        exact mx_ireturn (pc := 90) C dX8_ringsAct_90 hOq17 ⟨Nat.le_refl _, Nat.le_refl _⟩

def f_X8_soundTells (p1 : Int) (p2 : Int) (M : Mem) : Option (Int × Mem) :=
  (f_X8_body 12 M).bind (fun q1 => (f_X8_ringsAct p1 p2 q1.2).bind (fun q3 => some (w32 (q3.1 * 2), q3.2)))
set_option maxRecDepth 20000 in
set_option maxHeartbeats 4000000 in
theorem m_X8_soundTells {p1 : Int} {p2 : Int} {M : Mem} {res : Int × Mem} (hOM : OK M) (h : f_X8_soundTells p1 p2 M = some res) : Mth false yX8_soundTells cX8_soundTells 3 (some .int) 7 0 0 SH [aR 127, aI p1, aI p2] M (some (aI res.1)) SH res.2 (OK res.2) := by
  refine Mth.of (by decide +kernel) (Nat.le_of_ble_eq_true rfl) (fun K B C => ?_)
  show Wx K B _ 0 0 SH 3 M 0 [some (aR 127), some (aI p1), some (aI p2)] []
  unfold f_X8_soundTells at h
  refine mx_aload_n (pc := 0) C dX8_soundTells_0 rfl ?_
  refine mx_bipush (pc := 1) C dX8_soundTells_1 (z := 12) rfl (by constructor <;> decide) ?_
  obtain ⟨q1, hq1, h⟩ := of_bd h
  refine mc_V (pc := 3) (as := [aI 12]) (rest := []) (stk2 := []) C ⟨Nat.le_refl _, Nat.le_refl _⟩ (m_X8_body hOM hq1) mi_X8_body mv_X8_body ml_X8_409 ci_8 rfl so_8 (by omega) rfl (Nat.le_of_ble_eq_true rfl) dX8_soundTells_3 rfl (fun hp2 => ?_)
  have hOq1 : OK q1.2 := hp2
  refine mx_aload_n (pc := 6) C dX8_soundTells_6 rfl ?_
  refine mx_iload_n (pc := 7) C dX8_soundTells_7 rfl ?_
  refine mx_iload_n (pc := 8) C dX8_soundTells_8 rfl ?_
  obtain ⟨q3, hq3, h⟩ := of_bd h
  refine mc_V (pc := 9) (as := [aI p1, aI p2]) (rest := []) (stk2 := [aI q3.1]) C ⟨Nat.le_refl _, Nat.le_refl _⟩ (m_X8_ringsAct hOq1 hq3) mi_X8_ringsAct mv_X8_ringsAct ml_X8_424 ci_8 rfl so_8 (by omega) rfl (Nat.le_of_ble_eq_true rfl) dX8_soundTells_9 rfl (fun hp4 => ?_)
  have hOq3 : OK q3.2 := hp4
  refine mx_iconst (pc := 12) C dX8_soundTells_12 (z := 2) rfl (by constructor <;> decide) ?_
  refine mx_imul (pc := 13) C dX8_soundTells_13  ?_
  rw [← Option.some.inj h]
  exact mx_ireturn (pc := 14) C dX8_soundTells_14 hOq3 ⟨Nat.le_refl _, Nat.le_refl _⟩

def f_X8_tellsAct (p1 : Int) (p2 : Int) (M : Mem) : Option (Int × Mem) :=
  if 0 ≤ p1 ∧ p1 < 6 then if M 128 p1 = 3 then (f_X8_body 40 M).bind (fun q3 => (f_X8_soundTells p1 p2 q3.2).bind (fun q5 => (f_X8_ringsAct p1 1 q5.2).bind (fun q7 => some (w32 (q5.1 + q7.1), q7.2)))) else if M 128 p1 = 5 then (f_X8_body 60 M).bind (fun q10 => (f_X8_soundTells p1 (w32 (p2 - p1)) q10.2).bind (fun q12 => some (q12.1, q12.2))) else if M 128 p1 = 6 then (f_X8_body 40 M).bind (fun q15 => (f_X8_soundTells p1 p2 q15.2).bind (fun q17 => (f_X8_ringsAct p1 1 q17.2).bind (fun q19 => some (w32 (q17.1 + q19.1), q19.2)))) else (f_X8_soundTells p1 p2 M).bind (fun q21 => some (q21.1, q21.2)) else none
set_option maxRecDepth 20000 in
set_option maxHeartbeats 4000000 in
theorem m_X8_tellsAct {p1 : Int} {p2 : Int} {M : Mem} {res : Int × Mem} (hOM : OK M) (h : f_X8_tellsAct p1 p2 M = some res) : Mth false yX8_tellsAct cX8_tellsAct 4 (some .int) 8 0 0 SH [aR 127, aI p1, aI p2] M (some (aI res.1)) SH res.2 (OK res.2) := by
  refine Mth.of (by decide +kernel) (Nat.le_of_ble_eq_true rfl) (fun K B C => ?_)
  show Wx K B _ 0 0 SH 4 M 0 [some (aR 127), some (aI p1), some (aI p2), none] []
  unfold f_X8_tellsAct at h
  refine mx_aload_n (pc := 0) C dX8_tellsAct_0 rfl ?_
  refine mx_getR (pc := 1) (v := 128) C dX8_tellsAct_1 so_8 ci_8 (k := 2) (by decide) fl_X8_16 rfl (q := 2) rfl (lay_8_2 hOM) (by decide) ?_
  refine mx_iload_n (pc := 4) C dX8_tellsAct_4 rfl ?_
  obtain ⟨g1, h⟩ := of_gd h
  refine mx_iald (pc := 5) C dX8_tellsAct_5 sh_8_2 g1.1 g1.2 ?_
  by_cases c2 : M 128 p1 = 3
  · rw [if_pos c2] at h
    refine mx_tin (pc := 6) (tgt := 36) C 3 dX8_tellsAct_6 c2 (by decide) (by decide) rfl rfl ?_
    refine mx_aload_n (pc := 36) C dX8_tellsAct_36 rfl ?_
    refine mx_bipush (pc := 37) C dX8_tellsAct_37 (z := 40) rfl (by constructor <;> decide) ?_
    obtain ⟨q3, hq3, h⟩ := of_bd h
    refine mc_V (pc := 39) (as := [aI 40]) (rest := []) (stk2 := []) C ⟨Nat.le_refl _, Nat.le_refl _⟩ (m_X8_body hOM hq3) mi_X8_body mv_X8_body ml_X8_409 ci_8 rfl so_8 (by omega) rfl (Nat.le_of_ble_eq_true rfl) dX8_tellsAct_39 rfl (fun hp4 => ?_)
    have hOq3 : OK q3.2 := hp4
    refine mx_aload_n (pc := 42) C dX8_tellsAct_42 rfl ?_
    refine mx_iload_n (pc := 43) C dX8_tellsAct_43 rfl ?_
    refine mx_iload_n (pc := 44) C dX8_tellsAct_44 rfl ?_
    obtain ⟨q5, hq5, h⟩ := of_bd h
    refine mc_V (pc := 45) (as := [aI p1, aI p2]) (rest := []) (stk2 := [aI q5.1]) C ⟨Nat.le_refl _, Nat.le_refl _⟩ (m_X8_soundTells hOq3 hq5) mi_X8_soundTells mv_X8_soundTells ml_X8_427 ci_8 rfl so_8 (by omega) rfl (Nat.le_of_ble_eq_true rfl) dX8_tellsAct_45 rfl (fun hp6 => ?_)
    have hOq5 : OK q5.2 := hp6
    refine mx_istore_n (pc := 48) C dX8_tellsAct_48 (ls' := [some (aR 127), some (aI p1), some (aI p2), some (aI q5.1)]) (by decide) rfl rfl ?_
    refine mx_iload_n (pc := 49) C dX8_tellsAct_49 rfl ?_
    refine mx_aload_n (pc := 50) C dX8_tellsAct_50 rfl ?_
    refine mx_iload_n (pc := 51) C dX8_tellsAct_51 rfl ?_
    refine mx_iconst (pc := 52) C dX8_tellsAct_52 (z := 1) rfl (by constructor <;> decide) ?_
    obtain ⟨q7, hq7, h⟩ := of_bd h
    refine mc_V (pc := 53) (as := [aI p1, aI 1]) (rest := [aI q5.1]) (stk2 := [aI q7.1, aI q5.1]) C ⟨Nat.le_refl _, Nat.le_refl _⟩ (m_X8_ringsAct hOq5 hq7) mi_X8_ringsAct mv_X8_ringsAct ml_X8_424 ci_8 rfl so_8 (by omega) rfl (Nat.le_of_ble_eq_true rfl) dX8_tellsAct_53 rfl (fun hp8 => ?_)
    have hOq7 : OK q7.2 := hp8
    refine mx_iadd (pc := 56) C dX8_tellsAct_56  ?_
    rw [← Option.some.inj h]
    exact mx_ireturn (pc := 57) C dX8_tellsAct_57 hOq7 ⟨Nat.le_refl _, Nat.le_refl _⟩
  · rw [if_neg c2] at h
    by_cases c9 : M 128 p1 = 5
    · rw [if_pos c9] at h
      refine mx_tin (pc := 6) (tgt := 58) C 5 dX8_tellsAct_6 c9 (by decide) (by decide) rfl rfl ?_
      refine mx_aload_n (pc := 58) C dX8_tellsAct_58 rfl ?_
      refine mx_bipush (pc := 59) C dX8_tellsAct_59 (z := 60) rfl (by constructor <;> decide) ?_
      obtain ⟨q10, hq10, h⟩ := of_bd h
      refine mc_V (pc := 61) (as := [aI 60]) (rest := []) (stk2 := []) C ⟨Nat.le_refl _, Nat.le_refl _⟩ (m_X8_body hOM hq10) mi_X8_body mv_X8_body ml_X8_409 ci_8 rfl so_8 (by omega) rfl (Nat.le_of_ble_eq_true rfl) dX8_tellsAct_61 rfl (fun hp11 => ?_)
      have hOq10 : OK q10.2 := hp11
      refine mx_aload_n (pc := 64) C dX8_tellsAct_64 rfl ?_
      refine mx_iload_n (pc := 65) C dX8_tellsAct_65 rfl ?_
      refine mx_iload_n (pc := 66) C dX8_tellsAct_66 rfl ?_
      refine mx_iload_n (pc := 67) C dX8_tellsAct_67 rfl ?_
      refine mx_isub (pc := 68) C dX8_tellsAct_68  ?_
      obtain ⟨q12, hq12, h⟩ := of_bd h
      refine mc_V (pc := 69) (as := [aI p1, aI (w32 (p2 - p1))]) (rest := []) (stk2 := [aI q12.1]) C ⟨Nat.le_refl _, Nat.le_refl _⟩ (m_X8_soundTells hOq10 hq12) mi_X8_soundTells mv_X8_soundTells ml_X8_427 ci_8 rfl so_8 (by omega) rfl (Nat.le_of_ble_eq_true rfl) dX8_tellsAct_69 rfl (fun hp13 => ?_)
      have hOq12 : OK q12.2 := hp13
      rw [← Option.some.inj h]
      exact mx_ireturn (pc := 72) C dX8_tellsAct_72 hOq12 ⟨Nat.le_refl _, Nat.le_refl _⟩
    · rw [if_neg c9] at h
      by_cases c14 : M 128 p1 = 6
      · rw [if_pos c14] at h
        refine mx_tin (pc := 6) (tgt := 36) C 6 dX8_tellsAct_6 c14 (by decide) (by decide) rfl rfl ?_
        refine mx_aload_n (pc := 36) C dX8_tellsAct_36 rfl ?_
        refine mx_bipush (pc := 37) C dX8_tellsAct_37 (z := 40) rfl (by constructor <;> decide) ?_
        obtain ⟨q15, hq15, h⟩ := of_bd h
        refine mc_V (pc := 39) (as := [aI 40]) (rest := []) (stk2 := []) C ⟨Nat.le_refl _, Nat.le_refl _⟩ (m_X8_body hOM hq15) mi_X8_body mv_X8_body ml_X8_409 ci_8 rfl so_8 (by omega) rfl (Nat.le_of_ble_eq_true rfl) dX8_tellsAct_39 rfl (fun hp16 => ?_)
        have hOq15 : OK q15.2 := hp16
        refine mx_aload_n (pc := 42) C dX8_tellsAct_42 rfl ?_
        refine mx_iload_n (pc := 43) C dX8_tellsAct_43 rfl ?_
        refine mx_iload_n (pc := 44) C dX8_tellsAct_44 rfl ?_
        obtain ⟨q17, hq17, h⟩ := of_bd h
        refine mc_V (pc := 45) (as := [aI p1, aI p2]) (rest := []) (stk2 := [aI q17.1]) C ⟨Nat.le_refl _, Nat.le_refl _⟩ (m_X8_soundTells hOq15 hq17) mi_X8_soundTells mv_X8_soundTells ml_X8_427 ci_8 rfl so_8 (by omega) rfl (Nat.le_of_ble_eq_true rfl) dX8_tellsAct_45 rfl (fun hp18 => ?_)
        have hOq17 : OK q17.2 := hp18
        refine mx_istore_n (pc := 48) C dX8_tellsAct_48 (ls' := [some (aR 127), some (aI p1), some (aI p2), some (aI q17.1)]) (by decide) rfl rfl ?_
        refine mx_iload_n (pc := 49) C dX8_tellsAct_49 rfl ?_
        refine mx_aload_n (pc := 50) C dX8_tellsAct_50 rfl ?_
        refine mx_iload_n (pc := 51) C dX8_tellsAct_51 rfl ?_
        refine mx_iconst (pc := 52) C dX8_tellsAct_52 (z := 1) rfl (by constructor <;> decide) ?_
        obtain ⟨q19, hq19, h⟩ := of_bd h
        refine mc_V (pc := 53) (as := [aI p1, aI 1]) (rest := [aI q17.1]) (stk2 := [aI q19.1, aI q17.1]) C ⟨Nat.le_refl _, Nat.le_refl _⟩ (m_X8_ringsAct hOq17 hq19) mi_X8_ringsAct mv_X8_ringsAct ml_X8_424 ci_8 rfl so_8 (by omega) rfl (Nat.le_of_ble_eq_true rfl) dX8_tellsAct_53 rfl (fun hp20 => ?_)
        have hOq19 : OK q19.2 := hp20
        refine mx_iadd (pc := 56) C dX8_tellsAct_56  ?_
        rw [← Option.some.inj h]
        exact mx_ireturn (pc := 57) C dX8_tellsAct_57 hOq19 ⟨Nat.le_refl _, Nat.le_refl _⟩
      · rw [if_neg c14] at h
        rcases (by omega : (M 128 p1 < 3 ∨ 6 < M 128 p1) ∨ M 128 p1 = 4) with hs | hs
        · refine mx_tout (pc := 6) (tgt := 73) C dX8_tellsAct_6 hs rfl ?_
          refine mx_aload_n (pc := 73) C dX8_tellsAct_73 rfl ?_
          refine mx_iload_n (pc := 74) C dX8_tellsAct_74 rfl ?_
          refine mx_iload_n (pc := 75) C dX8_tellsAct_75 rfl ?_
          obtain ⟨q21, hq21, h⟩ := of_bd h
          refine mc_V (pc := 76) (as := [aI p1, aI p2]) (rest := []) (stk2 := [aI q21.1]) C ⟨Nat.le_refl _, Nat.le_refl _⟩ (m_X8_soundTells hOM hq21) mi_X8_soundTells mv_X8_soundTells ml_X8_427 ci_8 rfl so_8 (by omega) rfl (Nat.le_of_ble_eq_true rfl) dX8_tellsAct_76 rfl (fun hp22 => ?_)
          have hOq21 : OK q21.2 := hp22
          rw [← Option.some.inj h]
          exact mx_ireturn (pc := 79) C dX8_tellsAct_79 hOq21 ⟨Nat.le_refl _, Nat.le_refl _⟩
        · refine mx_tin (pc := 6) (tgt := 73) C 4 dX8_tellsAct_6 hs (by decide) (by decide) rfl rfl ?_
          refine mx_aload_n (pc := 73) C dX8_tellsAct_73 rfl ?_
          refine mx_iload_n (pc := 74) C dX8_tellsAct_74 rfl ?_
          refine mx_iload_n (pc := 75) C dX8_tellsAct_75 rfl ?_
          obtain ⟨q21, hq21, h⟩ := of_bd h
          refine mc_V (pc := 76) (as := [aI p1, aI p2]) (rest := []) (stk2 := [aI q21.1]) C ⟨Nat.le_refl _, Nat.le_refl _⟩ (m_X8_soundTells hOM hq21) mi_X8_soundTells mv_X8_soundTells ml_X8_427 ci_8 rfl so_8 (by omega) rfl (Nat.le_of_ble_eq_true rfl) dX8_tellsAct_76 rfl (fun hp22 => ?_)
          have hOq21 : OK q21.2 := hp22
          rw [← Option.some.inj h]
          exact mx_ireturn (pc := 79) C dX8_tellsAct_79 hOq21 ⟨Nat.le_refl _, Nat.le_refl _⟩

def f_X8_act (p1 : Int) (p2 : Int) (p3 : Int) (M : Mem) : Option (Int × Mem) :=
  lt (stM M 127 62 0) (fun M1 => (f_X8_isSound p1 M1).bind (fun q2 => if q2.1 = 0 then some (0, q2.2) else (f_X8_in p2 0 2 q2.2).bind (fun q5 => if q5.1 = 0 then some (0, q5.2) else if p2 = 0 then (f_X8_creaksAct p1 p3 q5.2).bind (fun q14 => some (q14.1, q14.2)) else if p2 = 1 then (f_X8_ringsAct p1 p3 q5.2).bind (fun q12 => some (q12.1, q12.2)) else (f_X8_tellsAct p1 p3 q5.2).bind (fun q10 => some (q10.1, q10.2)))))
set_option maxRecDepth 20000 in
set_option maxHeartbeats 4000000 in
theorem m_X8_act {p1 : Int} {p2 : Int} {p3 : Int} {M : Mem} {res : Int × Mem} (hOM : OK M) (h : f_X8_act p1 p2 p3 M = some res) : Mth false yX8_act cX8_act 4 (some .int) 9 0 0 SH [aR 127, aI p1, aI p2, aI p3] M (some (aI res.1)) SH res.2 (OK res.2) := by
  refine Mth.of (by decide +kernel) (Nat.le_of_ble_eq_true rfl) (fun K B C => ?_)
  show Wx K B _ 0 0 SH 4 M 0 [some (aR 127), some (aI p1), some (aI p2), some (aI p3)] []
  unfold f_X8_act at h
  refine mx_aload_n (pc := 0) C dX8_act_0 rfl ?_
  refine mx_iconst (pc := 1) C dX8_act_1 (z := 0) rfl (by constructor <;> decide) ?_
  refine mx_putI (pc := 2) C dX8_act_2 so_8 ci_8 (k := 62) (by decide) fl_X8_199 (Or.inl rfl) rfl (q := 62) rfl ?_
  generalize hmM1 : stM M 127 62 0 = M1 at h ⊢
  replace h := lt_e h
  have hOM1 : OK M1 := by rw [← hmM1]; exact okf_8_62 hOM
  refine mx_aload_n (pc := 5) C dX8_act_5 rfl ?_
  refine mx_iload_n (pc := 6) C dX8_act_6 rfl ?_
  obtain ⟨q2, hq2, h⟩ := of_bd h
  refine mc_V (pc := 7) (as := [aI p1]) (rest := []) (stk2 := [aI q2.1]) C ⟨Nat.le_refl _, Nat.le_refl _⟩ (m_X8_isSound hOM1 hq2) mi_X8_isSound mv_X8_isSound ml_X8_229 ci_8 rfl so_8 (by omega) rfl (Nat.le_of_ble_eq_true rfl) dX8_act_7 rfl (fun hp3 => ?_)
  have hOq2 : OK q2.2 := hp3.1
  refine mx_if_eq (pc := 10) (tgt := 23) C dX8_act_10 rfl (fun c4 => ?_) (fun c4 => ?_)
  · rw [if_pos c4] at h
    refine mx_iconst (pc := 23) C dX8_act_23 (z := 0) rfl (by constructor <;> decide) ?_
    rw [← Option.some.inj h]
    exact mx_ireturn (pc := 24) C dX8_act_24 hOq2 ⟨Nat.le_refl _, Nat.le_refl _⟩
  · rw [if_neg c4] at h
    refine mx_aload_n (pc := 13) C dX8_act_13 rfl ?_
    refine mx_iload_n (pc := 14) C dX8_act_14 rfl ?_
    refine mx_iconst (pc := 15) C dX8_act_15 (z := 0) rfl (by constructor <;> decide) ?_
    refine mx_iconst (pc := 16) C dX8_act_16 (z := 2) rfl (by constructor <;> decide) ?_
    obtain ⟨q5, hq5, h⟩ := of_bd h
    refine mc_V (pc := 17) (as := [aI p2, aI 0, aI 2]) (rest := []) (stk2 := [aI q5.1]) C ⟨Nat.le_refl _, Nat.le_refl _⟩ (m_X8_in hOq2 hq5) mi_X8_in mv_X8_in ml_X8_218 ci_8 rfl so_8 (by omega) rfl (Nat.le_of_ble_eq_true rfl) dX8_act_17 rfl (fun hp6 => ?_)
    have hOq5 : OK q5.2 := hp6.1
    refine mx_if_ne (pc := 20) (tgt := 25) C dX8_act_20 rfl (fun c7 => ?_) (fun c7 => ?_)
    · rw [if_neg c7] at h
      refine mx_iload_n (pc := 25) C dX8_act_25 rfl ?_
      refine mx_if_ne (pc := 26) (tgt := 38) C dX8_act_26 rfl (fun c8 => ?_) (fun c8 => ?_)
      · rw [if_neg c8] at h
        refine mx_iload_n (pc := 38) C dX8_act_38 rfl ?_
        refine mx_iconst (pc := 39) C dX8_act_39 (z := 1) rfl (by constructor <;> decide) ?_
        refine mx_icmp_ne (pc := 40) (tgt := 52) C dX8_act_40 rfl (fun c9 => ?_) (fun c9 => ?_)
        · rw [if_neg c9] at h
          refine mx_aload_n (pc := 52) C dX8_act_52 rfl ?_
          refine mx_iload_n (pc := 53) C dX8_act_53 rfl ?_
          refine mx_iload_n (pc := 54) C dX8_act_54 rfl ?_
          obtain ⟨q10, hq10, h⟩ := of_bd h
          refine mc_V (pc := 55) (as := [aI p1, aI p3]) (rest := []) (stk2 := [aI q10.1]) C ⟨Nat.le_refl _, Nat.le_refl _⟩ (m_X8_tellsAct hOq5 hq10) mi_X8_tellsAct mv_X8_tellsAct ml_X8_430 ci_8 rfl so_8 (by omega) rfl (Nat.le_of_ble_eq_true rfl) dX8_act_55 rfl (fun hp11 => ?_)
          have hOq10 : OK q10.2 := hp11
          rw [← Option.some.inj h]
          exact mx_ireturn (pc := 58) C dX8_act_58 hOq10 ⟨Nat.le_refl _, Nat.le_refl _⟩
        · rw [if_pos c9] at h
          refine mx_aload_n (pc := 43) C dX8_act_43 rfl ?_
          refine mx_iload_n (pc := 44) C dX8_act_44 rfl ?_
          refine mx_iload_n (pc := 45) C dX8_act_45 rfl ?_
          obtain ⟨q12, hq12, h⟩ := of_bd h
          refine mc_V (pc := 46) (as := [aI p1, aI p3]) (rest := []) (stk2 := [aI q12.1]) C ⟨Nat.le_refl _, Nat.le_refl _⟩ (m_X8_ringsAct hOq5 hq12) mi_X8_ringsAct mv_X8_ringsAct ml_X8_424 ci_8 rfl so_8 (by omega) rfl (Nat.le_of_ble_eq_true rfl) dX8_act_46 rfl (fun hp13 => ?_)
          have hOq12 : OK q12.2 := hp13
          refine mx_goto (pc := 49) (tgt := 58) C dX8_act_49 rfl ?_
          rw [← Option.some.inj h]
          exact mx_ireturn (pc := 58) C dX8_act_58 hOq12 ⟨Nat.le_refl _, Nat.le_refl _⟩
      · rw [if_pos c8] at h
        refine mx_aload_n (pc := 29) C dX8_act_29 rfl ?_
        refine mx_iload_n (pc := 30) C dX8_act_30 rfl ?_
        refine mx_iload_n (pc := 31) C dX8_act_31 rfl ?_
        obtain ⟨q14, hq14, h⟩ := of_bd h
        refine mc_V (pc := 32) (as := [aI p1, aI p3]) (rest := []) (stk2 := [aI q14.1]) C ⟨Nat.le_refl _, Nat.le_refl _⟩ (m_X8_creaksAct hOq5 hq14) mi_X8_creaksAct mv_X8_creaksAct ml_X8_415 ci_8 rfl so_8 (by omega) rfl (Nat.le_of_ble_eq_true rfl) dX8_act_32 rfl (fun hp15 => ?_)
        have hOq14 : OK q14.2 := hp15
        refine mx_goto (pc := 35) (tgt := 58) C dX8_act_35 rfl ?_
        rw [← Option.some.inj h]
        exact mx_ireturn (pc := 58) C dX8_act_58 hOq14 ⟨Nat.le_refl _, Nat.le_refl _⟩
    · rw [if_pos c7] at h
      refine mx_iconst (pc := 23) C dX8_act_23 (z := 0) rfl (by constructor <;> decide) ?_
      rw [← Option.some.inj h]
      exact mx_ireturn (pc := 24) C dX8_act_24 hOq5 ⟨Nat.le_refl _, Nat.le_refl _⟩

def f_X8_trace (p1 : Int) (M : Mem) : Option (Int × Mem) :=
  (f_X8_in p1 0 19 M).bind (fun q1 => if q1.1 = 0 then some ((-1), q1.2) else if q1.2 127 62 ≤ p1 then some ((-1), q1.2) else if 0 ≤ p1 ∧ p1 < 20 then some (q1.2 167 p1, q1.2) else none)
set_option maxRecDepth 20000 in
set_option maxHeartbeats 4000000 in
theorem m_X8_trace {p1 : Int} {M : Mem} {res : Int × Mem} (hOM : OK M) (h : f_X8_trace p1 M = some res) : Mth false yX8_trace cX8_trace 2 (some .int) 2 0 0 SH [aR 127, aI p1] M (some (aI res.1)) SH res.2 (OK res.2) := by
  refine Mth.of (by decide +kernel) (Nat.le_of_ble_eq_true rfl) (fun K B C => ?_)
  show Wx K B _ 0 0 SH 2 M 0 [some (aR 127), some (aI p1)] []
  unfold f_X8_trace at h
  refine mx_aload_n (pc := 0) C dX8_trace_0 rfl ?_
  refine mx_iload_n (pc := 1) C dX8_trace_1 rfl ?_
  refine mx_iconst (pc := 2) C dX8_trace_2 (z := 0) rfl (by constructor <;> decide) ?_
  refine mx_bipush (pc := 3) C dX8_trace_3 (z := 19) rfl (by constructor <;> decide) ?_
  obtain ⟨q1, hq1, h⟩ := of_bd h
  refine mc_V (pc := 5) (as := [aI p1, aI 0, aI 19]) (rest := []) (stk2 := [aI q1.1]) C ⟨Nat.le_refl _, Nat.le_refl _⟩ (m_X8_in hOM hq1) mi_X8_in mv_X8_in ml_X8_218 ci_8 rfl so_8 (by omega) rfl (Nat.le_of_ble_eq_true rfl) dX8_trace_5 rfl (fun hp2 => ?_)
  have hOq1 : OK q1.2 := hp2.1
  refine mx_if_eq (pc := 8) (tgt := 28) C dX8_trace_8 rfl (fun c3 => ?_) (fun c3 => ?_)
  · rw [if_pos c3] at h
    refine mx_iconst (pc := 28) C dX8_trace_28 (z := (-1)) rfl (by constructor <;> decide) ?_
    rw [← Option.some.inj h]
    exact mx_ireturn (pc := 29) C dX8_trace_29 hOq1 ⟨Nat.le_refl _, Nat.le_refl _⟩
  · rw [if_neg c3] at h
    refine mx_iload_n (pc := 11) C dX8_trace_11 rfl ?_
    refine mx_aload_n (pc := 12) C dX8_trace_12 rfl ?_
    refine mx_getI (pc := 13) C dX8_trace_13 so_8 ci_8 (k := 62) (by decide) fl_X8_199 rfl (q := 62) rfl ?_
    refine mx_icmp_ge (pc := 16) (tgt := 28) C dX8_trace_16 rfl (fun c4 => ?_) (fun c4 => ?_)
    · rw [if_pos c4] at h
      refine mx_iconst (pc := 28) C dX8_trace_28 (z := (-1)) rfl (by constructor <;> decide) ?_
      rw [← Option.some.inj h]
      exact mx_ireturn (pc := 29) C dX8_trace_29 hOq1 ⟨Nat.le_refl _, Nat.le_refl _⟩
    · rw [if_neg c4] at h
      refine mx_aload_n (pc := 19) C dX8_trace_19 rfl ?_
      refine mx_getR (pc := 20) (v := 167) C dX8_trace_20 so_8 ci_8 (k := 63) (by decide) fl_X8_202 rfl (q := 63) rfl (lay_8_63 hOq1) (by decide) ?_
      refine mx_iload_n (pc := 23) C dX8_trace_23 rfl ?_
      obtain ⟨g5, h⟩ := of_gd h
      refine mx_iald (pc := 24) C dX8_trace_24 sh_8_63 g5.1 g5.2 ?_
      refine mx_goto (pc := 25) (tgt := 29) C dX8_trace_25 rfl ?_
      rw [← Option.some.inj h]
      exact mx_ireturn (pc := 29) C dX8_trace_29 hOq1 ⟨Nat.le_refl _, Nat.le_refl _⟩

def f_X8_taken_61 (p1 : Int) (p2 : Int) (x2 : Int) (x3 : Int) (M : Mem) : Option (Int × Mem) :=
  if x2 = 3 then if x3 = 6 then some (x3, M) else some ((-12), M) else some ((-12), M)
def f_X8_taken_51 (p1 : Int) (p2 : Int) (x2 : Int) (x3 : Int) (M : Mem) : Option (Int × Mem) :=
  if x2 = 2 then if x3 = 5 then some (x3, M) else f_X8_taken_61 p1 p2 x2 x3 M else f_X8_taken_61 p1 p2 x2 x3 M
def f_X8_taken (p1 : Int) (p2 : Int) (M : Mem) : Option (Int × Mem) :=
  (f_X8_in p2 0 6 M).bind (fun q1 => if q1.1 = 0 then some ((-2), q1.2) else (f_X8_isSound p1 q1.2).bind (fun q4 => if q4.1 = 0 then some ((-11), q4.2) else if 0 ≤ p1 ∧ p1 < 6 then if p2 = 0 then some (q4.2 128 p1, q4.2) else if q4.2 128 p1 = p2 then some (q4.2 128 p1, q4.2) else if p2 = 1 then if q4.2 128 p1 = 4 then some (q4.2 128 p1, q4.2) else f_X8_taken_51 p1 p2 p2 (q4.2 128 p1) q4.2 else f_X8_taken_51 p1 p2 p2 (q4.2 128 p1) q4.2 else none))
set_option maxRecDepth 20000 in
set_option maxHeartbeats 4000000 in
theorem b_X8_taken_61 {K : KX} {B : BX} {res : Int × Mem} {p1 : Int} {p2 : Int} (C : Cx K B false yX8_taken cX8_taken 4 (some .int) 3 0 0) : ∀ (x2 : Int) (x3 : Int) (M : Mem), OK M → f_X8_taken_61 p1 p2 x2 x3 M = some res → Wx K B (Zr K B (some (aI res.1)) SH res.2 (OK res.2) 0 0) 0 0 SH 4 M 61 [none, none, some (aI x2), some (aI x3)] [] := by
  intro x2 x3 M hOM h
  unfold f_X8_taken_61 at h
  refine mx_iload_n (pc := 61) C dX8_taken_61 rfl ?_
  refine mx_iconst (pc := 62) C dX8_taken_62 (z := 3) rfl (by constructor <;> decide) ?_
  refine mx_icmp_ne (pc := 63) (tgt := 76) C dX8_taken_63 rfl (fun c1 => ?_) (fun c1 => ?_)
  · rw [if_neg c1] at h
    refine mx_bipush (pc := 76) C dX8_taken_76 (z := (-12)) rfl (by constructor <;> decide) ?_
    rw [← Option.some.inj h]
    exact mx_ireturn (pc := 78) C dX8_taken_78 hOM ⟨Nat.le_refl _, Nat.le_refl _⟩
  · rw [if_pos c1] at h
    refine mx_iload_n (pc := 66) C dX8_taken_66 rfl ?_
    refine mx_bipush (pc := 67) C dX8_taken_67 (z := 6) rfl (by constructor <;> decide) ?_
    refine mx_icmp_ne (pc := 69) (tgt := 76) C dX8_taken_69 rfl (fun c2 => ?_) (fun c2 => ?_)
    · rw [if_neg c2] at h
      refine mx_bipush (pc := 76) C dX8_taken_76 (z := (-12)) rfl (by constructor <;> decide) ?_
      rw [← Option.some.inj h]
      exact mx_ireturn (pc := 78) C dX8_taken_78 hOM ⟨Nat.le_refl _, Nat.le_refl _⟩
    · rw [if_pos c2] at h
      refine mx_iload_n (pc := 72) C dX8_taken_72 rfl ?_
      refine mx_goto (pc := 73) (tgt := 78) C dX8_taken_73 rfl ?_
      rw [← Option.some.inj h]
      exact mx_ireturn (pc := 78) C dX8_taken_78 hOM ⟨Nat.le_refl _, Nat.le_refl _⟩
set_option maxRecDepth 20000 in
set_option maxHeartbeats 4000000 in
theorem b_X8_taken_51 {K : KX} {B : BX} {res : Int × Mem} {p1 : Int} {p2 : Int} (C : Cx K B false yX8_taken cX8_taken 4 (some .int) 3 0 0) : ∀ (x2 : Int) (x3 : Int) (M : Mem), OK M → f_X8_taken_51 p1 p2 x2 x3 M = some res → Wx K B (Zr K B (some (aI res.1)) SH res.2 (OK res.2) 0 0) 0 0 SH 4 M 51 [none, none, some (aI x2), some (aI x3)] [] := by
  intro x2 x3 M hOM h
  unfold f_X8_taken_51 at h
  refine mx_iload_n (pc := 51) C dX8_taken_51 rfl ?_
  refine mx_iconst (pc := 52) C dX8_taken_52 (z := 2) rfl (by constructor <;> decide) ?_
  refine mx_icmp_ne (pc := 53) (tgt := 61) C dX8_taken_53 rfl (fun c1 => ?_) (fun c1 => ?_)
  · rw [if_neg c1] at h
    exact b_X8_taken_61 C x2 x3 M hOM h
  · rw [if_pos c1] at h
    refine mx_iload_n (pc := 56) C dX8_taken_56 rfl ?_
    refine mx_iconst (pc := 57) C dX8_taken_57 (z := 5) rfl (by constructor <;> decide) ?_
    refine mx_icmp_eq (pc := 58) (tgt := 72) C dX8_taken_58 rfl (fun c2 => ?_) (fun c2 => ?_)
    · rw [if_pos c2] at h
      refine mx_iload_n (pc := 72) C dX8_taken_72 rfl ?_
      refine mx_goto (pc := 73) (tgt := 78) C dX8_taken_73 rfl ?_
      rw [← Option.some.inj h]
      exact mx_ireturn (pc := 78) C dX8_taken_78 hOM ⟨Nat.le_refl _, Nat.le_refl _⟩
    · rw [if_neg c2] at h
      exact b_X8_taken_61 C x2 x3 M hOM h
set_option maxRecDepth 20000 in
set_option maxHeartbeats 4000000 in
theorem m_X8_taken {p1 : Int} {p2 : Int} {M : Mem} {res : Int × Mem} (hOM : OK M) (h : f_X8_taken p1 p2 M = some res) : Mth false yX8_taken cX8_taken 4 (some .int) 3 0 0 SH [aR 127, aI p1, aI p2] M (some (aI res.1)) SH res.2 (OK res.2) := by
  refine Mth.of (by decide +kernel) (Nat.le_of_ble_eq_true rfl) (fun K B C => ?_)
  show Wx K B _ 0 0 SH 4 M 0 [some (aR 127), some (aI p1), some (aI p2), none] []
  unfold f_X8_taken at h
  refine mx_aload_n (pc := 0) C dX8_taken_0 rfl ?_
  refine mx_iload_n (pc := 1) C dX8_taken_1 rfl ?_
  refine mx_iconst (pc := 2) C dX8_taken_2 (z := 0) rfl (by constructor <;> decide) ?_
  refine mx_bipush (pc := 3) C dX8_taken_3 (z := 6) rfl (by constructor <;> decide) ?_
  obtain ⟨q1, hq1, h⟩ := of_bd h
  refine mc_V (pc := 5) (as := [aI p2, aI 0, aI 6]) (rest := []) (stk2 := [aI q1.1]) C ⟨Nat.le_refl _, Nat.le_refl _⟩ (m_X8_in hOM hq1) mi_X8_in mv_X8_in ml_X8_218 ci_8 rfl so_8 (by omega) rfl (Nat.le_of_ble_eq_true rfl) dX8_taken_5 rfl (fun hp2 => ?_)
  have hOq1 : OK q1.2 := hp2.1
  refine mx_if_ne (pc := 8) (tgt := 14) C dX8_taken_8 rfl (fun c3 => ?_) (fun c3 => ?_)
  · rw [if_neg c3] at h
    refine mx_aload_n (pc := 14) C dX8_taken_14 rfl ?_
    refine mx_iload_n (pc := 15) C dX8_taken_15 rfl ?_
    obtain ⟨q4, hq4, h⟩ := of_bd h
    refine mc_V (pc := 16) (as := [aI p1]) (rest := []) (stk2 := [aI q4.1]) C ⟨Nat.le_refl _, Nat.le_refl _⟩ (m_X8_isSound hOq1 hq4) mi_X8_isSound mv_X8_isSound ml_X8_229 ci_8 rfl so_8 (by omega) rfl (Nat.le_of_ble_eq_true rfl) dX8_taken_16 rfl (fun hp5 => ?_)
    have hOq4 : OK q4.2 := hp5.1
    refine mx_if_ne (pc := 19) (tgt := 25) C dX8_taken_19 rfl (fun c6 => ?_) (fun c6 => ?_)
    · rw [if_neg c6] at h
      refine mx_aload_n (pc := 25) C dX8_taken_25 rfl ?_
      refine mx_getR (pc := 26) (v := 128) C dX8_taken_26 so_8 ci_8 (k := 2) (by decide) fl_X8_16 rfl (q := 2) rfl (lay_8_2 hOq4) (by decide) ?_
      refine mx_iload_n (pc := 29) C dX8_taken_29 rfl ?_
      obtain ⟨g7, h⟩ := of_gd h
      refine mx_iald (pc := 30) C dX8_taken_30 sh_8_2 g7.1 g7.2 ?_
      refine mx_istore_n (pc := 31) C dX8_taken_31 (ls' := [some (aR 127), some (aI p1), some (aI p2), some (aI (q4.2 128 p1))]) (by decide) rfl rfl ?_
      refine mx_iload_n (pc := 32) C dX8_taken_32 rfl ?_
      refine mx_if_eq (pc := 33) (tgt := 72) C dX8_taken_33 rfl (fun c8 => ?_) (fun c8 => ?_)
      · rw [if_pos c8] at h
        refine mx_iload_n (pc := 72) C dX8_taken_72 rfl ?_
        refine mx_goto (pc := 73) (tgt := 78) C dX8_taken_73 rfl ?_
        rw [← Option.some.inj h]
        exact mx_ireturn (pc := 78) C dX8_taken_78 hOq4 ⟨Nat.le_refl _, Nat.le_refl _⟩
      · rw [if_neg c8] at h
        refine mx_iload_n (pc := 36) C dX8_taken_36 rfl ?_
        refine mx_iload_n (pc := 37) C dX8_taken_37 rfl ?_
        refine mx_icmp_eq (pc := 38) (tgt := 72) C dX8_taken_38 rfl (fun c9 => ?_) (fun c9 => ?_)
        · rw [if_pos c9] at h
          refine mx_iload_n (pc := 72) C dX8_taken_72 rfl ?_
          refine mx_goto (pc := 73) (tgt := 78) C dX8_taken_73 rfl ?_
          rw [← Option.some.inj h]
          exact mx_ireturn (pc := 78) C dX8_taken_78 hOq4 ⟨Nat.le_refl _, Nat.le_refl _⟩
        · rw [if_neg c9] at h
          refine mx_iload_n (pc := 41) C dX8_taken_41 rfl ?_
          refine mx_iconst (pc := 42) C dX8_taken_42 (z := 1) rfl (by constructor <;> decide) ?_
          refine mx_icmp_ne (pc := 43) (tgt := 51) C dX8_taken_43 rfl (fun c10 => ?_) (fun c10 => ?_)
          · rw [if_neg c10] at h
            refine mx_mask [false, false, true, true] (ls' := [none, none, some (aI p2), some (aI (q4.2 128 p1))]) rfl rfl ?_
            exact b_X8_taken_51 C p2 (q4.2 128 p1) q4.2 hOq4 h
          · rw [if_pos c10] at h
            refine mx_iload_n (pc := 46) C dX8_taken_46 rfl ?_
            refine mx_iconst (pc := 47) C dX8_taken_47 (z := 4) rfl (by constructor <;> decide) ?_
            refine mx_icmp_eq (pc := 48) (tgt := 72) C dX8_taken_48 rfl (fun c11 => ?_) (fun c11 => ?_)
            · rw [if_pos c11] at h
              refine mx_iload_n (pc := 72) C dX8_taken_72 rfl ?_
              refine mx_goto (pc := 73) (tgt := 78) C dX8_taken_73 rfl ?_
              rw [← Option.some.inj h]
              exact mx_ireturn (pc := 78) C dX8_taken_78 hOq4 ⟨Nat.le_refl _, Nat.le_refl _⟩
            · rw [if_neg c11] at h
              refine mx_mask [false, false, true, true] (ls' := [none, none, some (aI p2), some (aI (q4.2 128 p1))]) rfl rfl ?_
              exact b_X8_taken_51 C p2 (q4.2 128 p1) q4.2 hOq4 h
    · rw [if_pos c6] at h
      refine mx_bipush (pc := 22) C dX8_taken_22 (z := (-11)) rfl (by constructor <;> decide) ?_
      rw [← Option.some.inj h]
      exact mx_ireturn (pc := 24) C dX8_taken_24 hOq4 ⟨Nat.le_refl _, Nat.le_refl _⟩
  · rw [if_pos c3] at h
    refine mx_bipush (pc := 11) C dX8_taken_11 (z := (-2)) rfl (by constructor <;> decide) ?_
    rw [← Option.some.inj h]
    exact mx_ireturn (pc := 13) C dX8_taken_13 hOq1 ⟨Nat.le_refl _, Nat.le_refl _⟩

def f_X8_count (p1 : Int) (M : Mem) : Option (Int × Mem) :=
  if p1 = 0 then some (M 127 0, M) else if p1 = 1 then some (M 127 7, M) else if p1 = 2 then some (M 127 33, M) else if p1 = 3 then some (M 127 37, M) else if p1 = 4 then some (M 127 38, M) else if p1 = 5 then some (M 127 9, M) else if p1 = 6 then some (M 127 62, M) else some ((-2), M)
set_option maxRecDepth 20000 in
set_option maxHeartbeats 4000000 in
theorem m_X8_count {p1 : Int} {M : Mem} {res : Int × Mem} (hOM : OK M) (h : f_X8_count p1 M = some res) : Mth false yX8_count cX8_count 2 (some .int) 1 0 0 SH [aR 127, aI p1] M (some (aI res.1)) SH res.2 (OK res.2) := by
  refine Mth.of (by decide +kernel) (Nat.le_of_ble_eq_true rfl) (fun K B C => ?_)
  show Wx K B _ 0 0 SH 2 M 0 [some (aR 127), some (aI p1)] []
  unfold f_X8_count at h
  refine mx_iload_n (pc := 0) C dX8_count_0 rfl ?_
  by_cases c1 : p1 = 0
  · rw [if_pos c1] at h
    refine mx_tin (pc := 1) (tgt := 44) C 0 dX8_count_1 c1 (by decide) (by decide) rfl rfl ?_
    refine mx_aload_n (pc := 44) C dX8_count_44 rfl ?_
    refine mx_getI (pc := 45) C dX8_count_45 so_8 ci_8 (k := 0) (by decide) fl_X8_7 rfl (q := 0) rfl ?_
    rw [← Option.some.inj h]
    exact mx_ireturn (pc := 48) C dX8_count_48 hOM ⟨Nat.le_refl _, Nat.le_refl _⟩
  · rw [if_neg c1] at h
    by_cases c2 : p1 = 1
    · rw [if_pos c2] at h
      refine mx_tin (pc := 1) (tgt := 49) C 1 dX8_count_1 c2 (by decide) (by decide) rfl rfl ?_
      refine mx_aload_n (pc := 49) C dX8_count_49 rfl ?_
      refine mx_getI (pc := 50) C dX8_count_50 so_8 ci_8 (k := 7) (by decide) fl_X8_32 rfl (q := 7) rfl ?_
      rw [← Option.some.inj h]
      exact mx_ireturn (pc := 53) C dX8_count_53 hOM ⟨Nat.le_refl _, Nat.le_refl _⟩
    · rw [if_neg c2] at h
      by_cases c3 : p1 = 2
      · rw [if_pos c3] at h
        refine mx_tin (pc := 1) (tgt := 54) C 2 dX8_count_1 c3 (by decide) (by decide) rfl rfl ?_
        refine mx_aload_n (pc := 54) C dX8_count_54 rfl ?_
        refine mx_getI (pc := 55) C dX8_count_55 so_8 ci_8 (k := 33) (by decide) fl_X8_111 rfl (q := 33) rfl ?_
        rw [← Option.some.inj h]
        exact mx_ireturn (pc := 58) C dX8_count_58 hOM ⟨Nat.le_refl _, Nat.le_refl _⟩
      · rw [if_neg c3] at h
        by_cases c4 : p1 = 3
        · rw [if_pos c4] at h
          refine mx_tin (pc := 1) (tgt := 59) C 3 dX8_count_1 c4 (by decide) (by decide) rfl rfl ?_
          refine mx_aload_n (pc := 59) C dX8_count_59 rfl ?_
          refine mx_getI (pc := 60) C dX8_count_60 so_8 ci_8 (k := 37) (by decide) fl_X8_123 rfl (q := 37) rfl ?_
          rw [← Option.some.inj h]
          exact mx_ireturn (pc := 63) C dX8_count_63 hOM ⟨Nat.le_refl _, Nat.le_refl _⟩
        · rw [if_neg c4] at h
          by_cases c5 : p1 = 4
          · rw [if_pos c5] at h
            refine mx_tin (pc := 1) (tgt := 64) C 4 dX8_count_1 c5 (by decide) (by decide) rfl rfl ?_
            refine mx_aload_n (pc := 64) C dX8_count_64 rfl ?_
            refine mx_getI (pc := 65) C dX8_count_65 so_8 ci_8 (k := 38) (by decide) fl_X8_126 rfl (q := 38) rfl ?_
            rw [← Option.some.inj h]
            exact mx_ireturn (pc := 68) C dX8_count_68 hOM ⟨Nat.le_refl _, Nat.le_refl _⟩
          · rw [if_neg c5] at h
            by_cases c6 : p1 = 5
            · rw [if_pos c6] at h
              refine mx_tin (pc := 1) (tgt := 69) C 5 dX8_count_1 c6 (by decide) (by decide) rfl rfl ?_
              refine mx_aload_n (pc := 69) C dX8_count_69 rfl ?_
              refine mx_getI (pc := 70) C dX8_count_70 so_8 ci_8 (k := 9) (by decide) fl_X8_38 rfl (q := 9) rfl ?_
              rw [← Option.some.inj h]
              exact mx_ireturn (pc := 73) C dX8_count_73 hOM ⟨Nat.le_refl _, Nat.le_refl _⟩
            · rw [if_neg c6] at h
              by_cases c7 : p1 = 6
              · rw [if_pos c7] at h
                refine mx_tin (pc := 1) (tgt := 74) C 6 dX8_count_1 c7 (by decide) (by decide) rfl rfl ?_
                refine mx_aload_n (pc := 74) C dX8_count_74 rfl ?_
                refine mx_getI (pc := 75) C dX8_count_75 so_8 ci_8 (k := 62) (by decide) fl_X8_199 rfl (q := 62) rfl ?_
                rw [← Option.some.inj h]
                exact mx_ireturn (pc := 78) C dX8_count_78 hOM ⟨Nat.le_refl _, Nat.le_refl _⟩
              · rw [if_neg c7] at h
                refine mx_tout (pc := 1) (tgt := 79) C dX8_count_1 (by omega) rfl ?_
                refine mx_bipush (pc := 79) C dX8_count_79 (z := (-2)) rfl (by constructor <;> decide) ?_
                rw [← Option.some.inj h]
                exact mx_ireturn (pc := 81) C dX8_count_81 hOM ⟨Nat.le_refl _, Nat.le_refl _⟩

def f_X8_tape_69 (p1 : Int) (p2 : Int) (p3 : Int) : Nat → Int → Int → Mem → Option (Int × Mem)
  | 0, _, _, _ => none
  | n + 1, x1, x4, M => if 60 ≤ x4 then some (1, M) else if 0 ≤ w32 ((w32 (60 * x1)) + x4) ∧ w32 ((w32 (60 * x1)) + x4) < 360 then lt (stM M 170 (w32 ((w32 (60 * x1)) + x4)) 0) (fun M3 => f_X8_tape_69 p1 p2 p3 n x1 (w32 (x4 + 1)) M3) else none
def f_X8_tape_65 (p1 : Int) (p2 : Int) (p3 : Int) (x1 : Int) (t1 : Int) (t2 : Int) (M : Mem) : Option (Int × Mem) :=
  if 0 ≤ t1 ∧ t1 < 6 then lt (stM M 169 t1 t2) (fun M2 => f_X8_tape_69 p1 p2 p3 FU x1 0 M2) else none
def f_X8_tape_44 (p1 : Int) (p2 : Int) (p3 : Int) (x1 : Int) (x2 : Int) (x3 : Int) (M : Mem) : Option (Int × Mem) :=
  if 0 ≤ x1 ∧ x1 < 6 then lt (stM M 168 x1 x2) (fun M2 => if 0 ≤ x2 then f_X8_tape_65 p1 p2 p3 x1 x1 x3 M2 else f_X8_tape_65 p1 p2 p3 x1 x1 0 M2) else none
def f_X8_tape_33 (p1 : Int) (p2 : Int) (p3 : Int) (x1 : Int) (x2 : Int) (x3 : Int) (M : Mem) : Option (Int × Mem) :=
  if x2 < 0 then f_X8_tape_44 p1 p2 p3 x1 x2 x3 M else if 0 ≤ x3 then f_X8_tape_44 p1 p2 p3 x1 x2 x3 M else some ((-14), M)
def f_X8_tape (p1 : Int) (p2 : Int) (p3 : Int) (M : Mem) : Option (Int × Mem) :=
  (f_X8_isTape p1 M).bind (fun q1 => if q1.1 = 0 then some ((-1), q1.2) else (f_X8_in p2 (-1) 4 q1.2).bind (fun q4 => if q4.1 = 0 then some ((-2), q4.2) else if p2 < 0 then f_X8_tape_33 p1 p2 p3 p1 p2 p3 q4.2 else if p3 ≤ 60 then f_X8_tape_33 p1 p2 p3 p1 p2 p3 q4.2 else some ((-2), q4.2)))
set_option maxRecDepth 20000 in
set_option maxHeartbeats 4000000 in
theorem b_X8_tape_69 {K : KX} {B : BX} {res : Int × Mem} {p1 : Int} {p2 : Int} {p3 : Int} (C : Cx K B false yX8_tape cX8_tape 5 (some .int) 3 0 0) : ∀ (n : Nat) (x1 : Int) (x4 : Int) (M : Mem), OK M → f_X8_tape_69 p1 p2 p3 n x1 x4 M = some res → Wx K B (Zr K B (some (aI res.1)) SH res.2 (OK res.2) 0 0) 0 0 SH 5 M 69 [some (aR 127), some (aI x1), none, none, some (aI x4)] [] := by
  intro n
  induction n with
  | zero =>
    intro x1 x4 M hOM h
    cases h
  | succ n ih =>
    intro x1 x4 M hOM h
    rw [f_X8_tape_69.eq_2] at h
    refine mx_iload (pc := 69) C dX8_tape_69 rfl ?_
    refine mx_bipush (pc := 71) C dX8_tape_71 (z := 60) rfl (by constructor <;> decide) ?_
    refine mx_icmp_ge (pc := 73) (tgt := 95) C dX8_tape_73 rfl (fun c1 => ?_) (fun c1 => ?_)
    · rw [if_pos c1] at h
      refine mx_iconst (pc := 95) C dX8_tape_95 (z := 1) rfl (by constructor <;> decide) ?_
      rw [← Option.some.inj h]
      exact mx_ireturn (pc := 96) C dX8_tape_96 hOM ⟨Nat.le_refl _, Nat.le_refl _⟩
    · rw [if_neg c1] at h
      refine mx_aload_n (pc := 76) C dX8_tape_76 rfl ?_
      refine mx_getR (pc := 77) (v := 170) C dX8_tape_77 so_8 ci_8 (k := 66) (by decide) fl_X8_211 rfl (q := 66) rfl (lay_8_66 hOM) (by decide) ?_
      refine mx_bipush (pc := 80) C dX8_tape_80 (z := 60) rfl (by constructor <;> decide) ?_
      refine mx_iload_n (pc := 82) C dX8_tape_82 rfl ?_
      refine mx_imul (pc := 83) C dX8_tape_83  ?_
      refine mx_iload (pc := 84) C dX8_tape_84 rfl ?_
      refine mx_iadd (pc := 86) C dX8_tape_86  ?_
      refine mx_lconst (pc := 87) C dX8_tape_87 (z := 0) rfl (by constructor <;> decide) ?_
      obtain ⟨g2, h⟩ := of_gd h
      refine mx_last (pc := 88) C dX8_tape_88 sh_8_66 g2.1 g2.2 ?_
      generalize hmM3 : stM M 170 (w32 ((w32 (60 * x1)) + x4)) 0 = M3 at h ⊢
      replace h := lt_e h
      have hOM3 : OK M3 := by rw [← hmM3]; exact ok_arr hOM sh_8_66 (by decide)
      refine mx_iinc (pc := 89) C dX8_tape_89 (ls' := [some (aR 127), some (aI x1), none, none, some (aI (w32 (x4 + 1)))]) rfl (by decide) rfl (by constructor <;> decide) rfl rfl ?_
      refine mx_goto (pc := 92) (tgt := 69) C dX8_tape_92 rfl ?_
      exact ih x1 (w32 (x4 + 1)) M3 hOM3 h
set_option maxRecDepth 20000 in
set_option maxHeartbeats 4000000 in
theorem b_X8_tape_65 {K : KX} {B : BX} {res : Int × Mem} {p1 : Int} {p2 : Int} {p3 : Int} (C : Cx K B false yX8_tape cX8_tape 5 (some .int) 3 0 0) : ∀ (x1 : Int) (t1 : Int) (t2 : Int) (M : Mem), OK M → f_X8_tape_65 p1 p2 p3 x1 t1 t2 M = some res → Wx K B (Zr K B (some (aI res.1)) SH res.2 (OK res.2) 0 0) 0 0 SH 5 M 65 [some (aR 127), some (aI x1), none, none, none] [aI t2, aI t1, aR 169] := by
  intro x1 t1 t2 M hOM h
  unfold f_X8_tape_65 at h
  obtain ⟨g1, h⟩ := of_gd h
  refine mx_iast (pc := 65) C dX8_tape_65 sh_8_65 g1.1 g1.2 ?_
  generalize hmM2 : stM M 169 t1 t2 = M2 at h ⊢
  replace h := lt_e h
  have hOM2 : OK M2 := by rw [← hmM2]; exact ok_arr hOM sh_8_65 (by decide)
  refine mx_iconst (pc := 66) C dX8_tape_66 (z := 0) rfl (by constructor <;> decide) ?_
  refine mx_istore (pc := 67) C dX8_tape_67 (ls' := [some (aR 127), some (aI x1), none, none, some (aI 0)]) (by decide) rfl rfl ?_
  exact b_X8_tape_69 C FU x1 0 M2 hOM2 h
set_option maxRecDepth 20000 in
set_option maxHeartbeats 4000000 in
theorem b_X8_tape_44 {K : KX} {B : BX} {res : Int × Mem} {p1 : Int} {p2 : Int} {p3 : Int} (C : Cx K B false yX8_tape cX8_tape 5 (some .int) 3 0 0) : ∀ (x1 : Int) (x2 : Int) (x3 : Int) (M : Mem), OK M → f_X8_tape_44 p1 p2 p3 x1 x2 x3 M = some res → Wx K B (Zr K B (some (aI res.1)) SH res.2 (OK res.2) 0 0) 0 0 SH 5 M 44 [some (aR 127), some (aI x1), some (aI x2), some (aI x3), none] [] := by
  intro x1 x2 x3 M hOM h
  unfold f_X8_tape_44 at h
  refine mx_aload_n (pc := 44) C dX8_tape_44 rfl ?_
  refine mx_getR (pc := 45) (v := 168) C dX8_tape_45 so_8 ci_8 (k := 64) (by decide) fl_X8_205 rfl (q := 64) rfl (lay_8_64 hOM) (by decide) ?_
  refine mx_iload_n (pc := 48) C dX8_tape_48 rfl ?_
  refine mx_iload_n (pc := 49) C dX8_tape_49 rfl ?_
  obtain ⟨g1, h⟩ := of_gd h
  refine mx_iast (pc := 50) C dX8_tape_50 sh_8_64 g1.1 g1.2 ?_
  generalize hmM2 : stM M 168 x1 x2 = M2 at h ⊢
  replace h := lt_e h
  have hOM2 : OK M2 := by rw [← hmM2]; exact ok_arr hOM sh_8_64 (by decide)
  refine mx_aload_n (pc := 51) C dX8_tape_51 rfl ?_
  refine mx_getR (pc := 52) (v := 169) C dX8_tape_52 so_8 ci_8 (k := 65) (by decide) fl_X8_208 rfl (q := 65) rfl (lay_8_65 hOM2) (by decide) ?_
  refine mx_iload_n (pc := 55) C dX8_tape_55 rfl ?_
  refine mx_iload_n (pc := 56) C dX8_tape_56 rfl ?_
  refine mx_if_ge (pc := 57) (tgt := 64) C dX8_tape_57 rfl (fun c3 => ?_) (fun c3 => ?_)
  · rw [if_pos c3] at h
    refine mx_iload_n (pc := 64) C dX8_tape_64 rfl ?_
    refine mx_mask [true, true, false, false, false] (ls' := [some (aR 127), some (aI x1), none, none, none]) rfl rfl ?_
    exact b_X8_tape_65 C x1 x1 x3 M2 hOM2 h
  · rw [if_neg c3] at h
    refine mx_iconst (pc := 60) C dX8_tape_60 (z := 0) rfl (by constructor <;> decide) ?_
    refine mx_goto (pc := 61) (tgt := 65) C dX8_tape_61 rfl ?_
    refine mx_mask [true, true, false, false, false] (ls' := [some (aR 127), some (aI x1), none, none, none]) rfl rfl ?_
    exact b_X8_tape_65 C x1 x1 0 M2 hOM2 h
set_option maxRecDepth 20000 in
set_option maxHeartbeats 4000000 in
theorem b_X8_tape_33 {K : KX} {B : BX} {res : Int × Mem} {p1 : Int} {p2 : Int} {p3 : Int} (C : Cx K B false yX8_tape cX8_tape 5 (some .int) 3 0 0) : ∀ (x1 : Int) (x2 : Int) (x3 : Int) (M : Mem), OK M → f_X8_tape_33 p1 p2 p3 x1 x2 x3 M = some res → Wx K B (Zr K B (some (aI res.1)) SH res.2 (OK res.2) 0 0) 0 0 SH 5 M 33 [some (aR 127), some (aI x1), some (aI x2), some (aI x3), none] [] := by
  intro x1 x2 x3 M hOM h
  unfold f_X8_tape_33 at h
  refine mx_iload_n (pc := 33) C dX8_tape_33 rfl ?_
  refine mx_if_lt (pc := 34) (tgt := 44) C dX8_tape_34 rfl (fun c1 => ?_) (fun c1 => ?_)
  · rw [if_pos c1] at h
    exact b_X8_tape_44 C x1 x2 x3 M hOM h
  · rw [if_neg c1] at h
    refine mx_iload_n (pc := 37) C dX8_tape_37 rfl ?_
    refine mx_if_ge (pc := 38) (tgt := 44) C dX8_tape_38 rfl (fun c2 => ?_) (fun c2 => ?_)
    · rw [if_pos c2] at h
      exact b_X8_tape_44 C x1 x2 x3 M hOM h
    · rw [if_neg c2] at h
      refine mx_bipush (pc := 41) C dX8_tape_41 (z := (-14)) rfl (by constructor <;> decide) ?_
      rw [← Option.some.inj h]
      exact mx_ireturn (pc := 43) C dX8_tape_43 hOM ⟨Nat.le_refl _, Nat.le_refl _⟩
set_option maxRecDepth 20000 in
set_option maxHeartbeats 4000000 in
theorem m_X8_tape {p1 : Int} {p2 : Int} {p3 : Int} {M : Mem} {res : Int × Mem} (hOM : OK M) (h : f_X8_tape p1 p2 p3 M = some res) : Mth false yX8_tape cX8_tape 5 (some .int) 3 0 0 SH [aR 127, aI p1, aI p2, aI p3] M (some (aI res.1)) SH res.2 (OK res.2) := by
  refine Mth.of (by decide +kernel) (Nat.le_of_ble_eq_true rfl) (fun K B C => ?_)
  show Wx K B _ 0 0 SH 5 M 0 [some (aR 127), some (aI p1), some (aI p2), some (aI p3), none] []
  unfold f_X8_tape at h
  refine mx_aload_n (pc := 0) C dX8_tape_0 rfl ?_
  refine mx_iload_n (pc := 1) C dX8_tape_1 rfl ?_
  obtain ⟨q1, hq1, h⟩ := of_bd h
  refine mc_V (pc := 2) (as := [aI p1]) (rest := []) (stk2 := [aI q1.1]) C ⟨Nat.le_refl _, Nat.le_refl _⟩ (m_X8_isTape hOM hq1) mi_X8_isTape mv_X8_isTape ml_X8_406 ci_8 rfl so_8 (by omega) rfl (Nat.le_of_ble_eq_true rfl) dX8_tape_2 rfl (fun hp2 => ?_)
  have hOq1 : OK q1.2 := hp2.1
  refine mx_if_ne (pc := 5) (tgt := 10) C dX8_tape_5 rfl (fun c3 => ?_) (fun c3 => ?_)
  · rw [if_neg c3] at h
    refine mx_aload_n (pc := 10) C dX8_tape_10 rfl ?_
    refine mx_iload_n (pc := 11) C dX8_tape_11 rfl ?_
    refine mx_iconst (pc := 12) C dX8_tape_12 (z := (-1)) rfl (by constructor <;> decide) ?_
    refine mx_iconst (pc := 13) C dX8_tape_13 (z := 4) rfl (by constructor <;> decide) ?_
    obtain ⟨q4, hq4, h⟩ := of_bd h
    refine mc_V (pc := 14) (as := [aI p2, aI (-1), aI 4]) (rest := []) (stk2 := [aI q4.1]) C ⟨Nat.le_refl _, Nat.le_refl _⟩ (m_X8_in hOq1 hq4) mi_X8_in mv_X8_in ml_X8_218 ci_8 rfl so_8 (by omega) rfl (Nat.le_of_ble_eq_true rfl) dX8_tape_14 rfl (fun hp5 => ?_)
    have hOq4 : OK q4.2 := hp5.1
    refine mx_if_eq (pc := 17) (tgt := 30) C dX8_tape_17 rfl (fun c6 => ?_) (fun c6 => ?_)
    · rw [if_pos c6] at h
      refine mx_bipush (pc := 30) C dX8_tape_30 (z := (-2)) rfl (by constructor <;> decide) ?_
      rw [← Option.some.inj h]
      exact mx_ireturn (pc := 32) C dX8_tape_32 hOq4 ⟨Nat.le_refl _, Nat.le_refl _⟩
    · rw [if_neg c6] at h
      refine mx_iload_n (pc := 20) C dX8_tape_20 rfl ?_
      refine mx_if_lt (pc := 21) (tgt := 33) C dX8_tape_21 rfl (fun c7 => ?_) (fun c7 => ?_)
      · rw [if_pos c7] at h
        exact b_X8_tape_33 C p1 p2 p3 q4.2 hOq4 h
      · rw [if_neg c7] at h
        refine mx_iload_n (pc := 24) C dX8_tape_24 rfl ?_
        refine mx_bipush (pc := 25) C dX8_tape_25 (z := 60) rfl (by constructor <;> decide) ?_
        refine mx_icmp_le (pc := 27) (tgt := 33) C dX8_tape_27 rfl (fun c8 => ?_) (fun c8 => ?_)
        · rw [if_pos c8] at h
          exact b_X8_tape_33 C p1 p2 p3 q4.2 hOq4 h
        · rw [if_neg c8] at h
          refine mx_bipush (pc := 30) C dX8_tape_30 (z := (-2)) rfl (by constructor <;> decide) ?_
          rw [← Option.some.inj h]
          exact mx_ireturn (pc := 32) C dX8_tape_32 hOq4 ⟨Nat.le_refl _, Nat.le_refl _⟩
  · rw [if_pos c3] at h
    refine mx_iconst (pc := 8) C dX8_tape_8 (z := (-1)) rfl (by constructor <;> decide) ?_
    rw [← Option.some.inj h]
    exact mx_ireturn (pc := 9) C dX8_tape_9 hOq1 ⟨Nat.le_refl _, Nat.le_refl _⟩

def f_X8_narrow (p1 : Int) (p2 : Int) (M : Mem) : Option (Int × Mem) :=
  if p1 = 0 then some (w8 (w32 p2), M) else if p1 = 1 then some (w16 (w32 p2), M) else if p1 = 2 then some (w32 p2, M) else if p1 = 4 then if cmp64 p2 0 = 0 then some (0, M) else some (1, M) else some (p2, M)
set_option maxRecDepth 20000 in
set_option maxHeartbeats 4000000 in
theorem m_X8_narrow {p1 : Int} {p2 : Int} {M : Mem} {res : Int × Mem} (hOM : OK M) (h : f_X8_narrow p1 p2 M = some res) : Mth false yX8_narrow cX8_narrow 4 (some .long) 1 0 0 SH [aR 127, aI p1, aJ p2] M (some (aJ res.1)) SH res.2 (OK res.2) := by
  refine Mth.of (by decide +kernel) (Nat.le_of_ble_eq_true rfl) (fun K B C => ?_)
  show Wx K B _ 0 0 SH 4 M 0 [some (aR 127), some (aI p1), some (aJ p2), none] []
  unfold f_X8_narrow at h
  refine mx_iload_n (pc := 0) C dX8_narrow_0 rfl ?_
  refine mx_if_ne (pc := 1) (tgt := 11) C dX8_narrow_1 rfl (fun c1 => ?_) (fun c1 => ?_)
  · rw [if_neg c1] at h
    refine mx_iload_n (pc := 11) C dX8_narrow_11 rfl ?_
    refine mx_iconst (pc := 12) C dX8_narrow_12 (z := 1) rfl (by constructor <;> decide) ?_
    refine mx_icmp_ne (pc := 13) (tgt := 23) C dX8_narrow_13 rfl (fun c2 => ?_) (fun c2 => ?_)
    · rw [if_neg c2] at h
      refine mx_iload_n (pc := 23) C dX8_narrow_23 rfl ?_
      refine mx_iconst (pc := 24) C dX8_narrow_24 (z := 2) rfl (by constructor <;> decide) ?_
      refine mx_icmp_ne (pc := 25) (tgt := 34) C dX8_narrow_25 rfl (fun c3 => ?_) (fun c3 => ?_)
      · rw [if_neg c3] at h
        refine mx_iload_n (pc := 34) C dX8_narrow_34 rfl ?_
        refine mx_iconst (pc := 35) C dX8_narrow_35 (z := 4) rfl (by constructor <;> decide) ?_
        refine mx_icmp_ne (pc := 36) (tgt := 53) C dX8_narrow_36 rfl (fun c4 => ?_) (fun c4 => ?_)
        · rw [if_neg c4] at h
          refine mx_lload_n (pc := 53) C dX8_narrow_53 rfl ?_
          rw [← Option.some.inj h]
          exact mx_lreturn (pc := 54) C dX8_narrow_54 hOM ⟨Nat.le_refl _, Nat.le_refl _⟩
        · rw [if_pos c4] at h
          refine mx_lload_n (pc := 39) C dX8_narrow_39 rfl ?_
          refine mx_lconst (pc := 40) C dX8_narrow_40 (z := 0) rfl (by constructor <;> decide) ?_
          refine mx_lcmp (pc := 41) C dX8_narrow_41  ?_
          refine mx_if_eq (pc := 42) (tgt := 49) C dX8_narrow_42 rfl (fun c5 => ?_) (fun c5 => ?_)
          · rw [if_pos c5] at h
            refine mx_lconst (pc := 49) C dX8_narrow_49 (z := 0) rfl (by constructor <;> decide) ?_
            refine mx_goto (pc := 50) (tgt := 54) C dX8_narrow_50 rfl ?_
            rw [← Option.some.inj h]
            exact mx_lreturn (pc := 54) C dX8_narrow_54 hOM ⟨Nat.le_refl _, Nat.le_refl _⟩
          · rw [if_neg c5] at h
            refine mx_lconst (pc := 45) C dX8_narrow_45 (z := 1) rfl (by constructor <;> decide) ?_
            refine mx_goto (pc := 46) (tgt := 54) C dX8_narrow_46 rfl ?_
            rw [← Option.some.inj h]
            exact mx_lreturn (pc := 54) C dX8_narrow_54 hOM ⟨Nat.le_refl _, Nat.le_refl _⟩
      · rw [if_pos c3] at h
        refine mx_lload_n (pc := 28) C dX8_narrow_28 rfl ?_
        refine mx_l2i (pc := 29) C dX8_narrow_29  ?_
        refine mx_i2l (pc := 30) C dX8_narrow_30  ?_
        refine mx_goto (pc := 31) (tgt := 54) C dX8_narrow_31 rfl ?_
        rw [← Option.some.inj h]
        exact mx_lreturn (pc := 54) C dX8_narrow_54 hOM ⟨Nat.le_refl _, Nat.le_refl _⟩
    · rw [if_pos c2] at h
      refine mx_lload_n (pc := 16) C dX8_narrow_16 rfl ?_
      refine mx_l2i (pc := 17) C dX8_narrow_17  ?_
      refine mx_i2s (pc := 18) C dX8_narrow_18  ?_
      refine mx_i2l (pc := 19) C dX8_narrow_19  ?_
      refine mx_goto (pc := 20) (tgt := 54) C dX8_narrow_20 rfl ?_
      rw [← Option.some.inj h]
      exact mx_lreturn (pc := 54) C dX8_narrow_54 hOM ⟨Nat.le_refl _, Nat.le_refl _⟩
  · rw [if_pos c1] at h
    refine mx_lload_n (pc := 4) C dX8_narrow_4 rfl ?_
    refine mx_l2i (pc := 5) C dX8_narrow_5  ?_
    refine mx_i2b (pc := 6) C dX8_narrow_6  ?_
    refine mx_i2l (pc := 7) C dX8_narrow_7  ?_
    refine mx_goto (pc := 8) (tgt := 54) C dX8_narrow_8 rfl ?_
    rw [← Option.some.inj h]
    exact mx_lreturn (pc := 54) C dX8_narrow_54 hOM ⟨Nat.le_refl _, Nat.le_refl _⟩

def f_X8_item (p1 : Int) (p2 : Int) (p3 : Int) (M : Mem) : Option (Int × Mem) :=
  (f_X8_isTape p1 M).bind (fun q1 => if q1.1 = 0 then some ((-1), q1.2) else if 0 ≤ p1 ∧ p1 < 6 then if 0 ≤ q1.2 168 p1 then if 0 ≤ p1 ∧ p1 < 6 then (f_X8_in p2 0 (w32 ((q1.2 169 p1) - 1)) q1.2).bind (fun q7 => if q7.1 = 0 then some ((-13), q7.2) else if 0 ≤ p1 ∧ p1 < 6 then (f_X8_narrow (q7.2 168 p1) p3 q7.2).bind (fun q11 => if 0 ≤ w32 ((w32 (60 * p1)) + p2) ∧ w32 ((w32 (60 * p1)) + p2) < 360 then lt (stM q11.2 170 (w32 ((w32 (60 * p1)) + p2)) q11.1) (fun M14 => some (1, M14)) else none) else none) else none else some ((-11), q1.2) else none)
set_option maxRecDepth 20000 in
set_option maxHeartbeats 4000000 in
theorem m_X8_item {p1 : Int} {p2 : Int} {p3 : Int} {M : Mem} {res : Int × Mem} (hOM : OK M) (h : f_X8_item p1 p2 p3 M = some res) : Mth false yX8_item cX8_item 5 (some .int) 3 0 0 SH [aR 127, aI p1, aI p2, aJ p3] M (some (aI res.1)) SH res.2 (OK res.2) := by
  refine Mth.of (by decide +kernel) (Nat.le_of_ble_eq_true rfl) (fun K B C => ?_)
  show Wx K B _ 0 0 SH 5 M 0 [some (aR 127), some (aI p1), some (aI p2), some (aJ p3), none] []
  unfold f_X8_item at h
  refine mx_aload_n (pc := 0) C dX8_item_0 rfl ?_
  refine mx_iload_n (pc := 1) C dX8_item_1 rfl ?_
  obtain ⟨q1, hq1, h⟩ := of_bd h
  refine mc_V (pc := 2) (as := [aI p1]) (rest := []) (stk2 := [aI q1.1]) C ⟨Nat.le_refl _, Nat.le_refl _⟩ (m_X8_isTape hOM hq1) mi_X8_isTape mv_X8_isTape ml_X8_406 ci_8 rfl so_8 (by omega) rfl (Nat.le_of_ble_eq_true rfl) dX8_item_2 rfl (fun hp2 => ?_)
  have hOq1 : OK q1.2 := hp2.1
  refine mx_if_ne (pc := 5) (tgt := 10) C dX8_item_5 rfl (fun c3 => ?_) (fun c3 => ?_)
  · rw [if_neg c3] at h
    refine mx_aload_n (pc := 10) C dX8_item_10 rfl ?_
    refine mx_getR (pc := 11) (v := 168) C dX8_item_11 so_8 ci_8 (k := 64) (by decide) fl_X8_205 rfl (q := 64) rfl (lay_8_64 hOq1) (by decide) ?_
    refine mx_iload_n (pc := 14) C dX8_item_14 rfl ?_
    obtain ⟨g4, h⟩ := of_gd h
    refine mx_iald (pc := 15) C dX8_item_15 sh_8_64 g4.1 g4.2 ?_
    refine mx_if_ge (pc := 16) (tgt := 22) C dX8_item_16 rfl (fun c5 => ?_) (fun c5 => ?_)
    · rw [if_pos c5] at h
      refine mx_aload_n (pc := 22) C dX8_item_22 rfl ?_
      refine mx_iload_n (pc := 23) C dX8_item_23 rfl ?_
      refine mx_iconst (pc := 24) C dX8_item_24 (z := 0) rfl (by constructor <;> decide) ?_
      refine mx_aload_n (pc := 25) C dX8_item_25 rfl ?_
      refine mx_getR (pc := 26) (v := 169) C dX8_item_26 so_8 ci_8 (k := 65) (by decide) fl_X8_208 rfl (q := 65) rfl (lay_8_65 hOq1) (by decide) ?_
      refine mx_iload_n (pc := 29) C dX8_item_29 rfl ?_
      obtain ⟨g6, h⟩ := of_gd h
      refine mx_iald (pc := 30) C dX8_item_30 sh_8_65 g6.1 g6.2 ?_
      refine mx_iconst (pc := 31) C dX8_item_31 (z := 1) rfl (by constructor <;> decide) ?_
      refine mx_isub (pc := 32) C dX8_item_32  ?_
      obtain ⟨q7, hq7, h⟩ := of_bd h
      refine mc_V (pc := 33) (as := [aI p2, aI 0, aI (w32 ((q1.2 169 p1) - 1))]) (rest := []) (stk2 := [aI q7.1]) C ⟨Nat.le_refl _, Nat.le_refl _⟩ (m_X8_in hOq1 hq7) mi_X8_in mv_X8_in ml_X8_218 ci_8 rfl so_8 (by omega) rfl (Nat.le_of_ble_eq_true rfl) dX8_item_33 rfl (fun hp8 => ?_)
      have hOq7 : OK q7.2 := hp8.1
      refine mx_if_ne (pc := 36) (tgt := 42) C dX8_item_36 rfl (fun c9 => ?_) (fun c9 => ?_)
      · rw [if_neg c9] at h
        refine mx_aload_n (pc := 42) C dX8_item_42 rfl ?_
        refine mx_getR (pc := 43) (v := 170) C dX8_item_43 so_8 ci_8 (k := 66) (by decide) fl_X8_211 rfl (q := 66) rfl (lay_8_66 hOq7) (by decide) ?_
        refine mx_bipush (pc := 46) C dX8_item_46 (z := 60) rfl (by constructor <;> decide) ?_
        refine mx_iload_n (pc := 48) C dX8_item_48 rfl ?_
        refine mx_imul (pc := 49) C dX8_item_49  ?_
        refine mx_iload_n (pc := 50) C dX8_item_50 rfl ?_
        refine mx_iadd (pc := 51) C dX8_item_51  ?_
        refine mx_aload_n (pc := 52) C dX8_item_52 rfl ?_
        refine mx_aload_n (pc := 53) C dX8_item_53 rfl ?_
        refine mx_getR (pc := 54) (v := 168) C dX8_item_54 so_8 ci_8 (k := 64) (by decide) fl_X8_205 rfl (q := 64) rfl (lay_8_64 hOq7) (by decide) ?_
        refine mx_iload_n (pc := 57) C dX8_item_57 rfl ?_
        obtain ⟨g10, h⟩ := of_gd h
        refine mx_iald (pc := 58) C dX8_item_58 sh_8_64 g10.1 g10.2 ?_
        refine mx_lload_n (pc := 59) C dX8_item_59 rfl ?_
        obtain ⟨q11, hq11, h⟩ := of_bd h
        refine mc_V (pc := 60) (as := [aI (q7.2 168 p1), aJ p3]) (rest := [aI (w32 ((w32 (60 * p1)) + p2)), aR 170]) (stk2 := [aJ q11.1, aI (w32 ((w32 (60 * p1)) + p2)), aR 170]) C ⟨Nat.le_refl _, Nat.le_refl _⟩ (m_X8_narrow hOq7 hq11) mi_X8_narrow mv_X8_narrow ml_X8_433 ci_8 rfl so_8 (by omega) rfl (Nat.le_of_ble_eq_true rfl) dX8_item_60 rfl (fun hp12 => ?_)
        have hOq11 : OK q11.2 := hp12
        obtain ⟨g13, h⟩ := of_gd h
        refine mx_last (pc := 63) C dX8_item_63 sh_8_66 g13.1 g13.2 ?_
        generalize hmM14 : stM q11.2 170 (w32 ((w32 (60 * p1)) + p2)) q11.1 = M14 at h ⊢
        replace h := lt_e h
        have hOM14 : OK M14 := by rw [← hmM14]; exact ok_arr hOq11 sh_8_66 (by decide)
        refine mx_iconst (pc := 64) C dX8_item_64 (z := 1) rfl (by constructor <;> decide) ?_
        rw [← Option.some.inj h]
        exact mx_ireturn (pc := 65) C dX8_item_65 hOM14 ⟨Nat.le_refl _, Nat.le_refl _⟩
      · rw [if_pos c9] at h
        refine mx_bipush (pc := 39) C dX8_item_39 (z := (-13)) rfl (by constructor <;> decide) ?_
        rw [← Option.some.inj h]
        exact mx_ireturn (pc := 41) C dX8_item_41 hOq7 ⟨Nat.le_refl _, Nat.le_refl _⟩
    · rw [if_neg c5] at h
      refine mx_bipush (pc := 19) C dX8_item_19 (z := (-11)) rfl (by constructor <;> decide) ?_
      rw [← Option.some.inj h]
      exact mx_ireturn (pc := 21) C dX8_item_21 hOq1 ⟨Nat.le_refl _, Nat.le_refl _⟩
  · rw [if_pos c3] at h
    refine mx_iconst (pc := 8) C dX8_item_8 (z := (-1)) rfl (by constructor <;> decide) ?_
    rw [← Option.some.inj h]
    exact mx_ireturn (pc := 9) C dX8_item_9 hOq1 ⟨Nat.le_refl _, Nat.le_refl _⟩

def f_X8_read (p1 : Int) (p2 : Int) (M : Mem) : Option (Int × Mem) :=
  (f_X8_isTape p1 M).bind (fun q1 => if q1.1 = 0 then some ((-9223372036854775808), q1.2) else if 0 ≤ p1 ∧ p1 < 6 then if q1.2 168 p1 < 0 then some ((-9223372036854775808), q1.2) else if 0 ≤ p1 ∧ p1 < 6 then (f_X8_in p2 0 (w32 ((q1.2 169 p1) - 1)) q1.2).bind (fun q7 => if q7.1 = 0 then some ((-9223372036854775808), q7.2) else if 0 ≤ w32 ((w32 (60 * p1)) + p2) ∧ w32 ((w32 (60 * p1)) + p2) < 360 then some (q7.2 170 (w32 ((w32 (60 * p1)) + p2)), q7.2) else none) else none else none)
set_option maxRecDepth 20000 in
set_option maxHeartbeats 4000000 in
theorem m_X8_read {p1 : Int} {p2 : Int} {M : Mem} {res : Int × Mem} (hOM : OK M) (h : f_X8_read p1 p2 M = some res) : Mth false yX8_read cX8_read 3 (some .long) 3 0 0 SH [aR 127, aI p1, aI p2] M (some (aJ res.1)) SH res.2 (OK res.2) := by
  refine Mth.of (by decide +kernel) (Nat.le_of_ble_eq_true rfl) (fun K B C => ?_)
  show Wx K B _ 0 0 SH 3 M 0 [some (aR 127), some (aI p1), some (aI p2)] []
  unfold f_X8_read at h
  refine mx_aload_n (pc := 0) C dX8_read_0 rfl ?_
  refine mx_iload_n (pc := 1) C dX8_read_1 rfl ?_
  obtain ⟨q1, hq1, h⟩ := of_bd h
  refine mc_V (pc := 2) (as := [aI p1]) (rest := []) (stk2 := [aI q1.1]) C ⟨Nat.le_refl _, Nat.le_refl _⟩ (m_X8_isTape hOM hq1) mi_X8_isTape mv_X8_isTape ml_X8_406 ci_8 rfl so_8 (by omega) rfl (Nat.le_of_ble_eq_true rfl) dX8_read_2 rfl (fun hp2 => ?_)
  have hOq1 : OK q1.2 := hp2.1
  refine mx_if_eq (pc := 5) (tgt := 34) C dX8_read_5 rfl (fun c3 => ?_) (fun c3 => ?_)
  · rw [if_pos c3] at h
    refine mx_ldc2 (pc := 34) C dX8_read_34 kl_X8_397 (by constructor <;> decide) ?_
    refine mx_goto (pc := 37) (tgt := 51) C dX8_read_37 rfl ?_
    rw [← Option.some.inj h]
    exact mx_lreturn (pc := 51) C dX8_read_51 hOq1 ⟨Nat.le_refl _, Nat.le_refl _⟩
  · rw [if_neg c3] at h
    refine mx_aload_n (pc := 8) C dX8_read_8 rfl ?_
    refine mx_getR (pc := 9) (v := 168) C dX8_read_9 so_8 ci_8 (k := 64) (by decide) fl_X8_205 rfl (q := 64) rfl (lay_8_64 hOq1) (by decide) ?_
    refine mx_iload_n (pc := 12) C dX8_read_12 rfl ?_
    obtain ⟨g4, h⟩ := of_gd h
    refine mx_iald (pc := 13) C dX8_read_13 sh_8_64 g4.1 g4.2 ?_
    refine mx_if_lt (pc := 14) (tgt := 34) C dX8_read_14 rfl (fun c5 => ?_) (fun c5 => ?_)
    · rw [if_pos c5] at h
      refine mx_ldc2 (pc := 34) C dX8_read_34 kl_X8_397 (by constructor <;> decide) ?_
      refine mx_goto (pc := 37) (tgt := 51) C dX8_read_37 rfl ?_
      rw [← Option.some.inj h]
      exact mx_lreturn (pc := 51) C dX8_read_51 hOq1 ⟨Nat.le_refl _, Nat.le_refl _⟩
    · rw [if_neg c5] at h
      refine mx_aload_n (pc := 17) C dX8_read_17 rfl ?_
      refine mx_iload_n (pc := 18) C dX8_read_18 rfl ?_
      refine mx_iconst (pc := 19) C dX8_read_19 (z := 0) rfl (by constructor <;> decide) ?_
      refine mx_aload_n (pc := 20) C dX8_read_20 rfl ?_
      refine mx_getR (pc := 21) (v := 169) C dX8_read_21 so_8 ci_8 (k := 65) (by decide) fl_X8_208 rfl (q := 65) rfl (lay_8_65 hOq1) (by decide) ?_
      refine mx_iload_n (pc := 24) C dX8_read_24 rfl ?_
      obtain ⟨g6, h⟩ := of_gd h
      refine mx_iald (pc := 25) C dX8_read_25 sh_8_65 g6.1 g6.2 ?_
      refine mx_iconst (pc := 26) C dX8_read_26 (z := 1) rfl (by constructor <;> decide) ?_
      refine mx_isub (pc := 27) C dX8_read_27  ?_
      obtain ⟨q7, hq7, h⟩ := of_bd h
      refine mc_V (pc := 28) (as := [aI p2, aI 0, aI (w32 ((q1.2 169 p1) - 1))]) (rest := []) (stk2 := [aI q7.1]) C ⟨Nat.le_refl _, Nat.le_refl _⟩ (m_X8_in hOq1 hq7) mi_X8_in mv_X8_in ml_X8_218 ci_8 rfl so_8 (by omega) rfl (Nat.le_of_ble_eq_true rfl) dX8_read_28 rfl (fun hp8 => ?_)
      have hOq7 : OK q7.2 := hp8.1
      refine mx_if_ne (pc := 31) (tgt := 40) C dX8_read_31 rfl (fun c9 => ?_) (fun c9 => ?_)
      · rw [if_neg c9] at h
        refine mx_aload_n (pc := 40) C dX8_read_40 rfl ?_
        refine mx_getR (pc := 41) (v := 170) C dX8_read_41 so_8 ci_8 (k := 66) (by decide) fl_X8_211 rfl (q := 66) rfl (lay_8_66 hOq7) (by decide) ?_
        refine mx_bipush (pc := 44) C dX8_read_44 (z := 60) rfl (by constructor <;> decide) ?_
        refine mx_iload_n (pc := 46) C dX8_read_46 rfl ?_
        refine mx_imul (pc := 47) C dX8_read_47  ?_
        refine mx_iload_n (pc := 48) C dX8_read_48 rfl ?_
        refine mx_iadd (pc := 49) C dX8_read_49  ?_
        obtain ⟨g10, h⟩ := of_gd h
        refine mx_lald (pc := 50) C dX8_read_50 sh_8_66 g10.1 g10.2 ?_
        rw [← Option.some.inj h]
        exact mx_lreturn (pc := 51) C dX8_read_51 hOq7 ⟨Nat.le_refl _, Nat.le_refl _⟩
      · rw [if_pos c9] at h
        refine mx_ldc2 (pc := 34) C dX8_read_34 kl_X8_397 (by constructor <;> decide) ?_
        refine mx_goto (pc := 37) (tgt := 51) C dX8_read_37 rfl ?_
        rw [← Option.some.inj h]
        exact mx_lreturn (pc := 51) C dX8_read_51 hOq7 ⟨Nat.le_refl _, Nat.le_refl _⟩

def f_X8_shift_141 (p1 : Int) (p2 : Int) (p3 : Int) (p4 : Int) (p5 : Int) : Nat → Int → Int → Int → Int → Mem → Option (Int × Mem)
  | 0, _, _, _, _, _ => none
  | n + 1, x3, x4, x5, x6, M => if x5 ≤ x6 then some (x5, M) else if 0 ≤ x6 ∧ x6 < 60 then if 0 ≤ w32 ((w32 ((w32 (60 * x3)) + x4)) + x6) ∧ w32 ((w32 ((w32 (60 * x3)) + x4)) + x6) < 360 then lt (stM M 170 (w32 ((w32 ((w32 (60 * x3)) + x4)) + x6)) (M 171 x6)) (fun M4 => f_X8_shift_141 p1 p2 p3 p4 p5 n x3 x4 x5 (w32 (x6 + 1)) M4) else none else none
def f_X8_shift_104 (p1 : Int) (p2 : Int) (p3 : Int) (p4 : Int) (p5 : Int) : Nat → Int → Int → Int → Int → Int → Int → Mem → Option (Int × Mem)
  | 0, _, _, _, _, _, _, _ => none
  | n + 1, x1, x2, x3, x4, x5, x6, M => if x5 ≤ x6 then f_X8_shift_141 p1 p2 p3 p4 p5 FU x3 x4 x5 0 M else if 0 ≤ w32 ((w32 ((w32 (60 * x1)) + x2)) + x6) ∧ w32 ((w32 ((w32 (60 * x1)) + x2)) + x6) < 360 then if 0 ≤ x6 ∧ x6 < 60 then lt (stM M 171 x6 (M 170 (w32 ((w32 ((w32 (60 * x1)) + x2)) + x6)))) (fun M4 => f_X8_shift_104 p1 p2 p3 p4 p5 n x1 x2 x3 x4 x5 (w32 (x6 + 1)) M4) else none else none
def f_X8_shift (p1 : Int) (p2 : Int) (p3 : Int) (p4 : Int) (p5 : Int) (M : Mem) : Option (Int × Mem) :=
  (f_X8_isTape p1 M).bind (fun q1 => if q1.1 = 0 then some ((-1), q1.2) else (f_X8_isTape p3 q1.2).bind (fun q4 => if q4.1 = 0 then some ((-1), q4.2) else if 0 ≤ p1 ∧ p1 < 6 then if q4.2 168 p1 < 0 then some ((-11), q4.2) else if 0 ≤ p3 ∧ p3 < 6 then if 0 ≤ q4.2 168 p3 then if 0 ≤ p1 ∧ p1 < 6 then if 0 ≤ p3 ∧ p3 < 6 then if q4.2 168 p1 = q4.2 168 p3 then if p5 < 0 then some ((-13), q4.2) else if p2 < 0 then some ((-13), q4.2) else if p4 < 0 then some ((-13), q4.2) else if 0 ≤ p1 ∧ p1 < 6 then if w32 ((q4.2 169 p1) - p5) < p2 then some ((-13), q4.2) else if 0 ≤ p3 ∧ p3 < 6 then if p4 ≤ w32 ((q4.2 169 p3) - p5) then f_X8_shift_104 p1 p2 p3 p4 p5 FU p1 p2 p3 p4 p5 0 q4.2 else some ((-13), q4.2) else none else none else some ((-12), q4.2) else none else none else some ((-11), q4.2) else none else none))
set_option maxRecDepth 20000 in
set_option maxHeartbeats 4000000 in
theorem b_X8_shift_141 {K : KX} {B : BX} {res : Int × Mem} {p1 : Int} {p2 : Int} {p3 : Int} {p4 : Int} {p5 : Int} (C : Cx K B false yX8_shift cX8_shift 7 (some .int) 3 0 0) : ∀ (n : Nat) (x3 : Int) (x4 : Int) (x5 : Int) (x6 : Int) (M : Mem), OK M → f_X8_shift_141 p1 p2 p3 p4 p5 n x3 x4 x5 x6 M = some res → Wx K B (Zr K B (some (aI res.1)) SH res.2 (OK res.2) 0 0) 0 0 SH 7 M 141 [some (aR 127), none, none, some (aI x3), some (aI x4), some (aI x5), some (aI x6)] [] := by
  intro n
  induction n with
  | zero =>
    intro x3 x4 x5 x6 M hOM h
    cases h
  | succ n ih =>
    intro x3 x4 x5 x6 M hOM h
    rw [f_X8_shift_141.eq_2] at h
    refine mx_iload (pc := 141) C dX8_shift_141 rfl ?_
    refine mx_iload (pc := 143) C dX8_shift_143 rfl ?_
    refine mx_icmp_ge (pc := 145) (tgt := 176) C dX8_shift_145 rfl (fun c1 => ?_) (fun c1 => ?_)
    · rw [if_pos c1] at h
      refine mx_iload (pc := 176) C dX8_shift_176 rfl ?_
      rw [← Option.some.inj h]
      exact mx_ireturn (pc := 178) C dX8_shift_178 hOM ⟨Nat.le_refl _, Nat.le_refl _⟩
    · rw [if_neg c1] at h
      refine mx_aload_n (pc := 148) C dX8_shift_148 rfl ?_
      refine mx_getR (pc := 149) (v := 170) C dX8_shift_149 so_8 ci_8 (k := 66) (by decide) fl_X8_211 rfl (q := 66) rfl (lay_8_66 hOM) (by decide) ?_
      refine mx_bipush (pc := 152) C dX8_shift_152 (z := 60) rfl (by constructor <;> decide) ?_
      refine mx_iload_n (pc := 154) C dX8_shift_154 rfl ?_
      refine mx_imul (pc := 155) C dX8_shift_155  ?_
      refine mx_iload (pc := 156) C dX8_shift_156 rfl ?_
      refine mx_iadd (pc := 158) C dX8_shift_158  ?_
      refine mx_iload (pc := 159) C dX8_shift_159 rfl ?_
      refine mx_iadd (pc := 161) C dX8_shift_161  ?_
      refine mx_aload_n (pc := 162) C dX8_shift_162 rfl ?_
      refine mx_getR (pc := 163) (v := 171) C dX8_shift_163 so_8 ci_8 (k := 67) (by decide) fl_X8_215 rfl (q := 67) rfl (lay_8_67 hOM) (by decide) ?_
      refine mx_iload (pc := 166) C dX8_shift_166 rfl ?_
      obtain ⟨g2, h⟩ := of_gd h
      refine mx_lald (pc := 168) C dX8_shift_168 sh_8_67 g2.1 g2.2 ?_
      obtain ⟨g3, h⟩ := of_gd h
      refine mx_last (pc := 169) C dX8_shift_169 sh_8_66 g3.1 g3.2 ?_
      generalize hmM4 : stM M 170 (w32 ((w32 ((w32 (60 * x3)) + x4)) + x6)) (M 171 x6) = M4 at h ⊢
      replace h := lt_e h
      have hOM4 : OK M4 := by rw [← hmM4]; exact ok_arr hOM sh_8_66 (by decide)
      refine mx_iinc (pc := 170) C dX8_shift_170 (ls' := [some (aR 127), none, none, some (aI x3), some (aI x4), some (aI x5), some (aI (w32 (x6 + 1)))]) rfl (by decide) rfl (by constructor <;> decide) rfl rfl ?_
      refine mx_goto (pc := 173) (tgt := 141) C dX8_shift_173 rfl ?_
      exact ih x3 x4 x5 (w32 (x6 + 1)) M4 hOM4 h
set_option maxRecDepth 20000 in
set_option maxHeartbeats 4000000 in
theorem b_X8_shift_104 {K : KX} {B : BX} {res : Int × Mem} {p1 : Int} {p2 : Int} {p3 : Int} {p4 : Int} {p5 : Int} (C : Cx K B false yX8_shift cX8_shift 7 (some .int) 3 0 0) : ∀ (n : Nat) (x1 : Int) (x2 : Int) (x3 : Int) (x4 : Int) (x5 : Int) (x6 : Int) (M : Mem), OK M → f_X8_shift_104 p1 p2 p3 p4 p5 n x1 x2 x3 x4 x5 x6 M = some res → Wx K B (Zr K B (some (aI res.1)) SH res.2 (OK res.2) 0 0) 0 0 SH 7 M 104 [some (aR 127), some (aI x1), some (aI x2), some (aI x3), some (aI x4), some (aI x5), some (aI x6)] [] := by
  intro n
  induction n with
  | zero =>
    intro x1 x2 x3 x4 x5 x6 M hOM h
    cases h
  | succ n ih =>
    intro x1 x2 x3 x4 x5 x6 M hOM h
    rw [f_X8_shift_104.eq_2] at h
    refine mx_iload (pc := 104) C dX8_shift_104 rfl ?_
    refine mx_iload (pc := 106) C dX8_shift_106 rfl ?_
    refine mx_icmp_ge (pc := 108) (tgt := 138) C dX8_shift_108 rfl (fun c1 => ?_) (fun c1 => ?_)
    · rw [if_pos c1] at h
      refine mx_iconst (pc := 138) C dX8_shift_138 (z := 0) rfl (by constructor <;> decide) ?_
      refine mx_istore (pc := 139) C dX8_shift_139 (ls' := [some (aR 127), some (aI x1), some (aI x2), some (aI x3), some (aI x4), some (aI x5), some (aI 0)]) (by decide) rfl rfl ?_
      refine mx_mask [true, false, false, true, true, true, true] (ls' := [some (aR 127), none, none, some (aI x3), some (aI x4), some (aI x5), some (aI 0)]) rfl rfl ?_
      exact b_X8_shift_141 C FU x3 x4 x5 0 M hOM h
    · rw [if_neg c1] at h
      refine mx_aload_n (pc := 111) C dX8_shift_111 rfl ?_
      refine mx_getR (pc := 112) (v := 171) C dX8_shift_112 so_8 ci_8 (k := 67) (by decide) fl_X8_215 rfl (q := 67) rfl (lay_8_67 hOM) (by decide) ?_
      refine mx_iload (pc := 115) C dX8_shift_115 rfl ?_
      refine mx_aload_n (pc := 117) C dX8_shift_117 rfl ?_
      refine mx_getR (pc := 118) (v := 170) C dX8_shift_118 so_8 ci_8 (k := 66) (by decide) fl_X8_211 rfl (q := 66) rfl (lay_8_66 hOM) (by decide) ?_
      refine mx_bipush (pc := 121) C dX8_shift_121 (z := 60) rfl (by constructor <;> decide) ?_
      refine mx_iload_n (pc := 123) C dX8_shift_123 rfl ?_
      refine mx_imul (pc := 124) C dX8_shift_124  ?_
      refine mx_iload_n (pc := 125) C dX8_shift_125 rfl ?_
      refine mx_iadd (pc := 126) C dX8_shift_126  ?_
      refine mx_iload (pc := 127) C dX8_shift_127 rfl ?_
      refine mx_iadd (pc := 129) C dX8_shift_129  ?_
      obtain ⟨g2, h⟩ := of_gd h
      refine mx_lald (pc := 130) C dX8_shift_130 sh_8_66 g2.1 g2.2 ?_
      obtain ⟨g3, h⟩ := of_gd h
      refine mx_last (pc := 131) C dX8_shift_131 sh_8_67 g3.1 g3.2 ?_
      generalize hmM4 : stM M 171 x6 (M 170 (w32 ((w32 ((w32 (60 * x1)) + x2)) + x6))) = M4 at h ⊢
      replace h := lt_e h
      have hOM4 : OK M4 := by rw [← hmM4]; exact ok_arr hOM sh_8_67 (by decide)
      refine mx_iinc (pc := 132) C dX8_shift_132 (ls' := [some (aR 127), some (aI x1), some (aI x2), some (aI x3), some (aI x4), some (aI x5), some (aI (w32 (x6 + 1)))]) rfl (by decide) rfl (by constructor <;> decide) rfl rfl ?_
      refine mx_goto (pc := 135) (tgt := 104) C dX8_shift_135 rfl ?_
      exact ih x1 x2 x3 x4 x5 (w32 (x6 + 1)) M4 hOM4 h
set_option maxRecDepth 20000 in
set_option maxHeartbeats 4000000 in
theorem m_X8_shift {p1 : Int} {p2 : Int} {p3 : Int} {p4 : Int} {p5 : Int} {M : Mem} {res : Int × Mem} (hOM : OK M) (h : f_X8_shift p1 p2 p3 p4 p5 M = some res) : Mth false yX8_shift cX8_shift 7 (some .int) 3 0 0 SH [aR 127, aI p1, aI p2, aI p3, aI p4, aI p5] M (some (aI res.1)) SH res.2 (OK res.2) := by
  refine Mth.of (by decide +kernel) (Nat.le_of_ble_eq_true rfl) (fun K B C => ?_)
  show Wx K B _ 0 0 SH 7 M 0 [some (aR 127), some (aI p1), some (aI p2), some (aI p3), some (aI p4), some (aI p5), none] []
  unfold f_X8_shift at h
  refine mx_aload_n (pc := 0) C dX8_shift_0 rfl ?_
  refine mx_iload_n (pc := 1) C dX8_shift_1 rfl ?_
  obtain ⟨q1, hq1, h⟩ := of_bd h
  refine mc_V (pc := 2) (as := [aI p1]) (rest := []) (stk2 := [aI q1.1]) C ⟨Nat.le_refl _, Nat.le_refl _⟩ (m_X8_isTape hOM hq1) mi_X8_isTape mv_X8_isTape ml_X8_406 ci_8 rfl so_8 (by omega) rfl (Nat.le_of_ble_eq_true rfl) dX8_shift_2 rfl (fun hp2 => ?_)
  have hOq1 : OK q1.2 := hp2.1
  refine mx_if_eq (pc := 5) (tgt := 16) C dX8_shift_5 rfl (fun c3 => ?_) (fun c3 => ?_)
  · rw [if_pos c3] at h
    refine mx_iconst (pc := 16) C dX8_shift_16 (z := (-1)) rfl (by constructor <;> decide) ?_
    rw [← Option.some.inj h]
    exact mx_ireturn (pc := 17) C dX8_shift_17 hOq1 ⟨Nat.le_refl _, Nat.le_refl _⟩
  · rw [if_neg c3] at h
    refine mx_aload_n (pc := 8) C dX8_shift_8 rfl ?_
    refine mx_iload_n (pc := 9) C dX8_shift_9 rfl ?_
    obtain ⟨q4, hq4, h⟩ := of_bd h
    refine mc_V (pc := 10) (as := [aI p3]) (rest := []) (stk2 := [aI q4.1]) C ⟨Nat.le_refl _, Nat.le_refl _⟩ (m_X8_isTape hOq1 hq4) mi_X8_isTape mv_X8_isTape ml_X8_406 ci_8 rfl so_8 (by omega) rfl (Nat.le_of_ble_eq_true rfl) dX8_shift_10 rfl (fun hp5 => ?_)
    have hOq4 : OK q4.2 := hp5.1
    refine mx_if_ne (pc := 13) (tgt := 18) C dX8_shift_13 rfl (fun c6 => ?_) (fun c6 => ?_)
    · rw [if_neg c6] at h
      refine mx_aload_n (pc := 18) C dX8_shift_18 rfl ?_
      refine mx_getR (pc := 19) (v := 168) C dX8_shift_19 so_8 ci_8 (k := 64) (by decide) fl_X8_205 rfl (q := 64) rfl (lay_8_64 hOq4) (by decide) ?_
      refine mx_iload_n (pc := 22) C dX8_shift_22 rfl ?_
      obtain ⟨g7, h⟩ := of_gd h
      refine mx_iald (pc := 23) C dX8_shift_23 sh_8_64 g7.1 g7.2 ?_
      refine mx_if_lt (pc := 24) (tgt := 36) C dX8_shift_24 rfl (fun c8 => ?_) (fun c8 => ?_)
      · rw [if_pos c8] at h
        refine mx_bipush (pc := 36) C dX8_shift_36 (z := (-11)) rfl (by constructor <;> decide) ?_
        rw [← Option.some.inj h]
        exact mx_ireturn (pc := 38) C dX8_shift_38 hOq4 ⟨Nat.le_refl _, Nat.le_refl _⟩
      · rw [if_neg c8] at h
        refine mx_aload_n (pc := 27) C dX8_shift_27 rfl ?_
        refine mx_getR (pc := 28) (v := 168) C dX8_shift_28 so_8 ci_8 (k := 64) (by decide) fl_X8_205 rfl (q := 64) rfl (lay_8_64 hOq4) (by decide) ?_
        refine mx_iload_n (pc := 31) C dX8_shift_31 rfl ?_
        obtain ⟨g9, h⟩ := of_gd h
        refine mx_iald (pc := 32) C dX8_shift_32 sh_8_64 g9.1 g9.2 ?_
        refine mx_if_ge (pc := 33) (tgt := 39) C dX8_shift_33 rfl (fun c10 => ?_) (fun c10 => ?_)
        · rw [if_pos c10] at h
          refine mx_aload_n (pc := 39) C dX8_shift_39 rfl ?_
          refine mx_getR (pc := 40) (v := 168) C dX8_shift_40 so_8 ci_8 (k := 64) (by decide) fl_X8_205 rfl (q := 64) rfl (lay_8_64 hOq4) (by decide) ?_
          refine mx_iload_n (pc := 43) C dX8_shift_43 rfl ?_
          obtain ⟨g11, h⟩ := of_gd h
          refine mx_iald (pc := 44) C dX8_shift_44 sh_8_64 g11.1 g11.2 ?_
          refine mx_aload_n (pc := 45) C dX8_shift_45 rfl ?_
          refine mx_getR (pc := 46) (v := 168) C dX8_shift_46 so_8 ci_8 (k := 64) (by decide) fl_X8_205 rfl (q := 64) rfl (lay_8_64 hOq4) (by decide) ?_
          refine mx_iload_n (pc := 49) C dX8_shift_49 rfl ?_
          obtain ⟨g12, h⟩ := of_gd h
          refine mx_iald (pc := 50) C dX8_shift_50 sh_8_64 g12.1 g12.2 ?_
          refine mx_icmp_eq (pc := 51) (tgt := 57) C dX8_shift_51 rfl (fun c13 => ?_) (fun c13 => ?_)
          · rw [if_pos c13] at h
            refine mx_iload (pc := 57) C dX8_shift_57 rfl ?_
            refine mx_if_lt (pc := 59) (tgt := 98) C dX8_shift_59 rfl (fun c14 => ?_) (fun c14 => ?_)
            · rw [if_pos c14] at h
              refine mx_bipush (pc := 98) C dX8_shift_98 (z := (-13)) rfl (by constructor <;> decide) ?_
              rw [← Option.some.inj h]
              exact mx_ireturn (pc := 100) C dX8_shift_100 hOq4 ⟨Nat.le_refl _, Nat.le_refl _⟩
            · rw [if_neg c14] at h
              refine mx_iload_n (pc := 62) C dX8_shift_62 rfl ?_
              refine mx_if_lt (pc := 63) (tgt := 98) C dX8_shift_63 rfl (fun c15 => ?_) (fun c15 => ?_)
              · rw [if_pos c15] at h
                refine mx_bipush (pc := 98) C dX8_shift_98 (z := (-13)) rfl (by constructor <;> decide) ?_
                rw [← Option.some.inj h]
                exact mx_ireturn (pc := 100) C dX8_shift_100 hOq4 ⟨Nat.le_refl _, Nat.le_refl _⟩
              · rw [if_neg c15] at h
                refine mx_iload (pc := 66) C dX8_shift_66 rfl ?_
                refine mx_if_lt (pc := 68) (tgt := 98) C dX8_shift_68 rfl (fun c16 => ?_) (fun c16 => ?_)
                · rw [if_pos c16] at h
                  refine mx_bipush (pc := 98) C dX8_shift_98 (z := (-13)) rfl (by constructor <;> decide) ?_
                  rw [← Option.some.inj h]
                  exact mx_ireturn (pc := 100) C dX8_shift_100 hOq4 ⟨Nat.le_refl _, Nat.le_refl _⟩
                · rw [if_neg c16] at h
                  refine mx_iload_n (pc := 71) C dX8_shift_71 rfl ?_
                  refine mx_aload_n (pc := 72) C dX8_shift_72 rfl ?_
                  refine mx_getR (pc := 73) (v := 169) C dX8_shift_73 so_8 ci_8 (k := 65) (by decide) fl_X8_208 rfl (q := 65) rfl (lay_8_65 hOq4) (by decide) ?_
                  refine mx_iload_n (pc := 76) C dX8_shift_76 rfl ?_
                  obtain ⟨g17, h⟩ := of_gd h
                  refine mx_iald (pc := 77) C dX8_shift_77 sh_8_65 g17.1 g17.2 ?_
                  refine mx_iload (pc := 78) C dX8_shift_78 rfl ?_
                  refine mx_isub (pc := 80) C dX8_shift_80  ?_
                  refine mx_icmp_gt (pc := 81) (tgt := 98) C dX8_shift_81 rfl (fun c18 => ?_) (fun c18 => ?_)
                  · rw [if_pos c18] at h
                    refine mx_bipush (pc := 98) C dX8_shift_98 (z := (-13)) rfl (by constructor <;> decide) ?_
                    rw [← Option.some.inj h]
                    exact mx_ireturn (pc := 100) C dX8_shift_100 hOq4 ⟨Nat.le_refl _, Nat.le_refl _⟩
                  · rw [if_neg c18] at h
                    refine mx_iload (pc := 84) C dX8_shift_84 rfl ?_
                    refine mx_aload_n (pc := 86) C dX8_shift_86 rfl ?_
                    refine mx_getR (pc := 87) (v := 169) C dX8_shift_87 so_8 ci_8 (k := 65) (by decide) fl_X8_208 rfl (q := 65) rfl (lay_8_65 hOq4) (by decide) ?_
                    refine mx_iload_n (pc := 90) C dX8_shift_90 rfl ?_
                    obtain ⟨g19, h⟩ := of_gd h
                    refine mx_iald (pc := 91) C dX8_shift_91 sh_8_65 g19.1 g19.2 ?_
                    refine mx_iload (pc := 92) C dX8_shift_92 rfl ?_
                    refine mx_isub (pc := 94) C dX8_shift_94  ?_
                    refine mx_icmp_le (pc := 95) (tgt := 101) C dX8_shift_95 rfl (fun c20 => ?_) (fun c20 => ?_)
                    · rw [if_pos c20] at h
                      refine mx_iconst (pc := 101) C dX8_shift_101 (z := 0) rfl (by constructor <;> decide) ?_
                      refine mx_istore (pc := 102) C dX8_shift_102 (ls' := [some (aR 127), some (aI p1), some (aI p2), some (aI p3), some (aI p4), some (aI p5), some (aI 0)]) (by decide) rfl rfl ?_
                      exact b_X8_shift_104 C FU p1 p2 p3 p4 p5 0 q4.2 hOq4 h
                    · rw [if_neg c20] at h
                      refine mx_bipush (pc := 98) C dX8_shift_98 (z := (-13)) rfl (by constructor <;> decide) ?_
                      rw [← Option.some.inj h]
                      exact mx_ireturn (pc := 100) C dX8_shift_100 hOq4 ⟨Nat.le_refl _, Nat.le_refl _⟩
          · rw [if_neg c13] at h
            refine mx_bipush (pc := 54) C dX8_shift_54 (z := (-12)) rfl (by constructor <;> decide) ?_
            rw [← Option.some.inj h]
            exact mx_ireturn (pc := 56) C dX8_shift_56 hOq4 ⟨Nat.le_refl _, Nat.le_refl _⟩
        · rw [if_neg c10] at h
          refine mx_bipush (pc := 36) C dX8_shift_36 (z := (-11)) rfl (by constructor <;> decide) ?_
          rw [← Option.some.inj h]
          exact mx_ireturn (pc := 38) C dX8_shift_38 hOq4 ⟨Nat.le_refl _, Nat.le_refl _⟩
    · rw [if_pos c6] at h
      refine mx_iconst (pc := 16) C dX8_shift_16 (z := (-1)) rfl (by constructor <;> decide) ?_
      rw [← Option.some.inj h]
      exact mx_ireturn (pc := 17) C dX8_shift_17 hOq4 ⟨Nat.le_refl _, Nat.le_refl _⟩
