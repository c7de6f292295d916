def f_X6_heardFrom (p1 : Int) (p2 : Int) (p3 : Int) (M : Mem) : Option (Int × Mem) :=
  if p2 = (-1) then some (0, M) else if 0 ≤ w32 ((w32 ((w32 ((w32 (p1 * 5)) + p2)) * 5)) + p3) ∧ w32 ((w32 ((w32 ((w32 (p1 * 5)) + p2)) * 5)) + p3) < 150 then some (M 5 (w32 ((w32 ((w32 ((w32 (p1 * 5)) + p2)) * 5)) + p3)), M) else none
set_option maxRecDepth 20000 in
set_option maxHeartbeats 4000000 in
theorem m_X6_heardFrom {p1 : Int} {p2 : Int} {p3 : Int} {M : Mem} {res : Int × Mem} (hOM : OK M) (h : f_X6_heardFrom p1 p2 p3 M = some res) : Mth false yX6_heardFrom cX6_heardFrom 4 (some .int) 1 0 0 SH [aR 4, aI p1, aI p2, aI p3] M (some (aI res.1)) SH res.2 (OK res.2) := by
  refine Mth.of (by decide +kernel) (Nat.le_of_ble_eq_true rfl) (fun K B C => ?_)
  show Wx K B _ 0 0 SH 4 M 0 [some (aR 4), some (aI p1), some (aI p2), some (aI p3)] []
  unfold f_X6_heardFrom at h
  refine mx_iload_n (pc := 0) C dX6_heardFrom_0 rfl ?_
  refine mx_iconst (pc := 1) C dX6_heardFrom_1 (z := (-1)) rfl (by constructor <;> decide) ?_
  refine mx_icmp_ne (pc := 2) (tgt := 9) C dX6_heardFrom_2 rfl (fun c1 => ?_) (fun c1 => ?_)
  · rw [if_neg c1] at h
    refine mx_aload_n (pc := 9) C dX6_heardFrom_9 rfl ?_
    refine mx_getR (pc := 10) (v := 5) C dX6_heardFrom_10 so_6 ci_6 (k := 2) (by decide) fl_X6_9 rfl (q := 2) rfl (lay_6_2 hOM) (by decide) ?_
    refine mx_iload_n (pc := 13) C dX6_heardFrom_13 rfl ?_
    refine mx_iconst (pc := 14) C dX6_heardFrom_14 (z := 5) rfl (by constructor <;> decide) ?_
    refine mx_imul (pc := 15) C dX6_heardFrom_15  ?_
    refine mx_iload_n (pc := 16) C dX6_heardFrom_16 rfl ?_
    refine mx_iadd (pc := 17) C dX6_heardFrom_17  ?_
    refine mx_iconst (pc := 18) C dX6_heardFrom_18 (z := 5) rfl (by constructor <;> decide) ?_
    refine mx_imul (pc := 19) C dX6_heardFrom_19  ?_
    refine mx_iload_n (pc := 20) C dX6_heardFrom_20 rfl ?_
    refine mx_iadd (pc := 21) C dX6_heardFrom_21  ?_
    obtain ⟨g2, h⟩ := of_gd h
    refine mx_iald (pc := 22) C dX6_heardFrom_22 sh_6_2 g2.1 g2.2 ?_
    rw [← Option.some.inj h]
    exact mx_ireturn (pc := 23) C dX6_heardFrom_23 hOM ⟨Nat.le_refl _, Nat.le_refl _⟩
  · rw [if_pos c1] at h
    refine mx_iconst (pc := 5) C dX6_heardFrom_5 (z := 0) rfl (by constructor <;> decide) ?_
    refine mx_goto (pc := 6) (tgt := 23) C dX6_heardFrom_6 rfl ?_
    rw [← Option.some.inj h]
    exact mx_ireturn (pc := 23) C dX6_heardFrom_23 hOM ⟨Nat.le_refl _, Nat.le_refl _⟩

def f_X6_put_2 (p1 : Int) (p2 : Int) : Nat → Int → Int → Int → Mem → Option (Int × Mem)
  | 0, _, _, _, _ => none
  | n + 1, x1, x2, x3, M => if 5 ≤ x3 then if 0 ≤ x1 ∧ x1 < 6 then lt (stM M 6 x1 x2) (fun M3 => some (0, M3)) else none else if 0 ≤ x3 ∧ x3 < 5 then (f_X6_heardFrom x1 x2 x3 M).bind (fun q5 => if 0 ≤ x1 ∧ x1 < 6 then (f_X6_heardFrom x1 (q5.2 6 x1) x3 q5.2).bind (fun q8 => if 0 ≤ x3 ∧ x3 < 5 then lt (stM q8.2 7 x3 (w32 ((M 7 x3) + (w32 (q5.1 - q8.1))))) (fun M11 => f_X6_put_2 p1 p2 n x1 x2 (w32 (x3 + 1)) M11) else none) else none) else none
def f_X6_put (p1 : Int) (p2 : Int) (M : Mem) : Option (Int × Mem) :=
  f_X6_put_2 p1 p2 FU p1 p2 0 M
set_option maxRecDepth 20000 in
set_option maxHeartbeats 4000000 in
theorem b_X6_put_2 {K : KX} {B : BX} {res : Int × Mem} {p1 : Int} {p2 : Int} (C : Cx K B false yX6_put cX6_put 4 none 2 0 0) : ∀ (n : Nat) (x1 : Int) (x2 : Int) (x3 : Int) (M : Mem), OK M → f_X6_put_2 p1 p2 n x1 x2 x3 M = some res → Wx K B (Zr K B none SH res.2 (OK res.2) 0 0) 0 0 SH 4 M 2 [some (aR 4), some (aI x1), some (aI x2), some (aI x3)] [] := by
  intro n
  induction n with
  | zero =>
    intro x1 x2 x3 M hOM h
    cases h
  | succ n ih =>
    intro x1 x2 x3 M hOM h
    rw [f_X6_put_2.eq_2] at h
    refine mx_iload_n (pc := 2) C dX6_put_2 rfl ?_
    refine mx_iconst (pc := 3) C dX6_put_3 (z := 5) rfl (by constructor <;> decide) ?_
    refine mx_icmp_ge (pc := 4) (tgt := 42) C dX6_put_4 rfl (fun c1 => ?_) (fun c1 => ?_)
    · rw [if_pos c1] at h
      refine mx_aload_n (pc := 42) C dX6_put_42 rfl ?_
      refine mx_getR (pc := 43) (v := 6) C dX6_put_43 so_6 ci_6 (k := 3) (by decide) fl_X6_15 rfl (q := 3) rfl (lay_6_3 hOM) (by decide) ?_
      refine mx_iload_n (pc := 46) C dX6_put_46 rfl ?_
      refine mx_iload_n (pc := 47) C dX6_put_47 rfl ?_
      obtain ⟨g2, h⟩ := of_gd h
      refine mx_iast (pc := 48) C dX6_put_48 sh_6_3 g2.1 g2.2 ?_
      generalize hmM3 : stM M 6 x1 x2 = M3 at h ⊢
      replace h := lt_e h
      have hOM3 : OK M3 := by rw [← hmM3]; exact ok_arr hOM sh_6_3 (by decide)
      rw [← Option.some.inj h]
      exact mx_return (pc := 49) C dX6_put_49 hOM3 ⟨Nat.le_refl _, Nat.le_refl _⟩
    · rw [if_neg c1] at h
      refine mx_aload_n (pc := 7) C dX6_put_7 rfl ?_
      refine mx_getR (pc := 8) (v := 7) C dX6_put_8 so_6 ci_6 (k := 4) (by decide) fl_X6_18 rfl (q := 4) rfl (lay_6_4 hOM) (by decide) ?_
      refine mx_iload_n (pc := 11) C dX6_put_11 rfl ?_
      refine mx_dup2 (pc := 12) C dX6_put_12 rfl rfl ?_
      obtain ⟨g4, h⟩ := of_gd h
      refine mx_iald (pc := 13) C dX6_put_13 sh_6_4 g4.1 g4.2 ?_
      refine mx_aload_n (pc := 14) C dX6_put_14 rfl ?_
      refine mx_iload_n (pc := 15) C dX6_put_15 rfl ?_
      refine mx_iload_n (pc := 16) C dX6_put_16 rfl ?_
      refine mx_iload_n (pc := 17) C dX6_put_17 rfl ?_
      obtain ⟨q5, hq5, h⟩ := of_bd h
      refine mc_V (pc := 18) (as := [aI x1, aI x2, aI x3]) (rest := [aI (M 7 x3), aI x3, aR 7]) (stk2 := [aI q5.1, aI (M 7 x3), aI x3, aR 7]) C ⟨Nat.le_refl _, Nat.le_refl _⟩ (m_X6_heardFrom hOM hq5) mi_X6_heardFrom mv_X6_heardFrom ml_X6_70 ci_6 rfl so_6 (by omega) rfl (Nat.le_of_ble_eq_true rfl) dX6_put_18 rfl (fun hp6 => ?_)
      have hOq5 : OK q5.2 := hp6
      refine mx_aload_n (pc := 21) C dX6_put_21 rfl ?_
      refine mx_iload_n (pc := 22) C dX6_put_22 rfl ?_
      refine mx_aload_n (pc := 23) C dX6_put_23 rfl ?_
      refine mx_getR (pc := 24) (v := 6) C dX6_put_24 so_6 ci_6 (k := 3) (by decide) fl_X6_15 rfl (q := 3) rfl (lay_6_3 hOq5) (by decide) ?_
      refine mx_iload_n (pc := 27) C dX6_put_27 rfl ?_
      obtain ⟨g7, h⟩ := of_gd h
      refine mx_iald (pc := 28) C dX6_put_28 sh_6_3 g7.1 g7.2 ?_
      refine mx_iload_n (pc := 29) C dX6_put_29 rfl ?_
      obtain ⟨q8, hq8, h⟩ := of_bd h
      refine mc_V (pc := 30) (as := [aI x1, aI (q5.2 6 x1), aI x3]) (rest := [aI q5.1, aI (M 7 x3), aI x3, aR 7]) (stk2 := [aI q8.1, aI q5.1, aI (M 7 x3), aI x3, aR 7]) C ⟨Nat.le_refl _, Nat.le_refl _⟩ (m_X6_heardFrom hOq5 hq8) mi_X6_heardFrom mv_X6_heardFrom ml_X6_70 ci_6 rfl so_6 (by omega) rfl (Nat.le_of_ble_eq_true rfl) dX6_put_30 rfl (fun hp9 => ?_)
      have hOq8 : OK q8.2 := hp9
      refine mx_isub (pc := 33) C dX6_put_33  ?_
      refine mx_iadd (pc := 34) C dX6_put_34  ?_
      obtain ⟨g10, h⟩ := of_gd h
      refine mx_iast (pc := 35) C dX6_put_35 sh_6_4 g10.1 g10.2 ?_
      generalize hmM11 : stM q8.2 7 x3 (w32 ((M 7 x3) + (w32 (q5.1 - q8.1)))) = M11 at h ⊢
      replace h := lt_e h
      have hOM11 : OK M11 := by rw [← hmM11]; exact ok_arr hOq8 sh_6_4 (by decide)
      refine mx_iinc (pc := 36) C dX6_put_36 (ls' := [some (aR 4), some (aI x1), some (aI x2), some (aI (w32 (x3 + 1)))]) rfl (by decide) rfl (by constructor <;> decide) rfl rfl ?_
      refine mx_goto (pc := 39) (tgt := 2) C dX6_put_39 rfl ?_
      exact ih x1 x2 (w32 (x3 + 1)) M11 hOM11 h
set_option maxRecDepth 20000 in
set_option maxHeartbeats 4000000 in
theorem m_X6_put {p1 : Int} {p2 : Int} {M : Mem} {res : Int × Mem} (hOM : OK M) (h : f_X6_put p1 p2 M = some res) : Mth false yX6_put cX6_put 4 none 2 0 0 SH [aR 4, aI p1, aI p2] M none SH res.2 (OK res.2) := by
  refine Mth.of (by decide +kernel) (Nat.le_of_ble_eq_true rfl) (fun K B C => ?_)
  show Wx K B _ 0 0 SH 4 M 0 [some (aR 4), some (aI p1), some (aI p2), none] []
  unfold f_X6_put at h
  refine mx_iconst (pc := 0) C dX6_put_0 (z := 0) rfl (by constructor <;> decide) ?_
  refine mx_istore_n (pc := 1) C dX6_put_1 (ls' := [some (aR 4), some (aI p1), some (aI p2), some (aI 0)]) (by decide) rfl rfl ?_
  exact b_X6_put_2 C FU p1 p2 0 M hOM h

def f_X6_take_67 (p1 : Int) (k41 : Int → Mem → Option (Int × Mem)) (k51 : Int → Int → Mem → Option (Int × Mem)) : Nat → Int → Int → Int → Int → Mem → Option (Int × Mem)
  | 0, _, _, _, _, _ => none
  | n + 1, x2, x3, x4, x5, M => if 5 ≤ x5 then k51 x2 (w32 (x3 + 1)) M else (f_X1_heard p1 x2 x4 x3 x5 M).bind (fun q2 => if 0 ≤ w32 ((w32 ((w32 ((w32 (x2 * 5)) + x3)) * 5)) + x5) ∧ w32 ((w32 ((w32 ((w32 (x2 * 5)) + x3)) * 5)) + x5) < 150 then lt (stM q2.2 5 (w32 ((w32 ((w32 ((w32 (x2 * 5)) + x3)) * 5)) + x5)) q2.1) (fun M5 => f_X6_take_67 p1 k41 k51 n x2 x3 x4 (w32 (x5 + 1)) M5) else none)
def f_X6_take_51 (p1 : Int) (k41 : Int → Mem → Option (Int × Mem)) : Nat → Int → Int → Mem → Option (Int × Mem)
  | 0, _, _, _ => none
  | n + 1, x2, x3, M => if 5 ≤ x3 then (f_X1_isLost p1 x2 M).bind (fun q2 => if 0 ≤ x2 ∧ x2 < 6 then lt (stM q2.2 8 x2 q2.1) (fun M5 => if 0 ≤ x2 ∧ x2 < 6 then lt (stM M5 6 x2 (-1)) (fun M7 => if 0 ≤ x2 ∧ x2 < 6 then (f_X6_put x2 (M7 (p1 + 4) x2) M7).bind (fun q9 => k41 (w32 (x2 + 1)) q9.2) else none) else none) else none) else (f_X1_voiceIn p1 x2 x3 M).bind (fun q11 => f_X6_take_67 p1 k41 (f_X6_take_51 p1 k41 n) FU x2 x3 q11.1 0 q11.2)
def f_X6_take_41 (p1 : Int) : Nat → Int → Mem → Option (Int × Mem)
  | 0, _, _ => none
  | n + 1, x2, M => if M 4 0 ≤ x2 then some (0, M) else f_X6_take_51 p1 (f_X6_take_41 p1 n) FU x2 0 M
def f_X6_take_21 (p1 : Int) : Nat → Int → Mem → Option (Int × Mem)
  | 0, _, _ => none
  | n + 1, x2, M => if 5 ≤ x2 then f_X6_take_41 p1 FU 0 M else if 0 ≤ x2 ∧ x2 < 5 then lt (stM M 7 x2 0) (fun M3 => f_X6_take_21 p1 n (w32 (x2 + 1)) M3) else none
def f_X6_take (p1 : Int) (M : Mem) : Option (Int × Mem) :=
  lt (stM M 4 0 (M p1 0)) (fun M1 => lt (stM M1 4 1 (M1 (M1 p1 7) 1)) (fun M2 => f_X6_take_21 p1 FU 0 M2))
set_option maxRecDepth 20000 in
set_option maxHeartbeats 4000000 in
theorem b_X6_take_67 {K : KX} {B : BX} {res : Int × Mem} {p1 : Int} {k41 : Int → Mem → Option (Int × Mem)} {k51 : Int → Int → Mem → Option (Int × Mem)} (C : Cx K B false yX6_take cX6_take 6 none 3 0 0) (hp1 : isLot p1) (hk41 : ∀ (x2 : Int) (M : Mem), OK M → k41 x2 M = some res → Wx K B (Zr K B none SH res.2 (OK res.2) 0 0) 0 0 SH 6 M 41 [some (aR 4), some (aR p1), some (aI x2), none, none, none] []) (hk51 : ∀ (x2 : Int) (x3 : Int) (M : Mem), OK M → k51 x2 x3 M = some res → Wx K B (Zr K B none SH res.2 (OK res.2) 0 0) 0 0 SH 6 M 51 [some (aR 4), some (aR p1), some (aI x2), some (aI x3), none, none] []) : ∀ (n : Nat) (x2 : Int) (x3 : Int) (x4 : Int) (x5 : Int) (M : Mem), OK M → f_X6_take_67 p1 k41 k51 n x2 x3 x4 x5 M = some res → Wx K B (Zr K B none SH res.2 (OK res.2) 0 0) 0 0 SH 6 M 67 [some (aR 4), some (aR p1), some (aI x2), some (aI x3), some (aI x4), some (aI x5)] [] := by
  intro n
  induction n with
  | zero =>
    intro x2 x3 x4 x5 M hOM h
    cases h
  | succ n ih =>
    intro x2 x3 x4 x5 M hOM h
    rw [f_X6_take_67.eq_2] at h
    refine mx_iload (pc := 67) C dX6_take_67 rfl ?_
    refine mx_iconst (pc := 69) C dX6_take_69 (z := 5) rfl (by constructor <;> decide) ?_
    refine mx_icmp_ge (pc := 70) (tgt := 104) C dX6_take_70 rfl (fun c1 => ?_) (fun c1 => ?_)
    · rw [if_pos c1] at h
      refine mx_iinc (pc := 104) C dX6_take_104 (ls' := [some (aR 4), some (aR p1), some (aI x2), some (aI (w32 (x3 + 1))), some (aI x4), some (aI x5)]) rfl (by decide) rfl (by constructor <;> decide) rfl rfl ?_
      refine mx_goto (pc := 107) (tgt := 51) C dX6_take_107 rfl ?_
      refine mx_mask [true, true, true, true, false, false] (ls' := [some (aR 4), some (aR p1), some (aI x2), some (aI (w32 (x3 + 1))), none, none]) rfl rfl ?_
      exact hk51 x2 (w32 (x3 + 1)) M hOM h
    · rw [if_neg c1] at h
      refine mx_aload_n (pc := 73) C dX6_take_73 rfl ?_
      refine mx_getR (pc := 74) (v := 5) C dX6_take_74 so_6 ci_6 (k := 2) (by decide) fl_X6_9 rfl (q := 2) rfl (lay_6_2 hOM) (by decide) ?_
      refine mx_iload_n (pc := 77) C dX6_take_77 rfl ?_
      refine mx_iconst (pc := 78) C dX6_take_78 (z := 5) rfl (by constructor <;> decide) ?_
      refine mx_imul (pc := 79) C dX6_take_79  ?_
      refine mx_iload_n (pc := 80) C dX6_take_80 rfl ?_
      refine mx_iadd (pc := 81) C dX6_take_81  ?_
      refine mx_iconst (pc := 82) C dX6_take_82 (z := 5) rfl (by constructor <;> decide) ?_
      refine mx_imul (pc := 83) C dX6_take_83  ?_
      refine mx_iload (pc := 84) C dX6_take_84 rfl ?_
      refine mx_iadd (pc := 86) C dX6_take_86  ?_
      refine mx_aload_n (pc := 87) C dX6_take_87 rfl ?_
      refine mx_iload_n (pc := 88) C dX6_take_88 rfl ?_
      refine mx_iload (pc := 89) C dX6_take_89 rfl ?_
      refine mx_iload_n (pc := 91) C dX6_take_91 rfl ?_
      refine mx_iload (pc := 92) C dX6_take_92 rfl ?_
      obtain ⟨q2, hq2, h⟩ := of_bd h
      refine mc_V (pc := 94) (as := [aI x2, aI x4, aI x3, aI x5]) (rest := [aI (w32 ((w32 ((w32 ((w32 (x2 * 5)) + x3)) * 5)) + x5)), aR 5]) (stk2 := [aI q2.1, aI (w32 ((w32 ((w32 ((w32 (x2 * 5)) + x3)) * 5)) + x5)), aR 5]) C ⟨Nat.le_refl _, Nat.le_refl _⟩ (m_X1_heard hOM hp1 hq2) mi_X1_heard mv_X1_heard ml_X6_58 ci_1 rfl (so_1 hp1) (by omega) rfl (Nat.le_of_ble_eq_true rfl) dX6_take_94 rfl (fun hp3 => ?_)
      have hOq2 : OK q2.2 := hp3
      obtain ⟨g4, h⟩ := of_gd h
      refine mx_iast (pc := 97) C dX6_take_97 sh_6_2 g4.1 g4.2 ?_
      generalize hmM5 : stM q2.2 5 (w32 ((w32 ((w32 ((w32 (x2 * 5)) + x3)) * 5)) + x5)) q2.1 = M5 at h ⊢
      replace h := lt_e h
      have hOM5 : OK M5 := by rw [← hmM5]; exact ok_arr hOq2 sh_6_2 (by decide)
      refine mx_iinc (pc := 98) C dX6_take_98 (ls' := [some (aR 4), some (aR p1), some (aI x2), some (aI x3), some (aI x4), some (aI (w32 (x5 + 1)))]) rfl (by decide) rfl (by constructor <;> decide) rfl rfl ?_
      refine mx_goto (pc := 101) (tgt := 67) C dX6_take_101 rfl ?_
      exact ih x2 x3 x4 (w32 (x5 + 1)) M5 hOM5 h
set_option maxRecDepth 20000 in
set_option maxHeartbeats 4000000 in
theorem b_X6_take_51 {K : KX} {B : BX} {res : Int × Mem} {p1 : Int} {k41 : Int → Mem → Option (Int × Mem)} (C : Cx K B false yX6_take cX6_take 6 none 3 0 0) (hp1 : isLot p1) (hk41 : ∀ (x2 : Int) (M : Mem), OK M → k41 x2 M = some res → Wx K B (Zr K B none SH res.2 (OK res.2) 0 0) 0 0 SH 6 M 41 [some (aR 4), some (aR p1), some (aI x2), none, none, none] []) : ∀ (n : Nat) (x2 : Int) (x3 : Int) (M : Mem), OK M → f_X6_take_51 p1 k41 n x2 x3 M = some res → Wx K B (Zr K B none SH res.2 (OK res.2) 0 0) 0 0 SH 6 M 51 [some (aR 4), some (aR p1), some (aI x2), some (aI x3), none, none] [] := by
  intro n
  induction n with
  | zero =>
    intro x2 x3 M hOM h
    cases h
  | succ n ih =>
    intro x2 x3 M hOM h
    rw [f_X6_take_51.eq_2] at h
    refine mx_iload_n (pc := 51) C dX6_take_51 rfl ?_
    refine mx_iconst (pc := 52) C dX6_take_52 (z := 5) rfl (by constructor <;> decide) ?_
    refine mx_icmp_ge (pc := 53) (tgt := 110) C dX6_take_53 rfl (fun c1 => ?_) (fun c1 => ?_)
    · rw [if_pos c1] at h
      refine mx_aload_n (pc := 110) C dX6_take_110 rfl ?_
      refine mx_getR (pc := 111) (v := 8) C dX6_take_111 so_6 ci_6 (k := 5) (by decide) fl_X6_21 rfl (q := 5) rfl (lay_6_5 hOM) (by decide) ?_
      refine mx_iload_n (pc := 114) C dX6_take_114 rfl ?_
      refine mx_aload_n (pc := 115) C dX6_take_115 rfl ?_
      refine mx_iload_n (pc := 116) C dX6_take_116 rfl ?_
      obtain ⟨q2, hq2, h⟩ := of_bd h
      refine mc_V (pc := 117) (as := [aI x2]) (rest := [aI x2, aR 8]) (stk2 := [aI q2.1, aI x2, aR 8]) C ⟨Nat.le_refl _, Nat.le_refl _⟩ (m_X1_isLost hOM hp1 hq2) mi_X1_isLost mv_X1_isLost ml_X6_61 ci_1 rfl (so_1 hp1) (by omega) rfl (Nat.le_of_ble_eq_true rfl) dX6_take_117 rfl (fun hp3 => ?_)
      have hOq2 : OK q2.2 := hp3.1
      obtain ⟨g4, h⟩ := of_gd h
      refine mx_zast (pc := 120) C dX6_take_120 sh_6_5 hp3.2 g4.1 g4.2 ?_
      generalize hmM5 : stM q2.2 8 x2 q2.1 = M5 at h ⊢
      replace h := lt_e h
      have hOM5 : OK M5 := by rw [← hmM5]; exact ok_arr hOq2 sh_6_5 (by decide)
      refine mx_aload_n (pc := 121) C dX6_take_121 rfl ?_
      refine mx_getR (pc := 122) (v := 6) C dX6_take_122 so_6 ci_6 (k := 3) (by decide) fl_X6_15 rfl (q := 3) rfl (lay_6_3 hOM5) (by decide) ?_
      refine mx_iload_n (pc := 125) C dX6_take_125 rfl ?_
      refine mx_iconst (pc := 126) C dX6_take_126 (z := (-1)) rfl (by constructor <;> decide) ?_
      obtain ⟨g6, h⟩ := of_gd h
      refine mx_iast (pc := 127) C dX6_take_127 sh_6_3 g6.1 g6.2 ?_
      generalize hmM7 : stM M5 6 x2 (-1) = M7 at h ⊢
      replace h := lt_e h
      have hOM7 : OK M7 := by rw [← hmM7]; exact ok_arr hOM5 sh_6_3 (by decide)
      refine mx_aload_n (pc := 128) C dX6_take_128 rfl ?_
      refine mx_iload_n (pc := 129) C dX6_take_129 rfl ?_
      refine mx_aload_n (pc := 130) C dX6_take_130 rfl ?_
      refine mx_getR (pc := 131) (v := p1 + 4) C dX6_take_131 (so_1 hp1) ci_1 (k := 4) (by decide) fl_X6_65 rfl (q := 4) rfl (lay_1_4 hOM7 hp1) (by have := lot_pos hp1; omega) ?_
      refine mx_iload_n (pc := 134) C dX6_take_134 rfl ?_
      obtain ⟨g8, h⟩ := of_gd h
      refine mx_iald (pc := 135) C dX6_take_135 (sh_1_4 hp1) g8.1 g8.2 ?_
      obtain ⟨q9, hq9, h⟩ := of_bd h
      refine mc_V (pc := 136) (as := [aI x2, aI (M7 (p1 + 4) x2)]) (rest := []) (stk2 := []) C ⟨Nat.le_refl _, Nat.le_refl _⟩ (m_X6_put hOM7 hq9) mi_X6_put mv_X6_put ml_X6_66 ci_6 rfl so_6 (by omega) rfl (Nat.le_of_ble_eq_true rfl) dX6_take_136 rfl (fun hp10 => ?_)
      have hOq9 : OK q9.2 := hp10
      refine mx_iinc (pc := 139) C dX6_take_139 (ls' := [some (aR 4), some (aR p1), some (aI (w32 (x2 + 1))), some (aI x3), none, none]) rfl (by decide) rfl (by constructor <;> decide) rfl rfl ?_
      refine mx_goto (pc := 142) (tgt := 41) C dX6_take_142 rfl ?_
      refine mx_mask [true, true, true, false, false, false] (ls' := [some (aR 4), some (aR p1), some (aI (w32 (x2 + 1))), none, none, none]) rfl rfl ?_
      exact hk41 (w32 (x2 + 1)) q9.2 hOq9 h
    · rw [if_neg c1] at h
      refine mx_aload_n (pc := 56) C dX6_take_56 rfl ?_
      refine mx_iload_n (pc := 57) C dX6_take_57 rfl ?_
      refine mx_iload_n (pc := 58) C dX6_take_58 rfl ?_
      obtain ⟨q11, hq11, h⟩ := of_bd h
      refine mc_V (pc := 59) (as := [aI x2, aI x3]) (rest := []) (stk2 := [aI q11.1]) C ⟨Nat.le_refl _, Nat.le_refl _⟩ (m_X1_voiceIn hOM hp1 hq11) mi_X1_voiceIn mv_X1_voiceIn ml_X6_54 ci_1 rfl (so_1 hp1) (by omega) rfl (Nat.le_of_ble_eq_true rfl) dX6_take_59 rfl (fun hp12 => ?_)
      have hOq11 : OK q11.2 := hp12
      refine mx_istore (pc := 62) C dX6_take_62 (ls' := [some (aR 4), some (aR p1), some (aI x2), some (aI x3), some (aI q11.1), none]) (by decide) rfl rfl ?_
      refine mx_iconst (pc := 64) C dX6_take_64 (z := 0) rfl (by constructor <;> decide) ?_
      refine mx_istore (pc := 65) C dX6_take_65 (ls' := [some (aR 4), some (aR p1), some (aI x2), some (aI x3), some (aI q11.1), some (aI 0)]) (by decide) rfl rfl ?_
      exact b_X6_take_67 C hp1 hk41 ih FU x2 x3 q11.1 0 q11.2 hOq11 h
set_option maxRecDepth 20000 in
set_option maxHeartbeats 4000000 in
theorem b_X6_take_41 {K : KX} {B : BX} {res : Int × Mem} {p1 : Int} (C : Cx K B false yX6_take cX6_take 6 none 3 0 0) (hp1 : isLot p1) : ∀ (n : Nat) (x2 : Int) (M : Mem), OK M → f_X6_take_41 p1 n x2 M = some res → Wx K B (Zr K B none SH res.2 (OK res.2) 0 0) 0 0 SH 6 M 41 [some (aR 4), some (aR p1), some (aI x2), none, none, none] [] := by
  intro n
  induction n with
  | zero =>
    intro x2 M hOM h
    cases h
  | succ n ih =>
    intro x2 M hOM h
    rw [f_X6_take_41.eq_2] at h
    refine mx_iload_n (pc := 41) C dX6_take_41 rfl ?_
    refine mx_aload_n (pc := 42) C dX6_take_42 rfl ?_
    refine mx_getI (pc := 43) C dX6_take_43 so_6 ci_6 (k := 0) (by decide) fl_X6_43 rfl (q := 0) rfl ?_
    refine mx_icmp_ge (pc := 46) (tgt := 145) C dX6_take_46 rfl (fun c1 => ?_) (fun c1 => ?_)
    · rw [if_pos c1] at h
      rw [← Option.some.inj h]
      exact mx_return (pc := 145) C dX6_take_145 hOM ⟨Nat.le_refl _, Nat.le_refl _⟩
    · rw [if_neg c1] at h
      refine mx_iconst (pc := 49) C dX6_take_49 (z := 0) rfl (by constructor <;> decide) ?_
      refine mx_istore_n (pc := 50) C dX6_take_50 (ls' := [some (aR 4), some (aR p1), some (aI x2), some (aI 0), none, none]) (by decide) rfl rfl ?_
      exact b_X6_take_51 C hp1 ih FU x2 0 M hOM h
set_option maxRecDepth 20000 in
set_option maxHeartbeats 4000000 in
theorem b_X6_take_21 {K : KX} {B : BX} {res : Int × Mem} {p1 : Int} (C : Cx K B false yX6_take cX6_take 6 none 3 0 0) (hp1 : isLot p1) : ∀ (n : Nat) (x2 : Int) (M : Mem), OK M → f_X6_take_21 p1 n x2 M = some res → Wx K B (Zr K B none SH res.2 (OK res.2) 0 0) 0 0 SH 6 M 21 [some (aR 4), some (aR p1), some (aI x2), none, none, none] [] := by
  intro n
  induction n with
  | zero =>
    intro x2 M hOM h
    cases h
  | succ n ih =>
    intro x2 M hOM h
    rw [f_X6_take_21.eq_2] at h
    refine mx_iload_n (pc := 21) C dX6_take_21 rfl ?_
    refine mx_iconst (pc := 22) C dX6_take_22 (z := 5) rfl (by constructor <;> decide) ?_
    refine mx_icmp_ge (pc := 23) (tgt := 39) C dX6_take_23 rfl (fun c1 => ?_) (fun c1 => ?_)
    · rw [if_pos c1] at h
      refine mx_iconst (pc := 39) C dX6_take_39 (z := 0) rfl (by constructor <;> decide) ?_
      refine mx_istore_n (pc := 40) C dX6_take_40 (ls' := [some (aR 4), some (aR p1), some (aI 0), none, none, none]) (by decide) rfl rfl ?_
      exact b_X6_take_41 C hp1 FU 0 M hOM h
    · rw [if_neg c1] at h
      refine mx_aload_n (pc := 26) C dX6_take_26 rfl ?_
      refine mx_getR (pc := 27) (v := 7) C dX6_take_27 so_6 ci_6 (k := 4) (by decide) fl_X6_18 rfl (q := 4) rfl (lay_6_4 hOM) (by decide) ?_
      refine mx_iload_n (pc := 30) C dX6_take_30 rfl ?_
      refine mx_iconst (pc := 31) C dX6_take_31 (z := 0) rfl (by constructor <;> decide) ?_
      obtain ⟨g2, h⟩ := of_gd h
      refine mx_iast (pc := 32) C dX6_take_32 sh_6_4 g2.1 g2.2 ?_
      generalize hmM3 : stM M 7 x2 0 = M3 at h ⊢
      replace h := lt_e h
      have hOM3 : OK M3 := by rw [← hmM3]; exact ok_arr hOM sh_6_4 (by decide)
      refine mx_iinc (pc := 33) C dX6_take_33 (ls' := [some (aR 4), some (aR p1), some (aI (w32 (x2 + 1))), none, none, none]) rfl (by decide) rfl (by constructor <;> decide) rfl rfl ?_
      refine mx_goto (pc := 36) (tgt := 21) C dX6_take_36 rfl ?_
      exact ih (w32 (x2 + 1)) M3 hOM3 h
set_option maxRecDepth 20000 in
set_option maxHeartbeats 4000000 in
theorem m_X6_take {p1 : Int} {M : Mem} {res : Int × Mem} (hOM : OK M) (hp1 : isLot p1) (h : f_X6_take p1 M = some res) : Mth false yX6_take cX6_take 6 none 3 0 0 SH [aR 4, aR p1] M none SH res.2 (OK res.2) := by
  refine Mth.of (by decide +kernel) (Nat.le_of_ble_eq_true rfl) (fun K B C => ?_)
  show Wx K B _ 0 0 SH 6 M 0 [some (aR 4), some (aR p1), none, none, none, none] []
  unfold f_X6_take at h
  refine mx_aload_n (pc := 0) C dX6_take_0 rfl ?_
  refine mx_aload_n (pc := 1) C dX6_take_1 rfl ?_
  refine mx_getI (pc := 2) C dX6_take_2 (so_1 hp1) ci_1 (k := 0) (by decide) fl_X6_37 rfl (q := 0) rfl ?_
  refine mx_putI (pc := 5) C dX6_take_5 so_6 ci_6 (k := 0) (by decide) fl_X6_43 (Or.inl rfl) rfl (q := 0) rfl ?_
  generalize hmM1 : stM M 4 0 (M p1 0) = M1 at h ⊢
  replace h := lt_e h
  have hOM1 : OK M1 := by rw [← hmM1]; exact okf_6_0 hOM
  refine mx_aload_n (pc := 8) C dX6_take_8 rfl ?_
  refine mx_aload_n (pc := 9) C dX6_take_9 rfl ?_
  refine mx_getR (pc := 10) (v := (M1 p1 7)) C dX6_take_10 (so_1 hp1) ci_1 (k := 7) (by decide) fl_X6_44 rfl (q := 7) rfl rfl (str_pos (str_of hOM1 hp1)).1 ?_
  refine mx_getI (pc := 13) C dX6_take_13 (so_3 (str_of hOM1 hp1)) ci_3 (k := 1) (by decide) fl_X6_48 rfl (q := 1) rfl ?_
  refine mx_putI (pc := 16) C dX6_take_16 so_6 ci_6 (k := 1) (by decide) fl_X6_53 (Or.inl rfl) rfl (q := 1) rfl ?_
  generalize hmM2 : stM M1 4 1 (M1 (M1 p1 7) 1) = M2 at h ⊢
  replace h := lt_e h
  have hOM2 : OK M2 := by rw [← hmM2]; exact okf_6_1 hOM1
  refine mx_iconst (pc := 19) C dX6_take_19 (z := 0) rfl (by constructor <;> decide) ?_
  refine mx_istore_n (pc := 20) C dX6_take_20 (ls' := [some (aR 4), some (aR p1), some (aI 0), none, none, none]) (by decide) rfl rfl ?_
  exact b_X6_take_21 C hp1 FU 0 M2 hOM2 h

def f_X6_greatest_4 : Nat → Int → Int → Mem → Option (Int × Mem)
  | 0, _, _, _ => none
  | n + 1, x1, x2, M => if 5 ≤ x2 then some (x1, M) else if 0 ≤ x2 ∧ x2 < 5 then f_X6_greatest_4 n (max x1 (M 7 x2)) (w32 (x2 + 1)) M else none
def f_X6_greatest (M : Mem) : Option (Int × Mem) :=
  f_X6_greatest_4 FU 0 0 M
set_option maxRecDepth 20000 in
set_option maxHeartbeats 4000000 in
theorem b_X6_greatest_4 {K : KX} {B : BX} {res : Int × Mem} (C : Cx K B false yX6_greatest cX6_greatest 3 (some .int) 1 0 0) : ∀ (n : Nat) (x1 : Int) (x2 : Int) (M : Mem), OK M → f_X6_greatest_4 n x1 x2 M = some res → Wx K B (Zr K B (some (aI res.1)) SH res.2 (OK res.2) 0 0) 0 0 SH 3 M 4 [some (aR 4), some (aI x1), some (aI x2)] [] := by
  intro n
  induction n with
  | zero =>
    intro x1 x2 M hOM h
    cases h
  | succ n ih =>
    intro x1 x2 M hOM h
    rw [f_X6_greatest_4.eq_2] at h
    refine mx_iload_n (pc := 4) C dX6_greatest_4 rfl ?_
    refine mx_iconst (pc := 5) C dX6_greatest_5 (z := 5) rfl (by constructor <;> decide) ?_
    refine mx_icmp_ge (pc := 6) (tgt := 26) C dX6_greatest_6 rfl (fun c1 => ?_) (fun c1 => ?_)
    · rw [if_pos c1] at h
      refine mx_iload_n (pc := 26) C dX6_greatest_26 rfl ?_
      rw [← Option.some.inj h]
      exact mx_ireturn (pc := 27) C dX6_greatest_27 hOM ⟨Nat.le_refl _, Nat.le_refl _⟩
    · rw [if_neg c1] at h
      refine mx_iload_n (pc := 9) C dX6_greatest_9 rfl ?_
      refine mx_aload_n (pc := 10) C dX6_greatest_10 rfl ?_
      refine mx_getR (pc := 11) (v := 7) C dX6_greatest_11 so_6 ci_6 (k := 4) (by decide) fl_X6_18 rfl (q := 4) rfl (lay_6_4 hOM) (by decide) ?_
      refine mx_iload_n (pc := 14) C dX6_greatest_14 rfl ?_
      obtain ⟨g2, h⟩ := of_gd h
      refine mx_iald (pc := 15) C dX6_greatest_15 sh_6_4 g2.1 g2.2 ?_
      refine mx_max (pc := 16) C ⟨Nat.le_refl _, Nat.le_refl _⟩ (by omega) (Nat.le_of_ble_eq_true rfl) ml_X6_74 dX6_greatest_16 ?_
      refine mx_istore_n (pc := 19) C dX6_greatest_19 (ls' := [some (aR 4), some (aI (max x1 (M 7 x2))), some (aI x2)]) (by decide) rfl rfl ?_
      refine mx_iinc (pc := 20) C dX6_greatest_20 (ls' := [some (aR 4), some (aI (max x1 (M 7 x2))), some (aI (w32 (x2 + 1)))]) rfl (by decide) rfl (by constructor <;> decide) rfl rfl ?_
      refine mx_goto (pc := 23) (tgt := 4) C dX6_greatest_23 rfl ?_
      exact ih (max x1 (M 7 x2)) (w32 (x2 + 1)) M hOM h
set_option maxRecDepth 20000 in
set_option maxHeartbeats 4000000 in
theorem m_X6_greatest {M : Mem} {res : Int × Mem} (hOM : OK M) (h : f_X6_greatest M = some res) : Mth false yX6_greatest cX6_greatest 3 (some .int) 1 0 0 SH [aR 4] M (some (aI res.1)) SH res.2 (OK res.2) := by
  refine Mth.of (by decide +kernel) (Nat.le_of_ble_eq_true rfl) (fun K B C => ?_)
  show Wx K B _ 0 0 SH 3 M 0 [some (aR 4), none, none] []
  unfold f_X6_greatest at h
  refine mx_iconst (pc := 0) C dX6_greatest_0 (z := 0) rfl (by constructor <;> decide) ?_
  refine mx_istore_n (pc := 1) C dX6_greatest_1 (ls' := [some (aR 4), some (aI 0), none]) (by decide) rfl rfl ?_
  refine mx_iconst (pc := 2) C dX6_greatest_2 (z := 0) rfl (by constructor <;> decide) ?_
  refine mx_istore_n (pc := 3) C dX6_greatest_3 (ls' := [some (aR 4), some (aI 0), some (aI 0)]) (by decide) rfl rfl ?_
  exact b_X6_greatest_4 C FU 0 0 M hOM h

def f_X6_calmestHouse_39 (p1 : Int) (k8 : Int → Int → Int → Int → Mem → Option (Int × Mem)) (x1 : Int) (x2 : Int) (x3 : Int) (x4 : Int) (M : Mem) : Option (Int × Mem) :=
  k8 x1 x2 x3 (w32 (x4 + 1)) M
def f_X6_calmestHouse_8 (p1 : Int) : Nat → Int → Int → Int → Int → Mem → Option (Int × Mem)
  | 0, _, _, _, _, _ => none
  | n + 1, x1, x2, x3, x4, M => if 5 ≤ x4 then some (x2, M) else (f_X6_put x1 x4 M).bind (fun q2 => (f_X6_greatest q2.2).bind (fun q4 => if x3 ≤ q4.1 then f_X6_calmestHouse_39 p1 (f_X6_calmestHouse_8 p1 n) x1 x2 x3 x4 q4.2 else f_X6_calmestHouse_39 p1 (f_X6_calmestHouse_8 p1 n) x1 x4 q4.1 x4 q4.2))
def f_X6_calmestHouse (p1 : Int) (M : Mem) : Option (Int × Mem) :=
  f_X6_calmestHouse_8 p1 FU p1 0 1000000 0 M
set_option maxRecDepth 20000 in
set_option maxHeartbeats 4000000 in
theorem b_X6_calmestHouse_39 {K : KX} {B : BX} {res : Int × Mem} {p1 : Int} {k8 : Int → Int → Int → Int → Mem → Option (Int × Mem)} (C : Cx K B false yX6_calmestHouse cX6_calmestHouse 6 (some .int) 3 0 0) (hk8 : ∀ (x1 : Int) (x2 : Int) (x3 : Int) (x4 : Int) (M : Mem), OK M → k8 x1 x2 x3 x4 M = some res → Wx K B (Zr K B (some (aI res.1)) SH res.2 (OK res.2) 0 0) 0 0 SH 6 M 8 [some (aR 4), some (aI x1), some (aI x2), some (aI x3), some (aI x4), none] []) : ∀ (x1 : Int) (x2 : Int) (x3 : Int) (x4 : Int) (M : Mem), OK M → f_X6_calmestHouse_39 p1 k8 x1 x2 x3 x4 M = some res → Wx K B (Zr K B (some (aI res.1)) SH res.2 (OK res.2) 0 0) 0 0 SH 6 M 39 [some (aR 4), some (aI x1), some (aI x2), some (aI x3), some (aI x4), none] [] := by
  intro x1 x2 x3 x4 M hOM h
  unfold f_X6_calmestHouse_39 at h
  refine mx_iinc (pc := 39) C dX6_calmestHouse_39 (ls' := [some (aR 4), some (aI x1), some (aI x2), some (aI x3), some (aI (w32 (x4 + 1))), none]) rfl (by decide) rfl (by constructor <;> decide) rfl rfl ?_
  refine mx_goto (pc := 42) (tgt := 8) C dX6_calmestHouse_42 rfl ?_
  exact hk8 x1 x2 x3 (w32 (x4 + 1)) M hOM h
set_option maxRecDepth 20000 in
set_option maxHeartbeats 4000000 in
theorem b_X6_calmestHouse_8 {K : KX} {B : BX} {res : Int × Mem} {p1 : Int} (C : Cx K B false yX6_calmestHouse cX6_calmestHouse 6 (some .int) 3 0 0) : ∀ (n : Nat) (x1 : Int) (x2 : Int) (x3 : Int) (x4 : Int) (M : Mem), OK M → f_X6_calmestHouse_8 p1 n x1 x2 x3 x4 M = some res → Wx K B (Zr K B (some (aI res.1)) SH res.2 (OK res.2) 0 0) 0 0 SH 6 M 8 [some (aR 4), some (aI x1), some (aI x2), some (aI x3), some (aI x4), none] [] := by
  intro n
  induction n with
  | zero =>
    intro x1 x2 x3 x4 M hOM h
    cases h
  | succ n ih =>
    intro x1 x2 x3 x4 M hOM h
    rw [f_X6_calmestHouse_8.eq_2] at h
    refine mx_iload (pc := 8) C dX6_calmestHouse_8 rfl ?_
    refine mx_iconst (pc := 10) C dX6_calmestHouse_10 (z := 5) rfl (by constructor <;> decide) ?_
    refine mx_icmp_ge (pc := 11) (tgt := 45) C dX6_calmestHouse_11 rfl (fun c1 => ?_) (fun c1 => ?_)
    · rw [if_pos c1] at h
      refine mx_iload_n (pc := 45) C dX6_calmestHouse_45 rfl ?_
      rw [← Option.some.inj h]
      exact mx_ireturn (pc := 46) C dX6_calmestHouse_46 hOM ⟨Nat.le_refl _, Nat.le_refl _⟩
    · rw [if_neg c1] at h
      refine mx_aload_n (pc := 14) C dX6_calmestHouse_14 rfl ?_
      refine mx_iload_n (pc := 15) C dX6_calmestHouse_15 rfl ?_
      refine mx_iload (pc := 16) C dX6_calmestHouse_16 rfl ?_
      obtain ⟨q2, hq2, h⟩ := of_bd h
      refine mc_V (pc := 18) (as := [aI x1, aI x4]) (rest := []) (stk2 := []) C ⟨Nat.le_refl _, Nat.le_refl _⟩ (m_X6_put hOM hq2) mi_X6_put mv_X6_put ml_X6_66 ci_6 rfl so_6 (by omega) rfl (Nat.le_of_ble_eq_true rfl) dX6_calmestHouse_18 rfl (fun hp3 => ?_)
      have hOq2 : OK q2.2 := hp3
      refine mx_aload_n (pc := 21) C dX6_calmestHouse_21 rfl ?_
      obtain ⟨q4, hq4, h⟩ := of_bd h
      refine mc_V (pc := 22) (as := []) (rest := []) (stk2 := [aI q4.1]) C ⟨Nat.le_refl _, Nat.le_refl _⟩ (m_X6_greatest hOq2 hq4) mi_X6_greatest mv_X6_greatest ml_X6_80 ci_6 rfl so_6 (by omega) rfl (Nat.le_of_ble_eq_true rfl) dX6_calmestHouse_22 rfl (fun hp5 => ?_)
      have hOq4 : OK q4.2 := hp5
      refine mx_istore (pc := 25) C dX6_calmestHouse_25 (ls' := [some (aR 4), some (aI x1), some (aI x2), some (aI x3), some (aI x4), some (aI q4.1)]) (by decide) rfl rfl ?_
      refine mx_iload (pc := 27) C dX6_calmestHouse_27 rfl ?_
      refine mx_iload_n (pc := 29) C dX6_calmestHouse_29 rfl ?_
      refine mx_icmp_ge (pc := 30) (tgt := 39) C dX6_calmestHouse_30 rfl (fun c6 => ?_) (fun c6 => ?_)
      · rw [if_pos c6] at h
        refine mx_mask [true, true, true, true, true, false] (ls' := [some (aR 4), some (aI x1), some (aI x2), some (aI x3), some (aI x4), none]) rfl rfl ?_
        exact b_X6_calmestHouse_39 C ih x1 x2 x3 x4 q4.2 hOq4 h
      · rw [if_neg c6] at h
        refine mx_iload (pc := 33) C dX6_calmestHouse_33 rfl ?_
        refine mx_istore_n (pc := 35) C dX6_calmestHouse_35 (ls' := [some (aR 4), some (aI x1), some (aI x2), some (aI q4.1), some (aI x4), some (aI q4.1)]) (by decide) rfl rfl ?_
        refine mx_iload (pc := 36) C dX6_calmestHouse_36 rfl ?_
        refine mx_istore_n (pc := 38) C dX6_calmestHouse_38 (ls' := [some (aR 4), some (aI x1), some (aI x4), some (aI q4.1), some (aI x4), some (aI q4.1)]) (by decide) rfl rfl ?_
        refine mx_mask [true, true, true, true, true, false] (ls' := [some (aR 4), some (aI x1), some (aI x4), some (aI q4.1), some (aI x4), none]) rfl rfl ?_
        exact b_X6_calmestHouse_39 C ih x1 x4 q4.1 x4 q4.2 hOq4 h
set_option maxRecDepth 20000 in
set_option maxHeartbeats 4000000 in
theorem m_X6_calmestHouse {p1 : Int} {M : Mem} {res : Int × Mem} (hOM : OK M) (h : f_X6_calmestHouse p1 M = some res) : Mth false yX6_calmestHouse cX6_calmestHouse 6 (some .int) 3 0 0 SH [aR 4, aI p1] M (some (aI res.1)) SH res.2 (OK res.2) := by
  refine Mth.of (by decide +kernel) (Nat.le_of_ble_eq_true rfl) (fun K B C => ?_)
  show Wx K B _ 0 0 SH 6 M 0 [some (aR 4), some (aI p1), none, none, none, none] []
  unfold f_X6_calmestHouse at h
  refine mx_iconst (pc := 0) C dX6_calmestHouse_0 (z := 0) rfl (by constructor <;> decide) ?_
  refine mx_istore_n (pc := 1) C dX6_calmestHouse_1 (ls' := [some (aR 4), some (aI p1), some (aI 0), none, none, none]) (by decide) rfl rfl ?_
  refine mx_ldc (pc := 2) C dX6_calmestHouse_2 kc_X6_79 (by constructor <;> decide) ?_
  refine mx_istore_n (pc := 4) C dX6_calmestHouse_4 (ls' := [some (aR 4), some (aI p1), some (aI 0), some (aI 1000000), none, none]) (by decide) rfl rfl ?_
  refine mx_iconst (pc := 5) C dX6_calmestHouse_5 (z := 0) rfl (by constructor <;> decide) ?_
  refine mx_istore (pc := 6) C dX6_calmestHouse_6 (ls' := [some (aR 4), some (aI p1), some (aI 0), some (aI 1000000), some (aI 0), none]) (by decide) rfl rfl ?_
  exact b_X6_calmestHouse_8 C FU p1 0 1000000 0 M hOM h

def f_X6_leastHeard_19 (p1 : Int) (p2 : Int) : Nat → Int → Int → Int → Int → Mem → Option (Int × Mem)
  | 0, _, _, _, _, _ => none
  | n + 1, x1, x2, x3, x4, M => if 5 ≤ x4 then some (x3, M) else (f_X6_heardFrom x1 x4 x2 M).bind (fun q2 => f_X6_leastHeard_19 p1 p2 n x1 x2 (min x3 q2.1) (w32 (x4 + 1)) q2.2)
def f_X6_leastHeard_15 (p1 : Int) (p2 : Int) (x1 : Int) (x2 : Int) (t0 : Int) (M : Mem) : Option (Int × Mem) :=
  f_X6_leastHeard_19 p1 p2 FU x1 x2 t0 0 M
def f_X6_leastHeard (p1 : Int) (p2 : Int) (M : Mem) : Option (Int × Mem) :=
  if 0 ≤ p1 ∧ p1 < 6 then if M 8 p1 = 0 then f_X6_leastHeard_15 p1 p2 p1 p2 1000000 M else f_X6_leastHeard_15 p1 p2 p1 p2 0 M else none
set_option maxRecDepth 20000 in
set_option maxHeartbeats 4000000 in
theorem b_X6_leastHeard_19 {K : KX} {B : BX} {res : Int × Mem} {p1 : Int} {p2 : Int} (C : Cx K B false yX6_leastHeard cX6_leastHeard 5 (some .int) 2 0 0) : ∀ (n : Nat) (x1 : Int) (x2 : Int) (x3 : Int) (x4 : Int) (M : Mem), OK M → f_X6_leastHeard_19 p1 p2 n x1 x2 x3 x4 M = some res → Wx K B (Zr K B (some (aI res.1)) SH res.2 (OK res.2) 0 0) 0 0 SH 5 M 19 [some (aR 4), some (aI x1), some (aI x2), some (aI x3), some (aI x4)] [] := by
  intro n
  induction n with
  | zero =>
    intro x1 x2 x3 x4 M hOM h
    cases h
  | succ n ih =>
    intro x1 x2 x3 x4 M hOM h
    rw [f_X6_leastHeard_19.eq_2] at h
    refine mx_iload (pc := 19) C dX6_leastHeard_19 rfl ?_
    refine mx_iconst (pc := 21) C dX6_leastHeard_21 (z := 5) rfl (by constructor <;> decide) ?_
    refine mx_icmp_ge (pc := 22) (tgt := 44) C dX6_leastHeard_22 rfl (fun c1 => ?_) (fun c1 => ?_)
    · rw [if_pos c1] at h
      refine mx_iload_n (pc := 44) C dX6_leastHeard_44 rfl ?_
      rw [← Option.some.inj h]
      exact mx_ireturn (pc := 45) C dX6_leastHeard_45 hOM ⟨Nat.le_refl _, Nat.le_refl _⟩
    · rw [if_neg c1] at h
      refine mx_iload_n (pc := 25) C dX6_leastHeard_25 rfl ?_
      refine mx_aload_n (pc := 26) C dX6_leastHeard_26 rfl ?_
      refine mx_iload_n (pc := 27) C dX6_leastHeard_27 rfl ?_
      refine mx_iload (pc := 28) C dX6_leastHeard_28 rfl ?_
      refine mx_iload_n (pc := 30) C dX6_leastHeard_30 rfl ?_
      obtain ⟨q2, hq2, h⟩ := of_bd h
      refine mc_V (pc := 31) (as := [aI x1, aI x4, aI x2]) (rest := [aI x3]) (stk2 := [aI q2.1, aI x3]) C ⟨Nat.le_refl _, Nat.le_refl _⟩ (m_X6_heardFrom hOM hq2) mi_X6_heardFrom mv_X6_heardFrom ml_X6_70 ci_6 rfl so_6 (by omega) rfl (Nat.le_of_ble_eq_true rfl) dX6_leastHeard_31 rfl (fun hp3 => ?_)
      have hOq2 : OK q2.2 := hp3
      refine mx_min (pc := 34) C ⟨Nat.le_refl _, Nat.le_refl _⟩ (by omega) (Nat.le_of_ble_eq_true rfl) ml_X6_97 dX6_leastHeard_34 ?_
      refine mx_istore_n (pc := 37) C dX6_leastHeard_37 (ls' := [some (aR 4), some (aI x1), some (aI x2), some (aI (min x3 q2.1)), some (aI x4)]) (by decide) rfl rfl ?_
      refine mx_iinc (pc := 38) C dX6_leastHeard_38 (ls' := [some (aR 4), some (aI x1), some (aI x2), some (aI (min x3 q2.1)), some (aI (w32 (x4 + 1)))]) rfl (by decide) rfl (by constructor <;> decide) rfl rfl ?_
      refine mx_goto (pc := 41) (tgt := 19) C dX6_leastHeard_41 rfl ?_
      exact ih x1 x2 (min x3 q2.1) (w32 (x4 + 1)) q2.2 hOq2 h
set_option maxRecDepth 20000 in
set_option maxHeartbeats 4000000 in
theorem b_X6_leastHeard_15 {K : KX} {B : BX} {res : Int × Mem} {p1 : Int} {p2 : Int} (C : Cx K B false yX6_leastHeard cX6_leastHeard 5 (some .int) 2 0 0) : ∀ (x1 : Int) (x2 : Int) (t0 : Int) (M : Mem), OK M → f_X6_leastHeard_15 p1 p2 x1 x2 t0 M = some res → Wx K B (Zr K B (some (aI res.1)) SH res.2 (OK res.2) 0 0) 0 0 SH 5 M 15 [some (aR 4), some (aI x1), some (aI x2), none, none] [aI t0] := by
  intro x1 x2 t0 M hOM h
  unfold f_X6_leastHeard_15 at h
  refine mx_istore_n (pc := 15) C dX6_leastHeard_15 (ls' := [some (aR 4), some (aI x1), some (aI x2), some (aI t0), none]) (by decide) rfl rfl ?_
  refine mx_iconst (pc := 16) C dX6_leastHeard_16 (z := 0) rfl (by constructor <;> decide) ?_
  refine mx_istore (pc := 17) C dX6_leastHeard_17 (ls' := [some (aR 4), some (aI x1), some (aI x2), some (aI t0), some (aI 0)]) (by decide) rfl rfl ?_
  exact b_X6_leastHeard_19 C FU x1 x2 t0 0 M hOM h
set_option maxRecDepth 20000 in
set_option maxHeartbeats 4000000 in
theorem m_X6_leastHeard {p1 : Int} {p2 : Int} {M : Mem} {res : Int × Mem} (hOM : OK M) (h : f_X6_leastHeard p1 p2 M = some res) : Mth false yX6_leastHeard cX6_leastHeard 5 (some .int) 2 0 0 SH [aR 4, aI p1, aI p2] M (some (aI res.1)) SH res.2 (OK res.2) := by
  refine Mth.of (by decide +kernel) (Nat.le_of_ble_eq_true rfl) (fun K B C => ?_)
  show Wx K B _ 0 0 SH 5 M 0 [some (aR 4), some (aI p1), some (aI p2), none, none] []
  unfold f_X6_leastHeard at h
  refine mx_aload_n (pc := 0) C dX6_leastHeard_0 rfl ?_
  refine mx_getR (pc := 1) (v := 8) C dX6_leastHeard_1 so_6 ci_6 (k := 5) (by decide) fl_X6_21 rfl (q := 5) rfl (lay_6_5 hOM) (by decide) ?_
  refine mx_iload_n (pc := 4) C dX6_leastHeard_4 rfl ?_
  obtain ⟨g1, h⟩ := of_gd h
  refine mx_zald (pc := 5) C dX6_leastHeard_5 sh_6_5 g1.1 g1.2 (fun z2 => ?_)
  refine mx_if_eq (pc := 6) (tgt := 13) C dX6_leastHeard_6 rfl (fun c3 => ?_) (fun c3 => ?_)
  · rw [if_pos c3] at h
    refine mx_ldc (pc := 13) C dX6_leastHeard_13 kc_X6_79 (by constructor <;> decide) ?_
    exact b_X6_leastHeard_15 C p1 p2 1000000 M hOM h
  · rw [if_neg c3] at h
    refine mx_iconst (pc := 9) C dX6_leastHeard_9 (z := 0) rfl (by constructor <;> decide) ?_
    refine mx_goto (pc := 10) (tgt := 15) C dX6_leastHeard_10 rfl ?_
    exact b_X6_leastHeard_15 C p1 p2 0 M hOM h

def f_X6_keepWay_61 : Nat → Int → Mem → Option (Int × Mem)
  | 0, _, _ => none
  | n + 1, x1, M => if M 4 0 ≤ x1 then some (0, M) else if 0 ≤ x1 ∧ x1 < 6 then if 0 ≤ x1 ∧ x1 < 6 then lt (stM M 11 x1 (M 6 x1)) (fun M4 => f_X6_keepWay_61 n (w32 (x1 + 1)) M4) else none else none
def f_X6_keepWay_12 : Nat → Int → Mem → Option (Int × Mem)
  | 0, _, _ => none
  | n + 1, x1, M => if 5 ≤ x1 then f_X6_keepWay_61 FU 0 M else if 0 ≤ w32 ((w32 ((M 4 0) * 5)) + x1) ∧ w32 ((w32 ((M 4 0) * 5)) + x1) < 35 then lt (stM M 4 9 (max (M 4 9) (M 10 (w32 ((w32 ((M 4 0) * 5)) + x1))))) (fun M3 => lt (stM M3 4 10 (w32 ((M3 4 10) + (M 10 (w32 ((w32 ((M 4 0) * 5)) + x1)))))) (fun M4 => f_X6_keepWay_12 n (w32 (x1 + 1)) M4)) else none
def f_X6_keepWay (M : Mem) : Option (Int × Mem) :=
  lt (stM M 4 9 0) (fun M1 => lt (stM M1 4 10 0) (fun M2 => f_X6_keepWay_12 FU 0 M2))
set_option maxRecDepth 20000 in
set_option maxHeartbeats 4000000 in
theorem b_X6_keepWay_61 {K : KX} {B : BX} {res : Int × Mem} (C : Cx K B false yX6_keepWay cX6_keepWay 3 none 1 0 0) : ∀ (n : Nat) (x1 : Int) (M : Mem), OK M → f_X6_keepWay_61 n x1 M = some res → Wx K B (Zr K B none SH res.2 (OK res.2) 0 0) 0 0 SH 3 M 61 [some (aR 4), some (aI x1), none] [] := by
  intro n
  induction n with
  | zero =>
    intro x1 M hOM h
    cases h
  | succ n ih =>
    intro x1 M hOM h
    rw [f_X6_keepWay_61.eq_2] at h
    refine mx_iload_n (pc := 61) C dX6_keepWay_61 rfl ?_
    refine mx_aload_n (pc := 62) C dX6_keepWay_62 rfl ?_
    refine mx_getI (pc := 63) C dX6_keepWay_63 so_6 ci_6 (k := 0) (by decide) fl_X6_43 rfl (q := 0) rfl ?_
    refine mx_icmp_ge (pc := 66) (tgt := 87) C dX6_keepWay_66 rfl (fun c1 => ?_) (fun c1 => ?_)
    · rw [if_pos c1] at h
      rw [← Option.some.inj h]
      exact mx_return (pc := 87) C dX6_keepWay_87 hOM ⟨Nat.le_refl _, Nat.le_refl _⟩
    · rw [if_neg c1] at h
      refine mx_aload_n (pc := 69) C dX6_keepWay_69 rfl ?_
      refine mx_getR (pc := 70) (v := 11) C dX6_keepWay_70 so_6 ci_6 (k := 8) (by decide) fl_X6_31 rfl (q := 8) rfl (lay_6_8 hOM) (by decide) ?_
      refine mx_iload_n (pc := 73) C dX6_keepWay_73 rfl ?_
      refine mx_aload_n (pc := 74) C dX6_keepWay_74 rfl ?_
      refine mx_getR (pc := 75) (v := 6) C dX6_keepWay_75 so_6 ci_6 (k := 3) (by decide) fl_X6_15 rfl (q := 3) rfl (lay_6_3 hOM) (by decide) ?_
      refine mx_iload_n (pc := 78) C dX6_keepWay_78 rfl ?_
      obtain ⟨g2, h⟩ := of_gd h
      refine mx_iald (pc := 79) C dX6_keepWay_79 sh_6_3 g2.1 g2.2 ?_
      obtain ⟨g3, h⟩ := of_gd h
      refine mx_iast (pc := 80) C dX6_keepWay_80 sh_6_8 g3.1 g3.2 ?_
      generalize hmM4 : stM M 11 x1 (M 6 x1) = M4 at h ⊢
      replace h := lt_e h
      have hOM4 : OK M4 := by rw [← hmM4]; exact ok_arr hOM sh_6_8 (by decide)
      refine mx_iinc (pc := 81) C dX6_keepWay_81 (ls' := [some (aR 4), some (aI (w32 (x1 + 1))), none]) rfl (by decide) rfl (by constructor <;> decide) rfl rfl ?_
      refine mx_goto (pc := 84) (tgt := 61) C dX6_keepWay_84 rfl ?_
      exact ih (w32 (x1 + 1)) M4 hOM4 h
set_option maxRecDepth 20000 in
set_option maxHeartbeats 4000000 in
theorem b_X6_keepWay_12 {K : KX} {B : BX} {res : Int × Mem} (C : Cx K B false yX6_keepWay cX6_keepWay 3 none 1 0 0) : ∀ (n : Nat) (x1 : Int) (M : Mem), OK M → f_X6_keepWay_12 n x1 M = some res → Wx K B (Zr K B none SH res.2 (OK res.2) 0 0) 0 0 SH 3 M 12 [some (aR 4), some (aI x1), none] [] := by
  intro n
  induction n with
  | zero =>
    intro x1 M hOM h
    cases h
  | succ n ih =>
    intro x1 M hOM h
    rw [f_X6_keepWay_12.eq_2] at h
    refine mx_iload_n (pc := 12) C dX6_keepWay_12 rfl ?_
    refine mx_iconst (pc := 13) C dX6_keepWay_13 (z := 5) rfl (by constructor <;> decide) ?_
    refine mx_icmp_ge (pc := 14) (tgt := 59) C dX6_keepWay_14 rfl (fun c1 => ?_) (fun c1 => ?_)
    · rw [if_pos c1] at h
      refine mx_iconst (pc := 59) C dX6_keepWay_59 (z := 0) rfl (by constructor <;> decide) ?_
      refine mx_istore_n (pc := 60) C dX6_keepWay_60 (ls' := [some (aR 4), some (aI 0), none]) (by decide) rfl rfl ?_
      exact b_X6_keepWay_61 C FU 0 M hOM h
    · rw [if_neg c1] at h
      refine mx_aload_n (pc := 17) C dX6_keepWay_17 rfl ?_
      refine mx_getR (pc := 18) (v := 10) C dX6_keepWay_18 so_6 ci_6 (k := 7) (by decide) fl_X6_28 rfl (q := 7) rfl (lay_6_7 hOM) (by decide) ?_
      refine mx_aload_n (pc := 21) C dX6_keepWay_21 rfl ?_
      refine mx_getI (pc := 22) C dX6_keepWay_22 so_6 ci_6 (k := 0) (by decide) fl_X6_43 rfl (q := 0) rfl ?_
      refine mx_iconst (pc := 25) C dX6_keepWay_25 (z := 5) rfl (by constructor <;> decide) ?_
      refine mx_imul (pc := 26) C dX6_keepWay_26  ?_
      refine mx_iload_n (pc := 27) C dX6_keepWay_27 rfl ?_
      refine mx_iadd (pc := 28) C dX6_keepWay_28  ?_
      obtain ⟨g2, h⟩ := of_gd h
      refine mx_iald (pc := 29) C dX6_keepWay_29 sh_6_7 g2.1 g2.2 ?_
      refine mx_istore_n (pc := 30) C dX6_keepWay_30 (ls' := [some (aR 4), some (aI x1), some (aI (M 10 (w32 ((w32 ((M 4 0) * 5)) + x1))))]) (by decide) rfl rfl ?_
      refine mx_aload_n (pc := 31) C dX6_keepWay_31 rfl ?_
      refine mx_aload_n (pc := 32) C dX6_keepWay_32 rfl ?_
      refine mx_getI (pc := 33) C dX6_keepWay_33 so_6 ci_6 (k := 9) (by decide) fl_X6_84 rfl (q := 9) rfl ?_
      refine mx_iload_n (pc := 36) C dX6_keepWay_36 rfl ?_
      refine mx_max (pc := 37) C ⟨Nat.le_refl _, Nat.le_refl _⟩ (by omega) (Nat.le_of_ble_eq_true rfl) ml_X6_74 dX6_keepWay_37 ?_
      refine mx_putI (pc := 40) C dX6_keepWay_40 so_6 ci_6 (k := 9) (by decide) fl_X6_84 (Or.inl rfl) rfl (q := 9) rfl ?_
      generalize hmM3 : stM M 4 9 (max (M 4 9) (M 10 (w32 ((w32 ((M 4 0) * 5)) + x1)))) = M3 at h ⊢
      replace h := lt_e h
      have hOM3 : OK M3 := by rw [← hmM3]; exact okf_6_9 hOM
      refine mx_aload_n (pc := 43) C dX6_keepWay_43 rfl ?_
      refine mx_dup (pc := 44) C dX6_keepWay_44 rfl ?_
      refine mx_getI (pc := 45) C dX6_keepWay_45 so_6 ci_6 (k := 10) (by decide) fl_X6_87 rfl (q := 10) rfl ?_
      refine mx_iload_n (pc := 48) C dX6_keepWay_48 rfl ?_
      refine mx_iadd (pc := 49) C dX6_keepWay_49  ?_
      refine mx_putI (pc := 50) C dX6_keepWay_50 so_6 ci_6 (k := 10) (by decide) fl_X6_87 (Or.inl rfl) rfl (q := 10) rfl ?_
      generalize hmM4 : stM M3 4 10 (w32 ((M3 4 10) + (M 10 (w32 ((w32 ((M 4 0) * 5)) + x1))))) = M4 at h ⊢
      replace h := lt_e h
      have hOM4 : OK M4 := by rw [← hmM4]; exact okf_6_10 hOM3
      refine mx_iinc (pc := 53) C dX6_keepWay_53 (ls' := [some (aR 4), some (aI (w32 (x1 + 1))), some (aI (M 10 (w32 ((w32 ((M 4 0) * 5)) + x1))))]) rfl (by decide) rfl (by constructor <;> decide) rfl rfl ?_
      refine mx_goto (pc := 56) (tgt := 12) C dX6_keepWay_56 rfl ?_
      refine mx_mask [true, true, false] (ls' := [some (aR 4), some (aI (w32 (x1 + 1))), none]) rfl rfl ?_
      exact ih (w32 (x1 + 1)) M4 hOM4 h
set_option maxRecDepth 20000 in
set_option maxHeartbeats 4000000 in
theorem m_X6_keepWay {M : Mem} {res : Int × Mem} (hOM : OK M) (h : f_X6_keepWay M = some res) : Mth false yX6_keepWay cX6_keepWay 3 none 1 0 0 SH [aR 4] M none SH res.2 (OK res.2) := by
  refine Mth.of (by decide +kernel) (Nat.le_of_ble_eq_true rfl) (fun K B C => ?_)
  show Wx K B _ 0 0 SH 3 M 0 [some (aR 4), none, none] []
  unfold f_X6_keepWay at h
  refine mx_aload_n (pc := 0) C dX6_keepWay_0 rfl ?_
  refine mx_iconst (pc := 1) C dX6_keepWay_1 (z := 0) rfl (by constructor <;> decide) ?_
  refine mx_putI (pc := 2) C dX6_keepWay_2 so_6 ci_6 (k := 9) (by decide) fl_X6_84 (Or.inl rfl) rfl (q := 9) rfl ?_
  generalize hmM1 : stM M 4 9 0 = M1 at h ⊢
  replace h := lt_e h
  have hOM1 : OK M1 := by rw [← hmM1]; exact okf_6_9 hOM
  refine mx_aload_n (pc := 5) C dX6_keepWay_5 rfl ?_
  refine mx_iconst (pc := 6) C dX6_keepWay_6 (z := 0) rfl (by constructor <;> decide) ?_
  refine mx_putI (pc := 7) C dX6_keepWay_7 so_6 ci_6 (k := 10) (by decide) fl_X6_87 (Or.inl rfl) rfl (q := 10) rfl ?_
  generalize hmM2 : stM M1 4 10 0 = M2 at h ⊢
  replace h := lt_e h
  have hOM2 : OK M2 := by rw [← hmM2]; exact okf_6_10 hOM1
  refine mx_iconst (pc := 10) C dX6_keepWay_10 (z := 0) rfl (by constructor <;> decide) ?_
  refine mx_istore_n (pc := 11) C dX6_keepWay_11 (ls' := [some (aR 4), some (aI 0), none]) (by decide) rfl rfl ?_
  exact b_X6_keepWay_12 C FU 0 M2 hOM2 h

def f_X6_isBetter_15 (p1 : Int) (p2 : Int) : Nat → Int → Int → Int → Int → Int → Mem → Option (Int × Mem)
  | 0, _, _, _, _, _, _ => none
  | n + 1, x1, x2, x3, x4, x5, M => if 5 ≤ x5 then if x3 < M 4 9 then some (1, M) else if x3 = M 4 9 then if M 4 10 ≤ x4 then some (0, M) else some (1, M) else some (0, M) else if 0 ≤ w32 ((w32 (x1 * 5)) + x5) ∧ w32 ((w32 (x1 * 5)) + x5) < 35 then if 0 ≤ w32 ((w32 (x1 * 5)) + x5) ∧ w32 ((w32 (x1 * 5)) + x5) < 30 then (f_X6_heardFrom x1 x2 x5 M).bind (fun q7 => if 0 ≤ w32 ((w32 ((w32 (x1 * 5)) + x5)) + 5) ∧ w32 ((w32 ((w32 (x1 * 5)) + x5)) + 5) < 35 then lt (stM q7.2 10 (w32 ((w32 ((w32 (x1 * 5)) + x5)) + 5)) (w32 ((w32 ((M 10 (w32 ((w32 (x1 * 5)) + x5))) - (M 9 (w32 ((w32 (x1 * 5)) + x5))))) + q7.1))) (fun M10 => f_X6_isBetter_15 p1 p2 n x1 x2 (max x3 (w32 ((w32 ((M 10 (w32 ((w32 (x1 * 5)) + x5))) - (M 9 (w32 ((w32 (x1 * 5)) + x5))))) + q7.1))) (w32 (x4 + (w32 ((w32 ((M 10 (w32 ((w32 (x1 * 5)) + x5))) - (M 9 (w32 ((w32 (x1 * 5)) + x5))))) + q7.1)))) (w32 (x5 + 1)) M10) else none) else none else none
def f_X6_isBetter (p1 : Int) (p2 : Int) (M : Mem) : Option (Int × Mem) :=
  if 0 ≤ p1 ∧ p1 < 6 then lt (stM M 6 p1 p2) (fun M2 => f_X6_isBetter_15 p1 p2 FU p1 p2 0 0 0 M2) else none
set_option maxRecDepth 20000 in
set_option maxHeartbeats 4000000 in
theorem b_X6_isBetter_15 {K : KX} {B : BX} {res : Int × Mem} {p1 : Int} {p2 : Int} (C : Cx K B false yX6_isBetter cX6_isBetter 8 (some .boolean) 2 0 0) : ∀ (n : Nat) (x1 : Int) (x2 : Int) (x3 : Int) (x4 : Int) (x5 : Int) (M : Mem), OK M → f_X6_isBetter_15 p1 p2 n x1 x2 x3 x4 x5 M = some res → Wx K B (Zr K B (some (aI res.1)) SH res.2 (OK res.2 ∧ (res.1 = 0 ∨ res.1 = 1)) 0 0) 0 0 SH 8 M 15 [some (aR 4), some (aI x1), some (aI x2), some (aI x3), some (aI x4), some (aI x5), none, none] [] := by
  intro n
  induction n with
  | zero =>
    intro x1 x2 x3 x4 x5 M hOM h
    cases h
  | succ n ih =>
    intro x1 x2 x3 x4 x5 M hOM h
    rw [f_X6_isBetter_15.eq_2] at h
    refine mx_iload (pc := 15) C dX6_isBetter_15 rfl ?_
    refine mx_iconst (pc := 17) C dX6_isBetter_17 (z := 5) rfl (by constructor <;> decide) ?_
    refine mx_icmp_ge (pc := 18) (tgt := 86) C dX6_isBetter_18 rfl (fun c1 => ?_) (fun c1 => ?_)
    · rw [if_pos c1] at h
      refine mx_iload_n (pc := 86) C dX6_isBetter_86 rfl ?_
      refine mx_aload_n (pc := 87) C dX6_isBetter_87 rfl ?_
      refine mx_getI (pc := 88) C dX6_isBetter_88 so_6 ci_6 (k := 9) (by decide) fl_X6_84 rfl (q := 9) rfl ?_
      refine mx_icmp_lt (pc := 91) (tgt := 111) C dX6_isBetter_91 rfl (fun c2 => ?_) (fun c2 => ?_)
      · rw [if_pos c2] at h
        refine mx_iconst (pc := 111) C dX6_isBetter_111 (z := 1) rfl (by constructor <;> decide) ?_
        refine mx_goto (pc := 112) (tgt := 116) C dX6_isBetter_112 rfl ?_
        rw [← Option.some.inj h]
        exact mx_zreturn (pc := 116) C dX6_isBetter_116 (Or.inr rfl) ⟨hOM, (Or.inr rfl)⟩ ⟨Nat.le_refl _, Nat.le_refl _⟩
      · rw [if_neg c2] at h
        refine mx_iload_n (pc := 94) C dX6_isBetter_94 rfl ?_
        refine mx_aload_n (pc := 95) C dX6_isBetter_95 rfl ?_
        refine mx_getI (pc := 96) C dX6_isBetter_96 so_6 ci_6 (k := 9) (by decide) fl_X6_84 rfl (q := 9) rfl ?_
        refine mx_icmp_ne (pc := 99) (tgt := 115) C dX6_isBetter_99 rfl (fun c3 => ?_) (fun c3 => ?_)
        · rw [if_neg c3] at h
          refine mx_iconst (pc := 115) C dX6_isBetter_115 (z := 0) rfl (by constructor <;> decide) ?_
          rw [← Option.some.inj h]
          exact mx_zreturn (pc := 116) C dX6_isBetter_116 (Or.inl rfl) ⟨hOM, (Or.inl rfl)⟩ ⟨Nat.le_refl _, Nat.le_refl _⟩
        · rw [if_pos c3] at h
          refine mx_iload (pc := 102) C dX6_isBetter_102 rfl ?_
          refine mx_aload_n (pc := 104) C dX6_isBetter_104 rfl ?_
          refine mx_getI (pc := 105) C dX6_isBetter_105 so_6 ci_6 (k := 10) (by decide) fl_X6_87 rfl (q := 10) rfl ?_
          refine mx_icmp_ge (pc := 108) (tgt := 115) C dX6_isBetter_108 rfl (fun c4 => ?_) (fun c4 => ?_)
          · rw [if_pos c4] at h
            refine mx_iconst (pc := 115) C dX6_isBetter_115 (z := 0) rfl (by constructor <;> decide) ?_
            rw [← Option.some.inj h]
            exact mx_zreturn (pc := 116) C dX6_isBetter_116 (Or.inl rfl) ⟨hOM, (Or.inl rfl)⟩ ⟨Nat.le_refl _, Nat.le_refl _⟩
          · rw [if_neg c4] at h
            refine mx_iconst (pc := 111) C dX6_isBetter_111 (z := 1) rfl (by constructor <;> decide) ?_
            refine mx_goto (pc := 112) (tgt := 116) C dX6_isBetter_112 rfl ?_
            rw [← Option.some.inj h]
            exact mx_zreturn (pc := 116) C dX6_isBetter_116 (Or.inr rfl) ⟨hOM, (Or.inr rfl)⟩ ⟨Nat.le_refl _, Nat.le_refl _⟩
    · rw [if_neg c1] at h
      refine mx_iload_n (pc := 21) C dX6_isBetter_21 rfl ?_
      refine mx_iconst (pc := 22) C dX6_isBetter_22 (z := 5) rfl (by constructor <;> decide) ?_
      refine mx_imul (pc := 23) C dX6_isBetter_23  ?_
      refine mx_iload (pc := 24) C dX6_isBetter_24 rfl ?_
      refine mx_iadd (pc := 26) C dX6_isBetter_26  ?_
      refine mx_istore (pc := 27) C dX6_isBetter_27 (ls' := [some (aR 4), some (aI x1), some (aI x2), some (aI x3), some (aI x4), some (aI x5), some (aI (w32 ((w32 (x1 * 5)) + x5))), none]) (by decide) rfl rfl ?_
      refine mx_aload_n (pc := 29) C dX6_isBetter_29 rfl ?_
      refine mx_getR (pc := 30) (v := 10) C dX6_isBetter_30 so_6 ci_6 (k := 7) (by decide) fl_X6_28 rfl (q := 7) rfl (lay_6_7 hOM) (by decide) ?_
      refine mx_iload (pc := 33) C dX6_isBetter_33 rfl ?_
      obtain ⟨g5, h⟩ := of_gd h
      refine mx_iald (pc := 35) C dX6_isBetter_35 sh_6_7 g5.1 g5.2 ?_
      refine mx_aload_n (pc := 36) C dX6_isBetter_36 rfl ?_
      refine mx_getR (pc := 37) (v := 9) C dX6_isBetter_37 so_6 ci_6 (k := 6) (by decide) fl_X6_25 rfl (q := 6) rfl (lay_6_6 hOM) (by decide) ?_
      refine mx_iload (pc := 40) C dX6_isBetter_40 rfl ?_
      obtain ⟨g6, h⟩ := of_gd h
      refine mx_iald (pc := 42) C dX6_isBetter_42 sh_6_6 g6.1 g6.2 ?_
      refine mx_isub (pc := 43) C dX6_isBetter_43  ?_
      refine mx_aload_n (pc := 44) C dX6_isBetter_44 rfl ?_
      refine mx_iload_n (pc := 45) C dX6_isBetter_45 rfl ?_
      refine mx_iload_n (pc := 46) C dX6_isBetter_46 rfl ?_
      refine mx_iload (pc := 47) C dX6_isBetter_47 rfl ?_
      obtain ⟨q7, hq7, h⟩ := of_bd h
      refine mc_V (pc := 49) (as := [aI x1, aI x2, aI x5]) (rest := [aI (w32 ((M 10 (w32 ((w32 (x1 * 5)) + x5))) - (M 9 (w32 ((w32 (x1 * 5)) + x5)))))]) (stk2 := [aI q7.1, aI (w32 ((M 10 (w32 ((w32 (x1 * 5)) + x5))) - (M 9 (w32 ((w32 (x1 * 5)) + x5)))))]) C ⟨Nat.le_refl _, Nat.le_refl _⟩ (m_X6_heardFrom hOM hq7) mi_X6_heardFrom mv_X6_heardFrom ml_X6_70 ci_6 rfl so_6 (by omega) rfl (Nat.le_of_ble_eq_true rfl) dX6_isBetter_49 rfl (fun hp8 => ?_)
      have hOq7 : OK q7.2 := hp8
      refine mx_iadd (pc := 52) C dX6_isBetter_52  ?_
      refine mx_istore (pc := 53) C dX6_isBetter_53 (ls' := [some (aR 4), some (aI x1), some (aI x2), some (aI x3), some (aI x4), some (aI x5), some (aI (w32 ((w32 (x1 * 5)) + x5))), some (aI (w32 ((w32 ((M 10 (w32 ((w32 (x1 * 5)) + x5))) - (M 9 (w32 ((w32 (x1 * 5)) + x5))))) + q7.1)))]) (by decide) rfl rfl ?_
      refine mx_aload_n (pc := 55) C dX6_isBetter_55 rfl ?_
      refine mx_getR (pc := 56) (v := 10) C dX6_isBetter_56 so_6 ci_6 (k := 7) (by decide) fl_X6_28 rfl (q := 7) rfl (lay_6_7 hOq7) (by decide) ?_
      refine mx_iload (pc := 59) C dX6_isBetter_59 rfl ?_
      refine mx_iconst (pc := 61) C dX6_isBetter_61 (z := 5) rfl (by constructor <;> decide) ?_
      refine mx_iadd (pc := 62) C dX6_isBetter_62  ?_
      refine mx_iload (pc := 63) C dX6_isBetter_63 rfl ?_
      obtain ⟨g9, h⟩ := of_gd h
      refine mx_iast (pc := 65) C dX6_isBetter_65 sh_6_7 g9.1 g9.2 ?_
      generalize hmM10 : stM q7.2 10 (w32 ((w32 ((w32 (x1 * 5)) + x5)) + 5)) (w32 ((w32 ((M 10 (w32 ((w32 (x1 * 5)) + x5))) - (M 9 (w32 ((w32 (x1 * 5)) + x5))))) + q7.1)) = M10 at h ⊢
      replace h := lt_e h
      have hOM10 : OK M10 := by rw [← hmM10]; exact ok_arr hOq7 sh_6_7 (by decide)
      refine mx_iload_n (pc := 66) C dX6_isBetter_66 rfl ?_
      refine mx_iload (pc := 67) C dX6_isBetter_67 rfl ?_
      refine mx_max (pc := 69) C ⟨Nat.le_refl _, Nat.le_refl _⟩ (by omega) (Nat.le_of_ble_eq_true rfl) ml_X6_74 dX6_isBetter_69 ?_
      refine mx_istore_n (pc := 72) C dX6_isBetter_72 (ls' := [some (aR 4), some (aI x1), some (aI x2), some (aI (max x3 (w32 ((w32 ((M 10 (w32 ((w32 (x1 * 5)) + x5))) - (M 9 (w32 ((w32 (x1 * 5)) + x5))))) + q7.1)))), some (aI x4), some (aI x5), some (aI (w32 ((w32 (x1 * 5)) + x5))), some (aI (w32 ((w32 ((M 10 (w32 ((w32 (x1 * 5)) + x5))) - (M 9 (w32 ((w32 (x1 * 5)) + x5))))) + q7.1)))]) (by decide) rfl rfl ?_
      refine mx_iload (pc := 73) C dX6_isBetter_73 rfl ?_
      refine mx_iload (pc := 75) C dX6_isBetter_75 rfl ?_
      refine mx_iadd (pc := 77) C dX6_isBetter_77  ?_
      refine mx_istore (pc := 78) C dX6_isBetter_78 (ls' := [some (aR 4), some (aI x1), some (aI x2), some (aI (max x3 (w32 ((w32 ((M 10 (w32 ((w32 (x1 * 5)) + x5))) - (M 9 (w32 ((w32 (x1 * 5)) + x5))))) + q7.1)))), some (aI (w32 (x4 + (w32 ((w32 ((M 10 (w32 ((w32 (x1 * 5)) + x5))) - (M 9 (w32 ((w32 (x1 * 5)) + x5))))) + q7.1))))), some (aI x5), some (aI (w32 ((w32 (x1 * 5)) + x5))), some (aI (w32 ((w32 ((M 10 (w32 ((w32 (x1 * 5)) + x5))) - (M 9 (w32 ((w32 (x1 * 5)) + x5))))) + q7.1)))]) (by decide) rfl rfl ?_
      refine mx_iinc (pc := 80) C dX6_isBetter_80 (ls' := [some (aR 4), some (aI x1), some (aI x2), some (aI (max x3 (w32 ((w32 ((M 10 (w32 ((w32 (x1 * 5)) + x5))) - (M 9 (w32 ((w32 (x1 * 5)) + x5))))) + q7.1)))), some (aI (w32 (x4 + (w32 ((w32 ((M 10 (w32 ((w32 (x1 * 5)) + x5))) - (M 9 (w32 ((w32 (x1 * 5)) + x5))))) + q7.1))))), some (aI (w32 (x5 + 1))), some (aI (w32 ((w32 (x1 * 5)) + x5))), some (aI (w32 ((w32 ((M 10 (w32 ((w32 (x1 * 5)) + x5))) - (M 9 (w32 ((w32 (x1 * 5)) + x5))))) + q7.1)))]) rfl (by decide) rfl (by constructor <;> decide) rfl rfl ?_
      refine mx_goto (pc := 83) (tgt := 15) C dX6_isBetter_83 rfl ?_
      refine mx_mask [true, true, true, true, true, true, false, false] (ls' := [some (aR 4), some (aI x1), some (aI x2), some (aI (max x3 (w32 ((w32 ((M 10 (w32 ((w32 (x1 * 5)) + x5))) - (M 9 (w32 ((w32 (x1 * 5)) + x5))))) + q7.1)))), some (aI (w32 (x4 + (w32 ((w32 ((M 10 (w32 ((w32 (x1 * 5)) + x5))) - (M 9 (w32 ((w32 (x1 * 5)) + x5))))) + q7.1))))), some (aI (w32 (x5 + 1))), none, none]) rfl rfl ?_
      exact ih x1 x2 (max x3 (w32 ((w32 ((M 10 (w32 ((w32 (x1 * 5)) + x5))) - (M 9 (w32 ((w32 (x1 * 5)) + x5))))) + q7.1))) (w32 (x4 + (w32 ((w32 ((M 10 (w32 ((w32 (x1 * 5)) + x5))) - (M 9 (w32 ((w32 (x1 * 5)) + x5))))) + q7.1)))) (w32 (x5 + 1)) M10 hOM10 h
set_option maxRecDepth 20000 in
set_option maxHeartbeats 4000000 in
theorem m_X6_isBetter {p1 : Int} {p2 : Int} {M : Mem} {res : Int × Mem} (hOM : OK M) (h : f_X6_isBetter p1 p2 M = some res) : Mth false yX6_isBetter cX6_isBetter 8 (some .boolean) 2 0 0 SH [aR 4, aI p1, aI p2] M (some (aI res.1)) SH res.2 (OK res.2 ∧ (res.1 = 0 ∨ res.1 = 1)) := by
  refine Mth.of (by decide +kernel) (Nat.le_of_ble_eq_true rfl) (fun K B C => ?_)
  show Wx K B _ 0 0 SH 8 M 0 [some (aR 4), some (aI p1), some (aI p2), none, none, none, none, none] []
  unfold f_X6_isBetter at h
  refine mx_aload_n (pc := 0) C dX6_isBetter_0 rfl ?_
  refine mx_getR (pc := 1) (v := 6) C dX6_isBetter_1 so_6 ci_6 (k := 3) (by decide) fl_X6_15 rfl (q := 3) rfl (lay_6_3 hOM) (by decide) ?_
  refine mx_iload_n (pc := 4) C dX6_isBetter_4 rfl ?_
  refine mx_iload_n (pc := 5) C dX6_isBetter_5 rfl ?_
  obtain ⟨g1, h⟩ := of_gd h
  refine mx_iast (pc := 6) C dX6_isBetter_6 sh_6_3 g1.1 g1.2 ?_
  generalize hmM2 : stM M 6 p1 p2 = M2 at h ⊢
  replace h := lt_e h
  have hOM2 : OK M2 := by rw [← hmM2]; exact ok_arr hOM sh_6_3 (by decide)
  refine mx_iconst (pc := 7) C dX6_isBetter_7 (z := 0) rfl (by constructor <;> decide) ?_
  refine mx_istore_n (pc := 8) C dX6_isBetter_8 (ls' := [some (aR 4), some (aI p1), some (aI p2), some (aI 0), none, none, none, none]) (by decide) rfl rfl ?_
  refine mx_iconst (pc := 9) C dX6_isBetter_9 (z := 0) rfl (by constructor <;> decide) ?_
  refine mx_istore (pc := 10) C dX6_isBetter_10 (ls' := [some (aR 4), some (aI p1), some (aI p2), some (aI 0), some (aI 0), none, none, none]) (by decide) rfl rfl ?_
  refine mx_iconst (pc := 12) C dX6_isBetter_12 (z := 0) rfl (by constructor <;> decide) ?_
  refine mx_istore (pc := 13) C dX6_isBetter_13 (ls' := [some (aR 4), some (aI p1), some (aI p2), some (aI 0), some (aI 0), some (aI 0), none, none]) (by decide) rfl rfl ?_
  exact b_X6_isBetter_15 C FU p1 p2 0 0 0 M2 hOM2 h

def s_X6_shareFrom_69 (rc : Int → Mem → Option (Int × Mem)) (p1 : Int) (k46 : Int → Int → Int → Mem → Option (Int × Mem)) (x1 : Int) (x3 : Int) (x4 : Int) (M : Mem) : Option (Int × Mem) :=
  k46 x1 x3 (w32 (x4 + 1)) M
def s_X6_shareFrom_46 (rc : Int → Mem → Option (Int × Mem)) (p1 : Int) : Nat → Int → Int → Int → Mem → Option (Int × Mem)
  | 0, _, _, _, _ => none
  | n + 1, x1, x3, x4, M => if x3 < x4 then some (0, M) else (f_X6_isBetter x1 x4 M).bind (fun q2 => if q2.1 = 0 then s_X6_shareFrom_69 rc p1 (s_X6_shareFrom_46 rc p1 n) x1 x3 x4 q2.2 else (rc (w32 (x1 + 1)) q2.2).bind (fun q5 => s_X6_shareFrom_69 rc p1 (s_X6_shareFrom_46 rc p1 n) x1 x3 x4 q5.2))
def s_X6_shareFrom_42 (rc : Int → Mem → Option (Int × Mem)) (p1 : Int) (x1 : Int) (x2 : Int) (t0 : Int) (M : Mem) : Option (Int × Mem) :=
  s_X6_shareFrom_46 rc p1 FU x1 t0 x2 M
def s_X6_shareFrom_27 (rc : Int → Mem → Option (Int × Mem)) (p1 : Int) (x1 : Int) (t0 : Int) (M : Mem) : Option (Int × Mem) :=
  if 0 ≤ x1 ∧ x1 < 6 then if M 8 x1 = 0 then s_X6_shareFrom_42 rc p1 x1 t0 4 M else s_X6_shareFrom_42 rc p1 x1 t0 (-1) M else none
def s_X6_shareFrom (rc : Int → Mem → Option (Int × Mem)) (p1 : Int) (M : Mem) : Option (Int × Mem) :=
  if p1 < M 4 0 then if 0 ≤ p1 ∧ p1 < 6 then if M 8 p1 = 0 then s_X6_shareFrom_27 rc p1 p1 0 M else s_X6_shareFrom_27 rc p1 p1 (-1) M else none else (f_X6_keepWay M).bind (fun q5 => some (0, q5.2))
set_option maxRecDepth 20000 in
set_option maxHeartbeats 4000000 in
theorem b_X6_shareFrom_69 {K : KX} {B : BX} {res : Int × Mem} {d : Nat} {d_X6_shareFrom : Nat} {p1 : Int} {rc : Int → Mem → Option (Int × Mem)} {k46 : Int → Int → Int → Mem → Option (Int × Mem)} (C : Cx K B false yX6_shareFrom cX6_shareFrom 5 none d 0 0) (hdc : 3 ≤ d) (hd_X6_shareFrom : d_X6_shareFrom + 1 ≤ d) (hrc : ∀ (p1 : Int) (M : Mem) (res : Int × Mem), OK M → rc p1 M = some res → Mth false yX6_shareFrom cX6_shareFrom 5 none d_X6_shareFrom 0 0 SH [aR 4, aI p1] M none SH res.2 (OK res.2)) (hk46 : ∀ (x1 : Int) (x3 : Int) (x4 : Int) (M : Mem), OK M → k46 x1 x3 x4 M = some res → Wx K B (Zr K B none SH res.2 (OK res.2) 0 0) 0 0 SH 5 M 46 [some (aR 4), some (aI x1), none, some (aI x3), some (aI x4)] []) : ∀ (x1 : Int) (x3 : Int) (x4 : Int) (M : Mem), OK M → s_X6_shareFrom_69 rc p1 k46 x1 x3 x4 M = some res → Wx K B (Zr K B none SH res.2 (OK res.2) 0 0) 0 0 SH 5 M 69 [some (aR 4), some (aI x1), none, some (aI x3), some (aI x4)] [] := by
  intro x1 x3 x4 M hOM h
  unfold s_X6_shareFrom_69 at h
  refine mx_iinc (pc := 69) C dX6_shareFrom_69 (ls' := [some (aR 4), some (aI x1), none, some (aI x3), some (aI (w32 (x4 + 1)))]) rfl (by decide) rfl (by constructor <;> decide) rfl rfl ?_
  refine mx_goto (pc := 72) (tgt := 46) C dX6_shareFrom_72 rfl ?_
  exact hk46 x1 x3 (w32 (x4 + 1)) M hOM h
set_option maxRecDepth 20000 in
set_option maxHeartbeats 4000000 in
theorem b_X6_shareFrom_46 {K : KX} {B : BX} {res : Int × Mem} {d : Nat} {d_X6_shareFrom : Nat} {p1 : Int} {rc : Int → Mem → Option (Int × Mem)} (C : Cx K B false yX6_shareFrom cX6_shareFrom 5 none d 0 0) (hdc : 3 ≤ d) (hd_X6_shareFrom : d_X6_shareFrom + 1 ≤ d) (hrc : ∀ (p1 : Int) (M : Mem) (res : Int × Mem), OK M → rc p1 M = some res → Mth false yX6_shareFrom cX6_shareFrom 5 none d_X6_shareFrom 0 0 SH [aR 4, aI p1] M none SH res.2 (OK res.2)) : ∀ (n : Nat) (x1 : Int) (x3 : Int) (x4 : Int) (M : Mem), OK M → s_X6_shareFrom_46 rc p1 n x1 x3 x4 M = some res → Wx K B (Zr K B none SH res.2 (OK res.2) 0 0) 0 0 SH 5 M 46 [some (aR 4), some (aI x1), none, some (aI x3), some (aI x4)] [] := by
  intro n
  induction n with
  | zero =>
    intro x1 x3 x4 M hOM h
    cases h
  | succ n ih =>
    intro x1 x3 x4 M hOM h
    rw [s_X6_shareFrom_46.eq_2] at h
    refine mx_iload (pc := 46) C dX6_shareFrom_46 rfl ?_
    refine mx_iload_n (pc := 48) C dX6_shareFrom_48 rfl ?_
    refine mx_icmp_gt (pc := 49) (tgt := 75) C dX6_shareFrom_49 rfl (fun c1 => ?_) (fun c1 => ?_)
    · rw [if_pos c1] at h
      rw [← Option.some.inj h]
      exact mx_return (pc := 75) C dX6_shareFrom_75 hOM ⟨Nat.le_refl _, Nat.le_refl _⟩
    · rw [if_neg c1] at h
      refine mx_aload_n (pc := 52) C dX6_shareFrom_52 rfl ?_
      refine mx_iload_n (pc := 53) C dX6_shareFrom_53 rfl ?_
      refine mx_iload (pc := 54) C dX6_shareFrom_54 rfl ?_
      obtain ⟨q2, hq2, h⟩ := of_bd h
      refine mc_V (pc := 56) (as := [aI x1, aI x4]) (rest := []) (stk2 := [aI q2.1]) C ⟨Nat.le_refl _, Nat.le_refl _⟩ (m_X6_isBetter hOM hq2) mi_X6_isBetter mv_X6_isBetter ml_X6_103 ci_6 rfl so_6 (by omega) rfl (Nat.le_of_ble_eq_true rfl) dX6_shareFrom_56 rfl (fun hp3 => ?_)
      have hOq2 : OK q2.2 := hp3.1
      refine mx_if_eq (pc := 59) (tgt := 69) C dX6_shareFrom_59 rfl (fun c4 => ?_) (fun c4 => ?_)
      · rw [if_pos c4] at h
        exact b_X6_shareFrom_69 C hdc hd_X6_shareFrom hrc ih x1 x3 x4 q2.2 hOq2 h
      · rw [if_neg c4] at h
        refine mx_aload_n (pc := 62) C dX6_shareFrom_62 rfl ?_
        refine mx_iload_n (pc := 63) C dX6_shareFrom_63 rfl ?_
        refine mx_iconst (pc := 64) C dX6_shareFrom_64 (z := 1) rfl (by constructor <;> decide) ?_
        refine mx_iadd (pc := 65) C dX6_shareFrom_65  ?_
        obtain ⟨q5, hq5, h⟩ := of_bd h
        refine mc_V (pc := 66) (as := [aI (w32 (x1 + 1))]) (rest := []) (stk2 := []) C ⟨Nat.le_refl _, Nat.le_refl _⟩ (hrc (w32 (x1 + 1)) q2.2 _ hOq2 hq5) mi_X6_shareFrom mv_X6_shareFrom ml_X6_93 ci_6 rfl so_6 (by omega) rfl (Nat.le_of_ble_eq_true rfl) dX6_shareFrom_66 rfl (fun hp6 => ?_)
        have hOq5 : OK q5.2 := hp6
        exact b_X6_shareFrom_69 C hdc hd_X6_shareFrom hrc ih x1 x3 x4 q5.2 hOq5 h
set_option maxRecDepth 20000 in
set_option maxHeartbeats 4000000 in
theorem b_X6_shareFrom_42 {K : KX} {B : BX} {res : Int × Mem} {d : Nat} {d_X6_shareFrom : Nat} {p1 : Int} {rc : Int → Mem → Option (Int × Mem)} (C : Cx K B false yX6_shareFrom cX6_shareFrom 5 none d 0 0) (hdc : 3 ≤ d) (hd_X6_shareFrom : d_X6_shareFrom + 1 ≤ d) (hrc : ∀ (p1 : Int) (M : Mem) (res : Int × Mem), OK M → rc p1 M = some res → Mth false yX6_shareFrom cX6_shareFrom 5 none d_X6_shareFrom 0 0 SH [aR 4, aI p1] M none SH res.2 (OK res.2)) : ∀ (x1 : Int) (x2 : Int) (t0 : Int) (M : Mem), OK M → s_X6_shareFrom_42 rc p1 x1 x2 t0 M = some res → Wx K B (Zr K B none SH res.2 (OK res.2) 0 0) 0 0 SH 5 M 42 [some (aR 4), some (aI x1), some (aI x2), none, none] [aI t0] := by
  intro x1 x2 t0 M hOM h
  unfold s_X6_shareFrom_42 at h
  refine mx_istore_n (pc := 42) C dX6_shareFrom_42 (ls' := [some (aR 4), some (aI x1), some (aI x2), some (aI t0), none]) (by decide) rfl rfl ?_
  refine mx_iload_n (pc := 43) C dX6_shareFrom_43 rfl ?_
  refine mx_istore (pc := 44) C dX6_shareFrom_44 (ls' := [some (aR 4), some (aI x1), some (aI x2), some (aI t0), some (aI x2)]) (by decide) rfl rfl ?_
  refine mx_mask [true, true, false, true, true] (ls' := [some (aR 4), some (aI x1), none, some (aI t0), some (aI x2)]) rfl rfl ?_
  exact b_X6_shareFrom_46 C hdc hd_X6_shareFrom hrc FU x1 t0 x2 M hOM h
set_option maxRecDepth 20000 in
set_option maxHeartbeats 4000000 in
theorem b_X6_shareFrom_27 {K : KX} {B : BX} {res : Int × Mem} {d : Nat} {d_X6_shareFrom : Nat} {p1 : Int} {rc : Int → Mem → Option (Int × Mem)} (C : Cx K B false yX6_shareFrom cX6_shareFrom 5 none d 0 0) (hdc : 3 ≤ d) (hd_X6_shareFrom : d_X6_shareFrom + 1 ≤ d) (hrc : ∀ (p1 : Int) (M : Mem) (res : Int × Mem), OK M → rc p1 M = some res → Mth false yX6_shareFrom cX6_shareFrom 5 none d_X6_shareFrom 0 0 SH [aR 4, aI p1] M none SH res.2 (OK res.2)) : ∀ (x1 : Int) (t0 : Int) (M : Mem), OK M → s_X6_shareFrom_27 rc p1 x1 t0 M = some res → Wx K B (Zr K B none SH res.2 (OK res.2) 0 0) 0 0 SH 5 M 27 [some (aR 4), some (aI x1), none, none, none] [aI t0] := by
  intro x1 t0 M hOM h
  unfold s_X6_shareFrom_27 at h
  refine mx_istore_n (pc := 27) C dX6_shareFrom_27 (ls' := [some (aR 4), some (aI x1), some (aI t0), none, none]) (by decide) rfl rfl ?_
  refine mx_aload_n (pc := 28) C dX6_shareFrom_28 rfl ?_
  refine mx_getR (pc := 29) (v := 8) C dX6_shareFrom_29 so_6 ci_6 (k := 5) (by decide) fl_X6_21 rfl (q := 5) rfl (lay_6_5 hOM) (by decide) ?_
  refine mx_iload_n (pc := 32) C dX6_shareFrom_32 rfl ?_
  obtain ⟨g1, h⟩ := of_gd h
  refine mx_zald (pc := 33) C dX6_shareFrom_33 sh_6_5 g1.1 g1.2 (fun z2 => ?_)
  refine mx_if_eq (pc := 34) (tgt := 41) C dX6_shareFrom_34 rfl (fun c3 => ?_) (fun c3 => ?_)
  · rw [if_pos c3] at h
    refine mx_iconst (pc := 41) C dX6_shareFrom_41 (z := 4) rfl (by constructor <;> decide) ?_
    exact b_X6_shareFrom_42 C hdc hd_X6_shareFrom hrc x1 t0 4 M hOM h
  · rw [if_neg c3] at h
    refine mx_iconst (pc := 37) C dX6_shareFrom_37 (z := (-1)) rfl (by constructor <;> decide) ?_
    refine mx_goto (pc := 38) (tgt := 42) C dX6_shareFrom_38 rfl ?_
    exact b_X6_shareFrom_42 C hdc hd_X6_shareFrom hrc x1 t0 (-1) M hOM h
set_option maxRecDepth 20000 in
set_option maxHeartbeats 4000000 in
theorem mr_X6_shareFrom {d : Nat} {d_X6_shareFrom : Nat} {p1 : Int} {M : Mem} {res : Int × Mem} {rc : Int → Mem → Option (Int × Mem)} (hdc : 3 ≤ d) (hd_X6_shareFrom : d_X6_shareFrom + 1 ≤ d) (hrc : ∀ (p1 : Int) (M : Mem) (res : Int × Mem), OK M → rc p1 M = some res → Mth false yX6_shareFrom cX6_shareFrom 5 none d_X6_shareFrom 0 0 SH [aR 4, aI p1] M none SH res.2 (OK res.2)) (hOM : OK M) (h : s_X6_shareFrom rc p1 M = some res) : Mth false yX6_shareFrom cX6_shareFrom 5 none d 0 0 SH [aR 4, aI p1] M none SH res.2 (OK res.2) := by
  refine Mth.of (by decide +kernel) (Nat.le_of_ble_eq_true rfl) (fun K B C => ?_)
  show Wx K B _ 0 0 SH 5 M 0 [some (aR 4), some (aI p1), none, none, none] []
  unfold s_X6_shareFrom at h
  refine mx_iload_n (pc := 0) C dX6_shareFrom_0 rfl ?_
  refine mx_aload_n (pc := 1) C dX6_shareFrom_1 rfl ?_
  refine mx_getI (pc := 2) C dX6_shareFrom_2 so_6 ci_6 (k := 0) (by decide) fl_X6_43 rfl (q := 0) rfl ?_
  refine mx_icmp_lt (pc := 5) (tgt := 13) C dX6_shareFrom_5 rfl (fun c1 => ?_) (fun c1 => ?_)
  · rw [if_pos c1] at h
    refine mx_aload_n (pc := 13) C dX6_shareFrom_13 rfl ?_
    refine mx_getR (pc := 14) (v := 8) C dX6_shareFrom_14 so_6 ci_6 (k := 5) (by decide) fl_X6_21 rfl (q := 5) rfl (lay_6_5 hOM) (by decide) ?_
    refine mx_iload_n (pc := 17) C dX6_shareFrom_17 rfl ?_
    obtain ⟨g2, h⟩ := of_gd h
    refine mx_zald (pc := 18) C dX6_shareFrom_18 sh_6_5 g2.1 g2.2 (fun z3 => ?_)
    refine mx_if_eq (pc := 19) (tgt := 26) C dX6_shareFrom_19 rfl (fun c4 => ?_) (fun c4 => ?_)
    · rw [if_pos c4] at h
      refine mx_iconst (pc := 26) C dX6_shareFrom_26 (z := 0) rfl (by constructor <;> decide) ?_
      exact b_X6_shareFrom_27 C hdc hd_X6_shareFrom hrc p1 0 M hOM h
    · rw [if_neg c4] at h
      refine mx_iconst (pc := 22) C dX6_shareFrom_22 (z := (-1)) rfl (by constructor <;> decide) ?_
      refine mx_goto (pc := 23) (tgt := 27) C dX6_shareFrom_23 rfl ?_
      exact b_X6_shareFrom_27 C hdc hd_X6_shareFrom hrc p1 (-1) M hOM h
  · rw [if_neg c1] at h
    refine mx_aload_n (pc := 8) C dX6_shareFrom_8 rfl ?_
    obtain ⟨q5, hq5, h⟩ := of_bd h
    refine mc_V (pc := 9) (as := []) (rest := []) (stk2 := []) C ⟨Nat.le_refl _, Nat.le_refl _⟩ (m_X6_keepWay hOM hq5) mi_X6_keepWay mv_X6_keepWay ml_X6_100 ci_6 rfl so_6 (by omega) rfl (Nat.le_of_ble_eq_true rfl) dX6_shareFrom_9 rfl (fun hp6 => ?_)
    have hOq5 : OK q5.2 := hp6
    rw [← Option.some.inj h]
    exact mx_return (pc := 12) C dX6_shareFrom_12 hOq5 ⟨Nat.le_refl _, Nat.le_refl _⟩
def f_X6_shareFrom : Nat → Int → Mem → Option (Int × Mem)
  | 0, _, _ => none
  | n + 1, p1, M => s_X6_shareFrom (f_X6_shareFrom n) p1 M
theorem mg_X6_shareFrom : ∀ (n : Nat) (p1 : Int) (M : Mem) (res : Int × Mem), OK M → f_X6_shareFrom n p1 M = some res → Mth false yX6_shareFrom cX6_shareFrom 5 none (3 * n) 0 0 SH [aR 4, aI p1] M none SH res.2 (OK res.2) := by
  intro n
  induction n with
  | zero =>
    intro p1 M res hO h
    cases h
  | succ n ih =>
    intro p1 M res hO h
    rw [f_X6_shareFrom.eq_2] at h
    exact mr_X6_shareFrom (d := 3 * (n + 1)) (d_X6_shareFrom := 3 * n) (by omega) (by omega) ih hO h
theorem m_X6_shareFrom {p1 : Int} {M : Mem} {res : Int × Mem} (hO : OK M) (h : f_X6_shareFrom 8 p1 M = some res) : Mth false yX6_shareFrom cX6_shareFrom 5 none 24 0 0 SH [aR 4, aI p1] M none SH res.2 (OK res.2) := mg_X6_shareFrom 8 p1 M res hO h

def f_X6_shareOut_28 (k14 : Int → Mem → Option (Int × Mem)) : Nat → Int → Int → Mem → Option (Int × Mem)
  | 0, _, _, _ => none
  | n + 1, x1, x2, M => if M 4 0 ≤ x2 then k14 (w32 (x1 + 1)) M else (f_X6_leastHeard x2 x1 M).bind (fun q2 => if 0 ≤ w32 ((w32 (x2 * 5)) + x1) ∧ w32 ((w32 (x2 * 5)) + x1) < 30 then lt (stM q2.2 9 (w32 ((w32 (x2 * 5)) + x1)) q2.1) (fun M5 => if 0 ≤ x1 ∧ x1 < 35 then if 0 ≤ w32 ((w32 (x2 * 5)) + x1) ∧ w32 ((w32 (x2 * 5)) + x1) < 30 then if 0 ≤ x1 ∧ x1 < 35 then lt (stM M5 10 x1 (w32 ((M5 10 x1) + (M5 9 (w32 ((w32 (x2 * 5)) + x1)))))) (fun M9 => f_X6_shareOut_28 k14 n x1 (w32 (x2 + 1)) M9) else none else none else none) else none)
def f_X6_shareOut_14 : Nat → Int → Mem → Option (Int × Mem)
  | 0, _, _ => none
  | n + 1, x1, M => if 5 ≤ x1 then (f_X6_shareFrom 8 0 M).bind (fun q2 => some (0, q2.2)) else if 0 ≤ x1 ∧ x1 < 35 then lt (stM M 10 x1 0) (fun M5 => f_X6_shareOut_28 (f_X6_shareOut_14 n) FU x1 0 M5) else none
def f_X6_shareOut (M : Mem) : Option (Int × Mem) :=
  lt (stM M 4 9 1000000) (fun M1 => lt (stM M1 4 10 1000000) (fun M2 => f_X6_shareOut_14 FU 0 M2))
set_option maxRecDepth 20000 in
set_option maxHeartbeats 4000000 in
theorem b_X6_shareOut_28 {K : KX} {B : BX} {res : Int × Mem} {k14 : Int → Mem → Option (Int × Mem)} (C : Cx K B false yX6_shareOut cX6_shareOut 3 none 25 0 0) (hk14 : ∀ (x1 : Int) (M : Mem), OK M → k14 x1 M = some res → Wx K B (Zr K B none SH res.2 (OK res.2) 0 0) 0 0 SH 3 M 14 [some (aR 4), some (aI x1), none] []) : ∀ (n : Nat) (x1 : Int) (x2 : Int) (M : Mem), OK M → f_X6_shareOut_28 k14 n x1 x2 M = some res → Wx K B (Zr K B none SH res.2 (OK res.2) 0 0) 0 0 SH 3 M 28 [some (aR 4), some (aI x1), some (aI x2)] [] := by
  intro n
  induction n with
  | zero =>
    intro x1 x2 M hOM h
    cases h
  | succ n ih =>
    intro x1 x2 M hOM h
    rw [f_X6_shareOut_28.eq_2] at h
    refine mx_iload_n (pc := 28) C dX6_shareOut_28 rfl ?_
    refine mx_aload_n (pc := 29) C dX6_shareOut_29 rfl ?_
    refine mx_getI (pc := 30) C dX6_shareOut_30 so_6 ci_6 (k := 0) (by decide) fl_X6_43 rfl (q := 0) rfl ?_
    refine mx_icmp_ge (pc := 33) (tgt := 77) C dX6_shareOut_33 rfl (fun c1 => ?_) (fun c1 => ?_)
    · rw [if_pos c1] at h
      refine mx_iinc (pc := 77) C dX6_shareOut_77 (ls' := [some (aR 4), some (aI (w32 (x1 + 1))), some (aI x2)]) rfl (by decide) rfl (by constructor <;> decide) rfl rfl ?_
      refine mx_goto (pc := 80) (tgt := 14) C dX6_shareOut_80 rfl ?_
      refine mx_mask [true, true, false] (ls' := [some (aR 4), some (aI (w32 (x1 + 1))), none]) rfl rfl ?_
      exact hk14 (w32 (x1 + 1)) M hOM h
    · rw [if_neg c1] at h
      refine mx_aload_n (pc := 36) C dX6_shareOut_36 rfl ?_
      refine mx_getR (pc := 37) (v := 9) C dX6_shareOut_37 so_6 ci_6 (k := 6) (by decide) fl_X6_25 rfl (q := 6) rfl (lay_6_6 hOM) (by decide) ?_
      refine mx_iload_n (pc := 40) C dX6_shareOut_40 rfl ?_
      refine mx_iconst (pc := 41) C dX6_shareOut_41 (z := 5) rfl (by constructor <;> decide) ?_
      refine mx_imul (pc := 42) C dX6_shareOut_42  ?_
      refine mx_iload_n (pc := 43) C dX6_shareOut_43 rfl ?_
      refine mx_iadd (pc := 44) C dX6_shareOut_44  ?_
      refine mx_aload_n (pc := 45) C dX6_shareOut_45 rfl ?_
      refine mx_iload_n (pc := 46) C dX6_shareOut_46 rfl ?_
      refine mx_iload_n (pc := 47) C dX6_shareOut_47 rfl ?_
      obtain ⟨q2, hq2, h⟩ := of_bd h
      refine mc_V (pc := 48) (as := [aI x2, aI x1]) (rest := [aI (w32 ((w32 (x2 * 5)) + x1)), aR 9]) (stk2 := [aI q2.1, aI (w32 ((w32 (x2 * 5)) + x1)), aR 9]) C ⟨Nat.le_refl _, Nat.le_refl _⟩ (m_X6_leastHeard hOM hq2) mi_X6_leastHeard mv_X6_leastHeard ml_X6_90 ci_6 rfl so_6 (by omega) rfl (Nat.le_of_ble_eq_true rfl) dX6_shareOut_48 rfl (fun hp3 => ?_)
      have hOq2 : OK q2.2 := hp3
      obtain ⟨g4, h⟩ := of_gd h
      refine mx_iast (pc := 51) C dX6_shareOut_51 sh_6_6 g4.1 g4.2 ?_
      generalize hmM5 : stM q2.2 9 (w32 ((w32 (x2 * 5)) + x1)) q2.1 = M5 at h ⊢
      replace h := lt_e h
      have hOM5 : OK M5 := by rw [← hmM5]; exact ok_arr hOq2 sh_6_6 (by decide)
      refine mx_aload_n (pc := 52) C dX6_shareOut_52 rfl ?_
      refine mx_getR (pc := 53) (v := 10) C dX6_shareOut_53 so_6 ci_6 (k := 7) (by decide) fl_X6_28 rfl (q := 7) rfl (lay_6_7 hOM5) (by decide) ?_
      refine mx_iload_n (pc := 56) C dX6_shareOut_56 rfl ?_
      refine mx_dup2 (pc := 57) C dX6_shareOut_57 rfl rfl ?_
      obtain ⟨g6, h⟩ := of_gd h
      refine mx_iald (pc := 58) C dX6_shareOut_58 sh_6_7 g6.1 g6.2 ?_
      refine mx_aload_n (pc := 59) C dX6_shareOut_59 rfl ?_
      refine mx_getR (pc := 60) (v := 9) C dX6_shareOut_60 so_6 ci_6 (k := 6) (by decide) fl_X6_25 rfl (q := 6) rfl (lay_6_6 hOM5) (by decide) ?_
      refine mx_iload_n (pc := 63) C dX6_shareOut_63 rfl ?_
      refine mx_iconst (pc := 64) C dX6_shareOut_64 (z := 5) rfl (by constructor <;> decide) ?_
      refine mx_imul (pc := 65) C dX6_shareOut_65  ?_
      refine mx_iload_n (pc := 66) C dX6_shareOut_66 rfl ?_
      refine mx_iadd (pc := 67) C dX6_shareOut_67  ?_
      obtain ⟨g7, h⟩ := of_gd h
      refine mx_iald (pc := 68) C dX6_shareOut_68 sh_6_6 g7.1 g7.2 ?_
      refine mx_iadd (pc := 69) C dX6_shareOut_69  ?_
      obtain ⟨g8, h⟩ := of_gd h
      refine mx_iast (pc := 70) C dX6_shareOut_70 sh_6_7 g8.1 g8.2 ?_
      generalize hmM9 : stM M5 10 x1 (w32 ((M5 10 x1) + (M5 9 (w32 ((w32 (x2 * 5)) + x1))))) = M9 at h ⊢
      replace h := lt_e h
      have hOM9 : OK M9 := by rw [← hmM9]; exact ok_arr hOM5 sh_6_7 (by decide)
      refine mx_iinc (pc := 71) C dX6_shareOut_71 (ls' := [some (aR 4), some (aI x1), some (aI (w32 (x2 + 1)))]) rfl (by decide) rfl (by constructor <;> decide) rfl rfl ?_
      refine mx_goto (pc := 74) (tgt := 28) C dX6_shareOut_74 rfl ?_
      exact ih x1 (w32 (x2 + 1)) M9 hOM9 h
set_option maxRecDepth 20000 in
set_option maxHeartbeats 4000000 in
theorem b_X6_shareOut_14 {K : KX} {B : BX} {res : Int × Mem} (C : Cx K B false yX6_shareOut cX6_shareOut 3 none 25 0 0) : ∀ (n : Nat) (x1 : Int) (M : Mem), OK M → f_X6_shareOut_14 n x1 M = some res → Wx K B (Zr K B none SH res.2 (OK res.2) 0 0) 0 0 SH 3 M 14 [some (aR 4), some (aI x1), none] [] := by
  intro n
  induction n with
  | zero =>
    intro x1 M hOM h
    cases h
  | succ n ih =>
    intro x1 M hOM h
    rw [f_X6_shareOut_14.eq_2] at h
    refine mx_iload_n (pc := 14) C dX6_shareOut_14 rfl ?_
    refine mx_iconst (pc := 15) C dX6_shareOut_15 (z := 5) rfl (by constructor <;> decide) ?_
    refine mx_icmp_ge (pc := 16) (tgt := 83) C dX6_shareOut_16 rfl (fun c1 => ?_) (fun c1 => ?_)
    · rw [if_pos c1] at h
      refine mx_aload_n (pc := 83) C dX6_shareOut_83 rfl ?_
      refine mx_iconst (pc := 84) C dX6_shareOut_84 (z := 0) rfl (by constructor <;> decide) ?_
      obtain ⟨q2, hq2, h⟩ := of_bd h
      refine mc_V (pc := 85) (as := [aI 0]) (rest := []) (stk2 := []) C ⟨Nat.le_refl _, Nat.le_refl _⟩ (m_X6_shareFrom hOM hq2) mi_X6_shareFrom mv_X6_shareFrom ml_X6_93 ci_6 rfl so_6 (by omega) rfl (Nat.le_of_ble_eq_true rfl) dX6_shareOut_85 rfl (fun hp3 => ?_)
      have hOq2 : OK q2.2 := hp3
      rw [← Option.some.inj h]
      exact mx_return (pc := 88) C dX6_shareOut_88 hOq2 ⟨Nat.le_refl _, Nat.le_refl _⟩
    · rw [if_neg c1] at h
      refine mx_aload_n (pc := 19) C dX6_shareOut_19 rfl ?_
      refine mx_getR (pc := 20) (v := 10) C dX6_shareOut_20 so_6 ci_6 (k := 7) (by decide) fl_X6_28 rfl (q := 7) rfl (lay_6_7 hOM) (by decide) ?_
      refine mx_iload_n (pc := 23) C dX6_shareOut_23 rfl ?_
      refine mx_iconst (pc := 24) C dX6_shareOut_24 (z := 0) rfl (by constructor <;> decide) ?_
      obtain ⟨g4, h⟩ := of_gd h
      refine mx_iast (pc := 25) C dX6_shareOut_25 sh_6_7 g4.1 g4.2 ?_
      generalize hmM5 : stM M 10 x1 0 = M5 at h ⊢
      replace h := lt_e h
      have hOM5 : OK M5 := by rw [← hmM5]; exact ok_arr hOM sh_6_7 (by decide)
      refine mx_iconst (pc := 26) C dX6_shareOut_26 (z := 0) rfl (by constructor <;> decide) ?_
      refine mx_istore_n (pc := 27) C dX6_shareOut_27 (ls' := [some (aR 4), some (aI x1), some (aI 0)]) (by decide) rfl rfl ?_
      exact b_X6_shareOut_28 C ih FU x1 0 M5 hOM5 h
set_option maxRecDepth 20000 in
set_option maxHeartbeats 4000000 in
theorem m_X6_shareOut {M : Mem} {res : Int × Mem} (hOM : OK M) (h : f_X6_shareOut M = some res) : Mth false yX6_shareOut cX6_shareOut 3 none 25 0 0 SH [aR 4] M none SH res.2 (OK res.2) := by
  refine Mth.of (by decide +kernel) (Nat.le_of_ble_eq_true rfl) (fun K B C => ?_)
  show Wx K B _ 0 0 SH 3 M 0 [some (aR 4), none, none] []
  unfold f_X6_shareOut at h
  refine mx_aload_n (pc := 0) C dX6_shareOut_0 rfl ?_
  refine mx_ldc (pc := 1) C dX6_shareOut_1 kc_X6_79 (by constructor <;> decide) ?_
  refine mx_putI (pc := 3) C dX6_shareOut_3 so_6 ci_6 (k := 9) (by decide) fl_X6_84 (Or.inl rfl) rfl (q := 9) rfl ?_
  generalize hmM1 : stM M 4 9 1000000 = M1 at h ⊢
  replace h := lt_e h
  have hOM1 : OK M1 := by rw [← hmM1]; exact okf_6_9 hOM
  refine mx_aload_n (pc := 6) C dX6_shareOut_6 rfl ?_
  refine mx_ldc (pc := 7) C dX6_shareOut_7 kc_X6_79 (by constructor <;> decide) ?_
  refine mx_putI (pc := 9) C dX6_shareOut_9 so_6 ci_6 (k := 10) (by decide) fl_X6_87 (Or.inl rfl) rfl (q := 10) rfl ?_
  generalize hmM2 : stM M1 4 10 1000000 = M2 at h ⊢
  replace h := lt_e h
  have hOM2 : OK M2 := by rw [← hmM2]; exact okf_6_10 hOM1
  refine mx_iconst (pc := 12) C dX6_shareOut_12 (z := 0) rfl (by constructor <;> decide) ?_
  refine mx_istore_n (pc := 13) C dX6_shareOut_13 (ls' := [some (aR 4), some (aI 0), none]) (by decide) rfl rfl ?_
  exact b_X6_shareOut_14 C FU 0 M2 hOM2 h

def f_X6_swap (p1 : Int) (p2 : Int) (M : Mem) : Option (Int × Mem) :=
  if 0 ≤ p1 ∧ p1 < 6 then if 0 ≤ p2 ∧ p2 < 6 then (f_X6_put p1 (M 6 p2) M).bind (fun q3 => (f_X6_put p2 (M 6 p1) q3.2).bind (fun q5 => some (0, q5.2))) else none else none
set_option maxRecDepth 20000 in
set_option maxHeartbeats 4000000 in
theorem m_X6_swap {p1 : Int} {p2 : Int} {M : Mem} {res : Int × Mem} (hOM : OK M) (h : f_X6_swap p1 p2 M = some res) : Mth false yX6_swap cX6_swap 4 none 3 0 0 SH [aR 4, aI p1, aI p2] M none SH res.2 (OK res.2) := by
  refine Mth.of (by decide +kernel) (Nat.le_of_ble_eq_true rfl) (fun K B C => ?_)
  show Wx K B _ 0 0 SH 4 M 0 [some (aR 4), some (aI p1), some (aI p2), none] []
  unfold f_X6_swap at h
  refine mx_aload_n (pc := 0) C dX6_swap_0 rfl ?_
  refine mx_getR (pc := 1) (v := 6) C dX6_swap_1 so_6 ci_6 (k := 3) (by decide) fl_X6_15 rfl (q := 3) rfl (lay_6_3 hOM) (by decide) ?_
  refine mx_iload_n (pc := 4) C dX6_swap_4 rfl ?_
  obtain ⟨g1, h⟩ := of_gd h
  refine mx_iald (pc := 5) C dX6_swap_5 sh_6_3 g1.1 g1.2 ?_
  refine mx_istore_n (pc := 6) C dX6_swap_6 (ls' := [some (aR 4), some (aI p1), some (aI p2), some (aI (M 6 p1))]) (by decide) rfl rfl ?_
  refine mx_aload_n (pc := 7) C dX6_swap_7 rfl ?_
  refine mx_iload_n (pc := 8) C dX6_swap_8 rfl ?_
  refine mx_aload_n (pc := 9) C dX6_swap_9 rfl ?_
  refine mx_getR (pc := 10) (v := 6) C dX6_swap_10 so_6 ci_6 (k := 3) (by decide) fl_X6_15 rfl (q := 3) rfl (lay_6_3 hOM) (by decide) ?_
  refine mx_iload_n (pc := 13) C dX6_swap_13 rfl ?_
  obtain ⟨g2, h⟩ := of_gd h
  refine mx_iald (pc := 14) C dX6_swap_14 sh_6_3 g2.1 g2.2 ?_
  obtain ⟨q3, hq3, h⟩ := of_bd h
  refine mc_V (pc := 15) (as := [aI p1, aI (M 6 p2)]) (rest := []) (stk2 := []) C ⟨Nat.le_refl _, Nat.le_refl _⟩ (m_X6_put hOM hq3) mi_X6_put mv_X6_put ml_X6_66 ci_6 rfl so_6 (by omega) rfl (Nat.le_of_ble_eq_true rfl) dX6_swap_15 rfl (fun hp4 => ?_)
  have hOq3 : OK q3.2 := hp4
  refine mx_aload_n (pc := 18) C dX6_swap_18 rfl ?_
  refine mx_iload_n (pc := 19) C dX6_swap_19 rfl ?_
  refine mx_iload_n (pc := 20) C dX6_swap_20 rfl ?_
  obtain ⟨q5, hq5, h⟩ := of_bd h
  refine mc_V (pc := 21) (as := [aI p2, aI (M 6 p1)]) (rest := []) (stk2 := []) C ⟨Nat.le_refl _, Nat.le_refl _⟩ (m_X6_put hOq3 hq5) mi_X6_put mv_X6_put ml_X6_66 ci_6 rfl so_6 (by omega) rfl (Nat.le_of_ble_eq_true rfl) dX6_swap_21 rfl (fun hp6 => ?_)
  have hOq5 : OK q5.2 := hp6
  rw [← Option.some.inj h]
  exact mx_return (pc := 24) C dX6_swap_24 hOq5 ⟨Nat.le_refl _, Nat.le_refl _⟩

def f_X6_bestSwap_88 (k10 : Int → Int → Int → Mem → Option (Int × Mem)) (k23 : Int → Int → Int → Int → Mem → Option (Int × Mem)) (x1 : Int) (x2 : Int) (x3 : Int) (x4 : Int) (M : Mem) : Option (Int × Mem) :=
  k23 x1 x2 x3 (w32 (x4 + 1)) M
def f_X6_bestSwap_23 (k10 : Int → Int → Int → Mem → Option (Int × Mem)) : Nat → Int → Int → Int → Int → Mem → Option (Int × Mem)
  | 0, _, _, _, _, _ => none
  | n + 1, x1, x2, x3, x4, M => if M 4 0 ≤ x4 then k10 x1 x2 (w32 (x3 + 1)) M else if 0 ≤ x3 ∧ x3 < 6 then if M 8 x3 = 0 then if 0 ≤ x4 ∧ x4 < 6 then if M 8 x4 = 0 then (f_X6_swap x3 x4 M).bind (fun q8 => (f_X6_greatest q8.2).bind (fun q10 => (f_X6_swap x3 x4 q10.2).bind (fun q12 => if x1 ≤ q10.1 then f_X6_bestSwap_88 k10 (f_X6_bestSwap_23 k10 n) x1 x2 x3 x4 q12.2 else f_X6_bestSwap_88 k10 (f_X6_bestSwap_23 k10 n) q10.1 (w32 ((w32 (10 * x3)) + x4)) x3 x4 q12.2))) else f_X6_bestSwap_88 k10 (f_X6_bestSwap_23 k10 n) x1 x2 x3 x4 M else none else f_X6_bestSwap_88 k10 (f_X6_bestSwap_23 k10 n) x1 x2 x3 x4 M else none
def f_X6_bestSwap_10 : Nat → Int → Int → Int → Mem → Option (Int × Mem)
  | 0, _, _, _, _ => none
  | n + 1, x1, x2, x3, M => if M 4 0 ≤ x3 then some (x2, M) else f_X6_bestSwap_23 (f_X6_bestSwap_10 n) FU x1 x2 x3 (w32 (x3 + 1)) M
def f_X6_bestSwap (M : Mem) : Option (Int × Mem) :=
  (f_X6_greatest M).bind (fun q1 => f_X6_bestSwap_10 FU q1.1 (-5) 0 q1.2)
set_option maxRecDepth 20000 in
set_option maxHeartbeats 4000000 in
theorem b_X6_bestSwap_88 {K : KX} {B : BX} {res : Int × Mem} {k10 : Int → Int → Int → Mem → Option (Int × Mem)} {k23 : Int → Int → Int → Int → Mem → Option (Int × Mem)} (C : Cx K B false yX6_bestSwap cX6_bestSwap 6 (some .int) 4 0 0) (hk10 : ∀ (x1 : Int) (x2 : Int) (x3 : Int) (M : Mem), OK M → k10 x1 x2 x3 M = some res → Wx K B (Zr K B (some (aI res.1)) SH res.2 (OK res.2) 0 0) 0 0 SH 6 M 10 [some (aR 4), some (aI x1), some (aI x2), some (aI x3), none, none] []) (hk23 : ∀ (x1 : Int) (x2 : Int) (x3 : Int) (x4 : Int) (M : Mem), OK M → k23 x1 x2 x3 x4 M = some res → Wx K B (Zr K B (some (aI res.1)) SH res.2 (OK res.2) 0 0) 0 0 SH 6 M 23 [some (aR 4), some (aI x1), some (aI x2), some (aI x3), some (aI x4), none] []) : ∀ (x1 : Int) (x2 : Int) (x3 : Int) (x4 : Int) (M : Mem), OK M → f_X6_bestSwap_88 k10 k23 x1 x2 x3 x4 M = some res → Wx K B (Zr K B (some (aI res.1)) SH res.2 (OK res.2) 0 0) 0 0 SH 6 M 88 [some (aR 4), some (aI x1), some (aI x2), some (aI x3), some (aI x4), none] [] := by
  intro x1 x2 x3 x4 M hOM h
  unfold f_X6_bestSwap_88 at h
  refine mx_iinc (pc := 88) C dX6_bestSwap_88 (ls' := [some (aR 4), some (aI x1), some (aI x2), some (aI x3), some (aI (w32 (x4 + 1))), none]) rfl (by decide) rfl (by constructor <;> decide) rfl rfl ?_
  refine mx_goto (pc := 91) (tgt := 23) C dX6_bestSwap_91 rfl ?_
  exact hk23 x1 x2 x3 (w32 (x4 + 1)) M hOM h
set_option maxRecDepth 20000 in
set_option maxHeartbeats 4000000 in
theorem b_X6_bestSwap_23 {K : KX} {B : BX} {res : Int × Mem} {k10 : Int → Int → Int → Mem → Option (Int × Mem)} (C : Cx K B false yX6_bestSwap cX6_bestSwap 6 (some .int) 4 0 0) (hk10 : ∀ (x1 : Int) (x2 : Int) (x3 : Int) (M : Mem), OK M → k10 x1 x2 x3 M = some res → Wx K B (Zr K B (some (aI res.1)) SH res.2 (OK res.2) 0 0) 0 0 SH 6 M 10 [some (aR 4), some (aI x1), some (aI x2), some (aI x3), none, none] []) : ∀ (n : Nat) (x1 : Int) (x2 : Int) (x3 : Int) (x4 : Int) (M : Mem), OK M → f_X6_bestSwap_23 k10 n x1 x2 x3 x4 M = some res → Wx K B (Zr K B (some (aI res.1)) SH res.2 (OK res.2) 0 0) 0 0 SH 6 M 23 [some (aR 4), some (aI x1), some (aI x2), some (aI x3), some (aI x4), none] [] := by
  intro n
  induction n with
  | zero =>
    intro x1 x2 x3 x4 M hOM h
    cases h
  | succ n ih =>
    intro x1 x2 x3 x4 M hOM h
    rw [f_X6_bestSwap_23.eq_2] at h
    refine mx_iload (pc := 23) C dX6_bestSwap_23 rfl ?_
    refine mx_aload_n (pc := 25) C dX6_bestSwap_25 rfl ?_
    refine mx_getI (pc := 26) C dX6_bestSwap_26 so_6 ci_6 (k := 0) (by decide) fl_X6_43 rfl (q := 0) rfl ?_
    refine mx_icmp_ge (pc := 29) (tgt := 94) C dX6_bestSwap_29 rfl (fun c1 => ?_) (fun c1 => ?_)
    · rw [if_pos c1] at h
      refine mx_iinc (pc := 94) C dX6_bestSwap_94 (ls' := [some (aR 4), some (aI x1), some (aI x2), some (aI (w32 (x3 + 1))), some (aI x4), none]) rfl (by decide) rfl (by constructor <;> decide) rfl rfl ?_
      refine mx_goto (pc := 97) (tgt := 10) C dX6_bestSwap_97 rfl ?_
      refine mx_mask [true, true, true, true, false, false] (ls' := [some (aR 4), some (aI x1), some (aI x2), some (aI (w32 (x3 + 1))), none, none]) rfl rfl ?_
      exact hk10 x1 x2 (w32 (x3 + 1)) M hOM h
    · rw [if_neg c1] at h
      refine mx_aload_n (pc := 32) C dX6_bestSwap_32 rfl ?_
      refine mx_getR (pc := 33) (v := 8) C dX6_bestSwap_33 so_6 ci_6 (k := 5) (by decide) fl_X6_21 rfl (q := 5) rfl (lay_6_5 hOM) (by decide) ?_
      refine mx_iload_n (pc := 36) C dX6_bestSwap_36 rfl ?_
      obtain ⟨g2, h⟩ := of_gd h
      refine mx_zald (pc := 37) C dX6_bestSwap_37 sh_6_5 g2.1 g2.2 (fun z3 => ?_)
      refine mx_if_ne (pc := 38) (tgt := 88) C dX6_bestSwap_38 rfl (fun c4 => ?_) (fun c4 => ?_)
      · rw [if_neg c4] at h
        exact b_X6_bestSwap_88 C hk10 ih x1 x2 x3 x4 M hOM h
      · rw [if_pos c4] at h
        refine mx_aload_n (pc := 41) C dX6_bestSwap_41 rfl ?_
        refine mx_getR (pc := 42) (v := 8) C dX6_bestSwap_42 so_6 ci_6 (k := 5) (by decide) fl_X6_21 rfl (q := 5) rfl (lay_6_5 hOM) (by decide) ?_
        refine mx_iload (pc := 45) C dX6_bestSwap_45 rfl ?_
        obtain ⟨g5, h⟩ := of_gd h
        refine mx_zald (pc := 47) C dX6_bestSwap_47 sh_6_5 g5.1 g5.2 (fun z6 => ?_)
        refine mx_if_ne (pc := 48) (tgt := 88) C dX6_bestSwap_48 rfl (fun c7 => ?_) (fun c7 => ?_)
        · rw [if_neg c7] at h
          exact b_X6_bestSwap_88 C hk10 ih x1 x2 x3 x4 M hOM h
        · rw [if_pos c7] at h
          refine mx_aload_n (pc := 51) C dX6_bestSwap_51 rfl ?_
          refine mx_iload_n (pc := 52) C dX6_bestSwap_52 rfl ?_
          refine mx_iload (pc := 53) C dX6_bestSwap_53 rfl ?_
          obtain ⟨q8, hq8, h⟩ := of_bd h
          refine mc_V (pc := 55) (as := [aI x3, aI x4]) (rest := []) (stk2 := []) C ⟨Nat.le_refl _, Nat.le_refl _⟩ (m_X6_swap hOM hq8) mi_X6_swap mv_X6_swap ml_X6_107 ci_6 rfl so_6 (by omega) rfl (Nat.le_of_ble_eq_true rfl) dX6_bestSwap_55 rfl (fun hp9 => ?_)
          have hOq8 : OK q8.2 := hp9
          refine mx_aload_n (pc := 58) C dX6_bestSwap_58 rfl ?_
          obtain ⟨q10, hq10, h⟩ := of_bd h
          refine mc_V (pc := 59) (as := []) (rest := []) (stk2 := [aI q10.1]) C ⟨Nat.le_refl _, Nat.le_refl _⟩ (m_X6_greatest hOq8 hq10) mi_X6_greatest mv_X6_greatest ml_X6_80 ci_6 rfl so_6 (by omega) rfl (Nat.le_of_ble_eq_true rfl) dX6_bestSwap_59 rfl (fun hp11 => ?_)
          have hOq10 : OK q10.2 := hp11
          refine mx_istore (pc := 62) C dX6_bestSwap_62 (ls' := [some (aR 4), some (aI x1), some (aI x2), some (aI x3), some (aI x4), some (aI q10.1)]) (by decide) rfl rfl ?_
          refine mx_aload_n (pc := 64) C dX6_bestSwap_64 rfl ?_
          refine mx_iload_n (pc := 65) C dX6_bestSwap_65 rfl ?_
          refine mx_iload (pc := 66) C dX6_bestSwap_66 rfl ?_
          obtain ⟨q12, hq12, h⟩ := of_bd h
          refine mc_V (pc := 68) (as := [aI x3, aI x4]) (rest := []) (stk2 := []) C ⟨Nat.le_refl _, Nat.le_refl _⟩ (m_X6_swap hOq10 hq12) mi_X6_swap mv_X6_swap ml_X6_107 ci_6 rfl so_6 (by omega) rfl (Nat.le_of_ble_eq_true rfl) dX6_bestSwap_68 rfl (fun hp13 => ?_)
          have hOq12 : OK q12.2 := hp13
          refine mx_iload (pc := 71) C dX6_bestSwap_71 rfl ?_
          refine mx_iload_n (pc := 73) C dX6_bestSwap_73 rfl ?_
          refine mx_icmp_ge (pc := 74) (tgt := 88) C dX6_bestSwap_74 rfl (fun c14 => ?_) (fun c14 => ?_)
          · rw [if_pos c14] at h
            refine mx_mask [true, true, true, true, true, false] (ls' := [some (aR 4), some (aI x1), some (aI x2), some (aI x3), some (aI x4), none]) rfl rfl ?_
            exact b_X6_bestSwap_88 C hk10 ih x1 x2 x3 x4 q12.2 hOq12 h
          · rw [if_neg c14] at h
            refine mx_iload (pc := 77) C dX6_bestSwap_77 rfl ?_
            refine mx_istore_n (pc := 79) C dX6_bestSwap_79 (ls' := [some (aR 4), some (aI q10.1), some (aI x2), some (aI x3), some (aI x4), some (aI q10.1)]) (by decide) rfl rfl ?_
            refine mx_bipush (pc := 80) C dX6_bestSwap_80 (z := 10) rfl (by constructor <;> decide) ?_
            refine mx_iload_n (pc := 82) C dX6_bestSwap_82 rfl ?_
            refine mx_imul (pc := 83) C dX6_bestSwap_83  ?_
            refine mx_iload (pc := 84) C dX6_bestSwap_84 rfl ?_
            refine mx_iadd (pc := 86) C dX6_bestSwap_86  ?_
            refine mx_istore_n (pc := 87) C dX6_bestSwap_87 (ls' := [some (aR 4), some (aI q10.1), some (aI (w32 ((w32 (10 * x3)) + x4))), some (aI x3), some (aI x4), some (aI q10.1)]) (by decide) rfl rfl ?_
            refine mx_mask [true, true, true, true, true, false] (ls' := [some (aR 4), some (aI q10.1), some (aI (w32 ((w32 (10 * x3)) + x4))), some (aI x3), some (aI x4), none]) rfl rfl ?_
            exact b_X6_bestSwap_88 C hk10 ih q10.1 (w32 ((w32 (10 * x3)) + x4)) x3 x4 q12.2 hOq12 h
set_option maxRecDepth 20000 in
set_option maxHeartbeats 4000000 in
theorem b_X6_bestSwap_10 {K : KX} {B : BX} {res : Int × Mem} (C : Cx K B false yX6_bestSwap cX6_bestSwap 6 (some .int) 4 0 0) : ∀ (n : Nat) (x1 : Int) (x2 : Int) (x3 : Int) (M : Mem), OK M → f_X6_bestSwap_10 n x1 x2 x3 M = some res → Wx K B (Zr K B (some (aI res.1)) SH res.2 (OK res.2) 0 0) 0 0 SH 6 M 10 [some (aR 4), some (aI x1), some (aI x2), some (aI x3), none, none] [] := by
  intro n
  induction n with
  | zero =>
    intro x1 x2 x3 M hOM h
    cases h
  | succ n ih =>
    intro x1 x2 x3 M hOM h
    rw [f_X6_bestSwap_10.eq_2] at h
    refine mx_iload_n (pc := 10) C dX6_bestSwap_10 rfl ?_
    refine mx_aload_n (pc := 11) C dX6_bestSwap_11 rfl ?_
    refine mx_getI (pc := 12) C dX6_bestSwap_12 so_6 ci_6 (k := 0) (by decide) fl_X6_43 rfl (q := 0) rfl ?_
    refine mx_icmp_ge (pc := 15) (tgt := 100) C dX6_bestSwap_15 rfl (fun c1 => ?_) (fun c1 => ?_)
    · rw [if_pos c1] at h
      refine mx_iload_n (pc := 100) C dX6_bestSwap_100 rfl ?_
      rw [← Option.some.inj h]
      exact mx_ireturn (pc := 101) C dX6_bestSwap_101 hOM ⟨Nat.le_refl _, Nat.le_refl _⟩
    · rw [if_neg c1] at h
      refine mx_iload_n (pc := 18) C dX6_bestSwap_18 rfl ?_
      refine mx_iconst (pc := 19) C dX6_bestSwap_19 (z := 1) rfl (by constructor <;> decide) ?_
      refine mx_iadd (pc := 20) C dX6_bestSwap_20  ?_
      refine mx_istore (pc := 21) C dX6_bestSwap_21 (ls' := [some (aR 4), some (aI x1), some (aI x2), some (aI x3), some (aI (w32 (x3 + 1))), none]) (by decide) rfl rfl ?_
      exact b_X6_bestSwap_23 C ih FU x1 x2 x3 (w32 (x3 + 1)) M hOM h
set_option maxRecDepth 20000 in
set_option maxHeartbeats 4000000 in
theorem m_X6_bestSwap {M : Mem} {res : Int × Mem} (hOM : OK M) (h : f_X6_bestSwap M = some res) : Mth false yX6_bestSwap cX6_bestSwap 6 (some .int) 4 0 0 SH [aR 4] M (some (aI res.1)) SH res.2 (OK res.2) := by
  refine Mth.of (by decide +kernel) (Nat.le_of_ble_eq_true rfl) (fun K B C => ?_)
  show Wx K B _ 0 0 SH 6 M 0 [some (aR 4), none, none, none, none, none] []
  unfold f_X6_bestSwap at h
  refine mx_aload_n (pc := 0) C dX6_bestSwap_0 rfl ?_
  obtain ⟨q1, hq1, h⟩ := of_bd h
  refine mc_V (pc := 1) (as := []) (rest := []) (stk2 := [aI q1.1]) C ⟨Nat.le_refl _, Nat.le_refl _⟩ (m_X6_greatest hOM hq1) mi_X6_greatest mv_X6_greatest ml_X6_80 ci_6 rfl so_6 (by omega) rfl (Nat.le_of_ble_eq_true rfl) dX6_bestSwap_1 rfl (fun hp2 => ?_)
  have hOq1 : OK q1.2 := hp2
  refine mx_istore_n (pc := 4) C dX6_bestSwap_4 (ls' := [some (aR 4), some (aI q1.1), none, none, none, none]) (by decide) rfl rfl ?_
  refine mx_bipush (pc := 5) C dX6_bestSwap_5 (z := (-5)) rfl (by constructor <;> decide) ?_
  refine mx_istore_n (pc := 7) C dX6_bestSwap_7 (ls' := [some (aR 4), some (aI q1.1), some (aI (-5)), none, none, none]) (by decide) rfl rfl ?_
  refine mx_iconst (pc := 8) C dX6_bestSwap_8 (z := 0) rfl (by constructor <;> decide) ?_
  refine mx_istore_n (pc := 9) C dX6_bestSwap_9 (ls' := [some (aR 4), some (aI q1.1), some (aI (-5)), some (aI 0), none, none]) (by decide) rfl rfl ?_
  exact b_X6_bestSwap_10 C FU q1.1 (-5) 0 q1.2 hOq1 h

def f_X6_worstSound_54 (k8 : Int → Int → Int → Mem → Option (Int × Mem)) (x1 : Int) (x2 : Int) (x3 : Int) (M : Mem) : Option (Int × Mem) :=
  k8 x1 x2 (w32 (x3 + 1)) M
def f_X6_worstSound_8 : Nat → Int → Int → Int → Mem → Option (Int × Mem)
  | 0, _, _, _, _ => none
  | n + 1, x1, x2, x3, M => if M 4 0 ≤ x3 then some (x2, M) else if 0 ≤ x3 ∧ x3 < 6 then (f_X6_put x3 (-1) M).bind (fun q3 => (f_X6_greatest q3.2).bind (fun q5 => (f_X6_put x3 (M 6 x3) q5.2).bind (fun q7 => if x1 ≤ q5.1 then f_X6_worstSound_54 (f_X6_worstSound_8 n) x1 x2 x3 q7.2 else f_X6_worstSound_54 (f_X6_worstSound_8 n) q5.1 x3 x3 q7.2))) else none
def f_X6_worstSound (M : Mem) : Option (Int × Mem) :=
  f_X6_worstSound_8 FU 1000000 (-5) 0 M
set_option maxRecDepth 20000 in
set_option maxHeartbeats 4000000 in
theorem b_X6_worstSound_54 {K : KX} {B : BX} {res : Int × Mem} {k8 : Int → Int → Int → Mem → Option (Int × Mem)} (C : Cx K B false yX6_worstSound cX6_worstSound 6 (some .int) 3 0 0) (hk8 : ∀ (x1 : Int) (x2 : Int) (x3 : Int) (M : Mem), OK M → k8 x1 x2 x3 M = some res → Wx K B (Zr K B (some (aI res.1)) SH res.2 (OK res.2) 0 0) 0 0 SH 6 M 8 [some (aR 4), some (aI x1), some (aI x2), some (aI x3), none, none] []) : ∀ (x1 : Int) (x2 : Int) (x3 : Int) (M : Mem), OK M → f_X6_worstSound_54 k8 x1 x2 x3 M = some res → Wx K B (Zr K B (some (aI res.1)) SH res.2 (OK res.2) 0 0) 0 0 SH 6 M 54 [some (aR 4), some (aI x1), some (aI x2), some (aI x3), none, none] [] := by
  intro x1 x2 x3 M hOM h
  unfold f_X6_worstSound_54 at h
  refine mx_iinc (pc := 54) C dX6_worstSound_54 (ls' := [some (aR 4), some (aI x1), some (aI x2), some (aI (w32 (x3 + 1))), none, none]) rfl (by decide) rfl (by constructor <;> decide) rfl rfl ?_
  refine mx_goto (pc := 57) (tgt := 8) C dX6_worstSound_57 rfl ?_
  exact hk8 x1 x2 (w32 (x3 + 1)) M hOM h
set_option maxRecDepth 20000 in
set_option maxHeartbeats 4000000 in
theorem b_X6_worstSound_8 {K : KX} {B : BX} {res : Int × Mem} (C : Cx K B false yX6_worstSound cX6_worstSound 6 (some .int) 3 0 0) : ∀ (n : Nat) (x1 : Int) (x2 : Int) (x3 : Int) (M : Mem), OK M → f_X6_worstSound_8 n x1 x2 x3 M = some res → Wx K B (Zr K B (some (aI res.1)) SH res.2 (OK res.2) 0 0) 0 0 SH 6 M 8 [some (aR 4), some (aI x1), some (aI x2), some (aI x3), none, none] [] := by
  intro n
  induction n with
  | zero =>
    intro x1 x2 x3 M hOM h
    cases h
  | succ n ih =>
    intro x1 x2 x3 M hOM h
    rw [f_X6_worstSound_8.eq_2] at h
    refine mx_iload_n (pc := 8) C dX6_worstSound_8 rfl ?_
    refine mx_aload_n (pc := 9) C dX6_worstSound_9 rfl ?_
    refine mx_getI (pc := 10) C dX6_worstSound_10 so_6 ci_6 (k := 0) (by decide) fl_X6_43 rfl (q := 0) rfl ?_
    refine mx_icmp_ge (pc := 13) (tgt := 60) C dX6_worstSound_13 rfl (fun c1 => ?_) (fun c1 => ?_)
    · rw [if_pos c1] at h
      refine mx_iload_n (pc := 60) C dX6_worstSound_60 rfl ?_
      rw [← Option.some.inj h]
      exact mx_ireturn (pc := 61) C dX6_worstSound_61 hOM ⟨Nat.le_refl _, Nat.le_refl _⟩
    · rw [if_neg c1] at h
      refine mx_aload_n (pc := 16) C dX6_worstSound_16 rfl ?_
      refine mx_getR (pc := 17) (v := 6) C dX6_worstSound_17 so_6 ci_6 (k := 3) (by decide) fl_X6_15 rfl (q := 3) rfl (lay_6_3 hOM) (by decide) ?_
      refine mx_iload_n (pc := 20) C dX6_worstSound_20 rfl ?_
      obtain ⟨g2, h⟩ := of_gd h
      refine mx_iald (pc := 21) C dX6_worstSound_21 sh_6_3 g2.1 g2.2 ?_
      refine mx_istore (pc := 22) C dX6_worstSound_22 (ls' := [some (aR 4), some (aI x1), some (aI x2), some (aI x3), some (aI (M 6 x3)), none]) (by decide) rfl rfl ?_
      refine mx_aload_n (pc := 24) C dX6_worstSound_24 rfl ?_
      refine mx_iload_n (pc := 25) C dX6_worstSound_25 rfl ?_
      refine mx_iconst (pc := 26) C dX6_worstSound_26 (z := (-1)) rfl (by constructor <;> decide) ?_
      obtain ⟨q3, hq3, h⟩ := of_bd h
      refine mc_V (pc := 27) (as := [aI x3, aI (-1)]) (rest := []) (stk2 := []) C ⟨Nat.le_refl _, Nat.le_refl _⟩ (m_X6_put hOM hq3) mi_X6_put mv_X6_put ml_X6_66 ci_6 rfl so_6 (by omega) rfl (Nat.le_of_ble_eq_true rfl) dX6_worstSound_27 rfl (fun hp4 => ?_)
      have hOq3 : OK q3.2 := hp4
      refine mx_aload_n (pc := 30) C dX6_worstSound_30 rfl ?_
      obtain ⟨q5, hq5, h⟩ := of_bd h
      refine mc_V (pc := 31) (as := []) (rest := []) (stk2 := [aI q5.1]) C ⟨Nat.le_refl _, Nat.le_refl _⟩ (m_X6_greatest hOq3 hq5) mi_X6_greatest mv_X6_greatest ml_X6_80 ci_6 rfl so_6 (by omega) rfl (Nat.le_of_ble_eq_true rfl) dX6_worstSound_31 rfl (fun hp6 => ?_)
      have hOq5 : OK q5.2 := hp6
      refine mx_istore (pc := 34) C dX6_worstSound_34 (ls' := [some (aR 4), some (aI x1), some (aI x2), some (aI x3), some (aI (M 6 x3)), some (aI q5.1)]) (by decide) rfl rfl ?_
      refine mx_aload_n (pc := 36) C dX6_worstSound_36 rfl ?_
      refine mx_iload_n (pc := 37) C dX6_worstSound_37 rfl ?_
      refine mx_iload (pc := 38) C dX6_worstSound_38 rfl ?_
      obtain ⟨q7, hq7, h⟩ := of_bd h
      refine mc_V (pc := 40) (as := [aI x3, aI (M 6 x3)]) (rest := []) (stk2 := []) C ⟨Nat.le_refl _, Nat.le_refl _⟩ (m_X6_put hOq5 hq7) mi_X6_put mv_X6_put ml_X6_66 ci_6 rfl so_6 (by omega) rfl (Nat.le_of_ble_eq_true rfl) dX6_worstSound_40 rfl (fun hp8 => ?_)
      have hOq7 : OK q7.2 := hp8
      refine mx_iload (pc := 43) C dX6_worstSound_43 rfl ?_
      refine mx_iload_n (pc := 45) C dX6_worstSound_45 rfl ?_
      refine mx_icmp_ge (pc := 46) (tgt := 54) C dX6_worstSound_46 rfl (fun c9 => ?_) (fun c9 => ?_)
      · rw [if_pos c9] at h
        refine mx_mask [true, true, true, true, false, false] (ls' := [some (aR 4), some (aI x1), some (aI x2), some (aI x3), none, none]) rfl rfl ?_
        exact b_X6_worstSound_54 C ih x1 x2 x3 q7.2 hOq7 h
      · rw [if_neg c9] at h
        refine mx_iload (pc := 49) C dX6_worstSound_49 rfl ?_
        refine mx_istore_n (pc := 51) C dX6_worstSound_51 (ls' := [some (aR 4), some (aI q5.1), some (aI x2), some (aI x3), some (aI (M 6 x3)), some (aI q5.1)]) (by decide) rfl rfl ?_
        refine mx_iload_n (pc := 52) C dX6_worstSound_52 rfl ?_
        refine mx_istore_n (pc := 53) C dX6_worstSound_53 (ls' := [some (aR 4), some (aI q5.1), some (aI x3), some (aI x3), some (aI (M 6 x3)), some (aI q5.1)]) (by decide) rfl rfl ?_
        refine mx_mask [true, true, true, true, false, false] (ls' := [some (aR 4), some (aI q5.1), some (aI x3), some (aI x3), none, none]) rfl rfl ?_
        exact b_X6_worstSound_54 C ih q5.1 x3 x3 q7.2 hOq7 h
set_option maxRecDepth 20000 in
set_option maxHeartbeats 4000000 in
theorem m_X6_worstSound {M : Mem} {res : Int × Mem} (hOM : OK M) (h : f_X6_worstSound M = some res) : Mth false yX6_worstSound cX6_worstSound 6 (some .int) 3 0 0 SH [aR 4] M (some (aI res.1)) SH res.2 (OK res.2) := by
  refine Mth.of (by decide +kernel) (Nat.le_of_ble_eq_true rfl) (fun K B C => ?_)
  show Wx K B _ 0 0 SH 6 M 0 [some (aR 4), none, none, none, none, none] []
  unfold f_X6_worstSound at h
  refine mx_ldc (pc := 0) C dX6_worstSound_0 kc_X6_79 (by constructor <;> decide) ?_
  refine mx_istore_n (pc := 2) C dX6_worstSound_2 (ls' := [some (aR 4), some (aI 1000000), none, none, none, none]) (by decide) rfl rfl ?_
  refine mx_bipush (pc := 3) C dX6_worstSound_3 (z := (-5)) rfl (by constructor <;> decide) ?_
  refine mx_istore_n (pc := 5) C dX6_worstSound_5 (ls' := [some (aR 4), some (aI 1000000), some (aI (-5)), none, none, none]) (by decide) rfl rfl ?_
  refine mx_iconst (pc := 6) C dX6_worstSound_6 (z := 0) rfl (by constructor <;> decide) ?_
  refine mx_istore_n (pc := 7) C dX6_worstSound_7 (ls' := [some (aR 4), some (aI 1000000), some (aI (-5)), some (aI 0), none, none]) (by decide) rfl rfl ?_
  exact b_X6_worstSound_8 C FU 1000000 (-5) 0 M hOM h

def f_X6_stillWithoutOne_42 (p1 : Int) (k4 : Int → Int → Int → Mem → Option (Int × Mem)) (x1 : Int) (x2 : Int) (x3 : Int) (x4 : Int) (M : Mem) : Option (Int × Mem) :=
  (f_X6_put x3 x4 M).bind (fun q1 => k4 x1 x2 (w32 (x3 + 1)) q1.2)
def f_X6_stillWithoutOne_4 (p1 : Int) : Nat → Int → Int → Int → Mem → Option (Int × Mem)
  | 0, _, _, _, _ => none
  | n + 1, x1, x2, x3, M => if M 4 0 ≤ x3 then some (x2, M) else if 0 ≤ x3 ∧ x3 < 6 then (f_X6_put x3 (-1) M).bind (fun q3 => if 0 ≤ x1 ∧ x1 < 5 then if q3.2 4 1 < q3.2 7 x1 then f_X6_stillWithoutOne_42 p1 (f_X6_stillWithoutOne_4 p1 n) x1 x2 x3 (M 6 x3) q3.2 else f_X6_stillWithoutOne_42 p1 (f_X6_stillWithoutOne_4 p1 n) x1 (w32 (x2 + 1)) x3 (M 6 x3) q3.2 else none) else none
def f_X6_stillWithoutOne (p1 : Int) (M : Mem) : Option (Int × Mem) :=
  f_X6_stillWithoutOne_4 p1 FU p1 0 0 M
set_option maxRecDepth 20000 in
set_option maxHeartbeats 4000000 in
theorem b_X6_stillWithoutOne_42 {K : KX} {B : BX} {res : Int × Mem} {p1 : Int} {k4 : Int → Int → Int → Mem → Option (Int × Mem)} (C : Cx K B false yX6_stillWithoutOne cX6_stillWithoutOne 5 (some .int) 3 0 0) (hk4 : ∀ (x1 : Int) (x2 : Int) (x3 : Int) (M : Mem), OK M → k4 x1 x2 x3 M = some res → Wx K B (Zr K B (some (aI res.1)) SH res.2 (OK res.2) 0 0) 0 0 SH 5 M 4 [some (aR 4), some (aI x1), some (aI x2), some (aI x3), none] []) : ∀ (x1 : Int) (x2 : Int) (x3 : Int) (x4 : Int) (M : Mem), OK M → f_X6_stillWithoutOne_42 p1 k4 x1 x2 x3 x4 M = some res → Wx K B (Zr K B (some (aI res.1)) SH res.2 (OK res.2) 0 0) 0 0 SH 5 M 42 [some (aR 4), some (aI x1), some (aI x2), some (aI x3), some (aI x4)] [] := by
  intro x1 x2 x3 x4 M hOM h
  unfold f_X6_stillWithoutOne_42 at h
  refine mx_aload_n (pc := 42) C dX6_stillWithoutOne_42 rfl ?_
  refine mx_iload_n (pc := 43) C dX6_stillWithoutOne_43 rfl ?_
  refine mx_iload (pc := 44) C dX6_stillWithoutOne_44 rfl ?_
  obtain ⟨q1, hq1, h⟩ := of_bd h
  refine mc_V (pc := 46) (as := [aI x3, aI x4]) (rest := []) (stk2 := []) C ⟨Nat.le_refl _, Nat.le_refl _⟩ (m_X6_put hOM hq1) mi_X6_put mv_X6_put ml_X6_66 ci_6 rfl so_6 (by omega) rfl (Nat.le_of_ble_eq_true rfl) dX6_stillWithoutOne_46 rfl (fun hp2 => ?_)
  have hOq1 : OK q1.2 := hp2
  refine mx_iinc (pc := 49) C dX6_stillWithoutOne_49 (ls' := [some (aR 4), some (aI x1), some (aI x2), some (aI (w32 (x3 + 1))), some (aI x4)]) rfl (by decide) rfl (by constructor <;> decide) rfl rfl ?_
  refine mx_goto (pc := 52) (tgt := 4) C dX6_stillWithoutOne_52 rfl ?_
  refine mx_mask [true, true, true, true, false] (ls' := [some (aR 4), some (aI x1), some (aI x2), some (aI (w32 (x3 + 1))), none]) rfl rfl ?_
  exact hk4 x1 x2 (w32 (x3 + 1)) q1.2 hOq1 h
set_option maxRecDepth 20000 in
set_option maxHeartbeats 4000000 in
theorem b_X6_stillWithoutOne_4 {K : KX} {B : BX} {res : Int × Mem} {p1 : Int} (C : Cx K B false yX6_stillWithoutOne cX6_stillWithoutOne 5 (some .int) 3 0 0) : ∀ (n : Nat) (x1 : Int) (x2 : Int) (x3 : Int) (M : Mem), OK M → f_X6_stillWithoutOne_4 p1 n x1 x2 x3 M = some res → Wx K B (Zr K B (some (aI res.1)) SH res.2 (OK res.2) 0 0) 0 0 SH 5 M 4 [some (aR 4), some (aI x1), some (aI x2), some (aI x3), none] [] := by
  intro n
  induction n with
  | zero =>
    intro x1 x2 x3 M hOM h
    cases h
  | succ n ih =>
    intro x1 x2 x3 M hOM h
    rw [f_X6_stillWithoutOne_4.eq_2] at h
    refine mx_iload_n (pc := 4) C dX6_stillWithoutOne_4 rfl ?_
    refine mx_aload_n (pc := 5) C dX6_stillWithoutOne_5 rfl ?_
    refine mx_getI (pc := 6) C dX6_stillWithoutOne_6 so_6 ci_6 (k := 0) (by decide) fl_X6_43 rfl (q := 0) rfl ?_
    refine mx_icmp_ge (pc := 9) (tgt := 55) C dX6_stillWithoutOne_9 rfl (fun c1 => ?_) (fun c1 => ?_)
    · rw [if_pos c1] at h
      refine mx_iload_n (pc := 55) C dX6_stillWithoutOne_55 rfl ?_
      rw [← Option.some.inj h]
      exact mx_ireturn (pc := 56) C dX6_stillWithoutOne_56 hOM ⟨Nat.le_refl _, Nat.le_refl _⟩
    · rw [if_neg c1] at h
      refine mx_aload_n (pc := 12) C dX6_stillWithoutOne_12 rfl ?_
      refine mx_getR (pc := 13) (v := 6) C dX6_stillWithoutOne_13 so_6 ci_6 (k := 3) (by decide) fl_X6_15 rfl (q := 3) rfl (lay_6_3 hOM) (by decide) ?_
      refine mx_iload_n (pc := 16) C dX6_stillWithoutOne_16 rfl ?_
      obtain ⟨g2, h⟩ := of_gd h
      refine mx_iald (pc := 17) C dX6_stillWithoutOne_17 sh_6_3 g2.1 g2.2 ?_
      refine mx_istore (pc := 18) C dX6_stillWithoutOne_18 (ls' := [some (aR 4), some (aI x1), some (aI x2), some (aI x3), some (aI (M 6 x3))]) (by decide) rfl rfl ?_
      refine mx_aload_n (pc := 20) C dX6_stillWithoutOne_20 rfl ?_
      refine mx_iload_n (pc := 21) C dX6_stillWithoutOne_21 rfl ?_
      refine mx_iconst (pc := 22) C dX6_stillWithoutOne_22 (z := (-1)) rfl (by constructor <;> decide) ?_
      obtain ⟨q3, hq3, h⟩ := of_bd h
      refine mc_V (pc := 23) (as := [aI x3, aI (-1)]) (rest := []) (stk2 := []) C ⟨Nat.le_refl _, Nat.le_refl _⟩ (m_X6_put hOM hq3) mi_X6_put mv_X6_put ml_X6_66 ci_6 rfl so_6 (by omega) rfl (Nat.le_of_ble_eq_true rfl) dX6_stillWithoutOne_23 rfl (fun hp4 => ?_)
      have hOq3 : OK q3.2 := hp4
      refine mx_aload_n (pc := 26) C dX6_stillWithoutOne_26 rfl ?_
      refine mx_getR (pc := 27) (v := 7) C dX6_stillWithoutOne_27 so_6 ci_6 (k := 4) (by decide) fl_X6_18 rfl (q := 4) rfl (lay_6_4 hOq3) (by decide) ?_
      refine mx_iload_n (pc := 30) C dX6_stillWithoutOne_30 rfl ?_
      obtain ⟨g5, h⟩ := of_gd h
      refine mx_iald (pc := 31) C dX6_stillWithoutOne_31 sh_6_4 g5.1 g5.2 ?_
      refine mx_aload_n (pc := 32) C dX6_stillWithoutOne_32 rfl ?_
      refine mx_getI (pc := 33) C dX6_stillWithoutOne_33 so_6 ci_6 (k := 1) (by decide) fl_X6_53 rfl (q := 1) rfl ?_
      refine mx_icmp_gt (pc := 36) (tgt := 42) C dX6_stillWithoutOne_36 rfl (fun c6 => ?_) (fun c6 => ?_)
      · rw [if_pos c6] at h
        exact b_X6_stillWithoutOne_42 C ih x1 x2 x3 (M 6 x3) q3.2 hOq3 h
      · rw [if_neg c6] at h
        refine mx_iinc (pc := 39) C dX6_stillWithoutOne_39 (ls' := [some (aR 4), some (aI x1), some (aI (w32 (x2 + 1))), some (aI x3), some (aI (M 6 x3))]) rfl (by decide) rfl (by constructor <;> decide) rfl rfl ?_
        exact b_X6_stillWithoutOne_42 C ih x1 (w32 (x2 + 1)) x3 (M 6 x3) q3.2 hOq3 h
set_option maxRecDepth 20000 in
set_option maxHeartbeats 4000000 in
theorem m_X6_stillWithoutOne {p1 : Int} {M : Mem} {res : Int × Mem} (hOM : OK M) (h : f_X6_stillWithoutOne p1 M = some res) : Mth false yX6_stillWithoutOne cX6_stillWithoutOne 5 (some .int) 3 0 0 SH [aR 4, aI p1] M (some (aI res.1)) SH res.2 (OK res.2) := by
  refine Mth.of (by decide +kernel) (Nat.le_of_ble_eq_true rfl) (fun K B C => ?_)
  show Wx K B _ 0 0 SH 5 M 0 [some (aR 4), some (aI p1), none, none, none] []
  unfold f_X6_stillWithoutOne at h
  refine mx_iconst (pc := 0) C dX6_stillWithoutOne_0 (z := 0) rfl (by constructor <;> decide) ?_
  refine mx_istore_n (pc := 1) C dX6_stillWithoutOne_1 (ls' := [some (aR 4), some (aI p1), some (aI 0), none, none]) (by decide) rfl rfl ?_
  refine mx_iconst (pc := 2) C dX6_stillWithoutOne_2 (z := 0) rfl (by constructor <;> decide) ?_
  refine mx_istore_n (pc := 3) C dX6_stillWithoutOne_3 (ls' := [some (aR 4), some (aI p1), some (aI 0), some (aI 0), none]) (by decide) rfl rfl ?_
  exact b_X6_stillWithoutOne_4 C FU p1 0 0 M hOM h

def s_X6_isStillBy_112 (rc : Int → Int → Mem → Option (Int × Mem)) (p1 : Int) (p2 : Int) (k24 : Int → Int → Int → Mem → Option (Int × Mem)) (k46 : Int → Int → Int → Int → Int → Mem → Option (Int × Mem)) (x1 : Int) (x2 : Int) (x3 : Int) (x4 : Int) (x5 : Int) (M : Mem) : Option (Int × Mem) :=
  k46 x1 x2 x3 x4 (w32 (x5 + 2)) M
def s_X6_isStillBy_46 (rc : Int → Int → Mem → Option (Int × Mem)) (p1 : Int) (p2 : Int) (k24 : Int → Int → Int → Mem → Option (Int × Mem)) : Nat → Int → Int → Int → Int → Int → Mem → Option (Int × Mem)
  | 0, _, _, _, _, _, _ => none
  | n + 1, x1, x2, x3, x4, x5, M => if w32 (x4 + 1) < x5 then k24 x1 x2 (w32 (x3 + 1)) M else if 0 ≤ x3 ∧ x3 < 6 then if M 8 x3 = 0 then (f_X7_isHouse x5 M).bind (fun q5 => if q5.1 = 0 then s_X6_isStillBy_112 rc p1 p2 k24 (s_X6_isStillBy_46 rc p1 p2 k24 n) x1 x2 x3 x4 x5 q5.2 else if 0 ≤ x1 ∧ x1 < 3 then lt (stM q5.2 12 x1 (w32 ((w32 (10 * x3)) + x5))) (fun M9 => (f_X6_put x3 x5 M9).bind (fun q10 => (rc (w32 (x1 + 1)) x2 q10.2).bind (fun q12 => if q12.1 = 0 then (f_X6_put x3 x4 q12.2).bind (fun q15 => s_X6_isStillBy_112 rc p1 p2 k24 (s_X6_isStillBy_46 rc p1 p2 k24 n) x1 x2 x3 x4 x5 q15.2) else some (1, q12.2)))) else none) else s_X6_isStillBy_112 rc p1 p2 k24 (s_X6_isStillBy_46 rc p1 p2 k24 n) x1 x2 x3 x4 x5 M else none
def s_X6_isStillBy_24 (rc : Int → Int → Mem → Option (Int × Mem)) (p1 : Int) (p2 : Int) : Nat → Int → Int → Int → Mem → Option (Int × Mem)
  | 0, _, _, _, _ => none
  | n + 1, x1, x2, x3, M => if M 4 0 ≤ x3 then some (0, M) else if 0 ≤ x3 ∧ x3 < 6 then s_X6_isStillBy_46 rc p1 p2 (s_X6_isStillBy_24 rc p1 p2 n) FU x1 x2 x3 (M 6 x3) (w32 ((M 6 x3) - 1)) M else none
def s_X6_isStillBy (rc : Int → Int → Mem → Option (Int × Mem)) (p1 : Int) (p2 : Int) (M : Mem) : Option (Int × Mem) :=
  if p1 < p2 then s_X6_isStillBy_24 rc p1 p2 FU p1 p2 0 M else (f_X6_greatest M).bind (fun q2 => if q2.2 4 1 < q2.1 then some (0, q2.2) else some (1, q2.2))
set_option maxRecDepth 20000 in
set_option maxHeartbeats 4000000 in
theorem b_X6_isStillBy_112 {K : KX} {B : BX} {res : Int × Mem} {d : Nat} {d_X6_isStillBy : Nat} {p1 : Int} {p2 : Int} {rc : Int → Int → Mem → Option (Int × Mem)} {k24 : Int → Int → Int → Mem → Option (Int × Mem)} {k46 : Int → Int → Int → Int → Int → Mem → Option (Int × Mem)} (C : Cx K B false yX6_isStillBy cX6_isStillBy 6 (some .boolean) d 0 0) (hdc : 3 ≤ d) (hd_X6_isStillBy : d_X6_isStillBy + 1 ≤ d) (hrc : ∀ (p1 : Int) (p2 : Int) (M : Mem) (res : Int × Mem), OK M → rc p1 p2 M = some res → Mth false yX6_isStillBy cX6_isStillBy 6 (some .boolean) d_X6_isStillBy 0 0 SH [aR 4, aI p1, aI p2] M (some (aI res.1)) SH res.2 (OK res.2 ∧ (res.1 = 0 ∨ res.1 = 1))) (hk24 : ∀ (x1 : Int) (x2 : Int) (x3 : Int) (M : Mem), OK M → k24 x1 x2 x3 M = some res → Wx K B (Zr K B (some (aI res.1)) SH res.2 (OK res.2 ∧ (res.1 = 0 ∨ res.1 = 1)) 0 0) 0 0 SH 6 M 24 [some (aR 4), some (aI x1), some (aI x2), some (aI x3), none, none] []) (hk46 : ∀ (x1 : Int) (x2 : Int) (x3 : Int) (x4 : Int) (x5 : Int) (M : Mem), OK M → k46 x1 x2 x3 x4 x5 M = some res → Wx K B (Zr K B (some (aI res.1)) SH res.2 (OK res.2 ∧ (res.1 = 0 ∨ res.1 = 1)) 0 0) 0 0 SH 6 M 46 [some (aR 4), some (aI x1), some (aI x2), some (aI x3), some (aI x4), some (aI x5)] []) : ∀ (x1 : Int) (x2 : Int) (x3 : Int) (x4 : Int) (x5 : Int) (M : Mem), OK M → s_X6_isStillBy_112 rc p1 p2 k24 k46 x1 x2 x3 x4 x5 M = some res → Wx K B (Zr K B (some (aI res.1)) SH res.2 (OK res.2 ∧ (res.1 = 0 ∨ res.1 = 1)) 0 0) 0 0 SH 6 M 112 [some (aR 4), some (aI x1), some (aI x2), some (aI x3), some (aI x4), some (aI x5)] [] := by
  intro x1 x2 x3 x4 x5 M hOM h
  unfold s_X6_isStillBy_112 at h
  refine mx_iinc (pc := 112) C dX6_isStillBy_112 (ls' := [some (aR 4), some (aI x1), some (aI x2), some (aI x3), some (aI x4), some (aI (w32 (x5 + 2)))]) rfl (by decide) rfl (by constructor <;> decide) rfl rfl ?_
  refine mx_goto (pc := 115) (tgt := 46) C dX6_isStillBy_115 rfl ?_
  exact hk46 x1 x2 x3 x4 (w32 (x5 + 2)) M hOM h
set_option maxRecDepth 20000 in
set_option maxHeartbeats 4000000 in
theorem b_X6_isStillBy_46 {K : KX} {B : BX} {res : Int × Mem} {d : Nat} {d_X6_isStillBy : Nat} {p1 : Int} {p2 : Int} {rc : Int → Int → Mem → Option (Int × Mem)} {k24 : Int → Int → Int → Mem → Option (Int × Mem)} (C : Cx K B false yX6_isStillBy cX6_isStillBy 6 (some .boolean) d 0 0) (hdc : 3 ≤ d) (hd_X6_isStillBy : d_X6_isStillBy + 1 ≤ d) (hrc : ∀ (p1 : Int) (p2 : Int) (M : Mem) (res : Int × Mem), OK M → rc p1 p2 M = some res → Mth false yX6_isStillBy cX6_isStillBy 6 (some .boolean) d_X6_isStillBy 0 0 SH [aR 4, aI p1, aI p2] M (some (aI res.1)) SH res.2 (OK res.2 ∧ (res.1 = 0 ∨ res.1 = 1))) (hk24 : ∀ (x1 : Int) (x2 : Int) (x3 : Int) (M : Mem), OK M → k24 x1 x2 x3 M = some res → Wx K B (Zr K B (some (aI res.1)) SH res.2 (OK res.2 ∧ (res.1 = 0 ∨ res.1 = 1)) 0 0) 0 0 SH 6 M 24 [some (aR 4), some (aI x1), some (aI x2), some (aI x3), none, none] []) : ∀ (n : Nat) (x1 : Int) (x2 : Int) (x3 : Int) (x4 : Int) (x5 : Int) (M : Mem), OK M → s_X6_isStillBy_46 rc p1 p2 k24 n x1 x2 x3 x4 x5 M = some res → Wx K B (Zr K B (some (aI res.1)) SH res.2 (OK res.2 ∧ (res.1 = 0 ∨ res.1 = 1)) 0 0) 0 0 SH 6 M 46 [some (aR 4), some (aI x1), some (aI x2), some (aI x3), some (aI x4), some (aI x5)] [] := by
  intro n
  induction n with
  | zero =>
    intro x1 x2 x3 x4 x5 M hOM h
    cases h
  | succ n ih =>
    intro x1 x2 x3 x4 x5 M hOM h
    rw [s_X6_isStillBy_46.eq_2] at h
    refine mx_iload (pc := 46) C dX6_isStillBy_46 rfl ?_
    refine mx_iload (pc := 48) C dX6_isStillBy_48 rfl ?_
    refine mx_iconst (pc := 50) C dX6_isStillBy_50 (z := 1) rfl (by constructor <;> decide) ?_
    refine mx_iadd (pc := 51) C dX6_isStillBy_51  ?_
    refine mx_icmp_gt (pc := 52) (tgt := 118) C dX6_isStillBy_52 rfl (fun c1 => ?_) (fun c1 => ?_)
    · rw [if_pos c1] at h
      refine mx_iinc (pc := 118) C dX6_isStillBy_118 (ls' := [some (aR 4), some (aI x1), some (aI x2), some (aI (w32 (x3 + 1))), some (aI x4), some (aI x5)]) rfl (by decide) rfl (by constructor <;> decide) rfl rfl ?_
      refine mx_goto (pc := 121) (tgt := 24) C dX6_isStillBy_121 rfl ?_
      refine mx_mask [true, true, true, true, false, false] (ls' := [some (aR 4), some (aI x1), some (aI x2), some (aI (w32 (x3 + 1))), none, none]) rfl rfl ?_
      exact hk24 x1 x2 (w32 (x3 + 1)) M hOM h
    · rw [if_neg c1] at h
      refine mx_aload_n (pc := 55) C dX6_isStillBy_55 rfl ?_
      refine mx_getR (pc := 56) (v := 8) C dX6_isStillBy_56 so_6 ci_6 (k := 5) (by decide) fl_X6_21 rfl (q := 5) rfl (lay_6_5 hOM) (by decide) ?_
      refine mx_iload_n (pc := 59) C dX6_isStillBy_59 rfl ?_
      obtain ⟨g2, h⟩ := of_gd h
      refine mx_zald (pc := 60) C dX6_isStillBy_60 sh_6_5 g2.1 g2.2 (fun z3 => ?_)
      refine mx_if_ne (pc := 61) (tgt := 112) C dX6_isStillBy_61 rfl (fun c4 => ?_) (fun c4 => ?_)
      · rw [if_neg c4] at h
        exact b_X6_isStillBy_112 C hdc hd_X6_isStillBy hrc hk24 ih x1 x2 x3 x4 x5 M hOM h
      · rw [if_pos c4] at h
        refine mx_iload (pc := 64) C dX6_isStillBy_64 rfl ?_
        obtain ⟨q5, hq5, h⟩ := of_bd h
        refine mc_SN (pc := 66) (host := "SqueakShop") (as := [aI x5]) (rest := []) (stk2 := [aI q5.1]) C ⟨Nat.le_refl _, Nat.le_refl _⟩ (m_X7_isHouse hOM hq5) mi_X7_isHouse ms_X7_isHouse (by decide +kernel) (by omega) rfl (Nat.le_of_ble_eq_true rfl) dX6_isStillBy_66 rfl (fun hp6 => ?_)
        have hOq5 : OK q5.2 := hp6.1
        refine mx_if_eq (pc := 69) (tgt := 112) C dX6_isStillBy_69 rfl (fun c7 => ?_) (fun c7 => ?_)
        · rw [if_pos c7] at h
          exact b_X6_isStillBy_112 C hdc hd_X6_isStillBy hrc hk24 ih x1 x2 x3 x4 x5 q5.2 hOq5 h
        · rw [if_neg c7] at h
          refine mx_aload_n (pc := 72) C dX6_isStillBy_72 rfl ?_
          refine mx_getR (pc := 73) (v := 12) C dX6_isStillBy_73 so_6 ci_6 (k := 11) (by decide) fl_X6_34 rfl (q := 11) rfl (lay_6_11 hOq5) (by decide) ?_
          refine mx_iload_n (pc := 76) C dX6_isStillBy_76 rfl ?_
          refine mx_bipush (pc := 77) C dX6_isStillBy_77 (z := 10) rfl (by constructor <;> decide) ?_
          refine mx_iload_n (pc := 79) C dX6_isStillBy_79 rfl ?_
          refine mx_imul (pc := 80) C dX6_isStillBy_80  ?_
          refine mx_iload (pc := 81) C dX6_isStillBy_81 rfl ?_
          refine mx_iadd (pc := 83) C dX6_isStillBy_83  ?_
          obtain ⟨g8, h⟩ := of_gd h
          refine mx_iast (pc := 84) C dX6_isStillBy_84 sh_6_11 g8.1 g8.2 ?_
          generalize hmM9 : stM q5.2 12 x1 (w32 ((w32 (10 * x3)) + x5)) = M9 at h ⊢
          replace h := lt_e h
          have hOM9 : OK M9 := by rw [← hmM9]; exact ok_arr hOq5 sh_6_11 (by decide)
          refine mx_aload_n (pc := 85) C dX6_isStillBy_85 rfl ?_
          refine mx_iload_n (pc := 86) C dX6_isStillBy_86 rfl ?_
          refine mx_iload (pc := 87) C dX6_isStillBy_87 rfl ?_
          obtain ⟨q10, hq10, h⟩ := of_bd h
          refine mc_V (pc := 89) (as := [aI x3, aI x5]) (rest := []) (stk2 := []) C ⟨Nat.le_refl _, Nat.le_refl _⟩ (m_X6_put hOM9 hq10) mi_X6_put mv_X6_put ml_X6_66 ci_6 rfl so_6 (by omega) rfl (Nat.le_of_ble_eq_true rfl) dX6_isStillBy_89 rfl (fun hp11 => ?_)
          have hOq10 : OK q10.2 := hp11
          refine mx_aload_n (pc := 92) C dX6_isStillBy_92 rfl ?_
          refine mx_iload_n (pc := 93) C dX6_isStillBy_93 rfl ?_
          refine mx_iconst (pc := 94) C dX6_isStillBy_94 (z := 1) rfl (by constructor <;> decide) ?_
          refine mx_iadd (pc := 95) C dX6_isStillBy_95  ?_
          refine mx_iload_n (pc := 96) C dX6_isStillBy_96 rfl ?_
          obtain ⟨q12, hq12, h⟩ := of_bd h
          refine mc_V (pc := 97) (as := [aI (w32 (x1 + 1)), aI x2]) (rest := []) (stk2 := [aI q12.1]) C ⟨Nat.le_refl _, Nat.le_refl _⟩ (hrc (w32 (x1 + 1)) x2 q10.2 _ hOq10 hq12) mi_X6_isStillBy mv_X6_isStillBy ml_X6_110 ci_6 rfl so_6 (by omega) rfl (Nat.le_of_ble_eq_true rfl) dX6_isStillBy_97 rfl (fun hp13 => ?_)
          have hOq12 : OK q12.2 := hp13.1
          refine mx_if_eq (pc := 100) (tgt := 105) C dX6_isStillBy_100 rfl (fun c14 => ?_) (fun c14 => ?_)
          · rw [if_pos c14] at h
            refine mx_aload_n (pc := 105) C dX6_isStillBy_105 rfl ?_
            refine mx_iload_n (pc := 106) C dX6_isStillBy_106 rfl ?_
            refine mx_iload (pc := 107) C dX6_isStillBy_107 rfl ?_
            obtain ⟨q15, hq15, h⟩ := of_bd h
            refine mc_V (pc := 109) (as := [aI x3, aI x4]) (rest := []) (stk2 := []) C ⟨Nat.le_refl _, Nat.le_refl _⟩ (m_X6_put hOq12 hq15) mi_X6_put mv_X6_put ml_X6_66 ci_6 rfl so_6 (by omega) rfl (Nat.le_of_ble_eq_true rfl) dX6_isStillBy_109 rfl (fun hp16 => ?_)
            have hOq15 : OK q15.2 := hp16
            exact b_X6_isStillBy_112 C hdc hd_X6_isStillBy hrc hk24 ih x1 x2 x3 x4 x5 q15.2 hOq15 h
          · rw [if_neg c14] at h
            refine mx_iconst (pc := 103) C dX6_isStillBy_103 (z := 1) rfl (by constructor <;> decide) ?_
            rw [← Option.some.inj h]
            exact mx_zreturn (pc := 104) C dX6_isStillBy_104 (Or.inr rfl) ⟨hOq12, (Or.inr rfl)⟩ ⟨Nat.le_refl _, Nat.le_refl _⟩
set_option maxRecDepth 20000 in
set_option maxHeartbeats 4000000 in
theorem b_X6_isStillBy_24 {K : KX} {B : BX} {res : Int × Mem} {d : Nat} {d_X6_isStillBy : Nat} {p1 : Int} {p2 : Int} {rc : Int → Int → Mem → Option (Int × Mem)} (C : Cx K B false yX6_isStillBy cX6_isStillBy 6 (some .boolean) d 0 0) (hdc : 3 ≤ d) (hd_X6_isStillBy : d_X6_isStillBy + 1 ≤ d) (hrc : ∀ (p1 : Int) (p2 : Int) (M : Mem) (res : Int × Mem), OK M → rc p1 p2 M = some res → Mth false yX6_isStillBy cX6_isStillBy 6 (some .boolean) d_X6_isStillBy 0 0 SH [aR 4, aI p1, aI p2] M (some (aI res.1)) SH res.2 (OK res.2 ∧ (res.1 = 0 ∨ res.1 = 1))) : ∀ (n : Nat) (x1 : Int) (x2 : Int) (x3 : Int) (M : Mem), OK M → s_X6_isStillBy_24 rc p1 p2 n x1 x2 x3 M = some res → Wx K B (Zr K B (some (aI res.1)) SH res.2 (OK res.2 ∧ (res.1 = 0 ∨ res.1 = 1)) 0 0) 0 0 SH 6 M 24 [some (aR 4), some (aI x1), some (aI x2), some (aI x3), none, none] [] := by
  intro n
  induction n with
  | zero =>
    intro x1 x2 x3 M hOM h
    cases h
  | succ n ih =>
    intro x1 x2 x3 M hOM h
    rw [s_X6_isStillBy_24.eq_2] at h
    refine mx_iload_n (pc := 24) C dX6_isStillBy_24 rfl ?_
    refine mx_aload_n (pc := 25) C dX6_isStillBy_25 rfl ?_
    refine mx_getI (pc := 26) C dX6_isStillBy_26 so_6 ci_6 (k := 0) (by decide) fl_X6_43 rfl (q := 0) rfl ?_
    refine mx_icmp_ge (pc := 29) (tgt := 124) C dX6_isStillBy_29 rfl (fun c1 => ?_) (fun c1 => ?_)
    · rw [if_pos c1] at h
      refine mx_iconst (pc := 124) C dX6_isStillBy_124 (z := 0) rfl (by constructor <;> decide) ?_
      rw [← Option.some.inj h]
      exact mx_zreturn (pc := 125) C dX6_isStillBy_125 (Or.inl rfl) ⟨hOM, (Or.inl rfl)⟩ ⟨Nat.le_refl _, Nat.le_refl _⟩
    · rw [if_neg c1] at h
      refine mx_aload_n (pc := 32) C dX6_isStillBy_32 rfl ?_
      refine mx_getR (pc := 33) (v := 6) C dX6_isStillBy_33 so_6 ci_6 (k := 3) (by decide) fl_X6_15 rfl (q := 3) rfl (lay_6_3 hOM) (by decide) ?_
      refine mx_iload_n (pc := 36) C dX6_isStillBy_36 rfl ?_
      obtain ⟨g2, h⟩ := of_gd h
      refine mx_iald (pc := 37) C dX6_isStillBy_37 sh_6_3 g2.1 g2.2 ?_
      refine mx_istore (pc := 38) C dX6_isStillBy_38 (ls' := [some (aR 4), some (aI x1), some (aI x2), some (aI x3), some (aI (M 6 x3)), none]) (by decide) rfl rfl ?_
      refine mx_iload (pc := 40) C dX6_isStillBy_40 rfl ?_
      refine mx_iconst (pc := 42) C dX6_isStillBy_42 (z := 1) rfl (by constructor <;> decide) ?_
      refine mx_isub (pc := 43) C dX6_isStillBy_43  ?_
      refine mx_istore (pc := 44) C dX6_isStillBy_44 (ls' := [some (aR 4), some (aI x1), some (aI x2), some (aI x3), some (aI (M 6 x3)), some (aI (w32 ((M 6 x3) - 1)))]) (by decide) rfl rfl ?_
      exact b_X6_isStillBy_46 C hdc hd_X6_isStillBy hrc ih FU x1 x2 x3 (M 6 x3) (w32 ((M 6 x3) - 1)) M hOM h
set_option maxRecDepth 20000 in
set_option maxHeartbeats 4000000 in
theorem mr_X6_isStillBy {d : Nat} {d_X6_isStillBy : Nat} {p1 : Int} {p2 : Int} {M : Mem} {res : Int × Mem} {rc : Int → Int → Mem → Option (Int × Mem)} (hdc : 3 ≤ d) (hd_X6_isStillBy : d_X6_isStillBy + 1 ≤ d) (hrc : ∀ (p1 : Int) (p2 : Int) (M : Mem) (res : Int × Mem), OK M → rc p1 p2 M = some res → Mth false yX6_isStillBy cX6_isStillBy 6 (some .boolean) d_X6_isStillBy 0 0 SH [aR 4, aI p1, aI p2] M (some (aI res.1)) SH res.2 (OK res.2 ∧ (res.1 = 0 ∨ res.1 = 1))) (hOM : OK M) (h : s_X6_isStillBy rc p1 p2 M = some res) : Mth false yX6_isStillBy cX6_isStillBy 6 (some .boolean) d 0 0 SH [aR 4, aI p1, aI p2] M (some (aI res.1)) SH res.2 (OK res.2 ∧ (res.1 = 0 ∨ res.1 = 1)) := by
  refine Mth.of (by decide +kernel) (Nat.le_of_ble_eq_true rfl) (fun K B C => ?_)
  show Wx K B _ 0 0 SH 6 M 0 [some (aR 4), some (aI p1), some (aI p2), none, none, none] []
  unfold s_X6_isStillBy at h
  refine mx_iload_n (pc := 0) C dX6_isStillBy_0 rfl ?_
  refine mx_iload_n (pc := 1) C dX6_isStillBy_1 rfl ?_
  refine mx_icmp_lt (pc := 2) (tgt := 22) C dX6_isStillBy_2 rfl (fun c1 => ?_) (fun c1 => ?_)
  · rw [if_pos c1] at h
    refine mx_iconst (pc := 22) C dX6_isStillBy_22 (z := 0) rfl (by constructor <;> decide) ?_
    refine mx_istore_n (pc := 23) C dX6_isStillBy_23 (ls' := [some (aR 4), some (aI p1), some (aI p2), some (aI 0), none, none]) (by decide) rfl rfl ?_
    exact b_X6_isStillBy_24 C hdc hd_X6_isStillBy hrc FU p1 p2 0 M hOM h
  · rw [if_neg c1] at h
    refine mx_aload_n (pc := 5) C dX6_isStillBy_5 rfl ?_
    obtain ⟨q2, hq2, h⟩ := of_bd h
    refine mc_V (pc := 6) (as := []) (rest := []) (stk2 := [aI q2.1]) C ⟨Nat.le_refl _, Nat.le_refl _⟩ (m_X6_greatest hOM hq2) mi_X6_greatest mv_X6_greatest ml_X6_80 ci_6 rfl so_6 (by omega) rfl (Nat.le_of_ble_eq_true rfl) dX6_isStillBy_6 rfl (fun hp3 => ?_)
    have hOq2 : OK q2.2 := hp3
    refine mx_aload_n (pc := 9) C dX6_isStillBy_9 rfl ?_
    refine mx_getI (pc := 10) C dX6_isStillBy_10 so_6 ci_6 (k := 1) (by decide) fl_X6_53 rfl (q := 1) rfl ?_
    refine mx_icmp_gt (pc := 13) (tgt := 20) C dX6_isStillBy_13 rfl (fun c4 => ?_) (fun c4 => ?_)
    · rw [if_pos c4] at h
      refine mx_iconst (pc := 20) C dX6_isStillBy_20 (z := 0) rfl (by constructor <;> decide) ?_
      rw [← Option.some.inj h]
      exact mx_zreturn (pc := 21) C dX6_isStillBy_21 (Or.inl rfl) ⟨hOq2, (Or.inl rfl)⟩ ⟨Nat.le_refl _, Nat.le_refl _⟩
    · rw [if_neg c4] at h
      refine mx_iconst (pc := 16) C dX6_isStillBy_16 (z := 1) rfl (by constructor <;> decide) ?_
      refine mx_goto (pc := 17) (tgt := 21) C dX6_isStillBy_17 rfl ?_
      rw [← Option.some.inj h]
      exact mx_zreturn (pc := 21) C dX6_isStillBy_21 (Or.inr rfl) ⟨hOq2, (Or.inr rfl)⟩ ⟨Nat.le_refl _, Nat.le_refl _⟩
def f_X6_isStillBy : Nat → Int → Int → Mem → Option (Int × Mem)
  | 0, _, _, _ => none
  | n + 1, p1, p2, M => s_X6_isStillBy (f_X6_isStillBy n) p1 p2 M
theorem mg_X6_isStillBy : ∀ (n : Nat) (p1 : Int) (p2 : Int) (M : Mem) (res : Int × Mem), OK M → f_X6_isStillBy n p1 p2 M = some res → Mth false yX6_isStillBy cX6_isStillBy 6 (some .boolean) (3 * n) 0 0 SH [aR 4, aI p1, aI p2] M (some (aI res.1)) SH res.2 (OK res.2 ∧ (res.1 = 0 ∨ res.1 = 1)) := by
  intro n
  induction n with
  | zero =>
    intro p1 p2 M res hO h
    cases h
  | succ n ih =>
    intro p1 p2 M res hO h
    rw [f_X6_isStillBy.eq_2] at h
    exact mr_X6_isStillBy (d := 3 * (n + 1)) (d_X6_isStillBy := 3 * n) (by omega) (by omega) ih hO h
theorem m_X6_isStillBy {p1 : Int} {p2 : Int} {M : Mem} {res : Int × Mem} (hO : OK M) (h : f_X6_isStillBy 5 p1 p2 M = some res) : Mth false yX6_isStillBy cX6_isStillBy 6 (some .boolean) 15 0 0 SH [aR 4, aI p1, aI p2] M (some (aI res.1)) SH res.2 (OK res.2 ∧ (res.1 = 0 ∨ res.1 = 1)) := mg_X6_isStillBy 5 p1 p2 M res hO h

def f_X6_fewestSteps_2 : Nat → Int → Mem → Option (Int × Mem)
  | 0, _, _ => none
  | n + 1, x1, M => if 3 < x1 then some ((-5), M) else (f_X6_isStillBy 5 0 x1 M).bind (fun q2 => if q2.1 = 0 then f_X6_fewestSteps_2 n (w32 (x1 + 1)) q2.2 else some (x1, q2.2))
def f_X6_fewestSteps (M : Mem) : Option (Int × Mem) :=
  f_X6_fewestSteps_2 FU 0 M
set_option maxRecDepth 20000 in
set_option maxHeartbeats 4000000 in
theorem b_X6_fewestSteps_2 {K : KX} {B : BX} {res : Int × Mem} (C : Cx K B false yX6_fewestSteps cX6_fewestSteps 2 (some .int) 16 0 0) : ∀ (n : Nat) (x1 : Int) (M : Mem), OK M → f_X6_fewestSteps_2 n x1 M = some res → Wx K B (Zr K B (some (aI res.1)) SH res.2 (OK res.2) 0 0) 0 0 SH 2 M 2 [some (aR 4), some (aI x1)] [] := by
  intro n
  induction n with
  | zero =>
    intro x1 M hOM h
    cases h
  | succ n ih =>
    intro x1 M hOM h
    rw [f_X6_fewestSteps_2.eq_2] at h
    refine mx_iload_n (pc := 2) C dX6_fewestSteps_2 rfl ?_
    refine mx_iconst (pc := 3) C dX6_fewestSteps_3 (z := 3) rfl (by constructor <;> decide) ?_
    refine mx_icmp_gt (pc := 4) (tgt := 24) C dX6_fewestSteps_4 rfl (fun c1 => ?_) (fun c1 => ?_)
    · rw [if_pos c1] at h
      refine mx_bipush (pc := 24) C dX6_fewestSteps_24 (z := (-5)) rfl (by constructor <;> decide) ?_
      rw [← Option.some.inj h]
      exact mx_ireturn (pc := 26) C dX6_fewestSteps_26 hOM ⟨Nat.le_refl _, Nat.le_refl _⟩
    · rw [if_neg c1] at h
      refine mx_aload_n (pc := 7) C dX6_fewestSteps_7 rfl ?_
      refine mx_iconst (pc := 8) C dX6_fewestSteps_8 (z := 0) rfl (by constructor <;> decide) ?_
      refine mx_iload_n (pc := 9) C dX6_fewestSteps_9 rfl ?_
      obtain ⟨q2, hq2, h⟩ := of_bd h
      refine mc_V (pc := 10) (as := [aI 0, aI x1]) (rest := []) (stk2 := [aI q2.1]) C ⟨Nat.le_refl _, Nat.le_refl _⟩ (m_X6_isStillBy hOM hq2) mi_X6_isStillBy mv_X6_isStillBy ml_X6_110 ci_6 rfl so_6 (by omega) rfl (Nat.le_of_ble_eq_true rfl) dX6_fewestSteps_10 rfl (fun hp3 => ?_)
      have hOq2 : OK q2.2 := hp3.1
      refine mx_if_eq (pc := 13) (tgt := 18) C dX6_fewestSteps_13 rfl (fun c4 => ?_) (fun c4 => ?_)
      · rw [if_pos c4] at h
        refine mx_iinc (pc := 18) C dX6_fewestSteps_18 (ls' := [some (aR 4), some (aI (w32 (x1 + 1)))]) rfl (by decide) rfl (by constructor <;> decide) rfl rfl ?_
        refine mx_goto (pc := 21) (tgt := 2) C dX6_fewestSteps_21 rfl ?_
        exact ih (w32 (x1 + 1)) q2.2 hOq2 h
      · rw [if_neg c4] at h
        refine mx_iload_n (pc := 16) C dX6_fewestSteps_16 rfl ?_
        rw [← Option.some.inj h]
        exact mx_ireturn (pc := 17) C dX6_fewestSteps_17 hOq2 ⟨Nat.le_refl _, Nat.le_refl _⟩
set_option maxRecDepth 20000 in
set_option maxHeartbeats 4000000 in
theorem m_X6_fewestSteps {M : Mem} {res : Int × Mem} (hOM : OK M) (h : f_X6_fewestSteps M = some res) : Mth false yX6_fewestSteps cX6_fewestSteps 2 (some .int) 16 0 0 SH [aR 4] M (some (aI res.1)) SH res.2 (OK res.2) := by
  refine Mth.of (by decide +kernel) (Nat.le_of_ble_eq_true rfl) (fun K B C => ?_)
  show Wx K B _ 0 0 SH 2 M 0 [some (aR 4), none] []
  unfold f_X6_fewestSteps at h
  refine mx_iconst (pc := 0) C dX6_fewestSteps_0 (z := 0) rfl (by constructor <;> decide) ?_
  refine mx_istore_n (pc := 1) C dX6_fewestSteps_1 (ls' := [some (aR 4), some (aI 0)]) (by decide) rfl rfl ?_
  exact b_X6_fewestSteps_2 C FU 0 M hOM h
