def f_X5_readOneOf_29 (p1 : Nat) (t0 : Int) (M : Mem) : Option (Int × Mem) :=
  if t0 < 0 then some (t0, M) else lt (stM M 1 2 (w32 ((M 1 2) + 1))) (fun M2 => some (t0, M2))
def f_X5_readOneOf (p1 : Nat) (M : Mem) : Option (Int × Mem) :=
  if M 1 1 ≤ M 1 2 then f_X5_readOneOf_29 p1 (-1) M else if 0 ≤ M 1 2 ∧ M 1 2 < 100 then (f_J0_indexOf_0f7a4 p1 ((M 2 (M 1 2)) % 65536) M).bind (fun q3 => f_X5_readOneOf_29 p1 q3.1 q3.2) else none
set_option maxRecDepth 20000 in
set_option maxHeartbeats 4000000 in
theorem b_X5_readOneOf_29 {K : KX} {B : BX} {res : Int × Mem} {p1 : Nat} (C : Cx K B false yX5_readOneOf cX5_readOneOf 3 (some .int) 5 0 0) (hp1 : p1 < 4) : ∀ (t0 : Int) (M : Mem), OK M → f_X5_readOneOf_29 p1 t0 M = some res → Wx K B (Zr K B (some (aI res.1)) SH res.2 (OK res.2) 0 0) 0 0 SH 3 M 29 [some (aR 1), none, none] [aI t0] := by
  intro t0 M hOM h
  unfold f_X5_readOneOf_29 at h
  refine mx_istore_n (pc := 29) C dX5_readOneOf_29 (ls' := [some (aR 1), none, some (aI t0)]) (by decide) rfl rfl ?_
  refine mx_iload_n (pc := 30) C dX5_readOneOf_30 rfl ?_
  refine mx_if_lt (pc := 31) (tgt := 44) C dX5_readOneOf_31 rfl (fun c1 => ?_) (fun c1 => ?_)
  · rw [if_pos c1] at h
    refine mx_iload_n (pc := 44) C dX5_readOneOf_44 rfl ?_
    rw [← Option.some.inj h]
    exact mx_ireturn (pc := 45) C dX5_readOneOf_45 hOM ⟨Nat.le_refl _, Nat.le_refl _⟩
  · rw [if_neg c1] at h
    refine mx_aload_n (pc := 34) C dX5_readOneOf_34 rfl ?_
    refine mx_dup (pc := 35) C dX5_readOneOf_35 rfl ?_
    refine mx_getI (pc := 36) C dX5_readOneOf_36 so_5 ci_5 (k := 2) (by decide) fl_X5_28 rfl (q := 2) rfl ?_
    refine mx_iconst (pc := 39) C dX5_readOneOf_39 (z := 1) rfl (by constructor <;> decide) ?_
    refine mx_iadd (pc := 40) C dX5_readOneOf_40  ?_
    refine mx_putI (pc := 41) C dX5_readOneOf_41 so_5 ci_5 (k := 2) (by decide) fl_X5_28 (Or.inl rfl) rfl (q := 2) rfl ?_
    generalize hmM2 : stM M 1 2 (w32 ((M 1 2) + 1)) = M2 at h ⊢
    replace h := lt_e h
    have hOM2 : OK M2 := by rw [← hmM2]; exact okf_5_2 hOM
    refine mx_iload_n (pc := 44) C dX5_readOneOf_44 rfl ?_
    rw [← Option.some.inj h]
    exact mx_ireturn (pc := 45) C dX5_readOneOf_45 hOM2 ⟨Nat.le_refl _, Nat.le_refl _⟩
set_option maxRecDepth 20000 in
set_option maxHeartbeats 4000000 in
theorem m_X5_readOneOf {p1 : Nat} {M : Mem} {res : Int × Mem} (hOM : OK M) (hp1 : p1 < 4) (h : f_X5_readOneOf p1 M = some res) : Mth false yX5_readOneOf cX5_readOneOf 3 (some .int) 5 0 0 SH [aR 1, aF (p1 + 2)] M (some (aI res.1)) SH res.2 (OK res.2) := by
  refine Mth.of (by decide +kernel) (Nat.le_of_ble_eq_true rfl) (fun K B C => ?_)
  show Wx K B _ 0 0 SH 3 M 0 [some (aR 1), some (aF (p1 + 2)), none] []
  unfold f_X5_readOneOf at h
  refine mx_aload_n (pc := 0) C dX5_readOneOf_0 rfl ?_
  refine mx_getI (pc := 1) C dX5_readOneOf_1 so_5 ci_5 (k := 2) (by decide) fl_X5_28 rfl (q := 2) rfl ?_
  refine mx_aload_n (pc := 4) C dX5_readOneOf_4 rfl ?_
  refine mx_getI (pc := 5) C dX5_readOneOf_5 so_5 ci_5 (k := 1) (by decide) fl_X5_15 rfl (q := 1) rfl ?_
  refine mx_icmp_ge (pc := 8) (tgt := 28) C dX5_readOneOf_8 rfl (fun c1 => ?_) (fun c1 => ?_)
  · rw [if_pos c1] at h
    refine mx_iconst (pc := 28) C dX5_readOneOf_28 (z := (-1)) rfl (by constructor <;> decide) ?_
    refine mx_mask [true, false, false] (ls' := [some (aR 1), none, none]) rfl rfl ?_
    exact b_X5_readOneOf_29 C hp1 (-1) M hOM h
  · rw [if_neg c1] at h
    refine mx_fload_n (pc := 11) C dX5_readOneOf_11 rfl ?_
    refine mx_aload_n (pc := 12) C dX5_readOneOf_12 rfl ?_
    refine mx_getR (pc := 13) (v := 2) C dX5_readOneOf_13 so_5 ci_5 (k := 0) (by decide) fl_X5_9 rfl (q := 0) rfl (lay_5_0 hOM) (by decide) ?_
    refine mx_aload_n (pc := 16) C dX5_readOneOf_16 rfl ?_
    refine mx_getI (pc := 17) C dX5_readOneOf_17 so_5 ci_5 (k := 2) (by decide) fl_X5_28 rfl (q := 2) rfl ?_
    obtain ⟨g2, h⟩ := of_gd h
    refine mx_bald (pc := 20) C dX5_readOneOf_20 sh_5_0 g2.1 g2.2 ?_
    refine mx_i2c (pc := 21) C dX5_readOneOf_21  ?_
    obtain ⟨q3, hq3, h⟩ := of_bd h
    refine mc_F (pc := 22) (as := [aI ((M 2 (M 1 2)) % 65536)]) (rest := []) (stk2 := [aI q3.1]) C hp1 ⟨Nat.le_refl _, Nat.le_refl _⟩ (m_J0_indexOf_0f7a4 hOM hp1 hq3) mi_J0_indexOf_0f7a4 mv_J0_indexOf_0f7a4 ml_X5_100 (by omega) rfl (Nat.le_of_ble_eq_true rfl) dX5_readOneOf_22 rfl (fun hp4 => ?_)
    have hOq3 : OK q3.2 := hp4
    refine mx_goto (pc := 25) (tgt := 29) C dX5_readOneOf_25 rfl ?_
    refine mx_mask [true, false, false] (ls' := [some (aR 1), none, none]) rfl rfl ?_
    exact b_X5_readOneOf_29 C hp1 q3.1 q3.2 hOq3 h

def f_X5_readNumber_21 (x1 : Int) (t0 : Int) (M : Mem) : Option (Int × Mem) :=
  if 0 ≤ t0 then some (w32 ((w32 (10 * x1)) + t0), M) else some (x1, M)
def f_X5_readNumber (M : Mem) : Option (Int × Mem) :=
  (f_X5_readOneOf 3 M).bind (fun q1 => if 0 ≤ q1.1 then (f_X5_readOneOf 3 q1.2).bind (fun q4 => f_X5_readNumber_21 q1.1 q4.1 q4.2) else f_X5_readNumber_21 q1.1 (-1) q1.2)
set_option maxRecDepth 20000 in
set_option maxHeartbeats 4000000 in
theorem b_X5_readNumber_21 {K : KX} {B : BX} {res : Int × Mem} (C : Cx K B false yX5_readNumber cX5_readNumber 3 (some .int) 6 0 0) : ∀ (x1 : Int) (t0 : Int) (M : Mem), OK M → f_X5_readNumber_21 x1 t0 M = some res → Wx K B (Zr K B (some (aI res.1)) SH res.2 (OK res.2) 0 0) 0 0 SH 3 M 21 [none, some (aI x1), none] [aI t0] := by
  intro x1 t0 M hOM h
  unfold f_X5_readNumber_21 at h
  refine mx_istore_n (pc := 21) C dX5_readNumber_21 (ls' := [none, some (aI x1), some (aI t0)]) (by decide) rfl rfl ?_
  refine mx_iload_n (pc := 22) C dX5_readNumber_22 rfl ?_
  refine mx_if_ge (pc := 23) (tgt := 30) C dX5_readNumber_23 rfl (fun c1 => ?_) (fun c1 => ?_)
  · rw [if_pos c1] at h
    refine mx_bipush (pc := 30) C dX5_readNumber_30 (z := 10) rfl (by constructor <;> decide) ?_
    refine mx_iload_n (pc := 32) C dX5_readNumber_32 rfl ?_
    refine mx_imul (pc := 33) C dX5_readNumber_33  ?_
    refine mx_iload_n (pc := 34) C dX5_readNumber_34 rfl ?_
    refine mx_iadd (pc := 35) C dX5_readNumber_35  ?_
    rw [← Option.some.inj h]
    exact mx_ireturn (pc := 36) C dX5_readNumber_36 hOM ⟨Nat.le_refl _, Nat.le_refl _⟩
  · rw [if_neg c1] at h
    refine mx_iload_n (pc := 26) C dX5_readNumber_26 rfl ?_
    refine mx_goto (pc := 27) (tgt := 36) C dX5_readNumber_27 rfl ?_
    rw [← Option.some.inj h]
    exact mx_ireturn (pc := 36) C dX5_readNumber_36 hOM ⟨Nat.le_refl _, Nat.le_refl _⟩
set_option maxRecDepth 20000 in
set_option maxHeartbeats 4000000 in
theorem m_X5_readNumber {M : Mem} {res : Int × Mem} (hOM : OK M) (h : f_X5_readNumber M = some res) : Mth false yX5_readNumber cX5_readNumber 3 (some .int) 6 0 0 SH [aR 1] M (some (aI res.1)) SH res.2 (OK res.2) := by
  refine Mth.of (by decide +kernel) (Nat.le_of_ble_eq_true rfl) (fun K B C => ?_)
  show Wx K B _ 0 0 SH 3 M 0 [some (aR 1), none, none] []
  unfold f_X5_readNumber at h
  refine mx_aload_n (pc := 0) C dX5_readNumber_0 rfl ?_
  refine mx_ldcS (pc := 1) C dX5_readNumber_1 (i := 3) rfl (by decide) ?_
  obtain ⟨q1, hq1, h⟩ := of_bd h
  refine mc_V (pc := 3) (as := [aF (3 + 2)]) (rest := []) (stk2 := [aI q1.1]) C ⟨Nat.le_refl _, Nat.le_refl _⟩ (m_X5_readOneOf hOM (by decide : 3 < 4) hq1) mi_X5_readOneOf mv_X5_readOneOf ml_X5_92 ci_5 rfl so_5 (by omega) rfl (Nat.le_of_ble_eq_true rfl) dX5_readNumber_3 rfl (fun hp2 => ?_)
  have hOq1 : OK q1.2 := hp2
  refine mx_istore_n (pc := 6) C dX5_readNumber_6 (ls' := [some (aR 1), some (aI q1.1), none]) (by decide) rfl rfl ?_
  refine mx_iload_n (pc := 7) C dX5_readNumber_7 rfl ?_
  refine mx_if_ge (pc := 8) (tgt := 15) C dX5_readNumber_8 rfl (fun c3 => ?_) (fun c3 => ?_)
  · rw [if_pos c3] at h
    refine mx_aload_n (pc := 15) C dX5_readNumber_15 rfl ?_
    refine mx_ldcS (pc := 16) C dX5_readNumber_16 (i := 3) rfl (by decide) ?_
    obtain ⟨q4, hq4, h⟩ := of_bd h
    refine mc_V (pc := 18) (as := [aF (3 + 2)]) (rest := []) (stk2 := [aI q4.1]) C ⟨Nat.le_refl _, Nat.le_refl _⟩ (m_X5_readOneOf hOq1 (by decide : 3 < 4) hq4) mi_X5_readOneOf mv_X5_readOneOf ml_X5_92 ci_5 rfl so_5 (by omega) rfl (Nat.le_of_ble_eq_true rfl) dX5_readNumber_18 rfl (fun hp5 => ?_)
    have hOq4 : OK q4.2 := hp5
    refine mx_mask [false, true, false] (ls' := [none, some (aI q1.1), none]) rfl rfl ?_
    exact b_X5_readNumber_21 C q1.1 q4.1 q4.2 hOq4 h
  · rw [if_neg c3] at h
    refine mx_iconst (pc := 11) C dX5_readNumber_11 (z := (-1)) rfl (by constructor <;> decide) ?_
    refine mx_goto (pc := 12) (tgt := 21) C dX5_readNumber_12 rfl ?_
    refine mx_mask [false, true, false] (ls' := [none, some (aI q1.1), none]) rfl rfl ?_
    exact b_X5_readNumber_21 C q1.1 (-1) q1.2 hOq1 h

def f_X5_readsTest_34 (x1 : Int) (x2 : Int) (t0 : Int) (M : Mem) : Option (Int × Mem) :=
  if 0 ≤ t0 then if 0 ≤ (M 1 3) then (f_X3_add (M 1 3) x1 (w32 (x2 - 1)) t0 M).bind (fun q3 => some (1, q3.2)) else none else some (0, M)
def f_X5_readsTest_21 (x1 : Int) (t0 : Int) (M : Mem) : Option (Int × Mem) :=
  if 0 ≤ t0 then (f_X5_readNumber M).bind (fun q2 => f_X5_readsTest_34 x1 t0 q2.1 q2.2) else f_X5_readsTest_34 x1 t0 (-1) M
def f_X5_readsTest (M : Mem) : Option (Int × Mem) :=
  (f_X5_readOneOf 1 M).bind (fun q1 => if 0 ≤ q1.1 then (f_X5_readOneOf 2 q1.2).bind (fun q4 => f_X5_readsTest_21 q1.1 q4.1 q4.2) else f_X5_readsTest_21 q1.1 (-1) q1.2)
set_option maxRecDepth 20000 in
set_option maxHeartbeats 4000000 in
theorem b_X5_readsTest_34 {K : KX} {B : BX} {res : Int × Mem} (C : Cx K B false yX5_readsTest cX5_readsTest 4 (some .boolean) 7 0 0) : ∀ (x1 : Int) (x2 : Int) (t0 : Int) (M : Mem), OK M → f_X5_readsTest_34 x1 x2 t0 M = some res → Wx K B (Zr K B (some (aI res.1)) SH res.2 (OK res.2 ∧ (res.1 = 0 ∨ res.1 = 1)) 0 0) 0 0 SH 4 M 34 [some (aR 1), some (aI x1), some (aI x2), none] [aI t0] := by
  intro x1 x2 t0 M hOM h
  unfold f_X5_readsTest_34 at h
  refine mx_istore_n (pc := 34) C dX5_readsTest_34 (ls' := [some (aR 1), some (aI x1), some (aI x2), some (aI t0)]) (by decide) rfl rfl ?_
  refine mx_iload_n (pc := 35) C dX5_readsTest_35 rfl ?_
  refine mx_if_ge (pc := 36) (tgt := 41) C dX5_readsTest_36 rfl (fun c1 => ?_) (fun c1 => ?_)
  · rw [if_pos c1] at h
    refine mx_aload_n (pc := 41) C dX5_readsTest_41 rfl ?_
    obtain ⟨g2, h⟩ := of_gd h
    refine mx_getR (pc := 42) (v := (M 1 3)) C dX5_readsTest_42 so_5 ci_5 (k := 3) (by decide) fl_X5_19 rfl (q := 3) rfl rfl g2 ?_
    refine mx_iload_n (pc := 45) C dX5_readsTest_45 rfl ?_
    refine mx_iload_n (pc := 46) C dX5_readsTest_46 rfl ?_
    refine mx_iconst (pc := 47) C dX5_readsTest_47 (z := 1) rfl (by constructor <;> decide) ?_
    refine mx_isub (pc := 48) C dX5_readsTest_48  ?_
    refine mx_iload_n (pc := 49) C dX5_readsTest_49 rfl ?_
    obtain ⟨q3, hq3, h⟩ := of_bd h
    refine mc_V (pc := 50) (as := [aI x1, aI (w32 (x2 - 1)), aI t0]) (rest := []) (stk2 := []) C ⟨Nat.le_refl _, Nat.le_refl _⟩ (m_X3_add hOM (made_of hOM g2) hq3) mi_X3_add mv_X3_add ml_X5_80 ci_3 rfl (so_3 (made_of hOM g2)) (by omega) rfl (Nat.le_of_ble_eq_true rfl) dX5_readsTest_50 rfl (fun hp4 => ?_)
    have hOq3 : OK q3.2 := hp4
    refine mx_iconst (pc := 53) C dX5_readsTest_53 (z := 1) rfl (by constructor <;> decide) ?_
    rw [← Option.some.inj h]
    exact mx_zreturn (pc := 54) C dX5_readsTest_54 (Or.inr rfl) ⟨hOq3, (Or.inr rfl)⟩ ⟨Nat.le_refl _, Nat.le_refl _⟩
  · rw [if_neg c1] at h
    refine mx_iconst (pc := 39) C dX5_readsTest_39 (z := 0) rfl (by constructor <;> decide) ?_
    rw [← Option.some.inj h]
    exact mx_zreturn (pc := 40) C dX5_readsTest_40 (Or.inl rfl) ⟨hOM, (Or.inl rfl)⟩ ⟨Nat.le_refl _, Nat.le_refl _⟩
set_option maxRecDepth 20000 in
set_option maxHeartbeats 4000000 in
theorem b_X5_readsTest_21 {K : KX} {B : BX} {res : Int × Mem} (C : Cx K B false yX5_readsTest cX5_readsTest 4 (some .boolean) 7 0 0) : ∀ (x1 : Int) (t0 : Int) (M : Mem), OK M → f_X5_readsTest_21 x1 t0 M = some res → Wx K B (Zr K B (some (aI res.1)) SH res.2 (OK res.2 ∧ (res.1 = 0 ∨ res.1 = 1)) 0 0) 0 0 SH 4 M 21 [some (aR 1), some (aI x1), none, none] [aI t0] := by
  intro x1 t0 M hOM h
  unfold f_X5_readsTest_21 at h
  refine mx_istore_n (pc := 21) C dX5_readsTest_21 (ls' := [some (aR 1), some (aI x1), some (aI t0), none]) (by decide) rfl rfl ?_
  refine mx_iload_n (pc := 22) C dX5_readsTest_22 rfl ?_
  refine mx_if_ge (pc := 23) (tgt := 30) C dX5_readsTest_23 rfl (fun c1 => ?_) (fun c1 => ?_)
  · rw [if_pos c1] at h
    refine mx_aload_n (pc := 30) C dX5_readsTest_30 rfl ?_
    obtain ⟨q2, hq2, h⟩ := of_bd h
    refine mc_V (pc := 31) (as := []) (rest := []) (stk2 := [aI q2.1]) C ⟨Nat.le_refl _, Nat.le_refl _⟩ (m_X5_readNumber hOM hq2) mi_X5_readNumber mv_X5_readNumber ml_X5_43 ci_5 rfl so_5 (by omega) rfl (Nat.le_of_ble_eq_true rfl) dX5_readsTest_31 rfl (fun hp3 => ?_)
    have hOq2 : OK q2.2 := hp3
    exact b_X5_readsTest_34 C x1 t0 q2.1 q2.2 hOq2 h
  · rw [if_neg c1] at h
    refine mx_iconst (pc := 26) C dX5_readsTest_26 (z := (-1)) rfl (by constructor <;> decide) ?_
    refine mx_goto (pc := 27) (tgt := 34) C dX5_readsTest_27 rfl ?_
    exact b_X5_readsTest_34 C x1 t0 (-1) M hOM h
set_option maxRecDepth 20000 in
set_option maxHeartbeats 4000000 in
theorem m_X5_readsTest {M : Mem} {res : Int × Mem} (hOM : OK M) (h : f_X5_readsTest M = some res) : Mth false yX5_readsTest cX5_readsTest 4 (some .boolean) 7 0 0 SH [aR 1] M (some (aI res.1)) SH res.2 (OK res.2 ∧ (res.1 = 0 ∨ res.1 = 1)) := by
  refine Mth.of (by decide +kernel) (Nat.le_of_ble_eq_true rfl) (fun K B C => ?_)
  show Wx K B _ 0 0 SH 4 M 0 [some (aR 1), none, none, none] []
  unfold f_X5_readsTest at h
  refine mx_aload_n (pc := 0) C dX5_readsTest_0 rfl ?_
  refine mx_ldcS (pc := 1) C dX5_readsTest_1 (i := 1) rfl (by decide) ?_
  obtain ⟨q1, hq1, h⟩ := of_bd h
  refine mc_V (pc := 3) (as := [aF (1 + 2)]) (rest := []) (stk2 := [aI q1.1]) C ⟨Nat.le_refl _, Nat.le_refl _⟩ (m_X5_readOneOf hOM (by decide : 1 < 4) hq1) mi_X5_readOneOf mv_X5_readOneOf ml_X5_92 ci_5 rfl so_5 (by omega) rfl (Nat.le_of_ble_eq_true rfl) dX5_readsTest_3 rfl (fun hp2 => ?_)
  have hOq1 : OK q1.2 := hp2
  refine mx_istore_n (pc := 6) C dX5_readsTest_6 (ls' := [some (aR 1), some (aI q1.1), none, none]) (by decide) rfl rfl ?_
  refine mx_iload_n (pc := 7) C dX5_readsTest_7 rfl ?_
  refine mx_if_ge (pc := 8) (tgt := 15) C dX5_readsTest_8 rfl (fun c3 => ?_) (fun c3 => ?_)
  · rw [if_pos c3] at h
    refine mx_aload_n (pc := 15) C dX5_readsTest_15 rfl ?_
    refine mx_ldcS (pc := 16) C dX5_readsTest_16 (i := 2) rfl (by decide) ?_
    obtain ⟨q4, hq4, h⟩ := of_bd h
    refine mc_V (pc := 18) (as := [aF (2 + 2)]) (rest := []) (stk2 := [aI q4.1]) C ⟨Nat.le_refl _, Nat.le_refl _⟩ (m_X5_readOneOf hOq1 (by decide : 2 < 4) hq4) mi_X5_readOneOf mv_X5_readOneOf ml_X5_92 ci_5 rfl so_5 (by omega) rfl (Nat.le_of_ble_eq_true rfl) dX5_readsTest_18 rfl (fun hp5 => ?_)
    have hOq4 : OK q4.2 := hp5
    exact b_X5_readsTest_21 C q1.1 q4.1 q4.2 hOq4 h
  · rw [if_neg c3] at h
    refine mx_iconst (pc := 11) C dX5_readsTest_11 (z := (-1)) rfl (by constructor <;> decide) ?_
    refine mx_goto (pc := 12) (tgt := 21) C dX5_readsTest_12 rfl ?_
    exact b_X5_readsTest_21 C q1.1 (-1) q1.2 hOq1 h

def f_X5_readsSign (p1 : Int) (M : Mem) : Option (Int × Mem) :=
  if M 1 1 ≤ M 1 2 then some (0, M) else if 0 ≤ M 1 2 ∧ M 1 2 < 100 then if M 2 (M 1 2) = p1 then lt (stM M 1 2 (w32 ((M 1 2) + 1))) (fun M4 => some (1, M4)) else some (0, M) else none
set_option maxRecDepth 20000 in
set_option maxHeartbeats 4000000 in
theorem m_X5_readsSign {p1 : Int} {M : Mem} {res : Int × Mem} (hOM : OK M) (h : f_X5_readsSign p1 M = some res) : Mth false yX5_readsSign cX5_readsSign 2 (some .boolean) 1 0 0 SH [aR 1, aI p1] M (some (aI res.1)) SH res.2 (OK res.2 ∧ (res.1 = 0 ∨ res.1 = 1)) := by
  refine Mth.of (by decide +kernel) (Nat.le_of_ble_eq_true rfl) (fun K B C => ?_)
  show Wx K B _ 0 0 SH 2 M 0 [some (aR 1), some (aI p1)] []
  unfold f_X5_readsSign at h
  refine mx_aload_n (pc := 0) C dX5_readsSign_0 rfl ?_
  refine mx_getI (pc := 1) C dX5_readsSign_1 so_5 ci_5 (k := 2) (by decide) fl_X5_28 rfl (q := 2) rfl ?_
  refine mx_aload_n (pc := 4) C dX5_readsSign_4 rfl ?_
  refine mx_getI (pc := 5) C dX5_readsSign_5 so_5 ci_5 (k := 1) (by decide) fl_X5_15 rfl (q := 1) rfl ?_
  refine mx_icmp_ge (pc := 8) (tgt := 24) C dX5_readsSign_8 rfl (fun c1 => ?_) (fun c1 => ?_)
  · rw [if_pos c1] at h
    refine mx_iconst (pc := 24) C dX5_readsSign_24 (z := 0) rfl (by constructor <;> decide) ?_
    rw [← Option.some.inj h]
    exact mx_zreturn (pc := 25) C dX5_readsSign_25 (Or.inl rfl) ⟨hOM, (Or.inl rfl)⟩ ⟨Nat.le_refl _, Nat.le_refl _⟩
  · rw [if_neg c1] at h
    refine mx_aload_n (pc := 11) C dX5_readsSign_11 rfl ?_
    refine mx_getR (pc := 12) (v := 2) C dX5_readsSign_12 so_5 ci_5 (k := 0) (by decide) fl_X5_9 rfl (q := 0) rfl (lay_5_0 hOM) (by decide) ?_
    refine mx_aload_n (pc := 15) C dX5_readsSign_15 rfl ?_
    refine mx_getI (pc := 16) C dX5_readsSign_16 so_5 ci_5 (k := 2) (by decide) fl_X5_28 rfl (q := 2) rfl ?_
    obtain ⟨g2, h⟩ := of_gd h
    refine mx_bald (pc := 19) C dX5_readsSign_19 sh_5_0 g2.1 g2.2 ?_
    refine mx_iload_n (pc := 20) C dX5_readsSign_20 rfl ?_
    refine mx_icmp_eq (pc := 21) (tgt := 26) C dX5_readsSign_21 rfl (fun c3 => ?_) (fun c3 => ?_)
    · rw [if_pos c3] at h
      refine mx_aload_n (pc := 26) C dX5_readsSign_26 rfl ?_
      refine mx_dup (pc := 27) C dX5_readsSign_27 rfl ?_
      refine mx_getI (pc := 28) C dX5_readsSign_28 so_5 ci_5 (k := 2) (by decide) fl_X5_28 rfl (q := 2) rfl ?_
      refine mx_iconst (pc := 31) C dX5_readsSign_31 (z := 1) rfl (by constructor <;> decide) ?_
      refine mx_iadd (pc := 32) C dX5_readsSign_32  ?_
      refine mx_putI (pc := 33) C dX5_readsSign_33 so_5 ci_5 (k := 2) (by decide) fl_X5_28 (Or.inl rfl) rfl (q := 2) rfl ?_
      generalize hmM4 : stM M 1 2 (w32 ((M 1 2) + 1)) = M4 at h ⊢
      replace h := lt_e h
      have hOM4 : OK M4 := by rw [← hmM4]; exact okf_5_2 hOM
      refine mx_iconst (pc := 36) C dX5_readsSign_36 (z := 1) rfl (by constructor <;> decide) ?_
      rw [← Option.some.inj h]
      exact mx_zreturn (pc := 37) C dX5_readsSign_37 (Or.inr rfl) ⟨hOM4, (Or.inr rfl)⟩ ⟨Nat.le_refl _, Nat.le_refl _⟩
    · rw [if_neg c3] at h
      refine mx_iconst (pc := 24) C dX5_readsSign_24 (z := 0) rfl (by constructor <;> decide) ?_
      rw [← Option.some.inj h]
      exact mx_zreturn (pc := 25) C dX5_readsSign_25 (Or.inl rfl) ⟨hOM, (Or.inl rfl)⟩ ⟨Nat.le_refl _, Nat.le_refl _⟩

def s_X5_readsAll_8 (rc_X5_readsOne : Int → Mem → Option (Int × Mem)) (p1 : Int) : Nat → Int → Int → Int → Mem → Option (Int × Mem)
  | 0, _, _, _, _ => none
  | n + 1, x1, x2, x3, M => if x2 = 0 then if x2 = 0 ∨ x2 = 1 then some (x2, M) else none else if 100 ≤ x3 then if x2 = 0 ∨ x2 = 1 then some (x2, M) else none else (f_X5_readsSign 38 M).bind (fun q5 => if q5.1 = 0 then if x2 = 0 ∨ x2 = 1 then some (x2, q5.2) else none else (rc_X5_readsOne x1 q5.2).bind (fun q9 => if 0 ≤ (q9.2 1 3) then (f_X3_add (q9.2 1 3) 7 0 0 q9.2).bind (fun q12 => s_X5_readsAll_8 rc_X5_readsOne p1 n x1 q9.1 (w32 (x3 + 1)) q12.2) else none))
def s_X5_readsAll (rc_X5_readsOne : Int → Mem → Option (Int × Mem)) (p1 : Int) (M : Mem) : Option (Int × Mem) :=
  (rc_X5_readsOne p1 M).bind (fun q1 => s_X5_readsAll_8 rc_X5_readsOne p1 FU p1 q1.1 0 q1.2)
set_option maxRecDepth 20000 in
set_option maxHeartbeats 4000000 in
theorem b_X5_readsAll_8 {K : KX} {B : BX} {res : Int × Mem} {d : Nat} {d_X5_readsOne : Nat} {p1 : Int} {rc_X5_readsOne : Int → Mem → Option (Int × Mem)} (C : Cx K B false yX5_readsAll cX5_readsAll 4 (some .boolean) d 0 0) (hdc : 2 ≤ d) (hd_X5_readsOne : d_X5_readsOne + 1 ≤ d) (hrc_X5_readsOne : ∀ (p1 : Int) (M : Mem) (res : Int × Mem), OK M → rc_X5_readsOne p1 M = some res → Mth false yX5_readsOne cX5_readsOne 3 (some .boolean) d_X5_readsOne 0 0 SH [aR 1, aI p1] M (some (aI res.1)) SH res.2 (OK res.2 ∧ (res.1 = 0 ∨ res.1 = 1))) : ∀ (n : Nat) (x1 : Int) (x2 : Int) (x3 : Int) (M : Mem), OK M → s_X5_readsAll_8 rc_X5_readsOne p1 n x1 x2 x3 M = some res → Wx K B (Zr K B (some (aI res.1)) SH res.2 (OK res.2 ∧ (res.1 = 0 ∨ res.1 = 1)) 0 0) 0 0 SH 4 M 8 [some (aR 1), some (aI x1), some (aI x2), some (aI x3)] [] := by
  intro n
  induction n with
  | zero =>
    intro x1 x2 x3 M hOM h
    cases h
  | succ n ih =>
    intro x1 x2 x3 M hOM h
    rw [s_X5_readsAll_8.eq_2] at h
    refine mx_iload_n (pc := 8) C dX5_readsAll_8 rfl ?_
    refine mx_if_eq (pc := 9) (tgt := 50) C dX5_readsAll_9 rfl (fun c1 => ?_) (fun c1 => ?_)
    · rw [if_pos c1] at h
      refine mx_iload_n (pc := 50) C dX5_readsAll_50 rfl ?_
      obtain ⟨g2, h⟩ := of_gd h
      rw [← Option.some.inj h]
      exact mx_zreturn (pc := 51) C dX5_readsAll_51 g2 ⟨hOM, g2⟩ ⟨Nat.le_refl _, Nat.le_refl _⟩
    · rw [if_neg c1] at h
      refine mx_iload_n (pc := 12) C dX5_readsAll_12 rfl ?_
      refine mx_bipush (pc := 13) C dX5_readsAll_13 (z := 100) rfl (by constructor <;> decide) ?_
      refine mx_icmp_ge (pc := 15) (tgt := 50) C dX5_readsAll_15 rfl (fun c3 => ?_) (fun c3 => ?_)
      · rw [if_pos c3] at h
        refine mx_iload_n (pc := 50) C dX5_readsAll_50 rfl ?_
        obtain ⟨g4, h⟩ := of_gd h
        rw [← Option.some.inj h]
        exact mx_zreturn (pc := 51) C dX5_readsAll_51 g4 ⟨hOM, g4⟩ ⟨Nat.le_refl _, Nat.le_refl _⟩
      · rw [if_neg c3] at h
        refine mx_aload_n (pc := 18) C dX5_readsAll_18 rfl ?_
        refine mx_bipush (pc := 19) C dX5_readsAll_19 (z := 38) rfl (by constructor <;> decide) ?_
        obtain ⟨q5, hq5, h⟩ := of_bd h
        refine mc_V (pc := 21) (as := [aI 38]) (rest := []) (stk2 := [aI q5.1]) C ⟨Nat.le_refl _, Nat.le_refl _⟩ (m_X5_readsSign hOM hq5) mi_X5_readsSign mv_X5_readsSign ml_X5_35 ci_5 rfl so_5 (by omega) rfl (Nat.le_of_ble_eq_true rfl) dX5_readsAll_21 rfl (fun hp6 => ?_)
        have hOq5 : OK q5.2 := hp6.1
        refine mx_if_eq (pc := 24) (tgt := 50) C dX5_readsAll_24 rfl (fun c7 => ?_) (fun c7 => ?_)
        · rw [if_pos c7] at h
          refine mx_iload_n (pc := 50) C dX5_readsAll_50 rfl ?_
          obtain ⟨g8, h⟩ := of_gd h
          rw [← Option.some.inj h]
          exact mx_zreturn (pc := 51) C dX5_readsAll_51 g8 ⟨hOq5, g8⟩ ⟨Nat.le_refl _, Nat.le_refl _⟩
        · rw [if_neg c7] at h
          refine mx_aload_n (pc := 27) C dX5_readsAll_27 rfl ?_
          refine mx_iload_n (pc := 28) C dX5_readsAll_28 rfl ?_
          obtain ⟨q9, hq9, h⟩ := of_bd h
          refine mc_V (pc := 29) (as := [aI x1]) (rest := []) (stk2 := [aI q9.1]) C ⟨Nat.le_refl _, Nat.le_refl _⟩ (hrc_X5_readsOne x1 q5.2 _ hOq5 hq9) mi_X5_readsOne mv_X5_readsOne ml_X5_84 ci_5 rfl so_5 (by omega) rfl (Nat.le_of_ble_eq_true rfl) dX5_readsAll_29 rfl (fun hp10 => ?_)
          have hOq9 : OK q9.2 := hp10.1
          refine mx_istore_n (pc := 32) C dX5_readsAll_32 (ls' := [some (aR 1), some (aI x1), some (aI q9.1), some (aI x3)]) (by decide) rfl rfl ?_
          refine mx_aload_n (pc := 33) C dX5_readsAll_33 rfl ?_
          obtain ⟨g11, h⟩ := of_gd h
          refine mx_getR (pc := 34) (v := (q9.2 1 3)) C dX5_readsAll_34 so_5 ci_5 (k := 3) (by decide) fl_X5_19 rfl (q := 3) rfl rfl g11 ?_
          refine mx_bipush (pc := 37) C dX5_readsAll_37 (z := 7) rfl (by constructor <;> decide) ?_
          refine mx_iconst (pc := 39) C dX5_readsAll_39 (z := 0) rfl (by constructor <;> decide) ?_
          refine mx_iconst (pc := 40) C dX5_readsAll_40 (z := 0) rfl (by constructor <;> decide) ?_
          obtain ⟨q12, hq12, h⟩ := of_bd h
          refine mc_V (pc := 41) (as := [aI 7, aI 0, aI 0]) (rest := []) (stk2 := []) C ⟨Nat.le_refl _, Nat.le_refl _⟩ (m_X3_add hOq9 (made_of hOq9 g11) hq12) mi_X3_add mv_X3_add ml_X5_80 ci_3 rfl (so_3 (made_of hOq9 g11)) (by omega) rfl (Nat.le_of_ble_eq_true rfl) dX5_readsAll_41 rfl (fun hp13 => ?_)
          have hOq12 : OK q12.2 := hp13
          refine mx_iinc (pc := 44) C dX5_readsAll_44 (ls' := [some (aR 1), some (aI x1), some (aI q9.1), some (aI (w32 (x3 + 1)))]) rfl (by decide) rfl (by constructor <;> decide) rfl rfl ?_
          refine mx_goto (pc := 47) (tgt := 8) C dX5_readsAll_47 rfl ?_
          exact ih x1 q9.1 (w32 (x3 + 1)) q12.2 hOq12 h
set_option maxRecDepth 20000 in
set_option maxHeartbeats 4000000 in
theorem mr_X5_readsAll {d : Nat} {d_X5_readsOne : Nat} {p1 : Int} {M : Mem} {res : Int × Mem} {rc_X5_readsOne : Int → Mem → Option (Int × Mem)} (hdc : 2 ≤ d) (hd_X5_readsOne : d_X5_readsOne + 1 ≤ d) (hrc_X5_readsOne : ∀ (p1 : Int) (M : Mem) (res : Int × Mem), OK M → rc_X5_readsOne p1 M = some res → Mth false yX5_readsOne cX5_readsOne 3 (some .boolean) d_X5_readsOne 0 0 SH [aR 1, aI p1] M (some (aI res.1)) SH res.2 (OK res.2 ∧ (res.1 = 0 ∨ res.1 = 1))) (hOM : OK M) (h : s_X5_readsAll rc_X5_readsOne p1 M = some res) : Mth false yX5_readsAll cX5_readsAll 4 (some .boolean) d 0 0 SH [aR 1, aI p1] M (some (aI res.1)) SH res.2 (OK res.2 ∧ (res.1 = 0 ∨ res.1 = 1)) := by
  refine Mth.of (by decide +kernel) (Nat.le_of_ble_eq_true rfl) (fun K B C => ?_)
  show Wx K B _ 0 0 SH 4 M 0 [some (aR 1), some (aI p1), none, none] []
  unfold s_X5_readsAll at h
  refine mx_aload_n (pc := 0) C dX5_readsAll_0 rfl ?_
  refine mx_iload_n (pc := 1) C dX5_readsAll_1 rfl ?_
  obtain ⟨q1, hq1, h⟩ := of_bd h
  refine mc_V (pc := 2) (as := [aI p1]) (rest := []) (stk2 := [aI q1.1]) C ⟨Nat.le_refl _, Nat.le_refl _⟩ (hrc_X5_readsOne p1 M _ hOM hq1) mi_X5_readsOne mv_X5_readsOne ml_X5_84 ci_5 rfl so_5 (by omega) rfl (Nat.le_of_ble_eq_true rfl) dX5_readsAll_2 rfl (fun hp2 => ?_)
  have hOq1 : OK q1.2 := hp2.1
  refine mx_istore_n (pc := 5) C dX5_readsAll_5 (ls' := [some (aR 1), some (aI p1), some (aI q1.1), none]) (by decide) rfl rfl ?_
  refine mx_iconst (pc := 6) C dX5_readsAll_6 (z := 0) rfl (by constructor <;> decide) ?_
  refine mx_istore_n (pc := 7) C dX5_readsAll_7 (ls' := [some (aR 1), some (aI p1), some (aI q1.1), some (aI 0)]) (by decide) rfl rfl ?_
  exact b_X5_readsAll_8 C hdc hd_X5_readsOne hrc_X5_readsOne FU p1 q1.1 0 q1.2 hOq1 h

def s_X5_readsOne_74 (rc : Int → Mem → Option (Int × Mem)) (rc_X5_readsAny : Int → Mem → Option (Int × Mem)) (p1 : Int) (M : Mem) : Option (Int × Mem) :=
  (f_X5_readsTest M).bind (fun q1 => some (q1.1, q1.2))
def s_X5_readsOne_35 (rc : Int → Mem → Option (Int × Mem)) (rc_X5_readsAny : Int → Mem → Option (Int × Mem)) (p1 : Int) (x1 : Int) (M : Mem) : Option (Int × Mem) :=
  if 4 ≤ x1 then s_X5_readsOne_74 rc rc_X5_readsAny p1 M else (f_X5_readsSign 40 M).bind (fun q2 => if q2.1 = 0 then s_X5_readsOne_74 rc rc_X5_readsAny p1 q2.2 else (rc_X5_readsAny (w32 (x1 + 1)) q2.2).bind (fun q5 => if q5.1 = 0 then some (0, q5.2) else (f_X5_readsSign 41 q5.2).bind (fun q8 => if q8.1 = 0 then some (0, q8.2) else some (1, q8.2))))
def s_X5_readsOne (rc : Int → Mem → Option (Int × Mem)) (rc_X5_readsAny : Int → Mem → Option (Int × Mem)) (p1 : Int) (M : Mem) : Option (Int × Mem) :=
  if 4 ≤ p1 then s_X5_readsOne_35 rc rc_X5_readsAny p1 p1 M else (f_X5_readsSign 33 M).bind (fun q2 => if q2.1 = 0 then s_X5_readsOne_35 rc rc_X5_readsAny p1 p1 q2.2 else (rc (w32 (p1 + 1)) q2.2).bind (fun q5 => if 0 ≤ (q5.2 1 3) then (f_X3_add (q5.2 1 3) 6 0 0 q5.2).bind (fun q8 => some (q5.1, q8.2)) else none))
set_option maxRecDepth 20000 in
set_option maxHeartbeats 4000000 in
theorem b_X5_readsOne_74 {K : KX} {B : BX} {res : Int × Mem} {d : Nat} {d_X5_readsOne : Nat} {d_X5_readsAny : Nat} {p1 : Int} {rc : Int → Mem → Option (Int × Mem)} {rc_X5_readsAny : Int → Mem → Option (Int × Mem)} (C : Cx K B false yX5_readsOne cX5_readsOne 3 (some .boolean) d 0 0) (hdc : 8 ≤ d) (hd_X5_readsOne : d_X5_readsOne + 1 ≤ d) (hrc : ∀ (p1 : Int) (M : Mem) (res : Int × Mem), OK M → rc p1 M = some res → Mth false yX5_readsOne cX5_readsOne 3 (some .boolean) d_X5_readsOne 0 0 SH [aR 1, aI p1] M (some (aI res.1)) SH res.2 (OK res.2 ∧ (res.1 = 0 ∨ res.1 = 1))) (hd_X5_readsAny : d_X5_readsAny + 1 ≤ d) (hrc_X5_readsAny : ∀ (p1 : Int) (M : Mem) (res : Int × Mem), OK M → rc_X5_readsAny p1 M = some res → Mth false yX5_readsAny cX5_readsAny 4 (some .boolean) d_X5_readsAny 0 0 SH [aR 1, aI p1] M (some (aI res.1)) SH res.2 (OK res.2 ∧ (res.1 = 0 ∨ res.1 = 1))) : ∀ (M : Mem), OK M → s_X5_readsOne_74 rc rc_X5_readsAny p1 M = some res → Wx K B (Zr K B (some (aI res.1)) SH res.2 (OK res.2 ∧ (res.1 = 0 ∨ res.1 = 1)) 0 0) 0 0 SH 3 M 74 [some (aR 1), none, none] [] := by
  intro M hOM h
  unfold s_X5_readsOne_74 at h
  refine mx_aload_n (pc := 74) C dX5_readsOne_74 rfl ?_
  obtain ⟨q1, hq1, h⟩ := of_bd h
  refine mc_V (pc := 75) (as := []) (rest := []) (stk2 := [aI q1.1]) C ⟨Nat.le_refl _, Nat.le_refl _⟩ (m_X5_readsTest hOM hq1) mi_X5_readsTest mv_X5_readsTest ml_X5_87 ci_5 rfl so_5 (by omega) rfl (Nat.le_of_ble_eq_true rfl) dX5_readsOne_75 rfl (fun hp2 => ?_)
  have hOq1 : OK q1.2 := hp2.1
  rw [← Option.some.inj h]
  exact mx_zreturn (pc := 78) C dX5_readsOne_78 hp2.2 ⟨hOq1, hp2.2⟩ ⟨Nat.le_refl _, Nat.le_refl _⟩
set_option maxRecDepth 20000 in
set_option maxHeartbeats 4000000 in
theorem b_X5_readsOne_35 {K : KX} {B : BX} {res : Int × Mem} {d : Nat} {d_X5_readsOne : Nat} {d_X5_readsAny : Nat} {p1 : Int} {rc : Int → Mem → Option (Int × Mem)} {rc_X5_readsAny : Int → Mem → Option (Int × Mem)} (C : Cx K B false yX5_readsOne cX5_readsOne 3 (some .boolean) d 0 0) (hdc : 8 ≤ d) (hd_X5_readsOne : d_X5_readsOne + 1 ≤ d) (hrc : ∀ (p1 : Int) (M : Mem) (res : Int × Mem), OK M → rc p1 M = some res → Mth false yX5_readsOne cX5_readsOne 3 (some .boolean) d_X5_readsOne 0 0 SH [aR 1, aI p1] M (some (aI res.1)) SH res.2 (OK res.2 ∧ (res.1 = 0 ∨ res.1 = 1))) (hd_X5_readsAny : d_X5_readsAny + 1 ≤ d) (hrc_X5_readsAny : ∀ (p1 : Int) (M : Mem) (res : Int × Mem), OK M → rc_X5_readsAny p1 M = some res → Mth false yX5_readsAny cX5_readsAny 4 (some .boolean) d_X5_readsAny 0 0 SH [aR 1, aI p1] M (some (aI res.1)) SH res.2 (OK res.2 ∧ (res.1 = 0 ∨ res.1 = 1))) : ∀ (x1 : Int) (M : Mem), OK M → s_X5_readsOne_35 rc rc_X5_readsAny p1 x1 M = some res → Wx K B (Zr K B (some (aI res.1)) SH res.2 (OK res.2 ∧ (res.1 = 0 ∨ res.1 = 1)) 0 0) 0 0 SH 3 M 35 [some (aR 1), some (aI x1), none] [] := by
  intro x1 M hOM h
  unfold s_X5_readsOne_35 at h
  refine mx_iload_n (pc := 35) C dX5_readsOne_35 rfl ?_
  refine mx_iconst (pc := 36) C dX5_readsOne_36 (z := 4) rfl (by constructor <;> decide) ?_
  refine mx_icmp_ge (pc := 37) (tgt := 74) C dX5_readsOne_37 rfl (fun c1 => ?_) (fun c1 => ?_)
  · rw [if_pos c1] at h
    refine mx_mask [true, false, false] (ls' := [some (aR 1), none, none]) rfl rfl ?_
    exact b_X5_readsOne_74 C hdc hd_X5_readsOne hrc hd_X5_readsAny hrc_X5_readsAny M hOM h
  · rw [if_neg c1] at h
    refine mx_aload_n (pc := 40) C dX5_readsOne_40 rfl ?_
    refine mx_bipush (pc := 41) C dX5_readsOne_41 (z := 40) rfl (by constructor <;> decide) ?_
    obtain ⟨q2, hq2, h⟩ := of_bd h
    refine mc_V (pc := 43) (as := [aI 40]) (rest := []) (stk2 := [aI q2.1]) C ⟨Nat.le_refl _, Nat.le_refl _⟩ (m_X5_readsSign hOM hq2) mi_X5_readsSign mv_X5_readsSign ml_X5_35 ci_5 rfl so_5 (by omega) rfl (Nat.le_of_ble_eq_true rfl) dX5_readsOne_43 rfl (fun hp3 => ?_)
    have hOq2 : OK q2.2 := hp3.1
    refine mx_if_eq (pc := 46) (tgt := 74) C dX5_readsOne_46 rfl (fun c4 => ?_) (fun c4 => ?_)
    · rw [if_pos c4] at h
      refine mx_mask [true, false, false] (ls' := [some (aR 1), none, none]) rfl rfl ?_
      exact b_X5_readsOne_74 C hdc hd_X5_readsOne hrc hd_X5_readsAny hrc_X5_readsAny q2.2 hOq2 h
    · rw [if_neg c4] at h
      refine mx_aload_n (pc := 49) C dX5_readsOne_49 rfl ?_
      refine mx_iload_n (pc := 50) C dX5_readsOne_50 rfl ?_
      refine mx_iconst (pc := 51) C dX5_readsOne_51 (z := 1) rfl (by constructor <;> decide) ?_
      refine mx_iadd (pc := 52) C dX5_readsOne_52  ?_
      obtain ⟨q5, hq5, h⟩ := of_bd h
      refine mc_V (pc := 53) (as := [aI (w32 (x1 + 1))]) (rest := []) (stk2 := [aI q5.1]) C ⟨Nat.le_refl _, Nat.le_refl _⟩ (hrc_X5_readsAny (w32 (x1 + 1)) q2.2 _ hOq2 hq5) mi_X5_readsAny mv_X5_readsAny ml_X5_55 ci_5 rfl so_5 (by omega) rfl (Nat.le_of_ble_eq_true rfl) dX5_readsOne_53 rfl (fun hp6 => ?_)
      have hOq5 : OK q5.2 := hp6.1
      refine mx_if_eq (pc := 56) (tgt := 72) C dX5_readsOne_56 rfl (fun c7 => ?_) (fun c7 => ?_)
      · rw [if_pos c7] at h
        refine mx_iconst (pc := 72) C dX5_readsOne_72 (z := 0) rfl (by constructor <;> decide) ?_
        rw [← Option.some.inj h]
        exact mx_zreturn (pc := 73) C dX5_readsOne_73 (Or.inl rfl) ⟨hOq5, (Or.inl rfl)⟩ ⟨Nat.le_refl _, Nat.le_refl _⟩
      · rw [if_neg c7] at h
        refine mx_aload_n (pc := 59) C dX5_readsOne_59 rfl ?_
        refine mx_bipush (pc := 60) C dX5_readsOne_60 (z := 41) rfl (by constructor <;> decide) ?_
        obtain ⟨q8, hq8, h⟩ := of_bd h
        refine mc_V (pc := 62) (as := [aI 41]) (rest := []) (stk2 := [aI q8.1]) C ⟨Nat.le_refl _, Nat.le_refl _⟩ (m_X5_readsSign hOq5 hq8) mi_X5_readsSign mv_X5_readsSign ml_X5_35 ci_5 rfl so_5 (by omega) rfl (Nat.le_of_ble_eq_true rfl) dX5_readsOne_62 rfl (fun hp9 => ?_)
        have hOq8 : OK q8.2 := hp9.1
        refine mx_if_eq (pc := 65) (tgt := 72) C dX5_readsOne_65 rfl (fun c10 => ?_) (fun c10 => ?_)
        · rw [if_pos c10] at h
          refine mx_iconst (pc := 72) C dX5_readsOne_72 (z := 0) rfl (by constructor <;> decide) ?_
          rw [← Option.some.inj h]
          exact mx_zreturn (pc := 73) C dX5_readsOne_73 (Or.inl rfl) ⟨hOq8, (Or.inl rfl)⟩ ⟨Nat.le_refl _, Nat.le_refl _⟩
        · rw [if_neg c10] at h
          refine mx_iconst (pc := 68) C dX5_readsOne_68 (z := 1) rfl (by constructor <;> decide) ?_
          refine mx_goto (pc := 69) (tgt := 73) C dX5_readsOne_69 rfl ?_
          rw [← Option.some.inj h]
          exact mx_zreturn (pc := 73) C dX5_readsOne_73 (Or.inr rfl) ⟨hOq8, (Or.inr rfl)⟩ ⟨Nat.le_refl _, Nat.le_refl _⟩
set_option maxRecDepth 20000 in
set_option maxHeartbeats 4000000 in
theorem mr_X5_readsOne {d : Nat} {d_X5_readsOne : Nat} {d_X5_readsAny : Nat} {p1 : Int} {M : Mem} {res : Int × Mem} {rc : Int → Mem → Option (Int × Mem)} {rc_X5_readsAny : Int → Mem → Option (Int × Mem)} (hdc : 8 ≤ d) (hd_X5_readsOne : d_X5_readsOne + 1 ≤ d) (hrc : ∀ (p1 : Int) (M : Mem) (res : Int × Mem), OK M → rc p1 M = some res → Mth false yX5_readsOne cX5_readsOne 3 (some .boolean) d_X5_readsOne 0 0 SH [aR 1, aI p1] M (some (aI res.1)) SH res.2 (OK res.2 ∧ (res.1 = 0 ∨ res.1 = 1))) (hd_X5_readsAny : d_X5_readsAny + 1 ≤ d) (hrc_X5_readsAny : ∀ (p1 : Int) (M : Mem) (res : Int × Mem), OK M → rc_X5_readsAny p1 M = some res → Mth false yX5_readsAny cX5_readsAny 4 (some .boolean) d_X5_readsAny 0 0 SH [aR 1, aI p1] M (some (aI res.1)) SH res.2 (OK res.2 ∧ (res.1 = 0 ∨ res.1 = 1))) (hOM : OK M) (h : s_X5_readsOne rc rc_X5_readsAny p1 M = some res) : Mth false yX5_readsOne cX5_readsOne 3 (some .boolean) d 0 0 SH [aR 1, aI p1] M (some (aI res.1)) SH res.2 (OK res.2 ∧ (res.1 = 0 ∨ res.1 = 1)) := by
  refine Mth.of (by decide +kernel) (Nat.le_of_ble_eq_true rfl) (fun K B C => ?_)
  show Wx K B _ 0 0 SH 3 M 0 [some (aR 1), some (aI p1), none] []
  unfold s_X5_readsOne at h
  refine mx_iload_n (pc := 0) C dX5_readsOne_0 rfl ?_
  refine mx_iconst (pc := 1) C dX5_readsOne_1 (z := 4) rfl (by constructor <;> decide) ?_
  refine mx_icmp_ge (pc := 2) (tgt := 35) C dX5_readsOne_2 rfl (fun c1 => ?_) (fun c1 => ?_)
  · rw [if_pos c1] at h
    exact b_X5_readsOne_35 C hdc hd_X5_readsOne hrc hd_X5_readsAny hrc_X5_readsAny p1 M hOM h
  · rw [if_neg c1] at h
    refine mx_aload_n (pc := 5) C dX5_readsOne_5 rfl ?_
    refine mx_bipush (pc := 6) C dX5_readsOne_6 (z := 33) rfl (by constructor <;> decide) ?_
    obtain ⟨q2, hq2, h⟩ := of_bd h
    refine mc_V (pc := 8) (as := [aI 33]) (rest := []) (stk2 := [aI q2.1]) C ⟨Nat.le_refl _, Nat.le_refl _⟩ (m_X5_readsSign hOM hq2) mi_X5_readsSign mv_X5_readsSign ml_X5_35 ci_5 rfl so_5 (by omega) rfl (Nat.le_of_ble_eq_true rfl) dX5_readsOne_8 rfl (fun hp3 => ?_)
    have hOq2 : OK q2.2 := hp3.1
    refine mx_if_eq (pc := 11) (tgt := 35) C dX5_readsOne_11 rfl (fun c4 => ?_) (fun c4 => ?_)
    · rw [if_pos c4] at h
      exact b_X5_readsOne_35 C hdc hd_X5_readsOne hrc hd_X5_readsAny hrc_X5_readsAny p1 q2.2 hOq2 h
    · rw [if_neg c4] at h
      refine mx_aload_n (pc := 14) C dX5_readsOne_14 rfl ?_
      refine mx_iload_n (pc := 15) C dX5_readsOne_15 rfl ?_
      refine mx_iconst (pc := 16) C dX5_readsOne_16 (z := 1) rfl (by constructor <;> decide) ?_
      refine mx_iadd (pc := 17) C dX5_readsOne_17  ?_
      obtain ⟨q5, hq5, h⟩ := of_bd h
      refine mc_V (pc := 18) (as := [aI (w32 (p1 + 1))]) (rest := []) (stk2 := [aI q5.1]) C ⟨Nat.le_refl _, Nat.le_refl _⟩ (hrc (w32 (p1 + 1)) q2.2 _ hOq2 hq5) mi_X5_readsOne mv_X5_readsOne ml_X5_84 ci_5 rfl so_5 (by omega) rfl (Nat.le_of_ble_eq_true rfl) dX5_readsOne_18 rfl (fun hp6 => ?_)
      have hOq5 : OK q5.2 := hp6.1
      refine mx_istore_n (pc := 21) C dX5_readsOne_21 (ls' := [some (aR 1), some (aI p1), some (aI q5.1)]) (by decide) rfl rfl ?_
      refine mx_aload_n (pc := 22) C dX5_readsOne_22 rfl ?_
      obtain ⟨g7, h⟩ := of_gd h
      refine mx_getR (pc := 23) (v := (q5.2 1 3)) C dX5_readsOne_23 so_5 ci_5 (k := 3) (by decide) fl_X5_19 rfl (q := 3) rfl rfl g7 ?_
      refine mx_bipush (pc := 26) C dX5_readsOne_26 (z := 6) rfl (by constructor <;> decide) ?_
      refine mx_iconst (pc := 28) C dX5_readsOne_28 (z := 0) rfl (by constructor <;> decide) ?_
      refine mx_iconst (pc := 29) C dX5_readsOne_29 (z := 0) rfl (by constructor <;> decide) ?_
      obtain ⟨q8, hq8, h⟩ := of_bd h
      refine mc_V (pc := 30) (as := [aI 6, aI 0, aI 0]) (rest := []) (stk2 := []) C ⟨Nat.le_refl _, Nat.le_refl _⟩ (m_X3_add hOq5 (made_of hOq5 g7) hq8) mi_X3_add mv_X3_add ml_X5_80 ci_3 rfl (so_3 (made_of hOq5 g7)) (by omega) rfl (Nat.le_of_ble_eq_true rfl) dX5_readsOne_30 rfl (fun hp9 => ?_)
      have hOq8 : OK q8.2 := hp9
      refine mx_iload_n (pc := 33) C dX5_readsOne_33 rfl ?_
      rw [← Option.some.inj h]
      exact mx_zreturn (pc := 34) C dX5_readsOne_34 hp6.2 ⟨hOq8, hp6.2⟩ ⟨Nat.le_refl _, Nat.le_refl _⟩

def s_X5_readsAny_8 (rc_X5_readsAll : Int → Mem → Option (Int × Mem)) (p1 : Int) : Nat → Int → Int → Int → Mem → Option (Int × Mem)
  | 0, _, _, _, _ => none
  | n + 1, x1, x2, x3, M => if x2 = 0 then if x2 = 0 ∨ x2 = 1 then some (x2, M) else none else if 100 ≤ x3 then if x2 = 0 ∨ x2 = 1 then some (x2, M) else none else (f_X5_readsSign 124 M).bind (fun q5 => if q5.1 = 0 then if x2 = 0 ∨ x2 = 1 then some (x2, q5.2) else none else (rc_X5_readsAll x1 q5.2).bind (fun q9 => if 0 ≤ (q9.2 1 3) then (f_X3_add (q9.2 1 3) 8 0 0 q9.2).bind (fun q12 => s_X5_readsAny_8 rc_X5_readsAll p1 n x1 q9.1 (w32 (x3 + 1)) q12.2) else none))
def s_X5_readsAny (rc_X5_readsAll : Int → Mem → Option (Int × Mem)) (p1 : Int) (M : Mem) : Option (Int × Mem) :=
  (rc_X5_readsAll p1 M).bind (fun q1 => s_X5_readsAny_8 rc_X5_readsAll p1 FU p1 q1.1 0 q1.2)
set_option maxRecDepth 20000 in
set_option maxHeartbeats 4000000 in
theorem b_X5_readsAny_8 {K : KX} {B : BX} {res : Int × Mem} {d : Nat} {d_X5_readsAll : Nat} {p1 : Int} {rc_X5_readsAll : Int → Mem → Option (Int × Mem)} (C : Cx K B false yX5_readsAny cX5_readsAny 4 (some .boolean) d 0 0) (hdc : 2 ≤ d) (hd_X5_readsAll : d_X5_readsAll + 1 ≤ d) (hrc_X5_readsAll : ∀ (p1 : Int) (M : Mem) (res : Int × Mem), OK M → rc_X5_readsAll p1 M = some res → Mth false yX5_readsAll cX5_readsAll 4 (some .boolean) d_X5_readsAll 0 0 SH [aR 1, aI p1] M (some (aI res.1)) SH res.2 (OK res.2 ∧ (res.1 = 0 ∨ res.1 = 1))) : ∀ (n : Nat) (x1 : Int) (x2 : Int) (x3 : Int) (M : Mem), OK M → s_X5_readsAny_8 rc_X5_readsAll p1 n x1 x2 x3 M = some res → Wx K B (Zr K B (some (aI res.1)) SH res.2 (OK res.2 ∧ (res.1 = 0 ∨ res.1 = 1)) 0 0) 0 0 SH 4 M 8 [some (aR 1), some (aI x1), some (aI x2), some (aI x3)] [] := by
  intro n
  induction n with
  | zero =>
    intro x1 x2 x3 M hOM h
    cases h
  | succ n ih =>
    intro x1 x2 x3 M hOM h
    rw [s_X5_readsAny_8.eq_2] at h
    refine mx_iload_n (pc := 8) C dX5_readsAny_8 rfl ?_
    refine mx_if_eq (pc := 9) (tgt := 50) C dX5_readsAny_9 rfl (fun c1 => ?_) (fun c1 => ?_)
    · rw [if_pos c1] at h
      refine mx_iload_n (pc := 50) C dX5_readsAny_50 rfl ?_
      obtain ⟨g2, h⟩ := of_gd h
      rw [← Option.some.inj h]
      exact mx_zreturn (pc := 51) C dX5_readsAny_51 g2 ⟨hOM, g2⟩ ⟨Nat.le_refl _, Nat.le_refl _⟩
    · rw [if_neg c1] at h
      refine mx_iload_n (pc := 12) C dX5_readsAny_12 rfl ?_
      refine mx_bipush (pc := 13) C dX5_readsAny_13 (z := 100) rfl (by constructor <;> decide) ?_
      refine mx_icmp_ge (pc := 15) (tgt := 50) C dX5_readsAny_15 rfl (fun c3 => ?_) (fun c3 => ?_)
      · rw [if_pos c3] at h
        refine mx_iload_n (pc := 50) C dX5_readsAny_50 rfl ?_
        obtain ⟨g4, h⟩ := of_gd h
        rw [← Option.some.inj h]
        exact mx_zreturn (pc := 51) C dX5_readsAny_51 g4 ⟨hOM, g4⟩ ⟨Nat.le_refl _, Nat.le_refl _⟩
      · rw [if_neg c3] at h
        refine mx_aload_n (pc := 18) C dX5_readsAny_18 rfl ?_
        refine mx_bipush (pc := 19) C dX5_readsAny_19 (z := 124) rfl (by constructor <;> decide) ?_
        obtain ⟨q5, hq5, h⟩ := of_bd h
        refine mc_V (pc := 21) (as := [aI 124]) (rest := []) (stk2 := [aI q5.1]) C ⟨Nat.le_refl _, Nat.le_refl _⟩ (m_X5_readsSign hOM hq5) mi_X5_readsSign mv_X5_readsSign ml_X5_35 ci_5 rfl so_5 (by omega) rfl (Nat.le_of_ble_eq_true rfl) dX5_readsAny_21 rfl (fun hp6 => ?_)
        have hOq5 : OK q5.2 := hp6.1
        refine mx_if_eq (pc := 24) (tgt := 50) C dX5_readsAny_24 rfl (fun c7 => ?_) (fun c7 => ?_)
        · rw [if_pos c7] at h
          refine mx_iload_n (pc := 50) C dX5_readsAny_50 rfl ?_
          obtain ⟨g8, h⟩ := of_gd h
          rw [← Option.some.inj h]
          exact mx_zreturn (pc := 51) C dX5_readsAny_51 g8 ⟨hOq5, g8⟩ ⟨Nat.le_refl _, Nat.le_refl _⟩
        · rw [if_neg c7] at h
          refine mx_aload_n (pc := 27) C dX5_readsAny_27 rfl ?_
          refine mx_iload_n (pc := 28) C dX5_readsAny_28 rfl ?_
          obtain ⟨q9, hq9, h⟩ := of_bd h
          refine mc_V (pc := 29) (as := [aI x1]) (rest := []) (stk2 := [aI q9.1]) C ⟨Nat.le_refl _, Nat.le_refl _⟩ (hrc_X5_readsAll x1 q5.2 _ hOq5 hq9) mi_X5_readsAll mv_X5_readsAll ml_X5_77 ci_5 rfl so_5 (by omega) rfl (Nat.le_of_ble_eq_true rfl) dX5_readsAny_29 rfl (fun hp10 => ?_)
          have hOq9 : OK q9.2 := hp10.1
          refine mx_istore_n (pc := 32) C dX5_readsAny_32 (ls' := [some (aR 1), some (aI x1), some (aI q9.1), some (aI x3)]) (by decide) rfl rfl ?_
          refine mx_aload_n (pc := 33) C dX5_readsAny_33 rfl ?_
          obtain ⟨g11, h⟩ := of_gd h
          refine mx_getR (pc := 34) (v := (q9.2 1 3)) C dX5_readsAny_34 so_5 ci_5 (k := 3) (by decide) fl_X5_19 rfl (q := 3) rfl rfl g11 ?_
          refine mx_bipush (pc := 37) C dX5_readsAny_37 (z := 8) rfl (by constructor <;> decide) ?_
          refine mx_iconst (pc := 39) C dX5_readsAny_39 (z := 0) rfl (by constructor <;> decide) ?_
          refine mx_iconst (pc := 40) C dX5_readsAny_40 (z := 0) rfl (by constructor <;> decide) ?_
          obtain ⟨q12, hq12, h⟩ := of_bd h
          refine mc_V (pc := 41) (as := [aI 8, aI 0, aI 0]) (rest := []) (stk2 := []) C ⟨Nat.le_refl _, Nat.le_refl _⟩ (m_X3_add hOq9 (made_of hOq9 g11) hq12) mi_X3_add mv_X3_add ml_X5_80 ci_3 rfl (so_3 (made_of hOq9 g11)) (by omega) rfl (Nat.le_of_ble_eq_true rfl) dX5_readsAny_41 rfl (fun hp13 => ?_)
          have hOq12 : OK q12.2 := hp13
          refine mx_iinc (pc := 44) C dX5_readsAny_44 (ls' := [some (aR 1), some (aI x1), some (aI q9.1), some (aI (w32 (x3 + 1)))]) rfl (by decide) rfl (by constructor <;> decide) rfl rfl ?_
          refine mx_goto (pc := 47) (tgt := 8) C dX5_readsAny_47 rfl ?_
          exact ih x1 q9.1 (w32 (x3 + 1)) q12.2 hOq12 h
set_option maxRecDepth 20000 in
set_option maxHeartbeats 4000000 in
theorem mr_X5_readsAny {d : Nat} {d_X5_readsAll : Nat} {p1 : Int} {M : Mem} {res : Int × Mem} {rc_X5_readsAll : Int → Mem → Option (Int × Mem)} (hdc : 2 ≤ d) (hd_X5_readsAll : d_X5_readsAll + 1 ≤ d) (hrc_X5_readsAll : ∀ (p1 : Int) (M : Mem) (res : Int × Mem), OK M → rc_X5_readsAll p1 M = some res → Mth false yX5_readsAll cX5_readsAll 4 (some .boolean) d_X5_readsAll 0 0 SH [aR 1, aI p1] M (some (aI res.1)) SH res.2 (OK res.2 ∧ (res.1 = 0 ∨ res.1 = 1))) (hOM : OK M) (h : s_X5_readsAny rc_X5_readsAll p1 M = some res) : Mth false yX5_readsAny cX5_readsAny 4 (some .boolean) d 0 0 SH [aR 1, aI p1] M (some (aI res.1)) SH res.2 (OK res.2 ∧ (res.1 = 0 ∨ res.1 = 1)) := by
  refine Mth.of (by decide +kernel) (Nat.le_of_ble_eq_true rfl) (fun K B C => ?_)
  show Wx K B _ 0 0 SH 4 M 0 [some (aR 1), some (aI p1), none, none] []
  unfold s_X5_readsAny at h
  refine mx_aload_n (pc := 0) C dX5_readsAny_0 rfl ?_
  refine mx_iload_n (pc := 1) C dX5_readsAny_1 rfl ?_
  obtain ⟨q1, hq1, h⟩ := of_bd h
  refine mc_V (pc := 2) (as := [aI p1]) (rest := []) (stk2 := [aI q1.1]) C ⟨Nat.le_refl _, Nat.le_refl _⟩ (hrc_X5_readsAll p1 M _ hOM hq1) mi_X5_readsAll mv_X5_readsAll ml_X5_77 ci_5 rfl so_5 (by omega) rfl (Nat.le_of_ble_eq_true rfl) dX5_readsAny_2 rfl (fun hp2 => ?_)
  have hOq1 : OK q1.2 := hp2.1
  refine mx_istore_n (pc := 5) C dX5_readsAny_5 (ls' := [some (aR 1), some (aI p1), some (aI q1.1), none]) (by decide) rfl rfl ?_
  refine mx_iconst (pc := 6) C dX5_readsAny_6 (z := 0) rfl (by constructor <;> decide) ?_
  refine mx_istore_n (pc := 7) C dX5_readsAny_7 (ls' := [some (aR 1), some (aI p1), some (aI q1.1), some (aI 0)]) (by decide) rfl rfl ?_
  exact b_X5_readsAny_8 C hdc hd_X5_readsAll hrc_X5_readsAll FU p1 q1.1 0 q1.2 hOq1 h
def f_X5_readsOne : Nat → Int → Mem → Option (Int × Mem)
  | 0, _, _ => none
  | n + 1, p1, M => s_X5_readsOne (f_X5_readsOne n) (s_X5_readsAny (s_X5_readsAll (f_X5_readsOne n))) p1 M
theorem mg_X5_readsOne : ∀ (n : Nat) (p1 : Int) (M : Mem) (res : Int × Mem), OK M → f_X5_readsOne n p1 M = some res → Mth false yX5_readsOne cX5_readsOne 3 (some .boolean) (11 * n) 0 0 SH [aR 1, aI p1] M (some (aI res.1)) SH res.2 (OK res.2 ∧ (res.1 = 0 ∨ res.1 = 1)) := by
  intro n
  induction n with
  | zero =>
    intro p1 M res hO h
    cases h
  | succ n ih =>
    intro p1 M res hO h
    rw [f_X5_readsOne.eq_2] at h
    have ha : ∀ (p1 : Int) (M : Mem) (res : Int × Mem), OK M → s_X5_readsAll (f_X5_readsOne n) p1 M = some res → Mth false yX5_readsAll cX5_readsAll 4 (some .boolean) (11 * n + 9) 0 0 SH [aR 1, aI p1] M (some (aI res.1)) SH res.2 (OK res.2 ∧ (res.1 = 0 ∨ res.1 = 1)) := fun p1 M res hO h => mr_X5_readsAll (d := 11 * n + 9) (d_X5_readsOne := 11 * n) (by omega) (by omega) ih hO h
    have hb : ∀ (p1 : Int) (M : Mem) (res : Int × Mem), OK M → s_X5_readsAny (s_X5_readsAll (f_X5_readsOne n)) p1 M = some res → Mth false yX5_readsAny cX5_readsAny 4 (some .boolean) (11 * n + 10) 0 0 SH [aR 1, aI p1] M (some (aI res.1)) SH res.2 (OK res.2 ∧ (res.1 = 0 ∨ res.1 = 1)) := fun p1 M res hO h => mr_X5_readsAny (d := 11 * n + 10) (d_X5_readsAll := 11 * n + 9) (by omega) (by omega) ha hO h
    exact mr_X5_readsOne (d := 11 * (n + 1)) (d_X5_readsOne := 11 * n) (d_X5_readsAny := 11 * n + 10) (by omega) (by omega) ih (by omega) hb hO h
def f_X5_readsAny (p1 : Int) (M : Mem) : Option (Int × Mem) := s_X5_readsAny (s_X5_readsAll (f_X5_readsOne 6)) p1 M
theorem m_X5_readsAny {p1 : Int} {M : Mem} {res : Int × Mem} (hO : OK M) (h : f_X5_readsAny p1 M = some res) : Mth false yX5_readsAny cX5_readsAny 4 (some .boolean) (11 * 6 + 10) 0 0 SH [aR 1, aI p1] M (some (aI res.1)) SH res.2 (OK res.2 ∧ (res.1 = 0 ∨ res.1 = 1)) :=
  mr_X5_readsAny (d := 11 * 6 + 10) (d_X5_readsAll := 11 * 6 + 9) (by omega) (by omega) (fun p1 M res hO h => mr_X5_readsAll (d := 11 * 6 + 9) (d_X5_readsOne := 11 * 6) (by omega) (by omega) (mg_X5_readsOne 6) hO h) hO h

def f_X5_grow (p1 : Int) (M : Mem) : Option (Int × Mem) :=
  if 0 ≤ M 1 1 ∧ M 1 1 < 100 then lt (stM M 2 (M 1 1) (w8 p1)) (fun M2 => lt (stM M2 1 1 (w32 ((M2 1 1) + 1))) (fun M3 => some (M3 1 1, M3))) else none
set_option maxRecDepth 20000 in
set_option maxHeartbeats 4000000 in
theorem m_X5_grow {p1 : Int} {M : Mem} {res : Int × Mem} (hOM : OK M) (h : f_X5_grow p1 M = some res) : Mth false yX5_grow cX5_grow 2 (some .int) 1 0 0 SH [aR 1, aI p1] M (some (aI res.1)) SH res.2 (OK res.2) := by
  refine Mth.of (by decide +kernel) (Nat.le_of_ble_eq_true rfl) (fun K B C => ?_)
  show Wx K B _ 0 0 SH 2 M 0 [some (aR 1), some (aI p1)] []
  unfold f_X5_grow at h
  refine mx_aload_n (pc := 0) C dX5_grow_0 rfl ?_
  refine mx_getR (pc := 1) (v := 2) C dX5_grow_1 so_5 ci_5 (k := 0) (by decide) fl_X5_9 rfl (q := 0) rfl (lay_5_0 hOM) (by decide) ?_
  refine mx_aload_n (pc := 4) C dX5_grow_4 rfl ?_
  refine mx_getI (pc := 5) C dX5_grow_5 so_5 ci_5 (k := 1) (by decide) fl_X5_15 rfl (q := 1) rfl ?_
  refine mx_iload_n (pc := 8) C dX5_grow_8 rfl ?_
  obtain ⟨g1, h⟩ := of_gd h
  refine mx_bast (pc := 9) C dX5_grow_9 sh_5_0 g1.1 g1.2 ?_
  generalize hmM2 : stM M 2 (M 1 1) (w8 p1) = M2 at h ⊢
  replace h := lt_e h
  have hOM2 : OK M2 := by rw [← hmM2]; exact ok_arr hOM sh_5_0 (by decide)
  refine mx_aload_n (pc := 10) C dX5_grow_10 rfl ?_
  refine mx_dup (pc := 11) C dX5_grow_11 rfl ?_
  refine mx_getI (pc := 12) C dX5_grow_12 so_5 ci_5 (k := 1) (by decide) fl_X5_15 rfl (q := 1) rfl ?_
  refine mx_iconst (pc := 15) C dX5_grow_15 (z := 1) rfl (by constructor <;> decide) ?_
  refine mx_iadd (pc := 16) C dX5_grow_16  ?_
  refine mx_putI (pc := 17) C dX5_grow_17 so_5 ci_5 (k := 1) (by decide) fl_X5_15 (Or.inl rfl) rfl (q := 1) rfl ?_
  generalize hmM3 : stM M2 1 1 (w32 ((M2 1 1) + 1)) = M3 at h ⊢
  replace h := lt_e h
  have hOM3 : OK M3 := by rw [← hmM3]; exact okf_5_1 hOM2
  refine mx_aload_n (pc := 20) C dX5_grow_20 rfl ?_
  refine mx_getI (pc := 21) C dX5_grow_21 so_5 ci_5 (k := 1) (by decide) fl_X5_15 rfl (q := 1) rfl ?_
  rw [← Option.some.inj h]
  exact mx_ireturn (pc := 24) C dX5_grow_24 hOM3 ⟨Nat.le_refl _, Nat.le_refl _⟩

def f_X5_readWord_59 (k4 : Int → Int → Mem → Option (Int × Mem)) (x1 : Int) (x2 : Int) (x3 : Int) (M : Mem) : Option (Int × Mem) :=
  if x3 = 4 then lt (stM M 1 2 (w32 ((M 1 2) + 4))) (fun M2 => some (x2, M2)) else k4 (max x1 x3) (w32 (x2 + 1)) M
def f_X5_readWord_11 (k4 : Int → Int → Mem → Option (Int × Mem)) : Nat → Int → Int → Int → Mem → Option (Int × Mem)
  | 0, _, _, _, _ => none
  | n + 1, x1, x2, x3, M => if 4 ≤ x3 then f_X5_readWord_59 k4 x1 x2 x3 M else if M 1 1 ≤ w32 ((M 1 2) + x3) then f_X5_readWord_59 k4 x1 x2 x3 M else if 0 ≤ w32 ((M 1 2) + x3) ∧ w32 ((M 1 2) + x3) < 100 then (f_J0_charAt_5068e 0 (w32 ((w32 (x2 * 4)) + x3)) M).bind (fun q4 => if M 2 (w32 ((M 1 2) + x3)) = q4.1 then f_X5_readWord_11 k4 n x1 x2 (w32 (x3 + 1)) q4.2 else f_X5_readWord_59 k4 x1 x2 x3 q4.2) else none
def f_X5_readWord_4 : Nat → Int → Int → Mem → Option (Int × Mem)
  | 0, _, _, _ => none
  | n + 1, x1, x2, M => if 5 ≤ x2 then lt (stM M 1 2 (w32 ((M 1 2) + x1))) (fun M2 => some ((-1), M2)) else f_X5_readWord_11 (f_X5_readWord_4 n) FU x1 x2 0 M
def f_X5_readWord (M : Mem) : Option (Int × Mem) :=
  f_X5_readWord_4 FU 0 0 M
set_option maxRecDepth 20000 in
set_option maxHeartbeats 4000000 in
theorem b_X5_readWord_59 {K : KX} {B : BX} {res : Int × Mem} {k4 : Int → Int → Mem → Option (Int × Mem)} (C : Cx K B false yX5_readWord cX5_readWord 4 (some .int) 5 0 0) (hk4 : ∀ (x1 : Int) (x2 : Int) (M : Mem), OK M → k4 x1 x2 M = some res → Wx K B (Zr K B (some (aI res.1)) SH res.2 (OK res.2) 0 0) 0 0 SH 4 M 4 [some (aR 1), some (aI x1), some (aI x2), none] []) : ∀ (x1 : Int) (x2 : Int) (x3 : Int) (M : Mem), OK M → f_X5_readWord_59 k4 x1 x2 x3 M = some res → Wx K B (Zr K B (some (aI res.1)) SH res.2 (OK res.2) 0 0) 0 0 SH 4 M 59 [some (aR 1), some (aI x1), some (aI x2), some (aI x3)] [] := by
  intro x1 x2 x3 M hOM h
  unfold f_X5_readWord_59 at h
  refine mx_iload_n (pc := 59) C dX5_readWord_59 rfl ?_
  refine mx_iconst (pc := 60) C dX5_readWord_60 (z := 4) rfl (by constructor <;> decide) ?_
  refine mx_icmp_ne (pc := 61) (tgt := 76) C dX5_readWord_61 rfl (fun c1 => ?_) (fun c1 => ?_)
  · rw [if_neg c1] at h
    refine mx_iload_n (pc := 76) C dX5_readWord_76 rfl ?_
    refine mx_iload_n (pc := 77) C dX5_readWord_77 rfl ?_
    refine mx_max (pc := 78) C ⟨Nat.le_refl _, Nat.le_refl _⟩ (by omega) (Nat.le_of_ble_eq_true rfl) ml_X5_71 dX5_readWord_78 ?_
    refine mx_istore_n (pc := 81) C dX5_readWord_81 (ls' := [some (aR 1), some (aI (max x1 x3)), some (aI x2), some (aI x3)]) (by decide) rfl rfl ?_
    refine mx_iinc (pc := 82) C dX5_readWord_82 (ls' := [some (aR 1), some (aI (max x1 x3)), some (aI (w32 (x2 + 1))), some (aI x3)]) rfl (by decide) rfl (by constructor <;> decide) rfl rfl ?_
    refine mx_goto (pc := 85) (tgt := 4) C dX5_readWord_85 rfl ?_
    refine mx_mask [true, true, true, false] (ls' := [some (aR 1), some (aI (max x1 x3)), some (aI (w32 (x2 + 1))), none]) rfl rfl ?_
    exact hk4 (max x1 x3) (w32 (x2 + 1)) M hOM h
  · rw [if_pos c1] at h
    refine mx_aload_n (pc := 64) C dX5_readWord_64 rfl ?_
    refine mx_dup (pc := 65) C dX5_readWord_65 rfl ?_
    refine mx_getI (pc := 66) C dX5_readWord_66 so_5 ci_5 (k := 2) (by decide) fl_X5_28 rfl (q := 2) rfl ?_
    refine mx_iconst (pc := 69) C dX5_readWord_69 (z := 4) rfl (by constructor <;> decide) ?_
    refine mx_iadd (pc := 70) C dX5_readWord_70  ?_
    refine mx_putI (pc := 71) C dX5_readWord_71 so_5 ci_5 (k := 2) (by decide) fl_X5_28 (Or.inl rfl) rfl (q := 2) rfl ?_
    generalize hmM2 : stM M 1 2 (w32 ((M 1 2) + 4)) = M2 at h ⊢
    replace h := lt_e h
    have hOM2 : OK M2 := by rw [← hmM2]; exact okf_5_2 hOM
    refine mx_iload_n (pc := 74) C dX5_readWord_74 rfl ?_
    rw [← Option.some.inj h]
    exact mx_ireturn (pc := 75) C dX5_readWord_75 hOM2 ⟨Nat.le_refl _, Nat.le_refl _⟩
set_option maxRecDepth 20000 in
set_option maxHeartbeats 4000000 in
theorem b_X5_readWord_11 {K : KX} {B : BX} {res : Int × Mem} {k4 : Int → Int → Mem → Option (Int × Mem)} (C : Cx K B false yX5_readWord cX5_readWord 4 (some .int) 5 0 0) (hk4 : ∀ (x1 : Int) (x2 : Int) (M : Mem), OK M → k4 x1 x2 M = some res → Wx K B (Zr K B (some (aI res.1)) SH res.2 (OK res.2) 0 0) 0 0 SH 4 M 4 [some (aR 1), some (aI x1), some (aI x2), none] []) : ∀ (n : Nat) (x1 : Int) (x2 : Int) (x3 : Int) (M : Mem), OK M → f_X5_readWord_11 k4 n x1 x2 x3 M = some res → Wx K B (Zr K B (some (aI res.1)) SH res.2 (OK res.2) 0 0) 0 0 SH 4 M 11 [some (aR 1), some (aI x1), some (aI x2), some (aI x3)] [] := by
  intro n
  induction n with
  | zero =>
    intro x1 x2 x3 M hOM h
    cases h
  | succ n ih =>
    intro x1 x2 x3 M hOM h
    rw [f_X5_readWord_11.eq_2] at h
    refine mx_iload_n (pc := 11) C dX5_readWord_11 rfl ?_
    refine mx_iconst (pc := 12) C dX5_readWord_12 (z := 4) rfl (by constructor <;> decide) ?_
    refine mx_icmp_ge (pc := 13) (tgt := 59) C dX5_readWord_13 rfl (fun c1 => ?_) (fun c1 => ?_)
    · rw [if_pos c1] at h
      exact b_X5_readWord_59 C hk4 x1 x2 x3 M hOM h
    · rw [if_neg c1] at h
      refine mx_aload_n (pc := 16) C dX5_readWord_16 rfl ?_
      refine mx_getI (pc := 17) C dX5_readWord_17 so_5 ci_5 (k := 2) (by decide) fl_X5_28 rfl (q := 2) rfl ?_
      refine mx_iload_n (pc := 20) C dX5_readWord_20 rfl ?_
      refine mx_iadd (pc := 21) C dX5_readWord_21  ?_
      refine mx_aload_n (pc := 22) C dX5_readWord_22 rfl ?_
      refine mx_getI (pc := 23) C dX5_readWord_23 so_5 ci_5 (k := 1) (by decide) fl_X5_15 rfl (q := 1) rfl ?_
      refine mx_icmp_ge (pc := 26) (tgt := 59) C dX5_readWord_26 rfl (fun c2 => ?_) (fun c2 => ?_)
      · rw [if_pos c2] at h
        exact b_X5_readWord_59 C hk4 x1 x2 x3 M hOM h
      · rw [if_neg c2] at h
        refine mx_aload_n (pc := 29) C dX5_readWord_29 rfl ?_
        refine mx_getR (pc := 30) (v := 2) C dX5_readWord_30 so_5 ci_5 (k := 0) (by decide) fl_X5_9 rfl (q := 0) rfl (lay_5_0 hOM) (by decide) ?_
        refine mx_aload_n (pc := 33) C dX5_readWord_33 rfl ?_
        refine mx_getI (pc := 34) C dX5_readWord_34 so_5 ci_5 (k := 2) (by decide) fl_X5_28 rfl (q := 2) rfl ?_
        refine mx_iload_n (pc := 37) C dX5_readWord_37 rfl ?_
        refine mx_iadd (pc := 38) C dX5_readWord_38  ?_
        obtain ⟨g3, h⟩ := of_gd h
        refine mx_bald (pc := 39) C dX5_readWord_39 sh_5_0 g3.1 g3.2 ?_
        refine mx_ldcS (pc := 40) C dX5_readWord_40 (i := 0) rfl (by decide) ?_
        refine mx_iload_n (pc := 42) C dX5_readWord_42 rfl ?_
        refine mx_iconst (pc := 43) C dX5_readWord_43 (z := 4) rfl (by constructor <;> decide) ?_
        refine mx_imul (pc := 44) C dX5_readWord_44  ?_
        refine mx_iload_n (pc := 45) C dX5_readWord_45 rfl ?_
        refine mx_iadd (pc := 46) C dX5_readWord_46  ?_
        obtain ⟨q4, hq4, h⟩ := of_bd h
        refine mc_F (pc := 47) (as := [aI (w32 ((w32 (x2 * 4)) + x3))]) (rest := [aI (M 2 (w32 ((M 1 2) + x3)))]) (stk2 := [aI q4.1, aI (M 2 (w32 ((M 1 2) + x3)))]) C (by decide : 0 < 4) ⟨Nat.le_refl _, Nat.le_refl _⟩ (m_J0_charAt_5068e hOM (by decide : 0 < 4) hq4) mi_J0_charAt_5068e mv_J0_charAt_5068e ml_X5_65 (by omega) rfl (Nat.le_of_ble_eq_true rfl) dX5_readWord_47 rfl (fun hp5 => ?_)
        have hOq4 : OK q4.2 := hp5
        refine mx_icmp_ne (pc := 50) (tgt := 59) C dX5_readWord_50 rfl (fun c6 => ?_) (fun c6 => ?_)
        · rw [if_neg c6] at h
          exact b_X5_readWord_59 C hk4 x1 x2 x3 q4.2 hOq4 h
        · rw [if_pos c6] at h
          refine mx_iinc (pc := 53) C dX5_readWord_53 (ls' := [some (aR 1), some (aI x1), some (aI x2), some (aI (w32 (x3 + 1)))]) rfl (by decide) rfl (by constructor <;> decide) rfl rfl ?_
          refine mx_goto (pc := 56) (tgt := 11) C dX5_readWord_56 rfl ?_
          exact ih x1 x2 (w32 (x3 + 1)) q4.2 hOq4 h
set_option maxRecDepth 20000 in
set_option maxHeartbeats 4000000 in
theorem b_X5_readWord_4 {K : KX} {B : BX} {res : Int × Mem} (C : Cx K B false yX5_readWord cX5_readWord 4 (some .int) 5 0 0) : ∀ (n : Nat) (x1 : Int) (x2 : Int) (M : Mem), OK M → f_X5_readWord_4 n x1 x2 M = some res → Wx K B (Zr K B (some (aI res.1)) SH res.2 (OK res.2) 0 0) 0 0 SH 4 M 4 [some (aR 1), some (aI x1), some (aI x2), none] [] := by
  intro n
  induction n with
  | zero =>
    intro x1 x2 M hOM h
    cases h
  | succ n ih =>
    intro x1 x2 M hOM h
    rw [f_X5_readWord_4.eq_2] at h
    refine mx_iload_n (pc := 4) C dX5_readWord_4 rfl ?_
    refine mx_iconst (pc := 5) C dX5_readWord_5 (z := 5) rfl (by constructor <;> decide) ?_
    refine mx_icmp_ge (pc := 6) (tgt := 88) C dX5_readWord_6 rfl (fun c1 => ?_) (fun c1 => ?_)
    · rw [if_pos c1] at h
      refine mx_aload_n (pc := 88) C dX5_readWord_88 rfl ?_
      refine mx_dup (pc := 89) C dX5_readWord_89 rfl ?_
      refine mx_getI (pc := 90) C dX5_readWord_90 so_5 ci_5 (k := 2) (by decide) fl_X5_28 rfl (q := 2) rfl ?_
      refine mx_iload_n (pc := 93) C dX5_readWord_93 rfl ?_
      refine mx_iadd (pc := 94) C dX5_readWord_94  ?_
      refine mx_putI (pc := 95) C dX5_readWord_95 so_5 ci_5 (k := 2) (by decide) fl_X5_28 (Or.inl rfl) rfl (q := 2) rfl ?_
      generalize hmM2 : stM M 1 2 (w32 ((M 1 2) + x1)) = M2 at h ⊢
      replace h := lt_e h
      have hOM2 : OK M2 := by rw [← hmM2]; exact okf_5_2 hOM
      refine mx_iconst (pc := 98) C dX5_readWord_98 (z := (-1)) rfl (by constructor <;> decide) ?_
      rw [← Option.some.inj h]
      exact mx_ireturn (pc := 99) C dX5_readWord_99 hOM2 ⟨Nat.le_refl _, Nat.le_refl _⟩
    · rw [if_neg c1] at h
      refine mx_iconst (pc := 9) C dX5_readWord_9 (z := 0) rfl (by constructor <;> decide) ?_
      refine mx_istore_n (pc := 10) C dX5_readWord_10 (ls' := [some (aR 1), some (aI x1), some (aI x2), some (aI 0)]) (by decide) rfl rfl ?_
      exact b_X5_readWord_11 C ih FU x1 x2 0 M hOM h
set_option maxRecDepth 20000 in
set_option maxHeartbeats 4000000 in
theorem m_X5_readWord {M : Mem} {res : Int × Mem} (hOM : OK M) (h : f_X5_readWord M = some res) : Mth false yX5_readWord cX5_readWord 4 (some .int) 5 0 0 SH [aR 1] M (some (aI res.1)) SH res.2 (OK res.2) := by
  refine Mth.of (by decide +kernel) (Nat.le_of_ble_eq_true rfl) (fun K B C => ?_)
  show Wx K B _ 0 0 SH 4 M 0 [some (aR 1), none, none, none] []
  unfold f_X5_readWord at h
  refine mx_iconst (pc := 0) C dX5_readWord_0 (z := 0) rfl (by constructor <;> decide) ?_
  refine mx_istore_n (pc := 1) C dX5_readWord_1 (ls' := [some (aR 1), some (aI 0), none, none]) (by decide) rfl rfl ?_
  refine mx_iconst (pc := 2) C dX5_readWord_2 (z := 0) rfl (by constructor <;> decide) ?_
  refine mx_istore_n (pc := 3) C dX5_readWord_3 (ls' := [some (aR 1), some (aI 0), some (aI 0), none]) (by decide) rfl rfl ?_
  exact b_X5_readWord_4 C FU 0 0 M hOM h

def f_X5_readsClause_128 (x3 : Int) (u0 : Int) (t1 : Int) (M : Mem) : Option (Int × Mem) :=
  (f_X3_endClause u0 t1 M).bind (fun q1 => if x3 = 0 ∨ x3 = 1 then some (x3, q1.2) else none)
def f_X5_readsClause_112 (x1 : Int) (x2 : Int) (t0 : Int) (M : Mem) : Option (Int × Mem) :=
  if 0 ≤ (M 1 3) then if x1 = 1 then f_X5_readsClause_128 t0 (M 1 3) (w32 (-x2)) M else f_X5_readsClause_128 t0 (M 1 3) x2 M else none
def f_X5_readsClause_111 (x1 : Int) (x2 : Int) (M : Mem) : Option (Int × Mem) :=
  f_X5_readsClause_112 x1 x2 0 M
def f_X5_readsClause_26 (x1 : Int) (t0 : Int) (M : Mem) : Option (Int × Mem) :=
  if 0 ≤ t0 then if x1 = 2 then if 0 ≤ (M 1 3) then lt (stM M (M 1 3) 0 t0) (fun M4 => some (1, M4)) else none else if x1 = 3 then if 0 ≤ (M 1 3) then lt (stM M (M 1 3) 1 t0) (fun M7 => some (1, M7)) else none else if x1 = 4 then if 0 ≤ (M 1 3) then lt (stM M (M 1 3) 2 t0) (fun M10 => some (1, M10)) else none else (f_X5_readsSign 32 M).bind (fun q11 => if q11.1 = 0 then f_X5_readsClause_111 x1 t0 q11.2 else (f_X5_readsAny 0 q11.2).bind (fun q14 => if q14.1 = 0 then f_X5_readsClause_111 x1 t0 q14.2 else f_X5_readsClause_112 x1 t0 1 q14.2)) else some (0, M)
def f_X5_readsClause_25 (x1 : Int) (M : Mem) : Option (Int × Mem) :=
  f_X5_readsClause_26 x1 (-1) M
def f_X5_readsClause (M : Mem) : Option (Int × Mem) :=
  (f_X5_readWord M).bind (fun q1 => if q1.1 < 0 then f_X5_readsClause_25 q1.1 q1.2 else (f_X5_readsSign 32 q1.2).bind (fun q4 => if q4.1 = 0 then f_X5_readsClause_25 q1.1 q4.2 else (f_X5_readNumber q4.2).bind (fun q7 => f_X5_readsClause_26 q1.1 q7.1 q7.2)))
set_option maxRecDepth 20000 in
set_option maxHeartbeats 4000000 in
theorem b_X5_readsClause_128 {K : KX} {B : BX} {res : Int × Mem} (C : Cx K B false yX5_readsClause cX5_readsClause 4 (some .boolean) 77 0 0) : ∀ (x3 : Int) (u0 : Int) (t1 : Int) (M : Mem), OK M → isStr u0 → f_X5_readsClause_128 x3 u0 t1 M = some res → Wx K B (Zr K B (some (aI res.1)) SH res.2 (OK res.2 ∧ (res.1 = 0 ∨ res.1 = 1)) 0 0) 0 0 SH 4 M 128 [none, none, none, some (aI x3)] [aI t1, aR u0] := by
  intro x3 u0 t1 M hOM hu0 h
  unfold f_X5_readsClause_128 at h
  obtain ⟨q1, hq1, h⟩ := of_bd h
  refine mc_V (pc := 128) (as := [aI t1]) (rest := []) (stk2 := []) C ⟨Nat.le_refl _, Nat.le_refl _⟩ (m_X3_endClause hOM hu0 hq1) mi_X3_endClause mv_X3_endClause ml_X5_59 ci_3 rfl (so_3 hu0) (by omega) rfl (Nat.le_of_ble_eq_true rfl) dX5_readsClause_128 rfl (fun hp2 => ?_)
  have hOq1 : OK q1.2 := hp2
  refine mx_iload_n (pc := 131) C dX5_readsClause_131 rfl ?_
  obtain ⟨g3, h⟩ := of_gd h
  rw [← Option.some.inj h]
  exact mx_zreturn (pc := 132) C dX5_readsClause_132 g3 ⟨hOq1, g3⟩ ⟨Nat.le_refl _, Nat.le_refl _⟩
set_option maxRecDepth 20000 in
set_option maxHeartbeats 4000000 in
theorem b_X5_readsClause_112 {K : KX} {B : BX} {res : Int × Mem} (C : Cx K B false yX5_readsClause cX5_readsClause 4 (some .boolean) 77 0 0) : ∀ (x1 : Int) (x2 : Int) (t0 : Int) (M : Mem), OK M → f_X5_readsClause_112 x1 x2 t0 M = some res → Wx K B (Zr K B (some (aI res.1)) SH res.2 (OK res.2 ∧ (res.1 = 0 ∨ res.1 = 1)) 0 0) 0 0 SH 4 M 112 [some (aR 1), some (aI x1), some (aI x2), none] [aI t0] := by
  intro x1 x2 t0 M hOM h
  unfold f_X5_readsClause_112 at h
  refine mx_istore_n (pc := 112) C dX5_readsClause_112 (ls' := [some (aR 1), some (aI x1), some (aI x2), some (aI t0)]) (by decide) rfl rfl ?_
  refine mx_aload_n (pc := 113) C dX5_readsClause_113 rfl ?_
  obtain ⟨g1, h⟩ := of_gd h
  refine mx_getR (pc := 114) (v := (M 1 3)) C dX5_readsClause_114 so_5 ci_5 (k := 3) (by decide) fl_X5_19 rfl (q := 3) rfl rfl g1 ?_
  refine mx_iload_n (pc := 117) C dX5_readsClause_117 rfl ?_
  refine mx_iconst (pc := 118) C dX5_readsClause_118 (z := 1) rfl (by constructor <;> decide) ?_
  refine mx_icmp_ne (pc := 119) (tgt := 127) C dX5_readsClause_119 rfl (fun c2 => ?_) (fun c2 => ?_)
  · rw [if_neg c2] at h
    refine mx_iload_n (pc := 127) C dX5_readsClause_127 rfl ?_
    refine mx_mask [false, false, false, true] (ls' := [none, none, none, some (aI t0)]) rfl rfl ?_
    exact b_X5_readsClause_128 C t0 (M 1 3) x2 M hOM (made_of hOM g1) h
  · rw [if_pos c2] at h
    refine mx_iload_n (pc := 122) C dX5_readsClause_122 rfl ?_
    refine mx_ineg (pc := 123) C dX5_readsClause_123  ?_
    refine mx_goto (pc := 124) (tgt := 128) C dX5_readsClause_124 rfl ?_
    refine mx_mask [false, false, false, true] (ls' := [none, none, none, some (aI t0)]) rfl rfl ?_
    exact b_X5_readsClause_128 C t0 (M 1 3) (w32 (-x2)) M hOM (made_of hOM g1) h
set_option maxRecDepth 20000 in
set_option maxHeartbeats 4000000 in
theorem b_X5_readsClause_111 {K : KX} {B : BX} {res : Int × Mem} (C : Cx K B false yX5_readsClause cX5_readsClause 4 (some .boolean) 77 0 0) : ∀ (x1 : Int) (x2 : Int) (M : Mem), OK M → f_X5_readsClause_111 x1 x2 M = some res → Wx K B (Zr K B (some (aI res.1)) SH res.2 (OK res.2 ∧ (res.1 = 0 ∨ res.1 = 1)) 0 0) 0 0 SH 4 M 111 [some (aR 1), some (aI x1), some (aI x2), none] [] := by
  intro x1 x2 M hOM h
  unfold f_X5_readsClause_111 at h
  refine mx_iconst (pc := 111) C dX5_readsClause_111 (z := 0) rfl (by constructor <;> decide) ?_
  exact b_X5_readsClause_112 C x1 x2 0 M hOM h
set_option maxRecDepth 20000 in
set_option maxHeartbeats 4000000 in
theorem b_X5_readsClause_26 {K : KX} {B : BX} {res : Int × Mem} (C : Cx K B false yX5_readsClause cX5_readsClause 4 (some .boolean) 77 0 0) : ∀ (x1 : Int) (t0 : Int) (M : Mem), OK M → f_X5_readsClause_26 x1 t0 M = some res → Wx K B (Zr K B (some (aI res.1)) SH res.2 (OK res.2 ∧ (res.1 = 0 ∨ res.1 = 1)) 0 0) 0 0 SH 4 M 26 [some (aR 1), some (aI x1), none, none] [aI t0] := by
  intro x1 t0 M hOM h
  unfold f_X5_readsClause_26 at h
  refine mx_istore_n (pc := 26) C dX5_readsClause_26 (ls' := [some (aR 1), some (aI x1), some (aI t0), none]) (by decide) rfl rfl ?_
  refine mx_iload_n (pc := 27) C dX5_readsClause_27 rfl ?_
  refine mx_if_ge (pc := 28) (tgt := 33) C dX5_readsClause_28 rfl (fun c1 => ?_) (fun c1 => ?_)
  · rw [if_pos c1] at h
    refine mx_iload_n (pc := 33) C dX5_readsClause_33 rfl ?_
    by_cases c2 : x1 = 2
    · rw [if_pos c2] at h
      refine mx_tin (pc := 34) (tgt := 60) C 2 dX5_readsClause_34 c2 (by decide) (by decide) rfl rfl ?_
      refine mx_aload_n (pc := 60) C dX5_readsClause_60 rfl ?_
      obtain ⟨g3, h⟩ := of_gd h
      refine mx_getR (pc := 61) (v := (M 1 3)) C dX5_readsClause_61 so_5 ci_5 (k := 3) (by decide) fl_X5_19 rfl (q := 3) rfl rfl g3 ?_
      refine mx_iload_n (pc := 64) C dX5_readsClause_64 rfl ?_
      refine mx_putI (pc := 65) C dX5_readsClause_65 (so_3 (made_of hOM g3)) ci_3 (k := 0) (by decide) fl_X5_46 (Or.inl rfl) rfl (q := 0) rfl ?_
      generalize hmM4 : stM M (M 1 3) 0 t0 = M4 at h ⊢
      replace h := lt_e h
      have hOM4 : OK M4 := by rw [← hmM4]; exact okf_3_0 hOM (made_of hOM g3)
      refine mx_iconst (pc := 68) C dX5_readsClause_68 (z := 1) rfl (by constructor <;> decide) ?_
      rw [← Option.some.inj h]
      exact mx_zreturn (pc := 69) C dX5_readsClause_69 (Or.inr rfl) ⟨hOM4, (Or.inr rfl)⟩ ⟨Nat.le_refl _, Nat.le_refl _⟩
    · rw [if_neg c2] at h
      by_cases c5 : x1 = 3
      · rw [if_pos c5] at h
        refine mx_tin (pc := 34) (tgt := 70) C 3 dX5_readsClause_34 c5 (by decide) (by decide) rfl rfl ?_
        refine mx_aload_n (pc := 70) C dX5_readsClause_70 rfl ?_
        obtain ⟨g6, h⟩ := of_gd h
        refine mx_getR (pc := 71) (v := (M 1 3)) C dX5_readsClause_71 so_5 ci_5 (k := 3) (by decide) fl_X5_19 rfl (q := 3) rfl rfl g6 ?_
        refine mx_iload_n (pc := 74) C dX5_readsClause_74 rfl ?_
        refine mx_putI (pc := 75) C dX5_readsClause_75 (so_3 (made_of hOM g6)) ci_3 (k := 1) (by decide) fl_X5_49 (Or.inl rfl) rfl (q := 1) rfl ?_
        generalize hmM7 : stM M (M 1 3) 1 t0 = M7 at h ⊢
        replace h := lt_e h
        have hOM7 : OK M7 := by rw [← hmM7]; exact okf_3_1 hOM (made_of hOM g6)
        refine mx_iconst (pc := 78) C dX5_readsClause_78 (z := 1) rfl (by constructor <;> decide) ?_
        rw [← Option.some.inj h]
        exact mx_zreturn (pc := 79) C dX5_readsClause_79 (Or.inr rfl) ⟨hOM7, (Or.inr rfl)⟩ ⟨Nat.le_refl _, Nat.le_refl _⟩
      · rw [if_neg c5] at h
        by_cases c8 : x1 = 4
        · rw [if_pos c8] at h
          refine mx_tin (pc := 34) (tgt := 80) C 4 dX5_readsClause_34 c8 (by decide) (by decide) rfl rfl ?_
          refine mx_aload_n (pc := 80) C dX5_readsClause_80 rfl ?_
          obtain ⟨g9, h⟩ := of_gd h
          refine mx_getR (pc := 81) (v := (M 1 3)) C dX5_readsClause_81 so_5 ci_5 (k := 3) (by decide) fl_X5_19 rfl (q := 3) rfl rfl g9 ?_
          refine mx_iload_n (pc := 84) C dX5_readsClause_84 rfl ?_
          refine mx_putI (pc := 85) C dX5_readsClause_85 (so_3 (made_of hOM g9)) ci_3 (k := 2) (by decide) fl_X5_52 (Or.inl rfl) rfl (q := 2) rfl ?_
          generalize hmM10 : stM M (M 1 3) 2 t0 = M10 at h ⊢
          replace h := lt_e h
          have hOM10 : OK M10 := by rw [← hmM10]; exact okf_3_2 hOM (made_of hOM g9)
          refine mx_iconst (pc := 88) C dX5_readsClause_88 (z := 1) rfl (by constructor <;> decide) ?_
          rw [← Option.some.inj h]
          exact mx_zreturn (pc := 89) C dX5_readsClause_89 (Or.inr rfl) ⟨hOM10, (Or.inr rfl)⟩ ⟨Nat.le_refl _, Nat.le_refl _⟩
        · rw [if_neg c8] at h
          refine mx_tout (pc := 34) (tgt := 90) C dX5_readsClause_34 (by omega) rfl ?_
          refine mx_aload_n (pc := 90) C dX5_readsClause_90 rfl ?_
          refine mx_bipush (pc := 91) C dX5_readsClause_91 (z := 32) rfl (by constructor <;> decide) ?_
          obtain ⟨q11, hq11, h⟩ := of_bd h
          refine mc_V (pc := 93) (as := [aI 32]) (rest := []) (stk2 := [aI q11.1]) C ⟨Nat.le_refl _, Nat.le_refl _⟩ (m_X5_readsSign hOM hq11) mi_X5_readsSign mv_X5_readsSign ml_X5_35 ci_5 rfl so_5 (by omega) rfl (Nat.le_of_ble_eq_true rfl) dX5_readsClause_93 rfl (fun hp12 => ?_)
          have hOq11 : OK q11.2 := hp12.1
          refine mx_if_eq (pc := 96) (tgt := 111) C dX5_readsClause_96 rfl (fun c13 => ?_) (fun c13 => ?_)
          · rw [if_pos c13] at h
            exact b_X5_readsClause_111 C x1 t0 q11.2 hOq11 h
          · rw [if_neg c13] at h
            refine mx_aload_n (pc := 99) C dX5_readsClause_99 rfl ?_
            refine mx_iconst (pc := 100) C dX5_readsClause_100 (z := 0) rfl (by constructor <;> decide) ?_
            obtain ⟨q14, hq14, h⟩ := of_bd h
            refine mc_V (pc := 101) (as := [aI 0]) (rest := []) (stk2 := [aI q14.1]) C ⟨Nat.le_refl _, Nat.le_refl _⟩ (m_X5_readsAny hOq11 hq14) mi_X5_readsAny mv_X5_readsAny ml_X5_55 ci_5 rfl so_5 (by omega) rfl (Nat.le_of_ble_eq_true rfl) dX5_readsClause_101 rfl (fun hp15 => ?_)
            have hOq14 : OK q14.2 := hp15.1
            refine mx_if_eq (pc := 104) (tgt := 111) C dX5_readsClause_104 rfl (fun c16 => ?_) (fun c16 => ?_)
            · rw [if_pos c16] at h
              exact b_X5_readsClause_111 C x1 t0 q14.2 hOq14 h
            · rw [if_neg c16] at h
              refine mx_iconst (pc := 107) C dX5_readsClause_107 (z := 1) rfl (by constructor <;> decide) ?_
              refine mx_goto (pc := 108) (tgt := 112) C dX5_readsClause_108 rfl ?_
              exact b_X5_readsClause_112 C x1 t0 1 q14.2 hOq14 h
  · rw [if_neg c1] at h
    refine mx_iconst (pc := 31) C dX5_readsClause_31 (z := 0) rfl (by constructor <;> decide) ?_
    rw [← Option.some.inj h]
    exact mx_zreturn (pc := 32) C dX5_readsClause_32 (Or.inl rfl) ⟨hOM, (Or.inl rfl)⟩ ⟨Nat.le_refl _, Nat.le_refl _⟩
set_option maxRecDepth 20000 in
set_option maxHeartbeats 4000000 in
theorem b_X5_readsClause_25 {K : KX} {B : BX} {res : Int × Mem} (C : Cx K B false yX5_readsClause cX5_readsClause 4 (some .boolean) 77 0 0) : ∀ (x1 : Int) (M : Mem), OK M → f_X5_readsClause_25 x1 M = some res → Wx K B (Zr K B (some (aI res.1)) SH res.2 (OK res.2 ∧ (res.1 = 0 ∨ res.1 = 1)) 0 0) 0 0 SH 4 M 25 [some (aR 1), some (aI x1), none, none] [] := by
  intro x1 M hOM h
  unfold f_X5_readsClause_25 at h
  refine mx_iconst (pc := 25) C dX5_readsClause_25 (z := (-1)) rfl (by constructor <;> decide) ?_
  exact b_X5_readsClause_26 C x1 (-1) M hOM h
set_option maxRecDepth 20000 in
set_option maxHeartbeats 4000000 in
theorem m_X5_readsClause {M : Mem} {res : Int × Mem} (hOM : OK M) (h : f_X5_readsClause M = some res) : Mth false yX5_readsClause cX5_readsClause 4 (some .boolean) 77 0 0 SH [aR 1] M (some (aI res.1)) SH res.2 (OK res.2 ∧ (res.1 = 0 ∨ res.1 = 1)) := by
  refine Mth.of (by decide +kernel) (Nat.le_of_ble_eq_true rfl) (fun K B C => ?_)
  show Wx K B _ 0 0 SH 4 M 0 [some (aR 1), none, none, none] []
  unfold f_X5_readsClause at h
  refine mx_aload_n (pc := 0) C dX5_readsClause_0 rfl ?_
  obtain ⟨q1, hq1, h⟩ := of_bd h
  refine mc_V (pc := 1) (as := []) (rest := []) (stk2 := [aI q1.1]) C ⟨Nat.le_refl _, Nat.le_refl _⟩ (m_X5_readWord hOM hq1) mi_X5_readWord mv_X5_readWord ml_X5_39 ci_5 rfl so_5 (by omega) rfl (Nat.le_of_ble_eq_true rfl) dX5_readsClause_1 rfl (fun hp2 => ?_)
  have hOq1 : OK q1.2 := hp2
  refine mx_istore_n (pc := 4) C dX5_readsClause_4 (ls' := [some (aR 1), some (aI q1.1), none, none]) (by decide) rfl rfl ?_
  refine mx_iload_n (pc := 5) C dX5_readsClause_5 rfl ?_
  refine mx_if_lt (pc := 6) (tgt := 25) C dX5_readsClause_6 rfl (fun c3 => ?_) (fun c3 => ?_)
  · rw [if_pos c3] at h
    exact b_X5_readsClause_25 C q1.1 q1.2 hOq1 h
  · rw [if_neg c3] at h
    refine mx_aload_n (pc := 9) C dX5_readsClause_9 rfl ?_
    refine mx_bipush (pc := 10) C dX5_readsClause_10 (z := 32) rfl (by constructor <;> decide) ?_
    obtain ⟨q4, hq4, h⟩ := of_bd h
    refine mc_V (pc := 12) (as := [aI 32]) (rest := []) (stk2 := [aI q4.1]) C ⟨Nat.le_refl _, Nat.le_refl _⟩ (m_X5_readsSign hOq1 hq4) mi_X5_readsSign mv_X5_readsSign ml_X5_35 ci_5 rfl so_5 (by omega) rfl (Nat.le_of_ble_eq_true rfl) dX5_readsClause_12 rfl (fun hp5 => ?_)
    have hOq4 : OK q4.2 := hp5.1
    refine mx_if_eq (pc := 15) (tgt := 25) C dX5_readsClause_15 rfl (fun c6 => ?_) (fun c6 => ?_)
    · rw [if_pos c6] at h
      exact b_X5_readsClause_25 C q1.1 q4.2 hOq4 h
    · rw [if_neg c6] at h
      refine mx_aload_n (pc := 18) C dX5_readsClause_18 rfl ?_
      obtain ⟨q7, hq7, h⟩ := of_bd h
      refine mc_V (pc := 19) (as := []) (rest := []) (stk2 := [aI q7.1]) C ⟨Nat.le_refl _, Nat.le_refl _⟩ (m_X5_readNumber hOq4 hq7) mi_X5_readNumber mv_X5_readNumber ml_X5_43 ci_5 rfl so_5 (by omega) rfl (Nat.le_of_ble_eq_true rfl) dX5_readsClause_19 rfl (fun hp8 => ?_)
      have hOq7 : OK q7.2 := hp8
      refine mx_goto (pc := 22) (tgt := 26) C dX5_readsClause_22 rfl ?_
      exact b_X5_readsClause_26 C q1.1 q7.1 q7.2 hOq7 h

def f_X5_makes_54 (p1 : Int) (x2 : Int) (M : Mem) : Option (Int × Mem) :=
  if x2 = 0 then some (0, M) else if M 1 2 = M 1 1 then some (1, M) else some (0, M)
def f_X5_makes_24 (p1 : Int) : Nat → Int → Int → Mem → Option (Int × Mem)
  | 0, _, _, _ => none
  | n + 1, x2, x3, M => if x2 = 0 then f_X5_makes_54 p1 x2 M else if 10 ≤ x3 then f_X5_makes_54 p1 x2 M else (f_X5_readsSign 59 M).bind (fun q3 => if q3.1 = 0 then f_X5_makes_54 p1 x2 q3.2 else (f_X5_readsClause q3.2).bind (fun q6 => f_X5_makes_24 p1 n q6.1 (w32 (x3 + 1)) q6.2))
def f_X5_makes (p1 : Int) (M : Mem) : Option (Int × Mem) :=
  lt (stM M 1 3 p1) (fun M1 => if 0 ≤ (M1 1 3) then (f_X3_empty (M1 1 3) M1).bind (fun q3 => lt (stM q3.2 1 2 0) (fun M5 => (f_X5_readsClause M5).bind (fun q6 => f_X5_makes_24 p1 FU q6.1 1 q6.2))) else none)
set_option maxRecDepth 20000 in
set_option maxHeartbeats 4000000 in
theorem b_X5_makes_54 {K : KX} {B : BX} {res : Int × Mem} {p1 : Int} (C : Cx K B false yX5_makes cX5_makes 4 (some .boolean) 78 0 0) (hp1 : isStr p1) : ∀ (x2 : Int) (M : Mem), OK M → f_X5_makes_54 p1 x2 M = some res → Wx K B (Zr K B (some (aI res.1)) SH res.2 (OK res.2 ∧ (res.1 = 0 ∨ res.1 = 1)) 0 0) 0 0 SH 4 M 54 [some (aR 1), none, some (aI x2), none] [] := by
  intro x2 M hOM h
  unfold f_X5_makes_54 at h
  refine mx_iload_n (pc := 54) C dX5_makes_54 rfl ?_
  refine mx_if_eq (pc := 55) (tgt := 73) C dX5_makes_55 rfl (fun c1 => ?_) (fun c1 => ?_)
  · rw [if_pos c1] at h
    refine mx_iconst (pc := 73) C dX5_makes_73 (z := 0) rfl (by constructor <;> decide) ?_
    rw [← Option.some.inj h]
    exact mx_zreturn (pc := 74) C dX5_makes_74 (Or.inl rfl) ⟨hOM, (Or.inl rfl)⟩ ⟨Nat.le_refl _, Nat.le_refl _⟩
  · rw [if_neg c1] at h
    refine mx_aload_n (pc := 58) C dX5_makes_58 rfl ?_
    refine mx_getI (pc := 59) C dX5_makes_59 so_5 ci_5 (k := 2) (by decide) fl_X5_28 rfl (q := 2) rfl ?_
    refine mx_aload_n (pc := 62) C dX5_makes_62 rfl ?_
    refine mx_getI (pc := 63) C dX5_makes_63 so_5 ci_5 (k := 1) (by decide) fl_X5_15 rfl (q := 1) rfl ?_
    refine mx_icmp_ne (pc := 66) (tgt := 73) C dX5_makes_66 rfl (fun c2 => ?_) (fun c2 => ?_)
    · rw [if_neg c2] at h
      refine mx_iconst (pc := 73) C dX5_makes_73 (z := 0) rfl (by constructor <;> decide) ?_
      rw [← Option.some.inj h]
      exact mx_zreturn (pc := 74) C dX5_makes_74 (Or.inl rfl) ⟨hOM, (Or.inl rfl)⟩ ⟨Nat.le_refl _, Nat.le_refl _⟩
    · rw [if_pos c2] at h
      refine mx_iconst (pc := 69) C dX5_makes_69 (z := 1) rfl (by constructor <;> decide) ?_
      refine mx_goto (pc := 70) (tgt := 74) C dX5_makes_70 rfl ?_
      rw [← Option.some.inj h]
      exact mx_zreturn (pc := 74) C dX5_makes_74 (Or.inr rfl) ⟨hOM, (Or.inr rfl)⟩ ⟨Nat.le_refl _, Nat.le_refl _⟩
set_option maxRecDepth 20000 in
set_option maxHeartbeats 4000000 in
theorem b_X5_makes_24 {K : KX} {B : BX} {res : Int × Mem} {p1 : Int} (C : Cx K B false yX5_makes cX5_makes 4 (some .boolean) 78 0 0) (hp1 : isStr p1) : ∀ (n : Nat) (x2 : Int) (x3 : Int) (M : Mem), OK M → f_X5_makes_24 p1 n x2 x3 M = some res → Wx K B (Zr K B (some (aI res.1)) SH res.2 (OK res.2 ∧ (res.1 = 0 ∨ res.1 = 1)) 0 0) 0 0 SH 4 M 24 [some (aR 1), none, some (aI x2), some (aI x3)] [] := by
  intro n
  induction n with
  | zero =>
    intro x2 x3 M hOM h
    cases h
  | succ n ih =>
    intro x2 x3 M hOM h
    rw [f_X5_makes_24.eq_2] at h
    refine mx_iload_n (pc := 24) C dX5_makes_24 rfl ?_
    refine mx_if_eq (pc := 25) (tgt := 54) C dX5_makes_25 rfl (fun c1 => ?_) (fun c1 => ?_)
    · rw [if_pos c1] at h
      refine mx_mask [true, false, true, false] (ls' := [some (aR 1), none, some (aI x2), none]) rfl rfl ?_
      exact b_X5_makes_54 C hp1 x2 M hOM h
    · rw [if_neg c1] at h
      refine mx_iload_n (pc := 28) C dX5_makes_28 rfl ?_
      refine mx_bipush (pc := 29) C dX5_makes_29 (z := 10) rfl (by constructor <;> decide) ?_
      refine mx_icmp_ge (pc := 31) (tgt := 54) C dX5_makes_31 rfl (fun c2 => ?_) (fun c2 => ?_)
      · rw [if_pos c2] at h
        refine mx_mask [true, false, true, false] (ls' := [some (aR 1), none, some (aI x2), none]) rfl rfl ?_
        exact b_X5_makes_54 C hp1 x2 M hOM h
      · rw [if_neg c2] at h
        refine mx_aload_n (pc := 34) C dX5_makes_34 rfl ?_
        refine mx_bipush (pc := 35) C dX5_makes_35 (z := 59) rfl (by constructor <;> decide) ?_
        obtain ⟨q3, hq3, h⟩ := of_bd h
        refine mc_V (pc := 37) (as := [aI 59]) (rest := []) (stk2 := [aI q3.1]) C ⟨Nat.le_refl _, Nat.le_refl _⟩ (m_X5_readsSign hOM hq3) mi_X5_readsSign mv_X5_readsSign ml_X5_35 ci_5 rfl so_5 (by omega) rfl (Nat.le_of_ble_eq_true rfl) dX5_makes_37 rfl (fun hp4 => ?_)
        have hOq3 : OK q3.2 := hp4.1
        refine mx_if_eq (pc := 40) (tgt := 54) C dX5_makes_40 rfl (fun c5 => ?_) (fun c5 => ?_)
        · rw [if_pos c5] at h
          refine mx_mask [true, false, true, false] (ls' := [some (aR 1), none, some (aI x2), none]) rfl rfl ?_
          exact b_X5_makes_54 C hp1 x2 q3.2 hOq3 h
        · rw [if_neg c5] at h
          refine mx_aload_n (pc := 43) C dX5_makes_43 rfl ?_
          obtain ⟨q6, hq6, h⟩ := of_bd h
          refine mc_V (pc := 44) (as := []) (rest := []) (stk2 := [aI q6.1]) C ⟨Nat.le_refl _, Nat.le_refl _⟩ (m_X5_readsClause hOq3 hq6) mi_X5_readsClause mv_X5_readsClause ml_X5_31 ci_5 rfl so_5 (by omega) rfl (Nat.le_of_ble_eq_true rfl) dX5_makes_44 rfl (fun hp7 => ?_)
          have hOq6 : OK q6.2 := hp7.1
          refine mx_istore_n (pc := 47) C dX5_makes_47 (ls' := [some (aR 1), none, some (aI q6.1), some (aI x3)]) (by decide) rfl rfl ?_
          refine mx_iinc (pc := 48) C dX5_makes_48 (ls' := [some (aR 1), none, some (aI q6.1), some (aI (w32 (x3 + 1)))]) rfl (by decide) rfl (by constructor <;> decide) rfl rfl ?_
          refine mx_goto (pc := 51) (tgt := 24) C dX5_makes_51 rfl ?_
          exact ih q6.1 (w32 (x3 + 1)) q6.2 hOq6 h
set_option maxRecDepth 20000 in
set_option maxHeartbeats 4000000 in
theorem m_X5_makes {p1 : Int} {M : Mem} {res : Int × Mem} (hOM : OK M) (hp1 : isStr p1) (h : f_X5_makes p1 M = some res) : Mth false yX5_makes cX5_makes 4 (some .boolean) 78 0 0 SH [aR 1, aR p1] M (some (aI res.1)) SH res.2 (OK res.2 ∧ (res.1 = 0 ∨ res.1 = 1)) := by
  refine Mth.of (by decide +kernel) (Nat.le_of_ble_eq_true rfl) (fun K B C => ?_)
  show Wx K B _ 0 0 SH 4 M 0 [some (aR 1), some (aR p1), none, none] []
  unfold f_X5_makes at h
  refine mx_aload_n (pc := 0) C dX5_makes_0 rfl ?_
  refine mx_aload_n (pc := 1) C dX5_makes_1 rfl ?_
  refine mx_putR (pc := 2) C dX5_makes_2 so_5 ci_5 (k := 3) (by decide) fl_X5_19 (Or.inl rfl) rfl (str_pos hp1).1 (str_pos hp1).2 (q := 3) rfl ?_
  generalize hmM1 : stM M 1 3 p1 = M1 at h ⊢
  replace h := lt_e h
  have hOM1 : OK M1 := by rw [← hmM1]; exact ok_made hOM hp1
  refine mx_aload_n (pc := 5) C dX5_makes_5 rfl ?_
  obtain ⟨g2, h⟩ := of_gd h
  refine mx_getR (pc := 6) (v := (M1 1 3)) C dX5_makes_6 so_5 ci_5 (k := 3) (by decide) fl_X5_19 rfl (q := 3) rfl rfl g2 ?_
  obtain ⟨q3, hq3, h⟩ := of_bd h
  refine mc_V (pc := 9) (as := []) (rest := []) (stk2 := []) C ⟨Nat.le_refl _, Nat.le_refl _⟩ (m_X3_empty hOM1 (made_of hOM1 g2) hq3) mi_X3_empty mv_X3_empty ml_X5_23 ci_3 rfl (so_3 (made_of hOM1 g2)) (by omega) rfl (Nat.le_of_ble_eq_true rfl) dX5_makes_9 rfl (fun hp4 => ?_)
  have hOq3 : OK q3.2 := hp4
  refine mx_aload_n (pc := 12) C dX5_makes_12 rfl ?_
  refine mx_iconst (pc := 13) C dX5_makes_13 (z := 0) rfl (by constructor <;> decide) ?_
  refine mx_putI (pc := 14) C dX5_makes_14 so_5 ci_5 (k := 2) (by decide) fl_X5_28 (Or.inl rfl) rfl (q := 2) rfl ?_
  generalize hmM5 : stM q3.2 1 2 0 = M5 at h ⊢
  replace h := lt_e h
  have hOM5 : OK M5 := by rw [← hmM5]; exact okf_5_2 hOq3
  refine mx_aload_n (pc := 17) C dX5_makes_17 rfl ?_
  obtain ⟨q6, hq6, h⟩ := of_bd h
  refine mc_V (pc := 18) (as := []) (rest := []) (stk2 := [aI q6.1]) C ⟨Nat.le_refl _, Nat.le_refl _⟩ (m_X5_readsClause hOM5 hq6) mi_X5_readsClause mv_X5_readsClause ml_X5_31 ci_5 rfl so_5 (by omega) rfl (Nat.le_of_ble_eq_true rfl) dX5_makes_18 rfl (fun hp7 => ?_)
  have hOq6 : OK q6.2 := hp7.1
  refine mx_istore_n (pc := 21) C dX5_makes_21 (ls' := [some (aR 1), some (aR p1), some (aI q6.1), none]) (by decide) rfl rfl ?_
  refine mx_iconst (pc := 22) C dX5_makes_22 (z := 1) rfl (by constructor <;> decide) ?_
  refine mx_istore_n (pc := 23) C dX5_makes_23 (ls' := [some (aR 1), some (aR p1), some (aI q6.1), some (aI 1)]) (by decide) rfl rfl ?_
  refine mx_mask [true, false, true, true] (ls' := [some (aR 1), none, some (aI q6.1), some (aI 1)]) rfl rfl ?_
  exact b_X5_makes_24 C hp1 FU q6.1 1 q6.2 hOq6 h
