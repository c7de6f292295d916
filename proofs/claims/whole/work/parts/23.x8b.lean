def f_X8_takes (p1 : Int) (M : Mem) : Option (Int × Mem) :=
  (f_X8_next M).bind (fun q1 => if q1.1 = p1 then lt (stM q1.2 127 10 (w32 ((q1.2 127 10) + 1))) (fun M4 => some (1, M4)) else some (0, q1.2))
set_option maxRecDepth 20000 in
set_option maxHeartbeats 4000000 in
theorem m_X8_takes {p1 : Int} {M : Mem} {res : Int × Mem} (hOM : OK M) (h : f_X8_takes p1 M = some res) : Mth false yX8_takes cX8_takes 2 (some .boolean) 2 0 0 SH [aR 127, aI p1] M (some (aI res.1)) SH res.2 (OK res.2 ∧ (res.1 = 0 ∨ res.1 = 1)) := by
  refine Mth.of (by decide +kernel) (Nat.le_of_ble_eq_true rfl) (fun K B C => ?_)
  show Wx K B _ 0 0 SH 2 M 0 [some (aR 127), some (aI p1)] []
  unfold f_X8_takes at h
  refine mx_aload_n (pc := 0) C dX8_takes_0 rfl ?_
  obtain ⟨q1, hq1, h⟩ := of_bd h
  refine mc_V (pc := 1) (as := []) (rest := []) (stk2 := [aI q1.1]) C ⟨Nat.le_refl _, Nat.le_refl _⟩ (m_X8_next hOM hq1) mi_X8_next mv_X8_next ml_X8_243 ci_8 rfl so_8 (by omega) rfl (Nat.le_of_ble_eq_true rfl) dX8_takes_1 rfl (fun hp2 => ?_)
  have hOq1 : OK q1.2 := hp2
  refine mx_iload_n (pc := 4) C dX8_takes_4 rfl ?_
  refine mx_icmp_eq (pc := 5) (tgt := 10) C dX8_takes_5 rfl (fun c3 => ?_) (fun c3 => ?_)
  · rw [if_pos c3] at h
    refine mx_aload_n (pc := 10) C dX8_takes_10 rfl ?_
    refine mx_dup (pc := 11) C dX8_takes_11 rfl ?_
    refine mx_getI (pc := 12) C dX8_takes_12 so_8 ci_8 (k := 10) (by decide) fl_X8_41 rfl (q := 10) rfl ?_
    refine mx_iconst (pc := 15) C dX8_takes_15 (z := 1) rfl (by constructor <;> decide) ?_
    refine mx_iadd (pc := 16) C dX8_takes_16  ?_
    refine mx_putI (pc := 17) C dX8_takes_17 so_8 ci_8 (k := 10) (by decide) fl_X8_41 (Or.inl rfl) rfl (q := 10) rfl ?_
    generalize hmM4 : stM q1.2 127 10 (w32 ((q1.2 127 10) + 1)) = M4 at h ⊢
    replace h := lt_e h
    have hOM4 : OK M4 := by rw [← hmM4]; exact okf_8_10 hOq1
    refine mx_iconst (pc := 20) C dX8_takes_20 (z := 1) rfl (by constructor <;> decide) ?_
    rw [← Option.some.inj h]
    exact mx_zreturn (pc := 21) C dX8_takes_21 (Or.inr rfl) ⟨hOM4, (Or.inr rfl)⟩ ⟨Nat.le_refl _, Nat.le_refl _⟩
  · rw [if_neg c3] at h
    refine mx_iconst (pc := 8) C dX8_takes_8 (z := 0) rfl (by constructor <;> decide) ?_
    rw [← Option.some.inj h]
    exact mx_zreturn (pc := 9) C dX8_takes_9 (Or.inl rfl) ⟨hOq1, (Or.inl rfl)⟩ ⟨Nat.le_refl _, Nat.le_refl _⟩

def f_X8_takesWord_2 (p1 : Int) (p2 : Int) : Nat → Int → Int → Int → Mem → Option (Int × Mem)
  | 0, _, _, _, _ => none
  | n + 1, x1, x2, x3, M => if x2 ≤ x3 then (f_X8_takes 32 M).bind (fun q2 => some (q2.1, q2.2)) else if 0 ≤ w32 (x1 + x3) ∧ w32 (x1 + x3) < 20 then (f_X8_takes (M 141 (w32 (x1 + x3))) M).bind (fun q5 => if q5.1 = 0 then some (0, q5.2) else f_X8_takesWord_2 p1 p2 n x1 x2 (w32 (x3 + 1)) q5.2) else none
def f_X8_takesWord (p1 : Int) (p2 : Int) (M : Mem) : Option (Int × Mem) :=
  f_X8_takesWord_2 p1 p2 FU p1 p2 0 M
set_option maxRecDepth 20000 in
set_option maxHeartbeats 4000000 in
theorem b_X8_takesWord_2 {K : KX} {B : BX} {res : Int × Mem} {p1 : Int} {p2 : Int} (C : Cx K B false yX8_takesWord cX8_takesWord 4 (some .boolean) 3 0 0) : ∀ (n : Nat) (x1 : Int) (x2 : Int) (x3 : Int) (M : Mem), OK M → f_X8_takesWord_2 p1 p2 n x1 x2 x3 M = some res → Wx K B (Zr K B (some (aI res.1)) SH res.2 (OK res.2 ∧ (res.1 = 0 ∨ res.1 = 1)) 0 0) 0 0 SH 4 M 2 [some (aR 127), some (aI x1), some (aI x2), some (aI x3)] [] := by
  intro n
  induction n with
  | zero =>
    intro x1 x2 x3 M hOM h
    cases h
  | succ n ih =>
    intro x1 x2 x3 M hOM h
    rw [f_X8_takesWord_2.eq_2] at h
    refine mx_iload_n (pc := 2) C dX8_takesWord_2 rfl ?_
    refine mx_iload_n (pc := 3) C dX8_takesWord_3 rfl ?_
    refine mx_icmp_ge (pc := 4) (tgt := 30) C dX8_takesWord_4 rfl (fun c1 => ?_) (fun c1 => ?_)
    · rw [if_pos c1] at h
      refine mx_aload_n (pc := 30) C dX8_takesWord_30 rfl ?_
      refine mx_bipush (pc := 31) C dX8_takesWord_31 (z := 32) rfl (by constructor <;> decide) ?_
      obtain ⟨q2, hq2, h⟩ := of_bd h
      refine mc_V (pc := 33) (as := [aI 32]) (rest := []) (stk2 := [aI q2.1]) C ⟨Nat.le_refl _, Nat.le_refl _⟩ (m_X8_takes hOM hq2) mi_X8_takes mv_X8_takes ml_X8_247 ci_8 rfl so_8 (by omega) rfl (Nat.le_of_ble_eq_true rfl) dX8_takesWord_33 rfl (fun hp3 => ?_)
      have hOq2 : OK q2.2 := hp3.1
      rw [← Option.some.inj h]
      exact mx_zreturn (pc := 36) C dX8_takesWord_36 hp3.2 ⟨hOq2, hp3.2⟩ ⟨Nat.le_refl _, Nat.le_refl _⟩
    · rw [if_neg c1] at h
      refine mx_aload_n (pc := 7) C dX8_takesWord_7 rfl ?_
      refine mx_aload_n (pc := 8) C dX8_takesWord_8 rfl ?_
      refine mx_getR (pc := 9) (v := 141) C dX8_takesWord_9 so_8 ci_8 (k := 23) (by decide) fl_X8_80 rfl (q := 23) rfl (lay_8_23 hOM) (by decide) ?_
      refine mx_iload_n (pc := 12) C dX8_takesWord_12 rfl ?_
      refine mx_iload_n (pc := 13) C dX8_takesWord_13 rfl ?_
      refine mx_iadd (pc := 14) C dX8_takesWord_14  ?_
      obtain ⟨g4, h⟩ := of_gd h
      refine mx_iald (pc := 15) C dX8_takesWord_15 sh_8_23 g4.1 g4.2 ?_
      obtain ⟨q5, hq5, h⟩ := of_bd h
      refine mc_V (pc := 16) (as := [aI (M 141 (w32 (x1 + x3)))]) (rest := []) (stk2 := [aI q5.1]) C ⟨Nat.le_refl _, Nat.le_refl _⟩ (m_X8_takes hOM hq5) mi_X8_takes mv_X8_takes ml_X8_247 ci_8 rfl so_8 (by omega) rfl (Nat.le_of_ble_eq_true rfl) dX8_takesWord_16 rfl (fun hp6 => ?_)
      have hOq5 : OK q5.2 := hp6.1
      refine mx_if_ne (pc := 19) (tgt := 24) C dX8_takesWord_19 rfl (fun c7 => ?_) (fun c7 => ?_)
      · rw [if_neg c7] at h
        refine mx_iinc (pc := 24) C dX8_takesWord_24 (ls' := [some (aR 127), some (aI x1), some (aI x2), some (aI (w32 (x3 + 1)))]) rfl (by decide) rfl (by constructor <;> decide) rfl rfl ?_
        refine mx_goto (pc := 27) (tgt := 2) C dX8_takesWord_27 rfl ?_
        exact ih x1 x2 (w32 (x3 + 1)) q5.2 hOq5 h
      · rw [if_pos c7] at h
        refine mx_iconst (pc := 22) C dX8_takesWord_22 (z := 0) rfl (by constructor <;> decide) ?_
        rw [← Option.some.inj h]
        exact mx_zreturn (pc := 23) C dX8_takesWord_23 (Or.inl rfl) ⟨hOq5, (Or.inl rfl)⟩ ⟨Nat.le_refl _, Nat.le_refl _⟩
set_option maxRecDepth 20000 in
set_option maxHeartbeats 4000000 in
theorem m_X8_takesWord {p1 : Int} {p2 : Int} {M : Mem} {res : Int × Mem} (hOM : OK M) (h : f_X8_takesWord p1 p2 M = some res) : Mth false yX8_takesWord cX8_takesWord 4 (some .boolean) 3 0 0 SH [aR 127, aI p1, aI p2] M (some (aI res.1)) SH res.2 (OK res.2 ∧ (res.1 = 0 ∨ res.1 = 1)) := by
  refine Mth.of (by decide +kernel) (Nat.le_of_ble_eq_true rfl) (fun K B C => ?_)
  show Wx K B _ 0 0 SH 4 M 0 [some (aR 127), some (aI p1), some (aI p2), none] []
  unfold f_X8_takesWord at h
  refine mx_iconst (pc := 0) C dX8_takesWord_0 (z := 0) rfl (by constructor <;> decide) ?_
  refine mx_istore_n (pc := 1) C dX8_takesWord_1 (ls' := [some (aR 127), some (aI p1), some (aI p2), some (aI 0)]) (by decide) rfl rfl ?_
  exact b_X8_takesWord_2 C FU p1 p2 0 M hOM h

def f_X8_isDigit (M : Mem) : Option (Int × Mem) :=
  (f_X8_next M).bind (fun q1 => (f_X8_in q1.1 48 57 q1.2).bind (fun q3 => some (q3.1, q3.2)))
set_option maxRecDepth 20000 in
set_option maxHeartbeats 4000000 in
theorem m_X8_isDigit {M : Mem} {res : Int × Mem} (hOM : OK M) (h : f_X8_isDigit M = some res) : Mth false yX8_isDigit cX8_isDigit 1 (some .boolean) 2 0 0 SH [aR 127] M (some (aI res.1)) SH res.2 (OK res.2 ∧ (res.1 = 0 ∨ res.1 = 1)) := by
  refine Mth.of (by decide +kernel) (Nat.le_of_ble_eq_true rfl) (fun K B C => ?_)
  show Wx K B _ 0 0 SH 1 M 0 [some (aR 127)] []
  unfold f_X8_isDigit at h
  refine mx_aload_n (pc := 0) C dX8_isDigit_0 rfl ?_
  refine mx_aload_n (pc := 1) C dX8_isDigit_1 rfl ?_
  obtain ⟨q1, hq1, h⟩ := of_bd h
  refine mc_V (pc := 2) (as := []) (rest := [aR 127]) (stk2 := [aI q1.1, aR 127]) C ⟨Nat.le_refl _, Nat.le_refl _⟩ (m_X8_next hOM hq1) mi_X8_next mv_X8_next ml_X8_243 ci_8 rfl so_8 (by omega) rfl (Nat.le_of_ble_eq_true rfl) dX8_isDigit_2 rfl (fun hp2 => ?_)
  have hOq1 : OK q1.2 := hp2
  refine mx_bipush (pc := 5) C dX8_isDigit_5 (z := 48) rfl (by constructor <;> decide) ?_
  refine mx_bipush (pc := 7) C dX8_isDigit_7 (z := 57) rfl (by constructor <;> decide) ?_
  obtain ⟨q3, hq3, h⟩ := of_bd h
  refine mc_V (pc := 9) (as := [aI q1.1, aI 48, aI 57]) (rest := []) (stk2 := [aI q3.1]) C ⟨Nat.le_refl _, Nat.le_refl _⟩ (m_X8_in hOq1 hq3) mi_X8_in mv_X8_in ml_X8_218 ci_8 rfl so_8 (by omega) rfl (Nat.le_of_ble_eq_true rfl) dX8_isDigit_9 rfl (fun hp4 => ?_)
  have hOq3 : OK q3.2 := hp4.1
  rw [← Option.some.inj h]
  exact mx_zreturn (pc := 12) C dX8_isDigit_12 hp4.2 ⟨hOq3, hp4.2⟩ ⟨Nat.le_refl _, Nat.le_refl _⟩

def f_X8_takesNumber_16 : Nat → Int → Mem → Option (Int × Mem)
  | 0, _, _ => none
  | n + 1, x1, M => if 2 ≤ x1 then some (1, M) else (f_X8_isDigit M).bind (fun q2 => if q2.1 = 0 then some (1, q2.2) else (f_X8_next q2.2).bind (fun q5 => lt (stM q5.2 127 11 (w32 ((w32 ((w32 (10 * (q2.2 127 11))) + q5.1)) - 48))) (fun M7 => lt (stM M7 127 10 (w32 ((M7 127 10) + 1))) (fun M8 => f_X8_takesNumber_16 n (w32 (x1 + 1)) M8))))
def f_X8_takesNumber (M : Mem) : Option (Int × Mem) :=
  (f_X8_isDigit M).bind (fun q1 => if q1.1 = 0 then some (0, q1.2) else lt (stM q1.2 127 11 0) (fun M4 => f_X8_takesNumber_16 FU 0 M4))
set_option maxRecDepth 20000 in
set_option maxHeartbeats 4000000 in
theorem b_X8_takesNumber_16 {K : KX} {B : BX} {res : Int × Mem} (C : Cx K B false yX8_takesNumber cX8_takesNumber 2 (some .boolean) 3 0 0) : ∀ (n : Nat) (x1 : Int) (M : Mem), OK M → f_X8_takesNumber_16 n x1 M = some res → Wx K B (Zr K B (some (aI res.1)) SH res.2 (OK res.2 ∧ (res.1 = 0 ∨ res.1 = 1)) 0 0) 0 0 SH 2 M 16 [some (aR 127), some (aI x1)] [] := by
  intro n
  induction n with
  | zero =>
    intro x1 M hOM h
    cases h
  | succ n ih =>
    intro x1 M hOM h
    rw [f_X8_takesNumber_16.eq_2] at h
    refine mx_iload_n (pc := 16) C dX8_takesNumber_16 rfl ?_
    refine mx_iconst (pc := 17) C dX8_takesNumber_17 (z := 2) rfl (by constructor <;> decide) ?_
    refine mx_icmp_ge (pc := 18) (tgt := 63) C dX8_takesNumber_18 rfl (fun c1 => ?_) (fun c1 => ?_)
    · rw [if_pos c1] at h
      refine mx_iconst (pc := 63) C dX8_takesNumber_63 (z := 1) rfl (by constructor <;> decide) ?_
      rw [← Option.some.inj h]
      exact mx_zreturn (pc := 64) C dX8_takesNumber_64 (Or.inr rfl) ⟨hOM, (Or.inr rfl)⟩ ⟨Nat.le_refl _, Nat.le_refl _⟩
    · rw [if_neg c1] at h
      refine mx_aload_n (pc := 21) C dX8_takesNumber_21 rfl ?_
      obtain ⟨q2, hq2, h⟩ := of_bd h
      refine mc_V (pc := 22) (as := []) (rest := []) (stk2 := [aI q2.1]) C ⟨Nat.le_refl _, Nat.le_refl _⟩ (m_X8_isDigit hOM hq2) mi_X8_isDigit mv_X8_isDigit ml_X8_250 ci_8 rfl so_8 (by omega) rfl (Nat.le_of_ble_eq_true rfl) dX8_takesNumber_22 rfl (fun hp3 => ?_)
      have hOq2 : OK q2.2 := hp3.1
      refine mx_if_eq (pc := 25) (tgt := 63) C dX8_takesNumber_25 rfl (fun c4 => ?_) (fun c4 => ?_)
      · rw [if_pos c4] at h
        refine mx_iconst (pc := 63) C dX8_takesNumber_63 (z := 1) rfl (by constructor <;> decide) ?_
        rw [← Option.some.inj h]
        exact mx_zreturn (pc := 64) C dX8_takesNumber_64 (Or.inr rfl) ⟨hOq2, (Or.inr rfl)⟩ ⟨Nat.le_refl _, Nat.le_refl _⟩
      · rw [if_neg c4] at h
        refine mx_aload_n (pc := 28) C dX8_takesNumber_28 rfl ?_
        refine mx_bipush (pc := 29) C dX8_takesNumber_29 (z := 10) rfl (by constructor <;> decide) ?_
        refine mx_aload_n (pc := 31) C dX8_takesNumber_31 rfl ?_
        refine mx_getI (pc := 32) C dX8_takesNumber_32 so_8 ci_8 (k := 11) (by decide) fl_X8_44 rfl (q := 11) rfl ?_
        refine mx_imul (pc := 35) C dX8_takesNumber_35  ?_
        refine mx_aload_n (pc := 36) C dX8_takesNumber_36 rfl ?_
        obtain ⟨q5, hq5, h⟩ := of_bd h
        refine mc_V (pc := 37) (as := []) (rest := [aI (w32 (10 * (q2.2 127 11))), aR 127]) (stk2 := [aI q5.1, aI (w32 (10 * (q2.2 127 11))), aR 127]) C ⟨Nat.le_refl _, Nat.le_refl _⟩ (m_X8_next hOq2 hq5) mi_X8_next mv_X8_next ml_X8_243 ci_8 rfl so_8 (by omega) rfl (Nat.le_of_ble_eq_true rfl) dX8_takesNumber_37 rfl (fun hp6 => ?_)
        have hOq5 : OK q5.2 := hp6
        refine mx_iadd (pc := 40) C dX8_takesNumber_40  ?_
        refine mx_bipush (pc := 41) C dX8_takesNumber_41 (z := 48) rfl (by constructor <;> decide) ?_
        refine mx_isub (pc := 43) C dX8_takesNumber_43  ?_
        refine mx_putI (pc := 44) C dX8_takesNumber_44 so_8 ci_8 (k := 11) (by decide) fl_X8_44 (Or.inl rfl) rfl (q := 11) rfl ?_
        generalize hmM7 : stM q5.2 127 11 (w32 ((w32 ((w32 (10 * (q2.2 127 11))) + q5.1)) - 48)) = M7 at h ⊢
        replace h := lt_e h
        have hOM7 : OK M7 := by rw [← hmM7]; exact okf_8_11 hOq5
        refine mx_aload_n (pc := 47) C dX8_takesNumber_47 rfl ?_
        refine mx_dup (pc := 48) C dX8_takesNumber_48 rfl ?_
        refine mx_getI (pc := 49) C dX8_takesNumber_49 so_8 ci_8 (k := 10) (by decide) fl_X8_41 rfl (q := 10) rfl ?_
        refine mx_iconst (pc := 52) C dX8_takesNumber_52 (z := 1) rfl (by constructor <;> decide) ?_
        refine mx_iadd (pc := 53) C dX8_takesNumber_53  ?_
        refine mx_putI (pc := 54) C dX8_takesNumber_54 so_8 ci_8 (k := 10) (by decide) fl_X8_41 (Or.inl rfl) rfl (q := 10) rfl ?_
        generalize hmM8 : stM M7 127 10 (w32 ((M7 127 10) + 1)) = M8 at h ⊢
        replace h := lt_e h
        have hOM8 : OK M8 := by rw [← hmM8]; exact okf_8_10 hOM7
        refine mx_iinc (pc := 57) C dX8_takesNumber_57 (ls' := [some (aR 127), some (aI (w32 (x1 + 1)))]) rfl (by decide) rfl (by constructor <;> decide) rfl rfl ?_
        refine mx_goto (pc := 60) (tgt := 16) C dX8_takesNumber_60 rfl ?_
        exact ih (w32 (x1 + 1)) M8 hOM8 h
set_option maxRecDepth 20000 in
set_option maxHeartbeats 4000000 in
theorem m_X8_takesNumber {M : Mem} {res : Int × Mem} (hOM : OK M) (h : f_X8_takesNumber M = some res) : Mth false yX8_takesNumber cX8_takesNumber 2 (some .boolean) 3 0 0 SH [aR 127] M (some (aI res.1)) SH res.2 (OK res.2 ∧ (res.1 = 0 ∨ res.1 = 1)) := by
  refine Mth.of (by decide +kernel) (Nat.le_of_ble_eq_true rfl) (fun K B C => ?_)
  show Wx K B _ 0 0 SH 2 M 0 [some (aR 127), none] []
  unfold f_X8_takesNumber at h
  refine mx_aload_n (pc := 0) C dX8_takesNumber_0 rfl ?_
  obtain ⟨q1, hq1, h⟩ := of_bd h
  refine mc_V (pc := 1) (as := []) (rest := []) (stk2 := [aI q1.1]) C ⟨Nat.le_refl _, Nat.le_refl _⟩ (m_X8_isDigit hOM hq1) mi_X8_isDigit mv_X8_isDigit ml_X8_250 ci_8 rfl so_8 (by omega) rfl (Nat.le_of_ble_eq_true rfl) dX8_takesNumber_1 rfl (fun hp2 => ?_)
  have hOq1 : OK q1.2 := hp2.1
  refine mx_if_ne (pc := 4) (tgt := 9) C dX8_takesNumber_4 rfl (fun c3 => ?_) (fun c3 => ?_)
  · rw [if_neg c3] at h
    refine mx_aload_n (pc := 9) C dX8_takesNumber_9 rfl ?_
    refine mx_iconst (pc := 10) C dX8_takesNumber_10 (z := 0) rfl (by constructor <;> decide) ?_
    refine mx_putI (pc := 11) C dX8_takesNumber_11 so_8 ci_8 (k := 11) (by decide) fl_X8_44 (Or.inl rfl) rfl (q := 11) rfl ?_
    generalize hmM4 : stM q1.2 127 11 0 = M4 at h ⊢
    replace h := lt_e h
    have hOM4 : OK M4 := by rw [← hmM4]; exact okf_8_11 hOq1
    refine mx_iconst (pc := 14) C dX8_takesNumber_14 (z := 0) rfl (by constructor <;> decide) ?_
    refine mx_istore_n (pc := 15) C dX8_takesNumber_15 (ls' := [some (aR 127), some (aI 0)]) (by decide) rfl rfl ?_
    exact b_X8_takesNumber_16 C FU 0 M4 hOM4 h
  · rw [if_pos c3] at h
    refine mx_iconst (pc := 7) C dX8_takesNumber_7 (z := 0) rfl (by constructor <;> decide) ?_
    rw [← Option.some.inj h]
    exact mx_zreturn (pc := 8) C dX8_takesNumber_8 (Or.inl rfl) ⟨hOq1, (Or.inl rfl)⟩ ⟨Nat.le_refl _, Nat.le_refl _⟩

def f_X8_emits (p1 : Int) (M : Mem) : Option (Int × Mem) :=
  if 0 ≤ M 127 20 ∧ M 127 20 < 600 then lt (stM M 139 (M 127 20) p1) (fun M2 => lt (stM M2 127 20 (w32 ((M2 127 20) + 1))) (fun M3 => some (0, M3))) else none
set_option maxRecDepth 20000 in
set_option maxHeartbeats 4000000 in
theorem m_X8_emits {p1 : Int} {M : Mem} {res : Int × Mem} (hOM : OK M) (h : f_X8_emits p1 M = some res) : Mth false yX8_emits cX8_emits 2 none 1 0 0 SH [aR 127, aI p1] M none SH res.2 (OK res.2) := by
  refine Mth.of (by decide +kernel) (Nat.le_of_ble_eq_true rfl) (fun K B C => ?_)
  show Wx K B _ 0 0 SH 2 M 0 [some (aR 127), some (aI p1)] []
  unfold f_X8_emits at h
  refine mx_aload_n (pc := 0) C dX8_emits_0 rfl ?_
  refine mx_getR (pc := 1) (v := 139) C dX8_emits_1 so_8 ci_8 (k := 18) (by decide) fl_X8_65 rfl (q := 18) rfl (lay_8_18 hOM) (by decide) ?_
  refine mx_aload_n (pc := 4) C dX8_emits_4 rfl ?_
  refine mx_getI (pc := 5) C dX8_emits_5 so_8 ci_8 (k := 20) (by decide) fl_X8_71 rfl (q := 20) rfl ?_
  refine mx_iload_n (pc := 8) C dX8_emits_8 rfl ?_
  obtain ⟨g1, h⟩ := of_gd h
  refine mx_iast (pc := 9) C dX8_emits_9 sh_8_18 g1.1 g1.2 ?_
  generalize hmM2 : stM M 139 (M 127 20) p1 = M2 at h ⊢
  replace h := lt_e h
  have hOM2 : OK M2 := by rw [← hmM2]; exact ok_arr hOM sh_8_18 (by decide)
  refine mx_aload_n (pc := 10) C dX8_emits_10 rfl ?_
  refine mx_dup (pc := 11) C dX8_emits_11 rfl ?_
  refine mx_getI (pc := 12) C dX8_emits_12 so_8 ci_8 (k := 20) (by decide) fl_X8_71 rfl (q := 20) rfl ?_
  refine mx_iconst (pc := 15) C dX8_emits_15 (z := 1) rfl (by constructor <;> decide) ?_
  refine mx_iadd (pc := 16) C dX8_emits_16  ?_
  refine mx_putI (pc := 17) C dX8_emits_17 so_8 ci_8 (k := 20) (by decide) fl_X8_71 (Or.inl rfl) rfl (q := 20) rfl ?_
  generalize hmM3 : stM M2 127 20 (w32 ((M2 127 20) + 1)) = M3 at h ⊢
  replace h := lt_e h
  have hOM3 : OK M3 := by rw [← hmM3]; exact okf_8_20 hOM2
  rw [← Option.some.inj h]
  exact mx_return (pc := 20) C dX8_emits_20 hOM3 ⟨Nat.le_refl _, Nat.le_refl _⟩

def f_X8_whole_0 : Nat → Mem → Option (Int × Mem)
  | 0, _ => none
  | n + 1, M => if M 127 21 ≤ 0 then some (0, M) else if 0 ≤ w32 ((M 127 21) - 1) ∧ w32 ((M 127 21) - 1) < 101 then if M 140 (w32 ((M 127 21) - 1)) = 33 then (f_X8_emits (-33) M).bind (fun q4 => lt (stM q4.2 127 21 (w32 ((q4.2 127 21) - 1))) (fun M6 => lt (stM M6 127 22 (w32 ((M6 127 22) - 1))) (fun M7 => f_X8_whole_0 n M7))) else some (0, M) else none
def f_X8_whole (M : Mem) : Option (Int × Mem) :=
  f_X8_whole_0 FU M
set_option maxRecDepth 20000 in
set_option maxHeartbeats 4000000 in
theorem b_X8_whole_0 {K : KX} {B : BX} {res : Int × Mem} (C : Cx K B false yX8_whole cX8_whole 1 none 2 0 0) : ∀ (n : Nat) (M : Mem), OK M → f_X8_whole_0 n M = some res → Wx K B (Zr K B none SH res.2 (OK res.2) 0 0) 0 0 SH 1 M 0 [some (aR 127)] [] := by
  intro n
  induction n with
  | zero =>
    intro M hOM h
    cases h
  | succ n ih =>
    intro M hOM h
    rw [f_X8_whole_0.eq_2] at h
    refine mx_aload_n (pc := 0) C dX8_whole_0 rfl ?_
    refine mx_getI (pc := 1) C dX8_whole_1 so_8 ci_8 (k := 21) (by decide) fl_X8_74 rfl (q := 21) rfl ?_
    refine mx_if_le (pc := 4) (tgt := 52) C dX8_whole_4 rfl (fun c1 => ?_) (fun c1 => ?_)
    · rw [if_pos c1] at h
      rw [← Option.some.inj h]
      exact mx_return (pc := 52) C dX8_whole_52 hOM ⟨Nat.le_refl _, Nat.le_refl _⟩
    · rw [if_neg c1] at h
      refine mx_aload_n (pc := 7) C dX8_whole_7 rfl ?_
      refine mx_getR (pc := 8) (v := 140) C dX8_whole_8 so_8 ci_8 (k := 19) (by decide) fl_X8_68 rfl (q := 19) rfl (lay_8_19 hOM) (by decide) ?_
      refine mx_aload_n (pc := 11) C dX8_whole_11 rfl ?_
      refine mx_getI (pc := 12) C dX8_whole_12 so_8 ci_8 (k := 21) (by decide) fl_X8_74 rfl (q := 21) rfl ?_
      refine mx_iconst (pc := 15) C dX8_whole_15 (z := 1) rfl (by constructor <;> decide) ?_
      refine mx_isub (pc := 16) C dX8_whole_16  ?_
      obtain ⟨g2, h⟩ := of_gd h
      refine mx_iald (pc := 17) C dX8_whole_17 sh_8_19 g2.1 g2.2 ?_
      refine mx_bipush (pc := 18) C dX8_whole_18 (z := 33) rfl (by constructor <;> decide) ?_
      refine mx_icmp_ne (pc := 20) (tgt := 52) C dX8_whole_20 rfl (fun c3 => ?_) (fun c3 => ?_)
      · rw [if_neg c3] at h
        rw [← Option.some.inj h]
        exact mx_return (pc := 52) C dX8_whole_52 hOM ⟨Nat.le_refl _, Nat.le_refl _⟩
      · rw [if_pos c3] at h
        refine mx_aload_n (pc := 23) C dX8_whole_23 rfl ?_
        refine mx_bipush (pc := 24) C dX8_whole_24 (z := (-33)) rfl (by constructor <;> decide) ?_
        obtain ⟨q4, hq4, h⟩ := of_bd h
        refine mc_V (pc := 26) (as := [aI (-33)]) (rest := []) (stk2 := []) C ⟨Nat.le_refl _, Nat.le_refl _⟩ (m_X8_emits hOM hq4) mi_X8_emits mv_X8_emits ml_X8_254 ci_8 rfl so_8 (by omega) rfl (Nat.le_of_ble_eq_true rfl) dX8_whole_26 rfl (fun hp5 => ?_)
        have hOq4 : OK q4.2 := hp5
        refine mx_aload_n (pc := 29) C dX8_whole_29 rfl ?_
        refine mx_dup (pc := 30) C dX8_whole_30 rfl ?_
        refine mx_getI (pc := 31) C dX8_whole_31 so_8 ci_8 (k := 21) (by decide) fl_X8_74 rfl (q := 21) rfl ?_
        refine mx_iconst (pc := 34) C dX8_whole_34 (z := 1) rfl (by constructor <;> decide) ?_
        refine mx_isub (pc := 35) C dX8_whole_35  ?_
        refine mx_putI (pc := 36) C dX8_whole_36 so_8 ci_8 (k := 21) (by decide) fl_X8_74 (Or.inl rfl) rfl (q := 21) rfl ?_
        generalize hmM6 : stM q4.2 127 21 (w32 ((q4.2 127 21) - 1)) = M6 at h ⊢
        replace h := lt_e h
        have hOM6 : OK M6 := by rw [← hmM6]; exact okf_8_21 hOq4
        refine mx_aload_n (pc := 39) C dX8_whole_39 rfl ?_
        refine mx_dup (pc := 40) C dX8_whole_40 rfl ?_
        refine mx_getI (pc := 41) C dX8_whole_41 so_8 ci_8 (k := 22) (by decide) fl_X8_77 rfl (q := 22) rfl ?_
        refine mx_iconst (pc := 44) C dX8_whole_44 (z := 1) rfl (by constructor <;> decide) ?_
        refine mx_isub (pc := 45) C dX8_whole_45  ?_
        refine mx_putI (pc := 46) C dX8_whole_46 so_8 ci_8 (k := 22) (by decide) fl_X8_77 (Or.inl rfl) rfl (q := 22) rfl ?_
        generalize hmM7 : stM M6 127 22 (w32 ((M6 127 22) - 1)) = M7 at h ⊢
        replace h := lt_e h
        have hOM7 : OK M7 := by rw [← hmM7]; exact okf_8_22 hOM6
        refine mx_goto (pc := 49) (tgt := 0) C dX8_whole_49 rfl ?_
        exact ih M7 hOM7 h
set_option maxRecDepth 20000 in
set_option maxHeartbeats 4000000 in
theorem m_X8_whole {M : Mem} {res : Int × Mem} (hOM : OK M) (h : f_X8_whole M = some res) : Mth false yX8_whole cX8_whole 1 none 2 0 0 SH [aR 127] M none SH res.2 (OK res.2) := by
  refine Mth.of (by decide +kernel) (Nat.le_of_ble_eq_true rfl) (fun K B C => ?_)
  show Wx K B _ 0 0 SH 1 M 0 [some (aR 127)] []
  unfold f_X8_whole at h
  exact b_X8_whole_0 C FU M hOM h

def f_X8_settle_45 (p1 : Int) (k0 : Int → Mem → Option (Int × Mem)) (x1 : Int) (M : Mem) : Option (Int × Mem) :=
  lt (stM M 127 21 (w32 ((M 127 21) - 1))) (fun M1 => if 0 ≤ M1 127 21 ∧ M1 127 21 < 101 then (f_X8_emits (w32 (-(M1 140 (M1 127 21)))) M1).bind (fun q3 => k0 x1 q3.2) else none)
def f_X8_settle_0 (p1 : Int) : Nat → Int → Mem → Option (Int × Mem)
  | 0, _, _ => none
  | n + 1, x1, M => if M 127 21 ≤ 0 then some (0, M) else if 0 ≤ w32 ((M 127 21) - 1) ∧ w32 ((M 127 21) - 1) < 101 then if M 140 (w32 ((M 127 21) - 1)) = 38 then f_X8_settle_45 p1 (f_X8_settle_0 p1 n) x1 M else if 0 ≤ w32 ((M 127 21) - 1) ∧ w32 ((M 127 21) - 1) < 101 then if M 140 (w32 ((M 127 21) - 1)) = 124 then if x1 = 38 then some (0, M) else f_X8_settle_45 p1 (f_X8_settle_0 p1 n) x1 M else some (0, M) else none else none
def f_X8_settle (p1 : Int) (M : Mem) : Option (Int × Mem) :=
  f_X8_settle_0 p1 FU p1 M
set_option maxRecDepth 20000 in
set_option maxHeartbeats 4000000 in
theorem b_X8_settle_45 {K : KX} {B : BX} {res : Int × Mem} {p1 : Int} {k0 : Int → Mem → Option (Int × Mem)} (C : Cx K B false yX8_settle cX8_settle 2 none 2 0 0) (hk0 : ∀ (x1 : Int) (M : Mem), OK M → k0 x1 M = some res → Wx K B (Zr K B none SH res.2 (OK res.2) 0 0) 0 0 SH 2 M 0 [some (aR 127), some (aI x1)] []) : ∀ (x1 : Int) (M : Mem), OK M → f_X8_settle_45 p1 k0 x1 M = some res → Wx K B (Zr K B none SH res.2 (OK res.2) 0 0) 0 0 SH 2 M 45 [some (aR 127), some (aI x1)] [] := by
  intro x1 M hOM h
  unfold f_X8_settle_45 at h
  refine mx_aload_n (pc := 45) C dX8_settle_45 rfl ?_
  refine mx_dup (pc := 46) C dX8_settle_46 rfl ?_
  refine mx_getI (pc := 47) C dX8_settle_47 so_8 ci_8 (k := 21) (by decide) fl_X8_74 rfl (q := 21) rfl ?_
  refine mx_iconst (pc := 50) C dX8_settle_50 (z := 1) rfl (by constructor <;> decide) ?_
  refine mx_isub (pc := 51) C dX8_settle_51  ?_
  refine mx_putI (pc := 52) C dX8_settle_52 so_8 ci_8 (k := 21) (by decide) fl_X8_74 (Or.inl rfl) rfl (q := 21) rfl ?_
  generalize hmM1 : stM M 127 21 (w32 ((M 127 21) - 1)) = M1 at h ⊢
  replace h := lt_e h
  have hOM1 : OK M1 := by rw [← hmM1]; exact okf_8_21 hOM
  refine mx_aload_n (pc := 55) C dX8_settle_55 rfl ?_
  refine mx_aload_n (pc := 56) C dX8_settle_56 rfl ?_
  refine mx_getR (pc := 57) (v := 140) C dX8_settle_57 so_8 ci_8 (k := 19) (by decide) fl_X8_68 rfl (q := 19) rfl (lay_8_19 hOM1) (by decide) ?_
  refine mx_aload_n (pc := 60) C dX8_settle_60 rfl ?_
  refine mx_getI (pc := 61) C dX8_settle_61 so_8 ci_8 (k := 21) (by decide) fl_X8_74 rfl (q := 21) rfl ?_
  obtain ⟨g2, h⟩ := of_gd h
  refine mx_iald (pc := 64) C dX8_settle_64 sh_8_19 g2.1 g2.2 ?_
  refine mx_ineg (pc := 65) C dX8_settle_65  ?_
  obtain ⟨q3, hq3, h⟩ := of_bd h
  refine mc_V (pc := 66) (as := [aI (w32 (-(M1 140 (M1 127 21))))]) (rest := []) (stk2 := []) C ⟨Nat.le_refl _, Nat.le_refl _⟩ (m_X8_emits hOM1 hq3) mi_X8_emits mv_X8_emits ml_X8_254 ci_8 rfl so_8 (by omega) rfl (Nat.le_of_ble_eq_true rfl) dX8_settle_66 rfl (fun hp4 => ?_)
  have hOq3 : OK q3.2 := hp4
  refine mx_goto (pc := 69) (tgt := 0) C dX8_settle_69 rfl ?_
  exact hk0 x1 q3.2 hOq3 h
set_option maxRecDepth 20000 in
set_option maxHeartbeats 4000000 in
theorem b_X8_settle_0 {K : KX} {B : BX} {res : Int × Mem} {p1 : Int} (C : Cx K B false yX8_settle cX8_settle 2 none 2 0 0) : ∀ (n : Nat) (x1 : Int) (M : Mem), OK M → f_X8_settle_0 p1 n x1 M = some res → Wx K B (Zr K B none SH res.2 (OK res.2) 0 0) 0 0 SH 2 M 0 [some (aR 127), some (aI x1)] [] := by
  intro n
  induction n with
  | zero =>
    intro x1 M hOM h
    cases h
  | succ n ih =>
    intro x1 M hOM h
    rw [f_X8_settle_0.eq_2] at h
    refine mx_aload_n (pc := 0) C dX8_settle_0 rfl ?_
    refine mx_getI (pc := 1) C dX8_settle_1 so_8 ci_8 (k := 21) (by decide) fl_X8_74 rfl (q := 21) rfl ?_
    refine mx_if_le (pc := 4) (tgt := 72) C dX8_settle_4 rfl (fun c1 => ?_) (fun c1 => ?_)
    · rw [if_pos c1] at h
      rw [← Option.some.inj h]
      exact mx_return (pc := 72) C dX8_settle_72 hOM ⟨Nat.le_refl _, Nat.le_refl _⟩
    · rw [if_neg c1] at h
      refine mx_aload_n (pc := 7) C dX8_settle_7 rfl ?_
      refine mx_getR (pc := 8) (v := 140) C dX8_settle_8 so_8 ci_8 (k := 19) (by decide) fl_X8_68 rfl (q := 19) rfl (lay_8_19 hOM) (by decide) ?_
      refine mx_aload_n (pc := 11) C dX8_settle_11 rfl ?_
      refine mx_getI (pc := 12) C dX8_settle_12 so_8 ci_8 (k := 21) (by decide) fl_X8_74 rfl (q := 21) rfl ?_
      refine mx_iconst (pc := 15) C dX8_settle_15 (z := 1) rfl (by constructor <;> decide) ?_
      refine mx_isub (pc := 16) C dX8_settle_16  ?_
      obtain ⟨g2, h⟩ := of_gd h
      refine mx_iald (pc := 17) C dX8_settle_17 sh_8_19 g2.1 g2.2 ?_
      refine mx_bipush (pc := 18) C dX8_settle_18 (z := 38) rfl (by constructor <;> decide) ?_
      refine mx_icmp_eq (pc := 20) (tgt := 45) C dX8_settle_20 rfl (fun c3 => ?_) (fun c3 => ?_)
      · rw [if_pos c3] at h
        exact b_X8_settle_45 C ih x1 M hOM h
      · rw [if_neg c3] at h
        refine mx_aload_n (pc := 23) C dX8_settle_23 rfl ?_
        refine mx_getR (pc := 24) (v := 140) C dX8_settle_24 so_8 ci_8 (k := 19) (by decide) fl_X8_68 rfl (q := 19) rfl (lay_8_19 hOM) (by decide) ?_
        refine mx_aload_n (pc := 27) C dX8_settle_27 rfl ?_
        refine mx_getI (pc := 28) C dX8_settle_28 so_8 ci_8 (k := 21) (by decide) fl_X8_74 rfl (q := 21) rfl ?_
        refine mx_iconst (pc := 31) C dX8_settle_31 (z := 1) rfl (by constructor <;> decide) ?_
        refine mx_isub (pc := 32) C dX8_settle_32  ?_
        obtain ⟨g4, h⟩ := of_gd h
        refine mx_iald (pc := 33) C dX8_settle_33 sh_8_19 g4.1 g4.2 ?_
        refine mx_bipush (pc := 34) C dX8_settle_34 (z := 124) rfl (by constructor <;> decide) ?_
        refine mx_icmp_ne (pc := 36) (tgt := 72) C dX8_settle_36 rfl (fun c5 => ?_) (fun c5 => ?_)
        · rw [if_neg c5] at h
          rw [← Option.some.inj h]
          exact mx_return (pc := 72) C dX8_settle_72 hOM ⟨Nat.le_refl _, Nat.le_refl _⟩
        · rw [if_pos c5] at h
          refine mx_iload_n (pc := 39) C dX8_settle_39 rfl ?_
          refine mx_bipush (pc := 40) C dX8_settle_40 (z := 38) rfl (by constructor <;> decide) ?_
          refine mx_icmp_eq (pc := 42) (tgt := 72) C dX8_settle_42 rfl (fun c6 => ?_) (fun c6 => ?_)
          · rw [if_pos c6] at h
            rw [← Option.some.inj h]
            exact mx_return (pc := 72) C dX8_settle_72 hOM ⟨Nat.le_refl _, Nat.le_refl _⟩
          · rw [if_neg c6] at h
            exact b_X8_settle_45 C ih x1 M hOM h
set_option maxRecDepth 20000 in
set_option maxHeartbeats 4000000 in
theorem m_X8_settle {p1 : Int} {M : Mem} {res : Int × Mem} (hOM : OK M) (h : f_X8_settle p1 M = some res) : Mth false yX8_settle cX8_settle 2 none 2 0 0 SH [aR 127, aI p1] M none SH res.2 (OK res.2) := by
  refine Mth.of (by decide +kernel) (Nat.le_of_ble_eq_true rfl) (fun K B C => ?_)
  show Wx K B _ 0 0 SH 2 M 0 [some (aR 127), some (aI p1)] []
  unfold f_X8_settle at h
  exact b_X8_settle_0 C FU p1 M hOM h

def f_X8_place (p1 : Int) (M : Mem) : Option (Int × Mem) :=
  if p1 = 104 then some (1, M) else if p1 = 107 then some (2, M) else if p1 = 108 then some (4, M) else if p1 = 115 then some (0, M) else if p1 = 118 then some (3, M) else if p1 = 121 then some (5, M) else some ((-1), M)
set_option maxRecDepth 20000 in
set_option maxHeartbeats 4000000 in
theorem m_X8_place {p1 : Int} {M : Mem} {res : Int × Mem} (hOM : OK M) (h : f_X8_place p1 M = some res) : Mth false yX8_place cX8_place 2 (some .int) 1 0 0 SH [aR 127, aI p1] M (some (aI res.1)) SH res.2 (OK res.2) := by
  refine Mth.of (by decide +kernel) (Nat.le_of_ble_eq_true rfl) (fun K B C => ?_)
  show Wx K B _ 0 0 SH 2 M 0 [some (aR 127), some (aI p1)] []
  unfold f_X8_place at h
  refine mx_iload_n (pc := 0) C dX8_place_0 rfl ?_
  by_cases c1 : p1 = 104
  · rw [if_pos c1] at h
    refine mx_tin (pc := 1) (tgt := 90) C 104 dX8_place_1 c1 (by decide) (by decide) rfl rfl ?_
    refine mx_iconst (pc := 90) C dX8_place_90 (z := 1) rfl (by constructor <;> decide) ?_
    rw [← Option.some.inj h]
    exact mx_ireturn (pc := 91) C dX8_place_91 hOM ⟨Nat.le_refl _, Nat.le_refl _⟩
  · rw [if_neg c1] at h
    by_cases c2 : p1 = 107
    · rw [if_pos c2] at h
      refine mx_tin (pc := 1) (tgt := 92) C 107 dX8_place_1 c2 (by decide) (by decide) rfl rfl ?_
      refine mx_iconst (pc := 92) C dX8_place_92 (z := 2) rfl (by constructor <;> decide) ?_
      rw [← Option.some.inj h]
      exact mx_ireturn (pc := 93) C dX8_place_93 hOM ⟨Nat.le_refl _, Nat.le_refl _⟩
    · rw [if_neg c2] at h
      by_cases c3 : p1 = 108
      · rw [if_pos c3] at h
        refine mx_tin (pc := 1) (tgt := 96) C 108 dX8_place_1 c3 (by decide) (by decide) rfl rfl ?_
        refine mx_iconst (pc := 96) C dX8_place_96 (z := 4) rfl (by constructor <;> decide) ?_
        rw [← Option.some.inj h]
        exact mx_ireturn (pc := 97) C dX8_place_97 hOM ⟨Nat.le_refl _, Nat.le_refl _⟩
      · rw [if_neg c3] at h
        by_cases c4 : p1 = 115
        · rw [if_pos c4] at h
          refine mx_tin (pc := 1) (tgt := 88) C 115 dX8_place_1 c4 (by decide) (by decide) rfl rfl ?_
          refine mx_iconst (pc := 88) C dX8_place_88 (z := 0) rfl (by constructor <;> decide) ?_
          rw [← Option.some.inj h]
          exact mx_ireturn (pc := 89) C dX8_place_89 hOM ⟨Nat.le_refl _, Nat.le_refl _⟩
        · rw [if_neg c4] at h
          by_cases c5 : p1 = 118
          · rw [if_pos c5] at h
            refine mx_tin (pc := 1) (tgt := 94) C 118 dX8_place_1 c5 (by decide) (by decide) rfl rfl ?_
            refine mx_iconst (pc := 94) C dX8_place_94 (z := 3) rfl (by constructor <;> decide) ?_
            rw [← Option.some.inj h]
            exact mx_ireturn (pc := 95) C dX8_place_95 hOM ⟨Nat.le_refl _, Nat.le_refl _⟩
          · rw [if_neg c5] at h
            by_cases c6 : p1 = 121
            · rw [if_pos c6] at h
              refine mx_tin (pc := 1) (tgt := 98) C 121 dX8_place_1 c6 (by decide) (by decide) rfl rfl ?_
              refine mx_iconst (pc := 98) C dX8_place_98 (z := 5) rfl (by constructor <;> decide) ?_
              rw [← Option.some.inj h]
              exact mx_ireturn (pc := 99) C dX8_place_99 hOM ⟨Nat.le_refl _, Nat.le_refl _⟩
            · rw [if_neg c6] at h
              rcases (by omega : (p1 < 104 ∨ 121 < p1) ∨ p1 = 105 ∨ p1 = 106 ∨ p1 = 109 ∨ p1 = 110 ∨ p1 = 111 ∨ p1 = 112 ∨ p1 = 113 ∨ p1 = 114 ∨ p1 = 116 ∨ p1 = 117 ∨ p1 = 119 ∨ p1 = 120) with hs | hs | hs | hs | hs | hs | hs | hs | hs | hs | hs | hs | hs
              · refine mx_tout (pc := 1) (tgt := 100) C dX8_place_1 hs rfl ?_
                refine mx_iconst (pc := 100) C dX8_place_100 (z := (-1)) rfl (by constructor <;> decide) ?_
                rw [← Option.some.inj h]
                exact mx_ireturn (pc := 101) C dX8_place_101 hOM ⟨Nat.le_refl _, Nat.le_refl _⟩
              · refine mx_tin (pc := 1) (tgt := 100) C 105 dX8_place_1 hs (by decide) (by decide) rfl rfl ?_
                refine mx_iconst (pc := 100) C dX8_place_100 (z := (-1)) rfl (by constructor <;> decide) ?_
                rw [← Option.some.inj h]
                exact mx_ireturn (pc := 101) C dX8_place_101 hOM ⟨Nat.le_refl _, Nat.le_refl _⟩
              · refine mx_tin (pc := 1) (tgt := 100) C 106 dX8_place_1 hs (by decide) (by decide) rfl rfl ?_
                refine mx_iconst (pc := 100) C dX8_place_100 (z := (-1)) rfl (by constructor <;> decide) ?_
                rw [← Option.some.inj h]
                exact mx_ireturn (pc := 101) C dX8_place_101 hOM ⟨Nat.le_refl _, Nat.le_refl _⟩
              · refine mx_tin (pc := 1) (tgt := 100) C 109 dX8_place_1 hs (by decide) (by decide) rfl rfl ?_
                refine mx_iconst (pc := 100) C dX8_place_100 (z := (-1)) rfl (by constructor <;> decide) ?_
                rw [← Option.some.inj h]
                exact mx_ireturn (pc := 101) C dX8_place_101 hOM ⟨Nat.le_refl _, Nat.le_refl _⟩
              · refine mx_tin (pc := 1) (tgt := 100) C 110 dX8_place_1 hs (by decide) (by decide) rfl rfl ?_
                refine mx_iconst (pc := 100) C dX8_place_100 (z := (-1)) rfl (by constructor <;> decide) ?_
                rw [← Option.some.inj h]
                exact mx_ireturn (pc := 101) C dX8_place_101 hOM ⟨Nat.le_refl _, Nat.le_refl _⟩
              · refine mx_tin (pc := 1) (tgt := 100) C 111 dX8_place_1 hs (by decide) (by decide) rfl rfl ?_
                refine mx_iconst (pc := 100) C dX8_place_100 (z := (-1)) rfl (by constructor <;> decide) ?_
                rw [← Option.some.inj h]
                exact mx_ireturn (pc := 101) C dX8_place_101 hOM ⟨Nat.le_refl _, Nat.le_refl _⟩
              · refine mx_tin (pc := 1) (tgt := 100) C 112 dX8_place_1 hs (by decide) (by decide) rfl rfl ?_
                refine mx_iconst (pc := 100) C dX8_place_100 (z := (-1)) rfl (by constructor <;> decide) ?_
                rw [← Option.some.inj h]
                exact mx_ireturn (pc := 101) C dX8_place_101 hOM ⟨Nat.le_refl _, Nat.le_refl _⟩
              · refine mx_tin (pc := 1) (tgt := 100) C 113 dX8_place_1 hs (by decide) (by decide) rfl rfl ?_
                refine mx_iconst (pc := 100) C dX8_place_100 (z := (-1)) rfl (by constructor <;> decide) ?_
                rw [← Option.some.inj h]
                exact mx_ireturn (pc := 101) C dX8_place_101 hOM ⟨Nat.le_refl _, Nat.le_refl _⟩
              · refine mx_tin (pc := 1) (tgt := 100) C 114 dX8_place_1 hs (by decide) (by decide) rfl rfl ?_
                refine mx_iconst (pc := 100) C dX8_place_100 (z := (-1)) rfl (by constructor <;> decide) ?_
                rw [← Option.some.inj h]
                exact mx_ireturn (pc := 101) C dX8_place_101 hOM ⟨Nat.le_refl _, Nat.le_refl _⟩
              · refine mx_tin (pc := 1) (tgt := 100) C 116 dX8_place_1 hs (by decide) (by decide) rfl rfl ?_
                refine mx_iconst (pc := 100) C dX8_place_100 (z := (-1)) rfl (by constructor <;> decide) ?_
                rw [← Option.some.inj h]
                exact mx_ireturn (pc := 101) C dX8_place_101 hOM ⟨Nat.le_refl _, Nat.le_refl _⟩
              · refine mx_tin (pc := 1) (tgt := 100) C 117 dX8_place_1 hs (by decide) (by decide) rfl rfl ?_
                refine mx_iconst (pc := 100) C dX8_place_100 (z := (-1)) rfl (by constructor <;> decide) ?_
                rw [← Option.some.inj h]
                exact mx_ireturn (pc := 101) C dX8_place_101 hOM ⟨Nat.le_refl _, Nat.le_refl _⟩
              · refine mx_tin (pc := 1) (tgt := 100) C 119 dX8_place_1 hs (by decide) (by decide) rfl rfl ?_
                refine mx_iconst (pc := 100) C dX8_place_100 (z := (-1)) rfl (by constructor <;> decide) ?_
                rw [← Option.some.inj h]
                exact mx_ireturn (pc := 101) C dX8_place_101 hOM ⟨Nat.le_refl _, Nat.le_refl _⟩
              · refine mx_tin (pc := 1) (tgt := 100) C 120 dX8_place_1 hs (by decide) (by decide) rfl rfl ?_
                refine mx_iconst (pc := 100) C dX8_place_100 (z := (-1)) rfl (by constructor <;> decide) ?_
                rw [← Option.some.inj h]
                exact mx_ireturn (pc := 101) C dX8_place_101 hOM ⟨Nat.le_refl _, Nat.le_refl _⟩

def f_X8_takesTest (M : Mem) : Option (Int × Mem) :=
  (f_X8_next M).bind (fun q1 => (f_X8_place q1.1 q1.2).bind (fun q3 => if 0 ≤ q3.1 then lt (stM q3.2 127 10 (w32 ((q3.2 127 10) + 1))) (fun M6 => (f_X8_next M6).bind (fun q7 => (f_X8_in q7.1 60 62 q7.2).bind (fun q9 => if q9.1 = 0 then some (0, q9.2) else lt (stM q9.2 127 10 (w32 ((q9.2 127 10) + 1))) (fun M12 => (f_X8_takesNumber M12).bind (fun q13 => if q13.1 = 0 then some (0, q13.2) else (f_X8_emits (w32 ((w32 ((w32 (1000 * q3.1)) + (w32 (100 * (w32 (q7.1 - 60)))))) + (q13.2 127 11))) q13.2).bind (fun q16 => (f_X8_whole q16.2).bind (fun q18 => some (1, q18.2)))))))) else some (0, q3.2)))
set_option maxRecDepth 20000 in
set_option maxHeartbeats 4000000 in
theorem m_X8_takesTest {M : Mem} {res : Int × Mem} (hOM : OK M) (h : f_X8_takesTest M = some res) : Mth false yX8_takesTest cX8_takesTest 3 (some .boolean) 4 0 0 SH [aR 127] M (some (aI res.1)) SH res.2 (OK res.2 ∧ (res.1 = 0 ∨ res.1 = 1)) := by
  refine Mth.of (by decide +kernel) (Nat.le_of_ble_eq_true rfl) (fun K B C => ?_)
  show Wx K B _ 0 0 SH 3 M 0 [some (aR 127), none, none] []
  unfold f_X8_takesTest at h
  refine mx_aload_n (pc := 0) C dX8_takesTest_0 rfl ?_
  refine mx_aload_n (pc := 1) C dX8_takesTest_1 rfl ?_
  obtain ⟨q1, hq1, h⟩ := of_bd h
  refine mc_V (pc := 2) (as := []) (rest := [aR 127]) (stk2 := [aI q1.1, aR 127]) C ⟨Nat.le_refl _, Nat.le_refl _⟩ (m_X8_next hOM hq1) mi_X8_next mv_X8_next ml_X8_243 ci_8 rfl so_8 (by omega) rfl (Nat.le_of_ble_eq_true rfl) dX8_takesTest_2 rfl (fun hp2 => ?_)
  have hOq1 : OK q1.2 := hp2
  obtain ⟨q3, hq3, h⟩ := of_bd h
  refine mc_V (pc := 5) (as := [aI q1.1]) (rest := []) (stk2 := [aI q3.1]) C ⟨Nat.le_refl _, Nat.le_refl _⟩ (m_X8_place hOq1 hq3) mi_X8_place mv_X8_place ml_X8_258 ci_8 rfl so_8 (by omega) rfl (Nat.le_of_ble_eq_true rfl) dX8_takesTest_5 rfl (fun hp4 => ?_)
  have hOq3 : OK q3.2 := hp4
  refine mx_istore_n (pc := 8) C dX8_takesTest_8 (ls' := [some (aR 127), some (aI q3.1), none]) (by decide) rfl rfl ?_
  refine mx_iload_n (pc := 9) C dX8_takesTest_9 rfl ?_
  refine mx_if_ge (pc := 10) (tgt := 15) C dX8_takesTest_10 rfl (fun c5 => ?_) (fun c5 => ?_)
  · rw [if_pos c5] at h
    refine mx_aload_n (pc := 15) C dX8_takesTest_15 rfl ?_
    refine mx_dup (pc := 16) C dX8_takesTest_16 rfl ?_
    refine mx_getI (pc := 17) C dX8_takesTest_17 so_8 ci_8 (k := 10) (by decide) fl_X8_41 rfl (q := 10) rfl ?_
    refine mx_iconst (pc := 20) C dX8_takesTest_20 (z := 1) rfl (by constructor <;> decide) ?_
    refine mx_iadd (pc := 21) C dX8_takesTest_21  ?_
    refine mx_putI (pc := 22) C dX8_takesTest_22 so_8 ci_8 (k := 10) (by decide) fl_X8_41 (Or.inl rfl) rfl (q := 10) rfl ?_
    generalize hmM6 : stM q3.2 127 10 (w32 ((q3.2 127 10) + 1)) = M6 at h ⊢
    replace h := lt_e h
    have hOM6 : OK M6 := by rw [← hmM6]; exact okf_8_10 hOq3
    refine mx_aload_n (pc := 25) C dX8_takesTest_25 rfl ?_
    obtain ⟨q7, hq7, h⟩ := of_bd h
    refine mc_V (pc := 26) (as := []) (rest := []) (stk2 := [aI q7.1]) C ⟨Nat.le_refl _, Nat.le_refl _⟩ (m_X8_next hOM6 hq7) mi_X8_next mv_X8_next ml_X8_243 ci_8 rfl so_8 (by omega) rfl (Nat.le_of_ble_eq_true rfl) dX8_takesTest_26 rfl (fun hp8 => ?_)
    have hOq7 : OK q7.2 := hp8
    refine mx_istore_n (pc := 29) C dX8_takesTest_29 (ls' := [some (aR 127), some (aI q3.1), some (aI q7.1)]) (by decide) rfl rfl ?_
    refine mx_aload_n (pc := 30) C dX8_takesTest_30 rfl ?_
    refine mx_iload_n (pc := 31) C dX8_takesTest_31 rfl ?_
    refine mx_bipush (pc := 32) C dX8_takesTest_32 (z := 60) rfl (by constructor <;> decide) ?_
    refine mx_bipush (pc := 34) C dX8_takesTest_34 (z := 62) rfl (by constructor <;> decide) ?_
    obtain ⟨q9, hq9, h⟩ := of_bd h
    refine mc_V (pc := 36) (as := [aI q7.1, aI 60, aI 62]) (rest := []) (stk2 := [aI q9.1]) C ⟨Nat.le_refl _, Nat.le_refl _⟩ (m_X8_in hOq7 hq9) mi_X8_in mv_X8_in ml_X8_218 ci_8 rfl so_8 (by omega) rfl (Nat.le_of_ble_eq_true rfl) dX8_takesTest_36 rfl (fun hp10 => ?_)
    have hOq9 : OK q9.2 := hp10.1
    refine mx_if_ne (pc := 39) (tgt := 44) C dX8_takesTest_39 rfl (fun c11 => ?_) (fun c11 => ?_)
    · rw [if_neg c11] at h
      refine mx_aload_n (pc := 44) C dX8_takesTest_44 rfl ?_
      refine mx_dup (pc := 45) C dX8_takesTest_45 rfl ?_
      refine mx_getI (pc := 46) C dX8_takesTest_46 so_8 ci_8 (k := 10) (by decide) fl_X8_41 rfl (q := 10) rfl ?_
      refine mx_iconst (pc := 49) C dX8_takesTest_49 (z := 1) rfl (by constructor <;> decide) ?_
      refine mx_iadd (pc := 50) C dX8_takesTest_50  ?_
      refine mx_putI (pc := 51) C dX8_takesTest_51 so_8 ci_8 (k := 10) (by decide) fl_X8_41 (Or.inl rfl) rfl (q := 10) rfl ?_
      generalize hmM12 : stM q9.2 127 10 (w32 ((q9.2 127 10) + 1)) = M12 at h ⊢
      replace h := lt_e h
      have hOM12 : OK M12 := by rw [← hmM12]; exact okf_8_10 hOq9
      refine mx_aload_n (pc := 54) C dX8_takesTest_54 rfl ?_
      obtain ⟨q13, hq13, h⟩ := of_bd h
      refine mc_V (pc := 55) (as := []) (rest := []) (stk2 := [aI q13.1]) C ⟨Nat.le_refl _, Nat.le_refl _⟩ (m_X8_takesNumber hOM12 hq13) mi_X8_takesNumber mv_X8_takesNumber ml_X8_261 ci_8 rfl so_8 (by omega) rfl (Nat.le_of_ble_eq_true rfl) dX8_takesTest_55 rfl (fun hp14 => ?_)
      have hOq13 : OK q13.2 := hp14.1
      refine mx_if_ne (pc := 58) (tgt := 63) C dX8_takesTest_58 rfl (fun c15 => ?_) (fun c15 => ?_)
      · rw [if_neg c15] at h
        refine mx_aload_n (pc := 63) C dX8_takesTest_63 rfl ?_
        refine mx_sipush (pc := 64) C dX8_takesTest_64 (z := 1000) rfl (by constructor <;> decide) ?_
        refine mx_iload_n (pc := 67) C dX8_takesTest_67 rfl ?_
        refine mx_imul (pc := 68) C dX8_takesTest_68  ?_
        refine mx_bipush (pc := 69) C dX8_takesTest_69 (z := 100) rfl (by constructor <;> decide) ?_
        refine mx_iload_n (pc := 71) C dX8_takesTest_71 rfl ?_
        refine mx_bipush (pc := 72) C dX8_takesTest_72 (z := 60) rfl (by constructor <;> decide) ?_
        refine mx_isub (pc := 74) C dX8_takesTest_74  ?_
        refine mx_imul (pc := 75) C dX8_takesTest_75  ?_
        refine mx_iadd (pc := 76) C dX8_takesTest_76  ?_
        refine mx_aload_n (pc := 77) C dX8_takesTest_77 rfl ?_
        refine mx_getI (pc := 78) C dX8_takesTest_78 so_8 ci_8 (k := 11) (by decide) fl_X8_44 rfl (q := 11) rfl ?_
        refine mx_iadd (pc := 81) C dX8_takesTest_81  ?_
        obtain ⟨q16, hq16, h⟩ := of_bd h
        refine mc_V (pc := 82) (as := [aI (w32 ((w32 ((w32 (1000 * q3.1)) + (w32 (100 * (w32 (q7.1 - 60)))))) + (q13.2 127 11)))]) (rest := []) (stk2 := []) C ⟨Nat.le_refl _, Nat.le_refl _⟩ (m_X8_emits hOq13 hq16) mi_X8_emits mv_X8_emits ml_X8_254 ci_8 rfl so_8 (by omega) rfl (Nat.le_of_ble_eq_true rfl) dX8_takesTest_82 rfl (fun hp17 => ?_)
        have hOq16 : OK q16.2 := hp17
        refine mx_aload_n (pc := 85) C dX8_takesTest_85 rfl ?_
        obtain ⟨q18, hq18, h⟩ := of_bd h
        refine mc_V (pc := 86) (as := []) (rest := []) (stk2 := []) C ⟨Nat.le_refl _, Nat.le_refl _⟩ (m_X8_whole hOq16 hq18) mi_X8_whole mv_X8_whole ml_X8_264 ci_8 rfl so_8 (by omega) rfl (Nat.le_of_ble_eq_true rfl) dX8_takesTest_86 rfl (fun hp19 => ?_)
        have hOq18 : OK q18.2 := hp19
        refine mx_iconst (pc := 89) C dX8_takesTest_89 (z := 1) rfl (by constructor <;> decide) ?_
        rw [← Option.some.inj h]
        exact mx_zreturn (pc := 90) C dX8_takesTest_90 (Or.inr rfl) ⟨hOq18, (Or.inr rfl)⟩ ⟨Nat.le_refl _, Nat.le_refl _⟩
      · rw [if_pos c15] at h
        refine mx_iconst (pc := 61) C dX8_takesTest_61 (z := 0) rfl (by constructor <;> decide) ?_
        rw [← Option.some.inj h]
        exact mx_zreturn (pc := 62) C dX8_takesTest_62 (Or.inl rfl) ⟨hOq13, (Or.inl rfl)⟩ ⟨Nat.le_refl _, Nat.le_refl _⟩
    · rw [if_pos c11] at h
      refine mx_iconst (pc := 42) C dX8_takesTest_42 (z := 0) rfl (by constructor <;> decide) ?_
      rw [← Option.some.inj h]
      exact mx_zreturn (pc := 43) C dX8_takesTest_43 (Or.inl rfl) ⟨hOq9, (Or.inl rfl)⟩ ⟨Nat.le_refl _, Nat.le_refl _⟩
  · rw [if_neg c5] at h
    refine mx_iconst (pc := 13) C dX8_takesTest_13 (z := 0) rfl (by constructor <;> decide) ?_
    rw [← Option.some.inj h]
    exact mx_zreturn (pc := 14) C dX8_takesTest_14 (Or.inl rfl) ⟨hOq3, (Or.inl rfl)⟩ ⟨Nat.le_refl _, Nat.le_refl _⟩

def f_X8_takesE_43 (p1 : Int) (k22 : Int → Int → Mem → Option (Int × Mem)) (x1 : Int) (x2 : Int) (x3 : Int) (M : Mem) : Option (Int × Mem) :=
  if M 127 22 = 4 then some (0, M) else lt (stM M 127 22 (w32 ((M 127 22) + 1))) (fun M2 => if 0 ≤ M2 127 21 ∧ M2 127 21 < 101 then lt (stM M2 140 (M2 127 21) x3) (fun M4 => lt (stM M4 127 21 (w32 ((M4 127 21) + 1))) (fun M5 => lt (stM M5 127 10 (w32 ((M5 127 10) + 1))) (fun M6 => k22 x1 x2 M6))) else none)
def f_X8_takesE_122 (p1 : Int) (k22 : Int → Int → Mem → Option (Int × Mem)) (x1 : Int) (x3 : Int) (M : Mem) : Option (Int × Mem) :=
  (f_X8_settle x3 M).bind (fun q1 => if 0 ≤ q1.2 127 21 ∧ q1.2 127 21 < 101 then lt (stM q1.2 140 (q1.2 127 21) x3) (fun M4 => lt (stM M4 127 21 (w32 ((M4 127 21) + 1))) (fun M5 => lt (stM M5 127 10 (w32 ((M5 127 10) + 1))) (fun M6 => k22 x1 1 M6))) else none)
def f_X8_takesE_22 (p1 : Int) : Nat → Int → Int → Mem → Option (Int × Mem)
  | 0, _, _, _ => none
  | n + 1, x1, x2, M => (f_X8_next M).bind (fun q1 => if x2 = 0 then if q1.1 = 38 then f_X8_takesE_122 p1 (f_X8_takesE_22 p1 n) x1 q1.1 q1.2 else if q1.1 = 124 then f_X8_takesE_122 p1 (f_X8_takesE_22 p1 n) x1 q1.1 q1.2 else (f_X8_settle 124 q1.2).bind (fun q6 => if 0 ≤ x1 ∧ x1 < 60 then lt (stM q6.2 138 x1 (q6.2 127 20)) (fun M9 => if M9 127 21 = 0 then some (1, M9) else if q1.1 = 41 then lt (stM M9 127 21 (w32 ((M9 127 21) - 1))) (fun M12 => lt (stM M12 127 22 (w32 ((M12 127 22) - 1))) (fun M13 => lt (stM M13 127 10 (w32 ((M13 127 10) + 1))) (fun M14 => (f_X8_whole M14).bind (fun q15 => f_X8_takesE_22 p1 n x1 x2 q15.2)))) else some (0, M9)) else none) else if q1.1 = 33 then f_X8_takesE_43 p1 (f_X8_takesE_22 p1 n) x1 x2 q1.1 q1.2 else if q1.1 = 40 then f_X8_takesE_43 p1 (f_X8_takesE_22 p1 n) x1 x2 q1.1 q1.2 else (f_X8_takesTest q1.2).bind (fun q19 => if q19.1 = 0 then some (0, q19.2) else f_X8_takesE_22 p1 n x1 0 q19.2))
def f_X8_takesE (p1 : Int) (M : Mem) : Option (Int × Mem) :=
  lt (stM M 127 21 0) (fun M1 => lt (stM M1 127 22 0) (fun M2 => if 0 ≤ p1 ∧ p1 < 60 then lt (stM M2 137 p1 (M2 127 20)) (fun M4 => f_X8_takesE_22 p1 FU p1 1 M4) else none))
set_option maxRecDepth 20000 in
set_option maxHeartbeats 4000000 in
theorem b_X8_takesE_43 {K : KX} {B : BX} {res : Int × Mem} {p1 : Int} {k22 : Int → Int → Mem → Option (Int × Mem)} (C : Cx K B false yX8_takesE cX8_takesE 4 (some .boolean) 5 0 0) (hk22 : ∀ (x1 : Int) (x2 : Int) (M : Mem), OK M → k22 x1 x2 M = some res → Wx K B (Zr K B (some (aI res.1)) SH res.2 (OK res.2 ∧ (res.1 = 0 ∨ res.1 = 1)) 0 0) 0 0 SH 4 M 22 [some (aR 127), some (aI x1), some (aI x2), none] []) : ∀ (x1 : Int) (x2 : Int) (x3 : Int) (M : Mem), OK M → f_X8_takesE_43 p1 k22 x1 x2 x3 M = some res → Wx K B (Zr K B (some (aI res.1)) SH res.2 (OK res.2 ∧ (res.1 = 0 ∨ res.1 = 1)) 0 0) 0 0 SH 4 M 43 [some (aR 127), some (aI x1), some (aI x2), some (aI x3)] [] := by
  intro x1 x2 x3 M hOM h
  unfold f_X8_takesE_43 at h
  refine mx_aload_n (pc := 43) C dX8_takesE_43 rfl ?_
  refine mx_getI (pc := 44) C dX8_takesE_44 so_8 ci_8 (k := 22) (by decide) fl_X8_77 rfl (q := 22) rfl ?_
  refine mx_iconst (pc := 47) C dX8_takesE_47 (z := 4) rfl (by constructor <;> decide) ?_
  refine mx_icmp_ne (pc := 48) (tgt := 53) C dX8_takesE_48 rfl (fun c1 => ?_) (fun c1 => ?_)
  · rw [if_neg c1] at h
    refine mx_aload_n (pc := 53) C dX8_takesE_53 rfl ?_
    refine mx_dup (pc := 54) C dX8_takesE_54 rfl ?_
    refine mx_getI (pc := 55) C dX8_takesE_55 so_8 ci_8 (k := 22) (by decide) fl_X8_77 rfl (q := 22) rfl ?_
    refine mx_iconst (pc := 58) C dX8_takesE_58 (z := 1) rfl (by constructor <;> decide) ?_
    refine mx_iadd (pc := 59) C dX8_takesE_59  ?_
    refine mx_putI (pc := 60) C dX8_takesE_60 so_8 ci_8 (k := 22) (by decide) fl_X8_77 (Or.inl rfl) rfl (q := 22) rfl ?_
    generalize hmM2 : stM M 127 22 (w32 ((M 127 22) + 1)) = M2 at h ⊢
    replace h := lt_e h
    have hOM2 : OK M2 := by rw [← hmM2]; exact okf_8_22 hOM
    refine mx_aload_n (pc := 63) C dX8_takesE_63 rfl ?_
    refine mx_getR (pc := 64) (v := 140) C dX8_takesE_64 so_8 ci_8 (k := 19) (by decide) fl_X8_68 rfl (q := 19) rfl (lay_8_19 hOM2) (by decide) ?_
    refine mx_aload_n (pc := 67) C dX8_takesE_67 rfl ?_
    refine mx_getI (pc := 68) C dX8_takesE_68 so_8 ci_8 (k := 21) (by decide) fl_X8_74 rfl (q := 21) rfl ?_
    refine mx_iload_n (pc := 71) C dX8_takesE_71 rfl ?_
    obtain ⟨g3, h⟩ := of_gd h
    refine mx_iast (pc := 72) C dX8_takesE_72 sh_8_19 g3.1 g3.2 ?_
    generalize hmM4 : stM M2 140 (M2 127 21) x3 = M4 at h ⊢
    replace h := lt_e h
    have hOM4 : OK M4 := by rw [← hmM4]; exact ok_arr hOM2 sh_8_19 (by decide)
    refine mx_aload_n (pc := 73) C dX8_takesE_73 rfl ?_
    refine mx_dup (pc := 74) C dX8_takesE_74 rfl ?_
    refine mx_getI (pc := 75) C dX8_takesE_75 so_8 ci_8 (k := 21) (by decide) fl_X8_74 rfl (q := 21) rfl ?_
    refine mx_iconst (pc := 78) C dX8_takesE_78 (z := 1) rfl (by constructor <;> decide) ?_
    refine mx_iadd (pc := 79) C dX8_takesE_79  ?_
    refine mx_putI (pc := 80) C dX8_takesE_80 so_8 ci_8 (k := 21) (by decide) fl_X8_74 (Or.inl rfl) rfl (q := 21) rfl ?_
    generalize hmM5 : stM M4 127 21 (w32 ((M4 127 21) + 1)) = M5 at h ⊢
    replace h := lt_e h
    have hOM5 : OK M5 := by rw [← hmM5]; exact okf_8_21 hOM4
    refine mx_aload_n (pc := 83) C dX8_takesE_83 rfl ?_
    refine mx_dup (pc := 84) C dX8_takesE_84 rfl ?_
    refine mx_getI (pc := 85) C dX8_takesE_85 so_8 ci_8 (k := 10) (by decide) fl_X8_41 rfl (q := 10) rfl ?_
    refine mx_iconst (pc := 88) C dX8_takesE_88 (z := 1) rfl (by constructor <;> decide) ?_
    refine mx_iadd (pc := 89) C dX8_takesE_89  ?_
    refine mx_putI (pc := 90) C dX8_takesE_90 so_8 ci_8 (k := 10) (by decide) fl_X8_41 (Or.inl rfl) rfl (q := 10) rfl ?_
    generalize hmM6 : stM M5 127 10 (w32 ((M5 127 10) + 1)) = M6 at h ⊢
    replace h := lt_e h
    have hOM6 : OK M6 := by rw [← hmM6]; exact okf_8_10 hOM5
    refine mx_goto (pc := 93) (tgt := 22) C dX8_takesE_93 rfl ?_
    refine mx_mask [true, true, true, false] (ls' := [some (aR 127), some (aI x1), some (aI x2), none]) rfl rfl ?_
    exact hk22 x1 x2 M6 hOM6 h
  · rw [if_pos c1] at h
    refine mx_iconst (pc := 51) C dX8_takesE_51 (z := 0) rfl (by constructor <;> decide) ?_
    rw [← Option.some.inj h]
    exact mx_zreturn (pc := 52) C dX8_takesE_52 (Or.inl rfl) ⟨hOM, (Or.inl rfl)⟩ ⟨Nat.le_refl _, Nat.le_refl _⟩
set_option maxRecDepth 20000 in
set_option maxHeartbeats 4000000 in
theorem b_X8_takesE_122 {K : KX} {B : BX} {res : Int × Mem} {p1 : Int} {k22 : Int → Int → Mem → Option (Int × Mem)} (C : Cx K B false yX8_takesE cX8_takesE 4 (some .boolean) 5 0 0) (hk22 : ∀ (x1 : Int) (x2 : Int) (M : Mem), OK M → k22 x1 x2 M = some res → Wx K B (Zr K B (some (aI res.1)) SH res.2 (OK res.2 ∧ (res.1 = 0 ∨ res.1 = 1)) 0 0) 0 0 SH 4 M 22 [some (aR 127), some (aI x1), some (aI x2), none] []) : ∀ (x1 : Int) (x3 : Int) (M : Mem), OK M → f_X8_takesE_122 p1 k22 x1 x3 M = some res → Wx K B (Zr K B (some (aI res.1)) SH res.2 (OK res.2 ∧ (res.1 = 0 ∨ res.1 = 1)) 0 0) 0 0 SH 4 M 122 [some (aR 127), some (aI x1), none, some (aI x3)] [] := by
  intro x1 x3 M hOM h
  unfold f_X8_takesE_122 at h
  refine mx_aload_n (pc := 122) C dX8_takesE_122 rfl ?_
  refine mx_iload_n (pc := 123) C dX8_takesE_123 rfl ?_
  obtain ⟨q1, hq1, h⟩ := of_bd h
  refine mc_V (pc := 124) (as := [aI x3]) (rest := []) (stk2 := []) C ⟨Nat.le_refl _, Nat.le_refl _⟩ (m_X8_settle hOM hq1) mi_X8_settle mv_X8_settle ml_X8_270 ci_8 rfl so_8 (by omega) rfl (Nat.le_of_ble_eq_true rfl) dX8_takesE_124 rfl (fun hp2 => ?_)
  have hOq1 : OK q1.2 := hp2
  refine mx_aload_n (pc := 127) C dX8_takesE_127 rfl ?_
  refine mx_getR (pc := 128) (v := 140) C dX8_takesE_128 so_8 ci_8 (k := 19) (by decide) fl_X8_68 rfl (q := 19) rfl (lay_8_19 hOq1) (by decide) ?_
  refine mx_aload_n (pc := 131) C dX8_takesE_131 rfl ?_
  refine mx_getI (pc := 132) C dX8_takesE_132 so_8 ci_8 (k := 21) (by decide) fl_X8_74 rfl (q := 21) rfl ?_
  refine mx_iload_n (pc := 135) C dX8_takesE_135 rfl ?_
  obtain ⟨g3, h⟩ := of_gd h
  refine mx_iast (pc := 136) C dX8_takesE_136 sh_8_19 g3.1 g3.2 ?_
  generalize hmM4 : stM q1.2 140 (q1.2 127 21) x3 = M4 at h ⊢
  replace h := lt_e h
  have hOM4 : OK M4 := by rw [← hmM4]; exact ok_arr hOq1 sh_8_19 (by decide)
  refine mx_aload_n (pc := 137) C dX8_takesE_137 rfl ?_
  refine mx_dup (pc := 138) C dX8_takesE_138 rfl ?_
  refine mx_getI (pc := 139) C dX8_takesE_139 so_8 ci_8 (k := 21) (by decide) fl_X8_74 rfl (q := 21) rfl ?_
  refine mx_iconst (pc := 142) C dX8_takesE_142 (z := 1) rfl (by constructor <;> decide) ?_
  refine mx_iadd (pc := 143) C dX8_takesE_143  ?_
  refine mx_putI (pc := 144) C dX8_takesE_144 so_8 ci_8 (k := 21) (by decide) fl_X8_74 (Or.inl rfl) rfl (q := 21) rfl ?_
  generalize hmM5 : stM M4 127 21 (w32 ((M4 127 21) + 1)) = M5 at h ⊢
  replace h := lt_e h
  have hOM5 : OK M5 := by rw [← hmM5]; exact okf_8_21 hOM4
  refine mx_iconst (pc := 147) C dX8_takesE_147 (z := 1) rfl (by constructor <;> decide) ?_
  refine mx_istore_n (pc := 148) C dX8_takesE_148 (ls' := [some (aR 127), some (aI x1), some (aI 1), some (aI x3)]) (by decide) rfl rfl ?_
  refine mx_aload_n (pc := 149) C dX8_takesE_149 rfl ?_
  refine mx_dup (pc := 150) C dX8_takesE_150 rfl ?_
  refine mx_getI (pc := 151) C dX8_takesE_151 so_8 ci_8 (k := 10) (by decide) fl_X8_41 rfl (q := 10) rfl ?_
  refine mx_iconst (pc := 154) C dX8_takesE_154 (z := 1) rfl (by constructor <;> decide) ?_
  refine mx_iadd (pc := 155) C dX8_takesE_155  ?_
  refine mx_putI (pc := 156) C dX8_takesE_156 so_8 ci_8 (k := 10) (by decide) fl_X8_41 (Or.inl rfl) rfl (q := 10) rfl ?_
  generalize hmM6 : stM M5 127 10 (w32 ((M5 127 10) + 1)) = M6 at h ⊢
  replace h := lt_e h
  have hOM6 : OK M6 := by rw [← hmM6]; exact okf_8_10 hOM5
  refine mx_goto (pc := 159) (tgt := 22) C dX8_takesE_159 rfl ?_
  refine mx_mask [true, true, true, false] (ls' := [some (aR 127), some (aI x1), some (aI 1), none]) rfl rfl ?_
  exact hk22 x1 1 M6 hOM6 h
set_option maxRecDepth 20000 in
set_option maxHeartbeats 4000000 in
theorem b_X8_takesE_22 {K : KX} {B : BX} {res : Int × Mem} {p1 : Int} (C : Cx K B false yX8_takesE cX8_takesE 4 (some .boolean) 5 0 0) : ∀ (n : Nat) (x1 : Int) (x2 : Int) (M : Mem), OK M → f_X8_takesE_22 p1 n x1 x2 M = some res → Wx K B (Zr K B (some (aI res.1)) SH res.2 (OK res.2 ∧ (res.1 = 0 ∨ res.1 = 1)) 0 0) 0 0 SH 4 M 22 [some (aR 127), some (aI x1), some (aI x2), none] [] := by
  intro n
  induction n with
  | zero =>
    intro x1 x2 M hOM h
    cases h
  | succ n ih =>
    intro x1 x2 M hOM h
    rw [f_X8_takesE_22.eq_2] at h
    refine mx_aload_n (pc := 22) C dX8_takesE_22 rfl ?_
    obtain ⟨q1, hq1, h⟩ := of_bd h
    refine mc_V (pc := 23) (as := []) (rest := []) (stk2 := [aI q1.1]) C ⟨Nat.le_refl _, Nat.le_refl _⟩ (m_X8_next hOM hq1) mi_X8_next mv_X8_next ml_X8_243 ci_8 rfl so_8 (by omega) rfl (Nat.le_of_ble_eq_true rfl) dX8_takesE_23 rfl (fun hp2 => ?_)
    have hOq1 : OK q1.2 := hp2
    refine mx_istore_n (pc := 26) C dX8_takesE_26 (ls' := [some (aR 127), some (aI x1), some (aI x2), some (aI q1.1)]) (by decide) rfl rfl ?_
    refine mx_iload_n (pc := 27) C dX8_takesE_27 rfl ?_
    refine mx_if_eq (pc := 28) (tgt := 110) C dX8_takesE_28 rfl (fun c3 => ?_) (fun c3 => ?_)
    · rw [if_pos c3] at h
      refine mx_iload_n (pc := 110) C dX8_takesE_110 rfl ?_
      refine mx_bipush (pc := 111) C dX8_takesE_111 (z := 38) rfl (by constructor <;> decide) ?_
      refine mx_icmp_eq (pc := 113) (tgt := 122) C dX8_takesE_113 rfl (fun c4 => ?_) (fun c4 => ?_)
      · rw [if_pos c4] at h
        refine mx_mask [true, true, false, true] (ls' := [some (aR 127), some (aI x1), none, some (aI q1.1)]) rfl rfl ?_
        exact b_X8_takesE_122 C ih x1 q1.1 q1.2 hOq1 h
      · rw [if_neg c4] at h
        refine mx_iload_n (pc := 116) C dX8_takesE_116 rfl ?_
        refine mx_bipush (pc := 117) C dX8_takesE_117 (z := 124) rfl (by constructor <;> decide) ?_
        refine mx_icmp_ne (pc := 119) (tgt := 162) C dX8_takesE_119 rfl (fun c5 => ?_) (fun c5 => ?_)
        · rw [if_neg c5] at h
          refine mx_aload_n (pc := 162) C dX8_takesE_162 rfl ?_
          refine mx_bipush (pc := 163) C dX8_takesE_163 (z := 124) rfl (by constructor <;> decide) ?_
          obtain ⟨q6, hq6, h⟩ := of_bd h
          refine mc_V (pc := 165) (as := [aI 124]) (rest := []) (stk2 := []) C ⟨Nat.le_refl _, Nat.le_refl _⟩ (m_X8_settle hOq1 hq6) mi_X8_settle mv_X8_settle ml_X8_270 ci_8 rfl so_8 (by omega) rfl (Nat.le_of_ble_eq_true rfl) dX8_takesE_165 rfl (fun hp7 => ?_)
          have hOq6 : OK q6.2 := hp7
          refine mx_aload_n (pc := 168) C dX8_takesE_168 rfl ?_
          refine mx_getR (pc := 169) (v := 138) C dX8_takesE_169 so_8 ci_8 (k := 17) (by decide) fl_X8_62 rfl (q := 17) rfl (lay_8_17 hOq6) (by decide) ?_
          refine mx_iload_n (pc := 172) C dX8_takesE_172 rfl ?_
          refine mx_aload_n (pc := 173) C dX8_takesE_173 rfl ?_
          refine mx_getI (pc := 174) C dX8_takesE_174 so_8 ci_8 (k := 20) (by decide) fl_X8_71 rfl (q := 20) rfl ?_
          obtain ⟨g8, h⟩ := of_gd h
          refine mx_iast (pc := 177) C dX8_takesE_177 sh_8_17 g8.1 g8.2 ?_
          generalize hmM9 : stM q6.2 138 x1 (q6.2 127 20) = M9 at h ⊢
          replace h := lt_e h
          have hOM9 : OK M9 := by rw [← hmM9]; exact ok_arr hOq6 sh_8_17 (by decide)
          refine mx_aload_n (pc := 178) C dX8_takesE_178 rfl ?_
          refine mx_getI (pc := 179) C dX8_takesE_179 so_8 ci_8 (k := 21) (by decide) fl_X8_74 rfl (q := 21) rfl ?_
          refine mx_if_ne (pc := 182) (tgt := 187) C dX8_takesE_182 rfl (fun c10 => ?_) (fun c10 => ?_)
          · rw [if_neg c10] at h
            refine mx_iload_n (pc := 187) C dX8_takesE_187 rfl ?_
            refine mx_bipush (pc := 188) C dX8_takesE_188 (z := 41) rfl (by constructor <;> decide) ?_
            refine mx_icmp_eq (pc := 190) (tgt := 195) C dX8_takesE_190 rfl (fun c11 => ?_) (fun c11 => ?_)
            · rw [if_pos c11] at h
              refine mx_aload_n (pc := 195) C dX8_takesE_195 rfl ?_
              refine mx_dup (pc := 196) C dX8_takesE_196 rfl ?_
              refine mx_getI (pc := 197) C dX8_takesE_197 so_8 ci_8 (k := 21) (by decide) fl_X8_74 rfl (q := 21) rfl ?_
              refine mx_iconst (pc := 200) C dX8_takesE_200 (z := 1) rfl (by constructor <;> decide) ?_
              refine mx_isub (pc := 201) C dX8_takesE_201  ?_
              refine mx_putI (pc := 202) C dX8_takesE_202 so_8 ci_8 (k := 21) (by decide) fl_X8_74 (Or.inl rfl) rfl (q := 21) rfl ?_
              generalize hmM12 : stM M9 127 21 (w32 ((M9 127 21) - 1)) = M12 at h ⊢
              replace h := lt_e h
              have hOM12 : OK M12 := by rw [← hmM12]; exact okf_8_21 hOM9
              refine mx_aload_n (pc := 205) C dX8_takesE_205 rfl ?_
              refine mx_dup (pc := 206) C dX8_takesE_206 rfl ?_
              refine mx_getI (pc := 207) C dX8_takesE_207 so_8 ci_8 (k := 22) (by decide) fl_X8_77 rfl (q := 22) rfl ?_
              refine mx_iconst (pc := 210) C dX8_takesE_210 (z := 1) rfl (by constructor <;> decide) ?_
              refine mx_isub (pc := 211) C dX8_takesE_211  ?_
              refine mx_putI (pc := 212) C dX8_takesE_212 so_8 ci_8 (k := 22) (by decide) fl_X8_77 (Or.inl rfl) rfl (q := 22) rfl ?_
              generalize hmM13 : stM M12 127 22 (w32 ((M12 127 22) - 1)) = M13 at h ⊢
              replace h := lt_e h
              have hOM13 : OK M13 := by rw [← hmM13]; exact okf_8_22 hOM12
              refine mx_aload_n (pc := 215) C dX8_takesE_215 rfl ?_
              refine mx_dup (pc := 216) C dX8_takesE_216 rfl ?_
              refine mx_getI (pc := 217) C dX8_takesE_217 so_8 ci_8 (k := 10) (by decide) fl_X8_41 rfl (q := 10) rfl ?_
              refine mx_iconst (pc := 220) C dX8_takesE_220 (z := 1) rfl (by constructor <;> decide) ?_
              refine mx_iadd (pc := 221) C dX8_takesE_221  ?_
              refine mx_putI (pc := 222) C dX8_takesE_222 so_8 ci_8 (k := 10) (by decide) fl_X8_41 (Or.inl rfl) rfl (q := 10) rfl ?_
              generalize hmM14 : stM M13 127 10 (w32 ((M13 127 10) + 1)) = M14 at h ⊢
              replace h := lt_e h
              have hOM14 : OK M14 := by rw [← hmM14]; exact okf_8_10 hOM13
              refine mx_aload_n (pc := 225) C dX8_takesE_225 rfl ?_
              obtain ⟨q15, hq15, h⟩ := of_bd h
              refine mc_V (pc := 226) (as := []) (rest := []) (stk2 := []) C ⟨Nat.le_refl _, Nat.le_refl _⟩ (m_X8_whole hOM14 hq15) mi_X8_whole mv_X8_whole ml_X8_264 ci_8 rfl so_8 (by omega) rfl (Nat.le_of_ble_eq_true rfl) dX8_takesE_226 rfl (fun hp16 => ?_)
              have hOq15 : OK q15.2 := hp16
              refine mx_goto (pc := 229) (tgt := 22) C dX8_takesE_229 rfl ?_
              refine mx_mask [true, true, true, false] (ls' := [some (aR 127), some (aI x1), some (aI x2), none]) rfl rfl ?_
              exact ih x1 x2 q15.2 hOq15 h
            · rw [if_neg c11] at h
              refine mx_iconst (pc := 193) C dX8_takesE_193 (z := 0) rfl (by constructor <;> decide) ?_
              rw [← Option.some.inj h]
              exact mx_zreturn (pc := 194) C dX8_takesE_194 (Or.inl rfl) ⟨hOM9, (Or.inl rfl)⟩ ⟨Nat.le_refl _, Nat.le_refl _⟩
          · rw [if_pos c10] at h
            refine mx_iconst (pc := 185) C dX8_takesE_185 (z := 1) rfl (by constructor <;> decide) ?_
            rw [← Option.some.inj h]
            exact mx_zreturn (pc := 186) C dX8_takesE_186 (Or.inr rfl) ⟨hOM9, (Or.inr rfl)⟩ ⟨Nat.le_refl _, Nat.le_refl _⟩
        · rw [if_pos c5] at h
          refine mx_mask [true, true, false, true] (ls' := [some (aR 127), some (aI x1), none, some (aI q1.1)]) rfl rfl ?_
          exact b_X8_takesE_122 C ih x1 q1.1 q1.2 hOq1 h
    · rw [if_neg c3] at h
      refine mx_iload_n (pc := 31) C dX8_takesE_31 rfl ?_
      refine mx_bipush (pc := 32) C dX8_takesE_32 (z := 33) rfl (by constructor <;> decide) ?_
      refine mx_icmp_eq (pc := 34) (tgt := 43) C dX8_takesE_34 rfl (fun c17 => ?_) (fun c17 => ?_)
      · rw [if_pos c17] at h
        exact b_X8_takesE_43 C ih x1 x2 q1.1 q1.2 hOq1 h
      · rw [if_neg c17] at h
        refine mx_iload_n (pc := 37) C dX8_takesE_37 rfl ?_
        refine mx_bipush (pc := 38) C dX8_takesE_38 (z := 40) rfl (by constructor <;> decide) ?_
        refine mx_icmp_ne (pc := 40) (tgt := 96) C dX8_takesE_40 rfl (fun c18 => ?_) (fun c18 => ?_)
        · rw [if_neg c18] at h
          refine mx_aload_n (pc := 96) C dX8_takesE_96 rfl ?_
          obtain ⟨q19, hq19, h⟩ := of_bd h
          refine mc_V (pc := 97) (as := []) (rest := []) (stk2 := [aI q19.1]) C ⟨Nat.le_refl _, Nat.le_refl _⟩ (m_X8_takesTest hOq1 hq19) mi_X8_takesTest mv_X8_takesTest ml_X8_267 ci_8 rfl so_8 (by omega) rfl (Nat.le_of_ble_eq_true rfl) dX8_takesE_97 rfl (fun hp20 => ?_)
          have hOq19 : OK q19.2 := hp20.1
          refine mx_if_eq (pc := 100) (tgt := 108) C dX8_takesE_100 rfl (fun c21 => ?_) (fun c21 => ?_)
          · rw [if_pos c21] at h
            refine mx_iconst (pc := 108) C dX8_takesE_108 (z := 0) rfl (by constructor <;> decide) ?_
            rw [← Option.some.inj h]
            exact mx_zreturn (pc := 109) C dX8_takesE_109 (Or.inl rfl) ⟨hOq19, (Or.inl rfl)⟩ ⟨Nat.le_refl _, Nat.le_refl _⟩
          · rw [if_neg c21] at h
            refine mx_iconst (pc := 103) C dX8_takesE_103 (z := 0) rfl (by constructor <;> decide) ?_
            refine mx_istore_n (pc := 104) C dX8_takesE_104 (ls' := [some (aR 127), some (aI x1), some (aI 0), some (aI q1.1)]) (by decide) rfl rfl ?_
            refine mx_goto (pc := 105) (tgt := 22) C dX8_takesE_105 rfl ?_
            refine mx_mask [true, true, true, false] (ls' := [some (aR 127), some (aI x1), some (aI 0), none]) rfl rfl ?_
            exact ih x1 0 q19.2 hOq19 h
        · rw [if_pos c18] at h
          exact b_X8_takesE_43 C ih x1 x2 q1.1 q1.2 hOq1 h
set_option maxRecDepth 20000 in
set_option maxHeartbeats 4000000 in
theorem m_X8_takesE {p1 : Int} {M : Mem} {res : Int × Mem} (hOM : OK M) (h : f_X8_takesE p1 M = some res) : Mth false yX8_takesE cX8_takesE 4 (some .boolean) 5 0 0 SH [aR 127, aI p1] M (some (aI res.1)) SH res.2 (OK res.2 ∧ (res.1 = 0 ∨ res.1 = 1)) := by
  refine Mth.of (by decide +kernel) (Nat.le_of_ble_eq_true rfl) (fun K B C => ?_)
  show Wx K B _ 0 0 SH 4 M 0 [some (aR 127), some (aI p1), none, none] []
  unfold f_X8_takesE at h
  refine mx_aload_n (pc := 0) C dX8_takesE_0 rfl ?_
  refine mx_iconst (pc := 1) C dX8_takesE_1 (z := 0) rfl (by constructor <;> decide) ?_
  refine mx_putI (pc := 2) C dX8_takesE_2 so_8 ci_8 (k := 21) (by decide) fl_X8_74 (Or.inl rfl) rfl (q := 21) rfl ?_
  generalize hmM1 : stM M 127 21 0 = M1 at h ⊢
  replace h := lt_e h
  have hOM1 : OK M1 := by rw [← hmM1]; exact okf_8_21 hOM
  refine mx_aload_n (pc := 5) C dX8_takesE_5 rfl ?_
  refine mx_iconst (pc := 6) C dX8_takesE_6 (z := 0) rfl (by constructor <;> decide) ?_
  refine mx_putI (pc := 7) C dX8_takesE_7 so_8 ci_8 (k := 22) (by decide) fl_X8_77 (Or.inl rfl) rfl (q := 22) rfl ?_
  generalize hmM2 : stM M1 127 22 0 = M2 at h ⊢
  replace h := lt_e h
  have hOM2 : OK M2 := by rw [← hmM2]; exact okf_8_22 hOM1
  refine mx_aload_n (pc := 10) C dX8_takesE_10 rfl ?_
  refine mx_getR (pc := 11) (v := 137) C dX8_takesE_11 so_8 ci_8 (k := 16) (by decide) fl_X8_59 rfl (q := 16) rfl (lay_8_16 hOM2) (by decide) ?_
  refine mx_iload_n (pc := 14) C dX8_takesE_14 rfl ?_
  refine mx_aload_n (pc := 15) C dX8_takesE_15 rfl ?_
  refine mx_getI (pc := 16) C dX8_takesE_16 so_8 ci_8 (k := 20) (by decide) fl_X8_71 rfl (q := 20) rfl ?_
  obtain ⟨g3, h⟩ := of_gd h
  refine mx_iast (pc := 19) C dX8_takesE_19 sh_8_16 g3.1 g3.2 ?_
  generalize hmM4 : stM M2 137 p1 (M2 127 20) = M4 at h ⊢
  replace h := lt_e h
  have hOM4 : OK M4 := by rw [← hmM4]; exact ok_arr hOM2 sh_8_16 (by decide)
  refine mx_iconst (pc := 20) C dX8_takesE_20 (z := 1) rfl (by constructor <;> decide) ?_
  refine mx_istore_n (pc := 21) C dX8_takesE_21 (ls' := [some (aR 127), some (aI p1), some (aI 1), none]) (by decide) rfl rfl ?_
  exact b_X8_takesE_22 C FU p1 1 M4 hOM4 h

def f_X8_takesHead_102 (p1 : Int) (x1 : Int) (t1 : Int) (t2 : Int) (M : Mem) : Option (Int × Mem) :=
  if 0 ≤ t1 ∧ t1 < 60 then lt (stM M 135 t1 t2) (fun M2 => if 0 ≤ x1 ∧ x1 < 60 then if M2 135 x1 = 4 then (f_X8_takesWord 16 4 M2).bind (fun q7 => some (q7.1, q7.2)) else (f_X8_takesWord 8 4 M2).bind (fun q5 => some (q5.1, q5.2)) else none) else none
def f_X8_takesHead (p1 : Int) (M : Mem) : Option (Int × Mem) :=
  (f_X8_next M).bind (fun q1 => if q1.1 = 99 then if 0 ≤ p1 ∧ p1 < 60 then lt (stM q1.2 135 p1 3) (fun M5 => (f_X8_takesWord 12 4 M5).bind (fun q6 => some (q6.1, q6.2))) else none else if q1.1 = 108 then if 0 ≤ p1 ∧ p1 < 60 then lt (stM q1.2 135 p1 0) (fun M10 => (f_X8_takesWord 0 4 M10).bind (fun q11 => some (q11.1, q11.2))) else none else if q1.1 = 115 then if 0 ≤ p1 ∧ p1 < 60 then lt (stM q1.2 135 p1 1) (fun M15 => (f_X8_takesWord 4 4 M15).bind (fun q16 => some (q16.1, q16.2))) else none else (f_X8_second q1.2).bind (fun q18 => if q18.1 = 101 then f_X8_takesHead_102 p1 p1 p1 4 q18.2 else f_X8_takesHead_102 p1 p1 p1 2 q18.2))
set_option maxRecDepth 20000 in
set_option maxHeartbeats 4000000 in
theorem b_X8_takesHead_102 {K : KX} {B : BX} {res : Int × Mem} {p1 : Int} (C : Cx K B false yX8_takesHead cX8_takesHead 2 (some .boolean) 4 0 0) : ∀ (x1 : Int) (t1 : Int) (t2 : Int) (M : Mem), OK M → f_X8_takesHead_102 p1 x1 t1 t2 M = some res → Wx K B (Zr K B (some (aI res.1)) SH res.2 (OK res.2 ∧ (res.1 = 0 ∨ res.1 = 1)) 0 0) 0 0 SH 2 M 102 [some (aR 127), some (aI x1)] [aI t2, aI t1, aR 135] := by
  intro x1 t1 t2 M hOM h
  unfold f_X8_takesHead_102 at h
  obtain ⟨g1, h⟩ := of_gd h
  refine mx_iast (pc := 102) C dX8_takesHead_102 sh_8_14 g1.1 g1.2 ?_
  generalize hmM2 : stM M 135 t1 t2 = M2 at h ⊢
  replace h := lt_e h
  have hOM2 : OK M2 := by rw [← hmM2]; exact ok_arr hOM sh_8_14 (by decide)
  refine mx_aload_n (pc := 103) C dX8_takesHead_103 rfl ?_
  refine mx_getR (pc := 104) (v := 135) C dX8_takesHead_104 so_8 ci_8 (k := 14) (by decide) fl_X8_53 rfl (q := 14) rfl (lay_8_14 hOM2) (by decide) ?_
  refine mx_iload_n (pc := 107) C dX8_takesHead_107 rfl ?_
  obtain ⟨g3, h⟩ := of_gd h
  refine mx_iald (pc := 108) C dX8_takesHead_108 sh_8_14 g3.1 g3.2 ?_
  refine mx_iconst (pc := 109) C dX8_takesHead_109 (z := 4) rfl (by constructor <;> decide) ?_
  refine mx_icmp_ne (pc := 110) (tgt := 123) C dX8_takesHead_110 rfl (fun c4 => ?_) (fun c4 => ?_)
  · rw [if_neg c4] at h
    refine mx_aload_n (pc := 123) C dX8_takesHead_123 rfl ?_
    refine mx_bipush (pc := 124) C dX8_takesHead_124 (z := 8) rfl (by constructor <;> decide) ?_
    refine mx_iconst (pc := 126) C dX8_takesHead_126 (z := 4) rfl (by constructor <;> decide) ?_
    obtain ⟨q5, hq5, h⟩ := of_bd h
    refine mc_V (pc := 127) (as := [aI 8, aI 4]) (rest := []) (stk2 := [aI q5.1]) C ⟨Nat.le_refl _, Nat.le_refl _⟩ (m_X8_takesWord hOM2 hq5) mi_X8_takesWord mv_X8_takesWord ml_X8_273 ci_8 rfl so_8 (by omega) rfl (Nat.le_of_ble_eq_true rfl) dX8_takesHead_127 rfl (fun hp6 => ?_)
    have hOq5 : OK q5.2 := hp6.1
    rw [← Option.some.inj h]
    exact mx_zreturn (pc := 130) C dX8_takesHead_130 hp6.2 ⟨hOq5, hp6.2⟩ ⟨Nat.le_refl _, Nat.le_refl _⟩
  · rw [if_pos c4] at h
    refine mx_aload_n (pc := 113) C dX8_takesHead_113 rfl ?_
    refine mx_bipush (pc := 114) C dX8_takesHead_114 (z := 16) rfl (by constructor <;> decide) ?_
    refine mx_iconst (pc := 116) C dX8_takesHead_116 (z := 4) rfl (by constructor <;> decide) ?_
    obtain ⟨q7, hq7, h⟩ := of_bd h
    refine mc_V (pc := 117) (as := [aI 16, aI 4]) (rest := []) (stk2 := [aI q7.1]) C ⟨Nat.le_refl _, Nat.le_refl _⟩ (m_X8_takesWord hOM2 hq7) mi_X8_takesWord mv_X8_takesWord ml_X8_273 ci_8 rfl so_8 (by omega) rfl (Nat.le_of_ble_eq_true rfl) dX8_takesHead_117 rfl (fun hp8 => ?_)
    have hOq7 : OK q7.2 := hp8.1
    refine mx_goto (pc := 120) (tgt := 130) C dX8_takesHead_120 rfl ?_
    rw [← Option.some.inj h]
    exact mx_zreturn (pc := 130) C dX8_takesHead_130 hp8.2 ⟨hOq7, hp8.2⟩ ⟨Nat.le_refl _, Nat.le_refl _⟩
set_option maxRecDepth 20000 in
set_option maxHeartbeats 4000000 in
theorem m_X8_takesHead {p1 : Int} {M : Mem} {res : Int × Mem} (hOM : OK M) (h : f_X8_takesHead p1 M = some res) : Mth false yX8_takesHead cX8_takesHead 2 (some .boolean) 4 0 0 SH [aR 127, aI p1] M (some (aI res.1)) SH res.2 (OK res.2 ∧ (res.1 = 0 ∨ res.1 = 1)) := by
  refine Mth.of (by decide +kernel) (Nat.le_of_ble_eq_true rfl) (fun K B C => ?_)
  show Wx K B _ 0 0 SH 2 M 0 [some (aR 127), some (aI p1)] []
  unfold f_X8_takesHead at h
  refine mx_aload_n (pc := 0) C dX8_takesHead_0 rfl ?_
  obtain ⟨q1, hq1, h⟩ := of_bd h
  refine mc_V (pc := 1) (as := []) (rest := []) (stk2 := [aI q1.1]) C ⟨Nat.le_refl _, Nat.le_refl _⟩ (m_X8_next hOM hq1) mi_X8_next mv_X8_next ml_X8_243 ci_8 rfl so_8 (by omega) rfl (Nat.le_of_ble_eq_true rfl) dX8_takesHead_1 rfl (fun hp2 => ?_)
  have hOq1 : OK q1.2 := hp2
  by_cases c3 : q1.1 = 99
  · rw [if_pos c3] at h
    refine mx_lsw (pc := 4) (tgt := 68) (off := 64) C dX8_takesHead_4 (by decide) (by rw [c3]; rfl) rfl ?_
    refine mx_aload_n (pc := 68) C dX8_takesHead_68 rfl ?_
    refine mx_getR (pc := 69) (v := 135) C dX8_takesHead_69 so_8 ci_8 (k := 14) (by decide) fl_X8_53 rfl (q := 14) rfl (lay_8_14 hOq1) (by decide) ?_
    refine mx_iload_n (pc := 72) C dX8_takesHead_72 rfl ?_
    refine mx_iconst (pc := 73) C dX8_takesHead_73 (z := 3) rfl (by constructor <;> decide) ?_
    obtain ⟨g4, h⟩ := of_gd h
    refine mx_iast (pc := 74) C dX8_takesHead_74 sh_8_14 g4.1 g4.2 ?_
    generalize hmM5 : stM q1.2 135 p1 3 = M5 at h ⊢
    replace h := lt_e h
    have hOM5 : OK M5 := by rw [← hmM5]; exact ok_arr hOq1 sh_8_14 (by decide)
    refine mx_aload_n (pc := 75) C dX8_takesHead_75 rfl ?_
    refine mx_bipush (pc := 76) C dX8_takesHead_76 (z := 12) rfl (by constructor <;> decide) ?_
    refine mx_iconst (pc := 78) C dX8_takesHead_78 (z := 4) rfl (by constructor <;> decide) ?_
    obtain ⟨q6, hq6, h⟩ := of_bd h
    refine mc_V (pc := 79) (as := [aI 12, aI 4]) (rest := []) (stk2 := [aI q6.1]) C ⟨Nat.le_refl _, Nat.le_refl _⟩ (m_X8_takesWord hOM5 hq6) mi_X8_takesWord mv_X8_takesWord ml_X8_273 ci_8 rfl so_8 (by omega) rfl (Nat.le_of_ble_eq_true rfl) dX8_takesHead_79 rfl (fun hp7 => ?_)
    have hOq6 : OK q6.2 := hp7.1
    rw [← Option.some.inj h]
    exact mx_zreturn (pc := 82) C dX8_takesHead_82 hp7.2 ⟨hOq6, hp7.2⟩ ⟨Nat.le_refl _, Nat.le_refl _⟩
  · rw [if_neg c3] at h
    by_cases c8 : q1.1 = 108
    · rw [if_pos c8] at h
      refine mx_lsw (pc := 4) (tgt := 40) (off := 36) C dX8_takesHead_4 (by decide) (by rw [c8]; rfl) rfl ?_
      refine mx_aload_n (pc := 40) C dX8_takesHead_40 rfl ?_
      refine mx_getR (pc := 41) (v := 135) C dX8_takesHead_41 so_8 ci_8 (k := 14) (by decide) fl_X8_53 rfl (q := 14) rfl (lay_8_14 hOq1) (by decide) ?_
      refine mx_iload_n (pc := 44) C dX8_takesHead_44 rfl ?_
      refine mx_iconst (pc := 45) C dX8_takesHead_45 (z := 0) rfl (by constructor <;> decide) ?_
      obtain ⟨g9, h⟩ := of_gd h
      refine mx_iast (pc := 46) C dX8_takesHead_46 sh_8_14 g9.1 g9.2 ?_
      generalize hmM10 : stM q1.2 135 p1 0 = M10 at h ⊢
      replace h := lt_e h
      have hOM10 : OK M10 := by rw [← hmM10]; exact ok_arr hOq1 sh_8_14 (by decide)
      refine mx_aload_n (pc := 47) C dX8_takesHead_47 rfl ?_
      refine mx_iconst (pc := 48) C dX8_takesHead_48 (z := 0) rfl (by constructor <;> decide) ?_
      refine mx_iconst (pc := 49) C dX8_takesHead_49 (z := 4) rfl (by constructor <;> decide) ?_
      obtain ⟨q11, hq11, h⟩ := of_bd h
      refine mc_V (pc := 50) (as := [aI 0, aI 4]) (rest := []) (stk2 := [aI q11.1]) C ⟨Nat.le_refl _, Nat.le_refl _⟩ (m_X8_takesWord hOM10 hq11) mi_X8_takesWord mv_X8_takesWord ml_X8_273 ci_8 rfl so_8 (by omega) rfl (Nat.le_of_ble_eq_true rfl) dX8_takesHead_50 rfl (fun hp12 => ?_)
      have hOq11 : OK q11.2 := hp12.1
      rw [← Option.some.inj h]
      exact mx_zreturn (pc := 53) C dX8_takesHead_53 hp12.2 ⟨hOq11, hp12.2⟩ ⟨Nat.le_refl _, Nat.le_refl _⟩
    · rw [if_neg c8] at h
      by_cases c13 : q1.1 = 115
      · rw [if_pos c13] at h
        refine mx_lsw (pc := 4) (tgt := 54) (off := 50) C dX8_takesHead_4 (by decide) (by rw [c13]; rfl) rfl ?_
        refine mx_aload_n (pc := 54) C dX8_takesHead_54 rfl ?_
        refine mx_getR (pc := 55) (v := 135) C dX8_takesHead_55 so_8 ci_8 (k := 14) (by decide) fl_X8_53 rfl (q := 14) rfl (lay_8_14 hOq1) (by decide) ?_
        refine mx_iload_n (pc := 58) C dX8_takesHead_58 rfl ?_
        refine mx_iconst (pc := 59) C dX8_takesHead_59 (z := 1) rfl (by constructor <;> decide) ?_
        obtain ⟨g14, h⟩ := of_gd h
        refine mx_iast (pc := 60) C dX8_takesHead_60 sh_8_14 g14.1 g14.2 ?_
        generalize hmM15 : stM q1.2 135 p1 1 = M15 at h ⊢
        replace h := lt_e h
        have hOM15 : OK M15 := by rw [← hmM15]; exact ok_arr hOq1 sh_8_14 (by decide)
        refine mx_aload_n (pc := 61) C dX8_takesHead_61 rfl ?_
        refine mx_iconst (pc := 62) C dX8_takesHead_62 (z := 4) rfl (by constructor <;> decide) ?_
        refine mx_iconst (pc := 63) C dX8_takesHead_63 (z := 4) rfl (by constructor <;> decide) ?_
        obtain ⟨q16, hq16, h⟩ := of_bd h
        refine mc_V (pc := 64) (as := [aI 4, aI 4]) (rest := []) (stk2 := [aI q16.1]) C ⟨Nat.le_refl _, Nat.le_refl _⟩ (m_X8_takesWord hOM15 hq16) mi_X8_takesWord mv_X8_takesWord ml_X8_273 ci_8 rfl so_8 (by omega) rfl (Nat.le_of_ble_eq_true rfl) dX8_takesHead_64 rfl (fun hp17 => ?_)
        have hOq16 : OK q16.2 := hp17.1
        rw [← Option.some.inj h]
        exact mx_zreturn (pc := 67) C dX8_takesHead_67 hp17.2 ⟨hOq16, hp17.2⟩ ⟨Nat.le_refl _, Nat.le_refl _⟩
      · rw [if_neg c13] at h
        refine mx_lsw (pc := 4) (tgt := 83) (off := 79) C dX8_takesHead_4 (by decide) (by show Op.lookupswitch.offset [(99, 64), (108, 36), (115, 50)] _ _ = _; rw [Op.lookupswitch.offset_cons, if_neg (fun e => c3 e.symm), Op.lookupswitch.offset_cons, if_neg (fun e => c8 e.symm), Op.lookupswitch.offset_cons, if_neg (fun e => c13 e.symm)]; rfl) rfl ?_
        refine mx_aload_n (pc := 83) C dX8_takesHead_83 rfl ?_
        refine mx_getR (pc := 84) (v := 135) C dX8_takesHead_84 so_8 ci_8 (k := 14) (by decide) fl_X8_53 rfl (q := 14) rfl (lay_8_14 hOq1) (by decide) ?_
        refine mx_iload_n (pc := 87) C dX8_takesHead_87 rfl ?_
        refine mx_aload_n (pc := 88) C dX8_takesHead_88 rfl ?_
        obtain ⟨q18, hq18, h⟩ := of_bd h
        refine mc_V (pc := 89) (as := []) (rest := [aI p1, aR 135]) (stk2 := [aI q18.1, aI p1, aR 135]) C ⟨Nat.le_refl _, Nat.le_refl _⟩ (m_X8_second hOq1 hq18) mi_X8_second mv_X8_second ml_X8_277 ci_8 rfl so_8 (by omega) rfl (Nat.le_of_ble_eq_true rfl) dX8_takesHead_89 rfl (fun hp19 => ?_)
        have hOq18 : OK q18.2 := hp19
        refine mx_bipush (pc := 92) C dX8_takesHead_92 (z := 101) rfl (by constructor <;> decide) ?_
        refine mx_icmp_ne (pc := 94) (tgt := 101) C dX8_takesHead_94 rfl (fun c20 => ?_) (fun c20 => ?_)
        · rw [if_neg c20] at h
          refine mx_iconst (pc := 101) C dX8_takesHead_101 (z := 2) rfl (by constructor <;> decide) ?_
          exact b_X8_takesHead_102 C p1 p1 2 q18.2 hOq18 h
        · rw [if_pos c20] at h
          refine mx_iconst (pc := 97) C dX8_takesHead_97 (z := 4) rfl (by constructor <;> decide) ?_
          refine mx_goto (pc := 98) (tgt := 102) C dX8_takesHead_98 rfl ?_
          exact b_X8_takesHead_102 C p1 p1 4 q18.2 hOq18 h

def f_X8_takesClause (p1 : Int) (M : Mem) : Option (Int × Mem) :=
  (f_X8_takesHead p1 M).bind (fun q1 => if q1.1 = 0 then some (0, q1.2) else (f_X8_takesNumber q1.2).bind (fun q4 => if q4.1 = 0 then some (0, q4.2) else if 0 ≤ p1 ∧ p1 < 60 then lt (stM q4.2 136 p1 (q4.2 127 11)) (fun M8 => if 0 ≤ p1 ∧ p1 < 60 then if 2 ≤ M8 135 p1 then some (1, M8) else (f_X8_takes 32 M8).bind (fun q11 => if q11.1 = 0 then some (0, q11.2) else (f_X8_takesE p1 q11.2).bind (fun q14 => if q14.1 = 0 then some (0, q14.2) else some (1, q14.2))) else none) else none))
set_option maxRecDepth 20000 in
set_option maxHeartbeats 4000000 in
theorem m_X8_takesClause {p1 : Int} {M : Mem} {res : Int × Mem} (hOM : OK M) (h : f_X8_takesClause p1 M = some res) : Mth false yX8_takesClause cX8_takesClause 2 (some .boolean) 6 0 0 SH [aR 127, aI p1] M (some (aI res.1)) SH res.2 (OK res.2 ∧ (res.1 = 0 ∨ res.1 = 1)) := by
  refine Mth.of (by decide +kernel) (Nat.le_of_ble_eq_true rfl) (fun K B C => ?_)
  show Wx K B _ 0 0 SH 2 M 0 [some (aR 127), some (aI p1)] []
  unfold f_X8_takesClause at h
  refine mx_aload_n (pc := 0) C dX8_takesClause_0 rfl ?_
  refine mx_iload_n (pc := 1) C dX8_takesClause_1 rfl ?_
  obtain ⟨q1, hq1, h⟩ := of_bd h
  refine mc_V (pc := 2) (as := [aI p1]) (rest := []) (stk2 := [aI q1.1]) C ⟨Nat.le_refl _, Nat.le_refl _⟩ (m_X8_takesHead hOM hq1) mi_X8_takesHead mv_X8_takesHead ml_X8_280 ci_8 rfl so_8 (by omega) rfl (Nat.le_of_ble_eq_true rfl) dX8_takesClause_2 rfl (fun hp2 => ?_)
  have hOq1 : OK q1.2 := hp2.1
  refine mx_if_eq (pc := 5) (tgt := 15) C dX8_takesClause_5 rfl (fun c3 => ?_) (fun c3 => ?_)
  · rw [if_pos c3] at h
    refine mx_iconst (pc := 15) C dX8_takesClause_15 (z := 0) rfl (by constructor <;> decide) ?_
    rw [← Option.some.inj h]
    exact mx_zreturn (pc := 16) C dX8_takesClause_16 (Or.inl rfl) ⟨hOq1, (Or.inl rfl)⟩ ⟨Nat.le_refl _, Nat.le_refl _⟩
  · rw [if_neg c3] at h
    refine mx_aload_n (pc := 8) C dX8_takesClause_8 rfl ?_
    obtain ⟨q4, hq4, h⟩ := of_bd h
    refine mc_V (pc := 9) (as := []) (rest := []) (stk2 := [aI q4.1]) C ⟨Nat.le_refl _, Nat.le_refl _⟩ (m_X8_takesNumber hOq1 hq4) mi_X8_takesNumber mv_X8_takesNumber ml_X8_261 ci_8 rfl so_8 (by omega) rfl (Nat.le_of_ble_eq_true rfl) dX8_takesClause_9 rfl (fun hp5 => ?_)
    have hOq4 : OK q4.2 := hp5.1
    refine mx_if_ne (pc := 12) (tgt := 17) C dX8_takesClause_12 rfl (fun c6 => ?_) (fun c6 => ?_)
    · rw [if_neg c6] at h
      refine mx_aload_n (pc := 17) C dX8_takesClause_17 rfl ?_
      refine mx_getR (pc := 18) (v := 136) C dX8_takesClause_18 so_8 ci_8 (k := 15) (by decide) fl_X8_56 rfl (q := 15) rfl (lay_8_15 hOq4) (by decide) ?_
      refine mx_iload_n (pc := 21) C dX8_takesClause_21 rfl ?_
      refine mx_aload_n (pc := 22) C dX8_takesClause_22 rfl ?_
      refine mx_getI (pc := 23) C dX8_takesClause_23 so_8 ci_8 (k := 11) (by decide) fl_X8_44 rfl (q := 11) rfl ?_
      obtain ⟨g7, h⟩ := of_gd h
      refine mx_iast (pc := 26) C dX8_takesClause_26 sh_8_15 g7.1 g7.2 ?_
      generalize hmM8 : stM q4.2 136 p1 (q4.2 127 11) = M8 at h ⊢
      replace h := lt_e h
      have hOM8 : OK M8 := by rw [← hmM8]; exact ok_arr hOq4 sh_8_15 (by decide)
      refine mx_aload_n (pc := 27) C dX8_takesClause_27 rfl ?_
      refine mx_getR (pc := 28) (v := 135) C dX8_takesClause_28 so_8 ci_8 (k := 14) (by decide) fl_X8_53 rfl (q := 14) rfl (lay_8_14 hOM8) (by decide) ?_
      refine mx_iload_n (pc := 31) C dX8_takesClause_31 rfl ?_
      obtain ⟨g9, h⟩ := of_gd h
      refine mx_iald (pc := 32) C dX8_takesClause_32 sh_8_14 g9.1 g9.2 ?_
      refine mx_iconst (pc := 33) C dX8_takesClause_33 (z := 2) rfl (by constructor <;> decide) ?_
      refine mx_icmp_ge (pc := 34) (tgt := 54) C dX8_takesClause_34 rfl (fun c10 => ?_) (fun c10 => ?_)
      · rw [if_pos c10] at h
        refine mx_iconst (pc := 54) C dX8_takesClause_54 (z := 1) rfl (by constructor <;> decide) ?_
        refine mx_goto (pc := 55) (tgt := 59) C dX8_takesClause_55 rfl ?_
        rw [← Option.some.inj h]
        exact mx_zreturn (pc := 59) C dX8_takesClause_59 (Or.inr rfl) ⟨hOM8, (Or.inr rfl)⟩ ⟨Nat.le_refl _, Nat.le_refl _⟩
      · rw [if_neg c10] at h
        refine mx_aload_n (pc := 37) C dX8_takesClause_37 rfl ?_
        refine mx_bipush (pc := 38) C dX8_takesClause_38 (z := 32) rfl (by constructor <;> decide) ?_
        obtain ⟨q11, hq11, h⟩ := of_bd h
        refine mc_V (pc := 40) (as := [aI 32]) (rest := []) (stk2 := [aI q11.1]) C ⟨Nat.le_refl _, Nat.le_refl _⟩ (m_X8_takes hOM8 hq11) mi_X8_takes mv_X8_takes ml_X8_247 ci_8 rfl so_8 (by omega) rfl (Nat.le_of_ble_eq_true rfl) dX8_takesClause_40 rfl (fun hp12 => ?_)
        have hOq11 : OK q11.2 := hp12.1
        refine mx_if_eq (pc := 43) (tgt := 58) C dX8_takesClause_43 rfl (fun c13 => ?_) (fun c13 => ?_)
        · rw [if_pos c13] at h
          refine mx_iconst (pc := 58) C dX8_takesClause_58 (z := 0) rfl (by constructor <;> decide) ?_
          rw [← Option.some.inj h]
          exact mx_zreturn (pc := 59) C dX8_takesClause_59 (Or.inl rfl) ⟨hOq11, (Or.inl rfl)⟩ ⟨Nat.le_refl _, Nat.le_refl _⟩
        · rw [if_neg c13] at h
          refine mx_aload_n (pc := 46) C dX8_takesClause_46 rfl ?_
          refine mx_iload_n (pc := 47) C dX8_takesClause_47 rfl ?_
          obtain ⟨q14, hq14, h⟩ := of_bd h
          refine mc_V (pc := 48) (as := [aI p1]) (rest := []) (stk2 := [aI q14.1]) C ⟨Nat.le_refl _, Nat.le_refl _⟩ (m_X8_takesE hOq11 hq14) mi_X8_takesE mv_X8_takesE ml_X8_283 ci_8 rfl so_8 (by omega) rfl (Nat.le_of_ble_eq_true rfl) dX8_takesClause_48 rfl (fun hp15 => ?_)
          have hOq14 : OK q14.2 := hp15.1
          refine mx_if_eq (pc := 51) (tgt := 58) C dX8_takesClause_51 rfl (fun c16 => ?_) (fun c16 => ?_)
          · rw [if_pos c16] at h
            refine mx_iconst (pc := 58) C dX8_takesClause_58 (z := 0) rfl (by constructor <;> decide) ?_
            rw [← Option.some.inj h]
            exact mx_zreturn (pc := 59) C dX8_takesClause_59 (Or.inl rfl) ⟨hOq14, (Or.inl rfl)⟩ ⟨Nat.le_refl _, Nat.le_refl _⟩
          · rw [if_neg c16] at h
            refine mx_iconst (pc := 54) C dX8_takesClause_54 (z := 1) rfl (by constructor <;> decide) ?_
            refine mx_goto (pc := 55) (tgt := 59) C dX8_takesClause_55 rfl ?_
            rw [← Option.some.inj h]
            exact mx_zreturn (pc := 59) C dX8_takesClause_59 (Or.inr rfl) ⟨hOq14, (Or.inr rfl)⟩ ⟨Nat.le_refl _, Nat.le_refl _⟩
    · rw [if_pos c6] at h
      refine mx_iconst (pc := 15) C dX8_takesClause_15 (z := 0) rfl (by constructor <;> decide) ?_
      rw [← Option.some.inj h]
      exact mx_zreturn (pc := 16) C dX8_takesClause_16 (Or.inl rfl) ⟨hOq4, (Or.inl rfl)⟩ ⟨Nat.le_refl _, Nat.le_refl _⟩

def f_X8_goesText_15 (p1 : Int) : Nat → Int → Int → Mem → Option (Int × Mem)
  | 0, _, _, _ => none
  | n + 1, x1, x2, M => (f_X8_takesClause (w32 ((w32 (10 * x1)) + x2)) M).bind (fun q1 => if q1.1 = 0 then some (0, q1.2) else if 0 ≤ x1 ∧ x1 < 6 then lt (stM q1.2 134 x1 (w32 (x2 + 1))) (fun M5 => if M5 127 10 = M5 127 9 then some (1, M5) else if w32 (x2 + 1) = 10 then some (0, M5) else (f_X8_takes 59 M5).bind (fun q8 => if q8.1 = 0 then some (0, q8.2) else f_X8_goesText_15 p1 n x1 (w32 (x2 + 1)) q8.2)) else none)
def f_X8_goesText (p1 : Int) (M : Mem) : Option (Int × Mem) :=
  lt (stM M 127 10 0) (fun M1 => lt (stM M1 127 20 (w32 (100 * p1))) (fun M2 => f_X8_goesText_15 p1 FU p1 0 M2))
set_option maxRecDepth 20000 in
set_option maxHeartbeats 4000000 in
theorem b_X8_goesText_15 {K : KX} {B : BX} {res : Int × Mem} {p1 : Int} (C : Cx K B false yX8_goesText cX8_goesText 3 (some .boolean) 7 0 0) : ∀ (n : Nat) (x1 : Int) (x2 : Int) (M : Mem), OK M → f_X8_goesText_15 p1 n x1 x2 M = some res → Wx K B (Zr K B (some (aI res.1)) SH res.2 (OK res.2 ∧ (res.1 = 0 ∨ res.1 = 1)) 0 0) 0 0 SH 3 M 15 [some (aR 127), some (aI x1), some (aI x2)] [] := by
  intro n
  induction n with
  | zero =>
    intro x1 x2 M hOM h
    cases h
  | succ n ih =>
    intro x1 x2 M hOM h
    rw [f_X8_goesText_15.eq_2] at h
    refine mx_aload_n (pc := 15) C dX8_goesText_15 rfl ?_
    refine mx_bipush (pc := 16) C dX8_goesText_16 (z := 10) rfl (by constructor <;> decide) ?_
    refine mx_iload_n (pc := 18) C dX8_goesText_18 rfl ?_
    refine mx_imul (pc := 19) C dX8_goesText_19  ?_
    refine mx_iload_n (pc := 20) C dX8_goesText_20 rfl ?_
    refine mx_iadd (pc := 21) C dX8_goesText_21  ?_
    obtain ⟨q1, hq1, h⟩ := of_bd h
    refine mc_V (pc := 22) (as := [aI (w32 ((w32 (10 * x1)) + x2))]) (rest := []) (stk2 := [aI q1.1]) C ⟨Nat.le_refl _, Nat.le_refl _⟩ (m_X8_takesClause hOM hq1) mi_X8_takesClause mv_X8_takesClause ml_X8_286 ci_8 rfl so_8 (by omega) rfl (Nat.le_of_ble_eq_true rfl) dX8_goesText_22 rfl (fun hp2 => ?_)
    have hOq1 : OK q1.2 := hp2.1
    refine mx_if_ne (pc := 25) (tgt := 30) C dX8_goesText_25 rfl (fun c3 => ?_) (fun c3 => ?_)
    · rw [if_neg c3] at h
      refine mx_iinc (pc := 30) C dX8_goesText_30 (ls' := [some (aR 127), some (aI x1), some (aI (w32 (x2 + 1)))]) rfl (by decide) rfl (by constructor <;> decide) rfl rfl ?_
      refine mx_aload_n (pc := 33) C dX8_goesText_33 rfl ?_
      refine mx_getR (pc := 34) (v := 134) C dX8_goesText_34 so_8 ci_8 (k := 13) (by decide) fl_X8_50 rfl (q := 13) rfl (lay_8_13 hOq1) (by decide) ?_
      refine mx_iload_n (pc := 37) C dX8_goesText_37 rfl ?_
      refine mx_iload_n (pc := 38) C dX8_goesText_38 rfl ?_
      obtain ⟨g4, h⟩ := of_gd h
      refine mx_iast (pc := 39) C dX8_goesText_39 sh_8_13 g4.1 g4.2 ?_
      generalize hmM5 : stM q1.2 134 x1 (w32 (x2 + 1)) = M5 at h ⊢
      replace h := lt_e h
      have hOM5 : OK M5 := by rw [← hmM5]; exact ok_arr hOq1 sh_8_13 (by decide)
      refine mx_aload_n (pc := 40) C dX8_goesText_40 rfl ?_
      refine mx_getI (pc := 41) C dX8_goesText_41 so_8 ci_8 (k := 10) (by decide) fl_X8_41 rfl (q := 10) rfl ?_
      refine mx_aload_n (pc := 44) C dX8_goesText_44 rfl ?_
      refine mx_getI (pc := 45) C dX8_goesText_45 so_8 ci_8 (k := 9) (by decide) fl_X8_38 rfl (q := 9) rfl ?_
      refine mx_icmp_ne (pc := 48) (tgt := 53) C dX8_goesText_48 rfl (fun c6 => ?_) (fun c6 => ?_)
      · rw [if_neg c6] at h
        refine mx_iload_n (pc := 53) C dX8_goesText_53 rfl ?_
        refine mx_bipush (pc := 54) C dX8_goesText_54 (z := 10) rfl (by constructor <;> decide) ?_
        refine mx_icmp_eq (pc := 56) (tgt := 68) C dX8_goesText_56 rfl (fun c7 => ?_) (fun c7 => ?_)
        · rw [if_pos c7] at h
          refine mx_iconst (pc := 68) C dX8_goesText_68 (z := 0) rfl (by constructor <;> decide) ?_
          rw [← Option.some.inj h]
          exact mx_zreturn (pc := 69) C dX8_goesText_69 (Or.inl rfl) ⟨hOM5, (Or.inl rfl)⟩ ⟨Nat.le_refl _, Nat.le_refl _⟩
        · rw [if_neg c7] at h
          refine mx_aload_n (pc := 59) C dX8_goesText_59 rfl ?_
          refine mx_bipush (pc := 60) C dX8_goesText_60 (z := 59) rfl (by constructor <;> decide) ?_
          obtain ⟨q8, hq8, h⟩ := of_bd h
          refine mc_V (pc := 62) (as := [aI 59]) (rest := []) (stk2 := [aI q8.1]) C ⟨Nat.le_refl _, Nat.le_refl _⟩ (m_X8_takes hOM5 hq8) mi_X8_takes mv_X8_takes ml_X8_247 ci_8 rfl so_8 (by omega) rfl (Nat.le_of_ble_eq_true rfl) dX8_goesText_62 rfl (fun hp9 => ?_)
          have hOq8 : OK q8.2 := hp9.1
          refine mx_if_ne (pc := 65) (tgt := 15) C dX8_goesText_65 rfl (fun c10 => ?_) (fun c10 => ?_)
          · rw [if_neg c10] at h
            exact ih x1 (w32 (x2 + 1)) q8.2 hOq8 h
          · rw [if_pos c10] at h
            refine mx_iconst (pc := 68) C dX8_goesText_68 (z := 0) rfl (by constructor <;> decide) ?_
            rw [← Option.some.inj h]
            exact mx_zreturn (pc := 69) C dX8_goesText_69 (Or.inl rfl) ⟨hOq8, (Or.inl rfl)⟩ ⟨Nat.le_refl _, Nat.le_refl _⟩
      · rw [if_pos c6] at h
        refine mx_iconst (pc := 51) C dX8_goesText_51 (z := 1) rfl (by constructor <;> decide) ?_
        rw [← Option.some.inj h]
        exact mx_zreturn (pc := 52) C dX8_goesText_52 (Or.inr rfl) ⟨hOM5, (Or.inr rfl)⟩ ⟨Nat.le_refl _, Nat.le_refl _⟩
    · rw [if_pos c3] at h
      refine mx_iconst (pc := 28) C dX8_goesText_28 (z := 0) rfl (by constructor <;> decide) ?_
      rw [← Option.some.inj h]
      exact mx_zreturn (pc := 29) C dX8_goesText_29 (Or.inl rfl) ⟨hOq1, (Or.inl rfl)⟩ ⟨Nat.le_refl _, Nat.le_refl _⟩
set_option maxRecDepth 20000 in
set_option maxHeartbeats 4000000 in
theorem m_X8_goesText {p1 : Int} {M : Mem} {res : Int × Mem} (hOM : OK M) (h : f_X8_goesText p1 M = some res) : Mth false yX8_goesText cX8_goesText 3 (some .boolean) 7 0 0 SH [aR 127, aI p1] M (some (aI res.1)) SH res.2 (OK res.2 ∧ (res.1 = 0 ∨ res.1 = 1)) := by
  refine Mth.of (by decide +kernel) (Nat.le_of_ble_eq_true rfl) (fun K B C => ?_)
  show Wx K B _ 0 0 SH 3 M 0 [some (aR 127), some (aI p1), none] []
  unfold f_X8_goesText at h
  refine mx_aload_n (pc := 0) C dX8_goesText_0 rfl ?_
  refine mx_iconst (pc := 1) C dX8_goesText_1 (z := 0) rfl (by constructor <;> decide) ?_
  refine mx_putI (pc := 2) C dX8_goesText_2 so_8 ci_8 (k := 10) (by decide) fl_X8_41 (Or.inl rfl) rfl (q := 10) rfl ?_
  generalize hmM1 : stM M 127 10 0 = M1 at h ⊢
  replace h := lt_e h
  have hOM1 : OK M1 := by rw [← hmM1]; exact okf_8_10 hOM
  refine mx_aload_n (pc := 5) C dX8_goesText_5 rfl ?_
  refine mx_bipush (pc := 6) C dX8_goesText_6 (z := 100) rfl (by constructor <;> decide) ?_
  refine mx_iload_n (pc := 8) C dX8_goesText_8 rfl ?_
  refine mx_imul (pc := 9) C dX8_goesText_9  ?_
  refine mx_putI (pc := 10) C dX8_goesText_10 so_8 ci_8 (k := 20) (by decide) fl_X8_71 (Or.inl rfl) rfl (q := 20) rfl ?_
  generalize hmM2 : stM M1 127 20 (w32 (100 * p1)) = M2 at h ⊢
  replace h := lt_e h
  have hOM2 : OK M2 := by rw [← hmM2]; exact okf_8_20 hOM1
  refine mx_iconst (pc := 13) C dX8_goesText_13 (z := 0) rfl (by constructor <;> decide) ?_
  refine mx_istore_n (pc := 14) C dX8_goesText_14 (ls' := [some (aR 127), some (aI p1), some (aI 0)]) (by decide) rfl rfl ?_
  exact b_X8_goesText_15 C FU p1 0 M2 hOM2 h

def f_X8_street (M : Mem) : Option (Int × Mem) :=
  if M 127 7 = 6 then some ((-4), M) else (f_X8_goesText (M 127 7) M).bind (fun q2 => lt (stM q2.2 127 9 0) (fun M4 => if q2.1 = 0 then some (w32 ((-10) - (M4 127 10)), M4) else lt (stM M4 127 8 (M4 127 7)) (fun M6 => lt (stM M6 127 7 (w32 ((M6 127 7) + 1))) (fun M7 => some (M7 127 8, M7)))))
set_option maxRecDepth 20000 in
set_option maxHeartbeats 4000000 in
theorem m_X8_street {M : Mem} {res : Int × Mem} (hOM : OK M) (h : f_X8_street M = some res) : Mth false yX8_street cX8_street 2 (some .int) 8 0 0 SH [aR 127] M (some (aI res.1)) SH res.2 (OK res.2) := by
  refine Mth.of (by decide +kernel) (Nat.le_of_ble_eq_true rfl) (fun K B C => ?_)
  show Wx K B _ 0 0 SH 2 M 0 [some (aR 127), none] []
  unfold f_X8_street at h
  refine mx_aload_n (pc := 0) C dX8_street_0 rfl ?_
  refine mx_getI (pc := 1) C dX8_street_1 so_8 ci_8 (k := 7) (by decide) fl_X8_32 rfl (q := 7) rfl ?_
  refine mx_bipush (pc := 4) C dX8_street_4 (z := 6) rfl (by constructor <;> decide) ?_
  refine mx_icmp_ne (pc := 6) (tgt := 12) C dX8_street_6 rfl (fun c1 => ?_) (fun c1 => ?_)
  · rw [if_neg c1] at h
    refine mx_aload_n (pc := 12) C dX8_street_12 rfl ?_
    refine mx_aload_n (pc := 13) C dX8_street_13 rfl ?_
    refine mx_getI (pc := 14) C dX8_street_14 so_8 ci_8 (k := 7) (by decide) fl_X8_32 rfl (q := 7) rfl ?_
    obtain ⟨q2, hq2, h⟩ := of_bd h
    refine mc_V (pc := 17) (as := [aI (M 127 7)]) (rest := []) (stk2 := [aI q2.1]) C ⟨Nat.le_refl _, Nat.le_refl _⟩ (m_X8_goesText hOM hq2) mi_X8_goesText mv_X8_goesText ml_X8_289 ci_8 rfl so_8 (by omega) rfl (Nat.le_of_ble_eq_true rfl) dX8_street_17 rfl (fun hp3 => ?_)
    have hOq2 : OK q2.2 := hp3.1
    refine mx_istore_n (pc := 20) C dX8_street_20 (ls' := [some (aR 127), some (aI q2.1)]) (by decide) rfl rfl ?_
    refine mx_aload_n (pc := 21) C dX8_street_21 rfl ?_
    refine mx_iconst (pc := 22) C dX8_street_22 (z := 0) rfl (by constructor <;> decide) ?_
    refine mx_putI (pc := 23) C dX8_street_23 so_8 ci_8 (k := 9) (by decide) fl_X8_38 (Or.inl rfl) rfl (q := 9) rfl ?_
    generalize hmM4 : stM q2.2 127 9 0 = M4 at h ⊢
    replace h := lt_e h
    have hOM4 : OK M4 := by rw [← hmM4]; exact okf_8_9 hOq2
    refine mx_iload_n (pc := 26) C dX8_street_26 rfl ?_
    refine mx_if_ne (pc := 27) (tgt := 38) C dX8_street_27 rfl (fun c5 => ?_) (fun c5 => ?_)
    · rw [if_neg c5] at h
      refine mx_aload_n (pc := 38) C dX8_street_38 rfl ?_
      refine mx_aload_n (pc := 39) C dX8_street_39 rfl ?_
      refine mx_getI (pc := 40) C dX8_street_40 so_8 ci_8 (k := 7) (by decide) fl_X8_32 rfl (q := 7) rfl ?_
      refine mx_putI (pc := 43) C dX8_street_43 so_8 ci_8 (k := 8) (by decide) fl_X8_35 (Or.inl rfl) rfl (q := 8) rfl ?_
      generalize hmM6 : stM M4 127 8 (M4 127 7) = M6 at h ⊢
      replace h := lt_e h
      have hOM6 : OK M6 := by rw [← hmM6]; exact okf_8_8 hOM4
      refine mx_aload_n (pc := 46) C dX8_street_46 rfl ?_
      refine mx_dup (pc := 47) C dX8_street_47 rfl ?_
      refine mx_getI (pc := 48) C dX8_street_48 so_8 ci_8 (k := 7) (by decide) fl_X8_32 rfl (q := 7) rfl ?_
      refine mx_iconst (pc := 51) C dX8_street_51 (z := 1) rfl (by constructor <;> decide) ?_
      refine mx_iadd (pc := 52) C dX8_street_52  ?_
      refine mx_putI (pc := 53) C dX8_street_53 so_8 ci_8 (k := 7) (by decide) fl_X8_32 (Or.inl rfl) rfl (q := 7) rfl ?_
      generalize hmM7 : stM M6 127 7 (w32 ((M6 127 7) + 1)) = M7 at h ⊢
      replace h := lt_e h
      have hOM7 : OK M7 := by rw [← hmM7]; exact okf_8_7 hOM6
      refine mx_aload_n (pc := 56) C dX8_street_56 rfl ?_
      refine mx_getI (pc := 57) C dX8_street_57 so_8 ci_8 (k := 8) (by decide) fl_X8_35 rfl (q := 8) rfl ?_
      rw [← Option.some.inj h]
      exact mx_ireturn (pc := 60) C dX8_street_60 hOM7 ⟨Nat.le_refl _, Nat.le_refl _⟩
    · rw [if_pos c5] at h
      refine mx_bipush (pc := 30) C dX8_street_30 (z := (-10)) rfl (by constructor <;> decide) ?_
      refine mx_aload_n (pc := 32) C dX8_street_32 rfl ?_
      refine mx_getI (pc := 33) C dX8_street_33 so_8 ci_8 (k := 10) (by decide) fl_X8_41 rfl (q := 10) rfl ?_
      refine mx_isub (pc := 36) C dX8_street_36  ?_
      rw [← Option.some.inj h]
      exact mx_ireturn (pc := 37) C dX8_street_37 hOM4 ⟨Nat.le_refl _, Nat.le_refl _⟩
  · rw [if_pos c1] at h
    refine mx_bipush (pc := 9) C dX8_street_9 (z := (-4)) rfl (by constructor <;> decide) ?_
    rw [← Option.some.inj h]
    exact mx_ireturn (pc := 11) C dX8_street_11 hOM ⟨Nat.le_refl _, Nat.le_refl _⟩

def f_X8_calm (M : Mem) : Option (Int × Mem) :=
  (f_X8_lastOf 3 10 M).bind (fun q1 => some (q1.1, q1.2))
set_option maxRecDepth 20000 in
set_option maxHeartbeats 4000000 in
theorem m_X8_calm {M : Mem} {res : Int × Mem} (hOM : OK M) (h : f_X8_calm M = some res) : Mth false yX8_calm cX8_calm 1 (some .int) 3 0 0 SH [aR 127] M (some (aI res.1)) SH res.2 (OK res.2) := by
  refine Mth.of (by decide +kernel) (Nat.le_of_ble_eq_true rfl) (fun K B C => ?_)
  show Wx K B _ 0 0 SH 1 M 0 [some (aR 127)] []
  unfold f_X8_calm at h
  refine mx_aload_n (pc := 0) C dX8_calm_0 rfl ?_
  refine mx_iconst (pc := 1) C dX8_calm_1 (z := 3) rfl (by constructor <;> decide) ?_
  refine mx_bipush (pc := 2) C dX8_calm_2 (z := 10) rfl (by constructor <;> decide) ?_
  obtain ⟨q1, hq1, h⟩ := of_bd h
  refine mc_V (pc := 4) (as := [aI 3, aI 10]) (rest := []) (stk2 := [aI q1.1]) C ⟨Nat.le_refl _, Nat.le_refl _⟩ (m_X8_lastOf hOM hq1) mi_X8_lastOf mv_X8_lastOf ml_X8_298 ci_8 rfl so_8 (by omega) rfl (Nat.le_of_ble_eq_true rfl) dX8_calm_4 rfl (fun hp2 => ?_)
  have hOq1 : OK q1.2 := hp2
  rw [← Option.some.inj h]
  exact mx_ireturn (pc := 7) C dX8_calm_7 hOq1 ⟨Nat.le_refl _, Nat.le_refl _⟩

def f_X8_wear (M : Mem) : Option (Int × Mem) :=
  (f_X8_lastOf 4 1 M).bind (fun q1 => some (q1.1, q1.2))
set_option maxRecDepth 20000 in
set_option maxHeartbeats 4000000 in
theorem m_X8_wear {M : Mem} {res : Int × Mem} (hOM : OK M) (h : f_X8_wear M = some res) : Mth false yX8_wear cX8_wear 1 (some .int) 3 0 0 SH [aR 127] M (some (aI res.1)) SH res.2 (OK res.2) := by
  refine Mth.of (by decide +kernel) (Nat.le_of_ble_eq_true rfl) (fun K B C => ?_)
  show Wx K B _ 0 0 SH 1 M 0 [some (aR 127)] []
  unfold f_X8_wear at h
  refine mx_aload_n (pc := 0) C dX8_wear_0 rfl ?_
  refine mx_iconst (pc := 1) C dX8_wear_1 (z := 4) rfl (by constructor <;> decide) ?_
  refine mx_iconst (pc := 2) C dX8_wear_2 (z := 1) rfl (by constructor <;> decide) ?_
  obtain ⟨q1, hq1, h⟩ := of_bd h
  refine mc_V (pc := 3) (as := [aI 4, aI 1]) (rest := []) (stk2 := [aI q1.1]) C ⟨Nat.le_refl _, Nat.le_refl _⟩ (m_X8_lastOf hOM hq1) mi_X8_lastOf mv_X8_lastOf ml_X8_298 ci_8 rfl so_8 (by omega) rfl (Nat.le_of_ble_eq_true rfl) dX8_wear_3 rfl (fun hp2 => ?_)
  have hOq1 : OK q1.2 := hp2
  rw [← Option.some.inj h]
  exact mx_ireturn (pc := 6) C dX8_wear_6 hOq1 ⟨Nat.le_refl _, Nat.le_refl _⟩

def f_X8_heard (p1 : Int) (p2 : Int) (M : Mem) : Option (Int × Mem) :=
  (f_X8_isLost p1 M).bind (fun q1 => if q1.1 = 0 then if 0 ≤ p1 ∧ p1 < 6 then (f_X8_voice p1 (q1.2 131 p1) q1.2).bind (fun q5 => (f_X8_heardBy p1 q5.1 p2 q5.2).bind (fun q7 => some (q7.1, q7.2))) else none else some (0, q1.2))
set_option maxRecDepth 20000 in
set_option maxHeartbeats 4000000 in
theorem m_X8_heard {p1 : Int} {p2 : Int} {M : Mem} {res : Int × Mem} (hOM : OK M) (h : f_X8_heard p1 p2 M = some res) : Mth false yX8_heard cX8_heard 3 (some .int) 5 0 0 SH [aR 127, aI p1, aI p2] M (some (aI res.1)) SH res.2 (OK res.2) := by
  refine Mth.of (by decide +kernel) (Nat.le_of_ble_eq_true rfl) (fun K B C => ?_)
  show Wx K B _ 0 0 SH 3 M 0 [some (aR 127), some (aI p1), some (aI p2)] []
  unfold f_X8_heard at h
  refine mx_aload_n (pc := 0) C dX8_heard_0 rfl ?_
  refine mx_iload_n (pc := 1) C dX8_heard_1 rfl ?_
  obtain ⟨q1, hq1, h⟩ := of_bd h
  refine mc_V (pc := 2) (as := [aI p1]) (rest := []) (stk2 := [aI q1.1]) C ⟨Nat.le_refl _, Nat.le_refl _⟩ (m_X8_isLost hOM hq1) mi_X8_isLost mv_X8_isLost ml_X8_232 ci_8 rfl so_8 (by omega) rfl (Nat.le_of_ble_eq_true rfl) dX8_heard_2 rfl (fun hp2 => ?_)
  have hOq1 : OK q1.2 := hp2.1
  refine mx_if_eq (pc := 5) (tgt := 12) C dX8_heard_5 rfl (fun c3 => ?_) (fun c3 => ?_)
  · rw [if_pos c3] at h
    refine mx_aload_n (pc := 12) C dX8_heard_12 rfl ?_
    refine mx_iload_n (pc := 13) C dX8_heard_13 rfl ?_
    refine mx_aload_n (pc := 14) C dX8_heard_14 rfl ?_
    refine mx_iload_n (pc := 15) C dX8_heard_15 rfl ?_
    refine mx_aload_n (pc := 16) C dX8_heard_16 rfl ?_
    refine mx_getR (pc := 17) (v := 131) C dX8_heard_17 so_8 ci_8 (k := 5) (by decide) fl_X8_26 rfl (q := 5) rfl (lay_8_5 hOq1) (by decide) ?_
    refine mx_iload_n (pc := 20) C dX8_heard_20 rfl ?_
    obtain ⟨g4, h⟩ := of_gd h
    refine mx_iald (pc := 21) C dX8_heard_21 sh_8_5 g4.1 g4.2 ?_
    obtain ⟨q5, hq5, h⟩ := of_bd h
    refine mc_V (pc := 22) (as := [aI p1, aI (q1.2 131 p1)]) (rest := [aI p1, aR 127]) (stk2 := [aI q5.1, aI p1, aR 127]) C ⟨Nat.le_refl _, Nat.le_refl _⟩ (m_X8_voice hOq1 hq5) mi_X8_voice mv_X8_voice ml_X8_314 ci_8 rfl so_8 (by omega) rfl (Nat.le_of_ble_eq_true rfl) dX8_heard_22 rfl (fun hp6 => ?_)
    have hOq5 : OK q5.2 := hp6
    refine mx_iload_n (pc := 25) C dX8_heard_25 rfl ?_
    obtain ⟨q7, hq7, h⟩ := of_bd h
    refine mc_V (pc := 26) (as := [aI p1, aI q5.1, aI p2]) (rest := []) (stk2 := [aI q7.1]) C ⟨Nat.le_refl _, Nat.le_refl _⟩ (m_X8_heardBy hOq5 hq7) mi_X8_heardBy mv_X8_heardBy ml_X8_317 ci_8 rfl so_8 (by omega) rfl (Nat.le_of_ble_eq_true rfl) dX8_heard_26 rfl (fun hp8 => ?_)
    have hOq7 : OK q7.2 := hp8
    rw [← Option.some.inj h]
    exact mx_ireturn (pc := 29) C dX8_heard_29 hOq7 ⟨Nat.le_refl _, Nat.le_refl _⟩
  · rw [if_neg c3] at h
    refine mx_iconst (pc := 8) C dX8_heard_8 (z := 0) rfl (by constructor <;> decide) ?_
    refine mx_goto (pc := 9) (tgt := 29) C dX8_heard_9 rfl ?_
    rw [← Option.some.inj h]
    exact mx_ireturn (pc := 29) C dX8_heard_29 hOq1 ⟨Nat.le_refl _, Nat.le_refl _⟩

def f_X8_greatestLaid_29 (k4 : Int → Int → Mem → Option (Int × Mem)) (x2 : Int) (t0 : Int) (M : Mem) : Option (Int × Mem) :=
  k4 t0 (w32 (x2 + 1)) M
def f_X8_greatestLaid_4 : Nat → Int → Int → Mem → Option (Int × Mem)
  | 0, _, _, _ => none
  | n + 1, x1, x2, M => if 5 ≤ x2 then some (x1, M) else if 0 ≤ x2 ∧ x2 < 5 then if M 143 x2 ≤ x1 then f_X8_greatestLaid_29 (f_X8_greatestLaid_4 n) x2 x1 M else if 0 ≤ x2 ∧ x2 < 5 then f_X8_greatestLaid_29 (f_X8_greatestLaid_4 n) x2 (M 143 x2) M else none else none
def f_X8_greatestLaid (M : Mem) : Option (Int × Mem) :=
  f_X8_greatestLaid_4 FU 0 0 M
set_option maxRecDepth 20000 in
set_option maxHeartbeats 4000000 in
theorem b_X8_greatestLaid_29 {K : KX} {B : BX} {res : Int × Mem} {k4 : Int → Int → Mem → Option (Int × Mem)} (C : Cx K B false yX8_greatestLaid cX8_greatestLaid 3 (some .int) 1 0 0) (hk4 : ∀ (x1 : Int) (x2 : Int) (M : Mem), OK M → k4 x1 x2 M = some res → Wx K B (Zr K B (some (aI res.1)) SH res.2 (OK res.2) 0 0) 0 0 SH 3 M 4 [some (aR 127), some (aI x1), some (aI x2)] []) : ∀ (x2 : Int) (t0 : Int) (M : Mem), OK M → f_X8_greatestLaid_29 k4 x2 t0 M = some res → Wx K B (Zr K B (some (aI res.1)) SH res.2 (OK res.2) 0 0) 0 0 SH 3 M 29 [some (aR 127), none, some (aI x2)] [aI t0] := by
  intro x2 t0 M hOM h
  unfold f_X8_greatestLaid_29 at h
  refine mx_istore_n (pc := 29) C dX8_greatestLaid_29 (ls' := [some (aR 127), some (aI t0), some (aI x2)]) (by decide) rfl rfl ?_
  refine mx_iinc (pc := 30) C dX8_greatestLaid_30 (ls' := [some (aR 127), some (aI t0), some (aI (w32 (x2 + 1)))]) rfl (by decide) rfl (by constructor <;> decide) rfl rfl ?_
  refine mx_goto (pc := 33) (tgt := 4) C dX8_greatestLaid_33 rfl ?_
  exact hk4 t0 (w32 (x2 + 1)) M hOM h
set_option maxRecDepth 20000 in
set_option maxHeartbeats 4000000 in
theorem b_X8_greatestLaid_4 {K : KX} {B : BX} {res : Int × Mem} (C : Cx K B false yX8_greatestLaid cX8_greatestLaid 3 (some .int) 1 0 0) : ∀ (n : Nat) (x1 : Int) (x2 : Int) (M : Mem), OK M → f_X8_greatestLaid_4 n x1 x2 M = some res → Wx K B (Zr K B (some (aI res.1)) SH res.2 (OK res.2) 0 0) 0 0 SH 3 M 4 [some (aR 127), some (aI x1), some (aI x2)] [] := by
  intro n
  induction n with
  | zero =>
    intro x1 x2 M hOM h
    cases h
  | succ n ih =>
    intro x1 x2 M hOM h
    rw [f_X8_greatestLaid_4.eq_2] at h
    refine mx_iload_n (pc := 4) C dX8_greatestLaid_4 rfl ?_
    refine mx_iconst (pc := 5) C dX8_greatestLaid_5 (z := 5) rfl (by constructor <;> decide) ?_
    refine mx_icmp_ge (pc := 6) (tgt := 36) C dX8_greatestLaid_6 rfl (fun c1 => ?_) (fun c1 => ?_)
    · rw [if_pos c1] at h
      refine mx_iload_n (pc := 36) C dX8_greatestLaid_36 rfl ?_
      rw [← Option.some.inj h]
      exact mx_ireturn (pc := 37) C dX8_greatestLaid_37 hOM ⟨Nat.le_refl _, Nat.le_refl _⟩
    · rw [if_neg c1] at h
      refine mx_aload_n (pc := 9) C dX8_greatestLaid_9 rfl ?_
      refine mx_getR (pc := 10) (v := 143) C dX8_greatestLaid_10 so_8 ci_8 (k := 25) (by decide) fl_X8_87 rfl (q := 25) rfl (lay_8_25 hOM) (by decide) ?_
      refine mx_iload_n (pc := 13) C dX8_greatestLaid_13 rfl ?_
      obtain ⟨g2, h⟩ := of_gd h
      refine mx_iald (pc := 14) C dX8_greatestLaid_14 sh_8_25 g2.1 g2.2 ?_
      refine mx_iload_n (pc := 15) C dX8_greatestLaid_15 rfl ?_
      refine mx_icmp_le (pc := 16) (tgt := 28) C dX8_greatestLaid_16 rfl (fun c3 => ?_) (fun c3 => ?_)
      · rw [if_pos c3] at h
        refine mx_iload_n (pc := 28) C dX8_greatestLaid_28 rfl ?_
        refine mx_mask [true, false, true] (ls' := [some (aR 127), none, some (aI x2)]) rfl rfl ?_
        exact b_X8_greatestLaid_29 C ih x2 x1 M hOM h
      · rw [if_neg c3] at h
        refine mx_aload_n (pc := 19) C dX8_greatestLaid_19 rfl ?_
        refine mx_getR (pc := 20) (v := 143) C dX8_greatestLaid_20 so_8 ci_8 (k := 25) (by decide) fl_X8_87 rfl (q := 25) rfl (lay_8_25 hOM) (by decide) ?_
        refine mx_iload_n (pc := 23) C dX8_greatestLaid_23 rfl ?_
        obtain ⟨g4, h⟩ := of_gd h
        refine mx_iald (pc := 24) C dX8_greatestLaid_24 sh_8_25 g4.1 g4.2 ?_
        refine mx_goto (pc := 25) (tgt := 29) C dX8_greatestLaid_25 rfl ?_
        refine mx_mask [true, false, true] (ls' := [some (aR 127), none, some (aI x2)]) rfl rfl ?_
        exact b_X8_greatestLaid_29 C ih x2 (M 143 x2) M hOM h
set_option maxRecDepth 20000 in
set_option maxHeartbeats 4000000 in
theorem m_X8_greatestLaid {M : Mem} {res : Int × Mem} (hOM : OK M) (h : f_X8_greatestLaid M = some res) : Mth false yX8_greatestLaid cX8_greatestLaid 3 (some .int) 1 0 0 SH [aR 127] M (some (aI res.1)) SH res.2 (OK res.2) := by
  refine Mth.of (by decide +kernel) (Nat.le_of_ble_eq_true rfl) (fun K B C => ?_)
  show Wx K B _ 0 0 SH 3 M 0 [some (aR 127), none, none] []
  unfold f_X8_greatestLaid at h
  refine mx_iconst (pc := 0) C dX8_greatestLaid_0 (z := 0) rfl (by constructor <;> decide) ?_
  refine mx_istore_n (pc := 1) C dX8_greatestLaid_1 (ls' := [some (aR 127), some (aI 0), none]) (by decide) rfl rfl ?_
  refine mx_iconst (pc := 2) C dX8_greatestLaid_2 (z := 0) rfl (by constructor <;> decide) ?_
  refine mx_istore_n (pc := 3) C dX8_greatestLaid_3 (ls' := [some (aR 127), some (aI 0), some (aI 0)]) (by decide) rfl rfl ?_
  exact b_X8_greatestLaid_4 C FU 0 0 M hOM h

def f_X8_greatest (M : Mem) : Option (Int × Mem) :=
  (f_X8_layNoises M).bind (fun q1 => (f_X8_greatestLaid q1.2).bind (fun q3 => some (q3.1, q3.2)))
set_option maxRecDepth 20000 in
set_option maxHeartbeats 4000000 in
theorem m_X8_greatest {M : Mem} {res : Int × Mem} (hOM : OK M) (h : f_X8_greatest M = some res) : Mth false yX8_greatest cX8_greatest 1 (some .int) 6 0 0 SH [aR 127] M (some (aI res.1)) SH res.2 (OK res.2) := by
  refine Mth.of (by decide +kernel) (Nat.le_of_ble_eq_true rfl) (fun K B C => ?_)
  show Wx K B _ 0 0 SH 1 M 0 [some (aR 127)] []
  unfold f_X8_greatest at h
  refine mx_aload_n (pc := 0) C dX8_greatest_0 rfl ?_
  obtain ⟨q1, hq1, h⟩ := of_bd h
  refine mc_V (pc := 1) (as := []) (rest := []) (stk2 := []) C ⟨Nat.le_refl _, Nat.le_refl _⟩ (m_X8_layNoises hOM hq1) mi_X8_layNoises mv_X8_layNoises ml_X8_320 ci_8 rfl so_8 (by omega) rfl (Nat.le_of_ble_eq_true rfl) dX8_greatest_1 rfl (fun hp2 => ?_)
  have hOq1 : OK q1.2 := hp2
  refine mx_aload_n (pc := 4) C dX8_greatest_4 rfl ?_
  obtain ⟨q3, hq3, h⟩ := of_bd h
  refine mc_V (pc := 5) (as := []) (rest := []) (stk2 := [aI q3.1]) C ⟨Nat.le_refl _, Nat.le_refl _⟩ (m_X8_greatestLaid hOq1 hq3) mi_X8_greatestLaid mv_X8_greatestLaid ml_X8_323 ci_8 rfl so_8 (by omega) rfl (Nat.le_of_ble_eq_true rfl) dX8_greatest_5 rfl (fun hp4 => ?_)
  have hOq3 : OK q3.2 := hp4
  rw [← Option.some.inj h]
  exact mx_ireturn (pc := 8) C dX8_greatest_8 hOq3 ⟨Nat.le_refl _, Nat.le_refl _⟩

def f_X8_stillSet_34 (k8 : Int → Int → Mem → Option (Int × Mem)) (x2 : Int) (t0 : Int) (t1 : Int) (M : Mem) : Option (Int × Mem) :=
  k8 (or32 t0 t1) (w32 (x2 + 1)) M
def f_X8_stillSet_8 : Nat → Int → Int → Mem → Option (Int × Mem)
  | 0, _, _, _ => none
  | n + 1, x1, x2, M => if 5 ≤ x2 then some (x1, M) else if 0 ≤ x2 ∧ x2 < 5 then (f_X8_calm M).bind (fun q3 => if q3.1 < M 143 x2 then f_X8_stillSet_34 (f_X8_stillSet_8 n) x2 x1 0 q3.2 else f_X8_stillSet_34 (f_X8_stillSet_8 n) x2 x1 (shl32 1 x2) q3.2) else none
def f_X8_stillSet (M : Mem) : Option (Int × Mem) :=
  (f_X8_layNoises M).bind (fun q1 => f_X8_stillSet_8 FU 0 0 q1.2)
set_option maxRecDepth 20000 in
set_option maxHeartbeats 4000000 in
theorem b_X8_stillSet_34 {K : KX} {B : BX} {res : Int × Mem} {k8 : Int → Int → Mem → Option (Int × Mem)} (C : Cx K B false yX8_stillSet cX8_stillSet 3 (some .int) 6 0 0) (hk8 : ∀ (x1 : Int) (x2 : Int) (M : Mem), OK M → k8 x1 x2 M = some res → Wx K B (Zr K B (some (aI res.1)) SH res.2 (OK res.2) 0 0) 0 0 SH 3 M 8 [some (aR 127), some (aI x1), some (aI x2)] []) : ∀ (x2 : Int) (t0 : Int) (t1 : Int) (M : Mem), OK M → f_X8_stillSet_34 k8 x2 t0 t1 M = some res → Wx K B (Zr K B (some (aI res.1)) SH res.2 (OK res.2) 0 0) 0 0 SH 3 M 34 [some (aR 127), none, some (aI x2)] [aI t1, aI t0] := by
  intro x2 t0 t1 M hOM h
  unfold f_X8_stillSet_34 at h
  refine mx_ior (pc := 34) C dX8_stillSet_34  ?_
  refine mx_istore_n (pc := 35) C dX8_stillSet_35 (ls' := [some (aR 127), some (aI (or32 t0 t1)), some (aI x2)]) (by decide) rfl rfl ?_
  refine mx_iinc (pc := 36) C dX8_stillSet_36 (ls' := [some (aR 127), some (aI (or32 t0 t1)), some (aI (w32 (x2 + 1)))]) rfl (by decide) rfl (by constructor <;> decide) rfl rfl ?_
  refine mx_goto (pc := 39) (tgt := 8) C dX8_stillSet_39 rfl ?_
  exact hk8 (or32 t0 t1) (w32 (x2 + 1)) M hOM h
set_option maxRecDepth 20000 in
set_option maxHeartbeats 4000000 in
theorem b_X8_stillSet_8 {K : KX} {B : BX} {res : Int × Mem} (C : Cx K B false yX8_stillSet cX8_stillSet 3 (some .int) 6 0 0) : ∀ (n : Nat) (x1 : Int) (x2 : Int) (M : Mem), OK M → f_X8_stillSet_8 n x1 x2 M = some res → Wx K B (Zr K B (some (aI res.1)) SH res.2 (OK res.2) 0 0) 0 0 SH 3 M 8 [some (aR 127), some (aI x1), some (aI x2)] [] := by
  intro n
  induction n with
  | zero =>
    intro x1 x2 M hOM h
    cases h
  | succ n ih =>
    intro x1 x2 M hOM h
    rw [f_X8_stillSet_8.eq_2] at h
    refine mx_iload_n (pc := 8) C dX8_stillSet_8 rfl ?_
    refine mx_iconst (pc := 9) C dX8_stillSet_9 (z := 5) rfl (by constructor <;> decide) ?_
    refine mx_icmp_ge (pc := 10) (tgt := 42) C dX8_stillSet_10 rfl (fun c1 => ?_) (fun c1 => ?_)
    · rw [if_pos c1] at h
      refine mx_iload_n (pc := 42) C dX8_stillSet_42 rfl ?_
      rw [← Option.some.inj h]
      exact mx_ireturn (pc := 43) C dX8_stillSet_43 hOM ⟨Nat.le_refl _, Nat.le_refl _⟩
    · rw [if_neg c1] at h
      refine mx_iload_n (pc := 13) C dX8_stillSet_13 rfl ?_
      refine mx_aload_n (pc := 14) C dX8_stillSet_14 rfl ?_
      refine mx_getR (pc := 15) (v := 143) C dX8_stillSet_15 so_8 ci_8 (k := 25) (by decide) fl_X8_87 rfl (q := 25) rfl (lay_8_25 hOM) (by decide) ?_
      refine mx_iload_n (pc := 18) C dX8_stillSet_18 rfl ?_
      obtain ⟨g2, h⟩ := of_gd h
      refine mx_iald (pc := 19) C dX8_stillSet_19 sh_8_25 g2.1 g2.2 ?_
      refine mx_aload_n (pc := 20) C dX8_stillSet_20 rfl ?_
      obtain ⟨q3, hq3, h⟩ := of_bd h
      refine mc_V (pc := 21) (as := []) (rest := [aI (M 143 x2), aI x1]) (stk2 := [aI q3.1, aI (M 143 x2), aI x1]) C ⟨Nat.le_refl _, Nat.le_refl _⟩ (m_X8_calm hOM hq3) mi_X8_calm mv_X8_calm ml_X8_326 ci_8 rfl so_8 (by omega) rfl (Nat.le_of_ble_eq_true rfl) dX8_stillSet_21 rfl (fun hp4 => ?_)
      have hOq3 : OK q3.2 := hp4
      refine mx_icmp_gt (pc := 24) (tgt := 33) C dX8_stillSet_24 rfl (fun c5 => ?_) (fun c5 => ?_)
      · rw [if_pos c5] at h
        refine mx_iconst (pc := 33) C dX8_stillSet_33 (z := 0) rfl (by constructor <;> decide) ?_
        refine mx_mask [true, false, true] (ls' := [some (aR 127), none, some (aI x2)]) rfl rfl ?_
        exact b_X8_stillSet_34 C ih x2 x1 0 q3.2 hOq3 h
      · rw [if_neg c5] at h
        refine mx_iconst (pc := 27) C dX8_stillSet_27 (z := 1) rfl (by constructor <;> decide) ?_
        refine mx_iload_n (pc := 28) C dX8_stillSet_28 rfl ?_
        refine mx_ishl (pc := 29) C dX8_stillSet_29  ?_
        refine mx_goto (pc := 30) (tgt := 34) C dX8_stillSet_30 rfl ?_
        refine mx_mask [true, false, true] (ls' := [some (aR 127), none, some (aI x2)]) rfl rfl ?_
        exact b_X8_stillSet_34 C ih x2 x1 (shl32 1 x2) q3.2 hOq3 h
set_option maxRecDepth 20000 in
set_option maxHeartbeats 4000000 in
theorem m_X8_stillSet {M : Mem} {res : Int × Mem} (hOM : OK M) (h : f_X8_stillSet M = some res) : Mth false yX8_stillSet cX8_stillSet 3 (some .int) 6 0 0 SH [aR 127] M (some (aI res.1)) SH res.2 (OK res.2) := by
  refine Mth.of (by decide +kernel) (Nat.le_of_ble_eq_true rfl) (fun K B C => ?_)
  show Wx K B _ 0 0 SH 3 M 0 [some (aR 127), none, none] []
  unfold f_X8_stillSet at h
  refine mx_aload_n (pc := 0) C dX8_stillSet_0 rfl ?_
  obtain ⟨q1, hq1, h⟩ := of_bd h
  refine mc_V (pc := 1) (as := []) (rest := []) (stk2 := []) C ⟨Nat.le_refl _, Nat.le_refl _⟩ (m_X8_layNoises hOM hq1) mi_X8_layNoises mv_X8_layNoises ml_X8_320 ci_8 rfl so_8 (by omega) rfl (Nat.le_of_ble_eq_true rfl) dX8_stillSet_1 rfl (fun hp2 => ?_)
  have hOq1 : OK q1.2 := hp2
  refine mx_iconst (pc := 4) C dX8_stillSet_4 (z := 0) rfl (by constructor <;> decide) ?_
  refine mx_istore_n (pc := 5) C dX8_stillSet_5 (ls' := [some (aR 127), some (aI 0), none]) (by decide) rfl rfl ?_
  refine mx_iconst (pc := 6) C dX8_stillSet_6 (z := 0) rfl (by constructor <;> decide) ?_
  refine mx_istore_n (pc := 7) C dX8_stillSet_7 (ls' := [some (aR 127), some (aI 0), some (aI 0)]) (by decide) rfl rfl ?_
  exact b_X8_stillSet_8 C FU 0 0 q1.2 hOq1 h

def f_X8_wears (p1 : Int) (M : Mem) : Option (Int × Mem) :=
  if 0 ≤ p1 ∧ p1 < 6 then if M 128 p1 = 1 then (f_X8_wear M).bind (fun q3 => some (w32 (Int.tdiv q3.1 2), q3.2)) else if M 128 p1 = 4 then (f_X8_wear M).bind (fun q6 => some (w32 (Int.tdiv q6.1 2), q6.2)) else if M 128 p1 = 6 then if Int.tmod (M 127 1) 2 = 0 then some (0, M) else (f_X8_wear M).bind (fun q10 => some (q10.1, q10.2)) else (f_X8_wear M).bind (fun q12 => some (q12.1, q12.2)) else none
set_option maxRecDepth 20000 in
set_option maxHeartbeats 4000000 in
theorem m_X8_wears {p1 : Int} {M : Mem} {res : Int × Mem} (hOM : OK M) (h : f_X8_wears p1 M = some res) : Mth false yX8_wears cX8_wears 2 (some .int) 4 0 0 SH [aR 127, aI p1] M (some (aI res.1)) SH res.2 (OK res.2) := by
  refine Mth.of (by decide +kernel) (Nat.le_of_ble_eq_true rfl) (fun K B C => ?_)
  show Wx K B _ 0 0 SH 2 M 0 [some (aR 127), some (aI p1)] []
  unfold f_X8_wears at h
  refine mx_aload_n (pc := 0) C dX8_wears_0 rfl ?_
  refine mx_getR (pc := 1) (v := 128) C dX8_wears_1 so_8 ci_8 (k := 2) (by decide) fl_X8_16 rfl (q := 2) rfl (lay_8_2 hOM) (by decide) ?_
  refine mx_iload_n (pc := 4) C dX8_wears_4 rfl ?_
  obtain ⟨g1, h⟩ := of_gd h
  refine mx_iald (pc := 5) C dX8_wears_5 sh_8_2 g1.1 g1.2 ?_
  by_cases c2 : M 128 p1 = 1
  · rw [if_pos c2] at h
    refine mx_lsw (pc := 6) (tgt := 40) (off := 34) C dX8_wears_6 (by decide) (by rw [c2]; rfl) rfl ?_
    refine mx_aload_n (pc := 40) C dX8_wears_40 rfl ?_
    obtain ⟨q3, hq3, h⟩ := of_bd h
    refine mc_V (pc := 41) (as := []) (rest := []) (stk2 := [aI q3.1]) C ⟨Nat.le_refl _, Nat.le_refl _⟩ (m_X8_wear hOM hq3) mi_X8_wear mv_X8_wear ml_X8_329 ci_8 rfl so_8 (by omega) rfl (Nat.le_of_ble_eq_true rfl) dX8_wears_41 rfl (fun hp4 => ?_)
    have hOq3 : OK q3.2 := hp4
    refine mx_iconst (pc := 44) C dX8_wears_44 (z := 2) rfl (by constructor <;> decide) ?_
    refine mx_idiv (pc := 45) C dX8_wears_45 (by decide) ?_
    rw [← Option.some.inj h]
    exact mx_ireturn (pc := 46) C dX8_wears_46 hOq3 ⟨Nat.le_refl _, Nat.le_refl _⟩
  · rw [if_neg c2] at h
    by_cases c5 : M 128 p1 = 4
    · rw [if_pos c5] at h
      refine mx_lsw (pc := 6) (tgt := 40) (off := 34) C dX8_wears_6 (by decide) (by rw [c5]; rfl) rfl ?_
      refine mx_aload_n (pc := 40) C dX8_wears_40 rfl ?_
      obtain ⟨q6, hq6, h⟩ := of_bd h
      refine mc_V (pc := 41) (as := []) (rest := []) (stk2 := [aI q6.1]) C ⟨Nat.le_refl _, Nat.le_refl _⟩ (m_X8_wear hOM hq6) mi_X8_wear mv_X8_wear ml_X8_329 ci_8 rfl so_8 (by omega) rfl (Nat.le_of_ble_eq_true rfl) dX8_wears_41 rfl (fun hp7 => ?_)
      have hOq6 : OK q6.2 := hp7
      refine mx_iconst (pc := 44) C dX8_wears_44 (z := 2) rfl (by constructor <;> decide) ?_
      refine mx_idiv (pc := 45) C dX8_wears_45 (by decide) ?_
      rw [← Option.some.inj h]
      exact mx_ireturn (pc := 46) C dX8_wears_46 hOq6 ⟨Nat.le_refl _, Nat.le_refl _⟩
    · rw [if_neg c5] at h
      by_cases c8 : M 128 p1 = 6
      · rw [if_pos c8] at h
        refine mx_lsw (pc := 6) (tgt := 47) (off := 41) C dX8_wears_6 (by decide) (by rw [c8]; rfl) rfl ?_
        refine mx_aload_n (pc := 47) C dX8_wears_47 rfl ?_
        refine mx_getI (pc := 48) C dX8_wears_48 so_8 ci_8 (k := 1) (by decide) fl_X8_13 rfl (q := 1) rfl ?_
        refine mx_iconst (pc := 51) C dX8_wears_51 (z := 2) rfl (by constructor <;> decide) ?_
        refine mx_irem (pc := 52) C dX8_wears_52 (by decide) ?_
        refine mx_if_ne (pc := 53) (tgt := 60) C dX8_wears_53 rfl (fun c9 => ?_) (fun c9 => ?_)
        · rw [if_neg c9] at h
          refine mx_aload_n (pc := 60) C dX8_wears_60 rfl ?_
          obtain ⟨q10, hq10, h⟩ := of_bd h
          refine mc_V (pc := 61) (as := []) (rest := []) (stk2 := [aI q10.1]) C ⟨Nat.le_refl _, Nat.le_refl _⟩ (m_X8_wear hOM hq10) mi_X8_wear mv_X8_wear ml_X8_329 ci_8 rfl so_8 (by omega) rfl (Nat.le_of_ble_eq_true rfl) dX8_wears_61 rfl (fun hp11 => ?_)
          have hOq10 : OK q10.2 := hp11
          rw [← Option.some.inj h]
          exact mx_ireturn (pc := 64) C dX8_wears_64 hOq10 ⟨Nat.le_refl _, Nat.le_refl _⟩
        · rw [if_pos c9] at h
          refine mx_iconst (pc := 56) C dX8_wears_56 (z := 0) rfl (by constructor <;> decide) ?_
          refine mx_goto (pc := 57) (tgt := 64) C dX8_wears_57 rfl ?_
          rw [← Option.some.inj h]
          exact mx_ireturn (pc := 64) C dX8_wears_64 hOM ⟨Nat.le_refl _, Nat.le_refl _⟩
      · rw [if_neg c8] at h
        refine mx_lsw (pc := 6) (tgt := 65) (off := 59) C dX8_wears_6 (by decide) (by show Op.lookupswitch.offset [(1, 34), (4, 34), (6, 41)] _ _ = _; rw [Op.lookupswitch.offset_cons, if_neg (fun e => c2 e.symm), Op.lookupswitch.offset_cons, if_neg (fun e => c5 e.symm), Op.lookupswitch.offset_cons, if_neg (fun e => c8 e.symm)]; rfl) rfl ?_
        refine mx_aload_n (pc := 65) C dX8_wears_65 rfl ?_
        obtain ⟨q12, hq12, h⟩ := of_bd h
        refine mc_V (pc := 66) (as := []) (rest := []) (stk2 := [aI q12.1]) C ⟨Nat.le_refl _, Nat.le_refl _⟩ (m_X8_wear hOM hq12) mi_X8_wear mv_X8_wear ml_X8_329 ci_8 rfl so_8 (by omega) rfl (Nat.le_of_ble_eq_true rfl) dX8_wears_66 rfl (fun hp13 => ?_)
        have hOq12 : OK q12.2 := hp13
        rw [← Option.some.inj h]
        exact mx_ireturn (pc := 69) C dX8_wears_69 hOq12 ⟨Nat.le_refl _, Nat.le_refl _⟩

def f_X8_of (p1 : Int) (p2 : Int) (M : Mem) : Option (Int × Mem) :=
  (f_X8_isSound p1 M).bind (fun q1 => if q1.1 = 0 then some ((-1001), q1.2) else (f_X8_in p2 10 14 q1.2).bind (fun q4 => if q4.1 = 0 then (f_X8_in p2 20 24 q4.2).bind (fun q7 => if q7.1 = 0 then if p2 = 0 then if 0 ≤ p1 ∧ p1 < 6 then some (q7.2 128 p1, q7.2) else none else if p2 = 1 then if 0 ≤ p1 ∧ p1 < 6 then some (q7.2 129 p1, q7.2) else none else if p2 = 2 then if 0 ≤ p1 ∧ p1 < 6 then some (q7.2 130 p1, q7.2) else none else if p2 = 3 then if 0 ≤ p1 ∧ p1 < 6 then some (q7.2 131 p1, q7.2) else none else if p2 = 4 then (f_X8_wears p1 q7.2).bind (fun q19 => some (q19.1, q19.2)) else some ((-1001), q7.2) else (f_X8_heard p1 (w32 (p2 - 20)) q7.2).bind (fun q21 => some (q21.1, q21.2))) else (f_X8_voice p1 (w32 (p2 - 10)) q4.2).bind (fun q23 => some (q23.1, q23.2))))
set_option maxRecDepth 20000 in
set_option maxHeartbeats 4000000 in
theorem m_X8_of {p1 : Int} {p2 : Int} {M : Mem} {res : Int × Mem} (hOM : OK M) (h : f_X8_of p1 p2 M = some res) : Mth false yX8_of cX8_of 3 (some .int) 6 0 0 SH [aR 127, aI p1, aI p2] M (some (aI res.1)) SH res.2 (OK res.2) := by
  refine Mth.of (by decide +kernel) (Nat.le_of_ble_eq_true rfl) (fun K B C => ?_)
  show Wx K B _ 0 0 SH 3 M 0 [some (aR 127), some (aI p1), some (aI p2)] []
  unfold f_X8_of at h
  refine mx_aload_n (pc := 0) C dX8_of_0 rfl ?_
  refine mx_iload_n (pc := 1) C dX8_of_1 rfl ?_
  obtain ⟨q1, hq1, h⟩ := of_bd h
  refine mc_V (pc := 2) (as := [aI p1]) (rest := []) (stk2 := [aI q1.1]) C ⟨Nat.le_refl _, Nat.le_refl _⟩ (m_X8_isSound hOM hq1) mi_X8_isSound mv_X8_isSound ml_X8_229 ci_8 rfl so_8 (by omega) rfl (Nat.le_of_ble_eq_true rfl) dX8_of_2 rfl (fun hp2 => ?_)
  have hOq1 : OK q1.2 := hp2.1
  refine mx_if_ne (pc := 5) (tgt := 12) C dX8_of_5 rfl (fun c3 => ?_) (fun c3 => ?_)
  · rw [if_neg c3] at h
    refine mx_aload_n (pc := 12) C dX8_of_12 rfl ?_
    refine mx_iload_n (pc := 13) C dX8_of_13 rfl ?_
    refine mx_bipush (pc := 14) C dX8_of_14 (z := 10) rfl (by constructor <;> decide) ?_
    refine mx_bipush (pc := 16) C dX8_of_16 (z := 14) rfl (by constructor <;> decide) ?_
    obtain ⟨q4, hq4, h⟩ := of_bd h
    refine mc_V (pc := 18) (as := [aI p2, aI 10, aI 14]) (rest := []) (stk2 := [aI q4.1]) C ⟨Nat.le_refl _, Nat.le_refl _⟩ (m_X8_in hOq1 hq4) mi_X8_in mv_X8_in ml_X8_218 ci_8 rfl so_8 (by omega) rfl (Nat.le_of_ble_eq_true rfl) dX8_of_18 rfl (fun hp5 => ?_)
    have hOq4 : OK q4.2 := hp5.1
    refine mx_if_eq (pc := 21) (tgt := 34) C dX8_of_21 rfl (fun c6 => ?_) (fun c6 => ?_)
    · rw [if_pos c6] at h
      refine mx_aload_n (pc := 34) C dX8_of_34 rfl ?_
      refine mx_iload_n (pc := 35) C dX8_of_35 rfl ?_
      refine mx_bipush (pc := 36) C dX8_of_36 (z := 20) rfl (by constructor <;> decide) ?_
      refine mx_bipush (pc := 38) C dX8_of_38 (z := 24) rfl (by constructor <;> decide) ?_
      obtain ⟨q7, hq7, h⟩ := of_bd h
      refine mc_V (pc := 40) (as := [aI p2, aI 20, aI 24]) (rest := []) (stk2 := [aI q7.1]) C ⟨Nat.le_refl _, Nat.le_refl _⟩ (m_X8_in hOq4 hq7) mi_X8_in mv_X8_in ml_X8_218 ci_8 rfl so_8 (by omega) rfl (Nat.le_of_ble_eq_true rfl) dX8_of_40 rfl (fun hp8 => ?_)
      have hOq7 : OK q7.2 := hp8.1
      refine mx_if_eq (pc := 43) (tgt := 56) C dX8_of_43 rfl (fun c9 => ?_) (fun c9 => ?_)
      · rw [if_pos c9] at h
        refine mx_iload_n (pc := 56) C dX8_of_56 rfl ?_
        by_cases c10 : p2 = 0
        · rw [if_pos c10] at h
          refine mx_tin (pc := 57) (tgt := 92) C 0 dX8_of_57 c10 (by decide) (by decide) rfl rfl ?_
          refine mx_aload_n (pc := 92) C dX8_of_92 rfl ?_
          refine mx_getR (pc := 93) (v := 128) C dX8_of_93 so_8 ci_8 (k := 2) (by decide) fl_X8_16 rfl (q := 2) rfl (lay_8_2 hOq7) (by decide) ?_
          refine mx_iload_n (pc := 96) C dX8_of_96 rfl ?_
          obtain ⟨g11, h⟩ := of_gd h
          refine mx_iald (pc := 97) C dX8_of_97 sh_8_2 g11.1 g11.2 ?_
          rw [← Option.some.inj h]
          exact mx_ireturn (pc := 98) C dX8_of_98 hOq7 ⟨Nat.le_refl _, Nat.le_refl _⟩
        · rw [if_neg c10] at h
          by_cases c12 : p2 = 1
          · rw [if_pos c12] at h
            refine mx_tin (pc := 57) (tgt := 99) C 1 dX8_of_57 c12 (by decide) (by decide) rfl rfl ?_
            refine mx_aload_n (pc := 99) C dX8_of_99 rfl ?_
            refine mx_getR (pc := 100) (v := 129) C dX8_of_100 so_8 ci_8 (k := 3) (by decide) fl_X8_20 rfl (q := 3) rfl (lay_8_3 hOq7) (by decide) ?_
            refine mx_iload_n (pc := 103) C dX8_of_103 rfl ?_
            obtain ⟨g13, h⟩ := of_gd h
            refine mx_iald (pc := 104) C dX8_of_104 sh_8_3 g13.1 g13.2 ?_
            rw [← Option.some.inj h]
            exact mx_ireturn (pc := 105) C dX8_of_105 hOq7 ⟨Nat.le_refl _, Nat.le_refl _⟩
          · rw [if_neg c12] at h
            by_cases c14 : p2 = 2
            · rw [if_pos c14] at h
              refine mx_tin (pc := 57) (tgt := 106) C 2 dX8_of_57 c14 (by decide) (by decide) rfl rfl ?_
              refine mx_aload_n (pc := 106) C dX8_of_106 rfl ?_
              refine mx_getR (pc := 107) (v := 130) C dX8_of_107 so_8 ci_8 (k := 4) (by decide) fl_X8_23 rfl (q := 4) rfl (lay_8_4 hOq7) (by decide) ?_
              refine mx_iload_n (pc := 110) C dX8_of_110 rfl ?_
              obtain ⟨g15, h⟩ := of_gd h
              refine mx_iald (pc := 111) C dX8_of_111 sh_8_4 g15.1 g15.2 ?_
              rw [← Option.some.inj h]
              exact mx_ireturn (pc := 112) C dX8_of_112 hOq7 ⟨Nat.le_refl _, Nat.le_refl _⟩
            · rw [if_neg c14] at h
              by_cases c16 : p2 = 3
              · rw [if_pos c16] at h
                refine mx_tin (pc := 57) (tgt := 113) C 3 dX8_of_57 c16 (by decide) (by decide) rfl rfl ?_
                refine mx_aload_n (pc := 113) C dX8_of_113 rfl ?_
                refine mx_getR (pc := 114) (v := 131) C dX8_of_114 so_8 ci_8 (k := 5) (by decide) fl_X8_26 rfl (q := 5) rfl (lay_8_5 hOq7) (by decide) ?_
                refine mx_iload_n (pc := 117) C dX8_of_117 rfl ?_
                obtain ⟨g17, h⟩ := of_gd h
                refine mx_iald (pc := 118) C dX8_of_118 sh_8_5 g17.1 g17.2 ?_
                rw [← Option.some.inj h]
                exact mx_ireturn (pc := 119) C dX8_of_119 hOq7 ⟨Nat.le_refl _, Nat.le_refl _⟩
              · rw [if_neg c16] at h
                by_cases c18 : p2 = 4
                · rw [if_pos c18] at h
                  refine mx_tin (pc := 57) (tgt := 120) C 4 dX8_of_57 c18 (by decide) (by decide) rfl rfl ?_
                  refine mx_aload_n (pc := 120) C dX8_of_120 rfl ?_
                  refine mx_iload_n (pc := 121) C dX8_of_121 rfl ?_
                  obtain ⟨q19, hq19, h⟩ := of_bd h
                  refine mc_V (pc := 122) (as := [aI p1]) (rest := []) (stk2 := [aI q19.1]) C ⟨Nat.le_refl _, Nat.le_refl _⟩ (m_X8_wears hOq7 hq19) mi_X8_wears mv_X8_wears ml_X8_335 ci_8 rfl so_8 (by omega) rfl (Nat.le_of_ble_eq_true rfl) dX8_of_122 rfl (fun hp20 => ?_)
                  have hOq19 : OK q19.2 := hp20
                  rw [← Option.some.inj h]
                  exact mx_ireturn (pc := 125) C dX8_of_125 hOq19 ⟨Nat.le_refl _, Nat.le_refl _⟩
                · rw [if_neg c18] at h
                  refine mx_tout (pc := 57) (tgt := 126) C dX8_of_57 (by omega) rfl ?_
                  refine mx_sipush (pc := 126) C dX8_of_126 (z := (-1001)) rfl (by constructor <;> decide) ?_
                  rw [← Option.some.inj h]
                  exact mx_ireturn (pc := 129) C dX8_of_129 hOq7 ⟨Nat.le_refl _, Nat.le_refl _⟩
      · rw [if_neg c9] at h
        refine mx_aload_n (pc := 46) C dX8_of_46 rfl ?_
        refine mx_iload_n (pc := 47) C dX8_of_47 rfl ?_
        refine mx_iload_n (pc := 48) C dX8_of_48 rfl ?_
        refine mx_bipush (pc := 49) C dX8_of_49 (z := 20) rfl (by constructor <;> decide) ?_
        refine mx_isub (pc := 51) C dX8_of_51  ?_
        obtain ⟨q21, hq21, h⟩ := of_bd h
        refine mc_V (pc := 52) (as := [aI p1, aI (w32 (p2 - 20))]) (rest := []) (stk2 := [aI q21.1]) C ⟨Nat.le_refl _, Nat.le_refl _⟩ (m_X8_heard hOq7 hq21) mi_X8_heard mv_X8_heard ml_X8_332 ci_8 rfl so_8 (by omega) rfl (Nat.le_of_ble_eq_true rfl) dX8_of_52 rfl (fun hp22 => ?_)
        have hOq21 : OK q21.2 := hp22
        rw [← Option.some.inj h]
        exact mx_ireturn (pc := 55) C dX8_of_55 hOq21 ⟨Nat.le_refl _, Nat.le_refl _⟩
    · rw [if_neg c6] at h
      refine mx_aload_n (pc := 24) C dX8_of_24 rfl ?_
      refine mx_iload_n (pc := 25) C dX8_of_25 rfl ?_
      refine mx_iload_n (pc := 26) C dX8_of_26 rfl ?_
      refine mx_bipush (pc := 27) C dX8_of_27 (z := 10) rfl (by constructor <;> decide) ?_
      refine mx_isub (pc := 29) C dX8_of_29  ?_
      obtain ⟨q23, hq23, h⟩ := of_bd h
      refine mc_V (pc := 30) (as := [aI p1, aI (w32 (p2 - 10))]) (rest := []) (stk2 := [aI q23.1]) C ⟨Nat.le_refl _, Nat.le_refl _⟩ (m_X8_voice hOq4 hq23) mi_X8_voice mv_X8_voice ml_X8_314 ci_8 rfl so_8 (by omega) rfl (Nat.le_of_ble_eq_true rfl) dX8_of_30 rfl (fun hp24 => ?_)
      have hOq23 : OK q23.2 := hp24
      rw [← Option.some.inj h]
      exact mx_ireturn (pc := 33) C dX8_of_33 hOq23 ⟨Nat.le_refl _, Nat.le_refl _⟩
  · rw [if_pos c3] at h
    refine mx_sipush (pc := 8) C dX8_of_8 (z := (-1001)) rfl (by constructor <;> decide) ?_
    rw [← Option.some.inj h]
    exact mx_ireturn (pc := 11) C dX8_of_11 hOq1 ⟨Nat.le_refl _, Nat.le_refl _⟩

def f_X8_told (p1 : Int) (M : Mem) : Option (Int × Mem) :=
  (f_X8_in p1 10 14 M).bind (fun q1 => if q1.1 = 0 then if p1 = 0 then some (q1.2 127 1, q1.2) else if p1 = 1 then (f_X8_wall q1.2).bind (fun q6 => some (q6.1, q6.2)) else if p1 = 2 then (f_X8_calm q1.2).bind (fun q9 => some (q9.1, q9.2)) else if p1 = 3 then (f_X8_wear q1.2).bind (fun q12 => some (q12.1, q12.2)) else if p1 = 4 then (f_X8_greatest q1.2).bind (fun q15 => some (q15.1, q15.2)) else if p1 = 5 then (f_X8_stillSet q1.2).bind (fun q18 => some (q18.1, q18.2)) else some ((-1), q1.2) else (f_X8_noise (w32 (p1 - 10)) q1.2).bind (fun q20 => some (q20.1, q20.2)))
set_option maxRecDepth 20000 in
set_option maxHeartbeats 4000000 in
theorem m_X8_told {p1 : Int} {M : Mem} {res : Int × Mem} (hOM : OK M) (h : f_X8_told p1 M = some res) : Mth false yX8_told cX8_told 2 (some .int) 7 0 0 SH [aR 127, aI p1] M (some (aI res.1)) SH res.2 (OK res.2) := by
  refine Mth.of (by decide +kernel) (Nat.le_of_ble_eq_true rfl) (fun K B C => ?_)
  show Wx K B _ 0 0 SH 2 M 0 [some (aR 127), some (aI p1)] []
  unfold f_X8_told at h
  refine mx_aload_n (pc := 0) C dX8_told_0 rfl ?_
  refine mx_iload_n (pc := 1) C dX8_told_1 rfl ?_
  refine mx_bipush (pc := 2) C dX8_told_2 (z := 10) rfl (by constructor <;> decide) ?_
  refine mx_bipush (pc := 4) C dX8_told_4 (z := 14) rfl (by constructor <;> decide) ?_
  obtain ⟨q1, hq1, h⟩ := of_bd h
  refine mc_V (pc := 6) (as := [aI p1, aI 10, aI 14]) (rest := []) (stk2 := [aI q1.1]) C ⟨Nat.le_refl _, Nat.le_refl _⟩ (m_X8_in hOM hq1) mi_X8_in mv_X8_in ml_X8_218 ci_8 rfl so_8 (by omega) rfl (Nat.le_of_ble_eq_true rfl) dX8_told_6 rfl (fun hp2 => ?_)
  have hOq1 : OK q1.2 := hp2.1
  refine mx_if_eq (pc := 9) (tgt := 21) C dX8_told_9 rfl (fun c3 => ?_) (fun c3 => ?_)
  · rw [if_pos c3] at h
    refine mx_iload_n (pc := 21) C dX8_told_21 rfl ?_
    by_cases c4 : p1 = 0
    · rw [if_pos c4] at h
      refine mx_tin (pc := 22) (tgt := 60) C 0 dX8_told_22 c4 (by decide) (by decide) rfl rfl ?_
      refine mx_aload_n (pc := 60) C dX8_told_60 rfl ?_
      refine mx_getI (pc := 61) C dX8_told_61 so_8 ci_8 (k := 1) (by decide) fl_X8_13 rfl (q := 1) rfl ?_
      rw [← Option.some.inj h]
      exact mx_ireturn (pc := 64) C dX8_told_64 hOq1 ⟨Nat.le_refl _, Nat.le_refl _⟩
    · rw [if_neg c4] at h
      by_cases c5 : p1 = 1
      · rw [if_pos c5] at h
        refine mx_tin (pc := 22) (tgt := 65) C 1 dX8_told_22 c5 (by decide) (by decide) rfl rfl ?_
        refine mx_aload_n (pc := 65) C dX8_told_65 rfl ?_
        obtain ⟨q6, hq6, h⟩ := of_bd h
        refine mc_V (pc := 66) (as := []) (rest := []) (stk2 := [aI q6.1]) C ⟨Nat.le_refl _, Nat.le_refl _⟩ (m_X8_wall hOq1 hq6) mi_X8_wall mv_X8_wall ml_X8_311 ci_8 rfl so_8 (by omega) rfl (Nat.le_of_ble_eq_true rfl) dX8_told_66 rfl (fun hp7 => ?_)
        have hOq6 : OK q6.2 := hp7
        rw [← Option.some.inj h]
        exact mx_ireturn (pc := 69) C dX8_told_69 hOq6 ⟨Nat.le_refl _, Nat.le_refl _⟩
      · rw [if_neg c5] at h
        by_cases c8 : p1 = 2
        · rw [if_pos c8] at h
          refine mx_tin (pc := 22) (tgt := 70) C 2 dX8_told_22 c8 (by decide) (by decide) rfl rfl ?_
          refine mx_aload_n (pc := 70) C dX8_told_70 rfl ?_
          obtain ⟨q9, hq9, h⟩ := of_bd h
          refine mc_V (pc := 71) (as := []) (rest := []) (stk2 := [aI q9.1]) C ⟨Nat.le_refl _, Nat.le_refl _⟩ (m_X8_calm hOq1 hq9) mi_X8_calm mv_X8_calm ml_X8_326 ci_8 rfl so_8 (by omega) rfl (Nat.le_of_ble_eq_true rfl) dX8_told_71 rfl (fun hp10 => ?_)
          have hOq9 : OK q9.2 := hp10
          rw [← Option.some.inj h]
          exact mx_ireturn (pc := 74) C dX8_told_74 hOq9 ⟨Nat.le_refl _, Nat.le_refl _⟩
        · rw [if_neg c8] at h
          by_cases c11 : p1 = 3
          · rw [if_pos c11] at h
            refine mx_tin (pc := 22) (tgt := 75) C 3 dX8_told_22 c11 (by decide) (by decide) rfl rfl ?_
            refine mx_aload_n (pc := 75) C dX8_told_75 rfl ?_
            obtain ⟨q12, hq12, h⟩ := of_bd h
            refine mc_V (pc := 76) (as := []) (rest := []) (stk2 := [aI q12.1]) C ⟨Nat.le_refl _, Nat.le_refl _⟩ (m_X8_wear hOq1 hq12) mi_X8_wear mv_X8_wear ml_X8_329 ci_8 rfl so_8 (by omega) rfl (Nat.le_of_ble_eq_true rfl) dX8_told_76 rfl (fun hp13 => ?_)
            have hOq12 : OK q12.2 := hp13
            rw [← Option.some.inj h]
            exact mx_ireturn (pc := 79) C dX8_told_79 hOq12 ⟨Nat.le_refl _, Nat.le_refl _⟩
          · rw [if_neg c11] at h
            by_cases c14 : p1 = 4
            · rw [if_pos c14] at h
              refine mx_tin (pc := 22) (tgt := 80) C 4 dX8_told_22 c14 (by decide) (by decide) rfl rfl ?_
              refine mx_aload_n (pc := 80) C dX8_told_80 rfl ?_
              obtain ⟨q15, hq15, h⟩ := of_bd h
              refine mc_V (pc := 81) (as := []) (rest := []) (stk2 := [aI q15.1]) C ⟨Nat.le_refl _, Nat.le_refl _⟩ (m_X8_greatest hOq1 hq15) mi_X8_greatest mv_X8_greatest ml_X8_338 ci_8 rfl so_8 (by omega) rfl (Nat.le_of_ble_eq_true rfl) dX8_told_81 rfl (fun hp16 => ?_)
              have hOq15 : OK q15.2 := hp16
              rw [← Option.some.inj h]
              exact mx_ireturn (pc := 84) C dX8_told_84 hOq15 ⟨Nat.le_refl _, Nat.le_refl _⟩
            · rw [if_neg c14] at h
              by_cases c17 : p1 = 5
              · rw [if_pos c17] at h
                refine mx_tin (pc := 22) (tgt := 85) C 5 dX8_told_22 c17 (by decide) (by decide) rfl rfl ?_
                refine mx_aload_n (pc := 85) C dX8_told_85 rfl ?_
                obtain ⟨q18, hq18, h⟩ := of_bd h
                refine mc_V (pc := 86) (as := []) (rest := []) (stk2 := [aI q18.1]) C ⟨Nat.le_refl _, Nat.le_refl _⟩ (m_X8_stillSet hOq1 hq18) mi_X8_stillSet mv_X8_stillSet ml_X8_341 ci_8 rfl so_8 (by omega) rfl (Nat.le_of_ble_eq_true rfl) dX8_told_86 rfl (fun hp19 => ?_)
                have hOq18 : OK q18.2 := hp19
                rw [← Option.some.inj h]
                exact mx_ireturn (pc := 89) C dX8_told_89 hOq18 ⟨Nat.le_refl _, Nat.le_refl _⟩
              · rw [if_neg c17] at h
                refine mx_tout (pc := 22) (tgt := 90) C dX8_told_22 (by omega) rfl ?_
                refine mx_iconst (pc := 90) C dX8_told_90 (z := (-1)) rfl (by constructor <;> decide) ?_
                rw [← Option.some.inj h]
                exact mx_ireturn (pc := 91) C dX8_told_91 hOq1 ⟨Nat.le_refl _, Nat.le_refl _⟩
  · rw [if_neg c3] at h
    refine mx_aload_n (pc := 12) C dX8_told_12 rfl ?_
    refine mx_iload_n (pc := 13) C dX8_told_13 rfl ?_
    refine mx_bipush (pc := 14) C dX8_told_14 (z := 10) rfl (by constructor <;> decide) ?_
    refine mx_isub (pc := 16) C dX8_told_16  ?_
    obtain ⟨q20, hq20, h⟩ := of_bd h
    refine mc_V (pc := 17) (as := [aI (w32 (p1 - 10))]) (rest := []) (stk2 := [aI q20.1]) C ⟨Nat.le_refl _, Nat.le_refl _⟩ (m_X8_noise hOq1 hq20) mi_X8_noise mv_X8_noise ml_X8_239 ci_8 rfl so_8 (by omega) rfl (Nat.le_of_ble_eq_true rfl) dX8_told_17 rfl (fun hp21 => ?_)
    have hOq20 : OK q20.2 := hp21
    rw [← Option.some.inj h]
    exact mx_ireturn (pc := 20) C dX8_told_20 hOq20 ⟨Nat.le_refl _, Nat.le_refl _⟩

def f_X8_goYear_48 (k2 : Int → Mem → Option (Int × Mem)) (x1 : Int) (t1 : Int) (t2 : Int) (M : Mem) : Option (Int × Mem) :=
  if 0 ≤ t1 ∧ t1 < 6 then lt (stM M 130 t1 t2) (fun M2 => k2 (w32 (x1 + 1)) M2) else none
def f_X8_goYear_2 : Nat → Int → Mem → Option (Int × Mem)
  | 0, _, _ => none
  | n + 1, x1, M => if M 127 0 ≤ x1 then lt (stM M 127 1 (w32 ((M 127 1) + 1))) (fun M2 => some (0, M2)) else (f_X8_isLost x1 M).bind (fun q3 => if q3.1 = 0 then if 0 ≤ x1 ∧ x1 < 6 then (f_X8_wears x1 q3.2).bind (fun q7 => (f_X8_least0 (w32 ((q3.2 130 x1) - q7.1)) q7.2).bind (fun q9 => f_X8_goYear_48 (f_X8_goYear_2 n) x1 x1 q9.1 q9.2)) else none else if 0 ≤ x1 ∧ x1 < 6 then f_X8_goYear_48 (f_X8_goYear_2 n) x1 x1 (q3.2 130 x1) q3.2 else none)
def f_X8_goYear (M : Mem) : Option (Int × Mem) :=
  f_X8_goYear_2 FU 0 M
set_option maxRecDepth 20000 in
set_option maxHeartbeats 4000000 in
theorem b_X8_goYear_48 {K : KX} {B : BX} {res : Int × Mem} {k2 : Int → Mem → Option (Int × Mem)} (C : Cx K B false yX8_goYear cX8_goYear 2 none 5 0 0) (hk2 : ∀ (x1 : Int) (M : Mem), OK M → k2 x1 M = some res → Wx K B (Zr K B none SH res.2 (OK res.2) 0 0) 0 0 SH 2 M 2 [some (aR 127), some (aI x1)] []) : ∀ (x1 : Int) (t1 : Int) (t2 : Int) (M : Mem), OK M → f_X8_goYear_48 k2 x1 t1 t2 M = some res → Wx K B (Zr K B none SH res.2 (OK res.2) 0 0) 0 0 SH 2 M 48 [some (aR 127), some (aI x1)] [aI t2, aI t1, aR 130] := by
  intro x1 t1 t2 M hOM h
  unfold f_X8_goYear_48 at h
  obtain ⟨g1, h⟩ := of_gd h
  refine mx_iast (pc := 48) C dX8_goYear_48 sh_8_4 g1.1 g1.2 ?_
  generalize hmM2 : stM M 130 t1 t2 = M2 at h ⊢
  replace h := lt_e h
  have hOM2 : OK M2 := by rw [← hmM2]; exact ok_arr hOM sh_8_4 (by decide)
  refine mx_iinc (pc := 49) C dX8_goYear_49 (ls' := [some (aR 127), some (aI (w32 (x1 + 1)))]) rfl (by decide) rfl (by constructor <;> decide) rfl rfl ?_
  refine mx_goto (pc := 52) (tgt := 2) C dX8_goYear_52 rfl ?_
  exact hk2 (w32 (x1 + 1)) M2 hOM2 h
set_option maxRecDepth 20000 in
set_option maxHeartbeats 4000000 in
theorem b_X8_goYear_2 {K : KX} {B : BX} {res : Int × Mem} (C : Cx K B false yX8_goYear cX8_goYear 2 none 5 0 0) : ∀ (n : Nat) (x1 : Int) (M : Mem), OK M → f_X8_goYear_2 n x1 M = some res → Wx K B (Zr K B none SH res.2 (OK res.2) 0 0) 0 0 SH 2 M 2 [some (aR 127), some (aI x1)] [] := by
  intro n
  induction n with
  | zero =>
    intro x1 M hOM h
    cases h
  | succ n ih =>
    intro x1 M hOM h
    rw [f_X8_goYear_2.eq_2] at h
    refine mx_iload_n (pc := 2) C dX8_goYear_2 rfl ?_
    refine mx_aload_n (pc := 3) C dX8_goYear_3 rfl ?_
    refine mx_getI (pc := 4) C dX8_goYear_4 so_8 ci_8 (k := 0) (by decide) fl_X8_7 rfl (q := 0) rfl ?_
    refine mx_icmp_ge (pc := 7) (tgt := 55) C dX8_goYear_7 rfl (fun c1 => ?_) (fun c1 => ?_)
    · rw [if_pos c1] at h
      refine mx_aload_n (pc := 55) C dX8_goYear_55 rfl ?_
      refine mx_dup (pc := 56) C dX8_goYear_56 rfl ?_
      refine mx_getI (pc := 57) C dX8_goYear_57 so_8 ci_8 (k := 1) (by decide) fl_X8_13 rfl (q := 1) rfl ?_
      refine mx_iconst (pc := 60) C dX8_goYear_60 (z := 1) rfl (by constructor <;> decide) ?_
      refine mx_iadd (pc := 61) C dX8_goYear_61  ?_
      refine mx_putI (pc := 62) C dX8_goYear_62 so_8 ci_8 (k := 1) (by decide) fl_X8_13 (Or.inl rfl) rfl (q := 1) rfl ?_
      generalize hmM2 : stM M 127 1 (w32 ((M 127 1) + 1)) = M2 at h ⊢
      replace h := lt_e h
      have hOM2 : OK M2 := by rw [← hmM2]; exact okf_8_1 hOM
      rw [← Option.some.inj h]
      exact mx_return (pc := 65) C dX8_goYear_65 hOM2 ⟨Nat.le_refl _, Nat.le_refl _⟩
    · rw [if_neg c1] at h
      refine mx_aload_n (pc := 10) C dX8_goYear_10 rfl ?_
      refine mx_getR (pc := 11) (v := 130) C dX8_goYear_11 so_8 ci_8 (k := 4) (by decide) fl_X8_23 rfl (q := 4) rfl (lay_8_4 hOM) (by decide) ?_
      refine mx_iload_n (pc := 14) C dX8_goYear_14 rfl ?_
      refine mx_aload_n (pc := 15) C dX8_goYear_15 rfl ?_
      refine mx_iload_n (pc := 16) C dX8_goYear_16 rfl ?_
      obtain ⟨q3, hq3, h⟩ := of_bd h
      refine mc_V (pc := 17) (as := [aI x1]) (rest := [aI x1, aR 130]) (stk2 := [aI q3.1, aI x1, aR 130]) C ⟨Nat.le_refl _, Nat.le_refl _⟩ (m_X8_isLost hOM hq3) mi_X8_isLost mv_X8_isLost ml_X8_232 ci_8 rfl so_8 (by omega) rfl (Nat.le_of_ble_eq_true rfl) dX8_goYear_17 rfl (fun hp4 => ?_)
      have hOq3 : OK q3.2 := hp4.1
      refine mx_if_eq (pc := 20) (tgt := 32) C dX8_goYear_20 rfl (fun c5 => ?_) (fun c5 => ?_)
      · rw [if_pos c5] at h
        refine mx_aload_n (pc := 32) C dX8_goYear_32 rfl ?_
        refine mx_aload_n (pc := 33) C dX8_goYear_33 rfl ?_
        refine mx_getR (pc := 34) (v := 130) C dX8_goYear_34 so_8 ci_8 (k := 4) (by decide) fl_X8_23 rfl (q := 4) rfl (lay_8_4 hOq3) (by decide) ?_
        refine mx_iload_n (pc := 37) C dX8_goYear_37 rfl ?_
        obtain ⟨g6, h⟩ := of_gd h
        refine mx_iald (pc := 38) C dX8_goYear_38 sh_8_4 g6.1 g6.2 ?_
        refine mx_aload_n (pc := 39) C dX8_goYear_39 rfl ?_
        refine mx_iload_n (pc := 40) C dX8_goYear_40 rfl ?_
        obtain ⟨q7, hq7, h⟩ := of_bd h
        refine mc_V (pc := 41) (as := [aI x1]) (rest := [aI (q3.2 130 x1), aR 127, aI x1, aR 130]) (stk2 := [aI q7.1, aI (q3.2 130 x1), aR 127, aI x1, aR 130]) C ⟨Nat.le_refl _, Nat.le_refl _⟩ (m_X8_wears hOq3 hq7) mi_X8_wears mv_X8_wears ml_X8_335 ci_8 rfl so_8 (by omega) rfl (Nat.le_of_ble_eq_true rfl) dX8_goYear_41 rfl (fun hp8 => ?_)
        have hOq7 : OK q7.2 := hp8
        refine mx_isub (pc := 44) C dX8_goYear_44  ?_
        obtain ⟨q9, hq9, h⟩ := of_bd h
        refine mc_V (pc := 45) (as := [aI (w32 ((q3.2 130 x1) - q7.1))]) (rest := [aI x1, aR 130]) (stk2 := [aI q9.1, aI x1, aR 130]) C ⟨Nat.le_refl _, Nat.le_refl _⟩ (m_X8_least0 hOq7 hq9) mi_X8_least0 mv_X8_least0 ml_X8_308 ci_8 rfl so_8 (by omega) rfl (Nat.le_of_ble_eq_true rfl) dX8_goYear_45 rfl (fun hp10 => ?_)
        have hOq9 : OK q9.2 := hp10
        exact b_X8_goYear_48 C ih x1 x1 q9.1 q9.2 hOq9 h
      · rw [if_neg c5] at h
        refine mx_aload_n (pc := 23) C dX8_goYear_23 rfl ?_
        refine mx_getR (pc := 24) (v := 130) C dX8_goYear_24 so_8 ci_8 (k := 4) (by decide) fl_X8_23 rfl (q := 4) rfl (lay_8_4 hOq3) (by decide) ?_
        refine mx_iload_n (pc := 27) C dX8_goYear_27 rfl ?_
        obtain ⟨g11, h⟩ := of_gd h
        refine mx_iald (pc := 28) C dX8_goYear_28 sh_8_4 g11.1 g11.2 ?_
        refine mx_goto (pc := 29) (tgt := 48) C dX8_goYear_29 rfl ?_
        exact b_X8_goYear_48 C ih x1 x1 (q3.2 130 x1) q3.2 hOq3 h
set_option maxRecDepth 20000 in
set_option maxHeartbeats 4000000 in
theorem m_X8_goYear {M : Mem} {res : Int × Mem} (hOM : OK M) (h : f_X8_goYear M = some res) : Mth false yX8_goYear cX8_goYear 2 none 5 0 0 SH [aR 127] M none SH res.2 (OK res.2) := by
  refine Mth.of (by decide +kernel) (Nat.le_of_ble_eq_true rfl) (fun K B C => ?_)
  show Wx K B _ 0 0 SH 2 M 0 [some (aR 127), none] []
  unfold f_X8_goYear at h
  refine mx_iconst (pc := 0) C dX8_goYear_0 (z := 0) rfl (by constructor <;> decide) ?_
  refine mx_istore_n (pc := 1) C dX8_goYear_1 (ls' := [some (aR 127), some (aI 0)]) (by decide) rfl rfl ?_
  exact b_X8_goYear_2 C FU 0 M hOM h

def f_X8_goYears_2 (p1 : Int) : Nat → Int → Int → Mem → Option (Int × Mem)
  | 0, _, _, _ => none
  | n + 1, x1, x2, M => if x1 ≤ x2 then some (0, M) else (f_X8_goYear M).bind (fun q2 => f_X8_goYears_2 p1 n x1 (w32 (x2 + 1)) q2.2)
def f_X8_goYears (p1 : Int) (M : Mem) : Option (Int × Mem) :=
  f_X8_goYears_2 p1 FU p1 0 M
set_option maxRecDepth 20000 in
set_option maxHeartbeats 4000000 in
theorem b_X8_goYears_2 {K : KX} {B : BX} {res : Int × Mem} {p1 : Int} (C : Cx K B false yX8_goYears cX8_goYears 3 none 6 0 0) : ∀ (n : Nat) (x1 : Int) (x2 : Int) (M : Mem), OK M → f_X8_goYears_2 p1 n x1 x2 M = some res → Wx K B (Zr K B none SH res.2 (OK res.2) 0 0) 0 0 SH 3 M 2 [some (aR 127), some (aI x1), some (aI x2)] [] := by
  intro n
  induction n with
  | zero =>
    intro x1 x2 M hOM h
    cases h
  | succ n ih =>
    intro x1 x2 M hOM h
    rw [f_X8_goYears_2.eq_2] at h
    refine mx_iload_n (pc := 2) C dX8_goYears_2 rfl ?_
    refine mx_iload_n (pc := 3) C dX8_goYears_3 rfl ?_
    refine mx_icmp_ge (pc := 4) (tgt := 17) C dX8_goYears_4 rfl (fun c1 => ?_) (fun c1 => ?_)
    · rw [if_pos c1] at h
      rw [← Option.some.inj h]
      exact mx_return (pc := 17) C dX8_goYears_17 hOM ⟨Nat.le_refl _, Nat.le_refl _⟩
    · rw [if_neg c1] at h
      refine mx_aload_n (pc := 7) C dX8_goYears_7 rfl ?_
      obtain ⟨q2, hq2, h⟩ := of_bd h
      refine mc_V (pc := 8) (as := []) (rest := []) (stk2 := []) C ⟨Nat.le_refl _, Nat.le_refl _⟩ (m_X8_goYear hOM hq2) mi_X8_goYear mv_X8_goYear ml_X8_344 ci_8 rfl so_8 (by omega) rfl (Nat.le_of_ble_eq_true rfl) dX8_goYears_8 rfl (fun hp3 => ?_)
      have hOq2 : OK q2.2 := hp3
      refine mx_iinc (pc := 11) C dX8_goYears_11 (ls' := [some (aR 127), some (aI x1), some (aI (w32 (x2 + 1)))]) rfl (by decide) rfl (by constructor <;> decide) rfl rfl ?_
      refine mx_goto (pc := 14) (tgt := 2) C dX8_goYears_14 rfl ?_
      exact ih x1 (w32 (x2 + 1)) q2.2 hOq2 h
set_option maxRecDepth 20000 in
set_option maxHeartbeats 4000000 in
theorem m_X8_goYears {p1 : Int} {M : Mem} {res : Int × Mem} (hOM : OK M) (h : f_X8_goYears p1 M = some res) : Mth false yX8_goYears cX8_goYears 3 none 6 0 0 SH [aR 127, aI p1] M none SH res.2 (OK res.2) := by
  refine Mth.of (by decide +kernel) (Nat.le_of_ble_eq_true rfl) (fun K B C => ?_)
  show Wx K B _ 0 0 SH 3 M 0 [some (aR 127), some (aI p1), none] []
  unfold f_X8_goYears at h
  refine mx_iconst (pc := 0) C dX8_goYears_0 (z := 0) rfl (by constructor <;> decide) ?_
  refine mx_istore_n (pc := 1) C dX8_goYears_1 (ls' := [some (aR 127), some (aI p1), some (aI 0)]) (by decide) rfl rfl ?_
  exact b_X8_goYears_2 C FU p1 0 M hOM h

def f_X8_years (p1 : Int) (M : Mem) : Option (Int × Mem) :=
  (f_X8_isYears p1 M).bind (fun q1 => if q1.1 = 0 then some ((-2), q1.2) else if w32 ((q1.2 127 1) + p1) ≤ 9999 then (f_X8_goYears p1 q1.2).bind (fun q5 => some (q5.2 127 1, q5.2)) else some ((-3), q1.2))
set_option maxRecDepth 20000 in
set_option maxHeartbeats 4000000 in
theorem m_X8_years {p1 : Int} {M : Mem} {res : Int × Mem} (hOM : OK M) (h : f_X8_years p1 M = some res) : Mth false yX8_years cX8_years 2 (some .int) 7 0 0 SH [aR 127, aI p1] M (some (aI res.1)) SH res.2 (OK res.2) := by
  refine Mth.of (by decide +kernel) (Nat.le_of_ble_eq_true rfl) (fun K B C => ?_)
  show Wx K B _ 0 0 SH 2 M 0 [some (aR 127), some (aI p1)] []
  unfold f_X8_years at h
  refine mx_aload_n (pc := 0) C dX8_years_0 rfl ?_
  refine mx_iload_n (pc := 1) C dX8_years_1 rfl ?_
  obtain ⟨q1, hq1, h⟩ := of_bd h
  refine mc_V (pc := 2) (as := [aI p1]) (rest := []) (stk2 := [aI q1.1]) C ⟨Nat.le_refl _, Nat.le_refl _⟩ (m_X8_isYears hOM hq1) mi_X8_isYears mv_X8_isYears ml_X8_347 ci_8 rfl so_8 (by omega) rfl (Nat.le_of_ble_eq_true rfl) dX8_years_2 rfl (fun hp2 => ?_)
  have hOq1 : OK q1.2 := hp2.1
  refine mx_if_ne (pc := 5) (tgt := 11) C dX8_years_5 rfl (fun c3 => ?_) (fun c3 => ?_)
  · rw [if_neg c3] at h
    refine mx_aload_n (pc := 11) C dX8_years_11 rfl ?_
    refine mx_getI (pc := 12) C dX8_years_12 so_8 ci_8 (k := 1) (by decide) fl_X8_13 rfl (q := 1) rfl ?_
    refine mx_iload_n (pc := 15) C dX8_years_15 rfl ?_
    refine mx_iadd (pc := 16) C dX8_years_16  ?_
    refine mx_sipush (pc := 17) C dX8_years_17 (z := 9999) rfl (by constructor <;> decide) ?_
    refine mx_icmp_le (pc := 20) (tgt := 26) C dX8_years_20 rfl (fun c4 => ?_) (fun c4 => ?_)
    · rw [if_pos c4] at h
      refine mx_aload_n (pc := 26) C dX8_years_26 rfl ?_
      refine mx_iload_n (pc := 27) C dX8_years_27 rfl ?_
      obtain ⟨q5, hq5, h⟩ := of_bd h
      refine mc_V (pc := 28) (as := [aI p1]) (rest := []) (stk2 := []) C ⟨Nat.le_refl _, Nat.le_refl _⟩ (m_X8_goYears hOq1 hq5) mi_X8_goYears mv_X8_goYears ml_X8_350 ci_8 rfl so_8 (by omega) rfl (Nat.le_of_ble_eq_true rfl) dX8_years_28 rfl (fun hp6 => ?_)
      have hOq5 : OK q5.2 := hp6
      refine mx_aload_n (pc := 31) C dX8_years_31 rfl ?_
      refine mx_getI (pc := 32) C dX8_years_32 so_8 ci_8 (k := 1) (by decide) fl_X8_13 rfl (q := 1) rfl ?_
      rw [← Option.some.inj h]
      exact mx_ireturn (pc := 35) C dX8_years_35 hOq5 ⟨Nat.le_refl _, Nat.le_refl _⟩
    · rw [if_neg c4] at h
      refine mx_bipush (pc := 23) C dX8_years_23 (z := (-3)) rfl (by constructor <;> decide) ?_
      rw [← Option.some.inj h]
      exact mx_ireturn (pc := 25) C dX8_years_25 hOq1 ⟨Nat.le_refl _, Nat.le_refl _⟩
  · rw [if_pos c3] at h
    refine mx_bipush (pc := 8) C dX8_years_8 (z := (-2)) rfl (by constructor <;> decide) ?_
    rw [← Option.some.inj h]
    exact mx_ireturn (pc := 10) C dX8_years_10 hOq1 ⟨Nat.le_refl _, Nat.le_refl _⟩

def f_X8_save_10 : Nat → Int → Mem → Option (Int × Mem)
  | 0, _, _ => none
  | n + 1, x1, M => if 6 ≤ x1 then some (0, M) else if 0 ≤ x1 ∧ x1 < 6 then if 0 ≤ x1 ∧ x1 < 6 then lt (stM M 144 x1 (M 130 x1)) (fun M4 => if 0 ≤ x1 ∧ x1 < 6 then if 0 ≤ x1 ∧ x1 < 6 then lt (stM M4 145 x1 (M4 131 x1)) (fun M7 => f_X8_save_10 n (w32 (x1 + 1)) M7) else none else none) else none else none
def f_X8_save (M : Mem) : Option (Int × Mem) :=
  lt (stM M 127 26 (M 127 1)) (fun M1 => f_X8_save_10 FU 0 M1)
set_option maxRecDepth 20000 in
set_option maxHeartbeats 4000000 in
theorem b_X8_save_10 {K : KX} {B : BX} {res : Int × Mem} (C : Cx K B false yX8_save cX8_save 2 none 1 0 0) : ∀ (n : Nat) (x1 : Int) (M : Mem), OK M → f_X8_save_10 n x1 M = some res → Wx K B (Zr K B none SH res.2 (OK res.2) 0 0) 0 0 SH 2 M 10 [some (aR 127), some (aI x1)] [] := by
  intro n
  induction n with
  | zero =>
    intro x1 M hOM h
    cases h
  | succ n ih =>
    intro x1 M hOM h
    rw [f_X8_save_10.eq_2] at h
    refine mx_iload_n (pc := 10) C dX8_save_10 rfl ?_
    refine mx_bipush (pc := 11) C dX8_save_11 (z := 6) rfl (by constructor <;> decide) ?_
    refine mx_icmp_ge (pc := 13) (tgt := 46) C dX8_save_13 rfl (fun c1 => ?_) (fun c1 => ?_)
    · rw [if_pos c1] at h
      rw [← Option.some.inj h]
      exact mx_return (pc := 46) C dX8_save_46 hOM ⟨Nat.le_refl _, Nat.le_refl _⟩
    · rw [if_neg c1] at h
      refine mx_aload_n (pc := 16) C dX8_save_16 rfl ?_
      refine mx_getR (pc := 17) (v := 144) C dX8_save_17 so_8 ci_8 (k := 27) (by decide) fl_X8_93 rfl (q := 27) rfl (lay_8_27 hOM) (by decide) ?_
      refine mx_iload_n (pc := 20) C dX8_save_20 rfl ?_
      refine mx_aload_n (pc := 21) C dX8_save_21 rfl ?_
      refine mx_getR (pc := 22) (v := 130) C dX8_save_22 so_8 ci_8 (k := 4) (by decide) fl_X8_23 rfl (q := 4) rfl (lay_8_4 hOM) (by decide) ?_
      refine mx_iload_n (pc := 25) C dX8_save_25 rfl ?_
      obtain ⟨g2, h⟩ := of_gd h
      refine mx_iald (pc := 26) C dX8_save_26 sh_8_4 g2.1 g2.2 ?_
      obtain ⟨g3, h⟩ := of_gd h
      refine mx_iast (pc := 27) C dX8_save_27 sh_8_27 g3.1 g3.2 ?_
      generalize hmM4 : stM M 144 x1 (M 130 x1) = M4 at h ⊢
      replace h := lt_e h
      have hOM4 : OK M4 := by rw [← hmM4]; exact ok_arr hOM sh_8_27 (by decide)
      refine mx_aload_n (pc := 28) C dX8_save_28 rfl ?_
      refine mx_getR (pc := 29) (v := 145) C dX8_save_29 so_8 ci_8 (k := 28) (by decide) fl_X8_96 rfl (q := 28) rfl (lay_8_28 hOM4) (by decide) ?_
      refine mx_iload_n (pc := 32) C dX8_save_32 rfl ?_
      refine mx_aload_n (pc := 33) C dX8_save_33 rfl ?_
      refine mx_getR (pc := 34) (v := 131) C dX8_save_34 so_8 ci_8 (k := 5) (by decide) fl_X8_26 rfl (q := 5) rfl (lay_8_5 hOM4) (by decide) ?_
      refine mx_iload_n (pc := 37) C dX8_save_37 rfl ?_
      obtain ⟨g5, h⟩ := of_gd h
      refine mx_iald (pc := 38) C dX8_save_38 sh_8_5 g5.1 g5.2 ?_
      obtain ⟨g6, h⟩ := of_gd h
      refine mx_iast (pc := 39) C dX8_save_39 sh_8_28 g6.1 g6.2 ?_
      generalize hmM7 : stM M4 145 x1 (M4 131 x1) = M7 at h ⊢
      replace h := lt_e h
      have hOM7 : OK M7 := by rw [← hmM7]; exact ok_arr hOM4 sh_8_28 (by decide)
      refine mx_iinc (pc := 40) C dX8_save_40 (ls' := [some (aR 127), some (aI (w32 (x1 + 1)))]) rfl (by decide) rfl (by constructor <;> decide) rfl rfl ?_
      refine mx_goto (pc := 43) (tgt := 10) C dX8_save_43 rfl ?_
      exact ih (w32 (x1 + 1)) M7 hOM7 h
set_option maxRecDepth 20000 in
set_option maxHeartbeats 4000000 in
theorem m_X8_save {M : Mem} {res : Int × Mem} (hOM : OK M) (h : f_X8_save M = some res) : Mth false yX8_save cX8_save 2 none 1 0 0 SH [aR 127] M none SH res.2 (OK res.2) := by
  refine Mth.of (by decide +kernel) (Nat.le_of_ble_eq_true rfl) (fun K B C => ?_)
  show Wx K B _ 0 0 SH 2 M 0 [some (aR 127), none] []
  unfold f_X8_save at h
  refine mx_aload_n (pc := 0) C dX8_save_0 rfl ?_
  refine mx_aload_n (pc := 1) C dX8_save_1 rfl ?_
  refine mx_getI (pc := 2) C dX8_save_2 so_8 ci_8 (k := 1) (by decide) fl_X8_13 rfl (q := 1) rfl ?_
  refine mx_putI (pc := 5) C dX8_save_5 so_8 ci_8 (k := 26) (by decide) fl_X8_90 (Or.inl rfl) rfl (q := 26) rfl ?_
  generalize hmM1 : stM M 127 26 (M 127 1) = M1 at h ⊢
  replace h := lt_e h
  have hOM1 : OK M1 := by rw [← hmM1]; exact okf_8_26 hOM
  refine mx_iconst (pc := 8) C dX8_save_8 (z := 0) rfl (by constructor <;> decide) ?_
  refine mx_istore_n (pc := 9) C dX8_save_9 (ls' := [some (aR 127), some (aI 0)]) (by decide) rfl rfl ?_
  exact b_X8_save_10 C FU 0 M1 hOM1 h
