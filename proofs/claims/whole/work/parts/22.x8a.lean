def f_X8_in (p1 : Int) (p2 : Int) (p3 : Int) (M : Mem) : Option (Int × Mem) :=
  if p1 < p2 then some (0, M) else if p3 < p1 then some (0, M) else some (1, M)
set_option maxRecDepth 20000 in
set_option maxHeartbeats 4000000 in
theorem m_X8_in {p1 : Int} {p2 : Int} {p3 : Int} {M : Mem} {res : Int × Mem} (hOM : OK M) (h : f_X8_in p1 p2 p3 M = some res) : Mth false yX8_in cX8_in 4 (some .boolean) 1 0 0 SH [aR 127, aI p1, aI p2, aI p3] M (some (aI res.1)) SH res.2 (OK res.2 ∧ (res.1 = 0 ∨ res.1 = 1)) := by
  refine Mth.of (by decide +kernel) (Nat.le_of_ble_eq_true rfl) (fun K B C => ?_)
  show Wx K B _ 0 0 SH 4 M 0 [some (aR 127), some (aI p1), some (aI p2), some (aI p3)] []
  unfold f_X8_in at h
  refine mx_iload_n (pc := 0) C dX8_in_0 rfl ?_
  refine mx_iload_n (pc := 1) C dX8_in_1 rfl ?_
  refine mx_icmp_lt (pc := 2) (tgt := 14) C dX8_in_2 rfl (fun c1 => ?_) (fun c1 => ?_)
  · rw [if_pos c1] at h
    refine mx_iconst (pc := 14) C dX8_in_14 (z := 0) rfl (by constructor <;> decide) ?_
    rw [← Option.some.inj h]
    exact mx_zreturn (pc := 15) C dX8_in_15 (Or.inl rfl) ⟨hOM, (Or.inl rfl)⟩ ⟨Nat.le_refl _, Nat.le_refl _⟩
  · rw [if_neg c1] at h
    refine mx_iload_n (pc := 5) C dX8_in_5 rfl ?_
    refine mx_iload_n (pc := 6) C dX8_in_6 rfl ?_
    refine mx_icmp_gt (pc := 7) (tgt := 14) C dX8_in_7 rfl (fun c2 => ?_) (fun c2 => ?_)
    · rw [if_pos c2] at h
      refine mx_iconst (pc := 14) C dX8_in_14 (z := 0) rfl (by constructor <;> decide) ?_
      rw [← Option.some.inj h]
      exact mx_zreturn (pc := 15) C dX8_in_15 (Or.inl rfl) ⟨hOM, (Or.inl rfl)⟩ ⟨Nat.le_refl _, Nat.le_refl _⟩
    · rw [if_neg c2] at h
      refine mx_iconst (pc := 10) C dX8_in_10 (z := 1) rfl (by constructor <;> decide) ?_
      refine mx_goto (pc := 11) (tgt := 15) C dX8_in_11 rfl ?_
      rw [← Option.some.inj h]
      exact mx_zreturn (pc := 15) C dX8_in_15 (Or.inr rfl) ⟨hOM, (Or.inr rfl)⟩ ⟨Nat.le_refl _, Nat.le_refl _⟩

def f_X8_least0 (p1 : Int) (M : Mem) : Option (Int × Mem) :=
  if 0 ≤ p1 then some (p1, M) else some (0, M)
set_option maxRecDepth 20000 in
set_option maxHeartbeats 4000000 in
theorem m_X8_least0 {p1 : Int} {M : Mem} {res : Int × Mem} (hOM : OK M) (h : f_X8_least0 p1 M = some res) : Mth false yX8_least0 cX8_least0 2 (some .int) 1 0 0 SH [aR 127, aI p1] M (some (aI res.1)) SH res.2 (OK res.2) := by
  refine Mth.of (by decide +kernel) (Nat.le_of_ble_eq_true rfl) (fun K B C => ?_)
  show Wx K B _ 0 0 SH 2 M 0 [some (aR 127), some (aI p1)] []
  unfold f_X8_least0 at h
  refine mx_iload_n (pc := 0) C dX8_least0_0 rfl ?_
  refine mx_if_ge (pc := 1) (tgt := 8) C dX8_least0_1 rfl (fun c1 => ?_) (fun c1 => ?_)
  · rw [if_pos c1] at h
    refine mx_iload_n (pc := 8) C dX8_least0_8 rfl ?_
    rw [← Option.some.inj h]
    exact mx_ireturn (pc := 9) C dX8_least0_9 hOM ⟨Nat.le_refl _, Nat.le_refl _⟩
  · rw [if_neg c1] at h
    refine mx_iconst (pc := 4) C dX8_least0_4 (z := 0) rfl (by constructor <;> decide) ?_
    refine mx_goto (pc := 5) (tgt := 9) C dX8_least0_5 rfl ?_
    rw [← Option.some.inj h]
    exact mx_ireturn (pc := 9) C dX8_least0_9 hOM ⟨Nat.le_refl _, Nat.le_refl _⟩

def f_X8_farOf (p1 : Int) (p2 : Int) (M : Mem) : Option (Int × Mem) :=
  if p1 ≤ p2 then some (w32 (p2 - p1), M) else some (w32 (p1 - p2), M)
set_option maxRecDepth 20000 in
set_option maxHeartbeats 4000000 in
theorem m_X8_farOf {p1 : Int} {p2 : Int} {M : Mem} {res : Int × Mem} (hOM : OK M) (h : f_X8_farOf p1 p2 M = some res) : Mth false yX8_farOf cX8_farOf 3 (some .int) 1 0 0 SH [aR 127, aI p1, aI p2] M (some (aI res.1)) SH res.2 (OK res.2) := by
  refine Mth.of (by decide +kernel) (Nat.le_of_ble_eq_true rfl) (fun K B C => ?_)
  show Wx K B _ 0 0 SH 3 M 0 [some (aR 127), some (aI p1), some (aI p2)] []
  unfold f_X8_farOf at h
  refine mx_iload_n (pc := 0) C dX8_farOf_0 rfl ?_
  refine mx_iload_n (pc := 1) C dX8_farOf_1 rfl ?_
  refine mx_icmp_le (pc := 2) (tgt := 11) C dX8_farOf_2 rfl (fun c1 => ?_) (fun c1 => ?_)
  · rw [if_pos c1] at h
    refine mx_iload_n (pc := 11) C dX8_farOf_11 rfl ?_
    refine mx_iload_n (pc := 12) C dX8_farOf_12 rfl ?_
    refine mx_isub (pc := 13) C dX8_farOf_13  ?_
    rw [← Option.some.inj h]
    exact mx_ireturn (pc := 14) C dX8_farOf_14 hOM ⟨Nat.le_refl _, Nat.le_refl _⟩
  · rw [if_neg c1] at h
    refine mx_iload_n (pc := 5) C dX8_farOf_5 rfl ?_
    refine mx_iload_n (pc := 6) C dX8_farOf_6 rfl ?_
    refine mx_isub (pc := 7) C dX8_farOf_7  ?_
    refine mx_goto (pc := 8) (tgt := 14) C dX8_farOf_8 rfl ?_
    rw [← Option.some.inj h]
    exact mx_ireturn (pc := 14) C dX8_farOf_14 hOM ⟨Nat.le_refl _, Nat.le_refl _⟩

def f_X8_isSound (p1 : Int) (M : Mem) : Option (Int × Mem) :=
  (f_X8_in p1 0 (w32 ((M 127 0) - 1)) M).bind (fun q1 => some (q1.1, q1.2))
set_option maxRecDepth 20000 in
set_option maxHeartbeats 4000000 in
theorem m_X8_isSound {p1 : Int} {M : Mem} {res : Int × Mem} (hOM : OK M) (h : f_X8_isSound p1 M = some res) : Mth false yX8_isSound cX8_isSound 2 (some .boolean) 2 0 0 SH [aR 127, aI p1] M (some (aI res.1)) SH res.2 (OK res.2 ∧ (res.1 = 0 ∨ res.1 = 1)) := by
  refine Mth.of (by decide +kernel) (Nat.le_of_ble_eq_true rfl) (fun K B C => ?_)
  show Wx K B _ 0 0 SH 2 M 0 [some (aR 127), some (aI p1)] []
  unfold f_X8_isSound at h
  refine mx_aload_n (pc := 0) C dX8_isSound_0 rfl ?_
  refine mx_iload_n (pc := 1) C dX8_isSound_1 rfl ?_
  refine mx_iconst (pc := 2) C dX8_isSound_2 (z := 0) rfl (by constructor <;> decide) ?_
  refine mx_aload_n (pc := 3) C dX8_isSound_3 rfl ?_
  refine mx_getI (pc := 4) C dX8_isSound_4 so_8 ci_8 (k := 0) (by decide) fl_X8_7 rfl (q := 0) rfl ?_
  refine mx_iconst (pc := 7) C dX8_isSound_7 (z := 1) rfl (by constructor <;> decide) ?_
  refine mx_isub (pc := 8) C dX8_isSound_8  ?_
  obtain ⟨q1, hq1, h⟩ := of_bd h
  refine mc_V (pc := 9) (as := [aI p1, aI 0, aI (w32 ((M 127 0) - 1))]) (rest := []) (stk2 := [aI q1.1]) C ⟨Nat.le_refl _, Nat.le_refl _⟩ (m_X8_in hOM hq1) mi_X8_in mv_X8_in ml_X8_218 ci_8 rfl so_8 (by omega) rfl (Nat.le_of_ble_eq_true rfl) dX8_isSound_9 rfl (fun hp2 => ?_)
  have hOq1 : OK q1.2 := hp2.1
  rw [← Option.some.inj h]
  exact mx_zreturn (pc := 12) C dX8_isSound_12 hp2.2 ⟨hOq1, hp2.2⟩ ⟨Nat.le_refl _, Nat.le_refl _⟩

def f_X8_isHouse (p1 : Int) (M : Mem) : Option (Int × Mem) :=
  (f_X8_in p1 0 4 M).bind (fun q1 => some (q1.1, q1.2))
set_option maxRecDepth 20000 in
set_option maxHeartbeats 4000000 in
theorem m_X8_isHouse {p1 : Int} {M : Mem} {res : Int × Mem} (hOM : OK M) (h : f_X8_isHouse p1 M = some res) : Mth false yX8_isHouse cX8_isHouse 2 (some .boolean) 2 0 0 SH [aR 127, aI p1] M (some (aI res.1)) SH res.2 (OK res.2 ∧ (res.1 = 0 ∨ res.1 = 1)) := by
  refine Mth.of (by decide +kernel) (Nat.le_of_ble_eq_true rfl) (fun K B C => ?_)
  show Wx K B _ 0 0 SH 2 M 0 [some (aR 127), some (aI p1)] []
  unfold f_X8_isHouse at h
  refine mx_aload_n (pc := 0) C dX8_isHouse_0 rfl ?_
  refine mx_iload_n (pc := 1) C dX8_isHouse_1 rfl ?_
  refine mx_iconst (pc := 2) C dX8_isHouse_2 (z := 0) rfl (by constructor <;> decide) ?_
  refine mx_iconst (pc := 3) C dX8_isHouse_3 (z := 4) rfl (by constructor <;> decide) ?_
  obtain ⟨q1, hq1, h⟩ := of_bd h
  refine mc_V (pc := 4) (as := [aI p1, aI 0, aI 4]) (rest := []) (stk2 := [aI q1.1]) C ⟨Nat.le_refl _, Nat.le_refl _⟩ (m_X8_in hOM hq1) mi_X8_in mv_X8_in ml_X8_218 ci_8 rfl so_8 (by omega) rfl (Nat.le_of_ble_eq_true rfl) dX8_isHouse_4 rfl (fun hp2 => ?_)
  have hOq1 : OK q1.2 := hp2.1
  rw [← Option.some.inj h]
  exact mx_zreturn (pc := 7) C dX8_isHouse_7 hp2.2 ⟨hOq1, hp2.2⟩ ⟨Nat.le_refl _, Nat.le_refl _⟩

def f_X8_isLoud (p1 : Int) (M : Mem) : Option (Int × Mem) :=
  (f_X8_in p1 0 99 M).bind (fun q1 => some (q1.1, q1.2))
set_option maxRecDepth 20000 in
set_option maxHeartbeats 4000000 in
theorem m_X8_isLoud {p1 : Int} {M : Mem} {res : Int × Mem} (hOM : OK M) (h : f_X8_isLoud p1 M = some res) : Mth false yX8_isLoud cX8_isLoud 2 (some .boolean) 2 0 0 SH [aR 127, aI p1] M (some (aI res.1)) SH res.2 (OK res.2 ∧ (res.1 = 0 ∨ res.1 = 1)) := by
  refine Mth.of (by decide +kernel) (Nat.le_of_ble_eq_true rfl) (fun K B C => ?_)
  show Wx K B _ 0 0 SH 2 M 0 [some (aR 127), some (aI p1)] []
  unfold f_X8_isLoud at h
  refine mx_aload_n (pc := 0) C dX8_isLoud_0 rfl ?_
  refine mx_iload_n (pc := 1) C dX8_isLoud_1 rfl ?_
  refine mx_iconst (pc := 2) C dX8_isLoud_2 (z := 0) rfl (by constructor <;> decide) ?_
  refine mx_bipush (pc := 3) C dX8_isLoud_3 (z := 99) rfl (by constructor <;> decide) ?_
  obtain ⟨q1, hq1, h⟩ := of_bd h
  refine mc_V (pc := 5) (as := [aI p1, aI 0, aI 99]) (rest := []) (stk2 := [aI q1.1]) C ⟨Nat.le_refl _, Nat.le_refl _⟩ (m_X8_in hOM hq1) mi_X8_in mv_X8_in ml_X8_218 ci_8 rfl so_8 (by omega) rfl (Nat.le_of_ble_eq_true rfl) dX8_isLoud_5 rfl (fun hp2 => ?_)
  have hOq1 : OK q1.2 := hp2.1
  rw [← Option.some.inj h]
  exact mx_zreturn (pc := 8) C dX8_isLoud_8 hp2.2 ⟨hOq1, hp2.2⟩ ⟨Nat.le_refl _, Nat.le_refl _⟩

def f_X8_isYears (p1 : Int) (M : Mem) : Option (Int × Mem) :=
  (f_X8_in p1 0 60 M).bind (fun q1 => some (q1.1, q1.2))
set_option maxRecDepth 20000 in
set_option maxHeartbeats 4000000 in
theorem m_X8_isYears {p1 : Int} {M : Mem} {res : Int × Mem} (hOM : OK M) (h : f_X8_isYears p1 M = some res) : Mth false yX8_isYears cX8_isYears 2 (some .boolean) 2 0 0 SH [aR 127, aI p1] M (some (aI res.1)) SH res.2 (OK res.2 ∧ (res.1 = 0 ∨ res.1 = 1)) := by
  refine Mth.of (by decide +kernel) (Nat.le_of_ble_eq_true rfl) (fun K B C => ?_)
  show Wx K B _ 0 0 SH 2 M 0 [some (aR 127), some (aI p1)] []
  unfold f_X8_isYears at h
  refine mx_aload_n (pc := 0) C dX8_isYears_0 rfl ?_
  refine mx_iload_n (pc := 1) C dX8_isYears_1 rfl ?_
  refine mx_iconst (pc := 2) C dX8_isYears_2 (z := 0) rfl (by constructor <;> decide) ?_
  refine mx_bipush (pc := 3) C dX8_isYears_3 (z := 60) rfl (by constructor <;> decide) ?_
  obtain ⟨q1, hq1, h⟩ := of_bd h
  refine mc_V (pc := 5) (as := [aI p1, aI 0, aI 60]) (rest := []) (stk2 := [aI q1.1]) C ⟨Nat.le_refl _, Nat.le_refl _⟩ (m_X8_in hOM hq1) mi_X8_in mv_X8_in ml_X8_218 ci_8 rfl so_8 (by omega) rfl (Nat.le_of_ble_eq_true rfl) dX8_isYears_5 rfl (fun hp2 => ?_)
  have hOq1 : OK q1.2 := hp2.1
  rw [← Option.some.inj h]
  exact mx_zreturn (pc := 8) C dX8_isYears_8 hp2.2 ⟨hOq1, hp2.2⟩ ⟨Nat.le_refl _, Nat.le_refl _⟩

def f_X8_isLost (p1 : Int) (M : Mem) : Option (Int × Mem) :=
  if 0 ≤ p1 ∧ p1 < 6 then if M 131 p1 = (-5) then some (1, M) else some (0, M) else none
set_option maxRecDepth 20000 in
set_option maxHeartbeats 4000000 in
theorem m_X8_isLost {p1 : Int} {M : Mem} {res : Int × Mem} (hOM : OK M) (h : f_X8_isLost p1 M = some res) : Mth false yX8_isLost cX8_isLost 2 (some .boolean) 1 0 0 SH [aR 127, aI p1] M (some (aI res.1)) SH res.2 (OK res.2 ∧ (res.1 = 0 ∨ res.1 = 1)) := by
  refine Mth.of (by decide +kernel) (Nat.le_of_ble_eq_true rfl) (fun K B C => ?_)
  show Wx K B _ 0 0 SH 2 M 0 [some (aR 127), some (aI p1)] []
  unfold f_X8_isLost at h
  refine mx_aload_n (pc := 0) C dX8_isLost_0 rfl ?_
  refine mx_getR (pc := 1) (v := 131) C dX8_isLost_1 so_8 ci_8 (k := 5) (by decide) fl_X8_26 rfl (q := 5) rfl (lay_8_5 hOM) (by decide) ?_
  refine mx_iload_n (pc := 4) C dX8_isLost_4 rfl ?_
  obtain ⟨g1, h⟩ := of_gd h
  refine mx_iald (pc := 5) C dX8_isLost_5 sh_8_5 g1.1 g1.2 ?_
  refine mx_bipush (pc := 6) C dX8_isLost_6 (z := (-5)) rfl (by constructor <;> decide) ?_
  refine mx_icmp_ne (pc := 8) (tgt := 15) C dX8_isLost_8 rfl (fun c2 => ?_) (fun c2 => ?_)
  · rw [if_neg c2] at h
    refine mx_iconst (pc := 15) C dX8_isLost_15 (z := 0) rfl (by constructor <;> decide) ?_
    rw [← Option.some.inj h]
    exact mx_zreturn (pc := 16) C dX8_isLost_16 (Or.inl rfl) ⟨hOM, (Or.inl rfl)⟩ ⟨Nat.le_refl _, Nat.le_refl _⟩
  · rw [if_pos c2] at h
    refine mx_iconst (pc := 11) C dX8_isLost_11 (z := 1) rfl (by constructor <;> decide) ?_
    refine mx_goto (pc := 12) (tgt := 16) C dX8_isLost_12 rfl ?_
    rw [← Option.some.inj h]
    exact mx_zreturn (pc := 16) C dX8_isLost_16 (Or.inr rfl) ⟨hOM, (Or.inr rfl)⟩ ⟨Nat.le_refl _, Nat.le_refl _⟩

def f_X8_sound_100 (p1 : Int) (p2 : Int) (p3 : Int) (p4 : Int) : Nat → Int → Mem → Option (Int × Mem)
  | 0, _, _ => none
  | n + 1, x5, M => if 4 ≤ x5 then lt (stM M 127 0 (w32 ((M 127 0) + 1))) (fun M2 => some (w32 ((M2 127 0) - 1), M2)) else if 0 ≤ w32 ((w32 (4 * (M 127 0))) + x5) ∧ w32 ((w32 (4 * (M 127 0))) + x5) < 24 then lt (stM M 132 (w32 ((w32 (4 * (M 127 0))) + x5)) 0) (fun M4 => f_X8_sound_100 p1 p2 p3 p4 n (w32 (x5 + 1)) M4) else none
def f_X8_sound (p1 : Int) (p2 : Int) (p3 : Int) (p4 : Int) (M : Mem) : Option (Int × Mem) :=
  (f_X8_in p1 0 6 M).bind (fun q1 => if q1.1 = 0 then some ((-1), q1.2) else (f_X8_isHouse p4 q1.2).bind (fun q4 => if q4.1 = 0 then some ((-1), q4.2) else (f_X8_in p2 0 9 q4.2).bind (fun q7 => if q7.1 = 0 then some ((-2), q7.2) else (f_X8_isLoud p3 q7.2).bind (fun q10 => if q10.1 = 0 then some ((-2), q10.2) else if q10.2 127 0 = 6 then some ((-4), q10.2) else if 0 ≤ q10.2 127 0 ∧ q10.2 127 0 < 6 then lt (stM q10.2 128 (q10.2 127 0) p1) (fun M15 => if 0 ≤ M15 127 0 ∧ M15 127 0 < 6 then lt (stM M15 129 (M15 127 0) p2) (fun M17 => if 0 ≤ M17 127 0 ∧ M17 127 0 < 6 then lt (stM M17 130 (M17 127 0) p3) (fun M19 => if 0 ≤ M19 127 0 ∧ M19 127 0 < 6 then lt (stM M19 131 (M19 127 0) p4) (fun M21 => f_X8_sound_100 p1 p2 p3 p4 FU 0 M21) else none) else none) else none) else none))))
set_option maxRecDepth 20000 in
set_option maxHeartbeats 4000000 in
theorem b_X8_sound_100 {K : KX} {B : BX} {res : Int × Mem} {p1 : Int} {p2 : Int} {p3 : Int} {p4 : Int} (C : Cx K B false yX8_sound cX8_sound 6 (some .int) 3 0 0) : ∀ (n : Nat) (x5 : Int) (M : Mem), OK M → f_X8_sound_100 p1 p2 p3 p4 n x5 M = some res → Wx K B (Zr K B (some (aI res.1)) SH res.2 (OK res.2) 0 0) 0 0 SH 6 M 100 [some (aR 127), none, none, none, none, some (aI x5)] [] := by
  intro n
  induction n with
  | zero =>
    intro x5 M hOM h
    cases h
  | succ n ih =>
    intro x5 M hOM h
    rw [f_X8_sound_100.eq_2] at h
    refine mx_iload (pc := 100) C dX8_sound_100 rfl ?_
    refine mx_iconst (pc := 102) C dX8_sound_102 (z := 4) rfl (by constructor <;> decide) ?_
    refine mx_icmp_ge (pc := 103) (tgt := 127) C dX8_sound_103 rfl (fun c1 => ?_) (fun c1 => ?_)
    · rw [if_pos c1] at h
      refine mx_aload_n (pc := 127) C dX8_sound_127 rfl ?_
      refine mx_dup (pc := 128) C dX8_sound_128 rfl ?_
      refine mx_getI (pc := 129) C dX8_sound_129 so_8 ci_8 (k := 0) (by decide) fl_X8_7 rfl (q := 0) rfl ?_
      refine mx_iconst (pc := 132) C dX8_sound_132 (z := 1) rfl (by constructor <;> decide) ?_
      refine mx_iadd (pc := 133) C dX8_sound_133  ?_
      refine mx_putI (pc := 134) C dX8_sound_134 so_8 ci_8 (k := 0) (by decide) fl_X8_7 (Or.inl rfl) rfl (q := 0) rfl ?_
      generalize hmM2 : stM M 127 0 (w32 ((M 127 0) + 1)) = M2 at h ⊢
      replace h := lt_e h
      have hOM2 : OK M2 := by rw [← hmM2]; exact okf_8_0 hOM
      refine mx_aload_n (pc := 137) C dX8_sound_137 rfl ?_
      refine mx_getI (pc := 138) C dX8_sound_138 so_8 ci_8 (k := 0) (by decide) fl_X8_7 rfl (q := 0) rfl ?_
      refine mx_iconst (pc := 141) C dX8_sound_141 (z := 1) rfl (by constructor <;> decide) ?_
      refine mx_isub (pc := 142) C dX8_sound_142  ?_
      rw [← Option.some.inj h]
      exact mx_ireturn (pc := 143) C dX8_sound_143 hOM2 ⟨Nat.le_refl _, Nat.le_refl _⟩
    · rw [if_neg c1] at h
      refine mx_aload_n (pc := 106) C dX8_sound_106 rfl ?_
      refine mx_getR (pc := 107) (v := 132) C dX8_sound_107 so_8 ci_8 (k := 6) (by decide) fl_X8_29 rfl (q := 6) rfl (lay_8_6 hOM) (by decide) ?_
      refine mx_iconst (pc := 110) C dX8_sound_110 (z := 4) rfl (by constructor <;> decide) ?_
      refine mx_aload_n (pc := 111) C dX8_sound_111 rfl ?_
      refine mx_getI (pc := 112) C dX8_sound_112 so_8 ci_8 (k := 0) (by decide) fl_X8_7 rfl (q := 0) rfl ?_
      refine mx_imul (pc := 115) C dX8_sound_115  ?_
      refine mx_iload (pc := 116) C dX8_sound_116 rfl ?_
      refine mx_iadd (pc := 118) C dX8_sound_118  ?_
      refine mx_iconst (pc := 119) C dX8_sound_119 (z := 0) rfl (by constructor <;> decide) ?_
      obtain ⟨g3, h⟩ := of_gd h
      refine mx_iast (pc := 120) C dX8_sound_120 sh_8_6 g3.1 g3.2 ?_
      generalize hmM4 : stM M 132 (w32 ((w32 (4 * (M 127 0))) + x5)) 0 = M4 at h ⊢
      replace h := lt_e h
      have hOM4 : OK M4 := by rw [← hmM4]; exact ok_arr hOM sh_8_6 (by decide)
      refine mx_iinc (pc := 121) C dX8_sound_121 (ls' := [some (aR 127), none, none, none, none, some (aI (w32 (x5 + 1)))]) rfl (by decide) rfl (by constructor <;> decide) rfl rfl ?_
      refine mx_goto (pc := 124) (tgt := 100) C dX8_sound_124 rfl ?_
      exact ih (w32 (x5 + 1)) M4 hOM4 h
set_option maxRecDepth 20000 in
set_option maxHeartbeats 4000000 in
theorem m_X8_sound {p1 : Int} {p2 : Int} {p3 : Int} {p4 : Int} {M : Mem} {res : Int × Mem} (hOM : OK M) (h : f_X8_sound p1 p2 p3 p4 M = some res) : Mth false yX8_sound cX8_sound 6 (some .int) 3 0 0 SH [aR 127, aI p1, aI p2, aI p3, aI p4] M (some (aI res.1)) SH res.2 (OK res.2) := by
  refine Mth.of (by decide +kernel) (Nat.le_of_ble_eq_true rfl) (fun K B C => ?_)
  show Wx K B _ 0 0 SH 6 M 0 [some (aR 127), some (aI p1), some (aI p2), some (aI p3), some (aI p4), none] []
  unfold f_X8_sound at h
  refine mx_aload_n (pc := 0) C dX8_sound_0 rfl ?_
  refine mx_iload_n (pc := 1) C dX8_sound_1 rfl ?_
  refine mx_iconst (pc := 2) C dX8_sound_2 (z := 0) rfl (by constructor <;> decide) ?_
  refine mx_bipush (pc := 3) C dX8_sound_3 (z := 6) rfl (by constructor <;> decide) ?_
  obtain ⟨q1, hq1, h⟩ := of_bd h
  refine mc_V (pc := 5) (as := [aI p1, aI 0, aI 6]) (rest := []) (stk2 := [aI q1.1]) C ⟨Nat.le_refl _, Nat.le_refl _⟩ (m_X8_in hOM hq1) mi_X8_in mv_X8_in ml_X8_218 ci_8 rfl so_8 (by omega) rfl (Nat.le_of_ble_eq_true rfl) dX8_sound_5 rfl (fun hp2 => ?_)
  have hOq1 : OK q1.2 := hp2.1
  refine mx_if_eq (pc := 8) (tgt := 20) C dX8_sound_8 rfl (fun c3 => ?_) (fun c3 => ?_)
  · rw [if_pos c3] at h
    refine mx_iconst (pc := 20) C dX8_sound_20 (z := (-1)) rfl (by constructor <;> decide) ?_
    rw [← Option.some.inj h]
    exact mx_ireturn (pc := 21) C dX8_sound_21 hOq1 ⟨Nat.le_refl _, Nat.le_refl _⟩
  · rw [if_neg c3] at h
    refine mx_aload_n (pc := 11) C dX8_sound_11 rfl ?_
    refine mx_iload (pc := 12) C dX8_sound_12 rfl ?_
    obtain ⟨q4, hq4, h⟩ := of_bd h
    refine mc_V (pc := 14) (as := [aI p4]) (rest := []) (stk2 := [aI q4.1]) C ⟨Nat.le_refl _, Nat.le_refl _⟩ (m_X8_isHouse hOq1 hq4) mi_X8_isHouse mv_X8_isHouse ml_X8_222 ci_8 rfl so_8 (by omega) rfl (Nat.le_of_ble_eq_true rfl) dX8_sound_14 rfl (fun hp5 => ?_)
    have hOq4 : OK q4.2 := hp5.1
    refine mx_if_ne (pc := 17) (tgt := 22) C dX8_sound_17 rfl (fun c6 => ?_) (fun c6 => ?_)
    · rw [if_neg c6] at h
      refine mx_aload_n (pc := 22) C dX8_sound_22 rfl ?_
      refine mx_iload_n (pc := 23) C dX8_sound_23 rfl ?_
      refine mx_iconst (pc := 24) C dX8_sound_24 (z := 0) rfl (by constructor <;> decide) ?_
      refine mx_bipush (pc := 25) C dX8_sound_25 (z := 9) rfl (by constructor <;> decide) ?_
      obtain ⟨q7, hq7, h⟩ := of_bd h
      refine mc_V (pc := 27) (as := [aI p2, aI 0, aI 9]) (rest := []) (stk2 := [aI q7.1]) C ⟨Nat.le_refl _, Nat.le_refl _⟩ (m_X8_in hOq4 hq7) mi_X8_in mv_X8_in ml_X8_218 ci_8 rfl so_8 (by omega) rfl (Nat.le_of_ble_eq_true rfl) dX8_sound_27 rfl (fun hp8 => ?_)
      have hOq7 : OK q7.2 := hp8.1
      refine mx_if_eq (pc := 30) (tgt := 41) C dX8_sound_30 rfl (fun c9 => ?_) (fun c9 => ?_)
      · rw [if_pos c9] at h
        refine mx_bipush (pc := 41) C dX8_sound_41 (z := (-2)) rfl (by constructor <;> decide) ?_
        rw [← Option.some.inj h]
        exact mx_ireturn (pc := 43) C dX8_sound_43 hOq7 ⟨Nat.le_refl _, Nat.le_refl _⟩
      · rw [if_neg c9] at h
        refine mx_aload_n (pc := 33) C dX8_sound_33 rfl ?_
        refine mx_iload_n (pc := 34) C dX8_sound_34 rfl ?_
        obtain ⟨q10, hq10, h⟩ := of_bd h
        refine mc_V (pc := 35) (as := [aI p3]) (rest := []) (stk2 := [aI q10.1]) C ⟨Nat.le_refl _, Nat.le_refl _⟩ (m_X8_isLoud hOq7 hq10) mi_X8_isLoud mv_X8_isLoud ml_X8_226 ci_8 rfl so_8 (by omega) rfl (Nat.le_of_ble_eq_true rfl) dX8_sound_35 rfl (fun hp11 => ?_)
        have hOq10 : OK q10.2 := hp11.1
        refine mx_if_ne (pc := 38) (tgt := 44) C dX8_sound_38 rfl (fun c12 => ?_) (fun c12 => ?_)
        · rw [if_neg c12] at h
          refine mx_aload_n (pc := 44) C dX8_sound_44 rfl ?_
          refine mx_getI (pc := 45) C dX8_sound_45 so_8 ci_8 (k := 0) (by decide) fl_X8_7 rfl (q := 0) rfl ?_
          refine mx_bipush (pc := 48) C dX8_sound_48 (z := 6) rfl (by constructor <;> decide) ?_
          refine mx_icmp_ne (pc := 50) (tgt := 56) C dX8_sound_50 rfl (fun c13 => ?_) (fun c13 => ?_)
          · rw [if_neg c13] at h
            refine mx_aload_n (pc := 56) C dX8_sound_56 rfl ?_
            refine mx_getR (pc := 57) (v := 128) C dX8_sound_57 so_8 ci_8 (k := 2) (by decide) fl_X8_16 rfl (q := 2) rfl (lay_8_2 hOq10) (by decide) ?_
            refine mx_aload_n (pc := 60) C dX8_sound_60 rfl ?_
            refine mx_getI (pc := 61) C dX8_sound_61 so_8 ci_8 (k := 0) (by decide) fl_X8_7 rfl (q := 0) rfl ?_
            refine mx_iload_n (pc := 64) C dX8_sound_64 rfl ?_
            obtain ⟨g14, h⟩ := of_gd h
            refine mx_iast (pc := 65) C dX8_sound_65 sh_8_2 g14.1 g14.2 ?_
            generalize hmM15 : stM q10.2 128 (q10.2 127 0) p1 = M15 at h ⊢
            replace h := lt_e h
            have hOM15 : OK M15 := by rw [← hmM15]; exact ok_arr hOq10 sh_8_2 (by decide)
            refine mx_aload_n (pc := 66) C dX8_sound_66 rfl ?_
            refine mx_getR (pc := 67) (v := 129) C dX8_sound_67 so_8 ci_8 (k := 3) (by decide) fl_X8_20 rfl (q := 3) rfl (lay_8_3 hOM15) (by decide) ?_
            refine mx_aload_n (pc := 70) C dX8_sound_70 rfl ?_
            refine mx_getI (pc := 71) C dX8_sound_71 so_8 ci_8 (k := 0) (by decide) fl_X8_7 rfl (q := 0) rfl ?_
            refine mx_iload_n (pc := 74) C dX8_sound_74 rfl ?_
            obtain ⟨g16, h⟩ := of_gd h
            refine mx_iast (pc := 75) C dX8_sound_75 sh_8_3 g16.1 g16.2 ?_
            generalize hmM17 : stM M15 129 (M15 127 0) p2 = M17 at h ⊢
            replace h := lt_e h
            have hOM17 : OK M17 := by rw [← hmM17]; exact ok_arr hOM15 sh_8_3 (by decide)
            refine mx_aload_n (pc := 76) C dX8_sound_76 rfl ?_
            refine mx_getR (pc := 77) (v := 130) C dX8_sound_77 so_8 ci_8 (k := 4) (by decide) fl_X8_23 rfl (q := 4) rfl (lay_8_4 hOM17) (by decide) ?_
            refine mx_aload_n (pc := 80) C dX8_sound_80 rfl ?_
            refine mx_getI (pc := 81) C dX8_sound_81 so_8 ci_8 (k := 0) (by decide) fl_X8_7 rfl (q := 0) rfl ?_
            refine mx_iload_n (pc := 84) C dX8_sound_84 rfl ?_
            obtain ⟨g18, h⟩ := of_gd h
            refine mx_iast (pc := 85) C dX8_sound_85 sh_8_4 g18.1 g18.2 ?_
            generalize hmM19 : stM M17 130 (M17 127 0) p3 = M19 at h ⊢
            replace h := lt_e h
            have hOM19 : OK M19 := by rw [← hmM19]; exact ok_arr hOM17 sh_8_4 (by decide)
            refine mx_aload_n (pc := 86) C dX8_sound_86 rfl ?_
            refine mx_getR (pc := 87) (v := 131) C dX8_sound_87 so_8 ci_8 (k := 5) (by decide) fl_X8_26 rfl (q := 5) rfl (lay_8_5 hOM19) (by decide) ?_
            refine mx_aload_n (pc := 90) C dX8_sound_90 rfl ?_
            refine mx_getI (pc := 91) C dX8_sound_91 so_8 ci_8 (k := 0) (by decide) fl_X8_7 rfl (q := 0) rfl ?_
            refine mx_iload (pc := 94) C dX8_sound_94 rfl ?_
            obtain ⟨g20, h⟩ := of_gd h
            refine mx_iast (pc := 96) C dX8_sound_96 sh_8_5 g20.1 g20.2 ?_
            generalize hmM21 : stM M19 131 (M19 127 0) p4 = M21 at h ⊢
            replace h := lt_e h
            have hOM21 : OK M21 := by rw [← hmM21]; exact ok_arr hOM19 sh_8_5 (by decide)
            refine mx_iconst (pc := 97) C dX8_sound_97 (z := 0) rfl (by constructor <;> decide) ?_
            refine mx_istore (pc := 98) C dX8_sound_98 (ls' := [some (aR 127), some (aI p1), some (aI p2), some (aI p3), some (aI p4), some (aI 0)]) (by decide) rfl rfl ?_
            refine mx_mask [true, false, false, false, false, true] (ls' := [some (aR 127), none, none, none, none, some (aI 0)]) rfl rfl ?_
            exact b_X8_sound_100 C FU 0 M21 hOM21 h
          · rw [if_pos c13] at h
            refine mx_bipush (pc := 53) C dX8_sound_53 (z := (-4)) rfl (by constructor <;> decide) ?_
            rw [← Option.some.inj h]
            exact mx_ireturn (pc := 55) C dX8_sound_55 hOq10 ⟨Nat.le_refl _, Nat.le_refl _⟩
        · rw [if_pos c12] at h
          refine mx_bipush (pc := 41) C dX8_sound_41 (z := (-2)) rfl (by constructor <;> decide) ?_
          rw [← Option.some.inj h]
          exact mx_ireturn (pc := 43) C dX8_sound_43 hOq10 ⟨Nat.le_refl _, Nat.le_refl _⟩
    · rw [if_pos c6] at h
      refine mx_iconst (pc := 20) C dX8_sound_20 (z := (-1)) rfl (by constructor <;> decide) ?_
      rw [← Option.some.inj h]
      exact mx_ireturn (pc := 21) C dX8_sound_21 hOq4 ⟨Nat.le_refl _, Nat.le_refl _⟩

def f_X8_set (p1 : Int) (p2 : Int) (M : Mem) : Option (Int × Mem) :=
  (f_X8_isSound p1 M).bind (fun q1 => if q1.1 = 0 then some ((-1), q1.2) else (f_X8_isLoud p2 q1.2).bind (fun q4 => if q4.1 = 0 then some ((-2), q4.2) else if 0 ≤ p1 ∧ p1 < 6 then if 0 ≤ p1 ∧ p1 < 6 then lt (stM q4.2 130 p1 p2) (fun M9 => some (q4.2 130 p1, M9)) else none else none))
set_option maxRecDepth 20000 in
set_option maxHeartbeats 4000000 in
theorem m_X8_set {p1 : Int} {p2 : Int} {M : Mem} {res : Int × Mem} (hOM : OK M) (h : f_X8_set p1 p2 M = some res) : Mth false yX8_set cX8_set 4 (some .int) 3 0 0 SH [aR 127, aI p1, aI p2] M (some (aI res.1)) SH res.2 (OK res.2) := by
  refine Mth.of (by decide +kernel) (Nat.le_of_ble_eq_true rfl) (fun K B C => ?_)
  show Wx K B _ 0 0 SH 4 M 0 [some (aR 127), some (aI p1), some (aI p2), none] []
  unfold f_X8_set at h
  refine mx_aload_n (pc := 0) C dX8_set_0 rfl ?_
  refine mx_iload_n (pc := 1) C dX8_set_1 rfl ?_
  obtain ⟨q1, hq1, h⟩ := of_bd h
  refine mc_V (pc := 2) (as := [aI p1]) (rest := []) (stk2 := [aI q1.1]) C ⟨Nat.le_refl _, Nat.le_refl _⟩ (m_X8_isSound hOM hq1) mi_X8_isSound mv_X8_isSound ml_X8_229 ci_8 rfl so_8 (by omega) rfl (Nat.le_of_ble_eq_true rfl) dX8_set_2 rfl (fun hp2 => ?_)
  have hOq1 : OK q1.2 := hp2.1
  refine mx_if_ne (pc := 5) (tgt := 10) C dX8_set_5 rfl (fun c3 => ?_) (fun c3 => ?_)
  · rw [if_neg c3] at h
    refine mx_aload_n (pc := 10) C dX8_set_10 rfl ?_
    refine mx_iload_n (pc := 11) C dX8_set_11 rfl ?_
    obtain ⟨q4, hq4, h⟩ := of_bd h
    refine mc_V (pc := 12) (as := [aI p2]) (rest := []) (stk2 := [aI q4.1]) C ⟨Nat.le_refl _, Nat.le_refl _⟩ (m_X8_isLoud hOq1 hq4) mi_X8_isLoud mv_X8_isLoud ml_X8_226 ci_8 rfl so_8 (by omega) rfl (Nat.le_of_ble_eq_true rfl) dX8_set_12 rfl (fun hp5 => ?_)
    have hOq4 : OK q4.2 := hp5.1
    refine mx_if_ne (pc := 15) (tgt := 21) C dX8_set_15 rfl (fun c6 => ?_) (fun c6 => ?_)
    · rw [if_neg c6] at h
      refine mx_aload_n (pc := 21) C dX8_set_21 rfl ?_
      refine mx_getR (pc := 22) (v := 130) C dX8_set_22 so_8 ci_8 (k := 4) (by decide) fl_X8_23 rfl (q := 4) rfl (lay_8_4 hOq4) (by decide) ?_
      refine mx_iload_n (pc := 25) C dX8_set_25 rfl ?_
      obtain ⟨g7, h⟩ := of_gd h
      refine mx_iald (pc := 26) C dX8_set_26 sh_8_4 g7.1 g7.2 ?_
      refine mx_istore_n (pc := 27) C dX8_set_27 (ls' := [some (aR 127), some (aI p1), some (aI p2), some (aI (q4.2 130 p1))]) (by decide) rfl rfl ?_
      refine mx_aload_n (pc := 28) C dX8_set_28 rfl ?_
      refine mx_getR (pc := 29) (v := 130) C dX8_set_29 so_8 ci_8 (k := 4) (by decide) fl_X8_23 rfl (q := 4) rfl (lay_8_4 hOq4) (by decide) ?_
      refine mx_iload_n (pc := 32) C dX8_set_32 rfl ?_
      refine mx_iload_n (pc := 33) C dX8_set_33 rfl ?_
      obtain ⟨g8, h⟩ := of_gd h
      refine mx_iast (pc := 34) C dX8_set_34 sh_8_4 g8.1 g8.2 ?_
      generalize hmM9 : stM q4.2 130 p1 p2 = M9 at h ⊢
      replace h := lt_e h
      have hOM9 : OK M9 := by rw [← hmM9]; exact ok_arr hOq4 sh_8_4 (by decide)
      refine mx_iload_n (pc := 35) C dX8_set_35 rfl ?_
      rw [← Option.some.inj h]
      exact mx_ireturn (pc := 36) C dX8_set_36 hOM9 ⟨Nat.le_refl _, Nat.le_refl _⟩
    · rw [if_pos c6] at h
      refine mx_bipush (pc := 18) C dX8_set_18 (z := (-2)) rfl (by constructor <;> decide) ?_
      rw [← Option.some.inj h]
      exact mx_ireturn (pc := 20) C dX8_set_20 hOq4 ⟨Nat.le_refl _, Nat.le_refl _⟩
  · rw [if_pos c3] at h
    refine mx_iconst (pc := 8) C dX8_set_8 (z := (-1)) rfl (by constructor <;> decide) ?_
    rw [← Option.some.inj h]
    exact mx_ireturn (pc := 9) C dX8_set_9 hOq1 ⟨Nat.le_refl _, Nat.le_refl _⟩

def f_X8_row (p1 : Int) (p2 : Int) (p3 : Int) (M : Mem) : Option (Int × Mem) :=
  (f_X8_isSound p1 M).bind (fun q1 => if q1.1 = 0 then some ((-1), q1.2) else (f_X8_in p2 0 3 q1.2).bind (fun q4 => if q4.1 = 0 then some ((-1), q4.2) else (f_X8_in p3 0 9 q4.2).bind (fun q7 => if q7.1 = 0 then some ((-2), q7.2) else if 0 ≤ p1 ∧ p1 < 6 then if q7.2 128 p1 = 6 then if 0 ≤ w32 ((w32 (4 * p1)) + p2) ∧ w32 ((w32 (4 * p1)) + p2) < 24 then if 0 ≤ w32 ((w32 (4 * p1)) + p2) ∧ w32 ((w32 (4 * p1)) + p2) < 24 then lt (stM q7.2 132 (w32 ((w32 (4 * p1)) + p2)) p3) (fun M14 => some (q7.2 132 (w32 ((w32 (4 * p1)) + p2)), M14)) else none else none else some ((-3), q7.2) else none)))
set_option maxRecDepth 20000 in
set_option maxHeartbeats 4000000 in
theorem m_X8_row {p1 : Int} {p2 : Int} {p3 : Int} {M : Mem} {res : Int × Mem} (hOM : OK M) (h : f_X8_row p1 p2 p3 M = some res) : Mth false yX8_row cX8_row 5 (some .int) 3 0 0 SH [aR 127, aI p1, aI p2, aI p3] M (some (aI res.1)) SH res.2 (OK res.2) := by
  refine Mth.of (by decide +kernel) (Nat.le_of_ble_eq_true rfl) (fun K B C => ?_)
  show Wx K B _ 0 0 SH 5 M 0 [some (aR 127), some (aI p1), some (aI p2), some (aI p3), none] []
  unfold f_X8_row at h
  refine mx_aload_n (pc := 0) C dX8_row_0 rfl ?_
  refine mx_iload_n (pc := 1) C dX8_row_1 rfl ?_
  obtain ⟨q1, hq1, h⟩ := of_bd h
  refine mc_V (pc := 2) (as := [aI p1]) (rest := []) (stk2 := [aI q1.1]) C ⟨Nat.le_refl _, Nat.le_refl _⟩ (m_X8_isSound hOM hq1) mi_X8_isSound mv_X8_isSound ml_X8_229 ci_8 rfl so_8 (by omega) rfl (Nat.le_of_ble_eq_true rfl) dX8_row_2 rfl (fun hp2 => ?_)
  have hOq1 : OK q1.2 := hp2.1
  refine mx_if_eq (pc := 5) (tgt := 18) C dX8_row_5 rfl (fun c3 => ?_) (fun c3 => ?_)
  · rw [if_pos c3] at h
    refine mx_iconst (pc := 18) C dX8_row_18 (z := (-1)) rfl (by constructor <;> decide) ?_
    rw [← Option.some.inj h]
    exact mx_ireturn (pc := 19) C dX8_row_19 hOq1 ⟨Nat.le_refl _, Nat.le_refl _⟩
  · rw [if_neg c3] at h
    refine mx_aload_n (pc := 8) C dX8_row_8 rfl ?_
    refine mx_iload_n (pc := 9) C dX8_row_9 rfl ?_
    refine mx_iconst (pc := 10) C dX8_row_10 (z := 0) rfl (by constructor <;> decide) ?_
    refine mx_iconst (pc := 11) C dX8_row_11 (z := 3) rfl (by constructor <;> decide) ?_
    obtain ⟨q4, hq4, h⟩ := of_bd h
    refine mc_V (pc := 12) (as := [aI p2, aI 0, aI 3]) (rest := []) (stk2 := [aI q4.1]) C ⟨Nat.le_refl _, Nat.le_refl _⟩ (m_X8_in hOq1 hq4) mi_X8_in mv_X8_in ml_X8_218 ci_8 rfl so_8 (by omega) rfl (Nat.le_of_ble_eq_true rfl) dX8_row_12 rfl (fun hp5 => ?_)
    have hOq4 : OK q4.2 := hp5.1
    refine mx_if_ne (pc := 15) (tgt := 20) C dX8_row_15 rfl (fun c6 => ?_) (fun c6 => ?_)
    · rw [if_neg c6] at h
      refine mx_aload_n (pc := 20) C dX8_row_20 rfl ?_
      refine mx_iload_n (pc := 21) C dX8_row_21 rfl ?_
      refine mx_iconst (pc := 22) C dX8_row_22 (z := 0) rfl (by constructor <;> decide) ?_
      refine mx_bipush (pc := 23) C dX8_row_23 (z := 9) rfl (by constructor <;> decide) ?_
      obtain ⟨q7, hq7, h⟩ := of_bd h
      refine mc_V (pc := 25) (as := [aI p3, aI 0, aI 9]) (rest := []) (stk2 := [aI q7.1]) C ⟨Nat.le_refl _, Nat.le_refl _⟩ (m_X8_in hOq4 hq7) mi_X8_in mv_X8_in ml_X8_218 ci_8 rfl so_8 (by omega) rfl (Nat.le_of_ble_eq_true rfl) dX8_row_25 rfl (fun hp8 => ?_)
      have hOq7 : OK q7.2 := hp8.1
      refine mx_if_ne (pc := 28) (tgt := 34) C dX8_row_28 rfl (fun c9 => ?_) (fun c9 => ?_)
      · rw [if_neg c9] at h
        refine mx_aload_n (pc := 34) C dX8_row_34 rfl ?_
        refine mx_getR (pc := 35) (v := 128) C dX8_row_35 so_8 ci_8 (k := 2) (by decide) fl_X8_16 rfl (q := 2) rfl (lay_8_2 hOq7) (by decide) ?_
        refine mx_iload_n (pc := 38) C dX8_row_38 rfl ?_
        obtain ⟨g10, h⟩ := of_gd h
        refine mx_iald (pc := 39) C dX8_row_39 sh_8_2 g10.1 g10.2 ?_
        refine mx_bipush (pc := 40) C dX8_row_40 (z := 6) rfl (by constructor <;> decide) ?_
        refine mx_icmp_eq (pc := 42) (tgt := 48) C dX8_row_42 rfl (fun c11 => ?_) (fun c11 => ?_)
        · rw [if_pos c11] at h
          refine mx_aload_n (pc := 48) C dX8_row_48 rfl ?_
          refine mx_getR (pc := 49) (v := 132) C dX8_row_49 so_8 ci_8 (k := 6) (by decide) fl_X8_29 rfl (q := 6) rfl (lay_8_6 hOq7) (by decide) ?_
          refine mx_iconst (pc := 52) C dX8_row_52 (z := 4) rfl (by constructor <;> decide) ?_
          refine mx_iload_n (pc := 53) C dX8_row_53 rfl ?_
          refine mx_imul (pc := 54) C dX8_row_54  ?_
          refine mx_iload_n (pc := 55) C dX8_row_55 rfl ?_
          refine mx_iadd (pc := 56) C dX8_row_56  ?_
          obtain ⟨g12, h⟩ := of_gd h
          refine mx_iald (pc := 57) C dX8_row_57 sh_8_6 g12.1 g12.2 ?_
          refine mx_istore (pc := 58) C dX8_row_58 (ls' := [some (aR 127), some (aI p1), some (aI p2), some (aI p3), some (aI (q7.2 132 (w32 ((w32 (4 * p1)) + p2))))]) (by decide) rfl rfl ?_
          refine mx_aload_n (pc := 60) C dX8_row_60 rfl ?_
          refine mx_getR (pc := 61) (v := 132) C dX8_row_61 so_8 ci_8 (k := 6) (by decide) fl_X8_29 rfl (q := 6) rfl (lay_8_6 hOq7) (by decide) ?_
          refine mx_iconst (pc := 64) C dX8_row_64 (z := 4) rfl (by constructor <;> decide) ?_
          refine mx_iload_n (pc := 65) C dX8_row_65 rfl ?_
          refine mx_imul (pc := 66) C dX8_row_66  ?_
          refine mx_iload_n (pc := 67) C dX8_row_67 rfl ?_
          refine mx_iadd (pc := 68) C dX8_row_68  ?_
          refine mx_iload_n (pc := 69) C dX8_row_69 rfl ?_
          obtain ⟨g13, h⟩ := of_gd h
          refine mx_iast (pc := 70) C dX8_row_70 sh_8_6 g13.1 g13.2 ?_
          generalize hmM14 : stM q7.2 132 (w32 ((w32 (4 * p1)) + p2)) p3 = M14 at h ⊢
          replace h := lt_e h
          have hOM14 : OK M14 := by rw [← hmM14]; exact ok_arr hOq7 sh_8_6 (by decide)
          refine mx_iload (pc := 71) C dX8_row_71 rfl ?_
          rw [← Option.some.inj h]
          exact mx_ireturn (pc := 73) C dX8_row_73 hOM14 ⟨Nat.le_refl _, Nat.le_refl _⟩
        · rw [if_neg c11] at h
          refine mx_bipush (pc := 45) C dX8_row_45 (z := (-3)) rfl (by constructor <;> decide) ?_
          rw [← Option.some.inj h]
          exact mx_ireturn (pc := 47) C dX8_row_47 hOq7 ⟨Nat.le_refl _, Nat.le_refl _⟩
      · rw [if_pos c9] at h
        refine mx_bipush (pc := 31) C dX8_row_31 (z := (-2)) rfl (by constructor <;> decide) ?_
        rw [← Option.some.inj h]
        exact mx_ireturn (pc := 33) C dX8_row_33 hOq7 ⟨Nat.le_refl _, Nat.le_refl _⟩
    · rw [if_pos c6] at h
      refine mx_iconst (pc := 18) C dX8_row_18 (z := (-1)) rfl (by constructor <;> decide) ?_
      rw [← Option.some.inj h]
      exact mx_ireturn (pc := 19) C dX8_row_19 hOq4 ⟨Nat.le_refl _, Nat.le_refl _⟩

def f_X8_begin (M : Mem) : Option (Int × Mem) :=
  if 0 ≤ M 127 8 then some (w32 (10 * (M 127 8)), M) else some (0, M)
set_option maxRecDepth 20000 in
set_option maxHeartbeats 4000000 in
theorem m_X8_begin {M : Mem} {res : Int × Mem} (hOM : OK M) (h : f_X8_begin M = some res) : Mth false yX8_begin cX8_begin 1 (some .int) 1 0 0 SH [aR 127] M (some (aI res.1)) SH res.2 (OK res.2) := by
  refine Mth.of (by decide +kernel) (Nat.le_of_ble_eq_true rfl) (fun K B C => ?_)
  show Wx K B _ 0 0 SH 1 M 0 [some (aR 127)] []
  unfold f_X8_begin at h
  refine mx_aload_n (pc := 0) C dX8_begin_0 rfl ?_
  refine mx_getI (pc := 1) C dX8_begin_1 so_8 ci_8 (k := 8) (by decide) fl_X8_35 rfl (q := 8) rfl ?_
  refine mx_if_ge (pc := 4) (tgt := 11) C dX8_begin_4 rfl (fun c1 => ?_) (fun c1 => ?_)
  · rw [if_pos c1] at h
    refine mx_bipush (pc := 11) C dX8_begin_11 (z := 10) rfl (by constructor <;> decide) ?_
    refine mx_aload_n (pc := 13) C dX8_begin_13 rfl ?_
    refine mx_getI (pc := 14) C dX8_begin_14 so_8 ci_8 (k := 8) (by decide) fl_X8_35 rfl (q := 8) rfl ?_
    refine mx_imul (pc := 17) C dX8_begin_17  ?_
    rw [← Option.some.inj h]
    exact mx_ireturn (pc := 18) C dX8_begin_18 hOM ⟨Nat.le_refl _, Nat.le_refl _⟩
  · rw [if_neg c1] at h
    refine mx_iconst (pc := 7) C dX8_begin_7 (z := 0) rfl (by constructor <;> decide) ?_
    refine mx_goto (pc := 8) (tgt := 18) C dX8_begin_8 rfl ?_
    rw [← Option.some.inj h]
    exact mx_ireturn (pc := 18) C dX8_begin_18 hOM ⟨Nat.le_refl _, Nat.le_refl _⟩

def f_X8_behind (M : Mem) : Option (Int × Mem) :=
  if 0 ≤ M 127 8 then if 0 ≤ M 127 8 ∧ M 127 8 < 6 then some (w32 ((w32 (10 * (M 127 8))) + (M 134 (M 127 8))), M) else none else some (0, M)
set_option maxRecDepth 20000 in
set_option maxHeartbeats 4000000 in
theorem m_X8_behind {M : Mem} {res : Int × Mem} (hOM : OK M) (h : f_X8_behind M = some res) : Mth false yX8_behind cX8_behind 1 (some .int) 1 0 0 SH [aR 127] M (some (aI res.1)) SH res.2 (OK res.2) := by
  refine Mth.of (by decide +kernel) (Nat.le_of_ble_eq_true rfl) (fun K B C => ?_)
  show Wx K B _ 0 0 SH 1 M 0 [some (aR 127)] []
  unfold f_X8_behind at h
  refine mx_aload_n (pc := 0) C dX8_behind_0 rfl ?_
  refine mx_getI (pc := 1) C dX8_behind_1 so_8 ci_8 (k := 8) (by decide) fl_X8_35 rfl (q := 8) rfl ?_
  refine mx_if_ge (pc := 4) (tgt := 11) C dX8_behind_4 rfl (fun c1 => ?_) (fun c1 => ?_)
  · rw [if_pos c1] at h
    refine mx_bipush (pc := 11) C dX8_behind_11 (z := 10) rfl (by constructor <;> decide) ?_
    refine mx_aload_n (pc := 13) C dX8_behind_13 rfl ?_
    refine mx_getI (pc := 14) C dX8_behind_14 so_8 ci_8 (k := 8) (by decide) fl_X8_35 rfl (q := 8) rfl ?_
    refine mx_imul (pc := 17) C dX8_behind_17  ?_
    refine mx_aload_n (pc := 18) C dX8_behind_18 rfl ?_
    refine mx_getR (pc := 19) (v := 134) C dX8_behind_19 so_8 ci_8 (k := 13) (by decide) fl_X8_50 rfl (q := 13) rfl (lay_8_13 hOM) (by decide) ?_
    refine mx_aload_n (pc := 22) C dX8_behind_22 rfl ?_
    refine mx_getI (pc := 23) C dX8_behind_23 so_8 ci_8 (k := 8) (by decide) fl_X8_35 rfl (q := 8) rfl ?_
    obtain ⟨g2, h⟩ := of_gd h
    refine mx_iald (pc := 26) C dX8_behind_26 sh_8_13 g2.1 g2.2 ?_
    refine mx_iadd (pc := 27) C dX8_behind_27  ?_
    rw [← Option.some.inj h]
    exact mx_ireturn (pc := 28) C dX8_behind_28 hOM ⟨Nat.le_refl _, Nat.le_refl _⟩
  · rw [if_neg c1] at h
    refine mx_iconst (pc := 7) C dX8_behind_7 (z := 0) rfl (by constructor <;> decide) ?_
    refine mx_goto (pc := 8) (tgt := 28) C dX8_behind_8 rfl ?_
    rw [← Option.some.inj h]
    exact mx_ireturn (pc := 28) C dX8_behind_28 hOM ⟨Nat.le_refl _, Nat.le_refl _⟩

def f_X8_factOf (p1 : Int) (p2 : Int) (p3 : Int) (M : Mem) : Option (Int × Mem) :=
  if p1 = 0 then some (p2, M) else if p1 = 1 then some (p3, M) else if p1 = 2 then if 0 ≤ p2 ∧ p2 < 6 then some (M 128 p2, M) else none else if p1 = 3 then if 0 ≤ p2 ∧ p2 < 6 then some (M 129 p2, M) else none else if p1 = 4 then if 0 ≤ p2 ∧ p2 < 6 then some (w32 (Int.tdiv (M 130 p2) 10), M) else none else some (Int.tmod (M 127 1) 10, M)
set_option maxRecDepth 20000 in
set_option maxHeartbeats 4000000 in
theorem m_X8_factOf {p1 : Int} {p2 : Int} {p3 : Int} {M : Mem} {res : Int × Mem} (hOM : OK M) (h : f_X8_factOf p1 p2 p3 M = some res) : Mth false yX8_factOf cX8_factOf 4 (some .int) 1 0 0 SH [aR 127, aI p1, aI p2, aI p3] M (some (aI res.1)) SH res.2 (OK res.2) := by
  refine Mth.of (by decide +kernel) (Nat.le_of_ble_eq_true rfl) (fun K B C => ?_)
  show Wx K B _ 0 0 SH 4 M 0 [some (aR 127), some (aI p1), some (aI p2), some (aI p3)] []
  unfold f_X8_factOf at h
  refine mx_iload_n (pc := 0) C dX8_factOf_0 rfl ?_
  by_cases c1 : p1 = 0
  · rw [if_pos c1] at h
    refine mx_tin (pc := 1) (tgt := 36) C 0 dX8_factOf_1 c1 (by decide) (by decide) rfl rfl ?_
    refine mx_iload_n (pc := 36) C dX8_factOf_36 rfl ?_
    rw [← Option.some.inj h]
    exact mx_ireturn (pc := 37) C dX8_factOf_37 hOM ⟨Nat.le_refl _, Nat.le_refl _⟩
  · rw [if_neg c1] at h
    by_cases c2 : p1 = 1
    · rw [if_pos c2] at h
      refine mx_tin (pc := 1) (tgt := 38) C 1 dX8_factOf_1 c2 (by decide) (by decide) rfl rfl ?_
      refine mx_iload_n (pc := 38) C dX8_factOf_38 rfl ?_
      rw [← Option.some.inj h]
      exact mx_ireturn (pc := 39) C dX8_factOf_39 hOM ⟨Nat.le_refl _, Nat.le_refl _⟩
    · rw [if_neg c2] at h
      by_cases c3 : p1 = 2
      · rw [if_pos c3] at h
        refine mx_tin (pc := 1) (tgt := 40) C 2 dX8_factOf_1 c3 (by decide) (by decide) rfl rfl ?_
        refine mx_aload_n (pc := 40) C dX8_factOf_40 rfl ?_
        refine mx_getR (pc := 41) (v := 128) C dX8_factOf_41 so_8 ci_8 (k := 2) (by decide) fl_X8_16 rfl (q := 2) rfl (lay_8_2 hOM) (by decide) ?_
        refine mx_iload_n (pc := 44) C dX8_factOf_44 rfl ?_
        obtain ⟨g4, h⟩ := of_gd h
        refine mx_iald (pc := 45) C dX8_factOf_45 sh_8_2 g4.1 g4.2 ?_
        rw [← Option.some.inj h]
        exact mx_ireturn (pc := 46) C dX8_factOf_46 hOM ⟨Nat.le_refl _, Nat.le_refl _⟩
      · rw [if_neg c3] at h
        by_cases c5 : p1 = 3
        · rw [if_pos c5] at h
          refine mx_tin (pc := 1) (tgt := 47) C 3 dX8_factOf_1 c5 (by decide) (by decide) rfl rfl ?_
          refine mx_aload_n (pc := 47) C dX8_factOf_47 rfl ?_
          refine mx_getR (pc := 48) (v := 129) C dX8_factOf_48 so_8 ci_8 (k := 3) (by decide) fl_X8_20 rfl (q := 3) rfl (lay_8_3 hOM) (by decide) ?_
          refine mx_iload_n (pc := 51) C dX8_factOf_51 rfl ?_
          obtain ⟨g6, h⟩ := of_gd h
          refine mx_iald (pc := 52) C dX8_factOf_52 sh_8_3 g6.1 g6.2 ?_
          rw [← Option.some.inj h]
          exact mx_ireturn (pc := 53) C dX8_factOf_53 hOM ⟨Nat.le_refl _, Nat.le_refl _⟩
        · rw [if_neg c5] at h
          by_cases c7 : p1 = 4
          · rw [if_pos c7] at h
            refine mx_tin (pc := 1) (tgt := 54) C 4 dX8_factOf_1 c7 (by decide) (by decide) rfl rfl ?_
            refine mx_aload_n (pc := 54) C dX8_factOf_54 rfl ?_
            refine mx_getR (pc := 55) (v := 130) C dX8_factOf_55 so_8 ci_8 (k := 4) (by decide) fl_X8_23 rfl (q := 4) rfl (lay_8_4 hOM) (by decide) ?_
            refine mx_iload_n (pc := 58) C dX8_factOf_58 rfl ?_
            obtain ⟨g8, h⟩ := of_gd h
            refine mx_iald (pc := 59) C dX8_factOf_59 sh_8_4 g8.1 g8.2 ?_
            refine mx_bipush (pc := 60) C dX8_factOf_60 (z := 10) rfl (by constructor <;> decide) ?_
            refine mx_idiv (pc := 62) C dX8_factOf_62 (by decide) ?_
            rw [← Option.some.inj h]
            exact mx_ireturn (pc := 63) C dX8_factOf_63 hOM ⟨Nat.le_refl _, Nat.le_refl _⟩
          · rw [if_neg c7] at h
            refine mx_tout (pc := 1) (tgt := 64) C dX8_factOf_1 (by omega) rfl ?_
            refine mx_aload_n (pc := 64) C dX8_factOf_64 rfl ?_
            refine mx_getI (pc := 65) C dX8_factOf_65 so_8 ci_8 (k := 1) (by decide) fl_X8_13 rfl (q := 1) rfl ?_
            refine mx_bipush (pc := 68) C dX8_factOf_68 (z := 10) rfl (by constructor <;> decide) ?_
            refine mx_irem (pc := 70) C dX8_factOf_70 (by decide) ?_
            rw [← Option.some.inj h]
            exact mx_ireturn (pc := 71) C dX8_factOf_71 hOM ⟨Nat.le_refl _, Nat.le_refl _⟩

def f_X8_holds_247 (p1 : Int) (p2 : Int) (p3 : Int) (k11 : Int → Int → Int → Int → Int → Mem → Option (Int × Mem)) (x1 : Int) (x2 : Int) (x3 : Int) (x4 : Int) (x5 : Int) (M : Mem) : Option (Int × Mem) :=
  k11 x1 x2 x3 x4 (w32 (x5 + 1)) M
def f_X8_holds_63 (p1 : Int) (p2 : Int) (p3 : Int) (k11 : Int → Int → Int → Int → Int → Mem → Option (Int × Mem)) (x1 : Int) (x2 : Int) (x3 : Int) (x4 : Int) (x5 : Int) (t1 : Int) (t2 : Int) (M : Mem) : Option (Int × Mem) :=
  if 0 ≤ t1 ∧ t1 < 100 then if t2 = 0 ∨ t2 = 1 then lt (stM M 142 t1 t2) (fun M3 => f_X8_holds_247 p1 p2 p3 k11 x1 x2 x3 x4 x5 M3) else none else none
def f_X8_holds_147 (p1 : Int) (p2 : Int) (p3 : Int) (k11 : Int → Int → Int → Int → Int → Mem → Option (Int × Mem)) (x1 : Int) (x2 : Int) (x3 : Int) (x4 : Int) (x5 : Int) (t1 : Int) (t2 : Int) (M : Mem) : Option (Int × Mem) :=
  if 0 ≤ t1 ∧ t1 < 100 then if t2 = 0 ∨ t2 = 1 then lt (stM M 142 t1 t2) (fun M3 => f_X8_holds_247 p1 p2 p3 k11 x1 x2 x3 x4 x5 M3) else none else none
def f_X8_holds_116 (p1 : Int) (p2 : Int) (p3 : Int) (k11 : Int → Int → Int → Int → Int → Mem → Option (Int × Mem)) (x1 : Int) (x2 : Int) (x3 : Int) (x4 : Int) (x5 : Int) (t1 : Int) (M : Mem) : Option (Int × Mem) :=
  f_X8_holds_147 p1 p2 p3 k11 x1 x2 x3 x4 x5 t1 0 M
def f_X8_holds_142 (p1 : Int) (p2 : Int) (p3 : Int) (k11 : Int → Int → Int → Int → Int → Mem → Option (Int × Mem)) (x1 : Int) (x2 : Int) (x3 : Int) (x4 : Int) (x5 : Int) (t1 : Int) (M : Mem) : Option (Int × Mem) :=
  f_X8_holds_147 p1 p2 p3 k11 x1 x2 x3 x4 x5 t1 1 M
def f_X8_holds_243 (p1 : Int) (p2 : Int) (p3 : Int) (k11 : Int → Int → Int → Int → Int → Mem → Option (Int × Mem)) (x1 : Int) (x2 : Int) (x3 : Int) (x4 : Int) (x5 : Int) (t1 : Int) (t2 : Int) (M : Mem) : Option (Int × Mem) :=
  if 0 ≤ t1 ∧ t1 < 100 then if t2 = 0 ∨ t2 = 1 then lt (stM M 142 t1 t2) (fun M3 => f_X8_holds_247 p1 p2 p3 k11 x1 x2 x3 (w32 (x4 + 1)) x5 M3) else none else none
def f_X8_holds_11 (p1 : Int) (p2 : Int) (p3 : Int) : Nat → Int → Int → Int → Int → Int → Mem → Option (Int × Mem)
  | 0, _, _, _, _, _, _ => none
  | n + 1, x1, x2, x3, x4, x5, M => if 0 ≤ x1 ∧ x1 < 60 then if M 138 x1 ≤ x5 then some (M 142 0, M) else if 0 ≤ x5 ∧ x5 < 600 then if M 139 x5 = (-33) then if 0 ≤ w32 (x4 - 1) ∧ w32 (x4 - 1) < 100 then if M 142 (w32 (x4 - 1)) = 0 then f_X8_holds_63 p1 p2 p3 (f_X8_holds_11 p1 p2 p3 n) x1 x2 x3 x4 x5 (w32 (x4 - 1)) 1 M else f_X8_holds_63 p1 p2 p3 (f_X8_holds_11 p1 p2 p3 n) x1 x2 x3 x4 x5 (w32 (x4 - 1)) 0 M else none else if 0 ≤ M 139 x5 then (f_X8_factOf (w32 (Int.tdiv (M 139 x5) 1000)) x2 x3 M).bind (fun q7 => if Int.tmod (w32 (Int.tdiv (M 139 x5) 100)) 10 = 0 then if Int.tmod (M 139 x5) 100 ≤ q7.1 then f_X8_holds_243 p1 p2 p3 (f_X8_holds_11 p1 p2 p3 n) x1 x2 x3 x4 x5 x4 0 q7.2 else f_X8_holds_243 p1 p2 p3 (f_X8_holds_11 p1 p2 p3 n) x1 x2 x3 x4 x5 x4 1 q7.2 else if Int.tmod (w32 (Int.tdiv (M 139 x5) 100)) 10 = 1 then if q7.1 = Int.tmod (M 139 x5) 100 then f_X8_holds_243 p1 p2 p3 (f_X8_holds_11 p1 p2 p3 n) x1 x2 x3 x4 x5 x4 1 q7.2 else f_X8_holds_243 p1 p2 p3 (f_X8_holds_11 p1 p2 p3 n) x1 x2 x3 x4 x5 x4 0 q7.2 else if q7.1 ≤ Int.tmod (M 139 x5) 100 then f_X8_holds_243 p1 p2 p3 (f_X8_holds_11 p1 p2 p3 n) x1 x2 x3 x4 x5 x4 0 q7.2 else f_X8_holds_243 p1 p2 p3 (f_X8_holds_11 p1 p2 p3 n) x1 x2 x3 x4 x5 x4 1 q7.2) else if M 139 x5 = (-38) then if 0 ≤ w32 ((w32 (x4 + (-1))) - 1) ∧ w32 ((w32 (x4 + (-1))) - 1) < 100 then if M 142 (w32 ((w32 (x4 + (-1))) - 1)) = 0 then f_X8_holds_116 p1 p2 p3 (f_X8_holds_11 p1 p2 p3 n) x1 x2 x3 (w32 (x4 + (-1))) x5 (w32 ((w32 (x4 + (-1))) - 1)) M else if 0 ≤ w32 (x4 + (-1)) ∧ w32 (x4 + (-1)) < 100 then if M 142 (w32 (x4 + (-1))) = 0 then f_X8_holds_116 p1 p2 p3 (f_X8_holds_11 p1 p2 p3 n) x1 x2 x3 (w32 (x4 + (-1))) x5 (w32 ((w32 (x4 + (-1))) - 1)) M else f_X8_holds_147 p1 p2 p3 (f_X8_holds_11 p1 p2 p3 n) x1 x2 x3 (w32 (x4 + (-1))) x5 (w32 ((w32 (x4 + (-1))) - 1)) 1 M else none else none else if 0 ≤ w32 ((w32 (x4 + (-1))) - 1) ∧ w32 ((w32 (x4 + (-1))) - 1) < 100 then if M 142 (w32 ((w32 (x4 + (-1))) - 1)) = 0 then if 0 ≤ w32 (x4 + (-1)) ∧ w32 (x4 + (-1)) < 100 then if M 142 (w32 (x4 + (-1))) = 0 then f_X8_holds_147 p1 p2 p3 (f_X8_holds_11 p1 p2 p3 n) x1 x2 x3 (w32 (x4 + (-1))) x5 (w32 ((w32 (x4 + (-1))) - 1)) 0 M else f_X8_holds_142 p1 p2 p3 (f_X8_holds_11 p1 p2 p3 n) x1 x2 x3 (w32 (x4 + (-1))) x5 (w32 ((w32 (x4 + (-1))) - 1)) M else none else f_X8_holds_142 p1 p2 p3 (f_X8_holds_11 p1 p2 p3 n) x1 x2 x3 (w32 (x4 + (-1))) x5 (w32 ((w32 (x4 + (-1))) - 1)) M else none else none else none
def f_X8_holds (p1 : Int) (p2 : Int) (p3 : Int) (M : Mem) : Option (Int × Mem) :=
  if 0 ≤ p1 ∧ p1 < 60 then f_X8_holds_11 p1 p2 p3 FU p1 p2 p3 0 (M 137 p1) M else none
set_option maxRecDepth 20000 in
set_option maxHeartbeats 4000000 in
theorem b_X8_holds_247 {K : KX} {B : BX} {res : Int × Mem} {p1 : Int} {p2 : Int} {p3 : Int} {k11 : Int → Int → Int → Int → Int → Mem → Option (Int × Mem)} (C : Cx K B false yX8_holds cX8_holds 9 (some .boolean) 2 0 0) (hk11 : ∀ (x1 : Int) (x2 : Int) (x3 : Int) (x4 : Int) (x5 : Int) (M : Mem), OK M → k11 x1 x2 x3 x4 x5 M = some res → Wx K B (Zr K B (some (aI res.1)) SH res.2 (OK res.2 ∧ (res.1 = 0 ∨ res.1 = 1)) 0 0) 0 0 SH 9 M 11 [some (aR 127), some (aI x1), some (aI x2), some (aI x3), some (aI x4), some (aI x5), none, none, none] []) : ∀ (x1 : Int) (x2 : Int) (x3 : Int) (x4 : Int) (x5 : Int) (M : Mem), OK M → f_X8_holds_247 p1 p2 p3 k11 x1 x2 x3 x4 x5 M = some res → Wx K B (Zr K B (some (aI res.1)) SH res.2 (OK res.2 ∧ (res.1 = 0 ∨ res.1 = 1)) 0 0) 0 0 SH 9 M 247 [some (aR 127), some (aI x1), some (aI x2), some (aI x3), some (aI x4), some (aI x5), none, none, none] [] := by
  intro x1 x2 x3 x4 x5 M hOM h
  unfold f_X8_holds_247 at h
  refine mx_iinc (pc := 247) C dX8_holds_247 (ls' := [some (aR 127), some (aI x1), some (aI x2), some (aI x3), some (aI x4), some (aI (w32 (x5 + 1))), none, none, none]) rfl (by decide) rfl (by constructor <;> decide) rfl rfl ?_
  refine mx_goto (pc := 250) (tgt := 11) C dX8_holds_250 rfl ?_
  exact hk11 x1 x2 x3 x4 (w32 (x5 + 1)) M hOM h
set_option maxRecDepth 20000 in
set_option maxHeartbeats 4000000 in
theorem b_X8_holds_63 {K : KX} {B : BX} {res : Int × Mem} {p1 : Int} {p2 : Int} {p3 : Int} {k11 : Int → Int → Int → Int → Int → Mem → Option (Int × Mem)} (C : Cx K B false yX8_holds cX8_holds 9 (some .boolean) 2 0 0) (hk11 : ∀ (x1 : Int) (x2 : Int) (x3 : Int) (x4 : Int) (x5 : Int) (M : Mem), OK M → k11 x1 x2 x3 x4 x5 M = some res → Wx K B (Zr K B (some (aI res.1)) SH res.2 (OK res.2 ∧ (res.1 = 0 ∨ res.1 = 1)) 0 0) 0 0 SH 9 M 11 [some (aR 127), some (aI x1), some (aI x2), some (aI x3), some (aI x4), some (aI x5), none, none, none] []) : ∀ (x1 : Int) (x2 : Int) (x3 : Int) (x4 : Int) (x5 : Int) (t1 : Int) (t2 : Int) (M : Mem), OK M → f_X8_holds_63 p1 p2 p3 k11 x1 x2 x3 x4 x5 t1 t2 M = some res → Wx K B (Zr K B (some (aI res.1)) SH res.2 (OK res.2 ∧ (res.1 = 0 ∨ res.1 = 1)) 0 0) 0 0 SH 9 M 63 [some (aR 127), some (aI x1), some (aI x2), some (aI x3), some (aI x4), some (aI x5), none, none, none] [aI t2, aI t1, aR 142] := by
  intro x1 x2 x3 x4 x5 t1 t2 M hOM h
  unfold f_X8_holds_63 at h
  obtain ⟨g1, h⟩ := of_gd h
  obtain ⟨g2, h⟩ := of_gd h
  refine mx_zast (pc := 63) C dX8_holds_63 sh_8_24 g2 g1.1 g1.2 ?_
  generalize hmM3 : stM M 142 t1 t2 = M3 at h ⊢
  replace h := lt_e h
  have hOM3 : OK M3 := by rw [← hmM3]; exact ok_arr hOM sh_8_24 (by decide)
  refine mx_goto (pc := 64) (tgt := 247) C dX8_holds_64 rfl ?_
  exact b_X8_holds_247 C hk11 x1 x2 x3 x4 x5 M3 hOM3 h
set_option maxRecDepth 20000 in
set_option maxHeartbeats 4000000 in
theorem b_X8_holds_147 {K : KX} {B : BX} {res : Int × Mem} {p1 : Int} {p2 : Int} {p3 : Int} {k11 : Int → Int → Int → Int → Int → Mem → Option (Int × Mem)} (C : Cx K B false yX8_holds cX8_holds 9 (some .boolean) 2 0 0) (hk11 : ∀ (x1 : Int) (x2 : Int) (x3 : Int) (x4 : Int) (x5 : Int) (M : Mem), OK M → k11 x1 x2 x3 x4 x5 M = some res → Wx K B (Zr K B (some (aI res.1)) SH res.2 (OK res.2 ∧ (res.1 = 0 ∨ res.1 = 1)) 0 0) 0 0 SH 9 M 11 [some (aR 127), some (aI x1), some (aI x2), some (aI x3), some (aI x4), some (aI x5), none, none, none] []) : ∀ (x1 : Int) (x2 : Int) (x3 : Int) (x4 : Int) (x5 : Int) (t1 : Int) (t2 : Int) (M : Mem), OK M → f_X8_holds_147 p1 p2 p3 k11 x1 x2 x3 x4 x5 t1 t2 M = some res → Wx K B (Zr K B (some (aI res.1)) SH res.2 (OK res.2 ∧ (res.1 = 0 ∨ res.1 = 1)) 0 0) 0 0 SH 9 M 147 [some (aR 127), some (aI x1), some (aI x2), some (aI x3), some (aI x4), some (aI x5), none, none, none] [aI t2, aI t1, aR 142] := by
  intro x1 x2 x3 x4 x5 t1 t2 M hOM h
  unfold f_X8_holds_147 at h
  obtain ⟨g1, h⟩ := of_gd h
  obtain ⟨g2, h⟩ := of_gd h
  refine mx_zast (pc := 147) C dX8_holds_147 sh_8_24 g2 g1.1 g1.2 ?_
  generalize hmM3 : stM M 142 t1 t2 = M3 at h ⊢
  replace h := lt_e h
  have hOM3 : OK M3 := by rw [← hmM3]; exact ok_arr hOM sh_8_24 (by decide)
  refine mx_goto (pc := 148) (tgt := 247) C dX8_holds_148 rfl ?_
  exact b_X8_holds_247 C hk11 x1 x2 x3 x4 x5 M3 hOM3 h
set_option maxRecDepth 20000 in
set_option maxHeartbeats 4000000 in
theorem b_X8_holds_116 {K : KX} {B : BX} {res : Int × Mem} {p1 : Int} {p2 : Int} {p3 : Int} {k11 : Int → Int → Int → Int → Int → Mem → Option (Int × Mem)} (C : Cx K B false yX8_holds cX8_holds 9 (some .boolean) 2 0 0) (hk11 : ∀ (x1 : Int) (x2 : Int) (x3 : Int) (x4 : Int) (x5 : Int) (M : Mem), OK M → k11 x1 x2 x3 x4 x5 M = some res → Wx K B (Zr K B (some (aI res.1)) SH res.2 (OK res.2 ∧ (res.1 = 0 ∨ res.1 = 1)) 0 0) 0 0 SH 9 M 11 [some (aR 127), some (aI x1), some (aI x2), some (aI x3), some (aI x4), some (aI x5), none, none, none] []) : ∀ (x1 : Int) (x2 : Int) (x3 : Int) (x4 : Int) (x5 : Int) (t1 : Int) (M : Mem), OK M → f_X8_holds_116 p1 p2 p3 k11 x1 x2 x3 x4 x5 t1 M = some res → Wx K B (Zr K B (some (aI res.1)) SH res.2 (OK res.2 ∧ (res.1 = 0 ∨ res.1 = 1)) 0 0) 0 0 SH 9 M 116 [some (aR 127), some (aI x1), some (aI x2), some (aI x3), some (aI x4), some (aI x5), none, none, none] [aI t1, aR 142] := by
  intro x1 x2 x3 x4 x5 t1 M hOM h
  unfold f_X8_holds_116 at h
  refine mx_iconst (pc := 116) C dX8_holds_116 (z := 0) rfl (by constructor <;> decide) ?_
  refine mx_goto (pc := 117) (tgt := 147) C dX8_holds_117 rfl ?_
  exact b_X8_holds_147 C hk11 x1 x2 x3 x4 x5 t1 0 M hOM h
set_option maxRecDepth 20000 in
set_option maxHeartbeats 4000000 in
theorem b_X8_holds_142 {K : KX} {B : BX} {res : Int × Mem} {p1 : Int} {p2 : Int} {p3 : Int} {k11 : Int → Int → Int → Int → Int → Mem → Option (Int × Mem)} (C : Cx K B false yX8_holds cX8_holds 9 (some .boolean) 2 0 0) (hk11 : ∀ (x1 : Int) (x2 : Int) (x3 : Int) (x4 : Int) (x5 : Int) (M : Mem), OK M → k11 x1 x2 x3 x4 x5 M = some res → Wx K B (Zr K B (some (aI res.1)) SH res.2 (OK res.2 ∧ (res.1 = 0 ∨ res.1 = 1)) 0 0) 0 0 SH 9 M 11 [some (aR 127), some (aI x1), some (aI x2), some (aI x3), some (aI x4), some (aI x5), none, none, none] []) : ∀ (x1 : Int) (x2 : Int) (x3 : Int) (x4 : Int) (x5 : Int) (t1 : Int) (M : Mem), OK M → f_X8_holds_142 p1 p2 p3 k11 x1 x2 x3 x4 x5 t1 M = some res → Wx K B (Zr K B (some (aI res.1)) SH res.2 (OK res.2 ∧ (res.1 = 0 ∨ res.1 = 1)) 0 0) 0 0 SH 9 M 142 [some (aR 127), some (aI x1), some (aI x2), some (aI x3), some (aI x4), some (aI x5), none, none, none] [aI t1, aR 142] := by
  intro x1 x2 x3 x4 x5 t1 M hOM h
  unfold f_X8_holds_142 at h
  refine mx_iconst (pc := 142) C dX8_holds_142 (z := 1) rfl (by constructor <;> decide) ?_
  refine mx_goto (pc := 143) (tgt := 147) C dX8_holds_143 rfl ?_
  exact b_X8_holds_147 C hk11 x1 x2 x3 x4 x5 t1 1 M hOM h
set_option maxRecDepth 20000 in
set_option maxHeartbeats 4000000 in
theorem b_X8_holds_243 {K : KX} {B : BX} {res : Int × Mem} {p1 : Int} {p2 : Int} {p3 : Int} {k11 : Int → Int → Int → Int → Int → Mem → Option (Int × Mem)} (C : Cx K B false yX8_holds cX8_holds 9 (some .boolean) 2 0 0) (hk11 : ∀ (x1 : Int) (x2 : Int) (x3 : Int) (x4 : Int) (x5 : Int) (M : Mem), OK M → k11 x1 x2 x3 x4 x5 M = some res → Wx K B (Zr K B (some (aI res.1)) SH res.2 (OK res.2 ∧ (res.1 = 0 ∨ res.1 = 1)) 0 0) 0 0 SH 9 M 11 [some (aR 127), some (aI x1), some (aI x2), some (aI x3), some (aI x4), some (aI x5), none, none, none] []) : ∀ (x1 : Int) (x2 : Int) (x3 : Int) (x4 : Int) (x5 : Int) (t1 : Int) (t2 : Int) (M : Mem), OK M → f_X8_holds_243 p1 p2 p3 k11 x1 x2 x3 x4 x5 t1 t2 M = some res → Wx K B (Zr K B (some (aI res.1)) SH res.2 (OK res.2 ∧ (res.1 = 0 ∨ res.1 = 1)) 0 0) 0 0 SH 9 M 243 [some (aR 127), some (aI x1), some (aI x2), some (aI x3), some (aI x4), some (aI x5), none, none, none] [aI t2, aI t1, aR 142] := by
  intro x1 x2 x3 x4 x5 t1 t2 M hOM h
  unfold f_X8_holds_243 at h
  obtain ⟨g1, h⟩ := of_gd h
  obtain ⟨g2, h⟩ := of_gd h
  refine mx_zast (pc := 243) C dX8_holds_243 sh_8_24 g2 g1.1 g1.2 ?_
  generalize hmM3 : stM M 142 t1 t2 = M3 at h ⊢
  replace h := lt_e h
  have hOM3 : OK M3 := by rw [← hmM3]; exact ok_arr hOM sh_8_24 (by decide)
  refine mx_iinc (pc := 244) C dX8_holds_244 (ls' := [some (aR 127), some (aI x1), some (aI x2), some (aI x3), some (aI (w32 (x4 + 1))), some (aI x5), none, none, none]) rfl (by decide) rfl (by constructor <;> decide) rfl rfl ?_
  exact b_X8_holds_247 C hk11 x1 x2 x3 (w32 (x4 + 1)) x5 M3 hOM3 h
set_option maxRecDepth 20000 in
set_option maxHeartbeats 4000000 in
theorem b_X8_holds_11 {K : KX} {B : BX} {res : Int × Mem} {p1 : Int} {p2 : Int} {p3 : Int} (C : Cx K B false yX8_holds cX8_holds 9 (some .boolean) 2 0 0) : ∀ (n : Nat) (x1 : Int) (x2 : Int) (x3 : Int) (x4 : Int) (x5 : Int) (M : Mem), OK M → f_X8_holds_11 p1 p2 p3 n x1 x2 x3 x4 x5 M = some res → Wx K B (Zr K B (some (aI res.1)) SH res.2 (OK res.2 ∧ (res.1 = 0 ∨ res.1 = 1)) 0 0) 0 0 SH 9 M 11 [some (aR 127), some (aI x1), some (aI x2), some (aI x3), some (aI x4), some (aI x5), none, none, none] [] := by
  intro n
  induction n with
  | zero =>
    intro x1 x2 x3 x4 x5 M hOM h
    cases h
  | succ n ih =>
    intro x1 x2 x3 x4 x5 M hOM h
    rw [f_X8_holds_11.eq_2] at h
    refine mx_iload (pc := 11) C dX8_holds_11 rfl ?_
    refine mx_aload_n (pc := 13) C dX8_holds_13 rfl ?_
    refine mx_getR (pc := 14) (v := 138) C dX8_holds_14 so_8 ci_8 (k := 17) (by decide) fl_X8_62 rfl (q := 17) rfl (lay_8_17 hOM) (by decide) ?_
    refine mx_iload_n (pc := 17) C dX8_holds_17 rfl ?_
    obtain ⟨g1, h⟩ := of_gd h
    refine mx_iald (pc := 18) C dX8_holds_18 sh_8_17 g1.1 g1.2 ?_
    refine mx_icmp_ge (pc := 19) (tgt := 253) C dX8_holds_19 rfl (fun c2 => ?_) (fun c2 => ?_)
    · rw [if_pos c2] at h
      refine mx_aload_n (pc := 253) C dX8_holds_253 rfl ?_
      refine mx_getR (pc := 254) (v := 142) C dX8_holds_254 so_8 ci_8 (k := 24) (by decide) fl_X8_83 rfl (q := 24) rfl (lay_8_24 hOM) (by decide) ?_
      refine mx_iconst (pc := 257) C dX8_holds_257 (z := 0) rfl (by constructor <;> decide) ?_
      refine mx_zald (pc := 258) C dX8_holds_258 sh_8_24 (by decide) (by decide) (fun z3 => ?_)
      rw [← Option.some.inj h]
      exact mx_zreturn (pc := 259) C dX8_holds_259 z3 ⟨hOM, z3⟩ ⟨Nat.le_refl _, Nat.le_refl _⟩
    · rw [if_neg c2] at h
      refine mx_aload_n (pc := 22) C dX8_holds_22 rfl ?_
      refine mx_getR (pc := 23) (v := 139) C dX8_holds_23 so_8 ci_8 (k := 18) (by decide) fl_X8_65 rfl (q := 18) rfl (lay_8_18 hOM) (by decide) ?_
      refine mx_iload (pc := 26) C dX8_holds_26 rfl ?_
      obtain ⟨g4, h⟩ := of_gd h
      refine mx_iald (pc := 28) C dX8_holds_28 sh_8_18 g4.1 g4.2 ?_
      refine mx_istore (pc := 29) C dX8_holds_29 (ls' := [some (aR 127), some (aI x1), some (aI x2), some (aI x3), some (aI x4), some (aI x5), some (aI (M 139 x5)), none, none]) (by decide) rfl rfl ?_
      refine mx_iload (pc := 31) C dX8_holds_31 rfl ?_
      refine mx_bipush (pc := 33) C dX8_holds_33 (z := (-33)) rfl (by constructor <;> decide) ?_
      refine mx_icmp_ne (pc := 35) (tgt := 67) C dX8_holds_35 rfl (fun c5 => ?_) (fun c5 => ?_)
      · rw [if_neg c5] at h
        refine mx_iload (pc := 67) C dX8_holds_67 rfl ?_
        refine mx_if_ge (pc := 69) (tgt := 151) C dX8_holds_69 rfl (fun c6 => ?_) (fun c6 => ?_)
        · rw [if_pos c6] at h
          refine mx_aload_n (pc := 151) C dX8_holds_151 rfl ?_
          refine mx_iload (pc := 152) C dX8_holds_152 rfl ?_
          refine mx_sipush (pc := 154) C dX8_holds_154 (z := 1000) rfl (by constructor <;> decide) ?_
          refine mx_idiv (pc := 157) C dX8_holds_157 (by decide) ?_
          refine mx_iload_n (pc := 158) C dX8_holds_158 rfl ?_
          refine mx_iload_n (pc := 159) C dX8_holds_159 rfl ?_
          obtain ⟨q7, hq7, h⟩ := of_bd h
          refine mc_V (pc := 160) (as := [aI (w32 (Int.tdiv (M 139 x5) 1000)), aI x2, aI x3]) (rest := []) (stk2 := [aI q7.1]) C ⟨Nat.le_refl _, Nat.le_refl _⟩ (m_X8_factOf hOM hq7) mi_X8_factOf mv_X8_factOf ml_X8_301 ci_8 rfl so_8 (by omega) rfl (Nat.le_of_ble_eq_true rfl) dX8_holds_160 rfl (fun hp8 => ?_)
          have hOq7 : OK q7.2 := hp8
          refine mx_istore (pc := 163) C dX8_holds_163 (ls' := [some (aR 127), some (aI x1), some (aI x2), some (aI x3), some (aI x4), some (aI x5), some (aI (M 139 x5)), some (aI q7.1), none]) (by decide) rfl rfl ?_
          refine mx_iload (pc := 165) C dX8_holds_165 rfl ?_
          refine mx_bipush (pc := 167) C dX8_holds_167 (z := 100) rfl (by constructor <;> decide) ?_
          refine mx_idiv (pc := 169) C dX8_holds_169 (by decide) ?_
          refine mx_bipush (pc := 170) C dX8_holds_170 (z := 10) rfl (by constructor <;> decide) ?_
          refine mx_irem (pc := 172) C dX8_holds_172 (by decide) ?_
          refine mx_istore (pc := 173) C dX8_holds_173 (ls' := [some (aR 127), some (aI x1), some (aI x2), some (aI x3), some (aI x4), some (aI x5), some (aI (M 139 x5)), some (aI q7.1), some (aI (Int.tmod (w32 (Int.tdiv (M 139 x5) 100)) 10))]) (by decide) rfl rfl ?_
          refine mx_aload_n (pc := 175) C dX8_holds_175 rfl ?_
          refine mx_getR (pc := 176) (v := 142) C dX8_holds_176 so_8 ci_8 (k := 24) (by decide) fl_X8_83 rfl (q := 24) rfl (lay_8_24 hOq7) (by decide) ?_
          refine mx_iload (pc := 179) C dX8_holds_179 rfl ?_
          refine mx_iload (pc := 181) C dX8_holds_181 rfl ?_
          refine mx_if_ne (pc := 183) (tgt := 204) C dX8_holds_183 rfl (fun c9 => ?_) (fun c9 => ?_)
          · rw [if_neg c9] at h
            refine mx_iload (pc := 204) C dX8_holds_204 rfl ?_
            refine mx_iconst (pc := 206) C dX8_holds_206 (z := 1) rfl (by constructor <;> decide) ?_
            refine mx_icmp_ne (pc := 207) (tgt := 228) C dX8_holds_207 rfl (fun c10 => ?_) (fun c10 => ?_)
            · rw [if_neg c10] at h
              refine mx_iload (pc := 228) C dX8_holds_228 rfl ?_
              refine mx_iload (pc := 230) C dX8_holds_230 rfl ?_
              refine mx_bipush (pc := 232) C dX8_holds_232 (z := 100) rfl (by constructor <;> decide) ?_
              refine mx_irem (pc := 234) C dX8_holds_234 (by decide) ?_
              refine mx_icmp_le (pc := 235) (tgt := 242) C dX8_holds_235 rfl (fun c11 => ?_) (fun c11 => ?_)
              · rw [if_pos c11] at h
                refine mx_iconst (pc := 242) C dX8_holds_242 (z := 0) rfl (by constructor <;> decide) ?_
                refine mx_mask [true, true, true, true, true, true, false, false, false] (ls' := [some (aR 127), some (aI x1), some (aI x2), some (aI x3), some (aI x4), some (aI x5), none, none, none]) rfl rfl ?_
                exact b_X8_holds_243 C ih x1 x2 x3 x4 x5 x4 0 q7.2 hOq7 h
              · rw [if_neg c11] at h
                refine mx_iconst (pc := 238) C dX8_holds_238 (z := 1) rfl (by constructor <;> decide) ?_
                refine mx_goto (pc := 239) (tgt := 243) C dX8_holds_239 rfl ?_
                refine mx_mask [true, true, true, true, true, true, false, false, false] (ls' := [some (aR 127), some (aI x1), some (aI x2), some (aI x3), some (aI x4), some (aI x5), none, none, none]) rfl rfl ?_
                exact b_X8_holds_243 C ih x1 x2 x3 x4 x5 x4 1 q7.2 hOq7 h
            · rw [if_pos c10] at h
              refine mx_iload (pc := 210) C dX8_holds_210 rfl ?_
              refine mx_iload (pc := 212) C dX8_holds_212 rfl ?_
              refine mx_bipush (pc := 214) C dX8_holds_214 (z := 100) rfl (by constructor <;> decide) ?_
              refine mx_irem (pc := 216) C dX8_holds_216 (by decide) ?_
              refine mx_icmp_ne (pc := 217) (tgt := 224) C dX8_holds_217 rfl (fun c12 => ?_) (fun c12 => ?_)
              · rw [if_neg c12] at h
                refine mx_iconst (pc := 224) C dX8_holds_224 (z := 0) rfl (by constructor <;> decide) ?_
                refine mx_goto (pc := 225) (tgt := 243) C dX8_holds_225 rfl ?_
                refine mx_mask [true, true, true, true, true, true, false, false, false] (ls' := [some (aR 127), some (aI x1), some (aI x2), some (aI x3), some (aI x4), some (aI x5), none, none, none]) rfl rfl ?_
                exact b_X8_holds_243 C ih x1 x2 x3 x4 x5 x4 0 q7.2 hOq7 h
              · rw [if_pos c12] at h
                refine mx_iconst (pc := 220) C dX8_holds_220 (z := 1) rfl (by constructor <;> decide) ?_
                refine mx_goto (pc := 221) (tgt := 243) C dX8_holds_221 rfl ?_
                refine mx_mask [true, true, true, true, true, true, false, false, false] (ls' := [some (aR 127), some (aI x1), some (aI x2), some (aI x3), some (aI x4), some (aI x5), none, none, none]) rfl rfl ?_
                exact b_X8_holds_243 C ih x1 x2 x3 x4 x5 x4 1 q7.2 hOq7 h
          · rw [if_pos c9] at h
            refine mx_iload (pc := 186) C dX8_holds_186 rfl ?_
            refine mx_iload (pc := 188) C dX8_holds_188 rfl ?_
            refine mx_bipush (pc := 190) C dX8_holds_190 (z := 100) rfl (by constructor <;> decide) ?_
            refine mx_irem (pc := 192) C dX8_holds_192 (by decide) ?_
            refine mx_icmp_ge (pc := 193) (tgt := 200) C dX8_holds_193 rfl (fun c13 => ?_) (fun c13 => ?_)
            · rw [if_pos c13] at h
              refine mx_iconst (pc := 200) C dX8_holds_200 (z := 0) rfl (by constructor <;> decide) ?_
              refine mx_goto (pc := 201) (tgt := 243) C dX8_holds_201 rfl ?_
              refine mx_mask [true, true, true, true, true, true, false, false, false] (ls' := [some (aR 127), some (aI x1), some (aI x2), some (aI x3), some (aI x4), some (aI x5), none, none, none]) rfl rfl ?_
              exact b_X8_holds_243 C ih x1 x2 x3 x4 x5 x4 0 q7.2 hOq7 h
            · rw [if_neg c13] at h
              refine mx_iconst (pc := 196) C dX8_holds_196 (z := 1) rfl (by constructor <;> decide) ?_
              refine mx_goto (pc := 197) (tgt := 243) C dX8_holds_197 rfl ?_
              refine mx_mask [true, true, true, true, true, true, false, false, false] (ls' := [some (aR 127), some (aI x1), some (aI x2), some (aI x3), some (aI x4), some (aI x5), none, none, none]) rfl rfl ?_
              exact b_X8_holds_243 C ih x1 x2 x3 x4 x5 x4 1 q7.2 hOq7 h
        · rw [if_neg c6] at h
          refine mx_iinc (pc := 72) C dX8_holds_72 (ls' := [some (aR 127), some (aI x1), some (aI x2), some (aI x3), some (aI (w32 (x4 + (-1)))), some (aI x5), some (aI (M 139 x5)), none, none]) rfl (by decide) rfl (by constructor <;> decide) rfl rfl ?_
          refine mx_aload_n (pc := 75) C dX8_holds_75 rfl ?_
          refine mx_getR (pc := 76) (v := 142) C dX8_holds_76 so_8 ci_8 (k := 24) (by decide) fl_X8_83 rfl (q := 24) rfl (lay_8_24 hOM) (by decide) ?_
          refine mx_iload (pc := 79) C dX8_holds_79 rfl ?_
          refine mx_iconst (pc := 81) C dX8_holds_81 (z := 1) rfl (by constructor <;> decide) ?_
          refine mx_isub (pc := 82) C dX8_holds_82  ?_
          refine mx_iload (pc := 83) C dX8_holds_83 rfl ?_
          refine mx_bipush (pc := 85) C dX8_holds_85 (z := (-38)) rfl (by constructor <;> decide) ?_
          refine mx_icmp_ne (pc := 87) (tgt := 120) C dX8_holds_87 rfl (fun c14 => ?_) (fun c14 => ?_)
          · rw [if_neg c14] at h
            refine mx_aload_n (pc := 120) C dX8_holds_120 rfl ?_
            refine mx_getR (pc := 121) (v := 142) C dX8_holds_121 so_8 ci_8 (k := 24) (by decide) fl_X8_83 rfl (q := 24) rfl (lay_8_24 hOM) (by decide) ?_
            refine mx_iload (pc := 124) C dX8_holds_124 rfl ?_
            refine mx_iconst (pc := 126) C dX8_holds_126 (z := 1) rfl (by constructor <;> decide) ?_
            refine mx_isub (pc := 127) C dX8_holds_127  ?_
            obtain ⟨g15, h⟩ := of_gd h
            refine mx_zald (pc := 128) C dX8_holds_128 sh_8_24 g15.1 g15.2 (fun z16 => ?_)
            refine mx_if_ne (pc := 129) (tgt := 142) C dX8_holds_129 rfl (fun c17 => ?_) (fun c17 => ?_)
            · rw [if_neg c17] at h
              refine mx_mask [true, true, true, true, true, true, false, false, false] (ls' := [some (aR 127), some (aI x1), some (aI x2), some (aI x3), some (aI (w32 (x4 + (-1)))), some (aI x5), none, none, none]) rfl rfl ?_
              exact b_X8_holds_142 C ih x1 x2 x3 (w32 (x4 + (-1))) x5 (w32 ((w32 (x4 + (-1))) - 1)) M hOM h
            · rw [if_pos c17] at h
              refine mx_aload_n (pc := 132) C dX8_holds_132 rfl ?_
              refine mx_getR (pc := 133) (v := 142) C dX8_holds_133 so_8 ci_8 (k := 24) (by decide) fl_X8_83 rfl (q := 24) rfl (lay_8_24 hOM) (by decide) ?_
              refine mx_iload (pc := 136) C dX8_holds_136 rfl ?_
              obtain ⟨g18, h⟩ := of_gd h
              refine mx_zald (pc := 138) C dX8_holds_138 sh_8_24 g18.1 g18.2 (fun z19 => ?_)
              refine mx_if_eq (pc := 139) (tgt := 146) C dX8_holds_139 rfl (fun c20 => ?_) (fun c20 => ?_)
              · rw [if_pos c20] at h
                refine mx_iconst (pc := 146) C dX8_holds_146 (z := 0) rfl (by constructor <;> decide) ?_
                refine mx_mask [true, true, true, true, true, true, false, false, false] (ls' := [some (aR 127), some (aI x1), some (aI x2), some (aI x3), some (aI (w32 (x4 + (-1)))), some (aI x5), none, none, none]) rfl rfl ?_
                exact b_X8_holds_147 C ih x1 x2 x3 (w32 (x4 + (-1))) x5 (w32 ((w32 (x4 + (-1))) - 1)) 0 M hOM h
              · rw [if_neg c20] at h
                refine mx_mask [true, true, true, true, true, true, false, false, false] (ls' := [some (aR 127), some (aI x1), some (aI x2), some (aI x3), some (aI (w32 (x4 + (-1)))), some (aI x5), none, none, none]) rfl rfl ?_
                exact b_X8_holds_142 C ih x1 x2 x3 (w32 (x4 + (-1))) x5 (w32 ((w32 (x4 + (-1))) - 1)) M hOM h
          · rw [if_pos c14] at h
            refine mx_aload_n (pc := 90) C dX8_holds_90 rfl ?_
            refine mx_getR (pc := 91) (v := 142) C dX8_holds_91 so_8 ci_8 (k := 24) (by decide) fl_X8_83 rfl (q := 24) rfl (lay_8_24 hOM) (by decide) ?_
            refine mx_iload (pc := 94) C dX8_holds_94 rfl ?_
            refine mx_iconst (pc := 96) C dX8_holds_96 (z := 1) rfl (by constructor <;> decide) ?_
            refine mx_isub (pc := 97) C dX8_holds_97  ?_
            obtain ⟨g21, h⟩ := of_gd h
            refine mx_zald (pc := 98) C dX8_holds_98 sh_8_24 g21.1 g21.2 (fun z22 => ?_)
            refine mx_if_eq (pc := 99) (tgt := 116) C dX8_holds_99 rfl (fun c23 => ?_) (fun c23 => ?_)
            · rw [if_pos c23] at h
              refine mx_mask [true, true, true, true, true, true, false, false, false] (ls' := [some (aR 127), some (aI x1), some (aI x2), some (aI x3), some (aI (w32 (x4 + (-1)))), some (aI x5), none, none, none]) rfl rfl ?_
              exact b_X8_holds_116 C ih x1 x2 x3 (w32 (x4 + (-1))) x5 (w32 ((w32 (x4 + (-1))) - 1)) M hOM h
            · rw [if_neg c23] at h
              refine mx_aload_n (pc := 102) C dX8_holds_102 rfl ?_
              refine mx_getR (pc := 103) (v := 142) C dX8_holds_103 so_8 ci_8 (k := 24) (by decide) fl_X8_83 rfl (q := 24) rfl (lay_8_24 hOM) (by decide) ?_
              refine mx_iload (pc := 106) C dX8_holds_106 rfl ?_
              obtain ⟨g24, h⟩ := of_gd h
              refine mx_zald (pc := 108) C dX8_holds_108 sh_8_24 g24.1 g24.2 (fun z25 => ?_)
              refine mx_if_eq (pc := 109) (tgt := 116) C dX8_holds_109 rfl (fun c26 => ?_) (fun c26 => ?_)
              · rw [if_pos c26] at h
                refine mx_mask [true, true, true, true, true, true, false, false, false] (ls' := [some (aR 127), some (aI x1), some (aI x2), some (aI x3), some (aI (w32 (x4 + (-1)))), some (aI x5), none, none, none]) rfl rfl ?_
                exact b_X8_holds_116 C ih x1 x2 x3 (w32 (x4 + (-1))) x5 (w32 ((w32 (x4 + (-1))) - 1)) M hOM h
              · rw [if_neg c26] at h
                refine mx_iconst (pc := 112) C dX8_holds_112 (z := 1) rfl (by constructor <;> decide) ?_
                refine mx_goto (pc := 113) (tgt := 147) C dX8_holds_113 rfl ?_
                refine mx_mask [true, true, true, true, true, true, false, false, false] (ls' := [some (aR 127), some (aI x1), some (aI x2), some (aI x3), some (aI (w32 (x4 + (-1)))), some (aI x5), none, none, none]) rfl rfl ?_
                exact b_X8_holds_147 C ih x1 x2 x3 (w32 (x4 + (-1))) x5 (w32 ((w32 (x4 + (-1))) - 1)) 1 M hOM h
      · rw [if_pos c5] at h
        refine mx_aload_n (pc := 38) C dX8_holds_38 rfl ?_
        refine mx_getR (pc := 39) (v := 142) C dX8_holds_39 so_8 ci_8 (k := 24) (by decide) fl_X8_83 rfl (q := 24) rfl (lay_8_24 hOM) (by decide) ?_
        refine mx_iload (pc := 42) C dX8_holds_42 rfl ?_
        refine mx_iconst (pc := 44) C dX8_holds_44 (z := 1) rfl (by constructor <;> decide) ?_
        refine mx_isub (pc := 45) C dX8_holds_45  ?_
        refine mx_aload_n (pc := 46) C dX8_holds_46 rfl ?_
        refine mx_getR (pc := 47) (v := 142) C dX8_holds_47 so_8 ci_8 (k := 24) (by decide) fl_X8_83 rfl (q := 24) rfl (lay_8_24 hOM) (by decide) ?_
        refine mx_iload (pc := 50) C dX8_holds_50 rfl ?_
        refine mx_iconst (pc := 52) C dX8_holds_52 (z := 1) rfl (by constructor <;> decide) ?_
        refine mx_isub (pc := 53) C dX8_holds_53  ?_
        obtain ⟨g27, h⟩ := of_gd h
        refine mx_zald (pc := 54) C dX8_holds_54 sh_8_24 g27.1 g27.2 (fun z28 => ?_)
        refine mx_if_ne (pc := 55) (tgt := 62) C dX8_holds_55 rfl (fun c29 => ?_) (fun c29 => ?_)
        · rw [if_neg c29] at h
          refine mx_iconst (pc := 62) C dX8_holds_62 (z := 0) rfl (by constructor <;> decide) ?_
          refine mx_mask [true, true, true, true, true, true, false, false, false] (ls' := [some (aR 127), some (aI x1), some (aI x2), some (aI x3), some (aI x4), some (aI x5), none, none, none]) rfl rfl ?_
          exact b_X8_holds_63 C ih x1 x2 x3 x4 x5 (w32 (x4 - 1)) 0 M hOM h
        · rw [if_pos c29] at h
          refine mx_iconst (pc := 58) C dX8_holds_58 (z := 1) rfl (by constructor <;> decide) ?_
          refine mx_goto (pc := 59) (tgt := 63) C dX8_holds_59 rfl ?_
          refine mx_mask [true, true, true, true, true, true, false, false, false] (ls' := [some (aR 127), some (aI x1), some (aI x2), some (aI x3), some (aI x4), some (aI x5), none, none, none]) rfl rfl ?_
          exact b_X8_holds_63 C ih x1 x2 x3 x4 x5 (w32 (x4 - 1)) 1 M hOM h
set_option maxRecDepth 20000 in
set_option maxHeartbeats 4000000 in
theorem m_X8_holds {p1 : Int} {p2 : Int} {p3 : Int} {M : Mem} {res : Int × Mem} (hOM : OK M) (h : f_X8_holds p1 p2 p3 M = some res) : Mth false yX8_holds cX8_holds 9 (some .boolean) 2 0 0 SH [aR 127, aI p1, aI p2, aI p3] M (some (aI res.1)) SH res.2 (OK res.2 ∧ (res.1 = 0 ∨ res.1 = 1)) := by
  refine Mth.of (by decide +kernel) (Nat.le_of_ble_eq_true rfl) (fun K B C => ?_)
  show Wx K B _ 0 0 SH 9 M 0 [some (aR 127), some (aI p1), some (aI p2), some (aI p3), none, none, none, none, none] []
  unfold f_X8_holds at h
  refine mx_iconst (pc := 0) C dX8_holds_0 (z := 0) rfl (by constructor <;> decide) ?_
  refine mx_istore (pc := 1) C dX8_holds_1 (ls' := [some (aR 127), some (aI p1), some (aI p2), some (aI p3), some (aI 0), none, none, none, none]) (by decide) rfl rfl ?_
  refine mx_aload_n (pc := 3) C dX8_holds_3 rfl ?_
  refine mx_getR (pc := 4) (v := 137) C dX8_holds_4 so_8 ci_8 (k := 16) (by decide) fl_X8_59 rfl (q := 16) rfl (lay_8_16 hOM) (by decide) ?_
  refine mx_iload_n (pc := 7) C dX8_holds_7 rfl ?_
  obtain ⟨g1, h⟩ := of_gd h
  refine mx_iald (pc := 8) C dX8_holds_8 sh_8_16 g1.1 g1.2 ?_
  refine mx_istore (pc := 9) C dX8_holds_9 (ls' := [some (aR 127), some (aI p1), some (aI p2), some (aI p3), some (aI 0), some (aI (M 137 p1)), none, none, none]) (by decide) rfl rfl ?_
  exact b_X8_holds_11 C FU p1 p2 p3 0 (M 137 p1) M hOM h

def f_X8_voice_97 (p1 : Int) (p2 : Int) (k32 : Int → Int → Int → Int → Mem → Option (Int × Mem)) (x1 : Int) (x2 : Int) (x3 : Int) (x4 : Int) (M : Mem) : Option (Int × Mem) :=
  k32 x1 x2 x3 (w32 (x4 + 1)) M
def f_X8_voice_95 (p1 : Int) (p2 : Int) (k32 : Int → Int → Int → Int → Mem → Option (Int × Mem)) (x1 : Int) (x2 : Int) (x4 : Int) (t0 : Int) (t1 : Int) (M : Mem) : Option (Int × Mem) :=
  f_X8_voice_97 p1 p2 k32 x1 x2 (w32 (t0 + t1)) x4 M
def f_X8_voice_32 (p1 : Int) (p2 : Int) : Nat → Int → Int → Int → Int → Mem → Option (Int × Mem)
  | 0, _, _, _, _, _ => none
  | n + 1, x1, x2, x3, x4, M => (f_X8_behind M).bind (fun q1 => if q1.1 ≤ x4 then (f_X8_least0 x3 q1.2).bind (fun q4 => some (q4.1, q4.2)) else if 0 ≤ x4 ∧ x4 < 60 then if 1 < q1.2 135 x4 then f_X8_voice_97 p1 p2 (f_X8_voice_32 p1 p2 n) x1 x2 x3 x4 q1.2 else (f_X8_holds x4 x1 x2 q1.2).bind (fun q8 => if q8.1 = 0 then f_X8_voice_97 p1 p2 (f_X8_voice_32 p1 p2 n) x1 x2 x3 x4 q8.2 else if 0 ≤ x4 ∧ x4 < 60 then if q8.2 135 x4 = 0 then if 0 ≤ x4 ∧ x4 < 60 then f_X8_voice_95 p1 p2 (f_X8_voice_32 p1 p2 n) x1 x2 x4 x3 (q8.2 136 x4) q8.2 else none else if 0 ≤ x4 ∧ x4 < 60 then f_X8_voice_95 p1 p2 (f_X8_voice_32 p1 p2 n) x1 x2 x4 x3 (w32 (-(q8.2 136 x4))) q8.2 else none else none) else none)
def f_X8_voice (p1 : Int) (p2 : Int) (M : Mem) : Option (Int × Mem) :=
  (f_X8_isLost p1 M).bind (fun q1 => if q1.1 = 0 then if 0 ≤ p1 ∧ p1 < 6 then if q1.2 130 p1 = 0 then some (0, q1.2) else if 0 ≤ p1 ∧ p1 < 6 then (f_X8_begin q1.2).bind (fun q7 => f_X8_voice_32 p1 p2 FU p1 p2 (q1.2 130 p1) q7.1 q7.2) else none else none else some (0, q1.2))
set_option maxRecDepth 20000 in
set_option maxHeartbeats 4000000 in
theorem b_X8_voice_97 {K : KX} {B : BX} {res : Int × Mem} {p1 : Int} {p2 : Int} {k32 : Int → Int → Int → Int → Mem → Option (Int × Mem)} (C : Cx K B false yX8_voice cX8_voice 5 (some .int) 3 0 0) (hk32 : ∀ (x1 : Int) (x2 : Int) (x3 : Int) (x4 : Int) (M : Mem), OK M → k32 x1 x2 x3 x4 M = some res → Wx K B (Zr K B (some (aI res.1)) SH res.2 (OK res.2) 0 0) 0 0 SH 5 M 32 [some (aR 127), some (aI x1), some (aI x2), some (aI x3), some (aI x4)] []) : ∀ (x1 : Int) (x2 : Int) (x3 : Int) (x4 : Int) (M : Mem), OK M → f_X8_voice_97 p1 p2 k32 x1 x2 x3 x4 M = some res → Wx K B (Zr K B (some (aI res.1)) SH res.2 (OK res.2) 0 0) 0 0 SH 5 M 97 [some (aR 127), some (aI x1), some (aI x2), some (aI x3), some (aI x4)] [] := by
  intro x1 x2 x3 x4 M hOM h
  unfold f_X8_voice_97 at h
  refine mx_iinc (pc := 97) C dX8_voice_97 (ls' := [some (aR 127), some (aI x1), some (aI x2), some (aI x3), some (aI (w32 (x4 + 1)))]) rfl (by decide) rfl (by constructor <;> decide) rfl rfl ?_
  refine mx_goto (pc := 100) (tgt := 32) C dX8_voice_100 rfl ?_
  exact hk32 x1 x2 x3 (w32 (x4 + 1)) M hOM h
set_option maxRecDepth 20000 in
set_option maxHeartbeats 4000000 in
theorem b_X8_voice_95 {K : KX} {B : BX} {res : Int × Mem} {p1 : Int} {p2 : Int} {k32 : Int → Int → Int → Int → Mem → Option (Int × Mem)} (C : Cx K B false yX8_voice cX8_voice 5 (some .int) 3 0 0) (hk32 : ∀ (x1 : Int) (x2 : Int) (x3 : Int) (x4 : Int) (M : Mem), OK M → k32 x1 x2 x3 x4 M = some res → Wx K B (Zr K B (some (aI res.1)) SH res.2 (OK res.2) 0 0) 0 0 SH 5 M 32 [some (aR 127), some (aI x1), some (aI x2), some (aI x3), some (aI x4)] []) : ∀ (x1 : Int) (x2 : Int) (x4 : Int) (t0 : Int) (t1 : Int) (M : Mem), OK M → f_X8_voice_95 p1 p2 k32 x1 x2 x4 t0 t1 M = some res → Wx K B (Zr K B (some (aI res.1)) SH res.2 (OK res.2) 0 0) 0 0 SH 5 M 95 [some (aR 127), some (aI x1), some (aI x2), none, some (aI x4)] [aI t1, aI t0] := by
  intro x1 x2 x4 t0 t1 M hOM h
  unfold f_X8_voice_95 at h
  refine mx_iadd (pc := 95) C dX8_voice_95  ?_
  refine mx_istore_n (pc := 96) C dX8_voice_96 (ls' := [some (aR 127), some (aI x1), some (aI x2), some (aI (w32 (t0 + t1))), some (aI x4)]) (by decide) rfl rfl ?_
  exact b_X8_voice_97 C hk32 x1 x2 (w32 (t0 + t1)) x4 M hOM h
set_option maxRecDepth 20000 in
set_option maxHeartbeats 4000000 in
theorem b_X8_voice_32 {K : KX} {B : BX} {res : Int × Mem} {p1 : Int} {p2 : Int} (C : Cx K B false yX8_voice cX8_voice 5 (some .int) 3 0 0) : ∀ (n : Nat) (x1 : Int) (x2 : Int) (x3 : Int) (x4 : Int) (M : Mem), OK M → f_X8_voice_32 p1 p2 n x1 x2 x3 x4 M = some res → Wx K B (Zr K B (some (aI res.1)) SH res.2 (OK res.2) 0 0) 0 0 SH 5 M 32 [some (aR 127), some (aI x1), some (aI x2), some (aI x3), some (aI x4)] [] := by
  intro n
  induction n with
  | zero =>
    intro x1 x2 x3 x4 M hOM h
    cases h
  | succ n ih =>
    intro x1 x2 x3 x4 M hOM h
    rw [f_X8_voice_32.eq_2] at h
    refine mx_iload (pc := 32) C dX8_voice_32 rfl ?_
    refine mx_aload_n (pc := 34) C dX8_voice_34 rfl ?_
    obtain ⟨q1, hq1, h⟩ := of_bd h
    refine mc_V (pc := 35) (as := []) (rest := [aI x4]) (stk2 := [aI q1.1, aI x4]) C ⟨Nat.le_refl _, Nat.le_refl _⟩ (m_X8_behind hOM hq1) mi_X8_behind mv_X8_behind ml_X8_295 ci_8 rfl so_8 (by omega) rfl (Nat.le_of_ble_eq_true rfl) dX8_voice_35 rfl (fun hp2 => ?_)
    have hOq1 : OK q1.2 := hp2
    refine mx_icmp_ge (pc := 38) (tgt := 103) C dX8_voice_38 rfl (fun c3 => ?_) (fun c3 => ?_)
    · rw [if_pos c3] at h
      refine mx_aload_n (pc := 103) C dX8_voice_103 rfl ?_
      refine mx_iload_n (pc := 104) C dX8_voice_104 rfl ?_
      obtain ⟨q4, hq4, h⟩ := of_bd h
      refine mc_V (pc := 105) (as := [aI x3]) (rest := []) (stk2 := [aI q4.1]) C ⟨Nat.le_refl _, Nat.le_refl _⟩ (m_X8_least0 hOq1 hq4) mi_X8_least0 mv_X8_least0 ml_X8_308 ci_8 rfl so_8 (by omega) rfl (Nat.le_of_ble_eq_true rfl) dX8_voice_105 rfl (fun hp5 => ?_)
      have hOq4 : OK q4.2 := hp5
      rw [← Option.some.inj h]
      exact mx_ireturn (pc := 108) C dX8_voice_108 hOq4 ⟨Nat.le_refl _, Nat.le_refl _⟩
    · rw [if_neg c3] at h
      refine mx_aload_n (pc := 41) C dX8_voice_41 rfl ?_
      refine mx_getR (pc := 42) (v := 135) C dX8_voice_42 so_8 ci_8 (k := 14) (by decide) fl_X8_53 rfl (q := 14) rfl (lay_8_14 hOq1) (by decide) ?_
      refine mx_iload (pc := 45) C dX8_voice_45 rfl ?_
      obtain ⟨g6, h⟩ := of_gd h
      refine mx_iald (pc := 47) C dX8_voice_47 sh_8_14 g6.1 g6.2 ?_
      refine mx_iconst (pc := 48) C dX8_voice_48 (z := 1) rfl (by constructor <;> decide) ?_
      refine mx_icmp_gt (pc := 49) (tgt := 97) C dX8_voice_49 rfl (fun c7 => ?_) (fun c7 => ?_)
      · rw [if_pos c7] at h
        exact b_X8_voice_97 C ih x1 x2 x3 x4 q1.2 hOq1 h
      · rw [if_neg c7] at h
        refine mx_aload_n (pc := 52) C dX8_voice_52 rfl ?_
        refine mx_iload (pc := 53) C dX8_voice_53 rfl ?_
        refine mx_iload_n (pc := 55) C dX8_voice_55 rfl ?_
        refine mx_iload_n (pc := 56) C dX8_voice_56 rfl ?_
        obtain ⟨q8, hq8, h⟩ := of_bd h
        refine mc_V (pc := 57) (as := [aI x4, aI x1, aI x2]) (rest := []) (stk2 := [aI q8.1]) C ⟨Nat.le_refl _, Nat.le_refl _⟩ (m_X8_holds hOq1 hq8) mi_X8_holds mv_X8_holds ml_X8_305 ci_8 rfl so_8 (by omega) rfl (Nat.le_of_ble_eq_true rfl) dX8_voice_57 rfl (fun hp9 => ?_)
        have hOq8 : OK q8.2 := hp9.1
        refine mx_if_ne (pc := 60) (tgt := 66) C dX8_voice_60 rfl (fun c10 => ?_) (fun c10 => ?_)
        · rw [if_neg c10] at h
          refine mx_iload_n (pc := 66) C dX8_voice_66 rfl ?_
          refine mx_aload_n (pc := 67) C dX8_voice_67 rfl ?_
          refine mx_getR (pc := 68) (v := 135) C dX8_voice_68 so_8 ci_8 (k := 14) (by decide) fl_X8_53 rfl (q := 14) rfl (lay_8_14 hOq8) (by decide) ?_
          refine mx_iload (pc := 71) C dX8_voice_71 rfl ?_
          obtain ⟨g11, h⟩ := of_gd h
          refine mx_iald (pc := 73) C dX8_voice_73 sh_8_14 g11.1 g11.2 ?_
          refine mx_if_ne (pc := 74) (tgt := 87) C dX8_voice_74 rfl (fun c12 => ?_) (fun c12 => ?_)
          · rw [if_neg c12] at h
            refine mx_aload_n (pc := 87) C dX8_voice_87 rfl ?_
            refine mx_getR (pc := 88) (v := 136) C dX8_voice_88 so_8 ci_8 (k := 15) (by decide) fl_X8_56 rfl (q := 15) rfl (lay_8_15 hOq8) (by decide) ?_
            refine mx_iload (pc := 91) C dX8_voice_91 rfl ?_
            obtain ⟨g13, h⟩ := of_gd h
            refine mx_iald (pc := 93) C dX8_voice_93 sh_8_15 g13.1 g13.2 ?_
            refine mx_ineg (pc := 94) C dX8_voice_94  ?_
            refine mx_mask [true, true, true, false, true] (ls' := [some (aR 127), some (aI x1), some (aI x2), none, some (aI x4)]) rfl rfl ?_
            exact b_X8_voice_95 C ih x1 x2 x4 x3 (w32 (-(q8.2 136 x4))) q8.2 hOq8 h
          · rw [if_pos c12] at h
            refine mx_aload_n (pc := 77) C dX8_voice_77 rfl ?_
            refine mx_getR (pc := 78) (v := 136) C dX8_voice_78 so_8 ci_8 (k := 15) (by decide) fl_X8_56 rfl (q := 15) rfl (lay_8_15 hOq8) (by decide) ?_
            refine mx_iload (pc := 81) C dX8_voice_81 rfl ?_
            obtain ⟨g14, h⟩ := of_gd h
            refine mx_iald (pc := 83) C dX8_voice_83 sh_8_15 g14.1 g14.2 ?_
            refine mx_goto (pc := 84) (tgt := 95) C dX8_voice_84 rfl ?_
            refine mx_mask [true, true, true, false, true] (ls' := [some (aR 127), some (aI x1), some (aI x2), none, some (aI x4)]) rfl rfl ?_
            exact b_X8_voice_95 C ih x1 x2 x4 x3 (q8.2 136 x4) q8.2 hOq8 h
        · rw [if_pos c10] at h
          refine mx_goto (pc := 63) (tgt := 97) C dX8_voice_63 rfl ?_
          exact b_X8_voice_97 C ih x1 x2 x3 x4 q8.2 hOq8 h
set_option maxRecDepth 20000 in
set_option maxHeartbeats 4000000 in
theorem m_X8_voice {p1 : Int} {p2 : Int} {M : Mem} {res : Int × Mem} (hOM : OK M) (h : f_X8_voice p1 p2 M = some res) : Mth false yX8_voice cX8_voice 5 (some .int) 3 0 0 SH [aR 127, aI p1, aI p2] M (some (aI res.1)) SH res.2 (OK res.2) := by
  refine Mth.of (by decide +kernel) (Nat.le_of_ble_eq_true rfl) (fun K B C => ?_)
  show Wx K B _ 0 0 SH 5 M 0 [some (aR 127), some (aI p1), some (aI p2), none, none] []
  unfold f_X8_voice at h
  refine mx_aload_n (pc := 0) C dX8_voice_0 rfl ?_
  refine mx_iload_n (pc := 1) C dX8_voice_1 rfl ?_
  obtain ⟨q1, hq1, h⟩ := of_bd h
  refine mc_V (pc := 2) (as := [aI p1]) (rest := []) (stk2 := [aI q1.1]) C ⟨Nat.le_refl _, Nat.le_refl _⟩ (m_X8_isLost hOM hq1) mi_X8_isLost mv_X8_isLost ml_X8_232 ci_8 rfl so_8 (by omega) rfl (Nat.le_of_ble_eq_true rfl) dX8_voice_2 rfl (fun hp2 => ?_)
  have hOq1 : OK q1.2 := hp2.1
  refine mx_if_ne (pc := 5) (tgt := 17) C dX8_voice_5 rfl (fun c3 => ?_) (fun c3 => ?_)
  · rw [if_neg c3] at h
    refine mx_iconst (pc := 17) C dX8_voice_17 (z := 0) rfl (by constructor <;> decide) ?_
    rw [← Option.some.inj h]
    exact mx_ireturn (pc := 18) C dX8_voice_18 hOq1 ⟨Nat.le_refl _, Nat.le_refl _⟩
  · rw [if_pos c3] at h
    refine mx_aload_n (pc := 8) C dX8_voice_8 rfl ?_
    refine mx_getR (pc := 9) (v := 130) C dX8_voice_9 so_8 ci_8 (k := 4) (by decide) fl_X8_23 rfl (q := 4) rfl (lay_8_4 hOq1) (by decide) ?_
    refine mx_iload_n (pc := 12) C dX8_voice_12 rfl ?_
    obtain ⟨g4, h⟩ := of_gd h
    refine mx_iald (pc := 13) C dX8_voice_13 sh_8_4 g4.1 g4.2 ?_
    refine mx_if_ne (pc := 14) (tgt := 19) C dX8_voice_14 rfl (fun c5 => ?_) (fun c5 => ?_)
    · rw [if_neg c5] at h
      refine mx_aload_n (pc := 19) C dX8_voice_19 rfl ?_
      refine mx_getR (pc := 20) (v := 130) C dX8_voice_20 so_8 ci_8 (k := 4) (by decide) fl_X8_23 rfl (q := 4) rfl (lay_8_4 hOq1) (by decide) ?_
      refine mx_iload_n (pc := 23) C dX8_voice_23 rfl ?_
      obtain ⟨g6, h⟩ := of_gd h
      refine mx_iald (pc := 24) C dX8_voice_24 sh_8_4 g6.1 g6.2 ?_
      refine mx_istore_n (pc := 25) C dX8_voice_25 (ls' := [some (aR 127), some (aI p1), some (aI p2), some (aI (q1.2 130 p1)), none]) (by decide) rfl rfl ?_
      refine mx_aload_n (pc := 26) C dX8_voice_26 rfl ?_
      obtain ⟨q7, hq7, h⟩ := of_bd h
      refine mc_V (pc := 27) (as := []) (rest := []) (stk2 := [aI q7.1]) C ⟨Nat.le_refl _, Nat.le_refl _⟩ (m_X8_begin hOq1 hq7) mi_X8_begin mv_X8_begin ml_X8_292 ci_8 rfl so_8 (by omega) rfl (Nat.le_of_ble_eq_true rfl) dX8_voice_27 rfl (fun hp8 => ?_)
      have hOq7 : OK q7.2 := hp8
      refine mx_istore (pc := 30) C dX8_voice_30 (ls' := [some (aR 127), some (aI p1), some (aI p2), some (aI (q1.2 130 p1)), some (aI q7.1)]) (by decide) rfl rfl ?_
      exact b_X8_voice_32 C FU p1 p2 (q1.2 130 p1) q7.1 q7.2 hOq7 h
    · rw [if_pos c5] at h
      refine mx_iconst (pc := 17) C dX8_voice_17 (z := 0) rfl (by constructor <;> decide) ?_
      rw [← Option.some.inj h]
      exact mx_ireturn (pc := 18) C dX8_voice_18 hOq1 ⟨Nat.le_refl _, Nat.le_refl _⟩

def f_X8_lastOf_39 (p1 : Int) (p2 : Int) (k8 : Int → Int → Int → Mem → Option (Int × Mem)) (x1 : Int) (x4 : Int) (t0 : Int) (M : Mem) : Option (Int × Mem) :=
  k8 x1 t0 (w32 (x4 + 1)) M
def f_X8_lastOf_8 (p1 : Int) (p2 : Int) : Nat → Int → Int → Int → Mem → Option (Int × Mem)
  | 0, _, _, _, _ => none
  | n + 1, x1, x3, x4, M => (f_X8_behind M).bind (fun q1 => if q1.1 ≤ x4 then some (x3, q1.2) else if 0 ≤ x4 ∧ x4 < 60 then if q1.2 135 x4 = x1 then if 0 ≤ x4 ∧ x4 < 60 then f_X8_lastOf_39 p1 p2 (f_X8_lastOf_8 p1 p2 n) x1 x4 (q1.2 136 x4) q1.2 else none else f_X8_lastOf_39 p1 p2 (f_X8_lastOf_8 p1 p2 n) x1 x4 x3 q1.2 else none)
def f_X8_lastOf (p1 : Int) (p2 : Int) (M : Mem) : Option (Int × Mem) :=
  (f_X8_begin M).bind (fun q1 => f_X8_lastOf_8 p1 p2 FU p1 p2 q1.1 q1.2)
set_option maxRecDepth 20000 in
set_option maxHeartbeats 4000000 in
theorem b_X8_lastOf_39 {K : KX} {B : BX} {res : Int × Mem} {p1 : Int} {p2 : Int} {k8 : Int → Int → Int → Mem → Option (Int × Mem)} (C : Cx K B false yX8_lastOf cX8_lastOf 5 (some .int) 2 0 0) (hk8 : ∀ (x1 : Int) (x3 : Int) (x4 : Int) (M : Mem), OK M → k8 x1 x3 x4 M = some res → Wx K B (Zr K B (some (aI res.1)) SH res.2 (OK res.2) 0 0) 0 0 SH 5 M 8 [some (aR 127), some (aI x1), none, some (aI x3), some (aI x4)] []) : ∀ (x1 : Int) (x4 : Int) (t0 : Int) (M : Mem), OK M → f_X8_lastOf_39 p1 p2 k8 x1 x4 t0 M = some res → Wx K B (Zr K B (some (aI res.1)) SH res.2 (OK res.2) 0 0) 0 0 SH 5 M 39 [some (aR 127), some (aI x1), none, none, some (aI x4)] [aI t0] := by
  intro x1 x4 t0 M hOM h
  unfold f_X8_lastOf_39 at h
  refine mx_istore_n (pc := 39) C dX8_lastOf_39 (ls' := [some (aR 127), some (aI x1), none, some (aI t0), some (aI x4)]) (by decide) rfl rfl ?_
  refine mx_iinc (pc := 40) C dX8_lastOf_40 (ls' := [some (aR 127), some (aI x1), none, some (aI t0), some (aI (w32 (x4 + 1)))]) rfl (by decide) rfl (by constructor <;> decide) rfl rfl ?_
  refine mx_goto (pc := 43) (tgt := 8) C dX8_lastOf_43 rfl ?_
  exact hk8 x1 t0 (w32 (x4 + 1)) M hOM h
set_option maxRecDepth 20000 in
set_option maxHeartbeats 4000000 in
theorem b_X8_lastOf_8 {K : KX} {B : BX} {res : Int × Mem} {p1 : Int} {p2 : Int} (C : Cx K B false yX8_lastOf cX8_lastOf 5 (some .int) 2 0 0) : ∀ (n : Nat) (x1 : Int) (x3 : Int) (x4 : Int) (M : Mem), OK M → f_X8_lastOf_8 p1 p2 n x1 x3 x4 M = some res → Wx K B (Zr K B (some (aI res.1)) SH res.2 (OK res.2) 0 0) 0 0 SH 5 M 8 [some (aR 127), some (aI x1), none, some (aI x3), some (aI x4)] [] := by
  intro n
  induction n with
  | zero =>
    intro x1 x3 x4 M hOM h
    cases h
  | succ n ih =>
    intro x1 x3 x4 M hOM h
    rw [f_X8_lastOf_8.eq_2] at h
    refine mx_iload (pc := 8) C dX8_lastOf_8 rfl ?_
    refine mx_aload_n (pc := 10) C dX8_lastOf_10 rfl ?_
    obtain ⟨q1, hq1, h⟩ := of_bd h
    refine mc_V (pc := 11) (as := []) (rest := [aI x4]) (stk2 := [aI q1.1, aI x4]) C ⟨Nat.le_refl _, Nat.le_refl _⟩ (m_X8_behind hOM hq1) mi_X8_behind mv_X8_behind ml_X8_295 ci_8 rfl so_8 (by omega) rfl (Nat.le_of_ble_eq_true rfl) dX8_lastOf_11 rfl (fun hp2 => ?_)
    have hOq1 : OK q1.2 := hp2
    refine mx_icmp_ge (pc := 14) (tgt := 46) C dX8_lastOf_14 rfl (fun c3 => ?_) (fun c3 => ?_)
    · rw [if_pos c3] at h
      refine mx_iload_n (pc := 46) C dX8_lastOf_46 rfl ?_
      rw [← Option.some.inj h]
      exact mx_ireturn (pc := 47) C dX8_lastOf_47 hOq1 ⟨Nat.le_refl _, Nat.le_refl _⟩
    · rw [if_neg c3] at h
      refine mx_aload_n (pc := 17) C dX8_lastOf_17 rfl ?_
      refine mx_getR (pc := 18) (v := 135) C dX8_lastOf_18 so_8 ci_8 (k := 14) (by decide) fl_X8_53 rfl (q := 14) rfl (lay_8_14 hOq1) (by decide) ?_
      refine mx_iload (pc := 21) C dX8_lastOf_21 rfl ?_
      obtain ⟨g4, h⟩ := of_gd h
      refine mx_iald (pc := 23) C dX8_lastOf_23 sh_8_14 g4.1 g4.2 ?_
      refine mx_iload_n (pc := 24) C dX8_lastOf_24 rfl ?_
      refine mx_icmp_ne (pc := 25) (tgt := 38) C dX8_lastOf_25 rfl (fun c5 => ?_) (fun c5 => ?_)
      · rw [if_neg c5] at h
        refine mx_iload_n (pc := 38) C dX8_lastOf_38 rfl ?_
        refine mx_mask [true, true, false, false, true] (ls' := [some (aR 127), some (aI x1), none, none, some (aI x4)]) rfl rfl ?_
        exact b_X8_lastOf_39 C ih x1 x4 x3 q1.2 hOq1 h
      · rw [if_pos c5] at h
        refine mx_aload_n (pc := 28) C dX8_lastOf_28 rfl ?_
        refine mx_getR (pc := 29) (v := 136) C dX8_lastOf_29 so_8 ci_8 (k := 15) (by decide) fl_X8_56 rfl (q := 15) rfl (lay_8_15 hOq1) (by decide) ?_
        refine mx_iload (pc := 32) C dX8_lastOf_32 rfl ?_
        obtain ⟨g6, h⟩ := of_gd h
        refine mx_iald (pc := 34) C dX8_lastOf_34 sh_8_15 g6.1 g6.2 ?_
        refine mx_goto (pc := 35) (tgt := 39) C dX8_lastOf_35 rfl ?_
        refine mx_mask [true, true, false, false, true] (ls' := [some (aR 127), some (aI x1), none, none, some (aI x4)]) rfl rfl ?_
        exact b_X8_lastOf_39 C ih x1 x4 (q1.2 136 x4) q1.2 hOq1 h
set_option maxRecDepth 20000 in
set_option maxHeartbeats 4000000 in
theorem m_X8_lastOf {p1 : Int} {p2 : Int} {M : Mem} {res : Int × Mem} (hOM : OK M) (h : f_X8_lastOf p1 p2 M = some res) : Mth false yX8_lastOf cX8_lastOf 5 (some .int) 2 0 0 SH [aR 127, aI p1, aI p2] M (some (aI res.1)) SH res.2 (OK res.2) := by
  refine Mth.of (by decide +kernel) (Nat.le_of_ble_eq_true rfl) (fun K B C => ?_)
  show Wx K B _ 0 0 SH 5 M 0 [some (aR 127), some (aI p1), some (aI p2), none, none] []
  unfold f_X8_lastOf at h
  refine mx_iload_n (pc := 0) C dX8_lastOf_0 rfl ?_
  refine mx_istore_n (pc := 1) C dX8_lastOf_1 (ls' := [some (aR 127), some (aI p1), some (aI p2), some (aI p2), none]) (by decide) rfl rfl ?_
  refine mx_aload_n (pc := 2) C dX8_lastOf_2 rfl ?_
  obtain ⟨q1, hq1, h⟩ := of_bd h
  refine mc_V (pc := 3) (as := []) (rest := []) (stk2 := [aI q1.1]) C ⟨Nat.le_refl _, Nat.le_refl _⟩ (m_X8_begin hOM hq1) mi_X8_begin mv_X8_begin ml_X8_292 ci_8 rfl so_8 (by omega) rfl (Nat.le_of_ble_eq_true rfl) dX8_lastOf_3 rfl (fun hp2 => ?_)
  have hOq1 : OK q1.2 := hp2
  refine mx_istore (pc := 6) C dX8_lastOf_6 (ls' := [some (aR 127), some (aI p1), some (aI p2), some (aI p2), some (aI q1.1)]) (by decide) rfl rfl ?_
  refine mx_mask [true, true, false, true, true] (ls' := [some (aR 127), some (aI p1), none, some (aI p2), some (aI q1.1)]) rfl rfl ?_
  exact b_X8_lastOf_8 C FU p1 p2 q1.1 q1.2 hOq1 h

def f_X8_wall (M : Mem) : Option (Int × Mem) :=
  (f_X8_lastOf 2 6 M).bind (fun q1 => some (q1.1, q1.2))
set_option maxRecDepth 20000 in
set_option maxHeartbeats 4000000 in
theorem m_X8_wall {M : Mem} {res : Int × Mem} (hOM : OK M) (h : f_X8_wall M = some res) : Mth false yX8_wall cX8_wall 1 (some .int) 3 0 0 SH [aR 127] M (some (aI res.1)) SH res.2 (OK res.2) := by
  refine Mth.of (by decide +kernel) (Nat.le_of_ble_eq_true rfl) (fun K B C => ?_)
  show Wx K B _ 0 0 SH 1 M 0 [some (aR 127)] []
  unfold f_X8_wall at h
  refine mx_aload_n (pc := 0) C dX8_wall_0 rfl ?_
  refine mx_iconst (pc := 1) C dX8_wall_1 (z := 2) rfl (by constructor <;> decide) ?_
  refine mx_bipush (pc := 2) C dX8_wall_2 (z := 6) rfl (by constructor <;> decide) ?_
  obtain ⟨q1, hq1, h⟩ := of_bd h
  refine mc_V (pc := 4) (as := [aI 2, aI 6]) (rest := []) (stk2 := [aI q1.1]) C ⟨Nat.le_refl _, Nat.le_refl _⟩ (m_X8_lastOf hOM hq1) mi_X8_lastOf mv_X8_lastOf ml_X8_298 ci_8 rfl so_8 (by omega) rfl (Nat.le_of_ble_eq_true rfl) dX8_wall_4 rfl (fun hp2 => ?_)
  have hOq1 : OK q1.2 := hp2
  rw [← Option.some.inj h]
  exact mx_ireturn (pc := 7) C dX8_wall_7 hOq1 ⟨Nat.le_refl _, Nat.le_refl _⟩

def f_X8_heardBy_64 (p1 : Int) (p2 : Int) (p3 : Int) (x1 : Int) (x3 : Int) (x4 : Int) (x5 : Int) (x6 : Int) (t0 : Int) (M : Mem) : Option (Int × Mem) :=
  if 0 ≤ x1 ∧ x1 < 6 then if M 128 x1 = 2 then some (t0, M) else if M 128 x1 = 3 then some (x6, M) else if M 128 x1 = 4 then if x4 = 0 then some (x5, M) else some (0, M) else if M 128 x1 = 5 then if 0 ≤ x1 ∧ x1 < 6 then if M 131 x1 ≤ x3 then some (t0, M) else if 0 ≤ x1 ∧ x1 < 6 then some (w32 (t0 + (M 129 x1)), M) else none else none else if M 128 x1 = 6 then if x4 = 0 then if 0 ≤ w32 ((w32 (4 * x1)) + (Int.tmod (M 127 1) 4)) ∧ w32 ((w32 (4 * x1)) + (Int.tmod (M 127 1) 4)) < 24 then some (w32 (x6 + (M 132 (w32 ((w32 (4 * x1)) + (Int.tmod (M 127 1) 4))))), M) else none else some (x6, M) else some (x5, M) else none
def f_X8_heardBy (p1 : Int) (p2 : Int) (p3 : Int) (M : Mem) : Option (Int × Mem) :=
  if 0 ≤ p1 ∧ p1 < 6 then (f_X8_farOf (M 131 p1) p3 M).bind (fun q2 => (f_X8_wall q2.2).bind (fun q4 => (f_X8_least0 (w32 (p2 - (w32 (q4.1 * q2.1)))) q4.2).bind (fun q6 => (f_X8_wall q6.2).bind (fun q8 => (f_X8_least0 (w32 (p2 - (w32 ((w32 (Int.tdiv q8.1 2)) * q2.1)))) q8.2).bind (fun q10 => if Int.tmod (q10.2 127 1) 2 = 1 then f_X8_heardBy_64 p1 p2 p3 p1 p3 q2.1 q6.1 q10.1 q6.1 q10.2 else f_X8_heardBy_64 p1 p2 p3 p1 p3 q2.1 q6.1 q10.1 (w32 (Int.tdiv q6.1 2)) q10.2))))) else none
set_option maxRecDepth 20000 in
set_option maxHeartbeats 4000000 in
theorem b_X8_heardBy_64 {K : KX} {B : BX} {res : Int × Mem} {p1 : Int} {p2 : Int} {p3 : Int} (C : Cx K B false yX8_heardBy cX8_heardBy 8 (some .int) 4 0 0) : ∀ (x1 : Int) (x3 : Int) (x4 : Int) (x5 : Int) (x6 : Int) (t0 : Int) (M : Mem), OK M → f_X8_heardBy_64 p1 p2 p3 x1 x3 x4 x5 x6 t0 M = some res → Wx K B (Zr K B (some (aI res.1)) SH res.2 (OK res.2) 0 0) 0 0 SH 8 M 64 [some (aR 127), some (aI x1), none, some (aI x3), some (aI x4), some (aI x5), some (aI x6), none] [aI t0] := by
  intro x1 x3 x4 x5 x6 t0 M hOM h
  unfold f_X8_heardBy_64 at h
  refine mx_istore (pc := 64) C dX8_heardBy_64 (ls' := [some (aR 127), some (aI x1), none, some (aI x3), some (aI x4), some (aI x5), some (aI x6), some (aI t0)]) (by decide) rfl rfl ?_
  refine mx_aload_n (pc := 66) C dX8_heardBy_66 rfl ?_
  refine mx_getR (pc := 67) (v := 128) C dX8_heardBy_67 so_8 ci_8 (k := 2) (by decide) fl_X8_16 rfl (q := 2) rfl (lay_8_2 hOM) (by decide) ?_
  refine mx_iload_n (pc := 70) C dX8_heardBy_70 rfl ?_
  obtain ⟨g1, h⟩ := of_gd h
  refine mx_iald (pc := 71) C dX8_heardBy_71 sh_8_2 g1.1 g1.2 ?_
  by_cases c2 : M 128 x1 = 2
  · rw [if_pos c2] at h
    refine mx_tin (pc := 72) (tgt := 108) C 2 dX8_heardBy_72 c2 (by decide) (by decide) rfl rfl ?_
    refine mx_iload (pc := 108) C dX8_heardBy_108 rfl ?_
    rw [← Option.some.inj h]
    exact mx_ireturn (pc := 110) C dX8_heardBy_110 hOM ⟨Nat.le_refl _, Nat.le_refl _⟩
  · rw [if_neg c2] at h
    by_cases c3 : M 128 x1 = 3
    · rw [if_pos c3] at h
      refine mx_tin (pc := 72) (tgt := 111) C 3 dX8_heardBy_72 c3 (by decide) (by decide) rfl rfl ?_
      refine mx_iload (pc := 111) C dX8_heardBy_111 rfl ?_
      rw [← Option.some.inj h]
      exact mx_ireturn (pc := 113) C dX8_heardBy_113 hOM ⟨Nat.le_refl _, Nat.le_refl _⟩
    · rw [if_neg c3] at h
      by_cases c4 : M 128 x1 = 4
      · rw [if_pos c4] at h
        refine mx_tin (pc := 72) (tgt := 114) C 4 dX8_heardBy_72 c4 (by decide) (by decide) rfl rfl ?_
        refine mx_iload (pc := 114) C dX8_heardBy_114 rfl ?_
        refine mx_if_ne (pc := 116) (tgt := 124) C dX8_heardBy_116 rfl (fun c5 => ?_) (fun c5 => ?_)
        · rw [if_neg c5] at h
          refine mx_iconst (pc := 124) C dX8_heardBy_124 (z := 0) rfl (by constructor <;> decide) ?_
          rw [← Option.some.inj h]
          exact mx_ireturn (pc := 125) C dX8_heardBy_125 hOM ⟨Nat.le_refl _, Nat.le_refl _⟩
        · rw [if_pos c5] at h
          refine mx_iload (pc := 119) C dX8_heardBy_119 rfl ?_
          refine mx_goto (pc := 121) (tgt := 125) C dX8_heardBy_121 rfl ?_
          rw [← Option.some.inj h]
          exact mx_ireturn (pc := 125) C dX8_heardBy_125 hOM ⟨Nat.le_refl _, Nat.le_refl _⟩
      · rw [if_neg c4] at h
        by_cases c6 : M 128 x1 = 5
        · rw [if_pos c6] at h
          refine mx_tin (pc := 72) (tgt := 126) C 5 dX8_heardBy_72 c6 (by decide) (by decide) rfl rfl ?_
          refine mx_iload_n (pc := 126) C dX8_heardBy_126 rfl ?_
          refine mx_aload_n (pc := 127) C dX8_heardBy_127 rfl ?_
          refine mx_getR (pc := 128) (v := 131) C dX8_heardBy_128 so_8 ci_8 (k := 5) (by decide) fl_X8_26 rfl (q := 5) rfl (lay_8_5 hOM) (by decide) ?_
          refine mx_iload_n (pc := 131) C dX8_heardBy_131 rfl ?_
          obtain ⟨g7, h⟩ := of_gd h
          refine mx_iald (pc := 132) C dX8_heardBy_132 sh_8_5 g7.1 g7.2 ?_
          refine mx_icmp_ge (pc := 133) (tgt := 148) C dX8_heardBy_133 rfl (fun c8 => ?_) (fun c8 => ?_)
          · rw [if_pos c8] at h
            refine mx_iload (pc := 148) C dX8_heardBy_148 rfl ?_
            rw [← Option.some.inj h]
            exact mx_ireturn (pc := 150) C dX8_heardBy_150 hOM ⟨Nat.le_refl _, Nat.le_refl _⟩
          · rw [if_neg c8] at h
            refine mx_iload (pc := 136) C dX8_heardBy_136 rfl ?_
            refine mx_aload_n (pc := 138) C dX8_heardBy_138 rfl ?_
            refine mx_getR (pc := 139) (v := 129) C dX8_heardBy_139 so_8 ci_8 (k := 3) (by decide) fl_X8_20 rfl (q := 3) rfl (lay_8_3 hOM) (by decide) ?_
            refine mx_iload_n (pc := 142) C dX8_heardBy_142 rfl ?_
            obtain ⟨g9, h⟩ := of_gd h
            refine mx_iald (pc := 143) C dX8_heardBy_143 sh_8_3 g9.1 g9.2 ?_
            refine mx_iadd (pc := 144) C dX8_heardBy_144  ?_
            refine mx_goto (pc := 145) (tgt := 150) C dX8_heardBy_145 rfl ?_
            rw [← Option.some.inj h]
            exact mx_ireturn (pc := 150) C dX8_heardBy_150 hOM ⟨Nat.le_refl _, Nat.le_refl _⟩
        · rw [if_neg c6] at h
          by_cases c10 : M 128 x1 = 6
          · rw [if_pos c10] at h
            refine mx_tin (pc := 72) (tgt := 151) C 6 dX8_heardBy_72 c10 (by decide) (by decide) rfl rfl ?_
            refine mx_iload (pc := 151) C dX8_heardBy_151 rfl ?_
            refine mx_if_ne (pc := 153) (tgt := 177) C dX8_heardBy_153 rfl (fun c11 => ?_) (fun c11 => ?_)
            · rw [if_neg c11] at h
              refine mx_iload (pc := 177) C dX8_heardBy_177 rfl ?_
              rw [← Option.some.inj h]
              exact mx_ireturn (pc := 179) C dX8_heardBy_179 hOM ⟨Nat.le_refl _, Nat.le_refl _⟩
            · rw [if_pos c11] at h
              refine mx_iload (pc := 156) C dX8_heardBy_156 rfl ?_
              refine mx_aload_n (pc := 158) C dX8_heardBy_158 rfl ?_
              refine mx_getR (pc := 159) (v := 132) C dX8_heardBy_159 so_8 ci_8 (k := 6) (by decide) fl_X8_29 rfl (q := 6) rfl (lay_8_6 hOM) (by decide) ?_
              refine mx_iconst (pc := 162) C dX8_heardBy_162 (z := 4) rfl (by constructor <;> decide) ?_
              refine mx_iload_n (pc := 163) C dX8_heardBy_163 rfl ?_
              refine mx_imul (pc := 164) C dX8_heardBy_164  ?_
              refine mx_aload_n (pc := 165) C dX8_heardBy_165 rfl ?_
              refine mx_getI (pc := 166) C dX8_heardBy_166 so_8 ci_8 (k := 1) (by decide) fl_X8_13 rfl (q := 1) rfl ?_
              refine mx_iconst (pc := 169) C dX8_heardBy_169 (z := 4) rfl (by constructor <;> decide) ?_
              refine mx_irem (pc := 170) C dX8_heardBy_170 (by decide) ?_
              refine mx_iadd (pc := 171) C dX8_heardBy_171  ?_
              obtain ⟨g12, h⟩ := of_gd h
              refine mx_iald (pc := 172) C dX8_heardBy_172 sh_8_6 g12.1 g12.2 ?_
              refine mx_iadd (pc := 173) C dX8_heardBy_173  ?_
              refine mx_goto (pc := 174) (tgt := 179) C dX8_heardBy_174 rfl ?_
              rw [← Option.some.inj h]
              exact mx_ireturn (pc := 179) C dX8_heardBy_179 hOM ⟨Nat.le_refl _, Nat.le_refl _⟩
          · rw [if_neg c10] at h
            refine mx_tout (pc := 72) (tgt := 180) C dX8_heardBy_72 (by omega) rfl ?_
            refine mx_iload (pc := 180) C dX8_heardBy_180 rfl ?_
            rw [← Option.some.inj h]
            exact mx_ireturn (pc := 182) C dX8_heardBy_182 hOM ⟨Nat.le_refl _, Nat.le_refl _⟩
set_option maxRecDepth 20000 in
set_option maxHeartbeats 4000000 in
theorem m_X8_heardBy {p1 : Int} {p2 : Int} {p3 : Int} {M : Mem} {res : Int × Mem} (hOM : OK M) (h : f_X8_heardBy p1 p2 p3 M = some res) : Mth false yX8_heardBy cX8_heardBy 8 (some .int) 4 0 0 SH [aR 127, aI p1, aI p2, aI p3] M (some (aI res.1)) SH res.2 (OK res.2) := by
  refine Mth.of (by decide +kernel) (Nat.le_of_ble_eq_true rfl) (fun K B C => ?_)
  show Wx K B _ 0 0 SH 8 M 0 [some (aR 127), some (aI p1), some (aI p2), some (aI p3), none, none, none, none] []
  unfold f_X8_heardBy at h
  refine mx_aload_n (pc := 0) C dX8_heardBy_0 rfl ?_
  refine mx_aload_n (pc := 1) C dX8_heardBy_1 rfl ?_
  refine mx_getR (pc := 2) (v := 131) C dX8_heardBy_2 so_8 ci_8 (k := 5) (by decide) fl_X8_26 rfl (q := 5) rfl (lay_8_5 hOM) (by decide) ?_
  refine mx_iload_n (pc := 5) C dX8_heardBy_5 rfl ?_
  obtain ⟨g1, h⟩ := of_gd h
  refine mx_iald (pc := 6) C dX8_heardBy_6 sh_8_5 g1.1 g1.2 ?_
  refine mx_iload_n (pc := 7) C dX8_heardBy_7 rfl ?_
  obtain ⟨q2, hq2, h⟩ := of_bd h
  refine mc_V (pc := 8) (as := [aI (M 131 p1), aI p3]) (rest := []) (stk2 := [aI q2.1]) C ⟨Nat.le_refl _, Nat.le_refl _⟩ (m_X8_farOf hOM hq2) mi_X8_farOf mv_X8_farOf ml_X8_235 ci_8 rfl so_8 (by omega) rfl (Nat.le_of_ble_eq_true rfl) dX8_heardBy_8 rfl (fun hp3 => ?_)
  have hOq2 : OK q2.2 := hp3
  refine mx_istore (pc := 11) C dX8_heardBy_11 (ls' := [some (aR 127), some (aI p1), some (aI p2), some (aI p3), some (aI q2.1), none, none, none]) (by decide) rfl rfl ?_
  refine mx_aload_n (pc := 13) C dX8_heardBy_13 rfl ?_
  refine mx_iload_n (pc := 14) C dX8_heardBy_14 rfl ?_
  refine mx_aload_n (pc := 15) C dX8_heardBy_15 rfl ?_
  obtain ⟨q4, hq4, h⟩ := of_bd h
  refine mc_V (pc := 16) (as := []) (rest := [aI p2, aR 127]) (stk2 := [aI q4.1, aI p2, aR 127]) C ⟨Nat.le_refl _, Nat.le_refl _⟩ (m_X8_wall hOq2 hq4) mi_X8_wall mv_X8_wall ml_X8_311 ci_8 rfl so_8 (by omega) rfl (Nat.le_of_ble_eq_true rfl) dX8_heardBy_16 rfl (fun hp5 => ?_)
  have hOq4 : OK q4.2 := hp5
  refine mx_iload (pc := 19) C dX8_heardBy_19 rfl ?_
  refine mx_imul (pc := 21) C dX8_heardBy_21  ?_
  refine mx_isub (pc := 22) C dX8_heardBy_22  ?_
  obtain ⟨q6, hq6, h⟩ := of_bd h
  refine mc_V (pc := 23) (as := [aI (w32 (p2 - (w32 (q4.1 * q2.1))))]) (rest := []) (stk2 := [aI q6.1]) C ⟨Nat.le_refl _, Nat.le_refl _⟩ (m_X8_least0 hOq4 hq6) mi_X8_least0 mv_X8_least0 ml_X8_308 ci_8 rfl so_8 (by omega) rfl (Nat.le_of_ble_eq_true rfl) dX8_heardBy_23 rfl (fun hp7 => ?_)
  have hOq6 : OK q6.2 := hp7
  refine mx_istore (pc := 26) C dX8_heardBy_26 (ls' := [some (aR 127), some (aI p1), some (aI p2), some (aI p3), some (aI q2.1), some (aI q6.1), none, none]) (by decide) rfl rfl ?_
  refine mx_aload_n (pc := 28) C dX8_heardBy_28 rfl ?_
  refine mx_iload_n (pc := 29) C dX8_heardBy_29 rfl ?_
  refine mx_aload_n (pc := 30) C dX8_heardBy_30 rfl ?_
  obtain ⟨q8, hq8, h⟩ := of_bd h
  refine mc_V (pc := 31) (as := []) (rest := [aI p2, aR 127]) (stk2 := [aI q8.1, aI p2, aR 127]) C ⟨Nat.le_refl _, Nat.le_refl _⟩ (m_X8_wall hOq6 hq8) mi_X8_wall mv_X8_wall ml_X8_311 ci_8 rfl so_8 (by omega) rfl (Nat.le_of_ble_eq_true rfl) dX8_heardBy_31 rfl (fun hp9 => ?_)
  have hOq8 : OK q8.2 := hp9
  refine mx_iconst (pc := 34) C dX8_heardBy_34 (z := 2) rfl (by constructor <;> decide) ?_
  refine mx_idiv (pc := 35) C dX8_heardBy_35 (by decide) ?_
  refine mx_iload (pc := 36) C dX8_heardBy_36 rfl ?_
  refine mx_imul (pc := 38) C dX8_heardBy_38  ?_
  refine mx_isub (pc := 39) C dX8_heardBy_39  ?_
  obtain ⟨q10, hq10, h⟩ := of_bd h
  refine mc_V (pc := 40) (as := [aI (w32 (p2 - (w32 ((w32 (Int.tdiv q8.1 2)) * q2.1))))]) (rest := []) (stk2 := [aI q10.1]) C ⟨Nat.le_refl _, Nat.le_refl _⟩ (m_X8_least0 hOq8 hq10) mi_X8_least0 mv_X8_least0 ml_X8_308 ci_8 rfl so_8 (by omega) rfl (Nat.le_of_ble_eq_true rfl) dX8_heardBy_40 rfl (fun hp11 => ?_)
  have hOq10 : OK q10.2 := hp11
  refine mx_istore (pc := 43) C dX8_heardBy_43 (ls' := [some (aR 127), some (aI p1), some (aI p2), some (aI p3), some (aI q2.1), some (aI q6.1), some (aI q10.1), none]) (by decide) rfl rfl ?_
  refine mx_aload_n (pc := 45) C dX8_heardBy_45 rfl ?_
  refine mx_getI (pc := 46) C dX8_heardBy_46 so_8 ci_8 (k := 1) (by decide) fl_X8_13 rfl (q := 1) rfl ?_
  refine mx_iconst (pc := 49) C dX8_heardBy_49 (z := 2) rfl (by constructor <;> decide) ?_
  refine mx_irem (pc := 50) C dX8_heardBy_50 (by decide) ?_
  refine mx_iconst (pc := 51) C dX8_heardBy_51 (z := 1) rfl (by constructor <;> decide) ?_
  refine mx_icmp_ne (pc := 52) (tgt := 60) C dX8_heardBy_52 rfl (fun c12 => ?_) (fun c12 => ?_)
  · rw [if_neg c12] at h
    refine mx_iload (pc := 60) C dX8_heardBy_60 rfl ?_
    refine mx_iconst (pc := 62) C dX8_heardBy_62 (z := 2) rfl (by constructor <;> decide) ?_
    refine mx_idiv (pc := 63) C dX8_heardBy_63 (by decide) ?_
    refine mx_mask [true, true, false, true, true, true, true, false] (ls' := [some (aR 127), some (aI p1), none, some (aI p3), some (aI q2.1), some (aI q6.1), some (aI q10.1), none]) rfl rfl ?_
    exact b_X8_heardBy_64 C p1 p3 q2.1 q6.1 q10.1 (w32 (Int.tdiv q6.1 2)) q10.2 hOq10 h
  · rw [if_pos c12] at h
    refine mx_iload (pc := 55) C dX8_heardBy_55 rfl ?_
    refine mx_goto (pc := 57) (tgt := 64) C dX8_heardBy_57 rfl ?_
    refine mx_mask [true, true, false, true, true, true, true, false] (ls' := [some (aR 127), some (aI p1), none, some (aI p3), some (aI q2.1), some (aI q6.1), some (aI q10.1), none]) rfl rfl ?_
    exact b_X8_heardBy_64 C p1 p3 q2.1 q6.1 q10.1 q6.1 q10.2 hOq10 h

def f_X8_layNoises_82 (k22 : Int → Mem → Option (Int × Mem)) (x1 : Int) (M : Mem) : Option (Int × Mem) :=
  k22 (w32 (x1 + 1)) M
def f_X8_layNoises_55 (k22 : Int → Mem → Option (Int × Mem)) : Nat → Int → Int → Int → Mem → Option (Int × Mem)
  | 0, _, _, _, _ => none
  | n + 1, x1, x2, x3, M => if 5 ≤ x3 then f_X8_layNoises_82 k22 x1 M else if 0 ≤ x3 ∧ x3 < 5 then (f_X8_heardBy x1 x2 x3 M).bind (fun q3 => if 0 ≤ x3 ∧ x3 < 5 then lt (stM q3.2 143 x3 (w32 ((M 143 x3) + q3.1))) (fun M6 => f_X8_layNoises_55 k22 n x1 x2 (w32 (x3 + 1)) M6) else none) else none
def f_X8_layNoises_22 : Nat → Int → Mem → Option (Int × Mem)
  | 0, _, _ => none
  | n + 1, x1, M => if M 127 0 ≤ x1 then some (0, M) else (f_X8_isLost x1 M).bind (fun q2 => if q2.1 = 0 then if 0 ≤ x1 ∧ x1 < 6 then (f_X8_voice x1 (q2.2 131 x1) q2.2).bind (fun q6 => f_X8_layNoises_55 (f_X8_layNoises_22 n) FU x1 q6.1 0 q6.2) else none else f_X8_layNoises_82 (f_X8_layNoises_22 n) x1 q2.2)
def f_X8_layNoises_2 : Nat → Int → Mem → Option (Int × Mem)
  | 0, _, _ => none
  | n + 1, x1, M => if 5 ≤ x1 then f_X8_layNoises_22 FU 0 M else if 0 ≤ x1 ∧ x1 < 5 then lt (stM M 143 x1 0) (fun M3 => f_X8_layNoises_2 n (w32 (x1 + 1)) M3) else none
def f_X8_layNoises (M : Mem) : Option (Int × Mem) :=
  f_X8_layNoises_2 FU 0 M
set_option maxRecDepth 20000 in
set_option maxHeartbeats 4000000 in
theorem b_X8_layNoises_82 {K : KX} {B : BX} {res : Int × Mem} {k22 : Int → Mem → Option (Int × Mem)} (C : Cx K B false yX8_layNoises cX8_layNoises 4 none 5 0 0) (hk22 : ∀ (x1 : Int) (M : Mem), OK M → k22 x1 M = some res → Wx K B (Zr K B none SH res.2 (OK res.2) 0 0) 0 0 SH 4 M 22 [some (aR 127), some (aI x1), none, none] []) : ∀ (x1 : Int) (M : Mem), OK M → f_X8_layNoises_82 k22 x1 M = some res → Wx K B (Zr K B none SH res.2 (OK res.2) 0 0) 0 0 SH 4 M 82 [some (aR 127), some (aI x1), none, none] [] := by
  intro x1 M hOM h
  unfold f_X8_layNoises_82 at h
  refine mx_iinc (pc := 82) C dX8_layNoises_82 (ls' := [some (aR 127), some (aI (w32 (x1 + 1))), none, none]) rfl (by decide) rfl (by constructor <;> decide) rfl rfl ?_
  refine mx_goto (pc := 85) (tgt := 22) C dX8_layNoises_85 rfl ?_
  exact hk22 (w32 (x1 + 1)) M hOM h
set_option maxRecDepth 20000 in
set_option maxHeartbeats 4000000 in
theorem b_X8_layNoises_55 {K : KX} {B : BX} {res : Int × Mem} {k22 : Int → Mem → Option (Int × Mem)} (C : Cx K B false yX8_layNoises cX8_layNoises 4 none 5 0 0) (hk22 : ∀ (x1 : Int) (M : Mem), OK M → k22 x1 M = some res → Wx K B (Zr K B none SH res.2 (OK res.2) 0 0) 0 0 SH 4 M 22 [some (aR 127), some (aI x1), none, none] []) : ∀ (n : Nat) (x1 : Int) (x2 : Int) (x3 : Int) (M : Mem), OK M → f_X8_layNoises_55 k22 n x1 x2 x3 M = some res → Wx K B (Zr K B none SH res.2 (OK res.2) 0 0) 0 0 SH 4 M 55 [some (aR 127), some (aI x1), some (aI x2), some (aI x3)] [] := by
  intro n
  induction n with
  | zero =>
    intro x1 x2 x3 M hOM h
    cases h
  | succ n ih =>
    intro x1 x2 x3 M hOM h
    rw [f_X8_layNoises_55.eq_2] at h
    refine mx_iload_n (pc := 55) C dX8_layNoises_55 rfl ?_
    refine mx_iconst (pc := 56) C dX8_layNoises_56 (z := 5) rfl (by constructor <;> decide) ?_
    refine mx_icmp_ge (pc := 57) (tgt := 82) C dX8_layNoises_57 rfl (fun c1 => ?_) (fun c1 => ?_)
    · rw [if_pos c1] at h
      refine mx_mask [true, true, false, false] (ls' := [some (aR 127), some (aI x1), none, none]) rfl rfl ?_
      exact b_X8_layNoises_82 C hk22 x1 M hOM h
    · rw [if_neg c1] at h
      refine mx_aload_n (pc := 60) C dX8_layNoises_60 rfl ?_
      refine mx_getR (pc := 61) (v := 143) C dX8_layNoises_61 so_8 ci_8 (k := 25) (by decide) fl_X8_87 rfl (q := 25) rfl (lay_8_25 hOM) (by decide) ?_
      refine mx_iload_n (pc := 64) C dX8_layNoises_64 rfl ?_
      refine mx_dup2 (pc := 65) C dX8_layNoises_65 rfl rfl ?_
      obtain ⟨g2, h⟩ := of_gd h
      refine mx_iald (pc := 66) C dX8_layNoises_66 sh_8_25 g2.1 g2.2 ?_
      refine mx_aload_n (pc := 67) C dX8_layNoises_67 rfl ?_
      refine mx_iload_n (pc := 68) C dX8_layNoises_68 rfl ?_
      refine mx_iload_n (pc := 69) C dX8_layNoises_69 rfl ?_
      refine mx_iload_n (pc := 70) C dX8_layNoises_70 rfl ?_
      obtain ⟨q3, hq3, h⟩ := of_bd h
      refine mc_V (pc := 71) (as := [aI x1, aI x2, aI x3]) (rest := [aI (M 143 x3), aI x3, aR 143]) (stk2 := [aI q3.1, aI (M 143 x3), aI x3, aR 143]) C ⟨Nat.le_refl _, Nat.le_refl _⟩ (m_X8_heardBy hOM hq3) mi_X8_heardBy mv_X8_heardBy ml_X8_317 ci_8 rfl so_8 (by omega) rfl (Nat.le_of_ble_eq_true rfl) dX8_layNoises_71 rfl (fun hp4 => ?_)
      have hOq3 : OK q3.2 := hp4
      refine mx_iadd (pc := 74) C dX8_layNoises_74  ?_
      obtain ⟨g5, h⟩ := of_gd h
      refine mx_iast (pc := 75) C dX8_layNoises_75 sh_8_25 g5.1 g5.2 ?_
      generalize hmM6 : stM q3.2 143 x3 (w32 ((M 143 x3) + q3.1)) = M6 at h ⊢
      replace h := lt_e h
      have hOM6 : OK M6 := by rw [← hmM6]; exact ok_arr hOq3 sh_8_25 (by decide)
      refine mx_iinc (pc := 76) C dX8_layNoises_76 (ls' := [some (aR 127), some (aI x1), some (aI x2), some (aI (w32 (x3 + 1)))]) rfl (by decide) rfl (by constructor <;> decide) rfl rfl ?_
      refine mx_goto (pc := 79) (tgt := 55) C dX8_layNoises_79 rfl ?_
      exact ih x1 x2 (w32 (x3 + 1)) M6 hOM6 h
set_option maxRecDepth 20000 in
set_option maxHeartbeats 4000000 in
theorem b_X8_layNoises_22 {K : KX} {B : BX} {res : Int × Mem} (C : Cx K B false yX8_layNoises cX8_layNoises 4 none 5 0 0) : ∀ (n : Nat) (x1 : Int) (M : Mem), OK M → f_X8_layNoises_22 n x1 M = some res → Wx K B (Zr K B none SH res.2 (OK res.2) 0 0) 0 0 SH 4 M 22 [some (aR 127), some (aI x1), none, none] [] := by
  intro n
  induction n with
  | zero =>
    intro x1 M hOM h
    cases h
  | succ n ih =>
    intro x1 M hOM h
    rw [f_X8_layNoises_22.eq_2] at h
    refine mx_iload_n (pc := 22) C dX8_layNoises_22 rfl ?_
    refine mx_aload_n (pc := 23) C dX8_layNoises_23 rfl ?_
    refine mx_getI (pc := 24) C dX8_layNoises_24 so_8 ci_8 (k := 0) (by decide) fl_X8_7 rfl (q := 0) rfl ?_
    refine mx_icmp_ge (pc := 27) (tgt := 88) C dX8_layNoises_27 rfl (fun c1 => ?_) (fun c1 => ?_)
    · rw [if_pos c1] at h
      rw [← Option.some.inj h]
      exact mx_return (pc := 88) C dX8_layNoises_88 hOM ⟨Nat.le_refl _, Nat.le_refl _⟩
    · rw [if_neg c1] at h
      refine mx_aload_n (pc := 30) C dX8_layNoises_30 rfl ?_
      refine mx_iload_n (pc := 31) C dX8_layNoises_31 rfl ?_
      obtain ⟨q2, hq2, h⟩ := of_bd h
      refine mc_V (pc := 32) (as := [aI x1]) (rest := []) (stk2 := [aI q2.1]) C ⟨Nat.le_refl _, Nat.le_refl _⟩ (m_X8_isLost hOM hq2) mi_X8_isLost mv_X8_isLost ml_X8_232 ci_8 rfl so_8 (by omega) rfl (Nat.le_of_ble_eq_true rfl) dX8_layNoises_32 rfl (fun hp3 => ?_)
      have hOq2 : OK q2.2 := hp3.1
      refine mx_if_eq (pc := 35) (tgt := 41) C dX8_layNoises_35 rfl (fun c4 => ?_) (fun c4 => ?_)
      · rw [if_pos c4] at h
        refine mx_aload_n (pc := 41) C dX8_layNoises_41 rfl ?_
        refine mx_iload_n (pc := 42) C dX8_layNoises_42 rfl ?_
        refine mx_aload_n (pc := 43) C dX8_layNoises_43 rfl ?_
        refine mx_getR (pc := 44) (v := 131) C dX8_layNoises_44 so_8 ci_8 (k := 5) (by decide) fl_X8_26 rfl (q := 5) rfl (lay_8_5 hOq2) (by decide) ?_
        refine mx_iload_n (pc := 47) C dX8_layNoises_47 rfl ?_
        obtain ⟨g5, h⟩ := of_gd h
        refine mx_iald (pc := 48) C dX8_layNoises_48 sh_8_5 g5.1 g5.2 ?_
        obtain ⟨q6, hq6, h⟩ := of_bd h
        refine mc_V (pc := 49) (as := [aI x1, aI (q2.2 131 x1)]) (rest := []) (stk2 := [aI q6.1]) C ⟨Nat.le_refl _, Nat.le_refl _⟩ (m_X8_voice hOq2 hq6) mi_X8_voice mv_X8_voice ml_X8_314 ci_8 rfl so_8 (by omega) rfl (Nat.le_of_ble_eq_true rfl) dX8_layNoises_49 rfl (fun hp7 => ?_)
        have hOq6 : OK q6.2 := hp7
        refine mx_istore_n (pc := 52) C dX8_layNoises_52 (ls' := [some (aR 127), some (aI x1), some (aI q6.1), none]) (by decide) rfl rfl ?_
        refine mx_iconst (pc := 53) C dX8_layNoises_53 (z := 0) rfl (by constructor <;> decide) ?_
        refine mx_istore_n (pc := 54) C dX8_layNoises_54 (ls' := [some (aR 127), some (aI x1), some (aI q6.1), some (aI 0)]) (by decide) rfl rfl ?_
        exact b_X8_layNoises_55 C ih FU x1 q6.1 0 q6.2 hOq6 h
      · rw [if_neg c4] at h
        refine mx_goto (pc := 38) (tgt := 82) C dX8_layNoises_38 rfl ?_
        exact b_X8_layNoises_82 C ih x1 q2.2 hOq2 h
set_option maxRecDepth 20000 in
set_option maxHeartbeats 4000000 in
theorem b_X8_layNoises_2 {K : KX} {B : BX} {res : Int × Mem} (C : Cx K B false yX8_layNoises cX8_layNoises 4 none 5 0 0) : ∀ (n : Nat) (x1 : Int) (M : Mem), OK M → f_X8_layNoises_2 n x1 M = some res → Wx K B (Zr K B none SH res.2 (OK res.2) 0 0) 0 0 SH 4 M 2 [some (aR 127), some (aI x1), none, none] [] := by
  intro n
  induction n with
  | zero =>
    intro x1 M hOM h
    cases h
  | succ n ih =>
    intro x1 M hOM h
    rw [f_X8_layNoises_2.eq_2] at h
    refine mx_iload_n (pc := 2) C dX8_layNoises_2 rfl ?_
    refine mx_iconst (pc := 3) C dX8_layNoises_3 (z := 5) rfl (by constructor <;> decide) ?_
    refine mx_icmp_ge (pc := 4) (tgt := 20) C dX8_layNoises_4 rfl (fun c1 => ?_) (fun c1 => ?_)
    · rw [if_pos c1] at h
      refine mx_iconst (pc := 20) C dX8_layNoises_20 (z := 0) rfl (by constructor <;> decide) ?_
      refine mx_istore_n (pc := 21) C dX8_layNoises_21 (ls' := [some (aR 127), some (aI 0), none, none]) (by decide) rfl rfl ?_
      exact b_X8_layNoises_22 C FU 0 M hOM h
    · rw [if_neg c1] at h
      refine mx_aload_n (pc := 7) C dX8_layNoises_7 rfl ?_
      refine mx_getR (pc := 8) (v := 143) C dX8_layNoises_8 so_8 ci_8 (k := 25) (by decide) fl_X8_87 rfl (q := 25) rfl (lay_8_25 hOM) (by decide) ?_
      refine mx_iload_n (pc := 11) C dX8_layNoises_11 rfl ?_
      refine mx_iconst (pc := 12) C dX8_layNoises_12 (z := 0) rfl (by constructor <;> decide) ?_
      obtain ⟨g2, h⟩ := of_gd h
      refine mx_iast (pc := 13) C dX8_layNoises_13 sh_8_25 g2.1 g2.2 ?_
      generalize hmM3 : stM M 143 x1 0 = M3 at h ⊢
      replace h := lt_e h
      have hOM3 : OK M3 := by rw [← hmM3]; exact ok_arr hOM sh_8_25 (by decide)
      refine mx_iinc (pc := 14) C dX8_layNoises_14 (ls' := [some (aR 127), some (aI (w32 (x1 + 1))), none, none]) rfl (by decide) rfl (by constructor <;> decide) rfl rfl ?_
      refine mx_goto (pc := 17) (tgt := 2) C dX8_layNoises_17 rfl ?_
      exact ih (w32 (x1 + 1)) M3 hOM3 h
set_option maxRecDepth 20000 in
set_option maxHeartbeats 4000000 in
theorem m_X8_layNoises {M : Mem} {res : Int × Mem} (hOM : OK M) (h : f_X8_layNoises M = some res) : Mth false yX8_layNoises cX8_layNoises 4 none 5 0 0 SH [aR 127] M none SH res.2 (OK res.2) := by
  refine Mth.of (by decide +kernel) (Nat.le_of_ble_eq_true rfl) (fun K B C => ?_)
  show Wx K B _ 0 0 SH 4 M 0 [some (aR 127), none, none, none] []
  unfold f_X8_layNoises at h
  refine mx_iconst (pc := 0) C dX8_layNoises_0 (z := 0) rfl (by constructor <;> decide) ?_
  refine mx_istore_n (pc := 1) C dX8_layNoises_1 (ls' := [some (aR 127), some (aI 0), none, none]) (by decide) rfl rfl ?_
  exact b_X8_layNoises_2 C FU 0 M hOM h

def f_X8_noise (p1 : Int) (M : Mem) : Option (Int × Mem) :=
  (f_X8_layNoises M).bind (fun q1 => if 0 ≤ p1 ∧ p1 < 5 then some (q1.2 143 p1, q1.2) else none)
set_option maxRecDepth 20000 in
set_option maxHeartbeats 4000000 in
theorem m_X8_noise {p1 : Int} {M : Mem} {res : Int × Mem} (hOM : OK M) (h : f_X8_noise p1 M = some res) : Mth false yX8_noise cX8_noise 2 (some .int) 6 0 0 SH [aR 127, aI p1] M (some (aI res.1)) SH res.2 (OK res.2) := by
  refine Mth.of (by decide +kernel) (Nat.le_of_ble_eq_true rfl) (fun K B C => ?_)
  show Wx K B _ 0 0 SH 2 M 0 [some (aR 127), some (aI p1)] []
  unfold f_X8_noise at h
  refine mx_aload_n (pc := 0) C dX8_noise_0 rfl ?_
  obtain ⟨q1, hq1, h⟩ := of_bd h
  refine mc_V (pc := 1) (as := []) (rest := []) (stk2 := []) C ⟨Nat.le_refl _, Nat.le_refl _⟩ (m_X8_layNoises hOM hq1) mi_X8_layNoises mv_X8_layNoises ml_X8_320 ci_8 rfl so_8 (by omega) rfl (Nat.le_of_ble_eq_true rfl) dX8_noise_1 rfl (fun hp2 => ?_)
  have hOq1 : OK q1.2 := hp2
  refine mx_aload_n (pc := 4) C dX8_noise_4 rfl ?_
  refine mx_getR (pc := 5) (v := 143) C dX8_noise_5 so_8 ci_8 (k := 25) (by decide) fl_X8_87 rfl (q := 25) rfl (lay_8_25 hOq1) (by decide) ?_
  refine mx_iload_n (pc := 8) C dX8_noise_8 rfl ?_
  obtain ⟨g3, h⟩ := of_gd h
  refine mx_iald (pc := 9) C dX8_noise_9 sh_8_25 g3.1 g3.2 ?_
  rw [← Option.some.inj h]
  exact mx_ireturn (pc := 10) C dX8_noise_10 hOq1 ⟨Nat.le_refl _, Nat.le_refl _⟩

def f_X8_pass (p1 : Int) (p2 : Int) (M : Mem) : Option (Int × Mem) :=
  (f_X8_isSound p1 M).bind (fun q1 => if q1.1 = 0 then some ((-1), q1.2) else (f_X8_isHouse p2 q1.2).bind (fun q4 => if q4.1 = 0 then some ((-1), q4.2) else (f_X8_isLost p1 q4.2).bind (fun q7 => if q7.1 = 0 then if 0 ≤ p1 ∧ p1 < 6 then (f_X8_farOf (q7.2 131 p1) p2 q7.2).bind (fun q11 => if q11.1 = 1 then if 0 ≤ p1 ∧ p1 < 6 then lt (stM q11.2 131 p1 p2) (fun M15 => (f_X8_noise p2 M15).bind (fun q16 => some (q16.1, q16.2))) else none else some ((-3), q11.2)) else none else some ((-3), q7.2))))
set_option maxRecDepth 20000 in
set_option maxHeartbeats 4000000 in
theorem m_X8_pass {p1 : Int} {p2 : Int} {M : Mem} {res : Int × Mem} (hOM : OK M) (h : f_X8_pass p1 p2 M = some res) : Mth false yX8_pass cX8_pass 3 (some .int) 7 0 0 SH [aR 127, aI p1, aI p2] M (some (aI res.1)) SH res.2 (OK res.2) := by
  refine Mth.of (by decide +kernel) (Nat.le_of_ble_eq_true rfl) (fun K B C => ?_)
  show Wx K B _ 0 0 SH 3 M 0 [some (aR 127), some (aI p1), some (aI p2)] []
  unfold f_X8_pass at h
  refine mx_aload_n (pc := 0) C dX8_pass_0 rfl ?_
  refine mx_iload_n (pc := 1) C dX8_pass_1 rfl ?_
  obtain ⟨q1, hq1, h⟩ := of_bd h
  refine mc_V (pc := 2) (as := [aI p1]) (rest := []) (stk2 := [aI q1.1]) C ⟨Nat.le_refl _, Nat.le_refl _⟩ (m_X8_isSound hOM hq1) mi_X8_isSound mv_X8_isSound ml_X8_229 ci_8 rfl so_8 (by omega) rfl (Nat.le_of_ble_eq_true rfl) dX8_pass_2 rfl (fun hp2 => ?_)
  have hOq1 : OK q1.2 := hp2.1
  refine mx_if_eq (pc := 5) (tgt := 16) C dX8_pass_5 rfl (fun c3 => ?_) (fun c3 => ?_)
  · rw [if_pos c3] at h
    refine mx_iconst (pc := 16) C dX8_pass_16 (z := (-1)) rfl (by constructor <;> decide) ?_
    rw [← Option.some.inj h]
    exact mx_ireturn (pc := 17) C dX8_pass_17 hOq1 ⟨Nat.le_refl _, Nat.le_refl _⟩
  · rw [if_neg c3] at h
    refine mx_aload_n (pc := 8) C dX8_pass_8 rfl ?_
    refine mx_iload_n (pc := 9) C dX8_pass_9 rfl ?_
    obtain ⟨q4, hq4, h⟩ := of_bd h
    refine mc_V (pc := 10) (as := [aI p2]) (rest := []) (stk2 := [aI q4.1]) C ⟨Nat.le_refl _, Nat.le_refl _⟩ (m_X8_isHouse hOq1 hq4) mi_X8_isHouse mv_X8_isHouse ml_X8_222 ci_8 rfl so_8 (by omega) rfl (Nat.le_of_ble_eq_true rfl) dX8_pass_10 rfl (fun hp5 => ?_)
    have hOq4 : OK q4.2 := hp5.1
    refine mx_if_ne (pc := 13) (tgt := 18) C dX8_pass_13 rfl (fun c6 => ?_) (fun c6 => ?_)
    · rw [if_neg c6] at h
      refine mx_aload_n (pc := 18) C dX8_pass_18 rfl ?_
      refine mx_iload_n (pc := 19) C dX8_pass_19 rfl ?_
      obtain ⟨q7, hq7, h⟩ := of_bd h
      refine mc_V (pc := 20) (as := [aI p1]) (rest := []) (stk2 := [aI q7.1]) C ⟨Nat.le_refl _, Nat.le_refl _⟩ (m_X8_isLost hOq4 hq7) mi_X8_isLost mv_X8_isLost ml_X8_232 ci_8 rfl so_8 (by omega) rfl (Nat.le_of_ble_eq_true rfl) dX8_pass_20 rfl (fun hp8 => ?_)
      have hOq7 : OK q7.2 := hp8.1
      refine mx_if_ne (pc := 23) (tgt := 41) C dX8_pass_23 rfl (fun c9 => ?_) (fun c9 => ?_)
      · rw [if_neg c9] at h
        refine mx_bipush (pc := 41) C dX8_pass_41 (z := (-3)) rfl (by constructor <;> decide) ?_
        rw [← Option.some.inj h]
        exact mx_ireturn (pc := 43) C dX8_pass_43 hOq7 ⟨Nat.le_refl _, Nat.le_refl _⟩
      · rw [if_pos c9] at h
        refine mx_aload_n (pc := 26) C dX8_pass_26 rfl ?_
        refine mx_aload_n (pc := 27) C dX8_pass_27 rfl ?_
        refine mx_getR (pc := 28) (v := 131) C dX8_pass_28 so_8 ci_8 (k := 5) (by decide) fl_X8_26 rfl (q := 5) rfl (lay_8_5 hOq7) (by decide) ?_
        refine mx_iload_n (pc := 31) C dX8_pass_31 rfl ?_
        obtain ⟨g10, h⟩ := of_gd h
        refine mx_iald (pc := 32) C dX8_pass_32 sh_8_5 g10.1 g10.2 ?_
        refine mx_iload_n (pc := 33) C dX8_pass_33 rfl ?_
        obtain ⟨q11, hq11, h⟩ := of_bd h
        refine mc_V (pc := 34) (as := [aI (q7.2 131 p1), aI p2]) (rest := []) (stk2 := [aI q11.1]) C ⟨Nat.le_refl _, Nat.le_refl _⟩ (m_X8_farOf hOq7 hq11) mi_X8_farOf mv_X8_farOf ml_X8_235 ci_8 rfl so_8 (by omega) rfl (Nat.le_of_ble_eq_true rfl) dX8_pass_34 rfl (fun hp12 => ?_)
        have hOq11 : OK q11.2 := hp12
        refine mx_iconst (pc := 37) C dX8_pass_37 (z := 1) rfl (by constructor <;> decide) ?_
        refine mx_icmp_eq (pc := 38) (tgt := 44) C dX8_pass_38 rfl (fun c13 => ?_) (fun c13 => ?_)
        · rw [if_pos c13] at h
          refine mx_aload_n (pc := 44) C dX8_pass_44 rfl ?_
          refine mx_getR (pc := 45) (v := 131) C dX8_pass_45 so_8 ci_8 (k := 5) (by decide) fl_X8_26 rfl (q := 5) rfl (lay_8_5 hOq11) (by decide) ?_
          refine mx_iload_n (pc := 48) C dX8_pass_48 rfl ?_
          refine mx_iload_n (pc := 49) C dX8_pass_49 rfl ?_
          obtain ⟨g14, h⟩ := of_gd h
          refine mx_iast (pc := 50) C dX8_pass_50 sh_8_5 g14.1 g14.2 ?_
          generalize hmM15 : stM q11.2 131 p1 p2 = M15 at h ⊢
          replace h := lt_e h
          have hOM15 : OK M15 := by rw [← hmM15]; exact ok_arr hOq11 sh_8_5 (by decide)
          refine mx_aload_n (pc := 51) C dX8_pass_51 rfl ?_
          refine mx_iload_n (pc := 52) C dX8_pass_52 rfl ?_
          obtain ⟨q16, hq16, h⟩ := of_bd h
          refine mc_V (pc := 53) (as := [aI p2]) (rest := []) (stk2 := [aI q16.1]) C ⟨Nat.le_refl _, Nat.le_refl _⟩ (m_X8_noise hOM15 hq16) mi_X8_noise mv_X8_noise ml_X8_239 ci_8 rfl so_8 (by omega) rfl (Nat.le_of_ble_eq_true rfl) dX8_pass_53 rfl (fun hp17 => ?_)
          have hOq16 : OK q16.2 := hp17
          rw [← Option.some.inj h]
          exact mx_ireturn (pc := 56) C dX8_pass_56 hOq16 ⟨Nat.le_refl _, Nat.le_refl _⟩
        · rw [if_neg c13] at h
          refine mx_bipush (pc := 41) C dX8_pass_41 (z := (-3)) rfl (by constructor <;> decide) ?_
          rw [← Option.some.inj h]
          exact mx_ireturn (pc := 43) C dX8_pass_43 hOq11 ⟨Nat.le_refl _, Nat.le_refl _⟩
    · rw [if_pos c6] at h
      refine mx_iconst (pc := 16) C dX8_pass_16 (z := (-1)) rfl (by constructor <;> decide) ?_
      rw [← Option.some.inj h]
      exact mx_ireturn (pc := 17) C dX8_pass_17 hOq4 ⟨Nat.le_refl _, Nat.le_refl _⟩

def f_X8_lose (p1 : Int) (M : Mem) : Option (Int × Mem) :=
  (f_X8_isSound p1 M).bind (fun q1 => if q1.1 = 0 then some ((-1), q1.2) else (f_X8_isLost p1 q1.2).bind (fun q4 => if q4.1 = 0 then if 0 ≤ p1 ∧ p1 < 6 then if 0 ≤ p1 ∧ p1 < 6 then lt (stM q4.2 131 p1 (-5)) (fun M9 => some (q4.2 131 p1, M9)) else none else none else some ((-3), q4.2)))
set_option maxRecDepth 20000 in
set_option maxHeartbeats 4000000 in
theorem m_X8_lose {p1 : Int} {M : Mem} {res : Int × Mem} (hOM : OK M) (h : f_X8_lose p1 M = some res) : Mth false yX8_lose cX8_lose 3 (some .int) 3 0 0 SH [aR 127, aI p1] M (some (aI res.1)) SH res.2 (OK res.2) := by
  refine Mth.of (by decide +kernel) (Nat.le_of_ble_eq_true rfl) (fun K B C => ?_)
  show Wx K B _ 0 0 SH 3 M 0 [some (aR 127), some (aI p1), none] []
  unfold f_X8_lose at h
  refine mx_aload_n (pc := 0) C dX8_lose_0 rfl ?_
  refine mx_iload_n (pc := 1) C dX8_lose_1 rfl ?_
  obtain ⟨q1, hq1, h⟩ := of_bd h
  refine mc_V (pc := 2) (as := [aI p1]) (rest := []) (stk2 := [aI q1.1]) C ⟨Nat.le_refl _, Nat.le_refl _⟩ (m_X8_isSound hOM hq1) mi_X8_isSound mv_X8_isSound ml_X8_229 ci_8 rfl so_8 (by omega) rfl (Nat.le_of_ble_eq_true rfl) dX8_lose_2 rfl (fun hp2 => ?_)
  have hOq1 : OK q1.2 := hp2.1
  refine mx_if_ne (pc := 5) (tgt := 10) C dX8_lose_5 rfl (fun c3 => ?_) (fun c3 => ?_)
  · rw [if_neg c3] at h
    refine mx_aload_n (pc := 10) C dX8_lose_10 rfl ?_
    refine mx_iload_n (pc := 11) C dX8_lose_11 rfl ?_
    obtain ⟨q4, hq4, h⟩ := of_bd h
    refine mc_V (pc := 12) (as := [aI p1]) (rest := []) (stk2 := [aI q4.1]) C ⟨Nat.le_refl _, Nat.le_refl _⟩ (m_X8_isLost hOq1 hq4) mi_X8_isLost mv_X8_isLost ml_X8_232 ci_8 rfl so_8 (by omega) rfl (Nat.le_of_ble_eq_true rfl) dX8_lose_12 rfl (fun hp5 => ?_)
    have hOq4 : OK q4.2 := hp5.1
    refine mx_if_eq (pc := 15) (tgt := 21) C dX8_lose_15 rfl (fun c6 => ?_) (fun c6 => ?_)
    · rw [if_pos c6] at h
      refine mx_aload_n (pc := 21) C dX8_lose_21 rfl ?_
      refine mx_getR (pc := 22) (v := 131) C dX8_lose_22 so_8 ci_8 (k := 5) (by decide) fl_X8_26 rfl (q := 5) rfl (lay_8_5 hOq4) (by decide) ?_
      refine mx_iload_n (pc := 25) C dX8_lose_25 rfl ?_
      obtain ⟨g7, h⟩ := of_gd h
      refine mx_iald (pc := 26) C dX8_lose_26 sh_8_5 g7.1 g7.2 ?_
      refine mx_istore_n (pc := 27) C dX8_lose_27 (ls' := [some (aR 127), some (aI p1), some (aI (q4.2 131 p1))]) (by decide) rfl rfl ?_
      refine mx_aload_n (pc := 28) C dX8_lose_28 rfl ?_
      refine mx_getR (pc := 29) (v := 131) C dX8_lose_29 so_8 ci_8 (k := 5) (by decide) fl_X8_26 rfl (q := 5) rfl (lay_8_5 hOq4) (by decide) ?_
      refine mx_iload_n (pc := 32) C dX8_lose_32 rfl ?_
      refine mx_bipush (pc := 33) C dX8_lose_33 (z := (-5)) rfl (by constructor <;> decide) ?_
      obtain ⟨g8, h⟩ := of_gd h
      refine mx_iast (pc := 35) C dX8_lose_35 sh_8_5 g8.1 g8.2 ?_
      generalize hmM9 : stM q4.2 131 p1 (-5) = M9 at h ⊢
      replace h := lt_e h
      have hOM9 : OK M9 := by rw [← hmM9]; exact ok_arr hOq4 sh_8_5 (by decide)
      refine mx_iload_n (pc := 36) C dX8_lose_36 rfl ?_
      rw [← Option.some.inj h]
      exact mx_ireturn (pc := 37) C dX8_lose_37 hOM9 ⟨Nat.le_refl _, Nat.le_refl _⟩
    · rw [if_neg c6] at h
      refine mx_bipush (pc := 18) C dX8_lose_18 (z := (-3)) rfl (by constructor <;> decide) ?_
      rw [← Option.some.inj h]
      exact mx_ireturn (pc := 20) C dX8_lose_20 hOq4 ⟨Nat.le_refl _, Nat.le_refl _⟩
  · rw [if_pos c3] at h
    refine mx_iconst (pc := 8) C dX8_lose_8 (z := (-1)) rfl (by constructor <;> decide) ?_
    rw [← Option.some.inj h]
    exact mx_ireturn (pc := 9) C dX8_lose_9 hOq1 ⟨Nat.le_refl _, Nat.le_refl _⟩

def f_X8_find (p1 : Int) (p2 : Int) (M : Mem) : Option (Int × Mem) :=
  (f_X8_isSound p1 M).bind (fun q1 => if q1.1 = 0 then some ((-1), q1.2) else (f_X8_isHouse p2 q1.2).bind (fun q4 => if q4.1 = 0 then some ((-1), q4.2) else (f_X8_isLost p1 q4.2).bind (fun q7 => if q7.1 = 0 then some ((-3), q7.2) else if 0 ≤ p1 ∧ p1 < 6 then lt (stM q7.2 131 p1 p2) (fun M11 => (f_X8_noise p2 M11).bind (fun q12 => some (q12.1, q12.2))) else none)))
set_option maxRecDepth 20000 in
set_option maxHeartbeats 4000000 in
theorem m_X8_find {p1 : Int} {p2 : Int} {M : Mem} {res : Int × Mem} (hOM : OK M) (h : f_X8_find p1 p2 M = some res) : Mth false yX8_find cX8_find 3 (some .int) 7 0 0 SH [aR 127, aI p1, aI p2] M (some (aI res.1)) SH res.2 (OK res.2) := by
  refine Mth.of (by decide +kernel) (Nat.le_of_ble_eq_true rfl) (fun K B C => ?_)
  show Wx K B _ 0 0 SH 3 M 0 [some (aR 127), some (aI p1), some (aI p2)] []
  unfold f_X8_find at h
  refine mx_aload_n (pc := 0) C dX8_find_0 rfl ?_
  refine mx_iload_n (pc := 1) C dX8_find_1 rfl ?_
  obtain ⟨q1, hq1, h⟩ := of_bd h
  refine mc_V (pc := 2) (as := [aI p1]) (rest := []) (stk2 := [aI q1.1]) C ⟨Nat.le_refl _, Nat.le_refl _⟩ (m_X8_isSound hOM hq1) mi_X8_isSound mv_X8_isSound ml_X8_229 ci_8 rfl so_8 (by omega) rfl (Nat.le_of_ble_eq_true rfl) dX8_find_2 rfl (fun hp2 => ?_)
  have hOq1 : OK q1.2 := hp2.1
  refine mx_if_eq (pc := 5) (tgt := 16) C dX8_find_5 rfl (fun c3 => ?_) (fun c3 => ?_)
  · rw [if_pos c3] at h
    refine mx_iconst (pc := 16) C dX8_find_16 (z := (-1)) rfl (by constructor <;> decide) ?_
    rw [← Option.some.inj h]
    exact mx_ireturn (pc := 17) C dX8_find_17 hOq1 ⟨Nat.le_refl _, Nat.le_refl _⟩
  · rw [if_neg c3] at h
    refine mx_aload_n (pc := 8) C dX8_find_8 rfl ?_
    refine mx_iload_n (pc := 9) C dX8_find_9 rfl ?_
    obtain ⟨q4, hq4, h⟩ := of_bd h
    refine mc_V (pc := 10) (as := [aI p2]) (rest := []) (stk2 := [aI q4.1]) C ⟨Nat.le_refl _, Nat.le_refl _⟩ (m_X8_isHouse hOq1 hq4) mi_X8_isHouse mv_X8_isHouse ml_X8_222 ci_8 rfl so_8 (by omega) rfl (Nat.le_of_ble_eq_true rfl) dX8_find_10 rfl (fun hp5 => ?_)
    have hOq4 : OK q4.2 := hp5.1
    refine mx_if_ne (pc := 13) (tgt := 18) C dX8_find_13 rfl (fun c6 => ?_) (fun c6 => ?_)
    · rw [if_neg c6] at h
      refine mx_aload_n (pc := 18) C dX8_find_18 rfl ?_
      refine mx_iload_n (pc := 19) C dX8_find_19 rfl ?_
      obtain ⟨q7, hq7, h⟩ := of_bd h
      refine mc_V (pc := 20) (as := [aI p1]) (rest := []) (stk2 := [aI q7.1]) C ⟨Nat.le_refl _, Nat.le_refl _⟩ (m_X8_isLost hOq4 hq7) mi_X8_isLost mv_X8_isLost ml_X8_232 ci_8 rfl so_8 (by omega) rfl (Nat.le_of_ble_eq_true rfl) dX8_find_20 rfl (fun hp8 => ?_)
      have hOq7 : OK q7.2 := hp8.1
      refine mx_if_ne (pc := 23) (tgt := 29) C dX8_find_23 rfl (fun c9 => ?_) (fun c9 => ?_)
      · rw [if_neg c9] at h
        refine mx_aload_n (pc := 29) C dX8_find_29 rfl ?_
        refine mx_getR (pc := 30) (v := 131) C dX8_find_30 so_8 ci_8 (k := 5) (by decide) fl_X8_26 rfl (q := 5) rfl (lay_8_5 hOq7) (by decide) ?_
        refine mx_iload_n (pc := 33) C dX8_find_33 rfl ?_
        refine mx_iload_n (pc := 34) C dX8_find_34 rfl ?_
        obtain ⟨g10, h⟩ := of_gd h
        refine mx_iast (pc := 35) C dX8_find_35 sh_8_5 g10.1 g10.2 ?_
        generalize hmM11 : stM q7.2 131 p1 p2 = M11 at h ⊢
        replace h := lt_e h
        have hOM11 : OK M11 := by rw [← hmM11]; exact ok_arr hOq7 sh_8_5 (by decide)
        refine mx_aload_n (pc := 36) C dX8_find_36 rfl ?_
        refine mx_iload_n (pc := 37) C dX8_find_37 rfl ?_
        obtain ⟨q12, hq12, h⟩ := of_bd h
        refine mc_V (pc := 38) (as := [aI p2]) (rest := []) (stk2 := [aI q12.1]) C ⟨Nat.le_refl _, Nat.le_refl _⟩ (m_X8_noise hOM11 hq12) mi_X8_noise mv_X8_noise ml_X8_239 ci_8 rfl so_8 (by omega) rfl (Nat.le_of_ble_eq_true rfl) dX8_find_38 rfl (fun hp13 => ?_)
        have hOq12 : OK q12.2 := hp13
        rw [← Option.some.inj h]
        exact mx_ireturn (pc := 41) C dX8_find_41 hOq12 ⟨Nat.le_refl _, Nat.le_refl _⟩
      · rw [if_pos c9] at h
        refine mx_bipush (pc := 26) C dX8_find_26 (z := (-3)) rfl (by constructor <;> decide) ?_
        rw [← Option.some.inj h]
        exact mx_ireturn (pc := 28) C dX8_find_28 hOq7 ⟨Nat.le_refl _, Nat.le_refl _⟩
    · rw [if_pos c6] at h
      refine mx_iconst (pc := 16) C dX8_find_16 (z := (-1)) rfl (by constructor <;> decide) ?_
      rw [← Option.some.inj h]
      exact mx_ireturn (pc := 17) C dX8_find_17 hOq4 ⟨Nat.le_refl _, Nat.le_refl _⟩

def f_X8_feed (p1 : Int) (M : Mem) : Option (Int × Mem) :=
  (f_X8_in p1 0 127 M).bind (fun q1 => if q1.1 = 0 then some ((-2), q1.2) else if q1.2 127 9 = 100 then some ((-4), q1.2) else if 0 ≤ q1.2 127 9 ∧ q1.2 127 9 < 100 then lt (stM q1.2 133 (q1.2 127 9) p1) (fun M6 => lt (stM M6 127 9 (w32 ((M6 127 9) + 1))) (fun M7 => some (M7 127 9, M7))) else none)
set_option maxRecDepth 20000 in
set_option maxHeartbeats 4000000 in
theorem m_X8_feed {p1 : Int} {M : Mem} {res : Int × Mem} (hOM : OK M) (h : f_X8_feed p1 M = some res) : Mth false yX8_feed cX8_feed 2 (some .int) 2 0 0 SH [aR 127, aI p1] M (some (aI res.1)) SH res.2 (OK res.2) := by
  refine Mth.of (by decide +kernel) (Nat.le_of_ble_eq_true rfl) (fun K B C => ?_)
  show Wx K B _ 0 0 SH 2 M 0 [some (aR 127), some (aI p1)] []
  unfold f_X8_feed at h
  refine mx_aload_n (pc := 0) C dX8_feed_0 rfl ?_
  refine mx_iload_n (pc := 1) C dX8_feed_1 rfl ?_
  refine mx_iconst (pc := 2) C dX8_feed_2 (z := 0) rfl (by constructor <;> decide) ?_
  refine mx_bipush (pc := 3) C dX8_feed_3 (z := 127) rfl (by constructor <;> decide) ?_
  obtain ⟨q1, hq1, h⟩ := of_bd h
  refine mc_V (pc := 5) (as := [aI p1, aI 0, aI 127]) (rest := []) (stk2 := [aI q1.1]) C ⟨Nat.le_refl _, Nat.le_refl _⟩ (m_X8_in hOM hq1) mi_X8_in mv_X8_in ml_X8_218 ci_8 rfl so_8 (by omega) rfl (Nat.le_of_ble_eq_true rfl) dX8_feed_5 rfl (fun hp2 => ?_)
  have hOq1 : OK q1.2 := hp2.1
  refine mx_if_ne (pc := 8) (tgt := 14) C dX8_feed_8 rfl (fun c3 => ?_) (fun c3 => ?_)
  · rw [if_neg c3] at h
    refine mx_aload_n (pc := 14) C dX8_feed_14 rfl ?_
    refine mx_getI (pc := 15) C dX8_feed_15 so_8 ci_8 (k := 9) (by decide) fl_X8_38 rfl (q := 9) rfl ?_
    refine mx_bipush (pc := 18) C dX8_feed_18 (z := 100) rfl (by constructor <;> decide) ?_
    refine mx_icmp_ne (pc := 20) (tgt := 26) C dX8_feed_20 rfl (fun c4 => ?_) (fun c4 => ?_)
    · rw [if_neg c4] at h
      refine mx_aload_n (pc := 26) C dX8_feed_26 rfl ?_
      refine mx_getR (pc := 27) (v := 133) C dX8_feed_27 so_8 ci_8 (k := 12) (by decide) fl_X8_47 rfl (q := 12) rfl (lay_8_12 hOq1) (by decide) ?_
      refine mx_aload_n (pc := 30) C dX8_feed_30 rfl ?_
      refine mx_getI (pc := 31) C dX8_feed_31 so_8 ci_8 (k := 9) (by decide) fl_X8_38 rfl (q := 9) rfl ?_
      refine mx_iload_n (pc := 34) C dX8_feed_34 rfl ?_
      obtain ⟨g5, h⟩ := of_gd h
      refine mx_iast (pc := 35) C dX8_feed_35 sh_8_12 g5.1 g5.2 ?_
      generalize hmM6 : stM q1.2 133 (q1.2 127 9) p1 = M6 at h ⊢
      replace h := lt_e h
      have hOM6 : OK M6 := by rw [← hmM6]; exact ok_arr hOq1 sh_8_12 (by decide)
      refine mx_aload_n (pc := 36) C dX8_feed_36 rfl ?_
      refine mx_dup (pc := 37) C dX8_feed_37 rfl ?_
      refine mx_getI (pc := 38) C dX8_feed_38 so_8 ci_8 (k := 9) (by decide) fl_X8_38 rfl (q := 9) rfl ?_
      refine mx_iconst (pc := 41) C dX8_feed_41 (z := 1) rfl (by constructor <;> decide) ?_
      refine mx_iadd (pc := 42) C dX8_feed_42  ?_
      refine mx_putI (pc := 43) C dX8_feed_43 so_8 ci_8 (k := 9) (by decide) fl_X8_38 (Or.inl rfl) rfl (q := 9) rfl ?_
      generalize hmM7 : stM M6 127 9 (w32 ((M6 127 9) + 1)) = M7 at h ⊢
      replace h := lt_e h
      have hOM7 : OK M7 := by rw [← hmM7]; exact okf_8_9 hOM6
      refine mx_aload_n (pc := 46) C dX8_feed_46 rfl ?_
      refine mx_getI (pc := 47) C dX8_feed_47 so_8 ci_8 (k := 9) (by decide) fl_X8_38 rfl (q := 9) rfl ?_
      rw [← Option.some.inj h]
      exact mx_ireturn (pc := 50) C dX8_feed_50 hOM7 ⟨Nat.le_refl _, Nat.le_refl _⟩
    · rw [if_pos c4] at h
      refine mx_bipush (pc := 23) C dX8_feed_23 (z := (-4)) rfl (by constructor <;> decide) ?_
      rw [← Option.some.inj h]
      exact mx_ireturn (pc := 25) C dX8_feed_25 hOq1 ⟨Nat.le_refl _, Nat.le_refl _⟩
  · rw [if_pos c3] at h
    refine mx_bipush (pc := 11) C dX8_feed_11 (z := (-2)) rfl (by constructor <;> decide) ?_
    rw [← Option.some.inj h]
    exact mx_ireturn (pc := 13) C dX8_feed_13 hOq1 ⟨Nat.le_refl _, Nat.le_refl _⟩

def f_X8_next (M : Mem) : Option (Int × Mem) :=
  if M 127 9 ≤ M 127 10 then some ((-1), M) else if 0 ≤ M 127 10 ∧ M 127 10 < 100 then some (M 133 (M 127 10), M) else none
set_option maxRecDepth 20000 in
set_option maxHeartbeats 4000000 in
theorem m_X8_next {M : Mem} {res : Int × Mem} (hOM : OK M) (h : f_X8_next M = some res) : Mth false yX8_next cX8_next 1 (some .int) 1 0 0 SH [aR 127] M (some (aI res.1)) SH res.2 (OK res.2) := by
  refine Mth.of (by decide +kernel) (Nat.le_of_ble_eq_true rfl) (fun K B C => ?_)
  show Wx K B _ 0 0 SH 1 M 0 [some (aR 127)] []
  unfold f_X8_next at h
  refine mx_aload_n (pc := 0) C dX8_next_0 rfl ?_
  refine mx_getI (pc := 1) C dX8_next_1 so_8 ci_8 (k := 10) (by decide) fl_X8_41 rfl (q := 10) rfl ?_
  refine mx_aload_n (pc := 4) C dX8_next_4 rfl ?_
  refine mx_getI (pc := 5) C dX8_next_5 so_8 ci_8 (k := 9) (by decide) fl_X8_38 rfl (q := 9) rfl ?_
  refine mx_icmp_ge (pc := 8) (tgt := 23) C dX8_next_8 rfl (fun c1 => ?_) (fun c1 => ?_)
  · rw [if_pos c1] at h
    refine mx_iconst (pc := 23) C dX8_next_23 (z := (-1)) rfl (by constructor <;> decide) ?_
    rw [← Option.some.inj h]
    exact mx_ireturn (pc := 24) C dX8_next_24 hOM ⟨Nat.le_refl _, Nat.le_refl _⟩
  · rw [if_neg c1] at h
    refine mx_aload_n (pc := 11) C dX8_next_11 rfl ?_
    refine mx_getR (pc := 12) (v := 133) C dX8_next_12 so_8 ci_8 (k := 12) (by decide) fl_X8_47 rfl (q := 12) rfl (lay_8_12 hOM) (by decide) ?_
    refine mx_aload_n (pc := 15) C dX8_next_15 rfl ?_
    refine mx_getI (pc := 16) C dX8_next_16 so_8 ci_8 (k := 10) (by decide) fl_X8_41 rfl (q := 10) rfl ?_
    obtain ⟨g2, h⟩ := of_gd h
    refine mx_iald (pc := 19) C dX8_next_19 sh_8_12 g2.1 g2.2 ?_
    refine mx_goto (pc := 20) (tgt := 24) C dX8_next_20 rfl ?_
    rw [← Option.some.inj h]
    exact mx_ireturn (pc := 24) C dX8_next_24 hOM ⟨Nat.le_refl _, Nat.le_refl _⟩

def f_X8_second (M : Mem) : Option (Int × Mem) :=
  if M 127 9 ≤ w32 ((M 127 10) + 1) then some ((-1), M) else if 0 ≤ w32 ((M 127 10) + 1) ∧ w32 ((M 127 10) + 1) < 100 then some (M 133 (w32 ((M 127 10) + 1)), M) else none
set_option maxRecDepth 20000 in
set_option maxHeartbeats 4000000 in
theorem m_X8_second {M : Mem} {res : Int × Mem} (hOM : OK M) (h : f_X8_second M = some res) : Mth false yX8_second cX8_second 1 (some .int) 1 0 0 SH [aR 127] M (some (aI res.1)) SH res.2 (OK res.2) := by
  refine Mth.of (by decide +kernel) (Nat.le_of_ble_eq_true rfl) (fun K B C => ?_)
  show Wx K B _ 0 0 SH 1 M 0 [some (aR 127)] []
  unfold f_X8_second at h
  refine mx_aload_n (pc := 0) C dX8_second_0 rfl ?_
  refine mx_getI (pc := 1) C dX8_second_1 so_8 ci_8 (k := 10) (by decide) fl_X8_41 rfl (q := 10) rfl ?_
  refine mx_iconst (pc := 4) C dX8_second_4 (z := 1) rfl (by constructor <;> decide) ?_
  refine mx_iadd (pc := 5) C dX8_second_5  ?_
  refine mx_aload_n (pc := 6) C dX8_second_6 rfl ?_
  refine mx_getI (pc := 7) C dX8_second_7 so_8 ci_8 (k := 9) (by decide) fl_X8_38 rfl (q := 9) rfl ?_
  refine mx_icmp_ge (pc := 10) (tgt := 27) C dX8_second_10 rfl (fun c1 => ?_) (fun c1 => ?_)
  · rw [if_pos c1] at h
    refine mx_iconst (pc := 27) C dX8_second_27 (z := (-1)) rfl (by constructor <;> decide) ?_
    rw [← Option.some.inj h]
    exact mx_ireturn (pc := 28) C dX8_second_28 hOM ⟨Nat.le_refl _, Nat.le_refl _⟩
  · rw [if_neg c1] at h
    refine mx_aload_n (pc := 13) C dX8_second_13 rfl ?_
    refine mx_getR (pc := 14) (v := 133) C dX8_second_14 so_8 ci_8 (k := 12) (by decide) fl_X8_47 rfl (q := 12) rfl (lay_8_12 hOM) (by decide) ?_
    refine mx_aload_n (pc := 17) C dX8_second_17 rfl ?_
    refine mx_getI (pc := 18) C dX8_second_18 so_8 ci_8 (k := 10) (by decide) fl_X8_41 rfl (q := 10) rfl ?_
    refine mx_iconst (pc := 21) C dX8_second_21 (z := 1) rfl (by constructor <;> decide) ?_
    refine mx_iadd (pc := 22) C dX8_second_22  ?_
    obtain ⟨g2, h⟩ := of_gd h
    refine mx_iald (pc := 23) C dX8_second_23 sh_8_12 g2.1 g2.2 ?_
    refine mx_goto (pc := 24) (tgt := 28) C dX8_second_24 rfl ?_
    rw [← Option.some.inj h]
    exact mx_ireturn (pc := 28) C dX8_second_28 hOM ⟨Nat.le_refl _, Nat.le_refl _⟩
