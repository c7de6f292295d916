def f_X7_isIn (p1 : Int) (p2 : Int) (M : Mem) : Option (Int × Mem) :=
  if p1 < 0 then some (0, M) else if p2 < p1 then some (0, M) else some (1, M)
set_option maxRecDepth 20000 in
set_option maxHeartbeats 4000000 in
theorem m_X7_isIn {p1 : Int} {p2 : Int} {M : Mem} {res : Int × Mem} (hOM : OK M) (h : f_X7_isIn p1 p2 M = some res) : Mth false yX7_isIn cX7_isIn 2 (some .boolean) 1 0 0 SH [aI p1, aI p2] M (some (aI res.1)) SH res.2 (OK res.2 ∧ (res.1 = 0 ∨ res.1 = 1)) := by
  refine Mth.of (by decide +kernel) (Nat.le_of_ble_eq_true rfl) (fun K B C => ?_)
  show Wx K B _ 0 0 SH 2 M 0 [some (aI p1), some (aI p2)] []
  unfold f_X7_isIn at h
  refine mx_iload_n (pc := 0) C dX7_isIn_0 rfl ?_
  refine mx_if_lt (pc := 1) (tgt := 13) C dX7_isIn_1 rfl (fun c1 => ?_) (fun c1 => ?_)
  · rw [if_pos c1] at h
    refine mx_iconst (pc := 13) C dX7_isIn_13 (z := 0) rfl (by constructor <;> decide) ?_
    rw [← Option.some.inj h]
    exact mx_zreturn (pc := 14) C dX7_isIn_14 (Or.inl rfl) ⟨hOM, (Or.inl rfl)⟩ ⟨Nat.le_refl _, Nat.le_refl _⟩
  · rw [if_neg c1] at h
    refine mx_iload_n (pc := 4) C dX7_isIn_4 rfl ?_
    refine mx_iload_n (pc := 5) C dX7_isIn_5 rfl ?_
    refine mx_icmp_gt (pc := 6) (tgt := 13) C dX7_isIn_6 rfl (fun c2 => ?_) (fun c2 => ?_)
    · rw [if_pos c2] at h
      refine mx_iconst (pc := 13) C dX7_isIn_13 (z := 0) rfl (by constructor <;> decide) ?_
      rw [← Option.some.inj h]
      exact mx_zreturn (pc := 14) C dX7_isIn_14 (Or.inl rfl) ⟨hOM, (Or.inl rfl)⟩ ⟨Nat.le_refl _, Nat.le_refl _⟩
    · rw [if_neg c2] at h
      refine mx_iconst (pc := 9) C dX7_isIn_9 (z := 1) rfl (by constructor <;> decide) ?_
      refine mx_goto (pc := 10) (tgt := 14) C dX7_isIn_10 rfl ?_
      rw [← Option.some.inj h]
      exact mx_zreturn (pc := 14) C dX7_isIn_14 (Or.inr rfl) ⟨hOM, (Or.inr rfl)⟩ ⟨Nat.le_refl _, Nat.le_refl _⟩

def f_X7_isHouse (p1 : Int) (M : Mem) : Option (Int × Mem) :=
  (f_X7_isIn p1 4 M).bind (fun q1 => some (q1.1, q1.2))
set_option maxRecDepth 20000 in
set_option maxHeartbeats 4000000 in
theorem m_X7_isHouse {p1 : Int} {M : Mem} {res : Int × Mem} (hOM : OK M) (h : f_X7_isHouse p1 M = some res) : Mth false yX7_isHouse cX7_isHouse 1 (some .boolean) 2 0 0 SH [aI p1] M (some (aI res.1)) SH res.2 (OK res.2 ∧ (res.1 = 0 ∨ res.1 = 1)) := by
  refine Mth.of (by decide +kernel) (Nat.le_of_ble_eq_true rfl) (fun K B C => ?_)
  show Wx K B _ 0 0 SH 1 M 0 [some (aI p1)] []
  unfold f_X7_isHouse at h
  refine mx_iload_n (pc := 0) C dX7_isHouse_0 rfl ?_
  refine mx_iconst (pc := 1) C dX7_isHouse_1 (z := 4) rfl (by constructor <;> decide) ?_
  obtain ⟨q1, hq1, h⟩ := of_bd h
  refine mc_S (pc := 2) (as := [aI p1, aI 4]) (rest := []) (stk2 := [aI q1.1]) C ⟨Nat.le_refl _, Nat.le_refl _⟩ (m_X7_isIn hOM hq1) mi_X7_isIn ms_X7_isIn ml_X7_61 (by omega) rfl (Nat.le_of_ble_eq_true rfl) dX7_isHouse_2 rfl (fun hp2 => ?_)
  have hOq1 : OK q1.2 := hp2.1
  rw [← Option.some.inj h]
  exact mx_zreturn (pc := 5) C dX7_isHouse_5 hp2.2 ⟨hOq1, hp2.2⟩ ⟨Nat.le_refl _, Nat.le_refl _⟩

def f_X7_isTape (p1 : Int) (M : Mem) : Option (Int × Mem) :=
  (f_X7_isIn p1 5 M).bind (fun q1 => some (q1.1, q1.2))
set_option maxRecDepth 20000 in
set_option maxHeartbeats 4000000 in
theorem m_X7_isTape {p1 : Int} {M : Mem} {res : Int × Mem} (hOM : OK M) (h : f_X7_isTape p1 M = some res) : Mth false yX7_isTape cX7_isTape 1 (some .boolean) 2 0 0 SH [aI p1] M (some (aI res.1)) SH res.2 (OK res.2 ∧ (res.1 = 0 ∨ res.1 = 1)) := by
  refine Mth.of (by decide +kernel) (Nat.le_of_ble_eq_true rfl) (fun K B C => ?_)
  show Wx K B _ 0 0 SH 1 M 0 [some (aI p1)] []
  unfold f_X7_isTape at h
  refine mx_iload_n (pc := 0) C dX7_isTape_0 rfl ?_
  refine mx_iconst (pc := 1) C dX7_isTape_1 (z := 5) rfl (by constructor <;> decide) ?_
  obtain ⟨q1, hq1, h⟩ := of_bd h
  refine mc_S (pc := 2) (as := [aI p1, aI 5]) (rest := []) (stk2 := [aI q1.1]) C ⟨Nat.le_refl _, Nat.le_refl _⟩ (m_X7_isIn hOM hq1) mi_X7_isIn ms_X7_isIn ml_X7_61 (by omega) rfl (Nat.le_of_ble_eq_true rfl) dX7_isTape_2 rfl (fun hp2 => ?_)
  have hOq1 : OK q1.2 := hp2.1
  rw [← Option.some.inj h]
  exact mx_zreturn (pc := 5) C dX7_isTape_5 hp2.2 ⟨hOq1, hp2.2⟩ ⟨Nat.le_refl _, Nat.le_refl _⟩
