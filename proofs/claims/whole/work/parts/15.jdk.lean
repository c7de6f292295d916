def f_J0_isLatin1_aae02 (p0 : Nat) (M : Mem) : Option (Int × Mem) :=
  some (1, M)
set_option maxRecDepth 20000 in
set_option maxHeartbeats 4000000 in
theorem m_J0_isLatin1_aae02 {p0 : Nat} {M : Mem} {res : Int × Mem} (hOM : OK M) (hp0 : p0 < 4) (h : f_J0_isLatin1_aae02 p0 M = some res) : Mth false yJ0_isLatin1_aae02 cJ0_isLatin1_aae02 1 (some .boolean) 1 0 0 SH [aF (p0 + 2)] M (some (aI res.1)) SH res.2 (OK res.2 ∧ (res.1 = 0 ∨ res.1 = 1)) := by
  refine Mth.of (by decide +kernel) (Nat.le_of_ble_eq_true rfl) (fun K B C => ?_)
  show Wx K B _ 0 0 SH 1 M 0 [some (aF (p0 + 2))] []
  unfold f_J0_isLatin1_aae02 at h
  refine mx_scomp (pc := 0) C dJ0_isLatin1_aae02_0 fl_J0_38 ?_
  refine mx_if_eq (pc := 3) (tgt := 17) C dJ0_isLatin1_aae02_3 rfl (fun c1 => ?_) (fun c1 => ?_)
  · exact absurd c1 (by decide)
  · skip
    refine mx_fload_n (pc := 6) C dJ0_isLatin1_aae02_6 rfl ?_
    refine mx_scod (pc := 7) C dJ0_isLatin1_aae02_7 hp0 fl_J0_15 ?_
    refine mx_if_ne (pc := 10) (tgt := 17) C dJ0_isLatin1_aae02_10 rfl (fun c2 => ?_) (fun c2 => ?_)
    · exact absurd c2 (by decide)
    · skip
      refine mx_iconst (pc := 13) C dJ0_isLatin1_aae02_13 (z := 1) rfl (by constructor <;> decide) ?_
      refine mx_goto (pc := 14) (tgt := 18) C dJ0_isLatin1_aae02_14 rfl ?_
      rw [← Option.some.inj h]
      exact mx_zreturn (pc := 18) C dJ0_isLatin1_aae02_18 (Or.inr rfl) ⟨hOM, (Or.inr rfl)⟩ ⟨Nat.le_refl _, Nat.le_refl _⟩

def f_J0_coder_7d493 (p0 : Nat) (M : Mem) : Option (Int × Mem) :=
  some (0, M)
set_option maxRecDepth 20000 in
set_option maxHeartbeats 4000000 in
theorem m_J0_coder_7d493 {p0 : Nat} {M : Mem} {res : Int × Mem} (hOM : OK M) (hp0 : p0 < 4) (h : f_J0_coder_7d493 p0 M = some res) : Mth false yJ0_coder_7d493 cJ0_coder_7d493 1 (some .byte) 1 0 0 SH [aF (p0 + 2)] M (some (aI res.1)) SH res.2 (OK res.2) := by
  refine Mth.of (by decide +kernel) (Nat.le_of_ble_eq_true rfl) (fun K B C => ?_)
  show Wx K B _ 0 0 SH 1 M 0 [some (aF (p0 + 2))] []
  unfold f_J0_coder_7d493 at h
  refine mx_scomp (pc := 0) C dJ0_coder_7d493_0 fl_J0_38 ?_
  refine mx_if_eq (pc := 3) (tgt := 13) C dJ0_coder_7d493_3 rfl (fun c1 => ?_) (fun c1 => ?_)
  · exact absurd c1 (by decide)
  · skip
    refine mx_fload_n (pc := 6) C dJ0_coder_7d493_6 rfl ?_
    refine mx_scod (pc := 7) C dJ0_coder_7d493_7 hp0 fl_J0_15 ?_
    refine mx_goto (pc := 10) (tgt := 14) C dJ0_coder_7d493_10 rfl ?_
    rw [← Option.some.inj h]
    exact mx_breturn (pc := 14) C dJ0_coder_7d493_14 (show (-128 : Int) ≤ 0 ∧ (0 : Int) < 128 by decide) hOM ⟨Nat.le_refl _, Nat.le_refl _⟩

def f_J0_length_8abf5 (p0 : Nat) (M : Mem) : Option (Int × Mem) :=
  (f_J0_coder_7d493 p0 M).bind (fun q1 => some (shr32 ((sLen.getD p0 0 : Nat) : Int) q1.1, q1.2))
set_option maxRecDepth 20000 in
set_option maxHeartbeats 4000000 in
theorem m_J0_length_8abf5 {p0 : Nat} {M : Mem} {res : Int × Mem} (hOM : OK M) (hp0 : p0 < 4) (h : f_J0_length_8abf5 p0 M = some res) : Mth false yJ0_length_8abf5 cJ0_length_8abf5 1 (some .int) 2 0 0 SH [aF (p0 + 2)] M (some (aI res.1)) SH res.2 (OK res.2) := by
  refine Mth.of (by decide +kernel) (Nat.le_of_ble_eq_true rfl) (fun K B C => ?_)
  show Wx K B _ 0 0 SH 1 M 0 [some (aF (p0 + 2))] []
  unfold f_J0_length_8abf5 at h
  refine mx_fload_n (pc := 0) C dJ0_length_8abf5_0 rfl ?_
  refine mx_sval (pc := 1) C dJ0_length_8abf5_1 hp0 fl_J0_9 ?_
  refine mx_slen (pc := 4) C dJ0_length_8abf5_4 hp0 ?_
  refine mx_fload_n (pc := 5) C dJ0_length_8abf5_5 rfl ?_
  obtain ⟨q1, hq1, h⟩ := of_bd h
  refine mc_F (pc := 6) (as := []) (rest := [aI ((sLen.getD p0 0 : Nat) : Int)]) (stk2 := [aI q1.1, aI ((sLen.getD p0 0 : Nat) : Int)]) C hp0 ⟨Nat.le_refl _, Nat.le_refl _⟩ (m_J0_coder_7d493 hOM hp0 hq1) mi_J0_coder_7d493 mv_J0_coder_7d493 ml_J0_335 (by omega) rfl (Nat.le_of_ble_eq_true rfl) dJ0_length_8abf5_6 rfl (fun hp2 => ?_)
  have hOq1 : OK q1.2 := hp2
  refine mx_ishr (pc := 9) C dJ0_length_8abf5_9  ?_
  rw [← Option.some.inj h]
  exact mx_ireturn (pc := 10) C dJ0_length_8abf5_10 hOq1 ⟨Nat.le_refl _, Nat.le_refl _⟩

def f_J1_canEncode_9a6ad (p1 : Int) (M : Mem) : Option (Int × Mem) :=
  if p1 < 0 then some (0, M) else if 255 < p1 then some (0, M) else some (1, M)
set_option maxRecDepth 20000 in
set_option maxHeartbeats 4000000 in
theorem m_J1_canEncode_9a6ad {p1 : Int} {M : Mem} {res : Int × Mem} (hOM : OK M) (h : f_J1_canEncode_9a6ad p1 M = some res) : Mth false yJ1_canEncode_9a6ad cJ1_canEncode_9a6ad 1 (some .boolean) 1 0 0 SH [aI p1] M (some (aI res.1)) SH res.2 (OK res.2 ∧ (res.1 = 0 ∨ res.1 = 1)) := by
  refine Mth.of (by decide +kernel) (Nat.le_of_ble_eq_true rfl) (fun K B C => ?_)
  show Wx K B _ 0 0 SH 1 M 0 [some (aI p1)] []
  unfold f_J1_canEncode_9a6ad at h
  refine mx_iload_n (pc := 0) C dJ1_canEncode_9a6ad_0 rfl ?_
  refine mx_if_lt (pc := 1) (tgt := 15) C dJ1_canEncode_9a6ad_1 rfl (fun c1 => ?_) (fun c1 => ?_)
  · rw [if_pos c1] at h
    refine mx_iconst (pc := 15) C dJ1_canEncode_9a6ad_15 (z := 0) rfl (by constructor <;> decide) ?_
    rw [← Option.some.inj h]
    exact mx_zreturn (pc := 16) C dJ1_canEncode_9a6ad_16 (Or.inl rfl) ⟨hOM, (Or.inl rfl)⟩ ⟨Nat.le_refl _, Nat.le_refl _⟩
  · rw [if_neg c1] at h
    refine mx_iload_n (pc := 4) C dJ1_canEncode_9a6ad_4 rfl ?_
    refine mx_sipush (pc := 5) C dJ1_canEncode_9a6ad_5 (z := 255) rfl (by constructor <;> decide) ?_
    refine mx_icmp_gt (pc := 8) (tgt := 15) C dJ1_canEncode_9a6ad_8 rfl (fun c2 => ?_) (fun c2 => ?_)
    · rw [if_pos c2] at h
      refine mx_iconst (pc := 15) C dJ1_canEncode_9a6ad_15 (z := 0) rfl (by constructor <;> decide) ?_
      rw [← Option.some.inj h]
      exact mx_zreturn (pc := 16) C dJ1_canEncode_9a6ad_16 (Or.inl rfl) ⟨hOM, (Or.inl rfl)⟩ ⟨Nat.le_refl _, Nat.le_refl _⟩
    · rw [if_neg c2] at h
      refine mx_iconst (pc := 11) C dJ1_canEncode_9a6ad_11 (z := 1) rfl (by constructor <;> decide) ?_
      refine mx_goto (pc := 12) (tgt := 16) C dJ1_canEncode_9a6ad_12 rfl ?_
      rw [← Option.some.inj h]
      exact mx_zreturn (pc := 16) C dJ1_canEncode_9a6ad_16 (Or.inr rfl) ⟨hOM, (Or.inr rfl)⟩ ⟨Nat.le_refl _, Nat.le_refl _⟩

def f_J1_indexOfChar_4cfef_7 (p1 : Nat) (p2 : Int) (p3 : Int) (p4 : Int) : Nat → Int → Int → Int → Mem → Option (Int × Mem)
  | 0, _, _, _, _ => none
  | n + 1, x3, x4, x5, M => if x3 ≤ x5 then some ((-1), M) else if 0 ≤ x5 ∧ x5 < ((sLen.getD p1 0 : Nat) : Int) then if sB p1 x5 = x4 then some (x5, M) else f_J1_indexOfChar_4cfef_7 p1 p2 p3 p4 n x3 x4 (w32 (x5 + 1)) M else none
def f_J1_indexOfChar_4cfef (p1 : Nat) (p2 : Int) (p3 : Int) (p4 : Int) (M : Mem) : Option (Int × Mem) :=
  f_J1_indexOfChar_4cfef_7 p1 p2 p3 p4 FU p4 (w8 p2) p3 M
set_option maxRecDepth 20000 in
set_option maxHeartbeats 4000000 in
theorem b_J1_indexOfChar_4cfef_7 {K : KX} {B : BX} {res : Int × Mem} {p1 : Nat} {p2 : Int} {p3 : Int} {p4 : Int} (C : Cx K B false yJ1_indexOfChar_4cfef cJ1_indexOfChar_4cfef 6 (some .int) 1 0 0) (hp1 : p1 < 4) : ∀ (n : Nat) (x3 : Int) (x4 : Int) (x5 : Int) (M : Mem), OK M → f_J1_indexOfChar_4cfef_7 p1 p2 p3 p4 n x3 x4 x5 M = some res → Wx K B (Zr K B (some (aI res.1)) SH res.2 (OK res.2) 0 0) 0 0 SH 6 M 7 [some (aF (p1 + 10)), none, none, some (aI x3), some (aI x4), some (aI x5)] [] := by
  intro n
  induction n with
  | zero =>
    intro x3 x4 x5 M hOM h
    cases h
  | succ n ih =>
    intro x3 x4 x5 M hOM h
    rw [f_J1_indexOfChar_4cfef_7.eq_2] at h
    refine mx_iload (pc := 7) C dJ1_indexOfChar_4cfef_7 rfl ?_
    refine mx_iload_n (pc := 9) C dJ1_indexOfChar_4cfef_9 rfl ?_
    refine mx_icmp_ge (pc := 10) (tgt := 31) C dJ1_indexOfChar_4cfef_10 rfl (fun c1 => ?_) (fun c1 => ?_)
    · rw [if_pos c1] at h
      refine mx_iconst (pc := 31) C dJ1_indexOfChar_4cfef_31 (z := (-1)) rfl (by constructor <;> decide) ?_
      rw [← Option.some.inj h]
      exact mx_ireturn (pc := 32) C dJ1_indexOfChar_4cfef_32 hOM ⟨Nat.le_refl _, Nat.le_refl _⟩
    · rw [if_neg c1] at h
      refine mx_fload_n (pc := 13) C dJ1_indexOfChar_4cfef_13 rfl ?_
      refine mx_iload (pc := 14) C dJ1_indexOfChar_4cfef_14 rfl ?_
      obtain ⟨g2, h⟩ := of_gd h
      refine mx_sbyt (pc := 16) C dJ1_indexOfChar_4cfef_16 hp1 g2.1 g2.2 ?_
      refine mx_iload (pc := 17) C dJ1_indexOfChar_4cfef_17 rfl ?_
      refine mx_icmp_ne (pc := 19) (tgt := 25) C dJ1_indexOfChar_4cfef_19 rfl (fun c3 => ?_) (fun c3 => ?_)
      · rw [if_neg c3] at h
        refine mx_iinc (pc := 25) C dJ1_indexOfChar_4cfef_25 (ls' := [some (aF (p1 + 10)), none, none, some (aI x3), some (aI x4), some (aI (w32 (x5 + 1)))]) rfl (by decide) rfl (by constructor <;> decide) rfl rfl ?_
        refine mx_goto (pc := 28) (tgt := 7) C dJ1_indexOfChar_4cfef_28 rfl ?_
        exact ih x3 x4 (w32 (x5 + 1)) M hOM h
      · rw [if_pos c3] at h
        refine mx_iload (pc := 22) C dJ1_indexOfChar_4cfef_22 rfl ?_
        rw [← Option.some.inj h]
        exact mx_ireturn (pc := 24) C dJ1_indexOfChar_4cfef_24 hOM ⟨Nat.le_refl _, Nat.le_refl _⟩
set_option maxRecDepth 20000 in
set_option maxHeartbeats 4000000 in
theorem m_J1_indexOfChar_4cfef {p1 : Nat} {p2 : Int} {p3 : Int} {p4 : Int} {M : Mem} {res : Int × Mem} (hOM : OK M) (hp1 : p1 < 4) (h : f_J1_indexOfChar_4cfef p1 p2 p3 p4 M = some res) : Mth false yJ1_indexOfChar_4cfef cJ1_indexOfChar_4cfef 6 (some .int) 1 0 0 SH [aF (p1 + 10), aI p2, aI p3, aI p4] M (some (aI res.1)) SH res.2 (OK res.2) := by
  refine Mth.of (by decide +kernel) (Nat.le_of_ble_eq_true rfl) (fun K B C => ?_)
  show Wx K B _ 0 0 SH 6 M 0 [some (aF (p1 + 10)), some (aI p2), some (aI p3), some (aI p4), none, none] []
  unfold f_J1_indexOfChar_4cfef at h
  refine mx_iload_n (pc := 0) C dJ1_indexOfChar_4cfef_0 rfl ?_
  refine mx_i2b (pc := 1) C dJ1_indexOfChar_4cfef_1  ?_
  refine mx_istore (pc := 2) C dJ1_indexOfChar_4cfef_2 (ls' := [some (aF (p1 + 10)), some (aI p2), some (aI p3), some (aI p4), some (aI (w8 p2)), none]) (by decide) rfl rfl ?_
  refine mx_iload_n (pc := 4) C dJ1_indexOfChar_4cfef_4 rfl ?_
  refine mx_istore (pc := 5) C dJ1_indexOfChar_4cfef_5 (ls' := [some (aF (p1 + 10)), some (aI p2), some (aI p3), some (aI p4), some (aI (w8 p2)), some (aI p3)]) (by decide) rfl rfl ?_
  refine mx_mask [true, false, false, true, true, true] (ls' := [some (aF (p1 + 10)), none, none, some (aI p4), some (aI (w8 p2)), some (aI p3)]) rfl rfl ?_
  exact b_J1_indexOfChar_4cfef_7 C hp1 FU p4 (w8 p2) p3 M hOM h

def f_J1_indexOf_4cfef (p1 : Nat) (p2 : Int) (p3 : Int) (p4 : Int) (M : Mem) : Option (Int × Mem) :=
  (f_J1_canEncode_9a6ad p2 M).bind (fun q1 => if q1.1 = 0 then some ((-1), q1.2) else if max p3 0 < min p4 ((sLen.getD p1 0 : Nat) : Int) then (f_J1_indexOfChar_4cfef p1 p2 (max p3 0) (min p4 ((sLen.getD p1 0 : Nat) : Int)) q1.2).bind (fun q5 => some (q5.1, q5.2)) else some ((-1), q1.2))
set_option maxRecDepth 20000 in
set_option maxHeartbeats 4000000 in
theorem m_J1_indexOf_4cfef {p1 : Nat} {p2 : Int} {p3 : Int} {p4 : Int} {M : Mem} {res : Int × Mem} (hOM : OK M) (hp1 : p1 < 4) (h : f_J1_indexOf_4cfef p1 p2 p3 p4 M = some res) : Mth false yJ1_indexOf_4cfef cJ1_indexOf_4cfef 4 (some .int) 2 0 0 SH [aF (p1 + 10), aI p2, aI p3, aI p4] M (some (aI res.1)) SH res.2 (OK res.2) := by
  refine Mth.of (by decide +kernel) (Nat.le_of_ble_eq_true rfl) (fun K B C => ?_)
  show Wx K B _ 0 0 SH 4 M 0 [some (aF (p1 + 10)), some (aI p2), some (aI p3), some (aI p4)] []
  unfold f_J1_indexOf_4cfef at h
  refine mx_iload_n (pc := 0) C dJ1_indexOf_4cfef_0 rfl ?_
  obtain ⟨q1, hq1, h⟩ := of_bd h
  refine mc_S (pc := 1) (as := [aI p2]) (rest := []) (stk2 := [aI q1.1]) C ⟨Nat.le_refl _, Nat.le_refl _⟩ (m_J1_canEncode_9a6ad hOM hq1) mi_J1_canEncode_9a6ad ms_J1_canEncode_9a6ad ml_J1_88 (by omega) rfl (Nat.le_of_ble_eq_true rfl) dJ1_indexOf_4cfef_1 rfl (fun hp2 => ?_)
  have hOq1 : OK q1.2 := hp2.1
  refine mx_if_ne (pc := 4) (tgt := 9) C dJ1_indexOf_4cfef_4 rfl (fun c3 => ?_) (fun c3 => ?_)
  · rw [if_neg c3] at h
    refine mx_iload_n (pc := 9) C dJ1_indexOf_4cfef_9 rfl ?_
    refine mx_iconst (pc := 10) C dJ1_indexOf_4cfef_10 (z := 0) rfl (by constructor <;> decide) ?_
    refine mx_max (pc := 11) C ⟨Nat.le_refl _, Nat.le_refl _⟩ (by omega) (Nat.le_of_ble_eq_true rfl) ml_J1_92 dJ1_indexOf_4cfef_11 ?_
    refine mx_istore_n (pc := 14) C dJ1_indexOf_4cfef_14 (ls' := [some (aF (p1 + 10)), some (aI p2), some (aI (max p3 0)), some (aI p4)]) (by decide) rfl rfl ?_
    refine mx_iload_n (pc := 15) C dJ1_indexOf_4cfef_15 rfl ?_
    refine mx_fload_n (pc := 16) C dJ1_indexOf_4cfef_16 rfl ?_
    refine mx_slen (pc := 17) C dJ1_indexOf_4cfef_17 hp1 ?_
    refine mx_min (pc := 18) C ⟨Nat.le_refl _, Nat.le_refl _⟩ (by omega) (Nat.le_of_ble_eq_true rfl) ml_J1_38 dJ1_indexOf_4cfef_18 ?_
    refine mx_istore_n (pc := 21) C dJ1_indexOf_4cfef_21 (ls' := [some (aF (p1 + 10)), some (aI p2), some (aI (max p3 0)), some (aI (min p4 ((sLen.getD p1 0 : Nat) : Int)))]) (by decide) rfl rfl ?_
    refine mx_iload_n (pc := 22) C dJ1_indexOf_4cfef_22 rfl ?_
    refine mx_iload_n (pc := 23) C dJ1_indexOf_4cfef_23 rfl ?_
    refine mx_icmp_lt (pc := 24) (tgt := 29) C dJ1_indexOf_4cfef_24 rfl (fun c4 => ?_) (fun c4 => ?_)
    · rw [if_pos c4] at h
      refine mx_fload_n (pc := 29) C dJ1_indexOf_4cfef_29 rfl ?_
      refine mx_iload_n (pc := 30) C dJ1_indexOf_4cfef_30 rfl ?_
      refine mx_iload_n (pc := 31) C dJ1_indexOf_4cfef_31 rfl ?_
      refine mx_iload_n (pc := 32) C dJ1_indexOf_4cfef_32 rfl ?_
      obtain ⟨q5, hq5, h⟩ := of_bd h
      refine mc_S (pc := 33) (as := [aF (p1 + 10), aI p2, aI (max p3 0), aI (min p4 ((sLen.getD p1 0 : Nat) : Int))]) (rest := []) (stk2 := [aI q5.1]) C ⟨Nat.le_refl _, Nat.le_refl _⟩ (m_J1_indexOfChar_4cfef hOq1 hp1 hq5) mi_J1_indexOfChar_4cfef ms_J1_indexOfChar_4cfef ml_J1_95 (by omega) rfl (Nat.le_of_ble_eq_true rfl) dJ1_indexOf_4cfef_33 rfl (fun hp6 => ?_)
      have hOq5 : OK q5.2 := hp6
      rw [← Option.some.inj h]
      exact mx_ireturn (pc := 36) C dJ1_indexOf_4cfef_36 hOq5 ⟨Nat.le_refl _, Nat.le_refl _⟩
    · rw [if_neg c4] at h
      refine mx_iconst (pc := 27) C dJ1_indexOf_4cfef_27 (z := (-1)) rfl (by constructor <;> decide) ?_
      rw [← Option.some.inj h]
      exact mx_ireturn (pc := 28) C dJ1_indexOf_4cfef_28 hOq1 ⟨Nat.le_refl _, Nat.le_refl _⟩
  · rw [if_pos c3] at h
    refine mx_iconst (pc := 7) C dJ1_indexOf_4cfef_7 (z := (-1)) rfl (by constructor <;> decide) ?_
    rw [← Option.some.inj h]
    exact mx_ireturn (pc := 8) C dJ1_indexOf_4cfef_8 hOq1 ⟨Nat.le_refl _, Nat.le_refl _⟩

def f_J0_indexOf_7cf53 (p0 : Nat) (p1 : Int) (p2 : Int) (M : Mem) : Option (Int × Mem) :=
  (f_J0_isLatin1_aae02 p0 M).bind (fun q1 => if q1.1 = 0 then (f_J0_length_8abf5 p0 q1.2).bind (fun q4 => none) else (f_J0_length_8abf5 p0 q1.2).bind (fun q6 => (f_J1_indexOf_4cfef p0 p1 p2 q6.1 q6.2).bind (fun q8 => some (q8.1, q8.2))))
set_option maxRecDepth 20000 in
set_option maxHeartbeats 4000000 in
theorem m_J0_indexOf_7cf53 {p0 : Nat} {p1 : Int} {p2 : Int} {M : Mem} {res : Int × Mem} (hOM : OK M) (hp0 : p0 < 4) (h : f_J0_indexOf_7cf53 p0 p1 p2 M = some res) : Mth false yJ0_indexOf_7cf53 cJ0_indexOf_7cf53 3 (some .int) 3 0 0 SH [aF (p0 + 2), aI p1, aI p2] M (some (aI res.1)) SH res.2 (OK res.2) := by
  refine Mth.of (by decide +kernel) (Nat.le_of_ble_eq_true rfl) (fun K B C => ?_)
  show Wx K B _ 0 0 SH 3 M 0 [some (aF (p0 + 2)), some (aI p1), some (aI p2)] []
  unfold f_J0_indexOf_7cf53 at h
  refine mx_fload_n (pc := 0) C dJ0_indexOf_7cf53_0 rfl ?_
  obtain ⟨q1, hq1, h⟩ := of_bd h
  refine mc_F (pc := 1) (as := []) (rest := []) (stk2 := [aI q1.1]) C hp0 ⟨Nat.le_refl _, Nat.le_refl _⟩ (m_J0_isLatin1_aae02 hOM hp0 hq1) mi_J0_isLatin1_aae02 mv_J0_isLatin1_aae02 ml_J0_492 (by omega) rfl (Nat.le_of_ble_eq_true rfl) dJ0_indexOf_7cf53_1 rfl (fun hp2 => ?_)
  have hOq1 : OK q1.2 := hp2.1
  refine mx_if_eq (pc := 4) (tgt := 23) C dJ0_indexOf_7cf53_4 rfl (fun c3 => ?_) (fun c3 => ?_)
  · rw [if_pos c3] at h
    refine mx_fload_n (pc := 23) C dJ0_indexOf_7cf53_23 rfl ?_
    refine mx_sval (pc := 24) C dJ0_indexOf_7cf53_24 hp0 fl_J0_9 ?_
    refine mx_iload_n (pc := 27) C dJ0_indexOf_7cf53_27 rfl ?_
    refine mx_iload_n (pc := 28) C dJ0_indexOf_7cf53_28 rfl ?_
    refine mx_fload_n (pc := 29) C dJ0_indexOf_7cf53_29 rfl ?_
    obtain ⟨q4, hq4, h⟩ := of_bd h
    refine mc_F (pc := 30) (as := []) (rest := [aI p2, aI p1, aF (p0 + 10)]) (stk2 := [aI q4.1, aI p2, aI p1, aF (p0 + 10)]) C hp0 ⟨Nat.le_refl _, Nat.le_refl _⟩ (m_J0_length_8abf5 hOq1 hp0 hq4) mi_J0_length_8abf5 mv_J0_length_8abf5 ml_J0_505 (by omega) rfl (Nat.le_of_ble_eq_true rfl) dJ0_indexOf_7cf53_30 rfl (fun hp5 => ?_)
    have hOq4 : OK q4.2 := hp5
    cases h
  · rw [if_neg c3] at h
    refine mx_fload_n (pc := 7) C dJ0_indexOf_7cf53_7 rfl ?_
    refine mx_sval (pc := 8) C dJ0_indexOf_7cf53_8 hp0 fl_J0_9 ?_
    refine mx_iload_n (pc := 11) C dJ0_indexOf_7cf53_11 rfl ?_
    refine mx_iload_n (pc := 12) C dJ0_indexOf_7cf53_12 rfl ?_
    refine mx_fload_n (pc := 13) C dJ0_indexOf_7cf53_13 rfl ?_
    obtain ⟨q6, hq6, h⟩ := of_bd h
    refine mc_F (pc := 14) (as := []) (rest := [aI p2, aI p1, aF (p0 + 10)]) (stk2 := [aI q6.1, aI p2, aI p1, aF (p0 + 10)]) C hp0 ⟨Nat.le_refl _, Nat.le_refl _⟩ (m_J0_length_8abf5 hOq1 hp0 hq6) mi_J0_length_8abf5 mv_J0_length_8abf5 ml_J0_505 (by omega) rfl (Nat.le_of_ble_eq_true rfl) dJ0_indexOf_7cf53_14 rfl (fun hp7 => ?_)
    have hOq6 : OK q6.2 := hp7
    obtain ⟨q8, hq8, h⟩ := of_bd h
    refine mc_S (pc := 17) (as := [aF (p0 + 10), aI p1, aI p2, aI q6.1]) (rest := []) (stk2 := [aI q8.1]) C ⟨Nat.le_refl _, Nat.le_refl _⟩ (m_J1_indexOf_4cfef hOq6 hp0 hq8) mi_J1_indexOf_4cfef ms_J1_indexOf_4cfef ml_J0_637 (by omega) rfl (Nat.le_of_ble_eq_true rfl) dJ0_indexOf_7cf53_17 rfl (fun hp9 => ?_)
    have hOq8 : OK q8.2 := hp9
    refine mx_goto (pc := 20) (tgt := 36) C dJ0_indexOf_7cf53_20 rfl ?_
    rw [← Option.some.inj h]
    exact mx_ireturn (pc := 36) C dJ0_indexOf_7cf53_36 hOq8 ⟨Nat.le_refl _, Nat.le_refl _⟩

def f_J0_indexOf_0f7a4 (p0 : Nat) (p1 : Int) (M : Mem) : Option (Int × Mem) :=
  (f_J0_indexOf_7cf53 p0 p1 0 M).bind (fun q1 => some (q1.1, q1.2))
set_option maxRecDepth 20000 in
set_option maxHeartbeats 4000000 in
theorem m_J0_indexOf_0f7a4 {p0 : Nat} {p1 : Int} {M : Mem} {res : Int × Mem} (hOM : OK M) (hp0 : p0 < 4) (h : f_J0_indexOf_0f7a4 p0 p1 M = some res) : Mth false yJ0_indexOf_0f7a4 cJ0_indexOf_0f7a4 2 (some .int) 4 0 0 SH [aF (p0 + 2), aI p1] M (some (aI res.1)) SH res.2 (OK res.2) := by
  refine Mth.of (by decide +kernel) (Nat.le_of_ble_eq_true rfl) (fun K B C => ?_)
  show Wx K B _ 0 0 SH 2 M 0 [some (aF (p0 + 2)), some (aI p1)] []
  unfold f_J0_indexOf_0f7a4 at h
  refine mx_fload_n (pc := 0) C dJ0_indexOf_0f7a4_0 rfl ?_
  refine mx_iload_n (pc := 1) C dJ0_indexOf_0f7a4_1 rfl ?_
  refine mx_iconst (pc := 2) C dJ0_indexOf_0f7a4_2 (z := 0) rfl (by constructor <;> decide) ?_
  obtain ⟨q1, hq1, h⟩ := of_bd h
  refine mc_F (pc := 3) (as := [aI p1, aI 0]) (rest := []) (stk2 := [aI q1.1]) C hp0 ⟨Nat.le_refl _, Nat.le_refl _⟩ (m_J0_indexOf_7cf53 hOM hp0 hq1) mi_J0_indexOf_7cf53 mv_J0_indexOf_7cf53 ml_J0_633 (by omega) rfl (Nat.le_of_ble_eq_true rfl) dJ0_indexOf_0f7a4_3 rfl (fun hp2 => ?_)
  have hOq1 : OK q1.2 := hp2
  rw [← Option.some.inj h]
  exact mx_ireturn (pc := 6) C dJ0_indexOf_0f7a4_6 hOq1 ⟨Nat.le_refl _, Nat.le_refl _⟩

def f_J3_checkIndex_8e157_9 (p1 : Int) (p2 : Int) (x0 : Int) (x1 : Int) (M : Mem) : Option (Int × Mem) :=
  none
def f_J3_checkIndex_8e157 (p1 : Int) (p2 : Int) (M : Mem) : Option (Int × Mem) :=
  if p1 < 0 then f_J3_checkIndex_8e157_9 p1 p2 p1 p2 M else if p1 < p2 then some (p1, M) else f_J3_checkIndex_8e157_9 p1 p2 p1 p2 M
set_option maxRecDepth 20000 in
set_option maxHeartbeats 4000000 in
theorem b_J3_checkIndex_8e157_9 {K : KX} {B : BX} {res : Int × Mem} {p1 : Int} {p2 : Int} (C : Cx K B false yJ3_checkIndex_8e157 cJ3_checkIndex_8e157 3 (some .int) 1 0 0) : ∀ (x0 : Int) (x1 : Int) (M : Mem), OK M → f_J3_checkIndex_8e157_9 p1 p2 x0 x1 M = some res → Wx K B (Zr K B (some (aI res.1)) SH res.2 (OK res.2) 0 0) 0 0 SH 3 M 9 [some (aI x0), some (aI x1), some (aF 0)] [] := by
  intro x0 x1 M hOM h
  unfold f_J3_checkIndex_8e157_9 at h
  cases h
set_option maxRecDepth 20000 in
set_option maxHeartbeats 4000000 in
theorem m_J3_checkIndex_8e157 {p1 : Int} {p2 : Int} {M : Mem} {res : Int × Mem} (hOM : OK M) (h : f_J3_checkIndex_8e157 p1 p2 M = some res) : Mth false yJ3_checkIndex_8e157 cJ3_checkIndex_8e157 3 (some .int) 1 0 0 SH [aI p1, aI p2, aF 0] M (some (aI res.1)) SH res.2 (OK res.2) := by
  refine Mth.of (by decide +kernel) (Nat.le_of_ble_eq_true rfl) (fun K B C => ?_)
  show Wx K B _ 0 0 SH 3 M 0 [some (aI p1), some (aI p2), some (aF 0)] []
  unfold f_J3_checkIndex_8e157 at h
  refine mx_iload_n (pc := 0) C dJ3_checkIndex_8e157_0 rfl ?_
  refine mx_if_lt (pc := 1) (tgt := 9) C dJ3_checkIndex_8e157_1 rfl (fun c1 => ?_) (fun c1 => ?_)
  · rw [if_pos c1] at h
    exact b_J3_checkIndex_8e157_9 C p1 p2 M hOM h
  · rw [if_neg c1] at h
    refine mx_iload_n (pc := 4) C dJ3_checkIndex_8e157_4 rfl ?_
    refine mx_iload_n (pc := 5) C dJ3_checkIndex_8e157_5 rfl ?_
    refine mx_icmp_lt (pc := 6) (tgt := 16) C dJ3_checkIndex_8e157_6 rfl (fun c2 => ?_) (fun c2 => ?_)
    · rw [if_pos c2] at h
      refine mx_iload_n (pc := 16) C dJ3_checkIndex_8e157_16 rfl ?_
      rw [← Option.some.inj h]
      exact mx_ireturn (pc := 17) C dJ3_checkIndex_8e157_17 hOM ⟨Nat.le_refl _, Nat.le_refl _⟩
    · rw [if_neg c2] at h
      exact b_J3_checkIndex_8e157_9 C p1 p2 M hOM h

def f_J0_checkIndex_df160 (p1 : Int) (p2 : Int) (M : Mem) : Option (Int × Mem) :=
  (f_J3_checkIndex_8e157 p1 p2 M).bind (fun q1 => some (0, q1.2))
set_option maxRecDepth 20000 in
set_option maxHeartbeats 4000000 in
theorem m_J0_checkIndex_df160 {p1 : Int} {p2 : Int} {M : Mem} {res : Int × Mem} (hOM : OK M) (h : f_J0_checkIndex_df160 p1 p2 M = some res) : Mth false yJ0_checkIndex_df160 cJ0_checkIndex_df160 2 none 2 0 0 SH [aI p1, aI p2] M none SH res.2 (OK res.2) := by
  refine Mth.of (by decide +kernel) (Nat.le_of_ble_eq_true rfl) (fun K B C => ?_)
  show Wx K B _ 0 0 SH 2 M 0 [some (aI p1), some (aI p2)] []
  unfold f_J0_checkIndex_df160 at h
  refine mx_iload_n (pc := 0) C dJ0_checkIndex_df160_0 rfl ?_
  refine mx_iload_n (pc := 1) C dJ0_checkIndex_df160_1 rfl ?_
  refine mx_getF0 (pc := 2) C dJ0_checkIndex_df160_2 fl_J0_1053 ?_
  obtain ⟨q1, hq1, h⟩ := of_bd h
  refine mc_S (pc := 5) (as := [aI p1, aI p2, aF 0]) (rest := []) (stk2 := [aI q1.1]) C ⟨Nat.le_refl _, Nat.le_refl _⟩ (m_J3_checkIndex_8e157 hOM hq1) mi_J3_checkIndex_8e157 ms_J3_checkIndex_8e157 ml_J0_1059 (by omega) rfl (Nat.le_of_ble_eq_true rfl) dJ0_checkIndex_df160_5 rfl (fun hp2 => ?_)
  have hOq1 : OK q1.2 := hp2
  refine mx_pop (pc := 8) C dJ0_checkIndex_df160_8 rfl ?_
  rw [← Option.some.inj h]
  exact mx_return (pc := 9) C dJ0_checkIndex_df160_9 hOq1 ⟨Nat.le_refl _, Nat.le_refl _⟩

def f_J1_charAt_3b067 (p1 : Nat) (p2 : Int) (M : Mem) : Option (Int × Mem) :=
  (f_J0_checkIndex_df160 p2 ((sLen.getD p1 0 : Nat) : Int) M).bind (fun q1 => if 0 ≤ p2 ∧ p2 < ((sLen.getD p1 0 : Nat) : Int) then if 0 ≤ (and32 (sB p1 p2) 255) % 65536 ∧ (and32 (sB p1 p2) 255) % 65536 < 65536 then some ((and32 (sB p1 p2) 255) % 65536, q1.2) else none else none)
set_option maxRecDepth 20000 in
set_option maxHeartbeats 4000000 in
theorem m_J1_charAt_3b067 {p1 : Nat} {p2 : Int} {M : Mem} {res : Int × Mem} (hOM : OK M) (hp1 : p1 < 4) (h : f_J1_charAt_3b067 p1 p2 M = some res) : Mth false yJ1_charAt_3b067 cJ1_charAt_3b067 2 (some .char) 3 0 0 SH [aF (p1 + 10), aI p2] M (some (aI res.1)) SH res.2 (OK res.2) := by
  refine Mth.of (by decide +kernel) (Nat.le_of_ble_eq_true rfl) (fun K B C => ?_)
  show Wx K B _ 0 0 SH 2 M 0 [some (aF (p1 + 10)), some (aI p2)] []
  unfold f_J1_charAt_3b067 at h
  refine mx_iload_n (pc := 0) C dJ1_charAt_3b067_0 rfl ?_
  refine mx_fload_n (pc := 1) C dJ1_charAt_3b067_1 rfl ?_
  refine mx_slen (pc := 2) C dJ1_charAt_3b067_2 hp1 ?_
  obtain ⟨q1, hq1, h⟩ := of_bd h
  refine mc_S (pc := 3) (as := [aI p2, aI ((sLen.getD p1 0 : Nat) : Int)]) (rest := []) (stk2 := []) C ⟨Nat.le_refl _, Nat.le_refl _⟩ (m_J0_checkIndex_df160 hOM hq1) mi_J0_checkIndex_df160 ms_J0_checkIndex_df160 ml_J1_9 (by omega) rfl (Nat.le_of_ble_eq_true rfl) dJ1_charAt_3b067_3 rfl (fun hp2 => ?_)
  have hOq1 : OK q1.2 := hp2
  refine mx_fload_n (pc := 6) C dJ1_charAt_3b067_6 rfl ?_
  refine mx_iload_n (pc := 7) C dJ1_charAt_3b067_7 rfl ?_
  obtain ⟨g3, h⟩ := of_gd h
  refine mx_sbyt (pc := 8) C dJ1_charAt_3b067_8 hp1 g3.1 g3.2 ?_
  refine mx_sipush (pc := 9) C dJ1_charAt_3b067_9 (z := 255) rfl (by constructor <;> decide) ?_
  refine mx_iand (pc := 12) C dJ1_charAt_3b067_12  ?_
  refine mx_i2c (pc := 13) C dJ1_charAt_3b067_13  ?_
  obtain ⟨g4, h⟩ := of_gd h
  rw [← Option.some.inj h]
  exact mx_creturn (pc := 14) C dJ1_charAt_3b067_14 g4 hOq1 ⟨Nat.le_refl _, Nat.le_refl _⟩

def f_J0_charAt_5068e (p0 : Nat) (p1 : Int) (M : Mem) : Option (Int × Mem) :=
  (f_J0_isLatin1_aae02 p0 M).bind (fun q1 => if q1.1 = 0 then none else (f_J1_charAt_3b067 p0 p1 q1.2).bind (fun q4 => if 0 ≤ q4.1 ∧ q4.1 < 65536 then some (q4.1, q4.2) else none))
set_option maxRecDepth 20000 in
set_option maxHeartbeats 4000000 in
theorem m_J0_charAt_5068e {p0 : Nat} {p1 : Int} {M : Mem} {res : Int × Mem} (hOM : OK M) (hp0 : p0 < 4) (h : f_J0_charAt_5068e p0 p1 M = some res) : Mth false yJ0_charAt_5068e cJ0_charAt_5068e 2 (some .char) 4 0 0 SH [aF (p0 + 2), aI p1] M (some (aI res.1)) SH res.2 (OK res.2) := by
  refine Mth.of (by decide +kernel) (Nat.le_of_ble_eq_true rfl) (fun K B C => ?_)
  show Wx K B _ 0 0 SH 2 M 0 [some (aF (p0 + 2)), some (aI p1)] []
  unfold f_J0_charAt_5068e at h
  refine mx_fload_n (pc := 0) C dJ0_charAt_5068e_0 rfl ?_
  obtain ⟨q1, hq1, h⟩ := of_bd h
  refine mc_F (pc := 1) (as := []) (rest := []) (stk2 := [aI q1.1]) C hp0 ⟨Nat.le_refl _, Nat.le_refl _⟩ (m_J0_isLatin1_aae02 hOM hp0 hq1) mi_J0_isLatin1_aae02 mv_J0_isLatin1_aae02 ml_J0_492 (by omega) rfl (Nat.le_of_ble_eq_true rfl) dJ0_charAt_5068e_1 rfl (fun hp2 => ?_)
  have hOq1 : OK q1.2 := hp2.1
  refine mx_if_eq (pc := 4) (tgt := 16) C dJ0_charAt_5068e_4 rfl (fun c3 => ?_) (fun c3 => ?_)
  · rw [if_pos c3] at h
    refine mx_fload_n (pc := 16) C dJ0_charAt_5068e_16 rfl ?_
    refine mx_sval (pc := 17) C dJ0_charAt_5068e_17 hp0 fl_J0_9 ?_
    refine mx_iload_n (pc := 20) C dJ0_charAt_5068e_20 rfl ?_
    cases h
  · rw [if_neg c3] at h
    refine mx_fload_n (pc := 7) C dJ0_charAt_5068e_7 rfl ?_
    refine mx_sval (pc := 8) C dJ0_charAt_5068e_8 hp0 fl_J0_9 ?_
    refine mx_iload_n (pc := 11) C dJ0_charAt_5068e_11 rfl ?_
    obtain ⟨q4, hq4, h⟩ := of_bd h
    refine mc_S (pc := 12) (as := [aF (p0 + 10), aI p1]) (rest := []) (stk2 := [aI q4.1]) C ⟨Nat.le_refl _, Nat.le_refl _⟩ (m_J1_charAt_3b067 hOq1 hp0 hq4) mi_J1_charAt_3b067 ms_J1_charAt_3b067 ml_J0_495 (by omega) rfl (Nat.le_of_ble_eq_true rfl) dJ0_charAt_5068e_12 rfl (fun hp5 => ?_)
    have hOq4 : OK q4.2 := hp5
    obtain ⟨g6, h⟩ := of_gd h
    rw [← Option.some.inj h]
    exact mx_creturn (pc := 15) C dJ0_charAt_5068e_15 g6 hOq4 ⟨Nat.le_refl _, Nat.le_refl _⟩

def f_J6_bitCount_0f7a4 (p1 : Int) (M : Mem) : Option (Int × Mem) :=
  some (and32 (w32 ((w32 ((and32 (w32 ((w32 ((and32 (w32 (p1 - (and32 (ushr32 p1 1) 1431655765))) 858993459) + (and32 (ushr32 (w32 (p1 - (and32 (ushr32 p1 1) 1431655765))) 2) 858993459))) + (ushr32 (w32 ((and32 (w32 (p1 - (and32 (ushr32 p1 1) 1431655765))) 858993459) + (and32 (ushr32 (w32 (p1 - (and32 (ushr32 p1 1) 1431655765))) 2) 858993459))) 4))) 252645135) + (ushr32 (and32 (w32 ((w32 ((and32 (w32 (p1 - (and32 (ushr32 p1 1) 1431655765))) 858993459) + (and32 (ushr32 (w32 (p1 - (and32 (ushr32 p1 1) 1431655765))) 2) 858993459))) + (ushr32 (w32 ((and32 (w32 (p1 - (and32 (ushr32 p1 1) 1431655765))) 858993459) + (and32 (ushr32 (w32 (p1 - (and32 (ushr32 p1 1) 1431655765))) 2) 858993459))) 4))) 252645135) 8))) + (ushr32 (w32 ((and32 (w32 ((w32 ((and32 (w32 (p1 - (and32 (ushr32 p1 1) 1431655765))) 858993459) + (and32 (ushr32 (w32 (p1 - (and32 (ushr32 p1 1) 1431655765))) 2) 858993459))) + (ushr32 (w32 ((and32 (w32 (p1 - (and32 (ushr32 p1 1) 1431655765))) 858993459) + (and32 (ushr32 (w32 (p1 - (and32 (ushr32 p1 1) 1431655765))) 2) 858993459))) 4))) 252645135) + (ushr32 (and32 (w32 ((w32 ((and32 (w32 (p1 - (and32 (ushr32 p1 1) 1431655765))) 858993459) + (and32 (ushr32 (w32 (p1 - (and32 (ushr32 p1 1) 1431655765))) 2) 858993459))) + (ushr32 (w32 ((and32 (w32 (p1 - (and32 (ushr32 p1 1) 1431655765))) 858993459) + (and32 (ushr32 (w32 (p1 - (and32 (ushr32 p1 1) 1431655765))) 2) 858993459))) 4))) 252645135) 8))) 16))) 63, M)
set_option maxRecDepth 20000 in
set_option maxHeartbeats 4000000 in
theorem m_J6_bitCount_0f7a4 {p1 : Int} {M : Mem} {res : Int × Mem} (hOM : OK M) (h : f_J6_bitCount_0f7a4 p1 M = some res) : Mth false yJ6_bitCount_0f7a4 cJ6_bitCount_0f7a4 1 (some .int) 1 0 0 SH [aI p1] M (some (aI res.1)) SH res.2 (OK res.2) := by
  refine Mth.of (by decide +kernel) (Nat.le_of_ble_eq_true rfl) (fun K B C => ?_)
  show Wx K B _ 0 0 SH 1 M 0 [some (aI p1)] []
  unfold f_J6_bitCount_0f7a4 at h
  refine mx_iload_n (pc := 0) C dJ6_bitCount_0f7a4_0 rfl ?_
  refine mx_iload_n (pc := 1) C dJ6_bitCount_0f7a4_1 rfl ?_
  refine mx_iconst (pc := 2) C dJ6_bitCount_0f7a4_2 (z := 1) rfl (by constructor <;> decide) ?_
  refine mx_iushr (pc := 3) C dJ6_bitCount_0f7a4_3  ?_
  refine mx_ldcw (pc := 4) C dJ6_bitCount_0f7a4_4 kc_J6_265 (by constructor <;> decide) ?_
  refine mx_iand (pc := 7) C dJ6_bitCount_0f7a4_7  ?_
  refine mx_isub (pc := 8) C dJ6_bitCount_0f7a4_8  ?_
  refine mx_istore_n (pc := 9) C dJ6_bitCount_0f7a4_9 (ls' := [some (aI (w32 (p1 - (and32 (ushr32 p1 1) 1431655765))))]) (by decide) rfl rfl ?_
  refine mx_iload_n (pc := 10) C dJ6_bitCount_0f7a4_10 rfl ?_
  refine mx_ldcw (pc := 11) C dJ6_bitCount_0f7a4_11 kc_J6_266 (by constructor <;> decide) ?_
  refine mx_iand (pc := 14) C dJ6_bitCount_0f7a4_14  ?_
  refine mx_iload_n (pc := 15) C dJ6_bitCount_0f7a4_15 rfl ?_
  refine mx_iconst (pc := 16) C dJ6_bitCount_0f7a4_16 (z := 2) rfl (by constructor <;> decide) ?_
  refine mx_iushr (pc := 17) C dJ6_bitCount_0f7a4_17  ?_
  refine mx_ldcw (pc := 18) C dJ6_bitCount_0f7a4_18 kc_J6_266 (by constructor <;> decide) ?_
  refine mx_iand (pc := 21) C dJ6_bitCount_0f7a4_21  ?_
  refine mx_iadd (pc := 22) C dJ6_bitCount_0f7a4_22  ?_
  refine mx_istore_n (pc := 23) C dJ6_bitCount_0f7a4_23 (ls' := [some (aI (w32 ((and32 (w32 (p1 - (and32 (ushr32 p1 1) 1431655765))) 858993459) + (and32 (ushr32 (w32 (p1 - (and32 (ushr32 p1 1) 1431655765))) 2) 858993459))))]) (by decide) rfl rfl ?_
  refine mx_iload_n (pc := 24) C dJ6_bitCount_0f7a4_24 rfl ?_
  refine mx_iload_n (pc := 25) C dJ6_bitCount_0f7a4_25 rfl ?_
  refine mx_iconst (pc := 26) C dJ6_bitCount_0f7a4_26 (z := 4) rfl (by constructor <;> decide) ?_
  refine mx_iushr (pc := 27) C dJ6_bitCount_0f7a4_27  ?_
  refine mx_iadd (pc := 28) C dJ6_bitCount_0f7a4_28  ?_
  refine mx_ldcw (pc := 29) C dJ6_bitCount_0f7a4_29 kc_J6_267 (by constructor <;> decide) ?_
  refine mx_iand (pc := 32) C dJ6_bitCount_0f7a4_32  ?_
  refine mx_istore_n (pc := 33) C dJ6_bitCount_0f7a4_33 (ls' := [some (aI (and32 (w32 ((w32 ((and32 (w32 (p1 - (and32 (ushr32 p1 1) 1431655765))) 858993459) + (and32 (ushr32 (w32 (p1 - (and32 (ushr32 p1 1) 1431655765))) 2) 858993459))) + (ushr32 (w32 ((and32 (w32 (p1 - (and32 (ushr32 p1 1) 1431655765))) 858993459) + (and32 (ushr32 (w32 (p1 - (and32 (ushr32 p1 1) 1431655765))) 2) 858993459))) 4))) 252645135))]) (by decide) rfl rfl ?_
  refine mx_iload_n (pc := 34) C dJ6_bitCount_0f7a4_34 rfl ?_
  refine mx_iload_n (pc := 35) C dJ6_bitCount_0f7a4_35 rfl ?_
  refine mx_bipush (pc := 36) C dJ6_bitCount_0f7a4_36 (z := 8) rfl (by constructor <;> decide) ?_
  refine mx_iushr (pc := 38) C dJ6_bitCount_0f7a4_38  ?_
  refine mx_iadd (pc := 39) C dJ6_bitCount_0f7a4_39  ?_
  refine mx_istore_n (pc := 40) C dJ6_bitCount_0f7a4_40 (ls' := [some (aI (w32 ((and32 (w32 ((w32 ((and32 (w32 (p1 - (and32 (ushr32 p1 1) 1431655765))) 858993459) + (and32 (ushr32 (w32 (p1 - (and32 (ushr32 p1 1) 1431655765))) 2) 858993459))) + (ushr32 (w32 ((and32 (w32 (p1 - (and32 (ushr32 p1 1) 1431655765))) 858993459) + (and32 (ushr32 (w32 (p1 - (and32 (ushr32 p1 1) 1431655765))) 2) 858993459))) 4))) 252645135) + (ushr32 (and32 (w32 ((w32 ((and32 (w32 (p1 - (and32 (ushr32 p1 1) 1431655765))) 858993459) + (and32 (ushr32 (w32 (p1 - (and32 (ushr32 p1 1) 1431655765))) 2) 858993459))) + (ushr32 (w32 ((and32 (w32 (p1 - (and32 (ushr32 p1 1) 1431655765))) 858993459) + (and32 (ushr32 (w32 (p1 - (and32 (ushr32 p1 1) 1431655765))) 2) 858993459))) 4))) 252645135) 8))))]) (by decide) rfl rfl ?_
  refine mx_iload_n (pc := 41) C dJ6_bitCount_0f7a4_41 rfl ?_
  refine mx_iload_n (pc := 42) C dJ6_bitCount_0f7a4_42 rfl ?_
  refine mx_bipush (pc := 43) C dJ6_bitCount_0f7a4_43 (z := 16) rfl (by constructor <;> decide) ?_
  refine mx_iushr (pc := 45) C dJ6_bitCount_0f7a4_45  ?_
  refine mx_iadd (pc := 46) C dJ6_bitCount_0f7a4_46  ?_
  refine mx_istore_n (pc := 47) C dJ6_bitCount_0f7a4_47 (ls' := [some (aI (w32 ((w32 ((and32 (w32 ((w32 ((and32 (w32 (p1 - (and32 (ushr32 p1 1) 1431655765))) 858993459) + (and32 (ushr32 (w32 (p1 - (and32 (ushr32 p1 1) 1431655765))) 2) 858993459))) + (ushr32 (w32 ((and32 (w32 (p1 - (and32 (ushr32 p1 1) 1431655765))) 858993459) + (and32 (ushr32 (w32 (p1 - (and32 (ushr32 p1 1) 1431655765))) 2) 858993459))) 4))) 252645135) + (ushr32 (and32 (w32 ((w32 ((and32 (w32 (p1 - (and32 (ushr32 p1 1) 1431655765))) 858993459) + (and32 (ushr32 (w32 (p1 - (and32 (ushr32 p1 1) 1431655765))) 2) 858993459))) + (ushr32 (w32 ((and32 (w32 (p1 - (and32 (ushr32 p1 1) 1431655765))) 858993459) + (and32 (ushr32 (w32 (p1 - (and32 (ushr32 p1 1) 1431655765))) 2) 858993459))) 4))) 252645135) 8))) + (ushr32 (w32 ((and32 (w32 ((w32 ((and32 (w32 (p1 - (and32 (ushr32 p1 1) 1431655765))) 858993459) + (and32 (ushr32 (w32 (p1 - (and32 (ushr32 p1 1) 1431655765))) 2) 858993459))) + (ushr32 (w32 ((and32 (w32 (p1 - (and32 (ushr32 p1 1) 1431655765))) 858993459) + (and32 (ushr32 (w32 (p1 - (and32 (ushr32 p1 1) 1431655765))) 2) 858993459))) 4))) 252645135) + (ushr32 (and32 (w32 ((w32 ((and32 (w32 (p1 - (and32 (ushr32 p1 1) 1431655765))) 858993459) + (and32 (ushr32 (w32 (p1 - (and32 (ushr32 p1 1) 1431655765))) 2) 858993459))) + (ushr32 (w32 ((and32 (w32 (p1 - (and32 (ushr32 p1 1) 1431655765))) 858993459) + (and32 (ushr32 (w32 (p1 - (and32 (ushr32 p1 1) 1431655765))) 2) 858993459))) 4))) 252645135) 8))) 16))))]) (by decide) rfl rfl ?_
  refine mx_iload_n (pc := 48) C dJ6_bitCount_0f7a4_48 rfl ?_
  refine mx_bipush (pc := 49) C dJ6_bitCount_0f7a4_49 (z := 63) rfl (by constructor <;> decide) ?_
  refine mx_iand (pc := 51) C dJ6_bitCount_0f7a4_51  ?_
  rw [← Option.some.inj h]
  exact mx_ireturn (pc := 52) C dJ6_bitCount_0f7a4_52 hOM ⟨Nat.le_refl _, Nat.le_refl _⟩
