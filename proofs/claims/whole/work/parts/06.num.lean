/-! THE LIGHT MACHINE: whole numbers as Int, cells by their order of making; every kit row once, over it -/
abbrev AV : Type := Int ⊕ (Int ⊕ (Int ⊕ Nat))
abbrev Shp : Type := Nat × Nat
abbrev Mem : Type := Int → Int → Int
abbrev aI (z : Int) : AV := Sum.inl z
abbrev aJ (z : Int) : AV := Sum.inr (Sum.inl z)
abbrev aR (z : Int) : AV := Sum.inr (Sum.inr (Sum.inl z))
abbrev aF (k : Nat) : AV := Sum.inr (Sum.inr (Sum.inr k))
def i32 (z : Int) : Prop := -2147483648 ≤ z ∧ z ≤ 2147483647
def i64 (z : Int) : Prop := -9223372036854775808 ≤ z ∧ z ≤ 9223372036854775807
def w32 (z : Int) : Int := (z + 2147483648) % 4294967296 - 2147483648
def w64 (z : Int) : Int := (z + 9223372036854775808) % 18446744073709551616 - 9223372036854775808
theorem w32_in (z : Int) : i32 (w32 z) := by unfold i32 w32; omega
theorem w32_id {z : Int} (h : i32 z) : w32 z = z := by unfold i32 at h; unfold w32; omega
theorem w32_ok {z : Int} (h1 : -2147483648 ≤ z) (h2 : z ≤ 2147483647) : w32 z = z := w32_id ⟨h1, h2⟩
theorem w32_cong {x y : Int} (h : x % 4294967296 = y % 4294967296) : w32 x = w32 y := by unfold w32; omega
theorem w32_mod (x : Int) : w32 x % 4294967296 = x % 4294967296 := by unfold w32; omega
theorem bmod_w32 (z : Int) : z.bmod 4294967296 = w32 z := by
  unfold w32 Int.bmod
  simp only [show ((4294967296 : Nat) : Int) = 4294967296 from rfl, show ((4294967296 : Int) + 1) / 2 = 2147483648 from rfl]
  split <;> omega
theorem bmod_w64 (z : Int) : z.bmod 18446744073709551616 = w64 z := by
  unfold w64 Int.bmod
  simp only [show ((18446744073709551616 : Nat) : Int) = 18446744073709551616 from rfl, show ((18446744073709551616 : Int) + 1) / 2 = 9223372036854775808 from rfl]
  split <;> omega
theorem tI {z : Int} (h : i32 z) : (Int32.ofInt z).toInt = z := Int32.toInt_ofInt_of_le (by simpa using h.1) (by have := h.2; omega)
theorem tJ {z : Int} (h : i64 z) : (Int64.ofInt z).toInt = z := Int64.toInt_ofInt_of_le (by simpa using h.1) (by have := h.2; omega)
theorem nT (x : Int32) : i32 x.toInt := ⟨by have := x.le_toInt; omega, by have := x.toInt_lt; omega⟩
theorem nTJ (x : Int64) : i64 x.toInt := ⟨by have := x.le_toInt; omega, by have := x.toInt_lt; omega⟩
theorem w64_id {z : Int} (h : i64 z) : w64 z = z := by unfold i64 at h; unfold w64; omega
theorem i64_of {z : Int} (h : i32 z) : i64 z := by unfold i32 at h; unfold i64; omega
theorem ofI_w (z : Int) : Int32.ofInt (w32 z) = Int32.ofInt z := Int32.toInt_inj.mp (by
  rw [Int32.toInt_ofInt, Int32.toInt_ofInt]
  show (w32 z).bmod 4294967296 = z.bmod 4294967296
  rw [bmod_w32, bmod_w32]; exact w32_id (w32_in z))
theorem o_add {a b : Int} (ha : i32 a) (hb : i32 b) : Int32.ofInt a + Int32.ofInt b = Int32.ofInt (w32 (a + b)) := Int32.toInt_inj.mp (by
  rw [Int32.toInt_add, tI ha, tI hb, tI (w32_in _)]; exact bmod_w32 _)
theorem o_sub {a b : Int} (ha : i32 a) (hb : i32 b) : Int32.ofInt a - Int32.ofInt b = Int32.ofInt (w32 (a - b)) := Int32.toInt_inj.mp (by
  rw [Int32.toInt_sub, tI ha, tI hb, tI (w32_in _)]; exact bmod_w32 _)
theorem o_mul {a b : Int} (ha : i32 a) (hb : i32 b) : Int32.ofInt a * Int32.ofInt b = Int32.ofInt (w32 (a * b)) := Int32.toInt_inj.mp (by
  rw [Int32.toInt_mul, tI ha, tI hb, tI (w32_in _)]; exact bmod_w32 _)
theorem o_neg {a : Int} (ha : i32 a) : -Int32.ofInt a = Int32.ofInt (w32 (-a)) := Int32.toInt_inj.mp (by
  rw [Int32.toInt_neg, tI ha, tI (w32_in _)]; exact bmod_w32 _)
theorem o_div {a b : Int} (ha : i32 a) (hb : i32 b) : Int32.ofInt a / Int32.ofInt b = Int32.ofInt (w32 (a.tdiv b)) := Int32.toInt_inj.mp (by
  rw [Int32.toInt_div, tI ha, tI hb, tI (w32_in _)]; exact bmod_w32 _)
theorem o_ne {b : Int} (hb : i32 b) (h : ¬ b = 0) : ¬ Int32.ofInt b = 0 := fun e => h (by
  have := congrArg Int32.toInt e
  rwa [tI hb, Int32.toInt_zero] at this)
theorem o_rem {a b : Int} (ha : i32 a) (hb : i32 b) (h : ¬ b = 0) : Int32.ofInt a - Int32.ofInt a / Int32.ofInt b * Int32.ofInt b = Int32.ofInt (a.tmod b) := by
  rw [o_div ha hb, o_mul (w32_in _) hb, o_sub ha (w32_in _)]
  have e : w32 (a - w32 (w32 (a.tdiv b) * b)) = w32 (a.tmod b) := by
    apply w32_cong
    rw [Int.sub_emod, w32_mod, ← Int.sub_emod, Int.tmod_def, Int.sub_emod, Int.mul_emod, w32_mod, ← Int.mul_emod, ← Int.sub_emod, Int.mul_comm]
  rw [e, ofI_w]
theorem i32_rem {a b : Int} (ha : i32 a) (h : ¬ b = 0) : i32 (a.tmod b) := by
  unfold i32 at ha ⊢
  have h1 : (a.tmod b).natAbs ≤ a.natAbs := by
    rw [Int.natAbs_tmod]
    exact Nat.mod_le _ _
  rcases Int.le_total 0 a with q | q
  · have := Int.tmod_nonneg b q
    omega
  · have h2 := Int.tmod_nonneg b (a := -a) (by omega)
    rw [Int.neg_tmod] at h2
    omega
def or32 (a b : Int) : Int := (Int32.ofInt a ||| Int32.ofInt b).toInt
def and32 (a b : Int) : Int := (Int32.ofInt a &&& Int32.ofInt b).toInt
def xor32 (a b : Int) : Int := (Int32.ofInt a ^^^ Int32.ofInt b).toInt
def shl32 (a b : Int) : Int := (Int32.ofInt a <<< (Int32.ofInt b &&& 31)).toInt
def shr32 (a b : Int) : Int := (Int32.ofInt a >>> (Int32.ofInt b &&& 31)).toInt
def ushr32 (a b : Int) : Int := ((Int32.ofInt a).toUInt32 >>> ((Int32.ofInt b).toUInt32 &&& Int32.toUInt32 31)).toInt32.toInt
def shl64 (a s : Int) : Int := (Int64.ofInt a <<< ((Int32.ofInt s).toInt64 &&& 63)).toInt
def or64 (a b : Int) : Int := (Int64.ofInt a ||| Int64.ofInt b).toInt
def and64 (a b : Int) : Int := (Int64.ofInt a &&& Int64.ofInt b).toInt
def w8 (z : Int) : Int := (z + 128) % 256 - 128
def w16 (z : Int) : Int := (z + 32768) % 65536 - 32768
def cmp64 (a b : Int) : Int := if b < a then 1 else if a = b then 0 else -1
theorem o_i2l {a : Int} (ha : i32 a) : (Int32.ofInt a).toInt64 = Int64.ofInt a := Int64.toInt_inj.mp (by
  rw [Int32.toInt_toInt64, tI ha, tJ (i64_of ha)])
theorem o_l2i {a : Int} (ha : i64 a) : (Int64.ofInt a).toInt32 = Int32.ofInt (w32 a) := Int32.toInt_inj.mp (by
  rw [Int64.toInt_toInt32, tJ ha, tI (w32_in _)]; exact bmod_w32 _)
theorem bmod_w8 (z : Int) : z.bmod 256 = w8 z := by
  unfold w8 Int.bmod
  simp only [show ((256 : Nat) : Int) = 256 from rfl, show ((256 : Int) + 1) / 2 = 128 from rfl]
  split <;> omega
theorem bmod_w16 (z : Int) : z.bmod 65536 = w16 z := by
  unfold w16 Int.bmod
  simp only [show ((65536 : Nat) : Int) = 65536 from rfl, show ((65536 : Int) + 1) / 2 = 32768 from rfl]
  split <;> omega
theorem i32_w8 (z : Int) : i32 (w8 z) := by unfold i32 w8; omega
theorem i32_w16 (z : Int) : i32 (w16 z) := by unfold i32 w16; omega
theorem o_i2b {a : Int} (ha : i32 a) : (Int32.ofInt a).toInt8.toInt32 = Int32.ofInt (w8 a) := Int32.toInt_inj.mp (by
  rw [Int8.toInt_toInt32, Int32.toInt_toInt8, tI ha, tI (i32_w8 _)]; exact bmod_w8 _)
theorem o_i2s {a : Int} (ha : i32 a) : (Int32.ofInt a).toInt16.toInt32 = Int32.ofInt (w16 a) := Int32.toInt_inj.mp (by
  rw [Int16.toInt_toInt32, Int32.toInt_toInt16, tI ha, tI (i32_w16 _)]; exact bmod_w16 _)
theorem o_lcmp {a b : Int} (ha : i64 a) (hb : i64 b) : lg_cmp (Int64.ofInt a) (Int64.ofInt b) = Int32.ofInt (cmp64 a b) := by
  unfold lg_cmp cmp64
  have h1 : (Int64.ofInt a > Int64.ofInt b) ↔ b < a := by
    show Int64.ofInt b < Int64.ofInt a ↔ _
    rw [Int64.lt_iff_toInt_lt, tJ ha, tJ hb]
  have h2 : (Int64.ofInt a = Int64.ofInt b) ↔ a = b := ⟨fun e => by have := congrArg Int64.toInt e; rwa [tJ ha, tJ hb] at this, fun e => by rw [e]⟩
  by_cases c1 : b < a
  · rw [if_pos (h1.mpr c1), if_pos c1]; rfl
  · rw [if_neg (fun q => c1 (h1.mp q)), if_neg c1]
    by_cases c2 : a = b
    · rw [if_pos (h2.mpr c2), if_pos c2]; rfl
    · rw [if_neg (fun q => c2 (h2.mp q)), if_neg c2]; rfl
theorem o_lt {a b : Int} (ha : i32 a) (hb : i32 b) : Int32.ofInt a < Int32.ofInt b ↔ a < b := by rw [Int32.lt_iff_toInt_lt, tI ha, tI hb]
theorem o_le {a b : Int} (ha : i32 a) (hb : i32 b) : Int32.ofInt a ≤ Int32.ofInt b ↔ a ≤ b := by rw [Int32.le_iff_toInt_le, tI ha, tI hb]
theorem o_eq {a b : Int} (ha : i32 a) (hb : i32 b) : Int32.ofInt a = Int32.ofInt b ↔ a = b := ⟨fun e => by have := congrArg Int32.toInt e; rwa [tI ha, tI hb] at this, fun e => by rw [e]⟩
theorem o_z : (0 : Int32) = Int32.ofInt 0 := rfl
theorem i32_0 : i32 0 := ⟨by decide, by decide⟩
theorem o_in {z : Int} {n : Nat} (h : i32 z) (h0 : 0 ≤ z) (h1 : z < n) : vp_in (Int32.ofInt z) n := vp_in_iff.mpr (by rw [tI h]; exact ⟨h0, h1⟩)
theorem o_cl {z : Int} (h : i32 z) (h0 : 0 ≤ z) : (Int32.ofInt z).toNatClampNeg = z.toNat := by
  show (Int32.ofInt z).toInt.toNat = _
  rw [tI h]
/-! values, locals -/
def cV (b : Nat) (fa : Nat → Nat) : AV → Value
  | .inl z => .int (Int32.ofInt z)
  | .inr (.inl z) => .long (Int64.ofInt z)
  | .inr (.inr (.inl i)) => .ref (b + i.toNat)
  | .inr (.inr (.inr 0)) => if fa 0 = 0 then .null else .ref (fa 0 - 1)
  | .inr (.inr (.inr (k + 1))) => .ref (fa (k + 1))
def nV : AV → Prop
  | .inl z => i32 z
  | .inr (.inl z) => i64 z
  | .inr (.inr (.inl i)) => 0 ≤ i
  | .inr (.inr (.inr _)) => True
def nVs (st : List AV) : Prop := ∀ v ∈ st, nV v
def LV (b : Nat) (fa : Nat → Nat) (nL : Nat) (ls : List (Option AV)) (la : Array Slot) : Prop :=
  la.size = nL ∧ lv_wf la ∧ ls.length = nL ∧ ∀ (i : Nat) (v : AV), ls[i]? = some (some v) → la[i]? = some (.val (cV b fa v)) ∧ nV v
def isJ : AV → Bool
  | .inr (.inl _) => true
  | _ => false
theorem cV_cat {b : Nat} {fa : Nat → Nat} (v : AV) : (cV b fa v).category = if isJ v = true then 2 else 1 := by
  rcases v with z | z | z | z
  · rfl
  · rfl
  · rfl
  · cases z with
    | zero =>
      show (if fa 0 = 0 then Value.null else Value.ref (fa 0 - 1)).category = 1
      split <;> rfl
    | succ k => rfl
/-- a store of one slot spoils no long -/
def okS (ls : List (Option AV)) : Nat → Bool
  | 0 => true
  | i + 1 => match ls[i]? with
    | some (some v) => !isJ v
    | _ => true
def LL (b : Nat) (fa : Nat → Nat) (ls : List (Option AV)) : List (Nat × Value) := (List.range ls.length).filterMap (fun i => match ls[i]? with
  | some (some v) => some (i, cV b fa v)
  | _ => none)
theorem LL_mem {b : Nat} {fa : Nat → Nat} {ls : List (Option AV)} {q : Nat × Value} : q ∈ LL b fa ls ↔ ∃ v, ls[q.1]? = some (some v) ∧ q.2 = cV b fa v := by
  unfold LL
  rw [List.mem_filterMap]
  constructor
  · rintro ⟨i, hi, h⟩
    split at h
    · rename_i v hv
      cases h
      exact ⟨v, hv, rfl⟩
    · cases h
  · rintro ⟨v, hv, h⟩
    refine ⟨q.1, List.mem_range.mpr (List.getElem?_eq_some_iff.mp hv).1, ?_⟩
    rw [hv]
    show some (q.1, cV b fa v) = some q
    rw [← h]
theorem LV_has {b : Nat} {fa : Nat → Nat} {nL : Nat} {ls : List (Option AV)} {la : Array Slot} (h : LV b fa nL ls la) : lv_has la nL (LL b fa ls) := by
  refine ⟨h.1, h.2.1, fun q hq => ?_⟩
  obtain ⟨v, hv, e⟩ := LL_mem.mp hq
  rw [e]
  exact (h.2.2.2 _ _ hv).1
theorem LV_set {b : Nat} {fa : Nat → Nat} {nL i : Nat} {ls : List (Option AV)} {la la' : Array Slot} {v : AV} (h : LV b fa nL ls la) (hn : nV v) (hi : i < nL) (ho : okS ls i = true)
    (h' : lv_has la' nL ((i, cV b fa v) :: (LL b fa ls).filter (fun q => !(q.1 == i) && !(q.1 + 1 == i && q.2.category == 2)))) : LV b fa nL (ls.set i (some v)) la' := by
  refine ⟨h'.1, h'.2.1, by rw [List.length_set]; exact h.2.2.1, fun j w hw => ?_⟩
  by_cases hj : j = i
  · subst hj
    rw [List.getElem?_set_self (by rw [h.2.2.1]; exact hi)] at hw
    cases hw
    exact ⟨h'.2.2 (j, cV b fa v) List.mem_cons_self, hn⟩
  · rw [List.getElem?_set_ne (Ne.symm hj)] at hw
    refine ⟨h'.2.2 (j, cV b fa w) (List.mem_cons_of_mem _ (List.mem_filter.mpr ⟨LL_mem.mpr ⟨w, hw, rfl⟩, ?_⟩)), (h.2.2.2 _ _ hw).2⟩
    have hc : (!(j + 1 == i && (cV b fa w).category == 2)) = true := by
      by_cases he : j + 1 = i
      · subst he
        simp only [okS, hw] at ho
        have e2 := cV_cat (b := b) (fa := fa) w
        have : isJ w = false := by simpa using ho
        rw [this] at e2
        rw [e2]
        simp
      · simp [he]
    simp [hj]
    simpa using hc
