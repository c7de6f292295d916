/-! small things for the printed walks -/
def lt {α β : Type} (v : α) (f : α → β) : β := f v
theorem lt_e {α β : Type} {v : α} {f : α → Option β} {r : β} (h : lt v f = some r) : f v = some r := h
theorem of_gd {α : Type} {c : Prop} [Decidable c] {a : Option α} {r : α} (h : (if c then a else none) = some r) : c ∧ a = some r := by
  by_cases hc : c
  · rw [if_pos hc] at h; exact ⟨hc, h⟩
  · rw [if_neg hc] at h; cases h
theorem of_nz {α : Type} {c : Prop} [Decidable c] {a : Option α} {r : α} (h : (if c then none else a) = some r) : ¬ c ∧ a = some r := by
  by_cases hc : c
  · rw [if_pos hc] at h; cases h
  · rw [if_neg hc] at h; exact ⟨hc, h⟩
theorem of_bd {α β : Type} {x : Option α} {f : α → Option β} {r : β} (h : x.bind f = some r) : ∃ q, x = some q ∧ f q = some r := by
  cases x with
  | none => cases h
  | some q => exact ⟨q, rfl, h⟩
def FU : Nat := 100000
def wk : List (Option AV) → List Bool → List (Option AV)
  | o :: l, b :: m => (if b = true then o else none) :: wk l m
  | _, _ => []
theorem wk_at : ∀ (ls : List (Option AV)) (m : List Bool) (i : Nat) (v : AV), (wk ls m)[i]? = some (some v) → ls[i]? = some (some v)
  | [], m, i, v, h => by cases m <;> cases h
  | o :: l, [], i, v, h => by cases h
  | o :: l, b :: m, 0, v, h => by
    have h2 : some (if b = true then o else none) = some (some v) := h
    cases b
    · cases h2
    · exact h2
  | o :: l, b :: m, i + 1, v, h => wk_at l m i v h
theorem wk_len : ∀ (ls : List (Option AV)) (m : List Bool), m.length = ls.length → (wk ls m).length = ls.length
  | [], [], _ => rfl
  | [], _ :: _, h => by cases h
  | _ :: _, [], h => by cases h
  | o :: l, b :: m, h => by
    show (wk l m).length + 1 = l.length + 1
    rw [wk_len l m (Nat.succ.inj h)]
section MXW
variable {K : KX} {B : BX} {ph : Bool} {Z : State → Prop} {cs ss : Nat} {S : List Shp} {nL : Nat} {M : Mem} {pc : Nat} {ls : List (Option AV)} {rest : List AV} {y : MethodName} {cc : ByteArray} {ret : Option FieldType} {d mc ms : Nat}
variable {y' : MethodName} {cc' : ByteArray} {nL' : Nat} {ret' : Option FieldType} {d' idx : Nat} {as stk stk2 : List AV} {r : Option AV} {S' : List Shp} {M' : Mem} {Pp : Prop}
theorem mx_mask (mask : List Bool) {ls' : List (Option AV)} (hm : wk ls mask = ls') (hl : mask.length = ls.length) (k : Wx K B Z cs ss S nL M pc ls' rest) : Wx K B Z cs ss S nL M pc ls rest := by
  intro H locs la hW hS hL hn
  subst hm
  exact k H locs la hW hS ⟨hL.1, hL.2.1, by rw [wk_len _ _ hl]; exact hL.2.2.1, fun i v h => hL.2.2.2 i v (wk_at _ _ i v h)⟩ hn
theorem mc_V (C : Cx K B ph y cc nL ret d mc ms) {c n : Nat} {o : Int} {Cn : String} {T' : u_T} (hm : cs ≤ mc ∧ ss ≤ ms) (hM : Mth ph y' cc' nL' ret' d' 0 0 S (aR o :: as) M r S' M' Pp) (hI : MI y' cc' nL' ret' as.length) (hin : Cond.instanceMethod y' ∈ BIG ∧ Cond.selects y'.cls y' y' ∈ BIG) (hl : Cond.methodLink y.cls idx y' ∈ BIG) (hC : CI c Cn T') (hcn : Cn = y'.cls) (hs : shp S o = some (10 + c, n)) (hd' : d' + 1 ≤ d) (hst : stk = as.reverse ++ aR o :: rest) (h8 : rest.length ≤ 4) (hd : decode cc pc = .ok (.invokevirtual idx, 3)) (h2 : r.toList ++ rest = stk2)
    (k : Pp → Wx K B Z cs ss S' nL M' (pc + 3) ls stk2) : Wx K B Z cs ss S nL M pc ls stk := by
  subst h2
  exact mx_callV C hM hI hin hl hC hcn hs hd' hm hst h8 hd k
theorem mc_S (C : Cx K B ph y cc nL ret d mc ms) (hm : cs ≤ mc ∧ ss ≤ ms) (hM : Mth ph y' cc' nL' ret' d' 0 0 S as M r S' M' Pp) (hI : MI y' cc' nL' ret' as.length) (hin : Cond.static y' ∈ BIG) (hl : Cond.methodLink y.cls idx y' ∈ BIG) (hd' : d' + 1 ≤ d) (hst : stk = as.reverse ++ rest) (h8 : rest.length ≤ 4) (hd : decode cc pc = .ok (.invokestatic idx, 3)) (h2 : r.toList ++ rest = stk2)
    (k : Pp → Wx K B Z cs ss S' nL M' (pc + 3) ls stk2) : Wx K B Z cs ss S nL M pc ls stk := by
  subst h2
  exact mx_callS C hM hI hin hl hd' hm hst h8 hd k
theorem mc_SN (C : Cx K B ph y cc nL ret d mc ms) {host : String} (hm : cs ≤ mc ∧ ss ≤ ms) (hM : Mth ph y' cc' nL' ret' d' 0 0 S as M r S' M' Pp) (hI : MI y' cc' nL' ret' as.length) (hin : Cond.static y' ∈ BIG) (hl : Cond.methodLinkNest y.cls idx y' host ∈ nests) (hd' : d' + 1 ≤ d) (hst : stk = as.reverse ++ rest) (h8 : rest.length ≤ 4) (hd : decode cc pc = .ok (.invokestatic idx, 3)) (h2 : r.toList ++ rest = stk2)
    (k : Pp → Wx K B Z cs ss S' nL M' (pc + 3) ls stk2) : Wx K B Z cs ss S nL M pc ls stk := by
  subst h2
  exact mx_callSN C hM hI hin hl hd' hm hst h8 hd k
theorem mc_F (C : Cx K B ph y cc nL ret d mc ms) {i : Nat} (hi : i < 4) (hm : cs ≤ mc ∧ ss ≤ ms) (hM : Mth ph y' cc' nL' ret' d' 0 0 S (aF (i + 2) :: as) M r S' M' Pp) (hI : MI y' cc' nL' ret' as.length) (hin : Cond.instanceMethod y' ∈ BIG ∧ Cond.selects "java/lang/String" y' y' ∈ BIG) (hl : Cond.methodLink y.cls idx y' ∈ BIG) (hd' : d' + 1 ≤ d) (hst : stk = as.reverse ++ aF (i + 2) :: rest) (h8 : rest.length ≤ 4) (hd : decode cc pc = .ok (.invokevirtual idx, 3)) (h2 : r.toList ++ rest = stk2)
    (k : Pp → Wx K B Z cs ss S' nL M' (pc + 3) ls stk2) : Wx K B Z cs ss S nL M pc ls stk := by
  subst h2
  exact mx_callF C hi hM hI hin hl hd' hm hst h8 hd k
theorem mx_tin (C : Cx K B ph y cc nL ret d mc ms) {a dflt lo hi off : Int} {offs : Array Int} {len tgt : Nat} (v : Int) (hd : decode cc pc = .ok (.tableswitch dflt lo hi offs, len)) (ha : a = v) (h1 : ¬ v < lo) (h2 : ¬ hi < v) (ho : offs[(v - lo).toNat]? = some off) (ht : (pc : Int) + off = (tgt : Int)) (k : Wx K B Z cs ss S nL M tgt ls rest) : Wx K B Z cs ss S nL M pc ls (aI a :: rest) := by
  obtain ⟨p, l, e, R, s, m, args, below, meth, c⟩ := K
  intro H locs la hW hS hL hn
  have e1 := tI (nVs_hd hn)
  subst ha
  exact lv_tableIn C.1 C.2.1 hd (by rw [e1]; exact h1) (by rw [e1]; exact h2) (by rw [e1]; exact ho) ht (k H locs la hW hS hL (nVs_tl hn))
theorem mx_tout (C : Cx K B ph y cc nL ret d mc ms) {a dflt lo hi : Int} {offs : Array Int} {len tgt : Nat} (hd : decode cc pc = .ok (.tableswitch dflt lo hi offs, len)) (h : a < lo ∨ hi < a) (ht : (pc : Int) + dflt = (tgt : Int)) (k : Wx K B Z cs ss S nL M tgt ls rest) : Wx K B Z cs ss S nL M pc ls (aI a :: rest) := by
  obtain ⟨p, l, e, R, s, m, args, below, meth, c⟩ := K
  intro H locs la hW hS hL hn
  have e1 := tI (nVs_hd hn)
  exact lv_tableOut C.1 C.2.1 hd (by rw [e1]; exact h) ht (k H locs la hW hS hL (nVs_tl hn))
theorem max_w {a b : Int} (ha : i32 a) (hb : i32 b) : (if Int32.ofInt a < Int32.ofInt b then Int32.ofInt b else Int32.ofInt a) = Int32.ofInt (max a b) := by
  by_cases h : a < b
  · rw [if_pos ((o_lt ha hb).mpr h), show max a b = b by omega]
  · rw [if_neg (fun q => h ((o_lt ha hb).mp q)), show max a b = a by omega]
theorem min_w {a b : Int} (ha : i32 a) (hb : i32 b) : (if Int32.ofInt b < Int32.ofInt a then Int32.ofInt b else Int32.ofInt a) = Int32.ofInt (min a b) := by
  by_cases h : b < a
  · rw [if_pos ((o_lt hb ha).mpr h), show min a b = b by omega]
  · rw [if_neg (fun q => h ((o_lt hb ha).mp q)), show min a b = a by omega]
def ab32 (a : Int) : Int := if 0 ≤ a then a else w32 (-a)
theorem abs_w {a : Int} (ha : i32 a) : (if 0 ≤ Int32.ofInt a then Int32.ofInt a else 0 - Int32.ofInt a) = Int32.ofInt (ab32 a) := by
  unfold ab32
  by_cases h : 0 ≤ a
  · rw [if_pos (show (0 : Int32) ≤ Int32.ofInt a from (o_le i32_0 ha).mpr h), if_pos h]
  · rw [if_neg (show ¬ (0 : Int32) ≤ Int32.ofInt a from fun q => h ((o_le i32_0 ha).mp q)), if_neg h, o_z, o_sub i32_0 ha, show (0 : Int) - a = -a by omega]
theorem k_max : Cond.code Lib.Math.max.name Lib.Math.max.code 2 (some .int) ∈ BIG := mi_J9_max_7cf53.1
theorem k_min : Cond.code Lib.Math.min.name Lib.Math.min.code 2 (some .int) ∈ BIG := mi_J9_min_7cf53.1
theorem k_abs : Cond.code Lib.Math.abs.name Lib.Math.abs.code 1 (some .int) ∈ BIG := mi_J9_abs_0f7a4.1
theorem math_room (C : Cx K B ph y cc nL ret d mc ms) (hm : cs ≤ mc ∧ ss ≤ ms) (h1 : 1 ≤ d) (h8 : rest.length ≤ 4) : 1 ≤ K.2.2.2.1.frames ∧ ((rest.map (cV B.1 B.2.2.2.1)).map fun v => v.category).sum + 13 ≤ K.2.2.2.1.locals ∧ cs ≤ K.2.2.2.1.cells ∧ ss ≤ K.2.2.2.1.slots := by
  have g1 : d ≤ K.2.2.2.1.frames := C.2.2.2.2.2.2.2.2.2.2.2.2.1
  have g2 : 40 * d ≤ K.2.2.2.1.locals := C.2.2.2.2.2.2.2.2.2.2.2.2.2.1
  have g3 := catSum B.1 B.2.2.2.1 rest
  have g4 : mc ≤ K.2.2.2.1.cells := C.2.2.2.2.2.2.2.2.2.2.2.2.2.2.1
  have g5 : ms ≤ K.2.2.2.1.slots := C.2.2.2.2.2.2.2.2.2.2.2.2.2.2.2
  omega
theorem mx_max (C : Cx K B ph y cc nL ret d mc ms) {a b : Int} (hm : cs ≤ mc ∧ ss ≤ ms) (h1 : 1 ≤ d) (h8 : rest.length ≤ 4) (hl : Cond.methodLink y.cls idx Lib.Math.max.name ∈ BIG) (hd : decode cc pc = .ok (.invokestatic idx, 3)) (k : Wx K B Z cs ss S nL M (pc + 3) ls (aI (max a b) :: rest)) : Wx K B Z cs ss S nL M pc ls (aI b :: aI a :: rest) := by
  obtain ⟨p, l, e, R, s, m, args, below, meth, c⟩ := K
  intro H locs la hW hS hL hn
  obtain ⟨g1, g2, g3, g4⟩ := math_room C hm h1 h8
  have hts := C.2.2.2.2.1
  refine va_mmax C.1 C.2.1 (C.2.2.1.trans hL.1.symm) C.2.2.2.1 (hts _ hl) (hts _ ms_J9_max_7cf53) (hts _ mi_J9_max_7cf53.2.1) (hts _ k_max) g1 g2 g3 g4 hd ?_
  rw [max_w (nVs_hd (nVs_tl hn)) (nVs_hd hn)]
  exact k H locs la hW hS hL (nVs_cn (show i32 (max a b) by have h2 : i32 a := nVs_hd (nVs_tl hn); have h3 : i32 b := nVs_hd hn; unfold i32 at *; omega) (nVs_tl (nVs_tl hn)))
theorem mx_min (C : Cx K B ph y cc nL ret d mc ms) {a b : Int} (hm : cs ≤ mc ∧ ss ≤ ms) (h1 : 1 ≤ d) (h8 : rest.length ≤ 4) (hl : Cond.methodLink y.cls idx Lib.Math.min.name ∈ BIG) (hd : decode cc pc = .ok (.invokestatic idx, 3)) (k : Wx K B Z cs ss S nL M (pc + 3) ls (aI (min a b) :: rest)) : Wx K B Z cs ss S nL M pc ls (aI b :: aI a :: rest) := by
  obtain ⟨p, l, e, R, s, m, args, below, meth, c⟩ := K
  intro H locs la hW hS hL hn
  obtain ⟨g1, g2, g3, g4⟩ := math_room C hm h1 h8
  have hts := C.2.2.2.2.1
  refine va_mmin C.1 C.2.1 (C.2.2.1.trans hL.1.symm) C.2.2.2.1 (hts _ hl) (hts _ ms_J9_min_7cf53) (hts _ mi_J9_min_7cf53.2.1) (hts _ k_min) g1 g2 g3 g4 hd ?_
  rw [min_w (nVs_hd (nVs_tl hn)) (nVs_hd hn)]
  exact k H locs la hW hS hL (nVs_cn (show i32 (min a b) by have h2 : i32 a := nVs_hd (nVs_tl hn); have h3 : i32 b := nVs_hd hn; unfold i32 at *; omega) (nVs_tl (nVs_tl hn)))
theorem mx_abs (C : Cx K B ph y cc nL ret d mc ms) {a : Int} (hm : cs ≤ mc ∧ ss ≤ ms) (h1 : 1 ≤ d) (h8 : rest.length ≤ 4) (hl : Cond.methodLink y.cls idx Lib.Math.abs.name ∈ BIG) (hd : decode cc pc = .ok (.invokestatic idx, 3)) (k : Wx K B Z cs ss S nL M (pc + 3) ls (aI (ab32 a) :: rest)) : Wx K B Z cs ss S nL M pc ls (aI a :: rest) := by
  obtain ⟨p, l, e, R, s, m, args, below, meth, c⟩ := K
  intro H locs la hW hS hL hn
  obtain ⟨g1, g2, g3, g4⟩ := math_room C hm h1 h8
  have hts := C.2.2.2.2.1
  refine va_mabs C.1 C.2.1 (C.2.2.1.trans hL.1.symm) C.2.2.2.1 (hts _ hl) (hts _ ms_J9_abs_0f7a4) (hts _ mi_J9_abs_0f7a4.2.1) (hts _ k_abs) g1 g2 g3 g4 hd ?_
  rw [abs_w (nVs_hd hn)]
  exact k H locs la hW hS hL (nVs_cn (show i32 (ab32 a) by have h2 : i32 a := nVs_hd hn; unfold ab32; split; exact h2; exact w32_in _) (nVs_tl hn))
theorem o_i2c {a : Int} : ((Int32.ofInt a).toUInt32 % 65536).toInt32 = Int32.ofInt (a % 65536) := by
  rw [pk_char]
  have e1 : (Int32.ofInt a).toBitVec.toNat = (a % 4294967296).toNat := by
    rw [Int32.toBitVec_ofInt, BitVec.toNat_ofInt]
    rfl
  rw [e1]
  show Int32.ofNat _ = _
  rw [← Int32.ofInt_eq_ofNat]
  congr 1
  omega
theorem mx_i2c (C : Cx K B ph y cc nL ret d mc ms) {a : Int} (hd : decode cc pc = .ok (.i2c, 1)) (k : Wx K B Z cs ss S nL M (pc + 1) ls (aI (a % 65536) :: rest)) : Wx K B Z cs ss S nL M pc ls (aI a :: rest) := by
  obtain ⟨p, l, e, R, s, m, args, below, meth, c⟩ := K
  intro H locs la hW hS hL hn
  exact lv_i2c C.1 C.2.1 hd o_i2c (k H locs la hW hS hL (nVs_cn (show i32 (a % 65536) by unfold i32; omega) (nVs_tl hn)))
theorem mx_breturn (C : Cx K B ph y cc nL (some .byte) d mc ms) {z : Int} (hd : decode cc pc = .ok (.ireturn, 1)) (hz : -128 ≤ z ∧ z < 128) (hp : Pp) (hm : cs ≤ mc ∧ ss ≤ ms) : Wx K B (Zr K B (some (aI z)) S M Pp mc ms) cs ss S nL M pc ls [aI z] := by
  obtain ⟨p, l, e, R, s, m, args, below, meth, c0⟩ := K
  intro H locs la hW hS hL hn
  have e1 : narrow .byte (.int (Int32.ofInt z)) = .int (Int32.ofInt z) := by
    have h1 := o_i2b (nVs_hd hn : i32 z)
    have h2 : w8 z = z := by unfold w8; omega
    rw [h2] at h1
    exact congrArg Value.int h1
  exact W.widen hm.1 hm.2 (W.zret C.1 C.2.1 C.2.2.2.2.2.2.2.2.2.1 e1 (ret_post (p := p) (l := l) (e := e) (R := R) (m := m) (below := below) (meth := meth) (c := c0) (r := some (aI z)) hW hS (fun v h => by cases h; exact nVs_hd hn) hp) hS.2.2 hd C.2.2.2.2.2.2.2.2.1)
end MXW
