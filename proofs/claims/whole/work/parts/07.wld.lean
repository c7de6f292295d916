/-! the world: cells by the order of making -/
/-- where the world begins, its classes, its rows' classes, where the cells that are not its own lie; whether it is still being made -/
abbrev BX : Type := Nat × (va_G × ((Nat → ClassId) × ((Nat → Nat) × Bool)))
def nFl (c : Nat) : Nat := [5, 12, 4, 10, 3, 4, 12, 10, 68].getD c 0
def tyFl (c k : Nat) : FieldType := match c with
  | 0 => tyX0 k
  | 1 => tyX1 k
  | 2 => tyX2 k
  | 3 => tyX3 k
  | 4 => tyX4 k
  | 5 => tyX5 k
  | 6 => tyX6 k
  | 7 => tyX7 k
  | _ => tyX8 k
def isRT : FieldType → Bool
  | .array _ => true
  | .object _ => true
  | _ => false
def mkR (b : Nat) (z : Int) : Value := if z < 0 then .null else .ref (b + z.toNat)
def mkF (b : Nat) (ty : FieldType) (z : Int) : Value := if isRT ty = true then mkR b z else .int (Int32.ofInt z)
def flds (b c : Nat) (m : Int → Int) : List Value := (List.range (nFl c)).map (fun k => mkF b (tyFl c k) (m (k : Int)))
def cellE (b : Nat) (cA : Nat → ClassId) (sh : Shp) (m : Int → Int) : va_E :=
  if sh.1 < 3 then .inl (cA sh.1, sh.2, .inl (fun k => Int32.ofInt (m (k : Int))))
  else if sh.1 = 3 then .inl (cA 3, sh.2, .inr (.inl (fun k => Int64.ofInt (m (k : Int)))))
  else if sh.1 < 10 then .inl (cA sh.1, sh.2, .inr (.inr (.inr (.inr (fun k => if m (k : Int) < 0 then none else some (b + (m (k : Int)).toNat))))))
  else .inr (sh.1 - 10, flds b (sh.1 - 10) m)
def wld (b : Nat) (cA : Nat → ClassId) (S : List Shp) (M : Mem) : va_W := (List.range S.length).map (fun i => (b + i, cellE b cA (S.getD i (0, 0)) (M (i : Int))))
def shp (S : List Shp) (i : Int) : Option Shp := if i < 0 then none else S[i.toNat]?
def stM (M : Mem) (i k v : Int) : Mem := fun j => if j = i then (fun q => if q = k then v else M i q) else M j
def Nrm (S : List Shp) (M : Mem) : Prop := ∀ (i k : Int) (sh : Shp), shp S i = some sh → (sh.1 = 3 → i64 (M i k)) ∧ (sh.1 ≠ 3 → i32 (M i k)) ∧ (sh.1 = 2 → M i k = 0 ∨ M i k = 1)
def tysL (cA : Nat → ClassId) : List (ClassId × FieldType) := [(cA 0, .int), (cA 1, .byte), (cA 2, .boolean), (cA 3, .long), (cA 4, .object RX3), (cA 5, .object RX4)]
def WR (B : BX) (S : List Shp) (M : Mem) (H : Heap) : Prop := va_P B.2.1 vwCl (wld B.1 B.2.2.1 S M) H ∧ (B.2.2.2.2 = true → H.size = B.1 + S.length) ∧ Nrm S M
theorem shp_at {S : List Shp} {i : Int} {sh : Shp} (h : shp S i = some sh) : 0 ≤ i ∧ i.toNat < S.length ∧ S[i.toNat]? = some sh ∧ ((i.toNat : Nat) : Int) = i := by
  unfold shp at h
  split at h
  · cases h
  · rename_i h0
    exact ⟨by omega, (List.getElem?_eq_some_iff.mp h).1, h, by omega⟩
theorem wld_len (b : Nat) (cA : Nat → ClassId) (S : List Shp) (M : Mem) : (wld b cA S M).length = S.length := by simp [wld]
theorem wld_get {b : Nat} {cA : Nat → ClassId} {S : List Shp} {M : Mem} {k : Nat} : (wld b cA S M)[k]? = if k < S.length then some (b + k, cellE b cA (S.getD k (0, 0)) (M (k : Int))) else none := by
  unfold wld
  rw [List.getElem?_map]
  by_cases hk : k < S.length
  · rw [List.getElem?_range hk, if_pos hk]; rfl
  · rw [List.getElem?_eq_none (by simp; omega), if_neg hk]; rfl
theorem wld_at {b : Nat} {cA : Nat → ClassId} {S : List Shp} {M : Mem} {i : Int} {sh : Shp} (h : shp S i = some sh) : (wld b cA S M)[i.toNat]? = some (b + i.toNat, cellE b cA sh (M i)) := by
  obtain ⟨h0, h1, h2, h3⟩ := shp_at h
  rw [wld_get, if_pos h1, h3, List.getD_eq_getElem?_getD, h2]
  rfl
theorem stM_self {M : Mem} {i k v : Int} : stM M i k v i = fun q => if q = k then v else M i q := by unfold stM; rw [if_pos rfl]
theorem stM_ne {M : Mem} {i k v j : Int} (h : j ≠ i) : stM M i k v j = M j := by unfold stM; rw [if_neg h]
theorem wld_set {b : Nat} {cA : Nat → ClassId} {S : List Shp} {M M' : Mem} {i : Int} {sh : Shp} {e : va_E} (h : shp S i = some sh) (he : e = cellE b cA sh (M' i)) (hM : ∀ j, j ≠ i → M' j = M j) : (wld b cA S M).set i.toNat (b + i.toNat, e) = wld b cA S M' := by
  obtain ⟨h0, h1, h2, h3⟩ := shp_at h
  apply List.ext_getElem?
  intro k
  by_cases hk : k = i.toNat
  · subst hk
    rw [List.getElem?_set_self (by rw [wld_len]; exact h1), wld_at h, he]
  · rw [List.getElem?_set_ne (Ne.symm hk), wld_get, wld_get]
    split
    · rw [hM (k : Int) (by omega)]
    · rfl
theorem wld_D (b : Nat) (cA : Nat → ClassId) (S : List Shp) (M : Mem) : va_D (fun q => b ≤ q) (wld b cA S M) := by
  refine ⟨fun i j p q hi hj hpq => ?_, fun k q hk => ?_⟩
  · rw [wld_get] at hi hj
    split at hi <;> split at hj <;> simp_all
    rw [← hi, ← hj] at hpq
    simpa using hpq
  · rw [wld_get] at hk
    split at hk
    · cases hk
      show b ≤ b + k
      omega
    · cases hk
theorem wld_push {b : Nat} {cA : Nat → ClassId} {S : List Shp} {M M' : Mem} {sh : Shp} {e : va_E} (he : e = cellE b cA sh (M' (S.length : Int))) (hM : ∀ j, j ≠ (S.length : Int) → M' j = M j) : wld b cA S M ++ [(b + S.length, e)] = wld b cA (S ++ [sh]) M' := by
  apply List.ext_getElem?
  intro k
  rw [wld_get]
  by_cases hk : k < S.length
  · rw [List.getElem?_append_left (by rw [wld_len]; exact hk), wld_get, if_pos hk, if_pos (by simp; omega), hM (k : Int) (by omega)]
    have : (S ++ [sh]).getD k (0, 0) = S.getD k (0, 0) := by
      rw [List.getD_eq_getElem?_getD, List.getD_eq_getElem?_getD, List.getElem?_append_left hk]
    rw [this]
  · rw [List.getElem?_append_right (by rw [wld_len]; omega), wld_len]
    by_cases hk2 : k = S.length
    · subst hk2
      rw [if_pos (by simp), Nat.sub_self]
      have : (S ++ [sh]).getD S.length (0, 0) = sh := by
        rw [List.getD_eq_getElem?_getD, List.getElem?_append_right (Nat.le_refl _), Nat.sub_self]; rfl
      rw [this, he]
      rfl
    · rw [if_neg (by simp; omega)]
      rw [List.getElem?_eq_none (by simp; omega)]
theorem Nrm_st {S : List Shp} {M : Mem} {i k v : Int} (h : Nrm S M) {sh : Shp} (hs : shp S i = some sh) (hv : (sh.1 = 3 → i64 v) ∧ (sh.1 ≠ 3 → i32 v) ∧ (sh.1 = 2 → v = 0 ∨ v = 1)) : Nrm S (stM M i k v) := by
  intro j q sh' h'
  unfold stM
  by_cases hj : j = i
  · rw [if_pos hj]
    subst hj
    cases hs.symm.trans h'
    show _ ∧ _
    by_cases hq : q = k
    · rw [if_pos hq]; exact hv
    · rw [if_neg hq]; exact h j q sh hs
  · rw [if_neg hj]
    exact h j q sh' h'
theorem flds_get {b c : Nat} {m : Int → Int} {k : Nat} (hk : k < nFl c) : (flds b c m)[k]? = some (mkF b (tyFl c k) (m (k : Int))) := by
  unfold flds
  rw [List.getElem?_map, List.getElem?_range hk]
  rfl
theorem flds_len (b c : Nat) (m : Int → Int) : (flds b c m).length = nFl c := by simp [flds]
theorem flds_set {b c : Nat} {m m' : Int → Int} {k : Nat} {v : Value} (hk : k < nFl c) (hv : v = mkF b (tyFl c k) (m' (k : Int))) (hm : ∀ j : Nat, j ≠ k → m' (j : Int) = m (j : Int)) : (flds b c m).set k v = flds b c m' := by
  apply List.ext_getElem?
  intro j
  by_cases hj : j = k
  · subst hj
    rw [List.getElem?_set_self (by rw [flds_len]; exact hk), flds_get hk, hv]
  · rw [List.getElem?_set_ne (Ne.symm hj)]
    by_cases hl : j < nFl c
    · rw [flds_get hl, flds_get hl, hm j hj]
    · rw [List.getElem?_eq_none (by rw [flds_len]; omega), List.getElem?_eq_none (by rw [flds_len]; omega)]
/-! what the class's static row, its text constants and its nest mates are, at a state -/
def tabA : List Int := [-1, 0, 0, 0, 1, 2, 3]
def sLen : List Nat := [20, 6, 3, 10]
def sByt : List (List Int32) := [[108, 111, 117, 100, 115, 111, 102, 116, 119, 97, 108, 108, 99, 97, 108, 109, 119, 101, 97, 114], [115, 104, 107, 118, 108, 121], [60, 61, 62], [48, 49, 50, 51, 52, 53, 54, 55, 56, 57]]
def nests : List Cond := [.methodLinkNest "SqueakShop" 13 yX5_init "SqueakShop", .methodLinkNest "SqueakShop" 26 yX6_init "SqueakShop", .methodLinkNest "SqueakShop" 33 yX0_init "SqueakShop", .methodLinkNest "SqueakShop" 60 yX4_init "SqueakShop", .methodLinkNest "SqueakShop$Ways" 113 yX7_isHouse "SqueakShop"]
def isNest : Cond → Bool
  | .methodLinkNest .. => true
  | _ => false
def FO (B : BX) (s : State) : Prop :=
  va_Z "SqueakShop" "ABOVE" "[I" (.ref (B.2.2.2.1 1)) (fun q => B.1 ≤ q) s s.heap ∧ va_T .int (B.2.2.2.1 1) 7 (fun j => .int (Int32.ofInt (tabA.getD j 0))) (fun q => B.1 ≤ q) s s.heap ∧
  vk_S 4 sLen sByt (fun i => B.2.2.2.1 (i + 2)) (fun i => B.2.2.2.1 (i + 10)) (fun q => B.1 ≤ q) s s.heap ∧
  vk_R "SqueakShop$Text" 63 "loudsoftwallcalmwear" (B.2.2.2.1 2) s ∧ vk_R "SqueakShop$Text" 90 "shkvly" (B.2.2.2.1 3) s ∧ vk_R "SqueakShop$Text" 96 "<=>" (B.2.2.2.1 4) s ∧ vk_R "SqueakShop$Text" 98 "0123456789" (B.2.2.2.1 5) s ∧
  va_Z "jdk/internal/util/Preconditions" "SIOOBE_FORMATTER" "Ljava/util/function/BiFunction;" (cV B.1 B.2.2.2.1 (aF 0)) (fun q => B.1 ≤ q) s s.heap ∧ va_Z "java/lang/String" "COMPACT_STRINGS" "Z" (.int 1) (fun q => B.1 ≤ q) s s.heap ∧
  va_AO RX3 s ∧ va_AO RX4 s ∧ ∀ w ∈ nests, va_Nw w s
theorem FO_moved {B : BX} {s U : State} {H : Heap} {locs : List Loc} (h : FO B s) (hS : va_S (fun q => B.1 ≤ q) s.heap H locs) (hU : U.heap = H) (hW : s.WarmedH U.vm) : FO B U := by
  obtain ⟨h1, h2, h3, h4, h5, h6, h7, h8, h8b, a3, a4, h9⟩ := h
  subst hU
  refine ⟨(h1.moved hW.alike).kept hS.2.1, (h2.moved hW.alike).kept hS.2.1, (h3.moved hW.alike).kept hS.2.1, h4.warm hW, h5.warm hW, h6.warm hW, h7.warm hW, (h8.moved hW.alike).kept hS.2.1, (h8b.moved hW.alike).kept hS.2.1, a3.moved hW.alike, a4.moved hW.alike, fun w hw => ?_⟩
  have hn : isNest w = true := by
    have : nests.all isNest = true := by decide
    exact List.all_eq_true.mp this w hw
  cases w <;> simp [isNest] at hn
  exact va_Nw.warmM hW (h9 _ hw)
theorem FO_same {B : BX} {s U : State} (h : FO B s) (hH : U.heap = s.heap) (hv : U.vm = s.vm) : FO B U := by
  obtain ⟨h1, h2, h3, h4, h5, h6, h7, h8, h8b, a3, a4, h9⟩ := h
  have ha : s.vm.Alike U.vm := by rw [hv]; exact Vm.Alike.refl _
  have hq : ∀ a : Nat, a < s.heap.size → ¬ (B.1 ≤ a) → U.heap[a]? = s.heap[a]? := fun a _ _ => by rw [hH]
  refine ⟨(h1.moved ha).kept hq, (h2.moved ha).kept hq, (h3.moved ha).kept hq, h4.same hv, h5.same hv, h6.same hv, h7.same hv, (h8.moved ha).kept hq, (h8b.moved ha).kept hq, a3.moved ha, a4.moved ha, fun w hw => ?_⟩
  have hn : isNest w = true := by
    have : nests.all isNest = true := by decide
    exact List.all_eq_true.mp this w hw
  cases w <;> simp [isNest] at hn
  exact va_Nw.same rfl hv.symm (h9 _ hw)
/-! the good words -/
def BIG : List Cond := lw_tbl.filter goodWord
theorem big_of {w : Cond} (i : Nat) (h : lw_tbl[i]? = some w) (hg : goodWord w = true) : w ∈ BIG := List.mem_filter.mpr ⟨List.mem_of_getElem? h, hg⟩
theorem big_good {ws : List Cond} (h : ∀ w ∈ ws, w ∈ BIG) : GoodIn BIG ws := fun w hw => ⟨h w hw, good_of_word (List.mem_filter.mp (h w hw)).2⟩
