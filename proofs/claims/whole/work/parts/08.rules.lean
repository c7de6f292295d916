/-! the rules of the light machine: each is a kit row, said over it -/
abbrev KX : Type := Program × (Launch × (Env × (Room × (State × (MethodId × (Array Value × (List Frame × (Method × Code))))))))
def Wx (K : KX) (B : BX) (Z : State → Prop) (cs ss : Nat) (S : List Shp) (nL : Nat) (M : Mem) (pc : Nat) (ls : List (Option AV)) (st : List AV) : Prop :=
  ∀ (H : Heap) (locs : List Loc) (la : Array Slot), WR B S M H → va_S (fun q => B.1 ≤ q) K.2.2.2.2.1.heap H locs → LV B.1 B.2.2.2.1 nL ls la → nVs st →
    W K.1 K.2.1 K.2.2.1 K.2.2.2.1 K.2.2.2.2.1 K.2.2.2.2.2.1 K.2.2.2.2.2.2.1 K.2.2.2.2.2.2.2.1 K.2.2.2.2.2.2.2.2.1 K.2.2.2.2.2.2.2.2.2 H locs cs ss Z (F0 K.2.2.2.2.2.1 pc la (st.map (cV B.1 B.2.2.2.1)))
/-- what holds all through a method's run -/
def Cx (K : KX) (B : BX) (ph : Bool) (y : MethodName) (cc : ByteArray) (nL : Nat) (ret : Option FieldType) (d mc ms : Nat) : Prop :=
  K.1.tables.exec = Jvm.exec ∧ K.2.2.2.2.2.2.2.2.2.code = cc ∧ K.2.2.2.2.2.2.2.2.2.maxLocals = nL ∧ K.2.2.2.2.1.vm.findClass y.cls = some K.2.2.2.2.2.1.cls ∧ (∀ w ∈ BIG, w.before K.2.2.2.2.2.2.1 K.2.2.2.2.1 = true) ∧
  va_K B.2.1 vwCl (tysL B.2.2.1) K.2.2.2.2.1 ∧ FO B K.2.2.2.2.1 ∧ B.1 ≤ K.2.2.2.2.1.heap.size ∧ K.2.2.2.2.2.2.2.2.1.locks = false ∧ K.2.2.2.2.2.2.2.2.1.sig.returnType = ret ∧ K.2.2.2.2.2.2.2.2.1.name = y.name ∧
  B.2.2.2.2 = ph ∧ (d ≤ K.2.2.2.1.frames ∧ 40 * d ≤ K.2.2.2.1.locals ∧ mc ≤ K.2.2.2.1.cells ∧ ms ≤ K.2.2.2.1.slots)
theorem nVs_tl {v : AV} {st : List AV} (h : nVs (v :: st)) : nVs st := fun w hw => h w (List.mem_cons_of_mem _ hw)
theorem nVs_hd {v : AV} {st : List AV} (h : nVs (v :: st)) : nV v := h v List.mem_cons_self
theorem nVs_cn {v : AV} {st : List AV} (h1 : nV v) (h2 : nVs st) : nVs (v :: st) := fun w hw => by
  rcases List.mem_cons.mp hw with e | e
  · rw [e]; exact h1
  · exact h2 w e
theorem catSum (b : Nat) (fa : Nat → Nat) (st : List AV) : ((st.map (cV b fa)).map fun v => v.category).sum ≤ 2 * st.length := by
  induction st with
  | nil => exact Nat.le_refl 0
  | cons v l ih =>
    have := cV_cat (b := b) (fa := fa) v
    simp only [List.map_cons, List.sum_cons, List.length_cons]
    split at this <;> omega
theorem i32_cmp (a b : Int) : i32 (cmp64 a b) := by
  unfold cmp64 i32
  by_cases h : b < a
  · rw [if_pos h]; omega
  · rw [if_neg h]
    by_cases h2 : a = b
    · rw [if_pos h2]; omega
    · rw [if_neg h2]; omega
section MX
variable {K : KX} {B : BX} {Z : State → Prop} {cs ss : Nat} {S : List Shp} {nL : Nat} {M : Mem} {pc : Nat} {ls : List (Option AV)} {rest : List AV} {y : MethodName} {cc : ByteArray} {ret : Option FieldType} {d mc ms : Nat} {ph : Bool}

theorem mx_iconst (C : Cx K B ph y cc nL ret d mc ms) {n z : Int} (hd : decode cc pc = .ok (.iconst n, 1)) (hz : Int32.ofInt n = Int32.ofInt z) (hi : i32 z) (k : Wx K B Z cs ss S nL M (pc + 1) ls (aI z :: rest)) : Wx K B Z cs ss S nL M pc ls rest := by
  obtain ⟨p, l, e, R, s, m, args, below, meth, c⟩ := K
  intro H locs la hW hS hL hn
  exact lv_iconst C.1 C.2.1 hd hz (k H locs la hW hS hL (nVs_cn hi hn))

theorem mx_bipush (C : Cx K B ph y cc nL ret d mc ms) {n z : Int} (hd : decode cc pc = .ok (.bipush n, 2)) (hz : (Int8.ofInt n).toInt32 = Int32.ofInt z) (hi : i32 z) (k : Wx K B Z cs ss S nL M (pc + 2) ls (aI z :: rest)) : Wx K B Z cs ss S nL M pc ls rest := by
  obtain ⟨p, l, e, R, s, m, args, below, meth, c⟩ := K
  intro H locs la hW hS hL hn
  exact lv_bipush C.1 C.2.1 hd hz (k H locs la hW hS hL (nVs_cn hi hn))

theorem mx_sipush (C : Cx K B ph y cc nL ret d mc ms) {n z : Int} (hd : decode cc pc = .ok (.sipush n, 3)) (hz : (Int16.ofInt n).toInt32 = Int32.ofInt z) (hi : i32 z) (k : Wx K B Z cs ss S nL M (pc + 3) ls (aI z :: rest)) : Wx K B Z cs ss S nL M pc ls rest := by
  obtain ⟨p, l, e, R, s, m, args, below, meth, c⟩ := K
  intro H locs la hW hS hL hn
  exact lv_sipush C.1 C.2.1 hd hz (k H locs la hW hS hL (nVs_cn hi hn))

theorem mx_lconst (C : Cx K B ph y cc nL ret d mc ms) {n : Fin 2} {z : Int} (hd : decode cc pc = .ok (.lconst n, 1)) (hz : Int64.ofNat (n : Nat) = Int64.ofInt z) (hi : i64 z) (k : Wx K B Z cs ss S nL M (pc + 1) ls (aJ z :: rest)) : Wx K B Z cs ss S nL M pc ls rest := by
  obtain ⟨p, l, e, R, s, m, args, below, meth, c⟩ := K
  intro H locs la hW hS hL hn
  exact lv_lconst C.1 C.2.1 hd hz (k H locs la hW hS hL (nVs_cn hi hn))

theorem mx_ldc (C : Cx K B ph y cc nL ret d mc ms) {idx : Nat} {z : Int} (hd : decode cc pc = .ok (.ldc idx, 2)) (hw : Cond.constant y.cls idx (Int32.ofInt z) ∈ BIG) (hi : i32 z) (k : Wx K B Z cs ss S nL M (pc + 2) ls (aI z :: rest)) : Wx K B Z cs ss S nL M pc ls rest := by
  obtain ⟨p, l, e, R, s, m, args, below, meth, c⟩ := K
  intro H locs la hW hS hL hn
  exact lv_ldc C.1 C.2.1 C.2.2.2.1 (C.2.2.2.2.1 _ hw) hd (k H locs la hW hS hL (nVs_cn hi hn))

theorem mx_ldcw (C : Cx K B ph y cc nL ret d mc ms) {idx : Nat} {z : Int} (hd : decode cc pc = .ok (.ldc_w idx, 3)) (hw : Cond.constant y.cls idx (Int32.ofInt z) ∈ BIG) (hi : i32 z) (k : Wx K B Z cs ss S nL M (pc + 3) ls (aI z :: rest)) : Wx K B Z cs ss S nL M pc ls rest := by
  obtain ⟨p, l, e, R, s, m, args, below, meth, c⟩ := K
  intro H locs la hW hS hL hn
  exact lv_ldcw C.1 C.2.1 C.2.2.2.1 (C.2.2.2.2.1 _ hw) hd (k H locs la hW hS hL (nVs_cn hi hn))

theorem mx_ldc2 (C : Cx K B ph y cc nL ret d mc ms) {idx : Nat} {z : Int} (hd : decode cc pc = .ok (.ldc2_w idx, 3)) (hw : Cond.constantLong y.cls idx (Int64.ofInt z) ∈ BIG) (hi : i64 z) (k : Wx K B Z cs ss S nL M (pc + 3) ls (aJ z :: rest)) : Wx K B Z cs ss S nL M pc ls rest := by
  obtain ⟨p, l, e, R, s, m, args, below, meth, c⟩ := K
  intro H locs la hW hS hL hn
  exact lv_ldc2 C.1 C.2.1 C.2.2.2.1 (C.2.2.2.2.1 _ hw) hd (k H locs la hW hS hL (nVs_cn hi hn))

theorem mx_iload_n (C : Cx K B ph y cc nL ret d mc ms) {q : Fin 4} {z : Int} (hd : decode cc pc = .ok (.iload_n q, 1)) (hl : ls[(q : Nat)]? = some (some (aI z))) (k : Wx K B Z cs ss S nL M (pc + 1) ls (aI z :: rest)) : Wx K B Z cs ss S nL M pc ls rest := by
  obtain ⟨p, l, e, R, s, m, args, below, meth, c⟩ := K
  intro H locs la hW hS hL hn
  exact lv_iload_n C.1 C.2.1 hd rfl (hL.2.2.2 _ _ hl).1 (k H locs la hW hS hL (nVs_cn (hL.2.2.2 _ _ hl).2 hn))

theorem mx_iload (C : Cx K B ph y cc nL ret d mc ms) {i : Nat} {z : Int} (hd : decode cc pc = .ok (.iload i, 2)) (hl : ls[i]? = some (some (aI z))) (k : Wx K B Z cs ss S nL M (pc + 2) ls (aI z :: rest)) : Wx K B Z cs ss S nL M pc ls rest := by
  obtain ⟨p, l, e, R, s, m, args, below, meth, c⟩ := K
  intro H locs la hW hS hL hn
  exact lv_iload C.1 C.2.1 hd (hL.2.2.2 _ _ hl).1 (k H locs la hW hS hL (nVs_cn (hL.2.2.2 _ _ hl).2 hn))

theorem mx_lload_n (C : Cx K B ph y cc nL ret d mc ms) {q : Fin 4} {z : Int} (hd : decode cc pc = .ok (.lload_n q, 1)) (hl : ls[(q : Nat)]? = some (some (aJ z))) (k : Wx K B Z cs ss S nL M (pc + 1) ls (aJ z :: rest)) : Wx K B Z cs ss S nL M pc ls rest := by
  obtain ⟨p, l, e, R, s, m, args, below, meth, c⟩ := K
  intro H locs la hW hS hL hn
  exact lv_lload_n C.1 C.2.1 hd rfl (hL.2.2.2 _ _ hl).1 (k H locs la hW hS hL (nVs_cn (hL.2.2.2 _ _ hl).2 hn))

theorem mx_aload_n (C : Cx K B ph y cc nL ret d mc ms) {q : Fin 4} {z : Int} (hd : decode cc pc = .ok (.aload_n q, 1)) (hl : ls[(q : Nat)]? = some (some (aR z))) (k : Wx K B Z cs ss S nL M (pc + 1) ls (aR z :: rest)) : Wx K B Z cs ss S nL M pc ls rest := by
  obtain ⟨p, l, e, R, s, m, args, below, meth, c⟩ := K
  intro H locs la hW hS hL hn
  exact lv_aload_n C.1 C.2.1 hd rfl (hL.2.2.2 _ _ hl).1 (k H locs la hW hS hL (nVs_cn (hL.2.2.2 _ _ hl).2 hn))

theorem mx_aload (C : Cx K B ph y cc nL ret d mc ms) {i : Nat} {z : Int} (hd : decode cc pc = .ok (.aload i, 2)) (hl : ls[i]? = some (some (aR z))) (k : Wx K B Z cs ss S nL M (pc + 2) ls (aR z :: rest)) : Wx K B Z cs ss S nL M pc ls rest := by
  obtain ⟨p, l, e, R, s, m, args, below, meth, c⟩ := K
  intro H locs la hW hS hL hn
  exact lv_aload C.1 C.2.1 hd (hL.2.2.2 _ _ hl).1 (k H locs la hW hS hL (nVs_cn (hL.2.2.2 _ _ hl).2 hn))

theorem mx_fload_n (C : Cx K B ph y cc nL ret d mc ms) {q : Fin 4} {z : Nat} (hd : decode cc pc = .ok (.aload_n q, 1)) (hl : ls[(q : Nat)]? = some (some (aF (z + 1)))) (k : Wx K B Z cs ss S nL M (pc + 1) ls (aF (z + 1) :: rest)) : Wx K B Z cs ss S nL M pc ls rest := by
  obtain ⟨p, l, e, R, s, m, args, below, meth, c⟩ := K
  intro H locs la hW hS hL hn
  exact lv_aload_n C.1 C.2.1 hd rfl (hL.2.2.2 _ _ hl).1 (k H locs la hW hS hL (nVs_cn (hL.2.2.2 _ _ hl).2 hn))

theorem mx_fload (C : Cx K B ph y cc nL ret d mc ms) {i : Nat} {z : Nat} (hd : decode cc pc = .ok (.aload i, 2)) (hl : ls[i]? = some (some (aF (z + 1)))) (k : Wx K B Z cs ss S nL M (pc + 2) ls (aF (z + 1) :: rest)) : Wx K B Z cs ss S nL M pc ls rest := by
  obtain ⟨p, l, e, R, s, m, args, below, meth, c⟩ := K
  intro H locs la hW hS hL hn
  exact lv_aload C.1 C.2.1 hd (hL.2.2.2 _ _ hl).1 (k H locs la hW hS hL (nVs_cn (hL.2.2.2 _ _ hl).2 hn))

theorem mx_istore_n (C : Cx K B ph y cc nL ret d mc ms) {q : Fin 4} {z : Int} {ls' : List (Option AV)} (hd : decode cc pc = .ok (.istore_n q, 1)) (hi : (q : Nat) < nL) (ho : okS ls (q : Nat) = true) (hl : ls.set (q : Nat) (some (aI z)) = ls') (k : Wx K B Z cs ss S nL M (pc + 1) ls' rest) : Wx K B Z cs ss S nL M pc ls (aI z :: rest) := by
  obtain ⟨p, l, e, R, s, m, args, below, meth, c⟩ := K
  intro H locs la hW hS hL hn
  subst hl
  refine lv_istore_n C.1 C.2.1 hd rfl (LV_has hL) hi rfl (fun la' h' => ?_)
  exact k H locs la' hW hS (LV_set (v := aI z) hL (nVs_hd hn) hi ho h') (nVs_tl hn)

theorem mx_istore (C : Cx K B ph y cc nL ret d mc ms) {i : Nat} {z : Int} {ls' : List (Option AV)} (hd : decode cc pc = .ok (.istore i, 2)) (hi : i < nL) (ho : okS ls i = true) (hl : ls.set i (some (aI z)) = ls') (k : Wx K B Z cs ss S nL M (pc + 2) ls' rest) : Wx K B Z cs ss S nL M pc ls (aI z :: rest) := by
  obtain ⟨p, l, e, R, s, m, args, below, meth, c⟩ := K
  intro H locs la hW hS hL hn
  subst hl
  refine lv_istore C.1 C.2.1 hd (LV_has hL) hi rfl (fun la' h' => ?_)
  exact k H locs la' hW hS (LV_set (v := aI z) hL (nVs_hd hn) hi ho h') (nVs_tl hn)

theorem mx_astore_n (C : Cx K B ph y cc nL ret d mc ms) {q : Fin 4} {z : Int} {ls' : List (Option AV)} (hd : decode cc pc = .ok (.astore_n q, 1)) (hi : (q : Nat) < nL) (ho : okS ls (q : Nat) = true) (hl : ls.set (q : Nat) (some (aR z)) = ls') (k : Wx K B Z cs ss S nL M (pc + 1) ls' rest) : Wx K B Z cs ss S nL M pc ls (aR z :: rest) := by
  obtain ⟨p, l, e, R, s, m, args, below, meth, c⟩ := K
  intro H locs la hW hS hL hn
  subst hl
  refine lv_astore_n C.1 C.2.1 hd rfl (LV_has hL) hi rfl (fun la' h' => ?_)
  exact k H locs la' hW hS (LV_set (v := aR z) hL (nVs_hd hn) hi ho h') (nVs_tl hn)

theorem mx_astore (C : Cx K B ph y cc nL ret d mc ms) {i : Nat} {z : Int} {ls' : List (Option AV)} (hd : decode cc pc = .ok (.astore i, 2)) (hi : i < nL) (ho : okS ls i = true) (hl : ls.set i (some (aR z)) = ls') (k : Wx K B Z cs ss S nL M (pc + 2) ls' rest) : Wx K B Z cs ss S nL M pc ls (aR z :: rest) := by
  obtain ⟨p, l, e, R, s, m, args, below, meth, c⟩ := K
  intro H locs la hW hS hL hn
  subst hl
  refine lv_astore C.1 C.2.1 hd (LV_has hL) hi rfl (fun la' h' => ?_)
  exact k H locs la' hW hS (LV_set (v := aR z) hL (nVs_hd hn) hi ho h') (nVs_tl hn)

theorem mx_iinc (C : Cx K B ph y cc nL ret d mc ms) {i : Nat} {n z v : Int} {ls' : List (Option AV)} (hd : decode cc pc = .ok (.iinc i n, 3)) (hg : ls[i]? = some (some (aI z))) (hi : i < nL) (ho : okS ls i = true) (hn0 : i32 n) (hv : w32 (z + n) = v) (hl : ls.set i (some (aI v)) = ls') (k : Wx K B Z cs ss S nL M (pc + 3) ls' rest) : Wx K B Z cs ss S nL M pc ls rest := by
  obtain ⟨p, l, e, R, s, m, args, below, meth, c⟩ := K
  intro H locs la hW hS hL hn
  subst hl
  have hg2 := hL.2.2.2 _ _ hg
  have hm : (i, cV B.1 B.2.2.2.1 (aI z)) ∈ LL B.1 B.2.2.2.1 ls := LL_mem.mpr ⟨_, hg, rfl⟩
  obtain ⟨kk, hkk⟩ := List.getElem?_of_mem hm
  refine lv_iinc (v := Int32.ofInt v) C.1 C.2.1 hd (LV_has hL) (k := kk) hkk (by rw [← hv]; exact o_add hg2.2 hn0) hi rfl (fun la' h' => ?_)
  exact k H locs la' hW hS (LV_set (v := aI v) hL (show i32 v by rw [← hv]; exact w32_in _) hi ho h') hn

theorem mx_iadd (C : Cx K B ph y cc nL ret d mc ms) {a b : Int} (hd : decode cc pc = .ok (.iadd, 1)) (k : Wx K B Z cs ss S nL M (pc + 1) ls (aI (w32 (a + b)) :: rest)) : Wx K B Z cs ss S nL M pc ls (aI b :: aI a :: rest) := by
  obtain ⟨p, l, e, R, s, m, args, below, meth, c⟩ := K
  intro H locs la hW hS hL hn
  refine lv_iadd C.1 C.2.1 hd ?_
  rw [o_add (nVs_hd (nVs_tl hn)) (nVs_hd hn)]
  exact k H locs la hW hS hL (nVs_cn (w32_in _) (nVs_tl (nVs_tl hn)))

theorem mx_isub (C : Cx K B ph y cc nL ret d mc ms) {a b : Int} (hd : decode cc pc = .ok (.isub, 1)) (k : Wx K B Z cs ss S nL M (pc + 1) ls (aI (w32 (a - b)) :: rest)) : Wx K B Z cs ss S nL M pc ls (aI b :: aI a :: rest) := by
  obtain ⟨p, l, e, R, s, m, args, below, meth, c⟩ := K
  intro H locs la hW hS hL hn
  refine lv_isub C.1 C.2.1 hd ?_
  rw [o_sub (nVs_hd (nVs_tl hn)) (nVs_hd hn)]
  exact k H locs la hW hS hL (nVs_cn (w32_in _) (nVs_tl (nVs_tl hn)))

theorem mx_imul (C : Cx K B ph y cc nL ret d mc ms) {a b : Int} (hd : decode cc pc = .ok (.imul, 1)) (k : Wx K B Z cs ss S nL M (pc + 1) ls (aI (w32 (a * b)) :: rest)) : Wx K B Z cs ss S nL M pc ls (aI b :: aI a :: rest) := by
  obtain ⟨p, l, e, R, s, m, args, below, meth, c⟩ := K
  intro H locs la hW hS hL hn
  refine lv_imul C.1 C.2.1 hd ?_
  rw [o_mul (nVs_hd (nVs_tl hn)) (nVs_hd hn)]
  exact k H locs la hW hS hL (nVs_cn (w32_in _) (nVs_tl (nVs_tl hn)))

theorem mx_ineg (C : Cx K B ph y cc nL ret d mc ms) {a : Int} (hd : decode cc pc = .ok (.ineg, 1)) (k : Wx K B Z cs ss S nL M (pc + 1) ls (aI (w32 (-a)) :: rest)) : Wx K B Z cs ss S nL M pc ls (aI a :: rest) := by
  obtain ⟨p, l, e, R, s, m, args, below, meth, c⟩ := K
  intro H locs la hW hS hL hn
  refine lv_ineg C.1 C.2.1 hd ?_
  rw [o_neg (nVs_hd hn)]
  exact k H locs la hW hS hL (nVs_cn (w32_in _) (nVs_tl hn))
theorem mx_idiv (C : Cx K B ph y cc nL ret d mc ms) {a b : Int} (hd : decode cc pc = .ok (.idiv, 1)) (hb : ¬ b = 0) (k : Wx K B Z cs ss S nL M (pc + 1) ls (aI (w32 (a.tdiv b)) :: rest)) : Wx K B Z cs ss S nL M pc ls (aI b :: aI a :: rest) := by
  obtain ⟨p, l, e, R, s, m, args, below, meth, c⟩ := K
  intro H locs la hW hS hL hn
  refine lv_idiv C.1 C.2.1 hd (o_ne (nVs_hd hn) hb) ?_
  rw [o_div (nVs_hd (nVs_tl hn)) (nVs_hd hn)]
  exact k H locs la hW hS hL (nVs_cn (w32_in _) (nVs_tl (nVs_tl hn)))
theorem mx_irem (C : Cx K B ph y cc nL ret d mc ms) {a b : Int} (hd : decode cc pc = .ok (.irem, 1)) (hb : ¬ b = 0) (k : Wx K B Z cs ss S nL M (pc + 1) ls (aI (a.tmod b) :: rest)) : Wx K B Z cs ss S nL M pc ls (aI b :: aI a :: rest) := by
  obtain ⟨p, l, e, R, s, m, args, below, meth, c⟩ := K
  intro H locs la hW hS hL hn
  refine lv_irem C.1 C.2.1 hd (o_ne (nVs_hd hn) hb) ?_
  rw [o_rem (nVs_hd (nVs_tl hn)) (nVs_hd hn) hb]
  exact k H locs la hW hS hL (nVs_cn (i32_rem (nVs_hd (nVs_tl hn)) hb) (nVs_tl (nVs_tl hn)))

theorem mx_ior (C : Cx K B ph y cc nL ret d mc ms) {a b : Int} (hd : decode cc pc = .ok (.ior, 1)) (k : Wx K B Z cs ss S nL M (pc + 1) ls (aI (or32 a b) :: rest)) : Wx K B Z cs ss S nL M pc ls (aI b :: aI a :: rest) := by
  obtain ⟨p, l, e, R, s, m, args, below, meth, c⟩ := K
  intro H locs la hW hS hL hn
  have h := k H locs la hW hS hL (nVs_cn (nT _) (nVs_tl (nVs_tl hn)))
  simp only [List.map_cons, cV, or32, Int32.ofInt_toInt] at h
  exact lv_ior C.1 C.2.1 hd h

theorem mx_iand (C : Cx K B ph y cc nL ret d mc ms) {a b : Int} (hd : decode cc pc = .ok (.iand, 1)) (k : Wx K B Z cs ss S nL M (pc + 1) ls (aI (and32 a b) :: rest)) : Wx K B Z cs ss S nL M pc ls (aI b :: aI a :: rest) := by
  obtain ⟨p, l, e, R, s, m, args, below, meth, c⟩ := K
  intro H locs la hW hS hL hn
  have h := k H locs la hW hS hL (nVs_cn (nT _) (nVs_tl (nVs_tl hn)))
  simp only [List.map_cons, cV, and32, Int32.ofInt_toInt] at h
  exact lv_iand C.1 C.2.1 hd h

theorem mx_ixor (C : Cx K B ph y cc nL ret d mc ms) {a b : Int} (hd : decode cc pc = .ok (.ixor, 1)) (k : Wx K B Z cs ss S nL M (pc + 1) ls (aI (xor32 a b) :: rest)) : Wx K B Z cs ss S nL M pc ls (aI b :: aI a :: rest) := by
  obtain ⟨p, l, e, R, s, m, args, below, meth, c⟩ := K
  intro H locs la hW hS hL hn
  have h := k H locs la hW hS hL (nVs_cn (nT _) (nVs_tl (nVs_tl hn)))
  simp only [List.map_cons, cV, xor32, Int32.ofInt_toInt] at h
  exact lv_ixor C.1 C.2.1 hd h

theorem mx_ishl (C : Cx K B ph y cc nL ret d mc ms) {a b : Int} (hd : decode cc pc = .ok (.ishl, 1)) (k : Wx K B Z cs ss S nL M (pc + 1) ls (aI (shl32 a b) :: rest)) : Wx K B Z cs ss S nL M pc ls (aI b :: aI a :: rest) := by
  obtain ⟨p, l, e, R, s, m, args, below, meth, c⟩ := K
  intro H locs la hW hS hL hn
  have h := k H locs la hW hS hL (nVs_cn (nT _) (nVs_tl (nVs_tl hn)))
  simp only [List.map_cons, cV, shl32, Int32.ofInt_toInt] at h
  exact lv_ishl C.1 C.2.1 hd h

theorem mx_ishr (C : Cx K B ph y cc nL ret d mc ms) {a b : Int} (hd : decode cc pc = .ok (.ishr, 1)) (k : Wx K B Z cs ss S nL M (pc + 1) ls (aI (shr32 a b) :: rest)) : Wx K B Z cs ss S nL M pc ls (aI b :: aI a :: rest) := by
  obtain ⟨p, l, e, R, s, m, args, below, meth, c⟩ := K
  intro H locs la hW hS hL hn
  have h := k H locs la hW hS hL (nVs_cn (nT _) (nVs_tl (nVs_tl hn)))
  simp only [List.map_cons, cV, shr32, Int32.ofInt_toInt] at h
  exact lv_ishr C.1 C.2.1 hd h

theorem mx_iushr (C : Cx K B ph y cc nL ret d mc ms) {a b : Int} (hd : decode cc pc = .ok (.iushr, 1)) (k : Wx K B Z cs ss S nL M (pc + 1) ls (aI (ushr32 a b) :: rest)) : Wx K B Z cs ss S nL M pc ls (aI b :: aI a :: rest) := by
  obtain ⟨p, l, e, R, s, m, args, below, meth, c⟩ := K
  intro H locs la hW hS hL hn
  have h := k H locs la hW hS hL (nVs_cn (nT _) (nVs_tl (nVs_tl hn)))
  simp only [List.map_cons, cV, ushr32, Int32.ofInt_toInt] at h
  exact lv_iushr C.1 C.2.1 hd rfl h

theorem mx_lor (C : Cx K B ph y cc nL ret d mc ms) {a b : Int} (hd : decode cc pc = .ok (.lor, 1)) (k : Wx K B Z cs ss S nL M (pc + 1) ls (aJ (or64 a b) :: rest)) : Wx K B Z cs ss S nL M pc ls (aJ b :: aJ a :: rest) := by
  obtain ⟨p, l, e, R, s, m, args, below, meth, c⟩ := K
  intro H locs la hW hS hL hn
  have h := k H locs la hW hS hL (nVs_cn (nTJ _) (nVs_tl (nVs_tl hn)))
  simp only [List.map_cons, cV, or64, Int64.ofInt_toInt] at h
  exact lv_lor C.1 C.2.1 hd h

theorem mx_land (C : Cx K B ph y cc nL ret d mc ms) {a b : Int} (hd : decode cc pc = .ok (.land, 1)) (k : Wx K B Z cs ss S nL M (pc + 1) ls (aJ (and64 a b) :: rest)) : Wx K B Z cs ss S nL M pc ls (aJ b :: aJ a :: rest) := by
  obtain ⟨p, l, e, R, s, m, args, below, meth, c⟩ := K
  intro H locs la hW hS hL hn
  have h := k H locs la hW hS hL (nVs_cn (nTJ _) (nVs_tl (nVs_tl hn)))
  simp only [List.map_cons, cV, and64, Int64.ofInt_toInt] at h
  exact lv_land C.1 C.2.1 hd h

theorem mx_lshl (C : Cx K B ph y cc nL ret d mc ms) {a b : Int} (hd : decode cc pc = .ok (.lshl, 1)) (k : Wx K B Z cs ss S nL M (pc + 1) ls (aJ (shl64 a b) :: rest)) : Wx K B Z cs ss S nL M pc ls (aI b :: aJ a :: rest) := by
  obtain ⟨p, l, e, R, s, m, args, below, meth, c⟩ := K
  intro H locs la hW hS hL hn
  have h := k H locs la hW hS hL (nVs_cn (nTJ _) (nVs_tl (nVs_tl hn)))
  simp only [List.map_cons, cV, shl64, Int64.ofInt_toInt] at h
  exact lv_lshl C.1 C.2.1 hd rfl h
theorem mx_i2l (C : Cx K B ph y cc nL ret d mc ms) {a : Int} (hd : decode cc pc = .ok (.i2l, 1)) (k : Wx K B Z cs ss S nL M (pc + 1) ls (aJ a :: rest)) : Wx K B Z cs ss S nL M pc ls (aI a :: rest) := by
  obtain ⟨p, l, e, R, s, m, args, below, meth, c⟩ := K
  intro H locs la hW hS hL hn
  exact lv_i2l C.1 C.2.1 hd (o_i2l (nVs_hd hn)) (k H locs la hW hS hL (nVs_cn (i64_of (nVs_hd hn)) (nVs_tl hn)))
theorem mx_l2i (C : Cx K B ph y cc nL ret d mc ms) {a : Int} (hd : decode cc pc = .ok (.l2i, 1)) (k : Wx K B Z cs ss S nL M (pc + 1) ls (aI (w32 a) :: rest)) : Wx K B Z cs ss S nL M pc ls (aJ a :: rest) := by
  obtain ⟨p, l, e, R, s, m, args, below, meth, c⟩ := K
  intro H locs la hW hS hL hn
  exact lv_l2i C.1 C.2.1 hd (o_l2i (nVs_hd hn)) (k H locs la hW hS hL (nVs_cn (w32_in _) (nVs_tl hn)))
theorem mx_i2b (C : Cx K B ph y cc nL ret d mc ms) {a : Int} (hd : decode cc pc = .ok (.i2b, 1)) (k : Wx K B Z cs ss S nL M (pc + 1) ls (aI (w8 a) :: rest)) : Wx K B Z cs ss S nL M pc ls (aI a :: rest) := by
  obtain ⟨p, l, e, R, s, m, args, below, meth, c⟩ := K
  intro H locs la hW hS hL hn
  exact lv_i2b C.1 C.2.1 hd (o_i2b (nVs_hd hn)) (k H locs la hW hS hL (nVs_cn (i32_w8 _) (nVs_tl hn)))
theorem mx_i2s (C : Cx K B ph y cc nL ret d mc ms) {a : Int} (hd : decode cc pc = .ok (.i2s, 1)) (k : Wx K B Z cs ss S nL M (pc + 1) ls (aI (w16 a) :: rest)) : Wx K B Z cs ss S nL M pc ls (aI a :: rest) := by
  obtain ⟨p, l, e, R, s, m, args, below, meth, c⟩ := K
  intro H locs la hW hS hL hn
  exact lv_i2s C.1 C.2.1 hd (o_i2s (nVs_hd hn)) (k H locs la hW hS hL (nVs_cn (i32_w16 _) (nVs_tl hn)))
theorem mx_lcmp (C : Cx K B ph y cc nL ret d mc ms) {a b : Int} (hd : decode cc pc = .ok (.lcmp, 1)) (k : Wx K B Z cs ss S nL M (pc + 1) ls (aI (cmp64 a b) :: rest)) : Wx K B Z cs ss S nL M pc ls (aJ b :: aJ a :: rest) := by
  obtain ⟨p, l, e, R, s, m, args, below, meth, c⟩ := K
  intro H locs la hW hS hL hn
  refine W.lcmp C.1 C.2.1 hd ?_
  rw [o_lcmp (nVs_hd (nVs_tl hn)) (nVs_hd hn)]
  exact k H locs la hW hS hL (nVs_cn (i32_cmp a b) (nVs_tl (nVs_tl hn)))
theorem mx_dup (C : Cx K B ph y cc nL ret d mc ms) {v : AV} (hd : decode cc pc = .ok (.dup, 1)) (hv : isJ v = false) (k : Wx K B Z cs ss S nL M (pc + 1) ls (v :: v :: rest)) : Wx K B Z cs ss S nL M pc ls (v :: rest) := by
  obtain ⟨p, l, e, R, s, m, args, below, meth, c⟩ := K
  intro H locs la hW hS hL hn
  exact lv_dup C.1 C.2.1 hd (by rw [cV_cat, hv]; rfl) (k H locs la hW hS hL (nVs_cn (nVs_hd hn) hn))
theorem mx_dup2 (C : Cx K B ph y cc nL ret d mc ms) {v u : AV} (hd : decode cc pc = .ok (.dup2, 1)) (hv : isJ v = false) (hu : isJ u = false) (k : Wx K B Z cs ss S nL M (pc + 1) ls (v :: u :: v :: u :: rest)) : Wx K B Z cs ss S nL M pc ls (v :: u :: rest) := by
  obtain ⟨p, l, e, R, s, m, args, below, meth, c⟩ := K
  intro H locs la hW hS hL hn
  exact lv_dup2_11 C.1 C.2.1 hd (by rw [cV_cat, hv]; rfl) (by rw [cV_cat, hu]; rfl) (k H locs la hW hS hL (nVs_cn (nVs_hd hn) (nVs_cn (nVs_hd (nVs_tl hn)) hn)))
theorem mx_pop (C : Cx K B ph y cc nL ret d mc ms) {v : AV} (hd : decode cc pc = .ok (.pop, 1)) (hv : isJ v = false) (k : Wx K B Z cs ss S nL M (pc + 1) ls rest) : Wx K B Z cs ss S nL M pc ls (v :: rest) := by
  obtain ⟨p, l, e, R, s, m, args, below, meth, c⟩ := K
  intro H locs la hW hS hL hn
  exact lv_pop C.1 C.2.1 hd (by rw [cV_cat, hv]; rfl) (k H locs la hW hS hL (nVs_tl hn))
theorem mx_goto (C : Cx K B ph y cc nL ret d mc ms) {off : Int} {tgt : Nat} (hd : decode cc pc = .ok (.goto off, 3)) (ht : (pc : Int) + off = (tgt : Int)) (k : Wx K B Z cs ss S nL M tgt ls rest) : Wx K B Z cs ss S nL M pc ls rest := by
  obtain ⟨p, l, e, R, s, m, args, below, meth, c⟩ := K
  intro H locs la hW hS hL hn
  exact lv_goto C.1 C.2.1 hd ht (k H locs la hW hS hL hn)

theorem mx_if_eq (C : Cx K B ph y cc nL ret d mc ms) {a : Int} {off : Int} {tgt : Nat} (hd : decode cc pc = .ok (.ifCond .eq off, 3)) (ht : (pc : Int) + off = (tgt : Int)) (kt : a = 0 → Wx K B Z cs ss S nL M tgt ls rest) (kf : ¬ (a = 0) → Wx K B Z cs ss S nL M (pc + 3) ls rest) : Wx K B Z cs ss S nL M pc ls (aI a :: rest) := by
  obtain ⟨p, l, e, R, s, m, args, below, meth, c⟩ := K
  intro H locs la hW hS hL hn
  exact lv_if_eq C.1 C.2.1 hd ht (fun h => kt ((o_eq (nVs_hd hn) i32_0).mp h) H locs la hW hS hL (nVs_tl hn)) (fun h => kf (fun q => h ((o_eq (nVs_hd hn) i32_0).mpr q)) H locs la hW hS hL (nVs_tl hn))

theorem mx_icmp_eq (C : Cx K B ph y cc nL ret d mc ms) {a b : Int} {off : Int} {tgt : Nat} (hd : decode cc pc = .ok (.if_icmp .eq off, 3)) (ht : (pc : Int) + off = (tgt : Int)) (kt : a = b → Wx K B Z cs ss S nL M tgt ls rest) (kf : ¬ (a = b) → Wx K B Z cs ss S nL M (pc + 3) ls rest) : Wx K B Z cs ss S nL M pc ls (aI b :: aI a :: rest) := by
  obtain ⟨p, l, e, R, s, m, args, below, meth, c⟩ := K
  intro H locs la hW hS hL hn
  exact lv_icmp_eq C.1 C.2.1 hd ht (fun h => kt ((o_eq (nVs_hd (nVs_tl hn)) (nVs_hd hn)).mp h) H locs la hW hS hL (nVs_tl (nVs_tl hn))) (fun h => kf (fun q => h ((o_eq (nVs_hd (nVs_tl hn)) (nVs_hd hn)).mpr q)) H locs la hW hS hL (nVs_tl (nVs_tl hn)))

theorem mx_if_ne (C : Cx K B ph y cc nL ret d mc ms) {a : Int} {off : Int} {tgt : Nat} (hd : decode cc pc = .ok (.ifCond .ne off, 3)) (ht : (pc : Int) + off = (tgt : Int)) (kt : ¬ a = 0 → Wx K B Z cs ss S nL M tgt ls rest) (kf : a = 0 → Wx K B Z cs ss S nL M (pc + 3) ls rest) : Wx K B Z cs ss S nL M pc ls (aI a :: rest) := by
  obtain ⟨p, l, e, R, s, m, args, below, meth, c⟩ := K
  intro H locs la hW hS hL hn
  exact lv_if_ne C.1 C.2.1 hd ht (fun h => kt (fun q => h ((o_eq (nVs_hd hn) i32_0).mpr q)) H locs la hW hS hL (nVs_tl hn)) (fun h => kf ((o_eq (nVs_hd hn) i32_0).mp h) H locs la hW hS hL (nVs_tl hn))

theorem mx_icmp_ne (C : Cx K B ph y cc nL ret d mc ms) {a b : Int} {off : Int} {tgt : Nat} (hd : decode cc pc = .ok (.if_icmp .ne off, 3)) (ht : (pc : Int) + off = (tgt : Int)) (kt : ¬ a = b → Wx K B Z cs ss S nL M tgt ls rest) (kf : a = b → Wx K B Z cs ss S nL M (pc + 3) ls rest) : Wx K B Z cs ss S nL M pc ls (aI b :: aI a :: rest) := by
  obtain ⟨p, l, e, R, s, m, args, below, meth, c⟩ := K
  intro H locs la hW hS hL hn
  exact lv_icmp_ne C.1 C.2.1 hd ht (fun h => kt (fun q => h ((o_eq (nVs_hd (nVs_tl hn)) (nVs_hd hn)).mpr q)) H locs la hW hS hL (nVs_tl (nVs_tl hn))) (fun h => kf ((o_eq (nVs_hd (nVs_tl hn)) (nVs_hd hn)).mp h) H locs la hW hS hL (nVs_tl (nVs_tl hn)))

theorem mx_if_lt (C : Cx K B ph y cc nL ret d mc ms) {a : Int} {off : Int} {tgt : Nat} (hd : decode cc pc = .ok (.ifCond .lt off, 3)) (ht : (pc : Int) + off = (tgt : Int)) (kt : a < 0 → Wx K B Z cs ss S nL M tgt ls rest) (kf : ¬ (a < 0) → Wx K B Z cs ss S nL M (pc + 3) ls rest) : Wx K B Z cs ss S nL M pc ls (aI a :: rest) := by
  obtain ⟨p, l, e, R, s, m, args, below, meth, c⟩ := K
  intro H locs la hW hS hL hn
  exact lv_if_lt C.1 C.2.1 hd ht (fun h => kt ((o_lt (nVs_hd hn) i32_0).mp h) H locs la hW hS hL (nVs_tl hn)) (fun h => kf (fun q => h ((o_lt (nVs_hd hn) i32_0).mpr q)) H locs la hW hS hL (nVs_tl hn))

theorem mx_icmp_lt (C : Cx K B ph y cc nL ret d mc ms) {a b : Int} {off : Int} {tgt : Nat} (hd : decode cc pc = .ok (.if_icmp .lt off, 3)) (ht : (pc : Int) + off = (tgt : Int)) (kt : a < b → Wx K B Z cs ss S nL M tgt ls rest) (kf : ¬ (a < b) → Wx K B Z cs ss S nL M (pc + 3) ls rest) : Wx K B Z cs ss S nL M pc ls (aI b :: aI a :: rest) := by
  obtain ⟨p, l, e, R, s, m, args, below, meth, c⟩ := K
  intro H locs la hW hS hL hn
  exact lv_icmp_lt C.1 C.2.1 hd ht (fun h => kt ((o_lt (nVs_hd (nVs_tl hn)) (nVs_hd hn)).mp h) H locs la hW hS hL (nVs_tl (nVs_tl hn))) (fun h => kf (fun q => h ((o_lt (nVs_hd (nVs_tl hn)) (nVs_hd hn)).mpr q)) H locs la hW hS hL (nVs_tl (nVs_tl hn)))

theorem mx_if_le (C : Cx K B ph y cc nL ret d mc ms) {a : Int} {off : Int} {tgt : Nat} (hd : decode cc pc = .ok (.ifCond .le off, 3)) (ht : (pc : Int) + off = (tgt : Int)) (kt : a ≤ 0 → Wx K B Z cs ss S nL M tgt ls rest) (kf : ¬ (a ≤ 0) → Wx K B Z cs ss S nL M (pc + 3) ls rest) : Wx K B Z cs ss S nL M pc ls (aI a :: rest) := by
  obtain ⟨p, l, e, R, s, m, args, below, meth, c⟩ := K
  intro H locs la hW hS hL hn
  exact lv_if_le C.1 C.2.1 hd ht (fun h => kt ((o_le (nVs_hd hn) i32_0).mp h) H locs la hW hS hL (nVs_tl hn)) (fun h => kf (fun q => h ((o_le (nVs_hd hn) i32_0).mpr q)) H locs la hW hS hL (nVs_tl hn))

theorem mx_icmp_le (C : Cx K B ph y cc nL ret d mc ms) {a b : Int} {off : Int} {tgt : Nat} (hd : decode cc pc = .ok (.if_icmp .le off, 3)) (ht : (pc : Int) + off = (tgt : Int)) (kt : a ≤ b → Wx K B Z cs ss S nL M tgt ls rest) (kf : ¬ (a ≤ b) → Wx K B Z cs ss S nL M (pc + 3) ls rest) : Wx K B Z cs ss S nL M pc ls (aI b :: aI a :: rest) := by
  obtain ⟨p, l, e, R, s, m, args, below, meth, c⟩ := K
  intro H locs la hW hS hL hn
  exact lv_icmp_le C.1 C.2.1 hd ht (fun h => kt ((o_le (nVs_hd (nVs_tl hn)) (nVs_hd hn)).mp h) H locs la hW hS hL (nVs_tl (nVs_tl hn))) (fun h => kf (fun q => h ((o_le (nVs_hd (nVs_tl hn)) (nVs_hd hn)).mpr q)) H locs la hW hS hL (nVs_tl (nVs_tl hn)))

theorem mx_if_ge (C : Cx K B ph y cc nL ret d mc ms) {a : Int} {off : Int} {tgt : Nat} (hd : decode cc pc = .ok (.ifCond .ge off, 3)) (ht : (pc : Int) + off = (tgt : Int)) (kt : 0 ≤ a → Wx K B Z cs ss S nL M tgt ls rest) (kf : ¬ (0 ≤ a) → Wx K B Z cs ss S nL M (pc + 3) ls rest) : Wx K B Z cs ss S nL M pc ls (aI a :: rest) := by
  obtain ⟨p, l, e, R, s, m, args, below, meth, c⟩ := K
  intro H locs la hW hS hL hn
  exact lv_if_ge C.1 C.2.1 hd ht (fun h => kt ((o_le i32_0 (nVs_hd hn)).mp h) H locs la hW hS hL (nVs_tl hn)) (fun h => kf (fun q => h ((o_le i32_0 (nVs_hd hn)).mpr q)) H locs la hW hS hL (nVs_tl hn))

theorem mx_icmp_ge (C : Cx K B ph y cc nL ret d mc ms) {a b : Int} {off : Int} {tgt : Nat} (hd : decode cc pc = .ok (.if_icmp .ge off, 3)) (ht : (pc : Int) + off = (tgt : Int)) (kt : b ≤ a → Wx K B Z cs ss S nL M tgt ls rest) (kf : ¬ (b ≤ a) → Wx K B Z cs ss S nL M (pc + 3) ls rest) : Wx K B Z cs ss S nL M pc ls (aI b :: aI a :: rest) := by
  obtain ⟨p, l, e, R, s, m, args, below, meth, c⟩ := K
  intro H locs la hW hS hL hn
  exact lv_icmp_ge C.1 C.2.1 hd ht (fun h => kt ((o_le (nVs_hd hn) (nVs_hd (nVs_tl hn))).mp h) H locs la hW hS hL (nVs_tl (nVs_tl hn))) (fun h => kf (fun q => h ((o_le (nVs_hd hn) (nVs_hd (nVs_tl hn))).mpr q)) H locs la hW hS hL (nVs_tl (nVs_tl hn)))

theorem mx_if_gt (C : Cx K B ph y cc nL ret d mc ms) {a : Int} {off : Int} {tgt : Nat} (hd : decode cc pc = .ok (.ifCond .gt off, 3)) (ht : (pc : Int) + off = (tgt : Int)) (kt : 0 < a → Wx K B Z cs ss S nL M tgt ls rest) (kf : ¬ (0 < a) → Wx K B Z cs ss S nL M (pc + 3) ls rest) : Wx K B Z cs ss S nL M pc ls (aI a :: rest) := by
  obtain ⟨p, l, e, R, s, m, args, below, meth, c⟩ := K
  intro H locs la hW hS hL hn
  exact lv_if_gt C.1 C.2.1 hd ht (fun h => kt ((o_lt i32_0 (nVs_hd hn)).mp h) H locs la hW hS hL (nVs_tl hn)) (fun h => kf (fun q => h ((o_lt i32_0 (nVs_hd hn)).mpr q)) H locs la hW hS hL (nVs_tl hn))

theorem mx_icmp_gt (C : Cx K B ph y cc nL ret d mc ms) {a b : Int} {off : Int} {tgt : Nat} (hd : decode cc pc = .ok (.if_icmp .gt off, 3)) (ht : (pc : Int) + off = (tgt : Int)) (kt : b < a → Wx K B Z cs ss S nL M tgt ls rest) (kf : ¬ (b < a) → Wx K B Z cs ss S nL M (pc + 3) ls rest) : Wx K B Z cs ss S nL M pc ls (aI b :: aI a :: rest) := by
  obtain ⟨p, l, e, R, s, m, args, below, meth, c⟩ := K
  intro H locs la hW hS hL hn
  exact lv_icmp_gt C.1 C.2.1 hd ht (fun h => kt ((o_lt (nVs_hd hn) (nVs_hd (nVs_tl hn))).mp h) H locs la hW hS hL (nVs_tl (nVs_tl hn))) (fun h => kf (fun q => h ((o_lt (nVs_hd hn) (nVs_hd (nVs_tl hn))).mpr q)) H locs la hW hS hL (nVs_tl (nVs_tl hn)))

theorem mx_tsw (C : Cx K B ph y cc nL ret d mc ms) {a : Int} {dflt lo hi : Int} {offs : Array Int} {len : Nat} (tgt : Int → Nat) (hd : decode cc pc = .ok (.tableswitch dflt lo hi offs, len)) (ho : (a < lo ∨ hi < a) → (pc : Int) + dflt = (tgt a : Int)) (hj : ¬ a < lo → ¬ hi < a → ∃ off, offs[(a - lo).toNat]? = some off ∧ (pc : Int) + off = (tgt a : Int)) (k : Wx K B Z cs ss S nL M (tgt a) ls rest) : Wx K B Z cs ss S nL M pc ls (aI a :: rest) := by
  obtain ⟨p, l, e, R, s, m, args, below, meth, c⟩ := K
  intro H locs la hW hS hL hn
  have e := tI (nVs_hd hn)
  by_cases h : a < lo ∨ hi < a
  · exact lv_tableOut C.1 C.2.1 hd (by rw [e]; exact h) (ho h) (k H locs la hW hS hL (nVs_tl hn))
  · obtain ⟨off, h1, h2⟩ := hj (fun q => h (Or.inl q)) (fun q => h (Or.inr q))
    exact lv_tableIn C.1 C.2.1 hd (by rw [e]; exact fun q => h (Or.inl q)) (by rw [e]; exact fun q => h (Or.inr q)) (by rw [e]; exact h1) h2 (k H locs la hW hS hL (nVs_tl hn))
theorem mx_lsw (C : Cx K B ph y cc nL ret d mc ms) {a dflt off : Int} {ps : Array (Int × Int)} {len tgt : Nat} (hd : decode cc pc = .ok (.lookupswitch dflt ps, len)) (hp : (ps.toList.zip (ps.toList.drop 1)).all (fun (a, next) => a.1 < next.1) = true) (ho : Op.lookupswitch.offset ps.toList dflt a = off) (ht : (pc : Int) + off = (tgt : Int)) (k : Wx K B Z cs ss S nL M tgt ls rest) : Wx K B Z cs ss S nL M pc ls (aI a :: rest) := by
  obtain ⟨p, l, e, R, s, m, args, below, meth, c⟩ := K
  intro H locs la hW hS hL hn
  exact lv_lookup C.1 C.2.1 hd hp (by rw [tI (nVs_hd hn)]; exact ho) ht (k H locs la hW hS hL (nVs_tl hn))

end MX
