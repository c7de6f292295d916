/-! the rules that look into the world, and change it -/
theorem WR_set {B : BX} {S : List Shp} {M M' : Mem} {H H1 : Heap} {o : Int} {sh : Shp} (h : WR B S M H) (hs : shp S o = some sh) (he : va_at B.2.1 vwCl (B.1 + o.toNat, cellE B.1 B.2.2.1 sh (M' o)) H1) (hM : ∀ j, j ≠ o → M' j = M j) (z : H1.size = H.size) (oq : ∀ q : Nat, q ≠ B.1 + o.toNat → H1[q]? = H[q]?) (hN : Nrm S M') : WR B S M' H1 := by
  refine ⟨?_, fun hp => by rw [z]; exact h.2.1 hp, hN⟩
  have hh := h.1.set (wld_D B.1 B.2.2.1 S M) (wld_at hs) he oq
  rwa [wld_set hs rfl hM] at hh
/-- a class of ours: its place among the classes, its fields' words, their types -/
def CI (c : Nat) (C : String) (T : u_T) : Prop := vwCl[c]? = some (C, T, nFl c) ∧ (∀ w ∈ u_ws C T (nFl c), w ∈ BIG) ∧ (∀ k, k < nFl c → parseFieldDescriptor (T k).2.2.1 = some (tyFl c k)) ∧ ∀ a, a < nFl c → ∀ b, b < nFl c → a ≠ b → (T a).2.1 ≠ (T b).2.1
theorem ci_big {ws : List Cond} (h : ws.all (fun w => decide (w ∈ lw_tbl) && goodWord w) = true) : ∀ w ∈ ws, w ∈ BIG := fun w hw => by
  have := List.all_eq_true.mp h w hw
  simp only [Bool.and_eq_true, decide_eq_true_eq] at this
  exact List.mem_filter.mpr this
theorem ci_0 : CI 0 RX0 TX0 := ⟨rfl, ci_big (by decide +kernel), tyX0_ok, nmX0⟩
theorem ci_1 : CI 1 RX1 TX1 := ⟨rfl, ci_big (by decide +kernel), tyX1_ok, nmX1⟩
theorem ci_2 : CI 2 RX2 TX2 := ⟨rfl, ci_big (by decide +kernel), tyX2_ok, nmX2⟩
theorem ci_3 : CI 3 RX3 TX3 := ⟨rfl, ci_big (by decide +kernel), tyX3_ok, nmX3⟩
theorem ci_4 : CI 4 RX4 TX4 := ⟨rfl, ci_big (by decide +kernel), tyX4_ok, nmX4⟩
theorem ci_5 : CI 5 RX5 TX5 := ⟨rfl, ci_big (by decide +kernel), tyX5_ok, nmX5⟩
theorem ci_6 : CI 6 RX6 TX6 := ⟨rfl, ci_big (by decide +kernel), tyX6_ok, nmX6⟩
theorem ci_7 : CI 7 RX7 TX7 := ⟨rfl, ci_big (by decide +kernel), tyX7_ok, nmX7⟩
theorem ci_8 : CI 8 RX8 TX8 := ⟨rfl, ci_big (by decide +kernel), tyX8_ok, nmX8⟩
section MXH
variable {K : KX} {B : BX} {ph : Bool} {Z : State → Prop} {cs ss : Nat} {S : List Shp} {nL : Nat} {M : Mem} {pc : Nat} {ls : List (Option AV)} {rest : List AV} {y : MethodName} {cc : ByteArray} {ret : Option FieldType} {d mc ms : Nat}
theorem cx_K (C : Cx K B ph y cc nL ret d mc ms) : va_K B.2.1 vwCl (tysL B.2.2.1) K.2.2.2.2.1 := C.2.2.2.2.2.1
theorem cx_F (C : Cx K B ph y cc nL ret d mc ms) : FO B K.2.2.2.2.1 := C.2.2.2.2.2.2.1
theorem idx_nat {i : Int} (h0 : 0 ≤ i) : ((i.toNat : Nat) : Int) = i := by omega
theorem ev_i {M : Mem} {o i : Int} (hi : i32 i) (h0 : 0 ≤ i) : (fun k : Nat => Int32.ofInt (M o (k : Int))) (Int32.ofInt i).toNatClampNeg = Int32.ofInt (M o i) := by
  show Int32.ofInt (M o (((Int32.ofInt i).toNatClampNeg : Nat) : Int)) = _
  rw [o_cl hi h0, idx_nat h0]
theorem ev_l {M : Mem} {o i : Int} (hi : i32 i) (h0 : 0 ≤ i) : (fun k : Nat => Int64.ofInt (M o (k : Int))) (Int32.ofInt i).toNatClampNeg = Int64.ofInt (M o i) := by
  show Int64.ofInt (M o (((Int32.ofInt i).toNatClampNeg : Nat) : Int)) = _
  rw [o_cl hi h0, idx_nat h0]
theorem mx_iald (C : Cx K B ph y cc nL ret d mc ms) {o i : Int} {n : Nat} (hd : decode cc pc = .ok (.iaload, 1)) (hs : shp S o = some (0, n)) (h0 : 0 ≤ i) (h1 : i < n) (k : Wx K B Z cs ss S nL M (pc + 1) ls (aI (M o i) :: rest)) : Wx K B Z cs ss S nL M pc ls (aI i :: aR o :: rest) := by
  obtain ⟨p, l, e, R, s, m, args, below, meth, c⟩ := K
  intro H locs la hW hS hL hn
  have hi : i32 i := nVs_hd hn
  refine va_iald (n := n) (f := fun k => Int32.ofInt (M o (k : Int))) C.1 C.2.1 (cx_K C) hW.1 o.toNat 0 (by rw [wld_at hs]; rfl) rfl (o_in hi h0 h1) hd ?_
  exact W.eq (congrArg (fun v => F0 m (pc + 1) la (Value.int v :: rest.map (cV B.1 B.2.2.2.1))) (ev_i hi h0)) (k H locs la hW hS hL (nVs_cn ((hW.2.2 o i _ hs).2.1 (by intro q; cases q)) (nVs_tl (nVs_tl hn))))
theorem mx_bald (C : Cx K B ph y cc nL ret d mc ms) {o i : Int} {n : Nat} (hd : decode cc pc = .ok (.baload, 1)) (hs : shp S o = some (1, n)) (h0 : 0 ≤ i) (h1 : i < n) (k : Wx K B Z cs ss S nL M (pc + 1) ls (aI (M o i) :: rest)) : Wx K B Z cs ss S nL M pc ls (aI i :: aR o :: rest) := by
  obtain ⟨p, l, e, R, s, m, args, below, meth, c⟩ := K
  intro H locs la hW hS hL hn
  have hi : i32 i := nVs_hd hn
  refine va_bald (n := n) (f := fun k => Int32.ofInt (M o (k : Int))) C.1 C.2.1 (cx_K C) hW.1 o.toNat 1 (by rw [wld_at hs]; rfl) rfl (o_in hi h0 h1) hd ?_
  exact W.eq (congrArg (fun v => F0 m (pc + 1) la (Value.int v :: rest.map (cV B.1 B.2.2.2.1))) (ev_i hi h0)) (k H locs la hW hS hL (nVs_cn ((hW.2.2 o i _ hs).2.1 (by intro q; cases q)) (nVs_tl (nVs_tl hn))))
theorem mx_zald (C : Cx K B ph y cc nL ret d mc ms) {o i : Int} {n : Nat} (hd : decode cc pc = .ok (.baload, 1)) (hs : shp S o = some (2, n)) (h0 : 0 ≤ i) (h1 : i < n) (k : (M o i = 0 ∨ M o i = 1) → Wx K B Z cs ss S nL M (pc + 1) ls (aI (M o i) :: rest)) : Wx K B Z cs ss S nL M pc ls (aI i :: aR o :: rest) := by
  obtain ⟨p, l, e, R, s, m, args, below, meth, c⟩ := K
  intro H locs la hW hS hL hn
  have hi : i32 i := nVs_hd hn
  refine va_zald (n := n) (f := fun k => Int32.ofInt (M o (k : Int))) C.1 C.2.1 (cx_K C) hW.1 o.toNat 2 (by rw [wld_at hs]; rfl) rfl (o_in hi h0 h1) hd ?_
  exact W.eq (congrArg (fun v => F0 m (pc + 1) la (Value.int v :: rest.map (cV B.1 B.2.2.2.1))) (ev_i hi h0)) (k ((hW.2.2 o i _ hs).2.2 rfl) H locs la hW hS hL (nVs_cn ((hW.2.2 o i _ hs).2.1 (by intro q; cases q)) (nVs_tl (nVs_tl hn))))
theorem mx_lald (C : Cx K B ph y cc nL ret d mc ms) {o i : Int} {n : Nat} (hd : decode cc pc = .ok (.laload, 1)) (hs : shp S o = some (3, n)) (h0 : 0 ≤ i) (h1 : i < n) (k : Wx K B Z cs ss S nL M (pc + 1) ls (aJ (M o i) :: rest)) : Wx K B Z cs ss S nL M pc ls (aI i :: aR o :: rest) := by
  obtain ⟨p, l, e, R, s, m, args, below, meth, c⟩ := K
  intro H locs la hW hS hL hn
  have hi : i32 i := nVs_hd hn
  refine va_lald (n := n) (f := fun k => Int64.ofInt (M o (k : Int))) C.1 C.2.1 (cx_K C) hW.1 o.toNat 3 (by rw [wld_at hs]; rfl) rfl (o_in hi h0 h1) hd ?_
  exact W.eq (congrArg (fun v => F0 m (pc + 1) la (Value.long v :: rest.map (cV B.1 B.2.2.2.1))) (ev_l hi h0)) (k H locs la hW hS hL (nVs_cn ((hW.2.2 o i _ hs).1 rfl) (nVs_tl (nVs_tl hn))))
theorem mx_aald (C : Cx K B ph y cc nL ret d mc ms) {o i v : Int} {n q : Nat} (hd : decode cc pc = .ok (.aaload, 1)) (hs : shp S o = some (q, n)) (hq : q = 4 ∨ q = 5) (h0 : 0 ≤ i) (h1 : i < n) (hv : M o i = v) (hv0 : 0 ≤ v) (k : Wx K B Z cs ss S nL M (pc + 1) ls (aR v :: rest)) : Wx K B Z cs ss S nL M pc ls (aI i :: aR o :: rest) := by
  obtain ⟨p, l, e, R, s, m, args, below, meth, c⟩ := K
  intro H locs la hW hS hL hn
  have hi : i32 i := nVs_hd hn
  have ev : va_rf ((fun k : Nat => if M o (k : Int) < 0 then none else some (B.1 + (M o (k : Int)).toNat)) (Int32.ofInt i).toNatClampNeg) = .ref (B.1 + v.toNat) := by
    show va_rf (if M o (((Int32.ofInt i).toNatClampNeg : Nat) : Int) < 0 then none else some (B.1 + (M o (((Int32.ofInt i).toNatClampNeg : Nat) : Int)).toNat)) = _
    rw [o_cl hi h0, idx_nat h0, hv, if_neg (by omega)]
    rfl
  rcases hq with rfl | rfl
  · refine va_aldq (C := RX3) (n := n) (f := fun k => if M o (k : Int) < 0 then none else some (B.1 + (M o (k : Int)).toNat)) C.1 C.2.1 (cx_K C) hW.1 o.toNat 4 (by rw [wld_at hs]; rfl) rfl (o_in hi h0 h1) hd ?_
    exact W.eq (congrArg (fun v => F0 m (pc + 1) la (v :: rest.map (cV B.1 B.2.2.2.1))) ev) (k H locs la hW hS hL (nVs_cn hv0 (nVs_tl (nVs_tl hn))))
  · refine va_aldq (C := RX4) (n := n) (f := fun k => if M o (k : Int) < 0 then none else some (B.1 + (M o (k : Int)).toNat)) C.1 C.2.1 (cx_K C) hW.1 o.toNat 5 (by rw [wld_at hs]; rfl) rfl (o_in hi h0 h1) hd ?_
    exact W.eq (congrArg (fun v => F0 m (pc + 1) la (v :: rest.map (cV B.1 B.2.2.2.1))) ev) (k H locs la hW hS hL (nVs_cn hv0 (nVs_tl (nVs_tl hn))))
theorem mx_alen (C : Cx K B ph y cc nL ret d mc ms) {o : Int} {n q : Nat} (hd : decode cc pc = .ok (.arraylength, 1)) (hs : shp S o = some (q, n)) (hq : q < 3) (hn0 : n < 2147483648) (k : Wx K B Z cs ss S nL M (pc + 1) ls (aI (n : Int) :: rest)) : Wx K B Z cs ss S nL M pc ls (aR o :: rest) := by
  obtain ⟨p, l, e, R, s, m, args, below, meth, c⟩ := K
  intro H locs la hW hS hL hn
  have hh := k H locs la hW hS hL (nVs_cn (show i32 (n : Int) by unfold i32; omega) (nVs_tl hn))
  rcases (by omega : q = 0 ∨ q = 1 ∨ q = 2) with rfl | rfl | rfl
  · exact va_alen (x := (n, .inl (fun k => Int32.ofInt (M o (k : Int))))) C.1 C.2.1 (cx_K C) hW.1 o.toNat 0 (by rw [wld_at hs]; rfl) rfl (by show Int32.ofNat n = Int32.ofInt (n : Int); rw [Int32.ofInt_eq_ofNat]) hd hh
  · exact va_alen (x := (n, .inl (fun k => Int32.ofInt (M o (k : Int))))) C.1 C.2.1 (cx_K C) hW.1 o.toNat 1 (by rw [wld_at hs]; rfl) rfl (by show Int32.ofNat n = Int32.ofInt (n : Int); rw [Int32.ofInt_eq_ofNat]) hd hh
  · exact va_alen (x := (n, .inl (fun k => Int32.ofInt (M o (k : Int))))) C.1 C.2.1 (cx_K C) hW.1 o.toNat 2 (by rw [wld_at hs]; rfl) rfl (by show Int32.ofNat n = Int32.ofInt (n : Int); rw [Int32.ofInt_eq_ofNat]) hd hh
theorem cellI_st {b : Nat} {cA : Nat → ClassId} {n q : Nat} {M : Mem} {o i z : Int} (hq : q < 3) (hi : i32 i) (h0 : 0 ≤ i) : cellE b cA (q, n) (stM M o i z o) = .inl (cA q, n, .inl (upd (fun k => Int32.ofInt (M o (k : Int))) (Int32.ofInt i).toNatClampNeg (Int32.ofInt z))) := by
  unfold cellE
  rw [if_pos hq, stM_self, o_cl hi h0]
  congr 4
  funext k
  show Int32.ofInt (if (k : Int) = i then z else M o k) = if k = i.toNat then Int32.ofInt z else Int32.ofInt (M o k)
  by_cases hk : k = i.toNat
  · rw [if_pos hk, if_pos (by omega)]
  · rw [if_neg hk, if_neg (by omega)]
theorem cellL_st {b : Nat} {cA : Nat → ClassId} {n : Nat} {M : Mem} {o i z : Int} (hi : i32 i) (h0 : 0 ≤ i) : cellE b cA (3, n) (stM M o i z o) = .inl (cA 3, n, .inr (.inl (vp_updL (fun k => Int64.ofInt (M o (k : Int))) (Int32.ofInt i).toNatClampNeg (Int64.ofInt z)))) := by
  unfold cellE
  rw [if_neg (show ¬ (3 : Nat) < 3 by decide), if_pos rfl, stM_self, o_cl hi h0]
  congr 5
  funext k
  show Int64.ofInt (if (k : Int) = i then z else M o k) = if k = i.toNat then Int64.ofInt z else Int64.ofInt (M o k)
  by_cases hk : k = i.toNat
  · rw [if_pos hk, if_pos (by omega)]
  · rw [if_neg hk, if_neg (by omega)]
theorem arrI_store {cA : ClassId} {n : Nat} {f : Nat → Int32} {j : Nat} {x : Int32} : (vp_cell cA (n, .inl f)).setSlot j (.int x) = vp_cell cA (n, .inl (upd f j x)) := by
  rw [vp_cell_i, vp_cell_i, arrV_store]
  congr 1
  funext q
  by_cases hq : q = j
  · subst hq; simp [updV, upd]
  · simp [updV, upd, hq]
theorem arrL_store {cA : ClassId} {n : Nat} {f : Nat → Int64} {j : Nat} {x : Int64} : (vp_cell cA (n, .inr (.inl f))).setSlot j (.long x) = vp_cell cA (n, .inr (.inl (vp_updL f j x))) := by
  rw [vp_cell_l, vp_cell_l, arrV_store]
  congr 1
  funext q
  by_cases hq : q = j
  · subst hq; simp [updV, vp_updL]
  · simp [updV, vp_updL, hq]
theorem arr_in {cA : ClassId} {n : Nat} {f : Nat → Int32} {i : Int} (hi : i32 i) (h0 : 0 ≤ i) (h1 : i < n) : ¬ (Int32.ofInt i < 0 ∨ (vp_cell cA (n, .inl f)).slots.size ≤ (Int32.ofInt i).toNatClampNeg) := by
  show ¬ (_ ∨ (arrV _ _ _).slots.size ≤ _)
  rw [arrV_size]
  exact o_in hi h0 h1
theorem stM_at {M : Mem} {o i z q : Int} : stM M o i z o q = if q = i then z else M o q := by rw [stM_self]
theorem st_other {M : Mem} {o i z : Int} : ∀ j, j ≠ o → stM M o i z j = M j := fun _ h => stM_ne h
theorem own_A {B : BX} {o : Int} : B.1 ≤ B.1 + o.toNat := Nat.le_add_right _ _
theorem mx_iast (C : Cx K B ph y cc nL ret d mc ms) {o i z : Int} {n : Nat} (hd : decode cc pc = .ok (.iastore, 1)) (hs : shp S o = some (0, n)) (h0 : 0 ≤ i) (h1 : i < n) (k : Wx K B Z cs ss S nL (stM M o i z) (pc + 1) ls rest) : Wx K B Z cs ss S nL M pc ls (aI z :: aI i :: aR o :: rest) := by
  obtain ⟨p, l, e, R, s, m, args, below, meth, c⟩ := K
  intro H locs la hW hS hL hn
  have hz : i32 z := nVs_hd hn
  have hi : i32 i := nVs_hd (nVs_tl hn)
  have hcell : H[B.1 + o.toNat]? = some (vp_cell (B.2.2.1 0) (n, .inl (fun k => Int32.ofInt (M o (k : Int))))) := hW.1 o.toNat _ (wld_at hs)
  refine W.iast C.1 C.2.1 hcell (((cx_K C).2 0 _ rfl).1 n (fun j => .int (Int32.ofInt (M o (j : Int))))) (fun q => by cases q) (arr_in hi h0 h1) rfl rfl hd fun H1 e1 z1 oq => ?_
  rw [arrI_store] at e1
  exact k H1 _ la (WR_set hW hs (by rw [cellI_st (by decide) hi h0]; exact e1) st_other z1 oq (Nrm_st hW.2.2 hs ⟨(fun q => by cases q), (fun _ => hz), (fun q => by cases q)⟩)) (hS.put z1 oq own_A) hL (nVs_tl (nVs_tl (nVs_tl hn)))
theorem mx_bast (C : Cx K B ph y cc nL ret d mc ms) {o i z : Int} {n : Nat} (hd : decode cc pc = .ok (.bastore, 1)) (hs : shp S o = some (1, n)) (h0 : 0 ≤ i) (h1 : i < n) (k : Wx K B Z cs ss S nL (stM M o i (w8 z)) (pc + 1) ls rest) : Wx K B Z cs ss S nL M pc ls (aI z :: aI i :: aR o :: rest) := by
  obtain ⟨p, l, e, R, s, m, args, below, meth, c⟩ := K
  intro H locs la hW hS hL hn
  have hz : i32 z := nVs_hd hn
  have hi : i32 i := nVs_hd (nVs_tl hn)
  have hcell : H[B.1 + o.toNat]? = some (vp_cell (B.2.2.1 1) (n, .inl (fun k => Int32.ofInt (M o (k : Int))))) := hW.1 o.toNat _ (wld_at hs)
  refine W.bast C.1 C.2.1 hcell (((cx_K C).2 1 _ rfl).1 n (fun j => .int (Int32.ofInt (M o (j : Int))))) (fun q => by cases q) (arr_in hi h0 h1) rfl rfl hd fun H1 e1 z1 oq => ?_
  rw [show narrow .byte (.int (Int32.ofInt z)) = .int (Int32.ofInt (w8 z)) from congrArg Value.int (o_i2b hz), arrI_store] at e1
  exact k H1 _ la (WR_set hW hs (by rw [cellI_st (by decide) hi h0]; exact e1) st_other z1 oq (Nrm_st hW.2.2 hs ⟨(fun q => by cases q), (fun _ => i32_w8 z), (fun q => by cases q)⟩)) (hS.put z1 oq own_A) hL (nVs_tl (nVs_tl (nVs_tl hn)))
theorem mx_zast (C : Cx K B ph y cc nL ret d mc ms) {o i z : Int} {n : Nat} (hd : decode cc pc = .ok (.bastore, 1)) (hs : shp S o = some (2, n)) (hz1 : z = 0 ∨ z = 1) (h0 : 0 ≤ i) (h1 : i < n) (k : Wx K B Z cs ss S nL (stM M o i z) (pc + 1) ls rest) : Wx K B Z cs ss S nL M pc ls (aI z :: aI i :: aR o :: rest) := by
  obtain ⟨p, l, e, R, s, m, args, below, meth, c⟩ := K
  intro H locs la hW hS hL hn
  have hz : i32 z := nVs_hd hn
  have hi : i32 i := nVs_hd (nVs_tl hn)
  have hcell : H[B.1 + o.toNat]? = some (vp_cell (B.2.2.1 2) (n, .inl (fun k => Int32.ofInt (M o (k : Int))))) := hW.1 o.toNat _ (wld_at hs)
  refine W.zast C.1 C.2.1 hcell (((cx_K C).2 2 _ rfl).1 n (fun j => .int (Int32.ofInt (M o (j : Int))))) (fun q => by cases q) (arr_in hi h0 h1) rfl rfl hd fun H1 e1 z1 oq => ?_
  rw [show narrow .boolean (.int (Int32.ofInt z)) = .int (Int32.ofInt z) by rcases hz1 with rfl | rfl <;> rfl, arrI_store] at e1
  exact k H1 _ la (WR_set hW hs (by rw [cellI_st (by decide) hi h0]; exact e1) st_other z1 oq (Nrm_st hW.2.2 hs ⟨(fun q => by cases q), (fun _ => hz), (fun _ => hz1)⟩)) (hS.put z1 oq own_A) hL (nVs_tl (nVs_tl (nVs_tl hn)))
theorem mx_last (C : Cx K B ph y cc nL ret d mc ms) {o i z : Int} {n : Nat} (hd : decode cc pc = .ok (.lastore, 1)) (hs : shp S o = some (3, n)) (h0 : 0 ≤ i) (h1 : i < n) (k : Wx K B Z cs ss S nL (stM M o i z) (pc + 1) ls rest) : Wx K B Z cs ss S nL M pc ls (aJ z :: aI i :: aR o :: rest) := by
  obtain ⟨p, l, e, R, s, m, args, below, meth, c⟩ := K
  intro H locs la hW hS hL hn
  have hz : i64 z := nVs_hd hn
  have hi : i32 i := nVs_hd (nVs_tl hn)
  have hcell : H[B.1 + o.toNat]? = some (vp_cell (B.2.2.1 3) (n, .inr (.inl (fun k => Int64.ofInt (M o (k : Int)))))) := hW.1 o.toNat _ (wld_at hs)
  refine W.last C.1 C.2.1 hcell (((cx_K C).2 3 _ rfl).1 n (fun j => .long (Int64.ofInt (M o (j : Int))))) (fun q => by cases q) (by show ¬ (_ ∨ (arrV _ _ _).slots.size ≤ _); rw [arrV_size]; exact o_in hi h0 h1) rfl rfl hd fun H1 e1 z1 oq => ?_
  rw [arrL_store] at e1
  exact k H1 _ la (WR_set hW hs (by rw [cellL_st hi h0]; exact e1) st_other z1 oq (Nrm_st hW.2.2 hs ⟨(fun _ => hz), (fun q => absurd rfl q), (fun q => by cases q)⟩)) (hS.put z1 oq own_A) hL (nVs_tl (nVs_tl (nVs_tl hn)))
/-! fields -/
theorem fld_o {b c : Nat} {cA : Nat → ClassId} {n : Nat} {m : Int → Int} : cellE b cA (10 + c, n) m = .inr (c, flds b c m) := by
  unfold cellE
  rw [if_neg (by show ¬ 10 + c < 3; omega), if_neg (by show ¬ 10 + c = 3; omega), if_neg (by show ¬ 10 + c < 10; omega)]
  show Sum.inr (10 + c - 10, flds b (10 + c - 10) m) = _
  rw [Nat.add_sub_cancel_left]
theorem mx_getI (C : Cx K B ph y cc nL ret d mc ms) {o q : Int} {c n k idx : Nat} {Cn : String} {T : u_T} (hd : decode cc pc = .ok (.getfield idx, 3)) (hs : shp S o = some (10 + c, n)) (hC : CI c Cn T) (hk : k < nFl c) (hw : Cond.fieldLink y.cls idx (T k).1 (T k).2.1 (T k).2.2.1 ∈ BIG) (ht : isRT (tyFl c k) = false) (hq : (k : Int) = q) (kk : Wx K B Z cs ss S nL M (pc + 3) ls (aI (M o q) :: rest)) : Wx K B Z cs ss S nL M pc ls (aR o :: rest) := by
  obtain ⟨p, l, e, R, s, m, args, below, meth, cd⟩ := K
  intro H locs la hW hS hL hn
  subst hq
  refine va_get (v := .int (Int32.ofInt (M o (k : Int)))) C.1 C.2.1 C.2.2.2.2.1 hC.2.1 C.2.2.2.1 (cx_K C) hW.1 o.toNat (by rw [wld_at hs, fld_o]) hC.1 k hk (C.2.2.2.2.1 _ hw) (fun _ h => h) (by rw [flds_get hk, mkF, ht]; rfl) hd ?_
  exact kk H locs la hW hS hL (nVs_cn ((hW.2.2 o k _ hs).2.1 (by show ¬ 10 + c = 3; omega)) (nVs_tl hn))
theorem mx_getR (C : Cx K B ph y cc nL ret d mc ms) {o q v : Int} {c n k idx : Nat} {Cn : String} {T : u_T} (hd : decode cc pc = .ok (.getfield idx, 3)) (hs : shp S o = some (10 + c, n)) (hC : CI c Cn T) (hk : k < nFl c) (hw : Cond.fieldLink y.cls idx (T k).1 (T k).2.1 (T k).2.2.1 ∈ BIG) (ht : isRT (tyFl c k) = true) (hq : (k : Int) = q) (hv : M o q = v) (h0 : 0 ≤ v) (kk : Wx K B Z cs ss S nL M (pc + 3) ls (aR v :: rest)) : Wx K B Z cs ss S nL M pc ls (aR o :: rest) := by
  obtain ⟨p, l, e, R, s, m, args, below, meth, cd⟩ := K
  intro H locs la hW hS hL hn
  subst hq
  subst hv
  refine va_get (v := .ref (B.1 + (M o (k : Int)).toNat)) C.1 C.2.1 C.2.2.2.2.1 hC.2.1 C.2.2.2.1 (cx_K C) hW.1 o.toNat (by rw [wld_at hs, fld_o]) hC.1 k hk (C.2.2.2.2.1 _ hw) (fun _ h => h) (by rw [flds_get hk, mkF, ht, if_pos rfl, mkR, if_neg (by omega)]) hd ?_
  exact kk H locs la hW hS hL (nVs_cn h0 (nVs_tl hn))
theorem put_W {B : BX} {S : List Shp} {M : Mem} {H H1 : Heap} {o z : Int} {c n k : Nat} {Cn : String} {T : u_T} {v : Value} (hW : WR B S M H) (hs : shp S o = some (10 + c, n)) (hC : CI c Cn T) (hk : k < nFl c) (hv : v = mkF B.1 (tyFl c k) z) (hz : i32 z) {f : Field} {cell : Cell} (e1 : H1[B.1 + o.toNat]? = some (cell.setSlot f.slot v)) (q2 : cell.cls = B.2.1.1 c) (q3 : cell.vm = .none) (q4 : ∀ j, j < nFl c → cell.slots[B.2.1.2 c j]? = some (vp_V (flds B.1 c (M o)) j)) (hap : ∀ x y, x < nFl c → y < nFl c → x ≠ y → B.2.1.2 c x ≠ B.2.1.2 c y) (hsl : f.slot = B.2.1.2 c k) (z1 : H1.size = H.size) (oq : ∀ q : Nat, q ≠ B.1 + o.toNat → H1[q]? = H[q]?) : WR B S (stM M o k z) H1 := by
  refine WR_set hW hs ?_ st_other z1 oq (Nrm_st hW.2.2 hs ⟨(fun q => by exfalso; have q' : 10 + c = 3 := q; omega), (fun _ => hz), (fun q => by exfalso; have q' : 10 + c = 2 := q; omega)⟩)
  rw [fld_o]
  refine ⟨_, hC.1, ?_⟩
  rw [hsl] at e1
  refine t_OB.to (V := updV (vp_V (flds B.1 c (M o))) k v) ⟨_, e1, q2, q3, t_set q4 hap hk v⟩ (fun j _ => ?_)
  rw [vp_updV_set (by rw [flds_len]; exact hk)]
  rw [flds_set (m' := stM M o k z o) hk (by rw [stM_at, if_pos rfl]; exact hv) (fun j hj => by rw [stM_at, if_neg (by omega)])]
theorem put_go (C : Cx K B ph y cc nL ret d mc ms) {o z : Int} {c n k idx : Nat} {Cn : String} {T : u_T} {v : Value} {w : AV} (hd : decode cc pc = .ok (.putfield idx, 3)) (hs : shp S o = some (10 + c, n)) (hC : CI c Cn T) (hk : k < nFl c) (hw : Cond.fieldLink y.cls idx (T k).1 (T k).2.1 (T k).2.2.1 ∈ BIG) (hfin : (T k).2.2.2 = false ∨ (y.name = "<init>" ∧ (T k).1 = y.cls)) (hcv : cV B.1 B.2.2.2.1 w = v) (hmk : v = mkF B.1 (tyFl c k) z) (hz : i32 z) (hnr : narrow (tyFl c k) v = v) (hft : fits (tyFl c k) v = true) (kk : Wx K B Z cs ss S nL (stM M o k z) (pc + 3) ls rest) : Wx K B Z cs ss S nL M pc ls (w :: aR o :: rest) := by
  obtain ⟨p, l, e, R, s, m, args, below, meth, cd⟩ := K
  intro H locs la hW hS hL hn
  have hts := C.2.2.2.2.1
  have hown := C.2.2.2.1
  have hap := va_apart (own := y.cls) hts hC.2.1 (tyFl c) hC.2.2.1 hC.2.2.2 (cx_K C) hC.1
  have hat := hW.1 o.toNat _ (wld_at hs)
  rw [fld_o] at hat
  obtain ⟨r, h1, cell, q1, q2, q3, q4⟩ := hat
  have hr : r = (Cn, T, nFl c) := Option.some.inj (h1.symm.trans hC.1)
  subst hr
  obtain ⟨hSl, hfc, kC, hkC, hkind⟩ := (cx_K C).1 c _ hC.1
  obtain ⟨cf, kf, fi, f, hi, hsl⟩ := hSl k hk
  have hst := (u_facts hfc hkC (u_lays hts hC.2.1 hk) hi).1
  have hlay := hts _ (hC.2.1 _ (u_in_lay hk))
  have hgo : ∀ H' : Heap, H'[B.1 + o.toNat]? = some (cell.setSlot f.slot v) → H'.size = H.size → (∀ q : Nat, q ≠ B.1 + o.toNat → H'[q]? = H[q]?) → W p l e R s m args below meth cd H' (locs ++ [⟨B.1 + o.toNat, f.slot⟩]) cs ss Z (F0 m (pc + 3) la (rest.map (cV B.1 B.2.2.2.1))) := fun H' e1 z1 oq =>
    kk H' _ la (put_W hW hs hC hk hmk hz e1 q2 q3 q4 hap hsl z1 oq) (hS.put z1 oq own_A) hL (nVs_tl (nVs_tl hn))
  show W p l e R s m args below meth cd H locs cs ss Z (F0 m pc la (cV B.1 B.2.2.2.1 w :: .ref (B.1 + o.toNat) :: rest.map (cV B.1 B.2.2.2.1)))
  rw [hcv]
  by_cases hf : (T k).2.2.2 = false
  · unfold u_lay at hlay
    rw [if_neg (by rw [hf]; decide)] at hlay
    have h6 := u_store hfc hkC hkind hlay hi (hC.2.2.1 k hk) hnr hft
    exact W.putK C.1 C.2.1 (f := f) ⟨hown, hts _ hw, ⟨_, _, _, hi⟩, hst⟩ (by rw [q2]; exact h6) q1 q3 (by rw [hsl]; exact k2_hasslot (q4 k hk)) rfl rfl hd hgo
  · have hft' : (T k).2.2.2 = true := by simpa using hf
    obtain ⟨hnm, hdecl⟩ := hfin.resolve_left hf
    unfold u_lay at hlay
    rw [if_pos hft'] at hlay
    have hcf : m.cls = cf := by
      obtain ⟨_, _, c', _, _, _, -, -, hf', -, -, -, hown2, -⟩ := Cond.laysFinal_spec hlay
      have e1 : c' = cf := by have := hi.symm.trans hf'; simp at this; exact this.1.symm
      rw [hdecl] at hown2
      rw [← e1]; exact Option.some.inj (hown.symm.trans hown2)
    have h6 := u_fits hfc hkC hkind (Or.inr hlay) hi (hC.2.2.1 k hk) hnr hft
    exact W.putFinK C.1 C.2.1 hown (hts _ hw) hi hst hcf (C.2.2.2.2.2.2.2.2.2.2.1.trans hnm) (by rw [q2]; exact h6) q1 q3 (by rw [hsl]; exact k2_hasslot (q4 k hk)) rfl rfl hd hgo
theorem mx_putI (C : Cx K B ph y cc nL ret d mc ms) {o q z : Int} {c n k idx : Nat} {Cn : String} {T : u_T} (hd : decode cc pc = .ok (.putfield idx, 3)) (hs : shp S o = some (10 + c, n)) (hC : CI c Cn T) (hk : k < nFl c) (hw : Cond.fieldLink y.cls idx (T k).1 (T k).2.1 (T k).2.2.1 ∈ BIG) (hfin : (T k).2.2.2 = false ∨ (y.name = "<init>" ∧ (T k).1 = y.cls)) (ht : tyFl c k = .int) (hq : (k : Int) = q) (kk : Wx K B Z cs ss S nL (stM M o q z) (pc + 3) ls rest) : Wx K B Z cs ss S nL M pc ls (aI z :: aR o :: rest) := by
  subst hq
  intro H locs la hW hS hL hn
  have hz : i32 z := nVs_hd hn
  exact put_go C (v := .int (Int32.ofInt z)) hd hs hC hk hw hfin rfl (by rw [mkF, ht]; rfl) hz (by rw [ht]; rfl) (by rw [ht]; rfl) kk H locs la hW hS hL hn
theorem mx_putZ (C : Cx K B ph y cc nL ret d mc ms) {o q z : Int} {c n k idx : Nat} {Cn : String} {T : u_T} (hd : decode cc pc = .ok (.putfield idx, 3)) (hs : shp S o = some (10 + c, n)) (hC : CI c Cn T) (hk : k < nFl c) (hw : Cond.fieldLink y.cls idx (T k).1 (T k).2.1 (T k).2.2.1 ∈ BIG) (hfin : (T k).2.2.2 = false ∨ (y.name = "<init>" ∧ (T k).1 = y.cls)) (ht : tyFl c k = .boolean) (hz1 : z = 0 ∨ z = 1) (hq : (k : Int) = q) (kk : Wx K B Z cs ss S nL (stM M o q z) (pc + 3) ls rest) : Wx K B Z cs ss S nL M pc ls (aI z :: aR o :: rest) := by
  subst hq
  intro H locs la hW hS hL hn
  have hz : i32 z := nVs_hd hn
  exact put_go C (v := .int (Int32.ofInt z)) hd hs hC hk hw hfin rfl (by rw [mkF, ht]; rfl) hz (by rw [ht]; rcases hz1 with rfl | rfl <;> rfl) (by rw [ht]; rcases hz1 with rfl | rfl <;> rfl) kk H locs la hW hS hL hn
theorem nar_ref {ty : FieldType} {a : Nat} (h : isRT ty = true) : narrow ty (.ref a) = .ref a ∧ fits ty (.ref a) = true := by
  cases ty <;> simp [isRT] at h <;> exact ⟨rfl, rfl⟩
theorem mx_putR (C : Cx K B ph y cc nL ret d mc ms) {o q z : Int} {c n k idx : Nat} {Cn : String} {T : u_T} (hd : decode cc pc = .ok (.putfield idx, 3)) (hs : shp S o = some (10 + c, n)) (hC : CI c Cn T) (hk : k < nFl c) (hw : Cond.fieldLink y.cls idx (T k).1 (T k).2.1 (T k).2.2.1 ∈ BIG) (hfin : (T k).2.2.2 = false ∨ (y.name = "<init>" ∧ (T k).1 = y.cls)) (ht : isRT (tyFl c k) = true) (h0 : 0 ≤ z) (h1 : z < 1000000) (hq : (k : Int) = q) (kk : Wx K B Z cs ss S nL (stM M o q z) (pc + 3) ls rest) : Wx K B Z cs ss S nL M pc ls (aR z :: aR o :: rest) := by
  subst hq
  exact put_go C (v := .ref (B.1 + z.toNat)) hd hs hC hk hw hfin rfl (by rw [mkF, ht, if_pos rfl, mkR, if_neg (by omega)]) (show i32 z by unfold i32; omega) (nar_ref ht).1 (nar_ref ht).2 kk
end MXH
