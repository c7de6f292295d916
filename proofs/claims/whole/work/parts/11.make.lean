/-! making cells; rows of references; statics; text constants; copies -/
def newM (M : Mem) (id : Int) (f : Int → Int) : Mem := fun j => if j = id then f else M j
def dflt (c : Nat) : Int → Int := fun q => if isRT (tyFl c q.toNat) = true then -1 else 0
def okT : FieldType → Bool
  | .int => true
  | .boolean => true
  | .array _ => true
  | .object _ => true
  | _ => false
theorem shp_app {S : List Shp} {x sh : Shp} {i : Int} (h : shp (S ++ [x]) i = some sh) : (i = (S.length : Int) ∧ sh = x) ∨ (i ≠ (S.length : Int) ∧ shp S i = some sh) := by
  obtain ⟨h0, h1, h2, h3⟩ := shp_at h
  by_cases hk : i.toNat < S.length
  · right
    refine ⟨by omega, ?_⟩
    unfold shp
    rw [if_neg (by omega)]
    rw [List.getElem?_append_left hk] at h2
    exact h2
  · left
    have : i.toNat = S.length := by
      simp at h1
      omega
    refine ⟨by omega, ?_⟩
    rw [List.getElem?_append_right (by omega), this, Nat.sub_self] at h2
    cases h2
    rfl
theorem shp_last {S : List Shp} {x : Shp} : shp (S ++ [x]) (S.length : Int) = some x := by
  unfold shp
  rw [if_neg (by omega), Int.toNat_natCast, List.getElem?_append_right (Nat.le_refl _), Nat.sub_self]
  rfl
theorem shp_old {S : List Shp} {x sh : Shp} {i : Int} (h : shp S i = some sh) : shp (S ++ [x]) i = some sh := by
  obtain ⟨h0, h1, h2, h3⟩ := shp_at h
  unfold shp
  rw [if_neg (by omega), List.getElem?_append_left h1]
  exact h2
theorem newM_self {M : Mem} {id : Int} {f : Int → Int} : newM M id f id = f := by unfold newM; rw [if_pos rfl]
theorem newM_ne {M : Mem} {id j : Int} {f : Int → Int} (h : j ≠ id) : newM M id f j = M j := by unfold newM; rw [if_neg h]
theorem Nrm_new {S : List Shp} {M : Mem} {x : Shp} {f : Int → Int} (h : Nrm S M) (hf : ∀ k, f k = 0 ∨ (f k = -1 ∧ 4 ≤ x.1)) : Nrm (S ++ [x]) (newM M (S.length : Int) f) := by
  intro i k sh hs
  rcases shp_app hs with ⟨h1, h2⟩ | ⟨h1, h2⟩
  · subst h1; subst h2
    rw [newM_self]
    refine ⟨fun e => ?_, fun e => ?_, fun e => ?_⟩
    · rcases hf k with q | ⟨q, q2⟩ <;> rw [q] <;> unfold i64 <;> omega
    · rcases hf k with q | ⟨q, q2⟩ <;> rw [q] <;> unfold i32 <;> omega
    · rcases hf k with q | ⟨q, q2⟩
      · exact Or.inl q
      · omega
  · rw [newM_ne h1]
    exact h i k sh h2
theorem WR_new {B : BX} {S : List Shp} {M : Mem} {H H1 : Heap} {x : Shp} {f : Int → Int} (h : WR B S M H) (hph : B.2.2.2.2 = true) (hf : ∀ k, f k = 0 ∨ (f k = -1 ∧ 4 ≤ x.1)) (z1 : H1.size = H.size + 1) (o1 : ∀ q : Nat, q < H.size → H1[q]? = H[q]?) (he : va_at B.2.1 vwCl (B.1 + S.length, cellE B.1 B.2.2.1 x f) H1) : WR B (S ++ [x]) (newM M (S.length : Int) f) H1 := by
  refine ⟨?_, fun hp => ?_, Nrm_new h.2.2 hf⟩
  · rw [← wld_push (M := M) (M' := newM M (S.length : Int) f) (sh := x) (e := cellE B.1 B.2.2.1 x f) (by rw [newM_self]) (fun j hj => newM_ne hj)]
    refine (h.1.kept (fun k q hk => o1 q.1 (h.1 k q hk).lt)).app (fun k q hk => ?_)
    have hz : k < 1 := (List.getElem?_eq_some_iff.mp hk).1
    rw [show k = 0 by omega] at hk
    cases hk
    exact he
  · rw [z1, h.2.1 hp]; simp; omega
section MXN
variable {K : KX} {B : BX} {ph : Bool} {Z : State → Prop} {cs ss : Nat} {S : List Shp} {nL : Nat} {M : Mem} {pc : Nat} {ls : List (Option AV)} {rest : List AV} {y : MethodName} {cc : ByteArray} {ret : Option FieldType} {d mc ms idx : Nat}
theorem new_S {s : State} {H H1 : Heap} {locs : List Loc} (hS : va_S (fun q => B.1 ≤ q) s.heap H locs) (z1 : H1.size = H.size + 1) (o1 : ∀ q : Nat, q < H.size → H1[q]? = H[q]?) : va_S (fun q => B.1 ≤ q) s.heap H1 locs :=
  ⟨Nat.le_trans hS.1 (by omega), fun x h1 h2 => (o1 x (Nat.lt_of_lt_of_le h1 hS.1)).trans (hS.2.1 x h1 h2), hS.2.2⟩
theorem mx_new (C : Cx K B true y cc nL ret d mc ms) {c : Nat} {Cn : String} {T : u_T} {id : Int} (hd : decode cc pc = .ok (.new idx, 3)) (hC : CI c Cn T) (hT : ∀ j, j < nFl c → okT (tyFl c j) = true) (hcl : Cond.classLink y.cls idx Cn ∈ BIG) (hi : Cond.instantiable Cn (nFl c) ∈ BIG) (hini : Cond.initialized Cn ∈ BIG) (hm : cs + 1 ≤ mc ∧ ss + nFl c ≤ ms) (hid : (S.length : Int) = id) (k : Wx K B Z (cs + 1) (ss + nFl c) (S ++ [(10 + c, nFl c)]) nL (newM M id (dflt c)) (pc + 3) ls (aR id :: rest)) : Wx K B Z cs ss S nL M pc ls rest := by
  obtain ⟨p, l, e, R, s, m, args, below, meth, c0⟩ := K
  intro H locs la hW hS hL hn
  subst hid
  have hts := C.2.2.2.2.1
  have hKn := (cx_K C).1 c _ hC.1
  have hph : B.2.2.2.2 = true := C.2.2.2.2.2.2.2.2.2.2.2.1
  refine W.newcK C.1 C.2.1 C.2.2.2.1 (hts _ hcl) (hts _ hi) (hts _ hini) rfl hd (Nat.le_trans hm.1 C.2.2.2.2.2.2.2.2.2.2.2.2.2.2.1) (Nat.le_trans hm.2 C.2.2.2.2.2.2.2.2.2.2.2.2.2.2.2) hKn.2.1 (hW.2.1 hph) fun H1 kC hkC e1 z1 o1 => ?_
  have hz := hW.2.1 hph
  have hat : va_at B.2.1 vwCl (B.1 + S.length, cellE B.1 B.2.2.1 (10 + c, nFl c) (dflt c)) H1 := by
    rw [fld_o]
    refine ⟨_, hC.1, (u_born (tyFl c) hts hC.2.1 hKn hkC e1 hC.2.2.1).to (fun j hj => ?_)⟩
    show defaultValue (tyFl c j) = (flds B.1 c (dflt c)).getD j .null
    rw [List.getD_eq_getElem?_getD, flds_get hj]
    show _ = mkF B.1 (tyFl c j) (dflt c (j : Int))
    have hT' := hT j hj
    unfold mkF dflt
    rw [Int.toNat_natCast]
    cases hty : tyFl c j <;> rw [hty] at hT' <;> simp [okT] at hT' <;> rfl
  exact k H1 locs la (WR_new hW hph (fun q => by unfold dflt; split; exact Or.inr ⟨rfl, by show 4 ≤ 10 + c; omega⟩; exact Or.inl rfl) (by rw [z1, hz]) (by rw [hz]; exact o1) hat) (new_S hS (by rw [z1, hz]) (by rw [hz]; exact o1)) hL (nVs_cn (show (0 : Int) ≤ (S.length : Int) by omega) hn)
theorem mx_newa (C : Cx K B true y cc nL ret d mc ms) {q n : Nat} {z id : Int} {at' : ArrayType} (hd : decode cc pc = .ok (.newarray at', 2)) (hq : (at' = .int ∧ q = 0) ∨ (at' = .byte ∧ q = 1) ∨ (at' = .boolean ∧ q = 2) ∨ (at' = .long ∧ q = 3)) (ha : Cond.arrayClass (newarray.typeOf at') ∈ BIG) (hz : z = (n : Int)) (hn1 : n < 100000) (hm : cs + 1 ≤ mc ∧ ss + n ≤ ms) (hid : (S.length : Int) = id) (k : Wx K B Z (cs + 1) (ss + n) (S ++ [(q, n)]) nL (newM M id (fun _ => 0)) (pc + 2) ls (aR id :: rest)) : Wx K B Z cs ss S nL M pc ls (aI z :: rest) := by
  obtain ⟨p, l, e, R, s, m, args, below, meth, c0⟩ := K
  intro H locs la hW hS hL hn
  subst hid
  subst hz
  have hts := C.2.2.2.2.1
  have hph : B.2.2.2.2 = true := C.2.2.2.2.2.2.2.2.2.2.2.1
  have hsz := hW.2.1 hph
  have hi : i32 (n : Int) := nVs_hd hn
  have g1 : ¬ Int32.ofInt (n : Int) < 0 := fun h => by
    have := (o_lt hi i32_0).mp h
    omega
  have g2 : (Int32.ofInt (n : Int)).toNatClampNeg = n := by rw [o_cl hi (by omega)]; rfl
  have hc1 : cs + 1 ≤ R.cells := Nat.le_trans hm.1 C.2.2.2.2.2.2.2.2.2.2.2.2.2.2.1
  have hc2 : ss + n ≤ R.slots := Nat.le_trans hm.2 C.2.2.2.2.2.2.2.2.2.2.2.2.2.2.2
  refine va_newaK C.1 C.2.1 (hts _ ha) (g := F0 m pc la (.int (Int32.ofInt (n : Int)) :: rest.map (cV B.1 B.2.2.2.1))) rfl hd rfl g1 g2 (by rcases hq with ⟨rfl, -⟩ | ⟨rfl, -⟩ | ⟨rfl, -⟩ | ⟨rfl, -⟩ <;> (show n * _ ≤ _; simp [componentBytes, newarray.typeOf]; omega)) hc1 hc2 hsz fun H1 cA e1 z1 o1 hAr hNm => ?_
  have hat : va_at B.2.1 vwCl (B.1 + S.length, cellE B.1 B.2.2.1 (q, n) (fun _ => 0)) H1 := by
    rcases hq with ⟨rfl, rfl⟩ | ⟨rfl, rfl⟩ | ⟨rfl, rfl⟩ | ⟨rfl, rfl⟩
    · have hc : B.2.2.1 0 = cA := Option.some.inj (((cx_K C).2 0 _ rfl).2.symm.trans hNm)
      show H1[B.1 + S.length]? = some (vp_cell (B.2.2.1 0) (n, .inl (fun _ => Int32.ofInt 0)))
      rw [e1, hc]; rfl
    · have hc : B.2.2.1 1 = cA := Option.some.inj (((cx_K C).2 1 _ rfl).2.symm.trans hNm)
      show H1[B.1 + S.length]? = some (vp_cell (B.2.2.1 1) (n, .inl (fun _ => Int32.ofInt 0)))
      rw [e1, hc]; rfl
    · have hc : B.2.2.1 2 = cA := Option.some.inj (((cx_K C).2 2 _ rfl).2.symm.trans hNm)
      show H1[B.1 + S.length]? = some (vp_cell (B.2.2.1 2) (n, .inl (fun _ => Int32.ofInt 0)))
      rw [e1, hc]; rfl
    · have hc : B.2.2.1 3 = cA := Option.some.inj (((cx_K C).2 3 _ rfl).2.symm.trans hNm)
      show H1[B.1 + S.length]? = some (vp_cell (B.2.2.1 3) (n, .inr (.inl (fun _ => Int64.ofInt 0))))
      rw [e1, hc]; rfl
  have hh := k H1 locs la (WR_new hW hph (fun _ => Or.inl rfl) (by rw [z1, hsz]) (by rw [hsz]; exact o1) hat) (new_S hS (by rw [z1, hsz]) (by rw [hsz]; exact o1)) hL (nVs_cn (show (0 : Int) ≤ (S.length : Int) by omega) (nVs_tl hn))
  exact hh
theorem mx_anew (C : Cx K B true y cc nL ret d mc ms) {q n : Nat} {z id : Int} {Cn : String} (hd : decode cc pc = .ok (.anewarray idx, 3)) (hq : (Cn = RX3 ∧ q = 4) ∨ (Cn = RX4 ∧ q = 5)) (hcl : Cond.classLink y.cls idx Cn ∈ BIG) (hz : z = (n : Int)) (hn1 : n < 100000) (hm : cs + 1 ≤ mc ∧ ss + n ≤ ms) (hid : (S.length : Int) = id) (k : Wx K B Z (cs + 1) (ss + n) (S ++ [(q, n)]) nL (newM M id (fun _ => -1)) (pc + 3) ls (aR id :: rest)) : Wx K B Z cs ss S nL M pc ls (aI z :: rest) := by
  obtain ⟨p, l, e, R, s, m, args, below, meth, c0⟩ := K
  intro H locs la hW hS hL hn
  subst hid
  subst hz
  have hts := C.2.2.2.2.1
  have hph : B.2.2.2.2 = true := C.2.2.2.2.2.2.2.2.2.2.2.1
  have hsz := hW.2.1 hph
  have hi : i32 (n : Int) := nVs_hd hn
  have g1 : ¬ Int32.ofInt (n : Int) < 0 := fun h => by
    have := (o_lt hi i32_0).mp h
    omega
  have g2 : (Int32.ofInt (n : Int)).toNatClampNeg = n := by rw [o_cl hi (by omega)]; rfl
  have hc1 : cs + 1 ≤ R.cells := Nat.le_trans hm.1 C.2.2.2.2.2.2.2.2.2.2.2.2.2.2.1
  have hc2 : ss + n ≤ R.slots := Nat.le_trans hm.2 C.2.2.2.2.2.2.2.2.2.2.2.2.2.2.2
  have e0 : B.1 + S.length = H.size := hsz.symm
  have hao : va_AO Cn s := by
    rcases hq with ⟨rfl, -⟩ | ⟨rfl, -⟩
    · exact (cx_F C).2.2.2.2.2.2.2.2.2.1
    · exact (cx_F C).2.2.2.2.2.2.2.2.2.2.1
  refine W.anew C.1 C.2.1 C.2.2.2.1 (hts _ hcl) (va_AO.use hao) (g := F0 m pc la (.int (Int32.ofInt (n : Int)) :: rest.map (cV B.1 B.2.2.2.1))) rfl hd rfl g1 (by rw [g2]; omega) hc1 (by rw [g2]; exact hc2) fun cA kA comp f1 f2 f3 f4 => ?_
  generalize hH1 : H.push ({ cls := cA, slots := Array.replicate (Int32.ofInt (n : Int)).toNatClampNeg .null, vm := .none } : Cell) = H1
  have z1 : H1.size = H.size + 1 := by rw [← hH1, Array.size_push]
  have e1 : H1[H.size]? = some (arrV cA n (fun _ => .null)) := by rw [← hH1, Array.getElem?_push_size, ← arrV_new, g2]
  have o1 : ∀ q : Nat, q < H.size → H1[q]? = H[q]? := fun q hq => by rw [← hH1, Array.getElem?_push, if_neg (Nat.ne_of_lt hq)]
  have hat : va_at B.2.1 vwCl (B.1 + S.length, cellE B.1 B.2.2.1 (q, n) (fun _ => -1)) H1 := by
    rcases hq with ⟨rfl, rfl⟩ | ⟨rfl, rfl⟩
    · obtain ⟨kA', comp', k1, k2, k3, k4⟩ := ((cx_K C).2 4 _ rfl).2
      have hc : B.2.2.1 4 = cA := Option.some.inj (k4.symm.trans f1)
      show H1[B.1 + S.length]? = some (vp_cell (B.2.2.1 4) (n, .inr (.inr (.inr (.inr (fun _ => none))))))
      rw [e0, e1, hc]; rfl
    · obtain ⟨kA', comp', k1, k2, k3, k4⟩ := ((cx_K C).2 5 _ rfl).2
      have hc : B.2.2.1 5 = cA := Option.some.inj (k4.symm.trans f1)
      show H1[B.1 + S.length]? = some (vp_cell (B.2.2.1 5) (n, .inr (.inr (.inr (.inr (fun _ => none))))))
      rw [e0, e1, hc]; rfl
  have hh := k H1 locs la (WR_new hW hph (fun _ => Or.inr ⟨rfl, by show 4 ≤ q; omega⟩) z1 o1 hat) (new_S hS z1 o1) hL (nVs_cn (show (0 : Int) ≤ (S.length : Int) by omega) (nVs_tl hn))
  have e2 : cV B.1 B.2.2.2.1 (aR (S.length : Int)) = .ref H.size := by show Value.ref (B.1 + ((S.length : Int)).toNat) = _; rw [Int.toNat_natCast, e0]
  rw [List.map_cons, e2] at hh
  rw [g2]
  exact hh
theorem mx_aast (C : Cx K B ph y cc nL ret d mc ms) {o i v : Int} {n n2 q c : Nat} {Cn : String} {T : u_T} (hd : decode cc pc = .ok (.aastore, 1)) (hs : shp S o = some (q, n)) (hq : (c = 3 ∧ q = 4) ∨ (c = 4 ∧ q = 5)) (hv : shp S v = some (10 + c, n2)) (hC : CI c Cn T) (hv1 : v < 1000000) (h0 : 0 ≤ i) (h1 : i < n) (k : Wx K B Z cs ss S nL (stM M o i v) (pc + 1) ls rest) : Wx K B Z cs ss S nL M pc ls (aR v :: aI i :: aR o :: rest) := by
  obtain ⟨p, l, e, R, s, m, args, below, meth, c0⟩ := K
  intro H locs la hW hS hL hn
  have hi : i32 i := nVs_hd (nVs_tl hn)
  have hv0 : 0 ≤ v := nVs_hd hn
  have hgo : ∀ (kq : Nat) (r : vw_C), r.1 = Cn → vwCl[c]? = some r → (tysL B.2.2.1)[kq]? = some (B.2.2.1 kq, .object r.1) → (∀ m : Int → Int, cellE B.1 B.2.2.1 (q, n) m = .inl (B.2.2.1 kq, n, .inr (.inr (.inr (.inr (fun k => if m (k : Int) < 0 then none else some (B.1 + (m (k : Int)).toNat))))))) → 4 ≤ q → W p l e R s m args below meth c0 H locs cs ss Z (F0 m pc la ((aR v :: aI i :: aR o :: rest).map (cV B.1 B.2.2.2.1))) := by
    intro kq r hr hc ht hcell hq4
    have hP := hW.1
    have ha := wld_at (b := B.1) (cA := B.2.2.1) (M := M) hs
    rw [hcell] at ha
    have hvv := wld_at (b := B.1) (cA := B.2.2.1) (M := M) hv
    rw [fld_o] at hvv
    obtain ⟨r', hr', cellV, g1, g2, g3, -⟩ := hP v.toNat _ hvv
    have hcls := ((cx_K C).1 c r hc).2
    obtain ⟨kA, comp, k1, k2, k3, -⟩ := ((cx_K C).2 kq _ ht).2
    have hcomp : comp = B.2.1.1 c := Option.some.inj (k3.symm.trans hcls.1)
    subst hcomp
    obtain ⟨kC, hkC, -⟩ := hcls.2
    have hlt : (Int32.ofInt i).toNatClampNeg < n := by rw [o_cl hi h0]; omega
    refine W.aast (v := B.1 + v.toNat) (j := Int32.ofInt i) C.1 C.2.1 (hP o.toNat _ ha) (fun q h => by cases h) (fun h => by cases h) k1 k2 rfl hkC ⟨fun h => by have := (o_lt hi i32_0).mp h; omega, by show _ < (arrV _ _ _).slots.size; rw [arrV_size]; exact hlt⟩ g1 (fun q h => by rw [g3] at h; cases h) (by rw [g2]; exact hkC) (by rw [g2]; exact va_assign hcls) rfl rfl hd fun H1 e1 z1 oq => ?_
    have e2 : H1[B.1 + o.toNat]? = some (vp_cell (B.2.2.1 kq) (n, .inr (.inr (.inr (.inr (fun k => if stM M o i v o (k : Int) < 0 then none else some (B.1 + (stM M o i v o (k : Int)).toNat))))))) := by
      rw [e1, vp_cell_q, vp_cell_q, arrV_store]
      congr 2
      funext j
      by_cases hj : j = i.toNat
      · have e4 : stM M o i v o (j : Int) = v := by rw [stM_at, if_pos (by omega)]
        rw [e4, if_neg (show ¬ v < 0 by omega), o_cl hi h0]
        simp [updV, hj, va_rf]
      · have e4 : stM M o i v o (j : Int) = M o (j : Int) := by rw [stM_at, if_neg (by omega)]
        rw [e4, o_cl hi h0]
        simp [updV, hj]
    exact k H1 _ la (WR_set hW hs (by rw [hcell]; exact e2) st_other z1 oq (Nrm_st hW.2.2 hs ⟨(fun e => by have e' : q = 3 := e; omega), (fun _ => by unfold i32; omega), (fun e => by have e' : q = 2 := e; omega)⟩)) (hS.put z1 oq own_A) hL (nVs_tl (nVs_tl (nVs_tl hn)))
  rcases hq with ⟨rfl, rfl⟩ | ⟨rfl, rfl⟩
  · have hcn : RX3 = Cn := congrArg (fun x : vw_C => x.1) (Option.some.inj hC.1)
    exact hgo 4 (RX3, TX3, 10) hcn rfl rfl (fun m => rfl) (by decide)
  · have hcn : RX4 = Cn := congrArg (fun x : vw_C => x.1) (Option.some.inj hC.1)
    exact hgo 5 (RX4, TX4, 3) hcn rfl rfl (fun m => rfl) (by decide)
/-! statics and text constants -/
theorem mx_getA (C : Cx K B ph y cc nL ret d mc ms) (hd : decode cc pc = .ok (.getstatic idx, 3)) (hl : Cond.fieldLink y.cls idx "SqueakShop" "ABOVE" "[I" ∈ BIG) (k : Wx K B Z cs ss S nL M (pc + 3) ls (aF 1 :: rest)) : Wx K B Z cs ss S nL M pc ls rest := by
  obtain ⟨p, l, e, R, s, m, args, below, meth, c0⟩ := K
  intro H locs la hW hS hL hn
  exact va_gets C.1 C.2.1 (cx_F C).1 hS C.2.2.2.1 (C.2.2.2.2.1 _ hl) (fun _ h => h) hd (k H locs la hW hS hL (nVs_cn trivial hn))
theorem mx_tabA (C : Cx K B ph y cc nL ret d mc ms) {i : Int} (hd : decode cc pc = .ok (.iaload, 1)) (h0 : 0 ≤ i) (h1 : i < 7) (k : Wx K B Z cs ss S nL M (pc + 1) ls (aI (tabA.getD i.toNat 0) :: rest)) : Wx K B Z cs ss S nL M pc ls (aI i :: aF 1 :: rest) := by
  obtain ⟨p, l, e, R, s, m, args, below, meth, c0⟩ := K
  intro H locs la hW hS hL hn
  have hi : i32 i := nVs_hd hn
  refine va_ti (v := .int (Int32.ofInt (tabA.getD i.toNat 0))) C.1 C.2.1 (cx_F C).2.1 hS (o_in hi h0 (by omega)) (by rw [o_cl hi h0]) hd ?_
  refine k H locs la hW hS hL (nVs_cn ?_ (nVs_tl (nVs_tl hn)))
  have : ∀ j, j < 7 → i32 (tabA.getD j 0) := by unfold i32; decide
  exact this _ (by omega)
theorem mx_ldcS (C : Cx K B ph y cc nL ret d mc ms) {i : Nat} (hd : decode cc pc = .ok (.ldc idx, 2)) (hy : y.cls = "SqueakShop$Text") (hi : (idx = 63 ∧ i = 0) ∨ (idx = 90 ∧ i = 1) ∨ (idx = 96 ∧ i = 2) ∨ (idx = 98 ∧ i = 3)) (k : Wx K B Z cs ss S nL M (pc + 2) ls (aF (i + 2) :: rest)) : Wx K B Z cs ss S nL M pc ls rest := by
  obtain ⟨p, l, e, R, s, m, args, below, meth, c0⟩ := K
  intro H locs la hW hS hL hn
  have hown := C.2.2.2.1
  rw [hy] at hown
  obtain ⟨-, -, -, f1, f2, f3, f4, -⟩ := cx_F C
  have hh := k H locs la hW hS hL (nVs_cn trivial hn)
  rcases hi with ⟨rfl, rfl⟩ | ⟨rfl, rfl⟩ | ⟨rfl, rfl⟩ | ⟨rfl, rfl⟩
  · exact va_ldcS C.1 C.2.1 hown f1 hd hh
  · exact va_ldcS C.1 C.2.1 hown f2 hd hh
  · exact va_ldcS C.1 C.2.1 hown f3 hd hh
  · exact va_ldcS C.1 C.2.1 hown f4 hd hh
theorem mx_sval (C : Cx K B ph y cc nL ret d mc ms) {i : Nat} (hd : decode cc pc = .ok (.getfield idx, 3)) (hi : i < 4) (hl : Cond.fieldLink y.cls idx "java/lang/String" "value" "[B" ∈ BIG) (k : Wx K B Z cs ss S nL M (pc + 3) ls (aF (i + 10) :: rest)) : Wx K B Z cs ss S nL M pc ls (aF (i + 2) :: rest) := by
  obtain ⟨p, l, e, R, s, m, args, below, meth, c0⟩ := K
  intro H locs la hW hS hL hn
  have e1 : cV B.1 B.2.2.2.1 (aF (i + 2)) = .ref (B.2.2.2.1 (i + 2)) := by rfl
  have e2 : cV B.1 B.2.2.2.1 (aF (i + 10)) = .ref (B.2.2.2.1 (i + 10)) := by rfl
  have hh := k H locs la hW hS hL (nVs_cn trivial (nVs_tl hn))
  rw [List.map_cons, e2] at hh
  rw [List.map_cons, e1]
  exact vk_getf (o := "java/lang/String") C.1 C.2.1 ((cx_F C).2.2.1.1 i hi).2.2.1 hS C.2.2.2.1 (C.2.2.2.2.1 _ hl) (fun _ h => h) hd hh
theorem mx_scod (C : Cx K B ph y cc nL ret d mc ms) {i : Nat} (hd : decode cc pc = .ok (.getfield idx, 3)) (hi : i < 4) (hl : Cond.fieldLink y.cls idx "java/lang/String" "coder" "B" ∈ BIG) (k : Wx K B Z cs ss S nL M (pc + 3) ls (aI 0 :: rest)) : Wx K B Z cs ss S nL M pc ls (aF (i + 2) :: rest) := by
  obtain ⟨p, l, e, R, s, m, args, below, meth, c0⟩ := K
  intro H locs la hW hS hL hn
  have e1 : cV B.1 B.2.2.2.1 (aF (i + 2)) = .ref (B.2.2.2.1 (i + 2)) := by rfl
  have hh := k H locs la hW hS hL (nVs_cn i32_0 (nVs_tl hn))
  rw [List.map_cons, e1]
  exact vk_getf (o := "java/lang/String") C.1 C.2.1 ((cx_F C).2.2.1.1 i hi).2.1 hS C.2.2.2.1 (C.2.2.2.2.1 _ hl) (fun _ h => h) hd hh
theorem mx_scomp (C : Cx K B ph y cc nL ret d mc ms) (hd : decode cc pc = .ok (.getstatic idx, 3)) (hl : Cond.fieldLink y.cls idx "java/lang/String" "COMPACT_STRINGS" "Z" ∈ BIG) (k : Wx K B Z cs ss S nL M (pc + 3) ls (aI 1 :: rest)) : Wx K B Z cs ss S nL M pc ls rest := by
  obtain ⟨p, l, e, R, s, m, args, below, meth, c0⟩ := K
  intro H locs la hW hS hL hn
  exact va_gets C.1 C.2.1 (cx_F C).2.2.2.2.2.2.2.2.1 hS C.2.2.2.1 (C.2.2.2.2.1 _ hl) (fun _ h => h) hd (k H locs la hW hS hL (nVs_cn (by unfold nV i32; omega) hn))
theorem mx_getF0 (C : Cx K B ph y cc nL ret d mc ms) (hd : decode cc pc = .ok (.getstatic idx, 3)) (hl : Cond.fieldLink y.cls idx "jdk/internal/util/Preconditions" "SIOOBE_FORMATTER" "Ljava/util/function/BiFunction;" ∈ BIG) (k : Wx K B Z cs ss S nL M (pc + 3) ls (aF 0 :: rest)) : Wx K B Z cs ss S nL M pc ls rest := by
  obtain ⟨p, l, e, R, s, m, args, below, meth, c0⟩ := K
  intro H locs la hW hS hL hn
  exact va_gets C.1 C.2.1 (cx_F C).2.2.2.2.2.2.2.1 hS C.2.2.2.1 (C.2.2.2.2.1 _ hl) (fun _ h => h) hd (k H locs la hW hS hL (nVs_cn trivial hn))
def sB (i : Nat) (j : Int) : Int := ((sByt.getD i []).getD j.toNat 0).toInt
theorem mx_sbyt (C : Cx K B ph y cc nL ret d mc ms) {i : Nat} {j : Int} (hd : decode cc pc = .ok (.baload, 1)) (hi : i < 4) (h0 : 0 ≤ j) (h1 : j < (sLen.getD i 0 : Nat)) (k : Wx K B Z cs ss S nL M (pc + 1) ls (aI (sB i j) :: rest)) : Wx K B Z cs ss S nL M pc ls (aI j :: aF (i + 10) :: rest) := by
  obtain ⟨p, l, e, R, s, m, args, below, meth, c0⟩ := K
  intro H locs la hW hS hL hn
  have hj : i32 j := nVs_hd hn
  have e2 : cV B.1 B.2.2.2.1 (aF (i + 10)) = .ref (B.2.2.2.1 (i + 10)) := by rfl
  have hh := k H locs la hW hS hL (nVs_cn (nT _) (nVs_tl (nVs_tl hn)))
  rw [List.map_cons, List.map_cons, e2]
  refine va_tb (v := .int (Int32.ofInt (sB i j))) C.1 C.2.1 ((cx_F C).2.2.1.1 i hi).2.2.2 hS (o_in hj h0 h1) (by rw [o_cl hj h0]; unfold sB; rw [Int32.ofInt_toInt]) hd hh
theorem mx_slen (C : Cx K B ph y cc nL ret d mc ms) {i : Nat} (hd : decode cc pc = .ok (.arraylength, 1)) (hi : i < 4) (k : Wx K B Z cs ss S nL M (pc + 1) ls (aI (sLen.getD i 0 : Nat) :: rest)) : Wx K B Z cs ss S nL M pc ls (aF (i + 10) :: rest) := by
  obtain ⟨p, l, e, R, s, m, args, below, meth, c0⟩ := K
  intro H locs la hW hS hL hn
  have e2 : cV B.1 B.2.2.2.1 (aF (i + 10)) = .ref (B.2.2.2.1 (i + 10)) := by rfl
  have hl : ∀ i, i < 4 → sLen.getD i 0 < 100 := by decide
  have hh := k H locs la hW hS hL (nVs_cn (show i32 _ by have := hl i hi; unfold i32; omega) (nVs_tl hn))
  rw [List.map_cons, e2]
  have e3 : cV B.1 B.2.2.2.1 (aI (sLen.getD i 0 : Nat)) = .int (Int32.ofNat (sLen.getD i 0)) := by
    show Value.int (Int32.ofInt _) = _
    rw [Int32.ofInt_eq_ofNat]
  rw [List.map_cons, e3] at hh
  exact va_tlen C.1 C.2.1 ((cx_F C).2.2.1.1 i hi).2.2.2 hS rfl hd hh
/-! copies -/
def cpM (M : Mem) (a b sp dp n : Int) : Mem := fun j => if j = b then (fun q => if dp ≤ q ∧ q < dp + n then M a (sp + (q - dp)) else M b q) else M j
theorem mx_copyi (C : Cx K B false y cc nL ret d mc ms) {a b sp dp n : Int} {n0 n1 : Nat} (hd : decode cc pc = .ok (.invokestatic idx, 3)) (hl : Cond.methodLink y.cls idx arraycopyName ∈ BIG) (hw : Cond.native arraycopyName ∈ BIG ∧ Cond.static arraycopyName ∈ BIG ∧ Cond.initialized "java/lang/System" ∈ BIG) (ha : shp S a = some (0, n0)) (hb : shp S b = some (0, n1)) (h1 : 0 ≤ sp) (h2 : 0 ≤ dp) (h3 : 0 ≤ n) (h4 : sp + n ≤ n0) (h5 : dp + n ≤ n1) (hd1 : 1 ≤ d) (h8 : rest.length ≤ 4) (k : Wx K B Z cs ss S nL (cpM M a b sp dp n) (pc + 3) ls rest) : Wx K B Z cs ss S nL M pc ls (aI n :: aI dp :: aR b :: aI sp :: aR a :: rest) := by
  obtain ⟨p, l, e, R, s, m, args, below, meth, c0⟩ := K
  intro H locs la hW hS hL hn
  have q1 : i32 n := nVs_hd hn
  have q2 : i32 dp := nVs_hd (nVs_tl hn)
  have q3 : i32 sp := nVs_hd (nVs_tl (nVs_tl (nVs_tl hn)))
  have hts := C.2.2.2.2.1
  have g1 : d ≤ R.frames := C.2.2.2.2.2.2.2.2.2.2.2.2.1
  have g2 : 40 * d ≤ R.locals := C.2.2.2.2.2.2.2.2.2.2.2.2.2.1
  have g3 := catSum B.1 B.2.2.2.1 rest
  have hneg : ∀ z : Int, i32 z → 0 ≤ z → ¬ Int32.ofInt z < 0 := fun z hz h0 h => by have := (o_lt hz i32_0).mp h; omega
  refine va_copyi (n0 := n0) (n1 := n1) (f := fun k => Int32.ofInt (M a (k : Int))) (g := fun k => Int32.ofInt (M b (k : Int))) (ty := .int) C.1 C.2.1 (C.2.2.1.trans hL.1.symm) C.2.2.2.1 (hts _ hl) (hts _ hw.1) (hts _ hw.2.1) (hts _ hw.2.2) (cx_K C) hW.1 (wld_D B.1 B.2.2.1 S M) hS a.toNat b.toNat 0 0 (by rw [wld_at ha]; rfl) (by rw [wld_at hb]; rfl) rfl rfl rfl (hneg sp q3 h1) (hneg dp q2 h2) (hneg n q1 h3) (by rw [o_cl q3 h1, o_cl q1 h3]; omega) (by rw [o_cl q2 h2, o_cl q1 h3]; omega) (fun _ _ => rfl) (show 1 ≤ R.frames by omega) (show ((rest.map (cV B.1 B.2.2.2.1)).map fun v => v.category).sum + (nativeFrameWords "java/lang/System" "arraycopy" 5 + 11) ≤ R.locals by
    have : nativeFrameWords "java/lang/System" "arraycopy" 5 ≤ 20 := by decide +kernel
    omega) hd fun H1 locs1 hP1 _ hS1 => ?_
  refine k H1 locs1 la ⟨?_, fun hp => ?_, ?_⟩ hS1 hL (nVs_tl (nVs_tl (nVs_tl (nVs_tl (nVs_tl hn)))))
  · rw [wld_set (M' := cpM M a b sp dp n) hb (by
      unfold cellE cpM
      rw [if_pos (show (0 : Nat) < 3 by decide), if_pos rfl, o_cl q3 h1, o_cl q2 h2, o_cl q1 h3]
      congr 4
      funext kk
      unfold va_cpy
      show (if dp.toNat ≤ kk ∧ kk < dp.toNat + n.toNat then Int32.ofInt (M a ((sp.toNat + (kk - dp.toNat) : Nat) : Int)) else Int32.ofInt (M b (kk : Int))) = Int32.ofInt (if dp ≤ (kk : Int) ∧ (kk : Int) < dp + n then M a (sp + ((kk : Int) - dp)) else M b (kk : Int))
      by_cases c1 : dp.toNat ≤ kk ∧ kk < dp.toNat + n.toNat
      · rw [if_pos c1, if_pos (by omega), show ((sp.toNat + (kk - dp.toNat) : Nat) : Int) = sp + ((kk : Int) - dp) by omega]
      · rw [if_neg c1, if_neg (by omega)]) (fun j hj => by unfold cpM; rw [if_neg hj])] at hP1
    exact hP1
  · rw [C.2.2.2.2.2.2.2.2.2.2.2.1] at hp; cases hp
  · intro j q sh hs
    unfold cpM
    by_cases hj : j = b
    · rw [if_pos hj]
      subst hj
      cases hb.symm.trans hs
      by_cases c1 : dp ≤ q ∧ q < dp + n
      · show (_ → i64 (if _ then _ else _)) ∧ _
        rw [if_pos c1]
        have := hW.2.2 a (sp + (q - dp)) _ ha
        exact ⟨(fun e => by cases e), this.2.1, (fun e => by cases e)⟩
      · show (_ → i64 (if _ then _ else _)) ∧ _
        rw [if_neg c1]
        exact hW.2.2 j q _ hs
    · rw [if_neg hj]
      exact hW.2.2 j q _ hs
theorem mx_copyl (C : Cx K B false y cc nL ret d mc ms) {a b sp dp n : Int} {n0 n1 : Nat} (hd : decode cc pc = .ok (.invokestatic idx, 3)) (hl : Cond.methodLink y.cls idx arraycopyName ∈ BIG) (hw : Cond.native arraycopyName ∈ BIG ∧ Cond.static arraycopyName ∈ BIG ∧ Cond.initialized "java/lang/System" ∈ BIG) (ha : shp S a = some (3, n0)) (hb : shp S b = some (3, n1)) (h1 : 0 ≤ sp) (h2 : 0 ≤ dp) (h3 : 0 ≤ n) (h4 : sp + n ≤ n0) (h5 : dp + n ≤ n1) (hd1 : 1 ≤ d) (h8 : rest.length ≤ 4) (k : Wx K B Z cs ss S nL (cpM M a b sp dp n) (pc + 3) ls rest) : Wx K B Z cs ss S nL M pc ls (aI n :: aI dp :: aR b :: aI sp :: aR a :: rest) := by
  obtain ⟨p, l, e, R, s, m, args, below, meth, c0⟩ := K
  intro H locs la hW hS hL hn
  have q1 : i32 n := nVs_hd hn
  have q2 : i32 dp := nVs_hd (nVs_tl hn)
  have q3 : i32 sp := nVs_hd (nVs_tl (nVs_tl (nVs_tl hn)))
  have hts := C.2.2.2.2.1
  have g1 : d ≤ R.frames := C.2.2.2.2.2.2.2.2.2.2.2.2.1
  have g2 : 40 * d ≤ R.locals := C.2.2.2.2.2.2.2.2.2.2.2.2.2.1
  have g3 := catSum B.1 B.2.2.2.1 rest
  have hneg : ∀ z : Int, i32 z → 0 ≤ z → ¬ Int32.ofInt z < 0 := fun z hz h0 h => by have := (o_lt hz i32_0).mp h; omega
  refine va_copyl (n0 := n0) (n1 := n1) (f := fun k => Int64.ofInt (M a (k : Int))) (g := fun k => Int64.ofInt (M b (k : Int))) (ty := .long) C.1 C.2.1 (C.2.2.1.trans hL.1.symm) C.2.2.2.1 (hts _ hl) (hts _ hw.1) (hts _ hw.2.1) (hts _ hw.2.2) (cx_K C) hW.1 (wld_D B.1 B.2.2.1 S M) hS a.toNat b.toNat 3 3 (by rw [wld_at ha]; rfl) (by rw [wld_at hb]; rfl) rfl rfl rfl (hneg sp q3 h1) (hneg dp q2 h2) (hneg n q1 h3) (by rw [o_cl q3 h1, o_cl q1 h3]; omega) (by rw [o_cl q2 h2, o_cl q1 h3]; omega) (fun _ _ => rfl) (show 1 ≤ R.frames by omega) (show ((rest.map (cV B.1 B.2.2.2.1)).map fun v => v.category).sum + (nativeFrameWords "java/lang/System" "arraycopy" 5 + 11) ≤ R.locals by
    have : nativeFrameWords "java/lang/System" "arraycopy" 5 ≤ 20 := by decide +kernel
    omega) hd fun H1 locs1 hP1 _ hS1 => ?_
  refine k H1 locs1 la ⟨?_, fun hp => ?_, ?_⟩ hS1 hL (nVs_tl (nVs_tl (nVs_tl (nVs_tl (nVs_tl hn)))))
  · rw [wld_set (M' := cpM M a b sp dp n) hb (by
      unfold cellE cpM
      rw [if_neg (show ¬ (3 : Nat) < 3 by decide), if_pos rfl, if_pos rfl, o_cl q3 h1, o_cl q2 h2, o_cl q1 h3]
      congr 5
      funext kk
      unfold va_cpy
      show (if dp.toNat ≤ kk ∧ kk < dp.toNat + n.toNat then Int64.ofInt (M a ((sp.toNat + (kk - dp.toNat) : Nat) : Int)) else Int64.ofInt (M b (kk : Int))) = Int64.ofInt (if dp ≤ (kk : Int) ∧ (kk : Int) < dp + n then M a (sp + ((kk : Int) - dp)) else M b (kk : Int))
      by_cases c1 : dp.toNat ≤ kk ∧ kk < dp.toNat + n.toNat
      · rw [if_pos c1, if_pos (by omega), show ((sp.toNat + (kk - dp.toNat) : Nat) : Int) = sp + ((kk : Int) - dp) by omega]
      · rw [if_neg c1, if_neg (by omega)]) (fun j hj => by unfold cpM; rw [if_neg hj])] at hP1
    exact hP1
  · rw [C.2.2.2.2.2.2.2.2.2.2.2.1] at hp; cases hp
  · intro j q sh hs
    unfold cpM
    by_cases hj : j = b
    · rw [if_pos hj]
      subst hj
      cases hb.symm.trans hs
      by_cases c1 : dp ≤ q ∧ q < dp + n
      · show (_ → i64 (if _ then _ else _)) ∧ _
        rw [if_pos c1]
        have := hW.2.2 a (sp + (q - dp)) _ ha
        exact ⟨this.1, (fun e => absurd rfl e), (fun e => by cases e)⟩
      · show (_ → i64 (if _ then _ else _)) ∧ _
        rw [if_neg c1]
        exact hW.2.2 j q _ hs
    · rw [if_neg hj]
      exact hW.2.2 j q _ hs
end MXN
