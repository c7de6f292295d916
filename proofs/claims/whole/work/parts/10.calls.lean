/-! contracts, calls, ends -/
def entL : List AV → List (Option AV)
  | [] => []
  | v :: vs => if isJ v = true then some v :: none :: entL vs else some v :: entL vs
def ent (as : List AV) (nL : Nat) : List (Option AV) := entL as ++ List.replicate (nL - (entL as).length) none
theorem lgsl_len (b : Nat) (fa : Nat → Nat) (as : List AV) : (lg_sl (as.map (cV b fa))).length = (entL as).length := by
  induction as with
  | nil => rfl
  | cons v l ih =>
    have e := cV_cat (b := b) (fa := fa) v
    simp only [lg_sl, List.map_cons, List.flatMap_cons, List.length_append] at ih ⊢
    unfold entL
    by_cases h : isJ v = true
    · rw [if_pos h] at e ⊢
      rw [if_pos e]
      simp only [List.length_cons, List.length_nil] at ih ⊢
      omega
    · rw [if_neg h] at e ⊢
      rw [if_neg (by omega)]
      simp only [List.length_cons, List.length_nil] at ih ⊢
      omega
theorem entL_at (b : Nat) (fa : Nat → Nat) (n : Nat) (as : List AV) : ∀ (off i : Nat) (v : AV), (entL as ++ List.replicate n none)[i]? = some (some v) → (off + i, cV b fa v) ∈ lv_args off (as.map (cV b fa)) ∧ v ∈ as := by
  induction as with
  | nil =>
    intro off i v h
    have h2 : (List.replicate n (none : Option AV))[i]? = some (some v) := h
    have h3 := List.eq_of_mem_replicate (List.mem_of_getElem? h2)
    cases h3
  | cons u l ih =>
    intro off i v h
    have e := cV_cat (b := b) (fa := fa) u
    unfold entL at h
    show (off + i, cV b fa v) ∈ (off, cV b fa u) :: lv_args (if (cV b fa u).category = 2 then off + 2 else off + 1) (l.map (cV b fa)) ∧ _
    by_cases hj : isJ u = true
    · rw [if_pos hj] at h e
      rw [if_pos e]
      match i, h with
      | 0, h => cases h; exact ⟨List.mem_cons_self, List.mem_cons_self⟩
      | 1, h => cases h
      | i + 2, h =>
        have h2 : (entL l ++ List.replicate n none)[i]? = some (some v) := h
        obtain ⟨g1, g2⟩ := ih (off + 2) i v h2
        exact ⟨List.mem_cons_of_mem _ (by rw [show off + (i + 2) = off + 2 + i by omega]; exact g1), List.mem_cons_of_mem _ g2⟩
    · rw [if_neg hj] at h e
      rw [if_neg (by omega)]
      match i, h with
      | 0, h => cases h; exact ⟨List.mem_cons_self, List.mem_cons_self⟩
      | i + 1, h =>
        have h2 : (entL l ++ List.replicate n none)[i]? = some (some v) := h
        obtain ⟨g1, g2⟩ := ih (off + 1) i v h2
        exact ⟨List.mem_cons_of_mem _ (by rw [show off + (i + 1) = off + 1 + i by omega]; exact g1), List.mem_cons_of_mem _ g2⟩
theorem LV_ent {b : Nat} {fa : Nat → Nat} {as : List AV} {nL : Nat} (hn : nVs as) (hl : (entL as).length ≤ nL) : LV b fa nL (ent as nL) ((lg_sl (as.map (cV b fa)) ++ List.replicate (nL - (lg_sl (as.map (cV b fa))).length) Slot.unset).toArray) := by
  have h := lv_entry (as.map (cV b fa)) (n := nL) (by rw [lgsl_len]; exact hl)
  refine ⟨h.1, h.2.1, by unfold ent; simp; omega, fun i v hv => ?_⟩
  obtain ⟨g1, g2⟩ := entL_at b fa _ as 0 i v hv
  rw [Nat.zero_add] at g1
  exact ⟨h.2.2 _ g1, hn v g2⟩
def MPre (B : BX) (S : List Shp) (as : List AV) (M : Mem) : Array Value → State → Prop := fun v U => v = (as.map (cV B.1 B.2.2.2.1)).toArray ∧ WR B S M U.heap ∧ nVs as ∧ va_K B.2.1 vwCl (tysL B.2.2.1) U ∧ FO B U ∧ B.1 ≤ U.heap.size
def MPost (B : BX) (r : Option AV) (S' : List Shp) (M' : Mem) (Pp : Prop) : Array Value → State → Outcome → State → Prop := fun _ st o t => o = .returned (r.map (cV B.1 B.2.2.2.1)) ∧ WR B S' M' t.heap ∧ (∀ v, r = some v → nV v) ∧ Pp ∧ va_F (fun q => B.1 ≤ q) st t
/-- a method's contract in the light machine -/
def Mth (ph : Bool) (y : MethodName) (cc : ByteArray) (nL : Nat) (ret : Option FieldType) (d mc ms : Nat) (S : List Shp) (as : List AV) (M : Mem) (r : Option AV) (S' : List Shp) (M' : Mem) (Pp : Prop) : Prop :=
  ∀ (l : Launch) (B : BX), B.2.2.2.2 = ph → Met l y (.code y cc nL ret :: BIG) ({ frames := d, cells := mc, slots := ms, locals := 40 * d }) (MPre B S as M) (MPost B r S' M' Pp) mc ms (fun q => B.1 ≤ q)
def Zr (K : KX) (B : BX) (r : Option AV) (S' : List Shp) (M' : Mem) (Pp : Prop) (mc ms : Nat) : State → Prop := MQ K.2.2.2.2.2.2.2.1 (MPost B r S' M' Pp) K.2.2.2.2.2.2.1 K.2.2.2.2.1 mc ms (fun q => B.1 ≤ q)
theorem MPre_blind {B : BX} {S : List Shp} {as : List AV} {M : Mem} : FrameBlind (MPre B S as M) := fun a U g mk q => ⟨q.1, q.2.1, q.2.2.1, va_K.moved (u := U) (U := U.calling g mk a) (Vm.Alike.refl U.vm) q.2.2.2.1, FO_same (U := U.calling g mk a) q.2.2.2.2.1 rfl rfl, q.2.2.2.2.2⟩
theorem Mth.of {ph : Bool} {y : MethodName} {cc : ByteArray} {nL : Nat} {ret : Option FieldType} {d mc ms : Nat} {S : List Shp} {as : List AV} {M : Mem} {r : Option AV} {S' : List Shp} {M' : Mem} {Pp : Prop} (hy : plainName y.cls = true) (hl : (entL as).length ≤ nL)
    (hb : ∀ (K : KX) (B : BX), Cx K B ph y cc nL ret d mc ms → Wx K B (Zr K B r S' M' Pp mc ms) 0 0 S nL M 0 (ent as nL) []) : Mth ph y cc nL ret d mc ms S as M r S' M' Pp := by
  intro l B hB
  refine Met.ofW (cc := cc) (maxL := nL) (ret := ret) hy rfl ?_
  intro p e s m args below meth c s₁ BL hml hv
  obtain ⟨rfl, hWR, hns, hK, hF, hbs⟩ := hv
  have hts := atoms_spec (ws := Cond.code y cc nL ret :: BIG) BL.pre
  have C : Cx (p, l, e, (headSpec (Cond.code y cc nL ret :: BIG) ({ frames := d, cells := mc, slots := ms, locals := 40 * d })).room, s, m, (as.map (cV B.1 B.2.2.2.1)).toArray, below, meth, c) B ph y cc nL ret d mc ms :=
    ⟨BL.exec, BL.bytes, hml, findClass_of_methodNamed BL.named, fun w h => hts w (List.mem_cons_of_mem _ h), hK, hF, hbs, BL.notSynchronized, BL.returns, (name_of_methodNamed BL.named BL.method).1, hB, Nat.le_refl _, Nat.le_refl _, Nat.le_refl _, Nat.le_refl _⟩
  have h := hb _ B C s.heap [] _ hWR va_S.rf (LV_ent hns hl) (fun v h => by cases h)
  rw [lg_entry_eq]
  exact h
/-- what the tables say of a method -/
def MI (y : MethodName) (cc : ByteArray) (nL : Nat) (ret : Option FieldType) (n : Nat) : Prop := Cond.code y cc nL ret ∈ BIG ∧ Cond.initialized y.cls ∈ BIG ∧ (y.cls ≠ "java/lang/invoke/MethodHandle" ∧ y.cls ≠ "java/lang/invoke/VarHandle") ∧ (parseMethodDescriptor y.desc).map (fun d => d.parameters.length) = some n ∧ nL ≤ 21
section MXC
variable {K : KX} {B : BX} {ph : Bool} {Z : State → Prop} {cs ss : Nat} {S : List Shp} {nL : Nat} {M : Mem} {pc : Nat} {ls : List (Option AV)} {rest : List AV} {y : MethodName} {cc : ByteArray} {ret : Option FieldType} {d mc ms : Nat}
variable {y' : MethodName} {cc' : ByteArray} {nL' : Nat} {ret' : Option FieldType} {d' mc' ms' idx : Nat} {as stk : List AV} {r : Option AV} {S' : List Shp} {M' : Mem} {Pp : Prop}
theorem mx_pre (C : Cx K B ph y cc nL ret d mc ms) {H : Heap} {locs : List Loc} (hW : WR B S M H) (hS : va_S (fun q => B.1 ≤ q) K.2.2.2.2.1.heap H locs) (hn : nVs as) : ∀ U : State, U.heap = H → K.2.2.2.2.1.WarmedH U.vm → MPre B S as M (as.map (cV B.1 B.2.2.2.1)).toArray U := fun U hU hWm =>
  ⟨rfl, by rw [hU]; exact hW, hn, va_K.moved hWm.alike (cx_K C), FO_moved (cx_F C) hS hU hWm, by rw [hU]; exact Nat.le_trans C.2.2.2.2.2.2.2.1 hS.1⟩
theorem mx_on {p : Program} {l : Launch} {e : Env} {R : Room} {s : State} {m : MethodId} {args : Array Value} {below : List Frame} {meth : Method} {c : Code} {H : Heap} {locs : List Loc} {la : Array Slot} {st0 : List Value} {a : Array Value} (hr : va_Run p l e R s m args below meth c H locs cs ss mc' ms' (F0 m pc la st0) (rest.map (cV B.1 B.2.2.2.1)) (MPost B r S' M' Pp a) (fun q => B.1 ≤ q)) (hS : va_S (fun q => B.1 ≤ q) s.heap H locs) (hL : LV B.1 B.2.2.2.1 nL ls la) (hn : nVs rest)
    (kk : Pp → Wx (p, l, e, R, s, m, args, below, meth, c) B Z (cs + mc') (ss + ms') S' nL M' (pc + 3) ls (r.toList ++ rest)) : W p l e R s m args below meth c H locs cs ss Z (F0 m pc la st0) := by
  intro T hT X
  obtain ⟨v, st₀, t, T', L, h0, X', hL', e1, e2, ⟨hv, hW', hnr, hp, hz, hk⟩, st⟩ := hr T hT X
  have hv' : v = r.map (cV B.1 B.2.2.2.1) := Outcome.returned.inj hv
  subst hv'
  rw [h0] at hz hk
  have hS' : va_S (fun q => B.1 ≤ q) s.heap T'.heap (locs ++ L) := ⟨Nat.le_trans hS.1 (by rw [e1]; exact hz), fun q h1 h2 => by rw [e1, hk q (Nat.lt_of_lt_of_le h1 hS.1) h2]; exact hS.2.1 q h1 h2, fun q hq => by
    rcases List.mem_append.mp hq with h | h
    · exact hS.2.2 q h
    · exact hL' q h⟩
  have hn' : nVs (r.toList ++ rest) := fun w hw => by
    rcases List.mem_append.mp hw with h | h
    · cases hr2 : r with
      | none => rw [hr2] at h; cases h
      | some w' =>
        rw [hr2] at h
        have : w = w' := by simpa using h
        rw [this]; exact hnr w' hr2
    · exact hn w h
  obtain ⟨t2, a1, b1⟩ := kk hp T'.heap (locs ++ L) la (by rw [e1]; exact hW') hS' hL hn' T' rfl X'
  refine ⟨t2, st t2 ?_, b1⟩
  have es : (r.toList ++ rest).map (cV B.1 B.2.2.2.1) = (r.map (cV B.1 B.2.2.2.1)).toList ++ rest.map (cV B.1 B.2.2.2.1) := by
    cases r <;> rfl
  rw [es] at a1
  exact a1
theorem mx_callB (C : Cx K B ph y cc nL ret d mc ms) (hI : MI y' cc' nL' ret' as.length) (hl : Cond.methodLink y.cls idx y' ∈ BIG) (hd' : d' + 1 ≤ d) : CallB K.2.2.2.1 K.2.2.2.2.1 K.2.2.2.2.2.2.1 y.cls idx y' cc' nL' ret' (.code y' cc' nL' ret' :: BIG) ({ frames := d', cells := mc', slots := ms', locals := 40 * d' }) mc' ms' as.length := by
  obtain ⟨g1, g2, g3, g4, g5⟩ := hI
  have hts := C.2.2.2.2.1
  refine callB_of as.length hts (big_good fun w hw => ?_) rfl rfl rfl (hts _ g2) (hts _ hl) ⟨g3.1, g3.2, g4⟩ ⟨?_, ?_⟩
  · rcases List.mem_cons.mp hw with e | e
    · rw [e]; exact g1
    · exact e
  · have := C.2.2.2.2.2.2.2.2.2.2.2.2.1
    show d' + 1 ≤ _
    omega
  · have := C.2.2.2.2.2.2.2.2.2.2.2.2.2.1
    show 8 + (nL' + 11) + 40 * d' ≤ _
    omega
theorem rest_room {m : MethodId} {la : Array Slot} {st0 : List Value} (h : rest.length ≤ 4) : 2 * (F0 m pc la st0).monitorRoom + ((rest.map (cV B.1 B.2.2.2.1)).map fun v => v.category).sum ≤ 8 := by
  have := catSum B.1 B.2.2.2.1 rest
  show 2 * 0 + _ ≤ 8
  omega
theorem map_rev {b : Nat} {fa : Nat → Nat} (as : List AV) : (as.reverse).map (cV b fa) = (as.map (cV b fa)).reverse := List.map_reverse ..
theorem nVs_app {a b : List AV} (h : nVs (a ++ b)) : nVs a ∧ nVs b := ⟨fun v hv => h v (List.mem_append_left _ hv), fun v hv => h v (List.mem_append_right _ hv)⟩
theorem nVs_rev {a : List AV} (h : nVs a.reverse) : nVs a := fun v hv => h v (List.mem_reverse.mpr hv)
theorem cx_room (C : Cx K B ph y cc nL ret d mc ms) (hm' : cs + mc' ≤ mc ∧ ss + ms' ≤ ms) : cs + mc' ≤ K.2.2.2.1.cells ∧ ss + ms' ≤ K.2.2.2.1.slots := ⟨Nat.le_trans hm'.1 C.2.2.2.2.2.2.2.2.2.2.2.2.2.2.1, Nat.le_trans hm'.2 C.2.2.2.2.2.2.2.2.2.2.2.2.2.2.2⟩
theorem mx_callV (C : Cx K B ph y cc nL ret d mc ms) {c n : Nat} {o : Int} {Cn : String} {T' : u_T} (hM : Mth ph y' cc' nL' ret' d' mc' ms' S (aR o :: as) M r S' M' Pp) (hI : MI y' cc' nL' ret' as.length) (hin : Cond.instanceMethod y' ∈ BIG ∧ Cond.selects y'.cls y' y' ∈ BIG) (hl : Cond.methodLink y.cls idx y' ∈ BIG) (hC : CI c Cn T') (hcn : Cn = y'.cls) (hs : shp S o = some (10 + c, n)) (hd' : d' + 1 ≤ d) (hm' : cs + mc' ≤ mc ∧ ss + ms' ≤ ms) (hst : stk = as.reverse ++ aR o :: rest) (h8 : rest.length ≤ 4) (hd : decode cc pc = .ok (.invokevirtual idx, 3))
    (k : Pp → Wx K B Z (cs + mc') (ss + ms') S' nL M' (pc + 3) ls (r.toList ++ rest)) : Wx K B Z cs ss S nL M pc ls stk := by
  obtain ⟨p, l, e, R, s, m, args, below, meth, c0⟩ := K
  intro H locs la hW hS hL hn
  subst hst
  subst hcn
  obtain ⟨hn1, hn2⟩ := nVs_app hn
  have hrun := va_runV (p := p) (l := l) (e := e) (R := R) (s := s) (m := m) (args := args) (below := below) (meth := meth) (c := c0) (b := B.1 + o.toNat) (As := as.map (cV B.1 B.2.2.2.1)) (rest := rest.map (cV B.1 B.2.2.2.1)) (cells := cs) (slots := ss) (H := H) (locs := locs) (g := F0 m pc la ((as.reverse ++ aR o :: rest).map (cV B.1 B.2.2.2.1))) ⟨C.1, C.2.1, C.2.2.1, C.2.2.2.1, C.2.2.2.2.1⟩ (hM l B C.2.2.2.2.2.2.2.2.2.2.2.1) ⟨mx_callB C hI hl hd', C.2.2.2.2.1 _ hin.1, C.2.2.2.2.1 _ hin.2⟩
    ⟨MPre_blind, va_recv (cx_K C) hW.1 hC.1 (by rw [wld_at hs, fld_o]), mx_pre (as := aR o :: as) C hW hS (nVs_cn (nVs_hd hn2) (nVs_rev hn1))⟩ rfl (by rw [List.length_map]) hL.1 (by show List.map _ _ = _; rw [List.map_append, map_rev]; rfl) (rest_room h8) hd (cx_room C hm')
  exact mx_on hrun hS hL (nVs_tl hn2) k
theorem mx_callS (C : Cx K B ph y cc nL ret d mc ms) (hM : Mth ph y' cc' nL' ret' d' mc' ms' S as M r S' M' Pp) (hI : MI y' cc' nL' ret' as.length) (hin : Cond.static y' ∈ BIG) (hl : Cond.methodLink y.cls idx y' ∈ BIG) (hd' : d' + 1 ≤ d) (hm' : cs + mc' ≤ mc ∧ ss + ms' ≤ ms) (hst : stk = as.reverse ++ rest) (h8 : rest.length ≤ 4) (hd : decode cc pc = .ok (.invokestatic idx, 3))
    (k : Pp → Wx K B Z (cs + mc') (ss + ms') S' nL M' (pc + 3) ls (r.toList ++ rest)) : Wx K B Z cs ss S nL M pc ls stk := by
  obtain ⟨p, l, e, R, s, m, args, below, meth, c0⟩ := K
  intro H locs la hW hS hL hn
  subst hst
  obtain ⟨hn1, hn2⟩ := nVs_app hn
  have hrun := va_runS (p := p) (l := l) (e := e) (R := R) (s := s) (m := m) (args := args) (below := below) (meth := meth) (c := c0) (As := as.map (cV B.1 B.2.2.2.1)) (rest := rest.map (cV B.1 B.2.2.2.1)) (cells := cs) (slots := ss) (H := H) (locs := locs) (g := F0 m pc la ((as.reverse ++ rest).map (cV B.1 B.2.2.2.1))) ⟨C.1, C.2.1, C.2.2.1, C.2.2.2.1, C.2.2.2.2.1⟩ (hM l B C.2.2.2.2.2.2.2.2.2.2.2.1) ⟨mx_callB C hI hl hd', C.2.2.2.2.1 _ hin⟩
    ⟨MPre_blind, mx_pre (as := as) C hW hS (nVs_rev hn1)⟩ rfl (by rw [List.length_map]) hL.1 (by show List.map _ _ = _; rw [List.map_append, map_rev]) (rest_room h8) hd (cx_room C hm')
  exact mx_on hrun hS hL hn2 k
theorem mx_callI (C : Cx K B ph y cc nL ret d mc ms) {o : Int} (hM : Mth ph y' cc' nL' none d' mc' ms' S (aR o :: as) M r S' M' Pp) (hI : MI y' cc' nL' none as.length) (hin : Cond.instanceMethod y' ∈ BIG) (hnm : y'.name = "<init>") (hl : Cond.methodLink y.cls idx y' ∈ BIG) (hd' : d' + 1 ≤ d) (hm' : cs + mc' ≤ mc ∧ ss + ms' ≤ ms) (hst : stk = as.reverse ++ aR o :: rest) (h8 : rest.length ≤ 4) (hd : decode cc pc = .ok (.invokespecial idx, 3))
    (k : Pp → Wx K B Z (cs + mc') (ss + ms') S' nL M' (pc + 3) ls (r.toList ++ rest)) : Wx K B Z cs ss S nL M pc ls stk := by
  obtain ⟨p, l, e, R, s, m, args, below, meth, c0⟩ := K
  intro H locs la hW hS hL hn
  subst hst
  obtain ⟨hn1, hn2⟩ := nVs_app hn
  have hrun := va_runI (p := p) (l := l) (e := e) (R := R) (s := s) (m := m) (args := args) (below := below) (meth := meth) (c := c0) (b := B.1 + o.toNat) (As := as.map (cV B.1 B.2.2.2.1)) (rest := rest.map (cV B.1 B.2.2.2.1)) (cells := cs) (slots := ss) (H := H) (locs := locs) (g := F0 m pc la ((as.reverse ++ aR o :: rest).map (cV B.1 B.2.2.2.1))) ⟨C.1, C.2.1, C.2.2.1, C.2.2.2.1, C.2.2.2.2.1⟩ (hM l B C.2.2.2.2.2.2.2.2.2.2.2.1) ⟨mx_callB C hI hl hd', hnm, C.2.2.2.2.1 _ hin⟩
    ⟨MPre_blind, mx_pre (as := aR o :: as) C hW hS (nVs_cn (nVs_hd hn2) (nVs_rev hn1))⟩ rfl (by rw [List.length_map]) hL.1 (by show List.map _ _ = _; rw [List.map_append, map_rev]; rfl) (rest_room h8) hd (cx_room C hm')
  exact mx_on hrun hS hL (nVs_tl hn2) k
theorem mx_callCN (C : Cx K B ph y cc nL ret d mc ms) {host : String} (hI : MI y' cc' nL' ret' as.length) (hl : Cond.methodLinkNest y.cls idx y' host ∈ nests) (hd' : d' + 1 ≤ d) : va_CN K.2.2.2.1 K.2.2.2.2.1 K.2.2.2.2.2.2.1 y.cls idx y' host cc' nL' ret' (.code y' cc' nL' ret' :: BIG) ({ frames := d', cells := mc', slots := ms', locals := 40 * d' }) mc' ms' as.length := by
  obtain ⟨g1, g2, g3, g4, g5⟩ := hI
  have hts := C.2.2.2.2.1
  refine va_cnB as.length hts (big_good fun w hw => ?_) rfl rfl rfl ((cx_F C).2.2.2.2.2.2.2.2.2.2.2 _ hl) (hts _ g2) ⟨g3.1, g3.2, g4⟩ ⟨?_, ?_⟩
  · rcases List.mem_cons.mp hw with e | e
    · rw [e]; exact g1
    · exact e
  · have := C.2.2.2.2.2.2.2.2.2.2.2.2.1
    show d' + 1 ≤ _
    omega
  · have := C.2.2.2.2.2.2.2.2.2.2.2.2.2.1
    show 8 + (nL' + 11) + 40 * d' ≤ _
    omega
theorem mx_callSN (C : Cx K B ph y cc nL ret d mc ms) {host : String} (hM : Mth ph y' cc' nL' ret' d' mc' ms' S as M r S' M' Pp) (hI : MI y' cc' nL' ret' as.length) (hin : Cond.static y' ∈ BIG) (hl : Cond.methodLinkNest y.cls idx y' host ∈ nests) (hd' : d' + 1 ≤ d) (hm' : cs + mc' ≤ mc ∧ ss + ms' ≤ ms) (hst : stk = as.reverse ++ rest) (h8 : rest.length ≤ 4) (hd : decode cc pc = .ok (.invokestatic idx, 3))
    (k : Pp → Wx K B Z (cs + mc') (ss + ms') S' nL M' (pc + 3) ls (r.toList ++ rest)) : Wx K B Z cs ss S nL M pc ls stk := by
  obtain ⟨p, l, e, R, s, m, args, below, meth, c0⟩ := K
  intro H locs la hW hS hL hn
  subst hst
  obtain ⟨hn1, hn2⟩ := nVs_app hn
  have hrun := va_runSN (p := p) (l := l) (e := e) (R := R) (s := s) (m := m) (args := args) (below := below) (meth := meth) (c := c0) (As := as.map (cV B.1 B.2.2.2.1)) (rest := rest.map (cV B.1 B.2.2.2.1)) (cells := cs) (slots := ss) (H := H) (locs := locs) (g := F0 m pc la ((as.reverse ++ rest).map (cV B.1 B.2.2.2.1))) ⟨C.1, C.2.1, C.2.2.1, C.2.2.2.1, C.2.2.2.2.1⟩ (hM l B C.2.2.2.2.2.2.2.2.2.2.2.1) ⟨mx_callCN C hI hl hd', C.2.2.2.2.1 _ hin, trivial⟩
    ⟨MPre_blind, mx_pre (as := as) C hW hS (nVs_rev hn1)⟩ rfl (by rw [List.length_map]) hL.1 (by show List.map _ _ = _; rw [List.map_append, map_rev]) (rest_room h8) hd (cx_room C hm')
  exact mx_on hrun hS hL hn2 k
theorem mx_callIN (C : Cx K B ph y cc nL ret d mc ms) {o : Int} {host : String} (hM : Mth ph y' cc' nL' none d' mc' ms' S (aR o :: as) M r S' M' Pp) (hI : MI y' cc' nL' none as.length) (hin : Cond.instanceMethod y' ∈ BIG) (hnm : y'.name = "<init>") (hl : Cond.methodLinkNest y.cls idx y' host ∈ nests) (hd' : d' + 1 ≤ d) (hm' : cs + mc' ≤ mc ∧ ss + ms' ≤ ms) (hst : stk = as.reverse ++ aR o :: rest) (h8 : rest.length ≤ 4) (hd : decode cc pc = .ok (.invokespecial idx, 3))
    (k : Pp → Wx K B Z (cs + mc') (ss + ms') S' nL M' (pc + 3) ls (r.toList ++ rest)) : Wx K B Z cs ss S nL M pc ls stk := by
  obtain ⟨p, l, e, R, s, m, args, below, meth, c0⟩ := K
  intro H locs la hW hS hL hn
  subst hst
  obtain ⟨hn1, hn2⟩ := nVs_app hn
  have hrun := va_runIN (p := p) (l := l) (e := e) (R := R) (s := s) (m := m) (args := args) (below := below) (meth := meth) (c := c0) (b := B.1 + o.toNat) (As := as.map (cV B.1 B.2.2.2.1)) (rest := rest.map (cV B.1 B.2.2.2.1)) (cells := cs) (slots := ss) (H := H) (locs := locs) (g := F0 m pc la ((as.reverse ++ aR o :: rest).map (cV B.1 B.2.2.2.1))) ⟨C.1, C.2.1, C.2.2.1, C.2.2.2.1, C.2.2.2.2.1⟩ (hM l B C.2.2.2.2.2.2.2.2.2.2.2.1) ⟨mx_callCN C hI hl hd', hnm, C.2.2.2.2.1 _ hin⟩
    ⟨MPre_blind, mx_pre (as := aR o :: as) C hW hS (nVs_cn (nVs_hd hn2) (nVs_rev hn1))⟩ rfl (by rw [List.length_map]) hL.1 (by show List.map _ _ = _; rw [List.map_append, map_rev]; rfl) (rest_room h8) hd (cx_room C hm')
  exact mx_on hrun hS hL (nVs_tl hn2) k
/-- a call of a text constant's own method -/
theorem mx_callF (C : Cx K B ph y cc nL ret d mc ms) {i : Nat} (hi : i < 4) (hM : Mth ph y' cc' nL' ret' d' mc' ms' S (aF (i + 2) :: as) M r S' M' Pp) (hI : MI y' cc' nL' ret' as.length) (hin : Cond.instanceMethod y' ∈ BIG ∧ Cond.selects "java/lang/String" y' y' ∈ BIG) (hl : Cond.methodLink y.cls idx y' ∈ BIG) (hd' : d' + 1 ≤ d) (hm' : cs + mc' ≤ mc ∧ ss + ms' ≤ ms) (hst : stk = as.reverse ++ aF (i + 2) :: rest) (h8 : rest.length ≤ 4) (hd : decode cc pc = .ok (.invokevirtual idx, 3))
    (k : Pp → Wx K B Z (cs + mc') (ss + ms') S' nL M' (pc + 3) ls (r.toList ++ rest)) : Wx K B Z cs ss S nL M pc ls stk := by
  obtain ⟨p, l, e, R, s, m, args, below, meth, c0⟩ := K
  intro H locs la hW hS hL hn
  subst hst
  obtain ⟨hn1, hn2⟩ := nVs_app hn
  have ec : cV B.1 B.2.2.2.1 (aF (i + 2)) = .ref (B.2.2.2.1 (i + 2)) := by
    rfl
  have hrun := va_runV (p := p) (l := l) (e := e) (R := R) (s := s) (m := m) (args := args) (below := below) (meth := meth) (c := c0) (b := B.2.2.2.1 (i + 2)) (As := as.map (cV B.1 B.2.2.2.1)) (rest := rest.map (cV B.1 B.2.2.2.1)) (cells := cs) (slots := ss) (H := H) (locs := locs) (g := F0 m pc la ((as.reverse ++ aF (i + 2) :: rest).map (cV B.1 B.2.2.2.1))) ⟨C.1, C.2.1, C.2.2.1, C.2.2.2.1, C.2.2.2.2.1⟩ (hM l B C.2.2.2.2.2.2.2.2.2.2.2.1) ⟨mx_callB C hI hl hd', C.2.2.2.2.1 _ hin.1, C.2.2.2.2.1 _ hin.2⟩
    ⟨MPre_blind, vk_recv (i := i) (adK := fun i => B.2.2.2.1 (i + 2)) (cx_F C).2.2.1 hi hS, by
      have h := mx_pre (as := aF (i + 2) :: as) C hW hS (nVs_cn trivial (nVs_rev hn1))
      rw [List.map_cons, ec] at h
      exact h⟩ rfl (by rw [List.length_map]) hL.1 (by show List.map _ _ = _; rw [List.map_append, map_rev, List.map_cons, ec]) (rest_room h8) hd (cx_room C hm')
  rw [List.map_append, map_rev, List.map_cons, ec] at hrun ⊢
  have h2 : MPost B r S' M' Pp (Value.ref (B.2.2.2.1 (i + 2)) :: as.map (cV B.1 B.2.2.2.1)).toArray = MPost B r S' M' Pp #[] := rfl
  exact mx_on hrun hS hL (nVs_tl hn2) k
theorem mx_objInit (C : Cx K B ph y cc nL ret d mc ms) {o : Int} (hl : Cond.methodLink y.cls idx Lib.objectInit ∈ BIG) (hi : Cond.instanceMethod Lib.objectInit ∈ BIG) (hc : Cond.code Lib.objectInit ⟨#[0xb1]⟩ 1 none ∈ BIG) (hd1 : 1 ≤ d) (h8 : rest.length ≤ 4) (hd : decode cc pc = .ok (.invokespecial idx, 3)) (k : Wx K B Z cs ss S nL M (pc + 3) ls rest) : Wx K B Z cs ss S nL M pc ls (aR o :: rest) := by
  obtain ⟨p, l, e, R, s, m, args, below, meth, c0⟩ := K
  intro H locs la hW hS hL hn
  have h1 : d ≤ R.frames := C.2.2.2.2.2.2.2.2.2.2.2.2.1
  have h2 : 40 * d ≤ R.locals := C.2.2.2.2.2.2.2.2.2.2.2.2.2.1
  have h3 := catSum B.1 B.2.2.2.1 rest
  have hts := C.2.2.2.2.1
  refine W.objInit C.1 C.2.1 C.2.2.2.1 (hts _ hl) (hts _ hi) (hts _ hc) (g := F0 m pc la (.ref (B.1 + o.toNat) :: rest.map (cV B.1 B.2.2.2.1))) rfl (hL.1.trans C.2.2.1.symm) rfl hd (show 1 ≤ R.frames by omega) (show 2 * 0 + ((rest.map (cV B.1 B.2.2.2.1)).map fun v => v.category).sum + 12 ≤ R.locals by omega) ?_
  exact k H locs la hW hS hL (nVs_tl hn)
/-! ends -/
theorem ret_post {p : Program} {l : Launch} {e : Env} {R : Room} {s : State} {m : MethodId} {args : Array Value} {below : List Frame} {meth : Method} {c : Code} {H : Heap} {locs : List Loc} (hW : WR B S M H) (hS : va_S (fun q => B.1 ≤ q) s.heap H locs) (hr : ∀ v, r = some v → nV v) (hp : Pp) : ∀ t : State, t.heap = H → s.WarmedH t.vm → MPost B r S M Pp args s (.returned (r.map (cV B.1 B.2.2.2.1))) t := fun t ht _ =>
  ⟨rfl, by rw [ht]; exact hW, hr, hp, hS.F ht⟩
theorem mx_ireturn (C : Cx K B ph y cc nL (some .int) d mc ms) {z : Int} (hd : decode cc pc = .ok (.ireturn, 1)) (hp : Pp) (hm : cs ≤ mc ∧ ss ≤ ms) : Wx K B (Zr K B (some (aI z)) S M Pp mc ms) cs ss S nL M pc ls [aI z] := by
  obtain ⟨p, l, e, R, s, m, args, below, meth, c0⟩ := K
  intro H locs la hW hS hL hn
  exact W.widen hm.1 hm.2 (W.iret C.1 C.2.1 C.2.2.2.2.2.2.2.2.2.1 (ret_post (p := p) (l := l) (e := e) (R := R) (m := m) (below := below) (meth := meth) (c := c0) (r := some (aI z)) hW hS (fun v h => by cases h; exact nVs_hd hn) hp) hS.2.2 hd C.2.2.2.2.2.2.2.2.1)
theorem mx_zreturn (C : Cx K B ph y cc nL (some .boolean) d mc ms) {z : Int} (hd : decode cc pc = .ok (.ireturn, 1)) (hz : z = 0 ∨ z = 1) (hp : Pp) (hm : cs ≤ mc ∧ ss ≤ ms) : Wx K B (Zr K B (some (aI z)) S M Pp mc ms) cs ss S nL M pc ls [aI z] := by
  obtain ⟨p, l, e, R, s, m, args, below, meth, c0⟩ := K
  intro H locs la hW hS hL hn
  exact W.widen hm.1 hm.2 (W.zret C.1 C.2.1 C.2.2.2.2.2.2.2.2.2.1 (by rcases hz with rfl | rfl <;> rfl) (ret_post (p := p) (l := l) (e := e) (R := R) (m := m) (below := below) (meth := meth) (c := c0) (r := some (aI z)) hW hS (fun v h => by cases h; exact nVs_hd hn) hp) hS.2.2 hd C.2.2.2.2.2.2.2.2.1)
theorem mx_creturn (C : Cx K B ph y cc nL (some .char) d mc ms) {z : Int} (hd : decode cc pc = .ok (.ireturn, 1)) (hz : 0 ≤ z ∧ z < 65536) (hp : Pp) (hm : cs ≤ mc ∧ ss ≤ ms) : Wx K B (Zr K B (some (aI z)) S M Pp mc ms) cs ss S nL M pc ls [aI z] := by
  obtain ⟨p, l, e, R, s, m, args, below, meth, c0⟩ := K
  intro H locs la hW hS hL hn
  have e1 : Int32.ofInt z = nI z.toNat := by
    show _ = Int32.ofNat z.toNat
    rw [← Int32.ofInt_eq_ofNat, idx_nat hz.1]
  exact W.widen hm.1 hm.2 (W.zret C.1 C.2.1 C.2.2.2.2.2.2.2.2.2.1 (by rw [e1]; exact (pk_charN (by omega)).1) (ret_post (p := p) (l := l) (e := e) (R := R) (m := m) (below := below) (meth := meth) (c := c0) (r := some (aI z)) hW hS (fun v h => by cases h; exact nVs_hd hn) hp) hS.2.2 hd C.2.2.2.2.2.2.2.2.1)
theorem mx_lreturn (C : Cx K B ph y cc nL (some .long) d mc ms) {z : Int} (hd : decode cc pc = .ok (.lreturn, 1)) (hp : Pp) (hm : cs ≤ mc ∧ ss ≤ ms) : Wx K B (Zr K B (some (aJ z)) S M Pp mc ms) cs ss S nL M pc ls [aJ z] := by
  obtain ⟨p, l, e, R, s, m, args, below, meth, c0⟩ := K
  intro H locs la hW hS hL hn
  exact W.widen hm.1 hm.2 (W.lret C.1 C.2.1 C.2.2.2.2.2.2.2.2.2.1 (ret_post (p := p) (l := l) (e := e) (R := R) (m := m) (below := below) (meth := meth) (c := c0) (r := some (aJ z)) hW hS (fun v h => by cases h; exact nVs_hd hn) hp) hS.2.2 hd C.2.2.2.2.2.2.2.2.1)
theorem mx_return (C : Cx K B ph y cc nL none d mc ms) (hd : decode cc pc = .ok (.return_, 1)) (hp : Pp) (hm : cs ≤ mc ∧ ss ≤ ms) : Wx K B (Zr K B none S M Pp mc ms) cs ss S nL M pc ls [] := by
  obtain ⟨p, l, e, R, s, m, args, below, meth, c0⟩ := K
  intro H locs la hW hS hL hn
  exact W.widen hm.1 hm.2 (W.vret C.1 C.2.1 C.2.2.2.2.2.2.2.2.2.1 (ret_post (p := p) (l := l) (e := e) (R := R) (m := m) (below := below) (meth := meth) (c := c0) (r := none) hW hS (fun v h => by cases h) hp) hS.2.2 hd C.2.2.2.2.2.2.2.2.1)
end MXC
