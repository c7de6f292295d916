/-! THE CLAIM OUT OF ONE WALK OF THE LAW'S BODY. Your part is whole_start (and what it stands on); all else here is the same for every law, but numbers. -/
def R_law : String := "SqueakShopLaw"
def lw_P (b : Addr) (xs : List Int32) (args : Array Value) (s : State) : Prop := args = #[.ref b] ∧ s.IntsAt b xs ∧ xs.length ≤ 3072 ∧ (Jvm.Cond.and given_1 narrow_1).before args s = true
def lw_Q (_ : Array Value) (s : State) (o : Outcome) (t : State) : Prop := o = .returned (some (.int 1)) ∧ Framed s o t [] 600000 7302250
def lw_Z (below : List Frame) (a : Array Value) (s : State) : State → Prop := fun t => ∃ o, t.status = .running ∧ Ended t below o ∧ lw_Q a s o t
/-- the law's own end, with 1 on the stack, nothing written that was there before, its room as the claim has it -/
theorem lw_ret {p : Program} {l : Launch} {e : Env} {s : State} {m : MethodId} {below : List Frame} {meth : Method} {c : Code} {b : Nat} (hx : p.tables.exec = Jvm.exec) (hb : c.code = code) (hr : meth.sig.returnType = ret) (hlocks : meth.locks = false) {pc : Nat} {H : Heap} {ls : Array Slot} (hdg : decode code pc = .ok (.ireturn, 1)) : W p l e room_1 s m #[Value.ref b] below meth c H [] 600000 7302250 (lw_Z below #[Value.ref b] s) (F0 m pc ls [.int 1]) := by
  intro T hT X
  obtain ⟨fs, hret, hrun, hended, hW, hframe⟩ := X.leave (v := some (.int 1)) (hlocks := hlocks) (fun h => by rw [hr] at h; cases h)
  have hmeth' : T.vm.method? m = some meth := X.method'
  refine ⟨T.setFrames fs, ?_, .returned (some (.int 1)), hrun, hended, rfl, ⟨_, rfl⟩, hW, hframe⟩
  jvm_step X.here [X.here.top, hx, hb, hdg, hmeth', hr, ret, narrow_b1]
  (try refine ⟨rfl, ?_⟩); (try refine ⟨rfl, ?_⟩)
  first | (intro acts; rw [hret _ acts rfl rfl rfl]) | rw [hret _ _ rfl rfl rfl]
  exact Steps.refl _
/-- what holds at the law's entry: the machine, the code, the tables' words (any of lw_tbl by 'hts w (by decide +kernel)'), the script of L ints xs at the cell b, what the Statement gives of the start (any of its parts by flat_of_before) -/
def lw_At (p : Program) (s : State) (m : MethodId) (meth : Method) (c : Code) (b L : Nat) (xs : Nat → Int32) : Prop :=
  p.tables.exec = Jvm.exec ∧ c.code = code ∧ meth.sig.returnType = ret ∧ c.maxLocals = 4 ∧ s.vm.findClass R_law = some m.cls ∧ (∀ w ∈ lw_tbl, w.before #[Value.ref b] s = true) ∧ va_X b L xs s s.heap ∧ b < s.heap.size ∧ meth.locks = false ∧ (Jvm.Cond.and given_1 narrow_1).before #[Value.ref b] s = true

/-! the law's own script, and its end, in the light machine -/
def ZL (K : KX) : State → Prop := lw_Z K.2.2.2.2.2.2.2.1 K.2.2.2.2.2.2.1 K.2.2.2.2.1
def SCR (K : KX) (B : BX) (L : Nat) (xv : Int → Int) : Prop := ∃ xs : Nat → Int32, va_X (B.2.2.2.1 20) L xs K.2.2.2.2.1 K.2.2.2.2.1.heap ∧ B.2.2.2.1 20 < K.2.2.2.2.1.heap.size ∧ ¬ B.1 ≤ B.2.2.2.1 20 ∧ L < 2147483648 ∧ ∀ i : Int, xv i = (xs i.toNat).toInt
section MXL
variable {K : KX} {B : BX} {ph : Bool} {Z : State → Prop} {cs ss : Nat} {S : List Shp} {nL : Nat} {M : Mem} {pc : Nat} {ls : List (Option AV)} {rest : List AV} {y : MethodName} {cc : ByteArray} {ret : Option FieldType} {d mc ms : Nat} {L : Nat} {xv : Int → Int}
theorem mx_scl (C : Cx K B ph y cc nL ret d mc ms) (hX : SCR K B L xv) {i : Int} (hd : decode cc pc = .ok (.iaload, 1)) (h0 : 0 ≤ i) (h1 : i < (L : Int)) (k : Wx K B Z cs ss S nL M (pc + 1) ls (aI (xv i) :: rest)) : Wx K B Z cs ss S nL M pc ls (aI i :: aF 20 :: rest) := by
  obtain ⟨p, l, e, R, s, m, args, below, meth, c⟩ := K
  intro H locs la hW hS hL hn
  obtain ⟨xs, x1, x2, x3, x4, x5⟩ := hX
  have hi : i32 i := nVs_hd hn
  refine va_sld C.1 C.2.1 x1 x2 x3 hS (o_in hi h0 h1) hd ?_
  have hh := k H locs la hW hS hL (nVs_cn (show i32 (xv i) by rw [x5]; exact nT _) (nVs_tl (nVs_tl hn)))
  rw [List.map_cons] at hh
  refine W.eq (congrArg (fun v => F0 m (pc + 1) la (v :: rest.map (cV B.1 B.2.2.2.1))) ?_) hh
  show Value.int (xs (Int32.ofInt i).toNatClampNeg) = Value.int (Int32.ofInt (xv i))
  rw [o_cl hi h0, x5, Int32.ofInt_toInt]
theorem mx_scn (C : Cx K B ph y cc nL ret d mc ms) (hX : SCR K B L xv) (hd : decode cc pc = .ok (.arraylength, 1)) (k : Wx K B Z cs ss S nL M (pc + 1) ls (aI (L : Int) :: rest)) : Wx K B Z cs ss S nL M pc ls (aF 20 :: rest) := by
  obtain ⟨p, l, e, R, s, m, args, below, meth, c⟩ := K
  intro H locs la hW hS hL hn
  obtain ⟨xs, x1, x2, x3, x4, x5⟩ := hX
  refine va_slen C.1 C.2.1 x1 x2 x3 hS hd ?_
  have hh := k H locs la hW hS hL (nVs_cn (show i32 (L : Int) by unfold i32; omega) (nVs_tl hn))
  rw [List.map_cons] at hh
  refine W.eq (congrArg (fun v => F0 m (pc + 1) la (v :: rest.map (cV B.1 B.2.2.2.1))) ?_) hh
  show Value.int (Int32.ofNat L) = Value.int (Int32.ofInt (L : Int))
  rw [Int32.ofInt_eq_ofNat]
theorem mx_law1 {p : Program} {l : Launch} {e : Env} {s : State} {m : MethodId} {below : List Frame} {meth : Method} {c : Code} {b : Nat} {y : MethodName} (C : Cx (p, l, e, room_1, s, m, #[Value.ref b], below, meth, c) B ph y code 4 (some .boolean) d mc ms) (hb : B.1 = s.heap.size) (hm : cs ≤ 600000 ∧ ss ≤ 7302250) (hd : decode code pc = .ok (.ireturn, 1)) : Wx (p, l, e, room_1, s, m, #[Value.ref b], below, meth, c) B (ZL (p, l, e, room_1, s, m, #[Value.ref b], below, meth, c)) cs ss S 4 M pc ls [aI 1] := by
  intro H locs la hW hS hL hn
  exact va_forget (fun q hq => by have := hS.2.2 q hq; have h2 : B.1 ≤ q.base := this; rw [hb] at h2; exact h2) (W.widen hm.1 hm.2 (lw_ret C.1 C.2.1 C.2.2.2.2.2.2.2.2.2.1 C.2.2.2.2.2.2.2.2.1 hd))
end MXL
