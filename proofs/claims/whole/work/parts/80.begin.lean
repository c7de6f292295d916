/-! the start: classes, rows' classes, statics, text constants, nest mates, out of the tables and the statement's words of the start; the walk from the entry to the loop -/
theorem st_prim {args : Array Value} {s : State} {ty : FieldType} (h : (Cond.arrayClass ty).before args s = true) : ∃ cA : ClassId, ArrOfT s cA ty ∧ s.vm.findClass ("[" ++ ty.toString) = some cA := by
  obtain ⟨cA, kA, comp, h1, h2, h3⟩ := Cond.arrayClass_spec h
  exact ⟨cA, fun n z => ⟨fun k h => (by cases h), kA, h2, comp, h3⟩, h1⟩
theorem st_obj {args : Array Value} {s : State} {C : String} (h : (Cond.arrayOver (.object C)).before args s = true) : ∃ cA : ClassId, ArrOfT s cA (.object C) ∧ va_RA s cA (.object C) := by
  obtain ⟨comp, c, k, h1, h2, h3, h4, h5⟩ := Cond.arrayOver_spec h
  exact ⟨c, fun n z => ⟨fun k h => (by cases h), k, h3, comp, h4⟩, k, comp, h3, h4, h1, h5⟩
theorem st_rows {args : Array Value} {s : State} (hts : ∀ w ∈ lw_tbl, w.before args s = true) : ∃ cA : Nat → ClassId, ∀ (k : Nat) (q : ClassId × FieldType), (tysL cA)[k]? = some q → ArrOfT s q.1 q.2 ∧ va_RA s q.1 q.2 := by
  have hb : ∀ w ∈ BIG, w.before args s = true := fun w hw => hts w (List.mem_filter.mp hw).1
  obtain ⟨c0, a0, b0⟩ := st_prim (hb _ ac_int)
  obtain ⟨c1, a1, b1⟩ := st_prim (hb _ ac_byte)
  obtain ⟨c2, a2, b2⟩ := st_prim (hb _ ac_boolean)
  obtain ⟨c3, a3, b3⟩ := st_prim (hb _ ac_long)
  obtain ⟨c4, a4, b4⟩ := st_obj (hts (.arrayOver (.object RX3)) (by decide +kernel))
  obtain ⟨c5, a5, b5⟩ := st_obj (hts (.arrayOver (.object RX4)) (by decide +kernel))
  refine ⟨fun k => match k with
    | 0 => c0
    | 1 => c1
    | 2 => c2
    | 3 => c3
    | 4 => c4
    | _ => c5, fun k q hq => ?_⟩
  match k, hq with
  | 0, hq => cases hq; exact ⟨a0, b0⟩
  | 1, hq => cases hq; exact ⟨a1, b1⟩
  | 2, hq => cases hq; exact ⟨a2, b2⟩
  | 3, hq => cases hq; exact ⟨a3, b3⟩
  | 4, hq => cases hq; exact ⟨a4, b4⟩
  | 5, hq => cases hq; exact ⟨a5, b5⟩
  | k + 6, hq => exact absurd hq (by simp [tysL])
theorem st_cls {args : Array Value} {s : State} (hts : ∀ w ∈ lw_tbl, w.before args s = true) : ∃ (dC : Nat → ClassId) (dI : Nat → Nat → Nat), ∀ (k : Nat) (q : vw_C), vwCl[k]? = some q → u_Kn s q.1 q.2.1 q.2.2 (dC k) (dI k) := by
  have hb : ∀ w ∈ BIG, w.before args s = true := fun w hw => hts w (List.mem_filter.mp hw).1
  obtain ⟨c0, i0, k0⟩ := u_known (C := RX0) (T := TX0) (N := 5) hb ci_0.2.1 (hb _ in_0)
  obtain ⟨c1, i1, k1⟩ := u_known (C := RX1) (T := TX1) (N := 12) hb ci_1.2.1 (hb _ in_1)
  obtain ⟨c2, i2, k2⟩ := u_known (C := RX2) (T := TX2) (N := 4) hb ci_2.2.1 (hb _ in_2)
  obtain ⟨c3, i3, k3⟩ := u_known (C := RX3) (T := TX3) (N := 10) hb ci_3.2.1 (hb _ in_3)
  obtain ⟨c4, i4, k4⟩ := u_known (C := RX4) (T := TX4) (N := 3) hb ci_4.2.1 (hb _ in_4)
  obtain ⟨c5, i5, k5⟩ := u_known (C := RX5) (T := TX5) (N := 4) hb ci_5.2.1 (hb _ in_5)
  obtain ⟨c6, i6, k6⟩ := u_known (C := RX6) (T := TX6) (N := 12) hb ci_6.2.1 (hb _ in_6)
  obtain ⟨c7, i7, k7⟩ := u_known (C := RX7) (T := TX7) (N := 10) hb ci_7.2.1 (hb _ in_7)
  obtain ⟨c8, i8, k8⟩ := u_known (C := RX8) (T := TX8) (N := 68) hb ci_8.2.1 (hb _ in_8)
  refine ⟨fun k => match k with
    | 0 => c0
    | 1 => c1
    | 2 => c2
    | 3 => c3
    | 4 => c4
    | 5 => c5
    | 6 => c6
    | 7 => c7
    | _ => c8, fun k => match k with
    | 0 => i0
    | 1 => i1
    | 2 => i2
    | 3 => i3
    | 4 => i4
    | 5 => i5
    | 6 => i6
    | 7 => i7
    | _ => i8, fun k q hq => ?_⟩
  match k, hq with
  | 0, hq => cases hq; exact k0
  | 1, hq => cases hq; exact k1
  | 2, hq => cases hq; exact k2
  | 3, hq => cases hq; exact k3
  | 4, hq => cases hq; exact k4
  | 5, hq => cases hq; exact k5
  | 6, hq => cases hq; exact k6
  | 7, hq => cases hq; exact k7
  | 8, hq => cases hq; exact k8
  | k + 9, hq => exact absurd hq (by simp)
def stTm (i : Nat) : Term := .string "SqueakShop$Text" ([63, 90, 96, 98].getD i 0)
def stTx (i : Nat) : String := ["loudsoftwallcalmwear", "shkvly", "<=>", "0123456789"].getD i ""
theorem st_str {args : Array Value} {s : State} {A : Nat → Prop} (hg : (Jvm.Cond.and given_1 narrow_1).before args s = true) (hA : ∀ a : Nat, a < s.heap.size → ¬ A a) : ∃ adK adV : Nat → Nat, vk_S 4 sLen sByt adK adV A s s.heap ∧ ∀ i : Nat, i < 4 → (stTm i).eval args s none [] s = some (.ref (adK i)) := by
  have hs := flat_of_before _ hg
  refine vk_Sof (tm := stTm) (by decide +kernel) (fun i hi => hs _ ?_) (fun i hi => hs _ ?_) (fun i hi => hs _ ?_) (fun i hi => hs _ ?_) (fun i hi j hj => hs _ ?_) (fun i j hi hj hij => ?_) hA
  · revert i; decide +kernel
  · revert i; decide +kernel
  · revert i; decide +kernel
  · revert i; decide +kernel
  · revert j; revert i; decide +kernel
  · have h : ∀ i, i < 4 → ∀ j, j < 4 → i ≠ j → (Cond.not (Cond.eq (stTm i) (stTm j)) ∈ flatC (Jvm.Cond.and given_1 narrow_1) ∨ Cond.not (Cond.eq (stTm j) (stTm i)) ∈ flatC (Jvm.Cond.and given_1 narrow_1)) := by decide +kernel
    rcases h i hi j hj hij with h | h
    · exact Or.inl (hs _ h)
    · exact Or.inr (hs _ h)
theorem st_above {args : Array Value} {s : State} {A : Nat → Prop} (hts : ∀ w ∈ lw_tbl, w.before args s = true) (hg : (Jvm.Cond.and given_1 narrow_1).before args s = true) (hA : ∀ a : Nat, a < s.heap.size → ¬ A a) : ∃ t : Nat, va_Z "SqueakShop" "ABOVE" "[I" (.ref t) A s s.heap ∧ va_T .int t 7 (fun j => .int (Int32.ofInt (tabA.getD j 0))) A s s.heap := by
  have hs := flat_of_before _ hg
  have hel : ∀ j : Nat, j < 7 → Cond.eq (.elem (.static "SqueakShop" "ABOVE" "[I") (.int (Int32.ofNat j))) (.int (Int32.ofInt (tabA.getD j 0))) ∈ flatC (Jvm.Cond.and given_1 narrow_1) := by decide +kernel
  obtain ⟨t, ht, hT⟩ := va_Tof (args := args) (s := s) (tm := .static "SqueakShop" "ABOVE" "[I") (ty := .int) (N := 7) (f := fun j => .int (Int32.ofInt (tabA.getD j 0))) (A := A) (by decide) (hs _ (by decide +kernel)) (va_eqt (z := Int32.ofNat 7) (hs _ (by decide +kernel))) (fun j hj => va_eqt (hs _ (hel j hj))) hA
  exact ⟨t, va_Zof (hts (.laysStatic "SqueakShop" "ABOVE" "[I") (by decide +kernel)) (hts (.initialized "SqueakShop") (by decide +kernel)) ht hA, hT⟩
theorem st_fmt {args : Array Value} {s : State} {A : Nat → Prop} (hts : ∀ w ∈ lw_tbl, w.before args s = true) (hg : (Jvm.Cond.and given_1 narrow_1).before args s = true) (hA : ∀ a : Nat, a < s.heap.size → ¬ A a) : ∃ n : Nat, va_Z "jdk/internal/util/Preconditions" "SIOOBE_FORMATTER" "Ljava/util/function/BiFunction;" (if n = 0 then .null else .ref (n - 1)) A s s.heap := by
  have hs := flat_of_before _ hg
  obtain ⟨v, h1, h2⟩ := Cond.isRef_spec (hs (.isRef (.static "jdk/internal/util/Preconditions" "SIOOBE_FORMATTER" "Ljava/util/function/BiFunction;")) (by decide +kernel))
  have hZ := va_Zof (A := A) (hts (.laysStatic "jdk/internal/util/Preconditions" "SIOOBE_FORMATTER" "Ljava/util/function/BiFunction;") (by decide +kernel)) (hts (.initialized "jdk/internal/util/Preconditions") (by decide +kernel)) h1 hA
  cases v with
  | null => exact ⟨0, hZ⟩
  | ref a => exact ⟨a + 1, hZ⟩
  | _ => cases h2
def stFa (b n t : Nat) (adK adV : Nat → Nat) : Nat → Nat := fun i => if i = 20 then b else if i = 0 then n else if i = 1 then t else if i < 10 then adK (i - 2) else adV (i - 10)
theorem stFa_K {b n t : Nat} {adK adV : Nat → Nat} {i : Nat} (hi : i < 4) : stFa b n t adK adV (i + 2) = adK i := by
  unfold stFa
  rw [if_neg (show ¬ i + 2 = 20 by omega), if_neg (show ¬ i + 2 = 0 by omega), if_neg (show ¬ i + 2 = 1 by omega), if_pos (show i + 2 < 10 by omega)]
  rfl
theorem stFa_V {b n t : Nat} {adK adV : Nat → Nat} {i : Nat} (hi : i < 4) : stFa b n t adK adV (i + 10) = adV i := by
  unfold stFa
  rw [if_neg (show ¬ i + 10 = 20 by omega), if_neg (show ¬ i + 10 = 0 by omega), if_neg (show ¬ i + 10 = 1 by omega), if_neg (show ¬ i + 10 < 10 by omega)]
  rfl
theorem st_S {b n t : Nat} {adK adV : Nat → Nat} {A : Nat → Prop} {s : State} (hS : vk_S 4 sLen sByt adK adV A s s.heap) : vk_S 4 sLen sByt (fun i => stFa b n t adK adV (i + 2)) (fun i => stFa b n t adK adV (i + 10)) A s s.heap := by
  refine ⟨fun i hi => ?_, fun i j hi hj e => hS.2 i j hi hj ?_⟩
  · have h := hS.1 i hi
    rw [← stFa_K (b := b) (n := n) (t := t) (adK := adK) (adV := adV) hi, ← stFa_V (b := b) (n := n) (t := t) (adK := adK) (adV := adV) hi] at h
    exact h
  · have e2 : stFa b n t adK adV (i + 2) = stFa b n t adK adV (j + 2) := e
    rw [stFa_K hi, stFa_K hj] at e2
    exact e2
theorem st_nests {args : Array Value} {s : State} (hts : ∀ w ∈ lw_tbl, w.before args s = true) : ∀ w ∈ nests, va_Nw w s := by
  have h1 : ∀ w ∈ nests, w ∈ lw_tbl := by decide +kernel
  have h2 : ∀ w ∈ nests, w.onTables = true := by decide +kernel
  exact fun w hw => va_Nw.of (h2 w hw) (hts w (h1 w hw))
theorem st_FO {args : Array Value} {s : State} (hts : ∀ w ∈ lw_tbl, w.before args s = true) (hg : (Jvm.Cond.and given_1 narrow_1).before args s = true) (b : Nat) : ∃ fa : Nat → Nat, fa 20 = b ∧ ∀ (D : va_G) (cA : Nat → ClassId) (ph : Bool), FO (s.heap.size, D, cA, fa, ph) s := by
  have hA : ∀ a : Nat, a < s.heap.size → ¬ s.heap.size ≤ a := fun a h h2 => by omega
  have hs := flat_of_before _ hg
  obtain ⟨adK, adV, hS, hK⟩ := st_str (A := fun q => s.heap.size ≤ q) hg hA
  obtain ⟨t, hZ, hT⟩ := st_above (A := fun q => s.heap.size ≤ q) hts hg hA
  obtain ⟨n, hF⟩ := st_fmt (A := fun q => s.heap.size ≤ q) hts hg hA
  have hcs : va_Z "java/lang/String" "COMPACT_STRINGS" "Z" (.int 1) (fun q => s.heap.size ≤ q) s s.heap := va_Zof (hts (.laysStatic "java/lang/String" "COMPACT_STRINGS" "Z") (by decide +kernel)) (hts (.initialized "java/lang/String") (by decide +kernel)) (va_eqt (hs _ (by decide +kernel))) hA
  have r0 : vk_R "SqueakShop$Text" 63 "loudsoftwallcalmwear" (adK 0) s := vk_R.of (hts (.stringRef "SqueakShop$Text" 63 "loudsoftwallcalmwear") (by decide +kernel)) (hK 0 (by decide))
  have r1 : vk_R "SqueakShop$Text" 90 "shkvly" (adK 1) s := vk_R.of (hts (.stringRef "SqueakShop$Text" 90 "shkvly") (by decide +kernel)) (hK 1 (by decide))
  have r2 : vk_R "SqueakShop$Text" 96 "<=>" (adK 2) s := vk_R.of (hts (.stringRef "SqueakShop$Text" 96 "<=>") (by decide +kernel)) (hK 2 (by decide))
  have r3 : vk_R "SqueakShop$Text" 98 "0123456789" (adK 3) s := vk_R.of (hts (.stringRef "SqueakShop$Text" 98 "0123456789") (by decide +kernel)) (hK 3 (by decide))
  have a3 : va_AO RX3 s := va_AO.of (hts (.arrayOver (.object RX3)) (by decide +kernel))
  have a4 : va_AO RX4 s := va_AO.of (hts (.arrayOver (.object RX4)) (by decide +kernel))
  have hN := st_nests hts
  have hS2 := st_S (b := b) (n := n) (t := t) hS
  have e2 : stFa b n t adK adV 2 = adK 0 := stFa_K (i := 0) (by decide)
  have e3 : stFa b n t adK adV 3 = adK 1 := stFa_K (i := 1) (by decide)
  have e4 : stFa b n t adK adV 4 = adK 2 := stFa_K (i := 2) (by decide)
  have e5 : stFa b n t adK adV 5 = adK 3 := stFa_K (i := 3) (by decide)
  have e1 : stFa b n t adK adV 1 = t := rfl
  have e0 : stFa b n t adK adV 0 = n := rfl
  rw [← e2] at r0
  rw [← e3] at r1
  rw [← e4] at r2
  rw [← e5] at r3
  rw [← e1] at hZ hT
  rw [← e0] at hF
  refine ⟨stFa b n t adK adV, rfl, ?_⟩
  generalize stFa b n t adK adV = fa at hS2 r0 r1 r2 r3 hZ hT hF
  intro D cA ph
  exact ⟨hZ, hT, hS2, r0, r1, r2, r3, hF, hcs, a3, a4, hN⟩
