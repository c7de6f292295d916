/-! all clauses, in the model -/
def KM : List Cl → Nat → Nat → Mem → Prop
  | [], _, _, _ => True
  | x :: xs, i, o, M => M 135 (i : Int) = x.1 ∧ M 136 (i : Int) = x.2.1 ∧ (x.1 ≤ 1 → M 137 (i : Int) = (o : Int) ∧ M 138 (i : Int) = ((o + x.2.2.length : Nat) : Int)) ∧ KM xs (i + 1) (o + x.2.2.length) M
theorem KM_fr : ∀ (l : List Cl) (i o : Nat) {M M' : Mem}, KM l i o M → (∀ j q : Int, 135 ≤ j → j ≤ 138 → (i : Int) ≤ q → q < (i : Int) + l.length → M' j q = M j q) → KM l i o M'
  | [], _, _, _, _, _, _ => trivial
  | x :: xs, i, o, M, M', h, g => by
    rw [List.length_cons] at g
    refine ⟨by rw [g 135 _ (by omega) (by omega) (by omega) (by omega)]; exact h.1, by rw [g 136 _ (by omega) (by omega) (by omega) (by omega)]; exact h.2.1, fun c => by rw [g 137 _ (by omega) (by omega) (by omega) (by omega), g 138 _ (by omega) (by omega) (by omega) (by omega)]; exact h.2.2.1 c, KM_fr xs (i + 1) _ h.2.2.2 (fun j q a1 a2 a3 a4 => g j q a1 a2 (by omega) (by omega))⟩
theorem KM_app : ∀ (l k : List Cl) (i o : Nat) {M : Mem}, KM l i o M → KM k (i + l.length) (o + (toksOf l).length) M → KM (l ++ k) i o M
  | [], k, i, o, M, _, g => g
  | x :: xs, k, i, o, M, h, g => by
    refine ⟨h.1, h.2.1, h.2.2.1, KM_app xs k (i + 1) _ h.2.2.2 ?_⟩
    rw [show i + 1 + xs.length = i + (x :: xs).length by rw [List.length_cons]; omega, show o + x.2.2.length + (toksOf xs).length = o + (toksOf (x :: xs)).length by
      show _ = o + (x.2.2 ++ toksOf xs).length
      rw [List.length_append]; omega]
    exact g
def FrG (f : Nat) (M M' : Mem) : Prop := ∀ j q : Int, j ≠ 140 → (j ≠ 127 ∨ (q ≠ 10 ∧ q ≠ 11 ∧ q ≠ 20 ∧ q ≠ 21 ∧ q ≠ 22)) → (j ≠ 139 ∨ q < 100 * f ∨ 100 * f + 100 ≤ q) → (j < 135 ∨ 138 < j ∨ q < 10 * f ∨ 10 * f + 10 ≤ q) → (j ≠ 134 ∨ q ≠ f) → M' j q = M j q
theorem FrG_tr {f : Nat} {M M1 M2 : Mem} (h : FrG f M M1) (g : FrG f M1 M2) : FrG f M M2 := fun j q a1 a2 a3 a4 a5 => (g j q a1 a2 a3 a4 a5).trans (h j q a1 a2 a3 a4 a5)
def MK (T : Nat → Int) (L f : Nat) (a : List Cl) (p : Nat) (M : Mem) : Prop := MT T L p M ∧ TKm (100 * f) (toksOf a) M ∧ (toksOf a).length ≤ p ∧ KM a (10 * f) (100 * f) M ∧ ∀ i : Int, 0 ≤ i → i < 20 → M 141 i = ltr i
def nx (T : Nat → Int) (L n p : Nat) (a : List Cl) : Nat × Option (List Cl) := match (clz T p).2 with
  | none => ((clz T p).1, none)
  | some x => tl T L n (clz T p).1 (a ++ [x])
theorem m_nx {T : Nat → Int} {L f : Nat} (hT : TxE T L) (hf : f < 6) : ∀ (n fuel p : Nat) (a : List Cl) (M : Mem) (Q : Int → Mem → Prop), n + 1 + a.length = 10 → n + 1 ≤ fuel → MK T L f a p M →
    ((nx T L n p a).2 = none → ∀ M', FrG f M M' → M' 127 10 = ((nx T L n p a).1 : Int) → Q 0 M') → (∀ a', (nx T L n p a).2 = some a' → ∀ M', FrG f M M' → MK T L f a' (nx T L n p a).1 M' → M' 134 (f : Int) = (a'.length : Int) → Q 1 M') → wp (f_X8_goesText_15 (f : Int) fuel (f : Int) (a.length : Int) M) Q
  | n, fuel, p, a, M, Q, hn, hfu, h, k0, k1 => by
    obtain ⟨fu, rfl⟩ : ∃ fu, fuel = fu + 1 := ⟨fuel - 1, by omega⟩
    have hL := hT.1
    obtain ⟨h1, h2, h3, h4, h5⟩ := h
    have hr := clz_r hT h1.2.2.1
    unfold nx at k0 k1
    rw [f_X8_goesText_15.eq_2, w_id (z := 10 * (f : Int)) (by omega) (by omega), w_id (z := 10 * (f : Int) + (a.length : Int)) (by omega) (by omega)]
    have fQ : ∀ {X Y : Mem}, FrQ (100 * f) (10 * (f : Int) + (a.length : Int)) X Y → FrG f X Y := fun g j q a1 a2 a3 a4 a5 => g j q a1 a2 (by omega) (by omega)
    rw [wp_bind]
    refine m_clause (b := 100 * f) (by omega) (by omega) hT h1 h2 h3 h5 ?_ ?_
    · intro e M1 g1 g2
      rw [e] at k0
      refine wp_t rfl ?_
      rw [wp_some]
      exact k0 rfl M1 (fQ g1) g2
    · intro x e M1 g1 g2 g3 g4 g5 g6 g7
      rw [e] at k0 k1
      simp only [] at k0 k1
      refine wp_f one_ne (wp_and (by omega) ?_)
      simp only []
      rw [wp_lt, w_suc (by omega)]
      have u : ∀ j q : Int, stM M1 134 (f : Int) ((a.length + 1 : Nat) : Int) j q = if j = 134 ∧ q = f then ((a.length + 1 : Nat) : Int) else M1 j q := fun j q => by rw [st_ap]
      generalize stM M1 134 (f : Int) ((a.length + 1 : Nat) : Int) = A at u
      have uA : ∀ j q : Int, j ≠ 134 → A j q = M1 j q := fun j q c => by rw [u, if_neg (by omega)]
      have frA : FrG f M A := fun j q a1 a2 a3 a4 a5 => by rw [u, if_neg (by omega)]; exact fQ g1 j q a1 a2 a3 a4 a5
      have ht1 : toksOf (a ++ [x]) = toksOf a ++ x.2.2 := by rw [toksOf_app, toksOf_1]
      have hl1 : (a ++ [x]).length = a.length + 1 := by rw [List.length_append]; rfl
      have hA : MK T L f (a ++ [x]) (clz T p).1 A := by
        refine ⟨⟨by rw [uA 127 9 (by omega)]; exact g2.1, by rw [uA 127 10 (by omega)]; exact g2.2.1, g2.2.2.1, fun i hi => by rw [uA 133 _ (by omega)]; exact g2.2.2.2 i hi⟩, ?_, by rw [ht1]; exact g4, ?_, ?_⟩
        · rw [ht1]
          exact TKm_fr g3 (uA 127 20 (by omega)) (fr_j (fun q => uA 139 q (by omega)))
        · refine KM_app a [x] _ _ (KM_fr a _ _ h4 (fun j q a1 a2 a3 a4 => ?_)) ⟨?_, ?_, fun c => ?_, trivial⟩
          · rw [uA j q (by omega)]
            exact g1 j q (by omega) (by omega) (by omega) (by omega)
          · rw [uA 135 _ (by omega), show ((10 * f + a.length : Nat) : Int) = 10 * (f : Int) + (a.length : Int) by omega]; exact g5
          · rw [uA 136 _ (by omega), show ((10 * f + a.length : Nat) : Int) = 10 * (f : Int) + (a.length : Int) by omega]; exact g6
          · rw [uA 137 _ (by omega), uA 138 _ (by omega), show ((10 * f + a.length : Nat) : Int) = 10 * (f : Int) + (a.length : Int) by omega]
            have g7 := g7 c
            rw [List.length_append] at g7
            exact ⟨by rw [g7.1]; omega, by rw [g7.2]; omega⟩
        · intro i i0 i1
          rw [uA 141 i (by omega), g1 141 i (by omega) (by omega) (by omega) (by omega)]
          exact h5 i i0 i1
      have hc134 : A 134 (f : Int) = ((a ++ [x]).length : Int) := by rw [u, if_pos ⟨rfl, rfl⟩, hl1]
      rw [hA.1.2.1, hA.1.1]
      by_cases hq : (clz T p).1 = L
      · refine wp_t (by omega) ?_
        rw [wp_some]
        have e2 : tl T L n (clz T p).1 (a ++ [x]) = ((clz T p).1, some (a ++ [x])) := by
          cases n with
          | zero => unfold tl; rw [if_pos hq]
          | succ n =>
            unfold tl
            rw [if_neg (by rw [hT.2.1 (clz T p).1 (by omega)]; decide), if_pos hq]
        rw [e2] at k1
        exact k1 _ rfl A frA hA hc134
      · refine wp_f (by omega) ?_
        cases n with
        | zero =>
          have e2 : tl T L 0 (clz T p).1 (a ++ [x]) = ((clz T p).1, none) := by unfold tl; rw [if_neg hq]
          rw [e2] at k0
          refine wp_t (by omega) ?_
          rw [wp_some]
          exact k0 rfl A frA hA.1.2.1
        | succ n =>
          refine wp_f (by omega) ?_
          rw [wp_bind]
          refine m_takes hT hA.1 (by decide) ?_ ?_
          · intro ns
            have e2 : tl T L (n + 1) (clz T p).1 (a ++ [x]) = ((clz T p).1, none) := by unfold tl; rw [if_neg ns, if_neg hq]
            rw [e2] at k0
            refine wp_t rfl ?_
            rw [wp_some]
            exact k0 rfl A frA hA.1.2.1
          · intro ys M3 z1 z2
            have e2 : tl T L (n + 1) (clz T p).1 (a ++ [x]) = nx T L n ((clz T p).1 + 1) (a ++ [x]) := by
              show (if T (clz T p).1 = 59 then _ else _) = _
              rw [if_pos ys]
              rfl
            rw [e2] at k0 k1
            refine wp_f one_ne ?_
            have frz : FrG f A M3 := fun j q a1 a2 a3 a4 a5 => z1 j q (by omega)
            have hM3 : MK T L f (a ++ [x]) ((clz T p).1 + 1) M3 := ⟨z2, TKm_fr hA.2.1 (z1 127 20 (by omega)) (fr_j (fun q => z1 139 q (by omega))), by have := hA.2.2.1; omega, KM_fr _ _ _ hA.2.2.2.1 (fun j q a1 a2 a3 a4 => z1 j q (by omega)), fun i i0 i1 => by rw [z1 141 i (by omega)]; exact hA.2.2.2.2 i i0 i1⟩
            have ih := m_nx hT hf n fu ((clz T p).1 + 1) (a ++ [x]) M3 Q (by rw [hl1]; omega) (by omega) hM3 (fun e3 M4 b1 b2 => k0 e3 M4 (FrG_tr frA (FrG_tr frz b1)) b2) (fun a' e3 M4 b1 b2 b3 => k1 a' e3 M4 (FrG_tr frA (FrG_tr frz b1)) b2 b3)
            rw [hl1] at ih
            exact ih
theorem m_goes {T : Nat → Int} {L f : Nat} {M : Mem} {Q : Int → Mem → Prop} (hT : TxE T L) (hf : f < 6) (h9 : M 127 9 = (L : Int)) (h2 : ∀ i : Nat, i < L → M 133 (i : Int) = T i) (h141 : ∀ i : Int, 0 ≤ i → i < 20 → M 141 i = ltr i)
    (k0 : (txt T L).2 = none → ∀ M', FrG f M M' → M' 127 10 = ((txt T L).1 : Int) → Q 0 M') (k1 : ∀ a, (txt T L).2 = some a → ∀ M', FrG f M M' → MK T L f a (txt T L).1 M' → M' 134 (f : Int) = (a.length : Int) → Q 1 M') : wp (f_X8_goesText (f : Int) M) Q := by
  unfold f_X8_goesText
  rw [wp_lt, wp_lt, w_id (by omega) (by omega)]
  have u : ∀ j q : Int, stM (stM M 127 10 0) 127 20 (100 * (f : Int)) j q = if j = 127 ∧ q = 20 then 100 * (f : Int) else if j = 127 ∧ q = 10 then 0 else M j q := fun j q => by rw [st_ap, st_ap]
  generalize stM (stM M 127 10 0) 127 20 (100 * (f : Int)) = A at u
  have frA : FrG f M A := fun j q a1 a2 a3 a4 a5 => by rw [u, if_neg (by omega), if_neg (by omega)]
  have hA : MK T L f [] 0 A := by
    refine ⟨⟨?_, ?_, Nat.zero_le _, fun i hi => ?_⟩, ⟨?_, fun q hq => absurd hq (Nat.not_lt_zero q)⟩, Nat.le_refl _, trivial, fun i i0 i1 => ?_⟩
    · rw [u, if_neg (by omega), if_neg (by omega)]; exact h9
    · rw [u, if_neg (by omega), if_pos ⟨rfl, rfl⟩]; rfl
    · rw [u, if_neg (by omega), if_neg (by omega)]; exact h2 i hi
    · rw [u, if_pos ⟨rfl, rfl⟩]
      show 100 * (f : Int) = ((100 * f : Nat) : Int) + ((0 : Nat) : Int)
      omega
    · rw [u, if_neg (by omega), if_neg (by omega)]; exact h141 i i0 i1
  have e : txt T L = nx T L 9 0 [] := rfl
  rw [e] at k0 k1
  exact m_nx hT hf 9 FU 0 [] A Q rfl (by rw [FU_e]; omega) hA (fun e2 M' a1 a2 => k0 e2 M' (FrG_tr frA a1) a2) (fun a e2 M' a1 a2 a3 => k1 a e2 M' (FrG_tr frA a1) a2 a3)
