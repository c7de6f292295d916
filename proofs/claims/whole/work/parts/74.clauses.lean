/-! all clauses -/
def toksOf : List Cl → List Tk
  | [] => []
  | x :: xs => x.2.2 ++ toksOf xs
theorem toksOf_app : ∀ a b : List Cl, toksOf (a ++ b) = toksOf a ++ toksOf b
  | [], b => rfl
  | x :: xs, b => by
    show x.2.2 ++ toksOf (xs ++ b) = (x.2.2 ++ toksOf xs) ++ toksOf b
    rw [toksOf_app xs b, List.append_assoc]
theorem toksOf_1 (x : Cl) : toksOf [x] = x.2.2 := List.append_nil _
def lcs (a : List Cl) : List Cl := a.filter (fun x => decide (x.1 ≤ 1))
theorem lcs_app (a b : List Cl) : lcs (a ++ b) = lcs a ++ lcs b := List.filter_append ..
theorem lcs_t {x : Cl} (h : x.1 ≤ 1) : lcs [x] = [x] := by
  unfold lcs
  rw [List.filter_cons_of_pos (by exact decide_eq_true h)]
  rfl
theorem lcs_f {x : Cl} (h : ¬ x.1 ≤ 1) : lcs [x] = [] := by
  unfold lcs
  rw [List.filter_cons_of_neg (by rw [decide_eq_false h]; decide)]
  rfl
def lsW (a : List Cl) (w d : Int) : Int := a.foldl (fun acc x => if x.1 = w then x.2.1 else acc) d
theorem lsW_s (a : List Cl) (x : Cl) (w d : Int) : lsW (a ++ [x]) w d = if x.1 = w then x.2.1 else lsW a w d := by
  unfold lsW
  rw [List.foldl_append]
  rfl
def tl (T : Nat → Int) (L : Nat) : Nat → Nat → List Cl → Nat × Option (List Cl)
  | 0, p, a => (p, if p = L then some a else none)
  | n + 1, p, a => if T p = 59 then (match (clz T (p + 1)).2 with
    | none => ((clz T (p + 1)).1, none)
    | some x => tl T L n (clz T (p + 1)).1 (a ++ [x])) else (p, if p = L then some a else none)
def txt (T : Nat → Int) (L : Nat) : Nat × Option (List Cl) := match (clz T 0).2 with
  | none => ((clz T 0).1, none)
  | some x => tl T L 9 (clz T 0).1 [x]
theorem tl_r {T : Nat → Int} {L : Nat} (hT : TxE T L) : ∀ (n p : Nat) (a : List Cl), p ≤ L → n + a.length = 10 → (∀ x ∈ a, okC x) → (tl T L n p a).1 ≤ L ∧ ∀ a', (tl T L n p a).2 = some a' → (tl T L n p a).1 = L ∧ a'.length ≤ 10 ∧ ∀ x ∈ a', okC x
  | 0, p, a, hp, hn, ha => by
    refine ⟨hp, fun a' h => ?_⟩
    have h : (if p = L then some a else none) = some a' := h
    by_cases e : p = L
    · rw [if_pos e] at h
      cases h
      exact ⟨e, by omega, ha⟩
    · rw [if_neg e] at h
      cases h
  | n + 1, p, a, hp, hn, ha => by
    unfold tl
    by_cases e : T p = 59
    · rw [if_pos e]
      have l1 := T_lt hT (show T p ≠ -1 by omega)
      have hr := clz_r hT (p := p + 1) (by omega)
      cases hc : (clz T (p + 1)).2 with
      | none => exact ⟨hr.2.1, fun a' h => by cases h⟩
      | some x =>
        refine tl_r hT n (clz T (p + 1)).1 (a ++ [x]) hr.2.1 (by rw [List.length_append]; show n + (a.length + 1) = 10; omega) (fun y hy => ?_)
        rw [List.mem_append, List.mem_singleton] at hy
        rcases hy with hy | hy
        · exact ha y hy
        · rw [hy]; exact (hr.2.2 x hc).2
    · rw [if_neg e]
      refine ⟨hp, fun a' h => ?_⟩
      have h : (if p = L then some a else none) = some a' := h
      by_cases e : p = L
      · rw [if_pos e] at h
        cases h
        exact ⟨e, by omega, ha⟩
      · rw [if_neg e] at h
        cases h
def KC (r : Int) : List Cl → Nat → Nat → Mem → Prop
  | [], _, _, _ => True
  | x :: xs, c, o, M => M (r + 1) (c : Int) = sgC x ∧ M (r + 2) (c : Int) = (o : Int) ∧ M (r + 2) ((c + 1 : Nat) : Int) = ((o + x.2.2.length : Nat) : Int) ∧ KC r xs (c + 1) (o + x.2.2.length) M
theorem KC_fr {r : Int} : ∀ (l : List Cl) (c o : Nat) {M M' : Mem}, KC r l c o M → (∀ q : Int, q < (c : Int) + l.length → M' (r + 1) q = M (r + 1) q) → (∀ q : Int, q ≤ (c : Int) + l.length → M' (r + 2) q = M (r + 2) q) → KC r l c o M'
  | [], _, _, _, _, _, _, _ => trivial
  | x :: xs, c, o, M, M', h, h1, h2 => by
    rw [List.length_cons] at h1 h2
    refine ⟨by rw [h1 _ (by omega)]; exact h.1, by rw [h2 _ (by omega)]; exact h.2.1, by rw [h2 _ (by omega)]; exact h.2.2.1, KC_fr xs (c + 1) _ h.2.2.2 (fun q hq => h1 q (by omega)) (fun q hq => h2 q (by omega))⟩
theorem KC_app {r : Int} : ∀ (l k : List Cl) (c o : Nat) {M : Mem}, KC r l c o M → KC r k (c + l.length) (o + (toksOf l).length) M → KC r (l ++ k) c o M
  | [], k, c, o, M, _, g => g
  | x :: xs, k, c, o, M, h, g => by
    refine ⟨h.1, h.2.1, h.2.2.1, KC_app xs k (c + 1) _ h.2.2.2 ?_⟩
    rw [show c + 1 + xs.length = c + (x :: xs).length by rw [List.length_cons]; omega, show o + x.2.2.length + (toksOf xs).length = o + (toksOf (x :: xs)).length by
      show _ = o + (x.2.2 ++ toksOf xs).length
      rw [List.length_append]; omega]
    exact g
def CK (T : Nat → Int) (L : Nat) (r : Int) (a : List Cl) (p : Nat) (M : Mem) : Prop := CS T L r (toksOf a) p M ∧ (M r 0 = lsW a 2 6 ∧ M r 1 = lsW a 3 10 ∧ M r 2 = lsW a 4 1) ∧ M r 3 = ((lcs a).length : Int) ∧ (lcs a).length ≤ a.length ∧ toksOf (lcs a) = toksOf a ∧ KC r (lcs a) 0 0 M ∧ M (r + 2) ((lcs a).length : Int) = ((toksOf a).length : Int)
theorem CK_s {T : Nat → Int} {L p q : Nat} {r : Int} {a : List Cl} {x : Cl} {M M' : Mem} (h : CK T L r a p M) (ho : okC x) (h1 : CS T L r (toksOf a ++ x.2.2) q M') (h2 : ∀ q : Int, q ≠ 6 → M' r q = if 2 ≤ x.1 ∧ q = x.1 - 2 then x.2.1 else if x.1 ≤ 1 ∧ q = 3 then M r 3 + 1 else M r q)
    (h3 : ∀ q : Int, M' (r + 1) q = if x.1 ≤ 1 ∧ q = M r 3 then sgC x else M (r + 1) q) (h4 : ∀ q : Int, M' (r + 2) q = if x.1 ≤ 1 ∧ q = M r 3 + 1 then ((toksOf a ++ x.2.2).length : Int) else M (r + 2) q) : CK T L r (a ++ [x]) q M' := by
  obtain ⟨k1, ⟨k2, k3, k4⟩, k5, k6, k6', k7, k8⟩ := h
  have hx := ho.1
  refine ⟨by rw [toksOf_app, toksOf_1]; exact h1, ⟨?_, ?_, ?_⟩, ?_⟩
  · rw [lsW_s, h2 0 (by omega), k2]
    by_cases e : x.1 = 2
    · rw [if_pos e, if_pos (by omega)]
    · rw [if_neg e, if_neg (by omega), if_neg (by omega)]
  · rw [lsW_s, h2 1 (by omega), k3]
    by_cases e : x.1 = 3
    · rw [if_pos e, if_pos (by omega)]
    · rw [if_neg e, if_neg (by omega), if_neg (by omega)]
  · rw [lsW_s, h2 2 (by omega), k4]
    by_cases e : x.1 = 4
    · rw [if_pos e, if_pos (by omega)]
    · rw [if_neg e, if_neg (by omega), if_neg (by omega)]
  · by_cases e : x.1 ≤ 1
    · rw [lcs_app, lcs_t e, List.length_append]
      refine ⟨?_, ?_, ?_, ?_, ?_⟩
      · rw [h2 3 (by omega), if_neg (by omega), if_pos ⟨e, rfl⟩, k5]
        rfl
      · rw [List.length_append]
        show (lcs a).length + 1 ≤ a.length + 1
        omega
      · rw [toksOf_app, toksOf_app, k6']
      · refine KC_app (lcs a) [x] 0 0 (KC_fr (lcs a) 0 0 k7 (fun q hq => ?_) (fun q hq => ?_)) ⟨?_, ?_, ?_, trivial⟩
        · rw [h3, if_neg (by omega)]
        · rw [h4, if_neg (by omega)]
        · rw [h3, if_pos ⟨e, by omega⟩]
        · rw [h4, if_neg (by omega), k6', Nat.zero_add, Nat.zero_add]
          exact k8
        · rw [h4, if_pos ⟨e, by omega⟩, k6', List.length_append]
          omega
      · rw [h4, toksOf_app, toksOf_1, if_pos ⟨e, by rw [k5]; rfl⟩]
    · rw [lcs_app, lcs_f e, List.append_nil]
      have ht := ho.2.2.1 (by omega)
      refine ⟨?_, ?_, ?_, ?_, ?_⟩
      · rw [h2 3 (by omega), if_neg (by omega), if_neg (fun c => e c.1), k5]
      · rw [List.length_append]
        omega
      · rw [toksOf_app, toksOf_1, ht, List.append_nil, k6']
      · exact KC_fr (lcs a) 0 0 k7 (fun q hq => by rw [h3, if_neg (fun c => e c.1)]) (fun q hq => by rw [h4, if_neg (fun c => e c.1)])
      · rw [h4, if_neg (fun c => e c.1), toksOf_app, toksOf_1, ht, List.append_nil]
        exact k8
theorem c_tl {T : Nat → Int} {L : Nat} {r : Int} (hT : TxE T L) (hr : 79 ≤ r) : ∀ (n fuel p : Nat) (a : List Cl) (M : Mem) (Q : Int → Mem → Prop), n + a.length = 10 → n + 2 ≤ fuel → CK T L r a p M →
    ((tl T L n p a).2 = none → ∀ M', FrB r M M' → M' 1 1 = (L : Int) → M' 1 2 = ((tl T L n p a).1 : Int) → Q 0 M') → (∀ a', (tl T L n p a).2 = some a' → ∀ M', FrB r M M' → CK T L r a' (tl T L n p a).1 M' → Q 1 M') → wp (f_X5_makes_24 r fuel 1 (a.length : Int) M) Q
  | n, fuel, p, a, M, Q, hn, hf, h, k0, k1 => by
    obtain ⟨fu, rfl⟩ : ∃ fu, fuel = fu + 1 := ⟨fuel - 1, by omega⟩
    have hL := hT.1
    have hct := h.1.1
    have stop : (tl T L n p a = (p, if p = L then some a else none)) → wp (f_X5_makes_54 r 1 M) Q := by
      intro e
      unfold f_X5_makes_54
      refine wp_f one_ne ?_
      rw [hct.1, hct.2.1]
      rw [e] at k0 k1
      by_cases hp : p = L
      · rw [if_pos hp] at k1
        refine wp_t (by omega) ?_
        rw [wp_some]
        exact k1 a rfl M (fun _ _ _ _ => rfl) h
      · rw [if_neg hp] at k0
        refine wp_f (by omega) ?_
        rw [wp_some]
        exact k0 rfl M (fun _ _ _ _ => rfl) hct.1 hct.2.1
    rw [f_X5_makes_24.eq_2]
    refine wp_f one_ne ?_
    cases n with
    | zero => exact wp_t (by omega) (stop rfl)
    | succ n =>
      refine wp_f (by omega) ?_
      rw [wp_bind]
      refine c_sign hT hct (by decide) ?_ ?_
      · intro e
        exact wp_t rfl (stop (if_neg e))
      · intro e M1 g1 g2
        have e0 : tl T L (n + 1) p a = match (clz T (p + 1)).2 with | none => ((clz T (p + 1)).1, none) | some x => tl T L n (clz T (p + 1)).1 (a ++ [x]) := if_pos e
        rw [e0] at k0 k1
        refine wp_f one_ne ?_
        have s1 := CS_12 hr h.1 g1 g2 (by omega)
        have r3 : ∀ j q : Int, (j ≠ 1 ∨ q ≠ 2) → M1 j q = M j q := fun j q c => g1 j q c
        have hlen : (lcs a).length ≤ a.length := h.2.2.2.1
        have h3' : M1 r 3 = ((lcs a).length : Int) := (r3 r 3 (by omega)).trans h.2.2.1
        rw [wp_bind]
        have hr1 := clz_r hT g2.2.2.2.1
        refine c_clause hT hr s1 (by simp only []; omega) ?_ ?_
        · intro ec M2 u1 u2 u3
          have u1 : FrB r M1 M2 := u1
          rw [ec] at k0
          obtain ⟨fu2, rfl⟩ : ∃ fu2, fu = fu2 + 1 := ⟨fu - 1, by omega⟩
          simp only []
          rw [f_X5_makes_24.eq_2]
          refine wp_t rfl ?_
          unfold f_X5_makes_54
          refine wp_t rfl ?_
          rw [wp_some]
          exact k0 rfl M2 (FrB_tr (FrB_12 g1) u1) u2 u3
        · intro x ec M2 u1 u2 u3 u4 u5
          have u2 : ∀ j q : Int, (j ≠ 1 ∨ q ≠ 2) → (j < r ∨ r + 5 < j) → M2 j q = M1 j q := u2
          have u5 : ∀ q : Int, M2 (r + 2) q = if x.1 ≤ 1 ∧ q = M1 r 3 + 1 then ((toksOf a ++ x.2.2).length : Int) else M1 (r + 2) q := u5
          rw [ec] at k0 k1
          simp only [] at k0 k1 ⊢
          rw [w_suc (by omega)]
          have hCK1 : CK T L r a (p + 1) M1 := by
            obtain ⟨y1, ⟨y2, y3, y4⟩, y5, y6, y6', y7, y8⟩ := h
            refine ⟨s1, ⟨by rw [r3 r 0 (by omega)]; exact y2, by rw [r3 r 1 (by omega)]; exact y3, by rw [r3 r 2 (by omega)]; exact y4⟩, h3', y6, y6', KC_fr _ 0 0 y7 (fun q _ => r3 _ q (by omega)) (fun q _ => r3 _ q (by omega)), by rw [r3 (r + 2) _ (by omega)]; exact y8⟩
          have hCK := CK_s hCK1 (hr1.2.2 x ec).2 u1 u3 u4 u5
          have fB : FrB r M1 M2 := by
            intro j q c1 c2
            by_cases hj : j = r + 2 ∧ q = 0
            · rw [hj.1, hj.2, u5, if_neg (by omega)]
            · exact u2 j q c1 (by omega)
          have := c_tl hT hr n fu (clz T (p + 1)).1 (a ++ [x]) M2 Q (by rw [List.length_append]; show n + (a.length + 1) = 10; omega) (by omega) hCK (fun e2 M3 b1 b2 b3 => k0 e2 M3 (FrB_tr (FrB_12 g1) (FrB_tr fB b1)) b2 b3) (fun a' e2 M3 b1 b2 => k1 a' e2 M3 (FrB_tr (FrB_12 g1) (FrB_tr fB b1)) b2)
          rw [List.length_append] at this
          exact this
theorem c_makes {T : Nat → Int} {L : Nat} {r : Int} {M : Mem} {Q : Int → Mem → Prop} (hT : TxE T L) (hr : 79 ≤ r) (h1 : M 1 1 = (L : Int)) (h2 : ∀ i : Nat, i < L → M 2 (i : Int) = T i) (h3 : M (r + 2) 0 = 0)
    (k0 : (txt T L).2 = none → ∀ M', (∀ j q : Int, j ≠ 1 → (j < r ∨ r + 5 < j ∨ (j = r + 2 ∧ q = 0)) → M' j q = M j q) → M' 1 2 = ((txt T L).1 : Int) → Q 0 M') (k1 : ∀ a, (txt T L).2 = some a → ∀ M', (∀ j q : Int, j ≠ 1 → (j < r ∨ r + 5 < j ∨ (j = r + 2 ∧ q = 0)) → M' j q = M j q) → CK T L r a (txt T L).1 M' → Q 1 M') : wp (f_X5_makes r M) Q := by
  unfold f_X5_makes
  rw [wp_lt]
  have e13 : stM M 1 3 r 1 3 = r := by rw [st_ap, if_pos ⟨rfl, rfl⟩]
  rw [e13]
  refine wp_and (by omega) ?_
  unfold f_X3_empty
  rw [wp_bind, wp_lt, wp_lt, wp_lt, wp_lt, wp_lt, wp_some, wp_lt]
  have u : ∀ j q : Int, stM (stM (stM (stM (stM (stM (stM M 1 3 r) r 0 6) r 1 10) r 2 1) r 3 0) r 6 0) 1 2 0 j q = if j = 1 ∧ q = 2 then 0 else if j = r ∧ q = 6 then 0 else if j = r ∧ q = 3 then 0 else if j = r ∧ q = 2 then 1 else if j = r ∧ q = 1 then 10 else if j = r ∧ q = 0 then 6 else if j = 1 ∧ q = 3 then r else M j q := by
    intro j q
    rw [st_ap, st_ap, st_ap, st_ap, st_ap, st_ap, st_ap]
  simp only []
  generalize stM (stM (stM (stM (stM (stM (stM M 1 3 r) r 0 6) r 1 10) r 2 1) r 3 0) r 6 0) 1 2 0 = A at u
  have a0 : ∀ j q : Int, (j ≠ 1 ∨ (q ≠ 2 ∧ q ≠ 3)) → (j ≠ r ∨ (q ≠ 6 ∧ q ≠ 3 ∧ q ≠ 2 ∧ q ≠ 1 ∧ q ≠ 0)) → A j q = M j q := fun j q c1 c2 => by rw [u, if_neg (by omega), if_neg (by omega), if_neg (by omega), if_neg (by omega), if_neg (by omega), if_neg (by omega), if_neg (by omega)]
  have hA : CK T L r [] 0 A := by
    refine ⟨⟨⟨?_, ?_, ?_, Nat.zero_le _, fun i hi => ?_⟩, ?_, Nat.zero_le _, fun q hq => absurd hq (by exact Nat.not_lt_zero q)⟩, ⟨?_, ?_, ?_⟩, ?_, Nat.le_refl _, rfl, trivial, ?_⟩
    · rw [a0 1 1 (by omega) (by omega)]; exact h1
    · rw [u, if_pos ⟨rfl, rfl⟩]; rfl
    · rw [u, if_neg (by omega), if_neg (by omega), if_neg (by omega), if_neg (by omega), if_neg (by omega), if_neg (by omega), if_pos ⟨rfl, rfl⟩]
    · rw [a0 2 _ (by omega) (by omega)]; exact h2 i hi
    · rw [u, if_neg (by omega), if_pos ⟨rfl, rfl⟩]; rfl
    · rw [u, if_neg (by omega), if_neg (by omega), if_neg (by omega), if_neg (by omega), if_neg (by omega), if_pos ⟨rfl, rfl⟩]; rfl
    · rw [u, if_neg (by omega), if_neg (by omega), if_neg (by omega), if_neg (by omega), if_pos ⟨rfl, rfl⟩]; rfl
    · rw [u, if_neg (by omega), if_neg (by omega), if_neg (by omega), if_pos ⟨rfl, rfl⟩]; rfl
    · rw [u, if_neg (by omega), if_neg (by omega), if_pos ⟨rfl, rfl⟩]; rfl
    · show A (r + 2) 0 = 0
      rw [a0 (r + 2) 0 (by omega) (by omega)]; exact h3
  have fr : ∀ M', FrB r A M' → ∀ j q : Int, j ≠ 1 → (j < r ∨ r + 5 < j ∨ (j = r + 2 ∧ q = 0)) → M' j q = M j q := fun M' g j q c1 c2 => (g j q (by omega) (by omega)).trans (a0 j q (by omega) (by omega))
  have hr0 := clz_r hT (Nat.zero_le L)
  unfold txt at k0 k1
  rw [wp_bind]
  have a3 : A r 3 = 0 := hA.2.2.1
  refine c_clause hT hr hA.1 (by omega) ?_ ?_
  · intro ec M2 u1 u2 u3
    rw [ec] at k0
    simp only []
    rw [FU_e, show (100000 : Nat) = 99999 + 1 from rfl, f_X5_makes_24.eq_2]
    refine wp_t rfl ?_
    unfold f_X5_makes_54
    refine wp_t rfl ?_
    rw [wp_some]
    exact k0 rfl M2 (fr M2 u1) u3
  · intro x ec M2 u1 u2 u3 u4 u5
    rw [ec] at k0 k1
    simp only [] at k0 k1 ⊢
    have hCK := CK_s hA (hr0.2.2 x ec).2 u1 u3 u4 u5
    have fB : FrB r A M2 := by
      intro j q c1 c2
      by_cases hj : j = r + 2 ∧ q = 0
      · rw [hj.1, hj.2, u5, if_neg (by omega)]
      · exact u2 j q c1 (by omega)
    exact c_tl hT hr 9 FU (clz T 0).1 [x] M2 Q rfl (by rw [FU_e]; omega) hCK (fun e2 M3 b1 b2 b3 => k0 e2 M3 (fr M3 (FrB_tr fB b1)) b3) (fun a' e2 M3 b1 b2 => k1 a' e2 M3 (fr M3 (FrB_tr fB b1)) b2)
