/-! one clause in the class -/
theorem mc_0 {T : Nat → Int} {p : Nat} {w : Int} (h : T p ≠ ltr (4 * w)) : mc T p w 4 0 = 0 := by
  show (if T (p + 0) = ltr (4 * w + ((0 : Nat) : Int)) then _ else 0) = 0
  rw [if_neg]
  rw [Nat.add_zero, show 4 * w + ((0 : Nat) : Int) = 4 * w by omega]
  exact h
theorem mc_1 {T : Nat → Int} {p : Nat} {w : Int} (h2 : T (p + 1) ≠ ltr (4 * w + 1)) : mc T p w 4 0 ≤ 1 := by
  show (if T (p + 0) = ltr (4 * w + ((0 : Nat) : Int)) then (if T (p + 1) = ltr (4 * w + ((1 : Nat) : Int)) then mc T p w 2 2 else 1) else 0) ≤ 1
  split
  · rw [if_neg (show ¬ T (p + 1) = ltr (4 * w + ((1 : Nat) : Int)) from h2)]
    exact Nat.le_refl 1
  · exact Nat.zero_le 1
theorem mc_ge {T : Nat → Int} {p : Nat} {w : Int} (h : T p = ltr (4 * w)) : 1 ≤ mc T p w 4 0 := by
  have h1 := (mc_r T p w 3 1).1
  show 1 ≤ (if T (p + 0) = ltr (4 * w + ((0 : Nat) : Int)) then mc T p w 3 1 else 0)
  rw [if_pos]
  · exact h1
  · rw [Nat.add_zero, show 4 * w + ((0 : Nat) : Int) = 4 * w by omega]
    exact h
/-- another word than that looked for -/
theorem mc_oth {T : Nat → Int} {p : Nat} {w : Int} (hw : 0 ≤ w ∧ w ≤ 4) (hn : w ≠ wd T p) : mc T p w 4 0 ≤ 1 ∧ mc T p w 4 0 ≤ mc T p (wd T p) 4 0 := by
  have hc : w = 0 ∨ w = 1 ∨ w = 2 ∨ w = 3 ∨ w = 4 := by omega
  unfold wd at hn ⊢
  have zz : ∀ v : Int, mc T p w 4 0 = 0 → mc T p w 4 0 ≤ 1 ∧ mc T p w 4 0 ≤ mc T p v 4 0 := fun v h => by omega
  by_cases c1 : T p = 99
  · rw [if_pos c1] at hn ⊢
    refine zz _ (mc_0 ?_)
    rcases hc with rfl | rfl | rfl | rfl | rfl
    · rw [c1]; decide
    · rw [c1]; decide
    · rw [c1]; decide
    · exact absurd rfl hn
    · rw [c1]; decide
  rw [if_neg c1] at hn ⊢
  by_cases c2 : T p = 108
  · rw [if_pos c2] at hn ⊢
    refine zz _ (mc_0 ?_)
    rcases hc with rfl | rfl | rfl | rfl | rfl
    · exact absurd rfl hn
    · rw [c2]; decide
    · rw [c2]; decide
    · rw [c2]; decide
    · rw [c2]; decide
  rw [if_neg c2] at hn ⊢
  by_cases c3 : T p = 115
  · rw [if_pos c3] at hn ⊢
    refine zz _ (mc_0 ?_)
    rcases hc with rfl | rfl | rfl | rfl | rfl
    · rw [c3]; decide
    · exact absurd rfl hn
    · rw [c3]; decide
    · rw [c3]; decide
    · rw [c3]; decide
  rw [if_neg c3] at hn ⊢
  by_cases c4 : T (p + 1) = 101
  · rw [if_pos c4] at hn ⊢
    rcases hc with rfl | rfl | rfl | rfl | rfl
    · exact zz _ (mc_0 (fun e => c2 (e.trans rfl)))
    · exact zz _ (mc_0 (fun e => c3 (e.trans rfl)))
    · by_cases c5 : T p = 119
      · have h1 := mc_1 (T := T) (p := p) (w := 2) (by rw [c4]; decide)
        have h2 := mc_ge (T := T) (p := p) (w := 4) (by rw [c5]; rfl)
        exact ⟨h1, by omega⟩
      · exact zz _ (mc_0 (fun e => c5 (e.trans rfl)))
    · exact zz _ (mc_0 (fun e => c1 (e.trans rfl)))
    · exact absurd rfl hn
  · rw [if_neg c4] at hn ⊢
    rcases hc with rfl | rfl | rfl | rfl | rfl
    · exact zz _ (mc_0 (fun e => c2 (e.trans rfl)))
    · exact zz _ (mc_0 (fun e => c3 (e.trans rfl)))
    · exact absurd rfl hn
    · exact zz _ (mc_0 (fun e => c1 (e.trans rfl)))
    · by_cases c5 : T p = 119
      · have h1 := mc_1 (T := T) (p := p) (w := 4) (fun e => c4 (e.trans rfl))
        have h2 := mc_ge (T := T) (p := p) (w := 2) (by rw [c5]; rfl)
        exact ⟨h1, by omega⟩
      · exact zz _ (mc_0 (fun e => c5 (e.trans rfl)))
theorem c_same {T : Nat → Int} {L p w : Nat} {r x1 : Int} {M : Mem} {Q : Int → Mem → Prop} {k4 : Int → Int → Mem → Option (Int × Mem)} (hT : TxE T L) (hw : w ≤ 4) (h : CT T L r p M)
    (q1 : mc T p (w : Int) 4 0 = 4 → ∀ M', F12 M M' → CT T L r (p + 4) M' → Q (w : Int) M') (q0 : mc T p (w : Int) 4 0 < 4 → wp (k4 (max x1 ((mc T p (w : Int) 4 0 : Nat) : Int)) ((w + 1 : Nat) : Int) M) Q) : wp (f_X5_readWord_11 k4 FU x1 (w : Int) 0 M) Q := by
  have hL := hT.1
  obtain ⟨h1, h2, h3, h4, h5⟩ := h
  have hmL := mc_L (w := (w : Int)) hT h4 4 0 (by omega)
  have hmr := mc_r T p (w : Int) 4 0
  generalize hN : mc T p (w : Int) 4 0 = N at q0 q1 hmL hmr
  have end59 : wp (f_X5_readWord_59 k4 x1 (w : Int) (N : Int) M) Q := by
    unfold f_X5_readWord_59
    by_cases c4 : N = 4
    · refine wp_t (by omega) ?_
      rw [wp_lt, wp_some, h2, w_id (by omega) (by omega)]
      have f : F12 M (stM M 1 2 ((p : Int) + 4)) := fun j q cc => by rw [st_ap, if_neg (by omega)]
      exact q1 c4 _ f (CT_12 ⟨h1, h2, h3, h4, h5⟩ f (by rw [st_ap, if_pos ⟨rfl, rfl⟩]; omega) (by omega))
    · refine wp_f (by omega) ?_
      rw [w_suc (by omega)]
      exact q0 (by omega)
  refine wloop0 (St := Unit) (L := fun fuel x st M' => f_X5_readWord_11 k4 fuel x1 (w : Int) x M') 4 (Inv := fun i st M' => M' = M ∧ p + i ≤ L ∧ mc T p (w : Int) (4 - i) i = N) (by omega) ?_ ?_ (st := ()) ⟨rfl, h4, hN⟩
  · intro i fuel st M1 hi ⟨g1, g2, g3⟩ kk
    subst g1
    show wp (f_X5_readWord_11 k4 (fuel + 1) x1 (w : Int) (i : Int) M1) _
    rw [f_X5_readWord_11.eq_2, h1, h2, w_id (z := (p : Int) + (i : Int)) (by omega) (by omega), w_id (z := (w : Int) * 4) (by omega) (by omega), w_id (z := (w : Int) * 4 + (i : Int)) (by omega) (by omega)]
    rw [show 4 - i = (4 - (i + 1)) + 1 by omega] at g3
    unfold mc at g3
    refine wp_f (by omega) ?_
    by_cases hp : (L : Int) ≤ (p : Int) + (i : Int)
    · have hlr := ltr_r (4 * (w : Int) + (i : Int))
      rw [hT.2.1 (p + i) (by omega), if_neg (by omega)] at g3
      refine wp_t hp ?_
      rw [g3]
      exact end59
    · refine wp_f hp (wp_and (by omega) ?_)
      rw [wp_bind, show (w : Int) * 4 + (i : Int) = ((4 * w + i : Nat) : Int) by omega]
      refine c_char (by omega) ?_
      rw [show (p : Int) + (i : Int) = ((p + i : Nat) : Int) by omega, h5 (p + i) (by omega)]
      rw [show 4 * (w : Int) + (i : Int) = ((4 * w + i : Nat) : Int) by omega] at g3
      by_cases e : T (p + i) = ltr ((4 * w + i : Nat) : Int)
      · rw [if_pos e] at g3
        refine wp_t e ?_
        rw [w_suc (by omega)]
        exact kk () M1 ⟨rfl, by omega, g3⟩
      · rw [if_neg e] at g3
        refine wp_f e ?_
        rw [g3]
        exact end59
  · intro fuel st M1 ⟨g1, g2, g3⟩
    subst g1
    show wp (f_X5_readWord_11 k4 (fuel + 1) x1 (w : Int) ((4 : Nat) : Int) M1) _
    rw [f_X5_readWord_11.eq_2]
    rw [Nat.sub_self] at g3
    have g3 : 4 = N := g3
    refine wp_t (by decide) ?_
    rw [g3]
    exact end59
theorem c_word {T : Nat → Int} {L p : Nat} {r : Int} {M : Mem} {Q : Int → Mem → Prop} (hT : TxE T L) (h : CT T L r p M)
    (q0 : mc T p (wd T p) 4 0 < 4 → ∀ M', F12 M M' → CT T L r (p + mc T p (wd T p) 4 0) M' → Q (-1) M') (q1 : mc T p (wd T p) 4 0 = 4 → ∀ M', F12 M M' → CT T L r (p + 4) M' → Q (wd T p) M') : wp (f_X5_readWord M) Q := by
  have hL := hT.1
  have hwr := wd_r T p
  have hmr := mc_r T p (wd T p) 4 0
  have hmL := mc_L (w := wd T p) hT h.2.2.2.1 4 0 (by have := h.2.2.2.1; omega)
  unfold f_X5_readWord
  -- the most that some word gave so far
  refine wloop0 (St := Nat) (L := fun fuel x st M' => f_X5_readWord_4 fuel (st : Int) x M') 5 (Inv := fun i st M' => M' = M ∧ st ≤ mc T p (wd T p) 4 0 ∧ (wd T p < i → st = mc T p (wd T p) 4 0 ∧ mc T p (wd T p) 4 0 < 4)) (by omega) ?_ ?_ (st := 0) ⟨rfl, Nat.zero_le _, fun c => by omega⟩
  · intro i fuel st M1 hi ⟨g1, g2, g3⟩ kk
    subst g1
    show wp (f_X5_readWord_4 (fuel + 1) (st : Int) (i : Int) M1) _
    rw [f_X5_readWord_4.eq_2]
    refine wp_f (by omega) ?_
    refine c_same hT (by omega) h ?_ ?_
    · intro e M2 u1 u2
      by_cases hw : (i : Int) = wd T p
      · rw [hw]
        rw [hw] at e
        exact q1 e M2 u1 u2
      · have := mc_oth (T := T) (p := p) (w := (i : Int)) (by omega) hw
        omega
    · intro e
      rw [show max (st : Int) ((mc T p (i : Int) 4 0 : Nat) : Int) = ((max st (mc T p (i : Int) 4 0) : Nat) : Int) by omega]
      refine kk (max st (mc T p (i : Int) 4 0)) M1 ⟨rfl, ?_, ?_⟩
      · by_cases hw : (i : Int) = wd T p
        · rw [hw]; omega
        · have := mc_oth (T := T) (p := p) (w := (i : Int)) (by omega) hw
          omega
      · intro hlt
        by_cases hw : (i : Int) = wd T p
        · rw [hw] at e ⊢
          exact ⟨by omega, e⟩
        · have h2 := g3 (by omega)
          have := mc_oth (T := T) (p := p) (w := (i : Int)) (by omega) hw
          exact ⟨by omega, h2.2⟩
  · intro fuel st M1 ⟨g1, g2, g3⟩
    subst g1
    show wp (f_X5_readWord_4 (fuel + 1) (st : Int) ((5 : Nat) : Int) M1) _
    rw [f_X5_readWord_4.eq_2]
    have h2 := g3 (by omega)
    refine wp_t (by decide) ?_
    rw [wp_lt, wp_some, h.2.1, h2.1, w_id (by omega) (by omega)]
    have f : F12 M1 (stM M1 1 2 ((p : Int) + ((mc T p (wd T p) 4 0 : Nat) : Int))) := fun j q cc => by rw [st_ap, if_neg (by omega)]
    exact q0 h2.2 _ f (CT_12 h f (by rw [st_ap, if_pos ⟨rfl, rfl⟩]; omega) (by omega))
def sgC (x : Cl) : Int := if x.1 = 1 then -x.2.1 else x.2.1
/-- what stays while a clause is read that goes wrong -/
def FrB (r : Int) (M M' : Mem) : Prop := ∀ j q : Int, (j ≠ 1 ∨ q ≠ 2) → (j < r ∨ r + 5 < j ∨ (j = r + 2 ∧ q = 0)) → M' j q = M j q
theorem FrB_tr {r : Int} {M M1 M2 : Mem} (h : FrB r M M1) (g : FrB r M1 M2) : FrB r M M2 := fun j q a b => (g j q a b).trans (h j q a b)
theorem FrB_T {r : Int} {M M' : Mem} (h : FrT r M M') : FrB r M M' := fun j q a b => h j q a (by omega)
theorem FrB_12 {r : Int} {M M' : Mem} (h : F12 M M') : FrB r M M' := fun j q a _ => h j q a
theorem c_endX {r v : Int} {M : Mem} {Q : Int → Mem → Prop} (hr : 79 ≤ r) (hn : 0 ≤ M r 3 ∧ M r 3 ≤ 10) (k : ∀ M', FrB r M M' → (∀ q : Int, M' 1 q = M 1 q) → Q 0 M') : wp (f_X3_endClause r v M) Q := by
  unfold f_X3_endClause
  by_cases h : 10 ≤ M r 3
  · refine wp_t h ?_
    rw [wp_some]
    exact k M (fun _ _ _ _ => rfl) (fun _ => rfl)
  · refine wp_f h (wp_and (by omega) ?_)
    rw [wp_lt]
    generalize hA : stM M (r + 1) (M r 3) v = A
    have a0 : A r 3 = M r 3 := by rw [← hA, st_nc (by omega)]
    rw [wp_lt, a0, w_id (by omega) (by omega)]
    generalize hB : stM A r 3 (M r 3 + 1) = B
    have b0 : B r 3 = M r 3 + 1 := by rw [← hB, st_ap, if_pos ⟨rfl, rfl⟩]
    rw [b0]
    refine wp_and (by omega) ?_
    rw [wp_lt, wp_some]
    refine k _ (fun j q c1 c2 => ?_) (fun q => ?_)
    · rw [st_ap, if_neg (by omega), ← hB, st_ap, if_neg (by omega), ← hA, st_ap, if_neg (by omega)]
    · rw [st_ap, if_neg (by omega), ← hB, st_ap, if_neg (by omega), ← hA, st_ap, if_neg (by omega)]
theorem c_endS {r v : Int} {M : Mem} {Q : Int → Mem → Prop} (hr : 79 ≤ r) (hn : 0 ≤ M r 3 ∧ M r 3 < 10) (k : ∀ M', (∀ j q : Int, M' j q = if j = r + 2 ∧ q = M r 3 + 1 then M r 6 else if j = r ∧ q = 3 then M r 3 + 1 else if j = r + 1 ∧ q = M r 3 then v else M j q) → Q 0 M') : wp (f_X3_endClause r v M) Q := by
  unfold f_X3_endClause
  refine wp_f (by omega) (wp_and (by omega) ?_)
  rw [wp_lt]
  generalize hA : stM M (r + 1) (M r 3) v = A
  have a0 : A r 3 = M r 3 := by rw [← hA, st_nc (by omega)]
  rw [wp_lt, a0, w_id (by omega) (by omega)]
  generalize hB : stM A r 3 (M r 3 + 1) = B
  have b0 : B r 3 = M r 3 + 1 := by rw [← hB, st_ap, if_pos ⟨rfl, rfl⟩]
  have b6 : B r 6 = M r 6 := by rw [← hB, st_ap, if_neg (by omega), ← hA, st_nc (by omega)]
  rw [b0, b6]
  refine wp_and (by omega) ?_
  rw [wp_lt, wp_some]
  refine k _ (fun j q => ?_)
  rw [st_ap, ← hB, st_ap, ← hA, st_ap]
theorem c_clause {T : Nat → Int} {L p : Nat} {r : Int} {S : List Tk} {M : Mem} {Q : Int → Mem → Prop} (hT : TxE T L) (hr : 79 ≤ r) (h : CS T L r S p M) (hn : 0 ≤ M r 3 ∧ M r 3 < 10)
    (k0 : (clz T p).2 = none → ∀ M', FrB r M M' → M' 1 1 = (L : Int) → M' 1 2 = ((clz T p).1 : Int) → Q 0 M') (k1 : ∀ x, (clz T p).2 = some x → ∀ M', CS T L r (S ++ x.2.2) (clz T p).1 M' → (∀ j q : Int, (j ≠ 1 ∨ q ≠ 2) → (j < r ∨ r + 5 < j) → M' j q = M j q) → (∀ q : Int, q ≠ 6 → M' r q = if 2 ≤ x.1 ∧ q = x.1 - 2 then x.2.1 else if x.1 ≤ 1 ∧ q = 3 then M r 3 + 1 else M r q) → (∀ q : Int, M' (r + 1) q = if x.1 ≤ 1 ∧ q = M r 3 then sgC x else M (r + 1) q) → (∀ q : Int, M' (r + 2) q = if x.1 ≤ 1 ∧ q = M r 3 + 1 then ((S ++ x.2.2).length : Int) else M (r + 2) q) → Q 1 M') : wp (f_X5_readsClause M) Q := by
  have hL := hT.1
  have hrr := hdc_r hT h.1.2.2.2.1
  have hmr := mc_r T p (wd T p) 4 0
  have hwr := wd_r T p
  unfold clz at k0 k1
  unfold f_X5_readsClause f_X5_readsClause_25
  rw [wp_bind]
  have bad : ∀ (q : Nat) (M1 : Mem) (x : Int), hdc T p = (q, none) → F12 M M1 → CT T L r q M1 → wp (f_X5_readsClause_26 x (-1) M1) Q := by
    intro q M1 x e f g
    unfold f_X5_readsClause_26
    refine wp_f (by decide) ?_
    rw [wp_some]
    rw [e] at k0
    exact k0 rfl M1 (FrB_12 f) g.1 g.2.1
  refine c_word hT h.1 ?_ ?_
  · intro c1 M1 g1 g2
    exact wp_t (show (-1 : Int) < 0 by decide) (bad _ M1 _ (if_pos c1) g1 g2)
  · intro c1 M1 g1 g2
    refine wp_f (show ¬ wd T p < 0 by omega) ?_
    rw [wp_bind]
    refine c_sign hT g2 (by decide) ?_ ?_
    · intro ns
      exact wp_t rfl (bad _ M1 _ ((if_neg (by omega)).trans (if_neg ns)) g1 g2)
    · intro ys M2 u1 u2
      have u1 : F12 M1 M2 := u1
      have u2 : CT T L r (p + 5) M2 := u2
      refine wp_f one_ne ?_
      have e0 : hdc T p = if (num T (p + 5)).2 < 0 then ((num T (p + 5)).1, none) else ((num T (p + 5)).1, some (wd T p, (num T (p + 5)).2)) := (if_neg (by omega)).trans (if_pos ys)
      rw [wp_bind]
      refine c_num hT u2 ?_
      intro M3 v1 v2
      have v1 : F12 M2 M3 := v1
      have f3 : F12 M M3 := F12_tr g1 (F12_tr u1 v1)
      by_cases n1 : (num T (p + 5)).2 < 0
      · rw [if_pos n1] at e0
        unfold f_X5_readsClause_26
        refine wp_f (by simp only []; omega) ?_
        rw [wp_some]
        rw [e0] at k0
        exact k0 rfl M3 (FrB_12 f3) v2.1 v2.2.1
      · rw [if_neg n1] at e0
        rw [e0] at k0 k1 hrr
        have hr2 := hrr.2.2 _ rfl
        simp only [] at k0 k1 hrr hr2
        have s3 := CS_12 hr h f3 v2 (by omega)
        have r3 : ∀ q : Int, M3 r q = M r q := fun q => f3 r q (by omega)
        have wide : ∀ i : Int, 2 ≤ wd T p → i = wd T p - 2 → wp (if 0 ≤ M3 1 3 then lt (stM M3 (M3 1 3) i (num T (p + 5)).2) (fun M4 => some (1, M4)) else none) Q := by
          intro i w2 hi
          rw [if_pos w2] at k1
          refine wp_and (by rw [v2.2.2.1]; omega) ?_
          rw [wp_lt, wp_some, v2.2.2.1]
          have hs : ∀ j q : Int, stM M3 r i (num T (p + 5)).2 j q = if j = r ∧ q = i then (num T (p + 5)).2 else M3 j q := fun j q => by rw [st_ap]
          generalize stM M3 r i (num T (p + 5)).2 = A at hs
          refine k1 _ rfl A ?_ ?_ ?_ ?_ ?_
          · rw [show S ++ ([] : List Tk) = S from List.append_nil S]
            refine ⟨CT_fr hr s3.1 (fun q => by rw [hs, if_neg (by omega)]) (fr_j (fun q => by rw [hs, if_neg (by omega)])), ?_, s3.2.2.1, fun q hq => ?_⟩
            · rw [hs, if_neg (by omega)]; exact s3.2.1
            · rw [hs, if_neg (by omega), hs, if_neg (by omega), hs, if_neg (by omega)]; exact s3.2.2.2 q hq
          · intro j q a1 a2
            rw [hs, if_neg (by omega)]
            exact f3 j q a1
          · intro q hq6
            rw [hs, r3]
            show _ = if 2 ≤ wd T p ∧ q = wd T p - 2 then (num T (p + 5)).2 else if wd T p ≤ 1 ∧ q = 3 then M r 3 + 1 else M r q
            by_cases hq : q = i
            · rw [if_pos ⟨rfl, hq⟩, if_pos ⟨w2, by omega⟩]
            · rw [if_neg (fun c => hq c.2), if_neg (fun c => hq (by omega)), if_neg (by omega)]
          · intro q
            rw [hs, if_neg (by omega)]
            show _ = if wd T p ≤ 1 ∧ q = M r 3 then _ else _
            rw [if_neg (by omega)]
            exact f3 (r + 1) q (by omega)
          · intro q
            rw [hs, if_neg (by omega)]
            show _ = if wd T p ≤ 1 ∧ q = M r 3 + 1 then _ else _
            rw [if_neg (by omega)]
            exact f3 (r + 2) q (by omega)
        unfold f_X5_readsClause_26
        refine wp_t (by simp only []; omega) ?_
        simp only []
        by_cases w2 : wd T p = 2
        · exact wp_t w2 (wide 0 (by omega) (by omega))
        refine wp_f w2 ?_
        by_cases w3 : wd T p = 3
        · exact wp_t w3 (wide 1 (by omega) (by omega))
        refine wp_f w3 ?_
        by_cases w4 : wd T p = 4
        · exact wp_t w4 (wide 2 (by omega) (by omega))
        refine wp_f w4 ?_
        have wle : ¬ 2 ≤ wd T p := by omega
        rw [if_neg wle] at k0 k1
        -- an end that comes to nothing
        have badE : ∀ (q : Nat) (M4 : Mem), FrT r M3 M4 → M4 1 1 = (L : Int) → M4 1 2 = (q : Int) → M4 1 3 = r → (∀ M', FrB r M M' → M' 1 1 = (L : Int) → M' 1 2 = (q : Int) → Q 0 M') → wp (f_X5_readsClause_111 (wd T p) (num T (p + 5)).2 M4) Q := by
          intro q M4 f4 b1 b2 b3 kq
          have n4 : M4 r 3 = M r 3 := (f4 r 3 (by omega) (by omega)).trans (r3 3)
          have e128 : ∀ v : Int, wp (f_X5_readsClause_128 0 r v M4) Q := by
            intro v
            unfold f_X5_readsClause_128
            rw [wp_bind]
            refine c_endX hr (by omega) ?_
            intro M5 y1 y2
            refine wp_and (Or.inl rfl) ?_
            rw [wp_some]
            exact kq M5 (FrB_tr (FrB_12 f3) (FrB_tr (FrB_T f4) y1)) (by rw [y2]; exact b1) (by rw [y2]; exact b2)
          unfold f_X5_readsClause_111 f_X5_readsClause_112
          rw [b3]
          refine wp_and (by omega) ?_
          by_cases w1 : wd T p = 1
          · exact wp_t w1 (e128 _)
          · exact wp_f w1 (e128 _)
        rw [wp_bind]
        refine c_sign hT v2 (by decide) ?_ ?_
        · intro ns
          rw [if_neg ns] at k0
          refine wp_t rfl ?_
          exact badE _ M3 (FrT_rfl r M3) v2.1 v2.2.1 v2.2.2.1 (fun M' a b c => k0 rfl M' a b c)
        · intro ys2 M4 z1 z2
          rw [if_pos ys2] at k0 k1
          refine wp_f one_ne ?_
          have s4 := CS_12 hr s3 z1 z2 (by omega)
          rw [wp_bind]
          refine sm_E hT hr _ S M4 _ s4 ?_ ?_
          · intro e M5 y1 y2
            rw [e] at k0
            refine wp_t rfl ?_
            exact badE _ M5 (FrT_tr (FrT_12 z1) y1) y2.1.1 y2.1.2.1 y2.1.2.2.1 (fun M' a b c => k0 rfl M' a b c)
          · intro t e M5 y1 y2
            rw [e] at k1
            refine wp_f one_ne ?_
            have f5 : FrT r M M5 := FrT_tr (FrT_12 f3) (FrT_tr (FrT_12 z1) y1)
            have n5 : M5 r 3 = M r 3 := f5 r 3 (by omega) (by omega)
            have fin : ∀ v : Int, v = sgC (wd T p, (num T (p + 5)).2, t) → wp (f_X5_readsClause_128 1 r v M5) Q := by
              intro v hv
              unfold f_X5_readsClause_128
              rw [wp_bind]
              refine c_endS hr (by omega) ?_
              intro M6 hs
              refine wp_and (Or.inr rfl) ?_
              rw [wp_some]
              refine k1 _ rfl M6 ?_ ?_ ?_ ?_ ?_
              · refine ⟨CT_fr hr y2.1 (fun q => by rw [hs, if_neg (by omega), if_neg (by omega), if_neg (by omega)]) (fr_j (fun q => by rw [hs, if_neg (by omega), if_neg (by omega), if_neg (by omega)])), ?_, y2.2.2.1, fun q hq => ?_⟩
                · rw [hs, if_neg (by omega), if_neg (by omega), if_neg (by omega)]; exact y2.2.1
                · rw [hs, if_neg (by omega), if_neg (by omega), if_neg (by omega), hs, if_neg (by omega), if_neg (by omega), if_neg (by omega), hs, if_neg (by omega), if_neg (by omega), if_neg (by omega)]; exact y2.2.2.2 q hq
              · intro j q a1 a2
                rw [hs, if_neg (by omega), if_neg (by omega), if_neg (by omega)]
                exact f5 j q a1 (by omega)
              · intro q hq6
                rw [hs, if_neg (by omega), n5]
                show _ = if 2 ≤ wd T p ∧ q = wd T p - 2 then (num T (p + 5)).2 else if wd T p ≤ 1 ∧ q = 3 then M r 3 + 1 else M r q
                rw [if_neg (show ¬ (2 ≤ wd T p ∧ q = wd T p - 2) by omega)]
                by_cases hq : q = 3
                · rw [if_pos ⟨rfl, hq⟩, if_pos ⟨by omega, hq⟩]
                · rw [if_neg (fun c => hq c.2), if_neg (show ¬ (r = r + 1 ∧ q = M r 3) by omega), if_neg (fun c => hq c.2)]
                  exact f5 r q (by omega) (by omega)
              · intro q
                rw [hs, if_neg (by omega), if_neg (by omega), n5]
                show _ = if wd T p ≤ 1 ∧ q = M r 3 then _ else _
                by_cases hq : q = M r 3
                · rw [if_pos ⟨rfl, hq⟩, if_pos ⟨by omega, hq⟩, hv]
                · rw [if_neg (fun c => hq c.2), if_neg (fun c => hq c.2)]
                  exact f5 (r + 1) q (by omega) (by omega)
              · intro q
                rw [hs, n5]
                show _ = if wd T p ≤ 1 ∧ q = M r 3 + 1 then _ else _
                by_cases hq : q = M r 3 + 1
                · rw [if_pos ⟨rfl, hq⟩, if_pos ⟨by omega, hq⟩]
                  exact y2.2.1
                · rw [if_neg (fun c => hq c.2), if_neg (show ¬ (r + 2 = r ∧ q = 3) by omega), if_neg (show ¬ (r + 2 = r + 1 ∧ q = M r 3) by omega), if_neg (fun c => hq c.2)]
                  exact f5 (r + 2) q (by omega) (by omega)
            unfold f_X5_readsClause_112
            simp only []
            rw [y2.1.2.2.1]
            refine wp_and (by omega) ?_
            unfold sgC at fin
            simp only [] at fin
            by_cases w1 : wd T p = 1
            · rw [if_pos w1] at fin
              refine wp_t w1 ?_
              rw [w_id (by omega) (by omega)]
              exact fin _ rfl
            · rw [if_neg w1] at fin
              refine wp_f w1 ?_
              exact fin _ rfl
