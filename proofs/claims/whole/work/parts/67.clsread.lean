/-! the class: reading what is told of when -/
def CX (T : Nat → Int) (L : Nat) (r : Int) (p : Nat) (M : Mem) : Prop := CT T L r p M ∧ 0 ≤ M r 6 ∧ M r 6 ≤ 100
def CS (T : Nat → Int) (L : Nat) (r : Int) (S : List Tk) (p : Nat) (M : Mem) : Prop := CT T L r p M ∧ M r 6 = (S.length : Int) ∧ S.length ≤ p ∧ ∀ q : Nat, q < S.length → M (r + 3) (q : Int) = (S.getD q (0, 0, 0)).1 ∧ M (r + 4) (q : Int) = (S.getD q (0, 0, 0)).2.1 ∧ M (r + 5) (q : Int) = (S.getD q (0, 0, 0)).2.2
def FrT (r : Int) (M M' : Mem) : Prop := ∀ j q : Int, (j ≠ 1 ∨ q ≠ 2) → (j < r ∨ r + 5 < j ∨ j = r + 1 ∨ j = r + 2 ∨ (j = r ∧ q ≠ 6)) → M' j q = M j q
theorem FrT_rfl (r : Int) (M : Mem) : FrT r M M := fun _ _ _ _ => rfl
theorem FrT_tr {r : Int} {M M1 M2 : Mem} (h : FrT r M M1) (g : FrT r M1 M2) : FrT r M M2 := fun j q a b => (g j q a b).trans (h j q a b)
theorem FrT_12 {r : Int} {M M' : Mem} (h : F12 M M') : FrT r M M' := fun j q a _ => h j q a
theorem CS_X {T : Nat → Int} {L p : Nat} {r : Int} {S : List Tk} {M : Mem} (hT : TxE T L) (h : CS T L r S p M) : CX T L r p M := ⟨h.1, by rw [h.2.1]; omega, by
  have h1 := h.2.2.1
  have h2 := h.1.2.2.2.1
  have h3 := hT.1
  rw [h.2.1]
  omega⟩
theorem CS_12 {T : Nat → Int} {L p p' : Nat} {r : Int} {S : List Tk} {M M' : Mem} (hr : 79 ≤ r) (h : CS T L r S p M) (g : F12 M M') (h' : CT T L r p' M') (hp : p ≤ p') : CS T L r S p' M' := ⟨h', by rw [g r 6 (by omega)]; exact h.2.1, by have := h.2.2.1; omega, fun q hq => by rw [g (r + 3) _ (by omega), g (r + 4) _ (by omega), g (r + 5) _ (by omega)]; exact h.2.2.2 q hq⟩
theorem CX_12 {T : Nat → Int} {L p p' : Nat} {r : Int} {M M' : Mem} (hr : 79 ≤ r) (h : CX T L r p M) (g : F12 M M') (h' : CT T L r p' M') : CX T L r p' M' := ⟨h', by rw [g r 6 (by omega)]; exact h.2⟩
theorem CT_fr {T : Nat → Int} {L p : Nat} {r : Int} {M M' : Mem} (hr : 79 ≤ r) (h : CT T L r p M) (g : ∀ q : Int, M' 1 q = M 1 q) (g2 : M' 2 = M 2) : CT T L r p M' := ⟨by rw [g]; exact h.1, by rw [g]; exact h.2.1, by rw [g]; exact h.2.2.1, h.2.2.2.1, by rw [g2]; exact h.2.2.2.2⟩
theorem getT_app (S : List Tk) (b : Tk) (k : Nat) (h : k < S.length) : (S ++ [b]).getD k (0, 0, 0) = S.getD k (0, 0, 0) := by
  rw [List.getD_eq_getElem?_getD, List.getD_eq_getElem?_getD, List.getElem?_append_left h]
theorem getT_last (S : List Tk) (b : Tk) : (S ++ [b]).getD S.length (0, 0, 0) = b := by
  rw [List.getD_eq_getElem?_getD, List.getElem?_append_right (Nat.le_refl _), Nat.sub_self]
  rfl
theorem c_addX {T : Nat → Int} {L p : Nat} {r a b c : Int} {M : Mem} {Q : Int → Mem → Prop} (hr : 79 ≤ r) (h : CX T L r p M) (k : ∀ M', FrT r M M' → CX T L r p M' → Q 0 M') : wp (f_X3_add r a b c M) Q := by
  obtain ⟨h1, h2, h3⟩ := h
  unfold f_X3_add
  by_cases hf : 100 ≤ M r 6
  · refine wp_t hf ?_
    rw [wp_some]
    exact k M (FrT_rfl r M) ⟨h1, h2, h3⟩
  · refine wp_f hf (wp_and (by omega) ?_)
    rw [wp_lt]
    generalize hA : stM M (r + 3) (M r 6) a = A
    have a0 : A r 6 = M r 6 := by rw [← hA, st_nc (by omega)]
    refine wp_and (by omega) ?_
    rw [wp_lt]
    generalize hB : stM A (r + 4) (A r 6) b = B
    have b0 : B r 6 = M r 6 := by rw [← hB, st_nc (by omega), a0]
    refine wp_and (by omega) ?_
    rw [wp_lt]
    generalize hD : stM B (r + 5) (B r 6) c = D
    have d0 : D r 6 = M r 6 := by rw [← hD, st_nc (by omega), b0]
    rw [wp_lt, wp_some, d0, w_id (by omega) (by omega)]
    have fr : ∀ j q : Int, j ≠ r + 3 → j ≠ r + 4 → j ≠ r + 5 → (j ≠ r ∨ q ≠ 6) → stM D r 6 (M r 6 + 1) j q = M j q := fun j q c1 c2 c3 c4 => by rw [st_ap, if_neg (by omega), ← hD, st_nc c3, ← hB, st_nc c2, ← hA, st_nc c1]
    refine k _ (fun j q c1 c2 => fr j q (by omega) (by omega) (by omega) (by omega)) ⟨CT_fr hr h1 (fun q => fr 1 q (by omega) (by omega) (by omega) (by omega)) (fr_j (fun q => fr 2 q (by omega) (by omega) (by omega) (by omega))), ?_, ?_⟩
    · rw [st_ap, if_pos ⟨rfl, rfl⟩]; omega
    · rw [st_ap, if_pos ⟨rfl, rfl⟩]; omega
theorem c_addS {T : Nat → Int} {L p : Nat} {r a b c : Int} {S : List Tk} {M : Mem} {Q : Int → Mem → Prop} (hT : TxE T L) (hr : 79 ≤ r) (h : CS T L r S p M) (hl : S.length + 1 ≤ p) (k : ∀ M', FrT r M M' → CS T L r (S ++ [(a, b, c)]) p M' → Q 0 M') : wp (f_X3_add r a b c M) Q := by
  obtain ⟨h1, h2, h3, h4⟩ := h
  have hp := h1.2.2.2.1
  have hL := hT.1
  unfold f_X3_add
  refine wp_f (by omega) (wp_and (by omega) ?_)
  rw [wp_lt]
  generalize hA : stM M (r + 3) (M r 6) a = A
  have a0 : A r 6 = M r 6 := by rw [← hA, st_nc (by omega)]
  refine wp_and (by omega) ?_
  rw [wp_lt]
  generalize hB : stM A (r + 4) (A r 6) b = B
  have b0 : B r 6 = M r 6 := by rw [← hB, st_nc (by omega), a0]
  refine wp_and (by omega) ?_
  rw [wp_lt]
  generalize hD : stM B (r + 5) (B r 6) c = D
  have d0 : D r 6 = M r 6 := by rw [← hD, st_nc (by omega), b0]
  rw [wp_lt, wp_some, d0, w_id (by omega) (by omega)]
  have fr : ∀ j q : Int, j ≠ r + 3 → j ≠ r + 4 → j ≠ r + 5 → (j ≠ r ∨ q ≠ 6) → stM D r 6 (M r 6 + 1) j q = M j q := fun j q c1 c2 c3 c4 => by rw [st_ap, if_neg (by omega), ← hD, st_nc c3, ← hB, st_nc c2, ← hA, st_nc c1]
  refine k _ (fun j q c1 c2 => fr j q (by omega) (by omega) (by omega) (by omega)) ⟨CT_fr hr h1 (fun q => fr 1 q (by omega) (by omega) (by omega) (by omega)) (fr_j (fun q => fr 2 q (by omega) (by omega) (by omega) (by omega))), ?_, ?_, ?_⟩
  · rw [st_ap, if_pos ⟨rfl, rfl⟩, h2, List.length_append]
    rfl
  · rw [List.length_append]
    exact hl
  · intro q hq
    rw [List.length_append] at hq
    have hq : q < S.length + 1 := hq
    have e3 : stM D r 6 (M r 6 + 1) (r + 3) (q : Int) = if (q : Int) = M r 6 then a else M (r + 3) (q : Int) := by
      rw [st_nc (by omega), ← hD, st_nc (by omega), ← hB, st_nc (by omega), ← hA, st_ap]
      by_cases hh : (q : Int) = M r 6
      · rw [if_pos ⟨rfl, hh⟩, if_pos hh]
      · rw [if_neg (fun c => hh c.2), if_neg hh]
    have e4 : stM D r 6 (M r 6 + 1) (r + 4) (q : Int) = if (q : Int) = M r 6 then b else M (r + 4) (q : Int) := by
      rw [st_nc (by omega), ← hD, st_nc (by omega), ← hB, st_ap, a0, ← hA, st_nc (by omega)]
      by_cases hh : (q : Int) = M r 6
      · rw [if_pos ⟨rfl, hh⟩, if_pos hh]
      · rw [if_neg (fun c => hh c.2), if_neg hh]
    have e5 : stM D r 6 (M r 6 + 1) (r + 5) (q : Int) = if (q : Int) = M r 6 then c else M (r + 5) (q : Int) := by
      rw [st_nc (by omega), ← hD, st_ap, b0, ← hB, st_nc (by omega), ← hA, st_nc (by omega)]
      by_cases hh : (q : Int) = M r 6
      · rw [if_pos ⟨rfl, hh⟩, if_pos hh]
      · rw [if_neg (fun c => hh c.2), if_neg hh]
    rw [e3, e4, e5, h2]
    by_cases hh : q = S.length
    · rw [hh, getT_last, if_pos rfl, if_pos rfl, if_pos rfl]
      exact ⟨rfl, rfl, rfl⟩
    · rw [if_neg (by omega), if_neg (by omega), if_neg (by omega), getT_app S _ q (by omega)]
      exact h4 q (by omega)
/-- the class reads as the function says -/
def smC (T : Nat → Int) (L : Nat) (r : Int) (f : Nat → Res) (F : Mem → Option (Int × Mem)) : Prop := ∀ (p : Nat) (S : List Tk) (M : Mem) (Q : Int → Mem → Prop), CS T L r S p M → ((f p).2 = none → ∀ M', FrT r M M' → CX T L r (f p).1 M' → Q 0 M') → (∀ t, (f p).2 = some t → ∀ M', FrT r M M' → CS T L r (S ++ t) (f p).1 M' → Q 1 M') → wp (F M) Q
theorem sm_tst {T : Nat → Int} {L : Nat} {r : Int} (hT : TxE T L) (hr : 79 ≤ r) : smC T L r (tst T) f_X5_readsTest := by
  intro p S M Q h k0 k1
  have hg := gd_tst hT p h.1.2.2.2.1
  unfold tst at k0 k1 hg
  unfold f_X5_readsTest f_X5_readsTest_21 f_X5_readsTest_34
  rw [wp_bind]
  refine c_oneOf hT (by omega) h.1 rfl ?_ ?_
  · intro h1
    rw [ix1] at h1
    rw [if_pos h1] at k0
    refine wp_f (show ¬ (0 : Int) ≤ -1 by decide) (wp_f (show ¬ (0 : Int) ≤ -1 by decide) (wp_f (show ¬ (0 : Int) ≤ -1 by decide) ?_))
    rw [wp_some]
    exact k0 rfl M (FrT_rfl r M) (CS_X hT h)
  · intro h1 M1 g1 g2
    rw [ix1] at h1 ⊢
    rw [if_neg (show ¬ plc (T p) < 0 by omega)] at k0 k1 hg
    refine wp_t h1 ?_
    have hc1 := CS_12 hr h g1 g2 (by omega)
    rw [wp_bind]
    refine c_oneOf hT (by omega) g2 rfl ?_ ?_
    · intro h2
      rw [ix2] at h2
      by_cases h3 : 60 ≤ T (p + 1) ∧ T (p + 1) ≤ 62
      · rw [if_pos h3] at h2
        omega
      · rw [if_neg h3] at k0
        refine wp_f (show ¬ (0 : Int) ≤ -1 by decide) (wp_f (show ¬ (0 : Int) ≤ -1 by decide) ?_)
        rw [wp_some]
        exact k0 rfl M1 (FrT_12 g1) (CS_X hT hc1)
    · intro h2 M2 u1 u2
      rw [ix2] at h2 ⊢
      by_cases h3 : 60 ≤ T (p + 1) ∧ T (p + 1) ≤ 62
      · rw [if_pos h3] at h2 k0 k1 hg ⊢
        refine wp_t h2 ?_
        have u2 : CT T L r (p + 2) M2 := u2
        have hc2 := CS_12 hr hc1 u1 u2 (by omega)
        rw [wp_bind]
        refine c_num hT u2 ?_
        intro M3 v1 v2
        have hnr := num_r hT (p := p + 2) (by have := u2.2.2.2.1; omega)
        have hc3 := CS_12 hr hc2 v1 v2 hnr.1
        have fr3 : FrT r M M3 := FrT_12 (F12_tr g1 (F12_tr u1 v1))
        by_cases h4 : (num T (p + 2)).2 < 0
        · rw [if_pos h4] at k0
          refine wp_f (by simp only []; omega) ?_
          rw [wp_some]
          exact k0 rfl M3 fr3 (CS_X hT hc3)
        · rw [if_neg h4] at k1 hg
          refine wp_t (by simp only []; omega) (wp_and (by simp only []; rw [v2.2.2.1]; omega) ?_)
          simp only []
          rw [wp_bind, v2.2.2.1, w_id (by omega) (by omega), show T (p + 1) - 60 - 1 = T (p + 1) - 61 by omega]
          refine c_addS hT hr hc3 ?_ ?_
          · have := h.2.2.1
            have := hg.2.2 _ rfl
            have h5 := this.1
            have h5 : p + 1 ≤ (num T (p + 2)).1 := h5
            omega
          · intro M4 w1 w2
            rw [wp_some]
            exact k1 _ rfl M4 (FrT_tr fr3 w1) w2
      · rw [if_neg h3] at h2
        omega
theorem sm_lst {T : Nat → Int} {L H : Nat} {r sep a : Int} {f : Nat → Res} {F : Mem → Option (Int × Mem)} {G : Nat → Int → Int → Mem → Option (Int × Mem)} (hT : TxE T L) (hr : 79 ≤ r) (hs : sep ≠ -1) (hF : smC T L r f F) (hg : gd f L H)
    (hG : ∀ n x2 x3 M, G (n + 1) x2 x3 M = if x2 = 0 then if x2 = 0 ∨ x2 = 1 then some (x2, M) else none else if 100 ≤ x3 then if x2 = 0 ∨ x2 = 1 then some (x2, M) else none else (f_X5_readsSign sep M).bind (fun q5 => if q5.1 = 0 then if x2 = 0 ∨ x2 = 1 then some (x2, q5.2) else none else (F q5.2).bind (fun q9 => if 0 ≤ (q9.2 1 3) then (f_X3_add (q9.2 1 3) a 0 0 q9.2).bind (fun q12 => G n q9.1 (w32 (x3 + 1)) q12.2) else none))) :
    ∀ (n c fuel p : Nat) (S0 t0 : List Tk) (M : Mem) (Q : Int → Mem → Prop), c + n = 100 → n + 2 ≤ fuel → CS T L r (S0 ++ t0) p M → ((lst f T sep (a, 0, 0) n p t0).2 = none → ∀ M', FrT r M M' → CX T L r (lst f T sep (a, 0, 0) n p t0).1 M' → Q 0 M') → (∀ t, (lst f T sep (a, 0, 0) n p t0).2 = some t → ∀ M', FrT r M M' → CS T L r (S0 ++ t) (lst f T sep (a, 0, 0) n p t0).1 M' → Q 1 M') → wp (G fuel 1 (c : Int) M) Q
  | 0, c, fuel, p, S0, t0, M, Q, hc, hfu, h, k0, k1 => by
    obtain ⟨fu, rfl⟩ : ∃ fu, fuel = fu + 1 := ⟨fuel - 1, by omega⟩
    rw [hG]
    refine wp_f one_ne (wp_t (by omega) (wp_and (Or.inr rfl) ?_))
    rw [wp_some]
    exact k1 t0 rfl M (FrT_rfl r M) h
  | n + 1, c, fuel, p, S0, t0, M, Q, hc, hfu, h, k0, k1 => by
    obtain ⟨fu, rfl⟩ : ∃ fu, fuel = fu + 1 := ⟨fuel - 1, by omega⟩
    rw [hG]
    unfold lst at k0 k1
    refine wp_f one_ne (wp_f (by omega) ?_)
    rw [wp_bind]
    refine c_sign hT h.1 hs ?_ ?_
    · intro h1
      rw [if_neg h1] at k1
      refine wp_t rfl (wp_and (Or.inr rfl) ?_)
      rw [wp_some]
      exact k1 t0 rfl M (FrT_rfl r M) h
    · intro h1 M1 g1 g2
      rw [if_pos h1] at k0 k1
      refine wp_f one_ne ?_
      have hc1 := CS_12 hr h g1 g2 (by omega)
      have hgp := hg (p + 1) g2.2.2.2.1
      rw [wp_bind]
      refine hF (p + 1) (S0 ++ t0) M1 _ hc1 ?_ ?_
      · intro hn M2 u1 u2
        rw [thn_n hn] at k0
        refine wp_and (by simp only []; rw [u2.1.2.2.1]; omega) ?_
        simp only []
        rw [wp_bind, u2.1.2.2.1]
        refine c_addX hr u2 ?_
        intro M3 v1 v2
        obtain ⟨fu2, rfl⟩ : ∃ fu2, fu = fu2 + 1 := ⟨fu - 1, by omega⟩
        simp only []
        rw [hG]
        refine wp_t rfl (wp_and (Or.inl rfl) ?_)
        rw [wp_some]
        exact k0 rfl M3 (FrT_tr (FrT_12 g1) (FrT_tr u1 v1)) v2
      · intro t hn M2 u1 u2
        rw [thn_s hn] at k0 k1
        refine wp_and (by simp only []; rw [u2.1.2.2.1]; omega) ?_
        simp only []
        rw [wp_bind, u2.1.2.2.1]
        refine c_addS hT hr u2 ?_ ?_
        · have h5 := (hgp.2.2 t hn).1
          have h6 := h.2.2.1
          rw [List.length_append] at h6 ⊢
          rw [List.length_append]
          omega
        · intro M3 v1 v2
          simp only []
          rw [w_suc (by omega)]
          rw [List.append_assoc, List.append_assoc] at v2
          refine sm_lst hT hr hs hF hg hG n (c + 1) fu (f (p + 1)).1 S0 (t0 ++ (t ++ [(a, 0, 0)])) M3 Q (by omega) (by omega) v2 ?_ ?_
          · intro e M4 w1 w2
            exact k0 e M4 (FrT_tr (FrT_12 g1) (FrT_tr u1 (FrT_tr v1 w1))) w2
          · intro t' e M4 w1 w2
            exact k1 t' e M4 (FrT_tr (FrT_12 g1) (FrT_tr u1 (FrT_tr v1 w1))) w2
theorem sm_all {T : Nat → Int} {L H : Nat} {r x1 : Int} {f : Nat → Res} {rc : Int → Mem → Option (Int × Mem)} (hT : TxE T L) (hr : 79 ≤ r) (hF : smC T L r f (rc x1)) (hg : gd f L H) : smC T L r (pT f T) (s_X5_readsAll rc x1) := by
  intro p S M Q h k0 k1
  have hg0 := hg p h.1.2.2.2.1
  unfold pT at k0 k1
  unfold s_X5_readsAll
  rw [wp_bind]
  refine hF p S M _ h ?_ ?_
  · intro hn M1 g1 g2
    rw [thn_n hn] at k0
    simp only []
    rw [FU_e, show (100000 : Nat) = 99999 + 1 from rfl, s_X5_readsAll_8.eq_2]
    refine wp_t rfl (wp_and (Or.inl rfl) ?_)
    rw [wp_some]
    exact k0 rfl M1 g1 g2
  · intro t hn M1 g1 g2
    rw [thn_s hn] at k0 k1
    simp only []
    refine sm_lst (sep := 38) (a := 7) (G := fun n x2 x3 M => s_X5_readsAll_8 rc x1 n x1 x2 x3 M) (F := rc x1) hT hr (by decide) hF hg (fun n x2 x3 M => by rw [s_X5_readsAll_8.eq_2]) 100 0 FU (f p).1 S t M1 Q rfl (by rw [FU_e]; omega) g2 ?_ ?_
    · intro e M2 u1 u2
      exact k0 e M2 (FrT_tr g1 u1) u2
    · intro t' e M2 u1 u2
      exact k1 t' e M2 (FrT_tr g1 u1) u2
theorem sm_any {T : Nat → Int} {L H : Nat} {r x1 : Int} {f : Nat → Res} {ra : Int → Mem → Option (Int × Mem)} (hT : TxE T L) (hr : 79 ≤ r) (hF : smC T L r (pT f T) (ra x1)) (hg : gd f L H) : smC T L r (pE f T) (s_X5_readsAny ra x1) := by
  intro p S M Q h k0 k1
  have hgT := gd_pT hT hg
  unfold pE at k0 k1
  unfold s_X5_readsAny
  rw [wp_bind]
  refine hF p S M _ h ?_ ?_
  · intro hn M1 g1 g2
    rw [thn_n hn] at k0
    simp only []
    rw [FU_e, show (100000 : Nat) = 99999 + 1 from rfl, s_X5_readsAny_8.eq_2]
    refine wp_t rfl (wp_and (Or.inl rfl) ?_)
    rw [wp_some]
    exact k0 rfl M1 g1 g2
  · intro t hn M1 g1 g2
    rw [thn_s hn] at k0 k1
    simp only []
    refine sm_lst (sep := 124) (a := 8) (G := fun n x2 x3 M => s_X5_readsAny_8 ra x1 n x1 x2 x3 M) (F := ra x1) hT hr (by decide) hF hgT (fun n x2 x3 M => by rw [s_X5_readsAny_8.eq_2]) 100 0 FU (pT f T p).1 S t M1 Q rfl (by rw [FU_e]; omega) g2 ?_ ?_
    · intro e M2 u1 u2
      exact k0 e M2 (FrT_tr g1 u1) u2
    · intro t' e M2 u1 u2
      exact k1 t' e M2 (FrT_tr g1 u1) u2
theorem sm_one {T : Nat → Int} {L : Nat} {r : Int} (hT : TxE T L) (hr : 79 ≤ r) : ∀ (d n : Nat) (k : Nat), k + d = 4 → d + 1 ≤ n → smC T L r (pF T d) (f_X5_readsOne n (k : Int))
  | d, n, k, hk, hn => by
    obtain ⟨m, rfl⟩ : ∃ m, n = m + 1 := ⟨n - 1, by omega⟩
    have tt : ∀ p S M Q, CS T L r S p M → ((tst T p).2 = none → ∀ M', FrT r M M' → CX T L r (tst T p).1 M' → Q 0 M') → (∀ t, (tst T p).2 = some t → ∀ M', FrT r M M' → CS T L r (S ++ t) (tst T p).1 M' → Q 1 M') → wp (s_X5_readsOne_74 (f_X5_readsOne m) (s_X5_readsAny (s_X5_readsAll (f_X5_readsOne m))) (k : Int) M) Q := by
      intro p S M Q h k0 k1
      unfold s_X5_readsOne_74
      rw [wp_bind]
      refine sm_tst hT hr p S M _ h ?_ ?_
      · intro e M1 g1 g2
        rw [wp_some]
        exact k0 e M1 g1 g2
      · intro t e M1 g1 g2
        rw [wp_some]
        exact k1 t e M1 g1 g2
    intro p S M Q h k0 k1
    rw [f_X5_readsOne.eq_2]
    unfold s_X5_readsOne s_X5_readsOne_35
    cases d with
    | zero =>
      exact wp_t (by omega) (wp_t (by omega) (tt p S M Q h k0 k1))
    | succ d =>
      have ih := sm_one hT hr d m (k + 1) (by omega) (by omega)
      have hgF := gd_pF hT d
      unfold pF at k0 k1
      refine wp_f (by omega) ?_
      rw [wp_bind]
      refine c_sign hT h.1 (by decide) ?_ ?_
      · intro h1
        rw [if_neg h1] at k0 k1
        refine wp_t rfl (wp_f (by omega) ?_)
        rw [wp_bind]
        refine c_sign hT h.1 (by decide) ?_ ?_
        · intro h2
          rw [if_neg h2] at k0 k1
          exact wp_t rfl (tt p S M Q h k0 k1)
        · intro h2 M1 g1 g2
          rw [if_pos h2] at k0 k1
          refine wp_f one_ne ?_
          have hc1 := CS_12 hr h g1 g2 (by omega)
          have hE := sm_any hT hr (sm_all hT hr ih hgF) hgF
          have hgE := gd_pE hT hgF (p + 1) g2.2.2.2.1
          rw [wp_bind, w_suc (by omega)]
          refine hE (p + 1) S M1 _ hc1 ?_ ?_
          · intro e M2 u1 u2
            rw [thn_n e] at k0
            refine wp_t rfl ?_
            rw [wp_some]
            exact k0 rfl M2 (FrT_tr (FrT_12 g1) u1) u2
          · intro t e M2 u1 u2
            rw [thn_s e] at k0 k1
            refine wp_f one_ne ?_
            rw [wp_bind]
            refine c_sign hT u2.1 (by decide) ?_ ?_
            · intro h3
              rw [if_neg h3] at k0
              refine wp_t rfl ?_
              rw [wp_some]
              exact k0 rfl M2 (FrT_tr (FrT_12 g1) u1) (CS_X hT u2)
            · intro h3 M3 v1 v2
              rw [if_pos h3] at k1
              refine wp_f one_ne ?_
              rw [wp_some]
              exact k1 t rfl M3 (FrT_tr (FrT_12 g1) (FrT_tr u1 (FrT_12 v1))) (CS_12 hr u2 v1 v2 (by omega))
      · intro h1 M1 g1 g2
        rw [if_pos h1] at k0 k1
        refine wp_f one_ne ?_
        have hc1 := CS_12 hr h g1 g2 (by omega)
        have hg1 := hgF (p + 1) g2.2.2.2.1
        rw [wp_bind, w_suc (by omega)]
        refine ih (p + 1) S M1 _ hc1 ?_ ?_
        · intro e M2 u1 u2
          rw [thn_n e] at k0
          refine wp_and (by simp only []; rw [u2.1.2.2.1]; omega) ?_
          simp only []
          rw [wp_bind, u2.1.2.2.1]
          refine c_addX hr u2 ?_
          intro M3 v1 v2
          rw [wp_some]
          exact k0 rfl M3 (FrT_tr (FrT_12 g1) (FrT_tr u1 v1)) v2
        · intro t e M2 u1 u2
          rw [thn_s e] at k0 k1
          refine wp_and (by simp only []; rw [u2.1.2.2.1]; omega) ?_
          simp only []
          rw [wp_bind, u2.1.2.2.1]
          refine c_addS hT hr u2 ?_ ?_
          · have h5 := (hg1.2.2 t e).1
            have h6 := h.2.2.1
            rw [List.length_append]
            omega
          · intro M3 v1 v2
            rw [wp_some]
            rw [List.append_assoc] at v2
            exact k1 _ rfl M3 (FrT_tr (FrT_12 g1) (FrT_tr u1 v1)) v2
theorem sm_E {T : Nat → Int} {L : Nat} {r : Int} (hT : TxE T L) (hr : 79 ≤ r) : smC T L r (pE (pF T 4) T) (f_X5_readsAny 0) := by
  have h1 := sm_one hT hr 4 6 0 rfl (by decide)
  have h2 := gd_pF hT 4
  exact sm_any hT hr (sm_all hT hr h1 h2) h2
