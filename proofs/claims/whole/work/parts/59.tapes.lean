/-! both: tapes -/
theorem Rl_9 {e : Vw} {M M' : Mem} (h : Rl e M) (h9' : R9 M') (hf : ∀ j q : Int, (j < 115 ∨ 126 < j) → (j < 168 ∨ 171 < j) → M' j q = M j q) : Rl e M' := by
  obtain ⟨h1, h2, h3, h4, h5, h6, h7, h8, h9⟩ := h
  refine ⟨R1_fr h1 ?_, R2_fr h2 ?_, R3_fr h3 ?_, R4_fr h4 ?_, R5_fr h5 ?_, R6_fr h6 ?_ ?_, R7_fr h7 ?_, R8_fr h8 ?_, h9'⟩
  · exact fun j q c => hf j q (by omega) (by omega)
  · exact fun j q c => hf j q (by omega) (by omega)
  · exact fun j q c => hf j q (by omega) (by omega)
  · exact fun j q c => hf j q (by omega) (by omega)
  · exact fun j q c => hf j q (by omega) (by omega)
  · exact fun j q c => hf j q (by omega) (by omega)
  · rw [hf 0 6 (by omega) (by omega)]; exact Int.le_refl _
  · exact fun j q c => hf j q (by omega) (by omega)
  · exact fun j q c => hf j q (by omega) (by omega)
theorem c_isT {p : Int} {M : Mem} {Q : Int → Mem → Prop} (k : Q (if 0 ≤ p ∧ p ≤ 5 then 1 else 0) M) : wp (f_X7_isTape p M) Q := by
  unfold f_X7_isTape
  rw [wp_bind]
  refine c_isIn ?_
  rw [wp_some]
  exact k
theorem m_isT {p : Int} {M : Mem} {Q : Int → Mem → Prop} (k : Q (if 0 ≤ p ∧ p ≤ 5 then 1 else 0) M) : wp (f_X8_isTape p M) Q := by
  unfold f_X8_isTape
  rw [wp_bind]
  refine m_in ?_
  rw [wp_some]
  exact k
theorem c_hasP {o i z : Int} {M : Mem} {Q : Int → Mem → Prop} (hz : M o 1 = z) (k : Q (if 0 ≤ i ∧ i < z then 1 else 0) M) : wp (f_X4_hasPlace o i M) Q := by
  unfold f_X4_hasPlace
  rw [hz]
  simp only [wp_ite, wp_some]
  grind
def nar (s v : Int) : Int := if s = 0 then w8 (w32 v) else if s = 1 then w16 (w32 v) else if s = 2 then w32 v else if s = 4 then (if cmp64 v 0 = 0 then 0 else 1) else v
theorem c_put4 {o i v s : Int} {M : Mem} {Q : Int → Mem → Prop} (hs : M o 0 = s) (hs4 : 0 ≤ s ∧ s ≤ 4) (hi : 0 ≤ i ∧ i < 60) (k : Q 0 (stM M (o + 1) i (nar s v))) : wp (f_X4_put o i v M) Q := by
  unfold f_X4_put
  rw [hs]
  unfold nar at k
  by_cases h0 : s = 0
  · rw [if_pos h0] at k
    refine wp_t h0 (wp_and hi ?_)
    rw [wp_lt, wp_some]
    exact k
  rw [if_neg h0] at k
  refine wp_f h0 ?_
  by_cases h1 : s = 1
  · rw [if_pos h1] at k
    refine wp_t h1 (wp_and hi ?_)
    rw [wp_lt, wp_some]
    exact k
  rw [if_neg h1] at k
  refine wp_f h1 ?_
  by_cases h2 : s = 2
  · rw [if_pos h2] at k
    refine wp_t h2 (wp_and hi ?_)
    rw [wp_lt, wp_some]
    exact k
  rw [if_neg h2] at k
  refine wp_f h2 ?_
  by_cases h3 : s = 3
  · rw [if_neg (show ¬ s = 4 by omega)] at k
    refine wp_t h3 (wp_and hi ?_)
    rw [wp_lt, wp_some]
    exact k
  rw [if_pos (show s = 4 by omega)] at k
  refine wp_f h3 ?_
  by_cases hc : cmp64 v 0 = 0
  · rw [if_pos hc] at k
    refine wp_t hc (wp_and hi ?_)
    rw [wp_lt, wp_some]
    exact k
  · rw [if_neg hc] at k
    refine wp_f hc (wp_and hi ?_)
    rw [wp_lt, wp_some]
    exact k
theorem m_narrow {s v : Int} {M : Mem} {Q : Int → Mem → Prop} (k : Q (nar s v) M) : wp (f_X8_narrow s v M) Q := by
  unfold f_X8_narrow
  unfold nar at k
  by_cases h0 : s = 0
  · rw [if_pos h0] at k
    refine wp_t h0 ?_
    rw [wp_some]
    exact k
  rw [if_neg h0] at k
  refine wp_f h0 ?_
  by_cases h1 : s = 1
  · rw [if_pos h1] at k
    refine wp_t h1 ?_
    rw [wp_some]
    exact k
  rw [if_neg h1] at k
  refine wp_f h1 ?_
  by_cases h2 : s = 2
  · rw [if_pos h2] at k
    refine wp_t h2 ?_
    rw [wp_some]
    exact k
  rw [if_neg h2] at k
  refine wp_f h2 ?_
  by_cases h4 : s = 4
  · rw [if_pos h4] at k
    refine wp_t h4 ?_
    by_cases hc : cmp64 v 0 = 0
    · rw [if_pos hc] at k
      refine wp_t hc ?_
      rw [wp_some]
      exact k
    · rw [if_neg hc] at k
      refine wp_f hc ?_
      rw [wp_some]
      exact k
  · rw [if_neg h4] at k
    refine wp_f h4 ?_
    rw [wp_some]
    exact k
theorem o_read {t i : Int} {M : Mem} (hr : Rel M) : OP (f_X7_read t i) (f_X8_read t i) M := by
  obtain ⟨e, h⟩ := hr
  have h9 := h.2.2.2.2.2.2.2.2
  unfold OP f_X7_read
  rw [wp_bind]
  refine c_isT ?_
  by_cases ht : 0 ≤ t ∧ t ≤ 5
  · rw [if_pos ht]
    obtain ⟨a1, a2, a3, a4, a5, a6⟩ := h9 t (by omega) (by omega)
    refine wp_f one_ne (wp_and (by omega) ?_)
    rw [wp_bind]
    refine c_hasP a3 ?_
    have mm : ∀ Q : Int → Mem → Prop, (¬ (0 ≤ i ∧ i < M 169 t) → Q (-9223372036854775808) M) → (0 ≤ i ∧ i < M 169 t → Q (M 170 (60 * t + i)) M) → wp (f_X8_read t i M) Q := by
      intro Q k1 k2
      unfold f_X8_read
      rw [wp_bind]
      refine m_isT ?_
      rw [if_pos ht]
      refine wp_f one_ne (wp_and (by omega) ?_)
      simp only []
      by_cases hs : M 168 t < 0
      · refine wp_t hs ?_
        rw [wp_some]
        exact k1 (by have := a5 (by omega); omega)
      · refine wp_f hs (wp_and (by omega) ?_)
        rw [wp_bind, w_id (z := M 169 t - 1) (by omega) (by omega)]
        by_cases hi : 0 ≤ i ∧ i < M 169 t
        · refine m_in_t (by omega) ?_
          refine wp_f one_ne ?_
          rw [w_id (z := 60 * t) (by omega) (by omega), w_id (z := 60 * t + i) (by omega) (by omega)]
          refine wp_and (by omega) ?_
          rw [wp_some]
          exact k2 hi
        · refine m_in_f (by omega) ?_
          refine wp_t rfl ?_
          rw [wp_some]
          exact k1 hi
    by_cases hi : 0 ≤ i ∧ i < M 169 t
    · rw [if_pos hi]
      refine wp_f one_ne (wp_and (by omega) (wp_and (by omega) ?_))
      rw [wp_some]
      refine mm _ (fun c => absurd hi c) (fun _ => ⟨?_, e, h⟩)
      have := a6 i hi.1 (by omega)
      rw [show (116 + 2 * t : Int) = 115 + 2 * t + 1 by omega] at this
      exact this
    · rw [if_neg hi]
      refine wp_t rfl ?_
      rw [wp_some]
      exact mm _ (fun _ => ⟨rfl, e, h⟩) (fun c => absurd c hi)
  · rw [if_neg ht]
    refine wp_t rfl ?_
    rw [wp_some]
    show wp (f_X8_read t i M) _
    unfold f_X8_read
    rw [wp_bind]
    refine m_isT ?_
    rw [if_neg ht]
    refine wp_t rfl ?_
    rw [wp_some]
    exact ⟨rfl, e, h⟩
theorem o_item {t i v : Int} {M : Mem} (hr : Rel M) : OP (f_X7_item t i v) (f_X8_item t i v) M := by
  obtain ⟨e, h⟩ := hr
  have h9 := h.2.2.2.2.2.2.2.2
  unfold OP f_X7_item
  rw [wp_bind]
  refine c_isT ?_
  by_cases ht : 0 ≤ t ∧ t ≤ 5
  · rw [if_pos ht]
    obtain ⟨a1, a2, a3, a4, a5, a6⟩ := h9 t (by omega) (by omega)
    refine wp_f one_ne (wp_and (by omega) ?_)
    simp only []
    have mm : ∀ (M1 : Mem) (Q : Int → Mem → Prop), M1 168 t = M 168 t → M1 169 t = M 169 t → (M 168 t = -1 → Q (-11) M1) → (M 168 t ≠ -1 → ¬ (0 ≤ i ∧ i < M 169 t) → Q (-13) M1) → (M 168 t ≠ -1 → 0 ≤ i ∧ i < M 169 t → Q 1 (stM M1 170 (60 * t + i) (nar (M 168 t) v))) → wp (f_X8_item t i v M1) Q := by
      intro M1 Q e1 e2 k1 k2 k3
      unfold f_X8_item
      rw [wp_bind]
      refine m_isT ?_
      rw [if_pos ht]
      refine wp_f one_ne (wp_and (by omega) ?_)
      simp only []
      rw [e1, e2]
      by_cases hs : M 168 t = -1
      · refine wp_f (by omega) ?_
        rw [wp_some]
        exact k1 hs
      · refine wp_t (by omega) (wp_and (by omega) ?_)
        rw [wp_bind, w_id (z := M 169 t - 1) (by omega) (by omega)]
        by_cases hi : 0 ≤ i ∧ i < M 169 t
        · refine m_in_t (by omega) ?_
          refine wp_f one_ne (wp_and (by omega) ?_)
          simp only []
          rw [wp_bind, e1]
          refine m_narrow ?_
          rw [w_id (z := 60 * t) (by omega) (by omega), w_id (z := 60 * t + i) (by omega) (by omega)]
          refine wp_and (by omega) ?_
          rw [wp_lt, wp_some]
          exact k3 hs hi
        · refine m_in_f (by omega) ?_
          refine wp_t rfl ?_
          rw [wp_some]
          exact k2 hs hi
    by_cases hs : M 168 t = -1
    · refine wp_t (a1.trans hs) ?_
      rw [wp_some]
      exact mm M _ rfl rfl (fun _ => ⟨rfl, e, h⟩) (fun c => absurd hs c) (fun c => absurd hs c)
    · refine wp_f (fun c => hs (a1.symm.trans c)) (wp_and (by omega) ?_)
      rw [wp_bind]
      refine c_hasP a3 ?_
      by_cases hi : 0 ≤ i ∧ i < M 169 t
      · rw [if_pos hi]
        refine wp_f one_ne (wp_and (by omega) ?_)
        rw [wp_bind]
        refine c_put4 a1 (by omega) (by omega) ?_
        rw [wp_some]
        show wp (f_X8_item t i v (stM M (115 + 2 * t + 1) i (nar (M 168 t) v))) _
        refine mm _ _ (congrFun (st_nc (by omega)) t) (congrFun (st_nc (by omega)) t) (fun c => absurd c hs) (fun _ c => absurd hi c) (fun _ _ => ⟨rfl, e, Rl_9 h ?_ ?_⟩)
        · intro t' t0 t6
          have b := h9 t' t0 t6
          have c1 : ∀ q, stM (stM M (115 + 2 * t + 1) i (nar (M 168 t) v)) 170 (60 * t + i) (nar (M 168 t) v) (115 + 2 * t') q = M (115 + 2 * t') q := fun q => (congrFun (st_nc (by omega)) q).trans (congrFun (st_nc (by omega)) q)
          have c2 : ∀ (j : Int) q, j = 168 ∨ j = 169 → stM (stM M (115 + 2 * t + 1) i (nar (M 168 t) v)) 170 (60 * t + i) (nar (M 168 t) v) j q = M j q := fun j q hj => (congrFun (st_nc (by omega)) q).trans (congrFun (st_nc (by omega)) q)
          rw [c1, c1, c2 168 _ (Or.inl rfl), c2 169 _ (Or.inr rfl)]
          refine ⟨b.1, b.2.1, b.2.2.1, b.2.2.2.1, b.2.2.2.2.1, fun q q0 q6 => ?_⟩
          have bq := b.2.2.2.2.2 q q0 q6
          rw [st_ap, if_neg (by omega), st_ap, st_ap]
          by_cases hq : t' = t ∧ q = i
          · rw [if_pos (by omega), if_pos (by omega)]
          · rw [if_neg (by omega), if_neg (by omega), st_ap, if_neg (by omega)]
            exact bq
        · intro j q b1 b2
          exact (congrFun (st_nc (by omega)) q).trans (congrFun (st_nc (by omega)) q)
      · rw [if_neg hi]
        refine wp_t rfl ?_
        rw [wp_some]
        exact mm M _ rfl rfl (fun c => absurd c hs) (fun _ _ => ⟨rfl, e, h⟩) (fun _ c => absurd c hi)
  · rw [if_neg ht]
    refine wp_t rfl ?_
    rw [wp_some]
    show wp (f_X8_item t i v M) _
    unfold f_X8_item
    rw [wp_bind]
    refine m_isT ?_
    rw [if_neg ht]
    refine wp_t rfl ?_
    rw [wp_some]
    exact ⟨rfl, e, h⟩
theorem c_become {o a b : Int} {M : Mem} {Q : Int → Mem → Prop} (k : ∀ M', (∀ j q : Int, j ≠ o + 1 → M' j q = if j = o ∧ q = 0 then a else if j = o ∧ q = 1 then b else M j q) → (∀ q : Int, 0 ≤ q → q < 60 → M' (o + 1) q = 0) → Q 0 M') : wp (f_X4_become o a b M) Q := by
  unfold f_X4_become
  rw [wp_lt, wp_lt]
  generalize hA : stM (stM M o 0 a) o 1 b = A
  have ha : ∀ j q : Int, A j q = if j = o ∧ q = 0 then a else if j = o ∧ q = 1 then b else M j q := by
    intro j q
    rw [← hA, st_ap, st_ap]
    by_cases h1 : j = o ∧ q = 1
    · rw [if_pos h1, if_neg (by omega), if_pos h1]
    · rw [if_neg h1, if_neg h1]
  refine wloop0 (St := Unit) (L := fun fuel x st M' => f_X4_become_12 o a b fuel x M') 60 (Inv := fun i st M' => (∀ j : Int, j ≠ o + 1 → M' j = A j) ∧ ∀ q : Int, 0 ≤ q → q < i → M' (o + 1) q = 0) (by omega) ?_ ?_ (st := ()) ⟨fun _ _ => rfl, fun q h1 h2 => by omega⟩
  · intro i fuel st M1 hi ⟨g1, g2⟩ kk
    show wp (f_X4_become_12 o a b (fuel + 1) (i : Int) M1) _
    rw [f_X4_become_12.eq_2]
    refine wp_f (by omega) (wp_and (by omega) ?_)
    rw [wp_lt, w_suc (by omega)]
    refine kk () _ ⟨fun j hj => (st_nc hj).trans (g1 j hj), fun q h1 h2 => ?_⟩
    rw [st_ap]
    by_cases hq : q = (i : Int)
    · rw [if_pos ⟨rfl, hq⟩]
    · rw [if_neg (fun c => hq c.2)]
      exact g2 q h1 (by omega)
  · intro fuel st M1 ⟨g1, g2⟩
    show wp (f_X4_become_12 o a b (fuel + 1) ((60 : Nat) : Int) M1) _
    rw [f_X4_become_12.eq_2]
    refine wp_t (by omega) ?_
    rw [wp_some]
    exact k M1 (fun j q hj => (congrFun (g1 j hj) q).trans (ha j q)) (fun q h1 h2 => g2 q h1 (by omega))
theorem o_tape {t s n : Int} {M : Mem} (hr : Rel M) : OP (f_X7_tape t s n) (f_X8_tape t s n) M := by
  obtain ⟨e, h⟩ := hr
  have h9 := h.2.2.2.2.2.2.2.2
  -- made anew on both sides
  have both : ∀ (z : Int), 0 ≤ t ∧ t ≤ 5 → -1 ≤ s ∧ s ≤ 4 → z = (if 0 ≤ s then n else 0) → (0 ≤ s → 0 ≤ n ∧ n ≤ 60) → wp (f_X4_become (115 + 2 * t) s z M) (fun _ M1 => ∀ Q : Int → Mem → Prop, (∀ M2, Rel M2 → Q 1 M2) → wp (f_X8_tape_44 t s n t s n M1) Q) := by
    intro z ht hs hz hn
    refine c_become ?_
    intro M1 u1 u2 Q k
    have hz60 : 0 ≤ z ∧ z ≤ 60 := by
      rw [hz]
      split
      · exact hn (by assumption)
      · omega
    unfold f_X8_tape_44
    refine wp_and (by omega) ?_
    rw [wp_lt]
    have f65 : wp (f_X8_tape_65 t s n t t z (stM M1 168 t s)) Q := by
      unfold f_X8_tape_65
      refine wp_and (by omega) ?_
      rw [wp_lt]
      generalize hB : stM (stM M1 168 t s) 169 t z = B
      have hb : ∀ j q : Int, B j q = if j = 168 ∧ q = t then s else if j = 169 ∧ q = t then z else M1 j q := by
        intro j q
        rw [← hB, st_ap, st_ap]
        by_cases c1 : j = 168 ∧ q = t
        · rw [if_pos c1, if_neg (by omega), if_pos c1]
        · rw [if_neg c1, if_neg c1]
      refine wloop0 (St := Unit) (L := fun fuel x st M' => f_X8_tape_69 t s n fuel t x M') 60 (Inv := fun i st M' => (∀ j : Int, j ≠ 170 → M' j = B j) ∧ ∀ q : Int, M' 170 q = if 60 * t ≤ q ∧ q < 60 * t + i then 0 else B 170 q) (by omega) ?_ ?_ (st := ()) ⟨fun _ _ => rfl, fun q => by rw [if_neg (by omega)]⟩
      · intro i fuel st M3 hi ⟨g1, g2⟩ kk
        show wp (f_X8_tape_69 t s n (fuel + 1) t (i : Int) M3) _
        rw [f_X8_tape_69.eq_2, w_id (z := 60 * t) (by omega) (by omega), w_id (z := 60 * t + (i : Int)) (by omega) (by omega)]
        refine wp_f (by omega) (wp_and (by omega) ?_)
        rw [wp_lt, w_suc (by omega)]
        refine kk () _ ⟨fun j hj => (st_nc hj).trans (g1 j hj), fun q => ?_⟩
        rw [st_ap, g2]
        generalize B 170 q = m
        by_cases hq : q = 60 * t + (i : Int)
        · rw [if_pos ⟨rfl, hq⟩, if_pos (by omega)]
        · rw [if_neg (fun c => hq c.2)]
          by_cases hq2 : 60 * t ≤ q ∧ q < 60 * t + (i : Int)
          · rw [if_pos hq2, if_pos (by omega)]
          · rw [if_neg hq2, if_neg (by omega)]
      · intro fuel st M3 ⟨g1, g2⟩
        show wp (f_X8_tape_69 t s n (fuel + 1) t ((60 : Nat) : Int) M3) _
        rw [f_X8_tape_69.eq_2]
        refine wp_t (by omega) ?_
        rw [wp_some]
        have v1 : ∀ j q : Int, j ≠ 170 → j ≠ 115 + 2 * t + 1 → M3 j q = if j = 168 ∧ q = t then s else if j = 169 ∧ q = t then z else if j = 115 + 2 * t ∧ q = 0 then s else if j = 115 + 2 * t ∧ q = 1 then z else M j q := by
          intro j q c1 c2
          rw [g1 j c1, hb, u1 j q c2]
        refine k M3 ⟨e, Rl_9 h ?_ ?_⟩
        · intro t' t0 t6
          have b := h9 t' t0 t6
          by_cases hq : t' = t
          · subst hq
            rw [v1 _ _ (by omega) (by omega), v1 _ _ (by omega) (by omega), v1 _ _ (by omega) (by omega), v1 _ _ (by omega) (by omega), if_neg (by omega), if_neg (by omega), if_pos (by omega), if_pos (by omega), if_neg (by omega), if_neg (by omega), if_neg (by omega), if_pos (by omega), if_neg (by omega), if_pos (by omega)]
            refine ⟨rfl, hs, rfl, hz60, fun c => by rw [hz, if_neg (by omega)], fun q q0 q6 => ?_⟩
            rw [g1 _ (by omega), hb, if_neg (by omega), if_neg (by omega), g2, if_pos (by omega), show (116 + 2 * t' : Int) = 115 + 2 * t' + 1 by omega]
            exact u2 q q0 q6
          · have w1 : ∀ q, M3 (115 + 2 * t') q = M (115 + 2 * t') q := fun q => by rw [v1 _ _ (by omega) (by omega), if_neg (by omega), if_neg (by omega), if_neg (by omega), if_neg (by omega)]
            have w2 : M3 168 t' = M 168 t' := by rw [v1 _ _ (by omega) (by omega), if_neg (by omega), if_neg (by omega), if_neg (by omega), if_neg (by omega)]
            have w3 : M3 169 t' = M 169 t' := by rw [v1 _ _ (by omega) (by omega), if_neg (by omega), if_neg (by omega), if_neg (by omega), if_neg (by omega)]
            rw [w1, w1, w2, w3]
            refine ⟨b.1, b.2.1, b.2.2.1, b.2.2.2.1, b.2.2.2.2.1, fun q q0 q6 => ?_⟩
            rw [v1 _ _ (by omega) (by omega), if_neg (by omega), if_neg (by omega), if_neg (by omega), if_neg (by omega), g2, if_neg (by omega), hb, if_neg (by omega), if_neg (by omega), u1 _ _ (by omega), if_neg (by omega), if_neg (by omega)]
            exact b.2.2.2.2.2 q q0 q6
        · intro j q c1 c2
          rw [v1 j q (by omega) (by omega), if_neg (by omega), if_neg (by omega), if_neg (by omega), if_neg (by omega)]
    by_cases hs0 : 0 ≤ s
    · refine wp_t hs0 ?_
      rw [hz, if_pos hs0] at f65
      exact f65
    · refine wp_f hs0 ?_
      rw [hz, if_neg hs0] at f65
      exact f65
  have mm : ∀ (M1 : Mem) (Q : Int → Mem → Prop), 0 ≤ t ∧ t ≤ 5 → (¬ (-1 ≤ s ∧ s ≤ 4) → Q (-2) M1) → (0 ≤ s ∧ s ≤ 4 → ¬ n ≤ 60 → Q (-2) M1) → (0 ≤ s ∧ s ≤ 4 → n ≤ 60 → ¬ 0 ≤ n → Q (-14) M1) → (-1 ≤ s ∧ s ≤ 4 → (0 ≤ s → 0 ≤ n ∧ n ≤ 60) → wp (f_X8_tape_44 t s n t s n M1) Q) → wp (f_X8_tape t s n M1) Q := by
    intro M1 Q ht k1 k2 k3 k4
    unfold f_X8_tape f_X8_tape_33
    rw [wp_bind]
    refine m_isT ?_
    rw [if_pos ht]
    refine wp_f one_ne ?_
    rw [wp_bind]
    by_cases hs : -1 ≤ s ∧ s ≤ 4
    · refine m_in_t hs ?_
      refine wp_f one_ne ?_
      by_cases hs0 : s < 0
      · refine wp_t hs0 (wp_t hs0 ?_)
        exact k4 hs (fun c => by omega)
      · refine wp_f hs0 ?_
        by_cases hn : n ≤ 60
        · refine wp_t hn (wp_f hs0 ?_)
          by_cases hn0 : 0 ≤ n
          · refine wp_t hn0 ?_
            exact k4 hs (fun _ => ⟨hn0, hn⟩)
          · refine wp_f hn0 ?_
            rw [wp_some]
            exact k3 (by omega) hn hn0
        · refine wp_f hn ?_
          rw [wp_some]
          exact k2 (by omega) hn
    · refine m_in_f hs ?_
      refine wp_t rfl ?_
      rw [wp_some]
      exact k1 hs
  unfold OP f_X7_tape
  rw [wp_bind]
  refine c_isT ?_
  by_cases ht : 0 ≤ t ∧ t ≤ 5
  · rw [if_pos ht]
    refine wp_f one_ne ?_
    by_cases hs1 : s = -1
    · refine wp_t hs1 (wp_and (by omega) ?_)
      rw [wp_bind]
      have bo := both 0 ht (by omega) (by rw [if_neg (by omega)]) (fun c => by omega)
      rw [hs1] at bo ⊢
      refine wp_mono bo ?_
      intro v M1 hb
      rw [wp_some]
      rw [hs1] at mm
      exact mm M1 _ ht (fun c => absurd ⟨by omega, by omega⟩ c) (fun c => by omega) (fun c => by omega) (fun _ _ => hb _ (fun M2 hM2 => ⟨rfl, hM2⟩))
    · refine wp_f hs1 ?_
      rw [wp_bind]
      refine c_isIn ?_
      by_cases hs : 0 ≤ s ∧ s ≤ 4
      · rw [if_pos hs]
        refine wp_f one_ne ?_
        by_cases hn : n ≤ 60
        · refine wp_t hn ?_
          by_cases hn0 : 0 ≤ n
          · refine wp_t hn0 (wp_and (by omega) ?_)
            rw [wp_bind]
            have bo := both n ht (by omega) (by rw [if_pos (by omega)]) (fun c => by omega)
            refine wp_mono bo ?_
            intro v M1 hb
            rw [wp_some]
            exact mm M1 _ ht (fun c => absurd ⟨by omega, by omega⟩ c) (fun _ c => absurd hn c) (fun _ _ c => absurd hn0 c) (fun _ _ => hb _ (fun M2 hM2 => ⟨rfl, hM2⟩))
          · refine wp_f hn0 ?_
            rw [wp_some]
            exact mm M _ ht (fun c => absurd ⟨by omega, by omega⟩ c) (fun _ c => absurd hn c) (fun _ _ _ => ⟨rfl, e, h⟩) (fun _ c => absurd (c hs.1).1 hn0)
        · refine wp_f hn ?_
          rw [wp_some]
          exact mm M _ ht (fun c => absurd ⟨by omega, by omega⟩ c) (fun _ _ => ⟨rfl, e, h⟩) (fun _ c => absurd c hn) (fun _ c => absurd (c hs.1).2 hn)
      · rw [if_neg hs]
        refine wp_t rfl ?_
        rw [wp_some]
        exact mm M _ ht (fun _ => ⟨rfl, e, h⟩) (fun c => absurd c hs) (fun c => absurd c hs) (fun c => absurd ⟨by omega, c.2⟩ hs)
  · rw [if_neg ht]
    refine wp_t rfl ?_
    rw [wp_some]
    show wp (f_X8_tape t s n M) _
    unfold f_X8_tape
    rw [wp_bind]
    refine m_isT ?_
    rw [if_neg ht]
    refine wp_t rfl ?_
    rw [wp_some]
    exact ⟨rfl, e, h⟩
