/-! both: plans, books -/
theorem o_plan {t s : Int} {M : Mem} (hr : Rel M) : OP (f_X7_plan t s) (f_X8_plan t s) M := by
  obtain ⟨e, h⟩ := hr
  obtain ⟨hR, hy, hC, hM, hz, h7⟩ := h.1
  have h6 := hR.1
  obtain ⟨g1, g2, g3⟩ := h.2.2.1
  unfold OP f_X7_plan
  by_cases ht1 : t = -1
  · refine wp_t ht1 ?_
    rw [wp_bind]
    refine c_empty ?_
    rw [wp_some]
    show wp (f_X8_plan t s (stM M 32 0 0)) _
    unfold f_X8_plan
    refine wp_t ht1 ?_
    rw [wp_lt, wp_some]
    refine ⟨rfl, e, Rl_3 h ⟨?_, ?_⟩ ?_⟩
    · rw [st_ap, if_pos ⟨rfl, rfl⟩, st_nc (by decide), st_ap, if_pos ⟨rfl, rfl⟩]
    · rw [st_nc (show (32 : Int) ≠ 127 by decide), st_ap, if_pos ⟨rfl, rfl⟩]
      exact ⟨by omega, fun i a b => by omega⟩
    · intro j q a1 a2 a3
      rw [st_ap, if_neg (by omega), st_ap, if_neg (by omega)]
  · refine wp_f ht1 ?_
    have mm : ∀ (Q : Int → Mem → Prop) (M1 : Mem), LM e M1 → M1 127 37 = M 127 37 → (¬ ((0 ≤ t ∧ t ≤ 3) ∧ (t = 0 ∨ (0 ≤ s ∧ s < e.1 0 0))) → Q (-1) M1) → ((0 ≤ t ∧ t ≤ 3) ∧ (t = 0 ∨ (0 ≤ s ∧ s < e.1 0 0)) → ¬ M 32 0 < 10 → Q (-4) M1) → ((0 ≤ t ∧ t ≤ 3) ∧ (t = 0 ∨ (0 ≤ s ∧ s < e.1 0 0)) → M 32 0 < 10 → ∀ M', (∀ j q : Int, M' j q = if j = 127 ∧ q = 37 then M 32 0 + 1 else if j = 151 ∧ q = M 32 0 then t else if j = 152 ∧ q = M 32 0 then (if t = 0 then 0 else s) else M1 j q) → Q (M 32 0 + 1) M') → wp (f_X8_plan t s M1) Q := by
      intro Q M1 hM1 h37 k1 k2 k3
      rw [g1] at h37
      have f36 : (0 ≤ t ∧ t ≤ 3) ∧ (t = 0 ∨ (0 ≤ s ∧ s < e.1 0 0)) → wp (f_X8_plan_36 t s t s M1) Q := by
        intro hc
        unfold f_X8_plan_36
        by_cases h10 : M 32 0 < 10
        · refine wp_f (by omega) (wp_and (by omega) ?_)
          rw [wp_lt]
          generalize hA : stM M1 151 (M1 127 37) t = A
          have a0 : A 127 37 = M 32 0 := by rw [← hA, st_nc (by decide), h37]
          have f75 : ∀ z : Int, z = (if t = 0 then 0 else s) → wp (f_X8_plan_75 t s (A 127 37) z A) Q := by
            intro z hzz
            unfold f_X8_plan_75
            refine wp_and (by omega) ?_
            rw [wp_lt]
            generalize hB : stM A 152 (A 127 37) z = B
            have b0 : B 127 37 = M 32 0 := by rw [← hB, st_nc (by decide), a0]
            rw [wp_lt, wp_some, b0, w_id (by omega) (by omega)]
            have hz0 : stM B 127 37 (M 32 0 + 1) 127 37 = M 32 0 + 1 := by rw [st_ap, if_pos ⟨rfl, rfl⟩]
            rw [hz0]
            refine k3 hc h10 _ ?_
            intro j q
            rw [st_ap, ← hB, st_ap, a0, ← hA, st_ap, h37, hzz]
            clear hA hB a0 b0 hz0 k1 k2 k3 h37 hzz hc
            generalize M1 j q = m
            generalize M 32 0 = w
            grind
          by_cases ht0 : t ≤ 0
          · refine wp_t ht0 (f75 0 ?_)
            rw [if_pos (by omega)]
          · refine wp_f ht0 (f75 s ?_)
            rw [if_neg (by omega)]
        · refine wp_t (by have := g2; omega) ?_
          rw [wp_some]
          exact k2 hc h10
      unfold f_X8_plan
      refine wp_f ht1 ?_
      rw [wp_bind]
      refine m_in ?_
      by_cases ht : 0 ≤ t ∧ t ≤ 3
      · rw [if_pos ht]
        refine wp_f one_ne ?_
        by_cases ht0 : t ≤ 0
        · refine wp_t ht0 ?_
          exact f36 ⟨ht, Or.inl (by omega)⟩
        · refine wp_f ht0 ?_
          rw [wp_bind]
          refine m_isS hR hM1 ?_
          by_cases hs : 0 ≤ s ∧ s < e.1 0 0
          · rw [if_pos hs]
            refine wp_f one_ne ?_
            exact f36 ⟨ht, Or.inr hs⟩
          · rw [if_neg hs]
            refine wp_t rfl ?_
            rw [wp_some]
            exact k1 (fun c => by rcases c.2 with c | c; · omega
                                  · exact hs c)
      · rw [if_neg ht]
        refine wp_t rfl ?_
        rw [wp_some]
        exact k1 (fun c => ht c.1)
    have c41 : (0 ≤ t ∧ t ≤ 3) ∧ (t = 0 ∨ (0 ≤ s ∧ s < e.1 0 0)) → wp (f_X7_plan_41 t s t s M) (fun v M1 => wp (f_X8_plan t s M1) (fun v' M2 => v = v' ∧ Rel M2)) := by
      intro hc
      unfold f_X7_plan_41
      rw [wp_bind]
      refine c_full (N := 10) rfl ?_
      by_cases h10 : M 32 0 < 10
      · rw [if_pos (show M 32 0 < ((10 : Nat) : Int) from h10)]
        refine wp_t rfl ?_
        rw [wp_bind]
        refine c_add (n := M 32 0) (N := 10) rfl (by decide) rfl ⟨g2.1, h10⟩ ?_
        intro M1 u1
        have u1 : ∀ j q : Int, M1 j q = if j = 32 ∧ q = 0 then M 32 0 + 1 else if j = 32 + 1 ∧ q = M 32 0 then t else if j = 32 + 2 ∧ q = M 32 0 then s else if j = 32 + 3 ∧ q = M 32 0 then 0 else M j q := u1
        rw [wp_some]
        refine mm _ M1 (LM2_fr hM (fun j q c => by rw [u1, if_neg (by omega), if_neg (by omega), if_neg (by omega), if_neg (by omega)])) (by rw [u1, if_neg (by omega), if_neg (by omega), if_neg (by omega), if_neg (by omega)]) (fun c => absurd hc c) (fun _ c => absurd h10 c) ?_
        intro _ _ M2 u2
        have e32 : M2 32 0 = M 32 0 + 1 := by rw [u2, if_neg (by omega), if_neg (by omega), if_neg (by omega), u1, if_pos ⟨rfl, rfl⟩]
        refine ⟨rfl, e, Rl_3 h ⟨?_, ?_, ?_⟩ ?_⟩
        · rw [e32, u2, if_pos ⟨rfl, rfl⟩]
        · rw [e32]
          omega
        · intro i i0 i1
          rw [e32] at i1
          have cl : M2 33 i = (if i = M 32 0 then t else M 33 i) ∧ M2 34 i = (if i = M 32 0 then s else M 34 i) ∧ M2 151 i = (if i = M 32 0 then t else M 151 i) ∧ M2 152 i = (if i = M 32 0 then (if t = 0 then 0 else s) else M 152 i) := by
            refine ⟨?_, ?_, ?_, ?_⟩
            · rw [u2, if_neg (by omega), if_neg (by omega), if_neg (by omega), u1]; simp
            · rw [u2, if_neg (by omega), if_neg (by omega), if_neg (by omega), u1]; simp
            · rw [u2, u1]; simp
            · rw [u2, u1]; simp
          rw [cl.1, cl.2.1, cl.2.2.1, cl.2.2.2]
          by_cases hi : i = M 32 0
          · rw [if_pos hi, if_pos hi, if_pos hi, if_pos hi]
            refine ⟨rfl, hc.1.1, hc.1.2, fun ht0 => ?_⟩
            rw [if_neg ht0]
            rcases hc.2 with c | c
            · exact absurd c ht0
            · exact ⟨rfl, c⟩
          · rw [if_neg hi, if_neg hi, if_neg hi, if_neg hi]
            exact g3 i i0 (by omega)
        · intro j q a1 a2 a3
          rw [u2, if_neg (by omega), if_neg (by omega), if_neg (by omega), u1, if_neg (by omega), if_neg (by omega), if_neg (by omega), if_neg (by omega)]
      · rw [if_neg (show ¬ M 32 0 < ((10 : Nat) : Int) from h10)]
        refine wp_f one_ne ?_
        rw [wp_some]
        exact mm _ M hM rfl (fun c => absurd hc c) (fun _ _ => ⟨rfl, e, h⟩) (fun _ c => absurd c h10)
    rw [wp_bind]
    refine c_isIn ?_
    by_cases ht : 0 ≤ t ∧ t ≤ 3
    · rw [if_pos ht]
      refine wp_f one_ne ?_
      by_cases ht0 : t = 0
      · refine wp_t ht0 ?_
        exact c41 ⟨ht, Or.inl ht0⟩
      · refine wp_f ht0 ?_
        rw [wp_bind]
        refine c_has hC ?_
        by_cases hs : 0 ≤ s ∧ s < e.1 0 0
        · rw [if_pos hs]
          refine wp_f one_ne ?_
          exact c41 ⟨ht, Or.inr hs⟩
        · rw [if_neg hs]
          refine wp_t rfl ?_
          rw [wp_some]
          have hno : ¬ ((0 ≤ t ∧ t ≤ 3) ∧ (t = 0 ∨ (0 ≤ s ∧ s < e.1 0 0))) := fun c => by
            rcases c.2 with c | c
            · exact ht0 c
            · exact hs c
          exact mm _ M hM rfl (fun _ => ⟨rfl, e, h⟩) (fun c => absurd c hno) (fun c => absurd c hno)
    · rw [if_neg ht]
      refine wp_t rfl ?_
      rw [wp_some]
      exact mm _ M hM rfl (fun _ => ⟨rfl, e, h⟩) (fun c => absurd c.1 ht) (fun c => absurd c.1 ht)
theorem o_book {s t : Int} {M : Mem} (hr : Rel M) : OP (f_X7_book s t) (f_X8_book s t) M := by
  obtain ⟨e, h⟩ := hr
  obtain ⟨hR, hy, hC, hM, hz, h7⟩ := h.1
  have h6 := hR.1
  obtain ⟨g1, g2, g3⟩ := h.2.2.2.1
  unfold OP f_X7_book
  by_cases ht1 : s = -1
  · refine wp_t ht1 ?_
    rw [wp_bind]
    refine c_empty ?_
    rw [wp_some]
    show wp (f_X8_book s t (stM M 36 0 0)) _
    unfold f_X8_book
    refine wp_t ht1 ?_
    rw [wp_lt, wp_some]
    refine ⟨rfl, e, Rl_4 h ⟨?_, ?_⟩ ?_⟩
    · rw [st_ap, if_pos ⟨rfl, rfl⟩, st_nc (by decide), st_ap, if_pos ⟨rfl, rfl⟩]
    · rw [st_nc (show (36 : Int) ≠ 127 by decide), st_ap, if_pos ⟨rfl, rfl⟩]
      exact ⟨by omega, fun i a b => by omega⟩
    · intro j q a1 a2 a3
      rw [st_ap, if_neg (by omega), st_ap, if_neg (by omega)]
  · refine wp_f ht1 ?_
    have mm : ∀ (Q : Int → Mem → Prop) (M1 : Mem), LM e M1 → M1 127 38 = M 127 38 → (¬ ((0 ≤ s ∧ s < e.1 0 0) ∧ 0 ≤ t ∧ t ≤ 5) → Q (-1) M1) → ((0 ≤ s ∧ s < e.1 0 0) ∧ 0 ≤ t ∧ t ≤ 5 → ¬ M 36 0 < 8 → Q (-4) M1) → ((0 ≤ s ∧ s < e.1 0 0) ∧ 0 ≤ t ∧ t ≤ 5 → M 36 0 < 8 → ∀ M', (∀ j q : Int, M' j q = if j = 127 ∧ q = 38 then M 36 0 + 1 else if j = 153 ∧ q = M 36 0 then s else if j = 154 ∧ q = M 36 0 then (if t = 5 then -5 else t) else M1 j q) → Q (M 36 0 + 1) M') → wp (f_X8_book s t M1) Q := by
      intro Q M1 hM1 h38 k1 k2 k3
      rw [g1] at h38
      unfold f_X8_book
      refine wp_f ht1 ?_
      rw [wp_bind]
      refine m_isS hR hM1 ?_
      by_cases hs : 0 ≤ s ∧ s < e.1 0 0
      · rw [if_pos hs]
        refine wp_f one_ne ?_
        rw [wp_bind]
        refine m_in ?_
        by_cases ht : 0 ≤ t ∧ t ≤ 5
        · rw [if_pos ht]
          refine wp_f one_ne ?_
          simp only []
          by_cases h10 : M 36 0 < 8
          · refine wp_f (by omega) (wp_and (by omega) ?_)
            rw [wp_lt]
            generalize hA : stM M1 153 (M1 127 38) s = A
            have a0 : A 127 38 = M 36 0 := by rw [← hA, st_nc (by decide), h38]
            have f75 : ∀ z : Int, z = (if t = 5 then -5 else t) → wp (f_X8_book_73 s t (A 127 38) z A) Q := by
              intro z hzz
              unfold f_X8_book_73
              refine wp_and (by omega) ?_
              rw [wp_lt]
              generalize hB : stM A 154 (A 127 38) z = B
              have b0 : B 127 38 = M 36 0 := by rw [← hB, st_nc (by decide), a0]
              rw [wp_lt, wp_some, b0, w_id (by omega) (by omega)]
              have hz0 : stM B 127 38 (M 36 0 + 1) 127 38 = M 36 0 + 1 := by rw [st_ap, if_pos ⟨rfl, rfl⟩]
              rw [hz0]
              refine k3 ⟨hs, ht⟩ h10 _ ?_
              intro j q
              rw [st_ap, ← hB, st_ap, a0, ← hA, st_ap, h38, hzz]
              clear hA hB a0 b0 hz0 k1 k2 k3 h38 hzz
              generalize M1 j q = m
              generalize M 36 0 = w
              grind
            by_cases ht0 : t = 5
            · refine wp_t ht0 (f75 (-5) ?_)
              rw [if_pos ht0]
            · refine wp_f ht0 (f75 t ?_)
              rw [if_neg ht0]
          · refine wp_t (by have := g2; omega) ?_
            rw [wp_some]
            exact k2 ⟨hs, ht⟩ h10
        · rw [if_neg ht]
          refine wp_t rfl ?_
          rw [wp_some]
          exact k1 (fun c => ht c.2)
      · rw [if_neg hs]
        refine wp_t rfl ?_
        rw [wp_some]
        exact k1 (fun c => hs c.1)
    rw [wp_bind]
    refine c_has hC ?_
    by_cases hs : 0 ≤ s ∧ s < e.1 0 0
    · rw [if_pos hs]
      refine wp_f one_ne ?_
      rw [wp_bind]
      refine c_isIn ?_
      by_cases ht : 0 ≤ t ∧ t ≤ 5
      · rw [if_pos ht]
        refine wp_f one_ne ?_
        have hc : (0 ≤ s ∧ s < e.1 0 0) ∧ 0 ≤ t ∧ t ≤ 5 := ⟨hs, ht⟩
        rw [wp_bind]
        refine c_full (N := 8) rfl ?_
        by_cases h10 : M 36 0 < 8
        · rw [if_pos (show M 36 0 < ((8 : Nat) : Int) from h10)]
          refine wp_t rfl ?_
          rw [wp_bind]
          refine c_add (n := M 36 0) (N := 8) rfl (by decide) rfl ⟨g2.1, h10⟩ ?_
          intro M1 u1
          have u1 : ∀ j q : Int, M1 j q = if j = 36 ∧ q = 0 then M 36 0 + 1 else if j = 36 + 1 ∧ q = M 36 0 then s else if j = 36 + 2 ∧ q = M 36 0 then t else if j = 36 + 3 ∧ q = M 36 0 then 0 else M j q := u1
          rw [wp_some]
          refine mm _ M1 (LM2_fr hM (fun j q c => by rw [u1, if_neg (by omega), if_neg (by omega), if_neg (by omega), if_neg (by omega)])) (by rw [u1, if_neg (by omega), if_neg (by omega), if_neg (by omega), if_neg (by omega)]) (fun c => absurd hc c) (fun _ c => absurd h10 c) ?_
          intro _ _ M2 u2
          have e32 : M2 36 0 = M 36 0 + 1 := by rw [u2, if_neg (by omega), if_neg (by omega), if_neg (by omega), u1, if_pos ⟨rfl, rfl⟩]
          refine ⟨rfl, e, Rl_4 h ⟨?_, ?_, ?_⟩ ?_⟩
          · rw [e32, u2, if_pos ⟨rfl, rfl⟩]
          · rw [e32]
            omega
          · intro i i0 i1
            rw [e32] at i1
            have cl : M2 37 i = (if i = M 36 0 then s else M 37 i) ∧ M2 38 i = (if i = M 36 0 then t else M 38 i) ∧ M2 153 i = (if i = M 36 0 then s else M 153 i) ∧ M2 154 i = (if i = M 36 0 then (if t = 5 then -5 else t) else M 154 i) := by
              refine ⟨?_, ?_, ?_, ?_⟩
              · rw [u2, if_neg (by omega), if_neg (by omega), if_neg (by omega), u1]; simp
              · rw [u2, if_neg (by omega), if_neg (by omega), if_neg (by omega), u1]; simp
              · rw [u2, u1]; simp
              · rw [u2, u1]; simp
            rw [cl.1, cl.2.1, cl.2.2.1, cl.2.2.2]
            by_cases hi : i = M 36 0
            · rw [if_pos hi, if_pos hi, if_pos hi, if_pos hi]
              exact ⟨rfl, hs, ht, rfl⟩
            · rw [if_neg hi, if_neg hi, if_neg hi, if_neg hi]
              exact g3 i i0 (by omega)
          · intro j q a1 a2 a3
            rw [u2, if_neg (by omega), if_neg (by omega), if_neg (by omega), u1, if_neg (by omega), if_neg (by omega), if_neg (by omega), if_neg (by omega)]
        · rw [if_neg (show ¬ M 36 0 < ((8 : Nat) : Int) from h10)]
          refine wp_f one_ne ?_
          rw [wp_some]
          exact mm _ M hM rfl (fun c => absurd hc c) (fun _ _ => ⟨rfl, e, h⟩) (fun _ c => absurd c h10)
      · rw [if_neg ht]
        refine wp_t rfl ?_
        rw [wp_some]
        exact mm _ M hM rfl (fun _ => ⟨rfl, e, h⟩) (fun c => absurd c.2 ht) (fun c => absurd c.2 ht)
    · rw [if_neg hs]
      refine wp_t rfl ?_
      rw [wp_some]
      exact mm _ M hM rfl (fun _ => ⟨rfl, e, h⟩) (fun c => absurd c.1 hs) (fun c => absurd c.1 hs)
theorem o_looked {M : Mem} (hr : Rel M) : OP f_X7_looked f_X8_looked M := by
  obtain ⟨e, h⟩ := hr
  obtain ⟨hR, hy, hC, hM, hz, h7⟩ := h.1
  have h6 := hR.1
  obtain ⟨g1, g2, g3⟩ := h.2.2.2.1
  obtain ⟨n, hN⟩ : ∃ n : Nat, M 36 0 = (n : Int) := ⟨(M 36 0).toNat, by omega⟩
  -- the first place where they differ
  have mm : ∀ (Q : Int → Mem → Prop) (k : Nat), k ≤ n → (∀ i : Nat, i < k → M 131 (M 153 i) = M 154 i) → (k < n → M 131 (M 153 k) ≠ M 154 k) → Q (if k < n then (k : Int) else -5) M → wp (f_X8_looked M) Q := by
    intro Q k hk hb ha hq
    unfold f_X8_looked
    refine wloop0 (St := Unit) (L := fun fuel x st M' => f_X8_looked_2 fuel x M') n (Inv := fun i st M' => M' = M ∧ i ≤ k) (by omega) ?_ ?_ (st := ()) ⟨rfl, by omega⟩
    · intro i fuel st M1 hi ⟨u1, u2⟩ kk
      subst u1
      show wp (f_X8_looked_2 (fuel + 1) (i : Int) M1) _
      have := g3 i (by omega) (by omega)
      rw [f_X8_looked_2.eq_2, g1, hN]
      refine wp_f (by omega) (wp_and (by omega) (wp_and (by omega) (wp_and (by omega) ?_)))
      by_cases he : M1 131 (M1 153 (i : Int)) = M1 154 (i : Int)
      · refine wp_t he ?_
        rw [w_suc (by omega)]
        refine kk () M1 ⟨rfl, ?_⟩
        by_cases hik : i = k
        · subst hik
          exact absurd he (ha hi)
        · omega
      · refine wp_f he ?_
        rw [wp_some]
        by_cases hik : i = k
        · subst hik
          rw [if_pos hi] at hq
          exact hq
        · exact absurd (hb i (by omega)) he
    · intro fuel st M1 ⟨u1, u2⟩
      subst u1
      show wp (f_X8_looked_2 (fuel + 1) (n : Int) M1) _
      rw [f_X8_looked_2.eq_2, g1, hN]
      refine wp_t (Int.le_refl _) ?_
      rw [wp_some]
      rw [if_neg (by omega)] at hq
      exact hq
  have same : ∀ i : Nat, i < n → (M 131 (M 153 i) = M 154 i ↔ M 38 i = (if M 26 (M 37 i) = -1 then 5 else M 26 (M 37 i))) := by
    intro i hi
    obtain ⟨a1, a2, a3, a4⟩ := g3 i (by omega) (by omega)
    have b := (hM.2.2.1 (M 37 i) a2.1 (by omega)).2.2.2
    have c : M 26 (M 37 i) = e.1 4 (M 37 i) := (hC.2.2.1 (M 37 i) a2.1 (by omega)).2.2.2
    have d := (hR.2.2.1 (M 37 i)).2.2.2.1
    rw [← a1, b, c, a4]
    unfold hm
    grind
  unfold OP f_X7_looked
  refine wloop0 (St := Unit) (L := fun fuel x st M' => f_X7_looked_2 fuel x M') n (Inv := fun i st M' => M' = M ∧ ∀ q : Nat, q < i → M 131 (M 153 q) = M 154 q) (by omega) ?_ ?_ (st := ()) ⟨rfl, fun q hq => by omega⟩
  · intro i fuel st M1 hi ⟨u1, u2⟩ kk
    subst u1
    show wp (f_X7_looked_2 (fuel + 1) (i : Int) M1) _
    have := g3 i (by omega) (by omega)
    rw [f_X7_looked_2.eq_2, hN]
    refine wp_f (by omega) (wp_and (by omega) (wp_and (by omega) (wp_and (by omega) ?_)))
    have hs := same i hi
    have fin : ∀ z : Int, z = (if M1 26 (M1 37 i) = -1 then 5 else M1 26 (M1 37 i)) → wp (f_X7_looked_59 (f_X7_looked_2 fuel) (i : Int) (M1 38 (i : Int)) z M1) (fun v M1 => wp (f_X8_looked M1) (fun v' M2 => v = v' ∧ Rel M2)) := by
      intro z hzz
      unfold f_X7_looked_59
      rw [← hzz] at hs
      by_cases hq : M1 38 (i : Int) = z
      · refine wp_t hq ?_
        rw [w_suc (by omega)]
        refine kk () M1 ⟨rfl, fun q hq2 => ?_⟩
        by_cases hqi : q = i
        · subst hqi; exact hs.2 hq
        · exact u2 q (by omega)
      · refine wp_f hq ?_
        rw [wp_some]
        refine mm _ i (by omega) u2 (fun _ c => hq (hs.1 c)) ?_
        rw [if_pos hi]
        exact ⟨rfl, e, h⟩
    by_cases h26 : M1 26 (M1 37 (i : Int)) = -1
    · refine wp_t h26 (fin 5 ?_)
      rw [if_pos h26]
    · refine wp_f h26 (fin _ ?_)
      rw [if_neg h26]
  · intro fuel st M1 ⟨u1, u2⟩
    subst u1
    show wp (f_X7_looked_2 (fuel + 1) (n : Int) M1) _
    rw [f_X7_looked_2.eq_2, hN]
    refine wp_t (Int.le_refl _) ?_
    rw [wp_some]
    refine mm _ n (by omega) u2 (fun c => by omega) ?_
    rw [if_neg (by omega)]
    exact ⟨rfl, e, h⟩
