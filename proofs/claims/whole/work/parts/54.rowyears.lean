/-! both: rows, years, a new sound -/
theorem o_row {s p n : Int} {M : Mem} (hr : Rel M) : OP (f_X7_row s p n) (f_X8_row s p n) M := by
  obtain ⟨e, h⟩ := hr
  obtain ⟨hR, hy, hC, hM, hz, h7⟩ := h.1
  have h6 := hR.1
  have mm : ∀ (M1 : Mem) (Q : Int → Mem → Prop), LM e M1 → (¬ (0 ≤ s ∧ s < e.1 0 0 ∧ 0 ≤ p ∧ p ≤ 3) → Q (-1) M1) → (0 ≤ s ∧ s < e.1 0 0 ∧ 0 ≤ p ∧ p ≤ 3 → ¬ (0 ≤ n ∧ n ≤ 9) → Q (-2) M1) → (0 ≤ s ∧ s < e.1 0 0 ∧ 0 ≤ p ∧ p ≤ 3 → 0 ≤ n ∧ n ≤ 9 → ¬ e.1 1 s = 6 → Q (-3) M1) → (0 ≤ s ∧ s < e.1 0 0 ∧ 0 ≤ p ∧ p ≤ 3 → 0 ≤ n ∧ n ≤ 9 → e.1 1 s = 6 → Q (M1 132 (4 * s + p)) (stM M1 132 (4 * s + p) n)) → wp (f_X8_row s p n M1) Q := by
    intro M1 Q hM1 k1 k2 k3 k4
    unfold f_X8_row
    rw [wp_bind]
    refine m_isS hR hM1 ?_
    by_cases hs : 0 ≤ s ∧ s < e.1 0 0
    · rw [if_pos hs]
      refine wp_f one_ne ?_
      rw [wp_bind]
      refine m_in ?_
      by_cases hp : 0 ≤ p ∧ p ≤ 3
      · rw [if_pos hp]
        refine wp_f one_ne ?_
        rw [wp_bind]
        refine m_in ?_
        by_cases hn : 0 ≤ n ∧ n ≤ 9
        · rw [if_pos hn]
          refine wp_f one_ne (wp_and (by omega) ?_)
          have hk := (hM1.2.2.1 s hs.1 (by omega)).1
          rw [w_id (z := 4 * s) (by omega) (by omega), w_id (z := 4 * s + p) (by omega) (by omega)]
          by_cases hq : e.1 1 s = 6
          · refine wp_t (hk.trans hq) (wp_and (by omega) (wp_and (by omega) ?_))
            rw [wp_lt, wp_some]
            exact k4 ⟨hs.1, hs.2, hp⟩ hn hq
          · refine wp_f (fun c => hq (hk.symm.trans c)) ?_
            rw [wp_some]
            exact k3 ⟨hs.1, hs.2, hp⟩ hn hq
        · rw [if_neg hn]
          refine wp_t rfl ?_
          rw [wp_some]
          exact k2 ⟨hs.1, hs.2, hp⟩ hn
      · rw [if_neg hp]
        refine wp_t rfl ?_
        rw [wp_some]
        exact k1 (fun c => hp c.2.2)
    · rw [if_neg hs]
      refine wp_t rfl ?_
      rw [wp_some]
      exact k1 (fun c => hs ⟨c.1, c.2.1⟩)
  unfold OP f_X7_row
  rw [wp_bind]
  refine c_has hC ?_
  by_cases hs : 0 ≤ s ∧ s < e.1 0 0
  · rw [if_pos hs]
    refine wp_f one_ne ?_
    rw [wp_bind]
    refine c_isIn ?_
    by_cases hp : 0 ≤ p ∧ p ≤ 3
    · rw [if_pos hp]
      refine wp_f one_ne ?_
      rw [wp_bind]
      refine c_isIn ?_
      have hs4 : 0 ≤ s ∧ s < e.1 0 0 ∧ 0 ≤ p ∧ p ≤ 3 := ⟨hs.1, hs.2, hp⟩
      by_cases hn : 0 ≤ n ∧ n ≤ 9
      · rw [if_pos hn]
        refine wp_f one_ne (wp_and (by omega) ?_)
        have hk := (hC.2.2.1 s hs.1 (by omega)).1
        rw [w_id (z := s * 4) (by omega) (by omega), w_id (z := s * 4 + p) (by omega) (by omega), show s * 4 + p = 4 * s + p by omega]
        by_cases hq : e.1 1 s = 6
        · refine wp_t (hk.trans hq) (wp_and (by omega) (wp_and (by omega) ?_))
          rw [wp_lt, wp_some]
          refine mm _ _ (LM2_fr hM (fun j q c => congrFun (st_nc (by omega)) q)) (fun c => absurd hs4 c) (fun _ c => absurd hn c) (fun _ _ c => absurd hq c) ?_
          intro _ _ _
          have a := hC.2.2.2.1 (4 * s + p) (by omega) (by omega)
          have b := hM.2.2.2.1 (4 * s + p) (by omega) (by omega)
          refine ⟨by rw [st_nc (by decide)]; exact a.trans b.symm, up e 5 (4 * s + p) n, ?_⟩
          have e5 : ∀ i : Int, (up e 5 (4 * s + p) n).1 5 i = if i = 4 * s + p then n else e.1 5 i := by
            intro i
            show (if 5 = 5 ∧ i = 4 * s + p then n else e.1 5 i) = _
            by_cases hi : i = 4 * s + p
            · rw [if_pos ⟨rfl, hi⟩, if_pos hi]
            · rw [if_neg (fun c => hi c.2), if_neg hi]
          have ek : ∀ (k : Nat) (i : Int), k ≠ 5 → (up e 5 (4 * s + p) n).1 k i = e.1 k i := by
            intro k i hk5
            show (if k = 5 ∧ i = 4 * s + p then n else e.1 k i) = _
            rw [if_neg (fun c => hk5 c.1)]
          have f : ∀ j q : Int, j ≠ 27 → j ≠ 132 → stM (stM M 27 (4 * s + p) n) 132 (4 * s + p) n j q = M j q := fun j q a b => (congrFun (st_nc b) q).trans (congrFun (st_nc a) q)
          refine Rl_lot h ?_ (by rw [ek 6 0 (by decide)]; exact hy) ?_ ?_ ?_ (by rw [ek 0 0 (by decide)]; exact Int.le_refl _) (fun j q a1 a2 a3 a4 a5 a6 a7 => f j q (by omega) (by omega))
          · obtain ⟨r1, r2, r3, r4, r5⟩ := hR
            refine ⟨by rw [ek 0 0 (by decide)]; exact r1, by rw [ek 6 0 (by decide)]; exact r2, ?_, r4, r5⟩
            intro q
            have := r3 q
            rw [ek 1 q (by decide), ek 2 q (by decide), ek 3 q (by decide), ek 4 q (by decide), e5]
            refine ⟨this.1, this.2.1, this.2.2.1, this.2.2.2.1, ?_⟩
            split <;> omega
          · obtain ⟨q0, q6, qs, q5, qS⟩ := hC
            have g : ∀ j q : Int, j ≠ 27 → j < 132 → stM (stM M 27 (4 * s + p) n) 132 (4 * s + p) n j q = M j q := fun j q a b => f j q a (by omega)
            refine ⟨by rw [g 22 0 (by decide) (by decide), ek 0 0 (by decide)]; exact q0, by rw [g 22 6 (by decide) (by decide), ek 6 0 (by decide)]; exact q6, ?_, ?_, ?_⟩
            · intro t t0 t6
              rw [ek 1 t (by decide), ek 2 t (by decide), ek 3 t (by decide), ek 4 t (by decide), g (22 + 1) t (by decide) (by decide), g (22 + 2) t (by decide) (by decide), g (22 + 3) t (by decide) (by decide), g (22 + 4) t (by decide) (by decide)]
              exact qs t t0 t6
            · intro i i0 i24
              rw [e5, st_nc (by decide), st_ap]
              by_cases hi : i = 4 * s + p
              · rw [if_pos ⟨rfl, hi⟩, if_pos hi]
              · rw [if_neg (fun c => hi c.2), if_neg hi]
                exact q5 i i0 i24
            · have hr := qS.1
              unfold isStr at hr
              show SC (stM (stM M 27 (4 * s + p) n) 132 (4 * s + p) n 22 7) _ (stM (stM M 27 (4 * s + p) n) 132 (4 * s + p) n)
              rw [g 22 7 (by decide) (by decide)]
              exact SC_fr2 qS (fun a a0 a5 => fr_j (fun q => g _ q (by omega) (by omega))) rfl
          · obtain ⟨q0, q6, qs, q5, qS⟩ := hM
            have g : ∀ j q : Int, 27 < j → j ≠ 132 → stM (stM M 27 (4 * s + p) n) 132 (4 * s + p) n j q = M j q := fun j q a b => f j q (by omega) b
            refine ⟨by rw [g 127 0 (by decide) (by decide), ek 0 0 (by decide)]; exact q0, by rw [g 127 1 (by decide) (by decide), ek 6 0 (by decide)]; exact q6, ?_, ?_, ?_⟩
            · intro t t0 t6
              rw [ek 1 t (by decide), ek 2 t (by decide), ek 3 t (by decide), ek 4 t (by decide), g 128 t (by decide) (by decide), g 129 t (by decide) (by decide), g 130 t (by decide) (by decide), g 131 t (by decide) (by decide)]
              exact qs t t0 t6
            · intro i i0 i24
              rw [ek 0 0 (by decide)] at i24
              rw [e5, st_ap]
              by_cases hi : i = 4 * s + p
              · rw [if_pos ⟨rfl, hi⟩, if_pos hi]
              · rw [if_neg (fun c => hi c.2), if_neg hi, st_nc (by decide)]
                exact q5 i i0 i24
            · rw [g 127 8 (by decide) (by decide)]
              exact SM_fr qS (fun j a b => fr_j (fun q => g j q (by omega) (by omega))) rfl
          · intro i i0 i24
            rw [ek 0 0 (by decide)] at i0
            rw [e5, if_neg (by omega)]
            exact hz i i0 i24
        · refine wp_f (fun c => hq (hk.symm.trans c)) ?_
          rw [wp_some]
          exact mm _ _ hM (fun c => absurd hs4 c) (fun _ c => absurd hn c) (fun _ _ _ => ⟨rfl, e, h⟩) (fun _ _ c => absurd c hq)
      · rw [if_neg hn]
        refine wp_t rfl ?_
        rw [wp_some]
        exact mm _ _ hM (fun c => absurd hs4 c) (fun _ _ => ⟨rfl, e, h⟩) (fun _ c => absurd c hn) (fun _ c => absurd c hn)
    · rw [if_neg hp]
      refine wp_t rfl ?_
      rw [wp_some]
      exact mm _ _ hM (fun _ => ⟨rfl, e, h⟩) (fun c => absurd c.2.2 hp) (fun c => absurd c.2.2 hp) (fun c => absurd c.2.2 hp)
  · rw [if_neg hs]
    refine wp_t rfl ?_
    rw [wp_some]
    exact mm _ _ hM (fun _ => ⟨rfl, e, h⟩) (fun c => absurd ⟨c.1, c.2.1⟩ hs) (fun c => absurd ⟨c.1, c.2.1⟩ hs) (fun c => absurd ⟨c.1, c.2.1⟩ hs)
theorem gyn_k {e : Vw} : ∀ (n k : Nat) (q : Int), k ≠ 3 → k ≠ 6 → (gyn e n).1 k q = e.1 k q
  | 0, _, _, _, _ => rfl
  | n + 1, k, q, h1, h2 => by
    show (if k = 3 ∧ _ then _ else if k = 6 ∧ _ then _ else (gyn e n).1 k q) = _
    rw [if_neg (fun c => h1 c.1), if_neg (fun c => h2 c.1), gyn_k n k q h1 h2]
theorem o_years {n : Int} {M : Mem} (hr : Rel M) : OP (f_X7_years n) (f_X8_years n) M := by
  obtain ⟨e, h⟩ := hr
  obtain ⟨hR, hy, hC, hM, hz, h7⟩ := h.1
  have h6 := hR.1
  have hy0 := hR.2.1
  have mm : ∀ (M1 : Mem) (Q : Int → Mem → Prop), LM e M1 → (¬ (0 ≤ n ∧ n ≤ 60) → Q (-2) M1) → (0 ≤ n ∧ n ≤ 60 → ¬ e.1 6 0 + n ≤ 9999 → Q (-3) M1) → (0 ≤ n ∧ n ≤ 60 → e.1 6 0 + n ≤ 9999 → ∀ M', LM (gyn e n.toNat) M' → (∀ j, j ≠ 127 → j ≠ 130 → M' j = M1 j) → (∀ q, q ≠ 1 → M' 127 q = M1 127 q) → Q (e.1 6 0 + n) M') → wp (f_X8_years n M1) Q := by
    intro M1 Q hM1 k1 k2 k3
    unfold f_X8_years f_X8_isYears
    rw [wp_bind, wp_bind]
    refine m_in ?_
    rw [wp_some]
    by_cases hn : 0 ≤ n ∧ n ≤ 60
    · rw [if_pos hn]
      refine wp_f one_ne ?_
      simp only []
      rw [hM1.2.1, w_id (by omega) (by omega)]
      by_cases hle : e.1 6 0 + n ≤ 9999
      · refine wp_t hle ?_
        obtain ⟨m, rfl⟩ : ∃ m : Nat, n = (m : Int) := ⟨n.toNat, by omega⟩
        rw [wp_bind]
        refine m_years (n := m) hR (by omega) (by omega) hM1 ?_
        intro M2 g1 g2 g3
        rw [wp_some]
        have := k3 hn hle M2 (by rw [Int.toNat_natCast]; exact g1) g2 g3
        have e1 : M2 127 1 = e.1 6 0 + (m : Int) := by rw [g1.2.1, gyn_y]
        rw [← e1] at this
        exact this
      · refine wp_f hle ?_
        rw [wp_some]
        exact k2 hn hle
    · rw [if_neg hn]
      refine wp_t rfl ?_
      rw [wp_some]
      exact k1 hn
  unfold OP f_X7_years
  rw [wp_bind]
  refine c_isIn ?_
  by_cases hn : 0 ≤ n ∧ n ≤ 60
  · rw [if_pos hn]
    refine wp_f one_ne ?_
    simp only []
    have e6 : M 22 6 = e.1 6 0 := hC.2.1
    rw [e6, w_id (by omega) (by omega)]
    by_cases hle : e.1 6 0 + n ≤ 9999
    · refine wp_t hle ?_
      obtain ⟨m, rfl⟩ : ∃ m : Nat, n = (m : Int) := ⟨n.toNat, by omega⟩
      rw [wp_bind]
      refine c_years (n := m) hR (by omega) (by omega) (Or.inl rfl) hC ?_
      intro M1 g1 g2 g3
      rw [wp_some]
      have hM1 : LM e M1 := LM2_fr hM (fun j q c => congrFun (g2 j (by omega) (by omega)) q)
      refine mm _ _ hM1 (fun c => absurd hn c) (fun _ c => absurd hle c) ?_
      intro _ _ M2 u1 u2 u3
      rw [Int.toNat_natCast] at u1
      have e1 : M1 22 6 = e.1 6 0 + (m : Int) := by rw [g1.2.1, gyn_y]
      refine ⟨e1, gyn e m, Rl_lot h (gyn_r hR m (by omega)) (by rw [gyn_y]; exact hle) (LC22_fr g1 (fun j q c => congrFun (u2 j (by omega) (by omega)) q)) u1 ?_ (by rw [gyn_k m 0 0 (by decide) (by decide)]; exact Int.le_refl _) ?_⟩
      · intro i i0 i24
        rw [gyn_k m 0 0 (by decide) (by decide)] at i0
        rw [gyn_k m 5 i (by decide) (by decide)]
        exact hz i i0 i24
      · intro j q a1 a2 a3 a4 a5 a6 a7
        by_cases hj : j = 22
        · subst hj
          exact (congrFun (u2 22 (by omega) (by omega)) q).trans (g3 q (by omega))
        · by_cases hj2 : j = 127
          · subst hj2
            exact (u3 q (by omega)).trans (congrFun (g2 127 (by omega) (by omega)) q)
          · exact (congrFun (u2 j (by omega) (by omega)) q).trans (congrFun (g2 j (by omega) (by omega)) q)
    · refine wp_f hle ?_
      rw [wp_some]
      exact mm _ _ hM (fun c => absurd hn c) (fun _ _ => ⟨rfl, e, h⟩) (fun _ c => absurd c hle)
  · rw [if_neg hn]
    refine wp_t rfl ?_
    rw [wp_some]
    exact mm _ _ hM (fun _ => ⟨rfl, e, h⟩) (fun c => absurd c hn) (fun c => absurd c hn)
