/-! both: what changes the sounds -/
theorem u_z {e : Vw} {k : Nat} {s z : Int} (hk : k = 2 ∨ k = 3 ∨ k = 4) (h : ∀ i : Int, 4 * e.1 0 0 ≤ i → i < 24 → e.1 5 i = 0) : ∀ i : Int, 4 * (up e k s z).1 0 0 ≤ i → i < 24 → (up e k s z).1 5 i = 0 := by
  intro i h1 h2
  have e0 : (up e k s z).1 0 0 = e.1 0 0 := by
    show (if 0 = k ∧ _ then _ else _) = _
    rw [if_neg (by omega)]
  show (if 5 = k ∧ i = s then z else e.1 5 i) = 0
  rw [if_neg (by omega)]
  exact h i (by omega) h2
theorem c_isLost2 {o s a : Int} {M : Mem} {Q : Int → Mem → Prop} (hs : 0 ≤ s ∧ s < 6) (ha : M (o + 4) s = a) (k : Q (if a = -1 then 1 else 0) M) : wp (f_X1_isLost o s M) Q := by
  subst ha
  exact c_isLost hs k
theorem m_isLoud {p : Int} {M : Mem} {Q : Int → Mem → Prop} (k : Q (if 0 ≤ p ∧ p ≤ 99 then 1 else 0) M) : wp (f_X8_isLoud p M) Q := by
  unfold f_X8_isLoud
  rw [wp_bind]
  refine m_in ?_
  rw [wp_some]
  exact k
/-- one of now's cells in both -/
theorem Rl_u {e : Vw} {k : Nat} {s z zz : Int} {M M1 M2 M3 : Mem} (h : Rl e M) (hk : k = 2 ∨ k = 3 ∨ k = 4) (hz : okU k z) (hzz : zz = if k = 4 then hm z else z)
    (h1 : ∀ j q : Int, j ≠ 40 → M1 j q = stM M (22 + k) s z j q) (h2 : M2 = stM M1 (127 + k) s zz) (h3 : ∀ j, j ≠ 142 → j ≠ 143 → M3 j = M2 j) : Rl (up e k s z) M3 := by
  obtain ⟨hR, hy, hC, hM, hzr, _⟩ := h.1
  have c1 := LC_u (s := s) (z := z) hk (Or.inl rfl) hC
  have f1 : ∀ j q : Int, j ≠ 22 + k → j ≠ 40 → M1 j q = M j q := fun j q a b => (h1 j q b).trans (congrFun (st_nc a) q)
  have m1 : LM e M1 := LM2_fr hM (fun j q c => f1 j q (by omega) (by omega))
  have m2 := m_u (s := s) (z := z) (zz := zz) hk m1 hzz
  rw [← h2] at m2
  have m3 := LM_s m2 h3
  have f2 : ∀ j q : Int, j ≠ 127 + k → j ≠ 142 → j ≠ 143 → M3 j q = M1 j q := fun j q a b c => (congrFun (h3 j b c) q).trans (by rw [h2]; exact congrFun (st_nc a) q)
  have c3 : LC 22 (up e k s z) M3 := by
    refine LC22_fr c1 (fun j q c => (f2 j q (by omega) (by omega) (by omega)).trans (h1 j q ?_))
    omega
  refine Rl_lot h (u_r hR hz) (by rw [u_y hz]; exact hy) c3 m3 (u_z hk hzr) (by rw [u_n hz]; exact Int.le_refl _) ?_
  intro j q a1 a2 a3 a4 a5 a6 a7
  exact (f2 j q (by omega) (by omega) (by omega)).trans (f1 j q (by omega) a3)
theorem o_set {s n : Int} {M : Mem} (hr : Rel M) : OP (f_X7_set s n) (f_X8_set s n) M := by
  obtain ⟨e, h⟩ := hr
  obtain ⟨hR, hy, hC, hM, hz, h7⟩ := h.1
  have h6 := hR.1
  have mm : ∀ (M1 : Mem) (Q : Int → Mem → Prop), LM e M1 → (¬ (0 ≤ s ∧ s < e.1 0 0) → Q (-1) M1) → (0 ≤ s ∧ s < e.1 0 0 → ¬ (0 ≤ n ∧ n ≤ 99) → Q (-2) M1) → (0 ≤ s ∧ s < e.1 0 0 → 0 ≤ n ∧ n ≤ 99 → Q (M1 130 s) (stM M1 130 s n)) → wp (f_X8_set s n M1) Q := by
    intro M1 Q hM1 k1 k2 k3
    unfold f_X8_set
    rw [wp_bind]
    refine m_isS hR hM1 ?_
    by_cases hs : 0 ≤ s ∧ s < e.1 0 0
    · rw [if_pos hs]
      refine wp_f one_ne ?_
      rw [wp_bind]
      refine m_isLoud ?_
      by_cases hn : 0 ≤ n ∧ n ≤ 99
      · rw [if_pos hn]
        refine wp_f one_ne (wp_and (by omega) (wp_and (by omega) ?_))
        rw [wp_lt, wp_some]
        exact k3 hs hn
      · rw [if_neg hn]
        refine wp_t rfl ?_
        rw [wp_some]
        exact k2 hs hn
    · rw [if_neg hs]
      refine wp_t rfl ?_
      rw [wp_some]
      exact k1 hs
  unfold OP f_X7_set
  rw [wp_bind]
  refine c_has hC ?_
  by_cases hs : 0 ≤ s ∧ s < e.1 0 0
  · rw [if_pos hs]
    refine wp_f one_ne ?_
    rw [wp_bind]
    refine c_isIn ?_
    by_cases hn : 0 ≤ n ∧ n ≤ 99
    · rw [if_pos hn]
      refine wp_f one_ne (wp_and (by omega) (wp_and (by omega) ?_))
      rw [wp_lt, wp_some]
      refine mm _ _ (LM2_fr hM (fun j q c => congrFun (st_nc (by omega)) q)) (fun c => absurd hs c) (fun _ c => absurd hn c) (fun _ _ => ⟨?_, up e 3 s n, ?_⟩)
      · have a := (hC.2.2.1 s hs.1 (by omega)).2.2.1
        have b := (hM.2.2.1 s hs.1 (by omega)).2.2.1
        rw [st_nc (by decide)]
        exact a.trans b.symm
      · exact Rl_u (k := 3) h (by omega) (Or.inr (Or.inl ⟨rfl, hn⟩)) rfl (fun _ _ _ => rfl) rfl (fun _ _ _ => rfl)
    · rw [if_neg hn]
      refine wp_t rfl ?_
      rw [wp_some]
      exact mm _ _ hM (fun c => absurd hs c) (fun _ _ => ⟨rfl, e, h⟩) (fun _ c => absurd c hn)
  · rw [if_neg hs]
    refine wp_t rfl ?_
    rw [wp_some]
    exact mm _ _ hM (fun _ => ⟨rfl, e, h⟩) (fun c _ => absurd c hs) (fun c _ => absurd c hs)
theorem o_lose {s : Int} {M : Mem} (hr : Rel M) : OP (f_X7_lose s) (f_X8_lose s) M := by
  obtain ⟨e, h⟩ := hr
  obtain ⟨hR, hy, hC, hM, hz, h7⟩ := h.1
  have h6 := hR.1
  have mm : ∀ (M1 : Mem) (Q : Int → Mem → Prop), LM e M1 → (¬ (0 ≤ s ∧ s < e.1 0 0) → Q (-1) M1) → (0 ≤ s ∧ s < e.1 0 0 → e.1 4 s = -1 → Q (-3) M1) → (0 ≤ s ∧ s < e.1 0 0 → ¬ e.1 4 s = -1 → Q (M1 131 s) (stM M1 131 s (-5))) → wp (f_X8_lose s M1) Q := by
    intro M1 Q hM1 k1 k2 k3
    unfold f_X8_lose
    rw [wp_bind]
    refine m_isS hR hM1 ?_
    by_cases hs : 0 ≤ s ∧ s < e.1 0 0
    · rw [if_pos hs]
      refine wp_f one_ne ?_
      rw [wp_bind]
      refine m_isLost hR hM1 (by omega) ?_
      by_cases hn : e.1 4 s = -1
      · rw [if_pos hn]
        refine wp_f one_ne ?_
        rw [wp_some]
        exact k2 hs hn
      · rw [if_neg hn]
        refine wp_t rfl (wp_and (by omega) (wp_and (by omega) ?_))
        rw [wp_lt, wp_some]
        exact k3 hs hn
    · rw [if_neg hs]
      refine wp_t rfl ?_
      rw [wp_some]
      exact k1 hs
  unfold OP f_X7_lose
  rw [wp_bind]
  refine c_has hC ?_
  by_cases hs : 0 ≤ s ∧ s < e.1 0 0
  · have hq := (hC.2.2.1 s hs.1 (by omega)).2.2.2
    have b := (hM.2.2.1 s hs.1 (by omega)).2.2.2
    rw [if_pos hs]
    refine wp_f one_ne ?_
    rw [wp_bind]
    refine c_isLost2 (by omega) hq ?_
    by_cases hn : e.1 4 s = -1
    · rw [if_pos hn]
      refine wp_f one_ne ?_
      rw [wp_some]
      exact mm _ _ hM (fun c => absurd hs c) (fun _ _ => ⟨rfl, e, h⟩) (fun _ c => absurd hn c)
    · rw [if_neg hn]
      refine wp_t rfl (wp_and (by omega) (wp_and (by omega) ?_))
      rw [wp_lt, wp_some]
      refine mm _ _ (LM2_fr hM (fun j q c => congrFun (st_nc (by omega)) q)) (fun c => absurd hs c) (fun _ c => absurd c hn) (fun _ _ => ⟨?_, up e 4 s (-1), ?_⟩)
      · rw [st_nc (by decide)]
        rw [hm_of hn] at b
        exact hq.trans b.symm
      · exact Rl_u (k := 4) h (by omega) (Or.inr (Or.inr ⟨rfl, by omega, by omega⟩)) rfl (fun _ _ _ => rfl) rfl (fun _ _ _ => rfl)
  · rw [if_neg hs]
    refine wp_t rfl ?_
    rw [wp_some]
    exact mm _ _ hM (fun _ => ⟨rfl, e, h⟩) (fun c _ => absurd c hs) (fun c _ => absurd c hs)
theorem o_find {s t : Int} {M : Mem} (hr : Rel M) : OP (f_X7_find s t) (f_X8_find s t) M := by
  obtain ⟨e, h⟩ := hr
  obtain ⟨hR, hy, hC, hM, hz, h7⟩ := h.1
  have h6 := hR.1
  have mm : ∀ (M1 : Mem) (Q : Int → Mem → Prop), LM e M1 → (¬ (0 ≤ s ∧ s < e.1 0 0 ∧ 0 ≤ t ∧ t ≤ 4) → Q (-1) M1) → (0 ≤ s ∧ s < e.1 0 0 ∧ 0 ≤ t ∧ t ≤ 4 → ¬ e.1 4 s = -1 → Q (-3) M1) → (0 ≤ s ∧ s < e.1 0 0 ∧ 0 ≤ t ∧ t ≤ 4 → e.1 4 s = -1 → ∀ M3, (∀ j, j ≠ 142 → j ≠ 143 → M3 j = stM M1 131 s t j) → Q (NZ (up e 4 s t) t) M3) → wp (f_X8_find s t M1) Q := by
    intro M1 Q hM1 k1 k2 k3
    unfold f_X8_find
    rw [wp_bind]
    refine m_isS hR hM1 ?_
    by_cases hs : 0 ≤ s ∧ s < e.1 0 0
    · rw [if_pos hs]
      refine wp_f one_ne ?_
      rw [wp_bind]
      refine m_isH ?_
      by_cases ht : 0 ≤ t ∧ t ≤ 4
      · rw [if_pos ht]
        refine wp_f one_ne ?_
        rw [wp_bind]
        refine m_isLost hR hM1 (by omega) ?_
        by_cases hn : e.1 4 s = -1
        · rw [if_pos hn]
          refine wp_f one_ne (wp_and (by omega) ?_)
          rw [wp_lt, wp_bind]
          have hL2 := m_u (k := 4) (s := s) (z := t) (zz := t) (by omega) hM1 (by rw [if_pos rfl, hm_of (by omega)])
          refine m_noise (u_r hR (Or.inr (Or.inr ⟨rfl, by omega, by omega⟩))) hL2 ht ?_
          intro M3 g
          rw [wp_some]
          exact k3 ⟨hs.1, hs.2, ht⟩ hn M3 g
        · rw [if_neg hn]
          refine wp_t rfl ?_
          rw [wp_some]
          exact k2 ⟨hs.1, hs.2, ht⟩ hn
      · rw [if_neg ht]
        refine wp_t rfl ?_
        rw [wp_some]
        exact k1 (fun c => ht c.2.2)
    · rw [if_neg hs]
      refine wp_t rfl ?_
      rw [wp_some]
      exact k1 (fun c => hs ⟨c.1, c.2.1⟩)
  unfold OP f_X7_find
  rw [wp_bind]
  refine c_has hC ?_
  by_cases hs : 0 ≤ s ∧ s < e.1 0 0
  · have hq := (hC.2.2.1 s hs.1 (by omega)).2.2.2
    rw [if_pos hs]
    refine wp_f one_ne ?_
    rw [wp_bind]
    refine c_isH ?_
    by_cases ht : 0 ≤ t ∧ t ≤ 4
    · rw [if_pos ht]
      refine wp_f one_ne ?_
      rw [wp_bind]
      refine c_isLost2 (by omega) hq ?_
      by_cases hn : e.1 4 s = -1
      · rw [if_pos hn]
        refine wp_f one_ne (wp_and (by omega) ?_)
        rw [wp_lt, wp_bind]
        have hok : okU 4 t := Or.inr (Or.inr ⟨rfl, by omega, by omega⟩)
        have hL2 := LC_u (k := 4) (s := s) (z := t) (by omega) (Or.inl rfl) hC
        refine c_noise (u_r hR hok) (Or.inl rfl) hL2 ht ?_
        intro M1 g
        rw [wp_some]
        have f1 : ∀ j q : Int, j ≠ 40 → M1 j q = stM M (22 + ((4 : Nat) : Int)) s t j q := fun j q hj => congrFun (g j (by omega)) q
        have hM1 : LM e M1 := LM2_fr hM (fun j q c => (f1 j q (by omega)).trans (congrFun (st_nc (by omega)) q))
        refine mm _ _ hM1 (fun c => absurd ⟨hs.1, hs.2, ht⟩ c) (fun _ c => absurd hn c) ?_
        intro _ _ M3 g3
        exact ⟨rfl, up e 4 s t, Rl_u (k := 4) h (by omega) hok (show t = if 4 = 4 then hm t else t by rw [if_pos rfl, hm_of (by omega)]) f1 rfl g3⟩
      · rw [if_neg hn]
        refine wp_t rfl ?_
        rw [wp_some]
        exact mm _ _ hM (fun c => absurd ⟨hs.1, hs.2, ht⟩ c) (fun _ _ => ⟨rfl, e, h⟩) (fun _ c => absurd c hn)
    · rw [if_neg ht]
      refine wp_t rfl ?_
      rw [wp_some]
      exact mm _ _ hM (fun _ => ⟨rfl, e, h⟩) (fun c _ => absurd c.2.2 ht) (fun c _ => absurd c.2.2 ht)
  · rw [if_neg hs]
    refine wp_t rfl ?_
    rw [wp_some]
    exact mm _ _ hM (fun _ => ⟨rfl, e, h⟩) (fun c _ => absurd ⟨c.1, c.2.1⟩ hs) (fun c _ => absurd ⟨c.1, c.2.1⟩ hs)
theorem o_pass {s t : Int} {M : Mem} (hr : Rel M) : OP (f_X7_pass s t) (f_X8_pass s t) M := by
  obtain ⟨e, h⟩ := hr
  obtain ⟨hR, hy, hC, hM, hz, h7⟩ := h.1
  have h6 := hR.1
  have ha := (hR.2.2.1 s).2.2.2.1
  have mm : ∀ (M1 : Mem) (Q : Int → Mem → Prop), LM e M1 → (¬ (0 ≤ s ∧ s < e.1 0 0 ∧ 0 ≤ t ∧ t ≤ 4) → Q (-1) M1) → (0 ≤ s ∧ s < e.1 0 0 ∧ 0 ≤ t ∧ t ≤ 4 → ¬ (e.1 4 s ≠ -1 ∧ far (e.1 4 s) t = 1) → Q (-3) M1) → (0 ≤ s ∧ s < e.1 0 0 ∧ 0 ≤ t ∧ t ≤ 4 → e.1 4 s ≠ -1 ∧ far (e.1 4 s) t = 1 → ∀ M3, (∀ j, j ≠ 142 → j ≠ 143 → M3 j = stM M1 131 s t j) → Q (NZ (up e 4 s t) t) M3) → wp (f_X8_pass s t M1) Q := by
    intro M1 Q hM1 k1 k2 k3
    unfold f_X8_pass
    rw [wp_bind]
    refine m_isS hR hM1 ?_
    by_cases hs : 0 ≤ s ∧ s < e.1 0 0
    · rw [if_pos hs]
      refine wp_f one_ne ?_
      rw [wp_bind]
      refine m_isH ?_
      by_cases ht : 0 ≤ t ∧ t ≤ 4
      · rw [if_pos ht]
        refine wp_f one_ne ?_
        rw [wp_bind]
        refine m_isLost hR hM1 (by omega) ?_
        have b := (hM1.2.2.1 s hs.1 (by omega)).2.2.2
        by_cases hn : e.1 4 s = -1
        · rw [if_pos hn]
          refine wp_f one_ne ?_
          rw [wp_some]
          exact k2 ⟨hs.1, hs.2, ht⟩ (fun c => c.1 hn)
        · rw [if_neg hn]
          refine wp_t rfl (wp_and (by omega) ?_)
          simp only []
          rw [b, hm_of hn, wp_bind]
          refine m_far (by omega) (by omega) ?_
          by_cases hf : far (e.1 4 s) t = 1
          · refine wp_t hf (wp_and (by omega) ?_)
            rw [wp_lt, wp_bind]
            have hL2 := m_u (k := 4) (s := s) (z := t) (zz := t) (by omega) hM1 (by rw [if_pos rfl, hm_of (by omega)])
            refine m_noise (u_r hR (Or.inr (Or.inr ⟨rfl, by omega, by omega⟩))) hL2 ht ?_
            intro M3 g
            rw [wp_some]
            exact k3 ⟨hs.1, hs.2, ht⟩ ⟨hn, hf⟩ M3 g
          · refine wp_f hf ?_
            rw [wp_some]
            exact k2 ⟨hs.1, hs.2, ht⟩ (fun c => hf c.2)
      · rw [if_neg ht]
        refine wp_t rfl ?_
        rw [wp_some]
        exact k1 (fun c => ht c.2.2)
    · rw [if_neg hs]
      refine wp_t rfl ?_
      rw [wp_some]
      exact k1 (fun c => hs ⟨c.1, c.2.1⟩)
  unfold OP f_X7_pass
  rw [wp_bind]
  refine c_has hC ?_
  by_cases hs : 0 ≤ s ∧ s < e.1 0 0
  · have hq := (hC.2.2.1 s hs.1 (by omega)).2.2.2
    rw [if_pos hs]
    refine wp_f one_ne ?_
    rw [wp_bind]
    refine c_isH ?_
    by_cases ht : 0 ≤ t ∧ t ≤ 4
    · rw [if_pos ht]
      refine wp_f one_ne ?_
      rw [wp_bind]
      refine c_isLost2 (by omega) hq ?_
      by_cases hn : e.1 4 s = -1
      · rw [if_pos hn]
        refine wp_f one_ne ?_
        rw [wp_some]
        exact mm _ _ hM (fun c => absurd ⟨hs.1, hs.2, ht⟩ c) (fun _ _ => ⟨rfl, e, h⟩) (fun _ c => absurd hn c.1)
      · rw [if_neg hn]
        refine wp_t rfl (wp_and (by omega) ?_)
        have hq' : M 26 s = e.1 4 s := hq
        have e1 : ab32 (w32 (M 26 s - t)) = far (e.1 4 s) t := by
          rw [hq', w_id (by omega) (by omega)]
          unfold ab32 far
          by_cases hle : e.1 4 s ≤ t
          · rw [if_pos hle]
            by_cases h0 : 0 ≤ e.1 4 s - t
            · rw [if_pos h0]; omega
            · rw [if_neg h0, w_id (by omega) (by omega)]; omega
          · rw [if_neg hle, if_pos (by omega)]
        simp only []
        rw [e1]
        by_cases hf : far (e.1 4 s) t = 1
        · refine wp_t hf (wp_and (by omega) ?_)
          rw [wp_lt, wp_bind]
          have hok : okU 4 t := Or.inr (Or.inr ⟨rfl, by omega, by omega⟩)
          have hL2 := LC_u (k := 4) (s := s) (z := t) (by omega) (Or.inl rfl) hC
          refine c_noise (u_r hR hok) (Or.inl rfl) hL2 ht ?_
          intro M1 g
          rw [wp_some]
          have f1 : ∀ j q : Int, j ≠ 40 → M1 j q = stM M (22 + ((4 : Nat) : Int)) s t j q := fun j q hj => congrFun (g j (by omega)) q
          have hM1 : LM e M1 := LM2_fr hM (fun j q c => (f1 j q (by omega)).trans (congrFun (st_nc (by omega)) q))
          refine mm _ _ hM1 (fun c => absurd ⟨hs.1, hs.2, ht⟩ c) (fun _ c => absurd ⟨hn, hf⟩ c) ?_
          intro _ _ M3 g3
          exact ⟨rfl, up e 4 s t, Rl_u (k := 4) h (by omega) hok (show t = if 4 = 4 then hm t else t by rw [if_pos rfl, hm_of (by omega)]) f1 rfl g3⟩
        · refine wp_f hf ?_
          rw [wp_some]
          exact mm _ _ hM (fun c => absurd ⟨hs.1, hs.2, ht⟩ c) (fun _ _ => ⟨rfl, e, h⟩) (fun _ c => absurd c.2 hf)
    · rw [if_neg ht]
      refine wp_t rfl ?_
      rw [wp_some]
      exact mm _ _ hM (fun _ => ⟨rfl, e, h⟩) (fun c _ => absurd c.2.2 ht) (fun c _ => absurd c.2.2 ht)
  · rw [if_neg hs]
    refine wp_t rfl ?_
    rw [wp_some]
    exact mm _ _ hM (fun _ => ⟨rfl, e, h⟩) (fun c _ => absurd ⟨c.1, c.2.1⟩ hs) (fun c _ => absurd ⟨c.1, c.2.1⟩ hs)
