/-! both: act -/
theorem Rl_8 {e : Vw} {M M' : Mem} (h : Rl e M) (h8' : R8 M') (hf : ∀ j q : Int, j ≠ 13 → j ≠ 14 → j ≠ 167 → (j ≠ 127 ∨ q ≠ 62) → M' j q = M j q) : Rl e M' := by
  obtain ⟨h1, h2, h3, h4, h5, h6, h7, h8, h9⟩ := h
  refine ⟨R1_fr h1 ?_, R2_fr h2 ?_, R3_fr h3 ?_, R4_fr h4 ?_, R5_fr h5 ?_, R6_fr h6 ?_ ?_, R7_fr h7 ?_, h8', R9_fr h9 ?_⟩
  · exact fun j q c => hf j q (by omega) (by omega) (by omega) (by omega)
  · exact fun j q c => hf j q (by omega) (by omega) (by omega) (by omega)
  · exact fun j q c => hf j q (by omega) (by omega) (by omega) (by omega)
  · exact fun j q c => hf j q (by omega) (by omega) (by omega) (by omega)
  · exact fun j q c => hf j q (by omega) (by omega) (by omega) (by omega)
  · exact fun j q c => hf j q (by omega) (by omega) (by omega) (by omega)
  · rw [hf 0 6 (by omega) (by omega) (by omega) (by omega)]; exact Int.le_refl _
  · exact fun j q c => hf j q (by omega) (by omega) (by omega) (by omega)
  · exact fun j q c => hf j q (by omega) (by omega) (by omega) (by omega)
theorem R8_tr {l : List Int} {M M' : Mem} (hl : l.length ≤ 1000) (h : TrC l M) (g : TrM l M') (h1 : M' 13 0 = M 13 0) (h2 : M' 14 = M 14) : R8 M' := by
  refine ⟨by rw [h1, h.1, g.1], by rw [h1, h.1]; omega, fun i i0 i20 i1 => ?_⟩
  rw [h1, h.1] at i1
  obtain ⟨k, rfl⟩ : ∃ k : Nat, i = (k : Int) := ⟨i.toNat, by omega⟩
  rw [h2, h.2 k (by omega) (by omega), g.2 k (by omega) (by omega)]
def acL (a kd : Int) : List Int := if a = 0 then crL [] kd else if a = 1 then rgL [] kd else if a = 2 then teL [] kd else []
def acV (a kd i v x : Int) : Int := if a = 0 then crV kd i v x else if a = 1 then rgV kd i v x else if a = 2 then teV kd i v x else 0
theorem acL_n {a kd : Int} : (acL a kd).length ≤ 20 := by
  unfold acL
  have h1 := crL_n (l := []) (kd := kd)
  have h2 := rgL_n (l := []) (kd := kd)
  have h3 := teL_n (l := []) (kd := kd)
  rw [List.length_nil] at h1 h2 h3
  split
  · omega
  · split
    · omega
    · split
      · omega
      · simp
theorem c_perform {kd i v a x : Int} {M : Mem} {Q : Int → Mem → Prop} (hk : 0 ≤ kd ∧ kd ≤ 6) (h : TrC [] M) (k : ∀ M', (∀ j q : Int, j ≠ 13 → j ≠ 14 → M' j q = M j q) → TrC (acL a kd) M' → Q (acV a kd i v x) M') : wp (f_X0_perform kd i v a x M) Q := by
  unfold f_X0_perform
  rw [wp_lt, wp_lt, wp_lt]
  generalize hA : stM (stM (stM M 13 2 kd) 13 3 i) 13 4 v = A
  have a0 : ∀ j q : Int, (j ≠ 13 ∨ (q ≠ 2 ∧ q ≠ 3 ∧ q ≠ 4)) → A j q = M j q := fun j q c => by rw [← hA, st_ap, if_neg (by omega), st_ap, if_neg (by omega), st_ap, if_neg (by omega)]
  have a2 : A 13 2 = kd := by rw [← hA, st_ap, if_neg (by omega), st_ap, if_neg (by omega), st_ap, if_pos ⟨rfl, rfl⟩]
  have a3 : A 13 3 = i := by rw [← hA, st_ap, if_neg (by omega), st_ap, if_pos ⟨rfl, rfl⟩]
  have a4 : A 13 4 = v := by rw [← hA, st_ap, if_pos ⟨rfl, rfl⟩]
  have hT : TrC [] A := ⟨by rw [a0 13 0 (by omega)]; exact h.1, fun q _ hq => absurd hq (by simp)⟩
  have fr : ∀ M', FrC A M' → ∀ j q : Int, j ≠ 13 → j ≠ 14 → M' j q = M j q := fun M' g j q c1 c2 => (g j q c2 (by omega)).trans (a0 j q (by omega))
  unfold acL acV at k
  rw [a2]
  by_cases h0 : a = 0
  · rw [if_pos h0, if_pos h0] at k
    refine wp_t h0 ?_
    rw [wp_bind]
    refine c_cr (n := 2) hk hT (by simp) a3 a4 ?_
    intro M1 g1 g2
    rw [wp_some]
    exact k M1 (fr M1 g1) g2
  rw [if_neg h0, if_neg h0] at k
  refine wp_f h0 ?_
  by_cases h1 : a = 1
  · rw [if_pos h1, if_pos h1] at k
    refine wp_t h1 ?_
    rw [wp_bind]
    refine c_rg hk hT (by simp) a2 a3 a4 ?_
    intro M1 g1 g2
    rw [wp_some]
    exact k M1 (fr M1 g1) g2
  rw [if_neg h1, if_neg h1] at k
  refine wp_f h1 ?_
  by_cases h2 : a = 2
  · rw [if_pos h2, if_pos h2] at k
    refine wp_t h2 ?_
    rw [wp_bind]
    refine c_te hk hT (by simp) a2 a3 a4 ?_
    intro M1 g1 g2
    rw [wp_some]
    exact k M1 (fr M1 g1) g2
  · rw [if_neg h2, if_neg h2] at k
    refine wp_f h2 ?_
    rw [wp_some]
    exact k A (fun j q c1 c2 => a0 j q (by omega)) hT
theorem o_act {s a x : Int} {M : Mem} (hr : Rel M) : OP (f_X7_act s a x) (f_X8_act s a x) M := by
  obtain ⟨e, h⟩ := hr
  obtain ⟨hR, hy, hC, hM, hz, h7⟩ := h.1
  have h6 := hR.1
  have mm : ∀ (M1 : Mem) (Q : Int → Mem → Prop), LM e M1 → (∀ M', (∀ j q : Int, j ≠ 167 → (j ≠ 127 ∨ q ≠ 62) → M' j q = M1 j q) → TrM (if 0 ≤ s ∧ s < e.1 0 0 then acL a (e.1 1 s) else []) M' → Q (if 0 ≤ s ∧ s < e.1 0 0 then acV a (e.1 1 s) s (e.1 2 s) x else 0) M') → wp (f_X8_act s a x M1) Q := by
    intro M1 Q hM1 k
    unfold f_X8_act
    rw [wp_lt]
    generalize hA : stM M1 127 62 0 = A
    have a0 : ∀ j q : Int, (j ≠ 127 ∨ q ≠ 62) → A j q = M1 j q := fun j q c => by rw [← hA, st_ap, if_neg (by omega)]
    have aT : TrM [] A := ⟨by rw [← hA, st_ap, if_pos ⟨rfl, rfl⟩]; rfl, fun q _ hq => absurd hq (by simp)⟩
    have hMA : LM e A := LM2_fr hM1 (fun j q c => a0 j q (by omega))
    have fr : ∀ M', FrM A M' → ∀ j q : Int, j ≠ 167 → (j ≠ 127 ∨ q ≠ 62) → M' j q = M1 j q := fun M' g j q c1 c2 => (g j q c1 c2).trans (a0 j q c2)
    rw [wp_bind]
    refine m_isS hR hMA ?_
    by_cases hs : 0 ≤ s ∧ s < e.1 0 0
    · rw [if_pos hs, if_pos hs] at k
      rw [if_pos hs]
      refine wp_f one_ne ?_
      rw [wp_bind]
      have hk1 := (hMA.2.2.1 s hs.1 (by omega)).1
      have hk2 := (hMA.2.2.1 s hs.1 (by omega)).2.1
      unfold acL acV at k
      by_cases ha : 0 ≤ a ∧ a ≤ 2
      · refine m_in_t ha ?_
        refine wp_f one_ne ?_
        by_cases h0 : a = 0
        · rw [if_pos h0, if_pos h0] at k
          refine wp_t h0 ?_
          rw [wp_bind]
          refine m_cr (by omega) aT (by simp) hk1 hk2 ?_
          intro M2 g1 g2
          rw [wp_some]
          exact k M2 (fr M2 g1) g2
        rw [if_neg h0, if_neg h0] at k
        refine wp_f h0 ?_
        by_cases h1 : a = 1
        · rw [if_pos h1, if_pos h1] at k
          refine wp_t h1 ?_
          rw [wp_bind]
          refine m_rg (by omega) aT (by simp) hk1 hk2 ?_
          intro M2 g1 g2
          rw [wp_some]
          exact k M2 (fr M2 g1) g2
        rw [if_neg h1, if_neg h1, if_pos (show a = 2 by omega), if_pos (show a = 2 by omega)] at k
        refine wp_f h1 ?_
        rw [wp_bind]
        refine m_te (by omega) aT (by simp) hk1 hk2 ?_
        intro M2 g1 g2
        rw [wp_some]
        exact k M2 (fr M2 g1) g2
      · refine m_in_f ha ?_
        refine wp_t rfl ?_
        rw [wp_some]
        rw [if_neg (show ¬ a = 0 by omega), if_neg (show ¬ a = 1 by omega), if_neg (show ¬ a = 2 by omega), if_neg (show ¬ a = 0 by omega), if_neg (show ¬ a = 1 by omega), if_neg (show ¬ a = 2 by omega)] at k
        exact k A (fun j q c1 c2 => a0 j q c2) aT
    · rw [if_neg hs, if_neg hs] at k
      rw [if_neg hs]
      refine wp_t rfl ?_
      rw [wp_some]
      exact k A (fun j q c1 c2 => a0 j q c2) aT
  unfold OP f_X7_act
  rw [wp_lt]
  generalize hA : stM M 13 0 0 = A
  have a0 : ∀ j q : Int, (j ≠ 13 ∨ q ≠ 0) → A j q = M j q := fun j q c => by rw [← hA, st_ap, if_neg (by omega)]
  have aT : TrC [] A := ⟨by rw [← hA, st_ap, if_pos ⟨rfl, rfl⟩]; rfl, fun q _ hq => absurd hq (by simp)⟩
  have hCA : LC 22 e A := LC22_fr hC (fun j q c => a0 j q (by omega))
  rw [wp_bind]
  refine c_has hCA ?_
  by_cases hs : 0 ≤ s ∧ s < e.1 0 0
  · rw [if_pos hs]
    refine wp_f one_ne (wp_and (by omega) (wp_and (by omega) ?_))
    have hk1 : A 23 s = e.1 1 s := (hCA.2.2.1 s hs.1 (by omega)).1
    have hk2 : A 24 s = e.1 2 s := (hCA.2.2.1 s hs.1 (by omega)).2.1
    simp only []
    rw [wp_bind, hk1, hk2]
    refine c_perform ((hR.2.2.1 s).1) aT ?_
    intro M1 g1 g2
    rw [wp_some]
    have f1 : ∀ j q : Int, j ≠ 13 → j ≠ 14 → M1 j q = M j q := fun j q c1 c2 => (g1 j q c1 c2).trans (a0 j q (by omega))
    show wp (f_X8_act s a x M1) _
    refine mm M1 _ (LM2_fr hM (fun j q c => f1 j q (by omega) (by omega))) ?_
    intro M2 u1 u2
    rw [if_pos hs] at u2
    rw [if_pos hs]
    refine ⟨rfl, e, Rl_8 h (R8_tr (by have := acL_n (a := a) (kd := e.1 1 s); omega) g2 u2 (u1 13 0 (by omega) (by omega)) (fr_j (fun q => u1 14 q (by omega) (by omega)))) ?_⟩
    intro j q c1 c2 c3 c4
    exact (u1 j q c3 c4).trans (f1 j q c1 c2)
  · rw [if_neg hs]
    refine wp_t rfl ?_
    rw [wp_some]
    show wp (f_X8_act s a x A) _
    refine mm A _ (LM2_fr hM (fun j q c => a0 j q (by omega))) ?_
    intro M2 u1 u2
    rw [if_neg hs] at u2
    rw [if_neg hs]
    refine ⟨rfl, e, Rl_8 h (R8_tr (by simp) aT u2 (u1 13 0 (by omega) (by omega)) (fr_j (fun q => u1 14 q (by omega) (by omega)))) ?_⟩
    intro j q c1 c2 c3 c4
    exact (u1 j q c3 c4).trans (a0 j q (by omega))
