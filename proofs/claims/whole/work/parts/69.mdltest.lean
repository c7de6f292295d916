/-! the model: signs, tests, what is put on the pile -/
def F10 (M M' : Mem) : Prop := ∀ j q : Int, (j ≠ 127 ∨ (q ≠ 10 ∧ q ≠ 11)) → M' j q = M j q
theorem F10_rfl (M : Mem) : F10 M M := fun _ _ _ => rfl
theorem F10_tr {M M1 M2 : Mem} (h : F10 M M1) (g : F10 M1 M2) : F10 M M2 := fun j q c => (g j q c).trans (h j q c)
theorem FrE_10 {b : Nat} {c : Int} {M M' : Mem} (h : F10 M M') : FrE b c M M' := fun j q _ a2 _ _ => h j q (by omega)
theorem MT_10 {T : Nat → Int} {L p p' : Nat} {M M' : Mem} (h : MT T L p M) (g : F10 M M') (h10 : M' 127 10 = (p' : Int)) (hp : p' ≤ L) : MT T L p' M' := ⟨by rw [g 127 9 (by omega)]; exact h.1, h10, hp, fun i hi => by rw [g 133 _ (by omega)]; exact h.2.2.2 i hi⟩
theorem MS_10 {T : Nat → Int} {L b k p p' : Nat} {S : List Tk} {W : List Int} {M M' : Mem} (h : MS T L b S W k p M) (g : F10 M M') (h10 : M' 127 10 = (p' : Int)) (hp : p ≤ p') (hp' : p' ≤ L) : MS T L b S W k p' M' := by
  obtain ⟨h1, h2, h4, h5, h6, h7⟩ := h
  exact ⟨MT_10 h1 g h10 hp', ⟨by rw [g 127 20 (by omega)]; exact h2.1, fun q hq => by rw [g 139 _ (by omega)]; exact h2.2 q hq⟩, by rw [g 127 21 (by omega)]; exact h4, PW_cg W h5 (fun q _ _ => g 140 q (by omega)), by rw [g 127 22 (by omega)]; exact h6, by omega⟩
theorem m_digit {T : Nat → Int} {L p : Nat} {M : Mem} {Q : Int → Mem → Prop} (hT : TxE T L) (h : MT T L p M) (k : Q (if dg (T p) then 1 else 0) M) : wp (f_X8_isDigit M) Q := by
  unfold f_X8_isDigit
  rw [wp_bind]
  refine m_next hT h ?_
  rw [wp_bind]
  refine m_in ?_
  rw [wp_some]
  exact k
theorem m_num {T : Nat → Int} {L p : Nat} {M : Mem} {Q : Int → Mem → Prop} (hT : TxE T L) (h : MT T L p M) (k0 : (num T p).2 < 0 → (num T p).1 = p → Q 0 M) (k1 : 0 ≤ (num T p).2 → ∀ M', F10 M M' → MT T L (num T p).1 M' → M' 127 11 = (num T p).2 → Q 1 M') : wp (f_X8_takesNumber M) Q := by
  have hnr := num_r hT h.2.2.1
  have hL := hT.1
  unfold num at k0 k1 hnr
  unfold f_X8_takesNumber
  rw [wp_bind]
  refine m_digit hT h ?_
  by_cases hd : dg (T p)
  · have hd' := hd
    unfold dg at hd'
    have l1 := T_lt hT (show T p ≠ -1 by omega)
    rw [if_pos hd] at k0 k1 hnr ⊢
    refine wp_f one_ne ?_
    simp only []
    rw [wp_lt]
    have f0 : F10 M (stM M 127 11 0) := fun j q c => by rw [st_ap, if_neg (by omega)]
    have a11 : stM M 127 11 0 127 11 = 0 := by rw [st_ap, if_pos ⟨rfl, rfl⟩]
    have a10 : stM M 127 11 0 127 10 = (p : Int) := by rw [st_ap, if_neg (by omega)]; exact h.2.1
    generalize stM M 127 11 0 = A at f0 a11 a10
    have hA := MT_10 h f0 a10 h.2.2.1
    rw [FU_e, show (100000 : Nat) = 99997 + 1 + 1 + 1 from rfl, f_X8_takesNumber_16.eq_2]
    refine wp_f (by decide) ?_
    rw [wp_bind]
    refine m_digit hT hA ?_
    rw [if_pos hd]
    refine wp_f one_ne ?_
    rw [wp_bind]
    refine m_next hT hA ?_
    rw [wp_lt, wp_lt]
    simp only []
    rw [a11, w_id (z := 10 * 0) (by omega) (by omega), w_id (z := 10 * 0 + T p) (by omega) (by omega), w_id (z := 10 * 0 + T p - 48) (by omega) (by omega), show 10 * 0 + T p - 48 = T p - 48 by omega]
    generalize hB : stM A 127 11 (T p - 48) = B
    have b10 : B 127 10 = (p : Int) := by rw [← hB, st_ap, if_neg (by omega), a10]
    rw [b10, w_suc (by omega), show w32 (0 + 1) = ((1 : Nat) : Int) from rfl]
    have uB : ∀ j q : Int, stM B 127 10 ((p + 1 : Nat) : Int) j q = if j = 127 ∧ q = 10 then ((p + 1 : Nat) : Int) else if j = 127 ∧ q = 11 then T p - 48 else A j q := fun j q => by rw [st_ap, ← hB, st_ap]
    generalize stM B 127 10 ((p + 1 : Nat) : Int) = D at uB
    have fD : F10 A D := fun j q c => by rw [uB, if_neg (by omega), if_neg (by omega)]
    have d10 : D 127 10 = ((p + 1 : Nat) : Int) := by rw [uB, if_pos ⟨rfl, rfl⟩]
    have d11 : D 127 11 = T p - 48 := by rw [uB, if_neg (by omega), if_pos ⟨rfl, rfl⟩]
    have hD := MT_10 hA fD d10 (by omega)
    rw [f_X8_takesNumber_16.eq_2]
    refine wp_f (by decide) ?_
    rw [wp_bind]
    refine m_digit hT hD ?_
    by_cases hd2 : dg (T (p + 1))
    · have hd2' := hd2
      unfold dg at hd2'
      have l2 := T_lt hT (show T (p + 1) ≠ -1 by omega)
      rw [if_pos hd2] at k0 k1 ⊢
      refine wp_f one_ne ?_
      rw [wp_bind]
      refine m_next hT hD ?_
      rw [wp_lt, wp_lt]
      simp only []
      rw [d11, w_id (z := 10 * (T p - 48)) (by omega) (by omega), w_id (z := 10 * (T p - 48) + T (p + 1)) (by omega) (by omega), w_id (z := 10 * (T p - 48) + T (p + 1) - 48) (by omega) (by omega), show 10 * (T p - 48) + T (p + 1) - 48 = 10 * (T p - 48) + (T (p + 1) - 48) by omega]
      generalize hE : stM D 127 11 (10 * (T p - 48) + (T (p + 1) - 48)) = E
      have e10 : E 127 10 = ((p + 1 : Nat) : Int) := by rw [← hE, st_ap, if_neg (by omega), d10]
      rw [e10, w_suc (i := p + 1) (by omega), w_suc (i := 1) (by omega)]
      have uE : ∀ j q : Int, stM E 127 10 ((p + 1 + 1 : Nat) : Int) j q = if j = 127 ∧ q = 10 then ((p + 1 + 1 : Nat) : Int) else if j = 127 ∧ q = 11 then 10 * (T p - 48) + (T (p + 1) - 48) else D j q := fun j q => by rw [st_ap, ← hE, st_ap]
      generalize stM E 127 10 ((p + 1 + 1 : Nat) : Int) = G at uE
      have fG : F10 D G := fun j q c => by rw [uE, if_neg (by omega), if_neg (by omega)]
      have hG := MT_10 hD fG (p' := p + 2) (by rw [uE, if_pos ⟨rfl, rfl⟩]) (by omega)
      rw [f_X8_takesNumber_16.eq_2]
      refine wp_t (by decide) ?_
      rw [wp_some]
      exact k1 (by show 0 ≤ 10 * (T p - 48) + (T (p + 1) - 48); omega) G (F10_tr f0 (F10_tr fD fG)) hG (by rw [uE, if_neg (by omega), if_pos ⟨rfl, rfl⟩])
    · rw [if_neg hd2] at k0 k1 ⊢
      refine wp_t rfl ?_
      rw [wp_some]
      exact k1 (by show 0 ≤ T p - 48; omega) D (F10_tr f0 fD) hD d11
  · rw [if_neg hd] at k0 ⊢
    refine wp_t rfl ?_
    rw [wp_some]
    exact k0 (by show (-1 : Int) < 0; decide) rfl
theorem m_place {c : Int} {M : Mem} {Q : Int → Mem → Prop} (k : Q (plc c) M) : wp (f_X8_place c M) Q := by
  unfold f_X8_place
  unfold plc at k
  by_cases h1 : c = 104
  · rw [if_pos h1] at k
    refine wp_t h1 ?_
    rw [wp_some]
    exact k
  rw [if_neg h1] at k
  refine wp_f h1 ?_
  by_cases h2 : c = 107
  · rw [if_pos h2] at k
    refine wp_t h2 ?_
    rw [wp_some]
    exact k
  rw [if_neg h2] at k
  refine wp_f h2 ?_
  by_cases h3 : c = 108
  · rw [if_pos h3] at k
    refine wp_t h3 ?_
    rw [wp_some]
    exact k
  rw [if_neg h3] at k
  refine wp_f h3 ?_
  by_cases h4 : c = 115
  · rw [if_pos h4] at k
    refine wp_t h4 ?_
    rw [wp_some]
    exact k
  rw [if_neg h4] at k
  refine wp_f h4 ?_
  by_cases h5 : c = 118
  · rw [if_pos h5] at k
    refine wp_t h5 ?_
    rw [wp_some]
    exact k
  rw [if_neg h5] at k
  refine wp_f h5 ?_
  by_cases h6 : c = 121
  · rw [if_pos h6] at k
    refine wp_t h6 ?_
    rw [wp_some]
    exact k
  rw [if_neg h6] at k
  refine wp_f h6 ?_
  rw [wp_some]
  exact k
theorem m_test {T : Nat → Int} {L b k0 m p : Nat} {c : Int} {W0 : List Int} {S : List Tk} {M : Mem} {Q : Int → Mem → Prop} (hb : b ≤ 500) (hT : TxE T L) (hW : W0.head? ≠ some 33) (hm : k0 + m ≤ 4) (h : MS T L b S (List.replicate m 33 ++ W0) (k0 + m) p M)
    (kn : (tst T p).2 = none → ∀ M', FrE b c M M' → M' 127 10 = ((tst T p).1 : Int) → Q 0 M') (ks : ∀ t, (tst T p).2 = some t → ∀ M', FrE b c M M' → MS T L b ((S ++ t) ++ List.replicate m notT) W0 k0 (tst T p).1 M' → Q 1 M') : wp (f_X8_takesTest M) Q := by
  have hL := hT.1
  have hpr := plc_r (T p)
  unfold tst at kn ks
  unfold f_X8_takesTest
  rw [wp_bind]
  refine m_next hT h.1 ?_
  rw [wp_bind]
  refine m_place ?_
  by_cases h1 : plc (T p) < 0
  · rw [if_pos h1] at kn
    refine wp_f (by simp only []; omega) ?_
    rw [wp_some]
    exact kn rfl M (FrE_rfl b c M) h.1.2.1
  · rw [if_neg h1] at kn ks
    have l1 : p < L := T_lt hT (fun c => by rw [c, plc_m] at h1; omega)
    refine wp_t (by simp only []; omega) ?_
    rw [wp_lt]
    simp only []
    rw [h.1.2.1, w_suc (by omega)]
    have f1 : F10 M (stM M 127 10 ((p + 1 : Nat) : Int)) := fun j q cc => by rw [st_ap, if_neg (by omega)]
    have e1 : stM M 127 10 ((p + 1 : Nat) : Int) 127 10 = ((p + 1 : Nat) : Int) := by rw [st_ap, if_pos ⟨rfl, rfl⟩]
    generalize stM M 127 10 ((p + 1 : Nat) : Int) = M1 at f1 e1
    have hM1 := MS_10 h f1 e1 (by omega) (by omega)
    rw [wp_bind]
    refine m_next hT hM1.1 ?_
    rw [wp_bind]
    by_cases h2 : 60 ≤ T (p + 1) ∧ T (p + 1) ≤ 62
    · rw [if_pos h2] at kn ks
      have l2 := T_lt hT (show T (p + 1) ≠ -1 by omega)
      refine m_in_t h2 ?_
      refine wp_f one_ne ?_
      rw [wp_lt]
      simp only []
      rw [e1, w_suc (by omega)]
      have f2 : F10 M1 (stM M1 127 10 ((p + 1 + 1 : Nat) : Int)) := fun j q cc => by rw [st_ap, if_neg (by omega)]
      have e2 : stM M1 127 10 ((p + 1 + 1 : Nat) : Int) 127 10 = ((p + 2 : Nat) : Int) := by rw [st_ap, if_pos ⟨rfl, rfl⟩]
      generalize stM M1 127 10 ((p + 1 + 1 : Nat) : Int) = M2 at f2 e2
      have hM2 := MS_10 hM1 f2 e2 (by omega) (by omega)
      have hnr := num_r hT (p := p + 2) (by omega)
      rw [wp_bind]
      refine m_num hT hM2.1 ?_ ?_
      · intro h3 h4
        rw [if_pos h3] at kn
        refine wp_t rfl ?_
        rw [wp_some]
        exact kn rfl M2 (FrE_10 (F10_tr f1 f2)) (by rw [e2]; show ((p + 2 : Nat) : Int) = ((num T (p + 2)).1 : Int); rw [h4])
      · intro h3 M3 g1 g2 g3
        rw [if_neg (show ¬ (num T (p + 2)).2 < 0 by omega)] at ks
        refine wp_f one_ne ?_
        have hM3 := MS_10 hM2 g1 g2.2.1 hnr.1 hnr.2.1
        simp only []
        rw [g3, w_id (z := 1000 * plc (T p)) (by omega) (by omega), w_id (z := T (p + 1) - 60) (by omega) (by omega), w_id (z := 100 * (T (p + 1) - 60)) (by omega) (by omega), w_id (z := 1000 * plc (T p) + 100 * (T (p + 1) - 60)) (by omega) (by omega), w_id (z := 1000 * plc (T p) + 100 * (T (p + 1) - 60) + (num T (p + 2)).2) (by omega) (by omega), wp_bind]
        have hlt : S.length + (List.replicate m (33 : Int) ++ W0).length ≤ p := h.2.2.2.2.2
        refine m_emit (c := c) (t := (plc (T p), T (p + 1) - 61, (num T (p + 2)).2)) hb (by omega) (by omega) hM3 ?_ ?_
        · unfold eT
          rw [if_neg (show ¬ plc (T p) = 6 by omega), if_neg (show ¬ plc (T p) = 7 by omega), if_neg (show ¬ plc (T p) = 8 by omega)]
          show _ = 1000 * plc (T p) + 100 * (T (p + 1) - 61 + 1) + (num T (p + 2)).2
          omega
        · intro M4 u1 u2 u3 u4 u5 u6 u7
          unfold f_X8_whole
          rw [wp_bind]
          obtain ⟨_, _, x4, x5, x6, _⟩ := hM3
          refine m_whole (p := (num T (p + 2)).1) (c := c) hb hT hW m FU k0 (S ++ [(plc (T p), T (p + 1) - 61, (num T (p + 2)).2)]) M4 _ (by rw [FU_e]; omega) hm ?_ ?_
          · refine ⟨u2, u3, u5.trans x4, PW_cg _ x5 (fun q _ _ => u4 q), u6.trans x6, ?_⟩
            rw [List.length_append]
            show S.length + 1 + _ ≤ (num T (p + 2)).1
            have := hnr.1
            omega
          · intro M5 w1 w2
            rw [wp_some]
            exact ks _ rfl M5 (FrE_tr (FrE_10 (F10_tr f1 (F10_tr f2 g1))) (FrE_tr u1 w1)) w2
    · rw [if_neg h2] at kn
      refine m_in_f h2 ?_
      refine wp_t rfl ?_
      rw [wp_some]
      exact kn rfl M1 (FrE_10 f1) e1
theorem m_push {T : Nat → Int} {L b k p : Nat} {c x : Int} {W : List Int} {S : List Tk} {M : Mem} {k22 : Mem → Option (Int × Mem)} {Q : Int → Mem → Prop} (hT : TxE T L) (h : MS T L b S W k p M) (hl : p < L)
    (kk : ∀ M', FrE b c M M' → MS T L b S (x :: W) k (p + 1) M' → wp (k22 M') Q) : wp (if 0 ≤ M 127 21 ∧ M 127 21 < 101 then lt (stM M 140 (M 127 21) x) (fun M4 => lt (stM M4 127 21 (w32 ((M4 127 21) + 1))) (fun M5 => lt (stM M5 127 10 (w32 ((M5 127 10) + 1))) (fun M6 => k22 M6))) else none) Q := by
  have hL := hT.1
  have hh := h
  obtain ⟨h1, h2, h4, h5, h6, h7⟩ := h
  refine wp_and (by omega) ?_
  rw [wp_lt]
  generalize hA : stM M 140 (M 127 21) x = A
  have a21 : A 127 21 = (W.length : Int) := by rw [← hA, st_nc (by decide), h4]
  rw [wp_lt, a21, w_suc (by omega)]
  generalize hB : stM A 127 21 ((W.length + 1 : Nat) : Int) = B
  have b10 : B 127 10 = (p : Int) := by rw [← hB, st_ap, if_neg (by omega), ← hA, st_nc (by decide), h1.2.1]
  rw [wp_lt, b10, w_suc (by omega)]
  have u : ∀ j q : Int, stM B 127 10 ((p + 1 : Nat) : Int) j q = if j = 127 ∧ q = 10 then ((p + 1 : Nat) : Int) else if j = 127 ∧ q = 21 then ((W.length + 1 : Nat) : Int) else if j = 140 ∧ q = (W.length : Int) then x else M j q := fun j q => by rw [st_ap, ← hB, st_ap, ← hA, st_ap, h4]
  generalize stM B 127 10 ((p + 1 : Nat) : Int) = D at u
  have fr : FrE b c M D := fun j q a1 a2 a3 a4 => by rw [u, if_neg (by omega), if_neg (by omega), if_neg (by omega)]
  refine kk D fr ⟨⟨?_, ?_, by omega, fun i hi => ?_⟩, ⟨?_, fun q hq => ?_⟩, ?_, ⟨?_, ?_⟩, ?_, ?_⟩
  · rw [u, if_neg (by omega), if_neg (by omega), if_neg (by omega)]; exact h1.1
  · rw [u, if_pos ⟨rfl, rfl⟩]
  · rw [u, if_neg (by omega), if_neg (by omega), if_neg (by omega)]; exact h1.2.2.2 i hi
  · rw [u, if_neg (by omega), if_neg (by omega), if_neg (by omega)]; exact h2.1
  · rw [u, if_neg (by omega), if_neg (by omega), if_neg (by omega)]; exact h2.2 q hq
  · rw [u, if_neg (by omega), if_pos ⟨rfl, rfl⟩, List.length_cons]
  · rw [u, if_neg (by omega), if_neg (by omega), if_pos ⟨rfl, rfl⟩]
  · exact PW_cg W h5 (fun q q0 q1 => by rw [u, if_neg (by omega), if_neg (by omega), if_neg (by omega)])
  · rw [u, if_neg (by omega), if_neg (by omega), if_neg (by omega)]; exact h6
  · rw [List.length_cons]; omega
theorem m_open {T : Nat → Int} {L b k p : Nat} {c x x2 : Int} {W : List Int} {S : List Tk} {M : Mem} {G : Int → Int → Mem → Option (Int × Mem)} {Q : Int → Mem → Prop} (hT : TxE T L) (h : MS T L b S W k p M) (hl : p < L)
    (k0 : k = 4 → Q 0 M) (kk : k < 4 → ∀ M', FrE b c M M' → MS T L b S (x :: W) (k + 1) (p + 1) M' → wp (G c x2 M') Q) (hk : k ≤ 4) : wp (f_X8_takesE_43 c G c x2 x M) Q := by
  have hh := h
  obtain ⟨h1, h2, h4, h5, h6, h7⟩ := h
  unfold f_X8_takesE_43
  by_cases h44 : k = 4
  · refine wp_t (by rw [h6]; omega) ?_
    rw [wp_some]
    exact k0 h44
  · refine wp_f (by rw [h6]; omega) ?_
    rw [wp_lt, h6, w_suc (by omega)]
    have u : ∀ j q : Int, stM M 127 22 ((k + 1 : Nat) : Int) j q = if j = 127 ∧ q = 22 then ((k + 1 : Nat) : Int) else M j q := fun j q => by rw [st_ap]
    generalize stM M 127 22 ((k + 1 : Nat) : Int) = A at u
    have fr : FrE b c M A := fun j q a1 a2 a3 a4 => by rw [u, if_neg (by omega)]
    have hA : MS T L b S W (k + 1) p A := ⟨MT_fr h1 fr (by rw [u, if_neg (by omega)]), ⟨by rw [u, if_neg (by omega)]; exact h2.1, fun q hq => by rw [u, if_neg (by omega)]; exact h2.2 q hq⟩, by rw [u, if_neg (by omega)]; exact h4, PW_cg W h5 (fun q _ _ => by rw [u, if_neg (by omega)]), by rw [u, if_pos ⟨rfl, rfl⟩], h7⟩
    exact m_push (k22 := fun M6 => G c x2 M6) hT hA hl (fun M' g1 g2 => kk (by omega) M' (FrE_tr fr g1) g2)
