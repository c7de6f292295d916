/-! the model: all laid out -/
theorem upA_vo (e : Vw) (a : Int → Int) : vo (upA e a) = vo e := rfl
theorem upA_hb (e : Vw) (a : Int → Int) : hb (upA e a) = hb e := rfl
theorem m_layAll {e : Vw} {N : Nat} {M : Mem} {Q : Int → Mem → Prop} (hR : Rg e) (hL : LM e M) (hN : e.1 0 0 = (N : Int))
    (k : ∀ M', (∀ j, j ≠ 131 → j ≠ 142 → j ≠ 146 → M' j = M j) → LM e M' → Tb (Fh e) (e.1 4) N M' → Q 0 M') : wp (f_X8_layAll M) Q := by
  have h6 := hR.1
  have hA := Rg_RA hR
  unfold f_X8_layAll
  refine wloop0 (St := Unit) (L := fun fuel x st M' => f_X8_layAll_2 fuel x M') N (Inv := fun i st M' => (∀ j, j ≠ 131 → j ≠ 142 → j ≠ 146 → M' j = M j) ∧ LM e M' ∧ Tb (Fh e) (e.1 4) i M') (by omega) ?_ ?_ (st := ()) ⟨fun _ _ _ _ => rfl, hL, fun s f t h1 h2 => by omega⟩
  · intro i fuel st M1 hi ⟨g1, g2, g3⟩ kk
    show wp (f_X8_layAll_2 (fuel + 1) (i : Int) M1) _
    rw [f_X8_layAll_2.eq_2, g2.1, hN]
    refine wp_f (by omega) ?_
    rw [wp_bind]
    refine m_isLost hR g2 (by omega) ?_
    by_cases hl : e.1 4 (i : Int) = -1
    · rw [if_pos hl]
      refine wp_f one_ne ?_
      unfold f_X8_layAll_103
      rw [w_suc (by omega)]
      refine kk () M1 ⟨g1, g2, fun s f t h1 h2 h3 => ?_⟩
      by_cases hs : s = (i : Int)
      · rw [hs] at h3; exact absurd hl h3
      · exact g3 s f t h1 (by omega) h3
    · rw [if_neg hl]
      refine wp_t rfl (wp_and (by omega) ?_)
      have hwas : M1 131 (i : Int) = hm (e.1 4 (i : Int)) := (g2.2.2.1 (i : Int) (by omega) (by omega)).2.2.2
      simp only []
      rw [hwas]
      refine wloop0 (St := Unit) (L := fun fuel2 x st M' => f_X8_layAll_30 (f_X8_layAll_2 fuel) fuel2 (i : Int) (hm (e.1 4 (i : Int))) x M') 5 (Inv := fun f st M' => (∀ j, j ≠ 131 → j ≠ 142 → j ≠ 146 → M' j = M j) ∧ (∃ z, (-1 ≤ z ∧ z ≤ 4) ∧ LM (upA e (ua (e.1 4) (i : Int) z)) M') ∧ Tb (Fh e) (e.1 4) i M' ∧ ∀ f' t' : Int, 0 ≤ f' → f' < f → 0 ≤ t' → t' < 5 → M' 146 (25 * (i : Int) + 5 * f' + t') = Fh e (i : Int) f' t') (by omega) ?_ ?_ (st := ()) ⟨g1, ⟨e.1 4 (i : Int), hA _, by rw [ua_self, upA_self]; exact g2⟩, g3, fun f' t' h1 h2 => by omega⟩
      · intro f fuel2 st2 M2 hf ⟨u1, ⟨z, u2, u3⟩, u4, u5⟩ kk2
        show wp (f_X8_layAll_30 (f_X8_layAll_2 fuel) (fuel2 + 1) (i : Int) (hm (e.1 4 (i : Int))) (f : Int) M2) _
        rw [f_X8_layAll_30.eq_2]
        refine wp_f (by omega) (wp_and (by omega) ?_)
        simp only [lt]
        rw [wp_bind]
        have hL3 := LM_st (s := (i : Int)) (z := (f : Int)) u3 (hm_of (show (f : Int) ≠ -1 by omega)).symm
        rw [ua_ua] at hL3
        have hRf : Rg (upA e (ua (e.1 4) (i : Int) (f : Int))) := upA_r hR (ua_r hA (by omega))
        have hfr : ∀ j, j ≠ 131 → j ≠ 142 → j ≠ 146 → stM M2 131 (i : Int) (f : Int) j = M j := fun j a b c => (st_nc a).trans (u1 j a b c)
        have h146 : stM M2 131 (i : Int) (f : Int) 146 = M2 146 := st_nc (by decide)
        generalize hM3 : stM M2 131 (i : Int) (f : Int) = M3 at hL3 hfr h146
        obtain ⟨e1, he1⟩ : ∃ e1, e1 = upA e (ua (e.1 4) (i : Int) (f : Int)) := ⟨_, rfl⟩
        rw [← he1] at hL3 hRf
        have hif : e1.1 4 (i : Int) = (f : Int) := by
          rw [he1, upA_4]
          unfold ua
          rw [if_pos rfl]
        have e1n : e1.1 0 0 = (N : Int) := by rw [he1, upA_0, hN]
        have e1v : vo e1 = vo e := by rw [he1, upA_vo]
        have e1h : hb e1 = hb e := by rw [he1, upA_hb]
        refine m_voice hRf hL3 (by omega) ?_
        intro M4 v1
        rw [hif, if_neg (show ¬ (f : Int) = -1 by omega), e1v]
        have hvr := vo_r hR (i : Int) (f : Int)
        have hL4 : LM e1 M4 := LM_fr hL3 (fun j hj => v1 j (by omega))
        have h146' : M4 146 = M2 146 := by rw [v1 146 (by decide), h146]
        simp only []
        refine wloop0 (St := Unit) (L := fun fuel3 x st M' => f_X8_layAll_53 (f_X8_layAll_2 fuel) (f_X8_layAll_30 (f_X8_layAll_2 fuel) fuel2) fuel3 (i : Int) (hm (e.1 4 (i : Int))) (f : Int) (vo e (i : Int) (f : Int)) x M') 5 (Inv := fun t st M' => (∀ j, j ≠ 131 → j ≠ 142 → j ≠ 146 → M' j = M j) ∧ LM e1 M' ∧ Tb (Fh e) (e.1 4) i M' ∧ (∀ f' t' : Int, 0 ≤ f' → f' < f → 0 ≤ t' → t' < 5 → M' 146 (25 * (i : Int) + 5 * f' + t') = Fh e (i : Int) f' t') ∧ ∀ t' : Int, 0 ≤ t' → t' < t → M' 146 (25 * (i : Int) + 5 * (f : Int) + t') = Fh e (i : Int) (f : Int) t') (by omega) ?_ ?_ (st := ()) ⟨fun j a b c => (v1 j b).trans (hfr j a b c), hL4, fun s f' t h1 h2 h3 h4 h5 h7 h8 => by rw [h146']; exact u4 s f' t h1 h2 h3 h4 h5 h7 h8, fun f' t' h1 h2 h3 h4 => by rw [h146']; exact u5 f' t' h1 h2 h3 h4, fun t' h1 h2 => by omega⟩
        · intro t fuel3 st3 M5 ht ⟨w1, w2, w3, w4, w5⟩ kk3
          show wp (f_X8_layAll_53 (f_X8_layAll_2 fuel) (f_X8_layAll_30 (f_X8_layAll_2 fuel) fuel2) (fuel3 + 1) (i : Int) (hm (e.1 4 (i : Int))) (f : Int) (vo e (i : Int) (f : Int)) (t : Int) M5) _
          rw [f_X8_layAll_53.eq_2]
          refine wp_f (by omega) ?_
          rw [wp_bind]
          refine m_heardBy hRf w2 (by omega) (by omega) (by omega) hvr ?_
          rw [hif, e1h, show hb e (i : Int) (vo e (i : Int) (f : Int)) (f : Int) (t : Int) = Fh e (i : Int) (f : Int) (t : Int) from rfl]
          have hi6 : i < 6 := by omega
          have hidx : 0 ≤ 25 * (i : Int) + 5 * (f : Int) + (t : Int) ∧ 25 * (i : Int) + 5 * (f : Int) + (t : Int) < 150 := by
            clear kk kk2 kk3 k g1 g2 g3 u1 u3 u4 u5 w1 w2 w3 w4 w5 v1 hL4 hL3 hfr hRf e1v e1h hvr h146 h146' hM3 hwas hL hA hR hif e1n he1
            omega
          have ei : w32 (w32 (w32 (25 * (i : Int)) + w32 (5 * (f : Int))) + (t : Int)) = 25 * (i : Int) + 5 * (f : Int) + (t : Int) := by
            rw [w_id (z := 25 * (i : Int)) (by omega) (by omega), w_id (z := 5 * (f : Int)) (by omega) (by omega), w_id (z := 25 * (i : Int) + 5 * (f : Int)) (by omega) (by omega), w_id (by omega) (by omega)]
          simp only []
          rw [ei]
          clear ei
          refine wp_and hidx ?_
          rw [wp_lt]
          rw [w_suc (by omega)]
          have h146s : ∀ q : Int, q ≠ 25 * (i : Int) + 5 * (f : Int) + (t : Int) → stM M5 146 (25 * (i : Int) + 5 * (f : Int) + (t : Int)) (Fh e (i : Int) (f : Int) (t : Int)) 146 q = M5 146 q := fun q hq => by rw [st_ap, if_neg (fun c => hq c.2)]
          refine kk3 () _ ⟨fun j a b c => (st_nc c).trans (w1 j a b c), LM_fr w2 (fun j hj => st_nc (by omega)), fun s f' t' h1 h2 h3 h4 h5 h7 h8 => ?_, fun f' t' h1 h2 h3 h4 => ?_, fun t' h1 h2 => ?_⟩
          · rw [h146s _ (by omega)]; exact w3 s f' t' h1 h2 h3 h4 h5 h7 h8
          · rw [h146s _ (by omega)]; exact w4 f' t' h1 h2 h3 h4
          · by_cases hq : t' = (t : Int)
            · rw [hq, st_ap, if_pos ⟨rfl, rfl⟩]
            · rw [h146s _ (by omega)]; exact w5 t' h1 (by omega)
        · intro fuel3 st3 M5 ⟨w1, w2, w3, w4, w5⟩
          show wp (f_X8_layAll_53 (f_X8_layAll_2 fuel) (f_X8_layAll_30 (f_X8_layAll_2 fuel) fuel2) (fuel3 + 1) (i : Int) (hm (e.1 4 (i : Int))) (f : Int) (vo e (i : Int) (f : Int)) ((5 : Nat) : Int) M5) _
          rw [f_X8_layAll_53.eq_2]
          refine wp_t (by omega) ?_
          rw [w_suc (by omega)]
          refine kk2 () M5 ⟨w1, ⟨(f : Int), by omega, by rw [he1] at w2; exact w2⟩, w3, fun f' t' h1 h2 h3 h4 => ?_⟩
          by_cases hq : f' = (f : Int)
          · rw [hq]; exact w5 t' h3 (by omega)
          · exact w4 f' t' h1 (by omega) h3 h4
      · intro fuel2 st2 M2 ⟨u1, ⟨z, u2, u3⟩, u4, u5⟩
        show wp (f_X8_layAll_30 (f_X8_layAll_2 fuel) (fuel2 + 1) (i : Int) (hm (e.1 4 (i : Int))) ((5 : Nat) : Int) M2) _
        rw [f_X8_layAll_30.eq_2]
        refine wp_t (by omega) (wp_and (by omega) ?_)
        simp only [lt]
        unfold f_X8_layAll_103
        rw [w_suc (by omega)]
        have hL3 := LM_st (s := (i : Int)) (z := e.1 4 (i : Int)) u3 rfl
        rw [ua_ua, ua_self, upA_self] at hL3
        refine kk () _ ⟨fun j a b c => (st_nc a).trans (u1 j a b c), hL3, fun s f t h1 h2 h3 h4 h5 h7 h8 => ?_⟩
        rw [st_nc (by decide)]
        by_cases hs : s = (i : Int)
        · rw [hs]; exact u5 f t h4 (by omega) h7 h8
        · exact u4 s f t h1 (by omega) h3 h4 h5 h7 h8
  · intro fuel st M1 ⟨g1, g2, g3⟩
    show wp (f_X8_layAll_2 (fuel + 1) (N : Int) M1) _
    rw [f_X8_layAll_2.eq_2, g2.1, hN]
    refine wp_t (Int.le_refl _) ?_
    rw [wp_some]
    exact k M1 g1 g2 g3
