/-! the model: one way laid -/
theorem m_layNoise {e : Vw} {N : Nat} {A : Int → Int} {p1 : Int} {M : Mem} {Q : Int → Mem → Prop} (hR : Rg e) (hN : e.1 0 0 = (N : Int)) (hA : RA A) (hAl : ∀ q, A q = -1 ↔ e.1 4 q = -1) (hL : LM (upA e A) M) (hT : Tb (Fh e) (e.1 4) N M)
    (k : ∀ M', (∀ j, j ≠ 143 → M' j = M j) → (∀ h : Int, 0 ≤ h → h < 5 → M' 143 h = nzs (Fh e) A h N) → Q 0 M') : wp (f_X8_layPlaces_45 p1 FU 0 M) Q := by
  have h6 := hR.1
  have hF := Fh_RF hR
  have hRA := upA_r hR hA
  have en : (upA e A).1 0 0 = (N : Int) := hN
  refine wloop0 (St := Unit) (L := fun fuel x st M' => f_X8_layPlaces_45 p1 fuel x M') 5 (Inv := fun i st M' => (∀ j, j ≠ 143 → M' j = M j) ∧ ∀ h : Int, 0 ≤ h → h < i → M' 143 h = nzs (Fh e) A h N) (by omega) ?_ ?_ (st := ()) ⟨fun _ _ => rfl, fun h h1 h2 => by omega⟩
  · intro h fuel st M1 hh ⟨g1, g2⟩ kk
    show wp (f_X8_layPlaces_45 p1 (fuel + 1) (h : Int) M1) _
    rw [f_X8_layPlaces_45.eq_2]
    refine wp_f (by omega) (wp_and (by omega) ?_)
    simp only [lt]
    refine wloop0 (St := Unit) (L := fun fuel2 x st M' => f_X8_layPlaces_60 p1 (f_X8_layPlaces_45 p1 fuel) fuel2 (h : Int) x M') N (Inv := fun s st M' => (∀ j, j ≠ 143 → M' j = M j) ∧ (∀ h' : Int, 0 ≤ h' → h' < h → M' 143 h' = nzs (Fh e) A h' N) ∧ M' 143 (h : Int) = nzs (Fh e) A (h : Int) s) (by omega) ?_ ?_ (st := ()) ⟨fun j hj => (st_nc hj).trans (g1 j hj), fun h' a b => by rw [st_ap, if_neg (by omega)]; exact g2 h' a b, by rw [st_ap, if_pos ⟨rfl, rfl⟩]; rfl⟩
    · intro s fuel2 st2 M2 hs ⟨u1, u2, u3⟩ kk2
      show wp (f_X8_layPlaces_60 p1 (f_X8_layPlaces_45 p1 fuel) (fuel2 + 1) (h : Int) (s : Int) M2) _
      have hL2 : LM (upA e A) M2 := LM_s hL (fun j _ hj => u1 j hj)
      rw [f_X8_layPlaces_60.eq_2, hL2.1, en]
      refine wp_f (by omega) (wp_and (by omega) ?_)
      rw [wp_bind]
      refine m_isLost hRA hL2 (by omega) ?_
      rw [upA_4]
      have fin : ∀ z : Int, 0 ≤ z ∧ z ≤ 1098 → z = (if A (s : Int) = -1 then 0 else Fh e (s : Int) (A (s : Int)) (h : Int)) → wp (f_X8_layPlaces_111 p1 (f_X8_layPlaces_45 p1 fuel) (f_X8_layPlaces_60 p1 (f_X8_layPlaces_45 p1 fuel) fuel2) (h : Int) (s : Int) (h : Int) (M2 143 (h : Int)) z M2) Q := by
        intro z hz1 hz
        unfold f_X8_layPlaces_111
        refine wp_and (by omega) ?_
        simp only [lt]
        have hnr := nz_r hF hA (t := (h : Int)) (by omega) s
        rw [w_suc (by omega), u3, w_id (by omega) (by omega)]
        refine kk2 () _ ⟨fun j hj => (st_nc hj).trans (u1 j hj), fun h' a b => by rw [st_ap, if_neg (by omega)]; exact u2 h' a b, ?_⟩
        rw [st_ap, if_pos ⟨rfl, rfl⟩, hz]
        rfl
      have hAs := hA (s : Int)
      by_cases hl : A (s : Int) = -1
      · rw [if_pos hl]
        refine wp_f one_ne (fin 0 (by omega) ?_)
        rw [if_pos hl]
      · rw [if_neg hl]
        refine wp_t rfl (wp_and (by omega) ?_)
        have h131 : M2 131 (s : Int) = A (s : Int) := by
          have := (hL2.2.2.1 (s : Int) (by omega) (by omega)).2.2.2
          rw [this, upA_4, hm_of hl]
        simp only []
        rw [h131]
        have ei : w32 (w32 (w32 (25 * (s : Int)) + w32 (5 * A (s : Int))) + (h : Int)) = 25 * (s : Int) + 5 * A (s : Int) + (h : Int) := by
          rw [w_id (z := 25 * (s : Int)) (by omega) (by omega), w_id (z := 5 * A (s : Int)) (by omega) (by omega), w_id (z := 25 * (s : Int) + 5 * A (s : Int)) (by omega) (by omega), w_id (by omega) (by omega)]
        rw [ei]
        refine wp_and (by omega) ?_
        have e1 : M2 146 (25 * (s : Int) + 5 * A (s : Int) + (h : Int)) = Fh e (s : Int) (A (s : Int)) (h : Int) := by
          rw [u1 146 (by decide)]
          exact hT (s : Int) (A (s : Int)) (h : Int) (by omega) (by omega) (fun c => hl ((hAl _).2 c)) (by omega) (by omega) (by omega) (by omega)
        rw [e1]
        refine fin _ (hF _ _ _ (by omega) (by omega) (by omega) (by omega)) ?_
        rw [if_neg hl]
    · intro fuel2 st2 M2 ⟨u1, u2, u3⟩
      show wp (f_X8_layPlaces_60 p1 (f_X8_layPlaces_45 p1 fuel) (fuel2 + 1) (h : Int) (N : Int) M2) _
      have hL2 : LM (upA e A) M2 := LM_s hL (fun j _ hj => u1 j hj)
      rw [f_X8_layPlaces_60.eq_2, hL2.1, en]
      refine wp_t (Int.le_refl _) ?_
      rw [w_suc (by omega)]
      refine kk () M2 ⟨u1, fun h' a b => ?_⟩
      by_cases hq : h' = (h : Int)
      · rw [hq]; exact u3
      · exact u2 h' a (by omega)
  · intro fuel st M1 ⟨g1, g2⟩
    show wp (f_X8_layPlaces_45 p1 (fuel + 1) ((5 : Nat) : Int) M1) _
    rw [f_X8_layPlaces_45.eq_2]
    refine wp_t (by omega) ?_
    rw [wp_some]
    exact k M1 g1 (fun h a b => g2 h a (by omega))
theorem m_layPlaces {e : Vw} {N r : Nat} {a0 : Int → Int} {M : Mem} {Q : Int → Mem → Prop} (hR : Rg e) (hN : e.1 0 0 = (N : Int)) (hW : Wy (e.1 4) a0 N) (hr : r < 15626) (hL : LM (upA e a0) M) (hT : Tb (Fh e) (e.1 4) N M)
    (k : ∀ M', (∀ j, j ≠ 131 → j ≠ 143 → M' j = M j) → LM (upA e (Ax (e.1 4) N r)) M' → (∀ h : Int, 0 ≤ h → h < 5 → M' 143 h = nzs (Fh e) (Ax (e.1 4) N r) h N) → Q 0 M') : wp (f_X8_layPlaces (r : Int) M) Q := by
  have h6 := hR.1
  have hl := Rg_RA hR
  have en : (upA e a0).1 0 0 = (N : Int) := hN
  unfold f_X8_layPlaces
  rw [hL.1, en, w_id (by omega) (by omega)]
  have := wloop0 (St := Nat) (L := fun fuel x st M' => f_X8_layPlaces_9 (r : Int) fuel (st : Int) ((N : Int) - 1 - x) M') N (Inv := fun i st M' => (∀ j, j ≠ 131 → M' j = M j) ∧ st = r / Wn (e.1 4) i (N - i) ∧ ∃ a, Wy (e.1 4) a N ∧ LM (upA e a) M' ∧ ∀ q : Nat, N - i ≤ q → q < N → e.1 4 (q : Int) ≠ -1 → a (q : Int) = ((r / Wn (e.1 4) (N - (q + 1)) (q + 1) % 5 : Nat) : Int)) (Q := Q) (by omega) (by
    intro i fuel st M1 hi ⟨g1, g2, a, g3, g4, g5⟩ kk
    show wp (f_X8_layPlaces_9 (r : Int) (fuel + 1) (st : Int) ((N : Int) - 1 - (i : Int)) M1) _
    obtain ⟨s, hs⟩ : ∃ s : Nat, N - i = s + 1 := ⟨N - i - 1, by omega⟩
    have es : (N : Int) - 1 - (i : Int) = (s : Int) := by omega
    have es2 : N - (i + 1) = s := by omega
    have es3 : N - (s + 1) = i := by omega
    have en2 : w32 ((s : Int) + (-1)) = (N : Int) - 1 - ((i + 1 : Nat) : Int) := by rw [w_id (by omega) (by omega)]; omega
    rw [es, f_X8_layPlaces_9.eq_2]
    refine wp_f (by omega) ?_
    rw [wp_bind]
    refine m_isLost (upA_r hR g3.1) g4 (by omega) ?_
    rw [upA_4]
    have hst : st ≤ 15625 := by rw [g2]; exact Nat.le_trans (Nat.div_le_self _ _) (by omega)
    by_cases hq : e.1 4 (s : Int) = -1
    · rw [if_pos ((g3.2 _).2.2 hq)]
      refine wp_f one_ne ?_
      unfold f_X8_layPlaces_37
      rw [en2]
      refine kk st M1 ⟨g1, ?_, a, g3, g4, fun q h1 h2 h3 => ?_⟩
      · rw [es2]
        show st = r / ((if e.1 4 (s : Int) = -1 then 1 else 5) * Wn (e.1 4) i (s + 1))
        rw [if_pos hq, Nat.one_mul, g2, hs]
      · by_cases hqs : q = s
        · rw [hqs] at h3; exact absurd hq h3
        · exact g5 q (by omega) h2 h3
    · rw [if_neg (fun c => hq ((g3.2 _).2.1 c))]
      refine wp_t rfl (wp_and (by omega) ?_)
      simp only [lt]
      have e2 : Int.tmod ((st : Nat) : Int) 5 = ((st % 5 : Nat) : Int) := rfl
      have e3 : w32 (Int.tdiv ((st : Nat) : Int) 5) = ((st / 5 : Nat) : Int) := by
        rw [show Int.tdiv ((st : Nat) : Int) 5 = ((st / 5 : Nat) : Int) from rfl, w_id (by omega) (by omega)]
      rw [e2, e3]
      unfold f_X8_layPlaces_37
      rw [en2]
      refine kk (st / 5) _ ⟨fun j hj => (st_nc hj).trans (g1 j hj), ?_, ua a (s : Int) ((st % 5 : Nat) : Int), ?_, LM_st g4 (hm_of (by omega)).symm, fun q h1 h2 h3 => ?_⟩
      · rw [es2]
        show st / 5 = r / ((if e.1 4 (s : Int) = -1 then 1 else 5) * Wn (e.1 4) i (s + 1))
        rw [if_neg hq, g2, hs, Nat.div_div_eq_div_mul, Nat.mul_comm]
      · refine ⟨ua_r g3.1 (by omega), fun q => ?_⟩
        unfold ua
        by_cases hqs : q = (s : Int)
        · rw [if_pos hqs]
          refine ⟨fun c => absurd ⟨by omega, by omega, by rw [hqs]; exact hq⟩ c, ?_⟩
          rw [hqs]
          exact ⟨fun c => by omega, fun c => absurd c hq⟩
        · rw [if_neg hqs]
          exact g3.2 q
      · unfold ua
        by_cases hqs : q = s
        · rw [if_pos (by omega), hqs, es3, g2, hs]
        · rw [if_neg (by omega)]
          exact g5 q (by omega) h2 h3) (by
    intro fuel st M1 ⟨g1, g2, a, g3, g4, g5⟩
    show wp (f_X8_layPlaces_9 (r : Int) (fuel + 1) (st : Int) ((N : Int) - 1 - (N : Int)) M1) _
    rw [f_X8_layPlaces_9.eq_2]
    refine wp_t (by omega) ?_
    have ha : a = Ax (e.1 4) N r := by
      funext q
      unfold Ax
      by_cases h : 0 ≤ q ∧ q < (N : Int) ∧ e.1 4 q ≠ -1
      · rw [if_pos h]
        obtain ⟨p, rfl⟩ : ∃ p : Nat, q = (p : Int) := ⟨q.toNat, by omega⟩
        rw [Int.toNat_natCast]
        exact g5 p (by omega) (by omega) h.2.2
      · rw [if_neg h]
        exact (g3.2 q).1 h
    rw [ha] at g4
    have hT1 : Tb (Fh e) (e.1 4) N M1 := by
      unfold Tb
      rw [g1 146 (by decide)]
      exact hT
    refine m_layNoise hR hN (Ax_r hl) (fun q => Ax_l) g4 hT1 ?_
    intro M2 u1 u2
    exact k M2 (fun j a b => (u1 j b).trans (g1 j a)) (LM_s g4 (fun j _ hj => u1 j hj)) u2) (st := r) (M := M) ⟨fun _ _ => rfl, by unfold Wn; rw [Nat.div_one], a0, hW, hL, fun q h1 h2 => by omega⟩
  have e0 : (fun fuel x (st : Nat) M' => f_X8_layPlaces_9 (r : Int) fuel (st : Int) ((N : Int) - 1 - x) M') FU 0 r M = f_X8_layPlaces_9 (r : Int) FU (r : Int) ((N : Int) - 1) M := by
    show f_X8_layPlaces_9 (r : Int) FU (r : Int) ((N : Int) - 1 - 0) M = _
    rw [Int.sub_zero]
  rw [← e0]
  exact this
