/-! the model: greatest, still, years, what is saved -/
theorem m_noise {e : Vw} {h : Int} {M : Mem} {Q : Int → Mem → Prop} (hR : Rg e) (hL : LM e M) (hh : 0 ≤ h ∧ h ≤ 4) (k : ∀ M', (∀ j, j ≠ 142 → j ≠ 143 → M' j = M j) → Q (NZ e h) M') : wp (f_X8_noise h M) Q := by
  unfold f_X8_noise
  rw [wp_bind]
  refine m_lay hR hL ?_
  intro M' h1 h2
  refine wp_and (by omega) ?_
  rw [wp_some]
  simp only [h2 h hh.1 (by omega)]
  exact k M' h1
theorem m_greatLaid {f : Int → Int} {M : Mem} {Q : Int → Mem → Prop} (hf : ∀ h : Int, 0 ≤ h → h < 5 → M 143 h = f h) (k : Q (grs f 5) M) : wp (f_X8_greatestLaid M) Q := by
  unfold f_X8_greatestLaid
  refine wloop0 (St := Int) (L := fun fuel x st M' => f_X8_greatestLaid_4 fuel st x M') 5 (Inv := fun i st M' => M' = M ∧ st = grs f i) (Q := Q) (by omega) ?_ ?_ (st := 0) ⟨rfl, rfl⟩
  · intro i fuel st M' hi ⟨h1, h2⟩ kk
    subst h1
    show wp (f_X8_greatestLaid_4 (fuel + 1) st (i : Int) M') Q
    rw [f_X8_greatestLaid_4.eq_2, hf i (by omega) (by omega)]
    refine wp_f (by omega) (wp_and (by omega) ?_)
    unfold f_X8_greatestLaid_29
    rw [w_suc (by omega)]
    have e3 : grs f (i + 1) = max (grs f i) (f (i : Int)) := rfl
    by_cases hq : f (i : Int) ≤ st
    · exact wp_t hq (kk _ M' ⟨rfl, by omega⟩)
    · exact wp_f hq (wp_and (by omega) (kk _ M' ⟨rfl, by omega⟩))
  · intro fuel st M' ⟨h1, h2⟩
    subst h1
    show wp (f_X8_greatestLaid_4 (fuel + 1) st ((5 : Nat) : Int) M') Q
    rw [f_X8_greatestLaid_4.eq_2]
    refine wp_t (by omega) ?_
    rw [wp_some, h2]
    exact k
theorem m_great {e : Vw} {M : Mem} {Q : Int → Mem → Prop} (hR : Rg e) (hL : LM e M) (k : ∀ M', (∀ j, j ≠ 142 → j ≠ 143 → M' j = M j) → Q (grs (NZ e) 5) M') : wp (f_X8_greatest M) Q := by
  unfold f_X8_greatest
  rw [wp_bind]
  refine m_lay hR hL ?_
  intro M' h1 h2
  rw [wp_bind]
  refine m_greatLaid (f := NZ e) h2 ?_
  rw [wp_some]
  exact k M' h1
theorem or_0 {z : Int} (h : i32 z) : or32 z 0 = z := by
  unfold or32
  rw [show Int32.ofInt 0 = 0 from rfl, Int32.or_zero, tI h]
theorem bts_r (f : Int → Bool) : ∀ n : Nat, i32 (bts f n)
  | 0 => by unfold bts; exact i32_0
  | n + 1 => by
    unfold bts
    split
    · exact nT _
    · exact bts_r f n
theorem m_still {e : Vw} {M : Mem} {Q : Int → Mem → Prop} (hR : Rg e) (hL : LM e M) (k : ∀ M', (∀ j, j ≠ 142 → j ≠ 143 → M' j = M j) → Q (bts (fun t => decide (NZ e t ≤ e.2.1 1)) 5) M') : wp (f_X8_stillSet M) Q := by
  unfold f_X8_stillSet
  rw [wp_bind]
  refine m_lay hR hL ?_
  intro M1 h1 h2
  refine wloop0 (St := Int) (L := fun fuel x st M' => f_X8_stillSet_8 fuel st x M') 5 (Inv := fun i st M' => M' = M1 ∧ st = bts (fun t => decide (NZ e t ≤ e.2.1 1)) i) (Q := Q) (by omega) ?_ ?_ (st := 0) ⟨rfl, rfl⟩
  · intro i fuel st M' hi ⟨g1, g2⟩ kk
    subst g1
    have hL' : LM e M' := LM_fr hL (fun j hj => h1 j (by omega) (by omega))
    show wp (f_X8_stillSet_8 (fuel + 1) st (i : Int) M') Q
    rw [f_X8_stillSet_8.eq_2, h2 i (by omega) (by omega)]
    refine wp_f (by omega) (wp_and (by omega) ?_)
    rw [wp_bind]
    refine m_calm hL'.2.2.2.2 ?_
    unfold f_X8_stillSet_34
    simp only []
    rw [w_suc (by omega), g2]
    have e3 : bts (fun t => decide (NZ e t ≤ e.2.1 1)) (i + 1) = if (decide (NZ e (i : Int) ≤ e.2.1 1)) = true then or32 (bts (fun t => decide (NZ e t ≤ e.2.1 1)) i) (shl32 1 (i : Int)) else bts (fun t => decide (NZ e t ≤ e.2.1 1)) i := rfl
    by_cases hq : NZ e (i : Int) ≤ e.2.1 1
    · rw [if_pos (decide_eq_true hq)] at e3
      exact wp_f (by omega) (kk _ M' ⟨rfl, e3.symm⟩)
    · rw [if_neg (by rw [decide_eq_false hq]; decide)] at e3
      refine wp_t (by omega) ?_
      rw [or_0 (bts_r _ i)]
      exact kk _ M' ⟨rfl, e3.symm⟩
  · intro fuel st M' ⟨g1, g2⟩
    subst g1
    show wp (f_X8_stillSet_8 (fuel + 1) st ((5 : Nat) : Int) M') Q
    rw [f_X8_stillSet_8.eq_2]
    refine wp_t (by omega) ?_
    rw [wp_some, g2]
    exact k M' h1
theorem m_wears {e : Vw} {s : Int} {M : Mem} {Q : Int → Mem → Prop} (hR : Rg e) (hL : LM e M) (hs : 0 ≤ s ∧ s < 6) (k : Q (we e s) M) : wp (f_X8_wears s M) Q := by
  obtain ⟨q0, q6, qs, q5, qS⟩ := hL
  have k1 := (qs s hs.1 hs.2).1
  have w00 := hR.2.2.2.1 2
  have t2 := tdiv_r (d := 2) w00.1 (by decide)
  have w1 : ∀ Q' : Int → Mem → Prop, Q' (e.2.1 2) M → wp (f_X8_wear M) Q' := fun Q' h => m_wear qS h
  unfold f_X8_wears
  rw [k1, q6]
  refine wp_and hs ?_
  unfold we at k
  by_cases h1 : e.1 1 s = 1
  · rw [if_pos (Or.inl h1)] at k
    refine wp_t h1 ?_
    rw [wp_bind]
    refine w1 _ ?_
    rw [wp_some]
    show Q (w32 (Int.tdiv (e.2.1 2) 2)) M
    rw [w_id (by omega) (by omega)]
    exact k
  · refine wp_f h1 ?_
    by_cases h4 : e.1 1 s = 4
    · rw [if_pos (Or.inr h4)] at k
      refine wp_t h4 ?_
      rw [wp_bind]
      refine w1 _ ?_
      rw [wp_some]
      show Q (w32 (Int.tdiv (e.2.1 2) 2)) M
      rw [w_id (by omega) (by omega)]
      exact k
    · rw [if_neg (by omega)] at k
      refine wp_f h4 ?_
      by_cases h6 : e.1 1 s = 6
      · rw [if_pos h6] at k
        refine wp_t h6 ?_
        by_cases hy : Int.tmod (e.1 6 0) 2 = 0
        · rw [if_pos hy] at k
          exact wp_t hy (wp_some.mpr k)
        · rw [if_neg hy] at k
          refine wp_f hy ?_
          rw [wp_bind]
          refine w1 _ ?_
          rw [wp_some]
          exact k
      · rw [if_neg h6] at k
        refine wp_f h6 ?_
        rw [wp_bind]
        refine w1 _ ?_
        rw [wp_some]
        exact k
theorem m_year {e : Vw} {M : Mem} {Q : Int → Mem → Prop} (hR : Rg e) (hL : LM e M)
    (k : ∀ M', LM (gy e) M' → (∀ j, j ≠ 127 → j ≠ 130 → M' j = M j) → (∀ q, q ≠ 1 → M' 127 q = M 127 q) → Q 0 M') : wp (f_X8_goYear M) Q := by
  have hn := hR.1
  unfold f_X8_goYear
  refine wloop0 (St := Unit) (L := fun fuel x st M' => f_X8_goYear_2 fuel x M') (e.1 0 0).toNat (Inv := fun i st M' => (∀ j, j ≠ 130 → M' j = M j) ∧ LM (pe e i) M') (Q := Q) (by omega) ?_ ?_ (st := ()) ⟨fun _ _ => rfl, ?_⟩
  · intro i fuel st M' hi ⟨h1, h2⟩ kk
    show wp (f_X8_goYear_2 (fuel + 1) (i : Int) M') Q
    have l0 : M' 127 0 = e.1 0 0 := h2.1
    have l3 : M' 130 (i : Int) = e.1 3 (i : Int) := by
      rw [(h2.2.2.1 i (by omega) (by omega)).2.2.1]
      show (if _ then _ else _) = _
      rw [if_neg (fun c => absurd c.2.2.1 (by omega))]
    have a := hR.2.2.1 (i : Int)
    have b := we_r hR (i : Int)
    rw [f_X8_goYear_2.eq_2, l0]
    refine wp_f (by omega) ?_
    rw [wp_bind]
    refine m_isLost (pe_r hR i) h2 (by omega) ?_
    rw [pe_k (by decide)]
    have fin : ∀ z, z = (pe e (i + 1)).1 3 (i : Int) → wp (f_X8_goYear_48 (f_X8_goYear_2 fuel) (i : Int) (i : Int) z M') Q := by
      intro z hz
      unfold f_X8_goYear_48
      refine wp_and (by omega) ?_
      rw [wp_lt, w_suc (by omega)]
      refine kk () _ ⟨fun j hj => by rw [st_nc hj]; exact h1 j hj, ?_⟩
      obtain ⟨q0, q6, qs, q5, qS⟩ := h2
      refine ⟨by rw [st_nc (by decide)]; exact q0, by rw [st_nc (by decide)]; exact q6, ?_, ?_, ?_⟩
      · intro s s0 s6
        obtain ⟨k1, k2, k3, k4⟩ := qs s s0 s6
        refine ⟨?_, ?_, ?_, ?_⟩
        · rw [st_nc (by decide), k1, pe_k (by decide), pe_k (by decide)]
        · rw [st_nc (by decide), k2, pe_k (by decide), pe_k (by decide)]
        · rw [st_ap]
          by_cases hs : s = (i : Int)
          · subst hs
            rw [if_pos ⟨rfl, rfl⟩]
            exact hz
          · rw [if_neg (fun c => hs c.2), k3]
            show (if _ then _ else _) = (if _ then _ else _)
            by_cases hc : s < (i : Int) ∧ e.1 4 s ≠ -1
            · rw [if_pos ⟨rfl, s0, hc.1, hc.2⟩, if_pos ⟨rfl, s0, by omega, hc.2⟩]
            · rw [if_neg (fun c => hc ⟨c.2.2.1, c.2.2.2⟩), if_neg (fun c => hc ⟨by omega, c.2.2.2⟩)]
        · rw [st_nc (by decide), k4, pe_k (by decide), pe_k (by decide)]
      · intro q q0 q24
        rw [st_nc (by decide), q5 q q0 q24, pe_k (by decide), pe_k (by decide)]
      · rw [st_nc (by decide)]
        exact SM_fr qS (fun j _ _ => st_nc (by omega)) rfl
    by_cases hq : e.1 4 (i : Int) = -1
    · rw [if_pos hq]
      refine wp_f (show ¬ (1 : Int) = 0 by decide) (wp_and (by omega) ?_)
      simp only [l3]
      refine fin _ ?_
      show _ = (if _ then _ else _)
      rw [if_neg (fun c => c.2.2.2 hq)]
    · rw [if_neg hq]
      refine wp_t rfl (wp_and ⟨by omega, by omega⟩ ?_)
      rw [wp_bind]
      refine m_wears (pe_r hR i) h2 ⟨by omega, by omega⟩ ?_
      rw [pe_we, wp_bind]
      simp only [l3]
      rw [w_id (by omega) (by omega)]
      refine m_least ?_
      refine fin _ ?_
      show _ = (if _ then _ else _)
      rw [if_pos ⟨rfl, by omega, by omega, hq⟩]
  · intro fuel st M' ⟨h1, h2⟩
    show wp (f_X8_goYear_2 (fuel + 1) (((e.1 0 0).toNat : Nat) : Int) M') Q
    have l0 : M' 127 0 = e.1 0 0 := h2.1
    have l6 : M' 127 1 = e.1 6 0 := h2.2.1
    have hy := hR.2.1
    rw [f_X8_goYear_2.eq_2, l0]
    refine wp_t (by omega) ?_
    rw [wp_lt, l6, w_id (z := e.1 6 0 + 1) (by omega) (by omega), wp_some]
    have hgy : ∀ (k : Nat) (q : Int), (gy e).1 k q = if k = 6 ∧ q = 0 then e.1 6 0 + 1 else (pe e (e.1 0 0).toNat).1 k q := by
      intro k q
      show (if k = 3 ∧ 0 ≤ q ∧ q < e.1 0 0 ∧ e.1 4 q ≠ -1 then _ else if k = 6 ∧ q = 0 then _ else _) = (if k = 6 ∧ q = 0 then _ else if k = 3 ∧ 0 ≤ q ∧ q < (((e.1 0 0).toNat : Nat) : Int) ∧ e.1 4 q ≠ -1 then _ else _)
      rw [show (((e.1 0 0).toNat : Nat) : Int) = e.1 0 0 by omega]
      by_cases hk : k = 6 ∧ q = 0
      · rw [if_pos hk, if_neg (fun c => by omega), if_pos hk]
      · rw [if_neg hk, if_neg hk]
    refine k _ ?_ (fun j j1 j2 => by rw [st_nc j1]; exact h1 j j2) (fun q hq => by rw [st_ap, if_neg (fun c => hq c.2), h1 127 (by decide)])
    obtain ⟨q0, q6, qs, q5, qS⟩ := h2
    refine ⟨?_, ?_, ?_, ?_, ?_⟩
    · rw [st_ap, if_neg (fun c => absurd c.2 (by decide)), hgy, if_neg (fun c => absurd c.1 (by decide))]; exact q0
    · rw [st_ap, if_pos ⟨rfl, rfl⟩, hgy, if_pos ⟨rfl, rfl⟩]
    · intro s s0 s6
      rw [st_nc (by decide), st_nc (by decide), st_nc (by decide), st_nc (by decide), hgy, hgy, hgy, hgy, if_neg (fun c => absurd c.1 (by decide)), if_neg (fun c => absurd c.1 (by decide)), if_neg (fun c => absurd c.1 (by decide)), if_neg (fun c => absurd c.1 (by decide))]
      exact qs s s0 s6
    · intro s s0 s6
      rw [st_nc (by decide), hgy, if_neg (fun c => absurd c.1 (by decide))]
      exact q5 s s0 s6
    · rw [st_ap, if_neg (fun c => absurd c.2 (by decide))]
      exact SM_fr qS (fun j _ _ => st_nc (by omega)) rfl
  · have : pe e 0 = e := by
      unfold pe
      have : (fun k q => if k = 3 ∧ 0 ≤ q ∧ q < ((0 : Nat) : Int) ∧ e.1 4 q ≠ -1 then max 0 (e.1 3 q - we e q) else e.1 k q) = e.1 := by
        funext k q
        rw [if_neg (fun c => by have := c.2.1; have := c.2.2.1; omega)]
      rw [this]
    rw [this]
    exact hL
theorem m_years {e : Vw} {M : Mem} {Q : Int → Mem → Prop} {n : Nat} (hR : Rg e) (hn : n ≤ 100) (hy : e.1 6 0 + n ≤ 20000) (hL : LM e M)
    (k : ∀ M', LM (gyn e n) M' → (∀ j, j ≠ 127 → j ≠ 130 → M' j = M j) → (∀ q, q ≠ 1 → M' 127 q = M 127 q) → Q 0 M') : wp (f_X8_goYears (n : Int) M) Q := by
  unfold f_X8_goYears
  refine wloop0 (St := Unit) (L := fun fuel x st M' => f_X8_goYears_2 (n : Int) fuel (n : Int) x M') n (Inv := fun i st M' => LM (gyn e i) M' ∧ (∀ j, j ≠ 127 → j ≠ 130 → M' j = M j) ∧ (∀ q, q ≠ 1 → M' 127 q = M 127 q)) (Q := Q) (by omega) ?_ ?_ (st := ()) ⟨hL, fun _ _ _ => rfl, fun _ _ => rfl⟩
  · intro i fuel st M' hi ⟨h1, h2, h3⟩ kk
    show wp (f_X8_goYears_2 (n : Int) (fuel + 1) (n : Int) (i : Int) M') Q
    rw [f_X8_goYears_2.eq_2]
    refine wp_f (by omega) ?_
    rw [wp_bind]
    refine m_year (gyn_r hR i (by omega)) h1 ?_
    intro M2 g1 g2 g3
    simp only []
    rw [w_suc (by omega)]
    exact kk () M2 ⟨g1, fun j a b => (g2 j a b).trans (h2 j a b), fun q hq => (g3 q hq).trans (h3 q hq)⟩
  · intro fuel st M' ⟨h1, h2, h3⟩
    show wp (f_X8_goYears_2 (n : Int) (fuel + 1) (n : Int) (n : Int) M') Q
    rw [f_X8_goYears_2.eq_2]
    refine wp_t (by omega) ?_
    rw [wp_some]
    exact k M' h1 h2 h3
theorem m_save {M : Mem} {Q : Int → Mem → Prop} (k : ∀ M', (∀ j, j ≠ 127 → j ≠ 144 → j ≠ 145 → M' j = M j) → (∀ q, q ≠ 26 → M' 127 q = M 127 q) → M' 127 26 = M 127 1 → (∀ q : Int, 0 ≤ q → q < 6 → M' 144 q = M 130 q ∧ M' 145 q = M 131 q) → Q 0 M') : wp (f_X8_save M) Q := by
  unfold f_X8_save
  rw [wp_lt]
  refine wloop0 (St := Unit) (L := fun fuel x st M' => f_X8_save_10 fuel x M') 6 (Inv := fun i st M' => (∀ j, j ≠ 127 → j ≠ 144 → j ≠ 145 → M' j = M j) ∧ (∀ q, q ≠ 26 → M' 127 q = M 127 q) ∧ M' 127 26 = M 127 1 ∧ (∀ q : Int, 0 ≤ q → q < (i : Int) → M' 144 q = M 130 q ∧ M' 145 q = M 131 q)) (Q := Q) (by omega) ?_ ?_ (st := ()) ⟨fun j a _ _ => st_nc a, fun q hq => by rw [st_ap, if_neg (by omega)], by rw [st_ap, if_pos ⟨rfl, rfl⟩], fun q a b => by omega⟩
  · intro i fuel st M' hi ⟨h1, h2, h3, h4⟩ kk
    show wp (f_X8_save_10 (fuel + 1) (i : Int) M') Q
    rw [f_X8_save_10.eq_2, h1 130 (by decide) (by decide) (by decide)]
    refine wp_f (by omega) (wp_and (by omega) (wp_and (by omega) ?_))
    rw [wp_lt]
    refine wp_and (by omega) (wp_and (by omega) ?_)
    rw [wp_lt, w_suc (by omega), st_nc (show (131 : Int) ≠ 144 by decide), h1 131 (by decide) (by decide) (by decide)]
    refine kk () _ ⟨fun j a b c => by rw [st_nc c, st_nc b]; exact h1 j a b c, fun q hq => by rw [st_nc (by decide), st_nc (by decide)]; exact h2 q hq, by rw [st_nc (by decide), st_nc (by decide)]; exact h3, fun q a b => ?_⟩
    by_cases hq : q = (i : Int)
    · subst hq
      exact ⟨by rw [st_nc (by decide), st_ap, if_pos ⟨rfl, rfl⟩], by rw [st_ap, if_pos ⟨rfl, rfl⟩]⟩
    · exact ⟨by rw [st_nc (by decide), st_ap, if_neg (by omega)]; exact (h4 q a (by omega)).1, by rw [st_ap, if_neg (by omega), st_nc (by decide)]; exact (h4 q a (by omega)).2⟩
  · intro fuel st M' ⟨h1, h2, h3, h4⟩
    show wp (f_X8_save_10 (fuel + 1) ((6 : Nat) : Int) M') Q
    rw [f_X8_save_10.eq_2]
    refine wp_t (by omega) ?_
    rw [wp_some]
    exact k M' h1 h2 h3 h4
theorem m_putB {M : Mem} {Q : Int → Mem → Prop} (k : ∀ M', (∀ j, j ≠ 127 → j ≠ 130 → j ≠ 131 → M' j = M j) → (∀ q, q ≠ 1 → M' 127 q = M 127 q) → M' 127 1 = M 127 26 → (∀ q : Int, 0 ≤ q → q < 6 → M' 130 q = M 144 q ∧ M' 131 q = M 145 q) → Q 0 M') : wp (f_X8_putBack M) Q := by
  unfold f_X8_putBack
  rw [wp_lt]
  refine wloop0 (St := Unit) (L := fun fuel x st M' => f_X8_putBack_10 fuel x M') 6 (Inv := fun i st M' => (∀ j, j ≠ 127 → j ≠ 130 → j ≠ 131 → M' j = M j) ∧ (∀ q, q ≠ 1 → M' 127 q = M 127 q) ∧ M' 127 1 = M 127 26 ∧ (∀ q : Int, 0 ≤ q → q < (i : Int) → M' 130 q = M 144 q ∧ M' 131 q = M 145 q)) (Q := Q) (by omega) ?_ ?_ (st := ()) ⟨fun j a _ _ => st_nc a, fun q hq => by rw [st_ap, if_neg (by omega)], by rw [st_ap, if_pos ⟨rfl, rfl⟩], fun q a b => by omega⟩
  · intro i fuel st M' hi ⟨h1, h2, h3, h4⟩ kk
    show wp (f_X8_putBack_10 (fuel + 1) (i : Int) M') Q
    rw [f_X8_putBack_10.eq_2, h1 144 (by decide) (by decide) (by decide)]
    refine wp_f (by omega) (wp_and (by omega) (wp_and (by omega) ?_))
    rw [wp_lt]
    refine wp_and (by omega) (wp_and (by omega) ?_)
    rw [wp_lt, w_suc (by omega), st_nc (show (145 : Int) ≠ 130 by decide), h1 145 (by decide) (by decide) (by decide)]
    refine kk () _ ⟨fun j a b c => by rw [st_nc c, st_nc b]; exact h1 j a b c, fun q hq => by rw [st_nc (by decide), st_nc (by decide)]; exact h2 q hq, by rw [st_nc (by decide), st_nc (by decide)]; exact h3, fun q a b => ?_⟩
    by_cases hq : q = (i : Int)
    · subst hq
      exact ⟨by rw [st_nc (by decide), st_ap, if_pos ⟨rfl, rfl⟩], by rw [st_ap, if_pos ⟨rfl, rfl⟩]⟩
    · exact ⟨by rw [st_nc (by decide), st_ap, if_neg (by omega)]; exact (h4 q a (by omega)).1, by rw [st_ap, if_neg (by omega), st_nc (by decide)]; exact (h4 q a (by omega)).2⟩
  · intro fuel st M' ⟨h1, h2, h3, h4⟩
    show wp (f_X8_putBack_10 (fuel + 1) ((6 : Nat) : Int) M') Q
    rw [f_X8_putBack_10.eq_2]
    refine wp_t (by omega) ?_
    rw [wp_some]
    exact k M' h1 h2 h3 h4
/-- what asking may leave behind in the model -/
def MF (M M' : Mem) : Prop := (∀ j : Int, j ≠ 127 → j ≠ 129 → j ≠ 130 → j ≠ 131 → (j < 142 ∨ 147 < j) → M' j = M j) ∧ ∀ q : Int, q ≠ 1 → q ≠ 26 → q ≠ 31 → q ≠ 32 → M' 127 q = M 127 q
theorem MF_rfl (M : Mem) : MF M M := ⟨fun _ _ _ _ _ _ => rfl, fun _ _ _ _ _ => rfl⟩
theorem MF_tr {M M1 M2 : Mem} (h : MF M M1) (g : MF M1 M2) : MF M M2 := ⟨fun j a b c d e => (g.1 j a b c d e).trans (h.1 j a b c d e), fun q a b c d => (g.2 q a b c d).trans (h.2 q a b c d)⟩
theorem MF_s {M M' : Mem} (h : ∀ j, j ≠ 142 → j ≠ 143 → M' j = M j) : MF M M' := ⟨fun j _ _ _ _ e => h j (by omega) (by omega), fun q _ _ _ _ => by rw [h 127 (by decide) (by decide)]⟩
theorem LM_s {e : Vw} {M M' : Mem} (hL : LM e M) (h : ∀ j, j ≠ 142 → j ≠ 143 → M' j = M j) : LM e M' := LM_fr hL (fun j hj => h j (by omega) (by omega))
/-- saved, changed, put back -/
theorem m_back {e : Vw} {M M1 M2 M3 : Mem} (hL : LM e M) (a1 : ∀ j, j ≠ 127 → j ≠ 144 → j ≠ 145 → M1 j = M j) (a2 : ∀ q, q ≠ 26 → M1 127 q = M 127 q) (a3 : M1 127 26 = M 127 1) (a4 : ∀ q : Int, 0 ≤ q → q < 6 → M1 144 q = M 130 q ∧ M1 145 q = M 131 q)
    (b1 : ∀ j : Int, j ≠ 127 → j ≠ 130 → j ≠ 131 → j ≠ 142 → j ≠ 143 → M2 j = M1 j) (b2 : ∀ q : Int, q ≠ 1 → M2 127 q = M1 127 q)
    (c1 : ∀ j, j ≠ 127 → j ≠ 130 → j ≠ 131 → M3 j = M2 j) (c2 : ∀ q, q ≠ 1 → M3 127 q = M2 127 q) (c3 : M3 127 1 = M2 127 26) (c4 : ∀ q : Int, 0 ≤ q → q < 6 → M3 130 q = M2 144 q ∧ M3 131 q = M2 145 q) : MF M M3 ∧ LM e M3 := by
  have hMF : MF M M3 := ⟨fun j x1 x2 x3 x4 x5 => by rw [c1 j x1 x3 x4, b1 j x1 x3 x4 (by omega) (by omega), a1 j x1 (by omega) (by omega)], fun q x1 x2 x3 x4 => by rw [c2 q x1, b2 q x1, a2 q x2]⟩
  refine ⟨hMF, ?_⟩
  obtain ⟨q0, q6, qs, q5, qS⟩ := hL
  have e7 : ∀ q, q ≠ 1 → q ≠ 26 → M3 127 q = M 127 q := fun q x1 x2 => by rw [c2 q x1, b2 q x1, a2 q x2]
  have ej : ∀ j : Int, j ≠ 127 → j ≠ 130 → j ≠ 131 → j < 142 → M3 j = M j := fun j x1 x2 x3 x4 => by rw [c1 j x1 x2 x3, b1 j x1 x2 x3 (by omega) (by omega), a1 j x1 (by omega) (by omega)]
  refine ⟨by rw [e7 0 (by decide) (by decide)]; exact q0, by rw [c3, b2 26 (by decide), a3]; exact q6, ?_, ?_, ?_⟩
  · intro s s0 s6
    obtain ⟨k1, k2, k3, k4⟩ := qs s s0 s6
    rw [ej 128 (by decide) (by decide) (by decide) (by decide), ej 129 (by decide) (by decide) (by decide) (by decide)]
    refine ⟨k1, k2, ?_, ?_⟩
    · rw [(c4 s s0 s6).1, b1 144 (by decide) (by decide) (by decide) (by decide) (by decide), (a4 s s0 s6).1]; exact k3
    · rw [(c4 s s0 s6).2, b1 145 (by decide) (by decide) (by decide) (by decide) (by decide), (a4 s s0 s6).2]; exact k4
  · rw [ej 132 (by decide) (by decide) (by decide) (by decide)]; exact q5
  · rw [e7 8 (by decide) (by decide)]
    exact SM_fr qS (fun j x y => ej j (by omega) (by omega) (by omega) (by omega)) rfl
/-- saving alone changes nothing that is heard -/
theorem m_saved {e : Vw} {M M1 : Mem} (hL : LM e M) (a1 : ∀ j, j ≠ 127 → j ≠ 144 → j ≠ 145 → M1 j = M j) (a2 : ∀ q, q ≠ 26 → M1 127 q = M 127 q) : LM e M1 := by
  obtain ⟨q0, q6, qs, q5, qS⟩ := hL
  refine ⟨by rw [a2 0 (by decide)]; exact q0, by rw [a2 1 (by decide)]; exact q6, by rw [a1 128 (by decide) (by decide) (by decide), a1 129 (by decide) (by decide) (by decide), a1 130 (by decide) (by decide) (by decide), a1 131 (by decide) (by decide) (by decide)]; exact qs, by rw [a1 132 (by decide) (by decide) (by decide)]; exact q5, ?_⟩
  rw [a2 8 (by decide)]
  exact SM_fr qS (fun j x y => a1 j (by omega) (by omega) (by omega)) rfl
