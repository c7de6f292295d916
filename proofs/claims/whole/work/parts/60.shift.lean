/-! both: shifting, judging -/
theorem c_hasPs {o i n z : Int} {M : Mem} {Q : Int → Mem → Prop} (hz : M o 1 = z) (hz6 : 0 ≤ z ∧ z ≤ 60) (hn : i32 n) (k : Q (if 0 ≤ n ∧ 0 ≤ i ∧ i ≤ z - n then 1 else 0) M) : wp (f_X4_hasPlaces o i n M) Q := by
  unfold i32 at hn
  unfold f_X4_hasPlaces
  rw [hz]
  by_cases h0 : n < 0
  · rw [if_neg (by omega)] at k
    refine wp_t h0 ?_
    rw [wp_some]
    exact k
  refine wp_f h0 ?_
  by_cases h1 : i < 0
  · rw [if_neg (by omega)] at k
    refine wp_t h1 ?_
    rw [wp_some]
    exact k
  refine wp_f h1 ?_
  by_cases h2 : z < n
  · rw [if_neg (by omega)] at k
    refine wp_t h2 ?_
    rw [wp_some]
    exact k
  refine wp_f h2 ?_
  rw [w_id (by omega) (by omega)]
  by_cases h3 : z - n < i
  · rw [if_neg (by omega)] at k
    refine wp_t h3 ?_
    rw [wp_some]
    exact k
  · rw [if_pos (by omega)] at k
    refine wp_f h3 ?_
    rw [wp_some]
    exact k
theorem o_shift {t i o j n : Int} {M : Mem} (hn : i32 n) (hr : Rel M) : OP (f_X7_shift t i o j n) (f_X8_shift t i o j n) M := by
  obtain ⟨e, h⟩ := hr
  have h9 := h.2.2.2.2.2.2.2.2
  have hn' := hn
  unfold i32 at hn'
  unfold OP f_X7_shift
  rw [wp_bind]
  refine c_isT ?_
  by_cases ht : 0 ≤ t ∧ t ≤ 5
  · rw [if_pos ht]
    refine wp_f one_ne ?_
    rw [wp_bind]
    refine c_isT ?_
    by_cases ho : 0 ≤ o ∧ o ≤ 5
    · rw [if_pos ho]
      obtain ⟨a1, a2, a3, a4, a5, a6⟩ := h9 t (by omega) (by omega)
      obtain ⟨b1, b2, b3, b4, b5, b6⟩ := h9 o (by omega) (by omega)
      refine wp_f one_ne (wp_and (by omega) (wp_and (by omega) ?_))
      simp only []
      have mm : ∀ (M1 : Mem) (Q : Int → Mem → Prop), (∀ q, M1 168 q = M 168 q) → (∀ q, M1 169 q = M 169 q) → (M 168 t = -1 ∨ M 168 o = -1 → Q (-11) M1) → (M 168 t ≠ -1 → M 168 o ≠ -1 → M 168 t ≠ M 168 o → Q (-12) M1) → (M 168 t ≠ -1 → M 168 o ≠ -1 → M 168 t = M 168 o → ¬ (0 ≤ n ∧ 0 ≤ i ∧ 0 ≤ j ∧ i ≤ M 169 t - n ∧ j ≤ M 169 o - n) → Q (-13) M1) → (M 168 t ≠ -1 → M 168 o ≠ -1 → M 168 t = M 168 o → 0 ≤ n ∧ 0 ≤ i ∧ 0 ≤ j ∧ i ≤ M 169 t - n ∧ j ≤ M 169 o - n → ∀ M', (∀ a : Int, a ≠ 170 → a ≠ 171 → M' a = M1 a) → (∀ q : Int, M' 170 q = if 60 * o + j ≤ q ∧ q < 60 * o + j + n then M1 170 (60 * t + i + (q - (60 * o + j))) else M1 170 q) → Q n M') → wp (f_X8_shift t i o j n M1) Q := by
        intro M1 Q e1 e2 k1 k2 k3 k4
        unfold f_X8_shift
        rw [wp_bind]
        refine m_isT ?_
        rw [if_pos ht]
        refine wp_f one_ne ?_
        rw [wp_bind]
        refine m_isT ?_
        rw [if_pos ho]
        refine wp_f one_ne (wp_and (by omega) ?_)
        simp only []
        rw [e1 t, e1 o, e2 t, e2 o]
        by_cases hs : M 168 t = -1
        · refine wp_t (by omega) ?_
          rw [wp_some]
          exact k1 (Or.inl hs)
        refine wp_f (by omega) (wp_and (by omega) ?_)
        by_cases hs2 : M 168 o = -1
        · refine wp_f (by omega) ?_
          rw [wp_some]
          exact k1 (Or.inr hs2)
        refine wp_t (by omega) (wp_and (by omega) (wp_and (by omega) ?_))
        by_cases hs3 : M 168 t = M 168 o
        · refine wp_t hs3 ?_
          have k3 := k3 hs hs2 hs3
          by_cases c1 : n < 0
          · refine wp_t c1 ?_
            rw [wp_some]
            exact k3 (by omega)
          refine wp_f c1 ?_
          by_cases c2 : i < 0
          · refine wp_t c2 ?_
            rw [wp_some]
            exact k3 (by omega)
          refine wp_f c2 ?_
          by_cases c3 : j < 0
          · refine wp_t c3 ?_
            rw [wp_some]
            exact k3 (by omega)
          refine wp_f c3 (wp_and (by omega) ?_)
          rw [w_id (z := M 169 t - n) (by omega) (by omega), w_id (z := M 169 o - n) (by omega) (by omega)]
          by_cases c4 : M 169 t - n < i
          · refine wp_t c4 ?_
            rw [wp_some]
            exact k3 (by omega)
          refine wp_f c4 (wp_and (by omega) ?_)
          by_cases c5 : j ≤ M 169 o - n
          · refine wp_t c5 ?_
            have k4 := k4 hs hs2 hs3 ⟨by omega, by omega, by omega, by omega, c5⟩
            obtain ⟨N, rfl⟩ : ∃ N : Nat, n = (N : Int) := ⟨n.toNat, by omega⟩
            refine wloop0 (St := Unit) (L := fun fuel x st M' => f_X8_shift_104 t i o j (N : Int) fuel t i o j (N : Int) x M') N (Inv := fun c st M' => (∀ a : Int, a ≠ 171 → M' a = M1 a) ∧ ∀ q : Int, 0 ≤ q → q < c → M' 171 q = M1 170 (60 * t + i + q)) (by omega) ?_ ?_ (st := ()) ⟨fun _ _ => rfl, fun q x y => by omega⟩
            · intro c fuel st M2 hc ⟨g1, g2⟩ kk
              show wp (f_X8_shift_104 t i o j (N : Int) (fuel + 1) t i o j (N : Int) (c : Int) M2) _
              rw [f_X8_shift_104.eq_2, w_id (z := 60 * t) (by omega) (by omega), w_id (z := 60 * t + i) (by omega) (by omega), w_id (z := 60 * t + i + (c : Int)) (by omega) (by omega)]
              refine wp_f (by omega) (wp_and (by omega) (wp_and (by omega) ?_))
              rw [wp_lt, w_suc (by omega)]
              refine kk () _ ⟨fun a ha => (st_nc ha).trans (g1 a ha), fun q x y => ?_⟩
              rw [st_ap]
              by_cases hq : q = (c : Int)
              · rw [if_pos ⟨rfl, hq⟩, g1 170 (by decide), hq]
              · rw [if_neg (fun z => hq z.2)]
                exact g2 q x (by omega)
            · intro fuel st M2 ⟨g1, g2⟩
              show wp (f_X8_shift_104 t i o j (N : Int) (fuel + 1) t i o j (N : Int) (N : Int) M2) _
              rw [f_X8_shift_104.eq_2]
              refine wp_t (Int.le_refl _) ?_
              refine wloop0 (St := Unit) (L := fun fuel x st M' => f_X8_shift_141 t i o j (N : Int) fuel o j (N : Int) x M') N (Inv := fun c st M' => (∀ a : Int, a ≠ 170 → M' a = M2 a) ∧ ∀ q : Int, M' 170 q = if 60 * o + j ≤ q ∧ q < 60 * o + j + c then M1 170 (60 * t + i + (q - (60 * o + j))) else M1 170 q) (by omega) ?_ ?_ (st := ()) ⟨fun _ _ => rfl, fun q => by rw [if_neg (by omega), g1 170 (by decide)]⟩
              · intro c fuel st M3 hc ⟨v1, v2⟩ kk
                show wp (f_X8_shift_141 t i o j (N : Int) (fuel + 1) o j (N : Int) (c : Int) M3) _
                rw [f_X8_shift_141.eq_2, w_id (z := 60 * o) (by omega) (by omega), w_id (z := 60 * o + j) (by omega) (by omega), w_id (z := 60 * o + j + (c : Int)) (by omega) (by omega)]
                refine wp_f (by omega) (wp_and (by omega) (wp_and (by omega) ?_))
                rw [wp_lt, w_suc (by omega)]
                refine kk () _ ⟨fun a ha => (st_nc ha).trans (v1 a ha), fun q => ?_⟩
                rw [st_ap]
                by_cases hq : q = 60 * o + j + (c : Int)
                · rw [if_pos ⟨rfl, hq⟩, v1 171 (by decide), g2 (c : Int) (by omega) (by omega), if_pos (by omega), hq]
                  congr 1
                  omega
                · rw [if_neg (fun z => hq z.2), v2]
                  by_cases hq2 : 60 * o + j ≤ q ∧ q < 60 * o + j + (c : Int)
                  · rw [if_pos hq2, if_pos (by omega)]
                  · rw [if_neg hq2, if_neg (by omega)]
              · intro fuel st M3 ⟨v1, v2⟩
                show wp (f_X8_shift_141 t i o j (N : Int) (fuel + 1) o j (N : Int) (N : Int) M3) _
                rw [f_X8_shift_141.eq_2]
                refine wp_t (Int.le_refl _) ?_
                rw [wp_some]
                exact k4 M3 (fun a x y => (v1 a x).trans (g1 a y)) v2
          · refine wp_f c5 ?_
            rw [wp_some]
            exact k3 (by omega)
        · refine wp_f hs3 ?_
          rw [wp_some]
          exact k2 hs hs2 hs3
      by_cases hs : M 168 t = -1
      · refine wp_t (a1.trans hs) ?_
        rw [wp_some]
        exact mm M _ (fun _ => rfl) (fun _ => rfl) (fun _ => ⟨rfl, e, h⟩) (fun c => absurd hs c) (fun c => absurd hs c) (fun c => absurd hs c)
      refine wp_f (fun c => hs (a1.symm.trans c)) ?_
      by_cases hs2 : M 168 o = -1
      · refine wp_t (b1.trans hs2) ?_
        rw [wp_some]
        exact mm M _ (fun _ => rfl) (fun _ => rfl) (fun _ => ⟨rfl, e, h⟩) (fun _ c => absurd hs2 c) (fun _ c => absurd hs2 c) (fun _ c => absurd hs2 c)
      refine wp_f (fun c => hs2 (b1.symm.trans c)) ?_
      have nn : ¬ (M 168 t = -1 ∨ M 168 o = -1) := fun c => by
        rcases c with c | c
        · exact hs c
        · exact hs2 c
      by_cases hs3 : M 168 t = M 168 o
      · refine wp_t (a1.trans (hs3.trans b1.symm)) ?_
        rw [wp_bind]
        refine c_hasPs a3 a4 hn ?_
        by_cases p1 : 0 ≤ n ∧ 0 ≤ i ∧ i ≤ M 169 t - n
        · rw [if_pos p1]
          refine wp_f one_ne ?_
          rw [wp_bind]
          refine c_hasPs b3 b4 hn ?_
          by_cases p2 : 0 ≤ n ∧ 0 ≤ j ∧ j ≤ M 169 o - n
          · rw [if_pos p2]
            refine wp_f one_ne (wp_and (by omega) ?_)
            rw [wp_lt, wp_some]
            generalize hA : cpM M (115 + 2 * t + 1) (115 + 2 * o + 1) i j n = A
            have ha : ∀ a q : Int, A a q = if a = 115 + 2 * o + 1 ∧ j ≤ q ∧ q < j + n then M (115 + 2 * t + 1) (i + (q - j)) else M a q := by
              intro a q
              rw [← hA, cp_ap2]
            have hA1 : ∀ a : Int, a ≠ 115 + 2 * o + 1 → A a = M a := fun a hh => by rw [← hA, cp_nc hh]
            show wp (f_X8_shift t i o j n A) _
            refine mm A _ (fun q => by rw [hA1 168 (by omega)]) (fun q => by rw [hA1 169 (by omega)]) (fun c => absurd c nn) (fun _ _ c => absurd hs3 c) (fun _ _ _ c => absurd ⟨p1.1, p1.2.1, p2.2.1, p1.2.2, p2.2.2⟩ c) ?_
            intro _ _ _ _ M2 u1 u2
            refine ⟨rfl, e, Rl_9 h ?_ ?_⟩
            · intro t' t0 t6
              have b := h9 t' t0 t6
              have w1 : ∀ q, M2 (115 + 2 * t') q = M (115 + 2 * t') q := fun q => by rw [u1 _ (by omega) (by omega), hA1 _ (by omega)]
              have w2 : M2 168 t' = M 168 t' := by rw [u1 _ (by omega) (by omega), hA1 _ (by omega)]
              have w3 : M2 169 t' = M 169 t' := by rw [u1 _ (by omega) (by omega), hA1 _ (by omega)]
              rw [w1, w1, w2, w3]
              refine ⟨b.1, b.2.1, b.2.2.1, b.2.2.2.1, b.2.2.2.2.1, fun q q0 q6 => ?_⟩
              have bq := b.2.2.2.2.2 q q0 q6
              rw [u1 _ (by omega) (by omega), ha, u2, hA1 170 (by omega)]
              by_cases hq : t' = o ∧ j ≤ q ∧ q < j + n
              · rw [if_pos (by omega), if_pos (by omega)]
                have := a6 (i + (q - j)) (by omega) (by omega)
                rw [show (115 + 2 * t + 1 : Int) = 116 + 2 * t by omega, this]
                congr 1
                omega
              · rw [if_neg (by omega), if_neg (by omega)]
                exact bq
            · intro a q c1 c2
              rw [u1 a (by omega) (by omega), hA1 a (by omega)]
          · rw [if_neg p2]
            refine wp_t rfl ?_
            rw [wp_some]
            exact mm M _ (fun _ => rfl) (fun _ => rfl) (fun c => absurd c nn) (fun _ _ c => absurd hs3 c) (fun _ _ _ _ => ⟨rfl, e, h⟩) (fun _ _ _ c => by omega)
        · rw [if_neg p1]
          refine wp_t rfl ?_
          rw [wp_some]
          exact mm M _ (fun _ => rfl) (fun _ => rfl) (fun c => absurd c nn) (fun _ _ c => absurd hs3 c) (fun _ _ _ _ => ⟨rfl, e, h⟩) (fun _ _ _ c => by omega)
      · refine wp_f (fun c => hs3 (a1.symm.trans (c.trans b1))) ?_
        rw [wp_some]
        exact mm M _ (fun _ => rfl) (fun _ => rfl) (fun c => absurd c nn) (fun _ _ _ => ⟨rfl, e, h⟩) (fun _ _ c => absurd c hs3) (fun _ _ c => absurd c hs3)
    · rw [if_neg ho]
      refine wp_t rfl ?_
      rw [wp_some]
      show wp (f_X8_shift t i o j n M) _
      unfold f_X8_shift
      rw [wp_bind]
      refine m_isT ?_
      rw [if_pos ht]
      refine wp_f one_ne ?_
      rw [wp_bind]
      refine m_isT ?_
      rw [if_neg ho]
      refine wp_t rfl ?_
      rw [wp_some]
      exact ⟨rfl, e, h⟩
  · rw [if_neg ht]
    refine wp_t rfl ?_
    rw [wp_some]
    show wp (f_X8_shift t i o j n M) _
    unfold f_X8_shift
    rw [wp_bind]
    refine m_isT ?_
    rw [if_neg ht]
    refine wp_t rfl ?_
    rw [wp_some]
    exact ⟨rfl, e, h⟩
/-- what judging answers -/
def jg (p d : Int → Bool) : Nat → Int → Int
  | 0, _ => -5
  | m + 1, s => if p s = true then 100 + s else if d s = true then jg p d m (s + 1) else s
theorem cmp_0 {a b : Int} : cmp64 a b = 0 ↔ a = b := by
  unfold cmp64
  split
  · constructor
    · intro c; omega
    · intro c; omega
  · split
    · constructor
      · intro _; assumption
      · intro _; rfl
    · constructor
      · intro c; omega
      · intro c; omega
theorem o_judge {t i : Int} {M : Mem} (hi : i32 i) (hr : Rel M) : OP (f_X7_judge t i) (f_X8_judge t i) M := by
  obtain ⟨e, h⟩ := hr
  obtain ⟨hR, hy, hC, hM, hz, h7⟩ := h.1
  have h6 := hR.1
  have h9 := h.2.2.2.2.2.2.2.2
  unfold i32 at hi
  obtain ⟨N, hN⟩ : ∃ N : Nat, e.1 0 0 = (N : Int) := ⟨(e.1 0 0).toNat, by omega⟩
  unfold OP f_X7_judge
  rw [wp_bind]
  refine c_isT ?_
  by_cases ht : 0 ≤ t ∧ t ≤ 5
  · rw [if_pos ht]
    obtain ⟨a1, a2, a3, a4, a5, a6⟩ := h9 t (by omega) (by omega)
    refine wp_f one_ne (wp_and (by omega) ?_)
    simp only []
    generalize hp : (fun s : Int => decide (M 168 t < 0 ∨ i < 0 ∨ ¬ i < M 169 t - s)) = p
    generalize hd : (fun s : Int => decide (M 170 (60 * t + i + s) = M 130 s)) = d
    have hps : ∀ s : Int, p s = true ↔ (M 168 t < 0 ∨ i < 0 ∨ ¬ i < M 169 t - s) := fun s => by rw [← hp]; exact decide_eq_true_iff
    have hds : ∀ s : Int, d s = true ↔ M 170 (60 * t + i + s) = M 130 s := fun s => by rw [← hd]; exact decide_eq_true_iff
    have mm : M 168 t ≤ 0 → wp (f_X8_judge t i M) (fun v' M2 => jg p d N 0 = v' ∧ Rel M2) := by
      intro hs
      unfold f_X8_judge
      rw [wp_bind]
      refine m_isT ?_
      rw [if_pos ht]
      refine wp_f one_ne (wp_and (by omega) (wp_t hs ?_))
      generalize hT : jg p d N 0 = T
      refine wloop0 (St := Unit) (L := fun fuel x st M' => f_X8_judge_24 t i fuel t i x M') N (Inv := fun s st M' => M' = M ∧ jg p d (N - s) s = T) (by omega) ?_ ?_ (st := ()) ⟨rfl, hT⟩
      · intro s fuel st M1 hsn ⟨g1, g2⟩ kk
        subst g1
        show wp (f_X8_judge_24 t i (fuel + 1) t i (s : Int) M1) _
        rw [show N - s = (N - (s + 1)) + 1 by omega] at g2
        unfold jg at g2
        rw [f_X8_judge_24.eq_2, hM.1, hN]
        refine wp_f (by omega) (wp_and (by omega) ?_)
        rw [w_id (z := M1 169 t - (s : Int)) (by omega) (by omega), w_id (z := M1 169 t - (s : Int) - 1) (by omega) (by omega), w_id (z := 100 + (s : Int)) (by omega) (by omega)]
        have hp1 := hps (s : Int)
        by_cases c1 : M1 168 t < 0
        · rw [if_pos (hp1.2 (Or.inl c1))] at g2
          refine wp_t c1 ?_
          rw [wp_some]
          exact ⟨g2.symm, e, h⟩
        refine wp_f c1 ?_
        by_cases c2 : i < 0
        · rw [if_pos (hp1.2 (Or.inr (Or.inl c2)))] at g2
          refine wp_t c2 ?_
          rw [wp_some]
          exact ⟨g2.symm, e, h⟩
        refine wp_f c2 (wp_and (by omega) ?_)
        by_cases c3 : i < M1 169 t - (s : Int)
        · have hpn : ¬ p (s : Int) = true := fun c => by
            rcases hp1.1 c with c | c | c
            · exact c1 c
            · exact c2 c
            · exact c c3
          rw [if_neg hpn] at g2
          refine wp_t (by omega) ?_
          rw [w_id (z := 60 * t) (by omega) (by omega), w_id (z := 60 * t + i) (by omega) (by omega), w_id (z := 60 * t + i + (s : Int)) (by omega) (by omega)]
          refine wp_and (by omega) (wp_and (by omega) ?_)
          have hd1 := hds (s : Int)
          by_cases c4 : M1 170 (60 * t + i + (s : Int)) = M1 130 (s : Int)
          · rw [if_pos (hd1.2 c4)] at g2
            refine wp_t (cmp_0.2 c4) ?_
            rw [w_suc (by omega)]
            refine kk () M1 ⟨rfl, ?_⟩
            rw [show ((s + 1 : Nat) : Int) = (s : Int) + 1 by omega]
            exact g2
          · rw [if_neg (fun c => c4 (hd1.1 c))] at g2
            refine wp_f (fun c => c4 (cmp_0.1 c)) ?_
            rw [wp_some]
            exact ⟨g2.symm, e, h⟩
        · rw [if_pos (hp1.2 (Or.inr (Or.inr c3)))] at g2
          refine wp_f (by omega) ?_
          rw [wp_some]
          exact ⟨g2.symm, e, h⟩
      · intro fuel st M1 ⟨g1, g2⟩
        subst g1
        show wp (f_X8_judge_24 t i (fuel + 1) t i (N : Int) M1) _
        rw [f_X8_judge_24.eq_2, hM.1, hN]
        refine wp_t (Int.le_refl _) ?_
        rw [wp_some]
        rw [Nat.sub_self] at g2
        exact ⟨g2.symm, e, h⟩
    have cc : M 168 t ≤ 0 → wp (f_X7_judge_34 t i i (115 + 2 * t) M) (fun v M1 => wp (f_X8_judge t i M1) (fun v' M2 => v = v' ∧ Rel M2)) := by
      intro hs
      unfold f_X7_judge_34
      have mm := mm hs
      generalize hT : jg p d N 0 = T at mm
      refine wloop0 (St := Unit) (L := fun fuel x st M' => f_X7_judge_37 t i fuel i (115 + 2 * t) x M') N (Inv := fun s st M' => M' = M ∧ jg p d (N - s) s = T) (by omega) ?_ ?_ (st := ()) ⟨rfl, hT⟩
      · intro s fuel st M1 hsn ⟨g1, g2⟩ kk
        subst g1
        show wp (f_X7_judge_37 t i (fuel + 1) i (115 + 2 * t) (s : Int) M1) _
        rw [show N - s = (N - (s + 1)) + 1 by omega] at g2
        unfold jg at g2
        have e0 : M1 22 0 = (N : Int) := hC.1.trans hN
        rw [f_X7_judge_37.eq_2, e0, a3]
        refine wp_f (by omega) ?_
        rw [w_id (z := M1 169 t - (s : Int)) (by omega) (by omega), w_id (z := 100 + (s : Int)) (by omega) (by omega)]
        have hp1 := hps (s : Int)
        by_cases c2 : i < 0
        · rw [if_pos (hp1.2 (Or.inr (Or.inl c2)))] at g2
          refine wp_t c2 ?_
          rw [wp_some, g2]
          exact mm
        refine wp_f c2 ?_
        by_cases c3 : i < M1 169 t - (s : Int)
        · have c1 : ¬ M1 168 t < 0 := fun c => by
            have := a5 (by omega)
            omega
          have hpn : ¬ p (s : Int) = true := fun c => by
            rcases hp1.1 c with c | c | c
            · exact c1 c
            · exact c2 c
            · exact c c3
          rw [if_neg hpn] at g2
          refine wp_t c3 ?_
          rw [w_id (z := i + (s : Int)) (by omega) (by omega)]
          refine wp_and (by omega) (wp_and (by omega) ?_)
          have hd1 := hds (s : Int)
          have e1 : M1 (115 + 2 * t + 1) (i + (s : Int)) = M1 170 (60 * t + i + (s : Int)) := by
            have := a6 (i + (s : Int)) (by omega) (by omega)
            rw [show (115 + 2 * t + 1 : Int) = 116 + 2 * t by omega, this]
            congr 1
            omega
          have e2 : M1 25 (s : Int) = M1 130 (s : Int) := by
            have x1 : M1 25 (s : Int) = e.1 3 (s : Int) := (hC.2.2.1 (s : Int) (by omega) (by omega)).2.2.1
            rw [x1, (hM.2.2.1 (s : Int) (by omega) (by omega)).2.2.1]
          rw [e1, e2]
          by_cases c4 : M1 170 (60 * t + i + (s : Int)) = M1 130 (s : Int)
          · rw [if_pos (hd1.2 c4)] at g2
            refine wp_t (cmp_0.2 c4) ?_
            rw [w_suc (by omega)]
            refine kk () M1 ⟨rfl, ?_⟩
            rw [show ((s + 1 : Nat) : Int) = (s : Int) + 1 by omega]
            exact g2
          · rw [if_neg (fun c => c4 (hd1.1 c))] at g2
            refine wp_f (fun c => c4 (cmp_0.1 c)) ?_
            rw [wp_some, g2]
            exact mm
        · rw [if_pos (hp1.2 (Or.inr (Or.inr c3)))] at g2
          refine wp_f c3 ?_
          rw [wp_some, g2]
          exact mm
      · intro fuel st M1 ⟨g1, g2⟩
        subst g1
        have e0 : M1 22 0 = (N : Int) := hC.1.trans hN
        show wp (f_X7_judge_37 t i (fuel + 1) i (115 + 2 * t) (N : Int) M1) _
        rw [f_X7_judge_37.eq_2, e0]
        refine wp_t (Int.le_refl _) ?_
        rw [wp_some]
        rw [Nat.sub_self] at g2
        unfold jg at g2
        rw [g2]
        exact mm
    rw [a1]
    by_cases hs1 : M 168 t = -1
    · exact wp_t hs1 (cc (by omega))
    · refine wp_f hs1 ?_
      by_cases hs0 : M 168 t = 0
      · exact wp_t hs0 (cc (by omega))
      · refine wp_f hs0 ?_
        rw [wp_some]
        unfold f_X8_judge
        rw [wp_bind]
        refine m_isT ?_
        rw [if_pos ht]
        refine wp_f one_ne (wp_and (by omega) (wp_f (by simp only []; omega) ?_))
        rw [wp_some]
        exact ⟨rfl, e, h⟩
  · rw [if_neg ht]
    refine wp_t rfl ?_
    rw [wp_some]
    show wp (f_X8_judge t i M) _
    unfold f_X8_judge
    rw [wp_bind]
    refine m_isT ?_
    rw [if_neg ht]
    refine wp_t rfl ?_
    rw [wp_some]
    exact ⟨rfl, e, h⟩
