/-! looking through in order for the least -/
/-- what has been found, and how low it is -/
def scan (ok : Int → Bool) (f key : Int → Int) : Nat → Int → Int × Int → Int × Int
  | 0, _, st => st
  | m + 1, i, st => scan ok f key m (i + 1) (if ok i = true ∧ f i < st.2 then (key i, f i) else st)
def scan2 (ok f key : Int → Int → Int) (n : Int) : Nat → Int → Int × Int → Int × Int
  | 0, _, st => st
  | m + 1, a, st => scan2 ok f key n m (a + 1) (scan (fun b => decide (ok a b = 1)) (f a) (key a) (n - (a + 1)).toNat (a + 1) st)
def gA (F : Int → Int → Int → Int) (n : Nat) (a : Int → Int) : Int := grs (fun t => nzs F a t n) 5
theorem grs_r {f : Int → Int} {b : Int} (hb : 0 ≤ b) (h : ∀ t : Int, 0 ≤ t → t ≤ 4 → 0 ≤ f t ∧ f t ≤ b) : ∀ n : Nat, n ≤ 5 → 0 ≤ grs f n ∧ grs f n ≤ b
  | 0, _ => by unfold grs; omega
  | n + 1, hn => by
    have ih := grs_r hb h n (by omega)
    have := h n (by omega) (by omega)
    unfold grs
    omega
theorem gA_r {F : Int → Int → Int → Int} {a : Int → Int} (hF : RF F) (hA : RA a) {n : Nat} (hn : n ≤ 6) : 0 ≤ gA F n a ∧ gA F n a ≤ 6588 := by
  refine grs_r (by decide) (fun t t0 t4 => ?_) 5 (by omega)
  have := nz_r hF hA (t := t) ⟨t0, t4⟩ n
  omega
theorem c_calm {s n c : Int} {F : Int → Int → Int → Int} {l a : Int → Int} {N : Nat} {M : Mem} {Q : Int → Mem → Prop} (hF : RF F) (hA : RA a) (hk : N ≤ 6) (hs : 0 ≤ s ∧ s < N) (hW : WY F n c l a N M)
    (k : ∀ M', (∀ j, j ≠ 6 → j ≠ 7 → M' j = M j) → Q (scan (fun _ => true) (fun h => gA F N (ua a s h)) (fun h => h) 5 0 (0, 1000000)).1 M') : wp (f_X6_calmestHouse s M) Q := by
  unfold f_X6_calmestHouse
  generalize hT : scan (fun _ => true) (fun h => gA F N (ua a s h)) (fun h => h) 5 0 (0, 1000000) = T at k
  refine wloop0 (St := Int × Int) (L := fun fuel x st M' => f_X6_calmestHouse_8 s fuel s st.1 st.2 x M') 5 (Inv := fun i st M' => (∀ j, j ≠ 6 → j ≠ 7 → M' j = M j) ∧ (∃ h, (-1 ≤ h ∧ h ≤ 4) ∧ WY F n c l (ua a s h) N M') ∧ scan (fun _ => true) (fun h => gA F N (ua a s h)) (fun h => h) (5 - i) i st = T) (Q := Q) (by omega) ?_ ?_ (st := (0, 1000000)) ⟨fun _ _ _ => rfl, ⟨a s, hA s, by rw [ua_self]; exact hW⟩, hT⟩
  · intro i fuel st M' hi ⟨h1, ⟨h, hh, h2⟩, h3⟩ kont
    show wp (f_X6_calmestHouse_8 s (fuel + 1) s st.1 st.2 (i : Int) M') Q
    rw [f_X6_calmestHouse_8.eq_2]
    refine wp_f (by omega) ?_
    rw [wp_bind]
    refine c_put hF (ua_r hA hh) hk hs (by omega) h2 ?_
    intro M2 g1 g2
    rw [ua_ua] at g1
    rw [wp_bind]
    refine c_wgreat g1 ?_
    rw [show 5 - i = (5 - (i + 1)) + 1 by omega] at h3
    unfold scan at h3
    unfold f_X6_calmestHouse_39
    simp only []
    rw [w_suc (by omega)]
    have fr : ∀ j, j ≠ 6 → j ≠ 7 → M2 j = M j := fun j a b => (g2 j a b).trans (h1 j a b)
    by_cases hq : gA F N (ua a s i) < st.2
    · rw [if_pos ⟨rfl, hq⟩] at h3
      unfold gA at hq
      refine wp_f (by omega) (kont ((i : Int), gA F N (ua a s i)) M2 ⟨fr, ⟨i, by omega, g1⟩, by rw [← h3]; rfl⟩)
    · rw [if_neg (fun c => hq c.2)] at h3
      unfold gA at hq
      refine wp_t (by omega) (kont st M2 ⟨fr, ⟨i, by omega, g1⟩, by rw [← h3]; rfl⟩)
  · intro fuel st M' ⟨h1, _, h3⟩
    show wp (f_X6_calmestHouse_8 s (fuel + 1) s st.1 st.2 ((5 : Nat) : Int) M') Q
    rw [f_X6_calmestHouse_8.eq_2]
    refine wp_t (by omega) ?_
    rw [wp_some]
    rw [← h3] at k
    exact k M' h1
theorem c_worst {n c : Int} {F : Int → Int → Int → Int} {l a : Int → Int} {N : Nat} {M : Mem} {Q : Int → Mem → Prop} (hF : RF F) (hA : RA a) (hk : N ≤ 6) (hn : n = N) (hW : WY F n c l a N M)
    (k : ∀ M', (∀ j, j ≠ 6 → j ≠ 7 → M' j = M j) → Q (scan (fun _ => true) (fun s => gA F N (ua a s (-1))) (fun s => s) N 0 (-5, 1000000)).1 M') : wp (f_X6_worstSound M) Q := by
  unfold f_X6_worstSound
  generalize hT : scan (fun _ => true) (fun s => gA F N (ua a s (-1))) (fun s => s) N 0 (-5, 1000000) = T at k
  refine wloop0 (St := Int × Int) (L := fun fuel x st M' => f_X6_worstSound_8 fuel st.2 st.1 x M') N (Inv := fun i st M' => (∀ j, j ≠ 6 → j ≠ 7 → M' j = M j) ∧ WY F n c l a N M' ∧ scan (fun _ => true) (fun s => gA F N (ua a s (-1))) (fun s => s) (N - i) i st = T) (Q := Q) (by omega) ?_ ?_ (st := (-5, 1000000)) ⟨fun _ _ _ => rfl, hW, hT⟩
  · intro i fuel st M' hi ⟨h1, h2, h3⟩ kont
    show wp (f_X6_worstSound_8 (fuel + 1) st.2 st.1 (i : Int) M') Q
    rw [f_X6_worstSound_8.eq_2, h2.1, hn]
    refine wp_f (by omega) (wp_and (by omega) ?_)
    rw [wp_bind, h2.2.2.2.1 i (by omega) (by omega)]
    refine c_put hF hA hk (by omega) (by omega) h2 ?_
    intro M2 g1 g2
    rw [wp_bind]
    refine c_wgreat g1 ?_
    rw [wp_bind]
    refine c_put hF (ua_r hA (by omega)) hk (by omega) (hA i) g1 ?_
    intro M3 u1 u2
    rw [ua_ua, ua_self] at u1
    rw [show N - i = (N - (i + 1)) + 1 by omega] at h3
    unfold scan at h3
    unfold f_X6_worstSound_54
    simp only []
    rw [w_suc (by omega)]
    have fr : ∀ j, j ≠ 6 → j ≠ 7 → M3 j = M j := fun j a b => (u2 j a b).trans ((g2 j a b).trans (h1 j a b))
    by_cases hq : gA F N (ua a i (-1)) < st.2
    · rw [if_pos ⟨rfl, hq⟩] at h3
      unfold gA at hq
      refine wp_f (by omega) (kont ((i : Int), gA F N (ua a i (-1))) M3 ⟨fr, u1, by rw [← h3]; rfl⟩)
    · rw [if_neg (fun c => hq c.2)] at h3
      unfold gA at hq
      refine wp_t (by omega) (kont st M3 ⟨fr, u1, by rw [← h3]; rfl⟩)
  · intro fuel st M' ⟨h1, h2, h3⟩
    show wp (f_X6_worstSound_8 (fuel + 1) st.2 st.1 (N : Int) M') Q
    rw [f_X6_worstSound_8.eq_2, h2.1, hn]
    refine wp_t (by omega) ?_
    rw [wp_some]
    rw [← h3, Nat.sub_self] at k
    exact k M' h1
def sm1 (f : Int → Bool) : Nat → Int
  | 0 => 0
  | n + 1 => sm1 f n + (if f (n : Int) = true then 1 else 0)
theorem sm1_r (f : Int → Bool) : ∀ n : Nat, 0 ≤ sm1 f n ∧ sm1 f n ≤ n
  | 0 => by unfold sm1; omega
  | n + 1 => by
    have := sm1_r f n
    unfold sm1
    split <;> omega
theorem c_without {t n c : Int} {F : Int → Int → Int → Int} {l a : Int → Int} {N : Nat} {M : Mem} {Q : Int → Mem → Prop} (hF : RF F) (hA : RA a) (hk : N ≤ 6) (hn : n = N) (ht : 0 ≤ t ∧ t ≤ 4) (hW : WY F n c l a N M)
    (k : ∀ M', (∀ j, j ≠ 6 → j ≠ 7 → M' j = M j) → Q (sm1 (fun s => decide (nzs F (ua a s (-1)) t N ≤ c)) N) M') : wp (f_X6_stillWithoutOne t M) Q := by
  unfold f_X6_stillWithoutOne
  refine wloop0 (St := Int) (L := fun fuel x st M' => f_X6_stillWithoutOne_4 t fuel t st x M') N (Inv := fun i st M' => (∀ j, j ≠ 6 → j ≠ 7 → M' j = M j) ∧ WY F n c l a N M' ∧ st = sm1 (fun s => decide (nzs F (ua a s (-1)) t N ≤ c)) i) (Q := Q) (by omega) ?_ ?_ (st := 0) ⟨fun _ _ _ => rfl, hW, rfl⟩
  · intro i fuel st M' hi ⟨h1, h2, h3⟩ kont
    show wp (f_X6_stillWithoutOne_4 t (fuel + 1) t st (i : Int) M') Q
    rw [f_X6_stillWithoutOne_4.eq_2, h2.1, hn]
    refine wp_f (by omega) (wp_and (by omega) ?_)
    rw [wp_bind, h2.2.2.2.1 i (by omega) (by omega)]
    refine c_put hF hA hk (by omega) (by omega) h2 ?_
    intro M2 g1 g2
    refine wp_and (by omega) ?_
    simp only []
    rw [g1.2.1, g1.2.2.2.2.1 t (by omega) (by omega)]
    have e3 : sm1 (fun s => decide (nzs F (ua a s (-1)) t N ≤ c)) (i + 1) = sm1 (fun s => decide (nzs F (ua a s (-1)) t N ≤ c)) i + (if decide (nzs F (ua a (i : Int) (-1)) t N ≤ c) = true then 1 else 0) := rfl
    have r := sm1_r (fun s => decide (nzs F (ua a s (-1)) t N ≤ c)) i
    have fin : ∀ st', st' = sm1 (fun s => decide (nzs F (ua a s (-1)) t N ≤ c)) (i + 1) → wp (f_X6_stillWithoutOne_42 t (f_X6_stillWithoutOne_4 t fuel) t st' (i : Int) (a i) M2) Q := by
      intro st' hst
      unfold f_X6_stillWithoutOne_42
      rw [wp_bind]
      refine c_put hF (ua_r hA (by omega)) hk (by omega) (hA i) g1 ?_
      intro M3 u1 u2
      rw [ua_ua, ua_self] at u1
      rw [w_suc (by omega)]
      exact kont st' M3 ⟨fun j a b => (u2 j a b).trans ((g2 j a b).trans (h1 j a b)), u1, hst⟩
    by_cases hq : nzs F (ua a (i : Int) (-1)) t N ≤ c
    · rw [if_pos (decide_eq_true hq)] at e3
      refine wp_f (by omega) ?_
      rw [w_id (by omega) (by omega)]
      exact fin _ (by omega)
    · rw [if_neg (by rw [decide_eq_false hq]; decide)] at e3
      exact wp_t (by omega) (fin _ (by omega))
  · intro fuel st M' ⟨h1, h2, h3⟩
    show wp (f_X6_stillWithoutOne_4 t (fuel + 1) t st (N : Int) M') Q
    rw [f_X6_stillWithoutOne_4.eq_2, h2.1, hn]
    refine wp_t (by omega) ?_
    rw [wp_some, h3]
    exact k M' h1
theorem c_swap {x y n c : Int} {F : Int → Int → Int → Int} {l a : Int → Int} {N : Nat} {M : Mem} {Q : Int → Mem → Prop} (hF : RF F) (hA : RA a) (hk : N ≤ 6) (hx : 0 ≤ x ∧ x < N) (hy : 0 ≤ y ∧ y < N) (hxy : x ≠ y) (hW : WY F n c l a N M)
    (k : ∀ M', WY F n c l (ua (ua a x (a y)) y (a x)) N M' → (∀ j, j ≠ 6 → j ≠ 7 → M' j = M j) → Q 0 M') : wp (f_X6_swap x y M) Q := by
  unfold f_X6_swap
  refine wp_and (by omega) (wp_and (by omega) ?_)
  rw [wp_bind, hW.2.2.2.1 y hy.1 hy.2, hW.2.2.2.1 x hx.1 hx.2]
  refine c_put hF hA hk hx (hA y) hW ?_
  intro M2 g1 g2
  rw [wp_bind]
  simp only []
  refine c_put hF (ua_r hA (hA y)) hk hy (hA x) g1 ?_
  intro M3 u1 u2
  rw [wp_some]
  exact k M3 u1 (fun j a b => (u2 j a b).trans (g2 j a b))
theorem sw_sw {a : Int → Int} {x y : Int} (h : x ≠ y) : ua (ua (ua (ua a x (a y)) y (a x)) x ((ua (ua a x (a y)) y (a x)) y)) y ((ua (ua a x (a y)) y (a x)) x) = a := by
  funext q
  unfold ua
  grind
def swA (a : Int → Int) (x y : Int) : Int → Int := ua (ua a x (a y)) y (a x)
theorem swA_r {a : Int → Int} {x y : Int} (hA : RA a) : RA (swA a x y) := ua_r (ua_r hA (hA y)) (hA x)
theorem c_change {n c : Int} {F : Int → Int → Int → Int} {l a : Int → Int} {N : Nat} {M : Mem} {Q : Int → Mem → Prop} (hF : RF F) (hA : RA a) (hk : N ≤ 6) (hn : n = N) (hW : WY F n c l a N M)
    (k : ∀ M', (∀ j, j ≠ 6 → j ≠ 7 → M' j = M j) → Q (scan2 (fun x y => if l x ≠ -1 ∧ l y ≠ -1 then 1 else 0) (fun x y => gA F N (swA a x y)) (fun x y => 10 * x + y) N N 0 (-5, gA F N a)).1 M') : wp (f_X6_bestSwap M) Q := by
  unfold f_X6_bestSwap
  rw [wp_bind]
  refine c_wgreat hW ?_
  show wp (f_X6_bestSwap_10 FU (gA F N a) (-5) 0 M) Q
  generalize hT0 : scan2 (fun x y => if l x ≠ -1 ∧ l y ≠ -1 then 1 else 0) (fun x y => gA F N (swA a x y)) (fun x y => 10 * x + y) N N 0 (-5, gA F N a) = T0 at k
  refine wloop0 (St := Int × Int) (L := fun fuel x st M' => f_X6_bestSwap_10 fuel st.2 st.1 x M') N (Inv := fun i st M' => (∀ j, j ≠ 6 → j ≠ 7 → M' j = M j) ∧ WY F n c l a N M' ∧ scan2 (fun x y => if l x ≠ -1 ∧ l y ≠ -1 then 1 else 0) (fun x y => gA F N (swA a x y)) (fun x y => 10 * x + y) N (N - i) i st = T0) (Q := Q) (by omega) ?_ ?_ (st := (-5, gA F N a)) ⟨fun _ _ _ => rfl, hW, hT0⟩
  · intro i fuel st M' hi ⟨h1, h2, h3⟩ kont
    show wp (f_X6_bestSwap_10 (fuel + 1) st.2 st.1 (i : Int) M') Q
    rw [f_X6_bestSwap_10.eq_2, h2.1, hn]
    refine wp_f (by omega) ?_
    rw [w_suc (by omega)]
    rw [show N - i = (N - (i + 1)) + 1 by omega] at h3
    unfold scan2 at h3
    rw [show ((N : Int) - ((i : Int) + 1)).toNat = N - (i + 1) by omega, show (i : Int) + 1 = ((i + 1 : Nat) : Int) by omega] at h3
    generalize hT : scan (fun b => decide ((if l (i : Int) ≠ -1 ∧ l b ≠ -1 then (1 : Int) else 0) = 1)) (fun y => gA F N (swA a i y)) (fun y => 10 * (i : Int) + y) (N - (i + 1)) ((i + 1 : Nat) : Int) st = T at h3
    refine wloop (St := Int × Int) (L := fun fuel' x st M' => f_X6_bestSwap_23 (f_X6_bestSwap_10 fuel) fuel' st.2 st.1 (i : Int) x M') (N := N) (Inv := fun b st M' => (∀ j, j ≠ 6 → j ≠ 7 → M' j = M j) ∧ WY F n c l a N M' ∧ i < b ∧ scan (fun b => decide ((if l (i : Int) ≠ -1 ∧ l b ≠ -1 then (1 : Int) else 0) = 1)) (fun y => gA F N (swA a i y)) (fun y => 10 * (i : Int) + y) (N - b) b st = T) (Q := Q) ?_ ?_ (N - (i + 1)) FU (i + 1) st M' (by rw [FU_e]; omega) (by omega) ⟨h1, h2, by omega, hT⟩
    · intro b fuel' st2 M2 hb ⟨g1, g2, gb, g3⟩ kont2
      show wp (f_X6_bestSwap_23 (f_X6_bestSwap_10 fuel) (fuel' + 1) st2.2 st2.1 (i : Int) (b : Int) M2) Q
      rw [f_X6_bestSwap_23.eq_2, g2.1, hn]
      rw [show N - b = (N - (b + 1)) + 1 by omega] at g3
      unfold scan at g3
      rw [show (b : Int) + 1 = ((b + 1 : Nat) : Int) by omega] at g3
      have l1 := g2.2.2.2.2.2 i (by omega) (by omega)
      have l2 := g2.2.2.2.2.2 b (by omega) (by omega)
      refine wp_f (by omega) (wp_and (by omega) ?_)
      rw [l1, l2]
      unfold f_X6_bestSwap_88
      rw [w_suc (by omega)]
      by_cases c1 : l (i : Int) = -1
      · rw [if_pos c1]
        rw [if_neg (fun c => by have := c.1; simp [c1] at this)] at g3
        exact wp_f (by decide) (kont2 st2 M2 ⟨g1, g2, by omega, g3⟩)
      · rw [if_neg c1]
        refine wp_t rfl (wp_and (by omega) ?_)
        by_cases c2 : l (b : Int) = -1
        · rw [if_pos c2]
          rw [if_neg (fun c => by have := c.1; simp [c2] at this)] at g3
          exact wp_f (by decide) (kont2 st2 M2 ⟨g1, g2, by omega, g3⟩)
        · rw [if_neg c2]
          refine wp_t rfl ?_
          rw [wp_bind]
          refine c_swap hF hA hk (by omega) (by omega) (by omega) g2 ?_
          intro M3 u1 u2
          rw [wp_bind]
          refine c_wgreat u1 ?_
          rw [wp_bind]
          refine c_swap hF (swA_r hA) hk (by omega) (by omega) (by omega) u1 ?_
          intro M4 v1 v2
          have e := sw_sw (a := a) (x := i) (y := b) (by omega)
          unfold swA at v1
          rw [e] at v1
          have fr : ∀ j, j ≠ 6 → j ≠ 7 → M4 j = M j := fun j a b => (v2 j a b).trans ((u2 j a b).trans (g1 j a b))
          simp only []
          by_cases hq : gA F N (swA a i b) < st2.2
          · rw [if_pos ⟨by simp [c1, c2], hq⟩] at g3
            unfold gA swA at hq
            refine wp_f (by omega) ?_
            rw [w_id (z := 10 * (i : Int)) (by omega) (by omega), w_id (by omega) (by omega)]
            exact kont2 (10 * (i : Int) + b, gA F N (swA a i b)) M4 ⟨fr, v1, by omega, g3⟩
          · rw [if_neg (fun c => hq c.2)] at g3
            unfold gA swA at hq
            exact wp_t (by omega) (kont2 st2 M4 ⟨fr, v1, by omega, g3⟩)
    · intro fuel' st2 M2 ⟨g1, g2, gb, g3⟩
      show wp (f_X6_bestSwap_23 (f_X6_bestSwap_10 fuel) (fuel' + 1) st2.2 st2.1 (i : Int) (N : Int) M2) Q
      rw [f_X6_bestSwap_23.eq_2, g2.1, hn]
      refine wp_t (by omega) ?_
      rw [w_suc (by omega)]
      rw [Nat.sub_self] at g3
      unfold scan at g3
      subst g3
      exact kont st2 M2 ⟨g1, g2, h3⟩
  · intro fuel st M' ⟨h1, h2, h3⟩
    show wp (f_X6_bestSwap_10 (fuel + 1) st.2 st.1 (N : Int) M') Q
    rw [f_X6_bestSwap_10.eq_2, h2.1, hn]
    refine wp_t (by omega) ?_
    rw [wp_some]
    rw [← h3, Nat.sub_self] at k
    exact k M' h1
