/-! the class: years go, copies, rows of plans -/
theorem LC_sc {o : Int} {e e' : Vw} {M M' : Mem} (ho : isLot o) (h : LC o e M) (hM : ∀ j, j < o ∨ o + 5 < j → M' j = M j) (h7 : M' o 7 = M o 7) (he : e'.2 = e.2) : SC (M' o 7) e' M' := by
  rw [h7]
  have hr := h.2.2.2.2.1
  refine SC_fr2 h.2.2.2.2 (fun i i0 i5 => hM _ ?_) he
  rcases ho with rfl | rfl | rfl <;> (unfold isStr at hr; omega)
def pe (e : Vw) (i : Nat) : Vw := (fun k q => if k = 3 ∧ 0 ≤ q ∧ q < (i : Int) ∧ e.1 4 q ≠ -1 then max 0 (e.1 3 q - we e q) else e.1 k q, e.2)
theorem pe_k {e : Vw} {i : Nat} {k : Nat} {q : Int} (h : k ≠ 3) : (pe e i).1 k q = e.1 k q := by
  show (if k = 3 ∧ _ then _ else _) = _
  rw [if_neg (fun c => h c.1)]
theorem pe_we {e : Vw} {i : Nat} {s : Int} : we (pe e i) s = we e s := by
  unfold we
  rw [pe_k (by decide), pe_k (by decide)]
  rfl
theorem pe_r {e : Vw} (h : Rg e) (i : Nat) : Rg (pe e i) := by
  have hw := we_r h
  obtain ⟨h1, h2, h3, h4, h5⟩ := h
  refine ⟨h1, h2, ?_, h4, h5⟩
  intro s
  have a := h3 s
  have b := hw s
  unfold pe
  simp only []
  grind
theorem c_year {o : Int} {e : Vw} {M : Mem} {Q : Int → Mem → Prop} {p1 x1 x2 : Int} {k2 : Int → Int → Mem → Option (Int × Mem)} (hR : Rg e) (ho : isLot o) (hL : LC o e M)
    (k : ∀ M', LC o (gy e) M' → (∀ j, j ≠ o → j ≠ o + 3 → M' j = M j) → (∀ q, q ≠ 6 → M' o q = M o q) → wp (k2 x1 (w32 (x2 + 1)) M') Q) : wp (f_X1_goYears_9 o p1 k2 FU x1 x2 0 M) Q := by
  have hn := hR.1
  refine wloop0 (St := Unit) (L := fun fuel x st M' => f_X1_goYears_9 o p1 k2 fuel x1 x2 x M') (e.1 0 0).toNat (Inv := fun i st M' => (∀ j, j ≠ o + 3 → M' j = M j) ∧ LC o (pe e i) M') (Q := Q) (by omega) ?_ ?_ (st := ()) ⟨fun _ _ => rfl, ?_⟩
  · intro i fuel st M' hi ⟨h1, h2⟩ kk
    show wp (f_X1_goYears_9 o p1 k2 (fuel + 1) x1 x2 (i : Int) M') Q
    have l0 : M' o 0 = e.1 0 0 := h2.1
    have lh := (h2.2.2.1 i (by omega) (by omega)).2.2.2
    rw [pe_k (by decide)] at lh
    rw [f_X1_goYears_9.eq_2, l0]
    refine wp_f (by omega) ?_
    rw [wp_bind]
    refine c_isLost (by omega) ?_
    rw [lh]
    by_cases hq : e.1 4 (i : Int) = -1
    · rw [if_pos hq]
      refine wp_f (show ¬ (1 : Int) = 0 by decide) ?_
      unfold f_X1_goYears_47
      simp only []
      rw [w_suc (by omega)]
      refine kk () M' ⟨h1, ?_⟩
      have : pe e (i + 1) = pe e i := by
        unfold pe
        congr 1
        funext k q
        by_cases hqi : q = (i : Int)
        · subst hqi
          rw [if_neg (fun c => c.2.2.2 hq), if_neg (fun c => c.2.2.2 hq)]
        · have : (k = 3 ∧ 0 ≤ q ∧ q < ((i + 1 : Nat) : Int) ∧ e.1 4 q ≠ -1) = (k = 3 ∧ 0 ≤ q ∧ q < (i : Int) ∧ e.1 4 q ≠ -1) := by
            apply propext
            constructor
            · rintro ⟨a, b, c, d⟩
              exact ⟨a, b, by omega, d⟩
            · rintro ⟨a, b, c, d⟩
              exact ⟨a, b, by omega, d⟩
          simp only [this]
      rw [this]
      exact h2
    · rw [if_neg hq]
      refine wp_t rfl (wp_and ⟨by omega, by omega⟩ ?_)
      rw [wp_bind]
      refine c_wears (pe_r hR i) h2 ⟨by omega, by omega⟩ ?_
      rw [pe_we]
      refine wp_and ⟨by omega, by omega⟩ ?_
      simp only []
      rw [wp_lt]
      have l3 : M' (o + 3) (i : Int) = e.1 3 (i : Int) := by
        rw [(h2.2.2.1 i (by omega) (by omega)).2.2.1]
        show (if _ then _ else _) = _
        rw [if_neg (fun c => absurd c.2.2.1 (by omega))]
      have a := hR.2.2.1 (i : Int)
      have b := we_r hR (i : Int)
      unfold f_X1_goYears_47
      rw [w_suc (by omega), l3, w_id (by omega) (by omega)]
      refine kk () _ ⟨fun j hj => by rw [st_nc hj]; exact h1 j hj, ?_⟩
      obtain ⟨q0, q6, qs, q5, qS⟩ := h2
      refine ⟨by rw [st_nc (by omega)]; exact q0, by rw [st_nc (by omega)]; exact q6, ?_, ?_, ?_⟩
      · intro s s0 s6
        obtain ⟨k1, k2, k3, k4⟩ := qs s s0 s6
        refine ⟨?_, ?_, ?_, ?_⟩
        · rw [st_nc (by omega), k1, pe_k (by decide), pe_k (by decide)]
        · rw [st_nc (by omega), k2, pe_k (by decide), pe_k (by decide)]
        · rw [st_ap]
          by_cases hs : s = (i : Int)
          · subst hs
            rw [if_pos ⟨rfl, rfl⟩]
            show _ = (if _ then _ else _)
            rw [if_pos ⟨rfl, s0, by omega, hq⟩]
          · rw [if_neg (fun c => hs c.2), k3]
            show (if _ then _ else _) = (if _ then _ else _)
            by_cases hc : s < (i : Int) ∧ e.1 4 s ≠ -1
            · rw [if_pos ⟨rfl, s0, hc.1, hc.2⟩, if_pos ⟨rfl, s0, by omega, hc.2⟩]
            · rw [if_neg (fun c => hc ⟨c.2.2.1, c.2.2.2⟩), if_neg (fun c => hc ⟨by omega, c.2.2.2⟩)]
        · rw [st_nc (by omega), k4, pe_k (by decide), pe_k (by decide)]
      · intro q q0 q24
        rw [st_nc (by omega), q5 q q0 q24, pe_k (by decide), pe_k (by decide)]
      · exact LC_sc ho ⟨q0, q6, qs, q5, qS⟩ (fun j hj => st_nc (by omega)) (by rw [st_nc (by omega)]) rfl
  · intro fuel st M' ⟨h1, h2⟩
    show wp (f_X1_goYears_9 o p1 k2 (fuel + 1) x1 x2 (((e.1 0 0).toNat : Nat) : Int) M') Q
    have l0 : M' o 0 = e.1 0 0 := h2.1
    have l6 : M' o 6 = e.1 6 0 := h2.2.1
    have hy := hR.2.1
    rw [f_X1_goYears_9.eq_2, l0]
    refine wp_t (by omega) ?_
    rw [wp_lt, l6, w_id (z := e.1 6 0 + 1) (by omega) (by omega)]
    have hgy : ∀ (k : Nat) (q : Int), (gy e).1 k q = if k = 6 ∧ q = 0 then e.1 6 0 + 1 else (pe e (e.1 0 0).toNat).1 k q := by
      intro k q
      show (if k = 3 ∧ 0 ≤ q ∧ q < e.1 0 0 ∧ e.1 4 q ≠ -1 then _ else if k = 6 ∧ q = 0 then _ else _) = (if k = 6 ∧ q = 0 then _ else if k = 3 ∧ 0 ≤ q ∧ q < (((e.1 0 0).toNat : Nat) : Int) ∧ e.1 4 q ≠ -1 then _ else _)
      rw [show (((e.1 0 0).toNat : Nat) : Int) = e.1 0 0 by omega]
      by_cases hk : k = 6 ∧ q = 0
      · rw [if_pos hk, if_neg (fun c => by omega), if_pos hk]
      · rw [if_neg hk, if_neg hk]
    refine k _ ?_ (fun j j1 j2 => by rw [st_nc j1]; exact h1 j j2) (fun q hq => by rw [st_ap, if_neg (fun c => hq c.2), h1 o (by omega)])
    obtain ⟨q0, q6, qs, q5, qS⟩ := h2
    refine ⟨?_, ?_, ?_, ?_, ?_⟩
    · rw [st_ap, if_neg (fun c => absurd c.2 (by decide)), hgy, if_neg (fun c => absurd c.1 (by decide))]; exact q0
    · rw [st_ap, if_pos ⟨rfl, rfl⟩, hgy, if_pos ⟨rfl, rfl⟩]
    · intro s s0 s6
      rw [st_nc (show o + 1 ≠ o by omega), st_nc (show o + 2 ≠ o by omega), st_nc (show o + 3 ≠ o by omega), st_nc (show o + 4 ≠ o by omega), hgy, hgy, hgy, hgy, if_neg (fun c => absurd c.1 (by decide)), if_neg (fun c => absurd c.1 (by decide)), if_neg (fun c => absurd c.1 (by decide)), if_neg (fun c => absurd c.1 (by decide))]
      exact qs s s0 s6
    · intro s s0 s6
      rw [st_nc (show o + 5 ≠ o by omega), hgy, if_neg (fun c => absurd c.1 (by decide))]
      exact q5 s s0 s6
    · exact LC_sc ho ⟨q0, q6, qs, q5, qS⟩ (fun j hj => st_nc (by omega)) (by rw [st_ap, if_neg (fun c => absurd c.2 (by decide))]) rfl
  · have : pe e 0 = e := by
      unfold pe
      have : (fun k q => if k = 3 ∧ 0 ≤ q ∧ q < ((0 : Nat) : Int) ∧ e.1 4 q ≠ -1 then max 0 (e.1 3 q - we e q) else e.1 k q) = e.1 := by
        funext k q
        rw [if_neg (fun c => by have := c.2.1; have := c.2.2.1; omega)]
      rw [this]
    rw [this]
    exact hL
theorem c_years {o : Int} {e : Vw} {M : Mem} {Q : Int → Mem → Prop} {n : Nat} (hR : Rg e) (hn : n ≤ 100) (hy : e.1 6 0 + n ≤ 20000) (ho : isLot o) (hL : LC o e M)
    (k : ∀ M', LC o (gyn e n) M' → (∀ j, j ≠ o → j ≠ o + 3 → M' j = M j) → (∀ q, q ≠ 6 → M' o q = M o q) → Q 0 M') : wp (f_X1_goYears o (n : Int) M) Q := by
  unfold f_X1_goYears
  refine wloop0 (St := Unit) (L := fun fuel x st M' => f_X1_goYears_2 o (n : Int) fuel (n : Int) x M') n (Inv := fun i st M' => LC o (gyn e i) M' ∧ (∀ j, j ≠ o → j ≠ o + 3 → M' j = M j) ∧ (∀ q, q ≠ 6 → M' o q = M o q)) (Q := Q) (by omega) ?_ ?_ (st := ()) ⟨hL, fun _ _ _ => rfl, fun _ _ => rfl⟩
  · intro i fuel st M' hi ⟨h1, h2, h3⟩ kk
    show wp (f_X1_goYears_2 o (n : Int) (fuel + 1) (n : Int) (i : Int) M') Q
    rw [f_X1_goYears_2.eq_2]
    refine wp_f (by omega) ?_
    refine c_year (gyn_r hR i (by omega)) ho h1 ?_
    intro M2 g1 g2 g3
    rw [w_suc (by omega)]
    exact kk () M2 ⟨g1, fun j j1 j2 => by rw [g2 j j1 j2, h2 j j1 j2], fun q hq => by rw [g3 q hq, h3 q hq]⟩
  · intro fuel st M' ⟨h1, h2, h3⟩
    show wp (f_X1_goYears_2 o (n : Int) (fuel + 1) (n : Int) (n : Int) M') Q
    rw [f_X1_goYears_2.eq_2]
    refine wp_t (by omega) ?_
    rw [wp_some]
    exact k M' h1 h2 h3
theorem cp_ap {M : Mem} {a b sp dp n j : Int} : cpM M a b sp dp n j = if j = b then (fun q => if dp ≤ q ∧ q < dp + n then M a (sp + (q - dp)) else M b q) else M j := rfl
theorem cp_nc {M : Mem} {a b sp dp n j : Int} (h : j ≠ b) : cpM M a b sp dp n j = M j := by rw [cp_ap, if_neg h]
theorem cp_ap2 {M : Mem} {a b sp dp n j q : Int} : cpM M a b sp dp n j q = if j = b ∧ dp ≤ q ∧ q < dp + n then M a (sp + (q - dp)) else M j q := by
  rw [cp_ap]
  by_cases h : j = b
  · subst h; simp
  · simp [h]
theorem c_takeS {o p : Int} {M : Mem} {Q : Int → Mem → Prop} (hop : (o = 22 ∧ p = 41) ∨ (o = 41 ∧ p = 22) ∨ (o = 60 ∧ p = 22))
    (k : ∀ M', (∀ j, j < o ∨ o + 5 < j → M' j = M j) → M' o 0 = M p 0 → M' o 6 = M p 6 → M' o 7 = M p 7 → (∀ q, q ≠ 0 → q ≠ 6 → q ≠ 7 → M' o q = M o q) → (∀ q : Int, 0 ≤ q → q < 6 → M' (o + 1) q = M (p + 1) q ∧ M' (o + 2) q = M (p + 2) q ∧ M' (o + 3) q = M (p + 3) q ∧ M' (o + 4) q = M (p + 4) q) → (∀ q : Int, 0 ≤ q → q < 24 → M' (o + 5) q = M (p + 5) q) → Q 0 M') : wp (f_X1_takeSounds o p M) Q := by
  unfold f_X1_takeSounds
  simp only [lt]
  rw [wp_some]
  rcases hop with ⟨rfl, rfl⟩ | ⟨rfl, rfl⟩ | ⟨rfl, rfl⟩
  all_goals
    refine k _ ?_ ?_ ?_ ?_ ?_ ?_ ?_
    · intro j hj
      rw [st_nc (by omega), st_nc (by omega), cp_nc (by omega), cp_nc (by omega), cp_nc (by omega), cp_nc (by omega), cp_nc (by omega), st_nc (by omega)]
    · simp [st_ap, cp_ap2]
    · simp [st_ap, cp_ap2]
    · simp [st_ap, cp_ap2]
    · intro q h1 h2 h3
      simp [st_ap, cp_ap2, h1, h2, h3]
    · intro q h1 h2
      simp [st_ap, cp_ap2, h1, h2]
    · intro q h1 h2
      simp [st_ap, cp_ap2, h1, h2]
/-- what is asked is played on the copy -/
theorem c_ask {e : Vw} {M : Mem} {Q : Int → Mem → Prop} (hL : LC 22 e M) (k : ∀ M', LC 60 e M' → (∀ j, j < 60 ∨ 65 < j → M' j = M j) → Q 0 M') : wp (f_X1_takeSounds 60 22 M) Q := by
  refine c_takeS (Or.inr (Or.inr ⟨rfl, rfl⟩)) ?_
  intro M' h0 h1 h2 h3 h4 h5 h6
  refine k M' ?_ (fun j hj => h0 j (by omega))
  obtain ⟨q0, q6, qs, q5, qS⟩ := hL
  refine ⟨by rw [h1]; exact q0, by rw [h2]; exact q6, ?_, ?_, ?_⟩
  · intro s s0 s6
    obtain ⟨a1, a2, a3, a4⟩ := h5 s s0 s6
    obtain ⟨b1, b2, b3, b4⟩ := qs s s0 s6
    exact ⟨a1.trans b1, a2.trans b2, a3.trans b3, a4.trans b4⟩
  · intro s s0 s6
    exact (h6 s s0 s6).trans (q5 s s0 s6)
  · rw [h3]
    have hr := qS.1
    exact SC_fr2 qS (fun i i0 i5 => h0 _ (by unfold isStr at hr; omega)) rfl
def up (e : Vw) (k : Nat) (s z : Int) : Vw := (fun k' q => if k' = k ∧ q = s then z else e.1 k' q, e.2)
def pl (e : Vw) (w s : Int) : Vw := if w = 0 then gy e else if e.1 4 s = -1 then e else if w = 1 then up e 4 s (-1) else if w = 2 then (if e.1 4 s < 4 then up e 4 s (e.1 4 s + 1) else e) else (if 0 < e.1 4 s then up e 4 s (e.1 4 s - 1) else e)
theorem LC_h {o s z : Int} {e : Vw} {M : Mem} (ho : isLot o) (h : LC o e M) : LC o (up e 4 s z) (stM M (o + 4) s z) := by
  have hs := LC_sc (e' := up e 4 s z) (M' := stM M (o + 4) s z) ho h (fun j hj => st_nc (by omega)) (by rw [st_nc (by omega)]) rfl
  obtain ⟨q0, q6, qs, q5, qS⟩ := h
  refine ⟨?_, ?_, ?_, ?_, hs⟩
  · rw [st_nc (by omega)]; exact q0
  · rw [st_nc (by omega)]; exact q6
  · intro t t0 t6
    obtain ⟨b1, b2, b3, b4⟩ := qs t t0 t6
    rw [st_nc (show o + 1 ≠ o + 4 by omega), st_nc (show o + 2 ≠ o + 4 by omega), st_nc (show o + 3 ≠ o + 4 by omega)]
    refine ⟨b1, b2, b3, ?_⟩
    rw [st_ap]
    show _ = (if (4 : Nat) = 4 ∧ t = s then z else e.1 4 t)
    rw [b4]
    simp
  · intro t t0 t6
    rw [st_nc (show o + 5 ≠ o + 4 by omega)]
    exact q5 t t0 t6
theorem c_go {o s w : Int} {e : Vw} {M : Mem} {Q : Int → Mem → Prop} (hR : Rg e) (hy : e.1 6 0 < 20000) (ho : isLot o) (hL : LC o e M) (hw : 0 ≤ w ∧ w ≤ 3) (hs : w ≠ 0 → 0 ≤ s ∧ s < e.1 0 0)
    (k : ∀ M', LC o (pl e w s) M' → (∀ j, j ≠ o → j ≠ o + 3 → j ≠ o + 4 → M' j = M j) → (∀ q, q ≠ 6 → M' o q = M o q) → Q 0 M') : wp (f_X1_go o w s M) Q := by
  unfold f_X1_go
  by_cases h0 : w = 0
  · refine wp_t h0 ?_
    rw [wp_bind]
    refine c_years (n := 1) hR (by omega) (by omega) ho hL ?_
    intro M' g1 g2 g3
    rw [wp_some]
    refine k M' ?_ (fun j a b _ => g2 j a b) g3
    unfold pl
    rw [if_pos h0]
    exact g1
  · have hs := hs h0
    have hn := hR.1
    have hl := (hL.2.2.1 s hs.1 (by omega)).2.2.2
    have hh := (hR.2.2.1 s).2.2.2.1
    refine wp_f h0 ?_
    unfold pl at k
    rw [if_neg h0] at k
    rw [wp_bind]
    unfold f_X1_has
    refine wp_f (by omega) (wp_f (by rw [hL.1]; omega) ?_)
    rw [wp_some]
    refine wp_f (show ¬ (1 : Int) = 0 by decide) ?_
    rw [wp_bind]
    refine c_isLost (by omega) ?_
    simp only [hl]
    by_cases hq : e.1 4 s = -1
    · rw [if_pos hq] at k
      rw [if_pos hq]
      refine wp_f (show ¬ (1 : Int) = 0 by decide) ?_
      rw [wp_some]
      exact k M hL (fun _ _ _ _ => rfl) (fun _ _ => rfl)
    · rw [if_neg hq] at k
      rw [if_neg hq]
      refine wp_t rfl ?_
      have st : ∀ z, LC o (up e 4 s z) (stM M (o + 4) s z) ∧ (∀ j, j ≠ o → j ≠ o + 3 → j ≠ o + 4 → stM M (o + 4) s z j = M j) ∧ (∀ q, q ≠ 6 → stM M (o + 4) s z o q = M o q) := fun z => ⟨LC_h ho hL, fun j _ _ h => st_nc h, fun q _ => by rw [st_nc (by omega)]⟩
      by_cases h1 : w = 1
      · refine wp_t h1 (wp_and (by omega) ?_)
        rw [if_pos h1] at k
        rw [wp_lt, wp_some]
        exact k _ (st _).1 (st _).2.1 (st _).2.2
      · rw [if_neg h1] at k
        refine wp_f h1 ?_
        by_cases h2 : w = 2
        · rw [if_pos h2] at k
          refine wp_t h2 (wp_and (by omega) ?_)
          by_cases h4 : e.1 4 s < 4
          · rw [if_pos h4] at k
            refine wp_f (by omega) (wp_and (by omega) (wp_and (by omega) ?_))
            rw [wp_lt, wp_some, w_id (by omega) (by omega)]
            exact k _ (st _).1 (st _).2.1 (st _).2.2
          · rw [if_neg h4] at k
            refine wp_t (by omega) ?_
            unfold f_X1_go_71
            refine wp_f (by omega) ?_
            rw [wp_some]
            exact k M hL (fun _ _ _ _ => rfl) (fun _ _ => rfl)
        · rw [if_neg h2] at k
          refine wp_f h2 ?_
          unfold f_X1_go_71
          refine wp_t (by omega) (wp_and (by omega) ?_)
          rw [hl]
          by_cases h4 : 0 < e.1 4 s
          · rw [if_pos h4] at k
            refine wp_f (by omega) (wp_and (by omega) (wp_and (by omega) ?_))
            rw [wp_lt, wp_some, w_id (by omega) (by omega)]
            exact k _ (st _).1 (st _).2.1 (st _).2.2
          · rw [if_neg h4] at k
            refine wp_t (by omega) ?_
            rw [wp_some]
            exact k M hL (fun _ _ _ _ => rfl) (fun _ _ => rfl)
theorem up_r {e : Vw} {s z : Int} (h : Rg e) (hz : -1 ≤ z ∧ z ≤ 4) : Rg (up e 4 s z) := by
  obtain ⟨h1, h2, h3, h4, h5⟩ := h
  refine ⟨h1, h2, ?_, h4, h5⟩
  intro q
  have a := h3 q
  refine ⟨a.1, a.2.1, a.2.2.1, ?_, a.2.2.2.2⟩
  show -1 ≤ (if (4 : Nat) = 4 ∧ q = s then z else e.1 4 q) ∧ (if (4 : Nat) = 4 ∧ q = s then z else e.1 4 q) ≤ 4
  split <;> omega
theorem pl_r {e : Vw} {w s : Int} (h : Rg e) (hy : e.1 6 0 < 20000) : Rg (pl e w s) := by
  have hh := (h.2.2.1 s).2.2.2.1
  unfold pl
  split
  · exact gy_r h hy
  · split
    · exact h
    · split
      · exact up_r h (by omega)
      · split
        · split
          · exact up_r h (by omega)
          · exact h
        · split
          · exact up_r h (by omega)
          · exact h
theorem pl_y {e : Vw} {w s : Int} : (pl e w s).1 6 0 ≤ e.1 6 0 + 1 ∧ (pl e w s).1 0 0 = e.1 0 0 := by
  unfold pl
  split
  · exact ⟨Int.le_refl _, rfl⟩
  · split
    · exact ⟨by omega, rfl⟩
    · split
      · exact ⟨show e.1 6 0 ≤ _ by omega, rfl⟩
      · split
        · split
          · exact ⟨show e.1 6 0 ≤ _ by omega, rfl⟩
          · exact ⟨by omega, rfl⟩
        · split
          · exact ⟨show e.1 6 0 ≤ _ by omega, rfl⟩
          · exact ⟨by omega, rfl⟩
