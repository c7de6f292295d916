/-! the class: ways to put the sounds into houses -/
def ua (a : Int → Int) (s h : Int) : Int → Int := fun q => if q = s then h else a q
def hf (F : Int → Int → Int → Int) (s f t : Int) : Int := if f = -1 then 0 else F s f t
def RF (F : Int → Int → Int → Int) : Prop := ∀ s f t : Int, 0 ≤ f → f ≤ 4 → 0 ≤ t → t ≤ 4 → 0 ≤ F s f t ∧ F s f t ≤ 1098
def RA (a : Int → Int) : Prop := ∀ s : Int, -1 ≤ a s ∧ a s ≤ 4
def WY (F : Int → Int → Int → Int) (n c : Int) (l a : Int → Int) (k : Nat) (M : Mem) : Prop := M 4 0 = n ∧ M 4 1 = c ∧ (∀ s f t : Int, 0 ≤ s → s < k → 0 ≤ f → f < 5 → 0 ≤ t → t < 5 → M 5 ((s * 5 + f) * 5 + t) = F s f t) ∧ (∀ s : Int, 0 ≤ s → s < k → M 6 s = a s) ∧ (∀ t : Int, 0 ≤ t → t < 5 → M 7 t = nzs F a t k) ∧ ∀ s : Int, 0 ≤ s → s < k → M 8 s = if l s = -1 then 1 else 0
theorem hf_r {F : Int → Int → Int → Int} (h : RF F) {s f t : Int} (h1 : -1 ≤ f ∧ f ≤ 4) (h2 : 0 ≤ t ∧ t ≤ 4) : 0 ≤ hf F s f t ∧ hf F s f t ≤ 1098 := by
  unfold hf
  split
  · omega
  · exact h s f t (by omega) (by omega) h2.1 h2.2
theorem nz_r {F : Int → Int → Int → Int} {a : Int → Int} (hF : RF F) (hA : RA a) {t : Int} (h2 : 0 ≤ t ∧ t ≤ 4) (n : Nat) : 0 ≤ nzs F a t n ∧ nzs F a t n ≤ 1098 * n := nzs_r (fun s f h h' => hF s f t h h' h2.1 h2.2) hA n
theorem nz_s (F : Int → Int → Int → Int) (a : Int → Int) (t : Int) (n : Nat) : nzs F a t (n + 1) = nzs F a t n + hf F (n : Int) (a (n : Int)) t := rfl
theorem nz_cg {F : Int → Int → Int → Int} {a b : Int → Int} {t : Int} : ∀ n : Nat, (∀ s : Int, 0 ≤ s → s < n → a s = b s) → nzs F a t n = nzs F b t n
  | 0, _ => rfl
  | n + 1, h => by rw [nz_s, nz_s, nz_cg n (fun s h0 h1 => h s h0 (by omega)), h n (by omega) (by omega)]
theorem nz_ua {F : Int → Int → Int → Int} {a : Int → Int} {s h t : Int} : ∀ n : Nat, 0 ≤ s → s < n → nzs F (ua a s h) t n = nzs F a t n + (hf F s h t - hf F s (a s) t)
  | 0, h0, h1 => by omega
  | n + 1, h0, h1 => by
    rw [nz_s, nz_s]
    by_cases hq : s = (n : Int)
    · subst hq
      rw [nz_cg (a := ua a (n : Int) h) (b := a) n (fun q h2 h3 => by unfold ua; rw [if_neg (by omega)])]
      unfold ua
      rw [if_pos rfl]
      omega
    · rw [nz_ua n h0 (by omega)]
      unfold ua
      rw [if_neg (fun c => hq c.symm)]
      omega
theorem ua_self {a : Int → Int} {s : Int} : ua a s (a s) = a := by
  funext q
  unfold ua
  split
  · rename_i h; rw [h]
  · rfl
theorem ua_ua {a : Int → Int} {s x y : Int} : ua (ua a s x) s y = ua a s y := by
  funext q
  unfold ua
  split <;> rfl
theorem ua_r {a : Int → Int} {s h : Int} (hA : RA a) (hh : -1 ≤ h ∧ h ≤ 4) : RA (ua a s h) := by
  intro q
  unfold ua
  split
  · exact hh
  · exact hA q
theorem c_hf {s f t : Int} {F : Int → Int → Int → Int} {M : Mem} {Q : Int → Mem → Prop} (hs : 0 ≤ s ∧ s < 6) (hf1 : -1 ≤ f ∧ f ≤ 4) (ht : 0 ≤ t ∧ t ≤ 4) (hT : ∀ f t : Int, 0 ≤ f → f < 5 → 0 ≤ t → t < 5 → M 5 ((s * 5 + f) * 5 + t) = F s f t) (k : Q (hf F s f t) M) : wp (f_X6_heardFrom s f t M) Q := by
  unfold f_X6_heardFrom
  unfold hf at k
  by_cases h : f = -1
  · rw [if_pos h] at k
    rw [if_pos h]
    exact wp_some.mpr k
  · rw [if_neg h] at k
    rw [if_neg h, w_id (z := s * 5) (by omega) (by omega), w_id (z := s * 5 + f) (by omega) (by omega), w_id (z := (s * 5 + f) * 5) (by omega) (by omega), w_id (z := (s * 5 + f) * 5 + t) (by omega) (by omega), hT f t (by omega) (by omega) (by omega) (by omega)]
    exact wp_and ⟨by omega, by omega⟩ (wp_some.mpr k)
theorem c_put {s h n c : Int} {F : Int → Int → Int → Int} {l a : Int → Int} {kk : Nat} {M : Mem} {Q : Int → Mem → Prop} (hF : RF F) (hA : RA a) (hk : kk ≤ 6) (hs : 0 ≤ s ∧ s < kk) (hh : -1 ≤ h ∧ h ≤ 4) (hW : WY F n c l a kk M)
    (k : ∀ M', WY F n c l (ua a s h) kk M' → (∀ j, j ≠ 6 → j ≠ 7 → M' j = M j) → Q 0 M') : wp (f_X6_put s h M) Q := by
  unfold f_X6_put
  obtain ⟨w1, w2, w3, w4, w5, w6⟩ := hW
  refine wloop0 (St := Unit) (L := fun fuel x st M' => f_X6_put_2 s h fuel s h x M') 5 (Inv := fun i st M' => (∀ j, j ≠ 7 → M' j = M j) ∧ (∀ t : Int, 0 ≤ t → t < 5 → M' 7 t = if t < (i : Int) then nzs F (ua a s h) t kk else nzs F a t kk)) (Q := Q) (by omega) ?_ ?_ (st := ()) ⟨fun _ _ => rfl, fun t t0 t5 => by rw [if_neg (by omega)]; exact w5 t t0 t5⟩
  · intro i fuel st M' hi ⟨h1, h2⟩ kont
    show wp (f_X6_put_2 s h (fuel + 1) s h (i : Int) M') Q
    rw [f_X6_put_2.eq_2]
    refine wp_f (by omega) (wp_and ⟨by omega, by omega⟩ ?_)
    rw [wp_bind]
    have hT : ∀ f t : Int, 0 ≤ f → f < 5 → 0 ≤ t → t < 5 → M' 5 ((s * 5 + f) * 5 + t) = F s f t := fun f t a1 a2 a3 a4 => by rw [h1 5 (by decide)]; exact w3 s f t hs.1 hs.2 a1 a2 a3 a4
    have e6 : M' 6 s = a s := by rw [h1 6 (by decide)]; exact w4 s hs.1 hs.2
    refine c_hf (F := F) (by omega) hh (by omega) hT ?_
    refine wp_and (by omega) ?_
    rw [wp_bind]
    simp only [e6]
    refine c_hf (F := F) (by omega) (hA s) (by omega) hT ?_
    refine wp_and ⟨by omega, by omega⟩ ?_
    rw [wp_lt]
    have r1 := hf_r hF (s := s) hh (t := i) (by omega)
    have r2 := hf_r hF (s := s) (hA s) (t := i) (by omega)
    have r3 := nz_r hF hA (t := i) (by omega) kk
    have r4 := nz_ua (F := F) (a := a) (s := s) (h := h) (t := i) kk hs.1 hs.2
    have e7 := h2 i (by omega) (by omega)
    rw [if_neg (by omega)] at e7
    rw [e7, w_suc (by omega), w_id (z := hf F s h i - hf F s (a s) i) (by omega) (by omega), w_id (by omega) (by omega), ← r4]
    refine kont () _ ⟨fun j hj => by rw [st_nc hj]; exact h1 j hj, fun t t0 t5 => ?_⟩
    rw [st_ap]
    by_cases ht : t = (i : Int)
    · subst ht
      rw [if_pos ⟨rfl, rfl⟩, if_pos (by omega)]
    · rw [if_neg (fun c => ht c.2), h2 t t0 t5]
      by_cases hlt : t < (i : Int)
      · rw [if_pos hlt, if_pos (by omega)]
      · rw [if_neg hlt, if_neg (by omega)]
  · intro fuel st M' ⟨h1, h2⟩
    show wp (f_X6_put_2 s h (fuel + 1) s h ((5 : Nat) : Int) M') Q
    rw [f_X6_put_2.eq_2]
    refine wp_t (by omega) (wp_and (by omega) ?_)
    rw [wp_lt, wp_some]
    refine k _ ⟨?_, ?_, ?_, ?_, ?_, ?_⟩ (fun j j1 j2 => by rw [st_nc j1]; exact h1 j j2)
    · rw [st_nc (by decide), h1 _ (by decide)]; exact w1
    · rw [st_nc (by decide), h1 _ (by decide)]; exact w2
    · rw [st_nc (by decide), h1 _ (by decide)]; exact w3
    · intro q q0 q1
      rw [st_ap, h1 6 (by decide)]
      unfold ua
      by_cases hq : q = s
      · rw [if_pos ⟨rfl, hq⟩, if_pos hq]
      · rw [if_neg (fun c => hq c.2), if_neg hq]; exact w4 q q0 q1
    · intro t t0 t5
      rw [st_nc (by decide), h2 t t0 t5, if_pos (by omega)]
    · rw [st_nc (by decide), h1 _ (by decide)]; exact w6
theorem c_wgreat {n c : Int} {F : Int → Int → Int → Int} {l a : Int → Int} {kk : Nat} {M : Mem} {Q : Int → Mem → Prop} (hW : WY F n c l a kk M) (k : Q (grs (fun t => nzs F a t kk) 5) M) : wp (f_X6_greatest M) Q := by
  unfold f_X6_greatest
  refine wloop0 (St := Int) (L := fun fuel x st M' => f_X6_greatest_4 fuel st x M') 5 (Inv := fun i st M' => M' = M ∧ st = grs (fun t => nzs F a t kk) i) (Q := Q) (by omega) ?_ ?_ ⟨rfl, rfl⟩
  · intro i fuel st M' hi ⟨h1, h2⟩ kont
    subst h1
    show wp (f_X6_greatest_4 (fuel + 1) st (i : Int) M') Q
    rw [f_X6_greatest_4.eq_2]
    refine wp_f (by omega) (wp_and ⟨by omega, by omega⟩ ?_)
    rw [w_suc (by omega), hW.2.2.2.2.1 i (by omega) (by omega), h2]
    exact kont _ M' ⟨rfl, rfl⟩
  · intro fuel st M' ⟨h1, h2⟩
    subst h1
    show wp (f_X6_greatest_4 (fuel + 1) st ((5 : Nat) : Int) M') Q
    rw [f_X6_greatest_4.eq_2]
    refine wp_t (by omega) ?_
    rw [wp_some, h2]
    exact k
theorem Fh_RF {e : Vw} (h : Rg e) : RF (Fh e) := fun _ _ _ a b c d => Fh_r h a b c d
theorem Rg_RA {e : Vw} (h : Rg e) : RA (e.1 4) := fun s => (h.2.2.1 s).2.2.2.1
theorem c_take {e : Vw} {M : Mem} {Q : Int → Mem → Prop} (hR : Rg e) (hL : LC 22 e M)
    (k : ∀ M', WY (Fh e) (e.1 0 0) (e.2.1 1) (e.1 4) (e.1 4) (e.1 0 0).toNat M' → (∀ j, j ≠ 4 → j ≠ 5 → j ≠ 6 → j ≠ 7 → j ≠ 8 → j ≠ 40 → M' j = M j) → Q 0 M') : wp (f_X6_take 22 M) Q := by
  have ho : isLot 22 := Or.inl rfl
  have hn := hR.1
  obtain ⟨N, hN⟩ : ∃ N : Nat, e.1 0 0 = (N : Int) := ⟨(e.1 0 0).toNat, by omega⟩
  rw [hN, Int.toNat_natCast] at k
  have hstr : M 22 7 ≠ 4 := by have := hL.2.2.2.2.1; unfold isStr at this; omega
  have hkeep : ∀ M' : Mem, (∀ j, j ≠ 4 → j ≠ 5 → j ≠ 6 → j ≠ 7 → j ≠ 8 → j ≠ 40 → M' j = M j) → LC 22 e M' := by
    intro M' hM
    have hr := hL.2.2.2.2.1
    refine ⟨by rw [hM 22 (by decide) (by decide) (by decide) (by decide) (by decide) (by decide)]; exact hL.1, by rw [hM 22 (by decide) (by decide) (by decide) (by decide) (by decide) (by decide)]; exact hL.2.1, ?_, ?_, ?_⟩
    · rw [hM (22 + 1) (by decide) (by decide) (by decide) (by decide) (by decide) (by decide), hM (22 + 2) (by decide) (by decide) (by decide) (by decide) (by decide) (by decide), hM (22 + 3) (by decide) (by decide) (by decide) (by decide) (by decide) (by decide), hM (22 + 4) (by decide) (by decide) (by decide) (by decide) (by decide) (by decide)]
      exact hL.2.2.1
    · rw [hM (22 + 5) (by decide) (by decide) (by decide) (by decide) (by decide) (by decide)]
      exact hL.2.2.2.1
    · rw [hM 22 (by decide) (by decide) (by decide) (by decide) (by decide) (by decide)]
      exact SC_fr2 hL.2.2.2.2 (fun i i0 i5 => by unfold isStr at hr; exact hM _ (by omega) (by omega) (by omega) (by omega) (by omega) (by omega)) rfl
  unfold f_X6_take
  rw [wp_lt, wp_lt]
  have eM1 : stM M 4 0 (M 22 0) (stM M 4 0 (M 22 0) 22 7) 1 = e.2.1 1 := by
    rw [st_nc (show (22 : Int) ≠ 4 by decide), st_nc hstr]
    exact hL.2.2.2.2.2.2.1
  rw [eM1, hL.1, hN]
  generalize hb : stM (stM M 4 0 (N : Int)) 4 1 (e.2.1 1) = M1
  have f1 : ∀ j, j ≠ 4 → M1 j = M j := fun j hj => by rw [← hb, st_nc hj, st_nc hj]
  have f2 : M1 4 0 = N := by rw [← hb]; simp [st_ap]
  have f3 : M1 4 1 = e.2.1 1 := by rw [← hb]; simp [st_ap]
  refine wloop0 (St := Unit) (L := fun fuel x st M' => f_X6_take_21 22 fuel x M') 5 (Inv := fun i st M' => (∀ j, j ≠ 7 → M' j = M1 j) ∧ ∀ t : Int, 0 ≤ t → t < (i : Int) → M' 7 t = 0) (Q := Q) (by omega) ?_ ?_ (st := ()) ⟨fun _ _ => rfl, fun t t0 t1 => by omega⟩
  · intro i fuel st M' hi ⟨h1, h2⟩ kont
    show wp (f_X6_take_21 22 (fuel + 1) (i : Int) M') Q
    rw [f_X6_take_21.eq_2]
    refine wp_f (by omega) (wp_and ⟨by omega, by omega⟩ ?_)
    rw [wp_lt, w_suc (by omega)]
    refine kont () _ ⟨fun j hj => by rw [st_nc hj]; exact h1 j hj, fun t t0 t1 => ?_⟩
    rw [st_ap]
    by_cases hq : t = (i : Int)
    · rw [if_pos ⟨rfl, hq⟩]
    · rw [if_neg (fun c => hq c.2)]; exact h2 t t0 (by omega)
  · intro fuel st M2 ⟨h1, h2⟩
    show wp (f_X6_take_21 22 (fuel + 1) ((5 : Nat) : Int) M2) Q
    rw [f_X6_take_21.eq_2]
    refine wp_t (by omega) ?_
    refine wloop0 (St := Unit) (L := fun fuel x st M' => f_X6_take_41 22 fuel x M') N (Inv := fun i st M' => (∀ j, j ≠ 4 → j ≠ 5 → j ≠ 6 → j ≠ 7 → j ≠ 8 → j ≠ 40 → M' j = M j) ∧ WY (Fh e) N (e.2.1 1) (e.1 4) (e.1 4) i M') (Q := Q) (by omega) ?_ ?_ (st := ()) ⟨fun j a b c d _ _ => by rw [h1 j d, f1 j a], ⟨by rw [h1 _ (by decide)]; exact f2, by rw [h1 _ (by decide)]; exact f3, fun s _ _ a b => by omega, fun s a b => by omega, fun t a b => h2 t a (by omega), fun s a b => by omega⟩⟩
    · intro i fuel st M3 hi ⟨g1, g2⟩ kont
      show wp (f_X6_take_41 22 (fuel + 1) (i : Int) M3) Q
      rw [f_X6_take_41.eq_2, g2.1]
      refine wp_f (by omega) ?_
      obtain ⟨w1, w2, w3, w4, w5, w6⟩ := g2
      have hlost := (hL.2.2.1 i (by omega) (by omega)).2.2.2
      -- from each house
      refine wloop0 (St := Unit) (L := fun fuel' x st M' => f_X6_take_51 22 (f_X6_take_41 22 fuel) fuel' (i : Int) x M') 5 (Inv := fun f st M' => (∀ j, j ≠ 5 → j ≠ 40 → M' j = M3 j) ∧ ∀ s f' t : Int, 0 ≤ s → 0 ≤ f' → f' < 5 → 0 ≤ t → t < 5 → (s * 5 + f') * 5 + t < ((i : Int) * 5 + (f : Int)) * 5 → M' 5 ((s * 5 + f') * 5 + t) = Fh e s f' t) (Q := Q) (by omega) ?_ ?_ (st := ()) ⟨fun _ _ _ => rfl, fun s f' t a b c d e' h => w3 s f' t a (by omega) b c d e'⟩
      · intro f fuel' st M4 hf ⟨t1, t2⟩ kont2
        show wp (f_X6_take_51 22 (f_X6_take_41 22 fuel) (fuel' + 1) (i : Int) (f : Int) M4) Q
        rw [f_X6_take_51.eq_2]
        refine wp_f (by omega) ?_
        rw [wp_bind]
        have k4 : ∀ j, j ≠ 4 → j ≠ 5 → j ≠ 6 → j ≠ 7 → j ≠ 8 → j ≠ 40 → M4 j = M j := fun j a b c d e' h => by rw [t1 j b h, g1 j a b c d e' h]
        refine c_voice hR ho (hkeep M4 k4) (by omega) ?_
        intro M5 u1
        have u2 : ∀ j, j ≠ 40 → M5 j = M4 j := fun j hj => u1 j hj
        refine wloop0 (St := Unit) (L := fun fuel'' x st M' => f_X6_take_67 22 (f_X6_take_41 22 fuel) (f_X6_take_51 22 (f_X6_take_41 22 fuel) fuel') fuel'' (i : Int) (f : Int) (vo e i f) x M') 5 (Inv := fun t st M' => (∀ j, j ≠ 5 → M' j = M5 j) ∧ ∀ s f' t' : Int, 0 ≤ s → 0 ≤ f' → f' < 5 → 0 ≤ t' → t' < 5 → (s * 5 + f') * 5 + t' < ((i : Int) * 5 + (f : Int)) * 5 + (t : Int) → M' 5 ((s * 5 + f') * 5 + t') = Fh e s f' t') (Q := Q) (by omega) ?_ ?_ (st := ()) ⟨fun _ _ => rfl, fun s f' t' a b c d e' h => by show M5 5 _ = _; rw [u2 5 (by decide)]; exact t2 s f' t' a b c d e' (by omega)⟩
        · intro t fuel'' st M6 ht ⟨v1, v2⟩ kont3
          show wp (f_X6_take_67 22 (f_X6_take_41 22 fuel) (f_X6_take_51 22 (f_X6_take_41 22 fuel) fuel') (fuel'' + 1) (i : Int) (f : Int) (vo e i f) (t : Int) M6) Q
          rw [f_X6_take_67.eq_2]
          refine wp_f (by omega) ?_
          rw [wp_bind]
          refine c_heard hR (hkeep M6 (fun j a b c d e' h => by rw [v1 j b, u2 j h, k4 j a b c d e' h])) (by omega) (by omega) (by omega) (vo_r hR _ _) ?_
          rw [w_id (z := (i : Int) * 5) (by omega) (by omega), w_id (z := (i : Int) * 5 + f) (by omega) (by omega), w_id (z := ((i : Int) * 5 + f) * 5) (by omega) (by omega), w_id (z := ((i : Int) * 5 + f) * 5 + t) (by omega) (by omega)]
          refine wp_and ⟨by omega, by omega⟩ ?_
          simp only []
          rw [wp_lt, w_suc (by omega)]
          refine kont3 () _ ⟨fun j hj => by rw [st_nc hj]; exact v1 j hj, fun s f' t' a b c d e' h => ?_⟩
          rw [st_ap]
          by_cases hq : (s * 5 + f') * 5 + t' = ((i : Int) * 5 + f) * 5 + t
          · rw [if_pos ⟨rfl, hq⟩]
            obtain rfl : s = (i : Int) := by omega
            obtain rfl : f' = (f : Int) := by omega
            obtain rfl : t' = (t : Int) := by omega
            rfl
          · rw [if_neg (fun c => hq c.2)]
            exact v2 s f' t' a b c d e' (by omega)
        · intro fuel'' st M6 ⟨v1, v2⟩
          show wp (f_X6_take_67 22 (f_X6_take_41 22 fuel) (f_X6_take_51 22 (f_X6_take_41 22 fuel) fuel') (fuel'' + 1) (i : Int) (f : Int) (vo e i f) ((5 : Nat) : Int) M6) Q
          rw [f_X6_take_67.eq_2]
          refine wp_t (by omega) ?_
          rw [w_suc (by omega)]
          exact kont2 () M6 ⟨fun j a b => by rw [v1 j a, u2 j b, t1 j a b], fun s f' t' a b c d e' h => v2 s f' t' a b c d e' (by omega)⟩
      · intro fuel' st M4 ⟨t1, t2⟩
        show wp (f_X6_take_51 22 (f_X6_take_41 22 fuel) (fuel' + 1) (i : Int) ((5 : Nat) : Int) M4) Q
        rw [f_X6_take_51.eq_2]
        refine wp_t (by omega) ?_
        rw [wp_bind]
        refine c_isLost (by omega) ?_
        rw [t1 (22 + 4) (by decide) (by decide), g1 (22 + 4) (by decide) (by decide) (by decide) (by decide) (by decide) (by decide), hlost]
        refine wp_and (by omega) ?_
        simp only []
        rw [wp_lt]
        refine wp_and (by omega) ?_
        rw [wp_lt]
        refine wp_and (by omega) ?_
        rw [wp_bind, st_nc (show (22 + 4 : Int) ≠ 6 by decide), st_nc (show (22 + 4 : Int) ≠ 8 by decide), t1 (22 + 4) (by decide) (by decide), g1 (22 + 4) (by decide) (by decide) (by decide) (by decide) (by decide) (by decide), hlost]
        generalize hb2 : stM (stM M4 8 (i : Int) _) 6 (i : Int) (-1) = M5
        have y1 : ∀ j, j ≠ 6 → j ≠ 8 → M5 j = M4 j := fun j a b => by rw [← hb2, st_nc a, st_nc b]
        have hW : WY (Fh e) N (e.2.1 1) (e.1 4) (ua (e.1 4) i (-1)) (i + 1) M5 := by
          refine ⟨?_, ?_, ?_, ?_, ?_, ?_⟩
          · rw [y1 4 (by decide) (by decide), t1 4 (by decide) (by decide)]; exact w1
          · rw [y1 4 (by decide) (by decide), t1 4 (by decide) (by decide)]; exact w2
          · intro s f t a b c d e' h
            rw [y1 5 (by decide) (by decide)]
            exact t2 s f t a c d e' h (by omega)
          · intro s a b
            rw [← hb2, st_ap]
            unfold ua
            by_cases hq : s = (i : Int)
            · rw [if_pos ⟨rfl, hq⟩, if_pos hq]
            · rw [if_neg (fun c => hq c.2), if_neg hq, st_nc (show (6 : Int) ≠ 8 by decide), t1 6 (by decide) (by decide)]
              exact w4 s a (by omega)
          · intro t a b
            rw [y1 7 (by decide) (by decide), t1 7 (by decide) (by decide), w5 t a b, nz_s, nz_cg (a := ua (e.1 4) i (-1)) (b := e.1 4) i (fun q h2 h3 => by unfold ua; rw [if_neg (by omega)])]
            unfold ua hf
            rw [if_pos rfl, if_pos rfl]
            omega
          · intro s a b
            rw [← hb2, st_nc (show (8 : Int) ≠ 6 by decide), st_ap]
            by_cases hq : s = (i : Int)
            · rw [if_pos ⟨rfl, hq⟩, hq]
            · rw [if_neg (fun c => hq c.2), t1 8 (by decide) (by decide)]
              exact w6 s a (by omega)
        refine c_put (Fh_RF hR) (ua_r (Rg_RA hR) (by omega)) (by omega) (by omega) (Rg_RA hR i) hW ?_
        intro M6 z1 z2
        simp only []
        rw [w_suc (by omega)]
        rw [ua_ua, ua_self] at z1
        exact kont () M6 ⟨fun j a b c d e' h => by rw [z2 j c d, y1 j c e', t1 j b h, g1 j a b c d e' h], z1⟩
    · intro fuel st M3 ⟨g1, g2⟩
      show wp (f_X6_take_41 22 (fuel + 1) (N : Int) M3) Q
      rw [f_X6_take_41.eq_2, g2.1]
      refine wp_t (by omega) ?_
      rw [wp_some]
      exact k M3 g2 g1
