/-! the class: sharing out -/
abbrev Bst : Type := Int × Int × (Int → Int)
def sums (f : Int → Int) : Nat → Int
  | 0 => 0
  | n + 1 => sums f n + f (n : Int)
def bet (g t : Int) (b : Bst) : Prop := g < b.1 ∨ (g = b.1 ∧ t < b.2.1)
theorem bet_dec (g t : Int) (b : Bst) : bet g t b ∨ ¬ bet g t b := by
  unfold bet
  by_cases h : g < b.1 ∨ (g = b.1 ∧ t < b.2.1)
  · exact Or.inl h
  · exact Or.inr h
def leaf (F : Int → Int → Int → Int) (N : Nat) (a : Int → Int) (b : Bst) : Bst := if gA F N a < b.1 ∨ (gA F N a = b.1 ∧ sums (fun t => nzs F a t N) 5 < b.2.1) then (gA F N a, sums (fun t => nzs F a t N) 5, a) else b
def each (g : Int → Bst → Bst) : Nat → Int → Bst → Bst
  | 0, _, b => b
  | m + 1, h, b => each g m (h + 1) (g h b)
def shr (F : Int → Int → Int → Int) (N : Nat) (l : Int → Int) : Nat → Int → (Int → Int) → Bst → Bst
  | 0, _, a, b => leaf F N a b
  | k + 1, s, a, b => if l s = -1 then shr F N l k (s + 1) (ua a s (-1)) b else each (fun h b => shr F N l k (s + 1) (ua a s h) b) 5 0 b
def lh5 (F : Int → Int → Int → Int) (z : Int) (s t : Int) : Nat → Int
  | 0 => z
  | n + 1 => min (lh5 F z s t n) (F s (n : Int) t)
def lh (F : Int → Int → Int → Int) (l : Int → Int) (s t : Int) : Int := if l s = -1 then 0 else lh5 F 1000000 s t 5
def ls (F : Int → Int → Int → Int) (l : Int → Int) (t : Int) : Nat → Int → Int
  | 0, _ => 0
  | k + 1, s => lh F l s t + ls F l t k (s + 1)
def Bn (F : Int → Int → Int → Int) (l : Int → Int) (k : Nat) (s : Nat) (a : Int → Int) (t : Int) : Int := nzs F a t s + ls F l t k (s : Int)
theorem lh5_le {F : Int → Int → Int → Int} {z s t : Int} : ∀ (n : Nat) (h : Int), 0 ≤ h → h < n → lh5 F z s t n ≤ F s h t
  | 0, h, h0, h1 => by omega
  | n + 1, h, h0, h1 => by
    unfold lh5
    by_cases hq : h = (n : Int)
    · subst hq; omega
    · have := lh5_le (F := F) (z := z) (s := s) (t := t) n h h0 (by omega)
      omega
theorem lh5_r {F : Int → Int → Int → Int} (hF : RF F) {z s t : Int} (ht : 0 ≤ t ∧ t ≤ 4) (hz : 0 ≤ z) : ∀ n : Nat, n ≤ 5 → 0 ≤ lh5 F z s t n ∧ lh5 F z s t n ≤ z
  | 0, _ => by unfold lh5; omega
  | n + 1, hn => by
    have ih := lh5_r hF (s := s) ht hz n (by omega)
    have := hF s n t (by omega) (by omega) ht.1 ht.2
    unfold lh5
    omega
theorem lh_r {F : Int → Int → Int → Int} (hF : RF F) {l : Int → Int} {s t : Int} (ht : 0 ≤ t ∧ t ≤ 4) : 0 ≤ lh F l s t ∧ lh F l s t ≤ 1098 := by
  unfold lh
  split
  · omega
  · have a := lh5_r hF (s := s) (z := 1000000) ht (by decide) 5 (by decide)
    have b := lh5_le (F := F) (z := 1000000) (s := s) (t := t) 5 0 (by decide) (by decide)
    have c := hF s 0 t (by decide) (by decide) ht.1 ht.2
    omega
theorem lh_hf {F : Int → Int → Int → Int} {l : Int → Int} {s h t : Int} (hh : if l s = -1 then h = -1 else 0 ≤ h ∧ h ≤ 4) : lh F l s t ≤ hf F s h t := by
  unfold lh hf
  by_cases hl : l s = -1
  · rw [if_pos hl] at hh ⊢
    rw [if_pos hh]; omega
  · rw [if_neg hl] at hh ⊢
    rw [if_neg (by omega)]
    exact lh5_le 5 h hh.1 (by omega)
theorem ls_r {F : Int → Int → Int → Int} (hF : RF F) {l : Int → Int} {t : Int} (ht : 0 ≤ t ∧ t ≤ 4) : ∀ (k : Nat) (s : Int), 0 ≤ ls F l t k s ∧ ls F l t k s ≤ 1098 * k
  | 0, s => by unfold ls; omega
  | k + 1, s => by
    have ih := ls_r hF (l := l) ht k (s + 1)
    have := lh_r hF (l := l) (s := s) ht
    unfold ls
    omega
theorem Bn_r {F : Int → Int → Int → Int} (hF : RF F) {l a : Int → Int} (hA : RA a) {t : Int} (ht : 0 ≤ t ∧ t ≤ 4) {k s : Nat} (hk : s + k ≤ 6) : 0 ≤ Bn F l k s a t ∧ Bn F l k s a t ≤ 6588 := by
  have a1 := nz_r hF hA ht s
  have a2 := ls_r hF (l := l) ht k s
  unfold Bn
  omega
theorem Bn_s {F : Int → Int → Int → Int} {l a : Int → Int} {k s : Nat} {h t : Int} : Bn F l k (s + 1) (ua a s h) t = Bn F l (k + 1) s a t - lh F l s t + hf F s h t := by
  unfold Bn
  rw [nz_s, nz_cg (a := ua a (s : Int) h) (b := a) s (fun q h2 h3 => by unfold ua; rw [if_neg (by omega)])]
  rw [show ua a (s : Int) h (s : Int) = h by unfold ua; rw [if_pos rfl]]
  rw [show ls F l t (k + 1) (s : Int) = lh F l s t + ls F l t k ((s : Int) + 1) from rfl, show (s : Int) + 1 = ((s + 1 : Nat) : Int) by omega]
  omega
theorem grs_m {f g : Int → Int} : ∀ n : Nat, n ≤ 5 → (∀ t : Int, 0 ≤ t → t < 5 → f t ≤ g t) → grs f n ≤ grs g n
  | 0, _, _ => Int.le_refl _
  | n + 1, hn, h => by
    have ih := grs_m n (by omega) h
    have := h n (by omega) (by omega)
    unfold grs
    omega
theorem sums_m {f g : Int → Int} : ∀ n : Nat, n ≤ 5 → (∀ t : Int, 0 ≤ t → t < 5 → f t ≤ g t) → sums f n ≤ sums g n
  | 0, _, _ => Int.le_refl _
  | n + 1, hn, h => by
    have ih := sums_m n (by omega) h
    have := h n (by omega) (by omega)
    unfold sums
    omega
theorem grs_cg {f g : Int → Int} : ∀ n : Nat, n ≤ 5 → (∀ t : Int, 0 ≤ t → t < 5 → f t = g t) → grs f n = grs g n
  | 0, _, _ => rfl
  | n + 1, hn, h => by unfold grs; rw [grs_cg n (by omega) h, h n (by omega) (by omega)]
theorem sums_cg {f g : Int → Int} : ∀ n : Nat, n ≤ 5 → (∀ t : Int, 0 ≤ t → t < 5 → f t = g t) → sums f n = sums g n
  | 0, _, _ => rfl
  | n + 1, hn, h => by unfold sums; rw [sums_cg n (by omega) h, h n (by omega) (by omega)]
theorem bet_m {f g : Int → Int} {b : Bst} (h : ∀ t : Int, 0 ≤ t → t < 5 → f t ≤ g t) (hn : ¬ bet (grs f 5) (sums f 5) b) : ¬ bet (grs g 5) (sums g 5) b := by
  have a := grs_m 5 (by decide) h
  have c := sums_m 5 (by decide) h
  unfold bet at hn ⊢
  omega
theorem each_id {g : Int → Bst → Bst} {b : Bst} : ∀ (m : Nat) (h : Int), (∀ q : Int, h ≤ q → q < h + m → g q b = b) → each g m h b = b
  | 0, _, _ => rfl
  | m + 1, h, hg => by
    unfold each
    rw [hg h (by omega) (by omega)]
    exact each_id m (h + 1) (fun q h1 h2 => hg q (by omega) (by omega))
/-- what can't be better needn't be looked at -/
theorem shr_no {F : Int → Int → Int → Int} {N : Nat} {l : Int → Int} {b : Bst} : ∀ (k s : Nat) (a : Int → Int), s + k = N → ¬ bet (grs (Bn F l k s a) 5) (sums (Bn F l k s a) 5) b → shr F N l k (s : Int) a b = b
  | 0, s, a, hN, hb => by
    have e : Bn F l 0 s a = fun t => nzs F a t N := by
      funext t
      unfold Bn ls
      rw [show s = N by omega]; omega
    rw [e] at hb
    unfold shr leaf
    exact if_neg hb
  | k + 1, s, a, hN, hb => by
    have step : ∀ h : Int, (if l (s : Int) = -1 then h = -1 else 0 ≤ h ∧ h ≤ 4) → shr F N l k ((s : Int) + 1) (ua a s h) b = b := by
      intro h hh
      rw [show (s : Int) + 1 = ((s + 1 : Nat) : Int) by omega]
      refine shr_no k (s + 1) (ua a s h) (by omega) (bet_m (fun t _ _ => ?_) hb)
      rw [Bn_s]
      have := lh_hf (F := F) (l := l) (s := s) (h := h) (t := t) hh
      omega
    unfold shr
    by_cases hl : l (s : Int) = -1
    · rw [if_pos hl]
      exact step (-1) (by rw [if_pos hl])
    · rw [if_neg hl]
      exact each_id 5 0 (fun q h1 h2 => step q (by rw [if_neg hl]; omega))
/-- how it stands ahead of the SOUND s -/
def SI (F : Int → Int → Int → Int) (l : Int → Int) (N s : Nat) (a : Int → Int) (b : Bst) (M : Mem) : Prop := M 4 0 = N ∧ (∀ s f t : Int, 0 ≤ s → s < N → 0 ≤ f → f < 5 → 0 ≤ t → t < 5 → M 5 ((s * 5 + f) * 5 + t) = F s f t) ∧ (∀ s : Int, 0 ≤ s → s < N → M 8 s = if l s = -1 then 1 else 0) ∧ (∀ s t : Int, 0 ≤ s → s < N → 0 ≤ t → t < 5 → M 9 (s * 5 + t) = lh F l s t) ∧ (∀ t : Int, 0 ≤ t → t < 5 → M 10 ((s : Int) * 5 + t) = Bn F l (N - s) s a t) ∧ (∀ q : Int, 0 ≤ q → q < s → M 6 q = a q) ∧ M 4 9 = b.1 ∧ M 4 10 = b.2.1 ∧ ∀ q : Int, 0 ≤ q → q < N → M 11 q = b.2.2 q
theorem c_better {F : Int → Int → Int → Int} {l a : Int → Int} {N s : Nat} {b : Bst} {h : Int} {M : Mem} {Q : Int → Mem → Prop} (hF : RF F) (hA : RA a) (hN : N ≤ 6) (hs : s < N) (hh : if l (s : Int) = -1 then h = -1 else 0 ≤ h ∧ h ≤ 4) (hI : SI F l N s a b M)
    (k : ∀ M', (∀ j, j ≠ 6 → j ≠ 10 → M' j = M j) → (∀ q : Int, q < ((s : Int) + 1) * 5 → M' 10 q = M 10 q) → (∀ q : Int, q ≠ s → M' 6 q = M 6 q) → SI F l N (s + 1) (ua a s h) b M' → Q (if grs (Bn F l (N - (s + 1)) (s + 1) (ua a s h)) 5 < b.1 ∨ (grs (Bn F l (N - (s + 1)) (s + 1) (ua a s h)) 5 = b.1 ∧ sums (Bn F l (N - (s + 1)) (s + 1) (ua a s h)) 5 < b.2.1) then 1 else 0) M') : wp (f_X6_isBetter (s : Int) h M) Q := by
  obtain ⟨i1, i2, i3, i4, i5, i6, i7, i8, i9⟩ := hI
  have hh1 : -1 ≤ h ∧ h ≤ 4 := by
    by_cases hl : l (s : Int) = -1
    · rw [if_pos hl] at hh; omega
    · rw [if_neg hl] at hh; omega
  have hA' := ua_r (s := s) hA hh1
  unfold f_X6_isBetter
  refine wp_and (by omega) ?_
  rw [wp_lt]
  generalize hG : Bn F l (N - (s + 1)) (s + 1) (ua a s h) = G at k
  have hGr : ∀ t : Int, 0 ≤ t → t ≤ 4 → 0 ≤ G t ∧ G t ≤ 6588 := fun t t0 t4 => by rw [← hG]; exact Bn_r hF hA' ⟨t0, t4⟩ (by omega)
  have sumr : ∀ n : Nat, n ≤ 5 → 0 ≤ sums G n ∧ sums G n ≤ 6588 * n := by
    intro n
    induction n with
    | zero => intro _; unfold sums; omega
    | succ n ih =>
      intro hn
      have := ih (by omega)
      have := hGr n (by omega) (by omega)
      unfold sums
      omega
  refine wloop0 (St := Int × Int) (L := fun fuel x st M' => f_X6_isBetter_15 (s : Int) h fuel (s : Int) h st.1 st.2 x M') 5 (Inv := fun i st M' => st = (grs G i, sums G i) ∧ (∀ j, j ≠ 6 → j ≠ 10 → M' j = M j) ∧ (∀ q : Int, q < ((s : Int) + 1) * 5 → M' 10 q = M 10 q) ∧ (∀ q, M' 6 q = stM M 6 s h 6 q) ∧ ∀ t : Int, 0 ≤ t → t < (i : Int) → M' 10 (((s : Int) + 1) * 5 + t) = G t) (Q := Q) (by omega) ?_ ?_ (st := (0, 0)) ⟨rfl, fun j j1 _ => st_nc j1, fun q _ => by rw [st_nc (by decide)], fun _ => rfl, fun t t0 t1 => by omega⟩
  · intro i fuel st M' hi ⟨h0, h1, h2, h3, h4⟩ kont
    subst h0
    show wp (f_X6_isBetter_15 (s : Int) h (fuel + 1) (s : Int) h (grs G i) (sums G i) (i : Int) M') Q
    rw [f_X6_isBetter_15.eq_2, w_id (z := (s : Int) * 5) (by omega) (by omega), w_id (z := (s : Int) * 5 + i) (by omega) (by omega), w_id (z := (s : Int) * 5 + i + 5) (by omega) (by omega)]
    refine wp_f (by omega) (wp_and (by omega) (wp_and (by omega) ?_))
    rw [wp_bind]
    refine c_hf (F := F) (by omega) hh1 (by omega) (fun f t a1 a2 a3 a4 => by rw [h1 5 (by decide) (by decide)]; exact i2 s f t (by omega) (by omega) a1 a2 a3 a4) ?_
    refine wp_and (by omega) ?_
    simp only []
    rw [wp_lt, h2 _ (by omega), i5 i (by omega) (by omega), h1 9 (by decide) (by decide), i4 s i (by omega) (by omega) (by omega) (by omega)]
    have r1 := lh_r hF (l := l) (s := s) (t := i) (by omega)
    have r2 := hf_r hF (s := s) hh1 (t := i) (by omega)
    have r3 := Bn_r hF (l := l) hA (t := i) (k := N - s) (s := s) (by omega) (by omega)
    have e1 : G (i : Int) = Bn F l (N - s) s a i - lh F l s i + hf F s h i := by
      rw [← hG, Bn_s, show N - (s + 1) + 1 = N - s by omega]
    have r4 := hGr i (by omega) (by omega)
    have r5 := sumr i (by omega)
    rw [w_id (z := Bn F l (N - s) s a i - lh F l s i) (by omega) (by omega), ← e1, w_id (z := G i) (by omega) (by omega), w_id (z := sums G i + G i) (by omega) (by omega), w_suc (by omega)]
    refine kont (grs G (i + 1), sums G (i + 1)) _ ⟨rfl, fun j j1 j2 => by rw [st_nc j2]; exact h1 j j1 j2, fun q hq => by rw [st_ap, if_neg (by omega)]; exact h2 q hq, fun q => by rw [st_nc (by decide)]; exact h3 q, fun t t0 t1 => ?_⟩
    rw [st_ap]
    by_cases ht : t = (i : Int)
    · subst ht
      rw [if_pos ⟨rfl, by omega⟩]
    · rw [if_neg (by omega)]
      exact h4 t t0 (by omega)
  · intro fuel st M' ⟨h0, h1, h2, h3, h4⟩
    subst h0
    show wp (f_X6_isBetter_15 (s : Int) h (fuel + 1) (s : Int) h (grs G 5) (sums G 5) ((5 : Nat) : Int) M') Q
    rw [f_X6_isBetter_15.eq_2, h1 4 (by decide) (by decide), i7, i8]
    refine wp_t (by omega) ?_
    have kk := k M' h1 h2 (fun q hq => by rw [h3 q, st_ap, if_neg (by omega)]) ⟨by rw [h1 4 (by decide) (by decide)]; exact i1, by rw [h1 5 (by decide) (by decide)]; exact i2, by rw [h1 8 (by decide) (by decide)]; exact i3, by rw [h1 9 (by decide) (by decide)]; exact i4, fun t t0 t5 => by rw [hG]; exact h4 t t0 (by omega), fun q q0 q1 => by
        rw [h3 q, st_ap]
        unfold ua
        by_cases hq : q = (s : Int)
        · rw [if_pos ⟨rfl, hq⟩, if_pos hq]
        · rw [if_neg (by omega), if_neg hq]; exact i6 q q0 (by omega), by rw [h1 4 (by decide) (by decide)]; exact i7, by rw [h1 4 (by decide) (by decide)]; exact i8, by rw [h1 11 (by decide) (by decide)]; exact i9⟩
    by_cases g1 : grs G 5 < b.1
    · rw [if_pos (Or.inl g1)] at kk
      exact wp_t g1 (wp_some.mpr kk)
    · refine wp_f g1 ?_
      by_cases g2 : grs G 5 = b.1
      · refine wp_t g2 ?_
        by_cases g3 : sums G 5 < b.2.1
        · rw [if_pos (Or.inr ⟨g2, g3⟩)] at kk
          exact wp_f (by omega) (wp_some.mpr kk)
        · rw [if_neg (by omega)] at kk
          exact wp_t (by omega) (wp_some.mpr kk)
      · rw [if_neg (by omega)] at kk
        exact wp_f g2 (wp_some.mpr kk)
theorem c_keep {F : Int → Int → Int → Int} {l a : Int → Int} {N : Nat} {b : Bst} {M : Mem} {Q : Int → Mem → Prop} (hF : RF F) (hA : RA a) (hN : N ≤ 6) (hI : SI F l N N a b M)
    (k : ∀ M', (∀ j, j ≠ 4 → j ≠ 11 → M' j = M j) → SI F l N N a (gA F N a, sums (fun t => nzs F a t N) 5, a) M' → M' 4 1 = M 4 1 → Q 0 M') : wp (f_X6_keepWay M) Q := by
  obtain ⟨i1, i2, i3, i4, i5, i6, i7, i8, i9⟩ := hI
  have i5' : ∀ t : Int, 0 ≤ t → t < 5 → M 10 ((N : Int) * 5 + t) = nzs F a t N := by
    intro t t0 t5
    rw [i5 t t0 t5, Nat.sub_self]
    unfold Bn ls
    omega
  have nr : ∀ t : Int, 0 ≤ t → t ≤ 4 → 0 ≤ nzs F a t N ∧ nzs F a t N ≤ 6588 := fun t t0 t4 => by
    have := nz_r hF hA (t := t) ⟨t0, t4⟩ N
    omega
  have sumr : ∀ n : Nat, n ≤ 5 → 0 ≤ sums (fun t => nzs F a t N) n ∧ sums (fun t => nzs F a t N) n ≤ 6588 * n := by
    intro n
    induction n with
    | zero => intro _; unfold sums; omega
    | succ n ih =>
      intro hn
      have := ih (by omega)
      have := nr n (by omega) (by omega)
      unfold sums
      omega
  unfold f_X6_keepWay
  rw [wp_lt, wp_lt]
  refine wloop0 (St := Unit) (L := fun fuel x st M' => f_X6_keepWay_12 fuel x M') 5 (Inv := fun i st M' => (∀ j, j ≠ 4 → M' j = M j) ∧ (∀ q, q ≠ 9 → q ≠ 10 → M' 4 q = M 4 q) ∧ M' 4 9 = grs (fun t => nzs F a t N) i ∧ M' 4 10 = sums (fun t => nzs F a t N) i) (Q := Q) (by omega) ?_ ?_ (st := ()) ⟨fun j hj => by rw [st_nc hj, st_nc hj], fun q q1 q2 => by rw [st_ap, if_neg (by omega), st_ap, if_neg (by omega)], by simp [st_ap, grs], by simp [st_ap, sums]⟩
  · intro i fuel st M' hi ⟨h1, h2, h3, h4⟩ kont
    show wp (f_X6_keepWay_12 (fuel + 1) (i : Int) M') Q
    have r := nr i (by omega) (by omega)
    have r5 := sumr i (by omega)
    rw [f_X6_keepWay_12.eq_2, h2 0 (by decide) (by decide), i1, w_id (z := (N : Int) * 5) (by omega) (by omega), w_id (z := (N : Int) * 5 + i) (by omega) (by omega), h1 10 (by decide), i5' i (by omega) (by omega), h3]
    refine wp_f (by omega) (wp_and (by omega) ?_)
    rw [wp_lt, wp_lt, st_ap (M := M') (j := 4) (q := 10), if_neg (by omega), h4, w_suc (by omega), w_id (by omega) (by omega)]
    refine kont () _ ⟨fun j hj => by rw [st_nc hj, st_nc hj]; exact h1 j hj, fun q q1 q2 => by rw [st_ap, if_neg (by omega), st_ap, if_neg (by omega)]; exact h2 q q1 q2, ?_, ?_⟩
    · simp [st_ap, grs]
    · simp [st_ap, sums]
  · intro fuel st M' ⟨h1, h2, h3, h4⟩
    show wp (f_X6_keepWay_12 (fuel + 1) ((5 : Nat) : Int) M') Q
    rw [f_X6_keepWay_12.eq_2]
    refine wp_t (by omega) ?_
    refine wloop0 (St := Unit) (L := fun fuel x st M' => f_X6_keepWay_61 fuel x M') N (Inv := fun i st M2 => (∀ j, j ≠ 11 → M2 j = M' j) ∧ ∀ q : Int, 0 ≤ q → q < (i : Int) → M2 11 q = a q) (Q := Q) (by omega) ?_ ?_ (st := ()) ⟨fun _ _ => rfl, fun q q0 q1 => by omega⟩
    · intro i fuel st M2 hi ⟨g1, g2⟩ kont
      show wp (f_X6_keepWay_61 (fuel + 1) (i : Int) M2) Q
      rw [f_X6_keepWay_61.eq_2, g1 4 (by decide), h2 0 (by decide) (by decide), i1, g1 6 (by decide), h1 6 (by decide), i6 i (by omega) (by omega)]
      refine wp_f (by omega) (wp_and (by omega) (wp_and (by omega) ?_))
      rw [wp_lt, w_suc (by omega)]
      refine kont () _ ⟨fun j hj => by rw [st_nc hj]; exact g1 j hj, fun q q0 q1 => ?_⟩
      rw [st_ap]
      by_cases hq : q = (i : Int)
      · rw [if_pos ⟨rfl, hq⟩, hq]
      · rw [if_neg (by omega)]; exact g2 q q0 (by omega)
    · intro fuel st M2 ⟨g1, g2⟩
      show wp (f_X6_keepWay_61 (fuel + 1) (N : Int) M2) Q
      rw [f_X6_keepWay_61.eq_2, g1 4 (by decide), h2 0 (by decide) (by decide), i1]
      refine wp_t (by omega) ?_
      rw [wp_some]
      have fr : ∀ j, j ≠ 4 → j ≠ 11 → M2 j = M j := fun j a b => (g1 j b).trans (h1 j a)
      exact k M2 fr ⟨by rw [g1 4 (by decide), h2 0 (by decide) (by decide)]; exact i1, by rw [fr 5 (by decide) (by decide)]; exact i2, by rw [fr 8 (by decide) (by decide)]; exact i3, by rw [fr 9 (by decide) (by decide)]; exact i4, by rw [fr 10 (by decide) (by decide)]; exact i5, by rw [fr 6 (by decide) (by decide)]; exact i6, by rw [g1 4 (by decide)]; exact h3, by rw [g1 4 (by decide)]; exact h4, g2⟩ (by rw [g1 4 (by decide), h2 1 (by decide) (by decide)])
theorem SI_better {F : Int → Int → Int → Int} {l a : Int → Int} {N s : Nat} {b : Bst} : (grs (Bn F l (N - s) s a) 5 < b.1 ∨ (grs (Bn F l (N - s) s a) 5 = b.1 ∧ sums (Bn F l (N - s) s a) 5 < b.2.1)) ↔ bet (grs (Bn F l (N - s) s a) 5) (sums (Bn F l (N - s) s a) 5) b := Iff.rfl
theorem c_shareF {F : Int → Int → Int → Int} {l : Int → Int} {N : Nat} (hF : RF F) (hN : N ≤ 6) : ∀ (k fuel s : Nat) (a : Int → Int) (b : Bst) (M : Mem) (Q : Int → Mem → Prop), k < fuel → s + k = N → RA a → bet (grs (Bn F l k s a) 5) (sums (Bn F l k s a) 5) b → SI F l N s a b M →
    (∀ M' a' b', (∀ j, j ≠ 4 → j ≠ 6 → j ≠ 10 → j ≠ 11 → M' j = M j) → M' 4 1 = M 4 1 → (∀ q : Int, q < s → M' 6 q = M 6 q) → (∀ q : Int, q < ((s : Int) + 1) * 5 → M' 10 q = M 10 q) → RA a' → (b' = shr F N l k (s : Int) a b) → M' 4 0 = M 4 0 → M' 4 9 = b'.1 → M' 4 10 = b'.2.1 → (∀ q : Int, 0 ≤ q → q < N → M' 11 q = b'.2.2 q) → Q 0 M') → wp (f_X6_shareFrom fuel (s : Int) M) Q := by
  intro k
  induction k with
  | zero =>
    intro fuel s a b M Q hf hs hA hb hI kont
    obtain ⟨f, rfl⟩ : ∃ f, fuel = f + 1 := ⟨fuel - 1, by omega⟩
    obtain rfl : s = N := by omega
    show wp (s_X6_shareFrom (f_X6_shareFrom f) (s : Int) M) Q
    unfold s_X6_shareFrom
    rw [hI.1]
    refine wp_f (by omega) ?_
    rw [wp_bind]
    refine c_keep hF hA hN hI ?_
    intro M' g1 g2 g3
    rw [wp_some]
    have e : Bn F l 0 s a = fun t => nzs F a t s := by
      funext t
      unfold Bn ls
      omega
    rw [e] at hb
    refine kont M' a _ (fun j a b _ d => g1 j a d) g3 (fun q _ => by rw [g1 6 (by decide) (by decide)]) (fun q _ => by rw [g1 10 (by decide) (by decide)]) hA (show _ = leaf F s a b from (if_pos hb).symm) (by rw [g2.1, hI.1]) g2.2.2.2.2.2.2.1 g2.2.2.2.2.2.2.2.1 g2.2.2.2.2.2.2.2.2
  | succ k ih =>
    intro fuel s a b M Q hf hs hA hb hI kont
    obtain ⟨f, rfl⟩ : ∃ f, fuel = f + 1 := ⟨fuel - 1, by omega⟩
    show wp (s_X6_shareFrom (f_X6_shareFrom f) (s : Int) M) Q
    have hk1 : N - (s + 1) = k := by omega
    have hk0 : N - s = k + 1 := by omega
    -- one house
    have one : ∀ (h : Int) (b : Bst) (M : Mem) (Q : Int → Mem → Prop) (k46 : Int → Int → Int → Mem → Option (Int × Mem)) (x3 : Int), (if l (s : Int) = -1 then h = -1 else 0 ≤ h ∧ h ≤ 4) → SI F l N s a b M →
        (∀ M', (∀ j, j ≠ 4 → j ≠ 6 → j ≠ 10 → j ≠ 11 → M' j = M j) → M' 4 1 = M 4 1 → (∀ q : Int, q < s → M' 6 q = M 6 q) → (∀ q : Int, q < ((s : Int) + 1) * 5 → M' 10 q = M 10 q) → SI F l N s a (shr F N l k ((s : Int) + 1) (ua a s h) b) M' → wp (k46 s x3 (w32 (h + 1)) M') Q) →
        wp ((f_X6_isBetter (s : Int) h M).bind (fun q2 => if q2.1 = 0 then s_X6_shareFrom_69 (f_X6_shareFrom f) (s : Int) k46 s x3 h q2.2 else (f_X6_shareFrom f (w32 ((s : Int) + 1)) q2.2).bind (fun q5 => s_X6_shareFrom_69 (f_X6_shareFrom f) (s : Int) k46 s x3 h q5.2))) Q := by
      intro h b M Q k46 x3 hh hI kk
      have hh1 : -1 ≤ h ∧ h ≤ 4 := by
        by_cases hl : l (s : Int) = -1
        · rw [if_pos hl] at hh; omega
        · rw [if_neg hl] at hh; omega
      rw [wp_bind]
      refine c_better hF hA hN (by omega) hh hI ?_
      intro M1 g1 g2 g3 g4
      rw [hk1]
      unfold s_X6_shareFrom_69
      have back : ∀ M', M' 4 0 = M1 4 0 → (∀ j, j ≠ 4 → j ≠ 6 → j ≠ 10 → j ≠ 11 → M' j = M1 j) → (∀ q : Int, q < s → M' 6 q = M1 6 q) → (∀ q : Int, q < ((s : Int) + 1) * 5 → M' 10 q = M1 10 q) → ∀ b' : Bst, M' 4 9 = b'.1 → M' 4 10 = b'.2.1 → (∀ q : Int, 0 ≤ q → q < N → M' 11 q = b'.2.2 q) → SI F l N s a b' M' := by
        intro M' e0 e1 e2 e3 b' e4 e5 e6
        obtain ⟨i1, i2, i3, i4, i5, i6, i7, i8, i9⟩ := hI
        refine ⟨by rw [e0, g1 4 (by decide) (by decide)]; exact i1, by rw [e1 5 (by decide) (by decide) (by decide) (by decide), g1 5 (by decide) (by decide)]; exact i2, by rw [e1 8 (by decide) (by decide) (by decide) (by decide), g1 8 (by decide) (by decide)]; exact i3, by rw [e1 9 (by decide) (by decide) (by decide) (by decide), g1 9 (by decide) (by decide)]; exact i4, fun t t0 t5 => by rw [e3 _ (by omega), g2 _ (by omega)]; exact i5 t t0 t5, fun q q0 q1 => by rw [e2 q q1, g3 q (by omega)]; exact i6 q q0 q1, e4, e5, e6⟩
      rcases bet_dec (grs (Bn F l k (s + 1) (ua a s h)) 5) (sums (Bn F l k (s + 1) (ua a s h)) 5) b with hbt | hbt
      · have hbt' := hbt
        unfold bet at hbt'
        rw [if_pos hbt']
        refine wp_f (show ¬ (1 : Int) = 0 by decide) ?_
        rw [wp_bind, w_suc (by omega)]
        refine ih f (s + 1) (ua a s h) b M1 _ (by omega) (by omega) (ua_r hA hh1) hbt g4 ?_
        intro M2 a' b' u1 u2 u3 u4 u5 u6 u7 u8 u9 u10
        have fr : ∀ j, j ≠ 4 → j ≠ 6 → j ≠ 10 → j ≠ 11 → M2 j = M j := fun j a b c d => (u1 j a b c d).trans (g1 j b c)
        refine kk M2 fr (by rw [u2, g1 4 (by decide) (by decide)]) (fun q hq => by rw [u3 q (by omega), g3 q (by omega)]) (fun q hq => by rw [u4 q (by omega), g2 q hq]) ?_
        rw [show (s : Int) + 1 = ((s + 1 : Nat) : Int) by omega, ← u6]
        exact back M2 u7 u1 (fun q hq => u3 q (by omega)) (fun q hq => u4 q (by omega)) b' u8 u9 u10
      · have hbt' := hbt
        unfold bet at hbt'
        rw [if_neg hbt']
        refine wp_t rfl ?_
        refine kk M1 (fun j _ b c _ => g1 j b c) (by rw [g1 4 (by decide) (by decide)]) (fun q hq => g3 q (by omega)) g2 ?_
        rw [show (s : Int) + 1 = ((s + 1 : Nat) : Int) by omega, shr_no k (s + 1) (ua a s h) (by omega) hbt]
        exact back M1 rfl (fun _ _ _ _ _ => rfl) (fun _ _ => rfl) (fun _ _ => rfl) b g4.2.2.2.2.2.2.1 g4.2.2.2.2.2.2.2.1 g4.2.2.2.2.2.2.2.2
    unfold s_X6_shareFrom
    rw [hI.1]
    have l8 := hI.2.2.1 s (by omega) (by omega)
    refine wp_t (by omega) (wp_and (by omega) ?_)
    rw [l8]
    unfold s_X6_shareFrom_27
    rw [l8]
    by_cases hl : l (s : Int) = -1
    · rw [if_pos hl]
      refine wp_f (by decide) (wp_and (by omega) (wp_f (by decide) ?_))
      unfold s_X6_shareFrom_42
      rw [FU_e, show (100000 : Nat) = 99998 + 1 + 1 from rfl, s_X6_shareFrom_46.eq_2]
      refine wp_f (by decide) ?_
      refine one (-1) b M Q (s_X6_shareFrom_46 (f_X6_shareFrom f) (s : Int) (99998 + 1)) (-1) (by rw [if_pos hl]) hI ?_
      intro M' e1 e2 e3 e4 e5
      rw [s_X6_shareFrom_46.eq_2]
      refine wp_t (by decide) ?_
      rw [wp_some]
      refine kont M' a _ e1 e2 e3 e4 hA (show _ = (if l (s : Int) = -1 then _ else _) from (if_pos hl).symm) (by rw [e5.1, hI.1]) e5.2.2.2.2.2.2.1 e5.2.2.2.2.2.2.2.1 e5.2.2.2.2.2.2.2.2
    · rw [if_neg hl]
      refine wp_t rfl (wp_and (by omega) (wp_t rfl ?_))
      unfold s_X6_shareFrom_42
      have hsh : shr F N l (k + 1) (s : Int) a b = each (fun h b => shr F N l k ((s : Int) + 1) (ua a s h) b) 5 0 b := by
        rw [show shr F N l (k + 1) (s : Int) a b = (if l (s : Int) = -1 then _ else _) from rfl, if_neg hl]
      generalize hT : shr F N l (k + 1) (s : Int) a b = T at kont
      rw [hT] at hsh
      refine wloop0 (St := Bst) (L := fun fuel x st M' => s_X6_shareFrom_46 (f_X6_shareFrom f) (s : Int) fuel (s : Int) 4 x M') 5 (Inv := fun i st M' => (∀ j, j ≠ 4 → j ≠ 6 → j ≠ 10 → j ≠ 11 → M' j = M j) ∧ M' 4 1 = M 4 1 ∧ (∀ q : Int, q < s → M' 6 q = M 6 q) ∧ (∀ q : Int, q < ((s : Int) + 1) * 5 → M' 10 q = M 10 q) ∧ SI F l N s a st M' ∧ each (fun h b => shr F N l k ((s : Int) + 1) (ua a s h) b) (5 - i) i st = T) (Q := Q) (by omega) ?_ ?_ (st := b) ⟨fun _ _ _ _ _ => rfl, rfl, fun _ _ => rfl, fun _ _ => rfl, hI, hsh.symm⟩
      · intro i fuel st M' hi ⟨h1, h2, h3, h4, h5, h6⟩ kk
        show wp (s_X6_shareFrom_46 (f_X6_shareFrom f) (s : Int) (fuel + 1) (s : Int) 4 (i : Int) M') Q
        rw [s_X6_shareFrom_46.eq_2]
        refine wp_f (by omega) ?_
        refine one (i : Int) st M' Q (s_X6_shareFrom_46 (f_X6_shareFrom f) (s : Int) fuel) 4 (by rw [if_neg hl]; omega) h5 ?_
        intro M2 e1 e2 e3 e4 e5
        rw [w_suc (by omega)]
        refine kk _ M2 ⟨fun j a b c d => (e1 j a b c d).trans (h1 j a b c d), e2.trans h2, fun q hq => (e3 q hq).trans (h3 q hq), fun q hq => (e4 q hq).trans (h4 q hq), e5, ?_⟩
        rw [show 5 - i = (5 - (i + 1)) + 1 by omega] at h6
        rw [← h6]
        rfl
      · intro fuel st M' ⟨h1, h2, h3, h4, h5, h6⟩
        show wp (s_X6_shareFrom_46 (f_X6_shareFrom f) (s : Int) (fuel + 1) (s : Int) 4 ((5 : Nat) : Int) M') Q
        rw [s_X6_shareFrom_46.eq_2]
        refine wp_t (by omega) ?_
        rw [wp_some]
        rw [show 5 - 5 = 0 from rfl] at h6
        unfold each at h6
        subst h6
        exact kont M' a _ h1 h2 h3 h4 hA rfl (by rw [h5.1, hI.1]) h5.2.2.2.2.2.2.1 h5.2.2.2.2.2.2.2.1 h5.2.2.2.2.2.2.2.2
theorem c_least {F : Int → Int → Int → Int} {l : Int → Int} {s t : Int} {M : Mem} {Q : Int → Mem → Prop} (hF : RF F) (hs : 0 ≤ s ∧ s < 6) (ht : 0 ≤ t ∧ t ≤ 4) (hT : ∀ f t : Int, 0 ≤ f → f < 5 → 0 ≤ t → t < 5 → M 5 ((s * 5 + f) * 5 + t) = F s f t) (h8 : M 8 s = if l s = -1 then 1 else 0) (k : Q (lh F l s t) M) : wp (f_X6_leastHeard s t M) Q := by
  unfold f_X6_leastHeard
  refine wp_and hs ?_
  have lp : ∀ z : Int, 0 ≤ z → Q (lh5 F z s t 5) M → wp (f_X6_leastHeard_15 s t s t z M) Q := by
    intro z hz kz
    unfold f_X6_leastHeard_15
    refine wloop0 (St := Int) (L := fun fuel x st M' => f_X6_leastHeard_19 s t fuel s t st x M') 5 (Inv := fun i st M' => M' = M ∧ st = lh5 F z s t i) (Q := Q) (by omega) ?_ ?_ (st := z) ⟨rfl, rfl⟩
    · intro i fuel st M' hi ⟨h1, h2⟩ kk
      subst h1
      show wp (f_X6_leastHeard_19 s t (fuel + 1) s t st (i : Int) M') Q
      rw [f_X6_leastHeard_19.eq_2]
      refine wp_f (by omega) ?_
      rw [wp_bind]
      refine c_hf (F := F) hs (by omega) ht hT ?_
      simp only []
      rw [w_suc (by omega)]
      refine kk _ M' ⟨rfl, ?_⟩
      unfold hf
      rw [if_neg (by omega), h2]
      rfl
    · intro fuel st M' ⟨h1, h2⟩
      subst h1
      show wp (f_X6_leastHeard_19 s t (fuel + 1) s t st ((5 : Nat) : Int) M') Q
      rw [f_X6_leastHeard_19.eq_2]
      refine wp_t (by omega) ?_
      rw [wp_some, h2]
      exact kz
  rw [h8]
  unfold lh at k
  by_cases hl : l s = -1
  · rw [if_pos hl] at k ⊢
    refine wp_f (by decide) (lp 0 (by decide) ?_)
    have := lh5_r hF (s := s) (z := 0) ht (by decide) 5 (by decide)
    rw [show lh5 F 0 s t 5 = 0 by omega]
    exact k
  · rw [if_neg hl] at k ⊢
    exact wp_t rfl (lp _ (by decide) k)
theorem ls_sn {F : Int → Int → Int → Int} {l : Int → Int} {t : Int} (k : Nat) (s : Int) : ls F l t (k + 1) s = lh F l s t + ls F l t k (s + 1) := rfl
theorem c_shareO {F : Int → Int → Int → Int} {l : Int → Int} {c : Int} {N : Nat} {a : Int → Int} {M : Mem} {Q : Int → Mem → Prop} (hF : RF F) (hA : RA a) (hN : N ≤ 6) (hW : WY F N c l a N M)
    (k : ∀ M' b, b = shr F N l N 0 a (1000000, 1000000, M 11) → (∀ j, j ≠ 4 → j ≠ 6 → j ≠ 9 → j ≠ 10 → j ≠ 11 → M' j = M j) → M' 4 9 = b.1 → M' 4 10 = b.2.1 → (∀ q : Int, 0 ≤ q → q < N → M' 11 q = b.2.2 q) → Q 0 M') : wp (f_X6_shareOut M) Q := by
  obtain ⟨w1, w2, w3, w4, w5, w6⟩ := hW
  unfold f_X6_shareOut
  rw [wp_lt, wp_lt]
  generalize hG : stM (stM M 4 9 1000000) 4 10 1000000 = M1
  have f1 : ∀ j, j ≠ 4 → M1 j = M j := fun j hj => by rw [← hG, st_nc hj, st_nc hj]
  have f2 : M1 4 0 = N := by rw [← hG]; simp [st_ap]; exact w1
  have f3 : M1 4 9 = 1000000 := by rw [← hG]; simp [st_ap]
  have f4 : M1 4 10 = 1000000 := by rw [← hG]; simp [st_ap]
  refine wloop0 (St := Unit) (L := fun fuel x st M' => f_X6_shareOut_14 fuel x M') 5 (Inv := fun i st M' => (∀ j, j ≠ 9 → j ≠ 10 → M' j = M1 j) ∧ (∀ s t : Int, 0 ≤ s → s < N → 0 ≤ t → t < (i : Int) → M' 9 (s * 5 + t) = lh F l s t) ∧ ∀ t : Int, 0 ≤ t → t < (i : Int) → M' 10 t = ls F l t N 0) (Q := Q) (by omega) ?_ ?_ (st := ()) ⟨fun _ _ _ => rfl, fun s t _ _ _ _ => by omega, fun t _ _ => by omega⟩
  · intro i fuel st M' hi ⟨h1, h2, h3⟩ kk
    show wp (f_X6_shareOut_14 (fuel + 1) (i : Int) M') Q
    rw [f_X6_shareOut_14.eq_2]
    refine wp_f (by omega) (wp_and (by omega) ?_)
    rw [wp_lt]
    refine wloop0 (St := Unit) (L := fun fuel' x st M' => f_X6_shareOut_28 (f_X6_shareOut_14 fuel) fuel' (i : Int) x M') N (Inv := fun s st M2 => (∀ j, j ≠ 9 → j ≠ 10 → M2 j = M1 j) ∧ (∀ q t : Int, 0 ≤ q → q < N → 0 ≤ t → t < (i : Int) → M2 9 (q * 5 + t) = lh F l q t) ∧ (∀ q : Int, 0 ≤ q → q < (s : Int) → M2 9 (q * 5 + (i : Int)) = lh F l q i) ∧ (∀ t : Int, 0 ≤ t → t < (i : Int) → M2 10 t = ls F l t N 0) ∧ M2 10 (i : Int) + ls F l i (N - s) s = ls F l i N 0 ∧ 0 ≤ M2 10 (i : Int) ∧ M2 10 (i : Int) ≤ 1098 * s) (Q := Q) (by omega) ?_ ?_ (st := ()) ⟨fun j a b => by rw [st_nc b]; exact h1 j a b, fun q t a b c d => by rw [st_nc (by decide)]; exact h2 q t a b c d, fun q _ _ => by omega, fun t a b => by rw [st_ap, if_neg (by omega)]; exact h3 t a b, by rw [st_ap, if_pos ⟨rfl, rfl⟩]; simp, by rw [st_ap, if_pos ⟨rfl, rfl⟩]; simp, by rw [st_ap, if_pos ⟨rfl, rfl⟩]; simp⟩
    · intro s fuel' st M2 hs ⟨g1, g2, g3, g4, g5, g6, g7⟩ kk2
      show wp (f_X6_shareOut_28 (f_X6_shareOut_14 fuel) (fuel' + 1) (i : Int) (s : Int) M2) Q
      rw [f_X6_shareOut_28.eq_2, g1 4 (by decide) (by decide), f2]
      refine wp_f (by omega) ?_
      rw [wp_bind]
      refine c_least (l := l) hF (by omega) (by omega) (fun f t a b c d => by rw [g1 5 (by decide) (by decide), f1 5 (by decide)]; exact w3 s f t (by omega) (by omega) a b c d) (by rw [g1 8 (by decide) (by decide), f1 8 (by decide)]; exact w6 s (by omega) (by omega)) ?_
      have r := lh_r hF (l := l) (s := s) (t := i) (by omega)
      rw [w_id (z := (s : Int) * 5) (by omega) (by omega), w_id (z := (s : Int) * 5 + i) (by omega) (by omega)]
      refine wp_and (by omega) ?_
      simp only []
      rw [wp_lt]
      refine wp_and (by omega) (wp_and (by omega) (wp_and (by omega) ?_))
      rw [wp_lt, st_nc (show (10 : Int) ≠ 9 by decide), st_ap (j := 9), if_pos ⟨rfl, rfl⟩, w_suc (by omega), w_id (by omega) (by omega)]
      rw [show N - s = (N - (s + 1)) + 1 by omega, ls_sn, show (s : Int) + 1 = ((s + 1 : Nat) : Int) by omega] at g5
      refine kk2 () _ ⟨fun j a b => by rw [st_nc b, st_nc a]; exact g1 j a b, fun q t a b c d => by rw [st_nc (by decide), st_ap, if_neg (by omega)]; exact g2 q t a b c d, fun q a b => ?_, fun t a b => by rw [st_ap, if_neg (by omega), st_nc (by decide)]; exact g4 t a b, by rw [st_ap, if_pos ⟨rfl, rfl⟩]; omega, by rw [st_ap, if_pos ⟨rfl, rfl⟩]; omega, by rw [st_ap, if_pos ⟨rfl, rfl⟩]; omega⟩
      rw [st_nc (by decide), st_ap]
      by_cases hq : q = (s : Int)
      · subst hq
        rw [if_pos ⟨rfl, rfl⟩]
      · rw [if_neg (by omega)]
        exact g3 q a (by omega)
    · intro fuel' st M2 ⟨g1, g2, g3, g4, g5, g6, g7⟩
      show wp (f_X6_shareOut_28 (f_X6_shareOut_14 fuel) (fuel' + 1) (i : Int) (N : Int) M2) Q
      rw [f_X6_shareOut_28.eq_2, g1 4 (by decide) (by decide), f2]
      refine wp_t (by omega) ?_
      rw [w_suc (by omega)]
      rw [Nat.sub_self, show ls F l (i : Int) 0 (N : Int) = 0 from rfl] at g5
      refine kk () M2 ⟨g1, fun s t a b c d => ?_, fun t a b => ?_⟩
      · by_cases ht : t = (i : Int)
        · subst ht; exact g3 s a b
        · exact g2 s t a b c (by omega)
      · by_cases ht : t = (i : Int)
        · subst ht
          omega
        · exact g4 t a (by omega)
  · intro fuel st M' ⟨h1, h2, h3⟩
    show wp (f_X6_shareOut_14 (fuel + 1) ((5 : Nat) : Int) M') Q
    rw [f_X6_shareOut_14.eq_2]
    refine wp_t (by omega) ?_
    rw [wp_bind]
    have hSI : SI F l N 0 a (1000000, 1000000, M 11) M' := by
      refine ⟨by rw [h1 4 (by decide) (by decide)]; exact f2, by rw [h1 5 (by decide) (by decide), f1 5 (by decide)]; exact w3, by rw [h1 8 (by decide) (by decide), f1 8 (by decide)]; exact w6, fun s t a b c d => h2 s t a b c (by omega), fun t t0 t5 => ?_, fun q q0 q1 => by omega, by rw [h1 4 (by decide) (by decide)]; exact f3, by rw [h1 4 (by decide) (by decide)]; exact f4, fun q _ _ => by rw [h1 11 (by decide) (by decide), f1 11 (by decide)]⟩
      rw [show ((0 : Nat) : Int) * 5 + t = t by omega, h3 t t0 (by omega)]
      show _ = (0 : Int) + ls F l t (N - 0) 0
      rw [Nat.sub_zero]; omega
    refine c_shareF (l := l) hF hN N 8 0 a (1000000, 1000000, M 11) M' _ (by omega) (by omega) hA ?_ hSI ?_
    · have := grs_r (f := Bn F l N 0 a) (b := 6588) (by decide) (fun t t0 t4 => Bn_r hF hA ⟨t0, t4⟩ (by omega)) 5 (by decide)
      exact Or.inl (show grs (Bn F l N 0 a) 5 < 1000000 by omega)
    · intro M2 a' b' u1 u2 u3 u4 u5 u6 u7 u8 u9 u10
      rw [wp_some]
      exact k M2 b' u6 (fun j a b c d e => (u1 j a b d e).trans ((h1 j c d).trans (f1 j a))) u8 u9 u10
