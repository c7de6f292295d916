/-! the class: reading signs -/
def ixs (k : Nat) (c : Int) : Nat → Nat → Int
  | 0, _ => -1
  | m + 1, j => if sB k (j : Int) = c then (j : Int) else ixs k c m (j + 1)
theorem ixs_r {k : Nat} {c : Int} : ∀ m j : Nat, ixs k c m j = -1 ∨ (0 ≤ ixs k c m j ∧ ixs k c m j < j + m)
  | 0, j => Or.inl rfl
  | m + 1, j => by
    unfold ixs
    by_cases h : sB k (j : Int) = c
    · rw [if_pos h]
      exact Or.inr ⟨by omega, by omega⟩
    · rw [if_neg h]
      rcases ixs_r (k := k) (c := c) m (j + 1) with h | h
      · exact Or.inl h
      · exact Or.inr ⟨h.1, by omega⟩
theorem e_ioc {k n : Nat} {c p2 p3 p4 : Int} {M : Mem} {Q : Int → Mem → Prop} (hl : sLen.getD k 0 = n) (hn : n ≤ 20) (q : Q (ixs k c n 0) M) : wp (f_J1_indexOfChar_4cfef_7 k p2 p3 p4 FU (n : Int) c 0 M) Q := by
  generalize hT : ixs k c n 0 = T at q
  refine wloop0 (St := Unit) (L := fun fuel x st M' => f_J1_indexOfChar_4cfef_7 k p2 p3 p4 fuel (n : Int) c x M') n (Inv := fun i st M' => M' = M ∧ ixs k c (n - i) i = T) (by omega) ?_ ?_ (st := ()) ⟨rfl, hT⟩
  · intro i fuel st M1 hi ⟨g1, g2⟩ kk
    subst g1
    show wp (f_J1_indexOfChar_4cfef_7 k p2 p3 p4 (fuel + 1) (n : Int) c (i : Int) M1) _
    rw [f_J1_indexOfChar_4cfef_7.eq_2, hl]
    rw [show n - i = (n - (i + 1)) + 1 by omega] at g2
    unfold ixs at g2
    refine wp_f (by omega) (wp_and (by omega) ?_)
    by_cases h : sB k (i : Int) = c
    · rw [if_pos h] at g2
      refine wp_t h ?_
      rw [wp_some, g2]
      exact q
    · rw [if_neg h] at g2
      refine wp_f h ?_
      rw [w_suc (by omega)]
      exact kk () M1 ⟨rfl, g2⟩
  · intro fuel st M1 ⟨g1, g2⟩
    subst g1
    show wp (f_J1_indexOfChar_4cfef_7 k p2 p3 p4 (fuel + 1) (n : Int) c (n : Int) M1) _
    rw [f_J1_indexOfChar_4cfef_7.eq_2]
    refine wp_t (Int.le_refl _) ?_
    rw [wp_some]
    rw [Nat.sub_self] at g2
    unfold ixs at g2
    rw [g2]
    exact q
def ixK (k : Nat) (c : Int) : Int := ixs k c (sLen.getD k 0) 0
theorem shr_0 : ∀ k : Fin 4, shr32 ((sLen.getD k.val 0 : Nat) : Int) 0 = ((sLen.getD k.val 0 : Nat) : Int) := by decide
theorem sLen_r : ∀ k : Fin 4, 1 ≤ sLen.getD k.val 0 ∧ sLen.getD k.val 0 ≤ 20 := by decide
theorem e_idx {k : Nat} {c : Int} {M : Mem} {Q : Int → Mem → Prop} (hk : k < 4) (hc : 0 ≤ c ∧ c ≤ 127) (q : Q (ixK k c) M) : wp (f_J0_indexOf_0f7a4 k c M) Q := by
  have h0 := shr_0 ⟨k, hk⟩
  have h1 := sLen_r ⟨k, hk⟩
  simp only [] at h0 h1
  unfold ixK at q
  generalize hn : sLen.getD k 0 = n at h0 h1 q
  unfold f_J0_indexOf_0f7a4 f_J0_indexOf_7cf53 f_J0_isLatin1_aae02 f_J0_length_8abf5 f_J0_coder_7d493 f_J1_indexOf_4cfef f_J1_canEncode_9a6ad f_J1_indexOfChar_4cfef
  rw [wp_bind, wp_bind, wp_some]
  refine wp_f one_ne ?_
  rw [wp_bind, wp_bind, wp_some, wp_some]
  simp only []
  rw [hn, h0, wp_bind, wp_bind]
  refine wp_f (by omega) (wp_f (by omega) ?_)
  rw [wp_some]
  refine wp_f one_ne ?_
  have e1 : max (0 : Int) 0 = 0 := by omega
  have e2 : min (n : Int) (n : Int) = (n : Int) := by omega
  rw [e1, e2]
  refine wp_t (by omega) ?_
  rw [wp_bind, w8_id hc]
  refine e_ioc hn h1.2 ?_
  rw [wp_some, wp_some, wp_some]
  exact q
theorem ix1 (c : Int) : ixK 1 c = plc c := by
  have e : ixK 1 c = if (115 : Int) = c then 0 else if (104 : Int) = c then 1 else if (107 : Int) = c then 2 else if (118 : Int) = c then 3 else if (108 : Int) = c then 4 else if (121 : Int) = c then 5 else -1 := rfl
  rw [e]
  unfold plc
  grind
theorem ix2 (c : Int) : ixK 2 c = if 60 ≤ c ∧ c ≤ 62 then c - 60 else -1 := by
  have e : ixK 2 c = if (60 : Int) = c then 0 else if (61 : Int) = c then 1 else if (62 : Int) = c then 2 else -1 := rfl
  rw [e]
  grind
theorem ix3 (c : Int) : ixK 3 c = if dg c then c - 48 else -1 := by
  have e : ixK 3 c = if (48 : Int) = c then 0 else if (49 : Int) = c then 1 else if (50 : Int) = c then 2 else if (51 : Int) = c then 3 else if (52 : Int) = c then 4 else if (53 : Int) = c then 5 else if (54 : Int) = c then 6 else if (55 : Int) = c then 7 else if (56 : Int) = c then 8 else if (57 : Int) = c then 9 else -1 := rfl
  rw [e]
  by_cases h : dg c
  · rw [if_pos h]
    have h' : c = 48 ∨ c = 49 ∨ c = 50 ∨ c = 51 ∨ c = 52 ∨ c = 53 ∨ c = 54 ∨ c = 55 ∨ c = 56 ∨ c = 57 := by unfold dg at h; omega
    rcases h' with rfl | rfl | rfl | rfl | rfl | rfl | rfl | rfl | rfl | rfl <;> rfl
  · rw [if_neg h]
    unfold dg at h
    rw [if_neg (show ¬ (48 : Int) = c by omega), if_neg (show ¬ (49 : Int) = c by omega), if_neg (show ¬ (50 : Int) = c by omega), if_neg (show ¬ (51 : Int) = c by omega), if_neg (show ¬ (52 : Int) = c by omega), if_neg (show ¬ (53 : Int) = c by omega), if_neg (show ¬ (54 : Int) = c by omega), if_neg (show ¬ (55 : Int) = c by omega), if_neg (show ¬ (56 : Int) = c by omega), if_neg (show ¬ (57 : Int) = c by omega)]
def CT (T : Nat → Int) (L : Nat) (r : Int) (p : Nat) (M : Mem) : Prop := M 1 1 = (L : Int) ∧ M 1 2 = (p : Int) ∧ M 1 3 = r ∧ p ≤ L ∧ ∀ i : Nat, i < L → M 2 (i : Int) = T i
/-- only the place in the text changed -/
def F12 (M M' : Mem) : Prop := ∀ j q : Int, (j ≠ 1 ∨ q ≠ 2) → M' j q = M j q
theorem F12_rfl (M : Mem) : F12 M M := fun _ _ _ => rfl
theorem F12_tr {M M1 M2 : Mem} (h : F12 M M1) (g : F12 M1 M2) : F12 M M2 := fun j q c => (g j q c).trans (h j q c)
theorem CT_12 {T : Nat → Int} {L p p' : Nat} {r : Int} {M M' : Mem} (h : CT T L r p M) (g : F12 M M') (h2 : M' 1 2 = (p' : Int)) (hp : p' ≤ L) : CT T L r p' M' := ⟨by rw [g 1 1 (by omega)]; exact h.1, h2, by rw [g 1 3 (by omega)]; exact h.2.2.1, hp, fun i hi => by rw [g 2 _ (by omega)]; exact h.2.2.2.2 i hi⟩
theorem c_sign {T : Nat → Int} {L p : Nat} {r c : Int} {M : Mem} {Q : Int → Mem → Prop} (hT : TxE T L) (h : CT T L r p M) (hc : c ≠ -1) (k0 : T p ≠ c → Q 0 M) (k1 : T p = c → ∀ M', F12 M M' → CT T L r (p + 1) M' → Q 1 M') : wp (f_X5_readsSign c M) Q := by
  obtain ⟨h1, h2, h3, h4, h5⟩ := h
  have hL := hT.1
  unfold f_X5_readsSign
  rw [h1, h2]
  by_cases hp : (L : Int) ≤ (p : Int)
  · refine wp_t hp ?_
    rw [wp_some]
    exact k0 (by rw [hT.2.1 p (by omega)]; omega)
  · refine wp_f hp (wp_and (by omega) ?_)
    rw [h5 p (by omega)]
    by_cases ht : T p = c
    · refine wp_t ht ?_
      rw [wp_lt, wp_some, w_suc (by omega)]
      have f : F12 M (stM M 1 2 ((p + 1 : Nat) : Int)) := fun j q cc => by rw [st_ap, if_neg (by omega)]
      exact k1 ht _ f (CT_12 ⟨h1, h2, h3, h4, h5⟩ f (by rw [st_ap, if_pos ⟨rfl, rfl⟩]) (by omega))
    · refine wp_f ht ?_
      rw [wp_some]
      exact k0 ht
theorem c_oneOf {T : Nat → Int} {L p k : Nat} {r : Int} {M : Mem} {Q : Int → Mem → Prop} (hT : TxE T L) (hk : 1 ≤ k ∧ k < 4) (h : CT T L r p M) (hm : ixK k (-1) = -1) (k0 : ixK k (T p) < 0 → Q (-1) M) (k1 : 0 ≤ ixK k (T p) → ∀ M', F12 M M' → CT T L r (p + 1) M' → Q (ixK k (T p)) M') : wp (f_X5_readOneOf k M) Q := by
  obtain ⟨h1, h2, h3, h4, h5⟩ := h
  have hL := hT.1
  unfold f_X5_readOneOf f_X5_readOneOf_29
  rw [h1, h2]
  by_cases hp : (L : Int) ≤ (p : Int)
  · refine wp_t hp (wp_t (by decide) ?_)
    rw [wp_some]
    exact k0 (by rw [hT.2.1 p (by omega), hm]; decide)
  · refine wp_f hp (wp_and (by omega) ?_)
    have ht := hT.2.2 p (by omega)
    rw [h5 p (by omega), wp_bind, show T p % 65536 = T p by omega]
    refine e_idx hk.2 ht ?_
    by_cases hi : ixK k (T p) < 0
    · refine wp_t hi ?_
      rw [wp_some]
      have := ixs_r (k := k) (c := T p) (sLen.getD k 0) 0
      have e : ixK k (T p) = -1 := by
        rcases this with c | c
        · exact c
        · exact absurd c.1 (by show ¬ 0 ≤ ixK k (T p); omega)
      have := k0 hi
      rw [← e] at this
      exact this
    · refine wp_f hi ?_
      simp only []
      rw [wp_lt, wp_some, h2, w_suc (by omega)]
      have f : F12 M (stM M 1 2 ((p + 1 : Nat) : Int)) := fun j q cc => by rw [st_ap, if_neg (by omega)]
      have hp1 : p < L := by omega
      exact k1 (by omega) _ f (CT_12 ⟨h1, h2, h3, h4, h5⟩ f (by rw [st_ap, if_pos ⟨rfl, rfl⟩]) (by omega))
theorem c_num {T : Nat → Int} {L p : Nat} {r : Int} {M : Mem} {Q : Int → Mem → Prop} (hT : TxE T L) (h : CT T L r p M) (k : ∀ M', F12 M M' → CT T L r (num T p).1 M' → Q (num T p).2 M') : wp (f_X5_readNumber M) Q := by
  have hr := num_r hT h.2.2.2.1
  unfold num at k hr
  unfold f_X5_readNumber f_X5_readNumber_21
  rw [wp_bind]
  refine c_oneOf hT (by omega) h rfl ?_ ?_
  · intro h1
    rw [ix3] at h1
    by_cases hd : dg (T p)
    · rw [if_pos hd] at h1
      unfold dg at hd
      omega
    · rw [if_neg hd] at k
      refine wp_f (show ¬ (0 : Int) ≤ -1 by decide) (wp_f (show ¬ (0 : Int) ≤ -1 by decide) ?_)
      rw [wp_some]
      exact k M (F12_rfl M) h
  · intro h1 M1 g1 g2
    rw [ix3] at h1 ⊢
    by_cases hd : dg (T p)
    · rw [if_pos hd] at h1 k hr ⊢
      refine wp_t h1 ?_
      rw [wp_bind]
      refine c_oneOf hT (by omega) g2 rfl ?_ ?_
      · intro h2
        rw [ix3] at h2
        by_cases hd2 : dg (T (p + 1))
        · rw [if_pos hd2] at h2
          unfold dg at hd2
          omega
        · rw [if_neg hd2] at k
          refine wp_f (show ¬ (0 : Int) ≤ -1 by decide) ?_
          rw [wp_some]
          exact k M1 g1 g2
      · intro h2 M2 u1 u2
        rw [ix3] at h2 ⊢
        by_cases hd2 : dg (T (p + 1))
        · rw [if_pos hd2] at h2 k ⊢
          refine wp_t h2 ?_
          unfold dg at hd hd2
          rw [w_id (z := 10 * (T p - 48)) (by omega) (by omega), w_id (by omega) (by omega), wp_some]
          exact k M2 (F12_tr g1 u1) u2
        · rw [if_neg hd2] at h2
          omega
    · rw [if_neg hd] at h1
      omega
