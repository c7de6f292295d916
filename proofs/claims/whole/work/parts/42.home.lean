/-! both, asked: where one had better be, change, worst, odds, means -/
def upA (e : Vw) (a : Int → Int) : Vw := (fun k q => if k = 4 then a q else e.1 k q, e.2)
theorem upA_4 (e : Vw) (a : Int → Int) : (upA e a).1 4 = a := rfl
theorem upA_0 (e : Vw) (a : Int → Int) : (upA e a).1 0 = e.1 0 := rfl
theorem upA_F (e : Vw) (a : Int → Int) : Fh (upA e a) = Fh e := rfl
theorem upA_self (e : Vw) : upA e (e.1 4) = e := by
  unfold upA
  have : (fun k q => if k = 4 then e.1 4 q else e.1 k q) = e.1 := by
    funext k q
    split
    · rename_i h; rw [h]
    · rfl
  rw [this]
theorem upA_upA (e : Vw) (a b : Int → Int) : upA (upA e a) b = upA e b := by
  unfold upA
  congr 1
  funext k q
  show (if k = 4 then b q else (if k = 4 then a q else e.1 k q)) = (if k = 4 then b q else e.1 k q)
  by_cases h : k = 4
  · rw [if_pos h, if_pos h]
  · rw [if_neg h, if_neg h, if_neg h]
theorem upA_r {e : Vw} {a : Int → Int} (h : Rg e) (hA : RA a) : Rg (upA e a) := by
  obtain ⟨h1, h2, h3, h4, h5⟩ := h
  refine ⟨h1, h2, ?_, h4, h5⟩
  intro s
  have b := h3 s
  exact ⟨b.1, b.2.1, b.2.2.1, hA s, b.2.2.2.2⟩
theorem upA_N {e : Vw} {a : Int → Int} {N : Nat} (hN : e.1 0 0 = N) (t : Int) : NZ (upA e a) t = nzs (Fh e) a t N := by
  unfold NZ
  rw [upA_F, upA_4, upA_0, hN, Int.toNat_natCast]
theorem upA_g {e : Vw} {a : Int → Int} {N : Nat} (hN : e.1 0 0 = N) : grs (NZ (upA e a)) 5 = gA (Fh e) N a := by
  unfold gA
  congr 1
  funext t
  exact upA_N hN t
theorem LM_A {e : Vw} {a : Int → Int} {M M' : Mem} (hL : LM e M) (h1 : ∀ j : Int, j ≠ 131 → j < 142 → M' j = M j) (h2 : ∀ s : Int, 0 ≤ s → s < 6 → M' 131 s = hm (a s)) : LM (upA e a) M' := by
  obtain ⟨q0, q6, qs, q5, qS⟩ := hL
  refine ⟨by rw [h1 127 (by decide) (by decide)]; exact q0, by rw [h1 127 (by decide) (by decide)]; exact q6, ?_, by rw [h1 132 (by decide) (by decide)]; exact q5, ?_⟩
  · intro s s0 s6
    obtain ⟨k1, k2, k3, k4⟩ := qs s s0 s6
    rw [h1 128 (by decide) (by decide), h1 129 (by decide) (by decide), h1 130 (by decide) (by decide)]
    exact ⟨k1, k2, k3, h2 s s0 s6⟩
  · rw [h1 127 (by decide) (by decide)]
    exact SM_fr qS (fun j _ _ => h1 j (by omega) (by omega)) rfl
theorem LM_st {e : Vw} {a : Int → Int} {s z zz : Int} {M : Mem} (hL : LM (upA e a) M) (hz : zz = hm z) : LM (upA e (ua a s z)) (stM M 131 s zz) := by
  have := LM_A (a := ua a s z) (M' := stM M 131 s zz) hL (fun j h _ => st_nc h) (fun q q0 q6 => by
    rw [st_ap]
    unfold ua
    by_cases h : q = s
    · rw [if_pos ⟨rfl, h⟩, if_pos h]; exact hz
    · rw [if_neg (fun c => h c.2), if_neg h]; exact (hL.2.2.1 q q0 q6).2.2.2)
  rwa [upA_upA] at this
theorem hm_of {z : Int} (h : z ≠ -1) : hm z = z := by unfold hm; rw [if_neg h]
theorem MF_131 {M : Mem} {s z : Int} : MF M (stM M 131 s z) := ⟨fun j _ _ _ h _ => st_nc h, fun q _ _ _ _ => by rw [st_nc (by decide)]⟩
theorem m_homeL {e : Vw} {s : Int} {N : Nat} {M : Mem} {Q : Int → Mem → Prop} (hN : e.1 0 0 = N) (hR : Rg e) (hL : LM e M) (hs : 0 ≤ s ∧ s < 6)
    (k : ∀ M', MF M M' → LM e M' → Q (scan (fun _ => true) (fun h => gA (Fh e) N (ua (e.1 4) s h)) (fun h => h) 5 0 (0, 2000000000)).1 M') : wp (f_X8_home_27 s FU s (M 131 s) 0 2000000000 0 M) Q := by
  have hs4 := (hL.2.2.1 s hs.1 hs.2).2.2.2
  rw [hs4]
  generalize hT : scan (fun _ => true) (fun h => gA (Fh e) N (ua (e.1 4) s h)) (fun h => h) 5 0 (0, 2000000000) = T at k
  have hA := Rg_RA hR
  refine wloop0 (St := Int × Int) (L := fun fuel x st M' => f_X8_home_27 s fuel s (hm (e.1 4 s)) st.1 st.2 x M') 5 (Inv := fun i st M' => MF M M' ∧ (∃ z, (-1 ≤ z ∧ z ≤ 4) ∧ LM (upA e (ua (e.1 4) s z)) M') ∧ scan (fun _ => true) (fun h => gA (Fh e) N (ua (e.1 4) s h)) (fun h => h) (5 - i) i st = T) (Q := Q) (by omega) ?_ ?_ (st := (0, 2000000000)) ⟨MF_rfl M, ⟨e.1 4 s, hA s, by rw [ua_self, upA_self]; exact hL⟩, hT⟩
  · intro i fuel st M1 hi ⟨h1, ⟨z, hz, h2⟩, h3⟩ kk
    show wp (f_X8_home_27 s (fuel + 1) s (hm (e.1 4 s)) st.1 st.2 (i : Int) M1) Q
    rw [f_X8_home_27.eq_2]
    refine wp_f (by omega) (wp_and hs ?_)
    rw [wp_lt, wp_bind]
    have hL2 := LM_st (s := s) (z := (i : Int)) (zz := (i : Int)) h2 (hm_of (by omega)).symm
    rw [ua_ua] at hL2
    refine m_great (upA_r hR (ua_r hA (by omega))) hL2 ?_
    intro M2 g1
    rw [upA_g hN]
    have hMF : MF M M2 := MF_tr (MF_tr h1 MF_131) (MF_s g1)
    have hL3 := LM_s hL2 g1
    rw [show 5 - i = (5 - (i + 1)) + 1 by omega] at h3
    unfold scan at h3
    unfold f_X8_home_64
    simp only []
    rw [w_suc (by omega)]
    by_cases hq : gA (Fh e) N (ua (e.1 4) s i) < st.2
    · rw [if_pos ⟨rfl, hq⟩] at h3
      exact wp_t hq (kk ((i : Int), gA (Fh e) N (ua (e.1 4) s i)) M2 ⟨hMF, ⟨i, by omega, hL3⟩, by rw [← h3]; rfl⟩)
    · rw [if_neg (fun c => hq c.2)] at h3
      exact wp_f hq (kk st M2 ⟨hMF, ⟨i, by omega, hL3⟩, by rw [← h3]; rfl⟩)
  · intro fuel st M1 ⟨h1, ⟨z, hz, h2⟩, h3⟩
    show wp (f_X8_home_27 s (fuel + 1) s (hm (e.1 4 s)) st.1 st.2 ((5 : Nat) : Int) M1) Q
    rw [f_X8_home_27.eq_2]
    refine wp_t (by omega) (wp_and hs ?_)
    rw [wp_lt, wp_some]
    have hL2 := LM_st (s := s) (z := e.1 4 s) h2 rfl
    rw [ua_ua, ua_self, upA_self] at hL2
    rw [← h3] at k
    exact k _ (MF_tr h1 MF_131) hL2
theorem scan_0 {f key : Int → Int} {x1 y1 x2 y2 : Int} {m : Nat} {i : Int} (h1 : f i < y1) (h2 : f i < y2) : scan (fun _ => true) f key (m + 1) i (x1, y1) = scan (fun _ => true) f key (m + 1) i (x2, y2) := by
  unfold scan
  rw [if_pos ⟨rfl, h1⟩, if_pos ⟨rfl, h2⟩]
theorem q_home {s : Int} {e : Vw} {M : Mem} (hR : Rg e) (hC : LC 22 e M) (hM : LM e M) : QQ (f_X7_home s) (f_X8_home s) e M := by
  have hn := hR.1
  obtain ⟨N, hN⟩ : ∃ N : Nat, e.1 0 0 = (N : Int) := ⟨(e.1 0 0).toNat, by omega⟩
  have hA := Rg_RA hR
  unfold QQ f_X7_home
  rw [wp_bind]
  refine c_has hC ?_
  by_cases hs : 0 ≤ s ∧ s < e.1 0 0
  · rw [if_pos hs]
    refine wp_f one_ne ?_
    rw [wp_bind]
    refine c_take hR hC ?_
    intro M1 h1 h2
    rw [hN, Int.toNat_natCast] at h1
    rw [wp_bind]
    refine c_calm (Fh_RF hR) hA (by omega) (by omega) h1 ?_
    intro M2 g1
    rw [wp_some]
    have hCF : CF M M2 := fun j a b c d => (g1 j (by omega) (by omega)).trans (h2 j (by omega) (by omega) (by omega) (by omega) (by omega) (by omega))
    have hM2 := CF_LM hM hCF
    unfold f_X8_home
    rw [wp_bind]
    refine m_isS hR hM2 ?_
    rw [if_pos hs]
    refine wp_f one_ne (wp_and (by omega) ?_)
    refine m_homeL hN hR hM2 (by omega) ?_
    intro M3 u1 u2
    have r := gA_r (Fh_RF hR) (ua_r (s := s) (h := 0) hA (by omega)) (n := N) (by omega)
    exact ⟨by rw [scan_0 (x2 := 0) (y2 := 2000000000) (by omega) (by omega)], hCF, u1, u2⟩
  · rw [if_neg hs]
    refine wp_t rfl ?_
    rw [wp_some]
    unfold f_X8_home
    rw [wp_bind]
    refine m_isS hR hM ?_
    rw [if_neg hs]
    refine wp_t rfl ?_
    rw [wp_some]
    exact ⟨rfl, CF_rfl M, MF_rfl M, hM⟩
theorem m_without {e : Vw} {s : Int} {N : Nat} {M : Mem} {Q : Int → Mem → Prop} (hN : e.1 0 0 = N) (hR : Rg e) (hL : LM e M) (hs : 0 ≤ s ∧ s < 6)
    (k : ∀ M', MF M M' → LM e M' → Q (gA (Fh e) N (ua (e.1 4) s (-1))) M') : wp (f_X8_greatestWithout s M) Q := by
  have hs4 := (hL.2.2.1 s hs.1 hs.2).2.2.2
  have hA := Rg_RA hR
  unfold f_X8_greatestWithout
  refine wp_and hs (wp_and hs ?_)
  rw [wp_lt, wp_bind]
  have hL0 : LM (upA e (e.1 4)) M := by rw [upA_self]; exact hL
  have hL2 := LM_st (s := s) (z := -1) (zz := -5) hL0 rfl
  refine m_great (upA_r hR (ua_r hA (by omega))) hL2 ?_
  intro M2 g1
  rw [upA_g hN]
  refine wp_and hs ?_
  rw [wp_lt, wp_some, hs4]
  have hL3 := LM_st (s := s) (z := e.1 4 s) (LM_s hL2 g1) rfl
  rw [ua_ua, ua_self, upA_self] at hL3
  exact k _ (MF_tr (MF_tr MF_131 (MF_s g1)) MF_131) hL3
theorem m_worst {e : Vw} {N : Nat} {M : Mem} {Q : Int → Mem → Prop} (hN : e.1 0 0 = N) (hR : Rg e) (hL : LM e M)
    (k : ∀ M', MF M M' → LM e M' → Q (scan (fun _ => true) (fun s => gA (Fh e) N (ua (e.1 4) s (-1))) (fun s => s) N 0 (-5, 1000000)).1 M') : wp (f_X8_worstOf M) Q := by
  have hn := hR.1
  have hA := Rg_RA hR
  unfold f_X8_worstOf
  generalize hT : scan (fun _ => true) (fun s => gA (Fh e) N (ua (e.1 4) s (-1))) (fun s => s) N 0 (-5, 1000000) = T at k
  refine wloop0 (St := Int × Int) (L := fun fuel x st M' => f_X8_worstOf_7 fuel st.1 st.2 x M') N (Inv := fun i st M' => MF M M' ∧ LM e M' ∧ ((i = 0 ∧ st = (-5, 0)) ∨ (0 ≤ st.1 ∧ scan (fun _ => true) (fun s => gA (Fh e) N (ua (e.1 4) s (-1))) (fun s => s) (N - i) i st = T))) (Q := Q) (by omega) ?_ ?_ (st := (-5, 0)) ⟨MF_rfl M, hL, Or.inl ⟨rfl, rfl⟩⟩
  · intro i fuel st M1 hi ⟨h1, h2, h3⟩ kk
    show wp (f_X8_worstOf_7 (fuel + 1) st.1 st.2 (i : Int) M1) Q
    rw [f_X8_worstOf_7.eq_2, h2.1, hN]
    refine wp_f (by omega) ?_
    rw [wp_bind]
    refine m_without hN hR h2 (by omega) ?_
    intro M2 g1 g2
    have r := gA_r (Fh_RF hR) (ua_r (s := i) (h := -1) hA (by omega)) (n := N) (by omega)
    unfold f_X8_worstOf_35 f_X8_worstOf_40
    simp only []
    rw [w_suc (by omega)]
    rcases h3 with ⟨rfl, rfl⟩ | ⟨h3, h4⟩
    · refine wp_t (show (-5 : Int) < 0 by decide) ?_
      obtain ⟨n', hn'⟩ : ∃ n', N = n' + 1 := ⟨N - 1, by omega⟩
      have hT' := hT
      rw [hn'] at hT'
      unfold scan at hT'
      rw [← hn', if_pos ⟨rfl, show gA (Fh e) N (ua (e.1 4) 0 (-1)) < 1000000 from by have := r.2; simp only [Int.natCast_zero] at this; omega⟩] at hT'
      exact kk (((0 : Nat) : Int), gA (Fh e) N (ua (e.1 4) ((0 : Nat) : Int) (-1))) M2 ⟨MF_tr h1 g1, g2, Or.inr ⟨by simp, by rw [← hT', hn']; rfl⟩⟩
    · refine wp_f (by omega) ?_
      rw [show N - i = (N - (i + 1)) + 1 by omega] at h4
      unfold scan at h4
      by_cases hq : gA (Fh e) N (ua (e.1 4) i (-1)) < st.2
      · rw [if_pos ⟨rfl, hq⟩] at h4
        exact wp_t hq (kk ((i : Int), gA (Fh e) N (ua (e.1 4) i (-1))) M2 ⟨MF_tr h1 g1, g2, Or.inr ⟨by omega, by rw [← h4]; rfl⟩⟩)
      · rw [if_neg (fun c => hq c.2)] at h4
        exact wp_f hq (kk st M2 ⟨MF_tr h1 g1, g2, Or.inr ⟨h3, by rw [← h4]; rfl⟩⟩)
  · intro fuel st M1 ⟨h1, h2, h3⟩
    show wp (f_X8_worstOf_7 (fuel + 1) st.1 st.2 (N : Int) M1) Q
    rw [f_X8_worstOf_7.eq_2, h2.1, hN]
    refine wp_t (by omega) ?_
    rw [wp_some]
    rcases h3 with ⟨h3, rfl⟩ | ⟨h3, h4⟩
    · subst h3
      rw [← hT] at k
      exact k M1 h1 h2
    · rw [Nat.sub_self] at h4
      rw [← h4] at k
      exact k M1 h1 h2
theorem m_swap {e : Vw} {a : Int → Int} {x y : Int} {M : Mem} {Q : Int → Mem → Prop} (hL : LM (upA e a) M) (hx : 0 ≤ x ∧ x < 6) (hy : 0 ≤ y ∧ y < 6)
    (k : ∀ M', MF M M' → LM (upA e (swA a x y)) M' → Q 0 M') : wp (f_X8_swaps x y M) Q := by
  have hx4 := (hL.2.2.1 x hx.1 hx.2).2.2.2
  have hy4 := (hL.2.2.1 y hy.1 hy.2).2.2.2
  rw [upA_4] at hx4 hy4
  unfold f_X8_swaps
  refine wp_and hx (wp_and hy (wp_and hx ?_))
  rw [wp_lt]
  refine wp_and hy ?_
  rw [wp_lt, wp_some, hx4, hy4]
  have h1 := LM_st (s := x) (z := a y) hL rfl
  have h2 := LM_st (s := y) (z := a x) h1 rfl
  exact k _ (MF_tr MF_131 MF_131) h2
theorem m_change {e : Vw} {N : Nat} {M : Mem} {Q : Int → Mem → Prop} (hN : e.1 0 0 = N) (hR : Rg e) (hL : LM e M)
    (k : ∀ M', MF M M' → LM e M' → Q (scan2 (fun x y => if e.1 4 x ≠ -1 ∧ e.1 4 y ≠ -1 then 1 else 0) (fun x y => gA (Fh e) N (swA (e.1 4) x y)) (fun x y => 10 * x + y) N N 0 (-5, gA (Fh e) N (e.1 4))).1 M') : wp (f_X8_changeOf M) Q := by
  have hn := hR.1
  have hA := Rg_RA hR
  unfold f_X8_changeOf
  rw [wp_bind]
  refine m_great hR hL ?_
  intro M0 z1
  have hg0 : grs (NZ e) 5 = gA (Fh e) N (e.1 4) := by
    have := upA_g (a := e.1 4) hN
    rwa [upA_self] at this
  rw [hg0]
  show wp (f_X8_changeOf_10 FU (-5) (gA (Fh e) N (e.1 4)) 0 M0) Q
  generalize hT0 : scan2 (fun x y => if e.1 4 x ≠ -1 ∧ e.1 4 y ≠ -1 then 1 else 0) (fun x y => gA (Fh e) N (swA (e.1 4) x y)) (fun x y => 10 * x + y) N N 0 (-5, gA (Fh e) N (e.1 4)) = T0 at k
  refine wloop0 (St := Int × Int) (L := fun fuel x st M' => f_X8_changeOf_10 fuel st.1 st.2 x M') N (Inv := fun i st M' => MF M M' ∧ LM e M' ∧ scan2 (fun x y => if e.1 4 x ≠ -1 ∧ e.1 4 y ≠ -1 then 1 else 0) (fun x y => gA (Fh e) N (swA (e.1 4) x y)) (fun x y => 10 * x + y) N (N - i) i st = T0) (Q := Q) (by omega) ?_ ?_ (st := (-5, gA (Fh e) N (e.1 4))) ⟨MF_s z1, LM_s hL z1, hT0⟩
  · intro i fuel st M1 hi ⟨h1, h2, h3⟩ kont
    show wp (f_X8_changeOf_10 (fuel + 1) st.1 st.2 (i : Int) M1) Q
    rw [f_X8_changeOf_10.eq_2, h2.1, hN]
    refine wp_f (by omega) ?_
    rw [w_suc (by omega)]
    rw [show N - i = (N - (i + 1)) + 1 by omega] at h3
    unfold scan2 at h3
    rw [show ((N : Int) - ((i : Int) + 1)).toNat = N - (i + 1) by omega, show (i : Int) + 1 = ((i + 1 : Nat) : Int) by omega] at h3
    generalize hT : scan (fun b => decide ((if e.1 4 (i : Int) ≠ -1 ∧ e.1 4 b ≠ -1 then (1 : Int) else 0) = 1)) (fun y => gA (Fh e) N (swA (e.1 4) i y)) (fun y => 10 * (i : Int) + y) (N - (i + 1)) ((i + 1 : Nat) : Int) st = T at h3
    refine wloop (St := Int × Int) (L := fun fuel' x st M' => f_X8_changeOf_23 (f_X8_changeOf_10 fuel) fuel' st.1 st.2 (i : Int) x M') (N := N) (Inv := fun b st M' => MF M M' ∧ LM e M' ∧ i < b ∧ scan (fun b => decide ((if e.1 4 (i : Int) ≠ -1 ∧ e.1 4 b ≠ -1 then (1 : Int) else 0) = 1)) (fun y => gA (Fh e) N (swA (e.1 4) i y)) (fun y => 10 * (i : Int) + y) (N - b) b st = T) (Q := Q) ?_ ?_ (N - (i + 1)) FU (i + 1) st M1 (by rw [FU_e]; omega) (by omega) ⟨h1, h2, by omega, hT⟩
    · intro b fuel' st2 M2 hb ⟨g1, g2, gb, g3⟩ kont2
      show wp (f_X8_changeOf_23 (f_X8_changeOf_10 fuel) (fuel' + 1) st2.1 st2.2 (i : Int) (b : Int) M2) Q
      rw [f_X8_changeOf_23.eq_2, g2.1, hN]
      rw [show N - b = (N - (b + 1)) + 1 by omega] at g3
      unfold scan at g3
      rw [show (b : Int) + 1 = ((b + 1 : Nat) : Int) by omega] at g3
      refine wp_f (by omega) ?_
      rw [wp_bind]
      refine m_isLost hR g2 (by omega) ?_
      unfold f_X8_changeOf_92
      rw [w_suc (by omega)]
      by_cases c1 : e.1 4 (i : Int) = -1
      · rw [if_pos c1]
        rw [if_neg (fun c => by have := c.1; simp [c1] at this)] at g3
        exact wp_f one_ne (kont2 st2 M2 ⟨g1, g2, by omega, g3⟩)
      · rw [if_neg c1]
        refine wp_t rfl ?_
        rw [wp_bind]
        refine m_isLost hR g2 (by omega) ?_
        by_cases c2 : e.1 4 (b : Int) = -1
        · rw [if_pos c2]
          rw [if_neg (fun c => by have := c.1; simp [c2] at this)] at g3
          exact wp_f one_ne (kont2 st2 M2 ⟨g1, g2, by omega, g3⟩)
        · rw [if_neg c2]
          refine wp_t rfl ?_
          rw [wp_bind]
          have g2' : LM (upA e (e.1 4)) M2 := by rw [upA_self]; exact g2
          refine m_swap (x := i) (y := b) g2' (by omega) (by omega) ?_
          intro M3 u1 u2
          rw [wp_bind]
          refine m_great (upA_r hR (swA_r hA)) u2 ?_
          intro M4 v1
          rw [upA_g hN, wp_bind]
          refine m_swap (x := i) (y := b) (LM_s u2 v1) (by omega) (by omega) ?_
          intro M5 y1 y2
          have es : swA (swA (e.1 4) i b) i b = e.1 4 := sw_sw (a := e.1 4) (x := i) (y := b) (by omega)
          rw [es, upA_self] at y2
          have fr : MF M M5 := MF_tr g1 (MF_tr u1 (MF_tr (MF_s v1) y1))
          simp only []
          by_cases hq : gA (Fh e) N (swA (e.1 4) i b) < st2.2
          · rw [if_pos ⟨by simp [c1, c2], hq⟩] at g3
            refine wp_t hq ?_
            rw [w_id (z := 10 * (i : Int)) (by omega) (by omega), w_id (by omega) (by omega)]
            exact kont2 (10 * (i : Int) + b, gA (Fh e) N (swA (e.1 4) i b)) M5 ⟨fr, y2, by omega, g3⟩
          · rw [if_neg (fun c => hq c.2)] at g3
            exact wp_f hq (kont2 st2 M5 ⟨fr, y2, by omega, g3⟩)
    · intro fuel' st2 M2 ⟨g1, g2, gb, g3⟩
      show wp (f_X8_changeOf_23 (f_X8_changeOf_10 fuel) (fuel' + 1) st2.1 st2.2 (i : Int) (N : Int) M2) Q
      rw [f_X8_changeOf_23.eq_2, g2.1, hN]
      refine wp_t (by omega) ?_
      rw [w_suc (by omega)]
      rw [Nat.sub_self] at g3
      unfold scan at g3
      subst g3
      exact kont st2 M2 ⟨g1, g2, h3⟩
  · intro fuel st M1 ⟨h1, h2, h3⟩
    show wp (f_X8_changeOf_10 (fuel + 1) st.1 st.2 (N : Int) M1) Q
    rw [f_X8_changeOf_10.eq_2, h2.1, hN]
    refine wp_t (by omega) ?_
    rw [wp_some]
    rw [← h3, Nat.sub_self] at k
    exact k M1 h1 h2
theorem q_best {p : Int} {e : Vw} {M : Mem} (hR : Rg e) (hC : LC 22 e M) (hM : LM e M) : QQ (f_X7_best p) (f_X8_best p) e M := by
  have hn := hR.1
  obtain ⟨N, hN⟩ : ∃ N : Nat, e.1 0 0 = (N : Int) := ⟨(e.1 0 0).toNat, by omega⟩
  have hA := Rg_RA hR
  unfold QQ f_X7_best
  by_cases h0 : p = 0
  · refine wp_t h0 ?_
    unfold f_X7_best_11
    rw [wp_bind]
    refine c_take hR hC ?_
    intro M1 h1 h2
    rw [hN, Int.toNat_natCast] at h1
    refine wp_t h0 ?_
    rw [wp_bind]
    refine c_change (Fh_RF hR) hA (by omega) rfl h1 ?_
    intro M2 g1
    rw [wp_some]
    have hCF : CF M M2 := fun j a b c d => (g1 j (by omega) (by omega)).trans (h2 j (by omega) (by omega) (by omega) (by omega) (by omega) (by omega))
    have hM2 := CF_LM hM hCF
    unfold f_X8_best
    refine wp_t h0 ?_
    rw [wp_bind]
    refine m_change hN hR hM2 ?_
    intro M3 u1 u2
    rw [wp_some]
    exact ⟨rfl, hCF, u1, u2⟩
  · refine wp_f h0 ?_
    by_cases h1 : p = 1
    · refine wp_t h1 ?_
      unfold f_X7_best_11
      rw [wp_bind]
      refine c_take hR hC ?_
      intro M1 h3 h2
      rw [hN, Int.toNat_natCast] at h3
      refine wp_f h0 ?_
      rw [wp_bind]
      refine c_worst (Fh_RF hR) hA (by omega) rfl h3 ?_
      intro M2 g1
      rw [wp_some]
      have hCF : CF M M2 := fun j a b c d => (g1 j (by omega) (by omega)).trans (h2 j (by omega) (by omega) (by omega) (by omega) (by omega) (by omega))
      have hM2 := CF_LM hM hCF
      unfold f_X8_best
      refine wp_f h0 (wp_t h1 ?_)
      rw [wp_bind]
      refine m_worst hN hR hM2 ?_
      intro M3 u1 u2
      rw [wp_some]
      exact ⟨rfl, hCF, u1, u2⟩
    · refine wp_f h1 ?_
      rw [wp_some]
      unfold f_X8_best
      refine wp_f h0 (wp_f h1 ?_)
      rw [wp_some]
      exact ⟨rfl, CF_rfl M, MF_rfl M, hM⟩
