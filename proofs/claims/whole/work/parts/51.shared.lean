/-! both, asked: shared -/
theorem m_back2 {e : Vw} {M M1 M2 M3 : Mem} (hL : LM e M) (a1 : ∀ j, j ≠ 127 → j ≠ 144 → j ≠ 145 → M1 j = M j) (a2 : ∀ q, q ≠ 26 → M1 127 q = M 127 q) (a3 : M1 127 26 = M 127 1) (a4 : ∀ q : Int, 0 ≤ q → q < 6 → M1 144 q = M 130 q ∧ M1 145 q = M 131 q)
    (b1 : ∀ j : Int, j ≠ 127 → j ≠ 130 → j ≠ 131 → j ≠ 142 → j ≠ 143 → j ≠ 147 → M2 j = M1 j) (b2 : ∀ q : Int, q ≠ 1 → q ≠ 31 → q ≠ 32 → M2 127 q = M1 127 q)
    (c1 : ∀ j, j ≠ 127 → j ≠ 130 → j ≠ 131 → M3 j = M2 j) (c2 : ∀ q, q ≠ 1 → M3 127 q = M2 127 q) (c3 : M3 127 1 = M2 127 26) (c4 : ∀ q : Int, 0 ≤ q → q < 6 → M3 130 q = M2 144 q ∧ M3 131 q = M2 145 q) : MF M M3 ∧ LM e M3 := by
  have hMF : MF M M3 := ⟨fun j x1 x2 x3 x4 x5 => by rw [c1 j x1 x3 x4, b1 j x1 x3 x4 (by omega) (by omega) (by omega), a1 j x1 (by omega) (by omega)], fun q x1 x2 x3 x4 => by rw [c2 q x1, b2 q x1 x3 x4, a2 q x2]⟩
  refine ⟨hMF, ?_⟩
  obtain ⟨q0, q6, qs, q5, qS⟩ := hL
  have e7 : ∀ q, q ≠ 1 → q ≠ 26 → q ≠ 31 → q ≠ 32 → M3 127 q = M 127 q := fun q x1 x2 x3 x4 => by rw [c2 q x1, b2 q x1 x3 x4, a2 q x2]
  have ej : ∀ j : Int, j ≠ 127 → j ≠ 130 → j ≠ 131 → j < 142 → M3 j = M j := fun j x1 x2 x3 x4 => by rw [c1 j x1 x2 x3, b1 j x1 x2 x3 (by omega) (by omega) (by omega), a1 j x1 (by omega) (by omega)]
  refine ⟨by rw [e7 0 (by decide) (by decide) (by decide) (by decide)]; exact q0, by rw [c3, b2 26 (by decide) (by decide) (by decide), a3]; exact q6, ?_, ?_, ?_⟩
  · intro s s0 s6
    obtain ⟨k1, k2, k3, k4⟩ := qs s s0 s6
    rw [ej 128 (by decide) (by decide) (by decide) (by decide), ej 129 (by decide) (by decide) (by decide) (by decide)]
    refine ⟨k1, k2, ?_, ?_⟩
    · rw [(c4 s s0 s6).1, b1 144 (by decide) (by decide) (by decide) (by decide) (by decide) (by decide), (a4 s s0 s6).1]; exact k3
    · rw [(c4 s s0 s6).2, b1 145 (by decide) (by decide) (by decide) (by decide) (by decide) (by decide), (a4 s s0 s6).2]; exact k4
  · rw [ej 132 (by decide) (by decide) (by decide) (by decide)]; exact q5
  · rw [e7 8 (by decide) (by decide) (by decide) (by decide)]
    exact SM_fr qS (fun j x y => ej j (by omega) (by omega) (by omega) (by omega)) rfl
theorem m_keep {e : Vw} {A : Int → Int} {x1 x2 g t : Int} {k56 : Int → Int → Mem → Option (Int × Mem)} {M : Mem} {Q : Int → Mem → Prop} (hL : LM (upA e A) M)
    (k : ∀ M', (∀ j, j ≠ 127 → j ≠ 147 → M' j = M j) → (∀ q, q ≠ 31 → q ≠ 32 → M' 127 q = M 127 q) → M' 127 31 = g → M' 127 32 = t → (∀ s : Int, 0 ≤ s → s < 6 → M' 147 s = hm (A s)) → wp (k56 x1 (w32 (x2 + 1)) M') Q) : wp (f_X8_layShared_105 k56 x1 x2 g t M) Q := by
  unfold f_X8_layShared_105
  rw [wp_lt, wp_lt]
  have h0 : ∀ j, j ≠ 127 → stM (stM M 127 31 g) 127 32 t j = M j := fun j hj => (st_nc hj).trans (st_nc hj)
  have h1 : ∀ q, q ≠ 31 → q ≠ 32 → stM (stM M 127 31 g) 127 32 t 127 q = M 127 q := fun q a b => by rw [st_ap, if_neg (fun c => b c.2), st_ap, if_neg (fun c => a c.2)]
  have h2 : stM (stM M 127 31 g) 127 32 t 127 31 = g := by rw [st_ap, if_neg (by decide), st_ap, if_pos ⟨rfl, rfl⟩]
  have h3 : stM (stM M 127 31 g) 127 32 t 127 32 = t := by rw [st_ap, if_pos ⟨rfl, rfl⟩]
  generalize stM (stM M 127 31 g) 127 32 t = M1 at h0 h1 h2 h3
  refine wloop0 (St := Unit) (L := fun fuel x st M' => f_X8_layShared_119 k56 fuel x1 x2 x M') 6 (Inv := fun i st M' => (∀ j, j ≠ 147 → M' j = M1 j) ∧ ∀ s : Int, 0 ≤ s → s < i → M' 147 s = hm (A s)) (by omega) ?_ ?_ (st := ()) ⟨fun _ _ => rfl, fun s a b => by omega⟩
  · intro i fuel st M2 hi ⟨g1, g2⟩ kk
    show wp (f_X8_layShared_119 k56 (fuel + 1) x1 x2 (i : Int) M2) _
    rw [f_X8_layShared_119.eq_2]
    refine wp_f (by omega) (wp_and (by omega) (wp_and (by omega) ?_))
    simp only [lt]
    rw [w_suc (by omega)]
    refine kk () _ ⟨fun j hj => (st_nc hj).trans (g1 j hj), fun s a b => ?_⟩
    rw [st_ap]
    by_cases hs : s = (i : Int)
    · rw [if_pos ⟨rfl, hs⟩, g1 131 (by decide), h0 131 (by decide), hs]
      exact (hL.2.2.1 (i : Int) (by omega) (by omega)).2.2.2
    · rw [if_neg (fun c => hs c.2)]
      exact g2 s a (by omega)
  · intro fuel st M2 ⟨g1, g2⟩
    show wp (f_X8_layShared_119 k56 (fuel + 1) x1 x2 ((6 : Nat) : Int) M2) _
    rw [f_X8_layShared_119.eq_2]
    refine wp_t (by omega) ?_
    unfold f_X8_layShared_146
    exact k M2 (fun j a b => (g1 j b).trans (h0 j a)) (fun q a b => (congrFun (g1 127 (by decide)) q).trans (h1 q a b)) ((congrFun (g1 127 (by decide)) 31).trans h2) ((congrFun (g1 127 (by decide)) 32).trans h3) (fun s a b => g2 s a (by omega))
def sm5 (F : Int → Int → Int → Int) (N : Nat) (a : Int → Int) : Int := sums (fun t => nzs F a t N) 5
theorem sm5_r {F : Int → Int → Int → Int} {a : Int → Int} (hF : RF F) (hA : RA a) {N : Nat} (hN : N ≤ 6) {M : Mem} (h : ∀ t : Int, 0 ≤ t → t < 5 → M 143 t = nzs F a t N) : f_X8_sumLaid M = some (sm5 F N a, M) := by
  unfold f_X8_sumLaid sm5
  have r0 := nz_r hF hA (t := 0) (by omega) N
  have r1 := nz_r hF hA (t := 1) (by omega) N
  have r2 := nz_r hF hA (t := 2) (by omega) N
  have r3 := nz_r hF hA (t := 3) (by omega) N
  have r4 := nz_r hF hA (t := 4) (by omega) N
  rw [h 0 (by decide) (by decide), h 1 (by decide) (by decide), h 2 (by decide) (by decide), h 3 (by decide) (by decide), h 4 (by decide) (by decide)]
  have e : sums (fun t => nzs F a t N) 5 = nzs F a 0 N + nzs F a 1 N + nzs F a 2 N + nzs F a 3 N + nzs F a 4 N := by
    show 0 + nzs F a ((0 : Nat) : Int) N + nzs F a ((1 : Nat) : Int) N + nzs F a ((2 : Nat) : Int) N + nzs F a ((3 : Nat) : Int) N + nzs F a ((4 : Nat) : Int) N = _
    rw [Int.zero_add]
    rfl
  rw [e]
  generalize nzs F a 0 N = n0 at r0 ⊢
  generalize nzs F a 1 N = n1 at r1 ⊢
  generalize nzs F a 2 N = n2 at r2 ⊢
  generalize nzs F a 3 N = n3 at r3 ⊢
  generalize nzs F a 4 N = n4 at r4 ⊢
  rw [w_id (z := n0 + n1) (by omega) (by omega), w_id (z := n0 + n1 + n2) (by omega) (by omega), w_id (z := n0 + n1 + n2 + n3) (by omega) (by omega), w_id (by omega) (by omega)]
def BB (e : Vw) (N : Nat) (b : Bst) (M : Mem) : Prop := M 127 31 = b.1 ∧ M 127 32 = b.2.1 ∧ (∃ q, b = (gA (Fh e) N (Ax (e.1 4) N q), sm5 (Fh e) N (Ax (e.1 4) N q), Ax (e.1 4) N q)) ∧ ∀ s : Int, 0 ≤ s → s < 6 → M 147 s = hm (b.2.2 s)
theorem m_layShared {e : Vw} {N : Nat} {x : Int → Int} {M : Mem} {Q : Int → Mem → Prop} (hR : Rg e) (hL : LM e M) (hN : e.1 0 0 = (N : Int))
    (k : ∀ M', MF M M' → LM e M' → BB e N (shr (Fh e) N (e.1 4) N 0 (e.1 4) (1000000, 1000000, x)) M' → Q 0 M') : wp (f_X8_layShared M) Q := by
  have h6 := hR.1
  have hN6 : N ≤ 6 := by omega
  have hF := Fh_RF hR
  have hl := Rg_RA hR
  have hW := Wn_r (e.1 4) N 0
  have hW5 : 5 ^ N ≤ 5 ^ 6 := Nat.pow_le_pow_right (by decide) hN6
  have hs := shr_fo (F := Fh e) (N := N) (l := e.1 4) N 0 (e.1 4) (1000000, 1000000, x)
  rw [show ((0 : Nat) : Int) = 0 from rfl] at hs
  rw [hs] at k
  unfold f_X8_layShared
  rw [wp_bind]
  refine m_layAll hR hL hN ?_
  intro M1 g1 g2 g3
  have hMF1 : MF M M1 := ⟨fun j c1 c2 c3 c4 c5 => g1 j c4 (by omega) (by omega), fun q _ _ _ _ => by rw [g1 127 (by decide) (by decide) (by decide)]⟩
  rw [wp_bind]
  refine m_save ?_
  intro M2 a1 a2 a3 a4
  have hL2 := m_saved g2 a1 a2
  simp only []
  have last : wp (lt (stM M2 127 31 2000000000) (fun M2' => lt (stM M2' 127 32 0) (fun M3 => f_X8_layShared_56 FU ((Wn (e.1 4) N 0 : Nat) : Int) 0 M3))) Q := by
    rw [wp_lt, wp_lt]
    have h0 : ∀ j, j ≠ 127 → stM (stM M2 127 31 2000000000) 127 32 0 j = M2 j := fun j hj => (st_nc hj).trans (st_nc hj)
    have h1 : ∀ q, q ≠ 31 → q ≠ 32 → stM (stM M2 127 31 2000000000) 127 32 0 127 q = M2 127 q := fun q a b => by rw [st_ap, if_neg (fun c => b c.2), st_ap, if_neg (fun c => a c.2)]
    have h2 : stM (stM M2 127 31 2000000000) 127 32 0 127 31 = 2000000000 := by rw [st_ap, if_neg (by decide), st_ap, if_pos ⟨rfl, rfl⟩]
    have h3 : stM (stM M2 127 31 2000000000) 127 32 0 127 32 = 0 := by rw [st_ap, if_pos ⟨rfl, rfl⟩]
    generalize stM (stM M2 127 31 2000000000) 127 32 0 = M3 at h0 h1 h2 h3
    have hL3 : LM e M3 := by
      obtain ⟨q0, q6, qs, q5, qS⟩ := hL2
      refine ⟨by rw [h1 0 (by decide) (by decide)]; exact q0, by rw [h1 1 (by decide) (by decide)]; exact q6, by rw [h0 128 (by decide), h0 129 (by decide), h0 130 (by decide), h0 131 (by decide)]; exact qs, by rw [h0 132 (by decide)]; exact q5, ?_⟩
      rw [h1 8 (by decide) (by decide)]
      exact SM_fr qS (fun j _ _ => h0 j (by omega)) rfl
    generalize hb0 : ((1000000, 1000000, x) : Bst) = b0 at k
    generalize hW0 : Wn (e.1 4) N 0 = W at hW k ⊢
    generalize hf : (fun r => leaf (Fh e) N (asg (e.1 4) N 0 (e.1 4) r)) = f at k
    have hf1 : ∀ r b, r < W → f r b = leaf (Fh e) N (Ax (e.1 4) N r) b := by
      intro r b hr
      rw [← hf]
      show leaf (Fh e) N (asg (e.1 4) N 0 (e.1 4) r) b = _
      rw [asg_Ax (by rw [hW0]; exact hr)]
    refine wloop0 (St := Unit) (L := fun fuel x st M' => f_X8_layShared_56 fuel (W : Int) x M') W (Inv := fun r st M' => (∀ j : Int, j ≠ 127 → j ≠ 130 → j ≠ 131 → j ≠ 142 → j ≠ 143 → j ≠ 147 → M' j = M2 j) ∧ (∀ q : Int, q ≠ 1 → q ≠ 31 → q ≠ 32 → M' 127 q = M2 127 q) ∧ (∃ a0, Wy (e.1 4) a0 N ∧ LM (upA e a0) M') ∧ ((r = 0 ∧ M' 127 31 = 2000000000 ∧ M' 127 32 = 0) ∨ (0 < r ∧ BB e N (fo f r 0 b0) M'))) (by omega) ?_ ?_ (st := ()) ⟨fun j c _ _ _ _ _ => h0 j c, fun q _ c d => h1 q c d, ⟨e.1 4, Wy_l hl, by rw [upA_self]; exact hL3⟩, Or.inl ⟨rfl, h2, h3⟩⟩
    · intro r fuel st M4 hr ⟨u1, u2, ⟨a0, u3, u4⟩, u5⟩ kk
      show wp (f_X8_layShared_56 (fuel + 1) (W : Int) (r : Int) M4) _
      rw [f_X8_layShared_56.eq_2]
      refine wp_f (by omega) ?_
      have hT : Tb (Fh e) (e.1 4) N M4 := by
        unfold Tb
        rw [u1 146 (by decide) (by decide) (by decide) (by decide) (by decide) (by decide), a1 146 (by decide) (by decide) (by decide)]
        exact g3
      rw [wp_bind]
      refine m_layPlaces hR hN u3 (by omega) u4 hT ?_
      intro M5 v1 v2 v3
      rw [wp_bind]
      refine m_greatLaid (f := fun t => nzs (Fh e) (Ax (e.1 4) N r) t N) v3 ?_
      rw [wp_bind]
      simp only []
      rw [sm5_r hF (Ax_r hl) hN6 v3, wp_some]
      have hg : grs (fun t => nzs (Fh e) (Ax (e.1 4) N r) t N) 5 = gA (Fh e) N (Ax (e.1 4) N r) := rfl
      have hgr := gA_r hF (Ax_r (N := N) (r := r) hl) hN6
      rw [hg]
      have hfr := hf1 r (fo f r 0 b0) hr
      have hla := fo_last (f := f) r b0
      rw [hfr] at hla
      have hlf : leaf (Fh e) N (Ax (e.1 4) N r) (fo f r 0 b0) = if gA (Fh e) N (Ax (e.1 4) N r) < (fo f r 0 b0).1 ∨ (gA (Fh e) N (Ax (e.1 4) N r) = (fo f r 0 b0).1 ∧ sm5 (Fh e) N (Ax (e.1 4) N r) < (fo f r 0 b0).2.1) then (gA (Fh e) N (Ax (e.1 4) N r), sm5 (Fh e) N (Ax (e.1 4) N r), Ax (e.1 4) N r) else fo f r 0 b0 := rfl
      rw [hlf] at hla
      generalize hG : gA (Fh e) N (Ax (e.1 4) N r) = G at hla hgr
      generalize hS : sm5 (Fh e) N (Ax (e.1 4) N r) = S at hla
      clear hfr hlf hg
      have fr1 : ∀ j : Int, j ≠ 127 → j ≠ 130 → j ≠ 131 → j ≠ 142 → j ≠ 143 → j ≠ 147 → M5 j = M2 j := fun j c1 c2 c3 c4 c5 c6 => (v1 j c3 c5).trans (u1 j c1 c2 c3 c4 c5 c6)
      have e127 : M5 127 = M4 127 := v1 127 (by decide) (by decide)
      have upd : (fo f (r + 1) 0 b0 = (G, S, Ax (e.1 4) N r)) → wp (f_X8_layShared_105 (f_X8_layShared_56 fuel) (W : Int) (r : Int) G S M5) Q := by
        intro hu
        refine m_keep v2 ?_
        intro M6 w1 w2 w3 w4 w5
        rw [w_suc (by omega)]
        refine kk () M6 ⟨fun j c1 c2 c3 c4 c5 c6 => (w1 j c1 c6).trans (fr1 j c1 c2 c3 c4 c5 c6), fun q c1 c2 c3 => (w2 q c2 c3).trans ((congrFun e127 q).trans (u2 q c1 c2 c3)), ⟨Ax (e.1 4) N r, Wy_Ax hl, ?_⟩, Or.inr ⟨by omega, ?_⟩⟩
        · obtain ⟨q0, q6, qs, q5, qS⟩ := v2
          refine ⟨by rw [w2 0 (by decide) (by decide)]; exact q0, by rw [w2 1 (by decide) (by decide)]; exact q6, by rw [w1 128 (by decide) (by decide), w1 129 (by decide) (by decide), w1 130 (by decide) (by decide), w1 131 (by decide) (by decide)]; exact qs, by rw [w1 132 (by decide) (by decide)]; exact q5, ?_⟩
          rw [w2 8 (by decide) (by decide)]
          exact SM_fr qS (fun j _ _ => w1 j (by omega) (by omega)) rfl
        · rw [hu]
          exact ⟨w3, w4, ⟨r, by rw [hG, hS]⟩, w5⟩
      have skip : 0 < r → (fo f (r + 1) 0 b0 = fo f r 0 b0) → wp (f_X8_layShared_146 (f_X8_layShared_56 fuel) (W : Int) (r : Int) M5) Q := by
        intro hr0 hu
        unfold f_X8_layShared_146
        rw [w_suc (by omega)]
        refine kk () M5 ⟨fr1, fun q c1 c2 c3 => (congrFun e127 q).trans (u2 q c1 c2 c3), ⟨Ax (e.1 4) N r, Wy_Ax hl, v2⟩, Or.inr ⟨by omega, ?_⟩⟩
        rw [hu]
        rcases u5 with ⟨c, _⟩ | ⟨_, c1, c2, c3, c4⟩
        · omega
        · exact ⟨(congrFun e127 31).trans c1, (congrFun e127 32).trans c2, c3, by rw [v1 147 (by decide) (by decide)]; exact c4⟩
      rw [e127]
      rcases u5 with ⟨c0, c1, c2⟩ | ⟨c0, c1, c2, _, _⟩
      · subst c0
        rw [c1]
        refine wp_f (by omega) (wp_f (by omega) (upd ?_))
        rw [hla, ← hb0]
        exact if_pos (Or.inl (show G < 1000000 by omega))
      · rw [c1, c2]
        by_cases h1 : (fo f r 0 b0).1 < G
        · refine wp_t h1 (skip c0 ?_)
          rw [hla]
          exact if_neg (by omega)
        · refine wp_f h1 ?_
          by_cases h2 : G = (fo f r 0 b0).1
          · refine wp_t h2 ?_
            by_cases h3 : S < (fo f r 0 b0).2.1
            · refine wp_t h3 (upd ?_)
              rw [hla]
              exact if_pos (Or.inr ⟨h2, h3⟩)
            · refine wp_f h3 (skip c0 ?_)
              rw [hla]
              exact if_neg (by omega)
          · refine wp_f h2 (upd ?_)
            rw [hla]
            exact if_pos (Or.inl (by omega))
    · intro fuel st M4 ⟨u1, u2, ⟨a0, u3, u4⟩, u5⟩
      show wp (f_X8_layShared_56 (fuel + 1) (W : Int) (W : Int) M4) _
      rw [f_X8_layShared_56.eq_2]
      refine wp_t (Int.le_refl _) ?_
      rw [wp_bind]
      refine m_putB ?_
      intro M7 z1 z2 z3 z4
      rw [wp_some]
      have hb := m_back2 (M2 := M4) g2 a1 a2 a3 a4 u1 u2 z1 z2 z3 z4
      refine k M7 (MF_tr hMF1 hb.1) hb.2 ?_
      rcases u5 with ⟨c, _⟩ | ⟨_, c1, c2, c3, c4⟩
      · omega
      · exact ⟨(z2 31 (by decide)).trans c1, (z2 32 (by decide)).trans c2, c3, by rw [z1 147 (by decide) (by decide) (by decide)]; exact c4⟩
  refine wloop0 (St := Nat) (L := fun fuel x st M' => f_X8_layShared_12 fuel (st : Int) x M') N (Inv := fun i st M' => st * Wn (e.1 4) (N - i) i = Wn (e.1 4) N 0 ∧ M' = M2) (by omega) ?_ ?_ (st := 1) ⟨by rw [Nat.one_mul]; rfl, rfl⟩
  · intro i fuel st M3 hi ⟨u1, u2⟩ kk
    subst u2
    show wp (f_X8_layShared_12 (fuel + 1) (st : Int) (i : Int) M3) _
    rw [f_X8_layShared_12.eq_2, hL2.1, hN]
    refine wp_f (by omega) ?_
    rw [wp_bind]
    refine m_isLost hR hL2 (by omega) ?_
    obtain ⟨j, hj⟩ : ∃ j, N - i = j + 1 := ⟨N - i - 1, by omega⟩
    have hj2 : N - (i + 1) = j := by omega
    rw [hj] at u1
    have hst : st ≤ 15625 := by
      have h1 := (Wn_r (e.1 4) (j + 1) i).1
      have h2 : st * 1 ≤ st * Wn (e.1 4) (j + 1) i := Nat.mul_le_mul_left st h1
      omega
    have u1' : st * ((if e.1 4 (i : Int) = -1 then 1 else 5) * Wn (e.1 4) j (i + 1)) = Wn (e.1 4) N 0 := u1
    unfold f_X8_layShared_34
    by_cases hq : e.1 4 (i : Int) = -1
    · rw [if_pos hq] at u1' ⊢
      refine wp_f one_ne ?_
      rw [w_suc (by omega), Int.mul_one, w_id (by omega) (by omega)]
      refine kk st M3 ⟨?_, rfl⟩
      rw [hj2, ← u1', Nat.one_mul]
    · rw [if_neg hq] at u1' ⊢
      refine wp_t rfl ?_
      have e5 : w32 ((st : Int) * 5) = ((st * 5 : Nat) : Int) := by rw [w_id (by omega) (by omega)]; omega
      rw [w_suc (by omega), e5]
      refine kk (st * 5) M3 ⟨?_, rfl⟩
      rw [hj2, ← u1', Nat.mul_assoc]
  · intro fuel st M3 ⟨u1, u2⟩
    subst u2
    show wp (f_X8_layShared_12 (fuel + 1) (st : Int) (N : Int) M3) _
    rw [f_X8_layShared_12.eq_2, hL2.1, hN]
    refine wp_t (Int.le_refl _) ?_
    rw [Nat.sub_self] at u1
    have : st = Wn (e.1 4) N 0 := by rw [← u1]; exact (Nat.mul_one _).symm
    rw [this]
    exact last
theorem q_shared {p : Int} {e : Vw} {M : Mem} (hp : i32 p) (hR : Rg e) (hC : LC 22 e M) (hM : LM e M) : QQ (f_X7_shared p) (f_X8_shared p) e M := by
  have h6 := hR.1
  have hp' := hp
  unfold i32 at hp'
  obtain ⟨N, hN⟩ : ∃ N : Nat, e.1 0 0 = (N : Int) := ⟨(e.1 0 0).toNat, by omega⟩
  have hA := Rg_RA hR
  -- the model's way, wanted
  have mm : ∀ (M1 : Mem) (Q : Int → Mem → Prop), CF M M1 → ((0 ≤ p ∧ p ≤ 1) ∨ (10 ≤ p ∧ p < 10 + e.1 0 0)) → wp (f_X8_shared_29 p p M1) Q → wp (f_X8_shared p M1) Q := by
    intro M1 Q h1 h2 k
    have hM1 := CF_LM hM h1
    unfold f_X8_shared
    rw [wp_bind]
    by_cases h01 : 0 ≤ p ∧ p ≤ 1
    · refine m_in_t h01 ?_
      exact wp_f one_ne k
    · refine m_in_f h01 ?_
      refine wp_t rfl ?_
      simp only []
      rw [wp_bind, hM1.1, w_id (by omega) (by omega)]
      refine m_in_t (by omega) ?_
      exact wp_f one_ne k
  have mno : ∀ (Q : Int → Mem → Prop), ¬ ((0 ≤ p ∧ p ≤ 1) ∨ (10 ≤ p ∧ p < 10 + e.1 0 0)) → Q (-1) M → wp (f_X8_shared p M) Q := by
    intro Q h2 k
    unfold f_X8_shared
    rw [wp_bind]
    refine m_in_f (by omega) ?_
    refine wp_t rfl ?_
    simp only []
    rw [wp_bind, hM.1, w_id (by omega) (by omega)]
    refine m_in_f (by omega) ?_
    refine wp_t rfl ?_
    rw [wp_some]
    exact k
  have m29 : ∀ (x : Int → Int) (M1 : Mem) (Q : Int → Mem → Prop), CF M M1 → ((0 ≤ p ∧ p ≤ 1) ∨ (10 ≤ p ∧ p < 10 + e.1 0 0)) →
      (∀ M', MF M1 M' → LM e M' → ∀ b, b = shr (Fh e) N (e.1 4) N 0 (e.1 4) (1000000, 1000000, x) → (∃ q, b.2.2 = Ax (e.1 4) N q) → Q (if p = 0 then b.1 else if p = 1 then b.2.1 else hm (b.2.2 (p - 10))) M') → wp (f_X8_shared_29 p p M1) Q := by
    intro x M1 Q h1 h2 k
    have hM1 := CF_LM hM h1
    unfold f_X8_shared_29
    rw [wp_bind]
    refine m_layShared (x := x) hR hM1 hN ?_
    intro M2 g1 g2 ⟨b1, b2, ⟨q, b3⟩, b4⟩
    have kk := k M2 g1 g2 _ rfl ⟨q, by rw [b3]⟩
    simp only []
    by_cases h0 : p = 0
    · rw [if_pos h0] at kk
      refine wp_t h0 ?_
      rw [wp_some, b1]
      exact kk
    · rw [if_neg h0] at kk
      refine wp_f h0 ?_
      by_cases h1 : p = 1
      · rw [if_pos h1] at kk
        refine wp_t h1 ?_
        rw [wp_some, b2]
        exact kk
      · rw [if_neg h1] at kk
        refine wp_f h1 ?_
        rw [w_id (by omega) (by omega)]
        refine wp_and (by omega) ?_
        rw [wp_some, b4 (p - 10) (by omega) (by omega)]
        exact kk
  -- the class's way
  have c61 : ∀ (x2 x3 : Int) (Q : Int → Mem → Prop), ((x3 = 0 ∧ 0 ≤ p ∧ p ≤ 1) ∨ (x3 ≠ 0 ∧ x2 = p - 10 ∧ 10 ≤ p ∧ p < 10 + e.1 0 0)) →
      (∀ x M', CF M M' → ∀ b, b = shr (Fh e) N (e.1 4) N 0 (e.1 4) (1000000, 1000000, x) → Q (if p = 0 then b.1 else if p = 1 then b.2.1 else b.2.2 (p - 10)) M') → wp (f_X7_shared_61 p p x2 x3 M) Q := by
    intro x2 x3 Q hx k
    unfold f_X7_shared_61
    rw [wp_bind]
    refine c_take hR hC ?_
    intro M1 g1 g2
    rw [hN, Int.toNat_natCast] at g1
    rw [wp_bind]
    refine c_shareO (Fh_RF hR) hA (by omega) g1 ?_
    intro M2 b hb u2 u3 u4 u5
    have hCF : CF M M2 := fun j a b c d => (u2 j (by omega) (by omega) (by omega) (by omega) (by omega)).trans (g2 j (by omega) (by omega) (by omega) (by omega) (by omega) (by omega))
    have kk := k _ M2 hCF b hb
    simp only []
    rcases hx with ⟨a1, a2⟩ | ⟨a1, a2, a3⟩
    · refine wp_t a1 ?_
      by_cases h0 : p = 0
      · rw [if_pos h0] at kk
        refine wp_t h0 ?_
        rw [wp_some, u3]
        exact kk
      · rw [if_neg h0, if_pos (show p = 1 by omega)] at kk
        refine wp_f h0 ?_
        rw [wp_some, u4]
        exact kk
    · rw [if_neg (show ¬ p = 0 by omega), if_neg (show ¬ p = 1 by omega)] at kk
      refine wp_f a1 (wp_and (by omega) ?_)
      rw [wp_some, a2, u5 (p - 10) (by omega) (by omega)]
      exact kk
  have fin01 : 0 ≤ p ∧ p ≤ 1 → ∀ x M', CF M M' → ∀ b, b = shr (Fh e) N (e.1 4) N 0 (e.1 4) (1000000, 1000000, x) → wp (f_X8_shared p M') (fun v' M2 => (if p = 0 then b.1 else if p = 1 then b.2.1 else b.2.2 (p - 10)) = v' ∧ CF M M' ∧ MF M' M2 ∧ LM e M2) := by
    intro h01 x M' hc b hb
    refine mm M' _ hc (Or.inl h01) (m29 x M' _ hc (Or.inl h01) ?_)
    intro M2 g1 g2 b' hb' _
    rw [hb', ← hb]
    refine ⟨?_, hc, g1, g2⟩
    by_cases h0 : p = 0
    · rw [if_pos h0, if_pos h0]
    · rw [if_neg h0, if_neg h0, if_pos (show p = 1 by omega), if_pos (show p = 1 by omega)]
  unfold QQ f_X7_shared
  have c26 : (¬ (10 ≤ p ∧ p < 10 + e.1 0 0)) → ∀ x2, wp (f_X7_shared_26 p p x2 M) (fun v M1 => wp (f_X8_shared p M1) (fun v' M2 => v = v' ∧ CF M M1 ∧ MF M1 M2 ∧ LM e M2)) := by
    intro h10 x2
    unfold f_X7_shared_26 f_X7_shared_27 f_X7_shared_43
    by_cases h0 : p = 0
    · refine wp_t h0 (wp_t rfl ?_)
      refine c61 _ _ _ (Or.inl ⟨rfl, by omega, by omega⟩) ?_
      intro x M' hc b hb
      exact fin01 (by omega) x M' hc b hb
    · refine wp_f h0 ?_
      by_cases h1 : p = 1
      · refine wp_t h1 (wp_t rfl ?_)
        refine c61 _ _ _ (Or.inl ⟨rfl, by omega, by omega⟩) ?_
        intro x M' hc b hb
        exact fin01 (by omega) x M' hc b hb
      · refine wp_f h1 (wp_t rfl ?_)
        rw [wp_some]
        exact mno _ (by omega) ⟨rfl, CF_rfl M, MF_rfl M, hM⟩
  by_cases h10 : p < 10
  · refine wp_t h10 ?_
    exact c26 (by omega) _
  · refine wp_f h10 ?_
    rw [wp_bind]
    refine c_has hC ?_
    rw [w_id (z := p - 10) (by omega) (by omega)]
    by_cases hs : 0 ≤ p - 10 ∧ p - 10 < e.1 0 0
    · rw [if_pos hs]
      refine wp_f one_ne ?_
      simp only []
      unfold f_X7_shared_27 f_X7_shared_43
      refine wp_f (by omega) (wp_f (by omega) (wp_f one_ne (wp_f one_ne ?_)))
      rw [wp_bind]
      refine c_isLost (by omega) ?_
      have hl : M (22 + 4) (p - 10) = e.1 4 (p - 10) := (hC.2.2.1 (p - 10) (by omega) (by omega)).2.2.2
      rw [hl]
      by_cases hq : e.1 4 (p - 10) = -1
      · rw [if_pos hq]
        refine wp_f one_ne ?_
        rw [wp_some]
        refine mm M _ (CF_rfl M) (Or.inr (by omega)) (m29 (M 11) M _ (CF_rfl M) (Or.inr (by omega)) ?_)
        intro M2 g1 g2 b _ ⟨q, hb⟩
        refine ⟨?_, CF_rfl M, g1, g2⟩
        rw [if_neg (show ¬ p = 0 by omega), if_neg (show ¬ p = 1 by omega), hb, Ax_l.2 hq]
        rfl
      · rw [if_neg hq]
        refine wp_t rfl ?_
        simp only []
        refine c61 _ _ _ (Or.inr ⟨one_ne, rfl, by omega, by omega⟩) ?_
        intro x M' hc b hb
        refine mm M' _ hc (Or.inr (by omega)) (m29 x M' _ hc (Or.inr (by omega)) ?_)
        intro M2 g1 g2 b' hb' ⟨q, hbq⟩
        rw [← hb] at hb'
        subst hb'
        refine ⟨?_, hc, g1, g2⟩
        rw [if_neg (show ¬ p = 0 by omega), if_neg (show ¬ p = 1 by omega), if_neg (show ¬ p = 0 by omega), if_neg (show ¬ p = 1 by omega), hbq, hm_of (fun c => hq (Ax_l.1 c))]
    · rw [if_neg hs]
      refine wp_t rfl ?_
      exact c26 (by omega) _
