/-! both, asked: ends -/
def pln (e : Vw) (w s : Int → Int) : Nat → Vw
  | 0 => e
  | n + 1 => pl (pln e w s n) (w (n : Int)) (s (n : Int))
theorem pln_r {e : Vw} {w s : Int → Int} (h : Rg e) : ∀ n : Nat, e.1 6 0 + n ≤ 20000 → Rg (pln e w s n) ∧ (pln e w s n).1 6 0 ≤ e.1 6 0 + n ∧ (pln e w s n).1 0 0 = e.1 0 0
  | 0, _ => ⟨h, by unfold pln; omega, rfl⟩
  | n + 1, q => by
    obtain ⟨h1, h2, h3⟩ := pln_r (w := w) (s := s) h n (by omega)
    have := pl_y (e := pln e w s n) (w := w (n : Int)) (s := s (n : Int))
    unfold pln
    exact ⟨pl_r h1 (by omega), by omega, by omega⟩
def PlR (n : Int) (a1 a2 b1 b2 : Int → Int) (N : Int) : Prop := (0 ≤ n ∧ n ≤ 10) ∧ ∀ i : Int, 0 ≤ i → i < n → a1 i = b1 i ∧ 0 ≤ a1 i ∧ a1 i ≤ 3 ∧ (a1 i ≠ 0 → a2 i = b2 i ∧ 0 ≤ a2 i ∧ a2 i < N)
theorem pln_cg {e : Vw} {n N : Int} {a1 a2 b1 b2 : Int → Int} (h : PlR n a1 a2 b1 b2 N) : ∀ m : Nat, (m : Int) ≤ n → pln e a1 a2 m = pln e b1 b2 m
  | 0, _ => rfl
  | m + 1, hm => by
    have h1 := h.2 m (by omega) (by omega)
    unfold pln
    rw [pln_cg h m (by omega)]
    by_cases h0 : a1 (m : Int) = 0
    · have h0' : b1 (m : Int) = 0 := by omega
      rw [h0, h0']
      rfl
    · rw [h1.1, (h1.2.2.2 h0).1]
theorem up_upA {e : Vw} {s z : Int} : up e 4 s z = upA e (ua (e.1 4) s z) := by
  unfold up upA ua
  refine Prod.ext ?_ rfl
  funext k q
  show (if k = 4 ∧ q = s then z else e.1 k q) = (if k = 4 then (if q = s then z else e.1 4 q) else e.1 k q)
  by_cases h : k = 4
  · subst h
    by_cases h2 : q = s
    · rw [if_pos ⟨rfl, h2⟩, if_pos rfl, if_pos h2]
    · rw [if_neg (fun c => h2 c.2), if_pos rfl, if_neg h2]
  · rw [if_neg (fun c => h c.1), if_neg h]
theorem m_up {e : Vw} {s z zz : Int} {M : Mem} (hL : LM e M) (hz : zz = hm z) : LM (up e 4 s z) (stM M 131 s zz) := by
  rw [up_upA]
  rw [← upA_self e] at hL
  have := LM_st (s := s) (z := z) hL hz
  exact this
theorem m_goPlan {e : Vw} {w s : Int} {M : Mem} {Q : Int → Mem → Prop} (hR : Rg e) (hL : LM e M) (hw : 0 ≤ w ∧ w ≤ 3) (hs : w ≠ 0 → 0 ≤ s ∧ s < 6)
    (k : ∀ M', LM (pl e w s) M' → (∀ j, j ≠ 127 → j ≠ 130 → j ≠ 131 → M' j = M j) → (∀ q, q ≠ 1 → M' 127 q = M 127 q) → Q 0 M') : wp (f_X8_goPlan w s M) Q := by
  unfold f_X8_goPlan
  by_cases h0 : w = 0
  · refine wp_t h0 ?_
    rw [wp_bind]
    refine m_year hR hL ?_
    intro M1 g1 g2 g3
    unfold f_X8_goPlan_8
    refine wp_t h0 ?_
    rw [wp_some]
    refine k M1 ?_ (fun j a b _ => g2 j a b) g3
    unfold pl
    rw [if_pos h0]
    exact g1
  · refine wp_f h0 ?_
    have hs := hs h0
    have ha := (hR.2.2.1 s).2.2.2.1
    have h131 := (hL.2.2.1 s hs.1 hs.2).2.2.2
    unfold f_X8_goPlan_8
    refine wp_f h0 ?_
    rw [wp_bind]
    refine m_isLost hR hL hs ?_
    have kk : ∀ z M', z = pl e w s → LM z M' → (∀ j, j ≠ 131 → M' j = M j) → Q 0 M' := by
      intro z M' hz hl hf
      subst hz
      exact k M' hl (fun j a b c => hf j c) (fun q _ => by rw [hf 127 (by decide)])
    unfold pl at kk
    rw [if_neg h0] at kk
    by_cases hl : e.1 4 s = -1
    · rw [if_pos hl]
      rw [if_pos hl] at kk
      refine wp_f one_ne ?_
      rw [wp_some]
      exact kk e M rfl hL (fun _ _ => rfl)
    · rw [if_neg hl]
      rw [if_neg hl] at kk
      refine wp_t rfl ?_
      simp only []
      rw [hm_of hl] at h131
      unfold f_X8_goPlan_34 f_X8_goPlan_59
      by_cases h1 : w = 1
      · refine wp_t h1 (wp_and hs ?_)
        rw [if_pos h1] at kk
        simp only [lt]
        refine wp_f (by omega) (wp_f (by omega) ?_)
        rw [wp_some]
        exact kk _ _ rfl (m_up hL rfl) (fun j hj => st_nc hj)
      · refine wp_f h1 ?_
        rw [if_neg h1] at kk
        by_cases h2 : w = 2
        · refine wp_t h2 (wp_and hs ?_)
          rw [if_pos h2] at kk
          by_cases h4 : e.1 4 s < 4
          · rw [if_pos h4] at kk
            refine wp_f (by omega) (wp_and hs (wp_and hs ?_))
            simp only [lt]
            refine wp_f (by omega) ?_
            rw [wp_some, h131, w_id (by omega) (by omega)]
            exact kk _ _ rfl (m_up hL (hm_of (by omega)).symm) (fun j hj => st_nc hj)
          · rw [if_neg h4] at kk
            refine wp_t (by omega) (wp_f (by omega) ?_)
            rw [wp_some]
            exact kk _ _ rfl hL (fun _ _ => rfl)
        · rw [if_neg h2] at kk
          refine wp_f h2 (wp_t (by omega) (wp_and hs ?_))
          by_cases h4 : 0 < e.1 4 s
          · rw [if_pos h4] at kk
            refine wp_f (by omega) (wp_and hs (wp_and hs ?_))
            simp only [lt]
            rw [wp_some, h131, w_id (by omega) (by omega)]
            exact kk _ _ rfl (m_up hL (hm_of (by omega)).symm) (fun j hj => st_nc hj)
          · rw [if_neg h4] at kk
            refine wp_t (by omega) ?_
            rw [wp_some]
            exact kk _ _ rfl hL (fun _ _ => rfl)
def btc (b0 b1 b2 b3 b4 : Bool) : Int := bts (fun t => if t = 0 then b0 else if t = 1 then b1 else if t = 2 then b2 else if t = 3 then b3 else b4) 5
theorem bts_c (f : Int → Bool) : bts f 5 = btc (f 0) (f 1) (f 2) (f 3) (f 4) := rfl
def cnt (z : Int) : Nat → Int
  | 0 => 0
  | n + 1 => w32 (cnt z n + and32 (shr32 z (n : Int)) 1)
set_option maxRecDepth 100000 in
theorem btc_cnt (M : Mem) : ∀ b0 b1 b2 b3 b4 : Bool, f_J6_bitCount_0f7a4 (btc b0 b1 b2 b3 b4) M = some (cnt (btc b0 b1 b2 b3 b4) 5, M) := by
  have h : ∀ b0 b1 b2 b3 b4 : Bool, (f_J6_bitCount_0f7a4 (btc b0 b1 b2 b3 b4) (fun _ _ => 0)).map Prod.fst = some (cnt (btc b0 b1 b2 b3 b4) 5) := by decide
  intro b0 b1 b2 b3 b4
  have := h b0 b1 b2 b3 b4
  unfold f_J6_bitCount_0f7a4 at this ⊢
  rw [Option.map_some, Option.some_inj] at this
  simp only [] at this
  rw [this]
theorem q_ends {what : Int} {e : Vw} {M : Mem} (hR : Rg e) (hy : e.1 6 0 ≤ 9999) (hC : LC 22 e M) (hM : LM e M) (hp : PlR (M 32 0) (M 33) (M 34) (M 151) (M 152) (e.1 0 0)) (hn : M 127 37 = M 32 0) : QQ (f_X7_ends what) (f_X8_ends what) e M := by
  obtain ⟨n, hN⟩ : ∃ n : Nat, M 32 0 = (n : Int) := ⟨(M 32 0).toNat, by have := hp.1; omega⟩
  have hn10 : n ≤ 10 := by have := hp.1; omega
  have h0n := hR.1
  have hpr := fun i : Nat => fun (hi : i ≤ n) => pln_r (w := M 33) (s := M 34) hR i (by omega)
  have hcg := pln_cg (e := e) hp n (by omega)
  generalize hG : grs (NZ (pln e (M 33) (M 34) n)) 5 = G
  generalize hB : bts (fun t => decide (NZ (pln e (M 33) (M 34) n) t ≤ (pln e (M 33) (M 34) n).2.1 1)) 5 = B
  have cls : ∀ (x1 y : Int) (Q : Int → Mem → Prop), (∀ M', CF M M' → Q (if x1 = 0 then G else cnt B 5) M') → wp (f_X7_ends_11 y x1 M) Q := by
    intro x1 y Q k
    unfold f_X7_ends_11
    rw [wp_bind]
    refine c_ask hC ?_
    intro M1 h1 h2
    refine wloop0 (St := Unit) (L := fun fuel x st M' => f_X7_ends_24 y fuel x1 x M') n (Inv := fun i st M' => LC 60 (pln e (M 33) (M 34) i) M' ∧ ∀ j, j < 60 ∨ 65 < j → M' j = M j) (by omega) ?_ ?_ (st := ()) ⟨h1, h2⟩
    · intro i fuel st M2 hi ⟨g1, g2⟩ kk
      show wp (f_X7_ends_24 y (fuel + 1) x1 (i : Int) M2) _
      rw [f_X7_ends_24.eq_2, g2 32 (by omega), g2 33 (by omega), g2 34 (by omega), hN]
      refine wp_f (by omega) (wp_and (by omega) (wp_and (by omega) ?_))
      have hq := hp.2 i (by omega) (by omega)
      have hr := hpr i (by omega)
      rw [wp_bind]
      refine c_go hr.1 (by omega) (Or.inr (Or.inr rfl)) g1 (by omega) (fun h => by have := hq.2.2.2 h; omega) ?_
      intro M3 u1 u2 _
      simp only []
      rw [w_suc (by omega)]
      exact kk () M3 ⟨u1, fun j hj => (u2 j (by omega) (by omega) (by omega)).trans (g2 j hj)⟩
    · intro fuel st M2 ⟨g1, g2⟩
      show wp (f_X7_ends_24 y (fuel + 1) x1 (n : Int) M2) _
      rw [f_X7_ends_24.eq_2, g2 32 (by omega), hN]
      refine wp_t (Int.le_refl _) ?_
      have hr := hpr n (by omega)
      have hCF2 : CF M M2 := fun j a b c d => g2 j (by omega)
      by_cases h0 : x1 = 0
      · rw [if_pos h0] at k
        refine wp_t h0 ?_
        rw [wp_bind]
        refine c_great hr.1 (Or.inr (Or.inr rfl)) g1 ?_
        intro M3 u1
        rw [wp_some, hG]
        exact k M3 (CF_tr hCF2 (CF_60 u1))
      · rw [if_neg h0] at k
        refine wp_f h0 ?_
        rw [wp_bind]
        refine c_still hr.1 (Or.inr (Or.inr rfl)) g1 ?_
        intro M3 u1
        have hbc : f_J6_bitCount_0f7a4 B M3 = some (cnt B 5, M3) := by
          rw [← hB, bts_c]
          exact btc_cnt M3 _ _ _ _ _
        rw [hB, wp_bind]
        simp only []
        rw [hbc, wp_some, wp_some]
        exact k M3 (CF_tr hCF2 (CF_60 u1))
  have mdl : ∀ (x1 y : Int) (M0 : Mem) (Q : Int → Mem → Prop), CF M M0 → (∀ M', MF M0 M' → LM e M' → Q (if x1 = 0 then G else cnt B 5) M') → wp ((f_X8_save M0).bind (fun q4 => f_X8_ends_18 y FU x1 0 q4.2)) Q := by
    intro x1 y M0 Q h0 k
    have hM0 := CF_LM hM h0
    have hq0 : ∀ j : Int, 127 ≤ j → M0 j = M j := fun j hj => h0 j (by omega) (by omega) (by omega) (by omega)
    rw [wp_bind]
    refine m_save ?_
    intro M1 a1 a2 a3 a4
    have hL1 := m_saved hM0 a1 a2
    have fin : ∀ (v : Int) (M6 : Mem), (∀ j : Int, j ≠ 127 → j ≠ 130 → j ≠ 131 → j ≠ 142 → j ≠ 143 → M6 j = M1 j) → (∀ q : Int, q ≠ 1 → M6 127 q = M1 127 q) → v = (if x1 = 0 then G else cnt B 5) → wp (f_X8_ends_91 y v M6) Q := by
      intro v M6 b1 b2 hv
      unfold f_X8_ends_91
      rw [wp_bind]
      refine m_putB ?_
      intro M7 z1 z2 z3 z4
      rw [wp_some]
      have hb := m_back (M2 := M6) hM0 a1 a2 a3 a4 b1 b2 z1 z2 z3 z4
      rw [hv]
      exact k M7 hb.1 hb.2
    simp only []
    refine wloop0 (St := Unit) (L := fun fuel x st M' => f_X8_ends_18 y fuel x1 x M') n (Inv := fun i st M' => LM (pln e (M 33) (M 34) i) M' ∧ (∀ j : Int, j ≠ 127 → j ≠ 130 → j ≠ 131 → j ≠ 142 → j ≠ 143 → M' j = M1 j) ∧ (∀ q : Int, q ≠ 1 → M' 127 q = M1 127 q)) (by omega) ?_ ?_ (st := ()) ⟨hL1, fun _ _ _ _ _ _ => rfl, fun _ _ => rfl⟩
    · intro i fuel st M2 hi ⟨g1, g2, g3⟩ kk
      show wp (f_X8_ends_18 y (fuel + 1) x1 (i : Int) M2) _
      have e37 : M2 127 37 = n := by rw [g3 37 (by decide), a2 37 (by decide), hq0 127 (by decide), hn, hN]
      have e151 : M2 151 = M 151 := by rw [g2 151 (by decide) (by decide) (by decide) (by decide) (by decide), a1 151 (by decide) (by decide) (by decide), hq0 151 (by decide)]
      have e152 : M2 152 = M 152 := by rw [g2 152 (by decide) (by decide) (by decide) (by decide) (by decide), a1 152 (by decide) (by decide) (by decide), hq0 152 (by decide)]
      rw [f_X8_ends_18.eq_2, e37, e151, e152]
      refine wp_f (by omega) (wp_and (by omega) (wp_and (by omega) ?_))
      have hq := hp.2 i (by omega) (by omega)
      have hr := hpr i (by omega)
      rw [wp_bind]
      have epl : pl (pln e (M 33) (M 34) i) (M 33 (i : Int)) (M 34 (i : Int)) = pl (pln e (M 33) (M 34) i) (M 151 (i : Int)) (M 152 (i : Int)) := by
        rw [← hq.1]
        by_cases h0 : M 33 (i : Int) = 0
        · rw [h0]; rfl
        · rw [(hq.2.2.2 h0).1]
      refine m_goPlan hr.1 g1 (by omega) (fun h => by have := hq.2.2.2 (by omega); omega) ?_
      intro M3 u1 u2 u3
      simp only []
      rw [w_suc (by omega)]
      refine kk () M3 ⟨?_, fun j c1 c2 c3 c4 c5 => (u2 j c1 c2 c3).trans (g2 j c1 c2 c3 c4 c5), fun q hq => (u3 q hq).trans (g3 q hq)⟩
      rw [← epl] at u1
      exact u1
    · intro fuel st M2 ⟨g1, g2, g3⟩
      show wp (f_X8_ends_18 y (fuel + 1) x1 (n : Int) M2) _
      have e37 : M2 127 37 = n := by rw [g3 37 (by decide), a2 37 (by decide), hq0 127 (by decide), hn, hN]
      rw [f_X8_ends_18.eq_2, e37]
      refine wp_t (Int.le_refl _) ?_
      have hr := hpr n (by omega)
      rw [wp_bind]
      refine m_still hr.1 g1 ?_
      intro M3 u1
      have hL3 := LM_s g1 u1
      rw [hB]
      simp only []
      refine wloop0 (St := Int) (L := fun fuel x st M' => f_X8_ends_58 y fuel x1 B st x M') 5 (Inv := fun i st M' => st = cnt B i ∧ M' = M3) (by omega) ?_ ?_ (st := 0) ⟨rfl, rfl⟩
      · intro i fuel st M4 hi ⟨v1, v2⟩ kk
        show wp (f_X8_ends_58 y (fuel + 1) x1 B st (i : Int) M4) _
        subst v1 v2
        rw [f_X8_ends_58.eq_2]
        refine wp_f (by omega) ?_
        rw [w_suc (by omega)]
        exact kk _ _ ⟨rfl, rfl⟩
      · intro fuel st M4 ⟨v1, v2⟩
        show wp (f_X8_ends_58 y (fuel + 1) x1 B st (5 : Int) M4) _
        subst v1 v2
        rw [f_X8_ends_58.eq_2]
        refine wp_t (Int.le_refl _) ?_
        have fr1 : ∀ j : Int, j ≠ 127 → j ≠ 130 → j ≠ 131 → j ≠ 142 → j ≠ 143 → M4 j = M1 j := fun j c1 c2 c3 c4 c5 => (u1 j c4 c5).trans (g2 j c1 c2 c3 c4 c5)
        have fr2 : ∀ q : Int, q ≠ 1 → M4 127 q = M1 127 q := fun q hq => (congrFun (u1 127 (by decide) (by decide)) q).trans (g3 q hq)
        by_cases h0 : x1 = 0
        · refine wp_t h0 ?_
          rw [wp_bind]
          refine m_great hr.1 hL3 ?_
          intro M5 w1
          refine fin _ M5 (fun j c1 c2 c3 c4 c5 => (w1 j c4 c5).trans (fr1 j c1 c2 c3 c4 c5)) (fun q hq => (congrFun (w1 127 (by decide) (by decide)) q).trans (fr2 q hq)) ?_
          rw [if_pos h0, hG]
        · refine wp_f h0 ?_
          refine fin _ M4 fr1 fr2 ?_
          rw [if_neg h0]
  have mm : ∀ (x1 : Int) (M0 : Mem) (Q : Int → Mem → Prop), 0 ≤ x1 ∧ x1 ≤ 1 → wp ((f_X8_save M0).bind (fun q4 => f_X8_ends_18 x1 FU x1 0 q4.2)) Q → wp (f_X8_ends x1 M0) Q := by
    intro x1 M0 Q hx k
    unfold f_X8_ends
    rw [wp_bind]
    refine m_in_t hx ?_
    exact wp_f one_ne k
  unfold QQ f_X7_ends
  by_cases h0 : what = 0
  · refine wp_t h0 (cls _ _ _ ?_)
    intro M' hc
    exact mm _ _ _ (by omega) (mdl _ _ _ _ hc (fun M2 x1 x2 => ⟨rfl, hc, x1, x2⟩))
  · refine wp_f h0 ?_
    by_cases h1 : what = 1
    · refine wp_t h1 (cls _ _ _ ?_)
      intro M' hc
      exact mm _ _ _ (by omega) (mdl _ _ _ _ hc (fun M2 x1 x2 => ⟨rfl, hc, x1, x2⟩))
    · refine wp_f h1 ?_
      rw [wp_some]
      unfold f_X8_ends
      rw [wp_bind]
      refine m_in_f (by omega) ?_
      refine wp_t rfl ?_
      rw [wp_some]
      exact ⟨rfl, CF_rfl M, MF_rfl M, hM⟩
