/-! both, asked: on, when -/
def ov (e : Vw) (p : Int) : Int := if p = 0 then grs (NZ e) 5 else if p < 20 then NZ e (p - 10) else e.1 3 (p - 20)
def onp (e : Vw) (p : Int) : Prop := p = 0 ∨ (10 ≤ p ∧ p ≤ 14) ∨ (20 ≤ p ∧ p < 20 + e.1 0 0)
theorem c_on50 {n p x3 x4 y1 y2 : Int} {e : Vw} {M : Mem} {Q : Int → Mem → Prop} (hR : Rg e) (hy : e.1 6 0 ≤ 9999) (hC : LC 22 e M)
    (hx : (x3 ≠ 0 ∧ 10 ≤ p ∧ p ≤ 14) ∨ (x3 = 0 ∧ x4 = 0 ∧ p = 0) ∨ (x3 = 0 ∧ x4 ≠ 0 ∧ 20 ≤ p ∧ p < 20 + e.1 0 0))
    (k1 : ¬ (0 ≤ n ∧ n ≤ 60) → Q (-2) M) (k2 : ∀ (m : Nat) M', n = m → m ≤ 60 → CF M M' → Q (ov (gyn e m) p) M') : wp (f_X7_on_50 y1 y2 n p x3 x4 M) Q := by
  have hn := hR.1
  unfold f_X7_on_50
  rw [wp_bind]
  refine c_isIn ?_
  by_cases hh : 0 ≤ n ∧ n ≤ 60
  · rw [if_pos hh]
    refine wp_f one_ne ?_
    rw [wp_bind]
    obtain ⟨m, rfl⟩ : ∃ m : Nat, n = (m : Int) := ⟨n.toNat, by omega⟩
    have hRm := gyn_r hR m (by omega)
    refine c_ask hC ?_
    intro M1 h1 h2
    rw [wp_bind]
    refine c_years (n := m) hR (by omega) (by omega) (Or.inr (Or.inr rfl)) h1 ?_
    intro M2 g1 g2 g3
    have hCF2 : CF M M2 := fun j a b c d => (g2 j (by omega) (by omega)).trans (h2 j (by omega))
    unfold ov at k2
    rcases hx with ⟨a1, a2, a3⟩ | ⟨a1, a2, a3⟩ | ⟨a1, a2, a3, a4⟩
    · refine wp_f a1 ?_
      rw [wp_bind, w_id (z := p - 10) (by omega) (by omega)]
      refine c_noise hRm (Or.inr (Or.inr rfl)) g1 (by omega) ?_
      intro M3 u1
      rw [wp_some]
      have := k2 m M3 rfl (by omega) (CF_tr hCF2 (CF_60 u1))
      rw [if_neg (by omega), if_pos (by omega)] at this
      exact this
    · refine wp_t a1 (wp_t a2 ?_)
      rw [wp_bind]
      refine c_great hRm (Or.inr (Or.inr rfl)) g1 ?_
      intro M3 u1
      rw [wp_some]
      have := k2 m M3 rfl (by omega) (CF_tr hCF2 (CF_60 u1))
      rw [if_pos a3] at this
      exact this
    · refine wp_t a1 (wp_f a2 ?_)
      rw [w_id (z := p - 20) (by omega) (by omega)]
      refine wp_and (by omega) ?_
      rw [wp_some]
      have := k2 m M2 rfl (by omega) hCF2
      rw [if_neg (by omega), if_neg (by omega)] at this
      have e1 : M2 (60 + 3) (p - 20) = (gyn e m).1 3 (p - 20) := (g1.2.2.1 (p - 20) (by omega) (by omega)).2.2.1
      rw [← e1] at this
      exact this
  · rw [if_neg hh]
    refine wp_t rfl ?_
    rw [wp_some]
    exact k1 hh
theorem m_on35 {n p y1 y2 : Int} {e : Vw} {M : Mem} {Q : Int → Mem → Prop} (hR : Rg e) (hy : e.1 6 0 ≤ 9999) (hM : LM e M) (hx : onp e p)
    (k1 : ¬ (0 ≤ n ∧ n ≤ 60) → Q (-2) M) (k2 : ∀ (m : Nat) M', n = m → m ≤ 60 → MF M M' → LM e M' → Q (ov (gyn e m) p) M') : wp (f_X8_on_35 y1 y2 n p M) Q := by
  have hn := hR.1
  unfold f_X8_on_35
  rw [wp_bind]
  unfold f_X8_isYears
  rw [wp_bind]
  refine m_in ?_
  rw [wp_some]
  by_cases hh : 0 ≤ n ∧ n ≤ 60
  · rw [if_pos hh]
    refine wp_f one_ne ?_
    rw [wp_bind]
    obtain ⟨m, rfl⟩ : ∃ m : Nat, n = (m : Int) := ⟨n.toNat, by omega⟩
    have hRm := gyn_r hR m (by omega)
    refine m_save ?_
    intro M4 a1 a2 a3 a4
    have hL4 := m_saved hM a1 a2
    rw [wp_bind]
    refine m_years (n := m) hR (by omega) (by omega) hL4 ?_
    intro M5 b1 b2 b3
    have fin : ∀ (v : Int) (M6 : Mem), (∀ j, j ≠ 142 → j ≠ 143 → M6 j = M5 j) → v = ov (gyn e m) p → wp (f_X8_on_92 y1 y2 v M6) Q := by
      intro v M6 d1 hv
      unfold f_X8_on_92
      rw [wp_bind]
      refine m_putB ?_
      intro M7 x1 x2 x3 x4
      rw [wp_some]
      have hb := m_back (M2 := M6) hM a1 a2 a3 a4 (fun j c1 c2 c3 c4 c5 => (d1 j c4 c5).trans (b2 j c1 c2)) (fun q hq => (congrFun (d1 127 (by decide) (by decide)) q).trans (b3 q hq)) x1 x2 x3 x4
      rw [hv]
      exact k2 m M7 rfl (by omega) hb.1 hb.2
    unfold ov at fin
    rcases hx with a0 | ⟨c1, c2⟩ | ⟨c1, c2⟩
    · refine wp_t a0 ?_
      rw [wp_bind]
      refine m_great hRm b1 ?_
      intro M6 d1
      exact fin _ M6 d1 (by rw [if_pos a0])
    · refine wp_f (by omega) (wp_f (by omega) ?_)
      rw [wp_bind, w_id (z := p - 10) (by omega) (by omega)]
      refine m_noise hRm b1 (by omega) ?_
      intro M6 d1
      exact fin _ M6 d1 (by rw [if_neg (by omega), if_pos (by omega)])
    · refine wp_f (by omega) (wp_t (by omega) ?_)
      rw [w_id (z := p - 20) (by omega) (by omega)]
      refine wp_and (by omega) ?_
      have e1 : M5 130 (p - 20) = (gyn e m).1 3 (p - 20) := (b1.2.2.1 (p - 20) (by omega) (by omega)).2.2.1
      exact fin _ M5 (fun _ _ _ => rfl) (by rw [if_neg (by omega), if_neg (by omega)]; exact e1)
  · rw [if_neg hh]
    refine wp_t rfl ?_
    rw [wp_some]
    exact k1 hh
theorem q_on {n p : Int} {e : Vw} {M : Mem} (hp : i32 p) (hR : Rg e) (hy : e.1 6 0 ≤ 9999) (hC : LC 22 e M) (hM : LM e M) : QQ (f_X7_on n p) (f_X8_on n p) e M := by
  have hn := hR.1
  have hp' := hp
  unfold i32 at hp'
  have mm : ∀ M1, CF M M1 → onp e p → wp (f_X8_on n p M1) (fun v' M2 => (if 0 ≤ n ∧ n ≤ 60 then ov (gyn e n.toNat) p else -2) = v' ∧ CF M M1 ∧ MF M1 M2 ∧ LM e M2) := by
    intro M1 h1 ho
    have hM1 := CF_LM hM h1
    have fin : wp (f_X8_on_35 n p n p M1) (fun v' M2 => (if 0 ≤ n ∧ n ≤ 60 then ov (gyn e n.toNat) p else -2) = v' ∧ CF M M1 ∧ MF M1 M2 ∧ LM e M2) := by
      refine m_on35 hR hy hM1 ho ?_ ?_
      · intro hh
        rw [if_neg hh]
        exact ⟨rfl, h1, MF_rfl _, hM1⟩
      · intro m M' hm hm6 g1 g2
        subst hm
        rw [if_pos (show 0 ≤ (m : Int) ∧ (m : Int) ≤ 60 by omega), Int.toNat_natCast]
        exact ⟨rfl, h1, g1, g2⟩
    unfold f_X8_on
    by_cases h0 : p = 0
    · exact wp_t h0 fin
    · refine wp_f h0 ?_
      rw [wp_bind]
      refine m_in ?_
      by_cases h10 : 10 ≤ p ∧ p ≤ 14
      · rw [if_pos h10]
        exact wp_f one_ne fin
      · rw [if_neg h10]
        refine wp_t rfl ?_
        rw [wp_bind]
        simp only [hM1.1]
        rw [w_id (z := 19 + e.1 0 0) (by omega) (by omega)]
        unfold onp at ho
        refine m_in_t (by omega) ?_
        exact wp_f one_ne fin
  have mn : ¬ onp e p → wp (f_X8_on n p M) (fun v' M2 => -1 = v' ∧ CF M M ∧ MF M M2 ∧ LM e M2) := by
    intro ho
    unfold onp at ho
    unfold f_X8_on
    refine wp_f (by omega) ?_
    rw [wp_bind]
    refine m_in_f (by omega) ?_
    refine wp_t rfl ?_
    rw [wp_bind]
    simp only [hM.1]
    rw [w_id (z := 19 + e.1 0 0) (by omega) (by omega)]
    refine m_in_f (by omega) ?_
    refine wp_t rfl ?_
    rw [wp_some]
    exact ⟨rfl, CF_rfl M, MF_rfl M, hM⟩
  have cc : ∀ x3 x4 : Int, ((x3 ≠ 0 ∧ 10 ≤ p ∧ p ≤ 14) ∨ (x3 = 0 ∧ x4 = 0 ∧ p = 0) ∨ (x3 = 0 ∧ x4 ≠ 0 ∧ 20 ≤ p ∧ p < 20 + e.1 0 0)) → wp (f_X7_on_50 n p n p x3 x4 M) (fun v M1 => wp (f_X8_on n p M1) (fun v' M2 => v = v' ∧ CF M M1 ∧ MF M1 M2 ∧ LM e M2)) := by
    intro x3 x4 hx
    have ho : onp e p := by unfold onp; omega
    refine c_on50 hR hy hC hx ?_ ?_
    · intro hh
      have := mm M (CF_rfl M) ho
      rw [if_neg hh] at this
      exact this
    · intro m M' hm hm6 g1
      subst hm
      have := mm M' g1 ho
      rw [if_pos (show 0 ≤ (m : Int) ∧ (m : Int) ≤ 60 by omega), Int.toNat_natCast] at this
      exact this
  unfold QQ f_X7_on
  rw [wp_bind]
  refine c_isH ?_
  have e10 := w_10 hp
  unfold f_X7_on_32 f_X7_on_33
  by_cases h10 : 10 ≤ p ∧ p ≤ 14
  · rw [if_pos (e10.mpr h10)]
    exact wp_t (by omega) (wp_f (by omega) (wp_f one_ne (cc 1 0 (by omega))))
  · rw [if_neg (fun c => h10 (e10.mp c))]
    by_cases h20 : p < 20
    · refine wp_t h20 ?_
      by_cases h0 : p = 0
      · exact wp_t h0 (cc 0 0 (by omega))
      · refine wp_f h0 (wp_t rfl (wp_t rfl ?_))
        rw [wp_some]
        exact mn (by unfold onp; omega)
    · refine wp_f h20 ?_
      rw [wp_bind, w_id (z := p - 20) (by omega) (by omega)]
      refine c_has hC ?_
      by_cases hs : 0 ≤ p - 20 ∧ p - 20 < e.1 0 0
      · rw [if_pos hs]
        exact wp_f one_ne (wp_f (by omega) (wp_t rfl (wp_f one_ne (cc 0 1 (by omega)))))
      · rw [if_neg hs]
        refine wp_t rfl (wp_f (by omega) (wp_t rfl (wp_t rfl ?_)))
        rw [wp_some]
        exact mn (by unfold onp; omega)
def fn (P : Nat → Bool) : Nat → Nat → Int
  | 0, _ => -5
  | m + 1, i => if P i = true then (i : Int) else fn P m (i + 1)
def Pst (e : Vw) (h : Int) (i : Nat) : Bool := decide (NZ (gyn e i) h ≤ e.2.1 1)
def Psl (e : Vw) (s : Int) (i : Nat) : Bool := decide ((gyn e i).1 3 s = 0)
theorem gyn_2 (e : Vw) : ∀ i : Nat, (gyn e i).2 = e.2
  | 0 => rfl
  | i + 1 => gyn_2 e i
theorem gyn_n (e : Vw) : ∀ i : Nat, (gyn e i).1 0 0 = e.1 0 0
  | 0 => rfl
  | i + 1 => gyn_n e i
theorem c_stillB {h : Int} {e : Vw} {M : Mem} {Q : Int → Mem → Prop} (hR : Rg e) (hy : e.1 6 0 ≤ 9999) (hC : LC 22 e M) (hh : 0 ≤ h ∧ h ≤ 4) (k : ∀ M', CF M M' → Q (fn (Pst e h) 61 0) M') : wp (f_X7_stillBy h M) Q := by
  have ho : isLot 60 := Or.inr (Or.inr rfl)
  unfold f_X7_stillBy
  rw [wp_bind]
  refine c_ask hC ?_
  intro M1 h1 h2
  generalize hT : fn (Pst e h) 61 0 = T at k
  refine wloop0 (St := Unit) (L := fun fuel x st M' => f_X7_stillBy_13 h fuel h x M') 61 (Inv := fun i st M' => CF M M' ∧ LC 60 (gyn e i) M' ∧ fn (Pst e h) (61 - i) i = T) (by omega) ?_ ?_ (st := ()) ⟨fun j a b c d => h2 j (by omega), h1, hT⟩
  · intro i fuel st M2 hi ⟨g1, g2, g3⟩ kk
    have hRi := gyn_r hR i (by omega)
    show wp (f_X7_stillBy_13 h (fuel + 1) h (i : Int) M2) _
    rw [f_X7_stillBy_13.eq_2]
    refine wp_f (by omega) ?_
    rw [wp_bind]
    refine c_noise hRi ho g2 hh ?_
    intro M3 u1
    have u2 := LC_fr ho g2 u1
    rw [show 61 - i = (61 - (i + 1)) + 1 by omega] at g3
    unfold fn at g3
    simp only [u2.2.2.2.2.2.2.1, gyn_2]
    by_cases hq : NZ (gyn e i) h ≤ e.2.1 1
    · rw [if_pos (show Pst e h i = true from decide_eq_true hq)] at g3
      refine wp_f (by omega) ?_
      rw [wp_some, g3]
      exact k M3 (CF_tr g1 (CF_60 u1))
    · rw [if_neg (by unfold Pst; rw [decide_eq_false hq]; decide)] at g3
      refine wp_t (by omega) ?_
      rw [wp_bind]
      refine c_years (n := 1) hRi (by omega) (by rw [gyn_y]; omega) ho u2 ?_
      intro M4 v1 v2 v3
      simp only []
      rw [w_suc (by omega)]
      exact kk () M4 ⟨fun j a b c d => ((v2 j (by omega) (by omega)).trans (u1 j (by omega))).trans (g1 j a b c d), v1, g3⟩
  · intro fuel st M2 ⟨g1, g2, g3⟩
    show wp (f_X7_stillBy_13 h (fuel + 1) h ((61 : Nat) : Int) M2) _
    rw [f_X7_stillBy_13.eq_2]
    refine wp_t (by omega) ?_
    rw [wp_some]
    rw [Nat.sub_self] at g3
    unfold fn at g3
    rw [g3]
    exact k M2 g1
theorem c_silent {s : Int} {e : Vw} {M : Mem} {Q : Int → Mem → Prop} (hR : Rg e) (hy : e.1 6 0 ≤ 9999) (hC : LC 22 e M) (hs : 0 ≤ s ∧ s < 6) (k : ∀ M', CF M M' → Q (fn (Psl e s) 61 0) M') : wp (f_X7_silentBy s M) Q := by
  have ho : isLot 60 := Or.inr (Or.inr rfl)
  unfold f_X7_silentBy
  rw [wp_bind]
  refine c_ask hC ?_
  intro M1 h1 h2
  generalize hT : fn (Psl e s) 61 0 = T at k
  refine wloop0 (St := Unit) (L := fun fuel x st M' => f_X7_silentBy_13 s fuel s x M') 61 (Inv := fun i st M' => CF M M' ∧ LC 60 (gyn e i) M' ∧ fn (Psl e s) (61 - i) i = T) (by omega) ?_ ?_ (st := ()) ⟨fun j a b c d => h2 j (by omega), h1, hT⟩
  · intro i fuel st M2 hi ⟨g1, g2, g3⟩ kk
    have hRi := gyn_r hR i (by omega)
    have e3 : M2 63 s = (gyn e i).1 3 s := (g2.2.2.1 s hs.1 hs.2).2.2.1
    show wp (f_X7_silentBy_13 s (fuel + 1) s (i : Int) M2) _
    rw [f_X7_silentBy_13.eq_2, e3]
    refine wp_f (by omega) (wp_and hs ?_)
    rw [show 61 - i = (61 - (i + 1)) + 1 by omega] at g3
    unfold fn at g3
    by_cases hq : (gyn e i).1 3 s = 0
    · rw [if_pos (show Psl e s i = true from decide_eq_true hq)] at g3
      refine wp_t hq ?_
      rw [wp_some, g3]
      exact k M2 g1
    · rw [if_neg (by unfold Psl; rw [decide_eq_false hq]; decide)] at g3
      refine wp_f hq ?_
      rw [wp_bind]
      refine c_years (n := 1) hRi (by omega) (by rw [gyn_y]; omega) ho g2 ?_
      intro M4 v1 v2 v3
      simp only []
      rw [w_suc (by omega)]
      exact kk () M4 ⟨fun j a b c d => (v2 j (by omega) (by omega)).trans (g1 j a b c d), v1, g3⟩
  · intro fuel st M2 ⟨g1, g2, g3⟩
    show wp (f_X7_silentBy_13 s (fuel + 1) s ((61 : Nat) : Int) M2) _
    rw [f_X7_silentBy_13.eq_2]
    refine wp_t (by omega) ?_
    rw [wp_some]
    rw [Nat.sub_self] at g3
    unfold fn at g3
    rw [g3]
    exact k M2 g1
theorem m_when51 {what p y1 y2 : Int} {e : Vw} {M : Mem} {Q : Int → Mem → Prop} (hR : Rg e) (hy : e.1 6 0 ≤ 9999) (hM : LM e M) (hx : (what = 0 ∧ 0 ≤ p ∧ p ≤ 4) ∨ (what ≠ 0 ∧ 0 ≤ p ∧ p < 6)) (k : ∀ M', MF M M' → LM e M' → Q (fn (if what = 0 then Pst e p else Psl e p) 61 0) M') : wp (f_X8_when_51 y1 y2 what p M) Q := by
  generalize hP : (if what = 0 then Pst e p else Psl e p) = P at k
  unfold f_X8_when_51
  rw [wp_bind]
  refine m_save ?_
  intro M1 a1 a2 a3 a4
  have hL1 := m_saved hM a1 a2
  generalize hT : fn P 61 0 = T at k
  have fin : ∀ (v : Int) (M2 : Mem), (∀ j : Int, j ≠ 127 → j ≠ 130 → j ≠ 131 → j ≠ 142 → j ≠ 143 → M2 j = M1 j) → (∀ q : Int, q ≠ 1 → M2 127 q = M1 127 q) → v = T → wp (f_X8_when_135 y1 y2 v M2) Q := by
    intro v M2 b1 b2 hv
    unfold f_X8_when_135
    rw [wp_bind]
    refine m_putB ?_
    intro M7 x1 x2 x3 x4
    rw [wp_some, hv]
    have hb := m_back (M2 := M2) hM a1 a2 a3 a4 b1 b2 x1 x2 x3 x4
    exact k M7 hb.1 hb.2
  refine wloop0 (St := Int) (L := fun fuel x st M' => f_X8_when_61 y1 y2 fuel what p st x M') 61 (Inv := fun i st M' => (∀ j : Int, j ≠ 127 → j ≠ 130 → j ≠ 131 → j ≠ 142 → j ≠ 143 → M' j = M1 j) ∧ (∀ q : Int, q ≠ 1 → M' 127 q = M1 127 q) ∧ ((st = -5 ∧ LM (gyn e i) M' ∧ fn P (61 - i) i = T) ∨ (0 ≤ st ∧ st = T))) (by omega) ?_ ?_ (st := -5) ⟨fun _ _ _ _ _ _ => rfl, fun _ _ => rfl, Or.inl ⟨rfl, hL1, hT⟩⟩
  · intro i fuel st M2 hi ⟨g1, g2, g3⟩ kk
    show wp (f_X8_when_61 y1 y2 (fuel + 1) what p st (i : Int) M2) _
    rw [f_X8_when_61.eq_2]
    refine wp_f (by omega) ?_
    rcases g3 with ⟨rfl, g3, g4⟩ | ⟨g3, g4⟩
    · refine wp_f (by decide) ?_
      have hRi := gyn_r hR i (by omega)
      rw [show 61 - i = (61 - (i + 1)) + 1 by omega] at g4
      unfold fn at g4
      have go : ∀ (b : Bool) (M3 : Mem), P i = b → (∀ j, j ≠ 142 → j ≠ 143 → M3 j = M2 j) → LM (gyn e i) M3 → wp (f_X8_when_110 y1 y2 (f_X8_when_61 y1 y2 fuel) what p (i : Int) (if b = true then 1 else 0) M3) Q := by
        intro b M3 hb u1 u2
        unfold f_X8_when_110 f_X8_when_124
        rw [hb] at g4
        cases b with
        | true =>
          rw [if_pos rfl] at g4
          rw [if_pos rfl]
          refine wp_f one_ne ?_
          rw [wp_bind]
          refine m_year hRi u2 ?_
          intro M4 v1 v2 v3
          simp only []
          rw [w_suc (by omega)]
          exact kk _ M4 ⟨fun j x1 x2 x3 x4 x5 => ((v2 j x1 x2).trans (u1 j x4 x5)).trans (g1 j x1 x2 x3 x4 x5), fun q hq => ((v3 q hq).trans (congrFun (u1 127 (by decide) (by decide)) q)).trans (g2 q hq), Or.inr ⟨by omega, g4⟩⟩
        | false =>
          rw [if_neg (show ¬ (false = true) by decide)] at g4
          rw [if_neg (show ¬ (false = true) by decide)]
          refine wp_t rfl ?_
          rw [wp_bind]
          refine m_year hRi u2 ?_
          intro M4 v1 v2 v3
          simp only []
          rw [w_suc (by omega)]
          exact kk _ M4 ⟨fun j x1 x2 x3 x4 x5 => ((v2 j x1 x2).trans (u1 j x4 x5)).trans (g1 j x1 x2 x3 x4 x5), fun q hq => ((v3 q hq).trans (congrFun (u1 127 (by decide) (by decide)) q)).trans (g2 q hq), Or.inl ⟨rfl, v1, g4⟩⟩
      by_cases h0 : what = 0
      · refine wp_t h0 ?_
        rw [if_pos h0] at hP
        rw [wp_bind]
        refine m_noise hRi g3 (by omega) ?_
        intro M3 u1
        have u2 := LM_s g3 u1
        rw [wp_bind]
        refine m_calm u2.2.2.2.2 ?_
        simp only [gyn_2]
        by_cases hq : NZ (gyn e i) p ≤ e.2.1 1
        · exact wp_f (by omega) (go true M3 (by rw [← hP]; exact decide_eq_true hq) u1 u2)
        · exact wp_t (by omega) (go false M3 (by rw [← hP]; exact decide_eq_false hq) u1 u2)
      · refine wp_f h0 (wp_and (by omega) ?_)
        rw [if_neg h0] at hP
        rw [(g3.2.2.1 p (by omega) (by omega)).2.2.1]
        by_cases hq : (gyn e i).1 3 p = 0
        · exact wp_t hq (go true M2 (by rw [← hP]; exact decide_eq_true hq) (fun _ _ _ => rfl) g3)
        · exact wp_f hq (go false M2 (by rw [← hP]; exact decide_eq_false hq) (fun _ _ _ => rfl) g3)
    · exact wp_t g3 (fin st M2 g1 g2 g4)
  · intro fuel st M2 ⟨g1, g2, g3⟩
    show wp (f_X8_when_61 y1 y2 (fuel + 1) what p st ((61 : Nat) : Int) M2) _
    rw [f_X8_when_61.eq_2]
    refine wp_t (by omega) ?_
    rcases g3 with ⟨rfl, g3, g4⟩ | ⟨g3, g4⟩
    · rw [Nat.sub_self] at g4
      exact fin _ M2 g1 g2 g4
    · exact fin st M2 g1 g2 g4
theorem q_when {what p : Int} {e : Vw} {M : Mem} (hR : Rg e) (hy : e.1 6 0 ≤ 9999) (hC : LC 22 e M) (hM : LM e M) : QQ (f_X7_when what p) (f_X8_when what p) e M := by
  have hn := hR.1
  unfold QQ f_X7_when
  by_cases h0 : what = 0
  · refine wp_t h0 ?_
    rw [wp_bind]
    refine c_isH ?_
    have mm : ∀ (M1 : Mem) (Q : Int → Mem → Prop), wp ((f_X8_isHouse p M1).bind (fun q8 => if q8.1 = 0 then some ((-1), q8.2) else f_X8_when_35 what p what p q8.2)) Q → wp (f_X8_when what p M1) Q := by
      intro M1 Q k
      unfold f_X8_when
      rw [wp_bind]
      refine m_in_t (by omega) ?_
      exact wp_f one_ne (wp_t h0 k)
    by_cases hh : 0 ≤ p ∧ p ≤ 4
    · rw [if_pos hh]
      refine wp_f one_ne ?_
      rw [wp_bind]
      refine c_stillB hR hy hC hh ?_
      intro M1 h1
      rw [wp_some]
      refine mm _ _ ?_
      rw [wp_bind]
      refine m_isH ?_
      rw [if_pos hh]
      refine wp_f one_ne ?_
      unfold f_X8_when_35
      refine wp_f (by omega) ?_
      refine m_when51 hR hy (CF_LM hM h1) (Or.inl ⟨h0, hh⟩) ?_
      intro M2 g1 g2
      rw [if_pos h0]
      exact ⟨rfl, h1, g1, g2⟩
    · rw [if_neg hh]
      refine wp_t rfl ?_
      unfold f_X7_when_17
      refine wp_f (by omega) ?_
      rw [wp_some]
      refine mm _ _ ?_
      rw [wp_bind]
      refine m_isH ?_
      rw [if_neg hh]
      refine wp_t rfl ?_
      rw [wp_some]
      exact ⟨rfl, CF_rfl M, MF_rfl M, hM⟩
  · refine wp_f h0 ?_
    unfold f_X7_when_17
    by_cases h1 : what = 1
    · refine wp_t h1 ?_
      have mm : ∀ (M1 : Mem) (Q : Int → Mem → Prop), wp ((f_X8_isSound p M1).bind (fun q5 => if q5.1 = 0 then some ((-1), q5.2) else f_X8_when_35 what p what p q5.2)) Q → wp (f_X8_when what p M1) Q := by
        intro M1 Q k
        unfold f_X8_when
        rw [wp_bind]
        refine m_in_t (by omega) ?_
        exact wp_f one_ne (wp_f h0 k)
      rw [wp_bind]
      refine c_has hC ?_
      by_cases hs : 0 ≤ p ∧ p < e.1 0 0
      · rw [if_pos hs]
        refine wp_f one_ne ?_
        rw [wp_bind]
        refine c_isLost (by omega) ?_
        simp only [(hC.2.2.1 p hs.1 (by omega)).2.2.2]
        have mm2 : ∀ (M1 : Mem) (Q : Int → Mem → Prop), LM e M1 → wp (if (if e.1 4 p = -1 then (1 : Int) else 0) = 0 then f_X8_when_51 what p what p M1 else some ((-5), M1)) Q → wp (f_X8_when what p M1) Q := by
          intro M1 Q hM1 k
          refine mm _ _ ?_
          rw [wp_bind]
          refine m_isS hR hM1 ?_
          rw [if_pos hs]
          refine wp_f one_ne ?_
          unfold f_X8_when_35
          refine wp_t h1 ?_
          rw [wp_bind]
          refine m_isLost hR hM1 (by omega) ?_
          exact k
        by_cases hq : e.1 4 p = -1
        · rw [if_pos hq] at mm2
          rw [if_pos hq]
          refine wp_f one_ne ?_
          rw [wp_some]
          refine mm2 _ _ hM (wp_f one_ne ?_)
          rw [wp_some]
          exact ⟨rfl, CF_rfl M, MF_rfl M, hM⟩
        · rw [if_neg hq] at mm2
          rw [if_neg hq]
          refine wp_t rfl ?_
          rw [wp_bind]
          refine c_silent hR hy hC (by omega) ?_
          intro M1 g0
          rw [wp_some]
          refine mm2 _ _ (CF_LM hM g0) (wp_t rfl ?_)
          refine m_when51 hR hy (CF_LM hM g0) (Or.inr ⟨h0, by omega⟩) ?_
          intro M2 g1 g2
          rw [if_neg h0]
          exact ⟨rfl, g0, g1, g2⟩
      · rw [if_neg hs]
        refine wp_t rfl ?_
        rw [wp_some]
        refine mm _ _ ?_
        rw [wp_bind]
        refine m_isS hR hM ?_
        rw [if_neg hs]
        refine wp_t rfl ?_
        rw [wp_some]
        exact ⟨rfl, CF_rfl M, MF_rfl M, hM⟩
    · refine wp_f h1 ?_
      rw [wp_some]
      unfold f_X8_when
      rw [wp_bind]
      refine m_in_f (by omega) ?_
      refine wp_t rfl ?_
      rw [wp_some]
      exact ⟨rfl, CF_rfl M, MF_rfl M, hM⟩
