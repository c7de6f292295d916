/-! both, asked: odds, means -/
def gq : Nat → Int → Int → Int
  | 0, a, _ => a
  | n + 1, a, b => if b = 0 then a else gq n b (Int.tmod a b)
theorem tmod_lt {a b : Int} (ha : 0 ≤ a) (hb : 0 < b) : 0 ≤ Int.tmod a b ∧ Int.tmod a b < b := tmod_r ha hb
theorem gq_s : ∀ (n : Nat) (a b : Int), 0 ≤ b → b ≤ n → 0 ≤ a → gq n a b = gq (n + 1) a b
  | 0, a, b, h0, h1, _ => by
    obtain rfl : b = 0 := by omega
    rfl
  | n + 1, a, b, h0, h1, ha => by
    have e1 : gq (n + 1) a b = if b = 0 then a else gq n b (Int.tmod a b) := rfl
    have e2 : gq (n + 1 + 1) a b = if b = 0 then a else gq (n + 1) b (Int.tmod a b) := rfl
    rw [e1, e2]
    by_cases hb : b = 0
    · rw [if_pos hb, if_pos hb]
    · rw [if_neg hb, if_neg hb]
      have := tmod_lt (a := a) (b := b) ha (by omega)
      exact gq_s n b (Int.tmod a b) this.1 (by omega) h0
theorem gq_r : ∀ (n : Nat) (a b : Int), 0 ≤ b → b ≤ n → 0 ≤ a → 1 ≤ a ∨ 1 ≤ b → 1 ≤ gq n a b ∧ (gq n a b ≤ a ∨ gq n a b ≤ b)
  | 0, a, b, h0, h1, _, h => by
    unfold gq
    omega
  | n + 1, a, b, h0, h1, ha, h => by
    have e1 : gq (n + 1) a b = if b = 0 then a else gq n b (Int.tmod a b) := rfl
    rw [e1]
    by_cases hb : b = 0
    · rw [if_pos hb]; omega
    · rw [if_neg hb]
      have t := tmod_lt (a := a) (b := b) ha (by omega)
      have := gq_r n b (Int.tmod a b) t.1 (by omega) h0 (by omega)
      omega
/-- the class's way: each number up to b is tried -/
def cdl (a b : Int) : Nat → Int
  | 0 => 1
  | n + 1 => if Int.tmod a ((n + 2 : Nat) : Int) = 0 ∧ Int.tmod b ((n + 2 : Nat) : Int) = 0 then ((n + 2 : Nat) : Int) else cdl a b n
theorem cdl_gq {a b : Int} (ha : 0 ≤ a) (hb : 1 ≤ b ∧ b ≤ 7) : cdl a b (b - 1).toNat = gq 7 a b := by
  have e : ∀ d, Int.tmod a d = a % d := fun d => Int.tmod_eq_emod_of_nonneg ha
  have hb' : b = 1 ∨ b = 2 ∨ b = 3 ∨ b = 4 ∨ b = 5 ∨ b = 6 ∨ b = 7 := by omega
  rcases hb' with rfl | rfl | rfl | rfl | rfl | rfl | rfl
  · have h : a % 1 = 0 := by omega
    simp [cdl, gq, e, h]
  · have h : a % 2 = 0 ∨ a % 2 = 1 := by omega
    rcases h with h | h <;> (simp [cdl, gq, e, h] <;> omega)
  · have h : a % 3 = 0 ∨ a % 3 = 1 ∨ a % 3 = 2 := by omega
    rcases h with h | h | h <;> (simp [cdl, gq, e, h] <;> omega)
  · have h : a % 4 = 0 ∨ a % 4 = 1 ∨ a % 4 = 2 ∨ a % 4 = 3 := by omega
    rcases h with h | h | h | h <;> (simp [cdl, gq, e, h] <;> omega)
  · have h : a % 5 = 0 ∨ a % 5 = 1 ∨ a % 5 = 2 ∨ a % 5 = 3 ∨ a % 5 = 4 := by omega
    rcases h with h | h | h | h | h <;> (simp [cdl, gq, e, h] <;> omega)
  · have h : a % 6 = 0 ∨ a % 6 = 1 ∨ a % 6 = 2 ∨ a % 6 = 3 ∨ a % 6 = 4 ∨ a % 6 = 5 := by omega
    rcases h with h | h | h | h | h | h <;> (simp [cdl, gq, e, h] <;> omega)
  · have h : a % 7 = 0 ∨ a % 7 = 1 ∨ a % 7 = 2 ∨ a % 7 = 3 ∨ a % 7 = 4 ∨ a % 7 = 5 ∨ a % 7 = 6 := by omega
    rcases h with h | h | h | h | h | h | h <;> (simp [cdl, gq, e, h] <;> omega)
theorem c_gcd {a b : Int} {M : Mem} {Q : Int → Mem → Prop} (ha : 0 ≤ a) (hb : 1 ≤ b ∧ b ≤ 7) (k : Q (gq 7 a b) M) : wp (f_X7_commonDivisor a b M) Q := by
  rw [← cdl_gq ha hb] at k
  unfold f_X7_commonDivisor
  obtain ⟨N, hN⟩ : ∃ N : Nat, b = (N : Int) + 1 := ⟨(b - 1).toNat, by omega⟩
  show wp (f_X7_commonDivisor_4 a b FU a b 1 ((2 : Nat) : Int) M) Q
  refine wloop (St := Int) (L := fun fuel x st M' => f_X7_commonDivisor_4 a b fuel a b st x M') (N := N + 2) (Inv := fun i st M' => M' = M ∧ ∃ j, i = j + 2 ∧ st = cdl a b j) (Q := Q) ?_ ?_ N FU 2 1 M (by rw [FU_e]; omega) (by omega) ⟨rfl, 0, rfl, rfl⟩
  · intro i fuel st M' hi ⟨e, j, hj, hs⟩ kk
    subst e
    subst hj
    show wp (f_X7_commonDivisor_4 a b (fuel + 1) a b st ((j + 2 : Nat) : Int) M') Q
    rw [f_X7_commonDivisor_4.eq_2]
    refine wp_f (by omega) (wp_f (by omega) ?_)
    have e3 : cdl a b (j + 1) = if Int.tmod a ((j + 2 : Nat) : Int) = 0 ∧ Int.tmod b ((j + 2 : Nat) : Int) = 0 then ((j + 2 : Nat) : Int) else cdl a b j := rfl
    unfold f_X7_commonDivisor_23
    rw [w_suc (by omega)]
    by_cases c1 : Int.tmod a ((j + 2 : Nat) : Int) = 0
    · refine wp_t c1 (wp_f (by omega) ?_)
      by_cases c2 : Int.tmod b ((j + 2 : Nat) : Int) = 0
      · refine wp_t c2 ?_
        exact kk _ M' ⟨rfl, j + 1, by omega, by rw [e3, if_pos ⟨c1, c2⟩]⟩
      · refine wp_f c2 ?_
        exact kk _ M' ⟨rfl, j + 1, by omega, by rw [e3, if_neg (fun h => c2 h.2)]; exact hs⟩
    · refine wp_f c1 ?_
      exact kk _ M' ⟨rfl, j + 1, by omega, by rw [e3, if_neg (fun h => c1 h.1)]; exact hs⟩
  · intro fuel st M' ⟨e, j, hj, hs⟩
    subst e
    show wp (f_X7_commonDivisor_4 a b (fuel + 1) a b st ((N + 2 : Nat) : Int) M') Q
    rw [f_X7_commonDivisor_4.eq_2]
    refine wp_t (by omega) ?_
    rw [wp_some, hs, show j = (b - 1).toNat by omega]
    exact k
theorem m_gcd {a0 b0 : Int} : ∀ (n fuel : Nat) (a b : Int) (M : Mem), n < fuel → 0 ≤ b → b ≤ n → 0 ≤ a → f_X8_divisor_5 a0 b0 fuel a b M = some (gq n a b, M)
  | 0, fuel, a, b, M, hf, h0, h1, ha => by
    obtain ⟨f, rfl⟩ : ∃ f, fuel = f + 1 := ⟨fuel - 1, by omega⟩
    obtain rfl : b = 0 := by omega
    rw [f_X8_divisor_5.eq_2, if_pos rfl]
    rfl
  | n + 1, fuel, a, b, M, hf, h0, h1, ha => by
    obtain ⟨f, rfl⟩ : ∃ f, fuel = f + 1 := ⟨fuel - 1, by omega⟩
    have e1 : gq (n + 1) a b = if b = 0 then a else gq n b (Int.tmod a b) := rfl
    rw [f_X8_divisor_5.eq_2, e1]
    by_cases hb : b = 0
    · rw [if_pos hb, if_pos hb]
    · rw [if_neg hb, if_neg hb, if_neg hb]
      have t := tmod_lt (a := a) (b := b) ha (by omega)
      exact m_gcd n f b (Int.tmod a b) M (by omega) t.1 (by omega) h0
def frac (a b part : Int) : Int := if part = 0 then Int.tdiv a (gq 7 a b) else Int.tdiv b (gq 7 a b)
theorem tdiv_r1 {a d : Int} (ha : 0 ≤ a) (hd : 1 ≤ d) : 0 ≤ Int.tdiv a d ∧ Int.tdiv a d ≤ a := tdiv_r ha (by omega)
theorem c_frac {a b part : Int} {M : Mem} {Q : Int → Mem → Prop} (ha : 0 ≤ a ∧ a ≤ 1000000) (hb : 1 ≤ b ∧ b ≤ 7) (k : Q (if part = 0 ∨ part = 1 then frac a b part else -9223372036854775808) M) : wp (f_X7_ofFraction a b part M) Q := by
  unfold f_X7_ofFraction
  rw [wp_bind]
  refine c_gcd ha.1 hb ?_
  have g := gq_r 7 a b (by omega) (by omega) ha.1 (by omega)
  have d1 := tdiv_r1 (a := a) (d := gq 7 a b) ha.1 g.1
  have d2 := tdiv_r1 (a := b) (d := gq 7 a b) (by omega) g.1
  unfold frac at k
  unfold f_X7_ofFraction_24
  simp only []
  rw [w_id (z := Int.tdiv a (gq 7 a b)) (by omega) (by omega), w_id (z := Int.tdiv b (gq 7 a b)) (by omega) (by omega)]
  refine wp_f (by omega) ?_
  by_cases h0 : part = 0
  · rw [if_pos (Or.inl h0), if_pos h0] at k
    exact wp_t h0 (wp_t h0 (wp_f (by omega) (wp_some.mpr k)))
  · refine wp_f h0 ?_
    by_cases h1 : part = 1
    · rw [if_pos (Or.inr h1), if_neg h0] at k
      exact wp_t h1 (wp_f h0 (wp_f (by omega) (wp_some.mpr k)))
    · rw [if_neg (by omega)] at k
      exact wp_f h1 (wp_some.mpr k)
theorem m_frac {a b part : Int} {M : Mem} {Q : Int → Mem → Prop} (ha : 0 ≤ a ∧ a ≤ 1000000) (hb : 1 ≤ b ∧ b ≤ 7) (k : Q (frac a b part) M) : wp (f_X8_lowest a b part M) Q := by
  unfold f_X8_lowest f_X8_divisor
  rw [m_gcd 7 FU a b M (by rw [FU_e]; decide) (by omega) (by omega) ha.1]
  have g := gq_r 7 a b (by omega) (by omega) ha.1 (by omega)
  have d1 := tdiv_r1 (a := a) (d := gq 7 a b) ha.1 g.1
  have d2 := tdiv_r1 (a := b) (d := gq 7 a b) (by omega) g.1
  rw [wp_bind, wp_some]
  unfold frac at k
  simp only []
  rw [w_id (z := Int.tdiv a (gq 7 a b)) (by omega) (by omega), w_id (z := Int.tdiv b (gq 7 a b)) (by omega) (by omega)]
  by_cases h0 : part = 0
  · rw [if_pos h0] at k
    exact wp_t h0 (wp_f (by omega) (wp_some.mpr k))
  · rw [if_neg h0] at k
    exact wp_f h0 (wp_f (by omega) (wp_some.mpr k))
theorem q_odds {h part : Int} {e : Vw} {M : Mem} (hR : Rg e) (hC : LC 22 e M) (hM : LM e M) : QQ (f_X7_odds h part) (f_X8_odds h part) e M := by
  have hn := hR.1
  obtain ⟨N, hN⟩ : ∃ N : Nat, e.1 0 0 = (N : Int) := ⟨(e.1 0 0).toNat, by omega⟩
  have hA := Rg_RA hR
  unfold QQ f_X7_odds
  rw [wp_bind]
  refine c_isH ?_
  by_cases hh : 0 ≤ h ∧ h ≤ 4
  · rw [if_pos hh]
    refine wp_f one_ne ?_
    simp only [hC.1]
    have mm : ∀ (M1 : Mem) (Q : Int → Mem → Prop), LM e M1 → wp ((f_X8_in part 0 1 M1).bind (fun q4 => if q4.1 = 0 then some ((-9223372036854775808), q4.2) else if q4.2 127 0 = 0 then some ((-9223372036854775808), q4.2) else f_X8_odds_34 h part FU h part 0 0 q4.2)) Q → wp (f_X8_odds h part M1) Q := by
      intro M1 Q hL k
      unfold f_X8_odds
      rw [wp_bind]
      refine m_isH ?_
      rw [if_pos hh]
      exact wp_f one_ne k
    by_cases hz : e.1 0 0 = 0
    · refine wp_t hz ?_
      rw [wp_some]
      refine mm _ _ hM ?_
      rw [wp_bind]
      refine m_in ?_
      by_cases hp : 0 ≤ part ∧ part ≤ 1
      · rw [if_pos hp]
        refine wp_f one_ne ?_
        refine wp_t (hM.1.trans hz) ?_
        rw [wp_some]
        exact ⟨rfl, CF_rfl M, MF_rfl M, hM⟩
      · rw [if_neg hp]
        refine wp_t rfl ?_
        rw [wp_some]
        exact ⟨rfl, CF_rfl M, MF_rfl M, hM⟩
    · refine wp_f hz ?_
      rw [wp_bind]
      refine c_take hR hC ?_
      intro M1 h1 h2
      rw [hN, Int.toNat_natCast] at h1
      rw [wp_bind]
      refine c_without (t := h) (Fh_RF hR) hA (by omega) rfl hh h1 ?_
      intro M2 g1
      rw [wp_bind]
      have hCF : CF M M2 := fun j a b c d => (g1 j (by omega) (by omega)).trans (h2 j (by omega) (by omega) (by omega) (by omega) (by omega) (by omega))
      have hM2 := CF_LM hM hCF
      have e22 : M2 22 0 = (N : Int) := by rw [hCF 22 (by decide) (by decide) (by decide) (by decide), hC.1, hN]
      generalize hg : sm1 (fun s => decide (nzs (Fh e) (ua (e.1 4) s (-1)) h N ≤ e.2.1 1)) N = G
      have hGr : 0 ≤ G ∧ G ≤ N := by rw [← hg]; exact sm1_r _ N
      simp only [e22]
      refine c_frac (by omega) (by omega) ?_
      rw [wp_some]
      refine mm _ _ hM2 ?_
      rw [wp_bind]
      refine m_in ?_
      by_cases hp : 0 ≤ part ∧ part ≤ 1
      · rw [if_pos hp, if_pos (show part = 0 ∨ part = 1 by omega)]
        refine wp_f one_ne ?_
        refine wp_f (fun c => hz (hM2.1.symm.trans c)) ?_
        refine wloop0 (St := Int) (L := fun fuel x st M' => f_X8_odds_34 h part fuel h part st x M') N (Inv := fun i st M' => MF M2 M' ∧ LM e M' ∧ st = sm1 (fun s => decide (nzs (Fh e) (ua (e.1 4) s (-1)) h N ≤ e.2.1 1)) i) (by omega) ?_ ?_ (st := 0) ⟨MF_rfl M2, hM2, rfl⟩
        · intro i fuel st M3 hi ⟨u1, u2, u3⟩ kk
          show wp (f_X8_odds_34 h part (fuel + 1) h part st (i : Int) M3) _
          rw [f_X8_odds_34.eq_2, u2.1, hN]
          refine wp_f (by omega) (wp_and (by omega) (wp_and (by omega) ?_))
          rw [wp_lt, wp_bind, (u2.2.2.1 i (by omega) (by omega)).2.2.2]
          have hL0 : LM (upA e (e.1 4)) M3 := by rw [upA_self]; exact u2
          have hL2 := LM_st (s := i) (z := -1) (zz := -5) hL0 rfl
          refine m_noise (upA_r hR (ua_r hA (by omega))) hL2 hh ?_
          intro M4 v1
          rw [upA_N hN, wp_bind]
          have hL4 := LM_s hL2 v1
          refine m_calm hL4.2.2.2.2 ?_
          have hback := LM_st (s := i) (z := e.1 4 i) hL4 rfl
          rw [ua_ua, ua_self, upA_self] at hback
          have r := sm1_r (fun s => decide (nzs (Fh e) (ua (e.1 4) s (-1)) h N ≤ e.2.1 1)) i
          have e3 : sm1 (fun s => decide (nzs (Fh e) (ua (e.1 4) s (-1)) h N ≤ e.2.1 1)) (i + 1) = sm1 (fun s => decide (nzs (Fh e) (ua (e.1 4) s (-1)) h N ≤ e.2.1 1)) i + (if decide (nzs (Fh e) (ua (e.1 4) (i : Int) (-1)) h N ≤ e.2.1 1) = true then 1 else 0) := rfl
          unfold f_X8_odds_79
          simp only []
          rw [w_suc (by omega)]
          have hMF := MF_tr u1 (MF_tr (MF_tr MF_131 (MF_s v1)) (MF_131 (s := (i : Int)) (z := hm (e.1 4 i))))
          show wp (if e.2.1 1 < nzs (Fh e) (ua (e.1 4) (i : Int) (-1)) h N then _ else _) _
          by_cases hq : nzs (Fh e) (ua (e.1 4) (i : Int) (-1)) h N ≤ e.2.1 1
          · rw [if_pos (decide_eq_true hq)] at e3
            refine wp_f (by omega) (wp_and (by omega) ?_)
            rw [wp_lt, w_id (by omega) (by omega)]
            exact kk _ _ ⟨hMF, hback, by omega⟩
          · rw [if_neg (by rw [decide_eq_false hq]; decide)] at e3
            refine wp_t (by omega) (wp_and (by omega) ?_)
            rw [wp_lt, w_id (by omega) (by omega)]
            exact kk _ _ ⟨hMF, hback, by omega⟩
        · intro fuel st M3 ⟨u1, u2, u3⟩
          show wp (f_X8_odds_34 h part (fuel + 1) h part st (N : Int) M3) _
          rw [f_X8_odds_34.eq_2, u2.1, hN]
          refine wp_t (by omega) ?_
          rw [wp_bind, u3, hg]
          refine m_frac (by omega) (by omega) ?_
          rw [wp_some]
          exact ⟨rfl, hCF, u1, u2⟩
      · rw [if_neg hp, if_neg (show ¬ (part = 0 ∨ part = 1) by omega)]
        refine wp_t rfl ?_
        rw [wp_some]
        exact ⟨rfl, hCF, MF_rfl M2, hM2⟩
  · rw [if_neg hh]
    refine wp_t rfl ?_
    rw [wp_some]
    unfold f_X8_odds
    rw [wp_bind]
    refine m_isH ?_
    rw [if_neg hh]
    refine wp_t rfl ?_
    rw [wp_some]
    exact ⟨rfl, CF_rfl M, MF_rfl M, hM⟩
theorem q_mean {n part : Int} {e : Vw} {M : Mem} (hR : Rg e) (hy : e.1 6 0 ≤ 9999) (hC : LC 22 e M) (hM : LM e M) : QQ (f_X7_mean n part) (f_X8_mean n part) e M := by
  unfold QQ f_X7_mean
  rw [wp_bind]
  refine c_isIn ?_
  by_cases hn : 0 ≤ n ∧ n ≤ 60
  · rw [if_pos hn]
    refine wp_f one_ne ?_
    rw [wp_bind]
    obtain ⟨m, rfl⟩ : ∃ m : Nat, n = (m : Int) := ⟨n.toNat, by omega⟩
    have hRm := gyn_r hR m (by omega)
    refine c_ask hC ?_
    intro M1 h1 h2
    rw [wp_bind]
    refine c_years (n := m) hR (by omega) (by omega) (Or.inr (Or.inr rfl)) h1 ?_
    intro M2 g1 g2 g3
    have hCF2 : CF M M2 := fun j a b c d => (g2 j (by omega) (by omega)).trans (h2 j (by omega))
    have nr : ∀ t : Int, 0 ≤ t → t ≤ 4 → 0 ≤ NZ (gyn e m) t ∧ NZ (gyn e m) t ≤ 6588 := fun t a b => NZ_r hRm a b _ (by have := hRm.1; omega)
    have sr : ∀ i : Nat, i ≤ 5 → 0 ≤ sums (NZ (gyn e m)) i ∧ sums (NZ (gyn e m)) i ≤ 6588 * i := by
      intro i
      induction i with
      | zero => intro _; unfold sums; omega
      | succ i ih =>
        intro hi
        have := ih (by omega)
        have := nr i (by omega) (by omega)
        unfold sums
        omega
    refine wloop0 (St := Int) (L := fun fuel x st M' => f_X7_mean_37 (m : Int) part fuel part st x M') 5 (Inv := fun i st M' => (∀ j, j ≠ 60 + 18 → M' j = M2 j) ∧ st = sums (NZ (gyn e m)) i) (by omega) ?_ ?_ (st := 0) ⟨fun _ _ => rfl, rfl⟩
    · intro i fuel st M3 hi ⟨u1, u2⟩ kk
      show wp (f_X7_mean_37 (m : Int) part (fuel + 1) part st (i : Int) M3) _
      rw [f_X7_mean_37.eq_2]
      refine wp_f (by omega) ?_
      rw [wp_bind]
      refine c_noise hRm (Or.inr (Or.inr rfl)) (LC_fr (Or.inr (Or.inr rfl)) g1 u1) (by omega) ?_
      intro M4 v1
      have r1 := nr i (by omega) (by omega)
      have r2 := sr i (by omega)
      simp only []
      rw [w_suc (by omega), u2, w_id (by omega) (by omega)]
      exact kk _ M4 ⟨fun j hj => (v1 j hj).trans (u1 j hj), rfl⟩
    · intro fuel st M3 ⟨u1, u2⟩
      show wp (f_X7_mean_37 (m : Int) part (fuel + 1) part st ((5 : Nat) : Int) M3) _
      rw [f_X7_mean_37.eq_2]
      refine wp_t (by omega) ?_
      have r2 := sr 5 (by omega)
      rw [wp_bind, u2]
      refine c_frac (by omega) (by omega) ?_
      rw [wp_some]
      have hCF : CF M M3 := CF_tr hCF2 (CF_60 u1)
      have hM3 := CF_LM hM hCF
      unfold f_X8_mean
      rw [wp_bind]
      unfold f_X8_isYears
      rw [wp_bind]
      refine m_in ?_
      rw [if_pos hn, wp_some]
      refine wp_f one_ne ?_
      rw [wp_bind]
      refine m_in ?_
      by_cases hp : 0 ≤ part ∧ part ≤ 1
      · rw [if_pos hp, if_pos (show part = 0 ∨ part = 1 by omega)]
        refine wp_f one_ne ?_
        rw [wp_bind]
        refine m_save ?_
        intro M4 a1 a2 a3 a4
        have hL4 := m_saved hM3 a1 a2
        rw [wp_bind]
        refine m_years (n := m) hR (by omega) (by omega) hL4 ?_
        intro M5 b1 b2 b3
        rw [wp_bind]
        refine m_lay hRm b1 ?_
        intro M6 d1 d2
        rw [wp_bind]
        unfold f_X8_sumLaid
        simp only []
        have r0 := nr 0 (by omega) (by omega)
        have r1 := nr 1 (by omega) (by omega)
        have r22 := nr 2 (by omega) (by omega)
        have r3 := nr 3 (by omega) (by omega)
        have r4 := nr 4 (by omega) (by omega)
        rw [d2 0 (by omega) (by omega), d2 1 (by omega) (by omega), d2 2 (by omega) (by omega), d2 3 (by omega) (by omega), d2 4 (by omega) (by omega), w_id (z := NZ (gyn e m) 0 + NZ (gyn e m) 1) (by omega) (by omega), w_id (z := NZ (gyn e m) 0 + NZ (gyn e m) 1 + NZ (gyn e m) 2) (by omega) (by omega), w_id (z := NZ (gyn e m) 0 + NZ (gyn e m) 1 + NZ (gyn e m) 2 + NZ (gyn e m) 3) (by omega) (by omega), w_id (by omega) (by omega), wp_some, wp_bind]
        have es : NZ (gyn e m) 0 + NZ (gyn e m) 1 + NZ (gyn e m) 2 + NZ (gyn e m) 3 + NZ (gyn e m) 4 = sums (NZ (gyn e m)) 5 := by
          unfold sums sums sums sums sums sums
          simp
        refine m_putB ?_
        intro M7 x1 x2 x3 x4
        rw [wp_bind]
        simp only []
        rw [es]
        refine m_frac (by omega) (by omega) ?_
        rw [wp_some]
        have hb := m_back (M2 := M6) hM3 a1 a2 a3 a4 (fun j c1 c2 c3 c4 c5 => (d1 j c4 c5).trans (b2 j c1 c2)) (fun q hq => (congrFun (d1 127 (by decide) (by decide)) q).trans (b3 q hq)) x1 x2 x3 x4
        exact ⟨rfl, hCF, hb.1, hb.2⟩
      · rw [if_neg hp, if_neg (show ¬ (part = 0 ∨ part = 1) by omega)]
        refine wp_t rfl ?_
        rw [wp_some]
        exact ⟨rfl, hCF, MF_rfl _, hM3⟩
  · rw [if_neg hn]
    refine wp_t rfl ?_
    rw [wp_some]
    unfold f_X8_mean
    rw [wp_bind]
    unfold f_X8_isYears
    rw [wp_bind]
    refine m_in ?_
    rw [if_neg hn, wp_some]
    refine wp_t rfl ?_
    rw [wp_some]
    exact ⟨rfl, CF_rfl M, MF_rfl M, hM⟩
