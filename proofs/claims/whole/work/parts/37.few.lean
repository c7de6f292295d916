/-! the class: by how few passings -/
def tryH (g : Int → Int → Option (List Int)) (l : Int → Int) (s h : Int) : Option (List Int) := if l s = -1 ∨ h < 0 ∨ 4 < h then none else g s h
def sr (g : Int → Int → Option (List Int)) (l a : Int → Int) : Nat → Int → Option (List Int)
  | 0, _ => none
  | m + 1, s => match tryH g l s (a s - 1) with
    | some r => some r
    | none => match tryH g l s (a s + 1) with
      | some r => some r
      | none => sr g l a m (s + 1)
def fst (F : Int → Int → Int → Int) (l : Int → Int) (N : Nat) (c : Int) : Nat → (Int → Int) → Option (List Int)
  | 0, a => if gA F N a ≤ c then some [] else none
  | k + 1, a => sr (fun s h => (fst F l N c k (ua a s h)).map (fun r => (10 * s + h) :: r)) l a N 0
theorem c_isH {p : Int} {M : Mem} {Q : Int → Mem → Prop} (k : Q (if 0 ≤ p ∧ p ≤ 4 then 1 else 0) M) : wp (f_X7_isHouse p M) Q := by
  unfold f_X7_isHouse f_X7_isIn
  simp only [wp_bind, wp_ite, wp_some]
  grind
theorem c_stillBy {F : Int → Int → Int → Int} {l : Int → Int} {N : Nat} {c : Int} (hF : RF F) (hN : N ≤ 6) : ∀ (k fuel d : Nat) (a : Int → Int) (M : Mem) (Q : Int → Mem → Prop), k < fuel → d + k ≤ 3 → RA a → WY F N c l a N M →
    (∀ M', (∀ j, j ≠ 6 → j ≠ 7 → j ≠ 12 → M' j = M j) → (∀ q : Int, q < d → M' 12 q = M 12 q) → fst F l N c k a = none → WY F N c l a N M' → Q 0 M') →
    (∀ M' r, (∀ j, j ≠ 6 → j ≠ 7 → j ≠ 12 → M' j = M j) → (∀ q : Int, q < d → M' 12 q = M 12 q) → fst F l N c k a = some r → r.length = k → (∀ q : Nat, q < k → M' 12 ((d + q : Nat) : Int) = r.getD q 0) → Q 1 M') →
    wp (f_X6_isStillBy fuel (d : Int) ((d + k : Nat) : Int) M) Q := by
  intro k
  induction k with
  | zero =>
    intro fuel d a M Q hf hd hA hW k0 k1
    obtain ⟨f, rfl⟩ : ∃ f, fuel = f + 1 := ⟨fuel - 1, by omega⟩
    show wp (s_X6_isStillBy (f_X6_isStillBy f) (d : Int) ((d + 0 : Nat) : Int) M) Q
    unfold s_X6_isStillBy
    refine wp_f (by omega) ?_
    rw [wp_bind]
    refine c_wgreat hW ?_
    simp only []
    rw [hW.2.1]
    by_cases hq : gA F N a ≤ c
    · refine wp_f (by unfold gA at hq; omega) ?_
      rw [wp_some]
      exact k1 M [] (fun _ _ _ _ => rfl) (fun _ _ => rfl) (show (if _ then _ else _) = _ from if_pos hq) rfl (fun q hq => by omega)
    · refine wp_t (by unfold gA at hq; omega) ?_
      rw [wp_some]
      exact k0 M (fun _ _ _ _ => rfl) (fun _ _ => rfl) (show (if _ then _ else _) = _ from if_neg hq) hW
  | succ k ih =>
    intro fuel d a M Q hf hd hA hW k0 k1
    obtain ⟨f, rfl⟩ : ∃ f, fuel = f + 1 := ⟨fuel - 1, by omega⟩
    show wp (s_X6_isStillBy (f_X6_isStillBy f) (d : Int) ((d + (k + 1) : Nat) : Int) M) Q
    unfold s_X6_isStillBy
    refine wp_t (by omega) ?_
    generalize hg : (fun s h => (fst F l N c k (ua a s h)).map (fun r => (10 * s + h) :: r)) = g
    have hfst : fst F l N c (k + 1) a = sr g l a N 0 := by rw [← hg]; rfl
    rw [hfst] at k0 k1
    generalize hT : sr g l a N 0 = T at k0 k1
    refine wloop0 (St := Unit) (L := fun fuel' x st M' => s_X6_isStillBy_24 (f_X6_isStillBy f) (d : Int) ((d + (k + 1) : Nat) : Int) fuel' (d : Int) ((d + (k + 1) : Nat) : Int) x M') N (Inv := fun s st M' => (∀ j, j ≠ 6 → j ≠ 7 → j ≠ 12 → M' j = M j) ∧ (∀ q : Int, q < d → M' 12 q = M 12 q) ∧ WY F N c l a N M' ∧ sr g l a (N - s) s = T) (Q := Q) (by omega) ?_ ?_ (st := ()) ⟨fun _ _ _ _ => rfl, fun _ _ => rfl, hW, hT⟩
    · intro s fuel' st M1 hs ⟨h1, h2, h3, h4⟩ kk
      show wp (s_X6_isStillBy_24 (f_X6_isStillBy f) (d : Int) ((d + (k + 1) : Nat) : Int) (fuel' + 1) (d : Int) ((d + (k + 1) : Nat) : Int) (s : Int) M1) Q
      rw [s_X6_isStillBy_24.eq_2, h3.1, h3.2.2.2.1 s (by omega) (by omega)]
      refine wp_f (by omega) (wp_and (by omega) ?_)
      have has := hA (s : Int)
      -- one house
      have one : ∀ (h : Int) (M : Mem) (Q : Int → Mem → Prop) (k24 : Int → Int → Int → Mem → Option (Int × Mem)) (fl : Nat), (h = a s - 1 ∨ h = a s + 1) → WY F N c l a N M →
          (∀ M', (∀ j, j ≠ 6 → j ≠ 7 → j ≠ 12 → M' j = M j) → (∀ q : Int, q < d → M' 12 q = M 12 q) → tryH g l s h = none → WY F N c l a N M' → wp (s_X6_isStillBy_46 (f_X6_isStillBy f) (d : Int) ((d + (k + 1) : Nat) : Int) k24 fl (d : Int) ((d + (k + 1) : Nat) : Int) (s : Int) (a s) (w32 (h + 2)) M') Q) →
          (∀ M' r, (∀ j, j ≠ 6 → j ≠ 7 → j ≠ 12 → M' j = M j) → (∀ q : Int, q < d → M' 12 q = M 12 q) → tryH g l s h = some r → r.length = k + 1 → (∀ q : Nat, q < k + 1 → M' 12 ((d + q : Nat) : Int) = r.getD q 0) → Q 1 M') →
          wp (s_X6_isStillBy_46 (f_X6_isStillBy f) (d : Int) ((d + (k + 1) : Nat) : Int) k24 (fl + 1) (d : Int) ((d + (k + 1) : Nat) : Int) (s : Int) (a s) h M) Q := by
        intro h M Q k24 fl hh hW m0 m1
        rw [s_X6_isStillBy_46.eq_2, w_id (z := a (s : Int) + 1) (by omega) (by omega)]
        refine wp_f (by omega) (wp_and (by omega) ?_)
        rw [hW.2.2.2.2.2 s (by omega) (by omega)]
        unfold s_X6_isStillBy_112
        by_cases hl : l (s : Int) = -1
        · rw [if_pos hl]
          exact wp_f (by decide) (m0 M (fun _ _ _ _ => rfl) (fun _ _ => rfl) (if_pos (Or.inl hl)) hW)
        · rw [if_neg hl]
          refine wp_t rfl ?_
          rw [wp_bind]
          refine c_isH ?_
          by_cases hin : 0 ≤ h ∧ h ≤ 4
          · rw [if_pos hin]
            refine wp_f (show ¬ (1 : Int) = 0 by decide) (wp_and (by omega) ?_)
            simp only []
            rw [wp_lt, wp_bind]
            have hW2 : WY F N c l a N (stM M 12 (d : Int) (w32 (w32 (10 * (s : Int)) + h))) := by
              obtain ⟨w1, w2, w3, w4, w5, w6⟩ := hW
              refine ⟨?_, ?_, ?_, ?_, ?_, ?_⟩ <;> rw [st_nc (by decide)] <;> assumption
            refine c_put hF hA hN (by omega) (by omega) hW2 ?_
            intro M2 g1 g2
            rw [wp_bind]
            have hgs : tryH g l s h = (fst F l N c k (ua a s h)).map (fun r => (10 * (s : Int) + h) :: r) := by
              unfold tryH
              rw [if_neg (by omega), ← hg]
            have hfr : ∀ j, j ≠ 6 → j ≠ 7 → j ≠ 12 → M2 j = M j := fun j x y z => by rw [g2 j x y, st_nc z]
            have h12 : ∀ q : Int, q ≠ d → M2 12 q = M 12 q := fun q hq => by rw [g2 12 (by decide) (by decide), st_ap, if_neg (by omega)]
            have h12d : M2 12 (d : Int) = 10 * (s : Int) + h := by
              rw [g2 12 (by decide) (by decide), st_ap, if_pos ⟨rfl, rfl⟩, w_id (z := 10 * (s : Int)) (by omega) (by omega), w_id (by omega) (by omega)]
            have e1 : w32 ((d : Int) + 1) = ((d + 1 : Nat) : Int) := w_suc (by omega)
            have e2 : ((d + (k + 1) : Nat) : Int) = ((d + 1 + k : Nat) : Int) := by omega
            simp only []
            rw [e1]
            have key := ih f (d + 1) (ua a s h) M2 (fun v M' => wp (if v = 0 then (f_X6_put (s : Int) (a s) M').bind (fun q15 => s_X6_isStillBy_46 (f_X6_isStillBy f) (d : Int) ((d + (k + 1) : Nat) : Int) k24 fl (d : Int) ((d + (k + 1) : Nat) : Int) (s : Int) (a s) (w32 (h + 2)) q15.2) else some (1, M')) Q) (by omega) (by omega) (ua_r hA (by omega)) g1 ?_ ?_
            · rw [← e2] at key
              exact key
            · intro M3 u1 u2 u3 u4
              refine wp_t rfl ?_
              rw [wp_bind]
              refine c_put hF (ua_r hA (by omega)) hN (by omega) has u4 ?_
              intro M4 v1 v2
              rw [ua_ua, ua_self] at v1
              refine m0 M4 (fun j x y z => (v2 j x y).trans ((u1 j x y z).trans (hfr j x y z))) (fun q hq => by rw [v2 12 (by decide) (by decide), u2 q (by omega), h12 q (by omega)]) ?_ v1
              rw [hgs, u3]
              rfl
            · intro M3 r u1 u2 u3 u4 u5
              refine wp_f (by decide) ?_
              rw [wp_some]
              refine m1 M3 ((10 * (s : Int) + h) :: r) (fun j x y z => (u1 j x y z).trans (hfr j x y z)) (fun q hq => by rw [u2 q (by omega), h12 q (by omega)]) ?_ (by simp [u4]) ?_
              · rw [hgs, u3]
                rfl
              · intro q hq
                cases q with
                | zero =>
                  rw [Nat.add_zero, u2 _ (by omega), h12d]
                  rfl
                | succ q =>
                  have := u5 q (by omega)
                  rw [show d + (q + 1) = d + 1 + q by omega, this]
                  rfl
          · rw [if_neg hin]
            refine wp_t rfl ?_
            exact m0 M (fun _ _ _ _ => rfl) (fun _ _ => rfl) (if_pos (by omega)) hW
      rw [show N - s = (N - (s + 1)) + 1 by omega] at h4
      rw [w_id (z := a (s : Int) - 1) (by omega) (by omega), FU_e, show (100000 : Nat) = 99997 + 1 + 1 + 1 from rfl]
      have h4' : (match tryH g l s (a s - 1) with | some r => some r | none => match tryH g l s (a s + 1) with | some r => some r | none => sr g l a (N - (s + 1)) ((s : Int) + 1)) = T := h4
      have kt : ∀ M' r, (∀ j, j ≠ 6 → j ≠ 7 → j ≠ 12 → M' j = M j) → (∀ q : Int, q < d → M' 12 q = M 12 q) → T = some r → r.length = k + 1 → (∀ q : Nat, q < k + 1 → M' 12 ((d + q : Nat) : Int) = r.getD q 0) → Q 1 M' := k1
      refine one (a s - 1) M1 Q _ _ (Or.inl rfl) h3 ?_ ?_
      · intro M2 u1 u2 u3 u4
        rw [w_id (by omega) (by omega), show a (s : Int) - 1 + 2 = a s + 1 by omega]
        rw [u3] at h4'
        refine one (a s + 1) M2 Q _ _ (Or.inr rfl) u4 ?_ ?_
        · intro M3 v1 v2 v3 v4
          rw [v3] at h4'
          rw [w_id (by omega) (by omega), s_X6_isStillBy_46.eq_2, w_id (z := a (s : Int) + 1) (by omega) (by omega)]
          refine wp_t (by omega) ?_
          rw [w_suc (by omega)]
          exact kk () M3 ⟨fun j x y z => (v1 j x y z).trans ((u1 j x y z).trans (h1 j x y z)), fun q hq => (v2 q hq).trans ((u2 q hq).trans (h2 q hq)), v4, h4'⟩
        · intro M3 r v1 v2 v3 v4 v5
          rw [v3] at h4'
          exact kt M3 r (fun j x y z => (v1 j x y z).trans ((u1 j x y z).trans (h1 j x y z))) (fun q hq => (v2 q hq).trans ((u2 q hq).trans (h2 q hq))) h4'.symm v4 v5
      · intro M2 r v1 v2 v3 v4 v5
        rw [v3] at h4'
        exact kt M2 r (fun j x y z => (v1 j x y z).trans (h1 j x y z)) (fun q hq => (v2 q hq).trans (h2 q hq)) h4'.symm v4 v5
    · intro fuel' st M1 ⟨h1, h2, h3, h4⟩
      show wp (s_X6_isStillBy_24 (f_X6_isStillBy f) (d : Int) ((d + (k + 1) : Nat) : Int) (fuel' + 1) (d : Int) ((d + (k + 1) : Nat) : Int) (N : Int) M1) Q
      rw [s_X6_isStillBy_24.eq_2, h3.1]
      refine wp_t (by omega) ?_
      rw [wp_some]
      rw [Nat.sub_self] at h4
      exact k0 M1 h1 h2 h4.symm h3
/-- the first number of passings by which it can be done -/
def few (F : Int → Int → Int → Int) (l : Int → Int) (N : Nat) (c : Int) (a : Int → Int) : Nat → Nat → Option (Nat × List Int)
  | 0, _ => none
  | m + 1, k => match fst F l N c k a with
    | some r => some (k, r)
    | none => few F l N c a m (k + 1)
def fewA (o : Option (Nat × List Int)) (k : Int) : Int := match o with
  | none => -5
  | some (m, r) => if k < 0 then m else if k < m then r.getD k.toNat 0 else -5
theorem c_few {F : Int → Int → Int → Int} {l : Int → Int} {N : Nat} {c : Int} {a : Int → Int} {M : Mem} {Q : Int → Mem → Prop} (hF : RF F) (hN : N ≤ 6) (hA : RA a) (hW : WY F N c l a N M)
    (k : ∀ (M' : Mem) (v : Int), (∀ j, j ≠ 6 → j ≠ 7 → j ≠ 12 → M' j = M j) → (few F l N c a 4 0 = none → v = -5) → (∀ m r, few F l N c a 4 0 = some (m, r) → v = m ∧ m ≤ 3 ∧ ∀ q : Nat, q < m → M' 12 (q : Int) = r.getD q 0) → Q v M') : wp (f_X6_fewestSteps M) Q := by
  unfold f_X6_fewestSteps
  generalize hT : few F l N c a 4 0 = T at k
  refine wloop0 (St := Unit) (L := fun fuel' x st M' => f_X6_fewestSteps_2 fuel' x M') 4 (Inv := fun i st M' => (∀ j, j ≠ 6 → j ≠ 7 → j ≠ 12 → M' j = M j) ∧ WY F N c l a N M' ∧ few F l N c a (4 - i) i = T) (Q := Q) (by omega) ?_ ?_ (st := ()) ⟨fun _ _ _ _ => rfl, hW, hT⟩
  · intro i fuel st M1 hi ⟨h1, h2, h3⟩ kk
    show wp (f_X6_fewestSteps_2 (fuel + 1) (i : Int) M1) Q
    rw [f_X6_fewestSteps_2.eq_2]
    refine wp_f (by omega) ?_
    rw [wp_bind]
    rw [show 4 - i = (4 - (i + 1)) + 1 by omega] at h3
    unfold few at h3
    have key := c_stillBy (F := F) (l := l) (N := N) (c := c) hF hN i 5 0 a M1 (fun v M' => wp (if v = 0 then f_X6_fewestSteps_2 fuel (w32 ((i : Int) + 1)) M' else some ((i : Int), M')) Q) (by omega) (by omega) hA h2 ?_ ?_
    · rw [Nat.zero_add] at key
      exact key
    · intro M2 u1 u2 u3 u4
      rw [u3] at h3
      refine wp_t rfl ?_
      rw [w_suc (by omega)]
      exact kk () M2 ⟨fun j x y z => (u1 j x y z).trans (h1 j x y z), u4, h3⟩
    · intro M2 r u1 u2 u3 u4 u5
      rw [u3] at h3
      refine wp_f (by decide) ?_
      rw [wp_some]
      refine k M2 i (fun j x y z => (u1 j x y z).trans (h1 j x y z)) (fun q => by rw [q] at h3; cases h3) (fun m r' q => ?_)
      rw [q] at h3
      cases h3
      exact ⟨rfl, by omega, fun q hq => by have := u5 q hq; rwa [Nat.zero_add] at this⟩
  · intro fuel st M1 ⟨h1, h2, h3⟩
    show wp (f_X6_fewestSteps_2 (fuel + 1) ((4 : Nat) : Int) M1) Q
    rw [f_X6_fewestSteps_2.eq_2]
    refine wp_t (by omega) ?_
    rw [wp_some]
    refine k M1 (-5) h1 (fun _ => rfl) (fun m r q => ?_)
    rw [q] at h3
    cases h3
