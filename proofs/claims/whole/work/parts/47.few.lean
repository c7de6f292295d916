/-! the model: by how few passings; rows as numbers in base 30 -/
def mv (N : Nat) (a : Int → Int) (d : Nat) : Option (Int → Int) := if d / 5 < N ∧ a ((d / 5 : Nat) : Int) ≠ -1 ∧ far (a ((d / 5 : Nat) : Int)) ((d % 5 : Nat) : Int) = 1 then some (ua a ((d / 5 : Nat) : Int) ((d % 5 : Nat) : Int)) else none
def okr (F : Int → Int → Int → Int) (N : Nat) (c : Int) : Nat → Nat → (Int → Int) → Bool
  | 0, _, a => decide (gA F N a ≤ c)
  | m + 1, row, a => match mv N a (row / 30 ^ m % 30) with
    | none => false
    | some a' => okr F N c m (row % 30 ^ m) a'
def digs : Nat → Nat → List Int
  | 0, _ => []
  | m + 1, row => (10 * ((row / 30 ^ m % 30 / 5 : Nat) : Int) + ((row / 30 ^ m % 30 % 5 : Nat) : Int)) :: digs m (row % 30 ^ m)
/-- between two rows: the first that is good, or none -/
def Fst1 (P : Nat → Bool) (D : Nat → List Int) (lo hi : Nat) (o : Option (List Int)) : Prop := (o = none → ∀ r, lo ≤ r → r < hi → P r = false) ∧ ∀ L, o = some L → ∃ r, lo ≤ r ∧ r < hi ∧ P r = true ∧ (∀ q, lo ≤ q → q < r → P q = false) ∧ L = D r
theorem Fst1_app {P : Nat → Bool} {D : Nat → List Int} {lo mi hi : Nat} {o p : Option (List Int)} (h1 : lo ≤ mi) (h2 : mi ≤ hi) (ho : Fst1 P D lo mi o) (hp : Fst1 P D mi hi p) : Fst1 P D lo hi (match (generalizing := false) o with | some L => some L | none => p) := by
  cases o with
  | none =>
    refine ⟨fun h r a b => ?_, fun L h => ?_⟩
    · by_cases q : r < mi
      · exact ho.1 rfl r a q
      · exact hp.1 h r (by omega) b
    · obtain ⟨r, a, b, c, d, e⟩ := hp.2 L h
      refine ⟨r, by omega, b, c, fun q x y => ?_, e⟩
      by_cases z : q < mi
      · exact ho.1 rfl q x z
      · exact d q (by omega) y
  | some L0 =>
    refine ⟨fun h => (by cases h), fun L h => ?_⟩
    cases h
    obtain ⟨r, a, b, c, d, e⟩ := ho.2 L0 rfl
    exact ⟨r, a, by omega, c, d, e⟩
def trd (F : Int → Int → Int → Int) (l : Int → Int) (N : Nat) (c : Int) (m : Nat) (a : Int → Int) (d : Nat) : Option (List Int) := match mv N a d with
  | none => none
  | some a' => (fst F l N c m a').map (fun r => (10 * ((d / 5 : Nat) : Int) + ((d % 5 : Nat) : Int)) :: r)
def sd (f : Nat → Option (List Int)) : Nat → Nat → Option (List Int)
  | 0, _ => none
  | j + 1, d => match f d with
    | some L => some L
    | none => sd f j (d + 1)
theorem sd_F {P : Nat → Bool} {D : Nat → List Int} {f : Nat → Option (List Int)} {p : Nat} (h : ∀ d, d < 30 → Fst1 P D (d * p) ((d + 1) * p) (f d)) : ∀ j d, d + j = 30 → Fst1 P D (d * p) (30 * p) (sd f j d)
  | 0, d, e => by
    obtain rfl : d = 30 := by omega
    exact ⟨fun _ r a b => by omega, fun L h => by cases h⟩
  | j + 1, d, e => by
    have h1 := sd_F h j (d + 1) (by omega)
    exact Fst1_app (Nat.mul_le_mul_right p (by omega)) (Nat.mul_le_mul_right p (by omega)) (h d (by omega)) h1
theorem sd_no {f : Nat → Option (List Int)} : ∀ j d, (∀ q, d ≤ q → q < d + j → f q = none) → sd f j d = none
  | 0, _, _ => rfl
  | j + 1, d, h => by
    unfold sd
    rw [h d (by omega) (by omega)]
    exact sd_no j (d + 1) (fun q a b => h q (by omega) (by omega))
theorem mv_s {N s h : Nat} {a : Int → Int} (hh : h < 5) : mv N a (5 * s + h) = if s < N ∧ a (s : Int) ≠ -1 ∧ far (a (s : Int)) (h : Int) = 1 then some (ua a (s : Int) (h : Int)) else none := by
  unfold mv
  rw [show (5 * s + h) / 5 = s by omega, show (5 * s + h) % 5 = h by omega]
theorem trd_s {F : Int → Int → Int → Int} {l : Int → Int} {N : Nat} {c : Int} {m s h : Nat} {a : Int → Int} (hh : h < 5) (hs : s < N) : trd F l N c m a (5 * s + h) = if a (s : Int) ≠ -1 ∧ far (a (s : Int)) (h : Int) = 1 then (fst F l N c m (ua a (s : Int) (h : Int))).map (fun r => (10 * (s : Int) + (h : Int)) :: r) else none := by
  unfold trd
  rw [mv_s hh, show (5 * s + h) / 5 = s by omega, show (5 * s + h) % 5 = h by omega]
  by_cases q : a (s : Int) ≠ -1 ∧ far (a (s : Int)) (h : Int) = 1
  · rw [if_pos q, if_pos ⟨hs, q⟩]
  · rw [if_neg q, if_neg (fun c => q c.2)]
theorem trd_no {F : Int → Int → Int → Int} {l : Int → Int} {N : Nat} {c : Int} {m d : Nat} {a : Int → Int} (h : N ≤ d / 5) : trd F l N c m a d = none := by
  unfold trd mv
  rw [if_neg (by omega)]
def LA (l a : Int → Int) (N : Nat) : Prop := ∀ s : Int, 0 ≤ s → s < N → (a s = -1 ↔ l s = -1)
theorem sr_sd {F : Int → Int → Int → Int} {l : Int → Int} {N : Nat} {c : Int} {m : Nat} {a : Int → Int} (hA : RA a) (hN : N ≤ 6) (hl : LA l a N) : ∀ j s, s + j = N → sr (fun s h => (fst F l N c m (ua a s h)).map (fun r => (10 * s + h) :: r)) l a j (s : Int) = sd (trd F l N c m a) (30 - 5 * s) (5 * s)
  | 0, s, e => by
    rw [sd_no _ _ (fun q a b => trd_no (by omega))]
    rfl
  | j + 1, s, e => by
    have ih := sr_sd (c := c) (m := m) (F := F) hA hN hl j (s + 1) (by omega)
    generalize hg : (fun s h => (fst F l N c m (ua a s h)).map (fun r => (10 * s + h) :: r)) = g at ih ⊢
    have has := hA (s : Int)
    have hls := hl (s : Int) (by omega) (by omega)
    obtain ⟨k, hk⟩ : ∃ k, 30 - 5 * s = k + 5 := ⟨25 - 5 * s, by omega⟩
    have e5 : 30 - 5 * (s + 1) = k := by omega
    rw [hk]
    have t : ∀ h : Nat, h < 5 → trd F l N c m a (5 * s + h) = if a (s : Int) ≠ -1 ∧ far (a (s : Int)) (h : Int) = 1 then g (s : Int) (h : Int) else none := by
      intro h hh
      rw [trd_s hh (by omega), ← hg]
    have t0 := t 0 (by omega)
    have t1 := t 1 (by omega)
    have t2 := t 2 (by omega)
    have t3 := t 3 (by omega)
    have t4 := t 4 (by omega)
    rw [e5] at ih
    have un : sd (trd F l N c m a) (k + 5) (5 * s) = match trd F l N c m a (5 * s + 0) with | some L => some L | none => match trd F l N c m a (5 * s + 1) with | some L => some L | none => match trd F l N c m a (5 * s + 2) with | some L => some L | none => match trd F l N c m a (5 * s + 3) with | some L => some L | none => match trd F l N c m a (5 * s + 4) with | some L => some L | none => sd (trd F l N c m a) k (5 * (s + 1)) := rfl
    have ul : sr g l a (j + 1) (s : Int) = match tryH g l (s : Int) (a (s : Int) - 1) with | some r => some r | none => match tryH g l (s : Int) (a (s : Int) + 1) with | some r => some r | none => sr g l a j ((s : Int) + 1) := rfl
    rw [un, ul, t0, t1, t2, t3, t4]
    rw [show (s : Int) + 1 = ((s + 1 : Nat) : Int) by omega, ih]
    generalize sd (trd F l N c m a) k (5 * (s + 1)) = R
    unfold tryH
    have hc : a (s : Int) = -1 ∨ a (s : Int) = 0 ∨ a (s : Int) = 1 ∨ a (s : Int) = 2 ∨ a (s : Int) = 3 ∨ a (s : Int) = 4 := by omega
    clear t t0 t1 t2 t3 t4 un ul ih hg
    rcases hc with h | h | h | h | h | h
    · rw [h] at hls ⊢
      rw [hls.1 rfl]
      rfl
    all_goals
      have hl0 : l (s : Int) ≠ -1 := fun q => by have := hls.2 q; omega
      rw [h]
      simp [far, hl0]
      try (cases g (s : Int) 0 <;> cases g (s : Int) 1 <;> cases g (s : Int) 2 <;> cases g (s : Int) 3 <;> cases g (s : Int) 4 <;> rfl)
theorem fw {F : Int → Int → Int → Int} {l : Int → Int} {N : Nat} {c : Int} (hN : N ≤ 6) : ∀ (m : Nat) (a : Int → Int), RA a → LA l a N → Fst1 (fun r => okr F N c m r a) (digs m) 0 (30 ^ m) (fst F l N c m a)
  | 0, a, hA, hl => by
    unfold fst okr
    by_cases h : gA F N a ≤ c
    · rw [if_pos h]
      refine ⟨fun q => (by cases q), fun L q => ?_⟩
      cases q
      exact ⟨0, by decide, by decide, decide_eq_true h, fun q _ hq => by omega, rfl⟩
    · rw [if_neg h]
      exact ⟨fun _ r _ _ => decide_eq_false h, fun L q => by cases q⟩
  | m + 1, a, hA, hl => by
    have hp : 0 < 30 ^ m := Nat.pow_pos (by decide)
    have h1 : fst F l N c (m + 1) a = sd (trd F l N c m a) 30 0 := by
      have := sr_sd (c := c) (m := m) (F := F) hA hN hl N 0 (by omega)
      exact this
    rw [h1, Nat.pow_succ, Nat.mul_comm]
    have key : ∀ d, d < 30 → Fst1 (fun r => okr F N c (m + 1) r a) (digs (m + 1)) (d * 30 ^ m) ((d + 1) * 30 ^ m) (trd F l N c m a d) := by
      intro d hd
      have hdg : ∀ r, r < 30 ^ m → (d * 30 ^ m + r) / 30 ^ m % 30 = d ∧ (d * 30 ^ m + r) % 30 ^ m = r := by
        intro r hr
        rw [Nat.mul_comm, Nat.mul_add_div hp, Nat.div_eq_of_lt hr, Nat.add_zero, Nat.mod_eq_of_lt hd, Nat.mul_add_mod, Nat.mod_eq_of_lt hr]
        exact ⟨rfl, rfl⟩
      have hok : ∀ r, r < 30 ^ m → okr F N c (m + 1) (d * 30 ^ m + r) a = match mv N a d with | none => false | some a' => okr F N c m r a' := by
        intro r hr
        show (match mv N a ((d * 30 ^ m + r) / 30 ^ m % 30) with | none => false | some a' => okr F N c m ((d * 30 ^ m + r) % 30 ^ m) a') = _
        rw [(hdg r hr).1, (hdg r hr).2]
      have hdi : ∀ r, r < 30 ^ m → digs (m + 1) (d * 30 ^ m + r) = (10 * ((d / 5 : Nat) : Int) + ((d % 5 : Nat) : Int)) :: digs m r := by
        intro r hr
        show (10 * (((d * 30 ^ m + r) / 30 ^ m % 30 / 5 : Nat) : Int) + (((d * 30 ^ m + r) / 30 ^ m % 30 % 5 : Nat) : Int)) :: digs m ((d * 30 ^ m + r) % 30 ^ m) = _
        rw [(hdg r hr).1, (hdg r hr).2]
      have hsp : ∀ r, d * 30 ^ m ≤ r → r < (d + 1) * 30 ^ m → ∃ q, q < 30 ^ m ∧ r = d * 30 ^ m + q := by
        intro r h1 h2
        rw [Nat.add_mul, Nat.one_mul] at h2
        exact ⟨r - d * 30 ^ m, by omega, by omega⟩
      unfold trd
      cases hmv : mv N a d with
      | none =>
        refine ⟨fun _ r h1 h2 => ?_, fun L h => by cases h⟩
        obtain ⟨q, hq, rfl⟩ := hsp r h1 h2
        show okr F N c (m + 1) (d * 30 ^ m + q) a = false
        rw [hok q hq, hmv]
      | some a' =>
        have ha' : RA a' ∧ LA l a' N := by
          unfold mv at hmv
          by_cases hx : d / 5 < N ∧ a ((d / 5 : Nat) : Int) ≠ -1 ∧ far (a ((d / 5 : Nat) : Int)) ((d % 5 : Nat) : Int) = 1
          · rw [if_pos hx] at hmv
            cases hmv
            refine ⟨ua_r hA (by omega), fun s s0 sN => ?_⟩
            unfold ua
            by_cases hs : s = ((d / 5 : Nat) : Int)
            · rw [if_pos hs]
              have := hl s s0 sN
              rw [hs] at this ⊢
              have h2 := hx.2.1
              constructor
              · intro q; omega
              · intro q; exact absurd (this.2 q) h2
            · rw [if_neg hs]
              exact hl s s0 sN
          · rw [if_neg hx] at hmv
            cases hmv
        have ih := fw (F := F) (c := c) hN m a' ha'.1 ha'.2
        simp only []
        cases hf : fst F l N c m a' with
        | none =>
          refine ⟨fun _ r h1 h2 => ?_, fun L h => by cases h⟩
          obtain ⟨q, hq, rfl⟩ := hsp r h1 h2
          show okr F N c (m + 1) (d * 30 ^ m + q) a = false
          rw [hok q hq, hmv]
          exact ih.1 hf q (by omega) hq
        | some L0 =>
          refine ⟨fun h => (by cases h), fun L h => ?_⟩
          cases h
          obtain ⟨r, _, b, c', d', e⟩ := ih.2 L0 hf
          refine ⟨d * 30 ^ m + r, by omega, by rw [Nat.add_mul, Nat.one_mul]; omega, ?_, ?_, ?_⟩
          · show okr F N c (m + 1) (d * 30 ^ m + r) a = true
            rw [hok r b, hmv]
            exact c'
          · intro q h1 h2
            obtain ⟨q', hq, rfl⟩ := hsp q h1 (by rw [Nat.add_mul, Nat.one_mul]; omega)
            show okr F N c (m + 1) (d * 30 ^ m + q') a = false
            rw [hok q' hq, hmv]
            exact d' q' (by omega) (by omega)
          · rw [hdi r b, e]
    have := sd_F (p := 30 ^ m) key 30 0 rfl
    rw [Nat.zero_mul, Nat.mul_comm] at this
    rw [Nat.mul_comm]
    exact this
theorem digs_g : ∀ (m row k : Nat), k < m → (digs m row).getD k 0 = 10 * ((row / 30 ^ (m - 1 - k) % 30 / 5 : Nat) : Int) + ((row / 30 ^ (m - 1 - k) % 30 % 5 : Nat) : Int)
  | 0, _, k, h => by omega
  | m + 1, row, 0, _ => rfl
  | m + 1, row, k + 1, h => by
    show (digs m (row % 30 ^ m)).getD k 0 = _
    rw [digs_g m _ k (by omega), show m + 1 - 1 - (k + 1) = m - 1 - k by omega]
    obtain ⟨j, hj⟩ : ∃ j, m = m - 1 - k + (j + 1) := ⟨k, by omega⟩
    have e : row % 30 ^ m / 30 ^ (m - 1 - k) % 30 = row / 30 ^ (m - 1 - k) % 30 := by
      generalize m - 1 - k = i at hj
      subst hj
      rw [Nat.pow_add, Nat.mod_mul_right_div_self, Nat.pow_succ, Nat.mod_mul_left_mod]
    rw [e]
theorem dig_s (x i : Nat) : x % 30 ^ (i + 1) / 30 ^ i % 30 = x / 30 ^ i % 30 ∧ x % 30 ^ (i + 1) % 30 ^ i = x % 30 ^ i := by
  rw [Nat.pow_succ, Nat.mod_mul_right_div_self, Nat.mod_mul_right_mod, Nat.mod_mod]
  exact ⟨rfl, rfl⟩
theorem m_stepOf {row m k : Nat} {M : Mem} {Q : Int → Mem → Prop} (hm : m ≤ 3) (hk : k < m) (hr : row < 30 ^ m) (kk : Q ((row / 30 ^ (m - 1 - k) % 30 : Nat) : Int) M) : wp (f_X8_stepOf (row : Int) (m : Int) (k : Int) M) Q := by
  have hr3 : row < 30 ^ 3 := Nat.lt_of_lt_of_le hr (Nat.pow_le_pow_right (by decide) hm)
  unfold f_X8_stepOf
  rw [w_suc (by omega)]
  refine wloop (St := Nat) (L := fun fuel x st M' => f_X8_stepOf_8 (row : Int) (m : Int) (k : Int) fuel (row : Int) (m : Int) (st : Int) x M') (N := m) (Inv := fun i st M' => st = 30 ^ (i - 1 - k) ∧ k + 1 ≤ i ∧ M' = M) ?_ ?_ (m - (k + 1)) FU (k + 1) 1 M (by rw [FU_e]; omega) (by omega) ⟨by rw [show k + 1 - 1 - k = 0 by omega], by omega, rfl⟩
  · intro i fuel st M1 hi ⟨g1, g2, g3⟩ kk2
    show wp (f_X8_stepOf_8 (row : Int) (m : Int) (k : Int) (fuel + 1) (row : Int) (m : Int) (st : Int) (i : Int) M1) _
    rw [f_X8_stepOf_8.eq_2]
    refine wp_f (by omega) ?_
    have hst : st ≤ 30 ^ 2 := by rw [g1]; exact Nat.pow_le_pow_right (by decide) (by omega)
    rw [w_suc (by omega), w_id (by omega) (by omega)]
    have := kk2 (st * 30) M1 ⟨by rw [g1, ← Nat.pow_succ]; congr 1; omega, by omega, g3⟩
    rw [show (((st * 30 : Nat)) : Int) = (st : Int) * 30 by omega] at this
    exact this
  · intro fuel st M1 ⟨g1, g2, g3⟩
    show wp (f_X8_stepOf_8 (row : Int) (m : Int) (k : Int) (fuel + 1) (row : Int) (m : Int) (st : Int) (m : Int) M1) _
    subst g3
    have hst : 0 < st := by rw [g1]; exact Nat.pow_pos (by decide)
    rw [f_X8_stepOf_8.eq_2]
    refine wp_t (Int.le_refl _) (wp_f (by omega) ?_)
    have e1 : Int.tdiv (row : Int) (st : Int) = ((row / st : Nat) : Int) := rfl
    have hd : row / st ≤ row := Nat.div_le_self _ _
    generalize hq : row / st = q at e1 hd
    rw [wp_some, e1, w_id (by omega) (by omega)]
    have e2 : Int.tmod ((q : Nat) : Int) 30 = ((q % 30 : Nat) : Int) := rfl
    rw [e2, ← hq, g1]
    exact kk
theorem bts_31 (f : Int → Bool) : bts f 5 = 31 ↔ (f 0 = true ∧ f 1 = true ∧ f 2 = true ∧ f 3 = true ∧ f 4 = true) := by
  have h : ∀ b0 b1 b2 b3 b4 : Bool, btc b0 b1 b2 b3 b4 = 31 ↔ (b0 = true ∧ b1 = true ∧ b2 = true ∧ b3 = true ∧ b4 = true) := by decide
  rw [bts_c]
  exact h _ _ _ _ _
theorem grs_le {f : Int → Int} {c : Int} (hc : 0 ≤ c) : grs f 5 ≤ c ↔ (f 0 ≤ c ∧ f 1 ≤ c ∧ f 2 ≤ c ∧ f 3 ≤ c ∧ f 4 ≤ c) := by
  show max (max (max (max (max 0 (f ((0 : Nat) : Int))) (f ((1 : Nat) : Int))) (f ((2 : Nat) : Int))) (f ((3 : Nat) : Int))) (f ((4 : Nat) : Int)) ≤ c ↔ _
  rw [show ((0 : Nat) : Int) = 0 from rfl, show ((1 : Nat) : Int) = 1 from rfl, show ((2 : Nat) : Int) = 2 from rfl, show ((3 : Nat) : Int) = 3 from rfl, show ((4 : Nat) : Int) = 4 from rfl]
  omega
theorem m_far {a b : Int} {M : Mem} {Q : Int → Mem → Prop} (ha : -10 ≤ a ∧ a ≤ 10) (hb : -10 ≤ b ∧ b ≤ 10) (k : Q (far a b) M) : wp (f_X8_farOf a b M) Q := by
  unfold far at k
  unfold f_X8_farOf
  rw [w_id (by omega) (by omega), w_id (by omega) (by omega)]
  by_cases h : a ≤ b
  · rw [if_pos h] at k
    refine wp_t h ?_
    rw [wp_some]
    exact k
  · rw [if_neg h] at k
    refine wp_f h ?_
    rw [wp_some]
    exact k
theorem m_still1 {e : Vw} {N row m : Nat} {M : Mem} {Q : Int → Mem → Prop} (hR : Rg e) (hL : LM e M) (hN : e.1 0 0 = (N : Int)) (hm : m ≤ 3) (hr : row < 30 ^ m)
    (k : ∀ M', MF M M' → LM e M' → Q (if okr (Fh e) N (e.2.1 1) m row (e.1 4) = true then 1 else 0) M') : wp (f_X8_isStillBy (row : Int) (m : Int) M) Q := by
  have h6 := hR.1
  unfold f_X8_isStillBy
  rw [wp_bind]
  refine m_save ?_
  intro M1 a1 a2 a3 a4
  have hL1 := m_saved hL a1 a2
  generalize hT : okr (Fh e) N (e.2.1 1) m row (e.1 4) = T at k
  have fin : ∀ (v : Int) (M6 : Mem), (∀ j : Int, j ≠ 127 → j ≠ 130 → j ≠ 131 → j ≠ 142 → j ≠ 143 → M6 j = M1 j) → (∀ q : Int, q ≠ 1 → M6 127 q = M1 127 q) → v = (if T = true then 1 else 0) → wp (f_X8_isStillBy_121 (row : Int) (m : Int) v M6) Q := by
    intro v M6 b1 b2 hv
    unfold f_X8_isStillBy_121
    rw [wp_bind]
    refine m_putB ?_
    intro M7 z1 z2 z3 z4
    refine wp_and (by rw [hv]; split <;> omega) ?_
    rw [wp_some]
    have hb := m_back (M2 := M6) hL a1 a2 a3 a4 b1 b2 z1 z2 z3 z4
    rw [hv]
    exact k M7 hb.1 hb.2
  simp only []
  refine wloop0 (St := Int) (L := fun fuel x st M' => f_X8_isStillBy_9 (row : Int) (m : Int) fuel (row : Int) (m : Int) st x M') m (Inv := fun i st M' => (∀ j : Int, j ≠ 127 → j ≠ 130 → j ≠ 131 → j ≠ 142 → j ≠ 143 → M' j = M1 j) ∧ (∀ q : Int, q ≠ 1 → M' 127 q = M1 127 q) ∧ ((st = 0 ∧ T = false) ∨ (st = 1 ∧ ∃ a, RA a ∧ LM (upA e a) M' ∧ okr (Fh e) N (e.2.1 1) (m - i) (row % 30 ^ (m - i)) a = T))) (by omega) ?_ ?_ (st := 1) ⟨fun _ _ _ _ _ _ => rfl, fun _ _ => rfl, Or.inr ⟨rfl, e.1 4, Rg_RA hR, by rw [upA_self]; exact hL1, by rw [Nat.sub_zero, Nat.mod_eq_of_lt hr]; exact hT⟩⟩
  · intro i fuel st M2 hi ⟨g1, g2, g3⟩ kk
    show wp (f_X8_isStillBy_9 (row : Int) (m : Int) (fuel + 1) (row : Int) (m : Int) st (i : Int) M2) _
    rw [f_X8_isStillBy_9.eq_2]
    refine wp_f (by omega) ?_
    rcases g3 with ⟨rfl, g3⟩ | ⟨rfl, a, hA, g3, g4⟩
    · refine wp_t rfl ?_
      unfold f_X8_isStillBy_103
      refine wp_t rfl ?_
      unfold f_X8_isStillBy_120
      exact fin 0 M2 g1 g2 (by rw [g3]; rfl)
    · refine wp_f one_ne ?_
      have hRA := upA_r hR hA
      obtain ⟨j, hj⟩ : ∃ j, m - i = j + 1 := ⟨m - i - 1, by omega⟩
      have hj2 : m - 1 - i = j := by omega
      have hj3 : m - (i + 1) = j := by omega
      rw [wp_bind]
      refine m_stepOf hm hi hr ?_
      rw [wp_bind]
      refine m_stepOf hm hi hr ?_
      rw [hj2]
      rw [hj] at g4
      unfold okr at g4
      rw [(dig_s row j).1, (dig_s row j).2] at g4
      generalize hd : row / 30 ^ j % 30 = d at g4
      have hd30 : d < 30 := by rw [← hd]; exact Nat.mod_lt _ (by decide)
      have e1 : w32 (Int.tdiv ((d : Nat) : Int) 5) = ((d / 5 : Nat) : Int) := by
        rw [show Int.tdiv ((d : Nat) : Int) 5 = ((d / 5 : Nat) : Int) from rfl, w_id (by omega) (by omega)]
      have e2 : Int.tmod ((d : Nat) : Int) 5 = ((d % 5 : Nat) : Int) := rfl
      simp only []
      rw [e1, e2, wp_bind]
      have bad : T = false → wp (f_X8_isStillBy_82 (row : Int) (m : Int) (f_X8_isStillBy_9 (row : Int) (m : Int) fuel) (row : Int) (m : Int) (i : Int) ((d / 5 : Nat) : Int) ((d % 5 : Nat) : Int) M2) Q := by
        intro hf
        unfold f_X8_isStillBy_82 f_X8_isStillBy_83 f_X8_isStillBy_97
        refine wp_t rfl ?_
        rw [w_suc (by omega)]
        exact kk 0 M2 ⟨g1, g2, Or.inl ⟨rfl, hf⟩⟩
      refine m_isS hRA g3 ?_
      have en : (upA e a).1 0 0 = (N : Int) := hN
      rw [en]
      by_cases hs : d / 5 < N
      · rw [if_pos (show 0 ≤ ((d / 5 : Nat) : Int) ∧ ((d / 5 : Nat) : Int) < (N : Int) by omega)]
        refine wp_f one_ne ?_
        rw [wp_bind]
        refine m_isLost hRA g3 (by omega) ?_
        rw [upA_4]
        have has := hA ((d / 5 : Nat) : Int)
        by_cases hl : a ((d / 5 : Nat) : Int) = -1
        · rw [if_pos hl]
          refine wp_f one_ne (bad ?_)
          unfold mv at g4
          rw [if_neg (fun c => c.2.1 hl)] at g4
          exact g4.symm
        · rw [if_neg hl]
          refine wp_t rfl (wp_and (by omega) ?_)
          have h131 : M2 131 ((d / 5 : Nat) : Int) = a ((d / 5 : Nat) : Int) := by
            have := (g3.2.2.1 ((d / 5 : Nat) : Int) (by omega) (by omega)).2.2.2
            rw [this, upA_4, hm_of hl]
          simp only []
          rw [h131, wp_bind]
          refine m_far (by omega) (by omega) ?_
          by_cases hf : far (a ((d / 5 : Nat) : Int)) ((d % 5 : Nat) : Int) = 1
          · refine wp_t hf ?_
            unfold mv at g4
            rw [if_pos ⟨hs, hl, hf⟩] at g4
            unfold f_X8_isStillBy_83
            refine wp_f one_ne (wp_and (by omega) ?_)
            simp only [lt]
            unfold f_X8_isStillBy_97
            rw [w_suc (by omega)]
            refine kk 1 _ ⟨fun q c1 c2 c3 c4 c5 => (st_nc c3).trans (g1 q c1 c2 c3 c4 c5), fun q hq => (congrFun (st_nc (by decide)) q).trans (g2 q hq), Or.inr ⟨rfl, _, ua_r hA (by omega), LM_st (z := ((d % 5 : Nat) : Int)) g3 (hm_of (by omega)).symm, ?_⟩⟩
            rw [hj3]
            exact g4
          · refine wp_f hf (bad ?_)
            unfold mv at g4
            rw [if_neg (fun c => hf c.2.2)] at g4
            exact g4.symm
      · rw [if_neg (show ¬ (0 ≤ ((d / 5 : Nat) : Int) ∧ ((d / 5 : Nat) : Int) < (N : Int)) by omega)]
        refine wp_t rfl (bad ?_)
        unfold mv at g4
        rw [if_neg (fun c => hs c.1)] at g4
        exact g4.symm
  · intro fuel st M2 ⟨g1, g2, g3⟩
    show wp (f_X8_isStillBy_9 (row : Int) (m : Int) (fuel + 1) (row : Int) (m : Int) st (m : Int) M2) _
    rw [f_X8_isStillBy_9.eq_2]
    refine wp_t (Int.le_refl _) ?_
    unfold f_X8_isStillBy_103
    rcases g3 with ⟨rfl, g3⟩ | ⟨rfl, a, hA, g3, g4⟩
    · refine wp_t rfl ?_
      unfold f_X8_isStillBy_120
      exact fin 0 M2 g1 g2 (by rw [g3]; rfl)
    · refine wp_f one_ne ?_
      have hRA := upA_r hR hA
      rw [wp_bind]
      refine m_still hRA g3 ?_
      intro M3 u1
      have f1 : ∀ j : Int, j ≠ 127 → j ≠ 130 → j ≠ 131 → j ≠ 142 → j ≠ 143 → M3 j = M1 j := fun j c1 c2 c3 c4 c5 => (u1 j c4 c5).trans (g1 j c1 c2 c3 c4 c5)
      have f2 : ∀ q : Int, q ≠ 1 → M3 127 q = M1 127 q := fun q hq => (congrFun (u1 127 (by decide) (by decide)) q).trans (g2 q hq)
      rw [Nat.sub_self] at g4
      unfold okr at g4
      have hcalm := (hR.2.2.2.1 1).1
      have key : bts (fun t => decide (NZ (upA e a) t ≤ (upA e a).2.1 1)) 5 = 31 ↔ gA (Fh e) N a ≤ e.2.1 1 := by
        rw [bts_31, ← upA_g hN, grs_le hcalm]
        simp only [decide_eq_true_eq]
        rfl
      by_cases hq : gA (Fh e) N a ≤ e.2.1 1
      · refine wp_t (key.2 hq) ?_
        rw [decide_eq_true hq] at g4
        exact fin 1 M3 f1 f2 (by rw [← g4]; rfl)
      · refine wp_f (fun h => hq (key.1 h)) ?_
        rw [decide_eq_false hq] at g4
        unfold f_X8_isStillBy_120
        exact fin 0 M3 f1 f2 (by rw [← g4]; rfl)
theorem few_s {F : Int → Int → Int → Int} {l : Int → Int} {N : Nat} {c : Int} {a : Int → Int} (m k : Nat) : few F l N c a (m + 1) k = match fst F l N c k a with
    | some r => some (k, r)
    | none => few F l N c a m (k + 1) := rfl
theorem m_few {e : Vw} {N : Nat} {y k : Int} {M : Mem} {Q : Int → Mem → Prop} (hR : Rg e) (hL : LM e M) (hN : e.1 0 0 = (N : Int)) (hk : -1 ≤ k ∧ k ≤ 2)
    (kk : ∀ M', MF M M' → LM e M' → Q (fewA (few (Fh e) (e.1 4) N (e.2.1 1) (e.1 4) 4 0) k) M') : wp (f_X8_fewest_16 y FU k 1 0 M) Q := by
  have h6 := hR.1
  have hA := Rg_RA hR
  generalize hT : few (Fh e) (e.1 4) N (e.2.1 1) (e.1 4) 4 0 = T at kk
  have := wloop0 (St := Unit) (L := fun fuel x st M' => f_X8_fewest_16 y fuel k ((30 ^ x.toNat : Nat) : Int) x M') 4 (Inv := fun i st M' => MF M M' ∧ LM e M' ∧ few (Fh e) (e.1 4) N (e.2.1 1) (e.1 4) (4 - i) i = T) (Q := Q) (by omega) (by
    intro i fuel st M1 hi ⟨g1, g2, g3⟩ kk2
    show wp (f_X8_fewest_16 y (fuel + 1) k ((30 ^ ((i : Int)).toNat : Nat) : Int) (i : Int) M1) _
    rw [Int.toNat_natCast, f_X8_fewest_16.eq_2]
    refine wp_f (by omega) ?_
    rw [show 4 - i = (4 - (i + 1)) + 1 by omega, few_s] at g3
    have hfw := fw (F := Fh e) (l := e.1 4) (N := N) (c := e.2.1 1) (by omega) i (e.1 4) hA (fun _ _ _ => Iff.rfl)
    have hp3 : 30 ^ i ≤ 30 ^ 3 := Nat.pow_le_pow_right (by decide) (by omega)
    generalize hf : fst (Fh e) (e.1 4) N (e.2.1 1) i (e.1 4) = o at g3 hfw
    refine wloop0 (St := Unit) (L := fun fuel2 x st M' => f_X8_fewest_24 y (f_X8_fewest_16 y fuel) fuel2 k ((30 ^ i : Nat) : Int) (i : Int) x M') (30 ^ i) (Inv := fun r st M' => MF M M' ∧ LM e M' ∧ ∀ q, q < r → okr (Fh e) N (e.2.1 1) i q (e.1 4) = false) (by omega) ?_ ?_ (st := ()) ⟨g1, g2, fun q h => by omega⟩
    · intro r fuel2 st2 M2 hr ⟨v1, v2, v3⟩ kk3
      show wp (f_X8_fewest_24 y (f_X8_fewest_16 y fuel) (fuel2 + 1) k ((30 ^ i : Nat) : Int) (i : Int) (r : Int) M2) _
      rw [f_X8_fewest_24.eq_2]
      refine wp_f (by omega) ?_
      rw [wp_bind]
      refine m_still1 hR v2 hN (by omega) hr ?_
      intro M3 u1 u2
      have w1 := MF_tr v1 u1
      by_cases hok : okr (Fh e) N (e.2.1 1) i r (e.1 4) = true
      · rw [if_pos hok]
        refine wp_f one_ne ?_
        have key := kk M3 w1 u2
        cases o with
        | none =>
          have := hfw.1 rfl r (by omega) hr
          simp only [] at this
          rw [this] at hok
          cases hok
        | some L =>
          obtain ⟨r', _, b, c', d', e'⟩ := hfw.2 L rfl
          have hrr : r' = r := by
            rcases Nat.lt_trichotomy r' r with h | h | h
            · have := v3 r' h
              simp only [] at c'
              rw [this] at c'
              cases c'
            · exact h
            · have := d' r (by omega) h
              simp only [] at this
              rw [this] at hok
              cases hok
          subst hrr
          simp only [] at g3
          rw [← g3] at key
          unfold fewA at key
          simp only [] at key
          by_cases hk0 : 0 ≤ k
          · rw [if_neg (show ¬ k < 0 by omega)] at key
            refine wp_t hk0 ?_
            by_cases hki : k < (i : Int)
            · rw [if_pos hki] at key
              refine wp_f (by omega) ?_
              obtain ⟨q, rfl⟩ : ∃ q : Nat, k = (q : Int) := ⟨k.toNat, by omega⟩
              rw [Int.toNat_natCast, e', digs_g i r' q (by omega)] at key
              rw [wp_bind]
              refine m_stepOf (by omega) (by omega) hr ?_
              rw [wp_bind]
              refine m_stepOf (by omega) (by omega) hr ?_
              rw [wp_some]
              generalize hd : r' / 30 ^ (i - 1 - q) % 30 = d at key ⊢
              have hd30 : d < 30 := by rw [← hd]; exact Nat.mod_lt _ (by decide)
              have e1 : w32 (Int.tdiv ((d : Nat) : Int) 5) = ((d / 5 : Nat) : Int) := by
                rw [show Int.tdiv ((d : Nat) : Int) 5 = ((d / 5 : Nat) : Int) from rfl, w_id (by omega) (by omega)]
              have e2 : Int.tmod ((d : Nat) : Int) 5 = ((d % 5 : Nat) : Int) := rfl
              simp only []
              rw [e1, e2, w_id (z := 10 * ((d / 5 : Nat) : Int)) (by omega) (by omega), w_id (by omega) (by omega)]
              exact key
            · rw [if_neg hki] at key
              refine wp_t (by omega) ?_
              rw [wp_some]
              exact key
          · rw [if_pos (show k < 0 by omega)] at key
            refine wp_f hk0 ?_
            rw [wp_some]
            exact key
      · rw [if_neg hok]
        refine wp_t rfl ?_
        rw [w_suc (by omega)]
        refine kk3 () M3 ⟨w1, u2, fun q hq => ?_⟩
        by_cases h : q = r
        · rw [h]; exact Bool.eq_false_iff.2 hok
        · exact v3 q (by omega)
    · intro fuel2 st2 M2 ⟨v1, v2, v3⟩
      show wp (f_X8_fewest_24 y (f_X8_fewest_16 y fuel) (fuel2 + 1) k ((30 ^ i : Nat) : Int) (i : Int) ((30 ^ i : Nat) : Int) M2) _
      rw [f_X8_fewest_24.eq_2]
      refine wp_t (Int.le_refl _) ?_
      have ho : o = none := by
        cases o with
        | none => rfl
        | some L =>
          obtain ⟨r', _, b, c', _⟩ := hfw.2 L rfl
          have := v3 r' b
          simp only [] at c'
          rw [this] at c'
          cases c'
      rw [ho] at g3
      have := kk2 () M2 ⟨v1, v2, g3⟩
      simp only [Int.toNat_natCast] at this
      have hw : w32 (((30 ^ i : Nat) : Int) * 30) = ((30 ^ (i + 1) : Nat) : Int) := by
        rw [Nat.pow_succ]
        generalize 30 ^ i = P at hp3 ⊢
        rw [w_id (by omega) (by omega)]
        omega
      rw [w_suc (by omega), hw]
      exact this) (by
    intro fuel st M1 ⟨g1, g2, g3⟩
    show wp (f_X8_fewest_16 y (fuel + 1) k ((30 ^ ((4 : Nat) : Int).toNat : Nat) : Int) ((4 : Nat) : Int) M1) _
    rw [f_X8_fewest_16.eq_2]
    refine wp_t (by omega) ?_
    rw [wp_some]
    have key := kk M1 g1 g2
    rw [← g3] at key
    exact key) (st := ()) (M := M) ⟨MF_rfl M, hL, hT⟩
  exact this
theorem q_fewest {k : Int} {e : Vw} {M : Mem} (hR : Rg e) (hC : LC 22 e M) (hM : LM e M) : QQ (f_X7_fewest k) (f_X8_fewest k) e M := by
  have h6 := hR.1
  obtain ⟨N, hN⟩ : ∃ N : Nat, e.1 0 0 = (N : Int) := ⟨(e.1 0 0).toNat, by omega⟩
  have out : ¬ (-1 ≤ k ∧ k ≤ 2) → ∀ M1, CF M M1 → wp (f_X8_fewest k M1) (fun v' M2 => (-1 : Int) = v' ∧ CF M M1 ∧ MF M1 M2 ∧ LM e M2) := by
    intro h M1 h1
    unfold f_X8_fewest
    rw [wp_bind]
    refine m_in_f h ?_
    refine wp_t rfl ?_
    rw [wp_some]
    exact ⟨rfl, h1, MF_rfl _, CF_LM hM h1⟩
  unfold QQ f_X7_fewest
  by_cases h1 : k < -1
  · refine wp_t h1 ?_
    rw [wp_some]
    exact out (by omega) M (CF_rfl M)
  refine wp_f h1 ?_
  by_cases h3 : k < 3
  · refine wp_t h3 ?_
    rw [wp_bind]
    refine c_take hR hC ?_
    intro M1 g1 g2
    rw [hN, Int.toNat_natCast] at g1
    rw [wp_bind]
    refine c_few (Fh_RF hR) (by omega) (Rg_RA hR) g1 ?_
    intro M2 v u1 u2 u3
    have hCF : CF M M2 := fun j a b c d => (u1 j (by omega) (by omega) (by omega)).trans (g2 j (by omega) (by omega) (by omega) (by omega) (by omega) (by omega))
    have fin : ∀ z, z = fewA (few (Fh e) (e.1 4) N (e.2.1 1) (e.1 4) 4 0) k → wp (f_X8_fewest k M2) (fun v' M3 => z = v' ∧ CF M M2 ∧ MF M2 M3 ∧ LM e M3) := by
      intro z hz
      unfold f_X8_fewest
      rw [wp_bind]
      refine m_in_t (by omega) ?_
      refine wp_f one_ne ?_
      refine m_few hR (CF_LM hM hCF) hN (by omega) ?_
      intro M3 w1 w2
      exact ⟨hz, hCF, w1, w2⟩
    unfold fewA at fin
    cases hT : few (Fh e) (e.1 4) N (e.2.1 1) (e.1 4) 4 0 with
    | none =>
      rw [hT] at fin
      have hv := u2 hT
      subst hv
      by_cases hk : k = -1
      · refine wp_t hk ?_
        rw [wp_some]
        exact fin _ rfl
      · refine wp_f hk (wp_t (by simp only []; omega) ?_)
        rw [wp_some]
        exact fin _ rfl
    | some mr =>
      obtain ⟨m, r⟩ := mr
      rw [hT] at fin
      simp only [] at fin
      obtain ⟨hv, hm, hs⟩ := u3 m r hT
      subst hv
      by_cases hk : k = -1
      · refine wp_t hk ?_
        rw [wp_some]
        rw [if_pos (show k < 0 by omega)] at fin
        exact fin _ rfl
      · refine wp_f hk ?_
        rw [if_neg (show ¬ k < 0 by omega)] at fin
        by_cases hkm : k < (m : Int)
        · rw [if_pos hkm] at fin
          refine wp_f (by simp only []; omega) (wp_and (by omega) ?_)
          rw [wp_some]
          obtain ⟨q, rfl⟩ : ∃ q : Nat, k = (q : Int) := ⟨k.toNat, by omega⟩
          rw [Int.toNat_natCast] at fin
          exact fin _ (hs q (by omega))
        · rw [if_neg hkm] at fin
          refine wp_t (by simp only []; omega) ?_
          rw [wp_some]
          exact fin _ rfl
  · refine wp_f h3 ?_
    rw [wp_some]
    exact out (by omega) M (CF_rfl M)
