/-! what the printed functions answer: total reading -/
def wp (r : Option (Int × Mem)) (Q : Int → Mem → Prop) : Prop := ∃ v M', r = some (v, M') ∧ Q v M'
theorem wp_some {v : Int} {M : Mem} {Q : Int → Mem → Prop} : wp (some (v, M)) Q ↔ Q v M := ⟨fun ⟨_, _, h, hq⟩ => by cases h; exact hq, fun h => ⟨_, _, rfl, h⟩⟩
theorem wp_none {Q : Int → Mem → Prop} : wp none Q ↔ False := ⟨fun ⟨_, _, h, _⟩ => by cases h, fun h => h.elim⟩
theorem wp_ite {c : Prop} [Decidable c] {a b : Option (Int × Mem)} {Q : Int → Mem → Prop} : wp (if c then a else b) Q ↔ (c → wp a Q) ∧ (¬ c → wp b Q) := by
  by_cases h : c
  · simp [h]
  · simp [h]
theorem wp_bind {r : Option (Int × Mem)} {f : Int × Mem → Option (Int × Mem)} {Q : Int → Mem → Prop} : wp (r.bind f) Q ↔ wp r (fun v M => wp (f (v, M)) Q) := by
  constructor
  · rintro ⟨v, M, h, hq⟩
    obtain ⟨⟨v1, M1⟩, h1, h2⟩ := of_bd h
    exact ⟨v1, M1, h1, v, M, h2, hq⟩
  · rintro ⟨v1, M1, h1, v, M, h2, hq⟩
    exact ⟨v, M, by rw [h1]; exact h2, hq⟩
theorem wp_lt {α : Type} {a : α} {f : α → Option (Int × Mem)} {Q : Int → Mem → Prop} : wp (lt a f) Q ↔ wp (f a) Q := Iff.rfl
theorem wp_mono {r : Option (Int × Mem)} {Q Q' : Int → Mem → Prop} (h : wp r Q) (hq : ∀ v M, Q v M → Q' v M) : wp r Q' := by
  obtain ⟨v, M, h1, h2⟩ := h
  exact ⟨v, M, h1, hq _ _ h2⟩
theorem st_ap {M : Mem} {i k v j q : Int} : stM M i k v j q = if j = i ∧ q = k then v else M j q := by
  unfold stM
  by_cases h : j = i
  · subst h; simp
  · simp [h]
theorem w_id {z : Int} (h1 : -2147483648 ≤ z) (h2 : z ≤ 2147483647) : w32 z = z := w32_ok h1 h2
theorem t_has (o p1 : Int) (M : Mem) (Q : Int → Mem → Prop) (h : Q (if 0 ≤ p1 ∧ p1 < M o 0 then 1 else 0) M) : wp (f_X1_has o p1 M) Q := by
  unfold f_X1_has
  simp only [wp_ite, wp_some]
  grind
theorem t_come (o p1 p2 p3 p4 : Int) (M : Mem) (h0 : 0 ≤ M o 0) (h6 : M o 0 < 6) : wp (f_X1_come o p1 p2 p3 p4 M) (fun v M' => v = M o 0 ∧ M' o 0 = M o 0 + 1 ∧ M' (o + 1) (M o 0) = p1 ∧ (∀ q, q ≠ M o 0 → M' (o + 1) q = M (o + 1) q)) := by
  unfold f_X1_come
  simp only [wp_ite, wp_some, wp_lt, wp_none, st_ap]
  grind [w_id]
theorem t_noise (o p1 : Int) (F : Int → Int) (M : Mem) (x1 : Int) (h6 : M o 0 ≤ 6) (hF : ∀ s M', 0 ≤ s → s < 6 → (∀ j, j ≠ o + 18 → M' j = M j) → wp (f_X1_heardIn o s x1 M') (fun v M2 => v = F s ∧ ∀ j, j ≠ o + 18 → M2 j = M j)) (hr : ∀ s, 0 ≤ F s ∧ F s ≤ 10000) : ∀ (m n : Nat) (x2 x3 : Int) (M' : Mem), m < n → x3 + m = M o 0 → 0 ≤ x3 → 0 ≤ x2 → x2 ≤ 10000 * x3 → (∀ j, j ≠ o + 18 → M' j = M j) →
    wp (f_X1_noiseOf_4 o p1 n x1 x2 x3 M') (fun v M2 => x2 ≤ v ∧ ∀ j, j ≠ o + 18 → M2 j = M j) := by
  intro m
  induction m with
  | zero =>
    intro n x2 x3 M' hn h3 h0 h2 h2' hM
    obtain ⟨n, rfl⟩ : ∃ k, n = k + 1 := ⟨n - 1, by omega⟩
    rw [f_X1_noiseOf_4.eq_2]
    simp only [wp_ite, wp_some]
    grind
  | succ m ih =>
    intro n x2 x3 M' hn h3 h0 h2 h2' hM
    obtain ⟨n, rfl⟩ : ∃ k, n = k + 1 := ⟨n - 1, by omega⟩
    rw [f_X1_noiseOf_4.eq_2]
    simp only [wp_ite, wp_some, wp_bind]
    refine ⟨by grind, fun hc => wp_mono (hF x3 M' h0 (by omega) hM) ?_⟩
    rintro v M2 ⟨rfl, hM2⟩
    have := hr x3
    rw [w_id (z := x2 + F x3) (by omega) (by omega), w_id (z := x3 + 1) (by omega) (by omega)]
    exact wp_mono (ih n _ _ M2 (by omega) (by omega) (by omega) (by omega) (by omega) hM2) (by grind)
