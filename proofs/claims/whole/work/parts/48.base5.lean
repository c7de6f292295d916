/-! the model: sharing out; ways as numbers in base 5 -/
def fo (f : Nat → Bst → Bst) : Nat → Nat → Bst → Bst
  | 0, _, b => b
  | m + 1, i, b => fo f m (i + 1) (f i b)
theorem fo_app {f : Nat → Bst → Bst} : ∀ (m n i : Nat) (b : Bst), fo f (m + n) i b = fo f n (i + m) (fo f m i b)
  | 0, n, i, b => by rw [Nat.zero_add]; rfl
  | m + 1, n, i, b => by
    rw [show m + 1 + n = (m + n) + 1 by omega]
    show fo f (m + n) (i + 1) (f i b) = fo f n (i + (m + 1)) (fo f m (i + 1) (f i b))
    rw [fo_app m n, show i + 1 + m = i + (m + 1) by omega]
theorem fo_cg {f g : Nat → Bst → Bst} : ∀ (m i j : Nat) (b : Bst), (∀ q b, q < m → f (i + q) b = g (j + q) b) → fo f m i b = fo g m j b
  | 0, _, _, _, _ => rfl
  | m + 1, i, j, b, h => by
    show fo f m (i + 1) (f i b) = fo g m (j + 1) (g j b)
    have h0 := h 0 b (by omega)
    rw [Nat.add_zero, Nat.add_zero] at h0
    rw [h0]
    exact fo_cg m (i + 1) (j + 1) _ (fun q b hq => by
      have := h (q + 1) b (by omega)
      rw [show i + 1 + q = i + (q + 1) by omega, show j + 1 + q = j + (q + 1) by omega]
      exact this)
theorem fo_last {f : Nat → Bst → Bst} (r : Nat) (b : Bst) : fo f (r + 1) 0 b = f r (fo f r 0 b) := by
  rw [fo_app r 1 0 b, Nat.zero_add]
  rfl
def Wn (l : Int → Int) : Nat → Nat → Nat
  | 0, _ => 1
  | k + 1, s => (if l (s : Int) = -1 then 1 else 5) * Wn l k (s + 1)
theorem Wn_r (l : Int → Int) : ∀ k s : Nat, 1 ≤ Wn l k s ∧ Wn l k s ≤ 5 ^ k
  | 0, _ => ⟨Nat.le_refl _, Nat.le_refl _⟩
  | k + 1, s => by
    have := Wn_r l k (s + 1)
    unfold Wn
    rw [Nat.pow_succ]
    split <;> omega
theorem Wn_d {l : Int → Int} : ∀ (k s q : Nat), s ≤ q → q < s + k → l (q : Int) ≠ -1 → ∃ c, Wn l k s = Wn l (s + k - (q + 1)) (q + 1) * (5 * c)
  | 0, s, q, h1, h2, _ => by omega
  | k + 1, s, q, h1, h2, h3 => by
    by_cases hq : s = q
    · subst hq
      refine ⟨1, ?_⟩
      show (if l (s : Int) = -1 then 1 else 5) * Wn l k (s + 1) = Wn l (s + (k + 1) - (s + 1)) (s + 1) * (5 * 1)
      rw [if_neg h3, show s + (k + 1) - (s + 1) = k by omega, Nat.mul_one, Nat.mul_comm]
    · obtain ⟨c, hc⟩ := Wn_d (l := l) k (s + 1) q (by omega) (by omega) h3
      refine ⟨(if l (s : Int) = -1 then 1 else 5) * c, ?_⟩
      show (if l (s : Int) = -1 then 1 else 5) * Wn l k (s + 1) = _
      rw [hc, show s + 1 + k - (q + 1) = s + (k + 1) - (q + 1) by omega]
      generalize (if l (s : Int) = -1 then 1 else 5) = x
      generalize Wn l (s + (k + 1) - (q + 1)) (q + 1) = w
      rw [Nat.mul_left_comm, Nat.mul_left_comm 5 x c]
def asg (l : Int → Int) : Nat → Nat → (Int → Int) → Nat → (Int → Int)
  | 0, _, a, _ => a
  | k + 1, s, a, r => if l (s : Int) = -1 then asg l k (s + 1) (ua a (s : Int) (-1)) r else asg l k (s + 1) (ua a (s : Int) ((r / Wn l k (s + 1) : Nat) : Int)) (r % Wn l k (s + 1))
theorem shr_fo {F : Int → Int → Int → Int} {N : Nat} {l : Int → Int} : ∀ (k s : Nat) (a : Int → Int) (b : Bst), shr F N l k (s : Int) a b = fo (fun r => leaf F N (asg l k s a r)) (Wn l k s) 0 b
  | 0, s, a, b => rfl
  | k + 1, s, a, b => by
    show (if l (s : Int) = -1 then shr F N l k ((s : Int) + 1) (ua a (s : Int) (-1)) b else each (fun h b => shr F N l k ((s : Int) + 1) (ua a (s : Int) h) b) 5 0 b) = _
    rw [show (s : Int) + 1 = ((s + 1 : Nat) : Int) by omega]
    by_cases hl : l (s : Int) = -1
    · rw [if_pos hl, shr_fo k (s + 1)]
      have hW : Wn l (k + 1) s = Wn l k (s + 1) := by
        show (if l (s : Int) = -1 then 1 else 5) * Wn l k (s + 1) = _
        rw [if_pos hl, Nat.one_mul]
      rw [hW]
      refine fo_cg _ _ _ _ (fun q b _ => ?_)
      show leaf F N (asg l k (s + 1) (ua a (s : Int) (-1)) (0 + q)) b = leaf F N (if l (s : Int) = -1 then _ else _) b
      rw [if_pos hl]
    · rw [if_neg hl]
      have hw := Wn_r l k (s + 1)
      generalize hw' : Wn l k (s + 1) = w at hw
      have hW : Wn l (k + 1) s = w + (w + (w + (w + w))) := by
        show (if l (s : Int) = -1 then 1 else 5) * Wn l k (s + 1) = _
        rw [if_neg hl, hw']
        omega
      have blk : ∀ (h : Nat) (b : Bst), h < 5 → fo (fun r => leaf F N (asg l (k + 1) s a r)) w (h * w) b = shr F N l k ((s + 1 : Nat) : Int) (ua a (s : Int) (h : Int)) b := by
        intro h b hh
        rw [shr_fo k (s + 1), hw']
        refine fo_cg _ _ _ _ (fun q b hq => ?_)
        show leaf F N (if l (s : Int) = -1 then _ else asg l k (s + 1) (ua a (s : Int) (((h * w + q) / Wn l k (s + 1) : Nat) : Int)) ((h * w + q) % Wn l k (s + 1))) b = leaf F N (asg l k (s + 1) (ua a (s : Int) (h : Int)) (0 + q)) b
        rw [if_neg hl, hw', Nat.mul_comm h w, Nat.mul_add_div (by omega), Nat.div_eq_of_lt hq, Nat.mul_add_mod, Nat.mod_eq_of_lt hq, Nat.zero_add]
        rfl
      rw [hW, fo_app, fo_app, fo_app, fo_app]
      have b0 := fun b => blk 0 b (by omega)
      have b1 := fun b => blk 1 b (by omega)
      have b2 := fun b => blk 2 b (by omega)
      have b3 := fun b => blk 3 b (by omega)
      have b4 := fun b => blk 4 b (by omega)
      rw [show 0 * w = 0 by omega] at b0
      rw [show 1 * w = 0 + w by omega] at b1
      rw [show 2 * w = 0 + w + w by omega] at b2
      rw [show 3 * w = 0 + w + w + w by omega] at b3
      rw [show 4 * w = 0 + w + w + w + w by omega] at b4
      rw [b0, b1, b2, b3, b4]
      rfl
def Ax (l : Int → Int) (N r : Nat) : Int → Int := fun q => if 0 ≤ q ∧ q < N ∧ l q ≠ -1 then ((r / Wn l (N - (q.toNat + 1)) (q.toNat + 1) % 5 : Nat) : Int) else l q
theorem asg_e {l : Int → Int} {N : Nat} : ∀ (k s : Nat) (a : Int → Int) (r : Nat), s + k = N → r < Wn l k s → asg l k s a r = fun q => if (s : Int) ≤ q ∧ q < N then (if l q = -1 then -1 else ((r / Wn l (N - (q.toNat + 1)) (q.toNat + 1) % 5 : Nat) : Int)) else a q
  | 0, s, a, r, h1, h2 => by
    funext q
    rw [if_neg (by omega)]
    rfl
  | k + 1, s, a, r, h1, h2 => by
    funext q
    have hw := Wn_r l k (s + 1)
    by_cases hl : l (s : Int) = -1
    · have e1 : asg l (k + 1) s a r = asg l k (s + 1) (ua a (s : Int) (-1)) r := if_pos hl
      have e2 : Wn l (k + 1) s = Wn l k (s + 1) := by
        show (if l (s : Int) = -1 then 1 else 5) * Wn l k (s + 1) = _
        rw [if_pos hl, Nat.one_mul]
      rw [e2] at h2
      rw [e1, asg_e (N := N) k (s + 1) _ r (by omega) h2]
      simp only []
      by_cases hq : q = (s : Int)
      · subst hq
        rw [if_neg (show ¬ (((s + 1 : Nat) : Int) ≤ (s : Int) ∧ (s : Int) < (N : Int)) by omega), if_pos (show (s : Int) ≤ (s : Int) ∧ (s : Int) < (N : Int) by omega), if_pos hl]
        show (if (s : Int) = (s : Int) then (-1 : Int) else a (s : Int)) = -1
        rw [if_pos rfl]
      · by_cases hq2 : (s : Int) ≤ q ∧ q < N
        · rw [if_pos hq2, if_pos (show ((s + 1 : Nat) : Int) ≤ q ∧ q < (N : Int) by omega)]
        · rw [if_neg hq2, if_neg (show ¬ (((s + 1 : Nat) : Int) ≤ q ∧ q < (N : Int)) by omega)]
          show (if q = (s : Int) then (-1 : Int) else a q) = a q
          rw [if_neg hq]
    · have e1 : asg l (k + 1) s a r = asg l k (s + 1) (ua a (s : Int) ((r / Wn l k (s + 1) : Nat) : Int)) (r % Wn l k (s + 1)) := if_neg hl
      have e2 : Wn l (k + 1) s = 5 * Wn l k (s + 1) := by
        show (if l (s : Int) = -1 then 1 else 5) * Wn l k (s + 1) = _
        rw [if_neg hl]
      rw [e2] at h2
      have hd : r / Wn l k (s + 1) < 5 := by
        rw [Nat.div_lt_iff_lt_mul (by omega)]
        exact h2
      rw [e1, asg_e (N := N) k (s + 1) _ _ (by omega) (Nat.mod_lt _ (by omega))]
      simp only []
      by_cases hq : q = (s : Int)
      · subst hq
        rw [if_neg (show ¬ (((s + 1 : Nat) : Int) ≤ (s : Int) ∧ (s : Int) < (N : Int)) by omega), if_pos (show (s : Int) ≤ (s : Int) ∧ (s : Int) < (N : Int) by omega), if_neg hl]
        show (if (s : Int) = (s : Int) then ((r / Wn l k (s + 1) : Nat) : Int) else a (s : Int)) = _
        rw [if_pos rfl, Int.toNat_natCast, show N - (s + 1) = k by omega, Nat.mod_eq_of_lt hd]
      · by_cases hq2 : (s : Int) ≤ q ∧ q < N
        · rw [if_pos hq2, if_pos (show ((s + 1 : Nat) : Int) ≤ q ∧ q < (N : Int) by omega)]
          by_cases hlq : l q = -1
          · rw [if_pos hlq, if_pos hlq]
          · rw [if_neg hlq, if_neg hlq]
            obtain ⟨p, rfl⟩ : ∃ p : Nat, q = (p : Int) := ⟨q.toNat, by omega⟩
            rw [Int.toNat_natCast]
            obtain ⟨c, hc⟩ := Wn_d (l := l) k (s + 1) p (by omega) (by omega) hlq
            rw [show s + 1 + k - (p + 1) = N - (p + 1) by omega] at hc
            rw [hc, Nat.mod_mul_right_div_self, Nat.mod_mul_right_mod]
        · rw [if_neg hq2, if_neg (show ¬ (((s + 1 : Nat) : Int) ≤ q ∧ q < (N : Int)) by omega)]
          show (if q = (s : Int) then ((r / Wn l k (s + 1) : Nat) : Int) else a q) = a q
          rw [if_neg hq]
theorem asg_Ax {l : Int → Int} {N r : Nat} (h : r < Wn l N 0) : asg l N 0 l r = Ax l N r := by
  rw [asg_e (N := N) N 0 l r (by omega) h]
  funext q
  unfold Ax
  by_cases h1 : 0 ≤ q ∧ q < (N : Int)
  · rw [if_pos (show ((0 : Nat) : Int) ≤ q ∧ q < (N : Int) from h1)]
    by_cases h2 : l q = -1
    · rw [if_pos h2, if_neg (fun c => c.2.2 h2), h2]
    · rw [if_neg h2, if_pos ⟨h1.1, h1.2, h2⟩]
  · rw [if_neg (show ¬ (((0 : Nat) : Int) ≤ q ∧ q < (N : Int)) from h1), if_neg (fun c => h1 ⟨c.1, c.2.1⟩)]
theorem Ax_r {l : Int → Int} {N r : Nat} (h : RA l) : RA (Ax l N r) := by
  intro q
  have := h q
  unfold Ax
  split <;> omega
theorem Ax_l {l : Int → Int} {N r : Nat} {q : Int} : Ax l N r q = -1 ↔ l q = -1 := by
  unfold Ax
  by_cases h : 0 ≤ q ∧ q < (N : Int) ∧ l q ≠ -1
  · rw [if_pos h]
    constructor
    · intro c; omega
    · intro c; exact absurd c h.2.2
  · rw [if_neg h]
/-- some way of the sounds: as told for those that are lost -/
def Wy (l a : Int → Int) (N : Nat) : Prop := RA a ∧ ∀ q : Int, (¬ (0 ≤ q ∧ q < N ∧ l q ≠ -1) → a q = l q) ∧ (a q = -1 ↔ l q = -1)
theorem Wy_Ax {l : Int → Int} {N r : Nat} (h : RA l) : Wy l (Ax l N r) N := ⟨Ax_r h, fun q => ⟨fun c => by unfold Ax; rw [if_neg c], Ax_l⟩⟩
theorem Wy_l {l : Int → Int} {N : Nat} (h : RA l) : Wy l l N := ⟨h, fun q => ⟨fun _ => rfl, Iff.rfl⟩⟩
/-- what is laid out -/
def Tb (F : Int → Int → Int → Int) (l : Int → Int) (n : Nat) (M : Mem) : Prop := ∀ s f t : Int, 0 ≤ s → s < n → l s ≠ -1 → 0 ≤ f → f < 5 → 0 ≤ t → t < 5 → M 146 (25 * s + 5 * f + t) = F s f t
