/-! the start: what both have in common then -/
def e0 : Vw := (fun _ _ => 0, (fun q => if q = 0 then 6 else if q = 1 then 10 else if q = 2 then 1 else 0, fun _ => 0))
set_option maxRecDepth 100000 in
theorem mb_c : MB 22 0 = 0 ∧ MB 22 6 = 0 ∧ MB 22 7 = 16 ∧ MB 16 0 = 6 ∧ MB 16 1 = 10 ∧ MB 16 2 = 1 ∧ MB 16 3 = 0 ∧ MB 127 0 = 0 ∧ MB 127 1 = 0 ∧ MB 127 8 = -1 ∧ MB 127 33 = 0 ∧ MB 28 0 = 0 ∧ MB 127 37 = 0 ∧ MB 32 0 = 0 ∧ MB 127 38 = 0 ∧ MB 36 0 = 0 ∧ MB 0 6 = 0 ∧ MB 127 7 = 0 ∧ MB 127 43 = 0 ∧ MB 0 3 = 0 ∧ MB 127 9 = 0 ∧ MB 1 1 = 0 ∧ MB 127 62 = 0 ∧ MB 13 0 = 0 := by decide +kernel
set_option maxRecDepth 100000 in
theorem mb_s : ∀ s : Fin 6, MB 23 (s.val : Int) = 0 ∧ MB 24 (s.val : Int) = 0 ∧ MB 25 (s.val : Int) = 0 ∧ MB 26 (s.val : Int) = 0 ∧ MB 128 (s.val : Int) = 0 ∧ MB 129 (s.val : Int) = 0 ∧ MB 130 (s.val : Int) = 0 ∧ MB 131 (s.val : Int) = 0 ∧ MB (81 + 6 * (s.val : Int)) 0 = 0 ∧ MB (115 + 2 * (s.val : Int)) 0 = -1 ∧ MB 168 (s.val : Int) = -1 ∧ MB (115 + 2 * (s.val : Int)) 1 = 0 ∧ MB 169 (s.val : Int) = 0 := by decide +kernel
set_option maxRecDepth 100000 in
theorem mb_r : ∀ s : Fin 24, MB 27 (s.val : Int) = 0 := by decide +kernel
set_option maxRecDepth 100000 in
theorem mb_l : ∀ s : Fin 20, MB 141 (s.val : Int) = ltr (s.val : Int) := by decide +kernel
set_option maxRecDepth 100000 in
theorem mb_t : ∀ s : Fin 6, ∀ i : Fin 60, MB (116 + 2 * (s.val : Int)) (i.val : Int) = MB 170 (60 * (s.val : Int) + (i.val : Int)) := by decide +kernel
theorem rel_0 : Rel MB := by
  obtain ⟨c1, c2, c3, c4, c5, c6, c7, c8, c9, c10, c11, c12, c13, c14, c15, c16, c17, c18, c19, c20, c21, c22, c23, c24⟩ := mb_c
  have fs : ∀ s : Int, 0 ≤ s → s < 6 → MB 23 s = 0 ∧ MB 24 s = 0 ∧ MB 25 s = 0 ∧ MB 26 s = 0 ∧ MB 128 s = 0 ∧ MB 129 s = 0 ∧ MB 130 s = 0 ∧ MB 131 s = 0 ∧ MB (81 + 6 * s) 0 = 0 ∧ MB (115 + 2 * s) 0 = -1 ∧ MB 168 s = -1 ∧ MB (115 + 2 * s) 1 = 0 ∧ MB 169 s = 0 := by
    intro s s0 s6
    obtain ⟨k, rfl⟩ : ∃ k : Nat, s = (k : Int) := ⟨s.toNat, by omega⟩
    exact mb_s ⟨k, by omega⟩
  have hS : RgS e0 := by
    refine ⟨fun q => ?_, fun _ => ⟨by show (-990 : Int) ≤ 0; decide, by show (0 : Int) ≤ 990; decide⟩⟩
    show 0 ≤ (if q = 0 then (6 : Int) else if q = 1 then 10 else if q = 2 then 1 else 0) ∧ (if q = 0 then (6 : Int) else if q = 1 then 10 else if q = 2 then 1 else 0) ≤ 99
    split
    · decide
    · split
      · decide
      · split
        · decide
        · decide
  have hSC : SC 16 e0 MB := by
    refine ⟨Or.inl rfl, c4, c5, c6, ⟨by omega, by omega, fun c x y => by omega⟩, fun Lf => ?_⟩
    rw [c7]
    rfl
  have hSM : SM (-1) e0 MB := by
    refine ⟨by omega, fun c => by omega, rfl, rfl, rfl, fun Lf => rfl⟩
  have hR : Rg e0 := by
    refine ⟨?_, ?_, fun s => ?_, hS.1, hS.2⟩
    · show (0 : Int) ≤ 0 ∧ (0 : Int) ≤ 6; decide
    · show (0 : Int) ≤ 0 ∧ (0 : Int) ≤ 20000; decide
    · show ((0 : Int) ≤ 0 ∧ (0 : Int) ≤ 6) ∧ ((0 : Int) ≤ 0 ∧ (0 : Int) ≤ 9) ∧ ((0 : Int) ≤ 0 ∧ (0 : Int) ≤ 99) ∧ ((-1 : Int) ≤ 0 ∧ (0 : Int) ≤ 4) ∧ ((0 : Int) ≤ 0 ∧ (0 : Int) ≤ 9); decide
  refine ⟨e0, ⟨hR, by show (0 : Int) ≤ 9999; decide, ⟨c1, c2, fun s x y => ?_, fun i x y => ?_, by rw [c3]; exact hSC⟩, ⟨c8, c9, fun s x y => ?_, fun i x y => ?_, by rw [c10]; exact hSM⟩, fun _ _ _ => rfl, by rw [c3, c10]; rfl⟩, ⟨by rw [c11, c12], ?_⟩, ⟨by rw [c13, c14], ?_⟩, ⟨by rw [c15, c16], ?_⟩, ⟨⟨⟨by omega, by omega⟩, fun k x y => (fs k x y).2.2.2.2.2.2.2.2.1⟩, by rw [c17, c18], by rw [c10, c17]; decide, fun k x y => ?_⟩, ⟨by rw [c19, c20], fun c => absurd c20 c⟩, ⟨by rw [c21, c22], by rw [c22]; decide, fun i x y => by rw [c22] at y; omega, fun i x y => ?_⟩, ⟨by rw [c23, c24], by rw [c24]; decide, fun i x y z => by rw [c24] at z; omega⟩, fun t x y => ?_⟩
  · have := fs s x y
    exact ⟨this.1, this.2.1, this.2.2.1, this.2.2.2.1⟩
  · obtain ⟨k, rfl⟩ : ∃ k : Nat, i = (k : Int) := ⟨i.toNat, by omega⟩
    exact mb_r ⟨k, by omega⟩
  · have := fs s x y
    exact ⟨this.2.2.2.2.1, this.2.2.2.2.2.1, this.2.2.2.2.2.2.1, this.2.2.2.2.2.2.2.1⟩
  · have y : i < 4 * 0 := y
    omega
  · rw [c12]
    exact ⟨by decide, fun i a b => by omega⟩
  · rw [c14]
    exact ⟨by decide, fun i a b => by omega⟩
  · rw [c16]
    exact ⟨by decide, fun i a b => by omega⟩
  · rw [c17] at y
    obtain rfl : k = -1 := by omega
    exact ⟨e0, hSC, hSM, hS, fun c => by omega⟩
  · obtain ⟨k, rfl⟩ : ∃ k : Nat, i = (k : Int) := ⟨i.toNat, by omega⟩
    exact mb_l ⟨k, by omega⟩
  · have := fs t x y
    obtain ⟨k, rfl⟩ : ∃ k : Nat, t = (k : Int) := ⟨t.toNat, by omega⟩
    obtain ⟨_, _, _, _, _, _, _, _, _, b1, b2, b3, b4⟩ := this
    rw [b1, b2, b3, b4]
    refine ⟨rfl, by decide, rfl, by decide, fun _ => rfl, fun i i0 i1 => ?_⟩
    obtain ⟨n, rfl⟩ : ∃ n : Nat, i = (n : Int) := ⟨i.toNat, by omega⟩
    exact mb_t ⟨k, by omega⟩ ⟨n, by omega⟩
/-- what the walk wants -/
theorem law_0 {L : Nat} {xv : Int → Int} (hL : L ≤ 3072) (hx : ∀ q, i32 (xv q)) : ∃ (n : Nat) (res : Int × Mem), f_L_law_18 L xv n 0 MB = some res ∧ res.1 = 1 := by
  obtain ⟨v, M', h1, h2⟩ := law_1 hL hx (L + 6) 0 MB (by omega) (by omega) rel_0
  exact ⟨L + 6, (v, M'), h1, h2⟩
