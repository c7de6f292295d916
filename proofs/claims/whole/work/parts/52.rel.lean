/-! what class and model have in common -/
def stO (k : Int) : Int := if k < 0 then 16 else 79 + 6 * k
def BoR (n : Int) (a1 a2 b1 b2 : Int → Int) (N : Int) : Prop := (0 ≤ n ∧ n ≤ 8) ∧ ∀ i : Int, 0 ≤ i → i < n → a1 i = b1 i ∧ (0 ≤ a1 i ∧ a1 i < N) ∧ (0 ≤ a2 i ∧ a2 i ≤ 5) ∧ b2 i = if a2 i = 5 then -5 else a2 i
def RgS (e : Vw) : Prop := (∀ q, 0 ≤ e.2.1 q ∧ e.2.1 q ≤ 99) ∧ ∀ Lf, -990 ≤ e.2.2 Lf ∧ e.2.2 Lf ≤ 990
/-- where the signs of a street stand -/
def TkR (k : Int) (M : Mem) : Prop := 0 ≤ k → ∀ c : Int, 10 * k ≤ c → c < 10 * k + M 134 k → M 135 c ≤ 1 → 100 * k ≤ M 137 c ∧ M 138 c ≤ 100 * k + 100
def StP (k : Int) (M : Mem) : Prop := ∃ e : Vw, SC (stO k) e M ∧ SM k e M ∧ RgS e ∧ TkR k M
def R1 (e : Vw) (M : Mem) : Prop := Rg e ∧ e.1 6 0 ≤ 9999 ∧ LC 22 e M ∧ LM e M ∧ (∀ i : Int, 4 * e.1 0 0 ≤ i → i < 24 → e.1 5 i = 0) ∧ M 22 7 = stO (M 127 8)
def R2 (M : Mem) : Prop := M 127 33 = M 28 0 ∧ SeR (M 28 0) (M 29) (M 30) (M 31) (M 148) (M 149) (M 150)
def R3 (n : Int) (M : Mem) : Prop := M 127 37 = M 32 0 ∧ PlR (M 32 0) (M 33) (M 34) (M 151) (M 152) n
def R4 (n : Int) (M : Mem) : Prop := M 127 38 = M 36 0 ∧ BoR (M 36 0) (M 37) (M 38) (M 153) (M 154) n
def R5 (M : Mem) : Prop := ((0 ≤ M 0 6 ∧ M 0 6 ≤ 6) ∧ ∀ k : Int, 0 ≤ k → k < 6 → M (81 + 6 * k) 0 = 0) ∧ M 127 7 = M 0 6 ∧ M 127 8 < M 0 6 ∧ ∀ k : Int, -1 ≤ k → k < M 0 6 → StP k M
def Im (e : Vw) (M : Mem) : Prop := Rg e ∧ e.1 6 0 ≤ 9999 ∧ (∀ i : Int, 4 * e.1 0 0 ≤ i → i < 24 → e.1 5 i = 0) ∧ (M 41 0 = e.1 0 0 ∧ M 41 6 = e.1 6 0 ∧ M 127 45 = e.1 0 0 ∧ M 127 46 = e.1 6 0) ∧
  (∀ s : Int, 0 ≤ s → s < 6 → M 42 s = e.1 1 s ∧ M 43 s = e.1 2 s ∧ M 44 s = e.1 3 s ∧ M 45 s = e.1 4 s ∧ M 155 s = e.1 1 s ∧ M 156 s = e.1 2 s ∧ M 157 s = e.1 3 s ∧ M 158 s = hm (e.1 4 s)) ∧
  (∀ i : Int, 0 ≤ i → i < 24 → M 46 i = e.1 5 i) ∧ (∀ i : Int, 0 ≤ i → i < 4 * e.1 0 0 → M 159 i = e.1 5 i) ∧ (M 41 7 = stO (M 127 44) ∧ -1 ≤ M 127 44 ∧ M 127 44 < M 0 6) ∧
  (M 127 47 = M 47 0 ∧ SeR (M 47 0) (M 48) (M 49) (M 50) (M 160) (M 161) (M 162)) ∧ (M 127 48 = M 51 0 ∧ PlR (M 51 0) (M 52) (M 53) (M 163) (M 164) (e.1 0 0)) ∧ (M 127 49 = M 55 0 ∧ BoR (M 55 0) (M 56) (M 57) (M 165) (M 166) (e.1 0 0))
def R6 (M : Mem) : Prop := M 127 43 = M 0 3 ∧ (M 0 3 ≠ 0 → ∃ e, Im e M)
def ltr (i : Int) : Int := if i = 0 then 108 else if i = 1 then 111 else if i = 2 then 117 else if i = 3 then 100 else if i = 4 then 115 else if i = 5 then 111 else if i = 6 then 102 else if i = 7 then 116 else if i = 8 then 119 else if i = 9 then 97 else if i = 10 then 108 else if i = 11 then 108 else if i = 12 then 99 else if i = 13 then 97 else if i = 14 then 108 else if i = 15 then 109 else if i = 16 then 119 else if i = 17 then 101 else if i = 18 then 97 else 114
def R7 (M : Mem) : Prop := M 127 9 = M 1 1 ∧ (0 ≤ M 1 1 ∧ M 1 1 ≤ 100) ∧ (∀ i : Int, 0 ≤ i → i < M 1 1 → M 2 i = M 133 i ∧ 0 ≤ M 133 i ∧ M 133 i ≤ 127) ∧ ∀ i : Int, 0 ≤ i → i < 20 → M 141 i = ltr i
def R8 (M : Mem) : Prop := M 127 62 = M 13 0 ∧ (0 ≤ M 13 0 ∧ M 13 0 ≤ 1000) ∧ ∀ i : Int, 0 ≤ i → i < 20 → i < M 13 0 → M 14 i = M 167 i
def R9 (M : Mem) : Prop := ∀ t : Int, 0 ≤ t → t < 6 → M (115 + 2 * t) 0 = M 168 t ∧ (-1 ≤ M 168 t ∧ M 168 t ≤ 4) ∧ M (115 + 2 * t) 1 = M 169 t ∧ (0 ≤ M 169 t ∧ M 169 t ≤ 60) ∧ (M 168 t = -1 → M 169 t = 0) ∧ ∀ i : Int, 0 ≤ i → i < 60 → M (116 + 2 * t) i = M 170 (60 * t + i)
def Rl (e : Vw) (M : Mem) : Prop := R1 e M ∧ R2 M ∧ R3 (e.1 0 0) M ∧ R4 (e.1 0 0) M ∧ R5 M ∧ R6 M ∧ R7 M ∧ R8 M ∧ R9 M
def Rel (M : Mem) : Prop := ∃ e, Rl e M
def OP (a b : Mem → Option (Int × Mem)) (M : Mem) : Prop := wp (a M) (fun v M1 => wp (b M1) (fun v' M2 => v = v' ∧ Rel M2))
/-! frames -/
theorem fr_j {M M' : Mem} {j : Int} (h : ∀ q, M' j q = M j q) : M' j = M j := funext h
theorem stO_s {k : Int} (h1 : -1 ≤ k) (h2 : k ≤ 5) : isStr (stO k) := by
  unfold stO isStr
  split
  · omega
  · omega
theorem stO_r {k : Int} (h1 : -1 ≤ k) (h2 : k ≤ 5) : stO k = 16 ∨ (79 ≤ stO k ∧ stO k ≤ 109) := by
  unfold stO
  split
  · omega
  · omega
theorem StP_fr {k : Int} {M M' : Mem} (h : StP k M) (hf : ∀ j q : Int, (16 ≤ j ∧ j ≤ 21) ∨ (79 ≤ j ∧ j ≤ 114) ∨ (134 ≤ j ∧ j ≤ 139) → M' j q = M j q) : StP k M' := by
  obtain ⟨e, h1, h2, h3, h4⟩ := h
  have hs := stO_r h2.1.1 h2.1.2
  have hj : ∀ j : Int, 134 ≤ j → j ≤ 139 → M' j = M j := fun j a b => fr_j (fun q => hf j q (by omega))
  refine ⟨e, SC_fr2 h1 (fun i i0 i5 => fr_j (fun q => hf _ q (by omega))) rfl, SM_fr h2 hj rfl, h3, ?_⟩
  unfold TkR
  rw [hj 134 (by omega) (by omega), hj 135 (by omega) (by omega), hj 137 (by omega) (by omega), hj 138 (by omega) (by omega)]
  exact h4
theorem LC22_fr {e : Vw} {M M' : Mem} (h : LC 22 e M) (hf : ∀ j q : Int, (16 ≤ j ∧ j ≤ 27) ∨ (79 ≤ j ∧ j ≤ 114) → M' j q = M j q) : LC 22 e M' := by
  obtain ⟨q0, q6, qs, q5, qS⟩ := h
  have hr := qS.1
  rw [← hf 22 7 (by omega)] at qS hr
  have hj : ∀ j : Int, (16 ≤ j ∧ j ≤ 27) ∨ (79 ≤ j ∧ j ≤ 114) → M' j = M j := fun j c => fr_j (fun q => hf j q c)
  refine ⟨by rw [hj 22 (by omega)]; exact q0, by rw [hj 22 (by omega)]; exact q6, ?_, ?_, SC_fr2 qS (fun i i0 i5 => hj _ ?_) rfl⟩
  · rw [hj (22 + 1) (by omega), hj (22 + 2) (by omega), hj (22 + 3) (by omega), hj (22 + 4) (by omega)]; exact qs
  · rw [hj (22 + 5) (by omega)]; exact q5
  · unfold isStr at hr; omega
theorem LM2_fr {e : Vw} {M M' : Mem} (h : LM e M) (hf : ∀ j q : Int, (128 ≤ j ∧ j ≤ 132) ∨ (134 ≤ j ∧ j ≤ 139) ∨ (j = 127 ∧ (q = 0 ∨ q = 1 ∨ q = 8)) → M' j q = M j q) : LM e M' := by
  obtain ⟨q0, q6, qs, q5, qS⟩ := h
  have hj : ∀ j : Int, (128 ≤ j ∧ j ≤ 132) ∨ (134 ≤ j ∧ j ≤ 139) → M' j = M j := fun j c => fr_j (fun q => hf j q (by omega))
  refine ⟨by rw [hf 127 0 (by omega)]; exact q0, by rw [hf 127 1 (by omega)]; exact q6, by rw [hj 128 (by omega), hj 129 (by omega), hj 130 (by omega), hj 131 (by omega)]; exact qs, by rw [hj 132 (by omega)]; exact q5, ?_⟩
  rw [hf 127 8 (by omega)]
  exact SM_fr qS (fun j _ _ => hj j (by omega)) rfl
theorem R1_fr {e : Vw} {M M' : Mem} (h : R1 e M) (hf : ∀ j q : Int, (16 ≤ j ∧ j ≤ 27) ∨ (79 ≤ j ∧ j ≤ 114) ∨ (128 ≤ j ∧ j ≤ 132) ∨ (134 ≤ j ∧ j ≤ 139) ∨ (j = 127 ∧ (q = 0 ∨ q = 1 ∨ q = 8)) → M' j q = M j q) : R1 e M' := by
  obtain ⟨h1, h2, h3, h4, h5, h6⟩ := h
  exact ⟨h1, h2, LC22_fr h3 (fun j q c => hf j q (by omega)), LM2_fr h4 (fun j q c => hf j q (by omega)), h5, by rw [hf 22 7 (by omega), hf 127 8 (by omega)]; exact h6⟩
theorem R2_fr {M M' : Mem} (h : R2 M) (hf : ∀ j q : Int, (28 ≤ j ∧ j ≤ 31) ∨ (148 ≤ j ∧ j ≤ 150) ∨ (j = 127 ∧ q = 33) → M' j q = M j q) : R2 M' := by
  have hj : ∀ j : Int, (28 ≤ j ∧ j ≤ 31) ∨ (148 ≤ j ∧ j ≤ 150) → M' j = M j := fun j c => fr_j (fun q => hf j q (by omega))
  unfold R2
  rw [hf 127 33 (by omega), hj 28 (by omega), hj 29 (by omega), hj 30 (by omega), hj 31 (by omega), hj 148 (by omega), hj 149 (by omega), hj 150 (by omega)]
  exact h
theorem R3_fr {n : Int} {M M' : Mem} (h : R3 n M) (hf : ∀ j q : Int, (32 ≤ j ∧ j ≤ 34) ∨ (151 ≤ j ∧ j ≤ 152) ∨ (j = 127 ∧ q = 37) → M' j q = M j q) : R3 n M' := by
  have hj : ∀ j : Int, (32 ≤ j ∧ j ≤ 34) ∨ (151 ≤ j ∧ j ≤ 152) → M' j = M j := fun j c => fr_j (fun q => hf j q (by omega))
  unfold R3
  rw [hf 127 37 (by omega), hj 32 (by omega), hj 33 (by omega), hj 34 (by omega), hj 151 (by omega), hj 152 (by omega)]
  exact h
theorem R3_n {n m : Int} {M : Mem} (h : R3 n M) (hm : n ≤ m) : R3 m M := ⟨h.1, h.2.1, fun i a b => by
  obtain ⟨c1, c2, c3, c4⟩ := h.2.2 i a b
  exact ⟨c1, c2, c3, fun q => by have := c4 q; omega⟩⟩
theorem R4_fr {n : Int} {M M' : Mem} (h : R4 n M) (hf : ∀ j q : Int, (36 ≤ j ∧ j ≤ 38) ∨ (153 ≤ j ∧ j ≤ 154) ∨ (j = 127 ∧ q = 38) → M' j q = M j q) : R4 n M' := by
  have hj : ∀ j : Int, (36 ≤ j ∧ j ≤ 38) ∨ (153 ≤ j ∧ j ≤ 154) → M' j = M j := fun j c => fr_j (fun q => hf j q (by omega))
  unfold R4
  rw [hf 127 38 (by omega), hj 36 (by omega), hj 37 (by omega), hj 38 (by omega), hj 153 (by omega), hj 154 (by omega)]
  exact h
theorem R4_n {n m : Int} {M : Mem} (h : R4 n M) (hm : n ≤ m) : R4 m M := ⟨h.1, h.2.1, fun i a b => by
  obtain ⟨c1, c2, c3, c4⟩ := h.2.2 i a b
  exact ⟨c1, by omega, c3, c4⟩⟩
theorem R5_fr {M M' : Mem} (h : R5 M) (hf : ∀ j q : Int, (16 ≤ j ∧ j ≤ 21) ∨ (79 ≤ j ∧ j ≤ 114) ∨ (134 ≤ j ∧ j ≤ 139) ∨ (j = 0 ∧ q = 6) ∨ (j = 127 ∧ (q = 7 ∨ q = 8)) → M' j q = M j q) : R5 M' := by
  unfold R5
  rw [hf 0 6 (by omega), hf 127 7 (by omega), hf 127 8 (by omega)]
  exact ⟨⟨h.1.1, fun k a b => by rw [hf _ _ (by omega)]; exact h.1.2 k a b⟩, h.2.1, h.2.2.1, fun k a b => StP_fr (h.2.2.2 k a b) (fun j q c => hf j q (by omega))⟩
theorem Im_fr {e : Vw} {M M' : Mem} (h : Im e M) (hf : ∀ j q : Int, (41 ≤ j ∧ j ≤ 53) ∨ (55 ≤ j ∧ j ≤ 57) ∨ (155 ≤ j ∧ j ≤ 166) ∨ (j = 127 ∧ 44 ≤ q ∧ q ≤ 49) → M' j q = M j q) (h6 : M 0 6 ≤ M' 0 6) : Im e M' := by
  have hj : ∀ j : Int, (41 ≤ j ∧ j ≤ 53) ∨ (55 ≤ j ∧ j ≤ 57) ∨ (155 ≤ j ∧ j ≤ 166) → M' j = M j := fun j c => fr_j (fun q => hf j q (by omega))
  unfold Im at h ⊢
  rw [hf 127 44 (by omega), hf 127 45 (by omega), hf 127 46 (by omega), hf 127 47 (by omega), hf 127 48 (by omega), hf 127 49 (by omega), hj 41 (by omega), hj 42 (by omega), hj 43 (by omega), hj 44 (by omega), hj 45 (by omega), hj 46 (by omega), hj 47 (by omega), hj 48 (by omega), hj 49 (by omega), hj 50 (by omega), hj 51 (by omega), hj 52 (by omega), hj 53 (by omega), hj 55 (by omega), hj 56 (by omega), hj 57 (by omega), hj 155 (by omega), hj 156 (by omega), hj 157 (by omega), hj 158 (by omega), hj 159 (by omega), hj 160 (by omega), hj 161 (by omega), hj 162 (by omega), hj 163 (by omega), hj 164 (by omega), hj 165 (by omega), hj 166 (by omega)]
  obtain ⟨a1, a2, a3, a4, a5, a6, a7, a8, a9⟩ := h
  exact ⟨a1, a2, a3, a4, a5, a6, a7, ⟨a8.1, a8.2.1, by omega⟩, a9⟩
theorem R6_fr {M M' : Mem} (h : R6 M) (hf : ∀ j q : Int, (41 ≤ j ∧ j ≤ 53) ∨ (55 ≤ j ∧ j ≤ 57) ∨ (155 ≤ j ∧ j ≤ 166) ∨ (j = 127 ∧ 43 ≤ q ∧ q ≤ 49) ∨ (j = 0 ∧ q = 3) → M' j q = M j q) (h6 : M 0 6 ≤ M' 0 6) : R6 M' := by
  unfold R6
  rw [hf 127 43 (by omega), hf 0 3 (by omega)]
  refine ⟨h.1, fun c => ?_⟩
  obtain ⟨e, he⟩ := h.2 c
  exact ⟨e, Im_fr he (fun j q c => hf j q (by omega)) h6⟩
theorem R7_fr {M M' : Mem} (h : R7 M) (hf : ∀ j q : Int, j = 2 ∨ j = 133 ∨ j = 141 ∨ (j = 1 ∧ q = 1) ∨ (j = 127 ∧ q = 9) → M' j q = M j q) : R7 M' := by
  have hj : ∀ j : Int, j = 2 ∨ j = 133 ∨ j = 141 → M' j = M j := fun j c => fr_j (fun q => hf j q (by omega))
  unfold R7
  rw [hf 127 9 (by omega), hf 1 1 (by omega), hj 2 (by omega), hj 133 (by omega), hj 141 (by omega)]
  exact h
theorem R8_fr {M M' : Mem} (h : R8 M) (hf : ∀ j q : Int, j = 14 ∨ j = 167 ∨ (j = 13 ∧ q = 0) ∨ (j = 127 ∧ q = 62) → M' j q = M j q) : R8 M' := by
  have hj : ∀ j : Int, j = 14 ∨ j = 167 → M' j = M j := fun j c => fr_j (fun q => hf j q (by omega))
  unfold R8
  rw [hf 127 62 (by omega), hf 13 0 (by omega), hj 14 (by omega), hj 167 (by omega)]
  exact h
theorem R9_fr {M M' : Mem} (h : R9 M) (hf : ∀ j q : Int, (115 ≤ j ∧ j ≤ 126) ∨ (168 ≤ j ∧ j ≤ 170) → M' j q = M j q) : R9 M' := by
  intro t t0 t6
  have h' := h t t0 t6
  have hj : ∀ j : Int, (115 ≤ j ∧ j ≤ 126) ∨ (168 ≤ j ∧ j ≤ 170) → M' j = M j := fun j c => fr_j (fun q => hf j q c)
  rw [hj (115 + 2 * t) (by omega), hj (116 + 2 * t) (by omega), hj 168 (by omega), hj 169 (by omega), hj 170 (by omega)]
  exact h'
/-- only the sounds change -/
theorem Rl_lot {e e' : Vw} {M M' : Mem} (h : Rl e M) (hR : Rg e') (hy : e'.1 6 0 ≤ 9999) (hC : LC 22 e' M') (hM : LM e' M') (hz : ∀ i : Int, 4 * e'.1 0 0 ≤ i → i < 24 → e'.1 5 i = 0) (hn : e.1 0 0 ≤ e'.1 0 0)
    (hf : ∀ j q : Int, (j < 4 ∨ 12 < j) → (j < 22 ∨ 27 < j ∨ (j = 22 ∧ q = 7)) → j ≠ 40 → (j < 60 ∨ 65 < j) → j ≠ 78 → (j < 127 ∨ 132 < j ∨ (j = 127 ∧ q ≠ 0 ∧ q ≠ 1 ∧ q ≠ 26 ∧ q ≠ 31 ∧ q ≠ 32)) → (j < 142 ∨ 147 < j) → M' j q = M j q) : Rl e' M' := by
  obtain ⟨h1, h2, h3, h4, h5, h6, h7, h8, h9⟩ := h
  refine ⟨⟨hR, hy, hC, hM, hz, ?_⟩, R2_fr h2 ?_, R3_n (R3_fr h3 ?_) hn, R4_n (R4_fr h4 ?_) hn, R5_fr h5 ?_, R6_fr h6 ?_ ?_, R7_fr h7 ?_, R8_fr h8 ?_, R9_fr h9 ?_⟩
  · rw [hf 22 7 (by omega) (by omega) (by omega) (by omega) (by omega) (by omega) (by omega), hf 127 8 (by omega) (by omega) (by omega) (by omega) (by omega) (by omega) (by omega)]
    exact h1.2.2.2.2.2
  · exact fun j q c => hf j q (by omega) (by omega) (by omega) (by omega) (by omega) (by omega) (by omega)
  · exact fun j q c => hf j q (by omega) (by omega) (by omega) (by omega) (by omega) (by omega) (by omega)
  · exact fun j q c => hf j q (by omega) (by omega) (by omega) (by omega) (by omega) (by omega) (by omega)
  · exact fun j q c => hf j q (by omega) (by omega) (by omega) (by omega) (by omega) (by omega) (by omega)
  · exact fun j q c => hf j q (by omega) (by omega) (by omega) (by omega) (by omega) (by omega) (by omega)
  · rw [hf 0 6 (by omega) (by omega) (by omega) (by omega) (by omega) (by omega) (by omega)]
    exact Int.le_refl _
  · exact fun j q c => hf j q (by omega) (by omega) (by omega) (by omega) (by omega) (by omega) (by omega)
  · exact fun j q c => hf j q (by omega) (by omega) (by omega) (by omega) (by omega) (by omega) (by omega)
  · exact fun j q c => hf j q (by omega) (by omega) (by omega) (by omega) (by omega) (by omega) (by omega)
theorem CMF {M M1 M2 : Mem} (h : CF M M1) (g : MF M1 M2) : ∀ j q : Int, (j < 4 ∨ 12 < j) → j ≠ 40 → (j < 60 ∨ 65 < j) → j ≠ 78 → (j ≠ 127 ∨ (q ≠ 1 ∧ q ≠ 26 ∧ q ≠ 31 ∧ q ≠ 32)) → j ≠ 129 → j ≠ 130 → j ≠ 131 → (j < 142 ∨ 147 < j) → M2 j q = M j q := by
  intro j q a1 a2 a3 a4 a5 a6 a7 a8 a9
  by_cases hj : j = 127
  · subst hj
    rw [g.2 q (by omega) (by omega) (by omega) (by omega), h 127 a1 a2 a3 a4]
  · rw [g.1 j hj a6 a7 a8 a9, h j a1 a2 a3 a4]
theorem Rl_q {e : Vw} {M M1 M2 : Mem} (h : Rl e M) (hc : CF M M1) (hm : MF M1 M2) (hL : LM e M2) : Rl e M2 := by
  have hf := CMF hc hm
  refine Rl_lot h h.1.1 h.1.2.1 (LC22_fr h.1.2.2.1 (fun j q c => hf j q (by omega) (by omega) (by omega) (by omega) (by omega) (by omega) (by omega) (by omega) (by omega))) hL h.1.2.2.2.2.1 (Int.le_refl _) (fun j q a1 a2 a3 a4 a5 a6 a7 => hf j q (by omega) (by omega) (by omega) (by omega) (by omega) (by omega) (by omega) (by omega) (by omega))
theorem OP_q {e : Vw} {a b : Mem → Option (Int × Mem)} {M : Mem} (h : Rl e M) (hq : QQ a b e M) : OP a b M :=
  wp_mono hq (fun v M1 h1 => wp_mono h1 (fun v' M2 ⟨x1, x2, x3, x4⟩ => ⟨x1, e, Rl_q h x2 x3 x4⟩))
