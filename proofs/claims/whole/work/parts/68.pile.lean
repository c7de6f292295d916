/-! the model: reading what is told of when -/
def eT (t : Tk) : Int := if t.1 = 6 then -33 else if t.1 = 7 then -38 else if t.1 = 8 then -124 else 1000 * t.1 + 100 * (t.2.1 + 1) + t.2.2
def PW : List Int → (Int → Int) → Prop
  | [], _ => True
  | w :: ws, f => f (ws.length : Int) = w ∧ PW ws f
theorem PW_cg : ∀ (W : List Int) {f g : Int → Int}, PW W f → (∀ q : Int, 0 ≤ q → q < W.length → g q = f q) → PW W g
  | [], _, _, _, _ => trivial
  | w :: ws, f, g, h, e => ⟨by
    rw [e _ (by omega) (by rw [List.length_cons]; omega)]
    exact h.1, PW_cg ws h.2 (fun q a b => e q a (by rw [List.length_cons]; omega))⟩
def MT (T : Nat → Int) (L : Nat) (p : Nat) (M : Mem) : Prop := M 127 9 = (L : Int) ∧ M 127 10 = (p : Int) ∧ p ≤ L ∧ ∀ i : Nat, i < L → M 133 (i : Int) = T i
def MS (T : Nat → Int) (L b : Nat) (S : List Tk) (W : List Int) (k p : Nat) (M : Mem) : Prop := MT T L p M ∧ (M 127 20 = (b : Int) + S.length ∧ ∀ q : Nat, q < S.length → M 139 ((b : Int) + q) = eT (S.getD q (0, 0, 0))) ∧ M 127 21 = (W.length : Int) ∧ PW W (M 140) ∧ M 127 22 = (k : Int) ∧ S.length + W.length ≤ p
def FrE (b : Nat) (c : Int) (M M' : Mem) : Prop := ∀ j q : Int, j ≠ 140 → (j ≠ 127 ∨ (q ≠ 10 ∧ q ≠ 11 ∧ q ≠ 20 ∧ q ≠ 21 ∧ q ≠ 22)) → (j ≠ 139 ∨ q < b ∨ b + 100 ≤ q) → (j ≠ 138 ∨ q ≠ c) → M' j q = M j q
theorem FrE_rfl (b : Nat) (c : Int) (M : Mem) : FrE b c M M := fun _ _ _ _ _ _ => rfl
theorem FrE_tr {b : Nat} {c : Int} {M M1 M2 : Mem} (h : FrE b c M M1) (g : FrE b c M1 M2) : FrE b c M M2 := fun j q a1 a2 a3 a4 => (g j q a1 a2 a3 a4).trans (h j q a1 a2 a3 a4)
theorem m_next {T : Nat → Int} {L p : Nat} {M : Mem} {Q : Int → Mem → Prop} (hT : TxE T L) (h : MT T L p M) (k : Q (T p) M) : wp (f_X8_next M) Q := by
  obtain ⟨h1, h2, h3, h4⟩ := h
  have hL := hT.1
  unfold f_X8_next
  rw [h1, h2]
  by_cases hp : (L : Int) ≤ (p : Int)
  · rw [hT.2.1 p (by omega)] at k
    refine wp_t hp ?_
    rw [wp_some]
    exact k
  · refine wp_f hp (wp_and (by omega) ?_)
    rw [wp_some, h4 p (by omega)]
    exact k
theorem MT_fr {T : Nat → Int} {L p : Nat} {b : Nat} {c : Int} {M M' : Mem} (h : MT T L p M) (g : FrE b c M M') (h10 : M' 127 10 = M 127 10) : MT T L p M' := ⟨by rw [g 127 9 (by omega) (by omega) (by omega) (by omega)]; exact h.1, by rw [h10]; exact h.2.1, h.2.2.1, fun i hi => by rw [g 133 _ (by omega) (by omega) (by omega) (by omega)]; exact h.2.2.2 i hi⟩
theorem m_emit {T : Nat → Int} {L b k p : Nat} {c v : Int} {S : List Tk} {W : List Int} {t : Tk} {M : Mem} {Q : Int → Mem → Prop} (hb : b ≤ 500) (hp : S.length + W.length + 1 ≤ 101) (hS : S.length < 100) (h : MS T L b S W k p M) (hv : v = eT t)
    (kk : ∀ M', FrE b c M M' → MT T L p M' → (M' 127 20 = (b : Int) + (S ++ [t]).length ∧ ∀ q : Nat, q < (S ++ [t]).length → M' 139 ((b : Int) + q) = eT ((S ++ [t]).getD q (0, 0, 0))) → (∀ q : Int, M' 140 q = M 140 q) → M' 127 21 = M 127 21 → M' 127 22 = M 127 22 → M' 127 10 = M 127 10 → Q 0 M') : wp (f_X8_emits v M) Q := by
  obtain ⟨h1, ⟨h2, h3⟩, h4, h5, h6, h7⟩ := h
  unfold f_X8_emits
  rw [h2]
  refine wp_and (by omega) ?_
  rw [wp_lt]
  generalize hA : stM M 139 ((b : Int) + S.length) v = A
  have a0 : A 127 20 = (b : Int) + S.length := by rw [← hA, st_nc (by decide), h2]
  rw [wp_lt, wp_some, a0, w_id (by omega) (by omega)]
  have u : ∀ j q : Int, stM A 127 20 ((b : Int) + S.length + 1) j q = if j = 127 ∧ q = 20 then (b : Int) + S.length + 1 else if j = 139 ∧ q = (b : Int) + S.length then v else M j q := by
    intro j q
    rw [st_ap, ← hA, st_ap]
  generalize stM A 127 20 ((b : Int) + S.length + 1) = M' at u
  have fr : FrE b c M M' := fun j q a1 a2 a3 a4 => by rw [u, if_neg (by omega), if_neg (by omega)]
  have e10 : M' 127 10 = M 127 10 := by rw [u, if_neg (by omega), if_neg (by omega)]
  refine kk M' fr (MT_fr h1 fr e10) ⟨?_, ?_⟩ ?_ ?_ ?_ e10
  · rw [u, if_pos ⟨rfl, rfl⟩, List.length_append]
    show _ = (b : Int) + ((S.length + 1 : Nat) : Int)
    omega
  · intro q hq
    rw [List.length_append] at hq
    have hq : q < S.length + 1 := hq
    rw [u, if_neg (by omega)]
    by_cases hh : q = S.length
    · rw [if_pos (by omega), hh, getT_last]
      exact hv
    · rw [if_neg (by omega), getT_app S t q (by omega)]
      exact h3 q (by omega)
  · intro q
    rw [u, if_neg (by omega), if_neg (by omega)]
  · rw [u, if_neg (by omega), if_neg (by omega)]
  · rw [u, if_neg (by omega), if_neg (by omega)]
def notT : Tk := (6, 0, 0)
theorem rep_s (m : Nat) (S : List Tk) : (S ++ [notT]) ++ List.replicate m notT = S ++ List.replicate (m + 1) notT := by
  rw [List.append_assoc]
  rfl
theorem m_whole {T : Nat → Int} {L b p : Nat} {c : Int} {W0 : List Int} (hb : b ≤ 500) (hT : TxE T L) (hW : W0.head? ≠ some 33) : ∀ (m fuel k0 : Nat) (S : List Tk) (M : Mem) (Q : Int → Mem → Prop), m < fuel → k0 + m ≤ 4 → MS T L b S (List.replicate m 33 ++ W0) (k0 + m) p M → (∀ M', FrE b c M M' → MS T L b (S ++ List.replicate m notT) W0 k0 p M' → Q 0 M') → wp (f_X8_whole_0 fuel M) Q
  | 0, fuel, k0, S, M, Q, hf, hk4, h, kk => by
    obtain ⟨fu, rfl⟩ : ∃ fu, fuel = fu + 1 := ⟨fuel - 1, by omega⟩
    have h' : MS T L b S W0 k0 p M := h
    rw [f_X8_whole_0.eq_2]
    have fin : Q 0 M := kk M (FrE_rfl b c M) (by rw [show S ++ List.replicate 0 notT = S from List.append_nil S]; exact h')
    obtain ⟨h1, h2, h4, h5, h6, h7⟩ := h'
    have hL := hT.1
    have hpL := h1.2.2.1
    cases W0 with
    | nil =>
      refine wp_t (by rw [h4]; decide) ?_
      rw [wp_some]
      exact fin
    | cons w ws =>
      rw [List.length_cons] at h4 h7
      rw [h4]
      refine wp_f (by omega) ?_
      rw [w_id (by omega) (by omega), show ((ws.length + 1 : Nat) : Int) - 1 = (ws.length : Int) by omega]
      refine wp_and (by omega) (wp_f ?_ ?_)
      · rw [h5.1]
        intro c2
        rw [c2] at hW
        exact hW rfl
      · rw [wp_some]
        exact fin
  | m + 1, fuel, k0, S, M, Q, hf, hk4, h, kk => by
    obtain ⟨fu, rfl⟩ : ∃ fu, fuel = fu + 1 := ⟨fuel - 1, by omega⟩
    have hrep : List.replicate (m + 1) (33 : Int) ++ W0 = 33 :: (List.replicate m 33 ++ W0) := rfl
    rw [hrep] at h
    have hh := h
    obtain ⟨h1, h2, h4, h5, h6, h7⟩ := h
    rw [List.length_cons] at h4 h7
    have hL := hT.1
    have hpL := h1.2.2.1
    generalize hW1 : List.replicate m (33 : Int) ++ W0 = W1 at hh h4 h5 h7
    rw [f_X8_whole_0.eq_2, h4]
    refine wp_f (by omega) ?_
    rw [w_id (by omega) (by omega), show ((W1.length + 1 : Nat) : Int) - 1 = (W1.length : Int) by omega]
    refine wp_and (by omega) (wp_t h5.1 ?_)
    rw [wp_bind]
    refine m_emit (c := c) (t := notT) hb (by rw [List.length_cons]; omega) (by omega) hh rfl ?_
    intro M1 g1 g2 g3 g4 g5 g6 g7
    rw [wp_lt, wp_lt]
    simp only []
    rw [g5, h4, w_id (by omega) (by omega), show ((W1.length + 1 : Nat) : Int) - 1 = (W1.length : Int) by omega]
    generalize hA : stM M1 127 21 (W1.length : Int) = A
    have a22 : A 127 22 = ((k0 + (m + 1) : Nat) : Int) := by rw [← hA, st_ap, if_neg (by omega), g6, h6]
    rw [a22, w_id (by omega) (by omega), show ((k0 + (m + 1) : Nat) : Int) - 1 = ((k0 + m : Nat) : Int) by omega]
    have u : ∀ j q : Int, stM A 127 22 ((k0 + m : Nat) : Int) j q = if j = 127 ∧ q = 22 then ((k0 + m : Nat) : Int) else if j = 127 ∧ q = 21 then (W1.length : Int) else M1 j q := by
      intro j q
      rw [st_ap, ← hA, st_ap]
    generalize stM A 127 22 ((k0 + m : Nat) : Int) = M2 at u
    have fr : FrE b c M1 M2 := fun j q a1 a2 a3 a4 => by rw [u, if_neg (by omega), if_neg (by omega)]
    refine m_whole (p := p) (c := c) hb hT hW m fu k0 (S ++ [notT]) M2 Q (by omega) (by omega) ?_ ?_
    · rw [hW1]
      refine ⟨MT_fr g2 fr (by rw [u, if_neg (by omega), if_neg (by omega)]), ⟨?_, ?_⟩, ?_, ?_, ?_, ?_⟩
      · rw [u, if_neg (by omega), if_neg (by omega)]
        exact g3.1
      · intro q hq
        rw [u, if_neg (by omega), if_neg (by omega)]
        exact g3.2 q hq
      · rw [u, if_neg (by omega), if_pos ⟨rfl, rfl⟩]
      · refine PW_cg W1 h5.2 (fun q _ _ => ?_)
        rw [u, if_neg (by omega), if_neg (by omega), g4]
      · rw [u, if_pos ⟨rfl, rfl⟩]
      · rw [List.length_append]
        show S.length + 1 + W1.length ≤ p
        omega
    · intro M3 w1 w2
      rw [rep_s] at w2
      exact kk M3 (FrE_tr g1 (FrE_tr fr w1)) w2
/-- what stands for a sign of two sides -/
def tkS (w : Int) : Tk := if w = 38 then (7, 0, 0) else (8, 0, 0)
theorem m_settle {T : Nat → Int} {L b k p : Nat} {c p1 s : Int} {W0 : List Int} (hb : b ≤ 500) (hT : TxE T L) (hs : s = 38 ∨ s = 124) (hW : ∀ w, W0.head? = some w → w ≠ 38 ∧ (s = 124 → w ≠ 124)) : ∀ (P : List Int) (fuel : Nat) (S : List Tk) (M : Mem) (Q : Int → Mem → Prop), P.length < fuel → (∀ x ∈ P, x = 38 ∨ (s = 124 ∧ x = 124)) → MS T L b S (P ++ W0) k p M → (∀ M', FrE b c M M' → MS T L b (S ++ P.map tkS) W0 k p M' → Q 0 M') → wp (f_X8_settle_0 p1 fuel s M) Q
  | [], fuel, S, M, Q, hf, hP, h, kk => by
    obtain ⟨fu, rfl⟩ : ∃ fu, fuel = fu + 1 := ⟨fuel - 1, by omega⟩
    have h' : MS T L b S W0 k p M := h
    rw [f_X8_settle_0.eq_2]
    have fin : Q 0 M := kk M (FrE_rfl b c M) (by rw [show S ++ List.map tkS [] = S from List.append_nil S]; exact h')
    obtain ⟨h1, h2, h4, h5, h6, h7⟩ := h'
    have hL := hT.1
    have hpL := h1.2.2.1
    cases W0 with
    | nil =>
      refine wp_t (by rw [h4]; decide) ?_
      rw [wp_some]
      exact fin
    | cons w ws =>
      have hw := hW w rfl
      rw [List.length_cons] at h4 h7
      rw [h4]
      refine wp_f (by omega) ?_
      rw [w_id (by omega) (by omega), show ((ws.length + 1 : Nat) : Int) - 1 = (ws.length : Int) by omega, h5.1]
      refine wp_and (by omega) (wp_f hw.1 (wp_and (by omega) ?_))
      by_cases hq : w = 124
      · refine wp_t hq ?_
        have hs38 : s = 38 := by
          rcases hs with c2 | c2
          · exact c2
          · exact absurd hq (hw.2 c2)
        refine wp_t hs38 ?_
        rw [wp_some]
        exact fin
      · refine wp_f hq ?_
        rw [wp_some]
        exact fin
  | x :: P, fuel, S, M, Q, hf, hP, h, kk => by
    obtain ⟨fu, rfl⟩ : ∃ fu, fuel = fu + 1 := ⟨fuel - 1, by omega⟩
    have hx := hP x (List.mem_cons_self)
    have hcons : (x :: P) ++ W0 = x :: (P ++ W0) := rfl
    rw [hcons] at h
    have hh := h
    obtain ⟨h1, h2, h4, h5, h6, h7⟩ := h
    rw [List.length_cons] at h4 h7 hf
    have hL := hT.1
    have hpL := h1.2.2.1
    generalize hW1 : P ++ W0 = W1 at hh h4 h5 h7
    have go : wp (f_X8_settle_45 p1 (f_X8_settle_0 p1 fu) s M) Q := by
      unfold f_X8_settle_45
      rw [wp_lt, h4, w_id (by omega) (by omega), show ((W1.length + 1 : Nat) : Int) - 1 = (W1.length : Int) by omega]
      generalize hA : stM M 127 21 (W1.length : Int) = A
      have a21 : A 127 21 = (W1.length : Int) := by rw [← hA, st_ap, if_pos ⟨rfl, rfl⟩]
      have aj : ∀ j q : Int, (j ≠ 127 ∨ q ≠ 21) → A j q = M j q := fun j q cc => by rw [← hA, st_ap, if_neg (by omega)]
      have frA : FrE b c M A := fun j q a1 a2 a3 a4 => aj j q (by omega)
      have hMA : MS T L b S W1 k p A := ⟨MT_fr h1 frA (aj 127 10 (by omega)), ⟨by rw [aj 127 20 (by omega)]; exact h2.1, fun q hq => by rw [aj 139 _ (by omega)]; exact h2.2 q hq⟩, a21, PW_cg W1 h5.2 (fun q _ _ => aj 140 q (by omega)), by rw [aj 127 22 (by omega)]; exact h6, by omega⟩
      rw [a21, aj 140 _ (by omega), h5.1]
      refine wp_and (by omega) ?_
      rw [wp_bind]
      have hv : w32 (-x) = eT (tkS x) := by
        rcases hx with rfl | ⟨_, rfl⟩
        · rfl
        · rfl
      refine m_emit (c := c) (t := tkS x) hb (by omega) (by omega) hMA hv ?_
      intro M1 g1 g2 g3 g4 g5 g6 g7
      simp only []
      refine m_settle (k := k) (p := p) (c := c) hb hT hs hW P fu (S ++ [tkS x]) M1 Q (by omega) (fun y hy => hP y (List.mem_cons_of_mem _ hy)) ?_ ?_
      · rw [hW1]
        refine ⟨g2, g3, g5.trans a21, PW_cg W1 h5.2 (fun q _ _ => (g4 q).trans (aj 140 q (by omega))), g6.trans ((aj 127 22 (by omega)).trans h6), ?_⟩
        rw [List.length_append]
        show S.length + 1 + W1.length ≤ p
        omega
      · intro M2 u1 u2
        rw [List.append_assoc] at u2
        exact kk M2 (FrE_tr frA (FrE_tr g1 u1)) u2
    rw [f_X8_settle_0.eq_2, h4]
    refine wp_f (by omega) ?_
    rw [w_id (by omega) (by omega), show ((W1.length + 1 : Nat) : Int) - 1 = (W1.length : Int) by omega, h5.1]
    refine wp_and (by omega) ?_
    by_cases h38 : x = 38
    · exact wp_t h38 go
    · refine wp_f h38 (wp_and (by omega) ?_)
      rcases hx with hx | ⟨hx1, hx2⟩
      · exact absurd hx h38
      · exact wp_t hx2 (wp_f (by omega) go)
