/-! the model reads as the function -/
def GE (c : Int) (fuel : Nat) (x2 : Int) (M : Mem) : Option (Int × Mem) := f_X8_takesE_22 c fuel c x2 M
def smF (T : Nat → Int) (L b : Nat) (c : Int) (f : Nat → Res) (k : Nat) : Prop := ∀ (m k0 : Nat) (W0 : List Int) (fuel p : Nat) (S : List Tk) (M : Mem) (Q : Int → Mem → Prop), k0 + m = k → W0.head? ≠ some 33 → 1000 ≤ fuel + p → MS T L b S (List.replicate m 33 ++ W0) k p M →
  ((f p).2 = none → ∀ M', FrE b c M M' → M' 127 10 = ((f p).1 : Int) → Q 0 M') → (∀ t, (f p).2 = some t → ∀ (fuel' : Nat) (M' : Mem), 1000 ≤ fuel' + (f p).1 → FrE b c M M' → MS T L b ((S ++ t) ++ List.replicate m notT) W0 k0 (f p).1 M' → wp (GE c fuel' 0 M') Q) → wp (GE c fuel 1 M) Q
def smT (T : Nat → Int) (L b : Nat) (c : Int) (f : Nat → Res) (k : Nat) : Prop := ∀ (W : List Int) (fuel p : Nat) (S : List Tk) (M : Mem) (Q : Int → Mem → Prop), (∀ w, W.head? = some w → w ≠ 33 ∧ w ≠ 38) → 1000 ≤ fuel + p → MS T L b S W k p M →
  ((f p).2 = none → ∀ M', FrE b c M M' → M' 127 10 = ((f p).1 : Int) → Q 0 M') → (∀ t, (f p).2 = some t → ∀ (fuel' : Nat) (M' : Mem) (S' : List Tk) (P : List Int), (P = [] ∨ P = [38]) → S' ++ P.map tkS = S ++ t → 1000 ≤ fuel' + (f p).1 → FrE b c M M' → MS T L b S' (P ++ W) k (f p).1 M' → T (f p).1 ≠ 38 → wp (GE c fuel' 0 M') Q) → wp (GE c fuel 1 M) Q
def smE (T : Nat → Int) (L b : Nat) (c : Int) (f : Nat → Res) (k : Nat) : Prop := ∀ (W : List Int) (fuel p : Nat) (S : List Tk) (M : Mem) (Q : Int → Mem → Prop), (∀ w, W.head? = some w → w ≠ 33 ∧ w ≠ 38 ∧ w ≠ 124) → 1000 ≤ fuel + p → MS T L b S W k p M →
  ((f p).2 = none → ∀ M', FrE b c M M' → M' 127 10 = ((f p).1 : Int) → Q 0 M') → (∀ t, (f p).2 = some t → ∀ (fuel' : Nat) (M' : Mem) (S' : List Tk) (P : List Int), (∀ x ∈ P, x = 38 ∨ x = 124) → S' ++ P.map tkS = S ++ t → 1000 ≤ fuel' + (f p).1 → FrE b c M M' → MS T L b S' (P ++ W) k (f p).1 M' → T (f p).1 ≠ 38 → T (f p).1 ≠ 124 → wp (GE c fuel' 0 M') Q) → wp (GE c fuel 1 M) Q
theorem ge_op {T : Nat → Int} {L b k p fuel : Nat} {c s : Int} {W0 P : List Int} {S : List Tk} {M : Mem} {Q : Int → Mem → Prop} (hb : b ≤ 500) (hT : TxE T L) (hs : s = 38 ∨ s = 124) (ht : T p = s) (hW : ∀ w, W0.head? = some w → w ≠ 38 ∧ (s = 124 → w ≠ 124)) (hP : ∀ x ∈ P, x = 38 ∨ (s = 124 ∧ x = 124)) (h : MS T L b S (P ++ W0) k p M)
    (kk : ∀ M', FrE b c M M' → MS T L b (S ++ P.map tkS) (s :: W0) k (p + 1) M' → wp (GE c fuel 1 M') Q) : wp (GE c (fuel + 1) 0 M) Q := by
  have hL := hT.1
  have l1 := T_lt hT (show T p ≠ -1 by omega)
  have hpl : P.length ≤ 100 := by
    have h1 := h.2.2.2.2.2
    have h2 := h.1.2.2.1
    rw [List.length_append] at h1
    omega
  unfold GE
  rw [f_X8_takesE_22.eq_2, wp_bind]
  refine m_next hT h.1 ?_
  refine wp_t rfl ?_
  have go : wp (f_X8_takesE_122 c (f_X8_takesE_22 c fuel) c s M) Q := by
    unfold f_X8_takesE_122 f_X8_settle
    rw [wp_bind]
    refine m_settle (k := k) (p := p) (c := c) hb hT hs hW P FU S M _ (by rw [FU_e]; omega) hP h ?_
    intro M1 g1 g2
    exact m_push (c := c) (k22 := fun M6 => f_X8_takesE_22 c fuel c 1 M6) hT g2 l1 (fun M2 u1 u2 => kk M2 (FrE_tr g1 u1) u2)
  simp only []
  rw [ht]
  rcases hs with rfl | rfl
  · exact wp_t rfl go
  · exact wp_f (by decide) (wp_t rfl go)
theorem ml_and {T : Nat → Int} {L b k : Nat} {c : Int} {f : Nat → Res} {W : List Int} {S : List Tk} (hb : b ≤ 500) (hT : TxE T L) {H : Nat} (hg : gd f L H) (hF : smF T L b c f k) (hW : ∀ w, W.head? = some w → w ≠ 33 ∧ w ≠ 38) : ∀ (n q fuel : Nat) (a : List Tk) (S' : List Tk) (P : List Int) (M : Mem) (Q : Int → Mem → Prop), 100 ≤ n + q → 1000 ≤ fuel + q → (P = [] ∨ P = [38]) → S' ++ P.map tkS = S ++ a → MS T L b S' (P ++ W) k q M →
    ((lst f T 38 (7, 0, 0) n q a).2 = none → ∀ M', FrE b c M M' → M' 127 10 = ((lst f T 38 (7, 0, 0) n q a).1 : Int) → Q 0 M') → (∀ t, (lst f T 38 (7, 0, 0) n q a).2 = some t → ∀ (fuel' : Nat) (M' : Mem) (S' : List Tk) (P : List Int), (P = [] ∨ P = [38]) → S' ++ P.map tkS = S ++ t → 1000 ≤ fuel' + (lst f T 38 (7, 0, 0) n q a).1 → FrE b c M M' → MS T L b S' (P ++ W) k (lst f T 38 (7, 0, 0) n q a).1 M' → T (lst f T 38 (7, 0, 0) n q a).1 ≠ 38 → wp (GE c fuel' 0 M') Q) → wp (GE c fuel 0 M) Q
  | 0, q, fuel, a, S', P, M, Q, hn, hf, hP, hS, h, k0, k1 => by
    have hL := hT.1
    exact k1 a rfl fuel M S' P hP hS hf (FrE_rfl b c M) h (by
      show T q ≠ 38
      rw [hT.2.1 q (by omega)]
      decide)
  | n + 1, q, fuel, a, S', P, M, Q, hn, hf, hP, hS, h, k0, k1 => by
    have hL := hT.1
    have hqL := h.1.2.2.1
    unfold lst at k0 k1
    by_cases ht : T q = 38
    · rw [if_pos ht] at k0 k1
      have l1 := T_lt hT (show T q ≠ -1 by omega)
      obtain ⟨fu, rfl⟩ : ∃ fu, fuel = fu + 1 := ⟨fuel - 1, by omega⟩
      refine ge_op (W0 := W) hb hT (Or.inl rfl) ht (fun w hw => ⟨(hW w hw).2, fun cc => by omega⟩) ?_ h ?_
      · intro x hx
        rcases hP with rfl | rfl
        · cases hx
        · rw [List.mem_singleton] at hx
          exact Or.inl hx
      · intro M1 g1 g2
        rw [hS] at g2
        have hg1 := hg (q + 1) (by omega)
        refine hF 0 k (38 :: W) fu (q + 1) (S ++ a) M1 Q rfl (fun cc => by cases cc) (by omega) g2 ?_ ?_
        · intro e M2 u1 u2
          rw [thn_n e] at k0
          exact k0 rfl M2 (FrE_tr g1 u1) u2
        · intro t e fuel' M2 u0 u1 u2
          rw [thn_s e] at k0 k1
          have u2 : MS T L b ((S ++ a) ++ t) ([38] ++ W) k (f (q + 1)).1 M2 := by
            rw [show ((S ++ a) ++ t) = (((S ++ a) ++ t) ++ List.replicate 0 notT) from (List.append_nil _).symm]
            exact u2
          refine ml_and (S := S) hb hT hg hF hW n (f (q + 1)).1 fuel' (a ++ (t ++ [(7, 0, 0)])) ((S ++ a) ++ t) [38] M2 Q (by omega) u0 (Or.inr rfl) ?_ u2 ?_ ?_
          · show ((S ++ a) ++ t) ++ [((7, 0, 0) : Tk)] = S ++ (a ++ (t ++ [(7, 0, 0)]))
            rw [List.append_assoc, List.append_assoc]
          · intro e2 M3 w1 w2
            exact k0 e2 M3 (FrE_tr g1 (FrE_tr u1 w1)) w2
          · intro t2 e2 fuel3 M3 S3 P3 y1 y2 y3 w1 w2 w3
            exact k1 t2 e2 fuel3 M3 S3 P3 y1 y2 y3 (FrE_tr g1 (FrE_tr u1 w1)) w2 w3
    · rw [if_neg ht] at k0 k1
      exact k1 a rfl fuel M S' P hP hS hf (FrE_rfl b c M) h ht
theorem sm_T {T : Nat → Int} {L b k H : Nat} {c : Int} {f : Nat → Res} (hb : b ≤ 500) (hT : TxE T L) (hg : gd f L H) (hF : smF T L b c f k) : smT T L b c (pT f T) k := by
  intro W fuel p S M Q hW hf h k0 k1
  have hgp := hg p h.1.2.2.1
  unfold pT at k0 k1
  refine hF 0 k W fuel p S M Q rfl ?_ hf h ?_ ?_
  · intro cc
    exact (hW 33 cc).1 rfl
  · intro e M1 g1 g2
    rw [thn_n e] at k0
    exact k0 rfl M1 g1 g2
  · intro t e fuel' M1 g0 g1 g2
    rw [thn_s e] at k0 k1
    have g2 : MS T L b (S ++ t) ([] ++ W) k (f p).1 M1 := by
      rw [show (S ++ t) = ((S ++ t) ++ List.replicate 0 notT) from (List.append_nil _).symm]
      exact g2
    refine ml_and (S := S) hb hT hg hF hW 100 (f p).1 fuel' t (S ++ t) [] M1 Q (by omega) g0 (Or.inl rfl) (List.append_nil _) g2 ?_ ?_
    · intro e2 M3 w1 w2
      exact k0 e2 M3 (FrE_tr g1 w1) w2
    · intro t2 e2 fuel3 M3 S3 P3 y1 y2 y3 w1 w2 w3
      exact k1 t2 e2 fuel3 M3 S3 P3 y1 y2 y3 (FrE_tr g1 w1) w2 w3
theorem ml_or {T : Nat → Int} {L b k : Nat} {c : Int} {f : Nat → Res} {W : List Int} {S : List Tk} (hb : b ≤ 500) (hT : TxE T L) {H : Nat} (hg : gd f L H) (hF : smT T L b c f k) (hW : ∀ w, W.head? = some w → w ≠ 33 ∧ w ≠ 38 ∧ w ≠ 124) : ∀ (n q fuel : Nat) (a : List Tk) (S' : List Tk) (P : List Int) (M : Mem) (Q : Int → Mem → Prop), 100 ≤ n + q → 1000 ≤ fuel + q → (∀ x ∈ P, x = 38 ∨ x = 124) → S' ++ P.map tkS = S ++ a → MS T L b S' (P ++ W) k q M → T q ≠ 38 →
    ((lst f T 124 (8, 0, 0) n q a).2 = none → ∀ M', FrE b c M M' → M' 127 10 = ((lst f T 124 (8, 0, 0) n q a).1 : Int) → Q 0 M') → (∀ t, (lst f T 124 (8, 0, 0) n q a).2 = some t → ∀ (fuel' : Nat) (M' : Mem) (S' : List Tk) (P : List Int), (∀ x ∈ P, x = 38 ∨ x = 124) → S' ++ P.map tkS = S ++ t → 1000 ≤ fuel' + (lst f T 124 (8, 0, 0) n q a).1 → FrE b c M M' → MS T L b S' (P ++ W) k (lst f T 124 (8, 0, 0) n q a).1 M' → T (lst f T 124 (8, 0, 0) n q a).1 ≠ 38 → T (lst f T 124 (8, 0, 0) n q a).1 ≠ 124 → wp (GE c fuel' 0 M') Q) → wp (GE c fuel 0 M) Q
  | 0, q, fuel, a, S', P, M, Q, hn, hf, hP, hS, h, h38, k0, k1 => by
    have hL := hT.1
    exact k1 a rfl fuel M S' P hP hS hf (FrE_rfl b c M) h h38 (by
      show T q ≠ 124
      rw [hT.2.1 q (by omega)]
      decide)
  | n + 1, q, fuel, a, S', P, M, Q, hn, hf, hP, hS, h, h38, k0, k1 => by
    have hL := hT.1
    have hqL := h.1.2.2.1
    unfold lst at k0 k1
    by_cases ht : T q = 124
    · rw [if_pos ht] at k0 k1
      have l1 := T_lt hT (show T q ≠ -1 by omega)
      obtain ⟨fu, rfl⟩ : ∃ fu, fuel = fu + 1 := ⟨fuel - 1, by omega⟩
      refine ge_op (W0 := W) hb hT (Or.inr rfl) ht (fun w hw => ⟨(hW w hw).2.1, fun _ => (hW w hw).2.2⟩) ?_ h ?_
      · intro x hx
        rcases hP x hx with c2 | c2
        · exact Or.inl c2
        · exact Or.inr ⟨rfl, c2⟩
      · intro M1 g1 g2
        rw [hS] at g2
        have hg1 := hg (q + 1) (by omega)
        refine hF (124 :: W) fu (q + 1) (S ++ a) M1 Q (fun w hw => by cases hw; exact ⟨by decide, by decide⟩) (by omega) g2 ?_ ?_
        · intro e M2 u1 u2
          rw [thn_n e] at k0
          exact k0 rfl M2 (FrE_tr g1 u1) u2
        · intro t e fuel' M2 S2 P2 y1 y2 u0 u1 u2 u3
          rw [thn_s e] at k0 k1
          have u2 : MS T L b S2 ((P2 ++ [124]) ++ W) k (f (q + 1)).1 M2 := by
            rw [List.append_assoc]
            exact u2
          refine ml_or (S := S) hb hT hg hF hW n (f (q + 1)).1 fuel' (a ++ (t ++ [(8, 0, 0)])) S2 (P2 ++ [124]) M2 Q (by omega) u0 ?_ ?_ u2 u3 ?_ ?_
          · intro x hx
            rw [List.mem_append, List.mem_singleton] at hx
            rcases hx with hx | hx
            · rcases y1 with rfl | rfl
              · cases hx
              · rw [List.mem_singleton] at hx
                exact Or.inl hx
            · exact Or.inr hx
          · rw [List.map_append, ← List.append_assoc, y2]
            show ((S ++ a) ++ t) ++ [((8, 0, 0) : Tk)] = S ++ (a ++ (t ++ [(8, 0, 0)]))
            rw [List.append_assoc, List.append_assoc]
          · intro e2 M3 w1 w2
            exact k0 e2 M3 (FrE_tr g1 (FrE_tr u1 w1)) w2
          · intro t2 e2 fuel3 M3 S3 P3 z1 z2 z3 w1 w2 w3 w4
            exact k1 t2 e2 fuel3 M3 S3 P3 z1 z2 z3 (FrE_tr g1 (FrE_tr u1 w1)) w2 w3 w4
    · rw [if_neg ht] at k0 k1
      exact k1 a rfl fuel M S' P hP hS hf (FrE_rfl b c M) h h38 ht
theorem sm_Em {T : Nat → Int} {L b k H : Nat} {c : Int} {f : Nat → Res} (hb : b ≤ 500) (hT : TxE T L) (hg : gd f L H) (hF : smF T L b c f k) : smE T L b c (pE f T) k := by
  intro W fuel p S M Q hW hf h k0 k1
  have hgT := gd_pT hT hg
  have hgp := hgT p h.1.2.2.1
  have hTm := sm_T hb hT hg hF
  unfold pE at k0 k1
  refine hTm W fuel p S M Q (fun w hw => ⟨(hW w hw).1, (hW w hw).2.1⟩) hf h ?_ ?_
  · intro e M1 g1 g2
    rw [thn_n e] at k0
    exact k0 rfl M1 g1 g2
  · intro t e fuel' M1 S2 P2 y1 y2 g0 g1 g2 g3
    rw [thn_s e] at k0 k1
    refine ml_or (S := S) hb hT hgT hTm hW 100 (pT f T p).1 fuel' t S2 P2 M1 Q (by omega) g0 ?_ y2 g2 g3 ?_ ?_
    · intro x hx
      rcases y1 with rfl | rfl
      · cases hx
      · rw [List.mem_singleton] at hx
        exact Or.inl hx
    · intro e2 M3 w1 w2
      exact k0 e2 M3 (FrE_tr g1 w1) w2
    · intro t2 e2 fuel3 M3 S3 P3 z1 z2 z3 w1 w2 w3 w4
      exact k1 t2 e2 fuel3 M3 S3 P3 z1 z2 z3 (FrE_tr g1 w1) w2 w3 w4
/-- the end of an E, on the pile something or nothing -/
theorem ge_end {T : Nat → Int} {L b k p fuel : Nat} {c : Int} {W0 P : List Int} {S : List Tk} {M : Mem} {Q : Int → Mem → Prop} (hb : b ≤ 500) (hc : 0 ≤ c ∧ c < 60) (hT : TxE T L) (h38 : T p ≠ 38) (h124 : T p ≠ 124) (hW : ∀ w, W0.head? = some w → w ≠ 38 ∧ w ≠ 124) (hP : ∀ x ∈ P, x = 38 ∨ x = 124) (h : MS T L b S (P ++ W0) k p M)
    (kk : ∀ M', FrE b c M M' → MS T L b (S ++ P.map tkS) W0 k p M' → M' 138 c = (b : Int) + (S ++ P.map tkS).length → wp (if M' 127 21 = 0 then some (1, M') else if T p = 41 then lt (stM M' 127 21 (w32 ((M' 127 21) - 1))) (fun M12 => lt (stM M12 127 22 (w32 ((M12 127 22) - 1))) (fun M13 => lt (stM M13 127 10 (w32 ((M13 127 10) + 1))) (fun M14 => (f_X8_whole M14).bind (fun q15 => GE c fuel 0 q15.2)))) else some (0, M')) Q) : wp (GE c (fuel + 1) 0 M) Q := by
  have hL := hT.1
  have hpl : P.length ≤ 100 := by
    have h1 := h.2.2.2.2.2
    have h2 := h.1.2.2.1
    rw [List.length_append] at h1
    omega
  unfold GE
  rw [f_X8_takesE_22.eq_2, wp_bind]
  refine m_next hT h.1 ?_
  refine wp_t rfl (wp_f h38 (wp_f h124 ?_))
  unfold f_X8_settle
  rw [wp_bind]
  refine m_settle (k := k) (p := p) (c := c) hb hT (Or.inr rfl) (fun w hw => ⟨(hW w hw).1, fun _ => (hW w hw).2⟩) P FU S M _ (by rw [FU_e]; omega) (fun x hx => by
    rcases hP x hx with c2 | c2
    · exact Or.inl c2
    · exact Or.inr ⟨rfl, c2⟩) h ?_
  intro M1 g1 g2
  refine wp_and hc ?_
  rw [wp_lt]
  simp only []
  obtain ⟨a1, a2, a3, a4, a5, a6⟩ := g2
  have u : ∀ j q : Int, stM M1 138 c (M1 127 20) j q = if j = 138 ∧ q = c then M1 127 20 else M1 j q := fun j q => by rw [st_ap]
  generalize stM M1 138 c (M1 127 20) = M2 at u
  have fr : FrE b c M1 M2 := fun j q x1 x2 x3 x4 => by rw [u, if_neg (by omega)]
  refine kk M2 (FrE_tr g1 fr) ⟨MT_fr a1 fr (by rw [u, if_neg (by omega)]), ⟨by rw [u, if_neg (by omega)]; exact a2.1, fun q hq => by rw [u, if_neg (by omega)]; exact a2.2 q hq⟩, by rw [u, if_neg (by omega)]; exact a3, PW_cg W0 a4 (fun q _ _ => by rw [u, if_neg (by omega)]), by rw [u, if_neg (by omega)]; exact a5, a6⟩ ?_
  rw [u, if_pos ⟨rfl, rfl⟩]
  exact a2.1
theorem sm_Fm {T : Nat → Int} {L b : Nat} {c : Int} (hb : b ≤ 500) (hc : 0 ≤ c ∧ c < 60) (hT : TxE T L) : ∀ (d k : Nat), k + d = 4 → smF T L b c (pF T d) k
  | d, k, hk => by
    intro m k0 W0 fuel p S M Q hkm hW hf h kn ks
    have hL := hT.1
    have hpL := h.1.2.2.1
    obtain ⟨fu, rfl⟩ : ∃ fu, fuel = fu + 1 := ⟨fuel - 1, by omega⟩
    have tt : T p ≠ 33 → T p ≠ 40 → ((tst T p).2 = none → ∀ M', FrE b c M M' → M' 127 10 = ((tst T p).1 : Int) → Q 0 M') → (∀ t, (tst T p).2 = some t → ∀ (fuel' : Nat) (M' : Mem), 1000 ≤ fuel' + (tst T p).1 → FrE b c M M' → MS T L b ((S ++ t) ++ List.replicate m notT) W0 k0 (tst T p).1 M' → wp (GE c fuel' 0 M') Q) → wp (GE c (fu + 1) 1 M) Q := by
      intro h33 h40 kn ks
      unfold GE
      rw [f_X8_takesE_22.eq_2, wp_bind]
      refine m_next hT h.1 ?_
      refine wp_f one_ne (wp_f h33 (wp_f h40 ?_))
      rw [wp_bind]
      rw [← hkm] at h
      refine m_test (c := c) hb hT hW (by omega) h ?_ ?_
      · intro e M1 g1 g2
        refine wp_t rfl ?_
        rw [wp_some]
        exact kn e M1 g1 g2
      · intro t e M1 g1 g2
        refine wp_f one_ne ?_
        have hg := gd_tst hT p hpL
        have hg2 := (hg.2.2 t e)
        have hq : p < (tst T p).1 := by
          have := hg2.1
          have := hg2.2.1
          omega
        exact ks t e fu M1 (by omega) g1 g2
    have opn : ∀ x : Int, (x = 33 ∨ x = 40) → T p = x → (k = 4 → Q 0 M) → (k < 4 → ∀ M', FrE b c M M' → MS T L b S (x :: (List.replicate m 33 ++ W0)) (k + 1) (p + 1) M' → wp (GE c fu 1 M') Q) → wp (GE c (fu + 1) 1 M) Q := by
      intro x hx ht q0 q1
      have l1 := T_lt hT (show T p ≠ -1 by omega)
      unfold GE
      rw [f_X8_takesE_22.eq_2, wp_bind]
      refine m_next hT h.1 ?_
      refine wp_f one_ne ?_
      simp only []
      rw [ht]
      have go : wp (f_X8_takesE_43 c (f_X8_takesE_22 c fu) c 1 x M) Q := m_open hT h l1 q0 q1 (by omega)
      rcases hx with rfl | rfl
      · exact wp_t rfl go
      · exact wp_f (by decide) (wp_t rfl go)
    cases d with
    | zero =>
      have noF : ∀ x : Int, (x = 33 ∨ x = 40) → T p = x → Q 0 M := by
        intro x hx ht
        have e : tst T p = (p, none) := by
          unfold tst
          rw [ht]
          rcases hx with rfl | rfl
          · rfl
          · rfl
        have kn' : (tst T p).2 = none → ∀ M', FrE b c M M' → M' 127 10 = ((tst T p).1 : Int) → Q 0 M' := kn
        rw [e] at kn'
        exact kn' rfl M (FrE_rfl b c M) h.1.2.1
      by_cases h33 : T p = 33
      · exact opn 33 (Or.inl rfl) h33 (fun _ => noF 33 (Or.inl rfl) h33) (fun cc => by omega)
      · by_cases h40 : T p = 40
        · exact opn 40 (Or.inr rfl) h40 (fun _ => noF 40 (Or.inr rfl) h40) (fun cc => by omega)
        · exact tt h33 h40 kn ks
    | succ d =>
      have ih := sm_Fm hb hc hT d (k + 1) (by omega)
      have hgF := gd_pF hT d
      unfold pF at kn ks
      by_cases h33 : T p = 33
      · have l1 := T_lt hT (show T p ≠ -1 by omega)
        rw [if_pos h33] at kn ks
        refine opn 33 (Or.inl rfl) h33 (fun cc => by omega) ?_
        intro _ M1 g1 g2
        have hgp := hgF (p + 1) (by omega)
        refine ih (m + 1) k0 W0 fu (p + 1) S M1 Q (by omega) hW (by omega) g2 ?_ ?_
        · intro e M2 u1 u2
          rw [thn_n e] at kn
          exact kn rfl M2 (FrE_tr g1 u1) u2
        · intro t e fuel' M2 u0 u1 u2
          rw [thn_s e] at ks
          refine ks _ rfl fuel' M2 u0 (FrE_tr g1 u1) ?_
          rw [← rep_s, List.append_assoc S t] at u2
          exact u2
      · rw [if_neg h33] at kn ks
        by_cases h40 : T p = 40
        · have l1 := T_lt hT (show T p ≠ -1 by omega)
          rw [if_pos h40] at kn ks
          refine opn 40 (Or.inr rfl) h40 (fun cc => by omega) ?_
          intro _ M1 g1 g2
          have hE := sm_Em hb hT hgF ih
          have hgp := gd_pE hT hgF (p + 1) (by omega)
          refine hE (40 :: (List.replicate m 33 ++ W0)) fu (p + 1) S M1 Q (fun w hw => by cases hw; exact ⟨by decide, by decide, by decide⟩) (by omega) g2 ?_ ?_
          · intro e M2 u1 u2
            rw [thn_n e] at kn
            exact kn rfl M2 (FrE_tr g1 u1) u2
          · intro t e fuel' M2 S2 P2 y1 y2 u0 u1 u2 u3 u4
            rw [thn_s e] at kn ks
            have hq := (hgp.2.2 t e).1
            obtain ⟨fu2, rfl⟩ : ∃ fu2, fuel' = fu2 + 1 := ⟨fuel' - 1, by omega⟩
            refine ge_end (fuel := fu2) hb hc hT u3 u4 (fun w hw => by cases hw; exact ⟨by decide, by decide⟩) y1 u2 ?_
            intro M3 w1 w2 w3
            rw [y2] at w2
            obtain ⟨a1, a2, a3, a4, a5, a6⟩ := w2
            rw [List.length_cons] at a3 a6
            refine wp_f (by rw [a3]; omega) ?_
            by_cases h41 : T (pE (pF T d) T (p + 1)).1 = 41
            · have l2 := T_lt hT (show T (pE (pF T d) T (p + 1)).1 ≠ -1 by omega)
              rw [if_pos h41] at ks
              refine wp_t h41 ?_
              generalize hWx : List.replicate m (33 : Int) ++ W0 = Wx at a3 a4 a6
              rw [wp_lt, a3, w_id (by omega) (by omega), show ((Wx.length + 1 : Nat) : Int) - 1 = (Wx.length : Int) by omega]
              generalize hA : stM M3 127 21 (Wx.length : Int) = A
              have x22 : A 127 22 = ((k + 1 : Nat) : Int) := by rw [← hA, st_ap, if_neg (by omega), a5]
              rw [wp_lt, x22, w_id (by omega) (by omega), show ((k + 1 : Nat) : Int) - 1 = (k : Int) by omega]
              generalize hB : stM A 127 22 (k : Int) = B
              have x10 : B 127 10 = ((pE (pF T d) T (p + 1)).1 : Int) := by rw [← hB, st_ap, if_neg (by omega), ← hA, st_ap, if_neg (by omega), a1.2.1]
              rw [wp_lt, x10, w_suc (by omega)]
              have u : ∀ j q : Int, stM B 127 10 (((pE (pF T d) T (p + 1)).1 + 1 : Nat) : Int) j q = if j = 127 ∧ q = 10 then (((pE (pF T d) T (p + 1)).1 + 1 : Nat) : Int) else if j = 127 ∧ q = 22 then (k : Int) else if j = 127 ∧ q = 21 then (Wx.length : Int) else M3 j q := fun j q => by rw [st_ap, ← hB, st_ap, ← hA, st_ap]
              generalize stM B 127 10 (((pE (pF T d) T (p + 1)).1 + 1 : Nat) : Int) = D at u
              have fr : FrE b c M3 D := fun j q b1 b2 b3 b4 => by rw [u, if_neg (by omega), if_neg (by omega), if_neg (by omega)]
              unfold f_X8_whole
              rw [wp_bind]
              refine m_whole (p := (pE (pF T d) T (p + 1)).1 + 1) (c := c) hb hT hW m FU k0 (S ++ t) D _ (by rw [FU_e]; omega) (by omega) ?_ ?_
              · rw [hWx, hkm]
                refine ⟨⟨?_, ?_, by omega, fun i hi => ?_⟩, ⟨?_, fun q hq => ?_⟩, ?_, ?_, ?_, by omega⟩
                · rw [u, if_neg (by omega), if_neg (by omega), if_neg (by omega)]; exact a1.1
                · rw [u, if_pos ⟨rfl, rfl⟩]
                · rw [u, if_neg (by omega), if_neg (by omega), if_neg (by omega)]; exact a1.2.2.2 i hi
                · rw [u, if_neg (by omega), if_neg (by omega), if_neg (by omega)]; exact a2.1
                · rw [u, if_neg (by omega), if_neg (by omega), if_neg (by omega)]; exact a2.2 q hq
                · rw [u, if_neg (by omega), if_neg (by omega), if_pos ⟨rfl, rfl⟩]
                · exact PW_cg Wx a4.2 (fun q _ _ => by rw [u, if_neg (by omega), if_neg (by omega), if_neg (by omega)])
                · rw [u, if_neg (by omega), if_pos ⟨rfl, rfl⟩]
              · intro M4 z1 z2
                simp only []
                exact ks t rfl fu2 M4 (by show 1000 ≤ fu2 + ((pE (pF T d) T (p + 1)).1 + 1); omega) (FrE_tr g1 (FrE_tr u1 (FrE_tr w1 (FrE_tr fr z1)))) z2
            · rw [if_neg h41] at kn
              refine wp_f h41 ?_
              rw [wp_some]
              exact kn rfl M3 (FrE_tr g1 (FrE_tr u1 w1)) a1.2.1
        · rw [if_neg h40] at kn ks
          exact tt h33 h40 kn ks
