/-! one clause, in the model and in the class -/
def FrP (b : Nat) (c : Int) (M M' : Mem) : Prop := ∀ j q : Int, j ≠ 140 → (j ≠ 127 ∨ (q ≠ 10 ∧ q ≠ 11 ∧ q ≠ 20 ∧ q ≠ 21 ∧ q ≠ 22)) → (j ≠ 139 ∨ q < b ∨ b + 100 ≤ q) → (j < 137 ∨ 138 < j ∨ q ≠ c) → M' j q = M j q
theorem FrQ_P {b : Nat} {c : Int} {M M' : Mem} (h : FrP b c M M') : FrQ b c M M' := fun j q a1 a2 a3 a4 => h j q a1 a2 a3 (by omega)
def TKm (b : Nat) (S : List Tk) (M : Mem) : Prop := M 127 20 = (b : Int) + S.length ∧ ∀ q : Nat, q < S.length → M 139 ((b : Int) + q) = eT (S.getD q (0, 0, 0))
theorem TKm_fr {b : Nat} {S : List Tk} {M M' : Mem} (h : TKm b S M) (h1 : M' 127 20 = M 127 20) (h2 : M' 139 = M 139) : TKm b S M' := ⟨by rw [h1]; exact h.1, by rw [h2]; exact h.2⟩
theorem m_E {T : Nat → Int} {L b p : Nat} {c : Int} {S : List Tk} {M : Mem} {Q : Int → Mem → Prop} (hb : b ≤ 500) (hc : 0 ≤ c ∧ c < 60) (hT : TxE T L) (h : MT T L p M) (hS : TKm b S M) (hl : S.length ≤ p)
    (k0 : (pE (pF T 4) T p).2 = none → ∀ M', FrP b c M M' → M' 127 10 = ((pE (pF T 4) T p).1 : Int) → Q 0 M') (k1 : ∀ t, (pE (pF T 4) T p).2 = some t → ∀ M', FrP b c M M' → MT T L (pE (pF T 4) T p).1 M' → TKm b (S ++ t) M' → (S ++ t).length ≤ (pE (pF T 4) T p).1 → M' 137 c = (b : Int) + S.length → M' 138 c = (b : Int) + (S ++ t).length → Q 1 M') : wp (f_X8_takesE c M) Q := by
  have hL := hT.1
  have hpL := h.2.2.1
  unfold f_X8_takesE
  rw [wp_lt, wp_lt]
  refine wp_and hc ?_
  rw [wp_lt]
  have e20 : stM (stM M 127 21 0) 127 22 0 127 20 = (b : Int) + S.length := by rw [st_ap, if_neg (by omega), st_ap, if_neg (by omega)]; exact hS.1
  rw [e20]
  have u : ∀ j q : Int, stM (stM (stM M 127 21 0) 127 22 0) 137 c ((b : Int) + S.length) j q = if j = 137 ∧ q = c then (b : Int) + S.length else if j = 127 ∧ q = 22 then 0 else if j = 127 ∧ q = 21 then 0 else M j q := fun j q => by rw [st_ap, st_ap, st_ap]
  generalize stM (stM (stM M 127 21 0) 127 22 0) 137 c ((b : Int) + S.length) = A at u
  have frA : FrP b c M A := fun j q a1 a2 a3 a4 => by rw [u, if_neg (by omega), if_neg (by omega), if_neg (by omega)]
  have hA : MS T L b S [] 0 p A := by
    refine ⟨⟨?_, ?_, h.2.2.1, fun i hi => ?_⟩, ⟨?_, fun q hq => ?_⟩, ?_, trivial, ?_, ?_⟩
    · rw [u, if_neg (by omega), if_neg (by omega), if_neg (by omega)]; exact h.1
    · rw [u, if_neg (by omega), if_neg (by omega), if_neg (by omega)]; exact h.2.1
    · rw [u, if_neg (by omega), if_neg (by omega), if_neg (by omega)]; exact h.2.2.2 i hi
    · rw [u, if_neg (by omega), if_neg (by omega), if_neg (by omega)]; exact hS.1
    · rw [u, if_neg (by omega), if_neg (by omega), if_neg (by omega)]; exact hS.2 q hq
    · rw [u, if_neg (by omega), if_neg (by omega), if_pos ⟨rfl, rfl⟩]; rfl
    · rw [u, if_neg (by omega), if_pos ⟨rfl, rfl⟩]; rfl
    · show S.length + 0 ≤ p
      omega
  have hE := sm_Em (k := 0) hb hT (gd_pF hT 4) (sm_Fm hb hc hT 4 0 rfl)
  have a137 : A 137 c = (b : Int) + S.length := by rw [u, if_pos ⟨rfl, rfl⟩]
  have fEP : ∀ {X Y : Mem}, FrE b c X Y → FrP b c X Y := fun g j q a1 a2 a3 a4 => g j q a1 a2 a3 (by omega)
  refine hE [] FU p S A Q (fun w hw => by cases hw) (by rw [FU_e]; omega) hA ?_ ?_
  · intro e M1 g1 g2
    exact k0 e M1 (fun j q a1 a2 a3 a4 => (fEP g1 j q a1 a2 a3 a4).trans (frA j q a1 a2 a3 a4)) g2
  · intro t e fuel' M1 S2 P2 y1 y2 g0 g1 g2 g3 g4
    have hgp := gd_pE hT (gd_pF hT 4) p hpL
    obtain ⟨fu, rfl⟩ : ∃ fu, fuel' = fu + 1 := ⟨fuel' - 1, by omega⟩
    refine ge_end (fuel := fu) hb hc hT g3 g4 (fun w hw => by cases hw) y1 g2 ?_
    intro M2 w1 w2 w3
    rw [y2] at w2 w3
    obtain ⟨b1, b2, b3, b4, b5, b6⟩ := w2
    refine wp_t b3 ?_
    rw [wp_some]
    refine k1 t e M2 (fun j q a1 a2 a3 a4 => (fEP w1 j q a1 a2 a3 a4).trans ((fEP g1 j q a1 a2 a3 a4).trans (frA j q a1 a2 a3 a4))) b1 b2 (by have b6 : (S ++ t).length + 0 ≤ (pE (pF T 4) T p).1 := b6; omega) ?_ w3
    rw [w1 137 c (by omega) (by omega) (by omega) (by omega), g1 137 c (by omega) (by omega) (by omega) (by omega), a137]
theorem m_clause {T : Nat → Int} {L b p : Nat} {c : Int} {S : List Tk} {M : Mem} {Q : Int → Mem → Prop} (hb : b ≤ 500) (hc : 0 ≤ c ∧ c < 60) (hT : TxE T L) (h : MT T L p M) (hS : TKm b S M) (hl : S.length ≤ p) (h141 : ∀ i : Int, 0 ≤ i → i < 20 → M 141 i = ltr i)
    (k0 : (clz T p).2 = none → ∀ M', FrQ b c M M' → M' 127 10 = ((clz T p).1 : Int) → Q 0 M') (k1 : ∀ x, (clz T p).2 = some x → ∀ M', FrQ b c M M' → MT T L (clz T p).1 M' → TKm b (S ++ x.2.2) M' → (S ++ x.2.2).length ≤ (clz T p).1 → M' 135 c = x.1 → M' 136 c = x.2.1 → (x.1 ≤ 1 → M' 137 c = (b : Int) + S.length ∧ M' 138 c = (b : Int) + (S ++ x.2.2).length) → Q 1 M') : wp (f_X8_takesClause c M) Q := by
  have hr := hdc_r hT h.2.2.1
  have hmr := mc_r T p (wd T p) 4 0
  unfold clz at k0 k1
  unfold f_X8_takesClause
  rw [wp_bind]
  refine m_head (b := b) hT hc h h141 ?_ ?_
  · intro M1 g1 g2 g3
    refine wp_t rfl ?_
    rw [wp_some]
    by_cases c1 : mc T p (wd T p) 4 0 < 4
    · have e : hdc T p = (p + mc T p (wd T p) 4 0, none) := if_pos c1
      rw [e] at k0
      exact k0 rfl M1 g1 (g2 c1)
    · have g3 := g3 (by omega)
      have e : hdc T p = (p + 4, none) := (if_neg c1).trans (if_neg g3.1)
      rw [e] at k0
      exact k0 rfl M1 g1 g3.2
  · intro e4 e32 M1 g1 g1' g2 g3
    have e0 : hdc T p = if (num T (p + 5)).2 < 0 then ((num T (p + 5)).1, none) else ((num T (p + 5)).1, some (wd T p, (num T (p + 5)).2)) := (if_neg (by omega)).trans (if_pos e32)
    refine wp_f one_ne ?_
    rw [wp_bind]
    refine m_num hT g3 ?_ ?_
    · intro n1 n2
      rw [if_pos n1] at e0
      rw [e0] at k0
      refine wp_t rfl ?_
      rw [wp_some]
      exact k0 rfl M1 g1 (by show M1 127 10 = ((num T (p + 5)).1 : Int); rw [n2]; exact g3.2.1)
    · intro n1 M2 u1 u2 u3
      have u1 : F10 M1 M2 := u1
      rw [if_neg (show ¬ (num T (p + 5)).2 < 0 by omega)] at e0
      rw [e0] at k0 k1 hr
      have hr2 := hr.2.2 _ rfl
      simp only [] at k0 k1 hr hr2
      refine wp_f one_ne (wp_and hc ?_)
      simp only []
      rw [wp_lt, u3]
      have v : ∀ j q : Int, stM M2 136 c (num T (p + 5)).2 j q = if j = 136 ∧ q = c then (num T (p + 5)).2 else M2 j q := fun j q => by rw [st_ap]
      generalize stM M2 136 c (num T (p + 5)).2 = A at v
      have frA : FrQ b c M A := fun j q a1 a2 a3 a4 => by rw [v, if_neg (by omega), u1 j q (by omega)]; exact g1 j q a1 a2 a3 a4
      have hA : MT T L (num T (p + 5)).1 A := ⟨by rw [v, if_neg (by omega)]; exact u2.1, by rw [v, if_neg (by omega)]; exact u2.2.1, u2.2.2.1, fun i hi => by rw [v, if_neg (by omega)]; exact u2.2.2.2 i hi⟩
      have aS : TKm b S A := by
        have hx : ∀ j q : Int, (j = 127 ∧ q = 20) ∨ j = 139 → A j q = M j q := fun j q cc => by rw [v, if_neg (by omega), u1 j q (by omega), g1' j q (by omega) (by omega)]
        exact TKm_fr hS (hx 127 20 (by omega)) (fr_j (fun q => hx 139 q (by omega)))
      have a135 : A 135 c = wd T p := by rw [v, if_neg (by omega), u1 135 c (by omega)]; exact g2
      have a136 : A 136 c = (num T (p + 5)).2 := by rw [v, if_pos ⟨rfl, rfl⟩]
      refine wp_and hc ?_
      rw [a135]
      by_cases w2 : 2 ≤ wd T p
      · rw [if_pos w2] at k1
        refine wp_t w2 ?_
        rw [wp_some]
        refine k1 _ rfl A frA hA ?_ ?_ a135 a136 (fun cc => by have cc : wd T p ≤ 1 := cc; omega)
        · rw [show S ++ ([] : List Tk) = S from List.append_nil S]
          exact aS
        · rw [show S ++ ([] : List Tk) = S from List.append_nil S]
          show S.length ≤ (num T (p + 5)).1
          omega
      · rw [if_neg w2] at k0 k1
        refine wp_f w2 ?_
        rw [wp_bind]
        refine m_takes hT hA (by decide) ?_ ?_
        · intro ns
          rw [if_neg ns] at k0
          refine wp_t rfl ?_
          rw [wp_some]
          exact k0 rfl A frA hA.2.1
        · intro ys M3 z1 z2
          rw [if_pos ys] at k0 k1
          refine wp_f one_ne ?_
          rw [wp_bind]
          have s3 : TKm b S M3 := TKm_fr aS (z1 127 20 (by omega)) (fr_j (fun q => z1 139 q (by omega)))
          refine m_E hb hc hT z2 s3 (by omega) ?_ ?_
          · intro e M4 y1 y2
            rw [e] at k0
            refine wp_t rfl ?_
            rw [wp_some]
            exact k0 rfl M4 (FrQ_tr frA (FrQ_tr (FrQ_10 z1) (FrQ_P y1))) y2
          · intro t e M4 y1 y2 y3 y4 y5 y6
            have y1 : FrP b c M3 M4 := y1
            rw [e] at k1
            refine wp_f one_ne ?_
            rw [wp_some]
            refine k1 _ rfl M4 (FrQ_tr frA (FrQ_tr (FrQ_10 z1) (FrQ_P y1))) y2 y3 y4 ?_ ?_ (fun _ => ⟨y5, y6⟩)
            · rw [y1 135 c (by omega) (by omega) (by omega) (by omega), z1 135 c (by omega), a135]
            · rw [y1 136 c (by omega) (by omega) (by omega) (by omega), z1 136 c (by omega), a136]
/-! the class: heads -/
theorem e_char : ∀ i : Fin 20, (and32 (sB 0 (i.val : Int)) 255) % 65536 = ltr (i.val : Int) := by decide
theorem c_char {i : Nat} {M : Mem} {Q : Int → Mem → Prop} (hi : i < 20) (k : Q (ltr (i : Int)) M) : wp (f_J0_charAt_5068e 0 (i : Int) M) Q := by
  have h0 := e_char ⟨i, hi⟩
  simp only [] at h0
  have hr := ltr_r (i : Int)
  have hl : ((sLen.getD 0 0 : Nat) : Int) = 20 := rfl
  unfold f_J0_charAt_5068e f_J0_isLatin1_aae02 f_J1_charAt_3b067 f_J0_checkIndex_df160 f_J3_checkIndex_8e157
  rw [wp_bind, wp_some]
  refine wp_f one_ne ?_
  rw [wp_bind, wp_bind, wp_bind, hl, h0]
  refine wp_f (by omega) (wp_t (by omega) ?_)
  rw [wp_some, wp_some]
  refine wp_and (by omega) (wp_and (by omega) ?_)
  rw [wp_some]
  refine wp_and (by simp only []; omega) ?_
  rw [wp_some]
  exact k
