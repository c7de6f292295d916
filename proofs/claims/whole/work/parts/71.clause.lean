/-! clauses: as a function, the model, the class -/
abbrev Cl : Type := Int × Int × List Tk
def wd (T : Nat → Int) (p : Nat) : Int := if T p = 99 then 3 else if T p = 108 then 0 else if T p = 115 then 1 else if T (p + 1) = 101 then 4 else 2
def mc (T : Nat → Int) (p : Nat) (w : Int) : Nat → Nat → Nat
  | 0, j => j
  | m + 1, j => if T (p + j) = ltr (4 * w + j) then mc T p w m (j + 1) else j
theorem mc_r (T : Nat → Int) (p : Nat) (w : Int) : ∀ m j : Nat, j ≤ mc T p w m j ∧ mc T p w m j ≤ j + m
  | 0, j => ⟨Nat.le_refl _, Nat.le_refl _⟩
  | m + 1, j => by
    unfold mc
    have := mc_r T p w m (j + 1)
    split <;> omega
def hdc (T : Nat → Int) (p : Nat) : Nat × Option (Int × Int) := if mc T p (wd T p) 4 0 < 4 then (p + mc T p (wd T p) 4 0, none) else if T (p + 4) = 32 then (if (num T (p + 5)).2 < 0 then ((num T (p + 5)).1, none) else ((num T (p + 5)).1, some (wd T p, (num T (p + 5)).2))) else (p + 4, none)
def clz (T : Nat → Int) (p : Nat) : Nat × Option Cl := match (hdc T p).2 with
  | none => ((hdc T p).1, none)
  | some x => if 2 ≤ x.1 then ((hdc T p).1, some (x.1, x.2, [])) else if T (hdc T p).1 = 32 then (match (pE (pF T 4) T ((hdc T p).1 + 1)).2 with
    | none => ((pE (pF T 4) T ((hdc T p).1 + 1)).1, none)
    | some t => ((pE (pF T 4) T ((hdc T p).1 + 1)).1, some (x.1, x.2, t))) else ((hdc T p).1, none)
theorem wd_r (T : Nat → Int) (p : Nat) : 0 ≤ wd T p ∧ wd T p ≤ 4 := by
  unfold wd
  split
  · omega
  · split
    · omega
    · split
      · omega
      · split
        · omega
        · omega
theorem it_r {c : Prop} [Decidable c] {a b : Int} (h1 : 97 ≤ a ∧ a ≤ 119) (h2 : 97 ≤ b ∧ b ≤ 119) : 97 ≤ (if c then a else b) ∧ (if c then a else b) ≤ 119 := by
  by_cases h : c
  · rw [if_pos h]; exact h1
  · rw [if_neg h]; exact h2
theorem ltr_r (i : Int) : 97 ≤ ltr i ∧ ltr i ≤ 119 := by
  unfold ltr
  repeat refine it_r (by decide) ?_
  decide
theorem mc_L {T : Nat → Int} {L p : Nat} {w : Int} (hT : TxE T L) (hp : p ≤ L) : ∀ m j : Nat, p + j ≤ L → p + mc T p w m j ≤ L
  | 0, j, h => h
  | m + 1, j, h => by
    unfold mc
    by_cases e : T (p + j) = ltr (4 * w + j)
    · rw [if_pos e]
      have := ltr_r (4 * w + j)
      have l1 := T_lt hT (show T (p + j) ≠ -1 by omega)
      exact mc_L hT hp m (j + 1) (by omega)
    · rw [if_neg e]
      exact h
theorem hdc_r {T : Nat → Int} {L p : Nat} (hT : TxE T L) (hp : p ≤ L) : p ≤ (hdc T p).1 ∧ (hdc T p).1 ≤ L ∧ ∀ x, (hdc T p).2 = some x → p + 6 ≤ (hdc T p).1 ∧ 0 ≤ x.1 ∧ x.1 ≤ 4 ∧ 0 ≤ x.2 ∧ x.2 ≤ 99 := by
  have h1 := mc_r T p (wd T p) 4 0
  have h2 := mc_L (w := wd T p) hT hp 4 0 (by omega)
  have hw := wd_r T p
  unfold hdc
  by_cases c1 : mc T p (wd T p) 4 0 < 4
  · rw [if_pos c1]
    exact ⟨by show p ≤ p + _; omega, h2, fun x c => by cases c⟩
  · rw [if_neg c1]
    by_cases c2 : T (p + 4) = 32
    · have l1 := T_lt hT (show T (p + 4) ≠ -1 by omega)
      have hn := num_r hT (p := p + 5) (by omega)
      rw [if_pos c2]
      by_cases c3 : (num T (p + 5)).2 < 0
      · rw [if_pos c3]
        exact ⟨by show p ≤ (num T (p + 5)).1; omega, hn.2.1, fun x c => by cases c⟩
      · rw [if_neg c3]
        refine ⟨by show p ≤ (num T (p + 5)).1; omega, hn.2.1, fun x c => ?_⟩
        cases c
        have := hn.2.2.2.2 (by omega)
        exact ⟨by show p + 6 ≤ (num T (p + 5)).1; omega, hw.1, hw.2, by show 0 ≤ (num T (p + 5)).2; omega, hn.2.2.2.1⟩
    · rw [if_neg c2]
      exact ⟨by show p ≤ p + 4; omega, by show p + 4 ≤ L; omega, fun x c => by cases c⟩
/-- what a clause, read, is -/
def okC (x : Cl) : Prop := (0 ≤ x.1 ∧ x.1 ≤ 4) ∧ (0 ≤ x.2.1 ∧ x.2.1 ≤ 99) ∧ (2 ≤ x.1 → x.2.2 = []) ∧ (x.1 ≤ 1 → (∀ t ∈ x.2.2, tkO t) ∧ wfL x.2.2 0 1)
theorem clz_r {T : Nat → Int} {L p : Nat} (hT : TxE T L) (hp : p ≤ L) : p ≤ (clz T p).1 ∧ (clz T p).1 ≤ L ∧ ∀ x, (clz T p).2 = some x → p + x.2.2.length + 1 ≤ (clz T p).1 ∧ okC x := by
  obtain ⟨h1, h2, h3⟩ := hdc_r hT hp
  unfold clz
  cases e : (hdc T p).2 with
  | none => exact ⟨h1, h2, fun x c => by cases c⟩
  | some y =>
    obtain ⟨y1, y2, y3, y4, y5⟩ := h3 y e
    simp only []
    by_cases c1 : 2 ≤ y.1
    · rw [if_pos c1]
      refine ⟨h1, h2, fun x c => ?_⟩
      cases c
      exact ⟨by show p + 0 + 1 ≤ (hdc T p).1; omega, ⟨y2, y3⟩, ⟨y4, y5⟩, fun _ => rfl, fun cc => by have cc : y.1 ≤ 1 := cc; omega⟩
    · rw [if_neg c1]
      by_cases c2 : T (hdc T p).1 = 32
      · rw [if_pos c2]
        have l1 := T_lt hT (show T (hdc T p).1 ≠ -1 by omega)
        have hg := gd_pE hT (gd_pF hT 4) ((hdc T p).1 + 1) (by omega)
        cases e2 : (pE (pF T 4) T ((hdc T p).1 + 1)).2 with
        | none => exact ⟨by show p ≤ (pE (pF T 4) T ((hdc T p).1 + 1)).1; omega, hg.2.1, fun x c => by cases c⟩
        | some t =>
          have hg2 := hg.2.2 t e2
          refine ⟨by show p ≤ (pE (pF T 4) T ((hdc T p).1 + 1)).1; omega, hg.2.1, fun x c => ?_⟩
          cases c
          have := hg2.1
          exact ⟨by show p + t.length + 1 ≤ (pE (pF T 4) T ((hdc T p).1 + 1)).1; omega, ⟨y2, y3⟩, ⟨y4, y5⟩, fun cc => absurd cc c1, fun _ => ⟨hg2.2.2.1, hg2.2.2.2 0 (by decide)⟩⟩
      · rw [if_neg c2]
        exact ⟨h1, h2, fun x c => by cases c⟩
/-! the model -/
def FrQ (b : Nat) (c : Int) (M M' : Mem) : Prop := ∀ j q : Int, j ≠ 140 → (j ≠ 127 ∨ (q ≠ 10 ∧ q ≠ 11 ∧ q ≠ 20 ∧ q ≠ 21 ∧ q ≠ 22)) → (j ≠ 139 ∨ q < b ∨ b + 100 ≤ q) → (j < 135 ∨ 138 < j ∨ q ≠ c) → M' j q = M j q
theorem FrQ_rfl (b : Nat) (c : Int) (M : Mem) : FrQ b c M M := fun _ _ _ _ _ _ => rfl
theorem FrQ_tr {b : Nat} {c : Int} {M M1 M2 : Mem} (h : FrQ b c M M1) (g : FrQ b c M1 M2) : FrQ b c M M2 := fun j q a1 a2 a3 a4 => (g j q a1 a2 a3 a4).trans (h j q a1 a2 a3 a4)
theorem FrQ_10 {b : Nat} {c : Int} {M M' : Mem} (h : F10 M M') : FrQ b c M M' := fun j q _ a2 _ _ => h j q (by omega)
theorem FrQ_E {b : Nat} {c : Int} {M M' : Mem} (h : FrE b c M M') : FrQ b c M M' := fun j q a1 a2 a3 a4 => h j q a1 a2 a3 (by omega)
theorem m_takes {T : Nat → Int} {L p : Nat} {x : Int} {M : Mem} {Q : Int → Mem → Prop} (hT : TxE T L) (h : MT T L p M) (hx : x ≠ -1) (k0 : T p ≠ x → Q 0 M) (k1 : T p = x → ∀ M', F10 M M' → MT T L (p + 1) M' → Q 1 M') : wp (f_X8_takes x M) Q := by
  have hL := hT.1
  unfold f_X8_takes
  rw [wp_bind]
  refine m_next hT h ?_
  by_cases e : T p = x
  · have l1 := T_lt hT (show T p ≠ -1 by omega)
    refine wp_t e ?_
    rw [wp_lt, wp_some]
    simp only []
    rw [h.2.1, w_suc (by omega)]
    have f : F10 M (stM M 127 10 ((p + 1 : Nat) : Int)) := fun j q c => by rw [st_ap, if_neg (by omega)]
    exact k1 e _ f (MT_10 h f (by rw [st_ap, if_pos ⟨rfl, rfl⟩]) (by omega))
  · refine wp_f e ?_
    rw [wp_some]
    exact k0 e
theorem m_word {T : Nat → Int} {L p : Nat} {w : Int} {M : Mem} {Q : Int → Mem → Prop} (hT : TxE T L) (hw : 0 ≤ w ∧ w ≤ 4) (h : MT T L p M) (hl : ∀ i : Int, 0 ≤ i → i < 20 → M 141 i = ltr i)
    (k0 : ∀ M', F10 M M' → (mc T p w 4 0 < 4 → M' 127 10 = ((p + mc T p w 4 0 : Nat) : Int)) → (mc T p w 4 0 = 4 → T (p + 4) ≠ 32 ∧ M' 127 10 = ((p + 4 : Nat) : Int)) → Q 0 M') (k1 : mc T p w 4 0 = 4 → T (p + 4) = 32 → ∀ M', F10 M M' → MT T L (p + 5) M' → Q 1 M') : wp (f_X8_takesWord (4 * w) 4 M) Q := by
  have hm := mc_r T p w 4 0
  unfold f_X8_takesWord
  generalize hN : mc T p w 4 0 = N at k0 k1 hm
  refine wloop0 (St := Unit) (L := fun fuel x st M' => f_X8_takesWord_2 (4 * w) 4 fuel (4 * w) 4 x M') 4 (Inv := fun i st M' => F10 M M' ∧ MT T L (p + i) M' ∧ mc T p w (4 - i) i = N) (by omega) ?_ ?_ (st := ()) ⟨F10_rfl M, h, hN⟩
  · intro i fuel st M1 hi ⟨g1, g2, g3⟩ kk
    show wp (f_X8_takesWord_2 (4 * w) 4 (fuel + 1) (4 * w) 4 (i : Int) M1) _
    rw [f_X8_takesWord_2.eq_2, w_id (by omega) (by omega)]
    refine wp_f (by omega) (wp_and (by omega) ?_)
    rw [show 4 - i = (4 - (i + 1)) + 1 by omega] at g3
    unfold mc at g3
    have hl' : M1 141 (4 * w + (i : Int)) = ltr (4 * w + (i : Int)) := by rw [g1 141 _ (by omega)]; exact hl _ (by omega) (by omega)
    have hlr := ltr_r (4 * w + (i : Int))
    rw [hl', wp_bind]
    refine m_takes hT g2 (by omega) ?_ ?_
    · intro e
      rw [if_neg e] at g3
      refine wp_t rfl ?_
      rw [wp_some]
      exact k0 M1 g1 (fun _ => by rw [← g3]; exact g2.2.1) (fun c => by omega)
    · intro e M2 u1 u2
      rw [if_pos e] at g3
      refine wp_f one_ne ?_
      rw [w_suc (by omega)]
      exact kk () M2 ⟨F10_tr g1 u1, u2, g3⟩
  · intro fuel st M1 ⟨g1, g2, g3⟩
    show wp (f_X8_takesWord_2 (4 * w) 4 (fuel + 1) (4 * w) 4 ((4 : Nat) : Int) M1) _
    rw [f_X8_takesWord_2.eq_2]
    rw [Nat.sub_self] at g3
    have g3 : 4 = N := g3
    refine wp_t (by decide) ?_
    rw [wp_bind]
    refine m_takes hT g2 (by decide) ?_ ?_
    · intro e
      rw [wp_some]
      exact k0 M1 g1 (fun c => by omega) (fun _ => ⟨e, g2.2.1⟩)
    · intro e M2 u1 u2
      rw [wp_some]
      exact k1 g3.symm e M2 (F10_tr g1 u1) u2
theorem m_second {T : Nat → Int} {L p : Nat} {M : Mem} {Q : Int → Mem → Prop} (hT : TxE T L) (h : MT T L p M) (k : Q (T (p + 1)) M) : wp (f_X8_second M) Q := by
  obtain ⟨h1, h2, h3, h4⟩ := h
  have hL := hT.1
  unfold f_X8_second
  rw [h1, h2, w_suc (by omega)]
  by_cases hp : (L : Int) ≤ ((p + 1 : Nat) : Int)
  · rw [hT.2.1 (p + 1) (by omega)] at k
    refine wp_t hp ?_
    rw [wp_some]
    exact k
  · refine wp_f hp (wp_and (by omega) ?_)
    rw [wp_some, h4 (p + 1) (by omega)]
    exact k
theorem m_head {T : Nat → Int} {L p b : Nat} {c : Int} {M : Mem} {Q : Int → Mem → Prop} (hT : TxE T L) (hc : 0 ≤ c ∧ c < 60) (h : MT T L p M) (hl : ∀ i : Int, 0 ≤ i → i < 20 → M 141 i = ltr i)
    (k0 : ∀ M', FrQ b c M M' → (mc T p (wd T p) 4 0 < 4 → M' 127 10 = ((p + mc T p (wd T p) 4 0 : Nat) : Int)) → (mc T p (wd T p) 4 0 = 4 → T (p + 4) ≠ 32 ∧ M' 127 10 = ((p + 4 : Nat) : Int)) → Q 0 M') (k1 : mc T p (wd T p) 4 0 = 4 → T (p + 4) = 32 → ∀ M', FrQ b c M M' → (∀ j q : Int, (j ≠ 127 ∨ (q ≠ 10 ∧ q ≠ 11)) → (j ≠ 135 ∨ q ≠ c) → M' j q = M j q) → M' 135 c = wd T p → MT T L (p + 5) M' → Q 1 M') : wp (f_X8_takesHead c M) Q := by
  have hwr := wd_r T p
  have st : ∀ (w : Int), w = wd T p → wp (f_X8_takesWord (4 * w) 4 (stM M 135 c w)) Q := by
    intro w hw
    have f0 : ∀ j q : Int, (j ≠ 135 ∨ q ≠ c) → stM M 135 c w j q = M j q := fun j q cc => by rw [st_ap, if_neg (by omega)]
    have e0 : stM M 135 c w 135 c = w := by rw [st_ap, if_pos ⟨rfl, rfl⟩]
    generalize stM M 135 c w = A at f0 e0
    have fA : FrQ b c M A := fun j q a1 a2 a3 a4 => f0 j q (by omega)
    have hA : MT T L p A := ⟨by rw [f0 127 9 (by omega)]; exact h.1, by rw [f0 127 10 (by omega)]; exact h.2.1, h.2.2.1, fun i hi => by rw [f0 133 _ (by omega)]; exact h.2.2.2 i hi⟩
    rw [← hw] at k0 k1 hwr
    refine m_word hT hwr hA (fun i i0 i1 => by rw [f0 141 i (by omega)]; exact hl i i0 i1) ?_ ?_
    · intro M1 g1 g2 g3
      exact k0 M1 (FrQ_tr fA (FrQ_10 g1)) g2 g3
    · intro e1 e2 M1 g1 g2
      exact k1 e1 e2 M1 (FrQ_tr fA (FrQ_10 g1)) (fun j q a1 a2 => (g1 j q a1).trans (f0 j q a2)) (by rw [g1 135 c (by omega)]; exact e0) g2
  unfold f_X8_takesHead
  rw [wp_bind]
  refine m_next hT h ?_
  unfold wd at st
  by_cases c1 : T p = 99
  · rw [if_pos c1] at st
    refine wp_t c1 (wp_and hc ?_)
    rw [wp_lt, wp_bind]
    refine wp_mono (st 3 rfl) ?_
    intro v M1 hq
    rw [wp_some]
    exact hq
  rw [if_neg c1] at st
  refine wp_f c1 ?_
  by_cases c2 : T p = 108
  · rw [if_pos c2] at st
    refine wp_t c2 (wp_and hc ?_)
    rw [wp_lt, wp_bind]
    refine wp_mono (st 0 rfl) ?_
    intro v M1 hq
    rw [wp_some]
    exact hq
  rw [if_neg c2] at st
  refine wp_f c2 ?_
  by_cases c3 : T p = 115
  · rw [if_pos c3] at st
    refine wp_t c3 (wp_and hc ?_)
    rw [wp_lt, wp_bind]
    refine wp_mono (st 1 rfl) ?_
    intro v M1 hq
    rw [wp_some]
    exact hq
  rw [if_neg c3] at st
  refine wp_f c3 ?_
  rw [wp_bind]
  refine m_second hT h ?_
  unfold f_X8_takesHead_102
  by_cases c4 : T (p + 1) = 101
  · rw [if_pos c4] at st
    refine wp_t c4 (wp_and hc ?_)
    rw [wp_lt]
    refine wp_and hc (wp_t (by rw [st_ap, if_pos ⟨rfl, rfl⟩]) ?_)
    rw [wp_bind]
    refine wp_mono (st 4 rfl) ?_
    intro v M1 hq
    rw [wp_some]
    exact hq
  · rw [if_neg c4] at st
    refine wp_f c4 (wp_and hc ?_)
    rw [wp_lt]
    refine wp_and hc (wp_f (by rw [st_ap, if_pos ⟨rfl, rfl⟩]; decide) ?_)
    rw [wp_bind]
    refine wp_mono (st 2 rfl) ?_
    intro v M1 hq
    rw [wp_some]
    exact hq
