/-! how a street is read, as a function of the text -/
abbrev Tk : Type := Int × Int × Int
abbrev Res : Type := Nat × Option (List Tk)
def plc (c : Int) : Int := if c = 104 then 1 else if c = 107 then 2 else if c = 108 then 4 else if c = 115 then 0 else if c = 118 then 3 else if c = 121 then 5 else -1
abbrev dg (c : Int) : Prop := 48 ≤ c ∧ c ≤ 57
def num (T : Nat → Int) (p : Nat) : Nat × Int := if dg (T p) then (if dg (T (p + 1)) then (p + 2, 10 * (T p - 48) + (T (p + 1) - 48)) else (p + 1, T p - 48)) else (p, -1)
def tst (T : Nat → Int) (p : Nat) : Res := if plc (T p) < 0 then (p, none) else if 60 ≤ T (p + 1) ∧ T (p + 1) ≤ 62 then (if (num T (p + 2)).2 < 0 then ((num T (p + 2)).1, none) else ((num T (p + 2)).1, some [(plc (T p), T (p + 1) - 61, (num T (p + 2)).2)])) else (p + 1, none)
def thn (r : Res) (g : Nat → List Tk → Res) : Res := match r.2 with
  | none => (r.1, none)
  | some t => g r.1 t
def lst (f : Nat → Res) (T : Nat → Int) (sep : Int) (tk : Tk) : Nat → Nat → List Tk → Res
  | 0, p, a => (p, some a)
  | n + 1, p, a => if T p = sep then thn (f (p + 1)) (fun q t => lst f T sep tk n q (a ++ (t ++ [tk]))) else (p, some a)
def pT (f : Nat → Res) (T : Nat → Int) (p : Nat) : Res := thn (f p) (fun q t => lst f T 38 (7, 0, 0) 100 q t)
def pE (f : Nat → Res) (T : Nat → Int) (p : Nat) : Res := thn (pT f T p) (fun q t => lst (pT f T) T 124 (8, 0, 0) 100 q t)
def pF (T : Nat → Int) : Nat → Nat → Res
  | 0, p => tst T p
  | d + 1, p => if T p = 33 then thn (pF T d (p + 1)) (fun q t => (q, some (t ++ [(6, 0, 0)]))) else if T p = 40 then thn (pE (pF T d) T (p + 1)) (fun q t => if T q = 41 then (q + 1, some t) else (q, none)) else tst T p
theorem thn_n {r : Res} {g : Nat → List Tk → Res} (h : r.2 = none) : thn r g = (r.1, none) := by unfold thn; rw [h]
theorem thn_s {r : Res} {g : Nat → List Tk → Res} {t : List Tk} (h : r.2 = some t) : thn r g = g r.1 t := by unfold thn; rw [h]
/-- the text ends at L -/
def TxE (T : Nat → Int) (L : Nat) : Prop := L ≤ 100 ∧ (∀ p, L ≤ p → T p = -1) ∧ ∀ p, p < L → 0 ≤ T p ∧ T p ≤ 127
def tkO (t : Tk) : Prop := (0 ≤ t.1 ∧ t.1 ≤ 5 ∧ -1 ≤ t.2.1 ∧ t.2.1 ≤ 1 ∧ 0 ≤ t.2.2 ∧ t.2.2 ≤ 99) ∨ t = (6, 0, 0) ∨ t = (7, 0, 0) ∨ t = (8, 0, 0)
def wfL : List Tk → Nat → Nat → Prop
  | [], d, d' => d = d'
  | t :: ts, d, d' => (t.1 = 6 ∧ 1 ≤ d ∧ wfL ts d d') ∨ ((t.1 = 7 ∨ t.1 = 8) ∧ 2 ≤ d ∧ wfL ts (d - 1) d') ∨ (0 ≤ t.1 ∧ t.1 ≤ 5 ∧ d < 28 ∧ wfL ts (d + 1) d')
theorem wfL_app : ∀ (a b : List Tk) (d1 d2 d3 : Nat), wfL a d1 d2 → wfL b d2 d3 → wfL (a ++ b) d1 d3
  | [], b, d1, d2, d3, h, g => by
    have h : d1 = d2 := h
    subst h
    exact g
  | t :: ts, b, d1, d2, d3, h, g => by
    rcases h with ⟨a1, a2, a3⟩ | ⟨a1, a2, a3⟩ | ⟨a1, a2, a3, a4⟩
    · exact Or.inl ⟨a1, a2, wfL_app ts b _ _ _ a3 g⟩
    · exact Or.inr (Or.inl ⟨a1, a2, wfL_app ts b _ _ _ a3 g⟩)
    · exact Or.inr (Or.inr ⟨a1, a2, a3, wfL_app ts b _ _ _ a4 g⟩)
/-- what a reading that went well has read -/
def okR (H : Nat) (p q : Nat) (t : List Tk) : Prop := p + t.length ≤ q ∧ 1 ≤ t.length ∧ (∀ x ∈ t, tkO x) ∧ ∀ d, d + H ≤ 28 → wfL t d (d + 1)
def gd (f : Nat → Res) (L H : Nat) : Prop := ∀ p, p ≤ L → p ≤ (f p).1 ∧ (f p).1 ≤ L ∧ ∀ t, (f p).2 = some t → okR H p (f p).1 t
theorem T_lt {T : Nat → Int} {L p : Nat} (h : TxE T L) (hp : T p ≠ -1) : p < L := by
  rcases Nat.lt_or_ge p L with c | c
  · exact c
  · exact absurd (h.2.1 p c) hp
theorem plc_r (c : Int) : -1 ≤ plc c ∧ plc c ≤ 5 := by
  unfold plc
  split
  · omega
  · split
    · omega
    · split
      · omega
      · split
        · omega
        · split
          · omega
          · split
            · omega
            · omega
theorem plc_m : plc (-1) = -1 := rfl
theorem num_r {T : Nat → Int} {L p : Nat} (h : TxE T L) (hp : p ≤ L) : p ≤ (num T p).1 ∧ (num T p).1 ≤ L ∧ -1 ≤ (num T p).2 ∧ (num T p).2 ≤ 99 ∧ (0 ≤ (num T p).2 → p < (num T p).1) := by
  unfold num
  by_cases h1 : dg (T p)
  · have c1 := h1
    unfold dg at c1
    have l1 := T_lt h (show T p ≠ -1 by omega)
    rw [if_pos h1]
    by_cases h2 : dg (T (p + 1))
    · have c2 := h2
      unfold dg at c2
      have l2 := T_lt h (show T (p + 1) ≠ -1 by omega)
      rw [if_pos h2]
      refine ⟨?_, ?_, ?_, ?_, ?_⟩
      · show p ≤ p + 2; omega
      · show p + 2 ≤ L; omega
      · show -1 ≤ 10 * (T p - 48) + (T (p + 1) - 48); omega
      · show 10 * (T p - 48) + (T (p + 1) - 48) ≤ 99; omega
      · intro _; show p < p + 2; omega
    · rw [if_neg h2]
      refine ⟨?_, ?_, ?_, ?_, ?_⟩
      · show p ≤ p + 1; omega
      · show p + 1 ≤ L; omega
      · show -1 ≤ T p - 48; omega
      · show T p - 48 ≤ 99; omega
      · intro _; show p < p + 1; omega
  · rw [if_neg h1]
    refine ⟨Nat.le_refl _, hp, ?_, ?_, ?_⟩
    · show (-1 : Int) ≤ -1; omega
    · show (-1 : Int) ≤ 99; omega
    · intro c
      have c : (0 : Int) ≤ -1 := c
      omega
theorem gd_tst {T : Nat → Int} {L : Nat} (h : TxE T L) : gd (tst T) L 1 := by
  intro p hp
  unfold tst
  by_cases h1 : plc (T p) < 0
  · rw [if_pos h1]
    exact ⟨Nat.le_refl _, hp, fun t c => by cases c⟩
  · rw [if_neg h1]
    have l1 : p < L := T_lt h (fun c => by rw [c, plc_m] at h1; omega)
    by_cases h2 : 60 ≤ T (p + 1) ∧ T (p + 1) ≤ 62
    · have l2 := T_lt h (show T (p + 1) ≠ -1 by omega)
      rw [if_pos h2]
      obtain ⟨n1, n2, n3, n4, n5⟩ := num_r h (p := p + 2) (by omega)
      have hr := plc_r (T p)
      by_cases h3 : (num T (p + 2)).2 < 0
      · rw [if_pos h3]
        exact ⟨by show p ≤ (num T (p + 2)).1; omega, n2, fun t c => by cases c⟩
      · rw [if_neg h3]
        refine ⟨by show p ≤ (num T (p + 2)).1; omega, n2, fun t c => ?_⟩
        cases c
        refine ⟨by show p + 1 ≤ (num T (p + 2)).1; omega, Nat.le_refl _, fun x hx => ?_, fun d hd => Or.inr (Or.inr ⟨by show 0 ≤ plc (T p); omega, hr.2, by omega, rfl⟩)⟩
        rw [List.mem_singleton] at hx
        subst hx
        exact Or.inl ⟨by show 0 ≤ plc (T p); omega, hr.2, by show -1 ≤ T (p + 1) - 61; omega, by show T (p + 1) - 61 ≤ 1; omega, by show 0 ≤ (num T (p + 2)).2; omega, n4⟩
    · rw [if_neg h2]
      exact ⟨by show p ≤ p + 1; omega, by show p + 1 ≤ L; omega, fun t c => by cases c⟩
theorem gd_lst {f : Nat → Res} {T : Nat → Int} {L H : Nat} {sep : Int} {tk : Tk} (h : TxE T L) (hs : sep ≠ -1) (htk : tkO tk ∧ (tk.1 = 7 ∨ tk.1 = 8)) (hf : gd f L H) : ∀ (n p p0 : Nat) (a : List Tk), p ≤ L → okR (H + 1) p0 p a → p0 ≤ p →
    p ≤ (lst f T sep tk n p a).1 ∧ (lst f T sep tk n p a).1 ≤ L ∧ ∀ t, (lst f T sep tk n p a).2 = some t → okR (H + 1) p0 (lst f T sep tk n p a).1 t
  | 0, p, p0, a, hp, ha, hq => ⟨Nat.le_refl _, hp, fun t c => by cases c; exact ha⟩
  | n + 1, p, p0, a, hp, ha, hq => by
    unfold lst
    by_cases h1 : T p = sep
    · have l1 := T_lt h (show T p ≠ -1 from fun c => hs (h1.symm.trans c))
      rw [if_pos h1]
      obtain ⟨g1, g2, g3⟩ := hf (p + 1) (by omega)
      cases hr : (f (p + 1)).2 with
      | none =>
        rw [thn_n hr]
        exact ⟨by show p ≤ (f (p + 1)).1; omega, g2, fun t c => by cases c⟩
      | some t0 =>
        rw [thn_s hr]
        have g4 := g3 t0 hr
        have ih := gd_lst h hs htk hf n (f (p + 1)).1 p0 (a ++ (t0 ++ [tk])) g2 ⟨by
          have := ha.1
          have := g4.1
          rw [List.length_append, List.length_append]
          show p0 + (a.length + (t0.length + 1)) ≤ _
          omega, by
          have := ha.2.1
          rw [List.length_append]
          omega, fun x hx => by
          rw [List.mem_append, List.mem_append, List.mem_singleton] at hx
          rcases hx with hx | hx | hx
          · exact ha.2.2.1 x hx
          · exact g4.2.2.1 x hx
          · rw [hx]; exact htk.1, fun d hd => wfL_app a _ d (d + 1) (d + 1) (ha.2.2.2 d hd) (wfL_app t0 _ (d + 1) (d + 1 + 1) (d + 1) (g4.2.2.2 (d + 1) (by omega)) (Or.inr (Or.inl ⟨htk.2, by omega, by show d + 1 + 1 - 1 = d + 1; omega⟩)))⟩ (by have := g1; omega)
        exact ⟨by have := ih.1; omega, ih.2.1, ih.2.2⟩
    · rw [if_neg h1]
      exact ⟨Nat.le_refl _, hp, fun t c => by cases c; exact ha⟩
theorem okR_m {H p q : Nat} {t : List Tk} (h : okR H p q t) (H' : Nat) (hH : H ≤ H') : okR H' p q t := ⟨h.1, h.2.1, h.2.2.1, fun d hd => h.2.2.2 d (by omega)⟩
theorem gd_pT {f : Nat → Res} {T : Nat → Int} {L H : Nat} (h : TxE T L) (hf : gd f L H) : gd (pT f T) L (H + 1) := by
  intro p hp
  unfold pT
  obtain ⟨g1, g2, g3⟩ := hf p hp
  cases hr : (f p).2 with
  | none =>
    rw [thn_n hr]
    exact ⟨g1, g2, fun t c => by cases c⟩
  | some t0 =>
    rw [thn_s hr]
    have ih := gd_lst h (sep := 38) (tk := (7, 0, 0)) (by decide) ⟨Or.inr (Or.inr (Or.inl rfl)), Or.inl rfl⟩ hf 100 (f p).1 p t0 g2 (okR_m (g3 t0 hr) _ (by omega)) g1
    exact ⟨by have := ih.1; omega, ih.2.1, ih.2.2⟩
theorem gd_pE {f : Nat → Res} {T : Nat → Int} {L H : Nat} (h : TxE T L) (hf : gd f L H) : gd (pE f T) L (H + 2) := by
  intro p hp
  unfold pE
  have hT := gd_pT h hf
  obtain ⟨g1, g2, g3⟩ := hT p hp
  cases hr : (pT f T p).2 with
  | none =>
    rw [thn_n hr]
    exact ⟨g1, g2, fun t c => by cases c⟩
  | some t0 =>
    rw [thn_s hr]
    have ih := gd_lst h (sep := 124) (tk := (8, 0, 0)) (by decide) ⟨Or.inr (Or.inr (Or.inr rfl)), Or.inr rfl⟩ hT 100 (pT f T p).1 p t0 g2 (okR_m (g3 t0 hr) _ (by omega)) g1
    exact ⟨by have := ih.1; omega, ih.2.1, ih.2.2⟩
theorem gd_pF {T : Nat → Int} {L : Nat} (h : TxE T L) : ∀ d, gd (pF T d) L (2 * d + 1)
  | 0 => gd_tst h
  | d + 1 => by
    have ih := gd_pF h d
    intro p hp
    unfold pF
    by_cases h1 : T p = 33
    · have l1 := T_lt h (show T p ≠ -1 by omega)
      rw [if_pos h1]
      obtain ⟨g1, g2, g3⟩ := ih (p + 1) (by omega)
      cases hr : (pF T d (p + 1)).2 with
      | none =>
        rw [thn_n hr]
        exact ⟨by show p ≤ (pF T d (p + 1)).1; omega, g2, fun t c => by cases c⟩
      | some t0 =>
        rw [thn_s hr]
        have g4 := g3 t0 hr
        refine ⟨by show p ≤ (pF T d (p + 1)).1; omega, g2, fun t c => ?_⟩
        cases c
        refine ⟨?_, ?_, ?_, ?_⟩
        · have := g4.1
          rw [List.length_append]
          show p + (t0.length + 1) ≤ (pF T d (p + 1)).1
          omega
        · have := g4.2.1
          rw [List.length_append]
          omega
        · intro x hx
          rw [List.mem_append, List.mem_singleton] at hx
          rcases hx with hx | hx
          · exact g4.2.2.1 x hx
          · rw [hx]; exact Or.inr (Or.inl rfl)
        · intro e he
          exact wfL_app t0 _ e (e + 1) (e + 1) (g4.2.2.2 e (by omega)) (Or.inl ⟨rfl, by omega, rfl⟩)
    · rw [if_neg h1]
      by_cases h2 : T p = 40
      · have l1 := T_lt h (show T p ≠ -1 by omega)
        rw [if_pos h2]
        have hE := gd_pE h ih
        obtain ⟨g1, g2, g3⟩ := hE (p + 1) (by omega)
        cases hr : (pE (pF T d) T (p + 1)).2 with
        | none =>
          rw [thn_n hr]
          exact ⟨by show p ≤ (pE (pF T d) T (p + 1)).1; omega, g2, fun t c => by cases c⟩
        | some t0 =>
          rw [thn_s hr]
          have g4 := g3 t0 hr
          by_cases h3 : T (pE (pF T d) T (p + 1)).1 = 41
          · have l2 := T_lt h (show T (pE (pF T d) T (p + 1)).1 ≠ -1 by omega)
            rw [if_pos h3]
            refine ⟨by show p ≤ (pE (pF T d) T (p + 1)).1 + 1; omega, by show (pE (pF T d) T (p + 1)).1 + 1 ≤ L; omega, fun t c => ?_⟩
            cases c
            refine ⟨?_, g4.2.1, g4.2.2.1, fun e he => g4.2.2.2 e (by omega)⟩
            have := g4.1
            show p + t0.length ≤ (pE (pF T d) T (p + 1)).1 + 1
            omega
          · rw [if_neg h3]
            exact ⟨by show p ≤ (pE (pF T d) T (p + 1)).1; omega, g2, fun t c => by cases c⟩
      · rw [if_neg h2]
        obtain ⟨g1, g2, g3⟩ := gd_tst h p hp
        exact ⟨g1, g2, fun t c => okR_m (g3 t c) _ (by omega)⟩
