/-! what clauses mean, in both -/
def evT (Lf : Int → Int) : List Tk → List Bool → List Bool
  | [], st => st
  | t :: ts, st => evT Lf ts (tk t.1 t.2.1 t.2.2 Lf st)
def gP (Lf : Int → Int) : List Cl → Int
  | [] => 0
  | x :: xs => (if x.1 ≤ 1 ∧ hdB (evT Lf x.2.2 []) = true then sgC x else 0) + gP Lf xs
theorem ev_T {op od nu Lf : Int → Int} : ∀ (ts : List Tk) (i : Int) (st : List Bool), (∀ q : Nat, q < ts.length → ∀ st, tk (op (i + q)) (od (i + q)) (nu (i + q)) Lf st = tk (ts.getD q (0, 0, 0)).1 (ts.getD q (0, 0, 0)).2.1 (ts.getD q (0, 0, 0)).2.2 Lf st) → ev op od nu Lf ts.length i st = evT Lf ts st
  | [], _, _, _ => rfl
  | t :: ts, i, st, h => by
    have h0 := h 0 (by rw [List.length_cons]; omega) st
    rw [show i + ((0 : Nat) : Int) = i by omega] at h0
    show ev op od nu Lf ts.length (i + 1) (tk (op i) (od i) (nu i) Lf st) = evT Lf ts (tk t.1 t.2.1 t.2.2 Lf st)
    rw [h0]
    refine ev_T ts (i + 1) _ (fun q hq st => ?_)
    have := h (q + 1) (by rw [List.length_cons]; omega) st
    rw [show i + ((q + 1 : Nat) : Int) = i + 1 + (q : Int) by omega] at this
    exact this
theorem wfE_L {op : Int → Int} : ∀ (ts : List Tk) (i : Int) (d : Nat), (∀ q : Nat, q < ts.length → op (i + q) = (ts.getD q (0, 0, 0)).1) → wfL ts d 1 → wfE op ts.length i d
  | [], _, d, _, h => h
  | t :: ts, i, d, h, g => by
    have h0 := h 0 (by rw [List.length_cons]; omega)
    rw [show i + ((0 : Nat) : Int) = i by omega] at h0
    have h0 : op i = t.1 := h0
    have ih := fun d g => wfE_L (op := op) ts (i + 1) d (fun q hq => by
      have := h (q + 1) (by rw [List.length_cons]; omega)
      rw [show i + ((q + 1 : Nat) : Int) = i + 1 + (q : Int) by omega] at this
      exact this) g
    rcases g with ⟨a1, a2, a3⟩ | ⟨a1, a2, a3⟩ | ⟨a1, a2, a3, a4⟩
    · exact Or.inl ⟨h0.trans a1, a2, ih _ a3⟩
    · exact Or.inr (Or.inl ⟨by rw [h0]; exact a1, a2, ih _ a3⟩)
    · exact Or.inr (Or.inr ⟨by rw [h0]; exact a1, by rw [h0]; exact a2, a3, ih _ a4⟩)
theorem getT_l (a b : List Tk) (q : Nat) (h : q < a.length) : (a ++ b).getD q (0, 0, 0) = a.getD q (0, 0, 0) := by
  rw [List.getD_eq_getElem?_getD, List.getD_eq_getElem?_getD, List.getElem?_append_left h]
theorem getT_r (a b : List Tk) (q : Nat) : (a ++ b).getD (a.length + q) (0, 0, 0) = b.getD q (0, 0, 0) := by
  rw [List.getD_eq_getElem?_getD, List.getD_eq_getElem?_getD, List.getElem?_append_right (by omega), show a.length + q - a.length = q by omega]
theorem getT_m (a : List Tk) (q : Nat) (h : q < a.length) : a.getD q (0, 0, 0) ∈ a := by
  rw [List.getD_eq_getElem?_getD, List.getElem?_eq_getElem h]
  exact List.getElem_mem h
theorem eT_d {t : Tk} (h : tkO t) : opM (eT t) = t.1 ∧ (t.1 ≤ 5 → odM (eT t) = t.2.1 ∧ nuM (eT t) = t.2.2) ∧ (0 ≤ eT t → eT t < 6000 ∧ 0 ≤ odM (eT t) + 1 ∧ odM (eT t) ≤ 1) := by
  rcases h with ⟨h1, h2, h3, h4, h5, h6⟩ | rfl | rfl | rfl
  · have e : eT t = 1000 * t.1 + 100 * (t.2.1 + 1) + t.2.2 := by
      unfold eT
      rw [if_neg (by omega), if_neg (by omega), if_neg (by omega)]
    rw [e]
    have hn : (0 : Int) ≤ 1000 * t.1 + 100 * (t.2.1 + 1) + t.2.2 := by omega
    have d1 : Int.tdiv (1000 * t.1 + 100 * (t.2.1 + 1) + t.2.2) 1000 = t.1 := by
      rw [Int.tdiv_eq_ediv_of_nonneg hn]; omega
    have d2 : Int.tdiv (1000 * t.1 + 100 * (t.2.1 + 1) + t.2.2) 100 = 10 * t.1 + (t.2.1 + 1) := by
      rw [Int.tdiv_eq_ediv_of_nonneg hn]; omega
    have d3 : Int.tmod (10 * t.1 + (t.2.1 + 1)) 10 = t.2.1 + 1 := by
      rw [Int.tmod_eq_emod_of_nonneg (by omega)]; omega
    have d4 : Int.tmod (1000 * t.1 + 100 * (t.2.1 + 1) + t.2.2) 100 = t.2.2 := by
      rw [Int.tmod_eq_emod_of_nonneg hn]; omega
    unfold opM odM nuM
    rw [if_neg (by omega), if_neg (by omega), if_neg (by omega), d1, d2, d3, d4]
    exact ⟨rfl, fun _ => ⟨by omega, rfl⟩, fun _ => ⟨by omega, by omega, by omega⟩⟩
  · exact ⟨rfl, fun c => absurd c (by decide), fun c => absurd c (by decide)⟩
  · exact ⟨rfl, fun c => absurd c (by decide), fun c => absurd c (by decide)⟩
  · exact ⟨rfl, fun c => absurd c (by decide), fun c => absurd c (by decide)⟩
theorem tk_e {t : Tk} {Lf : Int → Int} {st : List Bool} (h : tkO t) : tk (opM (eT t)) (odM (eT t)) (nuM (eT t)) Lf st = tk t.1 t.2.1 t.2.2 Lf st := by
  obtain ⟨h1, h2, _⟩ := eT_d h
  rw [h1]
  by_cases h5 : t.1 ≤ 5
  · rw [(h2 h5).1, (h2 h5).2]
  · rcases h with ⟨_, a, _⟩ | rfl | rfl | rfl
    · exact absurd a h5
    · rfl
    · rfl
    · rfl
/-! the class -/
def TC (r : Int) (S : List Tk) (o : Nat) (M : Mem) : Prop := ∀ q : Nat, q < S.length → M (r + 3) ((o + q : Nat) : Int) = (S.getD q (0, 0, 0)).1 ∧ M (r + 4) ((o + q : Nat) : Int) = (S.getD q (0, 0, 0)).2.1 ∧ M (r + 5) ((o + q : Nat) : Int) = (S.getD q (0, 0, 0)).2.2
theorem TC_l {r : Int} {a b : List Tk} {o : Nat} {M : Mem} (h : TC r (a ++ b) o M) : TC r a o M ∧ TC r b (o + a.length) M := by
  refine ⟨fun q hq => ?_, fun q hq => ?_⟩
  · have := h q (by rw [List.length_append]; omega)
    rw [getT_l a b q hq] at this
    exact this
  · have := h (a.length + q) (by rw [List.length_append]; omega)
    rw [getT_r a b q, ← Nat.add_assoc] at this
    exact this
theorem gC_l {r : Int} {Lf : Int → Int} {M : Mem} : ∀ (l : List Cl) (c o : Nat), KC r l c o M → TC r (toksOf l) o M → (∀ x ∈ l, x.1 ≤ 1) → gC M r Lf (c + l.length) = gC M r Lf c + gP Lf l
  | [], c, o, _, _, _ => by
    show gC M r Lf c = gC M r Lf c + 0
    omega
  | x :: xs, c, o, h, g, hx => by
    obtain ⟨h1, h2, h3, h4⟩ := h
    obtain ⟨g1, g2⟩ := TC_l (a := x.2.2) (b := toksOf xs) g
    have ih := gC_l (Lf := Lf) xs (c + 1) (o + x.2.2.length) h4 g2 (fun y hy => hx y (List.mem_cons_of_mem _ hy))
    have hh : hC M r Lf (c : Int) = hdB (evT Lf x.2.2 []) := by
      unfold hC
      rw [show (c : Int) + 1 = ((c + 1 : Nat) : Int) by omega, h2, h3, show (((o + x.2.2.length : Nat) : Int) - (o : Int)).toNat = x.2.2.length by omega, ev_T x.2.2 (o : Int) [] (fun q hq st => by
        have := g1 q hq
        rw [show ((o + q : Nat) : Int) = (o : Int) + (q : Int) by omega] at this
        rw [this.1, this.2.1, this.2.2])]
    rw [List.length_cons, show c + (xs.length + 1) = c + 1 + xs.length by omega, ih]
    show gC M r Lf c + (if hC M r Lf (c : Int) = true then M (r + 1) (c : Int) else 0) + gP Lf xs = gC M r Lf c + ((if x.1 ≤ 1 ∧ hdB (evT Lf x.2.2 []) = true then sgC x else 0) + gP Lf xs)
    rw [hh, h1]
    have hx1 := hx x (List.mem_cons_self)
    by_cases hb : hdB (evT Lf x.2.2 []) = true
    · rw [if_pos hb, if_pos ⟨hx1, hb⟩]; omega
    · rw [if_neg hb, if_neg (fun c => hb c.2)]; omega
theorem KC_w {r : Int} {M : Mem} : ∀ (l : List Cl) (c o : Nat), KC r l c o M → TC r (toksOf l) o M → (∀ x ∈ l, okC x ∧ x.1 ≤ 1) → o + (toksOf l).length ≤ 100 → ∀ i : Int, (c : Int) ≤ i → i < (c : Int) + l.length → -99 ≤ M (r + 1) i ∧ M (r + 1) i ≤ 99 ∧ 0 ≤ M (r + 2) i ∧ M (r + 2) i ≤ M (r + 2) (i + 1) ∧ M (r + 2) (i + 1) ≤ 100 ∧ wfE (M (r + 3)) (M (r + 2) (i + 1) - M (r + 2) i).toNat (M (r + 2) i) 0
  | [], c, o, _, _, _, _, i, h1, h2 => by
    have h2 : i < (c : Int) + ((0 : Nat) : Int) := h2
    omega
  | x :: xs, c, o, h, g, hx, ho, i, i1, i2 => by
    obtain ⟨h1, h2, h3, h4⟩ := h
    obtain ⟨g1, g2⟩ := TC_l (a := x.2.2) (b := toksOf xs) g
    have ho' : o + (x.2.2 ++ toksOf xs).length ≤ 100 := ho
    rw [List.length_append] at ho'
    rw [List.length_cons] at i2
    obtain ⟨hk, hk1⟩ := hx x (List.mem_cons_self)
    by_cases hi : i = (c : Int)
    · subst hi
      rw [show (c : Int) + 1 = ((c + 1 : Nat) : Int) by omega, h1, h2, h3]
      have hs : -99 ≤ sgC x ∧ sgC x ≤ 99 := by
        have := hk.2.1
        unfold sgC
        split <;> omega
      refine ⟨hs.1, hs.2, by omega, by omega, by omega, ?_⟩
      rw [show (((o + x.2.2.length : Nat) : Int) - (o : Int)).toNat = x.2.2.length by omega]
      refine wfE_L x.2.2 (o : Int) 0 (fun q hq => ?_) (hk.2.2.2 hk1).2
      have := (g1 q hq).1
      rw [show ((o + q : Nat) : Int) = (o : Int) + (q : Int) by omega] at this
      exact this
    · exact KC_w xs (c + 1) (o + x.2.2.length) h4 g2 (fun y hy => hx y (List.mem_cons_of_mem _ hy)) (by omega) i (by omega) (by omega)
theorem lcs_m {a : List Cl} {x : Cl} (h : x ∈ lcs a) : x ∈ a ∧ x.1 ≤ 1 := by
  unfold lcs at h
  rw [List.mem_filter] at h
  exact ⟨h.1, of_decide_eq_true h.2⟩
theorem gP_lcs {Lf : Int → Int} : ∀ a : List Cl, gP Lf (lcs a) = gP Lf a
  | [] => rfl
  | x :: xs => by
    have ih := gP_lcs (Lf := Lf) xs
    have e : lcs (x :: xs) = lcs [x] ++ lcs xs := lcs_app [x] xs
    rw [e]
    by_cases h : x.1 ≤ 1
    · rw [lcs_t h]
      show (if x.1 ≤ 1 ∧ hdB (evT Lf x.2.2 []) = true then sgC x else 0) + gP Lf (lcs xs) = _
      rw [ih]
      rfl
    · rw [lcs_f h]
      show gP Lf (lcs xs) = (if x.1 ≤ 1 ∧ hdB (evT Lf x.2.2 []) = true then sgC x else 0) + gP Lf xs
      rw [ih, if_neg (fun c => h c.1)]
      omega
def vS (a : List Cl) : (Int → Int) × ((Int → Int) → Int) := (fun q => if q = 0 then lsW a 2 6 else if q = 1 then lsW a 3 10 else if q = 2 then lsW a 4 1 else 0, fun Lf => gP Lf a)
theorem gP_r {Lf : Int → Int} : ∀ a : List Cl, (∀ x ∈ a, okC x) → -99 * (a.length : Int) ≤ gP Lf a ∧ gP Lf a ≤ 99 * (a.length : Int)
  | [], _ => by unfold gP; rw [List.length_nil]; omega
  | x :: xs, h => by
    have ih := gP_r (Lf := Lf) xs (fun y hy => h y (List.mem_cons_of_mem _ hy))
    have hx := (h x (List.mem_cons_self)).2.1
    have hs : -99 ≤ sgC x ∧ sgC x ≤ 99 := by
      unfold sgC
      split <;> omega
    unfold gP
    rw [List.length_cons]
    split <;> omega
theorem lsW_r {w : Int} : ∀ (a : List Cl) (d : Int), (∀ x ∈ a, okC x) → 0 ≤ d ∧ d ≤ 99 → 0 ≤ lsW a w d ∧ lsW a w d ≤ 99
  | [], d, _, hd => hd
  | x :: xs, d, h, hd => by
    have hx := (h x (List.mem_cons_self)).2.1
    show 0 ≤ lsW xs w (if x.1 = w then x.2.1 else d) ∧ lsW xs w (if x.1 = w then x.2.1 else d) ≤ 99
    refine lsW_r xs _ (fun y hy => h y (List.mem_cons_of_mem _ hy)) ?_
    split
    · exact hx
    · exact hd
theorem vS_r {a : List Cl} {e1 : Nat → Int → Int} (h : ∀ x ∈ a, okC x) (hl : a.length ≤ 10) : RgS (e1, vS a) := by
  refine ⟨fun q => ?_, fun Lf => ?_⟩
  · show 0 ≤ (if q = 0 then lsW a 2 6 else if q = 1 then lsW a 3 10 else if q = 2 then lsW a 4 1 else 0) ∧ (if q = 0 then lsW a 2 6 else if q = 1 then lsW a 3 10 else if q = 2 then lsW a 4 1 else 0) ≤ 99
    split
    · exact lsW_r a 6 h (by omega)
    · split
      · exact lsW_r a 10 h (by omega)
      · split
        · exact lsW_r a 1 h (by omega)
        · omega
  · have := gP_r (Lf := Lf) a h
    show -990 ≤ gP Lf a ∧ gP Lf a ≤ 990
    omega
theorem CK_SC {T : Nat → Int} {L : Nat} {r : Int} {a : List Cl} {p : Nat} {M : Mem} {e1 : Nat → Int → Int} (hT : TxE T L) (hr : isStr r) (h : CK T L r a p M) (ha : ∀ x ∈ a, okC x) (hl : a.length ≤ 10) : SC r (e1, vS a) M := by
  obtain ⟨y1, ⟨y2, y3, y4⟩, y5, y6, y6', y7, y8⟩ := h
  have hp := y1.1.2.2.2.1
  have hsz := y1.2.2.1
  have hL := hT.1
  have hTC : TC r (toksOf (lcs a)) 0 M := by
    rw [y6']
    intro q hq
    rw [Nat.zero_add]
    exact y1.2.2.2 q hq
  refine ⟨hr, ?_, ?_, ?_, ⟨by omega, by omega, fun c c0 c1 => ?_⟩, fun Lf => ?_⟩
  · rw [y2]; rfl
  · rw [y3]; rfl
  · rw [y4]; rfl
  · rw [y5] at c1
    exact KC_w (lcs a) 0 0 y7 hTC (fun x hx => ⟨ha x (lcs_m hx).1, (lcs_m hx).2⟩) (by rw [y6']; omega) c (by omega) (by omega)
  · have := gC_l (Lf := Lf) (lcs a) 0 0 y7 hTC (fun x hx => (lcs_m hx).2)
    rw [Nat.zero_add] at this
    rw [y5, Int.toNat_natCast, this, gP_lcs]
    show 0 + gP Lf a = gP Lf a
    omega
/-! the model -/
def TM (S : List Tk) (o : Nat) (M : Mem) : Prop := ∀ q : Nat, q < S.length → M 139 ((o + q : Nat) : Int) = eT (S.getD q (0, 0, 0))
theorem TM_l {a b : List Tk} {o : Nat} {M : Mem} (h : TM (a ++ b) o M) : TM a o M ∧ TM b (o + a.length) M := by
  refine ⟨fun q hq => ?_, fun q hq => ?_⟩
  · have := h q (by rw [List.length_append]; omega)
    rw [getT_l a b q hq] at this
    exact this
  · have := h (a.length + q) (by rw [List.length_append]; omega)
    rw [getT_r a b q, ← Nat.add_assoc] at this
    exact this
theorem gM_l {Lf : Int → Int} {b : Int} {M : Mem} : ∀ (l : List Cl) (j i o : Nat), (i : Int) = b + (j : Int) → KM l i o M → TM (toksOf l) o M → (∀ x ∈ l, okC x) → gM M b Lf (j + l.length) = gM M b Lf j + gP Lf l
  | [], j, i, o, _, _, _, _ => by
    show gM M b Lf j = gM M b Lf j + 0
    omega
  | x :: xs, j, i, o, hb, h, g, hx => by
    obtain ⟨h1, h2, h3, h4⟩ := h
    obtain ⟨g1, g2⟩ := TM_l (a := x.2.2) (b := toksOf xs) g
    have hk := hx x (List.mem_cons_self)
    have ih := gM_l (Lf := Lf) (b := b) xs (j + 1) (i + 1) (o + x.2.2.length) (by omega) h4 g2 (fun y hy => hx y (List.mem_cons_of_mem _ hy))
    rw [List.length_cons, show j + (xs.length + 1) = j + 1 + xs.length by omega, ih]
    show gM M b Lf j + (if M 135 (b + (j : Int)) ≤ 1 ∧ hMd M Lf (b + (j : Int)) = true then (if M 135 (b + (j : Int)) = 0 then M 136 (b + (j : Int)) else -M 136 (b + (j : Int))) else 0) + gP Lf xs = gM M b Lf j + ((if x.1 ≤ 1 ∧ hdB (evT Lf x.2.2 []) = true then sgC x else 0) + gP Lf xs)
    rw [← hb, h1, h2]
    by_cases hx1 : x.1 ≤ 1
    · have hh : hMd M Lf (i : Int) = hdB (evT Lf x.2.2 []) := by
        unfold hMd
        obtain ⟨p1, p2⟩ := h3 hx1
        rw [p1, p2, show (((o + x.2.2.length : Nat) : Int) - (o : Int)).toNat = x.2.2.length by omega, ev_T x.2.2 (o : Int) [] (fun q hq st => by
          have := g1 q hq
          rw [show ((o + q : Nat) : Int) = (o : Int) + (q : Int) by omega] at this
          rw [this]
          exact tk_e ((hk.2.2.2 hx1).1 _ (getT_m _ q hq)))]
      rw [hh]
      by_cases hbb : hdB (evT Lf x.2.2 []) = true
      · have hs : (if x.1 = 0 then x.2.1 else -x.2.1) = sgC x := by
          unfold sgC
          by_cases h0 : x.1 = 0
          · rw [if_pos h0, if_neg (by omega)]
          · rw [if_neg h0, if_pos (by have := hk.1; omega)]
        rw [if_pos (show x.1 ≤ 1 ∧ hdB (evT Lf x.2.2 []) = true from ⟨hx1, hbb⟩), hs, if_pos (show x.1 ≤ 1 ∧ hdB (evT Lf x.2.2 []) = true from ⟨hx1, hbb⟩)]; omega
      · rw [if_neg (fun c => hbb c.2), if_neg (fun c => hbb c.2)]; omega
    · rw [if_neg (fun c => hx1 c.1), if_neg (fun c => hx1 c.1)]; omega
theorem lsM_l {b w d : Int} {M : Mem} : ∀ (l : List Cl) (j i o : Nat), (i : Int) = b + (j : Int) → KM l i o M → lsM M b w d (j + l.length) = lsW l w (lsM M b w d j)
  | [], j, i, o, _, _ => rfl
  | x :: xs, j, i, o, hb, h => by
    obtain ⟨h1, h2, h3, h4⟩ := h
    have ih := lsM_l (b := b) (w := w) (d := d) xs (j + 1) (i + 1) (o + x.2.2.length) (by omega) h4
    rw [List.length_cons, show j + (xs.length + 1) = j + 1 + xs.length by omega, ih]
    show lsW xs w (if M 135 (b + (j : Int)) = w then M 136 (b + (j : Int)) else lsM M b w d j) = lsW xs w (if x.1 = w then x.2.1 else lsM M b w d j)
    rw [← hb, h1, h2]
theorem KM_w {M : Mem} : ∀ (l : List Cl) (i o : Nat), KM l i o M → TM (toksOf l) o M → (∀ x ∈ l, okC x) → o + (toksOf l).length ≤ 600 → ∀ c : Int, (i : Int) ≤ c → c < (i : Int) + l.length → wfC M c ∧ (M 135 c ≤ 1 → (o : Int) ≤ M 137 c ∧ M 138 c ≤ ((o + (toksOf l).length : Nat) : Int))
  | [], i, o, _, _, _, _, c, h1, h2 => by
    have h2 : c < (i : Int) + ((0 : Nat) : Int) := h2
    omega
  | x :: xs, i, o, h, g, hx, ho, c, c1, c2 => by
    obtain ⟨h1, h2, h3, h4⟩ := h
    obtain ⟨g1, g2⟩ := TM_l (a := x.2.2) (b := toksOf xs) g
    have ho' : o + (x.2.2 ++ toksOf xs).length ≤ 600 := ho
    rw [List.length_append] at ho'
    rw [List.length_cons] at c2
    have e : (toksOf (x :: xs)).length = x.2.2.length + (toksOf xs).length := List.length_append ..
    rw [e]
    have hk := hx x (List.mem_cons_self)
    by_cases hc : c = (i : Int)
    · subst hc
      unfold wfC
      rw [h1, h2]
      refine ⟨⟨hk.1.1, hk.1.2, hk.2.1.1, hk.2.1.2, fun hx1 => ?_⟩, fun hx1 => ?_⟩
      · obtain ⟨p1, p2⟩ := h3 hx1
        rw [p1, p2]
        have ht := (hk.2.2.2 hx1).1
        refine ⟨by omega, by omega, by omega, ?_, fun q q1 q2 => ?_⟩
        · rw [show (((o + x.2.2.length : Nat) : Int) - (o : Int)).toNat = x.2.2.length by omega]
          refine wfE_L x.2.2 (o : Int) 0 (fun q hq => ?_) (hk.2.2.2 hx1).2
          have := g1 q hq
          rw [show ((o + q : Nat) : Int) = (o : Int) + (q : Int) by omega] at this
          show opM (M 139 ((o : Int) + (q : Int))) = _
          rw [this]
          exact (eT_d (ht _ (getT_m _ q hq))).1
        · obtain ⟨n, rfl⟩ : ∃ n : Nat, q = (o : Int) + (n : Int) := ⟨(q - (o : Int)).toNat, by omega⟩
          have := g1 n (by omega)
          rw [show ((o + n : Nat) : Int) = (o : Int) + (n : Int) by omega] at this
          rw [this]
          exact (eT_d (ht _ (getT_m _ n (by omega)))).2.2
      · obtain ⟨p1, p2⟩ := h3 hx1
        rw [p1, p2]
        omega
    · have ih := KM_w xs (i + 1) (o + x.2.2.length) h4 g2 (fun y hy => hx y (List.mem_cons_of_mem _ hy)) (by omega) c (by omega) (by omega)
      exact ⟨ih.1, fun hh => by have := ih.2 hh; omega⟩
theorem MK_SM {T : Nat → Int} {L f : Nat} {a : List Cl} {p : Nat} {M : Mem} {e1 : Nat → Int → Int} (hT : TxE T L) (hf : f < 6) (h : MK T L f a p M) (h134 : M 134 (f : Int) = (a.length : Int)) (ha : ∀ x ∈ a, okC x) (hl : a.length ≤ 10) : SM (f : Int) (e1, vS a) M ∧ TkR (f : Int) M := by
  obtain ⟨y1, y2, y3, y4, y5⟩ := h
  have hp := y1.2.2.1
  have hL := hT.1
  have hTM : TM (toksOf a) (100 * f) M := by
    intro q hq
    have := y2.2 q hq
    rw [show ((100 * f + q : Nat) : Int) = ((100 * f : Nat) : Int) + (q : Int) by omega]
    exact this
  have hw := KM_w a (10 * f) (100 * f) y4 hTM ha (by omega)
  have hcn : cnM (f : Int) M = a.length := by
    unfold cnM
    rw [if_pos (by omega), h134, Int.toNat_natCast]
  have hls : ∀ w d : Int, lsM M (10 * (f : Int)) w d a.length = lsW a w d := by
    intro w d
    have := lsM_l (b := 10 * (f : Int)) (w := w) (d := d) a 0 (10 * f) (100 * f) (by omega) y4
    rw [Nat.zero_add] at this
    exact this
  refine ⟨⟨by omega, fun _ => ⟨by omega, by omega, fun c c0 c1 => (hw c (by omega) (by omega)).1⟩, ?_, ?_, ?_, fun Lf => ?_⟩, fun _ c c0 c1 c2 => ?_⟩
  · rw [hcn, hls]; rfl
  · rw [hcn, hls]; rfl
  · rw [hcn, hls]; rfl
  · rw [hcn]
    have := gM_l (Lf := Lf) (b := 10 * (f : Int)) a 0 (10 * f) (100 * f) (by omega) y4 hTM ha
    rw [Nat.zero_add] at this
    rw [this]
    show 0 + gP Lf a = gP Lf a
    omega
  · have := (hw c (by omega) (by omega)).2 c2
    omega
