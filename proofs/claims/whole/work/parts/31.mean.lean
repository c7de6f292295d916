/-! what is meant: a street's sounds, looked at as numbers -/
abbrev Vw : Type := (Nat → Int → Int) × ((Int → Int) × ((Int → Int) → Int))
/-- a test: less (r below 0), greater (r above 0), the same -/
def tq (r a q : Int) : Bool := if r < 0 then decide (a < q) else if 0 < r then decide (q < a) else decide (a = q)
theorem tq_l {r a q : Int} (h : r < 0) : tq r a q = decide (a < q) := if_pos h
theorem tq_g {r a q : Int} (h : 0 < r) : tq r a q = decide (q < a) := by
  unfold tq
  rw [if_neg (show ¬ r < 0 by omega), if_pos h]
theorem tq_e {r a q : Int} (h : r = 0) : tq r a q = decide (a = q) := by
  unfold tq
  rw [if_neg (show ¬ r < 0 by omega), if_neg (show ¬ 0 < r by omega)]
def tk (o r q : Int) (Lf : Int → Int) (st : List Bool) : List Bool :=
  if o = 6 then (match st with
    | b :: t => (!b) :: t
    | [] => [])
  else if o = 7 then (match st with
    | a :: b :: t => (b && a) :: t
    | l => l)
  else if o = 8 then (match st with
    | a :: b :: t => (b || a) :: t
    | l => l)
  else tq r (Lf o) q :: st
def ev (op od nu Lf : Int → Int) : Nat → Int → List Bool → List Bool
  | 0, _, st => st
  | m + 1, i, st => ev op od nu Lf m (i + 1) (tk (op i) (od i) (nu i) Lf st)
def wfE (op : Int → Int) : Nat → Int → Nat → Prop
  | 0, _, d => d = 1
  | m + 1, i, d => (op i = 6 ∧ 1 ≤ d ∧ wfE op m (i + 1) d) ∨ ((op i = 7 ∨ op i = 8) ∧ 2 ≤ d ∧ wfE op m (i + 1) (d - 1)) ∨ (0 ≤ op i ∧ op i ≤ 5 ∧ d < 28 ∧ wfE op m (i + 1) (d + 1))
def hdB : List Bool → Bool
  | b :: _ => b
  | [] => false
def enc : List Bool → Nat
  | [] => 0
  | b :: t => enc t * 2 + (if b = true then 1 else 0)
theorem enc_lt : ∀ st : List Bool, enc st < 2 ^ st.length
  | [] => by decide
  | b :: t => by
    have := enc_lt t
    rw [List.length_cons, Nat.pow_succ]
    unfold enc
    split <;> omega
theorem enc_30 {st : List Bool} (h : st.length ≤ 28) : enc st < 2 ^ 28 := Nat.lt_of_lt_of_le (enc_lt st) (Nat.pow_le_pow_right (by decide) h)
def hC (M : Mem) (r : Int) (Lf : Int → Int) (c : Int) : Bool := hdB (ev (M (r + 3)) (M (r + 4)) (M (r + 5)) Lf (M (r + 2) (c + 1) - M (r + 2) c).toNat (M (r + 2) c) [])
def gC (M : Mem) (r : Int) (Lf : Int → Int) : Nat → Int
  | 0 => 0
  | n + 1 => gC M r Lf n + (if hC M r Lf (n : Int) = true then M (r + 1) (n : Int) else 0)
def wfS (r : Int) (M : Mem) : Prop := 0 ≤ M r 3 ∧ M r 3 ≤ 10 ∧ ∀ c : Int, 0 ≤ c → c < M r 3 → -99 ≤ M (r + 1) c ∧ M (r + 1) c ≤ 99 ∧ 0 ≤ M (r + 2) c ∧ M (r + 2) c ≤ M (r + 2) (c + 1) ∧ M (r + 2) (c + 1) ≤ 100 ∧ wfE (M (r + 3)) (M (r + 2) (c + 1) - M (r + 2) c).toNat (M (r + 2) c) 0
def SC (r : Int) (e : Vw) (M : Mem) : Prop := isStr r ∧ M r 0 = e.2.1 0 ∧ M r 1 = e.2.1 1 ∧ M r 2 = e.2.1 2 ∧ wfS r M ∧ ∀ Lf, gC M r Lf (M r 3).toNat = e.2.2 Lf
def LC (o : Int) (e : Vw) (M : Mem) : Prop := M o 0 = e.1 0 0 ∧ M o 6 = e.1 6 0 ∧ (∀ s : Int, 0 ≤ s → s < 6 → M (o + 1) s = e.1 1 s ∧ M (o + 2) s = e.1 2 s ∧ M (o + 3) s = e.1 3 s ∧ M (o + 4) s = e.1 4 s) ∧ (∀ i : Int, 0 ≤ i → i < 24 → M (o + 5) i = e.1 5 i) ∧ SC (M o 7) e M
def Rg (e : Vw) : Prop := (0 ≤ e.1 0 0 ∧ e.1 0 0 ≤ 6) ∧ (0 ≤ e.1 6 0 ∧ e.1 6 0 ≤ 20000) ∧ (∀ s, (0 ≤ e.1 1 s ∧ e.1 1 s ≤ 6) ∧ (0 ≤ e.1 2 s ∧ e.1 2 s ≤ 9) ∧ (0 ≤ e.1 3 s ∧ e.1 3 s ≤ 99) ∧ (-1 ≤ e.1 4 s ∧ e.1 4 s ≤ 4) ∧ (0 ≤ e.1 5 s ∧ e.1 5 s ≤ 9)) ∧ (∀ k, 0 ≤ e.2.1 k ∧ e.2.1 k ≤ 99) ∧ ∀ Lf, -990 ≤ e.2.2 Lf ∧ e.2.2 Lf ≤ 990
def lets (e : Vw) (s h : Int) : Int → Int := fun k => if k = 0 then s else if k = 1 then h else if k = 2 then e.1 1 s else if k = 3 then e.1 2 s else if k = 4 then Int.tdiv (e.1 3 s) 10 else Int.tmod (e.1 6 0) 10
def vo (e : Vw) (s h : Int) : Int := if e.1 3 s = 0 then 0 else max 0 (e.1 3 s + e.2.2 (lets e s h))
def far (a b : Int) : Int := if a ≤ b then b - a else a - b
def hb (e : Vw) (s vc f t : Int) : Int :=
  if e.1 1 s = 2 then (if Int.tmod (e.1 6 0) 2 = 0 then Int.tdiv (max 0 (vc - e.2.1 0 * far f t)) 2 else max 0 (vc - e.2.1 0 * far f t))
  else if e.1 1 s = 3 then max 0 (vc - Int.tdiv (e.2.1 0) 2 * far f t)
  else if e.1 1 s = 4 then (if far f t = 0 then max 0 (vc - e.2.1 0 * far f t) else 0)
  else if e.1 1 s = 5 then (if Int.tmod (e.1 6 0) 2 = 0 then Int.tdiv (max 0 (vc - e.2.1 0 * far f t)) 2 else max 0 (vc - e.2.1 0 * far f t)) + (if t < f then e.1 2 s else 0)
  else if e.1 1 s = 6 then max 0 (vc - Int.tdiv (e.2.1 0) 2 * far f t) + (if far f t = 0 then e.1 5 (s * 4 + Int.tmod (e.1 6 0) 4) else 0)
  else max 0 (vc - e.2.1 0 * far f t)
def Fh (e : Vw) (s f t : Int) : Int := hb e s (vo e s f) f t
def nzs (F : Int → Int → Int → Int) (a : Int → Int) (t : Int) : Nat → Int
  | 0 => 0
  | n + 1 => nzs F a t n + (if a (n : Int) = -1 then 0 else F (n : Int) (a (n : Int)) t)
def NZ (e : Vw) (t : Int) : Int := nzs (Fh e) (e.1 4) t (e.1 0 0).toNat
def grs (f : Int → Int) : Nat → Int
  | 0 => 0
  | n + 1 => max (grs f n) (f (n : Int))
def bts (f : Int → Bool) : Nat → Int
  | 0 => 0
  | n + 1 => if f (n : Int) = true then or32 (bts f n) (shl32 1 (n : Int)) else bts f n
def we (e : Vw) (s : Int) : Int := if e.1 1 s = 1 ∨ e.1 1 s = 4 then Int.tdiv (e.2.1 2) 2 else if e.1 1 s = 6 then (if Int.tmod (e.1 6 0) 2 = 0 then 0 else e.2.1 2) else e.2.1 2
def gy (e : Vw) : Vw := (fun k q => if k = 3 ∧ 0 ≤ q ∧ q < e.1 0 0 ∧ e.1 4 q ≠ -1 then max 0 (e.1 3 q - we e q) else if k = 6 ∧ q = 0 then e.1 6 0 + 1 else e.1 k q, e.2)
def gyn (e : Vw) : Nat → Vw
  | 0 => e
  | n + 1 => gy (gyn e n)
/-! ranges -/
theorem tdiv_r {a : Int} {d : Int} (h : 0 ≤ a) (hd : 0 < d) : 0 ≤ Int.tdiv a d ∧ Int.tdiv a d ≤ a := by
  rw [Int.tdiv_eq_ediv_of_nonneg h]
  exact ⟨Int.ediv_nonneg h (by omega), Int.ediv_le_self _ h⟩
theorem tmod_r {a : Int} {d : Int} (h : 0 ≤ a) (hd : 0 < d) : 0 ≤ Int.tmod a d ∧ Int.tmod a d < d := by
  rw [Int.tmod_eq_emod_of_nonneg h]
  exact ⟨Int.emod_nonneg _ (by omega), Int.emod_lt_of_pos _ hd⟩
theorem far_r {f t : Int} (h1 : 0 ≤ f) (h2 : f ≤ 4) (h3 : 0 ≤ t) (h4 : t ≤ 4) : 0 ≤ far f t ∧ far f t ≤ 4 := by
  unfold far; split <;> omega
theorem mul_r {a d : Int} (h1 : 0 ≤ a) (h2 : a ≤ 99) (h3 : 0 ≤ d) (h4 : d ≤ 4) : 0 ≤ a * d ∧ a * d ≤ 396 := by
  have : d = 0 ∨ d = 1 ∨ d = 2 ∨ d = 3 ∨ d = 4 := by omega
  rcases this with rfl | rfl | rfl | rfl | rfl <;> omega
theorem vo_r {e : Vw} (h : Rg e) (s f : Int) : 0 ≤ vo e s f ∧ vo e s f ≤ 1089 := by
  obtain ⟨_, _, h3, _, h5⟩ := h
  have a := h3 s
  have b := h5 (lets e s f)
  unfold vo
  split <;> omega
theorem hb_r {e : Vw} (h : Rg e) {s vc f t : Int} (hv : 0 ≤ vc ∧ vc ≤ 1089) (h1 : 0 ≤ f) (h2 : f ≤ 4) (h3 : 0 ≤ t) (h4 : t ≤ 4) : 0 ≤ hb e s vc f t ∧ hb e s vc f t ≤ 1098 := by
  obtain ⟨_, y, a, w, _⟩ := h
  have a1 := a s
  have a2 := a (s * 4 + Int.tmod (e.1 6 0) 4)
  have w0 := w 0
  have d := far_r h1 h2 h3 h4
  have m := mul_r w0.1 w0.2 d.1 d.2
  have t2 := tdiv_r (d := 2) w0.1 (by decide)
  have m2 := mul_r (a := Int.tdiv (e.2.1 0) 2) t2.1 (by omega) d.1 d.2
  have t3 := tdiv_r (a := max 0 (vc - e.2.1 0 * far f t)) (d := 2) (by omega) (by decide)
  unfold hb
  grind
theorem Fh_r {e : Vw} (h : Rg e) {s f t : Int} (h1 : 0 ≤ f) (h2 : f ≤ 4) (h3 : 0 ≤ t) (h4 : t ≤ 4) : 0 ≤ Fh e s f t ∧ Fh e s f t ≤ 1098 := hb_r h (vo_r h s f) h1 h2 h3 h4
theorem nzs_r {F : Int → Int → Int → Int} {a : Int → Int} {t : Int} (hF : ∀ s f, 0 ≤ f → f ≤ 4 → 0 ≤ F s f t ∧ F s f t ≤ 1098) (ha : ∀ s, -1 ≤ a s ∧ a s ≤ 4) : ∀ n : Nat, 0 ≤ nzs F a t n ∧ nzs F a t n ≤ 1098 * n
  | 0 => by unfold nzs; omega
  | n + 1 => by
    have h := nzs_r hF ha n
    have a1 := ha n
    unfold nzs
    by_cases q : a (n : Int) = -1
    · rw [if_pos q]; omega
    · rw [if_neg q]
      have := hF n (a n) (by omega) (by omega)
      omega
theorem NZ_r {e : Vw} (h : Rg e) {t : Int} (h3 : 0 ≤ t) (h4 : t ≤ 4) (n : Nat) (hn : n ≤ 6) : 0 ≤ nzs (Fh e) (e.1 4) t n ∧ nzs (Fh e) (e.1 4) t n ≤ 6588 := by
  have := nzs_r (F := Fh e) (a := e.1 4) (t := t) (fun s f q1 q2 => Fh_r h q1 q2 h3 h4) (fun s => (h.2.2.1 s).2.2.2.1) n
  omega
theorem we_r {e : Vw} (h : Rg e) (s : Int) : 0 ≤ we e s ∧ we e s ≤ 99 := by
  obtain ⟨_, _, _, w, _⟩ := h
  have w0 := w 2
  have t2 := tdiv_r (a := e.2.1 2) (d := 2) w0.1 (by decide)
  unfold we
  grind
theorem gy_r {e : Vw} (h : Rg e) (hy : e.1 6 0 < 20000) : Rg (gy e) := by
  have hw := we_r h
  obtain ⟨h1, h2, h3, h4, h5⟩ := h
  refine ⟨?_, ?_, ?_, h4, h5⟩
  · exact h1
  · show 0 ≤ e.1 6 0 + 1 ∧ e.1 6 0 + 1 ≤ 20000
    omega
  · intro s
    have a := h3 s
    have b := hw s
    have c := h3 0
    unfold gy
    simp only []
    grind
theorem gyn_y (e : Vw) : ∀ n : Nat, (gyn e n).1 6 0 = e.1 6 0 + n
  | 0 => by simp [gyn]
  | n + 1 => by
    have := gyn_y e n
    show (gyn e n).1 6 0 + 1 = _
    omega
theorem gyn_r {e : Vw} (h : Rg e) : ∀ n : Nat, e.1 6 0 + n ≤ 20000 → Rg (gyn e n)
  | 0, _ => h
  | n + 1, q => gy_r (gyn_r h n (by omega)) (by rw [gyn_y]; omega)
