/-! both, asked: what is seen -/
theorem LC_u {o s z : Int} {k : Nat} {e : Vw} {M : Mem} (hk : k = 2 ∨ k = 3 ∨ k = 4) (ho : isLot o) (h : LC o e M) : LC o (up e k s z) (stM M (o + k) s z) := by
  have hs := LC_sc (e' := up e k s z) (M' := stM M (o + k) s z) ho h (fun j hj => st_nc (by omega)) (by rw [st_nc (by omega)]) rfl
  obtain ⟨q0, q6, qs, q5, qS⟩ := h
  refine ⟨?_, ?_, ?_, ?_, hs⟩
  · rw [st_nc (by omega)]
    show _ = (if 0 = k ∧ _ then _ else _)
    rw [if_neg (by omega)]
    exact q0
  · rw [st_nc (by omega)]
    show _ = (if 6 = k ∧ _ then _ else _)
    rw [if_neg (by omega)]
    exact q6
  · intro t t0 t6
    obtain ⟨b1, b2, b3, b4⟩ := qs t t0 t6
    show _ = (if 1 = k ∧ t = s then z else e.1 1 t) ∧ _ = (if 2 = k ∧ t = s then z else e.1 2 t) ∧ _ = (if 3 = k ∧ t = s then z else e.1 3 t) ∧ _ = (if 4 = k ∧ t = s then z else e.1 4 t)
    rw [st_ap, st_ap, st_ap, st_ap, b1, b2, b3, b4]
    rcases hk with rfl | rfl | rfl <;> grind
  · intro t t0 t6
    show _ = (if 5 = k ∧ t = s then z else e.1 5 t)
    rw [st_nc (by omega), if_neg (by omega)]
    exact q5 t t0 t6
def okU (k : Nat) (z : Int) : Prop := (k = 2 ∧ 0 ≤ z ∧ z ≤ 9) ∨ (k = 3 ∧ 0 ≤ z ∧ z ≤ 99) ∨ (k = 4 ∧ -1 ≤ z ∧ z ≤ 4)
theorem u_r {e : Vw} {s z : Int} {k : Nat} (h : Rg e) (hz : okU k z) : Rg (up e k s z) := by
  obtain ⟨h1, h2, h3, h4, h5⟩ := h
  unfold okU at hz
  refine ⟨?_, ?_, ?_, h4, h5⟩
  · show 0 ≤ (if 0 = k ∧ _ then _ else _) ∧ (if 0 = k ∧ _ then _ else _) ≤ (6 : Int)
    rw [if_neg (by omega)]; exact h1
  · show 0 ≤ (if 6 = k ∧ _ then _ else _) ∧ (if 6 = k ∧ _ then _ else _) ≤ (20000 : Int)
    rw [if_neg (by omega)]; exact h2
  · intro q
    have a := h3 q
    show (0 ≤ (if 1 = k ∧ q = s then z else e.1 1 q) ∧ (if 1 = k ∧ q = s then z else e.1 1 q) ≤ 6) ∧ (0 ≤ (if 2 = k ∧ q = s then z else e.1 2 q) ∧ (if 2 = k ∧ q = s then z else e.1 2 q) ≤ 9) ∧ (0 ≤ (if 3 = k ∧ q = s then z else e.1 3 q) ∧ (if 3 = k ∧ q = s then z else e.1 3 q) ≤ 99) ∧ (-1 ≤ (if 4 = k ∧ q = s then z else e.1 4 q) ∧ (if 4 = k ∧ q = s then z else e.1 4 q) ≤ 4) ∧ (0 ≤ (if 5 = k ∧ q = s then z else e.1 5 q) ∧ (if 5 = k ∧ q = s then z else e.1 5 q) ≤ 9)
    clear h1 h2 h3 h4 h5
    rcases hz with ⟨rfl, b⟩ | ⟨rfl, b⟩ | ⟨rfl, b⟩ <;> grind
theorem u_y {e : Vw} {s z : Int} {k : Nat} (hz : okU k z) : (up e k s z).1 6 0 = e.1 6 0 := by
  unfold okU at hz
  show (if 6 = k ∧ _ then _ else _) = _
  rw [if_neg (by omega)]
theorem u_n {e : Vw} {s z : Int} {k : Nat} (hz : okU k z) : (up e k s z).1 0 0 = e.1 0 0 := by
  unfold okU at hz
  show (if 0 = k ∧ _ then _ else _) = _
  rw [if_neg (by omega)]
theorem u_u {e : Vw} {s z y : Int} {k : Nat} : up (up e k s z) k s y = up e k s y := by
  unfold up
  refine Prod.ext ?_ rfl
  funext a q
  show (if a = k ∧ q = s then y else if a = k ∧ q = s then z else e.1 a q) = (if a = k ∧ q = s then y else e.1 a q)
  split <;> rfl
theorem u_self {e : Vw} {s : Int} {k : Nat} : up e k s (e.1 k s) = e := by
  unfold up
  refine Prod.ext ?_ rfl
  funext a q
  show (if a = k ∧ q = s then e.1 k s else e.1 a q) = e.1 a q
  by_cases h : a = k ∧ q = s
  · rw [if_pos h, h.1, h.2]
  · rw [if_neg h]
theorem m_u {e : Vw} {s z zz : Int} {k : Nat} {M : Mem} (hk : k = 2 ∨ k = 3 ∨ k = 4) (hL : LM e M) (hz : zz = if k = 4 then hm z else z) : LM (up e k s z) (stM M (127 + k) s zz) := by
  obtain ⟨q0, q6, qs, q5, qS⟩ := hL
  refine ⟨?_, ?_, ?_, ?_, ?_⟩
  · rw [st_nc (by omega)]
    show _ = (if 0 = k ∧ _ then _ else _)
    rw [if_neg (by omega)]
    exact q0
  · rw [st_nc (by omega)]
    show _ = (if 6 = k ∧ _ then _ else _)
    rw [if_neg (by omega)]
    exact q6
  · intro t t0 t6
    obtain ⟨b1, b2, b3, b4⟩ := qs t t0 t6
    show _ = (if 1 = k ∧ t = s then z else e.1 1 t) ∧ _ = (if 2 = k ∧ t = s then z else e.1 2 t) ∧ _ = (if 3 = k ∧ t = s then z else e.1 3 t) ∧ _ = hm (if 4 = k ∧ t = s then z else e.1 4 t)
    rw [st_ap, st_ap, st_ap, st_ap, b1, b2, b3, b4, hz]
    rcases hk with rfl | rfl | rfl <;> grind
  · intro i i0 i4
    rw [st_nc (by omega)]
    show _ = (if 5 = k ∧ i = s then z else e.1 5 i)
    rw [if_neg (by omega)]
    refine q5 i i0 ?_
    have : (up e k s z).1 0 0 = e.1 0 0 := by
      show (if 0 = k ∧ _ then _ else _) = _
      rw [if_neg (by omega)]
    omega
  · rw [st_nc (by omega)]
    exact SM_fr qS (fun j _ _ => st_nc (by omega)) rfl
def SeR (n : Int) (a1 a2 a3 b1 b2 b3 : Int → Int) : Prop := (0 ≤ n ∧ n ≤ 5) ∧ ∀ i : Int, 0 ≤ i → i < n → a1 i = b1 i ∧ a2 i = b2 i ∧ a3 i = b3 i ∧ (0 ≤ a1 i ∧ a1 i ≤ 4) ∧ (0 ≤ a3 i ∧ a3 i ≤ 20)
def sn1 (e : Vw) (f s t : Int → Int) (i : Int) : Bool := decide (NZ (gyn e (t i).toNat) (f i) = s i)
def sn (e : Vw) (f s t : Int → Int) : Nat → Bool
  | 0 => true
  | n + 1 => sn e f s t n && sn1 e f s t (n : Int)
theorem sn_all {e : Vw} {f s t : Int → Int} : ∀ n : Nat, sn e f s t n = true ↔ ∀ i : Nat, i < n → sn1 e f s t (i : Int) = true
  | 0 => by simp [sn]
  | n + 1 => by
    unfold sn
    rw [Bool.and_eq_true, sn_all n]
    constructor
    · intro ⟨h1, h2⟩ i hi
      by_cases h : i < n
      · exact h1 i h
      · obtain rfl : i = n := by omega
        exact h2
    · intro h
      exact ⟨fun i hi => h i (by omega), h n (by omega)⟩
theorem sn_cg {e : Vw} {n : Int} {a1 a2 a3 b1 b2 b3 : Int → Int} (h : SeR n a1 a2 a3 b1 b2 b3) : ∀ m : Nat, (m : Int) ≤ n → sn e a1 a2 a3 m = sn e b1 b2 b3 m
  | 0, _ => rfl
  | m + 1, hm => by
    have h1 := h.2 m (by omega) (by omega)
    unfold sn sn1
    rw [sn_cg h m (by omega), h1.1, h1.2.1, h1.2.2.1]
def ct (P : Int → Prop) [DecidablePred P] : Nat → Int
  | 0 => 0
  | n + 1 => ct P n + if P (n : Int) then 1 else 0
theorem ct_r (P : Int → Prop) [DecidablePred P] : ∀ n : Nat, 0 ≤ ct P n ∧ ct P n ≤ n ∧ (ct P n = n → ∀ i : Nat, i < n → P (i : Int))
  | 0 => ⟨by unfold ct; omega, by unfold ct; omega, fun _ _ h => absurd h (by omega)⟩
  | n + 1 => by
    obtain ⟨h1, h2, h3⟩ := ct_r P n
    unfold ct
    by_cases h : P (n : Int)
    · rw [if_pos h]
      refine ⟨by omega, by omega, fun q i hi => ?_⟩
      by_cases hn : i < n
      · exact h3 (by omega) i hn
      · obtain rfl : i = n := by omega
        exact h
    · rw [if_neg h]
      exact ⟨by omega, by omega, fun q => by omega⟩
theorem ct_0 {P : Int → Prop} [DecidablePred P] : ∀ n : Nat, (∀ i : Nat, i < n → ¬ P (i : Int)) → ct P n = 0
  | 0, _ => rfl
  | n + 1, h => by
    unfold ct
    rw [ct_0 n (fun i hi => h i (by omega)), if_neg (h n (by omega))]
    rfl
theorem ct_add (t : Int → Int) (y : Int) : ∀ n : Nat, ct (fun i => t i < y) n + ct (fun i => t i = y) n = ct (fun i => t i < y + 1) n
  | 0 => rfl
  | n + 1 => by
    have := ct_add t y n
    unfold ct
    by_cases h1 : t (n : Int) < y
    · rw [if_pos h1, if_neg (by omega), if_pos (by omega)]; omega
    · rw [if_neg h1]
      by_cases h2 : t (n : Int) = y
      · rw [if_pos h2, if_pos (by omega)]; omega
      · rw [if_neg h2, if_neg (by omega)]; omega
theorem c_seen {e : Vw} {M : Mem} {n : Nat} {b1 b2 b3 : Int → Int} {Q : Int → Mem → Prop} (hR : Rg e) (hy : e.1 6 0 ≤ 9999) (hL : LC 60 e M) (hN : M 28 0 = (n : Int)) (hS : SeR (M 28 0) (M 29) (M 30) (M 31) b1 b2 b3)
    (k : ∀ M', (∀ j, j ≠ 60 → j ≠ 63 → j ≠ 78 → M' j = M j) → Q (if sn e (M 29) (M 30) (M 31) n = true then 1 else 0) M') : wp (f_X7_isAsSeen M) Q := by
  have hn := hS.1
  rw [hN] at hS
  unfold f_X7_isAsSeen
  have ho : isLot 60 := Or.inr (Or.inr rfl)
  refine wloop0 (St := Int) (L := fun fuel x st M' => f_X7_isAsSeen_12 fuel st x M') 21 (Inv := fun i st M' => LC 60 (gyn e i) M' ∧ (∀ j, j ≠ 60 → j ≠ 63 → j ≠ 78 → M' j = M j) ∧ st = ct (fun q => M 31 q < (i : Int)) n ∧ ∀ q : Nat, q < n → M 31 (q : Int) < (i : Int) → sn1 e (M 29) (M 30) (M 31) (q : Int) = true) (by omega) ?_ ?_ (st := 0) ⟨hL, fun _ _ _ _ => rfl, (ct_0 n (fun i hi => by have := hS.2 i (by omega) (by omega); omega)).symm, fun q hq h => by have := hS.2 q (by omega) (by omega); omega⟩
  · intro i fuel st M1 hi ⟨g1, g2, g3, g4⟩ kk
    show wp (f_X7_isAsSeen_12 (fuel + 1) st (i : Int) M1) _
    have hRi := gyn_r hR i (by omega)
    rw [f_X7_isAsSeen_12.eq_2, g2 28 (by decide) (by decide) (by decide), hN]
    refine wp_f (by omega) ?_
    have hc := ct_r (fun q => M 31 q < (i : Int)) n
    by_cases hm : (n : Int) ≤ st
    · refine wp_t hm ?_
      rw [wp_some]
      have hall := (sn_all (e := e) (f := M 29) (s := M 30) (t := M 31) n).2 (fun q hq => g4 q hq (hc.2.2 (by omega) q hq))
      rw [if_pos hall] at k
      exact k M1 g2
    · refine wp_f hm ?_
      refine wloop0 (St := Int) (L := fun fuel2 x st M' => f_X7_isAsSeen_29 (f_X7_isAsSeen_12 fuel) fuel2 st (i : Int) x M') n (Inv := fun j st M' => LC 60 (gyn e i) M' ∧ (∀ j, j ≠ 60 → j ≠ 63 → j ≠ 78 → M' j = M j) ∧ st = ct (fun q => M 31 q < (i : Int)) n + ct (fun q => M 31 q = (i : Int)) j ∧ ∀ q : Nat, q < j → M 31 (q : Int) = (i : Int) → sn1 e (M 29) (M 30) (M 31) (q : Int) = true) (by omega) ?_ ?_ (st := st) ⟨g1, g2, by rw [g3]; show _ = _ + 0; omega, fun q hq => absurd hq (by omega)⟩
      · intro j fuel2 st2 M2 hj ⟨v1, v2, v3, v4⟩ kk2
        show wp (f_X7_isAsSeen_29 (f_X7_isAsSeen_12 fuel) (fuel2 + 1) st2 (i : Int) (j : Int) M2) _
        rw [f_X7_isAsSeen_29.eq_2, v2 28 (by decide) (by decide) (by decide), v2 31 (by decide) (by decide) (by decide), v2 29 (by decide) (by decide) (by decide), hN]
        refine wp_f (by omega) (wp_and (by omega) ?_)
        have hs := hS.2 j (by omega) (by omega)
        have hc2 := ct_r (fun q => M 31 q = (i : Int)) j
        have go : ∀ st3 M3, LC 60 (gyn e i) M3 → (∀ j, j ≠ 60 → j ≠ 63 → j ≠ 78 → M3 j = M j) → st3 = ct (fun q => M 31 q < (i : Int)) n + ct (fun q => M 31 q = (i : Int)) (j + 1) → (∀ q : Nat, q < j + 1 → M 31 (q : Int) = (i : Int) → sn1 e (M 29) (M 30) (M 31) (q : Int) = true) → wp (f_X7_isAsSeen_78 (f_X7_isAsSeen_12 fuel) (f_X7_isAsSeen_29 (f_X7_isAsSeen_12 fuel) fuel2) st3 (i : Int) (j : Int) M3) Q := by
          intro st3 M3 c1 c2 c3 c4
          unfold f_X7_isAsSeen_78
          rw [w_suc (by omega)]
          exact kk2 st3 M3 ⟨c1, c2, c3, c4⟩
        by_cases he : M 31 (j : Int) = (i : Int)
        · refine wp_t he (wp_and (by omega) ?_)
          rw [wp_bind]
          refine c_noise hRi ho v1 (by omega) ?_
          intro M3 w1
          refine wp_and (by omega) ?_
          have w2 : ∀ j, j ≠ 60 → j ≠ 63 → j ≠ 78 → M3 j = M j := fun q a b c => (w1 q (by omega)).trans (v2 q a b c)
          simp only []
          rw [w2 30 (by decide) (by decide) (by decide)]
          have e1 : gyn e i = gyn e (M 31 (j : Int)).toNat := by rw [he, Int.toNat_natCast]
          by_cases hz : NZ (gyn e i) (M 29 (j : Int)) = M 30 (j : Int)
          · refine wp_t hz ?_
            rw [w_id (by omega) (by omega)]
            refine go _ M3 (LC_fr ho v1 w1) w2 ?_ ?_
            · rw [v3]
              show _ = _ + (ct _ j + if M 31 (j : Int) = (i : Int) then 1 else 0)
              rw [if_pos he]
              omega
            · intro q hq hq2
              by_cases hqj : q < j
              · exact v4 q hqj hq2
              · obtain rfl : q = j := by omega
                unfold sn1
                rw [← e1]
                exact decide_eq_true hz
          · refine wp_f hz ?_
            rw [wp_some]
            have hall : ¬ sn e (M 29) (M 30) (M 31) n = true := by
              rw [sn_all]
              intro h
              have := h j hj
              unfold sn1 at this
              rw [← e1] at this
              exact hz (of_decide_eq_true this)
            rw [if_neg hall] at k
            exact k M3 w2
        · refine wp_f he ?_
          refine go _ M2 v1 v2 ?_ ?_
          · rw [v3]
            show _ = _ + (ct _ j + if M 31 (j : Int) = (i : Int) then 1 else 0)
            rw [if_neg he]
            omega
          · intro q hq hq2
            by_cases hqj : q < j
            · exact v4 q hqj hq2
            · obtain rfl : q = j := by omega
              exact absurd hq2 he
      · intro fuel2 st2 M2 ⟨v1, v2, v3, v4⟩
        show wp (f_X7_isAsSeen_29 (f_X7_isAsSeen_12 fuel) (fuel2 + 1) st2 (i : Int) (n : Int) M2) _
        rw [f_X7_isAsSeen_29.eq_2, v2 28 (by decide) (by decide) (by decide), hN]
        refine wp_t (Int.le_refl _) ?_
        rw [wp_bind]
        refine c_years (n := 1) hRi (by omega) (by rw [gyn_y]; omega) ho v1 ?_
        intro M3 w1 w2 w3
        simp only []
        rw [w_suc (by omega)]
        refine kk st2 M3 ⟨w1, fun j a b c => (w2 j a b).trans (v2 j a b c), ?_, ?_⟩
        · rw [v3, ct_add]
          rfl
        · intro q hq hq2
          by_cases h : M 31 (q : Int) = (i : Int)
          · exact v4 q hq h
          · exact g4 q hq (by omega)
  · intro fuel st M1 ⟨g1, g2, g3, g4⟩
    show wp (f_X7_isAsSeen_12 (fuel + 1) st (21 : Int) M1) _
    rw [f_X7_isAsSeen_12.eq_2]
    refine wp_t (by decide) ?_
    rw [wp_some]
    have hall := (sn_all (e := e) (f := M 29) (s := M 30) (t := M 31) n).2 (fun q hq => g4 q hq (by have := hS.2 q (by omega) (by omega); omega))
    rw [if_pos hall] at k
    exact k M1 g2
theorem sn_f {e : Vw} {f s t : Int → Int} {a : Nat} : ∀ n : Nat, a ≤ n → sn e f s t a = false → sn e f s t n = false
  | 0, h, q => by
    obtain rfl : a = 0 := by omega
    exact q
  | n + 1, h, q => by
    by_cases hn : a = n + 1
    · rw [← hn]; exact q
    · unfold sn
      rw [sn_f n (by omega) q]
      rfl
theorem m_seen {e : Vw} {M : Mem} {n : Nat} {a1 a2 a3 : Int → Int} {Q : Int → Mem → Prop} (hR : Rg e) (hy : e.1 6 0 ≤ 9999) (hL : LM e M) (hN : M 127 33 = (n : Int)) (hS : SeR n a1 a2 a3 (M 148) (M 149) (M 150))
    (k : ∀ M', MF M M' → (∀ j, 127 < j → j < 130 → M' j = M j) → LM e M' → Q (if sn e a1 a2 a3 n = true then 1 else 0) M') : wp (f_X8_isSeen M) Q := by
  have hn := hS.1
  unfold f_X8_isSeen
  rw [show (1 : Int) = if sn e a1 a2 a3 0 = true then 1 else 0 from rfl]
  refine wloop0 (St := Int) (L := fun fuel x st M' => f_X8_isSeen_4 fuel st x M') n (Inv := fun i st M' => LM e M' ∧ MF M M' ∧ (∀ j, 127 < j → j < 130 → M' j = M j) ∧ st = if sn e a1 a2 a3 i = true then 1 else 0) (by omega) ?_ ?_ (st := if sn e a1 a2 a3 0 = true then 1 else 0) ⟨hL, MF_rfl M, fun _ _ _ => rfl, rfl⟩
  · intro i fuel st M1 hi ⟨g1, g2, g3, g4⟩ kk
    show wp (f_X8_isSeen_4 (fuel + 1) st (i : Int) M1) _
    have e33 : M1 127 33 = n := by rw [g2.2 33 (by decide) (by decide) (by decide) (by decide)]; exact hN
    rw [f_X8_isSeen_4.eq_2, e33]
    refine wp_f (by omega) ?_
    have hs := hS.2 i (by omega) (by omega)
    by_cases hb : sn e a1 a2 a3 i = true
    · rw [if_pos hb] at g4
      subst g4
      refine wp_f one_ne ?_
      rw [wp_bind]
      refine m_save ?_
      intro M2 a1' a2' a3' a4'
      have hL2 := m_saved g1 a1' a2'
      refine wp_and (by omega) ?_
      have e148 : ∀ j : Int, 148 ≤ j → j ≤ 150 → M1 j = M j := fun j h1 h2 => g2.1 j (by omega) (by omega) (by omega) (by omega) (by omega)
      simp only []
      rw [a1' 150 (by decide) (by decide) (by decide), e148 150 (by decide) (by decide), ← hs.2.2.1]
      obtain ⟨y, hyy⟩ : ∃ y : Nat, a3 (i : Int) = (y : Int) := ⟨(a3 (i : Int)).toNat, by omega⟩
      rw [hyy, wp_bind]
      refine m_years (n := y) hR (by omega) (by omega) hL2 ?_
      intro M3 b1 b2 b3
      refine wp_and (by omega) ?_
      simp only []
      have e2 : ∀ j : Int, 148 ≤ j → j ≤ 150 → M3 j = M j := fun j h1 h2 => (b2 j (by omega) (by omega)).trans ((a1' j (by omega) (by omega) (by omega)).trans (e148 j h1 h2))
      rw [e2 148 (by decide) (by decide), ← hs.1, wp_bind]
      refine m_noise (gyn_r hR y (by omega)) b1 (by omega) ?_
      intro M4 c1
      refine wp_and (by omega) ?_
      simp only []
      rw [c1 149 (by decide) (by decide), e2 149 (by decide) (by decide), ← hs.2.1]
      have fin : ∀ z : Int, z = (if sn e a1 a2 a3 (i + 1) = true then 1 else 0) → wp (f_X8_isSeen_54 (f_X8_isSeen_4 fuel) (i : Int) z M4) Q := by
        intro z hz
        unfold f_X8_isSeen_54
        rw [wp_bind]
        refine m_putB ?_
        intro M5 x1 x2 x3 x4
        have hb := m_back (M2 := M4) g1 a1' a2' a3' a4' (fun j q1 q2 q3 q4 q5 => (c1 j q4 q5).trans (b2 j q1 q2)) (fun q hq => (congrFun (c1 127 (by decide) (by decide)) q).trans (b3 q hq)) x1 x2 x3 x4
        simp only []
        rw [w_suc (by omega)]
        exact kk z M5 ⟨hb.2, MF_tr g2 hb.1, fun j h1 h2 => (x1 j (by omega) (by omega) (by omega)).trans ((c1 j (by omega) (by omega)).trans ((b2 j (by omega) (by omega)).trans ((a1' j (by omega) (by omega) (by omega)).trans (g3 j h1 h2)))), hz⟩
      have es : sn e a1 a2 a3 (i + 1) = sn1 e a1 a2 a3 (i : Int) := by
        show (sn e a1 a2 a3 i && sn1 e a1 a2 a3 (i : Int)) = _
        rw [hb, Bool.true_and]
      have ey : (a3 (i : Int)).toNat = y := by rw [hyy, Int.toNat_natCast]
      by_cases hz : NZ (gyn e y) (a1 (i : Int)) = a2 (i : Int)
      · refine wp_t hz (fin 1 ?_)
        rw [es, if_pos]
        unfold sn1
        rw [ey]
        exact decide_eq_true hz
      · refine wp_f hz (fin 0 ?_)
        rw [es, if_neg]
        unfold sn1
        rw [ey]
        intro h
        exact hz (of_decide_eq_true h)
    · rw [if_neg hb] at g4
      subst g4
      refine wp_t rfl (wp_and (Or.inl rfl) ?_)
      rw [wp_some]
      have := sn_f n (by omega) (Bool.eq_false_iff.2 hb)
      rw [if_neg (by rw [this]; decide)] at k
      exact k M1 g2 g3 g1
  · intro fuel st M1 ⟨g1, g2, g3, g4⟩
    show wp (f_X8_isSeen_4 (fuel + 1) st (n : Int) M1) _
    have e33 : M1 127 33 = n := by rw [g2.2 33 (by decide) (by decide) (by decide) (by decide)]; exact hN
    rw [f_X8_isSeen_4.eq_2, e33]
    refine wp_t (Int.le_refl _) ?_
    subst g4
    refine wp_and (by split <;> omega) ?_
    rw [wp_some]
    exact k M1 g2 g3 g1
def ft (S : Int → Bool) (top : Int) : Nat → Int × Int
  | 0 => (0, -5)
  | n + 1 => if S (top - (n : Int)) = true then ((ft S top n).1 + 1, top - (n : Int)) else ft S top n
theorem ft_r {S : Int → Bool} {top : Int} : ∀ n : Nat, 0 ≤ (ft S top n).1 ∧ (ft S top n).1 ≤ n
  | 0 => by unfold ft; exact ⟨by omega, by omega⟩
  | n + 1 => by
    have := ft_r (S := S) (top := top) n
    unfold ft
    split
    · show 0 ≤ (ft S top n).1 + 1 ∧ (ft S top n).1 + 1 ≤ _
      omega
    · omega
def snU (e : Vw) (M : Mem) (n : Nat) (k : Nat) (s z : Int) : Bool := sn (up e k s z) (M 29) (M 30) (M 31) n
theorem c_fit {e : Vw} {M : Mem} {n k top : Nat} {s p4 x4 y3 y4 : Int} {b1 b2 b3 : Int → Int} {Q : Int → Mem → Prop} (hR : Rg e) (hy : e.1 6 0 ≤ 9999) (hC : LC 22 e M) (hN : M 28 0 = (n : Int)) (hS : SeR (M 28 0) (M 29) (M 30) (M 31) b1 b2 b3)
    (hk : (k = 2 ∧ top = 9) ∨ (k = 3 ∧ top = 40)) (hy3 : y3 = 60 + k) (hs : 0 ≤ s ∧ s < 6) (kk : ∀ M', CF M M' → Q (if x4 = 0 then (ft (snU e M n k s) (top : Int) (top + 1)).1 else (ft (snU e M n k s) (top : Int) (top + 1)).2) M') : wp (f_X7_fitting_34 y3 (top : Int) p4 y4 FU s x4 0 (-5) (top : Int) M) Q := by
  subst hy3
  generalize hT : ft (snU e M n k s) (top : Int) (top + 1) = T at kk
  have e0 : (top : Int) = (top : Int) - 0 := by omega
  have := wloop0 (St := Int × Int) (L := fun fuel x st M' => f_X7_fitting_34 (60 + k) (top : Int) p4 y4 fuel s x4 st.1 st.2 ((top : Int) - x) M') (top + 1) (Inv := fun i st M' => st = ft (snU e M n k s) (top : Int) i ∧ CF M M' ∧ LC 22 e M') (Q := Q) (by omega) (by
    intro i fuel st M1 hi ⟨g1, g2, g3⟩ kk2
    show wp (f_X7_fitting_34 (60 + k) (top : Int) p4 y4 (fuel + 1) s x4 st.1 st.2 ((top : Int) - (i : Int)) M1) _
    rw [f_X7_fitting_34.eq_2]
    refine wp_f (by omega) ?_
    rw [wp_bind]
    refine c_ask g3 ?_
    intro M2 h1 h2
    refine wp_and hs ?_
    simp only [lt]
    rw [wp_bind]
    have hok : okU k ((top : Int) - (i : Int)) := by unfold okU; omega
    have hL3 := LC_u (s := s) (z := (top : Int) - (i : Int)) (k := k) (by omega) (Or.inr (Or.inr rfl)) h1
    have fr : ∀ j : Int, 12 < j → j < 60 → j ≠ 40 → stM M2 (60 + k) s ((top : Int) - (i : Int)) j = M j := fun j c1 c2 c3 => (st_nc (by omega)).trans ((h2 j (by omega)).trans (g2 j (by omega) c3 (by omega) (by omega)))
    generalize hM3 : stM M2 (60 + k) s ((top : Int) - (i : Int)) = M3 at hL3 fr
    refine c_seen (n := n) (b1 := b1) (b2 := b2) (b3 := b3) (u_r hR hok) (by rw [u_y hok]; exact hy) hL3 (by rw [fr 28 (by decide) (by decide) (by decide)]; exact hN) (by rw [fr 28 (by decide) (by decide) (by decide), fr 29 (by decide) (by decide) (by decide), fr 30 (by decide) (by decide) (by decide), fr 31 (by decide) (by decide) (by decide)]; exact hS) ?_
    intro M4 w1
    rw [fr 29 (by decide) (by decide) (by decide), fr 30 (by decide) (by decide) (by decide), fr 31 (by decide) (by decide) (by decide)]
    have f13 : ∀ j : Int, (j < 60 ∨ 65 < j) → j ≠ 78 → M4 j = M1 j := fun j c1 c2 => (w1 j (by omega) (by omega) c2).trans ((congrFun hM3 j).symm.trans ((st_nc (by omega)).trans (h2 j (by omega))))
    have c4 : CF M M4 := fun j c1 c2 c3 c4 => (f13 j c3 c4).trans (g2 j c1 c2 c3 c4)
    have l4 : LC 22 e M4 := by
      obtain ⟨q0, q6, qs, q5, qS⟩ := g3
      rw [← f13 22 (by decide) (by decide)] at q0 q6 qS
      refine ⟨q0, q6, ?_, ?_, SC_fr2 qS (fun a a0 a5 => f13 _ ?_ ?_) rfl⟩
      · rw [f13 (22 + 1) (by decide) (by decide), f13 (22 + 2) (by decide) (by decide), f13 (22 + 3) (by decide) (by decide), f13 (22 + 4) (by decide) (by decide)]
        exact qs
      · rw [f13 (22 + 5) (by decide) (by decide)]
        exact q5
      · have := qS.1
        unfold isStr at this
        omega
      · have := qS.1
        unfold isStr at this
        omega
    have hr := ft_r (S := snU e M n k s) (top := (top : Int)) i
    unfold f_X7_fitting_69
    have ew : w32 ((top : Int) - (i : Int) + (-1)) = (top : Int) - ((i + 1 : Nat) : Int) := by rw [w_id (by omega) (by omega)]; omega
    by_cases hb : sn (up e k s ((top : Int) - (i : Int))) (M 29) (M 30) (M 31) n = true
    · rw [if_pos hb]
      refine wp_f one_ne ?_
      rw [g1, w_id (by omega) (by omega), ew]
      refine kk2 ((ft (snU e M n k s) (top : Int) i).1 + 1, (top : Int) - (i : Int)) M4 ⟨?_, c4, l4⟩
      show _ = if snU e M n k s ((top : Int) - (i : Int)) = true then _ else _
      rw [if_pos (show snU e M n k s ((top : Int) - (i : Int)) = true from hb)]
    · rw [if_neg hb]
      refine wp_t rfl ?_
      rw [g1, ew]
      refine kk2 (ft (snU e M n k s) (top : Int) i) M4 ⟨?_, c4, l4⟩
      show _ = if snU e M n k s ((top : Int) - (i : Int)) = true then _ else _
      rw [if_neg (show ¬ snU e M n k s ((top : Int) - (i : Int)) = true from hb)]) (by
    intro fuel st M1 ⟨g1, g2, g3⟩
    show wp (f_X7_fitting_34 (60 + k) (top : Int) p4 y4 (fuel + 1) s x4 st.1 st.2 ((top : Int) - ((top + 1 : Nat) : Int)) M1) _
    rw [f_X7_fitting_34.eq_2]
    refine wp_t (by omega) ?_
    have kk3 := kk M1 g2
    rw [g1, hT]
    by_cases h0 : x4 = 0
    · rw [if_pos h0] at kk3
      refine wp_t h0 ?_
      rw [wp_some]
      exact kk3
    · rw [if_neg h0] at kk3
      refine wp_f h0 ?_
      rw [wp_some]
      exact kk3) (st := (0, -5)) (M := M) ⟨rfl, CF_rfl M, hC⟩
  have e1 : (fun fuel x (st : Int × Int) M' => f_X7_fitting_34 (60 + k) (top : Int) p4 y4 fuel s x4 st.1 st.2 ((top : Int) - x) M') FU 0 (0, -5) M = f_X7_fitting_34 (60 + k) (top : Int) p4 y4 FU s x4 0 (-5) (top : Int) M := by
    show f_X7_fitting_34 (60 + k) (top : Int) p4 y4 FU s x4 0 (-5) ((top : Int) - 0) M = _
    rw [← e0]
  rw [← e1]
  exact this
theorem m_fit {e : Vw} {M0 M : Mem} {n k top : Nat} {s x2 : Int} {Q : Int → Mem → Prop} {L : Nat → Int → Int → Int → Int → Int → Int → Mem → Option (Int × Mem)}
    (hL0 : ∀ fuel x1 x2 x3 x4 x5 x6 M, L (fuel + 1) x1 x2 x3 x4 x5 x6 M = if x6 < 0 then if 0 ≤ x1 ∧ x1 < 6 then lt (stM M (127 + k) x1 x3) (fun M3 => if x2 = 0 then some (x4, M3) else some (x5, M3)) else none else if 0 ≤ x1 ∧ x1 < 6 then lt (stM M (127 + k) x1 x6) (fun M6 => (f_X8_isSeen M6).bind (fun q7 => if q7.1 = 0 then L fuel x1 x2 x3 x4 x5 (w32 (x6 + (-1))) q7.2 else L fuel x1 x2 x3 (w32 (x4 + 1)) x6 (w32 (x6 + (-1))) q7.2)) else none)
    (hR : Rg e) (hy : e.1 6 0 ≤ 9999) (hL : LM e M) (hN : M 127 33 = (n : Int)) (hS : SeR n (M0 29) (M0 30) (M0 31) (M 148) (M 149) (M 150))
    (hk : (k = 2 ∧ top = 9) ∨ (k = 3 ∧ top = 40)) (hs : 0 ≤ s ∧ s < 6) (kk : ∀ M', MF M M' → LM e M' → Q (if x2 = 0 then (ft (snU e M0 n k s) (top : Int) (top + 1)).1 else (ft (snU e M0 n k s) (top : Int) (top + 1)).2) M') : wp (L FU s x2 (M (127 + k) s) 0 (-5) (top : Int) M) Q := by
  generalize hT : ft (snU e M0 n k s) (top : Int) (top + 1) = T at kk
  have e0 : (top : Int) = (top : Int) - 0 := by omega
  have hkk : k = 2 ∨ k = 3 ∨ k = 4 := by omega
  have hw : M (127 + k) s = e.1 k s := by
    have := hL.2.2.1 s hs.1 hs.2
    rcases hk with ⟨rfl, _⟩ | ⟨rfl, _⟩
    · exact this.2.1
    · exact this.2.2.1
  have hwok : okU k (e.1 k s) := by
    have := hR.2.2.1 s
    rcases hk with ⟨rfl, _⟩ | ⟨rfl, _⟩
    · exact Or.inl ⟨rfl, this.2.1⟩
    · exact Or.inr (Or.inl ⟨rfl, this.2.2.1⟩)
  rw [hw]
  have := wloop0 (St := Int × Int) (L := fun fuel x st M' => L fuel s x2 (e.1 k s) st.1 st.2 ((top : Int) - x) M') (top + 1) (Inv := fun i st M' => st = ft (snU e M0 n k s) (top : Int) i ∧ MF M M' ∧ ∃ z, okU k z ∧ LM (up e k s z) M') (Q := Q) (by omega) (by
    intro i fuel st M1 hi ⟨g1, g2, z, g3, g4⟩ kk2
    show wp (L (fuel + 1) s x2 (e.1 k s) st.1 st.2 ((top : Int) - (i : Int)) M1) _
    rw [hL0]
    refine wp_f (by omega) (wp_and hs ?_)
    simp only [lt]
    rw [wp_bind]
    have hok : okU k ((top : Int) - (i : Int)) := by unfold okU; omega
    have hL3 := m_u (s := s) (z := (top : Int) - (i : Int)) (k := k) hkk g4 (show (top : Int) - (i : Int) = if k = 4 then hm ((top : Int) - (i : Int)) else ((top : Int) - (i : Int)) by rw [if_neg (by omega)])
    rw [u_u] at hL3
    have fr0 : MF M (stM M1 (127 + k) s ((top : Int) - (i : Int))) := ⟨fun j c1 c2 c3 c4 c5 => (st_nc (by omega)).trans (g2.1 j c1 c2 c3 c4 c5), fun q c1 c2 c3 c4 => (congrFun (st_nc (by omega)) q).trans (g2.2 q c1 c2 c3 c4)⟩
    generalize hM3 : stM M1 (127 + k) s ((top : Int) - (i : Int)) = M3 at hL3 fr0
    refine m_seen (n := n) (u_r hR hok) (by rw [u_y hok]; exact hy) hL3 (by rw [fr0.2 33 (by decide) (by decide) (by decide) (by decide)]; exact hN) (by rw [fr0.1 148 (by decide) (by decide) (by decide) (by decide) (by decide), fr0.1 149 (by decide) (by decide) (by decide) (by decide) (by decide), fr0.1 150 (by decide) (by decide) (by decide) (by decide) (by decide)]; exact hS) ?_
    intro M4 w1 _ w3
    have c4 := MF_tr fr0 w1
    have hr := ft_r (S := snU e M0 n k s) (top := (top : Int)) i
    have ew : w32 ((top : Int) - (i : Int) + (-1)) = (top : Int) - ((i + 1 : Nat) : Int) := by rw [w_id (by omega) (by omega)]; omega
    by_cases hb : sn (up e k s ((top : Int) - (i : Int))) (M0 29) (M0 30) (M0 31) n = true
    · rw [if_pos hb]
      refine wp_f one_ne ?_
      rw [g1, w_id (by omega) (by omega), ew]
      refine kk2 ((ft (snU e M0 n k s) (top : Int) i).1 + 1, (top : Int) - (i : Int)) M4 ⟨?_, c4, _, hok, w3⟩
      show _ = if snU e M0 n k s ((top : Int) - (i : Int)) = true then _ else _
      rw [if_pos (show snU e M0 n k s ((top : Int) - (i : Int)) = true from hb)]
    · rw [if_neg hb]
      refine wp_t rfl ?_
      rw [g1, ew]
      refine kk2 (ft (snU e M0 n k s) (top : Int) i) M4 ⟨?_, c4, _, hok, w3⟩
      show _ = if snU e M0 n k s ((top : Int) - (i : Int)) = true then _ else _
      rw [if_neg (show ¬ snU e M0 n k s ((top : Int) - (i : Int)) = true from hb)]) (by
    intro fuel st M1 ⟨g1, g2, z, g3, g4⟩
    show wp (L (fuel + 1) s x2 (e.1 k s) st.1 st.2 ((top : Int) - ((top + 1 : Nat) : Int)) M1) _
    rw [hL0]
    refine wp_t (by omega) (wp_and hs ?_)
    simp only [lt]
    have hL3 := m_u (s := s) (z := e.1 k s) (k := k) hkk g4 (show e.1 k s = if k = 4 then hm (e.1 k s) else (e.1 k s) by rw [if_neg (by omega)])
    rw [u_u, u_self] at hL3
    have fr0 : MF M (stM M1 (127 + k) s (e.1 k s)) := ⟨fun j c1 c2 c3 c4 c5 => (st_nc (by omega)).trans (g2.1 j c1 c2 c3 c4 c5), fun q c1 c2 c3 c4 => (congrFun (st_nc (by omega)) q).trans (g2.2 q c1 c2 c3 c4)⟩
    have kk3 := kk _ fr0 hL3
    rw [g1, hT]
    by_cases h0 : x2 = 0
    · rw [if_pos h0] at kk3
      refine wp_t h0 ?_
      rw [wp_some]
      exact kk3
    · rw [if_neg h0] at kk3
      refine wp_f h0 ?_
      rw [wp_some]
      exact kk3) (st := (0, -5)) (M := M) ⟨rfl, MF_rfl M, e.1 k s, hwok, by rw [u_self]; exact hL⟩
  have e1 : (fun fuel x (st : Int × Int) M' => L fuel s x2 (e.1 k s) st.1 st.2 ((top : Int) - x) M') FU 0 (0, -5) M = L FU s x2 (e.1 k s) 0 (-5) (top : Int) M := by
    show L FU s x2 (e.1 k s) 0 (-5) ((top : Int) - 0) M = _
    rw [← e0]
  rw [← e1]
  exact this
theorem c_fitA {e : Vw} {M : Mem} {n k top : Nat} {s x4 y3 : Int} {b1 b2 b3 : Int → Int} {Q : Int → Mem → Prop} (hR : Rg e) (hy : e.1 6 0 ≤ 9999) (hC : LC 22 e M) (hN : M 28 0 = (n : Int)) (hS : SeR (M 28 0) (M 29) (M 30) (M 31) b1 b2 b3)
    (hk : (k = 2 ∧ top = 9) ∨ (k = 3 ∧ top = 40)) (hy3 : y3 = 60 + k)
    (k1 : ¬ ((0 ≤ s ∧ s < e.1 0 0) ∧ 0 ≤ x4 ∧ x4 ≤ 1) → Q (-1) M) (k2 : (0 ≤ s ∧ s < e.1 0 0) → 0 ≤ x4 ∧ x4 ≤ 1 → ∀ M', CF M M' → Q (if x4 = 0 then (ft (snU e M n k s) (top : Int) (top + 1)).1 else (ft (snU e M n k s) (top : Int) (top + 1)).2) M') : wp (f_X7_fitting y3 (top : Int) s x4 M) Q := by
  have hn := hR.1
  unfold f_X7_fitting f_X7_fitting_24
  rw [wp_bind]
  refine c_has hC ?_
  by_cases hs : 0 ≤ s ∧ s < e.1 0 0
  · rw [if_pos hs]
    refine wp_f one_ne ?_
    by_cases h0 : x4 = 0
    · refine wp_t h0 ?_
      exact c_fit hR hy hC hN hS hk hy3 (by omega) (k2 hs (by omega))
    · refine wp_f h0 ?_
      by_cases h1 : x4 = 1
      · refine wp_t h1 ?_
        exact c_fit hR hy hC hN hS hk hy3 (by omega) (k2 hs (by omega))
      · refine wp_f h1 ?_
        rw [wp_some]
        exact k1 (by omega)
  · rw [if_neg hs]
    refine wp_t rfl ?_
    rw [wp_some]
    exact k1 (by omega)
theorem q_fit {s what : Int} {e : Vw} {M : Mem} {k top : Nat} {A B : Mem → Option (Int × Mem)} {y3 : Int} {L : Nat → Int → Int → Int → Int → Int → Int → Mem → Option (Int × Mem)}
    (hL0 : ∀ fuel x1 x2 x3 x4 x5 x6 M, L (fuel + 1) x1 x2 x3 x4 x5 x6 M = if x6 < 0 then if 0 ≤ x1 ∧ x1 < 6 then lt (stM M (127 + k) x1 x3) (fun M3 => if x2 = 0 then some (x4, M3) else some (x5, M3)) else none else if 0 ≤ x1 ∧ x1 < 6 then lt (stM M (127 + k) x1 x6) (fun M6 => (f_X8_isSeen M6).bind (fun q7 => if q7.1 = 0 then L fuel x1 x2 x3 x4 x5 (w32 (x6 + (-1))) q7.2 else L fuel x1 x2 x3 (w32 (x4 + 1)) x6 (w32 (x6 + (-1))) q7.2)) else none)
    (hk : (k = 2 ∧ top = 9) ∨ (k = 3 ∧ top = 40)) (hy3 : y3 = 60 + k)
    (hA : ∀ M, A M = (f_X7_fitting y3 (top : Int) s what M).bind (fun q1 => some (q1.1, q1.2)))
    (hB : ∀ M, B M = (f_X8_isSound s M).bind (fun q1 => if q1.1 = 0 then some ((-1), q1.2) else (f_X8_in what 0 1 q1.2).bind (fun q4 => if q4.1 = 0 then some ((-1), q4.2) else if 0 ≤ s ∧ s < 6 then L FU s what (q4.2 (127 + k) s) 0 (-5) (top : Int) q4.2 else none)))
    (hR : Rg e) (hy : e.1 6 0 ≤ 9999) (hC : LC 22 e M) (hM : LM e M) (hn : M 127 33 = M 28 0) (hS : SeR (M 28 0) (M 29) (M 30) (M 31) (M 148) (M 149) (M 150)) : QQ A B e M := by
  obtain ⟨n, hN⟩ : ∃ n : Nat, M 28 0 = (n : Int) := ⟨(M 28 0).toNat, by have := hS.1; omega⟩
  have h6 := hR.1
  unfold QQ
  rw [hA, wp_bind]
  refine c_fitA hR hy hC hN hS hk hy3 ?_ ?_
  · intro hx
    rw [wp_some, hB, wp_bind]
    refine m_isS hR hM ?_
    by_cases hs : 0 ≤ s ∧ s < e.1 0 0
    · rw [if_pos hs]
      refine wp_f one_ne ?_
      rw [wp_bind]
      refine m_in_f (fun h => hx ⟨hs, h⟩) ?_
      refine wp_t rfl ?_
      rw [wp_some]
      exact ⟨rfl, CF_rfl M, MF_rfl M, hM⟩
    · rw [if_neg hs]
      refine wp_t rfl ?_
      rw [wp_some]
      exact ⟨rfl, CF_rfl M, MF_rfl M, hM⟩
  · intro hs hw M1 h1
    have hM1 := CF_LM hM h1
    have hq : ∀ j : Int, 127 ≤ j → M1 j = M j := fun j hj => h1 j (by omega) (by omega) (by omega) (by omega)
    rw [wp_some, hB, wp_bind]
    refine m_isS hR hM1 ?_
    rw [if_pos hs]
    refine wp_f one_ne ?_
    rw [wp_bind]
    refine m_in_t hw ?_
    refine wp_f one_ne (wp_and (by omega) ?_)
    simp only []
    rw [hN] at hS
    refine m_fit (M0 := M) (n := n) hL0 hR hy hM1 (by rw [hq 127 (by decide), hn, hN]) (by rw [hq 148 (by decide), hq 149 (by decide), hq 150 (by decide)]; exact hS) hk (by omega) ?_
    intro M2 g1 g2
    exact ⟨rfl, h1, g1, g2⟩
theorem q_louds {s what : Int} {e : Vw} {M : Mem} (hR : Rg e) (hy : e.1 6 0 ≤ 9999) (hC : LC 22 e M) (hM : LM e M) (hn : M 127 33 = M 28 0) (hS : SeR (M 28 0) (M 29) (M 30) (M 31) (M 148) (M 149) (M 150)) : QQ (f_X7_louds s what) (f_X8_louds s what) e M :=
  q_fit (k := 3) (top := 40) (y3 := 63) (L := f_X8_louds_38 s what) (fun _ _ _ _ _ _ _ _ => rfl) (Or.inr ⟨rfl, rfl⟩) rfl (fun _ => rfl) (fun _ => rfl) hR hy hC hM hn hS
theorem q_can {s what : Int} {e : Vw} {M : Mem} (hR : Rg e) (hy : e.1 6 0 ≤ 9999) (hC : LC 22 e M) (hM : LM e M) (hn : M 127 33 = M 28 0) (hS : SeR (M 28 0) (M 29) (M 30) (M 31) (M 148) (M 149) (M 150)) : QQ (f_X7_can s what) (f_X8_can s what) e M :=
  q_fit (k := 2) (top := 9) (y3 := 62) (L := f_X8_can_38 s what) (fun _ _ _ _ _ _ _ _ => rfl) (Or.inl ⟨rfl, rfl⟩) rfl (fun _ => rfl) (fun _ => rfl) hR hy hC hM hn hS
theorem q_where {s : Int} {e : Vw} {M : Mem} (hR : Rg e) (hy : e.1 6 0 ≤ 9999) (hC : LC 22 e M) (hM : LM e M) (hn : M 127 33 = M 28 0) (hS : SeR (M 28 0) (M 29) (M 30) (M 31) (M 148) (M 149) (M 150)) : QQ (f_X7_where s) (f_X8_where s) e M := by
  obtain ⟨n, hN⟩ : ∃ n : Nat, M 28 0 = (n : Int) := ⟨(M 28 0).toNat, by have := hS.1; omega⟩
  have h6 := hR.1
  unfold QQ f_X7_where
  rw [wp_bind]
  refine c_has hC ?_
  by_cases hs : 0 ≤ s ∧ s < e.1 0 0
  · rw [if_pos hs]
    refine wp_f one_ne ?_
    have hs6 : 0 ≤ s ∧ s < 6 := by omega
    have e0 : (0 : Int) = bts (snU e M n 4 s) 0 := rfl
    generalize hT : bts (snU e M n 4 s) 5 = T
    refine wloop0 (St := Int) (L := fun fuel x st M' => f_X7_where_17 s fuel s st x M') 5 (Inv := fun i st M' => st = bts (snU e M n 4 s) i ∧ CF M M' ∧ LC 22 e M') (by omega) ?_ ?_ (st := 0) ⟨rfl, CF_rfl M, hC⟩
    · intro i fuel st M1 hi ⟨g1, g2, g3⟩ kk2
      show wp (f_X7_where_17 s (fuel + 1) s st (i : Int) M1) _
      rw [f_X7_where_17.eq_2]
      refine wp_f (by omega) ?_
      rw [wp_bind]
      refine c_ask g3 ?_
      intro M2 h1 h2
      refine wp_and hs6 ?_
      simp only [lt]
      rw [wp_bind]
      have hok : okU 4 (i : Int) := by unfold okU; omega
      have hL3 := LC_u (s := s) (z := (i : Int)) (k := 4) (by omega) (Or.inr (Or.inr rfl)) h1
      have hL3 : LC 60 (up e 4 s (i : Int)) (stM M2 64 s (i : Int)) := hL3
      have fr : ∀ j : Int, 12 < j → j < 60 → j ≠ 40 → stM M2 64 s (i : Int) j = M j := fun j c1 c2 c3 => (st_nc (by omega)).trans ((h2 j (by omega)).trans (g2 j (by omega) c3 (by omega) (by omega)))
      generalize hM3 : stM M2 64 s (i : Int) = M3 at hL3 fr
      refine c_seen (n := n) (b1 := M 148) (b2 := M 149) (b3 := M 150) (u_r hR hok) (by rw [u_y hok]; exact hy) hL3 (by rw [fr 28 (by decide) (by decide) (by decide)]; exact hN) (by rw [fr 28 (by decide) (by decide) (by decide), fr 29 (by decide) (by decide) (by decide), fr 30 (by decide) (by decide) (by decide), fr 31 (by decide) (by decide) (by decide)]; exact hS) ?_
      intro M4 w1
      rw [fr 29 (by decide) (by decide) (by decide), fr 30 (by decide) (by decide) (by decide), fr 31 (by decide) (by decide) (by decide)]
      have f13 : ∀ j : Int, (j < 60 ∨ 65 < j) → j ≠ 78 → M4 j = M1 j := fun j c1 c2 => (w1 j (by omega) (by omega) c2).trans ((congrFun hM3 j).symm.trans ((st_nc (by omega)).trans (h2 j (by omega))))
      have c4 : CF M M4 := fun j c1 c2 c3 c4 => (f13 j c3 c4).trans (g2 j c1 c2 c3 c4)
      have l4 : LC 22 e M4 := by
        obtain ⟨q0, q6, qs, q5, qS⟩ := g3
        rw [← f13 22 (by decide) (by decide)] at q0 q6 qS
        refine ⟨q0, q6, ?_, ?_, SC_fr2 qS (fun a a0 a5 => f13 _ ?_ ?_) rfl⟩
        · rw [f13 (22 + 1) (by decide) (by decide), f13 (22 + 2) (by decide) (by decide), f13 (22 + 3) (by decide) (by decide), f13 (22 + 4) (by decide) (by decide)]
          exact qs
        · rw [f13 (22 + 5) (by decide) (by decide)]
          exact q5
        · have := qS.1
          unfold isStr at this
          omega
        · have := qS.1
          unfold isStr at this
          omega
      unfold f_X7_where_56
      by_cases hb : sn (up e 4 s (i : Int)) (M 29) (M 30) (M 31) n = true
      · rw [if_pos hb]
        refine wp_f one_ne ?_
        rw [w_suc (by omega)]
        refine kk2 _ M4 ⟨?_, c4, l4⟩
        show _ = if snU e M n 4 s (i : Int) = true then _ else _
        rw [if_pos (show snU e M n 4 s (i : Int) = true from hb), g1]
      · rw [if_neg hb]
        refine wp_t rfl ?_
        rw [w_suc (by omega)]
        refine kk2 _ M4 ⟨?_, c4, l4⟩
        show _ = if snU e M n 4 s (i : Int) = true then _ else _
        rw [if_neg (show ¬ snU e M n 4 s (i : Int) = true from hb), g1]
    · intro fuel st M1 ⟨g1, g2, g3⟩
      show wp (f_X7_where_17 s (fuel + 1) s st (5 : Int) M1) _
      rw [f_X7_where_17.eq_2]
      refine wp_t (Int.le_refl _) ?_
      rw [wp_some, g1, hT]
      have hM1 := CF_LM hM g2
      have hq : ∀ j : Int, 127 ≤ j → M1 j = M j := fun j hj => g2 j (by omega) (by omega) (by omega) (by omega)
      unfold f_X8_where
      rw [wp_bind]
      refine m_isS hR hM1 ?_
      rw [if_pos hs]
      refine wp_f one_ne (wp_and hs6 ?_)
      have hw : M1 131 s = hm (e.1 4 s) := (hM1.2.2.1 s hs6.1 hs6.2).2.2.2
      have hwr := (hR.2.2.1 s).2.2.2.1
      simp only []
      rw [hw]
      rw [hN] at hS
      refine wloop0 (St := Int) (L := fun fuel x st M' => f_X8_where_22 s fuel s (hm (e.1 4 s)) st x M') 5 (Inv := fun i st M' => st = bts (snU e M n 4 s) i ∧ MF M1 M' ∧ ∃ z, okU 4 z ∧ LM (up e 4 s z) M') (by omega) ?_ ?_ (st := 0) ⟨rfl, MF_rfl M1, e.1 4 s, Or.inr (Or.inr ⟨rfl, hwr⟩), by rw [u_self]; exact hM1⟩
      · intro i fuel st M2 hi ⟨v1, v2, z, v3, v4⟩ kk2
        show wp (f_X8_where_22 s (fuel + 1) s (hm (e.1 4 s)) st (i : Int) M2) _
        rw [f_X8_where_22.eq_2]
        refine wp_f (by omega) (wp_and hs6 ?_)
        simp only [lt]
        rw [wp_bind]
        have hok : okU 4 (i : Int) := by unfold okU; omega
        have hL3 := m_u (s := s) (z := (i : Int)) (zz := (i : Int)) (k := 4) (by omega) v4 (by rw [if_pos rfl, hm_of (by omega)])
        rw [u_u] at hL3
        have hL3 : LM (up e 4 s (i : Int)) (stM M2 131 s (i : Int)) := hL3
        have fr0 : MF M1 (stM M2 131 s (i : Int)) := ⟨fun j c1 c2 c3 c4 c5 => (st_nc c4).trans (v2.1 j c1 c2 c3 c4 c5), fun q c1 c2 c3 c4 => (congrFun (st_nc (by decide)) q).trans (v2.2 q c1 c2 c3 c4)⟩
        generalize hM3 : stM M2 131 s (i : Int) = M3 at hL3 fr0
        refine m_seen (n := n) (a1 := M 29) (a2 := M 30) (a3 := M 31) (u_r hR hok) (by rw [u_y hok]; exact hy) hL3 (by rw [fr0.2 33 (by decide) (by decide) (by decide) (by decide), hq 127 (by decide), hn, hN]) (by rw [fr0.1 148 (by decide) (by decide) (by decide) (by decide) (by decide), fr0.1 149 (by decide) (by decide) (by decide) (by decide) (by decide), fr0.1 150 (by decide) (by decide) (by decide) (by decide) (by decide), hq 148 (by decide), hq 149 (by decide), hq 150 (by decide)]; exact hS) ?_
        intro M4 w1 _ w3
        have c4 := MF_tr fr0 w1
        unfold f_X8_where_52
        by_cases hb : sn (up e 4 s (i : Int)) (M 29) (M 30) (M 31) n = true
        · rw [if_pos hb]
          refine wp_f one_ne ?_
          rw [w_suc (by omega)]
          refine kk2 _ M4 ⟨?_, c4, _, hok, w3⟩
          show _ = if snU e M n 4 s (i : Int) = true then _ else _
          rw [if_pos (show snU e M n 4 s (i : Int) = true from hb), v1]
        · rw [if_neg hb]
          refine wp_t rfl ?_
          rw [w_suc (by omega)]
          refine kk2 _ M4 ⟨?_, c4, _, hok, w3⟩
          show _ = if snU e M n 4 s (i : Int) = true then _ else _
          rw [if_neg (show ¬ snU e M n 4 s (i : Int) = true from hb), v1, or_0 (bts_r _ _)]
      · intro fuel st M2 ⟨v1, v2, z, v3, v4⟩
        show wp (f_X8_where_22 s (fuel + 1) s (hm (e.1 4 s)) st (5 : Int) M2) _
        rw [f_X8_where_22.eq_2]
        refine wp_t (Int.le_refl _) (wp_and hs6 ?_)
        simp only [lt]
        have hL3 := m_u (s := s) (z := e.1 4 s) (zz := hm (e.1 4 s)) (k := 4) (by omega) v4 (by rw [if_pos rfl])
        rw [u_u, u_self] at hL3
        have fr0 : MF M1 (stM M2 131 s (hm (e.1 4 s))) := ⟨fun j c1 c2 c3 c4 c5 => (st_nc c4).trans (v2.1 j c1 c2 c3 c4 c5), fun q c1 c2 c3 c4 => (congrFun (st_nc (by decide)) q).trans (v2.2 q c1 c2 c3 c4)⟩
        rw [wp_some, v1, hT]
        exact ⟨rfl, g2, fr0, hL3⟩
  · rw [if_neg hs]
    refine wp_t rfl ?_
    rw [wp_some]
    unfold f_X8_where
    rw [wp_bind]
    refine m_isS hR hM ?_
    rw [if_neg hs]
    refine wp_t rfl ?_
    rw [wp_some]
    exact ⟨rfl, CF_rfl M, MF_rfl M, hM⟩
