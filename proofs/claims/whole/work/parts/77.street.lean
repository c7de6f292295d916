/-! both: a street -/
theorem ev_cg {op od nu op' od' nu' Lf : Int → Int} : ∀ (n : Nat) (i : Int) (st : List Bool), (∀ q : Int, i ≤ q → q < i + n → op' q = op q ∧ od' q = od q ∧ nu' q = nu q) → ev op' od' nu' Lf n i st = ev op od nu Lf n i st
  | 0, _, _, _ => rfl
  | n + 1, i, st, h => by
    have h0 := h i (by omega) (by omega)
    show ev op' od' nu' Lf n (i + 1) (tk (op' i) (od' i) (nu' i) Lf st) = ev op od nu Lf n (i + 1) (tk (op i) (od i) (nu i) Lf st)
    rw [h0.1, h0.2.1, h0.2.2]
    exact ev_cg n (i + 1) _ (fun q a b => h q (by omega) (by omega))
theorem wfE_cg {op op' : Int → Int} : ∀ (n : Nat) (i : Int) (d : Nat), (∀ q : Int, i ≤ q → q < i + n → op' q = op q) → wfE op n i d → wfE op' n i d
  | 0, _, _, _, h => h
  | n + 1, i, d, h, g => by
    have h0 := h i (by omega) (by omega)
    have ih := fun d g => wfE_cg n (i + 1) d (fun q a b => h q (by omega) (by omega)) g
    rcases g with ⟨a1, a2, a3⟩ | ⟨a1, a2, a3⟩ | ⟨a1, a2, a3, a4⟩
    · exact Or.inl ⟨h0.trans a1, a2, ih _ a3⟩
    · exact Or.inr (Or.inl ⟨by rw [h0]; exact a1, a2, ih _ a3⟩)
    · exact Or.inr (Or.inr ⟨by rw [h0]; exact a1, by rw [h0]; exact a2, a3, ih _ a4⟩)
theorem SM_fr2 {k : Int} {e e' : Vw} {M M' : Mem} (h : SM k e M) (ht : TkR k M) (he : e'.2 = e.2) (hf : ∀ j q : Int, (j = 134 ∧ q = k) ∨ (135 ≤ j ∧ j ≤ 138 ∧ 10 * k ≤ q ∧ q < 10 * k + 10) ∨ (j = 139 ∧ 100 * k ≤ q ∧ q < 100 * k + 100) → M' j q = M j q) : SM k e' M' ∧ TkR k M' := by
  obtain ⟨h1, h2, h3, h4, h5, h6⟩ := h
  by_cases hk : 0 ≤ k
  · have c134 : M' 134 k = M 134 k := hf 134 k (by omega)
    have hcn : cnM k M' = cnM k M := by unfold cnM; rw [c134]
    obtain ⟨g1, g2, g3⟩ := h2 hk
    have hcn2 : cnM k M = (M 134 k).toNat := by unfold cnM; rw [if_pos hk]
    have hls : ∀ (w d : Int) (n : Nat), n ≤ cnM k M → lsM M' (10 * k) w d n = lsM M (10 * k) w d n := by
      intro w d n
      induction n with
      | zero => intro _; rfl
      | succ n ih =>
        intro hn
        show (if M' 135 (10 * k + (n : Int)) = w then M' 136 (10 * k + (n : Int)) else lsM M' (10 * k) w d n) = (if M 135 (10 * k + (n : Int)) = w then M 136 (10 * k + (n : Int)) else lsM M (10 * k) w d n)
        rw [hf 135 _ (by omega), hf 136 _ (by omega), ih (by omega)]
    have hmd : ∀ (Lf : Int → Int) (c : Int), 10 * k ≤ c → c < 10 * k + M 134 k → M 135 c ≤ 1 → hMd M' Lf c = hMd M Lf c := by
      intro Lf c c0 c1 c2
      have t := ht hk c c0 c1 c2
      have w := (g3 c c0 c1).2.2.2.2 c2
      unfold hMd
      rw [hf 137 c (by omega), hf 138 c (by omega)]
      congr 1
      refine ev_cg _ _ _ (fun q a b => ?_)
      rw [hf 139 q (by omega)]
      exact ⟨rfl, rfl, rfl⟩
    have hgm : ∀ (Lf : Int → Int) (n : Nat), n ≤ cnM k M → gM M' (10 * k) Lf n = gM M (10 * k) Lf n := by
      intro Lf n
      induction n with
      | zero => intro _; rfl
      | succ n ih =>
        intro hn
        show gM M' (10 * k) Lf n + (if M' 135 (10 * k + (n : Int)) ≤ 1 ∧ hMd M' Lf (10 * k + (n : Int)) = true then (if M' 135 (10 * k + (n : Int)) = 0 then M' 136 (10 * k + (n : Int)) else -M' 136 (10 * k + (n : Int))) else 0) = gM M (10 * k) Lf n + (if M 135 (10 * k + (n : Int)) ≤ 1 ∧ hMd M Lf (10 * k + (n : Int)) = true then (if M 135 (10 * k + (n : Int)) = 0 then M 136 (10 * k + (n : Int)) else -M 136 (10 * k + (n : Int))) else 0)
        rw [ih (by omega), hf 135 _ (by omega), hf 136 _ (by omega)]
        by_cases c2 : M 135 (10 * k + (n : Int)) ≤ 1
        · rw [hmd Lf _ (by omega) (by omega) c2]
        · rw [if_neg (fun c => c2 c.1), if_neg (fun c => c2 c.1)]
    refine ⟨⟨h1, fun _ => ⟨by omega, by omega, fun c c0 c1 => ?_⟩, ?_, ?_, ?_, fun Lf => ?_⟩, fun _ c c0 c1 c2 => ?_⟩
    · rw [c134] at c1
      obtain ⟨w1, w2, w3, w4, w5⟩ := g3 c c0 c1
      have e5 := hf 135 c (by omega)
      have e6 := hf 136 c (by omega)
      have e7 := hf 137 c (by omega)
      have e8 := hf 138 c (by omega)
      unfold wfC
      rw [e5, e6, e7, e8]
      refine ⟨w1, w2, w3, w4, fun c2 => ?_⟩
      obtain ⟨x1, x2, x3, x4, x5⟩ := w5 c2
      have t := ht hk c c0 c1 c2
      refine ⟨x1, x2, x3, wfE_cg _ _ _ (fun q a b => ?_) x4, fun i i0 i1 => ?_⟩
      · show opM (M' 139 q) = opM (M 139 q)
        rw [hf 139 q (by omega)]
      · rw [hf 139 i (by omega)]
        exact x5 i i0 i1
    · rw [he, hcn, hls _ _ _ (Nat.le_refl _)]; exact h3
    · rw [he, hcn, hls _ _ _ (Nat.le_refl _)]; exact h4
    · rw [he, hcn, hls _ _ _ (Nat.le_refl _)]; exact h5
    · rw [he, hcn, hgm _ _ (Nat.le_refl _)]; exact h6 Lf
    · rw [c134] at c1
      rw [hf 135 c (by omega)] at c2
      rw [hf 137 c (by omega), hf 138 c (by omega)]
      exact ht hk c c0 c1 c2
  · have z1 : cnM k M = 0 := by unfold cnM; rw [if_neg hk]
    have z2 : cnM k M' = 0 := by unfold cnM; rw [if_neg hk]
    rw [z1] at h3 h4 h5 h6
    refine ⟨⟨h1, fun c => absurd c hk, ?_, ?_, ?_, fun Lf => ?_⟩, fun c => absurd c hk⟩
    · rw [he, z2]; exact h3
    · rw [he, z2]; exact h4
    · rw [he, z2]; exact h5
    · rw [he, z2]; exact h6 Lf
theorem o_street {M : Mem} (hr : Rel M) : OP f_X7_street f_X8_street M := by
  obtain ⟨e, r1, r2, r3, r4, r5, r6, r7, r8, r9⟩ := hr
  obtain ⟨hR, hy, hC, hM, hz, h7⟩ := r1
  obtain ⟨⟨⟨s1, s2⟩, sb⟩, s3, s4, s5⟩ := r5
  obtain ⟨t1, t2, t3, t4⟩ := r7
  have hk := SM_k hM.2.2.2.2
  unfold OP f_X7_street
  by_cases h6 : M 0 6 < 6
  · refine wp_t h6 (wp_and (by omega) ?_)
    obtain ⟨f, hf⟩ : ∃ f : Nat, M 0 6 = (f : Int) := ⟨(M 0 6).toNat, by omega⟩
    obtain ⟨L, hL⟩ : ∃ L : Nat, M 1 1 = (L : Int) := ⟨(M 1 1).toNat, by omega⟩
    -- the text
    have hTx : TxE (fun p => if p < L then M 2 (p : Int) else -1) L := by
      refine ⟨by omega, fun p hp => if_neg (by omega), fun p hp => ?_⟩
      show 0 ≤ (if p < L then M 2 (p : Int) else -1) ∧ (if p < L then M 2 (p : Int) else -1) ≤ 127
      rw [if_pos hp]
      have := t3 (p : Int) (by omega) (by omega)
      omega
    have hT2 : ∀ i : Nat, i < L → M 2 (i : Int) = (fun p => if p < L then M 2 (p : Int) else -1) i := fun i hi => (if_pos hi).symm
    have hT133 : ∀ i : Nat, i < L → M 133 (i : Int) = (fun p => if p < L then M 2 (p : Int) else -1) i := fun i hi => by
      rw [← hT2 i hi]
      exact (t3 (i : Int) (by omega) (by omega)).1.symm
    generalize (fun p => if p < L then M 2 (p : Int) else -1) = T at hTx hT2 hT133
    rw [hf]
    have er : (79 : Int) + 6 * (f : Int) = stO (f : Int) := by unfold stO; rw [if_neg (by omega)]
    have hstr : isStr (stO (f : Int)) := stO_s (by omega) (by omega)
    have hok : ∀ a, (txt T L).2 = some a → (txt T L).1 = L ∧ a.length ≤ 10 ∧ ∀ x ∈ a, okC x := by
      intro a ha
      have hr0 := clz_r hTx (Nat.zero_le L)
      unfold txt at ha ⊢
      cases hc : (clz T 0).2 with
      | none => rw [hc] at ha; cases ha
      | some x =>
        rw [hc] at ha
        simp only [] at ha ⊢
        refine (tl_r hTx 9 (clz T 0).1 [x] hr0.2.1 rfl (fun y hy => ?_)).2 a ha
        rw [List.mem_singleton] at hy
        rw [hy]
        exact (hr0.2.2 x hc).2
    -- what stays of the streets that are
    have old : ∀ (M' : Mem), (∀ j q : Int, j ≠ 1 → j ≠ 140 → (j < 79 + 6 * (f : Int) ∨ 84 + 6 * (f : Int) < j ∨ (j = 81 + 6 * (f : Int) ∧ q = 0)) → (j ≠ 127 ∨ (q ≠ 7 ∧ q ≠ 8 ∧ q ≠ 9 ∧ q ≠ 10 ∧ q ≠ 11 ∧ q ≠ 20 ∧ q ≠ 21 ∧ q ≠ 22)) → (j ≠ 139 ∨ q < 100 * f ∨ 100 * f + 100 ≤ q) → (j < 135 ∨ 138 < j ∨ q < 10 * f ∨ 10 * f + 10 ≤ q) → (j ≠ 134 ∨ q ≠ f) → (j ≠ 22 ∨ q ≠ 7) → (j ≠ 0 ∨ q ≠ 6) → M' j q = M j q) → ∀ k : Int, -1 ≤ k → k < (f : Int) → (∀ e e' : Vw, e'.2 = e.2 → SC (stO k) e M → SC (stO k) e' M') ∧ (∀ e e' : Vw, e'.2 = e.2 → SM k e M → TkR k M → SM k e' M' ∧ TkR k M') ∧ StP k M' := by
      intro M' hx k k0 k1
      have hso := stO_r (k := k) k0 (by omega)
      have hlt : stO k + 5 < 79 + 6 * (f : Int) := by
        unfold stO
        split
        · omega
        · omega
      have a1 : ∀ e e' : Vw, e'.2 = e.2 → SC (stO k) e M → SC (stO k) e' M' := fun e e' he h => SC_fr2 h (fun i i0 i5 => fr_j (fun q => hx _ q (by omega) (by omega) (by omega) (by omega) (by omega) (by omega) (by omega) (by omega) (by omega))) he
      have a2 : ∀ e e' : Vw, e'.2 = e.2 → SM k e M → TkR k M → SM k e' M' ∧ TkR k M' := fun e e' he h ht => SM_fr2 h ht he (fun j q c => hx j q (by omega) (by omega) (by omega) (by omega) (by omega) (by omega) (by omega) (by omega) (by omega))
      refine ⟨a1, a2, ?_⟩
      obtain ⟨es, b1, b2, b3, b4⟩ := s5 k k0 (by omega)
      have := a2 es es rfl b2 b4
      exact ⟨es, a1 es es rfl b1, this.1, b3, this.2⟩
    obtain ⟨esT, _, _, _, hTkT⟩ := s5 (M 127 8) hk.1 s4
    rw [wp_bind]
    refine c_makes hTx (by omega) hL hT2 ?_ ?_ ?_
    · have := sb (f : Int) (by omega) (by omega)
      rw [show (79 : Int) + 6 * (f : Int) + 2 = 81 + 6 * (f : Int) by omega]
      exact this
    · intro en M1 g1 g2
      rw [wp_lt]
      refine wp_t rfl ?_
      rw [wp_some]
      have u1 : ∀ j q : Int, stM M1 1 1 0 j q = if j = 1 ∧ q = 1 then 0 else M1 j q := fun j q => by rw [st_ap]
      show wp (f_X8_street (stM M1 1 1 0)) (fun v' M2 => w32 (-10 - stM M1 1 1 0 1 2) = v' ∧ Rel M2)
      generalize stM M1 1 1 0 = A at u1
      have fA : ∀ j q : Int, j ≠ 1 → (j < 79 + 6 * (f : Int) ∨ 84 + 6 * (f : Int) < j ∨ (j = 81 + 6 * (f : Int) ∧ q = 0)) → A j q = M j q := fun j q a b => by rw [u1, if_neg (by omega)]; exact g1 j q a (by omega)
      have a12 : A 1 2 = ((txt T L).1 : Int) := by rw [u1, if_neg (by omega)]; exact g2
      have a7 : A 127 7 = (f : Int) := by rw [fA 127 7 (by omega) (by omega), s3, hf]
      unfold f_X8_street
      refine wp_f (by omega) ?_
      rw [wp_bind, a7]
      refine m_goes hTx (by omega) (by rw [fA 127 9 (by omega) (by omega), t1, hL]) (fun i hi => by rw [fA 133 _ (by omega) (by omega)]; exact hT133 i hi) (fun i i0 i1 => by rw [fA 141 i (by omega) (by omega)]; exact t4 i i0 i1) ?_ ?_
      · intro _ M2 v1 v2
        rw [wp_lt]
        refine wp_t rfl ?_
        rw [wp_some]
        have u2 : ∀ j q : Int, stM M2 127 9 0 j q = if j = 127 ∧ q = 9 then 0 else M2 j q := fun j q => by rw [st_ap]
        show w32 (-10 - A 1 2) = w32 (-10 - stM M2 127 9 0 127 10) ∧ Rel (stM M2 127 9 0)
        generalize stM M2 127 9 0 = B at u2
        have fB : ∀ j q : Int, j ≠ 1 → j ≠ 140 → (j < 79 + 6 * (f : Int) ∨ 84 + 6 * (f : Int) < j ∨ (j = 81 + 6 * (f : Int) ∧ q = 0)) → (j ≠ 127 ∨ (q ≠ 9 ∧ q ≠ 10 ∧ q ≠ 11 ∧ q ≠ 20 ∧ q ≠ 21 ∧ q ≠ 22)) → (j ≠ 139 ∨ q < 100 * f ∨ 100 * f + 100 ≤ q) → (j < 135 ∨ 138 < j ∨ q < 10 * f ∨ 10 * f + 10 ≤ q) → (j ≠ 134 ∨ q ≠ f) → B j q = M j q := fun j q a1 a2 a3 a4 a5 a6 a7 => by
          rw [u2, if_neg (by omega), v1 j q a2 (by omega) a5 a6 a7]
          exact fA j q a1 a3
        have hold := old B (fun j q a1 a2 a3 a4 a5 a6 a7 _ _ => fB j q a1 a2 a3 (by omega) a5 a6 a7)
        have hT8 := hold (M 127 8) hk.1 (by omega)
        have e8 : B 127 8 = M 127 8 := fB 127 8 (by omega) (by omega) (by omega) (by omega) (by omega) (by omega) (by omega)
        have e06 : B 0 6 = M 0 6 := fB 0 6 (by omega) (by omega) (by omega) (by omega) (by omega) (by omega) (by omega)
        have bs : ∀ j q : Int, ((16 ≤ j ∧ j ≤ 58) ∨ j = 0 ∨ (13 ≤ j ∧ j ≤ 14) ∨ (115 ≤ j ∧ j ≤ 126) ∨ (128 ≤ j ∧ j ≤ 133) ∨ j = 141 ∨ (148 ≤ j ∧ j ≤ 170) ∨ (j = 127 ∧ (q = 0 ∨ q = 1 ∨ 33 ≤ q))) → B j q = M j q := fun j q c => fB j q (by omega) (by omega) (by omega) (by omega) (by omega) (by omega) (by omega)
        refine ⟨by rw [a12, u2, if_neg (by omega), v2], e, ⟨hR, hy, ?_, ?_, hz, ?_⟩, R2_fr r2 (fun j q c => bs j q (by omega)), R3_fr r3 (fun j q c => bs j q (by omega)), R4_fr r4 (fun j q c => bs j q (by omega)), ⟨⟨⟨by rw [e06]; exact s1, by rw [e06]; exact s2⟩, fun k k0 k1 => ?_⟩, ?_, by rw [e8, e06]; exact s4, fun k k0 k1 => (hold k k0 (by rw [e06] at k1; omega)).2.2⟩, R6_fr r6 (fun j q c => bs j q (by omega)) (by rw [e06]; exact Int.le_refl _), ⟨?_, ⟨?_, ?_⟩, fun i i0 i1 => ?_, fun i i0 i1 => ?_⟩, R8_fr r8 (fun j q c => bs j q (by omega)), R9_fr r9 (fun j q c => bs j q (by omega))⟩
        · obtain ⟨q0, q6, qs, q5, qS⟩ := hC
          rw [h7] at qS
          refine ⟨by rw [bs 22 0 (by omega)]; exact q0, by rw [bs 22 6 (by omega)]; exact q6, fun s x y => by rw [bs (22 + 1) s (by omega), bs (22 + 2) s (by omega), bs (22 + 3) s (by omega), bs (22 + 4) s (by omega)]; exact qs s x y, fun i x y => by rw [bs (22 + 5) i (by omega)]; exact q5 i x y, ?_⟩
          rw [bs 22 7 (by omega), h7]
          exact hT8.1 e e rfl qS
        · obtain ⟨q0, q6, qs, q5, qS⟩ := hM
          refine ⟨by rw [bs 127 0 (by omega)]; exact q0, by rw [bs 127 1 (by omega)]; exact q6, fun s x y => by rw [bs 128 s (by omega), bs 129 s (by omega), bs 130 s (by omega), bs 131 s (by omega)]; exact qs s x y, fun i x y => by rw [bs 132 i (by omega)]; exact q5 i x y, ?_⟩
          rw [e8]
          exact (hT8.2.1 e e rfl qS hTkT).1
        · rw [bs 22 7 (by omega), e8]; exact h7
        · by_cases hkf : k = (f : Int)
          · rw [hkf, fB (81 + 6 * (f : Int)) 0 (by omega) (by omega) (by omega) (by omega) (by omega) (by omega) (by omega)]
            exact sb (f : Int) (by omega) (by omega)
          · rw [fB (81 + 6 * k) 0 (by omega) (by omega) (by omega) (by omega) (by omega) (by omega) (by omega)]
            exact sb k k0 k1
        · rw [fB 127 7 (by omega) (by omega) (by omega) (by omega) (by omega) (by omega) (by omega), e06]; exact s3
        · rw [u2, if_pos ⟨rfl, rfl⟩, u2, if_neg (by omega), v1 1 1 (by omega) (by omega) (by omega) (by omega) (by omega), u1, if_pos ⟨rfl, rfl⟩]
        · rw [u2, if_neg (by omega), v1 1 1 (by omega) (by omega) (by omega) (by omega) (by omega), u1, if_pos ⟨rfl, rfl⟩]; decide
        · rw [u2, if_neg (by omega), v1 1 1 (by omega) (by omega) (by omega) (by omega) (by omega), u1, if_pos ⟨rfl, rfl⟩]; decide
        · rw [u2, if_neg (by omega), v1 1 1 (by omega) (by omega) (by omega) (by omega) (by omega), u1, if_pos ⟨rfl, rfl⟩] at i1; omega
        · rw [bs 141 i (by omega)]; exact t4 i i0 i1
      · intro a ea
        rw [en] at ea
        cases ea
    · intro a ea M1 g1 g2
      obtain ⟨o1, o2, o3⟩ := hok a ea
      rw [wp_lt]
      refine wp_f one_ne ?_
      have u1 : ∀ j q : Int, stM M1 1 1 0 j q = if j = 1 ∧ q = 1 then 0 else M1 j q := fun j q => by rw [st_ap]
      show wp (lt (stM (stM M1 1 1 0) 22 7 (79 + 6 * (f : Int))) (fun M7 => lt (stM M7 0 6 (w32 ((M7 0 6) + 1))) (fun M8 => some (w32 ((M8 0 6) - 1), M8)))) _
      rw [wp_lt]
      generalize hX : stM (stM M1 1 1 0) 22 7 (79 + 6 * (f : Int)) = X
      have x06 : X 0 6 = (f : Int) := by rw [← hX, st_ap, if_neg (by omega), u1, if_neg (by omega), g1 0 6 (by omega) (by omega), hf]
      rw [wp_lt, wp_some, x06, w_suc (by omega)]
      have uA : ∀ j q : Int, stM X 0 6 ((f + 1 : Nat) : Int) j q = if j = 0 ∧ q = 6 then ((f + 1 : Nat) : Int) else if j = 22 ∧ q = 7 then 79 + 6 * (f : Int) else if j = 1 ∧ q = 1 then 0 else M1 j q := fun j q => by rw [st_ap, ← hX, st_ap, u1]
      show wp (f_X8_street (stM X 0 6 ((f + 1 : Nat) : Int))) (fun v' M2 => w32 (stM X 0 6 ((f + 1 : Nat) : Int) 0 6 - 1) = v' ∧ Rel M2)
      generalize stM X 0 6 ((f + 1 : Nat) : Int) = A at uA
      have a06 : A 0 6 = ((f + 1 : Nat) : Int) := by rw [uA, if_pos ⟨rfl, rfl⟩]
      rw [a06, w_id (by omega) (by omega), show ((f + 1 : Nat) : Int) - 1 = (f : Int) by omega]
      have fA : ∀ j q : Int, j ≠ 1 → (j < 79 + 6 * (f : Int) ∨ 84 + 6 * (f : Int) < j ∨ (j = 81 + 6 * (f : Int) ∧ q = 0)) → (j ≠ 0 ∨ q ≠ 6) → (j ≠ 22 ∨ q ≠ 7) → A j q = M j q := fun j q a b c d => by rw [uA, if_neg (by omega), if_neg (by omega), if_neg (by omega)]; exact g1 j q a (by omega)
      have fA1 : ∀ j q : Int, 79 ≤ j → j ≤ 114 → A j q = M1 j q := fun j q a b => by rw [uA, if_neg (by omega), if_neg (by omega), if_neg (by omega)]
      have a7 : A 127 7 = (f : Int) := by rw [fA 127 7 (by omega) (by omega) (by omega) (by omega), s3, hf]
      unfold f_X8_street
      refine wp_f (by omega) ?_
      rw [wp_bind, a7]
      refine m_goes hTx (by omega) (by rw [fA 127 9 (by omega) (by omega) (by omega) (by omega), t1, hL]) (fun i hi => by rw [fA 133 _ (by omega) (by omega) (by omega) (by omega)]; exact hT133 i hi) (fun i i0 i1 => by rw [fA 141 i (by omega) (by omega) (by omega) (by omega)]; exact t4 i i0 i1) ?_ ?_
      · intro en
        rw [ea] at en
        cases en
      · intro a2 ea2 M2 v1 v2 v3
        rw [ea] at ea2
        cases ea2
        rw [wp_lt]
        refine wp_f one_ne ?_
        show wp (lt (stM (stM M2 127 9 0) 127 8 (stM M2 127 9 0 127 7)) (fun M6 => lt (stM M6 127 7 (w32 ((M6 127 7) + 1))) (fun M7 => some (M7 127 8, M7)))) _
        have m7 : stM M2 127 9 0 127 7 = (f : Int) := by rw [st_ap, if_neg (by omega), v1 127 7 (by omega) (by omega) (by omega) (by omega) (by omega), a7]
        rw [m7, wp_lt]
        generalize hY : stM (stM M2 127 9 0) 127 8 (f : Int) = Y
        have y7 : Y 127 7 = (f : Int) := by rw [← hY, st_ap, if_neg (by omega), m7]
        rw [wp_lt, wp_some, y7, w_suc (by omega)]
        have uB : ∀ j q : Int, stM Y 127 7 ((f + 1 : Nat) : Int) j q = if j = 127 ∧ q = 7 then ((f + 1 : Nat) : Int) else if j = 127 ∧ q = 8 then (f : Int) else if j = 127 ∧ q = 9 then 0 else M2 j q := fun j q => by rw [st_ap, ← hY, st_ap, st_ap]
        generalize stM Y 127 7 ((f + 1 : Nat) : Int) = B at uB
        have fB2 : ∀ j q : Int, (j ≠ 127 ∨ (q ≠ 7 ∧ q ≠ 8 ∧ q ≠ 9)) → B j q = M2 j q := fun j q c => by rw [uB, if_neg (by omega), if_neg (by omega), if_neg (by omega)]
        have fBA : ∀ j q : Int, j < 127 → B j q = A j q := fun j q c => by rw [fB2 j q (by omega), v1 j q (by omega) (by omega) (by omega) (by omega) (by omega)]
        have fB : ∀ j q : Int, j ≠ 1 → j ≠ 140 → (j < 79 + 6 * (f : Int) ∨ 84 + 6 * (f : Int) < j ∨ (j = 81 + 6 * (f : Int) ∧ q = 0)) → (j ≠ 127 ∨ (q ≠ 7 ∧ q ≠ 8 ∧ q ≠ 9 ∧ q ≠ 10 ∧ q ≠ 11 ∧ q ≠ 20 ∧ q ≠ 21 ∧ q ≠ 22)) → (j ≠ 139 ∨ q < 100 * f ∨ 100 * f + 100 ≤ q) → (j < 135 ∨ 138 < j ∨ q < 10 * f ∨ 10 * f + 10 ≤ q) → (j ≠ 134 ∨ q ≠ f) → (j ≠ 22 ∨ q ≠ 7) → (j ≠ 0 ∨ q ≠ 6) → B j q = M j q := fun j q a1 a2 a3 a4 a5 a6 a7 a8 a9 => by
          rw [fB2 j q (by omega), v1 j q a2 (by omega) a5 a6 a7]
          exact fA j q a1 a3 a9 a8
        have hold := old B fB
        have e8 : B 127 8 = (f : Int) := by rw [uB, if_neg (by omega), if_pos ⟨rfl, rfl⟩]
        have e06 : B 0 6 = ((f + 1 : Nat) : Int) := by rw [fBA 0 6 (by omega), a06]
        have e227 : B 22 7 = stO (f : Int) := by rw [fBA 22 7 (by omega), uA, if_neg (by omega), if_pos ⟨rfl, rfl⟩, er]
        have bs : ∀ j q : Int, ((16 ≤ j ∧ j ≤ 58 ∧ (j ≠ 22 ∨ q ≠ 7)) ∨ (j = 0 ∧ q ≠ 6) ∨ (13 ≤ j ∧ j ≤ 14) ∨ (115 ≤ j ∧ j ≤ 126) ∨ (128 ≤ j ∧ j ≤ 133) ∨ j = 141 ∨ (148 ≤ j ∧ j ≤ 170) ∨ (j = 127 ∧ (q = 0 ∨ q = 1 ∨ 33 ≤ q))) → B j q = M j q := fun j q c => fB j q (by omega) (by omega) (by omega) (by omega) (by omega) (by omega) (by omega) (by omega) (by omega)
        have hSC : SC (stO (f : Int)) (e.1, vS a) B := by
          have h0 := CK_SC (e1 := e.1) hTx (by rw [er]; exact hstr) g2 o3 o2
          rw [er] at h0
          have hso := stO_r (k := (f : Int)) (by omega) (by omega)
          have hso2 : 79 ≤ stO (f : Int) := by rw [← er]; omega
          exact SC_fr2 h0 (fun i i0 i5 => fr_j (fun q => by rw [fBA _ q (by omega), fA1 _ q (by omega) (by omega)])) rfl
        have hSM : SM (f : Int) (e.1, vS a) B ∧ TkR (f : Int) B := by
          have h0 := MK_SM (e1 := e.1) hTx (by omega) v2 v3 o3 o2
          have hj : ∀ j : Int, 134 ≤ j → j ≤ 139 → B j = M2 j := fun j x y => fr_j (fun q => fB2 j q (by omega))
          refine ⟨SM_fr h0.1 hj rfl, ?_⟩
          have h1 := h0.2
          unfold TkR at h1 ⊢
          rw [hj 134 (by omega) (by omega), hj 135 (by omega) (by omega), hj 137 (by omega) (by omega), hj 138 (by omega) (by omega)]
          exact h1
        have hRS : RgS (e.1, vS a) := vS_r o3 o2
        refine ⟨by show (f : Int) = B 127 8; rw [e8], (e.1, vS a), ⟨⟨hR.1, hR.2.1, hR.2.2.1, hRS.1, hRS.2⟩, hy, ?_, ?_, hz, ?_⟩, R2_fr r2 (fun j q c => bs j q (by omega)), R3_fr r3 (fun j q c => bs j q (by omega)), R4_fr r4 (fun j q c => bs j q (by omega)), ⟨⟨⟨by rw [e06]; omega, by rw [e06]; omega⟩, fun k k0 k1 => ?_⟩, ?_, by rw [e8, e06]; omega, fun k k0 k1 => ?_⟩, R6_fr r6 (fun j q c => bs j q (by omega)) (by rw [e06]; omega), ⟨?_, ⟨?_, ?_⟩, fun i i0 i1 => ?_, fun i i0 i1 => ?_⟩, R8_fr r8 (fun j q c => bs j q (by omega)), R9_fr r9 (fun j q c => bs j q (by omega))⟩
        · obtain ⟨q0, q6, qs, q5, qS⟩ := hC
          refine ⟨by rw [bs 22 0 (by omega)]; exact q0, by rw [bs 22 6 (by omega)]; exact q6, fun s x y => by rw [bs (22 + 1) s (by omega), bs (22 + 2) s (by omega), bs (22 + 3) s (by omega), bs (22 + 4) s (by omega)]; exact qs s x y, fun i x y => by rw [bs (22 + 5) i (by omega)]; exact q5 i x y, ?_⟩
          rw [e227]
          exact hSC
        · obtain ⟨q0, q6, qs, q5, qS⟩ := hM
          refine ⟨by rw [bs 127 0 (by omega)]; exact q0, by rw [bs 127 1 (by omega)]; exact q6, fun s x y => by rw [bs 128 s (by omega), bs 129 s (by omega), bs 130 s (by omega), bs 131 s (by omega)]; exact qs s x y, fun i x y => by rw [bs 132 i (by omega)]; exact q5 i x y, ?_⟩
          rw [e8]
          exact hSM.1
        · rw [e227, e8]
        · by_cases hkf : k = (f : Int)
          · rw [hkf, fB (81 + 6 * (f : Int)) 0 (by omega) (by omega) (by omega) (by omega) (by omega) (by omega) (by omega) (by omega) (by omega)]
            exact sb (f : Int) (by omega) (by omega)
          · rw [fB (81 + 6 * k) 0 (by omega) (by omega) (by omega) (by omega) (by omega) (by omega) (by omega) (by omega) (by omega)]
            exact sb k k0 k1
        · rw [uB, if_pos ⟨rfl, rfl⟩, e06]
        · rw [e06] at k1
          by_cases hkf : k = (f : Int)
          · rw [hkf]
            exact ⟨(e.1, vS a), hSC, hSM.1, hRS, hSM.2⟩
          · exact (hold k k0 (by omega)).2.2
        · rw [uB, if_neg (by omega), if_neg (by omega), if_pos ⟨rfl, rfl⟩, fBA 1 1 (by omega), uA, if_neg (by omega), if_neg (by omega), if_pos ⟨rfl, rfl⟩]
        · rw [fBA 1 1 (by omega), uA, if_neg (by omega), if_neg (by omega), if_pos ⟨rfl, rfl⟩]; decide
        · rw [fBA 1 1 (by omega), uA, if_neg (by omega), if_neg (by omega), if_pos ⟨rfl, rfl⟩]; decide
        · rw [fBA 1 1 (by omega), uA, if_neg (by omega), if_neg (by omega), if_pos ⟨rfl, rfl⟩] at i1; omega
        · rw [bs 141 i (by omega)]; exact t4 i i0 i1
  · refine wp_f h6 ?_
    rw [wp_some]
    unfold f_X8_street
    refine wp_t (by omega) ?_
    rw [wp_some]
    exact ⟨rfl, e, ⟨hR, hy, hC, hM, hz, h7⟩, r2, r3, r4, ⟨⟨⟨s1, s2⟩, sb⟩, s3, s4, s5⟩, r6, ⟨t1, t2, t3, t4⟩, r8, r9⟩
