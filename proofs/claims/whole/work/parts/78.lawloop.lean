/-! the law's loop: class and model answer alike, call by call -/
theorem o_told {p : Int} {M : Mem} (hp : i32 p) (hr : Rel M) : OP (f_X7_told p) (f_X8_told p) M := by
  obtain ⟨e, h⟩ := hr
  obtain ⟨hR, hy, hC, hM, _, _⟩ := h.1
  exact OP_q h (q_told hp hR hC hM)
theorem o_of {s p : Int} {M : Mem} (hp : i32 p) (hr : Rel M) : OP (f_X7_of s p) (f_X8_of s p) M := by
  obtain ⟨e, h⟩ := hr
  obtain ⟨hR, hy, hC, hM, _, _⟩ := h.1
  exact OP_q h (q_of hp hR hC hM)
theorem o_home {s : Int} {M : Mem} (hr : Rel M) : OP (f_X7_home s) (f_X8_home s) M := by
  obtain ⟨e, h⟩ := hr
  obtain ⟨hR, hy, hC, hM, _, _⟩ := h.1
  exact OP_q h (q_home hR hC hM)
theorem o_best {p : Int} {M : Mem} (hr : Rel M) : OP (f_X7_best p) (f_X8_best p) M := by
  obtain ⟨e, h⟩ := hr
  obtain ⟨hR, hy, hC, hM, _, _⟩ := h.1
  exact OP_q h (q_best hR hC hM)
theorem o_odds {h part : Int} {M : Mem} (hr : Rel M) : OP (f_X7_odds h part) (f_X8_odds h part) M := by
  obtain ⟨e, h⟩ := hr
  obtain ⟨hR, hy, hC, hM, _, _⟩ := h.1
  exact OP_q h (q_odds hR hC hM)
theorem o_mean {n part : Int} {M : Mem} (hr : Rel M) : OP (f_X7_mean n part) (f_X8_mean n part) M := by
  obtain ⟨e, h⟩ := hr
  obtain ⟨hR, hy, hC, hM, _, _⟩ := h.1
  exact OP_q h (q_mean hR hy hC hM)
theorem o_on {n p : Int} {M : Mem} (hp : i32 p) (hr : Rel M) : OP (f_X7_on n p) (f_X8_on n p) M := by
  obtain ⟨e, h⟩ := hr
  obtain ⟨hR, hy, hC, hM, _, _⟩ := h.1
  exact OP_q h (q_on hp hR hy hC hM)
theorem o_when {w p : Int} {M : Mem} (hr : Rel M) : OP (f_X7_when w p) (f_X8_when w p) M := by
  obtain ⟨e, h⟩ := hr
  obtain ⟨hR, hy, hC, hM, _, _⟩ := h.1
  exact OP_q h (q_when hR hy hC hM)
theorem o_ends {w : Int} {M : Mem} (hr : Rel M) : OP (f_X7_ends w) (f_X8_ends w) M := by
  obtain ⟨e, h⟩ := hr
  obtain ⟨hR, hy, hC, hM, _, _⟩ := h.1
  exact OP_q h (q_ends hR hy hC hM h.2.2.1.2 h.2.2.1.1)
theorem o_louds {s w : Int} {M : Mem} (hr : Rel M) : OP (f_X7_louds s w) (f_X8_louds s w) M := by
  obtain ⟨e, h⟩ := hr
  obtain ⟨hR, hy, hC, hM, _, _⟩ := h.1
  exact OP_q h (q_louds hR hy hC hM h.2.1.1 h.2.1.2)
theorem o_can {s w : Int} {M : Mem} (hr : Rel M) : OP (f_X7_can s w) (f_X8_can s w) M := by
  obtain ⟨e, h⟩ := hr
  obtain ⟨hR, hy, hC, hM, _, _⟩ := h.1
  exact OP_q h (q_can hR hy hC hM h.2.1.1 h.2.1.2)
theorem o_where {s : Int} {M : Mem} (hr : Rel M) : OP (f_X7_where s) (f_X8_where s) M := by
  obtain ⟨e, h⟩ := hr
  obtain ⟨hR, hy, hC, hM, _, _⟩ := h.1
  exact OP_q h (q_where hR hy hC hM h.2.1.1 h.2.1.2)
theorem o_fewest {k : Int} {M : Mem} (hr : Rel M) : OP (f_X7_fewest k) (f_X8_fewest k) M := by
  obtain ⟨e, h⟩ := hr
  obtain ⟨hR, hy, hC, hM, _, _⟩ := h.1
  exact OP_q h (q_fewest hR hC hM)
theorem o_shared {p : Int} {M : Mem} (hp : i32 p) (hr : Rel M) : OP (f_X7_shared p) (f_X8_shared p) M := by
  obtain ⟨e, h⟩ := hr
  obtain ⟨hR, hy, hC, hM, _, _⟩ := h.1
  exact OP_q h (q_shared hp hR hC hM)
theorem law_1 {L : Nat} {xv : Int → Int} (hL : L ≤ 3072) (hx : ∀ q, i32 (xv q)) : ∀ (n i : Nat) (M : Mem), L + 6 ≤ 6 * n + i → i ≤ L → Rel M → wp (f_L_law_18 L xv n (i : Int) M) (fun v _ => v = 1)
  | 0, i, M, h1, h2, _ => by omega
  | n + 1, i, M, h1, h2, hr => by
    rw [f_L_law_18.eq_2, w_id (z := (L : Int) - 6) (by omega) (by omega)]
    by_cases hend : (L : Int) - 6 < (i : Int)
    · refine wp_t hend ?_
      rw [wp_some]
    refine wp_f hend (wp_and (by omega) ?_)
    have g1 : 0 ≤ w32 ((i : Int) + 1) ∧ w32 ((i : Int) + 1) < (L : Int) := by rw [w_id (by omega) (by omega)]; omega
    have g2 : 0 ≤ w32 ((i : Int) + 2) ∧ w32 ((i : Int) + 2) < (L : Int) := by rw [w_id (by omega) (by omega)]; omega
    have g3 : 0 ≤ w32 ((i : Int) + 3) ∧ w32 ((i : Int) + 3) < (L : Int) := by rw [w_id (by omega) (by omega)]; omega
    have g4 : 0 ≤ w32 ((i : Int) + 4) ∧ w32 ((i : Int) + 4) < (L : Int) := by rw [w_id (by omega) (by omega)]; omega
    have g5 : 0 ≤ w32 ((i : Int) + 5) ∧ w32 ((i : Int) + 5) < (L : Int) := by rw [w_id (by omega) (by omega)]; omega
    have next : ∀ M2, Rel M2 → wp (f_L_law_1387 L xv (f_L_law_18 L xv n) (i : Int) M2) (fun v _ => v = 1) := by
      intro M2 h
      unfold f_L_law_1387
      rw [w_id (by omega) (by omega), show (i : Int) + 6 = ((i + 6 : Nat) : Int) by omega]
      exact law_1 hL hx n (i + 6) M2 (by omega) (by omega) h
    by_cases h0 : and32 (xv (i : Int)) 63 = 0
    · refine wp_t h0 (wp_and g1 (wp_and g2 (wp_and g3 (wp_and g4 ?_))))
      rw [wp_bind]
      refine wp_mono (o_sound hr) ?_
      intro v M1 a1
      refine wp_and g1 (wp_and g2 (wp_and g3 (wp_and g4 ?_)))
      rw [wp_bind]
      refine wp_mono a1 ?_
      intro v' M2 ⟨e, hM2⟩
      exact wp_t (e) (next M2 hM2)
    refine wp_f h0 ?_
    by_cases h1 : and32 (xv (i : Int)) 63 = 1
    · refine wp_t h1 (wp_and g1 (wp_and g2 ?_))
      rw [wp_bind]
      refine wp_mono (o_of (hx _) hr) ?_
      intro v M1 a1
      refine wp_and g1 (wp_and g2 ?_)
      rw [wp_bind]
      refine wp_mono a1 ?_
      intro v' M2 ⟨e, hM2⟩
      exact wp_t (e) (next M2 hM2)
    refine wp_f h1 ?_
    by_cases h2 : and32 (xv (i : Int)) 63 = 2
    · refine wp_t h2 (wp_and g1 (wp_and g2 ?_))
      rw [wp_bind]
      refine wp_mono (o_set hr) ?_
      intro v M1 a1
      refine wp_and g1 (wp_and g2 ?_)
      rw [wp_bind]
      refine wp_mono a1 ?_
      intro v' M2 ⟨e, hM2⟩
      exact wp_t (e) (next M2 hM2)
    refine wp_f h2 ?_
    by_cases h3 : and32 (xv (i : Int)) 63 = 3
    · refine wp_t h3 (wp_and g1 (wp_and g2 ?_))
      rw [wp_bind]
      refine wp_mono (o_pass hr) ?_
      intro v M1 a1
      refine wp_and g1 (wp_and g2 ?_)
      rw [wp_bind]
      refine wp_mono a1 ?_
      intro v' M2 ⟨e, hM2⟩
      exact wp_t (e) (next M2 hM2)
    refine wp_f h3 ?_
    by_cases h4 : and32 (xv (i : Int)) 63 = 4
    · refine wp_t h4 (wp_and g1 ?_)
      rw [wp_bind]
      refine wp_mono (o_lose hr) ?_
      intro v M1 a1
      refine wp_and g1 ?_
      rw [wp_bind]
      refine wp_mono a1 ?_
      intro v' M2 ⟨e, hM2⟩
      exact wp_t (e) (next M2 hM2)
    refine wp_f h4 ?_
    by_cases h5 : and32 (xv (i : Int)) 63 = 5
    · refine wp_t h5 (wp_and g1 (wp_and g2 ?_))
      rw [wp_bind]
      refine wp_mono (o_find hr) ?_
      intro v M1 a1
      refine wp_and g1 (wp_and g2 ?_)
      rw [wp_bind]
      refine wp_mono a1 ?_
      intro v' M2 ⟨e, hM2⟩
      exact wp_t (e) (next M2 hM2)
    refine wp_f h5 ?_
    by_cases h6 : and32 (xv (i : Int)) 63 = 6
    · refine wp_t h6 (wp_and g1 (wp_and g2 (wp_and g3 ?_)))
      rw [wp_bind]
      refine wp_mono (o_row hr) ?_
      intro v M1 a1
      refine wp_and g1 (wp_and g2 (wp_and g3 ?_))
      rw [wp_bind]
      refine wp_mono a1 ?_
      intro v' M2 ⟨e, hM2⟩
      exact wp_t (e) (next M2 hM2)
    refine wp_f h6 ?_
    by_cases h7 : and32 (xv (i : Int)) 63 = 7
    · refine wp_t h7 (wp_and g1 ?_)
      rw [wp_bind]
      refine wp_mono (o_feed hr) ?_
      intro v M1 a1
      refine wp_and g1 ?_
      rw [wp_bind]
      refine wp_mono a1 ?_
      intro v' M2 ⟨e, hM2⟩
      exact wp_t (e) (next M2 hM2)
    refine wp_f h7 ?_
    by_cases h8 : and32 (xv (i : Int)) 63 = 8
    · refine wp_t h8 ?_
      rw [wp_bind]
      refine wp_mono (o_street hr) ?_
      intro v M1 a1
      rw [wp_bind]
      refine wp_mono a1 ?_
      intro v' M2 ⟨e, hM2⟩
      exact wp_t (e) (next M2 hM2)
    refine wp_f h8 ?_
    by_cases h9 : and32 (xv (i : Int)) 63 = 9
    · refine wp_t h9 (wp_and g1 ?_)
      rw [wp_bind]
      refine wp_mono (o_told (hx _) hr) ?_
      intro v M1 a1
      refine wp_and g1 ?_
      rw [wp_bind]
      refine wp_mono a1 ?_
      intro v' M2 ⟨e, hM2⟩
      exact wp_t (e) (next M2 hM2)
    refine wp_f h9 ?_
    by_cases h10 : and32 (xv (i : Int)) 63 = 10
    · refine wp_t h10 (wp_and g1 ?_)
      rw [wp_bind]
      refine wp_mono (o_years hr) ?_
      intro v M1 a1
      refine wp_and g1 ?_
      rw [wp_bind]
      refine wp_mono a1 ?_
      intro v' M2 ⟨e, hM2⟩
      exact wp_t (e) (next M2 hM2)
    refine wp_f h10 ?_
    by_cases h11 : and32 (xv (i : Int)) 63 = 11
    · refine wp_t h11 (wp_and g1 (wp_and g2 ?_))
      rw [wp_bind]
      refine wp_mono (o_on (hx _) hr) ?_
      intro v M1 a1
      refine wp_and g1 (wp_and g2 ?_)
      rw [wp_bind]
      refine wp_mono a1 ?_
      intro v' M2 ⟨e, hM2⟩
      exact wp_t (e) (next M2 hM2)
    refine wp_f h11 ?_
    by_cases h12 : and32 (xv (i : Int)) 63 = 12
    · refine wp_t h12 (wp_and g1 (wp_and g2 ?_))
      rw [wp_bind]
      refine wp_mono (o_when hr) ?_
      intro v M1 a1
      refine wp_and g1 (wp_and g2 ?_)
      rw [wp_bind]
      refine wp_mono a1 ?_
      intro v' M2 ⟨e, hM2⟩
      exact wp_t (e) (next M2 hM2)
    refine wp_f h12 ?_
    by_cases h13 : and32 (xv (i : Int)) 63 = 13
    · refine wp_t h13 (wp_and g1 ?_)
      rw [wp_bind]
      refine wp_mono (o_home hr) ?_
      intro v M1 a1
      refine wp_and g1 ?_
      rw [wp_bind]
      refine wp_mono a1 ?_
      intro v' M2 ⟨e, hM2⟩
      exact wp_t (e) (next M2 hM2)
    refine wp_f h13 ?_
    by_cases h14 : and32 (xv (i : Int)) 63 = 14
    · refine wp_t h14 (wp_and g1 ?_)
      rw [wp_bind]
      refine wp_mono (o_shared (hx _) hr) ?_
      intro v M1 a1
      refine wp_and g1 ?_
      rw [wp_bind]
      refine wp_mono a1 ?_
      intro v' M2 ⟨e, hM2⟩
      exact wp_t (e) (next M2 hM2)
    refine wp_f h14 ?_
    by_cases h15 : and32 (xv (i : Int)) 63 = 15
    · refine wp_t h15 (wp_and g1 ?_)
      rw [wp_bind]
      refine wp_mono (o_best hr) ?_
      intro v M1 a1
      refine wp_and g1 ?_
      rw [wp_bind]
      refine wp_mono a1 ?_
      intro v' M2 ⟨e, hM2⟩
      exact wp_t (e) (next M2 hM2)
    refine wp_f h15 ?_
    by_cases h16 : and32 (xv (i : Int)) 63 = 16
    · refine wp_t h16 (wp_and g1 ?_)
      rw [wp_bind]
      refine wp_mono (o_fewest hr) ?_
      intro v M1 a1
      refine wp_and g1 ?_
      rw [wp_bind]
      refine wp_mono a1 ?_
      intro v' M2 ⟨e, hM2⟩
      exact wp_t (e) (next M2 hM2)
    refine wp_f h16 ?_
    by_cases h17 : and32 (xv (i : Int)) 63 = 17
    · refine wp_t h17 (wp_and g1 (wp_and g2 (wp_and g3 ?_)))
      rw [wp_bind]
      refine wp_mono (o_see hr) ?_
      intro v M1 a1
      refine wp_and g1 (wp_and g2 (wp_and g3 ?_))
      rw [wp_bind]
      refine wp_mono a1 ?_
      intro v' M2 ⟨e, hM2⟩
      exact wp_t (e) (next M2 hM2)
    refine wp_f h17 ?_
    by_cases h18 : and32 (xv (i : Int)) 63 = 18
    · refine wp_t h18 (wp_and g1 (wp_and g2 ?_))
      rw [wp_bind]
      refine wp_mono (o_louds hr) ?_
      intro v M1 a1
      refine wp_and g1 (wp_and g2 ?_)
      rw [wp_bind]
      refine wp_mono a1 ?_
      intro v' M2 ⟨e, hM2⟩
      exact wp_t (e) (next M2 hM2)
    refine wp_f h18 ?_
    by_cases h19 : and32 (xv (i : Int)) 63 = 19
    · refine wp_t h19 (wp_and g1 (wp_and g2 ?_))
      rw [wp_bind]
      refine wp_mono (o_can hr) ?_
      intro v M1 a1
      refine wp_and g1 (wp_and g2 ?_)
      rw [wp_bind]
      refine wp_mono a1 ?_
      intro v' M2 ⟨e, hM2⟩
      exact wp_t (e) (next M2 hM2)
    refine wp_f h19 ?_
    by_cases h20 : and32 (xv (i : Int)) 63 = 20
    · refine wp_t h20 (wp_and g1 ?_)
      rw [wp_bind]
      refine wp_mono (o_where hr) ?_
      intro v M1 a1
      refine wp_and g1 ?_
      rw [wp_bind]
      refine wp_mono a1 ?_
      intro v' M2 ⟨e, hM2⟩
      exact wp_t (e) (next M2 hM2)
    refine wp_f h20 ?_
    by_cases h21 : and32 (xv (i : Int)) 63 = 21
    · refine wp_t h21 (wp_and g1 (wp_and g2 ?_))
      rw [wp_bind]
      refine wp_mono (o_odds hr) ?_
      intro v M1 a1
      refine wp_and g1 (wp_and g2 ?_)
      rw [wp_bind]
      refine wp_mono a1 ?_
      intro v' M2 ⟨e, hM2⟩
      exact wp_t (cmp_0.2 e) (next M2 hM2)
    refine wp_f h21 ?_
    by_cases h22 : and32 (xv (i : Int)) 63 = 22
    · refine wp_t h22 (wp_and g1 (wp_and g2 ?_))
      rw [wp_bind]
      refine wp_mono (o_mean hr) ?_
      intro v M1 a1
      refine wp_and g1 (wp_and g2 ?_)
      rw [wp_bind]
      refine wp_mono a1 ?_
      intro v' M2 ⟨e, hM2⟩
      exact wp_t (cmp_0.2 e) (next M2 hM2)
    refine wp_f h22 ?_
    by_cases h23 : and32 (xv (i : Int)) 63 = 23
    · refine wp_t h23 (wp_and g1 (wp_and g2 ?_))
      rw [wp_bind]
      refine wp_mono (o_plan hr) ?_
      intro v M1 a1
      refine wp_and g1 (wp_and g2 ?_)
      rw [wp_bind]
      refine wp_mono a1 ?_
      intro v' M2 ⟨e, hM2⟩
      exact wp_t (e) (next M2 hM2)
    refine wp_f h23 ?_
    by_cases h24 : and32 (xv (i : Int)) 63 = 24
    · refine wp_t h24 (wp_and g1 ?_)
      rw [wp_bind]
      refine wp_mono (o_ends hr) ?_
      intro v M1 a1
      refine wp_and g1 ?_
      rw [wp_bind]
      refine wp_mono a1 ?_
      intro v' M2 ⟨e, hM2⟩
      exact wp_t (e) (next M2 hM2)
    refine wp_f h24 ?_
    by_cases h25 : and32 (xv (i : Int)) 63 = 25
    · refine wp_t h25 (wp_and g1 (wp_and g2 ?_))
      rw [wp_bind]
      refine wp_mono (o_book hr) ?_
      intro v M1 a1
      refine wp_and g1 (wp_and g2 ?_)
      rw [wp_bind]
      refine wp_mono a1 ?_
      intro v' M2 ⟨e, hM2⟩
      exact wp_t (e) (next M2 hM2)
    refine wp_f h25 ?_
    by_cases h26 : and32 (xv (i : Int)) 63 = 26
    · refine wp_t h26 ?_
      rw [wp_bind]
      refine wp_mono (o_looked hr) ?_
      intro v M1 a1
      rw [wp_bind]
      refine wp_mono a1 ?_
      intro v' M2 ⟨e, hM2⟩
      exact wp_t (e) (next M2 hM2)
    refine wp_f h26 ?_
    by_cases h27 : and32 (xv (i : Int)) 63 = 27
    · refine wp_t h27 (wp_and g1 (wp_and g2 ?_))
      rw [wp_bind]
      refine wp_mono (o_judge (hx _) hr) ?_
      intro v M1 a1
      refine wp_and g1 (wp_and g2 ?_)
      rw [wp_bind]
      refine wp_mono a1 ?_
      intro v' M2 ⟨e, hM2⟩
      exact wp_t (e) (next M2 hM2)
    refine wp_f h27 ?_
    by_cases h28 : and32 (xv (i : Int)) 63 = 28
    · refine wp_t h28 ?_
      rw [wp_bind]
      refine wp_mono (o_image hr) ?_
      intro v M1 a1
      rw [wp_bind]
      refine wp_mono a1 ?_
      intro v' M2 ⟨e, hM2⟩
      exact wp_t (e) (next M2 hM2)
    refine wp_f h28 ?_
    by_cases h29 : and32 (xv (i : Int)) 63 = 29
    · refine wp_t h29 ?_
      rw [wp_bind]
      refine wp_mono (o_undo hr) ?_
      intro v M1 a1
      rw [wp_bind]
      refine wp_mono a1 ?_
      intro v' M2 ⟨e, hM2⟩
      exact wp_t (e) (next M2 hM2)
    refine wp_f h29 ?_
    by_cases h30 : and32 (xv (i : Int)) 63 = 30
    · refine wp_t h30 (wp_and g1 (wp_and g2 (wp_and g3 ?_)))
      rw [wp_bind]
      refine wp_mono (o_act hr) ?_
      intro v M1 a1
      refine wp_and g1 (wp_and g2 (wp_and g3 ?_))
      rw [wp_bind]
      refine wp_mono a1 ?_
      intro v' M2 ⟨e, hM2⟩
      exact wp_t (e) (next M2 hM2)
    refine wp_f h30 ?_
    by_cases h31 : and32 (xv (i : Int)) 63 = 31
    · refine wp_t h31 (wp_and g1 ?_)
      rw [wp_bind]
      refine wp_mono (o_trace hr) ?_
      intro v M1 a1
      refine wp_and g1 ?_
      rw [wp_bind]
      refine wp_mono a1 ?_
      intro v' M2 ⟨e, hM2⟩
      exact wp_t (e) (next M2 hM2)
    refine wp_f h31 ?_
    by_cases h32 : and32 (xv (i : Int)) 63 = 32
    · refine wp_t h32 (wp_and g1 (wp_and g2 ?_))
      rw [wp_bind]
      refine wp_mono (o_taken hr) ?_
      intro v M1 a1
      refine wp_and g1 (wp_and g2 ?_)
      rw [wp_bind]
      refine wp_mono a1 ?_
      intro v' M2 ⟨e, hM2⟩
      exact wp_t (e) (next M2 hM2)
    refine wp_f h32 ?_
    by_cases h33 : and32 (xv (i : Int)) 63 = 33
    · refine wp_t h33 (wp_and g1 ?_)
      rw [wp_bind]
      refine wp_mono (o_count hr) ?_
      intro v M1 a1
      refine wp_and g1 ?_
      rw [wp_bind]
      refine wp_mono a1 ?_
      intro v' M2 ⟨e, hM2⟩
      exact wp_t (e) (next M2 hM2)
    refine wp_f h33 ?_
    by_cases h34 : and32 (xv (i : Int)) 63 = 34
    · refine wp_t h34 (wp_and g1 (wp_and g2 (wp_and g3 ?_)))
      rw [wp_bind]
      refine wp_mono (o_tape hr) ?_
      intro v M1 a1
      refine wp_and g1 (wp_and g2 (wp_and g3 ?_))
      rw [wp_bind]
      refine wp_mono a1 ?_
      intro v' M2 ⟨e, hM2⟩
      exact wp_t (e) (next M2 hM2)
    refine wp_f h34 ?_
    by_cases h35 : and32 (xv (i : Int)) 63 = 35
    · refine wp_t h35 (wp_and g1 (wp_and g2 (wp_and g3 (wp_and g4 ?_))))
      rw [wp_bind]
      refine wp_mono (o_item hr) ?_
      intro v M1 a1
      refine wp_and g1 (wp_and g2 (wp_and g3 (wp_and g4 ?_)))
      rw [wp_bind]
      refine wp_mono a1 ?_
      intro v' M2 ⟨e, hM2⟩
      exact wp_t (e) (next M2 hM2)
    refine wp_f h35 ?_
    by_cases h36 : and32 (xv (i : Int)) 63 = 36
    · refine wp_t h36 (wp_and g1 (wp_and g2 ?_))
      rw [wp_bind]
      refine wp_mono (o_read hr) ?_
      intro v M1 a1
      refine wp_and g1 (wp_and g2 ?_)
      rw [wp_bind]
      refine wp_mono a1 ?_
      intro v' M2 ⟨e, hM2⟩
      exact wp_t (cmp_0.2 e) (next M2 hM2)
    refine wp_f h36 ?_
    by_cases h37 : and32 (xv (i : Int)) 63 = 37
    · refine wp_t h37 (wp_and g1 (wp_and g2 (wp_and g3 (wp_and g4 (wp_and g5 ?_)))))
      rw [wp_bind]
      refine wp_mono (o_shift (hx _) hr) ?_
      intro v M1 a1
      refine wp_and g1 (wp_and g2 (wp_and g3 (wp_and g4 (wp_and g5 ?_))))
      rw [wp_bind]
      refine wp_mono a1 ?_
      intro v' M2 ⟨e, hM2⟩
      exact wp_t (e) (next M2 hM2)
    refine wp_f h37 ?_
    exact next M hr
