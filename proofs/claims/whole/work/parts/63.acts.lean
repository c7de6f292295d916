/-! both: acts -/
def TrC (l : List Int) (M : Mem) : Prop := M 13 0 = (l.length : Int) ∧ ∀ k : Nat, k < 20 → k < l.length → M 14 (k : Int) = l.getD k 0
def TrM (l : List Int) (M : Mem) : Prop := M 127 62 = (l.length : Int) ∧ ∀ k : Nat, k < 20 → k < l.length → M 167 (k : Int) = l.getD k 0
def FrC (M M' : Mem) : Prop := ∀ j q : Int, j ≠ 14 → (j ≠ 13 ∨ q ≠ 0) → M' j q = M j q
def FrM (M M' : Mem) : Prop := ∀ j q : Int, j ≠ 167 → (j ≠ 127 ∨ q ≠ 62) → M' j q = M j q
theorem FrC_tr {M M1 M2 : Mem} (h : FrC M M1) (g : FrC M1 M2) : FrC M M2 := fun j q a b => (g j q a b).trans (h j q a b)
theorem FrM_tr {M M1 M2 : Mem} (h : FrM M M1) (g : FrM M1 M2) : FrM M M2 := fun j q a b => (g j q a b).trans (h j q a b)
theorem getD_app (l : List Int) (b : Int) (k : Nat) (h : k < l.length) : (l ++ [b]).getD k 0 = l.getD k 0 := by
  rw [List.getD_eq_getElem?_getD, List.getD_eq_getElem?_getD, List.getElem?_append_left h]
theorem getD_last (l : List Int) (b : Int) : (l ++ [b]).getD l.length 0 = b := by
  rw [List.getD_eq_getElem?_getD, List.getElem?_append_right (Nat.le_refl _), Nat.sub_self]
  rfl
theorem c_begin {l : List Int} {b : Int} {M : Mem} {Q : Int → Mem → Prop} (h : TrC l M) (hl : l.length ≤ 900) (k : ∀ M', FrC M M' → TrC (l ++ [b]) M' → Q 0 M') : wp (f_X0_begin b M) Q := by
  obtain ⟨h1, h2⟩ := h
  unfold f_X0_begin f_X0_begin_19
  by_cases h20 : 20 ≤ M 13 0
  · refine wp_t h20 ?_
    rw [wp_lt, wp_some]
    refine k _ (fun j q x y => by rw [st_ap, if_neg (by omega)]) ⟨?_, fun q q1 q2 => ?_⟩
    · rw [st_ap, if_pos ⟨rfl, rfl⟩, h1, w_id (by omega) (by omega), List.length_append]
      rfl
    · rw [st_nc (by decide), getD_app l b q (by omega)]
      exact h2 q q1 (by omega)
  · refine wp_f h20 (wp_and (by omega) ?_)
    rw [wp_lt, wp_lt, wp_some]
    refine k _ (fun j q x y => by rw [st_ap, if_neg (by omega), st_nc x]) ⟨?_, fun q q1 q2 => ?_⟩
    · rw [st_ap, if_pos ⟨rfl, rfl⟩, st_nc (by decide), h1, w_id (by omega) (by omega), List.length_append]
      rfl
    · rw [List.length_append] at q2
      have q2 : q < l.length + 1 := q2
      rw [st_nc (by decide), st_ap, h1]
      by_cases hq : q = l.length
      · subst hq
        rw [if_pos ⟨rfl, rfl⟩, getD_last]
      · rw [if_neg (by omega), getD_app l b q (by omega)]
        exact h2 q q1 (by omega)
theorem m_body {l : List Int} {b : Int} {M : Mem} {Q : Int → Mem → Prop} (h : TrM l M) (hl : l.length ≤ 900) (k : ∀ M', FrM M M' → TrM (l ++ [b]) M' → Q 0 M') : wp (f_X8_body b M) Q := by
  obtain ⟨h1, h2⟩ := h
  unfold f_X8_body f_X8_body_19
  by_cases h20 : 20 ≤ M 127 62
  · refine wp_t h20 ?_
    rw [wp_lt, wp_some]
    refine k _ (fun j q x y => by rw [st_ap, if_neg (by omega)]) ⟨?_, fun q q1 q2 => ?_⟩
    · rw [st_ap, if_pos ⟨rfl, rfl⟩, h1, w_id (by omega) (by omega), List.length_append]
      rfl
    · rw [st_nc (by decide), getD_app l b q (by omega)]
      exact h2 q q1 (by omega)
  · refine wp_f h20 (wp_and (by omega) ?_)
    rw [wp_lt, wp_lt, wp_some]
    refine k _ (fun j q x y => by rw [st_ap, if_neg (by omega), st_nc x]) ⟨?_, fun q q1 q2 => ?_⟩
    · rw [st_ap, if_pos ⟨rfl, rfl⟩, st_nc (by decide), h1, w_id (by omega) (by omega), List.length_append]
      rfl
    · rw [List.length_append] at q2
      have q2 : q < l.length + 1 := q2
      rw [st_nc (by decide), st_ap, h1]
      by_cases hq : q = l.length
      · subst hq
        rw [if_pos ⟨rfl, rfl⟩, getD_last]
      · rw [if_neg (by omega), getD_app l b q (by omega)]
        exact h2 q q1 (by omega)
/-- what creaking, ringing, telling leave behind, and answer -/
def crL (l : List Int) (kd : Int) : List Int := if kd = 6 then (l ++ [71]) ++ [10] else if kd = 4 then (l ++ [50]) ++ [10] else if kd = 2 ∨ kd = 5 then (l ++ [30]) ++ [10] else l ++ [10]
def crV (kd i v x : Int) : Int := if kd = 6 then xor32 (w32 (x + i)) v else if kd = 4 then w32 (-(w32 (x + i))) else if kd = 2 ∨ kd = 5 then w32 (w32 (x * 3) + i) else w32 (x + i)
theorem crL_n {l : List Int} {kd : Int} : (crL l kd).length ≤ l.length + 2 := by
  unfold crL
  split
  · simp
  · split
    · simp
    · split
      · simp
      · simp
theorem c_cr0 {l : List Int} {kd i x : Int} {n : Nat} {M : Mem} {Q : Int → Mem → Prop} (hk : kd = 0 ∨ kd = 1 ∨ kd = 3) (h : TrC l M) (hl : l.length ≤ 900) (hi : M 13 3 = i) (k : ∀ M', FrC M M' → TrC (l ++ [10]) M' → Q (w32 (x + i)) M') : wp (f_X0_creaks (n + 1) kd x M) Q := by
  rw [f_X0_creaks.eq_2]
  unfold s_X0_creaks
  refine wp_f (by omega) (wp_f (by omega) (wp_f (by omega) (wp_f (by omega) ?_)))
  rw [wp_bind]
  refine c_begin h hl ?_
  intro M1 g1 g2
  try simp only []
  rw [wp_some]
  have e : M1 13 3 = i := by rw [g1 13 3 (by omega) (by omega), hi]
  try simp only []
  rw [e]
  exact k M1 g1 g2
theorem c_cr {l : List Int} {kd i v x : Int} {n : Nat} {M : Mem} {Q : Int → Mem → Prop} (hk : 0 ≤ kd ∧ kd ≤ 6) (h : TrC l M) (hl : l.length ≤ 800) (hi : M 13 3 = i) (hv : M 13 4 = v) (k : ∀ M', FrC M M' → TrC (crL l kd) M' → Q (crV kd i v x) M') : wp (f_X0_creaks (n + 2) kd x M) Q := by
  unfold crL crV at k
  have ll : ∀ b : Int, (l ++ [b]).length ≤ 900 := fun b => by rw [List.length_append]; show l.length + 1 ≤ 900; omega
  by_cases h6 : kd = 6
  · rw [if_pos h6, if_pos h6] at k
    show wp (f_X0_creaks ((n + 1) + 1) kd x M) Q
    rw [f_X0_creaks.eq_2]
    unfold s_X0_creaks
    refine wp_f (by omega) (wp_f (by omega) (wp_f (by omega) (wp_t h6 ?_)))
    rw [wp_bind]
    refine c_begin h (by omega) ?_
    intro M1 g1 g2
    try simp only []
    rw [wp_bind]
    refine c_cr0 (i := i) (by omega) g2 (ll _) (by rw [g1 13 3 (by omega) (by omega), hi]) ?_
    intro M2 u1 u2
    try simp only []
    rw [wp_some]
    have e : M2 13 4 = v := by rw [u1 13 4 (by omega) (by omega), g1 13 4 (by omega) (by omega), hv]
    try simp only []
    rw [e]
    exact k M2 (FrC_tr g1 u1) u2
  rw [if_neg h6, if_neg h6] at k
  by_cases h4 : kd = 4
  · rw [if_pos h4, if_pos h4] at k
    show wp (f_X0_creaks ((n + 1) + 1) kd x M) Q
    rw [f_X0_creaks.eq_2]
    unfold s_X0_creaks
    refine wp_f (by omega) (wp_t h4 ?_)
    rw [wp_bind]
    refine c_begin h (by omega) ?_
    intro M1 g1 g2
    try simp only []
    rw [wp_bind]
    refine c_cr0 (i := i) (by omega) g2 (ll _) (by rw [g1 13 3 (by omega) (by omega), hi]) ?_
    intro M2 u1 u2
    try simp only []
    rw [wp_some]
    exact k M2 (FrC_tr g1 u1) u2
  rw [if_neg h4, if_neg h4] at k
  by_cases h2 : kd = 2 ∨ kd = 5
  · rw [if_pos h2, if_pos h2] at k
    have go : wp ((f_X0_begin 30 M).bind (fun q2 => (f_X0_creaks (n + 1) 0 (w32 (x * 3)) q2.2).bind (fun q4 => some (q4.1, q4.2)))) Q := by
      rw [wp_bind]
      refine c_begin h (by omega) ?_
      intro M1 g1 g2
      try simp only []
      rw [wp_bind]
      refine c_cr0 (i := i) (by omega) g2 (ll _) (by rw [g1 13 3 (by omega) (by omega), hi]) ?_
      intro M2 u1 u2
      try simp only []
      rw [wp_some]
      exact k M2 (FrC_tr g1 u1) u2
    show wp (f_X0_creaks ((n + 1) + 1) kd x M) Q
    rw [f_X0_creaks.eq_2]
    unfold s_X0_creaks
    by_cases h22 : kd = 2
    · exact wp_t h22 go
    · exact wp_f h22 (wp_f h4 (wp_t (by omega) go))
  · rw [if_neg h2, if_neg h2] at k
    exact c_cr0 (n := n + 1) (by omega) h (by omega) hi k
theorem m_sC {l : List Int} {i x : Int} {M : Mem} {Q : Int → Mem → Prop} (h : TrM l M) (hl : l.length ≤ 900) (k : ∀ M', FrM M M' → TrM (l ++ [10]) M' → Q (w32 (x + i)) M') : wp (f_X8_soundCreaks i x M) Q := by
  unfold f_X8_soundCreaks
  rw [wp_bind]
  refine m_body h hl ?_
  intro M1 g1 g2
  try simp only []
  rw [wp_some]
  exact k M1 g1 g2
theorem m_cr {l : List Int} {kd i v x : Int} {M : Mem} {Q : Int → Mem → Prop} (hi : 0 ≤ i ∧ i < 6) (h : TrM l M) (hl : l.length ≤ 800) (hk : M 128 i = kd) (hv : M 129 i = v) (k : ∀ M', FrM M M' → TrM (crL l kd) M' → Q (crV kd i v x) M') : wp (f_X8_creaksAct i x M) Q := by
  unfold crL crV at k
  have ll : ∀ b : Int, (l ++ [b]).length ≤ 900 := fun b => by rw [List.length_append]; show l.length + 1 ≤ 900; omega
  unfold f_X8_creaksAct
  refine wp_and hi ?_
  rw [hk]
  by_cases h6 : kd = 6
  · rw [if_pos h6, if_pos h6] at k
    refine wp_f (by omega) (wp_f (by omega) (wp_f (by omega) (wp_t h6 ?_)))
    rw [wp_bind]
    refine m_body h (by omega) ?_
    intro M1 g1 g2
    try simp only []
    rw [wp_bind]
    refine m_sC g2 (ll _) ?_
    intro M2 u1 u2
    try simp only []
    refine wp_and hi ?_
    rw [wp_some]
    have e : M2 129 i = v := by rw [u1 129 i (by omega) (by omega), g1 129 i (by omega) (by omega), hv]
    try simp only []
    rw [e]
    exact k M2 (FrM_tr g1 u1) u2
  rw [if_neg h6, if_neg h6] at k
  by_cases h4 : kd = 4
  · rw [if_pos h4, if_pos h4] at k
    refine wp_f (by omega) (wp_t h4 ?_)
    rw [wp_bind]
    refine m_body h (by omega) ?_
    intro M1 g1 g2
    try simp only []
    rw [wp_bind]
    refine m_sC g2 (ll _) ?_
    intro M2 u1 u2
    try simp only []
    rw [wp_some]
    exact k M2 (FrM_tr g1 u1) u2
  rw [if_neg h4, if_neg h4] at k
  by_cases h2 : kd = 2 ∨ kd = 5
  · rw [if_pos h2, if_pos h2] at k
    have go : wp ((f_X8_body 30 M).bind (fun q3 => (f_X8_soundCreaks i (w32 (x * 3)) q3.2).bind (fun q5 => some (q5.1, q5.2)))) Q := by
      rw [wp_bind]
      refine m_body h (by omega) ?_
      intro M1 g1 g2
      try simp only []
      rw [wp_bind]
      refine m_sC g2 (ll _) ?_
      intro M2 u1 u2
      try simp only []
      rw [wp_some]
      exact k M2 (FrM_tr g1 u1) u2
    by_cases h22 : kd = 2
    · exact wp_t h22 go
    · exact wp_f h22 (wp_f h4 (wp_t (by omega) go))
  · rw [if_neg h2, if_neg h2] at k
    refine wp_f (by omega) (wp_f h4 (wp_f (by omega) (wp_f h6 ?_)))
    rw [wp_bind]
    refine m_sC h (by omega) ?_
    intro M1 g1 g2
    try simp only []
    rw [wp_some]
    exact k M1 g1 g2
def sgL (l : List Int) (kd : Int) : List Int := crL (l ++ [11]) kd
def sgV (kd i v x : Int) : Int := w32 (crV kd i v x - v)
def rgL (l : List Int) (kd : Int) : List Int := if kd = 1 then sgL (l ++ [20]) kd else if kd = 4 then sgL ((l ++ [51]) ++ [20]) kd else if kd = 6 then sgL (l ++ [70]) kd ++ [10] else sgL l kd
def rgV (kd i v x : Int) : Int := if kd = 1 then xor32 (sgV kd i v x) 6 else if kd = 4 then xor32 (sgV kd i v (w32 (x + 1))) 6 else if kd = 6 then w32 (sgV kd i v x + w32 (2 + i)) else sgV kd i v x
theorem la {l : List Int} {b : Int} : (l ++ [b]).length = l.length + 1 := by rw [List.length_append]; rfl
theorem sgL_n {l : List Int} {kd : Int} : (sgL l kd).length ≤ l.length + 3 := by
  unfold sgL
  have := crL_n (l := l ++ [11]) (kd := kd)
  rw [la] at this
  omega
theorem rgL_n {l : List Int} {kd : Int} : (rgL l kd).length ≤ l.length + 5 := by
  unfold rgL
  split
  · have := sgL_n (l := l ++ [20]) (kd := kd)
    rw [la] at this
    omega
  · split
    · have := sgL_n (l := (l ++ [51]) ++ [20]) (kd := kd)
      rw [la, la] at this
      omega
    · split
      · have := sgL_n (l := l ++ [70]) (kd := kd)
        rw [la] at this
        rw [la]
        omega
      · have := sgL_n (l := l) (kd := kd)
        omega
theorem c_sg {l : List Int} {fr kd i v x : Int} {n : Nat} {M : Mem} {Q : Int → Mem → Prop} (hf : fr ≠ 1 ∧ fr ≠ 4 ∧ fr ≠ 6) (hk : 0 ≤ kd ∧ kd ≤ 6) (h : TrC l M) (hl : l.length ≤ 700) (h2 : M 13 2 = kd) (hi : M 13 3 = i) (hv : M 13 4 = v) (k : ∀ M', FrC M M' → TrC (sgL l kd) M' → Q (sgV kd i v x) M') : wp (f_X0_rings (n + 1) fr x M) Q := by
  rw [f_X0_rings.eq_2]
  unfold s_X0_rings
  refine wp_f hf.1 (wp_f hf.2.1 (wp_f hf.2.2 ?_))
  rw [wp_bind]
  refine c_begin h (by omega) ?_
  intro M1 g1 g2
  try simp only []
  have e2 : M1 13 2 = kd := by rw [g1 13 2 (by omega) (by omega), h2]
  try simp only []
  rw [wp_bind, e2]
  refine c_cr (n := 2) (i := i) (v := v) hk g2 (by rw [la]; omega) (by rw [g1 13 3 (by omega) (by omega), hi]) (by rw [g1 13 4 (by omega) (by omega), hv]) ?_
  intro M2 u1 u2
  try simp only []
  rw [wp_some]
  have e : M2 13 4 = v := by rw [u1 13 4 (by omega) (by omega), g1 13 4 (by omega) (by omega), hv]
  try simp only []
  rw [e]
  exact k M2 (FrC_tr g1 u1) u2
theorem c_rg {l : List Int} {kd i v x : Int} {M : Mem} {Q : Int → Mem → Prop} (hk : 0 ≤ kd ∧ kd ≤ 6) (h : TrC l M) (hl : l.length ≤ 600) (h2 : M 13 2 = kd) (hi : M 13 3 = i) (hv : M 13 4 = v) (k : ∀ M', FrC M M' → TrC (rgL l kd) M' → Q (rgV kd i v x) M') : wp (f_X0_rings 4 kd x M) Q := by
  unfold rgL rgV at k
  have keep : ∀ {M M1 : Mem}, FrC M M1 → M 13 2 = kd → M 13 3 = i → M 13 4 = v → M1 13 2 = kd ∧ M1 13 3 = i ∧ M1 13 4 = v := fun g a b c => ⟨by rw [g 13 2 (by omega) (by omega), a], by rw [g 13 3 (by omega) (by omega), b], by rw [g 13 4 (by omega) (by omega), c]⟩
  by_cases h1 : kd = 1
  · rw [if_pos h1, if_pos h1] at k
    show wp (f_X0_rings (3 + 1) kd x M) Q
    rw [f_X0_rings.eq_2]
    unfold s_X0_rings
    refine wp_t h1 ?_
    rw [wp_bind]
    refine c_begin h (by omega) ?_
    intro M1 g1 g2
    try simp only []
    obtain ⟨e2, e3, e4⟩ := keep g1 h2 hi hv
    rw [wp_bind]
    refine c_sg (n := 2) (by omega) hk g2 (by rw [la]; omega) e2 e3 e4 ?_
    intro M2 u1 u2
    try simp only []
    rw [wp_some]
    exact k M2 (FrC_tr g1 u1) u2
  rw [if_neg h1, if_neg h1] at k
  by_cases h4 : kd = 4
  · rw [if_pos h4, if_pos h4] at k
    show wp (f_X0_rings (3 + 1) kd x M) Q
    rw [f_X0_rings.eq_2]
    unfold s_X0_rings
    refine wp_f h1 (wp_t h4 ?_)
    rw [wp_bind]
    refine c_begin h (by omega) ?_
    intro M1 g1 g2
    try simp only []
    obtain ⟨e2, e3, e4⟩ := keep g1 h2 hi hv
    rw [wp_bind]
    show wp (f_X0_rings (2 + 1) 1 (w32 (x + 1)) M1) _
    rw [f_X0_rings.eq_2]
    unfold s_X0_rings
    refine wp_t rfl ?_
    rw [wp_bind]
    refine c_begin g2 (by rw [la]; omega) ?_
    intro M2 u1 u2
    try simp only []
    obtain ⟨c2, c3, c4⟩ := keep u1 e2 e3 e4
    rw [wp_bind]
    refine c_sg (n := 1) (by omega) hk u2 (by rw [la, la]; omega) c2 c3 c4 ?_
    intro M3 w1 w2
    try simp only []
    rw [wp_some, wp_some]
    exact k M3 (FrC_tr g1 (FrC_tr u1 w1)) w2
  rw [if_neg h4, if_neg h4] at k
  by_cases h6 : kd = 6
  · rw [if_pos h6, if_pos h6] at k
    show wp (f_X0_rings (3 + 1) kd x M) Q
    rw [f_X0_rings.eq_2]
    unfold s_X0_rings
    refine wp_f h1 (wp_f h4 (wp_t h6 ?_))
    rw [wp_bind]
    refine c_begin h (by omega) ?_
    intro M1 g1 g2
    try simp only []
    obtain ⟨e2, e3, e4⟩ := keep g1 h2 hi hv
    rw [wp_bind]
    refine c_sg (n := 2) (by omega) hk g2 (by rw [la]; omega) e2 e3 e4 ?_
    intro M2 u1 u2
    try simp only []
    obtain ⟨c2, c3, c4⟩ := keep u1 e2 e3 e4
    rw [wp_bind]
    refine c_cr0 (n := 3) (i := i) (by omega) u2 (by have := sgL_n (l := l ++ [70]) (kd := kd); rw [la] at this; omega) c3 ?_
    intro M3 w1 w2
    try simp only []
    rw [wp_some]
    exact k M3 (FrC_tr g1 (FrC_tr u1 w1)) w2
  · rw [if_neg h6, if_neg h6] at k
    exact c_sg (n := 3) (by omega) hk h (by omega) h2 hi hv k
theorem m_sg {l : List Int} {kd i v x : Int} {M : Mem} {Q : Int → Mem → Prop} (hi : 0 ≤ i ∧ i < 6) (h : TrM l M) (hl : l.length ≤ 700) (hk : M 128 i = kd) (hv : M 129 i = v) (k : ∀ M', FrM M M' → TrM (sgL l kd) M' → Q (sgV kd i v x) M') : wp (f_X8_soundRings i x M) Q := by
  unfold f_X8_soundRings
  rw [wp_bind]
  refine m_body h (by omega) ?_
  intro M1 g1 g2
  try simp only []
  rw [wp_bind]
  refine m_cr (kd := kd) (v := v) hi g2 (by rw [la]; omega) (by rw [g1 128 i (by omega) (by omega), hk]) (by rw [g1 129 i (by omega) (by omega), hv]) ?_
  intro M2 u1 u2
  try simp only []
  refine wp_and hi ?_
  rw [wp_some]
  have e : M2 129 i = v := by rw [u1 129 i (by omega) (by omega), g1 129 i (by omega) (by omega), hv]
  try simp only []
  rw [e]
  exact k M2 (FrM_tr g1 u1) u2
theorem m_rg {l : List Int} {kd i v x : Int} {M : Mem} {Q : Int → Mem → Prop} (hi : 0 ≤ i ∧ i < 6) (h : TrM l M) (hl : l.length ≤ 600) (hk : M 128 i = kd) (hv : M 129 i = v) (k : ∀ M', FrM M M' → TrM (rgL l kd) M' → Q (rgV kd i v x) M') : wp (f_X8_ringsAct i x M) Q := by
  unfold rgL rgV at k
  have keep : ∀ {M M1 : Mem}, FrM M M1 → M 128 i = kd → M 129 i = v → M1 128 i = kd ∧ M1 129 i = v := fun g a b => ⟨by rw [g 128 i (by omega) (by omega), a], by rw [g 129 i (by omega) (by omega), b]⟩
  unfold f_X8_ringsAct
  refine wp_and hi ?_
  rw [hk]
  by_cases h1 : kd = 1
  · rw [if_pos h1, if_pos h1] at k
    refine wp_t h1 ?_
    unfold f_X8_squeakRings
    rw [wp_bind, wp_bind]
    refine m_body h (by omega) ?_
    intro M1 g1 g2
    try simp only []
    obtain ⟨e2, e3⟩ := keep g1 hk hv
    rw [wp_bind]
    refine m_sg hi g2 (by rw [la]; omega) e2 e3 ?_
    intro M2 u1 u2
    try simp only []
    rw [wp_some, wp_some]
    exact k M2 (FrM_tr g1 u1) u2
  rw [if_neg h1, if_neg h1] at k
  refine wp_f h1 ?_
  by_cases h4 : kd = 4
  · rw [if_pos h4, if_pos h4] at k
    refine wp_t h4 ?_
    rw [wp_bind]
    refine m_body h (by omega) ?_
    intro M1 g1 g2
    try simp only []
    obtain ⟨e2, e3⟩ := keep g1 hk hv
    unfold f_X8_squeakRings
    rw [wp_bind, wp_bind]
    refine m_body g2 (by rw [la]; omega) ?_
    intro M2 u1 u2
    try simp only []
    obtain ⟨c2, c3⟩ := keep u1 e2 e3
    rw [wp_bind]
    refine m_sg hi u2 (by rw [la, la]; omega) c2 c3 ?_
    intro M3 w1 w2
    try simp only []
    rw [wp_some, wp_some]
    exact k M3 (FrM_tr g1 (FrM_tr u1 w1)) w2
  rw [if_neg h4, if_neg h4] at k
  refine wp_f h4 ?_
  by_cases h6 : kd = 6
  · rw [if_pos h6, if_pos h6] at k
    refine wp_t h6 ?_
    rw [wp_bind]
    refine m_body h (by omega) ?_
    intro M1 g1 g2
    try simp only []
    obtain ⟨e2, e3⟩ := keep g1 hk hv
    rw [wp_bind]
    refine m_sg hi g2 (by rw [la]; omega) e2 e3 ?_
    intro M2 u1 u2
    try simp only []
    rw [wp_bind]
    refine m_sC u2 (by have := sgL_n (l := l ++ [70]) (kd := kd); rw [la] at this; omega) ?_
    intro M3 w1 w2
    try simp only []
    rw [wp_some]
    exact k M3 (FrM_tr g1 (FrM_tr u1 w1)) w2
  · rw [if_neg h6, if_neg h6] at k
    refine wp_f h6 ?_
    rw [wp_bind]
    refine m_sg hi h (by omega) hk hv ?_
    intro M2 u1 u2
    try simp only []
    rw [wp_some]
    exact k M2 u1 u2
def stL (l : List Int) (kd : Int) : List Int := rgL (l ++ [12]) kd
def stV (kd i v x : Int) : Int := w32 (rgV kd i v x * 2)
def teL (l : List Int) (kd : Int) : List Int := if kd = 3 ∨ kd = 6 then rgL (stL (l ++ [40]) kd) kd else if kd = 5 then stL (l ++ [60]) kd else stL l kd
def teV (kd i v x : Int) : Int := if kd = 3 ∨ kd = 6 then w32 (stV kd i v x + rgV kd i v 1) else if kd = 5 then stV kd i v (w32 (x - i)) else stV kd i v x
theorem stL_n {l : List Int} {kd : Int} : (stL l kd).length ≤ l.length + 6 := by
  unfold stL
  have := rgL_n (l := l ++ [12]) (kd := kd)
  rw [la] at this
  omega
theorem teL_n {l : List Int} {kd : Int} : (teL l kd).length ≤ l.length + 12 := by
  unfold teL
  split
  · have a := rgL_n (l := stL (l ++ [40]) kd) (kd := kd)
    have b := stL_n (l := l ++ [40]) (kd := kd)
    rw [la] at b
    omega
  · split
    · have b := stL_n (l := l ++ [60]) (kd := kd)
      rw [la] at b
      omega
    · have b := stL_n (l := l) (kd := kd)
      omega
theorem c_st {l : List Int} {fr kd i v x : Int} {n : Nat} {M : Mem} {Q : Int → Mem → Prop} (hf : fr ≠ 3 ∧ fr ≠ 5 ∧ fr ≠ 6) (hk : 0 ≤ kd ∧ kd ≤ 6) (h : TrC l M) (hl : l.length ≤ 500) (h2 : M 13 2 = kd) (hi : M 13 3 = i) (hv : M 13 4 = v) (k : ∀ M', FrC M M' → TrC (stL l kd) M' → Q (stV kd i v x) M') : wp (f_X0_tells (n + 1) fr x M) Q := by
  rw [f_X0_tells.eq_2]
  unfold s_X0_tells
  refine wp_f hf.1 (wp_f hf.2.1 (wp_f hf.2.2 ?_))
  rw [wp_bind]
  refine c_begin h (by omega) ?_
  intro M1 g1 g2
  try simp only []
  have e2 : M1 13 2 = kd := by rw [g1 13 2 (by omega) (by omega), h2]
  try simp only []
  rw [wp_bind, e2]
  refine c_rg (i := i) (v := v) hk g2 (by rw [la]; omega) e2 (by rw [g1 13 3 (by omega) (by omega), hi]) (by rw [g1 13 4 (by omega) (by omega), hv]) ?_
  intro M2 u1 u2
  try simp only []
  rw [wp_some]
  exact k M2 (FrC_tr g1 u1) u2
theorem c_te {l : List Int} {kd i v x : Int} {M : Mem} {Q : Int → Mem → Prop} (hk : 0 ≤ kd ∧ kd ≤ 6) (h : TrC l M) (hl : l.length ≤ 400) (h2 : M 13 2 = kd) (hi : M 13 3 = i) (hv : M 13 4 = v) (k : ∀ M', FrC M M' → TrC (teL l kd) M' → Q (teV kd i v x) M') : wp (f_X0_tells 4 kd x M) Q := by
  unfold teL teV at k
  have keep : ∀ {M M1 : Mem}, FrC M M1 → M 13 2 = kd → M 13 3 = i → M 13 4 = v → M1 13 2 = kd ∧ M1 13 3 = i ∧ M1 13 4 = v := fun g a b c => ⟨by rw [g 13 2 (by omega) (by omega), a], by rw [g 13 3 (by omega) (by omega), b], by rw [g 13 4 (by omega) (by omega), c]⟩
  by_cases h36 : kd = 3 ∨ kd = 6
  · rw [if_pos h36, if_pos h36] at k
    have go : wp ((f_X0_begin 40 M).bind (fun q2 => (f_X0_tells 3 0 x q2.2).bind (fun q4 => (f_X0_rings 4 (q4.2 13 2) 1 q4.2).bind (fun q6 => some (w32 (q4.1 + q6.1), q6.2))))) Q := by
      rw [wp_bind]
      refine c_begin h (by omega) ?_
      intro M1 g1 g2
      try simp only []
      obtain ⟨e2, e3, e4⟩ := keep g1 h2 hi hv
      rw [wp_bind]
      refine c_st (n := 2) (by omega) hk g2 (by rw [la]; omega) e2 e3 e4 ?_
      intro M2 u1 u2
      try simp only []
      obtain ⟨c2, c3, c4⟩ := keep u1 e2 e3 e4
      try simp only []
      rw [wp_bind, c2]
      refine c_rg hk u2 (by have := stL_n (l := l ++ [40]) (kd := kd); rw [la] at this; omega) c2 c3 c4 ?_
      intro M3 w1 w2
      try simp only []
      rw [wp_some]
      exact k M3 (FrC_tr g1 (FrC_tr u1 w1)) w2
    show wp (f_X0_tells (3 + 1) kd x M) Q
    rw [f_X0_tells.eq_2]
    unfold s_X0_tells
    by_cases h3 : kd = 3
    · exact wp_t h3 go
    · exact wp_f h3 (wp_f (by omega) (wp_t (by omega) go))
  rw [if_neg h36, if_neg h36] at k
  by_cases h5 : kd = 5
  · rw [if_pos h5, if_pos h5] at k
    show wp (f_X0_tells (3 + 1) kd x M) Q
    rw [f_X0_tells.eq_2]
    unfold s_X0_tells
    refine wp_f (by omega) (wp_t h5 ?_)
    rw [wp_bind]
    refine c_begin h (by omega) ?_
    intro M1 g1 g2
    try simp only []
    obtain ⟨e2, e3, e4⟩ := keep g1 h2 hi hv
    try simp only []
    rw [wp_bind, e3]
    refine c_st (n := 2) (by omega) hk g2 (by rw [la]; omega) e2 e3 e4 ?_
    intro M2 u1 u2
    try simp only []
    rw [wp_some]
    exact k M2 (FrC_tr g1 u1) u2
  · rw [if_neg h5, if_neg h5] at k
    exact c_st (n := 3) (by omega) hk h (by omega) h2 hi hv k
theorem m_st {l : List Int} {kd i v x : Int} {M : Mem} {Q : Int → Mem → Prop} (hi : 0 ≤ i ∧ i < 6) (h : TrM l M) (hl : l.length ≤ 500) (hk : M 128 i = kd) (hv : M 129 i = v) (k : ∀ M', FrM M M' → TrM (stL l kd) M' → Q (stV kd i v x) M') : wp (f_X8_soundTells i x M) Q := by
  unfold f_X8_soundTells
  rw [wp_bind]
  refine m_body h (by omega) ?_
  intro M1 g1 g2
  try simp only []
  rw [wp_bind]
  refine m_rg (kd := kd) (v := v) hi g2 (by rw [la]; omega) (by rw [g1 128 i (by omega) (by omega), hk]) (by rw [g1 129 i (by omega) (by omega), hv]) ?_
  intro M2 u1 u2
  try simp only []
  rw [wp_some]
  exact k M2 (FrM_tr g1 u1) u2
theorem m_te {l : List Int} {kd i v x : Int} {M : Mem} {Q : Int → Mem → Prop} (hi : 0 ≤ i ∧ i < 6) (h : TrM l M) (hl : l.length ≤ 400) (hk : M 128 i = kd) (hv : M 129 i = v) (k : ∀ M', FrM M M' → TrM (teL l kd) M' → Q (teV kd i v x) M') : wp (f_X8_tellsAct i x M) Q := by
  unfold teL teV at k
  have keep : ∀ {M M1 : Mem}, FrM M M1 → M 128 i = kd → M 129 i = v → M1 128 i = kd ∧ M1 129 i = v := fun g a b => ⟨by rw [g 128 i (by omega) (by omega), a], by rw [g 129 i (by omega) (by omega), b]⟩
  unfold f_X8_tellsAct
  refine wp_and hi ?_
  rw [hk]
  by_cases h36 : kd = 3 ∨ kd = 6
  · rw [if_pos h36, if_pos h36] at k
    have go : wp ((f_X8_body 40 M).bind (fun q3 => (f_X8_soundTells i x q3.2).bind (fun q5 => (f_X8_ringsAct i 1 q5.2).bind (fun q7 => some (w32 (q5.1 + q7.1), q7.2))))) Q := by
      rw [wp_bind]
      refine m_body h (by omega) ?_
      intro M1 g1 g2
      try simp only []
      obtain ⟨e2, e3⟩ := keep g1 hk hv
      rw [wp_bind]
      refine m_st hi g2 (by rw [la]; omega) e2 e3 ?_
      intro M2 u1 u2
      try simp only []
      obtain ⟨c2, c3⟩ := keep u1 e2 e3
      rw [wp_bind]
      refine m_rg hi u2 (by have := stL_n (l := l ++ [40]) (kd := kd); rw [la] at this; omega) c2 c3 ?_
      intro M3 w1 w2
      try simp only []
      rw [wp_some]
      exact k M3 (FrM_tr g1 (FrM_tr u1 w1)) w2
    by_cases h3 : kd = 3
    · exact wp_t h3 go
    · exact wp_f h3 (wp_f (by omega) (wp_t (by omega) go))
  rw [if_neg h36, if_neg h36] at k
  refine wp_f (by omega) ?_
  by_cases h5 : kd = 5
  · rw [if_pos h5, if_pos h5] at k
    refine wp_t h5 ?_
    rw [wp_bind]
    refine m_body h (by omega) ?_
    intro M1 g1 g2
    try simp only []
    obtain ⟨e2, e3⟩ := keep g1 hk hv
    rw [wp_bind]
    refine m_st hi g2 (by rw [la]; omega) e2 e3 ?_
    intro M2 u1 u2
    try simp only []
    rw [wp_some]
    exact k M2 (FrM_tr g1 u1) u2
  · rw [if_neg h5, if_neg h5] at k
    refine wp_f h5 (wp_f (by omega) ?_)
    rw [wp_bind]
    refine m_st hi h (by omega) hk hv ?_
    intro M2 u1 u2
    try simp only []
    rw [wp_some]
    exact k M2 u1 u2
