theorem len_app {S : List Shp} {x : Shp} {L : Int} (h : (S.length : Int) = L) : ((S ++ [x]).length : Int) = L + 1 := by simp; omega
theorem shp_new {S : List Shp} {x : Shp} {L : Int} (h : (S.length : Int) = L) : shp (S ++ [x]) L = some x := by rw [← h]; exact shp_last
def i_empty (o : Int) (M : Mem) : Mem := stM (stM (stM (stM (stM M o 0 6) o 1 10) o 2 1) o 3 0) o 6 0
theorem mt_X3_empty {S : List Shp} {o : Int} {M : Mem} {n : Nat} (hs : shp S o = some (10 + 3, n)) : Mth true yX3_empty cX3_empty 1 none 1 0 0 S [aR o] M none S (i_empty o M) True := by
  refine Mth.of (by decide +kernel) (Nat.le_of_ble_eq_true rfl) (fun K B C => ?_)
  show Wx K B _ 0 0 S 1 M 0 [some (aR o)] []
  refine mx_aload_n (pc := 0) C dX3_empty_0 rfl ?_
  refine mx_bipush (pc := 1) C dX3_empty_1 (z := 6) rfl (by constructor <;> decide) ?_
  refine mx_putI (pc := 3) C dX3_empty_3 hs ci_3 (k := 0) (by decide) fl_X3_30 (Or.inl rfl) rfl (q := 0) rfl ?_
  refine mx_aload_n (pc := 6) C dX3_empty_6 rfl ?_
  refine mx_bipush (pc := 7) C dX3_empty_7 (z := 10) rfl (by constructor <;> decide) ?_
  refine mx_putI (pc := 9) C dX3_empty_9 hs ci_3 (k := 1) (by decide) fl_X3_34 (Or.inl rfl) rfl (q := 1) rfl ?_
  refine mx_aload_n (pc := 12) C dX3_empty_12 rfl ?_
  refine mx_iconst (pc := 13) C dX3_empty_13 (z := 1) rfl (by constructor <;> decide) ?_
  refine mx_putI (pc := 14) C dX3_empty_14 hs ci_3 (k := 2) (by decide) fl_X3_37 (Or.inl rfl) rfl (q := 2) rfl ?_
  refine mx_aload_n (pc := 17) C dX3_empty_17 rfl ?_
  refine mx_iconst (pc := 18) C dX3_empty_18 (z := 0) rfl (by constructor <;> decide) ?_
  refine mx_putI (pc := 19) C dX3_empty_19 hs ci_3 (k := 3) (by decide) fl_X3_40 (Or.inl rfl) rfl (q := 3) rfl ?_
  refine mx_aload_n (pc := 22) C dX3_empty_22 rfl ?_
  refine mx_iconst (pc := 23) C dX3_empty_23 (z := 0) rfl (by constructor <;> decide) ?_
  refine mx_putI (pc := 24) C dX3_empty_24 hs ci_3 (k := 6) (by decide) fl_X3_43 (Or.inl rfl) rfl (q := 6) rfl ?_
  exact mx_return (pc := 27) C dX3_empty_27 trivial ⟨Nat.le_refl _, Nat.le_refl _⟩
def i_X2 (L o p1 : Int) (M : Mem) : Mem := stM (newM (stM (newM (stM (newM (M) L (fun _ => 0)) o 1 L) (L + 1) (fun _ => 0)) o 2 (L + 1)) (L + 2) (fun _ => 0)) o 3 (L + 2)
set_option maxRecDepth 20000 in
set_option maxHeartbeats 4000000 in
theorem mw_X2_init {S0 : List Shp} {o : Int} {n0 : Nat} {M : Mem} {L : Int} (hL : (S0.length : Int) = L) (hs : shp S0 o = some (10 + 2, n0)) (hLb : L < 500000) {np : Nat} (hnb : np < 100000) : Mth true yX2_init cX2_init 2 none 1 3 (np + np + np) S0 [aR o, aI (np : Int)] M none (((S0 ++ [(0, np)]) ++ [(0, np)]) ++ [(0, np)]) (i_X2 L o np M) True := by
  have hb1 := shp_at hs
  have hb2 : (0 : Int) ≤ L := by omega
  refine Mth.of (by decide +kernel) (Nat.le_of_ble_eq_true rfl) (fun K B C => ?_)
  show Wx K B _ 0 0 S0 2 M 0 [some (aR o), some (aI (np : Int))] []
  refine mx_aload_n (pc := 0) C dX2_init_0 rfl ?_
  refine mx_objInit (pc := 1) C ml_X2_1 w_obj.1 w_obj.2 (by omega) (Nat.le_of_ble_eq_true rfl) dX2_init_1 ?_
  refine mx_aload_n (pc := 4) C dX2_init_4 rfl ?_
  refine mx_iload_n (pc := 5) C dX2_init_5 rfl ?_
  refine mx_newa (pc := 6) (q := 0) (n := np) (id := L) C dX2_init_6 (by decide) ac_int rfl hnb ⟨(by omega), (by omega)⟩ hL ?_
  refine mx_putR (pc := 8) C dX2_init_8 (shp_old hs) ci_2 (k := 1) (by decide) fl_X2_7 (Or.inr ⟨rfl, rfl⟩) rfl (by omega) (by omega) (q := 1) rfl ?_
  refine mx_aload_n (pc := 11) C dX2_init_11 rfl ?_
  refine mx_iload_n (pc := 12) C dX2_init_12 rfl ?_
  refine mx_newa (pc := 13) (q := 0) (n := np) (id := L + 1) C dX2_init_13 (by decide) ac_int rfl hnb ⟨(by omega), (by omega)⟩ ((len_app hL).trans (by omega)) ?_
  refine mx_putR (pc := 15) C dX2_init_15 (shp_old (shp_old hs)) ci_2 (k := 2) (by decide) fl_X2_13 (Or.inr ⟨rfl, rfl⟩) rfl (by omega) (by omega) (q := 2) rfl ?_
  refine mx_aload_n (pc := 18) C dX2_init_18 rfl ?_
  refine mx_iload_n (pc := 19) C dX2_init_19 rfl ?_
  refine mx_newa (pc := 20) (q := 0) (n := np) (id := L + 2) C dX2_init_20 (by decide) ac_int rfl hnb ⟨(by omega), (by omega)⟩ ((len_app (len_app hL)).trans (by omega)) ?_
  refine mx_putR (pc := 22) C dX2_init_22 (shp_old (shp_old (shp_old hs))) ci_2 (k := 3) (by decide) fl_X2_16 (Or.inr ⟨rfl, rfl⟩) rfl (by omega) (by omega) (q := 3) rfl ?_
  exact mx_return (pc := 25) C dX2_init_25 trivial ⟨by omega, by omega⟩
def i_X3 (L o : Int) (M : Mem) : Mem := i_empty o (stM (newM (stM (newM (stM (newM (stM (newM (stM (newM (M) L (fun _ => 0)) o 4 L) (L + 1) (fun _ => 0)) o 5 (L + 1)) (L + 2) (fun _ => 0)) o 7 (L + 2)) (L + 3) (fun _ => 0)) o 8 (L + 3)) (L + 4) (fun _ => 0)) o 9 (L + 4))
set_option maxRecDepth 20000 in
set_option maxHeartbeats 4000000 in
theorem mw_X3_init {S0 : List Shp} {o : Int} {n0 : Nat} {M : Mem} {L : Int} (hL : (S0.length : Int) = L) (hs : shp S0 o = some (10 + 3, n0)) (hLb : L < 500000) : Mth true yX3_init cX3_init 1 none 2 5 321 S0 [aR o] M none (((((S0 ++ [(0, 10)]) ++ [(0, 11)]) ++ [(0, 100)]) ++ [(0, 100)]) ++ [(0, 100)]) (i_X3 L o M) True := by
  have hb1 := shp_at hs
  have hb2 : (0 : Int) ≤ L := by omega
  refine Mth.of (by decide +kernel) (Nat.le_of_ble_eq_true rfl) (fun K B C => ?_)
  show Wx K B _ 0 0 S0 1 M 0 [some (aR o)] []
  refine mx_aload_n (pc := 0) C dX3_init_0 rfl ?_
  refine mx_objInit (pc := 1) C ml_X3_3 w_obj.1 w_obj.2 (by omega) (Nat.le_of_ble_eq_true rfl) dX3_init_1 ?_
  refine mx_aload_n (pc := 4) C dX3_init_4 rfl ?_
  refine mx_bipush (pc := 5) C dX3_init_5 (z := 10) rfl (by constructor <;> decide) ?_
  refine mx_newa (pc := 7) (q := 0) (n := 10) (id := L) C dX3_init_7 (by decide) ac_int rfl (by decide) ⟨(by omega), (by omega)⟩ hL ?_
  refine mx_putR (pc := 9) C dX3_init_9 (shp_old hs) ci_3 (k := 4) (by decide) fl_X3_9 (Or.inr ⟨rfl, rfl⟩) rfl (by omega) (by omega) (q := 4) rfl ?_
  refine mx_aload_n (pc := 12) C dX3_init_12 rfl ?_
  refine mx_bipush (pc := 13) C dX3_init_13 (z := 11) rfl (by constructor <;> decide) ?_
  refine mx_newa (pc := 15) (q := 0) (n := 11) (id := L + 1) C dX3_init_15 (by decide) ac_int rfl (by decide) ⟨(by omega), (by omega)⟩ ((len_app hL).trans (by omega)) ?_
  refine mx_putR (pc := 17) C dX3_init_17 (shp_old (shp_old hs)) ci_3 (k := 5) (by decide) fl_X3_15 (Or.inr ⟨rfl, rfl⟩) rfl (by omega) (by omega) (q := 5) rfl ?_
  refine mx_aload_n (pc := 20) C dX3_init_20 rfl ?_
  refine mx_bipush (pc := 21) C dX3_init_21 (z := 100) rfl (by constructor <;> decide) ?_
  refine mx_newa (pc := 23) (q := 0) (n := 100) (id := L + 2) C dX3_init_23 (by decide) ac_int rfl (by decide) ⟨(by omega), (by omega)⟩ ((len_app (len_app hL)).trans (by omega)) ?_
  refine mx_putR (pc := 25) C dX3_init_25 (shp_old (shp_old (shp_old hs))) ci_3 (k := 7) (by decide) fl_X3_18 (Or.inr ⟨rfl, rfl⟩) rfl (by omega) (by omega) (q := 7) rfl ?_
  refine mx_aload_n (pc := 28) C dX3_init_28 rfl ?_
  refine mx_bipush (pc := 29) C dX3_init_29 (z := 100) rfl (by constructor <;> decide) ?_
  refine mx_newa (pc := 31) (q := 0) (n := 100) (id := L + 3) C dX3_init_31 (by decide) ac_int rfl (by decide) ⟨(by omega), (by omega)⟩ ((len_app (len_app (len_app hL))).trans (by omega)) ?_
  refine mx_putR (pc := 33) C dX3_init_33 (shp_old (shp_old (shp_old (shp_old hs)))) ci_3 (k := 8) (by decide) fl_X3_21 (Or.inr ⟨rfl, rfl⟩) rfl (by omega) (by omega) (q := 8) rfl ?_
  refine mx_aload_n (pc := 36) C dX3_init_36 rfl ?_
  refine mx_bipush (pc := 37) C dX3_init_37 (z := 100) rfl (by constructor <;> decide) ?_
  refine mx_newa (pc := 39) (q := 0) (n := 100) (id := L + 4) C dX3_init_39 (by decide) ac_int rfl (by decide) ⟨(by omega), (by omega)⟩ ((len_app (len_app (len_app (len_app hL)))).trans (by omega)) ?_
  refine mx_putR (pc := 41) C dX3_init_41 (shp_old (shp_old (shp_old (shp_old (shp_old hs))))) ci_3 (k := 9) (by decide) fl_X3_24 (Or.inr ⟨rfl, rfl⟩) rfl (by omega) (by omega) (q := 9) rfl ?_
  refine mx_aload_n (pc := 44) C dX3_init_44 rfl ?_
  refine mc_V (pc := 45) (as := []) (rest := []) (stk2 := []) C ⟨(by omega), (by omega)⟩ (mt_X3_empty (shp_old (shp_old (shp_old (shp_old (shp_old hs)))))) mi_X3_empty mv_X3_empty ml_X3_27 ci_3 rfl (shp_old (shp_old (shp_old (shp_old (shp_old hs))))) (by omega) rfl (Nat.le_of_ble_eq_true rfl) dX3_init_45 rfl (fun _ => ?_)
  exact mx_return (pc := 48) C dX3_init_48 trivial ⟨by omega, by omega⟩
def i_X4 (L o : Int) (M : Mem) : Mem := stM (newM (stM (M) o 0 (-1)) L (fun _ => 0)) o 2 L
set_option maxRecDepth 20000 in
set_option maxHeartbeats 4000000 in
theorem mw_X4_init {S0 : List Shp} {o : Int} {n0 : Nat} {M : Mem} {L : Int} (hL : (S0.length : Int) = L) (hs : shp S0 o = some (10 + 4, n0)) (hLb : L < 500000) : Mth true yX4_init cX4_init 1 none 1 1 60 S0 [aR o] M none (S0 ++ [(3, 60)]) (i_X4 L o M) True := by
  have hb1 := shp_at hs
  have hb2 : (0 : Int) ≤ L := by omega
  refine Mth.of (by decide +kernel) (Nat.le_of_ble_eq_true rfl) (fun K B C => ?_)
  show Wx K B _ 0 0 S0 1 M 0 [some (aR o)] []
  refine mx_aload_n (pc := 0) C dX4_init_0 rfl ?_
  refine mx_objInit (pc := 1) C ml_X4_3 w_obj.1 w_obj.2 (by omega) (Nat.le_of_ble_eq_true rfl) dX4_init_1 ?_
  refine mx_aload_n (pc := 4) C dX4_init_4 rfl ?_
  refine mx_iconst (pc := 5) C dX4_init_5 (z := (-1)) rfl (by constructor <;> decide) ?_
  refine mx_putI (pc := 6) C dX4_init_6 hs ci_4 (k := 0) (by decide) fl_X4_9 (Or.inl rfl) rfl (q := 0) rfl ?_
  refine mx_aload_n (pc := 9) C dX4_init_9 rfl ?_
  refine mx_bipush (pc := 10) C dX4_init_10 (z := 60) rfl (by constructor <;> decide) ?_
  refine mx_newa (pc := 12) (q := 3) (n := 60) (id := L) C dX4_init_12 (by decide) ac_long rfl (by decide) ⟨(by omega), (by omega)⟩ hL ?_
  refine mx_putR (pc := 14) C dX4_init_14 (shp_old hs) ci_4 (k := 2) (by decide) fl_X4_15 (Or.inr ⟨rfl, rfl⟩) rfl (by omega) (by omega) (q := 2) rfl ?_
  exact mx_return (pc := 17) C dX4_init_17 trivial ⟨by omega, by omega⟩
def i_X5 (L o : Int) (M : Mem) : Mem := stM (newM (M) L (fun _ => 0)) o 0 L
set_option maxRecDepth 20000 in
set_option maxHeartbeats 4000000 in
theorem mw_X5_init {S0 : List Shp} {o : Int} {n0 : Nat} {M : Mem} {L : Int} (hL : (S0.length : Int) = L) (hs : shp S0 o = some (10 + 5, n0)) (hLb : L < 500000) : Mth true yX5_init cX5_init 1 none 1 1 100 S0 [aR o] M none (S0 ++ [(1, 100)]) (i_X5 L o M) True := by
  have hb1 := shp_at hs
  have hb2 : (0 : Int) ≤ L := by omega
  refine Mth.of (by decide +kernel) (Nat.le_of_ble_eq_true rfl) (fun K B C => ?_)
  show Wx K B _ 0 0 S0 1 M 0 [some (aR o)] []
  refine mx_aload_n (pc := 0) C dX5_init_0 rfl ?_
  refine mx_objInit (pc := 1) C ml_X5_3 w_obj.1 w_obj.2 (by omega) (Nat.le_of_ble_eq_true rfl) dX5_init_1 ?_
  refine mx_aload_n (pc := 4) C dX5_init_4 rfl ?_
  refine mx_bipush (pc := 5) C dX5_init_5 (z := 100) rfl (by constructor <;> decide) ?_
  refine mx_newa (pc := 7) (q := 1) (n := 100) (id := L) C dX5_init_7 (by decide) ac_byte rfl (by decide) ⟨(by omega), (by omega)⟩ hL ?_
  refine mx_putR (pc := 9) C dX5_init_9 (shp_old hs) ci_5 (k := 0) (by decide) fl_X5_9 (Or.inr ⟨rfl, rfl⟩) rfl (by omega) (by omega) (q := 0) rfl ?_
  exact mx_return (pc := 12) C dX5_init_12 trivial ⟨by omega, by omega⟩
def i_X6 (L o : Int) (M : Mem) : Mem := stM (newM (stM (newM (stM (newM (stM (newM (stM (newM (stM (newM (stM (newM (stM (newM (M) L (fun _ => 0)) o 2 L) (L + 1) (fun _ => 0)) o 3 (L + 1)) (L + 2) (fun _ => 0)) o 4 (L + 2)) (L + 3) (fun _ => 0)) o 5 (L + 3)) (L + 4) (fun _ => 0)) o 6 (L + 4)) (L + 5) (fun _ => 0)) o 7 (L + 5)) (L + 6) (fun _ => 0)) o 8 (L + 6)) (L + 7) (fun _ => 0)) o 11 (L + 7)
set_option maxRecDepth 20000 in
set_option maxHeartbeats 4000000 in
theorem mw_X6_init {S0 : List Shp} {o : Int} {n0 : Nat} {M : Mem} {L : Int} (hL : (S0.length : Int) = L) (hs : shp S0 o = some (10 + 6, n0)) (hLb : L < 500000) : Mth true yX6_init cX6_init 1 none 1 8 241 S0 [aR o] M none ((((((((S0 ++ [(0, 150)]) ++ [(0, 6)]) ++ [(0, 5)]) ++ [(2, 6)]) ++ [(0, 30)]) ++ [(0, 35)]) ++ [(0, 6)]) ++ [(0, 3)]) (i_X6 L o M) True := by
  have hb1 := shp_at hs
  have hb2 : (0 : Int) ≤ L := by omega
  refine Mth.of (by decide +kernel) (Nat.le_of_ble_eq_true rfl) (fun K B C => ?_)
  show Wx K B _ 0 0 S0 1 M 0 [some (aR o)] []
  refine mx_aload_n (pc := 0) C dX6_init_0 rfl ?_
  refine mx_objInit (pc := 1) C ml_X6_3 w_obj.1 w_obj.2 (by omega) (Nat.le_of_ble_eq_true rfl) dX6_init_1 ?_
  refine mx_aload_n (pc := 4) C dX6_init_4 rfl ?_
  refine mx_sipush (pc := 5) C dX6_init_5 (z := 150) rfl (by constructor <;> decide) ?_
  refine mx_newa (pc := 8) (q := 0) (n := 150) (id := L) C dX6_init_8 (by decide) ac_int rfl (by decide) ⟨(by omega), (by omega)⟩ hL ?_
  refine mx_putR (pc := 10) C dX6_init_10 (shp_old hs) ci_6 (k := 2) (by decide) fl_X6_9 (Or.inr ⟨rfl, rfl⟩) rfl (by omega) (by omega) (q := 2) rfl ?_
  refine mx_aload_n (pc := 13) C dX6_init_13 rfl ?_
  refine mx_bipush (pc := 14) C dX6_init_14 (z := 6) rfl (by constructor <;> decide) ?_
  refine mx_newa (pc := 16) (q := 0) (n := 6) (id := L + 1) C dX6_init_16 (by decide) ac_int rfl (by decide) ⟨(by omega), (by omega)⟩ ((len_app hL).trans (by omega)) ?_
  refine mx_putR (pc := 18) C dX6_init_18 (shp_old (shp_old hs)) ci_6 (k := 3) (by decide) fl_X6_15 (Or.inr ⟨rfl, rfl⟩) rfl (by omega) (by omega) (q := 3) rfl ?_
  refine mx_aload_n (pc := 21) C dX6_init_21 rfl ?_
  refine mx_iconst (pc := 22) C dX6_init_22 (z := 5) rfl (by constructor <;> decide) ?_
  refine mx_newa (pc := 23) (q := 0) (n := 5) (id := L + 2) C dX6_init_23 (by decide) ac_int rfl (by decide) ⟨(by omega), (by omega)⟩ ((len_app (len_app hL)).trans (by omega)) ?_
  refine mx_putR (pc := 25) C dX6_init_25 (shp_old (shp_old (shp_old hs))) ci_6 (k := 4) (by decide) fl_X6_18 (Or.inr ⟨rfl, rfl⟩) rfl (by omega) (by omega) (q := 4) rfl ?_
  refine mx_aload_n (pc := 28) C dX6_init_28 rfl ?_
  refine mx_bipush (pc := 29) C dX6_init_29 (z := 6) rfl (by constructor <;> decide) ?_
  refine mx_newa (pc := 31) (q := 2) (n := 6) (id := L + 3) C dX6_init_31 (by decide) ac_boolean rfl (by decide) ⟨(by omega), (by omega)⟩ ((len_app (len_app (len_app hL))).trans (by omega)) ?_
  refine mx_putR (pc := 33) C dX6_init_33 (shp_old (shp_old (shp_old (shp_old hs)))) ci_6 (k := 5) (by decide) fl_X6_21 (Or.inr ⟨rfl, rfl⟩) rfl (by omega) (by omega) (q := 5) rfl ?_
  refine mx_aload_n (pc := 36) C dX6_init_36 rfl ?_
  refine mx_bipush (pc := 37) C dX6_init_37 (z := 30) rfl (by constructor <;> decide) ?_
  refine mx_newa (pc := 39) (q := 0) (n := 30) (id := L + 4) C dX6_init_39 (by decide) ac_int rfl (by decide) ⟨(by omega), (by omega)⟩ ((len_app (len_app (len_app (len_app hL)))).trans (by omega)) ?_
  refine mx_putR (pc := 41) C dX6_init_41 (shp_old (shp_old (shp_old (shp_old (shp_old hs))))) ci_6 (k := 6) (by decide) fl_X6_25 (Or.inr ⟨rfl, rfl⟩) rfl (by omega) (by omega) (q := 6) rfl ?_
  refine mx_aload_n (pc := 44) C dX6_init_44 rfl ?_
  refine mx_bipush (pc := 45) C dX6_init_45 (z := 35) rfl (by constructor <;> decide) ?_
  refine mx_newa (pc := 47) (q := 0) (n := 35) (id := L + 5) C dX6_init_47 (by decide) ac_int rfl (by decide) ⟨(by omega), (by omega)⟩ ((len_app (len_app (len_app (len_app (len_app hL))))).trans (by omega)) ?_
  refine mx_putR (pc := 49) C dX6_init_49 (shp_old (shp_old (shp_old (shp_old (shp_old (shp_old hs)))))) ci_6 (k := 7) (by decide) fl_X6_28 (Or.inr ⟨rfl, rfl⟩) rfl (by omega) (by omega) (q := 7) rfl ?_
  refine mx_aload_n (pc := 52) C dX6_init_52 rfl ?_
  refine mx_bipush (pc := 53) C dX6_init_53 (z := 6) rfl (by constructor <;> decide) ?_
  refine mx_newa (pc := 55) (q := 0) (n := 6) (id := L + 6) C dX6_init_55 (by decide) ac_int rfl (by decide) ⟨(by omega), (by omega)⟩ ((len_app (len_app (len_app (len_app (len_app (len_app hL)))))).trans (by omega)) ?_
  refine mx_putR (pc := 57) C dX6_init_57 (shp_old (shp_old (shp_old (shp_old (shp_old (shp_old (shp_old hs))))))) ci_6 (k := 8) (by decide) fl_X6_31 (Or.inr ⟨rfl, rfl⟩) rfl (by omega) (by omega) (q := 8) rfl ?_
  refine mx_aload_n (pc := 60) C dX6_init_60 rfl ?_
  refine mx_iconst (pc := 61) C dX6_init_61 (z := 3) rfl (by constructor <;> decide) ?_
  refine mx_newa (pc := 62) (q := 0) (n := 3) (id := L + 7) C dX6_init_62 (by decide) ac_int rfl (by decide) ⟨(by omega), (by omega)⟩ ((len_app (len_app (len_app (len_app (len_app (len_app (len_app hL))))))).trans (by omega)) ?_
  refine mx_putR (pc := 64) C dX6_init_64 (shp_old (shp_old (shp_old (shp_old (shp_old (shp_old (shp_old (shp_old hs)))))))) ci_6 (k := 11) (by decide) fl_X6_34 (Or.inr ⟨rfl, rfl⟩) rfl (by omega) (by omega) (q := 11) rfl ?_
  exact mx_return (pc := 67) C dX6_init_67 trivial ⟨by omega, by omega⟩
def i_X0 (L o : Int) (M : Mem) : Mem := stM (newM (M) L (fun _ => 0)) o 1 L
set_option maxRecDepth 20000 in
set_option maxHeartbeats 4000000 in
theorem mw_X0_init {S0 : List Shp} {o : Int} {n0 : Nat} {M : Mem} {L : Int} (hL : (S0.length : Int) = L) (hs : shp S0 o = some (10 + 0, n0)) (hLb : L < 500000) : Mth true yX0_init cX0_init 1 none 1 1 20 S0 [aR o] M none (S0 ++ [(0, 20)]) (i_X0 L o M) True := by
  have hb1 := shp_at hs
  have hb2 : (0 : Int) ≤ L := by omega
  refine Mth.of (by decide +kernel) (Nat.le_of_ble_eq_true rfl) (fun K B C => ?_)
  show Wx K B _ 0 0 S0 1 M 0 [some (aR o)] []
  refine mx_aload_n (pc := 0) C dX0_init_0 rfl ?_
  refine mx_objInit (pc := 1) C ml_X0_3 w_obj.1 w_obj.2 (by omega) (Nat.le_of_ble_eq_true rfl) dX0_init_1 ?_
  refine mx_aload_n (pc := 4) C dX0_init_4 rfl ?_
  refine mx_bipush (pc := 5) C dX0_init_5 (z := 20) rfl (by constructor <;> decide) ?_
  refine mx_newa (pc := 7) (q := 0) (n := 20) (id := L) C dX0_init_7 (by decide) ac_int rfl (by decide) ⟨(by omega), (by omega)⟩ hL ?_
  refine mx_putR (pc := 9) C dX0_init_9 (shp_old hs) ci_0 (k := 1) (by decide) fl_X0_9 (Or.inr ⟨rfl, rfl⟩) rfl (by omega) (by omega) (q := 1) rfl ?_
  exact mx_return (pc := 12) C dX0_init_12 trivial ⟨by omega, by omega⟩
def i_X1 (L o p1 : Int) (M : Mem) : Mem := stM (stM (newM (stM (i_X2 (L + 14) (L + 13) 8 (newM (stM (i_X2 (L + 10) (L + 9) 10 (newM (stM (i_X2 (L + 6) (L + 5) 5 (newM (stM (newM (stM (newM (stM (newM (stM (newM (stM (newM (M) L (fun _ => 0)) o 1 L) (L + 1) (fun _ => 0)) o 2 (L + 1)) (L + 2) (fun _ => 0)) o 3 (L + 2)) (L + 3) (fun _ => 0)) o 4 (L + 3)) (L + 4) (fun _ => 0)) o 5 (L + 4)) (L + 5) (dflt 2))) o 8 (L + 5)) (L + 9) (dflt 2))) o 9 (L + 9)) (L + 13) (dflt 2))) o 10 (L + 13)) (L + 17) (fun _ => 0)) o 11 (L + 17)) o 7 p1
set_option maxRecDepth 20000 in
set_option maxHeartbeats 4000000 in
theorem mw_X1_init {S0 : List Shp} {o : Int} {n0 : Nat} {M : Mem} {p1 : Int} {n1 : Nat} {L : Int} (hL : (S0.length : Int) = L) (hs : shp S0 o = some (10 + 1, n0)) (hp1 : shp S0 p1 = some (10 + 3, n1)) (hLb : L < 400000) : Mth true yX1_init cX1_init 2 none 2 18 135 S0 [aR o, aR p1] M none ((((((((((((((((((S0 ++ [(0, 6)]) ++ [(0, 6)]) ++ [(0, 6)]) ++ [(0, 6)]) ++ [(0, 24)]) ++ [(10 + 2, nFl 2)]) ++ [(0, 5)]) ++ [(0, 5)]) ++ [(0, 5)]) ++ [(10 + 2, nFl 2)]) ++ [(0, 10)]) ++ [(0, 10)]) ++ [(0, 10)]) ++ [(10 + 2, nFl 2)]) ++ [(0, 8)]) ++ [(0, 8)]) ++ [(0, 8)]) ++ [(0, 6)]) (i_X1 L o p1 M) True := by
  have hb1 := shp_at hs
  have hb2 : (0 : Int) ≤ L := by omega
  have hb3 := shp_at hp1
  have hb4 : p1 < L := by omega
  have hn2 : nFl 2 = 4 := rfl
  refine Mth.of (by decide +kernel) (Nat.le_of_ble_eq_true rfl) (fun K B C => ?_)
  show Wx K B _ 0 0 S0 2 M 0 [some (aR o), some (aR p1)] []
  refine mx_aload_n (pc := 0) C dX1_init_0 rfl ?_
  refine mx_objInit (pc := 1) C ml_X1_3 w_obj.1 w_obj.2 (by omega) (Nat.le_of_ble_eq_true rfl) dX1_init_1 ?_
  refine mx_aload_n (pc := 4) C dX1_init_4 rfl ?_
  refine mx_bipush (pc := 5) C dX1_init_5 (z := 6) rfl (by constructor <;> decide) ?_
  refine mx_newa (pc := 7) (q := 0) (n := 6) (id := L) C dX1_init_7 (by decide) ac_int rfl (by decide) ⟨(by omega), (by omega)⟩ hL ?_
  refine mx_putR (pc := 9) C dX1_init_9 (shp_old hs) ci_1 (k := 1) (by decide) fl_X1_9 (Or.inr ⟨rfl, rfl⟩) rfl (by omega) (by omega) (q := 1) rfl ?_
  refine mx_aload_n (pc := 12) C dX1_init_12 rfl ?_
  refine mx_bipush (pc := 13) C dX1_init_13 (z := 6) rfl (by constructor <;> decide) ?_
  refine mx_newa (pc := 15) (q := 0) (n := 6) (id := L + 1) C dX1_init_15 (by decide) ac_int rfl (by decide) ⟨(by omega), (by omega)⟩ ((len_app hL).trans (by omega)) ?_
  refine mx_putR (pc := 17) C dX1_init_17 (shp_old (shp_old hs)) ci_1 (k := 2) (by decide) fl_X1_15 (Or.inr ⟨rfl, rfl⟩) rfl (by omega) (by omega) (q := 2) rfl ?_
  refine mx_aload_n (pc := 20) C dX1_init_20 rfl ?_
  refine mx_bipush (pc := 21) C dX1_init_21 (z := 6) rfl (by constructor <;> decide) ?_
  refine mx_newa (pc := 23) (q := 0) (n := 6) (id := L + 2) C dX1_init_23 (by decide) ac_int rfl (by decide) ⟨(by omega), (by omega)⟩ ((len_app (len_app hL)).trans (by omega)) ?_
  refine mx_putR (pc := 25) C dX1_init_25 (shp_old (shp_old (shp_old hs))) ci_1 (k := 3) (by decide) fl_X1_18 (Or.inr ⟨rfl, rfl⟩) rfl (by omega) (by omega) (q := 3) rfl ?_
  refine mx_aload_n (pc := 28) C dX1_init_28 rfl ?_
  refine mx_bipush (pc := 29) C dX1_init_29 (z := 6) rfl (by constructor <;> decide) ?_
  refine mx_newa (pc := 31) (q := 0) (n := 6) (id := L + 3) C dX1_init_31 (by decide) ac_int rfl (by decide) ⟨(by omega), (by omega)⟩ ((len_app (len_app (len_app hL))).trans (by omega)) ?_
  refine mx_putR (pc := 33) C dX1_init_33 (shp_old (shp_old (shp_old (shp_old hs)))) ci_1 (k := 4) (by decide) fl_X1_21 (Or.inr ⟨rfl, rfl⟩) rfl (by omega) (by omega) (q := 4) rfl ?_
  refine mx_aload_n (pc := 36) C dX1_init_36 rfl ?_
  refine mx_bipush (pc := 37) C dX1_init_37 (z := 24) rfl (by constructor <;> decide) ?_
  refine mx_newa (pc := 39) (q := 0) (n := 24) (id := L + 4) C dX1_init_39 (by decide) ac_int rfl (by decide) ⟨(by omega), (by omega)⟩ ((len_app (len_app (len_app (len_app hL)))).trans (by omega)) ?_
  refine mx_putR (pc := 41) C dX1_init_41 (shp_old (shp_old (shp_old (shp_old (shp_old hs))))) ci_1 (k := 5) (by decide) fl_X1_24 (Or.inr ⟨rfl, rfl⟩) rfl (by omega) (by omega) (q := 5) rfl ?_
  refine mx_aload_n (pc := 44) C dX1_init_44 rfl ?_
  refine mx_new (pc := 45) (id := L + 5) C dX1_init_45 ci_2 (by decide +kernel) cl_X1_27 in_2 iz_2 ⟨(by omega), (by omega)⟩ ((len_app (len_app (len_app (len_app (len_app hL))))).trans (by omega)) ?_
  refine mx_dup (pc := 48) C dX1_init_48 rfl ?_
  refine mx_iconst (pc := 49) C dX1_init_49 (z := 5) rfl (by constructor <;> decide) ?_
  refine mx_callI (pc := 50) (as := [aI 5]) (rest := [aR (L + 5), aR o]) C (mw_X2_init (L := L + 6) (np := 5) ((len_app (len_app (len_app (len_app (len_app (len_app hL)))))).trans (by omega)) (shp_new ((len_app (len_app (len_app (len_app (len_app hL))))).trans (by omega))) (by omega) (by decide)) mi_X2_init mv_X2_init rfl ml_X1_29 (by omega) ⟨(by omega), (by omega)⟩ rfl (Nat.le_of_ble_eq_true rfl) dX1_init_50 (fun _ => ?_)
  refine mx_putR (pc := 53) C dX1_init_53 (shp_old (shp_old (shp_old (shp_old (shp_old (shp_old (shp_old (shp_old (shp_old hs))))))))) ci_1 (k := 8) (by decide) fl_X1_32 (Or.inr ⟨rfl, rfl⟩) rfl (by omega) (by omega) (q := 8) rfl ?_
  refine mx_aload_n (pc := 56) C dX1_init_56 rfl ?_
  refine mx_new (pc := 57) (id := L + 9) C dX1_init_57 ci_2 (by decide +kernel) cl_X1_27 in_2 iz_2 ⟨(by omega), (by omega)⟩ ((len_app (len_app (len_app (len_app (len_app (len_app (len_app (len_app (len_app hL))))))))).trans (by omega)) ?_
  refine mx_dup (pc := 60) C dX1_init_60 rfl ?_
  refine mx_bipush (pc := 61) C dX1_init_61 (z := 10) rfl (by constructor <;> decide) ?_
  refine mx_callI (pc := 63) (as := [aI 10]) (rest := [aR (L + 9), aR o]) C (mw_X2_init (L := L + 10) (np := 10) ((len_app (len_app (len_app (len_app (len_app (len_app (len_app (len_app (len_app (len_app hL)))))))))).trans (by omega)) (shp_new ((len_app (len_app (len_app (len_app (len_app (len_app (len_app (len_app (len_app hL))))))))).trans (by omega))) (by omega) (by decide)) mi_X2_init mv_X2_init rfl ml_X1_29 (by omega) ⟨(by omega), (by omega)⟩ rfl (Nat.le_of_ble_eq_true rfl) dX1_init_63 (fun _ => ?_)
  refine mx_putR (pc := 66) C dX1_init_66 (shp_old (shp_old (shp_old (shp_old (shp_old (shp_old (shp_old (shp_old (shp_old (shp_old (shp_old (shp_old (shp_old hs))))))))))))) ci_1 (k := 9) (by decide) fl_X1_36 (Or.inr ⟨rfl, rfl⟩) rfl (by omega) (by omega) (q := 9) rfl ?_
  refine mx_aload_n (pc := 69) C dX1_init_69 rfl ?_
  refine mx_new (pc := 70) (id := L + 13) C dX1_init_70 ci_2 (by decide +kernel) cl_X1_27 in_2 iz_2 ⟨(by omega), (by omega)⟩ ((len_app (len_app (len_app (len_app (len_app (len_app (len_app (len_app (len_app (len_app (len_app (len_app (len_app hL))))))))))))).trans (by omega)) ?_
  refine mx_dup (pc := 73) C dX1_init_73 rfl ?_
  refine mx_bipush (pc := 74) C dX1_init_74 (z := 8) rfl (by constructor <;> decide) ?_
  refine mx_callI (pc := 76) (as := [aI 8]) (rest := [aR (L + 13), aR o]) C (mw_X2_init (L := L + 14) (np := 8) ((len_app (len_app (len_app (len_app (len_app (len_app (len_app (len_app (len_app (len_app (len_app (len_app (len_app (len_app hL)))))))))))))).trans (by omega)) (shp_new ((len_app (len_app (len_app (len_app (len_app (len_app (len_app (len_app (len_app (len_app (len_app (len_app (len_app hL))))))))))))).trans (by omega))) (by omega) (by decide)) mi_X2_init mv_X2_init rfl ml_X1_29 (by omega) ⟨(by omega), (by omega)⟩ rfl (Nat.le_of_ble_eq_true rfl) dX1_init_76 (fun _ => ?_)
  refine mx_putR (pc := 79) C dX1_init_79 (shp_old (shp_old (shp_old (shp_old (shp_old (shp_old (shp_old (shp_old (shp_old (shp_old (shp_old (shp_old (shp_old (shp_old (shp_old (shp_old (shp_old hs))))))))))))))))) ci_1 (k := 10) (by decide) fl_X1_39 (Or.inr ⟨rfl, rfl⟩) rfl (by omega) (by omega) (q := 10) rfl ?_
  refine mx_aload_n (pc := 82) C dX1_init_82 rfl ?_
  refine mx_bipush (pc := 83) C dX1_init_83 (z := 6) rfl (by constructor <;> decide) ?_
  refine mx_newa (pc := 85) (q := 0) (n := 6) (id := L + 17) C dX1_init_85 (by decide) ac_int rfl (by decide) ⟨(by omega), (by omega)⟩ ((len_app (len_app (len_app (len_app (len_app (len_app (len_app (len_app (len_app (len_app (len_app (len_app (len_app (len_app (len_app (len_app (len_app hL))))))))))))))))).trans (by omega)) ?_
  refine mx_putR (pc := 87) C dX1_init_87 (shp_old (shp_old (shp_old (shp_old (shp_old (shp_old (shp_old (shp_old (shp_old (shp_old (shp_old (shp_old (shp_old (shp_old (shp_old (shp_old (shp_old (shp_old hs)))))))))))))))))) ci_1 (k := 11) (by decide) fl_X1_44 (Or.inr ⟨rfl, rfl⟩) rfl (by omega) (by omega) (q := 11) rfl ?_
  refine mx_aload_n (pc := 90) C dX1_init_90 rfl ?_
  refine mx_aload_n (pc := 91) C dX1_init_91 rfl ?_
  refine mx_putR (pc := 92) C dX1_init_92 (shp_old (shp_old (shp_old (shp_old (shp_old (shp_old (shp_old (shp_old (shp_old (shp_old (shp_old (shp_old (shp_old (shp_old (shp_old (shp_old (shp_old (shp_old hs)))))))))))))))))) ci_1 (k := 7) (by decide) fl_X1_47 (Or.inl rfl) rfl (by omega) (by omega) (q := 7) rfl ?_
  exact mx_return (pc := 95) C dX1_init_95 trivial ⟨by omega, by omega⟩
