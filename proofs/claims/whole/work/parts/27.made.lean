def MZ : Mem := fun _ _ => 0
def MA : Mem := stM (i_X4 126 125 (newM (stM (i_X4 124 123 (newM (stM (i_X4 122 121 (newM (stM (i_X4 120 119 (newM (stM (i_X4 118 117 (newM (stM (i_X4 116 115 (newM (stM (i_X3 110 109 (newM (stM (i_X3 104 103 (newM (stM (i_X3 98 97 (newM (stM (i_X3 92 91 (newM (stM (i_X3 86 85 (newM (stM (i_X3 80 79 (newM (stM (i_X1 61 60 16 (newM (stM (i_X1 42 41 16 (newM (stM (i_X1 23 22 16 (newM (i_X3 17 16 (newM (stM (newM (stM (i_X0 14 13 (newM (stM (i_X6 5 4 (newM (stM (newM (stM (i_X5 2 1 (newM (newM MZ 0 (dflt 7)) 1 (dflt 5))) 0 4 1) 3 (fun _ => -1)) 0 5 3) 4 (dflt 6))) 0 7 4) 13 (dflt 0))) 0 8 13) 15 (fun _ => -1)) 0 9 15) 16 (dflt 3))) 22 (dflt 1))) 0 0 22) 41 (dflt 1))) 0 1 41) 60 (dflt 1))) 0 2 60) 79 (dflt 3))) 3 0 79) 85 (dflt 3))) 3 1 85) 91 (dflt 3))) 3 2 91) 97 (dflt 3))) 3 3 97) 103 (dflt 3))) 3 4 103) 109 (dflt 3))) 3 5 109) 115 (dflt 4))) 15 0 115) 117 (dflt 4))) 15 1 117) 119 (dflt 4))) 15 2 119) 121 (dflt 4))) 15 3 121) 123 (dflt 4))) 15 4 123) 125 (dflt 4))) 15 5 125
def S_MA : List Shp := (((((((((((((((((((((((((((((((((((((((((((((((((((((((((((((((((((((((((((((((((((((((((((((((((((((((((((((((((((((((((((((([(10 + 7, nFl 7)] ++ [(10 + 5, nFl 5)]) ++ [(1, 100)]) ++ [(4, 6)]) ++ [(10 + 6, nFl 6)]) ++ [(0, 150)]) ++ [(0, 6)]) ++ [(0, 5)]) ++ [(2, 6)]) ++ [(0, 30)]) ++ [(0, 35)]) ++ [(0, 6)]) ++ [(0, 3)]) ++ [(10 + 0, nFl 0)]) ++ [(0, 20)]) ++ [(5, 6)]) ++ [(10 + 3, nFl 3)]) ++ [(0, 10)]) ++ [(0, 11)]) ++ [(0, 100)]) ++ [(0, 100)]) ++ [(0, 100)]) ++ [(10 + 1, nFl 1)]) ++ [(0, 6)]) ++ [(0, 6)]) ++ [(0, 6)]) ++ [(0, 6)]) ++ [(0, 24)]) ++ [(10 + 2, nFl 2)]) ++ [(0, 5)]) ++ [(0, 5)]) ++ [(0, 5)]) ++ [(10 + 2, nFl 2)]) ++ [(0, 10)]) ++ [(0, 10)]) ++ [(0, 10)]) ++ [(10 + 2, nFl 2)]) ++ [(0, 8)]) ++ [(0, 8)]) ++ [(0, 8)]) ++ [(0, 6)]) ++ [(10 + 1, nFl 1)]) ++ [(0, 6)]) ++ [(0, 6)]) ++ [(0, 6)]) ++ [(0, 6)]) ++ [(0, 24)]) ++ [(10 + 2, nFl 2)]) ++ [(0, 5)]) ++ [(0, 5)]) ++ [(0, 5)]) ++ [(10 + 2, nFl 2)]) ++ [(0, 10)]) ++ [(0, 10)]) ++ [(0, 10)]) ++ [(10 + 2, nFl 2)]) ++ [(0, 8)]) ++ [(0, 8)]) ++ [(0, 8)]) ++ [(0, 6)]) ++ [(10 + 1, nFl 1)]) ++ [(0, 6)]) ++ [(0, 6)]) ++ [(0, 6)]) ++ [(0, 6)]) ++ [(0, 24)]) ++ [(10 + 2, nFl 2)]) ++ [(0, 5)]) ++ [(0, 5)]) ++ [(0, 5)]) ++ [(10 + 2, nFl 2)]) ++ [(0, 10)]) ++ [(0, 10)]) ++ [(0, 10)]) ++ [(10 + 2, nFl 2)]) ++ [(0, 8)]) ++ [(0, 8)]) ++ [(0, 8)]) ++ [(0, 6)]) ++ [(10 + 3, nFl 3)]) ++ [(0, 10)]) ++ [(0, 11)]) ++ [(0, 100)]) ++ [(0, 100)]) ++ [(0, 100)]) ++ [(10 + 3, nFl 3)]) ++ [(0, 10)]) ++ [(0, 11)]) ++ [(0, 100)]) ++ [(0, 100)]) ++ [(0, 100)]) ++ [(10 + 3, nFl 3)]) ++ [(0, 10)]) ++ [(0, 11)]) ++ [(0, 100)]) ++ [(0, 100)]) ++ [(0, 100)]) ++ [(10 + 3, nFl 3)]) ++ [(0, 10)]) ++ [(0, 11)]) ++ [(0, 100)]) ++ [(0, 100)]) ++ [(0, 100)]) ++ [(10 + 3, nFl 3)]) ++ [(0, 10)]) ++ [(0, 11)]) ++ [(0, 100)]) ++ [(0, 100)]) ++ [(0, 100)]) ++ [(10 + 3, nFl 3)]) ++ [(0, 10)]) ++ [(0, 11)]) ++ [(0, 100)]) ++ [(0, 100)]) ++ [(0, 100)]) ++ [(10 + 4, nFl 4)]) ++ [(3, 60)]) ++ [(10 + 4, nFl 4)]) ++ [(3, 60)]) ++ [(10 + 4, nFl 4)]) ++ [(3, 60)]) ++ [(10 + 4, nFl 4)]) ++ [(3, 60)]) ++ [(10 + 4, nFl 4)]) ++ [(3, 60)]) ++ [(10 + 4, nFl 4)]) ++ [(3, 60)])
set_option maxRecDepth 100000 in
set_option maxHeartbeats 40000000 in
theorem mw_X7_init : Mth true yX7_init cX7_init 3 none 3 126 3530 [(10 + 7, nFl 7)] [aR 0] (newM MZ 0 (dflt 7)) none S_MA MA True := by
  unfold S_MA MA
  refine Mth.of (by decide +kernel) (Nat.le_of_ble_eq_true rfl) (fun K B C => ?_)
  show Wx K B _ 0 0 [(10 + 7, nFl 7)] 3 (newM MZ 0 (dflt 7)) 0 [some (aR 0), none, none] []
  refine mx_aload_n (pc := 0) C dX7_init_0 rfl ?_
  refine mx_objInit (pc := 1) C ml_X7_5 w_obj.1 w_obj.2 (by omega) (Nat.le_of_ble_eq_true rfl) dX7_init_1 ?_
  refine mx_aload_n (pc := 4) C dX7_init_4 rfl ?_
  refine mx_new (pc := 5) (id := 1) C dX7_init_5 ci_5 (by decide +kernel) cl_X7_11 in_5 iz_5 ⟨(by decide), (by decide)⟩ (by decide +kernel) ?_
  refine mx_dup (pc := 8) C dX7_init_8 rfl ?_
  refine mx_callIN (pc := 9) (host := "SqueakShop") (as := []) (rest := [aR 1, aR 0]) C (mw_X5_init (n0 := nFl 5) (L := 2) (by decide +kernel) (by decide +kernel) (by decide)) mi_X5_init mv_X5_init rfl (by decide +kernel) (by omega) ⟨(by decide), (by decide)⟩ rfl (Nat.le_of_ble_eq_true rfl) dX7_init_9 (fun _ => ?_)
  refine mx_putR (n := nFl 7) (pc := 12) C dX7_init_12 (by decide +kernel) ci_7 (k := 4) (by decide) fl_X7_14 (Or.inr ⟨rfl, rfl⟩) rfl (by decide) (by decide) (q := 4) rfl ?_
  refine mx_aload_n (pc := 15) C dX7_init_15 rfl ?_
  refine mx_bipush (pc := 16) C dX7_init_16 (z := 6) rfl (by constructor <;> decide) ?_
  refine mx_anew (pc := 18) (q := 4) (n := 6) (id := 3) C dX7_init_18 (by decide +kernel) cl_X7_18 rfl (by decide) ⟨(by decide), (by decide)⟩ (by decide +kernel) ?_
  refine mx_putR (n := nFl 7) (pc := 21) C dX7_init_21 (by decide +kernel) ci_7 (k := 5) (by decide) fl_X7_20 (Or.inr ⟨rfl, rfl⟩) rfl (by decide) (by decide) (q := 5) rfl ?_
  refine mx_aload_n (pc := 24) C dX7_init_24 rfl ?_
  refine mx_new (pc := 25) (id := 4) C dX7_init_25 ci_6 (by decide +kernel) cl_X7_24 in_6 iz_6 ⟨(by decide), (by decide)⟩ (by decide +kernel) ?_
  refine mx_dup (pc := 28) C dX7_init_28 rfl ?_
  refine mx_callIN (pc := 29) (host := "SqueakShop") (as := []) (rest := [aR 4, aR 0]) C (mw_X6_init (n0 := nFl 6) (L := 5) (by decide +kernel) (by decide +kernel) (by decide)) mi_X6_init mv_X6_init rfl (by decide +kernel) (by omega) ⟨(by decide), (by decide)⟩ rfl (Nat.le_of_ble_eq_true rfl) dX7_init_29 (fun _ => ?_)
  refine mx_putR (n := nFl 7) (pc := 32) C dX7_init_32 (by decide +kernel) ci_7 (k := 7) (by decide) fl_X7_27 (Or.inr ⟨rfl, rfl⟩) rfl (by decide) (by decide) (q := 7) rfl ?_
  refine mx_aload_n (pc := 35) C dX7_init_35 rfl ?_
  refine mx_new (pc := 36) (id := 13) C dX7_init_36 ci_0 (by decide +kernel) cl_X7_31 in_0 iz_0 ⟨(by decide), (by decide)⟩ (by decide +kernel) ?_
  refine mx_dup (pc := 39) C dX7_init_39 rfl ?_
  refine mx_callIN (pc := 40) (host := "SqueakShop") (as := []) (rest := [aR 13, aR 0]) C (mw_X0_init (n0 := nFl 0) (L := 14) (by decide +kernel) (by decide +kernel) (by decide)) mi_X0_init mv_X0_init rfl (by decide +kernel) (by omega) ⟨(by decide), (by decide)⟩ rfl (Nat.le_of_ble_eq_true rfl) dX7_init_40 (fun _ => ?_)
  refine mx_putR (n := nFl 7) (pc := 43) C dX7_init_43 (by decide +kernel) ci_7 (k := 8) (by decide) fl_X7_34 (Or.inr ⟨rfl, rfl⟩) rfl (by decide) (by decide) (q := 8) rfl ?_
  refine mx_aload_n (pc := 46) C dX7_init_46 rfl ?_
  refine mx_bipush (pc := 47) C dX7_init_47 (z := 6) rfl (by constructor <;> decide) ?_
  refine mx_anew (pc := 49) (q := 5) (n := 6) (id := 15) C dX7_init_49 (by decide +kernel) cl_X7_38 rfl (by decide) ⟨(by decide), (by decide)⟩ (by decide +kernel) ?_
  refine mx_putR (n := nFl 7) (pc := 52) C dX7_init_52 (by decide +kernel) ci_7 (k := 9) (by decide) fl_X7_40 (Or.inr ⟨rfl, rfl⟩) rfl (by decide) (by decide) (q := 9) rfl ?_
  refine mx_new (pc := 55) (id := 16) C dX7_init_55 ci_3 (by decide +kernel) cl_X7_18 in_3 iz_3 ⟨(by decide), (by decide)⟩ (by decide +kernel) ?_
  refine mx_dup (pc := 58) C dX7_init_58 rfl ?_
  refine mx_callI (pc := 59) (as := []) (rest := [aR 16]) C (mw_X3_init (n0 := nFl 3) (L := 17) (by decide +kernel) (by decide +kernel) (by decide)) mi_X3_init mv_X3_init rfl ml_X7_44 (by omega) ⟨(by decide), (by decide)⟩ rfl (Nat.le_of_ble_eq_true rfl) dX7_init_59 (fun _ => ?_)
  refine mx_astore_n (pc := 62) C dX7_init_62 (ls' := [some (aR 0), some (aR 16), none]) (by decide) rfl rfl ?_
  refine mx_aload_n (pc := 63) C dX7_init_63 rfl ?_
  refine mx_new (pc := 64) (id := 22) C dX7_init_64 ci_1 (by decide +kernel) cl_X7_45 in_1 iz_1 ⟨(by decide), (by decide)⟩ (by decide +kernel) ?_
  refine mx_dup (pc := 67) C dX7_init_67 rfl ?_
  refine mx_aload_n (pc := 68) C dX7_init_68 rfl ?_
  refine mx_callI (pc := 69) (as := [aR 16]) (rest := [aR 22, aR 0]) C (mw_X1_init (n0 := nFl 1) (n1 := nFl 3) (L := 23) (by decide +kernel) (by decide +kernel) (by decide +kernel) (by decide)) mi_X1_init mv_X1_init rfl ml_X7_47 (by omega) ⟨(by decide), (by decide)⟩ rfl (Nat.le_of_ble_eq_true rfl) dX7_init_69 (fun _ => ?_)
  refine mx_putR (n := nFl 7) (pc := 72) C dX7_init_72 (by decide +kernel) ci_7 (k := 0) (by decide) fl_X7_50 (Or.inr ⟨rfl, rfl⟩) rfl (by decide) (by decide) (q := 0) rfl ?_
  refine mx_aload_n (pc := 75) C dX7_init_75 rfl ?_
  refine mx_new (pc := 76) (id := 41) C dX7_init_76 ci_1 (by decide +kernel) cl_X7_45 in_1 iz_1 ⟨(by decide), (by decide)⟩ (by decide +kernel) ?_
  refine mx_dup (pc := 79) C dX7_init_79 rfl ?_
  refine mx_aload_n (pc := 80) C dX7_init_80 rfl ?_
  refine mx_callI (pc := 81) (as := [aR 16]) (rest := [aR 41, aR 0]) C (mw_X1_init (n0 := nFl 1) (n1 := nFl 3) (L := 42) (by decide +kernel) (by decide +kernel) (by decide +kernel) (by decide)) mi_X1_init mv_X1_init rfl ml_X7_47 (by omega) ⟨(by decide), (by decide)⟩ rfl (Nat.le_of_ble_eq_true rfl) dX7_init_81 (fun _ => ?_)
  refine mx_putR (n := nFl 7) (pc := 84) C dX7_init_84 (by decide +kernel) ci_7 (k := 1) (by decide) fl_X7_54 (Or.inr ⟨rfl, rfl⟩) rfl (by decide) (by decide) (q := 1) rfl ?_
  refine mx_aload_n (pc := 87) C dX7_init_87 rfl ?_
  refine mx_new (pc := 88) (id := 60) C dX7_init_88 ci_1 (by decide +kernel) cl_X7_45 in_1 iz_1 ⟨(by decide), (by decide)⟩ (by decide +kernel) ?_
  refine mx_dup (pc := 91) C dX7_init_91 rfl ?_
  refine mx_aload_n (pc := 92) C dX7_init_92 rfl ?_
  refine mx_callI (pc := 93) (as := [aR 16]) (rest := [aR 60, aR 0]) C (mw_X1_init (n0 := nFl 1) (n1 := nFl 3) (L := 61) (by decide +kernel) (by decide +kernel) (by decide +kernel) (by decide)) mi_X1_init mv_X1_init rfl ml_X7_47 (by omega) ⟨(by decide), (by decide)⟩ rfl (Nat.le_of_ble_eq_true rfl) dX7_init_93 (fun _ => ?_)
  refine mx_putR (n := nFl 7) (pc := 96) C dX7_init_96 (by decide +kernel) ci_7 (k := 2) (by decide) fl_X7_57 (Or.inr ⟨rfl, rfl⟩) rfl (by decide) (by decide) (q := 2) rfl ?_
  refine mx_iconst (pc := 99) C dX7_init_99 (z := 0) rfl (by constructor <;> decide) ?_
  refine mx_istore_n (pc := 100) C dX7_init_100 (ls' := [some (aR 0), some (aR 16), some (aI 0)]) (by decide) rfl rfl ?_
  refine mx_iload_n (pc := 101) C dX7_init_101 rfl ?_
  refine mx_bipush (pc := 102) C dX7_init_102 (z := 6) rfl (by constructor <;> decide) ?_
  refine mx_icmp_ge (pc := 104) (tgt := 126) C dX7_init_104 rfl (fun c => ?_) (fun c => ?_)
  exact absurd c (by decide)
  refine mx_aload_n (pc := 107) C dX7_init_107 rfl ?_
  refine mx_getR (n := nFl 7) (pc := 108) (v := 3) C dX7_init_108 (by decide +kernel) ci_7 (k := 5) (by decide) fl_X7_20 rfl (q := 5) rfl (by decide +kernel) (by decide) ?_
  refine mx_iload_n (pc := 111) C dX7_init_111 rfl ?_
  refine mx_new (pc := 112) (id := 79) C dX7_init_112 ci_3 (by decide +kernel) cl_X7_18 in_3 iz_3 ⟨(by decide), (by decide)⟩ (by decide +kernel) ?_
  refine mx_dup (pc := 115) C dX7_init_115 rfl ?_
  refine mx_callI (pc := 116) (as := []) (rest := [aR 79, aI 0, aR 3]) C (mw_X3_init (n0 := nFl 3) (L := 80) (by decide +kernel) (by decide +kernel) (by decide)) mi_X3_init mv_X3_init rfl ml_X7_44 (by omega) ⟨(by decide), (by decide)⟩ rfl (Nat.le_of_ble_eq_true rfl) dX7_init_116 (fun _ => ?_)
  refine mx_aast (n := 6) (q := 4) (pc := 119) (n2 := 10) C dX7_init_119 (by decide +kernel) (by decide) (by decide +kernel) ci_3 (by decide) (by decide) (by decide) ?_
  refine mx_iinc (pc := 120) (v := 1) C dX7_init_120 (ls' := [some (aR 0), some (aR 16), some (aI 1)]) rfl (by decide) rfl (by constructor <;> decide) (by decide +kernel) rfl ?_
  refine mx_goto (pc := 123) (tgt := 101) C dX7_init_123 rfl ?_
  refine mx_iload_n (pc := 101) C dX7_init_101 rfl ?_
  refine mx_bipush (pc := 102) C dX7_init_102 (z := 6) rfl (by constructor <;> decide) ?_
  refine mx_icmp_ge (pc := 104) (tgt := 126) C dX7_init_104 rfl (fun c => ?_) (fun c => ?_)
  exact absurd c (by decide)
  refine mx_aload_n (pc := 107) C dX7_init_107 rfl ?_
  refine mx_getR (n := nFl 7) (pc := 108) (v := 3) C dX7_init_108 (by decide +kernel) ci_7 (k := 5) (by decide) fl_X7_20 rfl (q := 5) rfl (by decide +kernel) (by decide) ?_
  refine mx_iload_n (pc := 111) C dX7_init_111 rfl ?_
  refine mx_new (pc := 112) (id := 85) C dX7_init_112 ci_3 (by decide +kernel) cl_X7_18 in_3 iz_3 ⟨(by decide), (by decide)⟩ (by decide +kernel) ?_
  refine mx_dup (pc := 115) C dX7_init_115 rfl ?_
  refine mx_callI (pc := 116) (as := []) (rest := [aR 85, aI 1, aR 3]) C (mw_X3_init (n0 := nFl 3) (L := 86) (by decide +kernel) (by decide +kernel) (by decide)) mi_X3_init mv_X3_init rfl ml_X7_44 (by omega) ⟨(by decide), (by decide)⟩ rfl (Nat.le_of_ble_eq_true rfl) dX7_init_116 (fun _ => ?_)
  refine mx_aast (n := 6) (q := 4) (pc := 119) (n2 := 10) C dX7_init_119 (by decide +kernel) (by decide) (by decide +kernel) ci_3 (by decide) (by decide) (by decide) ?_
  refine mx_iinc (pc := 120) (v := 2) C dX7_init_120 (ls' := [some (aR 0), some (aR 16), some (aI 2)]) rfl (by decide) rfl (by constructor <;> decide) (by decide +kernel) rfl ?_
  refine mx_goto (pc := 123) (tgt := 101) C dX7_init_123 rfl ?_
  refine mx_iload_n (pc := 101) C dX7_init_101 rfl ?_
  refine mx_bipush (pc := 102) C dX7_init_102 (z := 6) rfl (by constructor <;> decide) ?_
  refine mx_icmp_ge (pc := 104) (tgt := 126) C dX7_init_104 rfl (fun c => ?_) (fun c => ?_)
  exact absurd c (by decide)
  refine mx_aload_n (pc := 107) C dX7_init_107 rfl ?_
  refine mx_getR (n := nFl 7) (pc := 108) (v := 3) C dX7_init_108 (by decide +kernel) ci_7 (k := 5) (by decide) fl_X7_20 rfl (q := 5) rfl (by decide +kernel) (by decide) ?_
  refine mx_iload_n (pc := 111) C dX7_init_111 rfl ?_
  refine mx_new (pc := 112) (id := 91) C dX7_init_112 ci_3 (by decide +kernel) cl_X7_18 in_3 iz_3 ⟨(by decide), (by decide)⟩ (by decide +kernel) ?_
  refine mx_dup (pc := 115) C dX7_init_115 rfl ?_
  refine mx_callI (pc := 116) (as := []) (rest := [aR 91, aI 2, aR 3]) C (mw_X3_init (n0 := nFl 3) (L := 92) (by decide +kernel) (by decide +kernel) (by decide)) mi_X3_init mv_X3_init rfl ml_X7_44 (by omega) ⟨(by decide), (by decide)⟩ rfl (Nat.le_of_ble_eq_true rfl) dX7_init_116 (fun _ => ?_)
  refine mx_aast (n := 6) (q := 4) (pc := 119) (n2 := 10) C dX7_init_119 (by decide +kernel) (by decide) (by decide +kernel) ci_3 (by decide) (by decide) (by decide) ?_
  refine mx_iinc (pc := 120) (v := 3) C dX7_init_120 (ls' := [some (aR 0), some (aR 16), some (aI 3)]) rfl (by decide) rfl (by constructor <;> decide) (by decide +kernel) rfl ?_
  refine mx_goto (pc := 123) (tgt := 101) C dX7_init_123 rfl ?_
  refine mx_iload_n (pc := 101) C dX7_init_101 rfl ?_
  refine mx_bipush (pc := 102) C dX7_init_102 (z := 6) rfl (by constructor <;> decide) ?_
  refine mx_icmp_ge (pc := 104) (tgt := 126) C dX7_init_104 rfl (fun c => ?_) (fun c => ?_)
  exact absurd c (by decide)
  refine mx_aload_n (pc := 107) C dX7_init_107 rfl ?_
  refine mx_getR (n := nFl 7) (pc := 108) (v := 3) C dX7_init_108 (by decide +kernel) ci_7 (k := 5) (by decide) fl_X7_20 rfl (q := 5) rfl (by decide +kernel) (by decide) ?_
  refine mx_iload_n (pc := 111) C dX7_init_111 rfl ?_
  refine mx_new (pc := 112) (id := 97) C dX7_init_112 ci_3 (by decide +kernel) cl_X7_18 in_3 iz_3 ⟨(by decide), (by decide)⟩ (by decide +kernel) ?_
  refine mx_dup (pc := 115) C dX7_init_115 rfl ?_
  refine mx_callI (pc := 116) (as := []) (rest := [aR 97, aI 3, aR 3]) C (mw_X3_init (n0 := nFl 3) (L := 98) (by decide +kernel) (by decide +kernel) (by decide)) mi_X3_init mv_X3_init rfl ml_X7_44 (by omega) ⟨(by decide), (by decide)⟩ rfl (Nat.le_of_ble_eq_true rfl) dX7_init_116 (fun _ => ?_)
  refine mx_aast (n := 6) (q := 4) (pc := 119) (n2 := 10) C dX7_init_119 (by decide +kernel) (by decide) (by decide +kernel) ci_3 (by decide) (by decide) (by decide) ?_
  refine mx_iinc (pc := 120) (v := 4) C dX7_init_120 (ls' := [some (aR 0), some (aR 16), some (aI 4)]) rfl (by decide) rfl (by constructor <;> decide) (by decide +kernel) rfl ?_
  refine mx_goto (pc := 123) (tgt := 101) C dX7_init_123 rfl ?_
  refine mx_iload_n (pc := 101) C dX7_init_101 rfl ?_
  refine mx_bipush (pc := 102) C dX7_init_102 (z := 6) rfl (by constructor <;> decide) ?_
  refine mx_icmp_ge (pc := 104) (tgt := 126) C dX7_init_104 rfl (fun c => ?_) (fun c => ?_)
  exact absurd c (by decide)
  refine mx_aload_n (pc := 107) C dX7_init_107 rfl ?_
  refine mx_getR (n := nFl 7) (pc := 108) (v := 3) C dX7_init_108 (by decide +kernel) ci_7 (k := 5) (by decide) fl_X7_20 rfl (q := 5) rfl (by decide +kernel) (by decide) ?_
  refine mx_iload_n (pc := 111) C dX7_init_111 rfl ?_
  refine mx_new (pc := 112) (id := 103) C dX7_init_112 ci_3 (by decide +kernel) cl_X7_18 in_3 iz_3 ⟨(by decide), (by decide)⟩ (by decide +kernel) ?_
  refine mx_dup (pc := 115) C dX7_init_115 rfl ?_
  refine mx_callI (pc := 116) (as := []) (rest := [aR 103, aI 4, aR 3]) C (mw_X3_init (n0 := nFl 3) (L := 104) (by decide +kernel) (by decide +kernel) (by decide)) mi_X3_init mv_X3_init rfl ml_X7_44 (by omega) ⟨(by decide), (by decide)⟩ rfl (Nat.le_of_ble_eq_true rfl) dX7_init_116 (fun _ => ?_)
  refine mx_aast (n := 6) (q := 4) (pc := 119) (n2 := 10) C dX7_init_119 (by decide +kernel) (by decide) (by decide +kernel) ci_3 (by decide) (by decide) (by decide) ?_
  refine mx_iinc (pc := 120) (v := 5) C dX7_init_120 (ls' := [some (aR 0), some (aR 16), some (aI 5)]) rfl (by decide) rfl (by constructor <;> decide) (by decide +kernel) rfl ?_
  refine mx_goto (pc := 123) (tgt := 101) C dX7_init_123 rfl ?_
  refine mx_iload_n (pc := 101) C dX7_init_101 rfl ?_
  refine mx_bipush (pc := 102) C dX7_init_102 (z := 6) rfl (by constructor <;> decide) ?_
  refine mx_icmp_ge (pc := 104) (tgt := 126) C dX7_init_104 rfl (fun c => ?_) (fun c => ?_)
  exact absurd c (by decide)
  refine mx_aload_n (pc := 107) C dX7_init_107 rfl ?_
  refine mx_getR (n := nFl 7) (pc := 108) (v := 3) C dX7_init_108 (by decide +kernel) ci_7 (k := 5) (by decide) fl_X7_20 rfl (q := 5) rfl (by decide +kernel) (by decide) ?_
  refine mx_iload_n (pc := 111) C dX7_init_111 rfl ?_
  refine mx_new (pc := 112) (id := 109) C dX7_init_112 ci_3 (by decide +kernel) cl_X7_18 in_3 iz_3 ⟨(by decide), (by decide)⟩ (by decide +kernel) ?_
  refine mx_dup (pc := 115) C dX7_init_115 rfl ?_
  refine mx_callI (pc := 116) (as := []) (rest := [aR 109, aI 5, aR 3]) C (mw_X3_init (n0 := nFl 3) (L := 110) (by decide +kernel) (by decide +kernel) (by decide)) mi_X3_init mv_X3_init rfl ml_X7_44 (by omega) ⟨(by decide), (by decide)⟩ rfl (Nat.le_of_ble_eq_true rfl) dX7_init_116 (fun _ => ?_)
  refine mx_aast (n := 6) (q := 4) (pc := 119) (n2 := 10) C dX7_init_119 (by decide +kernel) (by decide) (by decide +kernel) ci_3 (by decide) (by decide) (by decide) ?_
  refine mx_iinc (pc := 120) (v := 6) C dX7_init_120 (ls' := [some (aR 0), some (aR 16), some (aI 6)]) rfl (by decide) rfl (by constructor <;> decide) (by decide +kernel) rfl ?_
  refine mx_goto (pc := 123) (tgt := 101) C dX7_init_123 rfl ?_
  refine mx_iload_n (pc := 101) C dX7_init_101 rfl ?_
  refine mx_bipush (pc := 102) C dX7_init_102 (z := 6) rfl (by constructor <;> decide) ?_
  refine mx_icmp_ge (pc := 104) (tgt := 126) C dX7_init_104 rfl (fun c => ?_) (fun c => ?_)
  rotate_left
  exact absurd (by decide) c
  refine mx_iconst (pc := 126) C dX7_init_126 (z := 0) rfl (by constructor <;> decide) ?_
  refine mx_istore_n (pc := 127) C dX7_init_127 (ls' := [some (aR 0), some (aR 16), some (aI 0)]) (by decide) rfl rfl ?_
  refine mx_iload_n (pc := 128) C dX7_init_128 rfl ?_
  refine mx_bipush (pc := 129) C dX7_init_129 (z := 6) rfl (by constructor <;> decide) ?_
  refine mx_icmp_ge (pc := 131) (tgt := 153) C dX7_init_131 rfl (fun c => ?_) (fun c => ?_)
  exact absurd c (by decide)
  refine mx_aload_n (pc := 134) C dX7_init_134 rfl ?_
  refine mx_getR (n := nFl 7) (pc := 135) (v := 15) C dX7_init_135 (by decide +kernel) ci_7 (k := 9) (by decide) fl_X7_40 rfl (q := 9) rfl (by decide +kernel) (by decide) ?_
  refine mx_iload_n (pc := 138) C dX7_init_138 rfl ?_
  refine mx_new (pc := 139) (id := 115) C dX7_init_139 ci_4 (by decide +kernel) cl_X7_38 in_4 iz_4 ⟨(by decide), (by decide)⟩ (by decide +kernel) ?_
  refine mx_dup (pc := 142) C dX7_init_142 rfl ?_
  refine mx_callIN (pc := 143) (host := "SqueakShop") (as := []) (rest := [aR 115, aI 0, aR 15]) C (mw_X4_init (n0 := nFl 4) (L := 116) (by decide +kernel) (by decide +kernel) (by decide)) mi_X4_init mv_X4_init rfl (by decide +kernel) (by omega) ⟨(by decide), (by decide)⟩ rfl (Nat.le_of_ble_eq_true rfl) dX7_init_143 (fun _ => ?_)
  refine mx_aast (n := 6) (q := 5) (pc := 146) (n2 := 3) C dX7_init_146 (by decide +kernel) (by decide) (by decide +kernel) ci_4 (by decide) (by decide) (by decide) ?_
  refine mx_iinc (pc := 147) (v := 1) C dX7_init_147 (ls' := [some (aR 0), some (aR 16), some (aI 1)]) rfl (by decide) rfl (by constructor <;> decide) (by decide +kernel) rfl ?_
  refine mx_goto (pc := 150) (tgt := 128) C dX7_init_150 rfl ?_
  refine mx_iload_n (pc := 128) C dX7_init_128 rfl ?_
  refine mx_bipush (pc := 129) C dX7_init_129 (z := 6) rfl (by constructor <;> decide) ?_
  refine mx_icmp_ge (pc := 131) (tgt := 153) C dX7_init_131 rfl (fun c => ?_) (fun c => ?_)
  exact absurd c (by decide)
  refine mx_aload_n (pc := 134) C dX7_init_134 rfl ?_
  refine mx_getR (n := nFl 7) (pc := 135) (v := 15) C dX7_init_135 (by decide +kernel) ci_7 (k := 9) (by decide) fl_X7_40 rfl (q := 9) rfl (by decide +kernel) (by decide) ?_
  refine mx_iload_n (pc := 138) C dX7_init_138 rfl ?_
  refine mx_new (pc := 139) (id := 117) C dX7_init_139 ci_4 (by decide +kernel) cl_X7_38 in_4 iz_4 ⟨(by decide), (by decide)⟩ (by decide +kernel) ?_
  refine mx_dup (pc := 142) C dX7_init_142 rfl ?_
  refine mx_callIN (pc := 143) (host := "SqueakShop") (as := []) (rest := [aR 117, aI 1, aR 15]) C (mw_X4_init (n0 := nFl 4) (L := 118) (by decide +kernel) (by decide +kernel) (by decide)) mi_X4_init mv_X4_init rfl (by decide +kernel) (by omega) ⟨(by decide), (by decide)⟩ rfl (Nat.le_of_ble_eq_true rfl) dX7_init_143 (fun _ => ?_)
  refine mx_aast (n := 6) (q := 5) (pc := 146) (n2 := 3) C dX7_init_146 (by decide +kernel) (by decide) (by decide +kernel) ci_4 (by decide) (by decide) (by decide) ?_
  refine mx_iinc (pc := 147) (v := 2) C dX7_init_147 (ls' := [some (aR 0), some (aR 16), some (aI 2)]) rfl (by decide) rfl (by constructor <;> decide) (by decide +kernel) rfl ?_
  refine mx_goto (pc := 150) (tgt := 128) C dX7_init_150 rfl ?_
  refine mx_iload_n (pc := 128) C dX7_init_128 rfl ?_
  refine mx_bipush (pc := 129) C dX7_init_129 (z := 6) rfl (by constructor <;> decide) ?_
  refine mx_icmp_ge (pc := 131) (tgt := 153) C dX7_init_131 rfl (fun c => ?_) (fun c => ?_)
  exact absurd c (by decide)
  refine mx_aload_n (pc := 134) C dX7_init_134 rfl ?_
  refine mx_getR (n := nFl 7) (pc := 135) (v := 15) C dX7_init_135 (by decide +kernel) ci_7 (k := 9) (by decide) fl_X7_40 rfl (q := 9) rfl (by decide +kernel) (by decide) ?_
  refine mx_iload_n (pc := 138) C dX7_init_138 rfl ?_
  refine mx_new (pc := 139) (id := 119) C dX7_init_139 ci_4 (by decide +kernel) cl_X7_38 in_4 iz_4 ⟨(by decide), (by decide)⟩ (by decide +kernel) ?_
  refine mx_dup (pc := 142) C dX7_init_142 rfl ?_
  refine mx_callIN (pc := 143) (host := "SqueakShop") (as := []) (rest := [aR 119, aI 2, aR 15]) C (mw_X4_init (n0 := nFl 4) (L := 120) (by decide +kernel) (by decide +kernel) (by decide)) mi_X4_init mv_X4_init rfl (by decide +kernel) (by omega) ⟨(by decide), (by decide)⟩ rfl (Nat.le_of_ble_eq_true rfl) dX7_init_143 (fun _ => ?_)
  refine mx_aast (n := 6) (q := 5) (pc := 146) (n2 := 3) C dX7_init_146 (by decide +kernel) (by decide) (by decide +kernel) ci_4 (by decide) (by decide) (by decide) ?_
  refine mx_iinc (pc := 147) (v := 3) C dX7_init_147 (ls' := [some (aR 0), some (aR 16), some (aI 3)]) rfl (by decide) rfl (by constructor <;> decide) (by decide +kernel) rfl ?_
  refine mx_goto (pc := 150) (tgt := 128) C dX7_init_150 rfl ?_
  refine mx_iload_n (pc := 128) C dX7_init_128 rfl ?_
  refine mx_bipush (pc := 129) C dX7_init_129 (z := 6) rfl (by constructor <;> decide) ?_
  refine mx_icmp_ge (pc := 131) (tgt := 153) C dX7_init_131 rfl (fun c => ?_) (fun c => ?_)
  exact absurd c (by decide)
  refine mx_aload_n (pc := 134) C dX7_init_134 rfl ?_
  refine mx_getR (n := nFl 7) (pc := 135) (v := 15) C dX7_init_135 (by decide +kernel) ci_7 (k := 9) (by decide) fl_X7_40 rfl (q := 9) rfl (by decide +kernel) (by decide) ?_
  refine mx_iload_n (pc := 138) C dX7_init_138 rfl ?_
  refine mx_new (pc := 139) (id := 121) C dX7_init_139 ci_4 (by decide +kernel) cl_X7_38 in_4 iz_4 ⟨(by decide), (by decide)⟩ (by decide +kernel) ?_
  refine mx_dup (pc := 142) C dX7_init_142 rfl ?_
  refine mx_callIN (pc := 143) (host := "SqueakShop") (as := []) (rest := [aR 121, aI 3, aR 15]) C (mw_X4_init (n0 := nFl 4) (L := 122) (by decide +kernel) (by decide +kernel) (by decide)) mi_X4_init mv_X4_init rfl (by decide +kernel) (by omega) ⟨(by decide), (by decide)⟩ rfl (Nat.le_of_ble_eq_true rfl) dX7_init_143 (fun _ => ?_)
  refine mx_aast (n := 6) (q := 5) (pc := 146) (n2 := 3) C dX7_init_146 (by decide +kernel) (by decide) (by decide +kernel) ci_4 (by decide) (by decide) (by decide) ?_
  refine mx_iinc (pc := 147) (v := 4) C dX7_init_147 (ls' := [some (aR 0), some (aR 16), some (aI 4)]) rfl (by decide) rfl (by constructor <;> decide) (by decide +kernel) rfl ?_
  refine mx_goto (pc := 150) (tgt := 128) C dX7_init_150 rfl ?_
  refine mx_iload_n (pc := 128) C dX7_init_128 rfl ?_
  refine mx_bipush (pc := 129) C dX7_init_129 (z := 6) rfl (by constructor <;> decide) ?_
  refine mx_icmp_ge (pc := 131) (tgt := 153) C dX7_init_131 rfl (fun c => ?_) (fun c => ?_)
  exact absurd c (by decide)
  refine mx_aload_n (pc := 134) C dX7_init_134 rfl ?_
  refine mx_getR (n := nFl 7) (pc := 135) (v := 15) C dX7_init_135 (by decide +kernel) ci_7 (k := 9) (by decide) fl_X7_40 rfl (q := 9) rfl (by decide +kernel) (by decide) ?_
  refine mx_iload_n (pc := 138) C dX7_init_138 rfl ?_
  refine mx_new (pc := 139) (id := 123) C dX7_init_139 ci_4 (by decide +kernel) cl_X7_38 in_4 iz_4 ⟨(by decide), (by decide)⟩ (by decide +kernel) ?_
  refine mx_dup (pc := 142) C dX7_init_142 rfl ?_
  refine mx_callIN (pc := 143) (host := "SqueakShop") (as := []) (rest := [aR 123, aI 4, aR 15]) C (mw_X4_init (n0 := nFl 4) (L := 124) (by decide +kernel) (by decide +kernel) (by decide)) mi_X4_init mv_X4_init rfl (by decide +kernel) (by omega) ⟨(by decide), (by decide)⟩ rfl (Nat.le_of_ble_eq_true rfl) dX7_init_143 (fun _ => ?_)
  refine mx_aast (n := 6) (q := 5) (pc := 146) (n2 := 3) C dX7_init_146 (by decide +kernel) (by decide) (by decide +kernel) ci_4 (by decide) (by decide) (by decide) ?_
  refine mx_iinc (pc := 147) (v := 5) C dX7_init_147 (ls' := [some (aR 0), some (aR 16), some (aI 5)]) rfl (by decide) rfl (by constructor <;> decide) (by decide +kernel) rfl ?_
  refine mx_goto (pc := 150) (tgt := 128) C dX7_init_150 rfl ?_
  refine mx_iload_n (pc := 128) C dX7_init_128 rfl ?_
  refine mx_bipush (pc := 129) C dX7_init_129 (z := 6) rfl (by constructor <;> decide) ?_
  refine mx_icmp_ge (pc := 131) (tgt := 153) C dX7_init_131 rfl (fun c => ?_) (fun c => ?_)
  exact absurd c (by decide)
  refine mx_aload_n (pc := 134) C dX7_init_134 rfl ?_
  refine mx_getR (n := nFl 7) (pc := 135) (v := 15) C dX7_init_135 (by decide +kernel) ci_7 (k := 9) (by decide) fl_X7_40 rfl (q := 9) rfl (by decide +kernel) (by decide) ?_
  refine mx_iload_n (pc := 138) C dX7_init_138 rfl ?_
  refine mx_new (pc := 139) (id := 125) C dX7_init_139 ci_4 (by decide +kernel) cl_X7_38 in_4 iz_4 ⟨(by decide), (by decide)⟩ (by decide +kernel) ?_
  refine mx_dup (pc := 142) C dX7_init_142 rfl ?_
  refine mx_callIN (pc := 143) (host := "SqueakShop") (as := []) (rest := [aR 125, aI 5, aR 15]) C (mw_X4_init (n0 := nFl 4) (L := 126) (by decide +kernel) (by decide +kernel) (by decide)) mi_X4_init mv_X4_init rfl (by decide +kernel) (by omega) ⟨(by decide), (by decide)⟩ rfl (Nat.le_of_ble_eq_true rfl) dX7_init_143 (fun _ => ?_)
  refine mx_aast (n := 6) (q := 5) (pc := 146) (n2 := 3) C dX7_init_146 (by decide +kernel) (by decide) (by decide +kernel) ci_4 (by decide) (by decide) (by decide) ?_
  refine mx_iinc (pc := 147) (v := 6) C dX7_init_147 (ls' := [some (aR 0), some (aR 16), some (aI 6)]) rfl (by decide) rfl (by constructor <;> decide) (by decide +kernel) rfl ?_
  refine mx_goto (pc := 150) (tgt := 128) C dX7_init_150 rfl ?_
  refine mx_iload_n (pc := 128) C dX7_init_128 rfl ?_
  refine mx_bipush (pc := 129) C dX7_init_129 (z := 6) rfl (by constructor <;> decide) ?_
  refine mx_icmp_ge (pc := 131) (tgt := 153) C dX7_init_131 rfl (fun c => ?_) (fun c => ?_)
  rotate_left
  exact absurd (by decide) c
  exact mx_return (pc := 153) C dX7_init_153 trivial ⟨Nat.le_refl _, Nat.le_refl _⟩
def SA8 : List Shp := S_MA ++ [(10 + 8, nFl 8)]
def MB : Mem := stM (newM (stM (newM (stM (newM (stM (stM (stM (stM (stM (stM (stM (newM (stM (newM (stM (stM (newM (stM (newM (stM (newM (stM (newM (stM (newM (stM (newM (stM (newM (stM (newM (stM (newM (stM (newM (stM (newM (stM (newM (stM (stM (stM (stM (stM (stM (stM (stM (newM (stM (newM (stM (newM (stM (newM (stM (stM (stM (newM (stM (newM (stM (newM (stM (stM (stM (stM (newM (stM (newM (stM (newM (stM (newM (stM (stM (newM (stM (newM (stM (stM (stM (stM (stM (stM (stM (stM (stM (stM (stM (stM (stM (stM (stM (stM (stM (stM (stM (stM (stM (newM (stM (stM (stM (stM (newM (stM (newM (stM (newM (stM (newM (stM (newM (stM (newM (stM (newM (stM (newM (stM (stM (stM (stM (stM (stM (newM (stM (newM (stM (newM (stM (newM (stM (newM (stM (stM (newM MA 127 (dflt 8)) 127 0 0) 127 1 0) 128 (fun _ => 0)) 127 2 128) 129 (fun _ => 0)) 127 3 129) 130 (fun _ => 0)) 127 4 130) 131 (fun _ => 0)) 127 5 131) 132 (fun _ => 0)) 127 6 132) 127 7 0) 127 8 (-1)) 127 9 0) 127 10 0) 127 11 0) 133 (fun _ => 0)) 127 12 133) 134 (fun _ => 0)) 127 13 134) 135 (fun _ => 0)) 127 14 135) 136 (fun _ => 0)) 127 15 136) 137 (fun _ => 0)) 127 16 137) 138 (fun _ => 0)) 127 17 138) 139 (fun _ => 0)) 127 18 139) 140 (fun _ => 0)) 127 19 140) 127 20 0) 127 21 0) 127 22 0) 141 (fun _ => 0)) 141 0 108) 141 1 111) 141 2 117) 141 3 100) 141 4 115) 141 5 111) 141 6 102) 141 7 116) 141 8 119) 141 9 97) 141 10 108) 141 11 108) 141 12 99) 141 13 97) 141 14 108) 141 15 109) 141 16 119) 141 17 101) 141 18 97) 141 19 114) 127 23 141) 142 (fun _ => 0)) 127 24 142) 143 (fun _ => 0)) 127 25 143) 127 26 0) 144 (fun _ => 0)) 127 27 144) 145 (fun _ => 0)) 127 28 145) 146 (fun _ => 0)) 127 29 146) 147 (fun _ => 0)) 127 30 147) 127 31 0) 127 32 0) 127 33 0) 148 (fun _ => 0)) 127 34 148) 149 (fun _ => 0)) 127 35 149) 150 (fun _ => 0)) 127 36 150) 127 37 0) 127 38 0) 151 (fun _ => 0)) 127 39 151) 152 (fun _ => 0)) 127 40 152) 153 (fun _ => 0)) 127 41 153) 154 (fun _ => 0)) 127 42 154) 127 43 0) 127 44 (-1)) 127 45 0) 127 46 0) 127 47 0) 127 48 0) 127 49 0) 155 (fun _ => 0)) 127 50 155) 156 (fun _ => 0)) 127 51 156) 157 (fun _ => 0)) 127 52 157) 158 (fun _ => 0)) 127 53 158) 159 (fun _ => 0)) 127 54 159) 160 (fun _ => 0)) 127 55 160) 161 (fun _ => 0)) 127 56 161) 162 (fun _ => 0)) 127 57 162) 163 (fun _ => 0)) 127 58 163) 164 (fun _ => 0)) 127 59 164) 165 (fun _ => 0)) 127 60 165) 166 (fun _ => 0)) 127 61 166) 127 62 0) 167 (fun _ => 0)) 127 63 167) 168 (fun _ => 0)) 168 0 (-1)) 168 1 (-1)) 168 2 (-1)) 168 3 (-1)) 168 4 (-1)) 168 5 (-1)) 127 64 168) 169 (fun _ => 0)) 127 65 169) 170 (fun _ => 0)) 127 66 170) 171 (fun _ => 0)) 127 67 171
def S_MB : List Shp := ((((((((((((((((((((((((((((((((((((((((((((SA8 ++ [(0, 6)]) ++ [(0, 6)]) ++ [(0, 6)]) ++ [(0, 6)]) ++ [(0, 24)]) ++ [(0, 100)]) ++ [(0, 6)]) ++ [(0, 60)]) ++ [(0, 60)]) ++ [(0, 60)]) ++ [(0, 60)]) ++ [(0, 600)]) ++ [(0, 101)]) ++ [(0, 20)]) ++ [(2, 100)]) ++ [(0, 5)]) ++ [(0, 6)]) ++ [(0, 6)]) ++ [(0, 150)]) ++ [(0, 6)]) ++ [(0, 5)]) ++ [(0, 5)]) ++ [(0, 5)]) ++ [(0, 10)]) ++ [(0, 10)]) ++ [(0, 8)]) ++ [(0, 8)]) ++ [(0, 6)]) ++ [(0, 6)]) ++ [(0, 6)]) ++ [(0, 6)]) ++ [(0, 24)]) ++ [(0, 5)]) ++ [(0, 5)]) ++ [(0, 5)]) ++ [(0, 10)]) ++ [(0, 10)]) ++ [(0, 8)]) ++ [(0, 8)]) ++ [(0, 20)]) ++ [(0, 6)]) ++ [(0, 6)]) ++ [(3, 360)]) ++ [(3, 60)])
set_option maxRecDepth 100000 in
set_option maxHeartbeats 40000000 in
theorem mw_X8_init : Mth true yX8_init cX8_init 1 none 1 44 1990 SA8 [aR 127] (newM MA 127 (dflt 8)) none S_MB MB True := by
  unfold S_MB MB
  refine Mth.of (by decide +kernel) (Nat.le_of_ble_eq_true rfl) (fun K B C => ?_)
  show Wx K B _ 0 0 SA8 1 (newM MA 127 (dflt 8)) 0 [some (aR 127)] []
  refine mx_aload_n (pc := 0) C dX8_init_0 rfl ?_
  refine mx_objInit (pc := 1) C ml_X8_1 w_obj.1 w_obj.2 (by omega) (Nat.le_of_ble_eq_true rfl) dX8_init_1 ?_
  refine mx_aload_n (pc := 4) C dX8_init_4 rfl ?_
  refine mx_iconst (pc := 5) C dX8_init_5 (z := 0) rfl (by constructor <;> decide) ?_
  refine mx_putI (n := nFl 8) (pc := 6) C dX8_init_6 (by decide +kernel) ci_8 (k := 0) (by decide) fl_X8_7 (Or.inl rfl) rfl (q := 0) rfl ?_
  refine mx_aload_n (pc := 9) C dX8_init_9 rfl ?_
  refine mx_iconst (pc := 10) C dX8_init_10 (z := 0) rfl (by constructor <;> decide) ?_
  refine mx_putI (n := nFl 8) (pc := 11) C dX8_init_11 (by decide +kernel) ci_8 (k := 1) (by decide) fl_X8_13 (Or.inl rfl) rfl (q := 1) rfl ?_
  refine mx_aload_n (pc := 14) C dX8_init_14 rfl ?_
  refine mx_bipush (pc := 15) C dX8_init_15 (z := 6) rfl (by constructor <;> decide) ?_
  refine mx_newa (pc := 17) (q := 0) (n := 6) (id := 128) C dX8_init_17 (by decide) ac_int rfl (by decide) ⟨(by decide), (by decide)⟩ (by decide +kernel) ?_
  refine mx_putR (n := nFl 8) (pc := 19) C dX8_init_19 (by decide +kernel) ci_8 (k := 2) (by decide) fl_X8_16 (Or.inr ⟨rfl, rfl⟩) rfl (by decide) (by decide) (q := 2) rfl ?_
  refine mx_aload_n (pc := 22) C dX8_init_22 rfl ?_
  refine mx_bipush (pc := 23) C dX8_init_23 (z := 6) rfl (by constructor <;> decide) ?_
  refine mx_newa (pc := 25) (q := 0) (n := 6) (id := 129) C dX8_init_25 (by decide) ac_int rfl (by decide) ⟨(by decide), (by decide)⟩ (by decide +kernel) ?_
  refine mx_putR (n := nFl 8) (pc := 27) C dX8_init_27 (by decide +kernel) ci_8 (k := 3) (by decide) fl_X8_20 (Or.inr ⟨rfl, rfl⟩) rfl (by decide) (by decide) (q := 3) rfl ?_
  refine mx_aload_n (pc := 30) C dX8_init_30 rfl ?_
  refine mx_bipush (pc := 31) C dX8_init_31 (z := 6) rfl (by constructor <;> decide) ?_
  refine mx_newa (pc := 33) (q := 0) (n := 6) (id := 130) C dX8_init_33 (by decide) ac_int rfl (by decide) ⟨(by decide), (by decide)⟩ (by decide +kernel) ?_
  refine mx_putR (n := nFl 8) (pc := 35) C dX8_init_35 (by decide +kernel) ci_8 (k := 4) (by decide) fl_X8_23 (Or.inr ⟨rfl, rfl⟩) rfl (by decide) (by decide) (q := 4) rfl ?_
  refine mx_aload_n (pc := 38) C dX8_init_38 rfl ?_
  refine mx_bipush (pc := 39) C dX8_init_39 (z := 6) rfl (by constructor <;> decide) ?_
  refine mx_newa (pc := 41) (q := 0) (n := 6) (id := 131) C dX8_init_41 (by decide) ac_int rfl (by decide) ⟨(by decide), (by decide)⟩ (by decide +kernel) ?_
  refine mx_putR (n := nFl 8) (pc := 43) C dX8_init_43 (by decide +kernel) ci_8 (k := 5) (by decide) fl_X8_26 (Or.inr ⟨rfl, rfl⟩) rfl (by decide) (by decide) (q := 5) rfl ?_
  refine mx_aload_n (pc := 46) C dX8_init_46 rfl ?_
  refine mx_bipush (pc := 47) C dX8_init_47 (z := 24) rfl (by constructor <;> decide) ?_
  refine mx_newa (pc := 49) (q := 0) (n := 24) (id := 132) C dX8_init_49 (by decide) ac_int rfl (by decide) ⟨(by decide), (by decide)⟩ (by decide +kernel) ?_
  refine mx_putR (n := nFl 8) (pc := 51) C dX8_init_51 (by decide +kernel) ci_8 (k := 6) (by decide) fl_X8_29 (Or.inr ⟨rfl, rfl⟩) rfl (by decide) (by decide) (q := 6) rfl ?_
  refine mx_aload_n (pc := 54) C dX8_init_54 rfl ?_
  refine mx_iconst (pc := 55) C dX8_init_55 (z := 0) rfl (by constructor <;> decide) ?_
  refine mx_putI (n := nFl 8) (pc := 56) C dX8_init_56 (by decide +kernel) ci_8 (k := 7) (by decide) fl_X8_32 (Or.inl rfl) rfl (q := 7) rfl ?_
  refine mx_aload_n (pc := 59) C dX8_init_59 rfl ?_
  refine mx_iconst (pc := 60) C dX8_init_60 (z := (-1)) rfl (by constructor <;> decide) ?_
  refine mx_putI (n := nFl 8) (pc := 61) C dX8_init_61 (by decide +kernel) ci_8 (k := 8) (by decide) fl_X8_35 (Or.inl rfl) rfl (q := 8) rfl ?_
  refine mx_aload_n (pc := 64) C dX8_init_64 rfl ?_
  refine mx_iconst (pc := 65) C dX8_init_65 (z := 0) rfl (by constructor <;> decide) ?_
  refine mx_putI (n := nFl 8) (pc := 66) C dX8_init_66 (by decide +kernel) ci_8 (k := 9) (by decide) fl_X8_38 (Or.inl rfl) rfl (q := 9) rfl ?_
  refine mx_aload_n (pc := 69) C dX8_init_69 rfl ?_
  refine mx_iconst (pc := 70) C dX8_init_70 (z := 0) rfl (by constructor <;> decide) ?_
  refine mx_putI (n := nFl 8) (pc := 71) C dX8_init_71 (by decide +kernel) ci_8 (k := 10) (by decide) fl_X8_41 (Or.inl rfl) rfl (q := 10) rfl ?_
  refine mx_aload_n (pc := 74) C dX8_init_74 rfl ?_
  refine mx_iconst (pc := 75) C dX8_init_75 (z := 0) rfl (by constructor <;> decide) ?_
  refine mx_putI (n := nFl 8) (pc := 76) C dX8_init_76 (by decide +kernel) ci_8 (k := 11) (by decide) fl_X8_44 (Or.inl rfl) rfl (q := 11) rfl ?_
  refine mx_aload_n (pc := 79) C dX8_init_79 rfl ?_
  refine mx_bipush (pc := 80) C dX8_init_80 (z := 100) rfl (by constructor <;> decide) ?_
  refine mx_newa (pc := 82) (q := 0) (n := 100) (id := 133) C dX8_init_82 (by decide) ac_int rfl (by decide) ⟨(by decide), (by decide)⟩ (by decide +kernel) ?_
  refine mx_putR (n := nFl 8) (pc := 84) C dX8_init_84 (by decide +kernel) ci_8 (k := 12) (by decide) fl_X8_47 (Or.inr ⟨rfl, rfl⟩) rfl (by decide) (by decide) (q := 12) rfl ?_
  refine mx_aload_n (pc := 87) C dX8_init_87 rfl ?_
  refine mx_bipush (pc := 88) C dX8_init_88 (z := 6) rfl (by constructor <;> decide) ?_
  refine mx_newa (pc := 90) (q := 0) (n := 6) (id := 134) C dX8_init_90 (by decide) ac_int rfl (by decide) ⟨(by decide), (by decide)⟩ (by decide +kernel) ?_
  refine mx_putR (n := nFl 8) (pc := 92) C dX8_init_92 (by decide +kernel) ci_8 (k := 13) (by decide) fl_X8_50 (Or.inr ⟨rfl, rfl⟩) rfl (by decide) (by decide) (q := 13) rfl ?_
  refine mx_aload_n (pc := 95) C dX8_init_95 rfl ?_
  refine mx_bipush (pc := 96) C dX8_init_96 (z := 60) rfl (by constructor <;> decide) ?_
  refine mx_newa (pc := 98) (q := 0) (n := 60) (id := 135) C dX8_init_98 (by decide) ac_int rfl (by decide) ⟨(by decide), (by decide)⟩ (by decide +kernel) ?_
  refine mx_putR (n := nFl 8) (pc := 100) C dX8_init_100 (by decide +kernel) ci_8 (k := 14) (by decide) fl_X8_53 (Or.inr ⟨rfl, rfl⟩) rfl (by decide) (by decide) (q := 14) rfl ?_
  refine mx_aload_n (pc := 103) C dX8_init_103 rfl ?_
  refine mx_bipush (pc := 104) C dX8_init_104 (z := 60) rfl (by constructor <;> decide) ?_
  refine mx_newa (pc := 106) (q := 0) (n := 60) (id := 136) C dX8_init_106 (by decide) ac_int rfl (by decide) ⟨(by decide), (by decide)⟩ (by decide +kernel) ?_
  refine mx_putR (n := nFl 8) (pc := 108) C dX8_init_108 (by decide +kernel) ci_8 (k := 15) (by decide) fl_X8_56 (Or.inr ⟨rfl, rfl⟩) rfl (by decide) (by decide) (q := 15) rfl ?_
  refine mx_aload_n (pc := 111) C dX8_init_111 rfl ?_
  refine mx_bipush (pc := 112) C dX8_init_112 (z := 60) rfl (by constructor <;> decide) ?_
  refine mx_newa (pc := 114) (q := 0) (n := 60) (id := 137) C dX8_init_114 (by decide) ac_int rfl (by decide) ⟨(by decide), (by decide)⟩ (by decide +kernel) ?_
  refine mx_putR (n := nFl 8) (pc := 116) C dX8_init_116 (by decide +kernel) ci_8 (k := 16) (by decide) fl_X8_59 (Or.inr ⟨rfl, rfl⟩) rfl (by decide) (by decide) (q := 16) rfl ?_
  refine mx_aload_n (pc := 119) C dX8_init_119 rfl ?_
  refine mx_bipush (pc := 120) C dX8_init_120 (z := 60) rfl (by constructor <;> decide) ?_
  refine mx_newa (pc := 122) (q := 0) (n := 60) (id := 138) C dX8_init_122 (by decide) ac_int rfl (by decide) ⟨(by decide), (by decide)⟩ (by decide +kernel) ?_
  refine mx_putR (n := nFl 8) (pc := 124) C dX8_init_124 (by decide +kernel) ci_8 (k := 17) (by decide) fl_X8_62 (Or.inr ⟨rfl, rfl⟩) rfl (by decide) (by decide) (q := 17) rfl ?_
  refine mx_aload_n (pc := 127) C dX8_init_127 rfl ?_
  refine mx_sipush (pc := 128) C dX8_init_128 (z := 600) rfl (by constructor <;> decide) ?_
  refine mx_newa (pc := 131) (q := 0) (n := 600) (id := 139) C dX8_init_131 (by decide) ac_int rfl (by decide) ⟨(by decide), (by decide)⟩ (by decide +kernel) ?_
  refine mx_putR (n := nFl 8) (pc := 133) C dX8_init_133 (by decide +kernel) ci_8 (k := 18) (by decide) fl_X8_65 (Or.inr ⟨rfl, rfl⟩) rfl (by decide) (by decide) (q := 18) rfl ?_
  refine mx_aload_n (pc := 136) C dX8_init_136 rfl ?_
  refine mx_bipush (pc := 137) C dX8_init_137 (z := 101) rfl (by constructor <;> decide) ?_
  refine mx_newa (pc := 139) (q := 0) (n := 101) (id := 140) C dX8_init_139 (by decide) ac_int rfl (by decide) ⟨(by decide), (by decide)⟩ (by decide +kernel) ?_
  refine mx_putR (n := nFl 8) (pc := 141) C dX8_init_141 (by decide +kernel) ci_8 (k := 19) (by decide) fl_X8_68 (Or.inr ⟨rfl, rfl⟩) rfl (by decide) (by decide) (q := 19) rfl ?_
  refine mx_aload_n (pc := 144) C dX8_init_144 rfl ?_
  refine mx_iconst (pc := 145) C dX8_init_145 (z := 0) rfl (by constructor <;> decide) ?_
  refine mx_putI (n := nFl 8) (pc := 146) C dX8_init_146 (by decide +kernel) ci_8 (k := 20) (by decide) fl_X8_71 (Or.inl rfl) rfl (q := 20) rfl ?_
  refine mx_aload_n (pc := 149) C dX8_init_149 rfl ?_
  refine mx_iconst (pc := 150) C dX8_init_150 (z := 0) rfl (by constructor <;> decide) ?_
  refine mx_putI (n := nFl 8) (pc := 151) C dX8_init_151 (by decide +kernel) ci_8 (k := 21) (by decide) fl_X8_74 (Or.inl rfl) rfl (q := 21) rfl ?_
  refine mx_aload_n (pc := 154) C dX8_init_154 rfl ?_
  refine mx_iconst (pc := 155) C dX8_init_155 (z := 0) rfl (by constructor <;> decide) ?_
  refine mx_putI (n := nFl 8) (pc := 156) C dX8_init_156 (by decide +kernel) ci_8 (k := 22) (by decide) fl_X8_77 (Or.inl rfl) rfl (q := 22) rfl ?_
  refine mx_aload_n (pc := 159) C dX8_init_159 rfl ?_
  refine mx_bipush (pc := 160) C dX8_init_160 (z := 20) rfl (by constructor <;> decide) ?_
  refine mx_newa (pc := 162) (q := 0) (n := 20) (id := 141) C dX8_init_162 (by decide) ac_int rfl (by decide) ⟨(by decide), (by decide)⟩ (by decide +kernel) ?_
  refine mx_dup (pc := 164) C dX8_init_164 rfl ?_
  refine mx_iconst (pc := 165) C dX8_init_165 (z := 0) rfl (by constructor <;> decide) ?_
  refine mx_bipush (pc := 166) C dX8_init_166 (z := 108) rfl (by constructor <;> decide) ?_
  refine mx_iast (n := 20) (pc := 168) C dX8_init_168 (by decide +kernel) (by decide) (by decide) ?_
  refine mx_dup (pc := 169) C dX8_init_169 rfl ?_
  refine mx_iconst (pc := 170) C dX8_init_170 (z := 1) rfl (by constructor <;> decide) ?_
  refine mx_bipush (pc := 171) C dX8_init_171 (z := 111) rfl (by constructor <;> decide) ?_
  refine mx_iast (n := 20) (pc := 173) C dX8_init_173 (by decide +kernel) (by decide) (by decide) ?_
  refine mx_dup (pc := 174) C dX8_init_174 rfl ?_
  refine mx_iconst (pc := 175) C dX8_init_175 (z := 2) rfl (by constructor <;> decide) ?_
  refine mx_bipush (pc := 176) C dX8_init_176 (z := 117) rfl (by constructor <;> decide) ?_
  refine mx_iast (n := 20) (pc := 178) C dX8_init_178 (by decide +kernel) (by decide) (by decide) ?_
  refine mx_dup (pc := 179) C dX8_init_179 rfl ?_
  refine mx_iconst (pc := 180) C dX8_init_180 (z := 3) rfl (by constructor <;> decide) ?_
  refine mx_bipush (pc := 181) C dX8_init_181 (z := 100) rfl (by constructor <;> decide) ?_
  refine mx_iast (n := 20) (pc := 183) C dX8_init_183 (by decide +kernel) (by decide) (by decide) ?_
  refine mx_dup (pc := 184) C dX8_init_184 rfl ?_
  refine mx_iconst (pc := 185) C dX8_init_185 (z := 4) rfl (by constructor <;> decide) ?_
  refine mx_bipush (pc := 186) C dX8_init_186 (z := 115) rfl (by constructor <;> decide) ?_
  refine mx_iast (n := 20) (pc := 188) C dX8_init_188 (by decide +kernel) (by decide) (by decide) ?_
  refine mx_dup (pc := 189) C dX8_init_189 rfl ?_
  refine mx_iconst (pc := 190) C dX8_init_190 (z := 5) rfl (by constructor <;> decide) ?_
  refine mx_bipush (pc := 191) C dX8_init_191 (z := 111) rfl (by constructor <;> decide) ?_
  refine mx_iast (n := 20) (pc := 193) C dX8_init_193 (by decide +kernel) (by decide) (by decide) ?_
  refine mx_dup (pc := 194) C dX8_init_194 rfl ?_
  refine mx_bipush (pc := 195) C dX8_init_195 (z := 6) rfl (by constructor <;> decide) ?_
  refine mx_bipush (pc := 197) C dX8_init_197 (z := 102) rfl (by constructor <;> decide) ?_
  refine mx_iast (n := 20) (pc := 199) C dX8_init_199 (by decide +kernel) (by decide) (by decide) ?_
  refine mx_dup (pc := 200) C dX8_init_200 rfl ?_
  refine mx_bipush (pc := 201) C dX8_init_201 (z := 7) rfl (by constructor <;> decide) ?_
  refine mx_bipush (pc := 203) C dX8_init_203 (z := 116) rfl (by constructor <;> decide) ?_
  refine mx_iast (n := 20) (pc := 205) C dX8_init_205 (by decide +kernel) (by decide) (by decide) ?_
  refine mx_dup (pc := 206) C dX8_init_206 rfl ?_
  refine mx_bipush (pc := 207) C dX8_init_207 (z := 8) rfl (by constructor <;> decide) ?_
  refine mx_bipush (pc := 209) C dX8_init_209 (z := 119) rfl (by constructor <;> decide) ?_
  refine mx_iast (n := 20) (pc := 211) C dX8_init_211 (by decide +kernel) (by decide) (by decide) ?_
  refine mx_dup (pc := 212) C dX8_init_212 rfl ?_
  refine mx_bipush (pc := 213) C dX8_init_213 (z := 9) rfl (by constructor <;> decide) ?_
  refine mx_bipush (pc := 215) C dX8_init_215 (z := 97) rfl (by constructor <;> decide) ?_
  refine mx_iast (n := 20) (pc := 217) C dX8_init_217 (by decide +kernel) (by decide) (by decide) ?_
  refine mx_dup (pc := 218) C dX8_init_218 rfl ?_
  refine mx_bipush (pc := 219) C dX8_init_219 (z := 10) rfl (by constructor <;> decide) ?_
  refine mx_bipush (pc := 221) C dX8_init_221 (z := 108) rfl (by constructor <;> decide) ?_
  refine mx_iast (n := 20) (pc := 223) C dX8_init_223 (by decide +kernel) (by decide) (by decide) ?_
  refine mx_dup (pc := 224) C dX8_init_224 rfl ?_
  refine mx_bipush (pc := 225) C dX8_init_225 (z := 11) rfl (by constructor <;> decide) ?_
  refine mx_bipush (pc := 227) C dX8_init_227 (z := 108) rfl (by constructor <;> decide) ?_
  refine mx_iast (n := 20) (pc := 229) C dX8_init_229 (by decide +kernel) (by decide) (by decide) ?_
  refine mx_dup (pc := 230) C dX8_init_230 rfl ?_
  refine mx_bipush (pc := 231) C dX8_init_231 (z := 12) rfl (by constructor <;> decide) ?_
  refine mx_bipush (pc := 233) C dX8_init_233 (z := 99) rfl (by constructor <;> decide) ?_
  refine mx_iast (n := 20) (pc := 235) C dX8_init_235 (by decide +kernel) (by decide) (by decide) ?_
  refine mx_dup (pc := 236) C dX8_init_236 rfl ?_
  refine mx_bipush (pc := 237) C dX8_init_237 (z := 13) rfl (by constructor <;> decide) ?_
  refine mx_bipush (pc := 239) C dX8_init_239 (z := 97) rfl (by constructor <;> decide) ?_
  refine mx_iast (n := 20) (pc := 241) C dX8_init_241 (by decide +kernel) (by decide) (by decide) ?_
  refine mx_dup (pc := 242) C dX8_init_242 rfl ?_
  refine mx_bipush (pc := 243) C dX8_init_243 (z := 14) rfl (by constructor <;> decide) ?_
  refine mx_bipush (pc := 245) C dX8_init_245 (z := 108) rfl (by constructor <;> decide) ?_
  refine mx_iast (n := 20) (pc := 247) C dX8_init_247 (by decide +kernel) (by decide) (by decide) ?_
  refine mx_dup (pc := 248) C dX8_init_248 rfl ?_
  refine mx_bipush (pc := 249) C dX8_init_249 (z := 15) rfl (by constructor <;> decide) ?_
  refine mx_bipush (pc := 251) C dX8_init_251 (z := 109) rfl (by constructor <;> decide) ?_
  refine mx_iast (n := 20) (pc := 253) C dX8_init_253 (by decide +kernel) (by decide) (by decide) ?_
  refine mx_dup (pc := 254) C dX8_init_254 rfl ?_
  refine mx_bipush (pc := 255) C dX8_init_255 (z := 16) rfl (by constructor <;> decide) ?_
  refine mx_bipush (pc := 257) C dX8_init_257 (z := 119) rfl (by constructor <;> decide) ?_
  refine mx_iast (n := 20) (pc := 259) C dX8_init_259 (by decide +kernel) (by decide) (by decide) ?_
  refine mx_dup (pc := 260) C dX8_init_260 rfl ?_
  refine mx_bipush (pc := 261) C dX8_init_261 (z := 17) rfl (by constructor <;> decide) ?_
  refine mx_bipush (pc := 263) C dX8_init_263 (z := 101) rfl (by constructor <;> decide) ?_
  refine mx_iast (n := 20) (pc := 265) C dX8_init_265 (by decide +kernel) (by decide) (by decide) ?_
  refine mx_dup (pc := 266) C dX8_init_266 rfl ?_
  refine mx_bipush (pc := 267) C dX8_init_267 (z := 18) rfl (by constructor <;> decide) ?_
  refine mx_bipush (pc := 269) C dX8_init_269 (z := 97) rfl (by constructor <;> decide) ?_
  refine mx_iast (n := 20) (pc := 271) C dX8_init_271 (by decide +kernel) (by decide) (by decide) ?_
  refine mx_dup (pc := 272) C dX8_init_272 rfl ?_
  refine mx_bipush (pc := 273) C dX8_init_273 (z := 19) rfl (by constructor <;> decide) ?_
  refine mx_bipush (pc := 275) C dX8_init_275 (z := 114) rfl (by constructor <;> decide) ?_
  refine mx_iast (n := 20) (pc := 277) C dX8_init_277 (by decide +kernel) (by decide) (by decide) ?_
  refine mx_putR (n := nFl 8) (pc := 278) C dX8_init_278 (by decide +kernel) ci_8 (k := 23) (by decide) fl_X8_80 (Or.inr ⟨rfl, rfl⟩) rfl (by decide) (by decide) (q := 23) rfl ?_
  refine mx_aload_n (pc := 281) C dX8_init_281 rfl ?_
  refine mx_bipush (pc := 282) C dX8_init_282 (z := 100) rfl (by constructor <;> decide) ?_
  refine mx_newa (pc := 284) (q := 2) (n := 100) (id := 142) C dX8_init_284 (by decide) ac_boolean rfl (by decide) ⟨(by decide), (by decide)⟩ (by decide +kernel) ?_
  refine mx_putR (n := nFl 8) (pc := 286) C dX8_init_286 (by decide +kernel) ci_8 (k := 24) (by decide) fl_X8_83 (Or.inr ⟨rfl, rfl⟩) rfl (by decide) (by decide) (q := 24) rfl ?_
  refine mx_aload_n (pc := 289) C dX8_init_289 rfl ?_
  refine mx_iconst (pc := 290) C dX8_init_290 (z := 5) rfl (by constructor <;> decide) ?_
  refine mx_newa (pc := 291) (q := 0) (n := 5) (id := 143) C dX8_init_291 (by decide) ac_int rfl (by decide) ⟨(by decide), (by decide)⟩ (by decide +kernel) ?_
  refine mx_putR (n := nFl 8) (pc := 293) C dX8_init_293 (by decide +kernel) ci_8 (k := 25) (by decide) fl_X8_87 (Or.inr ⟨rfl, rfl⟩) rfl (by decide) (by decide) (q := 25) rfl ?_
  refine mx_aload_n (pc := 296) C dX8_init_296 rfl ?_
  refine mx_iconst (pc := 297) C dX8_init_297 (z := 0) rfl (by constructor <;> decide) ?_
  refine mx_putI (n := nFl 8) (pc := 298) C dX8_init_298 (by decide +kernel) ci_8 (k := 26) (by decide) fl_X8_90 (Or.inl rfl) rfl (q := 26) rfl ?_
  refine mx_aload_n (pc := 301) C dX8_init_301 rfl ?_
  refine mx_bipush (pc := 302) C dX8_init_302 (z := 6) rfl (by constructor <;> decide) ?_
  refine mx_newa (pc := 304) (q := 0) (n := 6) (id := 144) C dX8_init_304 (by decide) ac_int rfl (by decide) ⟨(by decide), (by decide)⟩ (by decide +kernel) ?_
  refine mx_putR (n := nFl 8) (pc := 306) C dX8_init_306 (by decide +kernel) ci_8 (k := 27) (by decide) fl_X8_93 (Or.inr ⟨rfl, rfl⟩) rfl (by decide) (by decide) (q := 27) rfl ?_
  refine mx_aload_n (pc := 309) C dX8_init_309 rfl ?_
  refine mx_bipush (pc := 310) C dX8_init_310 (z := 6) rfl (by constructor <;> decide) ?_
  refine mx_newa (pc := 312) (q := 0) (n := 6) (id := 145) C dX8_init_312 (by decide) ac_int rfl (by decide) ⟨(by decide), (by decide)⟩ (by decide +kernel) ?_
  refine mx_putR (n := nFl 8) (pc := 314) C dX8_init_314 (by decide +kernel) ci_8 (k := 28) (by decide) fl_X8_96 (Or.inr ⟨rfl, rfl⟩) rfl (by decide) (by decide) (q := 28) rfl ?_
  refine mx_aload_n (pc := 317) C dX8_init_317 rfl ?_
  refine mx_sipush (pc := 318) C dX8_init_318 (z := 150) rfl (by constructor <;> decide) ?_
  refine mx_newa (pc := 321) (q := 0) (n := 150) (id := 146) C dX8_init_321 (by decide) ac_int rfl (by decide) ⟨(by decide), (by decide)⟩ (by decide +kernel) ?_
  refine mx_putR (n := nFl 8) (pc := 323) C dX8_init_323 (by decide +kernel) ci_8 (k := 29) (by decide) fl_X8_99 (Or.inr ⟨rfl, rfl⟩) rfl (by decide) (by decide) (q := 29) rfl ?_
  refine mx_aload_n (pc := 326) C dX8_init_326 rfl ?_
  refine mx_bipush (pc := 327) C dX8_init_327 (z := 6) rfl (by constructor <;> decide) ?_
  refine mx_newa (pc := 329) (q := 0) (n := 6) (id := 147) C dX8_init_329 (by decide) ac_int rfl (by decide) ⟨(by decide), (by decide)⟩ (by decide +kernel) ?_
  refine mx_putR (n := nFl 8) (pc := 331) C dX8_init_331 (by decide +kernel) ci_8 (k := 30) (by decide) fl_X8_102 (Or.inr ⟨rfl, rfl⟩) rfl (by decide) (by decide) (q := 30) rfl ?_
  refine mx_aload_n (pc := 334) C dX8_init_334 rfl ?_
  refine mx_iconst (pc := 335) C dX8_init_335 (z := 0) rfl (by constructor <;> decide) ?_
  refine mx_putI (n := nFl 8) (pc := 336) C dX8_init_336 (by decide +kernel) ci_8 (k := 31) (by decide) fl_X8_105 (Or.inl rfl) rfl (q := 31) rfl ?_
  refine mx_aload_n (pc := 339) C dX8_init_339 rfl ?_
  refine mx_iconst (pc := 340) C dX8_init_340 (z := 0) rfl (by constructor <;> decide) ?_
  refine mx_putI (n := nFl 8) (pc := 341) C dX8_init_341 (by decide +kernel) ci_8 (k := 32) (by decide) fl_X8_108 (Or.inl rfl) rfl (q := 32) rfl ?_
  refine mx_aload_n (pc := 344) C dX8_init_344 rfl ?_
  refine mx_iconst (pc := 345) C dX8_init_345 (z := 0) rfl (by constructor <;> decide) ?_
  refine mx_putI (n := nFl 8) (pc := 346) C dX8_init_346 (by decide +kernel) ci_8 (k := 33) (by decide) fl_X8_111 (Or.inl rfl) rfl (q := 33) rfl ?_
  refine mx_aload_n (pc := 349) C dX8_init_349 rfl ?_
  refine mx_iconst (pc := 350) C dX8_init_350 (z := 5) rfl (by constructor <;> decide) ?_
  refine mx_newa (pc := 351) (q := 0) (n := 5) (id := 148) C dX8_init_351 (by decide) ac_int rfl (by decide) ⟨(by decide), (by decide)⟩ (by decide +kernel) ?_
  refine mx_putR (n := nFl 8) (pc := 353) C dX8_init_353 (by decide +kernel) ci_8 (k := 34) (by decide) fl_X8_114 (Or.inr ⟨rfl, rfl⟩) rfl (by decide) (by decide) (q := 34) rfl ?_
  refine mx_aload_n (pc := 356) C dX8_init_356 rfl ?_
  refine mx_iconst (pc := 357) C dX8_init_357 (z := 5) rfl (by constructor <;> decide) ?_
  refine mx_newa (pc := 358) (q := 0) (n := 5) (id := 149) C dX8_init_358 (by decide) ac_int rfl (by decide) ⟨(by decide), (by decide)⟩ (by decide +kernel) ?_
  refine mx_putR (n := nFl 8) (pc := 360) C dX8_init_360 (by decide +kernel) ci_8 (k := 35) (by decide) fl_X8_117 (Or.inr ⟨rfl, rfl⟩) rfl (by decide) (by decide) (q := 35) rfl ?_
  refine mx_aload_n (pc := 363) C dX8_init_363 rfl ?_
  refine mx_iconst (pc := 364) C dX8_init_364 (z := 5) rfl (by constructor <;> decide) ?_
  refine mx_newa (pc := 365) (q := 0) (n := 5) (id := 150) C dX8_init_365 (by decide) ac_int rfl (by decide) ⟨(by decide), (by decide)⟩ (by decide +kernel) ?_
  refine mx_putR (n := nFl 8) (pc := 367) C dX8_init_367 (by decide +kernel) ci_8 (k := 36) (by decide) fl_X8_120 (Or.inr ⟨rfl, rfl⟩) rfl (by decide) (by decide) (q := 36) rfl ?_
  refine mx_aload_n (pc := 370) C dX8_init_370 rfl ?_
  refine mx_iconst (pc := 371) C dX8_init_371 (z := 0) rfl (by constructor <;> decide) ?_
  refine mx_putI (n := nFl 8) (pc := 372) C dX8_init_372 (by decide +kernel) ci_8 (k := 37) (by decide) fl_X8_123 (Or.inl rfl) rfl (q := 37) rfl ?_
  refine mx_aload_n (pc := 375) C dX8_init_375 rfl ?_
  refine mx_iconst (pc := 376) C dX8_init_376 (z := 0) rfl (by constructor <;> decide) ?_
  refine mx_putI (n := nFl 8) (pc := 377) C dX8_init_377 (by decide +kernel) ci_8 (k := 38) (by decide) fl_X8_126 (Or.inl rfl) rfl (q := 38) rfl ?_
  refine mx_aload_n (pc := 380) C dX8_init_380 rfl ?_
  refine mx_bipush (pc := 381) C dX8_init_381 (z := 10) rfl (by constructor <;> decide) ?_
  refine mx_newa (pc := 383) (q := 0) (n := 10) (id := 151) C dX8_init_383 (by decide) ac_int rfl (by decide) ⟨(by decide), (by decide)⟩ (by decide +kernel) ?_
  refine mx_putR (n := nFl 8) (pc := 385) C dX8_init_385 (by decide +kernel) ci_8 (k := 39) (by decide) fl_X8_129 (Or.inr ⟨rfl, rfl⟩) rfl (by decide) (by decide) (q := 39) rfl ?_
  refine mx_aload_n (pc := 388) C dX8_init_388 rfl ?_
  refine mx_bipush (pc := 389) C dX8_init_389 (z := 10) rfl (by constructor <;> decide) ?_
  refine mx_newa (pc := 391) (q := 0) (n := 10) (id := 152) C dX8_init_391 (by decide) ac_int rfl (by decide) ⟨(by decide), (by decide)⟩ (by decide +kernel) ?_
  refine mx_putR (n := nFl 8) (pc := 393) C dX8_init_393 (by decide +kernel) ci_8 (k := 40) (by decide) fl_X8_132 (Or.inr ⟨rfl, rfl⟩) rfl (by decide) (by decide) (q := 40) rfl ?_
  refine mx_aload_n (pc := 396) C dX8_init_396 rfl ?_
  refine mx_bipush (pc := 397) C dX8_init_397 (z := 8) rfl (by constructor <;> decide) ?_
  refine mx_newa (pc := 399) (q := 0) (n := 8) (id := 153) C dX8_init_399 (by decide) ac_int rfl (by decide) ⟨(by decide), (by decide)⟩ (by decide +kernel) ?_
  refine mx_putR (n := nFl 8) (pc := 401) C dX8_init_401 (by decide +kernel) ci_8 (k := 41) (by decide) fl_X8_135 (Or.inr ⟨rfl, rfl⟩) rfl (by decide) (by decide) (q := 41) rfl ?_
  refine mx_aload_n (pc := 404) C dX8_init_404 rfl ?_
  refine mx_bipush (pc := 405) C dX8_init_405 (z := 8) rfl (by constructor <;> decide) ?_
  refine mx_newa (pc := 407) (q := 0) (n := 8) (id := 154) C dX8_init_407 (by decide) ac_int rfl (by decide) ⟨(by decide), (by decide)⟩ (by decide +kernel) ?_
  refine mx_putR (n := nFl 8) (pc := 409) C dX8_init_409 (by decide +kernel) ci_8 (k := 42) (by decide) fl_X8_138 (Or.inr ⟨rfl, rfl⟩) rfl (by decide) (by decide) (q := 42) rfl ?_
  refine mx_aload_n (pc := 412) C dX8_init_412 rfl ?_
  refine mx_iconst (pc := 413) C dX8_init_413 (z := 0) rfl (by constructor <;> decide) ?_
  refine mx_putZ (n := nFl 8) (pc := 414) C dX8_init_414 (by decide +kernel) ci_8 (k := 43) (by decide) fl_X8_141 (Or.inl rfl) rfl (Or.inl rfl) (q := 43) rfl ?_
  refine mx_aload_n (pc := 417) C dX8_init_417 rfl ?_
  refine mx_iconst (pc := 418) C dX8_init_418 (z := (-1)) rfl (by constructor <;> decide) ?_
  refine mx_putI (n := nFl 8) (pc := 419) C dX8_init_419 (by decide +kernel) ci_8 (k := 44) (by decide) fl_X8_145 (Or.inl rfl) rfl (q := 44) rfl ?_
  refine mx_aload_n (pc := 422) C dX8_init_422 rfl ?_
  refine mx_iconst (pc := 423) C dX8_init_423 (z := 0) rfl (by constructor <;> decide) ?_
  refine mx_putI (n := nFl 8) (pc := 424) C dX8_init_424 (by decide +kernel) ci_8 (k := 45) (by decide) fl_X8_148 (Or.inl rfl) rfl (q := 45) rfl ?_
  refine mx_aload_n (pc := 427) C dX8_init_427 rfl ?_
  refine mx_iconst (pc := 428) C dX8_init_428 (z := 0) rfl (by constructor <;> decide) ?_
  refine mx_putI (n := nFl 8) (pc := 429) C dX8_init_429 (by decide +kernel) ci_8 (k := 46) (by decide) fl_X8_151 (Or.inl rfl) rfl (q := 46) rfl ?_
  refine mx_aload_n (pc := 432) C dX8_init_432 rfl ?_
  refine mx_iconst (pc := 433) C dX8_init_433 (z := 0) rfl (by constructor <;> decide) ?_
  refine mx_putI (n := nFl 8) (pc := 434) C dX8_init_434 (by decide +kernel) ci_8 (k := 47) (by decide) fl_X8_154 (Or.inl rfl) rfl (q := 47) rfl ?_
  refine mx_aload_n (pc := 437) C dX8_init_437 rfl ?_
  refine mx_iconst (pc := 438) C dX8_init_438 (z := 0) rfl (by constructor <;> decide) ?_
  refine mx_putI (n := nFl 8) (pc := 439) C dX8_init_439 (by decide +kernel) ci_8 (k := 48) (by decide) fl_X8_157 (Or.inl rfl) rfl (q := 48) rfl ?_
  refine mx_aload_n (pc := 442) C dX8_init_442 rfl ?_
  refine mx_iconst (pc := 443) C dX8_init_443 (z := 0) rfl (by constructor <;> decide) ?_
  refine mx_putI (n := nFl 8) (pc := 444) C dX8_init_444 (by decide +kernel) ci_8 (k := 49) (by decide) fl_X8_160 (Or.inl rfl) rfl (q := 49) rfl ?_
  refine mx_aload_n (pc := 447) C dX8_init_447 rfl ?_
  refine mx_bipush (pc := 448) C dX8_init_448 (z := 6) rfl (by constructor <;> decide) ?_
  refine mx_newa (pc := 450) (q := 0) (n := 6) (id := 155) C dX8_init_450 (by decide) ac_int rfl (by decide) ⟨(by decide), (by decide)⟩ (by decide +kernel) ?_
  refine mx_putR (n := nFl 8) (pc := 452) C dX8_init_452 (by decide +kernel) ci_8 (k := 50) (by decide) fl_X8_163 (Or.inr ⟨rfl, rfl⟩) rfl (by decide) (by decide) (q := 50) rfl ?_
  refine mx_aload_n (pc := 455) C dX8_init_455 rfl ?_
  refine mx_bipush (pc := 456) C dX8_init_456 (z := 6) rfl (by constructor <;> decide) ?_
  refine mx_newa (pc := 458) (q := 0) (n := 6) (id := 156) C dX8_init_458 (by decide) ac_int rfl (by decide) ⟨(by decide), (by decide)⟩ (by decide +kernel) ?_
  refine mx_putR (n := nFl 8) (pc := 460) C dX8_init_460 (by decide +kernel) ci_8 (k := 51) (by decide) fl_X8_166 (Or.inr ⟨rfl, rfl⟩) rfl (by decide) (by decide) (q := 51) rfl ?_
  refine mx_aload_n (pc := 463) C dX8_init_463 rfl ?_
  refine mx_bipush (pc := 464) C dX8_init_464 (z := 6) rfl (by constructor <;> decide) ?_
  refine mx_newa (pc := 466) (q := 0) (n := 6) (id := 157) C dX8_init_466 (by decide) ac_int rfl (by decide) ⟨(by decide), (by decide)⟩ (by decide +kernel) ?_
  refine mx_putR (n := nFl 8) (pc := 468) C dX8_init_468 (by decide +kernel) ci_8 (k := 52) (by decide) fl_X8_169 (Or.inr ⟨rfl, rfl⟩) rfl (by decide) (by decide) (q := 52) rfl ?_
  refine mx_aload_n (pc := 471) C dX8_init_471 rfl ?_
  refine mx_bipush (pc := 472) C dX8_init_472 (z := 6) rfl (by constructor <;> decide) ?_
  refine mx_newa (pc := 474) (q := 0) (n := 6) (id := 158) C dX8_init_474 (by decide) ac_int rfl (by decide) ⟨(by decide), (by decide)⟩ (by decide +kernel) ?_
  refine mx_putR (n := nFl 8) (pc := 476) C dX8_init_476 (by decide +kernel) ci_8 (k := 53) (by decide) fl_X8_172 (Or.inr ⟨rfl, rfl⟩) rfl (by decide) (by decide) (q := 53) rfl ?_
  refine mx_aload_n (pc := 479) C dX8_init_479 rfl ?_
  refine mx_bipush (pc := 480) C dX8_init_480 (z := 24) rfl (by constructor <;> decide) ?_
  refine mx_newa (pc := 482) (q := 0) (n := 24) (id := 159) C dX8_init_482 (by decide) ac_int rfl (by decide) ⟨(by decide), (by decide)⟩ (by decide +kernel) ?_
  refine mx_putR (n := nFl 8) (pc := 484) C dX8_init_484 (by decide +kernel) ci_8 (k := 54) (by decide) fl_X8_175 (Or.inr ⟨rfl, rfl⟩) rfl (by decide) (by decide) (q := 54) rfl ?_
  refine mx_aload_n (pc := 487) C dX8_init_487 rfl ?_
  refine mx_iconst (pc := 488) C dX8_init_488 (z := 5) rfl (by constructor <;> decide) ?_
  refine mx_newa (pc := 489) (q := 0) (n := 5) (id := 160) C dX8_init_489 (by decide) ac_int rfl (by decide) ⟨(by decide), (by decide)⟩ (by decide +kernel) ?_
  refine mx_putR (n := nFl 8) (pc := 491) C dX8_init_491 (by decide +kernel) ci_8 (k := 55) (by decide) fl_X8_178 (Or.inr ⟨rfl, rfl⟩) rfl (by decide) (by decide) (q := 55) rfl ?_
  refine mx_aload_n (pc := 494) C dX8_init_494 rfl ?_
  refine mx_iconst (pc := 495) C dX8_init_495 (z := 5) rfl (by constructor <;> decide) ?_
  refine mx_newa (pc := 496) (q := 0) (n := 5) (id := 161) C dX8_init_496 (by decide) ac_int rfl (by decide) ⟨(by decide), (by decide)⟩ (by decide +kernel) ?_
  refine mx_putR (n := nFl 8) (pc := 498) C dX8_init_498 (by decide +kernel) ci_8 (k := 56) (by decide) fl_X8_181 (Or.inr ⟨rfl, rfl⟩) rfl (by decide) (by decide) (q := 56) rfl ?_
  refine mx_aload_n (pc := 501) C dX8_init_501 rfl ?_
  refine mx_iconst (pc := 502) C dX8_init_502 (z := 5) rfl (by constructor <;> decide) ?_
  refine mx_newa (pc := 503) (q := 0) (n := 5) (id := 162) C dX8_init_503 (by decide) ac_int rfl (by decide) ⟨(by decide), (by decide)⟩ (by decide +kernel) ?_
  refine mx_putR (n := nFl 8) (pc := 505) C dX8_init_505 (by decide +kernel) ci_8 (k := 57) (by decide) fl_X8_184 (Or.inr ⟨rfl, rfl⟩) rfl (by decide) (by decide) (q := 57) rfl ?_
  refine mx_aload_n (pc := 508) C dX8_init_508 rfl ?_
  refine mx_bipush (pc := 509) C dX8_init_509 (z := 10) rfl (by constructor <;> decide) ?_
  refine mx_newa (pc := 511) (q := 0) (n := 10) (id := 163) C dX8_init_511 (by decide) ac_int rfl (by decide) ⟨(by decide), (by decide)⟩ (by decide +kernel) ?_
  refine mx_putR (n := nFl 8) (pc := 513) C dX8_init_513 (by decide +kernel) ci_8 (k := 58) (by decide) fl_X8_187 (Or.inr ⟨rfl, rfl⟩) rfl (by decide) (by decide) (q := 58) rfl ?_
  refine mx_aload_n (pc := 516) C dX8_init_516 rfl ?_
  refine mx_bipush (pc := 517) C dX8_init_517 (z := 10) rfl (by constructor <;> decide) ?_
  refine mx_newa (pc := 519) (q := 0) (n := 10) (id := 164) C dX8_init_519 (by decide) ac_int rfl (by decide) ⟨(by decide), (by decide)⟩ (by decide +kernel) ?_
  refine mx_putR (n := nFl 8) (pc := 521) C dX8_init_521 (by decide +kernel) ci_8 (k := 59) (by decide) fl_X8_190 (Or.inr ⟨rfl, rfl⟩) rfl (by decide) (by decide) (q := 59) rfl ?_
  refine mx_aload_n (pc := 524) C dX8_init_524 rfl ?_
  refine mx_bipush (pc := 525) C dX8_init_525 (z := 8) rfl (by constructor <;> decide) ?_
  refine mx_newa (pc := 527) (q := 0) (n := 8) (id := 165) C dX8_init_527 (by decide) ac_int rfl (by decide) ⟨(by decide), (by decide)⟩ (by decide +kernel) ?_
  refine mx_putR (n := nFl 8) (pc := 529) C dX8_init_529 (by decide +kernel) ci_8 (k := 60) (by decide) fl_X8_193 (Or.inr ⟨rfl, rfl⟩) rfl (by decide) (by decide) (q := 60) rfl ?_
  refine mx_aload_n (pc := 532) C dX8_init_532 rfl ?_
  refine mx_bipush (pc := 533) C dX8_init_533 (z := 8) rfl (by constructor <;> decide) ?_
  refine mx_newa (pc := 535) (q := 0) (n := 8) (id := 166) C dX8_init_535 (by decide) ac_int rfl (by decide) ⟨(by decide), (by decide)⟩ (by decide +kernel) ?_
  refine mx_putR (n := nFl 8) (pc := 537) C dX8_init_537 (by decide +kernel) ci_8 (k := 61) (by decide) fl_X8_196 (Or.inr ⟨rfl, rfl⟩) rfl (by decide) (by decide) (q := 61) rfl ?_
  refine mx_aload_n (pc := 540) C dX8_init_540 rfl ?_
  refine mx_iconst (pc := 541) C dX8_init_541 (z := 0) rfl (by constructor <;> decide) ?_
  refine mx_putI (n := nFl 8) (pc := 542) C dX8_init_542 (by decide +kernel) ci_8 (k := 62) (by decide) fl_X8_199 (Or.inl rfl) rfl (q := 62) rfl ?_
  refine mx_aload_n (pc := 545) C dX8_init_545 rfl ?_
  refine mx_bipush (pc := 546) C dX8_init_546 (z := 20) rfl (by constructor <;> decide) ?_
  refine mx_newa (pc := 548) (q := 0) (n := 20) (id := 167) C dX8_init_548 (by decide) ac_int rfl (by decide) ⟨(by decide), (by decide)⟩ (by decide +kernel) ?_
  refine mx_putR (n := nFl 8) (pc := 550) C dX8_init_550 (by decide +kernel) ci_8 (k := 63) (by decide) fl_X8_202 (Or.inr ⟨rfl, rfl⟩) rfl (by decide) (by decide) (q := 63) rfl ?_
  refine mx_aload_n (pc := 553) C dX8_init_553 rfl ?_
  refine mx_bipush (pc := 554) C dX8_init_554 (z := 6) rfl (by constructor <;> decide) ?_
  refine mx_newa (pc := 556) (q := 0) (n := 6) (id := 168) C dX8_init_556 (by decide) ac_int rfl (by decide) ⟨(by decide), (by decide)⟩ (by decide +kernel) ?_
  refine mx_dup (pc := 558) C dX8_init_558 rfl ?_
  refine mx_iconst (pc := 559) C dX8_init_559 (z := 0) rfl (by constructor <;> decide) ?_
  refine mx_iconst (pc := 560) C dX8_init_560 (z := (-1)) rfl (by constructor <;> decide) ?_
  refine mx_iast (n := 6) (pc := 561) C dX8_init_561 (by decide +kernel) (by decide) (by decide) ?_
  refine mx_dup (pc := 562) C dX8_init_562 rfl ?_
  refine mx_iconst (pc := 563) C dX8_init_563 (z := 1) rfl (by constructor <;> decide) ?_
  refine mx_iconst (pc := 564) C dX8_init_564 (z := (-1)) rfl (by constructor <;> decide) ?_
  refine mx_iast (n := 6) (pc := 565) C dX8_init_565 (by decide +kernel) (by decide) (by decide) ?_
  refine mx_dup (pc := 566) C dX8_init_566 rfl ?_
  refine mx_iconst (pc := 567) C dX8_init_567 (z := 2) rfl (by constructor <;> decide) ?_
  refine mx_iconst (pc := 568) C dX8_init_568 (z := (-1)) rfl (by constructor <;> decide) ?_
  refine mx_iast (n := 6) (pc := 569) C dX8_init_569 (by decide +kernel) (by decide) (by decide) ?_
  refine mx_dup (pc := 570) C dX8_init_570 rfl ?_
  refine mx_iconst (pc := 571) C dX8_init_571 (z := 3) rfl (by constructor <;> decide) ?_
  refine mx_iconst (pc := 572) C dX8_init_572 (z := (-1)) rfl (by constructor <;> decide) ?_
  refine mx_iast (n := 6) (pc := 573) C dX8_init_573 (by decide +kernel) (by decide) (by decide) ?_
  refine mx_dup (pc := 574) C dX8_init_574 rfl ?_
  refine mx_iconst (pc := 575) C dX8_init_575 (z := 4) rfl (by constructor <;> decide) ?_
  refine mx_iconst (pc := 576) C dX8_init_576 (z := (-1)) rfl (by constructor <;> decide) ?_
  refine mx_iast (n := 6) (pc := 577) C dX8_init_577 (by decide +kernel) (by decide) (by decide) ?_
  refine mx_dup (pc := 578) C dX8_init_578 rfl ?_
  refine mx_iconst (pc := 579) C dX8_init_579 (z := 5) rfl (by constructor <;> decide) ?_
  refine mx_iconst (pc := 580) C dX8_init_580 (z := (-1)) rfl (by constructor <;> decide) ?_
  refine mx_iast (n := 6) (pc := 581) C dX8_init_581 (by decide +kernel) (by decide) (by decide) ?_
  refine mx_putR (n := nFl 8) (pc := 582) C dX8_init_582 (by decide +kernel) ci_8 (k := 64) (by decide) fl_X8_205 (Or.inr ⟨rfl, rfl⟩) rfl (by decide) (by decide) (q := 64) rfl ?_
  refine mx_aload_n (pc := 585) C dX8_init_585 rfl ?_
  refine mx_bipush (pc := 586) C dX8_init_586 (z := 6) rfl (by constructor <;> decide) ?_
  refine mx_newa (pc := 588) (q := 0) (n := 6) (id := 169) C dX8_init_588 (by decide) ac_int rfl (by decide) ⟨(by decide), (by decide)⟩ (by decide +kernel) ?_
  refine mx_putR (n := nFl 8) (pc := 590) C dX8_init_590 (by decide +kernel) ci_8 (k := 65) (by decide) fl_X8_208 (Or.inr ⟨rfl, rfl⟩) rfl (by decide) (by decide) (q := 65) rfl ?_
  refine mx_aload_n (pc := 593) C dX8_init_593 rfl ?_
  refine mx_sipush (pc := 594) C dX8_init_594 (z := 360) rfl (by constructor <;> decide) ?_
  refine mx_newa (pc := 597) (q := 3) (n := 360) (id := 170) C dX8_init_597 (by decide) ac_long rfl (by decide) ⟨(by decide), (by decide)⟩ (by decide +kernel) ?_
  refine mx_putR (n := nFl 8) (pc := 599) C dX8_init_599 (by decide +kernel) ci_8 (k := 66) (by decide) fl_X8_211 (Or.inr ⟨rfl, rfl⟩) rfl (by decide) (by decide) (q := 66) rfl ?_
  refine mx_aload_n (pc := 602) C dX8_init_602 rfl ?_
  refine mx_bipush (pc := 603) C dX8_init_603 (z := 60) rfl (by constructor <;> decide) ?_
  refine mx_newa (pc := 605) (q := 3) (n := 60) (id := 171) C dX8_init_605 (by decide) ac_long rfl (by decide) ⟨(by decide), (by decide)⟩ (by decide +kernel) ?_
  refine mx_putR (n := nFl 8) (pc := 607) C dX8_init_607 (by decide +kernel) ci_8 (k := 67) (by decide) fl_X8_215 (Or.inr ⟨rfl, rfl⟩) rfl (by decide) (by decide) (q := 67) rfl ?_
  exact mx_return (pc := 610) C dX8_init_610 trivial ⟨Nat.le_refl _, Nat.le_refl _⟩
theorem S_MB_SH : S_MB = SH := by decide +kernel
