/-- the law: its class, its name as the machine has it -/
def yLw (meth : Method) : MethodName := ⟨RL, meth.name, "([I)Z"⟩
def f_L_law_1387 (L : Nat) (xv : Int → Int) (k18 : Int → Mem → Option (Int × Mem)) (x3 : Int) (M : Mem) : Option (Int × Mem) :=
  k18 (w32 (x3 + 6)) M
def f_L_law_18 (L : Nat) (xv : Int → Int) : Nat → Int → Mem → Option (Int × Mem)
  | 0, _, _ => none
  | n + 1, x3, M => if w32 ((L : Int) - 6) < x3 then some (1, M) else if 0 ≤ x3 ∧ x3 < (L : Int) then if and32 (xv x3) 63 = 0 then if 0 ≤ w32 (x3 + 1) ∧ w32 (x3 + 1) < (L : Int) then if 0 ≤ w32 (x3 + 2) ∧ w32 (x3 + 2) < (L : Int) then if 0 ≤ w32 (x3 + 3) ∧ w32 (x3 + 3) < (L : Int) then if 0 ≤ w32 (x3 + 4) ∧ w32 (x3 + 4) < (L : Int) then (f_X7_sound (xv (w32 (x3 + 1))) (xv (w32 (x3 + 2))) (xv (w32 (x3 + 3))) (xv (w32 (x3 + 4))) M).bind (fun q8 => if 0 ≤ w32 (x3 + 1) ∧ w32 (x3 + 1) < (L : Int) then if 0 ≤ w32 (x3 + 2) ∧ w32 (x3 + 2) < (L : Int) then if 0 ≤ w32 (x3 + 3) ∧ w32 (x3 + 3) < (L : Int) then if 0 ≤ w32 (x3 + 4) ∧ w32 (x3 + 4) < (L : Int) then (f_X8_sound (xv (w32 (x3 + 1))) (xv (w32 (x3 + 2))) (xv (w32 (x3 + 3))) (xv (w32 (x3 + 4))) q8.2).bind (fun q14 => if q8.1 = q14.1 then f_L_law_1387 L xv (f_L_law_18 L xv n) x3 q14.2 else some (0, q14.2)) else none else none else none else none) else none else none else none else none else if and32 (xv x3) 63 = 1 then if 0 ≤ w32 (x3 + 1) ∧ w32 (x3 + 1) < (L : Int) then if 0 ≤ w32 (x3 + 2) ∧ w32 (x3 + 2) < (L : Int) then (f_X7_of (xv (w32 (x3 + 1))) (xv (w32 (x3 + 2))) M).bind (fun q20 => if 0 ≤ w32 (x3 + 1) ∧ w32 (x3 + 1) < (L : Int) then if 0 ≤ w32 (x3 + 2) ∧ w32 (x3 + 2) < (L : Int) then (f_X8_of (xv (w32 (x3 + 1))) (xv (w32 (x3 + 2))) q20.2).bind (fun q24 => if q20.1 = q24.1 then f_L_law_1387 L xv (f_L_law_18 L xv n) x3 q24.2 else some (0, q24.2)) else none else none) else none else none else if and32 (xv x3) 63 = 2 then if 0 ≤ w32 (x3 + 1) ∧ w32 (x3 + 1) < (L : Int) then if 0 ≤ w32 (x3 + 2) ∧ w32 (x3 + 2) < (L : Int) then (f_X7_set (xv (w32 (x3 + 1))) (xv (w32 (x3 + 2))) M).bind (fun q30 => if 0 ≤ w32 (x3 + 1) ∧ w32 (x3 + 1) < (L : Int) then if 0 ≤ w32 (x3 + 2) ∧ w32 (x3 + 2) < (L : Int) then (f_X8_set (xv (w32 (x3 + 1))) (xv (w32 (x3 + 2))) q30.2).bind (fun q34 => if q30.1 = q34.1 then f_L_law_1387 L xv (f_L_law_18 L xv n) x3 q34.2 else some (0, q34.2)) else none else none) else none else none else if and32 (xv x3) 63 = 3 then if 0 ≤ w32 (x3 + 1) ∧ w32 (x3 + 1) < (L : Int) then if 0 ≤ w32 (x3 + 2) ∧ w32 (x3 + 2) < (L : Int) then (f_X7_pass (xv (w32 (x3 + 1))) (xv (w32 (x3 + 2))) M).bind (fun q40 => if 0 ≤ w32 (x3 + 1) ∧ w32 (x3 + 1) < (L : Int) then if 0 ≤ w32 (x3 + 2) ∧ w32 (x3 + 2) < (L : Int) then (f_X8_pass (xv (w32 (x3 + 1))) (xv (w32 (x3 + 2))) q40.2).bind (fun q44 => if q40.1 = q44.1 then f_L_law_1387 L xv (f_L_law_18 L xv n) x3 q44.2 else some (0, q44.2)) else none else none) else none else none else if and32 (xv x3) 63 = 4 then if 0 ≤ w32 (x3 + 1) ∧ w32 (x3 + 1) < (L : Int) then (f_X7_lose (xv (w32 (x3 + 1))) M).bind (fun q49 => if 0 ≤ w32 (x3 + 1) ∧ w32 (x3 + 1) < (L : Int) then (f_X8_lose (xv (w32 (x3 + 1))) q49.2).bind (fun q52 => if q49.1 = q52.1 then f_L_law_1387 L xv (f_L_law_18 L xv n) x3 q52.2 else some (0, q52.2)) else none) else none else if and32 (xv x3) 63 = 5 then if 0 ≤ w32 (x3 + 1) ∧ w32 (x3 + 1) < (L : Int) then if 0 ≤ w32 (x3 + 2) ∧ w32 (x3 + 2) < (L : Int) then (f_X7_find (xv (w32 (x3 + 1))) (xv (w32 (x3 + 2))) M).bind (fun q58 => if 0 ≤ w32 (x3 + 1) ∧ w32 (x3 + 1) < (L : Int) then if 0 ≤ w32 (x3 + 2) ∧ w32 (x3 + 2) < (L : Int) then (f_X8_find (xv (w32 (x3 + 1))) (xv (w32 (x3 + 2))) q58.2).bind (fun q62 => if q58.1 = q62.1 then f_L_law_1387 L xv (f_L_law_18 L xv n) x3 q62.2 else some (0, q62.2)) else none else none) else none else none else if and32 (xv x3) 63 = 6 then if 0 ≤ w32 (x3 + 1) ∧ w32 (x3 + 1) < (L : Int) then if 0 ≤ w32 (x3 + 2) ∧ w32 (x3 + 2) < (L : Int) then if 0 ≤ w32 (x3 + 3) ∧ w32 (x3 + 3) < (L : Int) then (f_X7_row (xv (w32 (x3 + 1))) (xv (w32 (x3 + 2))) (xv (w32 (x3 + 3))) M).bind (fun q69 => if 0 ≤ w32 (x3 + 1) ∧ w32 (x3 + 1) < (L : Int) then if 0 ≤ w32 (x3 + 2) ∧ w32 (x3 + 2) < (L : Int) then if 0 ≤ w32 (x3 + 3) ∧ w32 (x3 + 3) < (L : Int) then (f_X8_row (xv (w32 (x3 + 1))) (xv (w32 (x3 + 2))) (xv (w32 (x3 + 3))) q69.2).bind (fun q74 => if q69.1 = q74.1 then f_L_law_1387 L xv (f_L_law_18 L xv n) x3 q74.2 else some (0, q74.2)) else none else none else none) else none else none else none else if and32 (xv x3) 63 = 7 then if 0 ≤ w32 (x3 + 1) ∧ w32 (x3 + 1) < (L : Int) then (f_X7_feed (xv (w32 (x3 + 1))) M).bind (fun q79 => if 0 ≤ w32 (x3 + 1) ∧ w32 (x3 + 1) < (L : Int) then (f_X8_feed (xv (w32 (x3 + 1))) q79.2).bind (fun q82 => if q79.1 = q82.1 then f_L_law_1387 L xv (f_L_law_18 L xv n) x3 q82.2 else some (0, q82.2)) else none) else none else if and32 (xv x3) 63 = 8 then (f_X7_street M).bind (fun q86 => (f_X8_street q86.2).bind (fun q88 => if q86.1 = q88.1 then f_L_law_1387 L xv (f_L_law_18 L xv n) x3 q88.2 else some (0, q88.2))) else if and32 (xv x3) 63 = 9 then if 0 ≤ w32 (x3 + 1) ∧ w32 (x3 + 1) < (L : Int) then (f_X7_told (xv (w32 (x3 + 1))) M).bind (fun q93 => if 0 ≤ w32 (x3 + 1) ∧ w32 (x3 + 1) < (L : Int) then (f_X8_told (xv (w32 (x3 + 1))) q93.2).bind (fun q96 => if q93.1 = q96.1 then f_L_law_1387 L xv (f_L_law_18 L xv n) x3 q96.2 else some (0, q96.2)) else none) else none else if and32 (xv x3) 63 = 10 then if 0 ≤ w32 (x3 + 1) ∧ w32 (x3 + 1) < (L : Int) then (f_X7_years (xv (w32 (x3 + 1))) M).bind (fun q101 => if 0 ≤ w32 (x3 + 1) ∧ w32 (x3 + 1) < (L : Int) then (f_X8_years (xv (w32 (x3 + 1))) q101.2).bind (fun q104 => if q101.1 = q104.1 then f_L_law_1387 L xv (f_L_law_18 L xv n) x3 q104.2 else some (0, q104.2)) else none) else none else if and32 (xv x3) 63 = 11 then if 0 ≤ w32 (x3 + 1) ∧ w32 (x3 + 1) < (L : Int) then if 0 ≤ w32 (x3 + 2) ∧ w32 (x3 + 2) < (L : Int) then (f_X7_on (xv (w32 (x3 + 1))) (xv (w32 (x3 + 2))) M).bind (fun q110 => if 0 ≤ w32 (x3 + 1) ∧ w32 (x3 + 1) < (L : Int) then if 0 ≤ w32 (x3 + 2) ∧ w32 (x3 + 2) < (L : Int) then (f_X8_on (xv (w32 (x3 + 1))) (xv (w32 (x3 + 2))) q110.2).bind (fun q114 => if q110.1 = q114.1 then f_L_law_1387 L xv (f_L_law_18 L xv n) x3 q114.2 else some (0, q114.2)) else none else none) else none else none else if and32 (xv x3) 63 = 12 then if 0 ≤ w32 (x3 + 1) ∧ w32 (x3 + 1) < (L : Int) then if 0 ≤ w32 (x3 + 2) ∧ w32 (x3 + 2) < (L : Int) then (f_X7_when (xv (w32 (x3 + 1))) (xv (w32 (x3 + 2))) M).bind (fun q120 => if 0 ≤ w32 (x3 + 1) ∧ w32 (x3 + 1) < (L : Int) then if 0 ≤ w32 (x3 + 2) ∧ w32 (x3 + 2) < (L : Int) then (f_X8_when (xv (w32 (x3 + 1))) (xv (w32 (x3 + 2))) q120.2).bind (fun q124 => if q120.1 = q124.1 then f_L_law_1387 L xv (f_L_law_18 L xv n) x3 q124.2 else some (0, q124.2)) else none else none) else none else none else if and32 (xv x3) 63 = 13 then if 0 ≤ w32 (x3 + 1) ∧ w32 (x3 + 1) < (L : Int) then (f_X7_home (xv (w32 (x3 + 1))) M).bind (fun q129 => if 0 ≤ w32 (x3 + 1) ∧ w32 (x3 + 1) < (L : Int) then (f_X8_home (xv (w32 (x3 + 1))) q129.2).bind (fun q132 => if q129.1 = q132.1 then f_L_law_1387 L xv (f_L_law_18 L xv n) x3 q132.2 else some (0, q132.2)) else none) else none else if and32 (xv x3) 63 = 14 then if 0 ≤ w32 (x3 + 1) ∧ w32 (x3 + 1) < (L : Int) then (f_X7_shared (xv (w32 (x3 + 1))) M).bind (fun q137 => if 0 ≤ w32 (x3 + 1) ∧ w32 (x3 + 1) < (L : Int) then (f_X8_shared (xv (w32 (x3 + 1))) q137.2).bind (fun q140 => if q137.1 = q140.1 then f_L_law_1387 L xv (f_L_law_18 L xv n) x3 q140.2 else some (0, q140.2)) else none) else none else if and32 (xv x3) 63 = 15 then if 0 ≤ w32 (x3 + 1) ∧ w32 (x3 + 1) < (L : Int) then (f_X7_best (xv (w32 (x3 + 1))) M).bind (fun q145 => if 0 ≤ w32 (x3 + 1) ∧ w32 (x3 + 1) < (L : Int) then (f_X8_best (xv (w32 (x3 + 1))) q145.2).bind (fun q148 => if q145.1 = q148.1 then f_L_law_1387 L xv (f_L_law_18 L xv n) x3 q148.2 else some (0, q148.2)) else none) else none else if and32 (xv x3) 63 = 16 then if 0 ≤ w32 (x3 + 1) ∧ w32 (x3 + 1) < (L : Int) then (f_X7_fewest (xv (w32 (x3 + 1))) M).bind (fun q153 => if 0 ≤ w32 (x3 + 1) ∧ w32 (x3 + 1) < (L : Int) then (f_X8_fewest (xv (w32 (x3 + 1))) q153.2).bind (fun q156 => if q153.1 = q156.1 then f_L_law_1387 L xv (f_L_law_18 L xv n) x3 q156.2 else some (0, q156.2)) else none) else none else if and32 (xv x3) 63 = 17 then if 0 ≤ w32 (x3 + 1) ∧ w32 (x3 + 1) < (L : Int) then if 0 ≤ w32 (x3 + 2) ∧ w32 (x3 + 2) < (L : Int) then if 0 ≤ w32 (x3 + 3) ∧ w32 (x3 + 3) < (L : Int) then (f_X7_see (xv (w32 (x3 + 1))) (xv (w32 (x3 + 2))) (xv (w32 (x3 + 3))) M).bind (fun q163 => if 0 ≤ w32 (x3 + 1) ∧ w32 (x3 + 1) < (L : Int) then if 0 ≤ w32 (x3 + 2) ∧ w32 (x3 + 2) < (L : Int) then if 0 ≤ w32 (x3 + 3) ∧ w32 (x3 + 3) < (L : Int) then (f_X8_see (xv (w32 (x3 + 1))) (xv (w32 (x3 + 2))) (xv (w32 (x3 + 3))) q163.2).bind (fun q168 => if q163.1 = q168.1 then f_L_law_1387 L xv (f_L_law_18 L xv n) x3 q168.2 else some (0, q168.2)) else none else none else none) else none else none else none else if and32 (xv x3) 63 = 18 then if 0 ≤ w32 (x3 + 1) ∧ w32 (x3 + 1) < (L : Int) then if 0 ≤ w32 (x3 + 2) ∧ w32 (x3 + 2) < (L : Int) then (f_X7_louds (xv (w32 (x3 + 1))) (xv (w32 (x3 + 2))) M).bind (fun q174 => if 0 ≤ w32 (x3 + 1) ∧ w32 (x3 + 1) < (L : Int) then if 0 ≤ w32 (x3 + 2) ∧ w32 (x3 + 2) < (L : Int) then (f_X8_louds (xv (w32 (x3 + 1))) (xv (w32 (x3 + 2))) q174.2).bind (fun q178 => if q174.1 = q178.1 then f_L_law_1387 L xv (f_L_law_18 L xv n) x3 q178.2 else some (0, q178.2)) else none else none) else none else none else if and32 (xv x3) 63 = 19 then if 0 ≤ w32 (x3 + 1) ∧ w32 (x3 + 1) < (L : Int) then if 0 ≤ w32 (x3 + 2) ∧ w32 (x3 + 2) < (L : Int) then (f_X7_can (xv (w32 (x3 + 1))) (xv (w32 (x3 + 2))) M).bind (fun q184 => if 0 ≤ w32 (x3 + 1) ∧ w32 (x3 + 1) < (L : Int) then if 0 ≤ w32 (x3 + 2) ∧ w32 (x3 + 2) < (L : Int) then (f_X8_can (xv (w32 (x3 + 1))) (xv (w32 (x3 + 2))) q184.2).bind (fun q188 => if q184.1 = q188.1 then f_L_law_1387 L xv (f_L_law_18 L xv n) x3 q188.2 else some (0, q188.2)) else none else none) else none else none else if and32 (xv x3) 63 = 20 then if 0 ≤ w32 (x3 + 1) ∧ w32 (x3 + 1) < (L : Int) then (f_X7_where (xv (w32 (x3 + 1))) M).bind (fun q193 => if 0 ≤ w32 (x3 + 1) ∧ w32 (x3 + 1) < (L : Int) then (f_X8_where (xv (w32 (x3 + 1))) q193.2).bind (fun q196 => if q193.1 = q196.1 then f_L_law_1387 L xv (f_L_law_18 L xv n) x3 q196.2 else some (0, q196.2)) else none) else none else if and32 (xv x3) 63 = 21 then if 0 ≤ w32 (x3 + 1) ∧ w32 (x3 + 1) < (L : Int) then if 0 ≤ w32 (x3 + 2) ∧ w32 (x3 + 2) < (L : Int) then (f_X7_odds (xv (w32 (x3 + 1))) (xv (w32 (x3 + 2))) M).bind (fun q202 => if 0 ≤ w32 (x3 + 1) ∧ w32 (x3 + 1) < (L : Int) then if 0 ≤ w32 (x3 + 2) ∧ w32 (x3 + 2) < (L : Int) then (f_X8_odds (xv (w32 (x3 + 1))) (xv (w32 (x3 + 2))) q202.2).bind (fun q206 => if cmp64 q202.1 q206.1 = 0 then f_L_law_1387 L xv (f_L_law_18 L xv n) x3 q206.2 else some (0, q206.2)) else none else none) else none else none else if and32 (xv x3) 63 = 22 then if 0 ≤ w32 (x3 + 1) ∧ w32 (x3 + 1) < (L : Int) then if 0 ≤ w32 (x3 + 2) ∧ w32 (x3 + 2) < (L : Int) then (f_X7_mean (xv (w32 (x3 + 1))) (xv (w32 (x3 + 2))) M).bind (fun q212 => if 0 ≤ w32 (x3 + 1) ∧ w32 (x3 + 1) < (L : Int) then if 0 ≤ w32 (x3 + 2) ∧ w32 (x3 + 2) < (L : Int) then (f_X8_mean (xv (w32 (x3 + 1))) (xv (w32 (x3 + 2))) q212.2).bind (fun q216 => if cmp64 q212.1 q216.1 = 0 then f_L_law_1387 L xv (f_L_law_18 L xv n) x3 q216.2 else some (0, q216.2)) else none else none) else none else none else if and32 (xv x3) 63 = 23 then if 0 ≤ w32 (x3 + 1) ∧ w32 (x3 + 1) < (L : Int) then if 0 ≤ w32 (x3 + 2) ∧ w32 (x3 + 2) < (L : Int) then (f_X7_plan (xv (w32 (x3 + 1))) (xv (w32 (x3 + 2))) M).bind (fun q222 => if 0 ≤ w32 (x3 + 1) ∧ w32 (x3 + 1) < (L : Int) then if 0 ≤ w32 (x3 + 2) ∧ w32 (x3 + 2) < (L : Int) then (f_X8_plan (xv (w32 (x3 + 1))) (xv (w32 (x3 + 2))) q222.2).bind (fun q226 => if q222.1 = q226.1 then f_L_law_1387 L xv (f_L_law_18 L xv n) x3 q226.2 else some (0, q226.2)) else none else none) else none else none else if and32 (xv x3) 63 = 24 then if 0 ≤ w32 (x3 + 1) ∧ w32 (x3 + 1) < (L : Int) then (f_X7_ends (xv (w32 (x3 + 1))) M).bind (fun q231 => if 0 ≤ w32 (x3 + 1) ∧ w32 (x3 + 1) < (L : Int) then (f_X8_ends (xv (w32 (x3 + 1))) q231.2).bind (fun q234 => if q231.1 = q234.1 then f_L_law_1387 L xv (f_L_law_18 L xv n) x3 q234.2 else some (0, q234.2)) else none) else none else if and32 (xv x3) 63 = 25 then if 0 ≤ w32 (x3 + 1) ∧ w32 (x3 + 1) < (L : Int) then if 0 ≤ w32 (x3 + 2) ∧ w32 (x3 + 2) < (L : Int) then (f_X7_book (xv (w32 (x3 + 1))) (xv (w32 (x3 + 2))) M).bind (fun q240 => if 0 ≤ w32 (x3 + 1) ∧ w32 (x3 + 1) < (L : Int) then if 0 ≤ w32 (x3 + 2) ∧ w32 (x3 + 2) < (L : Int) then (f_X8_book (xv (w32 (x3 + 1))) (xv (w32 (x3 + 2))) q240.2).bind (fun q244 => if q240.1 = q244.1 then f_L_law_1387 L xv (f_L_law_18 L xv n) x3 q244.2 else some (0, q244.2)) else none else none) else none else none else if and32 (xv x3) 63 = 26 then (f_X7_looked M).bind (fun q248 => (f_X8_looked q248.2).bind (fun q250 => if q248.1 = q250.1 then f_L_law_1387 L xv (f_L_law_18 L xv n) x3 q250.2 else some (0, q250.2))) else if and32 (xv x3) 63 = 27 then if 0 ≤ w32 (x3 + 1) ∧ w32 (x3 + 1) < (L : Int) then if 0 ≤ w32 (x3 + 2) ∧ w32 (x3 + 2) < (L : Int) then (f_X7_judge (xv (w32 (x3 + 1))) (xv (w32 (x3 + 2))) M).bind (fun q256 => if 0 ≤ w32 (x3 + 1) ∧ w32 (x3 + 1) < (L : Int) then if 0 ≤ w32 (x3 + 2) ∧ w32 (x3 + 2) < (L : Int) then (f_X8_judge (xv (w32 (x3 + 1))) (xv (w32 (x3 + 2))) q256.2).bind (fun q260 => if q256.1 = q260.1 then f_L_law_1387 L xv (f_L_law_18 L xv n) x3 q260.2 else some (0, q260.2)) else none else none) else none else none else if and32 (xv x3) 63 = 28 then (f_X7_image M).bind (fun q264 => (f_X8_image q264.2).bind (fun q266 => if q264.1 = q266.1 then f_L_law_1387 L xv (f_L_law_18 L xv n) x3 q266.2 else some (0, q266.2))) else if and32 (xv x3) 63 = 29 then (f_X7_undo M).bind (fun q270 => (f_X8_undo q270.2).bind (fun q272 => if q270.1 = q272.1 then f_L_law_1387 L xv (f_L_law_18 L xv n) x3 q272.2 else some (0, q272.2))) else if and32 (xv x3) 63 = 30 then if 0 ≤ w32 (x3 + 1) ∧ w32 (x3 + 1) < (L : Int) then if 0 ≤ w32 (x3 + 2) ∧ w32 (x3 + 2) < (L : Int) then if 0 ≤ w32 (x3 + 3) ∧ w32 (x3 + 3) < (L : Int) then (f_X7_act (xv (w32 (x3 + 1))) (xv (w32 (x3 + 2))) (xv (w32 (x3 + 3))) M).bind (fun q279 => if 0 ≤ w32 (x3 + 1) ∧ w32 (x3 + 1) < (L : Int) then if 0 ≤ w32 (x3 + 2) ∧ w32 (x3 + 2) < (L : Int) then if 0 ≤ w32 (x3 + 3) ∧ w32 (x3 + 3) < (L : Int) then (f_X8_act (xv (w32 (x3 + 1))) (xv (w32 (x3 + 2))) (xv (w32 (x3 + 3))) q279.2).bind (fun q284 => if q279.1 = q284.1 then f_L_law_1387 L xv (f_L_law_18 L xv n) x3 q284.2 else some (0, q284.2)) else none else none else none) else none else none else none else if and32 (xv x3) 63 = 31 then if 0 ≤ w32 (x3 + 1) ∧ w32 (x3 + 1) < (L : Int) then (f_X7_trace (xv (w32 (x3 + 1))) M).bind (fun q289 => if 0 ≤ w32 (x3 + 1) ∧ w32 (x3 + 1) < (L : Int) then (f_X8_trace (xv (w32 (x3 + 1))) q289.2).bind (fun q292 => if q289.1 = q292.1 then f_L_law_1387 L xv (f_L_law_18 L xv n) x3 q292.2 else some (0, q292.2)) else none) else none else if and32 (xv x3) 63 = 32 then if 0 ≤ w32 (x3 + 1) ∧ w32 (x3 + 1) < (L : Int) then if 0 ≤ w32 (x3 + 2) ∧ w32 (x3 + 2) < (L : Int) then (f_X7_taken (xv (w32 (x3 + 1))) (xv (w32 (x3 + 2))) M).bind (fun q298 => if 0 ≤ w32 (x3 + 1) ∧ w32 (x3 + 1) < (L : Int) then if 0 ≤ w32 (x3 + 2) ∧ w32 (x3 + 2) < (L : Int) then (f_X8_taken (xv (w32 (x3 + 1))) (xv (w32 (x3 + 2))) q298.2).bind (fun q302 => if q298.1 = q302.1 then f_L_law_1387 L xv (f_L_law_18 L xv n) x3 q302.2 else some (0, q302.2)) else none else none) else none else none else if and32 (xv x3) 63 = 33 then if 0 ≤ w32 (x3 + 1) ∧ w32 (x3 + 1) < (L : Int) then (f_X7_count (xv (w32 (x3 + 1))) M).bind (fun q307 => if 0 ≤ w32 (x3 + 1) ∧ w32 (x3 + 1) < (L : Int) then (f_X8_count (xv (w32 (x3 + 1))) q307.2).bind (fun q310 => if q307.1 = q310.1 then f_L_law_1387 L xv (f_L_law_18 L xv n) x3 q310.2 else some (0, q310.2)) else none) else none else if and32 (xv x3) 63 = 34 then if 0 ≤ w32 (x3 + 1) ∧ w32 (x3 + 1) < (L : Int) then if 0 ≤ w32 (x3 + 2) ∧ w32 (x3 + 2) < (L : Int) then if 0 ≤ w32 (x3 + 3) ∧ w32 (x3 + 3) < (L : Int) then (f_X7_tape (xv (w32 (x3 + 1))) (xv (w32 (x3 + 2))) (xv (w32 (x3 + 3))) M).bind (fun q317 => if 0 ≤ w32 (x3 + 1) ∧ w32 (x3 + 1) < (L : Int) then if 0 ≤ w32 (x3 + 2) ∧ w32 (x3 + 2) < (L : Int) then if 0 ≤ w32 (x3 + 3) ∧ w32 (x3 + 3) < (L : Int) then (f_X8_tape (xv (w32 (x3 + 1))) (xv (w32 (x3 + 2))) (xv (w32 (x3 + 3))) q317.2).bind (fun q322 => if q317.1 = q322.1 then f_L_law_1387 L xv (f_L_law_18 L xv n) x3 q322.2 else some (0, q322.2)) else none else none else none) else none else none else none else if and32 (xv x3) 63 = 35 then if 0 ≤ w32 (x3 + 1) ∧ w32 (x3 + 1) < (L : Int) then if 0 ≤ w32 (x3 + 2) ∧ w32 (x3 + 2) < (L : Int) then if 0 ≤ w32 (x3 + 3) ∧ w32 (x3 + 3) < (L : Int) then if 0 ≤ w32 (x3 + 4) ∧ w32 (x3 + 4) < (L : Int) then (f_X7_item (xv (w32 (x3 + 1))) (xv (w32 (x3 + 2))) (or64 (shl64 (xv (w32 (x3 + 3))) 32) (and64 (xv (w32 (x3 + 4))) 4294967295)) M).bind (fun q330 => if 0 ≤ w32 (x3 + 1) ∧ w32 (x3 + 1) < (L : Int) then if 0 ≤ w32 (x3 + 2) ∧ w32 (x3 + 2) < (L : Int) then if 0 ≤ w32 (x3 + 3) ∧ w32 (x3 + 3) < (L : Int) then if 0 ≤ w32 (x3 + 4) ∧ w32 (x3 + 4) < (L : Int) then (f_X8_item (xv (w32 (x3 + 1))) (xv (w32 (x3 + 2))) (or64 (shl64 (xv (w32 (x3 + 3))) 32) (and64 (xv (w32 (x3 + 4))) 4294967295)) q330.2).bind (fun q336 => if q330.1 = q336.1 then f_L_law_1387 L xv (f_L_law_18 L xv n) x3 q336.2 else some (0, q336.2)) else none else none else none else none) else none else none else none else none else if and32 (xv x3) 63 = 36 then if 0 ≤ w32 (x3 + 1) ∧ w32 (x3 + 1) < (L : Int) then if 0 ≤ w32 (x3 + 2) ∧ w32 (x3 + 2) < (L : Int) then (f_X7_read (xv (w32 (x3 + 1))) (xv (w32 (x3 + 2))) M).bind (fun q342 => if 0 ≤ w32 (x3 + 1) ∧ w32 (x3 + 1) < (L : Int) then if 0 ≤ w32 (x3 + 2) ∧ w32 (x3 + 2) < (L : Int) then (f_X8_read (xv (w32 (x3 + 1))) (xv (w32 (x3 + 2))) q342.2).bind (fun q346 => if cmp64 q342.1 q346.1 = 0 then f_L_law_1387 L xv (f_L_law_18 L xv n) x3 q346.2 else some (0, q346.2)) else none else none) else none else none else if and32 (xv x3) 63 = 37 then if 0 ≤ w32 (x3 + 1) ∧ w32 (x3 + 1) < (L : Int) then if 0 ≤ w32 (x3 + 2) ∧ w32 (x3 + 2) < (L : Int) then if 0 ≤ w32 (x3 + 3) ∧ w32 (x3 + 3) < (L : Int) then if 0 ≤ w32 (x3 + 4) ∧ w32 (x3 + 4) < (L : Int) then if 0 ≤ w32 (x3 + 5) ∧ w32 (x3 + 5) < (L : Int) then (f_X7_shift (xv (w32 (x3 + 1))) (xv (w32 (x3 + 2))) (xv (w32 (x3 + 3))) (xv (w32 (x3 + 4))) (xv (w32 (x3 + 5))) M).bind (fun q355 => if 0 ≤ w32 (x3 + 1) ∧ w32 (x3 + 1) < (L : Int) then if 0 ≤ w32 (x3 + 2) ∧ w32 (x3 + 2) < (L : Int) then if 0 ≤ w32 (x3 + 3) ∧ w32 (x3 + 3) < (L : Int) then if 0 ≤ w32 (x3 + 4) ∧ w32 (x3 + 4) < (L : Int) then if 0 ≤ w32 (x3 + 5) ∧ w32 (x3 + 5) < (L : Int) then (f_X8_shift (xv (w32 (x3 + 1))) (xv (w32 (x3 + 2))) (xv (w32 (x3 + 3))) (xv (w32 (x3 + 4))) (xv (w32 (x3 + 5))) q355.2).bind (fun q362 => if q355.1 = q362.1 then f_L_law_1387 L xv (f_L_law_18 L xv n) x3 q362.2 else some (0, q362.2)) else none else none else none else none else none) else none else none else none else none else none else f_L_law_1387 L xv (f_L_law_18 L xv n) x3 M else none
set_option maxRecDepth 20000 in
set_option maxHeartbeats 4000000 in
theorem b_L_law_1387 {p : Program} {l : Launch} {e : Env} {s : State} {m : MethodId} {b : Nat} {below : List Frame} {meth : Method} {c : Code} {B : BX} {res : Int × Mem} (hres : res.1 = 1) {L : Nat} {xv : Int → Int} {k18 : Int → Mem → Option (Int × Mem)} (C : Cx (p, l, e, room_1, s, m, #[Value.ref b], below, meth, c) B false (yLw meth) code 4 (some .boolean) 2048 600000 7302250) (hSc : SCR (p, l, e, room_1, s, m, #[Value.ref b], below, meth, c) B L xv) (hb : B.1 = (p, l, e, room_1, s, m, #[Value.ref b], below, meth, c).2.2.2.2.1.heap.size) (hk18 : ∀ (x3 : Int) (M : Mem), OK M → k18 x3 M = some res → Wx (p, l, e, room_1, s, m, #[Value.ref b], below, meth, c) B (ZL (p, l, e, room_1, s, m, #[Value.ref b], below, meth, c)) 172 5598 SH 4 M 18 [some (aF 20), some (aR 0), some (aR 127), some (aI x3)] []) : ∀ (x3 : Int) (M : Mem), OK M → f_L_law_1387 L xv k18 x3 M = some res → Wx (p, l, e, room_1, s, m, #[Value.ref b], below, meth, c) B (ZL (p, l, e, room_1, s, m, #[Value.ref b], below, meth, c)) 172 5598 SH 4 M 1387 [some (aF 20), some (aR 0), some (aR 127), some (aI x3)] [] := by
  intro x3 M hOM h
  unfold f_L_law_1387 at h
  refine mx_iinc (pc := 1387) C dL_law_1387 (ls' := [some (aF 20), some (aR 0), some (aR 127), some (aI (w32 (x3 + 6)))]) rfl (by decide) rfl (by constructor <;> decide) rfl rfl ?_
  refine mx_goto (pc := 1390) (tgt := 18) C dL_law_1390 rfl ?_
  exact hk18 (w32 (x3 + 6)) M hOM h
set_option maxRecDepth 20000 in
set_option maxHeartbeats 4000000 in
theorem b_L_law_18 {p : Program} {l : Launch} {e : Env} {s : State} {m : MethodId} {b : Nat} {below : List Frame} {meth : Method} {c : Code} {B : BX} {res : Int × Mem} (hres : res.1 = 1) {L : Nat} {xv : Int → Int} (C : Cx (p, l, e, room_1, s, m, #[Value.ref b], below, meth, c) B false (yLw meth) code 4 (some .boolean) 2048 600000 7302250) (hSc : SCR (p, l, e, room_1, s, m, #[Value.ref b], below, meth, c) B L xv) (hb : B.1 = (p, l, e, room_1, s, m, #[Value.ref b], below, meth, c).2.2.2.2.1.heap.size) : ∀ (n : Nat) (x3 : Int) (M : Mem), OK M → f_L_law_18 L xv n x3 M = some res → Wx (p, l, e, room_1, s, m, #[Value.ref b], below, meth, c) B (ZL (p, l, e, room_1, s, m, #[Value.ref b], below, meth, c)) 172 5598 SH 4 M 18 [some (aF 20), some (aR 0), some (aR 127), some (aI x3)] [] := by
  intro n
  induction n with
  | zero =>
    intro x3 M hOM h
    cases h
  | succ n ih =>
    intro x3 M hOM h
    rw [f_L_law_18.eq_2] at h
    refine mx_iload_n (pc := 18) C dL_law_18 rfl ?_
    refine mx_fload_n (pc := 19) C dL_law_19 rfl ?_
    refine mx_scn (pc := 20) C hSc dL_law_20 ?_
    refine mx_bipush (pc := 21) C dL_law_21 (z := 6) rfl (by constructor <;> decide) ?_
    refine mx_isub (pc := 23) C dL_law_23  ?_
    refine mx_icmp_gt (pc := 24) (tgt := 1393) C dL_law_24 rfl (fun c1 => ?_) (fun c1 => ?_)
    · rw [if_pos c1] at h
      refine mx_iconst (pc := 1393) C dL_law_1393 (z := 1) rfl (by constructor <;> decide) ?_
      exact mx_law1 (pc := 1394) C hb (by decide) dL_law_1394
    · rw [if_neg c1] at h
      refine mx_fload_n (pc := 27) C dL_law_27 rfl ?_
      refine mx_iload_n (pc := 28) C dL_law_28 rfl ?_
      obtain ⟨g2, h⟩ := of_gd h
      refine mx_scl (pc := 29) C hSc dL_law_29 g2.1 g2.2 ?_
      refine mx_bipush (pc := 30) C dL_law_30 (z := 63) rfl (by constructor <;> decide) ?_
      refine mx_iand (pc := 32) C dL_law_32  ?_
      by_cases c3 : and32 (xv x3) 63 = 0
      · rw [if_pos c3] at h
        refine mx_tin (pc := 33) (tgt := 200) C 0 dL_law_33 c3 (by decide) (by decide) rfl rfl ?_
        refine mx_aload_n (pc := 200) C dL_law_200 rfl ?_
        refine mx_fload_n (pc := 201) C dL_law_201 rfl ?_
        refine mx_iload_n (pc := 202) C dL_law_202 rfl ?_
        refine mx_iconst (pc := 203) C dL_law_203 (z := 1) rfl (by constructor <;> decide) ?_
        refine mx_iadd (pc := 204) C dL_law_204  ?_
        obtain ⟨g4, h⟩ := of_gd h
        refine mx_scl (pc := 205) C hSc dL_law_205 g4.1 g4.2 ?_
        refine mx_fload_n (pc := 206) C dL_law_206 rfl ?_
        refine mx_iload_n (pc := 207) C dL_law_207 rfl ?_
        refine mx_iconst (pc := 208) C dL_law_208 (z := 2) rfl (by constructor <;> decide) ?_
        refine mx_iadd (pc := 209) C dL_law_209  ?_
        obtain ⟨g5, h⟩ := of_gd h
        refine mx_scl (pc := 210) C hSc dL_law_210 g5.1 g5.2 ?_
        refine mx_fload_n (pc := 211) C dL_law_211 rfl ?_
        refine mx_iload_n (pc := 212) C dL_law_212 rfl ?_
        refine mx_iconst (pc := 213) C dL_law_213 (z := 3) rfl (by constructor <;> decide) ?_
        refine mx_iadd (pc := 214) C dL_law_214  ?_
        obtain ⟨g6, h⟩ := of_gd h
        refine mx_scl (pc := 215) C hSc dL_law_215 g6.1 g6.2 ?_
        refine mx_fload_n (pc := 216) C dL_law_216 rfl ?_
        refine mx_iload_n (pc := 217) C dL_law_217 rfl ?_
        refine mx_iconst (pc := 218) C dL_law_218 (z := 4) rfl (by constructor <;> decide) ?_
        refine mx_iadd (pc := 219) C dL_law_219  ?_
        obtain ⟨g7, h⟩ := of_gd h
        refine mx_scl (pc := 220) C hSc dL_law_220 g7.1 g7.2 ?_
        obtain ⟨q8, hq8, h⟩ := of_bd h
        refine mc_V (pc := 221) (as := [aI (xv (w32 (x3 + 1))), aI (xv (w32 (x3 + 2))), aI (xv (w32 (x3 + 3))), aI (xv (w32 (x3 + 4)))]) (rest := []) (stk2 := [aI q8.1]) C ⟨by decide, by decide⟩ (m_X7_sound hOM hq8) mi_X7_sound mv_X7_sound ml_L_13 ci_7 rfl so_7 (by omega) rfl (Nat.le_of_ble_eq_true rfl) dL_law_221 rfl (fun hp9 => ?_)
        have hOq8 : OK q8.2 := hp9
        refine mx_aload_n (pc := 224) C dL_law_224 rfl ?_
        refine mx_fload_n (pc := 225) C dL_law_225 rfl ?_
        refine mx_iload_n (pc := 226) C dL_law_226 rfl ?_
        refine mx_iconst (pc := 227) C dL_law_227 (z := 1) rfl (by constructor <;> decide) ?_
        refine mx_iadd (pc := 228) C dL_law_228  ?_
        obtain ⟨g10, h⟩ := of_gd h
        refine mx_scl (pc := 229) C hSc dL_law_229 g10.1 g10.2 ?_
        refine mx_fload_n (pc := 230) C dL_law_230 rfl ?_
        refine mx_iload_n (pc := 231) C dL_law_231 rfl ?_
        refine mx_iconst (pc := 232) C dL_law_232 (z := 2) rfl (by constructor <;> decide) ?_
        refine mx_iadd (pc := 233) C dL_law_233  ?_
        obtain ⟨g11, h⟩ := of_gd h
        refine mx_scl (pc := 234) C hSc dL_law_234 g11.1 g11.2 ?_
        refine mx_fload_n (pc := 235) C dL_law_235 rfl ?_
        refine mx_iload_n (pc := 236) C dL_law_236 rfl ?_
        refine mx_iconst (pc := 237) C dL_law_237 (z := 3) rfl (by constructor <;> decide) ?_
        refine mx_iadd (pc := 238) C dL_law_238  ?_
        obtain ⟨g12, h⟩ := of_gd h
        refine mx_scl (pc := 239) C hSc dL_law_239 g12.1 g12.2 ?_
        refine mx_fload_n (pc := 240) C dL_law_240 rfl ?_
        refine mx_iload_n (pc := 241) C dL_law_241 rfl ?_
        refine mx_iconst (pc := 242) C dL_law_242 (z := 4) rfl (by constructor <;> decide) ?_
        refine mx_iadd (pc := 243) C dL_law_243  ?_
        obtain ⟨g13, h⟩ := of_gd h
        refine mx_scl (pc := 244) C hSc dL_law_244 g13.1 g13.2 ?_
        obtain ⟨q14, hq14, h⟩ := of_bd h
        refine mc_V (pc := 245) (as := [aI (xv (w32 (x3 + 1))), aI (xv (w32 (x3 + 2))), aI (xv (w32 (x3 + 3))), aI (xv (w32 (x3 + 4)))]) (rest := [aI q8.1]) (stk2 := [aI q14.1, aI q8.1]) C ⟨by decide, by decide⟩ (m_X8_sound hOq8 hq14) mi_X8_sound mv_X8_sound ml_L_17 ci_8 rfl so_8 (by omega) rfl (Nat.le_of_ble_eq_true rfl) dL_law_245 rfl (fun hp15 => ?_)
        have hOq14 : OK q14.2 := hp15
        refine mx_icmp_eq (pc := 248) (tgt := 1387) C dL_law_248 rfl (fun c16 => ?_) (fun c16 => ?_)
        · rw [if_pos c16] at h
          exact b_L_law_1387 hres C hSc hb ih x3 q14.2 hOq14 h
        · rw [if_neg c16] at h
          refine mx_iconst (pc := 251) C dL_law_251 (z := 0) rfl (by constructor <;> decide) ?_
          rw [← Option.some.inj h] at hres
          exact absurd (show (0 : Int) = 1 from hres) (by decide)
      · rw [if_neg c3] at h
        by_cases c17 : and32 (xv x3) 63 = 1
        · rw [if_pos c17] at h
          refine mx_tin (pc := 33) (tgt := 253) C 1 dL_law_33 c17 (by decide) (by decide) rfl rfl ?_
          refine mx_aload_n (pc := 253) C dL_law_253 rfl ?_
          refine mx_fload_n (pc := 254) C dL_law_254 rfl ?_
          refine mx_iload_n (pc := 255) C dL_law_255 rfl ?_
          refine mx_iconst (pc := 256) C dL_law_256 (z := 1) rfl (by constructor <;> decide) ?_
          refine mx_iadd (pc := 257) C dL_law_257  ?_
          obtain ⟨g18, h⟩ := of_gd h
          refine mx_scl (pc := 258) C hSc dL_law_258 g18.1 g18.2 ?_
          refine mx_fload_n (pc := 259) C dL_law_259 rfl ?_
          refine mx_iload_n (pc := 260) C dL_law_260 rfl ?_
          refine mx_iconst (pc := 261) C dL_law_261 (z := 2) rfl (by constructor <;> decide) ?_
          refine mx_iadd (pc := 262) C dL_law_262  ?_
          obtain ⟨g19, h⟩ := of_gd h
          refine mx_scl (pc := 263) C hSc dL_law_263 g19.1 g19.2 ?_
          obtain ⟨q20, hq20, h⟩ := of_bd h
          refine mc_V (pc := 264) (as := [aI (xv (w32 (x3 + 1))), aI (xv (w32 (x3 + 2)))]) (rest := []) (stk2 := [aI q20.1]) C ⟨by decide, by decide⟩ (m_X7_of hOM hq20) mi_X7_of mv_X7_of ml_L_18 ci_7 rfl so_7 (by omega) rfl (Nat.le_of_ble_eq_true rfl) dL_law_264 rfl (fun hp21 => ?_)
          have hOq20 : OK q20.2 := hp21
          refine mx_aload_n (pc := 267) C dL_law_267 rfl ?_
          refine mx_fload_n (pc := 268) C dL_law_268 rfl ?_
          refine mx_iload_n (pc := 269) C dL_law_269 rfl ?_
          refine mx_iconst (pc := 270) C dL_law_270 (z := 1) rfl (by constructor <;> decide) ?_
          refine mx_iadd (pc := 271) C dL_law_271  ?_
          obtain ⟨g22, h⟩ := of_gd h
          refine mx_scl (pc := 272) C hSc dL_law_272 g22.1 g22.2 ?_
          refine mx_fload_n (pc := 273) C dL_law_273 rfl ?_
          refine mx_iload_n (pc := 274) C dL_law_274 rfl ?_
          refine mx_iconst (pc := 275) C dL_law_275 (z := 2) rfl (by constructor <;> decide) ?_
          refine mx_iadd (pc := 276) C dL_law_276  ?_
          obtain ⟨g23, h⟩ := of_gd h
          refine mx_scl (pc := 277) C hSc dL_law_277 g23.1 g23.2 ?_
          obtain ⟨q24, hq24, h⟩ := of_bd h
          refine mc_V (pc := 278) (as := [aI (xv (w32 (x3 + 1))), aI (xv (w32 (x3 + 2)))]) (rest := [aI q20.1]) (stk2 := [aI q24.1, aI q20.1]) C ⟨by decide, by decide⟩ (m_X8_of hOq20 hq24) mi_X8_of mv_X8_of ml_L_22 ci_8 rfl so_8 (by omega) rfl (Nat.le_of_ble_eq_true rfl) dL_law_278 rfl (fun hp25 => ?_)
          have hOq24 : OK q24.2 := hp25
          refine mx_icmp_eq (pc := 281) (tgt := 1387) C dL_law_281 rfl (fun c26 => ?_) (fun c26 => ?_)
          · rw [if_pos c26] at h
            exact b_L_law_1387 hres C hSc hb ih x3 q24.2 hOq24 h
          · rw [if_neg c26] at h
            refine mx_iconst (pc := 284) C dL_law_284 (z := 0) rfl (by constructor <;> decide) ?_
            rw [← Option.some.inj h] at hres
            exact absurd (show (0 : Int) = 1 from hres) (by decide)
        · rw [if_neg c17] at h
          by_cases c27 : and32 (xv x3) 63 = 2
          · rw [if_pos c27] at h
            refine mx_tin (pc := 33) (tgt := 286) C 2 dL_law_33 c27 (by decide) (by decide) rfl rfl ?_
            refine mx_aload_n (pc := 286) C dL_law_286 rfl ?_
            refine mx_fload_n (pc := 287) C dL_law_287 rfl ?_
            refine mx_iload_n (pc := 288) C dL_law_288 rfl ?_
            refine mx_iconst (pc := 289) C dL_law_289 (z := 1) rfl (by constructor <;> decide) ?_
            refine mx_iadd (pc := 290) C dL_law_290  ?_
            obtain ⟨g28, h⟩ := of_gd h
            refine mx_scl (pc := 291) C hSc dL_law_291 g28.1 g28.2 ?_
            refine mx_fload_n (pc := 292) C dL_law_292 rfl ?_
            refine mx_iload_n (pc := 293) C dL_law_293 rfl ?_
            refine mx_iconst (pc := 294) C dL_law_294 (z := 2) rfl (by constructor <;> decide) ?_
            refine mx_iadd (pc := 295) C dL_law_295  ?_
            obtain ⟨g29, h⟩ := of_gd h
            refine mx_scl (pc := 296) C hSc dL_law_296 g29.1 g29.2 ?_
            obtain ⟨q30, hq30, h⟩ := of_bd h
            refine mc_V (pc := 297) (as := [aI (xv (w32 (x3 + 1))), aI (xv (w32 (x3 + 2)))]) (rest := []) (stk2 := [aI q30.1]) C ⟨by decide, by decide⟩ (m_X7_set hOM hq30) mi_X7_set mv_X7_set ml_L_23 ci_7 rfl so_7 (by omega) rfl (Nat.le_of_ble_eq_true rfl) dL_law_297 rfl (fun hp31 => ?_)
            have hOq30 : OK q30.2 := hp31
            refine mx_aload_n (pc := 300) C dL_law_300 rfl ?_
            refine mx_fload_n (pc := 301) C dL_law_301 rfl ?_
            refine mx_iload_n (pc := 302) C dL_law_302 rfl ?_
            refine mx_iconst (pc := 303) C dL_law_303 (z := 1) rfl (by constructor <;> decide) ?_
            refine mx_iadd (pc := 304) C dL_law_304  ?_
            obtain ⟨g32, h⟩ := of_gd h
            refine mx_scl (pc := 305) C hSc dL_law_305 g32.1 g32.2 ?_
            refine mx_fload_n (pc := 306) C dL_law_306 rfl ?_
            refine mx_iload_n (pc := 307) C dL_law_307 rfl ?_
            refine mx_iconst (pc := 308) C dL_law_308 (z := 2) rfl (by constructor <;> decide) ?_
            refine mx_iadd (pc := 309) C dL_law_309  ?_
            obtain ⟨g33, h⟩ := of_gd h
            refine mx_scl (pc := 310) C hSc dL_law_310 g33.1 g33.2 ?_
            obtain ⟨q34, hq34, h⟩ := of_bd h
            refine mc_V (pc := 311) (as := [aI (xv (w32 (x3 + 1))), aI (xv (w32 (x3 + 2)))]) (rest := [aI q30.1]) (stk2 := [aI q34.1, aI q30.1]) C ⟨by decide, by decide⟩ (m_X8_set hOq30 hq34) mi_X8_set mv_X8_set ml_L_26 ci_8 rfl so_8 (by omega) rfl (Nat.le_of_ble_eq_true rfl) dL_law_311 rfl (fun hp35 => ?_)
            have hOq34 : OK q34.2 := hp35
            refine mx_icmp_eq (pc := 314) (tgt := 1387) C dL_law_314 rfl (fun c36 => ?_) (fun c36 => ?_)
            · rw [if_pos c36] at h
              exact b_L_law_1387 hres C hSc hb ih x3 q34.2 hOq34 h
            · rw [if_neg c36] at h
              refine mx_iconst (pc := 317) C dL_law_317 (z := 0) rfl (by constructor <;> decide) ?_
              rw [← Option.some.inj h] at hres
              exact absurd (show (0 : Int) = 1 from hres) (by decide)
          · rw [if_neg c27] at h
            by_cases c37 : and32 (xv x3) 63 = 3
            · rw [if_pos c37] at h
              refine mx_tin (pc := 33) (tgt := 319) C 3 dL_law_33 c37 (by decide) (by decide) rfl rfl ?_
              refine mx_aload_n (pc := 319) C dL_law_319 rfl ?_
              refine mx_fload_n (pc := 320) C dL_law_320 rfl ?_
              refine mx_iload_n (pc := 321) C dL_law_321 rfl ?_
              refine mx_iconst (pc := 322) C dL_law_322 (z := 1) rfl (by constructor <;> decide) ?_
              refine mx_iadd (pc := 323) C dL_law_323  ?_
              obtain ⟨g38, h⟩ := of_gd h
              refine mx_scl (pc := 324) C hSc dL_law_324 g38.1 g38.2 ?_
              refine mx_fload_n (pc := 325) C dL_law_325 rfl ?_
              refine mx_iload_n (pc := 326) C dL_law_326 rfl ?_
              refine mx_iconst (pc := 327) C dL_law_327 (z := 2) rfl (by constructor <;> decide) ?_
              refine mx_iadd (pc := 328) C dL_law_328  ?_
              obtain ⟨g39, h⟩ := of_gd h
              refine mx_scl (pc := 329) C hSc dL_law_329 g39.1 g39.2 ?_
              obtain ⟨q40, hq40, h⟩ := of_bd h
              refine mc_V (pc := 330) (as := [aI (xv (w32 (x3 + 1))), aI (xv (w32 (x3 + 2)))]) (rest := []) (stk2 := [aI q40.1]) C ⟨by decide, by decide⟩ (m_X7_pass hOM hq40) mi_X7_pass mv_X7_pass ml_L_27 ci_7 rfl so_7 (by omega) rfl (Nat.le_of_ble_eq_true rfl) dL_law_330 rfl (fun hp41 => ?_)
              have hOq40 : OK q40.2 := hp41
              refine mx_aload_n (pc := 333) C dL_law_333 rfl ?_
              refine mx_fload_n (pc := 334) C dL_law_334 rfl ?_
              refine mx_iload_n (pc := 335) C dL_law_335 rfl ?_
              refine mx_iconst (pc := 336) C dL_law_336 (z := 1) rfl (by constructor <;> decide) ?_
              refine mx_iadd (pc := 337) C dL_law_337  ?_
              obtain ⟨g42, h⟩ := of_gd h
              refine mx_scl (pc := 338) C hSc dL_law_338 g42.1 g42.2 ?_
              refine mx_fload_n (pc := 339) C dL_law_339 rfl ?_
              refine mx_iload_n (pc := 340) C dL_law_340 rfl ?_
              refine mx_iconst (pc := 341) C dL_law_341 (z := 2) rfl (by constructor <;> decide) ?_
              refine mx_iadd (pc := 342) C dL_law_342  ?_
              obtain ⟨g43, h⟩ := of_gd h
              refine mx_scl (pc := 343) C hSc dL_law_343 g43.1 g43.2 ?_
              obtain ⟨q44, hq44, h⟩ := of_bd h
              refine mc_V (pc := 344) (as := [aI (xv (w32 (x3 + 1))), aI (xv (w32 (x3 + 2)))]) (rest := [aI q40.1]) (stk2 := [aI q44.1, aI q40.1]) C ⟨by decide, by decide⟩ (m_X8_pass hOq40 hq44) mi_X8_pass mv_X8_pass ml_L_30 ci_8 rfl so_8 (by omega) rfl (Nat.le_of_ble_eq_true rfl) dL_law_344 rfl (fun hp45 => ?_)
              have hOq44 : OK q44.2 := hp45
              refine mx_icmp_eq (pc := 347) (tgt := 1387) C dL_law_347 rfl (fun c46 => ?_) (fun c46 => ?_)
              · rw [if_pos c46] at h
                exact b_L_law_1387 hres C hSc hb ih x3 q44.2 hOq44 h
              · rw [if_neg c46] at h
                refine mx_iconst (pc := 350) C dL_law_350 (z := 0) rfl (by constructor <;> decide) ?_
                rw [← Option.some.inj h] at hres
                exact absurd (show (0 : Int) = 1 from hres) (by decide)
            · rw [if_neg c37] at h
              by_cases c47 : and32 (xv x3) 63 = 4
              · rw [if_pos c47] at h
                refine mx_tin (pc := 33) (tgt := 352) C 4 dL_law_33 c47 (by decide) (by decide) rfl rfl ?_
                refine mx_aload_n (pc := 352) C dL_law_352 rfl ?_
                refine mx_fload_n (pc := 353) C dL_law_353 rfl ?_
                refine mx_iload_n (pc := 354) C dL_law_354 rfl ?_
                refine mx_iconst (pc := 355) C dL_law_355 (z := 1) rfl (by constructor <;> decide) ?_
                refine mx_iadd (pc := 356) C dL_law_356  ?_
                obtain ⟨g48, h⟩ := of_gd h
                refine mx_scl (pc := 357) C hSc dL_law_357 g48.1 g48.2 ?_
                obtain ⟨q49, hq49, h⟩ := of_bd h
                refine mc_V (pc := 358) (as := [aI (xv (w32 (x3 + 1)))]) (rest := []) (stk2 := [aI q49.1]) C ⟨by decide, by decide⟩ (m_X7_lose hOM hq49) mi_X7_lose mv_X7_lose ml_L_31 ci_7 rfl so_7 (by omega) rfl (Nat.le_of_ble_eq_true rfl) dL_law_358 rfl (fun hp50 => ?_)
                have hOq49 : OK q49.2 := hp50
                refine mx_aload_n (pc := 361) C dL_law_361 rfl ?_
                refine mx_fload_n (pc := 362) C dL_law_362 rfl ?_
                refine mx_iload_n (pc := 363) C dL_law_363 rfl ?_
                refine mx_iconst (pc := 364) C dL_law_364 (z := 1) rfl (by constructor <;> decide) ?_
                refine mx_iadd (pc := 365) C dL_law_365  ?_
                obtain ⟨g51, h⟩ := of_gd h
                refine mx_scl (pc := 366) C hSc dL_law_366 g51.1 g51.2 ?_
                obtain ⟨q52, hq52, h⟩ := of_bd h
                refine mc_V (pc := 367) (as := [aI (xv (w32 (x3 + 1)))]) (rest := [aI q49.1]) (stk2 := [aI q52.1, aI q49.1]) C ⟨by decide, by decide⟩ (m_X8_lose hOq49 hq52) mi_X8_lose mv_X8_lose ml_L_35 ci_8 rfl so_8 (by omega) rfl (Nat.le_of_ble_eq_true rfl) dL_law_367 rfl (fun hp53 => ?_)
                have hOq52 : OK q52.2 := hp53
                refine mx_icmp_eq (pc := 370) (tgt := 1387) C dL_law_370 rfl (fun c54 => ?_) (fun c54 => ?_)
                · rw [if_pos c54] at h
                  exact b_L_law_1387 hres C hSc hb ih x3 q52.2 hOq52 h
                · rw [if_neg c54] at h
                  refine mx_iconst (pc := 373) C dL_law_373 (z := 0) rfl (by constructor <;> decide) ?_
                  rw [← Option.some.inj h] at hres
                  exact absurd (show (0 : Int) = 1 from hres) (by decide)
              · rw [if_neg c47] at h
                by_cases c55 : and32 (xv x3) 63 = 5
                · rw [if_pos c55] at h
                  refine mx_tin (pc := 33) (tgt := 375) C 5 dL_law_33 c55 (by decide) (by decide) rfl rfl ?_
                  refine mx_aload_n (pc := 375) C dL_law_375 rfl ?_
                  refine mx_fload_n (pc := 376) C dL_law_376 rfl ?_
                  refine mx_iload_n (pc := 377) C dL_law_377 rfl ?_
                  refine mx_iconst (pc := 378) C dL_law_378 (z := 1) rfl (by constructor <;> decide) ?_
                  refine mx_iadd (pc := 379) C dL_law_379  ?_
                  obtain ⟨g56, h⟩ := of_gd h
                  refine mx_scl (pc := 380) C hSc dL_law_380 g56.1 g56.2 ?_
                  refine mx_fload_n (pc := 381) C dL_law_381 rfl ?_
                  refine mx_iload_n (pc := 382) C dL_law_382 rfl ?_
                  refine mx_iconst (pc := 383) C dL_law_383 (z := 2) rfl (by constructor <;> decide) ?_
                  refine mx_iadd (pc := 384) C dL_law_384  ?_
                  obtain ⟨g57, h⟩ := of_gd h
                  refine mx_scl (pc := 385) C hSc dL_law_385 g57.1 g57.2 ?_
                  obtain ⟨q58, hq58, h⟩ := of_bd h
                  refine mc_V (pc := 386) (as := [aI (xv (w32 (x3 + 1))), aI (xv (w32 (x3 + 2)))]) (rest := []) (stk2 := [aI q58.1]) C ⟨by decide, by decide⟩ (m_X7_find hOM hq58) mi_X7_find mv_X7_find ml_L_36 ci_7 rfl so_7 (by omega) rfl (Nat.le_of_ble_eq_true rfl) dL_law_386 rfl (fun hp59 => ?_)
                  have hOq58 : OK q58.2 := hp59
                  refine mx_aload_n (pc := 389) C dL_law_389 rfl ?_
                  refine mx_fload_n (pc := 390) C dL_law_390 rfl ?_
                  refine mx_iload_n (pc := 391) C dL_law_391 rfl ?_
                  refine mx_iconst (pc := 392) C dL_law_392 (z := 1) rfl (by constructor <;> decide) ?_
                  refine mx_iadd (pc := 393) C dL_law_393  ?_
                  obtain ⟨g60, h⟩ := of_gd h
                  refine mx_scl (pc := 394) C hSc dL_law_394 g60.1 g60.2 ?_
                  refine mx_fload_n (pc := 395) C dL_law_395 rfl ?_
                  refine mx_iload_n (pc := 396) C dL_law_396 rfl ?_
                  refine mx_iconst (pc := 397) C dL_law_397 (z := 2) rfl (by constructor <;> decide) ?_
                  refine mx_iadd (pc := 398) C dL_law_398  ?_
                  obtain ⟨g61, h⟩ := of_gd h
                  refine mx_scl (pc := 399) C hSc dL_law_399 g61.1 g61.2 ?_
                  obtain ⟨q62, hq62, h⟩ := of_bd h
                  refine mc_V (pc := 400) (as := [aI (xv (w32 (x3 + 1))), aI (xv (w32 (x3 + 2)))]) (rest := [aI q58.1]) (stk2 := [aI q62.1, aI q58.1]) C ⟨by decide, by decide⟩ (m_X8_find hOq58 hq62) mi_X8_find mv_X8_find ml_L_39 ci_8 rfl so_8 (by omega) rfl (Nat.le_of_ble_eq_true rfl) dL_law_400 rfl (fun hp63 => ?_)
                  have hOq62 : OK q62.2 := hp63
                  refine mx_icmp_eq (pc := 403) (tgt := 1387) C dL_law_403 rfl (fun c64 => ?_) (fun c64 => ?_)
                  · rw [if_pos c64] at h
                    exact b_L_law_1387 hres C hSc hb ih x3 q62.2 hOq62 h
                  · rw [if_neg c64] at h
                    refine mx_iconst (pc := 406) C dL_law_406 (z := 0) rfl (by constructor <;> decide) ?_
                    rw [← Option.some.inj h] at hres
                    exact absurd (show (0 : Int) = 1 from hres) (by decide)
                · rw [if_neg c55] at h
                  by_cases c65 : and32 (xv x3) 63 = 6
                  · rw [if_pos c65] at h
                    refine mx_tin (pc := 33) (tgt := 408) C 6 dL_law_33 c65 (by decide) (by decide) rfl rfl ?_
                    refine mx_aload_n (pc := 408) C dL_law_408 rfl ?_
                    refine mx_fload_n (pc := 409) C dL_law_409 rfl ?_
                    refine mx_iload_n (pc := 410) C dL_law_410 rfl ?_
                    refine mx_iconst (pc := 411) C dL_law_411 (z := 1) rfl (by constructor <;> decide) ?_
                    refine mx_iadd (pc := 412) C dL_law_412  ?_
                    obtain ⟨g66, h⟩ := of_gd h
                    refine mx_scl (pc := 413) C hSc dL_law_413 g66.1 g66.2 ?_
                    refine mx_fload_n (pc := 414) C dL_law_414 rfl ?_
                    refine mx_iload_n (pc := 415) C dL_law_415 rfl ?_
                    refine mx_iconst (pc := 416) C dL_law_416 (z := 2) rfl (by constructor <;> decide) ?_
                    refine mx_iadd (pc := 417) C dL_law_417  ?_
                    obtain ⟨g67, h⟩ := of_gd h
                    refine mx_scl (pc := 418) C hSc dL_law_418 g67.1 g67.2 ?_
                    refine mx_fload_n (pc := 419) C dL_law_419 rfl ?_
                    refine mx_iload_n (pc := 420) C dL_law_420 rfl ?_
                    refine mx_iconst (pc := 421) C dL_law_421 (z := 3) rfl (by constructor <;> decide) ?_
                    refine mx_iadd (pc := 422) C dL_law_422  ?_
                    obtain ⟨g68, h⟩ := of_gd h
                    refine mx_scl (pc := 423) C hSc dL_law_423 g68.1 g68.2 ?_
                    obtain ⟨q69, hq69, h⟩ := of_bd h
                    refine mc_V (pc := 424) (as := [aI (xv (w32 (x3 + 1))), aI (xv (w32 (x3 + 2))), aI (xv (w32 (x3 + 3)))]) (rest := []) (stk2 := [aI q69.1]) C ⟨by decide, by decide⟩ (m_X7_row hOM hq69) mi_X7_row mv_X7_row ml_L_40 ci_7 rfl so_7 (by omega) rfl (Nat.le_of_ble_eq_true rfl) dL_law_424 rfl (fun hp70 => ?_)
                    have hOq69 : OK q69.2 := hp70
                    refine mx_aload_n (pc := 427) C dL_law_427 rfl ?_
                    refine mx_fload_n (pc := 428) C dL_law_428 rfl ?_
                    refine mx_iload_n (pc := 429) C dL_law_429 rfl ?_
                    refine mx_iconst (pc := 430) C dL_law_430 (z := 1) rfl (by constructor <;> decide) ?_
                    refine mx_iadd (pc := 431) C dL_law_431  ?_
                    obtain ⟨g71, h⟩ := of_gd h
                    refine mx_scl (pc := 432) C hSc dL_law_432 g71.1 g71.2 ?_
                    refine mx_fload_n (pc := 433) C dL_law_433 rfl ?_
                    refine mx_iload_n (pc := 434) C dL_law_434 rfl ?_
                    refine mx_iconst (pc := 435) C dL_law_435 (z := 2) rfl (by constructor <;> decide) ?_
                    refine mx_iadd (pc := 436) C dL_law_436  ?_
                    obtain ⟨g72, h⟩ := of_gd h
                    refine mx_scl (pc := 437) C hSc dL_law_437 g72.1 g72.2 ?_
                    refine mx_fload_n (pc := 438) C dL_law_438 rfl ?_
                    refine mx_iload_n (pc := 439) C dL_law_439 rfl ?_
                    refine mx_iconst (pc := 440) C dL_law_440 (z := 3) rfl (by constructor <;> decide) ?_
                    refine mx_iadd (pc := 441) C dL_law_441  ?_
                    obtain ⟨g73, h⟩ := of_gd h
                    refine mx_scl (pc := 442) C hSc dL_law_442 g73.1 g73.2 ?_
                    obtain ⟨q74, hq74, h⟩ := of_bd h
                    refine mc_V (pc := 443) (as := [aI (xv (w32 (x3 + 1))), aI (xv (w32 (x3 + 2))), aI (xv (w32 (x3 + 3)))]) (rest := [aI q69.1]) (stk2 := [aI q74.1, aI q69.1]) C ⟨by decide, by decide⟩ (m_X8_row hOq69 hq74) mi_X8_row mv_X8_row ml_L_44 ci_8 rfl so_8 (by omega) rfl (Nat.le_of_ble_eq_true rfl) dL_law_443 rfl (fun hp75 => ?_)
                    have hOq74 : OK q74.2 := hp75
                    refine mx_icmp_eq (pc := 446) (tgt := 1387) C dL_law_446 rfl (fun c76 => ?_) (fun c76 => ?_)
                    · rw [if_pos c76] at h
                      exact b_L_law_1387 hres C hSc hb ih x3 q74.2 hOq74 h
                    · rw [if_neg c76] at h
                      refine mx_iconst (pc := 449) C dL_law_449 (z := 0) rfl (by constructor <;> decide) ?_
                      rw [← Option.some.inj h] at hres
                      exact absurd (show (0 : Int) = 1 from hres) (by decide)
                  · rw [if_neg c65] at h
                    by_cases c77 : and32 (xv x3) 63 = 7
                    · rw [if_pos c77] at h
                      refine mx_tin (pc := 33) (tgt := 451) C 7 dL_law_33 c77 (by decide) (by decide) rfl rfl ?_
                      refine mx_aload_n (pc := 451) C dL_law_451 rfl ?_
                      refine mx_fload_n (pc := 452) C dL_law_452 rfl ?_
                      refine mx_iload_n (pc := 453) C dL_law_453 rfl ?_
                      refine mx_iconst (pc := 454) C dL_law_454 (z := 1) rfl (by constructor <;> decide) ?_
                      refine mx_iadd (pc := 455) C dL_law_455  ?_
                      obtain ⟨g78, h⟩ := of_gd h
                      refine mx_scl (pc := 456) C hSc dL_law_456 g78.1 g78.2 ?_
                      obtain ⟨q79, hq79, h⟩ := of_bd h
                      refine mc_V (pc := 457) (as := [aI (xv (w32 (x3 + 1)))]) (rest := []) (stk2 := [aI q79.1]) C ⟨by decide, by decide⟩ (m_X7_feed hOM hq79) mi_X7_feed mv_X7_feed ml_L_45 ci_7 rfl so_7 (by omega) rfl (Nat.le_of_ble_eq_true rfl) dL_law_457 rfl (fun hp80 => ?_)
                      have hOq79 : OK q79.2 := hp80
                      refine mx_aload_n (pc := 460) C dL_law_460 rfl ?_
                      refine mx_fload_n (pc := 461) C dL_law_461 rfl ?_
                      refine mx_iload_n (pc := 462) C dL_law_462 rfl ?_
                      refine mx_iconst (pc := 463) C dL_law_463 (z := 1) rfl (by constructor <;> decide) ?_
                      refine mx_iadd (pc := 464) C dL_law_464  ?_
                      obtain ⟨g81, h⟩ := of_gd h
                      refine mx_scl (pc := 465) C hSc dL_law_465 g81.1 g81.2 ?_
                      obtain ⟨q82, hq82, h⟩ := of_bd h
                      refine mc_V (pc := 466) (as := [aI (xv (w32 (x3 + 1)))]) (rest := [aI q79.1]) (stk2 := [aI q82.1, aI q79.1]) C ⟨by decide, by decide⟩ (m_X8_feed hOq79 hq82) mi_X8_feed mv_X8_feed ml_L_48 ci_8 rfl so_8 (by omega) rfl (Nat.le_of_ble_eq_true rfl) dL_law_466 rfl (fun hp83 => ?_)
                      have hOq82 : OK q82.2 := hp83
                      refine mx_icmp_eq (pc := 469) (tgt := 1387) C dL_law_469 rfl (fun c84 => ?_) (fun c84 => ?_)
                      · rw [if_pos c84] at h
                        exact b_L_law_1387 hres C hSc hb ih x3 q82.2 hOq82 h
                      · rw [if_neg c84] at h
                        refine mx_iconst (pc := 472) C dL_law_472 (z := 0) rfl (by constructor <;> decide) ?_
                        rw [← Option.some.inj h] at hres
                        exact absurd (show (0 : Int) = 1 from hres) (by decide)
                    · rw [if_neg c77] at h
                      by_cases c85 : and32 (xv x3) 63 = 8
                      · rw [if_pos c85] at h
                        refine mx_tin (pc := 33) (tgt := 474) C 8 dL_law_33 c85 (by decide) (by decide) rfl rfl ?_
                        refine mx_aload_n (pc := 474) C dL_law_474 rfl ?_
                        obtain ⟨q86, hq86, h⟩ := of_bd h
                        refine mc_V (pc := 475) (as := []) (rest := []) (stk2 := [aI q86.1]) C ⟨by decide, by decide⟩ (m_X7_street hOM hq86) mi_X7_street mv_X7_street ml_L_49 ci_7 rfl so_7 (by omega) rfl (Nat.le_of_ble_eq_true rfl) dL_law_475 rfl (fun hp87 => ?_)
                        have hOq86 : OK q86.2 := hp87
                        refine mx_aload_n (pc := 478) C dL_law_478 rfl ?_
                        obtain ⟨q88, hq88, h⟩ := of_bd h
                        refine mc_V (pc := 479) (as := []) (rest := [aI q86.1]) (stk2 := [aI q88.1, aI q86.1]) C ⟨by decide, by decide⟩ (m_X8_street hOq86 hq88) mi_X8_street mv_X8_street ml_L_53 ci_8 rfl so_8 (by omega) rfl (Nat.le_of_ble_eq_true rfl) dL_law_479 rfl (fun hp89 => ?_)
                        have hOq88 : OK q88.2 := hp89
                        refine mx_icmp_eq (pc := 482) (tgt := 1387) C dL_law_482 rfl (fun c90 => ?_) (fun c90 => ?_)
                        · rw [if_pos c90] at h
                          exact b_L_law_1387 hres C hSc hb ih x3 q88.2 hOq88 h
                        · rw [if_neg c90] at h
                          refine mx_iconst (pc := 485) C dL_law_485 (z := 0) rfl (by constructor <;> decide) ?_
                          rw [← Option.some.inj h] at hres
                          exact absurd (show (0 : Int) = 1 from hres) (by decide)
                      · rw [if_neg c85] at h
                        by_cases c91 : and32 (xv x3) 63 = 9
                        · rw [if_pos c91] at h
                          refine mx_tin (pc := 33) (tgt := 487) C 9 dL_law_33 c91 (by decide) (by decide) rfl rfl ?_
                          refine mx_aload_n (pc := 487) C dL_law_487 rfl ?_
                          refine mx_fload_n (pc := 488) C dL_law_488 rfl ?_
                          refine mx_iload_n (pc := 489) C dL_law_489 rfl ?_
                          refine mx_iconst (pc := 490) C dL_law_490 (z := 1) rfl (by constructor <;> decide) ?_
                          refine mx_iadd (pc := 491) C dL_law_491  ?_
                          obtain ⟨g92, h⟩ := of_gd h
                          refine mx_scl (pc := 492) C hSc dL_law_492 g92.1 g92.2 ?_
                          obtain ⟨q93, hq93, h⟩ := of_bd h
                          refine mc_V (pc := 493) (as := [aI (xv (w32 (x3 + 1)))]) (rest := []) (stk2 := [aI q93.1]) C ⟨by decide, by decide⟩ (m_X7_told hOM hq93) mi_X7_told mv_X7_told ml_L_54 ci_7 rfl so_7 (by omega) rfl (Nat.le_of_ble_eq_true rfl) dL_law_493 rfl (fun hp94 => ?_)
                          have hOq93 : OK q93.2 := hp94
                          refine mx_aload_n (pc := 496) C dL_law_496 rfl ?_
                          refine mx_fload_n (pc := 497) C dL_law_497 rfl ?_
                          refine mx_iload_n (pc := 498) C dL_law_498 rfl ?_
                          refine mx_iconst (pc := 499) C dL_law_499 (z := 1) rfl (by constructor <;> decide) ?_
                          refine mx_iadd (pc := 500) C dL_law_500  ?_
                          obtain ⟨g95, h⟩ := of_gd h
                          refine mx_scl (pc := 501) C hSc dL_law_501 g95.1 g95.2 ?_
                          obtain ⟨q96, hq96, h⟩ := of_bd h
                          refine mc_V (pc := 502) (as := [aI (xv (w32 (x3 + 1)))]) (rest := [aI q93.1]) (stk2 := [aI q96.1, aI q93.1]) C ⟨by decide, by decide⟩ (m_X8_told hOq93 hq96) mi_X8_told mv_X8_told ml_L_57 ci_8 rfl so_8 (by omega) rfl (Nat.le_of_ble_eq_true rfl) dL_law_502 rfl (fun hp97 => ?_)
                          have hOq96 : OK q96.2 := hp97
                          refine mx_icmp_eq (pc := 505) (tgt := 1387) C dL_law_505 rfl (fun c98 => ?_) (fun c98 => ?_)
                          · rw [if_pos c98] at h
                            exact b_L_law_1387 hres C hSc hb ih x3 q96.2 hOq96 h
                          · rw [if_neg c98] at h
                            refine mx_iconst (pc := 508) C dL_law_508 (z := 0) rfl (by constructor <;> decide) ?_
                            rw [← Option.some.inj h] at hres
                            exact absurd (show (0 : Int) = 1 from hres) (by decide)
                        · rw [if_neg c91] at h
                          by_cases c99 : and32 (xv x3) 63 = 10
                          · rw [if_pos c99] at h
                            refine mx_tin (pc := 33) (tgt := 510) C 10 dL_law_33 c99 (by decide) (by decide) rfl rfl ?_
                            refine mx_aload_n (pc := 510) C dL_law_510 rfl ?_
                            refine mx_fload_n (pc := 511) C dL_law_511 rfl ?_
                            refine mx_iload_n (pc := 512) C dL_law_512 rfl ?_
                            refine mx_iconst (pc := 513) C dL_law_513 (z := 1) rfl (by constructor <;> decide) ?_
                            refine mx_iadd (pc := 514) C dL_law_514  ?_
                            obtain ⟨g100, h⟩ := of_gd h
                            refine mx_scl (pc := 515) C hSc dL_law_515 g100.1 g100.2 ?_
                            obtain ⟨q101, hq101, h⟩ := of_bd h
                            refine mc_V (pc := 516) (as := [aI (xv (w32 (x3 + 1)))]) (rest := []) (stk2 := [aI q101.1]) C ⟨by decide, by decide⟩ (m_X7_years hOM hq101) mi_X7_years mv_X7_years ml_L_58 ci_7 rfl so_7 (by omega) rfl (Nat.le_of_ble_eq_true rfl) dL_law_516 rfl (fun hp102 => ?_)
                            have hOq101 : OK q101.2 := hp102
                            refine mx_aload_n (pc := 519) C dL_law_519 rfl ?_
                            refine mx_fload_n (pc := 520) C dL_law_520 rfl ?_
                            refine mx_iload_n (pc := 521) C dL_law_521 rfl ?_
                            refine mx_iconst (pc := 522) C dL_law_522 (z := 1) rfl (by constructor <;> decide) ?_
                            refine mx_iadd (pc := 523) C dL_law_523  ?_
                            obtain ⟨g103, h⟩ := of_gd h
                            refine mx_scl (pc := 524) C hSc dL_law_524 g103.1 g103.2 ?_
                            obtain ⟨q104, hq104, h⟩ := of_bd h
                            refine mc_V (pc := 525) (as := [aI (xv (w32 (x3 + 1)))]) (rest := [aI q101.1]) (stk2 := [aI q104.1, aI q101.1]) C ⟨by decide, by decide⟩ (m_X8_years hOq101 hq104) mi_X8_years mv_X8_years ml_L_61 ci_8 rfl so_8 (by omega) rfl (Nat.le_of_ble_eq_true rfl) dL_law_525 rfl (fun hp105 => ?_)
                            have hOq104 : OK q104.2 := hp105
                            refine mx_icmp_eq (pc := 528) (tgt := 1387) C dL_law_528 rfl (fun c106 => ?_) (fun c106 => ?_)
                            · rw [if_pos c106] at h
                              exact b_L_law_1387 hres C hSc hb ih x3 q104.2 hOq104 h
                            · rw [if_neg c106] at h
                              refine mx_iconst (pc := 531) C dL_law_531 (z := 0) rfl (by constructor <;> decide) ?_
                              rw [← Option.some.inj h] at hres
                              exact absurd (show (0 : Int) = 1 from hres) (by decide)
                          · rw [if_neg c99] at h
                            by_cases c107 : and32 (xv x3) 63 = 11
                            · rw [if_pos c107] at h
                              refine mx_tin (pc := 33) (tgt := 533) C 11 dL_law_33 c107 (by decide) (by decide) rfl rfl ?_
                              refine mx_aload_n (pc := 533) C dL_law_533 rfl ?_
                              refine mx_fload_n (pc := 534) C dL_law_534 rfl ?_
                              refine mx_iload_n (pc := 535) C dL_law_535 rfl ?_
                              refine mx_iconst (pc := 536) C dL_law_536 (z := 1) rfl (by constructor <;> decide) ?_
                              refine mx_iadd (pc := 537) C dL_law_537  ?_
                              obtain ⟨g108, h⟩ := of_gd h
                              refine mx_scl (pc := 538) C hSc dL_law_538 g108.1 g108.2 ?_
                              refine mx_fload_n (pc := 539) C dL_law_539 rfl ?_
                              refine mx_iload_n (pc := 540) C dL_law_540 rfl ?_
                              refine mx_iconst (pc := 541) C dL_law_541 (z := 2) rfl (by constructor <;> decide) ?_
                              refine mx_iadd (pc := 542) C dL_law_542  ?_
                              obtain ⟨g109, h⟩ := of_gd h
                              refine mx_scl (pc := 543) C hSc dL_law_543 g109.1 g109.2 ?_
                              obtain ⟨q110, hq110, h⟩ := of_bd h
                              refine mc_V (pc := 544) (as := [aI (xv (w32 (x3 + 1))), aI (xv (w32 (x3 + 2)))]) (rest := []) (stk2 := [aI q110.1]) C ⟨by decide, by decide⟩ (m_X7_on hOM hq110) mi_X7_on mv_X7_on ml_L_62 ci_7 rfl so_7 (by omega) rfl (Nat.le_of_ble_eq_true rfl) dL_law_544 rfl (fun hp111 => ?_)
                              have hOq110 : OK q110.2 := hp111
                              refine mx_aload_n (pc := 547) C dL_law_547 rfl ?_
                              refine mx_fload_n (pc := 548) C dL_law_548 rfl ?_
                              refine mx_iload_n (pc := 549) C dL_law_549 rfl ?_
                              refine mx_iconst (pc := 550) C dL_law_550 (z := 1) rfl (by constructor <;> decide) ?_
                              refine mx_iadd (pc := 551) C dL_law_551  ?_
                              obtain ⟨g112, h⟩ := of_gd h
                              refine mx_scl (pc := 552) C hSc dL_law_552 g112.1 g112.2 ?_
                              refine mx_fload_n (pc := 553) C dL_law_553 rfl ?_
                              refine mx_iload_n (pc := 554) C dL_law_554 rfl ?_
                              refine mx_iconst (pc := 555) C dL_law_555 (z := 2) rfl (by constructor <;> decide) ?_
                              refine mx_iadd (pc := 556) C dL_law_556  ?_
                              obtain ⟨g113, h⟩ := of_gd h
                              refine mx_scl (pc := 557) C hSc dL_law_557 g113.1 g113.2 ?_
                              obtain ⟨q114, hq114, h⟩ := of_bd h
                              refine mc_V (pc := 558) (as := [aI (xv (w32 (x3 + 1))), aI (xv (w32 (x3 + 2)))]) (rest := [aI q110.1]) (stk2 := [aI q114.1, aI q110.1]) C ⟨by decide, by decide⟩ (m_X8_on hOq110 hq114) mi_X8_on mv_X8_on ml_L_65 ci_8 rfl so_8 (by omega) rfl (Nat.le_of_ble_eq_true rfl) dL_law_558 rfl (fun hp115 => ?_)
                              have hOq114 : OK q114.2 := hp115
                              refine mx_icmp_eq (pc := 561) (tgt := 1387) C dL_law_561 rfl (fun c116 => ?_) (fun c116 => ?_)
                              · rw [if_pos c116] at h
                                exact b_L_law_1387 hres C hSc hb ih x3 q114.2 hOq114 h
                              · rw [if_neg c116] at h
                                refine mx_iconst (pc := 564) C dL_law_564 (z := 0) rfl (by constructor <;> decide) ?_
                                rw [← Option.some.inj h] at hres
                                exact absurd (show (0 : Int) = 1 from hres) (by decide)
                            · rw [if_neg c107] at h
                              by_cases c117 : and32 (xv x3) 63 = 12
                              · rw [if_pos c117] at h
                                refine mx_tin (pc := 33) (tgt := 566) C 12 dL_law_33 c117 (by decide) (by decide) rfl rfl ?_
                                refine mx_aload_n (pc := 566) C dL_law_566 rfl ?_
                                refine mx_fload_n (pc := 567) C dL_law_567 rfl ?_
                                refine mx_iload_n (pc := 568) C dL_law_568 rfl ?_
                                refine mx_iconst (pc := 569) C dL_law_569 (z := 1) rfl (by constructor <;> decide) ?_
                                refine mx_iadd (pc := 570) C dL_law_570  ?_
                                obtain ⟨g118, h⟩ := of_gd h
                                refine mx_scl (pc := 571) C hSc dL_law_571 g118.1 g118.2 ?_
                                refine mx_fload_n (pc := 572) C dL_law_572 rfl ?_
                                refine mx_iload_n (pc := 573) C dL_law_573 rfl ?_
                                refine mx_iconst (pc := 574) C dL_law_574 (z := 2) rfl (by constructor <;> decide) ?_
                                refine mx_iadd (pc := 575) C dL_law_575  ?_
                                obtain ⟨g119, h⟩ := of_gd h
                                refine mx_scl (pc := 576) C hSc dL_law_576 g119.1 g119.2 ?_
                                obtain ⟨q120, hq120, h⟩ := of_bd h
                                refine mc_V (pc := 577) (as := [aI (xv (w32 (x3 + 1))), aI (xv (w32 (x3 + 2)))]) (rest := []) (stk2 := [aI q120.1]) C ⟨by decide, by decide⟩ (m_X7_when hOM hq120) mi_X7_when mv_X7_when ml_L_66 ci_7 rfl so_7 (by omega) rfl (Nat.le_of_ble_eq_true rfl) dL_law_577 rfl (fun hp121 => ?_)
                                have hOq120 : OK q120.2 := hp121
                                refine mx_aload_n (pc := 580) C dL_law_580 rfl ?_
                                refine mx_fload_n (pc := 581) C dL_law_581 rfl ?_
                                refine mx_iload_n (pc := 582) C dL_law_582 rfl ?_
                                refine mx_iconst (pc := 583) C dL_law_583 (z := 1) rfl (by constructor <;> decide) ?_
                                refine mx_iadd (pc := 584) C dL_law_584  ?_
                                obtain ⟨g122, h⟩ := of_gd h
                                refine mx_scl (pc := 585) C hSc dL_law_585 g122.1 g122.2 ?_
                                refine mx_fload_n (pc := 586) C dL_law_586 rfl ?_
                                refine mx_iload_n (pc := 587) C dL_law_587 rfl ?_
                                refine mx_iconst (pc := 588) C dL_law_588 (z := 2) rfl (by constructor <;> decide) ?_
                                refine mx_iadd (pc := 589) C dL_law_589  ?_
                                obtain ⟨g123, h⟩ := of_gd h
                                refine mx_scl (pc := 590) C hSc dL_law_590 g123.1 g123.2 ?_
                                obtain ⟨q124, hq124, h⟩ := of_bd h
                                refine mc_V (pc := 591) (as := [aI (xv (w32 (x3 + 1))), aI (xv (w32 (x3 + 2)))]) (rest := [aI q120.1]) (stk2 := [aI q124.1, aI q120.1]) C ⟨by decide, by decide⟩ (m_X8_when hOq120 hq124) mi_X8_when mv_X8_when ml_L_69 ci_8 rfl so_8 (by omega) rfl (Nat.le_of_ble_eq_true rfl) dL_law_591 rfl (fun hp125 => ?_)
                                have hOq124 : OK q124.2 := hp125
                                refine mx_icmp_eq (pc := 594) (tgt := 1387) C dL_law_594 rfl (fun c126 => ?_) (fun c126 => ?_)
                                · rw [if_pos c126] at h
                                  exact b_L_law_1387 hres C hSc hb ih x3 q124.2 hOq124 h
                                · rw [if_neg c126] at h
                                  refine mx_iconst (pc := 597) C dL_law_597 (z := 0) rfl (by constructor <;> decide) ?_
                                  rw [← Option.some.inj h] at hres
                                  exact absurd (show (0 : Int) = 1 from hres) (by decide)
                              · rw [if_neg c117] at h
                                by_cases c127 : and32 (xv x3) 63 = 13
                                · rw [if_pos c127] at h
                                  refine mx_tin (pc := 33) (tgt := 599) C 13 dL_law_33 c127 (by decide) (by decide) rfl rfl ?_
                                  refine mx_aload_n (pc := 599) C dL_law_599 rfl ?_
                                  refine mx_fload_n (pc := 600) C dL_law_600 rfl ?_
                                  refine mx_iload_n (pc := 601) C dL_law_601 rfl ?_
                                  refine mx_iconst (pc := 602) C dL_law_602 (z := 1) rfl (by constructor <;> decide) ?_
                                  refine mx_iadd (pc := 603) C dL_law_603  ?_
                                  obtain ⟨g128, h⟩ := of_gd h
                                  refine mx_scl (pc := 604) C hSc dL_law_604 g128.1 g128.2 ?_
                                  obtain ⟨q129, hq129, h⟩ := of_bd h
                                  refine mc_V (pc := 605) (as := [aI (xv (w32 (x3 + 1)))]) (rest := []) (stk2 := [aI q129.1]) C ⟨by decide, by decide⟩ (m_X7_home hOM hq129) mi_X7_home mv_X7_home ml_L_70 ci_7 rfl so_7 (by omega) rfl (Nat.le_of_ble_eq_true rfl) dL_law_605 rfl (fun hp130 => ?_)
                                  have hOq129 : OK q129.2 := hp130
                                  refine mx_aload_n (pc := 608) C dL_law_608 rfl ?_
                                  refine mx_fload_n (pc := 609) C dL_law_609 rfl ?_
                                  refine mx_iload_n (pc := 610) C dL_law_610 rfl ?_
                                  refine mx_iconst (pc := 611) C dL_law_611 (z := 1) rfl (by constructor <;> decide) ?_
                                  refine mx_iadd (pc := 612) C dL_law_612  ?_
                                  obtain ⟨g131, h⟩ := of_gd h
                                  refine mx_scl (pc := 613) C hSc dL_law_613 g131.1 g131.2 ?_
                                  obtain ⟨q132, hq132, h⟩ := of_bd h
                                  refine mc_V (pc := 614) (as := [aI (xv (w32 (x3 + 1)))]) (rest := [aI q129.1]) (stk2 := [aI q132.1, aI q129.1]) C ⟨by decide, by decide⟩ (m_X8_home hOq129 hq132) mi_X8_home mv_X8_home ml_L_73 ci_8 rfl so_8 (by omega) rfl (Nat.le_of_ble_eq_true rfl) dL_law_614 rfl (fun hp133 => ?_)
                                  have hOq132 : OK q132.2 := hp133
                                  refine mx_icmp_eq (pc := 617) (tgt := 1387) C dL_law_617 rfl (fun c134 => ?_) (fun c134 => ?_)
                                  · rw [if_pos c134] at h
                                    exact b_L_law_1387 hres C hSc hb ih x3 q132.2 hOq132 h
                                  · rw [if_neg c134] at h
                                    refine mx_iconst (pc := 620) C dL_law_620 (z := 0) rfl (by constructor <;> decide) ?_
                                    rw [← Option.some.inj h] at hres
                                    exact absurd (show (0 : Int) = 1 from hres) (by decide)
                                · rw [if_neg c127] at h
                                  by_cases c135 : and32 (xv x3) 63 = 14
                                  · rw [if_pos c135] at h
                                    refine mx_tin (pc := 33) (tgt := 622) C 14 dL_law_33 c135 (by decide) (by decide) rfl rfl ?_
                                    refine mx_aload_n (pc := 622) C dL_law_622 rfl ?_
                                    refine mx_fload_n (pc := 623) C dL_law_623 rfl ?_
                                    refine mx_iload_n (pc := 624) C dL_law_624 rfl ?_
                                    refine mx_iconst (pc := 625) C dL_law_625 (z := 1) rfl (by constructor <;> decide) ?_
                                    refine mx_iadd (pc := 626) C dL_law_626  ?_
                                    obtain ⟨g136, h⟩ := of_gd h
                                    refine mx_scl (pc := 627) C hSc dL_law_627 g136.1 g136.2 ?_
                                    obtain ⟨q137, hq137, h⟩ := of_bd h
                                    refine mc_V (pc := 628) (as := [aI (xv (w32 (x3 + 1)))]) (rest := []) (stk2 := [aI q137.1]) C ⟨by decide, by decide⟩ (m_X7_shared hOM hq137) mi_X7_shared mv_X7_shared ml_L_74 ci_7 rfl so_7 (by omega) rfl (Nat.le_of_ble_eq_true rfl) dL_law_628 rfl (fun hp138 => ?_)
                                    have hOq137 : OK q137.2 := hp138
                                    refine mx_aload_n (pc := 631) C dL_law_631 rfl ?_
                                    refine mx_fload_n (pc := 632) C dL_law_632 rfl ?_
                                    refine mx_iload_n (pc := 633) C dL_law_633 rfl ?_
                                    refine mx_iconst (pc := 634) C dL_law_634 (z := 1) rfl (by constructor <;> decide) ?_
                                    refine mx_iadd (pc := 635) C dL_law_635  ?_
                                    obtain ⟨g139, h⟩ := of_gd h
                                    refine mx_scl (pc := 636) C hSc dL_law_636 g139.1 g139.2 ?_
                                    obtain ⟨q140, hq140, h⟩ := of_bd h
                                    refine mc_V (pc := 637) (as := [aI (xv (w32 (x3 + 1)))]) (rest := [aI q137.1]) (stk2 := [aI q140.1, aI q137.1]) C ⟨by decide, by decide⟩ (m_X8_shared hOq137 hq140) mi_X8_shared mv_X8_shared ml_L_77 ci_8 rfl so_8 (by omega) rfl (Nat.le_of_ble_eq_true rfl) dL_law_637 rfl (fun hp141 => ?_)
                                    have hOq140 : OK q140.2 := hp141
                                    refine mx_icmp_eq (pc := 640) (tgt := 1387) C dL_law_640 rfl (fun c142 => ?_) (fun c142 => ?_)
                                    · rw [if_pos c142] at h
                                      exact b_L_law_1387 hres C hSc hb ih x3 q140.2 hOq140 h
                                    · rw [if_neg c142] at h
                                      refine mx_iconst (pc := 643) C dL_law_643 (z := 0) rfl (by constructor <;> decide) ?_
                                      rw [← Option.some.inj h] at hres
                                      exact absurd (show (0 : Int) = 1 from hres) (by decide)
                                  · rw [if_neg c135] at h
                                    by_cases c143 : and32 (xv x3) 63 = 15
                                    · rw [if_pos c143] at h
                                      refine mx_tin (pc := 33) (tgt := 645) C 15 dL_law_33 c143 (by decide) (by decide) rfl rfl ?_
                                      refine mx_aload_n (pc := 645) C dL_law_645 rfl ?_
                                      refine mx_fload_n (pc := 646) C dL_law_646 rfl ?_
                                      refine mx_iload_n (pc := 647) C dL_law_647 rfl ?_
                                      refine mx_iconst (pc := 648) C dL_law_648 (z := 1) rfl (by constructor <;> decide) ?_
                                      refine mx_iadd (pc := 649) C dL_law_649  ?_
                                      obtain ⟨g144, h⟩ := of_gd h
                                      refine mx_scl (pc := 650) C hSc dL_law_650 g144.1 g144.2 ?_
                                      obtain ⟨q145, hq145, h⟩ := of_bd h
                                      refine mc_V (pc := 651) (as := [aI (xv (w32 (x3 + 1)))]) (rest := []) (stk2 := [aI q145.1]) C ⟨by decide, by decide⟩ (m_X7_best hOM hq145) mi_X7_best mv_X7_best ml_L_78 ci_7 rfl so_7 (by omega) rfl (Nat.le_of_ble_eq_true rfl) dL_law_651 rfl (fun hp146 => ?_)
                                      have hOq145 : OK q145.2 := hp146
                                      refine mx_aload_n (pc := 654) C dL_law_654 rfl ?_
                                      refine mx_fload_n (pc := 655) C dL_law_655 rfl ?_
                                      refine mx_iload_n (pc := 656) C dL_law_656 rfl ?_
                                      refine mx_iconst (pc := 657) C dL_law_657 (z := 1) rfl (by constructor <;> decide) ?_
                                      refine mx_iadd (pc := 658) C dL_law_658  ?_
                                      obtain ⟨g147, h⟩ := of_gd h
                                      refine mx_scl (pc := 659) C hSc dL_law_659 g147.1 g147.2 ?_
                                      obtain ⟨q148, hq148, h⟩ := of_bd h
                                      refine mc_V (pc := 660) (as := [aI (xv (w32 (x3 + 1)))]) (rest := [aI q145.1]) (stk2 := [aI q148.1, aI q145.1]) C ⟨by decide, by decide⟩ (m_X8_best hOq145 hq148) mi_X8_best mv_X8_best ml_L_81 ci_8 rfl so_8 (by omega) rfl (Nat.le_of_ble_eq_true rfl) dL_law_660 rfl (fun hp149 => ?_)
                                      have hOq148 : OK q148.2 := hp149
                                      refine mx_icmp_eq (pc := 663) (tgt := 1387) C dL_law_663 rfl (fun c150 => ?_) (fun c150 => ?_)
                                      · rw [if_pos c150] at h
                                        exact b_L_law_1387 hres C hSc hb ih x3 q148.2 hOq148 h
                                      · rw [if_neg c150] at h
                                        refine mx_iconst (pc := 666) C dL_law_666 (z := 0) rfl (by constructor <;> decide) ?_
                                        rw [← Option.some.inj h] at hres
                                        exact absurd (show (0 : Int) = 1 from hres) (by decide)
                                    · rw [if_neg c143] at h
                                      by_cases c151 : and32 (xv x3) 63 = 16
                                      · rw [if_pos c151] at h
                                        refine mx_tin (pc := 33) (tgt := 668) C 16 dL_law_33 c151 (by decide) (by decide) rfl rfl ?_
                                        refine mx_aload_n (pc := 668) C dL_law_668 rfl ?_
                                        refine mx_fload_n (pc := 669) C dL_law_669 rfl ?_
                                        refine mx_iload_n (pc := 670) C dL_law_670 rfl ?_
                                        refine mx_iconst (pc := 671) C dL_law_671 (z := 1) rfl (by constructor <;> decide) ?_
                                        refine mx_iadd (pc := 672) C dL_law_672  ?_
                                        obtain ⟨g152, h⟩ := of_gd h
                                        refine mx_scl (pc := 673) C hSc dL_law_673 g152.1 g152.2 ?_
                                        obtain ⟨q153, hq153, h⟩ := of_bd h
                                        refine mc_V (pc := 674) (as := [aI (xv (w32 (x3 + 1)))]) (rest := []) (stk2 := [aI q153.1]) C ⟨by decide, by decide⟩ (m_X7_fewest hOM hq153) mi_X7_fewest mv_X7_fewest ml_L_82 ci_7 rfl so_7 (by omega) rfl (Nat.le_of_ble_eq_true rfl) dL_law_674 rfl (fun hp154 => ?_)
                                        have hOq153 : OK q153.2 := hp154
                                        refine mx_aload_n (pc := 677) C dL_law_677 rfl ?_
                                        refine mx_fload_n (pc := 678) C dL_law_678 rfl ?_
                                        refine mx_iload_n (pc := 679) C dL_law_679 rfl ?_
                                        refine mx_iconst (pc := 680) C dL_law_680 (z := 1) rfl (by constructor <;> decide) ?_
                                        refine mx_iadd (pc := 681) C dL_law_681  ?_
                                        obtain ⟨g155, h⟩ := of_gd h
                                        refine mx_scl (pc := 682) C hSc dL_law_682 g155.1 g155.2 ?_
                                        obtain ⟨q156, hq156, h⟩ := of_bd h
                                        refine mc_V (pc := 683) (as := [aI (xv (w32 (x3 + 1)))]) (rest := [aI q153.1]) (stk2 := [aI q156.1, aI q153.1]) C ⟨by decide, by decide⟩ (m_X8_fewest hOq153 hq156) mi_X8_fewest mv_X8_fewest ml_L_85 ci_8 rfl so_8 (by omega) rfl (Nat.le_of_ble_eq_true rfl) dL_law_683 rfl (fun hp157 => ?_)
                                        have hOq156 : OK q156.2 := hp157
                                        refine mx_icmp_eq (pc := 686) (tgt := 1387) C dL_law_686 rfl (fun c158 => ?_) (fun c158 => ?_)
                                        · rw [if_pos c158] at h
                                          exact b_L_law_1387 hres C hSc hb ih x3 q156.2 hOq156 h
                                        · rw [if_neg c158] at h
                                          refine mx_iconst (pc := 689) C dL_law_689 (z := 0) rfl (by constructor <;> decide) ?_
                                          rw [← Option.some.inj h] at hres
                                          exact absurd (show (0 : Int) = 1 from hres) (by decide)
                                      · rw [if_neg c151] at h
                                        by_cases c159 : and32 (xv x3) 63 = 17
                                        · rw [if_pos c159] at h
                                          refine mx_tin (pc := 33) (tgt := 691) C 17 dL_law_33 c159 (by decide) (by decide) rfl rfl ?_
                                          refine mx_aload_n (pc := 691) C dL_law_691 rfl ?_
                                          refine mx_fload_n (pc := 692) C dL_law_692 rfl ?_
                                          refine mx_iload_n (pc := 693) C dL_law_693 rfl ?_
                                          refine mx_iconst (pc := 694) C dL_law_694 (z := 1) rfl (by constructor <;> decide) ?_
                                          refine mx_iadd (pc := 695) C dL_law_695  ?_
                                          obtain ⟨g160, h⟩ := of_gd h
                                          refine mx_scl (pc := 696) C hSc dL_law_696 g160.1 g160.2 ?_
                                          refine mx_fload_n (pc := 697) C dL_law_697 rfl ?_
                                          refine mx_iload_n (pc := 698) C dL_law_698 rfl ?_
                                          refine mx_iconst (pc := 699) C dL_law_699 (z := 2) rfl (by constructor <;> decide) ?_
                                          refine mx_iadd (pc := 700) C dL_law_700  ?_
                                          obtain ⟨g161, h⟩ := of_gd h
                                          refine mx_scl (pc := 701) C hSc dL_law_701 g161.1 g161.2 ?_
                                          refine mx_fload_n (pc := 702) C dL_law_702 rfl ?_
                                          refine mx_iload_n (pc := 703) C dL_law_703 rfl ?_
                                          refine mx_iconst (pc := 704) C dL_law_704 (z := 3) rfl (by constructor <;> decide) ?_
                                          refine mx_iadd (pc := 705) C dL_law_705  ?_
                                          obtain ⟨g162, h⟩ := of_gd h
                                          refine mx_scl (pc := 706) C hSc dL_law_706 g162.1 g162.2 ?_
                                          obtain ⟨q163, hq163, h⟩ := of_bd h
                                          refine mc_V (pc := 707) (as := [aI (xv (w32 (x3 + 1))), aI (xv (w32 (x3 + 2))), aI (xv (w32 (x3 + 3)))]) (rest := []) (stk2 := [aI q163.1]) C ⟨by decide, by decide⟩ (m_X7_see hOM hq163) mi_X7_see mv_X7_see ml_L_86 ci_7 rfl so_7 (by omega) rfl (Nat.le_of_ble_eq_true rfl) dL_law_707 rfl (fun hp164 => ?_)
                                          have hOq163 : OK q163.2 := hp164
                                          refine mx_aload_n (pc := 710) C dL_law_710 rfl ?_
                                          refine mx_fload_n (pc := 711) C dL_law_711 rfl ?_
                                          refine mx_iload_n (pc := 712) C dL_law_712 rfl ?_
                                          refine mx_iconst (pc := 713) C dL_law_713 (z := 1) rfl (by constructor <;> decide) ?_
                                          refine mx_iadd (pc := 714) C dL_law_714  ?_
                                          obtain ⟨g165, h⟩ := of_gd h
                                          refine mx_scl (pc := 715) C hSc dL_law_715 g165.1 g165.2 ?_
                                          refine mx_fload_n (pc := 716) C dL_law_716 rfl ?_
                                          refine mx_iload_n (pc := 717) C dL_law_717 rfl ?_
                                          refine mx_iconst (pc := 718) C dL_law_718 (z := 2) rfl (by constructor <;> decide) ?_
                                          refine mx_iadd (pc := 719) C dL_law_719  ?_
                                          obtain ⟨g166, h⟩ := of_gd h
                                          refine mx_scl (pc := 720) C hSc dL_law_720 g166.1 g166.2 ?_
                                          refine mx_fload_n (pc := 721) C dL_law_721 rfl ?_
                                          refine mx_iload_n (pc := 722) C dL_law_722 rfl ?_
                                          refine mx_iconst (pc := 723) C dL_law_723 (z := 3) rfl (by constructor <;> decide) ?_
                                          refine mx_iadd (pc := 724) C dL_law_724  ?_
                                          obtain ⟨g167, h⟩ := of_gd h
                                          refine mx_scl (pc := 725) C hSc dL_law_725 g167.1 g167.2 ?_
                                          obtain ⟨q168, hq168, h⟩ := of_bd h
                                          refine mc_V (pc := 726) (as := [aI (xv (w32 (x3 + 1))), aI (xv (w32 (x3 + 2))), aI (xv (w32 (x3 + 3)))]) (rest := [aI q163.1]) (stk2 := [aI q168.1, aI q163.1]) C ⟨by decide, by decide⟩ (m_X8_see hOq163 hq168) mi_X8_see mv_X8_see ml_L_89 ci_8 rfl so_8 (by omega) rfl (Nat.le_of_ble_eq_true rfl) dL_law_726 rfl (fun hp169 => ?_)
                                          have hOq168 : OK q168.2 := hp169
                                          refine mx_icmp_eq (pc := 729) (tgt := 1387) C dL_law_729 rfl (fun c170 => ?_) (fun c170 => ?_)
                                          · rw [if_pos c170] at h
                                            exact b_L_law_1387 hres C hSc hb ih x3 q168.2 hOq168 h
                                          · rw [if_neg c170] at h
                                            refine mx_iconst (pc := 732) C dL_law_732 (z := 0) rfl (by constructor <;> decide) ?_
                                            rw [← Option.some.inj h] at hres
                                            exact absurd (show (0 : Int) = 1 from hres) (by decide)
                                        · rw [if_neg c159] at h
                                          by_cases c171 : and32 (xv x3) 63 = 18
                                          · rw [if_pos c171] at h
                                            refine mx_tin (pc := 33) (tgt := 734) C 18 dL_law_33 c171 (by decide) (by decide) rfl rfl ?_
                                            refine mx_aload_n (pc := 734) C dL_law_734 rfl ?_
                                            refine mx_fload_n (pc := 735) C dL_law_735 rfl ?_
                                            refine mx_iload_n (pc := 736) C dL_law_736 rfl ?_
                                            refine mx_iconst (pc := 737) C dL_law_737 (z := 1) rfl (by constructor <;> decide) ?_
                                            refine mx_iadd (pc := 738) C dL_law_738  ?_
                                            obtain ⟨g172, h⟩ := of_gd h
                                            refine mx_scl (pc := 739) C hSc dL_law_739 g172.1 g172.2 ?_
                                            refine mx_fload_n (pc := 740) C dL_law_740 rfl ?_
                                            refine mx_iload_n (pc := 741) C dL_law_741 rfl ?_
                                            refine mx_iconst (pc := 742) C dL_law_742 (z := 2) rfl (by constructor <;> decide) ?_
                                            refine mx_iadd (pc := 743) C dL_law_743  ?_
                                            obtain ⟨g173, h⟩ := of_gd h
                                            refine mx_scl (pc := 744) C hSc dL_law_744 g173.1 g173.2 ?_
                                            obtain ⟨q174, hq174, h⟩ := of_bd h
                                            refine mc_V (pc := 745) (as := [aI (xv (w32 (x3 + 1))), aI (xv (w32 (x3 + 2)))]) (rest := []) (stk2 := [aI q174.1]) C ⟨by decide, by decide⟩ (m_X7_louds hOM hq174) mi_X7_louds mv_X7_louds ml_L_90 ci_7 rfl so_7 (by omega) rfl (Nat.le_of_ble_eq_true rfl) dL_law_745 rfl (fun hp175 => ?_)
                                            have hOq174 : OK q174.2 := hp175
                                            refine mx_aload_n (pc := 748) C dL_law_748 rfl ?_
                                            refine mx_fload_n (pc := 749) C dL_law_749 rfl ?_
                                            refine mx_iload_n (pc := 750) C dL_law_750 rfl ?_
                                            refine mx_iconst (pc := 751) C dL_law_751 (z := 1) rfl (by constructor <;> decide) ?_
                                            refine mx_iadd (pc := 752) C dL_law_752  ?_
                                            obtain ⟨g176, h⟩ := of_gd h
                                            refine mx_scl (pc := 753) C hSc dL_law_753 g176.1 g176.2 ?_
                                            refine mx_fload_n (pc := 754) C dL_law_754 rfl ?_
                                            refine mx_iload_n (pc := 755) C dL_law_755 rfl ?_
                                            refine mx_iconst (pc := 756) C dL_law_756 (z := 2) rfl (by constructor <;> decide) ?_
                                            refine mx_iadd (pc := 757) C dL_law_757  ?_
                                            obtain ⟨g177, h⟩ := of_gd h
                                            refine mx_scl (pc := 758) C hSc dL_law_758 g177.1 g177.2 ?_
                                            obtain ⟨q178, hq178, h⟩ := of_bd h
                                            refine mc_V (pc := 759) (as := [aI (xv (w32 (x3 + 1))), aI (xv (w32 (x3 + 2)))]) (rest := [aI q174.1]) (stk2 := [aI q178.1, aI q174.1]) C ⟨by decide, by decide⟩ (m_X8_louds hOq174 hq178) mi_X8_louds mv_X8_louds ml_L_93 ci_8 rfl so_8 (by omega) rfl (Nat.le_of_ble_eq_true rfl) dL_law_759 rfl (fun hp179 => ?_)
                                            have hOq178 : OK q178.2 := hp179
                                            refine mx_icmp_eq (pc := 762) (tgt := 1387) C dL_law_762 rfl (fun c180 => ?_) (fun c180 => ?_)
                                            · rw [if_pos c180] at h
                                              exact b_L_law_1387 hres C hSc hb ih x3 q178.2 hOq178 h
                                            · rw [if_neg c180] at h
                                              refine mx_iconst (pc := 765) C dL_law_765 (z := 0) rfl (by constructor <;> decide) ?_
                                              rw [← Option.some.inj h] at hres
                                              exact absurd (show (0 : Int) = 1 from hres) (by decide)
                                          · rw [if_neg c171] at h
                                            by_cases c181 : and32 (xv x3) 63 = 19
                                            · rw [if_pos c181] at h
                                              refine mx_tin (pc := 33) (tgt := 767) C 19 dL_law_33 c181 (by decide) (by decide) rfl rfl ?_
                                              refine mx_aload_n (pc := 767) C dL_law_767 rfl ?_
                                              refine mx_fload_n (pc := 768) C dL_law_768 rfl ?_
                                              refine mx_iload_n (pc := 769) C dL_law_769 rfl ?_
                                              refine mx_iconst (pc := 770) C dL_law_770 (z := 1) rfl (by constructor <;> decide) ?_
                                              refine mx_iadd (pc := 771) C dL_law_771  ?_
                                              obtain ⟨g182, h⟩ := of_gd h
                                              refine mx_scl (pc := 772) C hSc dL_law_772 g182.1 g182.2 ?_
                                              refine mx_fload_n (pc := 773) C dL_law_773 rfl ?_
                                              refine mx_iload_n (pc := 774) C dL_law_774 rfl ?_
                                              refine mx_iconst (pc := 775) C dL_law_775 (z := 2) rfl (by constructor <;> decide) ?_
                                              refine mx_iadd (pc := 776) C dL_law_776  ?_
                                              obtain ⟨g183, h⟩ := of_gd h
                                              refine mx_scl (pc := 777) C hSc dL_law_777 g183.1 g183.2 ?_
                                              obtain ⟨q184, hq184, h⟩ := of_bd h
                                              refine mc_V (pc := 778) (as := [aI (xv (w32 (x3 + 1))), aI (xv (w32 (x3 + 2)))]) (rest := []) (stk2 := [aI q184.1]) C ⟨by decide, by decide⟩ (m_X7_can hOM hq184) mi_X7_can mv_X7_can ml_L_94 ci_7 rfl so_7 (by omega) rfl (Nat.le_of_ble_eq_true rfl) dL_law_778 rfl (fun hp185 => ?_)
                                              have hOq184 : OK q184.2 := hp185
                                              refine mx_aload_n (pc := 781) C dL_law_781 rfl ?_
                                              refine mx_fload_n (pc := 782) C dL_law_782 rfl ?_
                                              refine mx_iload_n (pc := 783) C dL_law_783 rfl ?_
                                              refine mx_iconst (pc := 784) C dL_law_784 (z := 1) rfl (by constructor <;> decide) ?_
                                              refine mx_iadd (pc := 785) C dL_law_785  ?_
                                              obtain ⟨g186, h⟩ := of_gd h
                                              refine mx_scl (pc := 786) C hSc dL_law_786 g186.1 g186.2 ?_
                                              refine mx_fload_n (pc := 787) C dL_law_787 rfl ?_
                                              refine mx_iload_n (pc := 788) C dL_law_788 rfl ?_
                                              refine mx_iconst (pc := 789) C dL_law_789 (z := 2) rfl (by constructor <;> decide) ?_
                                              refine mx_iadd (pc := 790) C dL_law_790  ?_
                                              obtain ⟨g187, h⟩ := of_gd h
                                              refine mx_scl (pc := 791) C hSc dL_law_791 g187.1 g187.2 ?_
                                              obtain ⟨q188, hq188, h⟩ := of_bd h
                                              refine mc_V (pc := 792) (as := [aI (xv (w32 (x3 + 1))), aI (xv (w32 (x3 + 2)))]) (rest := [aI q184.1]) (stk2 := [aI q188.1, aI q184.1]) C ⟨by decide, by decide⟩ (m_X8_can hOq184 hq188) mi_X8_can mv_X8_can ml_L_97 ci_8 rfl so_8 (by omega) rfl (Nat.le_of_ble_eq_true rfl) dL_law_792 rfl (fun hp189 => ?_)
                                              have hOq188 : OK q188.2 := hp189
                                              refine mx_icmp_eq (pc := 795) (tgt := 1387) C dL_law_795 rfl (fun c190 => ?_) (fun c190 => ?_)
                                              · rw [if_pos c190] at h
                                                exact b_L_law_1387 hres C hSc hb ih x3 q188.2 hOq188 h
                                              · rw [if_neg c190] at h
                                                refine mx_iconst (pc := 798) C dL_law_798 (z := 0) rfl (by constructor <;> decide) ?_
                                                rw [← Option.some.inj h] at hres
                                                exact absurd (show (0 : Int) = 1 from hres) (by decide)
                                            · rw [if_neg c181] at h
                                              by_cases c191 : and32 (xv x3) 63 = 20
                                              · rw [if_pos c191] at h
                                                refine mx_tin (pc := 33) (tgt := 800) C 20 dL_law_33 c191 (by decide) (by decide) rfl rfl ?_
                                                refine mx_aload_n (pc := 800) C dL_law_800 rfl ?_
                                                refine mx_fload_n (pc := 801) C dL_law_801 rfl ?_
                                                refine mx_iload_n (pc := 802) C dL_law_802 rfl ?_
                                                refine mx_iconst (pc := 803) C dL_law_803 (z := 1) rfl (by constructor <;> decide) ?_
                                                refine mx_iadd (pc := 804) C dL_law_804  ?_
                                                obtain ⟨g192, h⟩ := of_gd h
                                                refine mx_scl (pc := 805) C hSc dL_law_805 g192.1 g192.2 ?_
                                                obtain ⟨q193, hq193, h⟩ := of_bd h
                                                refine mc_V (pc := 806) (as := [aI (xv (w32 (x3 + 1)))]) (rest := []) (stk2 := [aI q193.1]) C ⟨by decide, by decide⟩ (m_X7_where hOM hq193) mi_X7_where mv_X7_where ml_L_98 ci_7 rfl so_7 (by omega) rfl (Nat.le_of_ble_eq_true rfl) dL_law_806 rfl (fun hp194 => ?_)
                                                have hOq193 : OK q193.2 := hp194
                                                refine mx_aload_n (pc := 809) C dL_law_809 rfl ?_
                                                refine mx_fload_n (pc := 810) C dL_law_810 rfl ?_
                                                refine mx_iload_n (pc := 811) C dL_law_811 rfl ?_
                                                refine mx_iconst (pc := 812) C dL_law_812 (z := 1) rfl (by constructor <;> decide) ?_
                                                refine mx_iadd (pc := 813) C dL_law_813  ?_
                                                obtain ⟨g195, h⟩ := of_gd h
                                                refine mx_scl (pc := 814) C hSc dL_law_814 g195.1 g195.2 ?_
                                                obtain ⟨q196, hq196, h⟩ := of_bd h
                                                refine mc_V (pc := 815) (as := [aI (xv (w32 (x3 + 1)))]) (rest := [aI q193.1]) (stk2 := [aI q196.1, aI q193.1]) C ⟨by decide, by decide⟩ (m_X8_where hOq193 hq196) mi_X8_where mv_X8_where ml_L_101 ci_8 rfl so_8 (by omega) rfl (Nat.le_of_ble_eq_true rfl) dL_law_815 rfl (fun hp197 => ?_)
                                                have hOq196 : OK q196.2 := hp197
                                                refine mx_icmp_eq (pc := 818) (tgt := 1387) C dL_law_818 rfl (fun c198 => ?_) (fun c198 => ?_)
                                                · rw [if_pos c198] at h
                                                  exact b_L_law_1387 hres C hSc hb ih x3 q196.2 hOq196 h
                                                · rw [if_neg c198] at h
                                                  refine mx_iconst (pc := 821) C dL_law_821 (z := 0) rfl (by constructor <;> decide) ?_
                                                  rw [← Option.some.inj h] at hres
                                                  exact absurd (show (0 : Int) = 1 from hres) (by decide)
                                              · rw [if_neg c191] at h
                                                by_cases c199 : and32 (xv x3) 63 = 21
                                                · rw [if_pos c199] at h
                                                  refine mx_tin (pc := 33) (tgt := 823) C 21 dL_law_33 c199 (by decide) (by decide) rfl rfl ?_
                                                  refine mx_aload_n (pc := 823) C dL_law_823 rfl ?_
                                                  refine mx_fload_n (pc := 824) C dL_law_824 rfl ?_
                                                  refine mx_iload_n (pc := 825) C dL_law_825 rfl ?_
                                                  refine mx_iconst (pc := 826) C dL_law_826 (z := 1) rfl (by constructor <;> decide) ?_
                                                  refine mx_iadd (pc := 827) C dL_law_827  ?_
                                                  obtain ⟨g200, h⟩ := of_gd h
                                                  refine mx_scl (pc := 828) C hSc dL_law_828 g200.1 g200.2 ?_
                                                  refine mx_fload_n (pc := 829) C dL_law_829 rfl ?_
                                                  refine mx_iload_n (pc := 830) C dL_law_830 rfl ?_
                                                  refine mx_iconst (pc := 831) C dL_law_831 (z := 2) rfl (by constructor <;> decide) ?_
                                                  refine mx_iadd (pc := 832) C dL_law_832  ?_
                                                  obtain ⟨g201, h⟩ := of_gd h
                                                  refine mx_scl (pc := 833) C hSc dL_law_833 g201.1 g201.2 ?_
                                                  obtain ⟨q202, hq202, h⟩ := of_bd h
                                                  refine mc_V (pc := 834) (as := [aI (xv (w32 (x3 + 1))), aI (xv (w32 (x3 + 2)))]) (rest := []) (stk2 := [aJ q202.1]) C ⟨by decide, by decide⟩ (m_X7_odds hOM hq202) mi_X7_odds mv_X7_odds ml_L_102 ci_7 rfl so_7 (by omega) rfl (Nat.le_of_ble_eq_true rfl) dL_law_834 rfl (fun hp203 => ?_)
                                                  have hOq202 : OK q202.2 := hp203
                                                  refine mx_aload_n (pc := 837) C dL_law_837 rfl ?_
                                                  refine mx_fload_n (pc := 838) C dL_law_838 rfl ?_
                                                  refine mx_iload_n (pc := 839) C dL_law_839 rfl ?_
                                                  refine mx_iconst (pc := 840) C dL_law_840 (z := 1) rfl (by constructor <;> decide) ?_
                                                  refine mx_iadd (pc := 841) C dL_law_841  ?_
                                                  obtain ⟨g204, h⟩ := of_gd h
                                                  refine mx_scl (pc := 842) C hSc dL_law_842 g204.1 g204.2 ?_
                                                  refine mx_fload_n (pc := 843) C dL_law_843 rfl ?_
                                                  refine mx_iload_n (pc := 844) C dL_law_844 rfl ?_
                                                  refine mx_iconst (pc := 845) C dL_law_845 (z := 2) rfl (by constructor <;> decide) ?_
                                                  refine mx_iadd (pc := 846) C dL_law_846  ?_
                                                  obtain ⟨g205, h⟩ := of_gd h
                                                  refine mx_scl (pc := 847) C hSc dL_law_847 g205.1 g205.2 ?_
                                                  obtain ⟨q206, hq206, h⟩ := of_bd h
                                                  refine mc_V (pc := 848) (as := [aI (xv (w32 (x3 + 1))), aI (xv (w32 (x3 + 2)))]) (rest := [aJ q202.1]) (stk2 := [aJ q206.1, aJ q202.1]) C ⟨by decide, by decide⟩ (m_X8_odds hOq202 hq206) mi_X8_odds mv_X8_odds ml_L_106 ci_8 rfl so_8 (by omega) rfl (Nat.le_of_ble_eq_true rfl) dL_law_848 rfl (fun hp207 => ?_)
                                                  have hOq206 : OK q206.2 := hp207
                                                  refine mx_lcmp (pc := 851) C dL_law_851  ?_
                                                  refine mx_if_eq (pc := 852) (tgt := 1387) C dL_law_852 rfl (fun c208 => ?_) (fun c208 => ?_)
                                                  · rw [if_pos c208] at h
                                                    exact b_L_law_1387 hres C hSc hb ih x3 q206.2 hOq206 h
                                                  · rw [if_neg c208] at h
                                                    refine mx_iconst (pc := 855) C dL_law_855 (z := 0) rfl (by constructor <;> decide) ?_
                                                    rw [← Option.some.inj h] at hres
                                                    exact absurd (show (0 : Int) = 1 from hres) (by decide)
                                                · rw [if_neg c199] at h
                                                  by_cases c209 : and32 (xv x3) 63 = 22
                                                  · rw [if_pos c209] at h
                                                    refine mx_tin (pc := 33) (tgt := 857) C 22 dL_law_33 c209 (by decide) (by decide) rfl rfl ?_
                                                    refine mx_aload_n (pc := 857) C dL_law_857 rfl ?_
                                                    refine mx_fload_n (pc := 858) C dL_law_858 rfl ?_
                                                    refine mx_iload_n (pc := 859) C dL_law_859 rfl ?_
                                                    refine mx_iconst (pc := 860) C dL_law_860 (z := 1) rfl (by constructor <;> decide) ?_
                                                    refine mx_iadd (pc := 861) C dL_law_861  ?_
                                                    obtain ⟨g210, h⟩ := of_gd h
                                                    refine mx_scl (pc := 862) C hSc dL_law_862 g210.1 g210.2 ?_
                                                    refine mx_fload_n (pc := 863) C dL_law_863 rfl ?_
                                                    refine mx_iload_n (pc := 864) C dL_law_864 rfl ?_
                                                    refine mx_iconst (pc := 865) C dL_law_865 (z := 2) rfl (by constructor <;> decide) ?_
                                                    refine mx_iadd (pc := 866) C dL_law_866  ?_
                                                    obtain ⟨g211, h⟩ := of_gd h
                                                    refine mx_scl (pc := 867) C hSc dL_law_867 g211.1 g211.2 ?_
                                                    obtain ⟨q212, hq212, h⟩ := of_bd h
                                                    refine mc_V (pc := 868) (as := [aI (xv (w32 (x3 + 1))), aI (xv (w32 (x3 + 2)))]) (rest := []) (stk2 := [aJ q212.1]) C ⟨by decide, by decide⟩ (m_X7_mean hOM hq212) mi_X7_mean mv_X7_mean ml_L_107 ci_7 rfl so_7 (by omega) rfl (Nat.le_of_ble_eq_true rfl) dL_law_868 rfl (fun hp213 => ?_)
                                                    have hOq212 : OK q212.2 := hp213
                                                    refine mx_aload_n (pc := 871) C dL_law_871 rfl ?_
                                                    refine mx_fload_n (pc := 872) C dL_law_872 rfl ?_
                                                    refine mx_iload_n (pc := 873) C dL_law_873 rfl ?_
                                                    refine mx_iconst (pc := 874) C dL_law_874 (z := 1) rfl (by constructor <;> decide) ?_
                                                    refine mx_iadd (pc := 875) C dL_law_875  ?_
                                                    obtain ⟨g214, h⟩ := of_gd h
                                                    refine mx_scl (pc := 876) C hSc dL_law_876 g214.1 g214.2 ?_
                                                    refine mx_fload_n (pc := 877) C dL_law_877 rfl ?_
                                                    refine mx_iload_n (pc := 878) C dL_law_878 rfl ?_
                                                    refine mx_iconst (pc := 879) C dL_law_879 (z := 2) rfl (by constructor <;> decide) ?_
                                                    refine mx_iadd (pc := 880) C dL_law_880  ?_
                                                    obtain ⟨g215, h⟩ := of_gd h
                                                    refine mx_scl (pc := 881) C hSc dL_law_881 g215.1 g215.2 ?_
                                                    obtain ⟨q216, hq216, h⟩ := of_bd h
                                                    refine mc_V (pc := 882) (as := [aI (xv (w32 (x3 + 1))), aI (xv (w32 (x3 + 2)))]) (rest := [aJ q212.1]) (stk2 := [aJ q216.1, aJ q212.1]) C ⟨by decide, by decide⟩ (m_X8_mean hOq212 hq216) mi_X8_mean mv_X8_mean ml_L_110 ci_8 rfl so_8 (by omega) rfl (Nat.le_of_ble_eq_true rfl) dL_law_882 rfl (fun hp217 => ?_)
                                                    have hOq216 : OK q216.2 := hp217
                                                    refine mx_lcmp (pc := 885) C dL_law_885  ?_
                                                    refine mx_if_eq (pc := 886) (tgt := 1387) C dL_law_886 rfl (fun c218 => ?_) (fun c218 => ?_)
                                                    · rw [if_pos c218] at h
                                                      exact b_L_law_1387 hres C hSc hb ih x3 q216.2 hOq216 h
                                                    · rw [if_neg c218] at h
                                                      refine mx_iconst (pc := 889) C dL_law_889 (z := 0) rfl (by constructor <;> decide) ?_
                                                      rw [← Option.some.inj h] at hres
                                                      exact absurd (show (0 : Int) = 1 from hres) (by decide)
                                                  · rw [if_neg c209] at h
                                                    by_cases c219 : and32 (xv x3) 63 = 23
                                                    · rw [if_pos c219] at h
                                                      refine mx_tin (pc := 33) (tgt := 891) C 23 dL_law_33 c219 (by decide) (by decide) rfl rfl ?_
                                                      refine mx_aload_n (pc := 891) C dL_law_891 rfl ?_
                                                      refine mx_fload_n (pc := 892) C dL_law_892 rfl ?_
                                                      refine mx_iload_n (pc := 893) C dL_law_893 rfl ?_
                                                      refine mx_iconst (pc := 894) C dL_law_894 (z := 1) rfl (by constructor <;> decide) ?_
                                                      refine mx_iadd (pc := 895) C dL_law_895  ?_
                                                      obtain ⟨g220, h⟩ := of_gd h
                                                      refine mx_scl (pc := 896) C hSc dL_law_896 g220.1 g220.2 ?_
                                                      refine mx_fload_n (pc := 897) C dL_law_897 rfl ?_
                                                      refine mx_iload_n (pc := 898) C dL_law_898 rfl ?_
                                                      refine mx_iconst (pc := 899) C dL_law_899 (z := 2) rfl (by constructor <;> decide) ?_
                                                      refine mx_iadd (pc := 900) C dL_law_900  ?_
                                                      obtain ⟨g221, h⟩ := of_gd h
                                                      refine mx_scl (pc := 901) C hSc dL_law_901 g221.1 g221.2 ?_
                                                      obtain ⟨q222, hq222, h⟩ := of_bd h
                                                      refine mc_V (pc := 902) (as := [aI (xv (w32 (x3 + 1))), aI (xv (w32 (x3 + 2)))]) (rest := []) (stk2 := [aI q222.1]) C ⟨by decide, by decide⟩ (m_X7_plan hOM hq222) mi_X7_plan mv_X7_plan ml_L_111 ci_7 rfl so_7 (by omega) rfl (Nat.le_of_ble_eq_true rfl) dL_law_902 rfl (fun hp223 => ?_)
                                                      have hOq222 : OK q222.2 := hp223
                                                      refine mx_aload_n (pc := 905) C dL_law_905 rfl ?_
                                                      refine mx_fload_n (pc := 906) C dL_law_906 rfl ?_
                                                      refine mx_iload_n (pc := 907) C dL_law_907 rfl ?_
                                                      refine mx_iconst (pc := 908) C dL_law_908 (z := 1) rfl (by constructor <;> decide) ?_
                                                      refine mx_iadd (pc := 909) C dL_law_909  ?_
                                                      obtain ⟨g224, h⟩ := of_gd h
                                                      refine mx_scl (pc := 910) C hSc dL_law_910 g224.1 g224.2 ?_
                                                      refine mx_fload_n (pc := 911) C dL_law_911 rfl ?_
                                                      refine mx_iload_n (pc := 912) C dL_law_912 rfl ?_
                                                      refine mx_iconst (pc := 913) C dL_law_913 (z := 2) rfl (by constructor <;> decide) ?_
                                                      refine mx_iadd (pc := 914) C dL_law_914  ?_
                                                      obtain ⟨g225, h⟩ := of_gd h
                                                      refine mx_scl (pc := 915) C hSc dL_law_915 g225.1 g225.2 ?_
                                                      obtain ⟨q226, hq226, h⟩ := of_bd h
                                                      refine mc_V (pc := 916) (as := [aI (xv (w32 (x3 + 1))), aI (xv (w32 (x3 + 2)))]) (rest := [aI q222.1]) (stk2 := [aI q226.1, aI q222.1]) C ⟨by decide, by decide⟩ (m_X8_plan hOq222 hq226) mi_X8_plan mv_X8_plan ml_L_114 ci_8 rfl so_8 (by omega) rfl (Nat.le_of_ble_eq_true rfl) dL_law_916 rfl (fun hp227 => ?_)
                                                      have hOq226 : OK q226.2 := hp227
                                                      refine mx_icmp_eq (pc := 919) (tgt := 1387) C dL_law_919 rfl (fun c228 => ?_) (fun c228 => ?_)
                                                      · rw [if_pos c228] at h
                                                        exact b_L_law_1387 hres C hSc hb ih x3 q226.2 hOq226 h
                                                      · rw [if_neg c228] at h
                                                        refine mx_iconst (pc := 922) C dL_law_922 (z := 0) rfl (by constructor <;> decide) ?_
                                                        rw [← Option.some.inj h] at hres
                                                        exact absurd (show (0 : Int) = 1 from hres) (by decide)
                                                    · rw [if_neg c219] at h
                                                      by_cases c229 : and32 (xv x3) 63 = 24
                                                      · rw [if_pos c229] at h
                                                        refine mx_tin (pc := 33) (tgt := 924) C 24 dL_law_33 c229 (by decide) (by decide) rfl rfl ?_
                                                        refine mx_aload_n (pc := 924) C dL_law_924 rfl ?_
                                                        refine mx_fload_n (pc := 925) C dL_law_925 rfl ?_
                                                        refine mx_iload_n (pc := 926) C dL_law_926 rfl ?_
                                                        refine mx_iconst (pc := 927) C dL_law_927 (z := 1) rfl (by constructor <;> decide) ?_
                                                        refine mx_iadd (pc := 928) C dL_law_928  ?_
                                                        obtain ⟨g230, h⟩ := of_gd h
                                                        refine mx_scl (pc := 929) C hSc dL_law_929 g230.1 g230.2 ?_
                                                        obtain ⟨q231, hq231, h⟩ := of_bd h
                                                        refine mc_V (pc := 930) (as := [aI (xv (w32 (x3 + 1)))]) (rest := []) (stk2 := [aI q231.1]) C ⟨by decide, by decide⟩ (m_X7_ends hOM hq231) mi_X7_ends mv_X7_ends ml_L_115 ci_7 rfl so_7 (by omega) rfl (Nat.le_of_ble_eq_true rfl) dL_law_930 rfl (fun hp232 => ?_)
                                                        have hOq231 : OK q231.2 := hp232
                                                        refine mx_aload_n (pc := 933) C dL_law_933 rfl ?_
                                                        refine mx_fload_n (pc := 934) C dL_law_934 rfl ?_
                                                        refine mx_iload_n (pc := 935) C dL_law_935 rfl ?_
                                                        refine mx_iconst (pc := 936) C dL_law_936 (z := 1) rfl (by constructor <;> decide) ?_
                                                        refine mx_iadd (pc := 937) C dL_law_937  ?_
                                                        obtain ⟨g233, h⟩ := of_gd h
                                                        refine mx_scl (pc := 938) C hSc dL_law_938 g233.1 g233.2 ?_
                                                        obtain ⟨q234, hq234, h⟩ := of_bd h
                                                        refine mc_V (pc := 939) (as := [aI (xv (w32 (x3 + 1)))]) (rest := [aI q231.1]) (stk2 := [aI q234.1, aI q231.1]) C ⟨by decide, by decide⟩ (m_X8_ends hOq231 hq234) mi_X8_ends mv_X8_ends ml_L_118 ci_8 rfl so_8 (by omega) rfl (Nat.le_of_ble_eq_true rfl) dL_law_939 rfl (fun hp235 => ?_)
                                                        have hOq234 : OK q234.2 := hp235
                                                        refine mx_icmp_eq (pc := 942) (tgt := 1387) C dL_law_942 rfl (fun c236 => ?_) (fun c236 => ?_)
                                                        · rw [if_pos c236] at h
                                                          exact b_L_law_1387 hres C hSc hb ih x3 q234.2 hOq234 h
                                                        · rw [if_neg c236] at h
                                                          refine mx_iconst (pc := 945) C dL_law_945 (z := 0) rfl (by constructor <;> decide) ?_
                                                          rw [← Option.some.inj h] at hres
                                                          exact absurd (show (0 : Int) = 1 from hres) (by decide)
                                                      · rw [if_neg c229] at h
                                                        by_cases c237 : and32 (xv x3) 63 = 25
                                                        · rw [if_pos c237] at h
                                                          refine mx_tin (pc := 33) (tgt := 947) C 25 dL_law_33 c237 (by decide) (by decide) rfl rfl ?_
                                                          refine mx_aload_n (pc := 947) C dL_law_947 rfl ?_
                                                          refine mx_fload_n (pc := 948) C dL_law_948 rfl ?_
                                                          refine mx_iload_n (pc := 949) C dL_law_949 rfl ?_
                                                          refine mx_iconst (pc := 950) C dL_law_950 (z := 1) rfl (by constructor <;> decide) ?_
                                                          refine mx_iadd (pc := 951) C dL_law_951  ?_
                                                          obtain ⟨g238, h⟩ := of_gd h
                                                          refine mx_scl (pc := 952) C hSc dL_law_952 g238.1 g238.2 ?_
                                                          refine mx_fload_n (pc := 953) C dL_law_953 rfl ?_
                                                          refine mx_iload_n (pc := 954) C dL_law_954 rfl ?_
                                                          refine mx_iconst (pc := 955) C dL_law_955 (z := 2) rfl (by constructor <;> decide) ?_
                                                          refine mx_iadd (pc := 956) C dL_law_956  ?_
                                                          obtain ⟨g239, h⟩ := of_gd h
                                                          refine mx_scl (pc := 957) C hSc dL_law_957 g239.1 g239.2 ?_
                                                          obtain ⟨q240, hq240, h⟩ := of_bd h
                                                          refine mc_V (pc := 958) (as := [aI (xv (w32 (x3 + 1))), aI (xv (w32 (x3 + 2)))]) (rest := []) (stk2 := [aI q240.1]) C ⟨by decide, by decide⟩ (m_X7_book hOM hq240) mi_X7_book mv_X7_book ml_L_119 ci_7 rfl so_7 (by omega) rfl (Nat.le_of_ble_eq_true rfl) dL_law_958 rfl (fun hp241 => ?_)
                                                          have hOq240 : OK q240.2 := hp241
                                                          refine mx_aload_n (pc := 961) C dL_law_961 rfl ?_
                                                          refine mx_fload_n (pc := 962) C dL_law_962 rfl ?_
                                                          refine mx_iload_n (pc := 963) C dL_law_963 rfl ?_
                                                          refine mx_iconst (pc := 964) C dL_law_964 (z := 1) rfl (by constructor <;> decide) ?_
                                                          refine mx_iadd (pc := 965) C dL_law_965  ?_
                                                          obtain ⟨g242, h⟩ := of_gd h
                                                          refine mx_scl (pc := 966) C hSc dL_law_966 g242.1 g242.2 ?_
                                                          refine mx_fload_n (pc := 967) C dL_law_967 rfl ?_
                                                          refine mx_iload_n (pc := 968) C dL_law_968 rfl ?_
                                                          refine mx_iconst (pc := 969) C dL_law_969 (z := 2) rfl (by constructor <;> decide) ?_
                                                          refine mx_iadd (pc := 970) C dL_law_970  ?_
                                                          obtain ⟨g243, h⟩ := of_gd h
                                                          refine mx_scl (pc := 971) C hSc dL_law_971 g243.1 g243.2 ?_
                                                          obtain ⟨q244, hq244, h⟩ := of_bd h
                                                          refine mc_V (pc := 972) (as := [aI (xv (w32 (x3 + 1))), aI (xv (w32 (x3 + 2)))]) (rest := [aI q240.1]) (stk2 := [aI q244.1, aI q240.1]) C ⟨by decide, by decide⟩ (m_X8_book hOq240 hq244) mi_X8_book mv_X8_book ml_L_122 ci_8 rfl so_8 (by omega) rfl (Nat.le_of_ble_eq_true rfl) dL_law_972 rfl (fun hp245 => ?_)
                                                          have hOq244 : OK q244.2 := hp245
                                                          refine mx_icmp_eq (pc := 975) (tgt := 1387) C dL_law_975 rfl (fun c246 => ?_) (fun c246 => ?_)
                                                          · rw [if_pos c246] at h
                                                            exact b_L_law_1387 hres C hSc hb ih x3 q244.2 hOq244 h
                                                          · rw [if_neg c246] at h
                                                            refine mx_iconst (pc := 978) C dL_law_978 (z := 0) rfl (by constructor <;> decide) ?_
                                                            rw [← Option.some.inj h] at hres
                                                            exact absurd (show (0 : Int) = 1 from hres) (by decide)
                                                        · rw [if_neg c237] at h
                                                          by_cases c247 : and32 (xv x3) 63 = 26
                                                          · rw [if_pos c247] at h
                                                            refine mx_tin (pc := 33) (tgt := 980) C 26 dL_law_33 c247 (by decide) (by decide) rfl rfl ?_
                                                            refine mx_aload_n (pc := 980) C dL_law_980 rfl ?_
                                                            obtain ⟨q248, hq248, h⟩ := of_bd h
                                                            refine mc_V (pc := 981) (as := []) (rest := []) (stk2 := [aI q248.1]) C ⟨by decide, by decide⟩ (m_X7_looked hOM hq248) mi_X7_looked mv_X7_looked ml_L_123 ci_7 rfl so_7 (by omega) rfl (Nat.le_of_ble_eq_true rfl) dL_law_981 rfl (fun hp249 => ?_)
                                                            have hOq248 : OK q248.2 := hp249
                                                            refine mx_aload_n (pc := 984) C dL_law_984 rfl ?_
                                                            obtain ⟨q250, hq250, h⟩ := of_bd h
                                                            refine mc_V (pc := 985) (as := []) (rest := [aI q248.1]) (stk2 := [aI q250.1, aI q248.1]) C ⟨by decide, by decide⟩ (m_X8_looked hOq248 hq250) mi_X8_looked mv_X8_looked ml_L_126 ci_8 rfl so_8 (by omega) rfl (Nat.le_of_ble_eq_true rfl) dL_law_985 rfl (fun hp251 => ?_)
                                                            have hOq250 : OK q250.2 := hp251
                                                            refine mx_icmp_eq (pc := 988) (tgt := 1387) C dL_law_988 rfl (fun c252 => ?_) (fun c252 => ?_)
                                                            · rw [if_pos c252] at h
                                                              exact b_L_law_1387 hres C hSc hb ih x3 q250.2 hOq250 h
                                                            · rw [if_neg c252] at h
                                                              refine mx_iconst (pc := 991) C dL_law_991 (z := 0) rfl (by constructor <;> decide) ?_
                                                              rw [← Option.some.inj h] at hres
                                                              exact absurd (show (0 : Int) = 1 from hres) (by decide)
                                                          · rw [if_neg c247] at h
                                                            by_cases c253 : and32 (xv x3) 63 = 27
                                                            · rw [if_pos c253] at h
                                                              refine mx_tin (pc := 33) (tgt := 993) C 27 dL_law_33 c253 (by decide) (by decide) rfl rfl ?_
                                                              refine mx_aload_n (pc := 993) C dL_law_993 rfl ?_
                                                              refine mx_fload_n (pc := 994) C dL_law_994 rfl ?_
                                                              refine mx_iload_n (pc := 995) C dL_law_995 rfl ?_
                                                              refine mx_iconst (pc := 996) C dL_law_996 (z := 1) rfl (by constructor <;> decide) ?_
                                                              refine mx_iadd (pc := 997) C dL_law_997  ?_
                                                              obtain ⟨g254, h⟩ := of_gd h
                                                              refine mx_scl (pc := 998) C hSc dL_law_998 g254.1 g254.2 ?_
                                                              refine mx_fload_n (pc := 999) C dL_law_999 rfl ?_
                                                              refine mx_iload_n (pc := 1000) C dL_law_1000 rfl ?_
                                                              refine mx_iconst (pc := 1001) C dL_law_1001 (z := 2) rfl (by constructor <;> decide) ?_
                                                              refine mx_iadd (pc := 1002) C dL_law_1002  ?_
                                                              obtain ⟨g255, h⟩ := of_gd h
                                                              refine mx_scl (pc := 1003) C hSc dL_law_1003 g255.1 g255.2 ?_
                                                              obtain ⟨q256, hq256, h⟩ := of_bd h
                                                              refine mc_V (pc := 1004) (as := [aI (xv (w32 (x3 + 1))), aI (xv (w32 (x3 + 2)))]) (rest := []) (stk2 := [aI q256.1]) C ⟨by decide, by decide⟩ (m_X7_judge hOM hq256) mi_X7_judge mv_X7_judge ml_L_127 ci_7 rfl so_7 (by omega) rfl (Nat.le_of_ble_eq_true rfl) dL_law_1004 rfl (fun hp257 => ?_)
                                                              have hOq256 : OK q256.2 := hp257
                                                              refine mx_aload_n (pc := 1007) C dL_law_1007 rfl ?_
                                                              refine mx_fload_n (pc := 1008) C dL_law_1008 rfl ?_
                                                              refine mx_iload_n (pc := 1009) C dL_law_1009 rfl ?_
                                                              refine mx_iconst (pc := 1010) C dL_law_1010 (z := 1) rfl (by constructor <;> decide) ?_
                                                              refine mx_iadd (pc := 1011) C dL_law_1011  ?_
                                                              obtain ⟨g258, h⟩ := of_gd h
                                                              refine mx_scl (pc := 1012) C hSc dL_law_1012 g258.1 g258.2 ?_
                                                              refine mx_fload_n (pc := 1013) C dL_law_1013 rfl ?_
                                                              refine mx_iload_n (pc := 1014) C dL_law_1014 rfl ?_
                                                              refine mx_iconst (pc := 1015) C dL_law_1015 (z := 2) rfl (by constructor <;> decide) ?_
                                                              refine mx_iadd (pc := 1016) C dL_law_1016  ?_
                                                              obtain ⟨g259, h⟩ := of_gd h
                                                              refine mx_scl (pc := 1017) C hSc dL_law_1017 g259.1 g259.2 ?_
                                                              obtain ⟨q260, hq260, h⟩ := of_bd h
                                                              refine mc_V (pc := 1018) (as := [aI (xv (w32 (x3 + 1))), aI (xv (w32 (x3 + 2)))]) (rest := [aI q256.1]) (stk2 := [aI q260.1, aI q256.1]) C ⟨by decide, by decide⟩ (m_X8_judge hOq256 hq260) mi_X8_judge mv_X8_judge ml_L_130 ci_8 rfl so_8 (by omega) rfl (Nat.le_of_ble_eq_true rfl) dL_law_1018 rfl (fun hp261 => ?_)
                                                              have hOq260 : OK q260.2 := hp261
                                                              refine mx_icmp_eq (pc := 1021) (tgt := 1387) C dL_law_1021 rfl (fun c262 => ?_) (fun c262 => ?_)
                                                              · rw [if_pos c262] at h
                                                                exact b_L_law_1387 hres C hSc hb ih x3 q260.2 hOq260 h
                                                              · rw [if_neg c262] at h
                                                                refine mx_iconst (pc := 1024) C dL_law_1024 (z := 0) rfl (by constructor <;> decide) ?_
                                                                rw [← Option.some.inj h] at hres
                                                                exact absurd (show (0 : Int) = 1 from hres) (by decide)
                                                            · rw [if_neg c253] at h
                                                              by_cases c263 : and32 (xv x3) 63 = 28
                                                              · rw [if_pos c263] at h
                                                                refine mx_tin (pc := 33) (tgt := 1026) C 28 dL_law_33 c263 (by decide) (by decide) rfl rfl ?_
                                                                refine mx_aload_n (pc := 1026) C dL_law_1026 rfl ?_
                                                                obtain ⟨q264, hq264, h⟩ := of_bd h
                                                                refine mc_V (pc := 1027) (as := []) (rest := []) (stk2 := [aI q264.1]) C ⟨by decide, by decide⟩ (m_X7_image hOM hq264) mi_X7_image mv_X7_image ml_L_131 ci_7 rfl so_7 (by omega) rfl (Nat.le_of_ble_eq_true rfl) dL_law_1027 rfl (fun hp265 => ?_)
                                                                have hOq264 : OK q264.2 := hp265
                                                                refine mx_aload_n (pc := 1030) C dL_law_1030 rfl ?_
                                                                obtain ⟨q266, hq266, h⟩ := of_bd h
                                                                refine mc_V (pc := 1031) (as := []) (rest := [aI q264.1]) (stk2 := [aI q266.1, aI q264.1]) C ⟨by decide, by decide⟩ (m_X8_image hOq264 hq266) mi_X8_image mv_X8_image ml_L_134 ci_8 rfl so_8 (by omega) rfl (Nat.le_of_ble_eq_true rfl) dL_law_1031 rfl (fun hp267 => ?_)
                                                                have hOq266 : OK q266.2 := hp267
                                                                refine mx_icmp_eq (pc := 1034) (tgt := 1387) C dL_law_1034 rfl (fun c268 => ?_) (fun c268 => ?_)
                                                                · rw [if_pos c268] at h
                                                                  exact b_L_law_1387 hres C hSc hb ih x3 q266.2 hOq266 h
                                                                · rw [if_neg c268] at h
                                                                  refine mx_iconst (pc := 1037) C dL_law_1037 (z := 0) rfl (by constructor <;> decide) ?_
                                                                  rw [← Option.some.inj h] at hres
                                                                  exact absurd (show (0 : Int) = 1 from hres) (by decide)
                                                              · rw [if_neg c263] at h
                                                                by_cases c269 : and32 (xv x3) 63 = 29
                                                                · rw [if_pos c269] at h
                                                                  refine mx_tin (pc := 33) (tgt := 1039) C 29 dL_law_33 c269 (by decide) (by decide) rfl rfl ?_
                                                                  refine mx_aload_n (pc := 1039) C dL_law_1039 rfl ?_
                                                                  obtain ⟨q270, hq270, h⟩ := of_bd h
                                                                  refine mc_V (pc := 1040) (as := []) (rest := []) (stk2 := [aI q270.1]) C ⟨by decide, by decide⟩ (m_X7_undo hOM hq270) mi_X7_undo mv_X7_undo ml_L_135 ci_7 rfl so_7 (by omega) rfl (Nat.le_of_ble_eq_true rfl) dL_law_1040 rfl (fun hp271 => ?_)
                                                                  have hOq270 : OK q270.2 := hp271
                                                                  refine mx_aload_n (pc := 1043) C dL_law_1043 rfl ?_
                                                                  obtain ⟨q272, hq272, h⟩ := of_bd h
                                                                  refine mc_V (pc := 1044) (as := []) (rest := [aI q270.1]) (stk2 := [aI q272.1, aI q270.1]) C ⟨by decide, by decide⟩ (m_X8_undo hOq270 hq272) mi_X8_undo mv_X8_undo ml_L_138 ci_8 rfl so_8 (by omega) rfl (Nat.le_of_ble_eq_true rfl) dL_law_1044 rfl (fun hp273 => ?_)
                                                                  have hOq272 : OK q272.2 := hp273
                                                                  refine mx_icmp_eq (pc := 1047) (tgt := 1387) C dL_law_1047 rfl (fun c274 => ?_) (fun c274 => ?_)
                                                                  · rw [if_pos c274] at h
                                                                    exact b_L_law_1387 hres C hSc hb ih x3 q272.2 hOq272 h
                                                                  · rw [if_neg c274] at h
                                                                    refine mx_iconst (pc := 1050) C dL_law_1050 (z := 0) rfl (by constructor <;> decide) ?_
                                                                    rw [← Option.some.inj h] at hres
                                                                    exact absurd (show (0 : Int) = 1 from hres) (by decide)
                                                                · rw [if_neg c269] at h
                                                                  by_cases c275 : and32 (xv x3) 63 = 30
                                                                  · rw [if_pos c275] at h
                                                                    refine mx_tin (pc := 33) (tgt := 1052) C 30 dL_law_33 c275 (by decide) (by decide) rfl rfl ?_
                                                                    refine mx_aload_n (pc := 1052) C dL_law_1052 rfl ?_
                                                                    refine mx_fload_n (pc := 1053) C dL_law_1053 rfl ?_
                                                                    refine mx_iload_n (pc := 1054) C dL_law_1054 rfl ?_
                                                                    refine mx_iconst (pc := 1055) C dL_law_1055 (z := 1) rfl (by constructor <;> decide) ?_
                                                                    refine mx_iadd (pc := 1056) C dL_law_1056  ?_
                                                                    obtain ⟨g276, h⟩ := of_gd h
                                                                    refine mx_scl (pc := 1057) C hSc dL_law_1057 g276.1 g276.2 ?_
                                                                    refine mx_fload_n (pc := 1058) C dL_law_1058 rfl ?_
                                                                    refine mx_iload_n (pc := 1059) C dL_law_1059 rfl ?_
                                                                    refine mx_iconst (pc := 1060) C dL_law_1060 (z := 2) rfl (by constructor <;> decide) ?_
                                                                    refine mx_iadd (pc := 1061) C dL_law_1061  ?_
                                                                    obtain ⟨g277, h⟩ := of_gd h
                                                                    refine mx_scl (pc := 1062) C hSc dL_law_1062 g277.1 g277.2 ?_
                                                                    refine mx_fload_n (pc := 1063) C dL_law_1063 rfl ?_
                                                                    refine mx_iload_n (pc := 1064) C dL_law_1064 rfl ?_
                                                                    refine mx_iconst (pc := 1065) C dL_law_1065 (z := 3) rfl (by constructor <;> decide) ?_
                                                                    refine mx_iadd (pc := 1066) C dL_law_1066  ?_
                                                                    obtain ⟨g278, h⟩ := of_gd h
                                                                    refine mx_scl (pc := 1067) C hSc dL_law_1067 g278.1 g278.2 ?_
                                                                    obtain ⟨q279, hq279, h⟩ := of_bd h
                                                                    refine mc_V (pc := 1068) (as := [aI (xv (w32 (x3 + 1))), aI (xv (w32 (x3 + 2))), aI (xv (w32 (x3 + 3)))]) (rest := []) (stk2 := [aI q279.1]) C ⟨by decide, by decide⟩ (m_X7_act hOM hq279) mi_X7_act mv_X7_act ml_L_139 ci_7 rfl so_7 (by omega) rfl (Nat.le_of_ble_eq_true rfl) dL_law_1068 rfl (fun hp280 => ?_)
                                                                    have hOq279 : OK q279.2 := hp280
                                                                    refine mx_aload_n (pc := 1071) C dL_law_1071 rfl ?_
                                                                    refine mx_fload_n (pc := 1072) C dL_law_1072 rfl ?_
                                                                    refine mx_iload_n (pc := 1073) C dL_law_1073 rfl ?_
                                                                    refine mx_iconst (pc := 1074) C dL_law_1074 (z := 1) rfl (by constructor <;> decide) ?_
                                                                    refine mx_iadd (pc := 1075) C dL_law_1075  ?_
                                                                    obtain ⟨g281, h⟩ := of_gd h
                                                                    refine mx_scl (pc := 1076) C hSc dL_law_1076 g281.1 g281.2 ?_
                                                                    refine mx_fload_n (pc := 1077) C dL_law_1077 rfl ?_
                                                                    refine mx_iload_n (pc := 1078) C dL_law_1078 rfl ?_
                                                                    refine mx_iconst (pc := 1079) C dL_law_1079 (z := 2) rfl (by constructor <;> decide) ?_
                                                                    refine mx_iadd (pc := 1080) C dL_law_1080  ?_
                                                                    obtain ⟨g282, h⟩ := of_gd h
                                                                    refine mx_scl (pc := 1081) C hSc dL_law_1081 g282.1 g282.2 ?_
                                                                    refine mx_fload_n (pc := 1082) C dL_law_1082 rfl ?_
                                                                    refine mx_iload_n (pc := 1083) C dL_law_1083 rfl ?_
                                                                    refine mx_iconst (pc := 1084) C dL_law_1084 (z := 3) rfl (by constructor <;> decide) ?_
                                                                    refine mx_iadd (pc := 1085) C dL_law_1085  ?_
                                                                    obtain ⟨g283, h⟩ := of_gd h
                                                                    refine mx_scl (pc := 1086) C hSc dL_law_1086 g283.1 g283.2 ?_
                                                                    obtain ⟨q284, hq284, h⟩ := of_bd h
                                                                    refine mc_V (pc := 1087) (as := [aI (xv (w32 (x3 + 1))), aI (xv (w32 (x3 + 2))), aI (xv (w32 (x3 + 3)))]) (rest := [aI q279.1]) (stk2 := [aI q284.1, aI q279.1]) C ⟨by decide, by decide⟩ (m_X8_act hOq279 hq284) mi_X8_act mv_X8_act ml_L_142 ci_8 rfl so_8 (by omega) rfl (Nat.le_of_ble_eq_true rfl) dL_law_1087 rfl (fun hp285 => ?_)
                                                                    have hOq284 : OK q284.2 := hp285
                                                                    refine mx_icmp_eq (pc := 1090) (tgt := 1387) C dL_law_1090 rfl (fun c286 => ?_) (fun c286 => ?_)
                                                                    · rw [if_pos c286] at h
                                                                      exact b_L_law_1387 hres C hSc hb ih x3 q284.2 hOq284 h
                                                                    · rw [if_neg c286] at h
                                                                      refine mx_iconst (pc := 1093) C dL_law_1093 (z := 0) rfl (by constructor <;> decide) ?_
                                                                      rw [← Option.some.inj h] at hres
                                                                      exact absurd (show (0 : Int) = 1 from hres) (by decide)
                                                                  · rw [if_neg c275] at h
                                                                    by_cases c287 : and32 (xv x3) 63 = 31
                                                                    · rw [if_pos c287] at h
                                                                      refine mx_tin (pc := 33) (tgt := 1095) C 31 dL_law_33 c287 (by decide) (by decide) rfl rfl ?_
                                                                      refine mx_aload_n (pc := 1095) C dL_law_1095 rfl ?_
                                                                      refine mx_fload_n (pc := 1096) C dL_law_1096 rfl ?_
                                                                      refine mx_iload_n (pc := 1097) C dL_law_1097 rfl ?_
                                                                      refine mx_iconst (pc := 1098) C dL_law_1098 (z := 1) rfl (by constructor <;> decide) ?_
                                                                      refine mx_iadd (pc := 1099) C dL_law_1099  ?_
                                                                      obtain ⟨g288, h⟩ := of_gd h
                                                                      refine mx_scl (pc := 1100) C hSc dL_law_1100 g288.1 g288.2 ?_
                                                                      obtain ⟨q289, hq289, h⟩ := of_bd h
                                                                      refine mc_V (pc := 1101) (as := [aI (xv (w32 (x3 + 1)))]) (rest := []) (stk2 := [aI q289.1]) C ⟨by decide, by decide⟩ (m_X7_trace hOM hq289) mi_X7_trace mv_X7_trace ml_L_143 ci_7 rfl so_7 (by omega) rfl (Nat.le_of_ble_eq_true rfl) dL_law_1101 rfl (fun hp290 => ?_)
                                                                      have hOq289 : OK q289.2 := hp290
                                                                      refine mx_aload_n (pc := 1104) C dL_law_1104 rfl ?_
                                                                      refine mx_fload_n (pc := 1105) C dL_law_1105 rfl ?_
                                                                      refine mx_iload_n (pc := 1106) C dL_law_1106 rfl ?_
                                                                      refine mx_iconst (pc := 1107) C dL_law_1107 (z := 1) rfl (by constructor <;> decide) ?_
                                                                      refine mx_iadd (pc := 1108) C dL_law_1108  ?_
                                                                      obtain ⟨g291, h⟩ := of_gd h
                                                                      refine mx_scl (pc := 1109) C hSc dL_law_1109 g291.1 g291.2 ?_
                                                                      obtain ⟨q292, hq292, h⟩ := of_bd h
                                                                      refine mc_V (pc := 1110) (as := [aI (xv (w32 (x3 + 1)))]) (rest := [aI q289.1]) (stk2 := [aI q292.1, aI q289.1]) C ⟨by decide, by decide⟩ (m_X8_trace hOq289 hq292) mi_X8_trace mv_X8_trace ml_L_146 ci_8 rfl so_8 (by omega) rfl (Nat.le_of_ble_eq_true rfl) dL_law_1110 rfl (fun hp293 => ?_)
                                                                      have hOq292 : OK q292.2 := hp293
                                                                      refine mx_icmp_eq (pc := 1113) (tgt := 1387) C dL_law_1113 rfl (fun c294 => ?_) (fun c294 => ?_)
                                                                      · rw [if_pos c294] at h
                                                                        exact b_L_law_1387 hres C hSc hb ih x3 q292.2 hOq292 h
                                                                      · rw [if_neg c294] at h
                                                                        refine mx_iconst (pc := 1116) C dL_law_1116 (z := 0) rfl (by constructor <;> decide) ?_
                                                                        rw [← Option.some.inj h] at hres
                                                                        exact absurd (show (0 : Int) = 1 from hres) (by decide)
                                                                    · rw [if_neg c287] at h
                                                                      by_cases c295 : and32 (xv x3) 63 = 32
                                                                      · rw [if_pos c295] at h
                                                                        refine mx_tin (pc := 33) (tgt := 1118) C 32 dL_law_33 c295 (by decide) (by decide) rfl rfl ?_
                                                                        refine mx_aload_n (pc := 1118) C dL_law_1118 rfl ?_
                                                                        refine mx_fload_n (pc := 1119) C dL_law_1119 rfl ?_
                                                                        refine mx_iload_n (pc := 1120) C dL_law_1120 rfl ?_
                                                                        refine mx_iconst (pc := 1121) C dL_law_1121 (z := 1) rfl (by constructor <;> decide) ?_
                                                                        refine mx_iadd (pc := 1122) C dL_law_1122  ?_
                                                                        obtain ⟨g296, h⟩ := of_gd h
                                                                        refine mx_scl (pc := 1123) C hSc dL_law_1123 g296.1 g296.2 ?_
                                                                        refine mx_fload_n (pc := 1124) C dL_law_1124 rfl ?_
                                                                        refine mx_iload_n (pc := 1125) C dL_law_1125 rfl ?_
                                                                        refine mx_iconst (pc := 1126) C dL_law_1126 (z := 2) rfl (by constructor <;> decide) ?_
                                                                        refine mx_iadd (pc := 1127) C dL_law_1127  ?_
                                                                        obtain ⟨g297, h⟩ := of_gd h
                                                                        refine mx_scl (pc := 1128) C hSc dL_law_1128 g297.1 g297.2 ?_
                                                                        obtain ⟨q298, hq298, h⟩ := of_bd h
                                                                        refine mc_V (pc := 1129) (as := [aI (xv (w32 (x3 + 1))), aI (xv (w32 (x3 + 2)))]) (rest := []) (stk2 := [aI q298.1]) C ⟨by decide, by decide⟩ (m_X7_taken hOM hq298) mi_X7_taken mv_X7_taken ml_L_147 ci_7 rfl so_7 (by omega) rfl (Nat.le_of_ble_eq_true rfl) dL_law_1129 rfl (fun hp299 => ?_)
                                                                        have hOq298 : OK q298.2 := hp299
                                                                        refine mx_aload_n (pc := 1132) C dL_law_1132 rfl ?_
                                                                        refine mx_fload_n (pc := 1133) C dL_law_1133 rfl ?_
                                                                        refine mx_iload_n (pc := 1134) C dL_law_1134 rfl ?_
                                                                        refine mx_iconst (pc := 1135) C dL_law_1135 (z := 1) rfl (by constructor <;> decide) ?_
                                                                        refine mx_iadd (pc := 1136) C dL_law_1136  ?_
                                                                        obtain ⟨g300, h⟩ := of_gd h
                                                                        refine mx_scl (pc := 1137) C hSc dL_law_1137 g300.1 g300.2 ?_
                                                                        refine mx_fload_n (pc := 1138) C dL_law_1138 rfl ?_
                                                                        refine mx_iload_n (pc := 1139) C dL_law_1139 rfl ?_
                                                                        refine mx_iconst (pc := 1140) C dL_law_1140 (z := 2) rfl (by constructor <;> decide) ?_
                                                                        refine mx_iadd (pc := 1141) C dL_law_1141  ?_
                                                                        obtain ⟨g301, h⟩ := of_gd h
                                                                        refine mx_scl (pc := 1142) C hSc dL_law_1142 g301.1 g301.2 ?_
                                                                        obtain ⟨q302, hq302, h⟩ := of_bd h
                                                                        refine mc_V (pc := 1143) (as := [aI (xv (w32 (x3 + 1))), aI (xv (w32 (x3 + 2)))]) (rest := [aI q298.1]) (stk2 := [aI q302.1, aI q298.1]) C ⟨by decide, by decide⟩ (m_X8_taken hOq298 hq302) mi_X8_taken mv_X8_taken ml_L_150 ci_8 rfl so_8 (by omega) rfl (Nat.le_of_ble_eq_true rfl) dL_law_1143 rfl (fun hp303 => ?_)
                                                                        have hOq302 : OK q302.2 := hp303
                                                                        refine mx_icmp_eq (pc := 1146) (tgt := 1387) C dL_law_1146 rfl (fun c304 => ?_) (fun c304 => ?_)
                                                                        · rw [if_pos c304] at h
                                                                          exact b_L_law_1387 hres C hSc hb ih x3 q302.2 hOq302 h
                                                                        · rw [if_neg c304] at h
                                                                          refine mx_iconst (pc := 1149) C dL_law_1149 (z := 0) rfl (by constructor <;> decide) ?_
                                                                          rw [← Option.some.inj h] at hres
                                                                          exact absurd (show (0 : Int) = 1 from hres) (by decide)
                                                                      · rw [if_neg c295] at h
                                                                        by_cases c305 : and32 (xv x3) 63 = 33
                                                                        · rw [if_pos c305] at h
                                                                          refine mx_tin (pc := 33) (tgt := 1151) C 33 dL_law_33 c305 (by decide) (by decide) rfl rfl ?_
                                                                          refine mx_aload_n (pc := 1151) C dL_law_1151 rfl ?_
                                                                          refine mx_fload_n (pc := 1152) C dL_law_1152 rfl ?_
                                                                          refine mx_iload_n (pc := 1153) C dL_law_1153 rfl ?_
                                                                          refine mx_iconst (pc := 1154) C dL_law_1154 (z := 1) rfl (by constructor <;> decide) ?_
                                                                          refine mx_iadd (pc := 1155) C dL_law_1155  ?_
                                                                          obtain ⟨g306, h⟩ := of_gd h
                                                                          refine mx_scl (pc := 1156) C hSc dL_law_1156 g306.1 g306.2 ?_
                                                                          obtain ⟨q307, hq307, h⟩ := of_bd h
                                                                          refine mc_V (pc := 1157) (as := [aI (xv (w32 (x3 + 1)))]) (rest := []) (stk2 := [aI q307.1]) C ⟨by decide, by decide⟩ (m_X7_count hOM hq307) mi_X7_count mv_X7_count ml_L_151 ci_7 rfl so_7 (by omega) rfl (Nat.le_of_ble_eq_true rfl) dL_law_1157 rfl (fun hp308 => ?_)
                                                                          have hOq307 : OK q307.2 := hp308
                                                                          refine mx_aload_n (pc := 1160) C dL_law_1160 rfl ?_
                                                                          refine mx_fload_n (pc := 1161) C dL_law_1161 rfl ?_
                                                                          refine mx_iload_n (pc := 1162) C dL_law_1162 rfl ?_
                                                                          refine mx_iconst (pc := 1163) C dL_law_1163 (z := 1) rfl (by constructor <;> decide) ?_
                                                                          refine mx_iadd (pc := 1164) C dL_law_1164  ?_
                                                                          obtain ⟨g309, h⟩ := of_gd h
                                                                          refine mx_scl (pc := 1165) C hSc dL_law_1165 g309.1 g309.2 ?_
                                                                          obtain ⟨q310, hq310, h⟩ := of_bd h
                                                                          refine mc_V (pc := 1166) (as := [aI (xv (w32 (x3 + 1)))]) (rest := [aI q307.1]) (stk2 := [aI q310.1, aI q307.1]) C ⟨by decide, by decide⟩ (m_X8_count hOq307 hq310) mi_X8_count mv_X8_count ml_L_154 ci_8 rfl so_8 (by omega) rfl (Nat.le_of_ble_eq_true rfl) dL_law_1166 rfl (fun hp311 => ?_)
                                                                          have hOq310 : OK q310.2 := hp311
                                                                          refine mx_icmp_eq (pc := 1169) (tgt := 1387) C dL_law_1169 rfl (fun c312 => ?_) (fun c312 => ?_)
                                                                          · rw [if_pos c312] at h
                                                                            exact b_L_law_1387 hres C hSc hb ih x3 q310.2 hOq310 h
                                                                          · rw [if_neg c312] at h
                                                                            refine mx_iconst (pc := 1172) C dL_law_1172 (z := 0) rfl (by constructor <;> decide) ?_
                                                                            rw [← Option.some.inj h] at hres
                                                                            exact absurd (show (0 : Int) = 1 from hres) (by decide)
                                                                        · rw [if_neg c305] at h
                                                                          by_cases c313 : and32 (xv x3) 63 = 34
                                                                          · rw [if_pos c313] at h
                                                                            refine mx_tin (pc := 33) (tgt := 1174) C 34 dL_law_33 c313 (by decide) (by decide) rfl rfl ?_
                                                                            refine mx_aload_n (pc := 1174) C dL_law_1174 rfl ?_
                                                                            refine mx_fload_n (pc := 1175) C dL_law_1175 rfl ?_
                                                                            refine mx_iload_n (pc := 1176) C dL_law_1176 rfl ?_
                                                                            refine mx_iconst (pc := 1177) C dL_law_1177 (z := 1) rfl (by constructor <;> decide) ?_
                                                                            refine mx_iadd (pc := 1178) C dL_law_1178  ?_
                                                                            obtain ⟨g314, h⟩ := of_gd h
                                                                            refine mx_scl (pc := 1179) C hSc dL_law_1179 g314.1 g314.2 ?_
                                                                            refine mx_fload_n (pc := 1180) C dL_law_1180 rfl ?_
                                                                            refine mx_iload_n (pc := 1181) C dL_law_1181 rfl ?_
                                                                            refine mx_iconst (pc := 1182) C dL_law_1182 (z := 2) rfl (by constructor <;> decide) ?_
                                                                            refine mx_iadd (pc := 1183) C dL_law_1183  ?_
                                                                            obtain ⟨g315, h⟩ := of_gd h
                                                                            refine mx_scl (pc := 1184) C hSc dL_law_1184 g315.1 g315.2 ?_
                                                                            refine mx_fload_n (pc := 1185) C dL_law_1185 rfl ?_
                                                                            refine mx_iload_n (pc := 1186) C dL_law_1186 rfl ?_
                                                                            refine mx_iconst (pc := 1187) C dL_law_1187 (z := 3) rfl (by constructor <;> decide) ?_
                                                                            refine mx_iadd (pc := 1188) C dL_law_1188  ?_
                                                                            obtain ⟨g316, h⟩ := of_gd h
                                                                            refine mx_scl (pc := 1189) C hSc dL_law_1189 g316.1 g316.2 ?_
                                                                            obtain ⟨q317, hq317, h⟩ := of_bd h
                                                                            refine mc_V (pc := 1190) (as := [aI (xv (w32 (x3 + 1))), aI (xv (w32 (x3 + 2))), aI (xv (w32 (x3 + 3)))]) (rest := []) (stk2 := [aI q317.1]) C ⟨by decide, by decide⟩ (m_X7_tape hOM hq317) mi_X7_tape mv_X7_tape ml_L_155 ci_7 rfl so_7 (by omega) rfl (Nat.le_of_ble_eq_true rfl) dL_law_1190 rfl (fun hp318 => ?_)
                                                                            have hOq317 : OK q317.2 := hp318
                                                                            refine mx_aload_n (pc := 1193) C dL_law_1193 rfl ?_
                                                                            refine mx_fload_n (pc := 1194) C dL_law_1194 rfl ?_
                                                                            refine mx_iload_n (pc := 1195) C dL_law_1195 rfl ?_
                                                                            refine mx_iconst (pc := 1196) C dL_law_1196 (z := 1) rfl (by constructor <;> decide) ?_
                                                                            refine mx_iadd (pc := 1197) C dL_law_1197  ?_
                                                                            obtain ⟨g319, h⟩ := of_gd h
                                                                            refine mx_scl (pc := 1198) C hSc dL_law_1198 g319.1 g319.2 ?_
                                                                            refine mx_fload_n (pc := 1199) C dL_law_1199 rfl ?_
                                                                            refine mx_iload_n (pc := 1200) C dL_law_1200 rfl ?_
                                                                            refine mx_iconst (pc := 1201) C dL_law_1201 (z := 2) rfl (by constructor <;> decide) ?_
                                                                            refine mx_iadd (pc := 1202) C dL_law_1202  ?_
                                                                            obtain ⟨g320, h⟩ := of_gd h
                                                                            refine mx_scl (pc := 1203) C hSc dL_law_1203 g320.1 g320.2 ?_
                                                                            refine mx_fload_n (pc := 1204) C dL_law_1204 rfl ?_
                                                                            refine mx_iload_n (pc := 1205) C dL_law_1205 rfl ?_
                                                                            refine mx_iconst (pc := 1206) C dL_law_1206 (z := 3) rfl (by constructor <;> decide) ?_
                                                                            refine mx_iadd (pc := 1207) C dL_law_1207  ?_
                                                                            obtain ⟨g321, h⟩ := of_gd h
                                                                            refine mx_scl (pc := 1208) C hSc dL_law_1208 g321.1 g321.2 ?_
                                                                            obtain ⟨q322, hq322, h⟩ := of_bd h
                                                                            refine mc_V (pc := 1209) (as := [aI (xv (w32 (x3 + 1))), aI (xv (w32 (x3 + 2))), aI (xv (w32 (x3 + 3)))]) (rest := [aI q317.1]) (stk2 := [aI q322.1, aI q317.1]) C ⟨by decide, by decide⟩ (m_X8_tape hOq317 hq322) mi_X8_tape mv_X8_tape ml_L_158 ci_8 rfl so_8 (by omega) rfl (Nat.le_of_ble_eq_true rfl) dL_law_1209 rfl (fun hp323 => ?_)
                                                                            have hOq322 : OK q322.2 := hp323
                                                                            refine mx_icmp_eq (pc := 1212) (tgt := 1387) C dL_law_1212 rfl (fun c324 => ?_) (fun c324 => ?_)
                                                                            · rw [if_pos c324] at h
                                                                              exact b_L_law_1387 hres C hSc hb ih x3 q322.2 hOq322 h
                                                                            · rw [if_neg c324] at h
                                                                              refine mx_iconst (pc := 1215) C dL_law_1215 (z := 0) rfl (by constructor <;> decide) ?_
                                                                              rw [← Option.some.inj h] at hres
                                                                              exact absurd (show (0 : Int) = 1 from hres) (by decide)
                                                                          · rw [if_neg c313] at h
                                                                            by_cases c325 : and32 (xv x3) 63 = 35
                                                                            · rw [if_pos c325] at h
                                                                              refine mx_tin (pc := 33) (tgt := 1217) C 35 dL_law_33 c325 (by decide) (by decide) rfl rfl ?_
                                                                              refine mx_aload_n (pc := 1217) C dL_law_1217 rfl ?_
                                                                              refine mx_fload_n (pc := 1218) C dL_law_1218 rfl ?_
                                                                              refine mx_iload_n (pc := 1219) C dL_law_1219 rfl ?_
                                                                              refine mx_iconst (pc := 1220) C dL_law_1220 (z := 1) rfl (by constructor <;> decide) ?_
                                                                              refine mx_iadd (pc := 1221) C dL_law_1221  ?_
                                                                              obtain ⟨g326, h⟩ := of_gd h
                                                                              refine mx_scl (pc := 1222) C hSc dL_law_1222 g326.1 g326.2 ?_
                                                                              refine mx_fload_n (pc := 1223) C dL_law_1223 rfl ?_
                                                                              refine mx_iload_n (pc := 1224) C dL_law_1224 rfl ?_
                                                                              refine mx_iconst (pc := 1225) C dL_law_1225 (z := 2) rfl (by constructor <;> decide) ?_
                                                                              refine mx_iadd (pc := 1226) C dL_law_1226  ?_
                                                                              obtain ⟨g327, h⟩ := of_gd h
                                                                              refine mx_scl (pc := 1227) C hSc dL_law_1227 g327.1 g327.2 ?_
                                                                              refine mx_fload_n (pc := 1228) C dL_law_1228 rfl ?_
                                                                              refine mx_iload_n (pc := 1229) C dL_law_1229 rfl ?_
                                                                              refine mx_iconst (pc := 1230) C dL_law_1230 (z := 3) rfl (by constructor <;> decide) ?_
                                                                              refine mx_iadd (pc := 1231) C dL_law_1231  ?_
                                                                              obtain ⟨g328, h⟩ := of_gd h
                                                                              refine mx_scl (pc := 1232) C hSc dL_law_1232 g328.1 g328.2 ?_
                                                                              refine mx_i2l (pc := 1233) C dL_law_1233  ?_
                                                                              refine mx_bipush (pc := 1234) C dL_law_1234 (z := 32) rfl (by constructor <;> decide) ?_
                                                                              refine mx_lshl (pc := 1236) C dL_law_1236  ?_
                                                                              refine mx_fload_n (pc := 1237) C dL_law_1237 rfl ?_
                                                                              refine mx_iload_n (pc := 1238) C dL_law_1238 rfl ?_
                                                                              refine mx_iconst (pc := 1239) C dL_law_1239 (z := 4) rfl (by constructor <;> decide) ?_
                                                                              refine mx_iadd (pc := 1240) C dL_law_1240  ?_
                                                                              obtain ⟨g329, h⟩ := of_gd h
                                                                              refine mx_scl (pc := 1241) C hSc dL_law_1241 g329.1 g329.2 ?_
                                                                              refine mx_i2l (pc := 1242) C dL_law_1242  ?_
                                                                              refine mx_ldc2 (pc := 1243) C dL_law_1243 kl_L_159 (by constructor <;> decide) ?_
                                                                              refine mx_land (pc := 1246) C dL_law_1246  ?_
                                                                              refine mx_lor (pc := 1247) C dL_law_1247  ?_
                                                                              obtain ⟨q330, hq330, h⟩ := of_bd h
                                                                              refine mc_V (pc := 1248) (as := [aI (xv (w32 (x3 + 1))), aI (xv (w32 (x3 + 2))), aJ (or64 (shl64 (xv (w32 (x3 + 3))) 32) (and64 (xv (w32 (x3 + 4))) 4294967295))]) (rest := []) (stk2 := [aI q330.1]) C ⟨by decide, by decide⟩ (m_X7_item hOM hq330) mi_X7_item mv_X7_item ml_L_161 ci_7 rfl so_7 (by omega) rfl (Nat.le_of_ble_eq_true rfl) dL_law_1248 rfl (fun hp331 => ?_)
                                                                              have hOq330 : OK q330.2 := hp331
                                                                              refine mx_aload_n (pc := 1251) C dL_law_1251 rfl ?_
                                                                              refine mx_fload_n (pc := 1252) C dL_law_1252 rfl ?_
                                                                              refine mx_iload_n (pc := 1253) C dL_law_1253 rfl ?_
                                                                              refine mx_iconst (pc := 1254) C dL_law_1254 (z := 1) rfl (by constructor <;> decide) ?_
                                                                              refine mx_iadd (pc := 1255) C dL_law_1255  ?_
                                                                              obtain ⟨g332, h⟩ := of_gd h
                                                                              refine mx_scl (pc := 1256) C hSc dL_law_1256 g332.1 g332.2 ?_
                                                                              refine mx_fload_n (pc := 1257) C dL_law_1257 rfl ?_
                                                                              refine mx_iload_n (pc := 1258) C dL_law_1258 rfl ?_
                                                                              refine mx_iconst (pc := 1259) C dL_law_1259 (z := 2) rfl (by constructor <;> decide) ?_
                                                                              refine mx_iadd (pc := 1260) C dL_law_1260  ?_
                                                                              obtain ⟨g333, h⟩ := of_gd h
                                                                              refine mx_scl (pc := 1261) C hSc dL_law_1261 g333.1 g333.2 ?_
                                                                              refine mx_fload_n (pc := 1262) C dL_law_1262 rfl ?_
                                                                              refine mx_iload_n (pc := 1263) C dL_law_1263 rfl ?_
                                                                              refine mx_iconst (pc := 1264) C dL_law_1264 (z := 3) rfl (by constructor <;> decide) ?_
                                                                              refine mx_iadd (pc := 1265) C dL_law_1265  ?_
                                                                              obtain ⟨g334, h⟩ := of_gd h
                                                                              refine mx_scl (pc := 1266) C hSc dL_law_1266 g334.1 g334.2 ?_
                                                                              refine mx_i2l (pc := 1267) C dL_law_1267  ?_
                                                                              refine mx_bipush (pc := 1268) C dL_law_1268 (z := 32) rfl (by constructor <;> decide) ?_
                                                                              refine mx_lshl (pc := 1270) C dL_law_1270  ?_
                                                                              refine mx_fload_n (pc := 1271) C dL_law_1271 rfl ?_
                                                                              refine mx_iload_n (pc := 1272) C dL_law_1272 rfl ?_
                                                                              refine mx_iconst (pc := 1273) C dL_law_1273 (z := 4) rfl (by constructor <;> decide) ?_
                                                                              refine mx_iadd (pc := 1274) C dL_law_1274  ?_
                                                                              obtain ⟨g335, h⟩ := of_gd h
                                                                              refine mx_scl (pc := 1275) C hSc dL_law_1275 g335.1 g335.2 ?_
                                                                              refine mx_i2l (pc := 1276) C dL_law_1276  ?_
                                                                              refine mx_ldc2 (pc := 1277) C dL_law_1277 kl_L_159 (by constructor <;> decide) ?_
                                                                              refine mx_land (pc := 1280) C dL_law_1280  ?_
                                                                              refine mx_lor (pc := 1281) C dL_law_1281  ?_
                                                                              obtain ⟨q336, hq336, h⟩ := of_bd h
                                                                              refine mc_V (pc := 1282) (as := [aI (xv (w32 (x3 + 1))), aI (xv (w32 (x3 + 2))), aJ (or64 (shl64 (xv (w32 (x3 + 3))) 32) (and64 (xv (w32 (x3 + 4))) 4294967295))]) (rest := [aI q330.1]) (stk2 := [aI q336.1, aI q330.1]) C ⟨by decide, by decide⟩ (m_X8_item hOq330 hq336) mi_X8_item mv_X8_item ml_L_165 ci_8 rfl so_8 (by omega) rfl (Nat.le_of_ble_eq_true rfl) dL_law_1282 rfl (fun hp337 => ?_)
                                                                              have hOq336 : OK q336.2 := hp337
                                                                              refine mx_icmp_eq (pc := 1285) (tgt := 1387) C dL_law_1285 rfl (fun c338 => ?_) (fun c338 => ?_)
                                                                              · rw [if_pos c338] at h
                                                                                exact b_L_law_1387 hres C hSc hb ih x3 q336.2 hOq336 h
                                                                              · rw [if_neg c338] at h
                                                                                refine mx_iconst (pc := 1288) C dL_law_1288 (z := 0) rfl (by constructor <;> decide) ?_
                                                                                rw [← Option.some.inj h] at hres
                                                                                exact absurd (show (0 : Int) = 1 from hres) (by decide)
                                                                            · rw [if_neg c325] at h
                                                                              by_cases c339 : and32 (xv x3) 63 = 36
                                                                              · rw [if_pos c339] at h
                                                                                refine mx_tin (pc := 33) (tgt := 1290) C 36 dL_law_33 c339 (by decide) (by decide) rfl rfl ?_
                                                                                refine mx_aload_n (pc := 1290) C dL_law_1290 rfl ?_
                                                                                refine mx_fload_n (pc := 1291) C dL_law_1291 rfl ?_
                                                                                refine mx_iload_n (pc := 1292) C dL_law_1292 rfl ?_
                                                                                refine mx_iconst (pc := 1293) C dL_law_1293 (z := 1) rfl (by constructor <;> decide) ?_
                                                                                refine mx_iadd (pc := 1294) C dL_law_1294  ?_
                                                                                obtain ⟨g340, h⟩ := of_gd h
                                                                                refine mx_scl (pc := 1295) C hSc dL_law_1295 g340.1 g340.2 ?_
                                                                                refine mx_fload_n (pc := 1296) C dL_law_1296 rfl ?_
                                                                                refine mx_iload_n (pc := 1297) C dL_law_1297 rfl ?_
                                                                                refine mx_iconst (pc := 1298) C dL_law_1298 (z := 2) rfl (by constructor <;> decide) ?_
                                                                                refine mx_iadd (pc := 1299) C dL_law_1299  ?_
                                                                                obtain ⟨g341, h⟩ := of_gd h
                                                                                refine mx_scl (pc := 1300) C hSc dL_law_1300 g341.1 g341.2 ?_
                                                                                obtain ⟨q342, hq342, h⟩ := of_bd h
                                                                                refine mc_V (pc := 1301) (as := [aI (xv (w32 (x3 + 1))), aI (xv (w32 (x3 + 2)))]) (rest := []) (stk2 := [aJ q342.1]) C ⟨by decide, by decide⟩ (m_X7_read hOM hq342) mi_X7_read mv_X7_read ml_L_166 ci_7 rfl so_7 (by omega) rfl (Nat.le_of_ble_eq_true rfl) dL_law_1301 rfl (fun hp343 => ?_)
                                                                                have hOq342 : OK q342.2 := hp343
                                                                                refine mx_aload_n (pc := 1304) C dL_law_1304 rfl ?_
                                                                                refine mx_fload_n (pc := 1305) C dL_law_1305 rfl ?_
                                                                                refine mx_iload_n (pc := 1306) C dL_law_1306 rfl ?_
                                                                                refine mx_iconst (pc := 1307) C dL_law_1307 (z := 1) rfl (by constructor <;> decide) ?_
                                                                                refine mx_iadd (pc := 1308) C dL_law_1308  ?_
                                                                                obtain ⟨g344, h⟩ := of_gd h
                                                                                refine mx_scl (pc := 1309) C hSc dL_law_1309 g344.1 g344.2 ?_
                                                                                refine mx_fload_n (pc := 1310) C dL_law_1310 rfl ?_
                                                                                refine mx_iload_n (pc := 1311) C dL_law_1311 rfl ?_
                                                                                refine mx_iconst (pc := 1312) C dL_law_1312 (z := 2) rfl (by constructor <;> decide) ?_
                                                                                refine mx_iadd (pc := 1313) C dL_law_1313  ?_
                                                                                obtain ⟨g345, h⟩ := of_gd h
                                                                                refine mx_scl (pc := 1314) C hSc dL_law_1314 g345.1 g345.2 ?_
                                                                                obtain ⟨q346, hq346, h⟩ := of_bd h
                                                                                refine mc_V (pc := 1315) (as := [aI (xv (w32 (x3 + 1))), aI (xv (w32 (x3 + 2)))]) (rest := [aJ q342.1]) (stk2 := [aJ q346.1, aJ q342.1]) C ⟨by decide, by decide⟩ (m_X8_read hOq342 hq346) mi_X8_read mv_X8_read ml_L_169 ci_8 rfl so_8 (by omega) rfl (Nat.le_of_ble_eq_true rfl) dL_law_1315 rfl (fun hp347 => ?_)
                                                                                have hOq346 : OK q346.2 := hp347
                                                                                refine mx_lcmp (pc := 1318) C dL_law_1318  ?_
                                                                                refine mx_if_eq (pc := 1319) (tgt := 1387) C dL_law_1319 rfl (fun c348 => ?_) (fun c348 => ?_)
                                                                                · rw [if_pos c348] at h
                                                                                  exact b_L_law_1387 hres C hSc hb ih x3 q346.2 hOq346 h
                                                                                · rw [if_neg c348] at h
                                                                                  refine mx_iconst (pc := 1322) C dL_law_1322 (z := 0) rfl (by constructor <;> decide) ?_
                                                                                  rw [← Option.some.inj h] at hres
                                                                                  exact absurd (show (0 : Int) = 1 from hres) (by decide)
                                                                              · rw [if_neg c339] at h
                                                                                by_cases c349 : and32 (xv x3) 63 = 37
                                                                                · rw [if_pos c349] at h
                                                                                  refine mx_tin (pc := 33) (tgt := 1324) C 37 dL_law_33 c349 (by decide) (by decide) rfl rfl ?_
                                                                                  refine mx_aload_n (pc := 1324) C dL_law_1324 rfl ?_
                                                                                  refine mx_fload_n (pc := 1325) C dL_law_1325 rfl ?_
                                                                                  refine mx_iload_n (pc := 1326) C dL_law_1326 rfl ?_
                                                                                  refine mx_iconst (pc := 1327) C dL_law_1327 (z := 1) rfl (by constructor <;> decide) ?_
                                                                                  refine mx_iadd (pc := 1328) C dL_law_1328  ?_
                                                                                  obtain ⟨g350, h⟩ := of_gd h
                                                                                  refine mx_scl (pc := 1329) C hSc dL_law_1329 g350.1 g350.2 ?_
                                                                                  refine mx_fload_n (pc := 1330) C dL_law_1330 rfl ?_
                                                                                  refine mx_iload_n (pc := 1331) C dL_law_1331 rfl ?_
                                                                                  refine mx_iconst (pc := 1332) C dL_law_1332 (z := 2) rfl (by constructor <;> decide) ?_
                                                                                  refine mx_iadd (pc := 1333) C dL_law_1333  ?_
                                                                                  obtain ⟨g351, h⟩ := of_gd h
                                                                                  refine mx_scl (pc := 1334) C hSc dL_law_1334 g351.1 g351.2 ?_
                                                                                  refine mx_fload_n (pc := 1335) C dL_law_1335 rfl ?_
                                                                                  refine mx_iload_n (pc := 1336) C dL_law_1336 rfl ?_
                                                                                  refine mx_iconst (pc := 1337) C dL_law_1337 (z := 3) rfl (by constructor <;> decide) ?_
                                                                                  refine mx_iadd (pc := 1338) C dL_law_1338  ?_
                                                                                  obtain ⟨g352, h⟩ := of_gd h
                                                                                  refine mx_scl (pc := 1339) C hSc dL_law_1339 g352.1 g352.2 ?_
                                                                                  refine mx_fload_n (pc := 1340) C dL_law_1340 rfl ?_
                                                                                  refine mx_iload_n (pc := 1341) C dL_law_1341 rfl ?_
                                                                                  refine mx_iconst (pc := 1342) C dL_law_1342 (z := 4) rfl (by constructor <;> decide) ?_
                                                                                  refine mx_iadd (pc := 1343) C dL_law_1343  ?_
                                                                                  obtain ⟨g353, h⟩ := of_gd h
                                                                                  refine mx_scl (pc := 1344) C hSc dL_law_1344 g353.1 g353.2 ?_
                                                                                  refine mx_fload_n (pc := 1345) C dL_law_1345 rfl ?_
                                                                                  refine mx_iload_n (pc := 1346) C dL_law_1346 rfl ?_
                                                                                  refine mx_iconst (pc := 1347) C dL_law_1347 (z := 5) rfl (by constructor <;> decide) ?_
                                                                                  refine mx_iadd (pc := 1348) C dL_law_1348  ?_
                                                                                  obtain ⟨g354, h⟩ := of_gd h
                                                                                  refine mx_scl (pc := 1349) C hSc dL_law_1349 g354.1 g354.2 ?_
                                                                                  obtain ⟨q355, hq355, h⟩ := of_bd h
                                                                                  refine mc_V (pc := 1350) (as := [aI (xv (w32 (x3 + 1))), aI (xv (w32 (x3 + 2))), aI (xv (w32 (x3 + 3))), aI (xv (w32 (x3 + 4))), aI (xv (w32 (x3 + 5)))]) (rest := []) (stk2 := [aI q355.1]) C ⟨by decide, by decide⟩ (m_X7_shift hOM hq355) mi_X7_shift mv_X7_shift ml_L_170 ci_7 rfl so_7 (by omega) rfl (Nat.le_of_ble_eq_true rfl) dL_law_1350 rfl (fun hp356 => ?_)
                                                                                  have hOq355 : OK q355.2 := hp356
                                                                                  refine mx_aload_n (pc := 1353) C dL_law_1353 rfl ?_
                                                                                  refine mx_fload_n (pc := 1354) C dL_law_1354 rfl ?_
                                                                                  refine mx_iload_n (pc := 1355) C dL_law_1355 rfl ?_
                                                                                  refine mx_iconst (pc := 1356) C dL_law_1356 (z := 1) rfl (by constructor <;> decide) ?_
                                                                                  refine mx_iadd (pc := 1357) C dL_law_1357  ?_
                                                                                  obtain ⟨g357, h⟩ := of_gd h
                                                                                  refine mx_scl (pc := 1358) C hSc dL_law_1358 g357.1 g357.2 ?_
                                                                                  refine mx_fload_n (pc := 1359) C dL_law_1359 rfl ?_
                                                                                  refine mx_iload_n (pc := 1360) C dL_law_1360 rfl ?_
                                                                                  refine mx_iconst (pc := 1361) C dL_law_1361 (z := 2) rfl (by constructor <;> decide) ?_
                                                                                  refine mx_iadd (pc := 1362) C dL_law_1362  ?_
                                                                                  obtain ⟨g358, h⟩ := of_gd h
                                                                                  refine mx_scl (pc := 1363) C hSc dL_law_1363 g358.1 g358.2 ?_
                                                                                  refine mx_fload_n (pc := 1364) C dL_law_1364 rfl ?_
                                                                                  refine mx_iload_n (pc := 1365) C dL_law_1365 rfl ?_
                                                                                  refine mx_iconst (pc := 1366) C dL_law_1366 (z := 3) rfl (by constructor <;> decide) ?_
                                                                                  refine mx_iadd (pc := 1367) C dL_law_1367  ?_
                                                                                  obtain ⟨g359, h⟩ := of_gd h
                                                                                  refine mx_scl (pc := 1368) C hSc dL_law_1368 g359.1 g359.2 ?_
                                                                                  refine mx_fload_n (pc := 1369) C dL_law_1369 rfl ?_
                                                                                  refine mx_iload_n (pc := 1370) C dL_law_1370 rfl ?_
                                                                                  refine mx_iconst (pc := 1371) C dL_law_1371 (z := 4) rfl (by constructor <;> decide) ?_
                                                                                  refine mx_iadd (pc := 1372) C dL_law_1372  ?_
                                                                                  obtain ⟨g360, h⟩ := of_gd h
                                                                                  refine mx_scl (pc := 1373) C hSc dL_law_1373 g360.1 g360.2 ?_
                                                                                  refine mx_fload_n (pc := 1374) C dL_law_1374 rfl ?_
                                                                                  refine mx_iload_n (pc := 1375) C dL_law_1375 rfl ?_
                                                                                  refine mx_iconst (pc := 1376) C dL_law_1376 (z := 5) rfl (by constructor <;> decide) ?_
                                                                                  refine mx_iadd (pc := 1377) C dL_law_1377  ?_
                                                                                  obtain ⟨g361, h⟩ := of_gd h
                                                                                  refine mx_scl (pc := 1378) C hSc dL_law_1378 g361.1 g361.2 ?_
                                                                                  obtain ⟨q362, hq362, h⟩ := of_bd h
                                                                                  refine mc_V (pc := 1379) (as := [aI (xv (w32 (x3 + 1))), aI (xv (w32 (x3 + 2))), aI (xv (w32 (x3 + 3))), aI (xv (w32 (x3 + 4))), aI (xv (w32 (x3 + 5)))]) (rest := [aI q355.1]) (stk2 := [aI q362.1, aI q355.1]) C ⟨by decide, by decide⟩ (m_X8_shift hOq355 hq362) mi_X8_shift mv_X8_shift ml_L_174 ci_8 rfl so_8 (by omega) rfl (Nat.le_of_ble_eq_true rfl) dL_law_1379 rfl (fun hp363 => ?_)
                                                                                  have hOq362 : OK q362.2 := hp363
                                                                                  refine mx_icmp_eq (pc := 1382) (tgt := 1387) C dL_law_1382 rfl (fun c364 => ?_) (fun c364 => ?_)
                                                                                  · rw [if_pos c364] at h
                                                                                    exact b_L_law_1387 hres C hSc hb ih x3 q362.2 hOq362 h
                                                                                  · rw [if_neg c364] at h
                                                                                    refine mx_iconst (pc := 1385) C dL_law_1385 (z := 0) rfl (by constructor <;> decide) ?_
                                                                                    rw [← Option.some.inj h] at hres
                                                                                    exact absurd (show (0 : Int) = 1 from hres) (by decide)
                                                                                · rw [if_neg c349] at h
                                                                                  refine mx_tout (pc := 33) (tgt := 1387) C dL_law_33 (by omega) rfl ?_
                                                                                  exact b_L_law_1387 hres C hSc hb ih x3 M hOM h
