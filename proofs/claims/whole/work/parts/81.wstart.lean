theorem st_OK : OK MB := by
  have h1 : ∀ e ∈ LAY, MB e.1 e.2.1 = e.2.2 := by decide +kernel
  have h2 : MB 41 7 = 16 ∧ MB 60 7 = 16 ∧ MB 1 3 = -1 := by decide +kernel
  exact ⟨h1, Or.inl mb_c.2.2.1, Or.inl h2.1, Or.inl h2.2.1, Or.inl h2.2.2⟩
set_option maxRecDepth 100000 in
set_option maxHeartbeats 4000000 in
/-- YOUR PART: from the entry, for every script of at most 3072 ints, the law comes to its end with true ('hflags': the launch's flags, for a law that throws: no stack traces) -/
theorem whole_start {p : Program} {e : Env} {s : State} {m : MethodId} {below : List Frame} {meth : Method} {c : Code} (l : Launch) (hflags : l.flags = flags0) {b L : Nat} {xs : Nat → Int32} (hL : L ≤ 3072) (C0 : lw_At p s m meth c b L xs) : W p l e room_1 s m #[Value.ref b] below meth c s.heap [] 0 0 (lw_Z below #[Value.ref b] s) (entryFrame m ([Value.ref b] : List Value).toArray 4) := by
  obtain ⟨hx, hb, hr, hml, hown, hts, hX, hbl, hlocks, hgv⟩ := C0
  obtain ⟨dC, dI, hKc⟩ := st_cls hts
  obtain ⟨cA, hKr⟩ := st_rows hts
  obtain ⟨fa, hfa, hFO⟩ := st_FO hts hgv b
  have CC : ∀ ph : Bool, Cx (p, l, e, room_1, s, m, #[Value.ref b], below, meth, c) (s.heap.size, (dC, dI), cA, fa, ph) ph (yLw meth) code 4 (some .boolean) 2048 600000 7302250 := fun ph =>
    ⟨hx, hb, hml, hown, fun w hw => hts w (List.mem_filter.mp hw).1, ⟨hKc, hKr⟩, hFO _ _ _, Nat.le_refl _, hlocks, hr, rfl, rfl, Nat.le_of_ble_eq_true rfl, Nat.le_of_ble_eq_true rfl, Nat.le_of_ble_eq_true rfl, Nat.le_of_ble_eq_true rfl⟩
  have hSC : SCR (p, l, e, room_1, s, m, #[Value.ref b], below, meth, c) (s.heap.size, (dC, dI), cA, fa, false) L (fun i => (xs i.toNat).toInt) := by
    refine ⟨xs, ?_, ?_, ?_, by omega, fun i => rfl⟩
    · show va_X (fa 20) L xs s s.heap
      rw [hfa]; exact hX
    · show fa 20 < s.heap.size
      rw [hfa]; exact hbl
    · show ¬ s.heap.size ≤ fa 20
      rw [hfa]; omega
  obtain ⟨n, res, hf, h1⟩ := law_0 (xv := fun i => (xs i.toNat).toInt) hL (fun q => nT _)
  have hend := b_L_law_18 h1 (CC false) hSC rfl n 0 MB st_OK hf
  have hW0 : WR (s.heap.size, (dC, dI), cA, fa, true) [] MZ s.heap := by
    refine ⟨fun k q hk => ?_, fun _ => rfl, fun i k sh h => ?_⟩
    · have hk : ([] : va_W)[k]? = some q := hk
      simp at hk
    · unfold shp at h
      split at h
      · cases h
      · simp at h
  have C := CC true
  have hgo : Wx (p, l, e, room_1, s, m, #[Value.ref b], below, meth, c) (s.heap.size, (dC, dI), cA, fa, true) (ZL (p, l, e, room_1, s, m, #[Value.ref b], below, meth, c)) 0 0 [] 4 MZ 0 [some (aF 20), none, none, none] [] := by
    refine mx_new (pc := 0) (id := 0) C dL_law_0 ci_7 (by decide +kernel) cl_L_7 in_7 iz_7 ⟨by decide, by decide⟩ rfl ?_
    refine mx_dup (pc := 3) C dL_law_3 rfl ?_
    refine mx_callI (pc := 4) (as := []) (o := 0) (rest := [aR 0]) C mw_X7_init mi_X7_init mv_X7_init rfl ml_L_9 (by decide) ⟨by decide, by decide⟩ rfl (by decide) dL_law_4 (fun _ => ?_)
    refine mx_astore_n (pc := 7) (q := 1) (rest := []) (ls' := [some (aF 20), some (aR 0), none, none]) C dL_law_7 (by decide) rfl rfl ?_
    refine mx_new (pc := 8) (id := 127) C dL_law_8 ci_8 (by decide +kernel) cl_L_10 in_8 iz_8 ⟨by decide, by decide⟩ (by decide +kernel) ?_
    refine mx_dup (pc := 11) C dL_law_11 rfl ?_
    refine mx_callI (pc := 12) (as := []) (o := 127) (rest := [aR 127]) C mw_X8_init mi_X8_init mv_X8_init rfl ml_L_12 (by decide) ⟨by decide, by decide⟩ rfl (by decide) dL_law_12 (fun _ => ?_)
    refine mx_astore_n (pc := 15) (q := 2) (rest := []) (ls' := [some (aF 20), some (aR 0), some (aR 127), none]) C dL_law_15 (by decide) rfl rfl ?_
    refine mx_iconst (pc := 16) C dL_law_16 (z := 0) rfl (by constructor <;> decide) ?_
    refine mx_istore_n (pc := 17) (q := 3) (rest := []) (ls' := [some (aF 20), some (aR 0), some (aR 127), some (aI 0)]) C dL_law_17 (by decide) rfl rfl ?_
    rw [S_MB_SH]
    intro H locs la hW hS hLV hn
    exact hend H locs la ⟨hW.1, fun h => (by cases h), hW.2.2⟩ hS hLV hn
  have hfr : cV s.heap.size fa (aF 20) = Value.ref b := by
    show Value.ref (fa 20) = Value.ref b
    rw [hfa]
  have hLV := LV_ent (b := s.heap.size) (fa := fa) (as := [aF 20]) (nL := 4) (fun v hv => by
    rcases List.mem_cons.mp hv with e1 | e1
    · rw [e1]; trivial
    · cases e1) (Nat.le_of_ble_eq_true rfl)
  have h0 := hgo s.heap [] _ hW0 va_S.rf hLV (fun v h => by cases h)
  rw [lg_entry_eq]
  rw [List.map_cons, hfr] at h0
  exact h0
