/-! ===== contracts, by own program ===== -/
set_option maxHeartbeats 4000000 in
set_option maxRecDepth 100000 in
theorem kX3_fewest (l : Launch) (dC : Nat → ClassId) (dI : Nat → Nat → Nat) (cI cJ : ClassId) (q : Nat → Nat) (sz : Nat)  (nc0 : Int32) (lc0 : Int32) (le0 : Nat → Int32) (ge0 : Nat → Int32) (wt0 : Nat → Int32) (kp0 : Nat → Int32) (fo0 : Nat → Int32) (po0 : Nat → Int32) (na0 : Nat → Int32) (ns0 : Int32) (ta0 : Nat → Int32) (ts0 : Int32) (mx0 : Nat → Int64) (ch0 : Nat → Int32) (mo0 : Nat → Int64) (ms0 : Int32) (fs0 : Nat → Int32) (y1 : Int32) (y2 : Int32) (hd : ∃ z, pX3_fewest nc0 lc0 le0 ge0 wt0 kp0 fo0 po0 na0 ns0 ta0 ts0 fs0 y1 y2 = some z) : Met l yX3_fewest wsX3_fewest ({ frames := 19, cells := 0, slots := 0, locals := 528 }) (fw_Pc (dC, dI) (fw_tys cI cJ) (wX cI cJ q  nc0 lc0 le0 ge0 wt0 kp0 fo0 po0 na0 ns0 ta0 ts0 mx0 ch0 mo0 ms0 fs0) ([.ref (q 0), .int y1, .int y2] : List Value) sz) (va_Qi (fun (r : Int32) (u : (Nat → Int32) × (Nat → Int32) × (Nat → Int32) × Int32 × (Nat → Int32) × Int32 × (Nat → Int32)) => pX3_fewest nc0 lc0 le0 ge0 wt0 kp0 fo0 po0 na0 ns0 ta0 ts0 fs0 y1 y2 = some (r, u)) (fun u t => fw_B (dC, dI) (va_A (wX cI cJ q  nc0 lc0 le0 ge0 wt0 kp0 fo0 po0 na0 ns0 ta0 ts0 mx0 ch0 mo0 ms0 fs0) sz) (wX cI cJ q  nc0 lc0 le0 ge0 wt0 kp0 u.1 u.2.1 u.2.2.1 u.2.2.2.1 u.2.2.2.2.1 u.2.2.2.2.2.1 mx0 ch0 mo0 ms0 u.2.2.2.2.2.2) t) (va_A (wX cI cJ q  nc0 lc0 le0 ge0 wt0 kp0 fo0 po0 na0 ns0 ta0 ts0 mx0 ch0 mo0 ms0 fs0) sz)) 0 0 (va_A (wX cI cJ q  nc0 lc0 le0 ge0 wt0 kp0 fo0 po0 na0 ns0 ta0 ts0 mx0 ch0 mo0 ms0 fs0) sz) := by
  obtain ⟨z, hz⟩ := hd
  refine Met.ofW (cc := cX3_fewest) (maxL := 4) (ret := (some .int)) (by decide) rfl ?_
  intro p e s m args below meth c s₁ B hml hv
  obtain ⟨rfl, hsz, hP, hK, hD0, hN⟩ := hv
  have hx := B.exec
  have hb := B.bytes
  have hr := B.returns
  have hts := atoms_spec (ws := wsX3_fewest) B.pre
  have hown : s.vm.findClass RX3 = some m.cls := findClass_of_methodNamed B.named
  have hlocks := B.notSynchronized
  subst hsz
  have hD := hD0.self (sz := s.heap.size)
  generalize hAe : va_A (wX cI cJ q  nc0 lc0 le0 ge0 wt0 kp0 fo0 po0 na0 ns0 ta0 ts0 mx0 ch0 mo0 ms0 fs0) s.heap.size = A at hD ⊢
  have hA : ∀ q : Nat, s.heap.size ≤ q → A q := fun q h => by rw [← hAe]; exact Or.inr h
  have hq := hz
  dsimp only [pX3_fewest] at hq
  have hl := lv_entry (([.ref (q 0), .int y1, .int y2] : List Value)) (n := 4) (Nat.le_of_ble_eq_true rfl)
  rw [lg_entry_eq]
  generalize (lg_sl (([.ref (q 0), .int y1, .int y2] : List Value)) ++ List.replicate (4 - (lg_sl (([.ref (q 0), .int y1, .int y2] : List Value))).length) Slot.unset).toArray = ls at hl ⊢
  have hl : lv_has ls 4 [(0, .ref (q 0)), (1, .int y1), (2, .int y2)] := hl
  obtain ⟨H, hHe⟩ : ∃ H : Heap, H = s.heap := ⟨_, rfl⟩
  obtain ⟨locs, hLe⟩ : ∃ L : List Loc, L = [] := ⟨_, rfl⟩
  have hP : va_P (dC, dI) vwCl (wX cI cJ q  nc0 lc0 le0 ge0 wt0 kp0 fo0 po0 na0 ns0 ta0 ts0 mx0 ch0 mo0 ms0 fs0) H := by rw [hHe]; exact hP
  have hS : va_S A s.heap H locs := by rw [hHe, hLe]; exact va_S.rf
  show W p l e (headSpec wsX3_fewest ({ frames := 19, cells := 0, slots := 0, locals := 528 })).room s m ([.ref (q 0), .int y1, .int y2] : List Value).toArray below meth c s.heap [] 0 0 (MQ below (va_Qi (fun (r : Int32) (u : (Nat → Int32) × (Nat → Int32) × (Nat → Int32) × Int32 × (Nat → Int32) × Int32 × (Nat → Int32)) => pX3_fewest nc0 lc0 le0 ge0 wt0 kp0 fo0 po0 na0 ns0 ta0 ts0 fs0 y1 y2 = some (r, u)) (fun u t => fw_B (dC, dI) A (wX cI cJ q  nc0 lc0 le0 ge0 wt0 kp0 u.1 u.2.1 u.2.2.1 u.2.2.2.1 u.2.2.2.2.1 u.2.2.2.2.2.1 mx0 ch0 mo0 ms0 u.2.2.2.2.2.2) t) A) ([.ref (q 0), .int y1, .int y2] : List Value).toArray s 0 0 A) (F0 m 0 ls [])
  rw [← hHe, ← hLe]
  refine lv_iload_n hx hb dX3_fewest_0 rfl (lv_at hl 1 rfl) ?_
  refine lv_iconst (v := (1 : Int32)) hx hb dX3_fewest_1 (by decide) ?_
  refine lv_bipush (v := (9 : Int32)) hx hb dX3_fewest_2 (by decide) ?_
  have hPc := hP.sub (ws' := (w0 cI cJ   )) [] rfl
  have hDc := hD.sub (ws' := (w0 cI cJ   )) [] (by decide) rfl
  refine fw_ci (wr := [((q 0), .inr (3, [.int nc0, .int lc0, .ref (q 1), .ref (q 2), .ref (q 3), .ref (q 4), .ref (q 5), .ref (q 6), .ref (q 8), .ref (q 10), .ref (q 12), .ref (q 16)])), ((q 1), .inl (cI, 12, .inl le0)), ((q 2), .inl (cI, 12, .inl ge0)), ((q 3), .inl (cI, 12, .inl wt0)), ((q 4), .inl (cI, 12, .inl kp0)), ((q 5), .inl (cI, 12, .inl fo0)), ((q 6), .inr (2, [.ref (q 7)])), ((q 7), .inl (cI, 7, .inl po0)), ((q 8), .inr (0, [.ref (q 9), .int ns0])), ((q 9), .inl (cI, 49, .inl na0)), ((q 10), .inr (0, [.ref (q 11), .int ts0])), ((q 11), .inl (cI, 49, .inl ta0)), ((q 12), .inr (1, [.ref (q 13), .ref (q 14), .ref (q 15), .int ms0])), ((q 13), .inl (cJ, 49, .inr (.inl mx0))), ((q 14), .inl (cI, 7, .inl ch0)), ((q 15), .inl (cJ, 128, .inr (.inl mo0))), ((q 16), .inl (cI, 10, .inl fs0))]) (w2 := fun u => (wX cI cJ q  nc0 lc0 le0 ge0 wt0 kp0 fo0 po0 na0 ns0 ta0 ts0 mx0 ch0 mo0 ms0 fs0)) [] [0, 1, 2, 3, 4, 5, 6, 7, 8, 9, 10, 11, 12, 13, 14, 15, 16] [0, 1, 2, 3, 4, 5, 6, 7, 8, 9, 10, 11, 12, 13, 14, 15, 16] (va_runS (As := [.int y1, .int (1 : Int32), .int (9 : Int32)]) (rest := []) ⟨hx, hb, hml, hown, hts⟩ (kX3_isWithin l dC dI cI cJ  H.size   y1 (1 : Int32) (9 : Int32) (fw_be hq)) (va_cwS 3 hts gX3_fewest_X3_isWithin rfl rfl rfl (by decide +kernel) ⟨Nat.le_of_ble_eq_true rfl, Nat.le_of_ble_eq_true rfl⟩) ⟨fw_blind, fun U hU hW => fw_pre hPc hK hDc hN hU hW⟩ rfl rfl hl.1 rfl (lv_room (Nat.le_of_ble_eq_true rfl)) dX3_fewest_4 ⟨Nat.zero_le _, Nat.zero_le _⟩) hP hD hS hA rfl rfl (by decide) (by decide) (by decide) (fun _ => rfl) (fun r_1 u H locs hw hP hD hS => ?_)
  obtain ⟨hw, n_3⟩ := hw
  have hq := fw_bs hw hq
  try dsimp only at hq
  refine lv_if_eq (tgt := 19) hx hb dX3_fewest_7 (by decide) (fun c_4 => ?_) (fun c_4 => ?_)
  · have hq := fw_it c_4 hq
    refine lv_bipush (v := (-3 : Int32)) hx hb dX3_fewest_19 (by decide) ?_
    exact W.iret (v := (-3 : Int32)) hx hb hr (fun t ht hW => ⟨⟨(-3 : Int32), (fo0, po0, na0, ns0, ta0, ts0, fs0), rfl, hz.trans hq.symm, by rw [ht]; exact hP, hD⟩, hS.F ht⟩) hS.2.2 dX3_fewest_21
  · have hq := fw_if c_4 hq
    refine lv_iload_n hx hb dX3_fewest_10 rfl (lv_at hl 2 rfl) ?_
    refine lv_iconst (v := (0 : Int32)) hx hb dX3_fewest_11 (by decide) ?_
    refine lv_iconst (v := (1 : Int32)) hx hb dX3_fewest_12 (by decide) ?_
    have hPc := hP.sub (ws' := (w0 cI cJ   )) [] rfl
    have hDc := hD.sub (ws' := (w0 cI cJ   )) [] (by decide) rfl
    refine fw_ci (wr := [((q 0), .inr (3, [.int nc0, .int lc0, .ref (q 1), .ref (q 2), .ref (q 3), .ref (q 4), .ref (q 5), .ref (q 6), .ref (q 8), .ref (q 10), .ref (q 12), .ref (q 16)])), ((q 1), .inl (cI, 12, .inl le0)), ((q 2), .inl (cI, 12, .inl ge0)), ((q 3), .inl (cI, 12, .inl wt0)), ((q 4), .inl (cI, 12, .inl kp0)), ((q 5), .inl (cI, 12, .inl fo0)), ((q 6), .inr (2, [.ref (q 7)])), ((q 7), .inl (cI, 7, .inl po0)), ((q 8), .inr (0, [.ref (q 9), .int ns0])), ((q 9), .inl (cI, 49, .inl na0)), ((q 10), .inr (0, [.ref (q 11), .int ts0])), ((q 11), .inl (cI, 49, .inl ta0)), ((q 12), .inr (1, [.ref (q 13), .ref (q 14), .ref (q 15), .int ms0])), ((q 13), .inl (cJ, 49, .inr (.inl mx0))), ((q 14), .inl (cI, 7, .inl ch0)), ((q 15), .inl (cJ, 128, .inr (.inl mo0))), ((q 16), .inl (cI, 10, .inl fs0))]) (w2 := fun u => (wX cI cJ q  nc0 lc0 le0 ge0 wt0 kp0 fo0 po0 na0 ns0 ta0 ts0 mx0 ch0 mo0 ms0 fs0)) [] [0, 1, 2, 3, 4, 5, 6, 7, 8, 9, 10, 11, 12, 13, 14, 15, 16] [0, 1, 2, 3, 4, 5, 6, 7, 8, 9, 10, 11, 12, 13, 14, 15, 16] (va_runS (As := [.int y2, .int (0 : Int32), .int (1 : Int32)]) (rest := []) ⟨hx, hb, hml, hown, hts⟩ (kX3_isWithin l dC dI cI cJ  H.size   y2 (0 : Int32) (1 : Int32) (fw_be hq)) (va_cwS 3 hts gX3_fewest_X3_isWithin rfl rfl rfl (by decide +kernel) ⟨Nat.le_of_ble_eq_true rfl, Nat.le_of_ble_eq_true rfl⟩) ⟨fw_blind, fun U hU hW => fw_pre hPc hK hDc hN hU hW⟩ rfl rfl hl.1 rfl (lv_room (Nat.le_of_ble_eq_true rfl)) dX3_fewest_13 ⟨Nat.zero_le _, Nat.zero_le _⟩) hP hD hS hA rfl rfl (by decide) (by decide) (by decide) (fun _ => rfl) (fun r_5 u H locs hw hP hD hS => ?_)
    obtain ⟨hw, n_7⟩ := hw
    have hq := fw_bs hw hq
    try dsimp only at hq
    refine lv_if_ne (tgt := 22) hx hb dX3_fewest_16 (by decide) (fun c_8 => ?_) (fun c_8 => ?_)
    · have hq := fw_if c_8 hq
      refine lv_aload_n hx hb dX3_fewest_22 rfl (lv_at hl 0 rfl) ?_
      refine lv_iload_n hx hb dX3_fewest_23 rfl (lv_at hl 1 rfl) ?_
      have hPc := hP.sub (ws' := (wX cI cJ q  nc0 lc0 le0 ge0 wt0 kp0 fo0 po0 na0 ns0 ta0 ts0 mx0 ch0 mo0 ms0 fs0)) [0, 1, 2, 3, 4, 5, 6, 7, 8, 9, 10, 11, 12, 13, 14, 15, 16] rfl
      have hDc := hD.sub (ws' := (wX cI cJ q  nc0 lc0 le0 ge0 wt0 kp0 fo0 po0 na0 ns0 ta0 ts0 mx0 ch0 mo0 ms0 fs0)) [0, 1, 2, 3, 4, 5, 6, 7, 8, 9, 10, 11, 12, 13, 14, 15, 16] (by decide) rfl
      refine fw_ci (wr := []) (w2 := fun u => (wX cI cJ q  nc0 lc0 le0 ge0 wt0 kp0 u.1 u.2.1 u.2.2.1 u.2.2.2.1 u.2.2.2.2.1 u.2.2.2.2.2.1 mx0 ch0 mo0 ms0 u.2.2.2.2.2.2)) [0, 1, 2, 3, 4, 5, 6, 7, 8, 9, 10, 11, 12, 13, 14, 15, 16] [] [0, 1, 2, 3, 4, 5, 6, 7, 8, 9, 10, 11, 12, 13, 14, 15, 16] (va_runV (b := (q 0)) (As := [.int y1]) (rest := []) ⟨hx, hb, hml, hown, hts⟩ (kX3_fewestSet l dC dI cI cJ q H.size  nc0 lc0 le0 ge0 wt0 kp0 fo0 po0 na0 ns0 ta0 ts0 mx0 ch0 mo0 ms0 fs0 y1 (fw_be hq)) (cwV 1 hts gX3_fewest_X3_fewestSet rfl rfl rfl (by decide +kernel) ⟨Nat.le_of_ble_eq_true rfl, Nat.le_of_ble_eq_true rfl⟩) ⟨fw_blind, va_recv hK hPc (ci := 3) (q0 := 0) rfl rfl, fun U hU hW => fw_pre hPc hK hDc hN hU hW⟩ rfl rfl hl.1 rfl (lv_room (Nat.le_of_ble_eq_true rfl)) dX3_fewest_24 ⟨Nat.zero_le _, Nat.zero_le _⟩) hP hD hS hA rfl rfl (by decide) (by decide) (by decide) (fun _ => rfl) (fun r_16 u H locs hw hP hD hS => ?_)
      obtain ⟨fo_9, po_10, na_11, ns_12, ta_13, ts_14, fs_15⟩ := u
      have hq := fw_bs hw hq
      try dsimp only at hq
      have hP : va_P (dC, dI) vwCl (wX cI cJ q  nc0 lc0 le0 ge0 wt0 kp0 fo_9 po_10 na_11 ns_12 ta_13 ts_14 mx0 ch0 mo0 ms0 fs_15) H := hP
      have hD : va_D A (wX cI cJ q  nc0 lc0 le0 ge0 wt0 kp0 fo_9 po_10 na_11 ns_12 ta_13 ts_14 mx0 ch0 mo0 ms0 fs_15) := hD
      refine lv_istore_n (lv' := [(3, .int r_16), (0, .ref (q 0)), (1, .int y1), (2, .int y2)]) hx hb dX3_fewest_27 rfl hl (by decide) rfl (fun ls hl => ?_)
      refine lv_iload_n hx hb dX3_fewest_28 rfl (lv_at hl 3 rfl) ?_
      refine lv_if_ne (tgt := 39) hx hb dX3_fewest_29 (by decide) (fun c_18 => ?_) (fun c_18 => ?_)
      · have hq := fw_if c_18 hq
        refine lv_iload_n hx hb dX3_fewest_39 rfl (lv_at hl 0 rfl) ?_
        exact W.iret (v := r_16) hx hb hr (fun t ht hW => ⟨⟨r_16, (fo_9, po_10, na_11, ns_12, ta_13, ts_14, fs_15), rfl, hz.trans hq.symm, by rw [ht]; exact hP, hD⟩, hS.F ht⟩) hS.2.2 dX3_fewest_40
      · have hq := fw_it c_18 hq
        refine lv_iload_n hx hb dX3_fewest_32 rfl (lv_at hl 0 rfl) ?_
        have hPc := hP.sub (ws' := (w0 cI cJ   )) [] rfl
        have hDc := hD.sub (ws' := (w0 cI cJ   )) [] (by decide) rfl
        refine fw_ci (wr := [((q 0), .inr (3, [.int nc0, .int lc0, .ref (q 1), .ref (q 2), .ref (q 3), .ref (q 4), .ref (q 5), .ref (q 6), .ref (q 8), .ref (q 10), .ref (q 12), .ref (q 16)])), ((q 1), .inl (cI, 12, .inl le0)), ((q 2), .inl (cI, 12, .inl ge0)), ((q 3), .inl (cI, 12, .inl wt0)), ((q 4), .inl (cI, 12, .inl kp0)), ((q 5), .inl (cI, 12, .inl fo_9)), ((q 6), .inr (2, [.ref (q 7)])), ((q 7), .inl (cI, 7, .inl po_10)), ((q 8), .inr (0, [.ref (q 9), .int ns_12])), ((q 9), .inl (cI, 49, .inl na_11)), ((q 10), .inr (0, [.ref (q 11), .int ts_14])), ((q 11), .inl (cI, 49, .inl ta_13)), ((q 12), .inr (1, [.ref (q 13), .ref (q 14), .ref (q 15), .int ms0])), ((q 13), .inl (cJ, 49, .inr (.inl mx0))), ((q 14), .inl (cI, 7, .inl ch0)), ((q 15), .inl (cJ, 128, .inr (.inl mo0))), ((q 16), .inl (cI, 10, .inl fs_15))]) (w2 := fun u => (wX cI cJ q  nc0 lc0 le0 ge0 wt0 kp0 fo_9 po_10 na_11 ns_12 ta_13 ts_14 mx0 ch0 mo0 ms0 fs_15)) [] [0, 1, 2, 3, 4, 5, 6, 7, 8, 9, 10, 11, 12, 13, 14, 15, 16] [0, 1, 2, 3, 4, 5, 6, 7, 8, 9, 10, 11, 12, 13, 14, 15, 16] (va_runS (As := [.int r_16]) (rest := []) ⟨hx, hb, hml, hown, hts⟩ (kJ6_bitCount_0f7a4 l dC dI cI cJ  H.size   r_16 (fw_be hq)) (va_cwS 1 hts gX3_fewest_J6_bitCount_0f7a4 rfl rfl rfl (by decide +kernel) ⟨Nat.le_of_ble_eq_true rfl, Nat.le_of_ble_eq_true rfl⟩) ⟨fw_blind, fun U hU hW => fw_pre hPc hK hDc hN hU hW⟩ rfl rfl hl.1 rfl (lv_room (Nat.le_of_ble_eq_true rfl)) dX3_fewest_33 ⟨Nat.zero_le _, Nat.zero_le _⟩) hP hD hS hA rfl rfl (by decide) (by decide) (by decide) (fun _ => rfl) (fun r_19 u H locs hw hP hD hS => ?_)
        have hq := fw_bs hw hq
        try dsimp only at hq
        refine lv_goto (tgt := 40) hx hb dX3_fewest_36 (by decide) ?_
        exact W.iret (v := r_19) hx hb hr (fun t ht hW => ⟨⟨r_19, (fo_9, po_10, na_11, ns_12, ta_13, ts_14, fs_15), rfl, hz.trans hq.symm, by rw [ht]; exact hP, hD⟩, hS.F ht⟩) hS.2.2 dX3_fewest_40
    · have hq := fw_it c_8 hq
      refine lv_bipush (v := (-3 : Int32)) hx hb dX3_fewest_19 (by decide) ?_
      exact W.iret (v := (-3 : Int32)) hx hb hr (fun t ht hW => ⟨⟨(-3 : Int32), (fo0, po0, na0, ns0, ta0, ts0, fs0), rfl, hz.trans hq.symm, by rw [ht]; exact hP, hD⟩, hS.F ht⟩) hS.2.2 dX3_fewest_21
set_option maxHeartbeats 4000000 in
set_option maxRecDepth 100000 in
theorem kX3_thin (l : Launch) (dC : Nat → ClassId) (dI : Nat → Nat → Nat) (cI cJ : ClassId) (q : Nat → Nat) (sz : Nat)  (nc0 : Int32) (lc0 : Int32) (le0 : Nat → Int32) (ge0 : Nat → Int32) (wt0 : Nat → Int32) (kp0 : Nat → Int32) (fo0 : Nat → Int32) (po0 : Nat → Int32) (na0 : Nat → Int32) (ns0 : Int32) (ta0 : Nat → Int32) (ts0 : Int32) (mx0 : Nat → Int64) (ch0 : Nat → Int32) (mo0 : Nat → Int64) (ms0 : Int32) (fs0 : Nat → Int32) (y1 : Int32) (hd : ∃ z, pX3_thin nc0 lc0 le0 ge0 wt0 kp0 fo0 po0 na0 ns0 ta0 ts0 fs0 y1 = some z) : Met l yX3_thin wsX3_thin ({ frames := 19, cells := 0, slots := 0, locals := 528 }) (fw_Pc (dC, dI) (fw_tys cI cJ) (wX cI cJ q  nc0 lc0 le0 ge0 wt0 kp0 fo0 po0 na0 ns0 ta0 ts0 mx0 ch0 mo0 ms0 fs0) ([.ref (q 0), .int y1] : List Value) sz) (va_Qi (fun (r : Int32) (u : (Nat → Int32) × (Nat → Int32) × (Nat → Int32) × (Nat → Int32) × Int32 × (Nat → Int32) × Int32 × (Nat → Int32)) => pX3_thin nc0 lc0 le0 ge0 wt0 kp0 fo0 po0 na0 ns0 ta0 ts0 fs0 y1 = some (r, u)) (fun u t => fw_B (dC, dI) (va_A (wX cI cJ q  nc0 lc0 le0 ge0 wt0 kp0 fo0 po0 na0 ns0 ta0 ts0 mx0 ch0 mo0 ms0 fs0) sz) (wX cI cJ q  nc0 lc0 le0 ge0 wt0 u.1 u.2.1 u.2.2.1 u.2.2.2.1 u.2.2.2.2.1 u.2.2.2.2.2.1 u.2.2.2.2.2.2.1 mx0 ch0 mo0 ms0 u.2.2.2.2.2.2.2) t) (va_A (wX cI cJ q  nc0 lc0 le0 ge0 wt0 kp0 fo0 po0 na0 ns0 ta0 ts0 mx0 ch0 mo0 ms0 fs0) sz)) 0 0 (va_A (wX cI cJ q  nc0 lc0 le0 ge0 wt0 kp0 fo0 po0 na0 ns0 ta0 ts0 mx0 ch0 mo0 ms0 fs0) sz) := by
  obtain ⟨z, hz⟩ := hd
  refine Met.ofW (cc := cX3_thin) (maxL := 2) (ret := (some .int)) (by decide) rfl ?_
  intro p e s m args below meth c s₁ B hml hv
  obtain ⟨rfl, hsz, hP, hK, hD0, hN⟩ := hv
  have hx := B.exec
  have hb := B.bytes
  have hr := B.returns
  have hts := atoms_spec (ws := wsX3_thin) B.pre
  have hown : s.vm.findClass RX3 = some m.cls := findClass_of_methodNamed B.named
  have hlocks := B.notSynchronized
  subst hsz
  have hD := hD0.self (sz := s.heap.size)
  generalize hAe : va_A (wX cI cJ q  nc0 lc0 le0 ge0 wt0 kp0 fo0 po0 na0 ns0 ta0 ts0 mx0 ch0 mo0 ms0 fs0) s.heap.size = A at hD ⊢
  have hA : ∀ q : Nat, s.heap.size ≤ q → A q := fun q h => by rw [← hAe]; exact Or.inr h
  have hq := hz
  dsimp only [pX3_thin] at hq
  have hl := lv_entry (([.ref (q 0), .int y1] : List Value)) (n := 2) (Nat.le_of_ble_eq_true rfl)
  rw [lg_entry_eq]
  generalize (lg_sl (([.ref (q 0), .int y1] : List Value)) ++ List.replicate (2 - (lg_sl (([.ref (q 0), .int y1] : List Value))).length) Slot.unset).toArray = ls at hl ⊢
  have hl : lv_has ls 2 [(0, .ref (q 0)), (1, .int y1)] := hl
  obtain ⟨H, hHe⟩ : ∃ H : Heap, H = s.heap := ⟨_, rfl⟩
  obtain ⟨locs, hLe⟩ : ∃ L : List Loc, L = [] := ⟨_, rfl⟩
  have hP : va_P (dC, dI) vwCl (wX cI cJ q  nc0 lc0 le0 ge0 wt0 kp0 fo0 po0 na0 ns0 ta0 ts0 mx0 ch0 mo0 ms0 fs0) H := by rw [hHe]; exact hP
  have hS : va_S A s.heap H locs := by rw [hHe, hLe]; exact va_S.rf
  show W p l e (headSpec wsX3_thin ({ frames := 19, cells := 0, slots := 0, locals := 528 })).room s m ([.ref (q 0), .int y1] : List Value).toArray below meth c s.heap [] 0 0 (MQ below (va_Qi (fun (r : Int32) (u : (Nat → Int32) × (Nat → Int32) × (Nat → Int32) × (Nat → Int32) × Int32 × (Nat → Int32) × Int32 × (Nat → Int32)) => pX3_thin nc0 lc0 le0 ge0 wt0 kp0 fo0 po0 na0 ns0 ta0 ts0 fs0 y1 = some (r, u)) (fun u t => fw_B (dC, dI) A (wX cI cJ q  nc0 lc0 le0 ge0 wt0 u.1 u.2.1 u.2.2.1 u.2.2.2.1 u.2.2.2.2.1 u.2.2.2.2.2.1 u.2.2.2.2.2.2.1 mx0 ch0 mo0 ms0 u.2.2.2.2.2.2.2) t) A) ([.ref (q 0), .int y1] : List Value).toArray s 0 0 A) (F0 m 0 ls [])
  rw [← hHe, ← hLe]
  refine lv_iload_n hx hb dX3_thin_0 rfl (lv_at hl 1 rfl) ?_
  refine lv_iconst (v := (1 : Int32)) hx hb dX3_thin_1 (by decide) ?_
  refine lv_bipush (v := (9 : Int32)) hx hb dX3_thin_2 (by decide) ?_
  have hPc := hP.sub (ws' := (w0 cI cJ   )) [] rfl
  have hDc := hD.sub (ws' := (w0 cI cJ   )) [] (by decide) rfl
  refine fw_ci (wr := [((q 0), .inr (3, [.int nc0, .int lc0, .ref (q 1), .ref (q 2), .ref (q 3), .ref (q 4), .ref (q 5), .ref (q 6), .ref (q 8), .ref (q 10), .ref (q 12), .ref (q 16)])), ((q 1), .inl (cI, 12, .inl le0)), ((q 2), .inl (cI, 12, .inl ge0)), ((q 3), .inl (cI, 12, .inl wt0)), ((q 4), .inl (cI, 12, .inl kp0)), ((q 5), .inl (cI, 12, .inl fo0)), ((q 6), .inr (2, [.ref (q 7)])), ((q 7), .inl (cI, 7, .inl po0)), ((q 8), .inr (0, [.ref (q 9), .int ns0])), ((q 9), .inl (cI, 49, .inl na0)), ((q 10), .inr (0, [.ref (q 11), .int ts0])), ((q 11), .inl (cI, 49, .inl ta0)), ((q 12), .inr (1, [.ref (q 13), .ref (q 14), .ref (q 15), .int ms0])), ((q 13), .inl (cJ, 49, .inr (.inl mx0))), ((q 14), .inl (cI, 7, .inl ch0)), ((q 15), .inl (cJ, 128, .inr (.inl mo0))), ((q 16), .inl (cI, 10, .inl fs0))]) (w2 := fun u => (wX cI cJ q  nc0 lc0 le0 ge0 wt0 kp0 fo0 po0 na0 ns0 ta0 ts0 mx0 ch0 mo0 ms0 fs0)) [] [0, 1, 2, 3, 4, 5, 6, 7, 8, 9, 10, 11, 12, 13, 14, 15, 16] [0, 1, 2, 3, 4, 5, 6, 7, 8, 9, 10, 11, 12, 13, 14, 15, 16] (va_runS (As := [.int y1, .int (1 : Int32), .int (9 : Int32)]) (rest := []) ⟨hx, hb, hml, hown, hts⟩ (kX3_isWithin l dC dI cI cJ  H.size   y1 (1 : Int32) (9 : Int32) (fw_be hq)) (va_cwS 3 hts gX3_thin_X3_isWithin rfl rfl rfl (by decide +kernel) ⟨Nat.le_of_ble_eq_true rfl, Nat.le_of_ble_eq_true rfl⟩) ⟨fw_blind, fun U hU hW => fw_pre hPc hK hDc hN hU hW⟩ rfl rfl hl.1 rfl (lv_room (Nat.le_of_ble_eq_true rfl)) dX3_thin_4 ⟨Nat.zero_le _, Nat.zero_le _⟩) hP hD hS hA rfl rfl (by decide) (by decide) (by decide) (fun _ => rfl) (fun r_1 u H locs hw hP hD hS => ?_)
  obtain ⟨hw, n_3⟩ := hw
  have hq := fw_bs hw hq
  try dsimp only at hq
  refine lv_if_ne (tgt := 13) hx hb dX3_thin_7 (by decide) (fun c_4 => ?_) (fun c_4 => ?_)
  · have hq := fw_if c_4 hq
    refine lv_aload_n hx hb dX3_thin_13 rfl (lv_at hl 0 rfl) ?_
    refine lv_aload_n hx hb dX3_thin_14 rfl (lv_at hl 0 rfl) ?_
    refine lv_iload_n hx hb dX3_thin_15 rfl (lv_at hl 1 rfl) ?_
    have hPc := hP.sub (ws' := (wX cI cJ q  nc0 lc0 le0 ge0 wt0 kp0 fo0 po0 na0 ns0 ta0 ts0 mx0 ch0 mo0 ms0 fs0)) [0, 1, 2, 3, 4, 5, 6, 7, 8, 9, 10, 11, 12, 13, 14, 15, 16] rfl
    have hDc := hD.sub (ws' := (wX cI cJ q  nc0 lc0 le0 ge0 wt0 kp0 fo0 po0 na0 ns0 ta0 ts0 mx0 ch0 mo0 ms0 fs0)) [0, 1, 2, 3, 4, 5, 6, 7, 8, 9, 10, 11, 12, 13, 14, 15, 16] (by decide) rfl
    refine fw_ci (wr := []) (w2 := fun u => (wX cI cJ q  nc0 lc0 le0 ge0 wt0 kp0 u.1 u.2.1 u.2.2.1 u.2.2.2.1 u.2.2.2.2.1 u.2.2.2.2.2.1 mx0 ch0 mo0 ms0 u.2.2.2.2.2.2)) [0, 1, 2, 3, 4, 5, 6, 7, 8, 9, 10, 11, 12, 13, 14, 15, 16] [] [0, 1, 2, 3, 4, 5, 6, 7, 8, 9, 10, 11, 12, 13, 14, 15, 16] (va_runV (b := (q 0)) (As := [.int y1]) (rest := [.ref (q 0)]) ⟨hx, hb, hml, hown, hts⟩ (kX3_fewestSet l dC dI cI cJ q H.size  nc0 lc0 le0 ge0 wt0 kp0 fo0 po0 na0 ns0 ta0 ts0 mx0 ch0 mo0 ms0 fs0 y1 (fw_be hq)) (cwV 1 hts gX3_thin_X3_fewestSet rfl rfl rfl (by decide +kernel) ⟨Nat.le_of_ble_eq_true rfl, Nat.le_of_ble_eq_true rfl⟩) ⟨fw_blind, va_recv hK hPc (ci := 3) (q0 := 0) rfl rfl, fun U hU hW => fw_pre hPc hK hDc hN hU hW⟩ rfl rfl hl.1 rfl (lv_room (Nat.le_of_ble_eq_true rfl)) dX3_thin_16 ⟨Nat.zero_le _, Nat.zero_le _⟩) hP hD hS hA rfl rfl (by decide) (by decide) (by decide) (fun _ => rfl) (fun r_12 u H locs hw hP hD hS => ?_)
    obtain ⟨fo_5, po_6, na_7, ns_8, ta_9, ts_10, fs_11⟩ := u
    have hq := fw_bs hw hq
    try dsimp only at hq
    have hP : va_P (dC, dI) vwCl (wX cI cJ q  nc0 lc0 le0 ge0 wt0 kp0 fo_5 po_6 na_7 ns_8 ta_9 ts_10 mx0 ch0 mo0 ms0 fs_11) H := hP
    have hD : va_D A (wX cI cJ q  nc0 lc0 le0 ge0 wt0 kp0 fo_5 po_6 na_7 ns_8 ta_9 ts_10 mx0 ch0 mo0 ms0 fs_11) := hD
    have hPc := hP.sub (ws' := (wX cI cJ q  nc0 lc0 le0 ge0 wt0 kp0 fo_5 po_6 na_7 ns_8 ta_9 ts_10 mx0 ch0 mo0 ms0 fs_11)) [0, 1, 2, 3, 4, 5, 6, 7, 8, 9, 10, 11, 12, 13, 14, 15, 16] rfl
    have hDc := hD.sub (ws' := (wX cI cJ q  nc0 lc0 le0 ge0 wt0 kp0 fo_5 po_6 na_7 ns_8 ta_9 ts_10 mx0 ch0 mo0 ms0 fs_11)) [0, 1, 2, 3, 4, 5, 6, 7, 8, 9, 10, 11, 12, 13, 14, 15, 16] (by decide) rfl
    refine fw_ci (wr := []) (w2 := fun u => (wX cI cJ q  nc0 lc0 le0 ge0 wt0 u fo_5 po_6 na_7 ns_8 ta_9 ts_10 mx0 ch0 mo0 ms0 fs_11)) [0, 1, 2, 3, 4, 5, 6, 7, 8, 9, 10, 11, 12, 13, 14, 15, 16] [] [0, 1, 2, 3, 4, 5, 6, 7, 8, 9, 10, 11, 12, 13, 14, 15, 16] (va_runV (b := (q 0)) (As := [.int r_12]) (rest := []) ⟨hx, hb, hml, hown, hts⟩ (kX3_keepJust l dC dI cI cJ q H.size  nc0 lc0 le0 ge0 wt0 kp0 fo_5 po_6 na_7 ns_8 ta_9 ts_10 mx0 ch0 mo0 ms0 fs_11 r_12 (fw_be hq)) (cwV 1 hts gX3_thin_X3_keepJust rfl rfl rfl (by decide +kernel) ⟨Nat.le_of_ble_eq_true rfl, Nat.le_of_ble_eq_true rfl⟩) ⟨fw_blind, va_recv hK hPc (ci := 3) (q0 := 0) rfl rfl, fun U hU hW => fw_pre hPc hK hDc hN hU hW⟩ rfl rfl hl.1 rfl (lv_room (Nat.le_of_ble_eq_true rfl)) dX3_thin_19 ⟨Nat.zero_le _, Nat.zero_le _⟩) hP hD hS hA rfl rfl (by decide) (by decide) (by decide) (fun _ => rfl) (fun r_15 u H locs hw hP hD hS => ?_)
    obtain ⟨kp_14, rfl⟩ : ∃ z, z = u := ⟨_, rfl⟩
    have hq := fw_bs hw hq
    try dsimp only at hq
    have hP : va_P (dC, dI) vwCl (wX cI cJ q  nc0 lc0 le0 ge0 wt0 kp_14 fo_5 po_6 na_7 ns_8 ta_9 ts_10 mx0 ch0 mo0 ms0 fs_11) H := hP
    have hD : va_D A (wX cI cJ q  nc0 lc0 le0 ge0 wt0 kp_14 fo_5 po_6 na_7 ns_8 ta_9 ts_10 mx0 ch0 mo0 ms0 fs_11) := hD
    exact W.iret (v := r_15) hx hb hr (fun t ht hW => ⟨⟨r_15, (kp_14, fo_5, po_6, na_7, ns_8, ta_9, ts_10, fs_11), rfl, hz.trans hq.symm, by rw [ht]; exact hP, hD⟩, hS.F ht⟩) hS.2.2 dX3_thin_22
  · have hq := fw_it c_4 hq
    refine lv_bipush (v := (-3 : Int32)) hx hb dX3_thin_10 (by decide) ?_
    exact W.iret (v := (-3 : Int32)) hx hb hr (fun t ht hW => ⟨⟨(-3 : Int32), (kp0, fo0, po0, na0, ns0, ta0, ts0, fs0), rfl, hz.trans hq.symm, by rw [ht]; exact hP, hD⟩, hS.F ht⟩) hS.2.2 dX3_thin_12
set_option maxHeartbeats 4000000 in
set_option maxRecDepth 100000 in
theorem kX3_far (l : Launch) (dC : Nat → ClassId) (dI : Nat → Nat → Nat) (cI cJ : ClassId) (q : Nat → Nat) (sz : Nat)  (nc0 : Int32) (lc0 : Int32) (le0 : Nat → Int32) (ge0 : Nat → Int32) (wt0 : Nat → Int32) (kp0 : Nat → Int32) (fo0 : Nat → Int32) (po0 : Nat → Int32) (na0 : Nat → Int32) (ns0 : Int32) (ta0 : Nat → Int32) (ts0 : Int32) (mx0 : Nat → Int64) (ch0 : Nat → Int32) (mo0 : Nat → Int64) (ms0 : Int32) (fs0 : Nat → Int32) (y1 : Int32) (y2 : Int32) (y3 : Int32) (hd : ∃ z, pX3_far nc0 lc0 le0 ge0 wt0 kp0 na0 ns0 ta0 ts0 y1 y2 y3 = some z) : Met l yX3_far wsX3_far ({ frames := 4, cells := 0, slots := 0, locals := 97 }) (fw_Pc (dC, dI) (fw_tys cI cJ) (wX cI cJ q  nc0 lc0 le0 ge0 wt0 kp0 fo0 po0 na0 ns0 ta0 ts0 mx0 ch0 mo0 ms0 fs0) ([.ref (q 0), .int y1, .int y2, .int y3] : List Value) sz) (va_Qi (fun (r : Int32) (u : (Nat → Int32) × Int32 × (Nat → Int32) × Int32) => pX3_far nc0 lc0 le0 ge0 wt0 kp0 na0 ns0 ta0 ts0 y1 y2 y3 = some (r, u)) (fun u t => fw_B (dC, dI) (va_A (wX cI cJ q  nc0 lc0 le0 ge0 wt0 kp0 fo0 po0 na0 ns0 ta0 ts0 mx0 ch0 mo0 ms0 fs0) sz) (wX cI cJ q  nc0 lc0 le0 ge0 wt0 kp0 fo0 po0 u.1 u.2.1 u.2.2.1 u.2.2.2 mx0 ch0 mo0 ms0 fs0) t) (va_A (wX cI cJ q  nc0 lc0 le0 ge0 wt0 kp0 fo0 po0 na0 ns0 ta0 ts0 mx0 ch0 mo0 ms0 fs0) sz)) 0 0 (va_A (wX cI cJ q  nc0 lc0 le0 ge0 wt0 kp0 fo0 po0 na0 ns0 ta0 ts0 mx0 ch0 mo0 ms0 fs0) sz) := by
  obtain ⟨z, hz⟩ := hd
  refine Met.ofW (cc := cX3_far) (maxL := 5) (ret := (some .int)) (by decide) rfl ?_
  intro p e s m args below meth c s₁ B hml hv
  obtain ⟨rfl, hsz, hP, hK, hD0, hN⟩ := hv
  have hx := B.exec
  have hb := B.bytes
  have hr := B.returns
  have hts := atoms_spec (ws := wsX3_far) B.pre
  have hown : s.vm.findClass RX3 = some m.cls := findClass_of_methodNamed B.named
  have hlocks := B.notSynchronized
  subst hsz
  have hD := hD0.self (sz := s.heap.size)
  generalize hAe : va_A (wX cI cJ q  nc0 lc0 le0 ge0 wt0 kp0 fo0 po0 na0 ns0 ta0 ts0 mx0 ch0 mo0 ms0 fs0) s.heap.size = A at hD ⊢
  have hA : ∀ q : Nat, s.heap.size ≤ q → A q := fun q h => by rw [← hAe]; exact Or.inr h
  have hq := hz
  dsimp only [pX3_far] at hq
  have hl := lv_entry (([.ref (q 0), .int y1, .int y2, .int y3] : List Value)) (n := 5) (Nat.le_of_ble_eq_true rfl)
  rw [lg_entry_eq]
  generalize (lg_sl (([.ref (q 0), .int y1, .int y2, .int y3] : List Value)) ++ List.replicate (5 - (lg_sl (([.ref (q 0), .int y1, .int y2, .int y3] : List Value))).length) Slot.unset).toArray = ls at hl ⊢
  have hl : lv_has ls 5 [(0, .ref (q 0)), (1, .int y1), (2, .int y2), (3, .int y3)] := hl
  obtain ⟨H, hHe⟩ : ∃ H : Heap, H = s.heap := ⟨_, rfl⟩
  obtain ⟨locs, hLe⟩ : ∃ L : List Loc, L = [] := ⟨_, rfl⟩
  have hP : va_P (dC, dI) vwCl (wX cI cJ q  nc0 lc0 le0 ge0 wt0 kp0 fo0 po0 na0 ns0 ta0 ts0 mx0 ch0 mo0 ms0 fs0) H := by rw [hHe]; exact hP
  have hS : va_S A s.heap H locs := by rw [hHe, hLe]; exact va_S.rf
  show W p l e (headSpec wsX3_far ({ frames := 4, cells := 0, slots := 0, locals := 97 })).room s m ([.ref (q 0), .int y1, .int y2, .int y3] : List Value).toArray below meth c s.heap [] 0 0 (MQ below (va_Qi (fun (r : Int32) (u : (Nat → Int32) × Int32 × (Nat → Int32) × Int32) => pX3_far nc0 lc0 le0 ge0 wt0 kp0 na0 ns0 ta0 ts0 y1 y2 y3 = some (r, u)) (fun u t => fw_B (dC, dI) A (wX cI cJ q  nc0 lc0 le0 ge0 wt0 kp0 fo0 po0 u.1 u.2.1 u.2.2.1 u.2.2.2 mx0 ch0 mo0 ms0 fs0) t) A) ([.ref (q 0), .int y1, .int y2, .int y3] : List Value).toArray s 0 0 A) (F0 m 0 ls [])
  rw [← hHe, ← hLe]
  refine lv_aload_n hx hb dX3_far_0 rfl (lv_at hl 0 rfl) ?_
  refine lv_iload_n hx hb dX3_far_1 rfl (lv_at hl 1 rfl) ?_
  have hPc := hP.sub (ws' := (wX cI cJ q  nc0 lc0 le0 ge0 wt0 kp0 fo0 po0 na0 ns0 ta0 ts0 mx0 ch0 mo0 ms0 fs0)) [0, 1, 2, 3, 4, 5, 6, 7, 8, 9, 10, 11, 12, 13, 14, 15, 16] rfl
  have hDc := hD.sub (ws' := (wX cI cJ q  nc0 lc0 le0 ge0 wt0 kp0 fo0 po0 na0 ns0 ta0 ts0 mx0 ch0 mo0 ms0 fs0)) [0, 1, 2, 3, 4, 5, 6, 7, 8, 9, 10, 11, 12, 13, 14, 15, 16] (by decide) rfl
  refine fw_ci (wr := []) (w2 := fun u => (wX cI cJ q  nc0 lc0 le0 ge0 wt0 kp0 fo0 po0 na0 ns0 ta0 ts0 mx0 ch0 mo0 ms0 fs0)) [0, 1, 2, 3, 4, 5, 6, 7, 8, 9, 10, 11, 12, 13, 14, 15, 16] [] [0, 1, 2, 3, 4, 5, 6, 7, 8, 9, 10, 11, 12, 13, 14, 15, 16] (va_runV (b := (q 0)) (As := [.int y1]) (rest := []) ⟨hx, hb, hml, hown, hts⟩ (kX3_isNode l dC dI cI cJ q H.size  nc0 lc0 le0 ge0 wt0 kp0 fo0 po0 na0 ns0 ta0 ts0 mx0 ch0 mo0 ms0 fs0 y1 (fw_be hq)) (cwV 1 hts gX3_far_X3_isNode rfl rfl rfl (by decide +kernel) ⟨Nat.le_of_ble_eq_true rfl, Nat.le_of_ble_eq_true rfl⟩) ⟨fw_blind, va_recv hK hPc (ci := 3) (q0 := 0) rfl rfl, fun U hU hW => fw_pre hPc hK hDc hN hU hW⟩ rfl rfl hl.1 rfl (lv_room (Nat.le_of_ble_eq_true rfl)) dX3_far_2 ⟨Nat.zero_le _, Nat.zero_le _⟩) hP hD hS hA rfl rfl (by decide) (by decide) (by decide) (fun _ => rfl) (fun r_1 u H locs hw hP hD hS => ?_)
  obtain ⟨hw, n_3⟩ := hw
  have hq := fw_bs hw hq
  try dsimp only at hq
  refine lv_if_eq (tgt := 16) hx hb dX3_far_5 (by decide) (fun c_4 => ?_) (fun c_4 => ?_)
  · have hq := fw_it c_4 hq
    refine lv_bipush (v := (-2 : Int32)) hx hb dX3_far_16 (by decide) ?_
    exact W.iret (v := (-2 : Int32)) hx hb hr (fun t ht hW => ⟨⟨(-2 : Int32), (na0, ns0, ta0, ts0), rfl, hz.trans hq.symm, by rw [ht]; exact hP, hD⟩, hS.F ht⟩) hS.2.2 dX3_far_18
  · have hq := fw_if c_4 hq
    refine lv_aload_n hx hb dX3_far_8 rfl (lv_at hl 0 rfl) ?_
    refine lv_iload_n hx hb dX3_far_9 rfl (lv_at hl 2 rfl) ?_
    have hPc := hP.sub (ws' := (wX cI cJ q  nc0 lc0 le0 ge0 wt0 kp0 fo0 po0 na0 ns0 ta0 ts0 mx0 ch0 mo0 ms0 fs0)) [0, 1, 2, 3, 4, 5, 6, 7, 8, 9, 10, 11, 12, 13, 14, 15, 16] rfl
    have hDc := hD.sub (ws' := (wX cI cJ q  nc0 lc0 le0 ge0 wt0 kp0 fo0 po0 na0 ns0 ta0 ts0 mx0 ch0 mo0 ms0 fs0)) [0, 1, 2, 3, 4, 5, 6, 7, 8, 9, 10, 11, 12, 13, 14, 15, 16] (by decide) rfl
    refine fw_ci (wr := []) (w2 := fun u => (wX cI cJ q  nc0 lc0 le0 ge0 wt0 kp0 fo0 po0 na0 ns0 ta0 ts0 mx0 ch0 mo0 ms0 fs0)) [0, 1, 2, 3, 4, 5, 6, 7, 8, 9, 10, 11, 12, 13, 14, 15, 16] [] [0, 1, 2, 3, 4, 5, 6, 7, 8, 9, 10, 11, 12, 13, 14, 15, 16] (va_runV (b := (q 0)) (As := [.int y2]) (rest := []) ⟨hx, hb, hml, hown, hts⟩ (kX3_isNode l dC dI cI cJ q H.size  nc0 lc0 le0 ge0 wt0 kp0 fo0 po0 na0 ns0 ta0 ts0 mx0 ch0 mo0 ms0 fs0 y2 (fw_be hq)) (cwV 1 hts gX3_far_X3_isNode rfl rfl rfl (by decide +kernel) ⟨Nat.le_of_ble_eq_true rfl, Nat.le_of_ble_eq_true rfl⟩) ⟨fw_blind, va_recv hK hPc (ci := 3) (q0 := 0) rfl rfl, fun U hU hW => fw_pre hPc hK hDc hN hU hW⟩ rfl rfl hl.1 rfl (lv_room (Nat.le_of_ble_eq_true rfl)) dX3_far_10 ⟨Nat.zero_le _, Nat.zero_le _⟩) hP hD hS hA rfl rfl (by decide) (by decide) (by decide) (fun _ => rfl) (fun r_5 u H locs hw hP hD hS => ?_)
    obtain ⟨hw, n_7⟩ := hw
    have hq := fw_bs hw hq
    try dsimp only at hq
    refine lv_if_ne (tgt := 19) hx hb dX3_far_13 (by decide) (fun c_8 => ?_) (fun c_8 => ?_)
    · have hq := fw_if c_8 hq
      refine lv_iload_n hx hb dX3_far_19 rfl (lv_at hl 3 rfl) ?_
      have hPc := hP.sub (ws' := (w0 cI cJ   )) [] rfl
      have hDc := hD.sub (ws' := (w0 cI cJ   )) [] (by decide) rfl
      refine fw_ci (wr := [((q 0), .inr (3, [.int nc0, .int lc0, .ref (q 1), .ref (q 2), .ref (q 3), .ref (q 4), .ref (q 5), .ref (q 6), .ref (q 8), .ref (q 10), .ref (q 12), .ref (q 16)])), ((q 1), .inl (cI, 12, .inl le0)), ((q 2), .inl (cI, 12, .inl ge0)), ((q 3), .inl (cI, 12, .inl wt0)), ((q 4), .inl (cI, 12, .inl kp0)), ((q 5), .inl (cI, 12, .inl fo0)), ((q 6), .inr (2, [.ref (q 7)])), ((q 7), .inl (cI, 7, .inl po0)), ((q 8), .inr (0, [.ref (q 9), .int ns0])), ((q 9), .inl (cI, 49, .inl na0)), ((q 10), .inr (0, [.ref (q 11), .int ts0])), ((q 11), .inl (cI, 49, .inl ta0)), ((q 12), .inr (1, [.ref (q 13), .ref (q 14), .ref (q 15), .int ms0])), ((q 13), .inl (cJ, 49, .inr (.inl mx0))), ((q 14), .inl (cI, 7, .inl ch0)), ((q 15), .inl (cJ, 128, .inr (.inl mo0))), ((q 16), .inl (cI, 10, .inl fs0))]) (w2 := fun u => (wX cI cJ q  nc0 lc0 le0 ge0 wt0 kp0 fo0 po0 na0 ns0 ta0 ts0 mx0 ch0 mo0 ms0 fs0)) [] [0, 1, 2, 3, 4, 5, 6, 7, 8, 9, 10, 11, 12, 13, 14, 15, 16] [0, 1, 2, 3, 4, 5, 6, 7, 8, 9, 10, 11, 12, 13, 14, 15, 16] (va_runS (As := [.int y3]) (rest := []) ⟨hx, hb, hml, hown, hts⟩ (kX3_isWay l dC dI cI cJ  H.size   y3 (fw_be hq)) (va_cwS 1 hts gX3_far_X3_isWay rfl rfl rfl (by decide +kernel) ⟨Nat.le_of_ble_eq_true rfl, Nat.le_of_ble_eq_true rfl⟩) ⟨fw_blind, fun U hU hW => fw_pre hPc hK hDc hN hU hW⟩ rfl rfl hl.1 rfl (lv_room (Nat.le_of_ble_eq_true rfl)) dX3_far_20 ⟨Nat.zero_le _, Nat.zero_le _⟩) hP hD hS hA rfl rfl (by decide) (by decide) (by decide) (fun _ => rfl) (fun r_9 u H locs hw hP hD hS => ?_)
      obtain ⟨hw, n_11⟩ := hw
      have hq := fw_bs hw hq
      try dsimp only at hq
      refine lv_if_ne (tgt := 29) hx hb dX3_far_23 (by decide) (fun c_12 => ?_) (fun c_12 => ?_)
      · have hq := fw_if c_12 hq
        refine lv_aload_n hx hb dX3_far_29 rfl (lv_at hl 0 rfl) ?_
        refine lv_iload_n hx hb dX3_far_30 rfl (lv_at hl 3 rfl) ?_
        by_cases c_13 : y3 = (0 : Int32)
        · have hq := fw_it c_13 hq
          have hPc := hP.sub (ws' := (wX cI cJ q  nc0 lc0 le0 ge0 wt0 kp0 fo0 po0 na0 ns0 ta0 ts0 mx0 ch0 mo0 ms0 fs0)) [0, 1, 2, 3, 4, 5, 6, 7, 8, 9, 10, 11, 12, 13, 14, 15, 16] rfl
          have hDc := hD.sub (ws' := (wX cI cJ q  nc0 lc0 le0 ge0 wt0 kp0 fo0 po0 na0 ns0 ta0 ts0 mx0 ch0 mo0 ms0 fs0)) [0, 1, 2, 3, 4, 5, 6, 7, 8, 9, 10, 11, 12, 13, 14, 15, 16] (by decide) rfl
          refine fw_cr (wr := []) (w2 := fun u => (wX cI cJ q  nc0 lc0 le0 ge0 wt0 kp0 fo0 po0 u.1 u.2 ta0 ts0 mx0 ch0 mo0 ms0 fs0)) [0, 1, 2, 3, 4, 5, 6, 7, 8, 9, 10, 11, 12, 13, 14, 15, 16] [] [0, 1, 2, 3, 4, 5, 6, 7, 8, 9, 10, 11, 12, 13, 14, 15, 16] (va_runV (b := (q 0)) (As := [.int y3]) (rest := []) ⟨hx, hb, hml, hown, hts⟩ (kX3_measured_N l dC dI cI cJ q H.size  nc0 lc0 le0 ge0 wt0 kp0 fo0 po0 na0 ns0 ta0 ts0 mx0 ch0 mo0 ms0 fs0 y3 c_13 (fw_be hq)) (cwV 1 hts gX3_far_X3_measured rfl rfl rfl (by decide +kernel) ⟨Nat.le_of_ble_eq_true rfl, Nat.le_of_ble_eq_true rfl⟩) ⟨fw_blind, va_recv hK hPc (ci := 3) (q0 := 0) rfl rfl, fun U hU hW => fw_pre hPc hK hDc hN hU hW⟩ rfl rfl hl.1 rfl (lv_room (Nat.le_of_ble_eq_true rfl)) dX3_far_31 ⟨Nat.zero_le _, Nat.zero_le _⟩) hP hD hS hA rfl rfl (by decide) (by decide) (by decide) (fun _ => rfl) (fun u H locs hw hP hD hS => ?_)
          obtain ⟨na_14, ns_15⟩ := u
          have hq := fw_bs hw hq
          try dsimp only at hq
          have hP : va_P (dC, dI) vwCl (wX cI cJ q  nc0 lc0 le0 ge0 wt0 kp0 fo0 po0 na_14 ns_15 ta0 ts0 mx0 ch0 mo0 ms0 fs0) H := hP
          have hD : va_D A (wX cI cJ q  nc0 lc0 le0 ge0 wt0 kp0 fo0 po0 na_14 ns_15 ta0 ts0 mx0 ch0 mo0 ms0 fs0) := hD
          refine lv_iload_n hx hb dX3_far_34 rfl (lv_at hl 1 rfl) ?_
          refine lv_iload_n hx hb dX3_far_35 rfl (lv_at hl 2 rfl) ?_
          have hPc := hP.sub (ws' := (wL cI cJ (q 8) (q 9)  na_14 ns_15)) [8, 9] rfl
          have hDc := hD.sub (ws' := (wL cI cJ (q 8) (q 9)  na_14 ns_15)) [8, 9] (by decide) rfl
          refine fw_ci (wr := [((q 0), .inr (3, [.int nc0, .int lc0, .ref (q 1), .ref (q 2), .ref (q 3), .ref (q 4), .ref (q 5), .ref (q 6), .ref (q 8), .ref (q 10), .ref (q 12), .ref (q 16)])), ((q 1), .inl (cI, 12, .inl le0)), ((q 2), .inl (cI, 12, .inl ge0)), ((q 3), .inl (cI, 12, .inl wt0)), ((q 4), .inl (cI, 12, .inl kp0)), ((q 5), .inl (cI, 12, .inl fo0)), ((q 6), .inr (2, [.ref (q 7)])), ((q 7), .inl (cI, 7, .inl po0)), ((q 10), .inr (0, [.ref (q 11), .int ts0])), ((q 11), .inl (cI, 49, .inl ta0)), ((q 12), .inr (1, [.ref (q 13), .ref (q 14), .ref (q 15), .int ms0])), ((q 13), .inl (cJ, 49, .inr (.inl mx0))), ((q 14), .inl (cI, 7, .inl ch0)), ((q 15), .inl (cJ, 128, .inr (.inl mo0))), ((q 16), .inl (cI, 10, .inl fs0))]) (w2 := fun u => (wX cI cJ q  nc0 lc0 le0 ge0 wt0 kp0 fo0 po0 na_14 ns_15 ta0 ts0 mx0 ch0 mo0 ms0 fs0)) [8, 9] [0, 1, 2, 3, 4, 5, 6, 7, 10, 11, 12, 13, 14, 15, 16] [0, 1, 2, 3, 4, 5, 6, 7, 15, 16, 8, 9, 10, 11, 12, 13, 14] (va_runV (b := (q 8)) (As := [.int y1, .int y2]) (rest := []) ⟨hx, hb, hml, hown, hts⟩ (kX0_between l dC dI cI cJ (q 8) (q 9) H.size  na_14 ns_15 y1 y2 (fw_be hq)) (cwV 2 hts gX3_far_X0_between rfl rfl rfl (by decide +kernel) ⟨Nat.le_of_ble_eq_true rfl, Nat.le_of_ble_eq_true rfl⟩) ⟨fw_blind, va_recv hK hPc (ci := 0) (q0 := 0) rfl rfl, fun U hU hW => fw_pre hPc hK hDc hN hU hW⟩ rfl rfl hl.1 rfl (lv_room (Nat.le_of_ble_eq_true rfl)) dX3_far_36 ⟨Nat.zero_le _, Nat.zero_le _⟩) hP hD hS hA rfl rfl (by decide) (by decide) (by decide) (fun _ => rfl) (fun r_18 u H locs hw hP hD hS => ?_)
          have hq := fw_bs hw hq
          try dsimp only at hq
          refine lv_istore (lv' := [(4, .int r_18), (0, .ref (q 0)), (1, .int y1), (2, .int y2), (3, .int y3)]) hx hb dX3_far_39 hl (by decide) rfl (fun ls hl => ?_)
          refine lv_iload hx hb dX3_far_41 (lv_at hl 0 rfl) ?_
          refine lv_ldc hx hb hown (hts (.constant RX3 128 (1000000)) (by decide +kernel)) dX3_far_43 ?_
          refine lv_icmp_ge (tgt := 53) hx hb dX3_far_45 (by decide) (fun c_20 => ?_) (fun c_20 => ?_)
          · have hq := fw_it c_20 hq
            refine lv_iconst (v := (-1 : Int32)) hx hb dX3_far_53 (by decide) ?_
            exact W.iret (v := (-1 : Int32)) hx hb hr (fun t ht hW => ⟨⟨(-1 : Int32), (na_14, ns_15, ta0, ts0), rfl, hz.trans hq.symm, by rw [ht]; exact hP, hD⟩, hS.F ht⟩) hS.2.2 dX3_far_54
          · have hq := fw_if c_20 hq
            refine lv_iload hx hb dX3_far_48 (lv_at hl 0 rfl) ?_
            refine lv_goto (tgt := 54) hx hb dX3_far_50 (by decide) ?_
            exact W.iret (v := r_18) hx hb hr (fun t ht hW => ⟨⟨r_18, (na_14, ns_15, ta0, ts0), rfl, hz.trans hq.symm, by rw [ht]; exact hP, hD⟩, hS.F ht⟩) hS.2.2 dX3_far_54
        · have hq := fw_if c_13 hq
          have hPc := hP.sub (ws' := (wX cI cJ q  nc0 lc0 le0 ge0 wt0 kp0 fo0 po0 na0 ns0 ta0 ts0 mx0 ch0 mo0 ms0 fs0)) [0, 1, 2, 3, 4, 5, 6, 7, 8, 9, 10, 11, 12, 13, 14, 15, 16] rfl
          have hDc := hD.sub (ws' := (wX cI cJ q  nc0 lc0 le0 ge0 wt0 kp0 fo0 po0 na0 ns0 ta0 ts0 mx0 ch0 mo0 ms0 fs0)) [0, 1, 2, 3, 4, 5, 6, 7, 8, 9, 10, 11, 12, 13, 14, 15, 16] (by decide) rfl
          refine fw_cr (wr := []) (w2 := fun u => (wX cI cJ q  nc0 lc0 le0 ge0 wt0 kp0 fo0 po0 na0 ns0 u.1 u.2 mx0 ch0 mo0 ms0 fs0)) [0, 1, 2, 3, 4, 5, 6, 7, 8, 9, 10, 11, 12, 13, 14, 15, 16] [] [0, 1, 2, 3, 4, 5, 6, 7, 8, 9, 10, 11, 12, 13, 14, 15, 16] (va_runV (b := (q 0)) (As := [.int y3]) (rest := []) ⟨hx, hb, hml, hown, hts⟩ (kX3_measured_T l dC dI cI cJ q H.size  nc0 lc0 le0 ge0 wt0 kp0 fo0 po0 na0 ns0 ta0 ts0 mx0 ch0 mo0 ms0 fs0 y3 c_13 (fw_be hq)) (cwV 1 hts gX3_far_X3_measured rfl rfl rfl (by decide +kernel) ⟨Nat.le_of_ble_eq_true rfl, Nat.le_of_ble_eq_true rfl⟩) ⟨fw_blind, va_recv hK hPc (ci := 3) (q0 := 0) rfl rfl, fun U hU hW => fw_pre hPc hK hDc hN hU hW⟩ rfl rfl hl.1 rfl (lv_room (Nat.le_of_ble_eq_true rfl)) dX3_far_31 ⟨Nat.zero_le _, Nat.zero_le _⟩) hP hD hS hA rfl rfl (by decide) (by decide) (by decide) (fun _ => rfl) (fun u H locs hw hP hD hS => ?_)
          obtain ⟨ta_21, ts_22⟩ := u
          have hq := fw_bs hw hq
          try dsimp only at hq
          have hP : va_P (dC, dI) vwCl (wX cI cJ q  nc0 lc0 le0 ge0 wt0 kp0 fo0 po0 na0 ns0 ta_21 ts_22 mx0 ch0 mo0 ms0 fs0) H := hP
          have hD : va_D A (wX cI cJ q  nc0 lc0 le0 ge0 wt0 kp0 fo0 po0 na0 ns0 ta_21 ts_22 mx0 ch0 mo0 ms0 fs0) := hD
          refine lv_iload_n hx hb dX3_far_34 rfl (lv_at hl 1 rfl) ?_
          refine lv_iload_n hx hb dX3_far_35 rfl (lv_at hl 2 rfl) ?_
          have hPc := hP.sub (ws' := (wL cI cJ (q 10) (q 11)  ta_21 ts_22)) [10, 11] rfl
          have hDc := hD.sub (ws' := (wL cI cJ (q 10) (q 11)  ta_21 ts_22)) [10, 11] (by decide) rfl
          refine fw_ci (wr := [((q 0), .inr (3, [.int nc0, .int lc0, .ref (q 1), .ref (q 2), .ref (q 3), .ref (q 4), .ref (q 5), .ref (q 6), .ref (q 8), .ref (q 10), .ref (q 12), .ref (q 16)])), ((q 1), .inl (cI, 12, .inl le0)), ((q 2), .inl (cI, 12, .inl ge0)), ((q 3), .inl (cI, 12, .inl wt0)), ((q 4), .inl (cI, 12, .inl kp0)), ((q 5), .inl (cI, 12, .inl fo0)), ((q 6), .inr (2, [.ref (q 7)])), ((q 7), .inl (cI, 7, .inl po0)), ((q 8), .inr (0, [.ref (q 9), .int ns0])), ((q 9), .inl (cI, 49, .inl na0)), ((q 12), .inr (1, [.ref (q 13), .ref (q 14), .ref (q 15), .int ms0])), ((q 13), .inl (cJ, 49, .inr (.inl mx0))), ((q 14), .inl (cI, 7, .inl ch0)), ((q 15), .inl (cJ, 128, .inr (.inl mo0))), ((q 16), .inl (cI, 10, .inl fs0))]) (w2 := fun u => (wX cI cJ q  nc0 lc0 le0 ge0 wt0 kp0 fo0 po0 na0 ns0 ta_21 ts_22 mx0 ch0 mo0 ms0 fs0)) [10, 11] [0, 1, 2, 3, 4, 5, 6, 7, 8, 9, 12, 13, 14, 15, 16] [0, 1, 2, 3, 4, 5, 6, 7, 8, 9, 15, 16, 10, 11, 12, 13, 14] (va_runV (b := (q 10)) (As := [.int y1, .int y2]) (rest := []) ⟨hx, hb, hml, hown, hts⟩ (kX0_between l dC dI cI cJ (q 10) (q 11) H.size  ta_21 ts_22 y1 y2 (fw_be hq)) (cwV 2 hts gX3_far_X0_between rfl rfl rfl (by decide +kernel) ⟨Nat.le_of_ble_eq_true rfl, Nat.le_of_ble_eq_true rfl⟩) ⟨fw_blind, va_recv hK hPc (ci := 0) (q0 := 0) rfl rfl, fun U hU hW => fw_pre hPc hK hDc hN hU hW⟩ rfl rfl hl.1 rfl (lv_room (Nat.le_of_ble_eq_true rfl)) dX3_far_36 ⟨Nat.zero_le _, Nat.zero_le _⟩) hP hD hS hA rfl rfl (by decide) (by decide) (by decide) (fun _ => rfl) (fun r_25 u H locs hw hP hD hS => ?_)
          have hq := fw_bs hw hq
          try dsimp only at hq
          refine lv_istore (lv' := [(4, .int r_25), (0, .ref (q 0)), (1, .int y1), (2, .int y2), (3, .int y3)]) hx hb dX3_far_39 hl (by decide) rfl (fun ls hl => ?_)
          refine lv_iload hx hb dX3_far_41 (lv_at hl 0 rfl) ?_
          refine lv_ldc hx hb hown (hts (.constant RX3 128 (1000000)) (by decide +kernel)) dX3_far_43 ?_
          refine lv_icmp_ge (tgt := 53) hx hb dX3_far_45 (by decide) (fun c_27 => ?_) (fun c_27 => ?_)
          · have hq := fw_it c_27 hq
            refine lv_iconst (v := (-1 : Int32)) hx hb dX3_far_53 (by decide) ?_
            exact W.iret (v := (-1 : Int32)) hx hb hr (fun t ht hW => ⟨⟨(-1 : Int32), (na0, ns0, ta_21, ts_22), rfl, hz.trans hq.symm, by rw [ht]; exact hP, hD⟩, hS.F ht⟩) hS.2.2 dX3_far_54
          · have hq := fw_if c_27 hq
            refine lv_iload hx hb dX3_far_48 (lv_at hl 0 rfl) ?_
            refine lv_goto (tgt := 54) hx hb dX3_far_50 (by decide) ?_
            exact W.iret (v := r_25) hx hb hr (fun t ht hW => ⟨⟨r_25, (na0, ns0, ta_21, ts_22), rfl, hz.trans hq.symm, by rw [ht]; exact hP, hD⟩, hS.F ht⟩) hS.2.2 dX3_far_54
      · have hq := fw_it c_12 hq
        refine lv_bipush (v := (-3 : Int32)) hx hb dX3_far_26 (by decide) ?_
        exact W.iret (v := (-3 : Int32)) hx hb hr (fun t ht hW => ⟨⟨(-3 : Int32), (na0, ns0, ta0, ts0), rfl, hz.trans hq.symm, by rw [ht]; exact hP, hD⟩, hS.F ht⟩) hS.2.2 dX3_far_28
    · have hq := fw_it c_8 hq
      refine lv_bipush (v := (-2 : Int32)) hx hb dX3_far_16 (by decide) ?_
      exact W.iret (v := (-2 : Int32)) hx hb hr (fun t ht hW => ⟨⟨(-2 : Int32), (na0, ns0, ta0, ts0), rfl, hz.trans hq.symm, by rw [ht]; exact hP, hD⟩, hS.F ht⟩) hS.2.2 dX3_far_18
set_option maxHeartbeats 4000000 in
set_option maxRecDepth 100000 in
theorem kX3_stretch (l : Launch) (dC : Nat → ClassId) (dI : Nat → Nat → Nat) (cI cJ : ClassId) (q : Nat → Nat) (sz : Nat)  (nc0 : Int32) (lc0 : Int32) (le0 : Nat → Int32) (ge0 : Nat → Int32) (wt0 : Nat → Int32) (kp0 : Nat → Int32) (fo0 : Nat → Int32) (po0 : Nat → Int32) (na0 : Nat → Int32) (ns0 : Int32) (ta0 : Nat → Int32) (ts0 : Int32) (mx0 : Nat → Int64) (ch0 : Nat → Int32) (mo0 : Nat → Int64) (ms0 : Int32) (fs0 : Nat → Int32) (y1 : Int32) (hd : ∃ z, pX3_stretch nc0 lc0 le0 ge0 wt0 kp0 na0 ns0 ta0 ts0 y1 = some z) : Met l yX3_stretch wsX3_stretch ({ frames := 4, cells := 0, slots := 0, locals := 97 }) (fw_Pc (dC, dI) (fw_tys cI cJ) (wX cI cJ q  nc0 lc0 le0 ge0 wt0 kp0 fo0 po0 na0 ns0 ta0 ts0 mx0 ch0 mo0 ms0 fs0) ([.ref (q 0), .int y1] : List Value) sz) (va_Qi (fun (r : Int32) (u : (Nat → Int32) × Int32 × (Nat → Int32) × Int32) => pX3_stretch nc0 lc0 le0 ge0 wt0 kp0 na0 ns0 ta0 ts0 y1 = some (r, u)) (fun u t => fw_B (dC, dI) (va_A (wX cI cJ q  nc0 lc0 le0 ge0 wt0 kp0 fo0 po0 na0 ns0 ta0 ts0 mx0 ch0 mo0 ms0 fs0) sz) (wX cI cJ q  nc0 lc0 le0 ge0 wt0 kp0 fo0 po0 u.1 u.2.1 u.2.2.1 u.2.2.2 mx0 ch0 mo0 ms0 fs0) t) (va_A (wX cI cJ q  nc0 lc0 le0 ge0 wt0 kp0 fo0 po0 na0 ns0 ta0 ts0 mx0 ch0 mo0 ms0 fs0) sz)) 0 0 (va_A (wX cI cJ q  nc0 lc0 le0 ge0 wt0 kp0 fo0 po0 na0 ns0 ta0 ts0 mx0 ch0 mo0 ms0 fs0) sz) := by
  obtain ⟨z, hz⟩ := hd
  refine Met.ofW (cc := cX3_stretch) (maxL := 10) (ret := (some .int)) (by decide) rfl ?_
  intro p e s m args below meth c s₁ B hml hv
  obtain ⟨rfl, hsz, hP, hK, hD0, hN⟩ := hv
  have hx := B.exec
  have hb := B.bytes
  have hr := B.returns
  have hts := atoms_spec (ws := wsX3_stretch) B.pre
  have hown : s.vm.findClass RX3 = some m.cls := findClass_of_methodNamed B.named
  have hlocks := B.notSynchronized
  subst hsz
  have hD := hD0.self (sz := s.heap.size)
  generalize hAe : va_A (wX cI cJ q  nc0 lc0 le0 ge0 wt0 kp0 fo0 po0 na0 ns0 ta0 ts0 mx0 ch0 mo0 ms0 fs0) s.heap.size = A at hD ⊢
  have hA : ∀ q : Nat, s.heap.size ≤ q → A q := fun q h => by rw [← hAe]; exact Or.inr h
  have hinX3 : ∀ w ∈ u_ws RX3 TX3 12, w ∈ wsX3_stretch := by decide +kernel
  have hf9 := hts (.fieldLink RX3 9 "FewLines" "nodeCount" "I") (by decide +kernel)
  have L48 : ∀ (x1 : Int32) (x6 : Int32) (na : Nat → Int32) (ns : Int32) (ta : Nat → Int32) (ts : Int32) (e9 : (Int32 × Int32 × Int32) ⊕ (Int32 × (Nat → Int32) × Int32 × (Nat → Int32) × Int32)), (∀ (x4' : Int32) (x5' : Int32) (x7' : Int32) (H : Heap) (locs : List Loc) (ls : Array Slot), e9 = .inl (x4', x5', x7') → va_P (dC, dI) vwCl (wX cI cJ q  nc0 lc0 le0 ge0 wt0 kp0 fo0 po0 na ns ta ts mx0 ch0 mo0 ms0 fs0) H → va_D A (wX cI cJ q  nc0 lc0 le0 ge0 wt0 kp0 fo0 po0 na ns ta ts mx0 ch0 mo0 ms0 fs0) → va_S A s.heap H locs → lv_has ls 10 [(0, .ref (q 0)), (1, .int x1), (2, .ref (q 8)), (3, .ref (q 10)), (4, .int x4'), (5, .int x5'), (6, .int x6), (7, .int x7')] → W p l e (headSpec wsX3_stretch ({ frames := 4, cells := 0, slots := 0, locals := 97 })).room s m ([.ref (q 0), .int y1] : List Value).toArray below meth c H locs 0 0 (MQ below (va_Qi (fun (r : Int32) (u : (Nat → Int32) × Int32 × (Nat → Int32) × Int32) => pX3_stretch nc0 lc0 le0 ge0 wt0 kp0 na0 ns0 ta0 ts0 y1 = some (r, u)) (fun u t => fw_B (dC, dI) A (wX cI cJ q  nc0 lc0 le0 ge0 wt0 kp0 fo0 po0 u.1 u.2.1 u.2.2.1 u.2.2.2 mx0 ch0 mo0 ms0 fs0) t) A) ([.ref (q 0), .int y1] : List Value).toArray s 0 0 A) (F0 m 132 ls [])) → (∀ r9, e9 = .inr r9 → some r9 = some z) → ∀ (n9 : Nat) (x4 : Int32) (x5 : Int32) (x7 : Int32) (H : Heap) (locs : List Loc) (ls : Array Slot), fw_wh (pX3_stretch_48 x6 nc0 na ns ta ts) n9 (x4, x5, x7) = some e9 → va_P (dC, dI) vwCl (wX cI cJ q  nc0 lc0 le0 ge0 wt0 kp0 fo0 po0 na ns ta ts mx0 ch0 mo0 ms0 fs0) H → va_D A (wX cI cJ q  nc0 lc0 le0 ge0 wt0 kp0 fo0 po0 na ns ta ts mx0 ch0 mo0 ms0 fs0) → va_S A s.heap H locs → lv_has ls 10 [(0, .ref (q 0)), (1, .int x1), (2, .ref (q 8)), (3, .ref (q 10)), (4, .int x4), (5, .int x5), (6, .int x6), (7, .int x7)] → W p l e (headSpec wsX3_stretch ({ frames := 4, cells := 0, slots := 0, locals := 97 })).room s m ([.ref (q 0), .int y1] : List Value).toArray below meth c H locs 0 0 (MQ below (va_Qi (fun (r : Int32) (u : (Nat → Int32) × Int32 × (Nat → Int32) × Int32) => pX3_stretch nc0 lc0 le0 ge0 wt0 kp0 na0 ns0 ta0 ts0 y1 = some (r, u)) (fun u t => fw_B (dC, dI) A (wX cI cJ q  nc0 lc0 le0 ge0 wt0 kp0 fo0 po0 u.1 u.2.1 u.2.2.1 u.2.2.2 mx0 ch0 mo0 ms0 fs0) t) A) ([.ref (q 0), .int y1] : List Value).toArray s 0 0 A) (F0 m 48 ls []) := by
    intro x1 x6 na ns ta ts e9 hkk hr0 n9
    induction n9 with
    | zero => exact fun _ _ _ H locs ls hq => (fw_wh0 hq).elim
    | succ n9 ih =>
      intro x4 x5 x7 H locs ls hq hP hD hS hl
      obtain ⟨w9, hq, hwI, hwE⟩ := fw_wh1 hq
      dsimp only [pX3_stretch_48] at hq
      refine lv_iload hx hb dX3_stretch_48 (lv_at hl 7 rfl) ?_
      refine lv_aload_n hx hb dX3_stretch_50 rfl (lv_at hl 0 rfl) ?_
      refine va_get (D := (dC, dI)) (ci := 3) (v := .int nc0) (C := RX3) (T := TX3) (N := 12) hx hb hts hinX3 hown hK hP 0 rfl rfl 0 (by decide) hf9 (fun _ h9 => h9) rfl dX3_stretch_51 ?_
      refine lv_icmp_ge (tgt := 132) hx hb dX3_stretch_54 (by decide) (fun c_14 => ?_) (fun c_14 => ?_)
      · have hq := fw_it c_14 hq
        exact hkk x4 x5 x7 H locs ls (hwE _ (Option.some.inj hq).symm) hP hD hS (lv_sub hl [0, 1, 2, 3, 4, 5, 6, 7] rfl)
      · have hq := fw_if c_14 hq
        refine lv_aload_n hx hb dX3_stretch_57 rfl (lv_at hl 2 rfl) ?_
        refine lv_iload hx hb dX3_stretch_58 (lv_at hl 6 rfl) ?_
        refine lv_iload hx hb dX3_stretch_60 (lv_at hl 7 rfl) ?_
        have hPc := hP.sub (ws' := (wL cI cJ (q 8) (q 9)  na ns)) [8, 9] rfl
        have hDc := hD.sub (ws' := (wL cI cJ (q 8) (q 9)  na ns)) [8, 9] (by decide) rfl
        refine fw_ci (wr := [((q 0), .inr (3, [.int nc0, .int lc0, .ref (q 1), .ref (q 2), .ref (q 3), .ref (q 4), .ref (q 5), .ref (q 6), .ref (q 8), .ref (q 10), .ref (q 12), .ref (q 16)])), ((q 1), .inl (cI, 12, .inl le0)), ((q 2), .inl (cI, 12, .inl ge0)), ((q 3), .inl (cI, 12, .inl wt0)), ((q 4), .inl (cI, 12, .inl kp0)), ((q 5), .inl (cI, 12, .inl fo0)), ((q 6), .inr (2, [.ref (q 7)])), ((q 7), .inl (cI, 7, .inl po0)), ((q 10), .inr (0, [.ref (q 11), .int ts])), ((q 11), .inl (cI, 49, .inl ta)), ((q 12), .inr (1, [.ref (q 13), .ref (q 14), .ref (q 15), .int ms0])), ((q 13), .inl (cJ, 49, .inr (.inl mx0))), ((q 14), .inl (cI, 7, .inl ch0)), ((q 15), .inl (cJ, 128, .inr (.inl mo0))), ((q 16), .inl (cI, 10, .inl fs0))]) (w2 := fun u => (wX cI cJ q  nc0 lc0 le0 ge0 wt0 kp0 fo0 po0 na ns ta ts mx0 ch0 mo0 ms0 fs0)) [8, 9] [0, 1, 2, 3, 4, 5, 6, 7, 10, 11, 12, 13, 14, 15, 16] [0, 1, 2, 3, 4, 5, 6, 7, 15, 16, 8, 9, 10, 11, 12, 13, 14] (va_runV (b := (q 8)) (As := [.int x6, .int x7]) (rest := []) ⟨hx, hb, hml, hown, hts⟩ (kX0_between l dC dI cI cJ (q 8) (q 9) H.size  na ns x6 x7 (fw_be hq)) (cwV 2 hts gX3_stretch_X0_between rfl rfl rfl (by decide +kernel) ⟨Nat.le_of_ble_eq_true rfl, Nat.le_of_ble_eq_true rfl⟩) ⟨fw_blind, va_recv hK hPc (ci := 0) (q0 := 0) rfl rfl, fun U hU hW => fw_pre hPc hK hDc hN hU hW⟩ rfl rfl hl.1 rfl (lv_room (Nat.le_of_ble_eq_true rfl)) dX3_stretch_62 ⟨Nat.zero_le _, Nat.zero_le _⟩) hP hD hS hA rfl rfl (by decide) (by decide) (by decide) (fun _ => rfl) (fun r_15 u H locs hw hP hD hS => ?_)
        have hq := fw_bs hw hq
        try dsimp only at hq
        refine lv_istore (lv' := [(8, .int r_15), (0, .ref (q 0)), (1, .int x1), (2, .ref (q 8)), (3, .ref (q 10)), (4, .int x4), (5, .int x5), (6, .int x6), (7, .int x7)]) hx hb dX3_stretch_65 hl (by decide) rfl (fun ls hl => ?_)
        refine lv_aload_n hx hb dX3_stretch_67 rfl (lv_at hl 4 rfl) ?_
        refine lv_iload hx hb dX3_stretch_68 (lv_at hl 7 rfl) ?_
        refine lv_iload hx hb dX3_stretch_70 (lv_at hl 8 rfl) ?_
        have hPc := hP.sub (ws' := (wL cI cJ (q 10) (q 11)  ta ts)) [10, 11] rfl
        have hDc := hD.sub (ws' := (wL cI cJ (q 10) (q 11)  ta ts)) [10, 11] (by decide) rfl
        refine fw_ci (wr := [((q 0), .inr (3, [.int nc0, .int lc0, .ref (q 1), .ref (q 2), .ref (q 3), .ref (q 4), .ref (q 5), .ref (q 6), .ref (q 8), .ref (q 10), .ref (q 12), .ref (q 16)])), ((q 1), .inl (cI, 12, .inl le0)), ((q 2), .inl (cI, 12, .inl ge0)), ((q 3), .inl (cI, 12, .inl wt0)), ((q 4), .inl (cI, 12, .inl kp0)), ((q 5), .inl (cI, 12, .inl fo0)), ((q 6), .inr (2, [.ref (q 7)])), ((q 7), .inl (cI, 7, .inl po0)), ((q 8), .inr (0, [.ref (q 9), .int ns])), ((q 9), .inl (cI, 49, .inl na)), ((q 12), .inr (1, [.ref (q 13), .ref (q 14), .ref (q 15), .int ms0])), ((q 13), .inl (cJ, 49, .inr (.inl mx0))), ((q 14), .inl (cI, 7, .inl ch0)), ((q 15), .inl (cJ, 128, .inr (.inl mo0))), ((q 16), .inl (cI, 10, .inl fs0))]) (w2 := fun u => (wX cI cJ q  nc0 lc0 le0 ge0 wt0 kp0 fo0 po0 na ns ta ts mx0 ch0 mo0 ms0 fs0)) [10, 11] [0, 1, 2, 3, 4, 5, 6, 7, 8, 9, 12, 13, 14, 15, 16] [0, 1, 2, 3, 4, 5, 6, 7, 8, 9, 15, 16, 10, 11, 12, 13, 14] (va_runV (b := (q 10)) (As := [.int x6, .int x7]) (rest := []) ⟨hx, hb, hml, hown, hts⟩ (kX0_between l dC dI cI cJ (q 10) (q 11) H.size  ta ts x6 x7 (fw_be hq)) (cwV 2 hts gX3_stretch_X0_between rfl rfl rfl (by decide +kernel) ⟨Nat.le_of_ble_eq_true rfl, Nat.le_of_ble_eq_true rfl⟩) ⟨fw_blind, va_recv hK hPc (ci := 0) (q0 := 0) rfl rfl, fun U hU hW => fw_pre hPc hK hDc hN hU hW⟩ rfl rfl hl.1 rfl (lv_room (Nat.le_of_ble_eq_true rfl)) dX3_stretch_72 ⟨Nat.zero_le _, Nat.zero_le _⟩) hP hD hS hA rfl rfl (by decide) (by decide) (by decide) (fun _ => rfl) (fun r_17 u H locs hw hP hD hS => ?_)
        have hq := fw_bs hw hq
        try dsimp only at hq
        refine lv_istore (lv' := [(9, .int r_17), (8, .int r_15), (0, .ref (q 0)), (1, .int x1), (2, .ref (q 8)), (3, .ref (q 10)), (4, .int x4), (5, .int x5), (6, .int x6), (7, .int x7)]) hx hb dX3_stretch_75 hl (by decide) rfl (fun ls hl => ?_)
        refine lv_iload hx hb dX3_stretch_77 (lv_at hl 1 rfl) ?_
        refine lv_ldc hx hb hown (hts (.constant RX3 128 (1000000)) (by decide +kernel)) dX3_stretch_79 ?_
        refine lv_icmp_ge (tgt := 93) hx hb dX3_stretch_81 (by decide) (fun c_19 => ?_) (fun c_19 => ?_)
        · have hq := fw_it c_19 hq
          refine lv_iload hx hb dX3_stretch_93 (lv_at hl 1 rfl) ?_
          refine lv_ldc hx hb hown (hts (.constant RX3 128 (1000000)) (by decide +kernel)) dX3_stretch_95 ?_
          refine lv_icmp_ge (tgt := 126) hx hb dX3_stretch_97 (by decide) (fun c_20 => ?_) (fun c_20 => ?_)
          · have hq := fw_it c_20 hq
            refine lv_iinc (v := (x7 + (1 : Int32))) (lv' := [(7, .int (x7 + (1 : Int32))), (9, .int r_17), (8, .int r_15), (0, .ref (q 0)), (1, .int x1), (2, .ref (q 8)), (3, .ref (q 10)), (4, .int x4), (5, .int x5), (6, .int x6)]) hx hb dX3_stretch_126 hl (k := 9) rfl rfl (by decide) rfl (fun ls hl => ?_)
            refine lv_goto (tgt := 48) hx hb dX3_stretch_129 (by decide) ?_
            exact ih x4 x5 (x7 + (1 : Int32)) H locs ls (hwI _ (Option.some.inj hq).symm) hP hD hS (lv_sub hl [3, 4, 5, 6, 7, 8, 9, 0] rfl)
          · have hq := fw_if c_20 hq
            refine lv_iload hx hb dX3_stretch_100 (lv_at hl 7 rfl) ?_
            refine lv_if_eq (tgt := 118) hx hb dX3_stretch_102 (by decide) (fun c_21 => ?_) (fun c_21 => ?_)
            · have hq := fw_it c_21 hq
              refine lv_iload hx hb dX3_stretch_118 (lv_at hl 0 rfl) ?_
              refine lv_istore (lv' := [(4, .int r_17), (9, .int r_17), (8, .int r_15), (0, .ref (q 0)), (1, .int x1), (2, .ref (q 8)), (3, .ref (q 10)), (5, .int x5), (6, .int x6), (7, .int x7)]) hx hb dX3_stretch_120 hl (by decide) rfl (fun ls hl => ?_)
              refine lv_iload hx hb dX3_stretch_122 (lv_at hl 2 rfl) ?_
              refine lv_istore (lv' := [(5, .int r_15), (4, .int r_17), (9, .int r_17), (8, .int r_15), (0, .ref (q 0)), (1, .int x1), (2, .ref (q 8)), (3, .ref (q 10)), (6, .int x6), (7, .int x7)]) hx hb dX3_stretch_124 hl (by decide) rfl (fun ls hl => ?_)
              refine lv_iinc (v := (x7 + (1 : Int32))) (lv' := [(7, .int (x7 + (1 : Int32))), (5, .int r_15), (4, .int r_17), (9, .int r_17), (8, .int r_15), (0, .ref (q 0)), (1, .int x1), (2, .ref (q 8)), (3, .ref (q 10)), (6, .int x6)]) hx hb dX3_stretch_126 hl (k := 9) rfl rfl (by decide) rfl (fun ls hl => ?_)
              refine lv_goto (tgt := 48) hx hb dX3_stretch_129 (by decide) ?_
              exact ih r_17 r_15 (x7 + (1 : Int32)) H locs ls (hwI _ (Option.some.inj hq).symm) hP hD hS (lv_sub hl [5, 6, 7, 8, 2, 1, 9, 0] rfl)
            · have hq := fw_if c_21 hq
              refine lv_iload hx hb dX3_stretch_105 (lv_at hl 0 rfl) ?_
              refine lv_iload hx hb dX3_stretch_107 (lv_at hl 7 rfl) ?_
              refine lv_imul hx hb dX3_stretch_109 ?_
              refine lv_iload hx hb dX3_stretch_110 (lv_at hl 6 rfl) ?_
              refine lv_iload hx hb dX3_stretch_112 (lv_at hl 1 rfl) ?_
              refine lv_imul hx hb dX3_stretch_114 ?_
              refine lv_icmp_le (tgt := 126) hx hb dX3_stretch_115 (by decide) (fun c_22 => ?_) (fun c_22 => ?_)
              · have hq := fw_it c_22 hq
                refine lv_iinc (v := (x7 + (1 : Int32))) (lv' := [(7, .int (x7 + (1 : Int32))), (9, .int r_17), (8, .int r_15), (0, .ref (q 0)), (1, .int x1), (2, .ref (q 8)), (3, .ref (q 10)), (4, .int x4), (5, .int x5), (6, .int x6)]) hx hb dX3_stretch_126 hl (k := 9) rfl rfl (by decide) rfl (fun ls hl => ?_)
                refine lv_goto (tgt := 48) hx hb dX3_stretch_129 (by decide) ?_
                exact ih x4 x5 (x7 + (1 : Int32)) H locs ls (hwI _ (Option.some.inj hq).symm) hP hD hS (lv_sub hl [3, 4, 5, 6, 7, 8, 9, 0] rfl)
              · have hq := fw_if c_22 hq
                refine lv_iload hx hb dX3_stretch_118 (lv_at hl 0 rfl) ?_
                refine lv_istore (lv' := [(4, .int r_17), (9, .int r_17), (8, .int r_15), (0, .ref (q 0)), (1, .int x1), (2, .ref (q 8)), (3, .ref (q 10)), (5, .int x5), (6, .int x6), (7, .int x7)]) hx hb dX3_stretch_120 hl (by decide) rfl (fun ls hl => ?_)
                refine lv_iload hx hb dX3_stretch_122 (lv_at hl 2 rfl) ?_
                refine lv_istore (lv' := [(5, .int r_15), (4, .int r_17), (9, .int r_17), (8, .int r_15), (0, .ref (q 0)), (1, .int x1), (2, .ref (q 8)), (3, .ref (q 10)), (6, .int x6), (7, .int x7)]) hx hb dX3_stretch_124 hl (by decide) rfl (fun ls hl => ?_)
                refine lv_iinc (v := (x7 + (1 : Int32))) (lv' := [(7, .int (x7 + (1 : Int32))), (5, .int r_15), (4, .int r_17), (9, .int r_17), (8, .int r_15), (0, .ref (q 0)), (1, .int x1), (2, .ref (q 8)), (3, .ref (q 10)), (6, .int x6)]) hx hb dX3_stretch_126 hl (k := 9) rfl rfl (by decide) rfl (fun ls hl => ?_)
                refine lv_goto (tgt := 48) hx hb dX3_stretch_129 (by decide) ?_
                exact ih r_17 r_15 (x7 + (1 : Int32)) H locs ls (hwI _ (Option.some.inj hq).symm) hP hD hS (lv_sub hl [5, 6, 7, 8, 2, 1, 9, 0] rfl)
        · have hq := fw_if c_19 hq
          refine lv_iload hx hb dX3_stretch_84 (lv_at hl 0 rfl) ?_
          refine lv_ldc hx hb hown (hts (.constant RX3 128 (1000000)) (by decide +kernel)) dX3_stretch_86 ?_
          refine lv_icmp_lt (tgt := 93) hx hb dX3_stretch_88 (by decide) (fun c_23 => ?_) (fun c_23 => ?_)
          · have hq := fw_it c_23 hq
            refine lv_iload hx hb dX3_stretch_93 (lv_at hl 1 rfl) ?_
            refine lv_ldc hx hb hown (hts (.constant RX3 128 (1000000)) (by decide +kernel)) dX3_stretch_95 ?_
            refine lv_icmp_ge (tgt := 126) hx hb dX3_stretch_97 (by decide) (fun c_24 => ?_) (fun c_24 => ?_)
            · have hq := fw_it c_24 hq
              refine lv_iinc (v := (x7 + (1 : Int32))) (lv' := [(7, .int (x7 + (1 : Int32))), (9, .int r_17), (8, .int r_15), (0, .ref (q 0)), (1, .int x1), (2, .ref (q 8)), (3, .ref (q 10)), (4, .int x4), (5, .int x5), (6, .int x6)]) hx hb dX3_stretch_126 hl (k := 9) rfl rfl (by decide) rfl (fun ls hl => ?_)
              refine lv_goto (tgt := 48) hx hb dX3_stretch_129 (by decide) ?_
              exact ih x4 x5 (x7 + (1 : Int32)) H locs ls (hwI _ (Option.some.inj hq).symm) hP hD hS (lv_sub hl [3, 4, 5, 6, 7, 8, 9, 0] rfl)
            · have hq := fw_if c_24 hq
              refine lv_iload hx hb dX3_stretch_100 (lv_at hl 7 rfl) ?_
              refine lv_if_eq (tgt := 118) hx hb dX3_stretch_102 (by decide) (fun c_25 => ?_) (fun c_25 => ?_)
              · have hq := fw_it c_25 hq
                refine lv_iload hx hb dX3_stretch_118 (lv_at hl 0 rfl) ?_
                refine lv_istore (lv' := [(4, .int r_17), (9, .int r_17), (8, .int r_15), (0, .ref (q 0)), (1, .int x1), (2, .ref (q 8)), (3, .ref (q 10)), (5, .int x5), (6, .int x6), (7, .int x7)]) hx hb dX3_stretch_120 hl (by decide) rfl (fun ls hl => ?_)
                refine lv_iload hx hb dX3_stretch_122 (lv_at hl 2 rfl) ?_
                refine lv_istore (lv' := [(5, .int r_15), (4, .int r_17), (9, .int r_17), (8, .int r_15), (0, .ref (q 0)), (1, .int x1), (2, .ref (q 8)), (3, .ref (q 10)), (6, .int x6), (7, .int x7)]) hx hb dX3_stretch_124 hl (by decide) rfl (fun ls hl => ?_)
                refine lv_iinc (v := (x7 + (1 : Int32))) (lv' := [(7, .int (x7 + (1 : Int32))), (5, .int r_15), (4, .int r_17), (9, .int r_17), (8, .int r_15), (0, .ref (q 0)), (1, .int x1), (2, .ref (q 8)), (3, .ref (q 10)), (6, .int x6)]) hx hb dX3_stretch_126 hl (k := 9) rfl rfl (by decide) rfl (fun ls hl => ?_)
                refine lv_goto (tgt := 48) hx hb dX3_stretch_129 (by decide) ?_
                exact ih r_17 r_15 (x7 + (1 : Int32)) H locs ls (hwI _ (Option.some.inj hq).symm) hP hD hS (lv_sub hl [5, 6, 7, 8, 2, 1, 9, 0] rfl)
              · have hq := fw_if c_25 hq
                refine lv_iload hx hb dX3_stretch_105 (lv_at hl 0 rfl) ?_
                refine lv_iload hx hb dX3_stretch_107 (lv_at hl 7 rfl) ?_
                refine lv_imul hx hb dX3_stretch_109 ?_
                refine lv_iload hx hb dX3_stretch_110 (lv_at hl 6 rfl) ?_
                refine lv_iload hx hb dX3_stretch_112 (lv_at hl 1 rfl) ?_
                refine lv_imul hx hb dX3_stretch_114 ?_
                refine lv_icmp_le (tgt := 126) hx hb dX3_stretch_115 (by decide) (fun c_26 => ?_) (fun c_26 => ?_)
                · have hq := fw_it c_26 hq
                  refine lv_iinc (v := (x7 + (1 : Int32))) (lv' := [(7, .int (x7 + (1 : Int32))), (9, .int r_17), (8, .int r_15), (0, .ref (q 0)), (1, .int x1), (2, .ref (q 8)), (3, .ref (q 10)), (4, .int x4), (5, .int x5), (6, .int x6)]) hx hb dX3_stretch_126 hl (k := 9) rfl rfl (by decide) rfl (fun ls hl => ?_)
                  refine lv_goto (tgt := 48) hx hb dX3_stretch_129 (by decide) ?_
                  exact ih x4 x5 (x7 + (1 : Int32)) H locs ls (hwI _ (Option.some.inj hq).symm) hP hD hS (lv_sub hl [3, 4, 5, 6, 7, 8, 9, 0] rfl)
                · have hq := fw_if c_26 hq
                  refine lv_iload hx hb dX3_stretch_118 (lv_at hl 0 rfl) ?_
                  refine lv_istore (lv' := [(4, .int r_17), (9, .int r_17), (8, .int r_15), (0, .ref (q 0)), (1, .int x1), (2, .ref (q 8)), (3, .ref (q 10)), (5, .int x5), (6, .int x6), (7, .int x7)]) hx hb dX3_stretch_120 hl (by decide) rfl (fun ls hl => ?_)
                  refine lv_iload hx hb dX3_stretch_122 (lv_at hl 2 rfl) ?_
                  refine lv_istore (lv' := [(5, .int r_15), (4, .int r_17), (9, .int r_17), (8, .int r_15), (0, .ref (q 0)), (1, .int x1), (2, .ref (q 8)), (3, .ref (q 10)), (6, .int x6), (7, .int x7)]) hx hb dX3_stretch_124 hl (by decide) rfl (fun ls hl => ?_)
                  refine lv_iinc (v := (x7 + (1 : Int32))) (lv' := [(7, .int (x7 + (1 : Int32))), (5, .int r_15), (4, .int r_17), (9, .int r_17), (8, .int r_15), (0, .ref (q 0)), (1, .int x1), (2, .ref (q 8)), (3, .ref (q 10)), (6, .int x6)]) hx hb dX3_stretch_126 hl (k := 9) rfl rfl (by decide) rfl (fun ls hl => ?_)
                  refine lv_goto (tgt := 48) hx hb dX3_stretch_129 (by decide) ?_
                  exact ih r_17 r_15 (x7 + (1 : Int32)) H locs ls (hwI _ (Option.some.inj hq).symm) hP hD hS (lv_sub hl [5, 6, 7, 8, 2, 1, 9, 0] rfl)
          · have hq := fw_if c_23 hq
            refine lv_iconst (v := (-1 : Int32)) hx hb dX3_stretch_91 (by decide) ?_
            exact W.iret (v := (-1 : Int32)) hx hb hr (fun t ht hW => ⟨⟨(-1 : Int32), (na, ns, ta, ts), rfl, hz.trans (hr0 _ (hwE _ (Option.some.inj hq).symm)).symm, by rw [ht]; exact hP, hD⟩, hS.F ht⟩) hS.2.2 dX3_stretch_92
  have L33 : ∀ (x1 : Int32) (na : Nat → Int32) (ns : Int32) (ta : Nat → Int32) (ts : Int32) (e9 : (Int32 × Int32 × Int32) ⊕ (Int32 × (Nat → Int32) × Int32 × (Nat → Int32) × Int32)), (∀ (x4' : Int32) (x5' : Int32) (x6' : Int32) (H : Heap) (locs : List Loc) (ls : Array Slot), e9 = .inl (x4', x5', x6') → va_P (dC, dI) vwCl (wX cI cJ q  nc0 lc0 le0 ge0 wt0 kp0 fo0 po0 na ns ta ts mx0 ch0 mo0 ms0 fs0) H → va_D A (wX cI cJ q  nc0 lc0 le0 ge0 wt0 kp0 fo0 po0 na ns ta ts mx0 ch0 mo0 ms0 fs0) → va_S A s.heap H locs → lv_has ls 10 [(0, .ref (q 0)), (1, .int x1), (2, .ref (q 8)), (3, .ref (q 10)), (4, .int x4'), (5, .int x5'), (6, .int x6')] → W p l e (headSpec wsX3_stretch ({ frames := 4, cells := 0, slots := 0, locals := 97 })).room s m ([.ref (q 0), .int y1] : List Value).toArray below meth c H locs 0 0 (MQ below (va_Qi (fun (r : Int32) (u : (Nat → Int32) × Int32 × (Nat → Int32) × Int32) => pX3_stretch nc0 lc0 le0 ge0 wt0 kp0 na0 ns0 ta0 ts0 y1 = some (r, u)) (fun u t => fw_B (dC, dI) A (wX cI cJ q  nc0 lc0 le0 ge0 wt0 kp0 fo0 po0 u.1 u.2.1 u.2.2.1 u.2.2.2 mx0 ch0 mo0 ms0 fs0) t) A) ([.ref (q 0), .int y1] : List Value).toArray s 0 0 A) (F0 m 138 ls [])) → (∀ r9, e9 = .inr r9 → some r9 = some z) → ∀ (n9 : Nat) (x4 : Int32) (x5 : Int32) (x6 : Int32) (H : Heap) (locs : List Loc) (ls : Array Slot), fw_wh (pX3_stretch_33 nc0 na ns ta ts) n9 (x4, x5, x6) = some e9 → va_P (dC, dI) vwCl (wX cI cJ q  nc0 lc0 le0 ge0 wt0 kp0 fo0 po0 na ns ta ts mx0 ch0 mo0 ms0 fs0) H → va_D A (wX cI cJ q  nc0 lc0 le0 ge0 wt0 kp0 fo0 po0 na ns ta ts mx0 ch0 mo0 ms0 fs0) → va_S A s.heap H locs → lv_has ls 10 [(0, .ref (q 0)), (1, .int x1), (2, .ref (q 8)), (3, .ref (q 10)), (4, .int x4), (5, .int x5), (6, .int x6)] → W p l e (headSpec wsX3_stretch ({ frames := 4, cells := 0, slots := 0, locals := 97 })).room s m ([.ref (q 0), .int y1] : List Value).toArray below meth c H locs 0 0 (MQ below (va_Qi (fun (r : Int32) (u : (Nat → Int32) × Int32 × (Nat → Int32) × Int32) => pX3_stretch nc0 lc0 le0 ge0 wt0 kp0 na0 ns0 ta0 ts0 y1 = some (r, u)) (fun u t => fw_B (dC, dI) A (wX cI cJ q  nc0 lc0 le0 ge0 wt0 kp0 fo0 po0 u.1 u.2.1 u.2.2.1 u.2.2.2 mx0 ch0 mo0 ms0 fs0) t) A) ([.ref (q 0), .int y1] : List Value).toArray s 0 0 A) (F0 m 33 ls []) := by
    intro x1 na ns ta ts e9 hkk hr0 n9
    induction n9 with
    | zero => exact fun _ _ _ H locs ls hq => (fw_wh0 hq).elim
    | succ n9 ih =>
      intro x4 x5 x6 H locs ls hq hP hD hS hl
      obtain ⟨w9, hq, hwI, hwE⟩ := fw_wh1 hq
      dsimp only [pX3_stretch_33] at hq
      refine lv_iload hx hb dX3_stretch_33 (lv_at hl 6 rfl) ?_
      refine lv_aload_n hx hb dX3_stretch_35 rfl (lv_at hl 0 rfl) ?_
      refine va_get (D := (dC, dI)) (ci := 3) (v := .int nc0) (C := RX3) (T := TX3) (N := 12) hx hb hts hinX3 hown hK hP 0 rfl rfl 0 (by decide) hf9 (fun _ h9 => h9) rfl dX3_stretch_36 ?_
      refine lv_icmp_ge (tgt := 138) hx hb dX3_stretch_39 (by decide) (fun c_13 => ?_) (fun c_13 => ?_)
      · have hq := fw_it c_13 hq
        exact hkk x4 x5 x6 H locs ls (hwE _ (Option.some.inj hq).symm) hP hD hS (lv_sub hl [0, 1, 2, 3, 4, 5, 6] rfl)
      · have hq := fw_if c_13 hq
        refine lv_iload hx hb dX3_stretch_42 (lv_at hl 6 rfl) ?_
        refine lv_iconst (v := (1 : Int32)) hx hb dX3_stretch_44 (by decide) ?_
        refine lv_iadd hx hb dX3_stretch_45 ?_
        refine lv_istore (lv' := [(7, .int (x6 + (1 : Int32))), (0, .ref (q 0)), (1, .int x1), (2, .ref (q 8)), (3, .ref (q 10)), (4, .int x4), (5, .int x5), (6, .int x6)]) hx hb dX3_stretch_46 hl (by decide) rfl (fun ls hl => ?_)
        obtain ⟨e_30, hw, hq⟩ := fw_bb hq
        refine L48 x1 x6 na ns ta ts e_30 (fun x4_27 x5_28 x7_29 H locs ls he hP hD hS hl => ?_) (fun r9 he => by subst he; dsimp only at hq; exact hr0 _ (hwE _ (Option.some.inj hq).symm)) fw_N x4 x5 (x6 + (1 : Int32)) H locs ls hw hP hD hS (lv_sub hl [1, 2, 3, 4, 5, 6, 7, 0] rfl)
        subst he
        try dsimp only at hq
        refine lv_iinc (v := (x6 + (1 : Int32))) (lv' := [(6, .int (x6 + (1 : Int32))), (0, .ref (q 0)), (1, .int x1), (2, .ref (q 8)), (3, .ref (q 10)), (4, .int x4_27), (5, .int x5_28), (7, .int x7_29)]) hx hb dX3_stretch_132 hl (k := 6) rfl rfl (by decide) rfl (fun ls hl => ?_)
        refine lv_goto (tgt := 33) hx hb dX3_stretch_135 (by decide) ?_
        exact ih x4_27 x5_28 (x6 + (1 : Int32)) H locs ls (hwI _ (Option.some.inj hq).symm) hP hD hS (lv_sub hl [1, 2, 3, 4, 5, 6, 0] rfl)
  have hq := hz
  dsimp only [pX3_stretch] at hq
  have hl := lv_entry (([.ref (q 0), .int y1] : List Value)) (n := 10) (Nat.le_of_ble_eq_true rfl)
  rw [lg_entry_eq]
  generalize (lg_sl (([.ref (q 0), .int y1] : List Value)) ++ List.replicate (10 - (lg_sl (([.ref (q 0), .int y1] : List Value))).length) Slot.unset).toArray = ls at hl ⊢
  have hl : lv_has ls 10 [(0, .ref (q 0)), (1, .int y1)] := hl
  obtain ⟨H, hHe⟩ : ∃ H : Heap, H = s.heap := ⟨_, rfl⟩
  obtain ⟨locs, hLe⟩ : ∃ L : List Loc, L = [] := ⟨_, rfl⟩
  have hP : va_P (dC, dI) vwCl (wX cI cJ q  nc0 lc0 le0 ge0 wt0 kp0 fo0 po0 na0 ns0 ta0 ts0 mx0 ch0 mo0 ms0 fs0) H := by rw [hHe]; exact hP
  have hS : va_S A s.heap H locs := by rw [hHe, hLe]; exact va_S.rf
  show W p l e (headSpec wsX3_stretch ({ frames := 4, cells := 0, slots := 0, locals := 97 })).room s m ([.ref (q 0), .int y1] : List Value).toArray below meth c s.heap [] 0 0 (MQ below (va_Qi (fun (r : Int32) (u : (Nat → Int32) × Int32 × (Nat → Int32) × Int32) => pX3_stretch nc0 lc0 le0 ge0 wt0 kp0 na0 ns0 ta0 ts0 y1 = some (r, u)) (fun u t => fw_B (dC, dI) A (wX cI cJ q  nc0 lc0 le0 ge0 wt0 kp0 fo0 po0 u.1 u.2.1 u.2.2.1 u.2.2.2 mx0 ch0 mo0 ms0 fs0) t) A) ([.ref (q 0), .int y1] : List Value).toArray s 0 0 A) (F0 m 0 ls [])
  rw [← hHe, ← hLe]
  refine lv_iload_n hx hb dX3_stretch_0 rfl (lv_at hl 1 rfl) ?_
  refine lv_iconst (v := (0 : Int32)) hx hb dX3_stretch_1 (by decide) ?_
  refine lv_iconst (v := (1 : Int32)) hx hb dX3_stretch_2 (by decide) ?_
  have hPc := hP.sub (ws' := (w0 cI cJ   )) [] rfl
  have hDc := hD.sub (ws' := (w0 cI cJ   )) [] (by decide) rfl
  refine fw_ci (wr := [((q 0), .inr (3, [.int nc0, .int lc0, .ref (q 1), .ref (q 2), .ref (q 3), .ref (q 4), .ref (q 5), .ref (q 6), .ref (q 8), .ref (q 10), .ref (q 12), .ref (q 16)])), ((q 1), .inl (cI, 12, .inl le0)), ((q 2), .inl (cI, 12, .inl ge0)), ((q 3), .inl (cI, 12, .inl wt0)), ((q 4), .inl (cI, 12, .inl kp0)), ((q 5), .inl (cI, 12, .inl fo0)), ((q 6), .inr (2, [.ref (q 7)])), ((q 7), .inl (cI, 7, .inl po0)), ((q 8), .inr (0, [.ref (q 9), .int ns0])), ((q 9), .inl (cI, 49, .inl na0)), ((q 10), .inr (0, [.ref (q 11), .int ts0])), ((q 11), .inl (cI, 49, .inl ta0)), ((q 12), .inr (1, [.ref (q 13), .ref (q 14), .ref (q 15), .int ms0])), ((q 13), .inl (cJ, 49, .inr (.inl mx0))), ((q 14), .inl (cI, 7, .inl ch0)), ((q 15), .inl (cJ, 128, .inr (.inl mo0))), ((q 16), .inl (cI, 10, .inl fs0))]) (w2 := fun u => (wX cI cJ q  nc0 lc0 le0 ge0 wt0 kp0 fo0 po0 na0 ns0 ta0 ts0 mx0 ch0 mo0 ms0 fs0)) [] [0, 1, 2, 3, 4, 5, 6, 7, 8, 9, 10, 11, 12, 13, 14, 15, 16] [0, 1, 2, 3, 4, 5, 6, 7, 8, 9, 10, 11, 12, 13, 14, 15, 16] (va_runS (As := [.int y1, .int (0 : Int32), .int (1 : Int32)]) (rest := []) ⟨hx, hb, hml, hown, hts⟩ (kX3_isWithin l dC dI cI cJ  H.size   y1 (0 : Int32) (1 : Int32) (fw_be hq)) (va_cwS 3 hts gX3_stretch_X3_isWithin rfl rfl rfl (by decide +kernel) ⟨Nat.le_of_ble_eq_true rfl, Nat.le_of_ble_eq_true rfl⟩) ⟨fw_blind, fun U hU hW => fw_pre hPc hK hDc hN hU hW⟩ rfl rfl hl.1 rfl (lv_room (Nat.le_of_ble_eq_true rfl)) dX3_stretch_3 ⟨Nat.zero_le _, Nat.zero_le _⟩) hP hD hS hA rfl rfl (by decide) (by decide) (by decide) (fun _ => rfl) (fun r_1 u H locs hw hP hD hS => ?_)
  obtain ⟨hw, n_3⟩ := hw
  have hq := fw_bs hw hq
  try dsimp only at hq
  refine lv_if_ne (tgt := 12) hx hb dX3_stretch_6 (by decide) (fun c_4 => ?_) (fun c_4 => ?_)
  · have hq := fw_if c_4 hq
    refine lv_aload_n hx hb dX3_stretch_12 rfl (lv_at hl 0 rfl) ?_
    refine lv_iconst (v := (0 : Int32)) hx hb dX3_stretch_13 (by decide) ?_
    have hPc := hP.sub (ws' := (wX cI cJ q  nc0 lc0 le0 ge0 wt0 kp0 fo0 po0 na0 ns0 ta0 ts0 mx0 ch0 mo0 ms0 fs0)) [0, 1, 2, 3, 4, 5, 6, 7, 8, 9, 10, 11, 12, 13, 14, 15, 16] rfl
    have hDc := hD.sub (ws' := (wX cI cJ q  nc0 lc0 le0 ge0 wt0 kp0 fo0 po0 na0 ns0 ta0 ts0 mx0 ch0 mo0 ms0 fs0)) [0, 1, 2, 3, 4, 5, 6, 7, 8, 9, 10, 11, 12, 13, 14, 15, 16] (by decide) rfl
    refine fw_cr (wr := []) (w2 := fun u => (wX cI cJ q  nc0 lc0 le0 ge0 wt0 kp0 fo0 po0 u.1 u.2 ta0 ts0 mx0 ch0 mo0 ms0 fs0)) [0, 1, 2, 3, 4, 5, 6, 7, 8, 9, 10, 11, 12, 13, 14, 15, 16] [] [0, 1, 2, 3, 4, 5, 6, 7, 8, 9, 10, 11, 12, 13, 14, 15, 16] (va_runV (b := (q 0)) (As := [.int (0 : Int32)]) (rest := []) ⟨hx, hb, hml, hown, hts⟩ (kX3_measured_N l dC dI cI cJ q H.size  nc0 lc0 le0 ge0 wt0 kp0 fo0 po0 na0 ns0 ta0 ts0 mx0 ch0 mo0 ms0 fs0 (0 : Int32) rfl (fw_be hq)) (cwV 1 hts gX3_stretch_X3_measured rfl rfl rfl (by decide +kernel) ⟨Nat.le_of_ble_eq_true rfl, Nat.le_of_ble_eq_true rfl⟩) ⟨fw_blind, va_recv hK hPc (ci := 3) (q0 := 0) rfl rfl, fun U hU hW => fw_pre hPc hK hDc hN hU hW⟩ rfl rfl hl.1 rfl (lv_room (Nat.le_of_ble_eq_true rfl)) dX3_stretch_14 ⟨Nat.zero_le _, Nat.zero_le _⟩) hP hD hS hA rfl rfl (by decide) (by decide) (by decide) (fun _ => rfl) (fun u H locs hw hP hD hS => ?_)
    obtain ⟨na_5, ns_6⟩ := u
    have hq := fw_bs hw hq
    try dsimp only at hq
    have hP : va_P (dC, dI) vwCl (wX cI cJ q  nc0 lc0 le0 ge0 wt0 kp0 fo0 po0 na_5 ns_6 ta0 ts0 mx0 ch0 mo0 ms0 fs0) H := hP
    have hD : va_D A (wX cI cJ q  nc0 lc0 le0 ge0 wt0 kp0 fo0 po0 na_5 ns_6 ta0 ts0 mx0 ch0 mo0 ms0 fs0) := hD
    refine lv_astore_n (lv' := [(2, .ref (q 8)), (0, .ref (q 0)), (1, .int y1)]) hx hb dX3_stretch_17 rfl hl (by decide) rfl (fun ls hl => ?_)
    refine lv_aload_n hx hb dX3_stretch_18 rfl (lv_at hl 1 rfl) ?_
    refine lv_iconst (v := (1 : Int32)) hx hb dX3_stretch_19 (by decide) ?_
    have hPc := hP.sub (ws' := (wX cI cJ q  nc0 lc0 le0 ge0 wt0 kp0 fo0 po0 na_5 ns_6 ta0 ts0 mx0 ch0 mo0 ms0 fs0)) [0, 1, 2, 3, 4, 5, 6, 7, 8, 9, 10, 11, 12, 13, 14, 15, 16] rfl
    have hDc := hD.sub (ws' := (wX cI cJ q  nc0 lc0 le0 ge0 wt0 kp0 fo0 po0 na_5 ns_6 ta0 ts0 mx0 ch0 mo0 ms0 fs0)) [0, 1, 2, 3, 4, 5, 6, 7, 8, 9, 10, 11, 12, 13, 14, 15, 16] (by decide) rfl
    refine fw_cr (wr := []) (w2 := fun u => (wX cI cJ q  nc0 lc0 le0 ge0 wt0 kp0 fo0 po0 na_5 ns_6 u.1 u.2 mx0 ch0 mo0 ms0 fs0)) [0, 1, 2, 3, 4, 5, 6, 7, 8, 9, 10, 11, 12, 13, 14, 15, 16] [] [0, 1, 2, 3, 4, 5, 6, 7, 8, 9, 10, 11, 12, 13, 14, 15, 16] (va_runV (b := (q 0)) (As := [.int (1 : Int32)]) (rest := []) ⟨hx, hb, hml, hown, hts⟩ (kX3_measured_T l dC dI cI cJ q H.size  nc0 lc0 le0 ge0 wt0 kp0 fo0 po0 na_5 ns_6 ta0 ts0 mx0 ch0 mo0 ms0 fs0 (1 : Int32) (by decide) (fw_be hq)) (cwV 1 hts gX3_stretch_X3_measured rfl rfl rfl (by decide +kernel) ⟨Nat.le_of_ble_eq_true rfl, Nat.le_of_ble_eq_true rfl⟩) ⟨fw_blind, va_recv hK hPc (ci := 3) (q0 := 0) rfl rfl, fun U hU hW => fw_pre hPc hK hDc hN hU hW⟩ rfl rfl hl.1 rfl (lv_room (Nat.le_of_ble_eq_true rfl)) dX3_stretch_20 ⟨Nat.zero_le _, Nat.zero_le _⟩) hP hD hS hA rfl rfl (by decide) (by decide) (by decide) (fun _ => rfl) (fun u H locs hw hP hD hS => ?_)
    obtain ⟨ta_9, ts_10⟩ := u
    have hq := fw_bs hw hq
    try dsimp only at hq
    have hP : va_P (dC, dI) vwCl (wX cI cJ q  nc0 lc0 le0 ge0 wt0 kp0 fo0 po0 na_5 ns_6 ta_9 ts_10 mx0 ch0 mo0 ms0 fs0) H := hP
    have hD : va_D A (wX cI cJ q  nc0 lc0 le0 ge0 wt0 kp0 fo0 po0 na_5 ns_6 ta_9 ts_10 mx0 ch0 mo0 ms0 fs0) := hD
    refine lv_astore_n (lv' := [(3, .ref (q 10)), (2, .ref (q 8)), (0, .ref (q 0)), (1, .int y1)]) hx hb dX3_stretch_23 rfl hl (by decide) rfl (fun ls hl => ?_)
    refine lv_iconst (v := (0 : Int32)) hx hb dX3_stretch_24 (by decide) ?_
    refine lv_istore (lv' := [(4, .int (0 : Int32)), (3, .ref (q 10)), (2, .ref (q 8)), (0, .ref (q 0)), (1, .int y1)]) hx hb dX3_stretch_25 hl (by decide) rfl (fun ls hl => ?_)
    refine lv_iconst (v := (0 : Int32)) hx hb dX3_stretch_27 (by decide) ?_
    refine lv_istore (lv' := [(5, .int (0 : Int32)), (4, .int (0 : Int32)), (3, .ref (q 10)), (2, .ref (q 8)), (0, .ref (q 0)), (1, .int y1)]) hx hb dX3_stretch_28 hl (by decide) rfl (fun ls hl => ?_)
    refine lv_iconst (v := (0 : Int32)) hx hb dX3_stretch_30 (by decide) ?_
    refine lv_istore (lv' := [(6, .int (0 : Int32)), (5, .int (0 : Int32)), (4, .int (0 : Int32)), (3, .ref (q 10)), (2, .ref (q 8)), (0, .ref (q 0)), (1, .int y1)]) hx hb dX3_stretch_31 hl (by decide) rfl (fun ls hl => ?_)
    obtain ⟨e_35, hw, hq⟩ := fw_bb hq
    refine L33 y1 na_5 ns_6 ta_9 ts_10 e_35 (fun x4_32 x5_33 x6_34 H locs ls he hP hD hS hl => ?_) (fun r9 he => by subst he; dsimp only at hq; exact hq) fw_N (0 : Int32) (0 : Int32) (0 : Int32) H locs ls hw hP hD hS (lv_sub hl [5, 6, 4, 3, 2, 1, 0] rfl)
    subst he
    try dsimp only at hq
    refine lv_iload hx hb dX3_stretch_138 (lv_at hl 4 rfl) ?_
    refine lv_i2l (v := (x4_32).toInt64) hx hb dX3_stretch_140 rfl ?_
    refine lv_iload hx hb dX3_stretch_141 (lv_at hl 5 rfl) ?_
    refine lv_i2l (v := (x5_33).toInt64) hx hb dX3_stretch_143 rfl ?_
    refine lv_iload_n hx hb dX3_stretch_144 rfl (lv_at hl 1 rfl) ?_
    have hPc := hP.sub (ws' := (w0 cI cJ   )) [] rfl
    have hDc := hD.sub (ws' := (w0 cI cJ   )) [] (by decide) rfl
    refine fw_cl (wr := [((q 0), .inr (3, [.int nc0, .int lc0, .ref (q 1), .ref (q 2), .ref (q 3), .ref (q 4), .ref (q 5), .ref (q 6), .ref (q 8), .ref (q 10), .ref (q 12), .ref (q 16)])), ((q 1), .inl (cI, 12, .inl le0)), ((q 2), .inl (cI, 12, .inl ge0)), ((q 3), .inl (cI, 12, .inl wt0)), ((q 4), .inl (cI, 12, .inl kp0)), ((q 5), .inl (cI, 12, .inl fo0)), ((q 6), .inr (2, [.ref (q 7)])), ((q 7), .inl (cI, 7, .inl po0)), ((q 8), .inr (0, [.ref (q 9), .int ns_6])), ((q 9), .inl (cI, 49, .inl na_5)), ((q 10), .inr (0, [.ref (q 11), .int ts_10])), ((q 11), .inl (cI, 49, .inl ta_9)), ((q 12), .inr (1, [.ref (q 13), .ref (q 14), .ref (q 15), .int ms0])), ((q 13), .inl (cJ, 49, .inr (.inl mx0))), ((q 14), .inl (cI, 7, .inl ch0)), ((q 15), .inl (cJ, 128, .inr (.inl mo0))), ((q 16), .inl (cI, 10, .inl fs0))]) (w2 := fun u => (wX cI cJ q  nc0 lc0 le0 ge0 wt0 kp0 fo0 po0 na_5 ns_6 ta_9 ts_10 mx0 ch0 mo0 ms0 fs0)) [] [0, 1, 2, 3, 4, 5, 6, 7, 8, 9, 10, 11, 12, 13, 14, 15, 16] [0, 1, 2, 3, 4, 5, 6, 7, 8, 9, 10, 11, 12, 13, 14, 15, 16] (va_runS (As := [.long ((x4_32).toInt64), .long ((x5_33).toInt64), .int y1]) (rest := []) ⟨hx, hb, hml, hown, hts⟩ (kX3_inLowestTerms l dC dI cI cJ  H.size   ((x4_32).toInt64) ((x5_33).toInt64) y1 (fw_be hq)) (va_cwS 3 hts gX3_stretch_X3_inLowestTerms rfl rfl rfl (by decide +kernel) ⟨Nat.le_of_ble_eq_true rfl, Nat.le_of_ble_eq_true rfl⟩) ⟨fw_blind, fun U hU hW => fw_pre hPc hK hDc hN hU hW⟩ rfl rfl hl.1 rfl (lv_room (Nat.le_of_ble_eq_true rfl)) dX3_stretch_145 ⟨Nat.zero_le _, Nat.zero_le _⟩) hP hD hS hA rfl rfl (by decide) (by decide) (by decide) (fun _ => rfl) (fun r_37 u H locs hw hP hD hS => ?_)
    have hq := fw_bs hw hq
    try dsimp only at hq
    refine lv_l2i (v := (r_37).toInt32) hx hb dX3_stretch_148 rfl ?_
    exact W.iret (v := (r_37).toInt32) hx hb hr (fun t ht hW => ⟨⟨(r_37).toInt32, (na_5, ns_6, ta_9, ts_10), rfl, hz.trans hq.symm, by rw [ht]; exact hP, hD⟩, hS.F ht⟩) hS.2.2 dX3_stretch_149
  · have hq := fw_it c_4 hq
    refine lv_bipush (v := (-3 : Int32)) hx hb dX3_stretch_9 (by decide) ?_
    exact W.iret (v := (-3 : Int32)) hx hb hr (fun t ht hW => ⟨⟨(-3 : Int32), (na0, ns0, ta0, ts0), rfl, hz.trans hq.symm, by rw [ht]; exact hP, hD⟩, hS.F ht⟩) hS.2.2 dX3_stretch_11
set_option maxHeartbeats 4000000 in
set_option maxRecDepth 100000 in
theorem kX3_trees (l : Launch) (dC : Nat → ClassId) (dI : Nat → Nat → Nat) (cI cJ : ClassId) (q : Nat → Nat) (sz : Nat)  (nc0 : Int32) (lc0 : Int32) (le0 : Nat → Int32) (ge0 : Nat → Int32) (wt0 : Nat → Int32) (kp0 : Nat → Int32) (fo0 : Nat → Int32) (po0 : Nat → Int32) (na0 : Nat → Int32) (ns0 : Int32) (ta0 : Nat → Int32) (ts0 : Int32) (mx0 : Nat → Int64) (ch0 : Nat → Int32) (mo0 : Nat → Int64) (ms0 : Int32) (fs0 : Nat → Int32) (y1 : Int32) (hd : ∃ z, pX3_trees nc0 lc0 le0 ge0 wt0 kp0 mx0 ch0 mo0 ms0 y1 = some z) : Met l yX3_trees wsX3_trees ({ frames := 4, cells := 0, slots := 0, locals := 94 }) (fw_Pc (dC, dI) (fw_tys cI cJ) (wX cI cJ q  nc0 lc0 le0 ge0 wt0 kp0 fo0 po0 na0 ns0 ta0 ts0 mx0 ch0 mo0 ms0 fs0) ([.ref (q 0), .int y1] : List Value) sz) (va_Ql (fun (r : Int64) (u : (Nat → Int64) × (Nat → Int32) × (Nat → Int64) × Int32) => pX3_trees nc0 lc0 le0 ge0 wt0 kp0 mx0 ch0 mo0 ms0 y1 = some (r, u)) (fun u t => fw_B (dC, dI) (va_A (wX cI cJ q  nc0 lc0 le0 ge0 wt0 kp0 fo0 po0 na0 ns0 ta0 ts0 mx0 ch0 mo0 ms0 fs0) sz) (wX cI cJ q  nc0 lc0 le0 ge0 wt0 kp0 fo0 po0 na0 ns0 ta0 ts0 u.1 u.2.1 u.2.2.1 u.2.2.2 fs0) t) (va_A (wX cI cJ q  nc0 lc0 le0 ge0 wt0 kp0 fo0 po0 na0 ns0 ta0 ts0 mx0 ch0 mo0 ms0 fs0) sz)) 0 0 (va_A (wX cI cJ q  nc0 lc0 le0 ge0 wt0 kp0 fo0 po0 na0 ns0 ta0 ts0 mx0 ch0 mo0 ms0 fs0) sz) := by
  obtain ⟨z, hz⟩ := hd
  refine Met.ofW (cc := cX3_trees) (maxL := 2) (ret := (some .long)) (by decide) rfl ?_
  intro p e s m args below meth c s₁ B hml hv
  obtain ⟨rfl, hsz, hP, hK, hD0, hN⟩ := hv
  have hx := B.exec
  have hb := B.bytes
  have hr := B.returns
  have hts := atoms_spec (ws := wsX3_trees) B.pre
  have hown : s.vm.findClass RX3 = some m.cls := findClass_of_methodNamed B.named
  have hlocks := B.notSynchronized
  subst hsz
  have hD := hD0.self (sz := s.heap.size)
  generalize hAe : va_A (wX cI cJ q  nc0 lc0 le0 ge0 wt0 kp0 fo0 po0 na0 ns0 ta0 ts0 mx0 ch0 mo0 ms0 fs0) s.heap.size = A at hD ⊢
  have hA : ∀ q : Nat, s.heap.size ≤ q → A q := fun q h => by rw [← hAe]; exact Or.inr h
  have hq := hz
  dsimp only [pX3_trees] at hq
  have hl := lv_entry (([.ref (q 0), .int y1] : List Value)) (n := 2) (Nat.le_of_ble_eq_true rfl)
  rw [lg_entry_eq]
  generalize (lg_sl (([.ref (q 0), .int y1] : List Value)) ++ List.replicate (2 - (lg_sl (([.ref (q 0), .int y1] : List Value))).length) Slot.unset).toArray = ls at hl ⊢
  have hl : lv_has ls 2 [(0, .ref (q 0)), (1, .int y1)] := hl
  obtain ⟨H, hHe⟩ : ∃ H : Heap, H = s.heap := ⟨_, rfl⟩
  obtain ⟨locs, hLe⟩ : ∃ L : List Loc, L = [] := ⟨_, rfl⟩
  have hP : va_P (dC, dI) vwCl (wX cI cJ q  nc0 lc0 le0 ge0 wt0 kp0 fo0 po0 na0 ns0 ta0 ts0 mx0 ch0 mo0 ms0 fs0) H := by rw [hHe]; exact hP
  have hS : va_S A s.heap H locs := by rw [hHe, hLe]; exact va_S.rf
  show W p l e (headSpec wsX3_trees ({ frames := 4, cells := 0, slots := 0, locals := 94 })).room s m ([.ref (q 0), .int y1] : List Value).toArray below meth c s.heap [] 0 0 (MQ below (va_Ql (fun (r : Int64) (u : (Nat → Int64) × (Nat → Int32) × (Nat → Int64) × Int32) => pX3_trees nc0 lc0 le0 ge0 wt0 kp0 mx0 ch0 mo0 ms0 y1 = some (r, u)) (fun u t => fw_B (dC, dI) A (wX cI cJ q  nc0 lc0 le0 ge0 wt0 kp0 fo0 po0 na0 ns0 ta0 ts0 u.1 u.2.1 u.2.2.1 u.2.2.2 fs0) t) A) ([.ref (q 0), .int y1] : List Value).toArray s 0 0 A) (F0 m 0 ls [])
  rw [← hHe, ← hLe]
  refine lv_iload_n hx hb dX3_trees_0 rfl (lv_at hl 1 rfl) ?_
  have hPc := hP.sub (ws' := (w0 cI cJ   )) [] rfl
  have hDc := hD.sub (ws' := (w0 cI cJ   )) [] (by decide) rfl
  refine fw_ci (wr := [((q 0), .inr (3, [.int nc0, .int lc0, .ref (q 1), .ref (q 2), .ref (q 3), .ref (q 4), .ref (q 5), .ref (q 6), .ref (q 8), .ref (q 10), .ref (q 12), .ref (q 16)])), ((q 1), .inl (cI, 12, .inl le0)), ((q 2), .inl (cI, 12, .inl ge0)), ((q 3), .inl (cI, 12, .inl wt0)), ((q 4), .inl (cI, 12, .inl kp0)), ((q 5), .inl (cI, 12, .inl fo0)), ((q 6), .inr (2, [.ref (q 7)])), ((q 7), .inl (cI, 7, .inl po0)), ((q 8), .inr (0, [.ref (q 9), .int ns0])), ((q 9), .inl (cI, 49, .inl na0)), ((q 10), .inr (0, [.ref (q 11), .int ts0])), ((q 11), .inl (cI, 49, .inl ta0)), ((q 12), .inr (1, [.ref (q 13), .ref (q 14), .ref (q 15), .int ms0])), ((q 13), .inl (cJ, 49, .inr (.inl mx0))), ((q 14), .inl (cI, 7, .inl ch0)), ((q 15), .inl (cJ, 128, .inr (.inl mo0))), ((q 16), .inl (cI, 10, .inl fs0))]) (w2 := fun u => (wX cI cJ q  nc0 lc0 le0 ge0 wt0 kp0 fo0 po0 na0 ns0 ta0 ts0 mx0 ch0 mo0 ms0 fs0)) [] [0, 1, 2, 3, 4, 5, 6, 7, 8, 9, 10, 11, 12, 13, 14, 15, 16] [0, 1, 2, 3, 4, 5, 6, 7, 8, 9, 10, 11, 12, 13, 14, 15, 16] (va_runS (As := [.int y1]) (rest := []) ⟨hx, hb, hml, hown, hts⟩ (kX3_isWay l dC dI cI cJ  H.size   y1 (fw_be hq)) (va_cwS 1 hts gX3_trees_X3_isWay rfl rfl rfl (by decide +kernel) ⟨Nat.le_of_ble_eq_true rfl, Nat.le_of_ble_eq_true rfl⟩) ⟨fw_blind, fun U hU hW => fw_pre hPc hK hDc hN hU hW⟩ rfl rfl hl.1 rfl (lv_room (Nat.le_of_ble_eq_true rfl)) dX3_trees_1 ⟨Nat.zero_le _, Nat.zero_le _⟩) hP hD hS hA rfl rfl (by decide) (by decide) (by decide) (fun _ => rfl) (fun r_1 u H locs hw hP hD hS => ?_)
  obtain ⟨hw, n_3⟩ := hw
  have hq := fw_bs hw hq
  try dsimp only at hq
  refine lv_if_ne (tgt := 11) hx hb dX3_trees_4 (by decide) (fun c_4 => ?_) (fun c_4 => ?_)
  · have hq := fw_if c_4 hq
    refine lv_aload_n hx hb dX3_trees_11 rfl (lv_at hl 0 rfl) ?_
    refine lv_iload_n hx hb dX3_trees_12 rfl (lv_at hl 1 rfl) ?_
    have hPc := hP.sub (ws' := (wX cI cJ q  nc0 lc0 le0 ge0 wt0 kp0 fo0 po0 na0 ns0 ta0 ts0 mx0 ch0 mo0 ms0 fs0)) [0, 1, 2, 3, 4, 5, 6, 7, 8, 9, 10, 11, 12, 13, 14, 15, 16] rfl
    have hDc := hD.sub (ws' := (wX cI cJ q  nc0 lc0 le0 ge0 wt0 kp0 fo0 po0 na0 ns0 ta0 ts0 mx0 ch0 mo0 ms0 fs0)) [0, 1, 2, 3, 4, 5, 6, 7, 8, 9, 10, 11, 12, 13, 14, 15, 16] (by decide) rfl
    refine fw_cl (wr := []) (w2 := fun u => (wX cI cJ q  nc0 lc0 le0 ge0 wt0 kp0 fo0 po0 na0 ns0 ta0 ts0 u.1 u.2.1 u.2.2.1 u.2.2.2 fs0)) [0, 1, 2, 3, 4, 5, 6, 7, 8, 9, 10, 11, 12, 13, 14, 15, 16] [] [0, 1, 2, 3, 4, 5, 6, 7, 8, 9, 10, 11, 12, 13, 14, 15, 16] (va_runV (b := (q 0)) (As := [.int y1]) (rest := []) ⟨hx, hb, hml, hown, hts⟩ (kX3_treeProducts l dC dI cI cJ q H.size  nc0 lc0 le0 ge0 wt0 kp0 fo0 po0 na0 ns0 ta0 ts0 mx0 ch0 mo0 ms0 fs0 y1 (fw_be hq)) (cwV 1 hts gX3_trees_X3_treeProducts rfl rfl rfl (by decide +kernel) ⟨Nat.le_of_ble_eq_true rfl, Nat.le_of_ble_eq_true rfl⟩) ⟨fw_blind, va_recv hK hPc (ci := 3) (q0 := 0) rfl rfl, fun U hU hW => fw_pre hPc hK hDc hN hU hW⟩ rfl rfl hl.1 rfl (lv_room (Nat.le_of_ble_eq_true rfl)) dX3_trees_13 ⟨Nat.zero_le _, Nat.zero_le _⟩) hP hD hS hA rfl rfl (by decide) (by decide) (by decide) (fun _ => rfl) (fun r_9 u H locs hw hP hD hS => ?_)
    obtain ⟨mx_5, ch_6, mo_7, ms_8⟩ := u
    have hq := fw_bs hw hq
    try dsimp only at hq
    have hP : va_P (dC, dI) vwCl (wX cI cJ q  nc0 lc0 le0 ge0 wt0 kp0 fo0 po0 na0 ns0 ta0 ts0 mx_5 ch_6 mo_7 ms_8 fs0) H := hP
    have hD : va_D A (wX cI cJ q  nc0 lc0 le0 ge0 wt0 kp0 fo0 po0 na0 ns0 ta0 ts0 mx_5 ch_6 mo_7 ms_8 fs0) := hD
    exact W.lret (v := r_9) hx hb hr (fun t ht hW => ⟨⟨r_9, (mx_5, ch_6, mo_7, ms_8), rfl, hz.trans hq.symm, by rw [ht]; exact hP, hD⟩, hS.F ht⟩) hS.2.2 dX3_trees_16
  · have hq := fw_it c_4 hq
    refine lv_ldc2 hx hb hown (hts (.constantLong RX3 133 (-3)) (by decide +kernel)) dX3_trees_7 ?_
    exact W.lret (v := (-3 : Int64)) hx hb hr (fun t ht hW => ⟨⟨(-3 : Int64), (mx0, ch0, mo0, ms0), rfl, hz.trans hq.symm, by rw [ht]; exact hP, hD⟩, hS.F ht⟩) hS.2.2 dX3_trees_10
set_option maxHeartbeats 4000000 in
set_option maxRecDepth 100000 in
theorem kX3_resistance (l : Launch) (dC : Nat → ClassId) (dI : Nat → Nat → Nat) (cI cJ : ClassId) (q : Nat → Nat) (sz : Nat)  (nc0 : Int32) (lc0 : Int32) (le0 : Nat → Int32) (ge0 : Nat → Int32) (wt0 : Nat → Int32) (kp0 : Nat → Int32) (fo0 : Nat → Int32) (po0 : Nat → Int32) (na0 : Nat → Int32) (ns0 : Int32) (ta0 : Nat → Int32) (ts0 : Int32) (mx0 : Nat → Int64) (ch0 : Nat → Int32) (mo0 : Nat → Int64) (ms0 : Int32) (fs0 : Nat → Int32) (y1 : Int32) (y2 : Int32) (y3 : Int32) (y4 : Int32) (hd : ∃ z, pX3_resistance nc0 lc0 le0 ge0 wt0 kp0 mx0 ch0 mo0 ms0 y1 y2 y3 y4 = some z) : Met l yX3_resistance wsX3_resistance ({ frames := 4, cells := 0, slots := 0, locals := 96 }) (fw_Pc (dC, dI) (fw_tys cI cJ) (wX cI cJ q  nc0 lc0 le0 ge0 wt0 kp0 fo0 po0 na0 ns0 ta0 ts0 mx0 ch0 mo0 ms0 fs0) ([.ref (q 0), .int y1, .int y2, .int y3, .int y4] : List Value) sz) (va_Ql (fun (r : Int64) (u : (Nat → Int64) × (Nat → Int32) × (Nat → Int64) × Int32) => pX3_resistance nc0 lc0 le0 ge0 wt0 kp0 mx0 ch0 mo0 ms0 y1 y2 y3 y4 = some (r, u)) (fun u t => fw_B (dC, dI) (va_A (wX cI cJ q  nc0 lc0 le0 ge0 wt0 kp0 fo0 po0 na0 ns0 ta0 ts0 mx0 ch0 mo0 ms0 fs0) sz) (wX cI cJ q  nc0 lc0 le0 ge0 wt0 kp0 fo0 po0 na0 ns0 ta0 ts0 u.1 u.2.1 u.2.2.1 u.2.2.2 fs0) t) (va_A (wX cI cJ q  nc0 lc0 le0 ge0 wt0 kp0 fo0 po0 na0 ns0 ta0 ts0 mx0 ch0 mo0 ms0 fs0) sz)) 0 0 (va_A (wX cI cJ q  nc0 lc0 le0 ge0 wt0 kp0 fo0 po0 na0 ns0 ta0 ts0 mx0 ch0 mo0 ms0 fs0) sz) := by
  obtain ⟨z, hz⟩ := hd
  refine Met.ofW (cc := cX3_resistance) (maxL := 5) (ret := (some .long)) (by decide) rfl ?_
  intro p e s m args below meth c s₁ B hml hv
  obtain ⟨rfl, hsz, hP, hK, hD0, hN⟩ := hv
  have hx := B.exec
  have hb := B.bytes
  have hr := B.returns
  have hts := atoms_spec (ws := wsX3_resistance) B.pre
  have hown : s.vm.findClass RX3 = some m.cls := findClass_of_methodNamed B.named
  have hlocks := B.notSynchronized
  subst hsz
  have hD := hD0.self (sz := s.heap.size)
  generalize hAe : va_A (wX cI cJ q  nc0 lc0 le0 ge0 wt0 kp0 fo0 po0 na0 ns0 ta0 ts0 mx0 ch0 mo0 ms0 fs0) s.heap.size = A at hD ⊢
  have hA : ∀ q : Nat, s.heap.size ≤ q → A q := fun q h => by rw [← hAe]; exact Or.inr h
  have hq := hz
  dsimp only [pX3_resistance] at hq
  have hl := lv_entry (([.ref (q 0), .int y1, .int y2, .int y3, .int y4] : List Value)) (n := 5) (Nat.le_of_ble_eq_true rfl)
  rw [lg_entry_eq]
  generalize (lg_sl (([.ref (q 0), .int y1, .int y2, .int y3, .int y4] : List Value)) ++ List.replicate (5 - (lg_sl (([.ref (q 0), .int y1, .int y2, .int y3, .int y4] : List Value))).length) Slot.unset).toArray = ls at hl ⊢
  have hl : lv_has ls 5 [(0, .ref (q 0)), (1, .int y1), (2, .int y2), (3, .int y3), (4, .int y4)] := hl
  obtain ⟨H, hHe⟩ : ∃ H : Heap, H = s.heap := ⟨_, rfl⟩
  obtain ⟨locs, hLe⟩ : ∃ L : List Loc, L = [] := ⟨_, rfl⟩
  have hP : va_P (dC, dI) vwCl (wX cI cJ q  nc0 lc0 le0 ge0 wt0 kp0 fo0 po0 na0 ns0 ta0 ts0 mx0 ch0 mo0 ms0 fs0) H := by rw [hHe]; exact hP
  have hS : va_S A s.heap H locs := by rw [hHe, hLe]; exact va_S.rf
  show W p l e (headSpec wsX3_resistance ({ frames := 4, cells := 0, slots := 0, locals := 96 })).room s m ([.ref (q 0), .int y1, .int y2, .int y3, .int y4] : List Value).toArray below meth c s.heap [] 0 0 (MQ below (va_Ql (fun (r : Int64) (u : (Nat → Int64) × (Nat → Int32) × (Nat → Int64) × Int32) => pX3_resistance nc0 lc0 le0 ge0 wt0 kp0 mx0 ch0 mo0 ms0 y1 y2 y3 y4 = some (r, u)) (fun u t => fw_B (dC, dI) A (wX cI cJ q  nc0 lc0 le0 ge0 wt0 kp0 fo0 po0 na0 ns0 ta0 ts0 u.1 u.2.1 u.2.2.1 u.2.2.2 fs0) t) A) ([.ref (q 0), .int y1, .int y2, .int y3, .int y4] : List Value).toArray s 0 0 A) (F0 m 0 ls [])
  rw [← hHe, ← hLe]
  refine lv_aload_n hx hb dX3_resistance_0 rfl (lv_at hl 0 rfl) ?_
  refine lv_iload_n hx hb dX3_resistance_1 rfl (lv_at hl 1 rfl) ?_
  have hPc := hP.sub (ws' := (wX cI cJ q  nc0 lc0 le0 ge0 wt0 kp0 fo0 po0 na0 ns0 ta0 ts0 mx0 ch0 mo0 ms0 fs0)) [0, 1, 2, 3, 4, 5, 6, 7, 8, 9, 10, 11, 12, 13, 14, 15, 16] rfl
  have hDc := hD.sub (ws' := (wX cI cJ q  nc0 lc0 le0 ge0 wt0 kp0 fo0 po0 na0 ns0 ta0 ts0 mx0 ch0 mo0 ms0 fs0)) [0, 1, 2, 3, 4, 5, 6, 7, 8, 9, 10, 11, 12, 13, 14, 15, 16] (by decide) rfl
  refine fw_ci (wr := []) (w2 := fun u => (wX cI cJ q  nc0 lc0 le0 ge0 wt0 kp0 fo0 po0 na0 ns0 ta0 ts0 mx0 ch0 mo0 ms0 fs0)) [0, 1, 2, 3, 4, 5, 6, 7, 8, 9, 10, 11, 12, 13, 14, 15, 16] [] [0, 1, 2, 3, 4, 5, 6, 7, 8, 9, 10, 11, 12, 13, 14, 15, 16] (va_runV (b := (q 0)) (As := [.int y1]) (rest := []) ⟨hx, hb, hml, hown, hts⟩ (kX3_isNode l dC dI cI cJ q H.size  nc0 lc0 le0 ge0 wt0 kp0 fo0 po0 na0 ns0 ta0 ts0 mx0 ch0 mo0 ms0 fs0 y1 (fw_be hq)) (cwV 1 hts gX3_resistance_X3_isNode rfl rfl rfl (by decide +kernel) ⟨Nat.le_of_ble_eq_true rfl, Nat.le_of_ble_eq_true rfl⟩) ⟨fw_blind, va_recv hK hPc (ci := 3) (q0 := 0) rfl rfl, fun U hU hW => fw_pre hPc hK hDc hN hU hW⟩ rfl rfl hl.1 rfl (lv_room (Nat.le_of_ble_eq_true rfl)) dX3_resistance_2 ⟨Nat.zero_le _, Nat.zero_le _⟩) hP hD hS hA rfl rfl (by decide) (by decide) (by decide) (fun _ => rfl) (fun r_1 u H locs hw hP hD hS => ?_)
  obtain ⟨hw, n_3⟩ := hw
  have hq := fw_bs hw hq
  try dsimp only at hq
  refine lv_if_eq (tgt := 16) hx hb dX3_resistance_5 (by decide) (fun c_4 => ?_) (fun c_4 => ?_)
  · have hq := fw_it c_4 hq
    refine lv_ldc2 hx hb hown (hts (.constantLong RX3 139 (-2)) (by decide +kernel)) dX3_resistance_16 ?_
    exact W.lret (v := (-2 : Int64)) hx hb hr (fun t ht hW => ⟨⟨(-2 : Int64), (mx0, ch0, mo0, ms0), rfl, hz.trans hq.symm, by rw [ht]; exact hP, hD⟩, hS.F ht⟩) hS.2.2 dX3_resistance_19
  · have hq := fw_if c_4 hq
    refine lv_aload_n hx hb dX3_resistance_8 rfl (lv_at hl 0 rfl) ?_
    refine lv_iload_n hx hb dX3_resistance_9 rfl (lv_at hl 2 rfl) ?_
    have hPc := hP.sub (ws' := (wX cI cJ q  nc0 lc0 le0 ge0 wt0 kp0 fo0 po0 na0 ns0 ta0 ts0 mx0 ch0 mo0 ms0 fs0)) [0, 1, 2, 3, 4, 5, 6, 7, 8, 9, 10, 11, 12, 13, 14, 15, 16] rfl
    have hDc := hD.sub (ws' := (wX cI cJ q  nc0 lc0 le0 ge0 wt0 kp0 fo0 po0 na0 ns0 ta0 ts0 mx0 ch0 mo0 ms0 fs0)) [0, 1, 2, 3, 4, 5, 6, 7, 8, 9, 10, 11, 12, 13, 14, 15, 16] (by decide) rfl
    refine fw_ci (wr := []) (w2 := fun u => (wX cI cJ q  nc0 lc0 le0 ge0 wt0 kp0 fo0 po0 na0 ns0 ta0 ts0 mx0 ch0 mo0 ms0 fs0)) [0, 1, 2, 3, 4, 5, 6, 7, 8, 9, 10, 11, 12, 13, 14, 15, 16] [] [0, 1, 2, 3, 4, 5, 6, 7, 8, 9, 10, 11, 12, 13, 14, 15, 16] (va_runV (b := (q 0)) (As := [.int y2]) (rest := []) ⟨hx, hb, hml, hown, hts⟩ (kX3_isNode l dC dI cI cJ q H.size  nc0 lc0 le0 ge0 wt0 kp0 fo0 po0 na0 ns0 ta0 ts0 mx0 ch0 mo0 ms0 fs0 y2 (fw_be hq)) (cwV 1 hts gX3_resistance_X3_isNode rfl rfl rfl (by decide +kernel) ⟨Nat.le_of_ble_eq_true rfl, Nat.le_of_ble_eq_true rfl⟩) ⟨fw_blind, va_recv hK hPc (ci := 3) (q0 := 0) rfl rfl, fun U hU hW => fw_pre hPc hK hDc hN hU hW⟩ rfl rfl hl.1 rfl (lv_room (Nat.le_of_ble_eq_true rfl)) dX3_resistance_10 ⟨Nat.zero_le _, Nat.zero_le _⟩) hP hD hS hA rfl rfl (by decide) (by decide) (by decide) (fun _ => rfl) (fun r_5 u H locs hw hP hD hS => ?_)
    obtain ⟨hw, n_7⟩ := hw
    have hq := fw_bs hw hq
    try dsimp only at hq
    refine lv_if_ne (tgt := 20) hx hb dX3_resistance_13 (by decide) (fun c_8 => ?_) (fun c_8 => ?_)
    · have hq := fw_if c_8 hq
      refine lv_iload_n hx hb dX3_resistance_20 rfl (lv_at hl 1 rfl) ?_
      refine lv_iload_n hx hb dX3_resistance_21 rfl (lv_at hl 2 rfl) ?_
      refine lv_icmp_eq (tgt := 42) hx hb dX3_resistance_22 (by decide) (fun c_9 => ?_) (fun c_9 => ?_)
      · have hq := fw_it c_9 hq
        refine lv_ldc2 hx hb hown (hts (.constantLong RX3 133 (-3)) (by decide +kernel)) dX3_resistance_42 ?_
        exact W.lret (v := (-3 : Int64)) hx hb hr (fun t ht hW => ⟨⟨(-3 : Int64), (mx0, ch0, mo0, ms0), rfl, hz.trans hq.symm, by rw [ht]; exact hP, hD⟩, hS.F ht⟩) hS.2.2 dX3_resistance_45
      · have hq := fw_if c_9 hq
        refine lv_iload_n hx hb dX3_resistance_25 rfl (lv_at hl 3 rfl) ?_
        have hPc := hP.sub (ws' := (w0 cI cJ   )) [] rfl
        have hDc := hD.sub (ws' := (w0 cI cJ   )) [] (by decide) rfl
        refine fw_ci (wr := [((q 0), .inr (3, [.int nc0, .int lc0, .ref (q 1), .ref (q 2), .ref (q 3), .ref (q 4), .ref (q 5), .ref (q 6), .ref (q 8), .ref (q 10), .ref (q 12), .ref (q 16)])), ((q 1), .inl (cI, 12, .inl le0)), ((q 2), .inl (cI, 12, .inl ge0)), ((q 3), .inl (cI, 12, .inl wt0)), ((q 4), .inl (cI, 12, .inl kp0)), ((q 5), .inl (cI, 12, .inl fo0)), ((q 6), .inr (2, [.ref (q 7)])), ((q 7), .inl (cI, 7, .inl po0)), ((q 8), .inr (0, [.ref (q 9), .int ns0])), ((q 9), .inl (cI, 49, .inl na0)), ((q 10), .inr (0, [.ref (q 11), .int ts0])), ((q 11), .inl (cI, 49, .inl ta0)), ((q 12), .inr (1, [.ref (q 13), .ref (q 14), .ref (q 15), .int ms0])), ((q 13), .inl (cJ, 49, .inr (.inl mx0))), ((q 14), .inl (cI, 7, .inl ch0)), ((q 15), .inl (cJ, 128, .inr (.inl mo0))), ((q 16), .inl (cI, 10, .inl fs0))]) (w2 := fun u => (wX cI cJ q  nc0 lc0 le0 ge0 wt0 kp0 fo0 po0 na0 ns0 ta0 ts0 mx0 ch0 mo0 ms0 fs0)) [] [0, 1, 2, 3, 4, 5, 6, 7, 8, 9, 10, 11, 12, 13, 14, 15, 16] [0, 1, 2, 3, 4, 5, 6, 7, 8, 9, 10, 11, 12, 13, 14, 15, 16] (va_runS (As := [.int y3]) (rest := []) ⟨hx, hb, hml, hown, hts⟩ (kX3_isWay l dC dI cI cJ  H.size   y3 (fw_be hq)) (va_cwS 1 hts gX3_resistance_X3_isWay rfl rfl rfl (by decide +kernel) ⟨Nat.le_of_ble_eq_true rfl, Nat.le_of_ble_eq_true rfl⟩) ⟨fw_blind, fun U hU hW => fw_pre hPc hK hDc hN hU hW⟩ rfl rfl hl.1 rfl (lv_room (Nat.le_of_ble_eq_true rfl)) dX3_resistance_26 ⟨Nat.zero_le _, Nat.zero_le _⟩) hP hD hS hA rfl rfl (by decide) (by decide) (by decide) (fun _ => rfl) (fun r_10 u H locs hw hP hD hS => ?_)
        obtain ⟨hw, n_12⟩ := hw
        have hq := fw_bs hw hq
        try dsimp only at hq
        refine lv_if_eq (tgt := 42) hx hb dX3_resistance_29 (by decide) (fun c_13 => ?_) (fun c_13 => ?_)
        · have hq := fw_it c_13 hq
          refine lv_ldc2 hx hb hown (hts (.constantLong RX3 133 (-3)) (by decide +kernel)) dX3_resistance_42 ?_
          exact W.lret (v := (-3 : Int64)) hx hb hr (fun t ht hW => ⟨⟨(-3 : Int64), (mx0, ch0, mo0, ms0), rfl, hz.trans hq.symm, by rw [ht]; exact hP, hD⟩, hS.F ht⟩) hS.2.2 dX3_resistance_45
        · have hq := fw_if c_13 hq
          refine lv_iload hx hb dX3_resistance_32 (lv_at hl 4 rfl) ?_
          refine lv_iconst (v := (0 : Int32)) hx hb dX3_resistance_34 (by decide) ?_
          refine lv_iconst (v := (1 : Int32)) hx hb dX3_resistance_35 (by decide) ?_
          have hPc := hP.sub (ws' := (w0 cI cJ   )) [] rfl
          have hDc := hD.sub (ws' := (w0 cI cJ   )) [] (by decide) rfl
          refine fw_ci (wr := [((q 0), .inr (3, [.int nc0, .int lc0, .ref (q 1), .ref (q 2), .ref (q 3), .ref (q 4), .ref (q 5), .ref (q 6), .ref (q 8), .ref (q 10), .ref (q 12), .ref (q 16)])), ((q 1), .inl (cI, 12, .inl le0)), ((q 2), .inl (cI, 12, .inl ge0)), ((q 3), .inl (cI, 12, .inl wt0)), ((q 4), .inl (cI, 12, .inl kp0)), ((q 5), .inl (cI, 12, .inl fo0)), ((q 6), .inr (2, [.ref (q 7)])), ((q 7), .inl (cI, 7, .inl po0)), ((q 8), .inr (0, [.ref (q 9), .int ns0])), ((q 9), .inl (cI, 49, .inl na0)), ((q 10), .inr (0, [.ref (q 11), .int ts0])), ((q 11), .inl (cI, 49, .inl ta0)), ((q 12), .inr (1, [.ref (q 13), .ref (q 14), .ref (q 15), .int ms0])), ((q 13), .inl (cJ, 49, .inr (.inl mx0))), ((q 14), .inl (cI, 7, .inl ch0)), ((q 15), .inl (cJ, 128, .inr (.inl mo0))), ((q 16), .inl (cI, 10, .inl fs0))]) (w2 := fun u => (wX cI cJ q  nc0 lc0 le0 ge0 wt0 kp0 fo0 po0 na0 ns0 ta0 ts0 mx0 ch0 mo0 ms0 fs0)) [] [0, 1, 2, 3, 4, 5, 6, 7, 8, 9, 10, 11, 12, 13, 14, 15, 16] [0, 1, 2, 3, 4, 5, 6, 7, 8, 9, 10, 11, 12, 13, 14, 15, 16] (va_runS (As := [.int y4, .int (0 : Int32), .int (1 : Int32)]) (rest := []) ⟨hx, hb, hml, hown, hts⟩ (kX3_isWithin l dC dI cI cJ  H.size   y4 (0 : Int32) (1 : Int32) (fw_be hq)) (va_cwS 3 hts gX3_resistance_X3_isWithin rfl rfl rfl (by decide +kernel) ⟨Nat.le_of_ble_eq_true rfl, Nat.le_of_ble_eq_true rfl⟩) ⟨fw_blind, fun U hU hW => fw_pre hPc hK hDc hN hU hW⟩ rfl rfl hl.1 rfl (lv_room (Nat.le_of_ble_eq_true rfl)) dX3_resistance_36 ⟨Nat.zero_le _, Nat.zero_le _⟩) hP hD hS hA rfl rfl (by decide) (by decide) (by decide) (fun _ => rfl) (fun r_14 u H locs hw hP hD hS => ?_)
          obtain ⟨hw, n_16⟩ := hw
          have hq := fw_bs hw hq
          try dsimp only at hq
          refine lv_if_ne (tgt := 46) hx hb dX3_resistance_39 (by decide) (fun c_17 => ?_) (fun c_17 => ?_)
          · have hq := fw_if c_17 hq
            refine lv_aload_n hx hb dX3_resistance_46 rfl (lv_at hl 0 rfl) ?_
            refine lv_iload_n hx hb dX3_resistance_47 rfl (lv_at hl 1 rfl) ?_
            refine lv_iload_n hx hb dX3_resistance_48 rfl (lv_at hl 2 rfl) ?_
            refine lv_iload_n hx hb dX3_resistance_49 rfl (lv_at hl 3 rfl) ?_
            have hPc := hP.sub (ws' := (wX cI cJ q  nc0 lc0 le0 ge0 wt0 kp0 fo0 po0 na0 ns0 ta0 ts0 mx0 ch0 mo0 ms0 fs0)) [0, 1, 2, 3, 4, 5, 6, 7, 8, 9, 10, 11, 12, 13, 14, 15, 16] rfl
            have hDc := hD.sub (ws' := (wX cI cJ q  nc0 lc0 le0 ge0 wt0 kp0 fo0 po0 na0 ns0 ta0 ts0 mx0 ch0 mo0 ms0 fs0)) [0, 1, 2, 3, 4, 5, 6, 7, 8, 9, 10, 11, 12, 13, 14, 15, 16] (by decide) rfl
            refine fw_cl (wr := []) (w2 := fun u => (wX cI cJ q  nc0 lc0 le0 ge0 wt0 kp0 fo0 po0 na0 ns0 ta0 ts0 u.1 u.2.1 u.2.2.1 u.2.2.2 fs0)) [0, 1, 2, 3, 4, 5, 6, 7, 8, 9, 10, 11, 12, 13, 14, 15, 16] [] [0, 1, 2, 3, 4, 5, 6, 7, 8, 9, 10, 11, 12, 13, 14, 15, 16] (va_runV (b := (q 0)) (As := [.int y1, .int y2, .int y3]) (rest := []) ⟨hx, hb, hml, hown, hts⟩ (kX3_partingProducts l dC dI cI cJ q H.size  nc0 lc0 le0 ge0 wt0 kp0 fo0 po0 na0 ns0 ta0 ts0 mx0 ch0 mo0 ms0 fs0 y1 y2 y3 (fw_be hq)) (cwV 3 hts gX3_resistance_X3_partingProducts rfl rfl rfl (by decide +kernel) ⟨Nat.le_of_ble_eq_true rfl, Nat.le_of_ble_eq_true rfl⟩) ⟨fw_blind, va_recv hK hPc (ci := 3) (q0 := 0) rfl rfl, fun U hU hW => fw_pre hPc hK hDc hN hU hW⟩ rfl rfl hl.1 rfl (lv_room (Nat.le_of_ble_eq_true rfl)) dX3_resistance_50 ⟨Nat.zero_le _, Nat.zero_le _⟩) hP hD hS hA rfl rfl (by decide) (by decide) (by decide) (fun _ => rfl) (fun r_22 u H locs hw hP hD hS => ?_)
            obtain ⟨mx_18, ch_19, mo_20, ms_21⟩ := u
            have hq := fw_bs hw hq
            try dsimp only at hq
            have hP : va_P (dC, dI) vwCl (wX cI cJ q  nc0 lc0 le0 ge0 wt0 kp0 fo0 po0 na0 ns0 ta0 ts0 mx_18 ch_19 mo_20 ms_21 fs0) H := hP
            have hD : va_D A (wX cI cJ q  nc0 lc0 le0 ge0 wt0 kp0 fo0 po0 na0 ns0 ta0 ts0 mx_18 ch_19 mo_20 ms_21 fs0) := hD
            refine lv_aload_n hx hb dX3_resistance_53 rfl (lv_at hl 0 rfl) ?_
            refine lv_iload_n hx hb dX3_resistance_54 rfl (lv_at hl 3 rfl) ?_
            have hPc := hP.sub (ws' := (wX cI cJ q  nc0 lc0 le0 ge0 wt0 kp0 fo0 po0 na0 ns0 ta0 ts0 mx_18 ch_19 mo_20 ms_21 fs0)) [0, 1, 2, 3, 4, 5, 6, 7, 8, 9, 10, 11, 12, 13, 14, 15, 16] rfl
            have hDc := hD.sub (ws' := (wX cI cJ q  nc0 lc0 le0 ge0 wt0 kp0 fo0 po0 na0 ns0 ta0 ts0 mx_18 ch_19 mo_20 ms_21 fs0)) [0, 1, 2, 3, 4, 5, 6, 7, 8, 9, 10, 11, 12, 13, 14, 15, 16] (by decide) rfl
            refine fw_cl (wr := []) (w2 := fun u => (wX cI cJ q  nc0 lc0 le0 ge0 wt0 kp0 fo0 po0 na0 ns0 ta0 ts0 u.1 u.2.1 u.2.2.1 u.2.2.2 fs0)) [0, 1, 2, 3, 4, 5, 6, 7, 8, 9, 10, 11, 12, 13, 14, 15, 16] [] [0, 1, 2, 3, 4, 5, 6, 7, 8, 9, 10, 11, 12, 13, 14, 15, 16] (va_runV (b := (q 0)) (As := [.int y3]) (rest := [.long r_22]) ⟨hx, hb, hml, hown, hts⟩ (kX3_treeProducts l dC dI cI cJ q H.size  nc0 lc0 le0 ge0 wt0 kp0 fo0 po0 na0 ns0 ta0 ts0 mx_18 ch_19 mo_20 ms_21 fs0 y3 (fw_be hq)) (cwV 1 hts gX3_resistance_X3_treeProducts rfl rfl rfl (by decide +kernel) ⟨Nat.le_of_ble_eq_true rfl, Nat.le_of_ble_eq_true rfl⟩) ⟨fw_blind, va_recv hK hPc (ci := 3) (q0 := 0) rfl rfl, fun U hU hW => fw_pre hPc hK hDc hN hU hW⟩ rfl rfl hl.1 rfl (lv_room (Nat.le_of_ble_eq_true rfl)) dX3_resistance_55 ⟨Nat.zero_le _, Nat.zero_le _⟩) hP hD hS hA rfl rfl (by decide) (by decide) (by decide) (fun _ => rfl) (fun r_28 u H locs hw hP hD hS => ?_)
            obtain ⟨mx_24, ch_25, mo_26, ms_27⟩ := u
            have hq := fw_bs hw hq
            try dsimp only at hq
            have hP : va_P (dC, dI) vwCl (wX cI cJ q  nc0 lc0 le0 ge0 wt0 kp0 fo0 po0 na0 ns0 ta0 ts0 mx_24 ch_25 mo_26 ms_27 fs0) H := hP
            have hD : va_D A (wX cI cJ q  nc0 lc0 le0 ge0 wt0 kp0 fo0 po0 na0 ns0 ta0 ts0 mx_24 ch_25 mo_26 ms_27 fs0) := hD
            refine lv_iload hx hb dX3_resistance_58 (lv_at hl 4 rfl) ?_
            have hPc := hP.sub (ws' := (w0 cI cJ   )) [] rfl
            have hDc := hD.sub (ws' := (w0 cI cJ   )) [] (by decide) rfl
            refine fw_cl (wr := [((q 0), .inr (3, [.int nc0, .int lc0, .ref (q 1), .ref (q 2), .ref (q 3), .ref (q 4), .ref (q 5), .ref (q 6), .ref (q 8), .ref (q 10), .ref (q 12), .ref (q 16)])), ((q 1), .inl (cI, 12, .inl le0)), ((q 2), .inl (cI, 12, .inl ge0)), ((q 3), .inl (cI, 12, .inl wt0)), ((q 4), .inl (cI, 12, .inl kp0)), ((q 5), .inl (cI, 12, .inl fo0)), ((q 6), .inr (2, [.ref (q 7)])), ((q 7), .inl (cI, 7, .inl po0)), ((q 8), .inr (0, [.ref (q 9), .int ns0])), ((q 9), .inl (cI, 49, .inl na0)), ((q 10), .inr (0, [.ref (q 11), .int ts0])), ((q 11), .inl (cI, 49, .inl ta0)), ((q 12), .inr (1, [.ref (q 13), .ref (q 14), .ref (q 15), .int ms_27])), ((q 13), .inl (cJ, 49, .inr (.inl mx_24))), ((q 14), .inl (cI, 7, .inl ch_25)), ((q 15), .inl (cJ, 128, .inr (.inl mo_26))), ((q 16), .inl (cI, 10, .inl fs0))]) (w2 := fun u => (wX cI cJ q  nc0 lc0 le0 ge0 wt0 kp0 fo0 po0 na0 ns0 ta0 ts0 mx_24 ch_25 mo_26 ms_27 fs0)) [] [0, 1, 2, 3, 4, 5, 6, 7, 8, 9, 10, 11, 12, 13, 14, 15, 16] [0, 1, 2, 3, 4, 5, 6, 7, 8, 9, 10, 11, 12, 13, 14, 15, 16] (va_runS (As := [.long r_22, .long r_28, .int y4]) (rest := []) ⟨hx, hb, hml, hown, hts⟩ (kX3_inLowestTerms l dC dI cI cJ  H.size   r_22 r_28 y4 (fw_be hq)) (va_cwS 3 hts gX3_resistance_X3_inLowestTerms rfl rfl rfl (by decide +kernel) ⟨Nat.le_of_ble_eq_true rfl, Nat.le_of_ble_eq_true rfl⟩) ⟨fw_blind, fun U hU hW => fw_pre hPc hK hDc hN hU hW⟩ rfl rfl hl.1 rfl (lv_room (Nat.le_of_ble_eq_true rfl)) dX3_resistance_60 ⟨Nat.zero_le _, Nat.zero_le _⟩) hP hD hS hA rfl rfl (by decide) (by decide) (by decide) (fun _ => rfl) (fun r_30 u H locs hw hP hD hS => ?_)
            have hq := fw_bs hw hq
            try dsimp only at hq
            exact W.lret (v := r_30) hx hb hr (fun t ht hW => ⟨⟨r_30, (mx_24, ch_25, mo_26, ms_27), rfl, hz.trans hq.symm, by rw [ht]; exact hP, hD⟩, hS.F ht⟩) hS.2.2 dX3_resistance_63
          · have hq := fw_it c_17 hq
            refine lv_ldc2 hx hb hown (hts (.constantLong RX3 133 (-3)) (by decide +kernel)) dX3_resistance_42 ?_
            exact W.lret (v := (-3 : Int64)) hx hb hr (fun t ht hW => ⟨⟨(-3 : Int64), (mx0, ch0, mo0, ms0), rfl, hz.trans hq.symm, by rw [ht]; exact hP, hD⟩, hS.F ht⟩) hS.2.2 dX3_resistance_45
    · have hq := fw_it c_8 hq
      refine lv_ldc2 hx hb hown (hts (.constantLong RX3 139 (-2)) (by decide +kernel)) dX3_resistance_16 ?_
      exact W.lret (v := (-2 : Int64)) hx hb hr (fun t ht hW => ⟨⟨(-2 : Int64), (mx0, ch0, mo0, ms0), rfl, hz.trans hq.symm, by rw [ht]; exact hP, hD⟩, hS.F ht⟩) hS.2.2 dX3_resistance_19
set_option maxHeartbeats 4000000 in
set_option maxRecDepth 100000 in
theorem kX3_load (l : Launch) (dC : Nat → ClassId) (dI : Nat → Nat → Nat) (cI cJ : ClassId) (q : Nat → Nat) (sz : Nat)  (nc0 : Int32) (lc0 : Int32) (le0 : Nat → Int32) (ge0 : Nat → Int32) (wt0 : Nat → Int32) (kp0 : Nat → Int32) (fo0 : Nat → Int32) (po0 : Nat → Int32) (na0 : Nat → Int32) (ns0 : Int32) (ta0 : Nat → Int32) (ts0 : Int32) (mx0 : Nat → Int64) (ch0 : Nat → Int32) (mo0 : Nat → Int64) (ms0 : Int32) (fs0 : Nat → Int32) (y1 : Int32) (y2 : Int32) (hd : ∃ z, pX3_load nc0 lc0 le0 ge0 wt0 kp0 mx0 ch0 mo0 ms0 y1 y2 = some z) : Met l yX3_load wsX3_load ({ frames := 4, cells := 0, slots := 0, locals := 96 }) (fw_Pc (dC, dI) (fw_tys cI cJ) (wX cI cJ q  nc0 lc0 le0 ge0 wt0 kp0 fo0 po0 na0 ns0 ta0 ts0 mx0 ch0 mo0 ms0 fs0) ([.ref (q 0), .int y1, .int y2] : List Value) sz) (va_Ql (fun (r : Int64) (u : (Nat → Int64) × (Nat → Int32) × (Nat → Int64) × Int32) => pX3_load nc0 lc0 le0 ge0 wt0 kp0 mx0 ch0 mo0 ms0 y1 y2 = some (r, u)) (fun u t => fw_B (dC, dI) (va_A (wX cI cJ q  nc0 lc0 le0 ge0 wt0 kp0 fo0 po0 na0 ns0 ta0 ts0 mx0 ch0 mo0 ms0 fs0) sz) (wX cI cJ q  nc0 lc0 le0 ge0 wt0 kp0 fo0 po0 na0 ns0 ta0 ts0 u.1 u.2.1 u.2.2.1 u.2.2.2 fs0) t) (va_A (wX cI cJ q  nc0 lc0 le0 ge0 wt0 kp0 fo0 po0 na0 ns0 ta0 ts0 mx0 ch0 mo0 ms0 fs0) sz)) 0 0 (va_A (wX cI cJ q  nc0 lc0 le0 ge0 wt0 kp0 fo0 po0 na0 ns0 ta0 ts0 mx0 ch0 mo0 ms0 fs0) sz) := by
  obtain ⟨z, hz⟩ := hd
  refine Met.ofW (cc := cX3_load) (maxL := 5) (ret := (some .long)) (by decide) rfl ?_
  intro p e s m args below meth c s₁ B hml hv
  obtain ⟨rfl, hsz, hP, hK, hD0, hN⟩ := hv
  have hx := B.exec
  have hb := B.bytes
  have hr := B.returns
  have hts := atoms_spec (ws := wsX3_load) B.pre
  have hown : s.vm.findClass RX3 = some m.cls := findClass_of_methodNamed B.named
  have hlocks := B.notSynchronized
  subst hsz
  have hD := hD0.self (sz := s.heap.size)
  generalize hAe : va_A (wX cI cJ q  nc0 lc0 le0 ge0 wt0 kp0 fo0 po0 na0 ns0 ta0 ts0 mx0 ch0 mo0 ms0 fs0) s.heap.size = A at hD ⊢
  have hA : ∀ q : Nat, s.heap.size ≤ q → A q := fun q h => by rw [← hAe]; exact Or.inr h
  have hinX3 : ∀ w ∈ u_ws RX3 TX3 12, w ∈ wsX3_load := by decide +kernel
  have hf16 := hts (.fieldLink RX3 16 "FewLines" "lesserEnd" "[I") (by decide +kernel)
  have hf20 := hts (.fieldLink RX3 20 "FewLines" "greaterEnd" "[I") (by decide +kernel)
  have hf23 := hts (.fieldLink RX3 23 "FewLines" "weightOf" "[I") (by decide +kernel)
  have hq := hz
  dsimp only [pX3_load] at hq
  have hl := lv_entry (([.ref (q 0), .int y1, .int y2] : List Value)) (n := 5) (Nat.le_of_ble_eq_true rfl)
  rw [lg_entry_eq]
  generalize (lg_sl (([.ref (q 0), .int y1, .int y2] : List Value)) ++ List.replicate (5 - (lg_sl (([.ref (q 0), .int y1, .int y2] : List Value))).length) Slot.unset).toArray = ls at hl ⊢
  have hl : lv_has ls 5 [(0, .ref (q 0)), (1, .int y1), (2, .int y2)] := hl
  obtain ⟨H, hHe⟩ : ∃ H : Heap, H = s.heap := ⟨_, rfl⟩
  obtain ⟨locs, hLe⟩ : ∃ L : List Loc, L = [] := ⟨_, rfl⟩
  have hP : va_P (dC, dI) vwCl (wX cI cJ q  nc0 lc0 le0 ge0 wt0 kp0 fo0 po0 na0 ns0 ta0 ts0 mx0 ch0 mo0 ms0 fs0) H := by rw [hHe]; exact hP
  have hS : va_S A s.heap H locs := by rw [hHe, hLe]; exact va_S.rf
  show W p l e (headSpec wsX3_load ({ frames := 4, cells := 0, slots := 0, locals := 96 })).room s m ([.ref (q 0), .int y1, .int y2] : List Value).toArray below meth c s.heap [] 0 0 (MQ below (va_Ql (fun (r : Int64) (u : (Nat → Int64) × (Nat → Int32) × (Nat → Int64) × Int32) => pX3_load nc0 lc0 le0 ge0 wt0 kp0 mx0 ch0 mo0 ms0 y1 y2 = some (r, u)) (fun u t => fw_B (dC, dI) A (wX cI cJ q  nc0 lc0 le0 ge0 wt0 kp0 fo0 po0 na0 ns0 ta0 ts0 u.1 u.2.1 u.2.2.1 u.2.2.2 fs0) t) A) ([.ref (q 0), .int y1, .int y2] : List Value).toArray s 0 0 A) (F0 m 0 ls [])
  rw [← hHe, ← hLe]
  refine lv_aload_n hx hb dX3_load_0 rfl (lv_at hl 0 rfl) ?_
  refine lv_iload_n hx hb dX3_load_1 rfl (lv_at hl 1 rfl) ?_
  have hPc := hP.sub (ws' := (wX cI cJ q  nc0 lc0 le0 ge0 wt0 kp0 fo0 po0 na0 ns0 ta0 ts0 mx0 ch0 mo0 ms0 fs0)) [0, 1, 2, 3, 4, 5, 6, 7, 8, 9, 10, 11, 12, 13, 14, 15, 16] rfl
  have hDc := hD.sub (ws' := (wX cI cJ q  nc0 lc0 le0 ge0 wt0 kp0 fo0 po0 na0 ns0 ta0 ts0 mx0 ch0 mo0 ms0 fs0)) [0, 1, 2, 3, 4, 5, 6, 7, 8, 9, 10, 11, 12, 13, 14, 15, 16] (by decide) rfl
  refine fw_ci (wr := []) (w2 := fun u => (wX cI cJ q  nc0 lc0 le0 ge0 wt0 kp0 fo0 po0 na0 ns0 ta0 ts0 mx0 ch0 mo0 ms0 fs0)) [0, 1, 2, 3, 4, 5, 6, 7, 8, 9, 10, 11, 12, 13, 14, 15, 16] [] [0, 1, 2, 3, 4, 5, 6, 7, 8, 9, 10, 11, 12, 13, 14, 15, 16] (va_runV (b := (q 0)) (As := [.int y1]) (rest := []) ⟨hx, hb, hml, hown, hts⟩ (kX3_isLine l dC dI cI cJ q H.size  nc0 lc0 le0 ge0 wt0 kp0 fo0 po0 na0 ns0 ta0 ts0 mx0 ch0 mo0 ms0 fs0 y1 (fw_be hq)) (cwV 1 hts gX3_load_X3_isLine rfl rfl rfl (by decide +kernel) ⟨Nat.le_of_ble_eq_true rfl, Nat.le_of_ble_eq_true rfl⟩) ⟨fw_blind, va_recv hK hPc (ci := 3) (q0 := 0) rfl rfl, fun U hU hW => fw_pre hPc hK hDc hN hU hW⟩ rfl rfl hl.1 rfl (lv_room (Nat.le_of_ble_eq_true rfl)) dX3_load_2 ⟨Nat.zero_le _, Nat.zero_le _⟩) hP hD hS hA rfl rfl (by decide) (by decide) (by decide) (fun _ => rfl) (fun r_1 u H locs hw hP hD hS => ?_)
  obtain ⟨hw, n_3⟩ := hw
  have hq := fw_bs hw hq
  try dsimp only at hq
  refine lv_if_ne (tgt := 12) hx hb dX3_load_5 (by decide) (fun c_4 => ?_) (fun c_4 => ?_)
  · have hq := fw_if c_4 hq
    refine lv_iload_n hx hb dX3_load_12 rfl (lv_at hl 2 rfl) ?_
    refine lv_iconst (v := (0 : Int32)) hx hb dX3_load_13 (by decide) ?_
    refine lv_iconst (v := (1 : Int32)) hx hb dX3_load_14 (by decide) ?_
    have hPc := hP.sub (ws' := (w0 cI cJ   )) [] rfl
    have hDc := hD.sub (ws' := (w0 cI cJ   )) [] (by decide) rfl
    refine fw_ci (wr := [((q 0), .inr (3, [.int nc0, .int lc0, .ref (q 1), .ref (q 2), .ref (q 3), .ref (q 4), .ref (q 5), .ref (q 6), .ref (q 8), .ref (q 10), .ref (q 12), .ref (q 16)])), ((q 1), .inl (cI, 12, .inl le0)), ((q 2), .inl (cI, 12, .inl ge0)), ((q 3), .inl (cI, 12, .inl wt0)), ((q 4), .inl (cI, 12, .inl kp0)), ((q 5), .inl (cI, 12, .inl fo0)), ((q 6), .inr (2, [.ref (q 7)])), ((q 7), .inl (cI, 7, .inl po0)), ((q 8), .inr (0, [.ref (q 9), .int ns0])), ((q 9), .inl (cI, 49, .inl na0)), ((q 10), .inr (0, [.ref (q 11), .int ts0])), ((q 11), .inl (cI, 49, .inl ta0)), ((q 12), .inr (1, [.ref (q 13), .ref (q 14), .ref (q 15), .int ms0])), ((q 13), .inl (cJ, 49, .inr (.inl mx0))), ((q 14), .inl (cI, 7, .inl ch0)), ((q 15), .inl (cJ, 128, .inr (.inl mo0))), ((q 16), .inl (cI, 10, .inl fs0))]) (w2 := fun u => (wX cI cJ q  nc0 lc0 le0 ge0 wt0 kp0 fo0 po0 na0 ns0 ta0 ts0 mx0 ch0 mo0 ms0 fs0)) [] [0, 1, 2, 3, 4, 5, 6, 7, 8, 9, 10, 11, 12, 13, 14, 15, 16] [0, 1, 2, 3, 4, 5, 6, 7, 8, 9, 10, 11, 12, 13, 14, 15, 16] (va_runS (As := [.int y2, .int (0 : Int32), .int (1 : Int32)]) (rest := []) ⟨hx, hb, hml, hown, hts⟩ (kX3_isWithin l dC dI cI cJ  H.size   y2 (0 : Int32) (1 : Int32) (fw_be hq)) (va_cwS 3 hts gX3_load_X3_isWithin rfl rfl rfl (by decide +kernel) ⟨Nat.le_of_ble_eq_true rfl, Nat.le_of_ble_eq_true rfl⟩) ⟨fw_blind, fun U hU hW => fw_pre hPc hK hDc hN hU hW⟩ rfl rfl hl.1 rfl (lv_room (Nat.le_of_ble_eq_true rfl)) dX3_load_15 ⟨Nat.zero_le _, Nat.zero_le _⟩) hP hD hS hA rfl rfl (by decide) (by decide) (by decide) (fun _ => rfl) (fun r_5 u H locs hw hP hD hS => ?_)
    obtain ⟨hw, n_7⟩ := hw
    have hq := fw_bs hw hq
    try dsimp only at hq
    refine lv_if_ne (tgt := 25) hx hb dX3_load_18 (by decide) (fun c_8 => ?_) (fun c_8 => ?_)
    · have hq := fw_if c_8 hq
      refine lv_aload_n hx hb dX3_load_25 rfl (lv_at hl 0 rfl) ?_
      refine lv_aload_n hx hb dX3_load_26 rfl (lv_at hl 0 rfl) ?_
      refine va_get (D := (dC, dI)) (ci := 3) (v := .ref (q 1)) (C := RX3) (T := TX3) (N := 12) hx hb hts hinX3 hown hK hP 0 rfl rfl 2 (by decide) hf16 (fun _ h9 => h9) rfl dX3_load_27 ?_
      refine lv_iload_n hx hb dX3_load_30 rfl (lv_at hl 1 rfl) ?_
      obtain ⟨h_9, hq⟩ := fw_ck_s hq
      refine va_iald hx hb hK hP 1 0 rfl rfl h_9 dX3_load_31 ?_
      refine lv_aload_n hx hb dX3_load_32 rfl (lv_at hl 0 rfl) ?_
      refine va_get (D := (dC, dI)) (ci := 3) (v := .ref (q 2)) (C := RX3) (T := TX3) (N := 12) hx hb hts hinX3 hown hK hP 0 rfl rfl 3 (by decide) hf20 (fun _ h9 => h9) rfl dX3_load_33 ?_
      refine lv_iload_n hx hb dX3_load_36 rfl (lv_at hl 1 rfl) ?_
      obtain ⟨h_10, hq⟩ := fw_ck_s hq
      refine va_iald hx hb hK hP 2 0 rfl rfl h_10 dX3_load_37 ?_
      refine lv_iconst (v := (0 : Int32)) hx hb dX3_load_38 (by decide) ?_
      have hPc := hP.sub (ws' := (wX cI cJ q  nc0 lc0 le0 ge0 wt0 kp0 fo0 po0 na0 ns0 ta0 ts0 mx0 ch0 mo0 ms0 fs0)) [0, 1, 2, 3, 4, 5, 6, 7, 8, 9, 10, 11, 12, 13, 14, 15, 16] rfl
      have hDc := hD.sub (ws' := (wX cI cJ q  nc0 lc0 le0 ge0 wt0 kp0 fo0 po0 na0 ns0 ta0 ts0 mx0 ch0 mo0 ms0 fs0)) [0, 1, 2, 3, 4, 5, 6, 7, 8, 9, 10, 11, 12, 13, 14, 15, 16] (by decide) rfl
      refine fw_cl (wr := []) (w2 := fun u => (wX cI cJ q  nc0 lc0 le0 ge0 wt0 kp0 fo0 po0 na0 ns0 ta0 ts0 u.1 u.2.1 u.2.2.1 u.2.2.2 fs0)) [0, 1, 2, 3, 4, 5, 6, 7, 8, 9, 10, 11, 12, 13, 14, 15, 16] [] [0, 1, 2, 3, 4, 5, 6, 7, 8, 9, 10, 11, 12, 13, 14, 15, 16] (va_runV (b := (q 0)) (As := [.int (le0 (y1).toNatClampNeg), .int (ge0 (y1).toNatClampNeg), .int (0 : Int32)]) (rest := []) ⟨hx, hb, hml, hown, hts⟩ (kX3_partingProducts l dC dI cI cJ q H.size  nc0 lc0 le0 ge0 wt0 kp0 fo0 po0 na0 ns0 ta0 ts0 mx0 ch0 mo0 ms0 fs0 (le0 (y1).toNatClampNeg) (ge0 (y1).toNatClampNeg) (0 : Int32) (fw_be hq)) (cwV 3 hts gX3_load_X3_partingProducts rfl rfl rfl (by decide +kernel) ⟨Nat.le_of_ble_eq_true rfl, Nat.le_of_ble_eq_true rfl⟩) ⟨fw_blind, va_recv hK hPc (ci := 3) (q0 := 0) rfl rfl, fun U hU hW => fw_pre hPc hK hDc hN hU hW⟩ rfl rfl hl.1 rfl (lv_room (Nat.le_of_ble_eq_true rfl)) dX3_load_39 ⟨Nat.zero_le _, Nat.zero_le _⟩) hP hD hS hA rfl rfl (by decide) (by decide) (by decide) (fun _ => rfl) (fun r_15 u H locs hw hP hD hS => ?_)
      obtain ⟨mx_11, ch_12, mo_13, ms_14⟩ := u
      have hq := fw_bs hw hq
      try dsimp only at hq
      have hP : va_P (dC, dI) vwCl (wX cI cJ q  nc0 lc0 le0 ge0 wt0 kp0 fo0 po0 na0 ns0 ta0 ts0 mx_11 ch_12 mo_13 ms_14 fs0) H := hP
      have hD : va_D A (wX cI cJ q  nc0 lc0 le0 ge0 wt0 kp0 fo0 po0 na0 ns0 ta0 ts0 mx_11 ch_12 mo_13 ms_14 fs0) := hD
      refine lv_lstore_n (lv' := [(3, .long r_15), (0, .ref (q 0)), (1, .int y1), (2, .int y2)]) hx hb dX3_load_42 rfl hl (by decide) rfl (fun ls hl => ?_)
      refine lv_aload_n hx hb dX3_load_43 rfl (lv_at hl 1 rfl) ?_
      refine va_get (D := (dC, dI)) (ci := 3) (v := .ref (q 3)) (C := RX3) (T := TX3) (N := 12) hx hb hts hinX3 hown hK hP 0 rfl rfl 4 (by decide) hf23 (fun _ h9 => h9) rfl dX3_load_44 ?_
      refine lv_iload_n hx hb dX3_load_47 rfl (lv_at hl 2 rfl) ?_
      obtain ⟨h_17, hq⟩ := fw_ck_s hq
      refine va_iald hx hb hK hP 3 0 rfl rfl h_17 dX3_load_48 ?_
      refine lv_i2l (v := ((wt0 (y1).toNatClampNeg)).toInt64) hx hb dX3_load_49 rfl ?_
      refine lv_lload_n hx hb dX3_load_50 rfl (lv_at hl 0 rfl) ?_
      refine lv_lmul hx hb dX3_load_51 ?_
      refine lv_aload_n hx hb dX3_load_52 rfl (lv_at hl 1 rfl) ?_
      refine lv_iconst (v := (0 : Int32)) hx hb dX3_load_53 (by decide) ?_
      have hPc := hP.sub (ws' := (wX cI cJ q  nc0 lc0 le0 ge0 wt0 kp0 fo0 po0 na0 ns0 ta0 ts0 mx_11 ch_12 mo_13 ms_14 fs0)) [0, 1, 2, 3, 4, 5, 6, 7, 8, 9, 10, 11, 12, 13, 14, 15, 16] rfl
      have hDc := hD.sub (ws' := (wX cI cJ q  nc0 lc0 le0 ge0 wt0 kp0 fo0 po0 na0 ns0 ta0 ts0 mx_11 ch_12 mo_13 ms_14 fs0)) [0, 1, 2, 3, 4, 5, 6, 7, 8, 9, 10, 11, 12, 13, 14, 15, 16] (by decide) rfl
      refine fw_cl (wr := []) (w2 := fun u => (wX cI cJ q  nc0 lc0 le0 ge0 wt0 kp0 fo0 po0 na0 ns0 ta0 ts0 u.1 u.2.1 u.2.2.1 u.2.2.2 fs0)) [0, 1, 2, 3, 4, 5, 6, 7, 8, 9, 10, 11, 12, 13, 14, 15, 16] [] [0, 1, 2, 3, 4, 5, 6, 7, 8, 9, 10, 11, 12, 13, 14, 15, 16] (va_runV (b := (q 0)) (As := [.int (0 : Int32)]) (rest := [.long (((wt0 (y1).toNatClampNeg)).toInt64 * r_15)]) ⟨hx, hb, hml, hown, hts⟩ (kX3_treeProducts l dC dI cI cJ q H.size  nc0 lc0 le0 ge0 wt0 kp0 fo0 po0 na0 ns0 ta0 ts0 mx_11 ch_12 mo_13 ms_14 fs0 (0 : Int32) (fw_be hq)) (cwV 1 hts gX3_load_X3_treeProducts rfl rfl rfl (by decide +kernel) ⟨Nat.le_of_ble_eq_true rfl, Nat.le_of_ble_eq_true rfl⟩) ⟨fw_blind, va_recv hK hPc (ci := 3) (q0 := 0) rfl rfl, fun U hU hW => fw_pre hPc hK hDc hN hU hW⟩ rfl rfl hl.1 rfl (lv_room (Nat.le_of_ble_eq_true rfl)) dX3_load_54 ⟨Nat.zero_le _, Nat.zero_le _⟩) hP hD hS hA rfl rfl (by decide) (by decide) (by decide) (fun _ => rfl) (fun r_22 u H locs hw hP hD hS => ?_)
      obtain ⟨mx_18, ch_19, mo_20, ms_21⟩ := u
      have hq := fw_bs hw hq
      try dsimp only at hq
      have hP : va_P (dC, dI) vwCl (wX cI cJ q  nc0 lc0 le0 ge0 wt0 kp0 fo0 po0 na0 ns0 ta0 ts0 mx_18 ch_19 mo_20 ms_21 fs0) H := hP
      have hD : va_D A (wX cI cJ q  nc0 lc0 le0 ge0 wt0 kp0 fo0 po0 na0 ns0 ta0 ts0 mx_18 ch_19 mo_20 ms_21 fs0) := hD
      refine lv_iload_n hx hb dX3_load_57 rfl (lv_at hl 3 rfl) ?_
      have hPc := hP.sub (ws' := (w0 cI cJ   )) [] rfl
      have hDc := hD.sub (ws' := (w0 cI cJ   )) [] (by decide) rfl
      refine fw_cl (wr := [((q 0), .inr (3, [.int nc0, .int lc0, .ref (q 1), .ref (q 2), .ref (q 3), .ref (q 4), .ref (q 5), .ref (q 6), .ref (q 8), .ref (q 10), .ref (q 12), .ref (q 16)])), ((q 1), .inl (cI, 12, .inl le0)), ((q 2), .inl (cI, 12, .inl ge0)), ((q 3), .inl (cI, 12, .inl wt0)), ((q 4), .inl (cI, 12, .inl kp0)), ((q 5), .inl (cI, 12, .inl fo0)), ((q 6), .inr (2, [.ref (q 7)])), ((q 7), .inl (cI, 7, .inl po0)), ((q 8), .inr (0, [.ref (q 9), .int ns0])), ((q 9), .inl (cI, 49, .inl na0)), ((q 10), .inr (0, [.ref (q 11), .int ts0])), ((q 11), .inl (cI, 49, .inl ta0)), ((q 12), .inr (1, [.ref (q 13), .ref (q 14), .ref (q 15), .int ms_21])), ((q 13), .inl (cJ, 49, .inr (.inl mx_18))), ((q 14), .inl (cI, 7, .inl ch_19)), ((q 15), .inl (cJ, 128, .inr (.inl mo_20))), ((q 16), .inl (cI, 10, .inl fs0))]) (w2 := fun u => (wX cI cJ q  nc0 lc0 le0 ge0 wt0 kp0 fo0 po0 na0 ns0 ta0 ts0 mx_18 ch_19 mo_20 ms_21 fs0)) [] [0, 1, 2, 3, 4, 5, 6, 7, 8, 9, 10, 11, 12, 13, 14, 15, 16] [0, 1, 2, 3, 4, 5, 6, 7, 8, 9, 10, 11, 12, 13, 14, 15, 16] (va_runS (As := [.long (((wt0 (y1).toNatClampNeg)).toInt64 * r_15), .long r_22, .int y2]) (rest := []) ⟨hx, hb, hml, hown, hts⟩ (kX3_inLowestTerms l dC dI cI cJ  H.size   (((wt0 (y1).toNatClampNeg)).toInt64 * r_15) r_22 y2 (fw_be hq)) (va_cwS 3 hts gX3_load_X3_inLowestTerms rfl rfl rfl (by decide +kernel) ⟨Nat.le_of_ble_eq_true rfl, Nat.le_of_ble_eq_true rfl⟩) ⟨fw_blind, fun U hU hW => fw_pre hPc hK hDc hN hU hW⟩ rfl rfl hl.1 rfl (lv_room (Nat.le_of_ble_eq_true rfl)) dX3_load_58 ⟨Nat.zero_le _, Nat.zero_le _⟩) hP hD hS hA rfl rfl (by decide) (by decide) (by decide) (fun _ => rfl) (fun r_24 u H locs hw hP hD hS => ?_)
      have hq := fw_bs hw hq
      try dsimp only at hq
      exact W.lret (v := r_24) hx hb hr (fun t ht hW => ⟨⟨r_24, (mx_18, ch_19, mo_20, ms_21), rfl, hz.trans hq.symm, by rw [ht]; exact hP, hD⟩, hS.F ht⟩) hS.2.2 dX3_load_61
    · have hq := fw_it c_8 hq
      refine lv_ldc2 hx hb hown (hts (.constantLong RX3 133 (-3)) (by decide +kernel)) dX3_load_21 ?_
      exact W.lret (v := (-3 : Int64)) hx hb hr (fun t ht hW => ⟨⟨(-3 : Int64), (mx0, ch0, mo0, ms0), rfl, hz.trans hq.symm, by rw [ht]; exact hP, hD⟩, hS.F ht⟩) hS.2.2 dX3_load_24
  · have hq := fw_it c_4 hq
    refine lv_ldc2 hx hb hown (hts (.constantLong RX3 139 (-2)) (by decide +kernel)) dX3_load_8 ?_
    exact W.lret (v := (-2 : Int64)) hx hb hr (fun t ht hW => ⟨⟨(-2 : Int64), (mx0, ch0, mo0, ms0), rfl, hz.trans hq.symm, by rw [ht]; exact hP, hD⟩, hS.F ht⟩) hS.2.2 dX3_load_11
set_option maxHeartbeats 4000000 in
set_option maxRecDepth 100000 in
theorem kX3_count (l : Launch) (dC : Nat → ClassId) (dI : Nat → Nat → Nat) (cI cJ : ClassId) (q : Nat → Nat) (sz : Nat)  (nc0 : Int32) (lc0 : Int32) (le0 : Nat → Int32) (ge0 : Nat → Int32) (wt0 : Nat → Int32) (kp0 : Nat → Int32) (fo0 : Nat → Int32) (po0 : Nat → Int32) (na0 : Nat → Int32) (ns0 : Int32) (ta0 : Nat → Int32) (ts0 : Int32) (mx0 : Nat → Int64) (ch0 : Nat → Int32) (mo0 : Nat → Int64) (ms0 : Int32) (fs0 : Nat → Int32) (y1 : Int32) (hd : ∃ z, pX3_count nc0 lc0 wt0 kp0 y1 = some z) : Met l yX3_count wsX3_count ({ frames := 2, cells := 0, slots := 0, locals := 45 }) (fw_Pc (dC, dI) (fw_tys cI cJ) (wX cI cJ q  nc0 lc0 le0 ge0 wt0 kp0 fo0 po0 na0 ns0 ta0 ts0 mx0 ch0 mo0 ms0 fs0) ([.ref (q 0), .int y1] : List Value) sz) (va_Qi (fun (r : Int32) (u : Unit) => pX3_count nc0 lc0 wt0 kp0 y1 = some r) (fun u t => fw_B (dC, dI) (va_A (wX cI cJ q  nc0 lc0 le0 ge0 wt0 kp0 fo0 po0 na0 ns0 ta0 ts0 mx0 ch0 mo0 ms0 fs0) sz) (wX cI cJ q  nc0 lc0 le0 ge0 wt0 kp0 fo0 po0 na0 ns0 ta0 ts0 mx0 ch0 mo0 ms0 fs0) t) (va_A (wX cI cJ q  nc0 lc0 le0 ge0 wt0 kp0 fo0 po0 na0 ns0 ta0 ts0 mx0 ch0 mo0 ms0 fs0) sz)) 0 0 (va_A (wX cI cJ q  nc0 lc0 le0 ge0 wt0 kp0 fo0 po0 na0 ns0 ta0 ts0 mx0 ch0 mo0 ms0 fs0) sz) := by
  obtain ⟨z, hz⟩ := hd
  refine Met.ofW (cc := cX3_count) (maxL := 2) (ret := (some .int)) (by decide) rfl ?_
  intro p e s m args below meth c s₁ B hml hv
  obtain ⟨rfl, hsz, hP, hK, hD0, hN⟩ := hv
  have hx := B.exec
  have hb := B.bytes
  have hr := B.returns
  have hts := atoms_spec (ws := wsX3_count) B.pre
  have hown : s.vm.findClass RX3 = some m.cls := findClass_of_methodNamed B.named
  have hlocks := B.notSynchronized
  subst hsz
  have hD := hD0.self (sz := s.heap.size)
  generalize hAe : va_A (wX cI cJ q  nc0 lc0 le0 ge0 wt0 kp0 fo0 po0 na0 ns0 ta0 ts0 mx0 ch0 mo0 ms0 fs0) s.heap.size = A at hD ⊢
  have hA : ∀ q : Nat, s.heap.size ≤ q → A q := fun q h => by rw [← hAe]; exact Or.inr h
  have hinX3 : ∀ w ∈ u_ws RX3 TX3 12, w ∈ wsX3_count := by decide +kernel
  have hf9 := hts (.fieldLink RX3 9 "FewLines" "nodeCount" "I") (by decide +kernel)
  have hf13 := hts (.fieldLink RX3 13 "FewLines" "lineCount" "I") (by decide +kernel)
  have hq := hz
  dsimp only [pX3_count] at hq
  have hl := lv_entry (([.ref (q 0), .int y1] : List Value)) (n := 2) (Nat.le_of_ble_eq_true rfl)
  rw [lg_entry_eq]
  generalize (lg_sl (([.ref (q 0), .int y1] : List Value)) ++ List.replicate (2 - (lg_sl (([.ref (q 0), .int y1] : List Value))).length) Slot.unset).toArray = ls at hl ⊢
  have hl : lv_has ls 2 [(0, .ref (q 0)), (1, .int y1)] := hl
  obtain ⟨H, hHe⟩ : ∃ H : Heap, H = s.heap := ⟨_, rfl⟩
  obtain ⟨locs, hLe⟩ : ∃ L : List Loc, L = [] := ⟨_, rfl⟩
  have hP : va_P (dC, dI) vwCl (wX cI cJ q  nc0 lc0 le0 ge0 wt0 kp0 fo0 po0 na0 ns0 ta0 ts0 mx0 ch0 mo0 ms0 fs0) H := by rw [hHe]; exact hP
  have hS : va_S A s.heap H locs := by rw [hHe, hLe]; exact va_S.rf
  show W p l e (headSpec wsX3_count ({ frames := 2, cells := 0, slots := 0, locals := 45 })).room s m ([.ref (q 0), .int y1] : List Value).toArray below meth c s.heap [] 0 0 (MQ below (va_Qi (fun (r : Int32) (u : Unit) => pX3_count nc0 lc0 wt0 kp0 y1 = some r) (fun u t => fw_B (dC, dI) A (wX cI cJ q  nc0 lc0 le0 ge0 wt0 kp0 fo0 po0 na0 ns0 ta0 ts0 mx0 ch0 mo0 ms0 fs0) t) A) ([.ref (q 0), .int y1] : List Value).toArray s 0 0 A) (F0 m 0 ls [])
  rw [← hHe, ← hLe]
  refine lv_iload_n hx hb dX3_count_0 rfl (lv_at hl 1 rfl) ?_
  by_cases c_1 : y1 = (0 : Int32)
  · have hq := fw_it c_1 hq
    refine lv_tableIn (tgt := 36) (off := 35) hx hb dX3_count_1 (by rw [c_1]; decide) (by rw [c_1]; decide) (by rw [c_1]; rfl) (by decide) ?_
    refine lv_aload_n hx hb dX3_count_36 rfl (lv_at hl 0 rfl) ?_
    refine va_get (D := (dC, dI)) (ci := 3) (v := .int nc0) (C := RX3) (T := TX3) (N := 12) hx hb hts hinX3 hown hK hP 0 rfl rfl 0 (by decide) hf9 (fun _ h9 => h9) rfl dX3_count_37 ?_
    exact W.iret (v := nc0) hx hb hr (fun t ht hW => ⟨⟨nc0, (), rfl, hz.trans hq.symm, by rw [ht]; exact hP, hD⟩, hS.F ht⟩) hS.2.2 dX3_count_40
  · have hq := fw_if c_1 hq
    by_cases c_2 : y1 = (1 : Int32)
    · have hq := fw_it c_2 hq
      refine lv_tableIn (tgt := 41) (off := 40) hx hb dX3_count_1 (by rw [c_2]; decide) (by rw [c_2]; decide) (by rw [c_2]; rfl) (by decide) ?_
      refine lv_aload_n hx hb dX3_count_41 rfl (lv_at hl 0 rfl) ?_
      refine va_get (D := (dC, dI)) (ci := 3) (v := .int lc0) (C := RX3) (T := TX3) (N := 12) hx hb hts hinX3 hown hK hP 0 rfl rfl 1 (by decide) hf13 (fun _ h9 => h9) rfl dX3_count_42 ?_
      exact W.iret (v := lc0) hx hb hr (fun t ht hW => ⟨⟨lc0, (), rfl, hz.trans hq.symm, by rw [ht]; exact hP, hD⟩, hS.F ht⟩) hS.2.2 dX3_count_45
    · have hq := fw_if c_2 hq
      by_cases c_3 : y1 = (2 : Int32)
      · have hq := fw_it c_3 hq
        refine lv_tableIn (tgt := 46) (off := 45) hx hb dX3_count_1 (by rw [c_3]; decide) (by rw [c_3]; decide) (by rw [c_3]; rfl) (by decide) ?_
        refine lv_aload_n hx hb dX3_count_46 rfl (lv_at hl 0 rfl) ?_
        refine lv_iconst (v := (1 : Int32)) hx hb dX3_count_47 (by decide) ?_
        have hPc := hP.sub (ws' := (wX cI cJ q  nc0 lc0 le0 ge0 wt0 kp0 fo0 po0 na0 ns0 ta0 ts0 mx0 ch0 mo0 ms0 fs0)) [0, 1, 2, 3, 4, 5, 6, 7, 8, 9, 10, 11, 12, 13, 14, 15, 16] rfl
        have hDc := hD.sub (ws' := (wX cI cJ q  nc0 lc0 le0 ge0 wt0 kp0 fo0 po0 na0 ns0 ta0 ts0 mx0 ch0 mo0 ms0 fs0)) [0, 1, 2, 3, 4, 5, 6, 7, 8, 9, 10, 11, 12, 13, 14, 15, 16] (by decide) rfl
        refine fw_ci (wr := []) (w2 := fun u => (wX cI cJ q  nc0 lc0 le0 ge0 wt0 kp0 fo0 po0 na0 ns0 ta0 ts0 mx0 ch0 mo0 ms0 fs0)) [0, 1, 2, 3, 4, 5, 6, 7, 8, 9, 10, 11, 12, 13, 14, 15, 16] [] [0, 1, 2, 3, 4, 5, 6, 7, 8, 9, 10, 11, 12, 13, 14, 15, 16] (va_runV (b := (q 0)) (As := [.int (1 : Int32)]) (rest := []) ⟨hx, hb, hml, hown, hts⟩ (kX3_linesOf l dC dI cI cJ q H.size  nc0 lc0 le0 ge0 wt0 kp0 fo0 po0 na0 ns0 ta0 ts0 mx0 ch0 mo0 ms0 fs0 (1 : Int32) (fw_be hq)) (cwV 1 hts gX3_count_X3_linesOf rfl rfl rfl (by decide +kernel) ⟨Nat.le_of_ble_eq_true rfl, Nat.le_of_ble_eq_true rfl⟩) ⟨fw_blind, va_recv hK hPc (ci := 3) (q0 := 0) rfl rfl, fun U hU hW => fw_pre hPc hK hDc hN hU hW⟩ rfl rfl hl.1 rfl (lv_room (Nat.le_of_ble_eq_true rfl)) dX3_count_48 ⟨Nat.zero_le _, Nat.zero_le _⟩) hP hD hS hA rfl rfl (by decide) (by decide) (by decide) (fun _ => rfl) (fun r_6 u H locs hw hP hD hS => ?_)
        have hq := fw_bs hw hq
        try dsimp only at hq
        have hPc := hP.sub (ws' := (w0 cI cJ   )) [] rfl
        have hDc := hD.sub (ws' := (w0 cI cJ   )) [] (by decide) rfl
        refine fw_ci (wr := [((q 0), .inr (3, [.int nc0, .int lc0, .ref (q 1), .ref (q 2), .ref (q 3), .ref (q 4), .ref (q 5), .ref (q 6), .ref (q 8), .ref (q 10), .ref (q 12), .ref (q 16)])), ((q 1), .inl (cI, 12, .inl le0)), ((q 2), .inl (cI, 12, .inl ge0)), ((q 3), .inl (cI, 12, .inl wt0)), ((q 4), .inl (cI, 12, .inl kp0)), ((q 5), .inl (cI, 12, .inl fo0)), ((q 6), .inr (2, [.ref (q 7)])), ((q 7), .inl (cI, 7, .inl po0)), ((q 8), .inr (0, [.ref (q 9), .int ns0])), ((q 9), .inl (cI, 49, .inl na0)), ((q 10), .inr (0, [.ref (q 11), .int ts0])), ((q 11), .inl (cI, 49, .inl ta0)), ((q 12), .inr (1, [.ref (q 13), .ref (q 14), .ref (q 15), .int ms0])), ((q 13), .inl (cJ, 49, .inr (.inl mx0))), ((q 14), .inl (cI, 7, .inl ch0)), ((q 15), .inl (cJ, 128, .inr (.inl mo0))), ((q 16), .inl (cI, 10, .inl fs0))]) (w2 := fun u => (wX cI cJ q  nc0 lc0 le0 ge0 wt0 kp0 fo0 po0 na0 ns0 ta0 ts0 mx0 ch0 mo0 ms0 fs0)) [] [0, 1, 2, 3, 4, 5, 6, 7, 8, 9, 10, 11, 12, 13, 14, 15, 16] [0, 1, 2, 3, 4, 5, 6, 7, 8, 9, 10, 11, 12, 13, 14, 15, 16] (va_runS (As := [.int r_6]) (rest := []) ⟨hx, hb, hml, hown, hts⟩ (kJ6_bitCount_0f7a4 l dC dI cI cJ  H.size   r_6 (fw_be hq)) (va_cwS 1 hts gX3_count_J6_bitCount_0f7a4 rfl rfl rfl (by decide +kernel) ⟨Nat.le_of_ble_eq_true rfl, Nat.le_of_ble_eq_true rfl⟩) ⟨fw_blind, fun U hU hW => fw_pre hPc hK hDc hN hU hW⟩ rfl rfl hl.1 rfl (lv_room (Nat.le_of_ble_eq_true rfl)) dX3_count_51 ⟨Nat.zero_le _, Nat.zero_le _⟩) hP hD hS hA rfl rfl (by decide) (by decide) (by decide) (fun _ => rfl) (fun r_8 u H locs hw hP hD hS => ?_)
        have hq := fw_bs hw hq
        try dsimp only at hq
        exact W.iret (v := r_8) hx hb hr (fun t ht hW => ⟨⟨r_8, (), rfl, hz.trans hq.symm, by rw [ht]; exact hP, hD⟩, hS.F ht⟩) hS.2.2 dX3_count_54
      · have hq := fw_if c_3 hq
        by_cases c_4 : y1 = (3 : Int32)
        · have hq := fw_it c_4 hq
          refine lv_tableIn (tgt := 55) (off := 54) hx hb dX3_count_1 (by rw [c_4]; decide) (by rw [c_4]; decide) (by rw [c_4]; rfl) (by decide) ?_
          refine lv_aload_n hx hb dX3_count_55 rfl (lv_at hl 0 rfl) ?_
          refine lv_iconst (v := (0 : Int32)) hx hb dX3_count_56 (by decide) ?_
          have hPc := hP.sub (ws' := (wX cI cJ q  nc0 lc0 le0 ge0 wt0 kp0 fo0 po0 na0 ns0 ta0 ts0 mx0 ch0 mo0 ms0 fs0)) [0, 1, 2, 3, 4, 5, 6, 7, 8, 9, 10, 11, 12, 13, 14, 15, 16] rfl
          have hDc := hD.sub (ws' := (wX cI cJ q  nc0 lc0 le0 ge0 wt0 kp0 fo0 po0 na0 ns0 ta0 ts0 mx0 ch0 mo0 ms0 fs0)) [0, 1, 2, 3, 4, 5, 6, 7, 8, 9, 10, 11, 12, 13, 14, 15, 16] (by decide) rfl
          refine fw_ci (wr := []) (w2 := fun u => (wX cI cJ q  nc0 lc0 le0 ge0 wt0 kp0 fo0 po0 na0 ns0 ta0 ts0 mx0 ch0 mo0 ms0 fs0)) [0, 1, 2, 3, 4, 5, 6, 7, 8, 9, 10, 11, 12, 13, 14, 15, 16] [] [0, 1, 2, 3, 4, 5, 6, 7, 8, 9, 10, 11, 12, 13, 14, 15, 16] (va_runV (b := (q 0)) (As := [.int (0 : Int32)]) (rest := []) ⟨hx, hb, hml, hown, hts⟩ (kX3_weightTogether l dC dI cI cJ q H.size  nc0 lc0 le0 ge0 wt0 kp0 fo0 po0 na0 ns0 ta0 ts0 mx0 ch0 mo0 ms0 fs0 (0 : Int32) (fw_be hq)) (cwV 1 hts gX3_count_X3_weightTogether rfl rfl rfl (by decide +kernel) ⟨Nat.le_of_ble_eq_true rfl, Nat.le_of_ble_eq_true rfl⟩) ⟨fw_blind, va_recv hK hPc (ci := 3) (q0 := 0) rfl rfl, fun U hU hW => fw_pre hPc hK hDc hN hU hW⟩ rfl rfl hl.1 rfl (lv_room (Nat.le_of_ble_eq_true rfl)) dX3_count_57 ⟨Nat.zero_le _, Nat.zero_le _⟩) hP hD hS hA rfl rfl (by decide) (by decide) (by decide) (fun _ => rfl) (fun r_10 u H locs hw hP hD hS => ?_)
          have hq := fw_bs hw hq
          try dsimp only at hq
          exact W.iret (v := r_10) hx hb hr (fun t ht hW => ⟨⟨r_10, (), rfl, hz.trans hq.symm, by rw [ht]; exact hP, hD⟩, hS.F ht⟩) hS.2.2 dX3_count_60
        · have hq := fw_if c_4 hq
          by_cases c_5 : y1 = (4 : Int32)
          · have hq := fw_it c_5 hq
            refine lv_tableIn (tgt := 61) (off := 60) hx hb dX3_count_1 (by rw [c_5]; decide) (by rw [c_5]; decide) (by rw [c_5]; rfl) (by decide) ?_
            refine lv_aload_n hx hb dX3_count_61 rfl (lv_at hl 0 rfl) ?_
            refine lv_iconst (v := (1 : Int32)) hx hb dX3_count_62 (by decide) ?_
            have hPc := hP.sub (ws' := (wX cI cJ q  nc0 lc0 le0 ge0 wt0 kp0 fo0 po0 na0 ns0 ta0 ts0 mx0 ch0 mo0 ms0 fs0)) [0, 1, 2, 3, 4, 5, 6, 7, 8, 9, 10, 11, 12, 13, 14, 15, 16] rfl
            have hDc := hD.sub (ws' := (wX cI cJ q  nc0 lc0 le0 ge0 wt0 kp0 fo0 po0 na0 ns0 ta0 ts0 mx0 ch0 mo0 ms0 fs0)) [0, 1, 2, 3, 4, 5, 6, 7, 8, 9, 10, 11, 12, 13, 14, 15, 16] (by decide) rfl
            refine fw_ci (wr := []) (w2 := fun u => (wX cI cJ q  nc0 lc0 le0 ge0 wt0 kp0 fo0 po0 na0 ns0 ta0 ts0 mx0 ch0 mo0 ms0 fs0)) [0, 1, 2, 3, 4, 5, 6, 7, 8, 9, 10, 11, 12, 13, 14, 15, 16] [] [0, 1, 2, 3, 4, 5, 6, 7, 8, 9, 10, 11, 12, 13, 14, 15, 16] (va_runV (b := (q 0)) (As := [.int (1 : Int32)]) (rest := []) ⟨hx, hb, hml, hown, hts⟩ (kX3_weightTogether l dC dI cI cJ q H.size  nc0 lc0 le0 ge0 wt0 kp0 fo0 po0 na0 ns0 ta0 ts0 mx0 ch0 mo0 ms0 fs0 (1 : Int32) (fw_be hq)) (cwV 1 hts gX3_count_X3_weightTogether rfl rfl rfl (by decide +kernel) ⟨Nat.le_of_ble_eq_true rfl, Nat.le_of_ble_eq_true rfl⟩) ⟨fw_blind, va_recv hK hPc (ci := 3) (q0 := 0) rfl rfl, fun U hU hW => fw_pre hPc hK hDc hN hU hW⟩ rfl rfl hl.1 rfl (lv_room (Nat.le_of_ble_eq_true rfl)) dX3_count_63 ⟨Nat.zero_le _, Nat.zero_le _⟩) hP hD hS hA rfl rfl (by decide) (by decide) (by decide) (fun _ => rfl) (fun r_12 u H locs hw hP hD hS => ?_)
            have hq := fw_bs hw hq
            try dsimp only at hq
            exact W.iret (v := r_12) hx hb hr (fun t ht hW => ⟨⟨r_12, (), rfl, hz.trans hq.symm, by rw [ht]; exact hP, hD⟩, hS.F ht⟩) hS.2.2 dX3_count_66
          · have hq := fw_if c_5 hq
            refine lv_tableOut (tgt := 67) hx hb dX3_count_1 (fw_out4 c_1 c_2 c_3 c_4 c_5) (by decide) ?_
            refine lv_bipush (v := (-3 : Int32)) hx hb dX3_count_67 (by decide) ?_
            exact W.iret (v := (-3 : Int32)) hx hb hr (fun t ht hW => ⟨⟨(-3 : Int32), (), rfl, hz.trans hq.symm, by rw [ht]; exact hP, hD⟩, hS.F ht⟩) hS.2.2 dX3_count_69
