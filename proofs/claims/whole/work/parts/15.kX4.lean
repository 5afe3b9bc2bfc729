/-! ===== contracts, by own program ===== -/
set_option maxHeartbeats 4000000 in
set_option maxRecDepth 100000 in
theorem kX3_keep (l : Launch) (dC : Nat → ClassId) (dI : Nat → Nat → Nat) (cI cJ : ClassId) (q : Nat → Nat) (sz : Nat)  (nc0 : Int32) (lc0 : Int32) (le0 : Nat → Int32) (ge0 : Nat → Int32) (wt0 : Nat → Int32) (kp0 : Nat → Int32) (fo0 : Nat → Int32) (po0 : Nat → Int32) (na0 : Nat → Int32) (ns0 : Int32) (ta0 : Nat → Int32) (ts0 : Int32) (mx0 : Nat → Int64) (ch0 : Nat → Int32) (mo0 : Nat → Int64) (ms0 : Int32) (fs0 : Nat → Int32) (y1 : Int32) (y2 : Int32) (hd : ∃ z, pX3_keep lc0 kp0 y1 y2 = some z) : Met l yX3_keep wsX3_keep ({ frames := 1, cells := 0, slots := 0, locals := 22 }) (fw_Pc (dC, dI) (fw_tys cI cJ) (wX cI cJ q  nc0 lc0 le0 ge0 wt0 kp0 fo0 po0 na0 ns0 ta0 ts0 mx0 ch0 mo0 ms0 fs0) ([.ref (q 0), .int y1, .int y2] : List Value) sz) (va_Qi (fun (r : Int32) (u : (Nat → Int32)) => pX3_keep lc0 kp0 y1 y2 = some (r, u)) (fun u t => fw_B (dC, dI) (va_A (wX cI cJ q  nc0 lc0 le0 ge0 wt0 kp0 fo0 po0 na0 ns0 ta0 ts0 mx0 ch0 mo0 ms0 fs0) sz) (wX cI cJ q  nc0 lc0 le0 ge0 wt0 u fo0 po0 na0 ns0 ta0 ts0 mx0 ch0 mo0 ms0 fs0) t) (va_A (wX cI cJ q  nc0 lc0 le0 ge0 wt0 kp0 fo0 po0 na0 ns0 ta0 ts0 mx0 ch0 mo0 ms0 fs0) sz)) 0 0 (va_A (wX cI cJ q  nc0 lc0 le0 ge0 wt0 kp0 fo0 po0 na0 ns0 ta0 ts0 mx0 ch0 mo0 ms0 fs0) sz) := by
  obtain ⟨z, hz⟩ := hd
  refine Met.ofW (cc := cX3_keep) (maxL := 4) (ret := (some .int)) (by decide) rfl ?_
  intro p e s m args below meth c s₁ B hml hv
  obtain ⟨rfl, hsz, hP, hK, hD0, hN⟩ := hv
  have hx := B.exec
  have hb := B.bytes
  have hr := B.returns
  have hts := atoms_spec (ws := wsX3_keep) B.pre
  have hown : s.vm.findClass RX3 = some m.cls := findClass_of_methodNamed B.named
  have hlocks := B.notSynchronized
  subst hsz
  have hD := hD0.self (sz := s.heap.size)
  generalize hAe : va_A (wX cI cJ q  nc0 lc0 le0 ge0 wt0 kp0 fo0 po0 na0 ns0 ta0 ts0 mx0 ch0 mo0 ms0 fs0) s.heap.size = A at hD ⊢
  have hA : ∀ q : Nat, s.heap.size ≤ q → A q := fun q h => by rw [← hAe]; exact Or.inr h
  have hinX3 : ∀ w ∈ u_ws RX3 TX3 12, w ∈ wsX3_keep := by decide +kernel
  have hf26 := hts (.fieldLink RX3 26 "FewLines" "keptOf" "[I") (by decide +kernel)
  have hq := hz
  dsimp only [pX3_keep] at hq
  have hl := lv_entry (([.ref (q 0), .int y1, .int y2] : List Value)) (n := 4) (Nat.le_of_ble_eq_true rfl)
  rw [lg_entry_eq]
  generalize (lg_sl (([.ref (q 0), .int y1, .int y2] : List Value)) ++ List.replicate (4 - (lg_sl (([.ref (q 0), .int y1, .int y2] : List Value))).length) Slot.unset).toArray = ls at hl ⊢
  have hl : lv_has ls 4 [(0, .ref (q 0)), (1, .int y1), (2, .int y2)] := hl
  obtain ⟨H, hHe⟩ : ∃ H : Heap, H = s.heap := ⟨_, rfl⟩
  obtain ⟨locs, hLe⟩ : ∃ L : List Loc, L = [] := ⟨_, rfl⟩
  have hP : va_P (dC, dI) vwCl (wX cI cJ q  nc0 lc0 le0 ge0 wt0 kp0 fo0 po0 na0 ns0 ta0 ts0 mx0 ch0 mo0 ms0 fs0) H := by rw [hHe]; exact hP
  have hS : va_S A s.heap H locs := by rw [hHe, hLe]; exact va_S.rf
  show W p l e (headSpec wsX3_keep ({ frames := 1, cells := 0, slots := 0, locals := 22 })).room s m ([.ref (q 0), .int y1, .int y2] : List Value).toArray below meth c s.heap [] 0 0 (MQ below (va_Qi (fun (r : Int32) (u : (Nat → Int32)) => pX3_keep lc0 kp0 y1 y2 = some (r, u)) (fun u t => fw_B (dC, dI) A (wX cI cJ q  nc0 lc0 le0 ge0 wt0 u fo0 po0 na0 ns0 ta0 ts0 mx0 ch0 mo0 ms0 fs0) t) A) ([.ref (q 0), .int y1, .int y2] : List Value).toArray s 0 0 A) (F0 m 0 ls [])
  rw [← hHe, ← hLe]
  refine lv_aload_n hx hb dX3_keep_0 rfl (lv_at hl 0 rfl) ?_
  refine lv_iload_n hx hb dX3_keep_1 rfl (lv_at hl 1 rfl) ?_
  have hPc := hP.sub (ws' := (wX cI cJ q  nc0 lc0 le0 ge0 wt0 kp0 fo0 po0 na0 ns0 ta0 ts0 mx0 ch0 mo0 ms0 fs0)) [0, 1, 2, 3, 4, 5, 6, 7, 8, 9, 10, 11, 12, 13, 14, 15, 16] rfl
  have hDc := hD.sub (ws' := (wX cI cJ q  nc0 lc0 le0 ge0 wt0 kp0 fo0 po0 na0 ns0 ta0 ts0 mx0 ch0 mo0 ms0 fs0)) [0, 1, 2, 3, 4, 5, 6, 7, 8, 9, 10, 11, 12, 13, 14, 15, 16] (by decide) rfl
  refine fw_ci (wr := []) (w2 := fun u => (wX cI cJ q  nc0 lc0 le0 ge0 wt0 kp0 fo0 po0 na0 ns0 ta0 ts0 mx0 ch0 mo0 ms0 fs0)) [0, 1, 2, 3, 4, 5, 6, 7, 8, 9, 10, 11, 12, 13, 14, 15, 16] [] [0, 1, 2, 3, 4, 5, 6, 7, 8, 9, 10, 11, 12, 13, 14, 15, 16] (va_runV (b := (q 0)) (As := [.int y1]) (rest := []) ⟨hx, hb, hml, hown, hts⟩ (kX3_isLine l dC dI cI cJ q H.size  nc0 lc0 le0 ge0 wt0 kp0 fo0 po0 na0 ns0 ta0 ts0 mx0 ch0 mo0 ms0 fs0 y1 (fw_be hq)) (cwV 1 hts gX3_keep_X3_isLine rfl rfl rfl (by decide +kernel) ⟨Nat.le_of_ble_eq_true rfl, Nat.le_of_ble_eq_true rfl⟩) ⟨fw_blind, va_recv hK hPc (ci := 3) (q0 := 0) rfl rfl, fun U hU hW => fw_pre hPc hK hDc hN hU hW⟩ rfl rfl hl.1 rfl (lv_room (Nat.le_of_ble_eq_true rfl)) dX3_keep_2 ⟨Nat.zero_le _, Nat.zero_le _⟩) hP hD hS hA rfl rfl (by decide) (by decide) (by decide) (fun _ => rfl) (fun r_1 u H locs hw hP hD hS => ?_)
  obtain ⟨hw, n_3⟩ := hw
  have hq := fw_bs hw hq
  try dsimp only at hq
  refine lv_if_ne (tgt := 11) hx hb dX3_keep_5 (by decide) (fun c_4 => ?_) (fun c_4 => ?_)
  · have hq := fw_if c_4 hq
    refine lv_iload_n hx hb dX3_keep_11 rfl (lv_at hl 2 rfl) ?_
    refine lv_iconst (v := (0 : Int32)) hx hb dX3_keep_12 (by decide) ?_
    refine lv_bipush (v := (60 : Int32)) hx hb dX3_keep_13 (by decide) ?_
    have hPc := hP.sub (ws' := (w0 cI cJ   )) [] rfl
    have hDc := hD.sub (ws' := (w0 cI cJ   )) [] (by decide) rfl
    refine fw_ci (wr := [((q 0), .inr (3, [.int nc0, .int lc0, .ref (q 1), .ref (q 2), .ref (q 3), .ref (q 4), .ref (q 5), .ref (q 6), .ref (q 8), .ref (q 10), .ref (q 12), .ref (q 16)])), ((q 1), .inl (cI, 12, .inl le0)), ((q 2), .inl (cI, 12, .inl ge0)), ((q 3), .inl (cI, 12, .inl wt0)), ((q 4), .inl (cI, 12, .inl kp0)), ((q 5), .inl (cI, 12, .inl fo0)), ((q 6), .inr (2, [.ref (q 7)])), ((q 7), .inl (cI, 7, .inl po0)), ((q 8), .inr (0, [.ref (q 9), .int ns0])), ((q 9), .inl (cI, 49, .inl na0)), ((q 10), .inr (0, [.ref (q 11), .int ts0])), ((q 11), .inl (cI, 49, .inl ta0)), ((q 12), .inr (1, [.ref (q 13), .ref (q 14), .ref (q 15), .int ms0])), ((q 13), .inl (cJ, 49, .inr (.inl mx0))), ((q 14), .inl (cI, 7, .inl ch0)), ((q 15), .inl (cJ, 128, .inr (.inl mo0))), ((q 16), .inl (cI, 10, .inl fs0))]) (w2 := fun u => (wX cI cJ q  nc0 lc0 le0 ge0 wt0 kp0 fo0 po0 na0 ns0 ta0 ts0 mx0 ch0 mo0 ms0 fs0)) [] [0, 1, 2, 3, 4, 5, 6, 7, 8, 9, 10, 11, 12, 13, 14, 15, 16] [0, 1, 2, 3, 4, 5, 6, 7, 8, 9, 10, 11, 12, 13, 14, 15, 16] (va_runS (As := [.int y2, .int (0 : Int32), .int (60 : Int32)]) (rest := []) ⟨hx, hb, hml, hown, hts⟩ (kX3_isWithin l dC dI cI cJ  H.size   y2 (0 : Int32) (60 : Int32) (fw_be hq)) (va_cwS 3 hts gX3_keep_X3_isWithin rfl rfl rfl (by decide +kernel) ⟨Nat.le_of_ble_eq_true rfl, Nat.le_of_ble_eq_true rfl⟩) ⟨fw_blind, fun U hU hW => fw_pre hPc hK hDc hN hU hW⟩ rfl rfl hl.1 rfl (lv_room (Nat.le_of_ble_eq_true rfl)) dX3_keep_15 ⟨Nat.zero_le _, Nat.zero_le _⟩) hP hD hS hA rfl rfl (by decide) (by decide) (by decide) (fun _ => rfl) (fun r_5 u H locs hw hP hD hS => ?_)
    obtain ⟨hw, n_7⟩ := hw
    have hq := fw_bs hw hq
    try dsimp only at hq
    refine lv_if_ne (tgt := 24) hx hb dX3_keep_18 (by decide) (fun c_8 => ?_) (fun c_8 => ?_)
    · have hq := fw_if c_8 hq
      refine lv_aload_n hx hb dX3_keep_24 rfl (lv_at hl 0 rfl) ?_
      refine va_get (D := (dC, dI)) (ci := 3) (v := .ref (q 4)) (C := RX3) (T := TX3) (N := 12) hx hb hts hinX3 hown hK hP 0 rfl rfl 5 (by decide) hf26 (fun _ h9 => h9) rfl dX3_keep_25 ?_
      refine lv_iload_n hx hb dX3_keep_28 rfl (lv_at hl 1 rfl) ?_
      obtain ⟨h_9, hq⟩ := fw_ck_s hq
      refine va_iald hx hb hK hP 4 0 rfl rfl h_9 dX3_keep_29 ?_
      refine lv_istore_n (lv' := [(3, .int (kp0 (y1).toNatClampNeg)), (0, .ref (q 0)), (1, .int y1), (2, .int y2)]) hx hb dX3_keep_30 rfl hl (by decide) rfl (fun ls hl => ?_)
      refine lv_aload_n hx hb dX3_keep_31 rfl (lv_at hl 1 rfl) ?_
      refine va_get (D := (dC, dI)) (ci := 3) (v := .ref (q 4)) (C := RX3) (T := TX3) (N := 12) hx hb hts hinX3 hown hK hP 0 rfl rfl 5 (by decide) hf26 (fun _ h9 => h9) rfl dX3_keep_32 ?_
      refine lv_iload_n hx hb dX3_keep_35 rfl (lv_at hl 2 rfl) ?_
      refine lv_iload_n hx hb dX3_keep_36 rfl (lv_at hl 3 rfl) ?_
      obtain ⟨h_10, hq⟩ := fw_ck_s hq
      refine va_iast hx hb hK hP hD hS 4 0 rfl rfl h_10 dX3_keep_37 (fun H locs hP hD hS => ?_)
      have hP : va_P (dC, dI) vwCl (wX cI cJ q  nc0 lc0 le0 ge0 wt0 (upd kp0 (y1).toNatClampNeg y2) fo0 po0 na0 ns0 ta0 ts0 mx0 ch0 mo0 ms0 fs0) H := hP
      have hD : va_D A (wX cI cJ q  nc0 lc0 le0 ge0 wt0 (upd kp0 (y1).toNatClampNeg y2) fo0 po0 na0 ns0 ta0 ts0 mx0 ch0 mo0 ms0 fs0) := hD
      refine lv_iload_n hx hb dX3_keep_38 rfl (lv_at hl 0 rfl) ?_
      exact W.iret (v := (kp0 (y1).toNatClampNeg)) hx hb hr (fun t ht hW => ⟨⟨(kp0 (y1).toNatClampNeg), (upd kp0 (y1).toNatClampNeg y2), rfl, hz.trans hq.symm, by rw [ht]; exact hP, hD⟩, hS.F ht⟩) hS.2.2 dX3_keep_39
    · have hq := fw_it c_8 hq
      refine lv_bipush (v := (-3 : Int32)) hx hb dX3_keep_21 (by decide) ?_
      exact W.iret (v := (-3 : Int32)) hx hb hr (fun t ht hW => ⟨⟨(-3 : Int32), kp0, rfl, hz.trans hq.symm, by rw [ht]; exact hP, hD⟩, hS.F ht⟩) hS.2.2 dX3_keep_23
  · have hq := fw_it c_4 hq
    refine lv_bipush (v := (-2 : Int32)) hx hb dX3_keep_8 (by decide) ?_
    exact W.iret (v := (-2 : Int32)) hx hb hr (fun t ht hW => ⟨⟨(-2 : Int32), kp0, rfl, hz.trans hq.symm, by rw [ht]; exact hP, hD⟩, hS.F ht⟩) hS.2.2 dX3_keep_10
set_option maxHeartbeats 4000000 in
set_option maxRecDepth 100000 in
theorem kX3_at (l : Launch) (dC : Nat → ClassId) (dI : Nat → Nat → Nat) (cI cJ : ClassId) (q : Nat → Nat) (sz : Nat)  (nc0 : Int32) (lc0 : Int32) (le0 : Nat → Int32) (ge0 : Nat → Int32) (wt0 : Nat → Int32) (kp0 : Nat → Int32) (fo0 : Nat → Int32) (po0 : Nat → Int32) (na0 : Nat → Int32) (ns0 : Int32) (ta0 : Nat → Int32) (ts0 : Int32) (mx0 : Nat → Int64) (ch0 : Nat → Int32) (mo0 : Nat → Int64) (ms0 : Int32) (fs0 : Nat → Int32) (y1 : Int32) (y2 : Int32) (hd : ∃ z, pX3_at lc0 le0 ge0 wt0 kp0 fo0 po0 y1 y2 = some z) : Met l yX3_at wsX3_at ({ frames := 3, cells := 0, slots := 0, locals := 70 }) (fw_Pc (dC, dI) (fw_tys cI cJ) (wX cI cJ q  nc0 lc0 le0 ge0 wt0 kp0 fo0 po0 na0 ns0 ta0 ts0 mx0 ch0 mo0 ms0 fs0) ([.ref (q 0), .int y1, .int y2] : List Value) sz) (va_Qi (fun (r : Int32) (u : (Nat → Int32) × (Nat → Int32)) => pX3_at lc0 le0 ge0 wt0 kp0 fo0 po0 y1 y2 = some (r, u)) (fun u t => fw_B (dC, dI) (va_A (wX cI cJ q  nc0 lc0 le0 ge0 wt0 kp0 fo0 po0 na0 ns0 ta0 ts0 mx0 ch0 mo0 ms0 fs0) sz) (wX cI cJ q  nc0 lc0 le0 ge0 wt0 kp0 u.1 u.2 na0 ns0 ta0 ts0 mx0 ch0 mo0 ms0 fs0) t) (va_A (wX cI cJ q  nc0 lc0 le0 ge0 wt0 kp0 fo0 po0 na0 ns0 ta0 ts0 mx0 ch0 mo0 ms0 fs0) sz)) 0 0 (va_A (wX cI cJ q  nc0 lc0 le0 ge0 wt0 kp0 fo0 po0 na0 ns0 ta0 ts0 mx0 ch0 mo0 ms0 fs0) sz) := by
  obtain ⟨z, hz⟩ := hd
  refine Met.ofW (cc := cX3_at) (maxL := 3) (ret := (some .int)) (by decide) rfl ?_
  intro p e s m args below meth c s₁ B hml hv
  obtain ⟨rfl, hsz, hP, hK, hD0, hN⟩ := hv
  have hx := B.exec
  have hb := B.bytes
  have hr := B.returns
  have hts := atoms_spec (ws := wsX3_at) B.pre
  have hown : s.vm.findClass RX3 = some m.cls := findClass_of_methodNamed B.named
  have hlocks := B.notSynchronized
  subst hsz
  have hD := hD0.self (sz := s.heap.size)
  generalize hAe : va_A (wX cI cJ q  nc0 lc0 le0 ge0 wt0 kp0 fo0 po0 na0 ns0 ta0 ts0 mx0 ch0 mo0 ms0 fs0) s.heap.size = A at hD ⊢
  have hA : ∀ q : Nat, s.heap.size ≤ q → A q := fun q h => by rw [← hAe]; exact Or.inr h
  have hinX3 : ∀ w ∈ u_ws RX3 TX3 12, w ∈ wsX3_at := by decide +kernel
  have hf16 := hts (.fieldLink RX3 16 "FewLines" "lesserEnd" "[I") (by decide +kernel)
  have hf20 := hts (.fieldLink RX3 20 "FewLines" "greaterEnd" "[I") (by decide +kernel)
  have hf23 := hts (.fieldLink RX3 23 "FewLines" "weightOf" "[I") (by decide +kernel)
  have hf26 := hts (.fieldLink RX3 26 "FewLines" "keptOf" "[I") (by decide +kernel)
  have hf29 := hts (.fieldLink RX3 29 "FewLines" "forestOf" "[I") (by decide +kernel)
  have hq := hz
  dsimp only [pX3_at] at hq
  have hl := lv_entry (([.ref (q 0), .int y1, .int y2] : List Value)) (n := 3) (Nat.le_of_ble_eq_true rfl)
  rw [lg_entry_eq]
  generalize (lg_sl (([.ref (q 0), .int y1, .int y2] : List Value)) ++ List.replicate (3 - (lg_sl (([.ref (q 0), .int y1, .int y2] : List Value))).length) Slot.unset).toArray = ls at hl ⊢
  have hl : lv_has ls 3 [(0, .ref (q 0)), (1, .int y1), (2, .int y2)] := hl
  obtain ⟨H, hHe⟩ : ∃ H : Heap, H = s.heap := ⟨_, rfl⟩
  obtain ⟨locs, hLe⟩ : ∃ L : List Loc, L = [] := ⟨_, rfl⟩
  have hP : va_P (dC, dI) vwCl (wX cI cJ q  nc0 lc0 le0 ge0 wt0 kp0 fo0 po0 na0 ns0 ta0 ts0 mx0 ch0 mo0 ms0 fs0) H := by rw [hHe]; exact hP
  have hS : va_S A s.heap H locs := by rw [hHe, hLe]; exact va_S.rf
  show W p l e (headSpec wsX3_at ({ frames := 3, cells := 0, slots := 0, locals := 70 })).room s m ([.ref (q 0), .int y1, .int y2] : List Value).toArray below meth c s.heap [] 0 0 (MQ below (va_Qi (fun (r : Int32) (u : (Nat → Int32) × (Nat → Int32)) => pX3_at lc0 le0 ge0 wt0 kp0 fo0 po0 y1 y2 = some (r, u)) (fun u t => fw_B (dC, dI) A (wX cI cJ q  nc0 lc0 le0 ge0 wt0 kp0 u.1 u.2 na0 ns0 ta0 ts0 mx0 ch0 mo0 ms0 fs0) t) A) ([.ref (q 0), .int y1, .int y2] : List Value).toArray s 0 0 A) (F0 m 0 ls [])
  rw [← hHe, ← hLe]
  refine lv_aload_n hx hb dX3_at_0 rfl (lv_at hl 0 rfl) ?_
  refine lv_iload_n hx hb dX3_at_1 rfl (lv_at hl 1 rfl) ?_
  have hPc := hP.sub (ws' := (wX cI cJ q  nc0 lc0 le0 ge0 wt0 kp0 fo0 po0 na0 ns0 ta0 ts0 mx0 ch0 mo0 ms0 fs0)) [0, 1, 2, 3, 4, 5, 6, 7, 8, 9, 10, 11, 12, 13, 14, 15, 16] rfl
  have hDc := hD.sub (ws' := (wX cI cJ q  nc0 lc0 le0 ge0 wt0 kp0 fo0 po0 na0 ns0 ta0 ts0 mx0 ch0 mo0 ms0 fs0)) [0, 1, 2, 3, 4, 5, 6, 7, 8, 9, 10, 11, 12, 13, 14, 15, 16] (by decide) rfl
  refine fw_ci (wr := []) (w2 := fun u => (wX cI cJ q  nc0 lc0 le0 ge0 wt0 kp0 fo0 po0 na0 ns0 ta0 ts0 mx0 ch0 mo0 ms0 fs0)) [0, 1, 2, 3, 4, 5, 6, 7, 8, 9, 10, 11, 12, 13, 14, 15, 16] [] [0, 1, 2, 3, 4, 5, 6, 7, 8, 9, 10, 11, 12, 13, 14, 15, 16] (va_runV (b := (q 0)) (As := [.int y1]) (rest := []) ⟨hx, hb, hml, hown, hts⟩ (kX3_isLine l dC dI cI cJ q H.size  nc0 lc0 le0 ge0 wt0 kp0 fo0 po0 na0 ns0 ta0 ts0 mx0 ch0 mo0 ms0 fs0 y1 (fw_be hq)) (cwV 1 hts gX3_at_X3_isLine rfl rfl rfl (by decide +kernel) ⟨Nat.le_of_ble_eq_true rfl, Nat.le_of_ble_eq_true rfl⟩) ⟨fw_blind, va_recv hK hPc (ci := 3) (q0 := 0) rfl rfl, fun U hU hW => fw_pre hPc hK hDc hN hU hW⟩ rfl rfl hl.1 rfl (lv_room (Nat.le_of_ble_eq_true rfl)) dX3_at_2 ⟨Nat.zero_le _, Nat.zero_le _⟩) hP hD hS hA rfl rfl (by decide) (by decide) (by decide) (fun _ => rfl) (fun r_1 u H locs hw hP hD hS => ?_)
  obtain ⟨hw, n_3⟩ := hw
  have hq := fw_bs hw hq
  try dsimp only at hq
  refine lv_if_ne (tgt := 11) hx hb dX3_at_5 (by decide) (fun c_4 => ?_) (fun c_4 => ?_)
  · have hq := fw_if c_4 hq
    refine lv_iload_n hx hb dX3_at_11 rfl (lv_at hl 2 rfl) ?_
    by_cases c_5 : y2 = (0 : Int32)
    · have hq := fw_it c_5 hq
      refine lv_tableIn (tgt := 48) (off := 36) hx hb dX3_at_12 (by rw [c_5]; decide) (by rw [c_5]; decide) (by rw [c_5]; rfl) (by decide) ?_
      refine lv_aload_n hx hb dX3_at_48 rfl (lv_at hl 0 rfl) ?_
      refine va_get (D := (dC, dI)) (ci := 3) (v := .ref (q 1)) (C := RX3) (T := TX3) (N := 12) hx hb hts hinX3 hown hK hP 0 rfl rfl 2 (by decide) hf16 (fun _ h9 => h9) rfl dX3_at_49 ?_
      refine lv_iload_n hx hb dX3_at_52 rfl (lv_at hl 1 rfl) ?_
      obtain ⟨h_10, hq⟩ := fw_ck_s hq
      refine va_iald hx hb hK hP 1 0 rfl rfl h_10 dX3_at_53 ?_
      exact W.iret (v := (le0 (y1).toNatClampNeg)) hx hb hr (fun t ht hW => ⟨⟨(le0 (y1).toNatClampNeg), (fo0, po0), rfl, hz.trans hq.symm, by rw [ht]; exact hP, hD⟩, hS.F ht⟩) hS.2.2 dX3_at_54
    · have hq := fw_if c_5 hq
      by_cases c_6 : y2 = (1 : Int32)
      · have hq := fw_it c_6 hq
        refine lv_tableIn (tgt := 55) (off := 43) hx hb dX3_at_12 (by rw [c_6]; decide) (by rw [c_6]; decide) (by rw [c_6]; rfl) (by decide) ?_
        refine lv_aload_n hx hb dX3_at_55 rfl (lv_at hl 0 rfl) ?_
        refine va_get (D := (dC, dI)) (ci := 3) (v := .ref (q 2)) (C := RX3) (T := TX3) (N := 12) hx hb hts hinX3 hown hK hP 0 rfl rfl 3 (by decide) hf20 (fun _ h9 => h9) rfl dX3_at_56 ?_
        refine lv_iload_n hx hb dX3_at_59 rfl (lv_at hl 1 rfl) ?_
        obtain ⟨h_11, hq⟩ := fw_ck_s hq
        refine va_iald hx hb hK hP 2 0 rfl rfl h_11 dX3_at_60 ?_
        exact W.iret (v := (ge0 (y1).toNatClampNeg)) hx hb hr (fun t ht hW => ⟨⟨(ge0 (y1).toNatClampNeg), (fo0, po0), rfl, hz.trans hq.symm, by rw [ht]; exact hP, hD⟩, hS.F ht⟩) hS.2.2 dX3_at_61
      · have hq := fw_if c_6 hq
        by_cases c_7 : y2 = (2 : Int32)
        · have hq := fw_it c_7 hq
          refine lv_tableIn (tgt := 62) (off := 50) hx hb dX3_at_12 (by rw [c_7]; decide) (by rw [c_7]; decide) (by rw [c_7]; rfl) (by decide) ?_
          refine lv_aload_n hx hb dX3_at_62 rfl (lv_at hl 0 rfl) ?_
          refine va_get (D := (dC, dI)) (ci := 3) (v := .ref (q 3)) (C := RX3) (T := TX3) (N := 12) hx hb hts hinX3 hown hK hP 0 rfl rfl 4 (by decide) hf23 (fun _ h9 => h9) rfl dX3_at_63 ?_
          refine lv_iload_n hx hb dX3_at_66 rfl (lv_at hl 1 rfl) ?_
          obtain ⟨h_12, hq⟩ := fw_ck_s hq
          refine va_iald hx hb hK hP 3 0 rfl rfl h_12 dX3_at_67 ?_
          exact W.iret (v := (wt0 (y1).toNatClampNeg)) hx hb hr (fun t ht hW => ⟨⟨(wt0 (y1).toNatClampNeg), (fo0, po0), rfl, hz.trans hq.symm, by rw [ht]; exact hP, hD⟩, hS.F ht⟩) hS.2.2 dX3_at_68
        · have hq := fw_if c_7 hq
          by_cases c_8 : y2 = (3 : Int32)
          · have hq := fw_it c_8 hq
            refine lv_tableIn (tgt := 69) (off := 57) hx hb dX3_at_12 (by rw [c_8]; decide) (by rw [c_8]; decide) (by rw [c_8]; rfl) (by decide) ?_
            refine lv_aload_n hx hb dX3_at_69 rfl (lv_at hl 0 rfl) ?_
            refine va_get (D := (dC, dI)) (ci := 3) (v := .ref (q 4)) (C := RX3) (T := TX3) (N := 12) hx hb hts hinX3 hown hK hP 0 rfl rfl 5 (by decide) hf26 (fun _ h9 => h9) rfl dX3_at_70 ?_
            refine lv_iload_n hx hb dX3_at_73 rfl (lv_at hl 1 rfl) ?_
            obtain ⟨h_13, hq⟩ := fw_ck_s hq
            refine va_iald hx hb hK hP 4 0 rfl rfl h_13 dX3_at_74 ?_
            exact W.iret (v := (kp0 (y1).toNatClampNeg)) hx hb hr (fun t ht hW => ⟨⟨(kp0 (y1).toNatClampNeg), (fo0, po0), rfl, hz.trans hq.symm, by rw [ht]; exact hP, hD⟩, hS.F ht⟩) hS.2.2 dX3_at_75
          · have hq := fw_if c_8 hq
            by_cases c_9 : y2 = (4 : Int32)
            · have hq := fw_it c_9 hq
              refine lv_tableIn (tgt := 76) (off := 64) hx hb dX3_at_12 (by rw [c_9]; decide) (by rw [c_9]; decide) (by rw [c_9]; rfl) (by decide) ?_
              refine lv_aload_n hx hb dX3_at_76 rfl (lv_at hl 0 rfl) ?_
              have hPc := hP.sub (ws' := (wX cI cJ q  nc0 lc0 le0 ge0 wt0 kp0 fo0 po0 na0 ns0 ta0 ts0 mx0 ch0 mo0 ms0 fs0)) [0, 1, 2, 3, 4, 5, 6, 7, 8, 9, 10, 11, 12, 13, 14, 15, 16] rfl
              have hDc := hD.sub (ws' := (wX cI cJ q  nc0 lc0 le0 ge0 wt0 kp0 fo0 po0 na0 ns0 ta0 ts0 mx0 ch0 mo0 ms0 fs0)) [0, 1, 2, 3, 4, 5, 6, 7, 8, 9, 10, 11, 12, 13, 14, 15, 16] (by decide) rfl
              refine fw_ci (wr := []) (w2 := fun u => (wX cI cJ q  nc0 lc0 le0 ge0 wt0 kp0 u.1 u.2 na0 ns0 ta0 ts0 mx0 ch0 mo0 ms0 fs0)) [0, 1, 2, 3, 4, 5, 6, 7, 8, 9, 10, 11, 12, 13, 14, 15, 16] [] [0, 1, 2, 3, 4, 5, 6, 7, 8, 9, 10, 11, 12, 13, 14, 15, 16] (va_runV (b := (q 0)) (As := []) (rest := []) ⟨hx, hb, hml, hown, hts⟩ (kX3_peelForests l dC dI cI cJ q H.size  nc0 lc0 le0 ge0 wt0 kp0 fo0 po0 na0 ns0 ta0 ts0 mx0 ch0 mo0 ms0 fs0  (fw_be hq)) (cwV 0 hts gX3_at_X3_peelForests rfl rfl rfl (by decide +kernel) ⟨Nat.le_of_ble_eq_true rfl, Nat.le_of_ble_eq_true rfl⟩) ⟨fw_blind, va_recv hK hPc (ci := 3) (q0 := 0) rfl rfl, fun U hU hW => fw_pre hPc hK hDc hN hU hW⟩ rfl rfl hl.1 rfl (lv_room (Nat.le_of_ble_eq_true rfl)) dX3_at_77 ⟨Nat.zero_le _, Nat.zero_le _⟩) hP hD hS hA rfl rfl (by decide) (by decide) (by decide) (fun _ => rfl) (fun r_16 u H locs hw hP hD hS => ?_)
              obtain ⟨fo_14, po_15⟩ := u
              have hq := fw_bs hw hq
              try dsimp only at hq
              have hP : va_P (dC, dI) vwCl (wX cI cJ q  nc0 lc0 le0 ge0 wt0 kp0 fo_14 po_15 na0 ns0 ta0 ts0 mx0 ch0 mo0 ms0 fs0) H := hP
              have hD : va_D A (wX cI cJ q  nc0 lc0 le0 ge0 wt0 kp0 fo_14 po_15 na0 ns0 ta0 ts0 mx0 ch0 mo0 ms0 fs0) := hD
              refine lv_pop hx hb dX3_at_80 rfl ?_
              refine lv_aload_n hx hb dX3_at_81 rfl (lv_at hl 0 rfl) ?_
              refine va_get (D := (dC, dI)) (ci := 3) (v := .ref (q 5)) (C := RX3) (T := TX3) (N := 12) hx hb hts hinX3 hown hK hP 0 rfl rfl 6 (by decide) hf29 (fun _ h9 => h9) rfl dX3_at_82 ?_
              refine lv_iload_n hx hb dX3_at_85 rfl (lv_at hl 1 rfl) ?_
              obtain ⟨h_18, hq⟩ := fw_ck_s hq
              refine va_iald hx hb hK hP 5 0 rfl rfl h_18 dX3_at_86 ?_
              exact W.iret (v := (fo_14 (y1).toNatClampNeg)) hx hb hr (fun t ht hW => ⟨⟨(fo_14 (y1).toNatClampNeg), (fo_14, po_15), rfl, hz.trans hq.symm, by rw [ht]; exact hP, hD⟩, hS.F ht⟩) hS.2.2 dX3_at_87
            · have hq := fw_if c_9 hq
              refine lv_tableOut (tgt := 88) hx hb dX3_at_12 (fw_out4 c_5 c_6 c_7 c_8 c_9) (by decide) ?_
              refine lv_bipush (v := (-3 : Int32)) hx hb dX3_at_88 (by decide) ?_
              exact W.iret (v := (-3 : Int32)) hx hb hr (fun t ht hW => ⟨⟨(-3 : Int32), (fo0, po0), rfl, hz.trans hq.symm, by rw [ht]; exact hP, hD⟩, hS.F ht⟩) hS.2.2 dX3_at_90
  · have hq := fw_it c_4 hq
    refine lv_bipush (v := (-2 : Int32)) hx hb dX3_at_8 (by decide) ?_
    exact W.iret (v := (-2 : Int32)) hx hb hr (fun t ht hW => ⟨⟨(-2 : Int32), (fo0, po0), rfl, hz.trans hq.symm, by rw [ht]; exact hP, hD⟩, hS.F ht⟩) hS.2.2 dX3_at_10
set_option maxHeartbeats 4000000 in
set_option maxRecDepth 100000 in
theorem kX3_cut (l : Launch) (dC : Nat → ClassId) (dI : Nat → Nat → Nat) (cI cJ : ClassId) (q : Nat → Nat) (sz : Nat)  (nc0 : Int32) (lc0 : Int32) (le0 : Nat → Int32) (ge0 : Nat → Int32) (wt0 : Nat → Int32) (kp0 : Nat → Int32) (fo0 : Nat → Int32) (po0 : Nat → Int32) (na0 : Nat → Int32) (ns0 : Int32) (ta0 : Nat → Int32) (ts0 : Int32) (mx0 : Nat → Int64) (ch0 : Nat → Int32) (mo0 : Nat → Int64) (ms0 : Int32) (fs0 : Nat → Int32) (y1 : Int32) (y2 : Int32) (hd : ∃ z, pX3_cut nc0 lc0 le0 ge0 wt0 kp0 y1 y2 = some z) : Met l yX3_cut wsX3_cut ({ frames := 2, cells := 0, slots := 0, locals := 46 }) (fw_Pc (dC, dI) (fw_tys cI cJ) (wX cI cJ q  nc0 lc0 le0 ge0 wt0 kp0 fo0 po0 na0 ns0 ta0 ts0 mx0 ch0 mo0 ms0 fs0) ([.ref (q 0), .int y1, .int y2] : List Value) sz) (va_Qi (fun (r : Int32) (u : Unit) => pX3_cut nc0 lc0 le0 ge0 wt0 kp0 y1 y2 = some r) (fun u t => fw_B (dC, dI) (va_A (wX cI cJ q  nc0 lc0 le0 ge0 wt0 kp0 fo0 po0 na0 ns0 ta0 ts0 mx0 ch0 mo0 ms0 fs0) sz) (wX cI cJ q  nc0 lc0 le0 ge0 wt0 kp0 fo0 po0 na0 ns0 ta0 ts0 mx0 ch0 mo0 ms0 fs0) t) (va_A (wX cI cJ q  nc0 lc0 le0 ge0 wt0 kp0 fo0 po0 na0 ns0 ta0 ts0 mx0 ch0 mo0 ms0 fs0) sz)) 0 0 (va_A (wX cI cJ q  nc0 lc0 le0 ge0 wt0 kp0 fo0 po0 na0 ns0 ta0 ts0 mx0 ch0 mo0 ms0 fs0) sz) := by
  obtain ⟨z, hz⟩ := hd
  refine Met.ofW (cc := cX3_cut) (maxL := 3) (ret := (some .int)) (by decide) rfl ?_
  intro p e s m args below meth c s₁ B hml hv
  obtain ⟨rfl, hsz, hP, hK, hD0, hN⟩ := hv
  have hx := B.exec
  have hb := B.bytes
  have hr := B.returns
  have hts := atoms_spec (ws := wsX3_cut) B.pre
  have hown : s.vm.findClass RX3 = some m.cls := findClass_of_methodNamed B.named
  have hlocks := B.notSynchronized
  subst hsz
  have hD := hD0.self (sz := s.heap.size)
  generalize hAe : va_A (wX cI cJ q  nc0 lc0 le0 ge0 wt0 kp0 fo0 po0 na0 ns0 ta0 ts0 mx0 ch0 mo0 ms0 fs0) s.heap.size = A at hD ⊢
  have hA : ∀ q : Nat, s.heap.size ≤ q → A q := fun q h => by rw [← hAe]; exact Or.inr h
  have hq := hz
  dsimp only [pX3_cut] at hq
  have hl := lv_entry (([.ref (q 0), .int y1, .int y2] : List Value)) (n := 3) (Nat.le_of_ble_eq_true rfl)
  rw [lg_entry_eq]
  generalize (lg_sl (([.ref (q 0), .int y1, .int y2] : List Value)) ++ List.replicate (3 - (lg_sl (([.ref (q 0), .int y1, .int y2] : List Value))).length) Slot.unset).toArray = ls at hl ⊢
  have hl : lv_has ls 3 [(0, .ref (q 0)), (1, .int y1), (2, .int y2)] := hl
  obtain ⟨H, hHe⟩ : ∃ H : Heap, H = s.heap := ⟨_, rfl⟩
  obtain ⟨locs, hLe⟩ : ∃ L : List Loc, L = [] := ⟨_, rfl⟩
  have hP : va_P (dC, dI) vwCl (wX cI cJ q  nc0 lc0 le0 ge0 wt0 kp0 fo0 po0 na0 ns0 ta0 ts0 mx0 ch0 mo0 ms0 fs0) H := by rw [hHe]; exact hP
  have hS : va_S A s.heap H locs := by rw [hHe, hLe]; exact va_S.rf
  show W p l e (headSpec wsX3_cut ({ frames := 2, cells := 0, slots := 0, locals := 46 })).room s m ([.ref (q 0), .int y1, .int y2] : List Value).toArray below meth c s.heap [] 0 0 (MQ below (va_Qi (fun (r : Int32) (u : Unit) => pX3_cut nc0 lc0 le0 ge0 wt0 kp0 y1 y2 = some r) (fun u t => fw_B (dC, dI) A (wX cI cJ q  nc0 lc0 le0 ge0 wt0 kp0 fo0 po0 na0 ns0 ta0 ts0 mx0 ch0 mo0 ms0 fs0) t) A) ([.ref (q 0), .int y1, .int y2] : List Value).toArray s 0 0 A) (F0 m 0 ls [])
  rw [← hHe, ← hLe]
  refine lv_aload_n hx hb dX3_cut_0 rfl (lv_at hl 0 rfl) ?_
  refine lv_iload_n hx hb dX3_cut_1 rfl (lv_at hl 1 rfl) ?_
  have hPc := hP.sub (ws' := (wX cI cJ q  nc0 lc0 le0 ge0 wt0 kp0 fo0 po0 na0 ns0 ta0 ts0 mx0 ch0 mo0 ms0 fs0)) [0, 1, 2, 3, 4, 5, 6, 7, 8, 9, 10, 11, 12, 13, 14, 15, 16] rfl
  have hDc := hD.sub (ws' := (wX cI cJ q  nc0 lc0 le0 ge0 wt0 kp0 fo0 po0 na0 ns0 ta0 ts0 mx0 ch0 mo0 ms0 fs0)) [0, 1, 2, 3, 4, 5, 6, 7, 8, 9, 10, 11, 12, 13, 14, 15, 16] (by decide) rfl
  refine fw_ci (wr := []) (w2 := fun u => (wX cI cJ q  nc0 lc0 le0 ge0 wt0 kp0 fo0 po0 na0 ns0 ta0 ts0 mx0 ch0 mo0 ms0 fs0)) [0, 1, 2, 3, 4, 5, 6, 7, 8, 9, 10, 11, 12, 13, 14, 15, 16] [] [0, 1, 2, 3, 4, 5, 6, 7, 8, 9, 10, 11, 12, 13, 14, 15, 16] (va_runV (b := (q 0)) (As := [.int y1]) (rest := []) ⟨hx, hb, hml, hown, hts⟩ (kX3_isSide l dC dI cI cJ q H.size  nc0 lc0 le0 ge0 wt0 kp0 fo0 po0 na0 ns0 ta0 ts0 mx0 ch0 mo0 ms0 fs0 y1 (fw_be hq)) (cwV 1 hts gX3_cut_X3_isSide rfl rfl rfl (by decide +kernel) ⟨Nat.le_of_ble_eq_true rfl, Nat.le_of_ble_eq_true rfl⟩) ⟨fw_blind, va_recv hK hPc (ci := 3) (q0 := 0) rfl rfl, fun U hU hW => fw_pre hPc hK hDc hN hU hW⟩ rfl rfl hl.1 rfl (lv_room (Nat.le_of_ble_eq_true rfl)) dX3_cut_2 ⟨Nat.zero_le _, Nat.zero_le _⟩) hP hD hS hA rfl rfl (by decide) (by decide) (by decide) (fun _ => rfl) (fun r_1 u H locs hw hP hD hS => ?_)
  obtain ⟨hw, n_3⟩ := hw
  have hq := fw_bs hw hq
  try dsimp only at hq
  refine lv_if_eq (tgt := 15) hx hb dX3_cut_5 (by decide) (fun c_4 => ?_) (fun c_4 => ?_)
  · have hq := fw_it c_4 hq
    refine lv_bipush (v := (-3 : Int32)) hx hb dX3_cut_15 (by decide) ?_
    exact W.iret (v := (-3 : Int32)) hx hb hr (fun t ht hW => ⟨⟨(-3 : Int32), (), rfl, hz.trans hq.symm, by rw [ht]; exact hP, hD⟩, hS.F ht⟩) hS.2.2 dX3_cut_17
  · have hq := fw_if c_4 hq
    refine lv_iload_n hx hb dX3_cut_8 rfl (lv_at hl 2 rfl) ?_
    have hPc := hP.sub (ws' := (w0 cI cJ   )) [] rfl
    have hDc := hD.sub (ws' := (w0 cI cJ   )) [] (by decide) rfl
    refine fw_ci (wr := [((q 0), .inr (3, [.int nc0, .int lc0, .ref (q 1), .ref (q 2), .ref (q 3), .ref (q 4), .ref (q 5), .ref (q 6), .ref (q 8), .ref (q 10), .ref (q 12), .ref (q 16)])), ((q 1), .inl (cI, 12, .inl le0)), ((q 2), .inl (cI, 12, .inl ge0)), ((q 3), .inl (cI, 12, .inl wt0)), ((q 4), .inl (cI, 12, .inl kp0)), ((q 5), .inl (cI, 12, .inl fo0)), ((q 6), .inr (2, [.ref (q 7)])), ((q 7), .inl (cI, 7, .inl po0)), ((q 8), .inr (0, [.ref (q 9), .int ns0])), ((q 9), .inl (cI, 49, .inl na0)), ((q 10), .inr (0, [.ref (q 11), .int ts0])), ((q 11), .inl (cI, 49, .inl ta0)), ((q 12), .inr (1, [.ref (q 13), .ref (q 14), .ref (q 15), .int ms0])), ((q 13), .inl (cJ, 49, .inr (.inl mx0))), ((q 14), .inl (cI, 7, .inl ch0)), ((q 15), .inl (cJ, 128, .inr (.inl mo0))), ((q 16), .inl (cI, 10, .inl fs0))]) (w2 := fun u => (wX cI cJ q  nc0 lc0 le0 ge0 wt0 kp0 fo0 po0 na0 ns0 ta0 ts0 mx0 ch0 mo0 ms0 fs0)) [] [0, 1, 2, 3, 4, 5, 6, 7, 8, 9, 10, 11, 12, 13, 14, 15, 16] [0, 1, 2, 3, 4, 5, 6, 7, 8, 9, 10, 11, 12, 13, 14, 15, 16] (va_runS (As := [.int y2]) (rest := []) ⟨hx, hb, hml, hown, hts⟩ (kX3_isWay l dC dI cI cJ  H.size   y2 (fw_be hq)) (va_cwS 1 hts gX3_cut_X3_isWay rfl rfl rfl (by decide +kernel) ⟨Nat.le_of_ble_eq_true rfl, Nat.le_of_ble_eq_true rfl⟩) ⟨fw_blind, fun U hU hW => fw_pre hPc hK hDc hN hU hW⟩ rfl rfl hl.1 rfl (lv_room (Nat.le_of_ble_eq_true rfl)) dX3_cut_9 ⟨Nat.zero_le _, Nat.zero_le _⟩) hP hD hS hA rfl rfl (by decide) (by decide) (by decide) (fun _ => rfl) (fun r_5 u H locs hw hP hD hS => ?_)
    obtain ⟨hw, n_7⟩ := hw
    have hq := fw_bs hw hq
    try dsimp only at hq
    refine lv_if_ne (tgt := 18) hx hb dX3_cut_12 (by decide) (fun c_8 => ?_) (fun c_8 => ?_)
    · have hq := fw_if c_8 hq
      refine lv_aload_n hx hb dX3_cut_18 rfl (lv_at hl 0 rfl) ?_
      refine lv_iload_n hx hb dX3_cut_19 rfl (lv_at hl 1 rfl) ?_
      refine lv_iload_n hx hb dX3_cut_20 rfl (lv_at hl 2 rfl) ?_
      have hPc := hP.sub (ws' := (wX cI cJ q  nc0 lc0 le0 ge0 wt0 kp0 fo0 po0 na0 ns0 ta0 ts0 mx0 ch0 mo0 ms0 fs0)) [0, 1, 2, 3, 4, 5, 6, 7, 8, 9, 10, 11, 12, 13, 14, 15, 16] rfl
      have hDc := hD.sub (ws' := (wX cI cJ q  nc0 lc0 le0 ge0 wt0 kp0 fo0 po0 na0 ns0 ta0 ts0 mx0 ch0 mo0 ms0 fs0)) [0, 1, 2, 3, 4, 5, 6, 7, 8, 9, 10, 11, 12, 13, 14, 15, 16] (by decide) rfl
      refine fw_ci (wr := []) (w2 := fun u => (wX cI cJ q  nc0 lc0 le0 ge0 wt0 kp0 fo0 po0 na0 ns0 ta0 ts0 mx0 ch0 mo0 ms0 fs0)) [0, 1, 2, 3, 4, 5, 6, 7, 8, 9, 10, 11, 12, 13, 14, 15, 16] [] [0, 1, 2, 3, 4, 5, 6, 7, 8, 9, 10, 11, 12, 13, 14, 15, 16] (va_runV (b := (q 0)) (As := [.int y1, .int y2]) (rest := []) ⟨hx, hb, hml, hown, hts⟩ (kX3_weightAcross l dC dI cI cJ q H.size  nc0 lc0 le0 ge0 wt0 kp0 fo0 po0 na0 ns0 ta0 ts0 mx0 ch0 mo0 ms0 fs0 y1 y2 (fw_be hq)) (cwV 2 hts gX3_cut_X3_weightAcross rfl rfl rfl (by decide +kernel) ⟨Nat.le_of_ble_eq_true rfl, Nat.le_of_ble_eq_true rfl⟩) ⟨fw_blind, va_recv hK hPc (ci := 3) (q0 := 0) rfl rfl, fun U hU hW => fw_pre hPc hK hDc hN hU hW⟩ rfl rfl hl.1 rfl (lv_room (Nat.le_of_ble_eq_true rfl)) dX3_cut_21 ⟨Nat.zero_le _, Nat.zero_le _⟩) hP hD hS hA rfl rfl (by decide) (by decide) (by decide) (fun _ => rfl) (fun r_9 u H locs hw hP hD hS => ?_)
      have hq := fw_bs hw hq
      try dsimp only at hq
      exact W.iret (v := r_9) hx hb hr (fun t ht hW => ⟨⟨r_9, (), rfl, hz.trans hq.symm, by rw [ht]; exact hP, hD⟩, hS.F ht⟩) hS.2.2 dX3_cut_24
    · have hq := fw_it c_8 hq
      refine lv_bipush (v := (-3 : Int32)) hx hb dX3_cut_15 (by decide) ?_
      exact W.iret (v := (-3 : Int32)) hx hb hr (fun t ht hW => ⟨⟨(-3 : Int32), (), rfl, hz.trans hq.symm, by rw [ht]; exact hP, hD⟩, hS.F ht⟩) hS.2.2 dX3_cut_17
set_option maxHeartbeats 4000000 in
set_option maxRecDepth 100000 in
theorem kX3_worst (l : Launch) (dC : Nat → ClassId) (dI : Nat → Nat → Nat) (cI cJ : ClassId) (q : Nat → Nat) (sz : Nat)  (nc0 : Int32) (lc0 : Int32) (le0 : Nat → Int32) (ge0 : Nat → Int32) (wt0 : Nat → Int32) (kp0 : Nat → Int32) (fo0 : Nat → Int32) (po0 : Nat → Int32) (na0 : Nat → Int32) (ns0 : Int32) (ta0 : Nat → Int32) (ts0 : Int32) (mx0 : Nat → Int64) (ch0 : Nat → Int32) (mo0 : Nat → Int64) (ms0 : Int32) (fs0 : Nat → Int32) (y1 : Int32) (hd : ∃ z, pX3_worst nc0 lc0 le0 ge0 wt0 kp0 y1 = some z) : Met l yX3_worst wsX3_worst ({ frames := 2, cells := 0, slots := 0, locals := 46 }) (fw_Pc (dC, dI) (fw_tys cI cJ) (wX cI cJ q  nc0 lc0 le0 ge0 wt0 kp0 fo0 po0 na0 ns0 ta0 ts0 mx0 ch0 mo0 ms0 fs0) ([.ref (q 0), .int y1] : List Value) sz) (va_Qi (fun (r : Int32) (u : Unit) => pX3_worst nc0 lc0 le0 ge0 wt0 kp0 y1 = some r) (fun u t => fw_B (dC, dI) (va_A (wX cI cJ q  nc0 lc0 le0 ge0 wt0 kp0 fo0 po0 na0 ns0 ta0 ts0 mx0 ch0 mo0 ms0 fs0) sz) (wX cI cJ q  nc0 lc0 le0 ge0 wt0 kp0 fo0 po0 na0 ns0 ta0 ts0 mx0 ch0 mo0 ms0 fs0) t) (va_A (wX cI cJ q  nc0 lc0 le0 ge0 wt0 kp0 fo0 po0 na0 ns0 ta0 ts0 mx0 ch0 mo0 ms0 fs0) sz)) 0 0 (va_A (wX cI cJ q  nc0 lc0 le0 ge0 wt0 kp0 fo0 po0 na0 ns0 ta0 ts0 mx0 ch0 mo0 ms0 fs0) sz) := by
  obtain ⟨z, hz⟩ := hd
  refine Met.ofW (cc := cX3_worst) (maxL := 10) (ret := (some .int)) (by decide) rfl ?_
  intro p e s m args below meth c s₁ B hml hv
  obtain ⟨rfl, hsz, hP, hK, hD0, hN⟩ := hv
  have hx := B.exec
  have hb := B.bytes
  have hr := B.returns
  have hts := atoms_spec (ws := wsX3_worst) B.pre
  have hown : s.vm.findClass RX3 = some m.cls := findClass_of_methodNamed B.named
  have hlocks := B.notSynchronized
  subst hsz
  have hD := hD0.self (sz := s.heap.size)
  generalize hAe : va_A (wX cI cJ q  nc0 lc0 le0 ge0 wt0 kp0 fo0 po0 na0 ns0 ta0 ts0 mx0 ch0 mo0 ms0 fs0) s.heap.size = A at hD ⊢
  have hA : ∀ q : Nat, s.heap.size ≤ q → A q := fun q h => by rw [← hAe]; exact Or.inr h
  have L33 : ∀ (x2 : Int32) (e9 : Int32 × Int32 × Int32 × Int32), (∀ (x3' : Int32) (x4' : Int32) (x5' : Int32) (x6' : Int32) (H : Heap) (locs : List Loc) (ls : Array Slot), e9 = (x3', x4', x5', x6') → va_P (dC, dI) vwCl (wX cI cJ q  nc0 lc0 le0 ge0 wt0 kp0 fo0 po0 na0 ns0 ta0 ts0 mx0 ch0 mo0 ms0 fs0) H → va_D A (wX cI cJ q  nc0 lc0 le0 ge0 wt0 kp0 fo0 po0 na0 ns0 ta0 ts0 mx0 ch0 mo0 ms0 fs0) → va_S A s.heap H locs → lv_has ls 10 [(0, .ref (q 0)), (2, .int x2), (3, .int x3'), (4, .int x4'), (5, .int x5'), (6, .int x6')] → W p l e (headSpec wsX3_worst ({ frames := 2, cells := 0, slots := 0, locals := 46 })).room s m ([.ref (q 0), .int y1] : List Value).toArray below meth c H locs 0 0 (MQ below (va_Qi (fun (r : Int32) (u : Unit) => pX3_worst nc0 lc0 le0 ge0 wt0 kp0 y1 = some r) (fun u t => fw_B (dC, dI) A (wX cI cJ q  nc0 lc0 le0 ge0 wt0 kp0 fo0 po0 na0 ns0 ta0 ts0 mx0 ch0 mo0 ms0 fs0) t) A) ([.ref (q 0), .int y1] : List Value).toArray s 0 0 A) (F0 m 115 ls [])) → ∀ (n9 : Nat) (x3 : Int32) (x4 : Int32) (x5 : Int32) (x6 : Int32) (H : Heap) (locs : List Loc) (ls : Array Slot), fw_wh (pX3_worst_33 x2 nc0 lc0 le0 ge0 wt0 kp0) n9 (x3, x4, x5, x6) = some e9 → va_P (dC, dI) vwCl (wX cI cJ q  nc0 lc0 le0 ge0 wt0 kp0 fo0 po0 na0 ns0 ta0 ts0 mx0 ch0 mo0 ms0 fs0) H → va_D A (wX cI cJ q  nc0 lc0 le0 ge0 wt0 kp0 fo0 po0 na0 ns0 ta0 ts0 mx0 ch0 mo0 ms0 fs0) → va_S A s.heap H locs → lv_has ls 10 [(0, .ref (q 0)), (2, .int x2), (3, .int x3), (4, .int x4), (5, .int x5), (6, .int x6)] → W p l e (headSpec wsX3_worst ({ frames := 2, cells := 0, slots := 0, locals := 46 })).room s m ([.ref (q 0), .int y1] : List Value).toArray below meth c H locs 0 0 (MQ below (va_Qi (fun (r : Int32) (u : Unit) => pX3_worst nc0 lc0 le0 ge0 wt0 kp0 y1 = some r) (fun u t => fw_B (dC, dI) A (wX cI cJ q  nc0 lc0 le0 ge0 wt0 kp0 fo0 po0 na0 ns0 ta0 ts0 mx0 ch0 mo0 ms0 fs0) t) A) ([.ref (q 0), .int y1] : List Value).toArray s 0 0 A) (F0 m 33 ls []) := by
    intro x2 e9 hkk n9
    induction n9 with
    | zero => exact fun _ _ _ _ H locs ls hq => (fw_wh0 hq).elim
    | succ n9 ih =>
      intro x3 x4 x5 x6 H locs ls hq hP hD hS hl
      obtain ⟨w9, hq, hwI, hwE⟩ := fw_wh1 hq
      dsimp only [pX3_worst_33] at hq
      refine lv_iload hx hb dX3_worst_33 (lv_at hl 5 rfl) ?_
      refine lv_aload_n hx hb dX3_worst_35 rfl (lv_at hl 0 rfl) ?_
      have hPc := hP.sub (ws' := (wX cI cJ q  nc0 lc0 le0 ge0 wt0 kp0 fo0 po0 na0 ns0 ta0 ts0 mx0 ch0 mo0 ms0 fs0)) [0, 1, 2, 3, 4, 5, 6, 7, 8, 9, 10, 11, 12, 13, 14, 15, 16] rfl
      have hDc := hD.sub (ws' := (wX cI cJ q  nc0 lc0 le0 ge0 wt0 kp0 fo0 po0 na0 ns0 ta0 ts0 mx0 ch0 mo0 ms0 fs0)) [0, 1, 2, 3, 4, 5, 6, 7, 8, 9, 10, 11, 12, 13, 14, 15, 16] (by decide) rfl
      refine fw_ci (wr := []) (w2 := fun u => (wX cI cJ q  nc0 lc0 le0 ge0 wt0 kp0 fo0 po0 na0 ns0 ta0 ts0 mx0 ch0 mo0 ms0 fs0)) [0, 1, 2, 3, 4, 5, 6, 7, 8, 9, 10, 11, 12, 13, 14, 15, 16] [] [0, 1, 2, 3, 4, 5, 6, 7, 8, 9, 10, 11, 12, 13, 14, 15, 16] (va_runV (b := (q 0)) (As := []) (rest := [.int x6]) ⟨hx, hb, hml, hown, hts⟩ (kX3_allNodes l dC dI cI cJ q H.size  nc0 lc0 le0 ge0 wt0 kp0 fo0 po0 na0 ns0 ta0 ts0 mx0 ch0 mo0 ms0 fs0  (fw_be hq)) (cwV 0 hts gX3_worst_X3_allNodes rfl rfl rfl (by decide +kernel) ⟨Nat.le_of_ble_eq_true rfl, Nat.le_of_ble_eq_true rfl⟩) ⟨fw_blind, va_recv hK hPc (ci := 3) (q0 := 0) rfl rfl, fun U hU hW => fw_pre hPc hK hDc hN hU hW⟩ rfl rfl hl.1 rfl (lv_room (Nat.le_of_ble_eq_true rfl)) dX3_worst_36 ⟨Nat.zero_le _, Nat.zero_le _⟩) hP hD hS hA rfl rfl (by decide) (by decide) (by decide) (fun _ => rfl) (fun r_6 u H locs hw hP hD hS => ?_)
      have hq := fw_bs hw hq
      try dsimp only at hq
      refine lv_icmp_ge (tgt := 115) hx hb dX3_worst_39 (by decide) (fun c_8 => ?_) (fun c_8 => ?_)
      · have hq := fw_it c_8 hq
        exact hkk x3 x4 x5 x6 H locs ls (hwE _ (Option.some.inj hq).symm) hP hD hS (lv_sub hl [0, 1, 2, 3, 4, 5] rfl)
      · have hq := fw_if c_8 hq
        refine lv_aload_n hx hb dX3_worst_42 rfl (lv_at hl 0 rfl) ?_
        refine lv_iload hx hb dX3_worst_43 (lv_at hl 5 rfl) ?_
        refine lv_iconst (v := (0 : Int32)) hx hb dX3_worst_45 (by decide) ?_
        have hPc := hP.sub (ws' := (wX cI cJ q  nc0 lc0 le0 ge0 wt0 kp0 fo0 po0 na0 ns0 ta0 ts0 mx0 ch0 mo0 ms0 fs0)) [0, 1, 2, 3, 4, 5, 6, 7, 8, 9, 10, 11, 12, 13, 14, 15, 16] rfl
        have hDc := hD.sub (ws' := (wX cI cJ q  nc0 lc0 le0 ge0 wt0 kp0 fo0 po0 na0 ns0 ta0 ts0 mx0 ch0 mo0 ms0 fs0)) [0, 1, 2, 3, 4, 5, 6, 7, 8, 9, 10, 11, 12, 13, 14, 15, 16] (by decide) rfl
        refine fw_ci (wr := []) (w2 := fun u => (wX cI cJ q  nc0 lc0 le0 ge0 wt0 kp0 fo0 po0 na0 ns0 ta0 ts0 mx0 ch0 mo0 ms0 fs0)) [0, 1, 2, 3, 4, 5, 6, 7, 8, 9, 10, 11, 12, 13, 14, 15, 16] [] [0, 1, 2, 3, 4, 5, 6, 7, 8, 9, 10, 11, 12, 13, 14, 15, 16] (va_runV (b := (q 0)) (As := [.int x6, .int (0 : Int32)]) (rest := []) ⟨hx, hb, hml, hown, hts⟩ (kX3_weightAcross l dC dI cI cJ q H.size  nc0 lc0 le0 ge0 wt0 kp0 fo0 po0 na0 ns0 ta0 ts0 mx0 ch0 mo0 ms0 fs0 x6 (0 : Int32) (fw_be hq)) (cwV 2 hts gX3_worst_X3_weightAcross rfl rfl rfl (by decide +kernel) ⟨Nat.le_of_ble_eq_true rfl, Nat.le_of_ble_eq_true rfl⟩) ⟨fw_blind, va_recv hK hPc (ci := 3) (q0 := 0) rfl rfl, fun U hU hW => fw_pre hPc hK hDc hN hU hW⟩ rfl rfl hl.1 rfl (lv_room (Nat.le_of_ble_eq_true rfl)) dX3_worst_46 ⟨Nat.zero_le _, Nat.zero_le _⟩) hP hD hS hA rfl rfl (by decide) (by decide) (by decide) (fun _ => rfl) (fun r_9 u H locs hw hP hD hS => ?_)
        have hq := fw_bs hw hq
        try dsimp only at hq
        refine lv_istore (lv' := [(7, .int r_9), (0, .ref (q 0)), (2, .int x2), (3, .int x3), (4, .int x4), (5, .int x5), (6, .int x6)]) hx hb dX3_worst_49 hl (by decide) rfl (fun ls hl => ?_)
        refine lv_aload_n hx hb dX3_worst_51 rfl (lv_at hl 1 rfl) ?_
        refine lv_iload hx hb dX3_worst_52 (lv_at hl 6 rfl) ?_
        refine lv_iconst (v := (1 : Int32)) hx hb dX3_worst_54 (by decide) ?_
        have hPc := hP.sub (ws' := (wX cI cJ q  nc0 lc0 le0 ge0 wt0 kp0 fo0 po0 na0 ns0 ta0 ts0 mx0 ch0 mo0 ms0 fs0)) [0, 1, 2, 3, 4, 5, 6, 7, 8, 9, 10, 11, 12, 13, 14, 15, 16] rfl
        have hDc := hD.sub (ws' := (wX cI cJ q  nc0 lc0 le0 ge0 wt0 kp0 fo0 po0 na0 ns0 ta0 ts0 mx0 ch0 mo0 ms0 fs0)) [0, 1, 2, 3, 4, 5, 6, 7, 8, 9, 10, 11, 12, 13, 14, 15, 16] (by decide) rfl
        refine fw_ci (wr := []) (w2 := fun u => (wX cI cJ q  nc0 lc0 le0 ge0 wt0 kp0 fo0 po0 na0 ns0 ta0 ts0 mx0 ch0 mo0 ms0 fs0)) [0, 1, 2, 3, 4, 5, 6, 7, 8, 9, 10, 11, 12, 13, 14, 15, 16] [] [0, 1, 2, 3, 4, 5, 6, 7, 8, 9, 10, 11, 12, 13, 14, 15, 16] (va_runV (b := (q 0)) (As := [.int x6, .int (1 : Int32)]) (rest := []) ⟨hx, hb, hml, hown, hts⟩ (kX3_weightAcross l dC dI cI cJ q H.size  nc0 lc0 le0 ge0 wt0 kp0 fo0 po0 na0 ns0 ta0 ts0 mx0 ch0 mo0 ms0 fs0 x6 (1 : Int32) (fw_be hq)) (cwV 2 hts gX3_worst_X3_weightAcross rfl rfl rfl (by decide +kernel) ⟨Nat.le_of_ble_eq_true rfl, Nat.le_of_ble_eq_true rfl⟩) ⟨fw_blind, va_recv hK hPc (ci := 3) (q0 := 0) rfl rfl, fun U hU hW => fw_pre hPc hK hDc hN hU hW⟩ rfl rfl hl.1 rfl (lv_room (Nat.le_of_ble_eq_true rfl)) dX3_worst_55 ⟨Nat.zero_le _, Nat.zero_le _⟩) hP hD hS hA rfl rfl (by decide) (by decide) (by decide) (fun _ => rfl) (fun r_11 u H locs hw hP hD hS => ?_)
        have hq := fw_bs hw hq
        try dsimp only at hq
        refine lv_istore (lv' := [(8, .int r_11), (7, .int r_9), (0, .ref (q 0)), (2, .int x2), (3, .int x3), (4, .int x4), (5, .int x5), (6, .int x6)]) hx hb dX3_worst_58 hl (by decide) rfl (fun ls hl => ?_)
        refine lv_iload_n hx hb dX3_worst_60 rfl (lv_at hl 3 rfl) ?_
        refine lv_iload hx hb dX3_worst_61 (lv_at hl 0 rfl) ?_
        refine lv_iload hx hb dX3_worst_63 (lv_at hl 6 rfl) ?_
        refine lv_imul hx hb dX3_worst_65 ?_
        refine lv_iload hx hb dX3_worst_66 (lv_at hl 5 rfl) ?_
        refine lv_iload hx hb dX3_worst_68 (lv_at hl 1 rfl) ?_
        refine lv_imul hx hb dX3_worst_70 ?_
        refine lv_isub hx hb dX3_worst_71 ?_
        refine lv_imul hx hb dX3_worst_72 ?_
        refine lv_if_le (tgt := 80) hx hb dX3_worst_73 (by decide) (fun c_13 => ?_) (fun c_13 => ?_)
        · have hq := fw_it c_13 hq
          refine lv_iconst (v := (0 : Int32)) hx hb dX3_worst_80 (by decide) ?_
          refine lv_istore (lv' := [(9, .int (0 : Int32)), (8, .int r_11), (7, .int r_9), (0, .ref (q 0)), (2, .int x2), (3, .int x3), (4, .int x4), (5, .int x5), (6, .int x6)]) hx hb dX3_worst_81 hl (by decide) rfl (fun ls hl => ?_)
          refine lv_iload hx hb dX3_worst_83 (lv_at hl 2 rfl) ?_
          refine lv_if_le (tgt := 109) hx hb dX3_worst_85 (by decide) (fun c_14 => ?_) (fun c_14 => ?_)
          · have hq := fw_it c_14 hq
            refine lv_iinc (v := (x6 + (2 : Int32))) (lv' := [(6, .int (x6 + (2 : Int32))), (9, .int (0 : Int32)), (8, .int r_11), (7, .int r_9), (0, .ref (q 0)), (2, .int x2), (3, .int x3), (4, .int x4), (5, .int x5)]) hx hb dX3_worst_109 hl (k := 8) rfl rfl (by decide) rfl (fun ls hl => ?_)
            refine lv_goto (tgt := 33) hx hb dX3_worst_112 (by decide) ?_
            exact ih x3 x4 x5 (x6 + (2 : Int32)) H locs ls (hwI _ (Option.some.inj hq).symm) hP hD hS (lv_sub hl [4, 5, 6, 7, 8, 0] rfl)
          · have hq := fw_if c_14 hq
            refine lv_iload_n hx hb dX3_worst_88 rfl (lv_at hl 5 rfl) ?_
            refine lv_iconst (v := (-1 : Int32)) hx hb dX3_worst_89 (by decide) ?_
            refine lv_icmp_eq (tgt := 98) hx hb dX3_worst_90 (by decide) (fun c_15 => ?_) (fun c_15 => ?_)
            · have hq := fw_it c_15 hq
              refine lv_iload hx hb dX3_worst_98 (lv_at hl 8 rfl) ?_
              refine lv_istore_n (lv' := [(3, .int x6), (9, .int (0 : Int32)), (8, .int r_11), (7, .int r_9), (0, .ref (q 0)), (2, .int x2), (4, .int x4), (5, .int x5), (6, .int x6)]) hx hb dX3_worst_100 rfl hl (by decide) rfl (fun ls hl => ?_)
              refine lv_iload hx hb dX3_worst_101 (lv_at hl 2 rfl) ?_
              refine lv_istore (lv' := [(4, .int r_11), (3, .int x6), (9, .int (0 : Int32)), (8, .int r_11), (7, .int r_9), (0, .ref (q 0)), (2, .int x2), (5, .int x5), (6, .int x6)]) hx hb dX3_worst_103 hl (by decide) rfl (fun ls hl => ?_)
              refine lv_iload hx hb dX3_worst_105 (lv_at hl 4 rfl) ?_
              refine lv_istore (lv' := [(5, .int r_9), (4, .int r_11), (3, .int x6), (9, .int (0 : Int32)), (8, .int r_11), (7, .int r_9), (0, .ref (q 0)), (2, .int x2), (6, .int x6)]) hx hb dX3_worst_107 hl (by decide) rfl (fun ls hl => ?_)
              refine lv_iinc (v := (x6 + (2 : Int32))) (lv' := [(6, .int (x6 + (2 : Int32))), (5, .int r_9), (4, .int r_11), (3, .int x6), (9, .int (0 : Int32)), (8, .int r_11), (7, .int r_9), (0, .ref (q 0)), (2, .int x2)]) hx hb dX3_worst_109 hl (k := 8) rfl rfl (by decide) rfl (fun ls hl => ?_)
              refine lv_goto (tgt := 33) hx hb dX3_worst_112 (by decide) ?_
              exact ih x6 r_11 r_9 (x6 + (2 : Int32)) H locs ls (hwI _ (Option.some.inj hq).symm) hP hD hS (lv_sub hl [7, 8, 3, 2, 1, 0] rfl)
            · have hq := fw_if c_15 hq
              refine lv_iload hx hb dX3_worst_93 (lv_at hl 0 rfl) ?_
              refine lv_if_eq (tgt := 109) hx hb dX3_worst_95 (by decide) (fun c_16 => ?_) (fun c_16 => ?_)
              · have hq := fw_it c_16 hq
                refine lv_iinc (v := (x6 + (2 : Int32))) (lv' := [(6, .int (x6 + (2 : Int32))), (9, .int (0 : Int32)), (8, .int r_11), (7, .int r_9), (0, .ref (q 0)), (2, .int x2), (3, .int x3), (4, .int x4), (5, .int x5)]) hx hb dX3_worst_109 hl (k := 8) rfl rfl (by decide) rfl (fun ls hl => ?_)
                refine lv_goto (tgt := 33) hx hb dX3_worst_112 (by decide) ?_
                exact ih x3 x4 x5 (x6 + (2 : Int32)) H locs ls (hwI _ (Option.some.inj hq).symm) hP hD hS (lv_sub hl [4, 5, 6, 7, 8, 0] rfl)
              · have hq := fw_if c_16 hq
                refine lv_iload hx hb dX3_worst_98 (lv_at hl 8 rfl) ?_
                refine lv_istore_n (lv' := [(3, .int x6), (9, .int (0 : Int32)), (8, .int r_11), (7, .int r_9), (0, .ref (q 0)), (2, .int x2), (4, .int x4), (5, .int x5), (6, .int x6)]) hx hb dX3_worst_100 rfl hl (by decide) rfl (fun ls hl => ?_)
                refine lv_iload hx hb dX3_worst_101 (lv_at hl 2 rfl) ?_
                refine lv_istore (lv' := [(4, .int r_11), (3, .int x6), (9, .int (0 : Int32)), (8, .int r_11), (7, .int r_9), (0, .ref (q 0)), (2, .int x2), (5, .int x5), (6, .int x6)]) hx hb dX3_worst_103 hl (by decide) rfl (fun ls hl => ?_)
                refine lv_iload hx hb dX3_worst_105 (lv_at hl 4 rfl) ?_
                refine lv_istore (lv' := [(5, .int r_9), (4, .int r_11), (3, .int x6), (9, .int (0 : Int32)), (8, .int r_11), (7, .int r_9), (0, .ref (q 0)), (2, .int x2), (6, .int x6)]) hx hb dX3_worst_107 hl (by decide) rfl (fun ls hl => ?_)
                refine lv_iinc (v := (x6 + (2 : Int32))) (lv' := [(6, .int (x6 + (2 : Int32))), (5, .int r_9), (4, .int r_11), (3, .int x6), (9, .int (0 : Int32)), (8, .int r_11), (7, .int r_9), (0, .ref (q 0)), (2, .int x2)]) hx hb dX3_worst_109 hl (k := 8) rfl rfl (by decide) rfl (fun ls hl => ?_)
                refine lv_goto (tgt := 33) hx hb dX3_worst_112 (by decide) ?_
                exact ih x6 r_11 r_9 (x6 + (2 : Int32)) H locs ls (hwI _ (Option.some.inj hq).symm) hP hD hS (lv_sub hl [7, 8, 3, 2, 1, 0] rfl)
        · have hq := fw_if c_13 hq
          refine lv_iconst (v := (1 : Int32)) hx hb dX3_worst_76 (by decide) ?_
          refine lv_goto (tgt := 81) hx hb dX3_worst_77 (by decide) ?_
          refine lv_istore (lv' := [(9, .int (1 : Int32)), (8, .int r_11), (7, .int r_9), (0, .ref (q 0)), (2, .int x2), (3, .int x3), (4, .int x4), (5, .int x5), (6, .int x6)]) hx hb dX3_worst_81 hl (by decide) rfl (fun ls hl => ?_)
          refine lv_iload hx hb dX3_worst_83 (lv_at hl 2 rfl) ?_
          refine lv_if_le (tgt := 109) hx hb dX3_worst_85 (by decide) (fun c_17 => ?_) (fun c_17 => ?_)
          · have hq := fw_it c_17 hq
            refine lv_iinc (v := (x6 + (2 : Int32))) (lv' := [(6, .int (x6 + (2 : Int32))), (9, .int (1 : Int32)), (8, .int r_11), (7, .int r_9), (0, .ref (q 0)), (2, .int x2), (3, .int x3), (4, .int x4), (5, .int x5)]) hx hb dX3_worst_109 hl (k := 8) rfl rfl (by decide) rfl (fun ls hl => ?_)
            refine lv_goto (tgt := 33) hx hb dX3_worst_112 (by decide) ?_
            exact ih x3 x4 x5 (x6 + (2 : Int32)) H locs ls (hwI _ (Option.some.inj hq).symm) hP hD hS (lv_sub hl [4, 5, 6, 7, 8, 0] rfl)
          · have hq := fw_if c_17 hq
            refine lv_iload_n hx hb dX3_worst_88 rfl (lv_at hl 5 rfl) ?_
            refine lv_iconst (v := (-1 : Int32)) hx hb dX3_worst_89 (by decide) ?_
            refine lv_icmp_eq (tgt := 98) hx hb dX3_worst_90 (by decide) (fun c_18 => ?_) (fun c_18 => ?_)
            · have hq := fw_it c_18 hq
              refine lv_iload hx hb dX3_worst_98 (lv_at hl 8 rfl) ?_
              refine lv_istore_n (lv' := [(3, .int x6), (9, .int (1 : Int32)), (8, .int r_11), (7, .int r_9), (0, .ref (q 0)), (2, .int x2), (4, .int x4), (5, .int x5), (6, .int x6)]) hx hb dX3_worst_100 rfl hl (by decide) rfl (fun ls hl => ?_)
              refine lv_iload hx hb dX3_worst_101 (lv_at hl 2 rfl) ?_
              refine lv_istore (lv' := [(4, .int r_11), (3, .int x6), (9, .int (1 : Int32)), (8, .int r_11), (7, .int r_9), (0, .ref (q 0)), (2, .int x2), (5, .int x5), (6, .int x6)]) hx hb dX3_worst_103 hl (by decide) rfl (fun ls hl => ?_)
              refine lv_iload hx hb dX3_worst_105 (lv_at hl 4 rfl) ?_
              refine lv_istore (lv' := [(5, .int r_9), (4, .int r_11), (3, .int x6), (9, .int (1 : Int32)), (8, .int r_11), (7, .int r_9), (0, .ref (q 0)), (2, .int x2), (6, .int x6)]) hx hb dX3_worst_107 hl (by decide) rfl (fun ls hl => ?_)
              refine lv_iinc (v := (x6 + (2 : Int32))) (lv' := [(6, .int (x6 + (2 : Int32))), (5, .int r_9), (4, .int r_11), (3, .int x6), (9, .int (1 : Int32)), (8, .int r_11), (7, .int r_9), (0, .ref (q 0)), (2, .int x2)]) hx hb dX3_worst_109 hl (k := 8) rfl rfl (by decide) rfl (fun ls hl => ?_)
              refine lv_goto (tgt := 33) hx hb dX3_worst_112 (by decide) ?_
              exact ih x6 r_11 r_9 (x6 + (2 : Int32)) H locs ls (hwI _ (Option.some.inj hq).symm) hP hD hS (lv_sub hl [7, 8, 3, 2, 1, 0] rfl)
            · have hq := fw_if c_18 hq
              refine lv_iload hx hb dX3_worst_93 (lv_at hl 0 rfl) ?_
              refine lv_if_eq (tgt := 109) hx hb dX3_worst_95 (by decide) (fun c_19 => ?_) (fun c_19 => ?_)
              · have hq := fw_it c_19 hq
                refine lv_iinc (v := (x6 + (2 : Int32))) (lv' := [(6, .int (x6 + (2 : Int32))), (9, .int (1 : Int32)), (8, .int r_11), (7, .int r_9), (0, .ref (q 0)), (2, .int x2), (3, .int x3), (4, .int x4), (5, .int x5)]) hx hb dX3_worst_109 hl (k := 8) rfl rfl (by decide) rfl (fun ls hl => ?_)
                refine lv_goto (tgt := 33) hx hb dX3_worst_112 (by decide) ?_
                exact ih x3 x4 x5 (x6 + (2 : Int32)) H locs ls (hwI _ (Option.some.inj hq).symm) hP hD hS (lv_sub hl [4, 5, 6, 7, 8, 0] rfl)
              · have hq := fw_if c_19 hq
                refine lv_iload hx hb dX3_worst_98 (lv_at hl 8 rfl) ?_
                refine lv_istore_n (lv' := [(3, .int x6), (9, .int (1 : Int32)), (8, .int r_11), (7, .int r_9), (0, .ref (q 0)), (2, .int x2), (4, .int x4), (5, .int x5), (6, .int x6)]) hx hb dX3_worst_100 rfl hl (by decide) rfl (fun ls hl => ?_)
                refine lv_iload hx hb dX3_worst_101 (lv_at hl 2 rfl) ?_
                refine lv_istore (lv' := [(4, .int r_11), (3, .int x6), (9, .int (1 : Int32)), (8, .int r_11), (7, .int r_9), (0, .ref (q 0)), (2, .int x2), (5, .int x5), (6, .int x6)]) hx hb dX3_worst_103 hl (by decide) rfl (fun ls hl => ?_)
                refine lv_iload hx hb dX3_worst_105 (lv_at hl 4 rfl) ?_
                refine lv_istore (lv' := [(5, .int r_9), (4, .int r_11), (3, .int x6), (9, .int (1 : Int32)), (8, .int r_11), (7, .int r_9), (0, .ref (q 0)), (2, .int x2), (6, .int x6)]) hx hb dX3_worst_107 hl (by decide) rfl (fun ls hl => ?_)
                refine lv_iinc (v := (x6 + (2 : Int32))) (lv' := [(6, .int (x6 + (2 : Int32))), (5, .int r_9), (4, .int r_11), (3, .int x6), (9, .int (1 : Int32)), (8, .int r_11), (7, .int r_9), (0, .ref (q 0)), (2, .int x2)]) hx hb dX3_worst_109 hl (k := 8) rfl rfl (by decide) rfl (fun ls hl => ?_)
                refine lv_goto (tgt := 33) hx hb dX3_worst_112 (by decide) ?_
                exact ih x6 r_11 r_9 (x6 + (2 : Int32)) H locs ls (hwI _ (Option.some.inj hq).symm) hP hD hS (lv_sub hl [7, 8, 3, 2, 1, 0] rfl)
  have hq := hz
  dsimp only [pX3_worst] at hq
  have hl := lv_entry (([.ref (q 0), .int y1] : List Value)) (n := 10) (Nat.le_of_ble_eq_true rfl)
  rw [lg_entry_eq]
  generalize (lg_sl (([.ref (q 0), .int y1] : List Value)) ++ List.replicate (10 - (lg_sl (([.ref (q 0), .int y1] : List Value))).length) Slot.unset).toArray = ls at hl ⊢
  have hl : lv_has ls 10 [(0, .ref (q 0)), (1, .int y1)] := hl
  obtain ⟨H, hHe⟩ : ∃ H : Heap, H = s.heap := ⟨_, rfl⟩
  obtain ⟨locs, hLe⟩ : ∃ L : List Loc, L = [] := ⟨_, rfl⟩
  have hP : va_P (dC, dI) vwCl (wX cI cJ q  nc0 lc0 le0 ge0 wt0 kp0 fo0 po0 na0 ns0 ta0 ts0 mx0 ch0 mo0 ms0 fs0) H := by rw [hHe]; exact hP
  have hS : va_S A s.heap H locs := by rw [hHe, hLe]; exact va_S.rf
  show W p l e (headSpec wsX3_worst ({ frames := 2, cells := 0, slots := 0, locals := 46 })).room s m ([.ref (q 0), .int y1] : List Value).toArray below meth c s.heap [] 0 0 (MQ below (va_Qi (fun (r : Int32) (u : Unit) => pX3_worst nc0 lc0 le0 ge0 wt0 kp0 y1 = some r) (fun u t => fw_B (dC, dI) A (wX cI cJ q  nc0 lc0 le0 ge0 wt0 kp0 fo0 po0 na0 ns0 ta0 ts0 mx0 ch0 mo0 ms0 fs0) t) A) ([.ref (q 0), .int y1] : List Value).toArray s 0 0 A) (F0 m 0 ls [])
  rw [← hHe, ← hLe]
  refine lv_iload_n hx hb dX3_worst_0 rfl (lv_at hl 1 rfl) ?_
  refine lv_iconst (v := (0 : Int32)) hx hb dX3_worst_1 (by decide) ?_
  refine lv_iconst (v := (1 : Int32)) hx hb dX3_worst_2 (by decide) ?_
  have hPc := hP.sub (ws' := (w0 cI cJ   )) [] rfl
  have hDc := hD.sub (ws' := (w0 cI cJ   )) [] (by decide) rfl
  refine fw_ci (wr := [((q 0), .inr (3, [.int nc0, .int lc0, .ref (q 1), .ref (q 2), .ref (q 3), .ref (q 4), .ref (q 5), .ref (q 6), .ref (q 8), .ref (q 10), .ref (q 12), .ref (q 16)])), ((q 1), .inl (cI, 12, .inl le0)), ((q 2), .inl (cI, 12, .inl ge0)), ((q 3), .inl (cI, 12, .inl wt0)), ((q 4), .inl (cI, 12, .inl kp0)), ((q 5), .inl (cI, 12, .inl fo0)), ((q 6), .inr (2, [.ref (q 7)])), ((q 7), .inl (cI, 7, .inl po0)), ((q 8), .inr (0, [.ref (q 9), .int ns0])), ((q 9), .inl (cI, 49, .inl na0)), ((q 10), .inr (0, [.ref (q 11), .int ts0])), ((q 11), .inl (cI, 49, .inl ta0)), ((q 12), .inr (1, [.ref (q 13), .ref (q 14), .ref (q 15), .int ms0])), ((q 13), .inl (cJ, 49, .inr (.inl mx0))), ((q 14), .inl (cI, 7, .inl ch0)), ((q 15), .inl (cJ, 128, .inr (.inl mo0))), ((q 16), .inl (cI, 10, .inl fs0))]) (w2 := fun u => (wX cI cJ q  nc0 lc0 le0 ge0 wt0 kp0 fo0 po0 na0 ns0 ta0 ts0 mx0 ch0 mo0 ms0 fs0)) [] [0, 1, 2, 3, 4, 5, 6, 7, 8, 9, 10, 11, 12, 13, 14, 15, 16] [0, 1, 2, 3, 4, 5, 6, 7, 8, 9, 10, 11, 12, 13, 14, 15, 16] (va_runS (As := [.int y1, .int (0 : Int32), .int (1 : Int32)]) (rest := []) ⟨hx, hb, hml, hown, hts⟩ (kX3_isWithin l dC dI cI cJ  H.size   y1 (0 : Int32) (1 : Int32) (fw_be hq)) (va_cwS 3 hts gX3_worst_X3_isWithin rfl rfl rfl (by decide +kernel) ⟨Nat.le_of_ble_eq_true rfl, Nat.le_of_ble_eq_true rfl⟩) ⟨fw_blind, fun U hU hW => fw_pre hPc hK hDc hN hU hW⟩ rfl rfl hl.1 rfl (lv_room (Nat.le_of_ble_eq_true rfl)) dX3_worst_3 ⟨Nat.zero_le _, Nat.zero_le _⟩) hP hD hS hA rfl rfl (by decide) (by decide) (by decide) (fun _ => rfl) (fun r_1 u H locs hw hP hD hS => ?_)
  obtain ⟨hw, n_3⟩ := hw
  have hq := fw_bs hw hq
  try dsimp only at hq
  refine lv_if_ne (tgt := 12) hx hb dX3_worst_6 (by decide) (fun c_4 => ?_) (fun c_4 => ?_)
  · have hq := fw_if c_4 hq
    refine lv_iload_n hx hb dX3_worst_12 rfl (lv_at hl 1 rfl) ?_
    refine lv_if_ne (tgt := 20) hx hb dX3_worst_13 (by decide) (fun c_5 => ?_) (fun c_5 => ?_)
    · have hq := fw_if c_5 hq
      refine lv_iconst (v := (1 : Int32)) hx hb dX3_worst_20 (by decide) ?_
      refine lv_istore_n (lv' := [(2, .int (1 : Int32)), (0, .ref (q 0)), (1, .int y1)]) hx hb dX3_worst_21 rfl hl (by decide) rfl (fun ls hl => ?_)
      refine lv_iconst (v := (-1 : Int32)) hx hb dX3_worst_22 (by decide) ?_
      refine lv_istore_n (lv' := [(3, .int (-1 : Int32)), (2, .int (1 : Int32)), (0, .ref (q 0)), (1, .int y1)]) hx hb dX3_worst_23 rfl hl (by decide) rfl (fun ls hl => ?_)
      refine lv_iconst (v := (0 : Int32)) hx hb dX3_worst_24 (by decide) ?_
      refine lv_istore (lv' := [(4, .int (0 : Int32)), (3, .int (-1 : Int32)), (2, .int (1 : Int32)), (0, .ref (q 0)), (1, .int y1)]) hx hb dX3_worst_25 hl (by decide) rfl (fun ls hl => ?_)
      refine lv_iconst (v := (0 : Int32)) hx hb dX3_worst_27 (by decide) ?_
      refine lv_istore (lv' := [(5, .int (0 : Int32)), (4, .int (0 : Int32)), (3, .int (-1 : Int32)), (2, .int (1 : Int32)), (0, .ref (q 0)), (1, .int y1)]) hx hb dX3_worst_28 hl (by decide) rfl (fun ls hl => ?_)
      refine lv_iconst (v := (1 : Int32)) hx hb dX3_worst_30 (by decide) ?_
      refine lv_istore (lv' := [(6, .int (1 : Int32)), (5, .int (0 : Int32)), (4, .int (0 : Int32)), (3, .int (-1 : Int32)), (2, .int (1 : Int32)), (0, .ref (q 0)), (1, .int y1)]) hx hb dX3_worst_31 hl (by decide) rfl (fun ls hl => ?_)
      obtain ⟨e_24, hw, hq⟩ := fw_bb hq
      refine L33 (1 : Int32) e_24 (fun x3_20 x4_21 x5_22 x6_23 H locs ls he hP hD hS hl => ?_) fw_N (-1 : Int32) (0 : Int32) (0 : Int32) (1 : Int32) H locs ls hw hP hD hS (lv_sub hl [5, 4, 3, 2, 1, 0] rfl)
      subst he
      try dsimp only at hq
      refine lv_iload_n hx hb dX3_worst_115 rfl (lv_at hl 2 rfl) ?_
      exact W.iret (v := x3_20) hx hb hr (fun t ht hW => ⟨⟨x3_20, (), rfl, hz.trans hq.symm, by rw [ht]; exact hP, hD⟩, hS.F ht⟩) hS.2.2 dX3_worst_116
    · have hq := fw_it c_5 hq
      refine lv_iconst (v := (-1 : Int32)) hx hb dX3_worst_16 (by decide) ?_
      refine lv_goto (tgt := 21) hx hb dX3_worst_17 (by decide) ?_
      refine lv_istore_n (lv' := [(2, .int (-1 : Int32)), (0, .ref (q 0)), (1, .int y1)]) hx hb dX3_worst_21 rfl hl (by decide) rfl (fun ls hl => ?_)
      refine lv_iconst (v := (-1 : Int32)) hx hb dX3_worst_22 (by decide) ?_
      refine lv_istore_n (lv' := [(3, .int (-1 : Int32)), (2, .int (-1 : Int32)), (0, .ref (q 0)), (1, .int y1)]) hx hb dX3_worst_23 rfl hl (by decide) rfl (fun ls hl => ?_)
      refine lv_iconst (v := (0 : Int32)) hx hb dX3_worst_24 (by decide) ?_
      refine lv_istore (lv' := [(4, .int (0 : Int32)), (3, .int (-1 : Int32)), (2, .int (-1 : Int32)), (0, .ref (q 0)), (1, .int y1)]) hx hb dX3_worst_25 hl (by decide) rfl (fun ls hl => ?_)
      refine lv_iconst (v := (0 : Int32)) hx hb dX3_worst_27 (by decide) ?_
      refine lv_istore (lv' := [(5, .int (0 : Int32)), (4, .int (0 : Int32)), (3, .int (-1 : Int32)), (2, .int (-1 : Int32)), (0, .ref (q 0)), (1, .int y1)]) hx hb dX3_worst_28 hl (by decide) rfl (fun ls hl => ?_)
      refine lv_iconst (v := (1 : Int32)) hx hb dX3_worst_30 (by decide) ?_
      refine lv_istore (lv' := [(6, .int (1 : Int32)), (5, .int (0 : Int32)), (4, .int (0 : Int32)), (3, .int (-1 : Int32)), (2, .int (-1 : Int32)), (0, .ref (q 0)), (1, .int y1)]) hx hb dX3_worst_31 hl (by decide) rfl (fun ls hl => ?_)
      obtain ⟨e_29, hw, hq⟩ := fw_bb hq
      refine L33 (-1 : Int32) e_29 (fun x3_25 x4_26 x5_27 x6_28 H locs ls he hP hD hS hl => ?_) fw_N (-1 : Int32) (0 : Int32) (0 : Int32) (1 : Int32) H locs ls hw hP hD hS (lv_sub hl [5, 4, 3, 2, 1, 0] rfl)
      subst he
      try dsimp only at hq
      refine lv_iload_n hx hb dX3_worst_115 rfl (lv_at hl 2 rfl) ?_
      exact W.iret (v := x3_25) hx hb hr (fun t ht hW => ⟨⟨x3_25, (), rfl, hz.trans hq.symm, by rw [ht]; exact hP, hD⟩, hS.F ht⟩) hS.2.2 dX3_worst_116
  · have hq := fw_it c_4 hq
    refine lv_bipush (v := (-3 : Int32)) hx hb dX3_worst_9 (by decide) ?_
    exact W.iret (v := (-3 : Int32)) hx hb hr (fun t ht hW => ⟨⟨(-3 : Int32), (), rfl, hz.trans hq.symm, by rw [ht]; exact hP, hD⟩, hS.F ht⟩) hS.2.2 dX3_worst_11
set_option maxHeartbeats 4000000 in
set_option maxRecDepth 100000 in
theorem kX3_promise (l : Launch) (dC : Nat → ClassId) (dI : Nat → Nat → Nat) (cI cJ : ClassId) (q : Nat → Nat) (sz : Nat)  (nc0 : Int32) (lc0 : Int32) (le0 : Nat → Int32) (ge0 : Nat → Int32) (wt0 : Nat → Int32) (kp0 : Nat → Int32) (fo0 : Nat → Int32) (po0 : Nat → Int32) (na0 : Nat → Int32) (ns0 : Int32) (ta0 : Nat → Int32) (ts0 : Int32) (mx0 : Nat → Int64) (ch0 : Nat → Int32) (mo0 : Nat → Int64) (ms0 : Int32) (fs0 : Nat → Int32) (y1 : Int32) (y2 : Int32) (hd : ∃ z, pX3_promise nc0 lc0 le0 ge0 wt0 kp0 y1 y2 = some z) : Met l yX3_promise wsX3_promise ({ frames := 2, cells := 0, slots := 0, locals := 46 }) (fw_Pc (dC, dI) (fw_tys cI cJ) (wX cI cJ q  nc0 lc0 le0 ge0 wt0 kp0 fo0 po0 na0 ns0 ta0 ts0 mx0 ch0 mo0 ms0 fs0) ([.ref (q 0), .int y1, .int y2] : List Value) sz) (va_Qi (fun (r : Int32) (u : Unit) => pX3_promise nc0 lc0 le0 ge0 wt0 kp0 y1 y2 = some r) (fun u t => fw_B (dC, dI) (va_A (wX cI cJ q  nc0 lc0 le0 ge0 wt0 kp0 fo0 po0 na0 ns0 ta0 ts0 mx0 ch0 mo0 ms0 fs0) sz) (wX cI cJ q  nc0 lc0 le0 ge0 wt0 kp0 fo0 po0 na0 ns0 ta0 ts0 mx0 ch0 mo0 ms0 fs0) t) (va_A (wX cI cJ q  nc0 lc0 le0 ge0 wt0 kp0 fo0 po0 na0 ns0 ta0 ts0 mx0 ch0 mo0 ms0 fs0) sz)) 0 0 (va_A (wX cI cJ q  nc0 lc0 le0 ge0 wt0 kp0 fo0 po0 na0 ns0 ta0 ts0 mx0 ch0 mo0 ms0 fs0) sz) := by
  obtain ⟨z, hz⟩ := hd
  refine Met.ofW (cc := cX3_promise) (maxL := 6) (ret := (some .int)) (by decide) rfl ?_
  intro p e s m args below meth c s₁ B hml hv
  obtain ⟨rfl, hsz, hP, hK, hD0, hN⟩ := hv
  have hx := B.exec
  have hb := B.bytes
  have hr := B.returns
  have hts := atoms_spec (ws := wsX3_promise) B.pre
  have hown : s.vm.findClass RX3 = some m.cls := findClass_of_methodNamed B.named
  have hlocks := B.notSynchronized
  subst hsz
  have hD := hD0.self (sz := s.heap.size)
  generalize hAe : va_A (wX cI cJ q  nc0 lc0 le0 ge0 wt0 kp0 fo0 po0 na0 ns0 ta0 ts0 mx0 ch0 mo0 ms0 fs0) s.heap.size = A at hD ⊢
  have hA : ∀ q : Nat, s.heap.size ≤ q → A q := fun q h => by rw [← hAe]; exact Or.inr h
  have L24 : ∀ (x1 : Int32) (x2 : Int32) (e9 : (Int32) ⊕ (Int32)), (∀ (x3' : Int32) (H : Heap) (locs : List Loc) (ls : Array Slot), e9 = .inl x3' → va_P (dC, dI) vwCl (wX cI cJ q  nc0 lc0 le0 ge0 wt0 kp0 fo0 po0 na0 ns0 ta0 ts0 mx0 ch0 mo0 ms0 fs0) H → va_D A (wX cI cJ q  nc0 lc0 le0 ge0 wt0 kp0 fo0 po0 na0 ns0 ta0 ts0 mx0 ch0 mo0 ms0 fs0) → va_S A s.heap H locs → lv_has ls 6 [(0, .ref (q 0)), (1, .int x1), (2, .int x2), (3, .int x3')] → W p l e (headSpec wsX3_promise ({ frames := 2, cells := 0, slots := 0, locals := 46 })).room s m ([.ref (q 0), .int y1, .int y2] : List Value).toArray below meth c H locs 0 0 (MQ below (va_Qi (fun (r : Int32) (u : Unit) => pX3_promise nc0 lc0 le0 ge0 wt0 kp0 y1 y2 = some r) (fun u t => fw_B (dC, dI) A (wX cI cJ q  nc0 lc0 le0 ge0 wt0 kp0 fo0 po0 na0 ns0 ta0 ts0 mx0 ch0 mo0 ms0 fs0) t) A) ([.ref (q 0), .int y1, .int y2] : List Value).toArray s 0 0 A) (F0 m 82 ls [])) → (∀ r9, e9 = .inr r9 → some r9 = some z) → ∀ (n9 : Nat) (x3 : Int32) (H : Heap) (locs : List Loc) (ls : Array Slot), fw_wh (pX3_promise_24 x1 x2 nc0 lc0 le0 ge0 wt0 kp0) n9 x3 = some e9 → va_P (dC, dI) vwCl (wX cI cJ q  nc0 lc0 le0 ge0 wt0 kp0 fo0 po0 na0 ns0 ta0 ts0 mx0 ch0 mo0 ms0 fs0) H → va_D A (wX cI cJ q  nc0 lc0 le0 ge0 wt0 kp0 fo0 po0 na0 ns0 ta0 ts0 mx0 ch0 mo0 ms0 fs0) → va_S A s.heap H locs → lv_has ls 6 [(0, .ref (q 0)), (1, .int x1), (2, .int x2), (3, .int x3)] → W p l e (headSpec wsX3_promise ({ frames := 2, cells := 0, slots := 0, locals := 46 })).room s m ([.ref (q 0), .int y1, .int y2] : List Value).toArray below meth c H locs 0 0 (MQ below (va_Qi (fun (r : Int32) (u : Unit) => pX3_promise nc0 lc0 le0 ge0 wt0 kp0 y1 y2 = some r) (fun u t => fw_B (dC, dI) A (wX cI cJ q  nc0 lc0 le0 ge0 wt0 kp0 fo0 po0 na0 ns0 ta0 ts0 mx0 ch0 mo0 ms0 fs0) t) A) ([.ref (q 0), .int y1, .int y2] : List Value).toArray s 0 0 A) (F0 m 24 ls []) := by
    intro x1 x2 e9 hkk hr0 n9
    induction n9 with
    | zero => exact fun _ H locs ls hq => (fw_wh0 hq).elim
    | succ n9 ih =>
      intro x3 H locs ls hq hP hD hS hl
      obtain ⟨w9, hq, hwI, hwE⟩ := fw_wh1 hq
      dsimp only [pX3_promise_24] at hq
      refine lv_iload_n hx hb dX3_promise_24 rfl (lv_at hl 3 rfl) ?_
      refine lv_aload_n hx hb dX3_promise_25 rfl (lv_at hl 0 rfl) ?_
      have hPc := hP.sub (ws' := (wX cI cJ q  nc0 lc0 le0 ge0 wt0 kp0 fo0 po0 na0 ns0 ta0 ts0 mx0 ch0 mo0 ms0 fs0)) [0, 1, 2, 3, 4, 5, 6, 7, 8, 9, 10, 11, 12, 13, 14, 15, 16] rfl
      have hDc := hD.sub (ws' := (wX cI cJ q  nc0 lc0 le0 ge0 wt0 kp0 fo0 po0 na0 ns0 ta0 ts0 mx0 ch0 mo0 ms0 fs0)) [0, 1, 2, 3, 4, 5, 6, 7, 8, 9, 10, 11, 12, 13, 14, 15, 16] (by decide) rfl
      refine fw_ci (wr := []) (w2 := fun u => (wX cI cJ q  nc0 lc0 le0 ge0 wt0 kp0 fo0 po0 na0 ns0 ta0 ts0 mx0 ch0 mo0 ms0 fs0)) [0, 1, 2, 3, 4, 5, 6, 7, 8, 9, 10, 11, 12, 13, 14, 15, 16] [] [0, 1, 2, 3, 4, 5, 6, 7, 8, 9, 10, 11, 12, 13, 14, 15, 16] (va_runV (b := (q 0)) (As := []) (rest := [.int x3]) ⟨hx, hb, hml, hown, hts⟩ (kX3_allNodes l dC dI cI cJ q H.size  nc0 lc0 le0 ge0 wt0 kp0 fo0 po0 na0 ns0 ta0 ts0 mx0 ch0 mo0 ms0 fs0  (fw_be hq)) (cwV 0 hts gX3_promise_X3_allNodes rfl rfl rfl (by decide +kernel) ⟨Nat.le_of_ble_eq_true rfl, Nat.le_of_ble_eq_true rfl⟩) ⟨fw_blind, va_recv hK hPc (ci := 3) (q0 := 0) rfl rfl, fun U hU hW => fw_pre hPc hK hDc hN hU hW⟩ rfl rfl hl.1 rfl (lv_room (Nat.le_of_ble_eq_true rfl)) dX3_promise_26 ⟨Nat.zero_le _, Nat.zero_le _⟩) hP hD hS hA rfl rfl (by decide) (by decide) (by decide) (fun _ => rfl) (fun r_9 u H locs hw hP hD hS => ?_)
      have hq := fw_bs hw hq
      try dsimp only at hq
      refine lv_icmp_ge (tgt := 82) hx hb dX3_promise_29 (by decide) (fun c_11 => ?_) (fun c_11 => ?_)
      · have hq := fw_it c_11 hq
        exact hkk x3 H locs ls (hwE _ (Option.some.inj hq).symm) hP hD hS (lv_sub hl [0, 1, 2, 3] rfl)
      · have hq := fw_if c_11 hq
        refine lv_aload_n hx hb dX3_promise_32 rfl (lv_at hl 0 rfl) ?_
        refine lv_iload_n hx hb dX3_promise_33 rfl (lv_at hl 3 rfl) ?_
        refine lv_iconst (v := (0 : Int32)) hx hb dX3_promise_34 (by decide) ?_
        have hPc := hP.sub (ws' := (wX cI cJ q  nc0 lc0 le0 ge0 wt0 kp0 fo0 po0 na0 ns0 ta0 ts0 mx0 ch0 mo0 ms0 fs0)) [0, 1, 2, 3, 4, 5, 6, 7, 8, 9, 10, 11, 12, 13, 14, 15, 16] rfl
        have hDc := hD.sub (ws' := (wX cI cJ q  nc0 lc0 le0 ge0 wt0 kp0 fo0 po0 na0 ns0 ta0 ts0 mx0 ch0 mo0 ms0 fs0)) [0, 1, 2, 3, 4, 5, 6, 7, 8, 9, 10, 11, 12, 13, 14, 15, 16] (by decide) rfl
        refine fw_ci (wr := []) (w2 := fun u => (wX cI cJ q  nc0 lc0 le0 ge0 wt0 kp0 fo0 po0 na0 ns0 ta0 ts0 mx0 ch0 mo0 ms0 fs0)) [0, 1, 2, 3, 4, 5, 6, 7, 8, 9, 10, 11, 12, 13, 14, 15, 16] [] [0, 1, 2, 3, 4, 5, 6, 7, 8, 9, 10, 11, 12, 13, 14, 15, 16] (va_runV (b := (q 0)) (As := [.int x3, .int (0 : Int32)]) (rest := []) ⟨hx, hb, hml, hown, hts⟩ (kX3_weightAcross l dC dI cI cJ q H.size  nc0 lc0 le0 ge0 wt0 kp0 fo0 po0 na0 ns0 ta0 ts0 mx0 ch0 mo0 ms0 fs0 x3 (0 : Int32) (fw_be hq)) (cwV 2 hts gX3_promise_X3_weightAcross rfl rfl rfl (by decide +kernel) ⟨Nat.le_of_ble_eq_true rfl, Nat.le_of_ble_eq_true rfl⟩) ⟨fw_blind, va_recv hK hPc (ci := 3) (q0 := 0) rfl rfl, fun U hU hW => fw_pre hPc hK hDc hN hU hW⟩ rfl rfl hl.1 rfl (lv_room (Nat.le_of_ble_eq_true rfl)) dX3_promise_35 ⟨Nat.zero_le _, Nat.zero_le _⟩) hP hD hS hA rfl rfl (by decide) (by decide) (by decide) (fun _ => rfl) (fun r_12 u H locs hw hP hD hS => ?_)
        have hq := fw_bs hw hq
        try dsimp only at hq
        refine lv_istore (lv' := [(4, .int r_12), (0, .ref (q 0)), (1, .int x1), (2, .int x2), (3, .int x3)]) hx hb dX3_promise_38 hl (by decide) rfl (fun ls hl => ?_)
        refine lv_aload_n hx hb dX3_promise_40 rfl (lv_at hl 1 rfl) ?_
        refine lv_iload_n hx hb dX3_promise_41 rfl (lv_at hl 4 rfl) ?_
        refine lv_iconst (v := (1 : Int32)) hx hb dX3_promise_42 (by decide) ?_
        have hPc := hP.sub (ws' := (wX cI cJ q  nc0 lc0 le0 ge0 wt0 kp0 fo0 po0 na0 ns0 ta0 ts0 mx0 ch0 mo0 ms0 fs0)) [0, 1, 2, 3, 4, 5, 6, 7, 8, 9, 10, 11, 12, 13, 14, 15, 16] rfl
        have hDc := hD.sub (ws' := (wX cI cJ q  nc0 lc0 le0 ge0 wt0 kp0 fo0 po0 na0 ns0 ta0 ts0 mx0 ch0 mo0 ms0 fs0)) [0, 1, 2, 3, 4, 5, 6, 7, 8, 9, 10, 11, 12, 13, 14, 15, 16] (by decide) rfl
        refine fw_ci (wr := []) (w2 := fun u => (wX cI cJ q  nc0 lc0 le0 ge0 wt0 kp0 fo0 po0 na0 ns0 ta0 ts0 mx0 ch0 mo0 ms0 fs0)) [0, 1, 2, 3, 4, 5, 6, 7, 8, 9, 10, 11, 12, 13, 14, 15, 16] [] [0, 1, 2, 3, 4, 5, 6, 7, 8, 9, 10, 11, 12, 13, 14, 15, 16] (va_runV (b := (q 0)) (As := [.int x3, .int (1 : Int32)]) (rest := []) ⟨hx, hb, hml, hown, hts⟩ (kX3_weightAcross l dC dI cI cJ q H.size  nc0 lc0 le0 ge0 wt0 kp0 fo0 po0 na0 ns0 ta0 ts0 mx0 ch0 mo0 ms0 fs0 x3 (1 : Int32) (fw_be hq)) (cwV 2 hts gX3_promise_X3_weightAcross rfl rfl rfl (by decide +kernel) ⟨Nat.le_of_ble_eq_true rfl, Nat.le_of_ble_eq_true rfl⟩) ⟨fw_blind, va_recv hK hPc (ci := 3) (q0 := 0) rfl rfl, fun U hU hW => fw_pre hPc hK hDc hN hU hW⟩ rfl rfl hl.1 rfl (lv_room (Nat.le_of_ble_eq_true rfl)) dX3_promise_43 ⟨Nat.zero_le _, Nat.zero_le _⟩) hP hD hS hA rfl rfl (by decide) (by decide) (by decide) (fun _ => rfl) (fun r_14 u H locs hw hP hD hS => ?_)
        have hq := fw_bs hw hq
        try dsimp only at hq
        refine lv_istore (lv' := [(5, .int r_14), (4, .int r_12), (0, .ref (q 0)), (1, .int x1), (2, .int x2), (3, .int x3)]) hx hb dX3_promise_46 hl (by decide) rfl (fun ls hl => ?_)
        refine lv_iload_n hx hb dX3_promise_48 rfl (lv_at hl 4 rfl) ?_
        refine lv_iload hx hb dX3_promise_49 (lv_at hl 0 rfl) ?_
        refine lv_imul hx hb dX3_promise_51 ?_
        refine lv_iload_n hx hb dX3_promise_52 rfl (lv_at hl 4 rfl) ?_
        refine lv_iload_n hx hb dX3_promise_53 rfl (lv_at hl 3 rfl) ?_
        refine lv_isub hx hb dX3_promise_54 ?_
        refine lv_iload hx hb dX3_promise_55 (lv_at hl 1 rfl) ?_
        refine lv_imul hx hb dX3_promise_57 ?_
        refine lv_icmp_lt (tgt := 74) hx hb dX3_promise_58 (by decide) (fun c_16 => ?_) (fun c_16 => ?_)
        · have hq := fw_it c_16 hq
          refine lv_iconst (v := (0 : Int32)) hx hb dX3_promise_74 (by decide) ?_
          exact W.iret (v := (0 : Int32)) hx hb hr (fun t ht hW => ⟨⟨(0 : Int32), (), rfl, hz.trans (hr0 _ (hwE _ (Option.some.inj hq).symm)).symm, by rw [ht]; exact hP, hD⟩, hS.F ht⟩) hS.2.2 dX3_promise_75
        · have hq := fw_if c_16 hq
          refine lv_iload_n hx hb dX3_promise_61 rfl (lv_at hl 4 rfl) ?_
          refine lv_iload hx hb dX3_promise_62 (lv_at hl 0 rfl) ?_
          refine lv_imul hx hb dX3_promise_64 ?_
          refine lv_iload_n hx hb dX3_promise_65 rfl (lv_at hl 4 rfl) ?_
          refine lv_iload_n hx hb dX3_promise_66 rfl (lv_at hl 3 rfl) ?_
          refine lv_iadd hx hb dX3_promise_67 ?_
          refine lv_iload hx hb dX3_promise_68 (lv_at hl 1 rfl) ?_
          refine lv_imul hx hb dX3_promise_70 ?_
          refine lv_icmp_le (tgt := 76) hx hb dX3_promise_71 (by decide) (fun c_17 => ?_) (fun c_17 => ?_)
          · have hq := fw_it c_17 hq
            refine lv_iinc (v := (x3 + (2 : Int32))) (lv' := [(3, .int (x3 + (2 : Int32))), (5, .int r_14), (4, .int r_12), (0, .ref (q 0)), (1, .int x1), (2, .int x2)]) hx hb dX3_promise_76 hl (k := 5) rfl rfl (by decide) rfl (fun ls hl => ?_)
            refine lv_goto (tgt := 24) hx hb dX3_promise_79 (by decide) ?_
            exact ih (x3 + (2 : Int32)) H locs ls (hwI _ (Option.some.inj hq).symm) hP hD hS (lv_sub hl [3, 4, 5, 0] rfl)
          · have hq := fw_if c_17 hq
            refine lv_iconst (v := (0 : Int32)) hx hb dX3_promise_74 (by decide) ?_
            exact W.iret (v := (0 : Int32)) hx hb hr (fun t ht hW => ⟨⟨(0 : Int32), (), rfl, hz.trans (hr0 _ (hwE _ (Option.some.inj hq).symm)).symm, by rw [ht]; exact hP, hD⟩, hS.F ht⟩) hS.2.2 dX3_promise_75
  have hq := hz
  dsimp only [pX3_promise] at hq
  have hl := lv_entry (([.ref (q 0), .int y1, .int y2] : List Value)) (n := 6) (Nat.le_of_ble_eq_true rfl)
  rw [lg_entry_eq]
  generalize (lg_sl (([.ref (q 0), .int y1, .int y2] : List Value)) ++ List.replicate (6 - (lg_sl (([.ref (q 0), .int y1, .int y2] : List Value))).length) Slot.unset).toArray = ls at hl ⊢
  have hl : lv_has ls 6 [(0, .ref (q 0)), (1, .int y1), (2, .int y2)] := hl
  obtain ⟨H, hHe⟩ : ∃ H : Heap, H = s.heap := ⟨_, rfl⟩
  obtain ⟨locs, hLe⟩ : ∃ L : List Loc, L = [] := ⟨_, rfl⟩
  have hP : va_P (dC, dI) vwCl (wX cI cJ q  nc0 lc0 le0 ge0 wt0 kp0 fo0 po0 na0 ns0 ta0 ts0 mx0 ch0 mo0 ms0 fs0) H := by rw [hHe]; exact hP
  have hS : va_S A s.heap H locs := by rw [hHe, hLe]; exact va_S.rf
  show W p l e (headSpec wsX3_promise ({ frames := 2, cells := 0, slots := 0, locals := 46 })).room s m ([.ref (q 0), .int y1, .int y2] : List Value).toArray below meth c s.heap [] 0 0 (MQ below (va_Qi (fun (r : Int32) (u : Unit) => pX3_promise nc0 lc0 le0 ge0 wt0 kp0 y1 y2 = some r) (fun u t => fw_B (dC, dI) A (wX cI cJ q  nc0 lc0 le0 ge0 wt0 kp0 fo0 po0 na0 ns0 ta0 ts0 mx0 ch0 mo0 ms0 fs0) t) A) ([.ref (q 0), .int y1, .int y2] : List Value).toArray s 0 0 A) (F0 m 0 ls [])
  rw [← hHe, ← hLe]
  refine lv_iload_n hx hb dX3_promise_0 rfl (lv_at hl 2 rfl) ?_
  refine lv_iconst (v := (1 : Int32)) hx hb dX3_promise_1 (by decide) ?_
  refine lv_bipush (v := (20 : Int32)) hx hb dX3_promise_2 (by decide) ?_
  have hPc := hP.sub (ws' := (w0 cI cJ   )) [] rfl
  have hDc := hD.sub (ws' := (w0 cI cJ   )) [] (by decide) rfl
  refine fw_ci (wr := [((q 0), .inr (3, [.int nc0, .int lc0, .ref (q 1), .ref (q 2), .ref (q 3), .ref (q 4), .ref (q 5), .ref (q 6), .ref (q 8), .ref (q 10), .ref (q 12), .ref (q 16)])), ((q 1), .inl (cI, 12, .inl le0)), ((q 2), .inl (cI, 12, .inl ge0)), ((q 3), .inl (cI, 12, .inl wt0)), ((q 4), .inl (cI, 12, .inl kp0)), ((q 5), .inl (cI, 12, .inl fo0)), ((q 6), .inr (2, [.ref (q 7)])), ((q 7), .inl (cI, 7, .inl po0)), ((q 8), .inr (0, [.ref (q 9), .int ns0])), ((q 9), .inl (cI, 49, .inl na0)), ((q 10), .inr (0, [.ref (q 11), .int ts0])), ((q 11), .inl (cI, 49, .inl ta0)), ((q 12), .inr (1, [.ref (q 13), .ref (q 14), .ref (q 15), .int ms0])), ((q 13), .inl (cJ, 49, .inr (.inl mx0))), ((q 14), .inl (cI, 7, .inl ch0)), ((q 15), .inl (cJ, 128, .inr (.inl mo0))), ((q 16), .inl (cI, 10, .inl fs0))]) (w2 := fun u => (wX cI cJ q  nc0 lc0 le0 ge0 wt0 kp0 fo0 po0 na0 ns0 ta0 ts0 mx0 ch0 mo0 ms0 fs0)) [] [0, 1, 2, 3, 4, 5, 6, 7, 8, 9, 10, 11, 12, 13, 14, 15, 16] [0, 1, 2, 3, 4, 5, 6, 7, 8, 9, 10, 11, 12, 13, 14, 15, 16] (va_runS (As := [.int y2, .int (1 : Int32), .int (20 : Int32)]) (rest := []) ⟨hx, hb, hml, hown, hts⟩ (kX3_isWithin l dC dI cI cJ  H.size   y2 (1 : Int32) (20 : Int32) (fw_be hq)) (va_cwS 3 hts gX3_promise_X3_isWithin rfl rfl rfl (by decide +kernel) ⟨Nat.le_of_ble_eq_true rfl, Nat.le_of_ble_eq_true rfl⟩) ⟨fw_blind, fun U hU hW => fw_pre hPc hK hDc hN hU hW⟩ rfl rfl hl.1 rfl (lv_room (Nat.le_of_ble_eq_true rfl)) dX3_promise_4 ⟨Nat.zero_le _, Nat.zero_le _⟩) hP hD hS hA rfl rfl (by decide) (by decide) (by decide) (fun _ => rfl) (fun r_1 u H locs hw hP hD hS => ?_)
  obtain ⟨hw, n_3⟩ := hw
  have hq := fw_bs hw hq
  try dsimp only at hq
  refine lv_if_eq (tgt := 19) hx hb dX3_promise_7 (by decide) (fun c_4 => ?_) (fun c_4 => ?_)
  · have hq := fw_it c_4 hq
    refine lv_bipush (v := (-3 : Int32)) hx hb dX3_promise_19 (by decide) ?_
    exact W.iret (v := (-3 : Int32)) hx hb hr (fun t ht hW => ⟨⟨(-3 : Int32), (), rfl, hz.trans hq.symm, by rw [ht]; exact hP, hD⟩, hS.F ht⟩) hS.2.2 dX3_promise_21
  · have hq := fw_if c_4 hq
    refine lv_iload_n hx hb dX3_promise_10 rfl (lv_at hl 1 rfl) ?_
    refine lv_iconst (v := (1 : Int32)) hx hb dX3_promise_11 (by decide) ?_
    refine lv_iload_n hx hb dX3_promise_12 rfl (lv_at hl 2 rfl) ?_
    have hPc := hP.sub (ws' := (w0 cI cJ   )) [] rfl
    have hDc := hD.sub (ws' := (w0 cI cJ   )) [] (by decide) rfl
    refine fw_ci (wr := [((q 0), .inr (3, [.int nc0, .int lc0, .ref (q 1), .ref (q 2), .ref (q 3), .ref (q 4), .ref (q 5), .ref (q 6), .ref (q 8), .ref (q 10), .ref (q 12), .ref (q 16)])), ((q 1), .inl (cI, 12, .inl le0)), ((q 2), .inl (cI, 12, .inl ge0)), ((q 3), .inl (cI, 12, .inl wt0)), ((q 4), .inl (cI, 12, .inl kp0)), ((q 5), .inl (cI, 12, .inl fo0)), ((q 6), .inr (2, [.ref (q 7)])), ((q 7), .inl (cI, 7, .inl po0)), ((q 8), .inr (0, [.ref (q 9), .int ns0])), ((q 9), .inl (cI, 49, .inl na0)), ((q 10), .inr (0, [.ref (q 11), .int ts0])), ((q 11), .inl (cI, 49, .inl ta0)), ((q 12), .inr (1, [.ref (q 13), .ref (q 14), .ref (q 15), .int ms0])), ((q 13), .inl (cJ, 49, .inr (.inl mx0))), ((q 14), .inl (cI, 7, .inl ch0)), ((q 15), .inl (cJ, 128, .inr (.inl mo0))), ((q 16), .inl (cI, 10, .inl fs0))]) (w2 := fun u => (wX cI cJ q  nc0 lc0 le0 ge0 wt0 kp0 fo0 po0 na0 ns0 ta0 ts0 mx0 ch0 mo0 ms0 fs0)) [] [0, 1, 2, 3, 4, 5, 6, 7, 8, 9, 10, 11, 12, 13, 14, 15, 16] [0, 1, 2, 3, 4, 5, 6, 7, 8, 9, 10, 11, 12, 13, 14, 15, 16] (va_runS (As := [.int y1, .int (1 : Int32), .int y2]) (rest := []) ⟨hx, hb, hml, hown, hts⟩ (kX3_isWithin l dC dI cI cJ  H.size   y1 (1 : Int32) y2 (fw_be hq)) (va_cwS 3 hts gX3_promise_X3_isWithin rfl rfl rfl (by decide +kernel) ⟨Nat.le_of_ble_eq_true rfl, Nat.le_of_ble_eq_true rfl⟩) ⟨fw_blind, fun U hU hW => fw_pre hPc hK hDc hN hU hW⟩ rfl rfl hl.1 rfl (lv_room (Nat.le_of_ble_eq_true rfl)) dX3_promise_13 ⟨Nat.zero_le _, Nat.zero_le _⟩) hP hD hS hA rfl rfl (by decide) (by decide) (by decide) (fun _ => rfl) (fun r_5 u H locs hw hP hD hS => ?_)
    obtain ⟨hw, n_7⟩ := hw
    have hq := fw_bs hw hq
    try dsimp only at hq
    refine lv_if_ne (tgt := 22) hx hb dX3_promise_16 (by decide) (fun c_8 => ?_) (fun c_8 => ?_)
    · have hq := fw_if c_8 hq
      refine lv_iconst (v := (1 : Int32)) hx hb dX3_promise_22 (by decide) ?_
      refine lv_istore_n (lv' := [(3, .int (1 : Int32)), (0, .ref (q 0)), (1, .int y1), (2, .int y2)]) hx hb dX3_promise_23 rfl hl (by decide) rfl (fun ls hl => ?_)
      obtain ⟨e_19, hw, hq⟩ := fw_bb hq
      refine L24 y1 y2 e_19 (fun x3_18 H locs ls he hP hD hS hl => ?_) (fun r9 he => by subst he; dsimp only at hq; exact hq) fw_N (1 : Int32) H locs ls hw hP hD hS (lv_sub hl [1, 2, 3, 0] rfl)
      subst he
      try dsimp only at hq
      refine lv_iconst (v := (1 : Int32)) hx hb dX3_promise_82 (by decide) ?_
      exact W.iret (v := (1 : Int32)) hx hb hr (fun t ht hW => ⟨⟨(1 : Int32), (), rfl, hz.trans hq.symm, by rw [ht]; exact hP, hD⟩, hS.F ht⟩) hS.2.2 dX3_promise_83
    · have hq := fw_it c_8 hq
      refine lv_bipush (v := (-3 : Int32)) hx hb dX3_promise_19 (by decide) ?_
      exact W.iret (v := (-3 : Int32)) hx hb hr (fun t ht hW => ⟨⟨(-3 : Int32), (), rfl, hz.trans hq.symm, by rw [ht]; exact hP, hD⟩, hS.F ht⟩) hS.2.2 dX3_promise_21
set_option maxHeartbeats 4000000 in
set_option maxRecDepth 100000 in
theorem kX3_forests (l : Launch) (dC : Nat → ClassId) (dI : Nat → Nat → Nat) (cI cJ : ClassId) (q : Nat → Nat) (sz : Nat)  (nc0 : Int32) (lc0 : Int32) (le0 : Nat → Int32) (ge0 : Nat → Int32) (wt0 : Nat → Int32) (kp0 : Nat → Int32) (fo0 : Nat → Int32) (po0 : Nat → Int32) (na0 : Nat → Int32) (ns0 : Int32) (ta0 : Nat → Int32) (ts0 : Int32) (mx0 : Nat → Int64) (ch0 : Nat → Int32) (mo0 : Nat → Int64) (ms0 : Int32) (fs0 : Nat → Int32)  (hd : ∃ z, pX3_forests lc0 le0 ge0 fo0 po0 = some z) : Met l yX3_forests wsX3_forests ({ frames := 3, cells := 0, slots := 0, locals := 70 }) (fw_Pc (dC, dI) (fw_tys cI cJ) (wX cI cJ q  nc0 lc0 le0 ge0 wt0 kp0 fo0 po0 na0 ns0 ta0 ts0 mx0 ch0 mo0 ms0 fs0) ([.ref (q 0)] : List Value) sz) (va_Qi (fun (r : Int32) (u : (Nat → Int32) × (Nat → Int32)) => pX3_forests lc0 le0 ge0 fo0 po0 = some (r, u)) (fun u t => fw_B (dC, dI) (va_A (wX cI cJ q  nc0 lc0 le0 ge0 wt0 kp0 fo0 po0 na0 ns0 ta0 ts0 mx0 ch0 mo0 ms0 fs0) sz) (wX cI cJ q  nc0 lc0 le0 ge0 wt0 kp0 u.1 u.2 na0 ns0 ta0 ts0 mx0 ch0 mo0 ms0 fs0) t) (va_A (wX cI cJ q  nc0 lc0 le0 ge0 wt0 kp0 fo0 po0 na0 ns0 ta0 ts0 mx0 ch0 mo0 ms0 fs0) sz)) 0 0 (va_A (wX cI cJ q  nc0 lc0 le0 ge0 wt0 kp0 fo0 po0 na0 ns0 ta0 ts0 mx0 ch0 mo0 ms0 fs0) sz) := by
  obtain ⟨z, hz⟩ := hd
  refine Met.ofW (cc := cX3_forests) (maxL := 1) (ret := (some .int)) (by decide) rfl ?_
  intro p e s m args below meth c s₁ B hml hv
  obtain ⟨rfl, hsz, hP, hK, hD0, hN⟩ := hv
  have hx := B.exec
  have hb := B.bytes
  have hr := B.returns
  have hts := atoms_spec (ws := wsX3_forests) B.pre
  have hown : s.vm.findClass RX3 = some m.cls := findClass_of_methodNamed B.named
  have hlocks := B.notSynchronized
  subst hsz
  have hD := hD0.self (sz := s.heap.size)
  generalize hAe : va_A (wX cI cJ q  nc0 lc0 le0 ge0 wt0 kp0 fo0 po0 na0 ns0 ta0 ts0 mx0 ch0 mo0 ms0 fs0) s.heap.size = A at hD ⊢
  have hA : ∀ q : Nat, s.heap.size ≤ q → A q := fun q h => by rw [← hAe]; exact Or.inr h
  have hq := hz
  dsimp only [pX3_forests] at hq
  have hl := lv_entry (([.ref (q 0)] : List Value)) (n := 1) (Nat.le_of_ble_eq_true rfl)
  rw [lg_entry_eq]
  generalize (lg_sl (([.ref (q 0)] : List Value)) ++ List.replicate (1 - (lg_sl (([.ref (q 0)] : List Value))).length) Slot.unset).toArray = ls at hl ⊢
  have hl : lv_has ls 1 [(0, .ref (q 0))] := hl
  obtain ⟨H, hHe⟩ : ∃ H : Heap, H = s.heap := ⟨_, rfl⟩
  obtain ⟨locs, hLe⟩ : ∃ L : List Loc, L = [] := ⟨_, rfl⟩
  have hP : va_P (dC, dI) vwCl (wX cI cJ q  nc0 lc0 le0 ge0 wt0 kp0 fo0 po0 na0 ns0 ta0 ts0 mx0 ch0 mo0 ms0 fs0) H := by rw [hHe]; exact hP
  have hS : va_S A s.heap H locs := by rw [hHe, hLe]; exact va_S.rf
  show W p l e (headSpec wsX3_forests ({ frames := 3, cells := 0, slots := 0, locals := 70 })).room s m ([.ref (q 0)] : List Value).toArray below meth c s.heap [] 0 0 (MQ below (va_Qi (fun (r : Int32) (u : (Nat → Int32) × (Nat → Int32)) => pX3_forests lc0 le0 ge0 fo0 po0 = some (r, u)) (fun u t => fw_B (dC, dI) A (wX cI cJ q  nc0 lc0 le0 ge0 wt0 kp0 u.1 u.2 na0 ns0 ta0 ts0 mx0 ch0 mo0 ms0 fs0) t) A) ([.ref (q 0)] : List Value).toArray s 0 0 A) (F0 m 0 ls [])
  rw [← hHe, ← hLe]
  refine lv_aload_n hx hb dX3_forests_0 rfl (lv_at hl 0 rfl) ?_
  have hPc := hP.sub (ws' := (wX cI cJ q  nc0 lc0 le0 ge0 wt0 kp0 fo0 po0 na0 ns0 ta0 ts0 mx0 ch0 mo0 ms0 fs0)) [0, 1, 2, 3, 4, 5, 6, 7, 8, 9, 10, 11, 12, 13, 14, 15, 16] rfl
  have hDc := hD.sub (ws' := (wX cI cJ q  nc0 lc0 le0 ge0 wt0 kp0 fo0 po0 na0 ns0 ta0 ts0 mx0 ch0 mo0 ms0 fs0)) [0, 1, 2, 3, 4, 5, 6, 7, 8, 9, 10, 11, 12, 13, 14, 15, 16] (by decide) rfl
  refine fw_ci (wr := []) (w2 := fun u => (wX cI cJ q  nc0 lc0 le0 ge0 wt0 kp0 u.1 u.2 na0 ns0 ta0 ts0 mx0 ch0 mo0 ms0 fs0)) [0, 1, 2, 3, 4, 5, 6, 7, 8, 9, 10, 11, 12, 13, 14, 15, 16] [] [0, 1, 2, 3, 4, 5, 6, 7, 8, 9, 10, 11, 12, 13, 14, 15, 16] (va_runV (b := (q 0)) (As := []) (rest := []) ⟨hx, hb, hml, hown, hts⟩ (kX3_peelForests l dC dI cI cJ q H.size  nc0 lc0 le0 ge0 wt0 kp0 fo0 po0 na0 ns0 ta0 ts0 mx0 ch0 mo0 ms0 fs0  (fw_be hq)) (cwV 0 hts gX3_forests_X3_peelForests rfl rfl rfl (by decide +kernel) ⟨Nat.le_of_ble_eq_true rfl, Nat.le_of_ble_eq_true rfl⟩) ⟨fw_blind, va_recv hK hPc (ci := 3) (q0 := 0) rfl rfl, fun U hU hW => fw_pre hPc hK hDc hN hU hW⟩ rfl rfl hl.1 rfl (lv_room (Nat.le_of_ble_eq_true rfl)) dX3_forests_1 ⟨Nat.zero_le _, Nat.zero_le _⟩) hP hD hS hA rfl rfl (by decide) (by decide) (by decide) (fun _ => rfl) (fun r_3 u H locs hw hP hD hS => ?_)
  obtain ⟨fo_1, po_2⟩ := u
  have hq := fw_bs hw hq
  try dsimp only at hq
  have hP : va_P (dC, dI) vwCl (wX cI cJ q  nc0 lc0 le0 ge0 wt0 kp0 fo_1 po_2 na0 ns0 ta0 ts0 mx0 ch0 mo0 ms0 fs0) H := hP
  have hD : va_D A (wX cI cJ q  nc0 lc0 le0 ge0 wt0 kp0 fo_1 po_2 na0 ns0 ta0 ts0 mx0 ch0 mo0 ms0 fs0) := hD
  exact W.iret (v := r_3) hx hb hr (fun t ht hW => ⟨⟨r_3, (fo_1, po_2), rfl, hz.trans hq.symm, by rw [ht]; exact hP, hD⟩, hS.F ht⟩) hS.2.2 dX3_forests_4
set_option maxHeartbeats 4000000 in
set_option maxRecDepth 100000 in
theorem kX3_peel (l : Launch) (dC : Nat → ClassId) (dI : Nat → Nat → Nat) (cI cJ : ClassId) (q : Nat → Nat) (sz : Nat)  (nc0 : Int32) (lc0 : Int32) (le0 : Nat → Int32) (ge0 : Nat → Int32) (wt0 : Nat → Int32) (kp0 : Nat → Int32) (fo0 : Nat → Int32) (po0 : Nat → Int32) (na0 : Nat → Int32) (ns0 : Int32) (ta0 : Nat → Int32) (ts0 : Int32) (mx0 : Nat → Int64) (ch0 : Nat → Int32) (mo0 : Nat → Int64) (ms0 : Int32) (fs0 : Nat → Int32) (y1 : Int32) (hd : ∃ z, pX3_peel lc0 le0 ge0 wt0 kp0 fo0 po0 y1 = some z) : Met l yX3_peel wsX3_peel ({ frames := 3, cells := 0, slots := 0, locals := 70 }) (fw_Pc (dC, dI) (fw_tys cI cJ) (wX cI cJ q  nc0 lc0 le0 ge0 wt0 kp0 fo0 po0 na0 ns0 ta0 ts0 mx0 ch0 mo0 ms0 fs0) ([.ref (q 0), .int y1] : List Value) sz) (va_Qi (fun (r : Int32) (u : (Nat → Int32) × (Nat → Int32) × (Nat → Int32)) => pX3_peel lc0 le0 ge0 wt0 kp0 fo0 po0 y1 = some (r, u)) (fun u t => fw_B (dC, dI) (va_A (wX cI cJ q  nc0 lc0 le0 ge0 wt0 kp0 fo0 po0 na0 ns0 ta0 ts0 mx0 ch0 mo0 ms0 fs0) sz) (wX cI cJ q  nc0 lc0 le0 ge0 wt0 u.1 u.2.1 u.2.2 na0 ns0 ta0 ts0 mx0 ch0 mo0 ms0 fs0) t) (va_A (wX cI cJ q  nc0 lc0 le0 ge0 wt0 kp0 fo0 po0 na0 ns0 ta0 ts0 mx0 ch0 mo0 ms0 fs0) sz)) 0 0 (va_A (wX cI cJ q  nc0 lc0 le0 ge0 wt0 kp0 fo0 po0 na0 ns0 ta0 ts0 mx0 ch0 mo0 ms0 fs0) sz) := by
  obtain ⟨z, hz⟩ := hd
  refine Met.ofW (cc := cX3_peel) (maxL := 4) (ret := (some .int)) (by decide) rfl ?_
  intro p e s m args below meth c s₁ B hml hv
  obtain ⟨rfl, hsz, hP, hK, hD0, hN⟩ := hv
  have hx := B.exec
  have hb := B.bytes
  have hr := B.returns
  have hts := atoms_spec (ws := wsX3_peel) B.pre
  have hown : s.vm.findClass RX3 = some m.cls := findClass_of_methodNamed B.named
  have hlocks := B.notSynchronized
  subst hsz
  have hD := hD0.self (sz := s.heap.size)
  generalize hAe : va_A (wX cI cJ q  nc0 lc0 le0 ge0 wt0 kp0 fo0 po0 na0 ns0 ta0 ts0 mx0 ch0 mo0 ms0 fs0) s.heap.size = A at hD ⊢
  have hA : ∀ q : Nat, s.heap.size ≤ q → A q := fun q h => by rw [← hAe]; exact Or.inr h
  have hinX3 : ∀ w ∈ u_ws RX3 TX3 12, w ∈ wsX3_peel := by decide +kernel
  have hf13 := hts (.fieldLink RX3 13 "FewLines" "lineCount" "I") (by decide +kernel)
  have hf29 := hts (.fieldLink RX3 29 "FewLines" "forestOf" "[I") (by decide +kernel)
  have L22 : ∀ (x1 : Int32) (kp : Nat → Int32) (fo : Nat → Int32) (po : Nat → Int32) (e9 : Int32 × Int32), (∀ (x2' : Int32) (x3' : Int32) (H : Heap) (locs : List Loc) (ls : Array Slot), e9 = (x2', x3') → va_P (dC, dI) vwCl (wX cI cJ q  nc0 lc0 le0 ge0 wt0 kp fo po na0 ns0 ta0 ts0 mx0 ch0 mo0 ms0 fs0) H → va_D A (wX cI cJ q  nc0 lc0 le0 ge0 wt0 kp fo po na0 ns0 ta0 ts0 mx0 ch0 mo0 ms0 fs0) → va_S A s.heap H locs → lv_has ls 4 [(0, .ref (q 0)), (1, .int x1), (2, .int x2'), (3, .int x3')] → W p l e (headSpec wsX3_peel ({ frames := 3, cells := 0, slots := 0, locals := 70 })).room s m ([.ref (q 0), .int y1] : List Value).toArray below meth c H locs 0 0 (MQ below (va_Qi (fun (r : Int32) (u : (Nat → Int32) × (Nat → Int32) × (Nat → Int32)) => pX3_peel lc0 le0 ge0 wt0 kp0 fo0 po0 y1 = some (r, u)) (fun u t => fw_B (dC, dI) A (wX cI cJ q  nc0 lc0 le0 ge0 wt0 u.1 u.2.1 u.2.2 na0 ns0 ta0 ts0 mx0 ch0 mo0 ms0 fs0) t) A) ([.ref (q 0), .int y1] : List Value).toArray s 0 0 A) (F0 m 52 ls [])) → ∀ (n9 : Nat) (x2 : Int32) (x3 : Int32) (H : Heap) (locs : List Loc) (ls : Array Slot), fw_wh (pX3_peel_22 x1 lc0 fo) n9 (x2, x3) = some e9 → va_P (dC, dI) vwCl (wX cI cJ q  nc0 lc0 le0 ge0 wt0 kp fo po na0 ns0 ta0 ts0 mx0 ch0 mo0 ms0 fs0) H → va_D A (wX cI cJ q  nc0 lc0 le0 ge0 wt0 kp fo po na0 ns0 ta0 ts0 mx0 ch0 mo0 ms0 fs0) → va_S A s.heap H locs → lv_has ls 4 [(0, .ref (q 0)), (1, .int x1), (2, .int x2), (3, .int x3)] → W p l e (headSpec wsX3_peel ({ frames := 3, cells := 0, slots := 0, locals := 70 })).room s m ([.ref (q 0), .int y1] : List Value).toArray below meth c H locs 0 0 (MQ below (va_Qi (fun (r : Int32) (u : (Nat → Int32) × (Nat → Int32) × (Nat → Int32)) => pX3_peel lc0 le0 ge0 wt0 kp0 fo0 po0 y1 = some (r, u)) (fun u t => fw_B (dC, dI) A (wX cI cJ q  nc0 lc0 le0 ge0 wt0 u.1 u.2.1 u.2.2 na0 ns0 ta0 ts0 mx0 ch0 mo0 ms0 fs0) t) A) ([.ref (q 0), .int y1] : List Value).toArray s 0 0 A) (F0 m 22 ls []) := by
    intro x1 kp fo po e9 hkk n9
    induction n9 with
    | zero => exact fun _ _ H locs ls hq => (fw_wh0 hq).elim
    | succ n9 ih =>
      intro x2 x3 H locs ls hq hP hD hS hl
      obtain ⟨w9, hq, hwI, hwE⟩ := fw_wh1 hq
      dsimp only [pX3_peel_22] at hq
      refine lv_iload_n hx hb dX3_peel_22 rfl (lv_at hl 3 rfl) ?_
      refine lv_aload_n hx hb dX3_peel_23 rfl (lv_at hl 0 rfl) ?_
      refine va_get (D := (dC, dI)) (ci := 3) (v := .int lc0) (C := RX3) (T := TX3) (N := 12) hx hb hts hinX3 hown hK hP 0 rfl rfl 1 (by decide) hf13 (fun _ h9 => h9) rfl dX3_peel_24 ?_
      refine lv_icmp_ge (tgt := 52) hx hb dX3_peel_27 (by decide) (fun c_9 => ?_) (fun c_9 => ?_)
      · have hq := fw_it c_9 hq
        exact hkk x2 x3 H locs ls (hwE _ (Option.some.inj hq).symm) hP hD hS (lv_sub hl [0, 1, 2, 3] rfl)
      · have hq := fw_if c_9 hq
        refine lv_aload_n hx hb dX3_peel_30 rfl (lv_at hl 0 rfl) ?_
        refine va_get (D := (dC, dI)) (ci := 3) (v := .ref (q 5)) (C := RX3) (T := TX3) (N := 12) hx hb hts hinX3 hown hK hP 0 rfl rfl 6 (by decide) hf29 (fun _ h9 => h9) rfl dX3_peel_31 ?_
        refine lv_iload_n hx hb dX3_peel_34 rfl (lv_at hl 3 rfl) ?_
        obtain ⟨h_10, hq⟩ := fw_ck_s hq
        refine va_iald hx hb hK hP 5 0 rfl rfl h_10 dX3_peel_35 ?_
        refine lv_iload_n hx hb dX3_peel_36 rfl (lv_at hl 1 rfl) ?_
        refine lv_icmp_gt (tgt := 46) hx hb dX3_peel_37 (by decide) (fun c_11 => ?_) (fun c_11 => ?_)
        · have hq := fw_it c_11 hq
          refine lv_iinc (v := (x3 + (1 : Int32))) (lv' := [(3, .int (x3 + (1 : Int32))), (0, .ref (q 0)), (1, .int x1), (2, .int x2)]) hx hb dX3_peel_46 hl (k := 3) rfl rfl (by decide) rfl (fun ls hl => ?_)
          refine lv_goto (tgt := 22) hx hb dX3_peel_49 (by decide) ?_
          exact ih x2 (x3 + (1 : Int32)) H locs ls (hwI _ (Option.some.inj hq).symm) hP hD hS (lv_sub hl [1, 2, 3, 0] rfl)
        · have hq := fw_if c_11 hq
          refine lv_iload_n hx hb dX3_peel_40 rfl (lv_at hl 2 rfl) ?_
          refine lv_iconst (v := (1 : Int32)) hx hb dX3_peel_41 (by decide) ?_
          refine lv_iload_n hx hb dX3_peel_42 rfl (lv_at hl 3 rfl) ?_
          refine lv_ishl hx hb dX3_peel_43 ?_
          refine lv_ior hx hb dX3_peel_44 ?_
          refine lv_istore_n (lv' := [(2, .int (x2 ||| ((1 : Int32) <<< (x3 &&& 31)))), (0, .ref (q 0)), (1, .int x1), (3, .int x3)]) hx hb dX3_peel_45 rfl hl (by decide) rfl (fun ls hl => ?_)
          refine lv_iinc (v := (x3 + (1 : Int32))) (lv' := [(3, .int (x3 + (1 : Int32))), (2, .int (x2 ||| ((1 : Int32) <<< (x3 &&& 31)))), (0, .ref (q 0)), (1, .int x1)]) hx hb dX3_peel_46 hl (k := 3) rfl rfl (by decide) rfl (fun ls hl => ?_)
          refine lv_goto (tgt := 22) hx hb dX3_peel_49 (by decide) ?_
          exact ih (x2 ||| ((1 : Int32) <<< (x3 &&& 31))) (x3 + (1 : Int32)) H locs ls (hwI _ (Option.some.inj hq).symm) hP hD hS (lv_sub hl [2, 3, 1, 0] rfl)
  have hq := hz
  dsimp only [pX3_peel] at hq
  have hl := lv_entry (([.ref (q 0), .int y1] : List Value)) (n := 4) (Nat.le_of_ble_eq_true rfl)
  rw [lg_entry_eq]
  generalize (lg_sl (([.ref (q 0), .int y1] : List Value)) ++ List.replicate (4 - (lg_sl (([.ref (q 0), .int y1] : List Value))).length) Slot.unset).toArray = ls at hl ⊢
  have hl : lv_has ls 4 [(0, .ref (q 0)), (1, .int y1)] := hl
  obtain ⟨H, hHe⟩ : ∃ H : Heap, H = s.heap := ⟨_, rfl⟩
  obtain ⟨locs, hLe⟩ : ∃ L : List Loc, L = [] := ⟨_, rfl⟩
  have hP : va_P (dC, dI) vwCl (wX cI cJ q  nc0 lc0 le0 ge0 wt0 kp0 fo0 po0 na0 ns0 ta0 ts0 mx0 ch0 mo0 ms0 fs0) H := by rw [hHe]; exact hP
  have hS : va_S A s.heap H locs := by rw [hHe, hLe]; exact va_S.rf
  show W p l e (headSpec wsX3_peel ({ frames := 3, cells := 0, slots := 0, locals := 70 })).room s m ([.ref (q 0), .int y1] : List Value).toArray below meth c s.heap [] 0 0 (MQ below (va_Qi (fun (r : Int32) (u : (Nat → Int32) × (Nat → Int32) × (Nat → Int32)) => pX3_peel lc0 le0 ge0 wt0 kp0 fo0 po0 y1 = some (r, u)) (fun u t => fw_B (dC, dI) A (wX cI cJ q  nc0 lc0 le0 ge0 wt0 u.1 u.2.1 u.2.2 na0 ns0 ta0 ts0 mx0 ch0 mo0 ms0 fs0) t) A) ([.ref (q 0), .int y1] : List Value).toArray s 0 0 A) (F0 m 0 ls [])
  rw [← hHe, ← hLe]
  refine lv_iload_n hx hb dX3_peel_0 rfl (lv_at hl 1 rfl) ?_
  refine lv_iconst (v := (0 : Int32)) hx hb dX3_peel_1 (by decide) ?_
  refine lv_bipush (v := (12 : Int32)) hx hb dX3_peel_2 (by decide) ?_
  have hPc := hP.sub (ws' := (w0 cI cJ   )) [] rfl
  have hDc := hD.sub (ws' := (w0 cI cJ   )) [] (by decide) rfl
  refine fw_ci (wr := [((q 0), .inr (3, [.int nc0, .int lc0, .ref (q 1), .ref (q 2), .ref (q 3), .ref (q 4), .ref (q 5), .ref (q 6), .ref (q 8), .ref (q 10), .ref (q 12), .ref (q 16)])), ((q 1), .inl (cI, 12, .inl le0)), ((q 2), .inl (cI, 12, .inl ge0)), ((q 3), .inl (cI, 12, .inl wt0)), ((q 4), .inl (cI, 12, .inl kp0)), ((q 5), .inl (cI, 12, .inl fo0)), ((q 6), .inr (2, [.ref (q 7)])), ((q 7), .inl (cI, 7, .inl po0)), ((q 8), .inr (0, [.ref (q 9), .int ns0])), ((q 9), .inl (cI, 49, .inl na0)), ((q 10), .inr (0, [.ref (q 11), .int ts0])), ((q 11), .inl (cI, 49, .inl ta0)), ((q 12), .inr (1, [.ref (q 13), .ref (q 14), .ref (q 15), .int ms0])), ((q 13), .inl (cJ, 49, .inr (.inl mx0))), ((q 14), .inl (cI, 7, .inl ch0)), ((q 15), .inl (cJ, 128, .inr (.inl mo0))), ((q 16), .inl (cI, 10, .inl fs0))]) (w2 := fun u => (wX cI cJ q  nc0 lc0 le0 ge0 wt0 kp0 fo0 po0 na0 ns0 ta0 ts0 mx0 ch0 mo0 ms0 fs0)) [] [0, 1, 2, 3, 4, 5, 6, 7, 8, 9, 10, 11, 12, 13, 14, 15, 16] [0, 1, 2, 3, 4, 5, 6, 7, 8, 9, 10, 11, 12, 13, 14, 15, 16] (va_runS (As := [.int y1, .int (0 : Int32), .int (12 : Int32)]) (rest := []) ⟨hx, hb, hml, hown, hts⟩ (kX3_isWithin l dC dI cI cJ  H.size   y1 (0 : Int32) (12 : Int32) (fw_be hq)) (va_cwS 3 hts gX3_peel_X3_isWithin rfl rfl rfl (by decide +kernel) ⟨Nat.le_of_ble_eq_true rfl, Nat.le_of_ble_eq_true rfl⟩) ⟨fw_blind, fun U hU hW => fw_pre hPc hK hDc hN hU hW⟩ rfl rfl hl.1 rfl (lv_room (Nat.le_of_ble_eq_true rfl)) dX3_peel_4 ⟨Nat.zero_le _, Nat.zero_le _⟩) hP hD hS hA rfl rfl (by decide) (by decide) (by decide) (fun _ => rfl) (fun r_1 u H locs hw hP hD hS => ?_)
  obtain ⟨hw, n_3⟩ := hw
  have hq := fw_bs hw hq
  try dsimp only at hq
  refine lv_if_ne (tgt := 13) hx hb dX3_peel_7 (by decide) (fun c_4 => ?_) (fun c_4 => ?_)
  · have hq := fw_if c_4 hq
    refine lv_aload_n hx hb dX3_peel_13 rfl (lv_at hl 0 rfl) ?_
    have hPc := hP.sub (ws' := (wX cI cJ q  nc0 lc0 le0 ge0 wt0 kp0 fo0 po0 na0 ns0 ta0 ts0 mx0 ch0 mo0 ms0 fs0)) [0, 1, 2, 3, 4, 5, 6, 7, 8, 9, 10, 11, 12, 13, 14, 15, 16] rfl
    have hDc := hD.sub (ws' := (wX cI cJ q  nc0 lc0 le0 ge0 wt0 kp0 fo0 po0 na0 ns0 ta0 ts0 mx0 ch0 mo0 ms0 fs0)) [0, 1, 2, 3, 4, 5, 6, 7, 8, 9, 10, 11, 12, 13, 14, 15, 16] (by decide) rfl
    refine fw_ci (wr := []) (w2 := fun u => (wX cI cJ q  nc0 lc0 le0 ge0 wt0 kp0 u.1 u.2 na0 ns0 ta0 ts0 mx0 ch0 mo0 ms0 fs0)) [0, 1, 2, 3, 4, 5, 6, 7, 8, 9, 10, 11, 12, 13, 14, 15, 16] [] [0, 1, 2, 3, 4, 5, 6, 7, 8, 9, 10, 11, 12, 13, 14, 15, 16] (va_runV (b := (q 0)) (As := []) (rest := []) ⟨hx, hb, hml, hown, hts⟩ (kX3_peelForests l dC dI cI cJ q H.size  nc0 lc0 le0 ge0 wt0 kp0 fo0 po0 na0 ns0 ta0 ts0 mx0 ch0 mo0 ms0 fs0  (fw_be hq)) (cwV 0 hts gX3_peel_X3_peelForests rfl rfl rfl (by decide +kernel) ⟨Nat.le_of_ble_eq_true rfl, Nat.le_of_ble_eq_true rfl⟩) ⟨fw_blind, va_recv hK hPc (ci := 3) (q0 := 0) rfl rfl, fun U hU hW => fw_pre hPc hK hDc hN hU hW⟩ rfl rfl hl.1 rfl (lv_room (Nat.le_of_ble_eq_true rfl)) dX3_peel_14 ⟨Nat.zero_le _, Nat.zero_le _⟩) hP hD hS hA rfl rfl (by decide) (by decide) (by decide) (fun _ => rfl) (fun r_7 u H locs hw hP hD hS => ?_)
    obtain ⟨fo_5, po_6⟩ := u
    have hq := fw_bs hw hq
    try dsimp only at hq
    have hP : va_P (dC, dI) vwCl (wX cI cJ q  nc0 lc0 le0 ge0 wt0 kp0 fo_5 po_6 na0 ns0 ta0 ts0 mx0 ch0 mo0 ms0 fs0) H := hP
    have hD : va_D A (wX cI cJ q  nc0 lc0 le0 ge0 wt0 kp0 fo_5 po_6 na0 ns0 ta0 ts0 mx0 ch0 mo0 ms0 fs0) := hD
    refine lv_pop hx hb dX3_peel_17 rfl ?_
    refine lv_iconst (v := (0 : Int32)) hx hb dX3_peel_18 (by decide) ?_
    refine lv_istore_n (lv' := [(2, .int (0 : Int32)), (0, .ref (q 0)), (1, .int y1)]) hx hb dX3_peel_19 rfl hl (by decide) rfl (fun ls hl => ?_)
    refine lv_iconst (v := (0 : Int32)) hx hb dX3_peel_20 (by decide) ?_
    refine lv_istore_n (lv' := [(3, .int (0 : Int32)), (2, .int (0 : Int32)), (0, .ref (q 0)), (1, .int y1)]) hx hb dX3_peel_21 rfl hl (by decide) rfl (fun ls hl => ?_)
    obtain ⟨e_14, hw, hq⟩ := fw_bb hq
    refine L22 y1 kp0 fo_5 po_6 e_14 (fun x2_12 x3_13 H locs ls he hP hD hS hl => ?_) fw_N (0 : Int32) (0 : Int32) H locs ls hw hP hD hS (lv_sub hl [2, 3, 1, 0] rfl)
    subst he
    try dsimp only at hq
    refine lv_aload_n hx hb dX3_peel_52 rfl (lv_at hl 0 rfl) ?_
    refine lv_iload_n hx hb dX3_peel_53 rfl (lv_at hl 2 rfl) ?_
    have hPc := hP.sub (ws' := (wX cI cJ q  nc0 lc0 le0 ge0 wt0 kp0 fo_5 po_6 na0 ns0 ta0 ts0 mx0 ch0 mo0 ms0 fs0)) [0, 1, 2, 3, 4, 5, 6, 7, 8, 9, 10, 11, 12, 13, 14, 15, 16] rfl
    have hDc := hD.sub (ws' := (wX cI cJ q  nc0 lc0 le0 ge0 wt0 kp0 fo_5 po_6 na0 ns0 ta0 ts0 mx0 ch0 mo0 ms0 fs0)) [0, 1, 2, 3, 4, 5, 6, 7, 8, 9, 10, 11, 12, 13, 14, 15, 16] (by decide) rfl
    refine fw_ci (wr := []) (w2 := fun u => (wX cI cJ q  nc0 lc0 le0 ge0 wt0 u fo_5 po_6 na0 ns0 ta0 ts0 mx0 ch0 mo0 ms0 fs0)) [0, 1, 2, 3, 4, 5, 6, 7, 8, 9, 10, 11, 12, 13, 14, 15, 16] [] [0, 1, 2, 3, 4, 5, 6, 7, 8, 9, 10, 11, 12, 13, 14, 15, 16] (va_runV (b := (q 0)) (As := [.int x2_12]) (rest := []) ⟨hx, hb, hml, hown, hts⟩ (kX3_keepJust l dC dI cI cJ q H.size  nc0 lc0 le0 ge0 wt0 kp0 fo_5 po_6 na0 ns0 ta0 ts0 mx0 ch0 mo0 ms0 fs0 x2_12 (fw_be hq)) (cwV 1 hts gX3_peel_X3_keepJust rfl rfl rfl (by decide +kernel) ⟨Nat.le_of_ble_eq_true rfl, Nat.le_of_ble_eq_true rfl⟩) ⟨fw_blind, va_recv hK hPc (ci := 3) (q0 := 0) rfl rfl, fun U hU hW => fw_pre hPc hK hDc hN hU hW⟩ rfl rfl hl.1 rfl (lv_room (Nat.le_of_ble_eq_true rfl)) dX3_peel_54 ⟨Nat.zero_le _, Nat.zero_le _⟩) hP hD hS hA rfl rfl (by decide) (by decide) (by decide) (fun _ => rfl) (fun r_16 u H locs hw hP hD hS => ?_)
    obtain ⟨kp_15, rfl⟩ : ∃ z, z = u := ⟨_, rfl⟩
    have hq := fw_bs hw hq
    try dsimp only at hq
    have hP : va_P (dC, dI) vwCl (wX cI cJ q  nc0 lc0 le0 ge0 wt0 kp_15 fo_5 po_6 na0 ns0 ta0 ts0 mx0 ch0 mo0 ms0 fs0) H := hP
    have hD : va_D A (wX cI cJ q  nc0 lc0 le0 ge0 wt0 kp_15 fo_5 po_6 na0 ns0 ta0 ts0 mx0 ch0 mo0 ms0 fs0) := hD
    exact W.iret (v := r_16) hx hb hr (fun t ht hW => ⟨⟨r_16, (kp_15, fo_5, po_6), rfl, hz.trans hq.symm, by rw [ht]; exact hP, hD⟩, hS.F ht⟩) hS.2.2 dX3_peel_57
  · have hq := fw_it c_4 hq
    refine lv_bipush (v := (-3 : Int32)) hx hb dX3_peel_10 (by decide) ?_
    exact W.iret (v := (-3 : Int32)) hx hb hr (fun t ht hW => ⟨⟨(-3 : Int32), (kp0, fo0, po0), rfl, hz.trans hq.symm, by rw [ht]; exact hP, hD⟩, hS.F ht⟩) hS.2.2 dX3_peel_12
set_option maxHeartbeats 4000000 in
set_option maxRecDepth 100000 in
theorem kX3_greedy (l : Launch) (dC : Nat → ClassId) (dI : Nat → Nat → Nat) (cI cJ : ClassId) (q : Nat → Nat) (sz : Nat)  (nc0 : Int32) (lc0 : Int32) (le0 : Nat → Int32) (ge0 : Nat → Int32) (wt0 : Nat → Int32) (kp0 : Nat → Int32) (fo0 : Nat → Int32) (po0 : Nat → Int32) (na0 : Nat → Int32) (ns0 : Int32) (ta0 : Nat → Int32) (ts0 : Int32) (mx0 : Nat → Int64) (ch0 : Nat → Int32) (mo0 : Nat → Int64) (ms0 : Int32) (fs0 : Nat → Int32) (y1 : Int32) (hd : ∃ z, pX3_greedy nc0 lc0 le0 ge0 wt0 kp0 ta0 ts0 y1 = some z) : Met l yX3_greedy wsX3_greedy ({ frames := 2, cells := 0, slots := 0, locals := 52 }) (fw_Pc (dC, dI) (fw_tys cI cJ) (wX cI cJ q  nc0 lc0 le0 ge0 wt0 kp0 fo0 po0 na0 ns0 ta0 ts0 mx0 ch0 mo0 ms0 fs0) ([.ref (q 0), .int y1] : List Value) sz) (va_Qi (fun (r : Int32) (u : (Nat → Int32) × (Nat → Int32) × Int32) => pX3_greedy nc0 lc0 le0 ge0 wt0 kp0 ta0 ts0 y1 = some (r, u)) (fun u t => fw_B (dC, dI) (va_A (wX cI cJ q  nc0 lc0 le0 ge0 wt0 kp0 fo0 po0 na0 ns0 ta0 ts0 mx0 ch0 mo0 ms0 fs0) sz) (wX cI cJ q  nc0 lc0 le0 ge0 wt0 u.1 fo0 po0 na0 ns0 u.2.1 u.2.2 mx0 ch0 mo0 ms0 fs0) t) (va_A (wX cI cJ q  nc0 lc0 le0 ge0 wt0 kp0 fo0 po0 na0 ns0 ta0 ts0 mx0 ch0 mo0 ms0 fs0) sz)) 0 0 (va_A (wX cI cJ q  nc0 lc0 le0 ge0 wt0 kp0 fo0 po0 na0 ns0 ta0 ts0 mx0 ch0 mo0 ms0 fs0) sz) := by
  obtain ⟨z, hz⟩ := hd
  refine Met.ofW (cc := cX3_greedy) (maxL := 5) (ret := (some .int)) (by decide) rfl ?_
  intro p e s m args below meth c s₁ B hml hv
  obtain ⟨rfl, hsz, hP, hK, hD0, hN⟩ := hv
  have hx := B.exec
  have hb := B.bytes
  have hr := B.returns
  have hts := atoms_spec (ws := wsX3_greedy) B.pre
  have hown : s.vm.findClass RX3 = some m.cls := findClass_of_methodNamed B.named
  have hlocks := B.notSynchronized
  subst hsz
  have hD := hD0.self (sz := s.heap.size)
  generalize hAe : va_A (wX cI cJ q  nc0 lc0 le0 ge0 wt0 kp0 fo0 po0 na0 ns0 ta0 ts0 mx0 ch0 mo0 ms0 fs0) s.heap.size = A at hD ⊢
  have hA : ∀ q : Nat, s.heap.size ≤ q → A q := fun q h => by rw [← hAe]; exact Or.inr h
  have hinX3 : ∀ w ∈ u_ws RX3 TX3 12, w ∈ wsX3_greedy := by decide +kernel
  have hf9 := hts (.fieldLink RX3 9 "FewLines" "nodeCount" "I") (by decide +kernel)
  have hf13 := hts (.fieldLink RX3 13 "FewLines" "lineCount" "I") (by decide +kernel)
  have hf16 := hts (.fieldLink RX3 16 "FewLines" "lesserEnd" "[I") (by decide +kernel)
  have hf20 := hts (.fieldLink RX3 20 "FewLines" "greaterEnd" "[I") (by decide +kernel)
  have hf23 := hts (.fieldLink RX3 23 "FewLines" "weightOf" "[I") (by decide +kernel)
  have hf46 := hts (.fieldLink RX3 46 "FewLines" "thinLengths" "LFewLines$Lengths;") (by decide +kernel)
  have L37 : ∀ (x1 : Int32) (x3 : Int32) (kp : Nat → Int32) (ts : Int32) (e9 : Int32 × Int32 × (Nat → Int32)), (∀ (x2' : Int32) (x4' : Int32) (ta' : Nat → Int32) (H : Heap) (locs : List Loc) (ls : Array Slot), e9 = (x2', x4', ta') → va_P (dC, dI) vwCl (wX cI cJ q  nc0 lc0 le0 ge0 wt0 kp fo0 po0 na0 ns0 ta' ts mx0 ch0 mo0 ms0 fs0) H → va_D A (wX cI cJ q  nc0 lc0 le0 ge0 wt0 kp fo0 po0 na0 ns0 ta' ts mx0 ch0 mo0 ms0 fs0) → va_S A s.heap H locs → lv_has ls 5 [(0, .ref (q 0)), (1, .int x1), (2, .int x2'), (3, .int x3), (4, .int x4')] → W p l e (headSpec wsX3_greedy ({ frames := 2, cells := 0, slots := 0, locals := 52 })).room s m ([.ref (q 0), .int y1] : List Value).toArray below meth c H locs 0 0 (MQ below (va_Qi (fun (r : Int32) (u : (Nat → Int32) × (Nat → Int32) × Int32) => pX3_greedy nc0 lc0 le0 ge0 wt0 kp0 ta0 ts0 y1 = some (r, u)) (fun u t => fw_B (dC, dI) A (wX cI cJ q  nc0 lc0 le0 ge0 wt0 u.1 fo0 po0 na0 ns0 u.2.1 u.2.2 mx0 ch0 mo0 ms0 fs0) t) A) ([.ref (q 0), .int y1] : List Value).toArray s 0 0 A) (F0 m 104 ls [])) → ∀ (n9 : Nat) (x2 : Int32) (x4 : Int32) (ta : Nat → Int32) (H : Heap) (locs : List Loc) (ls : Array Slot), fw_wh (pX3_greedy_37 x1 x3 lc0 le0 ge0 wt0 ts) n9 (x2, x4, ta) = some e9 → va_P (dC, dI) vwCl (wX cI cJ q  nc0 lc0 le0 ge0 wt0 kp fo0 po0 na0 ns0 ta ts mx0 ch0 mo0 ms0 fs0) H → va_D A (wX cI cJ q  nc0 lc0 le0 ge0 wt0 kp fo0 po0 na0 ns0 ta ts mx0 ch0 mo0 ms0 fs0) → va_S A s.heap H locs → lv_has ls 5 [(0, .ref (q 0)), (1, .int x1), (2, .int x2), (3, .int x3), (4, .int x4)] → W p l e (headSpec wsX3_greedy ({ frames := 2, cells := 0, slots := 0, locals := 52 })).room s m ([.ref (q 0), .int y1] : List Value).toArray below meth c H locs 0 0 (MQ below (va_Qi (fun (r : Int32) (u : (Nat → Int32) × (Nat → Int32) × Int32) => pX3_greedy nc0 lc0 le0 ge0 wt0 kp0 ta0 ts0 y1 = some (r, u)) (fun u t => fw_B (dC, dI) A (wX cI cJ q  nc0 lc0 le0 ge0 wt0 u.1 fo0 po0 na0 ns0 u.2.1 u.2.2 mx0 ch0 mo0 ms0 fs0) t) A) ([.ref (q 0), .int y1] : List Value).toArray s 0 0 A) (F0 m 37 ls []) := by
    intro x1 x3 kp ts e9 hkk n9
    induction n9 with
    | zero => exact fun _ _ _ H locs ls hq => (fw_wh0 hq).elim
    | succ n9 ih =>
      intro x2 x4 ta H locs ls hq hP hD hS hl
      obtain ⟨w9, hq, hwI, hwE⟩ := fw_wh1 hq
      dsimp only [pX3_greedy_37] at hq
      refine lv_iload hx hb dX3_greedy_37 (lv_at hl 4 rfl) ?_
      refine lv_aload_n hx hb dX3_greedy_39 rfl (lv_at hl 0 rfl) ?_
      refine va_get (D := (dC, dI)) (ci := 3) (v := .int lc0) (C := RX3) (T := TX3) (N := 12) hx hb hts hinX3 hown hK hP 0 rfl rfl 1 (by decide) hf13 (fun _ h9 => h9) rfl dX3_greedy_40 ?_
      refine lv_icmp_ge (tgt := 104) hx hb dX3_greedy_43 (by decide) (fun c_10 => ?_) (fun c_10 => ?_)
      · have hq := fw_it c_10 hq
        exact hkk x2 x4 ta H locs ls (hwE _ (Option.some.inj hq).symm) hP hD hS (lv_sub hl [0, 1, 2, 3, 4] rfl)
      · have hq := fw_if c_10 hq
        refine lv_aload_n hx hb dX3_greedy_46 rfl (lv_at hl 0 rfl) ?_
        refine va_get (D := (dC, dI)) (ci := 3) (v := .ref (q 3)) (C := RX3) (T := TX3) (N := 12) hx hb hts hinX3 hown hK hP 0 rfl rfl 4 (by decide) hf23 (fun _ h9 => h9) rfl dX3_greedy_47 ?_
        refine lv_iload hx hb dX3_greedy_50 (lv_at hl 4 rfl) ?_
        obtain ⟨h_11, hq⟩ := fw_ck_s hq
        refine va_iald hx hb hK hP 3 0 rfl rfl h_11 dX3_greedy_52 ?_
        refine lv_iload_n hx hb dX3_greedy_53 rfl (lv_at hl 3 rfl) ?_
        refine lv_icmp_ne (tgt := 98) hx hb dX3_greedy_54 (by decide) (fun c_12 => ?_) (fun c_12 => ?_)
        · have hq := fw_if c_12 hq
          refine lv_iinc (v := (x4 + (1 : Int32))) (lv' := [(4, .int (x4 + (1 : Int32))), (0, .ref (q 0)), (1, .int x1), (2, .int x2), (3, .int x3)]) hx hb dX3_greedy_98 hl (k := 4) rfl rfl (by decide) rfl (fun ls hl => ?_)
          refine lv_goto (tgt := 37) hx hb dX3_greedy_101 (by decide) ?_
          exact ih x2 (x4 + (1 : Int32)) ta H locs ls (hwI _ (Option.some.inj hq).symm) hP hD hS (lv_sub hl [1, 2, 3, 4, 0] rfl)
        · have hq := fw_it c_12 hq
          refine lv_aload_n hx hb dX3_greedy_57 rfl (lv_at hl 0 rfl) ?_
          refine lv_iload hx hb dX3_greedy_58 (lv_at hl 4 rfl) ?_
          have hPc := hP.sub (ws' := (wX cI cJ q  nc0 lc0 le0 ge0 wt0 kp fo0 po0 na0 ns0 ta ts mx0 ch0 mo0 ms0 fs0)) [0, 1, 2, 3, 4, 5, 6, 7, 8, 9, 10, 11, 12, 13, 14, 15, 16] rfl
          have hDc := hD.sub (ws' := (wX cI cJ q  nc0 lc0 le0 ge0 wt0 kp fo0 po0 na0 ns0 ta ts mx0 ch0 mo0 ms0 fs0)) [0, 1, 2, 3, 4, 5, 6, 7, 8, 9, 10, 11, 12, 13, 14, 15, 16] (by decide) rfl
          refine fw_ci (wr := []) (w2 := fun u => (wX cI cJ q  nc0 lc0 le0 ge0 wt0 kp fo0 po0 na0 ns0 ta ts mx0 ch0 mo0 ms0 fs0)) [0, 1, 2, 3, 4, 5, 6, 7, 8, 9, 10, 11, 12, 13, 14, 15, 16] [] [0, 1, 2, 3, 4, 5, 6, 7, 8, 9, 10, 11, 12, 13, 14, 15, 16] (va_runV (b := (q 0)) (As := [.int x4]) (rest := []) ⟨hx, hb, hml, hown, hts⟩ (kX3_lengthBetweenEnds l dC dI cI cJ q H.size  nc0 lc0 le0 ge0 wt0 kp fo0 po0 na0 ns0 ta ts mx0 ch0 mo0 ms0 fs0 x4 (fw_be hq)) (cwV 1 hts gX3_greedy_X3_lengthBetweenEnds rfl rfl rfl (by decide +kernel) ⟨Nat.le_of_ble_eq_true rfl, Nat.le_of_ble_eq_true rfl⟩) ⟨fw_blind, va_recv hK hPc (ci := 3) (q0 := 0) rfl rfl, fun U hU hW => fw_pre hPc hK hDc hN hU hW⟩ rfl rfl hl.1 rfl (lv_room (Nat.le_of_ble_eq_true rfl)) dX3_greedy_60 ⟨Nat.zero_le _, Nat.zero_le _⟩) hP hD hS hA rfl rfl (by decide) (by decide) (by decide) (fun _ => rfl) (fun r_13 u H locs hw hP hD hS => ?_)
          have hq := fw_bs hw hq
          try dsimp only at hq
          refine lv_iload_n hx hb dX3_greedy_63 rfl (lv_at hl 1 rfl) ?_
          refine lv_iload_n hx hb dX3_greedy_64 rfl (lv_at hl 3 rfl) ?_
          refine lv_imul hx hb dX3_greedy_65 ?_
          refine lv_icmp_le (tgt := 98) hx hb dX3_greedy_66 (by decide) (fun c_15 => ?_) (fun c_15 => ?_)
          · have hq := fw_it c_15 hq
            refine lv_iinc (v := (x4 + (1 : Int32))) (lv' := [(4, .int (x4 + (1 : Int32))), (0, .ref (q 0)), (1, .int x1), (2, .int x2), (3, .int x3)]) hx hb dX3_greedy_98 hl (k := 4) rfl rfl (by decide) rfl (fun ls hl => ?_)
            refine lv_goto (tgt := 37) hx hb dX3_greedy_101 (by decide) ?_
            exact ih x2 (x4 + (1 : Int32)) ta H locs ls (hwI _ (Option.some.inj hq).symm) hP hD hS (lv_sub hl [1, 2, 3, 4, 0] rfl)
          · have hq := fw_if c_15 hq
            refine lv_aload_n hx hb dX3_greedy_69 rfl (lv_at hl 0 rfl) ?_
            refine va_get (D := (dC, dI)) (ci := 3) (v := .ref (q 10)) (C := RX3) (T := TX3) (N := 12) hx hb hts hinX3 hown hK hP 0 rfl rfl 9 (by decide) hf46 (fun _ h9 => h9) rfl dX3_greedy_70 ?_
            refine lv_aload_n hx hb dX3_greedy_73 rfl (lv_at hl 0 rfl) ?_
            refine va_get (D := (dC, dI)) (ci := 3) (v := .ref (q 1)) (C := RX3) (T := TX3) (N := 12) hx hb hts hinX3 hown hK hP 0 rfl rfl 2 (by decide) hf16 (fun _ h9 => h9) rfl dX3_greedy_74 ?_
            refine lv_iload hx hb dX3_greedy_77 (lv_at hl 4 rfl) ?_
            obtain ⟨h_16, hq⟩ := fw_ck_s hq
            refine va_iald hx hb hK hP 1 0 rfl rfl h_16 dX3_greedy_79 ?_
            refine lv_aload_n hx hb dX3_greedy_80 rfl (lv_at hl 0 rfl) ?_
            refine va_get (D := (dC, dI)) (ci := 3) (v := .ref (q 2)) (C := RX3) (T := TX3) (N := 12) hx hb hts hinX3 hown hK hP 0 rfl rfl 3 (by decide) hf20 (fun _ h9 => h9) rfl dX3_greedy_81 ?_
            refine lv_iload hx hb dX3_greedy_84 (lv_at hl 4 rfl) ?_
            obtain ⟨h_17, hq⟩ := fw_ck_s hq
            refine va_iald hx hb hK hP 2 0 rfl rfl h_17 dX3_greedy_86 ?_
            refine lv_iload_n hx hb dX3_greedy_87 rfl (lv_at hl 3 rfl) ?_
            have hPc := hP.sub (ws' := (wL cI cJ (q 10) (q 11)  ta ts)) [10, 11] rfl
            have hDc := hD.sub (ws' := (wL cI cJ (q 10) (q 11)  ta ts)) [10, 11] (by decide) rfl
            refine fw_cv (wr := [((q 0), .inr (3, [.int nc0, .int lc0, .ref (q 1), .ref (q 2), .ref (q 3), .ref (q 4), .ref (q 5), .ref (q 6), .ref (q 8), .ref (q 10), .ref (q 12), .ref (q 16)])), ((q 1), .inl (cI, 12, .inl le0)), ((q 2), .inl (cI, 12, .inl ge0)), ((q 3), .inl (cI, 12, .inl wt0)), ((q 4), .inl (cI, 12, .inl kp)), ((q 5), .inl (cI, 12, .inl fo0)), ((q 6), .inr (2, [.ref (q 7)])), ((q 7), .inl (cI, 7, .inl po0)), ((q 8), .inr (0, [.ref (q 9), .int ns0])), ((q 9), .inl (cI, 49, .inl na0)), ((q 12), .inr (1, [.ref (q 13), .ref (q 14), .ref (q 15), .int ms0])), ((q 13), .inl (cJ, 49, .inr (.inl mx0))), ((q 14), .inl (cI, 7, .inl ch0)), ((q 15), .inl (cJ, 128, .inr (.inl mo0))), ((q 16), .inl (cI, 10, .inl fs0))]) (w2 := fun u => (wX cI cJ q  nc0 lc0 le0 ge0 wt0 kp fo0 po0 na0 ns0 u ts mx0 ch0 mo0 ms0 fs0)) [10, 11] [0, 1, 2, 3, 4, 5, 6, 7, 8, 9, 12, 13, 14, 15, 16] [0, 1, 2, 3, 4, 5, 6, 7, 8, 9, 15, 16, 10, 11, 12, 13, 14] (va_runV (b := (q 10)) (As := [.int (le0 (x4).toNatClampNeg), .int (ge0 (x4).toNatClampNeg), .int x3]) (rest := []) ⟨hx, hb, hml, hown, hts⟩ (kX0_add l dC dI cI cJ (q 10) (q 11) H.size  ta ts (le0 (x4).toNatClampNeg) (ge0 (x4).toNatClampNeg) x3 (fw_be hq)) (cwV 3 hts gX3_greedy_X0_add rfl rfl rfl (by decide +kernel) ⟨Nat.le_of_ble_eq_true rfl, Nat.le_of_ble_eq_true rfl⟩) ⟨fw_blind, va_recv hK hPc (ci := 0) (q0 := 0) rfl rfl, fun U hU hW => fw_pre hPc hK hDc hN hU hW⟩ rfl rfl hl.1 rfl (lv_room (Nat.le_of_ble_eq_true rfl)) dX3_greedy_88 ⟨Nat.zero_le _, Nat.zero_le _⟩) hP hD hS hA rfl rfl (by decide) (by decide) (by decide) (fun _ => rfl) (fun u H locs hw hP hD hS => ?_)
            obtain ⟨la_18, rfl⟩ : ∃ z, z = u := ⟨_, rfl⟩
            have hq := fw_bs hw hq
            try dsimp only at hq
            have hP : va_P (dC, dI) vwCl (wX cI cJ q  nc0 lc0 le0 ge0 wt0 kp fo0 po0 na0 ns0 la_18 ts mx0 ch0 mo0 ms0 fs0) H := hP
            have hD : va_D A (wX cI cJ q  nc0 lc0 le0 ge0 wt0 kp fo0 po0 na0 ns0 la_18 ts mx0 ch0 mo0 ms0 fs0) := hD
            refine lv_iload_n hx hb dX3_greedy_91 rfl (lv_at hl 2 rfl) ?_
            refine lv_iconst (v := (1 : Int32)) hx hb dX3_greedy_92 (by decide) ?_
            refine lv_iload hx hb dX3_greedy_93 (lv_at hl 4 rfl) ?_
            refine lv_ishl hx hb dX3_greedy_95 ?_
            refine lv_ior hx hb dX3_greedy_96 ?_
            refine lv_istore_n (lv' := [(2, .int (x2 ||| ((1 : Int32) <<< (x4 &&& 31)))), (0, .ref (q 0)), (1, .int x1), (3, .int x3), (4, .int x4)]) hx hb dX3_greedy_97 rfl hl (by decide) rfl (fun ls hl => ?_)
            refine lv_iinc (v := (x4 + (1 : Int32))) (lv' := [(4, .int (x4 + (1 : Int32))), (2, .int (x2 ||| ((1 : Int32) <<< (x4 &&& 31)))), (0, .ref (q 0)), (1, .int x1), (3, .int x3)]) hx hb dX3_greedy_98 hl (k := 4) rfl rfl (by decide) rfl (fun ls hl => ?_)
            refine lv_goto (tgt := 37) hx hb dX3_greedy_101 (by decide) ?_
            exact ih (x2 ||| ((1 : Int32) <<< (x4 &&& 31))) (x4 + (1 : Int32)) la_18 H locs ls (hwI _ (Option.some.inj hq).symm) hP hD hS (lv_sub hl [2, 3, 1, 4, 0] rfl)
  have L28 : ∀ (x1 : Int32) (kp : Nat → Int32) (ts : Int32) (e9 : Int32 × Int32 × (Nat → Int32)), (∀ (x2' : Int32) (x3' : Int32) (ta' : Nat → Int32) (H : Heap) (locs : List Loc) (ls : Array Slot), e9 = (x2', x3', ta') → va_P (dC, dI) vwCl (wX cI cJ q  nc0 lc0 le0 ge0 wt0 kp fo0 po0 na0 ns0 ta' ts mx0 ch0 mo0 ms0 fs0) H → va_D A (wX cI cJ q  nc0 lc0 le0 ge0 wt0 kp fo0 po0 na0 ns0 ta' ts mx0 ch0 mo0 ms0 fs0) → va_S A s.heap H locs → lv_has ls 5 [(0, .ref (q 0)), (1, .int x1), (2, .int x2'), (3, .int x3')] → W p l e (headSpec wsX3_greedy ({ frames := 2, cells := 0, slots := 0, locals := 52 })).room s m ([.ref (q 0), .int y1] : List Value).toArray below meth c H locs 0 0 (MQ below (va_Qi (fun (r : Int32) (u : (Nat → Int32) × (Nat → Int32) × Int32) => pX3_greedy nc0 lc0 le0 ge0 wt0 kp0 ta0 ts0 y1 = some (r, u)) (fun u t => fw_B (dC, dI) A (wX cI cJ q  nc0 lc0 le0 ge0 wt0 u.1 fo0 po0 na0 ns0 u.2.1 u.2.2 mx0 ch0 mo0 ms0 fs0) t) A) ([.ref (q 0), .int y1] : List Value).toArray s 0 0 A) (F0 m 110 ls [])) → ∀ (n9 : Nat) (x2 : Int32) (x3 : Int32) (ta : Nat → Int32) (H : Heap) (locs : List Loc) (ls : Array Slot), fw_wh (pX3_greedy_28 x1 lc0 le0 ge0 wt0 ts) n9 (x2, x3, ta) = some e9 → va_P (dC, dI) vwCl (wX cI cJ q  nc0 lc0 le0 ge0 wt0 kp fo0 po0 na0 ns0 ta ts mx0 ch0 mo0 ms0 fs0) H → va_D A (wX cI cJ q  nc0 lc0 le0 ge0 wt0 kp fo0 po0 na0 ns0 ta ts mx0 ch0 mo0 ms0 fs0) → va_S A s.heap H locs → lv_has ls 5 [(0, .ref (q 0)), (1, .int x1), (2, .int x2), (3, .int x3)] → W p l e (headSpec wsX3_greedy ({ frames := 2, cells := 0, slots := 0, locals := 52 })).room s m ([.ref (q 0), .int y1] : List Value).toArray below meth c H locs 0 0 (MQ below (va_Qi (fun (r : Int32) (u : (Nat → Int32) × (Nat → Int32) × Int32) => pX3_greedy nc0 lc0 le0 ge0 wt0 kp0 ta0 ts0 y1 = some (r, u)) (fun u t => fw_B (dC, dI) A (wX cI cJ q  nc0 lc0 le0 ge0 wt0 u.1 fo0 po0 na0 ns0 u.2.1 u.2.2 mx0 ch0 mo0 ms0 fs0) t) A) ([.ref (q 0), .int y1] : List Value).toArray s 0 0 A) (F0 m 28 ls []) := by
    intro x1 kp ts e9 hkk n9
    induction n9 with
    | zero => exact fun _ _ _ H locs ls hq => (fw_wh0 hq).elim
    | succ n9 ih =>
      intro x2 x3 ta H locs ls hq hP hD hS hl
      obtain ⟨w9, hq, hwI, hwE⟩ := fw_wh1 hq
      dsimp only [pX3_greedy_28] at hq
      refine lv_iload_n hx hb dX3_greedy_28 rfl (lv_at hl 3 rfl) ?_
      refine lv_bipush (v := (9 : Int32)) hx hb dX3_greedy_29 (by decide) ?_
      refine lv_icmp_gt (tgt := 110) hx hb dX3_greedy_31 (by decide) (fun c_9 => ?_) (fun c_9 => ?_)
      · have hq := fw_it c_9 hq
        exact hkk x2 x3 ta H locs ls (hwE _ (Option.some.inj hq).symm) hP hD hS (lv_sub hl [0, 1, 2, 3] rfl)
      · have hq := fw_if c_9 hq
        refine lv_iconst (v := (0 : Int32)) hx hb dX3_greedy_34 (by decide) ?_
        refine lv_istore (lv' := [(4, .int (0 : Int32)), (0, .ref (q 0)), (1, .int x1), (2, .int x2), (3, .int x3)]) hx hb dX3_greedy_35 hl (by decide) rfl (fun ls hl => ?_)
        obtain ⟨e_24, hw, hq⟩ := fw_bb hq
        refine L37 x1 x3 kp ts e_24 (fun x2_21 x4_22 ta_23 H locs ls he hP hD hS hl => ?_) fw_N x2 (0 : Int32) ta H locs ls hw hP hD hS (lv_sub hl [1, 2, 3, 4, 0] rfl)
        subst he
        try dsimp only at hq
        refine lv_iinc (v := (x3 + (1 : Int32))) (lv' := [(3, .int (x3 + (1 : Int32))), (0, .ref (q 0)), (1, .int x1), (2, .int x2_21), (4, .int x4_22)]) hx hb dX3_greedy_104 hl (k := 3) rfl rfl (by decide) rfl (fun ls hl => ?_)
        refine lv_goto (tgt := 28) hx hb dX3_greedy_107 (by decide) ?_
        exact ih x2_21 (x3 + (1 : Int32)) ta_23 H locs ls (hwI _ (Option.some.inj hq).symm) hP hD hS (lv_sub hl [1, 2, 3, 0] rfl)
  have hq := hz
  dsimp only [pX3_greedy] at hq
  have hl := lv_entry (([.ref (q 0), .int y1] : List Value)) (n := 5) (Nat.le_of_ble_eq_true rfl)
  rw [lg_entry_eq]
  generalize (lg_sl (([.ref (q 0), .int y1] : List Value)) ++ List.replicate (5 - (lg_sl (([.ref (q 0), .int y1] : List Value))).length) Slot.unset).toArray = ls at hl ⊢
  have hl : lv_has ls 5 [(0, .ref (q 0)), (1, .int y1)] := hl
  obtain ⟨H, hHe⟩ : ∃ H : Heap, H = s.heap := ⟨_, rfl⟩
  obtain ⟨locs, hLe⟩ : ∃ L : List Loc, L = [] := ⟨_, rfl⟩
  have hP : va_P (dC, dI) vwCl (wX cI cJ q  nc0 lc0 le0 ge0 wt0 kp0 fo0 po0 na0 ns0 ta0 ts0 mx0 ch0 mo0 ms0 fs0) H := by rw [hHe]; exact hP
  have hS : va_S A s.heap H locs := by rw [hHe, hLe]; exact va_S.rf
  show W p l e (headSpec wsX3_greedy ({ frames := 2, cells := 0, slots := 0, locals := 52 })).room s m ([.ref (q 0), .int y1] : List Value).toArray below meth c s.heap [] 0 0 (MQ below (va_Qi (fun (r : Int32) (u : (Nat → Int32) × (Nat → Int32) × Int32) => pX3_greedy nc0 lc0 le0 ge0 wt0 kp0 ta0 ts0 y1 = some (r, u)) (fun u t => fw_B (dC, dI) A (wX cI cJ q  nc0 lc0 le0 ge0 wt0 u.1 fo0 po0 na0 ns0 u.2.1 u.2.2 mx0 ch0 mo0 ms0 fs0) t) A) ([.ref (q 0), .int y1] : List Value).toArray s 0 0 A) (F0 m 0 ls [])
  rw [← hHe, ← hLe]
  refine lv_iload_n hx hb dX3_greedy_0 rfl (lv_at hl 1 rfl) ?_
  refine lv_iconst (v := (1 : Int32)) hx hb dX3_greedy_1 (by decide) ?_
  refine lv_bipush (v := (9 : Int32)) hx hb dX3_greedy_2 (by decide) ?_
  have hPc := hP.sub (ws' := (w0 cI cJ   )) [] rfl
  have hDc := hD.sub (ws' := (w0 cI cJ   )) [] (by decide) rfl
  refine fw_ci (wr := [((q 0), .inr (3, [.int nc0, .int lc0, .ref (q 1), .ref (q 2), .ref (q 3), .ref (q 4), .ref (q 5), .ref (q 6), .ref (q 8), .ref (q 10), .ref (q 12), .ref (q 16)])), ((q 1), .inl (cI, 12, .inl le0)), ((q 2), .inl (cI, 12, .inl ge0)), ((q 3), .inl (cI, 12, .inl wt0)), ((q 4), .inl (cI, 12, .inl kp0)), ((q 5), .inl (cI, 12, .inl fo0)), ((q 6), .inr (2, [.ref (q 7)])), ((q 7), .inl (cI, 7, .inl po0)), ((q 8), .inr (0, [.ref (q 9), .int ns0])), ((q 9), .inl (cI, 49, .inl na0)), ((q 10), .inr (0, [.ref (q 11), .int ts0])), ((q 11), .inl (cI, 49, .inl ta0)), ((q 12), .inr (1, [.ref (q 13), .ref (q 14), .ref (q 15), .int ms0])), ((q 13), .inl (cJ, 49, .inr (.inl mx0))), ((q 14), .inl (cI, 7, .inl ch0)), ((q 15), .inl (cJ, 128, .inr (.inl mo0))), ((q 16), .inl (cI, 10, .inl fs0))]) (w2 := fun u => (wX cI cJ q  nc0 lc0 le0 ge0 wt0 kp0 fo0 po0 na0 ns0 ta0 ts0 mx0 ch0 mo0 ms0 fs0)) [] [0, 1, 2, 3, 4, 5, 6, 7, 8, 9, 10, 11, 12, 13, 14, 15, 16] [0, 1, 2, 3, 4, 5, 6, 7, 8, 9, 10, 11, 12, 13, 14, 15, 16] (va_runS (As := [.int y1, .int (1 : Int32), .int (9 : Int32)]) (rest := []) ⟨hx, hb, hml, hown, hts⟩ (kX3_isWithin l dC dI cI cJ  H.size   y1 (1 : Int32) (9 : Int32) (fw_be hq)) (va_cwS 3 hts gX3_greedy_X3_isWithin rfl rfl rfl (by decide +kernel) ⟨Nat.le_of_ble_eq_true rfl, Nat.le_of_ble_eq_true rfl⟩) ⟨fw_blind, fun U hU hW => fw_pre hPc hK hDc hN hU hW⟩ rfl rfl hl.1 rfl (lv_room (Nat.le_of_ble_eq_true rfl)) dX3_greedy_4 ⟨Nat.zero_le _, Nat.zero_le _⟩) hP hD hS hA rfl rfl (by decide) (by decide) (by decide) (fun _ => rfl) (fun r_1 u H locs hw hP hD hS => ?_)
  obtain ⟨hw, n_3⟩ := hw
  have hq := fw_bs hw hq
  try dsimp only at hq
  refine lv_if_ne (tgt := 13) hx hb dX3_greedy_7 (by decide) (fun c_4 => ?_) (fun c_4 => ?_)
  · have hq := fw_if c_4 hq
    refine lv_iconst (v := (0 : Int32)) hx hb dX3_greedy_13 (by decide) ?_
    refine lv_istore_n (lv' := [(2, .int (0 : Int32)), (0, .ref (q 0)), (1, .int y1)]) hx hb dX3_greedy_14 rfl hl (by decide) rfl (fun ls hl => ?_)
    refine lv_aload_n hx hb dX3_greedy_15 rfl (lv_at hl 1 rfl) ?_
    refine va_get (D := (dC, dI)) (ci := 3) (v := .ref (q 10)) (C := RX3) (T := TX3) (N := 12) hx hb hts hinX3 hown hK hP 0 rfl rfl 9 (by decide) hf46 (fun _ h9 => h9) rfl dX3_greedy_16 ?_
    refine lv_aload_n hx hb dX3_greedy_19 rfl (lv_at hl 1 rfl) ?_
    refine va_get (D := (dC, dI)) (ci := 3) (v := .int nc0) (C := RX3) (T := TX3) (N := 12) hx hb hts hinX3 hown hK hP 0 rfl rfl 0 (by decide) hf9 (fun _ h9 => h9) rfl dX3_greedy_20 ?_
    have hPc := hP.sub (ws' := (wL cI cJ (q 10) (q 11)  ta0 ts0)) [10, 11] rfl
    have hDc := hD.sub (ws' := (wL cI cJ (q 10) (q 11)  ta0 ts0)) [10, 11] (by decide) rfl
    refine fw_cv (wr := [((q 0), .inr (3, [.int nc0, .int lc0, .ref (q 1), .ref (q 2), .ref (q 3), .ref (q 4), .ref (q 5), .ref (q 6), .ref (q 8), .ref (q 10), .ref (q 12), .ref (q 16)])), ((q 1), .inl (cI, 12, .inl le0)), ((q 2), .inl (cI, 12, .inl ge0)), ((q 3), .inl (cI, 12, .inl wt0)), ((q 4), .inl (cI, 12, .inl kp0)), ((q 5), .inl (cI, 12, .inl fo0)), ((q 6), .inr (2, [.ref (q 7)])), ((q 7), .inl (cI, 7, .inl po0)), ((q 8), .inr (0, [.ref (q 9), .int ns0])), ((q 9), .inl (cI, 49, .inl na0)), ((q 12), .inr (1, [.ref (q 13), .ref (q 14), .ref (q 15), .int ms0])), ((q 13), .inl (cJ, 49, .inr (.inl mx0))), ((q 14), .inl (cI, 7, .inl ch0)), ((q 15), .inl (cJ, 128, .inr (.inl mo0))), ((q 16), .inl (cI, 10, .inl fs0))]) (w2 := fun u => (wX cI cJ q  nc0 lc0 le0 ge0 wt0 kp0 fo0 po0 na0 ns0 u.1 u.2 mx0 ch0 mo0 ms0 fs0)) [10, 11] [0, 1, 2, 3, 4, 5, 6, 7, 8, 9, 12, 13, 14, 15, 16] [0, 1, 2, 3, 4, 5, 6, 7, 8, 9, 15, 16, 10, 11, 12, 13, 14] (va_runV (b := (q 10)) (As := [.int nc0]) (rest := []) ⟨hx, hb, hml, hown, hts⟩ (kX0_clear l dC dI cI cJ (q 10) (q 11) H.size  ta0 ts0 nc0 (fw_be hq)) (cwV 1 hts gX3_greedy_X0_clear rfl rfl rfl (by decide +kernel) ⟨Nat.le_of_ble_eq_true rfl, Nat.le_of_ble_eq_true rfl⟩) ⟨fw_blind, va_recv hK hPc (ci := 0) (q0 := 0) rfl rfl, fun U hU hW => fw_pre hPc hK hDc hN hU hW⟩ rfl rfl hl.1 rfl (lv_room (Nat.le_of_ble_eq_true rfl)) dX3_greedy_23 ⟨Nat.zero_le _, Nat.zero_le _⟩) hP hD hS hA rfl rfl (by decide) (by decide) (by decide) (fun _ => rfl) (fun u H locs hw hP hD hS => ?_)
    obtain ⟨la_5, zs_6⟩ := u
    have hq := fw_bs hw hq
    try dsimp only at hq
    have hP : va_P (dC, dI) vwCl (wX cI cJ q  nc0 lc0 le0 ge0 wt0 kp0 fo0 po0 na0 ns0 la_5 zs_6 mx0 ch0 mo0 ms0 fs0) H := hP
    have hD : va_D A (wX cI cJ q  nc0 lc0 le0 ge0 wt0 kp0 fo0 po0 na0 ns0 la_5 zs_6 mx0 ch0 mo0 ms0 fs0) := hD
    refine lv_iconst (v := (1 : Int32)) hx hb dX3_greedy_26 (by decide) ?_
    refine lv_istore_n (lv' := [(3, .int (1 : Int32)), (2, .int (0 : Int32)), (0, .ref (q 0)), (1, .int y1)]) hx hb dX3_greedy_27 rfl hl (by decide) rfl (fun ls hl => ?_)
    obtain ⟨e_28, hw, hq⟩ := fw_bb hq
    refine L28 y1 kp0 zs_6 e_28 (fun x2_25 x3_26 ta_27 H locs ls he hP hD hS hl => ?_) fw_N (0 : Int32) (1 : Int32) la_5 H locs ls hw hP hD hS (lv_sub hl [2, 3, 1, 0] rfl)
    subst he
    try dsimp only at hq
    refine lv_aload_n hx hb dX3_greedy_110 rfl (lv_at hl 0 rfl) ?_
    refine lv_iload_n hx hb dX3_greedy_111 rfl (lv_at hl 2 rfl) ?_
    have hPc := hP.sub (ws' := (wX cI cJ q  nc0 lc0 le0 ge0 wt0 kp0 fo0 po0 na0 ns0 ta_27 zs_6 mx0 ch0 mo0 ms0 fs0)) [0, 1, 2, 3, 4, 5, 6, 7, 8, 9, 10, 11, 12, 13, 14, 15, 16] rfl
    have hDc := hD.sub (ws' := (wX cI cJ q  nc0 lc0 le0 ge0 wt0 kp0 fo0 po0 na0 ns0 ta_27 zs_6 mx0 ch0 mo0 ms0 fs0)) [0, 1, 2, 3, 4, 5, 6, 7, 8, 9, 10, 11, 12, 13, 14, 15, 16] (by decide) rfl
    refine fw_ci (wr := []) (w2 := fun u => (wX cI cJ q  nc0 lc0 le0 ge0 wt0 u fo0 po0 na0 ns0 ta_27 zs_6 mx0 ch0 mo0 ms0 fs0)) [0, 1, 2, 3, 4, 5, 6, 7, 8, 9, 10, 11, 12, 13, 14, 15, 16] [] [0, 1, 2, 3, 4, 5, 6, 7, 8, 9, 10, 11, 12, 13, 14, 15, 16] (va_runV (b := (q 0)) (As := [.int x2_25]) (rest := []) ⟨hx, hb, hml, hown, hts⟩ (kX3_keepJust l dC dI cI cJ q H.size  nc0 lc0 le0 ge0 wt0 kp0 fo0 po0 na0 ns0 ta_27 zs_6 mx0 ch0 mo0 ms0 fs0 x2_25 (fw_be hq)) (cwV 1 hts gX3_greedy_X3_keepJust rfl rfl rfl (by decide +kernel) ⟨Nat.le_of_ble_eq_true rfl, Nat.le_of_ble_eq_true rfl⟩) ⟨fw_blind, va_recv hK hPc (ci := 3) (q0 := 0) rfl rfl, fun U hU hW => fw_pre hPc hK hDc hN hU hW⟩ rfl rfl hl.1 rfl (lv_room (Nat.le_of_ble_eq_true rfl)) dX3_greedy_112 ⟨Nat.zero_le _, Nat.zero_le _⟩) hP hD hS hA rfl rfl (by decide) (by decide) (by decide) (fun _ => rfl) (fun r_30 u H locs hw hP hD hS => ?_)
    obtain ⟨kp_29, rfl⟩ : ∃ z, z = u := ⟨_, rfl⟩
    have hq := fw_bs hw hq
    try dsimp only at hq
    have hP : va_P (dC, dI) vwCl (wX cI cJ q  nc0 lc0 le0 ge0 wt0 kp_29 fo0 po0 na0 ns0 ta_27 zs_6 mx0 ch0 mo0 ms0 fs0) H := hP
    have hD : va_D A (wX cI cJ q  nc0 lc0 le0 ge0 wt0 kp_29 fo0 po0 na0 ns0 ta_27 zs_6 mx0 ch0 mo0 ms0 fs0) := hD
    exact W.iret (v := r_30) hx hb hr (fun t ht hW => ⟨⟨r_30, (kp_29, ta_27, zs_6), rfl, hz.trans hq.symm, by rw [ht]; exact hP, hD⟩, hS.F ht⟩) hS.2.2 dX3_greedy_115
  · have hq := fw_it c_4 hq
    refine lv_bipush (v := (-3 : Int32)) hx hb dX3_greedy_10 (by decide) ?_
    exact W.iret (v := (-3 : Int32)) hx hb hr (fun t ht hW => ⟨⟨(-3 : Int32), (kp0, ta0, ts0), rfl, hz.trans hq.symm, by rw [ht]; exact hP, hD⟩, hS.F ht⟩) hS.2.2 dX3_greedy_12
