/-! ===== contracts, by own program ===== -/
set_option maxHeartbeats 4000000 in
set_option maxRecDepth 100000 in
theorem kX3_fewestWithin (l : Launch) (dC : Nat → ClassId) (dI : Nat → Nat → Nat) (cI cJ : ClassId) : ∀ (d : Nat) (q : Nat → Nat) (sz : Nat)  (nc0 : Int32) (lc0 : Int32) (le0 : Nat → Int32) (ge0 : Nat → Int32) (wt0 : Nat → Int32) (kp0 : Nat → Int32) (fo0 : Nat → Int32) (po0 : Nat → Int32) (na0 : Nat → Int32) (ns0 : Int32) (ta0 : Nat → Int32) (ts0 : Int32) (mx0 : Nat → Int64) (ch0 : Nat → Int32) (mo0 : Nat → Int64) (ms0 : Int32) (fs0 : Nat → Int32) (y1 : Int32) (y2 : Int32) (y3 : Int32) (y4 : Int32) (y5 : Int32) , (∃ z, pX3_fewestWithin d nc0 lc0 le0 ge0 wt0 na0 ta0 ts0 y1 y2 y3 y4 y5 = some z) → Met l yX3_fewestWithin wsX3_fewestWithin ({ frames := 4 + d, cells := 0, slots := 0, locals := 100 + 29 * d }) (fw_Pc (dC, dI) (fw_tys cI cJ) (wX cI cJ q  nc0 lc0 le0 ge0 wt0 kp0 fo0 po0 na0 ns0 ta0 ts0 mx0 ch0 mo0 ms0 fs0) ([.ref (q 0), .int y1, .int y2, .int y3, .int y4, .int y5] : List Value) sz) (va_Qi (fun (r : Int32) (u : (Nat → Int32) × Int32) => pX3_fewestWithin d nc0 lc0 le0 ge0 wt0 na0 ta0 ts0 y1 y2 y3 y4 y5 = some (r, u)) (fun u t => fw_B (dC, dI) (va_A (wX cI cJ q  nc0 lc0 le0 ge0 wt0 kp0 fo0 po0 na0 ns0 ta0 ts0 mx0 ch0 mo0 ms0 fs0) sz) (wX cI cJ q  nc0 lc0 le0 ge0 wt0 kp0 fo0 po0 na0 ns0 u.1 u.2 mx0 ch0 mo0 ms0 fs0) t) (va_A (wX cI cJ q  nc0 lc0 le0 ge0 wt0 kp0 fo0 po0 na0 ns0 ta0 ts0 mx0 ch0 mo0 ms0 fs0) sz)) 0 0 (va_A (wX cI cJ q  nc0 lc0 le0 ge0 wt0 kp0 fo0 po0 na0 ns0 ta0 ts0 mx0 ch0 mo0 ms0 fs0) sz) := by
  intro d
  induction d with
  | zero => exact fun _ _ _ _ _ _ _ _ _ _ _ _ _ _ _ _ _ _ _ _ _ _ _ _ hd => absurd hd (by rintro ⟨z, hz⟩; cases hz)
  | succ d ih =>
  intro q sz nc0 lc0 le0 ge0 wt0 kp0 fo0 po0 na0 ns0 ta0 ts0 mx0 ch0 mo0 ms0 fs0 y1 y2 y3 y4 y5 hd
  obtain ⟨z, hz⟩ := hd
  refine Met.ofW (cc := cX3_fewestWithin) (maxL := 10) (ret := (some .int)) (by decide) rfl ?_
  intro p e s m args below meth c s₁ B hml hv
  obtain ⟨rfl, hsz, hP, hK, hD0, hN⟩ := hv
  have hx := B.exec
  have hb := B.bytes
  have hr := B.returns
  have hts := atoms_spec (ws := wsX3_fewestWithin) B.pre
  have hown : s.vm.findClass RX3 = some m.cls := findClass_of_methodNamed B.named
  have hlocks := B.notSynchronized
  subst hsz
  have hD := hD0.self (sz := s.heap.size)
  generalize hAe : va_A (wX cI cJ q  nc0 lc0 le0 ge0 wt0 kp0 fo0 po0 na0 ns0 ta0 ts0 mx0 ch0 mo0 ms0 fs0) s.heap.size = A at hD ⊢
  have hA : ∀ q : Nat, s.heap.size ≤ q → A q := fun q h => by rw [← hAe]; exact Or.inr h
  have hq := hz
  dsimp only [pX3_fewestWithin] at hq
  have hl := lv_entry (([.ref (q 0), .int y1, .int y2, .int y3, .int y4, .int y5] : List Value)) (n := 10) (Nat.le_of_ble_eq_true rfl)
  rw [lg_entry_eq]
  generalize (lg_sl (([.ref (q 0), .int y1, .int y2, .int y3, .int y4, .int y5] : List Value)) ++ List.replicate (10 - (lg_sl (([.ref (q 0), .int y1, .int y2, .int y3, .int y4, .int y5] : List Value))).length) Slot.unset).toArray = ls at hl ⊢
  have hl : lv_has ls 10 [(0, .ref (q 0)), (1, .int y1), (2, .int y2), (3, .int y3), (4, .int y4), (5, .int y5)] := hl
  obtain ⟨H, hHe⟩ : ∃ H : Heap, H = s.heap := ⟨_, rfl⟩
  obtain ⟨locs, hLe⟩ : ∃ L : List Loc, L = [] := ⟨_, rfl⟩
  have hP : va_P (dC, dI) vwCl (wX cI cJ q  nc0 lc0 le0 ge0 wt0 kp0 fo0 po0 na0 ns0 ta0 ts0 mx0 ch0 mo0 ms0 fs0) H := by rw [hHe]; exact hP
  have hS : va_S A s.heap H locs := by rw [hHe, hLe]; exact va_S.rf
  show W p l e (headSpec wsX3_fewestWithin ({ frames := 4 + (d + 1), cells := 0, slots := 0, locals := 100 + 29 * (d + 1) })).room s m ([.ref (q 0), .int y1, .int y2, .int y3, .int y4, .int y5] : List Value).toArray below meth c s.heap [] 0 0 (MQ below (va_Qi (fun (r : Int32) (u : (Nat → Int32) × Int32) => pX3_fewestWithin (d + 1) nc0 lc0 le0 ge0 wt0 na0 ta0 ts0 y1 y2 y3 y4 y5 = some (r, u)) (fun u t => fw_B (dC, dI) A (wX cI cJ q  nc0 lc0 le0 ge0 wt0 kp0 fo0 po0 na0 ns0 u.1 u.2 mx0 ch0 mo0 ms0 fs0) t) A) ([.ref (q 0), .int y1, .int y2, .int y3, .int y4, .int y5] : List Value).toArray s 0 0 A) (F0 m 0 ls [])
  rw [← hHe, ← hLe]
  refine lv_iload_n hx hb dX3_fewestWithin_0 rfl (lv_at hl 1 rfl) ?_
  refine lv_iload_n hx hb dX3_fewestWithin_1 rfl (lv_at hl 2 rfl) ?_
  refine lv_ishr hx hb dX3_fewestWithin_2 ?_
  have hPc := hP.sub (ws' := (w0 cI cJ   )) [] rfl
  have hDc := hD.sub (ws' := (w0 cI cJ   )) [] (by decide) rfl
  refine fw_ci (wr := [((q 0), .inr (3, [.int nc0, .int lc0, .ref (q 1), .ref (q 2), .ref (q 3), .ref (q 4), .ref (q 5), .ref (q 6), .ref (q 8), .ref (q 10), .ref (q 12), .ref (q 16)])), ((q 1), .inl (cI, 12, .inl le0)), ((q 2), .inl (cI, 12, .inl ge0)), ((q 3), .inl (cI, 12, .inl wt0)), ((q 4), .inl (cI, 12, .inl kp0)), ((q 5), .inl (cI, 12, .inl fo0)), ((q 6), .inr (2, [.ref (q 7)])), ((q 7), .inl (cI, 7, .inl po0)), ((q 8), .inr (0, [.ref (q 9), .int ns0])), ((q 9), .inl (cI, 49, .inl na0)), ((q 10), .inr (0, [.ref (q 11), .int ts0])), ((q 11), .inl (cI, 49, .inl ta0)), ((q 12), .inr (1, [.ref (q 13), .ref (q 14), .ref (q 15), .int ms0])), ((q 13), .inl (cJ, 49, .inr (.inl mx0))), ((q 14), .inl (cI, 7, .inl ch0)), ((q 15), .inl (cJ, 128, .inr (.inl mo0))), ((q 16), .inl (cI, 10, .inl fs0))]) (w2 := fun u => (wX cI cJ q  nc0 lc0 le0 ge0 wt0 kp0 fo0 po0 na0 ns0 ta0 ts0 mx0 ch0 mo0 ms0 fs0)) [] [0, 1, 2, 3, 4, 5, 6, 7, 8, 9, 10, 11, 12, 13, 14, 15, 16] [0, 1, 2, 3, 4, 5, 6, 7, 8, 9, 10, 11, 12, 13, 14, 15, 16] (va_runS (As := [.int (y1 >>> (y2 &&& 31))]) (rest := []) ⟨hx, hb, hml, hown, hts⟩ (kJ6_bitCount_0f7a4 l dC dI cI cJ  H.size   (y1 >>> (y2 &&& 31)) (fw_be hq)) (va_cwS 1 hts gX3_fewestWithin_J6_bitCount_0f7a4 rfl rfl rfl (by decide +kernel) ⟨show 0 + 1 ≤ 4 + (d + 1) by omega, show 8 + (1 + 11) + 0 ≤ 100 + 29 * (d + 1) by omega⟩) ⟨fw_blind, fun U hU hW => fw_pre hPc hK hDc hN hU hW⟩ rfl rfl hl.1 rfl (lv_room (Nat.le_of_ble_eq_true rfl)) dX3_fewestWithin_3 ⟨Nat.zero_le _, Nat.zero_le _⟩) hP hD hS hA rfl rfl (by decide) (by decide) (by decide) (fun _ => rfl) (fun r_1 u H locs hw hP hD hS => ?_)
  have hq := fw_bs hw hq
  try dsimp only at hq
  refine lv_iload hx hb dX3_fewestWithin_6 (lv_at hl 5 rfl) ?_
  refine va_mmax hx hb (by rw [hml]; exact hl.1.symm) hown (hts (.methodLink RX3 76 Lib.Math.max.name) (by decide +kernel)) (hts (.static Lib.Math.max.name) (by decide +kernel)) (hts (.initialized "java/lang/Math") (by decide +kernel)) (hts (.code Lib.Math.max.name Lib.Math.max.code 2 (some .int)) (by decide +kernel)) (show 1 ≤ 4 + (d + 1) by omega) (Nat.le_trans (show _ ≤ 21 from Nat.le_of_ble_eq_true rfl) (show 21 ≤ 100 + 29 * (d + 1) by omega)) (Nat.zero_le _) (Nat.zero_le _) dX3_fewestWithin_8 ?_
  refine lv_istore (lv' := [(6, .int (if r_1 < y5 then y5 else r_1)), (0, .ref (q 0)), (1, .int y1), (2, .int y2), (3, .int y3), (4, .int y4), (5, .int y5)]) hx hb dX3_fewestWithin_11 hl (by decide) rfl (fun ls hl => ?_)
  refine lv_iload hx hb dX3_fewestWithin_13 (lv_at hl 0 rfl) ?_
  refine lv_iload hx hb dX3_fewestWithin_15 (lv_at hl 5 rfl) ?_
  have hPc := hP.sub (ws' := (w0 cI cJ   )) [] rfl
  have hDc := hD.sub (ws' := (w0 cI cJ   )) [] (by decide) rfl
  refine fw_ci (wr := [((q 0), .inr (3, [.int nc0, .int lc0, .ref (q 1), .ref (q 2), .ref (q 3), .ref (q 4), .ref (q 5), .ref (q 6), .ref (q 8), .ref (q 10), .ref (q 12), .ref (q 16)])), ((q 1), .inl (cI, 12, .inl le0)), ((q 2), .inl (cI, 12, .inl ge0)), ((q 3), .inl (cI, 12, .inl wt0)), ((q 4), .inl (cI, 12, .inl kp0)), ((q 5), .inl (cI, 12, .inl fo0)), ((q 6), .inr (2, [.ref (q 7)])), ((q 7), .inl (cI, 7, .inl po0)), ((q 8), .inr (0, [.ref (q 9), .int ns0])), ((q 9), .inl (cI, 49, .inl na0)), ((q 10), .inr (0, [.ref (q 11), .int ts0])), ((q 11), .inl (cI, 49, .inl ta0)), ((q 12), .inr (1, [.ref (q 13), .ref (q 14), .ref (q 15), .int ms0])), ((q 13), .inl (cJ, 49, .inr (.inl mx0))), ((q 14), .inl (cI, 7, .inl ch0)), ((q 15), .inl (cJ, 128, .inr (.inl mo0))), ((q 16), .inl (cI, 10, .inl fs0))]) (w2 := fun u => (wX cI cJ q  nc0 lc0 le0 ge0 wt0 kp0 fo0 po0 na0 ns0 ta0 ts0 mx0 ch0 mo0 ms0 fs0)) [] [0, 1, 2, 3, 4, 5, 6, 7, 8, 9, 10, 11, 12, 13, 14, 15, 16] [0, 1, 2, 3, 4, 5, 6, 7, 8, 9, 10, 11, 12, 13, 14, 15, 16] (va_runS (As := [.int y4]) (rest := [.int (if r_1 < y5 then y5 else r_1)]) ⟨hx, hb, hml, hown, hts⟩ (kJ6_bitCount_0f7a4 l dC dI cI cJ  H.size   y4 (fw_be hq)) (va_cwS 1 hts gX3_fewestWithin_J6_bitCount_0f7a4 rfl rfl rfl (by decide +kernel) ⟨show 0 + 1 ≤ 4 + (d + 1) by omega, show 8 + (1 + 11) + 0 ≤ 100 + 29 * (d + 1) by omega⟩) ⟨fw_blind, fun U hU hW => fw_pre hPc hK hDc hN hU hW⟩ rfl rfl hl.1 rfl (lv_room (Nat.le_of_ble_eq_true rfl)) dX3_fewestWithin_17 ⟨Nat.zero_le _, Nat.zero_le _⟩) hP hD hS hA rfl rfl (by decide) (by decide) (by decide) (fun _ => rfl) (fun r_3 u H locs hw hP hD hS => ?_)
  have hq := fw_bs hw hq
  try dsimp only at hq
  refine lv_icmp_lt (tgt := 26) hx hb dX3_fewestWithin_20 (by decide) (fun c_5 => ?_) (fun c_5 => ?_)
  · have hq := fw_it c_5 hq
    refine lv_iload_n hx hb dX3_fewestWithin_26 rfl (lv_at hl 3 rfl) ?_
    refine lv_if_gt (tgt := 32) hx hb dX3_fewestWithin_27 (by decide) (fun c_6 => ?_) (fun c_6 => ?_)
    · have hq := fw_it c_6 hq
      refine lv_iload_n hx hb dX3_fewestWithin_32 rfl (lv_at hl 3 rfl) ?_
      refine lv_iconst (v := (1 : Int32)) hx hb dX3_fewestWithin_33 (by decide) ?_
      refine lv_isub hx hb dX3_fewestWithin_34 ?_
      refine lv_istore (lv' := [(7, .int (y2 - (1 : Int32))), (6, .int (if r_1 < y5 then y5 else r_1)), (0, .ref (q 0)), (1, .int y1), (2, .int y2), (3, .int y3), (4, .int y4), (5, .int y5)]) hx hb dX3_fewestWithin_35 hl (by decide) rfl (fun ls hl => ?_)
      refine lv_iload_n hx hb dX3_fewestWithin_37 rfl (lv_at hl 3 rfl) ?_
      refine lv_iconst (v := (1 : Int32)) hx hb dX3_fewestWithin_38 (by decide) ?_
      refine lv_iload hx hb dX3_fewestWithin_39 (lv_at hl 0 rfl) ?_
      refine lv_ishl hx hb dX3_fewestWithin_41 ?_
      refine lv_iconst (v := (-1 : Int32)) hx hb dX3_fewestWithin_42 (by decide) ?_
      refine lv_ixor hx hb dX3_fewestWithin_43 ?_
      refine lv_iand hx hb dX3_fewestWithin_44 ?_
      refine lv_istore (lv' := [(8, .int (y1 &&& (((1 : Int32) <<< ((y2 - (1 : Int32)) &&& 31)) ^^^ (-1 : Int32)))), (7, .int (y2 - (1 : Int32))), (6, .int (if r_1 < y5 then y5 else r_1)), (0, .ref (q 0)), (1, .int y1), (2, .int y2), (3, .int y3), (4, .int y4), (5, .int y5)]) hx hb dX3_fewestWithin_45 hl (by decide) rfl (fun ls hl => ?_)
      refine lv_iload hx hb dX3_fewestWithin_47 (lv_at hl 7 rfl) ?_
      refine lv_istore (lv' := [(9, .int y4), (8, .int (y1 &&& (((1 : Int32) <<< ((y2 - (1 : Int32)) &&& 31)) ^^^ (-1 : Int32)))), (7, .int (y2 - (1 : Int32))), (6, .int (if r_1 < y5 then y5 else r_1)), (0, .ref (q 0)), (1, .int y1), (2, .int y2), (3, .int y3), (4, .int y4), (5, .int y5)]) hx hb dX3_fewestWithin_49 hl (by decide) rfl (fun ls hl => ?_)
      refine lv_aload_n hx hb dX3_fewestWithin_51 rfl (lv_at hl 4 rfl) ?_
      refine lv_iload hx hb dX3_fewestWithin_52 (lv_at hl 1 rfl) ?_
      refine lv_iload_n hx hb dX3_fewestWithin_54 rfl (lv_at hl 7 rfl) ?_
      have hPc := hP.sub (ws' := (wX cI cJ q  nc0 lc0 le0 ge0 wt0 kp0 fo0 po0 na0 ns0 ta0 ts0 mx0 ch0 mo0 ms0 fs0)) [0, 1, 2, 3, 4, 5, 6, 7, 8, 9, 10, 11, 12, 13, 14, 15, 16] rfl
      have hDc := hD.sub (ws' := (wX cI cJ q  nc0 lc0 le0 ge0 wt0 kp0 fo0 po0 na0 ns0 ta0 ts0 mx0 ch0 mo0 ms0 fs0)) [0, 1, 2, 3, 4, 5, 6, 7, 8, 9, 10, 11, 12, 13, 14, 15, 16] (by decide) rfl
      refine fw_ci (wr := []) (w2 := fun u => (wX cI cJ q  nc0 lc0 le0 ge0 wt0 kp0 fo0 po0 na0 ns0 u.1 u.2 mx0 ch0 mo0 ms0 fs0)) [0, 1, 2, 3, 4, 5, 6, 7, 8, 9, 10, 11, 12, 13, 14, 15, 16] [] [0, 1, 2, 3, 4, 5, 6, 7, 8, 9, 10, 11, 12, 13, 14, 15, 16] (va_runV (b := (q 0)) (As := [.int (y1 &&& (((1 : Int32) <<< ((y2 - (1 : Int32)) &&& 31)) ^^^ (-1 : Int32))), .int y3]) (rest := []) ⟨hx, hb, hml, hown, hts⟩ (kX3_isWithinStretch l dC dI cI cJ q H.size  nc0 lc0 le0 ge0 wt0 kp0 fo0 po0 na0 ns0 ta0 ts0 mx0 ch0 mo0 ms0 fs0 (y1 &&& (((1 : Int32) <<< ((y2 - (1 : Int32)) &&& 31)) ^^^ (-1 : Int32))) y3 (fw_be hq)) (cwV 2 hts gX3_fewestWithin_X3_isWithinStretch rfl rfl rfl (by decide +kernel) ⟨show 3 + 1 ≤ 4 + (d + 1) by omega, show 8 + (6 + 11) + 75 ≤ 100 + 29 * (d + 1) by omega⟩) ⟨fw_blind, va_recv hK hPc (ci := 3) (q0 := 0) rfl rfl, fun U hU hW => fw_pre hPc hK hDc hN hU hW⟩ rfl rfl hl.1 rfl (lv_room (Nat.le_of_ble_eq_true rfl)) dX3_fewestWithin_55 ⟨Nat.zero_le _, Nat.zero_le _⟩) hP hD hS hA rfl rfl (by decide) (by decide) (by decide) (fun _ => rfl) (fun r_9 u H locs hw hP hD hS => ?_)
      obtain ⟨ta_7, ts_8⟩ := u
      obtain ⟨hw, n_11⟩ := hw
      have hq := fw_bs hw hq
      try dsimp only at hq
      have hP : va_P (dC, dI) vwCl (wX cI cJ q  nc0 lc0 le0 ge0 wt0 kp0 fo0 po0 na0 ns0 ta_7 ts_8 mx0 ch0 mo0 ms0 fs0) H := hP
      have hD : va_D A (wX cI cJ q  nc0 lc0 le0 ge0 wt0 kp0 fo0 po0 na0 ns0 ta_7 ts_8 mx0 ch0 mo0 ms0 fs0) := hD
      refine lv_if_eq (tgt := 76) hx hb dX3_fewestWithin_58 (by decide) (fun c_12 => ?_) (fun c_12 => ?_)
      · have hq := fw_it c_12 hq
        refine lv_aload_n hx hb dX3_fewestWithin_76 rfl (lv_at hl 4 rfl) ?_
        refine lv_iload_n hx hb dX3_fewestWithin_77 rfl (lv_at hl 5 rfl) ?_
        refine lv_iload hx hb dX3_fewestWithin_78 (lv_at hl 2 rfl) ?_
        refine lv_iload_n hx hb dX3_fewestWithin_80 rfl (lv_at hl 7 rfl) ?_
        refine lv_iload hx hb dX3_fewestWithin_81 (lv_at hl 0 rfl) ?_
        refine lv_iload hx hb dX3_fewestWithin_83 (lv_at hl 9 rfl) ?_
        have hPc := hP.sub (ws' := (wX cI cJ q  nc0 lc0 le0 ge0 wt0 kp0 fo0 po0 na0 ns0 ta_7 ts_8 mx0 ch0 mo0 ms0 fs0)) [0, 1, 2, 3, 4, 5, 6, 7, 8, 9, 10, 11, 12, 13, 14, 15, 16] rfl
        have hDc := hD.sub (ws' := (wX cI cJ q  nc0 lc0 le0 ge0 wt0 kp0 fo0 po0 na0 ns0 ta_7 ts_8 mx0 ch0 mo0 ms0 fs0)) [0, 1, 2, 3, 4, 5, 6, 7, 8, 9, 10, 11, 12, 13, 14, 15, 16] (by decide) rfl
        refine fw_ci (wr := []) (w2 := fun u => (wX cI cJ q  nc0 lc0 le0 ge0 wt0 kp0 fo0 po0 na0 ns0 u.1 u.2 mx0 ch0 mo0 ms0 fs0)) [0, 1, 2, 3, 4, 5, 6, 7, 8, 9, 10, 11, 12, 13, 14, 15, 16] [] [0, 1, 2, 3, 4, 5, 6, 7, 8, 9, 10, 11, 12, 13, 14, 15, 16] (va_runS (As := [.ref (q 0), .int y1, .int (y2 - (1 : Int32)), .int y3, .int y4, .int y5]) (rest := []) ⟨hx, hb, hml, hown, hts⟩ (ih q H.size nc0 lc0 le0 ge0 wt0 kp0 fo0 po0 na0 ns0 ta_7 ts_8 mx0 ch0 mo0 ms0 fs0 y1 (y2 - (1 : Int32)) y3 y4 y5 (fw_be hq)) (va_cwS 6 hts gX3_fewestWithin_X3_fewestWithin rfl rfl rfl (by decide +kernel) ⟨show 4 + d + 1 ≤ 4 + (d + 1) by omega, show 8 + (10 + 11) + (100 + 29 * d) ≤ 100 + 29 * (d + 1) by omega⟩) ⟨fw_blind, fun U hU hW => fw_pre hPc hK hDc hN hU hW⟩ rfl rfl hl.1 rfl (lv_room (Nat.le_of_ble_eq_true rfl)) dX3_fewestWithin_85 ⟨Nat.zero_le _, Nat.zero_le _⟩) hP hD hS hA rfl rfl (by decide) (by decide) (by decide) (fun _ => rfl) (fun r_15 u H locs hw hP hD hS => ?_)
        obtain ⟨ta_13, ts_14⟩ := u
        have hq := fw_bs hw hq
        try dsimp only at hq
        have hP : va_P (dC, dI) vwCl (wX cI cJ q  nc0 lc0 le0 ge0 wt0 kp0 fo0 po0 na0 ns0 ta_13 ts_14 mx0 ch0 mo0 ms0 fs0) H := hP
        have hD : va_D A (wX cI cJ q  nc0 lc0 le0 ge0 wt0 kp0 fo0 po0 na0 ns0 ta_13 ts_14 mx0 ch0 mo0 ms0 fs0) := hD
        exact W.iret (v := r_15) hx hb hr (fun t ht hW => ⟨⟨r_15, (ta_13, ts_14), rfl, hz.trans hq.symm, by rw [ht]; exact hP, hD⟩, hS.F ht⟩) hS.2.2 dX3_fewestWithin_88
      · have hq := fw_if c_12 hq
        refine lv_aload_n hx hb dX3_fewestWithin_61 rfl (lv_at hl 4 rfl) ?_
        refine lv_iload hx hb dX3_fewestWithin_62 (lv_at hl 1 rfl) ?_
        refine lv_iload hx hb dX3_fewestWithin_64 (lv_at hl 2 rfl) ?_
        refine lv_iload_n hx hb dX3_fewestWithin_66 rfl (lv_at hl 7 rfl) ?_
        refine lv_iload hx hb dX3_fewestWithin_67 (lv_at hl 0 rfl) ?_
        refine lv_iload hx hb dX3_fewestWithin_69 (lv_at hl 9 rfl) ?_
        have hPc := hP.sub (ws' := (wX cI cJ q  nc0 lc0 le0 ge0 wt0 kp0 fo0 po0 na0 ns0 ta_7 ts_8 mx0 ch0 mo0 ms0 fs0)) [0, 1, 2, 3, 4, 5, 6, 7, 8, 9, 10, 11, 12, 13, 14, 15, 16] rfl
        have hDc := hD.sub (ws' := (wX cI cJ q  nc0 lc0 le0 ge0 wt0 kp0 fo0 po0 na0 ns0 ta_7 ts_8 mx0 ch0 mo0 ms0 fs0)) [0, 1, 2, 3, 4, 5, 6, 7, 8, 9, 10, 11, 12, 13, 14, 15, 16] (by decide) rfl
        refine fw_ci (wr := []) (w2 := fun u => (wX cI cJ q  nc0 lc0 le0 ge0 wt0 kp0 fo0 po0 na0 ns0 u.1 u.2 mx0 ch0 mo0 ms0 fs0)) [0, 1, 2, 3, 4, 5, 6, 7, 8, 9, 10, 11, 12, 13, 14, 15, 16] [] [0, 1, 2, 3, 4, 5, 6, 7, 8, 9, 10, 11, 12, 13, 14, 15, 16] (va_runS (As := [.ref (q 0), .int (y1 &&& (((1 : Int32) <<< ((y2 - (1 : Int32)) &&& 31)) ^^^ (-1 : Int32))), .int (y2 - (1 : Int32)), .int y3, .int y4, .int y5]) (rest := []) ⟨hx, hb, hml, hown, hts⟩ (ih q H.size nc0 lc0 le0 ge0 wt0 kp0 fo0 po0 na0 ns0 ta_7 ts_8 mx0 ch0 mo0 ms0 fs0 (y1 &&& (((1 : Int32) <<< ((y2 - (1 : Int32)) &&& 31)) ^^^ (-1 : Int32))) (y2 - (1 : Int32)) y3 y4 y5 (fw_be hq)) (va_cwS 6 hts gX3_fewestWithin_X3_fewestWithin rfl rfl rfl (by decide +kernel) ⟨show 4 + d + 1 ≤ 4 + (d + 1) by omega, show 8 + (10 + 11) + (100 + 29 * d) ≤ 100 + 29 * (d + 1) by omega⟩) ⟨fw_blind, fun U hU hW => fw_pre hPc hK hDc hN hU hW⟩ rfl rfl hl.1 rfl (lv_room (Nat.le_of_ble_eq_true rfl)) dX3_fewestWithin_71 ⟨Nat.zero_le _, Nat.zero_le _⟩) hP hD hS hA rfl rfl (by decide) (by decide) (by decide) (fun _ => rfl) (fun r_19 u H locs hw hP hD hS => ?_)
        obtain ⟨ta_17, ts_18⟩ := u
        have hq := fw_bs hw hq
        try dsimp only at hq
        have hP : va_P (dC, dI) vwCl (wX cI cJ q  nc0 lc0 le0 ge0 wt0 kp0 fo0 po0 na0 ns0 ta_17 ts_18 mx0 ch0 mo0 ms0 fs0) H := hP
        have hD : va_D A (wX cI cJ q  nc0 lc0 le0 ge0 wt0 kp0 fo0 po0 na0 ns0 ta_17 ts_18 mx0 ch0 mo0 ms0 fs0) := hD
        refine lv_istore (lv' := [(9, .int r_19), (8, .int (y1 &&& (((1 : Int32) <<< ((y2 - (1 : Int32)) &&& 31)) ^^^ (-1 : Int32)))), (7, .int (y2 - (1 : Int32))), (6, .int (if r_1 < y5 then y5 else r_1)), (0, .ref (q 0)), (1, .int y1), (2, .int y2), (3, .int y3), (4, .int y4), (5, .int y5)]) hx hb dX3_fewestWithin_74 hl (by decide) rfl (fun ls hl => ?_)
        refine lv_aload_n hx hb dX3_fewestWithin_76 rfl (lv_at hl 4 rfl) ?_
        refine lv_iload_n hx hb dX3_fewestWithin_77 rfl (lv_at hl 5 rfl) ?_
        refine lv_iload hx hb dX3_fewestWithin_78 (lv_at hl 2 rfl) ?_
        refine lv_iload_n hx hb dX3_fewestWithin_80 rfl (lv_at hl 7 rfl) ?_
        refine lv_iload hx hb dX3_fewestWithin_81 (lv_at hl 0 rfl) ?_
        refine lv_iload hx hb dX3_fewestWithin_83 (lv_at hl 9 rfl) ?_
        have hPc := hP.sub (ws' := (wX cI cJ q  nc0 lc0 le0 ge0 wt0 kp0 fo0 po0 na0 ns0 ta_17 ts_18 mx0 ch0 mo0 ms0 fs0)) [0, 1, 2, 3, 4, 5, 6, 7, 8, 9, 10, 11, 12, 13, 14, 15, 16] rfl
        have hDc := hD.sub (ws' := (wX cI cJ q  nc0 lc0 le0 ge0 wt0 kp0 fo0 po0 na0 ns0 ta_17 ts_18 mx0 ch0 mo0 ms0 fs0)) [0, 1, 2, 3, 4, 5, 6, 7, 8, 9, 10, 11, 12, 13, 14, 15, 16] (by decide) rfl
        refine fw_ci (wr := []) (w2 := fun u => (wX cI cJ q  nc0 lc0 le0 ge0 wt0 kp0 fo0 po0 na0 ns0 u.1 u.2 mx0 ch0 mo0 ms0 fs0)) [0, 1, 2, 3, 4, 5, 6, 7, 8, 9, 10, 11, 12, 13, 14, 15, 16] [] [0, 1, 2, 3, 4, 5, 6, 7, 8, 9, 10, 11, 12, 13, 14, 15, 16] (va_runS (As := [.ref (q 0), .int y1, .int (y2 - (1 : Int32)), .int y3, .int r_19, .int y5]) (rest := []) ⟨hx, hb, hml, hown, hts⟩ (ih q H.size nc0 lc0 le0 ge0 wt0 kp0 fo0 po0 na0 ns0 ta_17 ts_18 mx0 ch0 mo0 ms0 fs0 y1 (y2 - (1 : Int32)) y3 r_19 y5 (fw_be hq)) (va_cwS 6 hts gX3_fewestWithin_X3_fewestWithin rfl rfl rfl (by decide +kernel) ⟨show 4 + d + 1 ≤ 4 + (d + 1) by omega, show 8 + (10 + 11) + (100 + 29 * d) ≤ 100 + 29 * (d + 1) by omega⟩) ⟨fw_blind, fun U hU hW => fw_pre hPc hK hDc hN hU hW⟩ rfl rfl hl.1 rfl (lv_room (Nat.le_of_ble_eq_true rfl)) dX3_fewestWithin_85 ⟨Nat.zero_le _, Nat.zero_le _⟩) hP hD hS hA rfl rfl (by decide) (by decide) (by decide) (fun _ => rfl) (fun r_23 u H locs hw hP hD hS => ?_)
        obtain ⟨ta_21, ts_22⟩ := u
        have hq := fw_bs hw hq
        try dsimp only at hq
        have hP : va_P (dC, dI) vwCl (wX cI cJ q  nc0 lc0 le0 ge0 wt0 kp0 fo0 po0 na0 ns0 ta_21 ts_22 mx0 ch0 mo0 ms0 fs0) H := hP
        have hD : va_D A (wX cI cJ q  nc0 lc0 le0 ge0 wt0 kp0 fo0 po0 na0 ns0 ta_21 ts_22 mx0 ch0 mo0 ms0 fs0) := hD
        exact W.iret (v := r_23) hx hb hr (fun t ht hW => ⟨⟨r_23, (ta_21, ts_22), rfl, hz.trans hq.symm, by rw [ht]; exact hP, hD⟩, hS.F ht⟩) hS.2.2 dX3_fewestWithin_88
    · have hq := fw_if c_6 hq
      refine lv_iload_n hx hb dX3_fewestWithin_30 rfl (lv_at hl 2 rfl) ?_
      exact W.iret (v := y1) hx hb hr (fun t ht hW => ⟨⟨y1, (ta0, ts0), rfl, hz.trans hq.symm, by rw [ht]; exact hP, hD⟩, hS.F ht⟩) hS.2.2 dX3_fewestWithin_31
  · have hq := fw_if c_5 hq
    refine lv_iload hx hb dX3_fewestWithin_23 (lv_at hl 5 rfl) ?_
    exact W.iret (v := y4) hx hb hr (fun t ht hW => ⟨⟨y4, (ta0, ts0), rfl, hz.trans hq.symm, by rw [ht]; exact hP, hD⟩, hS.F ht⟩) hS.2.2 dX3_fewestWithin_25
set_option maxHeartbeats 4000000 in
set_option maxRecDepth 100000 in
theorem kX3_fewestSet (l : Launch) (dC : Nat → ClassId) (dI : Nat → Nat → Nat) (cI cJ : ClassId) (q : Nat → Nat) (sz : Nat)  (nc0 : Int32) (lc0 : Int32) (le0 : Nat → Int32) (ge0 : Nat → Int32) (wt0 : Nat → Int32) (kp0 : Nat → Int32) (fo0 : Nat → Int32) (po0 : Nat → Int32) (na0 : Nat → Int32) (ns0 : Int32) (ta0 : Nat → Int32) (ts0 : Int32) (mx0 : Nat → Int64) (ch0 : Nat → Int32) (mo0 : Nat → Int64) (ms0 : Int32) (fs0 : Nat → Int32) (y1 : Int32) (hd : ∃ z, pX3_fewestSet nc0 lc0 le0 ge0 wt0 kp0 fo0 po0 na0 ns0 ta0 ts0 fs0 y1 = some z) : Met l yX3_fewestSet wsX3_fewestSet ({ frames := 18, cells := 0, slots := 0, locals := 506 }) (fw_Pc (dC, dI) (fw_tys cI cJ) (wX cI cJ q  nc0 lc0 le0 ge0 wt0 kp0 fo0 po0 na0 ns0 ta0 ts0 mx0 ch0 mo0 ms0 fs0) ([.ref (q 0), .int y1] : List Value) sz) (va_Qi (fun (r : Int32) (u : (Nat → Int32) × (Nat → Int32) × (Nat → Int32) × Int32 × (Nat → Int32) × Int32 × (Nat → Int32)) => pX3_fewestSet nc0 lc0 le0 ge0 wt0 kp0 fo0 po0 na0 ns0 ta0 ts0 fs0 y1 = some (r, u)) (fun u t => fw_B (dC, dI) (va_A (wX cI cJ q  nc0 lc0 le0 ge0 wt0 kp0 fo0 po0 na0 ns0 ta0 ts0 mx0 ch0 mo0 ms0 fs0) sz) (wX cI cJ q  nc0 lc0 le0 ge0 wt0 kp0 u.1 u.2.1 u.2.2.1 u.2.2.2.1 u.2.2.2.2.1 u.2.2.2.2.2.1 mx0 ch0 mo0 ms0 u.2.2.2.2.2.2) t) (va_A (wX cI cJ q  nc0 lc0 le0 ge0 wt0 kp0 fo0 po0 na0 ns0 ta0 ts0 mx0 ch0 mo0 ms0 fs0) sz)) 0 0 (va_A (wX cI cJ q  nc0 lc0 le0 ge0 wt0 kp0 fo0 po0 na0 ns0 ta0 ts0 mx0 ch0 mo0 ms0 fs0) sz) := by
  obtain ⟨z, hz⟩ := hd
  refine Met.ofW (cc := cX3_fewestSet) (maxL := 3) (ret := (some .int)) (by decide) rfl ?_
  intro p e s m args below meth c s₁ B hml hv
  obtain ⟨rfl, hsz, hP, hK, hD0, hN⟩ := hv
  have hx := B.exec
  have hb := B.bytes
  have hr := B.returns
  have hts := atoms_spec (ws := wsX3_fewestSet) B.pre
  have hown : s.vm.findClass RX3 = some m.cls := findClass_of_methodNamed B.named
  have hlocks := B.notSynchronized
  subst hsz
  have hD := hD0.self (sz := s.heap.size)
  generalize hAe : va_A (wX cI cJ q  nc0 lc0 le0 ge0 wt0 kp0 fo0 po0 na0 ns0 ta0 ts0 mx0 ch0 mo0 ms0 fs0) s.heap.size = A at hD ⊢
  have hA : ∀ q : Nat, s.heap.size ≤ q → A q := fun q h => by rw [← hAe]; exact Or.inr h
  have hinX3 : ∀ w ∈ u_ws RX3 TX3 12, w ∈ wsX3_fewestSet := by decide +kernel
  have hf13 := hts (.fieldLink RX3 13 "FewLines" "lineCount" "I") (by decide +kernel)
  have hf42 := hts (.fieldLink RX3 42 "FewLines" "netLengths" "LFewLines$Lengths;") (by decide +kernel)
  have hf56 := hts (.fieldLink RX3 56 "FewLines" "fewestSets" "[I") (by decide +kernel)
  have hq := hz
  dsimp only [pX3_fewestSet] at hq
  have hl := lv_entry (([.ref (q 0), .int y1] : List Value)) (n := 3) (Nat.le_of_ble_eq_true rfl)
  rw [lg_entry_eq]
  generalize (lg_sl (([.ref (q 0), .int y1] : List Value)) ++ List.replicate (3 - (lg_sl (([.ref (q 0), .int y1] : List Value))).length) Slot.unset).toArray = ls at hl ⊢
  have hl : lv_has ls 3 [(0, .ref (q 0)), (1, .int y1)] := hl
  obtain ⟨H, hHe⟩ : ∃ H : Heap, H = s.heap := ⟨_, rfl⟩
  obtain ⟨locs, hLe⟩ : ∃ L : List Loc, L = [] := ⟨_, rfl⟩
  have hP : va_P (dC, dI) vwCl (wX cI cJ q  nc0 lc0 le0 ge0 wt0 kp0 fo0 po0 na0 ns0 ta0 ts0 mx0 ch0 mo0 ms0 fs0) H := by rw [hHe]; exact hP
  have hS : va_S A s.heap H locs := by rw [hHe, hLe]; exact va_S.rf
  show W p l e (headSpec wsX3_fewestSet ({ frames := 18, cells := 0, slots := 0, locals := 506 })).room s m ([.ref (q 0), .int y1] : List Value).toArray below meth c s.heap [] 0 0 (MQ below (va_Qi (fun (r : Int32) (u : (Nat → Int32) × (Nat → Int32) × (Nat → Int32) × Int32 × (Nat → Int32) × Int32 × (Nat → Int32)) => pX3_fewestSet nc0 lc0 le0 ge0 wt0 kp0 fo0 po0 na0 ns0 ta0 ts0 fs0 y1 = some (r, u)) (fun u t => fw_B (dC, dI) A (wX cI cJ q  nc0 lc0 le0 ge0 wt0 kp0 u.1 u.2.1 u.2.2.1 u.2.2.2.1 u.2.2.2.2.1 u.2.2.2.2.2.1 mx0 ch0 mo0 ms0 u.2.2.2.2.2.2) t) A) ([.ref (q 0), .int y1] : List Value).toArray s 0 0 A) (F0 m 0 ls [])
  rw [← hHe, ← hLe]
  refine lv_aload_n hx hb dX3_fewestSet_0 rfl (lv_at hl 0 rfl) ?_
  refine va_get (D := (dC, dI)) (ci := 3) (v := .ref (q 16)) (C := RX3) (T := TX3) (N := 12) hx hb hts hinX3 hown hK hP 0 rfl rfl 11 (by decide) hf56 (fun _ h9 => h9) rfl dX3_fewestSet_1 ?_
  refine lv_iload_n hx hb dX3_fewestSet_4 rfl (lv_at hl 1 rfl) ?_
  obtain ⟨h_1, hq⟩ := fw_ck_s hq
  refine va_iald hx hb hK hP 16 0 rfl rfl h_1 dX3_fewestSet_5 ?_
  refine lv_iconst (v := (-1 : Int32)) hx hb dX3_fewestSet_6 (by decide) ?_
  refine lv_icmp_ne (tgt := 46) hx hb dX3_fewestSet_7 (by decide) (fun c_2 => ?_) (fun c_2 => ?_)
  · have hq := fw_if c_2 hq
    refine lv_aload_n hx hb dX3_fewestSet_46 rfl (lv_at hl 0 rfl) ?_
    refine va_get (D := (dC, dI)) (ci := 3) (v := .ref (q 16)) (C := RX3) (T := TX3) (N := 12) hx hb hts hinX3 hown hK hP 0 rfl rfl 11 (by decide) hf56 (fun _ h9 => h9) rfl dX3_fewestSet_47 ?_
    refine lv_iload_n hx hb dX3_fewestSet_50 rfl (lv_at hl 1 rfl) ?_
    obtain ⟨h_3, hq⟩ := fw_ck_s hq
    refine va_iald hx hb hK hP 16 0 rfl rfl h_3 dX3_fewestSet_51 ?_
    exact W.iret (v := (fs0 (y1).toNatClampNeg)) hx hb hr (fun t ht hW => ⟨⟨(fs0 (y1).toNatClampNeg), (fo0, po0, na0, ns0, ta0, ts0, fs0), rfl, hz.trans hq.symm, by rw [ht]; exact hP, hD⟩, hS.F ht⟩) hS.2.2 dX3_fewestSet_52
  · have hq := fw_it c_2 hq
    refine lv_aload_n hx hb dX3_fewestSet_10 rfl (lv_at hl 0 rfl) ?_
    refine lv_iconst (v := (0 : Int32)) hx hb dX3_fewestSet_11 (by decide) ?_
    have hPc := hP.sub (ws' := (wX cI cJ q  nc0 lc0 le0 ge0 wt0 kp0 fo0 po0 na0 ns0 ta0 ts0 mx0 ch0 mo0 ms0 fs0)) [0, 1, 2, 3, 4, 5, 6, 7, 8, 9, 10, 11, 12, 13, 14, 15, 16] rfl
    have hDc := hD.sub (ws' := (wX cI cJ q  nc0 lc0 le0 ge0 wt0 kp0 fo0 po0 na0 ns0 ta0 ts0 mx0 ch0 mo0 ms0 fs0)) [0, 1, 2, 3, 4, 5, 6, 7, 8, 9, 10, 11, 12, 13, 14, 15, 16] (by decide) rfl
    refine fw_ci (wr := []) (w2 := fun u => (wX cI cJ q  nc0 lc0 le0 ge0 wt0 kp0 fo0 po0 na0 ns0 ta0 ts0 mx0 ch0 mo0 ms0 fs0)) [0, 1, 2, 3, 4, 5, 6, 7, 8, 9, 10, 11, 12, 13, 14, 15, 16] [] [0, 1, 2, 3, 4, 5, 6, 7, 8, 9, 10, 11, 12, 13, 14, 15, 16] (va_runV (b := (q 0)) (As := [.int (0 : Int32)]) (rest := []) ⟨hx, hb, hml, hown, hts⟩ (kX3_linesOf l dC dI cI cJ q H.size  nc0 lc0 le0 ge0 wt0 kp0 fo0 po0 na0 ns0 ta0 ts0 mx0 ch0 mo0 ms0 fs0 (0 : Int32) (fw_be hq)) (cwV 1 hts gX3_fewestSet_X3_linesOf rfl rfl rfl (by decide +kernel) ⟨Nat.le_of_ble_eq_true rfl, Nat.le_of_ble_eq_true rfl⟩) ⟨fw_blind, va_recv hK hPc (ci := 3) (q0 := 0) rfl rfl, fun U hU hW => fw_pre hPc hK hDc hN hU hW⟩ rfl rfl hl.1 rfl (lv_room (Nat.le_of_ble_eq_true rfl)) dX3_fewestSet_12 ⟨Nat.zero_le _, Nat.zero_le _⟩) hP hD hS hA rfl rfl (by decide) (by decide) (by decide) (fun _ => rfl) (fun r_4 u H locs hw hP hD hS => ?_)
    have hq := fw_bs hw hq
    try dsimp only at hq
    refine lv_istore_n (lv' := [(2, .int r_4), (0, .ref (q 0)), (1, .int y1)]) hx hb dX3_fewestSet_15 rfl hl (by decide) rfl (fun ls hl => ?_)
    refine lv_aload_n hx hb dX3_fewestSet_16 rfl (lv_at hl 1 rfl) ?_
    refine lv_aload_n hx hb dX3_fewestSet_17 rfl (lv_at hl 1 rfl) ?_
    refine va_get (D := (dC, dI)) (ci := 3) (v := .ref (q 8)) (C := RX3) (T := TX3) (N := 12) hx hb hts hinX3 hown hK hP 0 rfl rfl 8 (by decide) hf42 (fun _ h9 => h9) rfl dX3_fewestSet_18 ?_
    refine lv_iload_n hx hb dX3_fewestSet_21 rfl (lv_at hl 0 rfl) ?_
    have hPc := hP.sub (ws' := (wX cI cJ q  nc0 lc0 le0 ge0 wt0 kp0 fo0 po0 na0 ns0 ta0 ts0 mx0 ch0 mo0 ms0 fs0)) [0, 1, 2, 3, 4, 5, 6, 7, 8, 9, 10, 11, 12, 13, 14, 15, 16] rfl
    have hDc := hD.sub (ws' := (wX cI cJ q  nc0 lc0 le0 ge0 wt0 kp0 fo0 po0 na0 ns0 ta0 ts0 mx0 ch0 mo0 ms0 fs0)) [0, 1, 2, 3, 4, 5, 6, 7, 8, 9, 10, 11, 12, 13, 14, 15, 16] (by decide) rfl
    refine fw_cv (wr := []) (w2 := fun u => (wX cI cJ q  nc0 lc0 le0 ge0 wt0 kp0 fo0 po0 u.1 u.2 ta0 ts0 mx0 ch0 mo0 ms0 fs0)) [0, 1, 2, 3, 4, 5, 6, 7, 8, 9, 10, 11, 12, 13, 14, 15, 16] [] [0, 1, 2, 3, 4, 5, 6, 7, 8, 9, 10, 11, 12, 13, 14, 15, 16] (va_runV (b := (q 0)) (As := [.ref (q 8), .int r_4]) (rest := []) ⟨hx, hb, hml, hown, hts⟩ (kX3_measure_N l dC dI cI cJ q H.size  nc0 lc0 le0 ge0 wt0 kp0 fo0 po0 na0 ns0 ta0 ts0 mx0 ch0 mo0 ms0 fs0 r_4 (fw_be hq)) (cwV 2 hts gX3_fewestSet_X3_measure rfl rfl rfl (by decide +kernel) ⟨Nat.le_of_ble_eq_true rfl, Nat.le_of_ble_eq_true rfl⟩) ⟨fw_blind, va_recv hK hPc (ci := 3) (q0 := 0) rfl rfl, fun U hU hW => fw_pre hPc hK hDc hN hU hW⟩ rfl rfl hl.1 rfl (lv_room (Nat.le_of_ble_eq_true rfl)) dX3_fewestSet_22 ⟨Nat.zero_le _, Nat.zero_le _⟩) hP hD hS hA rfl rfl (by decide) (by decide) (by decide) (fun _ => rfl) (fun u H locs hw hP hD hS => ?_)
    obtain ⟨na_6, ns_7⟩ := u
    have hq := fw_bs hw hq
    try dsimp only at hq
    have hP : va_P (dC, dI) vwCl (wX cI cJ q  nc0 lc0 le0 ge0 wt0 kp0 fo0 po0 na_6 ns_7 ta0 ts0 mx0 ch0 mo0 ms0 fs0) H := hP
    have hD : va_D A (wX cI cJ q  nc0 lc0 le0 ge0 wt0 kp0 fo0 po0 na_6 ns_7 ta0 ts0 mx0 ch0 mo0 ms0 fs0) := hD
    refine lv_aload_n hx hb dX3_fewestSet_25 rfl (lv_at hl 1 rfl) ?_
    refine va_get (D := (dC, dI)) (ci := 3) (v := .ref (q 16)) (C := RX3) (T := TX3) (N := 12) hx hb hts hinX3 hown hK hP 0 rfl rfl 11 (by decide) hf56 (fun _ h9 => h9) rfl dX3_fewestSet_26 ?_
    refine lv_iload_n hx hb dX3_fewestSet_29 rfl (lv_at hl 2 rfl) ?_
    refine lv_aload_n hx hb dX3_fewestSet_30 rfl (lv_at hl 1 rfl) ?_
    refine lv_iload_n hx hb dX3_fewestSet_31 rfl (lv_at hl 0 rfl) ?_
    refine lv_aload_n hx hb dX3_fewestSet_32 rfl (lv_at hl 1 rfl) ?_
    refine va_get (D := (dC, dI)) (ci := 3) (v := .int lc0) (C := RX3) (T := TX3) (N := 12) hx hb hts hinX3 hown hK hP 0 rfl rfl 1 (by decide) hf13 (fun _ h9 => h9) rfl dX3_fewestSet_33 ?_
    refine lv_iload_n hx hb dX3_fewestSet_36 rfl (lv_at hl 2 rfl) ?_
    refine lv_iload_n hx hb dX3_fewestSet_37 rfl (lv_at hl 0 rfl) ?_
    refine lv_aload_n hx hb dX3_fewestSet_38 rfl (lv_at hl 1 rfl) ?_
    have hPc := hP.sub (ws' := (wX cI cJ q  nc0 lc0 le0 ge0 wt0 kp0 fo0 po0 na_6 ns_7 ta0 ts0 mx0 ch0 mo0 ms0 fs0)) [0, 1, 2, 3, 4, 5, 6, 7, 8, 9, 10, 11, 12, 13, 14, 15, 16] rfl
    have hDc := hD.sub (ws' := (wX cI cJ q  nc0 lc0 le0 ge0 wt0 kp0 fo0 po0 na_6 ns_7 ta0 ts0 mx0 ch0 mo0 ms0 fs0)) [0, 1, 2, 3, 4, 5, 6, 7, 8, 9, 10, 11, 12, 13, 14, 15, 16] (by decide) rfl
    refine fw_ci (wr := []) (w2 := fun u => (wX cI cJ q  nc0 lc0 le0 ge0 wt0 kp0 u.1 u.2 na_6 ns_7 ta0 ts0 mx0 ch0 mo0 ms0 fs0)) [0, 1, 2, 3, 4, 5, 6, 7, 8, 9, 10, 11, 12, 13, 14, 15, 16] [] [0, 1, 2, 3, 4, 5, 6, 7, 8, 9, 10, 11, 12, 13, 14, 15, 16] (va_runV (b := (q 0)) (As := []) (rest := [.int r_4, .int y1, .int lc0, .int r_4, .ref (q 0), .int y1, .ref (q 16)]) ⟨hx, hb, hml, hown, hts⟩ (kX3_leastToJoin l dC dI cI cJ q H.size  nc0 lc0 le0 ge0 wt0 kp0 fo0 po0 na_6 ns_7 ta0 ts0 mx0 ch0 mo0 ms0 fs0  (fw_be hq)) (cwV 0 hts gX3_fewestSet_X3_leastToJoin rfl rfl rfl (by decide +kernel) ⟨Nat.le_of_ble_eq_true rfl, Nat.le_of_ble_eq_true rfl⟩) ⟨fw_blind, va_recv hK hPc (ci := 3) (q0 := 0) rfl rfl, fun U hU hW => fw_pre hPc hK hDc hN hU hW⟩ rfl rfl hl.1 rfl (lv_room (Nat.le_of_ble_eq_true rfl)) dX3_fewestSet_39 ⟨Nat.zero_le _, Nat.zero_le _⟩) hP hD hS hA rfl rfl (by decide) (by decide) (by decide) (fun _ => rfl) (fun r_12 u H locs hw hP hD hS => ?_)
    obtain ⟨fo_10, po_11⟩ := u
    have hq := fw_bs hw hq
    try dsimp only at hq
    have hP : va_P (dC, dI) vwCl (wX cI cJ q  nc0 lc0 le0 ge0 wt0 kp0 fo_10 po_11 na_6 ns_7 ta0 ts0 mx0 ch0 mo0 ms0 fs0) H := hP
    have hD : va_D A (wX cI cJ q  nc0 lc0 le0 ge0 wt0 kp0 fo_10 po_11 na_6 ns_7 ta0 ts0 mx0 ch0 mo0 ms0 fs0) := hD
    have hPc := hP.sub (ws' := (wX cI cJ q  nc0 lc0 le0 ge0 wt0 kp0 fo_10 po_11 na_6 ns_7 ta0 ts0 mx0 ch0 mo0 ms0 fs0)) [0, 1, 2, 3, 4, 5, 6, 7, 8, 9, 10, 11, 12, 13, 14, 15, 16] rfl
    have hDc := hD.sub (ws' := (wX cI cJ q  nc0 lc0 le0 ge0 wt0 kp0 fo_10 po_11 na_6 ns_7 ta0 ts0 mx0 ch0 mo0 ms0 fs0)) [0, 1, 2, 3, 4, 5, 6, 7, 8, 9, 10, 11, 12, 13, 14, 15, 16] (by decide) rfl
    refine fw_ci (wr := []) (w2 := fun u => (wX cI cJ q  nc0 lc0 le0 ge0 wt0 kp0 fo_10 po_11 na_6 ns_7 u.1 u.2 mx0 ch0 mo0 ms0 fs0)) [0, 1, 2, 3, 4, 5, 6, 7, 8, 9, 10, 11, 12, 13, 14, 15, 16] [] [0, 1, 2, 3, 4, 5, 6, 7, 8, 9, 10, 11, 12, 13, 14, 15, 16] (va_runS (As := [.ref (q 0), .int r_4, .int lc0, .int y1, .int r_4, .int r_12]) (rest := [.int y1, .ref (q 16)]) ⟨hx, hb, hml, hown, hts⟩ (kX3_fewestWithin l dC dI cI cJ 13 q H.size  nc0 lc0 le0 ge0 wt0 kp0 fo_10 po_11 na_6 ns_7 ta0 ts0 mx0 ch0 mo0 ms0 fs0 r_4 lc0 y1 r_4 r_12 (fw_be hq)) (va_cwS 6 hts gX3_fewestSet_X3_fewestWithin rfl rfl rfl (by decide +kernel) ⟨Nat.le_of_ble_eq_true rfl, Nat.le_of_ble_eq_true rfl⟩) ⟨fw_blind, fun U hU hW => fw_pre hPc hK hDc hN hU hW⟩ rfl rfl hl.1 rfl (lv_room (Nat.le_of_ble_eq_true rfl)) dX3_fewestSet_42 ⟨Nat.zero_le _, Nat.zero_le _⟩) hP hD hS hA rfl rfl (by decide) (by decide) (by decide) (fun _ => rfl) (fun r_16 u H locs hw hP hD hS => ?_)
    obtain ⟨ta_14, ts_15⟩ := u
    have hq := fw_bs hw hq
    try dsimp only at hq
    have hP : va_P (dC, dI) vwCl (wX cI cJ q  nc0 lc0 le0 ge0 wt0 kp0 fo_10 po_11 na_6 ns_7 ta_14 ts_15 mx0 ch0 mo0 ms0 fs0) H := hP
    have hD : va_D A (wX cI cJ q  nc0 lc0 le0 ge0 wt0 kp0 fo_10 po_11 na_6 ns_7 ta_14 ts_15 mx0 ch0 mo0 ms0 fs0) := hD
    obtain ⟨h_18, hq⟩ := fw_ck_s hq
    refine va_iast hx hb hK hP hD hS 16 0 rfl rfl h_18 dX3_fewestSet_45 (fun H locs hP hD hS => ?_)
    have hP : va_P (dC, dI) vwCl (wX cI cJ q  nc0 lc0 le0 ge0 wt0 kp0 fo_10 po_11 na_6 ns_7 ta_14 ts_15 mx0 ch0 mo0 ms0 (upd fs0 (y1).toNatClampNeg r_16)) H := hP
    have hD : va_D A (wX cI cJ q  nc0 lc0 le0 ge0 wt0 kp0 fo_10 po_11 na_6 ns_7 ta_14 ts_15 mx0 ch0 mo0 ms0 (upd fs0 (y1).toNatClampNeg r_16)) := hD
    refine lv_aload_n hx hb dX3_fewestSet_46 rfl (lv_at hl 1 rfl) ?_
    refine va_get (D := (dC, dI)) (ci := 3) (v := .ref (q 16)) (C := RX3) (T := TX3) (N := 12) hx hb hts hinX3 hown hK hP 0 rfl rfl 11 (by decide) hf56 (fun _ h9 => h9) rfl dX3_fewestSet_47 ?_
    refine lv_iload_n hx hb dX3_fewestSet_50 rfl (lv_at hl 2 rfl) ?_
    obtain ⟨h_19, hq⟩ := fw_ck_s hq
    refine va_iald hx hb hK hP 16 0 rfl rfl h_19 dX3_fewestSet_51 ?_
    exact W.iret (v := ((upd fs0 (y1).toNatClampNeg r_16) (y1).toNatClampNeg)) hx hb hr (fun t ht hW => ⟨⟨((upd fs0 (y1).toNatClampNeg r_16) (y1).toNatClampNeg), (fo_10, po_11, na_6, ns_7, ta_14, ts_15, (upd fs0 (y1).toNatClampNeg r_16)), rfl, hz.trans hq.symm, by rw [ht]; exact hP, hD⟩, hS.F ht⟩) hS.2.2 dX3_fewestSet_52
set_option maxHeartbeats 4000000 in
set_option maxRecDepth 100000 in
theorem kX3_fillMinors (l : Launch) (dC : Nat → ClassId) (dI : Nat → Nat → Nat) (cI cJ : ClassId) (q : Nat → Nat) (sz : Nat)  (nc0 : Int32) (lc0 : Int32) (le0 : Nat → Int32) (ge0 : Nat → Int32) (wt0 : Nat → Int32) (kp0 : Nat → Int32) (fo0 : Nat → Int32) (po0 : Nat → Int32) (na0 : Nat → Int32) (ns0 : Int32) (ta0 : Nat → Int32) (ts0 : Int32) (mx0 : Nat → Int64) (ch0 : Nat → Int32) (mo0 : Nat → Int64) (ms0 : Int32) (fs0 : Nat → Int32) (y1 : Int32) (hd : ∃ z, pX3_fillMinors nc0 lc0 le0 ge0 wt0 kp0 mx0 y1 = some z) : Met l yX3_fillMinors wsX3_fillMinors ({ frames := 2, cells := 0, slots := 0, locals := 45 }) (fw_Pc (dC, dI) (fw_tys cI cJ) (wX cI cJ q  nc0 lc0 le0 ge0 wt0 kp0 fo0 po0 na0 ns0 ta0 ts0 mx0 ch0 mo0 ms0 fs0) ([.ref (q 0), .int y1] : List Value) sz) (va_Qv (fun (u : (Nat → Int64) × Int32) => pX3_fillMinors nc0 lc0 le0 ge0 wt0 kp0 mx0 y1 = some u) (fun u t => fw_B (dC, dI) (va_A (wX cI cJ q  nc0 lc0 le0 ge0 wt0 kp0 fo0 po0 na0 ns0 ta0 ts0 mx0 ch0 mo0 ms0 fs0) sz) (wX cI cJ q  nc0 lc0 le0 ge0 wt0 kp0 fo0 po0 na0 ns0 ta0 ts0 u.1 ch0 mo0 u.2 fs0) t) (va_A (wX cI cJ q  nc0 lc0 le0 ge0 wt0 kp0 fo0 po0 na0 ns0 ta0 ts0 mx0 ch0 mo0 ms0 fs0) sz)) 0 0 (va_A (wX cI cJ q  nc0 lc0 le0 ge0 wt0 kp0 fo0 po0 na0 ns0 ta0 ts0 mx0 ch0 mo0 ms0 fs0) sz) := by
  obtain ⟨z, hz⟩ := hd
  refine Met.ofW (cc := cX3_fillMinors) (maxL := 3) (ret := none) (by decide) rfl ?_
  intro p e s m args below meth c s₁ B hml hv
  obtain ⟨rfl, hsz, hP, hK, hD0, hN⟩ := hv
  have hx := B.exec
  have hb := B.bytes
  have hr := B.returns
  have hts := atoms_spec (ws := wsX3_fillMinors) B.pre
  have hown : s.vm.findClass RX3 = some m.cls := findClass_of_methodNamed B.named
  have hlocks := B.notSynchronized
  subst hsz
  have hD := hD0.self (sz := s.heap.size)
  generalize hAe : va_A (wX cI cJ q  nc0 lc0 le0 ge0 wt0 kp0 fo0 po0 na0 ns0 ta0 ts0 mx0 ch0 mo0 ms0 fs0) s.heap.size = A at hD ⊢
  have hA : ∀ q : Nat, s.heap.size ≤ q → A q := fun q h => by rw [← hAe]; exact Or.inr h
  have hinX3 : ∀ w ∈ u_ws RX3 TX3 12, w ∈ wsX3_fillMinors := by decide +kernel
  have hf9 := hts (.fieldLink RX3 9 "FewLines" "nodeCount" "I") (by decide +kernel)
  have hf13 := hts (.fieldLink RX3 13 "FewLines" "lineCount" "I") (by decide +kernel)
  have hf16 := hts (.fieldLink RX3 16 "FewLines" "lesserEnd" "[I") (by decide +kernel)
  have hf20 := hts (.fieldLink RX3 20 "FewLines" "greaterEnd" "[I") (by decide +kernel)
  have hf52 := hts (.fieldLink RX3 52 "FewLines" "minors" "LFewLines$Minors;") (by decide +kernel)
  have L13 : ∀ (x1 : Int32) (ms : Int32) (e9 : Int32 × (Nat → Int64)), (∀ (x2' : Int32) (mx' : Nat → Int64) (H : Heap) (locs : List Loc) (ls : Array Slot), e9 = (x2', mx') → va_P (dC, dI) vwCl (wX cI cJ q  nc0 lc0 le0 ge0 wt0 kp0 fo0 po0 na0 ns0 ta0 ts0 mx' ch0 mo0 ms fs0) H → va_D A (wX cI cJ q  nc0 lc0 le0 ge0 wt0 kp0 fo0 po0 na0 ns0 ta0 ts0 mx' ch0 mo0 ms fs0) → va_S A s.heap H locs → lv_has ls 3 [(0, .ref (q 0)), (1, .int x1), (2, .int x2')] → W p l e (headSpec wsX3_fillMinors ({ frames := 2, cells := 0, slots := 0, locals := 45 })).room s m ([.ref (q 0), .int y1] : List Value).toArray below meth c H locs 0 0 (MQ below (va_Qv (fun (u : (Nat → Int64) × Int32) => pX3_fillMinors nc0 lc0 le0 ge0 wt0 kp0 mx0 y1 = some u) (fun u t => fw_B (dC, dI) A (wX cI cJ q  nc0 lc0 le0 ge0 wt0 kp0 fo0 po0 na0 ns0 ta0 ts0 u.1 ch0 mo0 u.2 fs0) t) A) ([.ref (q 0), .int y1] : List Value).toArray s 0 0 A) (F0 m 52 ls [])) → ∀ (n9 : Nat) (x2 : Int32) (mx : Nat → Int64) (H : Heap) (locs : List Loc) (ls : Array Slot), fw_wh (pX3_fillMinors_13 x1 lc0 le0 ge0 wt0 kp0) n9 (x2, mx) = some e9 → va_P (dC, dI) vwCl (wX cI cJ q  nc0 lc0 le0 ge0 wt0 kp0 fo0 po0 na0 ns0 ta0 ts0 mx ch0 mo0 ms fs0) H → va_D A (wX cI cJ q  nc0 lc0 le0 ge0 wt0 kp0 fo0 po0 na0 ns0 ta0 ts0 mx ch0 mo0 ms fs0) → va_S A s.heap H locs → lv_has ls 3 [(0, .ref (q 0)), (1, .int x1), (2, .int x2)] → W p l e (headSpec wsX3_fillMinors ({ frames := 2, cells := 0, slots := 0, locals := 45 })).room s m ([.ref (q 0), .int y1] : List Value).toArray below meth c H locs 0 0 (MQ below (va_Qv (fun (u : (Nat → Int64) × Int32) => pX3_fillMinors nc0 lc0 le0 ge0 wt0 kp0 mx0 y1 = some u) (fun u t => fw_B (dC, dI) A (wX cI cJ q  nc0 lc0 le0 ge0 wt0 kp0 fo0 po0 na0 ns0 ta0 ts0 u.1 ch0 mo0 u.2 fs0) t) A) ([.ref (q 0), .int y1] : List Value).toArray s 0 0 A) (F0 m 13 ls []) := by
    intro x1 ms e9 hkk n9
    induction n9 with
    | zero => exact fun _ _ H locs ls hq => (fw_wh0 hq).elim
    | succ n9 ih =>
      intro x2 mx H locs ls hq hP hD hS hl
      obtain ⟨w9, hq, hwI, hwE⟩ := fw_wh1 hq
      dsimp only [pX3_fillMinors_13] at hq
      refine lv_iload_n hx hb dX3_fillMinors_13 rfl (lv_at hl 2 rfl) ?_
      refine lv_aload_n hx hb dX3_fillMinors_14 rfl (lv_at hl 0 rfl) ?_
      refine va_get (D := (dC, dI)) (ci := 3) (v := .int lc0) (C := RX3) (T := TX3) (N := 12) hx hb hts hinX3 hown hK hP 0 rfl rfl 1 (by decide) hf13 (fun _ h9 => h9) rfl dX3_fillMinors_15 ?_
      refine lv_icmp_ge (tgt := 52) hx hb dX3_fillMinors_18 (by decide) (fun c_5 => ?_) (fun c_5 => ?_)
      · have hq := fw_it c_5 hq
        exact hkk x2 mx H locs ls (hwE _ (Option.some.inj hq).symm) hP hD hS (lv_sub hl [0, 1, 2] rfl)
      · have hq := fw_if c_5 hq
        refine lv_aload_n hx hb dX3_fillMinors_21 rfl (lv_at hl 0 rfl) ?_
        refine va_get (D := (dC, dI)) (ci := 3) (v := .ref (q 12)) (C := RX3) (T := TX3) (N := 12) hx hb hts hinX3 hown hK hP 0 rfl rfl 10 (by decide) hf52 (fun _ h9 => h9) rfl dX3_fillMinors_22 ?_
        refine lv_aload_n hx hb dX3_fillMinors_25 rfl (lv_at hl 0 rfl) ?_
        refine va_get (D := (dC, dI)) (ci := 3) (v := .ref (q 1)) (C := RX3) (T := TX3) (N := 12) hx hb hts hinX3 hown hK hP 0 rfl rfl 2 (by decide) hf16 (fun _ h9 => h9) rfl dX3_fillMinors_26 ?_
        refine lv_iload_n hx hb dX3_fillMinors_29 rfl (lv_at hl 2 rfl) ?_
        obtain ⟨h_6, hq⟩ := fw_ck_s hq
        refine va_iald hx hb hK hP 1 0 rfl rfl h_6 dX3_fillMinors_30 ?_
        refine lv_aload_n hx hb dX3_fillMinors_31 rfl (lv_at hl 0 rfl) ?_
        refine va_get (D := (dC, dI)) (ci := 3) (v := .ref (q 2)) (C := RX3) (T := TX3) (N := 12) hx hb hts hinX3 hown hK hP 0 rfl rfl 3 (by decide) hf20 (fun _ h9 => h9) rfl dX3_fillMinors_32 ?_
        refine lv_iload_n hx hb dX3_fillMinors_35 rfl (lv_at hl 2 rfl) ?_
        obtain ⟨h_7, hq⟩ := fw_ck_s hq
        refine va_iald hx hb hK hP 2 0 rfl rfl h_7 dX3_fillMinors_36 ?_
        refine lv_aload_n hx hb dX3_fillMinors_37 rfl (lv_at hl 0 rfl) ?_
        refine lv_iload_n hx hb dX3_fillMinors_38 rfl (lv_at hl 2 rfl) ?_
        refine lv_iload_n hx hb dX3_fillMinors_39 rfl (lv_at hl 1 rfl) ?_
        have hPc := hP.sub (ws' := (wX cI cJ q  nc0 lc0 le0 ge0 wt0 kp0 fo0 po0 na0 ns0 ta0 ts0 mx ch0 mo0 ms fs0)) [0, 1, 2, 3, 4, 5, 6, 7, 8, 9, 10, 11, 12, 13, 14, 15, 16] rfl
        have hDc := hD.sub (ws' := (wX cI cJ q  nc0 lc0 le0 ge0 wt0 kp0 fo0 po0 na0 ns0 ta0 ts0 mx ch0 mo0 ms fs0)) [0, 1, 2, 3, 4, 5, 6, 7, 8, 9, 10, 11, 12, 13, 14, 15, 16] (by decide) rfl
        refine fw_ci (wr := []) (w2 := fun u => (wX cI cJ q  nc0 lc0 le0 ge0 wt0 kp0 fo0 po0 na0 ns0 ta0 ts0 mx ch0 mo0 ms fs0)) [0, 1, 2, 3, 4, 5, 6, 7, 8, 9, 10, 11, 12, 13, 14, 15, 16] [] [0, 1, 2, 3, 4, 5, 6, 7, 8, 9, 10, 11, 12, 13, 14, 15, 16] (va_runV (b := (q 0)) (As := [.int x2, .int x1]) (rest := [.int (ge0 (x2).toNatClampNeg), .int (le0 (x2).toNatClampNeg), .ref (q 12)]) ⟨hx, hb, hml, hown, hts⟩ (kX3_weightIn l dC dI cI cJ q H.size  nc0 lc0 le0 ge0 wt0 kp0 fo0 po0 na0 ns0 ta0 ts0 mx ch0 mo0 ms fs0 x2 x1 (fw_be hq)) (cwV 2 hts gX3_fillMinors_X3_weightIn rfl rfl rfl (by decide +kernel) ⟨Nat.le_of_ble_eq_true rfl, Nat.le_of_ble_eq_true rfl⟩) ⟨fw_blind, va_recv hK hPc (ci := 3) (q0 := 0) rfl rfl, fun U hU hW => fw_pre hPc hK hDc hN hU hW⟩ rfl rfl hl.1 rfl (lv_room (Nat.le_of_ble_eq_true rfl)) dX3_fillMinors_40 ⟨Nat.zero_le _, Nat.zero_le _⟩) hP hD hS hA rfl rfl (by decide) (by decide) (by decide) (fun _ => rfl) (fun r_8 u H locs hw hP hD hS => ?_)
        have hq := fw_bs hw hq
        try dsimp only at hq
        have hPc := hP.sub (ws' := (wN cI cJ (q 12) (q 13) (q 14) (q 15)  mx ch0 mo0 ms)) [12, 13, 14, 15] rfl
        have hDc := hD.sub (ws' := (wN cI cJ (q 12) (q 13) (q 14) (q 15)  mx ch0 mo0 ms)) [12, 13, 14, 15] (by decide) rfl
        refine fw_cv (wr := [((q 0), .inr (3, [.int nc0, .int lc0, .ref (q 1), .ref (q 2), .ref (q 3), .ref (q 4), .ref (q 5), .ref (q 6), .ref (q 8), .ref (q 10), .ref (q 12), .ref (q 16)])), ((q 1), .inl (cI, 12, .inl le0)), ((q 2), .inl (cI, 12, .inl ge0)), ((q 3), .inl (cI, 12, .inl wt0)), ((q 4), .inl (cI, 12, .inl kp0)), ((q 5), .inl (cI, 12, .inl fo0)), ((q 6), .inr (2, [.ref (q 7)])), ((q 7), .inl (cI, 7, .inl po0)), ((q 8), .inr (0, [.ref (q 9), .int ns0])), ((q 9), .inl (cI, 49, .inl na0)), ((q 10), .inr (0, [.ref (q 11), .int ts0])), ((q 11), .inl (cI, 49, .inl ta0)), ((q 16), .inl (cI, 10, .inl fs0))]) (w2 := fun u => (wX cI cJ q  nc0 lc0 le0 ge0 wt0 kp0 fo0 po0 na0 ns0 ta0 ts0 u ch0 mo0 ms fs0)) [12, 13, 14, 15] [0, 1, 2, 3, 4, 5, 6, 7, 8, 9, 10, 11, 16] [0, 1, 2, 3, 4, 5, 6, 7, 8, 9, 10, 11, 13, 14, 15, 16, 12] (va_runV (b := (q 12)) (As := [.int (le0 (x2).toNatClampNeg), .int (ge0 (x2).toNatClampNeg), .int r_8]) (rest := []) ⟨hx, hb, hml, hown, hts⟩ (kX1_add l dC dI cI cJ (q 12) (q 13) (q 14) (q 15) H.size  mx ch0 mo0 ms (le0 (x2).toNatClampNeg) (ge0 (x2).toNatClampNeg) r_8 (fw_be hq)) (cwV 3 hts gX3_fillMinors_X1_add rfl rfl rfl (by decide +kernel) ⟨Nat.le_of_ble_eq_true rfl, Nat.le_of_ble_eq_true rfl⟩) ⟨fw_blind, va_recv hK hPc (ci := 1) (q0 := 0) rfl rfl, fun U hU hW => fw_pre hPc hK hDc hN hU hW⟩ rfl rfl hl.1 rfl (lv_room (Nat.le_of_ble_eq_true rfl)) dX3_fillMinors_43 ⟨Nat.zero_le _, Nat.zero_le _⟩) hP hD hS hA rfl rfl (by decide) (by decide) (by decide) (fun _ => rfl) (fun u H locs hw hP hD hS => ?_)
        obtain ⟨mx_10, rfl⟩ : ∃ z, z = u := ⟨_, rfl⟩
        have hq := fw_bs hw hq
        try dsimp only at hq
        have hP : va_P (dC, dI) vwCl (wX cI cJ q  nc0 lc0 le0 ge0 wt0 kp0 fo0 po0 na0 ns0 ta0 ts0 mx_10 ch0 mo0 ms fs0) H := hP
        have hD : va_D A (wX cI cJ q  nc0 lc0 le0 ge0 wt0 kp0 fo0 po0 na0 ns0 ta0 ts0 mx_10 ch0 mo0 ms fs0) := hD
        refine lv_iinc (v := (x2 + (1 : Int32))) (lv' := [(2, .int (x2 + (1 : Int32))), (0, .ref (q 0)), (1, .int x1)]) hx hb dX3_fillMinors_46 hl (k := 2) rfl rfl (by decide) rfl (fun ls hl => ?_)
        refine lv_goto (tgt := 13) hx hb dX3_fillMinors_49 (by decide) ?_
        exact ih (x2 + (1 : Int32)) mx_10 H locs ls (hwI _ (Option.some.inj hq).symm) hP hD hS (lv_sub hl [1, 2, 0] rfl)
  have hq := hz
  dsimp only [pX3_fillMinors] at hq
  have hl := lv_entry (([.ref (q 0), .int y1] : List Value)) (n := 3) (Nat.le_of_ble_eq_true rfl)
  rw [lg_entry_eq]
  generalize (lg_sl (([.ref (q 0), .int y1] : List Value)) ++ List.replicate (3 - (lg_sl (([.ref (q 0), .int y1] : List Value))).length) Slot.unset).toArray = ls at hl ⊢
  have hl : lv_has ls 3 [(0, .ref (q 0)), (1, .int y1)] := hl
  obtain ⟨H, hHe⟩ : ∃ H : Heap, H = s.heap := ⟨_, rfl⟩
  obtain ⟨locs, hLe⟩ : ∃ L : List Loc, L = [] := ⟨_, rfl⟩
  have hP : va_P (dC, dI) vwCl (wX cI cJ q  nc0 lc0 le0 ge0 wt0 kp0 fo0 po0 na0 ns0 ta0 ts0 mx0 ch0 mo0 ms0 fs0) H := by rw [hHe]; exact hP
  have hS : va_S A s.heap H locs := by rw [hHe, hLe]; exact va_S.rf
  show W p l e (headSpec wsX3_fillMinors ({ frames := 2, cells := 0, slots := 0, locals := 45 })).room s m ([.ref (q 0), .int y1] : List Value).toArray below meth c s.heap [] 0 0 (MQ below (va_Qv (fun (u : (Nat → Int64) × Int32) => pX3_fillMinors nc0 lc0 le0 ge0 wt0 kp0 mx0 y1 = some u) (fun u t => fw_B (dC, dI) A (wX cI cJ q  nc0 lc0 le0 ge0 wt0 kp0 fo0 po0 na0 ns0 ta0 ts0 u.1 ch0 mo0 u.2 fs0) t) A) ([.ref (q 0), .int y1] : List Value).toArray s 0 0 A) (F0 m 0 ls [])
  rw [← hHe, ← hLe]
  refine lv_aload_n hx hb dX3_fillMinors_0 rfl (lv_at hl 0 rfl) ?_
  refine va_get (D := (dC, dI)) (ci := 3) (v := .ref (q 12)) (C := RX3) (T := TX3) (N := 12) hx hb hts hinX3 hown hK hP 0 rfl rfl 10 (by decide) hf52 (fun _ h9 => h9) rfl dX3_fillMinors_1 ?_
  refine lv_aload_n hx hb dX3_fillMinors_4 rfl (lv_at hl 0 rfl) ?_
  refine va_get (D := (dC, dI)) (ci := 3) (v := .int nc0) (C := RX3) (T := TX3) (N := 12) hx hb hts hinX3 hown hK hP 0 rfl rfl 0 (by decide) hf9 (fun _ h9 => h9) rfl dX3_fillMinors_5 ?_
  have hPc := hP.sub (ws' := (wN cI cJ (q 12) (q 13) (q 14) (q 15)  mx0 ch0 mo0 ms0)) [12, 13, 14, 15] rfl
  have hDc := hD.sub (ws' := (wN cI cJ (q 12) (q 13) (q 14) (q 15)  mx0 ch0 mo0 ms0)) [12, 13, 14, 15] (by decide) rfl
  refine fw_cv (wr := [((q 0), .inr (3, [.int nc0, .int lc0, .ref (q 1), .ref (q 2), .ref (q 3), .ref (q 4), .ref (q 5), .ref (q 6), .ref (q 8), .ref (q 10), .ref (q 12), .ref (q 16)])), ((q 1), .inl (cI, 12, .inl le0)), ((q 2), .inl (cI, 12, .inl ge0)), ((q 3), .inl (cI, 12, .inl wt0)), ((q 4), .inl (cI, 12, .inl kp0)), ((q 5), .inl (cI, 12, .inl fo0)), ((q 6), .inr (2, [.ref (q 7)])), ((q 7), .inl (cI, 7, .inl po0)), ((q 8), .inr (0, [.ref (q 9), .int ns0])), ((q 9), .inl (cI, 49, .inl na0)), ((q 10), .inr (0, [.ref (q 11), .int ts0])), ((q 11), .inl (cI, 49, .inl ta0)), ((q 16), .inl (cI, 10, .inl fs0))]) (w2 := fun u => (wX cI cJ q  nc0 lc0 le0 ge0 wt0 kp0 fo0 po0 na0 ns0 ta0 ts0 u.1 ch0 mo0 u.2 fs0)) [12, 13, 14, 15] [0, 1, 2, 3, 4, 5, 6, 7, 8, 9, 10, 11, 16] [0, 1, 2, 3, 4, 5, 6, 7, 8, 9, 10, 11, 13, 14, 15, 16, 12] (va_runV (b := (q 12)) (As := [.int nc0]) (rest := []) ⟨hx, hb, hml, hown, hts⟩ (kX1_clear l dC dI cI cJ (q 12) (q 13) (q 14) (q 15) H.size  mx0 ch0 mo0 ms0 nc0 (fw_be hq)) (cwV 1 hts gX3_fillMinors_X1_clear rfl rfl rfl (by decide +kernel) ⟨Nat.le_of_ble_eq_true rfl, Nat.le_of_ble_eq_true rfl⟩) ⟨fw_blind, va_recv hK hPc (ci := 1) (q0 := 0) rfl rfl, fun U hU hW => fw_pre hPc hK hDc hN hU hW⟩ rfl rfl hl.1 rfl (lv_room (Nat.le_of_ble_eq_true rfl)) dX3_fillMinors_8 ⟨Nat.zero_le _, Nat.zero_le _⟩) hP hD hS hA rfl rfl (by decide) (by decide) (by decide) (fun _ => rfl) (fun u H locs hw hP hD hS => ?_)
  obtain ⟨mx_1, ms_2⟩ := u
  have hq := fw_bs hw hq
  try dsimp only at hq
  have hP : va_P (dC, dI) vwCl (wX cI cJ q  nc0 lc0 le0 ge0 wt0 kp0 fo0 po0 na0 ns0 ta0 ts0 mx_1 ch0 mo0 ms_2 fs0) H := hP
  have hD : va_D A (wX cI cJ q  nc0 lc0 le0 ge0 wt0 kp0 fo0 po0 na0 ns0 ta0 ts0 mx_1 ch0 mo0 ms_2 fs0) := hD
  refine lv_iconst (v := (0 : Int32)) hx hb dX3_fillMinors_11 (by decide) ?_
  refine lv_istore_n (lv' := [(2, .int (0 : Int32)), (0, .ref (q 0)), (1, .int y1)]) hx hb dX3_fillMinors_12 rfl hl (by decide) rfl (fun ls hl => ?_)
  obtain ⟨e_15, hw, hq⟩ := fw_bb hq
  refine L13 y1 ms_2 e_15 (fun x2_13 mx_14 H locs ls he hP hD hS hl => ?_) fw_N (0 : Int32) mx_1 H locs ls hw hP hD hS (lv_sub hl [1, 2, 0] rfl)
  subst he
  try dsimp only at hq
  exact W.vret hx hb hr (fun t ht hW => ⟨⟨(mx_14, ms_2), rfl, hz.trans hq.symm, by rw [ht]; exact hP, hD⟩, hS.F ht⟩) hS.2.2 dX3_fillMinors_52
set_option maxHeartbeats 4000000 in
set_option maxRecDepth 100000 in
theorem kX3_treeProducts (l : Launch) (dC : Nat → ClassId) (dI : Nat → Nat → Nat) (cI cJ : ClassId) (q : Nat → Nat) (sz : Nat)  (nc0 : Int32) (lc0 : Int32) (le0 : Nat → Int32) (ge0 : Nat → Int32) (wt0 : Nat → Int32) (kp0 : Nat → Int32) (fo0 : Nat → Int32) (po0 : Nat → Int32) (na0 : Nat → Int32) (ns0 : Int32) (ta0 : Nat → Int32) (ts0 : Int32) (mx0 : Nat → Int64) (ch0 : Nat → Int32) (mo0 : Nat → Int64) (ms0 : Int32) (fs0 : Nat → Int32) (y1 : Int32) (hd : ∃ z, pX3_treeProducts nc0 lc0 le0 ge0 wt0 kp0 mx0 ch0 mo0 y1 = some z) : Met l yX3_treeProducts wsX3_treeProducts ({ frames := 3, cells := 0, slots := 0, locals := 73 }) (fw_Pc (dC, dI) (fw_tys cI cJ) (wX cI cJ q  nc0 lc0 le0 ge0 wt0 kp0 fo0 po0 na0 ns0 ta0 ts0 mx0 ch0 mo0 ms0 fs0) ([.ref (q 0), .int y1] : List Value) sz) (va_Ql (fun (r : Int64) (u : (Nat → Int64) × (Nat → Int32) × (Nat → Int64) × Int32) => pX3_treeProducts nc0 lc0 le0 ge0 wt0 kp0 mx0 ch0 mo0 y1 = some (r, u)) (fun u t => fw_B (dC, dI) (va_A (wX cI cJ q  nc0 lc0 le0 ge0 wt0 kp0 fo0 po0 na0 ns0 ta0 ts0 mx0 ch0 mo0 ms0 fs0) sz) (wX cI cJ q  nc0 lc0 le0 ge0 wt0 kp0 fo0 po0 na0 ns0 ta0 ts0 u.1 u.2.1 u.2.2.1 u.2.2.2 fs0) t) (va_A (wX cI cJ q  nc0 lc0 le0 ge0 wt0 kp0 fo0 po0 na0 ns0 ta0 ts0 mx0 ch0 mo0 ms0 fs0) sz)) 0 0 (va_A (wX cI cJ q  nc0 lc0 le0 ge0 wt0 kp0 fo0 po0 na0 ns0 ta0 ts0 mx0 ch0 mo0 ms0 fs0) sz) := by
  obtain ⟨z, hz⟩ := hd
  refine Met.ofW (cc := cX3_treeProducts) (maxL := 2) (ret := (some .long)) (by decide) rfl ?_
  intro p e s m args below meth c s₁ B hml hv
  obtain ⟨rfl, hsz, hP, hK, hD0, hN⟩ := hv
  have hx := B.exec
  have hb := B.bytes
  have hr := B.returns
  have hts := atoms_spec (ws := wsX3_treeProducts) B.pre
  have hown : s.vm.findClass RX3 = some m.cls := findClass_of_methodNamed B.named
  have hlocks := B.notSynchronized
  subst hsz
  have hD := hD0.self (sz := s.heap.size)
  generalize hAe : va_A (wX cI cJ q  nc0 lc0 le0 ge0 wt0 kp0 fo0 po0 na0 ns0 ta0 ts0 mx0 ch0 mo0 ms0 fs0) s.heap.size = A at hD ⊢
  have hA : ∀ q : Nat, s.heap.size ≤ q → A q := fun q h => by rw [← hAe]; exact Or.inr h
  have hinX3 : ∀ w ∈ u_ws RX3 TX3 12, w ∈ wsX3_treeProducts := by decide +kernel
  have hf52 := hts (.fieldLink RX3 52 "FewLines" "minors" "LFewLines$Minors;") (by decide +kernel)
  have hq := hz
  dsimp only [pX3_treeProducts] at hq
  have hl := lv_entry (([.ref (q 0), .int y1] : List Value)) (n := 2) (Nat.le_of_ble_eq_true rfl)
  rw [lg_entry_eq]
  generalize (lg_sl (([.ref (q 0), .int y1] : List Value)) ++ List.replicate (2 - (lg_sl (([.ref (q 0), .int y1] : List Value))).length) Slot.unset).toArray = ls at hl ⊢
  have hl : lv_has ls 2 [(0, .ref (q 0)), (1, .int y1)] := hl
  obtain ⟨H, hHe⟩ : ∃ H : Heap, H = s.heap := ⟨_, rfl⟩
  obtain ⟨locs, hLe⟩ : ∃ L : List Loc, L = [] := ⟨_, rfl⟩
  have hP : va_P (dC, dI) vwCl (wX cI cJ q  nc0 lc0 le0 ge0 wt0 kp0 fo0 po0 na0 ns0 ta0 ts0 mx0 ch0 mo0 ms0 fs0) H := by rw [hHe]; exact hP
  have hS : va_S A s.heap H locs := by rw [hHe, hLe]; exact va_S.rf
  show W p l e (headSpec wsX3_treeProducts ({ frames := 3, cells := 0, slots := 0, locals := 73 })).room s m ([.ref (q 0), .int y1] : List Value).toArray below meth c s.heap [] 0 0 (MQ below (va_Ql (fun (r : Int64) (u : (Nat → Int64) × (Nat → Int32) × (Nat → Int64) × Int32) => pX3_treeProducts nc0 lc0 le0 ge0 wt0 kp0 mx0 ch0 mo0 y1 = some (r, u)) (fun u t => fw_B (dC, dI) A (wX cI cJ q  nc0 lc0 le0 ge0 wt0 kp0 fo0 po0 na0 ns0 ta0 ts0 u.1 u.2.1 u.2.2.1 u.2.2.2 fs0) t) A) ([.ref (q 0), .int y1] : List Value).toArray s 0 0 A) (F0 m 0 ls [])
  rw [← hHe, ← hLe]
  refine lv_aload_n hx hb dX3_treeProducts_0 rfl (lv_at hl 0 rfl) ?_
  refine lv_iload_n hx hb dX3_treeProducts_1 rfl (lv_at hl 1 rfl) ?_
  have hPc := hP.sub (ws' := (wX cI cJ q  nc0 lc0 le0 ge0 wt0 kp0 fo0 po0 na0 ns0 ta0 ts0 mx0 ch0 mo0 ms0 fs0)) [0, 1, 2, 3, 4, 5, 6, 7, 8, 9, 10, 11, 12, 13, 14, 15, 16] rfl
  have hDc := hD.sub (ws' := (wX cI cJ q  nc0 lc0 le0 ge0 wt0 kp0 fo0 po0 na0 ns0 ta0 ts0 mx0 ch0 mo0 ms0 fs0)) [0, 1, 2, 3, 4, 5, 6, 7, 8, 9, 10, 11, 12, 13, 14, 15, 16] (by decide) rfl
  refine fw_cv (wr := []) (w2 := fun u => (wX cI cJ q  nc0 lc0 le0 ge0 wt0 kp0 fo0 po0 na0 ns0 ta0 ts0 u.1 ch0 mo0 u.2 fs0)) [0, 1, 2, 3, 4, 5, 6, 7, 8, 9, 10, 11, 12, 13, 14, 15, 16] [] [0, 1, 2, 3, 4, 5, 6, 7, 8, 9, 10, 11, 12, 13, 14, 15, 16] (va_runV (b := (q 0)) (As := [.int y1]) (rest := []) ⟨hx, hb, hml, hown, hts⟩ (kX3_fillMinors l dC dI cI cJ q H.size  nc0 lc0 le0 ge0 wt0 kp0 fo0 po0 na0 ns0 ta0 ts0 mx0 ch0 mo0 ms0 fs0 y1 (fw_be hq)) (cwV 1 hts gX3_treeProducts_X3_fillMinors rfl rfl rfl (by decide +kernel) ⟨Nat.le_of_ble_eq_true rfl, Nat.le_of_ble_eq_true rfl⟩) ⟨fw_blind, va_recv hK hPc (ci := 3) (q0 := 0) rfl rfl, fun U hU hW => fw_pre hPc hK hDc hN hU hW⟩ rfl rfl hl.1 rfl (lv_room (Nat.le_of_ble_eq_true rfl)) dX3_treeProducts_2 ⟨Nat.zero_le _, Nat.zero_le _⟩) hP hD hS hA rfl rfl (by decide) (by decide) (by decide) (fun _ => rfl) (fun u H locs hw hP hD hS => ?_)
  obtain ⟨mx_1, ms_2⟩ := u
  have hq := fw_bs hw hq
  try dsimp only at hq
  have hP : va_P (dC, dI) vwCl (wX cI cJ q  nc0 lc0 le0 ge0 wt0 kp0 fo0 po0 na0 ns0 ta0 ts0 mx_1 ch0 mo0 ms_2 fs0) H := hP
  have hD : va_D A (wX cI cJ q  nc0 lc0 le0 ge0 wt0 kp0 fo0 po0 na0 ns0 ta0 ts0 mx_1 ch0 mo0 ms_2 fs0) := hD
  refine lv_aload_n hx hb dX3_treeProducts_5 rfl (lv_at hl 0 rfl) ?_
  refine va_get (D := (dC, dI)) (ci := 3) (v := .ref (q 12)) (C := RX3) (T := TX3) (N := 12) hx hb hts hinX3 hown hK hP 0 rfl rfl 10 (by decide) hf52 (fun _ h9 => h9) rfl dX3_treeProducts_6 ?_
  refine lv_iconst (v := (1 : Int32)) hx hb dX3_treeProducts_9 (by decide) ?_
  have hPc := hP.sub (ws' := (wN cI cJ (q 12) (q 13) (q 14) (q 15)  mx_1 ch0 mo0 ms_2)) [12, 13, 14, 15] rfl
  have hDc := hD.sub (ws' := (wN cI cJ (q 12) (q 13) (q 14) (q 15)  mx_1 ch0 mo0 ms_2)) [12, 13, 14, 15] (by decide) rfl
  refine fw_cl (wr := [((q 0), .inr (3, [.int nc0, .int lc0, .ref (q 1), .ref (q 2), .ref (q 3), .ref (q 4), .ref (q 5), .ref (q 6), .ref (q 8), .ref (q 10), .ref (q 12), .ref (q 16)])), ((q 1), .inl (cI, 12, .inl le0)), ((q 2), .inl (cI, 12, .inl ge0)), ((q 3), .inl (cI, 12, .inl wt0)), ((q 4), .inl (cI, 12, .inl kp0)), ((q 5), .inl (cI, 12, .inl fo0)), ((q 6), .inr (2, [.ref (q 7)])), ((q 7), .inl (cI, 7, .inl po0)), ((q 8), .inr (0, [.ref (q 9), .int ns0])), ((q 9), .inl (cI, 49, .inl na0)), ((q 10), .inr (0, [.ref (q 11), .int ts0])), ((q 11), .inl (cI, 49, .inl ta0)), ((q 16), .inl (cI, 10, .inl fs0))]) (w2 := fun u => (wX cI cJ q  nc0 lc0 le0 ge0 wt0 kp0 fo0 po0 na0 ns0 ta0 ts0 mx_1 u.1 u.2 ms_2 fs0)) [12, 13, 14, 15] [0, 1, 2, 3, 4, 5, 6, 7, 8, 9, 10, 11, 16] [0, 1, 2, 3, 4, 5, 6, 7, 8, 9, 10, 11, 13, 14, 15, 16, 12] (va_runV (b := (q 12)) (As := [.int (1 : Int32)]) (rest := []) ⟨hx, hb, hml, hown, hts⟩ (kX1_without l dC dI cI cJ (q 12) (q 13) (q 14) (q 15) H.size  mx_1 ch0 mo0 ms_2 (1 : Int32) (fw_be hq)) (cwV 1 hts gX3_treeProducts_X1_without rfl rfl rfl (by decide +kernel) ⟨Nat.le_of_ble_eq_true rfl, Nat.le_of_ble_eq_true rfl⟩) ⟨fw_blind, va_recv hK hPc (ci := 1) (q0 := 0) rfl rfl, fun U hU hW => fw_pre hPc hK hDc hN hU hW⟩ rfl rfl hl.1 rfl (lv_room (Nat.le_of_ble_eq_true rfl)) dX3_treeProducts_10 ⟨Nat.zero_le _, Nat.zero_le _⟩) hP hD hS hA rfl rfl (by decide) (by decide) (by decide) (fun _ => rfl) (fun r_7 u H locs hw hP hD hS => ?_)
  obtain ⟨ch_5, mo_6⟩ := u
  have hq := fw_bs hw hq
  try dsimp only at hq
  have hP : va_P (dC, dI) vwCl (wX cI cJ q  nc0 lc0 le0 ge0 wt0 kp0 fo0 po0 na0 ns0 ta0 ts0 mx_1 ch_5 mo_6 ms_2 fs0) H := hP
  have hD : va_D A (wX cI cJ q  nc0 lc0 le0 ge0 wt0 kp0 fo0 po0 na0 ns0 ta0 ts0 mx_1 ch_5 mo_6 ms_2 fs0) := hD
  exact W.lret (v := r_7) hx hb hr (fun t ht hW => ⟨⟨r_7, (mx_1, ch_5, mo_6, ms_2), rfl, hz.trans hq.symm, by rw [ht]; exact hP, hD⟩, hS.F ht⟩) hS.2.2 dX3_treeProducts_13
set_option maxHeartbeats 4000000 in
set_option maxRecDepth 100000 in
theorem kX3_partingProducts (l : Launch) (dC : Nat → ClassId) (dI : Nat → Nat → Nat) (cI cJ : ClassId) (q : Nat → Nat) (sz : Nat)  (nc0 : Int32) (lc0 : Int32) (le0 : Nat → Int32) (ge0 : Nat → Int32) (wt0 : Nat → Int32) (kp0 : Nat → Int32) (fo0 : Nat → Int32) (po0 : Nat → Int32) (na0 : Nat → Int32) (ns0 : Int32) (ta0 : Nat → Int32) (ts0 : Int32) (mx0 : Nat → Int64) (ch0 : Nat → Int32) (mo0 : Nat → Int64) (ms0 : Int32) (fs0 : Nat → Int32) (y1 : Int32) (y2 : Int32) (y3 : Int32) (hd : ∃ z, pX3_partingProducts nc0 lc0 le0 ge0 wt0 kp0 mx0 ch0 mo0 y1 y2 y3 = some z) : Met l yX3_partingProducts wsX3_partingProducts ({ frames := 3, cells := 0, slots := 0, locals := 73 }) (fw_Pc (dC, dI) (fw_tys cI cJ) (wX cI cJ q  nc0 lc0 le0 ge0 wt0 kp0 fo0 po0 na0 ns0 ta0 ts0 mx0 ch0 mo0 ms0 fs0) ([.ref (q 0), .int y1, .int y2, .int y3] : List Value) sz) (va_Ql (fun (r : Int64) (u : (Nat → Int64) × (Nat → Int32) × (Nat → Int64) × Int32) => pX3_partingProducts nc0 lc0 le0 ge0 wt0 kp0 mx0 ch0 mo0 y1 y2 y3 = some (r, u)) (fun u t => fw_B (dC, dI) (va_A (wX cI cJ q  nc0 lc0 le0 ge0 wt0 kp0 fo0 po0 na0 ns0 ta0 ts0 mx0 ch0 mo0 ms0 fs0) sz) (wX cI cJ q  nc0 lc0 le0 ge0 wt0 kp0 fo0 po0 na0 ns0 ta0 ts0 u.1 u.2.1 u.2.2.1 u.2.2.2 fs0) t) (va_A (wX cI cJ q  nc0 lc0 le0 ge0 wt0 kp0 fo0 po0 na0 ns0 ta0 ts0 mx0 ch0 mo0 ms0 fs0) sz)) 0 0 (va_A (wX cI cJ q  nc0 lc0 le0 ge0 wt0 kp0 fo0 po0 na0 ns0 ta0 ts0 mx0 ch0 mo0 ms0 fs0) sz) := by
  obtain ⟨z, hz⟩ := hd
  refine Met.ofW (cc := cX3_partingProducts) (maxL := 4) (ret := (some .long)) (by decide) rfl ?_
  intro p e s m args below meth c s₁ B hml hv
  obtain ⟨rfl, hsz, hP, hK, hD0, hN⟩ := hv
  have hx := B.exec
  have hb := B.bytes
  have hr := B.returns
  have hts := atoms_spec (ws := wsX3_partingProducts) B.pre
  have hown : s.vm.findClass RX3 = some m.cls := findClass_of_methodNamed B.named
  have hlocks := B.notSynchronized
  subst hsz
  have hD := hD0.self (sz := s.heap.size)
  generalize hAe : va_A (wX cI cJ q  nc0 lc0 le0 ge0 wt0 kp0 fo0 po0 na0 ns0 ta0 ts0 mx0 ch0 mo0 ms0 fs0) s.heap.size = A at hD ⊢
  have hA : ∀ q : Nat, s.heap.size ≤ q → A q := fun q h => by rw [← hAe]; exact Or.inr h
  have hinX3 : ∀ w ∈ u_ws RX3 TX3 12, w ∈ wsX3_partingProducts := by decide +kernel
  have hf52 := hts (.fieldLink RX3 52 "FewLines" "minors" "LFewLines$Minors;") (by decide +kernel)
  have hq := hz
  dsimp only [pX3_partingProducts] at hq
  have hl := lv_entry (([.ref (q 0), .int y1, .int y2, .int y3] : List Value)) (n := 4) (Nat.le_of_ble_eq_true rfl)
  rw [lg_entry_eq]
  generalize (lg_sl (([.ref (q 0), .int y1, .int y2, .int y3] : List Value)) ++ List.replicate (4 - (lg_sl (([.ref (q 0), .int y1, .int y2, .int y3] : List Value))).length) Slot.unset).toArray = ls at hl ⊢
  have hl : lv_has ls 4 [(0, .ref (q 0)), (1, .int y1), (2, .int y2), (3, .int y3)] := hl
  obtain ⟨H, hHe⟩ : ∃ H : Heap, H = s.heap := ⟨_, rfl⟩
  obtain ⟨locs, hLe⟩ : ∃ L : List Loc, L = [] := ⟨_, rfl⟩
  have hP : va_P (dC, dI) vwCl (wX cI cJ q  nc0 lc0 le0 ge0 wt0 kp0 fo0 po0 na0 ns0 ta0 ts0 mx0 ch0 mo0 ms0 fs0) H := by rw [hHe]; exact hP
  have hS : va_S A s.heap H locs := by rw [hHe, hLe]; exact va_S.rf
  show W p l e (headSpec wsX3_partingProducts ({ frames := 3, cells := 0, slots := 0, locals := 73 })).room s m ([.ref (q 0), .int y1, .int y2, .int y3] : List Value).toArray below meth c s.heap [] 0 0 (MQ below (va_Ql (fun (r : Int64) (u : (Nat → Int64) × (Nat → Int32) × (Nat → Int64) × Int32) => pX3_partingProducts nc0 lc0 le0 ge0 wt0 kp0 mx0 ch0 mo0 y1 y2 y3 = some (r, u)) (fun u t => fw_B (dC, dI) A (wX cI cJ q  nc0 lc0 le0 ge0 wt0 kp0 fo0 po0 na0 ns0 ta0 ts0 u.1 u.2.1 u.2.2.1 u.2.2.2 fs0) t) A) ([.ref (q 0), .int y1, .int y2, .int y3] : List Value).toArray s 0 0 A) (F0 m 0 ls [])
  rw [← hHe, ← hLe]
  refine lv_aload_n hx hb dX3_partingProducts_0 rfl (lv_at hl 0 rfl) ?_
  refine lv_iload_n hx hb dX3_partingProducts_1 rfl (lv_at hl 3 rfl) ?_
  have hPc := hP.sub (ws' := (wX cI cJ q  nc0 lc0 le0 ge0 wt0 kp0 fo0 po0 na0 ns0 ta0 ts0 mx0 ch0 mo0 ms0 fs0)) [0, 1, 2, 3, 4, 5, 6, 7, 8, 9, 10, 11, 12, 13, 14, 15, 16] rfl
  have hDc := hD.sub (ws' := (wX cI cJ q  nc0 lc0 le0 ge0 wt0 kp0 fo0 po0 na0 ns0 ta0 ts0 mx0 ch0 mo0 ms0 fs0)) [0, 1, 2, 3, 4, 5, 6, 7, 8, 9, 10, 11, 12, 13, 14, 15, 16] (by decide) rfl
  refine fw_cv (wr := []) (w2 := fun u => (wX cI cJ q  nc0 lc0 le0 ge0 wt0 kp0 fo0 po0 na0 ns0 ta0 ts0 u.1 ch0 mo0 u.2 fs0)) [0, 1, 2, 3, 4, 5, 6, 7, 8, 9, 10, 11, 12, 13, 14, 15, 16] [] [0, 1, 2, 3, 4, 5, 6, 7, 8, 9, 10, 11, 12, 13, 14, 15, 16] (va_runV (b := (q 0)) (As := [.int y3]) (rest := []) ⟨hx, hb, hml, hown, hts⟩ (kX3_fillMinors l dC dI cI cJ q H.size  nc0 lc0 le0 ge0 wt0 kp0 fo0 po0 na0 ns0 ta0 ts0 mx0 ch0 mo0 ms0 fs0 y3 (fw_be hq)) (cwV 1 hts gX3_partingProducts_X3_fillMinors rfl rfl rfl (by decide +kernel) ⟨Nat.le_of_ble_eq_true rfl, Nat.le_of_ble_eq_true rfl⟩) ⟨fw_blind, va_recv hK hPc (ci := 3) (q0 := 0) rfl rfl, fun U hU hW => fw_pre hPc hK hDc hN hU hW⟩ rfl rfl hl.1 rfl (lv_room (Nat.le_of_ble_eq_true rfl)) dX3_partingProducts_2 ⟨Nat.zero_le _, Nat.zero_le _⟩) hP hD hS hA rfl rfl (by decide) (by decide) (by decide) (fun _ => rfl) (fun u H locs hw hP hD hS => ?_)
  obtain ⟨mx_1, ms_2⟩ := u
  have hq := fw_bs hw hq
  try dsimp only at hq
  have hP : va_P (dC, dI) vwCl (wX cI cJ q  nc0 lc0 le0 ge0 wt0 kp0 fo0 po0 na0 ns0 ta0 ts0 mx_1 ch0 mo0 ms_2 fs0) H := hP
  have hD : va_D A (wX cI cJ q  nc0 lc0 le0 ge0 wt0 kp0 fo0 po0 na0 ns0 ta0 ts0 mx_1 ch0 mo0 ms_2 fs0) := hD
  refine lv_aload_n hx hb dX3_partingProducts_5 rfl (lv_at hl 0 rfl) ?_
  refine va_get (D := (dC, dI)) (ci := 3) (v := .ref (q 12)) (C := RX3) (T := TX3) (N := 12) hx hb hts hinX3 hown hK hP 0 rfl rfl 10 (by decide) hf52 (fun _ h9 => h9) rfl dX3_partingProducts_6 ?_
  refine lv_iconst (v := (1 : Int32)) hx hb dX3_partingProducts_9 (by decide) ?_
  refine lv_iload_n hx hb dX3_partingProducts_10 rfl (lv_at hl 1 rfl) ?_
  refine lv_ishl hx hb dX3_partingProducts_11 ?_
  refine lv_iconst (v := (1 : Int32)) hx hb dX3_partingProducts_12 (by decide) ?_
  refine lv_iload_n hx hb dX3_partingProducts_13 rfl (lv_at hl 2 rfl) ?_
  refine lv_ishl hx hb dX3_partingProducts_14 ?_
  refine lv_ior hx hb dX3_partingProducts_15 ?_
  have hPc := hP.sub (ws' := (wN cI cJ (q 12) (q 13) (q 14) (q 15)  mx_1 ch0 mo0 ms_2)) [12, 13, 14, 15] rfl
  have hDc := hD.sub (ws' := (wN cI cJ (q 12) (q 13) (q 14) (q 15)  mx_1 ch0 mo0 ms_2)) [12, 13, 14, 15] (by decide) rfl
  refine fw_cl (wr := [((q 0), .inr (3, [.int nc0, .int lc0, .ref (q 1), .ref (q 2), .ref (q 3), .ref (q 4), .ref (q 5), .ref (q 6), .ref (q 8), .ref (q 10), .ref (q 12), .ref (q 16)])), ((q 1), .inl (cI, 12, .inl le0)), ((q 2), .inl (cI, 12, .inl ge0)), ((q 3), .inl (cI, 12, .inl wt0)), ((q 4), .inl (cI, 12, .inl kp0)), ((q 5), .inl (cI, 12, .inl fo0)), ((q 6), .inr (2, [.ref (q 7)])), ((q 7), .inl (cI, 7, .inl po0)), ((q 8), .inr (0, [.ref (q 9), .int ns0])), ((q 9), .inl (cI, 49, .inl na0)), ((q 10), .inr (0, [.ref (q 11), .int ts0])), ((q 11), .inl (cI, 49, .inl ta0)), ((q 16), .inl (cI, 10, .inl fs0))]) (w2 := fun u => (wX cI cJ q  nc0 lc0 le0 ge0 wt0 kp0 fo0 po0 na0 ns0 ta0 ts0 mx_1 u.1 u.2 ms_2 fs0)) [12, 13, 14, 15] [0, 1, 2, 3, 4, 5, 6, 7, 8, 9, 10, 11, 16] [0, 1, 2, 3, 4, 5, 6, 7, 8, 9, 10, 11, 13, 14, 15, 16, 12] (va_runV (b := (q 12)) (As := [.int (((1 : Int32) <<< (y1 &&& 31)) ||| ((1 : Int32) <<< (y2 &&& 31)))]) (rest := []) ⟨hx, hb, hml, hown, hts⟩ (kX1_without l dC dI cI cJ (q 12) (q 13) (q 14) (q 15) H.size  mx_1 ch0 mo0 ms_2 (((1 : Int32) <<< (y1 &&& 31)) ||| ((1 : Int32) <<< (y2 &&& 31))) (fw_be hq)) (cwV 1 hts gX3_partingProducts_X1_without rfl rfl rfl (by decide +kernel) ⟨Nat.le_of_ble_eq_true rfl, Nat.le_of_ble_eq_true rfl⟩) ⟨fw_blind, va_recv hK hPc (ci := 1) (q0 := 0) rfl rfl, fun U hU hW => fw_pre hPc hK hDc hN hU hW⟩ rfl rfl hl.1 rfl (lv_room (Nat.le_of_ble_eq_true rfl)) dX3_partingProducts_16 ⟨Nat.zero_le _, Nat.zero_le _⟩) hP hD hS hA rfl rfl (by decide) (by decide) (by decide) (fun _ => rfl) (fun r_7 u H locs hw hP hD hS => ?_)
  obtain ⟨ch_5, mo_6⟩ := u
  have hq := fw_bs hw hq
  try dsimp only at hq
  have hP : va_P (dC, dI) vwCl (wX cI cJ q  nc0 lc0 le0 ge0 wt0 kp0 fo0 po0 na0 ns0 ta0 ts0 mx_1 ch_5 mo_6 ms_2 fs0) H := hP
  have hD : va_D A (wX cI cJ q  nc0 lc0 le0 ge0 wt0 kp0 fo0 po0 na0 ns0 ta0 ts0 mx_1 ch_5 mo_6 ms_2 fs0) := hD
  exact W.lret (v := r_7) hx hb hr (fun t ht hW => ⟨⟨r_7, (mx_1, ch_5, mo_6, ms_2), rfl, hz.trans hq.symm, by rw [ht]; exact hP, hD⟩, hS.F ht⟩) hS.2.2 dX3_partingProducts_19
set_option maxHeartbeats 4000000 in
set_option maxRecDepth 100000 in
theorem kX3_nodes (l : Launch) (dC : Nat → ClassId) (dI : Nat → Nat → Nat) (cI cJ : ClassId) (q : Nat → Nat) (sz : Nat)  (nc0 : Int32) (lc0 : Int32) (le0 : Nat → Int32) (ge0 : Nat → Int32) (wt0 : Nat → Int32) (kp0 : Nat → Int32) (fo0 : Nat → Int32) (po0 : Nat → Int32) (na0 : Nat → Int32) (ns0 : Int32) (ta0 : Nat → Int32) (ts0 : Int32) (mx0 : Nat → Int64) (ch0 : Nat → Int32) (mo0 : Nat → Int64) (ms0 : Int32) (fs0 : Nat → Int32) (y1 : Int32) (hd : ∃ z, pX3_nodes nc0 lc0 fs0 y1 = some z) : Met l yX3_nodes wsX3_nodes ({ frames := 2, cells := 0, slots := 0, locals := 43 }) (fw_Pc (dC, dI) (fw_tys cI cJ) (wX cI cJ q  nc0 lc0 le0 ge0 wt0 kp0 fo0 po0 na0 ns0 ta0 ts0 mx0 ch0 mo0 ms0 fs0) ([.ref (q 0), .int y1] : List Value) sz) (va_Qi (fun (r : Int32) (u : Int32 × Int32 × (Nat → Int32)) => pX3_nodes nc0 lc0 fs0 y1 = some (r, u)) (fun u t => fw_B (dC, dI) (va_A (wX cI cJ q  nc0 lc0 le0 ge0 wt0 kp0 fo0 po0 na0 ns0 ta0 ts0 mx0 ch0 mo0 ms0 fs0) sz) (wX cI cJ q  u.1 u.2.1 le0 ge0 wt0 kp0 fo0 po0 na0 ns0 ta0 ts0 mx0 ch0 mo0 ms0 u.2.2) t) (va_A (wX cI cJ q  nc0 lc0 le0 ge0 wt0 kp0 fo0 po0 na0 ns0 ta0 ts0 mx0 ch0 mo0 ms0 fs0) sz)) 0 0 (va_A (wX cI cJ q  nc0 lc0 le0 ge0 wt0 kp0 fo0 po0 na0 ns0 ta0 ts0 mx0 ch0 mo0 ms0 fs0) sz) := by
  obtain ⟨z, hz⟩ := hd
  refine Met.ofW (cc := cX3_nodes) (maxL := 2) (ret := (some .int)) (by decide) rfl ?_
  intro p e s m args below meth c s₁ B hml hv
  obtain ⟨rfl, hsz, hP, hK, hD0, hN⟩ := hv
  have hx := B.exec
  have hb := B.bytes
  have hr := B.returns
  have hts := atoms_spec (ws := wsX3_nodes) B.pre
  have hown : s.vm.findClass RX3 = some m.cls := findClass_of_methodNamed B.named
  have hlocks := B.notSynchronized
  subst hsz
  have hD := hD0.self (sz := s.heap.size)
  generalize hAe : va_A (wX cI cJ q  nc0 lc0 le0 ge0 wt0 kp0 fo0 po0 na0 ns0 ta0 ts0 mx0 ch0 mo0 ms0 fs0) s.heap.size = A at hD ⊢
  have hA : ∀ q : Nat, s.heap.size ≤ q → A q := fun q h => by rw [← hAe]; exact Or.inr h
  have hinX3 : ∀ w ∈ u_ws RX3 TX3 12, w ∈ wsX3_nodes := by decide +kernel
  have hf9 := hts (.fieldLink RX3 9 "FewLines" "nodeCount" "I") (by decide +kernel)
  have hf13 := hts (.fieldLink RX3 13 "FewLines" "lineCount" "I") (by decide +kernel)
  have hq := hz
  dsimp only [pX3_nodes] at hq
  have hl := lv_entry (([.ref (q 0), .int y1] : List Value)) (n := 2) (Nat.le_of_ble_eq_true rfl)
  rw [lg_entry_eq]
  generalize (lg_sl (([.ref (q 0), .int y1] : List Value)) ++ List.replicate (2 - (lg_sl (([.ref (q 0), .int y1] : List Value))).length) Slot.unset).toArray = ls at hl ⊢
  have hl : lv_has ls 2 [(0, .ref (q 0)), (1, .int y1)] := hl
  obtain ⟨H, hHe⟩ : ∃ H : Heap, H = s.heap := ⟨_, rfl⟩
  obtain ⟨locs, hLe⟩ : ∃ L : List Loc, L = [] := ⟨_, rfl⟩
  have hP : va_P (dC, dI) vwCl (wX cI cJ q  nc0 lc0 le0 ge0 wt0 kp0 fo0 po0 na0 ns0 ta0 ts0 mx0 ch0 mo0 ms0 fs0) H := by rw [hHe]; exact hP
  have hS : va_S A s.heap H locs := by rw [hHe, hLe]; exact va_S.rf
  show W p l e (headSpec wsX3_nodes ({ frames := 2, cells := 0, slots := 0, locals := 43 })).room s m ([.ref (q 0), .int y1] : List Value).toArray below meth c s.heap [] 0 0 (MQ below (va_Qi (fun (r : Int32) (u : Int32 × Int32 × (Nat → Int32)) => pX3_nodes nc0 lc0 fs0 y1 = some (r, u)) (fun u t => fw_B (dC, dI) A (wX cI cJ q  u.1 u.2.1 le0 ge0 wt0 kp0 fo0 po0 na0 ns0 ta0 ts0 mx0 ch0 mo0 ms0 u.2.2) t) A) ([.ref (q 0), .int y1] : List Value).toArray s 0 0 A) (F0 m 0 ls [])
  rw [← hHe, ← hLe]
  refine lv_iload_n hx hb dX3_nodes_0 rfl (lv_at hl 1 rfl) ?_
  refine lv_iconst (v := (2 : Int32)) hx hb dX3_nodes_1 (by decide) ?_
  refine lv_bipush (v := (7 : Int32)) hx hb dX3_nodes_2 (by decide) ?_
  have hPc := hP.sub (ws' := (w0 cI cJ   )) [] rfl
  have hDc := hD.sub (ws' := (w0 cI cJ   )) [] (by decide) rfl
  refine fw_ci (wr := [((q 0), .inr (3, [.int nc0, .int lc0, .ref (q 1), .ref (q 2), .ref (q 3), .ref (q 4), .ref (q 5), .ref (q 6), .ref (q 8), .ref (q 10), .ref (q 12), .ref (q 16)])), ((q 1), .inl (cI, 12, .inl le0)), ((q 2), .inl (cI, 12, .inl ge0)), ((q 3), .inl (cI, 12, .inl wt0)), ((q 4), .inl (cI, 12, .inl kp0)), ((q 5), .inl (cI, 12, .inl fo0)), ((q 6), .inr (2, [.ref (q 7)])), ((q 7), .inl (cI, 7, .inl po0)), ((q 8), .inr (0, [.ref (q 9), .int ns0])), ((q 9), .inl (cI, 49, .inl na0)), ((q 10), .inr (0, [.ref (q 11), .int ts0])), ((q 11), .inl (cI, 49, .inl ta0)), ((q 12), .inr (1, [.ref (q 13), .ref (q 14), .ref (q 15), .int ms0])), ((q 13), .inl (cJ, 49, .inr (.inl mx0))), ((q 14), .inl (cI, 7, .inl ch0)), ((q 15), .inl (cJ, 128, .inr (.inl mo0))), ((q 16), .inl (cI, 10, .inl fs0))]) (w2 := fun u => (wX cI cJ q  nc0 lc0 le0 ge0 wt0 kp0 fo0 po0 na0 ns0 ta0 ts0 mx0 ch0 mo0 ms0 fs0)) [] [0, 1, 2, 3, 4, 5, 6, 7, 8, 9, 10, 11, 12, 13, 14, 15, 16] [0, 1, 2, 3, 4, 5, 6, 7, 8, 9, 10, 11, 12, 13, 14, 15, 16] (va_runS (As := [.int y1, .int (2 : Int32), .int (7 : Int32)]) (rest := []) ⟨hx, hb, hml, hown, hts⟩ (kX3_isWithin l dC dI cI cJ  H.size   y1 (2 : Int32) (7 : Int32) (fw_be hq)) (va_cwS 3 hts gX3_nodes_X3_isWithin rfl rfl rfl (by decide +kernel) ⟨Nat.le_of_ble_eq_true rfl, Nat.le_of_ble_eq_true rfl⟩) ⟨fw_blind, fun U hU hW => fw_pre hPc hK hDc hN hU hW⟩ rfl rfl hl.1 rfl (lv_room (Nat.le_of_ble_eq_true rfl)) dX3_nodes_4 ⟨Nat.zero_le _, Nat.zero_le _⟩) hP hD hS hA rfl rfl (by decide) (by decide) (by decide) (fun _ => rfl) (fun r_1 u H locs hw hP hD hS => ?_)
  obtain ⟨hw, n_3⟩ := hw
  have hq := fw_bs hw hq
  try dsimp only at hq
  refine lv_if_ne (tgt := 13) hx hb dX3_nodes_7 (by decide) (fun c_4 => ?_) (fun c_4 => ?_)
  · have hq := fw_if c_4 hq
    refine lv_aload_n hx hb dX3_nodes_13 rfl (lv_at hl 0 rfl) ?_
    refine lv_iload_n hx hb dX3_nodes_14 rfl (lv_at hl 1 rfl) ?_
    refine va_put (D := (dC, dI)) (ci := 3) (v := .int y1) (ty := .int) (C := RX3) (T := TX3) (N := 12) hx hb hts hinX3 tyX3 tyX3_ok nmX3 hown hK hP hD hS 0 rfl rfl 0 (by decide) hf9 (fun _ h9 => h9) rfl (by decide +kernel) rfl rfl (Nat.le_of_ble_eq_true rfl) dX3_nodes_15 (fun H locs hP hD hS => ?_)
    have hP : va_P (dC, dI) vwCl (wX cI cJ q  y1 lc0 le0 ge0 wt0 kp0 fo0 po0 na0 ns0 ta0 ts0 mx0 ch0 mo0 ms0 fs0) H := hP
    have hD : va_D A (wX cI cJ q  y1 lc0 le0 ge0 wt0 kp0 fo0 po0 na0 ns0 ta0 ts0 mx0 ch0 mo0 ms0 fs0) := hD
    refine lv_aload_n hx hb dX3_nodes_18 rfl (lv_at hl 0 rfl) ?_
    refine lv_iconst (v := (0 : Int32)) hx hb dX3_nodes_19 (by decide) ?_
    refine va_put (D := (dC, dI)) (ci := 3) (v := .int (0 : Int32)) (ty := .int) (C := RX3) (T := TX3) (N := 12) hx hb hts hinX3 tyX3 tyX3_ok nmX3 hown hK hP hD hS 0 rfl rfl 1 (by decide) hf13 (fun _ h9 => h9) rfl (by decide +kernel) rfl rfl (Nat.le_of_ble_eq_true rfl) dX3_nodes_20 (fun H locs hP hD hS => ?_)
    have hP : va_P (dC, dI) vwCl (wX cI cJ q  y1 (0 : Int32) le0 ge0 wt0 kp0 fo0 po0 na0 ns0 ta0 ts0 mx0 ch0 mo0 ms0 fs0) H := hP
    have hD : va_D A (wX cI cJ q  y1 (0 : Int32) le0 ge0 wt0 kp0 fo0 po0 na0 ns0 ta0 ts0 mx0 ch0 mo0 ms0 fs0) := hD
    refine lv_aload_n hx hb dX3_nodes_23 rfl (lv_at hl 0 rfl) ?_
    have hPc := hP.sub (ws' := (wX cI cJ q  y1 (0 : Int32) le0 ge0 wt0 kp0 fo0 po0 na0 ns0 ta0 ts0 mx0 ch0 mo0 ms0 fs0)) [0, 1, 2, 3, 4, 5, 6, 7, 8, 9, 10, 11, 12, 13, 14, 15, 16] rfl
    have hDc := hD.sub (ws' := (wX cI cJ q  y1 (0 : Int32) le0 ge0 wt0 kp0 fo0 po0 na0 ns0 ta0 ts0 mx0 ch0 mo0 ms0 fs0)) [0, 1, 2, 3, 4, 5, 6, 7, 8, 9, 10, 11, 12, 13, 14, 15, 16] (by decide) rfl
    refine fw_cv (wr := []) (w2 := fun u => (wX cI cJ q  y1 (0 : Int32) le0 ge0 wt0 kp0 fo0 po0 na0 ns0 ta0 ts0 mx0 ch0 mo0 ms0 u)) [0, 1, 2, 3, 4, 5, 6, 7, 8, 9, 10, 11, 12, 13, 14, 15, 16] [] [0, 1, 2, 3, 4, 5, 6, 7, 8, 9, 10, 11, 12, 13, 14, 15, 16] (va_runV (b := (q 0)) (As := []) (rest := []) ⟨hx, hb, hml, hown, hts⟩ (kX3_forgetFewest l dC dI cI cJ q H.size  y1 (0 : Int32) le0 ge0 wt0 kp0 fo0 po0 na0 ns0 ta0 ts0 mx0 ch0 mo0 ms0 fs0  (fw_be hq)) (cwV 0 hts gX3_nodes_X3_forgetFewest rfl rfl rfl (by decide +kernel) ⟨Nat.le_of_ble_eq_true rfl, Nat.le_of_ble_eq_true rfl⟩) ⟨fw_blind, va_recv hK hPc (ci := 3) (q0 := 0) rfl rfl, fun U hU hW => fw_pre hPc hK hDc hN hU hW⟩ rfl rfl hl.1 rfl (lv_room (Nat.le_of_ble_eq_true rfl)) dX3_nodes_24 ⟨Nat.zero_le _, Nat.zero_le _⟩) hP hD hS hA rfl rfl (by decide) (by decide) (by decide) (fun _ => rfl) (fun u H locs hw hP hD hS => ?_)
    obtain ⟨fs_5, rfl⟩ : ∃ z, z = u := ⟨_, rfl⟩
    have hq := fw_bs hw hq
    try dsimp only at hq
    have hP : va_P (dC, dI) vwCl (wX cI cJ q  y1 (0 : Int32) le0 ge0 wt0 kp0 fo0 po0 na0 ns0 ta0 ts0 mx0 ch0 mo0 ms0 fs_5) H := hP
    have hD : va_D A (wX cI cJ q  y1 (0 : Int32) le0 ge0 wt0 kp0 fo0 po0 na0 ns0 ta0 ts0 mx0 ch0 mo0 ms0 fs_5) := hD
    refine lv_iconst (v := (1 : Int32)) hx hb dX3_nodes_27 (by decide) ?_
    exact W.iret (v := (1 : Int32)) hx hb hr (fun t ht hW => ⟨⟨(1 : Int32), (y1, (0 : Int32), fs_5), rfl, hz.trans hq.symm, by rw [ht]; exact hP, hD⟩, hS.F ht⟩) hS.2.2 dX3_nodes_28
  · have hq := fw_it c_4 hq
    refine lv_bipush (v := (-3 : Int32)) hx hb dX3_nodes_10 (by decide) ?_
    exact W.iret (v := (-3 : Int32)) hx hb hr (fun t ht hW => ⟨⟨(-3 : Int32), (nc0, lc0, fs0), rfl, hz.trans hq.symm, by rw [ht]; exact hP, hD⟩, hS.F ht⟩) hS.2.2 dX3_nodes_12
set_option maxHeartbeats 4000000 in
set_option maxRecDepth 100000 in
theorem kX3_line (l : Launch) (dC : Nat → ClassId) (dI : Nat → Nat → Nat) (cI cJ : ClassId) (q : Nat → Nat) (sz : Nat)  (nc0 : Int32) (lc0 : Int32) (le0 : Nat → Int32) (ge0 : Nat → Int32) (wt0 : Nat → Int32) (kp0 : Nat → Int32) (fo0 : Nat → Int32) (po0 : Nat → Int32) (na0 : Nat → Int32) (ns0 : Int32) (ta0 : Nat → Int32) (ts0 : Int32) (mx0 : Nat → Int64) (ch0 : Nat → Int32) (mo0 : Nat → Int64) (ms0 : Int32) (fs0 : Nat → Int32) (y1 : Int32) (y2 : Int32) (y3 : Int32) (hd : ∃ z, pX3_line nc0 lc0 le0 ge0 wt0 kp0 fs0 y1 y2 y3 = some z) : Met l yX3_line wsX3_line ({ frames := 2, cells := 0, slots := 0, locals := 43 }) (fw_Pc (dC, dI) (fw_tys cI cJ) (wX cI cJ q  nc0 lc0 le0 ge0 wt0 kp0 fo0 po0 na0 ns0 ta0 ts0 mx0 ch0 mo0 ms0 fs0) ([.ref (q 0), .int y1, .int y2, .int y3] : List Value) sz) (va_Qi (fun (r : Int32) (u : Int32 × (Nat → Int32) × (Nat → Int32) × (Nat → Int32) × (Nat → Int32) × (Nat → Int32)) => pX3_line nc0 lc0 le0 ge0 wt0 kp0 fs0 y1 y2 y3 = some (r, u)) (fun u t => fw_B (dC, dI) (va_A (wX cI cJ q  nc0 lc0 le0 ge0 wt0 kp0 fo0 po0 na0 ns0 ta0 ts0 mx0 ch0 mo0 ms0 fs0) sz) (wX cI cJ q  nc0 u.1 u.2.1 u.2.2.1 u.2.2.2.1 u.2.2.2.2.1 fo0 po0 na0 ns0 ta0 ts0 mx0 ch0 mo0 ms0 u.2.2.2.2.2) t) (va_A (wX cI cJ q  nc0 lc0 le0 ge0 wt0 kp0 fo0 po0 na0 ns0 ta0 ts0 mx0 ch0 mo0 ms0 fs0) sz)) 0 0 (va_A (wX cI cJ q  nc0 lc0 le0 ge0 wt0 kp0 fo0 po0 na0 ns0 ta0 ts0 mx0 ch0 mo0 ms0 fs0) sz) := by
  obtain ⟨z, hz⟩ := hd
  refine Met.ofW (cc := cX3_line) (maxL := 5) (ret := (some .int)) (by decide) rfl ?_
  intro p e s m args below meth c s₁ B hml hv
  obtain ⟨rfl, hsz, hP, hK, hD0, hN⟩ := hv
  have hx := B.exec
  have hb := B.bytes
  have hr := B.returns
  have hts := atoms_spec (ws := wsX3_line) B.pre
  have hown : s.vm.findClass RX3 = some m.cls := findClass_of_methodNamed B.named
  have hlocks := B.notSynchronized
  subst hsz
  have hD := hD0.self (sz := s.heap.size)
  generalize hAe : va_A (wX cI cJ q  nc0 lc0 le0 ge0 wt0 kp0 fo0 po0 na0 ns0 ta0 ts0 mx0 ch0 mo0 ms0 fs0) s.heap.size = A at hD ⊢
  have hA : ∀ q : Nat, s.heap.size ≤ q → A q := fun q h => by rw [← hAe]; exact Or.inr h
  have hinX3 : ∀ w ∈ u_ws RX3 TX3 12, w ∈ wsX3_line := by decide +kernel
  have hf13 := hts (.fieldLink RX3 13 "FewLines" "lineCount" "I") (by decide +kernel)
  have hf16 := hts (.fieldLink RX3 16 "FewLines" "lesserEnd" "[I") (by decide +kernel)
  have hf20 := hts (.fieldLink RX3 20 "FewLines" "greaterEnd" "[I") (by decide +kernel)
  have hf23 := hts (.fieldLink RX3 23 "FewLines" "weightOf" "[I") (by decide +kernel)
  have hf26 := hts (.fieldLink RX3 26 "FewLines" "keptOf" "[I") (by decide +kernel)
  have hq := hz
  dsimp only [pX3_line] at hq
  have hl := lv_entry (([.ref (q 0), .int y1, .int y2, .int y3] : List Value)) (n := 5) (Nat.le_of_ble_eq_true rfl)
  rw [lg_entry_eq]
  generalize (lg_sl (([.ref (q 0), .int y1, .int y2, .int y3] : List Value)) ++ List.replicate (5 - (lg_sl (([.ref (q 0), .int y1, .int y2, .int y3] : List Value))).length) Slot.unset).toArray = ls at hl ⊢
  have hl : lv_has ls 5 [(0, .ref (q 0)), (1, .int y1), (2, .int y2), (3, .int y3)] := hl
  obtain ⟨H, hHe⟩ : ∃ H : Heap, H = s.heap := ⟨_, rfl⟩
  obtain ⟨locs, hLe⟩ : ∃ L : List Loc, L = [] := ⟨_, rfl⟩
  have hP : va_P (dC, dI) vwCl (wX cI cJ q  nc0 lc0 le0 ge0 wt0 kp0 fo0 po0 na0 ns0 ta0 ts0 mx0 ch0 mo0 ms0 fs0) H := by rw [hHe]; exact hP
  have hS : va_S A s.heap H locs := by rw [hHe, hLe]; exact va_S.rf
  show W p l e (headSpec wsX3_line ({ frames := 2, cells := 0, slots := 0, locals := 43 })).room s m ([.ref (q 0), .int y1, .int y2, .int y3] : List Value).toArray below meth c s.heap [] 0 0 (MQ below (va_Qi (fun (r : Int32) (u : Int32 × (Nat → Int32) × (Nat → Int32) × (Nat → Int32) × (Nat → Int32) × (Nat → Int32)) => pX3_line nc0 lc0 le0 ge0 wt0 kp0 fs0 y1 y2 y3 = some (r, u)) (fun u t => fw_B (dC, dI) A (wX cI cJ q  nc0 u.1 u.2.1 u.2.2.1 u.2.2.2.1 u.2.2.2.2.1 fo0 po0 na0 ns0 ta0 ts0 mx0 ch0 mo0 ms0 u.2.2.2.2.2) t) A) ([.ref (q 0), .int y1, .int y2, .int y3] : List Value).toArray s 0 0 A) (F0 m 0 ls [])
  rw [← hHe, ← hLe]
  refine lv_aload_n hx hb dX3_line_0 rfl (lv_at hl 0 rfl) ?_
  refine lv_iload_n hx hb dX3_line_1 rfl (lv_at hl 1 rfl) ?_
  have hPc := hP.sub (ws' := (wX cI cJ q  nc0 lc0 le0 ge0 wt0 kp0 fo0 po0 na0 ns0 ta0 ts0 mx0 ch0 mo0 ms0 fs0)) [0, 1, 2, 3, 4, 5, 6, 7, 8, 9, 10, 11, 12, 13, 14, 15, 16] rfl
  have hDc := hD.sub (ws' := (wX cI cJ q  nc0 lc0 le0 ge0 wt0 kp0 fo0 po0 na0 ns0 ta0 ts0 mx0 ch0 mo0 ms0 fs0)) [0, 1, 2, 3, 4, 5, 6, 7, 8, 9, 10, 11, 12, 13, 14, 15, 16] (by decide) rfl
  refine fw_ci (wr := []) (w2 := fun u => (wX cI cJ q  nc0 lc0 le0 ge0 wt0 kp0 fo0 po0 na0 ns0 ta0 ts0 mx0 ch0 mo0 ms0 fs0)) [0, 1, 2, 3, 4, 5, 6, 7, 8, 9, 10, 11, 12, 13, 14, 15, 16] [] [0, 1, 2, 3, 4, 5, 6, 7, 8, 9, 10, 11, 12, 13, 14, 15, 16] (va_runV (b := (q 0)) (As := [.int y1]) (rest := []) ⟨hx, hb, hml, hown, hts⟩ (kX3_isNode l dC dI cI cJ q H.size  nc0 lc0 le0 ge0 wt0 kp0 fo0 po0 na0 ns0 ta0 ts0 mx0 ch0 mo0 ms0 fs0 y1 (fw_be hq)) (cwV 1 hts gX3_line_X3_isNode rfl rfl rfl (by decide +kernel) ⟨Nat.le_of_ble_eq_true rfl, Nat.le_of_ble_eq_true rfl⟩) ⟨fw_blind, va_recv hK hPc (ci := 3) (q0 := 0) rfl rfl, fun U hU hW => fw_pre hPc hK hDc hN hU hW⟩ rfl rfl hl.1 rfl (lv_room (Nat.le_of_ble_eq_true rfl)) dX3_line_2 ⟨Nat.zero_le _, Nat.zero_le _⟩) hP hD hS hA rfl rfl (by decide) (by decide) (by decide) (fun _ => rfl) (fun r_1 u H locs hw hP hD hS => ?_)
  obtain ⟨hw, n_3⟩ := hw
  have hq := fw_bs hw hq
  try dsimp only at hq
  refine lv_if_eq (tgt := 16) hx hb dX3_line_5 (by decide) (fun c_4 => ?_) (fun c_4 => ?_)
  · have hq := fw_it c_4 hq
    refine lv_bipush (v := (-2 : Int32)) hx hb dX3_line_16 (by decide) ?_
    exact W.iret (v := (-2 : Int32)) hx hb hr (fun t ht hW => ⟨⟨(-2 : Int32), (lc0, le0, ge0, wt0, kp0, fs0), rfl, hz.trans hq.symm, by rw [ht]; exact hP, hD⟩, hS.F ht⟩) hS.2.2 dX3_line_18
  · have hq := fw_if c_4 hq
    refine lv_aload_n hx hb dX3_line_8 rfl (lv_at hl 0 rfl) ?_
    refine lv_iload_n hx hb dX3_line_9 rfl (lv_at hl 2 rfl) ?_
    have hPc := hP.sub (ws' := (wX cI cJ q  nc0 lc0 le0 ge0 wt0 kp0 fo0 po0 na0 ns0 ta0 ts0 mx0 ch0 mo0 ms0 fs0)) [0, 1, 2, 3, 4, 5, 6, 7, 8, 9, 10, 11, 12, 13, 14, 15, 16] rfl
    have hDc := hD.sub (ws' := (wX cI cJ q  nc0 lc0 le0 ge0 wt0 kp0 fo0 po0 na0 ns0 ta0 ts0 mx0 ch0 mo0 ms0 fs0)) [0, 1, 2, 3, 4, 5, 6, 7, 8, 9, 10, 11, 12, 13, 14, 15, 16] (by decide) rfl
    refine fw_ci (wr := []) (w2 := fun u => (wX cI cJ q  nc0 lc0 le0 ge0 wt0 kp0 fo0 po0 na0 ns0 ta0 ts0 mx0 ch0 mo0 ms0 fs0)) [0, 1, 2, 3, 4, 5, 6, 7, 8, 9, 10, 11, 12, 13, 14, 15, 16] [] [0, 1, 2, 3, 4, 5, 6, 7, 8, 9, 10, 11, 12, 13, 14, 15, 16] (va_runV (b := (q 0)) (As := [.int y2]) (rest := []) ⟨hx, hb, hml, hown, hts⟩ (kX3_isNode l dC dI cI cJ q H.size  nc0 lc0 le0 ge0 wt0 kp0 fo0 po0 na0 ns0 ta0 ts0 mx0 ch0 mo0 ms0 fs0 y2 (fw_be hq)) (cwV 1 hts gX3_line_X3_isNode rfl rfl rfl (by decide +kernel) ⟨Nat.le_of_ble_eq_true rfl, Nat.le_of_ble_eq_true rfl⟩) ⟨fw_blind, va_recv hK hPc (ci := 3) (q0 := 0) rfl rfl, fun U hU hW => fw_pre hPc hK hDc hN hU hW⟩ rfl rfl hl.1 rfl (lv_room (Nat.le_of_ble_eq_true rfl)) dX3_line_10 ⟨Nat.zero_le _, Nat.zero_le _⟩) hP hD hS hA rfl rfl (by decide) (by decide) (by decide) (fun _ => rfl) (fun r_5 u H locs hw hP hD hS => ?_)
    obtain ⟨hw, n_7⟩ := hw
    have hq := fw_bs hw hq
    try dsimp only at hq
    refine lv_if_ne (tgt := 19) hx hb dX3_line_13 (by decide) (fun c_8 => ?_) (fun c_8 => ?_)
    · have hq := fw_if c_8 hq
      refine lv_iload_n hx hb dX3_line_19 rfl (lv_at hl 1 rfl) ?_
      refine lv_iload_n hx hb dX3_line_20 rfl (lv_at hl 2 rfl) ?_
      refine lv_icmp_eq (tgt := 34) hx hb dX3_line_21 (by decide) (fun c_9 => ?_) (fun c_9 => ?_)
      · have hq := fw_it c_9 hq
        refine lv_bipush (v := (-3 : Int32)) hx hb dX3_line_34 (by decide) ?_
        exact W.iret (v := (-3 : Int32)) hx hb hr (fun t ht hW => ⟨⟨(-3 : Int32), (lc0, le0, ge0, wt0, kp0, fs0), rfl, hz.trans hq.symm, by rw [ht]; exact hP, hD⟩, hS.F ht⟩) hS.2.2 dX3_line_36
      · have hq := fw_if c_9 hq
        refine lv_iload_n hx hb dX3_line_24 rfl (lv_at hl 3 rfl) ?_
        refine lv_iconst (v := (1 : Int32)) hx hb dX3_line_25 (by decide) ?_
        refine lv_bipush (v := (9 : Int32)) hx hb dX3_line_26 (by decide) ?_
        have hPc := hP.sub (ws' := (w0 cI cJ   )) [] rfl
        have hDc := hD.sub (ws' := (w0 cI cJ   )) [] (by decide) rfl
        refine fw_ci (wr := [((q 0), .inr (3, [.int nc0, .int lc0, .ref (q 1), .ref (q 2), .ref (q 3), .ref (q 4), .ref (q 5), .ref (q 6), .ref (q 8), .ref (q 10), .ref (q 12), .ref (q 16)])), ((q 1), .inl (cI, 12, .inl le0)), ((q 2), .inl (cI, 12, .inl ge0)), ((q 3), .inl (cI, 12, .inl wt0)), ((q 4), .inl (cI, 12, .inl kp0)), ((q 5), .inl (cI, 12, .inl fo0)), ((q 6), .inr (2, [.ref (q 7)])), ((q 7), .inl (cI, 7, .inl po0)), ((q 8), .inr (0, [.ref (q 9), .int ns0])), ((q 9), .inl (cI, 49, .inl na0)), ((q 10), .inr (0, [.ref (q 11), .int ts0])), ((q 11), .inl (cI, 49, .inl ta0)), ((q 12), .inr (1, [.ref (q 13), .ref (q 14), .ref (q 15), .int ms0])), ((q 13), .inl (cJ, 49, .inr (.inl mx0))), ((q 14), .inl (cI, 7, .inl ch0)), ((q 15), .inl (cJ, 128, .inr (.inl mo0))), ((q 16), .inl (cI, 10, .inl fs0))]) (w2 := fun u => (wX cI cJ q  nc0 lc0 le0 ge0 wt0 kp0 fo0 po0 na0 ns0 ta0 ts0 mx0 ch0 mo0 ms0 fs0)) [] [0, 1, 2, 3, 4, 5, 6, 7, 8, 9, 10, 11, 12, 13, 14, 15, 16] [0, 1, 2, 3, 4, 5, 6, 7, 8, 9, 10, 11, 12, 13, 14, 15, 16] (va_runS (As := [.int y3, .int (1 : Int32), .int (9 : Int32)]) (rest := []) ⟨hx, hb, hml, hown, hts⟩ (kX3_isWithin l dC dI cI cJ  H.size   y3 (1 : Int32) (9 : Int32) (fw_be hq)) (va_cwS 3 hts gX3_line_X3_isWithin rfl rfl rfl (by decide +kernel) ⟨Nat.le_of_ble_eq_true rfl, Nat.le_of_ble_eq_true rfl⟩) ⟨fw_blind, fun U hU hW => fw_pre hPc hK hDc hN hU hW⟩ rfl rfl hl.1 rfl (lv_room (Nat.le_of_ble_eq_true rfl)) dX3_line_28 ⟨Nat.zero_le _, Nat.zero_le _⟩) hP hD hS hA rfl rfl (by decide) (by decide) (by decide) (fun _ => rfl) (fun r_10 u H locs hw hP hD hS => ?_)
        obtain ⟨hw, n_12⟩ := hw
        have hq := fw_bs hw hq
        try dsimp only at hq
        refine lv_if_ne (tgt := 37) hx hb dX3_line_31 (by decide) (fun c_13 => ?_) (fun c_13 => ?_)
        · have hq := fw_if c_13 hq
          refine lv_aload_n hx hb dX3_line_37 rfl (lv_at hl 0 rfl) ?_
          refine va_get (D := (dC, dI)) (ci := 3) (v := .int lc0) (C := RX3) (T := TX3) (N := 12) hx hb hts hinX3 hown hK hP 0 rfl rfl 1 (by decide) hf13 (fun _ h9 => h9) rfl dX3_line_38 ?_
          refine lv_bipush (v := (12 : Int32)) hx hb dX3_line_41 (by decide) ?_
          refine lv_icmp_lt (tgt := 49) hx hb dX3_line_43 (by decide) (fun c_14 => ?_) (fun c_14 => ?_)
          · have hq := fw_it c_14 hq
            refine lv_aload_n hx hb dX3_line_49 rfl (lv_at hl 0 rfl) ?_
            refine va_get (D := (dC, dI)) (ci := 3) (v := .int lc0) (C := RX3) (T := TX3) (N := 12) hx hb hts hinX3 hown hK hP 0 rfl rfl 1 (by decide) hf13 (fun _ h9 => h9) rfl dX3_line_50 ?_
            refine lv_istore (lv' := [(4, .int lc0), (0, .ref (q 0)), (1, .int y1), (2, .int y2), (3, .int y3)]) hx hb dX3_line_53 hl (by decide) rfl (fun ls hl => ?_)
            refine lv_aload_n hx hb dX3_line_55 rfl (lv_at hl 1 rfl) ?_
            refine va_get (D := (dC, dI)) (ci := 3) (v := .ref (q 1)) (C := RX3) (T := TX3) (N := 12) hx hb hts hinX3 hown hK hP 0 rfl rfl 2 (by decide) hf16 (fun _ h9 => h9) rfl dX3_line_56 ?_
            refine lv_iload hx hb dX3_line_59 (lv_at hl 0 rfl) ?_
            refine lv_iload_n hx hb dX3_line_61 rfl (lv_at hl 2 rfl) ?_
            refine lv_iload_n hx hb dX3_line_62 rfl (lv_at hl 3 rfl) ?_
            refine va_mmin hx hb (by rw [hml]; exact hl.1.symm) hown (hts (.methodLink RX3 70 Lib.Math.min.name) (by decide +kernel)) (hts (.static Lib.Math.min.name) (by decide +kernel)) (hts (.initialized "java/lang/Math") (by decide +kernel)) (hts (.code Lib.Math.min.name Lib.Math.min.code 2 (some .int)) (by decide +kernel)) (Nat.le_of_ble_eq_true rfl) (Nat.le_of_ble_eq_true rfl) (Nat.zero_le _) (Nat.zero_le _) dX3_line_63 ?_
            obtain ⟨h_15, hq⟩ := fw_ck_s hq
            refine va_iast hx hb hK hP hD hS 1 0 rfl rfl h_15 dX3_line_66 (fun H locs hP hD hS => ?_)
            have hP : va_P (dC, dI) vwCl (wX cI cJ q  nc0 lc0 (upd le0 (lc0).toNatClampNeg (if y2 < y1 then y2 else y1)) ge0 wt0 kp0 fo0 po0 na0 ns0 ta0 ts0 mx0 ch0 mo0 ms0 fs0) H := hP
            have hD : va_D A (wX cI cJ q  nc0 lc0 (upd le0 (lc0).toNatClampNeg (if y2 < y1 then y2 else y1)) ge0 wt0 kp0 fo0 po0 na0 ns0 ta0 ts0 mx0 ch0 mo0 ms0 fs0) := hD
            refine lv_aload_n hx hb dX3_line_67 rfl (lv_at hl 1 rfl) ?_
            refine va_get (D := (dC, dI)) (ci := 3) (v := .ref (q 2)) (C := RX3) (T := TX3) (N := 12) hx hb hts hinX3 hown hK hP 0 rfl rfl 3 (by decide) hf20 (fun _ h9 => h9) rfl dX3_line_68 ?_
            refine lv_iload hx hb dX3_line_71 (lv_at hl 0 rfl) ?_
            refine lv_iload_n hx hb dX3_line_73 rfl (lv_at hl 2 rfl) ?_
            refine lv_iload_n hx hb dX3_line_74 rfl (lv_at hl 3 rfl) ?_
            refine va_mmax hx hb (by rw [hml]; exact hl.1.symm) hown (hts (.methodLink RX3 76 Lib.Math.max.name) (by decide +kernel)) (hts (.static Lib.Math.max.name) (by decide +kernel)) (hts (.initialized "java/lang/Math") (by decide +kernel)) (hts (.code Lib.Math.max.name Lib.Math.max.code 2 (some .int)) (by decide +kernel)) (Nat.le_of_ble_eq_true rfl) (Nat.le_of_ble_eq_true rfl) (Nat.zero_le _) (Nat.zero_le _) dX3_line_75 ?_
            obtain ⟨h_16, hq⟩ := fw_ck_s hq
            refine va_iast hx hb hK hP hD hS 2 0 rfl rfl h_16 dX3_line_78 (fun H locs hP hD hS => ?_)
            have hP : va_P (dC, dI) vwCl (wX cI cJ q  nc0 lc0 (upd le0 (lc0).toNatClampNeg (if y2 < y1 then y2 else y1)) (upd ge0 (lc0).toNatClampNeg (if y1 < y2 then y2 else y1)) wt0 kp0 fo0 po0 na0 ns0 ta0 ts0 mx0 ch0 mo0 ms0 fs0) H := hP
            have hD : va_D A (wX cI cJ q  nc0 lc0 (upd le0 (lc0).toNatClampNeg (if y2 < y1 then y2 else y1)) (upd ge0 (lc0).toNatClampNeg (if y1 < y2 then y2 else y1)) wt0 kp0 fo0 po0 na0 ns0 ta0 ts0 mx0 ch0 mo0 ms0 fs0) := hD
            refine lv_aload_n hx hb dX3_line_79 rfl (lv_at hl 1 rfl) ?_
            refine va_get (D := (dC, dI)) (ci := 3) (v := .ref (q 3)) (C := RX3) (T := TX3) (N := 12) hx hb hts hinX3 hown hK hP 0 rfl rfl 4 (by decide) hf23 (fun _ h9 => h9) rfl dX3_line_80 ?_
            refine lv_iload hx hb dX3_line_83 (lv_at hl 0 rfl) ?_
            refine lv_iload_n hx hb dX3_line_85 rfl (lv_at hl 4 rfl) ?_
            obtain ⟨h_17, hq⟩ := fw_ck_s hq
            refine va_iast hx hb hK hP hD hS 3 0 rfl rfl h_17 dX3_line_86 (fun H locs hP hD hS => ?_)
            have hP : va_P (dC, dI) vwCl (wX cI cJ q  nc0 lc0 (upd le0 (lc0).toNatClampNeg (if y2 < y1 then y2 else y1)) (upd ge0 (lc0).toNatClampNeg (if y1 < y2 then y2 else y1)) (upd wt0 (lc0).toNatClampNeg y3) kp0 fo0 po0 na0 ns0 ta0 ts0 mx0 ch0 mo0 ms0 fs0) H := hP
            have hD : va_D A (wX cI cJ q  nc0 lc0 (upd le0 (lc0).toNatClampNeg (if y2 < y1 then y2 else y1)) (upd ge0 (lc0).toNatClampNeg (if y1 < y2 then y2 else y1)) (upd wt0 (lc0).toNatClampNeg y3) kp0 fo0 po0 na0 ns0 ta0 ts0 mx0 ch0 mo0 ms0 fs0) := hD
            refine lv_aload_n hx hb dX3_line_87 rfl (lv_at hl 1 rfl) ?_
            refine va_get (D := (dC, dI)) (ci := 3) (v := .ref (q 4)) (C := RX3) (T := TX3) (N := 12) hx hb hts hinX3 hown hK hP 0 rfl rfl 5 (by decide) hf26 (fun _ h9 => h9) rfl dX3_line_88 ?_
            refine lv_iload hx hb dX3_line_91 (lv_at hl 0 rfl) ?_
            refine lv_iload_n hx hb dX3_line_93 rfl (lv_at hl 4 rfl) ?_
            obtain ⟨h_18, hq⟩ := fw_ck_s hq
            refine va_iast hx hb hK hP hD hS 4 0 rfl rfl h_18 dX3_line_94 (fun H locs hP hD hS => ?_)
            have hP : va_P (dC, dI) vwCl (wX cI cJ q  nc0 lc0 (upd le0 (lc0).toNatClampNeg (if y2 < y1 then y2 else y1)) (upd ge0 (lc0).toNatClampNeg (if y1 < y2 then y2 else y1)) (upd wt0 (lc0).toNatClampNeg y3) (upd kp0 (lc0).toNatClampNeg y3) fo0 po0 na0 ns0 ta0 ts0 mx0 ch0 mo0 ms0 fs0) H := hP
            have hD : va_D A (wX cI cJ q  nc0 lc0 (upd le0 (lc0).toNatClampNeg (if y2 < y1 then y2 else y1)) (upd ge0 (lc0).toNatClampNeg (if y1 < y2 then y2 else y1)) (upd wt0 (lc0).toNatClampNeg y3) (upd kp0 (lc0).toNatClampNeg y3) fo0 po0 na0 ns0 ta0 ts0 mx0 ch0 mo0 ms0 fs0) := hD
            refine lv_aload_n hx hb dX3_line_95 rfl (lv_at hl 1 rfl) ?_
            refine lv_iload hx hb dX3_line_96 (lv_at hl 0 rfl) ?_
            refine lv_iconst (v := (1 : Int32)) hx hb dX3_line_98 (by decide) ?_
            refine lv_iadd hx hb dX3_line_99 ?_
            refine va_put (D := (dC, dI)) (ci := 3) (v := .int (lc0 + (1 : Int32))) (ty := .int) (C := RX3) (T := TX3) (N := 12) hx hb hts hinX3 tyX3 tyX3_ok nmX3 hown hK hP hD hS 0 rfl rfl 1 (by decide) hf13 (fun _ h9 => h9) rfl (by decide +kernel) rfl rfl (Nat.le_of_ble_eq_true rfl) dX3_line_100 (fun H locs hP hD hS => ?_)
            have hP : va_P (dC, dI) vwCl (wX cI cJ q  nc0 (lc0 + (1 : Int32)) (upd le0 (lc0).toNatClampNeg (if y2 < y1 then y2 else y1)) (upd ge0 (lc0).toNatClampNeg (if y1 < y2 then y2 else y1)) (upd wt0 (lc0).toNatClampNeg y3) (upd kp0 (lc0).toNatClampNeg y3) fo0 po0 na0 ns0 ta0 ts0 mx0 ch0 mo0 ms0 fs0) H := hP
            have hD : va_D A (wX cI cJ q  nc0 (lc0 + (1 : Int32)) (upd le0 (lc0).toNatClampNeg (if y2 < y1 then y2 else y1)) (upd ge0 (lc0).toNatClampNeg (if y1 < y2 then y2 else y1)) (upd wt0 (lc0).toNatClampNeg y3) (upd kp0 (lc0).toNatClampNeg y3) fo0 po0 na0 ns0 ta0 ts0 mx0 ch0 mo0 ms0 fs0) := hD
            refine lv_aload_n hx hb dX3_line_103 rfl (lv_at hl 1 rfl) ?_
            have hPc := hP.sub (ws' := (wX cI cJ q  nc0 (lc0 + (1 : Int32)) (upd le0 (lc0).toNatClampNeg (if y2 < y1 then y2 else y1)) (upd ge0 (lc0).toNatClampNeg (if y1 < y2 then y2 else y1)) (upd wt0 (lc0).toNatClampNeg y3) (upd kp0 (lc0).toNatClampNeg y3) fo0 po0 na0 ns0 ta0 ts0 mx0 ch0 mo0 ms0 fs0)) [0, 1, 2, 3, 4, 5, 6, 7, 8, 9, 10, 11, 12, 13, 14, 15, 16] rfl
            have hDc := hD.sub (ws' := (wX cI cJ q  nc0 (lc0 + (1 : Int32)) (upd le0 (lc0).toNatClampNeg (if y2 < y1 then y2 else y1)) (upd ge0 (lc0).toNatClampNeg (if y1 < y2 then y2 else y1)) (upd wt0 (lc0).toNatClampNeg y3) (upd kp0 (lc0).toNatClampNeg y3) fo0 po0 na0 ns0 ta0 ts0 mx0 ch0 mo0 ms0 fs0)) [0, 1, 2, 3, 4, 5, 6, 7, 8, 9, 10, 11, 12, 13, 14, 15, 16] (by decide) rfl
            refine fw_cv (wr := []) (w2 := fun u => (wX cI cJ q  nc0 (lc0 + (1 : Int32)) (upd le0 (lc0).toNatClampNeg (if y2 < y1 then y2 else y1)) (upd ge0 (lc0).toNatClampNeg (if y1 < y2 then y2 else y1)) (upd wt0 (lc0).toNatClampNeg y3) (upd kp0 (lc0).toNatClampNeg y3) fo0 po0 na0 ns0 ta0 ts0 mx0 ch0 mo0 ms0 u)) [0, 1, 2, 3, 4, 5, 6, 7, 8, 9, 10, 11, 12, 13, 14, 15, 16] [] [0, 1, 2, 3, 4, 5, 6, 7, 8, 9, 10, 11, 12, 13, 14, 15, 16] (va_runV (b := (q 0)) (As := []) (rest := []) ⟨hx, hb, hml, hown, hts⟩ (kX3_forgetFewest l dC dI cI cJ q H.size  nc0 (lc0 + (1 : Int32)) (upd le0 (lc0).toNatClampNeg (if y2 < y1 then y2 else y1)) (upd ge0 (lc0).toNatClampNeg (if y1 < y2 then y2 else y1)) (upd wt0 (lc0).toNatClampNeg y3) (upd kp0 (lc0).toNatClampNeg y3) fo0 po0 na0 ns0 ta0 ts0 mx0 ch0 mo0 ms0 fs0  (fw_be hq)) (cwV 0 hts gX3_line_X3_forgetFewest rfl rfl rfl (by decide +kernel) ⟨Nat.le_of_ble_eq_true rfl, Nat.le_of_ble_eq_true rfl⟩) ⟨fw_blind, va_recv hK hPc (ci := 3) (q0 := 0) rfl rfl, fun U hU hW => fw_pre hPc hK hDc hN hU hW⟩ rfl rfl hl.1 rfl (lv_room (Nat.le_of_ble_eq_true rfl)) dX3_line_104 ⟨Nat.zero_le _, Nat.zero_le _⟩) hP hD hS hA rfl rfl (by decide) (by decide) (by decide) (fun _ => rfl) (fun u H locs hw hP hD hS => ?_)
            obtain ⟨fs_19, rfl⟩ : ∃ z, z = u := ⟨_, rfl⟩
            have hq := fw_bs hw hq
            try dsimp only at hq
            have hP : va_P (dC, dI) vwCl (wX cI cJ q  nc0 (lc0 + (1 : Int32)) (upd le0 (lc0).toNatClampNeg (if y2 < y1 then y2 else y1)) (upd ge0 (lc0).toNatClampNeg (if y1 < y2 then y2 else y1)) (upd wt0 (lc0).toNatClampNeg y3) (upd kp0 (lc0).toNatClampNeg y3) fo0 po0 na0 ns0 ta0 ts0 mx0 ch0 mo0 ms0 fs_19) H := hP
            have hD : va_D A (wX cI cJ q  nc0 (lc0 + (1 : Int32)) (upd le0 (lc0).toNatClampNeg (if y2 < y1 then y2 else y1)) (upd ge0 (lc0).toNatClampNeg (if y1 < y2 then y2 else y1)) (upd wt0 (lc0).toNatClampNeg y3) (upd kp0 (lc0).toNatClampNeg y3) fo0 po0 na0 ns0 ta0 ts0 mx0 ch0 mo0 ms0 fs_19) := hD
            refine lv_iload hx hb dX3_line_107 (lv_at hl 0 rfl) ?_
            exact W.iret (v := lc0) hx hb hr (fun t ht hW => ⟨⟨lc0, ((lc0 + (1 : Int32)), (upd le0 (lc0).toNatClampNeg (if y2 < y1 then y2 else y1)), (upd ge0 (lc0).toNatClampNeg (if y1 < y2 then y2 else y1)), (upd wt0 (lc0).toNatClampNeg y3), (upd kp0 (lc0).toNatClampNeg y3), fs_19), rfl, hz.trans hq.symm, by rw [ht]; exact hP, hD⟩, hS.F ht⟩) hS.2.2 dX3_line_109
          · have hq := fw_if c_14 hq
            refine lv_bipush (v := (-5 : Int32)) hx hb dX3_line_46 (by decide) ?_
            exact W.iret (v := (-5 : Int32)) hx hb hr (fun t ht hW => ⟨⟨(-5 : Int32), (lc0, le0, ge0, wt0, kp0, fs0), rfl, hz.trans hq.symm, by rw [ht]; exact hP, hD⟩, hS.F ht⟩) hS.2.2 dX3_line_48
        · have hq := fw_it c_13 hq
          refine lv_bipush (v := (-3 : Int32)) hx hb dX3_line_34 (by decide) ?_
          exact W.iret (v := (-3 : Int32)) hx hb hr (fun t ht hW => ⟨⟨(-3 : Int32), (lc0, le0, ge0, wt0, kp0, fs0), rfl, hz.trans hq.symm, by rw [ht]; exact hP, hD⟩, hS.F ht⟩) hS.2.2 dX3_line_36
    · have hq := fw_it c_8 hq
      refine lv_bipush (v := (-2 : Int32)) hx hb dX3_line_16 (by decide) ?_
      exact W.iret (v := (-2 : Int32)) hx hb hr (fun t ht hW => ⟨⟨(-2 : Int32), (lc0, le0, ge0, wt0, kp0, fs0), rfl, hz.trans hq.symm, by rw [ht]; exact hP, hD⟩, hS.F ht⟩) hS.2.2 dX3_line_18
set_option maxHeartbeats 4000000 in
set_option maxRecDepth 100000 in
theorem kX3_drop (l : Launch) (dC : Nat → ClassId) (dI : Nat → Nat → Nat) (cI cJ : ClassId) (q : Nat → Nat) (sz : Nat)  (nc0 : Int32) (lc0 : Int32) (le0 : Nat → Int32) (ge0 : Nat → Int32) (wt0 : Nat → Int32) (kp0 : Nat → Int32) (fo0 : Nat → Int32) (po0 : Nat → Int32) (na0 : Nat → Int32) (ns0 : Int32) (ta0 : Nat → Int32) (ts0 : Int32) (mx0 : Nat → Int64) (ch0 : Nat → Int32) (mo0 : Nat → Int64) (ms0 : Int32) (fs0 : Nat → Int32) (y1 : Int32) (hd : ∃ z, pX3_drop lc0 le0 ge0 wt0 kp0 fs0 y1 = some z) : Met l yX3_drop wsX3_drop ({ frames := 2, cells := 0, slots := 0, locals := 43 }) (fw_Pc (dC, dI) (fw_tys cI cJ) (wX cI cJ q  nc0 lc0 le0 ge0 wt0 kp0 fo0 po0 na0 ns0 ta0 ts0 mx0 ch0 mo0 ms0 fs0) ([.ref (q 0), .int y1] : List Value) sz) (va_Qi (fun (r : Int32) (u : Int32 × (Nat → Int32) × (Nat → Int32) × (Nat → Int32) × (Nat → Int32) × (Nat → Int32)) => pX3_drop lc0 le0 ge0 wt0 kp0 fs0 y1 = some (r, u)) (fun u t => fw_B (dC, dI) (va_A (wX cI cJ q  nc0 lc0 le0 ge0 wt0 kp0 fo0 po0 na0 ns0 ta0 ts0 mx0 ch0 mo0 ms0 fs0) sz) (wX cI cJ q  nc0 u.1 u.2.1 u.2.2.1 u.2.2.2.1 u.2.2.2.2.1 fo0 po0 na0 ns0 ta0 ts0 mx0 ch0 mo0 ms0 u.2.2.2.2.2) t) (va_A (wX cI cJ q  nc0 lc0 le0 ge0 wt0 kp0 fo0 po0 na0 ns0 ta0 ts0 mx0 ch0 mo0 ms0 fs0) sz)) 0 0 (va_A (wX cI cJ q  nc0 lc0 le0 ge0 wt0 kp0 fo0 po0 na0 ns0 ta0 ts0 mx0 ch0 mo0 ms0 fs0) sz) := by
  obtain ⟨z, hz⟩ := hd
  refine Met.ofW (cc := cX3_drop) (maxL := 3) (ret := (some .int)) (by decide) rfl ?_
  intro p e s m args below meth c s₁ B hml hv
  obtain ⟨rfl, hsz, hP, hK, hD0, hN⟩ := hv
  have hx := B.exec
  have hb := B.bytes
  have hr := B.returns
  have hts := atoms_spec (ws := wsX3_drop) B.pre
  have hown : s.vm.findClass RX3 = some m.cls := findClass_of_methodNamed B.named
  have hlocks := B.notSynchronized
  subst hsz
  have hD := hD0.self (sz := s.heap.size)
  generalize hAe : va_A (wX cI cJ q  nc0 lc0 le0 ge0 wt0 kp0 fo0 po0 na0 ns0 ta0 ts0 mx0 ch0 mo0 ms0 fs0) s.heap.size = A at hD ⊢
  have hA : ∀ q : Nat, s.heap.size ≤ q → A q := fun q h => by rw [← hAe]; exact Or.inr h
  have hinX3 : ∀ w ∈ u_ws RX3 TX3 12, w ∈ wsX3_drop := by decide +kernel
  have hf13 := hts (.fieldLink RX3 13 "FewLines" "lineCount" "I") (by decide +kernel)
  have hf16 := hts (.fieldLink RX3 16 "FewLines" "lesserEnd" "[I") (by decide +kernel)
  have hf20 := hts (.fieldLink RX3 20 "FewLines" "greaterEnd" "[I") (by decide +kernel)
  have hf23 := hts (.fieldLink RX3 23 "FewLines" "weightOf" "[I") (by decide +kernel)
  have hf26 := hts (.fieldLink RX3 26 "FewLines" "keptOf" "[I") (by decide +kernel)
  have L13 : ∀ (lc : Int32) (fs : Nat → Int32) (e9 : Int32 × (Nat → Int32) × (Nat → Int32) × (Nat → Int32) × (Nat → Int32)), (∀ (x2' : Int32) (le' : Nat → Int32) (ge' : Nat → Int32) (wt' : Nat → Int32) (kp' : Nat → Int32) (H : Heap) (locs : List Loc) (ls : Array Slot), e9 = (x2', le', ge', wt', kp') → va_P (dC, dI) vwCl (wX cI cJ q  nc0 lc le' ge' wt' kp' fo0 po0 na0 ns0 ta0 ts0 mx0 ch0 mo0 ms0 fs) H → va_D A (wX cI cJ q  nc0 lc le' ge' wt' kp' fo0 po0 na0 ns0 ta0 ts0 mx0 ch0 mo0 ms0 fs) → va_S A s.heap H locs → lv_has ls 3 [(0, .ref (q 0)), (2, .int x2')] → W p l e (headSpec wsX3_drop ({ frames := 2, cells := 0, slots := 0, locals := 43 })).room s m ([.ref (q 0), .int y1] : List Value).toArray below meth c H locs 0 0 (MQ below (va_Qi (fun (r : Int32) (u : Int32 × (Nat → Int32) × (Nat → Int32) × (Nat → Int32) × (Nat → Int32) × (Nat → Int32)) => pX3_drop lc0 le0 ge0 wt0 kp0 fs0 y1 = some (r, u)) (fun u t => fw_B (dC, dI) A (wX cI cJ q  nc0 u.1 u.2.1 u.2.2.1 u.2.2.2.1 u.2.2.2.2.1 fo0 po0 na0 ns0 ta0 ts0 mx0 ch0 mo0 ms0 u.2.2.2.2.2) t) A) ([.ref (q 0), .int y1] : List Value).toArray s 0 0 A) (F0 m 85 ls [])) → ∀ (n9 : Nat) (x2 : Int32) (le : Nat → Int32) (ge : Nat → Int32) (wt : Nat → Int32) (kp : Nat → Int32) (H : Heap) (locs : List Loc) (ls : Array Slot), fw_wh (pX3_drop_13 lc) n9 (x2, le, ge, wt, kp) = some e9 → va_P (dC, dI) vwCl (wX cI cJ q  nc0 lc le ge wt kp fo0 po0 na0 ns0 ta0 ts0 mx0 ch0 mo0 ms0 fs) H → va_D A (wX cI cJ q  nc0 lc le ge wt kp fo0 po0 na0 ns0 ta0 ts0 mx0 ch0 mo0 ms0 fs) → va_S A s.heap H locs → lv_has ls 3 [(0, .ref (q 0)), (2, .int x2)] → W p l e (headSpec wsX3_drop ({ frames := 2, cells := 0, slots := 0, locals := 43 })).room s m ([.ref (q 0), .int y1] : List Value).toArray below meth c H locs 0 0 (MQ below (va_Qi (fun (r : Int32) (u : Int32 × (Nat → Int32) × (Nat → Int32) × (Nat → Int32) × (Nat → Int32) × (Nat → Int32)) => pX3_drop lc0 le0 ge0 wt0 kp0 fs0 y1 = some (r, u)) (fun u t => fw_B (dC, dI) A (wX cI cJ q  nc0 u.1 u.2.1 u.2.2.1 u.2.2.2.1 u.2.2.2.2.1 fo0 po0 na0 ns0 ta0 ts0 mx0 ch0 mo0 ms0 u.2.2.2.2.2) t) A) ([.ref (q 0), .int y1] : List Value).toArray s 0 0 A) (F0 m 13 ls []) := by
    intro lc fs e9 hkk n9
    induction n9 with
    | zero => exact fun _ _ _ _ _ H locs ls hq => (fw_wh0 hq).elim
    | succ n9 ih =>
      intro x2 le ge wt kp H locs ls hq hP hD hS hl
      obtain ⟨w9, hq, hwI, hwE⟩ := fw_wh1 hq
      dsimp only [pX3_drop_13] at hq
      refine lv_iload_n hx hb dX3_drop_13 rfl (lv_at hl 1 rfl) ?_
      refine lv_aload_n hx hb dX3_drop_14 rfl (lv_at hl 0 rfl) ?_
      refine va_get (D := (dC, dI)) (ci := 3) (v := .int lc) (C := RX3) (T := TX3) (N := 12) hx hb hts hinX3 hown hK hP 0 rfl rfl 1 (by decide) hf13 (fun _ h9 => h9) rfl dX3_drop_15 ?_
      refine lv_iconst (v := (1 : Int32)) hx hb dX3_drop_18 (by decide) ?_
      refine lv_isub hx hb dX3_drop_19 ?_
      refine lv_icmp_ge (tgt := 85) hx hb dX3_drop_20 (by decide) (fun c_5 => ?_) (fun c_5 => ?_)
      · have hq := fw_it c_5 hq
        exact hkk x2 le ge wt kp H locs ls (hwE _ (Option.some.inj hq).symm) hP hD hS (lv_sub hl [0, 1] rfl)
      · have hq := fw_if c_5 hq
        refine lv_aload_n hx hb dX3_drop_23 rfl (lv_at hl 0 rfl) ?_
        refine va_get (D := (dC, dI)) (ci := 3) (v := .ref (q 1)) (C := RX3) (T := TX3) (N := 12) hx hb hts hinX3 hown hK hP 0 rfl rfl 2 (by decide) hf16 (fun _ h9 => h9) rfl dX3_drop_24 ?_
        refine lv_iload_n hx hb dX3_drop_27 rfl (lv_at hl 1 rfl) ?_
        refine lv_aload_n hx hb dX3_drop_28 rfl (lv_at hl 0 rfl) ?_
        refine va_get (D := (dC, dI)) (ci := 3) (v := .ref (q 1)) (C := RX3) (T := TX3) (N := 12) hx hb hts hinX3 hown hK hP 0 rfl rfl 2 (by decide) hf16 (fun _ h9 => h9) rfl dX3_drop_29 ?_
        refine lv_iload_n hx hb dX3_drop_32 rfl (lv_at hl 1 rfl) ?_
        refine lv_iconst (v := (1 : Int32)) hx hb dX3_drop_33 (by decide) ?_
        refine lv_iadd hx hb dX3_drop_34 ?_
        obtain ⟨h_6, hq⟩ := fw_ck_s hq
        refine va_iald hx hb hK hP 1 0 rfl rfl h_6 dX3_drop_35 ?_
        obtain ⟨h_7, hq⟩ := fw_ck_s hq
        refine va_iast hx hb hK hP hD hS 1 0 rfl rfl h_7 dX3_drop_36 (fun H locs hP hD hS => ?_)
        have hP : va_P (dC, dI) vwCl (wX cI cJ q  nc0 lc (upd le (x2).toNatClampNeg (le ((x2 + (1 : Int32))).toNatClampNeg)) ge wt kp fo0 po0 na0 ns0 ta0 ts0 mx0 ch0 mo0 ms0 fs) H := hP
        have hD : va_D A (wX cI cJ q  nc0 lc (upd le (x2).toNatClampNeg (le ((x2 + (1 : Int32))).toNatClampNeg)) ge wt kp fo0 po0 na0 ns0 ta0 ts0 mx0 ch0 mo0 ms0 fs) := hD
        refine lv_aload_n hx hb dX3_drop_37 rfl (lv_at hl 0 rfl) ?_
        refine va_get (D := (dC, dI)) (ci := 3) (v := .ref (q 2)) (C := RX3) (T := TX3) (N := 12) hx hb hts hinX3 hown hK hP 0 rfl rfl 3 (by decide) hf20 (fun _ h9 => h9) rfl dX3_drop_38 ?_
        refine lv_iload_n hx hb dX3_drop_41 rfl (lv_at hl 1 rfl) ?_
        refine lv_aload_n hx hb dX3_drop_42 rfl (lv_at hl 0 rfl) ?_
        refine va_get (D := (dC, dI)) (ci := 3) (v := .ref (q 2)) (C := RX3) (T := TX3) (N := 12) hx hb hts hinX3 hown hK hP 0 rfl rfl 3 (by decide) hf20 (fun _ h9 => h9) rfl dX3_drop_43 ?_
        refine lv_iload_n hx hb dX3_drop_46 rfl (lv_at hl 1 rfl) ?_
        refine lv_iconst (v := (1 : Int32)) hx hb dX3_drop_47 (by decide) ?_
        refine lv_iadd hx hb dX3_drop_48 ?_
        obtain ⟨h_8, hq⟩ := fw_ck_s hq
        refine va_iald hx hb hK hP 2 0 rfl rfl h_8 dX3_drop_49 ?_
        obtain ⟨h_9, hq⟩ := fw_ck_s hq
        refine va_iast hx hb hK hP hD hS 2 0 rfl rfl h_9 dX3_drop_50 (fun H locs hP hD hS => ?_)
        have hP : va_P (dC, dI) vwCl (wX cI cJ q  nc0 lc (upd le (x2).toNatClampNeg (le ((x2 + (1 : Int32))).toNatClampNeg)) (upd ge (x2).toNatClampNeg (ge ((x2 + (1 : Int32))).toNatClampNeg)) wt kp fo0 po0 na0 ns0 ta0 ts0 mx0 ch0 mo0 ms0 fs) H := hP
        have hD : va_D A (wX cI cJ q  nc0 lc (upd le (x2).toNatClampNeg (le ((x2 + (1 : Int32))).toNatClampNeg)) (upd ge (x2).toNatClampNeg (ge ((x2 + (1 : Int32))).toNatClampNeg)) wt kp fo0 po0 na0 ns0 ta0 ts0 mx0 ch0 mo0 ms0 fs) := hD
        refine lv_aload_n hx hb dX3_drop_51 rfl (lv_at hl 0 rfl) ?_
        refine va_get (D := (dC, dI)) (ci := 3) (v := .ref (q 3)) (C := RX3) (T := TX3) (N := 12) hx hb hts hinX3 hown hK hP 0 rfl rfl 4 (by decide) hf23 (fun _ h9 => h9) rfl dX3_drop_52 ?_
        refine lv_iload_n hx hb dX3_drop_55 rfl (lv_at hl 1 rfl) ?_
        refine lv_aload_n hx hb dX3_drop_56 rfl (lv_at hl 0 rfl) ?_
        refine va_get (D := (dC, dI)) (ci := 3) (v := .ref (q 3)) (C := RX3) (T := TX3) (N := 12) hx hb hts hinX3 hown hK hP 0 rfl rfl 4 (by decide) hf23 (fun _ h9 => h9) rfl dX3_drop_57 ?_
        refine lv_iload_n hx hb dX3_drop_60 rfl (lv_at hl 1 rfl) ?_
        refine lv_iconst (v := (1 : Int32)) hx hb dX3_drop_61 (by decide) ?_
        refine lv_iadd hx hb dX3_drop_62 ?_
        obtain ⟨h_10, hq⟩ := fw_ck_s hq
        refine va_iald hx hb hK hP 3 0 rfl rfl h_10 dX3_drop_63 ?_
        obtain ⟨h_11, hq⟩ := fw_ck_s hq
        refine va_iast hx hb hK hP hD hS 3 0 rfl rfl h_11 dX3_drop_64 (fun H locs hP hD hS => ?_)
        have hP : va_P (dC, dI) vwCl (wX cI cJ q  nc0 lc (upd le (x2).toNatClampNeg (le ((x2 + (1 : Int32))).toNatClampNeg)) (upd ge (x2).toNatClampNeg (ge ((x2 + (1 : Int32))).toNatClampNeg)) (upd wt (x2).toNatClampNeg (wt ((x2 + (1 : Int32))).toNatClampNeg)) kp fo0 po0 na0 ns0 ta0 ts0 mx0 ch0 mo0 ms0 fs) H := hP
        have hD : va_D A (wX cI cJ q  nc0 lc (upd le (x2).toNatClampNeg (le ((x2 + (1 : Int32))).toNatClampNeg)) (upd ge (x2).toNatClampNeg (ge ((x2 + (1 : Int32))).toNatClampNeg)) (upd wt (x2).toNatClampNeg (wt ((x2 + (1 : Int32))).toNatClampNeg)) kp fo0 po0 na0 ns0 ta0 ts0 mx0 ch0 mo0 ms0 fs) := hD
        refine lv_aload_n hx hb dX3_drop_65 rfl (lv_at hl 0 rfl) ?_
        refine va_get (D := (dC, dI)) (ci := 3) (v := .ref (q 4)) (C := RX3) (T := TX3) (N := 12) hx hb hts hinX3 hown hK hP 0 rfl rfl 5 (by decide) hf26 (fun _ h9 => h9) rfl dX3_drop_66 ?_
        refine lv_iload_n hx hb dX3_drop_69 rfl (lv_at hl 1 rfl) ?_
        refine lv_aload_n hx hb dX3_drop_70 rfl (lv_at hl 0 rfl) ?_
        refine va_get (D := (dC, dI)) (ci := 3) (v := .ref (q 4)) (C := RX3) (T := TX3) (N := 12) hx hb hts hinX3 hown hK hP 0 rfl rfl 5 (by decide) hf26 (fun _ h9 => h9) rfl dX3_drop_71 ?_
        refine lv_iload_n hx hb dX3_drop_74 rfl (lv_at hl 1 rfl) ?_
        refine lv_iconst (v := (1 : Int32)) hx hb dX3_drop_75 (by decide) ?_
        refine lv_iadd hx hb dX3_drop_76 ?_
        obtain ⟨h_12, hq⟩ := fw_ck_s hq
        refine va_iald hx hb hK hP 4 0 rfl rfl h_12 dX3_drop_77 ?_
        obtain ⟨h_13, hq⟩ := fw_ck_s hq
        refine va_iast hx hb hK hP hD hS 4 0 rfl rfl h_13 dX3_drop_78 (fun H locs hP hD hS => ?_)
        have hP : va_P (dC, dI) vwCl (wX cI cJ q  nc0 lc (upd le (x2).toNatClampNeg (le ((x2 + (1 : Int32))).toNatClampNeg)) (upd ge (x2).toNatClampNeg (ge ((x2 + (1 : Int32))).toNatClampNeg)) (upd wt (x2).toNatClampNeg (wt ((x2 + (1 : Int32))).toNatClampNeg)) (upd kp (x2).toNatClampNeg (kp ((x2 + (1 : Int32))).toNatClampNeg)) fo0 po0 na0 ns0 ta0 ts0 mx0 ch0 mo0 ms0 fs) H := hP
        have hD : va_D A (wX cI cJ q  nc0 lc (upd le (x2).toNatClampNeg (le ((x2 + (1 : Int32))).toNatClampNeg)) (upd ge (x2).toNatClampNeg (ge ((x2 + (1 : Int32))).toNatClampNeg)) (upd wt (x2).toNatClampNeg (wt ((x2 + (1 : Int32))).toNatClampNeg)) (upd kp (x2).toNatClampNeg (kp ((x2 + (1 : Int32))).toNatClampNeg)) fo0 po0 na0 ns0 ta0 ts0 mx0 ch0 mo0 ms0 fs) := hD
        refine lv_iinc (v := (x2 + (1 : Int32))) (lv' := [(2, .int (x2 + (1 : Int32))), (0, .ref (q 0))]) hx hb dX3_drop_79 hl (k := 1) rfl rfl (by decide) rfl (fun ls hl => ?_)
        refine lv_goto (tgt := 13) hx hb dX3_drop_82 (by decide) ?_
        exact ih (x2 + (1 : Int32)) (upd le (x2).toNatClampNeg (le ((x2 + (1 : Int32))).toNatClampNeg)) (upd ge (x2).toNatClampNeg (ge ((x2 + (1 : Int32))).toNatClampNeg)) (upd wt (x2).toNatClampNeg (wt ((x2 + (1 : Int32))).toNatClampNeg)) (upd kp (x2).toNatClampNeg (kp ((x2 + (1 : Int32))).toNatClampNeg)) H locs ls (hwI _ (Option.some.inj hq).symm) hP hD hS (lv_sub hl [1, 0] rfl)
  have hq := hz
  dsimp only [pX3_drop] at hq
  have hl := lv_entry (([.ref (q 0), .int y1] : List Value)) (n := 3) (Nat.le_of_ble_eq_true rfl)
  rw [lg_entry_eq]
  generalize (lg_sl (([.ref (q 0), .int y1] : List Value)) ++ List.replicate (3 - (lg_sl (([.ref (q 0), .int y1] : List Value))).length) Slot.unset).toArray = ls at hl ⊢
  have hl : lv_has ls 3 [(0, .ref (q 0)), (1, .int y1)] := hl
  obtain ⟨H, hHe⟩ : ∃ H : Heap, H = s.heap := ⟨_, rfl⟩
  obtain ⟨locs, hLe⟩ : ∃ L : List Loc, L = [] := ⟨_, rfl⟩
  have hP : va_P (dC, dI) vwCl (wX cI cJ q  nc0 lc0 le0 ge0 wt0 kp0 fo0 po0 na0 ns0 ta0 ts0 mx0 ch0 mo0 ms0 fs0) H := by rw [hHe]; exact hP
  have hS : va_S A s.heap H locs := by rw [hHe, hLe]; exact va_S.rf
  show W p l e (headSpec wsX3_drop ({ frames := 2, cells := 0, slots := 0, locals := 43 })).room s m ([.ref (q 0), .int y1] : List Value).toArray below meth c s.heap [] 0 0 (MQ below (va_Qi (fun (r : Int32) (u : Int32 × (Nat → Int32) × (Nat → Int32) × (Nat → Int32) × (Nat → Int32) × (Nat → Int32)) => pX3_drop lc0 le0 ge0 wt0 kp0 fs0 y1 = some (r, u)) (fun u t => fw_B (dC, dI) A (wX cI cJ q  nc0 u.1 u.2.1 u.2.2.1 u.2.2.2.1 u.2.2.2.2.1 fo0 po0 na0 ns0 ta0 ts0 mx0 ch0 mo0 ms0 u.2.2.2.2.2) t) A) ([.ref (q 0), .int y1] : List Value).toArray s 0 0 A) (F0 m 0 ls [])
  rw [← hHe, ← hLe]
  refine lv_aload_n hx hb dX3_drop_0 rfl (lv_at hl 0 rfl) ?_
  refine lv_iload_n hx hb dX3_drop_1 rfl (lv_at hl 1 rfl) ?_
  have hPc := hP.sub (ws' := (wX cI cJ q  nc0 lc0 le0 ge0 wt0 kp0 fo0 po0 na0 ns0 ta0 ts0 mx0 ch0 mo0 ms0 fs0)) [0, 1, 2, 3, 4, 5, 6, 7, 8, 9, 10, 11, 12, 13, 14, 15, 16] rfl
  have hDc := hD.sub (ws' := (wX cI cJ q  nc0 lc0 le0 ge0 wt0 kp0 fo0 po0 na0 ns0 ta0 ts0 mx0 ch0 mo0 ms0 fs0)) [0, 1, 2, 3, 4, 5, 6, 7, 8, 9, 10, 11, 12, 13, 14, 15, 16] (by decide) rfl
  refine fw_ci (wr := []) (w2 := fun u => (wX cI cJ q  nc0 lc0 le0 ge0 wt0 kp0 fo0 po0 na0 ns0 ta0 ts0 mx0 ch0 mo0 ms0 fs0)) [0, 1, 2, 3, 4, 5, 6, 7, 8, 9, 10, 11, 12, 13, 14, 15, 16] [] [0, 1, 2, 3, 4, 5, 6, 7, 8, 9, 10, 11, 12, 13, 14, 15, 16] (va_runV (b := (q 0)) (As := [.int y1]) (rest := []) ⟨hx, hb, hml, hown, hts⟩ (kX3_isLine l dC dI cI cJ q H.size  nc0 lc0 le0 ge0 wt0 kp0 fo0 po0 na0 ns0 ta0 ts0 mx0 ch0 mo0 ms0 fs0 y1 (fw_be hq)) (cwV 1 hts gX3_drop_X3_isLine rfl rfl rfl (by decide +kernel) ⟨Nat.le_of_ble_eq_true rfl, Nat.le_of_ble_eq_true rfl⟩) ⟨fw_blind, va_recv hK hPc (ci := 3) (q0 := 0) rfl rfl, fun U hU hW => fw_pre hPc hK hDc hN hU hW⟩ rfl rfl hl.1 rfl (lv_room (Nat.le_of_ble_eq_true rfl)) dX3_drop_2 ⟨Nat.zero_le _, Nat.zero_le _⟩) hP hD hS hA rfl rfl (by decide) (by decide) (by decide) (fun _ => rfl) (fun r_1 u H locs hw hP hD hS => ?_)
  obtain ⟨hw, n_3⟩ := hw
  have hq := fw_bs hw hq
  try dsimp only at hq
  refine lv_if_ne (tgt := 11) hx hb dX3_drop_5 (by decide) (fun c_4 => ?_) (fun c_4 => ?_)
  · have hq := fw_if c_4 hq
    refine lv_iload_n hx hb dX3_drop_11 rfl (lv_at hl 1 rfl) ?_
    refine lv_istore_n (lv' := [(2, .int y1), (0, .ref (q 0)), (1, .int y1)]) hx hb dX3_drop_12 rfl hl (by decide) rfl (fun ls hl => ?_)
    obtain ⟨e_19, hw, hq⟩ := fw_bb hq
    refine L13 lc0 fs0 e_19 (fun x2_14 le_15 ge_16 wt_17 kp_18 H locs ls he hP hD hS hl => ?_) fw_N y1 le0 ge0 wt0 kp0 H locs ls hw hP hD hS (lv_sub hl [1, 0] rfl)
    subst he
    try dsimp only at hq
    refine lv_aload_n hx hb dX3_drop_85 rfl (lv_at hl 0 rfl) ?_
    refine lv_dup hx hb dX3_drop_86 rfl ?_
    refine va_get (D := (dC, dI)) (ci := 3) (v := .int lc0) (C := RX3) (T := TX3) (N := 12) hx hb hts hinX3 hown hK hP 0 rfl rfl 1 (by decide) hf13 (fun _ h9 => h9) rfl dX3_drop_87 ?_
    refine lv_iconst (v := (1 : Int32)) hx hb dX3_drop_90 (by decide) ?_
    refine lv_isub hx hb dX3_drop_91 ?_
    refine va_put (D := (dC, dI)) (ci := 3) (v := .int (lc0 - (1 : Int32))) (ty := .int) (C := RX3) (T := TX3) (N := 12) hx hb hts hinX3 tyX3 tyX3_ok nmX3 hown hK hP hD hS 0 rfl rfl 1 (by decide) hf13 (fun _ h9 => h9) rfl (by decide +kernel) rfl rfl (Nat.le_of_ble_eq_true rfl) dX3_drop_92 (fun H locs hP hD hS => ?_)
    have hP : va_P (dC, dI) vwCl (wX cI cJ q  nc0 (lc0 - (1 : Int32)) le_15 ge_16 wt_17 kp_18 fo0 po0 na0 ns0 ta0 ts0 mx0 ch0 mo0 ms0 fs0) H := hP
    have hD : va_D A (wX cI cJ q  nc0 (lc0 - (1 : Int32)) le_15 ge_16 wt_17 kp_18 fo0 po0 na0 ns0 ta0 ts0 mx0 ch0 mo0 ms0 fs0) := hD
    refine lv_aload_n hx hb dX3_drop_95 rfl (lv_at hl 0 rfl) ?_
    have hPc := hP.sub (ws' := (wX cI cJ q  nc0 (lc0 - (1 : Int32)) le_15 ge_16 wt_17 kp_18 fo0 po0 na0 ns0 ta0 ts0 mx0 ch0 mo0 ms0 fs0)) [0, 1, 2, 3, 4, 5, 6, 7, 8, 9, 10, 11, 12, 13, 14, 15, 16] rfl
    have hDc := hD.sub (ws' := (wX cI cJ q  nc0 (lc0 - (1 : Int32)) le_15 ge_16 wt_17 kp_18 fo0 po0 na0 ns0 ta0 ts0 mx0 ch0 mo0 ms0 fs0)) [0, 1, 2, 3, 4, 5, 6, 7, 8, 9, 10, 11, 12, 13, 14, 15, 16] (by decide) rfl
    refine fw_cv (wr := []) (w2 := fun u => (wX cI cJ q  nc0 (lc0 - (1 : Int32)) le_15 ge_16 wt_17 kp_18 fo0 po0 na0 ns0 ta0 ts0 mx0 ch0 mo0 ms0 u)) [0, 1, 2, 3, 4, 5, 6, 7, 8, 9, 10, 11, 12, 13, 14, 15, 16] [] [0, 1, 2, 3, 4, 5, 6, 7, 8, 9, 10, 11, 12, 13, 14, 15, 16] (va_runV (b := (q 0)) (As := []) (rest := []) ⟨hx, hb, hml, hown, hts⟩ (kX3_forgetFewest l dC dI cI cJ q H.size  nc0 (lc0 - (1 : Int32)) le_15 ge_16 wt_17 kp_18 fo0 po0 na0 ns0 ta0 ts0 mx0 ch0 mo0 ms0 fs0  (fw_be hq)) (cwV 0 hts gX3_drop_X3_forgetFewest rfl rfl rfl (by decide +kernel) ⟨Nat.le_of_ble_eq_true rfl, Nat.le_of_ble_eq_true rfl⟩) ⟨fw_blind, va_recv hK hPc (ci := 3) (q0 := 0) rfl rfl, fun U hU hW => fw_pre hPc hK hDc hN hU hW⟩ rfl rfl hl.1 rfl (lv_room (Nat.le_of_ble_eq_true rfl)) dX3_drop_96 ⟨Nat.zero_le _, Nat.zero_le _⟩) hP hD hS hA rfl rfl (by decide) (by decide) (by decide) (fun _ => rfl) (fun u H locs hw hP hD hS => ?_)
    obtain ⟨fs_20, rfl⟩ : ∃ z, z = u := ⟨_, rfl⟩
    have hq := fw_bs hw hq
    try dsimp only at hq
    have hP : va_P (dC, dI) vwCl (wX cI cJ q  nc0 (lc0 - (1 : Int32)) le_15 ge_16 wt_17 kp_18 fo0 po0 na0 ns0 ta0 ts0 mx0 ch0 mo0 ms0 fs_20) H := hP
    have hD : va_D A (wX cI cJ q  nc0 (lc0 - (1 : Int32)) le_15 ge_16 wt_17 kp_18 fo0 po0 na0 ns0 ta0 ts0 mx0 ch0 mo0 ms0 fs_20) := hD
    refine lv_iconst (v := (1 : Int32)) hx hb dX3_drop_99 (by decide) ?_
    exact W.iret (v := (1 : Int32)) hx hb hr (fun t ht hW => ⟨⟨(1 : Int32), ((lc0 - (1 : Int32)), le_15, ge_16, wt_17, kp_18, fs_20), rfl, hz.trans hq.symm, by rw [ht]; exact hP, hD⟩, hS.F ht⟩) hS.2.2 dX3_drop_100
  · have hq := fw_it c_4 hq
    refine lv_bipush (v := (-2 : Int32)) hx hb dX3_drop_8 (by decide) ?_
    exact W.iret (v := (-2 : Int32)) hx hb hr (fun t ht hW => ⟨⟨(-2 : Int32), (lc0, le0, ge0, wt0, kp0, fs0), rfl, hz.trans hq.symm, by rw [ht]; exact hP, hD⟩, hS.F ht⟩) hS.2.2 dX3_drop_10
