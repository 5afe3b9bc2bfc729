/-! ===== contracts, by own program ===== -/
set_option maxHeartbeats 4000000 in
set_option maxRecDepth 100000 in
theorem kX3_measure_N (l : Launch) (dC : Nat → ClassId) (dI : Nat → Nat → Nat) (cI cJ : ClassId) (q : Nat → Nat) (sz : Nat)  (nc0 : Int32) (lc0 : Int32) (le0 : Nat → Int32) (ge0 : Nat → Int32) (wt0 : Nat → Int32) (kp0 : Nat → Int32) (fo0 : Nat → Int32) (po0 : Nat → Int32) (na0 : Nat → Int32) (ns0 : Int32) (ta0 : Nat → Int32) (ts0 : Int32) (mx0 : Nat → Int64) (ch0 : Nat → Int32) (mo0 : Nat → Int64) (ms0 : Int32) (fs0 : Nat → Int32) (y2 : Int32) (hd : ∃ z, pX3_measure_N nc0 lc0 le0 ge0 wt0 na0 y2 = some z) : Met l yX3_measure wsX3_measure ({ frames := 2, cells := 0, slots := 0, locals := 52 }) (fw_Pc (dC, dI) (fw_tys cI cJ) (wX cI cJ q  nc0 lc0 le0 ge0 wt0 kp0 fo0 po0 na0 ns0 ta0 ts0 mx0 ch0 mo0 ms0 fs0) ([.ref (q 0), .ref (q 8), .int y2] : List Value) sz) (va_Qv (fun (u : (Nat → Int32) × Int32) => pX3_measure_N nc0 lc0 le0 ge0 wt0 na0 y2 = some u) (fun u t => fw_B (dC, dI) (va_A (wX cI cJ q  nc0 lc0 le0 ge0 wt0 kp0 fo0 po0 na0 ns0 ta0 ts0 mx0 ch0 mo0 ms0 fs0) sz) (wX cI cJ q  nc0 lc0 le0 ge0 wt0 kp0 fo0 po0 u.1 u.2 ta0 ts0 mx0 ch0 mo0 ms0 fs0) t) (va_A (wX cI cJ q  nc0 lc0 le0 ge0 wt0 kp0 fo0 po0 na0 ns0 ta0 ts0 mx0 ch0 mo0 ms0 fs0) sz)) 0 0 (va_A (wX cI cJ q  nc0 lc0 le0 ge0 wt0 kp0 fo0 po0 na0 ns0 ta0 ts0 mx0 ch0 mo0 ms0 fs0) sz) := by
  obtain ⟨z, hz⟩ := hd
  refine Met.ofW (cc := cX3_measure) (maxL := 4) (ret := none) (by decide) rfl ?_
  intro p e s m args below meth c s₁ B hml hv
  obtain ⟨rfl, hsz, hP, hK, hD0, hN⟩ := hv
  have hx := B.exec
  have hb := B.bytes
  have hr := B.returns
  have hts := atoms_spec (ws := wsX3_measure) B.pre
  have hown : s.vm.findClass RX3 = some m.cls := findClass_of_methodNamed B.named
  have hlocks := B.notSynchronized
  subst hsz
  have hD := hD0.self (sz := s.heap.size)
  generalize hAe : va_A (wX cI cJ q  nc0 lc0 le0 ge0 wt0 kp0 fo0 po0 na0 ns0 ta0 ts0 mx0 ch0 mo0 ms0 fs0) s.heap.size = A at hD ⊢
  have hA : ∀ q : Nat, s.heap.size ≤ q → A q := fun q h => by rw [← hAe]; exact Or.inr h
  have hinX3 : ∀ w ∈ u_ws RX3 TX3 12, w ∈ wsX3_measure := by decide +kernel
  have hf9 := hts (.fieldLink RX3 9 "FewLines" "nodeCount" "I") (by decide +kernel)
  have hf13 := hts (.fieldLink RX3 13 "FewLines" "lineCount" "I") (by decide +kernel)
  have hf16 := hts (.fieldLink RX3 16 "FewLines" "lesserEnd" "[I") (by decide +kernel)
  have hf20 := hts (.fieldLink RX3 20 "FewLines" "greaterEnd" "[I") (by decide +kernel)
  have hf23 := hts (.fieldLink RX3 23 "FewLines" "weightOf" "[I") (by decide +kernel)
  have L10 : ∀ (x2 : Int32) (ns : Int32) (e9 : Int32 × (Nat → Int32)), (∀ (x3' : Int32) (na' : Nat → Int32) (H : Heap) (locs : List Loc) (ls : Array Slot), e9 = (x3', na') → va_P (dC, dI) vwCl (wX cI cJ q  nc0 lc0 le0 ge0 wt0 kp0 fo0 po0 na' ns ta0 ts0 mx0 ch0 mo0 ms0 fs0) H → va_D A (wX cI cJ q  nc0 lc0 le0 ge0 wt0 kp0 fo0 po0 na' ns ta0 ts0 mx0 ch0 mo0 ms0 fs0) → va_S A s.heap H locs → lv_has ls 4 [(0, .ref (q 0)), (1, .ref (q 8)), (2, .int x2), (3, .int x3')] → W p l e (headSpec wsX3_measure ({ frames := 2, cells := 0, slots := 0, locals := 52 })).room s m ([.ref (q 0), .ref (q 8), .int y2] : List Value).toArray below meth c H locs 0 0 (MQ below (va_Qv (fun (u : (Nat → Int32) × Int32) => pX3_measure_N nc0 lc0 le0 ge0 wt0 na0 y2 = some u) (fun u t => fw_B (dC, dI) A (wX cI cJ q  nc0 lc0 le0 ge0 wt0 kp0 fo0 po0 u.1 u.2 ta0 ts0 mx0 ch0 mo0 ms0 fs0) t) A) ([.ref (q 0), .ref (q 8), .int y2] : List Value).toArray s 0 0 A) (F0 m 54 ls [])) → ∀ (n9 : Nat) (x3 : Int32) (na : Nat → Int32) (H : Heap) (locs : List Loc) (ls : Array Slot), fw_wh (pX3_measure_N_10 x2 lc0 le0 ge0 wt0 ns) n9 (x3, na) = some e9 → va_P (dC, dI) vwCl (wX cI cJ q  nc0 lc0 le0 ge0 wt0 kp0 fo0 po0 na ns ta0 ts0 mx0 ch0 mo0 ms0 fs0) H → va_D A (wX cI cJ q  nc0 lc0 le0 ge0 wt0 kp0 fo0 po0 na ns ta0 ts0 mx0 ch0 mo0 ms0 fs0) → va_S A s.heap H locs → lv_has ls 4 [(0, .ref (q 0)), (1, .ref (q 8)), (2, .int x2), (3, .int x3)] → W p l e (headSpec wsX3_measure ({ frames := 2, cells := 0, slots := 0, locals := 52 })).room s m ([.ref (q 0), .ref (q 8), .int y2] : List Value).toArray below meth c H locs 0 0 (MQ below (va_Qv (fun (u : (Nat → Int32) × Int32) => pX3_measure_N nc0 lc0 le0 ge0 wt0 na0 y2 = some u) (fun u t => fw_B (dC, dI) A (wX cI cJ q  nc0 lc0 le0 ge0 wt0 kp0 fo0 po0 u.1 u.2 ta0 ts0 mx0 ch0 mo0 ms0 fs0) t) A) ([.ref (q 0), .ref (q 8), .int y2] : List Value).toArray s 0 0 A) (F0 m 10 ls []) := by
    intro x2 ns e9 hkk n9
    induction n9 with
    | zero => exact fun _ _ H locs ls hq => (fw_wh0 hq).elim
    | succ n9 ih =>
      intro x3 na H locs ls hq hP hD hS hl
      obtain ⟨w9, hq, hwI, hwE⟩ := fw_wh1 hq
      dsimp only [pX3_measure_N_10] at hq
      refine lv_iload_n hx hb dX3_measure_10 rfl (lv_at hl 3 rfl) ?_
      refine lv_aload_n hx hb dX3_measure_11 rfl (lv_at hl 0 rfl) ?_
      refine va_get (D := (dC, dI)) (ci := 3) (v := .int lc0) (C := RX3) (T := TX3) (N := 12) hx hb hts hinX3 hown hK hP 0 rfl rfl 1 (by decide) hf13 (fun _ h9 => h9) rfl dX3_measure_12 ?_
      refine lv_icmp_ge (tgt := 54) hx hb dX3_measure_15 (by decide) (fun c_5 => ?_) (fun c_5 => ?_)
      · have hq := fw_it c_5 hq
        exact hkk x3 na H locs ls (hwE _ (Option.some.inj hq).symm) hP hD hS (lv_sub hl [0, 1, 2, 3] rfl)
      · have hq := fw_if c_5 hq
        refine lv_iload_n hx hb dX3_measure_18 rfl (lv_at hl 2 rfl) ?_
        refine lv_iload_n hx hb dX3_measure_19 rfl (lv_at hl 3 rfl) ?_
        have hPc := hP.sub (ws' := (w0 cI cJ   )) [] rfl
        have hDc := hD.sub (ws' := (w0 cI cJ   )) [] (by decide) rfl
        refine fw_ci (wr := [((q 0), .inr (3, [.int nc0, .int lc0, .ref (q 1), .ref (q 2), .ref (q 3), .ref (q 4), .ref (q 5), .ref (q 6), .ref (q 8), .ref (q 10), .ref (q 12), .ref (q 16)])), ((q 1), .inl (cI, 12, .inl le0)), ((q 2), .inl (cI, 12, .inl ge0)), ((q 3), .inl (cI, 12, .inl wt0)), ((q 4), .inl (cI, 12, .inl kp0)), ((q 5), .inl (cI, 12, .inl fo0)), ((q 6), .inr (2, [.ref (q 7)])), ((q 7), .inl (cI, 7, .inl po0)), ((q 8), .inr (0, [.ref (q 9), .int ns])), ((q 9), .inl (cI, 49, .inl na)), ((q 10), .inr (0, [.ref (q 11), .int ts0])), ((q 11), .inl (cI, 49, .inl ta0)), ((q 12), .inr (1, [.ref (q 13), .ref (q 14), .ref (q 15), .int ms0])), ((q 13), .inl (cJ, 49, .inr (.inl mx0))), ((q 14), .inl (cI, 7, .inl ch0)), ((q 15), .inl (cJ, 128, .inr (.inl mo0))), ((q 16), .inl (cI, 10, .inl fs0))]) (w2 := fun u => (wX cI cJ q  nc0 lc0 le0 ge0 wt0 kp0 fo0 po0 na ns ta0 ts0 mx0 ch0 mo0 ms0 fs0)) [] [0, 1, 2, 3, 4, 5, 6, 7, 8, 9, 10, 11, 12, 13, 14, 15, 16] [0, 1, 2, 3, 4, 5, 6, 7, 8, 9, 10, 11, 12, 13, 14, 15, 16] (va_runS (As := [.int x2, .int x3]) (rest := []) ⟨hx, hb, hml, hown, hts⟩ (kX3_isIn l dC dI cI cJ  H.size   x2 x3 (fw_be hq)) (va_cwS 2 hts gX3_measure_X3_isIn rfl rfl rfl (by decide +kernel) ⟨Nat.le_of_ble_eq_true rfl, Nat.le_of_ble_eq_true rfl⟩) ⟨fw_blind, fun U hU hW => fw_pre hPc hK hDc hN hU hW⟩ rfl rfl hl.1 rfl (lv_room (Nat.le_of_ble_eq_true rfl)) dX3_measure_20 ⟨Nat.zero_le _, Nat.zero_le _⟩) hP hD hS hA rfl rfl (by decide) (by decide) (by decide) (fun _ => rfl) (fun r_6 u H locs hw hP hD hS => ?_)
        obtain ⟨hw, n_8⟩ := hw
        have hq := fw_bs hw hq
        try dsimp only at hq
        refine lv_if_eq (tgt := 48) hx hb dX3_measure_23 (by decide) (fun c_9 => ?_) (fun c_9 => ?_)
        · have hq := fw_it c_9 hq
          refine lv_iinc (v := (x3 + (1 : Int32))) (lv' := [(3, .int (x3 + (1 : Int32))), (0, .ref (q 0)), (1, .ref (q 8)), (2, .int x2)]) hx hb dX3_measure_48 hl (k := 3) rfl rfl (by decide) rfl (fun ls hl => ?_)
          refine lv_goto (tgt := 10) hx hb dX3_measure_51 (by decide) ?_
          exact ih (x3 + (1 : Int32)) na H locs ls (hwI _ (Option.some.inj hq).symm) hP hD hS (lv_sub hl [1, 2, 3, 0] rfl)
        · have hq := fw_if c_9 hq
          refine lv_aload_n hx hb dX3_measure_26 rfl (lv_at hl 1 rfl) ?_
          refine lv_aload_n hx hb dX3_measure_27 rfl (lv_at hl 0 rfl) ?_
          refine va_get (D := (dC, dI)) (ci := 3) (v := .ref (q 1)) (C := RX3) (T := TX3) (N := 12) hx hb hts hinX3 hown hK hP 0 rfl rfl 2 (by decide) hf16 (fun _ h9 => h9) rfl dX3_measure_28 ?_
          refine lv_iload_n hx hb dX3_measure_31 rfl (lv_at hl 3 rfl) ?_
          obtain ⟨h_10, hq⟩ := fw_ck_s hq
          refine va_iald hx hb hK hP 1 0 rfl rfl h_10 dX3_measure_32 ?_
          refine lv_aload_n hx hb dX3_measure_33 rfl (lv_at hl 0 rfl) ?_
          refine va_get (D := (dC, dI)) (ci := 3) (v := .ref (q 2)) (C := RX3) (T := TX3) (N := 12) hx hb hts hinX3 hown hK hP 0 rfl rfl 3 (by decide) hf20 (fun _ h9 => h9) rfl dX3_measure_34 ?_
          refine lv_iload_n hx hb dX3_measure_37 rfl (lv_at hl 3 rfl) ?_
          obtain ⟨h_11, hq⟩ := fw_ck_s hq
          refine va_iald hx hb hK hP 2 0 rfl rfl h_11 dX3_measure_38 ?_
          refine lv_aload_n hx hb dX3_measure_39 rfl (lv_at hl 0 rfl) ?_
          refine va_get (D := (dC, dI)) (ci := 3) (v := .ref (q 3)) (C := RX3) (T := TX3) (N := 12) hx hb hts hinX3 hown hK hP 0 rfl rfl 4 (by decide) hf23 (fun _ h9 => h9) rfl dX3_measure_40 ?_
          refine lv_iload_n hx hb dX3_measure_43 rfl (lv_at hl 3 rfl) ?_
          obtain ⟨h_12, hq⟩ := fw_ck_s hq
          refine va_iald hx hb hK hP 3 0 rfl rfl h_12 dX3_measure_44 ?_
          have hPc := hP.sub (ws' := (wL cI cJ (q 8) (q 9)  na ns)) [8, 9] rfl
          have hDc := hD.sub (ws' := (wL cI cJ (q 8) (q 9)  na ns)) [8, 9] (by decide) rfl
          refine fw_cv (wr := [((q 0), .inr (3, [.int nc0, .int lc0, .ref (q 1), .ref (q 2), .ref (q 3), .ref (q 4), .ref (q 5), .ref (q 6), .ref (q 8), .ref (q 10), .ref (q 12), .ref (q 16)])), ((q 1), .inl (cI, 12, .inl le0)), ((q 2), .inl (cI, 12, .inl ge0)), ((q 3), .inl (cI, 12, .inl wt0)), ((q 4), .inl (cI, 12, .inl kp0)), ((q 5), .inl (cI, 12, .inl fo0)), ((q 6), .inr (2, [.ref (q 7)])), ((q 7), .inl (cI, 7, .inl po0)), ((q 10), .inr (0, [.ref (q 11), .int ts0])), ((q 11), .inl (cI, 49, .inl ta0)), ((q 12), .inr (1, [.ref (q 13), .ref (q 14), .ref (q 15), .int ms0])), ((q 13), .inl (cJ, 49, .inr (.inl mx0))), ((q 14), .inl (cI, 7, .inl ch0)), ((q 15), .inl (cJ, 128, .inr (.inl mo0))), ((q 16), .inl (cI, 10, .inl fs0))]) (w2 := fun u => (wX cI cJ q  nc0 lc0 le0 ge0 wt0 kp0 fo0 po0 u ns ta0 ts0 mx0 ch0 mo0 ms0 fs0)) [8, 9] [0, 1, 2, 3, 4, 5, 6, 7, 10, 11, 12, 13, 14, 15, 16] [0, 1, 2, 3, 4, 5, 6, 7, 15, 16, 8, 9, 10, 11, 12, 13, 14] (va_runV (b := (q 8)) (As := [.int (le0 (x3).toNatClampNeg), .int (ge0 (x3).toNatClampNeg), .int (wt0 (x3).toNatClampNeg)]) (rest := []) ⟨hx, hb, hml, hown, hts⟩ (kX0_add l dC dI cI cJ (q 8) (q 9) H.size  na ns (le0 (x3).toNatClampNeg) (ge0 (x3).toNatClampNeg) (wt0 (x3).toNatClampNeg) (fw_be hq)) (cwV 3 hts gX3_measure_X0_add rfl rfl rfl (by decide +kernel) ⟨Nat.le_of_ble_eq_true rfl, Nat.le_of_ble_eq_true rfl⟩) ⟨fw_blind, va_recv hK hPc (ci := 0) (q0 := 0) rfl rfl, fun U hU hW => fw_pre hPc hK hDc hN hU hW⟩ rfl rfl hl.1 rfl (lv_room (Nat.le_of_ble_eq_true rfl)) dX3_measure_45 ⟨Nat.zero_le _, Nat.zero_le _⟩) hP hD hS hA rfl rfl (by decide) (by decide) (by decide) (fun _ => rfl) (fun u H locs hw hP hD hS => ?_)
          obtain ⟨la_13, rfl⟩ : ∃ z, z = u := ⟨_, rfl⟩
          have hq := fw_bs hw hq
          try dsimp only at hq
          have hP : va_P (dC, dI) vwCl (wX cI cJ q  nc0 lc0 le0 ge0 wt0 kp0 fo0 po0 la_13 ns ta0 ts0 mx0 ch0 mo0 ms0 fs0) H := hP
          have hD : va_D A (wX cI cJ q  nc0 lc0 le0 ge0 wt0 kp0 fo0 po0 la_13 ns ta0 ts0 mx0 ch0 mo0 ms0 fs0) := hD
          refine lv_iinc (v := (x3 + (1 : Int32))) (lv' := [(3, .int (x3 + (1 : Int32))), (0, .ref (q 0)), (1, .ref (q 8)), (2, .int x2)]) hx hb dX3_measure_48 hl (k := 3) rfl rfl (by decide) rfl (fun ls hl => ?_)
          refine lv_goto (tgt := 10) hx hb dX3_measure_51 (by decide) ?_
          exact ih (x3 + (1 : Int32)) la_13 H locs ls (hwI _ (Option.some.inj hq).symm) hP hD hS (lv_sub hl [1, 2, 3, 0] rfl)
  have hq := hz
  dsimp only [pX3_measure_N] at hq
  have hl := lv_entry (([.ref (q 0), .ref (q 8), .int y2] : List Value)) (n := 4) (Nat.le_of_ble_eq_true rfl)
  rw [lg_entry_eq]
  generalize (lg_sl (([.ref (q 0), .ref (q 8), .int y2] : List Value)) ++ List.replicate (4 - (lg_sl (([.ref (q 0), .ref (q 8), .int y2] : List Value))).length) Slot.unset).toArray = ls at hl ⊢
  have hl : lv_has ls 4 [(0, .ref (q 0)), (1, .ref (q 8)), (2, .int y2)] := hl
  obtain ⟨H, hHe⟩ : ∃ H : Heap, H = s.heap := ⟨_, rfl⟩
  obtain ⟨locs, hLe⟩ : ∃ L : List Loc, L = [] := ⟨_, rfl⟩
  have hP : va_P (dC, dI) vwCl (wX cI cJ q  nc0 lc0 le0 ge0 wt0 kp0 fo0 po0 na0 ns0 ta0 ts0 mx0 ch0 mo0 ms0 fs0) H := by rw [hHe]; exact hP
  have hS : va_S A s.heap H locs := by rw [hHe, hLe]; exact va_S.rf
  show W p l e (headSpec wsX3_measure ({ frames := 2, cells := 0, slots := 0, locals := 52 })).room s m ([.ref (q 0), .ref (q 8), .int y2] : List Value).toArray below meth c s.heap [] 0 0 (MQ below (va_Qv (fun (u : (Nat → Int32) × Int32) => pX3_measure_N nc0 lc0 le0 ge0 wt0 na0 y2 = some u) (fun u t => fw_B (dC, dI) A (wX cI cJ q  nc0 lc0 le0 ge0 wt0 kp0 fo0 po0 u.1 u.2 ta0 ts0 mx0 ch0 mo0 ms0 fs0) t) A) ([.ref (q 0), .ref (q 8), .int y2] : List Value).toArray s 0 0 A) (F0 m 0 ls [])
  rw [← hHe, ← hLe]
  refine lv_aload_n hx hb dX3_measure_0 rfl (lv_at hl 1 rfl) ?_
  refine lv_aload_n hx hb dX3_measure_1 rfl (lv_at hl 0 rfl) ?_
  refine va_get (D := (dC, dI)) (ci := 3) (v := .int nc0) (C := RX3) (T := TX3) (N := 12) hx hb hts hinX3 hown hK hP 0 rfl rfl 0 (by decide) hf9 (fun _ h9 => h9) rfl dX3_measure_2 ?_
  have hPc := hP.sub (ws' := (wL cI cJ (q 8) (q 9)  na0 ns0)) [8, 9] rfl
  have hDc := hD.sub (ws' := (wL cI cJ (q 8) (q 9)  na0 ns0)) [8, 9] (by decide) rfl
  refine fw_cv (wr := [((q 0), .inr (3, [.int nc0, .int lc0, .ref (q 1), .ref (q 2), .ref (q 3), .ref (q 4), .ref (q 5), .ref (q 6), .ref (q 8), .ref (q 10), .ref (q 12), .ref (q 16)])), ((q 1), .inl (cI, 12, .inl le0)), ((q 2), .inl (cI, 12, .inl ge0)), ((q 3), .inl (cI, 12, .inl wt0)), ((q 4), .inl (cI, 12, .inl kp0)), ((q 5), .inl (cI, 12, .inl fo0)), ((q 6), .inr (2, [.ref (q 7)])), ((q 7), .inl (cI, 7, .inl po0)), ((q 10), .inr (0, [.ref (q 11), .int ts0])), ((q 11), .inl (cI, 49, .inl ta0)), ((q 12), .inr (1, [.ref (q 13), .ref (q 14), .ref (q 15), .int ms0])), ((q 13), .inl (cJ, 49, .inr (.inl mx0))), ((q 14), .inl (cI, 7, .inl ch0)), ((q 15), .inl (cJ, 128, .inr (.inl mo0))), ((q 16), .inl (cI, 10, .inl fs0))]) (w2 := fun u => (wX cI cJ q  nc0 lc0 le0 ge0 wt0 kp0 fo0 po0 u.1 u.2 ta0 ts0 mx0 ch0 mo0 ms0 fs0)) [8, 9] [0, 1, 2, 3, 4, 5, 6, 7, 10, 11, 12, 13, 14, 15, 16] [0, 1, 2, 3, 4, 5, 6, 7, 15, 16, 8, 9, 10, 11, 12, 13, 14] (va_runV (b := (q 8)) (As := [.int nc0]) (rest := []) ⟨hx, hb, hml, hown, hts⟩ (kX0_clear l dC dI cI cJ (q 8) (q 9) H.size  na0 ns0 nc0 (fw_be hq)) (cwV 1 hts gX3_measure_X0_clear rfl rfl rfl (by decide +kernel) ⟨Nat.le_of_ble_eq_true rfl, Nat.le_of_ble_eq_true rfl⟩) ⟨fw_blind, va_recv hK hPc (ci := 0) (q0 := 0) rfl rfl, fun U hU hW => fw_pre hPc hK hDc hN hU hW⟩ rfl rfl hl.1 rfl (lv_room (Nat.le_of_ble_eq_true rfl)) dX3_measure_5 ⟨Nat.zero_le _, Nat.zero_le _⟩) hP hD hS hA rfl rfl (by decide) (by decide) (by decide) (fun _ => rfl) (fun u H locs hw hP hD hS => ?_)
  obtain ⟨la_1, zs_2⟩ := u
  have hq := fw_bs hw hq
  try dsimp only at hq
  have hP : va_P (dC, dI) vwCl (wX cI cJ q  nc0 lc0 le0 ge0 wt0 kp0 fo0 po0 la_1 zs_2 ta0 ts0 mx0 ch0 mo0 ms0 fs0) H := hP
  have hD : va_D A (wX cI cJ q  nc0 lc0 le0 ge0 wt0 kp0 fo0 po0 la_1 zs_2 ta0 ts0 mx0 ch0 mo0 ms0 fs0) := hD
  refine lv_iconst (v := (0 : Int32)) hx hb dX3_measure_8 (by decide) ?_
  refine lv_istore_n (lv' := [(3, .int (0 : Int32)), (0, .ref (q 0)), (1, .ref (q 8)), (2, .int y2)]) hx hb dX3_measure_9 rfl hl (by decide) rfl (fun ls hl => ?_)
  obtain ⟨e_18, hw, hq⟩ := fw_bb hq
  refine L10 y2 zs_2 e_18 (fun x3_16 na_17 H locs ls he hP hD hS hl => ?_) fw_N (0 : Int32) la_1 H locs ls hw hP hD hS (lv_sub hl [1, 2, 3, 0] rfl)
  subst he
  try dsimp only at hq
  exact W.vret hx hb hr (fun t ht hW => ⟨⟨(na_17, zs_2), rfl, hz.trans hq.symm, by rw [ht]; exact hP, hD⟩, hS.F ht⟩) hS.2.2 dX3_measure_54
set_option maxHeartbeats 4000000 in
set_option maxRecDepth 100000 in
theorem kX3_measure_T (l : Launch) (dC : Nat → ClassId) (dI : Nat → Nat → Nat) (cI cJ : ClassId) (q : Nat → Nat) (sz : Nat)  (nc0 : Int32) (lc0 : Int32) (le0 : Nat → Int32) (ge0 : Nat → Int32) (wt0 : Nat → Int32) (kp0 : Nat → Int32) (fo0 : Nat → Int32) (po0 : Nat → Int32) (na0 : Nat → Int32) (ns0 : Int32) (ta0 : Nat → Int32) (ts0 : Int32) (mx0 : Nat → Int64) (ch0 : Nat → Int32) (mo0 : Nat → Int64) (ms0 : Int32) (fs0 : Nat → Int32) (y2 : Int32) (hd : ∃ z, pX3_measure_T nc0 lc0 le0 ge0 wt0 ta0 y2 = some z) : Met l yX3_measure wsX3_measure ({ frames := 2, cells := 0, slots := 0, locals := 52 }) (fw_Pc (dC, dI) (fw_tys cI cJ) (wX cI cJ q  nc0 lc0 le0 ge0 wt0 kp0 fo0 po0 na0 ns0 ta0 ts0 mx0 ch0 mo0 ms0 fs0) ([.ref (q 0), .ref (q 10), .int y2] : List Value) sz) (va_Qv (fun (u : (Nat → Int32) × Int32) => pX3_measure_T nc0 lc0 le0 ge0 wt0 ta0 y2 = some u) (fun u t => fw_B (dC, dI) (va_A (wX cI cJ q  nc0 lc0 le0 ge0 wt0 kp0 fo0 po0 na0 ns0 ta0 ts0 mx0 ch0 mo0 ms0 fs0) sz) (wX cI cJ q  nc0 lc0 le0 ge0 wt0 kp0 fo0 po0 na0 ns0 u.1 u.2 mx0 ch0 mo0 ms0 fs0) t) (va_A (wX cI cJ q  nc0 lc0 le0 ge0 wt0 kp0 fo0 po0 na0 ns0 ta0 ts0 mx0 ch0 mo0 ms0 fs0) sz)) 0 0 (va_A (wX cI cJ q  nc0 lc0 le0 ge0 wt0 kp0 fo0 po0 na0 ns0 ta0 ts0 mx0 ch0 mo0 ms0 fs0) sz) := by
  obtain ⟨z, hz⟩ := hd
  refine Met.ofW (cc := cX3_measure) (maxL := 4) (ret := none) (by decide) rfl ?_
  intro p e s m args below meth c s₁ B hml hv
  obtain ⟨rfl, hsz, hP, hK, hD0, hN⟩ := hv
  have hx := B.exec
  have hb := B.bytes
  have hr := B.returns
  have hts := atoms_spec (ws := wsX3_measure) B.pre
  have hown : s.vm.findClass RX3 = some m.cls := findClass_of_methodNamed B.named
  have hlocks := B.notSynchronized
  subst hsz
  have hD := hD0.self (sz := s.heap.size)
  generalize hAe : va_A (wX cI cJ q  nc0 lc0 le0 ge0 wt0 kp0 fo0 po0 na0 ns0 ta0 ts0 mx0 ch0 mo0 ms0 fs0) s.heap.size = A at hD ⊢
  have hA : ∀ q : Nat, s.heap.size ≤ q → A q := fun q h => by rw [← hAe]; exact Or.inr h
  have hinX3 : ∀ w ∈ u_ws RX3 TX3 12, w ∈ wsX3_measure := by decide +kernel
  have hf9 := hts (.fieldLink RX3 9 "FewLines" "nodeCount" "I") (by decide +kernel)
  have hf13 := hts (.fieldLink RX3 13 "FewLines" "lineCount" "I") (by decide +kernel)
  have hf16 := hts (.fieldLink RX3 16 "FewLines" "lesserEnd" "[I") (by decide +kernel)
  have hf20 := hts (.fieldLink RX3 20 "FewLines" "greaterEnd" "[I") (by decide +kernel)
  have hf23 := hts (.fieldLink RX3 23 "FewLines" "weightOf" "[I") (by decide +kernel)
  have L10 : ∀ (x2 : Int32) (ts : Int32) (e9 : Int32 × (Nat → Int32)), (∀ (x3' : Int32) (ta' : Nat → Int32) (H : Heap) (locs : List Loc) (ls : Array Slot), e9 = (x3', ta') → va_P (dC, dI) vwCl (wX cI cJ q  nc0 lc0 le0 ge0 wt0 kp0 fo0 po0 na0 ns0 ta' ts mx0 ch0 mo0 ms0 fs0) H → va_D A (wX cI cJ q  nc0 lc0 le0 ge0 wt0 kp0 fo0 po0 na0 ns0 ta' ts mx0 ch0 mo0 ms0 fs0) → va_S A s.heap H locs → lv_has ls 4 [(0, .ref (q 0)), (1, .ref (q 10)), (2, .int x2), (3, .int x3')] → W p l e (headSpec wsX3_measure ({ frames := 2, cells := 0, slots := 0, locals := 52 })).room s m ([.ref (q 0), .ref (q 10), .int y2] : List Value).toArray below meth c H locs 0 0 (MQ below (va_Qv (fun (u : (Nat → Int32) × Int32) => pX3_measure_T nc0 lc0 le0 ge0 wt0 ta0 y2 = some u) (fun u t => fw_B (dC, dI) A (wX cI cJ q  nc0 lc0 le0 ge0 wt0 kp0 fo0 po0 na0 ns0 u.1 u.2 mx0 ch0 mo0 ms0 fs0) t) A) ([.ref (q 0), .ref (q 10), .int y2] : List Value).toArray s 0 0 A) (F0 m 54 ls [])) → ∀ (n9 : Nat) (x3 : Int32) (ta : Nat → Int32) (H : Heap) (locs : List Loc) (ls : Array Slot), fw_wh (pX3_measure_T_10 x2 lc0 le0 ge0 wt0 ts) n9 (x3, ta) = some e9 → va_P (dC, dI) vwCl (wX cI cJ q  nc0 lc0 le0 ge0 wt0 kp0 fo0 po0 na0 ns0 ta ts mx0 ch0 mo0 ms0 fs0) H → va_D A (wX cI cJ q  nc0 lc0 le0 ge0 wt0 kp0 fo0 po0 na0 ns0 ta ts mx0 ch0 mo0 ms0 fs0) → va_S A s.heap H locs → lv_has ls 4 [(0, .ref (q 0)), (1, .ref (q 10)), (2, .int x2), (3, .int x3)] → W p l e (headSpec wsX3_measure ({ frames := 2, cells := 0, slots := 0, locals := 52 })).room s m ([.ref (q 0), .ref (q 10), .int y2] : List Value).toArray below meth c H locs 0 0 (MQ below (va_Qv (fun (u : (Nat → Int32) × Int32) => pX3_measure_T nc0 lc0 le0 ge0 wt0 ta0 y2 = some u) (fun u t => fw_B (dC, dI) A (wX cI cJ q  nc0 lc0 le0 ge0 wt0 kp0 fo0 po0 na0 ns0 u.1 u.2 mx0 ch0 mo0 ms0 fs0) t) A) ([.ref (q 0), .ref (q 10), .int y2] : List Value).toArray s 0 0 A) (F0 m 10 ls []) := by
    intro x2 ts e9 hkk n9
    induction n9 with
    | zero => exact fun _ _ H locs ls hq => (fw_wh0 hq).elim
    | succ n9 ih =>
      intro x3 ta H locs ls hq hP hD hS hl
      obtain ⟨w9, hq, hwI, hwE⟩ := fw_wh1 hq
      dsimp only [pX3_measure_T_10] at hq
      refine lv_iload_n hx hb dX3_measure_10 rfl (lv_at hl 3 rfl) ?_
      refine lv_aload_n hx hb dX3_measure_11 rfl (lv_at hl 0 rfl) ?_
      refine va_get (D := (dC, dI)) (ci := 3) (v := .int lc0) (C := RX3) (T := TX3) (N := 12) hx hb hts hinX3 hown hK hP 0 rfl rfl 1 (by decide) hf13 (fun _ h9 => h9) rfl dX3_measure_12 ?_
      refine lv_icmp_ge (tgt := 54) hx hb dX3_measure_15 (by decide) (fun c_5 => ?_) (fun c_5 => ?_)
      · have hq := fw_it c_5 hq
        exact hkk x3 ta H locs ls (hwE _ (Option.some.inj hq).symm) hP hD hS (lv_sub hl [0, 1, 2, 3] rfl)
      · have hq := fw_if c_5 hq
        refine lv_iload_n hx hb dX3_measure_18 rfl (lv_at hl 2 rfl) ?_
        refine lv_iload_n hx hb dX3_measure_19 rfl (lv_at hl 3 rfl) ?_
        have hPc := hP.sub (ws' := (w0 cI cJ   )) [] rfl
        have hDc := hD.sub (ws' := (w0 cI cJ   )) [] (by decide) rfl
        refine fw_ci (wr := [((q 0), .inr (3, [.int nc0, .int lc0, .ref (q 1), .ref (q 2), .ref (q 3), .ref (q 4), .ref (q 5), .ref (q 6), .ref (q 8), .ref (q 10), .ref (q 12), .ref (q 16)])), ((q 1), .inl (cI, 12, .inl le0)), ((q 2), .inl (cI, 12, .inl ge0)), ((q 3), .inl (cI, 12, .inl wt0)), ((q 4), .inl (cI, 12, .inl kp0)), ((q 5), .inl (cI, 12, .inl fo0)), ((q 6), .inr (2, [.ref (q 7)])), ((q 7), .inl (cI, 7, .inl po0)), ((q 8), .inr (0, [.ref (q 9), .int ns0])), ((q 9), .inl (cI, 49, .inl na0)), ((q 10), .inr (0, [.ref (q 11), .int ts])), ((q 11), .inl (cI, 49, .inl ta)), ((q 12), .inr (1, [.ref (q 13), .ref (q 14), .ref (q 15), .int ms0])), ((q 13), .inl (cJ, 49, .inr (.inl mx0))), ((q 14), .inl (cI, 7, .inl ch0)), ((q 15), .inl (cJ, 128, .inr (.inl mo0))), ((q 16), .inl (cI, 10, .inl fs0))]) (w2 := fun u => (wX cI cJ q  nc0 lc0 le0 ge0 wt0 kp0 fo0 po0 na0 ns0 ta ts mx0 ch0 mo0 ms0 fs0)) [] [0, 1, 2, 3, 4, 5, 6, 7, 8, 9, 10, 11, 12, 13, 14, 15, 16] [0, 1, 2, 3, 4, 5, 6, 7, 8, 9, 10, 11, 12, 13, 14, 15, 16] (va_runS (As := [.int x2, .int x3]) (rest := []) ⟨hx, hb, hml, hown, hts⟩ (kX3_isIn l dC dI cI cJ  H.size   x2 x3 (fw_be hq)) (va_cwS 2 hts gX3_measure_X3_isIn rfl rfl rfl (by decide +kernel) ⟨Nat.le_of_ble_eq_true rfl, Nat.le_of_ble_eq_true rfl⟩) ⟨fw_blind, fun U hU hW => fw_pre hPc hK hDc hN hU hW⟩ rfl rfl hl.1 rfl (lv_room (Nat.le_of_ble_eq_true rfl)) dX3_measure_20 ⟨Nat.zero_le _, Nat.zero_le _⟩) hP hD hS hA rfl rfl (by decide) (by decide) (by decide) (fun _ => rfl) (fun r_6 u H locs hw hP hD hS => ?_)
        obtain ⟨hw, n_8⟩ := hw
        have hq := fw_bs hw hq
        try dsimp only at hq
        refine lv_if_eq (tgt := 48) hx hb dX3_measure_23 (by decide) (fun c_9 => ?_) (fun c_9 => ?_)
        · have hq := fw_it c_9 hq
          refine lv_iinc (v := (x3 + (1 : Int32))) (lv' := [(3, .int (x3 + (1 : Int32))), (0, .ref (q 0)), (1, .ref (q 10)), (2, .int x2)]) hx hb dX3_measure_48 hl (k := 3) rfl rfl (by decide) rfl (fun ls hl => ?_)
          refine lv_goto (tgt := 10) hx hb dX3_measure_51 (by decide) ?_
          exact ih (x3 + (1 : Int32)) ta H locs ls (hwI _ (Option.some.inj hq).symm) hP hD hS (lv_sub hl [1, 2, 3, 0] rfl)
        · have hq := fw_if c_9 hq
          refine lv_aload_n hx hb dX3_measure_26 rfl (lv_at hl 1 rfl) ?_
          refine lv_aload_n hx hb dX3_measure_27 rfl (lv_at hl 0 rfl) ?_
          refine va_get (D := (dC, dI)) (ci := 3) (v := .ref (q 1)) (C := RX3) (T := TX3) (N := 12) hx hb hts hinX3 hown hK hP 0 rfl rfl 2 (by decide) hf16 (fun _ h9 => h9) rfl dX3_measure_28 ?_
          refine lv_iload_n hx hb dX3_measure_31 rfl (lv_at hl 3 rfl) ?_
          obtain ⟨h_10, hq⟩ := fw_ck_s hq
          refine va_iald hx hb hK hP 1 0 rfl rfl h_10 dX3_measure_32 ?_
          refine lv_aload_n hx hb dX3_measure_33 rfl (lv_at hl 0 rfl) ?_
          refine va_get (D := (dC, dI)) (ci := 3) (v := .ref (q 2)) (C := RX3) (T := TX3) (N := 12) hx hb hts hinX3 hown hK hP 0 rfl rfl 3 (by decide) hf20 (fun _ h9 => h9) rfl dX3_measure_34 ?_
          refine lv_iload_n hx hb dX3_measure_37 rfl (lv_at hl 3 rfl) ?_
          obtain ⟨h_11, hq⟩ := fw_ck_s hq
          refine va_iald hx hb hK hP 2 0 rfl rfl h_11 dX3_measure_38 ?_
          refine lv_aload_n hx hb dX3_measure_39 rfl (lv_at hl 0 rfl) ?_
          refine va_get (D := (dC, dI)) (ci := 3) (v := .ref (q 3)) (C := RX3) (T := TX3) (N := 12) hx hb hts hinX3 hown hK hP 0 rfl rfl 4 (by decide) hf23 (fun _ h9 => h9) rfl dX3_measure_40 ?_
          refine lv_iload_n hx hb dX3_measure_43 rfl (lv_at hl 3 rfl) ?_
          obtain ⟨h_12, hq⟩ := fw_ck_s hq
          refine va_iald hx hb hK hP 3 0 rfl rfl h_12 dX3_measure_44 ?_
          have hPc := hP.sub (ws' := (wL cI cJ (q 10) (q 11)  ta ts)) [10, 11] rfl
          have hDc := hD.sub (ws' := (wL cI cJ (q 10) (q 11)  ta ts)) [10, 11] (by decide) rfl
          refine fw_cv (wr := [((q 0), .inr (3, [.int nc0, .int lc0, .ref (q 1), .ref (q 2), .ref (q 3), .ref (q 4), .ref (q 5), .ref (q 6), .ref (q 8), .ref (q 10), .ref (q 12), .ref (q 16)])), ((q 1), .inl (cI, 12, .inl le0)), ((q 2), .inl (cI, 12, .inl ge0)), ((q 3), .inl (cI, 12, .inl wt0)), ((q 4), .inl (cI, 12, .inl kp0)), ((q 5), .inl (cI, 12, .inl fo0)), ((q 6), .inr (2, [.ref (q 7)])), ((q 7), .inl (cI, 7, .inl po0)), ((q 8), .inr (0, [.ref (q 9), .int ns0])), ((q 9), .inl (cI, 49, .inl na0)), ((q 12), .inr (1, [.ref (q 13), .ref (q 14), .ref (q 15), .int ms0])), ((q 13), .inl (cJ, 49, .inr (.inl mx0))), ((q 14), .inl (cI, 7, .inl ch0)), ((q 15), .inl (cJ, 128, .inr (.inl mo0))), ((q 16), .inl (cI, 10, .inl fs0))]) (w2 := fun u => (wX cI cJ q  nc0 lc0 le0 ge0 wt0 kp0 fo0 po0 na0 ns0 u ts mx0 ch0 mo0 ms0 fs0)) [10, 11] [0, 1, 2, 3, 4, 5, 6, 7, 8, 9, 12, 13, 14, 15, 16] [0, 1, 2, 3, 4, 5, 6, 7, 8, 9, 15, 16, 10, 11, 12, 13, 14] (va_runV (b := (q 10)) (As := [.int (le0 (x3).toNatClampNeg), .int (ge0 (x3).toNatClampNeg), .int (wt0 (x3).toNatClampNeg)]) (rest := []) ⟨hx, hb, hml, hown, hts⟩ (kX0_add l dC dI cI cJ (q 10) (q 11) H.size  ta ts (le0 (x3).toNatClampNeg) (ge0 (x3).toNatClampNeg) (wt0 (x3).toNatClampNeg) (fw_be hq)) (cwV 3 hts gX3_measure_X0_add rfl rfl rfl (by decide +kernel) ⟨Nat.le_of_ble_eq_true rfl, Nat.le_of_ble_eq_true rfl⟩) ⟨fw_blind, va_recv hK hPc (ci := 0) (q0 := 0) rfl rfl, fun U hU hW => fw_pre hPc hK hDc hN hU hW⟩ rfl rfl hl.1 rfl (lv_room (Nat.le_of_ble_eq_true rfl)) dX3_measure_45 ⟨Nat.zero_le _, Nat.zero_le _⟩) hP hD hS hA rfl rfl (by decide) (by decide) (by decide) (fun _ => rfl) (fun u H locs hw hP hD hS => ?_)
          obtain ⟨la_13, rfl⟩ : ∃ z, z = u := ⟨_, rfl⟩
          have hq := fw_bs hw hq
          try dsimp only at hq
          have hP : va_P (dC, dI) vwCl (wX cI cJ q  nc0 lc0 le0 ge0 wt0 kp0 fo0 po0 na0 ns0 la_13 ts mx0 ch0 mo0 ms0 fs0) H := hP
          have hD : va_D A (wX cI cJ q  nc0 lc0 le0 ge0 wt0 kp0 fo0 po0 na0 ns0 la_13 ts mx0 ch0 mo0 ms0 fs0) := hD
          refine lv_iinc (v := (x3 + (1 : Int32))) (lv' := [(3, .int (x3 + (1 : Int32))), (0, .ref (q 0)), (1, .ref (q 10)), (2, .int x2)]) hx hb dX3_measure_48 hl (k := 3) rfl rfl (by decide) rfl (fun ls hl => ?_)
          refine lv_goto (tgt := 10) hx hb dX3_measure_51 (by decide) ?_
          exact ih (x3 + (1 : Int32)) la_13 H locs ls (hwI _ (Option.some.inj hq).symm) hP hD hS (lv_sub hl [1, 2, 3, 0] rfl)
  have hq := hz
  dsimp only [pX3_measure_T] at hq
  have hl := lv_entry (([.ref (q 0), .ref (q 10), .int y2] : List Value)) (n := 4) (Nat.le_of_ble_eq_true rfl)
  rw [lg_entry_eq]
  generalize (lg_sl (([.ref (q 0), .ref (q 10), .int y2] : List Value)) ++ List.replicate (4 - (lg_sl (([.ref (q 0), .ref (q 10), .int y2] : List Value))).length) Slot.unset).toArray = ls at hl ⊢
  have hl : lv_has ls 4 [(0, .ref (q 0)), (1, .ref (q 10)), (2, .int y2)] := hl
  obtain ⟨H, hHe⟩ : ∃ H : Heap, H = s.heap := ⟨_, rfl⟩
  obtain ⟨locs, hLe⟩ : ∃ L : List Loc, L = [] := ⟨_, rfl⟩
  have hP : va_P (dC, dI) vwCl (wX cI cJ q  nc0 lc0 le0 ge0 wt0 kp0 fo0 po0 na0 ns0 ta0 ts0 mx0 ch0 mo0 ms0 fs0) H := by rw [hHe]; exact hP
  have hS : va_S A s.heap H locs := by rw [hHe, hLe]; exact va_S.rf
  show W p l e (headSpec wsX3_measure ({ frames := 2, cells := 0, slots := 0, locals := 52 })).room s m ([.ref (q 0), .ref (q 10), .int y2] : List Value).toArray below meth c s.heap [] 0 0 (MQ below (va_Qv (fun (u : (Nat → Int32) × Int32) => pX3_measure_T nc0 lc0 le0 ge0 wt0 ta0 y2 = some u) (fun u t => fw_B (dC, dI) A (wX cI cJ q  nc0 lc0 le0 ge0 wt0 kp0 fo0 po0 na0 ns0 u.1 u.2 mx0 ch0 mo0 ms0 fs0) t) A) ([.ref (q 0), .ref (q 10), .int y2] : List Value).toArray s 0 0 A) (F0 m 0 ls [])
  rw [← hHe, ← hLe]
  refine lv_aload_n hx hb dX3_measure_0 rfl (lv_at hl 1 rfl) ?_
  refine lv_aload_n hx hb dX3_measure_1 rfl (lv_at hl 0 rfl) ?_
  refine va_get (D := (dC, dI)) (ci := 3) (v := .int nc0) (C := RX3) (T := TX3) (N := 12) hx hb hts hinX3 hown hK hP 0 rfl rfl 0 (by decide) hf9 (fun _ h9 => h9) rfl dX3_measure_2 ?_
  have hPc := hP.sub (ws' := (wL cI cJ (q 10) (q 11)  ta0 ts0)) [10, 11] rfl
  have hDc := hD.sub (ws' := (wL cI cJ (q 10) (q 11)  ta0 ts0)) [10, 11] (by decide) rfl
  refine fw_cv (wr := [((q 0), .inr (3, [.int nc0, .int lc0, .ref (q 1), .ref (q 2), .ref (q 3), .ref (q 4), .ref (q 5), .ref (q 6), .ref (q 8), .ref (q 10), .ref (q 12), .ref (q 16)])), ((q 1), .inl (cI, 12, .inl le0)), ((q 2), .inl (cI, 12, .inl ge0)), ((q 3), .inl (cI, 12, .inl wt0)), ((q 4), .inl (cI, 12, .inl kp0)), ((q 5), .inl (cI, 12, .inl fo0)), ((q 6), .inr (2, [.ref (q 7)])), ((q 7), .inl (cI, 7, .inl po0)), ((q 8), .inr (0, [.ref (q 9), .int ns0])), ((q 9), .inl (cI, 49, .inl na0)), ((q 12), .inr (1, [.ref (q 13), .ref (q 14), .ref (q 15), .int ms0])), ((q 13), .inl (cJ, 49, .inr (.inl mx0))), ((q 14), .inl (cI, 7, .inl ch0)), ((q 15), .inl (cJ, 128, .inr (.inl mo0))), ((q 16), .inl (cI, 10, .inl fs0))]) (w2 := fun u => (wX cI cJ q  nc0 lc0 le0 ge0 wt0 kp0 fo0 po0 na0 ns0 u.1 u.2 mx0 ch0 mo0 ms0 fs0)) [10, 11] [0, 1, 2, 3, 4, 5, 6, 7, 8, 9, 12, 13, 14, 15, 16] [0, 1, 2, 3, 4, 5, 6, 7, 8, 9, 15, 16, 10, 11, 12, 13, 14] (va_runV (b := (q 10)) (As := [.int nc0]) (rest := []) ⟨hx, hb, hml, hown, hts⟩ (kX0_clear l dC dI cI cJ (q 10) (q 11) H.size  ta0 ts0 nc0 (fw_be hq)) (cwV 1 hts gX3_measure_X0_clear rfl rfl rfl (by decide +kernel) ⟨Nat.le_of_ble_eq_true rfl, Nat.le_of_ble_eq_true rfl⟩) ⟨fw_blind, va_recv hK hPc (ci := 0) (q0 := 0) rfl rfl, fun U hU hW => fw_pre hPc hK hDc hN hU hW⟩ rfl rfl hl.1 rfl (lv_room (Nat.le_of_ble_eq_true rfl)) dX3_measure_5 ⟨Nat.zero_le _, Nat.zero_le _⟩) hP hD hS hA rfl rfl (by decide) (by decide) (by decide) (fun _ => rfl) (fun u H locs hw hP hD hS => ?_)
  obtain ⟨la_1, zs_2⟩ := u
  have hq := fw_bs hw hq
  try dsimp only at hq
  have hP : va_P (dC, dI) vwCl (wX cI cJ q  nc0 lc0 le0 ge0 wt0 kp0 fo0 po0 na0 ns0 la_1 zs_2 mx0 ch0 mo0 ms0 fs0) H := hP
  have hD : va_D A (wX cI cJ q  nc0 lc0 le0 ge0 wt0 kp0 fo0 po0 na0 ns0 la_1 zs_2 mx0 ch0 mo0 ms0 fs0) := hD
  refine lv_iconst (v := (0 : Int32)) hx hb dX3_measure_8 (by decide) ?_
  refine lv_istore_n (lv' := [(3, .int (0 : Int32)), (0, .ref (q 0)), (1, .ref (q 10)), (2, .int y2)]) hx hb dX3_measure_9 rfl hl (by decide) rfl (fun ls hl => ?_)
  obtain ⟨e_18, hw, hq⟩ := fw_bb hq
  refine L10 y2 zs_2 e_18 (fun x3_16 ta_17 H locs ls he hP hD hS hl => ?_) fw_N (0 : Int32) la_1 H locs ls hw hP hD hS (lv_sub hl [1, 2, 3, 0] rfl)
  subst he
  try dsimp only at hq
  exact W.vret hx hb hr (fun t ht hW => ⟨⟨(ta_17, zs_2), rfl, hz.trans hq.symm, by rw [ht]; exact hP, hD⟩, hS.F ht⟩) hS.2.2 dX3_measure_54
set_option maxHeartbeats 4000000 in
set_option maxRecDepth 100000 in
theorem kX3_measured_N (l : Launch) (dC : Nat → ClassId) (dI : Nat → Nat → Nat) (cI cJ : ClassId) (q : Nat → Nat) (sz : Nat)  (nc0 : Int32) (lc0 : Int32) (le0 : Nat → Int32) (ge0 : Nat → Int32) (wt0 : Nat → Int32) (kp0 : Nat → Int32) (fo0 : Nat → Int32) (po0 : Nat → Int32) (na0 : Nat → Int32) (ns0 : Int32) (ta0 : Nat → Int32) (ts0 : Int32) (mx0 : Nat → Int64) (ch0 : Nat → Int32) (mo0 : Nat → Int64) (ms0 : Int32) (fs0 : Nat → Int32) (y1 : Int32) (hw0 : y1 = (0 : Int32)) (hd : ∃ z, pX3_measured_N nc0 lc0 le0 ge0 wt0 kp0 na0 y1 = some z) : Met l yX3_measured wsX3_measured ({ frames := 3, cells := 0, slots := 0, locals := 75 }) (fw_Pc (dC, dI) (fw_tys cI cJ) (wX cI cJ q  nc0 lc0 le0 ge0 wt0 kp0 fo0 po0 na0 ns0 ta0 ts0 mx0 ch0 mo0 ms0 fs0) ([.ref (q 0), .int y1] : List Value) sz) (va_Qr (fun (u : (Nat → Int32) × Int32) => pX3_measured_N nc0 lc0 le0 ge0 wt0 kp0 na0 y1 = some u) (fun u x t => x = (q 8) ∧ fw_B (dC, dI) (va_A (wX cI cJ q  nc0 lc0 le0 ge0 wt0 kp0 fo0 po0 na0 ns0 ta0 ts0 mx0 ch0 mo0 ms0 fs0) sz) (wX cI cJ q  nc0 lc0 le0 ge0 wt0 kp0 fo0 po0 u.1 u.2 ta0 ts0 mx0 ch0 mo0 ms0 fs0) t) (va_A (wX cI cJ q  nc0 lc0 le0 ge0 wt0 kp0 fo0 po0 na0 ns0 ta0 ts0 mx0 ch0 mo0 ms0 fs0) sz)) 0 0 (va_A (wX cI cJ q  nc0 lc0 le0 ge0 wt0 kp0 fo0 po0 na0 ns0 ta0 ts0 mx0 ch0 mo0 ms0 fs0) sz) := by
  obtain ⟨z, hz⟩ := hd
  refine Met.ofW (cc := cX3_measured) (maxL := 3) (ret := (some (.object "FewLines$Lengths"))) (by decide) rfl ?_
  intro p e s m args below meth c s₁ B hml hv
  obtain ⟨rfl, hsz, hP, hK, hD0, hN⟩ := hv
  have hx := B.exec
  have hb := B.bytes
  have hr := B.returns
  have hts := atoms_spec (ws := wsX3_measured) B.pre
  have hown : s.vm.findClass RX3 = some m.cls := findClass_of_methodNamed B.named
  have hlocks := B.notSynchronized
  subst hsz
  have hD := hD0.self (sz := s.heap.size)
  generalize hAe : va_A (wX cI cJ q  nc0 lc0 le0 ge0 wt0 kp0 fo0 po0 na0 ns0 ta0 ts0 mx0 ch0 mo0 ms0 fs0) s.heap.size = A at hD ⊢
  have hA : ∀ q : Nat, s.heap.size ≤ q → A q := fun q h => by rw [← hAe]; exact Or.inr h
  have hinX3 : ∀ w ∈ u_ws RX3 TX3 12, w ∈ wsX3_measured := by decide +kernel
  have hf42 := hts (.fieldLink RX3 42 "FewLines" "netLengths" "LFewLines$Lengths;") (by decide +kernel)
  have hq := hz
  dsimp only [pX3_measured_N] at hq
  have hl := lv_entry (([.ref (q 0), .int y1] : List Value)) (n := 3) (Nat.le_of_ble_eq_true rfl)
  rw [lg_entry_eq]
  generalize (lg_sl (([.ref (q 0), .int y1] : List Value)) ++ List.replicate (3 - (lg_sl (([.ref (q 0), .int y1] : List Value))).length) Slot.unset).toArray = ls at hl ⊢
  have hl : lv_has ls 3 [(0, .ref (q 0)), (1, .int y1)] := hl
  obtain ⟨H, hHe⟩ : ∃ H : Heap, H = s.heap := ⟨_, rfl⟩
  obtain ⟨locs, hLe⟩ : ∃ L : List Loc, L = [] := ⟨_, rfl⟩
  have hP : va_P (dC, dI) vwCl (wX cI cJ q  nc0 lc0 le0 ge0 wt0 kp0 fo0 po0 na0 ns0 ta0 ts0 mx0 ch0 mo0 ms0 fs0) H := by rw [hHe]; exact hP
  have hS : va_S A s.heap H locs := by rw [hHe, hLe]; exact va_S.rf
  show W p l e (headSpec wsX3_measured ({ frames := 3, cells := 0, slots := 0, locals := 75 })).room s m ([.ref (q 0), .int y1] : List Value).toArray below meth c s.heap [] 0 0 (MQ below (va_Qr (fun (u : (Nat → Int32) × Int32) => pX3_measured_N nc0 lc0 le0 ge0 wt0 kp0 na0 y1 = some u) (fun u x t => x = (q 8) ∧ fw_B (dC, dI) A (wX cI cJ q  nc0 lc0 le0 ge0 wt0 kp0 fo0 po0 u.1 u.2 ta0 ts0 mx0 ch0 mo0 ms0 fs0) t) A) ([.ref (q 0), .int y1] : List Value).toArray s 0 0 A) (F0 m 0 ls [])
  rw [← hHe, ← hLe]
  refine lv_iload_n hx hb dX3_measured_0 rfl (lv_at hl 1 rfl) ?_
  refine lv_if_ne (tgt := 11) hx hb dX3_measured_1 (by decide) (fun c_1 => absurd hw0 c_1) (fun c_1 => ?_)
  refine lv_aload_n hx hb dX3_measured_4 rfl (lv_at hl 0 rfl) ?_
  refine va_get (D := (dC, dI)) (ci := 3) (v := .ref (q 8)) (C := RX3) (T := TX3) (N := 12) hx hb hts hinX3 hown hK hP 0 rfl rfl 8 (by decide) hf42 (fun _ h9 => h9) rfl dX3_measured_5 ?_
  refine lv_goto (tgt := 15) hx hb dX3_measured_8 (by decide) ?_
  refine lv_astore_n (lv' := [(2, .ref (q 8)), (0, .ref (q 0)), (1, .int y1)]) hx hb dX3_measured_15 rfl hl (by decide) rfl (fun ls hl => ?_)
  refine lv_aload_n hx hb dX3_measured_16 rfl (lv_at hl 1 rfl) ?_
  refine lv_aload_n hx hb dX3_measured_17 rfl (lv_at hl 0 rfl) ?_
  refine lv_aload_n hx hb dX3_measured_18 rfl (lv_at hl 1 rfl) ?_
  refine lv_iload_n hx hb dX3_measured_19 rfl (lv_at hl 2 rfl) ?_
  have hPc := hP.sub (ws' := (wX cI cJ q  nc0 lc0 le0 ge0 wt0 kp0 fo0 po0 na0 ns0 ta0 ts0 mx0 ch0 mo0 ms0 fs0)) [0, 1, 2, 3, 4, 5, 6, 7, 8, 9, 10, 11, 12, 13, 14, 15, 16] rfl
  have hDc := hD.sub (ws' := (wX cI cJ q  nc0 lc0 le0 ge0 wt0 kp0 fo0 po0 na0 ns0 ta0 ts0 mx0 ch0 mo0 ms0 fs0)) [0, 1, 2, 3, 4, 5, 6, 7, 8, 9, 10, 11, 12, 13, 14, 15, 16] (by decide) rfl
  refine fw_ci (wr := []) (w2 := fun u => (wX cI cJ q  nc0 lc0 le0 ge0 wt0 kp0 fo0 po0 na0 ns0 ta0 ts0 mx0 ch0 mo0 ms0 fs0)) [0, 1, 2, 3, 4, 5, 6, 7, 8, 9, 10, 11, 12, 13, 14, 15, 16] [] [0, 1, 2, 3, 4, 5, 6, 7, 8, 9, 10, 11, 12, 13, 14, 15, 16] (va_runV (b := (q 0)) (As := [.int y1]) (rest := [.ref (q 8), .ref (q 0)]) ⟨hx, hb, hml, hown, hts⟩ (kX3_linesOf l dC dI cI cJ q H.size  nc0 lc0 le0 ge0 wt0 kp0 fo0 po0 na0 ns0 ta0 ts0 mx0 ch0 mo0 ms0 fs0 y1 (fw_be hq)) (cwV 1 hts gX3_measured_X3_linesOf rfl rfl rfl (by decide +kernel) ⟨Nat.le_of_ble_eq_true rfl, Nat.le_of_ble_eq_true rfl⟩) ⟨fw_blind, va_recv hK hPc (ci := 3) (q0 := 0) rfl rfl, fun U hU hW => fw_pre hPc hK hDc hN hU hW⟩ rfl rfl hl.1 rfl (lv_room (Nat.le_of_ble_eq_true rfl)) dX3_measured_20 ⟨Nat.zero_le _, Nat.zero_le _⟩) hP hD hS hA rfl rfl (by decide) (by decide) (by decide) (fun _ => rfl) (fun r_2 u H locs hw hP hD hS => ?_)
  have hq := fw_bs hw hq
  try dsimp only at hq
  have hPc := hP.sub (ws' := (wX cI cJ q  nc0 lc0 le0 ge0 wt0 kp0 fo0 po0 na0 ns0 ta0 ts0 mx0 ch0 mo0 ms0 fs0)) [0, 1, 2, 3, 4, 5, 6, 7, 8, 9, 10, 11, 12, 13, 14, 15, 16] rfl
  have hDc := hD.sub (ws' := (wX cI cJ q  nc0 lc0 le0 ge0 wt0 kp0 fo0 po0 na0 ns0 ta0 ts0 mx0 ch0 mo0 ms0 fs0)) [0, 1, 2, 3, 4, 5, 6, 7, 8, 9, 10, 11, 12, 13, 14, 15, 16] (by decide) rfl
  refine fw_cv (wr := []) (w2 := fun u => (wX cI cJ q  nc0 lc0 le0 ge0 wt0 kp0 fo0 po0 u.1 u.2 ta0 ts0 mx0 ch0 mo0 ms0 fs0)) [0, 1, 2, 3, 4, 5, 6, 7, 8, 9, 10, 11, 12, 13, 14, 15, 16] [] [0, 1, 2, 3, 4, 5, 6, 7, 8, 9, 10, 11, 12, 13, 14, 15, 16] (va_runV (b := (q 0)) (As := [.ref (q 8), .int r_2]) (rest := []) ⟨hx, hb, hml, hown, hts⟩ (kX3_measure_N l dC dI cI cJ q H.size  nc0 lc0 le0 ge0 wt0 kp0 fo0 po0 na0 ns0 ta0 ts0 mx0 ch0 mo0 ms0 fs0 r_2 (fw_be hq)) (cwV 2 hts gX3_measured_X3_measure rfl rfl rfl (by decide +kernel) ⟨Nat.le_of_ble_eq_true rfl, Nat.le_of_ble_eq_true rfl⟩) ⟨fw_blind, va_recv hK hPc (ci := 3) (q0 := 0) rfl rfl, fun U hU hW => fw_pre hPc hK hDc hN hU hW⟩ rfl rfl hl.1 rfl (lv_room (Nat.le_of_ble_eq_true rfl)) dX3_measured_23 ⟨Nat.zero_le _, Nat.zero_le _⟩) hP hD hS hA rfl rfl (by decide) (by decide) (by decide) (fun _ => rfl) (fun u H locs hw hP hD hS => ?_)
  obtain ⟨na_4, ns_5⟩ := u
  have hq := fw_bs hw hq
  try dsimp only at hq
  have hP : va_P (dC, dI) vwCl (wX cI cJ q  nc0 lc0 le0 ge0 wt0 kp0 fo0 po0 na_4 ns_5 ta0 ts0 mx0 ch0 mo0 ms0 fs0) H := hP
  have hD : va_D A (wX cI cJ q  nc0 lc0 le0 ge0 wt0 kp0 fo0 po0 na_4 ns_5 ta0 ts0 mx0 ch0 mo0 ms0 fs0) := hD
  refine lv_aload_n hx hb dX3_measured_26 rfl (lv_at hl 0 rfl) ?_
  exact W.aret (v := .ref (q 8)) hx hb hr (Or.inl ⟨_, rfl⟩) (Or.inr ⟨_, rfl⟩) (fun t ht hW => ⟨⟨(na_4, ns_5), (q 8), rfl, hz.trans hq.symm, rfl, by rw [ht]; exact hP, hD⟩, hS.F ht⟩) hS.2.2 dX3_measured_27
set_option maxHeartbeats 4000000 in
set_option maxRecDepth 100000 in
theorem kX3_measured_T (l : Launch) (dC : Nat → ClassId) (dI : Nat → Nat → Nat) (cI cJ : ClassId) (q : Nat → Nat) (sz : Nat)  (nc0 : Int32) (lc0 : Int32) (le0 : Nat → Int32) (ge0 : Nat → Int32) (wt0 : Nat → Int32) (kp0 : Nat → Int32) (fo0 : Nat → Int32) (po0 : Nat → Int32) (na0 : Nat → Int32) (ns0 : Int32) (ta0 : Nat → Int32) (ts0 : Int32) (mx0 : Nat → Int64) (ch0 : Nat → Int32) (mo0 : Nat → Int64) (ms0 : Int32) (fs0 : Nat → Int32) (y1 : Int32) (hw0 : ¬ y1 = (0 : Int32)) (hd : ∃ z, pX3_measured_T nc0 lc0 le0 ge0 wt0 kp0 ta0 y1 = some z) : Met l yX3_measured wsX3_measured ({ frames := 3, cells := 0, slots := 0, locals := 75 }) (fw_Pc (dC, dI) (fw_tys cI cJ) (wX cI cJ q  nc0 lc0 le0 ge0 wt0 kp0 fo0 po0 na0 ns0 ta0 ts0 mx0 ch0 mo0 ms0 fs0) ([.ref (q 0), .int y1] : List Value) sz) (va_Qr (fun (u : (Nat → Int32) × Int32) => pX3_measured_T nc0 lc0 le0 ge0 wt0 kp0 ta0 y1 = some u) (fun u x t => x = (q 10) ∧ fw_B (dC, dI) (va_A (wX cI cJ q  nc0 lc0 le0 ge0 wt0 kp0 fo0 po0 na0 ns0 ta0 ts0 mx0 ch0 mo0 ms0 fs0) sz) (wX cI cJ q  nc0 lc0 le0 ge0 wt0 kp0 fo0 po0 na0 ns0 u.1 u.2 mx0 ch0 mo0 ms0 fs0) t) (va_A (wX cI cJ q  nc0 lc0 le0 ge0 wt0 kp0 fo0 po0 na0 ns0 ta0 ts0 mx0 ch0 mo0 ms0 fs0) sz)) 0 0 (va_A (wX cI cJ q  nc0 lc0 le0 ge0 wt0 kp0 fo0 po0 na0 ns0 ta0 ts0 mx0 ch0 mo0 ms0 fs0) sz) := by
  obtain ⟨z, hz⟩ := hd
  refine Met.ofW (cc := cX3_measured) (maxL := 3) (ret := (some (.object "FewLines$Lengths"))) (by decide) rfl ?_
  intro p e s m args below meth c s₁ B hml hv
  obtain ⟨rfl, hsz, hP, hK, hD0, hN⟩ := hv
  have hx := B.exec
  have hb := B.bytes
  have hr := B.returns
  have hts := atoms_spec (ws := wsX3_measured) B.pre
  have hown : s.vm.findClass RX3 = some m.cls := findClass_of_methodNamed B.named
  have hlocks := B.notSynchronized
  subst hsz
  have hD := hD0.self (sz := s.heap.size)
  generalize hAe : va_A (wX cI cJ q  nc0 lc0 le0 ge0 wt0 kp0 fo0 po0 na0 ns0 ta0 ts0 mx0 ch0 mo0 ms0 fs0) s.heap.size = A at hD ⊢
  have hA : ∀ q : Nat, s.heap.size ≤ q → A q := fun q h => by rw [← hAe]; exact Or.inr h
  have hinX3 : ∀ w ∈ u_ws RX3 TX3 12, w ∈ wsX3_measured := by decide +kernel
  have hf46 := hts (.fieldLink RX3 46 "FewLines" "thinLengths" "LFewLines$Lengths;") (by decide +kernel)
  have hq := hz
  dsimp only [pX3_measured_T] at hq
  have hl := lv_entry (([.ref (q 0), .int y1] : List Value)) (n := 3) (Nat.le_of_ble_eq_true rfl)
  rw [lg_entry_eq]
  generalize (lg_sl (([.ref (q 0), .int y1] : List Value)) ++ List.replicate (3 - (lg_sl (([.ref (q 0), .int y1] : List Value))).length) Slot.unset).toArray = ls at hl ⊢
  have hl : lv_has ls 3 [(0, .ref (q 0)), (1, .int y1)] := hl
  obtain ⟨H, hHe⟩ : ∃ H : Heap, H = s.heap := ⟨_, rfl⟩
  obtain ⟨locs, hLe⟩ : ∃ L : List Loc, L = [] := ⟨_, rfl⟩
  have hP : va_P (dC, dI) vwCl (wX cI cJ q  nc0 lc0 le0 ge0 wt0 kp0 fo0 po0 na0 ns0 ta0 ts0 mx0 ch0 mo0 ms0 fs0) H := by rw [hHe]; exact hP
  have hS : va_S A s.heap H locs := by rw [hHe, hLe]; exact va_S.rf
  show W p l e (headSpec wsX3_measured ({ frames := 3, cells := 0, slots := 0, locals := 75 })).room s m ([.ref (q 0), .int y1] : List Value).toArray below meth c s.heap [] 0 0 (MQ below (va_Qr (fun (u : (Nat → Int32) × Int32) => pX3_measured_T nc0 lc0 le0 ge0 wt0 kp0 ta0 y1 = some u) (fun u x t => x = (q 10) ∧ fw_B (dC, dI) A (wX cI cJ q  nc0 lc0 le0 ge0 wt0 kp0 fo0 po0 na0 ns0 u.1 u.2 mx0 ch0 mo0 ms0 fs0) t) A) ([.ref (q 0), .int y1] : List Value).toArray s 0 0 A) (F0 m 0 ls [])
  rw [← hHe, ← hLe]
  refine lv_iload_n hx hb dX3_measured_0 rfl (lv_at hl 1 rfl) ?_
  refine lv_if_ne (tgt := 11) hx hb dX3_measured_1 (by decide) (fun c_1 => ?_) (fun c_1 => absurd c_1 hw0)
  refine lv_aload_n hx hb dX3_measured_11 rfl (lv_at hl 0 rfl) ?_
  refine va_get (D := (dC, dI)) (ci := 3) (v := .ref (q 10)) (C := RX3) (T := TX3) (N := 12) hx hb hts hinX3 hown hK hP 0 rfl rfl 9 (by decide) hf46 (fun _ h9 => h9) rfl dX3_measured_12 ?_
  refine lv_astore_n (lv' := [(2, .ref (q 10)), (0, .ref (q 0)), (1, .int y1)]) hx hb dX3_measured_15 rfl hl (by decide) rfl (fun ls hl => ?_)
  refine lv_aload_n hx hb dX3_measured_16 rfl (lv_at hl 1 rfl) ?_
  refine lv_aload_n hx hb dX3_measured_17 rfl (lv_at hl 0 rfl) ?_
  refine lv_aload_n hx hb dX3_measured_18 rfl (lv_at hl 1 rfl) ?_
  refine lv_iload_n hx hb dX3_measured_19 rfl (lv_at hl 2 rfl) ?_
  have hPc := hP.sub (ws' := (wX cI cJ q  nc0 lc0 le0 ge0 wt0 kp0 fo0 po0 na0 ns0 ta0 ts0 mx0 ch0 mo0 ms0 fs0)) [0, 1, 2, 3, 4, 5, 6, 7, 8, 9, 10, 11, 12, 13, 14, 15, 16] rfl
  have hDc := hD.sub (ws' := (wX cI cJ q  nc0 lc0 le0 ge0 wt0 kp0 fo0 po0 na0 ns0 ta0 ts0 mx0 ch0 mo0 ms0 fs0)) [0, 1, 2, 3, 4, 5, 6, 7, 8, 9, 10, 11, 12, 13, 14, 15, 16] (by decide) rfl
  refine fw_ci (wr := []) (w2 := fun u => (wX cI cJ q  nc0 lc0 le0 ge0 wt0 kp0 fo0 po0 na0 ns0 ta0 ts0 mx0 ch0 mo0 ms0 fs0)) [0, 1, 2, 3, 4, 5, 6, 7, 8, 9, 10, 11, 12, 13, 14, 15, 16] [] [0, 1, 2, 3, 4, 5, 6, 7, 8, 9, 10, 11, 12, 13, 14, 15, 16] (va_runV (b := (q 0)) (As := [.int y1]) (rest := [.ref (q 10), .ref (q 0)]) ⟨hx, hb, hml, hown, hts⟩ (kX3_linesOf l dC dI cI cJ q H.size  nc0 lc0 le0 ge0 wt0 kp0 fo0 po0 na0 ns0 ta0 ts0 mx0 ch0 mo0 ms0 fs0 y1 (fw_be hq)) (cwV 1 hts gX3_measured_X3_linesOf rfl rfl rfl (by decide +kernel) ⟨Nat.le_of_ble_eq_true rfl, Nat.le_of_ble_eq_true rfl⟩) ⟨fw_blind, va_recv hK hPc (ci := 3) (q0 := 0) rfl rfl, fun U hU hW => fw_pre hPc hK hDc hN hU hW⟩ rfl rfl hl.1 rfl (lv_room (Nat.le_of_ble_eq_true rfl)) dX3_measured_20 ⟨Nat.zero_le _, Nat.zero_le _⟩) hP hD hS hA rfl rfl (by decide) (by decide) (by decide) (fun _ => rfl) (fun r_2 u H locs hw hP hD hS => ?_)
  have hq := fw_bs hw hq
  try dsimp only at hq
  have hPc := hP.sub (ws' := (wX cI cJ q  nc0 lc0 le0 ge0 wt0 kp0 fo0 po0 na0 ns0 ta0 ts0 mx0 ch0 mo0 ms0 fs0)) [0, 1, 2, 3, 4, 5, 6, 7, 8, 9, 10, 11, 12, 13, 14, 15, 16] rfl
  have hDc := hD.sub (ws' := (wX cI cJ q  nc0 lc0 le0 ge0 wt0 kp0 fo0 po0 na0 ns0 ta0 ts0 mx0 ch0 mo0 ms0 fs0)) [0, 1, 2, 3, 4, 5, 6, 7, 8, 9, 10, 11, 12, 13, 14, 15, 16] (by decide) rfl
  refine fw_cv (wr := []) (w2 := fun u => (wX cI cJ q  nc0 lc0 le0 ge0 wt0 kp0 fo0 po0 na0 ns0 u.1 u.2 mx0 ch0 mo0 ms0 fs0)) [0, 1, 2, 3, 4, 5, 6, 7, 8, 9, 10, 11, 12, 13, 14, 15, 16] [] [0, 1, 2, 3, 4, 5, 6, 7, 8, 9, 10, 11, 12, 13, 14, 15, 16] (va_runV (b := (q 0)) (As := [.ref (q 10), .int r_2]) (rest := []) ⟨hx, hb, hml, hown, hts⟩ (kX3_measure_T l dC dI cI cJ q H.size  nc0 lc0 le0 ge0 wt0 kp0 fo0 po0 na0 ns0 ta0 ts0 mx0 ch0 mo0 ms0 fs0 r_2 (fw_be hq)) (cwV 2 hts gX3_measured_X3_measure rfl rfl rfl (by decide +kernel) ⟨Nat.le_of_ble_eq_true rfl, Nat.le_of_ble_eq_true rfl⟩) ⟨fw_blind, va_recv hK hPc (ci := 3) (q0 := 0) rfl rfl, fun U hU hW => fw_pre hPc hK hDc hN hU hW⟩ rfl rfl hl.1 rfl (lv_room (Nat.le_of_ble_eq_true rfl)) dX3_measured_23 ⟨Nat.zero_le _, Nat.zero_le _⟩) hP hD hS hA rfl rfl (by decide) (by decide) (by decide) (fun _ => rfl) (fun u H locs hw hP hD hS => ?_)
  obtain ⟨ta_4, ts_5⟩ := u
  have hq := fw_bs hw hq
  try dsimp only at hq
  have hP : va_P (dC, dI) vwCl (wX cI cJ q  nc0 lc0 le0 ge0 wt0 kp0 fo0 po0 na0 ns0 ta_4 ts_5 mx0 ch0 mo0 ms0 fs0) H := hP
  have hD : va_D A (wX cI cJ q  nc0 lc0 le0 ge0 wt0 kp0 fo0 po0 na0 ns0 ta_4 ts_5 mx0 ch0 mo0 ms0 fs0) := hD
  refine lv_aload_n hx hb dX3_measured_26 rfl (lv_at hl 0 rfl) ?_
  exact W.aret (v := .ref (q 10)) hx hb hr (Or.inl ⟨_, rfl⟩) (Or.inr ⟨_, rfl⟩) (fun t ht hW => ⟨⟨(ta_4, ts_5), (q 10), rfl, hz.trans hq.symm, rfl, by rw [ht]; exact hP, hD⟩, hS.F ht⟩) hS.2.2 dX3_measured_27
set_option maxHeartbeats 4000000 in
set_option maxRecDepth 100000 in
theorem kX3_lengthBetweenEnds (l : Launch) (dC : Nat → ClassId) (dI : Nat → Nat → Nat) (cI cJ : ClassId) (q : Nat → Nat) (sz : Nat)  (nc0 : Int32) (lc0 : Int32) (le0 : Nat → Int32) (ge0 : Nat → Int32) (wt0 : Nat → Int32) (kp0 : Nat → Int32) (fo0 : Nat → Int32) (po0 : Nat → Int32) (na0 : Nat → Int32) (ns0 : Int32) (ta0 : Nat → Int32) (ts0 : Int32) (mx0 : Nat → Int64) (ch0 : Nat → Int32) (mo0 : Nat → Int64) (ms0 : Int32) (fs0 : Nat → Int32) (y1 : Int32) (hd : ∃ z, pX3_lengthBetweenEnds le0 ge0 ta0 y1 = some z) : Met l yX3_lengthBetweenEnds wsX3_lengthBetweenEnds ({ frames := 1, cells := 0, slots := 0, locals := 22 }) (fw_Pc (dC, dI) (fw_tys cI cJ) (wX cI cJ q  nc0 lc0 le0 ge0 wt0 kp0 fo0 po0 na0 ns0 ta0 ts0 mx0 ch0 mo0 ms0 fs0) ([.ref (q 0), .int y1] : List Value) sz) (va_Qi (fun (r : Int32) (u : Unit) => pX3_lengthBetweenEnds le0 ge0 ta0 y1 = some r) (fun u t => fw_B (dC, dI) (va_A (wX cI cJ q  nc0 lc0 le0 ge0 wt0 kp0 fo0 po0 na0 ns0 ta0 ts0 mx0 ch0 mo0 ms0 fs0) sz) (wX cI cJ q  nc0 lc0 le0 ge0 wt0 kp0 fo0 po0 na0 ns0 ta0 ts0 mx0 ch0 mo0 ms0 fs0) t) (va_A (wX cI cJ q  nc0 lc0 le0 ge0 wt0 kp0 fo0 po0 na0 ns0 ta0 ts0 mx0 ch0 mo0 ms0 fs0) sz)) 0 0 (va_A (wX cI cJ q  nc0 lc0 le0 ge0 wt0 kp0 fo0 po0 na0 ns0 ta0 ts0 mx0 ch0 mo0 ms0 fs0) sz) := by
  obtain ⟨z, hz⟩ := hd
  refine Met.ofW (cc := cX3_lengthBetweenEnds) (maxL := 2) (ret := (some .int)) (by decide) rfl ?_
  intro p e s m args below meth c s₁ B hml hv
  obtain ⟨rfl, hsz, hP, hK, hD0, hN⟩ := hv
  have hx := B.exec
  have hb := B.bytes
  have hr := B.returns
  have hts := atoms_spec (ws := wsX3_lengthBetweenEnds) B.pre
  have hown : s.vm.findClass RX3 = some m.cls := findClass_of_methodNamed B.named
  have hlocks := B.notSynchronized
  subst hsz
  have hD := hD0.self (sz := s.heap.size)
  generalize hAe : va_A (wX cI cJ q  nc0 lc0 le0 ge0 wt0 kp0 fo0 po0 na0 ns0 ta0 ts0 mx0 ch0 mo0 ms0 fs0) s.heap.size = A at hD ⊢
  have hA : ∀ q : Nat, s.heap.size ≤ q → A q := fun q h => by rw [← hAe]; exact Or.inr h
  have hinX3 : ∀ w ∈ u_ws RX3 TX3 12, w ∈ wsX3_lengthBetweenEnds := by decide +kernel
  have hf16 := hts (.fieldLink RX3 16 "FewLines" "lesserEnd" "[I") (by decide +kernel)
  have hf20 := hts (.fieldLink RX3 20 "FewLines" "greaterEnd" "[I") (by decide +kernel)
  have hf46 := hts (.fieldLink RX3 46 "FewLines" "thinLengths" "LFewLines$Lengths;") (by decide +kernel)
  have hq := hz
  dsimp only [pX3_lengthBetweenEnds] at hq
  have hl := lv_entry (([.ref (q 0), .int y1] : List Value)) (n := 2) (Nat.le_of_ble_eq_true rfl)
  rw [lg_entry_eq]
  generalize (lg_sl (([.ref (q 0), .int y1] : List Value)) ++ List.replicate (2 - (lg_sl (([.ref (q 0), .int y1] : List Value))).length) Slot.unset).toArray = ls at hl ⊢
  have hl : lv_has ls 2 [(0, .ref (q 0)), (1, .int y1)] := hl
  obtain ⟨H, hHe⟩ : ∃ H : Heap, H = s.heap := ⟨_, rfl⟩
  obtain ⟨locs, hLe⟩ : ∃ L : List Loc, L = [] := ⟨_, rfl⟩
  have hP : va_P (dC, dI) vwCl (wX cI cJ q  nc0 lc0 le0 ge0 wt0 kp0 fo0 po0 na0 ns0 ta0 ts0 mx0 ch0 mo0 ms0 fs0) H := by rw [hHe]; exact hP
  have hS : va_S A s.heap H locs := by rw [hHe, hLe]; exact va_S.rf
  show W p l e (headSpec wsX3_lengthBetweenEnds ({ frames := 1, cells := 0, slots := 0, locals := 22 })).room s m ([.ref (q 0), .int y1] : List Value).toArray below meth c s.heap [] 0 0 (MQ below (va_Qi (fun (r : Int32) (u : Unit) => pX3_lengthBetweenEnds le0 ge0 ta0 y1 = some r) (fun u t => fw_B (dC, dI) A (wX cI cJ q  nc0 lc0 le0 ge0 wt0 kp0 fo0 po0 na0 ns0 ta0 ts0 mx0 ch0 mo0 ms0 fs0) t) A) ([.ref (q 0), .int y1] : List Value).toArray s 0 0 A) (F0 m 0 ls [])
  rw [← hHe, ← hLe]
  refine lv_aload_n hx hb dX3_lengthBetweenEnds_0 rfl (lv_at hl 0 rfl) ?_
  refine va_get (D := (dC, dI)) (ci := 3) (v := .ref (q 10)) (C := RX3) (T := TX3) (N := 12) hx hb hts hinX3 hown hK hP 0 rfl rfl 9 (by decide) hf46 (fun _ h9 => h9) rfl dX3_lengthBetweenEnds_1 ?_
  refine lv_aload_n hx hb dX3_lengthBetweenEnds_4 rfl (lv_at hl 0 rfl) ?_
  refine va_get (D := (dC, dI)) (ci := 3) (v := .ref (q 1)) (C := RX3) (T := TX3) (N := 12) hx hb hts hinX3 hown hK hP 0 rfl rfl 2 (by decide) hf16 (fun _ h9 => h9) rfl dX3_lengthBetweenEnds_5 ?_
  refine lv_iload_n hx hb dX3_lengthBetweenEnds_8 rfl (lv_at hl 1 rfl) ?_
  obtain ⟨h_1, hq⟩ := fw_ck_s hq
  refine va_iald hx hb hK hP 1 0 rfl rfl h_1 dX3_lengthBetweenEnds_9 ?_
  refine lv_aload_n hx hb dX3_lengthBetweenEnds_10 rfl (lv_at hl 0 rfl) ?_
  refine va_get (D := (dC, dI)) (ci := 3) (v := .ref (q 2)) (C := RX3) (T := TX3) (N := 12) hx hb hts hinX3 hown hK hP 0 rfl rfl 3 (by decide) hf20 (fun _ h9 => h9) rfl dX3_lengthBetweenEnds_11 ?_
  refine lv_iload_n hx hb dX3_lengthBetweenEnds_14 rfl (lv_at hl 1 rfl) ?_
  obtain ⟨h_2, hq⟩ := fw_ck_s hq
  refine va_iald hx hb hK hP 2 0 rfl rfl h_2 dX3_lengthBetweenEnds_15 ?_
  have hPc := hP.sub (ws' := (wL cI cJ (q 10) (q 11)  ta0 ts0)) [10, 11] rfl
  have hDc := hD.sub (ws' := (wL cI cJ (q 10) (q 11)  ta0 ts0)) [10, 11] (by decide) rfl
  refine fw_ci (wr := [((q 0), .inr (3, [.int nc0, .int lc0, .ref (q 1), .ref (q 2), .ref (q 3), .ref (q 4), .ref (q 5), .ref (q 6), .ref (q 8), .ref (q 10), .ref (q 12), .ref (q 16)])), ((q 1), .inl (cI, 12, .inl le0)), ((q 2), .inl (cI, 12, .inl ge0)), ((q 3), .inl (cI, 12, .inl wt0)), ((q 4), .inl (cI, 12, .inl kp0)), ((q 5), .inl (cI, 12, .inl fo0)), ((q 6), .inr (2, [.ref (q 7)])), ((q 7), .inl (cI, 7, .inl po0)), ((q 8), .inr (0, [.ref (q 9), .int ns0])), ((q 9), .inl (cI, 49, .inl na0)), ((q 12), .inr (1, [.ref (q 13), .ref (q 14), .ref (q 15), .int ms0])), ((q 13), .inl (cJ, 49, .inr (.inl mx0))), ((q 14), .inl (cI, 7, .inl ch0)), ((q 15), .inl (cJ, 128, .inr (.inl mo0))), ((q 16), .inl (cI, 10, .inl fs0))]) (w2 := fun u => (wX cI cJ q  nc0 lc0 le0 ge0 wt0 kp0 fo0 po0 na0 ns0 ta0 ts0 mx0 ch0 mo0 ms0 fs0)) [10, 11] [0, 1, 2, 3, 4, 5, 6, 7, 8, 9, 12, 13, 14, 15, 16] [0, 1, 2, 3, 4, 5, 6, 7, 8, 9, 15, 16, 10, 11, 12, 13, 14] (va_runV (b := (q 10)) (As := [.int (le0 (y1).toNatClampNeg), .int (ge0 (y1).toNatClampNeg)]) (rest := []) ⟨hx, hb, hml, hown, hts⟩ (kX0_between l dC dI cI cJ (q 10) (q 11) H.size  ta0 ts0 (le0 (y1).toNatClampNeg) (ge0 (y1).toNatClampNeg) (fw_be hq)) (cwV 2 hts gX3_lengthBetweenEnds_X0_between rfl rfl rfl (by decide +kernel) ⟨Nat.le_of_ble_eq_true rfl, Nat.le_of_ble_eq_true rfl⟩) ⟨fw_blind, va_recv hK hPc (ci := 0) (q0 := 0) rfl rfl, fun U hU hW => fw_pre hPc hK hDc hN hU hW⟩ rfl rfl hl.1 rfl (lv_room (Nat.le_of_ble_eq_true rfl)) dX3_lengthBetweenEnds_16 ⟨Nat.zero_le _, Nat.zero_le _⟩) hP hD hS hA rfl rfl (by decide) (by decide) (by decide) (fun _ => rfl) (fun r_3 u H locs hw hP hD hS => ?_)
  have hq := fw_bs hw hq
  try dsimp only at hq
  exact W.iret (v := r_3) hx hb hr (fun t ht hW => ⟨⟨r_3, (), rfl, hz.trans hq.symm, by rw [ht]; exact hP, hD⟩, hS.F ht⟩) hS.2.2 dX3_lengthBetweenEnds_19
set_option maxHeartbeats 4000000 in
set_option maxRecDepth 100000 in
theorem kX3_forgetFewest (l : Launch) (dC : Nat → ClassId) (dI : Nat → Nat → Nat) (cI cJ : ClassId) (q : Nat → Nat) (sz : Nat)  (nc0 : Int32) (lc0 : Int32) (le0 : Nat → Int32) (ge0 : Nat → Int32) (wt0 : Nat → Int32) (kp0 : Nat → Int32) (fo0 : Nat → Int32) (po0 : Nat → Int32) (na0 : Nat → Int32) (ns0 : Int32) (ta0 : Nat → Int32) (ts0 : Int32) (mx0 : Nat → Int64) (ch0 : Nat → Int32) (mo0 : Nat → Int64) (ms0 : Int32) (fs0 : Nat → Int32)  (hd : ∃ z, pX3_forgetFewest fs0 = some z) : Met l yX3_forgetFewest wsX3_forgetFewest ({ frames := 1, cells := 0, slots := 0, locals := 23 }) (fw_Pc (dC, dI) (fw_tys cI cJ) (wX cI cJ q  nc0 lc0 le0 ge0 wt0 kp0 fo0 po0 na0 ns0 ta0 ts0 mx0 ch0 mo0 ms0 fs0) ([.ref (q 0)] : List Value) sz) (va_Qv (fun (u : (Nat → Int32)) => pX3_forgetFewest fs0 = some u) (fun u t => fw_B (dC, dI) (va_A (wX cI cJ q  nc0 lc0 le0 ge0 wt0 kp0 fo0 po0 na0 ns0 ta0 ts0 mx0 ch0 mo0 ms0 fs0) sz) (wX cI cJ q  nc0 lc0 le0 ge0 wt0 kp0 fo0 po0 na0 ns0 ta0 ts0 mx0 ch0 mo0 ms0 u) t) (va_A (wX cI cJ q  nc0 lc0 le0 ge0 wt0 kp0 fo0 po0 na0 ns0 ta0 ts0 mx0 ch0 mo0 ms0 fs0) sz)) 0 0 (va_A (wX cI cJ q  nc0 lc0 le0 ge0 wt0 kp0 fo0 po0 na0 ns0 ta0 ts0 mx0 ch0 mo0 ms0 fs0) sz) := by
  obtain ⟨z, hz⟩ := hd
  refine Met.ofW (cc := cX3_forgetFewest) (maxL := 1) (ret := none) (by decide) rfl ?_
  intro p e s m args below meth c s₁ B hml hv
  obtain ⟨rfl, hsz, hP, hK, hD0, hN⟩ := hv
  have hx := B.exec
  have hb := B.bytes
  have hr := B.returns
  have hts := atoms_spec (ws := wsX3_forgetFewest) B.pre
  have hown : s.vm.findClass RX3 = some m.cls := findClass_of_methodNamed B.named
  have hlocks := B.notSynchronized
  subst hsz
  have hD := hD0.self (sz := s.heap.size)
  generalize hAe : va_A (wX cI cJ q  nc0 lc0 le0 ge0 wt0 kp0 fo0 po0 na0 ns0 ta0 ts0 mx0 ch0 mo0 ms0 fs0) s.heap.size = A at hD ⊢
  have hA : ∀ q : Nat, s.heap.size ≤ q → A q := fun q h => by rw [← hAe]; exact Or.inr h
  have hinX3 : ∀ w ∈ u_ws RX3 TX3 12, w ∈ wsX3_forgetFewest := by decide +kernel
  have hf56 := hts (.fieldLink RX3 56 "FewLines" "fewestSets" "[I") (by decide +kernel)
  have hq := hz
  dsimp only [pX3_forgetFewest] at hq
  have hl := lv_entry (([.ref (q 0)] : List Value)) (n := 1) (Nat.le_of_ble_eq_true rfl)
  rw [lg_entry_eq]
  generalize (lg_sl (([.ref (q 0)] : List Value)) ++ List.replicate (1 - (lg_sl (([.ref (q 0)] : List Value))).length) Slot.unset).toArray = ls at hl ⊢
  have hl : lv_has ls 1 [(0, .ref (q 0))] := hl
  obtain ⟨H, hHe⟩ : ∃ H : Heap, H = s.heap := ⟨_, rfl⟩
  obtain ⟨locs, hLe⟩ : ∃ L : List Loc, L = [] := ⟨_, rfl⟩
  have hP : va_P (dC, dI) vwCl (wX cI cJ q  nc0 lc0 le0 ge0 wt0 kp0 fo0 po0 na0 ns0 ta0 ts0 mx0 ch0 mo0 ms0 fs0) H := by rw [hHe]; exact hP
  have hS : va_S A s.heap H locs := by rw [hHe, hLe]; exact va_S.rf
  show W p l e (headSpec wsX3_forgetFewest ({ frames := 1, cells := 0, slots := 0, locals := 23 })).room s m ([.ref (q 0)] : List Value).toArray below meth c s.heap [] 0 0 (MQ below (va_Qv (fun (u : (Nat → Int32)) => pX3_forgetFewest fs0 = some u) (fun u t => fw_B (dC, dI) A (wX cI cJ q  nc0 lc0 le0 ge0 wt0 kp0 fo0 po0 na0 ns0 ta0 ts0 mx0 ch0 mo0 ms0 u) t) A) ([.ref (q 0)] : List Value).toArray s 0 0 A) (F0 m 0 ls [])
  rw [← hHe, ← hLe]
  refine lv_aload_n hx hb dX3_forgetFewest_0 rfl (lv_at hl 0 rfl) ?_
  refine va_get (D := (dC, dI)) (ci := 3) (v := .ref (q 16)) (C := RX3) (T := TX3) (N := 12) hx hb hts hinX3 hown hK hP 0 rfl rfl 11 (by decide) hf56 (fun _ h9 => h9) rfl dX3_forgetFewest_1 ?_
  refine lv_iconst (v := (-1 : Int32)) hx hb dX3_forgetFewest_4 (by decide) ?_
  have hPc := hP.sub (ws' := (wA cI cJ (q 16) 10 fs0)) [16] rfl
  have hDc := hD.sub (ws' := (wA cI cJ (q 16) 10 fs0)) [16] (by decide) rfl
  refine fw_cv (wr := [((q 0), .inr (3, [.int nc0, .int lc0, .ref (q 1), .ref (q 2), .ref (q 3), .ref (q 4), .ref (q 5), .ref (q 6), .ref (q 8), .ref (q 10), .ref (q 12), .ref (q 16)])), ((q 1), .inl (cI, 12, .inl le0)), ((q 2), .inl (cI, 12, .inl ge0)), ((q 3), .inl (cI, 12, .inl wt0)), ((q 4), .inl (cI, 12, .inl kp0)), ((q 5), .inl (cI, 12, .inl fo0)), ((q 6), .inr (2, [.ref (q 7)])), ((q 7), .inl (cI, 7, .inl po0)), ((q 8), .inr (0, [.ref (q 9), .int ns0])), ((q 9), .inl (cI, 49, .inl na0)), ((q 10), .inr (0, [.ref (q 11), .int ts0])), ((q 11), .inl (cI, 49, .inl ta0)), ((q 12), .inr (1, [.ref (q 13), .ref (q 14), .ref (q 15), .int ms0])), ((q 13), .inl (cJ, 49, .inr (.inl mx0))), ((q 14), .inl (cI, 7, .inl ch0)), ((q 15), .inl (cJ, 128, .inr (.inl mo0)))]) (w2 := fun u => (wX cI cJ q  nc0 lc0 le0 ge0 wt0 kp0 fo0 po0 na0 ns0 ta0 ts0 mx0 ch0 mo0 ms0 u)) [16] [0, 1, 2, 3, 4, 5, 6, 7, 8, 9, 10, 11, 12, 13, 14, 15] [0, 1, 2, 3, 4, 5, 6, 7, 8, 9, 10, 11, 12, 13, 14, 15, 16] (va_runS (As := [.ref (q 16), .int (-1 : Int32)]) (rest := []) ⟨hx, hb, hml, hown, hts⟩ (kJ7_fill_53178 l dC dI cI cJ (q 16) H.size 10 fs0 (-1 : Int32) (fw_be hq)) (va_cwS 2 hts gX3_forgetFewest_J7_fill_53178 rfl rfl rfl (by decide +kernel) ⟨Nat.le_of_ble_eq_true rfl, Nat.le_of_ble_eq_true rfl⟩) ⟨fw_blind, fun U hU hW => fw_pre hPc hK hDc hN hU hW⟩ rfl rfl hl.1 rfl (lv_room (Nat.le_of_ble_eq_true rfl)) dX3_forgetFewest_5 ⟨Nat.zero_le _, Nat.zero_le _⟩) hP hD hS hA rfl rfl (by decide) (by decide) (by decide) (fun _ => rfl) (fun u H locs hw hP hD hS => ?_)
  obtain ⟨f_1, rfl⟩ : ∃ z, z = u := ⟨_, rfl⟩
  have hq := fw_bs hw hq
  try dsimp only at hq
  have hP : va_P (dC, dI) vwCl (wX cI cJ q  nc0 lc0 le0 ge0 wt0 kp0 fo0 po0 na0 ns0 ta0 ts0 mx0 ch0 mo0 ms0 f_1) H := hP
  have hD : va_D A (wX cI cJ q  nc0 lc0 le0 ge0 wt0 kp0 fo0 po0 na0 ns0 ta0 ts0 mx0 ch0 mo0 ms0 f_1) := hD
  exact W.vret hx hb hr (fun t ht hW => ⟨⟨f_1, rfl, hz.trans hq.symm, by rw [ht]; exact hP, hD⟩, hS.F ht⟩) hS.2.2 dX3_forgetFewest_8
set_option maxHeartbeats 4000000 in
set_option maxRecDepth 100000 in
theorem kX3_leastToJoin (l : Launch) (dC : Nat → ClassId) (dI : Nat → Nat → Nat) (cI cJ : ClassId) (q : Nat → Nat) (sz : Nat)  (nc0 : Int32) (lc0 : Int32) (le0 : Nat → Int32) (ge0 : Nat → Int32) (wt0 : Nat → Int32) (kp0 : Nat → Int32) (fo0 : Nat → Int32) (po0 : Nat → Int32) (na0 : Nat → Int32) (ns0 : Int32) (ta0 : Nat → Int32) (ts0 : Int32) (mx0 : Nat → Int64) (ch0 : Nat → Int32) (mo0 : Nat → Int64) (ms0 : Int32) (fs0 : Nat → Int32)  (hd : ∃ z, pX3_leastToJoin lc0 le0 ge0 fo0 po0 = some z) : Met l yX3_leastToJoin wsX3_leastToJoin ({ frames := 2, cells := 0, slots := 0, locals := 48 }) (fw_Pc (dC, dI) (fw_tys cI cJ) (wX cI cJ q  nc0 lc0 le0 ge0 wt0 kp0 fo0 po0 na0 ns0 ta0 ts0 mx0 ch0 mo0 ms0 fs0) ([.ref (q 0)] : List Value) sz) (va_Qi (fun (r : Int32) (u : (Nat → Int32) × (Nat → Int32)) => pX3_leastToJoin lc0 le0 ge0 fo0 po0 = some (r, u)) (fun u t => fw_B (dC, dI) (va_A (wX cI cJ q  nc0 lc0 le0 ge0 wt0 kp0 fo0 po0 na0 ns0 ta0 ts0 mx0 ch0 mo0 ms0 fs0) sz) (wX cI cJ q  nc0 lc0 le0 ge0 wt0 kp0 u.1 u.2 na0 ns0 ta0 ts0 mx0 ch0 mo0 ms0 fs0) t) (va_A (wX cI cJ q  nc0 lc0 le0 ge0 wt0 kp0 fo0 po0 na0 ns0 ta0 ts0 mx0 ch0 mo0 ms0 fs0) sz)) 0 0 (va_A (wX cI cJ q  nc0 lc0 le0 ge0 wt0 kp0 fo0 po0 na0 ns0 ta0 ts0 mx0 ch0 mo0 ms0 fs0) sz) := by
  obtain ⟨z, hz⟩ := hd
  refine Met.ofW (cc := cX3_leastToJoin) (maxL := 1) (ret := (some .int)) (by decide) rfl ?_
  intro p e s m args below meth c s₁ B hml hv
  obtain ⟨rfl, hsz, hP, hK, hD0, hN⟩ := hv
  have hx := B.exec
  have hb := B.bytes
  have hr := B.returns
  have hts := atoms_spec (ws := wsX3_leastToJoin) B.pre
  have hown : s.vm.findClass RX3 = some m.cls := findClass_of_methodNamed B.named
  have hlocks := B.notSynchronized
  subst hsz
  have hD := hD0.self (sz := s.heap.size)
  generalize hAe : va_A (wX cI cJ q  nc0 lc0 le0 ge0 wt0 kp0 fo0 po0 na0 ns0 ta0 ts0 mx0 ch0 mo0 ms0 fs0) s.heap.size = A at hD ⊢
  have hA : ∀ q : Nat, s.heap.size ≤ q → A q := fun q h => by rw [← hAe]; exact Or.inr h
  have hinX3 : ∀ w ∈ u_ws RX3 TX3 12, w ∈ wsX3_leastToJoin := by decide +kernel
  have hf29 := hts (.fieldLink RX3 29 "FewLines" "forestOf" "[I") (by decide +kernel)
  have hq := hz
  dsimp only [pX3_leastToJoin] at hq
  have hl := lv_entry (([.ref (q 0)] : List Value)) (n := 1) (Nat.le_of_ble_eq_true rfl)
  rw [lg_entry_eq]
  generalize (lg_sl (([.ref (q 0)] : List Value)) ++ List.replicate (1 - (lg_sl (([.ref (q 0)] : List Value))).length) Slot.unset).toArray = ls at hl ⊢
  have hl : lv_has ls 1 [(0, .ref (q 0))] := hl
  obtain ⟨H, hHe⟩ : ∃ H : Heap, H = s.heap := ⟨_, rfl⟩
  obtain ⟨locs, hLe⟩ : ∃ L : List Loc, L = [] := ⟨_, rfl⟩
  have hP : va_P (dC, dI) vwCl (wX cI cJ q  nc0 lc0 le0 ge0 wt0 kp0 fo0 po0 na0 ns0 ta0 ts0 mx0 ch0 mo0 ms0 fs0) H := by rw [hHe]; exact hP
  have hS : va_S A s.heap H locs := by rw [hHe, hLe]; exact va_S.rf
  show W p l e (headSpec wsX3_leastToJoin ({ frames := 2, cells := 0, slots := 0, locals := 48 })).room s m ([.ref (q 0)] : List Value).toArray below meth c s.heap [] 0 0 (MQ below (va_Qi (fun (r : Int32) (u : (Nat → Int32) × (Nat → Int32)) => pX3_leastToJoin lc0 le0 ge0 fo0 po0 = some (r, u)) (fun u t => fw_B (dC, dI) A (wX cI cJ q  nc0 lc0 le0 ge0 wt0 kp0 u.1 u.2 na0 ns0 ta0 ts0 mx0 ch0 mo0 ms0 fs0) t) A) ([.ref (q 0)] : List Value).toArray s 0 0 A) (F0 m 0 ls [])
  rw [← hHe, ← hLe]
  refine lv_aload_n hx hb dX3_leastToJoin_0 rfl (lv_at hl 0 rfl) ?_
  refine va_get (D := (dC, dI)) (ci := 3) (v := .ref (q 5)) (C := RX3) (T := TX3) (N := 12) hx hb hts hinX3 hown hK hP 0 rfl rfl 6 (by decide) hf29 (fun _ h9 => h9) rfl dX3_leastToJoin_1 ?_
  refine lv_iconst (v := (0 : Int32)) hx hb dX3_leastToJoin_4 (by decide) ?_
  have hPc := hP.sub (ws' := (wA cI cJ (q 5) 12 fo0)) [5] rfl
  have hDc := hD.sub (ws' := (wA cI cJ (q 5) 12 fo0)) [5] (by decide) rfl
  refine fw_cv (wr := [((q 0), .inr (3, [.int nc0, .int lc0, .ref (q 1), .ref (q 2), .ref (q 3), .ref (q 4), .ref (q 5), .ref (q 6), .ref (q 8), .ref (q 10), .ref (q 12), .ref (q 16)])), ((q 1), .inl (cI, 12, .inl le0)), ((q 2), .inl (cI, 12, .inl ge0)), ((q 3), .inl (cI, 12, .inl wt0)), ((q 4), .inl (cI, 12, .inl kp0)), ((q 6), .inr (2, [.ref (q 7)])), ((q 7), .inl (cI, 7, .inl po0)), ((q 8), .inr (0, [.ref (q 9), .int ns0])), ((q 9), .inl (cI, 49, .inl na0)), ((q 10), .inr (0, [.ref (q 11), .int ts0])), ((q 11), .inl (cI, 49, .inl ta0)), ((q 12), .inr (1, [.ref (q 13), .ref (q 14), .ref (q 15), .int ms0])), ((q 13), .inl (cJ, 49, .inr (.inl mx0))), ((q 14), .inl (cI, 7, .inl ch0)), ((q 15), .inl (cJ, 128, .inr (.inl mo0))), ((q 16), .inl (cI, 10, .inl fs0))]) (w2 := fun u => (wX cI cJ q  nc0 lc0 le0 ge0 wt0 kp0 u po0 na0 ns0 ta0 ts0 mx0 ch0 mo0 ms0 fs0)) [5] [0, 1, 2, 3, 4, 6, 7, 8, 9, 10, 11, 12, 13, 14, 15, 16] [0, 1, 2, 3, 4, 16, 5, 6, 7, 8, 9, 10, 11, 12, 13, 14, 15] (va_runS (As := [.ref (q 5), .int (0 : Int32)]) (rest := []) ⟨hx, hb, hml, hown, hts⟩ (kJ7_fill_53178 l dC dI cI cJ (q 5) H.size 12 fo0 (0 : Int32) (fw_be hq)) (va_cwS 2 hts gX3_leastToJoin_J7_fill_53178 rfl rfl rfl (by decide +kernel) ⟨Nat.le_of_ble_eq_true rfl, Nat.le_of_ble_eq_true rfl⟩) ⟨fw_blind, fun U hU hW => fw_pre hPc hK hDc hN hU hW⟩ rfl rfl hl.1 rfl (lv_room (Nat.le_of_ble_eq_true rfl)) dX3_leastToJoin_5 ⟨Nat.zero_le _, Nat.zero_le _⟩) hP hD hS hA rfl rfl (by decide) (by decide) (by decide) (fun _ => rfl) (fun u H locs hw hP hD hS => ?_)
  obtain ⟨f_1, rfl⟩ : ∃ z, z = u := ⟨_, rfl⟩
  have hq := fw_bs hw hq
  try dsimp only at hq
  have hP : va_P (dC, dI) vwCl (wX cI cJ q  nc0 lc0 le0 ge0 wt0 kp0 f_1 po0 na0 ns0 ta0 ts0 mx0 ch0 mo0 ms0 fs0) H := hP
  have hD : va_D A (wX cI cJ q  nc0 lc0 le0 ge0 wt0 kp0 f_1 po0 na0 ns0 ta0 ts0 mx0 ch0 mo0 ms0 fs0) := hD
  refine lv_aload_n hx hb dX3_leastToJoin_8 rfl (lv_at hl 0 rfl) ?_
  refine lv_iconst (v := (1 : Int32)) hx hb dX3_leastToJoin_9 (by decide) ?_
  have hPc := hP.sub (ws' := (wX cI cJ q  nc0 lc0 le0 ge0 wt0 kp0 f_1 po0 na0 ns0 ta0 ts0 mx0 ch0 mo0 ms0 fs0)) [0, 1, 2, 3, 4, 5, 6, 7, 8, 9, 10, 11, 12, 13, 14, 15, 16] rfl
  have hDc := hD.sub (ws' := (wX cI cJ q  nc0 lc0 le0 ge0 wt0 kp0 f_1 po0 na0 ns0 ta0 ts0 mx0 ch0 mo0 ms0 fs0)) [0, 1, 2, 3, 4, 5, 6, 7, 8, 9, 10, 11, 12, 13, 14, 15, 16] (by decide) rfl
  refine fw_ci (wr := []) (w2 := fun u => (wX cI cJ q  nc0 lc0 le0 ge0 wt0 kp0 u.1 u.2 na0 ns0 ta0 ts0 mx0 ch0 mo0 ms0 fs0)) [0, 1, 2, 3, 4, 5, 6, 7, 8, 9, 10, 11, 12, 13, 14, 15, 16] [] [0, 1, 2, 3, 4, 5, 6, 7, 8, 9, 10, 11, 12, 13, 14, 15, 16] (va_runV (b := (q 0)) (As := [.int (1 : Int32)]) (rest := []) ⟨hx, hb, hml, hown, hts⟩ (kX3_peelOne l dC dI cI cJ q H.size  nc0 lc0 le0 ge0 wt0 kp0 f_1 po0 na0 ns0 ta0 ts0 mx0 ch0 mo0 ms0 fs0 (1 : Int32) (fw_be hq)) (cwV 1 hts gX3_leastToJoin_X3_peelOne rfl rfl rfl (by decide +kernel) ⟨Nat.le_of_ble_eq_true rfl, Nat.le_of_ble_eq_true rfl⟩) ⟨fw_blind, va_recv hK hPc (ci := 3) (q0 := 0) rfl rfl, fun U hU hW => fw_pre hPc hK hDc hN hU hW⟩ rfl rfl hl.1 rfl (lv_room (Nat.le_of_ble_eq_true rfl)) dX3_leastToJoin_10 ⟨Nat.zero_le _, Nat.zero_le _⟩) hP hD hS hA rfl rfl (by decide) (by decide) (by decide) (fun _ => rfl) (fun r_6 u H locs hw hP hD hS => ?_)
  obtain ⟨fo_4, po_5⟩ := u
  have hq := fw_bs hw hq
  try dsimp only at hq
  have hP : va_P (dC, dI) vwCl (wX cI cJ q  nc0 lc0 le0 ge0 wt0 kp0 fo_4 po_5 na0 ns0 ta0 ts0 mx0 ch0 mo0 ms0 fs0) H := hP
  have hD : va_D A (wX cI cJ q  nc0 lc0 le0 ge0 wt0 kp0 fo_4 po_5 na0 ns0 ta0 ts0 mx0 ch0 mo0 ms0 fs0) := hD
  exact W.iret (v := r_6) hx hb hr (fun t ht hW => ⟨⟨r_6, (fo_4, po_5), rfl, hz.trans hq.symm, by rw [ht]; exact hP, hD⟩, hS.F ht⟩) hS.2.2 dX3_leastToJoin_13
set_option maxHeartbeats 4000000 in
set_option maxRecDepth 100000 in
theorem kX3_isWithinStretch (l : Launch) (dC : Nat → ClassId) (dI : Nat → Nat → Nat) (cI cJ : ClassId) (q : Nat → Nat) (sz : Nat)  (nc0 : Int32) (lc0 : Int32) (le0 : Nat → Int32) (ge0 : Nat → Int32) (wt0 : Nat → Int32) (kp0 : Nat → Int32) (fo0 : Nat → Int32) (po0 : Nat → Int32) (na0 : Nat → Int32) (ns0 : Int32) (ta0 : Nat → Int32) (ts0 : Int32) (mx0 : Nat → Int64) (ch0 : Nat → Int32) (mo0 : Nat → Int64) (ms0 : Int32) (fs0 : Nat → Int32) (y1 : Int32) (y2 : Int32) (hd : ∃ z, pX3_isWithinStretch nc0 lc0 le0 ge0 wt0 na0 ta0 y1 y2 = some z) : Met l yX3_isWithinStretch wsX3_isWithinStretch ({ frames := 3, cells := 0, slots := 0, locals := 75 }) (fw_Pc (dC, dI) (fw_tys cI cJ) (wX cI cJ q  nc0 lc0 le0 ge0 wt0 kp0 fo0 po0 na0 ns0 ta0 ts0 mx0 ch0 mo0 ms0 fs0) ([.ref (q 0), .int y1, .int y2] : List Value) sz) (va_Qi (fun (r : Int32) (u : (Nat → Int32) × Int32) => pX3_isWithinStretch nc0 lc0 le0 ge0 wt0 na0 ta0 y1 y2 = some (r, u) ∧ narrow .boolean (.int r) = .int r) (fun u t => fw_B (dC, dI) (va_A (wX cI cJ q  nc0 lc0 le0 ge0 wt0 kp0 fo0 po0 na0 ns0 ta0 ts0 mx0 ch0 mo0 ms0 fs0) sz) (wX cI cJ q  nc0 lc0 le0 ge0 wt0 kp0 fo0 po0 na0 ns0 u.1 u.2 mx0 ch0 mo0 ms0 fs0) t) (va_A (wX cI cJ q  nc0 lc0 le0 ge0 wt0 kp0 fo0 po0 na0 ns0 ta0 ts0 mx0 ch0 mo0 ms0 fs0) sz)) 0 0 (va_A (wX cI cJ q  nc0 lc0 le0 ge0 wt0 kp0 fo0 po0 na0 ns0 ta0 ts0 mx0 ch0 mo0 ms0 fs0) sz) := by
  obtain ⟨z, hz⟩ := hd
  refine Met.ofW (cc := cX3_isWithinStretch) (maxL := 6) (ret := (some .boolean)) (by decide) rfl ?_
  intro p e s m args below meth c s₁ B hml hv
  obtain ⟨rfl, hsz, hP, hK, hD0, hN⟩ := hv
  have hx := B.exec
  have hb := B.bytes
  have hr := B.returns
  have hts := atoms_spec (ws := wsX3_isWithinStretch) B.pre
  have hown : s.vm.findClass RX3 = some m.cls := findClass_of_methodNamed B.named
  have hlocks := B.notSynchronized
  subst hsz
  have hD := hD0.self (sz := s.heap.size)
  generalize hAe : va_A (wX cI cJ q  nc0 lc0 le0 ge0 wt0 kp0 fo0 po0 na0 ns0 ta0 ts0 mx0 ch0 mo0 ms0 fs0) s.heap.size = A at hD ⊢
  have hA : ∀ q : Nat, s.heap.size ≤ q → A q := fun q h => by rw [← hAe]; exact Or.inr h
  have hinX3 : ∀ w ∈ u_ws RX3 TX3 12, w ∈ wsX3_isWithinStretch := by decide +kernel
  have hf9 := hts (.fieldLink RX3 9 "FewLines" "nodeCount" "I") (by decide +kernel)
  have hf42 := hts (.fieldLink RX3 42 "FewLines" "netLengths" "LFewLines$Lengths;") (by decide +kernel)
  have hf46 := hts (.fieldLink RX3 46 "FewLines" "thinLengths" "LFewLines$Lengths;") (by decide +kernel)
  have L24 : ∀ (x2 : Int32) (x3 : Int32) (ta : Nat → Int32) (ts : Int32) (e9 : (Int32) ⊕ (Int32 × (Nat → Int32) × Int32)), (∀ (x4' : Int32) (H : Heap) (locs : List Loc) (ls : Array Slot), e9 = .inl x4' → va_P (dC, dI) vwCl (wX cI cJ q  nc0 lc0 le0 ge0 wt0 kp0 fo0 po0 na0 ns0 ta ts mx0 ch0 mo0 ms0 fs0) H → va_D A (wX cI cJ q  nc0 lc0 le0 ge0 wt0 kp0 fo0 po0 na0 ns0 ta ts mx0 ch0 mo0 ms0 fs0) → va_S A s.heap H locs → lv_has ls 6 [(0, .ref (q 0)), (2, .int x2), (3, .int x3), (4, .int x4')] → W p l e (headSpec wsX3_isWithinStretch ({ frames := 3, cells := 0, slots := 0, locals := 75 })).room s m ([.ref (q 0), .int y1, .int y2] : List Value).toArray below meth c H locs 0 0 (MQ below (va_Qi (fun (r : Int32) (u : (Nat → Int32) × Int32) => pX3_isWithinStretch nc0 lc0 le0 ge0 wt0 na0 ta0 y1 y2 = some (r, u) ∧ narrow .boolean (.int r) = .int r) (fun u t => fw_B (dC, dI) A (wX cI cJ q  nc0 lc0 le0 ge0 wt0 kp0 fo0 po0 na0 ns0 u.1 u.2 mx0 ch0 mo0 ms0 fs0) t) A) ([.ref (q 0), .int y1, .int y2] : List Value).toArray s 0 0 A) (F0 m 77 ls [])) → (∀ r9, e9 = .inr r9 → some r9 = some z) → ∀ (n9 : Nat) (x4 : Int32) (H : Heap) (locs : List Loc) (ls : Array Slot), fw_wh (pX3_isWithinStretch_24 x2 x3 nc0 na0 ta ts) n9 x4 = some e9 → va_P (dC, dI) vwCl (wX cI cJ q  nc0 lc0 le0 ge0 wt0 kp0 fo0 po0 na0 ns0 ta ts mx0 ch0 mo0 ms0 fs0) H → va_D A (wX cI cJ q  nc0 lc0 le0 ge0 wt0 kp0 fo0 po0 na0 ns0 ta ts mx0 ch0 mo0 ms0 fs0) → va_S A s.heap H locs → lv_has ls 6 [(0, .ref (q 0)), (2, .int x2), (3, .int x3), (4, .int x4)] → W p l e (headSpec wsX3_isWithinStretch ({ frames := 3, cells := 0, slots := 0, locals := 75 })).room s m ([.ref (q 0), .int y1, .int y2] : List Value).toArray below meth c H locs 0 0 (MQ below (va_Qi (fun (r : Int32) (u : (Nat → Int32) × Int32) => pX3_isWithinStretch nc0 lc0 le0 ge0 wt0 na0 ta0 y1 y2 = some (r, u) ∧ narrow .boolean (.int r) = .int r) (fun u t => fw_B (dC, dI) A (wX cI cJ q  nc0 lc0 le0 ge0 wt0 kp0 fo0 po0 na0 ns0 u.1 u.2 mx0 ch0 mo0 ms0 fs0) t) A) ([.ref (q 0), .int y1, .int y2] : List Value).toArray s 0 0 A) (F0 m 24 ls []) := by
    intro x2 x3 ta ts e9 hkk hr0 n9
    induction n9 with
    | zero => exact fun _ H locs ls hq => (fw_wh0 hq).elim
    | succ n9 ih =>
      intro x4 H locs ls hq hP hD hS hl
      obtain ⟨w9, hq, hwI, hwE⟩ := fw_wh1 hq
      dsimp only [pX3_isWithinStretch_24] at hq
      refine lv_iload hx hb dX3_isWithinStretch_24 (lv_at hl 3 rfl) ?_
      refine lv_aload_n hx hb dX3_isWithinStretch_26 rfl (lv_at hl 0 rfl) ?_
      refine va_get (D := (dC, dI)) (ci := 3) (v := .int nc0) (C := RX3) (T := TX3) (N := 12) hx hb hts hinX3 hown hK hP 0 rfl rfl 0 (by decide) hf9 (fun _ h9 => h9) rfl dX3_isWithinStretch_27 ?_
      refine lv_icmp_ge (tgt := 77) hx hb dX3_isWithinStretch_30 (by decide) (fun c_6 => ?_) (fun c_6 => ?_)
      · have hq := fw_it c_6 hq
        exact hkk x4 H locs ls (hwE _ (Option.some.inj hq).symm) hP hD hS (lv_sub hl [0, 1, 2, 3] rfl)
      · have hq := fw_if c_6 hq
        refine lv_aload_n hx hb dX3_isWithinStretch_33 rfl (lv_at hl 0 rfl) ?_
        refine va_get (D := (dC, dI)) (ci := 3) (v := .ref (q 8)) (C := RX3) (T := TX3) (N := 12) hx hb hts hinX3 hown hK hP 0 rfl rfl 8 (by decide) hf42 (fun _ h9 => h9) rfl dX3_isWithinStretch_34 ?_
        refine lv_iload_n hx hb dX3_isWithinStretch_37 rfl (lv_at hl 2 rfl) ?_
        refine lv_iload hx hb dX3_isWithinStretch_38 (lv_at hl 3 rfl) ?_
        have hPc := hP.sub (ws' := (wL cI cJ (q 8) (q 9)  na0 ns0)) [8, 9] rfl
        have hDc := hD.sub (ws' := (wL cI cJ (q 8) (q 9)  na0 ns0)) [8, 9] (by decide) rfl
        refine fw_ci (wr := [((q 0), .inr (3, [.int nc0, .int lc0, .ref (q 1), .ref (q 2), .ref (q 3), .ref (q 4), .ref (q 5), .ref (q 6), .ref (q 8), .ref (q 10), .ref (q 12), .ref (q 16)])), ((q 1), .inl (cI, 12, .inl le0)), ((q 2), .inl (cI, 12, .inl ge0)), ((q 3), .inl (cI, 12, .inl wt0)), ((q 4), .inl (cI, 12, .inl kp0)), ((q 5), .inl (cI, 12, .inl fo0)), ((q 6), .inr (2, [.ref (q 7)])), ((q 7), .inl (cI, 7, .inl po0)), ((q 10), .inr (0, [.ref (q 11), .int ts])), ((q 11), .inl (cI, 49, .inl ta)), ((q 12), .inr (1, [.ref (q 13), .ref (q 14), .ref (q 15), .int ms0])), ((q 13), .inl (cJ, 49, .inr (.inl mx0))), ((q 14), .inl (cI, 7, .inl ch0)), ((q 15), .inl (cJ, 128, .inr (.inl mo0))), ((q 16), .inl (cI, 10, .inl fs0))]) (w2 := fun u => (wX cI cJ q  nc0 lc0 le0 ge0 wt0 kp0 fo0 po0 na0 ns0 ta ts mx0 ch0 mo0 ms0 fs0)) [8, 9] [0, 1, 2, 3, 4, 5, 6, 7, 10, 11, 12, 13, 14, 15, 16] [0, 1, 2, 3, 4, 5, 6, 7, 15, 16, 8, 9, 10, 11, 12, 13, 14] (va_runV (b := (q 8)) (As := [.int x3, .int x4]) (rest := []) ⟨hx, hb, hml, hown, hts⟩ (kX0_between l dC dI cI cJ (q 8) (q 9) H.size  na0 ns0 x3 x4 (fw_be hq)) (cwV 2 hts gX3_isWithinStretch_X0_between rfl rfl rfl (by decide +kernel) ⟨Nat.le_of_ble_eq_true rfl, Nat.le_of_ble_eq_true rfl⟩) ⟨fw_blind, va_recv hK hPc (ci := 0) (q0 := 0) rfl rfl, fun U hU hW => fw_pre hPc hK hDc hN hU hW⟩ rfl rfl hl.1 rfl (lv_room (Nat.le_of_ble_eq_true rfl)) dX3_isWithinStretch_40 ⟨Nat.zero_le _, Nat.zero_le _⟩) hP hD hS hA rfl rfl (by decide) (by decide) (by decide) (fun _ => rfl) (fun r_7 u H locs hw hP hD hS => ?_)
        have hq := fw_bs hw hq
        try dsimp only at hq
        refine lv_istore (lv' := [(5, .int r_7), (0, .ref (q 0)), (2, .int x2), (3, .int x3), (4, .int x4)]) hx hb dX3_isWithinStretch_43 hl (by decide) rfl (fun ls hl => ?_)
        refine lv_iload hx hb dX3_isWithinStretch_45 (lv_at hl 0 rfl) ?_
        refine lv_ldc hx hb hown (hts (.constant RX3 128 (1000000)) (by decide +kernel)) dX3_isWithinStretch_47 ?_
        refine lv_icmp_ge (tgt := 71) hx hb dX3_isWithinStretch_49 (by decide) (fun c_9 => ?_) (fun c_9 => ?_)
        · have hq := fw_it c_9 hq
          refine lv_iinc (v := (x4 + (1 : Int32))) (lv' := [(4, .int (x4 + (1 : Int32))), (5, .int r_7), (0, .ref (q 0)), (2, .int x2), (3, .int x3)]) hx hb dX3_isWithinStretch_71 hl (k := 4) rfl rfl (by decide) rfl (fun ls hl => ?_)
          refine lv_goto (tgt := 24) hx hb dX3_isWithinStretch_74 (by decide) ?_
          exact ih (x4 + (1 : Int32)) H locs ls (hwI _ (Option.some.inj hq).symm) hP hD hS (lv_sub hl [2, 3, 4, 0] rfl)
        · have hq := fw_if c_9 hq
          refine lv_aload_n hx hb dX3_isWithinStretch_52 rfl (lv_at hl 1 rfl) ?_
          refine va_get (D := (dC, dI)) (ci := 3) (v := .ref (q 10)) (C := RX3) (T := TX3) (N := 12) hx hb hts hinX3 hown hK hP 0 rfl rfl 9 (by decide) hf46 (fun _ h9 => h9) rfl dX3_isWithinStretch_53 ?_
          refine lv_iload_n hx hb dX3_isWithinStretch_56 rfl (lv_at hl 3 rfl) ?_
          refine lv_iload hx hb dX3_isWithinStretch_57 (lv_at hl 4 rfl) ?_
          have hPc := hP.sub (ws' := (wL cI cJ (q 10) (q 11)  ta ts)) [10, 11] rfl
          have hDc := hD.sub (ws' := (wL cI cJ (q 10) (q 11)  ta ts)) [10, 11] (by decide) rfl
          refine fw_ci (wr := [((q 0), .inr (3, [.int nc0, .int lc0, .ref (q 1), .ref (q 2), .ref (q 3), .ref (q 4), .ref (q 5), .ref (q 6), .ref (q 8), .ref (q 10), .ref (q 12), .ref (q 16)])), ((q 1), .inl (cI, 12, .inl le0)), ((q 2), .inl (cI, 12, .inl ge0)), ((q 3), .inl (cI, 12, .inl wt0)), ((q 4), .inl (cI, 12, .inl kp0)), ((q 5), .inl (cI, 12, .inl fo0)), ((q 6), .inr (2, [.ref (q 7)])), ((q 7), .inl (cI, 7, .inl po0)), ((q 8), .inr (0, [.ref (q 9), .int ns0])), ((q 9), .inl (cI, 49, .inl na0)), ((q 12), .inr (1, [.ref (q 13), .ref (q 14), .ref (q 15), .int ms0])), ((q 13), .inl (cJ, 49, .inr (.inl mx0))), ((q 14), .inl (cI, 7, .inl ch0)), ((q 15), .inl (cJ, 128, .inr (.inl mo0))), ((q 16), .inl (cI, 10, .inl fs0))]) (w2 := fun u => (wX cI cJ q  nc0 lc0 le0 ge0 wt0 kp0 fo0 po0 na0 ns0 ta ts mx0 ch0 mo0 ms0 fs0)) [10, 11] [0, 1, 2, 3, 4, 5, 6, 7, 8, 9, 12, 13, 14, 15, 16] [0, 1, 2, 3, 4, 5, 6, 7, 8, 9, 15, 16, 10, 11, 12, 13, 14] (va_runV (b := (q 10)) (As := [.int x3, .int x4]) (rest := []) ⟨hx, hb, hml, hown, hts⟩ (kX0_between l dC dI cI cJ (q 10) (q 11) H.size  ta ts x3 x4 (fw_be hq)) (cwV 2 hts gX3_isWithinStretch_X0_between rfl rfl rfl (by decide +kernel) ⟨Nat.le_of_ble_eq_true rfl, Nat.le_of_ble_eq_true rfl⟩) ⟨fw_blind, va_recv hK hPc (ci := 0) (q0 := 0) rfl rfl, fun U hU hW => fw_pre hPc hK hDc hN hU hW⟩ rfl rfl hl.1 rfl (lv_room (Nat.le_of_ble_eq_true rfl)) dX3_isWithinStretch_59 ⟨Nat.zero_le _, Nat.zero_le _⟩) hP hD hS hA rfl rfl (by decide) (by decide) (by decide) (fun _ => rfl) (fun r_10 u H locs hw hP hD hS => ?_)
          have hq := fw_bs hw hq
          try dsimp only at hq
          refine lv_iload_n hx hb dX3_isWithinStretch_62 rfl (lv_at hl 2 rfl) ?_
          refine lv_iload hx hb dX3_isWithinStretch_63 (lv_at hl 0 rfl) ?_
          refine lv_imul hx hb dX3_isWithinStretch_65 ?_
          refine lv_icmp_le (tgt := 71) hx hb dX3_isWithinStretch_66 (by decide) (fun c_12 => ?_) (fun c_12 => ?_)
          · have hq := fw_it c_12 hq
            refine lv_iinc (v := (x4 + (1 : Int32))) (lv' := [(4, .int (x4 + (1 : Int32))), (5, .int r_7), (0, .ref (q 0)), (2, .int x2), (3, .int x3)]) hx hb dX3_isWithinStretch_71 hl (k := 4) rfl rfl (by decide) rfl (fun ls hl => ?_)
            refine lv_goto (tgt := 24) hx hb dX3_isWithinStretch_74 (by decide) ?_
            exact ih (x4 + (1 : Int32)) H locs ls (hwI _ (Option.some.inj hq).symm) hP hD hS (lv_sub hl [2, 3, 4, 0] rfl)
          · have hq := fw_if c_12 hq
            refine lv_iconst (v := (0 : Int32)) hx hb dX3_isWithinStretch_69 (by decide) ?_
            exact W.zret (v := (0 : Int32)) (ty := .boolean) hx hb hr rfl (fun t ht hW => ⟨⟨(0 : Int32), (ta, ts), rfl, ⟨hz.trans (hr0 _ (hwE _ (Option.some.inj hq).symm)).symm, rfl⟩, by rw [ht]; exact hP, hD⟩, hS.F ht⟩) hS.2.2 dX3_isWithinStretch_70
  have L11 : ∀ (x2 : Int32) (ta : Nat → Int32) (ts : Int32) (e9 : (Int32) ⊕ (Int32 × (Nat → Int32) × Int32)), (∀ (x3' : Int32) (H : Heap) (locs : List Loc) (ls : Array Slot), e9 = .inl x3' → va_P (dC, dI) vwCl (wX cI cJ q  nc0 lc0 le0 ge0 wt0 kp0 fo0 po0 na0 ns0 ta ts mx0 ch0 mo0 ms0 fs0) H → va_D A (wX cI cJ q  nc0 lc0 le0 ge0 wt0 kp0 fo0 po0 na0 ns0 ta ts mx0 ch0 mo0 ms0 fs0) → va_S A s.heap H locs → lv_has ls 6 [(0, .ref (q 0)), (2, .int x2), (3, .int x3')] → W p l e (headSpec wsX3_isWithinStretch ({ frames := 3, cells := 0, slots := 0, locals := 75 })).room s m ([.ref (q 0), .int y1, .int y2] : List Value).toArray below meth c H locs 0 0 (MQ below (va_Qi (fun (r : Int32) (u : (Nat → Int32) × Int32) => pX3_isWithinStretch nc0 lc0 le0 ge0 wt0 na0 ta0 y1 y2 = some (r, u) ∧ narrow .boolean (.int r) = .int r) (fun u t => fw_B (dC, dI) A (wX cI cJ q  nc0 lc0 le0 ge0 wt0 kp0 fo0 po0 na0 ns0 u.1 u.2 mx0 ch0 mo0 ms0 fs0) t) A) ([.ref (q 0), .int y1, .int y2] : List Value).toArray s 0 0 A) (F0 m 83 ls [])) → (∀ r9, e9 = .inr r9 → some r9 = some z) → ∀ (n9 : Nat) (x3 : Int32) (H : Heap) (locs : List Loc) (ls : Array Slot), fw_wh (pX3_isWithinStretch_11 x2 nc0 na0 ta ts) n9 x3 = some e9 → va_P (dC, dI) vwCl (wX cI cJ q  nc0 lc0 le0 ge0 wt0 kp0 fo0 po0 na0 ns0 ta ts mx0 ch0 mo0 ms0 fs0) H → va_D A (wX cI cJ q  nc0 lc0 le0 ge0 wt0 kp0 fo0 po0 na0 ns0 ta ts mx0 ch0 mo0 ms0 fs0) → va_S A s.heap H locs → lv_has ls 6 [(0, .ref (q 0)), (2, .int x2), (3, .int x3)] → W p l e (headSpec wsX3_isWithinStretch ({ frames := 3, cells := 0, slots := 0, locals := 75 })).room s m ([.ref (q 0), .int y1, .int y2] : List Value).toArray below meth c H locs 0 0 (MQ below (va_Qi (fun (r : Int32) (u : (Nat → Int32) × Int32) => pX3_isWithinStretch nc0 lc0 le0 ge0 wt0 na0 ta0 y1 y2 = some (r, u) ∧ narrow .boolean (.int r) = .int r) (fun u t => fw_B (dC, dI) A (wX cI cJ q  nc0 lc0 le0 ge0 wt0 kp0 fo0 po0 na0 ns0 u.1 u.2 mx0 ch0 mo0 ms0 fs0) t) A) ([.ref (q 0), .int y1, .int y2] : List Value).toArray s 0 0 A) (F0 m 11 ls []) := by
    intro x2 ta ts e9 hkk hr0 n9
    induction n9 with
    | zero => exact fun _ H locs ls hq => (fw_wh0 hq).elim
    | succ n9 ih =>
      intro x3 H locs ls hq hP hD hS hl
      obtain ⟨w9, hq, hwI, hwE⟩ := fw_wh1 hq
      dsimp only [pX3_isWithinStretch_11] at hq
      refine lv_iload_n hx hb dX3_isWithinStretch_11 rfl (lv_at hl 2 rfl) ?_
      refine lv_aload_n hx hb dX3_isWithinStretch_12 rfl (lv_at hl 0 rfl) ?_
      refine va_get (D := (dC, dI)) (ci := 3) (v := .int nc0) (C := RX3) (T := TX3) (N := 12) hx hb hts hinX3 hown hK hP 0 rfl rfl 0 (by decide) hf9 (fun _ h9 => h9) rfl dX3_isWithinStretch_13 ?_
      refine lv_icmp_ge (tgt := 83) hx hb dX3_isWithinStretch_16 (by decide) (fun c_5 => ?_) (fun c_5 => ?_)
      · have hq := fw_it c_5 hq
        exact hkk x3 H locs ls (hwE _ (Option.some.inj hq).symm) hP hD hS (lv_sub hl [0, 1, 2] rfl)
      · have hq := fw_if c_5 hq
        refine lv_iload_n hx hb dX3_isWithinStretch_19 rfl (lv_at hl 2 rfl) ?_
        refine lv_iconst (v := (1 : Int32)) hx hb dX3_isWithinStretch_20 (by decide) ?_
        refine lv_iadd hx hb dX3_isWithinStretch_21 ?_
        refine lv_istore (lv' := [(4, .int (x3 + (1 : Int32))), (0, .ref (q 0)), (2, .int x2), (3, .int x3)]) hx hb dX3_isWithinStretch_22 hl (by decide) rfl (fun ls hl => ?_)
        obtain ⟨e_14, hw, hq⟩ := fw_bb hq
        refine L24 x2 x3 ta ts e_14 (fun x4_13 H locs ls he hP hD hS hl => ?_) (fun r9 he => by subst he; dsimp only at hq; exact hr0 _ (hwE _ (Option.some.inj hq).symm)) fw_N (x3 + (1 : Int32)) H locs ls hw hP hD hS (lv_sub hl [1, 2, 3, 0] rfl)
        subst he
        try dsimp only at hq
        refine lv_iinc (v := (x3 + (1 : Int32))) (lv' := [(3, .int (x3 + (1 : Int32))), (0, .ref (q 0)), (2, .int x2), (4, .int x4_13)]) hx hb dX3_isWithinStretch_77 hl (k := 2) rfl rfl (by decide) rfl (fun ls hl => ?_)
        refine lv_goto (tgt := 11) hx hb dX3_isWithinStretch_80 (by decide) ?_
        exact ih (x3 + (1 : Int32)) H locs ls (hwI _ (Option.some.inj hq).symm) hP hD hS (lv_sub hl [1, 2, 0] rfl)
  have hq := hz
  dsimp only [pX3_isWithinStretch] at hq
  have hl := lv_entry (([.ref (q 0), .int y1, .int y2] : List Value)) (n := 6) (Nat.le_of_ble_eq_true rfl)
  rw [lg_entry_eq]
  generalize (lg_sl (([.ref (q 0), .int y1, .int y2] : List Value)) ++ List.replicate (6 - (lg_sl (([.ref (q 0), .int y1, .int y2] : List Value))).length) Slot.unset).toArray = ls at hl ⊢
  have hl : lv_has ls 6 [(0, .ref (q 0)), (1, .int y1), (2, .int y2)] := hl
  obtain ⟨H, hHe⟩ : ∃ H : Heap, H = s.heap := ⟨_, rfl⟩
  obtain ⟨locs, hLe⟩ : ∃ L : List Loc, L = [] := ⟨_, rfl⟩
  have hP : va_P (dC, dI) vwCl (wX cI cJ q  nc0 lc0 le0 ge0 wt0 kp0 fo0 po0 na0 ns0 ta0 ts0 mx0 ch0 mo0 ms0 fs0) H := by rw [hHe]; exact hP
  have hS : va_S A s.heap H locs := by rw [hHe, hLe]; exact va_S.rf
  show W p l e (headSpec wsX3_isWithinStretch ({ frames := 3, cells := 0, slots := 0, locals := 75 })).room s m ([.ref (q 0), .int y1, .int y2] : List Value).toArray below meth c s.heap [] 0 0 (MQ below (va_Qi (fun (r : Int32) (u : (Nat → Int32) × Int32) => pX3_isWithinStretch nc0 lc0 le0 ge0 wt0 na0 ta0 y1 y2 = some (r, u) ∧ narrow .boolean (.int r) = .int r) (fun u t => fw_B (dC, dI) A (wX cI cJ q  nc0 lc0 le0 ge0 wt0 kp0 fo0 po0 na0 ns0 u.1 u.2 mx0 ch0 mo0 ms0 fs0) t) A) ([.ref (q 0), .int y1, .int y2] : List Value).toArray s 0 0 A) (F0 m 0 ls [])
  rw [← hHe, ← hLe]
  refine lv_aload_n hx hb dX3_isWithinStretch_0 rfl (lv_at hl 0 rfl) ?_
  refine lv_aload_n hx hb dX3_isWithinStretch_1 rfl (lv_at hl 0 rfl) ?_
  refine va_get (D := (dC, dI)) (ci := 3) (v := .ref (q 10)) (C := RX3) (T := TX3) (N := 12) hx hb hts hinX3 hown hK hP 0 rfl rfl 9 (by decide) hf46 (fun _ h9 => h9) rfl dX3_isWithinStretch_2 ?_
  refine lv_iload_n hx hb dX3_isWithinStretch_5 rfl (lv_at hl 1 rfl) ?_
  have hPc := hP.sub (ws' := (wX cI cJ q  nc0 lc0 le0 ge0 wt0 kp0 fo0 po0 na0 ns0 ta0 ts0 mx0 ch0 mo0 ms0 fs0)) [0, 1, 2, 3, 4, 5, 6, 7, 8, 9, 10, 11, 12, 13, 14, 15, 16] rfl
  have hDc := hD.sub (ws' := (wX cI cJ q  nc0 lc0 le0 ge0 wt0 kp0 fo0 po0 na0 ns0 ta0 ts0 mx0 ch0 mo0 ms0 fs0)) [0, 1, 2, 3, 4, 5, 6, 7, 8, 9, 10, 11, 12, 13, 14, 15, 16] (by decide) rfl
  refine fw_cv (wr := []) (w2 := fun u => (wX cI cJ q  nc0 lc0 le0 ge0 wt0 kp0 fo0 po0 na0 ns0 u.1 u.2 mx0 ch0 mo0 ms0 fs0)) [0, 1, 2, 3, 4, 5, 6, 7, 8, 9, 10, 11, 12, 13, 14, 15, 16] [] [0, 1, 2, 3, 4, 5, 6, 7, 8, 9, 10, 11, 12, 13, 14, 15, 16] (va_runV (b := (q 0)) (As := [.ref (q 10), .int y1]) (rest := []) ⟨hx, hb, hml, hown, hts⟩ (kX3_measure_T l dC dI cI cJ q H.size  nc0 lc0 le0 ge0 wt0 kp0 fo0 po0 na0 ns0 ta0 ts0 mx0 ch0 mo0 ms0 fs0 y1 (fw_be hq)) (cwV 2 hts gX3_isWithinStretch_X3_measure rfl rfl rfl (by decide +kernel) ⟨Nat.le_of_ble_eq_true rfl, Nat.le_of_ble_eq_true rfl⟩) ⟨fw_blind, va_recv hK hPc (ci := 3) (q0 := 0) rfl rfl, fun U hU hW => fw_pre hPc hK hDc hN hU hW⟩ rfl rfl hl.1 rfl (lv_room (Nat.le_of_ble_eq_true rfl)) dX3_isWithinStretch_6 ⟨Nat.zero_le _, Nat.zero_le _⟩) hP hD hS hA rfl rfl (by decide) (by decide) (by decide) (fun _ => rfl) (fun u H locs hw hP hD hS => ?_)
  obtain ⟨ta_1, ts_2⟩ := u
  have hq := fw_bs hw hq
  try dsimp only at hq
  have hP : va_P (dC, dI) vwCl (wX cI cJ q  nc0 lc0 le0 ge0 wt0 kp0 fo0 po0 na0 ns0 ta_1 ts_2 mx0 ch0 mo0 ms0 fs0) H := hP
  have hD : va_D A (wX cI cJ q  nc0 lc0 le0 ge0 wt0 kp0 fo0 po0 na0 ns0 ta_1 ts_2 mx0 ch0 mo0 ms0 fs0) := hD
  refine lv_iconst (v := (0 : Int32)) hx hb dX3_isWithinStretch_9 (by decide) ?_
  refine lv_istore_n (lv' := [(3, .int (0 : Int32)), (0, .ref (q 0)), (1, .int y1), (2, .int y2)]) hx hb dX3_isWithinStretch_10 rfl hl (by decide) rfl (fun ls hl => ?_)
  obtain ⟨e_17, hw, hq⟩ := fw_bb hq
  refine L11 y2 ta_1 ts_2 e_17 (fun x3_16 H locs ls he hP hD hS hl => ?_) (fun r9 he => by subst he; dsimp only at hq; exact hq) fw_N (0 : Int32) H locs ls hw hP hD hS (lv_sub hl [1, 3, 0] rfl)
  subst he
  try dsimp only at hq
  refine lv_iconst (v := (1 : Int32)) hx hb dX3_isWithinStretch_83 (by decide) ?_
  exact W.zret (v := (1 : Int32)) (ty := .boolean) hx hb hr rfl (fun t ht hW => ⟨⟨(1 : Int32), (ta_1, ts_2), rfl, ⟨hz.trans hq.symm, rfl⟩, by rw [ht]; exact hP, hD⟩, hS.F ht⟩) hS.2.2 dX3_isWithinStretch_84
