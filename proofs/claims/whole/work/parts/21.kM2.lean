/-! ===== contracts, by own program ===== -/
set_option maxHeartbeats 4000000 in
set_option maxRecDepth 100000 in
theorem kX4_at (l : Launch) (dC : Nat → ClassId) (dI : Nat → Nat → Nat) (cI cJ : ClassId) (q : Nat → Nat) (sz : Nat)  (nn0 : Int32) (ln0 : Int32) (sa0 : Nat → Int32) (sb0 : Nat → Int32) (wg0 : Nat → Int32) (kt0 : Nat → Int32) (fr0 : Nat → Int32) (pt0 : Nat → Int32) (wl0 : Nat → Int32) (tn0 : Nat → Int32) (up0 : Int64) (lo0 : Int64) (y1 : Int32) (y2 : Int32) (hd : ∃ z, pX4_at nn0 ln0 sa0 sb0 wg0 kt0 fr0 pt0 y1 y2 = some z) : Met l yX4_at wsX4_at ({ frames := 2, cells := 0, slots := 0, locals := 47 }) (fw_Pc (dC, dI) (fw_tys cI cJ) (wM cI cJ q  nn0 ln0 sa0 sb0 wg0 kt0 fr0 pt0 wl0 tn0 up0 lo0) ([.ref (q 0), .int y1, .int y2] : List Value) sz) (va_Qi (fun (r : Int32) (u : (Nat → Int32) × (Nat → Int32)) => pX4_at nn0 ln0 sa0 sb0 wg0 kt0 fr0 pt0 y1 y2 = some (r, u)) (fun u t => fw_B (dC, dI) (va_A (wM cI cJ q  nn0 ln0 sa0 sb0 wg0 kt0 fr0 pt0 wl0 tn0 up0 lo0) sz) (wM cI cJ q  nn0 ln0 sa0 sb0 wg0 kt0 u.1 u.2 wl0 tn0 up0 lo0) t) (va_A (wM cI cJ q  nn0 ln0 sa0 sb0 wg0 kt0 fr0 pt0 wl0 tn0 up0 lo0) sz)) 0 0 (va_A (wM cI cJ q  nn0 ln0 sa0 sb0 wg0 kt0 fr0 pt0 wl0 tn0 up0 lo0) sz) := by
  obtain ⟨z, hz⟩ := hd
  refine Met.ofW (cc := cX4_at) (maxL := 3) (ret := (some .int)) (by decide) rfl ?_
  intro p e s m args below meth c s₁ B hml hv
  obtain ⟨rfl, hsz, hP, hK, hD0, hN⟩ := hv
  have hx := B.exec
  have hb := B.bytes
  have hr := B.returns
  have hts := atoms_spec (ws := wsX4_at) B.pre
  have hown : s.vm.findClass RX4 = some m.cls := findClass_of_methodNamed B.named
  have hlocks := B.notSynchronized
  subst hsz
  have hD := hD0.self (sz := s.heap.size)
  generalize hAe : va_A (wM cI cJ q  nn0 ln0 sa0 sb0 wg0 kt0 fr0 pt0 wl0 tn0 up0 lo0) s.heap.size = A at hD ⊢
  have hA : ∀ q : Nat, s.heap.size ≤ q → A q := fun q h => by rw [← hAe]; exact Or.inr h
  have hinX4 : ∀ w ∈ u_ws RX4 TX4 12, w ∈ wsX4_at := by decide +kernel
  have hf13 := hts (.fieldLink RX4 13 "FewLinesModel" "as" "[I") (by decide +kernel)
  have hf17 := hts (.fieldLink RX4 17 "FewLinesModel" "bs" "[I") (by decide +kernel)
  have hf20 := hts (.fieldLink RX4 20 "FewLinesModel" "weight" "[I") (by decide +kernel)
  have hf23 := hts (.fieldLink RX4 23 "FewLinesModel" "kept" "[I") (by decide +kernel)
  have hf26 := hts (.fieldLink RX4 26 "FewLinesModel" "forest" "[I") (by decide +kernel)
  have hq := hz
  dsimp only [pX4_at] at hq
  have hl := lv_entry (([.ref (q 0), .int y1, .int y2] : List Value)) (n := 3) (Nat.le_of_ble_eq_true rfl)
  rw [lg_entry_eq]
  generalize (lg_sl (([.ref (q 0), .int y1, .int y2] : List Value)) ++ List.replicate (3 - (lg_sl (([.ref (q 0), .int y1, .int y2] : List Value))).length) Slot.unset).toArray = ls at hl ⊢
  have hl : lv_has ls 3 [(0, .ref (q 0)), (1, .int y1), (2, .int y2)] := hl
  obtain ⟨H, hHe⟩ : ∃ H : Heap, H = s.heap := ⟨_, rfl⟩
  obtain ⟨locs, hLe⟩ : ∃ L : List Loc, L = [] := ⟨_, rfl⟩
  have hP : va_P (dC, dI) vwCl (wM cI cJ q  nn0 ln0 sa0 sb0 wg0 kt0 fr0 pt0 wl0 tn0 up0 lo0) H := by rw [hHe]; exact hP
  have hS : va_S A s.heap H locs := by rw [hHe, hLe]; exact va_S.rf
  show W p l e (headSpec wsX4_at ({ frames := 2, cells := 0, slots := 0, locals := 47 })).room s m ([.ref (q 0), .int y1, .int y2] : List Value).toArray below meth c s.heap [] 0 0 (MQ below (va_Qi (fun (r : Int32) (u : (Nat → Int32) × (Nat → Int32)) => pX4_at nn0 ln0 sa0 sb0 wg0 kt0 fr0 pt0 y1 y2 = some (r, u)) (fun u t => fw_B (dC, dI) A (wM cI cJ q  nn0 ln0 sa0 sb0 wg0 kt0 u.1 u.2 wl0 tn0 up0 lo0) t) A) ([.ref (q 0), .int y1, .int y2] : List Value).toArray s 0 0 A) (F0 m 0 ls [])
  rw [← hHe, ← hLe]
  refine lv_aload_n hx hb dX4_at_0 rfl (lv_at hl 0 rfl) ?_
  refine lv_iload_n hx hb dX4_at_1 rfl (lv_at hl 1 rfl) ?_
  have hPc := hP.sub (ws' := (wM cI cJ q  nn0 ln0 sa0 sb0 wg0 kt0 fr0 pt0 wl0 tn0 up0 lo0)) [0, 1, 2, 3, 4, 5, 6, 7, 8] rfl
  have hDc := hD.sub (ws' := (wM cI cJ q  nn0 ln0 sa0 sb0 wg0 kt0 fr0 pt0 wl0 tn0 up0 lo0)) [0, 1, 2, 3, 4, 5, 6, 7, 8] (by decide) rfl
  refine fw_ci (wr := []) (w2 := fun u => (wM cI cJ q  nn0 ln0 sa0 sb0 wg0 kt0 fr0 pt0 wl0 tn0 up0 lo0)) [0, 1, 2, 3, 4, 5, 6, 7, 8] [] [0, 1, 2, 3, 4, 5, 6, 7, 8] (va_runV (b := (q 0)) (As := [.int y1]) (rest := []) ⟨hx, hb, hml, hown, hts⟩ (kX4_isLine l dC dI cI cJ q H.size  nn0 ln0 sa0 sb0 wg0 kt0 fr0 pt0 wl0 tn0 up0 lo0 y1 (fw_be hq)) (cwV 1 hts gX4_at_X4_isLine rfl rfl rfl (by decide +kernel) ⟨Nat.le_of_ble_eq_true rfl, Nat.le_of_ble_eq_true rfl⟩) ⟨fw_blind, va_recv hK hPc (ci := 4) (q0 := 0) rfl rfl, fun U hU hW => fw_pre hPc hK hDc hN hU hW⟩ rfl rfl hl.1 rfl (lv_room (Nat.le_of_ble_eq_true rfl)) dX4_at_2 ⟨Nat.zero_le _, Nat.zero_le _⟩) hP hD hS hA rfl rfl (by decide) (by decide) (by decide) (fun _ => rfl) (fun r_1 u H locs hw hP hD hS => ?_)
  obtain ⟨hw, n_3⟩ := hw
  have hq := fw_bs hw hq
  try dsimp only at hq
  refine lv_if_ne (tgt := 11) hx hb dX4_at_5 (by decide) (fun c_4 => ?_) (fun c_4 => ?_)
  · have hq := fw_if c_4 hq
    refine lv_iload_n hx hb dX4_at_11 rfl (lv_at hl 2 rfl) ?_
    refine lv_iconst (v := (4 : Int32)) hx hb dX4_at_12 (by decide) ?_
    refine lv_icmp_ne (tgt := 28) hx hb dX4_at_13 (by decide) (fun c_5 => ?_) (fun c_5 => ?_)
    · have hq := fw_if c_5 hq
      refine lv_iload_n hx hb dX4_at_28 rfl (lv_at hl 2 rfl) ?_
      refine lv_if_ne (tgt := 41) hx hb dX4_at_29 (by decide) (fun c_6 => ?_) (fun c_6 => ?_)
      · have hq := fw_if c_6 hq
        refine lv_iload_n hx hb dX4_at_41 rfl (lv_at hl 2 rfl) ?_
        refine lv_iconst (v := (1 : Int32)) hx hb dX4_at_42 (by decide) ?_
        refine lv_icmp_ne (tgt := 55) hx hb dX4_at_43 (by decide) (fun c_7 => ?_) (fun c_7 => ?_)
        · have hq := fw_if c_7 hq
          refine lv_iload_n hx hb dX4_at_55 rfl (lv_at hl 2 rfl) ?_
          refine lv_iconst (v := (2 : Int32)) hx hb dX4_at_56 (by decide) ?_
          refine lv_icmp_ne (tgt := 69) hx hb dX4_at_57 (by decide) (fun c_8 => ?_) (fun c_8 => ?_)
          · have hq := fw_if c_8 hq
            refine lv_iload_n hx hb dX4_at_69 rfl (lv_at hl 2 rfl) ?_
            refine lv_iconst (v := (3 : Int32)) hx hb dX4_at_70 (by decide) ?_
            refine lv_icmp_ne (tgt := 83) hx hb dX4_at_71 (by decide) (fun c_9 => ?_) (fun c_9 => ?_)
            · have hq := fw_if c_9 hq
              refine lv_bipush (v := (-3 : Int32)) hx hb dX4_at_83 (by decide) ?_
              exact W.iret (v := (-3 : Int32)) hx hb hr (fun t ht hW => ⟨⟨(-3 : Int32), (fr0, pt0), rfl, hz.trans hq.symm, by rw [ht]; exact hP, hD⟩, hS.F ht⟩) hS.2.2 dX4_at_85
            · have hq := fw_it c_9 hq
              refine lv_aload_n hx hb dX4_at_74 rfl (lv_at hl 0 rfl) ?_
              refine va_get (D := (dC, dI)) (ci := 4) (v := .ref (q 4)) (C := RX4) (T := TX4) (N := 12) hx hb hts hinX4 hown hK hP 0 rfl rfl 5 (by decide) hf23 (fun _ h9 => h9) rfl dX4_at_75 ?_
              refine lv_iload_n hx hb dX4_at_78 rfl (lv_at hl 1 rfl) ?_
              obtain ⟨h_10, hq⟩ := fw_ck_s hq
              refine va_iald hx hb hK hP 4 0 rfl rfl h_10 dX4_at_79 ?_
              refine lv_goto (tgt := 85) hx hb dX4_at_80 (by decide) ?_
              exact W.iret (v := (kt0 (y1).toNatClampNeg)) hx hb hr (fun t ht hW => ⟨⟨(kt0 (y1).toNatClampNeg), (fr0, pt0), rfl, hz.trans hq.symm, by rw [ht]; exact hP, hD⟩, hS.F ht⟩) hS.2.2 dX4_at_85
          · have hq := fw_it c_8 hq
            refine lv_aload_n hx hb dX4_at_60 rfl (lv_at hl 0 rfl) ?_
            refine va_get (D := (dC, dI)) (ci := 4) (v := .ref (q 3)) (C := RX4) (T := TX4) (N := 12) hx hb hts hinX4 hown hK hP 0 rfl rfl 4 (by decide) hf20 (fun _ h9 => h9) rfl dX4_at_61 ?_
            refine lv_iload_n hx hb dX4_at_64 rfl (lv_at hl 1 rfl) ?_
            obtain ⟨h_11, hq⟩ := fw_ck_s hq
            refine va_iald hx hb hK hP 3 0 rfl rfl h_11 dX4_at_65 ?_
            refine lv_goto (tgt := 85) hx hb dX4_at_66 (by decide) ?_
            exact W.iret (v := (wg0 (y1).toNatClampNeg)) hx hb hr (fun t ht hW => ⟨⟨(wg0 (y1).toNatClampNeg), (fr0, pt0), rfl, hz.trans hq.symm, by rw [ht]; exact hP, hD⟩, hS.F ht⟩) hS.2.2 dX4_at_85
        · have hq := fw_it c_7 hq
          refine lv_aload_n hx hb dX4_at_46 rfl (lv_at hl 0 rfl) ?_
          refine va_get (D := (dC, dI)) (ci := 4) (v := .ref (q 2)) (C := RX4) (T := TX4) (N := 12) hx hb hts hinX4 hown hK hP 0 rfl rfl 3 (by decide) hf17 (fun _ h9 => h9) rfl dX4_at_47 ?_
          refine lv_iload_n hx hb dX4_at_50 rfl (lv_at hl 1 rfl) ?_
          obtain ⟨h_12, hq⟩ := fw_ck_s hq
          refine va_iald hx hb hK hP 2 0 rfl rfl h_12 dX4_at_51 ?_
          refine lv_goto (tgt := 85) hx hb dX4_at_52 (by decide) ?_
          exact W.iret (v := (sb0 (y1).toNatClampNeg)) hx hb hr (fun t ht hW => ⟨⟨(sb0 (y1).toNatClampNeg), (fr0, pt0), rfl, hz.trans hq.symm, by rw [ht]; exact hP, hD⟩, hS.F ht⟩) hS.2.2 dX4_at_85
      · have hq := fw_it c_6 hq
        refine lv_aload_n hx hb dX4_at_32 rfl (lv_at hl 0 rfl) ?_
        refine va_get (D := (dC, dI)) (ci := 4) (v := .ref (q 1)) (C := RX4) (T := TX4) (N := 12) hx hb hts hinX4 hown hK hP 0 rfl rfl 2 (by decide) hf13 (fun _ h9 => h9) rfl dX4_at_33 ?_
        refine lv_iload_n hx hb dX4_at_36 rfl (lv_at hl 1 rfl) ?_
        obtain ⟨h_13, hq⟩ := fw_ck_s hq
        refine va_iald hx hb hK hP 1 0 rfl rfl h_13 dX4_at_37 ?_
        refine lv_goto (tgt := 85) hx hb dX4_at_38 (by decide) ?_
        exact W.iret (v := (sa0 (y1).toNatClampNeg)) hx hb hr (fun t ht hW => ⟨⟨(sa0 (y1).toNatClampNeg), (fr0, pt0), rfl, hz.trans hq.symm, by rw [ht]; exact hP, hD⟩, hS.F ht⟩) hS.2.2 dX4_at_85
    · have hq := fw_it c_5 hq
      refine lv_aload_n hx hb dX4_at_16 rfl (lv_at hl 0 rfl) ?_
      have hPc := hP.sub (ws' := (wM cI cJ q  nn0 ln0 sa0 sb0 wg0 kt0 fr0 pt0 wl0 tn0 up0 lo0)) [0, 1, 2, 3, 4, 5, 6, 7, 8] rfl
      have hDc := hD.sub (ws' := (wM cI cJ q  nn0 ln0 sa0 sb0 wg0 kt0 fr0 pt0 wl0 tn0 up0 lo0)) [0, 1, 2, 3, 4, 5, 6, 7, 8] (by decide) rfl
      refine fw_ci (wr := []) (w2 := fun u => (wM cI cJ q  nn0 ln0 sa0 sb0 wg0 kt0 u.1 u.2 wl0 tn0 up0 lo0)) [0, 1, 2, 3, 4, 5, 6, 7, 8] [] [0, 1, 2, 3, 4, 5, 6, 7, 8] (va_runV (b := (q 0)) (As := []) (rest := []) ⟨hx, hb, hml, hown, hts⟩ (kX4_findForests l dC dI cI cJ q H.size  nn0 ln0 sa0 sb0 wg0 kt0 fr0 pt0 wl0 tn0 up0 lo0  (fw_be hq)) (cwV 0 hts gX4_at_X4_findForests rfl rfl rfl (by decide +kernel) ⟨Nat.le_of_ble_eq_true rfl, Nat.le_of_ble_eq_true rfl⟩) ⟨fw_blind, va_recv hK hPc (ci := 4) (q0 := 0) rfl rfl, fun U hU hW => fw_pre hPc hK hDc hN hU hW⟩ rfl rfl hl.1 rfl (lv_room (Nat.le_of_ble_eq_true rfl)) dX4_at_17 ⟨Nat.zero_le _, Nat.zero_le _⟩) hP hD hS hA rfl rfl (by decide) (by decide) (by decide) (fun _ => rfl) (fun r_16 u H locs hw hP hD hS => ?_)
      obtain ⟨fr_14, pt_15⟩ := u
      have hq := fw_bs hw hq
      try dsimp only at hq
      have hP : va_P (dC, dI) vwCl (wM cI cJ q  nn0 ln0 sa0 sb0 wg0 kt0 fr_14 pt_15 wl0 tn0 up0 lo0) H := hP
      have hD : va_D A (wM cI cJ q  nn0 ln0 sa0 sb0 wg0 kt0 fr_14 pt_15 wl0 tn0 up0 lo0) := hD
      refine lv_pop hx hb dX4_at_20 rfl ?_
      refine lv_aload_n hx hb dX4_at_21 rfl (lv_at hl 0 rfl) ?_
      refine va_get (D := (dC, dI)) (ci := 4) (v := .ref (q 5)) (C := RX4) (T := TX4) (N := 12) hx hb hts hinX4 hown hK hP 0 rfl rfl 6 (by decide) hf26 (fun _ h9 => h9) rfl dX4_at_22 ?_
      refine lv_iload_n hx hb dX4_at_25 rfl (lv_at hl 1 rfl) ?_
      obtain ⟨h_18, hq⟩ := fw_ck_s hq
      refine va_iald hx hb hK hP 5 0 rfl rfl h_18 dX4_at_26 ?_
      exact W.iret (v := (fr_14 (y1).toNatClampNeg)) hx hb hr (fun t ht hW => ⟨⟨(fr_14 (y1).toNatClampNeg), (fr_14, pt_15), rfl, hz.trans hq.symm, by rw [ht]; exact hP, hD⟩, hS.F ht⟩) hS.2.2 dX4_at_27
  · have hq := fw_it c_4 hq
    refine lv_bipush (v := (-2 : Int32)) hx hb dX4_at_8 (by decide) ?_
    exact W.iret (v := (-2 : Int32)) hx hb hr (fun t ht hW => ⟨⟨(-2 : Int32), (fr0, pt0), rfl, hz.trans hq.symm, by rw [ht]; exact hP, hD⟩, hS.F ht⟩) hS.2.2 dX4_at_10
set_option maxHeartbeats 4000000 in
set_option maxRecDepth 100000 in
theorem kX4_cutOf (l : Launch) (dC : Nat → ClassId) (dI : Nat → Nat → Nat) (cI cJ : ClassId) (q : Nat → Nat) (sz : Nat)  (nn0 : Int32) (ln0 : Int32) (sa0 : Nat → Int32) (sb0 : Nat → Int32) (wg0 : Nat → Int32) (kt0 : Nat → Int32) (fr0 : Nat → Int32) (pt0 : Nat → Int32) (wl0 : Nat → Int32) (tn0 : Nat → Int32) (up0 : Int64) (lo0 : Int64) (y1 : Int32) (y2 : Int32) (hd : ∃ z, pX4_cutOf ln0 sa0 sb0 wg0 kt0 y1 y2 = some z) : Met l yX4_cutOf wsX4_cutOf ({ frames := 0, cells := 0, slots := 0, locals := 0 }) (fw_Pc (dC, dI) (fw_tys cI cJ) (wM cI cJ q  nn0 ln0 sa0 sb0 wg0 kt0 fr0 pt0 wl0 tn0 up0 lo0) ([.ref (q 0), .int y1, .int y2] : List Value) sz) (va_Qi (fun (r : Int32) (u : Unit) => pX4_cutOf ln0 sa0 sb0 wg0 kt0 y1 y2 = some r) (fun u t => fw_B (dC, dI) (va_A (wM cI cJ q  nn0 ln0 sa0 sb0 wg0 kt0 fr0 pt0 wl0 tn0 up0 lo0) sz) (wM cI cJ q  nn0 ln0 sa0 sb0 wg0 kt0 fr0 pt0 wl0 tn0 up0 lo0) t) (va_A (wM cI cJ q  nn0 ln0 sa0 sb0 wg0 kt0 fr0 pt0 wl0 tn0 up0 lo0) sz)) 0 0 (va_A (wM cI cJ q  nn0 ln0 sa0 sb0 wg0 kt0 fr0 pt0 wl0 tn0 up0 lo0) sz) := by
  obtain ⟨z, hz⟩ := hd
  refine Met.ofW (cc := cX4_cutOf) (maxL := 6) (ret := (some .int)) (by decide) rfl ?_
  intro p e s m args below meth c s₁ B hml hv
  obtain ⟨rfl, hsz, hP, hK, hD0, hN⟩ := hv
  have hx := B.exec
  have hb := B.bytes
  have hr := B.returns
  have hts := atoms_spec (ws := wsX4_cutOf) B.pre
  have hown : s.vm.findClass RX4 = some m.cls := findClass_of_methodNamed B.named
  have hlocks := B.notSynchronized
  subst hsz
  have hD := hD0.self (sz := s.heap.size)
  generalize hAe : va_A (wM cI cJ q  nn0 ln0 sa0 sb0 wg0 kt0 fr0 pt0 wl0 tn0 up0 lo0) s.heap.size = A at hD ⊢
  have hA : ∀ q : Nat, s.heap.size ≤ q → A q := fun q h => by rw [← hAe]; exact Or.inr h
  have hinX4 : ∀ w ∈ u_ws RX4 TX4 12, w ∈ wsX4_cutOf := by decide +kernel
  have hf13 := hts (.fieldLink RX4 13 "FewLinesModel" "as" "[I") (by decide +kernel)
  have hf17 := hts (.fieldLink RX4 17 "FewLinesModel" "bs" "[I") (by decide +kernel)
  have hf20 := hts (.fieldLink RX4 20 "FewLinesModel" "weight" "[I") (by decide +kernel)
  have hf23 := hts (.fieldLink RX4 23 "FewLinesModel" "kept" "[I") (by decide +kernel)
  have hf42 := hts (.fieldLink RX4 42 "FewLinesModel" "lines" "I") (by decide +kernel)
  have L5 : ∀ (x1 : Int32) (x2 : Int32) (e9 : Int32 × Int32), (∀ (x3' : Int32) (x4' : Int32) (H : Heap) (locs : List Loc) (ls : Array Slot), e9 = (x3', x4') → va_P (dC, dI) vwCl (wM cI cJ q  nn0 ln0 sa0 sb0 wg0 kt0 fr0 pt0 wl0 tn0 up0 lo0) H → va_D A (wM cI cJ q  nn0 ln0 sa0 sb0 wg0 kt0 fr0 pt0 wl0 tn0 up0 lo0) → va_S A s.heap H locs → lv_has ls 6 [(0, .ref (q 0)), (1, .int x1), (2, .int x2), (3, .int x3'), (4, .int x4')] → W p l e (headSpec wsX4_cutOf ({ frames := 0, cells := 0, slots := 0, locals := 0 })).room s m ([.ref (q 0), .int y1, .int y2] : List Value).toArray below meth c H locs 0 0 (MQ below (va_Qi (fun (r : Int32) (u : Unit) => pX4_cutOf ln0 sa0 sb0 wg0 kt0 y1 y2 = some r) (fun u t => fw_B (dC, dI) A (wM cI cJ q  nn0 ln0 sa0 sb0 wg0 kt0 fr0 pt0 wl0 tn0 up0 lo0) t) A) ([.ref (q 0), .int y1, .int y2] : List Value).toArray s 0 0 A) (F0 m 85 ls [])) → ∀ (n9 : Nat) (x3 : Int32) (x4 : Int32) (H : Heap) (locs : List Loc) (ls : Array Slot), fw_wh (pX4_cutOf_5 x1 x2 ln0 sa0 sb0 wg0 kt0) n9 (x3, x4) = some e9 → va_P (dC, dI) vwCl (wM cI cJ q  nn0 ln0 sa0 sb0 wg0 kt0 fr0 pt0 wl0 tn0 up0 lo0) H → va_D A (wM cI cJ q  nn0 ln0 sa0 sb0 wg0 kt0 fr0 pt0 wl0 tn0 up0 lo0) → va_S A s.heap H locs → lv_has ls 6 [(0, .ref (q 0)), (1, .int x1), (2, .int x2), (3, .int x3), (4, .int x4)] → W p l e (headSpec wsX4_cutOf ({ frames := 0, cells := 0, slots := 0, locals := 0 })).room s m ([.ref (q 0), .int y1, .int y2] : List Value).toArray below meth c H locs 0 0 (MQ below (va_Qi (fun (r : Int32) (u : Unit) => pX4_cutOf ln0 sa0 sb0 wg0 kt0 y1 y2 = some r) (fun u t => fw_B (dC, dI) A (wM cI cJ q  nn0 ln0 sa0 sb0 wg0 kt0 fr0 pt0 wl0 tn0 up0 lo0) t) A) ([.ref (q 0), .int y1, .int y2] : List Value).toArray s 0 0 A) (F0 m 5 ls []) := by
    intro x1 x2 e9 hkk n9
    induction n9 with
    | zero => exact fun _ _ H locs ls hq => (fw_wh0 hq).elim
    | succ n9 ih =>
      intro x3 x4 H locs ls hq hP hD hS hl
      obtain ⟨w9, hq, hwI, hwE⟩ := fw_wh1 hq
      dsimp only [pX4_cutOf_5] at hq
      refine lv_iload hx hb dX4_cutOf_5 (lv_at hl 4 rfl) ?_
      refine lv_aload_n hx hb dX4_cutOf_7 rfl (lv_at hl 0 rfl) ?_
      refine va_get (D := (dC, dI)) (ci := 4) (v := .int ln0) (C := RX4) (T := TX4) (N := 12) hx hb hts hinX4 hown hK hP 0 rfl rfl 1 (by decide) hf42 (fun _ h9 => h9) rfl dX4_cutOf_8 ?_
      refine lv_icmp_ge (tgt := 85) hx hb dX4_cutOf_11 (by decide) (fun c_1 => ?_) (fun c_1 => ?_)
      · have hq := fw_it c_1 hq
        exact hkk x3 x4 H locs ls (hwE _ (Option.some.inj hq).symm) hP hD hS (lv_sub hl [0, 1, 2, 3, 4] rfl)
      · have hq := fw_if c_1 hq
        refine lv_iload_n hx hb dX4_cutOf_14 rfl (lv_at hl 1 rfl) ?_
        refine lv_aload_n hx hb dX4_cutOf_15 rfl (lv_at hl 0 rfl) ?_
        refine va_get (D := (dC, dI)) (ci := 4) (v := .ref (q 1)) (C := RX4) (T := TX4) (N := 12) hx hb hts hinX4 hown hK hP 0 rfl rfl 2 (by decide) hf13 (fun _ h9 => h9) rfl dX4_cutOf_16 ?_
        refine lv_iload hx hb dX4_cutOf_19 (lv_at hl 4 rfl) ?_
        obtain ⟨h_2, hq⟩ := fw_ck_s hq
        refine va_iald hx hb hK hP 1 0 rfl rfl h_2 dX4_cutOf_21 ?_
        refine lv_ishr hx hb dX4_cutOf_22 ?_
        refine lv_iconst (v := (1 : Int32)) hx hb dX4_cutOf_23 (by decide) ?_
        refine lv_iand hx hb dX4_cutOf_24 ?_
        refine lv_iload_n hx hb dX4_cutOf_25 rfl (lv_at hl 1 rfl) ?_
        refine lv_aload_n hx hb dX4_cutOf_26 rfl (lv_at hl 0 rfl) ?_
        refine va_get (D := (dC, dI)) (ci := 4) (v := .ref (q 2)) (C := RX4) (T := TX4) (N := 12) hx hb hts hinX4 hown hK hP 0 rfl rfl 3 (by decide) hf17 (fun _ h9 => h9) rfl dX4_cutOf_27 ?_
        refine lv_iload hx hb dX4_cutOf_30 (lv_at hl 4 rfl) ?_
        obtain ⟨h_3, hq⟩ := fw_ck_s hq
        refine va_iald hx hb hK hP 2 0 rfl rfl h_3 dX4_cutOf_32 ?_
        refine lv_ishr hx hb dX4_cutOf_33 ?_
        refine lv_iconst (v := (1 : Int32)) hx hb dX4_cutOf_34 (by decide) ?_
        refine lv_iand hx hb dX4_cutOf_35 ?_
        refine lv_icmp_eq (tgt := 43) hx hb dX4_cutOf_36 (by decide) (fun c_4 => ?_) (fun c_4 => ?_)
        · have hq := fw_it c_4 hq
          refine lv_iconst (v := (0 : Int32)) hx hb dX4_cutOf_43 (by decide) ?_
          refine lv_istore (lv' := [(5, .int (0 : Int32)), (0, .ref (q 0)), (1, .int x1), (2, .int x2), (3, .int x3), (4, .int x4)]) hx hb dX4_cutOf_44 hl (by decide) rfl (fun ls hl => ?_)
          refine lv_iload_n hx hb dX4_cutOf_46 rfl (lv_at hl 4 rfl) ?_
          refine lv_iload hx hb dX4_cutOf_47 (lv_at hl 0 rfl) ?_
          refine lv_if_ne (tgt := 56) hx hb dX4_cutOf_49 (by decide) (fun c_5 => ?_) (fun c_5 => ?_)
          · have hq := fw_if c_5 hq
            refine lv_iload_n hx hb dX4_cutOf_56 rfl (lv_at hl 3 rfl) ?_
            refine lv_if_ne (tgt := 70) hx hb dX4_cutOf_57 (by decide) (fun c_6 => ?_) (fun c_6 => ?_)
            · have hq := fw_if c_6 hq
              refine lv_aload_n hx hb dX4_cutOf_70 rfl (lv_at hl 1 rfl) ?_
              refine va_get (D := (dC, dI)) (ci := 4) (v := .ref (q 4)) (C := RX4) (T := TX4) (N := 12) hx hb hts hinX4 hown hK hP 0 rfl rfl 5 (by decide) hf23 (fun _ h9 => h9) rfl dX4_cutOf_71 ?_
              refine lv_iload hx hb dX4_cutOf_74 (lv_at hl 5 rfl) ?_
              obtain ⟨h_7, hq⟩ := fw_ck_s hq
              refine va_iald hx hb hK hP 4 0 rfl rfl h_7 dX4_cutOf_76 ?_
              refine lv_iadd hx hb dX4_cutOf_77 ?_
              refine lv_istore_n (lv' := [(3, .int (x3 + (kt0 (x4).toNatClampNeg))), (5, .int (0 : Int32)), (0, .ref (q 0)), (1, .int x1), (2, .int x2), (4, .int x4)]) hx hb dX4_cutOf_78 rfl hl (by decide) rfl (fun ls hl => ?_)
              refine lv_iinc (v := (x4 + (1 : Int32))) (lv' := [(4, .int (x4 + (1 : Int32))), (3, .int (x3 + (kt0 (x4).toNatClampNeg))), (5, .int (0 : Int32)), (0, .ref (q 0)), (1, .int x1), (2, .int x2)]) hx hb dX4_cutOf_79 hl (k := 5) rfl rfl (by decide) rfl (fun ls hl => ?_)
              refine lv_goto (tgt := 5) hx hb dX4_cutOf_82 (by decide) ?_
              exact ih (x3 + (kt0 (x4).toNatClampNeg)) (x4 + (1 : Int32)) H locs ls (hwI _ (Option.some.inj hq).symm) hP hD hS (lv_sub hl [3, 4, 5, 1, 0] rfl)
            · have hq := fw_it c_6 hq
              refine lv_aload_n hx hb dX4_cutOf_60 rfl (lv_at hl 1 rfl) ?_
              refine va_get (D := (dC, dI)) (ci := 4) (v := .ref (q 3)) (C := RX4) (T := TX4) (N := 12) hx hb hts hinX4 hown hK hP 0 rfl rfl 4 (by decide) hf20 (fun _ h9 => h9) rfl dX4_cutOf_61 ?_
              refine lv_iload hx hb dX4_cutOf_64 (lv_at hl 5 rfl) ?_
              obtain ⟨h_8, hq⟩ := fw_ck_s hq
              refine va_iald hx hb hK hP 3 0 rfl rfl h_8 dX4_cutOf_66 ?_
              refine lv_goto (tgt := 77) hx hb dX4_cutOf_67 (by decide) ?_
              refine lv_iadd hx hb dX4_cutOf_77 ?_
              refine lv_istore_n (lv' := [(3, .int (x3 + (wg0 (x4).toNatClampNeg))), (5, .int (0 : Int32)), (0, .ref (q 0)), (1, .int x1), (2, .int x2), (4, .int x4)]) hx hb dX4_cutOf_78 rfl hl (by decide) rfl (fun ls hl => ?_)
              refine lv_iinc (v := (x4 + (1 : Int32))) (lv' := [(4, .int (x4 + (1 : Int32))), (3, .int (x3 + (wg0 (x4).toNatClampNeg))), (5, .int (0 : Int32)), (0, .ref (q 0)), (1, .int x1), (2, .int x2)]) hx hb dX4_cutOf_79 hl (k := 5) rfl rfl (by decide) rfl (fun ls hl => ?_)
              refine lv_goto (tgt := 5) hx hb dX4_cutOf_82 (by decide) ?_
              exact ih (x3 + (wg0 (x4).toNatClampNeg)) (x4 + (1 : Int32)) H locs ls (hwI _ (Option.some.inj hq).symm) hP hD hS (lv_sub hl [3, 4, 5, 1, 0] rfl)
          · have hq := fw_it c_5 hq
            refine lv_iconst (v := (0 : Int32)) hx hb dX4_cutOf_52 (by decide) ?_
            refine lv_goto (tgt := 77) hx hb dX4_cutOf_53 (by decide) ?_
            refine lv_iadd hx hb dX4_cutOf_77 ?_
            refine lv_istore_n (lv' := [(3, .int (x3 + (0 : Int32))), (5, .int (0 : Int32)), (0, .ref (q 0)), (1, .int x1), (2, .int x2), (4, .int x4)]) hx hb dX4_cutOf_78 rfl hl (by decide) rfl (fun ls hl => ?_)
            refine lv_iinc (v := (x4 + (1 : Int32))) (lv' := [(4, .int (x4 + (1 : Int32))), (3, .int (x3 + (0 : Int32))), (5, .int (0 : Int32)), (0, .ref (q 0)), (1, .int x1), (2, .int x2)]) hx hb dX4_cutOf_79 hl (k := 5) rfl rfl (by decide) rfl (fun ls hl => ?_)
            refine lv_goto (tgt := 5) hx hb dX4_cutOf_82 (by decide) ?_
            exact ih (x3 + (0 : Int32)) (x4 + (1 : Int32)) H locs ls (hwI _ (Option.some.inj hq).symm) hP hD hS (lv_sub hl [3, 4, 5, 1, 0] rfl)
        · have hq := fw_if c_4 hq
          refine lv_iconst (v := (1 : Int32)) hx hb dX4_cutOf_39 (by decide) ?_
          refine lv_goto (tgt := 44) hx hb dX4_cutOf_40 (by decide) ?_
          refine lv_istore (lv' := [(5, .int (1 : Int32)), (0, .ref (q 0)), (1, .int x1), (2, .int x2), (3, .int x3), (4, .int x4)]) hx hb dX4_cutOf_44 hl (by decide) rfl (fun ls hl => ?_)
          refine lv_iload_n hx hb dX4_cutOf_46 rfl (lv_at hl 4 rfl) ?_
          refine lv_iload hx hb dX4_cutOf_47 (lv_at hl 0 rfl) ?_
          refine lv_if_ne (tgt := 56) hx hb dX4_cutOf_49 (by decide) (fun c_9 => ?_) (fun c_9 => ?_)
          · have hq := fw_if c_9 hq
            refine lv_iload_n hx hb dX4_cutOf_56 rfl (lv_at hl 3 rfl) ?_
            refine lv_if_ne (tgt := 70) hx hb dX4_cutOf_57 (by decide) (fun c_10 => ?_) (fun c_10 => ?_)
            · have hq := fw_if c_10 hq
              refine lv_aload_n hx hb dX4_cutOf_70 rfl (lv_at hl 1 rfl) ?_
              refine va_get (D := (dC, dI)) (ci := 4) (v := .ref (q 4)) (C := RX4) (T := TX4) (N := 12) hx hb hts hinX4 hown hK hP 0 rfl rfl 5 (by decide) hf23 (fun _ h9 => h9) rfl dX4_cutOf_71 ?_
              refine lv_iload hx hb dX4_cutOf_74 (lv_at hl 5 rfl) ?_
              obtain ⟨h_11, hq⟩ := fw_ck_s hq
              refine va_iald hx hb hK hP 4 0 rfl rfl h_11 dX4_cutOf_76 ?_
              refine lv_iadd hx hb dX4_cutOf_77 ?_
              refine lv_istore_n (lv' := [(3, .int (x3 + (kt0 (x4).toNatClampNeg))), (5, .int (1 : Int32)), (0, .ref (q 0)), (1, .int x1), (2, .int x2), (4, .int x4)]) hx hb dX4_cutOf_78 rfl hl (by decide) rfl (fun ls hl => ?_)
              refine lv_iinc (v := (x4 + (1 : Int32))) (lv' := [(4, .int (x4 + (1 : Int32))), (3, .int (x3 + (kt0 (x4).toNatClampNeg))), (5, .int (1 : Int32)), (0, .ref (q 0)), (1, .int x1), (2, .int x2)]) hx hb dX4_cutOf_79 hl (k := 5) rfl rfl (by decide) rfl (fun ls hl => ?_)
              refine lv_goto (tgt := 5) hx hb dX4_cutOf_82 (by decide) ?_
              exact ih (x3 + (kt0 (x4).toNatClampNeg)) (x4 + (1 : Int32)) H locs ls (hwI _ (Option.some.inj hq).symm) hP hD hS (lv_sub hl [3, 4, 5, 1, 0] rfl)
            · have hq := fw_it c_10 hq
              refine lv_aload_n hx hb dX4_cutOf_60 rfl (lv_at hl 1 rfl) ?_
              refine va_get (D := (dC, dI)) (ci := 4) (v := .ref (q 3)) (C := RX4) (T := TX4) (N := 12) hx hb hts hinX4 hown hK hP 0 rfl rfl 4 (by decide) hf20 (fun _ h9 => h9) rfl dX4_cutOf_61 ?_
              refine lv_iload hx hb dX4_cutOf_64 (lv_at hl 5 rfl) ?_
              obtain ⟨h_12, hq⟩ := fw_ck_s hq
              refine va_iald hx hb hK hP 3 0 rfl rfl h_12 dX4_cutOf_66 ?_
              refine lv_goto (tgt := 77) hx hb dX4_cutOf_67 (by decide) ?_
              refine lv_iadd hx hb dX4_cutOf_77 ?_
              refine lv_istore_n (lv' := [(3, .int (x3 + (wg0 (x4).toNatClampNeg))), (5, .int (1 : Int32)), (0, .ref (q 0)), (1, .int x1), (2, .int x2), (4, .int x4)]) hx hb dX4_cutOf_78 rfl hl (by decide) rfl (fun ls hl => ?_)
              refine lv_iinc (v := (x4 + (1 : Int32))) (lv' := [(4, .int (x4 + (1 : Int32))), (3, .int (x3 + (wg0 (x4).toNatClampNeg))), (5, .int (1 : Int32)), (0, .ref (q 0)), (1, .int x1), (2, .int x2)]) hx hb dX4_cutOf_79 hl (k := 5) rfl rfl (by decide) rfl (fun ls hl => ?_)
              refine lv_goto (tgt := 5) hx hb dX4_cutOf_82 (by decide) ?_
              exact ih (x3 + (wg0 (x4).toNatClampNeg)) (x4 + (1 : Int32)) H locs ls (hwI _ (Option.some.inj hq).symm) hP hD hS (lv_sub hl [3, 4, 5, 1, 0] rfl)
          · have hq := fw_it c_9 hq
            refine lv_iconst (v := (0 : Int32)) hx hb dX4_cutOf_52 (by decide) ?_
            refine lv_goto (tgt := 77) hx hb dX4_cutOf_53 (by decide) ?_
            refine lv_iadd hx hb dX4_cutOf_77 ?_
            refine lv_istore_n (lv' := [(3, .int (x3 + (0 : Int32))), (5, .int (1 : Int32)), (0, .ref (q 0)), (1, .int x1), (2, .int x2), (4, .int x4)]) hx hb dX4_cutOf_78 rfl hl (by decide) rfl (fun ls hl => ?_)
            refine lv_iinc (v := (x4 + (1 : Int32))) (lv' := [(4, .int (x4 + (1 : Int32))), (3, .int (x3 + (0 : Int32))), (5, .int (1 : Int32)), (0, .ref (q 0)), (1, .int x1), (2, .int x2)]) hx hb dX4_cutOf_79 hl (k := 5) rfl rfl (by decide) rfl (fun ls hl => ?_)
            refine lv_goto (tgt := 5) hx hb dX4_cutOf_82 (by decide) ?_
            exact ih (x3 + (0 : Int32)) (x4 + (1 : Int32)) H locs ls (hwI _ (Option.some.inj hq).symm) hP hD hS (lv_sub hl [3, 4, 5, 1, 0] rfl)
  have hq := hz
  dsimp only [pX4_cutOf] at hq
  have hl := lv_entry (([.ref (q 0), .int y1, .int y2] : List Value)) (n := 6) (Nat.le_of_ble_eq_true rfl)
  rw [lg_entry_eq]
  generalize (lg_sl (([.ref (q 0), .int y1, .int y2] : List Value)) ++ List.replicate (6 - (lg_sl (([.ref (q 0), .int y1, .int y2] : List Value))).length) Slot.unset).toArray = ls at hl ⊢
  have hl : lv_has ls 6 [(0, .ref (q 0)), (1, .int y1), (2, .int y2)] := hl
  obtain ⟨H, hHe⟩ : ∃ H : Heap, H = s.heap := ⟨_, rfl⟩
  obtain ⟨locs, hLe⟩ : ∃ L : List Loc, L = [] := ⟨_, rfl⟩
  have hP : va_P (dC, dI) vwCl (wM cI cJ q  nn0 ln0 sa0 sb0 wg0 kt0 fr0 pt0 wl0 tn0 up0 lo0) H := by rw [hHe]; exact hP
  have hS : va_S A s.heap H locs := by rw [hHe, hLe]; exact va_S.rf
  show W p l e (headSpec wsX4_cutOf ({ frames := 0, cells := 0, slots := 0, locals := 0 })).room s m ([.ref (q 0), .int y1, .int y2] : List Value).toArray below meth c s.heap [] 0 0 (MQ below (va_Qi (fun (r : Int32) (u : Unit) => pX4_cutOf ln0 sa0 sb0 wg0 kt0 y1 y2 = some r) (fun u t => fw_B (dC, dI) A (wM cI cJ q  nn0 ln0 sa0 sb0 wg0 kt0 fr0 pt0 wl0 tn0 up0 lo0) t) A) ([.ref (q 0), .int y1, .int y2] : List Value).toArray s 0 0 A) (F0 m 0 ls [])
  rw [← hHe, ← hLe]
  refine lv_iconst (v := (0 : Int32)) hx hb dX4_cutOf_0 (by decide) ?_
  refine lv_istore_n (lv' := [(3, .int (0 : Int32)), (0, .ref (q 0)), (1, .int y1), (2, .int y2)]) hx hb dX4_cutOf_1 rfl hl (by decide) rfl (fun ls hl => ?_)
  refine lv_iconst (v := (0 : Int32)) hx hb dX4_cutOf_2 (by decide) ?_
  refine lv_istore (lv' := [(4, .int (0 : Int32)), (3, .int (0 : Int32)), (0, .ref (q 0)), (1, .int y1), (2, .int y2)]) hx hb dX4_cutOf_3 hl (by decide) rfl (fun ls hl => ?_)
  obtain ⟨e_15, hw, hq⟩ := fw_bb hq
  refine L5 y1 y2 e_15 (fun x3_13 x4_14 H locs ls he hP hD hS hl => ?_) fw_N (0 : Int32) (0 : Int32) H locs ls hw hP hD hS (lv_sub hl [2, 3, 4, 1, 0] rfl)
  subst he
  try dsimp only at hq
  refine lv_iload_n hx hb dX4_cutOf_85 rfl (lv_at hl 3 rfl) ?_
  exact W.iret (v := x3_13) hx hb hr (fun t ht hW => ⟨⟨x3_13, (), rfl, hz.trans hq.symm, by rw [ht]; exact hP, hD⟩, hS.F ht⟩) hS.2.2 dX4_cutOf_86
set_option maxHeartbeats 4000000 in
set_option maxRecDepth 100000 in
theorem kX4_isSide (l : Launch) (dC : Nat → ClassId) (dI : Nat → Nat → Nat) (cI cJ : ClassId) (q : Nat → Nat) (sz : Nat)  (nn0 : Int32) (ln0 : Int32) (sa0 : Nat → Int32) (sb0 : Nat → Int32) (wg0 : Nat → Int32) (kt0 : Nat → Int32) (fr0 : Nat → Int32) (pt0 : Nat → Int32) (wl0 : Nat → Int32) (tn0 : Nat → Int32) (up0 : Int64) (lo0 : Int64) (y1 : Int32) (hd : ∃ z, pX4_isSide nn0 y1 = some z) : Met l yX4_isSide wsX4_isSide ({ frames := 1, cells := 0, slots := 0, locals := 22 }) (fw_Pc (dC, dI) (fw_tys cI cJ) (wM cI cJ q  nn0 ln0 sa0 sb0 wg0 kt0 fr0 pt0 wl0 tn0 up0 lo0) ([.ref (q 0), .int y1] : List Value) sz) (va_Qi (fun (r : Int32) (u : Unit) => pX4_isSide nn0 y1 = some r ∧ narrow .boolean (.int r) = .int r) (fun u t => fw_B (dC, dI) (va_A (wM cI cJ q  nn0 ln0 sa0 sb0 wg0 kt0 fr0 pt0 wl0 tn0 up0 lo0) sz) (wM cI cJ q  nn0 ln0 sa0 sb0 wg0 kt0 fr0 pt0 wl0 tn0 up0 lo0) t) (va_A (wM cI cJ q  nn0 ln0 sa0 sb0 wg0 kt0 fr0 pt0 wl0 tn0 up0 lo0) sz)) 0 0 (va_A (wM cI cJ q  nn0 ln0 sa0 sb0 wg0 kt0 fr0 pt0 wl0 tn0 up0 lo0) sz) := by
  obtain ⟨z, hz⟩ := hd
  refine Met.ofW (cc := cX4_isSide) (maxL := 2) (ret := (some .boolean)) (by decide) rfl ?_
  intro p e s m args below meth c s₁ B hml hv
  obtain ⟨rfl, hsz, hP, hK, hD0, hN⟩ := hv
  have hx := B.exec
  have hb := B.bytes
  have hr := B.returns
  have hts := atoms_spec (ws := wsX4_isSide) B.pre
  have hown : s.vm.findClass RX4 = some m.cls := findClass_of_methodNamed B.named
  have hlocks := B.notSynchronized
  subst hsz
  have hD := hD0.self (sz := s.heap.size)
  generalize hAe : va_A (wM cI cJ q  nn0 ln0 sa0 sb0 wg0 kt0 fr0 pt0 wl0 tn0 up0 lo0) s.heap.size = A at hD ⊢
  have hA : ∀ q : Nat, s.heap.size ≤ q → A q := fun q h => by rw [← hAe]; exact Or.inr h
  have hinX4 : ∀ w ∈ u_ws RX4 TX4 12, w ∈ wsX4_isSide := by decide +kernel
  have hf7 := hts (.fieldLink RX4 7 "FewLinesModel" "n" "I") (by decide +kernel)
  have hq := hz
  dsimp only [pX4_isSide] at hq
  have hl := lv_entry (([.ref (q 0), .int y1] : List Value)) (n := 2) (Nat.le_of_ble_eq_true rfl)
  rw [lg_entry_eq]
  generalize (lg_sl (([.ref (q 0), .int y1] : List Value)) ++ List.replicate (2 - (lg_sl (([.ref (q 0), .int y1] : List Value))).length) Slot.unset).toArray = ls at hl ⊢
  have hl : lv_has ls 2 [(0, .ref (q 0)), (1, .int y1)] := hl
  obtain ⟨H, hHe⟩ : ∃ H : Heap, H = s.heap := ⟨_, rfl⟩
  obtain ⟨locs, hLe⟩ : ∃ L : List Loc, L = [] := ⟨_, rfl⟩
  have hP : va_P (dC, dI) vwCl (wM cI cJ q  nn0 ln0 sa0 sb0 wg0 kt0 fr0 pt0 wl0 tn0 up0 lo0) H := by rw [hHe]; exact hP
  have hS : va_S A s.heap H locs := by rw [hHe, hLe]; exact va_S.rf
  show W p l e (headSpec wsX4_isSide ({ frames := 1, cells := 0, slots := 0, locals := 22 })).room s m ([.ref (q 0), .int y1] : List Value).toArray below meth c s.heap [] 0 0 (MQ below (va_Qi (fun (r : Int32) (u : Unit) => pX4_isSide nn0 y1 = some r ∧ narrow .boolean (.int r) = .int r) (fun u t => fw_B (dC, dI) A (wM cI cJ q  nn0 ln0 sa0 sb0 wg0 kt0 fr0 pt0 wl0 tn0 up0 lo0) t) A) ([.ref (q 0), .int y1] : List Value).toArray s 0 0 A) (F0 m 0 ls [])
  rw [← hHe, ← hLe]
  refine lv_iload_n hx hb dX4_isSide_0 rfl (lv_at hl 1 rfl) ?_
  refine lv_iconst (v := (1 : Int32)) hx hb dX4_isSide_1 (by decide) ?_
  refine lv_iconst (v := (1 : Int32)) hx hb dX4_isSide_2 (by decide) ?_
  refine lv_aload_n hx hb dX4_isSide_3 rfl (lv_at hl 0 rfl) ?_
  refine va_get (D := (dC, dI)) (ci := 4) (v := .int nn0) (C := RX4) (T := TX4) (N := 12) hx hb hts hinX4 hown hK hP 0 rfl rfl 0 (by decide) hf7 (fun _ h9 => h9) rfl dX4_isSide_4 ?_
  refine lv_ishl hx hb dX4_isSide_7 ?_
  refine lv_iconst (v := (2 : Int32)) hx hb dX4_isSide_8 (by decide) ?_
  refine lv_isub hx hb dX4_isSide_9 ?_
  have hPc := hP.sub (ws' := (w0 cI cJ   )) [] rfl
  have hDc := hD.sub (ws' := (w0 cI cJ   )) [] (by decide) rfl
  refine fw_ci (wr := [((q 0), .inr (4, [.int nn0, .int ln0, .ref (q 1), .ref (q 2), .ref (q 3), .ref (q 4), .ref (q 5), .ref (q 6), .ref (q 7), .ref (q 8), .long up0, .long lo0])), ((q 1), .inl (cI, 12, .inl sa0)), ((q 2), .inl (cI, 12, .inl sb0)), ((q 3), .inl (cI, 12, .inl wg0)), ((q 4), .inl (cI, 12, .inl kt0)), ((q 5), .inl (cI, 12, .inl fr0)), ((q 6), .inl (cI, 7, .inl pt0)), ((q 7), .inl (cI, 49, .inl wl0)), ((q 8), .inl (cI, 49, .inl tn0))]) (w2 := fun u => (wM cI cJ q  nn0 ln0 sa0 sb0 wg0 kt0 fr0 pt0 wl0 tn0 up0 lo0)) [] [0, 1, 2, 3, 4, 5, 6, 7, 8] [0, 1, 2, 3, 4, 5, 6, 7, 8] (va_runS (As := [.int y1, .int (1 : Int32), .int (((1 : Int32) <<< (nn0 &&& 31)) - (2 : Int32))]) (rest := []) ⟨hx, hb, hml, hown, hts⟩ (kX4_in l dC dI cI cJ  H.size   y1 (1 : Int32) (((1 : Int32) <<< (nn0 &&& 31)) - (2 : Int32)) (fw_be hq)) (va_cwS 3 hts gX4_isSide_X4_in rfl rfl rfl (by decide +kernel) ⟨Nat.le_of_ble_eq_true rfl, Nat.le_of_ble_eq_true rfl⟩) ⟨fw_blind, fun U hU hW => fw_pre hPc hK hDc hN hU hW⟩ rfl rfl hl.1 rfl (lv_room (Nat.le_of_ble_eq_true rfl)) dX4_isSide_10 ⟨Nat.zero_le _, Nat.zero_le _⟩) hP hD hS hA rfl rfl (by decide) (by decide) (by decide) (fun _ => rfl) (fun r_1 u H locs hw hP hD hS => ?_)
  obtain ⟨hw, n_3⟩ := hw
  have hq := fw_bs hw hq
  try dsimp only at hq
  refine lv_if_eq (tgt := 27) hx hb dX4_isSide_13 (by decide) (fun c_4 => ?_) (fun c_4 => ?_)
  · have hq := fw_it c_4 hq
    refine lv_iconst (v := (0 : Int32)) hx hb dX4_isSide_27 (by decide) ?_
    exact W.zret (v := (0 : Int32)) (ty := .boolean) hx hb hr rfl (fun t ht hW => ⟨⟨(0 : Int32), (), rfl, ⟨hz.trans hq.symm, rfl⟩, by rw [ht]; exact hP, hD⟩, hS.F ht⟩) hS.2.2 dX4_isSide_28
  · have hq := fw_if c_4 hq
    refine lv_iload_n hx hb dX4_isSide_16 rfl (lv_at hl 1 rfl) ?_
    refine lv_iconst (v := (2 : Int32)) hx hb dX4_isSide_17 (by decide) ?_
    obtain ⟨h_5, hq⟩ := fw_cz_s hq
    refine lv_irem hx hb dX4_isSide_18 h_5 ?_
    refine lv_iconst (v := (1 : Int32)) hx hb dX4_isSide_19 (by decide) ?_
    refine lv_icmp_ne (tgt := 27) hx hb dX4_isSide_20 (by decide) (fun c_6 => ?_) (fun c_6 => ?_)
    · have hq := fw_if c_6 hq
      refine lv_iconst (v := (0 : Int32)) hx hb dX4_isSide_27 (by decide) ?_
      exact W.zret (v := (0 : Int32)) (ty := .boolean) hx hb hr rfl (fun t ht hW => ⟨⟨(0 : Int32), (), rfl, ⟨hz.trans hq.symm, rfl⟩, by rw [ht]; exact hP, hD⟩, hS.F ht⟩) hS.2.2 dX4_isSide_28
    · have hq := fw_it c_6 hq
      refine lv_iconst (v := (1 : Int32)) hx hb dX4_isSide_23 (by decide) ?_
      refine lv_goto (tgt := 28) hx hb dX4_isSide_24 (by decide) ?_
      exact W.zret (v := (1 : Int32)) (ty := .boolean) hx hb hr rfl (fun t ht hW => ⟨⟨(1 : Int32), (), rfl, ⟨hz.trans hq.symm, rfl⟩, by rw [ht]; exact hP, hD⟩, hS.F ht⟩) hS.2.2 dX4_isSide_28
set_option maxHeartbeats 4000000 in
set_option maxRecDepth 100000 in
theorem kX4_cut (l : Launch) (dC : Nat → ClassId) (dI : Nat → Nat → Nat) (cI cJ : ClassId) (q : Nat → Nat) (sz : Nat)  (nn0 : Int32) (ln0 : Int32) (sa0 : Nat → Int32) (sb0 : Nat → Int32) (wg0 : Nat → Int32) (kt0 : Nat → Int32) (fr0 : Nat → Int32) (pt0 : Nat → Int32) (wl0 : Nat → Int32) (tn0 : Nat → Int32) (up0 : Int64) (lo0 : Int64) (y1 : Int32) (y2 : Int32) (hd : ∃ z, pX4_cut nn0 ln0 sa0 sb0 wg0 kt0 y1 y2 = some z) : Met l yX4_cut wsX4_cut ({ frames := 2, cells := 0, slots := 0, locals := 43 }) (fw_Pc (dC, dI) (fw_tys cI cJ) (wM cI cJ q  nn0 ln0 sa0 sb0 wg0 kt0 fr0 pt0 wl0 tn0 up0 lo0) ([.ref (q 0), .int y1, .int y2] : List Value) sz) (va_Qi (fun (r : Int32) (u : Unit) => pX4_cut nn0 ln0 sa0 sb0 wg0 kt0 y1 y2 = some r) (fun u t => fw_B (dC, dI) (va_A (wM cI cJ q  nn0 ln0 sa0 sb0 wg0 kt0 fr0 pt0 wl0 tn0 up0 lo0) sz) (wM cI cJ q  nn0 ln0 sa0 sb0 wg0 kt0 fr0 pt0 wl0 tn0 up0 lo0) t) (va_A (wM cI cJ q  nn0 ln0 sa0 sb0 wg0 kt0 fr0 pt0 wl0 tn0 up0 lo0) sz)) 0 0 (va_A (wM cI cJ q  nn0 ln0 sa0 sb0 wg0 kt0 fr0 pt0 wl0 tn0 up0 lo0) sz) := by
  obtain ⟨z, hz⟩ := hd
  refine Met.ofW (cc := cX4_cut) (maxL := 3) (ret := (some .int)) (by decide) rfl ?_
  intro p e s m args below meth c s₁ B hml hv
  obtain ⟨rfl, hsz, hP, hK, hD0, hN⟩ := hv
  have hx := B.exec
  have hb := B.bytes
  have hr := B.returns
  have hts := atoms_spec (ws := wsX4_cut) B.pre
  have hown : s.vm.findClass RX4 = some m.cls := findClass_of_methodNamed B.named
  have hlocks := B.notSynchronized
  subst hsz
  have hD := hD0.self (sz := s.heap.size)
  generalize hAe : va_A (wM cI cJ q  nn0 ln0 sa0 sb0 wg0 kt0 fr0 pt0 wl0 tn0 up0 lo0) s.heap.size = A at hD ⊢
  have hA : ∀ q : Nat, s.heap.size ≤ q → A q := fun q h => by rw [← hAe]; exact Or.inr h
  have hq := hz
  dsimp only [pX4_cut] at hq
  have hl := lv_entry (([.ref (q 0), .int y1, .int y2] : List Value)) (n := 3) (Nat.le_of_ble_eq_true rfl)
  rw [lg_entry_eq]
  generalize (lg_sl (([.ref (q 0), .int y1, .int y2] : List Value)) ++ List.replicate (3 - (lg_sl (([.ref (q 0), .int y1, .int y2] : List Value))).length) Slot.unset).toArray = ls at hl ⊢
  have hl : lv_has ls 3 [(0, .ref (q 0)), (1, .int y1), (2, .int y2)] := hl
  obtain ⟨H, hHe⟩ : ∃ H : Heap, H = s.heap := ⟨_, rfl⟩
  obtain ⟨locs, hLe⟩ : ∃ L : List Loc, L = [] := ⟨_, rfl⟩
  have hP : va_P (dC, dI) vwCl (wM cI cJ q  nn0 ln0 sa0 sb0 wg0 kt0 fr0 pt0 wl0 tn0 up0 lo0) H := by rw [hHe]; exact hP
  have hS : va_S A s.heap H locs := by rw [hHe, hLe]; exact va_S.rf
  show W p l e (headSpec wsX4_cut ({ frames := 2, cells := 0, slots := 0, locals := 43 })).room s m ([.ref (q 0), .int y1, .int y2] : List Value).toArray below meth c s.heap [] 0 0 (MQ below (va_Qi (fun (r : Int32) (u : Unit) => pX4_cut nn0 ln0 sa0 sb0 wg0 kt0 y1 y2 = some r) (fun u t => fw_B (dC, dI) A (wM cI cJ q  nn0 ln0 sa0 sb0 wg0 kt0 fr0 pt0 wl0 tn0 up0 lo0) t) A) ([.ref (q 0), .int y1, .int y2] : List Value).toArray s 0 0 A) (F0 m 0 ls [])
  rw [← hHe, ← hLe]
  refine lv_aload_n hx hb dX4_cut_0 rfl (lv_at hl 0 rfl) ?_
  refine lv_iload_n hx hb dX4_cut_1 rfl (lv_at hl 1 rfl) ?_
  have hPc := hP.sub (ws' := (wM cI cJ q  nn0 ln0 sa0 sb0 wg0 kt0 fr0 pt0 wl0 tn0 up0 lo0)) [0, 1, 2, 3, 4, 5, 6, 7, 8] rfl
  have hDc := hD.sub (ws' := (wM cI cJ q  nn0 ln0 sa0 sb0 wg0 kt0 fr0 pt0 wl0 tn0 up0 lo0)) [0, 1, 2, 3, 4, 5, 6, 7, 8] (by decide) rfl
  refine fw_ci (wr := []) (w2 := fun u => (wM cI cJ q  nn0 ln0 sa0 sb0 wg0 kt0 fr0 pt0 wl0 tn0 up0 lo0)) [0, 1, 2, 3, 4, 5, 6, 7, 8] [] [0, 1, 2, 3, 4, 5, 6, 7, 8] (va_runV (b := (q 0)) (As := [.int y1]) (rest := []) ⟨hx, hb, hml, hown, hts⟩ (kX4_isSide l dC dI cI cJ q H.size  nn0 ln0 sa0 sb0 wg0 kt0 fr0 pt0 wl0 tn0 up0 lo0 y1 (fw_be hq)) (cwV 1 hts gX4_cut_X4_isSide rfl rfl rfl (by decide +kernel) ⟨Nat.le_of_ble_eq_true rfl, Nat.le_of_ble_eq_true rfl⟩) ⟨fw_blind, va_recv hK hPc (ci := 4) (q0 := 0) rfl rfl, fun U hU hW => fw_pre hPc hK hDc hN hU hW⟩ rfl rfl hl.1 rfl (lv_room (Nat.le_of_ble_eq_true rfl)) dX4_cut_2 ⟨Nat.zero_le _, Nat.zero_le _⟩) hP hD hS hA rfl rfl (by decide) (by decide) (by decide) (fun _ => rfl) (fun r_1 u H locs hw hP hD hS => ?_)
  obtain ⟨hw, n_3⟩ := hw
  have hq := fw_bs hw hq
  try dsimp only at hq
  refine lv_if_eq (tgt := 26) hx hb dX4_cut_5 (by decide) (fun c_4 => ?_) (fun c_4 => ?_)
  · have hq := fw_it c_4 hq
    refine lv_bipush (v := (-3 : Int32)) hx hb dX4_cut_26 (by decide) ?_
    exact W.iret (v := (-3 : Int32)) hx hb hr (fun t ht hW => ⟨⟨(-3 : Int32), (), rfl, hz.trans hq.symm, by rw [ht]; exact hP, hD⟩, hS.F ht⟩) hS.2.2 dX4_cut_28
  · have hq := fw_if c_4 hq
    refine lv_iload_n hx hb dX4_cut_8 rfl (lv_at hl 2 rfl) ?_
    refine lv_iconst (v := (0 : Int32)) hx hb dX4_cut_9 (by decide) ?_
    refine lv_iconst (v := (1 : Int32)) hx hb dX4_cut_10 (by decide) ?_
    have hPc := hP.sub (ws' := (w0 cI cJ   )) [] rfl
    have hDc := hD.sub (ws' := (w0 cI cJ   )) [] (by decide) rfl
    refine fw_ci (wr := [((q 0), .inr (4, [.int nn0, .int ln0, .ref (q 1), .ref (q 2), .ref (q 3), .ref (q 4), .ref (q 5), .ref (q 6), .ref (q 7), .ref (q 8), .long up0, .long lo0])), ((q 1), .inl (cI, 12, .inl sa0)), ((q 2), .inl (cI, 12, .inl sb0)), ((q 3), .inl (cI, 12, .inl wg0)), ((q 4), .inl (cI, 12, .inl kt0)), ((q 5), .inl (cI, 12, .inl fr0)), ((q 6), .inl (cI, 7, .inl pt0)), ((q 7), .inl (cI, 49, .inl wl0)), ((q 8), .inl (cI, 49, .inl tn0))]) (w2 := fun u => (wM cI cJ q  nn0 ln0 sa0 sb0 wg0 kt0 fr0 pt0 wl0 tn0 up0 lo0)) [] [0, 1, 2, 3, 4, 5, 6, 7, 8] [0, 1, 2, 3, 4, 5, 6, 7, 8] (va_runS (As := [.int y2, .int (0 : Int32), .int (1 : Int32)]) (rest := []) ⟨hx, hb, hml, hown, hts⟩ (kX4_in l dC dI cI cJ  H.size   y2 (0 : Int32) (1 : Int32) (fw_be hq)) (va_cwS 3 hts gX4_cut_X4_in rfl rfl rfl (by decide +kernel) ⟨Nat.le_of_ble_eq_true rfl, Nat.le_of_ble_eq_true rfl⟩) ⟨fw_blind, fun U hU hW => fw_pre hPc hK hDc hN hU hW⟩ rfl rfl hl.1 rfl (lv_room (Nat.le_of_ble_eq_true rfl)) dX4_cut_11 ⟨Nat.zero_le _, Nat.zero_le _⟩) hP hD hS hA rfl rfl (by decide) (by decide) (by decide) (fun _ => rfl) (fun r_5 u H locs hw hP hD hS => ?_)
    obtain ⟨hw, n_7⟩ := hw
    have hq := fw_bs hw hq
    try dsimp only at hq
    refine lv_if_eq (tgt := 26) hx hb dX4_cut_14 (by decide) (fun c_8 => ?_) (fun c_8 => ?_)
    · have hq := fw_it c_8 hq
      refine lv_bipush (v := (-3 : Int32)) hx hb dX4_cut_26 (by decide) ?_
      exact W.iret (v := (-3 : Int32)) hx hb hr (fun t ht hW => ⟨⟨(-3 : Int32), (), rfl, hz.trans hq.symm, by rw [ht]; exact hP, hD⟩, hS.F ht⟩) hS.2.2 dX4_cut_28
    · have hq := fw_if c_8 hq
      refine lv_aload_n hx hb dX4_cut_17 rfl (lv_at hl 0 rfl) ?_
      refine lv_iload_n hx hb dX4_cut_18 rfl (lv_at hl 1 rfl) ?_
      refine lv_iload_n hx hb dX4_cut_19 rfl (lv_at hl 2 rfl) ?_
      have hPc := hP.sub (ws' := (wM cI cJ q  nn0 ln0 sa0 sb0 wg0 kt0 fr0 pt0 wl0 tn0 up0 lo0)) [0, 1, 2, 3, 4, 5, 6, 7, 8] rfl
      have hDc := hD.sub (ws' := (wM cI cJ q  nn0 ln0 sa0 sb0 wg0 kt0 fr0 pt0 wl0 tn0 up0 lo0)) [0, 1, 2, 3, 4, 5, 6, 7, 8] (by decide) rfl
      refine fw_ci (wr := []) (w2 := fun u => (wM cI cJ q  nn0 ln0 sa0 sb0 wg0 kt0 fr0 pt0 wl0 tn0 up0 lo0)) [0, 1, 2, 3, 4, 5, 6, 7, 8] [] [0, 1, 2, 3, 4, 5, 6, 7, 8] (va_runV (b := (q 0)) (As := [.int y1, .int y2]) (rest := []) ⟨hx, hb, hml, hown, hts⟩ (kX4_cutOf l dC dI cI cJ q H.size  nn0 ln0 sa0 sb0 wg0 kt0 fr0 pt0 wl0 tn0 up0 lo0 y1 y2 (fw_be hq)) (cwV 2 hts gX4_cut_X4_cutOf rfl rfl rfl (by decide +kernel) ⟨Nat.le_of_ble_eq_true rfl, Nat.le_of_ble_eq_true rfl⟩) ⟨fw_blind, va_recv hK hPc (ci := 4) (q0 := 0) rfl rfl, fun U hU hW => fw_pre hPc hK hDc hN hU hW⟩ rfl rfl hl.1 rfl (lv_room (Nat.le_of_ble_eq_true rfl)) dX4_cut_20 ⟨Nat.zero_le _, Nat.zero_le _⟩) hP hD hS hA rfl rfl (by decide) (by decide) (by decide) (fun _ => rfl) (fun r_9 u H locs hw hP hD hS => ?_)
      have hq := fw_bs hw hq
      try dsimp only at hq
      refine lv_goto (tgt := 28) hx hb dX4_cut_23 (by decide) ?_
      exact W.iret (v := r_9) hx hb hr (fun t ht hW => ⟨⟨r_9, (), rfl, hz.trans hq.symm, by rw [ht]; exact hP, hD⟩, hS.F ht⟩) hS.2.2 dX4_cut_28
set_option maxHeartbeats 4000000 in
set_option maxRecDepth 100000 in
theorem kX4_worst (l : Launch) (dC : Nat → ClassId) (dI : Nat → Nat → Nat) (cI cJ : ClassId) (q : Nat → Nat) (sz : Nat)  (nn0 : Int32) (ln0 : Int32) (sa0 : Nat → Int32) (sb0 : Nat → Int32) (wg0 : Nat → Int32) (kt0 : Nat → Int32) (fr0 : Nat → Int32) (pt0 : Nat → Int32) (wl0 : Nat → Int32) (tn0 : Nat → Int32) (up0 : Int64) (lo0 : Int64) (y1 : Int32) (hd : ∃ z, pX4_worst nn0 ln0 sa0 sb0 wg0 kt0 y1 = some z) : Met l yX4_worst wsX4_worst ({ frames := 1, cells := 0, slots := 0, locals := 25 }) (fw_Pc (dC, dI) (fw_tys cI cJ) (wM cI cJ q  nn0 ln0 sa0 sb0 wg0 kt0 fr0 pt0 wl0 tn0 up0 lo0) ([.ref (q 0), .int y1] : List Value) sz) (va_Qi (fun (r : Int32) (u : Unit) => pX4_worst nn0 ln0 sa0 sb0 wg0 kt0 y1 = some r) (fun u t => fw_B (dC, dI) (va_A (wM cI cJ q  nn0 ln0 sa0 sb0 wg0 kt0 fr0 pt0 wl0 tn0 up0 lo0) sz) (wM cI cJ q  nn0 ln0 sa0 sb0 wg0 kt0 fr0 pt0 wl0 tn0 up0 lo0) t) (va_A (wM cI cJ q  nn0 ln0 sa0 sb0 wg0 kt0 fr0 pt0 wl0 tn0 up0 lo0) sz)) 0 0 (va_A (wM cI cJ q  nn0 ln0 sa0 sb0 wg0 kt0 fr0 pt0 wl0 tn0 up0 lo0) sz) := by
  obtain ⟨z, hz⟩ := hd
  refine Met.ofW (cc := cX4_worst) (maxL := 5) (ret := (some .int)) (by decide) rfl ?_
  intro p e s m args below meth c s₁ B hml hv
  obtain ⟨rfl, hsz, hP, hK, hD0, hN⟩ := hv
  have hx := B.exec
  have hb := B.bytes
  have hr := B.returns
  have hts := atoms_spec (ws := wsX4_worst) B.pre
  have hown : s.vm.findClass RX4 = some m.cls := findClass_of_methodNamed B.named
  have hlocks := B.notSynchronized
  subst hsz
  have hD := hD0.self (sz := s.heap.size)
  generalize hAe : va_A (wM cI cJ q  nn0 ln0 sa0 sb0 wg0 kt0 fr0 pt0 wl0 tn0 up0 lo0) s.heap.size = A at hD ⊢
  have hA : ∀ q : Nat, s.heap.size ≤ q → A q := fun q h => by rw [← hAe]; exact Or.inr h
  have hinX4 : ∀ w ∈ u_ws RX4 TX4 12, w ∈ wsX4_worst := by decide +kernel
  have hf7 := hts (.fieldLink RX4 7 "FewLinesModel" "n" "I") (by decide +kernel)
  have L16 : ∀ (x1 : Int32) (e9 : Int32 × Int32), (∀ (x2' : Int32) (x3' : Int32) (H : Heap) (locs : List Loc) (ls : Array Slot), e9 = (x2', x3') → va_P (dC, dI) vwCl (wM cI cJ q  nn0 ln0 sa0 sb0 wg0 kt0 fr0 pt0 wl0 tn0 up0 lo0) H → va_D A (wM cI cJ q  nn0 ln0 sa0 sb0 wg0 kt0 fr0 pt0 wl0 tn0 up0 lo0) → va_S A s.heap H locs → lv_has ls 5 [(0, .ref (q 0)), (1, .int x1), (2, .int x2'), (3, .int x3')] → W p l e (headSpec wsX4_worst ({ frames := 1, cells := 0, slots := 0, locals := 25 })).room s m ([.ref (q 0), .int y1] : List Value).toArray below meth c H locs 0 0 (MQ below (va_Qi (fun (r : Int32) (u : Unit) => pX4_worst nn0 ln0 sa0 sb0 wg0 kt0 y1 = some r) (fun u t => fw_B (dC, dI) A (wM cI cJ q  nn0 ln0 sa0 sb0 wg0 kt0 fr0 pt0 wl0 tn0 up0 lo0) t) A) ([.ref (q 0), .int y1] : List Value).toArray s 0 0 A) (F0 m 111 ls [])) → ∀ (n9 : Nat) (x2 : Int32) (x3 : Int32) (H : Heap) (locs : List Loc) (ls : Array Slot), fw_wh (pX4_worst_16 x1 nn0 ln0 sa0 sb0 wg0 kt0) n9 (x2, x3) = some e9 → va_P (dC, dI) vwCl (wM cI cJ q  nn0 ln0 sa0 sb0 wg0 kt0 fr0 pt0 wl0 tn0 up0 lo0) H → va_D A (wM cI cJ q  nn0 ln0 sa0 sb0 wg0 kt0 fr0 pt0 wl0 tn0 up0 lo0) → va_S A s.heap H locs → lv_has ls 5 [(0, .ref (q 0)), (1, .int x1), (2, .int x2), (3, .int x3)] → W p l e (headSpec wsX4_worst ({ frames := 1, cells := 0, slots := 0, locals := 25 })).room s m ([.ref (q 0), .int y1] : List Value).toArray below meth c H locs 0 0 (MQ below (va_Qi (fun (r : Int32) (u : Unit) => pX4_worst nn0 ln0 sa0 sb0 wg0 kt0 y1 = some r) (fun u t => fw_B (dC, dI) A (wM cI cJ q  nn0 ln0 sa0 sb0 wg0 kt0 fr0 pt0 wl0 tn0 up0 lo0) t) A) ([.ref (q 0), .int y1] : List Value).toArray s 0 0 A) (F0 m 16 ls []) := by
    intro x1 e9 hkk n9
    induction n9 with
    | zero => exact fun _ _ H locs ls hq => (fw_wh0 hq).elim
    | succ n9 ih =>
      intro x2 x3 H locs ls hq hP hD hS hl
      obtain ⟨w9, hq, hwI, hwE⟩ := fw_wh1 hq
      dsimp only [pX4_worst_16] at hq
      refine lv_iload_n hx hb dX4_worst_16 rfl (lv_at hl 3 rfl) ?_
      refine lv_iconst (v := (1 : Int32)) hx hb dX4_worst_17 (by decide) ?_
      refine lv_aload_n hx hb dX4_worst_18 rfl (lv_at hl 0 rfl) ?_
      refine va_get (D := (dC, dI)) (ci := 4) (v := .int nn0) (C := RX4) (T := TX4) (N := 12) hx hb hts hinX4 hown hK hP 0 rfl rfl 0 (by decide) hf7 (fun _ h9 => h9) rfl dX4_worst_19 ?_
      refine lv_ishl hx hb dX4_worst_22 ?_
      refine lv_iconst (v := (1 : Int32)) hx hb dX4_worst_23 (by decide) ?_
      refine lv_isub hx hb dX4_worst_24 ?_
      refine lv_icmp_ge (tgt := 111) hx hb dX4_worst_25 (by decide) (fun c_5 => ?_) (fun c_5 => ?_)
      · have hq := fw_it c_5 hq
        exact hkk x2 x3 H locs ls (hwE _ (Option.some.inj hq).symm) hP hD hS (lv_sub hl [0, 1, 2, 3] rfl)
      · have hq := fw_if c_5 hq
        refine lv_aload_n hx hb dX4_worst_28 rfl (lv_at hl 0 rfl) ?_
        refine lv_iload_n hx hb dX4_worst_29 rfl (lv_at hl 3 rfl) ?_
        refine lv_iconst (v := (0 : Int32)) hx hb dX4_worst_30 (by decide) ?_
        have hPc := hP.sub (ws' := (wM cI cJ q  nn0 ln0 sa0 sb0 wg0 kt0 fr0 pt0 wl0 tn0 up0 lo0)) [0, 1, 2, 3, 4, 5, 6, 7, 8] rfl
        have hDc := hD.sub (ws' := (wM cI cJ q  nn0 ln0 sa0 sb0 wg0 kt0 fr0 pt0 wl0 tn0 up0 lo0)) [0, 1, 2, 3, 4, 5, 6, 7, 8] (by decide) rfl
        refine fw_ci (wr := []) (w2 := fun u => (wM cI cJ q  nn0 ln0 sa0 sb0 wg0 kt0 fr0 pt0 wl0 tn0 up0 lo0)) [0, 1, 2, 3, 4, 5, 6, 7, 8] [] [0, 1, 2, 3, 4, 5, 6, 7, 8] (va_runV (b := (q 0)) (As := [.int x3, .int (0 : Int32)]) (rest := []) ⟨hx, hb, hml, hown, hts⟩ (kX4_cutOf l dC dI cI cJ q H.size  nn0 ln0 sa0 sb0 wg0 kt0 fr0 pt0 wl0 tn0 up0 lo0 x3 (0 : Int32) (fw_be hq)) (cwV 2 hts gX4_worst_X4_cutOf rfl rfl rfl (by decide +kernel) ⟨Nat.le_of_ble_eq_true rfl, Nat.le_of_ble_eq_true rfl⟩) ⟨fw_blind, va_recv hK hPc (ci := 4) (q0 := 0) rfl rfl, fun U hU hW => fw_pre hPc hK hDc hN hU hW⟩ rfl rfl hl.1 rfl (lv_room (Nat.le_of_ble_eq_true rfl)) dX4_worst_31 ⟨Nat.zero_le _, Nat.zero_le _⟩) hP hD hS hA rfl rfl (by decide) (by decide) (by decide) (fun _ => rfl) (fun r_6 u H locs hw hP hD hS => ?_)
        have hq := fw_bs hw hq
        try dsimp only at hq
        refine lv_if_le (tgt := 105) hx hb dX4_worst_34 (by decide) (fun c_8 => ?_) (fun c_8 => ?_)
        · have hq := fw_it c_8 hq
          refine lv_iinc (v := (x3 + (2 : Int32))) (lv' := [(3, .int (x3 + (2 : Int32))), (0, .ref (q 0)), (1, .int x1), (2, .int x2)]) hx hb dX4_worst_105 hl (k := 3) rfl rfl (by decide) rfl (fun ls hl => ?_)
          refine lv_goto (tgt := 16) hx hb dX4_worst_108 (by decide) ?_
          exact ih x2 (x3 + (2 : Int32)) H locs ls (hwI _ (Option.some.inj hq).symm) hP hD hS (lv_sub hl [1, 2, 3, 0] rfl)
        · have hq := fw_if c_8 hq
          refine lv_iload_n hx hb dX4_worst_37 rfl (lv_at hl 2 rfl) ?_
          refine lv_iconst (v := (-1 : Int32)) hx hb dX4_worst_38 (by decide) ?_
          refine lv_icmp_ne (tgt := 46) hx hb dX4_worst_39 (by decide) (fun c_9 => ?_) (fun c_9 => ?_)
          · have hq := fw_if c_9 hq
            refine lv_aload_n hx hb dX4_worst_46 rfl (lv_at hl 0 rfl) ?_
            refine lv_iload_n hx hb dX4_worst_47 rfl (lv_at hl 3 rfl) ?_
            refine lv_iconst (v := (1 : Int32)) hx hb dX4_worst_48 (by decide) ?_
            have hPc := hP.sub (ws' := (wM cI cJ q  nn0 ln0 sa0 sb0 wg0 kt0 fr0 pt0 wl0 tn0 up0 lo0)) [0, 1, 2, 3, 4, 5, 6, 7, 8] rfl
            have hDc := hD.sub (ws' := (wM cI cJ q  nn0 ln0 sa0 sb0 wg0 kt0 fr0 pt0 wl0 tn0 up0 lo0)) [0, 1, 2, 3, 4, 5, 6, 7, 8] (by decide) rfl
            refine fw_ci (wr := []) (w2 := fun u => (wM cI cJ q  nn0 ln0 sa0 sb0 wg0 kt0 fr0 pt0 wl0 tn0 up0 lo0)) [0, 1, 2, 3, 4, 5, 6, 7, 8] [] [0, 1, 2, 3, 4, 5, 6, 7, 8] (va_runV (b := (q 0)) (As := [.int x3, .int (1 : Int32)]) (rest := []) ⟨hx, hb, hml, hown, hts⟩ (kX4_cutOf l dC dI cI cJ q H.size  nn0 ln0 sa0 sb0 wg0 kt0 fr0 pt0 wl0 tn0 up0 lo0 x3 (1 : Int32) (fw_be hq)) (cwV 2 hts gX4_worst_X4_cutOf rfl rfl rfl (by decide +kernel) ⟨Nat.le_of_ble_eq_true rfl, Nat.le_of_ble_eq_true rfl⟩) ⟨fw_blind, va_recv hK hPc (ci := 4) (q0 := 0) rfl rfl, fun U hU hW => fw_pre hPc hK hDc hN hU hW⟩ rfl rfl hl.1 rfl (lv_room (Nat.le_of_ble_eq_true rfl)) dX4_worst_49 ⟨Nat.zero_le _, Nat.zero_le _⟩) hP hD hS hA rfl rfl (by decide) (by decide) (by decide) (fun _ => rfl) (fun r_10 u H locs hw hP hD hS => ?_)
            have hq := fw_bs hw hq
            try dsimp only at hq
            refine lv_aload_n hx hb dX4_worst_52 rfl (lv_at hl 0 rfl) ?_
            refine lv_iload_n hx hb dX4_worst_53 rfl (lv_at hl 2 rfl) ?_
            refine lv_iconst (v := (0 : Int32)) hx hb dX4_worst_54 (by decide) ?_
            have hPc := hP.sub (ws' := (wM cI cJ q  nn0 ln0 sa0 sb0 wg0 kt0 fr0 pt0 wl0 tn0 up0 lo0)) [0, 1, 2, 3, 4, 5, 6, 7, 8] rfl
            have hDc := hD.sub (ws' := (wM cI cJ q  nn0 ln0 sa0 sb0 wg0 kt0 fr0 pt0 wl0 tn0 up0 lo0)) [0, 1, 2, 3, 4, 5, 6, 7, 8] (by decide) rfl
            refine fw_ci (wr := []) (w2 := fun u => (wM cI cJ q  nn0 ln0 sa0 sb0 wg0 kt0 fr0 pt0 wl0 tn0 up0 lo0)) [0, 1, 2, 3, 4, 5, 6, 7, 8] [] [0, 1, 2, 3, 4, 5, 6, 7, 8] (va_runV (b := (q 0)) (As := [.int x2, .int (0 : Int32)]) (rest := [.int r_10]) ⟨hx, hb, hml, hown, hts⟩ (kX4_cutOf l dC dI cI cJ q H.size  nn0 ln0 sa0 sb0 wg0 kt0 fr0 pt0 wl0 tn0 up0 lo0 x2 (0 : Int32) (fw_be hq)) (cwV 2 hts gX4_worst_X4_cutOf rfl rfl rfl (by decide +kernel) ⟨Nat.le_of_ble_eq_true rfl, Nat.le_of_ble_eq_true rfl⟩) ⟨fw_blind, va_recv hK hPc (ci := 4) (q0 := 0) rfl rfl, fun U hU hW => fw_pre hPc hK hDc hN hU hW⟩ rfl rfl hl.1 rfl (lv_room (Nat.le_of_ble_eq_true rfl)) dX4_worst_55 ⟨Nat.zero_le _, Nat.zero_le _⟩) hP hD hS hA rfl rfl (by decide) (by decide) (by decide) (fun _ => rfl) (fun r_12 u H locs hw hP hD hS => ?_)
            have hq := fw_bs hw hq
            try dsimp only at hq
            refine lv_imul hx hb dX4_worst_58 ?_
            refine lv_aload_n hx hb dX4_worst_59 rfl (lv_at hl 0 rfl) ?_
            refine lv_iload_n hx hb dX4_worst_60 rfl (lv_at hl 2 rfl) ?_
            refine lv_iconst (v := (1 : Int32)) hx hb dX4_worst_61 (by decide) ?_
            have hPc := hP.sub (ws' := (wM cI cJ q  nn0 ln0 sa0 sb0 wg0 kt0 fr0 pt0 wl0 tn0 up0 lo0)) [0, 1, 2, 3, 4, 5, 6, 7, 8] rfl
            have hDc := hD.sub (ws' := (wM cI cJ q  nn0 ln0 sa0 sb0 wg0 kt0 fr0 pt0 wl0 tn0 up0 lo0)) [0, 1, 2, 3, 4, 5, 6, 7, 8] (by decide) rfl
            refine fw_ci (wr := []) (w2 := fun u => (wM cI cJ q  nn0 ln0 sa0 sb0 wg0 kt0 fr0 pt0 wl0 tn0 up0 lo0)) [0, 1, 2, 3, 4, 5, 6, 7, 8] [] [0, 1, 2, 3, 4, 5, 6, 7, 8] (va_runV (b := (q 0)) (As := [.int x2, .int (1 : Int32)]) (rest := [.int (r_10 * r_12)]) ⟨hx, hb, hml, hown, hts⟩ (kX4_cutOf l dC dI cI cJ q H.size  nn0 ln0 sa0 sb0 wg0 kt0 fr0 pt0 wl0 tn0 up0 lo0 x2 (1 : Int32) (fw_be hq)) (cwV 2 hts gX4_worst_X4_cutOf rfl rfl rfl (by decide +kernel) ⟨Nat.le_of_ble_eq_true rfl, Nat.le_of_ble_eq_true rfl⟩) ⟨fw_blind, va_recv hK hPc (ci := 4) (q0 := 0) rfl rfl, fun U hU hW => fw_pre hPc hK hDc hN hU hW⟩ rfl rfl hl.1 rfl (lv_room (Nat.le_of_ble_eq_true rfl)) dX4_worst_62 ⟨Nat.zero_le _, Nat.zero_le _⟩) hP hD hS hA rfl rfl (by decide) (by decide) (by decide) (fun _ => rfl) (fun r_14 u H locs hw hP hD hS => ?_)
            have hq := fw_bs hw hq
            try dsimp only at hq
            refine lv_aload_n hx hb dX4_worst_65 rfl (lv_at hl 0 rfl) ?_
            refine lv_iload_n hx hb dX4_worst_66 rfl (lv_at hl 3 rfl) ?_
            refine lv_iconst (v := (0 : Int32)) hx hb dX4_worst_67 (by decide) ?_
            have hPc := hP.sub (ws' := (wM cI cJ q  nn0 ln0 sa0 sb0 wg0 kt0 fr0 pt0 wl0 tn0 up0 lo0)) [0, 1, 2, 3, 4, 5, 6, 7, 8] rfl
            have hDc := hD.sub (ws' := (wM cI cJ q  nn0 ln0 sa0 sb0 wg0 kt0 fr0 pt0 wl0 tn0 up0 lo0)) [0, 1, 2, 3, 4, 5, 6, 7, 8] (by decide) rfl
            refine fw_ci (wr := []) (w2 := fun u => (wM cI cJ q  nn0 ln0 sa0 sb0 wg0 kt0 fr0 pt0 wl0 tn0 up0 lo0)) [0, 1, 2, 3, 4, 5, 6, 7, 8] [] [0, 1, 2, 3, 4, 5, 6, 7, 8] (va_runV (b := (q 0)) (As := [.int x3, .int (0 : Int32)]) (rest := [.int r_14, .int (r_10 * r_12)]) ⟨hx, hb, hml, hown, hts⟩ (kX4_cutOf l dC dI cI cJ q H.size  nn0 ln0 sa0 sb0 wg0 kt0 fr0 pt0 wl0 tn0 up0 lo0 x3 (0 : Int32) (fw_be hq)) (cwV 2 hts gX4_worst_X4_cutOf rfl rfl rfl (by decide +kernel) ⟨Nat.le_of_ble_eq_true rfl, Nat.le_of_ble_eq_true rfl⟩) ⟨fw_blind, va_recv hK hPc (ci := 4) (q0 := 0) rfl rfl, fun U hU hW => fw_pre hPc hK hDc hN hU hW⟩ rfl rfl hl.1 rfl (lv_room (Nat.le_of_ble_eq_true rfl)) dX4_worst_68 ⟨Nat.zero_le _, Nat.zero_le _⟩) hP hD hS hA rfl rfl (by decide) (by decide) (by decide) (fun _ => rfl) (fun r_16 u H locs hw hP hD hS => ?_)
            have hq := fw_bs hw hq
            try dsimp only at hq
            refine lv_imul hx hb dX4_worst_71 ?_
            refine lv_isub hx hb dX4_worst_72 ?_
            refine lv_istore (lv' := [(4, .int ((r_10 * r_12) - (r_14 * r_16))), (0, .ref (q 0)), (1, .int x1), (2, .int x2), (3, .int x3)]) hx hb dX4_worst_73 hl (by decide) rfl (fun ls hl => ?_)
            refine lv_iload_n hx hb dX4_worst_75 rfl (lv_at hl 3 rfl) ?_
            refine lv_iconst (v := (-1 : Int32)) hx hb dX4_worst_76 (by decide) ?_
            refine lv_icmp_eq (tgt := 99) hx hb dX4_worst_77 (by decide) (fun c_18 => ?_) (fun c_18 => ?_)
            · have hq := fw_it c_18 hq
              refine lv_iload_n hx hb dX4_worst_99 rfl (lv_at hl 4 rfl) ?_
              refine lv_goto (tgt := 104) hx hb dX4_worst_100 (by decide) ?_
              refine lv_istore_n (lv' := [(2, .int x3), (4, .int ((r_10 * r_12) - (r_14 * r_16))), (0, .ref (q 0)), (1, .int x1), (3, .int x3)]) hx hb dX4_worst_104 rfl hl (by decide) rfl (fun ls hl => ?_)
              refine lv_iinc (v := (x3 + (2 : Int32))) (lv' := [(3, .int (x3 + (2 : Int32))), (2, .int x3), (4, .int ((r_10 * r_12) - (r_14 * r_16))), (0, .ref (q 0)), (1, .int x1)]) hx hb dX4_worst_105 hl (k := 4) rfl rfl (by decide) rfl (fun ls hl => ?_)
              refine lv_goto (tgt := 16) hx hb dX4_worst_108 (by decide) ?_
              exact ih x3 (x3 + (2 : Int32)) H locs ls (hwI _ (Option.some.inj hq).symm) hP hD hS (lv_sub hl [3, 4, 1, 0] rfl)
            · have hq := fw_if c_18 hq
              refine lv_iload_n hx hb dX4_worst_80 rfl (lv_at hl 2 rfl) ?_
              refine lv_if_ne (tgt := 89) hx hb dX4_worst_81 (by decide) (fun c_19 => ?_) (fun c_19 => ?_)
              · have hq := fw_if c_19 hq
                refine lv_iload_n hx hb dX4_worst_89 rfl (lv_at hl 2 rfl) ?_
                refine lv_iconst (v := (1 : Int32)) hx hb dX4_worst_90 (by decide) ?_
                refine lv_icmp_ne (tgt := 103) hx hb dX4_worst_91 (by decide) (fun c_20 => ?_) (fun c_20 => ?_)
                · have hq := fw_if c_20 hq
                  refine lv_iload_n hx hb dX4_worst_103 rfl (lv_at hl 3 rfl) ?_
                  refine lv_istore_n (lv' := [(2, .int x2), (4, .int ((r_10 * r_12) - (r_14 * r_16))), (0, .ref (q 0)), (1, .int x1), (3, .int x3)]) hx hb dX4_worst_104 rfl hl (by decide) rfl (fun ls hl => ?_)
                  refine lv_iinc (v := (x3 + (2 : Int32))) (lv' := [(3, .int (x3 + (2 : Int32))), (2, .int x2), (4, .int ((r_10 * r_12) - (r_14 * r_16))), (0, .ref (q 0)), (1, .int x1)]) hx hb dX4_worst_105 hl (k := 4) rfl rfl (by decide) rfl (fun ls hl => ?_)
                  refine lv_goto (tgt := 16) hx hb dX4_worst_108 (by decide) ?_
                  exact ih x2 (x3 + (2 : Int32)) H locs ls (hwI _ (Option.some.inj hq).symm) hP hD hS (lv_sub hl [3, 4, 1, 0] rfl)
                · have hq := fw_it c_20 hq
                  refine lv_iload hx hb dX4_worst_94 (lv_at hl 0 rfl) ?_
                  refine lv_if_le (tgt := 103) hx hb dX4_worst_96 (by decide) (fun c_21 => ?_) (fun c_21 => ?_)
                  · have hq := fw_it c_21 hq
                    refine lv_iload_n hx hb dX4_worst_103 rfl (lv_at hl 3 rfl) ?_
                    refine lv_istore_n (lv' := [(2, .int x2), (4, .int ((r_10 * r_12) - (r_14 * r_16))), (0, .ref (q 0)), (1, .int x1), (3, .int x3)]) hx hb dX4_worst_104 rfl hl (by decide) rfl (fun ls hl => ?_)
                    refine lv_iinc (v := (x3 + (2 : Int32))) (lv' := [(3, .int (x3 + (2 : Int32))), (2, .int x2), (4, .int ((r_10 * r_12) - (r_14 * r_16))), (0, .ref (q 0)), (1, .int x1)]) hx hb dX4_worst_105 hl (k := 4) rfl rfl (by decide) rfl (fun ls hl => ?_)
                    refine lv_goto (tgt := 16) hx hb dX4_worst_108 (by decide) ?_
                    exact ih x2 (x3 + (2 : Int32)) H locs ls (hwI _ (Option.some.inj hq).symm) hP hD hS (lv_sub hl [3, 4, 1, 0] rfl)
                  · have hq := fw_if c_21 hq
                    refine lv_iload_n hx hb dX4_worst_99 rfl (lv_at hl 4 rfl) ?_
                    refine lv_goto (tgt := 104) hx hb dX4_worst_100 (by decide) ?_
                    refine lv_istore_n (lv' := [(2, .int x3), (4, .int ((r_10 * r_12) - (r_14 * r_16))), (0, .ref (q 0)), (1, .int x1), (3, .int x3)]) hx hb dX4_worst_104 rfl hl (by decide) rfl (fun ls hl => ?_)
                    refine lv_iinc (v := (x3 + (2 : Int32))) (lv' := [(3, .int (x3 + (2 : Int32))), (2, .int x3), (4, .int ((r_10 * r_12) - (r_14 * r_16))), (0, .ref (q 0)), (1, .int x1)]) hx hb dX4_worst_105 hl (k := 4) rfl rfl (by decide) rfl (fun ls hl => ?_)
                    refine lv_goto (tgt := 16) hx hb dX4_worst_108 (by decide) ?_
                    exact ih x3 (x3 + (2 : Int32)) H locs ls (hwI _ (Option.some.inj hq).symm) hP hD hS (lv_sub hl [3, 4, 1, 0] rfl)
              · have hq := fw_it c_19 hq
                refine lv_iload hx hb dX4_worst_84 (lv_at hl 0 rfl) ?_
                refine lv_if_lt (tgt := 99) hx hb dX4_worst_86 (by decide) (fun c_22 => ?_) (fun c_22 => ?_)
                · have hq := fw_it c_22 hq
                  refine lv_iload_n hx hb dX4_worst_99 rfl (lv_at hl 4 rfl) ?_
                  refine lv_goto (tgt := 104) hx hb dX4_worst_100 (by decide) ?_
                  refine lv_istore_n (lv' := [(2, .int x3), (4, .int ((r_10 * r_12) - (r_14 * r_16))), (0, .ref (q 0)), (1, .int x1), (3, .int x3)]) hx hb dX4_worst_104 rfl hl (by decide) rfl (fun ls hl => ?_)
                  refine lv_iinc (v := (x3 + (2 : Int32))) (lv' := [(3, .int (x3 + (2 : Int32))), (2, .int x3), (4, .int ((r_10 * r_12) - (r_14 * r_16))), (0, .ref (q 0)), (1, .int x1)]) hx hb dX4_worst_105 hl (k := 4) rfl rfl (by decide) rfl (fun ls hl => ?_)
                  refine lv_goto (tgt := 16) hx hb dX4_worst_108 (by decide) ?_
                  exact ih x3 (x3 + (2 : Int32)) H locs ls (hwI _ (Option.some.inj hq).symm) hP hD hS (lv_sub hl [3, 4, 1, 0] rfl)
                · have hq := fw_if c_22 hq
                  refine lv_iload_n hx hb dX4_worst_89 rfl (lv_at hl 2 rfl) ?_
                  refine lv_iconst (v := (1 : Int32)) hx hb dX4_worst_90 (by decide) ?_
                  refine lv_icmp_ne (tgt := 103) hx hb dX4_worst_91 (by decide) (fun c_23 => ?_) (fun c_23 => ?_)
                  · have hq := fw_if c_23 hq
                    refine lv_iload_n hx hb dX4_worst_103 rfl (lv_at hl 3 rfl) ?_
                    refine lv_istore_n (lv' := [(2, .int x2), (4, .int ((r_10 * r_12) - (r_14 * r_16))), (0, .ref (q 0)), (1, .int x1), (3, .int x3)]) hx hb dX4_worst_104 rfl hl (by decide) rfl (fun ls hl => ?_)
                    refine lv_iinc (v := (x3 + (2 : Int32))) (lv' := [(3, .int (x3 + (2 : Int32))), (2, .int x2), (4, .int ((r_10 * r_12) - (r_14 * r_16))), (0, .ref (q 0)), (1, .int x1)]) hx hb dX4_worst_105 hl (k := 4) rfl rfl (by decide) rfl (fun ls hl => ?_)
                    refine lv_goto (tgt := 16) hx hb dX4_worst_108 (by decide) ?_
                    exact ih x2 (x3 + (2 : Int32)) H locs ls (hwI _ (Option.some.inj hq).symm) hP hD hS (lv_sub hl [3, 4, 1, 0] rfl)
                  · have hq := fw_it c_23 hq
                    refine lv_iload hx hb dX4_worst_94 (lv_at hl 0 rfl) ?_
                    refine lv_if_le (tgt := 103) hx hb dX4_worst_96 (by decide) (fun c_24 => ?_) (fun c_24 => ?_)
                    · have hq := fw_it c_24 hq
                      refine lv_iload_n hx hb dX4_worst_103 rfl (lv_at hl 3 rfl) ?_
                      refine lv_istore_n (lv' := [(2, .int x2), (4, .int ((r_10 * r_12) - (r_14 * r_16))), (0, .ref (q 0)), (1, .int x1), (3, .int x3)]) hx hb dX4_worst_104 rfl hl (by decide) rfl (fun ls hl => ?_)
                      refine lv_iinc (v := (x3 + (2 : Int32))) (lv' := [(3, .int (x3 + (2 : Int32))), (2, .int x2), (4, .int ((r_10 * r_12) - (r_14 * r_16))), (0, .ref (q 0)), (1, .int x1)]) hx hb dX4_worst_105 hl (k := 4) rfl rfl (by decide) rfl (fun ls hl => ?_)
                      refine lv_goto (tgt := 16) hx hb dX4_worst_108 (by decide) ?_
                      exact ih x2 (x3 + (2 : Int32)) H locs ls (hwI _ (Option.some.inj hq).symm) hP hD hS (lv_sub hl [3, 4, 1, 0] rfl)
                    · have hq := fw_if c_24 hq
                      refine lv_iload_n hx hb dX4_worst_99 rfl (lv_at hl 4 rfl) ?_
                      refine lv_goto (tgt := 104) hx hb dX4_worst_100 (by decide) ?_
                      refine lv_istore_n (lv' := [(2, .int x3), (4, .int ((r_10 * r_12) - (r_14 * r_16))), (0, .ref (q 0)), (1, .int x1), (3, .int x3)]) hx hb dX4_worst_104 rfl hl (by decide) rfl (fun ls hl => ?_)
                      refine lv_iinc (v := (x3 + (2 : Int32))) (lv' := [(3, .int (x3 + (2 : Int32))), (2, .int x3), (4, .int ((r_10 * r_12) - (r_14 * r_16))), (0, .ref (q 0)), (1, .int x1)]) hx hb dX4_worst_105 hl (k := 4) rfl rfl (by decide) rfl (fun ls hl => ?_)
                      refine lv_goto (tgt := 16) hx hb dX4_worst_108 (by decide) ?_
                      exact ih x3 (x3 + (2 : Int32)) H locs ls (hwI _ (Option.some.inj hq).symm) hP hD hS (lv_sub hl [3, 4, 1, 0] rfl)
          · have hq := fw_it c_9 hq
            refine lv_iconst (v := (0 : Int32)) hx hb dX4_worst_42 (by decide) ?_
            refine lv_goto (tgt := 73) hx hb dX4_worst_43 (by decide) ?_
            refine lv_istore (lv' := [(4, .int (0 : Int32)), (0, .ref (q 0)), (1, .int x1), (2, .int x2), (3, .int x3)]) hx hb dX4_worst_73 hl (by decide) rfl (fun ls hl => ?_)
            refine lv_iload_n hx hb dX4_worst_75 rfl (lv_at hl 3 rfl) ?_
            refine lv_iconst (v := (-1 : Int32)) hx hb dX4_worst_76 (by decide) ?_
            refine lv_icmp_eq (tgt := 99) hx hb dX4_worst_77 (by decide) (fun c_25 => ?_) (fun c_25 => ?_)
            · have hq := fw_it c_25 hq
              refine lv_iload_n hx hb dX4_worst_99 rfl (lv_at hl 4 rfl) ?_
              refine lv_goto (tgt := 104) hx hb dX4_worst_100 (by decide) ?_
              refine lv_istore_n (lv' := [(2, .int x3), (4, .int (0 : Int32)), (0, .ref (q 0)), (1, .int x1), (3, .int x3)]) hx hb dX4_worst_104 rfl hl (by decide) rfl (fun ls hl => ?_)
              refine lv_iinc (v := (x3 + (2 : Int32))) (lv' := [(3, .int (x3 + (2 : Int32))), (2, .int x3), (4, .int (0 : Int32)), (0, .ref (q 0)), (1, .int x1)]) hx hb dX4_worst_105 hl (k := 4) rfl rfl (by decide) rfl (fun ls hl => ?_)
              refine lv_goto (tgt := 16) hx hb dX4_worst_108 (by decide) ?_
              exact ih x3 (x3 + (2 : Int32)) H locs ls (hwI _ (Option.some.inj hq).symm) hP hD hS (lv_sub hl [3, 4, 1, 0] rfl)
            · have hq := fw_if c_25 hq
              refine lv_iload_n hx hb dX4_worst_80 rfl (lv_at hl 2 rfl) ?_
              refine lv_if_ne (tgt := 89) hx hb dX4_worst_81 (by decide) (fun c_26 => ?_) (fun c_26 => ?_)
              · have hq := fw_if c_26 hq
                refine lv_iload_n hx hb dX4_worst_89 rfl (lv_at hl 2 rfl) ?_
                refine lv_iconst (v := (1 : Int32)) hx hb dX4_worst_90 (by decide) ?_
                refine lv_icmp_ne (tgt := 103) hx hb dX4_worst_91 (by decide) (fun c_27 => ?_) (fun c_27 => ?_)
                · have hq := fw_if c_27 hq
                  refine lv_iload_n hx hb dX4_worst_103 rfl (lv_at hl 3 rfl) ?_
                  refine lv_istore_n (lv' := [(2, .int x2), (4, .int (0 : Int32)), (0, .ref (q 0)), (1, .int x1), (3, .int x3)]) hx hb dX4_worst_104 rfl hl (by decide) rfl (fun ls hl => ?_)
                  refine lv_iinc (v := (x3 + (2 : Int32))) (lv' := [(3, .int (x3 + (2 : Int32))), (2, .int x2), (4, .int (0 : Int32)), (0, .ref (q 0)), (1, .int x1)]) hx hb dX4_worst_105 hl (k := 4) rfl rfl (by decide) rfl (fun ls hl => ?_)
                  refine lv_goto (tgt := 16) hx hb dX4_worst_108 (by decide) ?_
                  exact ih x2 (x3 + (2 : Int32)) H locs ls (hwI _ (Option.some.inj hq).symm) hP hD hS (lv_sub hl [3, 4, 1, 0] rfl)
                · have hq := fw_it c_27 hq
                  refine lv_iload hx hb dX4_worst_94 (lv_at hl 0 rfl) ?_
                  refine lv_if_le (tgt := 103) hx hb dX4_worst_96 (by decide) (fun c_28 => ?_) (fun c_28 => ?_)
                  · have hq := fw_it c_28 hq
                    refine lv_iload_n hx hb dX4_worst_103 rfl (lv_at hl 3 rfl) ?_
                    refine lv_istore_n (lv' := [(2, .int x2), (4, .int (0 : Int32)), (0, .ref (q 0)), (1, .int x1), (3, .int x3)]) hx hb dX4_worst_104 rfl hl (by decide) rfl (fun ls hl => ?_)
                    refine lv_iinc (v := (x3 + (2 : Int32))) (lv' := [(3, .int (x3 + (2 : Int32))), (2, .int x2), (4, .int (0 : Int32)), (0, .ref (q 0)), (1, .int x1)]) hx hb dX4_worst_105 hl (k := 4) rfl rfl (by decide) rfl (fun ls hl => ?_)
                    refine lv_goto (tgt := 16) hx hb dX4_worst_108 (by decide) ?_
                    exact ih x2 (x3 + (2 : Int32)) H locs ls (hwI _ (Option.some.inj hq).symm) hP hD hS (lv_sub hl [3, 4, 1, 0] rfl)
                  · have hq := fw_if c_28 hq
                    refine lv_iload_n hx hb dX4_worst_99 rfl (lv_at hl 4 rfl) ?_
                    refine lv_goto (tgt := 104) hx hb dX4_worst_100 (by decide) ?_
                    refine lv_istore_n (lv' := [(2, .int x3), (4, .int (0 : Int32)), (0, .ref (q 0)), (1, .int x1), (3, .int x3)]) hx hb dX4_worst_104 rfl hl (by decide) rfl (fun ls hl => ?_)
                    refine lv_iinc (v := (x3 + (2 : Int32))) (lv' := [(3, .int (x3 + (2 : Int32))), (2, .int x3), (4, .int (0 : Int32)), (0, .ref (q 0)), (1, .int x1)]) hx hb dX4_worst_105 hl (k := 4) rfl rfl (by decide) rfl (fun ls hl => ?_)
                    refine lv_goto (tgt := 16) hx hb dX4_worst_108 (by decide) ?_
                    exact ih x3 (x3 + (2 : Int32)) H locs ls (hwI _ (Option.some.inj hq).symm) hP hD hS (lv_sub hl [3, 4, 1, 0] rfl)
              · have hq := fw_it c_26 hq
                refine lv_iload hx hb dX4_worst_84 (lv_at hl 0 rfl) ?_
                refine lv_if_lt (tgt := 99) hx hb dX4_worst_86 (by decide) (fun c_29 => ?_) (fun c_29 => ?_)
                · have hq := fw_it c_29 hq
                  refine lv_iload_n hx hb dX4_worst_99 rfl (lv_at hl 4 rfl) ?_
                  refine lv_goto (tgt := 104) hx hb dX4_worst_100 (by decide) ?_
                  refine lv_istore_n (lv' := [(2, .int x3), (4, .int (0 : Int32)), (0, .ref (q 0)), (1, .int x1), (3, .int x3)]) hx hb dX4_worst_104 rfl hl (by decide) rfl (fun ls hl => ?_)
                  refine lv_iinc (v := (x3 + (2 : Int32))) (lv' := [(3, .int (x3 + (2 : Int32))), (2, .int x3), (4, .int (0 : Int32)), (0, .ref (q 0)), (1, .int x1)]) hx hb dX4_worst_105 hl (k := 4) rfl rfl (by decide) rfl (fun ls hl => ?_)
                  refine lv_goto (tgt := 16) hx hb dX4_worst_108 (by decide) ?_
                  exact ih x3 (x3 + (2 : Int32)) H locs ls (hwI _ (Option.some.inj hq).symm) hP hD hS (lv_sub hl [3, 4, 1, 0] rfl)
                · have hq := fw_if c_29 hq
                  refine lv_iload_n hx hb dX4_worst_89 rfl (lv_at hl 2 rfl) ?_
                  refine lv_iconst (v := (1 : Int32)) hx hb dX4_worst_90 (by decide) ?_
                  refine lv_icmp_ne (tgt := 103) hx hb dX4_worst_91 (by decide) (fun c_30 => ?_) (fun c_30 => ?_)
                  · have hq := fw_if c_30 hq
                    refine lv_iload_n hx hb dX4_worst_103 rfl (lv_at hl 3 rfl) ?_
                    refine lv_istore_n (lv' := [(2, .int x2), (4, .int (0 : Int32)), (0, .ref (q 0)), (1, .int x1), (3, .int x3)]) hx hb dX4_worst_104 rfl hl (by decide) rfl (fun ls hl => ?_)
                    refine lv_iinc (v := (x3 + (2 : Int32))) (lv' := [(3, .int (x3 + (2 : Int32))), (2, .int x2), (4, .int (0 : Int32)), (0, .ref (q 0)), (1, .int x1)]) hx hb dX4_worst_105 hl (k := 4) rfl rfl (by decide) rfl (fun ls hl => ?_)
                    refine lv_goto (tgt := 16) hx hb dX4_worst_108 (by decide) ?_
                    exact ih x2 (x3 + (2 : Int32)) H locs ls (hwI _ (Option.some.inj hq).symm) hP hD hS (lv_sub hl [3, 4, 1, 0] rfl)
                  · have hq := fw_it c_30 hq
                    refine lv_iload hx hb dX4_worst_94 (lv_at hl 0 rfl) ?_
                    refine lv_if_le (tgt := 103) hx hb dX4_worst_96 (by decide) (fun c_31 => ?_) (fun c_31 => ?_)
                    · have hq := fw_it c_31 hq
                      refine lv_iload_n hx hb dX4_worst_103 rfl (lv_at hl 3 rfl) ?_
                      refine lv_istore_n (lv' := [(2, .int x2), (4, .int (0 : Int32)), (0, .ref (q 0)), (1, .int x1), (3, .int x3)]) hx hb dX4_worst_104 rfl hl (by decide) rfl (fun ls hl => ?_)
                      refine lv_iinc (v := (x3 + (2 : Int32))) (lv' := [(3, .int (x3 + (2 : Int32))), (2, .int x2), (4, .int (0 : Int32)), (0, .ref (q 0)), (1, .int x1)]) hx hb dX4_worst_105 hl (k := 4) rfl rfl (by decide) rfl (fun ls hl => ?_)
                      refine lv_goto (tgt := 16) hx hb dX4_worst_108 (by decide) ?_
                      exact ih x2 (x3 + (2 : Int32)) H locs ls (hwI _ (Option.some.inj hq).symm) hP hD hS (lv_sub hl [3, 4, 1, 0] rfl)
                    · have hq := fw_if c_31 hq
                      refine lv_iload_n hx hb dX4_worst_99 rfl (lv_at hl 4 rfl) ?_
                      refine lv_goto (tgt := 104) hx hb dX4_worst_100 (by decide) ?_
                      refine lv_istore_n (lv' := [(2, .int x3), (4, .int (0 : Int32)), (0, .ref (q 0)), (1, .int x1), (3, .int x3)]) hx hb dX4_worst_104 rfl hl (by decide) rfl (fun ls hl => ?_)
                      refine lv_iinc (v := (x3 + (2 : Int32))) (lv' := [(3, .int (x3 + (2 : Int32))), (2, .int x3), (4, .int (0 : Int32)), (0, .ref (q 0)), (1, .int x1)]) hx hb dX4_worst_105 hl (k := 4) rfl rfl (by decide) rfl (fun ls hl => ?_)
                      refine lv_goto (tgt := 16) hx hb dX4_worst_108 (by decide) ?_
                      exact ih x3 (x3 + (2 : Int32)) H locs ls (hwI _ (Option.some.inj hq).symm) hP hD hS (lv_sub hl [3, 4, 1, 0] rfl)
  have hq := hz
  dsimp only [pX4_worst] at hq
  have hl := lv_entry (([.ref (q 0), .int y1] : List Value)) (n := 5) (Nat.le_of_ble_eq_true rfl)
  rw [lg_entry_eq]
  generalize (lg_sl (([.ref (q 0), .int y1] : List Value)) ++ List.replicate (5 - (lg_sl (([.ref (q 0), .int y1] : List Value))).length) Slot.unset).toArray = ls at hl ⊢
  have hl : lv_has ls 5 [(0, .ref (q 0)), (1, .int y1)] := hl
  obtain ⟨H, hHe⟩ : ∃ H : Heap, H = s.heap := ⟨_, rfl⟩
  obtain ⟨locs, hLe⟩ : ∃ L : List Loc, L = [] := ⟨_, rfl⟩
  have hP : va_P (dC, dI) vwCl (wM cI cJ q  nn0 ln0 sa0 sb0 wg0 kt0 fr0 pt0 wl0 tn0 up0 lo0) H := by rw [hHe]; exact hP
  have hS : va_S A s.heap H locs := by rw [hHe, hLe]; exact va_S.rf
  show W p l e (headSpec wsX4_worst ({ frames := 1, cells := 0, slots := 0, locals := 25 })).room s m ([.ref (q 0), .int y1] : List Value).toArray below meth c s.heap [] 0 0 (MQ below (va_Qi (fun (r : Int32) (u : Unit) => pX4_worst nn0 ln0 sa0 sb0 wg0 kt0 y1 = some r) (fun u t => fw_B (dC, dI) A (wM cI cJ q  nn0 ln0 sa0 sb0 wg0 kt0 fr0 pt0 wl0 tn0 up0 lo0) t) A) ([.ref (q 0), .int y1] : List Value).toArray s 0 0 A) (F0 m 0 ls [])
  rw [← hHe, ← hLe]
  refine lv_iload_n hx hb dX4_worst_0 rfl (lv_at hl 1 rfl) ?_
  refine lv_iconst (v := (0 : Int32)) hx hb dX4_worst_1 (by decide) ?_
  refine lv_iconst (v := (1 : Int32)) hx hb dX4_worst_2 (by decide) ?_
  have hPc := hP.sub (ws' := (w0 cI cJ   )) [] rfl
  have hDc := hD.sub (ws' := (w0 cI cJ   )) [] (by decide) rfl
  refine fw_ci (wr := [((q 0), .inr (4, [.int nn0, .int ln0, .ref (q 1), .ref (q 2), .ref (q 3), .ref (q 4), .ref (q 5), .ref (q 6), .ref (q 7), .ref (q 8), .long up0, .long lo0])), ((q 1), .inl (cI, 12, .inl sa0)), ((q 2), .inl (cI, 12, .inl sb0)), ((q 3), .inl (cI, 12, .inl wg0)), ((q 4), .inl (cI, 12, .inl kt0)), ((q 5), .inl (cI, 12, .inl fr0)), ((q 6), .inl (cI, 7, .inl pt0)), ((q 7), .inl (cI, 49, .inl wl0)), ((q 8), .inl (cI, 49, .inl tn0))]) (w2 := fun u => (wM cI cJ q  nn0 ln0 sa0 sb0 wg0 kt0 fr0 pt0 wl0 tn0 up0 lo0)) [] [0, 1, 2, 3, 4, 5, 6, 7, 8] [0, 1, 2, 3, 4, 5, 6, 7, 8] (va_runS (As := [.int y1, .int (0 : Int32), .int (1 : Int32)]) (rest := []) ⟨hx, hb, hml, hown, hts⟩ (kX4_in l dC dI cI cJ  H.size   y1 (0 : Int32) (1 : Int32) (fw_be hq)) (va_cwS 3 hts gX4_worst_X4_in rfl rfl rfl (by decide +kernel) ⟨Nat.le_of_ble_eq_true rfl, Nat.le_of_ble_eq_true rfl⟩) ⟨fw_blind, fun U hU hW => fw_pre hPc hK hDc hN hU hW⟩ rfl rfl hl.1 rfl (lv_room (Nat.le_of_ble_eq_true rfl)) dX4_worst_3 ⟨Nat.zero_le _, Nat.zero_le _⟩) hP hD hS hA rfl rfl (by decide) (by decide) (by decide) (fun _ => rfl) (fun r_1 u H locs hw hP hD hS => ?_)
  obtain ⟨hw, n_3⟩ := hw
  have hq := fw_bs hw hq
  try dsimp only at hq
  refine lv_if_ne (tgt := 12) hx hb dX4_worst_6 (by decide) (fun c_4 => ?_) (fun c_4 => ?_)
  · have hq := fw_if c_4 hq
    refine lv_iconst (v := (-1 : Int32)) hx hb dX4_worst_12 (by decide) ?_
    refine lv_istore_n (lv' := [(2, .int (-1 : Int32)), (0, .ref (q 0)), (1, .int y1)]) hx hb dX4_worst_13 rfl hl (by decide) rfl (fun ls hl => ?_)
    refine lv_iconst (v := (1 : Int32)) hx hb dX4_worst_14 (by decide) ?_
    refine lv_istore_n (lv' := [(3, .int (1 : Int32)), (2, .int (-1 : Int32)), (0, .ref (q 0)), (1, .int y1)]) hx hb dX4_worst_15 rfl hl (by decide) rfl (fun ls hl => ?_)
    obtain ⟨e_34, hw, hq⟩ := fw_bb hq
    refine L16 y1 e_34 (fun x2_32 x3_33 H locs ls he hP hD hS hl => ?_) fw_N (-1 : Int32) (1 : Int32) H locs ls hw hP hD hS (lv_sub hl [2, 3, 1, 0] rfl)
    subst he
    try dsimp only at hq
    refine lv_iload_n hx hb dX4_worst_111 rfl (lv_at hl 2 rfl) ?_
    exact W.iret (v := x2_32) hx hb hr (fun t ht hW => ⟨⟨x2_32, (), rfl, hz.trans hq.symm, by rw [ht]; exact hP, hD⟩, hS.F ht⟩) hS.2.2 dX4_worst_112
  · have hq := fw_it c_4 hq
    refine lv_bipush (v := (-3 : Int32)) hx hb dX4_worst_9 (by decide) ?_
    exact W.iret (v := (-3 : Int32)) hx hb hr (fun t ht hW => ⟨⟨(-3 : Int32), (), rfl, hz.trans hq.symm, by rw [ht]; exact hP, hD⟩, hS.F ht⟩) hS.2.2 dX4_worst_11
set_option maxHeartbeats 4000000 in
set_option maxRecDepth 100000 in
theorem kX4_promise (l : Launch) (dC : Nat → ClassId) (dI : Nat → Nat → Nat) (cI cJ : ClassId) (q : Nat → Nat) (sz : Nat)  (nn0 : Int32) (ln0 : Int32) (sa0 : Nat → Int32) (sb0 : Nat → Int32) (wg0 : Nat → Int32) (kt0 : Nat → Int32) (fr0 : Nat → Int32) (pt0 : Nat → Int32) (wl0 : Nat → Int32) (tn0 : Nat → Int32) (up0 : Int64) (lo0 : Int64) (y1 : Int32) (y2 : Int32) (hd : ∃ z, pX4_promise nn0 ln0 sa0 sb0 wg0 kt0 y1 y2 = some z) : Met l yX4_promise wsX4_promise ({ frames := 1, cells := 0, slots := 0, locals := 25 }) (fw_Pc (dC, dI) (fw_tys cI cJ) (wM cI cJ q  nn0 ln0 sa0 sb0 wg0 kt0 fr0 pt0 wl0 tn0 up0 lo0) ([.ref (q 0), .int y1, .int y2] : List Value) sz) (va_Qi (fun (r : Int32) (u : Unit) => pX4_promise nn0 ln0 sa0 sb0 wg0 kt0 y1 y2 = some r) (fun u t => fw_B (dC, dI) (va_A (wM cI cJ q  nn0 ln0 sa0 sb0 wg0 kt0 fr0 pt0 wl0 tn0 up0 lo0) sz) (wM cI cJ q  nn0 ln0 sa0 sb0 wg0 kt0 fr0 pt0 wl0 tn0 up0 lo0) t) (va_A (wM cI cJ q  nn0 ln0 sa0 sb0 wg0 kt0 fr0 pt0 wl0 tn0 up0 lo0) sz)) 0 0 (va_A (wM cI cJ q  nn0 ln0 sa0 sb0 wg0 kt0 fr0 pt0 wl0 tn0 up0 lo0) sz) := by
  obtain ⟨z, hz⟩ := hd
  refine Met.ofW (cc := cX4_promise) (maxL := 6) (ret := (some .int)) (by decide) rfl ?_
  intro p e s m args below meth c s₁ B hml hv
  obtain ⟨rfl, hsz, hP, hK, hD0, hN⟩ := hv
  have hx := B.exec
  have hb := B.bytes
  have hr := B.returns
  have hts := atoms_spec (ws := wsX4_promise) B.pre
  have hown : s.vm.findClass RX4 = some m.cls := findClass_of_methodNamed B.named
  have hlocks := B.notSynchronized
  subst hsz
  have hD := hD0.self (sz := s.heap.size)
  generalize hAe : va_A (wM cI cJ q  nn0 ln0 sa0 sb0 wg0 kt0 fr0 pt0 wl0 tn0 up0 lo0) s.heap.size = A at hD ⊢
  have hA : ∀ q : Nat, s.heap.size ≤ q → A q := fun q h => by rw [← hAe]; exact Or.inr h
  have hinX4 : ∀ w ∈ u_ws RX4 TX4 12, w ∈ wsX4_promise := by decide +kernel
  have hf7 := hts (.fieldLink RX4 7 "FewLinesModel" "n" "I") (by decide +kernel)
  have L27 : ∀ (x1 : Int32) (x2 : Int32) (e9 : Int32 × Int32), (∀ (x3' : Int32) (x4' : Int32) (H : Heap) (locs : List Loc) (ls : Array Slot), e9 = (x3', x4') → va_P (dC, dI) vwCl (wM cI cJ q  nn0 ln0 sa0 sb0 wg0 kt0 fr0 pt0 wl0 tn0 up0 lo0) H → va_D A (wM cI cJ q  nn0 ln0 sa0 sb0 wg0 kt0 fr0 pt0 wl0 tn0 up0 lo0) → va_S A s.heap H locs → lv_has ls 6 [(0, .ref (q 0)), (1, .int x1), (2, .int x2), (3, .int x3'), (4, .int x4')] → W p l e (headSpec wsX4_promise ({ frames := 1, cells := 0, slots := 0, locals := 25 })).room s m ([.ref (q 0), .int y1, .int y2] : List Value).toArray below meth c H locs 0 0 (MQ below (va_Qi (fun (r : Int32) (u : Unit) => pX4_promise nn0 ln0 sa0 sb0 wg0 kt0 y1 y2 = some r) (fun u t => fw_B (dC, dI) A (wM cI cJ q  nn0 ln0 sa0 sb0 wg0 kt0 fr0 pt0 wl0 tn0 up0 lo0) t) A) ([.ref (q 0), .int y1, .int y2] : List Value).toArray s 0 0 A) (F0 m 99 ls [])) → ∀ (n9 : Nat) (x3 : Int32) (x4 : Int32) (H : Heap) (locs : List Loc) (ls : Array Slot), fw_wh (pX4_promise_27 x1 x2 nn0 ln0 sa0 sb0 wg0 kt0) n9 (x3, x4) = some e9 → va_P (dC, dI) vwCl (wM cI cJ q  nn0 ln0 sa0 sb0 wg0 kt0 fr0 pt0 wl0 tn0 up0 lo0) H → va_D A (wM cI cJ q  nn0 ln0 sa0 sb0 wg0 kt0 fr0 pt0 wl0 tn0 up0 lo0) → va_S A s.heap H locs → lv_has ls 6 [(0, .ref (q 0)), (1, .int x1), (2, .int x2), (3, .int x3), (4, .int x4)] → W p l e (headSpec wsX4_promise ({ frames := 1, cells := 0, slots := 0, locals := 25 })).room s m ([.ref (q 0), .int y1, .int y2] : List Value).toArray below meth c H locs 0 0 (MQ below (va_Qi (fun (r : Int32) (u : Unit) => pX4_promise nn0 ln0 sa0 sb0 wg0 kt0 y1 y2 = some r) (fun u t => fw_B (dC, dI) A (wM cI cJ q  nn0 ln0 sa0 sb0 wg0 kt0 fr0 pt0 wl0 tn0 up0 lo0) t) A) ([.ref (q 0), .int y1, .int y2] : List Value).toArray s 0 0 A) (F0 m 27 ls []) := by
    intro x1 x2 e9 hkk n9
    induction n9 with
    | zero => exact fun _ _ H locs ls hq => (fw_wh0 hq).elim
    | succ n9 ih =>
      intro x3 x4 H locs ls hq hP hD hS hl
      obtain ⟨w9, hq, hwI, hwE⟩ := fw_wh1 hq
      dsimp only [pX4_promise_27] at hq
      refine lv_iload hx hb dX4_promise_27 (lv_at hl 4 rfl) ?_
      refine lv_iconst (v := (1 : Int32)) hx hb dX4_promise_29 (by decide) ?_
      refine lv_aload_n hx hb dX4_promise_30 rfl (lv_at hl 0 rfl) ?_
      refine va_get (D := (dC, dI)) (ci := 4) (v := .int nn0) (C := RX4) (T := TX4) (N := 12) hx hb hts hinX4 hown hK hP 0 rfl rfl 0 (by decide) hf7 (fun _ h9 => h9) rfl dX4_promise_31 ?_
      refine lv_ishl hx hb dX4_promise_34 ?_
      refine lv_iconst (v := (1 : Int32)) hx hb dX4_promise_35 (by decide) ?_
      refine lv_isub hx hb dX4_promise_36 ?_
      refine lv_icmp_ge (tgt := 99) hx hb dX4_promise_37 (by decide) (fun c_9 => ?_) (fun c_9 => ?_)
      · have hq := fw_it c_9 hq
        exact hkk x3 x4 H locs ls (hwE _ (Option.some.inj hq).symm) hP hD hS (lv_sub hl [0, 1, 2, 3, 4] rfl)
      · have hq := fw_if c_9 hq
        refine lv_iload_n hx hb dX4_promise_40 rfl (lv_at hl 2 rfl) ?_
        refine lv_aload_n hx hb dX4_promise_41 rfl (lv_at hl 0 rfl) ?_
        refine lv_iload hx hb dX4_promise_42 (lv_at hl 4 rfl) ?_
        refine lv_iconst (v := (1 : Int32)) hx hb dX4_promise_44 (by decide) ?_
        have hPc := hP.sub (ws' := (wM cI cJ q  nn0 ln0 sa0 sb0 wg0 kt0 fr0 pt0 wl0 tn0 up0 lo0)) [0, 1, 2, 3, 4, 5, 6, 7, 8] rfl
        have hDc := hD.sub (ws' := (wM cI cJ q  nn0 ln0 sa0 sb0 wg0 kt0 fr0 pt0 wl0 tn0 up0 lo0)) [0, 1, 2, 3, 4, 5, 6, 7, 8] (by decide) rfl
        refine fw_ci (wr := []) (w2 := fun u => (wM cI cJ q  nn0 ln0 sa0 sb0 wg0 kt0 fr0 pt0 wl0 tn0 up0 lo0)) [0, 1, 2, 3, 4, 5, 6, 7, 8] [] [0, 1, 2, 3, 4, 5, 6, 7, 8] (va_runV (b := (q 0)) (As := [.int x4, .int (1 : Int32)]) (rest := [.int x2]) ⟨hx, hb, hml, hown, hts⟩ (kX4_cutOf l dC dI cI cJ q H.size  nn0 ln0 sa0 sb0 wg0 kt0 fr0 pt0 wl0 tn0 up0 lo0 x4 (1 : Int32) (fw_be hq)) (cwV 2 hts gX4_promise_X4_cutOf rfl rfl rfl (by decide +kernel) ⟨Nat.le_of_ble_eq_true rfl, Nat.le_of_ble_eq_true rfl⟩) ⟨fw_blind, va_recv hK hPc (ci := 4) (q0 := 0) rfl rfl, fun U hU hW => fw_pre hPc hK hDc hN hU hW⟩ rfl rfl hl.1 rfl (lv_room (Nat.le_of_ble_eq_true rfl)) dX4_promise_45 ⟨Nat.zero_le _, Nat.zero_le _⟩) hP hD hS hA rfl rfl (by decide) (by decide) (by decide) (fun _ => rfl) (fun r_10 u H locs hw hP hD hS => ?_)
        have hq := fw_bs hw hq
        try dsimp only at hq
        refine lv_imul hx hb dX4_promise_48 ?_
        refine lv_istore (lv' := [(5, .int (x2 * r_10)), (0, .ref (q 0)), (1, .int x1), (2, .int x2), (3, .int x3), (4, .int x4)]) hx hb dX4_promise_49 hl (by decide) rfl (fun ls hl => ?_)
        refine lv_iload_n hx hb dX4_promise_51 rfl (lv_at hl 4 rfl) ?_
        refine lv_if_eq (tgt := 91) hx hb dX4_promise_52 (by decide) (fun c_12 => ?_) (fun c_12 => ?_)
        · have hq := fw_it c_12 hq
          refine lv_iconst (v := (0 : Int32)) hx hb dX4_promise_91 (by decide) ?_
          refine lv_istore_n (lv' := [(3, .int (0 : Int32)), (5, .int (x2 * r_10)), (0, .ref (q 0)), (1, .int x1), (2, .int x2), (4, .int x4)]) hx hb dX4_promise_92 rfl hl (by decide) rfl (fun ls hl => ?_)
          refine lv_iinc (v := (x4 + (2 : Int32))) (lv' := [(4, .int (x4 + (2 : Int32))), (3, .int (0 : Int32)), (5, .int (x2 * r_10)), (0, .ref (q 0)), (1, .int x1), (2, .int x2)]) hx hb dX4_promise_93 hl (k := 5) rfl rfl (by decide) rfl (fun ls hl => ?_)
          refine lv_goto (tgt := 27) hx hb dX4_promise_96 (by decide) ?_
          exact ih (0 : Int32) (x4 + (2 : Int32)) H locs ls (hwI _ (Option.some.inj hq).symm) hP hD hS (lv_sub hl [3, 4, 5, 1, 0] rfl)
        · have hq := fw_if c_12 hq
          refine lv_iload hx hb dX4_promise_55 (lv_at hl 0 rfl) ?_
          refine lv_iload_n hx hb dX4_promise_57 rfl (lv_at hl 3 rfl) ?_
          refine lv_iload_n hx hb dX4_promise_58 rfl (lv_at hl 2 rfl) ?_
          refine lv_isub hx hb dX4_promise_59 ?_
          refine lv_aload_n hx hb dX4_promise_60 rfl (lv_at hl 1 rfl) ?_
          refine lv_iload hx hb dX4_promise_61 (lv_at hl 5 rfl) ?_
          refine lv_iconst (v := (0 : Int32)) hx hb dX4_promise_63 (by decide) ?_
          have hPc := hP.sub (ws' := (wM cI cJ q  nn0 ln0 sa0 sb0 wg0 kt0 fr0 pt0 wl0 tn0 up0 lo0)) [0, 1, 2, 3, 4, 5, 6, 7, 8] rfl
          have hDc := hD.sub (ws' := (wM cI cJ q  nn0 ln0 sa0 sb0 wg0 kt0 fr0 pt0 wl0 tn0 up0 lo0)) [0, 1, 2, 3, 4, 5, 6, 7, 8] (by decide) rfl
          refine fw_ci (wr := []) (w2 := fun u => (wM cI cJ q  nn0 ln0 sa0 sb0 wg0 kt0 fr0 pt0 wl0 tn0 up0 lo0)) [0, 1, 2, 3, 4, 5, 6, 7, 8] [] [0, 1, 2, 3, 4, 5, 6, 7, 8] (va_runV (b := (q 0)) (As := [.int x4, .int (0 : Int32)]) (rest := [.int (x2 - x1), .int (x2 * r_10)]) ⟨hx, hb, hml, hown, hts⟩ (kX4_cutOf l dC dI cI cJ q H.size  nn0 ln0 sa0 sb0 wg0 kt0 fr0 pt0 wl0 tn0 up0 lo0 x4 (0 : Int32) (fw_be hq)) (cwV 2 hts gX4_promise_X4_cutOf rfl rfl rfl (by decide +kernel) ⟨Nat.le_of_ble_eq_true rfl, Nat.le_of_ble_eq_true rfl⟩) ⟨fw_blind, va_recv hK hPc (ci := 4) (q0 := 0) rfl rfl, fun U hU hW => fw_pre hPc hK hDc hN hU hW⟩ rfl rfl hl.1 rfl (lv_room (Nat.le_of_ble_eq_true rfl)) dX4_promise_64 ⟨Nat.zero_le _, Nat.zero_le _⟩) hP hD hS hA rfl rfl (by decide) (by decide) (by decide) (fun _ => rfl) (fun r_13 u H locs hw hP hD hS => ?_)
          have hq := fw_bs hw hq
          try dsimp only at hq
          refine lv_imul hx hb dX4_promise_67 ?_
          refine lv_icmp_lt (tgt := 91) hx hb dX4_promise_68 (by decide) (fun c_15 => ?_) (fun c_15 => ?_)
          · have hq := fw_it c_15 hq
            refine lv_iconst (v := (0 : Int32)) hx hb dX4_promise_91 (by decide) ?_
            refine lv_istore_n (lv' := [(3, .int (0 : Int32)), (5, .int (x2 * r_10)), (0, .ref (q 0)), (1, .int x1), (2, .int x2), (4, .int x4)]) hx hb dX4_promise_92 rfl hl (by decide) rfl (fun ls hl => ?_)
            refine lv_iinc (v := (x4 + (2 : Int32))) (lv' := [(4, .int (x4 + (2 : Int32))), (3, .int (0 : Int32)), (5, .int (x2 * r_10)), (0, .ref (q 0)), (1, .int x1), (2, .int x2)]) hx hb dX4_promise_93 hl (k := 5) rfl rfl (by decide) rfl (fun ls hl => ?_)
            refine lv_goto (tgt := 27) hx hb dX4_promise_96 (by decide) ?_
            exact ih (0 : Int32) (x4 + (2 : Int32)) H locs ls (hwI _ (Option.some.inj hq).symm) hP hD hS (lv_sub hl [3, 4, 5, 1, 0] rfl)
          · have hq := fw_if c_15 hq
            refine lv_iload hx hb dX4_promise_71 (lv_at hl 0 rfl) ?_
            refine lv_iload_n hx hb dX4_promise_73 rfl (lv_at hl 3 rfl) ?_
            refine lv_iload_n hx hb dX4_promise_74 rfl (lv_at hl 2 rfl) ?_
            refine lv_iadd hx hb dX4_promise_75 ?_
            refine lv_aload_n hx hb dX4_promise_76 rfl (lv_at hl 1 rfl) ?_
            refine lv_iload hx hb dX4_promise_77 (lv_at hl 5 rfl) ?_
            refine lv_iconst (v := (0 : Int32)) hx hb dX4_promise_79 (by decide) ?_
            have hPc := hP.sub (ws' := (wM cI cJ q  nn0 ln0 sa0 sb0 wg0 kt0 fr0 pt0 wl0 tn0 up0 lo0)) [0, 1, 2, 3, 4, 5, 6, 7, 8] rfl
            have hDc := hD.sub (ws' := (wM cI cJ q  nn0 ln0 sa0 sb0 wg0 kt0 fr0 pt0 wl0 tn0 up0 lo0)) [0, 1, 2, 3, 4, 5, 6, 7, 8] (by decide) rfl
            refine fw_ci (wr := []) (w2 := fun u => (wM cI cJ q  nn0 ln0 sa0 sb0 wg0 kt0 fr0 pt0 wl0 tn0 up0 lo0)) [0, 1, 2, 3, 4, 5, 6, 7, 8] [] [0, 1, 2, 3, 4, 5, 6, 7, 8] (va_runV (b := (q 0)) (As := [.int x4, .int (0 : Int32)]) (rest := [.int (x2 + x1), .int (x2 * r_10)]) ⟨hx, hb, hml, hown, hts⟩ (kX4_cutOf l dC dI cI cJ q H.size  nn0 ln0 sa0 sb0 wg0 kt0 fr0 pt0 wl0 tn0 up0 lo0 x4 (0 : Int32) (fw_be hq)) (cwV 2 hts gX4_promise_X4_cutOf rfl rfl rfl (by decide +kernel) ⟨Nat.le_of_ble_eq_true rfl, Nat.le_of_ble_eq_true rfl⟩) ⟨fw_blind, va_recv hK hPc (ci := 4) (q0 := 0) rfl rfl, fun U hU hW => fw_pre hPc hK hDc hN hU hW⟩ rfl rfl hl.1 rfl (lv_room (Nat.le_of_ble_eq_true rfl)) dX4_promise_80 ⟨Nat.zero_le _, Nat.zero_le _⟩) hP hD hS hA rfl rfl (by decide) (by decide) (by decide) (fun _ => rfl) (fun r_16 u H locs hw hP hD hS => ?_)
            have hq := fw_bs hw hq
            try dsimp only at hq
            refine lv_imul hx hb dX4_promise_83 ?_
            refine lv_icmp_gt (tgt := 91) hx hb dX4_promise_84 (by decide) (fun c_18 => ?_) (fun c_18 => ?_)
            · have hq := fw_it c_18 hq
              refine lv_iconst (v := (0 : Int32)) hx hb dX4_promise_91 (by decide) ?_
              refine lv_istore_n (lv' := [(3, .int (0 : Int32)), (5, .int (x2 * r_10)), (0, .ref (q 0)), (1, .int x1), (2, .int x2), (4, .int x4)]) hx hb dX4_promise_92 rfl hl (by decide) rfl (fun ls hl => ?_)
              refine lv_iinc (v := (x4 + (2 : Int32))) (lv' := [(4, .int (x4 + (2 : Int32))), (3, .int (0 : Int32)), (5, .int (x2 * r_10)), (0, .ref (q 0)), (1, .int x1), (2, .int x2)]) hx hb dX4_promise_93 hl (k := 5) rfl rfl (by decide) rfl (fun ls hl => ?_)
              refine lv_goto (tgt := 27) hx hb dX4_promise_96 (by decide) ?_
              exact ih (0 : Int32) (x4 + (2 : Int32)) H locs ls (hwI _ (Option.some.inj hq).symm) hP hD hS (lv_sub hl [3, 4, 5, 1, 0] rfl)
            · have hq := fw_if c_18 hq
              refine lv_iconst (v := (1 : Int32)) hx hb dX4_promise_87 (by decide) ?_
              refine lv_goto (tgt := 92) hx hb dX4_promise_88 (by decide) ?_
              refine lv_istore_n (lv' := [(3, .int (1 : Int32)), (5, .int (x2 * r_10)), (0, .ref (q 0)), (1, .int x1), (2, .int x2), (4, .int x4)]) hx hb dX4_promise_92 rfl hl (by decide) rfl (fun ls hl => ?_)
              refine lv_iinc (v := (x4 + (2 : Int32))) (lv' := [(4, .int (x4 + (2 : Int32))), (3, .int (1 : Int32)), (5, .int (x2 * r_10)), (0, .ref (q 0)), (1, .int x1), (2, .int x2)]) hx hb dX4_promise_93 hl (k := 5) rfl rfl (by decide) rfl (fun ls hl => ?_)
              refine lv_goto (tgt := 27) hx hb dX4_promise_96 (by decide) ?_
              exact ih (1 : Int32) (x4 + (2 : Int32)) H locs ls (hwI _ (Option.some.inj hq).symm) hP hD hS (lv_sub hl [3, 4, 5, 1, 0] rfl)
  have hq := hz
  dsimp only [pX4_promise] at hq
  have hl := lv_entry (([.ref (q 0), .int y1, .int y2] : List Value)) (n := 6) (Nat.le_of_ble_eq_true rfl)
  rw [lg_entry_eq]
  generalize (lg_sl (([.ref (q 0), .int y1, .int y2] : List Value)) ++ List.replicate (6 - (lg_sl (([.ref (q 0), .int y1, .int y2] : List Value))).length) Slot.unset).toArray = ls at hl ⊢
  have hl : lv_has ls 6 [(0, .ref (q 0)), (1, .int y1), (2, .int y2)] := hl
  obtain ⟨H, hHe⟩ : ∃ H : Heap, H = s.heap := ⟨_, rfl⟩
  obtain ⟨locs, hLe⟩ : ∃ L : List Loc, L = [] := ⟨_, rfl⟩
  have hP : va_P (dC, dI) vwCl (wM cI cJ q  nn0 ln0 sa0 sb0 wg0 kt0 fr0 pt0 wl0 tn0 up0 lo0) H := by rw [hHe]; exact hP
  have hS : va_S A s.heap H locs := by rw [hHe, hLe]; exact va_S.rf
  show W p l e (headSpec wsX4_promise ({ frames := 1, cells := 0, slots := 0, locals := 25 })).room s m ([.ref (q 0), .int y1, .int y2] : List Value).toArray below meth c s.heap [] 0 0 (MQ below (va_Qi (fun (r : Int32) (u : Unit) => pX4_promise nn0 ln0 sa0 sb0 wg0 kt0 y1 y2 = some r) (fun u t => fw_B (dC, dI) A (wM cI cJ q  nn0 ln0 sa0 sb0 wg0 kt0 fr0 pt0 wl0 tn0 up0 lo0) t) A) ([.ref (q 0), .int y1, .int y2] : List Value).toArray s 0 0 A) (F0 m 0 ls [])
  rw [← hHe, ← hLe]
  refine lv_iload_n hx hb dX4_promise_0 rfl (lv_at hl 2 rfl) ?_
  refine lv_iconst (v := (1 : Int32)) hx hb dX4_promise_1 (by decide) ?_
  refine lv_bipush (v := (20 : Int32)) hx hb dX4_promise_2 (by decide) ?_
  have hPc := hP.sub (ws' := (w0 cI cJ   )) [] rfl
  have hDc := hD.sub (ws' := (w0 cI cJ   )) [] (by decide) rfl
  refine fw_ci (wr := [((q 0), .inr (4, [.int nn0, .int ln0, .ref (q 1), .ref (q 2), .ref (q 3), .ref (q 4), .ref (q 5), .ref (q 6), .ref (q 7), .ref (q 8), .long up0, .long lo0])), ((q 1), .inl (cI, 12, .inl sa0)), ((q 2), .inl (cI, 12, .inl sb0)), ((q 3), .inl (cI, 12, .inl wg0)), ((q 4), .inl (cI, 12, .inl kt0)), ((q 5), .inl (cI, 12, .inl fr0)), ((q 6), .inl (cI, 7, .inl pt0)), ((q 7), .inl (cI, 49, .inl wl0)), ((q 8), .inl (cI, 49, .inl tn0))]) (w2 := fun u => (wM cI cJ q  nn0 ln0 sa0 sb0 wg0 kt0 fr0 pt0 wl0 tn0 up0 lo0)) [] [0, 1, 2, 3, 4, 5, 6, 7, 8] [0, 1, 2, 3, 4, 5, 6, 7, 8] (va_runS (As := [.int y2, .int (1 : Int32), .int (20 : Int32)]) (rest := []) ⟨hx, hb, hml, hown, hts⟩ (kX4_in l dC dI cI cJ  H.size   y2 (1 : Int32) (20 : Int32) (fw_be hq)) (va_cwS 3 hts gX4_promise_X4_in rfl rfl rfl (by decide +kernel) ⟨Nat.le_of_ble_eq_true rfl, Nat.le_of_ble_eq_true rfl⟩) ⟨fw_blind, fun U hU hW => fw_pre hPc hK hDc hN hU hW⟩ rfl rfl hl.1 rfl (lv_room (Nat.le_of_ble_eq_true rfl)) dX4_promise_4 ⟨Nat.zero_le _, Nat.zero_le _⟩) hP hD hS hA rfl rfl (by decide) (by decide) (by decide) (fun _ => rfl) (fun r_1 u H locs hw hP hD hS => ?_)
  obtain ⟨hw, n_3⟩ := hw
  have hq := fw_bs hw hq
  try dsimp only at hq
  refine lv_if_eq (tgt := 19) hx hb dX4_promise_7 (by decide) (fun c_4 => ?_) (fun c_4 => ?_)
  · have hq := fw_it c_4 hq
    refine lv_bipush (v := (-3 : Int32)) hx hb dX4_promise_19 (by decide) ?_
    exact W.iret (v := (-3 : Int32)) hx hb hr (fun t ht hW => ⟨⟨(-3 : Int32), (), rfl, hz.trans hq.symm, by rw [ht]; exact hP, hD⟩, hS.F ht⟩) hS.2.2 dX4_promise_21
  · have hq := fw_if c_4 hq
    refine lv_iload_n hx hb dX4_promise_10 rfl (lv_at hl 1 rfl) ?_
    refine lv_iconst (v := (1 : Int32)) hx hb dX4_promise_11 (by decide) ?_
    refine lv_iload_n hx hb dX4_promise_12 rfl (lv_at hl 2 rfl) ?_
    have hPc := hP.sub (ws' := (w0 cI cJ   )) [] rfl
    have hDc := hD.sub (ws' := (w0 cI cJ   )) [] (by decide) rfl
    refine fw_ci (wr := [((q 0), .inr (4, [.int nn0, .int ln0, .ref (q 1), .ref (q 2), .ref (q 3), .ref (q 4), .ref (q 5), .ref (q 6), .ref (q 7), .ref (q 8), .long up0, .long lo0])), ((q 1), .inl (cI, 12, .inl sa0)), ((q 2), .inl (cI, 12, .inl sb0)), ((q 3), .inl (cI, 12, .inl wg0)), ((q 4), .inl (cI, 12, .inl kt0)), ((q 5), .inl (cI, 12, .inl fr0)), ((q 6), .inl (cI, 7, .inl pt0)), ((q 7), .inl (cI, 49, .inl wl0)), ((q 8), .inl (cI, 49, .inl tn0))]) (w2 := fun u => (wM cI cJ q  nn0 ln0 sa0 sb0 wg0 kt0 fr0 pt0 wl0 tn0 up0 lo0)) [] [0, 1, 2, 3, 4, 5, 6, 7, 8] [0, 1, 2, 3, 4, 5, 6, 7, 8] (va_runS (As := [.int y1, .int (1 : Int32), .int y2]) (rest := []) ⟨hx, hb, hml, hown, hts⟩ (kX4_in l dC dI cI cJ  H.size   y1 (1 : Int32) y2 (fw_be hq)) (va_cwS 3 hts gX4_promise_X4_in rfl rfl rfl (by decide +kernel) ⟨Nat.le_of_ble_eq_true rfl, Nat.le_of_ble_eq_true rfl⟩) ⟨fw_blind, fun U hU hW => fw_pre hPc hK hDc hN hU hW⟩ rfl rfl hl.1 rfl (lv_room (Nat.le_of_ble_eq_true rfl)) dX4_promise_13 ⟨Nat.zero_le _, Nat.zero_le _⟩) hP hD hS hA rfl rfl (by decide) (by decide) (by decide) (fun _ => rfl) (fun r_5 u H locs hw hP hD hS => ?_)
    obtain ⟨hw, n_7⟩ := hw
    have hq := fw_bs hw hq
    try dsimp only at hq
    refine lv_if_ne (tgt := 22) hx hb dX4_promise_16 (by decide) (fun c_8 => ?_) (fun c_8 => ?_)
    · have hq := fw_if c_8 hq
      refine lv_iconst (v := (1 : Int32)) hx hb dX4_promise_22 (by decide) ?_
      refine lv_istore_n (lv' := [(3, .int (1 : Int32)), (0, .ref (q 0)), (1, .int y1), (2, .int y2)]) hx hb dX4_promise_23 rfl hl (by decide) rfl (fun ls hl => ?_)
      refine lv_iconst (v := (1 : Int32)) hx hb dX4_promise_24 (by decide) ?_
      refine lv_istore (lv' := [(4, .int (1 : Int32)), (3, .int (1 : Int32)), (0, .ref (q 0)), (1, .int y1), (2, .int y2)]) hx hb dX4_promise_25 hl (by decide) rfl (fun ls hl => ?_)
      obtain ⟨e_21, hw, hq⟩ := fw_bb hq
      refine L27 y1 y2 e_21 (fun x3_19 x4_20 H locs ls he hP hD hS hl => ?_) fw_N (1 : Int32) (1 : Int32) H locs ls hw hP hD hS (lv_sub hl [2, 3, 4, 1, 0] rfl)
      subst he
      try dsimp only at hq
      refine lv_iload_n hx hb dX4_promise_99 rfl (lv_at hl 3 rfl) ?_
      refine lv_if_eq (tgt := 107) hx hb dX4_promise_100 (by decide) (fun c_22 => ?_) (fun c_22 => ?_)
      · have hq := fw_it c_22 hq
        refine lv_iconst (v := (0 : Int32)) hx hb dX4_promise_107 (by decide) ?_
        exact W.iret (v := (0 : Int32)) hx hb hr (fun t ht hW => ⟨⟨(0 : Int32), (), rfl, hz.trans hq.symm, by rw [ht]; exact hP, hD⟩, hS.F ht⟩) hS.2.2 dX4_promise_108
      · have hq := fw_if c_22 hq
        refine lv_iconst (v := (1 : Int32)) hx hb dX4_promise_103 (by decide) ?_
        refine lv_goto (tgt := 108) hx hb dX4_promise_104 (by decide) ?_
        exact W.iret (v := (1 : Int32)) hx hb hr (fun t ht hW => ⟨⟨(1 : Int32), (), rfl, hz.trans hq.symm, by rw [ht]; exact hP, hD⟩, hS.F ht⟩) hS.2.2 dX4_promise_108
    · have hq := fw_it c_8 hq
      refine lv_bipush (v := (-3 : Int32)) hx hb dX4_promise_19 (by decide) ?_
      exact W.iret (v := (-3 : Int32)) hx hb hr (fun t ht hW => ⟨⟨(-3 : Int32), (), rfl, hz.trans hq.symm, by rw [ht]; exact hP, hD⟩, hS.F ht⟩) hS.2.2 dX4_promise_21
set_option maxHeartbeats 4000000 in
set_option maxRecDepth 100000 in
theorem kX4_forests (l : Launch) (dC : Nat → ClassId) (dI : Nat → Nat → Nat) (cI cJ : ClassId) (q : Nat → Nat) (sz : Nat)  (nn0 : Int32) (ln0 : Int32) (sa0 : Nat → Int32) (sb0 : Nat → Int32) (wg0 : Nat → Int32) (kt0 : Nat → Int32) (fr0 : Nat → Int32) (pt0 : Nat → Int32) (wl0 : Nat → Int32) (tn0 : Nat → Int32) (up0 : Int64) (lo0 : Int64)  (hd : ∃ z, pX4_forests nn0 ln0 sa0 sb0 fr0 pt0 = some z) : Met l yX4_forests wsX4_forests ({ frames := 2, cells := 0, slots := 0, locals := 47 }) (fw_Pc (dC, dI) (fw_tys cI cJ) (wM cI cJ q  nn0 ln0 sa0 sb0 wg0 kt0 fr0 pt0 wl0 tn0 up0 lo0) ([.ref (q 0)] : List Value) sz) (va_Qi (fun (r : Int32) (u : (Nat → Int32) × (Nat → Int32)) => pX4_forests nn0 ln0 sa0 sb0 fr0 pt0 = some (r, u)) (fun u t => fw_B (dC, dI) (va_A (wM cI cJ q  nn0 ln0 sa0 sb0 wg0 kt0 fr0 pt0 wl0 tn0 up0 lo0) sz) (wM cI cJ q  nn0 ln0 sa0 sb0 wg0 kt0 u.1 u.2 wl0 tn0 up0 lo0) t) (va_A (wM cI cJ q  nn0 ln0 sa0 sb0 wg0 kt0 fr0 pt0 wl0 tn0 up0 lo0) sz)) 0 0 (va_A (wM cI cJ q  nn0 ln0 sa0 sb0 wg0 kt0 fr0 pt0 wl0 tn0 up0 lo0) sz) := by
  obtain ⟨z, hz⟩ := hd
  refine Met.ofW (cc := cX4_forests) (maxL := 1) (ret := (some .int)) (by decide) rfl ?_
  intro p e s m args below meth c s₁ B hml hv
  obtain ⟨rfl, hsz, hP, hK, hD0, hN⟩ := hv
  have hx := B.exec
  have hb := B.bytes
  have hr := B.returns
  have hts := atoms_spec (ws := wsX4_forests) B.pre
  have hown : s.vm.findClass RX4 = some m.cls := findClass_of_methodNamed B.named
  have hlocks := B.notSynchronized
  subst hsz
  have hD := hD0.self (sz := s.heap.size)
  generalize hAe : va_A (wM cI cJ q  nn0 ln0 sa0 sb0 wg0 kt0 fr0 pt0 wl0 tn0 up0 lo0) s.heap.size = A at hD ⊢
  have hA : ∀ q : Nat, s.heap.size ≤ q → A q := fun q h => by rw [← hAe]; exact Or.inr h
  have hq := hz
  dsimp only [pX4_forests] at hq
  have hl := lv_entry (([.ref (q 0)] : List Value)) (n := 1) (Nat.le_of_ble_eq_true rfl)
  rw [lg_entry_eq]
  generalize (lg_sl (([.ref (q 0)] : List Value)) ++ List.replicate (1 - (lg_sl (([.ref (q 0)] : List Value))).length) Slot.unset).toArray = ls at hl ⊢
  have hl : lv_has ls 1 [(0, .ref (q 0))] := hl
  obtain ⟨H, hHe⟩ : ∃ H : Heap, H = s.heap := ⟨_, rfl⟩
  obtain ⟨locs, hLe⟩ : ∃ L : List Loc, L = [] := ⟨_, rfl⟩
  have hP : va_P (dC, dI) vwCl (wM cI cJ q  nn0 ln0 sa0 sb0 wg0 kt0 fr0 pt0 wl0 tn0 up0 lo0) H := by rw [hHe]; exact hP
  have hS : va_S A s.heap H locs := by rw [hHe, hLe]; exact va_S.rf
  show W p l e (headSpec wsX4_forests ({ frames := 2, cells := 0, slots := 0, locals := 47 })).room s m ([.ref (q 0)] : List Value).toArray below meth c s.heap [] 0 0 (MQ below (va_Qi (fun (r : Int32) (u : (Nat → Int32) × (Nat → Int32)) => pX4_forests nn0 ln0 sa0 sb0 fr0 pt0 = some (r, u)) (fun u t => fw_B (dC, dI) A (wM cI cJ q  nn0 ln0 sa0 sb0 wg0 kt0 u.1 u.2 wl0 tn0 up0 lo0) t) A) ([.ref (q 0)] : List Value).toArray s 0 0 A) (F0 m 0 ls [])
  rw [← hHe, ← hLe]
  refine lv_aload_n hx hb dX4_forests_0 rfl (lv_at hl 0 rfl) ?_
  have hPc := hP.sub (ws' := (wM cI cJ q  nn0 ln0 sa0 sb0 wg0 kt0 fr0 pt0 wl0 tn0 up0 lo0)) [0, 1, 2, 3, 4, 5, 6, 7, 8] rfl
  have hDc := hD.sub (ws' := (wM cI cJ q  nn0 ln0 sa0 sb0 wg0 kt0 fr0 pt0 wl0 tn0 up0 lo0)) [0, 1, 2, 3, 4, 5, 6, 7, 8] (by decide) rfl
  refine fw_ci (wr := []) (w2 := fun u => (wM cI cJ q  nn0 ln0 sa0 sb0 wg0 kt0 u.1 u.2 wl0 tn0 up0 lo0)) [0, 1, 2, 3, 4, 5, 6, 7, 8] [] [0, 1, 2, 3, 4, 5, 6, 7, 8] (va_runV (b := (q 0)) (As := []) (rest := []) ⟨hx, hb, hml, hown, hts⟩ (kX4_findForests l dC dI cI cJ q H.size  nn0 ln0 sa0 sb0 wg0 kt0 fr0 pt0 wl0 tn0 up0 lo0  (fw_be hq)) (cwV 0 hts gX4_forests_X4_findForests rfl rfl rfl (by decide +kernel) ⟨Nat.le_of_ble_eq_true rfl, Nat.le_of_ble_eq_true rfl⟩) ⟨fw_blind, va_recv hK hPc (ci := 4) (q0 := 0) rfl rfl, fun U hU hW => fw_pre hPc hK hDc hN hU hW⟩ rfl rfl hl.1 rfl (lv_room (Nat.le_of_ble_eq_true rfl)) dX4_forests_1 ⟨Nat.zero_le _, Nat.zero_le _⟩) hP hD hS hA rfl rfl (by decide) (by decide) (by decide) (fun _ => rfl) (fun r_3 u H locs hw hP hD hS => ?_)
  obtain ⟨fr_1, pt_2⟩ := u
  have hq := fw_bs hw hq
  try dsimp only at hq
  have hP : va_P (dC, dI) vwCl (wM cI cJ q  nn0 ln0 sa0 sb0 wg0 kt0 fr_1 pt_2 wl0 tn0 up0 lo0) H := hP
  have hD : va_D A (wM cI cJ q  nn0 ln0 sa0 sb0 wg0 kt0 fr_1 pt_2 wl0 tn0 up0 lo0) := hD
  exact W.iret (v := r_3) hx hb hr (fun t ht hW => ⟨⟨r_3, (fr_1, pt_2), rfl, hz.trans hq.symm, by rw [ht]; exact hP, hD⟩, hS.F ht⟩) hS.2.2 dX4_forests_4
set_option maxHeartbeats 4000000 in
set_option maxRecDepth 100000 in
theorem kX4_keptMany (l : Launch) (dC : Nat → ClassId) (dI : Nat → Nat → Nat) (cI cJ : ClassId) (q : Nat → Nat) (sz : Nat)  (nn0 : Int32) (ln0 : Int32) (sa0 : Nat → Int32) (sb0 : Nat → Int32) (wg0 : Nat → Int32) (kt0 : Nat → Int32) (fr0 : Nat → Int32) (pt0 : Nat → Int32) (wl0 : Nat → Int32) (tn0 : Nat → Int32) (up0 : Int64) (lo0 : Int64)  (hd : ∃ z, pX4_keptMany ln0 kt0 = some z) : Met l yX4_keptMany wsX4_keptMany ({ frames := 0, cells := 0, slots := 0, locals := 0 }) (fw_Pc (dC, dI) (fw_tys cI cJ) (wM cI cJ q  nn0 ln0 sa0 sb0 wg0 kt0 fr0 pt0 wl0 tn0 up0 lo0) ([.ref (q 0)] : List Value) sz) (va_Qi (fun (r : Int32) (u : Unit) => pX4_keptMany ln0 kt0 = some r) (fun u t => fw_B (dC, dI) (va_A (wM cI cJ q  nn0 ln0 sa0 sb0 wg0 kt0 fr0 pt0 wl0 tn0 up0 lo0) sz) (wM cI cJ q  nn0 ln0 sa0 sb0 wg0 kt0 fr0 pt0 wl0 tn0 up0 lo0) t) (va_A (wM cI cJ q  nn0 ln0 sa0 sb0 wg0 kt0 fr0 pt0 wl0 tn0 up0 lo0) sz)) 0 0 (va_A (wM cI cJ q  nn0 ln0 sa0 sb0 wg0 kt0 fr0 pt0 wl0 tn0 up0 lo0) sz) := by
  obtain ⟨z, hz⟩ := hd
  refine Met.ofW (cc := cX4_keptMany) (maxL := 3) (ret := (some .int)) (by decide) rfl ?_
  intro p e s m args below meth c s₁ B hml hv
  obtain ⟨rfl, hsz, hP, hK, hD0, hN⟩ := hv
  have hx := B.exec
  have hb := B.bytes
  have hr := B.returns
  have hts := atoms_spec (ws := wsX4_keptMany) B.pre
  have hown : s.vm.findClass RX4 = some m.cls := findClass_of_methodNamed B.named
  have hlocks := B.notSynchronized
  subst hsz
  have hD := hD0.self (sz := s.heap.size)
  generalize hAe : va_A (wM cI cJ q  nn0 ln0 sa0 sb0 wg0 kt0 fr0 pt0 wl0 tn0 up0 lo0) s.heap.size = A at hD ⊢
  have hA : ∀ q : Nat, s.heap.size ≤ q → A q := fun q h => by rw [← hAe]; exact Or.inr h
  have hinX4 : ∀ w ∈ u_ws RX4 TX4 12, w ∈ wsX4_keptMany := by decide +kernel
  have hf23 := hts (.fieldLink RX4 23 "FewLinesModel" "kept" "[I") (by decide +kernel)
  have hf42 := hts (.fieldLink RX4 42 "FewLinesModel" "lines" "I") (by decide +kernel)
  have L4 : ∀  (e9 : Int32 × Int32), (∀ (x1' : Int32) (x2' : Int32) (H : Heap) (locs : List Loc) (ls : Array Slot), e9 = (x1', x2') → va_P (dC, dI) vwCl (wM cI cJ q  nn0 ln0 sa0 sb0 wg0 kt0 fr0 pt0 wl0 tn0 up0 lo0) H → va_D A (wM cI cJ q  nn0 ln0 sa0 sb0 wg0 kt0 fr0 pt0 wl0 tn0 up0 lo0) → va_S A s.heap H locs → lv_has ls 3 [(0, .ref (q 0)), (1, .int x1'), (2, .int x2')] → W p l e (headSpec wsX4_keptMany ({ frames := 0, cells := 0, slots := 0, locals := 0 })).room s m ([.ref (q 0)] : List Value).toArray below meth c H locs 0 0 (MQ below (va_Qi (fun (r : Int32) (u : Unit) => pX4_keptMany ln0 kt0 = some r) (fun u t => fw_B (dC, dI) A (wM cI cJ q  nn0 ln0 sa0 sb0 wg0 kt0 fr0 pt0 wl0 tn0 up0 lo0) t) A) ([.ref (q 0)] : List Value).toArray s 0 0 A) (F0 m 35 ls [])) → ∀ (n9 : Nat) (x1 : Int32) (x2 : Int32) (H : Heap) (locs : List Loc) (ls : Array Slot), fw_wh (pX4_keptMany_4 ln0 kt0) n9 (x1, x2) = some e9 → va_P (dC, dI) vwCl (wM cI cJ q  nn0 ln0 sa0 sb0 wg0 kt0 fr0 pt0 wl0 tn0 up0 lo0) H → va_D A (wM cI cJ q  nn0 ln0 sa0 sb0 wg0 kt0 fr0 pt0 wl0 tn0 up0 lo0) → va_S A s.heap H locs → lv_has ls 3 [(0, .ref (q 0)), (1, .int x1), (2, .int x2)] → W p l e (headSpec wsX4_keptMany ({ frames := 0, cells := 0, slots := 0, locals := 0 })).room s m ([.ref (q 0)] : List Value).toArray below meth c H locs 0 0 (MQ below (va_Qi (fun (r : Int32) (u : Unit) => pX4_keptMany ln0 kt0 = some r) (fun u t => fw_B (dC, dI) A (wM cI cJ q  nn0 ln0 sa0 sb0 wg0 kt0 fr0 pt0 wl0 tn0 up0 lo0) t) A) ([.ref (q 0)] : List Value).toArray s 0 0 A) (F0 m 4 ls []) := by
    intro  e9 hkk n9
    induction n9 with
    | zero => exact fun _ _ H locs ls hq => (fw_wh0 hq).elim
    | succ n9 ih =>
      intro x1 x2 H locs ls hq hP hD hS hl
      obtain ⟨w9, hq, hwI, hwE⟩ := fw_wh1 hq
      dsimp only [pX4_keptMany_4] at hq
      refine lv_iload_n hx hb dX4_keptMany_4 rfl (lv_at hl 2 rfl) ?_
      refine lv_aload_n hx hb dX4_keptMany_5 rfl (lv_at hl 0 rfl) ?_
      refine va_get (D := (dC, dI)) (ci := 4) (v := .int ln0) (C := RX4) (T := TX4) (N := 12) hx hb hts hinX4 hown hK hP 0 rfl rfl 1 (by decide) hf42 (fun _ h9 => h9) rfl dX4_keptMany_6 ?_
      refine lv_icmp_ge (tgt := 35) hx hb dX4_keptMany_9 (by decide) (fun c_1 => ?_) (fun c_1 => ?_)
      · have hq := fw_it c_1 hq
        exact hkk x1 x2 H locs ls (hwE _ (Option.some.inj hq).symm) hP hD hS (lv_sub hl [0, 1, 2] rfl)
      · have hq := fw_if c_1 hq
        refine lv_iload_n hx hb dX4_keptMany_12 rfl (lv_at hl 1 rfl) ?_
        refine lv_aload_n hx hb dX4_keptMany_13 rfl (lv_at hl 0 rfl) ?_
        refine va_get (D := (dC, dI)) (ci := 4) (v := .ref (q 4)) (C := RX4) (T := TX4) (N := 12) hx hb hts hinX4 hown hK hP 0 rfl rfl 5 (by decide) hf23 (fun _ h9 => h9) rfl dX4_keptMany_14 ?_
        refine lv_iload_n hx hb dX4_keptMany_17 rfl (lv_at hl 2 rfl) ?_
        obtain ⟨h_2, hq⟩ := fw_ck_s hq
        refine va_iald hx hb hK hP 4 0 rfl rfl h_2 dX4_keptMany_18 ?_
        refine lv_if_le (tgt := 26) hx hb dX4_keptMany_19 (by decide) (fun c_3 => ?_) (fun c_3 => ?_)
        · have hq := fw_it c_3 hq
          refine lv_iconst (v := (0 : Int32)) hx hb dX4_keptMany_26 (by decide) ?_
          refine lv_iadd hx hb dX4_keptMany_27 ?_
          refine lv_istore_n (lv' := [(1, .int (x1 + (0 : Int32))), (0, .ref (q 0)), (2, .int x2)]) hx hb dX4_keptMany_28 rfl hl (by decide) rfl (fun ls hl => ?_)
          refine lv_iinc (v := (x2 + (1 : Int32))) (lv' := [(2, .int (x2 + (1 : Int32))), (1, .int (x1 + (0 : Int32))), (0, .ref (q 0))]) hx hb dX4_keptMany_29 hl (k := 2) rfl rfl (by decide) rfl (fun ls hl => ?_)
          refine lv_goto (tgt := 4) hx hb dX4_keptMany_32 (by decide) ?_
          exact ih (x1 + (0 : Int32)) (x2 + (1 : Int32)) H locs ls (hwI _ (Option.some.inj hq).symm) hP hD hS (lv_sub hl [2, 1, 0] rfl)
        · have hq := fw_if c_3 hq
          refine lv_iconst (v := (1 : Int32)) hx hb dX4_keptMany_22 (by decide) ?_
          refine lv_goto (tgt := 27) hx hb dX4_keptMany_23 (by decide) ?_
          refine lv_iadd hx hb dX4_keptMany_27 ?_
          refine lv_istore_n (lv' := [(1, .int (x1 + (1 : Int32))), (0, .ref (q 0)), (2, .int x2)]) hx hb dX4_keptMany_28 rfl hl (by decide) rfl (fun ls hl => ?_)
          refine lv_iinc (v := (x2 + (1 : Int32))) (lv' := [(2, .int (x2 + (1 : Int32))), (1, .int (x1 + (1 : Int32))), (0, .ref (q 0))]) hx hb dX4_keptMany_29 hl (k := 2) rfl rfl (by decide) rfl (fun ls hl => ?_)
          refine lv_goto (tgt := 4) hx hb dX4_keptMany_32 (by decide) ?_
          exact ih (x1 + (1 : Int32)) (x2 + (1 : Int32)) H locs ls (hwI _ (Option.some.inj hq).symm) hP hD hS (lv_sub hl [2, 1, 0] rfl)
  have hq := hz
  dsimp only [pX4_keptMany] at hq
  have hl := lv_entry (([.ref (q 0)] : List Value)) (n := 3) (Nat.le_of_ble_eq_true rfl)
  rw [lg_entry_eq]
  generalize (lg_sl (([.ref (q 0)] : List Value)) ++ List.replicate (3 - (lg_sl (([.ref (q 0)] : List Value))).length) Slot.unset).toArray = ls at hl ⊢
  have hl : lv_has ls 3 [(0, .ref (q 0))] := hl
  obtain ⟨H, hHe⟩ : ∃ H : Heap, H = s.heap := ⟨_, rfl⟩
  obtain ⟨locs, hLe⟩ : ∃ L : List Loc, L = [] := ⟨_, rfl⟩
  have hP : va_P (dC, dI) vwCl (wM cI cJ q  nn0 ln0 sa0 sb0 wg0 kt0 fr0 pt0 wl0 tn0 up0 lo0) H := by rw [hHe]; exact hP
  have hS : va_S A s.heap H locs := by rw [hHe, hLe]; exact va_S.rf
  show W p l e (headSpec wsX4_keptMany ({ frames := 0, cells := 0, slots := 0, locals := 0 })).room s m ([.ref (q 0)] : List Value).toArray below meth c s.heap [] 0 0 (MQ below (va_Qi (fun (r : Int32) (u : Unit) => pX4_keptMany ln0 kt0 = some r) (fun u t => fw_B (dC, dI) A (wM cI cJ q  nn0 ln0 sa0 sb0 wg0 kt0 fr0 pt0 wl0 tn0 up0 lo0) t) A) ([.ref (q 0)] : List Value).toArray s 0 0 A) (F0 m 0 ls [])
  rw [← hHe, ← hLe]
  refine lv_iconst (v := (0 : Int32)) hx hb dX4_keptMany_0 (by decide) ?_
  refine lv_istore_n (lv' := [(1, .int (0 : Int32)), (0, .ref (q 0))]) hx hb dX4_keptMany_1 rfl hl (by decide) rfl (fun ls hl => ?_)
  refine lv_iconst (v := (0 : Int32)) hx hb dX4_keptMany_2 (by decide) ?_
  refine lv_istore_n (lv' := [(2, .int (0 : Int32)), (1, .int (0 : Int32)), (0, .ref (q 0))]) hx hb dX4_keptMany_3 rfl hl (by decide) rfl (fun ls hl => ?_)
  obtain ⟨e_6, hw, hq⟩ := fw_bb hq
  refine L4  e_6 (fun x1_4 x2_5 H locs ls he hP hD hS hl => ?_) fw_N (0 : Int32) (0 : Int32) H locs ls hw hP hD hS (lv_sub hl [2, 1, 0] rfl)
  subst he
  try dsimp only at hq
  refine lv_iload_n hx hb dX4_keptMany_35 rfl (lv_at hl 1 rfl) ?_
  exact W.iret (v := x1_4) hx hb hr (fun t ht hW => ⟨⟨x1_4, (), rfl, hz.trans hq.symm, by rw [ht]; exact hP, hD⟩, hS.F ht⟩) hS.2.2 dX4_keptMany_36
set_option maxHeartbeats 4000000 in
set_option maxRecDepth 100000 in
theorem kX4_peel (l : Launch) (dC : Nat → ClassId) (dI : Nat → Nat → Nat) (cI cJ : ClassId) (q : Nat → Nat) (sz : Nat)  (nn0 : Int32) (ln0 : Int32) (sa0 : Nat → Int32) (sb0 : Nat → Int32) (wg0 : Nat → Int32) (kt0 : Nat → Int32) (fr0 : Nat → Int32) (pt0 : Nat → Int32) (wl0 : Nat → Int32) (tn0 : Nat → Int32) (up0 : Int64) (lo0 : Int64) (y1 : Int32) (hd : ∃ z, pX4_peel nn0 ln0 sa0 sb0 wg0 kt0 fr0 pt0 y1 = some z) : Met l yX4_peel wsX4_peel ({ frames := 2, cells := 0, slots := 0, locals := 47 }) (fw_Pc (dC, dI) (fw_tys cI cJ) (wM cI cJ q  nn0 ln0 sa0 sb0 wg0 kt0 fr0 pt0 wl0 tn0 up0 lo0) ([.ref (q 0), .int y1] : List Value) sz) (va_Qi (fun (r : Int32) (u : (Nat → Int32) × (Nat → Int32) × (Nat → Int32)) => pX4_peel nn0 ln0 sa0 sb0 wg0 kt0 fr0 pt0 y1 = some (r, u)) (fun u t => fw_B (dC, dI) (va_A (wM cI cJ q  nn0 ln0 sa0 sb0 wg0 kt0 fr0 pt0 wl0 tn0 up0 lo0) sz) (wM cI cJ q  nn0 ln0 sa0 sb0 wg0 u.1 u.2.1 u.2.2 wl0 tn0 up0 lo0) t) (va_A (wM cI cJ q  nn0 ln0 sa0 sb0 wg0 kt0 fr0 pt0 wl0 tn0 up0 lo0) sz)) 0 0 (va_A (wM cI cJ q  nn0 ln0 sa0 sb0 wg0 kt0 fr0 pt0 wl0 tn0 up0 lo0) sz) := by
  obtain ⟨z, hz⟩ := hd
  refine Met.ofW (cc := cX4_peel) (maxL := 3) (ret := (some .int)) (by decide) rfl ?_
  intro p e s m args below meth c s₁ B hml hv
  obtain ⟨rfl, hsz, hP, hK, hD0, hN⟩ := hv
  have hx := B.exec
  have hb := B.bytes
  have hr := B.returns
  have hts := atoms_spec (ws := wsX4_peel) B.pre
  have hown : s.vm.findClass RX4 = some m.cls := findClass_of_methodNamed B.named
  have hlocks := B.notSynchronized
  subst hsz
  have hD := hD0.self (sz := s.heap.size)
  generalize hAe : va_A (wM cI cJ q  nn0 ln0 sa0 sb0 wg0 kt0 fr0 pt0 wl0 tn0 up0 lo0) s.heap.size = A at hD ⊢
  have hA : ∀ q : Nat, s.heap.size ≤ q → A q := fun q h => by rw [← hAe]; exact Or.inr h
  have hinX4 : ∀ w ∈ u_ws RX4 TX4 12, w ∈ wsX4_peel := by decide +kernel
  have hf20 := hts (.fieldLink RX4 20 "FewLinesModel" "weight" "[I") (by decide +kernel)
  have hf23 := hts (.fieldLink RX4 23 "FewLinesModel" "kept" "[I") (by decide +kernel)
  have hf26 := hts (.fieldLink RX4 26 "FewLinesModel" "forest" "[I") (by decide +kernel)
  have hf42 := hts (.fieldLink RX4 42 "FewLinesModel" "lines" "I") (by decide +kernel)
  have L20 : ∀ (x1 : Int32) (fr : Nat → Int32) (pt : Nat → Int32) (e9 : Int32 × (Nat → Int32)), (∀ (x2' : Int32) (kt' : Nat → Int32) (H : Heap) (locs : List Loc) (ls : Array Slot), e9 = (x2', kt') → va_P (dC, dI) vwCl (wM cI cJ q  nn0 ln0 sa0 sb0 wg0 kt' fr pt wl0 tn0 up0 lo0) H → va_D A (wM cI cJ q  nn0 ln0 sa0 sb0 wg0 kt' fr pt wl0 tn0 up0 lo0) → va_S A s.heap H locs → lv_has ls 3 [(0, .ref (q 0)), (1, .int x1), (2, .int x2')] → W p l e (headSpec wsX4_peel ({ frames := 2, cells := 0, slots := 0, locals := 47 })).room s m ([.ref (q 0), .int y1] : List Value).toArray below meth c H locs 0 0 (MQ below (va_Qi (fun (r : Int32) (u : (Nat → Int32) × (Nat → Int32) × (Nat → Int32)) => pX4_peel nn0 ln0 sa0 sb0 wg0 kt0 fr0 pt0 y1 = some (r, u)) (fun u t => fw_B (dC, dI) A (wM cI cJ q  nn0 ln0 sa0 sb0 wg0 u.1 u.2.1 u.2.2 wl0 tn0 up0 lo0) t) A) ([.ref (q 0), .int y1] : List Value).toArray s 0 0 A) (F0 m 60 ls [])) → ∀ (n9 : Nat) (x2 : Int32) (kt : Nat → Int32) (H : Heap) (locs : List Loc) (ls : Array Slot), fw_wh (pX4_peel_20 x1 ln0 wg0 fr) n9 (x2, kt) = some e9 → va_P (dC, dI) vwCl (wM cI cJ q  nn0 ln0 sa0 sb0 wg0 kt fr pt wl0 tn0 up0 lo0) H → va_D A (wM cI cJ q  nn0 ln0 sa0 sb0 wg0 kt fr pt wl0 tn0 up0 lo0) → va_S A s.heap H locs → lv_has ls 3 [(0, .ref (q 0)), (1, .int x1), (2, .int x2)] → W p l e (headSpec wsX4_peel ({ frames := 2, cells := 0, slots := 0, locals := 47 })).room s m ([.ref (q 0), .int y1] : List Value).toArray below meth c H locs 0 0 (MQ below (va_Qi (fun (r : Int32) (u : (Nat → Int32) × (Nat → Int32) × (Nat → Int32)) => pX4_peel nn0 ln0 sa0 sb0 wg0 kt0 fr0 pt0 y1 = some (r, u)) (fun u t => fw_B (dC, dI) A (wM cI cJ q  nn0 ln0 sa0 sb0 wg0 u.1 u.2.1 u.2.2 wl0 tn0 up0 lo0) t) A) ([.ref (q 0), .int y1] : List Value).toArray s 0 0 A) (F0 m 20 ls []) := by
    intro x1 fr pt e9 hkk n9
    induction n9 with
    | zero => exact fun _ _ H locs ls hq => (fw_wh0 hq).elim
    | succ n9 ih =>
      intro x2 kt H locs ls hq hP hD hS hl
      obtain ⟨w9, hq, hwI, hwE⟩ := fw_wh1 hq
      dsimp only [pX4_peel_20] at hq
      refine lv_iload_n hx hb dX4_peel_20 rfl (lv_at hl 2 rfl) ?_
      refine lv_aload_n hx hb dX4_peel_21 rfl (lv_at hl 0 rfl) ?_
      refine va_get (D := (dC, dI)) (ci := 4) (v := .int ln0) (C := RX4) (T := TX4) (N := 12) hx hb hts hinX4 hown hK hP 0 rfl rfl 1 (by decide) hf42 (fun _ h9 => h9) rfl dX4_peel_22 ?_
      refine lv_icmp_ge (tgt := 60) hx hb dX4_peel_25 (by decide) (fun c_9 => ?_) (fun c_9 => ?_)
      · have hq := fw_it c_9 hq
        exact hkk x2 kt H locs ls (hwE _ (Option.some.inj hq).symm) hP hD hS (lv_sub hl [0, 1, 2] rfl)
      · have hq := fw_if c_9 hq
        refine lv_aload_n hx hb dX4_peel_28 rfl (lv_at hl 0 rfl) ?_
        refine va_get (D := (dC, dI)) (ci := 4) (v := .ref (q 4)) (C := RX4) (T := TX4) (N := 12) hx hb hts hinX4 hown hK hP 0 rfl rfl 5 (by decide) hf23 (fun _ h9 => h9) rfl dX4_peel_29 ?_
        refine lv_iload_n hx hb dX4_peel_32 rfl (lv_at hl 2 rfl) ?_
        refine lv_aload_n hx hb dX4_peel_33 rfl (lv_at hl 0 rfl) ?_
        refine va_get (D := (dC, dI)) (ci := 4) (v := .ref (q 5)) (C := RX4) (T := TX4) (N := 12) hx hb hts hinX4 hown hK hP 0 rfl rfl 6 (by decide) hf26 (fun _ h9 => h9) rfl dX4_peel_34 ?_
        refine lv_iload_n hx hb dX4_peel_37 rfl (lv_at hl 2 rfl) ?_
        obtain ⟨h_10, hq⟩ := fw_ck_s hq
        refine va_iald hx hb hK hP 5 0 rfl rfl h_10 dX4_peel_38 ?_
        refine lv_iload_n hx hb dX4_peel_39 rfl (lv_at hl 1 rfl) ?_
        refine lv_icmp_gt (tgt := 52) hx hb dX4_peel_40 (by decide) (fun c_11 => ?_) (fun c_11 => ?_)
        · have hq := fw_it c_11 hq
          refine lv_iconst (v := (0 : Int32)) hx hb dX4_peel_52 (by decide) ?_
          obtain ⟨h_12, hq⟩ := fw_ck_s hq
          refine va_iast hx hb hK hP hD hS 4 0 rfl rfl h_12 dX4_peel_53 (fun H locs hP hD hS => ?_)
          have hP : va_P (dC, dI) vwCl (wM cI cJ q  nn0 ln0 sa0 sb0 wg0 (upd kt (x2).toNatClampNeg (0 : Int32)) fr pt wl0 tn0 up0 lo0) H := hP
          have hD : va_D A (wM cI cJ q  nn0 ln0 sa0 sb0 wg0 (upd kt (x2).toNatClampNeg (0 : Int32)) fr pt wl0 tn0 up0 lo0) := hD
          refine lv_iinc (v := (x2 + (1 : Int32))) (lv' := [(2, .int (x2 + (1 : Int32))), (0, .ref (q 0)), (1, .int x1)]) hx hb dX4_peel_54 hl (k := 2) rfl rfl (by decide) rfl (fun ls hl => ?_)
          refine lv_goto (tgt := 20) hx hb dX4_peel_57 (by decide) ?_
          exact ih (x2 + (1 : Int32)) (upd kt (x2).toNatClampNeg (0 : Int32)) H locs ls (hwI _ (Option.some.inj hq).symm) hP hD hS (lv_sub hl [1, 2, 0] rfl)
        · have hq := fw_if c_11 hq
          refine lv_aload_n hx hb dX4_peel_43 rfl (lv_at hl 0 rfl) ?_
          refine va_get (D := (dC, dI)) (ci := 4) (v := .ref (q 3)) (C := RX4) (T := TX4) (N := 12) hx hb hts hinX4 hown hK hP 0 rfl rfl 4 (by decide) hf20 (fun _ h9 => h9) rfl dX4_peel_44 ?_
          refine lv_iload_n hx hb dX4_peel_47 rfl (lv_at hl 2 rfl) ?_
          obtain ⟨h_13, hq⟩ := fw_ck_s hq
          refine va_iald hx hb hK hP 3 0 rfl rfl h_13 dX4_peel_48 ?_
          refine lv_goto (tgt := 53) hx hb dX4_peel_49 (by decide) ?_
          obtain ⟨h_14, hq⟩ := fw_ck_s hq
          refine va_iast hx hb hK hP hD hS 4 0 rfl rfl h_14 dX4_peel_53 (fun H locs hP hD hS => ?_)
          have hP : va_P (dC, dI) vwCl (wM cI cJ q  nn0 ln0 sa0 sb0 wg0 (upd kt (x2).toNatClampNeg (wg0 (x2).toNatClampNeg)) fr pt wl0 tn0 up0 lo0) H := hP
          have hD : va_D A (wM cI cJ q  nn0 ln0 sa0 sb0 wg0 (upd kt (x2).toNatClampNeg (wg0 (x2).toNatClampNeg)) fr pt wl0 tn0 up0 lo0) := hD
          refine lv_iinc (v := (x2 + (1 : Int32))) (lv' := [(2, .int (x2 + (1 : Int32))), (0, .ref (q 0)), (1, .int x1)]) hx hb dX4_peel_54 hl (k := 2) rfl rfl (by decide) rfl (fun ls hl => ?_)
          refine lv_goto (tgt := 20) hx hb dX4_peel_57 (by decide) ?_
          exact ih (x2 + (1 : Int32)) (upd kt (x2).toNatClampNeg (wg0 (x2).toNatClampNeg)) H locs ls (hwI _ (Option.some.inj hq).symm) hP hD hS (lv_sub hl [1, 2, 0] rfl)
  have hq := hz
  dsimp only [pX4_peel] at hq
  have hl := lv_entry (([.ref (q 0), .int y1] : List Value)) (n := 3) (Nat.le_of_ble_eq_true rfl)
  rw [lg_entry_eq]
  generalize (lg_sl (([.ref (q 0), .int y1] : List Value)) ++ List.replicate (3 - (lg_sl (([.ref (q 0), .int y1] : List Value))).length) Slot.unset).toArray = ls at hl ⊢
  have hl : lv_has ls 3 [(0, .ref (q 0)), (1, .int y1)] := hl
  obtain ⟨H, hHe⟩ : ∃ H : Heap, H = s.heap := ⟨_, rfl⟩
  obtain ⟨locs, hLe⟩ : ∃ L : List Loc, L = [] := ⟨_, rfl⟩
  have hP : va_P (dC, dI) vwCl (wM cI cJ q  nn0 ln0 sa0 sb0 wg0 kt0 fr0 pt0 wl0 tn0 up0 lo0) H := by rw [hHe]; exact hP
  have hS : va_S A s.heap H locs := by rw [hHe, hLe]; exact va_S.rf
  show W p l e (headSpec wsX4_peel ({ frames := 2, cells := 0, slots := 0, locals := 47 })).room s m ([.ref (q 0), .int y1] : List Value).toArray below meth c s.heap [] 0 0 (MQ below (va_Qi (fun (r : Int32) (u : (Nat → Int32) × (Nat → Int32) × (Nat → Int32)) => pX4_peel nn0 ln0 sa0 sb0 wg0 kt0 fr0 pt0 y1 = some (r, u)) (fun u t => fw_B (dC, dI) A (wM cI cJ q  nn0 ln0 sa0 sb0 wg0 u.1 u.2.1 u.2.2 wl0 tn0 up0 lo0) t) A) ([.ref (q 0), .int y1] : List Value).toArray s 0 0 A) (F0 m 0 ls [])
  rw [← hHe, ← hLe]
  refine lv_iload_n hx hb dX4_peel_0 rfl (lv_at hl 1 rfl) ?_
  refine lv_iconst (v := (0 : Int32)) hx hb dX4_peel_1 (by decide) ?_
  refine lv_bipush (v := (12 : Int32)) hx hb dX4_peel_2 (by decide) ?_
  have hPc := hP.sub (ws' := (w0 cI cJ   )) [] rfl
  have hDc := hD.sub (ws' := (w0 cI cJ   )) [] (by decide) rfl
  refine fw_ci (wr := [((q 0), .inr (4, [.int nn0, .int ln0, .ref (q 1), .ref (q 2), .ref (q 3), .ref (q 4), .ref (q 5), .ref (q 6), .ref (q 7), .ref (q 8), .long up0, .long lo0])), ((q 1), .inl (cI, 12, .inl sa0)), ((q 2), .inl (cI, 12, .inl sb0)), ((q 3), .inl (cI, 12, .inl wg0)), ((q 4), .inl (cI, 12, .inl kt0)), ((q 5), .inl (cI, 12, .inl fr0)), ((q 6), .inl (cI, 7, .inl pt0)), ((q 7), .inl (cI, 49, .inl wl0)), ((q 8), .inl (cI, 49, .inl tn0))]) (w2 := fun u => (wM cI cJ q  nn0 ln0 sa0 sb0 wg0 kt0 fr0 pt0 wl0 tn0 up0 lo0)) [] [0, 1, 2, 3, 4, 5, 6, 7, 8] [0, 1, 2, 3, 4, 5, 6, 7, 8] (va_runS (As := [.int y1, .int (0 : Int32), .int (12 : Int32)]) (rest := []) ⟨hx, hb, hml, hown, hts⟩ (kX4_in l dC dI cI cJ  H.size   y1 (0 : Int32) (12 : Int32) (fw_be hq)) (va_cwS 3 hts gX4_peel_X4_in rfl rfl rfl (by decide +kernel) ⟨Nat.le_of_ble_eq_true rfl, Nat.le_of_ble_eq_true rfl⟩) ⟨fw_blind, fun U hU hW => fw_pre hPc hK hDc hN hU hW⟩ rfl rfl hl.1 rfl (lv_room (Nat.le_of_ble_eq_true rfl)) dX4_peel_4 ⟨Nat.zero_le _, Nat.zero_le _⟩) hP hD hS hA rfl rfl (by decide) (by decide) (by decide) (fun _ => rfl) (fun r_1 u H locs hw hP hD hS => ?_)
  obtain ⟨hw, n_3⟩ := hw
  have hq := fw_bs hw hq
  try dsimp only at hq
  refine lv_if_ne (tgt := 13) hx hb dX4_peel_7 (by decide) (fun c_4 => ?_) (fun c_4 => ?_)
  · have hq := fw_if c_4 hq
    refine lv_aload_n hx hb dX4_peel_13 rfl (lv_at hl 0 rfl) ?_
    have hPc := hP.sub (ws' := (wM cI cJ q  nn0 ln0 sa0 sb0 wg0 kt0 fr0 pt0 wl0 tn0 up0 lo0)) [0, 1, 2, 3, 4, 5, 6, 7, 8] rfl
    have hDc := hD.sub (ws' := (wM cI cJ q  nn0 ln0 sa0 sb0 wg0 kt0 fr0 pt0 wl0 tn0 up0 lo0)) [0, 1, 2, 3, 4, 5, 6, 7, 8] (by decide) rfl
    refine fw_ci (wr := []) (w2 := fun u => (wM cI cJ q  nn0 ln0 sa0 sb0 wg0 kt0 u.1 u.2 wl0 tn0 up0 lo0)) [0, 1, 2, 3, 4, 5, 6, 7, 8] [] [0, 1, 2, 3, 4, 5, 6, 7, 8] (va_runV (b := (q 0)) (As := []) (rest := []) ⟨hx, hb, hml, hown, hts⟩ (kX4_findForests l dC dI cI cJ q H.size  nn0 ln0 sa0 sb0 wg0 kt0 fr0 pt0 wl0 tn0 up0 lo0  (fw_be hq)) (cwV 0 hts gX4_peel_X4_findForests rfl rfl rfl (by decide +kernel) ⟨Nat.le_of_ble_eq_true rfl, Nat.le_of_ble_eq_true rfl⟩) ⟨fw_blind, va_recv hK hPc (ci := 4) (q0 := 0) rfl rfl, fun U hU hW => fw_pre hPc hK hDc hN hU hW⟩ rfl rfl hl.1 rfl (lv_room (Nat.le_of_ble_eq_true rfl)) dX4_peel_14 ⟨Nat.zero_le _, Nat.zero_le _⟩) hP hD hS hA rfl rfl (by decide) (by decide) (by decide) (fun _ => rfl) (fun r_7 u H locs hw hP hD hS => ?_)
    obtain ⟨fr_5, pt_6⟩ := u
    have hq := fw_bs hw hq
    try dsimp only at hq
    have hP : va_P (dC, dI) vwCl (wM cI cJ q  nn0 ln0 sa0 sb0 wg0 kt0 fr_5 pt_6 wl0 tn0 up0 lo0) H := hP
    have hD : va_D A (wM cI cJ q  nn0 ln0 sa0 sb0 wg0 kt0 fr_5 pt_6 wl0 tn0 up0 lo0) := hD
    refine lv_pop hx hb dX4_peel_17 rfl ?_
    refine lv_iconst (v := (0 : Int32)) hx hb dX4_peel_18 (by decide) ?_
    refine lv_istore_n (lv' := [(2, .int (0 : Int32)), (0, .ref (q 0)), (1, .int y1)]) hx hb dX4_peel_19 rfl hl (by decide) rfl (fun ls hl => ?_)
    obtain ⟨e_17, hw, hq⟩ := fw_bb hq
    refine L20 y1 fr_5 pt_6 e_17 (fun x2_15 kt_16 H locs ls he hP hD hS hl => ?_) fw_N (0 : Int32) kt0 H locs ls hw hP hD hS (lv_sub hl [1, 2, 0] rfl)
    subst he
    try dsimp only at hq
    refine lv_aload_n hx hb dX4_peel_60 rfl (lv_at hl 0 rfl) ?_
    have hPc := hP.sub (ws' := (wM cI cJ q  nn0 ln0 sa0 sb0 wg0 kt_16 fr_5 pt_6 wl0 tn0 up0 lo0)) [0, 1, 2, 3, 4, 5, 6, 7, 8] rfl
    have hDc := hD.sub (ws' := (wM cI cJ q  nn0 ln0 sa0 sb0 wg0 kt_16 fr_5 pt_6 wl0 tn0 up0 lo0)) [0, 1, 2, 3, 4, 5, 6, 7, 8] (by decide) rfl
    refine fw_ci (wr := []) (w2 := fun u => (wM cI cJ q  nn0 ln0 sa0 sb0 wg0 kt_16 fr_5 pt_6 wl0 tn0 up0 lo0)) [0, 1, 2, 3, 4, 5, 6, 7, 8] [] [0, 1, 2, 3, 4, 5, 6, 7, 8] (va_runV (b := (q 0)) (As := []) (rest := []) ⟨hx, hb, hml, hown, hts⟩ (kX4_keptMany l dC dI cI cJ q H.size  nn0 ln0 sa0 sb0 wg0 kt_16 fr_5 pt_6 wl0 tn0 up0 lo0  (fw_be hq)) (cwV 0 hts gX4_peel_X4_keptMany rfl rfl rfl (by decide +kernel) ⟨Nat.le_of_ble_eq_true rfl, Nat.le_of_ble_eq_true rfl⟩) ⟨fw_blind, va_recv hK hPc (ci := 4) (q0 := 0) rfl rfl, fun U hU hW => fw_pre hPc hK hDc hN hU hW⟩ rfl rfl hl.1 rfl (lv_room (Nat.le_of_ble_eq_true rfl)) dX4_peel_61 ⟨Nat.zero_le _, Nat.zero_le _⟩) hP hD hS hA rfl rfl (by decide) (by decide) (by decide) (fun _ => rfl) (fun r_18 u H locs hw hP hD hS => ?_)
    have hq := fw_bs hw hq
    try dsimp only at hq
    exact W.iret (v := r_18) hx hb hr (fun t ht hW => ⟨⟨r_18, (kt_16, fr_5, pt_6), rfl, hz.trans hq.symm, by rw [ht]; exact hP, hD⟩, hS.F ht⟩) hS.2.2 dX4_peel_64
  · have hq := fw_it c_4 hq
    refine lv_bipush (v := (-3 : Int32)) hx hb dX4_peel_10 (by decide) ?_
    exact W.iret (v := (-3 : Int32)) hx hb hr (fun t ht hW => ⟨⟨(-3 : Int32), (kt0, fr0, pt0), rfl, hz.trans hq.symm, by rw [ht]; exact hP, hD⟩, hS.F ht⟩) hS.2.2 dX4_peel_12
