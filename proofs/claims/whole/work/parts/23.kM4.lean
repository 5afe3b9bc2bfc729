/-! ===== contracts, by own program ===== -/
set_option maxHeartbeats 4000000 in
set_option maxRecDepth 100000 in
theorem kX4_fewest (l : Launch) (dC : Nat → ClassId) (dI : Nat → Nat → Nat) (cI cJ : ClassId) (q : Nat → Nat) (sz : Nat)  (nn0 : Int32) (ln0 : Int32) (sa0 : Nat → Int32) (sb0 : Nat → Int32) (wg0 : Nat → Int32) (kt0 : Nat → Int32) (fr0 : Nat → Int32) (pt0 : Nat → Int32) (wl0 : Nat → Int32) (tn0 : Nat → Int32) (up0 : Int64) (lo0 : Int64) (y1 : Int32) (y2 : Int32) (hd : ∃ z, pX4_fewest nn0 ln0 sa0 sb0 wg0 wl0 tn0 y1 y2 = some z) : Met l yX4_fewest wsX4_fewest ({ frames := 3, cells := 0, slots := 0, locals := 73 }) (fw_Pc (dC, dI) (fw_tys cI cJ) (wM cI cJ q  nn0 ln0 sa0 sb0 wg0 kt0 fr0 pt0 wl0 tn0 up0 lo0) ([.ref (q 0), .int y1, .int y2] : List Value) sz) (va_Qi (fun (r : Int32) (u : (Nat → Int32) × (Nat → Int32)) => pX4_fewest nn0 ln0 sa0 sb0 wg0 wl0 tn0 y1 y2 = some (r, u)) (fun u t => fw_B (dC, dI) (va_A (wM cI cJ q  nn0 ln0 sa0 sb0 wg0 kt0 fr0 pt0 wl0 tn0 up0 lo0) sz) (wM cI cJ q  nn0 ln0 sa0 sb0 wg0 kt0 fr0 pt0 u.1 u.2 up0 lo0) t) (va_A (wM cI cJ q  nn0 ln0 sa0 sb0 wg0 kt0 fr0 pt0 wl0 tn0 up0 lo0) sz)) 0 0 (va_A (wM cI cJ q  nn0 ln0 sa0 sb0 wg0 kt0 fr0 pt0 wl0 tn0 up0 lo0) sz) := by
  obtain ⟨z, hz⟩ := hd
  refine Met.ofW (cc := cX4_fewest) (maxL := 4) (ret := (some .int)) (by decide) rfl ?_
  intro p e s m args below meth c s₁ B hml hv
  obtain ⟨rfl, hsz, hP, hK, hD0, hN⟩ := hv
  have hx := B.exec
  have hb := B.bytes
  have hr := B.returns
  have hts := atoms_spec (ws := wsX4_fewest) B.pre
  have hown : s.vm.findClass RX4 = some m.cls := findClass_of_methodNamed B.named
  have hlocks := B.notSynchronized
  subst hsz
  have hD := hD0.self (sz := s.heap.size)
  generalize hAe : va_A (wM cI cJ q  nn0 ln0 sa0 sb0 wg0 kt0 fr0 pt0 wl0 tn0 up0 lo0) s.heap.size = A at hD ⊢
  have hA : ∀ q : Nat, s.heap.size ≤ q → A q := fun q h => by rw [← hAe]; exact Or.inr h
  have hq := hz
  dsimp only [pX4_fewest] at hq
  have hl := lv_entry (([.ref (q 0), .int y1, .int y2] : List Value)) (n := 4) (Nat.le_of_ble_eq_true rfl)
  rw [lg_entry_eq]
  generalize (lg_sl (([.ref (q 0), .int y1, .int y2] : List Value)) ++ List.replicate (4 - (lg_sl (([.ref (q 0), .int y1, .int y2] : List Value))).length) Slot.unset).toArray = ls at hl ⊢
  have hl : lv_has ls 4 [(0, .ref (q 0)), (1, .int y1), (2, .int y2)] := hl
  obtain ⟨H, hHe⟩ : ∃ H : Heap, H = s.heap := ⟨_, rfl⟩
  obtain ⟨locs, hLe⟩ : ∃ L : List Loc, L = [] := ⟨_, rfl⟩
  have hP : va_P (dC, dI) vwCl (wM cI cJ q  nn0 ln0 sa0 sb0 wg0 kt0 fr0 pt0 wl0 tn0 up0 lo0) H := by rw [hHe]; exact hP
  have hS : va_S A s.heap H locs := by rw [hHe, hLe]; exact va_S.rf
  show W p l e (headSpec wsX4_fewest ({ frames := 3, cells := 0, slots := 0, locals := 73 })).room s m ([.ref (q 0), .int y1, .int y2] : List Value).toArray below meth c s.heap [] 0 0 (MQ below (va_Qi (fun (r : Int32) (u : (Nat → Int32) × (Nat → Int32)) => pX4_fewest nn0 ln0 sa0 sb0 wg0 wl0 tn0 y1 y2 = some (r, u)) (fun u t => fw_B (dC, dI) A (wM cI cJ q  nn0 ln0 sa0 sb0 wg0 kt0 fr0 pt0 u.1 u.2 up0 lo0) t) A) ([.ref (q 0), .int y1, .int y2] : List Value).toArray s 0 0 A) (F0 m 0 ls [])
  rw [← hHe, ← hLe]
  refine lv_iload_n hx hb dX4_fewest_0 rfl (lv_at hl 1 rfl) ?_
  refine lv_iconst (v := (1 : Int32)) hx hb dX4_fewest_1 (by decide) ?_
  refine lv_bipush (v := (9 : Int32)) hx hb dX4_fewest_2 (by decide) ?_
  have hPc := hP.sub (ws' := (w0 cI cJ   )) [] rfl
  have hDc := hD.sub (ws' := (w0 cI cJ   )) [] (by decide) rfl
  refine fw_ci (wr := [((q 0), .inr (4, [.int nn0, .int ln0, .ref (q 1), .ref (q 2), .ref (q 3), .ref (q 4), .ref (q 5), .ref (q 6), .ref (q 7), .ref (q 8), .long up0, .long lo0])), ((q 1), .inl (cI, 12, .inl sa0)), ((q 2), .inl (cI, 12, .inl sb0)), ((q 3), .inl (cI, 12, .inl wg0)), ((q 4), .inl (cI, 12, .inl kt0)), ((q 5), .inl (cI, 12, .inl fr0)), ((q 6), .inl (cI, 7, .inl pt0)), ((q 7), .inl (cI, 49, .inl wl0)), ((q 8), .inl (cI, 49, .inl tn0))]) (w2 := fun u => (wM cI cJ q  nn0 ln0 sa0 sb0 wg0 kt0 fr0 pt0 wl0 tn0 up0 lo0)) [] [0, 1, 2, 3, 4, 5, 6, 7, 8] [0, 1, 2, 3, 4, 5, 6, 7, 8] (va_runS (As := [.int y1, .int (1 : Int32), .int (9 : Int32)]) (rest := []) ⟨hx, hb, hml, hown, hts⟩ (kX4_in l dC dI cI cJ  H.size   y1 (1 : Int32) (9 : Int32) (fw_be hq)) (va_cwS 3 hts gX4_fewest_X4_in rfl rfl rfl (by decide +kernel) ⟨Nat.le_of_ble_eq_true rfl, Nat.le_of_ble_eq_true rfl⟩) ⟨fw_blind, fun U hU hW => fw_pre hPc hK hDc hN hU hW⟩ rfl rfl hl.1 rfl (lv_room (Nat.le_of_ble_eq_true rfl)) dX4_fewest_4 ⟨Nat.zero_le _, Nat.zero_le _⟩) hP hD hS hA rfl rfl (by decide) (by decide) (by decide) (fun _ => rfl) (fun r_1 u H locs hw hP hD hS => ?_)
  obtain ⟨hw, n_3⟩ := hw
  have hq := fw_bs hw hq
  try dsimp only at hq
  refine lv_if_eq (tgt := 19) hx hb dX4_fewest_7 (by decide) (fun c_4 => ?_) (fun c_4 => ?_)
  · have hq := fw_it c_4 hq
    refine lv_bipush (v := (-3 : Int32)) hx hb dX4_fewest_19 (by decide) ?_
    exact W.iret (v := (-3 : Int32)) hx hb hr (fun t ht hW => ⟨⟨(-3 : Int32), (wl0, tn0), rfl, hz.trans hq.symm, by rw [ht]; exact hP, hD⟩, hS.F ht⟩) hS.2.2 dX4_fewest_21
  · have hq := fw_if c_4 hq
    refine lv_iload_n hx hb dX4_fewest_10 rfl (lv_at hl 2 rfl) ?_
    refine lv_iconst (v := (0 : Int32)) hx hb dX4_fewest_11 (by decide) ?_
    refine lv_iconst (v := (1 : Int32)) hx hb dX4_fewest_12 (by decide) ?_
    have hPc := hP.sub (ws' := (w0 cI cJ   )) [] rfl
    have hDc := hD.sub (ws' := (w0 cI cJ   )) [] (by decide) rfl
    refine fw_ci (wr := [((q 0), .inr (4, [.int nn0, .int ln0, .ref (q 1), .ref (q 2), .ref (q 3), .ref (q 4), .ref (q 5), .ref (q 6), .ref (q 7), .ref (q 8), .long up0, .long lo0])), ((q 1), .inl (cI, 12, .inl sa0)), ((q 2), .inl (cI, 12, .inl sb0)), ((q 3), .inl (cI, 12, .inl wg0)), ((q 4), .inl (cI, 12, .inl kt0)), ((q 5), .inl (cI, 12, .inl fr0)), ((q 6), .inl (cI, 7, .inl pt0)), ((q 7), .inl (cI, 49, .inl wl0)), ((q 8), .inl (cI, 49, .inl tn0))]) (w2 := fun u => (wM cI cJ q  nn0 ln0 sa0 sb0 wg0 kt0 fr0 pt0 wl0 tn0 up0 lo0)) [] [0, 1, 2, 3, 4, 5, 6, 7, 8] [0, 1, 2, 3, 4, 5, 6, 7, 8] (va_runS (As := [.int y2, .int (0 : Int32), .int (1 : Int32)]) (rest := []) ⟨hx, hb, hml, hown, hts⟩ (kX4_in l dC dI cI cJ  H.size   y2 (0 : Int32) (1 : Int32) (fw_be hq)) (va_cwS 3 hts gX4_fewest_X4_in rfl rfl rfl (by decide +kernel) ⟨Nat.le_of_ble_eq_true rfl, Nat.le_of_ble_eq_true rfl⟩) ⟨fw_blind, fun U hU hW => fw_pre hPc hK hDc hN hU hW⟩ rfl rfl hl.1 rfl (lv_room (Nat.le_of_ble_eq_true rfl)) dX4_fewest_13 ⟨Nat.zero_le _, Nat.zero_le _⟩) hP hD hS hA rfl rfl (by decide) (by decide) (by decide) (fun _ => rfl) (fun r_5 u H locs hw hP hD hS => ?_)
    obtain ⟨hw, n_7⟩ := hw
    have hq := fw_bs hw hq
    try dsimp only at hq
    refine lv_if_ne (tgt := 22) hx hb dX4_fewest_16 (by decide) (fun c_8 => ?_) (fun c_8 => ?_)
    · have hq := fw_if c_8 hq
      refine lv_aload_n hx hb dX4_fewest_22 rfl (lv_at hl 0 rfl) ?_
      refine lv_iload_n hx hb dX4_fewest_23 rfl (lv_at hl 1 rfl) ?_
      have hPc := hP.sub (ws' := (wM cI cJ q  nn0 ln0 sa0 sb0 wg0 kt0 fr0 pt0 wl0 tn0 up0 lo0)) [0, 1, 2, 3, 4, 5, 6, 7, 8] rfl
      have hDc := hD.sub (ws' := (wM cI cJ q  nn0 ln0 sa0 sb0 wg0 kt0 fr0 pt0 wl0 tn0 up0 lo0)) [0, 1, 2, 3, 4, 5, 6, 7, 8] (by decide) rfl
      refine fw_ci (wr := []) (w2 := fun u => (wM cI cJ q  nn0 ln0 sa0 sb0 wg0 kt0 fr0 pt0 u.1 u.2 up0 lo0)) [0, 1, 2, 3, 4, 5, 6, 7, 8] [] [0, 1, 2, 3, 4, 5, 6, 7, 8] (va_runV (b := (q 0)) (As := [.int y1]) (rest := []) ⟨hx, hb, hml, hown, hts⟩ (kX4_fewestBy l dC dI cI cJ q H.size  nn0 ln0 sa0 sb0 wg0 kt0 fr0 pt0 wl0 tn0 up0 lo0 y1 (fw_be hq)) (cwV 1 hts gX4_fewest_X4_fewestBy rfl rfl rfl (by decide +kernel) ⟨Nat.le_of_ble_eq_true rfl, Nat.le_of_ble_eq_true rfl⟩) ⟨fw_blind, va_recv hK hPc (ci := 4) (q0 := 0) rfl rfl, fun U hU hW => fw_pre hPc hK hDc hN hU hW⟩ rfl rfl hl.1 rfl (lv_room (Nat.le_of_ble_eq_true rfl)) dX4_fewest_24 ⟨Nat.zero_le _, Nat.zero_le _⟩) hP hD hS hA rfl rfl (by decide) (by decide) (by decide) (fun _ => rfl) (fun r_11 u H locs hw hP hD hS => ?_)
      obtain ⟨wl_9, tn_10⟩ := u
      have hq := fw_bs hw hq
      try dsimp only at hq
      have hP : va_P (dC, dI) vwCl (wM cI cJ q  nn0 ln0 sa0 sb0 wg0 kt0 fr0 pt0 wl_9 tn_10 up0 lo0) H := hP
      have hD : va_D A (wM cI cJ q  nn0 ln0 sa0 sb0 wg0 kt0 fr0 pt0 wl_9 tn_10 up0 lo0) := hD
      refine lv_istore_n (lv' := [(3, .int r_11), (0, .ref (q 0)), (1, .int y1), (2, .int y2)]) hx hb dX4_fewest_27 rfl hl (by decide) rfl (fun ls hl => ?_)
      refine lv_iload_n hx hb dX4_fewest_28 rfl (lv_at hl 3 rfl) ?_
      refine lv_if_ne (tgt := 39) hx hb dX4_fewest_29 (by decide) (fun c_13 => ?_) (fun c_13 => ?_)
      · have hq := fw_if c_13 hq
        refine lv_iload_n hx hb dX4_fewest_39 rfl (lv_at hl 0 rfl) ?_
        exact W.iret (v := r_11) hx hb hr (fun t ht hW => ⟨⟨r_11, (wl_9, tn_10), rfl, hz.trans hq.symm, by rw [ht]; exact hP, hD⟩, hS.F ht⟩) hS.2.2 dX4_fewest_40
      · have hq := fw_it c_13 hq
        refine lv_iload_n hx hb dX4_fewest_32 rfl (lv_at hl 0 rfl) ?_
        have hPc := hP.sub (ws' := (w0 cI cJ   )) [] rfl
        have hDc := hD.sub (ws' := (w0 cI cJ   )) [] (by decide) rfl
        refine fw_ci (wr := [((q 0), .inr (4, [.int nn0, .int ln0, .ref (q 1), .ref (q 2), .ref (q 3), .ref (q 4), .ref (q 5), .ref (q 6), .ref (q 7), .ref (q 8), .long up0, .long lo0])), ((q 1), .inl (cI, 12, .inl sa0)), ((q 2), .inl (cI, 12, .inl sb0)), ((q 3), .inl (cI, 12, .inl wg0)), ((q 4), .inl (cI, 12, .inl kt0)), ((q 5), .inl (cI, 12, .inl fr0)), ((q 6), .inl (cI, 7, .inl pt0)), ((q 7), .inl (cI, 49, .inl wl_9)), ((q 8), .inl (cI, 49, .inl tn_10))]) (w2 := fun u => (wM cI cJ q  nn0 ln0 sa0 sb0 wg0 kt0 fr0 pt0 wl_9 tn_10 up0 lo0)) [] [0, 1, 2, 3, 4, 5, 6, 7, 8] [0, 1, 2, 3, 4, 5, 6, 7, 8] (va_runS (As := [.int r_11]) (rest := []) ⟨hx, hb, hml, hown, hts⟩ (kX4_many l dC dI cI cJ  H.size   r_11 (fw_be hq)) (va_cwS 1 hts gX4_fewest_X4_many rfl rfl rfl (by decide +kernel) ⟨Nat.le_of_ble_eq_true rfl, Nat.le_of_ble_eq_true rfl⟩) ⟨fw_blind, fun U hU hW => fw_pre hPc hK hDc hN hU hW⟩ rfl rfl hl.1 rfl (lv_room (Nat.le_of_ble_eq_true rfl)) dX4_fewest_33 ⟨Nat.zero_le _, Nat.zero_le _⟩) hP hD hS hA rfl rfl (by decide) (by decide) (by decide) (fun _ => rfl) (fun r_14 u H locs hw hP hD hS => ?_)
        have hq := fw_bs hw hq
        try dsimp only at hq
        refine lv_goto (tgt := 40) hx hb dX4_fewest_36 (by decide) ?_
        exact W.iret (v := r_14) hx hb hr (fun t ht hW => ⟨⟨r_14, (wl_9, tn_10), rfl, hz.trans hq.symm, by rw [ht]; exact hP, hD⟩, hS.F ht⟩) hS.2.2 dX4_fewest_40
    · have hq := fw_it c_8 hq
      refine lv_bipush (v := (-3 : Int32)) hx hb dX4_fewest_19 (by decide) ?_
      exact W.iret (v := (-3 : Int32)) hx hb hr (fun t ht hW => ⟨⟨(-3 : Int32), (wl0, tn0), rfl, hz.trans hq.symm, by rw [ht]; exact hP, hD⟩, hS.F ht⟩) hS.2.2 dX4_fewest_21
set_option maxHeartbeats 4000000 in
set_option maxRecDepth 100000 in
theorem kX4_thin (l : Launch) (dC : Nat → ClassId) (dI : Nat → Nat → Nat) (cI cJ : ClassId) (q : Nat → Nat) (sz : Nat)  (nn0 : Int32) (ln0 : Int32) (sa0 : Nat → Int32) (sb0 : Nat → Int32) (wg0 : Nat → Int32) (kt0 : Nat → Int32) (fr0 : Nat → Int32) (pt0 : Nat → Int32) (wl0 : Nat → Int32) (tn0 : Nat → Int32) (up0 : Int64) (lo0 : Int64) (y1 : Int32) (hd : ∃ z, pX4_thin nn0 ln0 sa0 sb0 wg0 kt0 wl0 tn0 y1 = some z) : Met l yX4_thin wsX4_thin ({ frames := 3, cells := 0, slots := 0, locals := 73 }) (fw_Pc (dC, dI) (fw_tys cI cJ) (wM cI cJ q  nn0 ln0 sa0 sb0 wg0 kt0 fr0 pt0 wl0 tn0 up0 lo0) ([.ref (q 0), .int y1] : List Value) sz) (va_Qi (fun (r : Int32) (u : (Nat → Int32) × (Nat → Int32) × (Nat → Int32)) => pX4_thin nn0 ln0 sa0 sb0 wg0 kt0 wl0 tn0 y1 = some (r, u)) (fun u t => fw_B (dC, dI) (va_A (wM cI cJ q  nn0 ln0 sa0 sb0 wg0 kt0 fr0 pt0 wl0 tn0 up0 lo0) sz) (wM cI cJ q  nn0 ln0 sa0 sb0 wg0 u.1 fr0 pt0 u.2.1 u.2.2 up0 lo0) t) (va_A (wM cI cJ q  nn0 ln0 sa0 sb0 wg0 kt0 fr0 pt0 wl0 tn0 up0 lo0) sz)) 0 0 (va_A (wM cI cJ q  nn0 ln0 sa0 sb0 wg0 kt0 fr0 pt0 wl0 tn0 up0 lo0) sz) := by
  obtain ⟨z, hz⟩ := hd
  refine Met.ofW (cc := cX4_thin) (maxL := 4) (ret := (some .int)) (by decide) rfl ?_
  intro p e s m args below meth c s₁ B hml hv
  obtain ⟨rfl, hsz, hP, hK, hD0, hN⟩ := hv
  have hx := B.exec
  have hb := B.bytes
  have hr := B.returns
  have hts := atoms_spec (ws := wsX4_thin) B.pre
  have hown : s.vm.findClass RX4 = some m.cls := findClass_of_methodNamed B.named
  have hlocks := B.notSynchronized
  subst hsz
  have hD := hD0.self (sz := s.heap.size)
  generalize hAe : va_A (wM cI cJ q  nn0 ln0 sa0 sb0 wg0 kt0 fr0 pt0 wl0 tn0 up0 lo0) s.heap.size = A at hD ⊢
  have hA : ∀ q : Nat, s.heap.size ≤ q → A q := fun q h => by rw [← hAe]; exact Or.inr h
  have hinX4 : ∀ w ∈ u_ws RX4 TX4 12, w ∈ wsX4_thin := by decide +kernel
  have hf20 := hts (.fieldLink RX4 20 "FewLinesModel" "weight" "[I") (by decide +kernel)
  have hf23 := hts (.fieldLink RX4 23 "FewLinesModel" "kept" "[I") (by decide +kernel)
  have hf42 := hts (.fieldLink RX4 42 "FewLinesModel" "lines" "I") (by decide +kernel)
  have L21 : ∀ (x2 : Int32) (wl : Nat → Int32) (tn : Nat → Int32) (e9 : Int32 × (Nat → Int32)), (∀ (x3' : Int32) (kt' : Nat → Int32) (H : Heap) (locs : List Loc) (ls : Array Slot), e9 = (x3', kt') → va_P (dC, dI) vwCl (wM cI cJ q  nn0 ln0 sa0 sb0 wg0 kt' fr0 pt0 wl tn up0 lo0) H → va_D A (wM cI cJ q  nn0 ln0 sa0 sb0 wg0 kt' fr0 pt0 wl tn up0 lo0) → va_S A s.heap H locs → lv_has ls 4 [(0, .ref (q 0)), (2, .int x2), (3, .int x3')] → W p l e (headSpec wsX4_thin ({ frames := 3, cells := 0, slots := 0, locals := 73 })).room s m ([.ref (q 0), .int y1] : List Value).toArray below meth c H locs 0 0 (MQ below (va_Qi (fun (r : Int32) (u : (Nat → Int32) × (Nat → Int32) × (Nat → Int32)) => pX4_thin nn0 ln0 sa0 sb0 wg0 kt0 wl0 tn0 y1 = some (r, u)) (fun u t => fw_B (dC, dI) A (wM cI cJ q  nn0 ln0 sa0 sb0 wg0 u.1 fr0 pt0 u.2.1 u.2.2 up0 lo0) t) A) ([.ref (q 0), .int y1] : List Value).toArray s 0 0 A) (F0 m 60 ls [])) → ∀ (n9 : Nat) (x3 : Int32) (kt : Nat → Int32) (H : Heap) (locs : List Loc) (ls : Array Slot), fw_wh (pX4_thin_21 x2 ln0 wg0) n9 (x3, kt) = some e9 → va_P (dC, dI) vwCl (wM cI cJ q  nn0 ln0 sa0 sb0 wg0 kt fr0 pt0 wl tn up0 lo0) H → va_D A (wM cI cJ q  nn0 ln0 sa0 sb0 wg0 kt fr0 pt0 wl tn up0 lo0) → va_S A s.heap H locs → lv_has ls 4 [(0, .ref (q 0)), (2, .int x2), (3, .int x3)] → W p l e (headSpec wsX4_thin ({ frames := 3, cells := 0, slots := 0, locals := 73 })).room s m ([.ref (q 0), .int y1] : List Value).toArray below meth c H locs 0 0 (MQ below (va_Qi (fun (r : Int32) (u : (Nat → Int32) × (Nat → Int32) × (Nat → Int32)) => pX4_thin nn0 ln0 sa0 sb0 wg0 kt0 wl0 tn0 y1 = some (r, u)) (fun u t => fw_B (dC, dI) A (wM cI cJ q  nn0 ln0 sa0 sb0 wg0 u.1 fr0 pt0 u.2.1 u.2.2 up0 lo0) t) A) ([.ref (q 0), .int y1] : List Value).toArray s 0 0 A) (F0 m 21 ls []) := by
    intro x2 wl tn e9 hkk n9
    induction n9 with
    | zero => exact fun _ _ H locs ls hq => (fw_wh0 hq).elim
    | succ n9 ih =>
      intro x3 kt H locs ls hq hP hD hS hl
      obtain ⟨w9, hq, hwI, hwE⟩ := fw_wh1 hq
      dsimp only [pX4_thin_21] at hq
      refine lv_iload_n hx hb dX4_thin_21 rfl (lv_at hl 2 rfl) ?_
      refine lv_aload_n hx hb dX4_thin_22 rfl (lv_at hl 0 rfl) ?_
      refine va_get (D := (dC, dI)) (ci := 4) (v := .int ln0) (C := RX4) (T := TX4) (N := 12) hx hb hts hinX4 hown hK hP 0 rfl rfl 1 (by decide) hf42 (fun _ h9 => h9) rfl dX4_thin_23 ?_
      refine lv_icmp_ge (tgt := 60) hx hb dX4_thin_26 (by decide) (fun c_9 => ?_) (fun c_9 => ?_)
      · have hq := fw_it c_9 hq
        exact hkk x3 kt H locs ls (hwE _ (Option.some.inj hq).symm) hP hD hS (lv_sub hl [0, 1, 2] rfl)
      · have hq := fw_if c_9 hq
        refine lv_aload_n hx hb dX4_thin_29 rfl (lv_at hl 0 rfl) ?_
        refine va_get (D := (dC, dI)) (ci := 4) (v := .ref (q 4)) (C := RX4) (T := TX4) (N := 12) hx hb hts hinX4 hown hK hP 0 rfl rfl 5 (by decide) hf23 (fun _ h9 => h9) rfl dX4_thin_30 ?_
        refine lv_iload_n hx hb dX4_thin_33 rfl (lv_at hl 2 rfl) ?_
        refine lv_iload_n hx hb dX4_thin_34 rfl (lv_at hl 1 rfl) ?_
        refine lv_iload_n hx hb dX4_thin_35 rfl (lv_at hl 2 rfl) ?_
        refine lv_ishr hx hb dX4_thin_36 ?_
        refine lv_iconst (v := (1 : Int32)) hx hb dX4_thin_37 (by decide) ?_
        refine lv_iand hx hb dX4_thin_38 ?_
        refine lv_iconst (v := (1 : Int32)) hx hb dX4_thin_39 (by decide) ?_
        refine lv_icmp_ne (tgt := 52) hx hb dX4_thin_40 (by decide) (fun c_10 => ?_) (fun c_10 => ?_)
        · have hq := fw_if c_10 hq
          refine lv_iconst (v := (0 : Int32)) hx hb dX4_thin_52 (by decide) ?_
          obtain ⟨h_11, hq⟩ := fw_ck_s hq
          refine va_iast hx hb hK hP hD hS 4 0 rfl rfl h_11 dX4_thin_53 (fun H locs hP hD hS => ?_)
          have hP : va_P (dC, dI) vwCl (wM cI cJ q  nn0 ln0 sa0 sb0 wg0 (upd kt (x3).toNatClampNeg (0 : Int32)) fr0 pt0 wl tn up0 lo0) H := hP
          have hD : va_D A (wM cI cJ q  nn0 ln0 sa0 sb0 wg0 (upd kt (x3).toNatClampNeg (0 : Int32)) fr0 pt0 wl tn up0 lo0) := hD
          refine lv_iinc (v := (x3 + (1 : Int32))) (lv' := [(3, .int (x3 + (1 : Int32))), (0, .ref (q 0)), (2, .int x2)]) hx hb dX4_thin_54 hl (k := 2) rfl rfl (by decide) rfl (fun ls hl => ?_)
          refine lv_goto (tgt := 21) hx hb dX4_thin_57 (by decide) ?_
          exact ih (x3 + (1 : Int32)) (upd kt (x3).toNatClampNeg (0 : Int32)) H locs ls (hwI _ (Option.some.inj hq).symm) hP hD hS (lv_sub hl [1, 2, 0] rfl)
        · have hq := fw_it c_10 hq
          refine lv_aload_n hx hb dX4_thin_43 rfl (lv_at hl 0 rfl) ?_
          refine va_get (D := (dC, dI)) (ci := 4) (v := .ref (q 3)) (C := RX4) (T := TX4) (N := 12) hx hb hts hinX4 hown hK hP 0 rfl rfl 4 (by decide) hf20 (fun _ h9 => h9) rfl dX4_thin_44 ?_
          refine lv_iload_n hx hb dX4_thin_47 rfl (lv_at hl 2 rfl) ?_
          obtain ⟨h_12, hq⟩ := fw_ck_s hq
          refine va_iald hx hb hK hP 3 0 rfl rfl h_12 dX4_thin_48 ?_
          refine lv_goto (tgt := 53) hx hb dX4_thin_49 (by decide) ?_
          obtain ⟨h_13, hq⟩ := fw_ck_s hq
          refine va_iast hx hb hK hP hD hS 4 0 rfl rfl h_13 dX4_thin_53 (fun H locs hP hD hS => ?_)
          have hP : va_P (dC, dI) vwCl (wM cI cJ q  nn0 ln0 sa0 sb0 wg0 (upd kt (x3).toNatClampNeg (wg0 (x3).toNatClampNeg)) fr0 pt0 wl tn up0 lo0) H := hP
          have hD : va_D A (wM cI cJ q  nn0 ln0 sa0 sb0 wg0 (upd kt (x3).toNatClampNeg (wg0 (x3).toNatClampNeg)) fr0 pt0 wl tn up0 lo0) := hD
          refine lv_iinc (v := (x3 + (1 : Int32))) (lv' := [(3, .int (x3 + (1 : Int32))), (0, .ref (q 0)), (2, .int x2)]) hx hb dX4_thin_54 hl (k := 2) rfl rfl (by decide) rfl (fun ls hl => ?_)
          refine lv_goto (tgt := 21) hx hb dX4_thin_57 (by decide) ?_
          exact ih (x3 + (1 : Int32)) (upd kt (x3).toNatClampNeg (wg0 (x3).toNatClampNeg)) H locs ls (hwI _ (Option.some.inj hq).symm) hP hD hS (lv_sub hl [1, 2, 0] rfl)
  have hq := hz
  dsimp only [pX4_thin] at hq
  have hl := lv_entry (([.ref (q 0), .int y1] : List Value)) (n := 4) (Nat.le_of_ble_eq_true rfl)
  rw [lg_entry_eq]
  generalize (lg_sl (([.ref (q 0), .int y1] : List Value)) ++ List.replicate (4 - (lg_sl (([.ref (q 0), .int y1] : List Value))).length) Slot.unset).toArray = ls at hl ⊢
  have hl : lv_has ls 4 [(0, .ref (q 0)), (1, .int y1)] := hl
  obtain ⟨H, hHe⟩ : ∃ H : Heap, H = s.heap := ⟨_, rfl⟩
  obtain ⟨locs, hLe⟩ : ∃ L : List Loc, L = [] := ⟨_, rfl⟩
  have hP : va_P (dC, dI) vwCl (wM cI cJ q  nn0 ln0 sa0 sb0 wg0 kt0 fr0 pt0 wl0 tn0 up0 lo0) H := by rw [hHe]; exact hP
  have hS : va_S A s.heap H locs := by rw [hHe, hLe]; exact va_S.rf
  show W p l e (headSpec wsX4_thin ({ frames := 3, cells := 0, slots := 0, locals := 73 })).room s m ([.ref (q 0), .int y1] : List Value).toArray below meth c s.heap [] 0 0 (MQ below (va_Qi (fun (r : Int32) (u : (Nat → Int32) × (Nat → Int32) × (Nat → Int32)) => pX4_thin nn0 ln0 sa0 sb0 wg0 kt0 wl0 tn0 y1 = some (r, u)) (fun u t => fw_B (dC, dI) A (wM cI cJ q  nn0 ln0 sa0 sb0 wg0 u.1 fr0 pt0 u.2.1 u.2.2 up0 lo0) t) A) ([.ref (q 0), .int y1] : List Value).toArray s 0 0 A) (F0 m 0 ls [])
  rw [← hHe, ← hLe]
  refine lv_iload_n hx hb dX4_thin_0 rfl (lv_at hl 1 rfl) ?_
  refine lv_iconst (v := (1 : Int32)) hx hb dX4_thin_1 (by decide) ?_
  refine lv_bipush (v := (9 : Int32)) hx hb dX4_thin_2 (by decide) ?_
  have hPc := hP.sub (ws' := (w0 cI cJ   )) [] rfl
  have hDc := hD.sub (ws' := (w0 cI cJ   )) [] (by decide) rfl
  refine fw_ci (wr := [((q 0), .inr (4, [.int nn0, .int ln0, .ref (q 1), .ref (q 2), .ref (q 3), .ref (q 4), .ref (q 5), .ref (q 6), .ref (q 7), .ref (q 8), .long up0, .long lo0])), ((q 1), .inl (cI, 12, .inl sa0)), ((q 2), .inl (cI, 12, .inl sb0)), ((q 3), .inl (cI, 12, .inl wg0)), ((q 4), .inl (cI, 12, .inl kt0)), ((q 5), .inl (cI, 12, .inl fr0)), ((q 6), .inl (cI, 7, .inl pt0)), ((q 7), .inl (cI, 49, .inl wl0)), ((q 8), .inl (cI, 49, .inl tn0))]) (w2 := fun u => (wM cI cJ q  nn0 ln0 sa0 sb0 wg0 kt0 fr0 pt0 wl0 tn0 up0 lo0)) [] [0, 1, 2, 3, 4, 5, 6, 7, 8] [0, 1, 2, 3, 4, 5, 6, 7, 8] (va_runS (As := [.int y1, .int (1 : Int32), .int (9 : Int32)]) (rest := []) ⟨hx, hb, hml, hown, hts⟩ (kX4_in l dC dI cI cJ  H.size   y1 (1 : Int32) (9 : Int32) (fw_be hq)) (va_cwS 3 hts gX4_thin_X4_in rfl rfl rfl (by decide +kernel) ⟨Nat.le_of_ble_eq_true rfl, Nat.le_of_ble_eq_true rfl⟩) ⟨fw_blind, fun U hU hW => fw_pre hPc hK hDc hN hU hW⟩ rfl rfl hl.1 rfl (lv_room (Nat.le_of_ble_eq_true rfl)) dX4_thin_4 ⟨Nat.zero_le _, Nat.zero_le _⟩) hP hD hS hA rfl rfl (by decide) (by decide) (by decide) (fun _ => rfl) (fun r_1 u H locs hw hP hD hS => ?_)
  obtain ⟨hw, n_3⟩ := hw
  have hq := fw_bs hw hq
  try dsimp only at hq
  refine lv_if_ne (tgt := 13) hx hb dX4_thin_7 (by decide) (fun c_4 => ?_) (fun c_4 => ?_)
  · have hq := fw_if c_4 hq
    refine lv_aload_n hx hb dX4_thin_13 rfl (lv_at hl 0 rfl) ?_
    refine lv_iload_n hx hb dX4_thin_14 rfl (lv_at hl 1 rfl) ?_
    have hPc := hP.sub (ws' := (wM cI cJ q  nn0 ln0 sa0 sb0 wg0 kt0 fr0 pt0 wl0 tn0 up0 lo0)) [0, 1, 2, 3, 4, 5, 6, 7, 8] rfl
    have hDc := hD.sub (ws' := (wM cI cJ q  nn0 ln0 sa0 sb0 wg0 kt0 fr0 pt0 wl0 tn0 up0 lo0)) [0, 1, 2, 3, 4, 5, 6, 7, 8] (by decide) rfl
    refine fw_ci (wr := []) (w2 := fun u => (wM cI cJ q  nn0 ln0 sa0 sb0 wg0 kt0 fr0 pt0 u.1 u.2 up0 lo0)) [0, 1, 2, 3, 4, 5, 6, 7, 8] [] [0, 1, 2, 3, 4, 5, 6, 7, 8] (va_runV (b := (q 0)) (As := [.int y1]) (rest := []) ⟨hx, hb, hml, hown, hts⟩ (kX4_fewestBy l dC dI cI cJ q H.size  nn0 ln0 sa0 sb0 wg0 kt0 fr0 pt0 wl0 tn0 up0 lo0 y1 (fw_be hq)) (cwV 1 hts gX4_thin_X4_fewestBy rfl rfl rfl (by decide +kernel) ⟨Nat.le_of_ble_eq_true rfl, Nat.le_of_ble_eq_true rfl⟩) ⟨fw_blind, va_recv hK hPc (ci := 4) (q0 := 0) rfl rfl, fun U hU hW => fw_pre hPc hK hDc hN hU hW⟩ rfl rfl hl.1 rfl (lv_room (Nat.le_of_ble_eq_true rfl)) dX4_thin_15 ⟨Nat.zero_le _, Nat.zero_le _⟩) hP hD hS hA rfl rfl (by decide) (by decide) (by decide) (fun _ => rfl) (fun r_7 u H locs hw hP hD hS => ?_)
    obtain ⟨wl_5, tn_6⟩ := u
    have hq := fw_bs hw hq
    try dsimp only at hq
    have hP : va_P (dC, dI) vwCl (wM cI cJ q  nn0 ln0 sa0 sb0 wg0 kt0 fr0 pt0 wl_5 tn_6 up0 lo0) H := hP
    have hD : va_D A (wM cI cJ q  nn0 ln0 sa0 sb0 wg0 kt0 fr0 pt0 wl_5 tn_6 up0 lo0) := hD
    refine lv_istore_n (lv' := [(2, .int r_7), (0, .ref (q 0)), (1, .int y1)]) hx hb dX4_thin_18 rfl hl (by decide) rfl (fun ls hl => ?_)
    refine lv_iconst (v := (0 : Int32)) hx hb dX4_thin_19 (by decide) ?_
    refine lv_istore_n (lv' := [(3, .int (0 : Int32)), (2, .int r_7), (0, .ref (q 0)), (1, .int y1)]) hx hb dX4_thin_20 rfl hl (by decide) rfl (fun ls hl => ?_)
    obtain ⟨e_16, hw, hq⟩ := fw_bb hq
    refine L21 r_7 wl_5 tn_6 e_16 (fun x3_14 kt_15 H locs ls he hP hD hS hl => ?_) fw_N (0 : Int32) kt0 H locs ls hw hP hD hS (lv_sub hl [2, 1, 0] rfl)
    subst he
    try dsimp only at hq
    refine lv_iload_n hx hb dX4_thin_60 rfl (lv_at hl 1 rfl) ?_
    have hPc := hP.sub (ws' := (w0 cI cJ   )) [] rfl
    have hDc := hD.sub (ws' := (w0 cI cJ   )) [] (by decide) rfl
    refine fw_ci (wr := [((q 0), .inr (4, [.int nn0, .int ln0, .ref (q 1), .ref (q 2), .ref (q 3), .ref (q 4), .ref (q 5), .ref (q 6), .ref (q 7), .ref (q 8), .long up0, .long lo0])), ((q 1), .inl (cI, 12, .inl sa0)), ((q 2), .inl (cI, 12, .inl sb0)), ((q 3), .inl (cI, 12, .inl wg0)), ((q 4), .inl (cI, 12, .inl kt_15)), ((q 5), .inl (cI, 12, .inl fr0)), ((q 6), .inl (cI, 7, .inl pt0)), ((q 7), .inl (cI, 49, .inl wl_5)), ((q 8), .inl (cI, 49, .inl tn_6))]) (w2 := fun u => (wM cI cJ q  nn0 ln0 sa0 sb0 wg0 kt_15 fr0 pt0 wl_5 tn_6 up0 lo0)) [] [0, 1, 2, 3, 4, 5, 6, 7, 8] [0, 1, 2, 3, 4, 5, 6, 7, 8] (va_runS (As := [.int r_7]) (rest := []) ⟨hx, hb, hml, hown, hts⟩ (kX4_many l dC dI cI cJ  H.size   r_7 (fw_be hq)) (va_cwS 1 hts gX4_thin_X4_many rfl rfl rfl (by decide +kernel) ⟨Nat.le_of_ble_eq_true rfl, Nat.le_of_ble_eq_true rfl⟩) ⟨fw_blind, fun U hU hW => fw_pre hPc hK hDc hN hU hW⟩ rfl rfl hl.1 rfl (lv_room (Nat.le_of_ble_eq_true rfl)) dX4_thin_61 ⟨Nat.zero_le _, Nat.zero_le _⟩) hP hD hS hA rfl rfl (by decide) (by decide) (by decide) (fun _ => rfl) (fun r_17 u H locs hw hP hD hS => ?_)
    have hq := fw_bs hw hq
    try dsimp only at hq
    exact W.iret (v := r_17) hx hb hr (fun t ht hW => ⟨⟨r_17, (kt_15, wl_5, tn_6), rfl, hz.trans hq.symm, by rw [ht]; exact hP, hD⟩, hS.F ht⟩) hS.2.2 dX4_thin_64
  · have hq := fw_it c_4 hq
    refine lv_bipush (v := (-3 : Int32)) hx hb dX4_thin_10 (by decide) ?_
    exact W.iret (v := (-3 : Int32)) hx hb hr (fun t ht hW => ⟨⟨(-3 : Int32), (kt0, wl0, tn0), rfl, hz.trans hq.symm, by rw [ht]; exact hP, hD⟩, hS.F ht⟩) hS.2.2 dX4_thin_12
set_option maxHeartbeats 4000000 in
set_option maxRecDepth 100000 in
theorem kX4_far (l : Launch) (dC : Nat → ClassId) (dI : Nat → Nat → Nat) (cI cJ : ClassId) (q : Nat → Nat) (sz : Nat)  (nn0 : Int32) (ln0 : Int32) (sa0 : Nat → Int32) (sb0 : Nat → Int32) (wg0 : Nat → Int32) (kt0 : Nat → Int32) (fr0 : Nat → Int32) (pt0 : Nat → Int32) (wl0 : Nat → Int32) (tn0 : Nat → Int32) (up0 : Int64) (lo0 : Int64) (y1 : Int32) (y2 : Int32) (y3 : Int32) (hd : ∃ z, pX4_far nn0 ln0 sa0 sb0 wg0 kt0 wl0 y1 y2 y3 = some z) : Met l yX4_far wsX4_far ({ frames := 2, cells := 0, slots := 0, locals := 43 }) (fw_Pc (dC, dI) (fw_tys cI cJ) (wM cI cJ q  nn0 ln0 sa0 sb0 wg0 kt0 fr0 pt0 wl0 tn0 up0 lo0) ([.ref (q 0), .int y1, .int y2, .int y3] : List Value) sz) (va_Qi (fun (r : Int32) (u : (Nat → Int32)) => pX4_far nn0 ln0 sa0 sb0 wg0 kt0 wl0 y1 y2 y3 = some (r, u)) (fun u t => fw_B (dC, dI) (va_A (wM cI cJ q  nn0 ln0 sa0 sb0 wg0 kt0 fr0 pt0 wl0 tn0 up0 lo0) sz) (wM cI cJ q  nn0 ln0 sa0 sb0 wg0 kt0 fr0 pt0 u tn0 up0 lo0) t) (va_A (wM cI cJ q  nn0 ln0 sa0 sb0 wg0 kt0 fr0 pt0 wl0 tn0 up0 lo0) sz)) 0 0 (va_A (wM cI cJ q  nn0 ln0 sa0 sb0 wg0 kt0 fr0 pt0 wl0 tn0 up0 lo0) sz) := by
  obtain ⟨z, hz⟩ := hd
  refine Met.ofW (cc := cX4_far) (maxL := 4) (ret := (some .int)) (by decide) rfl ?_
  intro p e s m args below meth c s₁ B hml hv
  obtain ⟨rfl, hsz, hP, hK, hD0, hN⟩ := hv
  have hx := B.exec
  have hb := B.bytes
  have hr := B.returns
  have hts := atoms_spec (ws := wsX4_far) B.pre
  have hown : s.vm.findClass RX4 = some m.cls := findClass_of_methodNamed B.named
  have hlocks := B.notSynchronized
  subst hsz
  have hD := hD0.self (sz := s.heap.size)
  generalize hAe : va_A (wM cI cJ q  nn0 ln0 sa0 sb0 wg0 kt0 fr0 pt0 wl0 tn0 up0 lo0) s.heap.size = A at hD ⊢
  have hA : ∀ q : Nat, s.heap.size ≤ q → A q := fun q h => by rw [← hAe]; exact Or.inr h
  have hinX4 : ∀ w ∈ u_ws RX4 TX4 12, w ∈ wsX4_far := by decide +kernel
  have hf32 := hts (.fieldLink RX4 32 "FewLinesModel" "whole" "[I") (by decide +kernel)
  have hf42 := hts (.fieldLink RX4 42 "FewLinesModel" "lines" "I") (by decide +kernel)
  have hq := hz
  dsimp only [pX4_far] at hq
  have hl := lv_entry (([.ref (q 0), .int y1, .int y2, .int y3] : List Value)) (n := 4) (Nat.le_of_ble_eq_true rfl)
  rw [lg_entry_eq]
  generalize (lg_sl (([.ref (q 0), .int y1, .int y2, .int y3] : List Value)) ++ List.replicate (4 - (lg_sl (([.ref (q 0), .int y1, .int y2, .int y3] : List Value))).length) Slot.unset).toArray = ls at hl ⊢
  have hl : lv_has ls 4 [(0, .ref (q 0)), (1, .int y1), (2, .int y2), (3, .int y3)] := hl
  obtain ⟨H, hHe⟩ : ∃ H : Heap, H = s.heap := ⟨_, rfl⟩
  obtain ⟨locs, hLe⟩ : ∃ L : List Loc, L = [] := ⟨_, rfl⟩
  have hP : va_P (dC, dI) vwCl (wM cI cJ q  nn0 ln0 sa0 sb0 wg0 kt0 fr0 pt0 wl0 tn0 up0 lo0) H := by rw [hHe]; exact hP
  have hS : va_S A s.heap H locs := by rw [hHe, hLe]; exact va_S.rf
  show W p l e (headSpec wsX4_far ({ frames := 2, cells := 0, slots := 0, locals := 43 })).room s m ([.ref (q 0), .int y1, .int y2, .int y3] : List Value).toArray below meth c s.heap [] 0 0 (MQ below (va_Qi (fun (r : Int32) (u : (Nat → Int32)) => pX4_far nn0 ln0 sa0 sb0 wg0 kt0 wl0 y1 y2 y3 = some (r, u)) (fun u t => fw_B (dC, dI) A (wM cI cJ q  nn0 ln0 sa0 sb0 wg0 kt0 fr0 pt0 u tn0 up0 lo0) t) A) ([.ref (q 0), .int y1, .int y2, .int y3] : List Value).toArray s 0 0 A) (F0 m 0 ls [])
  rw [← hHe, ← hLe]
  refine lv_aload_n hx hb dX4_far_0 rfl (lv_at hl 0 rfl) ?_
  refine lv_iload_n hx hb dX4_far_1 rfl (lv_at hl 1 rfl) ?_
  have hPc := hP.sub (ws' := (wM cI cJ q  nn0 ln0 sa0 sb0 wg0 kt0 fr0 pt0 wl0 tn0 up0 lo0)) [0, 1, 2, 3, 4, 5, 6, 7, 8] rfl
  have hDc := hD.sub (ws' := (wM cI cJ q  nn0 ln0 sa0 sb0 wg0 kt0 fr0 pt0 wl0 tn0 up0 lo0)) [0, 1, 2, 3, 4, 5, 6, 7, 8] (by decide) rfl
  refine fw_ci (wr := []) (w2 := fun u => (wM cI cJ q  nn0 ln0 sa0 sb0 wg0 kt0 fr0 pt0 wl0 tn0 up0 lo0)) [0, 1, 2, 3, 4, 5, 6, 7, 8] [] [0, 1, 2, 3, 4, 5, 6, 7, 8] (va_runV (b := (q 0)) (As := [.int y1]) (rest := []) ⟨hx, hb, hml, hown, hts⟩ (kX4_isNode l dC dI cI cJ q H.size  nn0 ln0 sa0 sb0 wg0 kt0 fr0 pt0 wl0 tn0 up0 lo0 y1 (fw_be hq)) (cwV 1 hts gX4_far_X4_isNode rfl rfl rfl (by decide +kernel) ⟨Nat.le_of_ble_eq_true rfl, Nat.le_of_ble_eq_true rfl⟩) ⟨fw_blind, va_recv hK hPc (ci := 4) (q0 := 0) rfl rfl, fun U hU hW => fw_pre hPc hK hDc hN hU hW⟩ rfl rfl hl.1 rfl (lv_room (Nat.le_of_ble_eq_true rfl)) dX4_far_2 ⟨Nat.zero_le _, Nat.zero_le _⟩) hP hD hS hA rfl rfl (by decide) (by decide) (by decide) (fun _ => rfl) (fun r_1 u H locs hw hP hD hS => ?_)
  obtain ⟨hw, n_3⟩ := hw
  have hq := fw_bs hw hq
  try dsimp only at hq
  refine lv_if_eq (tgt := 16) hx hb dX4_far_5 (by decide) (fun c_4 => ?_) (fun c_4 => ?_)
  · have hq := fw_it c_4 hq
    refine lv_bipush (v := (-2 : Int32)) hx hb dX4_far_16 (by decide) ?_
    exact W.iret (v := (-2 : Int32)) hx hb hr (fun t ht hW => ⟨⟨(-2 : Int32), wl0, rfl, hz.trans hq.symm, by rw [ht]; exact hP, hD⟩, hS.F ht⟩) hS.2.2 dX4_far_18
  · have hq := fw_if c_4 hq
    refine lv_aload_n hx hb dX4_far_8 rfl (lv_at hl 0 rfl) ?_
    refine lv_iload_n hx hb dX4_far_9 rfl (lv_at hl 2 rfl) ?_
    have hPc := hP.sub (ws' := (wM cI cJ q  nn0 ln0 sa0 sb0 wg0 kt0 fr0 pt0 wl0 tn0 up0 lo0)) [0, 1, 2, 3, 4, 5, 6, 7, 8] rfl
    have hDc := hD.sub (ws' := (wM cI cJ q  nn0 ln0 sa0 sb0 wg0 kt0 fr0 pt0 wl0 tn0 up0 lo0)) [0, 1, 2, 3, 4, 5, 6, 7, 8] (by decide) rfl
    refine fw_ci (wr := []) (w2 := fun u => (wM cI cJ q  nn0 ln0 sa0 sb0 wg0 kt0 fr0 pt0 wl0 tn0 up0 lo0)) [0, 1, 2, 3, 4, 5, 6, 7, 8] [] [0, 1, 2, 3, 4, 5, 6, 7, 8] (va_runV (b := (q 0)) (As := [.int y2]) (rest := []) ⟨hx, hb, hml, hown, hts⟩ (kX4_isNode l dC dI cI cJ q H.size  nn0 ln0 sa0 sb0 wg0 kt0 fr0 pt0 wl0 tn0 up0 lo0 y2 (fw_be hq)) (cwV 1 hts gX4_far_X4_isNode rfl rfl rfl (by decide +kernel) ⟨Nat.le_of_ble_eq_true rfl, Nat.le_of_ble_eq_true rfl⟩) ⟨fw_blind, va_recv hK hPc (ci := 4) (q0 := 0) rfl rfl, fun U hU hW => fw_pre hPc hK hDc hN hU hW⟩ rfl rfl hl.1 rfl (lv_room (Nat.le_of_ble_eq_true rfl)) dX4_far_10 ⟨Nat.zero_le _, Nat.zero_le _⟩) hP hD hS hA rfl rfl (by decide) (by decide) (by decide) (fun _ => rfl) (fun r_5 u H locs hw hP hD hS => ?_)
    obtain ⟨hw, n_7⟩ := hw
    have hq := fw_bs hw hq
    try dsimp only at hq
    refine lv_if_ne (tgt := 19) hx hb dX4_far_13 (by decide) (fun c_8 => ?_) (fun c_8 => ?_)
    · have hq := fw_if c_8 hq
      refine lv_iload_n hx hb dX4_far_19 rfl (lv_at hl 3 rfl) ?_
      refine lv_iconst (v := (0 : Int32)) hx hb dX4_far_20 (by decide) ?_
      refine lv_iconst (v := (1 : Int32)) hx hb dX4_far_21 (by decide) ?_
      have hPc := hP.sub (ws' := (w0 cI cJ   )) [] rfl
      have hDc := hD.sub (ws' := (w0 cI cJ   )) [] (by decide) rfl
      refine fw_ci (wr := [((q 0), .inr (4, [.int nn0, .int ln0, .ref (q 1), .ref (q 2), .ref (q 3), .ref (q 4), .ref (q 5), .ref (q 6), .ref (q 7), .ref (q 8), .long up0, .long lo0])), ((q 1), .inl (cI, 12, .inl sa0)), ((q 2), .inl (cI, 12, .inl sb0)), ((q 3), .inl (cI, 12, .inl wg0)), ((q 4), .inl (cI, 12, .inl kt0)), ((q 5), .inl (cI, 12, .inl fr0)), ((q 6), .inl (cI, 7, .inl pt0)), ((q 7), .inl (cI, 49, .inl wl0)), ((q 8), .inl (cI, 49, .inl tn0))]) (w2 := fun u => (wM cI cJ q  nn0 ln0 sa0 sb0 wg0 kt0 fr0 pt0 wl0 tn0 up0 lo0)) [] [0, 1, 2, 3, 4, 5, 6, 7, 8] [0, 1, 2, 3, 4, 5, 6, 7, 8] (va_runS (As := [.int y3, .int (0 : Int32), .int (1 : Int32)]) (rest := []) ⟨hx, hb, hml, hown, hts⟩ (kX4_in l dC dI cI cJ  H.size   y3 (0 : Int32) (1 : Int32) (fw_be hq)) (va_cwS 3 hts gX4_far_X4_in rfl rfl rfl (by decide +kernel) ⟨Nat.le_of_ble_eq_true rfl, Nat.le_of_ble_eq_true rfl⟩) ⟨fw_blind, fun U hU hW => fw_pre hPc hK hDc hN hU hW⟩ rfl rfl hl.1 rfl (lv_room (Nat.le_of_ble_eq_true rfl)) dX4_far_22 ⟨Nat.zero_le _, Nat.zero_le _⟩) hP hD hS hA rfl rfl (by decide) (by decide) (by decide) (fun _ => rfl) (fun r_9 u H locs hw hP hD hS => ?_)
      obtain ⟨hw, n_11⟩ := hw
      have hq := fw_bs hw hq
      try dsimp only at hq
      refine lv_if_ne (tgt := 31) hx hb dX4_far_25 (by decide) (fun c_12 => ?_) (fun c_12 => ?_)
      · have hq := fw_if c_12 hq
        refine lv_aload_n hx hb dX4_far_31 rfl (lv_at hl 0 rfl) ?_
        refine lv_iload_n hx hb dX4_far_32 rfl (lv_at hl 3 rfl) ?_
        refine lv_if_ne (tgt := 47) hx hb dX4_far_33 (by decide) (fun c_13 => ?_) (fun c_13 => ?_)
        · have hq := fw_if c_13 hq
          refine lv_aload_n hx hb dX4_far_47 rfl (lv_at hl 0 rfl) ?_
          have hPc := hP.sub (ws' := (wM cI cJ q  nn0 ln0 sa0 sb0 wg0 kt0 fr0 pt0 wl0 tn0 up0 lo0)) [0, 1, 2, 3, 4, 5, 6, 7, 8] rfl
          have hDc := hD.sub (ws' := (wM cI cJ q  nn0 ln0 sa0 sb0 wg0 kt0 fr0 pt0 wl0 tn0 up0 lo0)) [0, 1, 2, 3, 4, 5, 6, 7, 8] (by decide) rfl
          refine fw_ci (wr := []) (w2 := fun u => (wM cI cJ q  nn0 ln0 sa0 sb0 wg0 kt0 fr0 pt0 wl0 tn0 up0 lo0)) [0, 1, 2, 3, 4, 5, 6, 7, 8] [] [0, 1, 2, 3, 4, 5, 6, 7, 8] (va_runV (b := (q 0)) (As := []) (rest := [.ref (q 0)]) ⟨hx, hb, hml, hown, hts⟩ (kX4_keptSet l dC dI cI cJ q H.size  nn0 ln0 sa0 sb0 wg0 kt0 fr0 pt0 wl0 tn0 up0 lo0  (fw_be hq)) (cwV 0 hts gX4_far_X4_keptSet rfl rfl rfl (by decide +kernel) ⟨Nat.le_of_ble_eq_true rfl, Nat.le_of_ble_eq_true rfl⟩) ⟨fw_blind, va_recv hK hPc (ci := 4) (q0 := 0) rfl rfl, fun U hU hW => fw_pre hPc hK hDc hN hU hW⟩ rfl rfl hl.1 rfl (lv_room (Nat.le_of_ble_eq_true rfl)) dX4_far_48 ⟨Nat.zero_le _, Nat.zero_le _⟩) hP hD hS hA rfl rfl (by decide) (by decide) (by decide) (fun _ => rfl) (fun r_14 u H locs hw hP hD hS => ?_)
          have hq := fw_bs hw hq
          try dsimp only at hq
          refine lv_aload_n hx hb dX4_far_51 rfl (lv_at hl 0 rfl) ?_
          refine va_get (D := (dC, dI)) (ci := 4) (v := .ref (q 7)) (C := RX4) (T := TX4) (N := 12) hx hb hts hinX4 hown hK hP 0 rfl rfl 8 (by decide) hf32 (fun _ h9 => h9) rfl dX4_far_52 ?_
          have hPc := hP.sub (ws' := (wM cI cJ q  nn0 ln0 sa0 sb0 wg0 kt0 fr0 pt0 wl0 tn0 up0 lo0)) [0, 1, 2, 3, 4, 5, 6, 7, 8] rfl
          have hDc := hD.sub (ws' := (wM cI cJ q  nn0 ln0 sa0 sb0 wg0 kt0 fr0 pt0 wl0 tn0 up0 lo0)) [0, 1, 2, 3, 4, 5, 6, 7, 8] (by decide) rfl
          refine fw_cv (wr := []) (w2 := fun u => (wM cI cJ q  nn0 ln0 sa0 sb0 wg0 kt0 fr0 pt0 u tn0 up0 lo0)) [0, 1, 2, 3, 4, 5, 6, 7, 8] [] [0, 1, 2, 3, 4, 5, 6, 7, 8] (va_runV (b := (q 0)) (As := [.int r_14, .ref (q 7)]) (rest := []) ⟨hx, hb, hml, hown, hts⟩ (kX4_findFar_W l dC dI cI cJ q H.size  nn0 ln0 sa0 sb0 wg0 kt0 fr0 pt0 wl0 tn0 up0 lo0 r_14 (fw_be hq)) (cwV 2 hts gX4_far_X4_findFar rfl rfl rfl (by decide +kernel) ⟨Nat.le_of_ble_eq_true rfl, Nat.le_of_ble_eq_true rfl⟩) ⟨fw_blind, va_recv hK hPc (ci := 4) (q0 := 0) rfl rfl, fun U hU hW => fw_pre hPc hK hDc hN hU hW⟩ rfl rfl hl.1 rfl (lv_room (Nat.le_of_ble_eq_true rfl)) dX4_far_55 ⟨Nat.zero_le _, Nat.zero_le _⟩) hP hD hS hA rfl rfl (by decide) (by decide) (by decide) (fun _ => rfl) (fun u H locs hw hP hD hS => ?_)
          obtain ⟨wl_16, rfl⟩ : ∃ z, z = u := ⟨_, rfl⟩
          have hq := fw_bs hw hq
          try dsimp only at hq
          have hP : va_P (dC, dI) vwCl (wM cI cJ q  nn0 ln0 sa0 sb0 wg0 kt0 fr0 pt0 wl_16 tn0 up0 lo0) H := hP
          have hD : va_D A (wM cI cJ q  nn0 ln0 sa0 sb0 wg0 kt0 fr0 pt0 wl_16 tn0 up0 lo0) := hD
          refine lv_aload_n hx hb dX4_far_58 rfl (lv_at hl 0 rfl) ?_
          refine va_get (D := (dC, dI)) (ci := 4) (v := .ref (q 7)) (C := RX4) (T := TX4) (N := 12) hx hb hts hinX4 hown hK hP 0 rfl rfl 8 (by decide) hf32 (fun _ h9 => h9) rfl dX4_far_59 ?_
          refine lv_bipush (v := (7 : Int32)) hx hb dX4_far_62 (by decide) ?_
          refine lv_iload_n hx hb dX4_far_64 rfl (lv_at hl 1 rfl) ?_
          refine lv_imul hx hb dX4_far_65 ?_
          refine lv_iload_n hx hb dX4_far_66 rfl (lv_at hl 2 rfl) ?_
          refine lv_iadd hx hb dX4_far_67 ?_
          obtain ⟨h_19, hq⟩ := fw_ck_s hq
          refine va_iald hx hb hK hP 7 0 rfl rfl h_19 dX4_far_68 ?_
          refine lv_sipush (v := (10000 : Int32)) hx hb dX4_far_69 (by decide) ?_
          refine lv_icmp_lt (tgt := 79) hx hb dX4_far_72 (by decide) (fun c_20 => ?_) (fun c_20 => ?_)
          · have hq := fw_it c_20 hq
            refine lv_aload_n hx hb dX4_far_79 rfl (lv_at hl 0 rfl) ?_
            refine va_get (D := (dC, dI)) (ci := 4) (v := .ref (q 7)) (C := RX4) (T := TX4) (N := 12) hx hb hts hinX4 hown hK hP 0 rfl rfl 8 (by decide) hf32 (fun _ h9 => h9) rfl dX4_far_80 ?_
            refine lv_bipush (v := (7 : Int32)) hx hb dX4_far_83 (by decide) ?_
            refine lv_iload_n hx hb dX4_far_85 rfl (lv_at hl 1 rfl) ?_
            refine lv_imul hx hb dX4_far_86 ?_
            refine lv_iload_n hx hb dX4_far_87 rfl (lv_at hl 2 rfl) ?_
            refine lv_iadd hx hb dX4_far_88 ?_
            obtain ⟨h_21, hq⟩ := fw_ck_s hq
            refine va_iald hx hb hK hP 7 0 rfl rfl h_21 dX4_far_89 ?_
            exact W.iret (v := (wl_16 ((((7 : Int32) * y1) + y2)).toNatClampNeg)) hx hb hr (fun t ht hW => ⟨⟨(wl_16 ((((7 : Int32) * y1) + y2)).toNatClampNeg), wl_16, rfl, hz.trans hq.symm, by rw [ht]; exact hP, hD⟩, hS.F ht⟩) hS.2.2 dX4_far_90
          · have hq := fw_if c_20 hq
            refine lv_iconst (v := (-1 : Int32)) hx hb dX4_far_75 (by decide) ?_
            refine lv_goto (tgt := 90) hx hb dX4_far_76 (by decide) ?_
            exact W.iret (v := (-1 : Int32)) hx hb hr (fun t ht hW => ⟨⟨(-1 : Int32), wl_16, rfl, hz.trans hq.symm, by rw [ht]; exact hP, hD⟩, hS.F ht⟩) hS.2.2 dX4_far_90
        · have hq := fw_it c_13 hq
          refine lv_iconst (v := (1 : Int32)) hx hb dX4_far_36 (by decide) ?_
          refine lv_aload_n hx hb dX4_far_37 rfl (lv_at hl 0 rfl) ?_
          refine va_get (D := (dC, dI)) (ci := 4) (v := .int ln0) (C := RX4) (T := TX4) (N := 12) hx hb hts hinX4 hown hK hP 0 rfl rfl 1 (by decide) hf42 (fun _ h9 => h9) rfl dX4_far_38 ?_
          refine lv_ishl hx hb dX4_far_41 ?_
          refine lv_iconst (v := (1 : Int32)) hx hb dX4_far_42 (by decide) ?_
          refine lv_isub hx hb dX4_far_43 ?_
          refine lv_goto (tgt := 51) hx hb dX4_far_44 (by decide) ?_
          refine lv_aload_n hx hb dX4_far_51 rfl (lv_at hl 0 rfl) ?_
          refine va_get (D := (dC, dI)) (ci := 4) (v := .ref (q 7)) (C := RX4) (T := TX4) (N := 12) hx hb hts hinX4 hown hK hP 0 rfl rfl 8 (by decide) hf32 (fun _ h9 => h9) rfl dX4_far_52 ?_
          have hPc := hP.sub (ws' := (wM cI cJ q  nn0 ln0 sa0 sb0 wg0 kt0 fr0 pt0 wl0 tn0 up0 lo0)) [0, 1, 2, 3, 4, 5, 6, 7, 8] rfl
          have hDc := hD.sub (ws' := (wM cI cJ q  nn0 ln0 sa0 sb0 wg0 kt0 fr0 pt0 wl0 tn0 up0 lo0)) [0, 1, 2, 3, 4, 5, 6, 7, 8] (by decide) rfl
          refine fw_cv (wr := []) (w2 := fun u => (wM cI cJ q  nn0 ln0 sa0 sb0 wg0 kt0 fr0 pt0 u tn0 up0 lo0)) [0, 1, 2, 3, 4, 5, 6, 7, 8] [] [0, 1, 2, 3, 4, 5, 6, 7, 8] (va_runV (b := (q 0)) (As := [.int (((1 : Int32) <<< (ln0 &&& 31)) - (1 : Int32)), .ref (q 7)]) (rest := []) ⟨hx, hb, hml, hown, hts⟩ (kX4_findFar_W l dC dI cI cJ q H.size  nn0 ln0 sa0 sb0 wg0 kt0 fr0 pt0 wl0 tn0 up0 lo0 (((1 : Int32) <<< (ln0 &&& 31)) - (1 : Int32)) (fw_be hq)) (cwV 2 hts gX4_far_X4_findFar rfl rfl rfl (by decide +kernel) ⟨Nat.le_of_ble_eq_true rfl, Nat.le_of_ble_eq_true rfl⟩) ⟨fw_blind, va_recv hK hPc (ci := 4) (q0 := 0) rfl rfl, fun U hU hW => fw_pre hPc hK hDc hN hU hW⟩ rfl rfl hl.1 rfl (lv_room (Nat.le_of_ble_eq_true rfl)) dX4_far_55 ⟨Nat.zero_le _, Nat.zero_le _⟩) hP hD hS hA rfl rfl (by decide) (by decide) (by decide) (fun _ => rfl) (fun u H locs hw hP hD hS => ?_)
          obtain ⟨wl_22, rfl⟩ : ∃ z, z = u := ⟨_, rfl⟩
          have hq := fw_bs hw hq
          try dsimp only at hq
          have hP : va_P (dC, dI) vwCl (wM cI cJ q  nn0 ln0 sa0 sb0 wg0 kt0 fr0 pt0 wl_22 tn0 up0 lo0) H := hP
          have hD : va_D A (wM cI cJ q  nn0 ln0 sa0 sb0 wg0 kt0 fr0 pt0 wl_22 tn0 up0 lo0) := hD
          refine lv_aload_n hx hb dX4_far_58 rfl (lv_at hl 0 rfl) ?_
          refine va_get (D := (dC, dI)) (ci := 4) (v := .ref (q 7)) (C := RX4) (T := TX4) (N := 12) hx hb hts hinX4 hown hK hP 0 rfl rfl 8 (by decide) hf32 (fun _ h9 => h9) rfl dX4_far_59 ?_
          refine lv_bipush (v := (7 : Int32)) hx hb dX4_far_62 (by decide) ?_
          refine lv_iload_n hx hb dX4_far_64 rfl (lv_at hl 1 rfl) ?_
          refine lv_imul hx hb dX4_far_65 ?_
          refine lv_iload_n hx hb dX4_far_66 rfl (lv_at hl 2 rfl) ?_
          refine lv_iadd hx hb dX4_far_67 ?_
          obtain ⟨h_25, hq⟩ := fw_ck_s hq
          refine va_iald hx hb hK hP 7 0 rfl rfl h_25 dX4_far_68 ?_
          refine lv_sipush (v := (10000 : Int32)) hx hb dX4_far_69 (by decide) ?_
          refine lv_icmp_lt (tgt := 79) hx hb dX4_far_72 (by decide) (fun c_26 => ?_) (fun c_26 => ?_)
          · have hq := fw_it c_26 hq
            refine lv_aload_n hx hb dX4_far_79 rfl (lv_at hl 0 rfl) ?_
            refine va_get (D := (dC, dI)) (ci := 4) (v := .ref (q 7)) (C := RX4) (T := TX4) (N := 12) hx hb hts hinX4 hown hK hP 0 rfl rfl 8 (by decide) hf32 (fun _ h9 => h9) rfl dX4_far_80 ?_
            refine lv_bipush (v := (7 : Int32)) hx hb dX4_far_83 (by decide) ?_
            refine lv_iload_n hx hb dX4_far_85 rfl (lv_at hl 1 rfl) ?_
            refine lv_imul hx hb dX4_far_86 ?_
            refine lv_iload_n hx hb dX4_far_87 rfl (lv_at hl 2 rfl) ?_
            refine lv_iadd hx hb dX4_far_88 ?_
            obtain ⟨h_27, hq⟩ := fw_ck_s hq
            refine va_iald hx hb hK hP 7 0 rfl rfl h_27 dX4_far_89 ?_
            exact W.iret (v := (wl_22 ((((7 : Int32) * y1) + y2)).toNatClampNeg)) hx hb hr (fun t ht hW => ⟨⟨(wl_22 ((((7 : Int32) * y1) + y2)).toNatClampNeg), wl_22, rfl, hz.trans hq.symm, by rw [ht]; exact hP, hD⟩, hS.F ht⟩) hS.2.2 dX4_far_90
          · have hq := fw_if c_26 hq
            refine lv_iconst (v := (-1 : Int32)) hx hb dX4_far_75 (by decide) ?_
            refine lv_goto (tgt := 90) hx hb dX4_far_76 (by decide) ?_
            exact W.iret (v := (-1 : Int32)) hx hb hr (fun t ht hW => ⟨⟨(-1 : Int32), wl_22, rfl, hz.trans hq.symm, by rw [ht]; exact hP, hD⟩, hS.F ht⟩) hS.2.2 dX4_far_90
      · have hq := fw_it c_12 hq
        refine lv_bipush (v := (-3 : Int32)) hx hb dX4_far_28 (by decide) ?_
        exact W.iret (v := (-3 : Int32)) hx hb hr (fun t ht hW => ⟨⟨(-3 : Int32), wl0, rfl, hz.trans hq.symm, by rw [ht]; exact hP, hD⟩, hS.F ht⟩) hS.2.2 dX4_far_30
    · have hq := fw_it c_8 hq
      refine lv_bipush (v := (-2 : Int32)) hx hb dX4_far_16 (by decide) ?_
      exact W.iret (v := (-2 : Int32)) hx hb hr (fun t ht hW => ⟨⟨(-2 : Int32), wl0, rfl, hz.trans hq.symm, by rw [ht]; exact hP, hD⟩, hS.F ht⟩) hS.2.2 dX4_far_18
set_option maxHeartbeats 4000000 in
set_option maxRecDepth 100000 in
theorem kX4_stretch (l : Launch) (dC : Nat → ClassId) (dI : Nat → Nat → Nat) (cI cJ : ClassId) (q : Nat → Nat) (sz : Nat)  (nn0 : Int32) (ln0 : Int32) (sa0 : Nat → Int32) (sb0 : Nat → Int32) (wg0 : Nat → Int32) (kt0 : Nat → Int32) (fr0 : Nat → Int32) (pt0 : Nat → Int32) (wl0 : Nat → Int32) (tn0 : Nat → Int32) (up0 : Int64) (lo0 : Int64) (y1 : Int32) (hd : ∃ z, pX4_stretch nn0 ln0 sa0 sb0 wg0 kt0 wl0 tn0 y1 = some z) : Met l yX4_stretch wsX4_stretch ({ frames := 1, cells := 0, slots := 0, locals := 29 }) (fw_Pc (dC, dI) (fw_tys cI cJ) (wM cI cJ q  nn0 ln0 sa0 sb0 wg0 kt0 fr0 pt0 wl0 tn0 up0 lo0) ([.ref (q 0), .int y1] : List Value) sz) (va_Qi (fun (r : Int32) (u : (Nat → Int32) × (Nat → Int32)) => pX4_stretch nn0 ln0 sa0 sb0 wg0 kt0 wl0 tn0 y1 = some (r, u)) (fun u t => fw_B (dC, dI) (va_A (wM cI cJ q  nn0 ln0 sa0 sb0 wg0 kt0 fr0 pt0 wl0 tn0 up0 lo0) sz) (wM cI cJ q  nn0 ln0 sa0 sb0 wg0 kt0 fr0 pt0 u.1 u.2 up0 lo0) t) (va_A (wM cI cJ q  nn0 ln0 sa0 sb0 wg0 kt0 fr0 pt0 wl0 tn0 up0 lo0) sz)) 0 0 (va_A (wM cI cJ q  nn0 ln0 sa0 sb0 wg0 kt0 fr0 pt0 wl0 tn0 up0 lo0) sz) := by
  obtain ⟨z, hz⟩ := hd
  refine Met.ofW (cc := cX4_stretch) (maxL := 8) (ret := (some .int)) (by decide) rfl ?_
  intro p e s m args below meth c s₁ B hml hv
  obtain ⟨rfl, hsz, hP, hK, hD0, hN⟩ := hv
  have hx := B.exec
  have hb := B.bytes
  have hr := B.returns
  have hts := atoms_spec (ws := wsX4_stretch) B.pre
  have hown : s.vm.findClass RX4 = some m.cls := findClass_of_methodNamed B.named
  have hlocks := B.notSynchronized
  subst hsz
  have hD := hD0.self (sz := s.heap.size)
  generalize hAe : va_A (wM cI cJ q  nn0 ln0 sa0 sb0 wg0 kt0 fr0 pt0 wl0 tn0 up0 lo0) s.heap.size = A at hD ⊢
  have hA : ∀ q : Nat, s.heap.size ≤ q → A q := fun q h => by rw [← hAe]; exact Or.inr h
  have hinX4 : ∀ w ∈ u_ws RX4 TX4 12, w ∈ wsX4_stretch := by decide +kernel
  have hf7 := hts (.fieldLink RX4 7 "FewLinesModel" "n" "I") (by decide +kernel)
  have hf32 := hts (.fieldLink RX4 32 "FewLinesModel" "whole" "[I") (by decide +kernel)
  have hf35 := hts (.fieldLink RX4 35 "FewLinesModel" "thin" "[I") (by decide +kernel)
  have hf42 := hts (.fieldLink RX4 42 "FewLinesModel" "lines" "I") (by decide +kernel)
  have L59 : ∀ (x1 : Int32) (x4 : Int32) (wl : Nat → Int32) (tn : Nat → Int32) (e9 : (Int32 × Int32 × Int32) ⊕ (Int32 × (Nat → Int32) × (Nat → Int32))), (∀ (x2' : Int32) (x3' : Int32) (x5' : Int32) (H : Heap) (locs : List Loc) (ls : Array Slot), e9 = .inl (x2', x3', x5') → va_P (dC, dI) vwCl (wM cI cJ q  nn0 ln0 sa0 sb0 wg0 kt0 fr0 pt0 wl tn up0 lo0) H → va_D A (wM cI cJ q  nn0 ln0 sa0 sb0 wg0 kt0 fr0 pt0 wl tn up0 lo0) → va_S A s.heap H locs → lv_has ls 8 [(0, .ref (q 0)), (1, .int x1), (2, .int x2'), (3, .int x3'), (4, .int x4), (5, .int x5')] → W p l e (headSpec wsX4_stretch ({ frames := 1, cells := 0, slots := 0, locals := 29 })).room s m ([.ref (q 0), .int y1] : List Value).toArray below meth c H locs 0 0 (MQ below (va_Qi (fun (r : Int32) (u : (Nat → Int32) × (Nat → Int32)) => pX4_stretch nn0 ln0 sa0 sb0 wg0 kt0 wl0 tn0 y1 = some (r, u)) (fun u t => fw_B (dC, dI) A (wM cI cJ q  nn0 ln0 sa0 sb0 wg0 kt0 fr0 pt0 u.1 u.2 up0 lo0) t) A) ([.ref (q 0), .int y1] : List Value).toArray s 0 0 A) (F0 m 145 ls [])) → (∀ r9, e9 = .inr r9 → some r9 = some z) → ∀ (n9 : Nat) (x2 : Int32) (x3 : Int32) (x5 : Int32) (H : Heap) (locs : List Loc) (ls : Array Slot), fw_wh (pX4_stretch_59 x4 wl tn) n9 (x2, x3, x5) = some e9 → va_P (dC, dI) vwCl (wM cI cJ q  nn0 ln0 sa0 sb0 wg0 kt0 fr0 pt0 wl tn up0 lo0) H → va_D A (wM cI cJ q  nn0 ln0 sa0 sb0 wg0 kt0 fr0 pt0 wl tn up0 lo0) → va_S A s.heap H locs → lv_has ls 8 [(0, .ref (q 0)), (1, .int x1), (2, .int x2), (3, .int x3), (4, .int x4), (5, .int x5)] → W p l e (headSpec wsX4_stretch ({ frames := 1, cells := 0, slots := 0, locals := 29 })).room s m ([.ref (q 0), .int y1] : List Value).toArray below meth c H locs 0 0 (MQ below (va_Qi (fun (r : Int32) (u : (Nat → Int32) × (Nat → Int32)) => pX4_stretch nn0 ln0 sa0 sb0 wg0 kt0 wl0 tn0 y1 = some (r, u)) (fun u t => fw_B (dC, dI) A (wM cI cJ q  nn0 ln0 sa0 sb0 wg0 kt0 fr0 pt0 u.1 u.2 up0 lo0) t) A) ([.ref (q 0), .int y1] : List Value).toArray s 0 0 A) (F0 m 59 ls []) := by
    intro x1 x4 wl tn e9 hkk hr0 n9
    induction n9 with
    | zero => exact fun _ _ _ H locs ls hq => (fw_wh0 hq).elim
    | succ n9 ih =>
      intro x2 x3 x5 H locs ls hq hP hD hS hl
      obtain ⟨w9, hq, hwI, hwE⟩ := fw_wh1 hq
      dsimp only [pX4_stretch_59] at hq
      refine lv_iload hx hb dX4_stretch_59 (lv_at hl 5 rfl) ?_
      refine lv_iload hx hb dX4_stretch_61 (lv_at hl 4 rfl) ?_
      refine lv_icmp_ge (tgt := 145) hx hb dX4_stretch_63 (by decide) (fun c_14 => ?_) (fun c_14 => ?_)
      · have hq := fw_it c_14 hq
        exact hkk x2 x3 x5 H locs ls (hwE _ (Option.some.inj hq).symm) hP hD hS (lv_sub hl [0, 1, 2, 3, 4, 5] rfl)
      · have hq := fw_if c_14 hq
        refine lv_aload_n hx hb dX4_stretch_66 rfl (lv_at hl 0 rfl) ?_
        refine va_get (D := (dC, dI)) (ci := 4) (v := .ref (q 7)) (C := RX4) (T := TX4) (N := 12) hx hb hts hinX4 hown hK hP 0 rfl rfl 8 (by decide) hf32 (fun _ h9 => h9) rfl dX4_stretch_67 ?_
        refine lv_bipush (v := (7 : Int32)) hx hb dX4_stretch_70 (by decide) ?_
        refine lv_iload hx hb dX4_stretch_72 (lv_at hl 4 rfl) ?_
        refine lv_imul hx hb dX4_stretch_74 ?_
        refine lv_iload hx hb dX4_stretch_75 (lv_at hl 5 rfl) ?_
        refine lv_iadd hx hb dX4_stretch_77 ?_
        obtain ⟨h_15, hq⟩ := fw_ck_s hq
        refine va_iald hx hb hK hP 7 0 rfl rfl h_15 dX4_stretch_78 ?_
        refine lv_istore (lv' := [(6, .int (wl ((((7 : Int32) * x4) + x5)).toNatClampNeg)), (0, .ref (q 0)), (1, .int x1), (2, .int x2), (3, .int x3), (4, .int x4), (5, .int x5)]) hx hb dX4_stretch_79 hl (by decide) rfl (fun ls hl => ?_)
        refine lv_aload_n hx hb dX4_stretch_81 rfl (lv_at hl 1 rfl) ?_
        refine va_get (D := (dC, dI)) (ci := 4) (v := .ref (q 8)) (C := RX4) (T := TX4) (N := 12) hx hb hts hinX4 hown hK hP 0 rfl rfl 9 (by decide) hf35 (fun _ h9 => h9) rfl dX4_stretch_82 ?_
        refine lv_bipush (v := (7 : Int32)) hx hb dX4_stretch_85 (by decide) ?_
        refine lv_iload hx hb dX4_stretch_87 (lv_at hl 5 rfl) ?_
        refine lv_imul hx hb dX4_stretch_89 ?_
        refine lv_iload hx hb dX4_stretch_90 (lv_at hl 6 rfl) ?_
        refine lv_iadd hx hb dX4_stretch_92 ?_
        obtain ⟨h_16, hq⟩ := fw_ck_s hq
        refine va_iald hx hb hK hP 8 0 rfl rfl h_16 dX4_stretch_93 ?_
        refine lv_istore (lv' := [(7, .int (tn ((((7 : Int32) * x4) + x5)).toNatClampNeg)), (6, .int (wl ((((7 : Int32) * x4) + x5)).toNatClampNeg)), (0, .ref (q 0)), (1, .int x1), (2, .int x2), (3, .int x3), (4, .int x4), (5, .int x5)]) hx hb dX4_stretch_94 hl (by decide) rfl (fun ls hl => ?_)
        refine lv_iload hx hb dX4_stretch_96 (lv_at hl 1 rfl) ?_
        refine lv_sipush (v := (10000 : Int32)) hx hb dX4_stretch_98 (by decide) ?_
        refine lv_icmp_ge (tgt := 114) hx hb dX4_stretch_101 (by decide) (fun c_17 => ?_) (fun c_17 => ?_)
        · have hq := fw_it c_17 hq
          refine lv_iload hx hb dX4_stretch_114 (lv_at hl 1 rfl) ?_
          refine lv_sipush (v := (10000 : Int32)) hx hb dX4_stretch_116 (by decide) ?_
          refine lv_icmp_ge (tgt := 139) hx hb dX4_stretch_119 (by decide) (fun c_18 => ?_) (fun c_18 => ?_)
          · have hq := fw_it c_18 hq
            refine lv_iinc (v := (x5 + (1 : Int32))) (lv' := [(5, .int (x5 + (1 : Int32))), (7, .int (tn ((((7 : Int32) * x4) + x5)).toNatClampNeg)), (6, .int (wl ((((7 : Int32) * x4) + x5)).toNatClampNeg)), (0, .ref (q 0)), (1, .int x1), (2, .int x2), (3, .int x3), (4, .int x4)]) hx hb dX4_stretch_139 hl (k := 7) rfl rfl (by decide) rfl (fun ls hl => ?_)
            refine lv_goto (tgt := 59) hx hb dX4_stretch_142 (by decide) ?_
            exact ih x2 x3 (x5 + (1 : Int32)) H locs ls (hwI _ (Option.some.inj hq).symm) hP hD hS (lv_sub hl [3, 4, 5, 6, 7, 0] rfl)
          · have hq := fw_if c_18 hq
            refine lv_iload hx hb dX4_stretch_122 (lv_at hl 0 rfl) ?_
            refine lv_iload_n hx hb dX4_stretch_124 rfl (lv_at hl 5 rfl) ?_
            refine lv_imul hx hb dX4_stretch_125 ?_
            refine lv_iload_n hx hb dX4_stretch_126 rfl (lv_at hl 4 rfl) ?_
            refine lv_iload hx hb dX4_stretch_127 (lv_at hl 1 rfl) ?_
            refine lv_imul hx hb dX4_stretch_129 ?_
            refine lv_icmp_le (tgt := 139) hx hb dX4_stretch_130 (by decide) (fun c_19 => ?_) (fun c_19 => ?_)
            · have hq := fw_it c_19 hq
              refine lv_iinc (v := (x5 + (1 : Int32))) (lv' := [(5, .int (x5 + (1 : Int32))), (7, .int (tn ((((7 : Int32) * x4) + x5)).toNatClampNeg)), (6, .int (wl ((((7 : Int32) * x4) + x5)).toNatClampNeg)), (0, .ref (q 0)), (1, .int x1), (2, .int x2), (3, .int x3), (4, .int x4)]) hx hb dX4_stretch_139 hl (k := 7) rfl rfl (by decide) rfl (fun ls hl => ?_)
              refine lv_goto (tgt := 59) hx hb dX4_stretch_142 (by decide) ?_
              exact ih x2 x3 (x5 + (1 : Int32)) H locs ls (hwI _ (Option.some.inj hq).symm) hP hD hS (lv_sub hl [3, 4, 5, 6, 7, 0] rfl)
            · have hq := fw_if c_19 hq
              refine lv_iload hx hb dX4_stretch_133 (lv_at hl 0 rfl) ?_
              refine lv_istore_n (lv' := [(2, .int (tn ((((7 : Int32) * x4) + x5)).toNatClampNeg)), (7, .int (tn ((((7 : Int32) * x4) + x5)).toNatClampNeg)), (6, .int (wl ((((7 : Int32) * x4) + x5)).toNatClampNeg)), (0, .ref (q 0)), (1, .int x1), (3, .int x3), (4, .int x4), (5, .int x5)]) hx hb dX4_stretch_135 rfl hl (by decide) rfl (fun ls hl => ?_)
              refine lv_iload hx hb dX4_stretch_136 (lv_at hl 2 rfl) ?_
              refine lv_istore_n (lv' := [(3, .int (wl ((((7 : Int32) * x4) + x5)).toNatClampNeg)), (2, .int (tn ((((7 : Int32) * x4) + x5)).toNatClampNeg)), (7, .int (tn ((((7 : Int32) * x4) + x5)).toNatClampNeg)), (6, .int (wl ((((7 : Int32) * x4) + x5)).toNatClampNeg)), (0, .ref (q 0)), (1, .int x1), (4, .int x4), (5, .int x5)]) hx hb dX4_stretch_138 rfl hl (by decide) rfl (fun ls hl => ?_)
              refine lv_iinc (v := (x5 + (1 : Int32))) (lv' := [(5, .int (x5 + (1 : Int32))), (3, .int (wl ((((7 : Int32) * x4) + x5)).toNatClampNeg)), (2, .int (tn ((((7 : Int32) * x4) + x5)).toNatClampNeg)), (7, .int (tn ((((7 : Int32) * x4) + x5)).toNatClampNeg)), (6, .int (wl ((((7 : Int32) * x4) + x5)).toNatClampNeg)), (0, .ref (q 0)), (1, .int x1), (4, .int x4)]) hx hb dX4_stretch_139 hl (k := 7) rfl rfl (by decide) rfl (fun ls hl => ?_)
              refine lv_goto (tgt := 59) hx hb dX4_stretch_142 (by decide) ?_
              exact ih (tn ((((7 : Int32) * x4) + x5)).toNatClampNeg) (wl ((((7 : Int32) * x4) + x5)).toNatClampNeg) (x5 + (1 : Int32)) H locs ls (hwI _ (Option.some.inj hq).symm) hP hD hS (lv_sub hl [5, 6, 2, 1, 7, 0] rfl)
        · have hq := fw_if c_17 hq
          refine lv_iload hx hb dX4_stretch_104 (lv_at hl 0 rfl) ?_
          refine lv_sipush (v := (10000 : Int32)) hx hb dX4_stretch_106 (by decide) ?_
          refine lv_icmp_lt (tgt := 114) hx hb dX4_stretch_109 (by decide) (fun c_20 => ?_) (fun c_20 => ?_)
          · have hq := fw_it c_20 hq
            refine lv_iload hx hb dX4_stretch_114 (lv_at hl 1 rfl) ?_
            refine lv_sipush (v := (10000 : Int32)) hx hb dX4_stretch_116 (by decide) ?_
            refine lv_icmp_ge (tgt := 139) hx hb dX4_stretch_119 (by decide) (fun c_21 => ?_) (fun c_21 => ?_)
            · have hq := fw_it c_21 hq
              refine lv_iinc (v := (x5 + (1 : Int32))) (lv' := [(5, .int (x5 + (1 : Int32))), (7, .int (tn ((((7 : Int32) * x4) + x5)).toNatClampNeg)), (6, .int (wl ((((7 : Int32) * x4) + x5)).toNatClampNeg)), (0, .ref (q 0)), (1, .int x1), (2, .int x2), (3, .int x3), (4, .int x4)]) hx hb dX4_stretch_139 hl (k := 7) rfl rfl (by decide) rfl (fun ls hl => ?_)
              refine lv_goto (tgt := 59) hx hb dX4_stretch_142 (by decide) ?_
              exact ih x2 x3 (x5 + (1 : Int32)) H locs ls (hwI _ (Option.some.inj hq).symm) hP hD hS (lv_sub hl [3, 4, 5, 6, 7, 0] rfl)
            · have hq := fw_if c_21 hq
              refine lv_iload hx hb dX4_stretch_122 (lv_at hl 0 rfl) ?_
              refine lv_iload_n hx hb dX4_stretch_124 rfl (lv_at hl 5 rfl) ?_
              refine lv_imul hx hb dX4_stretch_125 ?_
              refine lv_iload_n hx hb dX4_stretch_126 rfl (lv_at hl 4 rfl) ?_
              refine lv_iload hx hb dX4_stretch_127 (lv_at hl 1 rfl) ?_
              refine lv_imul hx hb dX4_stretch_129 ?_
              refine lv_icmp_le (tgt := 139) hx hb dX4_stretch_130 (by decide) (fun c_22 => ?_) (fun c_22 => ?_)
              · have hq := fw_it c_22 hq
                refine lv_iinc (v := (x5 + (1 : Int32))) (lv' := [(5, .int (x5 + (1 : Int32))), (7, .int (tn ((((7 : Int32) * x4) + x5)).toNatClampNeg)), (6, .int (wl ((((7 : Int32) * x4) + x5)).toNatClampNeg)), (0, .ref (q 0)), (1, .int x1), (2, .int x2), (3, .int x3), (4, .int x4)]) hx hb dX4_stretch_139 hl (k := 7) rfl rfl (by decide) rfl (fun ls hl => ?_)
                refine lv_goto (tgt := 59) hx hb dX4_stretch_142 (by decide) ?_
                exact ih x2 x3 (x5 + (1 : Int32)) H locs ls (hwI _ (Option.some.inj hq).symm) hP hD hS (lv_sub hl [3, 4, 5, 6, 7, 0] rfl)
              · have hq := fw_if c_22 hq
                refine lv_iload hx hb dX4_stretch_133 (lv_at hl 0 rfl) ?_
                refine lv_istore_n (lv' := [(2, .int (tn ((((7 : Int32) * x4) + x5)).toNatClampNeg)), (7, .int (tn ((((7 : Int32) * x4) + x5)).toNatClampNeg)), (6, .int (wl ((((7 : Int32) * x4) + x5)).toNatClampNeg)), (0, .ref (q 0)), (1, .int x1), (3, .int x3), (4, .int x4), (5, .int x5)]) hx hb dX4_stretch_135 rfl hl (by decide) rfl (fun ls hl => ?_)
                refine lv_iload hx hb dX4_stretch_136 (lv_at hl 2 rfl) ?_
                refine lv_istore_n (lv' := [(3, .int (wl ((((7 : Int32) * x4) + x5)).toNatClampNeg)), (2, .int (tn ((((7 : Int32) * x4) + x5)).toNatClampNeg)), (7, .int (tn ((((7 : Int32) * x4) + x5)).toNatClampNeg)), (6, .int (wl ((((7 : Int32) * x4) + x5)).toNatClampNeg)), (0, .ref (q 0)), (1, .int x1), (4, .int x4), (5, .int x5)]) hx hb dX4_stretch_138 rfl hl (by decide) rfl (fun ls hl => ?_)
                refine lv_iinc (v := (x5 + (1 : Int32))) (lv' := [(5, .int (x5 + (1 : Int32))), (3, .int (wl ((((7 : Int32) * x4) + x5)).toNatClampNeg)), (2, .int (tn ((((7 : Int32) * x4) + x5)).toNatClampNeg)), (7, .int (tn ((((7 : Int32) * x4) + x5)).toNatClampNeg)), (6, .int (wl ((((7 : Int32) * x4) + x5)).toNatClampNeg)), (0, .ref (q 0)), (1, .int x1), (4, .int x4)]) hx hb dX4_stretch_139 hl (k := 7) rfl rfl (by decide) rfl (fun ls hl => ?_)
                refine lv_goto (tgt := 59) hx hb dX4_stretch_142 (by decide) ?_
                exact ih (tn ((((7 : Int32) * x4) + x5)).toNatClampNeg) (wl ((((7 : Int32) * x4) + x5)).toNatClampNeg) (x5 + (1 : Int32)) H locs ls (hwI _ (Option.some.inj hq).symm) hP hD hS (lv_sub hl [5, 6, 2, 1, 7, 0] rfl)
          · have hq := fw_if c_20 hq
            refine lv_iconst (v := (-1 : Int32)) hx hb dX4_stretch_112 (by decide) ?_
            exact W.iret (v := (-1 : Int32)) hx hb hr (fun t ht hW => ⟨⟨(-1 : Int32), (wl, tn), rfl, hz.trans (hr0 _ (hwE _ (Option.some.inj hq).symm)).symm, by rw [ht]; exact hP, hD⟩, hS.F ht⟩) hS.2.2 dX4_stretch_113
  have L47 : ∀ (x1 : Int32) (wl : Nat → Int32) (tn : Nat → Int32) (e9 : (Int32 × Int32 × Int32) ⊕ (Int32 × (Nat → Int32) × (Nat → Int32))), (∀ (x2' : Int32) (x3' : Int32) (x4' : Int32) (H : Heap) (locs : List Loc) (ls : Array Slot), e9 = .inl (x2', x3', x4') → va_P (dC, dI) vwCl (wM cI cJ q  nn0 ln0 sa0 sb0 wg0 kt0 fr0 pt0 wl tn up0 lo0) H → va_D A (wM cI cJ q  nn0 ln0 sa0 sb0 wg0 kt0 fr0 pt0 wl tn up0 lo0) → va_S A s.heap H locs → lv_has ls 8 [(0, .ref (q 0)), (1, .int x1), (2, .int x2'), (3, .int x3'), (4, .int x4')] → W p l e (headSpec wsX4_stretch ({ frames := 1, cells := 0, slots := 0, locals := 29 })).room s m ([.ref (q 0), .int y1] : List Value).toArray below meth c H locs 0 0 (MQ below (va_Qi (fun (r : Int32) (u : (Nat → Int32) × (Nat → Int32)) => pX4_stretch nn0 ln0 sa0 sb0 wg0 kt0 wl0 tn0 y1 = some (r, u)) (fun u t => fw_B (dC, dI) A (wM cI cJ q  nn0 ln0 sa0 sb0 wg0 kt0 fr0 pt0 u.1 u.2 up0 lo0) t) A) ([.ref (q 0), .int y1] : List Value).toArray s 0 0 A) (F0 m 151 ls [])) → (∀ r9, e9 = .inr r9 → some r9 = some z) → ∀ (n9 : Nat) (x2 : Int32) (x3 : Int32) (x4 : Int32) (H : Heap) (locs : List Loc) (ls : Array Slot), fw_wh (pX4_stretch_47 nn0 wl tn) n9 (x2, x3, x4) = some e9 → va_P (dC, dI) vwCl (wM cI cJ q  nn0 ln0 sa0 sb0 wg0 kt0 fr0 pt0 wl tn up0 lo0) H → va_D A (wM cI cJ q  nn0 ln0 sa0 sb0 wg0 kt0 fr0 pt0 wl tn up0 lo0) → va_S A s.heap H locs → lv_has ls 8 [(0, .ref (q 0)), (1, .int x1), (2, .int x2), (3, .int x3), (4, .int x4)] → W p l e (headSpec wsX4_stretch ({ frames := 1, cells := 0, slots := 0, locals := 29 })).room s m ([.ref (q 0), .int y1] : List Value).toArray below meth c H locs 0 0 (MQ below (va_Qi (fun (r : Int32) (u : (Nat → Int32) × (Nat → Int32)) => pX4_stretch nn0 ln0 sa0 sb0 wg0 kt0 wl0 tn0 y1 = some (r, u)) (fun u t => fw_B (dC, dI) A (wM cI cJ q  nn0 ln0 sa0 sb0 wg0 kt0 fr0 pt0 u.1 u.2 up0 lo0) t) A) ([.ref (q 0), .int y1] : List Value).toArray s 0 0 A) (F0 m 47 ls []) := by
    intro x1 wl tn e9 hkk hr0 n9
    induction n9 with
    | zero => exact fun _ _ _ H locs ls hq => (fw_wh0 hq).elim
    | succ n9 ih =>
      intro x2 x3 x4 H locs ls hq hP hD hS hl
      obtain ⟨w9, hq, hwI, hwE⟩ := fw_wh1 hq
      dsimp only [pX4_stretch_47] at hq
      refine lv_iload hx hb dX4_stretch_47 (lv_at hl 4 rfl) ?_
      refine lv_aload_n hx hb dX4_stretch_49 rfl (lv_at hl 0 rfl) ?_
      refine va_get (D := (dC, dI)) (ci := 4) (v := .int nn0) (C := RX4) (T := TX4) (N := 12) hx hb hts hinX4 hown hK hP 0 rfl rfl 0 (by decide) hf7 (fun _ h9 => h9) rfl dX4_stretch_50 ?_
      refine lv_icmp_ge (tgt := 151) hx hb dX4_stretch_53 (by decide) (fun c_13 => ?_) (fun c_13 => ?_)
      · have hq := fw_it c_13 hq
        exact hkk x2 x3 x4 H locs ls (hwE _ (Option.some.inj hq).symm) hP hD hS (lv_sub hl [0, 1, 2, 3, 4] rfl)
      · have hq := fw_if c_13 hq
        refine lv_iconst (v := (0 : Int32)) hx hb dX4_stretch_56 (by decide) ?_
        refine lv_istore (lv' := [(5, .int (0 : Int32)), (0, .ref (q 0)), (1, .int x1), (2, .int x2), (3, .int x3), (4, .int x4)]) hx hb dX4_stretch_57 hl (by decide) rfl (fun ls hl => ?_)
        obtain ⟨e_26, hw, hq⟩ := fw_bb hq
        refine L59 x1 x4 wl tn e_26 (fun x2_23 x3_24 x5_25 H locs ls he hP hD hS hl => ?_) (fun r9 he => by subst he; dsimp only at hq; exact hr0 _ (hwE _ (Option.some.inj hq).symm)) fw_N x2 x3 (0 : Int32) H locs ls hw hP hD hS (lv_sub hl [1, 2, 3, 4, 5, 0] rfl)
        subst he
        try dsimp only at hq
        refine lv_iinc (v := (x4 + (1 : Int32))) (lv' := [(4, .int (x4 + (1 : Int32))), (0, .ref (q 0)), (1, .int x1), (2, .int x2_23), (3, .int x3_24), (5, .int x5_25)]) hx hb dX4_stretch_145 hl (k := 4) rfl rfl (by decide) rfl (fun ls hl => ?_)
        refine lv_goto (tgt := 47) hx hb dX4_stretch_148 (by decide) ?_
        exact ih x2_23 x3_24 (x4 + (1 : Int32)) H locs ls (hwI _ (Option.some.inj hq).symm) hP hD hS (lv_sub hl [1, 2, 3, 4, 0] rfl)
  have hq := hz
  dsimp only [pX4_stretch] at hq
  have hl := lv_entry (([.ref (q 0), .int y1] : List Value)) (n := 8) (Nat.le_of_ble_eq_true rfl)
  rw [lg_entry_eq]
  generalize (lg_sl (([.ref (q 0), .int y1] : List Value)) ++ List.replicate (8 - (lg_sl (([.ref (q 0), .int y1] : List Value))).length) Slot.unset).toArray = ls at hl ⊢
  have hl : lv_has ls 8 [(0, .ref (q 0)), (1, .int y1)] := hl
  obtain ⟨H, hHe⟩ : ∃ H : Heap, H = s.heap := ⟨_, rfl⟩
  obtain ⟨locs, hLe⟩ : ∃ L : List Loc, L = [] := ⟨_, rfl⟩
  have hP : va_P (dC, dI) vwCl (wM cI cJ q  nn0 ln0 sa0 sb0 wg0 kt0 fr0 pt0 wl0 tn0 up0 lo0) H := by rw [hHe]; exact hP
  have hS : va_S A s.heap H locs := by rw [hHe, hLe]; exact va_S.rf
  show W p l e (headSpec wsX4_stretch ({ frames := 1, cells := 0, slots := 0, locals := 29 })).room s m ([.ref (q 0), .int y1] : List Value).toArray below meth c s.heap [] 0 0 (MQ below (va_Qi (fun (r : Int32) (u : (Nat → Int32) × (Nat → Int32)) => pX4_stretch nn0 ln0 sa0 sb0 wg0 kt0 wl0 tn0 y1 = some (r, u)) (fun u t => fw_B (dC, dI) A (wM cI cJ q  nn0 ln0 sa0 sb0 wg0 kt0 fr0 pt0 u.1 u.2 up0 lo0) t) A) ([.ref (q 0), .int y1] : List Value).toArray s 0 0 A) (F0 m 0 ls [])
  rw [← hHe, ← hLe]
  refine lv_iload_n hx hb dX4_stretch_0 rfl (lv_at hl 1 rfl) ?_
  refine lv_iconst (v := (0 : Int32)) hx hb dX4_stretch_1 (by decide) ?_
  refine lv_iconst (v := (1 : Int32)) hx hb dX4_stretch_2 (by decide) ?_
  have hPc := hP.sub (ws' := (w0 cI cJ   )) [] rfl
  have hDc := hD.sub (ws' := (w0 cI cJ   )) [] (by decide) rfl
  refine fw_ci (wr := [((q 0), .inr (4, [.int nn0, .int ln0, .ref (q 1), .ref (q 2), .ref (q 3), .ref (q 4), .ref (q 5), .ref (q 6), .ref (q 7), .ref (q 8), .long up0, .long lo0])), ((q 1), .inl (cI, 12, .inl sa0)), ((q 2), .inl (cI, 12, .inl sb0)), ((q 3), .inl (cI, 12, .inl wg0)), ((q 4), .inl (cI, 12, .inl kt0)), ((q 5), .inl (cI, 12, .inl fr0)), ((q 6), .inl (cI, 7, .inl pt0)), ((q 7), .inl (cI, 49, .inl wl0)), ((q 8), .inl (cI, 49, .inl tn0))]) (w2 := fun u => (wM cI cJ q  nn0 ln0 sa0 sb0 wg0 kt0 fr0 pt0 wl0 tn0 up0 lo0)) [] [0, 1, 2, 3, 4, 5, 6, 7, 8] [0, 1, 2, 3, 4, 5, 6, 7, 8] (va_runS (As := [.int y1, .int (0 : Int32), .int (1 : Int32)]) (rest := []) ⟨hx, hb, hml, hown, hts⟩ (kX4_in l dC dI cI cJ  H.size   y1 (0 : Int32) (1 : Int32) (fw_be hq)) (va_cwS 3 hts gX4_stretch_X4_in rfl rfl rfl (by decide +kernel) ⟨Nat.le_of_ble_eq_true rfl, Nat.le_of_ble_eq_true rfl⟩) ⟨fw_blind, fun U hU hW => fw_pre hPc hK hDc hN hU hW⟩ rfl rfl hl.1 rfl (lv_room (Nat.le_of_ble_eq_true rfl)) dX4_stretch_3 ⟨Nat.zero_le _, Nat.zero_le _⟩) hP hD hS hA rfl rfl (by decide) (by decide) (by decide) (fun _ => rfl) (fun r_1 u H locs hw hP hD hS => ?_)
  obtain ⟨hw, n_3⟩ := hw
  have hq := fw_bs hw hq
  try dsimp only at hq
  refine lv_if_ne (tgt := 12) hx hb dX4_stretch_6 (by decide) (fun c_4 => ?_) (fun c_4 => ?_)
  · have hq := fw_if c_4 hq
    refine lv_aload_n hx hb dX4_stretch_12 rfl (lv_at hl 0 rfl) ?_
    refine lv_iconst (v := (1 : Int32)) hx hb dX4_stretch_13 (by decide) ?_
    refine lv_aload_n hx hb dX4_stretch_14 rfl (lv_at hl 0 rfl) ?_
    refine va_get (D := (dC, dI)) (ci := 4) (v := .int ln0) (C := RX4) (T := TX4) (N := 12) hx hb hts hinX4 hown hK hP 0 rfl rfl 1 (by decide) hf42 (fun _ h9 => h9) rfl dX4_stretch_15 ?_
    refine lv_ishl hx hb dX4_stretch_18 ?_
    refine lv_iconst (v := (1 : Int32)) hx hb dX4_stretch_19 (by decide) ?_
    refine lv_isub hx hb dX4_stretch_20 ?_
    refine lv_aload_n hx hb dX4_stretch_21 rfl (lv_at hl 0 rfl) ?_
    refine va_get (D := (dC, dI)) (ci := 4) (v := .ref (q 7)) (C := RX4) (T := TX4) (N := 12) hx hb hts hinX4 hown hK hP 0 rfl rfl 8 (by decide) hf32 (fun _ h9 => h9) rfl dX4_stretch_22 ?_
    have hPc := hP.sub (ws' := (wM cI cJ q  nn0 ln0 sa0 sb0 wg0 kt0 fr0 pt0 wl0 tn0 up0 lo0)) [0, 1, 2, 3, 4, 5, 6, 7, 8] rfl
    have hDc := hD.sub (ws' := (wM cI cJ q  nn0 ln0 sa0 sb0 wg0 kt0 fr0 pt0 wl0 tn0 up0 lo0)) [0, 1, 2, 3, 4, 5, 6, 7, 8] (by decide) rfl
    refine fw_cv (wr := []) (w2 := fun u => (wM cI cJ q  nn0 ln0 sa0 sb0 wg0 kt0 fr0 pt0 u tn0 up0 lo0)) [0, 1, 2, 3, 4, 5, 6, 7, 8] [] [0, 1, 2, 3, 4, 5, 6, 7, 8] (va_runV (b := (q 0)) (As := [.int (((1 : Int32) <<< (ln0 &&& 31)) - (1 : Int32)), .ref (q 7)]) (rest := []) ⟨hx, hb, hml, hown, hts⟩ (kX4_findFar_W l dC dI cI cJ q H.size  nn0 ln0 sa0 sb0 wg0 kt0 fr0 pt0 wl0 tn0 up0 lo0 (((1 : Int32) <<< (ln0 &&& 31)) - (1 : Int32)) (fw_be hq)) (cwV 2 hts gX4_stretch_X4_findFar rfl rfl rfl (by decide +kernel) ⟨Nat.le_of_ble_eq_true rfl, Nat.le_of_ble_eq_true rfl⟩) ⟨fw_blind, va_recv hK hPc (ci := 4) (q0 := 0) rfl rfl, fun U hU hW => fw_pre hPc hK hDc hN hU hW⟩ rfl rfl hl.1 rfl (lv_room (Nat.le_of_ble_eq_true rfl)) dX4_stretch_25 ⟨Nat.zero_le _, Nat.zero_le _⟩) hP hD hS hA rfl rfl (by decide) (by decide) (by decide) (fun _ => rfl) (fun u H locs hw hP hD hS => ?_)
    obtain ⟨wl_5, rfl⟩ : ∃ z, z = u := ⟨_, rfl⟩
    have hq := fw_bs hw hq
    try dsimp only at hq
    have hP : va_P (dC, dI) vwCl (wM cI cJ q  nn0 ln0 sa0 sb0 wg0 kt0 fr0 pt0 wl_5 tn0 up0 lo0) H := hP
    have hD : va_D A (wM cI cJ q  nn0 ln0 sa0 sb0 wg0 kt0 fr0 pt0 wl_5 tn0 up0 lo0) := hD
    refine lv_aload_n hx hb dX4_stretch_28 rfl (lv_at hl 0 rfl) ?_
    refine lv_aload_n hx hb dX4_stretch_29 rfl (lv_at hl 0 rfl) ?_
    have hPc := hP.sub (ws' := (wM cI cJ q  nn0 ln0 sa0 sb0 wg0 kt0 fr0 pt0 wl_5 tn0 up0 lo0)) [0, 1, 2, 3, 4, 5, 6, 7, 8] rfl
    have hDc := hD.sub (ws' := (wM cI cJ q  nn0 ln0 sa0 sb0 wg0 kt0 fr0 pt0 wl_5 tn0 up0 lo0)) [0, 1, 2, 3, 4, 5, 6, 7, 8] (by decide) rfl
    refine fw_ci (wr := []) (w2 := fun u => (wM cI cJ q  nn0 ln0 sa0 sb0 wg0 kt0 fr0 pt0 wl_5 tn0 up0 lo0)) [0, 1, 2, 3, 4, 5, 6, 7, 8] [] [0, 1, 2, 3, 4, 5, 6, 7, 8] (va_runV (b := (q 0)) (As := []) (rest := [.ref (q 0)]) ⟨hx, hb, hml, hown, hts⟩ (kX4_keptSet l dC dI cI cJ q H.size  nn0 ln0 sa0 sb0 wg0 kt0 fr0 pt0 wl_5 tn0 up0 lo0  (fw_be hq)) (cwV 0 hts gX4_stretch_X4_keptSet rfl rfl rfl (by decide +kernel) ⟨Nat.le_of_ble_eq_true rfl, Nat.le_of_ble_eq_true rfl⟩) ⟨fw_blind, va_recv hK hPc (ci := 4) (q0 := 0) rfl rfl, fun U hU hW => fw_pre hPc hK hDc hN hU hW⟩ rfl rfl hl.1 rfl (lv_room (Nat.le_of_ble_eq_true rfl)) dX4_stretch_30 ⟨Nat.zero_le _, Nat.zero_le _⟩) hP hD hS hA rfl rfl (by decide) (by decide) (by decide) (fun _ => rfl) (fun r_8 u H locs hw hP hD hS => ?_)
    have hq := fw_bs hw hq
    try dsimp only at hq
    refine lv_aload_n hx hb dX4_stretch_33 rfl (lv_at hl 0 rfl) ?_
    refine va_get (D := (dC, dI)) (ci := 4) (v := .ref (q 8)) (C := RX4) (T := TX4) (N := 12) hx hb hts hinX4 hown hK hP 0 rfl rfl 9 (by decide) hf35 (fun _ h9 => h9) rfl dX4_stretch_34 ?_
    have hPc := hP.sub (ws' := (wM cI cJ q  nn0 ln0 sa0 sb0 wg0 kt0 fr0 pt0 wl_5 tn0 up0 lo0)) [0, 1, 2, 3, 4, 5, 6, 7, 8] rfl
    have hDc := hD.sub (ws' := (wM cI cJ q  nn0 ln0 sa0 sb0 wg0 kt0 fr0 pt0 wl_5 tn0 up0 lo0)) [0, 1, 2, 3, 4, 5, 6, 7, 8] (by decide) rfl
    refine fw_cv (wr := []) (w2 := fun u => (wM cI cJ q  nn0 ln0 sa0 sb0 wg0 kt0 fr0 pt0 wl_5 u up0 lo0)) [0, 1, 2, 3, 4, 5, 6, 7, 8] [] [0, 1, 2, 3, 4, 5, 6, 7, 8] (va_runV (b := (q 0)) (As := [.int r_8, .ref (q 8)]) (rest := []) ⟨hx, hb, hml, hown, hts⟩ (kX4_findFar_T l dC dI cI cJ q H.size  nn0 ln0 sa0 sb0 wg0 kt0 fr0 pt0 wl_5 tn0 up0 lo0 r_8 (fw_be hq)) (cwV 2 hts gX4_stretch_X4_findFar rfl rfl rfl (by decide +kernel) ⟨Nat.le_of_ble_eq_true rfl, Nat.le_of_ble_eq_true rfl⟩) ⟨fw_blind, va_recv hK hPc (ci := 4) (q0 := 0) rfl rfl, fun U hU hW => fw_pre hPc hK hDc hN hU hW⟩ rfl rfl hl.1 rfl (lv_room (Nat.le_of_ble_eq_true rfl)) dX4_stretch_37 ⟨Nat.zero_le _, Nat.zero_le _⟩) hP hD hS hA rfl rfl (by decide) (by decide) (by decide) (fun _ => rfl) (fun u H locs hw hP hD hS => ?_)
    obtain ⟨tn_10, rfl⟩ : ∃ z, z = u := ⟨_, rfl⟩
    have hq := fw_bs hw hq
    try dsimp only at hq
    have hP : va_P (dC, dI) vwCl (wM cI cJ q  nn0 ln0 sa0 sb0 wg0 kt0 fr0 pt0 wl_5 tn_10 up0 lo0) H := hP
    have hD : va_D A (wM cI cJ q  nn0 ln0 sa0 sb0 wg0 kt0 fr0 pt0 wl_5 tn_10 up0 lo0) := hD
    refine lv_iconst (v := (0 : Int32)) hx hb dX4_stretch_40 (by decide) ?_
    refine lv_istore_n (lv' := [(2, .int (0 : Int32)), (0, .ref (q 0)), (1, .int y1)]) hx hb dX4_stretch_41 rfl hl (by decide) rfl (fun ls hl => ?_)
    refine lv_iconst (v := (1 : Int32)) hx hb dX4_stretch_42 (by decide) ?_
    refine lv_istore_n (lv' := [(3, .int (1 : Int32)), (2, .int (0 : Int32)), (0, .ref (q 0)), (1, .int y1)]) hx hb dX4_stretch_43 rfl hl (by decide) rfl (fun ls hl => ?_)
    refine lv_iconst (v := (0 : Int32)) hx hb dX4_stretch_44 (by decide) ?_
    refine lv_istore (lv' := [(4, .int (0 : Int32)), (3, .int (1 : Int32)), (2, .int (0 : Int32)), (0, .ref (q 0)), (1, .int y1)]) hx hb dX4_stretch_45 hl (by decide) rfl (fun ls hl => ?_)
    obtain ⟨e_31, hw, hq⟩ := fw_bb hq
    refine L47 y1 wl_5 tn_10 e_31 (fun x2_28 x3_29 x4_30 H locs ls he hP hD hS hl => ?_) (fun r9 he => by subst he; dsimp only at hq; exact hq) fw_N (0 : Int32) (1 : Int32) (0 : Int32) H locs ls hw hP hD hS (lv_sub hl [3, 4, 2, 1, 0] rfl)
    subst he
    try dsimp only at hq
    refine lv_iload_n hx hb dX4_stretch_151 rfl (lv_at hl 2 rfl) ?_
    refine lv_if_ne (tgt := 157) hx hb dX4_stretch_152 (by decide) (fun c_33 => ?_) (fun c_33 => ?_)
    · have hq := fw_if c_33 hq
      refine lv_iload_n hx hb dX4_stretch_157 rfl (lv_at hl 2 rfl) ?_
      refine lv_i2l (v := (x2_28).toInt64) hx hb dX4_stretch_158 rfl ?_
      refine lv_iload_n hx hb dX4_stretch_159 rfl (lv_at hl 3 rfl) ?_
      refine lv_i2l (v := (x3_29).toInt64) hx hb dX4_stretch_160 rfl ?_
      have hPc := hP.sub (ws' := (w0 cI cJ   )) [] rfl
      have hDc := hD.sub (ws' := (w0 cI cJ   )) [] (by decide) rfl
      refine fw_cl (wr := [((q 0), .inr (4, [.int nn0, .int ln0, .ref (q 1), .ref (q 2), .ref (q 3), .ref (q 4), .ref (q 5), .ref (q 6), .ref (q 7), .ref (q 8), .long up0, .long lo0])), ((q 1), .inl (cI, 12, .inl sa0)), ((q 2), .inl (cI, 12, .inl sb0)), ((q 3), .inl (cI, 12, .inl wg0)), ((q 4), .inl (cI, 12, .inl kt0)), ((q 5), .inl (cI, 12, .inl fr0)), ((q 6), .inl (cI, 7, .inl pt0)), ((q 7), .inl (cI, 49, .inl wl_5)), ((q 8), .inl (cI, 49, .inl tn_10))]) (w2 := fun u => (wM cI cJ q  nn0 ln0 sa0 sb0 wg0 kt0 fr0 pt0 wl_5 tn_10 up0 lo0)) [] [0, 1, 2, 3, 4, 5, 6, 7, 8] [0, 1, 2, 3, 4, 5, 6, 7, 8] (va_runS (As := [.long ((x2_28).toInt64), .long ((x3_29).toInt64)]) (rest := []) ⟨hx, hb, hml, hown, hts⟩ (kX4_common l dC dI cI cJ  H.size   ((x2_28).toInt64) ((x3_29).toInt64) (fw_be hq)) (va_cwS 2 hts gX4_stretch_X4_common rfl rfl rfl (by decide +kernel) ⟨Nat.le_of_ble_eq_true rfl, Nat.le_of_ble_eq_true rfl⟩) ⟨fw_blind, fun U hU hW => fw_pre hPc hK hDc hN hU hW⟩ rfl rfl hl.1 rfl (lv_room (Nat.le_of_ble_eq_true rfl)) dX4_stretch_161 ⟨Nat.zero_le _, Nat.zero_le _⟩) hP hD hS hA rfl rfl (by decide) (by decide) (by decide) (fun _ => rfl) (fun r_34 u H locs hw hP hD hS => ?_)
      have hq := fw_bs hw hq
      try dsimp only at hq
      refine lv_l2i (v := (r_34).toInt32) hx hb dX4_stretch_164 rfl ?_
      refine lv_istore (lv' := [(4, .int ((r_34).toInt32)), (0, .ref (q 0)), (1, .int y1), (2, .int x2_28), (3, .int x3_29)]) hx hb dX4_stretch_165 hl (by decide) rfl (fun ls hl => ?_)
      refine lv_iload_n hx hb dX4_stretch_167 rfl (lv_at hl 2 rfl) ?_
      refine lv_if_ne (tgt := 178) hx hb dX4_stretch_168 (by decide) (fun c_36 => ?_) (fun c_36 => ?_)
      · have hq := fw_if c_36 hq
        refine lv_iload_n hx hb dX4_stretch_178 rfl (lv_at hl 4 rfl) ?_
        refine lv_iload hx hb dX4_stretch_179 (lv_at hl 0 rfl) ?_
        obtain ⟨h_37, hq⟩ := fw_cz_s hq
        refine lv_idiv hx hb dX4_stretch_181 h_37 ?_
        exact W.iret (v := (x3_29 / (r_34).toInt32)) hx hb hr (fun t ht hW => ⟨⟨(x3_29 / (r_34).toInt32), (wl_5, tn_10), rfl, hz.trans hq.symm, by rw [ht]; exact hP, hD⟩, hS.F ht⟩) hS.2.2 dX4_stretch_182
      · have hq := fw_it c_36 hq
        refine lv_iload_n hx hb dX4_stretch_171 rfl (lv_at hl 3 rfl) ?_
        refine lv_iload hx hb dX4_stretch_172 (lv_at hl 0 rfl) ?_
        obtain ⟨h_38, hq⟩ := fw_cz_s hq
        refine lv_idiv hx hb dX4_stretch_174 h_38 ?_
        refine lv_goto (tgt := 182) hx hb dX4_stretch_175 (by decide) ?_
        exact W.iret (v := (x2_28 / (r_34).toInt32)) hx hb hr (fun t ht hW => ⟨⟨(x2_28 / (r_34).toInt32), (wl_5, tn_10), rfl, hz.trans hq.symm, by rw [ht]; exact hP, hD⟩, hS.F ht⟩) hS.2.2 dX4_stretch_182
    · have hq := fw_it c_33 hq
      refine lv_iconst (v := (-1 : Int32)) hx hb dX4_stretch_155 (by decide) ?_
      exact W.iret (v := (-1 : Int32)) hx hb hr (fun t ht hW => ⟨⟨(-1 : Int32), (wl_5, tn_10), rfl, hz.trans hq.symm, by rw [ht]; exact hP, hD⟩, hS.F ht⟩) hS.2.2 dX4_stretch_156
  · have hq := fw_it c_4 hq
    refine lv_bipush (v := (-3 : Int32)) hx hb dX4_stretch_9 (by decide) ?_
    exact W.iret (v := (-3 : Int32)) hx hb hr (fun t ht hW => ⟨⟨(-3 : Int32), (wl0, tn0), rfl, hz.trans hq.symm, by rw [ht]; exact hP, hD⟩, hS.F ht⟩) hS.2.2 dX4_stretch_11
set_option maxHeartbeats 4000000 in
set_option maxRecDepth 100000 in
theorem kX4_products (l : Launch) (dC : Nat → ClassId) (dI : Nat → Nat → Nat) (cI cJ : ClassId) (q : Nat → Nat) (sz : Nat)  (nn0 : Int32) (ln0 : Int32) (sa0 : Nat → Int32) (sb0 : Nat → Int32) (wg0 : Nat → Int32) (kt0 : Nat → Int32) (fr0 : Nat → Int32) (pt0 : Nat → Int32) (wl0 : Nat → Int32) (tn0 : Nat → Int32) (up0 : Int64) (lo0 : Int64) (y1 : Int32) (y2 : Int32) (y3 : Int32) (y4 : Int32) (hd : ∃ z, pX4_products nn0 ln0 sa0 sb0 wg0 kt0 pt0 y1 y2 y3 y4 = some z) : Met l yX4_products wsX4_products ({ frames := 1, cells := 0, slots := 0, locals := 24 }) (fw_Pc (dC, dI) (fw_tys cI cJ) (wM cI cJ q  nn0 ln0 sa0 sb0 wg0 kt0 fr0 pt0 wl0 tn0 up0 lo0) ([.ref (q 0), .int y1, .int y2, .int y3, .int y4] : List Value) sz) (va_Ql (fun (r : Int64) (u : (Nat → Int32)) => pX4_products nn0 ln0 sa0 sb0 wg0 kt0 pt0 y1 y2 y3 y4 = some (r, u)) (fun u t => fw_B (dC, dI) (va_A (wM cI cJ q  nn0 ln0 sa0 sb0 wg0 kt0 fr0 pt0 wl0 tn0 up0 lo0) sz) (wM cI cJ q  nn0 ln0 sa0 sb0 wg0 kt0 fr0 u wl0 tn0 up0 lo0) t) (va_A (wM cI cJ q  nn0 ln0 sa0 sb0 wg0 kt0 fr0 pt0 wl0 tn0 up0 lo0) sz)) 0 0 (va_A (wM cI cJ q  nn0 ln0 sa0 sb0 wg0 kt0 fr0 pt0 wl0 tn0 up0 lo0) sz) := by
  obtain ⟨z, hz⟩ := hd
  refine Met.ofW (cc := cX4_products) (maxL := 11) (ret := (some .long)) (by decide) rfl ?_
  intro p e s m args below meth c s₁ B hml hv
  obtain ⟨rfl, hsz, hP, hK, hD0, hN⟩ := hv
  have hx := B.exec
  have hb := B.bytes
  have hr := B.returns
  have hts := atoms_spec (ws := wsX4_products) B.pre
  have hown : s.vm.findClass RX4 = some m.cls := findClass_of_methodNamed B.named
  have hlocks := B.notSynchronized
  subst hsz
  have hD := hD0.self (sz := s.heap.size)
  generalize hAe : va_A (wM cI cJ q  nn0 ln0 sa0 sb0 wg0 kt0 fr0 pt0 wl0 tn0 up0 lo0) s.heap.size = A at hD ⊢
  have hA : ∀ q : Nat, s.heap.size ≤ q → A q := fun q h => by rw [← hAe]; exact Or.inr h
  have hinX4 : ∀ w ∈ u_ws RX4 TX4 12, w ∈ wsX4_products := by decide +kernel
  have hf20 := hts (.fieldLink RX4 20 "FewLinesModel" "weight" "[I") (by decide +kernel)
  have hf23 := hts (.fieldLink RX4 23 "FewLinesModel" "kept" "[I") (by decide +kernel)
  have hf29 := hts (.fieldLink RX4 29 "FewLinesModel" "part" "[I") (by decide +kernel)
  have hf42 := hts (.fieldLink RX4 42 "FewLinesModel" "lines" "I") (by decide +kernel)
  have L36 : ∀ (x1 : Int32) (x2 : Int32) (x3 : Int32) (x4 : Int32) (x5 : Int64) (x7 : Int32) (e9 : Int64 × Int32 × (Nat → Int32)), (∀ (x8' : Int64) (x10' : Int32) (pt' : Nat → Int32) (H : Heap) (locs : List Loc) (ls : Array Slot), e9 = (x8', x10', pt') → va_P (dC, dI) vwCl (wM cI cJ q  nn0 ln0 sa0 sb0 wg0 kt0 fr0 pt' wl0 tn0 up0 lo0) H → va_D A (wM cI cJ q  nn0 ln0 sa0 sb0 wg0 kt0 fr0 pt' wl0 tn0 up0 lo0) → va_S A s.heap H locs → lv_has ls 11 [(0, .ref (q 0)), (1, .int x1), (2, .int x2), (3, .int x3), (4, .int x4), (5, .long x5), (7, .int x7), (8, .long x8'), (10, .int x10')] → W p l e (headSpec wsX4_products ({ frames := 1, cells := 0, slots := 0, locals := 24 })).room s m ([.ref (q 0), .int y1, .int y2, .int y3, .int y4] : List Value).toArray below meth c H locs 0 0 (MQ below (va_Ql (fun (r : Int64) (u : (Nat → Int32)) => pX4_products nn0 ln0 sa0 sb0 wg0 kt0 pt0 y1 y2 y3 y4 = some (r, u)) (fun u t => fw_B (dC, dI) A (wM cI cJ q  nn0 ln0 sa0 sb0 wg0 kt0 fr0 u wl0 tn0 up0 lo0) t) A) ([.ref (q 0), .int y1, .int y2, .int y3, .int y4] : List Value).toArray s 0 0 A) (F0 m 109 ls [])) → ∀ (n9 : Nat) (x8 : Int64) (x10 : Int32) (pt : Nat → Int32) (H : Heap) (locs : List Loc) (ls : Array Slot), fw_wh (pX4_products_36 x2 x7 nn0 ln0 sa0 sb0 wg0 kt0) n9 (x8, x10, pt) = some e9 → va_P (dC, dI) vwCl (wM cI cJ q  nn0 ln0 sa0 sb0 wg0 kt0 fr0 pt wl0 tn0 up0 lo0) H → va_D A (wM cI cJ q  nn0 ln0 sa0 sb0 wg0 kt0 fr0 pt wl0 tn0 up0 lo0) → va_S A s.heap H locs → lv_has ls 11 [(0, .ref (q 0)), (1, .int x1), (2, .int x2), (3, .int x3), (4, .int x4), (5, .long x5), (7, .int x7), (8, .long x8), (10, .int x10)] → W p l e (headSpec wsX4_products ({ frames := 1, cells := 0, slots := 0, locals := 24 })).room s m ([.ref (q 0), .int y1, .int y2, .int y3, .int y4] : List Value).toArray below meth c H locs 0 0 (MQ below (va_Ql (fun (r : Int64) (u : (Nat → Int32)) => pX4_products nn0 ln0 sa0 sb0 wg0 kt0 pt0 y1 y2 y3 y4 = some (r, u)) (fun u t => fw_B (dC, dI) A (wM cI cJ q  nn0 ln0 sa0 sb0 wg0 kt0 fr0 u wl0 tn0 up0 lo0) t) A) ([.ref (q 0), .int y1, .int y2, .int y3, .int y4] : List Value).toArray s 0 0 A) (F0 m 36 ls []) := by
    intro x1 x2 x3 x4 x5 x7 e9 hkk n9
    induction n9 with
    | zero => exact fun _ _ _ H locs ls hq => (fw_wh0 hq).elim
    | succ n9 ih =>
      intro x8 x10 pt H locs ls hq hP hD hS hl
      obtain ⟨w9, hq, hwI, hwE⟩ := fw_wh1 hq
      dsimp only [pX4_products_36] at hq
      refine lv_iload hx hb dX4_products_36 (lv_at hl 8 rfl) ?_
      refine lv_aload_n hx hb dX4_products_38 rfl (lv_at hl 0 rfl) ?_
      refine va_get (D := (dC, dI)) (ci := 4) (v := .int ln0) (C := RX4) (T := TX4) (N := 12) hx hb hts hinX4 hown hK hP 0 rfl rfl 1 (by decide) hf42 (fun _ h9 => h9) rfl dX4_products_39 ?_
      refine lv_icmp_ge (tgt := 109) hx hb dX4_products_42 (by decide) (fun c_8 => ?_) (fun c_8 => ?_)
      · have hq := fw_it c_8 hq
        exact hkk x8 x10 pt H locs ls (hwE _ (Option.some.inj hq).symm) hP hD hS (lv_sub hl [0, 1, 2, 3, 4, 5, 6, 7, 8] rfl)
      · have hq := fw_if c_8 hq
        refine lv_lload hx hb dX4_products_45 (lv_at hl 7 rfl) ?_
        refine lv_lconst (v := (0 : Int64)) hx hb dX4_products_47 (by decide) ?_
        refine W.lcmp hx hb dX4_products_48 ?_
        refine lv_if_le (tgt := 109) hx hb dX4_products_49 (by decide) (fun c_9 => ?_) (fun c_9 => ?_)
        · have hq := fw_it c_9 hq
          exact hkk x8 x10 pt H locs ls (hwE _ (Option.some.inj hq).symm) hP hD hS (lv_sub hl [0, 1, 2, 3, 4, 5, 6, 7, 8] rfl)
        · have hq := fw_if c_9 hq
          refine lv_iload hx hb dX4_products_52 (lv_at hl 6 rfl) ?_
          refine lv_iload hx hb dX4_products_54 (lv_at hl 8 rfl) ?_
          refine lv_ishr hx hb dX4_products_56 ?_
          refine lv_iconst (v := (1 : Int32)) hx hb dX4_products_57 (by decide) ?_
          refine lv_iand hx hb dX4_products_58 ?_
          refine lv_iconst (v := (1 : Int32)) hx hb dX4_products_59 (by decide) ?_
          refine lv_icmp_ne (tgt := 103) hx hb dX4_products_60 (by decide) (fun c_10 => ?_) (fun c_10 => ?_)
          · have hq := fw_if c_10 hq
            refine lv_iinc (v := (x10 + (1 : Int32))) (lv' := [(10, .int (x10 + (1 : Int32))), (0, .ref (q 0)), (1, .int x1), (2, .int x2), (3, .int x3), (4, .int x4), (5, .long x5), (7, .int x7), (8, .long x8)]) hx hb dX4_products_103 hl (k := 8) rfl rfl (by decide) rfl (fun ls hl => ?_)
            refine lv_goto (tgt := 36) hx hb dX4_products_106 (by decide) ?_
            exact ih x8 (x10 + (1 : Int32)) pt H locs ls (hwI _ (Option.some.inj hq).symm) hP hD hS (lv_sub hl [1, 2, 3, 4, 5, 6, 7, 8, 0] rfl)
          · have hq := fw_it c_10 hq
            refine lv_aload_n hx hb dX4_products_63 rfl (lv_at hl 0 rfl) ?_
            refine lv_iload hx hb dX4_products_64 (lv_at hl 8 rfl) ?_
            have hPc := hP.sub (ws' := (wM cI cJ q  nn0 ln0 sa0 sb0 wg0 kt0 fr0 pt wl0 tn0 up0 lo0)) [0, 1, 2, 3, 4, 5, 6, 7, 8] rfl
            have hDc := hD.sub (ws' := (wM cI cJ q  nn0 ln0 sa0 sb0 wg0 kt0 fr0 pt wl0 tn0 up0 lo0)) [0, 1, 2, 3, 4, 5, 6, 7, 8] (by decide) rfl
            refine fw_ci (wr := []) (w2 := fun u => (wM cI cJ q  nn0 ln0 sa0 sb0 wg0 kt0 fr0 u wl0 tn0 up0 lo0)) [0, 1, 2, 3, 4, 5, 6, 7, 8] [] [0, 1, 2, 3, 4, 5, 6, 7, 8] (va_runV (b := (q 0)) (As := [.int x10]) (rest := []) ⟨hx, hb, hml, hown, hts⟩ (kX4_join l dC dI cI cJ q H.size  nn0 ln0 sa0 sb0 wg0 kt0 fr0 pt wl0 tn0 up0 lo0 x10 (fw_be hq)) (cwV 1 hts gX4_products_X4_join rfl rfl rfl (by decide +kernel) ⟨Nat.le_of_ble_eq_true rfl, Nat.le_of_ble_eq_true rfl⟩) ⟨fw_blind, va_recv hK hPc (ci := 4) (q0 := 0) rfl rfl, fun U hU hW => fw_pre hPc hK hDc hN hU hW⟩ rfl rfl hl.1 rfl (lv_room (Nat.le_of_ble_eq_true rfl)) dX4_products_66 ⟨Nat.zero_le _, Nat.zero_le _⟩) hP hD hS hA rfl rfl (by decide) (by decide) (by decide) (fun _ => rfl) (fun r_12 u H locs hw hP hD hS => ?_)
            obtain ⟨pt_11, rfl⟩ : ∃ z, z = u := ⟨_, rfl⟩
            obtain ⟨hw, n_14⟩ := hw
            have hq := fw_bs hw hq
            try dsimp only at hq
            have hP : va_P (dC, dI) vwCl (wM cI cJ q  nn0 ln0 sa0 sb0 wg0 kt0 fr0 pt_11 wl0 tn0 up0 lo0) H := hP
            have hD : va_D A (wM cI cJ q  nn0 ln0 sa0 sb0 wg0 kt0 fr0 pt_11 wl0 tn0 up0 lo0) := hD
            refine lv_if_eq (tgt := 100) hx hb dX4_products_69 (by decide) (fun c_15 => ?_) (fun c_15 => ?_)
            · have hq := fw_it c_15 hq
              refine lv_lconst (v := (0 : Int64)) hx hb dX4_products_100 (by decide) ?_
              refine lv_lstore (lv' := [(8, .long (0 : Int64)), (0, .ref (q 0)), (1, .int x1), (2, .int x2), (3, .int x3), (4, .int x4), (5, .long x5), (7, .int x7), (10, .int x10)]) hx hb dX4_products_101 hl (by decide) rfl (fun ls hl => ?_)
              refine lv_iinc (v := (x10 + (1 : Int32))) (lv' := [(10, .int (x10 + (1 : Int32))), (8, .long (0 : Int64)), (0, .ref (q 0)), (1, .int x1), (2, .int x2), (3, .int x3), (4, .int x4), (5, .long x5), (7, .int x7)]) hx hb dX4_products_103 hl (k := 8) rfl rfl (by decide) rfl (fun ls hl => ?_)
              refine lv_goto (tgt := 36) hx hb dX4_products_106 (by decide) ?_
              exact ih (0 : Int64) (x10 + (1 : Int32)) pt_11 H locs ls (hwI _ (Option.some.inj hq).symm) hP hD hS (lv_sub hl [2, 3, 4, 5, 6, 7, 8, 1, 0] rfl)
            · have hq := fw_if c_15 hq
              refine lv_lload hx hb dX4_products_72 (lv_at hl 7 rfl) ?_
              refine lv_iload_n hx hb dX4_products_74 rfl (lv_at hl 2 rfl) ?_
              refine lv_if_ne (tgt := 88) hx hb dX4_products_75 (by decide) (fun c_16 => ?_) (fun c_16 => ?_)
              · have hq := fw_if c_16 hq
                refine lv_aload_n hx hb dX4_products_88 rfl (lv_at hl 0 rfl) ?_
                refine va_get (D := (dC, dI)) (ci := 4) (v := .ref (q 4)) (C := RX4) (T := TX4) (N := 12) hx hb hts hinX4 hown hK hP 0 rfl rfl 5 (by decide) hf23 (fun _ h9 => h9) rfl dX4_products_89 ?_
                refine lv_iload hx hb dX4_products_92 (lv_at hl 8 rfl) ?_
                obtain ⟨h_17, hq⟩ := fw_ck_s hq
                refine va_iald hx hb hK hP 4 0 rfl rfl h_17 dX4_products_94 ?_
                refine lv_i2l (v := ((kt0 (x10).toNatClampNeg)).toInt64) hx hb dX4_products_95 rfl ?_
                refine lv_lmul hx hb dX4_products_96 ?_
                refine lv_goto (tgt := 101) hx hb dX4_products_97 (by decide) ?_
                refine lv_lstore (lv' := [(8, .long (x8 * ((kt0 (x10).toNatClampNeg)).toInt64)), (0, .ref (q 0)), (1, .int x1), (2, .int x2), (3, .int x3), (4, .int x4), (5, .long x5), (7, .int x7), (10, .int x10)]) hx hb dX4_products_101 hl (by decide) rfl (fun ls hl => ?_)
                refine lv_iinc (v := (x10 + (1 : Int32))) (lv' := [(10, .int (x10 + (1 : Int32))), (8, .long (x8 * ((kt0 (x10).toNatClampNeg)).toInt64)), (0, .ref (q 0)), (1, .int x1), (2, .int x2), (3, .int x3), (4, .int x4), (5, .long x5), (7, .int x7)]) hx hb dX4_products_103 hl (k := 8) rfl rfl (by decide) rfl (fun ls hl => ?_)
                refine lv_goto (tgt := 36) hx hb dX4_products_106 (by decide) ?_
                exact ih (x8 * ((kt0 (x10).toNatClampNeg)).toInt64) (x10 + (1 : Int32)) pt_11 H locs ls (hwI _ (Option.some.inj hq).symm) hP hD hS (lv_sub hl [2, 3, 4, 5, 6, 7, 8, 1, 0] rfl)
              · have hq := fw_it c_16 hq
                refine lv_aload_n hx hb dX4_products_78 rfl (lv_at hl 0 rfl) ?_
                refine va_get (D := (dC, dI)) (ci := 4) (v := .ref (q 3)) (C := RX4) (T := TX4) (N := 12) hx hb hts hinX4 hown hK hP 0 rfl rfl 4 (by decide) hf20 (fun _ h9 => h9) rfl dX4_products_79 ?_
                refine lv_iload hx hb dX4_products_82 (lv_at hl 8 rfl) ?_
                obtain ⟨h_18, hq⟩ := fw_ck_s hq
                refine va_iald hx hb hK hP 3 0 rfl rfl h_18 dX4_products_84 ?_
                refine lv_goto (tgt := 95) hx hb dX4_products_85 (by decide) ?_
                refine lv_i2l (v := ((wg0 (x10).toNatClampNeg)).toInt64) hx hb dX4_products_95 rfl ?_
                refine lv_lmul hx hb dX4_products_96 ?_
                refine lv_goto (tgt := 101) hx hb dX4_products_97 (by decide) ?_
                refine lv_lstore (lv' := [(8, .long (x8 * ((wg0 (x10).toNatClampNeg)).toInt64)), (0, .ref (q 0)), (1, .int x1), (2, .int x2), (3, .int x3), (4, .int x4), (5, .long x5), (7, .int x7), (10, .int x10)]) hx hb dX4_products_101 hl (by decide) rfl (fun ls hl => ?_)
                refine lv_iinc (v := (x10 + (1 : Int32))) (lv' := [(10, .int (x10 + (1 : Int32))), (8, .long (x8 * ((wg0 (x10).toNatClampNeg)).toInt64)), (0, .ref (q 0)), (1, .int x1), (2, .int x2), (3, .int x3), (4, .int x4), (5, .long x5), (7, .int x7)]) hx hb dX4_products_103 hl (k := 8) rfl rfl (by decide) rfl (fun ls hl => ?_)
                refine lv_goto (tgt := 36) hx hb dX4_products_106 (by decide) ?_
                exact ih (x8 * ((wg0 (x10).toNatClampNeg)).toInt64) (x10 + (1 : Int32)) pt_11 H locs ls (hwI _ (Option.some.inj hq).symm) hP hD hS (lv_sub hl [2, 3, 4, 5, 6, 7, 8, 1, 0] rfl)
  have L6 : ∀ (x1 : Int32) (x2 : Int32) (x3 : Int32) (x4 : Int32) (e9 : Int64 × Int32 × (Nat → Int32)), (∀ (x5' : Int64) (x7' : Int32) (pt' : Nat → Int32) (H : Heap) (locs : List Loc) (ls : Array Slot), e9 = (x5', x7', pt') → va_P (dC, dI) vwCl (wM cI cJ q  nn0 ln0 sa0 sb0 wg0 kt0 fr0 pt' wl0 tn0 up0 lo0) H → va_D A (wM cI cJ q  nn0 ln0 sa0 sb0 wg0 kt0 fr0 pt' wl0 tn0 up0 lo0) → va_S A s.heap H locs → lv_has ls 11 [(0, .ref (q 0)), (1, .int x1), (2, .int x2), (3, .int x3), (4, .int x4), (5, .long x5'), (7, .int x7')] → W p l e (headSpec wsX4_products ({ frames := 1, cells := 0, slots := 0, locals := 24 })).room s m ([.ref (q 0), .int y1, .int y2, .int y3, .int y4] : List Value).toArray below meth c H locs 0 0 (MQ below (va_Ql (fun (r : Int64) (u : (Nat → Int32)) => pX4_products nn0 ln0 sa0 sb0 wg0 kt0 pt0 y1 y2 y3 y4 = some (r, u)) (fun u t => fw_B (dC, dI) A (wM cI cJ q  nn0 ln0 sa0 sb0 wg0 kt0 fr0 u wl0 tn0 up0 lo0) t) A) ([.ref (q 0), .int y1, .int y2, .int y3, .int y4] : List Value).toArray s 0 0 A) (F0 m 148 ls [])) → ∀ (n9 : Nat) (x5 : Int64) (x7 : Int32) (pt : Nat → Int32) (H : Heap) (locs : List Loc) (ls : Array Slot), fw_wh (pX4_products_6 x1 x2 x3 x4 nn0 ln0 sa0 sb0 wg0 kt0) n9 (x5, x7, pt) = some e9 → va_P (dC, dI) vwCl (wM cI cJ q  nn0 ln0 sa0 sb0 wg0 kt0 fr0 pt wl0 tn0 up0 lo0) H → va_D A (wM cI cJ q  nn0 ln0 sa0 sb0 wg0 kt0 fr0 pt wl0 tn0 up0 lo0) → va_S A s.heap H locs → lv_has ls 11 [(0, .ref (q 0)), (1, .int x1), (2, .int x2), (3, .int x3), (4, .int x4), (5, .long x5), (7, .int x7)] → W p l e (headSpec wsX4_products ({ frames := 1, cells := 0, slots := 0, locals := 24 })).room s m ([.ref (q 0), .int y1, .int y2, .int y3, .int y4] : List Value).toArray below meth c H locs 0 0 (MQ below (va_Ql (fun (r : Int64) (u : (Nat → Int32)) => pX4_products nn0 ln0 sa0 sb0 wg0 kt0 pt0 y1 y2 y3 y4 = some (r, u)) (fun u t => fw_B (dC, dI) A (wM cI cJ q  nn0 ln0 sa0 sb0 wg0 kt0 fr0 u wl0 tn0 up0 lo0) t) A) ([.ref (q 0), .int y1, .int y2, .int y3, .int y4] : List Value).toArray s 0 0 A) (F0 m 6 ls []) := by
    intro x1 x2 x3 x4 e9 hkk n9
    induction n9 with
    | zero => exact fun _ _ _ H locs ls hq => (fw_wh0 hq).elim
    | succ n9 ih =>
      intro x5 x7 pt H locs ls hq hP hD hS hl
      obtain ⟨w9, hq, hwI, hwE⟩ := fw_wh1 hq
      dsimp only [pX4_products_6] at hq
      refine lv_iload hx hb dX4_products_6 (lv_at hl 6 rfl) ?_
      refine lv_iconst (v := (1 : Int32)) hx hb dX4_products_8 (by decide) ?_
      refine lv_aload_n hx hb dX4_products_9 rfl (lv_at hl 0 rfl) ?_
      refine va_get (D := (dC, dI)) (ci := 4) (v := .int ln0) (C := RX4) (T := TX4) (N := 12) hx hb hts hinX4 hown hK hP 0 rfl rfl 1 (by decide) hf42 (fun _ h9 => h9) rfl dX4_products_10 ?_
      refine lv_ishl hx hb dX4_products_13 ?_
      refine lv_icmp_ge (tgt := 148) hx hb dX4_products_14 (by decide) (fun c_1 => ?_) (fun c_1 => ?_)
      · have hq := fw_it c_1 hq
        exact hkk x5 x7 pt H locs ls (hwE _ (Option.some.inj hq).symm) hP hD hS (lv_sub hl [0, 1, 2, 3, 4, 5, 6] rfl)
      · have hq := fw_if c_1 hq
        refine lv_iload hx hb dX4_products_17 (lv_at hl 6 rfl) ?_
        have hPc := hP.sub (ws' := (w0 cI cJ   )) [] rfl
        have hDc := hD.sub (ws' := (w0 cI cJ   )) [] (by decide) rfl
        refine fw_ci (wr := [((q 0), .inr (4, [.int nn0, .int ln0, .ref (q 1), .ref (q 2), .ref (q 3), .ref (q 4), .ref (q 5), .ref (q 6), .ref (q 7), .ref (q 8), .long up0, .long lo0])), ((q 1), .inl (cI, 12, .inl sa0)), ((q 2), .inl (cI, 12, .inl sb0)), ((q 3), .inl (cI, 12, .inl wg0)), ((q 4), .inl (cI, 12, .inl kt0)), ((q 5), .inl (cI, 12, .inl fr0)), ((q 6), .inl (cI, 7, .inl pt)), ((q 7), .inl (cI, 49, .inl wl0)), ((q 8), .inl (cI, 49, .inl tn0))]) (w2 := fun u => (wM cI cJ q  nn0 ln0 sa0 sb0 wg0 kt0 fr0 pt wl0 tn0 up0 lo0)) [] [0, 1, 2, 3, 4, 5, 6, 7, 8] [0, 1, 2, 3, 4, 5, 6, 7, 8] (va_runS (As := [.int x7]) (rest := []) ⟨hx, hb, hml, hown, hts⟩ (kX4_many l dC dI cI cJ  H.size   x7 (fw_be hq)) (va_cwS 1 hts gX4_products_X4_many rfl rfl rfl (by decide +kernel) ⟨Nat.le_of_ble_eq_true rfl, Nat.le_of_ble_eq_true rfl⟩) ⟨fw_blind, fun U hU hW => fw_pre hPc hK hDc hN hU hW⟩ rfl rfl hl.1 rfl (lv_room (Nat.le_of_ble_eq_true rfl)) dX4_products_19 ⟨Nat.zero_le _, Nat.zero_le _⟩) hP hD hS hA rfl rfl (by decide) (by decide) (by decide) (fun _ => rfl) (fun r_2 u H locs hw hP hD hS => ?_)
        have hq := fw_bs hw hq
        try dsimp only at hq
        refine lv_iload_n hx hb dX4_products_22 rfl (lv_at hl 1 rfl) ?_
        refine lv_icmp_ne (tgt := 142) hx hb dX4_products_23 (by decide) (fun c_4 => ?_) (fun c_4 => ?_)
        · have hq := fw_if c_4 hq
          refine lv_iinc (v := (x7 + (1 : Int32))) (lv' := [(7, .int (x7 + (1 : Int32))), (0, .ref (q 0)), (1, .int x1), (2, .int x2), (3, .int x3), (4, .int x4), (5, .long x5)]) hx hb dX4_products_142 hl (k := 6) rfl rfl (by decide) rfl (fun ls hl => ?_)
          refine lv_goto (tgt := 6) hx hb dX4_products_145 (by decide) ?_
          exact ih x5 (x7 + (1 : Int32)) pt H locs ls (hwI _ (Option.some.inj hq).symm) hP hD hS (lv_sub hl [1, 2, 3, 4, 5, 6, 0] rfl)
        · have hq := fw_it c_4 hq
          refine lv_lconst (v := (1 : Int64)) hx hb dX4_products_26 (by decide) ?_
          refine lv_lstore (lv' := [(8, .long (1 : Int64)), (0, .ref (q 0)), (1, .int x1), (2, .int x2), (3, .int x3), (4, .int x4), (5, .long x5), (7, .int x7)]) hx hb dX4_products_27 hl (by decide) rfl (fun ls hl => ?_)
          refine lv_aload_n hx hb dX4_products_29 rfl (lv_at hl 1 rfl) ?_
          have hPc := hP.sub (ws' := (wM cI cJ q  nn0 ln0 sa0 sb0 wg0 kt0 fr0 pt wl0 tn0 up0 lo0)) [0, 1, 2, 3, 4, 5, 6, 7, 8] rfl
          have hDc := hD.sub (ws' := (wM cI cJ q  nn0 ln0 sa0 sb0 wg0 kt0 fr0 pt wl0 tn0 up0 lo0)) [0, 1, 2, 3, 4, 5, 6, 7, 8] (by decide) rfl
          refine fw_cv (wr := []) (w2 := fun u => (wM cI cJ q  nn0 ln0 sa0 sb0 wg0 kt0 fr0 u wl0 tn0 up0 lo0)) [0, 1, 2, 3, 4, 5, 6, 7, 8] [] [0, 1, 2, 3, 4, 5, 6, 7, 8] (va_runV (b := (q 0)) (As := []) (rest := []) ⟨hx, hb, hml, hown, hts⟩ (kX4_apart l dC dI cI cJ q H.size  nn0 ln0 sa0 sb0 wg0 kt0 fr0 pt wl0 tn0 up0 lo0  (fw_be hq)) (cwV 0 hts gX4_products_X4_apart rfl rfl rfl (by decide +kernel) ⟨Nat.le_of_ble_eq_true rfl, Nat.le_of_ble_eq_true rfl⟩) ⟨fw_blind, va_recv hK hPc (ci := 4) (q0 := 0) rfl rfl, fun U hU hW => fw_pre hPc hK hDc hN hU hW⟩ rfl rfl hl.1 rfl (lv_room (Nat.le_of_ble_eq_true rfl)) dX4_products_30 ⟨Nat.zero_le _, Nat.zero_le _⟩) hP hD hS hA rfl rfl (by decide) (by decide) (by decide) (fun _ => rfl) (fun u H locs hw hP hD hS => ?_)
          obtain ⟨pt_5, rfl⟩ : ∃ z, z = u := ⟨_, rfl⟩
          have hq := fw_bs hw hq
          try dsimp only at hq
          have hP : va_P (dC, dI) vwCl (wM cI cJ q  nn0 ln0 sa0 sb0 wg0 kt0 fr0 pt_5 wl0 tn0 up0 lo0) H := hP
          have hD : va_D A (wM cI cJ q  nn0 ln0 sa0 sb0 wg0 kt0 fr0 pt_5 wl0 tn0 up0 lo0) := hD
          refine lv_iconst (v := (0 : Int32)) hx hb dX4_products_33 (by decide) ?_
          refine lv_istore (lv' := [(10, .int (0 : Int32)), (8, .long (1 : Int64)), (0, .ref (q 0)), (1, .int x1), (2, .int x2), (3, .int x3), (4, .int x4), (5, .long x5), (7, .int x7)]) hx hb dX4_products_34 hl (by decide) rfl (fun ls hl => ?_)
          obtain ⟨e_22, hw, hq⟩ := fw_bb hq
          refine L36 x1 x2 x3 x4 x5 x7 e_22 (fun x8_19 x10_20 pt_21 H locs ls he hP hD hS hl => ?_) fw_N (1 : Int64) (0 : Int32) pt_5 H locs ls hw hP hD hS (lv_sub hl [2, 3, 4, 5, 6, 7, 8, 1, 0] rfl)
          subst he
          try dsimp only at hq
          refine lv_lload hx hb dX4_products_109 (lv_at hl 5 rfl) ?_
          refine lv_iload_n hx hb dX4_products_111 rfl (lv_at hl 3 rfl) ?_
          refine lv_iload hx hb dX4_products_112 (lv_at hl 4 rfl) ?_
          refine lv_icmp_eq (tgt := 133) hx hb dX4_products_114 (by decide) (fun c_23 => ?_) (fun c_23 => ?_)
          · have hq := fw_it c_23 hq
            refine lv_lload hx hb dX4_products_133 (lv_at hl 7 rfl) ?_
            refine lv_goto (tgt := 139) hx hb dX4_products_135 (by decide) ?_
            refine lv_ladd hx hb dX4_products_139 ?_
            refine lv_lstore (lv' := [(5, .long (x5 + x8_19)), (0, .ref (q 0)), (1, .int x1), (2, .int x2), (3, .int x3), (4, .int x4), (7, .int x7), (8, .long x8_19), (10, .int x10_20)]) hx hb dX4_products_140 hl (by decide) rfl (fun ls hl => ?_)
            refine lv_iinc (v := (x7 + (1 : Int32))) (lv' := [(7, .int (x7 + (1 : Int32))), (5, .long (x5 + x8_19)), (0, .ref (q 0)), (1, .int x1), (2, .int x2), (3, .int x3), (4, .int x4), (8, .long x8_19), (10, .int x10_20)]) hx hb dX4_products_142 hl (k := 6) rfl rfl (by decide) rfl (fun ls hl => ?_)
            refine lv_goto (tgt := 6) hx hb dX4_products_145 (by decide) ?_
            exact ih (x5 + x8_19) (x7 + (1 : Int32)) pt_21 H locs ls (hwI _ (Option.some.inj hq).symm) hP hD hS (lv_sub hl [2, 3, 4, 5, 6, 1, 0] rfl)
          · have hq := fw_if c_23 hq
            refine lv_aload_n hx hb dX4_products_117 rfl (lv_at hl 0 rfl) ?_
            refine va_get (D := (dC, dI)) (ci := 4) (v := .ref (q 6)) (C := RX4) (T := TX4) (N := 12) hx hb hts hinX4 hown hK hP 0 rfl rfl 7 (by decide) hf29 (fun _ h9 => h9) rfl dX4_products_118 ?_
            refine lv_iload_n hx hb dX4_products_121 rfl (lv_at hl 3 rfl) ?_
            obtain ⟨h_24, hq⟩ := fw_ck_s hq
            refine va_iald hx hb hK hP 6 0 rfl rfl h_24 dX4_products_122 ?_
            refine lv_aload_n hx hb dX4_products_123 rfl (lv_at hl 0 rfl) ?_
            refine va_get (D := (dC, dI)) (ci := 4) (v := .ref (q 6)) (C := RX4) (T := TX4) (N := 12) hx hb hts hinX4 hown hK hP 0 rfl rfl 7 (by decide) hf29 (fun _ h9 => h9) rfl dX4_products_124 ?_
            refine lv_iload hx hb dX4_products_127 (lv_at hl 4 rfl) ?_
            obtain ⟨h_25, hq⟩ := fw_ck_s hq
            refine va_iald hx hb hK hP 6 0 rfl rfl h_25 dX4_products_129 ?_
            refine lv_icmp_eq (tgt := 138) hx hb dX4_products_130 (by decide) (fun c_26 => ?_) (fun c_26 => ?_)
            · have hq := fw_it c_26 hq
              refine lv_lconst (v := (0 : Int64)) hx hb dX4_products_138 (by decide) ?_
              refine lv_ladd hx hb dX4_products_139 ?_
              refine lv_lstore (lv' := [(5, .long (x5 + (0 : Int64))), (0, .ref (q 0)), (1, .int x1), (2, .int x2), (3, .int x3), (4, .int x4), (7, .int x7), (8, .long x8_19), (10, .int x10_20)]) hx hb dX4_products_140 hl (by decide) rfl (fun ls hl => ?_)
              refine lv_iinc (v := (x7 + (1 : Int32))) (lv' := [(7, .int (x7 + (1 : Int32))), (5, .long (x5 + (0 : Int64))), (0, .ref (q 0)), (1, .int x1), (2, .int x2), (3, .int x3), (4, .int x4), (8, .long x8_19), (10, .int x10_20)]) hx hb dX4_products_142 hl (k := 6) rfl rfl (by decide) rfl (fun ls hl => ?_)
              refine lv_goto (tgt := 6) hx hb dX4_products_145 (by decide) ?_
              exact ih (x5 + (0 : Int64)) (x7 + (1 : Int32)) pt_21 H locs ls (hwI _ (Option.some.inj hq).symm) hP hD hS (lv_sub hl [2, 3, 4, 5, 6, 1, 0] rfl)
            · have hq := fw_if c_26 hq
              refine lv_lload hx hb dX4_products_133 (lv_at hl 7 rfl) ?_
              refine lv_goto (tgt := 139) hx hb dX4_products_135 (by decide) ?_
              refine lv_ladd hx hb dX4_products_139 ?_
              refine lv_lstore (lv' := [(5, .long (x5 + x8_19)), (0, .ref (q 0)), (1, .int x1), (2, .int x2), (3, .int x3), (4, .int x4), (7, .int x7), (8, .long x8_19), (10, .int x10_20)]) hx hb dX4_products_140 hl (by decide) rfl (fun ls hl => ?_)
              refine lv_iinc (v := (x7 + (1 : Int32))) (lv' := [(7, .int (x7 + (1 : Int32))), (5, .long (x5 + x8_19)), (0, .ref (q 0)), (1, .int x1), (2, .int x2), (3, .int x3), (4, .int x4), (8, .long x8_19), (10, .int x10_20)]) hx hb dX4_products_142 hl (k := 6) rfl rfl (by decide) rfl (fun ls hl => ?_)
              refine lv_goto (tgt := 6) hx hb dX4_products_145 (by decide) ?_
              exact ih (x5 + x8_19) (x7 + (1 : Int32)) pt_21 H locs ls (hwI _ (Option.some.inj hq).symm) hP hD hS (lv_sub hl [2, 3, 4, 5, 6, 1, 0] rfl)
  have hq := hz
  dsimp only [pX4_products] at hq
  have hl := lv_entry (([.ref (q 0), .int y1, .int y2, .int y3, .int y4] : List Value)) (n := 11) (Nat.le_of_ble_eq_true rfl)
  rw [lg_entry_eq]
  generalize (lg_sl (([.ref (q 0), .int y1, .int y2, .int y3, .int y4] : List Value)) ++ List.replicate (11 - (lg_sl (([.ref (q 0), .int y1, .int y2, .int y3, .int y4] : List Value))).length) Slot.unset).toArray = ls at hl ⊢
  have hl : lv_has ls 11 [(0, .ref (q 0)), (1, .int y1), (2, .int y2), (3, .int y3), (4, .int y4)] := hl
  obtain ⟨H, hHe⟩ : ∃ H : Heap, H = s.heap := ⟨_, rfl⟩
  obtain ⟨locs, hLe⟩ : ∃ L : List Loc, L = [] := ⟨_, rfl⟩
  have hP : va_P (dC, dI) vwCl (wM cI cJ q  nn0 ln0 sa0 sb0 wg0 kt0 fr0 pt0 wl0 tn0 up0 lo0) H := by rw [hHe]; exact hP
  have hS : va_S A s.heap H locs := by rw [hHe, hLe]; exact va_S.rf
  show W p l e (headSpec wsX4_products ({ frames := 1, cells := 0, slots := 0, locals := 24 })).room s m ([.ref (q 0), .int y1, .int y2, .int y3, .int y4] : List Value).toArray below meth c s.heap [] 0 0 (MQ below (va_Ql (fun (r : Int64) (u : (Nat → Int32)) => pX4_products nn0 ln0 sa0 sb0 wg0 kt0 pt0 y1 y2 y3 y4 = some (r, u)) (fun u t => fw_B (dC, dI) A (wM cI cJ q  nn0 ln0 sa0 sb0 wg0 kt0 fr0 u wl0 tn0 up0 lo0) t) A) ([.ref (q 0), .int y1, .int y2, .int y3, .int y4] : List Value).toArray s 0 0 A) (F0 m 0 ls [])
  rw [← hHe, ← hLe]
  refine lv_lconst (v := (0 : Int64)) hx hb dX4_products_0 (by decide) ?_
  refine lv_lstore (lv' := [(5, .long (0 : Int64)), (0, .ref (q 0)), (1, .int y1), (2, .int y2), (3, .int y3), (4, .int y4)]) hx hb dX4_products_1 hl (by decide) rfl (fun ls hl => ?_)
  refine lv_iconst (v := (0 : Int32)) hx hb dX4_products_3 (by decide) ?_
  refine lv_istore (lv' := [(7, .int (0 : Int32)), (5, .long (0 : Int64)), (0, .ref (q 0)), (1, .int y1), (2, .int y2), (3, .int y3), (4, .int y4)]) hx hb dX4_products_4 hl (by decide) rfl (fun ls hl => ?_)
  obtain ⟨e_30, hw, hq⟩ := fw_bb hq
  refine L6 y1 y2 y3 y4 e_30 (fun x5_27 x7_28 pt_29 H locs ls he hP hD hS hl => ?_) fw_N (0 : Int64) (0 : Int32) pt0 H locs ls hw hP hD hS (lv_sub hl [2, 3, 4, 5, 6, 1, 0] rfl)
  subst he
  try dsimp only at hq
  refine lv_lload hx hb dX4_products_148 (lv_at hl 5 rfl) ?_
  exact W.lret (v := x5_27) hx hb hr (fun t ht hW => ⟨⟨x5_27, pt_29, rfl, hz.trans hq.symm, by rw [ht]; exact hP, hD⟩, hS.F ht⟩) hS.2.2 dX4_products_150
set_option maxHeartbeats 4000000 in
set_option maxRecDepth 100000 in
theorem kX4_trees (l : Launch) (dC : Nat → ClassId) (dI : Nat → Nat → Nat) (cI cJ : ClassId) (q : Nat → Nat) (sz : Nat)  (nn0 : Int32) (ln0 : Int32) (sa0 : Nat → Int32) (sb0 : Nat → Int32) (wg0 : Nat → Int32) (kt0 : Nat → Int32) (fr0 : Nat → Int32) (pt0 : Nat → Int32) (wl0 : Nat → Int32) (tn0 : Nat → Int32) (up0 : Int64) (lo0 : Int64) (y1 : Int32) (hd : ∃ z, pX4_trees nn0 ln0 sa0 sb0 wg0 kt0 pt0 y1 = some z) : Met l yX4_trees wsX4_trees ({ frames := 2, cells := 0, slots := 0, locals := 54 }) (fw_Pc (dC, dI) (fw_tys cI cJ) (wM cI cJ q  nn0 ln0 sa0 sb0 wg0 kt0 fr0 pt0 wl0 tn0 up0 lo0) ([.ref (q 0), .int y1] : List Value) sz) (va_Ql (fun (r : Int64) (u : (Nat → Int32)) => pX4_trees nn0 ln0 sa0 sb0 wg0 kt0 pt0 y1 = some (r, u)) (fun u t => fw_B (dC, dI) (va_A (wM cI cJ q  nn0 ln0 sa0 sb0 wg0 kt0 fr0 pt0 wl0 tn0 up0 lo0) sz) (wM cI cJ q  nn0 ln0 sa0 sb0 wg0 kt0 fr0 u wl0 tn0 up0 lo0) t) (va_A (wM cI cJ q  nn0 ln0 sa0 sb0 wg0 kt0 fr0 pt0 wl0 tn0 up0 lo0) sz)) 0 0 (va_A (wM cI cJ q  nn0 ln0 sa0 sb0 wg0 kt0 fr0 pt0 wl0 tn0 up0 lo0) sz) := by
  obtain ⟨z, hz⟩ := hd
  refine Met.ofW (cc := cX4_trees) (maxL := 2) (ret := (some .long)) (by decide) rfl ?_
  intro p e s m args below meth c s₁ B hml hv
  obtain ⟨rfl, hsz, hP, hK, hD0, hN⟩ := hv
  have hx := B.exec
  have hb := B.bytes
  have hr := B.returns
  have hts := atoms_spec (ws := wsX4_trees) B.pre
  have hown : s.vm.findClass RX4 = some m.cls := findClass_of_methodNamed B.named
  have hlocks := B.notSynchronized
  subst hsz
  have hD := hD0.self (sz := s.heap.size)
  generalize hAe : va_A (wM cI cJ q  nn0 ln0 sa0 sb0 wg0 kt0 fr0 pt0 wl0 tn0 up0 lo0) s.heap.size = A at hD ⊢
  have hA : ∀ q : Nat, s.heap.size ≤ q → A q := fun q h => by rw [← hAe]; exact Or.inr h
  have hinX4 : ∀ w ∈ u_ws RX4 TX4 12, w ∈ wsX4_trees := by decide +kernel
  have hf7 := hts (.fieldLink RX4 7 "FewLinesModel" "n" "I") (by decide +kernel)
  have hq := hz
  dsimp only [pX4_trees] at hq
  have hl := lv_entry (([.ref (q 0), .int y1] : List Value)) (n := 2) (Nat.le_of_ble_eq_true rfl)
  rw [lg_entry_eq]
  generalize (lg_sl (([.ref (q 0), .int y1] : List Value)) ++ List.replicate (2 - (lg_sl (([.ref (q 0), .int y1] : List Value))).length) Slot.unset).toArray = ls at hl ⊢
  have hl : lv_has ls 2 [(0, .ref (q 0)), (1, .int y1)] := hl
  obtain ⟨H, hHe⟩ : ∃ H : Heap, H = s.heap := ⟨_, rfl⟩
  obtain ⟨locs, hLe⟩ : ∃ L : List Loc, L = [] := ⟨_, rfl⟩
  have hP : va_P (dC, dI) vwCl (wM cI cJ q  nn0 ln0 sa0 sb0 wg0 kt0 fr0 pt0 wl0 tn0 up0 lo0) H := by rw [hHe]; exact hP
  have hS : va_S A s.heap H locs := by rw [hHe, hLe]; exact va_S.rf
  show W p l e (headSpec wsX4_trees ({ frames := 2, cells := 0, slots := 0, locals := 54 })).room s m ([.ref (q 0), .int y1] : List Value).toArray below meth c s.heap [] 0 0 (MQ below (va_Ql (fun (r : Int64) (u : (Nat → Int32)) => pX4_trees nn0 ln0 sa0 sb0 wg0 kt0 pt0 y1 = some (r, u)) (fun u t => fw_B (dC, dI) A (wM cI cJ q  nn0 ln0 sa0 sb0 wg0 kt0 fr0 u wl0 tn0 up0 lo0) t) A) ([.ref (q 0), .int y1] : List Value).toArray s 0 0 A) (F0 m 0 ls [])
  rw [← hHe, ← hLe]
  refine lv_iload_n hx hb dX4_trees_0 rfl (lv_at hl 1 rfl) ?_
  refine lv_iconst (v := (0 : Int32)) hx hb dX4_trees_1 (by decide) ?_
  refine lv_iconst (v := (1 : Int32)) hx hb dX4_trees_2 (by decide) ?_
  have hPc := hP.sub (ws' := (w0 cI cJ   )) [] rfl
  have hDc := hD.sub (ws' := (w0 cI cJ   )) [] (by decide) rfl
  refine fw_ci (wr := [((q 0), .inr (4, [.int nn0, .int ln0, .ref (q 1), .ref (q 2), .ref (q 3), .ref (q 4), .ref (q 5), .ref (q 6), .ref (q 7), .ref (q 8), .long up0, .long lo0])), ((q 1), .inl (cI, 12, .inl sa0)), ((q 2), .inl (cI, 12, .inl sb0)), ((q 3), .inl (cI, 12, .inl wg0)), ((q 4), .inl (cI, 12, .inl kt0)), ((q 5), .inl (cI, 12, .inl fr0)), ((q 6), .inl (cI, 7, .inl pt0)), ((q 7), .inl (cI, 49, .inl wl0)), ((q 8), .inl (cI, 49, .inl tn0))]) (w2 := fun u => (wM cI cJ q  nn0 ln0 sa0 sb0 wg0 kt0 fr0 pt0 wl0 tn0 up0 lo0)) [] [0, 1, 2, 3, 4, 5, 6, 7, 8] [0, 1, 2, 3, 4, 5, 6, 7, 8] (va_runS (As := [.int y1, .int (0 : Int32), .int (1 : Int32)]) (rest := []) ⟨hx, hb, hml, hown, hts⟩ (kX4_in l dC dI cI cJ  H.size   y1 (0 : Int32) (1 : Int32) (fw_be hq)) (va_cwS 3 hts gX4_trees_X4_in rfl rfl rfl (by decide +kernel) ⟨Nat.le_of_ble_eq_true rfl, Nat.le_of_ble_eq_true rfl⟩) ⟨fw_blind, fun U hU hW => fw_pre hPc hK hDc hN hU hW⟩ rfl rfl hl.1 rfl (lv_room (Nat.le_of_ble_eq_true rfl)) dX4_trees_3 ⟨Nat.zero_le _, Nat.zero_le _⟩) hP hD hS hA rfl rfl (by decide) (by decide) (by decide) (fun _ => rfl) (fun r_1 u H locs hw hP hD hS => ?_)
  obtain ⟨hw, n_3⟩ := hw
  have hq := fw_bs hw hq
  try dsimp only at hq
  refine lv_if_eq (tgt := 25) hx hb dX4_trees_6 (by decide) (fun c_4 => ?_) (fun c_4 => ?_)
  · have hq := fw_it c_4 hq
    refine lv_ldc2 hx hb hown (hts (.constantLong RX4 98 (-3)) (by decide +kernel)) dX4_trees_25 ?_
    exact W.lret (v := (-3 : Int64)) hx hb hr (fun t ht hW => ⟨⟨(-3 : Int64), pt0, rfl, hz.trans hq.symm, by rw [ht]; exact hP, hD⟩, hS.F ht⟩) hS.2.2 dX4_trees_28
  · have hq := fw_if c_4 hq
    refine lv_aload_n hx hb dX4_trees_9 rfl (lv_at hl 0 rfl) ?_
    refine lv_aload_n hx hb dX4_trees_10 rfl (lv_at hl 0 rfl) ?_
    refine va_get (D := (dC, dI)) (ci := 4) (v := .int nn0) (C := RX4) (T := TX4) (N := 12) hx hb hts hinX4 hown hK hP 0 rfl rfl 0 (by decide) hf7 (fun _ h9 => h9) rfl dX4_trees_11 ?_
    refine lv_iconst (v := (1 : Int32)) hx hb dX4_trees_14 (by decide) ?_
    refine lv_isub hx hb dX4_trees_15 ?_
    refine lv_iload_n hx hb dX4_trees_16 rfl (lv_at hl 1 rfl) ?_
    refine lv_iconst (v := (0 : Int32)) hx hb dX4_trees_17 (by decide) ?_
    refine lv_iconst (v := (0 : Int32)) hx hb dX4_trees_18 (by decide) ?_
    have hPc := hP.sub (ws' := (wM cI cJ q  nn0 ln0 sa0 sb0 wg0 kt0 fr0 pt0 wl0 tn0 up0 lo0)) [0, 1, 2, 3, 4, 5, 6, 7, 8] rfl
    have hDc := hD.sub (ws' := (wM cI cJ q  nn0 ln0 sa0 sb0 wg0 kt0 fr0 pt0 wl0 tn0 up0 lo0)) [0, 1, 2, 3, 4, 5, 6, 7, 8] (by decide) rfl
    refine fw_cl (wr := []) (w2 := fun u => (wM cI cJ q  nn0 ln0 sa0 sb0 wg0 kt0 fr0 u wl0 tn0 up0 lo0)) [0, 1, 2, 3, 4, 5, 6, 7, 8] [] [0, 1, 2, 3, 4, 5, 6, 7, 8] (va_runV (b := (q 0)) (As := [.int (nn0 - (1 : Int32)), .int y1, .int (0 : Int32), .int (0 : Int32)]) (rest := []) ⟨hx, hb, hml, hown, hts⟩ (kX4_products l dC dI cI cJ q H.size  nn0 ln0 sa0 sb0 wg0 kt0 fr0 pt0 wl0 tn0 up0 lo0 (nn0 - (1 : Int32)) y1 (0 : Int32) (0 : Int32) (fw_be hq)) (cwV 4 hts gX4_trees_X4_products rfl rfl rfl (by decide +kernel) ⟨Nat.le_of_ble_eq_true rfl, Nat.le_of_ble_eq_true rfl⟩) ⟨fw_blind, va_recv hK hPc (ci := 4) (q0 := 0) rfl rfl, fun U hU hW => fw_pre hPc hK hDc hN hU hW⟩ rfl rfl hl.1 rfl (lv_room (Nat.le_of_ble_eq_true rfl)) dX4_trees_19 ⟨Nat.zero_le _, Nat.zero_le _⟩) hP hD hS hA rfl rfl (by decide) (by decide) (by decide) (fun _ => rfl) (fun r_6 u H locs hw hP hD hS => ?_)
    obtain ⟨pt_5, rfl⟩ : ∃ z, z = u := ⟨_, rfl⟩
    have hq := fw_bs hw hq
    try dsimp only at hq
    have hP : va_P (dC, dI) vwCl (wM cI cJ q  nn0 ln0 sa0 sb0 wg0 kt0 fr0 pt_5 wl0 tn0 up0 lo0) H := hP
    have hD : va_D A (wM cI cJ q  nn0 ln0 sa0 sb0 wg0 kt0 fr0 pt_5 wl0 tn0 up0 lo0) := hD
    refine lv_goto (tgt := 28) hx hb dX4_trees_22 (by decide) ?_
    exact W.lret (v := r_6) hx hb hr (fun t ht hW => ⟨⟨r_6, pt_5, rfl, hz.trans hq.symm, by rw [ht]; exact hP, hD⟩, hS.F ht⟩) hS.2.2 dX4_trees_28
set_option maxHeartbeats 4000000 in
set_option maxRecDepth 100000 in
theorem kX4_hasResistance (l : Launch) (dC : Nat → ClassId) (dI : Nat → Nat → Nat) (cI cJ : ClassId) (q : Nat → Nat) (sz : Nat)  (nn0 : Int32) (ln0 : Int32) (sa0 : Nat → Int32) (sb0 : Nat → Int32) (wg0 : Nat → Int32) (kt0 : Nat → Int32) (fr0 : Nat → Int32) (pt0 : Nat → Int32) (wl0 : Nat → Int32) (tn0 : Nat → Int32) (up0 : Int64) (lo0 : Int64) (y1 : Int32) (y2 : Int32) (y3 : Int32) (y4 : Int64) (hd : ∃ z, pX4_hasResistance nn0 ln0 sa0 sb0 wg0 kt0 pt0 up0 y1 y2 y3 y4 = some z) : Met l yX4_hasResistance wsX4_hasResistance ({ frames := 2, cells := 0, slots := 0, locals := 54 }) (fw_Pc (dC, dI) (fw_tys cI cJ) (wM cI cJ q  nn0 ln0 sa0 sb0 wg0 kt0 fr0 pt0 wl0 tn0 up0 lo0) ([.ref (q 0), .int y1, .int y2, .int y3, .long y4] : List Value) sz) (va_Qi (fun (r : Int32) (u : (Nat → Int32) × Int64 × Int64) => pX4_hasResistance nn0 ln0 sa0 sb0 wg0 kt0 pt0 up0 y1 y2 y3 y4 = some (r, u) ∧ narrow .boolean (.int r) = .int r) (fun u t => fw_B (dC, dI) (va_A (wM cI cJ q  nn0 ln0 sa0 sb0 wg0 kt0 fr0 pt0 wl0 tn0 up0 lo0) sz) (wM cI cJ q  nn0 ln0 sa0 sb0 wg0 kt0 fr0 u.1 wl0 tn0 u.2.1 u.2.2) t) (va_A (wM cI cJ q  nn0 ln0 sa0 sb0 wg0 kt0 fr0 pt0 wl0 tn0 up0 lo0) sz)) 0 0 (va_A (wM cI cJ q  nn0 ln0 sa0 sb0 wg0 kt0 fr0 pt0 wl0 tn0 up0 lo0) sz) := by
  obtain ⟨z, hz⟩ := hd
  refine Met.ofW (cc := cX4_hasResistance) (maxL := 8) (ret := (some .boolean)) (by decide) rfl ?_
  intro p e s m args below meth c s₁ B hml hv
  obtain ⟨rfl, hsz, hP, hK, hD0, hN⟩ := hv
  have hx := B.exec
  have hb := B.bytes
  have hr := B.returns
  have hts := atoms_spec (ws := wsX4_hasResistance) B.pre
  have hown : s.vm.findClass RX4 = some m.cls := findClass_of_methodNamed B.named
  have hlocks := B.notSynchronized
  subst hsz
  have hD := hD0.self (sz := s.heap.size)
  generalize hAe : va_A (wM cI cJ q  nn0 ln0 sa0 sb0 wg0 kt0 fr0 pt0 wl0 tn0 up0 lo0) s.heap.size = A at hD ⊢
  have hA : ∀ q : Nat, s.heap.size ≤ q → A q := fun q h => by rw [← hAe]; exact Or.inr h
  have hinX4 : ∀ w ∈ u_ws RX4 TX4 12, w ∈ wsX4_hasResistance := by decide +kernel
  have hf7 := hts (.fieldLink RX4 7 "FewLinesModel" "n" "I") (by decide +kernel)
  have hf100 := hts (.fieldLink RX4 100 "FewLinesModel" "low" "J") (by decide +kernel)
  have hf104 := hts (.fieldLink RX4 104 "FewLinesModel" "up" "J") (by decide +kernel)
  have hq := hz
  dsimp only [pX4_hasResistance] at hq
  have hl := lv_entry (([.ref (q 0), .int y1, .int y2, .int y3, .long y4] : List Value)) (n := 8) (Nat.le_of_ble_eq_true rfl)
  rw [lg_entry_eq]
  generalize (lg_sl (([.ref (q 0), .int y1, .int y2, .int y3, .long y4] : List Value)) ++ List.replicate (8 - (lg_sl (([.ref (q 0), .int y1, .int y2, .int y3, .long y4] : List Value))).length) Slot.unset).toArray = ls at hl ⊢
  have hl : lv_has ls 8 [(0, .ref (q 0)), (1, .int y1), (2, .int y2), (3, .int y3), (4, .long y4)] := hl
  obtain ⟨H, hHe⟩ : ∃ H : Heap, H = s.heap := ⟨_, rfl⟩
  obtain ⟨locs, hLe⟩ : ∃ L : List Loc, L = [] := ⟨_, rfl⟩
  have hP : va_P (dC, dI) vwCl (wM cI cJ q  nn0 ln0 sa0 sb0 wg0 kt0 fr0 pt0 wl0 tn0 up0 lo0) H := by rw [hHe]; exact hP
  have hS : va_S A s.heap H locs := by rw [hHe, hLe]; exact va_S.rf
  show W p l e (headSpec wsX4_hasResistance ({ frames := 2, cells := 0, slots := 0, locals := 54 })).room s m ([.ref (q 0), .int y1, .int y2, .int y3, .long y4] : List Value).toArray below meth c s.heap [] 0 0 (MQ below (va_Qi (fun (r : Int32) (u : (Nat → Int32) × Int64 × Int64) => pX4_hasResistance nn0 ln0 sa0 sb0 wg0 kt0 pt0 up0 y1 y2 y3 y4 = some (r, u) ∧ narrow .boolean (.int r) = .int r) (fun u t => fw_B (dC, dI) A (wM cI cJ q  nn0 ln0 sa0 sb0 wg0 kt0 fr0 u.1 wl0 tn0 u.2.1 u.2.2) t) A) ([.ref (q 0), .int y1, .int y2, .int y3, .long y4] : List Value).toArray s 0 0 A) (F0 m 0 ls [])
  rw [← hHe, ← hLe]
  refine lv_aload_n hx hb dX4_hasResistance_0 rfl (lv_at hl 0 rfl) ?_
  refine lv_aload_n hx hb dX4_hasResistance_1 rfl (lv_at hl 0 rfl) ?_
  refine lv_aload_n hx hb dX4_hasResistance_2 rfl (lv_at hl 0 rfl) ?_
  refine va_get (D := (dC, dI)) (ci := 4) (v := .int nn0) (C := RX4) (T := TX4) (N := 12) hx hb hts hinX4 hown hK hP 0 rfl rfl 0 (by decide) hf7 (fun _ h9 => h9) rfl dX4_hasResistance_3 ?_
  refine lv_iconst (v := (1 : Int32)) hx hb dX4_hasResistance_6 (by decide) ?_
  refine lv_isub hx hb dX4_hasResistance_7 ?_
  refine lv_iload_n hx hb dX4_hasResistance_8 rfl (lv_at hl 3 rfl) ?_
  refine lv_iconst (v := (0 : Int32)) hx hb dX4_hasResistance_9 (by decide) ?_
  refine lv_iconst (v := (0 : Int32)) hx hb dX4_hasResistance_10 (by decide) ?_
  have hPc := hP.sub (ws' := (wM cI cJ q  nn0 ln0 sa0 sb0 wg0 kt0 fr0 pt0 wl0 tn0 up0 lo0)) [0, 1, 2, 3, 4, 5, 6, 7, 8] rfl
  have hDc := hD.sub (ws' := (wM cI cJ q  nn0 ln0 sa0 sb0 wg0 kt0 fr0 pt0 wl0 tn0 up0 lo0)) [0, 1, 2, 3, 4, 5, 6, 7, 8] (by decide) rfl
  refine fw_cl (wr := []) (w2 := fun u => (wM cI cJ q  nn0 ln0 sa0 sb0 wg0 kt0 fr0 u wl0 tn0 up0 lo0)) [0, 1, 2, 3, 4, 5, 6, 7, 8] [] [0, 1, 2, 3, 4, 5, 6, 7, 8] (va_runV (b := (q 0)) (As := [.int (nn0 - (1 : Int32)), .int y3, .int (0 : Int32), .int (0 : Int32)]) (rest := [.ref (q 0)]) ⟨hx, hb, hml, hown, hts⟩ (kX4_products l dC dI cI cJ q H.size  nn0 ln0 sa0 sb0 wg0 kt0 fr0 pt0 wl0 tn0 up0 lo0 (nn0 - (1 : Int32)) y3 (0 : Int32) (0 : Int32) (fw_be hq)) (cwV 4 hts gX4_hasResistance_X4_products rfl rfl rfl (by decide +kernel) ⟨Nat.le_of_ble_eq_true rfl, Nat.le_of_ble_eq_true rfl⟩) ⟨fw_blind, va_recv hK hPc (ci := 4) (q0 := 0) rfl rfl, fun U hU hW => fw_pre hPc hK hDc hN hU hW⟩ rfl rfl hl.1 rfl (lv_room (Nat.le_of_ble_eq_true rfl)) dX4_hasResistance_11 ⟨Nat.zero_le _, Nat.zero_le _⟩) hP hD hS hA rfl rfl (by decide) (by decide) (by decide) (fun _ => rfl) (fun r_2 u H locs hw hP hD hS => ?_)
  obtain ⟨pt_1, rfl⟩ : ∃ z, z = u := ⟨_, rfl⟩
  have hq := fw_bs hw hq
  try dsimp only at hq
  have hP : va_P (dC, dI) vwCl (wM cI cJ q  nn0 ln0 sa0 sb0 wg0 kt0 fr0 pt_1 wl0 tn0 up0 lo0) H := hP
  have hD : va_D A (wM cI cJ q  nn0 ln0 sa0 sb0 wg0 kt0 fr0 pt_1 wl0 tn0 up0 lo0) := hD
  refine va_put (D := (dC, dI)) (ci := 4) (v := .long r_2) (ty := .long) (C := RX4) (T := TX4) (N := 12) hx hb hts hinX4 tyX4 tyX4_ok nmX4 hown hK hP hD hS 0 rfl rfl 11 (by decide) hf100 (fun _ h9 => h9) rfl (by decide +kernel) rfl rfl (Nat.le_of_ble_eq_true rfl) dX4_hasResistance_14 (fun H locs hP hD hS => ?_)
  have hP : va_P (dC, dI) vwCl (wM cI cJ q  nn0 ln0 sa0 sb0 wg0 kt0 fr0 pt_1 wl0 tn0 up0 r_2) H := hP
  have hD : va_D A (wM cI cJ q  nn0 ln0 sa0 sb0 wg0 kt0 fr0 pt_1 wl0 tn0 up0 r_2) := hD
  refine lv_aload_n hx hb dX4_hasResistance_17 rfl (lv_at hl 0 rfl) ?_
  refine va_get (D := (dC, dI)) (ci := 4) (v := .long r_2) (C := RX4) (T := TX4) (N := 12) hx hb hts hinX4 hown hK hP 0 rfl rfl 11 (by decide) hf100 (fun _ h9 => h9) rfl dX4_hasResistance_18 ?_
  refine lv_lconst (v := (0 : Int64)) hx hb dX4_hasResistance_21 (by decide) ?_
  refine W.lcmp hx hb dX4_hasResistance_22 ?_
  refine lv_if_ne (tgt := 28) hx hb dX4_hasResistance_23 (by decide) (fun c_4 => ?_) (fun c_4 => ?_)
  · have hq := fw_if c_4 hq
    refine lv_aload_n hx hb dX4_hasResistance_28 rfl (lv_at hl 0 rfl) ?_
    refine lv_lload hx hb dX4_hasResistance_29 (lv_at hl 4 rfl) ?_
    refine lv_aload_n hx hb dX4_hasResistance_31 rfl (lv_at hl 0 rfl) ?_
    refine lv_aload_n hx hb dX4_hasResistance_32 rfl (lv_at hl 0 rfl) ?_
    refine va_get (D := (dC, dI)) (ci := 4) (v := .int nn0) (C := RX4) (T := TX4) (N := 12) hx hb hts hinX4 hown hK hP 0 rfl rfl 0 (by decide) hf7 (fun _ h9 => h9) rfl dX4_hasResistance_33 ?_
    refine lv_iconst (v := (2 : Int32)) hx hb dX4_hasResistance_36 (by decide) ?_
    refine lv_isub hx hb dX4_hasResistance_37 ?_
    refine lv_iload_n hx hb dX4_hasResistance_38 rfl (lv_at hl 3 rfl) ?_
    refine lv_iload_n hx hb dX4_hasResistance_39 rfl (lv_at hl 1 rfl) ?_
    refine lv_iload_n hx hb dX4_hasResistance_40 rfl (lv_at hl 2 rfl) ?_
    have hPc := hP.sub (ws' := (wM cI cJ q  nn0 ln0 sa0 sb0 wg0 kt0 fr0 pt_1 wl0 tn0 up0 r_2)) [0, 1, 2, 3, 4, 5, 6, 7, 8] rfl
    have hDc := hD.sub (ws' := (wM cI cJ q  nn0 ln0 sa0 sb0 wg0 kt0 fr0 pt_1 wl0 tn0 up0 r_2)) [0, 1, 2, 3, 4, 5, 6, 7, 8] (by decide) rfl
    refine fw_cl (wr := []) (w2 := fun u => (wM cI cJ q  nn0 ln0 sa0 sb0 wg0 kt0 fr0 u wl0 tn0 up0 r_2)) [0, 1, 2, 3, 4, 5, 6, 7, 8] [] [0, 1, 2, 3, 4, 5, 6, 7, 8] (va_runV (b := (q 0)) (As := [.int (nn0 - (2 : Int32)), .int y3, .int y1, .int y2]) (rest := [.long y4, .ref (q 0)]) ⟨hx, hb, hml, hown, hts⟩ (kX4_products l dC dI cI cJ q H.size  nn0 ln0 sa0 sb0 wg0 kt0 fr0 pt_1 wl0 tn0 up0 r_2 (nn0 - (2 : Int32)) y3 y1 y2 (fw_be hq)) (cwV 4 hts gX4_hasResistance_X4_products rfl rfl rfl (by decide +kernel) ⟨Nat.le_of_ble_eq_true rfl, Nat.le_of_ble_eq_true rfl⟩) ⟨fw_blind, va_recv hK hPc (ci := 4) (q0 := 0) rfl rfl, fun U hU hW => fw_pre hPc hK hDc hN hU hW⟩ rfl rfl hl.1 rfl (lv_room (Nat.le_of_ble_eq_true rfl)) dX4_hasResistance_41 ⟨Nat.zero_le _, Nat.zero_le _⟩) hP hD hS hA rfl rfl (by decide) (by decide) (by decide) (fun _ => rfl) (fun r_6 u H locs hw hP hD hS => ?_)
    obtain ⟨pt_5, rfl⟩ : ∃ z, z = u := ⟨_, rfl⟩
    have hq := fw_bs hw hq
    try dsimp only at hq
    have hP : va_P (dC, dI) vwCl (wM cI cJ q  nn0 ln0 sa0 sb0 wg0 kt0 fr0 pt_5 wl0 tn0 up0 r_2) H := hP
    have hD : va_D A (wM cI cJ q  nn0 ln0 sa0 sb0 wg0 kt0 fr0 pt_5 wl0 tn0 up0 r_2) := hD
    refine lv_lmul hx hb dX4_hasResistance_44 ?_
    refine va_put (D := (dC, dI)) (ci := 4) (v := .long (y4 * r_6)) (ty := .long) (C := RX4) (T := TX4) (N := 12) hx hb hts hinX4 tyX4 tyX4_ok nmX4 hown hK hP hD hS 0 rfl rfl 10 (by decide) hf104 (fun _ h9 => h9) rfl (by decide +kernel) rfl rfl (Nat.le_of_ble_eq_true rfl) dX4_hasResistance_45 (fun H locs hP hD hS => ?_)
    have hP : va_P (dC, dI) vwCl (wM cI cJ q  nn0 ln0 sa0 sb0 wg0 kt0 fr0 pt_5 wl0 tn0 (y4 * r_6) r_2) H := hP
    have hD : va_D A (wM cI cJ q  nn0 ln0 sa0 sb0 wg0 kt0 fr0 pt_5 wl0 tn0 (y4 * r_6) r_2) := hD
    refine lv_aload_n hx hb dX4_hasResistance_48 rfl (lv_at hl 0 rfl) ?_
    refine va_get (D := (dC, dI)) (ci := 4) (v := .long (y4 * r_6)) (C := RX4) (T := TX4) (N := 12) hx hb hts hinX4 hown hK hP 0 rfl rfl 10 (by decide) hf104 (fun _ h9 => h9) rfl dX4_hasResistance_49 ?_
    refine lv_aload_n hx hb dX4_hasResistance_52 rfl (lv_at hl 0 rfl) ?_
    refine va_get (D := (dC, dI)) (ci := 4) (v := .long r_2) (C := RX4) (T := TX4) (N := 12) hx hb hts hinX4 hown hK hP 0 rfl rfl 11 (by decide) hf100 (fun _ h9 => h9) rfl dX4_hasResistance_53 ?_
    have hPc := hP.sub (ws' := (w0 cI cJ   )) [] rfl
    have hDc := hD.sub (ws' := (w0 cI cJ   )) [] (by decide) rfl
    refine fw_cl (wr := [((q 0), .inr (4, [.int nn0, .int ln0, .ref (q 1), .ref (q 2), .ref (q 3), .ref (q 4), .ref (q 5), .ref (q 6), .ref (q 7), .ref (q 8), .long (y4 * r_6), .long r_2])), ((q 1), .inl (cI, 12, .inl sa0)), ((q 2), .inl (cI, 12, .inl sb0)), ((q 3), .inl (cI, 12, .inl wg0)), ((q 4), .inl (cI, 12, .inl kt0)), ((q 5), .inl (cI, 12, .inl fr0)), ((q 6), .inl (cI, 7, .inl pt_5)), ((q 7), .inl (cI, 49, .inl wl0)), ((q 8), .inl (cI, 49, .inl tn0))]) (w2 := fun u => (wM cI cJ q  nn0 ln0 sa0 sb0 wg0 kt0 fr0 pt_5 wl0 tn0 (y4 * r_6) r_2)) [] [0, 1, 2, 3, 4, 5, 6, 7, 8] [0, 1, 2, 3, 4, 5, 6, 7, 8] (va_runS (As := [.long (y4 * r_6), .long r_2]) (rest := []) ⟨hx, hb, hml, hown, hts⟩ (kX4_common l dC dI cI cJ  H.size   (y4 * r_6) r_2 (fw_be hq)) (va_cwS 2 hts gX4_hasResistance_X4_common rfl rfl rfl (by decide +kernel) ⟨Nat.le_of_ble_eq_true rfl, Nat.le_of_ble_eq_true rfl⟩) ⟨fw_blind, fun U hU hW => fw_pre hPc hK hDc hN hU hW⟩ rfl rfl hl.1 rfl (lv_room (Nat.le_of_ble_eq_true rfl)) dX4_hasResistance_56 ⟨Nat.zero_le _, Nat.zero_le _⟩) hP hD hS hA rfl rfl (by decide) (by decide) (by decide) (fun _ => rfl) (fun r_8 u H locs hw hP hD hS => ?_)
    have hq := fw_bs hw hq
    try dsimp only at hq
    refine lv_lstore (lv' := [(6, .long r_8), (0, .ref (q 0)), (1, .int y1), (2, .int y2), (3, .int y3), (4, .long y4)]) hx hb dX4_hasResistance_59 hl (by decide) rfl (fun ls hl => ?_)
    refine lv_aload_n hx hb dX4_hasResistance_61 rfl (lv_at hl 1 rfl) ?_
    refine lv_aload_n hx hb dX4_hasResistance_62 rfl (lv_at hl 1 rfl) ?_
    refine va_get (D := (dC, dI)) (ci := 4) (v := .long (y4 * r_6)) (C := RX4) (T := TX4) (N := 12) hx hb hts hinX4 hown hK hP 0 rfl rfl 10 (by decide) hf104 (fun _ h9 => h9) rfl dX4_hasResistance_63 ?_
    refine lv_lload hx hb dX4_hasResistance_66 (lv_at hl 0 rfl) ?_
    obtain ⟨h_10, hq⟩ := fw_czl_s hq
    refine lv_ldiv hx hb dX4_hasResistance_68 h_10 ?_
    refine va_put (D := (dC, dI)) (ci := 4) (v := .long ((y4 * r_6) / r_8)) (ty := .long) (C := RX4) (T := TX4) (N := 12) hx hb hts hinX4 tyX4 tyX4_ok nmX4 hown hK hP hD hS 0 rfl rfl 10 (by decide) hf104 (fun _ h9 => h9) rfl (by decide +kernel) rfl rfl (Nat.le_of_ble_eq_true rfl) dX4_hasResistance_69 (fun H locs hP hD hS => ?_)
    have hP : va_P (dC, dI) vwCl (wM cI cJ q  nn0 ln0 sa0 sb0 wg0 kt0 fr0 pt_5 wl0 tn0 ((y4 * r_6) / r_8) r_2) H := hP
    have hD : va_D A (wM cI cJ q  nn0 ln0 sa0 sb0 wg0 kt0 fr0 pt_5 wl0 tn0 ((y4 * r_6) / r_8) r_2) := hD
    refine lv_aload_n hx hb dX4_hasResistance_72 rfl (lv_at hl 1 rfl) ?_
    refine lv_aload_n hx hb dX4_hasResistance_73 rfl (lv_at hl 1 rfl) ?_
    refine va_get (D := (dC, dI)) (ci := 4) (v := .long r_2) (C := RX4) (T := TX4) (N := 12) hx hb hts hinX4 hown hK hP 0 rfl rfl 11 (by decide) hf100 (fun _ h9 => h9) rfl dX4_hasResistance_74 ?_
    refine lv_lload hx hb dX4_hasResistance_77 (lv_at hl 0 rfl) ?_
    obtain ⟨h_11, hq⟩ := fw_czl_s hq
    refine lv_ldiv hx hb dX4_hasResistance_79 h_11 ?_
    refine va_put (D := (dC, dI)) (ci := 4) (v := .long (r_2 / r_8)) (ty := .long) (C := RX4) (T := TX4) (N := 12) hx hb hts hinX4 tyX4 tyX4_ok nmX4 hown hK hP hD hS 0 rfl rfl 11 (by decide) hf100 (fun _ h9 => h9) rfl (by decide +kernel) rfl rfl (Nat.le_of_ble_eq_true rfl) dX4_hasResistance_80 (fun H locs hP hD hS => ?_)
    have hP : va_P (dC, dI) vwCl (wM cI cJ q  nn0 ln0 sa0 sb0 wg0 kt0 fr0 pt_5 wl0 tn0 ((y4 * r_6) / r_8) (r_2 / r_8)) H := hP
    have hD : va_D A (wM cI cJ q  nn0 ln0 sa0 sb0 wg0 kt0 fr0 pt_5 wl0 tn0 ((y4 * r_6) / r_8) (r_2 / r_8)) := hD
    refine lv_iconst (v := (1 : Int32)) hx hb dX4_hasResistance_83 (by decide) ?_
    exact W.zret (v := (1 : Int32)) (ty := .boolean) hx hb hr rfl (fun t ht hW => ⟨⟨(1 : Int32), (pt_5, ((y4 * r_6) / r_8), (r_2 / r_8)), rfl, ⟨hz.trans hq.symm, rfl⟩, by rw [ht]; exact hP, hD⟩, hS.F ht⟩) hS.2.2 dX4_hasResistance_84
  · have hq := fw_it c_4 hq
    refine lv_iconst (v := (0 : Int32)) hx hb dX4_hasResistance_26 (by decide) ?_
    exact W.zret (v := (0 : Int32)) (ty := .boolean) hx hb hr rfl (fun t ht hW => ⟨⟨(0 : Int32), (pt_1, up0, r_2), rfl, ⟨hz.trans hq.symm, rfl⟩, by rw [ht]; exact hP, hD⟩, hS.F ht⟩) hS.2.2 dX4_hasResistance_27
set_option maxHeartbeats 4000000 in
set_option maxRecDepth 100000 in
theorem kX4_resistance (l : Launch) (dC : Nat → ClassId) (dI : Nat → Nat → Nat) (cI cJ : ClassId) (q : Nat → Nat) (sz : Nat)  (nn0 : Int32) (ln0 : Int32) (sa0 : Nat → Int32) (sb0 : Nat → Int32) (wg0 : Nat → Int32) (kt0 : Nat → Int32) (fr0 : Nat → Int32) (pt0 : Nat → Int32) (wl0 : Nat → Int32) (tn0 : Nat → Int32) (up0 : Int64) (lo0 : Int64) (y1 : Int32) (y2 : Int32) (y3 : Int32) (y4 : Int32) (hd : ∃ z, pX4_resistance nn0 ln0 sa0 sb0 wg0 kt0 pt0 up0 lo0 y1 y2 y3 y4 = some z) : Met l yX4_resistance wsX4_resistance ({ frames := 3, cells := 0, slots := 0, locals := 81 }) (fw_Pc (dC, dI) (fw_tys cI cJ) (wM cI cJ q  nn0 ln0 sa0 sb0 wg0 kt0 fr0 pt0 wl0 tn0 up0 lo0) ([.ref (q 0), .int y1, .int y2, .int y3, .int y4] : List Value) sz) (va_Ql (fun (r : Int64) (u : (Nat → Int32) × Int64 × Int64) => pX4_resistance nn0 ln0 sa0 sb0 wg0 kt0 pt0 up0 lo0 y1 y2 y3 y4 = some (r, u)) (fun u t => fw_B (dC, dI) (va_A (wM cI cJ q  nn0 ln0 sa0 sb0 wg0 kt0 fr0 pt0 wl0 tn0 up0 lo0) sz) (wM cI cJ q  nn0 ln0 sa0 sb0 wg0 kt0 fr0 u.1 wl0 tn0 u.2.1 u.2.2) t) (va_A (wM cI cJ q  nn0 ln0 sa0 sb0 wg0 kt0 fr0 pt0 wl0 tn0 up0 lo0) sz)) 0 0 (va_A (wM cI cJ q  nn0 ln0 sa0 sb0 wg0 kt0 fr0 pt0 wl0 tn0 up0 lo0) sz) := by
  obtain ⟨z, hz⟩ := hd
  refine Met.ofW (cc := cX4_resistance) (maxL := 5) (ret := (some .long)) (by decide) rfl ?_
  intro p e s m args below meth c s₁ B hml hv
  obtain ⟨rfl, hsz, hP, hK, hD0, hN⟩ := hv
  have hx := B.exec
  have hb := B.bytes
  have hr := B.returns
  have hts := atoms_spec (ws := wsX4_resistance) B.pre
  have hown : s.vm.findClass RX4 = some m.cls := findClass_of_methodNamed B.named
  have hlocks := B.notSynchronized
  subst hsz
  have hD := hD0.self (sz := s.heap.size)
  generalize hAe : va_A (wM cI cJ q  nn0 ln0 sa0 sb0 wg0 kt0 fr0 pt0 wl0 tn0 up0 lo0) s.heap.size = A at hD ⊢
  have hA : ∀ q : Nat, s.heap.size ≤ q → A q := fun q h => by rw [← hAe]; exact Or.inr h
  have hinX4 : ∀ w ∈ u_ws RX4 TX4 12, w ∈ wsX4_resistance := by decide +kernel
  have hf100 := hts (.fieldLink RX4 100 "FewLinesModel" "low" "J") (by decide +kernel)
  have hf104 := hts (.fieldLink RX4 104 "FewLinesModel" "up" "J") (by decide +kernel)
  have hq := hz
  dsimp only [pX4_resistance] at hq
  have hl := lv_entry (([.ref (q 0), .int y1, .int y2, .int y3, .int y4] : List Value)) (n := 5) (Nat.le_of_ble_eq_true rfl)
  rw [lg_entry_eq]
  generalize (lg_sl (([.ref (q 0), .int y1, .int y2, .int y3, .int y4] : List Value)) ++ List.replicate (5 - (lg_sl (([.ref (q 0), .int y1, .int y2, .int y3, .int y4] : List Value))).length) Slot.unset).toArray = ls at hl ⊢
  have hl : lv_has ls 5 [(0, .ref (q 0)), (1, .int y1), (2, .int y2), (3, .int y3), (4, .int y4)] := hl
  obtain ⟨H, hHe⟩ : ∃ H : Heap, H = s.heap := ⟨_, rfl⟩
  obtain ⟨locs, hLe⟩ : ∃ L : List Loc, L = [] := ⟨_, rfl⟩
  have hP : va_P (dC, dI) vwCl (wM cI cJ q  nn0 ln0 sa0 sb0 wg0 kt0 fr0 pt0 wl0 tn0 up0 lo0) H := by rw [hHe]; exact hP
  have hS : va_S A s.heap H locs := by rw [hHe, hLe]; exact va_S.rf
  show W p l e (headSpec wsX4_resistance ({ frames := 3, cells := 0, slots := 0, locals := 81 })).room s m ([.ref (q 0), .int y1, .int y2, .int y3, .int y4] : List Value).toArray below meth c s.heap [] 0 0 (MQ below (va_Ql (fun (r : Int64) (u : (Nat → Int32) × Int64 × Int64) => pX4_resistance nn0 ln0 sa0 sb0 wg0 kt0 pt0 up0 lo0 y1 y2 y3 y4 = some (r, u)) (fun u t => fw_B (dC, dI) A (wM cI cJ q  nn0 ln0 sa0 sb0 wg0 kt0 fr0 u.1 wl0 tn0 u.2.1 u.2.2) t) A) ([.ref (q 0), .int y1, .int y2, .int y3, .int y4] : List Value).toArray s 0 0 A) (F0 m 0 ls [])
  rw [← hHe, ← hLe]
  refine lv_aload_n hx hb dX4_resistance_0 rfl (lv_at hl 0 rfl) ?_
  refine lv_iload_n hx hb dX4_resistance_1 rfl (lv_at hl 1 rfl) ?_
  have hPc := hP.sub (ws' := (wM cI cJ q  nn0 ln0 sa0 sb0 wg0 kt0 fr0 pt0 wl0 tn0 up0 lo0)) [0, 1, 2, 3, 4, 5, 6, 7, 8] rfl
  have hDc := hD.sub (ws' := (wM cI cJ q  nn0 ln0 sa0 sb0 wg0 kt0 fr0 pt0 wl0 tn0 up0 lo0)) [0, 1, 2, 3, 4, 5, 6, 7, 8] (by decide) rfl
  refine fw_ci (wr := []) (w2 := fun u => (wM cI cJ q  nn0 ln0 sa0 sb0 wg0 kt0 fr0 pt0 wl0 tn0 up0 lo0)) [0, 1, 2, 3, 4, 5, 6, 7, 8] [] [0, 1, 2, 3, 4, 5, 6, 7, 8] (va_runV (b := (q 0)) (As := [.int y1]) (rest := []) ⟨hx, hb, hml, hown, hts⟩ (kX4_isNode l dC dI cI cJ q H.size  nn0 ln0 sa0 sb0 wg0 kt0 fr0 pt0 wl0 tn0 up0 lo0 y1 (fw_be hq)) (cwV 1 hts gX4_resistance_X4_isNode rfl rfl rfl (by decide +kernel) ⟨Nat.le_of_ble_eq_true rfl, Nat.le_of_ble_eq_true rfl⟩) ⟨fw_blind, va_recv hK hPc (ci := 4) (q0 := 0) rfl rfl, fun U hU hW => fw_pre hPc hK hDc hN hU hW⟩ rfl rfl hl.1 rfl (lv_room (Nat.le_of_ble_eq_true rfl)) dX4_resistance_2 ⟨Nat.zero_le _, Nat.zero_le _⟩) hP hD hS hA rfl rfl (by decide) (by decide) (by decide) (fun _ => rfl) (fun r_1 u H locs hw hP hD hS => ?_)
  obtain ⟨hw, n_3⟩ := hw
  have hq := fw_bs hw hq
  try dsimp only at hq
  refine lv_if_eq (tgt := 16) hx hb dX4_resistance_5 (by decide) (fun c_4 => ?_) (fun c_4 => ?_)
  · have hq := fw_it c_4 hq
    refine lv_ldc2 hx hb hown (hts (.constantLong RX4 107 (-2)) (by decide +kernel)) dX4_resistance_16 ?_
    exact W.lret (v := (-2 : Int64)) hx hb hr (fun t ht hW => ⟨⟨(-2 : Int64), (pt0, up0, lo0), rfl, hz.trans hq.symm, by rw [ht]; exact hP, hD⟩, hS.F ht⟩) hS.2.2 dX4_resistance_19
  · have hq := fw_if c_4 hq
    refine lv_aload_n hx hb dX4_resistance_8 rfl (lv_at hl 0 rfl) ?_
    refine lv_iload_n hx hb dX4_resistance_9 rfl (lv_at hl 2 rfl) ?_
    have hPc := hP.sub (ws' := (wM cI cJ q  nn0 ln0 sa0 sb0 wg0 kt0 fr0 pt0 wl0 tn0 up0 lo0)) [0, 1, 2, 3, 4, 5, 6, 7, 8] rfl
    have hDc := hD.sub (ws' := (wM cI cJ q  nn0 ln0 sa0 sb0 wg0 kt0 fr0 pt0 wl0 tn0 up0 lo0)) [0, 1, 2, 3, 4, 5, 6, 7, 8] (by decide) rfl
    refine fw_ci (wr := []) (w2 := fun u => (wM cI cJ q  nn0 ln0 sa0 sb0 wg0 kt0 fr0 pt0 wl0 tn0 up0 lo0)) [0, 1, 2, 3, 4, 5, 6, 7, 8] [] [0, 1, 2, 3, 4, 5, 6, 7, 8] (va_runV (b := (q 0)) (As := [.int y2]) (rest := []) ⟨hx, hb, hml, hown, hts⟩ (kX4_isNode l dC dI cI cJ q H.size  nn0 ln0 sa0 sb0 wg0 kt0 fr0 pt0 wl0 tn0 up0 lo0 y2 (fw_be hq)) (cwV 1 hts gX4_resistance_X4_isNode rfl rfl rfl (by decide +kernel) ⟨Nat.le_of_ble_eq_true rfl, Nat.le_of_ble_eq_true rfl⟩) ⟨fw_blind, va_recv hK hPc (ci := 4) (q0 := 0) rfl rfl, fun U hU hW => fw_pre hPc hK hDc hN hU hW⟩ rfl rfl hl.1 rfl (lv_room (Nat.le_of_ble_eq_true rfl)) dX4_resistance_10 ⟨Nat.zero_le _, Nat.zero_le _⟩) hP hD hS hA rfl rfl (by decide) (by decide) (by decide) (fun _ => rfl) (fun r_5 u H locs hw hP hD hS => ?_)
    obtain ⟨hw, n_7⟩ := hw
    have hq := fw_bs hw hq
    try dsimp only at hq
    refine lv_if_ne (tgt := 20) hx hb dX4_resistance_13 (by decide) (fun c_8 => ?_) (fun c_8 => ?_)
    · have hq := fw_if c_8 hq
      refine lv_iload_n hx hb dX4_resistance_20 rfl (lv_at hl 1 rfl) ?_
      refine lv_iload_n hx hb dX4_resistance_21 rfl (lv_at hl 2 rfl) ?_
      refine lv_icmp_eq (tgt := 44) hx hb dX4_resistance_22 (by decide) (fun c_9 => ?_) (fun c_9 => ?_)
      · have hq := fw_it c_9 hq
        refine lv_ldc2 hx hb hown (hts (.constantLong RX4 98 (-3)) (by decide +kernel)) dX4_resistance_44 ?_
        exact W.lret (v := (-3 : Int64)) hx hb hr (fun t ht hW => ⟨⟨(-3 : Int64), (pt0, up0, lo0), rfl, hz.trans hq.symm, by rw [ht]; exact hP, hD⟩, hS.F ht⟩) hS.2.2 dX4_resistance_47
      · have hq := fw_if c_9 hq
        refine lv_iload_n hx hb dX4_resistance_25 rfl (lv_at hl 3 rfl) ?_
        refine lv_iconst (v := (0 : Int32)) hx hb dX4_resistance_26 (by decide) ?_
        refine lv_iconst (v := (1 : Int32)) hx hb dX4_resistance_27 (by decide) ?_
        have hPc := hP.sub (ws' := (w0 cI cJ   )) [] rfl
        have hDc := hD.sub (ws' := (w0 cI cJ   )) [] (by decide) rfl
        refine fw_ci (wr := [((q 0), .inr (4, [.int nn0, .int ln0, .ref (q 1), .ref (q 2), .ref (q 3), .ref (q 4), .ref (q 5), .ref (q 6), .ref (q 7), .ref (q 8), .long up0, .long lo0])), ((q 1), .inl (cI, 12, .inl sa0)), ((q 2), .inl (cI, 12, .inl sb0)), ((q 3), .inl (cI, 12, .inl wg0)), ((q 4), .inl (cI, 12, .inl kt0)), ((q 5), .inl (cI, 12, .inl fr0)), ((q 6), .inl (cI, 7, .inl pt0)), ((q 7), .inl (cI, 49, .inl wl0)), ((q 8), .inl (cI, 49, .inl tn0))]) (w2 := fun u => (wM cI cJ q  nn0 ln0 sa0 sb0 wg0 kt0 fr0 pt0 wl0 tn0 up0 lo0)) [] [0, 1, 2, 3, 4, 5, 6, 7, 8] [0, 1, 2, 3, 4, 5, 6, 7, 8] (va_runS (As := [.int y3, .int (0 : Int32), .int (1 : Int32)]) (rest := []) ⟨hx, hb, hml, hown, hts⟩ (kX4_in l dC dI cI cJ  H.size   y3 (0 : Int32) (1 : Int32) (fw_be hq)) (va_cwS 3 hts gX4_resistance_X4_in rfl rfl rfl (by decide +kernel) ⟨Nat.le_of_ble_eq_true rfl, Nat.le_of_ble_eq_true rfl⟩) ⟨fw_blind, fun U hU hW => fw_pre hPc hK hDc hN hU hW⟩ rfl rfl hl.1 rfl (lv_room (Nat.le_of_ble_eq_true rfl)) dX4_resistance_28 ⟨Nat.zero_le _, Nat.zero_le _⟩) hP hD hS hA rfl rfl (by decide) (by decide) (by decide) (fun _ => rfl) (fun r_10 u H locs hw hP hD hS => ?_)
        obtain ⟨hw, n_12⟩ := hw
        have hq := fw_bs hw hq
        try dsimp only at hq
        refine lv_if_eq (tgt := 44) hx hb dX4_resistance_31 (by decide) (fun c_13 => ?_) (fun c_13 => ?_)
        · have hq := fw_it c_13 hq
          refine lv_ldc2 hx hb hown (hts (.constantLong RX4 98 (-3)) (by decide +kernel)) dX4_resistance_44 ?_
          exact W.lret (v := (-3 : Int64)) hx hb hr (fun t ht hW => ⟨⟨(-3 : Int64), (pt0, up0, lo0), rfl, hz.trans hq.symm, by rw [ht]; exact hP, hD⟩, hS.F ht⟩) hS.2.2 dX4_resistance_47
        · have hq := fw_if c_13 hq
          refine lv_iload hx hb dX4_resistance_34 (lv_at hl 4 rfl) ?_
          refine lv_iconst (v := (0 : Int32)) hx hb dX4_resistance_36 (by decide) ?_
          refine lv_iconst (v := (1 : Int32)) hx hb dX4_resistance_37 (by decide) ?_
          have hPc := hP.sub (ws' := (w0 cI cJ   )) [] rfl
          have hDc := hD.sub (ws' := (w0 cI cJ   )) [] (by decide) rfl
          refine fw_ci (wr := [((q 0), .inr (4, [.int nn0, .int ln0, .ref (q 1), .ref (q 2), .ref (q 3), .ref (q 4), .ref (q 5), .ref (q 6), .ref (q 7), .ref (q 8), .long up0, .long lo0])), ((q 1), .inl (cI, 12, .inl sa0)), ((q 2), .inl (cI, 12, .inl sb0)), ((q 3), .inl (cI, 12, .inl wg0)), ((q 4), .inl (cI, 12, .inl kt0)), ((q 5), .inl (cI, 12, .inl fr0)), ((q 6), .inl (cI, 7, .inl pt0)), ((q 7), .inl (cI, 49, .inl wl0)), ((q 8), .inl (cI, 49, .inl tn0))]) (w2 := fun u => (wM cI cJ q  nn0 ln0 sa0 sb0 wg0 kt0 fr0 pt0 wl0 tn0 up0 lo0)) [] [0, 1, 2, 3, 4, 5, 6, 7, 8] [0, 1, 2, 3, 4, 5, 6, 7, 8] (va_runS (As := [.int y4, .int (0 : Int32), .int (1 : Int32)]) (rest := []) ⟨hx, hb, hml, hown, hts⟩ (kX4_in l dC dI cI cJ  H.size   y4 (0 : Int32) (1 : Int32) (fw_be hq)) (va_cwS 3 hts gX4_resistance_X4_in rfl rfl rfl (by decide +kernel) ⟨Nat.le_of_ble_eq_true rfl, Nat.le_of_ble_eq_true rfl⟩) ⟨fw_blind, fun U hU hW => fw_pre hPc hK hDc hN hU hW⟩ rfl rfl hl.1 rfl (lv_room (Nat.le_of_ble_eq_true rfl)) dX4_resistance_38 ⟨Nat.zero_le _, Nat.zero_le _⟩) hP hD hS hA rfl rfl (by decide) (by decide) (by decide) (fun _ => rfl) (fun r_14 u H locs hw hP hD hS => ?_)
          obtain ⟨hw, n_16⟩ := hw
          have hq := fw_bs hw hq
          try dsimp only at hq
          refine lv_if_ne (tgt := 48) hx hb dX4_resistance_41 (by decide) (fun c_17 => ?_) (fun c_17 => ?_)
          · have hq := fw_if c_17 hq
            refine lv_aload_n hx hb dX4_resistance_48 rfl (lv_at hl 0 rfl) ?_
            refine lv_iload_n hx hb dX4_resistance_49 rfl (lv_at hl 1 rfl) ?_
            refine lv_iload_n hx hb dX4_resistance_50 rfl (lv_at hl 2 rfl) ?_
            refine lv_iload_n hx hb dX4_resistance_51 rfl (lv_at hl 3 rfl) ?_
            refine lv_lconst (v := (1 : Int64)) hx hb dX4_resistance_52 (by decide) ?_
            have hPc := hP.sub (ws' := (wM cI cJ q  nn0 ln0 sa0 sb0 wg0 kt0 fr0 pt0 wl0 tn0 up0 lo0)) [0, 1, 2, 3, 4, 5, 6, 7, 8] rfl
            have hDc := hD.sub (ws' := (wM cI cJ q  nn0 ln0 sa0 sb0 wg0 kt0 fr0 pt0 wl0 tn0 up0 lo0)) [0, 1, 2, 3, 4, 5, 6, 7, 8] (by decide) rfl
            refine fw_ci (wr := []) (w2 := fun u => (wM cI cJ q  nn0 ln0 sa0 sb0 wg0 kt0 fr0 u.1 wl0 tn0 u.2.1 u.2.2)) [0, 1, 2, 3, 4, 5, 6, 7, 8] [] [0, 1, 2, 3, 4, 5, 6, 7, 8] (va_runV (b := (q 0)) (As := [.int y1, .int y2, .int y3, .long (1 : Int64)]) (rest := []) ⟨hx, hb, hml, hown, hts⟩ (kX4_hasResistance l dC dI cI cJ q H.size  nn0 ln0 sa0 sb0 wg0 kt0 fr0 pt0 wl0 tn0 up0 lo0 y1 y2 y3 (1 : Int64) (fw_be hq)) (cwV 4 hts gX4_resistance_X4_hasResistance rfl rfl rfl (by decide +kernel) ⟨Nat.le_of_ble_eq_true rfl, Nat.le_of_ble_eq_true rfl⟩) ⟨fw_blind, va_recv hK hPc (ci := 4) (q0 := 0) rfl rfl, fun U hU hW => fw_pre hPc hK hDc hN hU hW⟩ rfl rfl hl.1 rfl (lv_room (Nat.le_of_ble_eq_true rfl)) dX4_resistance_53 ⟨Nat.zero_le _, Nat.zero_le _⟩) hP hD hS hA rfl rfl (by decide) (by decide) (by decide) (fun _ => rfl) (fun r_21 u H locs hw hP hD hS => ?_)
            obtain ⟨pt_18, up_19, lo_20⟩ := u
            obtain ⟨hw, n_23⟩ := hw
            have hq := fw_bs hw hq
            try dsimp only at hq
            have hP : va_P (dC, dI) vwCl (wM cI cJ q  nn0 ln0 sa0 sb0 wg0 kt0 fr0 pt_18 wl0 tn0 up_19 lo_20) H := hP
            have hD : va_D A (wM cI cJ q  nn0 ln0 sa0 sb0 wg0 kt0 fr0 pt_18 wl0 tn0 up_19 lo_20) := hD
            refine lv_if_ne (tgt := 65) hx hb dX4_resistance_56 (by decide) (fun c_24 => ?_) (fun c_24 => ?_)
            · have hq := fw_if c_24 hq
              refine lv_iload hx hb dX4_resistance_65 (lv_at hl 4 rfl) ?_
              refine lv_if_ne (tgt := 77) hx hb dX4_resistance_67 (by decide) (fun c_25 => ?_) (fun c_25 => ?_)
              · have hq := fw_if c_25 hq
                refine lv_aload_n hx hb dX4_resistance_77 rfl (lv_at hl 0 rfl) ?_
                refine va_get (D := (dC, dI)) (ci := 4) (v := .long lo_20) (C := RX4) (T := TX4) (N := 12) hx hb hts hinX4 hown hK hP 0 rfl rfl 11 (by decide) hf100 (fun _ h9 => h9) rfl dX4_resistance_78 ?_
                exact W.lret (v := lo_20) hx hb hr (fun t ht hW => ⟨⟨lo_20, (pt_18, up_19, lo_20), rfl, hz.trans hq.symm, by rw [ht]; exact hP, hD⟩, hS.F ht⟩) hS.2.2 dX4_resistance_81
              · have hq := fw_it c_25 hq
                refine lv_aload_n hx hb dX4_resistance_70 rfl (lv_at hl 0 rfl) ?_
                refine va_get (D := (dC, dI)) (ci := 4) (v := .long up_19) (C := RX4) (T := TX4) (N := 12) hx hb hts hinX4 hown hK hP 0 rfl rfl 10 (by decide) hf104 (fun _ h9 => h9) rfl dX4_resistance_71 ?_
                refine lv_goto (tgt := 81) hx hb dX4_resistance_74 (by decide) ?_
                exact W.lret (v := up_19) hx hb hr (fun t ht hW => ⟨⟨up_19, (pt_18, up_19, lo_20), rfl, hz.trans hq.symm, by rw [ht]; exact hP, hD⟩, hS.F ht⟩) hS.2.2 dX4_resistance_81
            · have hq := fw_it c_24 hq
              refine lv_ldc2 hx hb hown (hts (.constantLong RX4 113 (-1)) (by decide +kernel)) dX4_resistance_59 ?_
              refine lv_goto (tgt := 81) hx hb dX4_resistance_62 (by decide) ?_
              exact W.lret (v := (-1 : Int64)) hx hb hr (fun t ht hW => ⟨⟨(-1 : Int64), (pt_18, up_19, lo_20), rfl, hz.trans hq.symm, by rw [ht]; exact hP, hD⟩, hS.F ht⟩) hS.2.2 dX4_resistance_81
          · have hq := fw_it c_17 hq
            refine lv_ldc2 hx hb hown (hts (.constantLong RX4 98 (-3)) (by decide +kernel)) dX4_resistance_44 ?_
            exact W.lret (v := (-3 : Int64)) hx hb hr (fun t ht hW => ⟨⟨(-3 : Int64), (pt0, up0, lo0), rfl, hz.trans hq.symm, by rw [ht]; exact hP, hD⟩, hS.F ht⟩) hS.2.2 dX4_resistance_47
    · have hq := fw_it c_8 hq
      refine lv_ldc2 hx hb hown (hts (.constantLong RX4 107 (-2)) (by decide +kernel)) dX4_resistance_16 ?_
      exact W.lret (v := (-2 : Int64)) hx hb hr (fun t ht hW => ⟨⟨(-2 : Int64), (pt0, up0, lo0), rfl, hz.trans hq.symm, by rw [ht]; exact hP, hD⟩, hS.F ht⟩) hS.2.2 dX4_resistance_19
set_option maxHeartbeats 4000000 in
set_option maxRecDepth 100000 in
theorem kX4_load (l : Launch) (dC : Nat → ClassId) (dI : Nat → Nat → Nat) (cI cJ : ClassId) (q : Nat → Nat) (sz : Nat)  (nn0 : Int32) (ln0 : Int32) (sa0 : Nat → Int32) (sb0 : Nat → Int32) (wg0 : Nat → Int32) (kt0 : Nat → Int32) (fr0 : Nat → Int32) (pt0 : Nat → Int32) (wl0 : Nat → Int32) (tn0 : Nat → Int32) (up0 : Int64) (lo0 : Int64) (y1 : Int32) (y2 : Int32) (hd : ∃ z, pX4_load nn0 ln0 sa0 sb0 wg0 kt0 pt0 up0 lo0 y1 y2 = some z) : Met l yX4_load wsX4_load ({ frames := 3, cells := 0, slots := 0, locals := 81 }) (fw_Pc (dC, dI) (fw_tys cI cJ) (wM cI cJ q  nn0 ln0 sa0 sb0 wg0 kt0 fr0 pt0 wl0 tn0 up0 lo0) ([.ref (q 0), .int y1, .int y2] : List Value) sz) (va_Ql (fun (r : Int64) (u : (Nat → Int32) × Int64 × Int64) => pX4_load nn0 ln0 sa0 sb0 wg0 kt0 pt0 up0 lo0 y1 y2 = some (r, u)) (fun u t => fw_B (dC, dI) (va_A (wM cI cJ q  nn0 ln0 sa0 sb0 wg0 kt0 fr0 pt0 wl0 tn0 up0 lo0) sz) (wM cI cJ q  nn0 ln0 sa0 sb0 wg0 kt0 fr0 u.1 wl0 tn0 u.2.1 u.2.2) t) (va_A (wM cI cJ q  nn0 ln0 sa0 sb0 wg0 kt0 fr0 pt0 wl0 tn0 up0 lo0) sz)) 0 0 (va_A (wM cI cJ q  nn0 ln0 sa0 sb0 wg0 kt0 fr0 pt0 wl0 tn0 up0 lo0) sz) := by
  obtain ⟨z, hz⟩ := hd
  refine Met.ofW (cc := cX4_load) (maxL := 3) (ret := (some .long)) (by decide) rfl ?_
  intro p e s m args below meth c s₁ B hml hv
  obtain ⟨rfl, hsz, hP, hK, hD0, hN⟩ := hv
  have hx := B.exec
  have hb := B.bytes
  have hr := B.returns
  have hts := atoms_spec (ws := wsX4_load) B.pre
  have hown : s.vm.findClass RX4 = some m.cls := findClass_of_methodNamed B.named
  have hlocks := B.notSynchronized
  subst hsz
  have hD := hD0.self (sz := s.heap.size)
  generalize hAe : va_A (wM cI cJ q  nn0 ln0 sa0 sb0 wg0 kt0 fr0 pt0 wl0 tn0 up0 lo0) s.heap.size = A at hD ⊢
  have hA : ∀ q : Nat, s.heap.size ≤ q → A q := fun q h => by rw [← hAe]; exact Or.inr h
  have hinX4 : ∀ w ∈ u_ws RX4 TX4 12, w ∈ wsX4_load := by decide +kernel
  have hf13 := hts (.fieldLink RX4 13 "FewLinesModel" "as" "[I") (by decide +kernel)
  have hf17 := hts (.fieldLink RX4 17 "FewLinesModel" "bs" "[I") (by decide +kernel)
  have hf20 := hts (.fieldLink RX4 20 "FewLinesModel" "weight" "[I") (by decide +kernel)
  have hf100 := hts (.fieldLink RX4 100 "FewLinesModel" "low" "J") (by decide +kernel)
  have hf104 := hts (.fieldLink RX4 104 "FewLinesModel" "up" "J") (by decide +kernel)
  have hq := hz
  dsimp only [pX4_load] at hq
  have hl := lv_entry (([.ref (q 0), .int y1, .int y2] : List Value)) (n := 3) (Nat.le_of_ble_eq_true rfl)
  rw [lg_entry_eq]
  generalize (lg_sl (([.ref (q 0), .int y1, .int y2] : List Value)) ++ List.replicate (3 - (lg_sl (([.ref (q 0), .int y1, .int y2] : List Value))).length) Slot.unset).toArray = ls at hl ⊢
  have hl : lv_has ls 3 [(0, .ref (q 0)), (1, .int y1), (2, .int y2)] := hl
  obtain ⟨H, hHe⟩ : ∃ H : Heap, H = s.heap := ⟨_, rfl⟩
  obtain ⟨locs, hLe⟩ : ∃ L : List Loc, L = [] := ⟨_, rfl⟩
  have hP : va_P (dC, dI) vwCl (wM cI cJ q  nn0 ln0 sa0 sb0 wg0 kt0 fr0 pt0 wl0 tn0 up0 lo0) H := by rw [hHe]; exact hP
  have hS : va_S A s.heap H locs := by rw [hHe, hLe]; exact va_S.rf
  show W p l e (headSpec wsX4_load ({ frames := 3, cells := 0, slots := 0, locals := 81 })).room s m ([.ref (q 0), .int y1, .int y2] : List Value).toArray below meth c s.heap [] 0 0 (MQ below (va_Ql (fun (r : Int64) (u : (Nat → Int32) × Int64 × Int64) => pX4_load nn0 ln0 sa0 sb0 wg0 kt0 pt0 up0 lo0 y1 y2 = some (r, u)) (fun u t => fw_B (dC, dI) A (wM cI cJ q  nn0 ln0 sa0 sb0 wg0 kt0 fr0 u.1 wl0 tn0 u.2.1 u.2.2) t) A) ([.ref (q 0), .int y1, .int y2] : List Value).toArray s 0 0 A) (F0 m 0 ls [])
  rw [← hHe, ← hLe]
  refine lv_aload_n hx hb dX4_load_0 rfl (lv_at hl 0 rfl) ?_
  refine lv_iload_n hx hb dX4_load_1 rfl (lv_at hl 1 rfl) ?_
  have hPc := hP.sub (ws' := (wM cI cJ q  nn0 ln0 sa0 sb0 wg0 kt0 fr0 pt0 wl0 tn0 up0 lo0)) [0, 1, 2, 3, 4, 5, 6, 7, 8] rfl
  have hDc := hD.sub (ws' := (wM cI cJ q  nn0 ln0 sa0 sb0 wg0 kt0 fr0 pt0 wl0 tn0 up0 lo0)) [0, 1, 2, 3, 4, 5, 6, 7, 8] (by decide) rfl
  refine fw_ci (wr := []) (w2 := fun u => (wM cI cJ q  nn0 ln0 sa0 sb0 wg0 kt0 fr0 pt0 wl0 tn0 up0 lo0)) [0, 1, 2, 3, 4, 5, 6, 7, 8] [] [0, 1, 2, 3, 4, 5, 6, 7, 8] (va_runV (b := (q 0)) (As := [.int y1]) (rest := []) ⟨hx, hb, hml, hown, hts⟩ (kX4_isLine l dC dI cI cJ q H.size  nn0 ln0 sa0 sb0 wg0 kt0 fr0 pt0 wl0 tn0 up0 lo0 y1 (fw_be hq)) (cwV 1 hts gX4_load_X4_isLine rfl rfl rfl (by decide +kernel) ⟨Nat.le_of_ble_eq_true rfl, Nat.le_of_ble_eq_true rfl⟩) ⟨fw_blind, va_recv hK hPc (ci := 4) (q0 := 0) rfl rfl, fun U hU hW => fw_pre hPc hK hDc hN hU hW⟩ rfl rfl hl.1 rfl (lv_room (Nat.le_of_ble_eq_true rfl)) dX4_load_2 ⟨Nat.zero_le _, Nat.zero_le _⟩) hP hD hS hA rfl rfl (by decide) (by decide) (by decide) (fun _ => rfl) (fun r_1 u H locs hw hP hD hS => ?_)
  obtain ⟨hw, n_3⟩ := hw
  have hq := fw_bs hw hq
  try dsimp only at hq
  refine lv_if_ne (tgt := 12) hx hb dX4_load_5 (by decide) (fun c_4 => ?_) (fun c_4 => ?_)
  · have hq := fw_if c_4 hq
    refine lv_iload_n hx hb dX4_load_12 rfl (lv_at hl 2 rfl) ?_
    refine lv_iconst (v := (0 : Int32)) hx hb dX4_load_13 (by decide) ?_
    refine lv_iconst (v := (1 : Int32)) hx hb dX4_load_14 (by decide) ?_
    have hPc := hP.sub (ws' := (w0 cI cJ   )) [] rfl
    have hDc := hD.sub (ws' := (w0 cI cJ   )) [] (by decide) rfl
    refine fw_ci (wr := [((q 0), .inr (4, [.int nn0, .int ln0, .ref (q 1), .ref (q 2), .ref (q 3), .ref (q 4), .ref (q 5), .ref (q 6), .ref (q 7), .ref (q 8), .long up0, .long lo0])), ((q 1), .inl (cI, 12, .inl sa0)), ((q 2), .inl (cI, 12, .inl sb0)), ((q 3), .inl (cI, 12, .inl wg0)), ((q 4), .inl (cI, 12, .inl kt0)), ((q 5), .inl (cI, 12, .inl fr0)), ((q 6), .inl (cI, 7, .inl pt0)), ((q 7), .inl (cI, 49, .inl wl0)), ((q 8), .inl (cI, 49, .inl tn0))]) (w2 := fun u => (wM cI cJ q  nn0 ln0 sa0 sb0 wg0 kt0 fr0 pt0 wl0 tn0 up0 lo0)) [] [0, 1, 2, 3, 4, 5, 6, 7, 8] [0, 1, 2, 3, 4, 5, 6, 7, 8] (va_runS (As := [.int y2, .int (0 : Int32), .int (1 : Int32)]) (rest := []) ⟨hx, hb, hml, hown, hts⟩ (kX4_in l dC dI cI cJ  H.size   y2 (0 : Int32) (1 : Int32) (fw_be hq)) (va_cwS 3 hts gX4_load_X4_in rfl rfl rfl (by decide +kernel) ⟨Nat.le_of_ble_eq_true rfl, Nat.le_of_ble_eq_true rfl⟩) ⟨fw_blind, fun U hU hW => fw_pre hPc hK hDc hN hU hW⟩ rfl rfl hl.1 rfl (lv_room (Nat.le_of_ble_eq_true rfl)) dX4_load_15 ⟨Nat.zero_le _, Nat.zero_le _⟩) hP hD hS hA rfl rfl (by decide) (by decide) (by decide) (fun _ => rfl) (fun r_5 u H locs hw hP hD hS => ?_)
    obtain ⟨hw, n_7⟩ := hw
    have hq := fw_bs hw hq
    try dsimp only at hq
    refine lv_if_ne (tgt := 25) hx hb dX4_load_18 (by decide) (fun c_8 => ?_) (fun c_8 => ?_)
    · have hq := fw_if c_8 hq
      refine lv_aload_n hx hb dX4_load_25 rfl (lv_at hl 0 rfl) ?_
      refine lv_aload_n hx hb dX4_load_26 rfl (lv_at hl 0 rfl) ?_
      refine va_get (D := (dC, dI)) (ci := 4) (v := .ref (q 1)) (C := RX4) (T := TX4) (N := 12) hx hb hts hinX4 hown hK hP 0 rfl rfl 2 (by decide) hf13 (fun _ h9 => h9) rfl dX4_load_27 ?_
      refine lv_iload_n hx hb dX4_load_30 rfl (lv_at hl 1 rfl) ?_
      obtain ⟨h_9, hq⟩ := fw_ck_s hq
      refine va_iald hx hb hK hP 1 0 rfl rfl h_9 dX4_load_31 ?_
      refine lv_aload_n hx hb dX4_load_32 rfl (lv_at hl 0 rfl) ?_
      refine va_get (D := (dC, dI)) (ci := 4) (v := .ref (q 2)) (C := RX4) (T := TX4) (N := 12) hx hb hts hinX4 hown hK hP 0 rfl rfl 3 (by decide) hf17 (fun _ h9 => h9) rfl dX4_load_33 ?_
      refine lv_iload_n hx hb dX4_load_36 rfl (lv_at hl 1 rfl) ?_
      obtain ⟨h_10, hq⟩ := fw_ck_s hq
      refine va_iald hx hb hK hP 2 0 rfl rfl h_10 dX4_load_37 ?_
      refine lv_iconst (v := (0 : Int32)) hx hb dX4_load_38 (by decide) ?_
      refine lv_aload_n hx hb dX4_load_39 rfl (lv_at hl 0 rfl) ?_
      refine va_get (D := (dC, dI)) (ci := 4) (v := .ref (q 3)) (C := RX4) (T := TX4) (N := 12) hx hb hts hinX4 hown hK hP 0 rfl rfl 4 (by decide) hf20 (fun _ h9 => h9) rfl dX4_load_40 ?_
      refine lv_iload_n hx hb dX4_load_43 rfl (lv_at hl 1 rfl) ?_
      obtain ⟨h_11, hq⟩ := fw_ck_s hq
      refine va_iald hx hb hK hP 3 0 rfl rfl h_11 dX4_load_44 ?_
      refine lv_i2l (v := ((wg0 (y1).toNatClampNeg)).toInt64) hx hb dX4_load_45 rfl ?_
      have hPc := hP.sub (ws' := (wM cI cJ q  nn0 ln0 sa0 sb0 wg0 kt0 fr0 pt0 wl0 tn0 up0 lo0)) [0, 1, 2, 3, 4, 5, 6, 7, 8] rfl
      have hDc := hD.sub (ws' := (wM cI cJ q  nn0 ln0 sa0 sb0 wg0 kt0 fr0 pt0 wl0 tn0 up0 lo0)) [0, 1, 2, 3, 4, 5, 6, 7, 8] (by decide) rfl
      refine fw_ci (wr := []) (w2 := fun u => (wM cI cJ q  nn0 ln0 sa0 sb0 wg0 kt0 fr0 u.1 wl0 tn0 u.2.1 u.2.2)) [0, 1, 2, 3, 4, 5, 6, 7, 8] [] [0, 1, 2, 3, 4, 5, 6, 7, 8] (va_runV (b := (q 0)) (As := [.int (sa0 (y1).toNatClampNeg), .int (sb0 (y1).toNatClampNeg), .int (0 : Int32), .long (((wg0 (y1).toNatClampNeg)).toInt64)]) (rest := []) ⟨hx, hb, hml, hown, hts⟩ (kX4_hasResistance l dC dI cI cJ q H.size  nn0 ln0 sa0 sb0 wg0 kt0 fr0 pt0 wl0 tn0 up0 lo0 (sa0 (y1).toNatClampNeg) (sb0 (y1).toNatClampNeg) (0 : Int32) (((wg0 (y1).toNatClampNeg)).toInt64) (fw_be hq)) (cwV 4 hts gX4_load_X4_hasResistance rfl rfl rfl (by decide +kernel) ⟨Nat.le_of_ble_eq_true rfl, Nat.le_of_ble_eq_true rfl⟩) ⟨fw_blind, va_recv hK hPc (ci := 4) (q0 := 0) rfl rfl, fun U hU hW => fw_pre hPc hK hDc hN hU hW⟩ rfl rfl hl.1 rfl (lv_room (Nat.le_of_ble_eq_true rfl)) dX4_load_46 ⟨Nat.zero_le _, Nat.zero_le _⟩) hP hD hS hA rfl rfl (by decide) (by decide) (by decide) (fun _ => rfl) (fun r_15 u H locs hw hP hD hS => ?_)
      obtain ⟨pt_12, up_13, lo_14⟩ := u
      obtain ⟨hw, n_17⟩ := hw
      have hq := fw_bs hw hq
      try dsimp only at hq
      have hP : va_P (dC, dI) vwCl (wM cI cJ q  nn0 ln0 sa0 sb0 wg0 kt0 fr0 pt_12 wl0 tn0 up_13 lo_14) H := hP
      have hD : va_D A (wM cI cJ q  nn0 ln0 sa0 sb0 wg0 kt0 fr0 pt_12 wl0 tn0 up_13 lo_14) := hD
      refine lv_if_ne (tgt := 58) hx hb dX4_load_49 (by decide) (fun c_18 => ?_) (fun c_18 => ?_)
      · have hq := fw_if c_18 hq
        refine lv_iload_n hx hb dX4_load_58 rfl (lv_at hl 2 rfl) ?_
        refine lv_if_ne (tgt := 69) hx hb dX4_load_59 (by decide) (fun c_19 => ?_) (fun c_19 => ?_)
        · have hq := fw_if c_19 hq
          refine lv_aload_n hx hb dX4_load_69 rfl (lv_at hl 0 rfl) ?_
          refine va_get (D := (dC, dI)) (ci := 4) (v := .long lo_14) (C := RX4) (T := TX4) (N := 12) hx hb hts hinX4 hown hK hP 0 rfl rfl 11 (by decide) hf100 (fun _ h9 => h9) rfl dX4_load_70 ?_
          exact W.lret (v := lo_14) hx hb hr (fun t ht hW => ⟨⟨lo_14, (pt_12, up_13, lo_14), rfl, hz.trans hq.symm, by rw [ht]; exact hP, hD⟩, hS.F ht⟩) hS.2.2 dX4_load_73
        · have hq := fw_it c_19 hq
          refine lv_aload_n hx hb dX4_load_62 rfl (lv_at hl 0 rfl) ?_
          refine va_get (D := (dC, dI)) (ci := 4) (v := .long up_13) (C := RX4) (T := TX4) (N := 12) hx hb hts hinX4 hown hK hP 0 rfl rfl 10 (by decide) hf104 (fun _ h9 => h9) rfl dX4_load_63 ?_
          refine lv_goto (tgt := 73) hx hb dX4_load_66 (by decide) ?_
          exact W.lret (v := up_13) hx hb hr (fun t ht hW => ⟨⟨up_13, (pt_12, up_13, lo_14), rfl, hz.trans hq.symm, by rw [ht]; exact hP, hD⟩, hS.F ht⟩) hS.2.2 dX4_load_73
      · have hq := fw_it c_18 hq
        refine lv_ldc2 hx hb hown (hts (.constantLong RX4 113 (-1)) (by decide +kernel)) dX4_load_52 ?_
        refine lv_goto (tgt := 73) hx hb dX4_load_55 (by decide) ?_
        exact W.lret (v := (-1 : Int64)) hx hb hr (fun t ht hW => ⟨⟨(-1 : Int64), (pt_12, up_13, lo_14), rfl, hz.trans hq.symm, by rw [ht]; exact hP, hD⟩, hS.F ht⟩) hS.2.2 dX4_load_73
    · have hq := fw_it c_8 hq
      refine lv_ldc2 hx hb hown (hts (.constantLong RX4 98 (-3)) (by decide +kernel)) dX4_load_21 ?_
      exact W.lret (v := (-3 : Int64)) hx hb hr (fun t ht hW => ⟨⟨(-3 : Int64), (pt0, up0, lo0), rfl, hz.trans hq.symm, by rw [ht]; exact hP, hD⟩, hS.F ht⟩) hS.2.2 dX4_load_24
  · have hq := fw_it c_4 hq
    refine lv_ldc2 hx hb hown (hts (.constantLong RX4 107 (-2)) (by decide +kernel)) dX4_load_8 ?_
    exact W.lret (v := (-2 : Int64)) hx hb hr (fun t ht hW => ⟨⟨(-2 : Int64), (pt0, up0, lo0), rfl, hz.trans hq.symm, by rw [ht]; exact hP, hD⟩, hS.F ht⟩) hS.2.2 dX4_load_11
set_option maxHeartbeats 4000000 in
set_option maxRecDepth 100000 in
theorem kX4_count (l : Launch) (dC : Nat → ClassId) (dI : Nat → Nat → Nat) (cI cJ : ClassId) (q : Nat → Nat) (sz : Nat)  (nn0 : Int32) (ln0 : Int32) (sa0 : Nat → Int32) (sb0 : Nat → Int32) (wg0 : Nat → Int32) (kt0 : Nat → Int32) (fr0 : Nat → Int32) (pt0 : Nat → Int32) (wl0 : Nat → Int32) (tn0 : Nat → Int32) (up0 : Int64) (lo0 : Int64) (y1 : Int32) (hd : ∃ z, pX4_count nn0 ln0 wg0 kt0 y1 = some z) : Met l yX4_count wsX4_count ({ frames := 1, cells := 0, slots := 0, locals := 22 }) (fw_Pc (dC, dI) (fw_tys cI cJ) (wM cI cJ q  nn0 ln0 sa0 sb0 wg0 kt0 fr0 pt0 wl0 tn0 up0 lo0) ([.ref (q 0), .int y1] : List Value) sz) (va_Qi (fun (r : Int32) (u : Unit) => pX4_count nn0 ln0 wg0 kt0 y1 = some r) (fun u t => fw_B (dC, dI) (va_A (wM cI cJ q  nn0 ln0 sa0 sb0 wg0 kt0 fr0 pt0 wl0 tn0 up0 lo0) sz) (wM cI cJ q  nn0 ln0 sa0 sb0 wg0 kt0 fr0 pt0 wl0 tn0 up0 lo0) t) (va_A (wM cI cJ q  nn0 ln0 sa0 sb0 wg0 kt0 fr0 pt0 wl0 tn0 up0 lo0) sz)) 0 0 (va_A (wM cI cJ q  nn0 ln0 sa0 sb0 wg0 kt0 fr0 pt0 wl0 tn0 up0 lo0) sz) := by
  obtain ⟨z, hz⟩ := hd
  refine Met.ofW (cc := cX4_count) (maxL := 4) (ret := (some .int)) (by decide) rfl ?_
  intro p e s m args below meth c s₁ B hml hv
  obtain ⟨rfl, hsz, hP, hK, hD0, hN⟩ := hv
  have hx := B.exec
  have hb := B.bytes
  have hr := B.returns
  have hts := atoms_spec (ws := wsX4_count) B.pre
  have hown : s.vm.findClass RX4 = some m.cls := findClass_of_methodNamed B.named
  have hlocks := B.notSynchronized
  subst hsz
  have hD := hD0.self (sz := s.heap.size)
  generalize hAe : va_A (wM cI cJ q  nn0 ln0 sa0 sb0 wg0 kt0 fr0 pt0 wl0 tn0 up0 lo0) s.heap.size = A at hD ⊢
  have hA : ∀ q : Nat, s.heap.size ≤ q → A q := fun q h => by rw [← hAe]; exact Or.inr h
  have hinX4 : ∀ w ∈ u_ws RX4 TX4 12, w ∈ wsX4_count := by decide +kernel
  have hf7 := hts (.fieldLink RX4 7 "FewLinesModel" "n" "I") (by decide +kernel)
  have hf20 := hts (.fieldLink RX4 20 "FewLinesModel" "weight" "[I") (by decide +kernel)
  have hf23 := hts (.fieldLink RX4 23 "FewLinesModel" "kept" "[I") (by decide +kernel)
  have hf42 := hts (.fieldLink RX4 42 "FewLinesModel" "lines" "I") (by decide +kernel)
  have L53 : ∀  (e9 : Int32 × Int32), (∀ (x2' : Int32) (x3' : Int32) (H : Heap) (locs : List Loc) (ls : Array Slot), e9 = (x2', x3') → va_P (dC, dI) vwCl (wM cI cJ q  nn0 ln0 sa0 sb0 wg0 kt0 fr0 pt0 wl0 tn0 up0 lo0) H → va_D A (wM cI cJ q  nn0 ln0 sa0 sb0 wg0 kt0 fr0 pt0 wl0 tn0 up0 lo0) → va_S A s.heap H locs → lv_has ls 4 [(0, .ref (q 0)), (2, .int x2'), (3, .int x3')] → W p l e (headSpec wsX4_count ({ frames := 1, cells := 0, slots := 0, locals := 22 })).room s m ([.ref (q 0), .int y1] : List Value).toArray below meth c H locs 0 0 (MQ below (va_Qi (fun (r : Int32) (u : Unit) => pX4_count nn0 ln0 wg0 kt0 y1 = some r) (fun u t => fw_B (dC, dI) A (wM cI cJ q  nn0 ln0 sa0 sb0 wg0 kt0 fr0 pt0 wl0 tn0 up0 lo0) t) A) ([.ref (q 0), .int y1] : List Value).toArray s 0 0 A) (F0 m 76 ls [])) → ∀ (n9 : Nat) (x2 : Int32) (x3 : Int32) (H : Heap) (locs : List Loc) (ls : Array Slot), fw_wh (pX4_count_53 ln0 wg0) n9 (x2, x3) = some e9 → va_P (dC, dI) vwCl (wM cI cJ q  nn0 ln0 sa0 sb0 wg0 kt0 fr0 pt0 wl0 tn0 up0 lo0) H → va_D A (wM cI cJ q  nn0 ln0 sa0 sb0 wg0 kt0 fr0 pt0 wl0 tn0 up0 lo0) → va_S A s.heap H locs → lv_has ls 4 [(0, .ref (q 0)), (2, .int x2), (3, .int x3)] → W p l e (headSpec wsX4_count ({ frames := 1, cells := 0, slots := 0, locals := 22 })).room s m ([.ref (q 0), .int y1] : List Value).toArray below meth c H locs 0 0 (MQ below (va_Qi (fun (r : Int32) (u : Unit) => pX4_count nn0 ln0 wg0 kt0 y1 = some r) (fun u t => fw_B (dC, dI) A (wM cI cJ q  nn0 ln0 sa0 sb0 wg0 kt0 fr0 pt0 wl0 tn0 up0 lo0) t) A) ([.ref (q 0), .int y1] : List Value).toArray s 0 0 A) (F0 m 53 ls []) := by
    intro  e9 hkk n9
    induction n9 with
    | zero => exact fun _ _ H locs ls hq => (fw_wh0 hq).elim
    | succ n9 ih =>
      intro x2 x3 H locs ls hq hP hD hS hl
      obtain ⟨w9, hq, hwI, hwE⟩ := fw_wh1 hq
      dsimp only [pX4_count_53] at hq
      refine lv_iload_n hx hb dX4_count_53 rfl (lv_at hl 2 rfl) ?_
      refine lv_aload_n hx hb dX4_count_54 rfl (lv_at hl 0 rfl) ?_
      refine va_get (D := (dC, dI)) (ci := 4) (v := .int ln0) (C := RX4) (T := TX4) (N := 12) hx hb hts hinX4 hown hK hP 0 rfl rfl 1 (by decide) hf42 (fun _ h9 => h9) rfl dX4_count_55 ?_
      refine lv_icmp_ge (tgt := 76) hx hb dX4_count_58 (by decide) (fun c_8 => ?_) (fun c_8 => ?_)
      · have hq := fw_it c_8 hq
        exact hkk x2 x3 H locs ls (hwE _ (Option.some.inj hq).symm) hP hD hS (lv_sub hl [0, 1, 2] rfl)
      · have hq := fw_if c_8 hq
        refine lv_iload_n hx hb dX4_count_61 rfl (lv_at hl 1 rfl) ?_
        refine lv_aload_n hx hb dX4_count_62 rfl (lv_at hl 0 rfl) ?_
        refine va_get (D := (dC, dI)) (ci := 4) (v := .ref (q 3)) (C := RX4) (T := TX4) (N := 12) hx hb hts hinX4 hown hK hP 0 rfl rfl 4 (by decide) hf20 (fun _ h9 => h9) rfl dX4_count_63 ?_
        refine lv_iload_n hx hb dX4_count_66 rfl (lv_at hl 2 rfl) ?_
        obtain ⟨h_9, hq⟩ := fw_ck_s hq
        refine va_iald hx hb hK hP 3 0 rfl rfl h_9 dX4_count_67 ?_
        refine lv_iadd hx hb dX4_count_68 ?_
        refine lv_istore_n (lv' := [(2, .int (x2 + (wg0 (x3).toNatClampNeg))), (0, .ref (q 0)), (3, .int x3)]) hx hb dX4_count_69 rfl hl (by decide) rfl (fun ls hl => ?_)
        refine lv_iinc (v := (x3 + (1 : Int32))) (lv' := [(3, .int (x3 + (1 : Int32))), (2, .int (x2 + (wg0 (x3).toNatClampNeg))), (0, .ref (q 0))]) hx hb dX4_count_70 hl (k := 2) rfl rfl (by decide) rfl (fun ls hl => ?_)
        refine lv_goto (tgt := 53) hx hb dX4_count_73 (by decide) ?_
        exact ih (x2 + (wg0 (x3).toNatClampNeg)) (x3 + (1 : Int32)) H locs ls (hwI _ (Option.some.inj hq).symm) hP hD hS (lv_sub hl [2, 1, 0] rfl)
  have L80 : ∀  (e9 : Int32 × Int32), (∀ (x2' : Int32) (x3' : Int32) (H : Heap) (locs : List Loc) (ls : Array Slot), e9 = (x2', x3') → va_P (dC, dI) vwCl (wM cI cJ q  nn0 ln0 sa0 sb0 wg0 kt0 fr0 pt0 wl0 tn0 up0 lo0) H → va_D A (wM cI cJ q  nn0 ln0 sa0 sb0 wg0 kt0 fr0 pt0 wl0 tn0 up0 lo0) → va_S A s.heap H locs → lv_has ls 4 [(0, .ref (q 0)), (2, .int x2'), (3, .int x3')] → W p l e (headSpec wsX4_count ({ frames := 1, cells := 0, slots := 0, locals := 22 })).room s m ([.ref (q 0), .int y1] : List Value).toArray below meth c H locs 0 0 (MQ below (va_Qi (fun (r : Int32) (u : Unit) => pX4_count nn0 ln0 wg0 kt0 y1 = some r) (fun u t => fw_B (dC, dI) A (wM cI cJ q  nn0 ln0 sa0 sb0 wg0 kt0 fr0 pt0 wl0 tn0 up0 lo0) t) A) ([.ref (q 0), .int y1] : List Value).toArray s 0 0 A) (F0 m 103 ls [])) → ∀ (n9 : Nat) (x2 : Int32) (x3 : Int32) (H : Heap) (locs : List Loc) (ls : Array Slot), fw_wh (pX4_count_80 ln0 kt0) n9 (x2, x3) = some e9 → va_P (dC, dI) vwCl (wM cI cJ q  nn0 ln0 sa0 sb0 wg0 kt0 fr0 pt0 wl0 tn0 up0 lo0) H → va_D A (wM cI cJ q  nn0 ln0 sa0 sb0 wg0 kt0 fr0 pt0 wl0 tn0 up0 lo0) → va_S A s.heap H locs → lv_has ls 4 [(0, .ref (q 0)), (2, .int x2), (3, .int x3)] → W p l e (headSpec wsX4_count ({ frames := 1, cells := 0, slots := 0, locals := 22 })).room s m ([.ref (q 0), .int y1] : List Value).toArray below meth c H locs 0 0 (MQ below (va_Qi (fun (r : Int32) (u : Unit) => pX4_count nn0 ln0 wg0 kt0 y1 = some r) (fun u t => fw_B (dC, dI) A (wM cI cJ q  nn0 ln0 sa0 sb0 wg0 kt0 fr0 pt0 wl0 tn0 up0 lo0) t) A) ([.ref (q 0), .int y1] : List Value).toArray s 0 0 A) (F0 m 80 ls []) := by
    intro  e9 hkk n9
    induction n9 with
    | zero => exact fun _ _ H locs ls hq => (fw_wh0 hq).elim
    | succ n9 ih =>
      intro x2 x3 H locs ls hq hP hD hS hl
      obtain ⟨w9, hq, hwI, hwE⟩ := fw_wh1 hq
      dsimp only [pX4_count_80] at hq
      refine lv_iload_n hx hb dX4_count_80 rfl (lv_at hl 2 rfl) ?_
      refine lv_aload_n hx hb dX4_count_81 rfl (lv_at hl 0 rfl) ?_
      refine va_get (D := (dC, dI)) (ci := 4) (v := .int ln0) (C := RX4) (T := TX4) (N := 12) hx hb hts hinX4 hown hK hP 0 rfl rfl 1 (by decide) hf42 (fun _ h9 => h9) rfl dX4_count_82 ?_
      refine lv_icmp_ge (tgt := 103) hx hb dX4_count_85 (by decide) (fun c_13 => ?_) (fun c_13 => ?_)
      · have hq := fw_it c_13 hq
        exact hkk x2 x3 H locs ls (hwE _ (Option.some.inj hq).symm) hP hD hS (lv_sub hl [0, 1, 2] rfl)
      · have hq := fw_if c_13 hq
        refine lv_iload_n hx hb dX4_count_88 rfl (lv_at hl 1 rfl) ?_
        refine lv_aload_n hx hb dX4_count_89 rfl (lv_at hl 0 rfl) ?_
        refine va_get (D := (dC, dI)) (ci := 4) (v := .ref (q 4)) (C := RX4) (T := TX4) (N := 12) hx hb hts hinX4 hown hK hP 0 rfl rfl 5 (by decide) hf23 (fun _ h9 => h9) rfl dX4_count_90 ?_
        refine lv_iload_n hx hb dX4_count_93 rfl (lv_at hl 2 rfl) ?_
        obtain ⟨h_14, hq⟩ := fw_ck_s hq
        refine va_iald hx hb hK hP 4 0 rfl rfl h_14 dX4_count_94 ?_
        refine lv_iadd hx hb dX4_count_95 ?_
        refine lv_istore_n (lv' := [(2, .int (x2 + (kt0 (x3).toNatClampNeg))), (0, .ref (q 0)), (3, .int x3)]) hx hb dX4_count_96 rfl hl (by decide) rfl (fun ls hl => ?_)
        refine lv_iinc (v := (x3 + (1 : Int32))) (lv' := [(3, .int (x3 + (1 : Int32))), (2, .int (x2 + (kt0 (x3).toNatClampNeg))), (0, .ref (q 0))]) hx hb dX4_count_97 hl (k := 2) rfl rfl (by decide) rfl (fun ls hl => ?_)
        refine lv_goto (tgt := 80) hx hb dX4_count_100 (by decide) ?_
        exact ih (x2 + (kt0 (x3).toNatClampNeg)) (x3 + (1 : Int32)) H locs ls (hwI _ (Option.some.inj hq).symm) hP hD hS (lv_sub hl [2, 1, 0] rfl)
  have hq := hz
  dsimp only [pX4_count] at hq
  have hl := lv_entry (([.ref (q 0), .int y1] : List Value)) (n := 4) (Nat.le_of_ble_eq_true rfl)
  rw [lg_entry_eq]
  generalize (lg_sl (([.ref (q 0), .int y1] : List Value)) ++ List.replicate (4 - (lg_sl (([.ref (q 0), .int y1] : List Value))).length) Slot.unset).toArray = ls at hl ⊢
  have hl : lv_has ls 4 [(0, .ref (q 0)), (1, .int y1)] := hl
  obtain ⟨H, hHe⟩ : ∃ H : Heap, H = s.heap := ⟨_, rfl⟩
  obtain ⟨locs, hLe⟩ : ∃ L : List Loc, L = [] := ⟨_, rfl⟩
  have hP : va_P (dC, dI) vwCl (wM cI cJ q  nn0 ln0 sa0 sb0 wg0 kt0 fr0 pt0 wl0 tn0 up0 lo0) H := by rw [hHe]; exact hP
  have hS : va_S A s.heap H locs := by rw [hHe, hLe]; exact va_S.rf
  show W p l e (headSpec wsX4_count ({ frames := 1, cells := 0, slots := 0, locals := 22 })).room s m ([.ref (q 0), .int y1] : List Value).toArray below meth c s.heap [] 0 0 (MQ below (va_Qi (fun (r : Int32) (u : Unit) => pX4_count nn0 ln0 wg0 kt0 y1 = some r) (fun u t => fw_B (dC, dI) A (wM cI cJ q  nn0 ln0 sa0 sb0 wg0 kt0 fr0 pt0 wl0 tn0 up0 lo0) t) A) ([.ref (q 0), .int y1] : List Value).toArray s 0 0 A) (F0 m 0 ls [])
  rw [← hHe, ← hLe]
  refine lv_iconst (v := (0 : Int32)) hx hb dX4_count_0 (by decide) ?_
  refine lv_istore_n (lv' := [(2, .int (0 : Int32)), (0, .ref (q 0)), (1, .int y1)]) hx hb dX4_count_1 rfl hl (by decide) rfl (fun ls hl => ?_)
  refine lv_iload_n hx hb dX4_count_2 rfl (lv_at hl 2 rfl) ?_
  by_cases c_1 : y1 = (0 : Int32)
  · have hq := fw_it c_1 hq
    refine lv_tableIn (tgt := 36) (off := 33) hx hb dX4_count_3 (by rw [c_1]; decide) (by rw [c_1]; decide) (by rw [c_1]; rfl) (by decide) ?_
    refine lv_aload_n hx hb dX4_count_36 rfl (lv_at hl 1 rfl) ?_
    refine va_get (D := (dC, dI)) (ci := 4) (v := .int nn0) (C := RX4) (T := TX4) (N := 12) hx hb hts hinX4 hown hK hP 0 rfl rfl 0 (by decide) hf7 (fun _ h9 => h9) rfl dX4_count_37 ?_
    exact W.iret (v := nn0) hx hb hr (fun t ht hW => ⟨⟨nn0, (), rfl, hz.trans hq.symm, by rw [ht]; exact hP, hD⟩, hS.F ht⟩) hS.2.2 dX4_count_40
  · have hq := fw_if c_1 hq
    by_cases c_2 : y1 = (1 : Int32)
    · have hq := fw_it c_2 hq
      refine lv_tableIn (tgt := 41) (off := 38) hx hb dX4_count_3 (by rw [c_2]; decide) (by rw [c_2]; decide) (by rw [c_2]; rfl) (by decide) ?_
      refine lv_aload_n hx hb dX4_count_41 rfl (lv_at hl 1 rfl) ?_
      refine va_get (D := (dC, dI)) (ci := 4) (v := .int ln0) (C := RX4) (T := TX4) (N := 12) hx hb hts hinX4 hown hK hP 0 rfl rfl 1 (by decide) hf42 (fun _ h9 => h9) rfl dX4_count_42 ?_
      exact W.iret (v := ln0) hx hb hr (fun t ht hW => ⟨⟨ln0, (), rfl, hz.trans hq.symm, by rw [ht]; exact hP, hD⟩, hS.F ht⟩) hS.2.2 dX4_count_45
    · have hq := fw_if c_2 hq
      by_cases c_3 : y1 = (2 : Int32)
      · have hq := fw_it c_3 hq
        refine lv_tableIn (tgt := 46) (off := 43) hx hb dX4_count_3 (by rw [c_3]; decide) (by rw [c_3]; decide) (by rw [c_3]; rfl) (by decide) ?_
        refine lv_aload_n hx hb dX4_count_46 rfl (lv_at hl 1 rfl) ?_
        have hPc := hP.sub (ws' := (wM cI cJ q  nn0 ln0 sa0 sb0 wg0 kt0 fr0 pt0 wl0 tn0 up0 lo0)) [0, 1, 2, 3, 4, 5, 6, 7, 8] rfl
        have hDc := hD.sub (ws' := (wM cI cJ q  nn0 ln0 sa0 sb0 wg0 kt0 fr0 pt0 wl0 tn0 up0 lo0)) [0, 1, 2, 3, 4, 5, 6, 7, 8] (by decide) rfl
        refine fw_ci (wr := []) (w2 := fun u => (wM cI cJ q  nn0 ln0 sa0 sb0 wg0 kt0 fr0 pt0 wl0 tn0 up0 lo0)) [0, 1, 2, 3, 4, 5, 6, 7, 8] [] [0, 1, 2, 3, 4, 5, 6, 7, 8] (va_runV (b := (q 0)) (As := []) (rest := []) ⟨hx, hb, hml, hown, hts⟩ (kX4_keptMany l dC dI cI cJ q H.size  nn0 ln0 sa0 sb0 wg0 kt0 fr0 pt0 wl0 tn0 up0 lo0  (fw_be hq)) (cwV 0 hts gX4_count_X4_keptMany rfl rfl rfl (by decide +kernel) ⟨Nat.le_of_ble_eq_true rfl, Nat.le_of_ble_eq_true rfl⟩) ⟨fw_blind, va_recv hK hPc (ci := 4) (q0 := 0) rfl rfl, fun U hU hW => fw_pre hPc hK hDc hN hU hW⟩ rfl rfl hl.1 rfl (lv_room (Nat.le_of_ble_eq_true rfl)) dX4_count_47 ⟨Nat.zero_le _, Nat.zero_le _⟩) hP hD hS hA rfl rfl (by decide) (by decide) (by decide) (fun _ => rfl) (fun r_6 u H locs hw hP hD hS => ?_)
        have hq := fw_bs hw hq
        try dsimp only at hq
        exact W.iret (v := r_6) hx hb hr (fun t ht hW => ⟨⟨r_6, (), rfl, hz.trans hq.symm, by rw [ht]; exact hP, hD⟩, hS.F ht⟩) hS.2.2 dX4_count_50
      · have hq := fw_if c_3 hq
        by_cases c_4 : y1 = (3 : Int32)
        · have hq := fw_it c_4 hq
          refine lv_tableIn (tgt := 51) (off := 48) hx hb dX4_count_3 (by rw [c_4]; decide) (by rw [c_4]; decide) (by rw [c_4]; rfl) (by decide) ?_
          refine lv_iconst (v := (0 : Int32)) hx hb dX4_count_51 (by decide) ?_
          refine lv_istore_n (lv' := [(3, .int (0 : Int32)), (2, .int (0 : Int32)), (0, .ref (q 0)), (1, .int y1)]) hx hb dX4_count_52 rfl hl (by decide) rfl (fun ls hl => ?_)
          obtain ⟨e_12, hw, hq⟩ := fw_bb hq
          refine L53  e_12 (fun x2_10 x3_11 H locs ls he hP hD hS hl => ?_) fw_N (0 : Int32) (0 : Int32) H locs ls hw hP hD hS (lv_sub hl [2, 1, 0] rfl)
          subst he
          try dsimp only at hq
          refine lv_iload_n hx hb dX4_count_76 rfl (lv_at hl 1 rfl) ?_
          exact W.iret (v := x2_10) hx hb hr (fun t ht hW => ⟨⟨x2_10, (), rfl, hz.trans hq.symm, by rw [ht]; exact hP, hD⟩, hS.F ht⟩) hS.2.2 dX4_count_77
        · have hq := fw_if c_4 hq
          by_cases c_5 : y1 = (4 : Int32)
          · have hq := fw_it c_5 hq
            refine lv_tableIn (tgt := 78) (off := 75) hx hb dX4_count_3 (by rw [c_5]; decide) (by rw [c_5]; decide) (by rw [c_5]; rfl) (by decide) ?_
            refine lv_iconst (v := (0 : Int32)) hx hb dX4_count_78 (by decide) ?_
            refine lv_istore_n (lv' := [(3, .int (0 : Int32)), (2, .int (0 : Int32)), (0, .ref (q 0)), (1, .int y1)]) hx hb dX4_count_79 rfl hl (by decide) rfl (fun ls hl => ?_)
            obtain ⟨e_17, hw, hq⟩ := fw_bb hq
            refine L80  e_17 (fun x2_15 x3_16 H locs ls he hP hD hS hl => ?_) fw_N (0 : Int32) (0 : Int32) H locs ls hw hP hD hS (lv_sub hl [2, 1, 0] rfl)
            subst he
            try dsimp only at hq
            refine lv_iload_n hx hb dX4_count_103 rfl (lv_at hl 1 rfl) ?_
            exact W.iret (v := x2_15) hx hb hr (fun t ht hW => ⟨⟨x2_15, (), rfl, hz.trans hq.symm, by rw [ht]; exact hP, hD⟩, hS.F ht⟩) hS.2.2 dX4_count_104
          · have hq := fw_if c_5 hq
            refine lv_tableOut (tgt := 105) hx hb dX4_count_3 (fw_out4 c_1 c_2 c_3 c_4 c_5) (by decide) ?_
            refine lv_bipush (v := (-3 : Int32)) hx hb dX4_count_105 (by decide) ?_
            exact W.iret (v := (-3 : Int32)) hx hb hr (fun t ht hW => ⟨⟨(-3 : Int32), (), rfl, hz.trans hq.symm, by rw [ht]; exact hP, hD⟩, hS.F ht⟩) hS.2.2 dX4_count_107
