/-! ===== contracts, by own program ===== -/
set_option maxHeartbeats 4000000 in
set_option maxRecDepth 100000 in
theorem kX4_isNode (l : Launch) (dC : Nat → ClassId) (dI : Nat → Nat → Nat) (cI cJ : ClassId) (q : Nat → Nat) (sz : Nat)  (nn0 : Int32) (ln0 : Int32) (sa0 : Nat → Int32) (sb0 : Nat → Int32) (wg0 : Nat → Int32) (kt0 : Nat → Int32) (fr0 : Nat → Int32) (pt0 : Nat → Int32) (wl0 : Nat → Int32) (tn0 : Nat → Int32) (up0 : Int64) (lo0 : Int64) (y1 : Int32) (hd : ∃ z, pX4_isNode nn0 y1 = some z) : Met l yX4_isNode wsX4_isNode ({ frames := 1, cells := 0, slots := 0, locals := 22 }) (fw_Pc (dC, dI) (fw_tys cI cJ) (wM cI cJ q  nn0 ln0 sa0 sb0 wg0 kt0 fr0 pt0 wl0 tn0 up0 lo0) ([.ref (q 0), .int y1] : List Value) sz) (va_Qi (fun (r : Int32) (u : Unit) => pX4_isNode nn0 y1 = some r ∧ narrow .boolean (.int r) = .int r) (fun u t => fw_B (dC, dI) (va_A (wM cI cJ q  nn0 ln0 sa0 sb0 wg0 kt0 fr0 pt0 wl0 tn0 up0 lo0) sz) (wM cI cJ q  nn0 ln0 sa0 sb0 wg0 kt0 fr0 pt0 wl0 tn0 up0 lo0) t) (va_A (wM cI cJ q  nn0 ln0 sa0 sb0 wg0 kt0 fr0 pt0 wl0 tn0 up0 lo0) sz)) 0 0 (va_A (wM cI cJ q  nn0 ln0 sa0 sb0 wg0 kt0 fr0 pt0 wl0 tn0 up0 lo0) sz) := by
  obtain ⟨z, hz⟩ := hd
  refine Met.ofW (cc := cX4_isNode) (maxL := 2) (ret := (some .boolean)) (by decide) rfl ?_
  intro p e s m args below meth c s₁ B hml hv
  obtain ⟨rfl, hsz, hP, hK, hD0, hN⟩ := hv
  have hx := B.exec
  have hb := B.bytes
  have hr := B.returns
  have hts := atoms_spec (ws := wsX4_isNode) B.pre
  have hown : s.vm.findClass RX4 = some m.cls := findClass_of_methodNamed B.named
  have hlocks := B.notSynchronized
  subst hsz
  have hD := hD0.self (sz := s.heap.size)
  generalize hAe : va_A (wM cI cJ q  nn0 ln0 sa0 sb0 wg0 kt0 fr0 pt0 wl0 tn0 up0 lo0) s.heap.size = A at hD ⊢
  have hA : ∀ q : Nat, s.heap.size ≤ q → A q := fun q h => by rw [← hAe]; exact Or.inr h
  have hinX4 : ∀ w ∈ u_ws RX4 TX4 12, w ∈ wsX4_isNode := by decide +kernel
  have hf7 := hts (.fieldLink RX4 7 "FewLinesModel" "n" "I") (by decide +kernel)
  have hq := hz
  dsimp only [pX4_isNode] at hq
  have hl := lv_entry (([.ref (q 0), .int y1] : List Value)) (n := 2) (Nat.le_of_ble_eq_true rfl)
  rw [lg_entry_eq]
  generalize (lg_sl (([.ref (q 0), .int y1] : List Value)) ++ List.replicate (2 - (lg_sl (([.ref (q 0), .int y1] : List Value))).length) Slot.unset).toArray = ls at hl ⊢
  have hl : lv_has ls 2 [(0, .ref (q 0)), (1, .int y1)] := hl
  obtain ⟨H, hHe⟩ : ∃ H : Heap, H = s.heap := ⟨_, rfl⟩
  obtain ⟨locs, hLe⟩ : ∃ L : List Loc, L = [] := ⟨_, rfl⟩
  have hP : va_P (dC, dI) vwCl (wM cI cJ q  nn0 ln0 sa0 sb0 wg0 kt0 fr0 pt0 wl0 tn0 up0 lo0) H := by rw [hHe]; exact hP
  have hS : va_S A s.heap H locs := by rw [hHe, hLe]; exact va_S.rf
  show W p l e (headSpec wsX4_isNode ({ frames := 1, cells := 0, slots := 0, locals := 22 })).room s m ([.ref (q 0), .int y1] : List Value).toArray below meth c s.heap [] 0 0 (MQ below (va_Qi (fun (r : Int32) (u : Unit) => pX4_isNode nn0 y1 = some r ∧ narrow .boolean (.int r) = .int r) (fun u t => fw_B (dC, dI) A (wM cI cJ q  nn0 ln0 sa0 sb0 wg0 kt0 fr0 pt0 wl0 tn0 up0 lo0) t) A) ([.ref (q 0), .int y1] : List Value).toArray s 0 0 A) (F0 m 0 ls [])
  rw [← hHe, ← hLe]
  refine lv_iload_n hx hb dX4_isNode_0 rfl (lv_at hl 1 rfl) ?_
  refine lv_iconst (v := (0 : Int32)) hx hb dX4_isNode_1 (by decide) ?_
  refine lv_aload_n hx hb dX4_isNode_2 rfl (lv_at hl 0 rfl) ?_
  refine va_get (D := (dC, dI)) (ci := 4) (v := .int nn0) (C := RX4) (T := TX4) (N := 12) hx hb hts hinX4 hown hK hP 0 rfl rfl 0 (by decide) hf7 (fun _ h9 => h9) rfl dX4_isNode_3 ?_
  refine lv_iconst (v := (1 : Int32)) hx hb dX4_isNode_6 (by decide) ?_
  refine lv_isub hx hb dX4_isNode_7 ?_
  have hPc := hP.sub (ws' := (w0 cI cJ   )) [] rfl
  have hDc := hD.sub (ws' := (w0 cI cJ   )) [] (by decide) rfl
  refine fw_ci (wr := [((q 0), .inr (4, [.int nn0, .int ln0, .ref (q 1), .ref (q 2), .ref (q 3), .ref (q 4), .ref (q 5), .ref (q 6), .ref (q 7), .ref (q 8), .long up0, .long lo0])), ((q 1), .inl (cI, 12, .inl sa0)), ((q 2), .inl (cI, 12, .inl sb0)), ((q 3), .inl (cI, 12, .inl wg0)), ((q 4), .inl (cI, 12, .inl kt0)), ((q 5), .inl (cI, 12, .inl fr0)), ((q 6), .inl (cI, 7, .inl pt0)), ((q 7), .inl (cI, 49, .inl wl0)), ((q 8), .inl (cI, 49, .inl tn0))]) (w2 := fun u => (wM cI cJ q  nn0 ln0 sa0 sb0 wg0 kt0 fr0 pt0 wl0 tn0 up0 lo0)) [] [0, 1, 2, 3, 4, 5, 6, 7, 8] [0, 1, 2, 3, 4, 5, 6, 7, 8] (va_runS (As := [.int y1, .int (0 : Int32), .int (nn0 - (1 : Int32))]) (rest := []) ⟨hx, hb, hml, hown, hts⟩ (kX4_in l dC dI cI cJ  H.size   y1 (0 : Int32) (nn0 - (1 : Int32)) (fw_be hq)) (va_cwS 3 hts gX4_isNode_X4_in rfl rfl rfl (by decide +kernel) ⟨Nat.le_of_ble_eq_true rfl, Nat.le_of_ble_eq_true rfl⟩) ⟨fw_blind, fun U hU hW => fw_pre hPc hK hDc hN hU hW⟩ rfl rfl hl.1 rfl (lv_room (Nat.le_of_ble_eq_true rfl)) dX4_isNode_8 ⟨Nat.zero_le _, Nat.zero_le _⟩) hP hD hS hA rfl rfl (by decide) (by decide) (by decide) (fun _ => rfl) (fun r_1 u H locs hw hP hD hS => ?_)
  obtain ⟨hw, n_3⟩ := hw
  have hq := fw_bs hw hq
  try dsimp only at hq
  exact W.zret (v := r_1) (ty := .boolean) hx hb hr n_3 (fun t ht hW => ⟨⟨r_1, (), rfl, ⟨hz.trans hq.symm, n_3⟩, by rw [ht]; exact hP, hD⟩, hS.F ht⟩) hS.2.2 dX4_isNode_11
set_option maxHeartbeats 4000000 in
set_option maxRecDepth 100000 in
theorem kX4_isLine (l : Launch) (dC : Nat → ClassId) (dI : Nat → Nat → Nat) (cI cJ : ClassId) (q : Nat → Nat) (sz : Nat)  (nn0 : Int32) (ln0 : Int32) (sa0 : Nat → Int32) (sb0 : Nat → Int32) (wg0 : Nat → Int32) (kt0 : Nat → Int32) (fr0 : Nat → Int32) (pt0 : Nat → Int32) (wl0 : Nat → Int32) (tn0 : Nat → Int32) (up0 : Int64) (lo0 : Int64) (y1 : Int32) (hd : ∃ z, pX4_isLine ln0 y1 = some z) : Met l yX4_isLine wsX4_isLine ({ frames := 1, cells := 0, slots := 0, locals := 22 }) (fw_Pc (dC, dI) (fw_tys cI cJ) (wM cI cJ q  nn0 ln0 sa0 sb0 wg0 kt0 fr0 pt0 wl0 tn0 up0 lo0) ([.ref (q 0), .int y1] : List Value) sz) (va_Qi (fun (r : Int32) (u : Unit) => pX4_isLine ln0 y1 = some r ∧ narrow .boolean (.int r) = .int r) (fun u t => fw_B (dC, dI) (va_A (wM cI cJ q  nn0 ln0 sa0 sb0 wg0 kt0 fr0 pt0 wl0 tn0 up0 lo0) sz) (wM cI cJ q  nn0 ln0 sa0 sb0 wg0 kt0 fr0 pt0 wl0 tn0 up0 lo0) t) (va_A (wM cI cJ q  nn0 ln0 sa0 sb0 wg0 kt0 fr0 pt0 wl0 tn0 up0 lo0) sz)) 0 0 (va_A (wM cI cJ q  nn0 ln0 sa0 sb0 wg0 kt0 fr0 pt0 wl0 tn0 up0 lo0) sz) := by
  obtain ⟨z, hz⟩ := hd
  refine Met.ofW (cc := cX4_isLine) (maxL := 2) (ret := (some .boolean)) (by decide) rfl ?_
  intro p e s m args below meth c s₁ B hml hv
  obtain ⟨rfl, hsz, hP, hK, hD0, hN⟩ := hv
  have hx := B.exec
  have hb := B.bytes
  have hr := B.returns
  have hts := atoms_spec (ws := wsX4_isLine) B.pre
  have hown : s.vm.findClass RX4 = some m.cls := findClass_of_methodNamed B.named
  have hlocks := B.notSynchronized
  subst hsz
  have hD := hD0.self (sz := s.heap.size)
  generalize hAe : va_A (wM cI cJ q  nn0 ln0 sa0 sb0 wg0 kt0 fr0 pt0 wl0 tn0 up0 lo0) s.heap.size = A at hD ⊢
  have hA : ∀ q : Nat, s.heap.size ≤ q → A q := fun q h => by rw [← hAe]; exact Or.inr h
  have hinX4 : ∀ w ∈ u_ws RX4 TX4 12, w ∈ wsX4_isLine := by decide +kernel
  have hf42 := hts (.fieldLink RX4 42 "FewLinesModel" "lines" "I") (by decide +kernel)
  have hq := hz
  dsimp only [pX4_isLine] at hq
  have hl := lv_entry (([.ref (q 0), .int y1] : List Value)) (n := 2) (Nat.le_of_ble_eq_true rfl)
  rw [lg_entry_eq]
  generalize (lg_sl (([.ref (q 0), .int y1] : List Value)) ++ List.replicate (2 - (lg_sl (([.ref (q 0), .int y1] : List Value))).length) Slot.unset).toArray = ls at hl ⊢
  have hl : lv_has ls 2 [(0, .ref (q 0)), (1, .int y1)] := hl
  obtain ⟨H, hHe⟩ : ∃ H : Heap, H = s.heap := ⟨_, rfl⟩
  obtain ⟨locs, hLe⟩ : ∃ L : List Loc, L = [] := ⟨_, rfl⟩
  have hP : va_P (dC, dI) vwCl (wM cI cJ q  nn0 ln0 sa0 sb0 wg0 kt0 fr0 pt0 wl0 tn0 up0 lo0) H := by rw [hHe]; exact hP
  have hS : va_S A s.heap H locs := by rw [hHe, hLe]; exact va_S.rf
  show W p l e (headSpec wsX4_isLine ({ frames := 1, cells := 0, slots := 0, locals := 22 })).room s m ([.ref (q 0), .int y1] : List Value).toArray below meth c s.heap [] 0 0 (MQ below (va_Qi (fun (r : Int32) (u : Unit) => pX4_isLine ln0 y1 = some r ∧ narrow .boolean (.int r) = .int r) (fun u t => fw_B (dC, dI) A (wM cI cJ q  nn0 ln0 sa0 sb0 wg0 kt0 fr0 pt0 wl0 tn0 up0 lo0) t) A) ([.ref (q 0), .int y1] : List Value).toArray s 0 0 A) (F0 m 0 ls [])
  rw [← hHe, ← hLe]
  refine lv_iload_n hx hb dX4_isLine_0 rfl (lv_at hl 1 rfl) ?_
  refine lv_iconst (v := (0 : Int32)) hx hb dX4_isLine_1 (by decide) ?_
  refine lv_aload_n hx hb dX4_isLine_2 rfl (lv_at hl 0 rfl) ?_
  refine va_get (D := (dC, dI)) (ci := 4) (v := .int ln0) (C := RX4) (T := TX4) (N := 12) hx hb hts hinX4 hown hK hP 0 rfl rfl 1 (by decide) hf42 (fun _ h9 => h9) rfl dX4_isLine_3 ?_
  refine lv_iconst (v := (1 : Int32)) hx hb dX4_isLine_6 (by decide) ?_
  refine lv_isub hx hb dX4_isLine_7 ?_
  have hPc := hP.sub (ws' := (w0 cI cJ   )) [] rfl
  have hDc := hD.sub (ws' := (w0 cI cJ   )) [] (by decide) rfl
  refine fw_ci (wr := [((q 0), .inr (4, [.int nn0, .int ln0, .ref (q 1), .ref (q 2), .ref (q 3), .ref (q 4), .ref (q 5), .ref (q 6), .ref (q 7), .ref (q 8), .long up0, .long lo0])), ((q 1), .inl (cI, 12, .inl sa0)), ((q 2), .inl (cI, 12, .inl sb0)), ((q 3), .inl (cI, 12, .inl wg0)), ((q 4), .inl (cI, 12, .inl kt0)), ((q 5), .inl (cI, 12, .inl fr0)), ((q 6), .inl (cI, 7, .inl pt0)), ((q 7), .inl (cI, 49, .inl wl0)), ((q 8), .inl (cI, 49, .inl tn0))]) (w2 := fun u => (wM cI cJ q  nn0 ln0 sa0 sb0 wg0 kt0 fr0 pt0 wl0 tn0 up0 lo0)) [] [0, 1, 2, 3, 4, 5, 6, 7, 8] [0, 1, 2, 3, 4, 5, 6, 7, 8] (va_runS (As := [.int y1, .int (0 : Int32), .int (ln0 - (1 : Int32))]) (rest := []) ⟨hx, hb, hml, hown, hts⟩ (kX4_in l dC dI cI cJ  H.size   y1 (0 : Int32) (ln0 - (1 : Int32)) (fw_be hq)) (va_cwS 3 hts gX4_isLine_X4_in rfl rfl rfl (by decide +kernel) ⟨Nat.le_of_ble_eq_true rfl, Nat.le_of_ble_eq_true rfl⟩) ⟨fw_blind, fun U hU hW => fw_pre hPc hK hDc hN hU hW⟩ rfl rfl hl.1 rfl (lv_room (Nat.le_of_ble_eq_true rfl)) dX4_isLine_8 ⟨Nat.zero_le _, Nat.zero_le _⟩) hP hD hS hA rfl rfl (by decide) (by decide) (by decide) (fun _ => rfl) (fun r_1 u H locs hw hP hD hS => ?_)
  obtain ⟨hw, n_3⟩ := hw
  have hq := fw_bs hw hq
  try dsimp only at hq
  exact W.zret (v := r_1) (ty := .boolean) hx hb hr n_3 (fun t ht hW => ⟨⟨r_1, (), rfl, ⟨hz.trans hq.symm, n_3⟩, by rw [ht]; exact hP, hD⟩, hS.F ht⟩) hS.2.2 dX4_isLine_11
set_option maxHeartbeats 4000000 in
set_option maxRecDepth 100000 in
theorem kX4_nodes (l : Launch) (dC : Nat → ClassId) (dI : Nat → Nat → Nat) (cI cJ : ClassId) (q : Nat → Nat) (sz : Nat)  (nn0 : Int32) (ln0 : Int32) (sa0 : Nat → Int32) (sb0 : Nat → Int32) (wg0 : Nat → Int32) (kt0 : Nat → Int32) (fr0 : Nat → Int32) (pt0 : Nat → Int32) (wl0 : Nat → Int32) (tn0 : Nat → Int32) (up0 : Int64) (lo0 : Int64) (y1 : Int32) (hd : ∃ z, pX4_nodes nn0 ln0 y1 = some z) : Met l yX4_nodes wsX4_nodes ({ frames := 1, cells := 0, slots := 0, locals := 22 }) (fw_Pc (dC, dI) (fw_tys cI cJ) (wM cI cJ q  nn0 ln0 sa0 sb0 wg0 kt0 fr0 pt0 wl0 tn0 up0 lo0) ([.ref (q 0), .int y1] : List Value) sz) (va_Qi (fun (r : Int32) (u : Int32 × Int32) => pX4_nodes nn0 ln0 y1 = some (r, u)) (fun u t => fw_B (dC, dI) (va_A (wM cI cJ q  nn0 ln0 sa0 sb0 wg0 kt0 fr0 pt0 wl0 tn0 up0 lo0) sz) (wM cI cJ q  u.1 u.2 sa0 sb0 wg0 kt0 fr0 pt0 wl0 tn0 up0 lo0) t) (va_A (wM cI cJ q  nn0 ln0 sa0 sb0 wg0 kt0 fr0 pt0 wl0 tn0 up0 lo0) sz)) 0 0 (va_A (wM cI cJ q  nn0 ln0 sa0 sb0 wg0 kt0 fr0 pt0 wl0 tn0 up0 lo0) sz) := by
  obtain ⟨z, hz⟩ := hd
  refine Met.ofW (cc := cX4_nodes) (maxL := 2) (ret := (some .int)) (by decide) rfl ?_
  intro p e s m args below meth c s₁ B hml hv
  obtain ⟨rfl, hsz, hP, hK, hD0, hN⟩ := hv
  have hx := B.exec
  have hb := B.bytes
  have hr := B.returns
  have hts := atoms_spec (ws := wsX4_nodes) B.pre
  have hown : s.vm.findClass RX4 = some m.cls := findClass_of_methodNamed B.named
  have hlocks := B.notSynchronized
  subst hsz
  have hD := hD0.self (sz := s.heap.size)
  generalize hAe : va_A (wM cI cJ q  nn0 ln0 sa0 sb0 wg0 kt0 fr0 pt0 wl0 tn0 up0 lo0) s.heap.size = A at hD ⊢
  have hA : ∀ q : Nat, s.heap.size ≤ q → A q := fun q h => by rw [← hAe]; exact Or.inr h
  have hinX4 : ∀ w ∈ u_ws RX4 TX4 12, w ∈ wsX4_nodes := by decide +kernel
  have hf7 := hts (.fieldLink RX4 7 "FewLinesModel" "n" "I") (by decide +kernel)
  have hf42 := hts (.fieldLink RX4 42 "FewLinesModel" "lines" "I") (by decide +kernel)
  have hq := hz
  dsimp only [pX4_nodes] at hq
  have hl := lv_entry (([.ref (q 0), .int y1] : List Value)) (n := 2) (Nat.le_of_ble_eq_true rfl)
  rw [lg_entry_eq]
  generalize (lg_sl (([.ref (q 0), .int y1] : List Value)) ++ List.replicate (2 - (lg_sl (([.ref (q 0), .int y1] : List Value))).length) Slot.unset).toArray = ls at hl ⊢
  have hl : lv_has ls 2 [(0, .ref (q 0)), (1, .int y1)] := hl
  obtain ⟨H, hHe⟩ : ∃ H : Heap, H = s.heap := ⟨_, rfl⟩
  obtain ⟨locs, hLe⟩ : ∃ L : List Loc, L = [] := ⟨_, rfl⟩
  have hP : va_P (dC, dI) vwCl (wM cI cJ q  nn0 ln0 sa0 sb0 wg0 kt0 fr0 pt0 wl0 tn0 up0 lo0) H := by rw [hHe]; exact hP
  have hS : va_S A s.heap H locs := by rw [hHe, hLe]; exact va_S.rf
  show W p l e (headSpec wsX4_nodes ({ frames := 1, cells := 0, slots := 0, locals := 22 })).room s m ([.ref (q 0), .int y1] : List Value).toArray below meth c s.heap [] 0 0 (MQ below (va_Qi (fun (r : Int32) (u : Int32 × Int32) => pX4_nodes nn0 ln0 y1 = some (r, u)) (fun u t => fw_B (dC, dI) A (wM cI cJ q  u.1 u.2 sa0 sb0 wg0 kt0 fr0 pt0 wl0 tn0 up0 lo0) t) A) ([.ref (q 0), .int y1] : List Value).toArray s 0 0 A) (F0 m 0 ls [])
  rw [← hHe, ← hLe]
  refine lv_iload_n hx hb dX4_nodes_0 rfl (lv_at hl 1 rfl) ?_
  refine lv_iconst (v := (2 : Int32)) hx hb dX4_nodes_1 (by decide) ?_
  refine lv_bipush (v := (7 : Int32)) hx hb dX4_nodes_2 (by decide) ?_
  have hPc := hP.sub (ws' := (w0 cI cJ   )) [] rfl
  have hDc := hD.sub (ws' := (w0 cI cJ   )) [] (by decide) rfl
  refine fw_ci (wr := [((q 0), .inr (4, [.int nn0, .int ln0, .ref (q 1), .ref (q 2), .ref (q 3), .ref (q 4), .ref (q 5), .ref (q 6), .ref (q 7), .ref (q 8), .long up0, .long lo0])), ((q 1), .inl (cI, 12, .inl sa0)), ((q 2), .inl (cI, 12, .inl sb0)), ((q 3), .inl (cI, 12, .inl wg0)), ((q 4), .inl (cI, 12, .inl kt0)), ((q 5), .inl (cI, 12, .inl fr0)), ((q 6), .inl (cI, 7, .inl pt0)), ((q 7), .inl (cI, 49, .inl wl0)), ((q 8), .inl (cI, 49, .inl tn0))]) (w2 := fun u => (wM cI cJ q  nn0 ln0 sa0 sb0 wg0 kt0 fr0 pt0 wl0 tn0 up0 lo0)) [] [0, 1, 2, 3, 4, 5, 6, 7, 8] [0, 1, 2, 3, 4, 5, 6, 7, 8] (va_runS (As := [.int y1, .int (2 : Int32), .int (7 : Int32)]) (rest := []) ⟨hx, hb, hml, hown, hts⟩ (kX4_in l dC dI cI cJ  H.size   y1 (2 : Int32) (7 : Int32) (fw_be hq)) (va_cwS 3 hts gX4_nodes_X4_in rfl rfl rfl (by decide +kernel) ⟨Nat.le_of_ble_eq_true rfl, Nat.le_of_ble_eq_true rfl⟩) ⟨fw_blind, fun U hU hW => fw_pre hPc hK hDc hN hU hW⟩ rfl rfl hl.1 rfl (lv_room (Nat.le_of_ble_eq_true rfl)) dX4_nodes_4 ⟨Nat.zero_le _, Nat.zero_le _⟩) hP hD hS hA rfl rfl (by decide) (by decide) (by decide) (fun _ => rfl) (fun r_1 u H locs hw hP hD hS => ?_)
  obtain ⟨hw, n_3⟩ := hw
  have hq := fw_bs hw hq
  try dsimp only at hq
  refine lv_if_ne (tgt := 13) hx hb dX4_nodes_7 (by decide) (fun c_4 => ?_) (fun c_4 => ?_)
  · have hq := fw_if c_4 hq
    refine lv_aload_n hx hb dX4_nodes_13 rfl (lv_at hl 0 rfl) ?_
    refine lv_iload_n hx hb dX4_nodes_14 rfl (lv_at hl 1 rfl) ?_
    refine va_put (D := (dC, dI)) (ci := 4) (v := .int y1) (ty := .int) (C := RX4) (T := TX4) (N := 12) hx hb hts hinX4 tyX4 tyX4_ok nmX4 hown hK hP hD hS 0 rfl rfl 0 (by decide) hf7 (fun _ h9 => h9) rfl (by decide +kernel) rfl rfl (Nat.le_of_ble_eq_true rfl) dX4_nodes_15 (fun H locs hP hD hS => ?_)
    have hP : va_P (dC, dI) vwCl (wM cI cJ q  y1 ln0 sa0 sb0 wg0 kt0 fr0 pt0 wl0 tn0 up0 lo0) H := hP
    have hD : va_D A (wM cI cJ q  y1 ln0 sa0 sb0 wg0 kt0 fr0 pt0 wl0 tn0 up0 lo0) := hD
    refine lv_aload_n hx hb dX4_nodes_18 rfl (lv_at hl 0 rfl) ?_
    refine lv_iconst (v := (0 : Int32)) hx hb dX4_nodes_19 (by decide) ?_
    refine va_put (D := (dC, dI)) (ci := 4) (v := .int (0 : Int32)) (ty := .int) (C := RX4) (T := TX4) (N := 12) hx hb hts hinX4 tyX4 tyX4_ok nmX4 hown hK hP hD hS 0 rfl rfl 1 (by decide) hf42 (fun _ h9 => h9) rfl (by decide +kernel) rfl rfl (Nat.le_of_ble_eq_true rfl) dX4_nodes_20 (fun H locs hP hD hS => ?_)
    have hP : va_P (dC, dI) vwCl (wM cI cJ q  y1 (0 : Int32) sa0 sb0 wg0 kt0 fr0 pt0 wl0 tn0 up0 lo0) H := hP
    have hD : va_D A (wM cI cJ q  y1 (0 : Int32) sa0 sb0 wg0 kt0 fr0 pt0 wl0 tn0 up0 lo0) := hD
    refine lv_iconst (v := (1 : Int32)) hx hb dX4_nodes_23 (by decide) ?_
    exact W.iret (v := (1 : Int32)) hx hb hr (fun t ht hW => ⟨⟨(1 : Int32), (y1, (0 : Int32)), rfl, hz.trans hq.symm, by rw [ht]; exact hP, hD⟩, hS.F ht⟩) hS.2.2 dX4_nodes_24
  · have hq := fw_it c_4 hq
    refine lv_bipush (v := (-3 : Int32)) hx hb dX4_nodes_10 (by decide) ?_
    exact W.iret (v := (-3 : Int32)) hx hb hr (fun t ht hW => ⟨⟨(-3 : Int32), (nn0, ln0), rfl, hz.trans hq.symm, by rw [ht]; exact hP, hD⟩, hS.F ht⟩) hS.2.2 dX4_nodes_12
set_option maxHeartbeats 4000000 in
set_option maxRecDepth 100000 in
theorem kX4_line (l : Launch) (dC : Nat → ClassId) (dI : Nat → Nat → Nat) (cI cJ : ClassId) (q : Nat → Nat) (sz : Nat)  (nn0 : Int32) (ln0 : Int32) (sa0 : Nat → Int32) (sb0 : Nat → Int32) (wg0 : Nat → Int32) (kt0 : Nat → Int32) (fr0 : Nat → Int32) (pt0 : Nat → Int32) (wl0 : Nat → Int32) (tn0 : Nat → Int32) (up0 : Int64) (lo0 : Int64) (y1 : Int32) (y2 : Int32) (y3 : Int32) (hd : ∃ z, pX4_line nn0 ln0 sa0 sb0 wg0 kt0 y1 y2 y3 = some z) : Met l yX4_line wsX4_line ({ frames := 2, cells := 0, slots := 0, locals := 43 }) (fw_Pc (dC, dI) (fw_tys cI cJ) (wM cI cJ q  nn0 ln0 sa0 sb0 wg0 kt0 fr0 pt0 wl0 tn0 up0 lo0) ([.ref (q 0), .int y1, .int y2, .int y3] : List Value) sz) (va_Qi (fun (r : Int32) (u : Int32 × (Nat → Int32) × (Nat → Int32) × (Nat → Int32) × (Nat → Int32)) => pX4_line nn0 ln0 sa0 sb0 wg0 kt0 y1 y2 y3 = some (r, u)) (fun u t => fw_B (dC, dI) (va_A (wM cI cJ q  nn0 ln0 sa0 sb0 wg0 kt0 fr0 pt0 wl0 tn0 up0 lo0) sz) (wM cI cJ q  nn0 u.1 u.2.1 u.2.2.1 u.2.2.2.1 u.2.2.2.2 fr0 pt0 wl0 tn0 up0 lo0) t) (va_A (wM cI cJ q  nn0 ln0 sa0 sb0 wg0 kt0 fr0 pt0 wl0 tn0 up0 lo0) sz)) 0 0 (va_A (wM cI cJ q  nn0 ln0 sa0 sb0 wg0 kt0 fr0 pt0 wl0 tn0 up0 lo0) sz) := by
  obtain ⟨z, hz⟩ := hd
  refine Met.ofW (cc := cX4_line) (maxL := 4) (ret := (some .int)) (by decide) rfl ?_
  intro p e s m args below meth c s₁ B hml hv
  obtain ⟨rfl, hsz, hP, hK, hD0, hN⟩ := hv
  have hx := B.exec
  have hb := B.bytes
  have hr := B.returns
  have hts := atoms_spec (ws := wsX4_line) B.pre
  have hown : s.vm.findClass RX4 = some m.cls := findClass_of_methodNamed B.named
  have hlocks := B.notSynchronized
  subst hsz
  have hD := hD0.self (sz := s.heap.size)
  generalize hAe : va_A (wM cI cJ q  nn0 ln0 sa0 sb0 wg0 kt0 fr0 pt0 wl0 tn0 up0 lo0) s.heap.size = A at hD ⊢
  have hA : ∀ q : Nat, s.heap.size ≤ q → A q := fun q h => by rw [← hAe]; exact Or.inr h
  have hinX4 : ∀ w ∈ u_ws RX4 TX4 12, w ∈ wsX4_line := by decide +kernel
  have hf13 := hts (.fieldLink RX4 13 "FewLinesModel" "as" "[I") (by decide +kernel)
  have hf17 := hts (.fieldLink RX4 17 "FewLinesModel" "bs" "[I") (by decide +kernel)
  have hf20 := hts (.fieldLink RX4 20 "FewLinesModel" "weight" "[I") (by decide +kernel)
  have hf23 := hts (.fieldLink RX4 23 "FewLinesModel" "kept" "[I") (by decide +kernel)
  have hf42 := hts (.fieldLink RX4 42 "FewLinesModel" "lines" "I") (by decide +kernel)
  have hq := hz
  dsimp only [pX4_line] at hq
  have hl := lv_entry (([.ref (q 0), .int y1, .int y2, .int y3] : List Value)) (n := 4) (Nat.le_of_ble_eq_true rfl)
  rw [lg_entry_eq]
  generalize (lg_sl (([.ref (q 0), .int y1, .int y2, .int y3] : List Value)) ++ List.replicate (4 - (lg_sl (([.ref (q 0), .int y1, .int y2, .int y3] : List Value))).length) Slot.unset).toArray = ls at hl ⊢
  have hl : lv_has ls 4 [(0, .ref (q 0)), (1, .int y1), (2, .int y2), (3, .int y3)] := hl
  obtain ⟨H, hHe⟩ : ∃ H : Heap, H = s.heap := ⟨_, rfl⟩
  obtain ⟨locs, hLe⟩ : ∃ L : List Loc, L = [] := ⟨_, rfl⟩
  have hP : va_P (dC, dI) vwCl (wM cI cJ q  nn0 ln0 sa0 sb0 wg0 kt0 fr0 pt0 wl0 tn0 up0 lo0) H := by rw [hHe]; exact hP
  have hS : va_S A s.heap H locs := by rw [hHe, hLe]; exact va_S.rf
  show W p l e (headSpec wsX4_line ({ frames := 2, cells := 0, slots := 0, locals := 43 })).room s m ([.ref (q 0), .int y1, .int y2, .int y3] : List Value).toArray below meth c s.heap [] 0 0 (MQ below (va_Qi (fun (r : Int32) (u : Int32 × (Nat → Int32) × (Nat → Int32) × (Nat → Int32) × (Nat → Int32)) => pX4_line nn0 ln0 sa0 sb0 wg0 kt0 y1 y2 y3 = some (r, u)) (fun u t => fw_B (dC, dI) A (wM cI cJ q  nn0 u.1 u.2.1 u.2.2.1 u.2.2.2.1 u.2.2.2.2 fr0 pt0 wl0 tn0 up0 lo0) t) A) ([.ref (q 0), .int y1, .int y2, .int y3] : List Value).toArray s 0 0 A) (F0 m 0 ls [])
  rw [← hHe, ← hLe]
  refine lv_aload_n hx hb dX4_line_0 rfl (lv_at hl 0 rfl) ?_
  refine lv_iload_n hx hb dX4_line_1 rfl (lv_at hl 1 rfl) ?_
  have hPc := hP.sub (ws' := (wM cI cJ q  nn0 ln0 sa0 sb0 wg0 kt0 fr0 pt0 wl0 tn0 up0 lo0)) [0, 1, 2, 3, 4, 5, 6, 7, 8] rfl
  have hDc := hD.sub (ws' := (wM cI cJ q  nn0 ln0 sa0 sb0 wg0 kt0 fr0 pt0 wl0 tn0 up0 lo0)) [0, 1, 2, 3, 4, 5, 6, 7, 8] (by decide) rfl
  refine fw_ci (wr := []) (w2 := fun u => (wM cI cJ q  nn0 ln0 sa0 sb0 wg0 kt0 fr0 pt0 wl0 tn0 up0 lo0)) [0, 1, 2, 3, 4, 5, 6, 7, 8] [] [0, 1, 2, 3, 4, 5, 6, 7, 8] (va_runV (b := (q 0)) (As := [.int y1]) (rest := []) ⟨hx, hb, hml, hown, hts⟩ (kX4_isNode l dC dI cI cJ q H.size  nn0 ln0 sa0 sb0 wg0 kt0 fr0 pt0 wl0 tn0 up0 lo0 y1 (fw_be hq)) (cwV 1 hts gX4_line_X4_isNode rfl rfl rfl (by decide +kernel) ⟨Nat.le_of_ble_eq_true rfl, Nat.le_of_ble_eq_true rfl⟩) ⟨fw_blind, va_recv hK hPc (ci := 4) (q0 := 0) rfl rfl, fun U hU hW => fw_pre hPc hK hDc hN hU hW⟩ rfl rfl hl.1 rfl (lv_room (Nat.le_of_ble_eq_true rfl)) dX4_line_2 ⟨Nat.zero_le _, Nat.zero_le _⟩) hP hD hS hA rfl rfl (by decide) (by decide) (by decide) (fun _ => rfl) (fun r_1 u H locs hw hP hD hS => ?_)
  obtain ⟨hw, n_3⟩ := hw
  have hq := fw_bs hw hq
  try dsimp only at hq
  refine lv_if_eq (tgt := 16) hx hb dX4_line_5 (by decide) (fun c_4 => ?_) (fun c_4 => ?_)
  · have hq := fw_it c_4 hq
    refine lv_bipush (v := (-2 : Int32)) hx hb dX4_line_16 (by decide) ?_
    exact W.iret (v := (-2 : Int32)) hx hb hr (fun t ht hW => ⟨⟨(-2 : Int32), (ln0, sa0, sb0, wg0, kt0), rfl, hz.trans hq.symm, by rw [ht]; exact hP, hD⟩, hS.F ht⟩) hS.2.2 dX4_line_18
  · have hq := fw_if c_4 hq
    refine lv_aload_n hx hb dX4_line_8 rfl (lv_at hl 0 rfl) ?_
    refine lv_iload_n hx hb dX4_line_9 rfl (lv_at hl 2 rfl) ?_
    have hPc := hP.sub (ws' := (wM cI cJ q  nn0 ln0 sa0 sb0 wg0 kt0 fr0 pt0 wl0 tn0 up0 lo0)) [0, 1, 2, 3, 4, 5, 6, 7, 8] rfl
    have hDc := hD.sub (ws' := (wM cI cJ q  nn0 ln0 sa0 sb0 wg0 kt0 fr0 pt0 wl0 tn0 up0 lo0)) [0, 1, 2, 3, 4, 5, 6, 7, 8] (by decide) rfl
    refine fw_ci (wr := []) (w2 := fun u => (wM cI cJ q  nn0 ln0 sa0 sb0 wg0 kt0 fr0 pt0 wl0 tn0 up0 lo0)) [0, 1, 2, 3, 4, 5, 6, 7, 8] [] [0, 1, 2, 3, 4, 5, 6, 7, 8] (va_runV (b := (q 0)) (As := [.int y2]) (rest := []) ⟨hx, hb, hml, hown, hts⟩ (kX4_isNode l dC dI cI cJ q H.size  nn0 ln0 sa0 sb0 wg0 kt0 fr0 pt0 wl0 tn0 up0 lo0 y2 (fw_be hq)) (cwV 1 hts gX4_line_X4_isNode rfl rfl rfl (by decide +kernel) ⟨Nat.le_of_ble_eq_true rfl, Nat.le_of_ble_eq_true rfl⟩) ⟨fw_blind, va_recv hK hPc (ci := 4) (q0 := 0) rfl rfl, fun U hU hW => fw_pre hPc hK hDc hN hU hW⟩ rfl rfl hl.1 rfl (lv_room (Nat.le_of_ble_eq_true rfl)) dX4_line_10 ⟨Nat.zero_le _, Nat.zero_le _⟩) hP hD hS hA rfl rfl (by decide) (by decide) (by decide) (fun _ => rfl) (fun r_5 u H locs hw hP hD hS => ?_)
    obtain ⟨hw, n_7⟩ := hw
    have hq := fw_bs hw hq
    try dsimp only at hq
    refine lv_if_ne (tgt := 19) hx hb dX4_line_13 (by decide) (fun c_8 => ?_) (fun c_8 => ?_)
    · have hq := fw_if c_8 hq
      refine lv_iload_n hx hb dX4_line_19 rfl (lv_at hl 1 rfl) ?_
      refine lv_iload_n hx hb dX4_line_20 rfl (lv_at hl 2 rfl) ?_
      refine lv_icmp_eq (tgt := 34) hx hb dX4_line_21 (by decide) (fun c_9 => ?_) (fun c_9 => ?_)
      · have hq := fw_it c_9 hq
        refine lv_bipush (v := (-3 : Int32)) hx hb dX4_line_34 (by decide) ?_
        exact W.iret (v := (-3 : Int32)) hx hb hr (fun t ht hW => ⟨⟨(-3 : Int32), (ln0, sa0, sb0, wg0, kt0), rfl, hz.trans hq.symm, by rw [ht]; exact hP, hD⟩, hS.F ht⟩) hS.2.2 dX4_line_36
      · have hq := fw_if c_9 hq
        refine lv_iload_n hx hb dX4_line_24 rfl (lv_at hl 3 rfl) ?_
        refine lv_iconst (v := (1 : Int32)) hx hb dX4_line_25 (by decide) ?_
        refine lv_bipush (v := (9 : Int32)) hx hb dX4_line_26 (by decide) ?_
        have hPc := hP.sub (ws' := (w0 cI cJ   )) [] rfl
        have hDc := hD.sub (ws' := (w0 cI cJ   )) [] (by decide) rfl
        refine fw_ci (wr := [((q 0), .inr (4, [.int nn0, .int ln0, .ref (q 1), .ref (q 2), .ref (q 3), .ref (q 4), .ref (q 5), .ref (q 6), .ref (q 7), .ref (q 8), .long up0, .long lo0])), ((q 1), .inl (cI, 12, .inl sa0)), ((q 2), .inl (cI, 12, .inl sb0)), ((q 3), .inl (cI, 12, .inl wg0)), ((q 4), .inl (cI, 12, .inl kt0)), ((q 5), .inl (cI, 12, .inl fr0)), ((q 6), .inl (cI, 7, .inl pt0)), ((q 7), .inl (cI, 49, .inl wl0)), ((q 8), .inl (cI, 49, .inl tn0))]) (w2 := fun u => (wM cI cJ q  nn0 ln0 sa0 sb0 wg0 kt0 fr0 pt0 wl0 tn0 up0 lo0)) [] [0, 1, 2, 3, 4, 5, 6, 7, 8] [0, 1, 2, 3, 4, 5, 6, 7, 8] (va_runS (As := [.int y3, .int (1 : Int32), .int (9 : Int32)]) (rest := []) ⟨hx, hb, hml, hown, hts⟩ (kX4_in l dC dI cI cJ  H.size   y3 (1 : Int32) (9 : Int32) (fw_be hq)) (va_cwS 3 hts gX4_line_X4_in rfl rfl rfl (by decide +kernel) ⟨Nat.le_of_ble_eq_true rfl, Nat.le_of_ble_eq_true rfl⟩) ⟨fw_blind, fun U hU hW => fw_pre hPc hK hDc hN hU hW⟩ rfl rfl hl.1 rfl (lv_room (Nat.le_of_ble_eq_true rfl)) dX4_line_28 ⟨Nat.zero_le _, Nat.zero_le _⟩) hP hD hS hA rfl rfl (by decide) (by decide) (by decide) (fun _ => rfl) (fun r_10 u H locs hw hP hD hS => ?_)
        obtain ⟨hw, n_12⟩ := hw
        have hq := fw_bs hw hq
        try dsimp only at hq
        refine lv_if_ne (tgt := 37) hx hb dX4_line_31 (by decide) (fun c_13 => ?_) (fun c_13 => ?_)
        · have hq := fw_if c_13 hq
          refine lv_aload_n hx hb dX4_line_37 rfl (lv_at hl 0 rfl) ?_
          refine va_get (D := (dC, dI)) (ci := 4) (v := .int ln0) (C := RX4) (T := TX4) (N := 12) hx hb hts hinX4 hown hK hP 0 rfl rfl 1 (by decide) hf42 (fun _ h9 => h9) rfl dX4_line_38 ?_
          refine lv_bipush (v := (12 : Int32)) hx hb dX4_line_41 (by decide) ?_
          refine lv_icmp_ne (tgt := 49) hx hb dX4_line_43 (by decide) (fun c_14 => ?_) (fun c_14 => ?_)
          · have hq := fw_if c_14 hq
            refine lv_aload_n hx hb dX4_line_49 rfl (lv_at hl 0 rfl) ?_
            refine va_get (D := (dC, dI)) (ci := 4) (v := .ref (q 1)) (C := RX4) (T := TX4) (N := 12) hx hb hts hinX4 hown hK hP 0 rfl rfl 2 (by decide) hf13 (fun _ h9 => h9) rfl dX4_line_50 ?_
            refine lv_aload_n hx hb dX4_line_53 rfl (lv_at hl 0 rfl) ?_
            refine va_get (D := (dC, dI)) (ci := 4) (v := .int ln0) (C := RX4) (T := TX4) (N := 12) hx hb hts hinX4 hown hK hP 0 rfl rfl 1 (by decide) hf42 (fun _ h9 => h9) rfl dX4_line_54 ?_
            refine lv_iload_n hx hb dX4_line_57 rfl (lv_at hl 1 rfl) ?_
            refine lv_iload_n hx hb dX4_line_58 rfl (lv_at hl 2 rfl) ?_
            refine lv_icmp_ge (tgt := 66) hx hb dX4_line_59 (by decide) (fun c_15 => ?_) (fun c_15 => ?_)
            · have hq := fw_it c_15 hq
              refine lv_iload_n hx hb dX4_line_66 rfl (lv_at hl 2 rfl) ?_
              obtain ⟨h_16, hq⟩ := fw_ck_s hq
              refine va_iast hx hb hK hP hD hS 1 0 rfl rfl h_16 dX4_line_67 (fun H locs hP hD hS => ?_)
              have hP : va_P (dC, dI) vwCl (wM cI cJ q  nn0 ln0 (upd sa0 (ln0).toNatClampNeg y2) sb0 wg0 kt0 fr0 pt0 wl0 tn0 up0 lo0) H := hP
              have hD : va_D A (wM cI cJ q  nn0 ln0 (upd sa0 (ln0).toNatClampNeg y2) sb0 wg0 kt0 fr0 pt0 wl0 tn0 up0 lo0) := hD
              refine lv_aload_n hx hb dX4_line_68 rfl (lv_at hl 0 rfl) ?_
              refine va_get (D := (dC, dI)) (ci := 4) (v := .ref (q 2)) (C := RX4) (T := TX4) (N := 12) hx hb hts hinX4 hown hK hP 0 rfl rfl 3 (by decide) hf17 (fun _ h9 => h9) rfl dX4_line_69 ?_
              refine lv_aload_n hx hb dX4_line_72 rfl (lv_at hl 0 rfl) ?_
              refine va_get (D := (dC, dI)) (ci := 4) (v := .int ln0) (C := RX4) (T := TX4) (N := 12) hx hb hts hinX4 hown hK hP 0 rfl rfl 1 (by decide) hf42 (fun _ h9 => h9) rfl dX4_line_73 ?_
              refine lv_iload_n hx hb dX4_line_76 rfl (lv_at hl 1 rfl) ?_
              refine lv_iload_n hx hb dX4_line_77 rfl (lv_at hl 2 rfl) ?_
              refine lv_icmp_ge (tgt := 85) hx hb dX4_line_78 (by decide) (fun c_17 => ?_) (fun c_17 => ?_)
              · have hq := fw_it c_17 hq
                refine lv_iload_n hx hb dX4_line_85 rfl (lv_at hl 1 rfl) ?_
                obtain ⟨h_18, hq⟩ := fw_ck_s hq
                refine va_iast hx hb hK hP hD hS 2 0 rfl rfl h_18 dX4_line_86 (fun H locs hP hD hS => ?_)
                have hP : va_P (dC, dI) vwCl (wM cI cJ q  nn0 ln0 (upd sa0 (ln0).toNatClampNeg y2) (upd sb0 (ln0).toNatClampNeg y1) wg0 kt0 fr0 pt0 wl0 tn0 up0 lo0) H := hP
                have hD : va_D A (wM cI cJ q  nn0 ln0 (upd sa0 (ln0).toNatClampNeg y2) (upd sb0 (ln0).toNatClampNeg y1) wg0 kt0 fr0 pt0 wl0 tn0 up0 lo0) := hD
                refine lv_aload_n hx hb dX4_line_87 rfl (lv_at hl 0 rfl) ?_
                refine va_get (D := (dC, dI)) (ci := 4) (v := .ref (q 3)) (C := RX4) (T := TX4) (N := 12) hx hb hts hinX4 hown hK hP 0 rfl rfl 4 (by decide) hf20 (fun _ h9 => h9) rfl dX4_line_88 ?_
                refine lv_aload_n hx hb dX4_line_91 rfl (lv_at hl 0 rfl) ?_
                refine va_get (D := (dC, dI)) (ci := 4) (v := .int ln0) (C := RX4) (T := TX4) (N := 12) hx hb hts hinX4 hown hK hP 0 rfl rfl 1 (by decide) hf42 (fun _ h9 => h9) rfl dX4_line_92 ?_
                refine lv_iload_n hx hb dX4_line_95 rfl (lv_at hl 3 rfl) ?_
                obtain ⟨h_19, hq⟩ := fw_ck_s hq
                refine va_iast hx hb hK hP hD hS 3 0 rfl rfl h_19 dX4_line_96 (fun H locs hP hD hS => ?_)
                have hP : va_P (dC, dI) vwCl (wM cI cJ q  nn0 ln0 (upd sa0 (ln0).toNatClampNeg y2) (upd sb0 (ln0).toNatClampNeg y1) (upd wg0 (ln0).toNatClampNeg y3) kt0 fr0 pt0 wl0 tn0 up0 lo0) H := hP
                have hD : va_D A (wM cI cJ q  nn0 ln0 (upd sa0 (ln0).toNatClampNeg y2) (upd sb0 (ln0).toNatClampNeg y1) (upd wg0 (ln0).toNatClampNeg y3) kt0 fr0 pt0 wl0 tn0 up0 lo0) := hD
                refine lv_aload_n hx hb dX4_line_97 rfl (lv_at hl 0 rfl) ?_
                refine va_get (D := (dC, dI)) (ci := 4) (v := .ref (q 4)) (C := RX4) (T := TX4) (N := 12) hx hb hts hinX4 hown hK hP 0 rfl rfl 5 (by decide) hf23 (fun _ h9 => h9) rfl dX4_line_98 ?_
                refine lv_aload_n hx hb dX4_line_101 rfl (lv_at hl 0 rfl) ?_
                refine va_get (D := (dC, dI)) (ci := 4) (v := .int ln0) (C := RX4) (T := TX4) (N := 12) hx hb hts hinX4 hown hK hP 0 rfl rfl 1 (by decide) hf42 (fun _ h9 => h9) rfl dX4_line_102 ?_
                refine lv_iload_n hx hb dX4_line_105 rfl (lv_at hl 3 rfl) ?_
                obtain ⟨h_20, hq⟩ := fw_ck_s hq
                refine va_iast hx hb hK hP hD hS 4 0 rfl rfl h_20 dX4_line_106 (fun H locs hP hD hS => ?_)
                have hP : va_P (dC, dI) vwCl (wM cI cJ q  nn0 ln0 (upd sa0 (ln0).toNatClampNeg y2) (upd sb0 (ln0).toNatClampNeg y1) (upd wg0 (ln0).toNatClampNeg y3) (upd kt0 (ln0).toNatClampNeg y3) fr0 pt0 wl0 tn0 up0 lo0) H := hP
                have hD : va_D A (wM cI cJ q  nn0 ln0 (upd sa0 (ln0).toNatClampNeg y2) (upd sb0 (ln0).toNatClampNeg y1) (upd wg0 (ln0).toNatClampNeg y3) (upd kt0 (ln0).toNatClampNeg y3) fr0 pt0 wl0 tn0 up0 lo0) := hD
                refine lv_aload_n hx hb dX4_line_107 rfl (lv_at hl 0 rfl) ?_
                refine lv_dup hx hb dX4_line_108 rfl ?_
                refine va_get (D := (dC, dI)) (ci := 4) (v := .int ln0) (C := RX4) (T := TX4) (N := 12) hx hb hts hinX4 hown hK hP 0 rfl rfl 1 (by decide) hf42 (fun _ h9 => h9) rfl dX4_line_109 ?_
                refine lv_iconst (v := (1 : Int32)) hx hb dX4_line_112 (by decide) ?_
                refine lv_iadd hx hb dX4_line_113 ?_
                refine va_put (D := (dC, dI)) (ci := 4) (v := .int (ln0 + (1 : Int32))) (ty := .int) (C := RX4) (T := TX4) (N := 12) hx hb hts hinX4 tyX4 tyX4_ok nmX4 hown hK hP hD hS 0 rfl rfl 1 (by decide) hf42 (fun _ h9 => h9) rfl (by decide +kernel) rfl rfl (Nat.le_of_ble_eq_true rfl) dX4_line_114 (fun H locs hP hD hS => ?_)
                have hP : va_P (dC, dI) vwCl (wM cI cJ q  nn0 (ln0 + (1 : Int32)) (upd sa0 (ln0).toNatClampNeg y2) (upd sb0 (ln0).toNatClampNeg y1) (upd wg0 (ln0).toNatClampNeg y3) (upd kt0 (ln0).toNatClampNeg y3) fr0 pt0 wl0 tn0 up0 lo0) H := hP
                have hD : va_D A (wM cI cJ q  nn0 (ln0 + (1 : Int32)) (upd sa0 (ln0).toNatClampNeg y2) (upd sb0 (ln0).toNatClampNeg y1) (upd wg0 (ln0).toNatClampNeg y3) (upd kt0 (ln0).toNatClampNeg y3) fr0 pt0 wl0 tn0 up0 lo0) := hD
                refine lv_aload_n hx hb dX4_line_117 rfl (lv_at hl 0 rfl) ?_
                refine va_get (D := (dC, dI)) (ci := 4) (v := .int (ln0 + (1 : Int32))) (C := RX4) (T := TX4) (N := 12) hx hb hts hinX4 hown hK hP 0 rfl rfl 1 (by decide) hf42 (fun _ h9 => h9) rfl dX4_line_118 ?_
                refine lv_iconst (v := (1 : Int32)) hx hb dX4_line_121 (by decide) ?_
                refine lv_isub hx hb dX4_line_122 ?_
                exact W.iret (v := ((ln0 + (1 : Int32)) - (1 : Int32))) hx hb hr (fun t ht hW => ⟨⟨((ln0 + (1 : Int32)) - (1 : Int32)), ((ln0 + (1 : Int32)), (upd sa0 (ln0).toNatClampNeg y2), (upd sb0 (ln0).toNatClampNeg y1), (upd wg0 (ln0).toNatClampNeg y3), (upd kt0 (ln0).toNatClampNeg y3)), rfl, hz.trans hq.symm, by rw [ht]; exact hP, hD⟩, hS.F ht⟩) hS.2.2 dX4_line_123
              · have hq := fw_if c_17 hq
                refine lv_iload_n hx hb dX4_line_81 rfl (lv_at hl 2 rfl) ?_
                refine lv_goto (tgt := 86) hx hb dX4_line_82 (by decide) ?_
                obtain ⟨h_21, hq⟩ := fw_ck_s hq
                refine va_iast hx hb hK hP hD hS 2 0 rfl rfl h_21 dX4_line_86 (fun H locs hP hD hS => ?_)
                have hP : va_P (dC, dI) vwCl (wM cI cJ q  nn0 ln0 (upd sa0 (ln0).toNatClampNeg y2) (upd sb0 (ln0).toNatClampNeg y2) wg0 kt0 fr0 pt0 wl0 tn0 up0 lo0) H := hP
                have hD : va_D A (wM cI cJ q  nn0 ln0 (upd sa0 (ln0).toNatClampNeg y2) (upd sb0 (ln0).toNatClampNeg y2) wg0 kt0 fr0 pt0 wl0 tn0 up0 lo0) := hD
                refine lv_aload_n hx hb dX4_line_87 rfl (lv_at hl 0 rfl) ?_
                refine va_get (D := (dC, dI)) (ci := 4) (v := .ref (q 3)) (C := RX4) (T := TX4) (N := 12) hx hb hts hinX4 hown hK hP 0 rfl rfl 4 (by decide) hf20 (fun _ h9 => h9) rfl dX4_line_88 ?_
                refine lv_aload_n hx hb dX4_line_91 rfl (lv_at hl 0 rfl) ?_
                refine va_get (D := (dC, dI)) (ci := 4) (v := .int ln0) (C := RX4) (T := TX4) (N := 12) hx hb hts hinX4 hown hK hP 0 rfl rfl 1 (by decide) hf42 (fun _ h9 => h9) rfl dX4_line_92 ?_
                refine lv_iload_n hx hb dX4_line_95 rfl (lv_at hl 3 rfl) ?_
                obtain ⟨h_22, hq⟩ := fw_ck_s hq
                refine va_iast hx hb hK hP hD hS 3 0 rfl rfl h_22 dX4_line_96 (fun H locs hP hD hS => ?_)
                have hP : va_P (dC, dI) vwCl (wM cI cJ q  nn0 ln0 (upd sa0 (ln0).toNatClampNeg y2) (upd sb0 (ln0).toNatClampNeg y2) (upd wg0 (ln0).toNatClampNeg y3) kt0 fr0 pt0 wl0 tn0 up0 lo0) H := hP
                have hD : va_D A (wM cI cJ q  nn0 ln0 (upd sa0 (ln0).toNatClampNeg y2) (upd sb0 (ln0).toNatClampNeg y2) (upd wg0 (ln0).toNatClampNeg y3) kt0 fr0 pt0 wl0 tn0 up0 lo0) := hD
                refine lv_aload_n hx hb dX4_line_97 rfl (lv_at hl 0 rfl) ?_
                refine va_get (D := (dC, dI)) (ci := 4) (v := .ref (q 4)) (C := RX4) (T := TX4) (N := 12) hx hb hts hinX4 hown hK hP 0 rfl rfl 5 (by decide) hf23 (fun _ h9 => h9) rfl dX4_line_98 ?_
                refine lv_aload_n hx hb dX4_line_101 rfl (lv_at hl 0 rfl) ?_
                refine va_get (D := (dC, dI)) (ci := 4) (v := .int ln0) (C := RX4) (T := TX4) (N := 12) hx hb hts hinX4 hown hK hP 0 rfl rfl 1 (by decide) hf42 (fun _ h9 => h9) rfl dX4_line_102 ?_
                refine lv_iload_n hx hb dX4_line_105 rfl (lv_at hl 3 rfl) ?_
                obtain ⟨h_23, hq⟩ := fw_ck_s hq
                refine va_iast hx hb hK hP hD hS 4 0 rfl rfl h_23 dX4_line_106 (fun H locs hP hD hS => ?_)
                have hP : va_P (dC, dI) vwCl (wM cI cJ q  nn0 ln0 (upd sa0 (ln0).toNatClampNeg y2) (upd sb0 (ln0).toNatClampNeg y2) (upd wg0 (ln0).toNatClampNeg y3) (upd kt0 (ln0).toNatClampNeg y3) fr0 pt0 wl0 tn0 up0 lo0) H := hP
                have hD : va_D A (wM cI cJ q  nn0 ln0 (upd sa0 (ln0).toNatClampNeg y2) (upd sb0 (ln0).toNatClampNeg y2) (upd wg0 (ln0).toNatClampNeg y3) (upd kt0 (ln0).toNatClampNeg y3) fr0 pt0 wl0 tn0 up0 lo0) := hD
                refine lv_aload_n hx hb dX4_line_107 rfl (lv_at hl 0 rfl) ?_
                refine lv_dup hx hb dX4_line_108 rfl ?_
                refine va_get (D := (dC, dI)) (ci := 4) (v := .int ln0) (C := RX4) (T := TX4) (N := 12) hx hb hts hinX4 hown hK hP 0 rfl rfl 1 (by decide) hf42 (fun _ h9 => h9) rfl dX4_line_109 ?_
                refine lv_iconst (v := (1 : Int32)) hx hb dX4_line_112 (by decide) ?_
                refine lv_iadd hx hb dX4_line_113 ?_
                refine va_put (D := (dC, dI)) (ci := 4) (v := .int (ln0 + (1 : Int32))) (ty := .int) (C := RX4) (T := TX4) (N := 12) hx hb hts hinX4 tyX4 tyX4_ok nmX4 hown hK hP hD hS 0 rfl rfl 1 (by decide) hf42 (fun _ h9 => h9) rfl (by decide +kernel) rfl rfl (Nat.le_of_ble_eq_true rfl) dX4_line_114 (fun H locs hP hD hS => ?_)
                have hP : va_P (dC, dI) vwCl (wM cI cJ q  nn0 (ln0 + (1 : Int32)) (upd sa0 (ln0).toNatClampNeg y2) (upd sb0 (ln0).toNatClampNeg y2) (upd wg0 (ln0).toNatClampNeg y3) (upd kt0 (ln0).toNatClampNeg y3) fr0 pt0 wl0 tn0 up0 lo0) H := hP
                have hD : va_D A (wM cI cJ q  nn0 (ln0 + (1 : Int32)) (upd sa0 (ln0).toNatClampNeg y2) (upd sb0 (ln0).toNatClampNeg y2) (upd wg0 (ln0).toNatClampNeg y3) (upd kt0 (ln0).toNatClampNeg y3) fr0 pt0 wl0 tn0 up0 lo0) := hD
                refine lv_aload_n hx hb dX4_line_117 rfl (lv_at hl 0 rfl) ?_
                refine va_get (D := (dC, dI)) (ci := 4) (v := .int (ln0 + (1 : Int32))) (C := RX4) (T := TX4) (N := 12) hx hb hts hinX4 hown hK hP 0 rfl rfl 1 (by decide) hf42 (fun _ h9 => h9) rfl dX4_line_118 ?_
                refine lv_iconst (v := (1 : Int32)) hx hb dX4_line_121 (by decide) ?_
                refine lv_isub hx hb dX4_line_122 ?_
                exact W.iret (v := ((ln0 + (1 : Int32)) - (1 : Int32))) hx hb hr (fun t ht hW => ⟨⟨((ln0 + (1 : Int32)) - (1 : Int32)), ((ln0 + (1 : Int32)), (upd sa0 (ln0).toNatClampNeg y2), (upd sb0 (ln0).toNatClampNeg y2), (upd wg0 (ln0).toNatClampNeg y3), (upd kt0 (ln0).toNatClampNeg y3)), rfl, hz.trans hq.symm, by rw [ht]; exact hP, hD⟩, hS.F ht⟩) hS.2.2 dX4_line_123
            · have hq := fw_if c_15 hq
              refine lv_iload_n hx hb dX4_line_62 rfl (lv_at hl 1 rfl) ?_
              refine lv_goto (tgt := 67) hx hb dX4_line_63 (by decide) ?_
              obtain ⟨h_24, hq⟩ := fw_ck_s hq
              refine va_iast hx hb hK hP hD hS 1 0 rfl rfl h_24 dX4_line_67 (fun H locs hP hD hS => ?_)
              have hP : va_P (dC, dI) vwCl (wM cI cJ q  nn0 ln0 (upd sa0 (ln0).toNatClampNeg y1) sb0 wg0 kt0 fr0 pt0 wl0 tn0 up0 lo0) H := hP
              have hD : va_D A (wM cI cJ q  nn0 ln0 (upd sa0 (ln0).toNatClampNeg y1) sb0 wg0 kt0 fr0 pt0 wl0 tn0 up0 lo0) := hD
              refine lv_aload_n hx hb dX4_line_68 rfl (lv_at hl 0 rfl) ?_
              refine va_get (D := (dC, dI)) (ci := 4) (v := .ref (q 2)) (C := RX4) (T := TX4) (N := 12) hx hb hts hinX4 hown hK hP 0 rfl rfl 3 (by decide) hf17 (fun _ h9 => h9) rfl dX4_line_69 ?_
              refine lv_aload_n hx hb dX4_line_72 rfl (lv_at hl 0 rfl) ?_
              refine va_get (D := (dC, dI)) (ci := 4) (v := .int ln0) (C := RX4) (T := TX4) (N := 12) hx hb hts hinX4 hown hK hP 0 rfl rfl 1 (by decide) hf42 (fun _ h9 => h9) rfl dX4_line_73 ?_
              refine lv_iload_n hx hb dX4_line_76 rfl (lv_at hl 1 rfl) ?_
              refine lv_iload_n hx hb dX4_line_77 rfl (lv_at hl 2 rfl) ?_
              refine lv_icmp_ge (tgt := 85) hx hb dX4_line_78 (by decide) (fun c_25 => ?_) (fun c_25 => ?_)
              · have hq := fw_it c_25 hq
                refine lv_iload_n hx hb dX4_line_85 rfl (lv_at hl 1 rfl) ?_
                obtain ⟨h_26, hq⟩ := fw_ck_s hq
                refine va_iast hx hb hK hP hD hS 2 0 rfl rfl h_26 dX4_line_86 (fun H locs hP hD hS => ?_)
                have hP : va_P (dC, dI) vwCl (wM cI cJ q  nn0 ln0 (upd sa0 (ln0).toNatClampNeg y1) (upd sb0 (ln0).toNatClampNeg y1) wg0 kt0 fr0 pt0 wl0 tn0 up0 lo0) H := hP
                have hD : va_D A (wM cI cJ q  nn0 ln0 (upd sa0 (ln0).toNatClampNeg y1) (upd sb0 (ln0).toNatClampNeg y1) wg0 kt0 fr0 pt0 wl0 tn0 up0 lo0) := hD
                refine lv_aload_n hx hb dX4_line_87 rfl (lv_at hl 0 rfl) ?_
                refine va_get (D := (dC, dI)) (ci := 4) (v := .ref (q 3)) (C := RX4) (T := TX4) (N := 12) hx hb hts hinX4 hown hK hP 0 rfl rfl 4 (by decide) hf20 (fun _ h9 => h9) rfl dX4_line_88 ?_
                refine lv_aload_n hx hb dX4_line_91 rfl (lv_at hl 0 rfl) ?_
                refine va_get (D := (dC, dI)) (ci := 4) (v := .int ln0) (C := RX4) (T := TX4) (N := 12) hx hb hts hinX4 hown hK hP 0 rfl rfl 1 (by decide) hf42 (fun _ h9 => h9) rfl dX4_line_92 ?_
                refine lv_iload_n hx hb dX4_line_95 rfl (lv_at hl 3 rfl) ?_
                obtain ⟨h_27, hq⟩ := fw_ck_s hq
                refine va_iast hx hb hK hP hD hS 3 0 rfl rfl h_27 dX4_line_96 (fun H locs hP hD hS => ?_)
                have hP : va_P (dC, dI) vwCl (wM cI cJ q  nn0 ln0 (upd sa0 (ln0).toNatClampNeg y1) (upd sb0 (ln0).toNatClampNeg y1) (upd wg0 (ln0).toNatClampNeg y3) kt0 fr0 pt0 wl0 tn0 up0 lo0) H := hP
                have hD : va_D A (wM cI cJ q  nn0 ln0 (upd sa0 (ln0).toNatClampNeg y1) (upd sb0 (ln0).toNatClampNeg y1) (upd wg0 (ln0).toNatClampNeg y3) kt0 fr0 pt0 wl0 tn0 up0 lo0) := hD
                refine lv_aload_n hx hb dX4_line_97 rfl (lv_at hl 0 rfl) ?_
                refine va_get (D := (dC, dI)) (ci := 4) (v := .ref (q 4)) (C := RX4) (T := TX4) (N := 12) hx hb hts hinX4 hown hK hP 0 rfl rfl 5 (by decide) hf23 (fun _ h9 => h9) rfl dX4_line_98 ?_
                refine lv_aload_n hx hb dX4_line_101 rfl (lv_at hl 0 rfl) ?_
                refine va_get (D := (dC, dI)) (ci := 4) (v := .int ln0) (C := RX4) (T := TX4) (N := 12) hx hb hts hinX4 hown hK hP 0 rfl rfl 1 (by decide) hf42 (fun _ h9 => h9) rfl dX4_line_102 ?_
                refine lv_iload_n hx hb dX4_line_105 rfl (lv_at hl 3 rfl) ?_
                obtain ⟨h_28, hq⟩ := fw_ck_s hq
                refine va_iast hx hb hK hP hD hS 4 0 rfl rfl h_28 dX4_line_106 (fun H locs hP hD hS => ?_)
                have hP : va_P (dC, dI) vwCl (wM cI cJ q  nn0 ln0 (upd sa0 (ln0).toNatClampNeg y1) (upd sb0 (ln0).toNatClampNeg y1) (upd wg0 (ln0).toNatClampNeg y3) (upd kt0 (ln0).toNatClampNeg y3) fr0 pt0 wl0 tn0 up0 lo0) H := hP
                have hD : va_D A (wM cI cJ q  nn0 ln0 (upd sa0 (ln0).toNatClampNeg y1) (upd sb0 (ln0).toNatClampNeg y1) (upd wg0 (ln0).toNatClampNeg y3) (upd kt0 (ln0).toNatClampNeg y3) fr0 pt0 wl0 tn0 up0 lo0) := hD
                refine lv_aload_n hx hb dX4_line_107 rfl (lv_at hl 0 rfl) ?_
                refine lv_dup hx hb dX4_line_108 rfl ?_
                refine va_get (D := (dC, dI)) (ci := 4) (v := .int ln0) (C := RX4) (T := TX4) (N := 12) hx hb hts hinX4 hown hK hP 0 rfl rfl 1 (by decide) hf42 (fun _ h9 => h9) rfl dX4_line_109 ?_
                refine lv_iconst (v := (1 : Int32)) hx hb dX4_line_112 (by decide) ?_
                refine lv_iadd hx hb dX4_line_113 ?_
                refine va_put (D := (dC, dI)) (ci := 4) (v := .int (ln0 + (1 : Int32))) (ty := .int) (C := RX4) (T := TX4) (N := 12) hx hb hts hinX4 tyX4 tyX4_ok nmX4 hown hK hP hD hS 0 rfl rfl 1 (by decide) hf42 (fun _ h9 => h9) rfl (by decide +kernel) rfl rfl (Nat.le_of_ble_eq_true rfl) dX4_line_114 (fun H locs hP hD hS => ?_)
                have hP : va_P (dC, dI) vwCl (wM cI cJ q  nn0 (ln0 + (1 : Int32)) (upd sa0 (ln0).toNatClampNeg y1) (upd sb0 (ln0).toNatClampNeg y1) (upd wg0 (ln0).toNatClampNeg y3) (upd kt0 (ln0).toNatClampNeg y3) fr0 pt0 wl0 tn0 up0 lo0) H := hP
                have hD : va_D A (wM cI cJ q  nn0 (ln0 + (1 : Int32)) (upd sa0 (ln0).toNatClampNeg y1) (upd sb0 (ln0).toNatClampNeg y1) (upd wg0 (ln0).toNatClampNeg y3) (upd kt0 (ln0).toNatClampNeg y3) fr0 pt0 wl0 tn0 up0 lo0) := hD
                refine lv_aload_n hx hb dX4_line_117 rfl (lv_at hl 0 rfl) ?_
                refine va_get (D := (dC, dI)) (ci := 4) (v := .int (ln0 + (1 : Int32))) (C := RX4) (T := TX4) (N := 12) hx hb hts hinX4 hown hK hP 0 rfl rfl 1 (by decide) hf42 (fun _ h9 => h9) rfl dX4_line_118 ?_
                refine lv_iconst (v := (1 : Int32)) hx hb dX4_line_121 (by decide) ?_
                refine lv_isub hx hb dX4_line_122 ?_
                exact W.iret (v := ((ln0 + (1 : Int32)) - (1 : Int32))) hx hb hr (fun t ht hW => ⟨⟨((ln0 + (1 : Int32)) - (1 : Int32)), ((ln0 + (1 : Int32)), (upd sa0 (ln0).toNatClampNeg y1), (upd sb0 (ln0).toNatClampNeg y1), (upd wg0 (ln0).toNatClampNeg y3), (upd kt0 (ln0).toNatClampNeg y3)), rfl, hz.trans hq.symm, by rw [ht]; exact hP, hD⟩, hS.F ht⟩) hS.2.2 dX4_line_123
              · have hq := fw_if c_25 hq
                refine lv_iload_n hx hb dX4_line_81 rfl (lv_at hl 2 rfl) ?_
                refine lv_goto (tgt := 86) hx hb dX4_line_82 (by decide) ?_
                obtain ⟨h_29, hq⟩ := fw_ck_s hq
                refine va_iast hx hb hK hP hD hS 2 0 rfl rfl h_29 dX4_line_86 (fun H locs hP hD hS => ?_)
                have hP : va_P (dC, dI) vwCl (wM cI cJ q  nn0 ln0 (upd sa0 (ln0).toNatClampNeg y1) (upd sb0 (ln0).toNatClampNeg y2) wg0 kt0 fr0 pt0 wl0 tn0 up0 lo0) H := hP
                have hD : va_D A (wM cI cJ q  nn0 ln0 (upd sa0 (ln0).toNatClampNeg y1) (upd sb0 (ln0).toNatClampNeg y2) wg0 kt0 fr0 pt0 wl0 tn0 up0 lo0) := hD
                refine lv_aload_n hx hb dX4_line_87 rfl (lv_at hl 0 rfl) ?_
                refine va_get (D := (dC, dI)) (ci := 4) (v := .ref (q 3)) (C := RX4) (T := TX4) (N := 12) hx hb hts hinX4 hown hK hP 0 rfl rfl 4 (by decide) hf20 (fun _ h9 => h9) rfl dX4_line_88 ?_
                refine lv_aload_n hx hb dX4_line_91 rfl (lv_at hl 0 rfl) ?_
                refine va_get (D := (dC, dI)) (ci := 4) (v := .int ln0) (C := RX4) (T := TX4) (N := 12) hx hb hts hinX4 hown hK hP 0 rfl rfl 1 (by decide) hf42 (fun _ h9 => h9) rfl dX4_line_92 ?_
                refine lv_iload_n hx hb dX4_line_95 rfl (lv_at hl 3 rfl) ?_
                obtain ⟨h_30, hq⟩ := fw_ck_s hq
                refine va_iast hx hb hK hP hD hS 3 0 rfl rfl h_30 dX4_line_96 (fun H locs hP hD hS => ?_)
                have hP : va_P (dC, dI) vwCl (wM cI cJ q  nn0 ln0 (upd sa0 (ln0).toNatClampNeg y1) (upd sb0 (ln0).toNatClampNeg y2) (upd wg0 (ln0).toNatClampNeg y3) kt0 fr0 pt0 wl0 tn0 up0 lo0) H := hP
                have hD : va_D A (wM cI cJ q  nn0 ln0 (upd sa0 (ln0).toNatClampNeg y1) (upd sb0 (ln0).toNatClampNeg y2) (upd wg0 (ln0).toNatClampNeg y3) kt0 fr0 pt0 wl0 tn0 up0 lo0) := hD
                refine lv_aload_n hx hb dX4_line_97 rfl (lv_at hl 0 rfl) ?_
                refine va_get (D := (dC, dI)) (ci := 4) (v := .ref (q 4)) (C := RX4) (T := TX4) (N := 12) hx hb hts hinX4 hown hK hP 0 rfl rfl 5 (by decide) hf23 (fun _ h9 => h9) rfl dX4_line_98 ?_
                refine lv_aload_n hx hb dX4_line_101 rfl (lv_at hl 0 rfl) ?_
                refine va_get (D := (dC, dI)) (ci := 4) (v := .int ln0) (C := RX4) (T := TX4) (N := 12) hx hb hts hinX4 hown hK hP 0 rfl rfl 1 (by decide) hf42 (fun _ h9 => h9) rfl dX4_line_102 ?_
                refine lv_iload_n hx hb dX4_line_105 rfl (lv_at hl 3 rfl) ?_
                obtain ⟨h_31, hq⟩ := fw_ck_s hq
                refine va_iast hx hb hK hP hD hS 4 0 rfl rfl h_31 dX4_line_106 (fun H locs hP hD hS => ?_)
                have hP : va_P (dC, dI) vwCl (wM cI cJ q  nn0 ln0 (upd sa0 (ln0).toNatClampNeg y1) (upd sb0 (ln0).toNatClampNeg y2) (upd wg0 (ln0).toNatClampNeg y3) (upd kt0 (ln0).toNatClampNeg y3) fr0 pt0 wl0 tn0 up0 lo0) H := hP
                have hD : va_D A (wM cI cJ q  nn0 ln0 (upd sa0 (ln0).toNatClampNeg y1) (upd sb0 (ln0).toNatClampNeg y2) (upd wg0 (ln0).toNatClampNeg y3) (upd kt0 (ln0).toNatClampNeg y3) fr0 pt0 wl0 tn0 up0 lo0) := hD
                refine lv_aload_n hx hb dX4_line_107 rfl (lv_at hl 0 rfl) ?_
                refine lv_dup hx hb dX4_line_108 rfl ?_
                refine va_get (D := (dC, dI)) (ci := 4) (v := .int ln0) (C := RX4) (T := TX4) (N := 12) hx hb hts hinX4 hown hK hP 0 rfl rfl 1 (by decide) hf42 (fun _ h9 => h9) rfl dX4_line_109 ?_
                refine lv_iconst (v := (1 : Int32)) hx hb dX4_line_112 (by decide) ?_
                refine lv_iadd hx hb dX4_line_113 ?_
                refine va_put (D := (dC, dI)) (ci := 4) (v := .int (ln0 + (1 : Int32))) (ty := .int) (C := RX4) (T := TX4) (N := 12) hx hb hts hinX4 tyX4 tyX4_ok nmX4 hown hK hP hD hS 0 rfl rfl 1 (by decide) hf42 (fun _ h9 => h9) rfl (by decide +kernel) rfl rfl (Nat.le_of_ble_eq_true rfl) dX4_line_114 (fun H locs hP hD hS => ?_)
                have hP : va_P (dC, dI) vwCl (wM cI cJ q  nn0 (ln0 + (1 : Int32)) (upd sa0 (ln0).toNatClampNeg y1) (upd sb0 (ln0).toNatClampNeg y2) (upd wg0 (ln0).toNatClampNeg y3) (upd kt0 (ln0).toNatClampNeg y3) fr0 pt0 wl0 tn0 up0 lo0) H := hP
                have hD : va_D A (wM cI cJ q  nn0 (ln0 + (1 : Int32)) (upd sa0 (ln0).toNatClampNeg y1) (upd sb0 (ln0).toNatClampNeg y2) (upd wg0 (ln0).toNatClampNeg y3) (upd kt0 (ln0).toNatClampNeg y3) fr0 pt0 wl0 tn0 up0 lo0) := hD
                refine lv_aload_n hx hb dX4_line_117 rfl (lv_at hl 0 rfl) ?_
                refine va_get (D := (dC, dI)) (ci := 4) (v := .int (ln0 + (1 : Int32))) (C := RX4) (T := TX4) (N := 12) hx hb hts hinX4 hown hK hP 0 rfl rfl 1 (by decide) hf42 (fun _ h9 => h9) rfl dX4_line_118 ?_
                refine lv_iconst (v := (1 : Int32)) hx hb dX4_line_121 (by decide) ?_
                refine lv_isub hx hb dX4_line_122 ?_
                exact W.iret (v := ((ln0 + (1 : Int32)) - (1 : Int32))) hx hb hr (fun t ht hW => ⟨⟨((ln0 + (1 : Int32)) - (1 : Int32)), ((ln0 + (1 : Int32)), (upd sa0 (ln0).toNatClampNeg y1), (upd sb0 (ln0).toNatClampNeg y2), (upd wg0 (ln0).toNatClampNeg y3), (upd kt0 (ln0).toNatClampNeg y3)), rfl, hz.trans hq.symm, by rw [ht]; exact hP, hD⟩, hS.F ht⟩) hS.2.2 dX4_line_123
          · have hq := fw_it c_14 hq
            refine lv_bipush (v := (-5 : Int32)) hx hb dX4_line_46 (by decide) ?_
            exact W.iret (v := (-5 : Int32)) hx hb hr (fun t ht hW => ⟨⟨(-5 : Int32), (ln0, sa0, sb0, wg0, kt0), rfl, hz.trans hq.symm, by rw [ht]; exact hP, hD⟩, hS.F ht⟩) hS.2.2 dX4_line_48
        · have hq := fw_it c_13 hq
          refine lv_bipush (v := (-3 : Int32)) hx hb dX4_line_34 (by decide) ?_
          exact W.iret (v := (-3 : Int32)) hx hb hr (fun t ht hW => ⟨⟨(-3 : Int32), (ln0, sa0, sb0, wg0, kt0), rfl, hz.trans hq.symm, by rw [ht]; exact hP, hD⟩, hS.F ht⟩) hS.2.2 dX4_line_36
    · have hq := fw_it c_8 hq
      refine lv_bipush (v := (-2 : Int32)) hx hb dX4_line_16 (by decide) ?_
      exact W.iret (v := (-2 : Int32)) hx hb hr (fun t ht hW => ⟨⟨(-2 : Int32), (ln0, sa0, sb0, wg0, kt0), rfl, hz.trans hq.symm, by rw [ht]; exact hP, hD⟩, hS.F ht⟩) hS.2.2 dX4_line_18
set_option maxHeartbeats 4000000 in
set_option maxRecDepth 100000 in
theorem kX4_drop (l : Launch) (dC : Nat → ClassId) (dI : Nat → Nat → Nat) (cI cJ : ClassId) (q : Nat → Nat) (sz : Nat)  (nn0 : Int32) (ln0 : Int32) (sa0 : Nat → Int32) (sb0 : Nat → Int32) (wg0 : Nat → Int32) (kt0 : Nat → Int32) (fr0 : Nat → Int32) (pt0 : Nat → Int32) (wl0 : Nat → Int32) (tn0 : Nat → Int32) (up0 : Int64) (lo0 : Int64) (y1 : Int32) (hd : ∃ z, pX4_drop ln0 sa0 sb0 wg0 kt0 y1 = some z) : Met l yX4_drop wsX4_drop ({ frames := 2, cells := 0, slots := 0, locals := 43 }) (fw_Pc (dC, dI) (fw_tys cI cJ) (wM cI cJ q  nn0 ln0 sa0 sb0 wg0 kt0 fr0 pt0 wl0 tn0 up0 lo0) ([.ref (q 0), .int y1] : List Value) sz) (va_Qi (fun (r : Int32) (u : Int32 × (Nat → Int32) × (Nat → Int32) × (Nat → Int32) × (Nat → Int32)) => pX4_drop ln0 sa0 sb0 wg0 kt0 y1 = some (r, u)) (fun u t => fw_B (dC, dI) (va_A (wM cI cJ q  nn0 ln0 sa0 sb0 wg0 kt0 fr0 pt0 wl0 tn0 up0 lo0) sz) (wM cI cJ q  nn0 u.1 u.2.1 u.2.2.1 u.2.2.2.1 u.2.2.2.2 fr0 pt0 wl0 tn0 up0 lo0) t) (va_A (wM cI cJ q  nn0 ln0 sa0 sb0 wg0 kt0 fr0 pt0 wl0 tn0 up0 lo0) sz)) 0 0 (va_A (wM cI cJ q  nn0 ln0 sa0 sb0 wg0 kt0 fr0 pt0 wl0 tn0 up0 lo0) sz) := by
  obtain ⟨z, hz⟩ := hd
  refine Met.ofW (cc := cX4_drop) (maxL := 3) (ret := (some .int)) (by decide) rfl ?_
  intro p e s m args below meth c s₁ B hml hv
  obtain ⟨rfl, hsz, hP, hK, hD0, hN⟩ := hv
  have hx := B.exec
  have hb := B.bytes
  have hr := B.returns
  have hts := atoms_spec (ws := wsX4_drop) B.pre
  have hown : s.vm.findClass RX4 = some m.cls := findClass_of_methodNamed B.named
  have hlocks := B.notSynchronized
  subst hsz
  have hD := hD0.self (sz := s.heap.size)
  generalize hAe : va_A (wM cI cJ q  nn0 ln0 sa0 sb0 wg0 kt0 fr0 pt0 wl0 tn0 up0 lo0) s.heap.size = A at hD ⊢
  have hA : ∀ q : Nat, s.heap.size ≤ q → A q := fun q h => by rw [← hAe]; exact Or.inr h
  have hinX4 : ∀ w ∈ u_ws RX4 TX4 12, w ∈ wsX4_drop := by decide +kernel
  have hf13 := hts (.fieldLink RX4 13 "FewLinesModel" "as" "[I") (by decide +kernel)
  have hf17 := hts (.fieldLink RX4 17 "FewLinesModel" "bs" "[I") (by decide +kernel)
  have hf20 := hts (.fieldLink RX4 20 "FewLinesModel" "weight" "[I") (by decide +kernel)
  have hf23 := hts (.fieldLink RX4 23 "FewLinesModel" "kept" "[I") (by decide +kernel)
  have hf42 := hts (.fieldLink RX4 42 "FewLinesModel" "lines" "I") (by decide +kernel)
  have L23 : ∀ (ln : Int32) (e9 : Int32 × (Nat → Int32) × (Nat → Int32) × (Nat → Int32) × (Nat → Int32)), (∀ (x2' : Int32) (sa' : Nat → Int32) (sb' : Nat → Int32) (wg' : Nat → Int32) (kt' : Nat → Int32) (H : Heap) (locs : List Loc) (ls : Array Slot), e9 = (x2', sa', sb', wg', kt') → va_P (dC, dI) vwCl (wM cI cJ q  nn0 ln sa' sb' wg' kt' fr0 pt0 wl0 tn0 up0 lo0) H → va_D A (wM cI cJ q  nn0 ln sa' sb' wg' kt' fr0 pt0 wl0 tn0 up0 lo0) → va_S A s.heap H locs → lv_has ls 3 [(0, .ref (q 0)), (2, .int x2')] → W p l e (headSpec wsX4_drop ({ frames := 2, cells := 0, slots := 0, locals := 43 })).room s m ([.ref (q 0), .int y1] : List Value).toArray below meth c H locs 0 0 (MQ below (va_Qi (fun (r : Int32) (u : Int32 × (Nat → Int32) × (Nat → Int32) × (Nat → Int32) × (Nat → Int32)) => pX4_drop ln0 sa0 sb0 wg0 kt0 y1 = some (r, u)) (fun u t => fw_B (dC, dI) A (wM cI cJ q  nn0 u.1 u.2.1 u.2.2.1 u.2.2.2.1 u.2.2.2.2 fr0 pt0 wl0 tn0 up0 lo0) t) A) ([.ref (q 0), .int y1] : List Value).toArray s 0 0 A) (F0 m 93 ls [])) → ∀ (n9 : Nat) (x2 : Int32) (sa : Nat → Int32) (sb : Nat → Int32) (wg : Nat → Int32) (kt : Nat → Int32) (H : Heap) (locs : List Loc) (ls : Array Slot), fw_wh (pX4_drop_23 ln) n9 (x2, sa, sb, wg, kt) = some e9 → va_P (dC, dI) vwCl (wM cI cJ q  nn0 ln sa sb wg kt fr0 pt0 wl0 tn0 up0 lo0) H → va_D A (wM cI cJ q  nn0 ln sa sb wg kt fr0 pt0 wl0 tn0 up0 lo0) → va_S A s.heap H locs → lv_has ls 3 [(0, .ref (q 0)), (2, .int x2)] → W p l e (headSpec wsX4_drop ({ frames := 2, cells := 0, slots := 0, locals := 43 })).room s m ([.ref (q 0), .int y1] : List Value).toArray below meth c H locs 0 0 (MQ below (va_Qi (fun (r : Int32) (u : Int32 × (Nat → Int32) × (Nat → Int32) × (Nat → Int32) × (Nat → Int32)) => pX4_drop ln0 sa0 sb0 wg0 kt0 y1 = some (r, u)) (fun u t => fw_B (dC, dI) A (wM cI cJ q  nn0 u.1 u.2.1 u.2.2.1 u.2.2.2.1 u.2.2.2.2 fr0 pt0 wl0 tn0 up0 lo0) t) A) ([.ref (q 0), .int y1] : List Value).toArray s 0 0 A) (F0 m 23 ls []) := by
    intro ln e9 hkk n9
    induction n9 with
    | zero => exact fun _ _ _ _ _ H locs ls hq => (fw_wh0 hq).elim
    | succ n9 ih =>
      intro x2 sa sb wg kt H locs ls hq hP hD hS hl
      obtain ⟨w9, hq, hwI, hwE⟩ := fw_wh1 hq
      dsimp only [pX4_drop_23] at hq
      refine lv_iload_n hx hb dX4_drop_23 rfl (lv_at hl 1 rfl) ?_
      refine lv_aload_n hx hb dX4_drop_24 rfl (lv_at hl 0 rfl) ?_
      refine va_get (D := (dC, dI)) (ci := 4) (v := .int ln) (C := RX4) (T := TX4) (N := 12) hx hb hts hinX4 hown hK hP 0 rfl rfl 1 (by decide) hf42 (fun _ h9 => h9) rfl dX4_drop_25 ?_
      refine lv_icmp_ge (tgt := 93) hx hb dX4_drop_28 (by decide) (fun c_5 => ?_) (fun c_5 => ?_)
      · have hq := fw_it c_5 hq
        exact hkk x2 sa sb wg kt H locs ls (hwE _ (Option.some.inj hq).symm) hP hD hS (lv_sub hl [0, 1] rfl)
      · have hq := fw_if c_5 hq
        refine lv_aload_n hx hb dX4_drop_31 rfl (lv_at hl 0 rfl) ?_
        refine va_get (D := (dC, dI)) (ci := 4) (v := .ref (q 1)) (C := RX4) (T := TX4) (N := 12) hx hb hts hinX4 hown hK hP 0 rfl rfl 2 (by decide) hf13 (fun _ h9 => h9) rfl dX4_drop_32 ?_
        refine lv_iload_n hx hb dX4_drop_35 rfl (lv_at hl 1 rfl) ?_
        refine lv_aload_n hx hb dX4_drop_36 rfl (lv_at hl 0 rfl) ?_
        refine va_get (D := (dC, dI)) (ci := 4) (v := .ref (q 1)) (C := RX4) (T := TX4) (N := 12) hx hb hts hinX4 hown hK hP 0 rfl rfl 2 (by decide) hf13 (fun _ h9 => h9) rfl dX4_drop_37 ?_
        refine lv_iload_n hx hb dX4_drop_40 rfl (lv_at hl 1 rfl) ?_
        refine lv_iconst (v := (1 : Int32)) hx hb dX4_drop_41 (by decide) ?_
        refine lv_iadd hx hb dX4_drop_42 ?_
        obtain ⟨h_6, hq⟩ := fw_ck_s hq
        refine va_iald hx hb hK hP 1 0 rfl rfl h_6 dX4_drop_43 ?_
        obtain ⟨h_7, hq⟩ := fw_ck_s hq
        refine va_iast hx hb hK hP hD hS 1 0 rfl rfl h_7 dX4_drop_44 (fun H locs hP hD hS => ?_)
        have hP : va_P (dC, dI) vwCl (wM cI cJ q  nn0 ln (upd sa (x2).toNatClampNeg (sa ((x2 + (1 : Int32))).toNatClampNeg)) sb wg kt fr0 pt0 wl0 tn0 up0 lo0) H := hP
        have hD : va_D A (wM cI cJ q  nn0 ln (upd sa (x2).toNatClampNeg (sa ((x2 + (1 : Int32))).toNatClampNeg)) sb wg kt fr0 pt0 wl0 tn0 up0 lo0) := hD
        refine lv_aload_n hx hb dX4_drop_45 rfl (lv_at hl 0 rfl) ?_
        refine va_get (D := (dC, dI)) (ci := 4) (v := .ref (q 2)) (C := RX4) (T := TX4) (N := 12) hx hb hts hinX4 hown hK hP 0 rfl rfl 3 (by decide) hf17 (fun _ h9 => h9) rfl dX4_drop_46 ?_
        refine lv_iload_n hx hb dX4_drop_49 rfl (lv_at hl 1 rfl) ?_
        refine lv_aload_n hx hb dX4_drop_50 rfl (lv_at hl 0 rfl) ?_
        refine va_get (D := (dC, dI)) (ci := 4) (v := .ref (q 2)) (C := RX4) (T := TX4) (N := 12) hx hb hts hinX4 hown hK hP 0 rfl rfl 3 (by decide) hf17 (fun _ h9 => h9) rfl dX4_drop_51 ?_
        refine lv_iload_n hx hb dX4_drop_54 rfl (lv_at hl 1 rfl) ?_
        refine lv_iconst (v := (1 : Int32)) hx hb dX4_drop_55 (by decide) ?_
        refine lv_iadd hx hb dX4_drop_56 ?_
        obtain ⟨h_8, hq⟩ := fw_ck_s hq
        refine va_iald hx hb hK hP 2 0 rfl rfl h_8 dX4_drop_57 ?_
        obtain ⟨h_9, hq⟩ := fw_ck_s hq
        refine va_iast hx hb hK hP hD hS 2 0 rfl rfl h_9 dX4_drop_58 (fun H locs hP hD hS => ?_)
        have hP : va_P (dC, dI) vwCl (wM cI cJ q  nn0 ln (upd sa (x2).toNatClampNeg (sa ((x2 + (1 : Int32))).toNatClampNeg)) (upd sb (x2).toNatClampNeg (sb ((x2 + (1 : Int32))).toNatClampNeg)) wg kt fr0 pt0 wl0 tn0 up0 lo0) H := hP
        have hD : va_D A (wM cI cJ q  nn0 ln (upd sa (x2).toNatClampNeg (sa ((x2 + (1 : Int32))).toNatClampNeg)) (upd sb (x2).toNatClampNeg (sb ((x2 + (1 : Int32))).toNatClampNeg)) wg kt fr0 pt0 wl0 tn0 up0 lo0) := hD
        refine lv_aload_n hx hb dX4_drop_59 rfl (lv_at hl 0 rfl) ?_
        refine va_get (D := (dC, dI)) (ci := 4) (v := .ref (q 3)) (C := RX4) (T := TX4) (N := 12) hx hb hts hinX4 hown hK hP 0 rfl rfl 4 (by decide) hf20 (fun _ h9 => h9) rfl dX4_drop_60 ?_
        refine lv_iload_n hx hb dX4_drop_63 rfl (lv_at hl 1 rfl) ?_
        refine lv_aload_n hx hb dX4_drop_64 rfl (lv_at hl 0 rfl) ?_
        refine va_get (D := (dC, dI)) (ci := 4) (v := .ref (q 3)) (C := RX4) (T := TX4) (N := 12) hx hb hts hinX4 hown hK hP 0 rfl rfl 4 (by decide) hf20 (fun _ h9 => h9) rfl dX4_drop_65 ?_
        refine lv_iload_n hx hb dX4_drop_68 rfl (lv_at hl 1 rfl) ?_
        refine lv_iconst (v := (1 : Int32)) hx hb dX4_drop_69 (by decide) ?_
        refine lv_iadd hx hb dX4_drop_70 ?_
        obtain ⟨h_10, hq⟩ := fw_ck_s hq
        refine va_iald hx hb hK hP 3 0 rfl rfl h_10 dX4_drop_71 ?_
        obtain ⟨h_11, hq⟩ := fw_ck_s hq
        refine va_iast hx hb hK hP hD hS 3 0 rfl rfl h_11 dX4_drop_72 (fun H locs hP hD hS => ?_)
        have hP : va_P (dC, dI) vwCl (wM cI cJ q  nn0 ln (upd sa (x2).toNatClampNeg (sa ((x2 + (1 : Int32))).toNatClampNeg)) (upd sb (x2).toNatClampNeg (sb ((x2 + (1 : Int32))).toNatClampNeg)) (upd wg (x2).toNatClampNeg (wg ((x2 + (1 : Int32))).toNatClampNeg)) kt fr0 pt0 wl0 tn0 up0 lo0) H := hP
        have hD : va_D A (wM cI cJ q  nn0 ln (upd sa (x2).toNatClampNeg (sa ((x2 + (1 : Int32))).toNatClampNeg)) (upd sb (x2).toNatClampNeg (sb ((x2 + (1 : Int32))).toNatClampNeg)) (upd wg (x2).toNatClampNeg (wg ((x2 + (1 : Int32))).toNatClampNeg)) kt fr0 pt0 wl0 tn0 up0 lo0) := hD
        refine lv_aload_n hx hb dX4_drop_73 rfl (lv_at hl 0 rfl) ?_
        refine va_get (D := (dC, dI)) (ci := 4) (v := .ref (q 4)) (C := RX4) (T := TX4) (N := 12) hx hb hts hinX4 hown hK hP 0 rfl rfl 5 (by decide) hf23 (fun _ h9 => h9) rfl dX4_drop_74 ?_
        refine lv_iload_n hx hb dX4_drop_77 rfl (lv_at hl 1 rfl) ?_
        refine lv_aload_n hx hb dX4_drop_78 rfl (lv_at hl 0 rfl) ?_
        refine va_get (D := (dC, dI)) (ci := 4) (v := .ref (q 4)) (C := RX4) (T := TX4) (N := 12) hx hb hts hinX4 hown hK hP 0 rfl rfl 5 (by decide) hf23 (fun _ h9 => h9) rfl dX4_drop_79 ?_
        refine lv_iload_n hx hb dX4_drop_82 rfl (lv_at hl 1 rfl) ?_
        refine lv_iconst (v := (1 : Int32)) hx hb dX4_drop_83 (by decide) ?_
        refine lv_iadd hx hb dX4_drop_84 ?_
        obtain ⟨h_12, hq⟩ := fw_ck_s hq
        refine va_iald hx hb hK hP 4 0 rfl rfl h_12 dX4_drop_85 ?_
        obtain ⟨h_13, hq⟩ := fw_ck_s hq
        refine va_iast hx hb hK hP hD hS 4 0 rfl rfl h_13 dX4_drop_86 (fun H locs hP hD hS => ?_)
        have hP : va_P (dC, dI) vwCl (wM cI cJ q  nn0 ln (upd sa (x2).toNatClampNeg (sa ((x2 + (1 : Int32))).toNatClampNeg)) (upd sb (x2).toNatClampNeg (sb ((x2 + (1 : Int32))).toNatClampNeg)) (upd wg (x2).toNatClampNeg (wg ((x2 + (1 : Int32))).toNatClampNeg)) (upd kt (x2).toNatClampNeg (kt ((x2 + (1 : Int32))).toNatClampNeg)) fr0 pt0 wl0 tn0 up0 lo0) H := hP
        have hD : va_D A (wM cI cJ q  nn0 ln (upd sa (x2).toNatClampNeg (sa ((x2 + (1 : Int32))).toNatClampNeg)) (upd sb (x2).toNatClampNeg (sb ((x2 + (1 : Int32))).toNatClampNeg)) (upd wg (x2).toNatClampNeg (wg ((x2 + (1 : Int32))).toNatClampNeg)) (upd kt (x2).toNatClampNeg (kt ((x2 + (1 : Int32))).toNatClampNeg)) fr0 pt0 wl0 tn0 up0 lo0) := hD
        refine lv_iinc (v := (x2 + (1 : Int32))) (lv' := [(2, .int (x2 + (1 : Int32))), (0, .ref (q 0))]) hx hb dX4_drop_87 hl (k := 1) rfl rfl (by decide) rfl (fun ls hl => ?_)
        refine lv_goto (tgt := 23) hx hb dX4_drop_90 (by decide) ?_
        exact ih (x2 + (1 : Int32)) (upd sa (x2).toNatClampNeg (sa ((x2 + (1 : Int32))).toNatClampNeg)) (upd sb (x2).toNatClampNeg (sb ((x2 + (1 : Int32))).toNatClampNeg)) (upd wg (x2).toNatClampNeg (wg ((x2 + (1 : Int32))).toNatClampNeg)) (upd kt (x2).toNatClampNeg (kt ((x2 + (1 : Int32))).toNatClampNeg)) H locs ls (hwI _ (Option.some.inj hq).symm) hP hD hS (lv_sub hl [1, 0] rfl)
  have hq := hz
  dsimp only [pX4_drop] at hq
  have hl := lv_entry (([.ref (q 0), .int y1] : List Value)) (n := 3) (Nat.le_of_ble_eq_true rfl)
  rw [lg_entry_eq]
  generalize (lg_sl (([.ref (q 0), .int y1] : List Value)) ++ List.replicate (3 - (lg_sl (([.ref (q 0), .int y1] : List Value))).length) Slot.unset).toArray = ls at hl ⊢
  have hl : lv_has ls 3 [(0, .ref (q 0)), (1, .int y1)] := hl
  obtain ⟨H, hHe⟩ : ∃ H : Heap, H = s.heap := ⟨_, rfl⟩
  obtain ⟨locs, hLe⟩ : ∃ L : List Loc, L = [] := ⟨_, rfl⟩
  have hP : va_P (dC, dI) vwCl (wM cI cJ q  nn0 ln0 sa0 sb0 wg0 kt0 fr0 pt0 wl0 tn0 up0 lo0) H := by rw [hHe]; exact hP
  have hS : va_S A s.heap H locs := by rw [hHe, hLe]; exact va_S.rf
  show W p l e (headSpec wsX4_drop ({ frames := 2, cells := 0, slots := 0, locals := 43 })).room s m ([.ref (q 0), .int y1] : List Value).toArray below meth c s.heap [] 0 0 (MQ below (va_Qi (fun (r : Int32) (u : Int32 × (Nat → Int32) × (Nat → Int32) × (Nat → Int32) × (Nat → Int32)) => pX4_drop ln0 sa0 sb0 wg0 kt0 y1 = some (r, u)) (fun u t => fw_B (dC, dI) A (wM cI cJ q  nn0 u.1 u.2.1 u.2.2.1 u.2.2.2.1 u.2.2.2.2 fr0 pt0 wl0 tn0 up0 lo0) t) A) ([.ref (q 0), .int y1] : List Value).toArray s 0 0 A) (F0 m 0 ls [])
  rw [← hHe, ← hLe]
  refine lv_aload_n hx hb dX4_drop_0 rfl (lv_at hl 0 rfl) ?_
  refine lv_iload_n hx hb dX4_drop_1 rfl (lv_at hl 1 rfl) ?_
  have hPc := hP.sub (ws' := (wM cI cJ q  nn0 ln0 sa0 sb0 wg0 kt0 fr0 pt0 wl0 tn0 up0 lo0)) [0, 1, 2, 3, 4, 5, 6, 7, 8] rfl
  have hDc := hD.sub (ws' := (wM cI cJ q  nn0 ln0 sa0 sb0 wg0 kt0 fr0 pt0 wl0 tn0 up0 lo0)) [0, 1, 2, 3, 4, 5, 6, 7, 8] (by decide) rfl
  refine fw_ci (wr := []) (w2 := fun u => (wM cI cJ q  nn0 ln0 sa0 sb0 wg0 kt0 fr0 pt0 wl0 tn0 up0 lo0)) [0, 1, 2, 3, 4, 5, 6, 7, 8] [] [0, 1, 2, 3, 4, 5, 6, 7, 8] (va_runV (b := (q 0)) (As := [.int y1]) (rest := []) ⟨hx, hb, hml, hown, hts⟩ (kX4_isLine l dC dI cI cJ q H.size  nn0 ln0 sa0 sb0 wg0 kt0 fr0 pt0 wl0 tn0 up0 lo0 y1 (fw_be hq)) (cwV 1 hts gX4_drop_X4_isLine rfl rfl rfl (by decide +kernel) ⟨Nat.le_of_ble_eq_true rfl, Nat.le_of_ble_eq_true rfl⟩) ⟨fw_blind, va_recv hK hPc (ci := 4) (q0 := 0) rfl rfl, fun U hU hW => fw_pre hPc hK hDc hN hU hW⟩ rfl rfl hl.1 rfl (lv_room (Nat.le_of_ble_eq_true rfl)) dX4_drop_2 ⟨Nat.zero_le _, Nat.zero_le _⟩) hP hD hS hA rfl rfl (by decide) (by decide) (by decide) (fun _ => rfl) (fun r_1 u H locs hw hP hD hS => ?_)
  obtain ⟨hw, n_3⟩ := hw
  have hq := fw_bs hw hq
  try dsimp only at hq
  refine lv_if_ne (tgt := 11) hx hb dX4_drop_5 (by decide) (fun c_4 => ?_) (fun c_4 => ?_)
  · have hq := fw_if c_4 hq
    refine lv_aload_n hx hb dX4_drop_11 rfl (lv_at hl 0 rfl) ?_
    refine lv_dup hx hb dX4_drop_12 rfl ?_
    refine va_get (D := (dC, dI)) (ci := 4) (v := .int ln0) (C := RX4) (T := TX4) (N := 12) hx hb hts hinX4 hown hK hP 0 rfl rfl 1 (by decide) hf42 (fun _ h9 => h9) rfl dX4_drop_13 ?_
    refine lv_iconst (v := (1 : Int32)) hx hb dX4_drop_16 (by decide) ?_
    refine lv_isub hx hb dX4_drop_17 ?_
    refine va_put (D := (dC, dI)) (ci := 4) (v := .int (ln0 - (1 : Int32))) (ty := .int) (C := RX4) (T := TX4) (N := 12) hx hb hts hinX4 tyX4 tyX4_ok nmX4 hown hK hP hD hS 0 rfl rfl 1 (by decide) hf42 (fun _ h9 => h9) rfl (by decide +kernel) rfl rfl (Nat.le_of_ble_eq_true rfl) dX4_drop_18 (fun H locs hP hD hS => ?_)
    have hP : va_P (dC, dI) vwCl (wM cI cJ q  nn0 (ln0 - (1 : Int32)) sa0 sb0 wg0 kt0 fr0 pt0 wl0 tn0 up0 lo0) H := hP
    have hD : va_D A (wM cI cJ q  nn0 (ln0 - (1 : Int32)) sa0 sb0 wg0 kt0 fr0 pt0 wl0 tn0 up0 lo0) := hD
    refine lv_iload_n hx hb dX4_drop_21 rfl (lv_at hl 1 rfl) ?_
    refine lv_istore_n (lv' := [(2, .int y1), (0, .ref (q 0)), (1, .int y1)]) hx hb dX4_drop_22 rfl hl (by decide) rfl (fun ls hl => ?_)
    obtain ⟨e_19, hw, hq⟩ := fw_bb hq
    refine L23 (ln0 - (1 : Int32)) e_19 (fun x2_14 sa_15 sb_16 wg_17 kt_18 H locs ls he hP hD hS hl => ?_) fw_N y1 sa0 sb0 wg0 kt0 H locs ls hw hP hD hS (lv_sub hl [1, 0] rfl)
    subst he
    try dsimp only at hq
    refine lv_iconst (v := (1 : Int32)) hx hb dX4_drop_93 (by decide) ?_
    exact W.iret (v := (1 : Int32)) hx hb hr (fun t ht hW => ⟨⟨(1 : Int32), ((ln0 - (1 : Int32)), sa_15, sb_16, wg_17, kt_18), rfl, hz.trans hq.symm, by rw [ht]; exact hP, hD⟩, hS.F ht⟩) hS.2.2 dX4_drop_94
  · have hq := fw_it c_4 hq
    refine lv_bipush (v := (-2 : Int32)) hx hb dX4_drop_8 (by decide) ?_
    exact W.iret (v := (-2 : Int32)) hx hb hr (fun t ht hW => ⟨⟨(-2 : Int32), (ln0, sa0, sb0, wg0, kt0), rfl, hz.trans hq.symm, by rw [ht]; exact hP, hD⟩, hS.F ht⟩) hS.2.2 dX4_drop_10
set_option maxHeartbeats 4000000 in
set_option maxRecDepth 100000 in
theorem kX4_keep (l : Launch) (dC : Nat → ClassId) (dI : Nat → Nat → Nat) (cI cJ : ClassId) (q : Nat → Nat) (sz : Nat)  (nn0 : Int32) (ln0 : Int32) (sa0 : Nat → Int32) (sb0 : Nat → Int32) (wg0 : Nat → Int32) (kt0 : Nat → Int32) (fr0 : Nat → Int32) (pt0 : Nat → Int32) (wl0 : Nat → Int32) (tn0 : Nat → Int32) (up0 : Int64) (lo0 : Int64) (y1 : Int32) (y2 : Int32) (hd : ∃ z, pX4_keep ln0 kt0 y1 y2 = some z) : Met l yX4_keep wsX4_keep ({ frames := 2, cells := 0, slots := 0, locals := 43 }) (fw_Pc (dC, dI) (fw_tys cI cJ) (wM cI cJ q  nn0 ln0 sa0 sb0 wg0 kt0 fr0 pt0 wl0 tn0 up0 lo0) ([.ref (q 0), .int y1, .int y2] : List Value) sz) (va_Qi (fun (r : Int32) (u : (Nat → Int32)) => pX4_keep ln0 kt0 y1 y2 = some (r, u)) (fun u t => fw_B (dC, dI) (va_A (wM cI cJ q  nn0 ln0 sa0 sb0 wg0 kt0 fr0 pt0 wl0 tn0 up0 lo0) sz) (wM cI cJ q  nn0 ln0 sa0 sb0 wg0 u fr0 pt0 wl0 tn0 up0 lo0) t) (va_A (wM cI cJ q  nn0 ln0 sa0 sb0 wg0 kt0 fr0 pt0 wl0 tn0 up0 lo0) sz)) 0 0 (va_A (wM cI cJ q  nn0 ln0 sa0 sb0 wg0 kt0 fr0 pt0 wl0 tn0 up0 lo0) sz) := by
  obtain ⟨z, hz⟩ := hd
  refine Met.ofW (cc := cX4_keep) (maxL := 4) (ret := (some .int)) (by decide) rfl ?_
  intro p e s m args below meth c s₁ B hml hv
  obtain ⟨rfl, hsz, hP, hK, hD0, hN⟩ := hv
  have hx := B.exec
  have hb := B.bytes
  have hr := B.returns
  have hts := atoms_spec (ws := wsX4_keep) B.pre
  have hown : s.vm.findClass RX4 = some m.cls := findClass_of_methodNamed B.named
  have hlocks := B.notSynchronized
  subst hsz
  have hD := hD0.self (sz := s.heap.size)
  generalize hAe : va_A (wM cI cJ q  nn0 ln0 sa0 sb0 wg0 kt0 fr0 pt0 wl0 tn0 up0 lo0) s.heap.size = A at hD ⊢
  have hA : ∀ q : Nat, s.heap.size ≤ q → A q := fun q h => by rw [← hAe]; exact Or.inr h
  have hinX4 : ∀ w ∈ u_ws RX4 TX4 12, w ∈ wsX4_keep := by decide +kernel
  have hf23 := hts (.fieldLink RX4 23 "FewLinesModel" "kept" "[I") (by decide +kernel)
  have hq := hz
  dsimp only [pX4_keep] at hq
  have hl := lv_entry (([.ref (q 0), .int y1, .int y2] : List Value)) (n := 4) (Nat.le_of_ble_eq_true rfl)
  rw [lg_entry_eq]
  generalize (lg_sl (([.ref (q 0), .int y1, .int y2] : List Value)) ++ List.replicate (4 - (lg_sl (([.ref (q 0), .int y1, .int y2] : List Value))).length) Slot.unset).toArray = ls at hl ⊢
  have hl : lv_has ls 4 [(0, .ref (q 0)), (1, .int y1), (2, .int y2)] := hl
  obtain ⟨H, hHe⟩ : ∃ H : Heap, H = s.heap := ⟨_, rfl⟩
  obtain ⟨locs, hLe⟩ : ∃ L : List Loc, L = [] := ⟨_, rfl⟩
  have hP : va_P (dC, dI) vwCl (wM cI cJ q  nn0 ln0 sa0 sb0 wg0 kt0 fr0 pt0 wl0 tn0 up0 lo0) H := by rw [hHe]; exact hP
  have hS : va_S A s.heap H locs := by rw [hHe, hLe]; exact va_S.rf
  show W p l e (headSpec wsX4_keep ({ frames := 2, cells := 0, slots := 0, locals := 43 })).room s m ([.ref (q 0), .int y1, .int y2] : List Value).toArray below meth c s.heap [] 0 0 (MQ below (va_Qi (fun (r : Int32) (u : (Nat → Int32)) => pX4_keep ln0 kt0 y1 y2 = some (r, u)) (fun u t => fw_B (dC, dI) A (wM cI cJ q  nn0 ln0 sa0 sb0 wg0 u fr0 pt0 wl0 tn0 up0 lo0) t) A) ([.ref (q 0), .int y1, .int y2] : List Value).toArray s 0 0 A) (F0 m 0 ls [])
  rw [← hHe, ← hLe]
  refine lv_aload_n hx hb dX4_keep_0 rfl (lv_at hl 0 rfl) ?_
  refine lv_iload_n hx hb dX4_keep_1 rfl (lv_at hl 1 rfl) ?_
  have hPc := hP.sub (ws' := (wM cI cJ q  nn0 ln0 sa0 sb0 wg0 kt0 fr0 pt0 wl0 tn0 up0 lo0)) [0, 1, 2, 3, 4, 5, 6, 7, 8] rfl
  have hDc := hD.sub (ws' := (wM cI cJ q  nn0 ln0 sa0 sb0 wg0 kt0 fr0 pt0 wl0 tn0 up0 lo0)) [0, 1, 2, 3, 4, 5, 6, 7, 8] (by decide) rfl
  refine fw_ci (wr := []) (w2 := fun u => (wM cI cJ q  nn0 ln0 sa0 sb0 wg0 kt0 fr0 pt0 wl0 tn0 up0 lo0)) [0, 1, 2, 3, 4, 5, 6, 7, 8] [] [0, 1, 2, 3, 4, 5, 6, 7, 8] (va_runV (b := (q 0)) (As := [.int y1]) (rest := []) ⟨hx, hb, hml, hown, hts⟩ (kX4_isLine l dC dI cI cJ q H.size  nn0 ln0 sa0 sb0 wg0 kt0 fr0 pt0 wl0 tn0 up0 lo0 y1 (fw_be hq)) (cwV 1 hts gX4_keep_X4_isLine rfl rfl rfl (by decide +kernel) ⟨Nat.le_of_ble_eq_true rfl, Nat.le_of_ble_eq_true rfl⟩) ⟨fw_blind, va_recv hK hPc (ci := 4) (q0 := 0) rfl rfl, fun U hU hW => fw_pre hPc hK hDc hN hU hW⟩ rfl rfl hl.1 rfl (lv_room (Nat.le_of_ble_eq_true rfl)) dX4_keep_2 ⟨Nat.zero_le _, Nat.zero_le _⟩) hP hD hS hA rfl rfl (by decide) (by decide) (by decide) (fun _ => rfl) (fun r_1 u H locs hw hP hD hS => ?_)
  obtain ⟨hw, n_3⟩ := hw
  have hq := fw_bs hw hq
  try dsimp only at hq
  refine lv_if_ne (tgt := 11) hx hb dX4_keep_5 (by decide) (fun c_4 => ?_) (fun c_4 => ?_)
  · have hq := fw_if c_4 hq
    refine lv_iload_n hx hb dX4_keep_11 rfl (lv_at hl 2 rfl) ?_
    refine lv_iconst (v := (0 : Int32)) hx hb dX4_keep_12 (by decide) ?_
    refine lv_bipush (v := (60 : Int32)) hx hb dX4_keep_13 (by decide) ?_
    have hPc := hP.sub (ws' := (w0 cI cJ   )) [] rfl
    have hDc := hD.sub (ws' := (w0 cI cJ   )) [] (by decide) rfl
    refine fw_ci (wr := [((q 0), .inr (4, [.int nn0, .int ln0, .ref (q 1), .ref (q 2), .ref (q 3), .ref (q 4), .ref (q 5), .ref (q 6), .ref (q 7), .ref (q 8), .long up0, .long lo0])), ((q 1), .inl (cI, 12, .inl sa0)), ((q 2), .inl (cI, 12, .inl sb0)), ((q 3), .inl (cI, 12, .inl wg0)), ((q 4), .inl (cI, 12, .inl kt0)), ((q 5), .inl (cI, 12, .inl fr0)), ((q 6), .inl (cI, 7, .inl pt0)), ((q 7), .inl (cI, 49, .inl wl0)), ((q 8), .inl (cI, 49, .inl tn0))]) (w2 := fun u => (wM cI cJ q  nn0 ln0 sa0 sb0 wg0 kt0 fr0 pt0 wl0 tn0 up0 lo0)) [] [0, 1, 2, 3, 4, 5, 6, 7, 8] [0, 1, 2, 3, 4, 5, 6, 7, 8] (va_runS (As := [.int y2, .int (0 : Int32), .int (60 : Int32)]) (rest := []) ⟨hx, hb, hml, hown, hts⟩ (kX4_in l dC dI cI cJ  H.size   y2 (0 : Int32) (60 : Int32) (fw_be hq)) (va_cwS 3 hts gX4_keep_X4_in rfl rfl rfl (by decide +kernel) ⟨Nat.le_of_ble_eq_true rfl, Nat.le_of_ble_eq_true rfl⟩) ⟨fw_blind, fun U hU hW => fw_pre hPc hK hDc hN hU hW⟩ rfl rfl hl.1 rfl (lv_room (Nat.le_of_ble_eq_true rfl)) dX4_keep_15 ⟨Nat.zero_le _, Nat.zero_le _⟩) hP hD hS hA rfl rfl (by decide) (by decide) (by decide) (fun _ => rfl) (fun r_5 u H locs hw hP hD hS => ?_)
    obtain ⟨hw, n_7⟩ := hw
    have hq := fw_bs hw hq
    try dsimp only at hq
    refine lv_if_ne (tgt := 24) hx hb dX4_keep_18 (by decide) (fun c_8 => ?_) (fun c_8 => ?_)
    · have hq := fw_if c_8 hq
      refine lv_aload_n hx hb dX4_keep_24 rfl (lv_at hl 0 rfl) ?_
      refine va_get (D := (dC, dI)) (ci := 4) (v := .ref (q 4)) (C := RX4) (T := TX4) (N := 12) hx hb hts hinX4 hown hK hP 0 rfl rfl 5 (by decide) hf23 (fun _ h9 => h9) rfl dX4_keep_25 ?_
      refine lv_iload_n hx hb dX4_keep_28 rfl (lv_at hl 1 rfl) ?_
      obtain ⟨h_9, hq⟩ := fw_ck_s hq
      refine va_iald hx hb hK hP 4 0 rfl rfl h_9 dX4_keep_29 ?_
      refine lv_istore_n (lv' := [(3, .int (kt0 (y1).toNatClampNeg)), (0, .ref (q 0)), (1, .int y1), (2, .int y2)]) hx hb dX4_keep_30 rfl hl (by decide) rfl (fun ls hl => ?_)
      refine lv_aload_n hx hb dX4_keep_31 rfl (lv_at hl 1 rfl) ?_
      refine va_get (D := (dC, dI)) (ci := 4) (v := .ref (q 4)) (C := RX4) (T := TX4) (N := 12) hx hb hts hinX4 hown hK hP 0 rfl rfl 5 (by decide) hf23 (fun _ h9 => h9) rfl dX4_keep_32 ?_
      refine lv_iload_n hx hb dX4_keep_35 rfl (lv_at hl 2 rfl) ?_
      refine lv_iload_n hx hb dX4_keep_36 rfl (lv_at hl 3 rfl) ?_
      obtain ⟨h_10, hq⟩ := fw_ck_s hq
      refine va_iast hx hb hK hP hD hS 4 0 rfl rfl h_10 dX4_keep_37 (fun H locs hP hD hS => ?_)
      have hP : va_P (dC, dI) vwCl (wM cI cJ q  nn0 ln0 sa0 sb0 wg0 (upd kt0 (y1).toNatClampNeg y2) fr0 pt0 wl0 tn0 up0 lo0) H := hP
      have hD : va_D A (wM cI cJ q  nn0 ln0 sa0 sb0 wg0 (upd kt0 (y1).toNatClampNeg y2) fr0 pt0 wl0 tn0 up0 lo0) := hD
      refine lv_iload_n hx hb dX4_keep_38 rfl (lv_at hl 0 rfl) ?_
      exact W.iret (v := (kt0 (y1).toNatClampNeg)) hx hb hr (fun t ht hW => ⟨⟨(kt0 (y1).toNatClampNeg), (upd kt0 (y1).toNatClampNeg y2), rfl, hz.trans hq.symm, by rw [ht]; exact hP, hD⟩, hS.F ht⟩) hS.2.2 dX4_keep_39
    · have hq := fw_it c_8 hq
      refine lv_bipush (v := (-3 : Int32)) hx hb dX4_keep_21 (by decide) ?_
      exact W.iret (v := (-3 : Int32)) hx hb hr (fun t ht hW => ⟨⟨(-3 : Int32), kt0, rfl, hz.trans hq.symm, by rw [ht]; exact hP, hD⟩, hS.F ht⟩) hS.2.2 dX4_keep_23
  · have hq := fw_it c_4 hq
    refine lv_bipush (v := (-2 : Int32)) hx hb dX4_keep_8 (by decide) ?_
    exact W.iret (v := (-2 : Int32)) hx hb hr (fun t ht hW => ⟨⟨(-2 : Int32), kt0, rfl, hz.trans hq.symm, by rw [ht]; exact hP, hD⟩, hS.F ht⟩) hS.2.2 dX4_keep_10
set_option maxHeartbeats 4000000 in
set_option maxRecDepth 100000 in
theorem kX4_apart (l : Launch) (dC : Nat → ClassId) (dI : Nat → Nat → Nat) (cI cJ : ClassId) (q : Nat → Nat) (sz : Nat)  (nn0 : Int32) (ln0 : Int32) (sa0 : Nat → Int32) (sb0 : Nat → Int32) (wg0 : Nat → Int32) (kt0 : Nat → Int32) (fr0 : Nat → Int32) (pt0 : Nat → Int32) (wl0 : Nat → Int32) (tn0 : Nat → Int32) (up0 : Int64) (lo0 : Int64)  (hd : ∃ z, pX4_apart pt0 = some z) : Met l yX4_apart wsX4_apart ({ frames := 0, cells := 0, slots := 0, locals := 0 }) (fw_Pc (dC, dI) (fw_tys cI cJ) (wM cI cJ q  nn0 ln0 sa0 sb0 wg0 kt0 fr0 pt0 wl0 tn0 up0 lo0) ([.ref (q 0)] : List Value) sz) (va_Qv (fun (u : (Nat → Int32)) => pX4_apart pt0 = some u) (fun u t => fw_B (dC, dI) (va_A (wM cI cJ q  nn0 ln0 sa0 sb0 wg0 kt0 fr0 pt0 wl0 tn0 up0 lo0) sz) (wM cI cJ q  nn0 ln0 sa0 sb0 wg0 kt0 fr0 u wl0 tn0 up0 lo0) t) (va_A (wM cI cJ q  nn0 ln0 sa0 sb0 wg0 kt0 fr0 pt0 wl0 tn0 up0 lo0) sz)) 0 0 (va_A (wM cI cJ q  nn0 ln0 sa0 sb0 wg0 kt0 fr0 pt0 wl0 tn0 up0 lo0) sz) := by
  obtain ⟨z, hz⟩ := hd
  refine Met.ofW (cc := cX4_apart) (maxL := 2) (ret := none) (by decide) rfl ?_
  intro p e s m args below meth c s₁ B hml hv
  obtain ⟨rfl, hsz, hP, hK, hD0, hN⟩ := hv
  have hx := B.exec
  have hb := B.bytes
  have hr := B.returns
  have hts := atoms_spec (ws := wsX4_apart) B.pre
  have hown : s.vm.findClass RX4 = some m.cls := findClass_of_methodNamed B.named
  have hlocks := B.notSynchronized
  subst hsz
  have hD := hD0.self (sz := s.heap.size)
  generalize hAe : va_A (wM cI cJ q  nn0 ln0 sa0 sb0 wg0 kt0 fr0 pt0 wl0 tn0 up0 lo0) s.heap.size = A at hD ⊢
  have hA : ∀ q : Nat, s.heap.size ≤ q → A q := fun q h => by rw [← hAe]; exact Or.inr h
  have hinX4 : ∀ w ∈ u_ws RX4 TX4 12, w ∈ wsX4_apart := by decide +kernel
  have hf29 := hts (.fieldLink RX4 29 "FewLinesModel" "part" "[I") (by decide +kernel)
  have L2 : ∀  (e9 : Int32 × (Nat → Int32)), (∀ (x1' : Int32) (pt' : Nat → Int32) (H : Heap) (locs : List Loc) (ls : Array Slot), e9 = (x1', pt') → va_P (dC, dI) vwCl (wM cI cJ q  nn0 ln0 sa0 sb0 wg0 kt0 fr0 pt' wl0 tn0 up0 lo0) H → va_D A (wM cI cJ q  nn0 ln0 sa0 sb0 wg0 kt0 fr0 pt' wl0 tn0 up0 lo0) → va_S A s.heap H locs → lv_has ls 2 [(0, .ref (q 0)), (1, .int x1')] → W p l e (headSpec wsX4_apart ({ frames := 0, cells := 0, slots := 0, locals := 0 })).room s m ([.ref (q 0)] : List Value).toArray below meth c H locs 0 0 (MQ below (va_Qv (fun (u : (Nat → Int32)) => pX4_apart pt0 = some u) (fun u t => fw_B (dC, dI) A (wM cI cJ q  nn0 ln0 sa0 sb0 wg0 kt0 fr0 u wl0 tn0 up0 lo0) t) A) ([.ref (q 0)] : List Value).toArray s 0 0 A) (F0 m 21 ls [])) → ∀ (n9 : Nat) (x1 : Int32) (pt : Nat → Int32) (H : Heap) (locs : List Loc) (ls : Array Slot), fw_wh (pX4_apart_2 ) n9 (x1, pt) = some e9 → va_P (dC, dI) vwCl (wM cI cJ q  nn0 ln0 sa0 sb0 wg0 kt0 fr0 pt wl0 tn0 up0 lo0) H → va_D A (wM cI cJ q  nn0 ln0 sa0 sb0 wg0 kt0 fr0 pt wl0 tn0 up0 lo0) → va_S A s.heap H locs → lv_has ls 2 [(0, .ref (q 0)), (1, .int x1)] → W p l e (headSpec wsX4_apart ({ frames := 0, cells := 0, slots := 0, locals := 0 })).room s m ([.ref (q 0)] : List Value).toArray below meth c H locs 0 0 (MQ below (va_Qv (fun (u : (Nat → Int32)) => pX4_apart pt0 = some u) (fun u t => fw_B (dC, dI) A (wM cI cJ q  nn0 ln0 sa0 sb0 wg0 kt0 fr0 u wl0 tn0 up0 lo0) t) A) ([.ref (q 0)] : List Value).toArray s 0 0 A) (F0 m 2 ls []) := by
    intro  e9 hkk n9
    induction n9 with
    | zero => exact fun _ _ H locs ls hq => (fw_wh0 hq).elim
    | succ n9 ih =>
      intro x1 pt H locs ls hq hP hD hS hl
      obtain ⟨w9, hq, hwI, hwE⟩ := fw_wh1 hq
      dsimp only [pX4_apart_2] at hq
      refine lv_iload_n hx hb dX4_apart_2 rfl (lv_at hl 1 rfl) ?_
      refine lv_bipush (v := (7 : Int32)) hx hb dX4_apart_3 (by decide) ?_
      refine lv_icmp_ge (tgt := 21) hx hb dX4_apart_5 (by decide) (fun c_1 => ?_) (fun c_1 => ?_)
      · have hq := fw_it c_1 hq
        exact hkk x1 pt H locs ls (hwE _ (Option.some.inj hq).symm) hP hD hS (lv_sub hl [0, 1] rfl)
      · have hq := fw_if c_1 hq
        refine lv_aload_n hx hb dX4_apart_8 rfl (lv_at hl 0 rfl) ?_
        refine va_get (D := (dC, dI)) (ci := 4) (v := .ref (q 6)) (C := RX4) (T := TX4) (N := 12) hx hb hts hinX4 hown hK hP 0 rfl rfl 7 (by decide) hf29 (fun _ h9 => h9) rfl dX4_apart_9 ?_
        refine lv_iload_n hx hb dX4_apart_12 rfl (lv_at hl 1 rfl) ?_
        refine lv_iload_n hx hb dX4_apart_13 rfl (lv_at hl 1 rfl) ?_
        obtain ⟨h_2, hq⟩ := fw_ck_s hq
        refine va_iast hx hb hK hP hD hS 6 0 rfl rfl h_2 dX4_apart_14 (fun H locs hP hD hS => ?_)
        have hP : va_P (dC, dI) vwCl (wM cI cJ q  nn0 ln0 sa0 sb0 wg0 kt0 fr0 (upd pt (x1).toNatClampNeg x1) wl0 tn0 up0 lo0) H := hP
        have hD : va_D A (wM cI cJ q  nn0 ln0 sa0 sb0 wg0 kt0 fr0 (upd pt (x1).toNatClampNeg x1) wl0 tn0 up0 lo0) := hD
        refine lv_iinc (v := (x1 + (1 : Int32))) (lv' := [(1, .int (x1 + (1 : Int32))), (0, .ref (q 0))]) hx hb dX4_apart_15 hl (k := 1) rfl rfl (by decide) rfl (fun ls hl => ?_)
        refine lv_goto (tgt := 2) hx hb dX4_apart_18 (by decide) ?_
        exact ih (x1 + (1 : Int32)) (upd pt (x1).toNatClampNeg x1) H locs ls (hwI _ (Option.some.inj hq).symm) hP hD hS (lv_sub hl [1, 0] rfl)
  have hq := hz
  dsimp only [pX4_apart] at hq
  have hl := lv_entry (([.ref (q 0)] : List Value)) (n := 2) (Nat.le_of_ble_eq_true rfl)
  rw [lg_entry_eq]
  generalize (lg_sl (([.ref (q 0)] : List Value)) ++ List.replicate (2 - (lg_sl (([.ref (q 0)] : List Value))).length) Slot.unset).toArray = ls at hl ⊢
  have hl : lv_has ls 2 [(0, .ref (q 0))] := hl
  obtain ⟨H, hHe⟩ : ∃ H : Heap, H = s.heap := ⟨_, rfl⟩
  obtain ⟨locs, hLe⟩ : ∃ L : List Loc, L = [] := ⟨_, rfl⟩
  have hP : va_P (dC, dI) vwCl (wM cI cJ q  nn0 ln0 sa0 sb0 wg0 kt0 fr0 pt0 wl0 tn0 up0 lo0) H := by rw [hHe]; exact hP
  have hS : va_S A s.heap H locs := by rw [hHe, hLe]; exact va_S.rf
  show W p l e (headSpec wsX4_apart ({ frames := 0, cells := 0, slots := 0, locals := 0 })).room s m ([.ref (q 0)] : List Value).toArray below meth c s.heap [] 0 0 (MQ below (va_Qv (fun (u : (Nat → Int32)) => pX4_apart pt0 = some u) (fun u t => fw_B (dC, dI) A (wM cI cJ q  nn0 ln0 sa0 sb0 wg0 kt0 fr0 u wl0 tn0 up0 lo0) t) A) ([.ref (q 0)] : List Value).toArray s 0 0 A) (F0 m 0 ls [])
  rw [← hHe, ← hLe]
  refine lv_iconst (v := (0 : Int32)) hx hb dX4_apart_0 (by decide) ?_
  refine lv_istore_n (lv' := [(1, .int (0 : Int32)), (0, .ref (q 0))]) hx hb dX4_apart_1 rfl hl (by decide) rfl (fun ls hl => ?_)
  obtain ⟨e_5, hw, hq⟩ := fw_bb hq
  refine L2  e_5 (fun x1_3 pt_4 H locs ls he hP hD hS hl => ?_) fw_N (0 : Int32) pt0 H locs ls hw hP hD hS (lv_sub hl [1, 0] rfl)
  subst he
  try dsimp only at hq
  exact W.vret hx hb hr (fun t ht hW => ⟨⟨pt_4, rfl, hz.trans hq.symm, by rw [ht]; exact hP, hD⟩, hS.F ht⟩) hS.2.2 dX4_apart_21
set_option maxHeartbeats 4000000 in
set_option maxRecDepth 100000 in
theorem kX4_join (l : Launch) (dC : Nat → ClassId) (dI : Nat → Nat → Nat) (cI cJ : ClassId) (q : Nat → Nat) (sz : Nat)  (nn0 : Int32) (ln0 : Int32) (sa0 : Nat → Int32) (sb0 : Nat → Int32) (wg0 : Nat → Int32) (kt0 : Nat → Int32) (fr0 : Nat → Int32) (pt0 : Nat → Int32) (wl0 : Nat → Int32) (tn0 : Nat → Int32) (up0 : Int64) (lo0 : Int64) (y1 : Int32) (hd : ∃ z, pX4_join nn0 sa0 sb0 pt0 y1 = some z) : Met l yX4_join wsX4_join ({ frames := 0, cells := 0, slots := 0, locals := 0 }) (fw_Pc (dC, dI) (fw_tys cI cJ) (wM cI cJ q  nn0 ln0 sa0 sb0 wg0 kt0 fr0 pt0 wl0 tn0 up0 lo0) ([.ref (q 0), .int y1] : List Value) sz) (va_Qi (fun (r : Int32) (u : (Nat → Int32)) => pX4_join nn0 sa0 sb0 pt0 y1 = some (r, u) ∧ narrow .boolean (.int r) = .int r) (fun u t => fw_B (dC, dI) (va_A (wM cI cJ q  nn0 ln0 sa0 sb0 wg0 kt0 fr0 pt0 wl0 tn0 up0 lo0) sz) (wM cI cJ q  nn0 ln0 sa0 sb0 wg0 kt0 fr0 u wl0 tn0 up0 lo0) t) (va_A (wM cI cJ q  nn0 ln0 sa0 sb0 wg0 kt0 fr0 pt0 wl0 tn0 up0 lo0) sz)) 0 0 (va_A (wM cI cJ q  nn0 ln0 sa0 sb0 wg0 kt0 fr0 pt0 wl0 tn0 up0 lo0) sz) := by
  obtain ⟨z, hz⟩ := hd
  refine Met.ofW (cc := cX4_join) (maxL := 5) (ret := (some .boolean)) (by decide) rfl ?_
  intro p e s m args below meth c s₁ B hml hv
  obtain ⟨rfl, hsz, hP, hK, hD0, hN⟩ := hv
  have hx := B.exec
  have hb := B.bytes
  have hr := B.returns
  have hts := atoms_spec (ws := wsX4_join) B.pre
  have hown : s.vm.findClass RX4 = some m.cls := findClass_of_methodNamed B.named
  have hlocks := B.notSynchronized
  subst hsz
  have hD := hD0.self (sz := s.heap.size)
  generalize hAe : va_A (wM cI cJ q  nn0 ln0 sa0 sb0 wg0 kt0 fr0 pt0 wl0 tn0 up0 lo0) s.heap.size = A at hD ⊢
  have hA : ∀ q : Nat, s.heap.size ≤ q → A q := fun q h => by rw [← hAe]; exact Or.inr h
  have hinX4 : ∀ w ∈ u_ws RX4 TX4 12, w ∈ wsX4_join := by decide +kernel
  have hf7 := hts (.fieldLink RX4 7 "FewLinesModel" "n" "I") (by decide +kernel)
  have hf13 := hts (.fieldLink RX4 13 "FewLinesModel" "as" "[I") (by decide +kernel)
  have hf17 := hts (.fieldLink RX4 17 "FewLinesModel" "bs" "[I") (by decide +kernel)
  have hf29 := hts (.fieldLink RX4 29 "FewLinesModel" "part" "[I") (by decide +kernel)
  have L27 : ∀ (x2 : Int32) (x3 : Int32) (e9 : Int32 × (Nat → Int32)), (∀ (x4' : Int32) (pt' : Nat → Int32) (H : Heap) (locs : List Loc) (ls : Array Slot), e9 = (x4', pt') → va_P (dC, dI) vwCl (wM cI cJ q  nn0 ln0 sa0 sb0 wg0 kt0 fr0 pt' wl0 tn0 up0 lo0) H → va_D A (wM cI cJ q  nn0 ln0 sa0 sb0 wg0 kt0 fr0 pt' wl0 tn0 up0 lo0) → va_S A s.heap H locs → lv_has ls 5 [(0, .ref (q 0)), (2, .int x2), (3, .int x3), (4, .int x4')] → W p l e (headSpec wsX4_join ({ frames := 0, cells := 0, slots := 0, locals := 0 })).room s m ([.ref (q 0), .int y1] : List Value).toArray below meth c H locs 0 0 (MQ below (va_Qi (fun (r : Int32) (u : (Nat → Int32)) => pX4_join nn0 sa0 sb0 pt0 y1 = some (r, u) ∧ narrow .boolean (.int r) = .int r) (fun u t => fw_B (dC, dI) A (wM cI cJ q  nn0 ln0 sa0 sb0 wg0 kt0 fr0 u wl0 tn0 up0 lo0) t) A) ([.ref (q 0), .int y1] : List Value).toArray s 0 0 A) (F0 m 76 ls [])) → ∀ (n9 : Nat) (x4 : Int32) (pt : Nat → Int32) (H : Heap) (locs : List Loc) (ls : Array Slot), fw_wh (pX4_join_27 x2 x3 nn0) n9 (x4, pt) = some e9 → va_P (dC, dI) vwCl (wM cI cJ q  nn0 ln0 sa0 sb0 wg0 kt0 fr0 pt wl0 tn0 up0 lo0) H → va_D A (wM cI cJ q  nn0 ln0 sa0 sb0 wg0 kt0 fr0 pt wl0 tn0 up0 lo0) → va_S A s.heap H locs → lv_has ls 5 [(0, .ref (q 0)), (2, .int x2), (3, .int x3), (4, .int x4)] → W p l e (headSpec wsX4_join ({ frames := 0, cells := 0, slots := 0, locals := 0 })).room s m ([.ref (q 0), .int y1] : List Value).toArray below meth c H locs 0 0 (MQ below (va_Qi (fun (r : Int32) (u : (Nat → Int32)) => pX4_join nn0 sa0 sb0 pt0 y1 = some (r, u) ∧ narrow .boolean (.int r) = .int r) (fun u t => fw_B (dC, dI) A (wM cI cJ q  nn0 ln0 sa0 sb0 wg0 kt0 fr0 u wl0 tn0 up0 lo0) t) A) ([.ref (q 0), .int y1] : List Value).toArray s 0 0 A) (F0 m 27 ls []) := by
    intro x2 x3 e9 hkk n9
    induction n9 with
    | zero => exact fun _ _ H locs ls hq => (fw_wh0 hq).elim
    | succ n9 ih =>
      intro x4 pt H locs ls hq hP hD hS hl
      obtain ⟨w9, hq, hwI, hwE⟩ := fw_wh1 hq
      dsimp only [pX4_join_27] at hq
      refine lv_iload hx hb dX4_join_27 (lv_at hl 3 rfl) ?_
      refine lv_aload_n hx hb dX4_join_29 rfl (lv_at hl 0 rfl) ?_
      refine va_get (D := (dC, dI)) (ci := 4) (v := .int nn0) (C := RX4) (T := TX4) (N := 12) hx hb hts hinX4 hown hK hP 0 rfl rfl 0 (by decide) hf7 (fun _ h9 => h9) rfl dX4_join_30 ?_
      refine lv_icmp_ge (tgt := 76) hx hb dX4_join_33 (by decide) (fun c_5 => ?_) (fun c_5 => ?_)
      · have hq := fw_it c_5 hq
        exact hkk x4 pt H locs ls (hwE _ (Option.some.inj hq).symm) hP hD hS (lv_sub hl [0, 1, 2, 3] rfl)
      · have hq := fw_if c_5 hq
        refine lv_iload_n hx hb dX4_join_36 rfl (lv_at hl 1 rfl) ?_
        refine lv_iload_n hx hb dX4_join_37 rfl (lv_at hl 2 rfl) ?_
        refine lv_icmp_eq (tgt := 76) hx hb dX4_join_38 (by decide) (fun c_6 => ?_) (fun c_6 => ?_)
        · have hq := fw_it c_6 hq
          exact hkk x4 pt H locs ls (hwE _ (Option.some.inj hq).symm) hP hD hS (lv_sub hl [0, 1, 2, 3] rfl)
        · have hq := fw_if c_6 hq
          refine lv_aload_n hx hb dX4_join_41 rfl (lv_at hl 0 rfl) ?_
          refine va_get (D := (dC, dI)) (ci := 4) (v := .ref (q 6)) (C := RX4) (T := TX4) (N := 12) hx hb hts hinX4 hown hK hP 0 rfl rfl 7 (by decide) hf29 (fun _ h9 => h9) rfl dX4_join_42 ?_
          refine lv_iload hx hb dX4_join_45 (lv_at hl 3 rfl) ?_
          refine lv_aload_n hx hb dX4_join_47 rfl (lv_at hl 0 rfl) ?_
          refine va_get (D := (dC, dI)) (ci := 4) (v := .ref (q 6)) (C := RX4) (T := TX4) (N := 12) hx hb hts hinX4 hown hK hP 0 rfl rfl 7 (by decide) hf29 (fun _ h9 => h9) rfl dX4_join_48 ?_
          refine lv_iload hx hb dX4_join_51 (lv_at hl 3 rfl) ?_
          obtain ⟨h_7, hq⟩ := fw_ck_s hq
          refine va_iald hx hb hK hP 6 0 rfl rfl h_7 dX4_join_53 ?_
          refine lv_iload_n hx hb dX4_join_54 rfl (lv_at hl 2 rfl) ?_
          refine lv_icmp_ne (tgt := 62) hx hb dX4_join_55 (by decide) (fun c_8 => ?_) (fun c_8 => ?_)
          · have hq := fw_if c_8 hq
            refine lv_aload_n hx hb dX4_join_62 rfl (lv_at hl 0 rfl) ?_
            refine va_get (D := (dC, dI)) (ci := 4) (v := .ref (q 6)) (C := RX4) (T := TX4) (N := 12) hx hb hts hinX4 hown hK hP 0 rfl rfl 7 (by decide) hf29 (fun _ h9 => h9) rfl dX4_join_63 ?_
            refine lv_iload hx hb dX4_join_66 (lv_at hl 3 rfl) ?_
            obtain ⟨h_9, hq⟩ := fw_ck_s hq
            refine va_iald hx hb hK hP 6 0 rfl rfl h_9 dX4_join_68 ?_
            obtain ⟨h_10, hq⟩ := fw_ck_s hq
            refine va_iast hx hb hK hP hD hS 6 0 rfl rfl h_10 dX4_join_69 (fun H locs hP hD hS => ?_)
            have hP : va_P (dC, dI) vwCl (wM cI cJ q  nn0 ln0 sa0 sb0 wg0 kt0 fr0 (upd pt (x4).toNatClampNeg (pt (x4).toNatClampNeg)) wl0 tn0 up0 lo0) H := hP
            have hD : va_D A (wM cI cJ q  nn0 ln0 sa0 sb0 wg0 kt0 fr0 (upd pt (x4).toNatClampNeg (pt (x4).toNatClampNeg)) wl0 tn0 up0 lo0) := hD
            refine lv_iinc (v := (x4 + (1 : Int32))) (lv' := [(4, .int (x4 + (1 : Int32))), (0, .ref (q 0)), (2, .int x2), (3, .int x3)]) hx hb dX4_join_70 hl (k := 3) rfl rfl (by decide) rfl (fun ls hl => ?_)
            refine lv_goto (tgt := 27) hx hb dX4_join_73 (by decide) ?_
            exact ih (x4 + (1 : Int32)) (upd pt (x4).toNatClampNeg (pt (x4).toNatClampNeg)) H locs ls (hwI _ (Option.some.inj hq).symm) hP hD hS (lv_sub hl [1, 2, 3, 0] rfl)
          · have hq := fw_it c_8 hq
            refine lv_iload_n hx hb dX4_join_58 rfl (lv_at hl 1 rfl) ?_
            refine lv_goto (tgt := 69) hx hb dX4_join_59 (by decide) ?_
            obtain ⟨h_11, hq⟩ := fw_ck_s hq
            refine va_iast hx hb hK hP hD hS 6 0 rfl rfl h_11 dX4_join_69 (fun H locs hP hD hS => ?_)
            have hP : va_P (dC, dI) vwCl (wM cI cJ q  nn0 ln0 sa0 sb0 wg0 kt0 fr0 (upd pt (x4).toNatClampNeg x2) wl0 tn0 up0 lo0) H := hP
            have hD : va_D A (wM cI cJ q  nn0 ln0 sa0 sb0 wg0 kt0 fr0 (upd pt (x4).toNatClampNeg x2) wl0 tn0 up0 lo0) := hD
            refine lv_iinc (v := (x4 + (1 : Int32))) (lv' := [(4, .int (x4 + (1 : Int32))), (0, .ref (q 0)), (2, .int x2), (3, .int x3)]) hx hb dX4_join_70 hl (k := 3) rfl rfl (by decide) rfl (fun ls hl => ?_)
            refine lv_goto (tgt := 27) hx hb dX4_join_73 (by decide) ?_
            exact ih (x4 + (1 : Int32)) (upd pt (x4).toNatClampNeg x2) H locs ls (hwI _ (Option.some.inj hq).symm) hP hD hS (lv_sub hl [1, 2, 3, 0] rfl)
  have hq := hz
  dsimp only [pX4_join] at hq
  have hl := lv_entry (([.ref (q 0), .int y1] : List Value)) (n := 5) (Nat.le_of_ble_eq_true rfl)
  rw [lg_entry_eq]
  generalize (lg_sl (([.ref (q 0), .int y1] : List Value)) ++ List.replicate (5 - (lg_sl (([.ref (q 0), .int y1] : List Value))).length) Slot.unset).toArray = ls at hl ⊢
  have hl : lv_has ls 5 [(0, .ref (q 0)), (1, .int y1)] := hl
  obtain ⟨H, hHe⟩ : ∃ H : Heap, H = s.heap := ⟨_, rfl⟩
  obtain ⟨locs, hLe⟩ : ∃ L : List Loc, L = [] := ⟨_, rfl⟩
  have hP : va_P (dC, dI) vwCl (wM cI cJ q  nn0 ln0 sa0 sb0 wg0 kt0 fr0 pt0 wl0 tn0 up0 lo0) H := by rw [hHe]; exact hP
  have hS : va_S A s.heap H locs := by rw [hHe, hLe]; exact va_S.rf
  show W p l e (headSpec wsX4_join ({ frames := 0, cells := 0, slots := 0, locals := 0 })).room s m ([.ref (q 0), .int y1] : List Value).toArray below meth c s.heap [] 0 0 (MQ below (va_Qi (fun (r : Int32) (u : (Nat → Int32)) => pX4_join nn0 sa0 sb0 pt0 y1 = some (r, u) ∧ narrow .boolean (.int r) = .int r) (fun u t => fw_B (dC, dI) A (wM cI cJ q  nn0 ln0 sa0 sb0 wg0 kt0 fr0 u wl0 tn0 up0 lo0) t) A) ([.ref (q 0), .int y1] : List Value).toArray s 0 0 A) (F0 m 0 ls [])
  rw [← hHe, ← hLe]
  refine lv_aload_n hx hb dX4_join_0 rfl (lv_at hl 0 rfl) ?_
  refine va_get (D := (dC, dI)) (ci := 4) (v := .ref (q 6)) (C := RX4) (T := TX4) (N := 12) hx hb hts hinX4 hown hK hP 0 rfl rfl 7 (by decide) hf29 (fun _ h9 => h9) rfl dX4_join_1 ?_
  refine lv_aload_n hx hb dX4_join_4 rfl (lv_at hl 0 rfl) ?_
  refine va_get (D := (dC, dI)) (ci := 4) (v := .ref (q 1)) (C := RX4) (T := TX4) (N := 12) hx hb hts hinX4 hown hK hP 0 rfl rfl 2 (by decide) hf13 (fun _ h9 => h9) rfl dX4_join_5 ?_
  refine lv_iload_n hx hb dX4_join_8 rfl (lv_at hl 1 rfl) ?_
  obtain ⟨h_1, hq⟩ := fw_ck_s hq
  refine va_iald hx hb hK hP 1 0 rfl rfl h_1 dX4_join_9 ?_
  obtain ⟨h_2, hq⟩ := fw_ck_s hq
  refine va_iald hx hb hK hP 6 0 rfl rfl h_2 dX4_join_10 ?_
  refine lv_istore_n (lv' := [(2, .int (pt0 ((sa0 (y1).toNatClampNeg)).toNatClampNeg)), (0, .ref (q 0)), (1, .int y1)]) hx hb dX4_join_11 rfl hl (by decide) rfl (fun ls hl => ?_)
  refine lv_aload_n hx hb dX4_join_12 rfl (lv_at hl 1 rfl) ?_
  refine va_get (D := (dC, dI)) (ci := 4) (v := .ref (q 6)) (C := RX4) (T := TX4) (N := 12) hx hb hts hinX4 hown hK hP 0 rfl rfl 7 (by decide) hf29 (fun _ h9 => h9) rfl dX4_join_13 ?_
  refine lv_aload_n hx hb dX4_join_16 rfl (lv_at hl 1 rfl) ?_
  refine va_get (D := (dC, dI)) (ci := 4) (v := .ref (q 2)) (C := RX4) (T := TX4) (N := 12) hx hb hts hinX4 hown hK hP 0 rfl rfl 3 (by decide) hf17 (fun _ h9 => h9) rfl dX4_join_17 ?_
  refine lv_iload_n hx hb dX4_join_20 rfl (lv_at hl 2 rfl) ?_
  obtain ⟨h_3, hq⟩ := fw_ck_s hq
  refine va_iald hx hb hK hP 2 0 rfl rfl h_3 dX4_join_21 ?_
  obtain ⟨h_4, hq⟩ := fw_ck_s hq
  refine va_iald hx hb hK hP 6 0 rfl rfl h_4 dX4_join_22 ?_
  refine lv_istore_n (lv' := [(3, .int (pt0 ((sb0 (y1).toNatClampNeg)).toNatClampNeg)), (2, .int (pt0 ((sa0 (y1).toNatClampNeg)).toNatClampNeg)), (0, .ref (q 0)), (1, .int y1)]) hx hb dX4_join_23 rfl hl (by decide) rfl (fun ls hl => ?_)
  refine lv_iconst (v := (0 : Int32)) hx hb dX4_join_24 (by decide) ?_
  refine lv_istore (lv' := [(4, .int (0 : Int32)), (3, .int (pt0 ((sb0 (y1).toNatClampNeg)).toNatClampNeg)), (2, .int (pt0 ((sa0 (y1).toNatClampNeg)).toNatClampNeg)), (0, .ref (q 0)), (1, .int y1)]) hx hb dX4_join_25 hl (by decide) rfl (fun ls hl => ?_)
  obtain ⟨e_14, hw, hq⟩ := fw_bb hq
  refine L27 (pt0 ((sa0 (y1).toNatClampNeg)).toNatClampNeg) (pt0 ((sb0 (y1).toNatClampNeg)).toNatClampNeg) e_14 (fun x4_12 pt_13 H locs ls he hP hD hS hl => ?_) fw_N (0 : Int32) pt0 H locs ls hw hP hD hS (lv_sub hl [3, 2, 1, 0] rfl)
  subst he
  try dsimp only at hq
  refine lv_iload_n hx hb dX4_join_76 rfl (lv_at hl 1 rfl) ?_
  refine lv_iload_n hx hb dX4_join_77 rfl (lv_at hl 2 rfl) ?_
  refine lv_icmp_eq (tgt := 85) hx hb dX4_join_78 (by decide) (fun c_15 => ?_) (fun c_15 => ?_)
  · have hq := fw_it c_15 hq
    refine lv_iconst (v := (0 : Int32)) hx hb dX4_join_85 (by decide) ?_
    exact W.zret (v := (0 : Int32)) (ty := .boolean) hx hb hr rfl (fun t ht hW => ⟨⟨(0 : Int32), pt_13, rfl, ⟨hz.trans hq.symm, rfl⟩, by rw [ht]; exact hP, hD⟩, hS.F ht⟩) hS.2.2 dX4_join_86
  · have hq := fw_if c_15 hq
    refine lv_iconst (v := (1 : Int32)) hx hb dX4_join_81 (by decide) ?_
    refine lv_goto (tgt := 86) hx hb dX4_join_82 (by decide) ?_
    exact W.zret (v := (1 : Int32)) (ty := .boolean) hx hb hr rfl (fun t ht hW => ⟨⟨(1 : Int32), pt_13, rfl, ⟨hz.trans hq.symm, rfl⟩, by rw [ht]; exact hP, hD⟩, hS.F ht⟩) hS.2.2 dX4_join_86
set_option maxHeartbeats 4000000 in
set_option maxRecDepth 100000 in
theorem kX4_findForests (l : Launch) (dC : Nat → ClassId) (dI : Nat → Nat → Nat) (cI cJ : ClassId) (q : Nat → Nat) (sz : Nat)  (nn0 : Int32) (ln0 : Int32) (sa0 : Nat → Int32) (sb0 : Nat → Int32) (wg0 : Nat → Int32) (kt0 : Nat → Int32) (fr0 : Nat → Int32) (pt0 : Nat → Int32) (wl0 : Nat → Int32) (tn0 : Nat → Int32) (up0 : Int64) (lo0 : Int64)  (hd : ∃ z, pX4_findForests nn0 ln0 sa0 sb0 fr0 pt0 = some z) : Met l yX4_findForests wsX4_findForests ({ frames := 1, cells := 0, slots := 0, locals := 24 }) (fw_Pc (dC, dI) (fw_tys cI cJ) (wM cI cJ q  nn0 ln0 sa0 sb0 wg0 kt0 fr0 pt0 wl0 tn0 up0 lo0) ([.ref (q 0)] : List Value) sz) (va_Qi (fun (r : Int32) (u : (Nat → Int32) × (Nat → Int32)) => pX4_findForests nn0 ln0 sa0 sb0 fr0 pt0 = some (r, u)) (fun u t => fw_B (dC, dI) (va_A (wM cI cJ q  nn0 ln0 sa0 sb0 wg0 kt0 fr0 pt0 wl0 tn0 up0 lo0) sz) (wM cI cJ q  nn0 ln0 sa0 sb0 wg0 kt0 u.1 u.2 wl0 tn0 up0 lo0) t) (va_A (wM cI cJ q  nn0 ln0 sa0 sb0 wg0 kt0 fr0 pt0 wl0 tn0 up0 lo0) sz)) 0 0 (va_A (wM cI cJ q  nn0 ln0 sa0 sb0 wg0 kt0 fr0 pt0 wl0 tn0 up0 lo0) sz) := by
  obtain ⟨z, hz⟩ := hd
  refine Met.ofW (cc := cX4_findForests) (maxL := 4) (ret := (some .int)) (by decide) rfl ?_
  intro p e s m args below meth c s₁ B hml hv
  obtain ⟨rfl, hsz, hP, hK, hD0, hN⟩ := hv
  have hx := B.exec
  have hb := B.bytes
  have hr := B.returns
  have hts := atoms_spec (ws := wsX4_findForests) B.pre
  have hown : s.vm.findClass RX4 = some m.cls := findClass_of_methodNamed B.named
  have hlocks := B.notSynchronized
  subst hsz
  have hD := hD0.self (sz := s.heap.size)
  generalize hAe : va_A (wM cI cJ q  nn0 ln0 sa0 sb0 wg0 kt0 fr0 pt0 wl0 tn0 up0 lo0) s.heap.size = A at hD ⊢
  have hA : ∀ q : Nat, s.heap.size ≤ q → A q := fun q h => by rw [← hAe]; exact Or.inr h
  have hinX4 : ∀ w ∈ u_ws RX4 TX4 12, w ∈ wsX4_findForests := by decide +kernel
  have hf26 := hts (.fieldLink RX4 26 "FewLinesModel" "forest" "[I") (by decide +kernel)
  have hf42 := hts (.fieldLink RX4 42 "FewLinesModel" "lines" "I") (by decide +kernel)
  have L2 : ∀ (pt : Nat → Int32) (e9 : Int32 × (Nat → Int32)), (∀ (x1' : Int32) (fr' : Nat → Int32) (H : Heap) (locs : List Loc) (ls : Array Slot), e9 = (x1', fr') → va_P (dC, dI) vwCl (wM cI cJ q  nn0 ln0 sa0 sb0 wg0 kt0 fr' pt wl0 tn0 up0 lo0) H → va_D A (wM cI cJ q  nn0 ln0 sa0 sb0 wg0 kt0 fr' pt wl0 tn0 up0 lo0) → va_S A s.heap H locs → lv_has ls 4 [(0, .ref (q 0)), (1, .int x1')] → W p l e (headSpec wsX4_findForests ({ frames := 1, cells := 0, slots := 0, locals := 24 })).room s m ([.ref (q 0)] : List Value).toArray below meth c H locs 0 0 (MQ below (va_Qi (fun (r : Int32) (u : (Nat → Int32) × (Nat → Int32)) => pX4_findForests nn0 ln0 sa0 sb0 fr0 pt0 = some (r, u)) (fun u t => fw_B (dC, dI) A (wM cI cJ q  nn0 ln0 sa0 sb0 wg0 kt0 u.1 u.2 wl0 tn0 up0 lo0) t) A) ([.ref (q 0)] : List Value).toArray s 0 0 A) (F0 m 23 ls [])) → ∀ (n9 : Nat) (x1 : Int32) (fr : Nat → Int32) (H : Heap) (locs : List Loc) (ls : Array Slot), fw_wh (pX4_findForests_2 ln0) n9 (x1, fr) = some e9 → va_P (dC, dI) vwCl (wM cI cJ q  nn0 ln0 sa0 sb0 wg0 kt0 fr pt wl0 tn0 up0 lo0) H → va_D A (wM cI cJ q  nn0 ln0 sa0 sb0 wg0 kt0 fr pt wl0 tn0 up0 lo0) → va_S A s.heap H locs → lv_has ls 4 [(0, .ref (q 0)), (1, .int x1)] → W p l e (headSpec wsX4_findForests ({ frames := 1, cells := 0, slots := 0, locals := 24 })).room s m ([.ref (q 0)] : List Value).toArray below meth c H locs 0 0 (MQ below (va_Qi (fun (r : Int32) (u : (Nat → Int32) × (Nat → Int32)) => pX4_findForests nn0 ln0 sa0 sb0 fr0 pt0 = some (r, u)) (fun u t => fw_B (dC, dI) A (wM cI cJ q  nn0 ln0 sa0 sb0 wg0 kt0 u.1 u.2 wl0 tn0 up0 lo0) t) A) ([.ref (q 0)] : List Value).toArray s 0 0 A) (F0 m 2 ls []) := by
    intro pt e9 hkk n9
    induction n9 with
    | zero => exact fun _ _ H locs ls hq => (fw_wh0 hq).elim
    | succ n9 ih =>
      intro x1 fr H locs ls hq hP hD hS hl
      obtain ⟨w9, hq, hwI, hwE⟩ := fw_wh1 hq
      dsimp only [pX4_findForests_2] at hq
      refine lv_iload_n hx hb dX4_findForests_2 rfl (lv_at hl 1 rfl) ?_
      refine lv_aload_n hx hb dX4_findForests_3 rfl (lv_at hl 0 rfl) ?_
      refine va_get (D := (dC, dI)) (ci := 4) (v := .int ln0) (C := RX4) (T := TX4) (N := 12) hx hb hts hinX4 hown hK hP 0 rfl rfl 1 (by decide) hf42 (fun _ h9 => h9) rfl dX4_findForests_4 ?_
      refine lv_icmp_ge (tgt := 23) hx hb dX4_findForests_7 (by decide) (fun c_1 => ?_) (fun c_1 => ?_)
      · have hq := fw_it c_1 hq
        exact hkk x1 fr H locs ls (hwE _ (Option.some.inj hq).symm) hP hD hS (lv_sub hl [0, 1] rfl)
      · have hq := fw_if c_1 hq
        refine lv_aload_n hx hb dX4_findForests_10 rfl (lv_at hl 0 rfl) ?_
        refine va_get (D := (dC, dI)) (ci := 4) (v := .ref (q 5)) (C := RX4) (T := TX4) (N := 12) hx hb hts hinX4 hown hK hP 0 rfl rfl 6 (by decide) hf26 (fun _ h9 => h9) rfl dX4_findForests_11 ?_
        refine lv_iload_n hx hb dX4_findForests_14 rfl (lv_at hl 1 rfl) ?_
        refine lv_iconst (v := (0 : Int32)) hx hb dX4_findForests_15 (by decide) ?_
        obtain ⟨h_2, hq⟩ := fw_ck_s hq
        refine va_iast hx hb hK hP hD hS 5 0 rfl rfl h_2 dX4_findForests_16 (fun H locs hP hD hS => ?_)
        have hP : va_P (dC, dI) vwCl (wM cI cJ q  nn0 ln0 sa0 sb0 wg0 kt0 (upd fr (x1).toNatClampNeg (0 : Int32)) pt wl0 tn0 up0 lo0) H := hP
        have hD : va_D A (wM cI cJ q  nn0 ln0 sa0 sb0 wg0 kt0 (upd fr (x1).toNatClampNeg (0 : Int32)) pt wl0 tn0 up0 lo0) := hD
        refine lv_iinc (v := (x1 + (1 : Int32))) (lv' := [(1, .int (x1 + (1 : Int32))), (0, .ref (q 0))]) hx hb dX4_findForests_17 hl (k := 1) rfl rfl (by decide) rfl (fun ls hl => ?_)
        refine lv_goto (tgt := 2) hx hb dX4_findForests_20 (by decide) ?_
        exact ih (x1 + (1 : Int32)) (upd fr (x1).toNatClampNeg (0 : Int32)) H locs ls (hwI _ (Option.some.inj hq).symm) hP hD hS (lv_sub hl [1, 0] rfl)
  have L43 : ∀ (x2 : Int32) (e9 : Int32 × Int32 × (Nat → Int32) × (Nat → Int32)), (∀ (x1' : Int32) (x3' : Int32) (fr' : Nat → Int32) (pt' : Nat → Int32) (H : Heap) (locs : List Loc) (ls : Array Slot), e9 = (x1', x3', fr', pt') → va_P (dC, dI) vwCl (wM cI cJ q  nn0 ln0 sa0 sb0 wg0 kt0 fr' pt' wl0 tn0 up0 lo0) H → va_D A (wM cI cJ q  nn0 ln0 sa0 sb0 wg0 kt0 fr' pt' wl0 tn0 up0 lo0) → va_S A s.heap H locs → lv_has ls 4 [(0, .ref (q 0)), (1, .int x1'), (2, .int x2), (3, .int x3')] → W p l e (headSpec wsX4_findForests ({ frames := 1, cells := 0, slots := 0, locals := 24 })).room s m ([.ref (q 0)] : List Value).toArray below meth c H locs 0 0 (MQ below (va_Qi (fun (r : Int32) (u : (Nat → Int32) × (Nat → Int32)) => pX4_findForests nn0 ln0 sa0 sb0 fr0 pt0 = some (r, u)) (fun u t => fw_B (dC, dI) A (wM cI cJ q  nn0 ln0 sa0 sb0 wg0 kt0 u.1 u.2 wl0 tn0 up0 lo0) t) A) ([.ref (q 0)] : List Value).toArray s 0 0 A) (F0 m 84 ls [])) → ∀ (n9 : Nat) (x1 : Int32) (x3 : Int32) (fr : Nat → Int32) (pt : Nat → Int32) (H : Heap) (locs : List Loc) (ls : Array Slot), fw_wh (pX4_findForests_43 x2 nn0 ln0 sa0 sb0) n9 (x1, x3, fr, pt) = some e9 → va_P (dC, dI) vwCl (wM cI cJ q  nn0 ln0 sa0 sb0 wg0 kt0 fr pt wl0 tn0 up0 lo0) H → va_D A (wM cI cJ q  nn0 ln0 sa0 sb0 wg0 kt0 fr pt wl0 tn0 up0 lo0) → va_S A s.heap H locs → lv_has ls 4 [(0, .ref (q 0)), (1, .int x1), (2, .int x2), (3, .int x3)] → W p l e (headSpec wsX4_findForests ({ frames := 1, cells := 0, slots := 0, locals := 24 })).room s m ([.ref (q 0)] : List Value).toArray below meth c H locs 0 0 (MQ below (va_Qi (fun (r : Int32) (u : (Nat → Int32) × (Nat → Int32)) => pX4_findForests nn0 ln0 sa0 sb0 fr0 pt0 = some (r, u)) (fun u t => fw_B (dC, dI) A (wM cI cJ q  nn0 ln0 sa0 sb0 wg0 kt0 u.1 u.2 wl0 tn0 up0 lo0) t) A) ([.ref (q 0)] : List Value).toArray s 0 0 A) (F0 m 43 ls []) := by
    intro x2 e9 hkk n9
    induction n9 with
    | zero => exact fun _ _ _ _ H locs ls hq => (fw_wh0 hq).elim
    | succ n9 ih =>
      intro x1 x3 fr pt H locs ls hq hP hD hS hl
      obtain ⟨w9, hq, hwI, hwE⟩ := fw_wh1 hq
      dsimp only [pX4_findForests_43] at hq
      refine lv_iload_n hx hb dX4_findForests_43 rfl (lv_at hl 3 rfl) ?_
      refine lv_aload_n hx hb dX4_findForests_44 rfl (lv_at hl 0 rfl) ?_
      refine va_get (D := (dC, dI)) (ci := 4) (v := .int ln0) (C := RX4) (T := TX4) (N := 12) hx hb hts hinX4 hown hK hP 0 rfl rfl 1 (by decide) hf42 (fun _ h9 => h9) rfl dX4_findForests_45 ?_
      refine lv_icmp_ge (tgt := 84) hx hb dX4_findForests_48 (by decide) (fun c_10 => ?_) (fun c_10 => ?_)
      · have hq := fw_it c_10 hq
        exact hkk x1 x3 fr pt H locs ls (hwE _ (Option.some.inj hq).symm) hP hD hS (lv_sub hl [0, 1, 2, 3] rfl)
      · have hq := fw_if c_10 hq
        refine lv_aload_n hx hb dX4_findForests_51 rfl (lv_at hl 0 rfl) ?_
        refine va_get (D := (dC, dI)) (ci := 4) (v := .ref (q 5)) (C := RX4) (T := TX4) (N := 12) hx hb hts hinX4 hown hK hP 0 rfl rfl 6 (by decide) hf26 (fun _ h9 => h9) rfl dX4_findForests_52 ?_
        refine lv_iload_n hx hb dX4_findForests_55 rfl (lv_at hl 3 rfl) ?_
        obtain ⟨h_11, hq⟩ := fw_ck_s hq
        refine va_iald hx hb hK hP 5 0 rfl rfl h_11 dX4_findForests_56 ?_
        refine lv_if_ne (tgt := 78) hx hb dX4_findForests_57 (by decide) (fun c_12 => ?_) (fun c_12 => ?_)
        · have hq := fw_if c_12 hq
          refine lv_iinc (v := (x3 + (1 : Int32))) (lv' := [(3, .int (x3 + (1 : Int32))), (0, .ref (q 0)), (1, .int x1), (2, .int x2)]) hx hb dX4_findForests_78 hl (k := 3) rfl rfl (by decide) rfl (fun ls hl => ?_)
          refine lv_goto (tgt := 43) hx hb dX4_findForests_81 (by decide) ?_
          exact ih x1 (x3 + (1 : Int32)) fr pt H locs ls (hwI _ (Option.some.inj hq).symm) hP hD hS (lv_sub hl [1, 2, 3, 0] rfl)
        · have hq := fw_it c_12 hq
          refine lv_aload_n hx hb dX4_findForests_60 rfl (lv_at hl 0 rfl) ?_
          refine lv_iload_n hx hb dX4_findForests_61 rfl (lv_at hl 3 rfl) ?_
          have hPc := hP.sub (ws' := (wM cI cJ q  nn0 ln0 sa0 sb0 wg0 kt0 fr pt wl0 tn0 up0 lo0)) [0, 1, 2, 3, 4, 5, 6, 7, 8] rfl
          have hDc := hD.sub (ws' := (wM cI cJ q  nn0 ln0 sa0 sb0 wg0 kt0 fr pt wl0 tn0 up0 lo0)) [0, 1, 2, 3, 4, 5, 6, 7, 8] (by decide) rfl
          refine fw_ci (wr := []) (w2 := fun u => (wM cI cJ q  nn0 ln0 sa0 sb0 wg0 kt0 fr u wl0 tn0 up0 lo0)) [0, 1, 2, 3, 4, 5, 6, 7, 8] [] [0, 1, 2, 3, 4, 5, 6, 7, 8] (va_runV (b := (q 0)) (As := [.int x3]) (rest := []) ⟨hx, hb, hml, hown, hts⟩ (kX4_join l dC dI cI cJ q H.size  nn0 ln0 sa0 sb0 wg0 kt0 fr pt wl0 tn0 up0 lo0 x3 (fw_be hq)) (cwV 1 hts gX4_findForests_X4_join rfl rfl rfl (by decide +kernel) ⟨Nat.le_of_ble_eq_true rfl, Nat.le_of_ble_eq_true rfl⟩) ⟨fw_blind, va_recv hK hPc (ci := 4) (q0 := 0) rfl rfl, fun U hU hW => fw_pre hPc hK hDc hN hU hW⟩ rfl rfl hl.1 rfl (lv_room (Nat.le_of_ble_eq_true rfl)) dX4_findForests_62 ⟨Nat.zero_le _, Nat.zero_le _⟩) hP hD hS hA rfl rfl (by decide) (by decide) (by decide) (fun _ => rfl) (fun r_14 u H locs hw hP hD hS => ?_)
          obtain ⟨pt_13, rfl⟩ : ∃ z, z = u := ⟨_, rfl⟩
          obtain ⟨hw, n_16⟩ := hw
          have hq := fw_bs hw hq
          try dsimp only at hq
          have hP : va_P (dC, dI) vwCl (wM cI cJ q  nn0 ln0 sa0 sb0 wg0 kt0 fr pt_13 wl0 tn0 up0 lo0) H := hP
          have hD : va_D A (wM cI cJ q  nn0 ln0 sa0 sb0 wg0 kt0 fr pt_13 wl0 tn0 up0 lo0) := hD
          refine lv_if_eq (tgt := 78) hx hb dX4_findForests_65 (by decide) (fun c_17 => ?_) (fun c_17 => ?_)
          · have hq := fw_it c_17 hq
            refine lv_iinc (v := (x3 + (1 : Int32))) (lv' := [(3, .int (x3 + (1 : Int32))), (0, .ref (q 0)), (1, .int x1), (2, .int x2)]) hx hb dX4_findForests_78 hl (k := 3) rfl rfl (by decide) rfl (fun ls hl => ?_)
            refine lv_goto (tgt := 43) hx hb dX4_findForests_81 (by decide) ?_
            exact ih x1 (x3 + (1 : Int32)) fr pt_13 H locs ls (hwI _ (Option.some.inj hq).symm) hP hD hS (lv_sub hl [1, 2, 3, 0] rfl)
          · have hq := fw_if c_17 hq
            refine lv_aload_n hx hb dX4_findForests_68 rfl (lv_at hl 0 rfl) ?_
            refine va_get (D := (dC, dI)) (ci := 4) (v := .ref (q 5)) (C := RX4) (T := TX4) (N := 12) hx hb hts hinX4 hown hK hP 0 rfl rfl 6 (by decide) hf26 (fun _ h9 => h9) rfl dX4_findForests_69 ?_
            refine lv_iload_n hx hb dX4_findForests_72 rfl (lv_at hl 3 rfl) ?_
            refine lv_iload_n hx hb dX4_findForests_73 rfl (lv_at hl 2 rfl) ?_
            obtain ⟨h_18, hq⟩ := fw_ck_s hq
            refine va_iast hx hb hK hP hD hS 5 0 rfl rfl h_18 dX4_findForests_74 (fun H locs hP hD hS => ?_)
            have hP : va_P (dC, dI) vwCl (wM cI cJ q  nn0 ln0 sa0 sb0 wg0 kt0 (upd fr (x3).toNatClampNeg x2) pt_13 wl0 tn0 up0 lo0) H := hP
            have hD : va_D A (wM cI cJ q  nn0 ln0 sa0 sb0 wg0 kt0 (upd fr (x3).toNatClampNeg x2) pt_13 wl0 tn0 up0 lo0) := hD
            refine lv_iinc (v := (x1 + (-1 : Int32))) (lv' := [(1, .int (x1 + (-1 : Int32))), (0, .ref (q 0)), (2, .int x2), (3, .int x3)]) hx hb dX4_findForests_75 hl (k := 1) rfl rfl (by decide) rfl (fun ls hl => ?_)
            refine lv_iinc (v := (x3 + (1 : Int32))) (lv' := [(3, .int (x3 + (1 : Int32))), (1, .int (x1 + (-1 : Int32))), (0, .ref (q 0)), (2, .int x2)]) hx hb dX4_findForests_78 hl (k := 3) rfl rfl (by decide) rfl (fun ls hl => ?_)
            refine lv_goto (tgt := 43) hx hb dX4_findForests_81 (by decide) ?_
            exact ih (x1 + (-1 : Int32)) (x3 + (1 : Int32)) (upd fr (x3).toNatClampNeg x2) pt_13 H locs ls (hwI _ (Option.some.inj hq).symm) hP hD hS (lv_sub hl [2, 1, 3, 0] rfl)
  have L30 : ∀  (e9 : Int32 × Int32 × (Nat → Int32) × (Nat → Int32)), (∀ (x1' : Int32) (x2' : Int32) (fr' : Nat → Int32) (pt' : Nat → Int32) (H : Heap) (locs : List Loc) (ls : Array Slot), e9 = (x1', x2', fr', pt') → va_P (dC, dI) vwCl (wM cI cJ q  nn0 ln0 sa0 sb0 wg0 kt0 fr' pt' wl0 tn0 up0 lo0) H → va_D A (wM cI cJ q  nn0 ln0 sa0 sb0 wg0 kt0 fr' pt' wl0 tn0 up0 lo0) → va_S A s.heap H locs → lv_has ls 4 [(0, .ref (q 0)), (1, .int x1'), (2, .int x2')] → W p l e (headSpec wsX4_findForests ({ frames := 1, cells := 0, slots := 0, locals := 24 })).room s m ([.ref (q 0)] : List Value).toArray below meth c H locs 0 0 (MQ below (va_Qi (fun (r : Int32) (u : (Nat → Int32) × (Nat → Int32)) => pX4_findForests nn0 ln0 sa0 sb0 fr0 pt0 = some (r, u)) (fun u t => fw_B (dC, dI) A (wM cI cJ q  nn0 ln0 sa0 sb0 wg0 kt0 u.1 u.2 wl0 tn0 up0 lo0) t) A) ([.ref (q 0)] : List Value).toArray s 0 0 A) (F0 m 87 ls [])) → ∀ (n9 : Nat) (x1 : Int32) (x2 : Int32) (fr : Nat → Int32) (pt : Nat → Int32) (H : Heap) (locs : List Loc) (ls : Array Slot), fw_wh (pX4_findForests_30 nn0 ln0 sa0 sb0) n9 (x1, x2, fr, pt) = some e9 → va_P (dC, dI) vwCl (wM cI cJ q  nn0 ln0 sa0 sb0 wg0 kt0 fr pt wl0 tn0 up0 lo0) H → va_D A (wM cI cJ q  nn0 ln0 sa0 sb0 wg0 kt0 fr pt wl0 tn0 up0 lo0) → va_S A s.heap H locs → lv_has ls 4 [(0, .ref (q 0)), (1, .int x1), (2, .int x2)] → W p l e (headSpec wsX4_findForests ({ frames := 1, cells := 0, slots := 0, locals := 24 })).room s m ([.ref (q 0)] : List Value).toArray below meth c H locs 0 0 (MQ below (va_Qi (fun (r : Int32) (u : (Nat → Int32) × (Nat → Int32)) => pX4_findForests nn0 ln0 sa0 sb0 fr0 pt0 = some (r, u)) (fun u t => fw_B (dC, dI) A (wM cI cJ q  nn0 ln0 sa0 sb0 wg0 kt0 u.1 u.2 wl0 tn0 up0 lo0) t) A) ([.ref (q 0)] : List Value).toArray s 0 0 A) (F0 m 30 ls []) := by
    intro  e9 hkk n9
    induction n9 with
    | zero => exact fun _ _ _ _ H locs ls hq => (fw_wh0 hq).elim
    | succ n9 ih =>
      intro x1 x2 fr pt H locs ls hq hP hD hS hl
      obtain ⟨w9, hq, hwI, hwE⟩ := fw_wh1 hq
      dsimp only [pX4_findForests_30] at hq
      refine lv_iload_n hx hb dX4_findForests_30 rfl (lv_at hl 1 rfl) ?_
      refine lv_if_le (tgt := 87) hx hb dX4_findForests_31 (by decide) (fun c_6 => ?_) (fun c_6 => ?_)
      · have hq := fw_it c_6 hq
        exact hkk x1 x2 fr pt H locs ls (hwE _ (Option.some.inj hq).symm) hP hD hS (lv_sub hl [0, 1, 2] rfl)
      · have hq := fw_if c_6 hq
        refine lv_iinc (v := (x2 + (1 : Int32))) (lv' := [(2, .int (x2 + (1 : Int32))), (0, .ref (q 0)), (1, .int x1)]) hx hb dX4_findForests_34 hl (k := 2) rfl rfl (by decide) rfl (fun ls hl => ?_)
        refine lv_aload_n hx hb dX4_findForests_37 rfl (lv_at hl 1 rfl) ?_
        have hPc := hP.sub (ws' := (wM cI cJ q  nn0 ln0 sa0 sb0 wg0 kt0 fr pt wl0 tn0 up0 lo0)) [0, 1, 2, 3, 4, 5, 6, 7, 8] rfl
        have hDc := hD.sub (ws' := (wM cI cJ q  nn0 ln0 sa0 sb0 wg0 kt0 fr pt wl0 tn0 up0 lo0)) [0, 1, 2, 3, 4, 5, 6, 7, 8] (by decide) rfl
        refine fw_cv (wr := []) (w2 := fun u => (wM cI cJ q  nn0 ln0 sa0 sb0 wg0 kt0 fr u wl0 tn0 up0 lo0)) [0, 1, 2, 3, 4, 5, 6, 7, 8] [] [0, 1, 2, 3, 4, 5, 6, 7, 8] (va_runV (b := (q 0)) (As := []) (rest := []) ⟨hx, hb, hml, hown, hts⟩ (kX4_apart l dC dI cI cJ q H.size  nn0 ln0 sa0 sb0 wg0 kt0 fr pt wl0 tn0 up0 lo0  (fw_be hq)) (cwV 0 hts gX4_findForests_X4_apart rfl rfl rfl (by decide +kernel) ⟨Nat.le_of_ble_eq_true rfl, Nat.le_of_ble_eq_true rfl⟩) ⟨fw_blind, va_recv hK hPc (ci := 4) (q0 := 0) rfl rfl, fun U hU hW => fw_pre hPc hK hDc hN hU hW⟩ rfl rfl hl.1 rfl (lv_room (Nat.le_of_ble_eq_true rfl)) dX4_findForests_38 ⟨Nat.zero_le _, Nat.zero_le _⟩) hP hD hS hA rfl rfl (by decide) (by decide) (by decide) (fun _ => rfl) (fun u H locs hw hP hD hS => ?_)
        obtain ⟨pt_7, rfl⟩ : ∃ z, z = u := ⟨_, rfl⟩
        have hq := fw_bs hw hq
        try dsimp only at hq
        have hP : va_P (dC, dI) vwCl (wM cI cJ q  nn0 ln0 sa0 sb0 wg0 kt0 fr pt_7 wl0 tn0 up0 lo0) H := hP
        have hD : va_D A (wM cI cJ q  nn0 ln0 sa0 sb0 wg0 kt0 fr pt_7 wl0 tn0 up0 lo0) := hD
        refine lv_iconst (v := (0 : Int32)) hx hb dX4_findForests_41 (by decide) ?_
        refine lv_istore_n (lv' := [(3, .int (0 : Int32)), (2, .int (x2 + (1 : Int32))), (0, .ref (q 0)), (1, .int x1)]) hx hb dX4_findForests_42 rfl hl (by decide) rfl (fun ls hl => ?_)
        obtain ⟨e_23, hw, hq⟩ := fw_bb hq
        refine L43 (x2 + (1 : Int32)) e_23 (fun x1_19 x3_20 fr_21 pt_22 H locs ls he hP hD hS hl => ?_) fw_N x1 (0 : Int32) fr pt_7 H locs ls hw hP hD hS (lv_sub hl [2, 3, 1, 0] rfl)
        subst he
        try dsimp only at hq
        refine lv_goto (tgt := 30) hx hb dX4_findForests_84 (by decide) ?_
        exact ih x1_19 (x2 + (1 : Int32)) fr_21 pt_22 H locs ls (hwI _ (Option.some.inj hq).symm) hP hD hS (lv_sub hl [0, 1, 2] rfl)
  have hq := hz
  dsimp only [pX4_findForests] at hq
  have hl := lv_entry (([.ref (q 0)] : List Value)) (n := 4) (Nat.le_of_ble_eq_true rfl)
  rw [lg_entry_eq]
  generalize (lg_sl (([.ref (q 0)] : List Value)) ++ List.replicate (4 - (lg_sl (([.ref (q 0)] : List Value))).length) Slot.unset).toArray = ls at hl ⊢
  have hl : lv_has ls 4 [(0, .ref (q 0))] := hl
  obtain ⟨H, hHe⟩ : ∃ H : Heap, H = s.heap := ⟨_, rfl⟩
  obtain ⟨locs, hLe⟩ : ∃ L : List Loc, L = [] := ⟨_, rfl⟩
  have hP : va_P (dC, dI) vwCl (wM cI cJ q  nn0 ln0 sa0 sb0 wg0 kt0 fr0 pt0 wl0 tn0 up0 lo0) H := by rw [hHe]; exact hP
  have hS : va_S A s.heap H locs := by rw [hHe, hLe]; exact va_S.rf
  show W p l e (headSpec wsX4_findForests ({ frames := 1, cells := 0, slots := 0, locals := 24 })).room s m ([.ref (q 0)] : List Value).toArray below meth c s.heap [] 0 0 (MQ below (va_Qi (fun (r : Int32) (u : (Nat → Int32) × (Nat → Int32)) => pX4_findForests nn0 ln0 sa0 sb0 fr0 pt0 = some (r, u)) (fun u t => fw_B (dC, dI) A (wM cI cJ q  nn0 ln0 sa0 sb0 wg0 kt0 u.1 u.2 wl0 tn0 up0 lo0) t) A) ([.ref (q 0)] : List Value).toArray s 0 0 A) (F0 m 0 ls [])
  rw [← hHe, ← hLe]
  refine lv_iconst (v := (0 : Int32)) hx hb dX4_findForests_0 (by decide) ?_
  refine lv_istore_n (lv' := [(1, .int (0 : Int32)), (0, .ref (q 0))]) hx hb dX4_findForests_1 rfl hl (by decide) rfl (fun ls hl => ?_)
  obtain ⟨e_5, hw, hq⟩ := fw_bb hq
  refine L2 pt0 e_5 (fun x1_3 fr_4 H locs ls he hP hD hS hl => ?_) fw_N (0 : Int32) fr0 H locs ls hw hP hD hS (lv_sub hl [1, 0] rfl)
  subst he
  try dsimp only at hq
  refine lv_aload_n hx hb dX4_findForests_23 rfl (lv_at hl 0 rfl) ?_
  refine va_get (D := (dC, dI)) (ci := 4) (v := .int ln0) (C := RX4) (T := TX4) (N := 12) hx hb hts hinX4 hown hK hP 0 rfl rfl 1 (by decide) hf42 (fun _ h9 => h9) rfl dX4_findForests_24 ?_
  refine lv_istore_n (lv' := [(1, .int ln0), (0, .ref (q 0))]) hx hb dX4_findForests_27 rfl hl (by decide) rfl (fun ls hl => ?_)
  refine lv_iconst (v := (0 : Int32)) hx hb dX4_findForests_28 (by decide) ?_
  refine lv_istore_n (lv' := [(2, .int (0 : Int32)), (1, .int ln0), (0, .ref (q 0))]) hx hb dX4_findForests_29 rfl hl (by decide) rfl (fun ls hl => ?_)
  obtain ⟨e_28, hw, hq⟩ := fw_bb hq
  refine L30  e_28 (fun x1_24 x2_25 fr_26 pt_27 H locs ls he hP hD hS hl => ?_) fw_N ln0 (0 : Int32) fr_4 pt0 H locs ls hw hP hD hS (lv_sub hl [2, 1, 0] rfl)
  subst he
  try dsimp only at hq
  refine lv_iload_n hx hb dX4_findForests_87 rfl (lv_at hl 2 rfl) ?_
  exact W.iret (v := x2_25) hx hb hr (fun t ht hW => ⟨⟨x2_25, (fr_26, pt_27), rfl, hz.trans hq.symm, by rw [ht]; exact hP, hD⟩, hS.F ht⟩) hS.2.2 dX4_findForests_88
