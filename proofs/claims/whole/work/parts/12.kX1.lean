/-! ===== contracts, by own program ===== -/
set_option maxHeartbeats 4000000 in
set_option maxRecDepth 100000 in
theorem kX3_isNode (l : Launch) (dC : Nat → ClassId) (dI : Nat → Nat → Nat) (cI cJ : ClassId) (q : Nat → Nat) (sz : Nat)  (nc0 : Int32) (lc0 : Int32) (le0 : Nat → Int32) (ge0 : Nat → Int32) (wt0 : Nat → Int32) (kp0 : Nat → Int32) (fo0 : Nat → Int32) (po0 : Nat → Int32) (na0 : Nat → Int32) (ns0 : Int32) (ta0 : Nat → Int32) (ts0 : Int32) (mx0 : Nat → Int64) (ch0 : Nat → Int32) (mo0 : Nat → Int64) (ms0 : Int32) (fs0 : Nat → Int32) (y1 : Int32) (hd : ∃ z, pX3_isNode nc0 y1 = some z) : Met l yX3_isNode wsX3_isNode ({ frames := 0, cells := 0, slots := 0, locals := 0 }) (fw_Pc (dC, dI) (fw_tys cI cJ) (wX cI cJ q  nc0 lc0 le0 ge0 wt0 kp0 fo0 po0 na0 ns0 ta0 ts0 mx0 ch0 mo0 ms0 fs0) ([.ref (q 0), .int y1] : List Value) sz) (va_Qi (fun (r : Int32) (u : Unit) => pX3_isNode nc0 y1 = some r ∧ narrow .boolean (.int r) = .int r) (fun u t => fw_B (dC, dI) (va_A (wX cI cJ q  nc0 lc0 le0 ge0 wt0 kp0 fo0 po0 na0 ns0 ta0 ts0 mx0 ch0 mo0 ms0 fs0) sz) (wX cI cJ q  nc0 lc0 le0 ge0 wt0 kp0 fo0 po0 na0 ns0 ta0 ts0 mx0 ch0 mo0 ms0 fs0) t) (va_A (wX cI cJ q  nc0 lc0 le0 ge0 wt0 kp0 fo0 po0 na0 ns0 ta0 ts0 mx0 ch0 mo0 ms0 fs0) sz)) 0 0 (va_A (wX cI cJ q  nc0 lc0 le0 ge0 wt0 kp0 fo0 po0 na0 ns0 ta0 ts0 mx0 ch0 mo0 ms0 fs0) sz) := by
  obtain ⟨z, hz⟩ := hd
  refine Met.ofW (cc := cX3_isNode) (maxL := 2) (ret := (some .boolean)) (by decide) rfl ?_
  intro p e s m args below meth c s₁ B hml hv
  obtain ⟨rfl, hsz, hP, hK, hD0, hN⟩ := hv
  have hx := B.exec
  have hb := B.bytes
  have hr := B.returns
  have hts := atoms_spec (ws := wsX3_isNode) B.pre
  have hown : s.vm.findClass RX3 = some m.cls := findClass_of_methodNamed B.named
  have hlocks := B.notSynchronized
  subst hsz
  have hD := hD0.self (sz := s.heap.size)
  generalize hAe : va_A (wX cI cJ q  nc0 lc0 le0 ge0 wt0 kp0 fo0 po0 na0 ns0 ta0 ts0 mx0 ch0 mo0 ms0 fs0) s.heap.size = A at hD ⊢
  have hA : ∀ q : Nat, s.heap.size ≤ q → A q := fun q h => by rw [← hAe]; exact Or.inr h
  have hinX3 : ∀ w ∈ u_ws RX3 TX3 12, w ∈ wsX3_isNode := by decide +kernel
  have hf9 := hts (.fieldLink RX3 9 "FewLines" "nodeCount" "I") (by decide +kernel)
  have hq := hz
  dsimp only [pX3_isNode] at hq
  have hl := lv_entry (([.ref (q 0), .int y1] : List Value)) (n := 2) (Nat.le_of_ble_eq_true rfl)
  rw [lg_entry_eq]
  generalize (lg_sl (([.ref (q 0), .int y1] : List Value)) ++ List.replicate (2 - (lg_sl (([.ref (q 0), .int y1] : List Value))).length) Slot.unset).toArray = ls at hl ⊢
  have hl : lv_has ls 2 [(0, .ref (q 0)), (1, .int y1)] := hl
  obtain ⟨H, hHe⟩ : ∃ H : Heap, H = s.heap := ⟨_, rfl⟩
  obtain ⟨locs, hLe⟩ : ∃ L : List Loc, L = [] := ⟨_, rfl⟩
  have hP : va_P (dC, dI) vwCl (wX cI cJ q  nc0 lc0 le0 ge0 wt0 kp0 fo0 po0 na0 ns0 ta0 ts0 mx0 ch0 mo0 ms0 fs0) H := by rw [hHe]; exact hP
  have hS : va_S A s.heap H locs := by rw [hHe, hLe]; exact va_S.rf
  show W p l e (headSpec wsX3_isNode ({ frames := 0, cells := 0, slots := 0, locals := 0 })).room s m ([.ref (q 0), .int y1] : List Value).toArray below meth c s.heap [] 0 0 (MQ below (va_Qi (fun (r : Int32) (u : Unit) => pX3_isNode nc0 y1 = some r ∧ narrow .boolean (.int r) = .int r) (fun u t => fw_B (dC, dI) A (wX cI cJ q  nc0 lc0 le0 ge0 wt0 kp0 fo0 po0 na0 ns0 ta0 ts0 mx0 ch0 mo0 ms0 fs0) t) A) ([.ref (q 0), .int y1] : List Value).toArray s 0 0 A) (F0 m 0 ls [])
  rw [← hHe, ← hLe]
  refine lv_iload_n hx hb dX3_isNode_0 rfl (lv_at hl 1 rfl) ?_
  refine lv_if_lt (tgt := 16) hx hb dX3_isNode_1 (by decide) (fun c_1 => ?_) (fun c_1 => ?_)
  · have hq := fw_it c_1 hq
    refine lv_iconst (v := (0 : Int32)) hx hb dX3_isNode_16 (by decide) ?_
    exact W.zret (v := (0 : Int32)) (ty := .boolean) hx hb hr rfl (fun t ht hW => ⟨⟨(0 : Int32), (), rfl, ⟨hz.trans hq.symm, rfl⟩, by rw [ht]; exact hP, hD⟩, hS.F ht⟩) hS.2.2 dX3_isNode_17
  · have hq := fw_if c_1 hq
    refine lv_iload_n hx hb dX3_isNode_4 rfl (lv_at hl 1 rfl) ?_
    refine lv_aload_n hx hb dX3_isNode_5 rfl (lv_at hl 0 rfl) ?_
    refine va_get (D := (dC, dI)) (ci := 3) (v := .int nc0) (C := RX3) (T := TX3) (N := 12) hx hb hts hinX3 hown hK hP 0 rfl rfl 0 (by decide) hf9 (fun _ h9 => h9) rfl dX3_isNode_6 ?_
    refine lv_icmp_ge (tgt := 16) hx hb dX3_isNode_9 (by decide) (fun c_2 => ?_) (fun c_2 => ?_)
    · have hq := fw_it c_2 hq
      refine lv_iconst (v := (0 : Int32)) hx hb dX3_isNode_16 (by decide) ?_
      exact W.zret (v := (0 : Int32)) (ty := .boolean) hx hb hr rfl (fun t ht hW => ⟨⟨(0 : Int32), (), rfl, ⟨hz.trans hq.symm, rfl⟩, by rw [ht]; exact hP, hD⟩, hS.F ht⟩) hS.2.2 dX3_isNode_17
    · have hq := fw_if c_2 hq
      refine lv_iconst (v := (1 : Int32)) hx hb dX3_isNode_12 (by decide) ?_
      refine lv_goto (tgt := 17) hx hb dX3_isNode_13 (by decide) ?_
      exact W.zret (v := (1 : Int32)) (ty := .boolean) hx hb hr rfl (fun t ht hW => ⟨⟨(1 : Int32), (), rfl, ⟨hz.trans hq.symm, rfl⟩, by rw [ht]; exact hP, hD⟩, hS.F ht⟩) hS.2.2 dX3_isNode_17
set_option maxHeartbeats 4000000 in
set_option maxRecDepth 100000 in
theorem kX3_isLine (l : Launch) (dC : Nat → ClassId) (dI : Nat → Nat → Nat) (cI cJ : ClassId) (q : Nat → Nat) (sz : Nat)  (nc0 : Int32) (lc0 : Int32) (le0 : Nat → Int32) (ge0 : Nat → Int32) (wt0 : Nat → Int32) (kp0 : Nat → Int32) (fo0 : Nat → Int32) (po0 : Nat → Int32) (na0 : Nat → Int32) (ns0 : Int32) (ta0 : Nat → Int32) (ts0 : Int32) (mx0 : Nat → Int64) (ch0 : Nat → Int32) (mo0 : Nat → Int64) (ms0 : Int32) (fs0 : Nat → Int32) (y1 : Int32) (hd : ∃ z, pX3_isLine lc0 y1 = some z) : Met l yX3_isLine wsX3_isLine ({ frames := 0, cells := 0, slots := 0, locals := 0 }) (fw_Pc (dC, dI) (fw_tys cI cJ) (wX cI cJ q  nc0 lc0 le0 ge0 wt0 kp0 fo0 po0 na0 ns0 ta0 ts0 mx0 ch0 mo0 ms0 fs0) ([.ref (q 0), .int y1] : List Value) sz) (va_Qi (fun (r : Int32) (u : Unit) => pX3_isLine lc0 y1 = some r ∧ narrow .boolean (.int r) = .int r) (fun u t => fw_B (dC, dI) (va_A (wX cI cJ q  nc0 lc0 le0 ge0 wt0 kp0 fo0 po0 na0 ns0 ta0 ts0 mx0 ch0 mo0 ms0 fs0) sz) (wX cI cJ q  nc0 lc0 le0 ge0 wt0 kp0 fo0 po0 na0 ns0 ta0 ts0 mx0 ch0 mo0 ms0 fs0) t) (va_A (wX cI cJ q  nc0 lc0 le0 ge0 wt0 kp0 fo0 po0 na0 ns0 ta0 ts0 mx0 ch0 mo0 ms0 fs0) sz)) 0 0 (va_A (wX cI cJ q  nc0 lc0 le0 ge0 wt0 kp0 fo0 po0 na0 ns0 ta0 ts0 mx0 ch0 mo0 ms0 fs0) sz) := by
  obtain ⟨z, hz⟩ := hd
  refine Met.ofW (cc := cX3_isLine) (maxL := 2) (ret := (some .boolean)) (by decide) rfl ?_
  intro p e s m args below meth c s₁ B hml hv
  obtain ⟨rfl, hsz, hP, hK, hD0, hN⟩ := hv
  have hx := B.exec
  have hb := B.bytes
  have hr := B.returns
  have hts := atoms_spec (ws := wsX3_isLine) B.pre
  have hown : s.vm.findClass RX3 = some m.cls := findClass_of_methodNamed B.named
  have hlocks := B.notSynchronized
  subst hsz
  have hD := hD0.self (sz := s.heap.size)
  generalize hAe : va_A (wX cI cJ q  nc0 lc0 le0 ge0 wt0 kp0 fo0 po0 na0 ns0 ta0 ts0 mx0 ch0 mo0 ms0 fs0) s.heap.size = A at hD ⊢
  have hA : ∀ q : Nat, s.heap.size ≤ q → A q := fun q h => by rw [← hAe]; exact Or.inr h
  have hinX3 : ∀ w ∈ u_ws RX3 TX3 12, w ∈ wsX3_isLine := by decide +kernel
  have hf13 := hts (.fieldLink RX3 13 "FewLines" "lineCount" "I") (by decide +kernel)
  have hq := hz
  dsimp only [pX3_isLine] at hq
  have hl := lv_entry (([.ref (q 0), .int y1] : List Value)) (n := 2) (Nat.le_of_ble_eq_true rfl)
  rw [lg_entry_eq]
  generalize (lg_sl (([.ref (q 0), .int y1] : List Value)) ++ List.replicate (2 - (lg_sl (([.ref (q 0), .int y1] : List Value))).length) Slot.unset).toArray = ls at hl ⊢
  have hl : lv_has ls 2 [(0, .ref (q 0)), (1, .int y1)] := hl
  obtain ⟨H, hHe⟩ : ∃ H : Heap, H = s.heap := ⟨_, rfl⟩
  obtain ⟨locs, hLe⟩ : ∃ L : List Loc, L = [] := ⟨_, rfl⟩
  have hP : va_P (dC, dI) vwCl (wX cI cJ q  nc0 lc0 le0 ge0 wt0 kp0 fo0 po0 na0 ns0 ta0 ts0 mx0 ch0 mo0 ms0 fs0) H := by rw [hHe]; exact hP
  have hS : va_S A s.heap H locs := by rw [hHe, hLe]; exact va_S.rf
  show W p l e (headSpec wsX3_isLine ({ frames := 0, cells := 0, slots := 0, locals := 0 })).room s m ([.ref (q 0), .int y1] : List Value).toArray below meth c s.heap [] 0 0 (MQ below (va_Qi (fun (r : Int32) (u : Unit) => pX3_isLine lc0 y1 = some r ∧ narrow .boolean (.int r) = .int r) (fun u t => fw_B (dC, dI) A (wX cI cJ q  nc0 lc0 le0 ge0 wt0 kp0 fo0 po0 na0 ns0 ta0 ts0 mx0 ch0 mo0 ms0 fs0) t) A) ([.ref (q 0), .int y1] : List Value).toArray s 0 0 A) (F0 m 0 ls [])
  rw [← hHe, ← hLe]
  refine lv_iload_n hx hb dX3_isLine_0 rfl (lv_at hl 1 rfl) ?_
  refine lv_if_lt (tgt := 16) hx hb dX3_isLine_1 (by decide) (fun c_1 => ?_) (fun c_1 => ?_)
  · have hq := fw_it c_1 hq
    refine lv_iconst (v := (0 : Int32)) hx hb dX3_isLine_16 (by decide) ?_
    exact W.zret (v := (0 : Int32)) (ty := .boolean) hx hb hr rfl (fun t ht hW => ⟨⟨(0 : Int32), (), rfl, ⟨hz.trans hq.symm, rfl⟩, by rw [ht]; exact hP, hD⟩, hS.F ht⟩) hS.2.2 dX3_isLine_17
  · have hq := fw_if c_1 hq
    refine lv_iload_n hx hb dX3_isLine_4 rfl (lv_at hl 1 rfl) ?_
    refine lv_aload_n hx hb dX3_isLine_5 rfl (lv_at hl 0 rfl) ?_
    refine va_get (D := (dC, dI)) (ci := 3) (v := .int lc0) (C := RX3) (T := TX3) (N := 12) hx hb hts hinX3 hown hK hP 0 rfl rfl 1 (by decide) hf13 (fun _ h9 => h9) rfl dX3_isLine_6 ?_
    refine lv_icmp_ge (tgt := 16) hx hb dX3_isLine_9 (by decide) (fun c_2 => ?_) (fun c_2 => ?_)
    · have hq := fw_it c_2 hq
      refine lv_iconst (v := (0 : Int32)) hx hb dX3_isLine_16 (by decide) ?_
      exact W.zret (v := (0 : Int32)) (ty := .boolean) hx hb hr rfl (fun t ht hW => ⟨⟨(0 : Int32), (), rfl, ⟨hz.trans hq.symm, rfl⟩, by rw [ht]; exact hP, hD⟩, hS.F ht⟩) hS.2.2 dX3_isLine_17
    · have hq := fw_if c_2 hq
      refine lv_iconst (v := (1 : Int32)) hx hb dX3_isLine_12 (by decide) ?_
      refine lv_goto (tgt := 17) hx hb dX3_isLine_13 (by decide) ?_
      exact W.zret (v := (1 : Int32)) (ty := .boolean) hx hb hr rfl (fun t ht hW => ⟨⟨(1 : Int32), (), rfl, ⟨hz.trans hq.symm, rfl⟩, by rw [ht]; exact hP, hD⟩, hS.F ht⟩) hS.2.2 dX3_isLine_17
set_option maxHeartbeats 4000000 in
set_option maxRecDepth 100000 in
theorem kX3_allNodes (l : Launch) (dC : Nat → ClassId) (dI : Nat → Nat → Nat) (cI cJ : ClassId) (q : Nat → Nat) (sz : Nat)  (nc0 : Int32) (lc0 : Int32) (le0 : Nat → Int32) (ge0 : Nat → Int32) (wt0 : Nat → Int32) (kp0 : Nat → Int32) (fo0 : Nat → Int32) (po0 : Nat → Int32) (na0 : Nat → Int32) (ns0 : Int32) (ta0 : Nat → Int32) (ts0 : Int32) (mx0 : Nat → Int64) (ch0 : Nat → Int32) (mo0 : Nat → Int64) (ms0 : Int32) (fs0 : Nat → Int32)  (hd : ∃ z, pX3_allNodes nc0 = some z) : Met l yX3_allNodes wsX3_allNodes ({ frames := 0, cells := 0, slots := 0, locals := 0 }) (fw_Pc (dC, dI) (fw_tys cI cJ) (wX cI cJ q  nc0 lc0 le0 ge0 wt0 kp0 fo0 po0 na0 ns0 ta0 ts0 mx0 ch0 mo0 ms0 fs0) ([.ref (q 0)] : List Value) sz) (va_Qi (fun (r : Int32) (u : Unit) => pX3_allNodes nc0 = some r) (fun u t => fw_B (dC, dI) (va_A (wX cI cJ q  nc0 lc0 le0 ge0 wt0 kp0 fo0 po0 na0 ns0 ta0 ts0 mx0 ch0 mo0 ms0 fs0) sz) (wX cI cJ q  nc0 lc0 le0 ge0 wt0 kp0 fo0 po0 na0 ns0 ta0 ts0 mx0 ch0 mo0 ms0 fs0) t) (va_A (wX cI cJ q  nc0 lc0 le0 ge0 wt0 kp0 fo0 po0 na0 ns0 ta0 ts0 mx0 ch0 mo0 ms0 fs0) sz)) 0 0 (va_A (wX cI cJ q  nc0 lc0 le0 ge0 wt0 kp0 fo0 po0 na0 ns0 ta0 ts0 mx0 ch0 mo0 ms0 fs0) sz) := by
  obtain ⟨z, hz⟩ := hd
  refine Met.ofW (cc := cX3_allNodes) (maxL := 1) (ret := (some .int)) (by decide) rfl ?_
  intro p e s m args below meth c s₁ B hml hv
  obtain ⟨rfl, hsz, hP, hK, hD0, hN⟩ := hv
  have hx := B.exec
  have hb := B.bytes
  have hr := B.returns
  have hts := atoms_spec (ws := wsX3_allNodes) B.pre
  have hown : s.vm.findClass RX3 = some m.cls := findClass_of_methodNamed B.named
  have hlocks := B.notSynchronized
  subst hsz
  have hD := hD0.self (sz := s.heap.size)
  generalize hAe : va_A (wX cI cJ q  nc0 lc0 le0 ge0 wt0 kp0 fo0 po0 na0 ns0 ta0 ts0 mx0 ch0 mo0 ms0 fs0) s.heap.size = A at hD ⊢
  have hA : ∀ q : Nat, s.heap.size ≤ q → A q := fun q h => by rw [← hAe]; exact Or.inr h
  have hinX3 : ∀ w ∈ u_ws RX3 TX3 12, w ∈ wsX3_allNodes := by decide +kernel
  have hf9 := hts (.fieldLink RX3 9 "FewLines" "nodeCount" "I") (by decide +kernel)
  have hq := hz
  dsimp only [pX3_allNodes] at hq
  have hl := lv_entry (([.ref (q 0)] : List Value)) (n := 1) (Nat.le_of_ble_eq_true rfl)
  rw [lg_entry_eq]
  generalize (lg_sl (([.ref (q 0)] : List Value)) ++ List.replicate (1 - (lg_sl (([.ref (q 0)] : List Value))).length) Slot.unset).toArray = ls at hl ⊢
  have hl : lv_has ls 1 [(0, .ref (q 0))] := hl
  obtain ⟨H, hHe⟩ : ∃ H : Heap, H = s.heap := ⟨_, rfl⟩
  obtain ⟨locs, hLe⟩ : ∃ L : List Loc, L = [] := ⟨_, rfl⟩
  have hP : va_P (dC, dI) vwCl (wX cI cJ q  nc0 lc0 le0 ge0 wt0 kp0 fo0 po0 na0 ns0 ta0 ts0 mx0 ch0 mo0 ms0 fs0) H := by rw [hHe]; exact hP
  have hS : va_S A s.heap H locs := by rw [hHe, hLe]; exact va_S.rf
  show W p l e (headSpec wsX3_allNodes ({ frames := 0, cells := 0, slots := 0, locals := 0 })).room s m ([.ref (q 0)] : List Value).toArray below meth c s.heap [] 0 0 (MQ below (va_Qi (fun (r : Int32) (u : Unit) => pX3_allNodes nc0 = some r) (fun u t => fw_B (dC, dI) A (wX cI cJ q  nc0 lc0 le0 ge0 wt0 kp0 fo0 po0 na0 ns0 ta0 ts0 mx0 ch0 mo0 ms0 fs0) t) A) ([.ref (q 0)] : List Value).toArray s 0 0 A) (F0 m 0 ls [])
  rw [← hHe, ← hLe]
  refine lv_iconst (v := (1 : Int32)) hx hb dX3_allNodes_0 (by decide) ?_
  refine lv_aload_n hx hb dX3_allNodes_1 rfl (lv_at hl 0 rfl) ?_
  refine va_get (D := (dC, dI)) (ci := 3) (v := .int nc0) (C := RX3) (T := TX3) (N := 12) hx hb hts hinX3 hown hK hP 0 rfl rfl 0 (by decide) hf9 (fun _ h9 => h9) rfl dX3_allNodes_2 ?_
  refine lv_ishl hx hb dX3_allNodes_5 ?_
  refine lv_iconst (v := (1 : Int32)) hx hb dX3_allNodes_6 (by decide) ?_
  refine lv_isub hx hb dX3_allNodes_7 ?_
  exact W.iret (v := (((1 : Int32) <<< (nc0 &&& 31)) - (1 : Int32))) hx hb hr (fun t ht hW => ⟨⟨(((1 : Int32) <<< (nc0 &&& 31)) - (1 : Int32)), (), rfl, hz.trans hq.symm, by rw [ht]; exact hP, hD⟩, hS.F ht⟩) hS.2.2 dX3_allNodes_8
set_option maxHeartbeats 4000000 in
set_option maxRecDepth 100000 in
theorem kX3_isSide (l : Launch) (dC : Nat → ClassId) (dI : Nat → Nat → Nat) (cI cJ : ClassId) (q : Nat → Nat) (sz : Nat)  (nc0 : Int32) (lc0 : Int32) (le0 : Nat → Int32) (ge0 : Nat → Int32) (wt0 : Nat → Int32) (kp0 : Nat → Int32) (fo0 : Nat → Int32) (po0 : Nat → Int32) (na0 : Nat → Int32) (ns0 : Int32) (ta0 : Nat → Int32) (ts0 : Int32) (mx0 : Nat → Int64) (ch0 : Nat → Int32) (mo0 : Nat → Int64) (ms0 : Int32) (fs0 : Nat → Int32) (y1 : Int32) (hd : ∃ z, pX3_isSide nc0 y1 = some z) : Met l yX3_isSide wsX3_isSide ({ frames := 1, cells := 0, slots := 0, locals := 20 }) (fw_Pc (dC, dI) (fw_tys cI cJ) (wX cI cJ q  nc0 lc0 le0 ge0 wt0 kp0 fo0 po0 na0 ns0 ta0 ts0 mx0 ch0 mo0 ms0 fs0) ([.ref (q 0), .int y1] : List Value) sz) (va_Qi (fun (r : Int32) (u : Unit) => pX3_isSide nc0 y1 = some r ∧ narrow .boolean (.int r) = .int r) (fun u t => fw_B (dC, dI) (va_A (wX cI cJ q  nc0 lc0 le0 ge0 wt0 kp0 fo0 po0 na0 ns0 ta0 ts0 mx0 ch0 mo0 ms0 fs0) sz) (wX cI cJ q  nc0 lc0 le0 ge0 wt0 kp0 fo0 po0 na0 ns0 ta0 ts0 mx0 ch0 mo0 ms0 fs0) t) (va_A (wX cI cJ q  nc0 lc0 le0 ge0 wt0 kp0 fo0 po0 na0 ns0 ta0 ts0 mx0 ch0 mo0 ms0 fs0) sz)) 0 0 (va_A (wX cI cJ q  nc0 lc0 le0 ge0 wt0 kp0 fo0 po0 na0 ns0 ta0 ts0 mx0 ch0 mo0 ms0 fs0) sz) := by
  obtain ⟨z, hz⟩ := hd
  refine Met.ofW (cc := cX3_isSide) (maxL := 2) (ret := (some .boolean)) (by decide) rfl ?_
  intro p e s m args below meth c s₁ B hml hv
  obtain ⟨rfl, hsz, hP, hK, hD0, hN⟩ := hv
  have hx := B.exec
  have hb := B.bytes
  have hr := B.returns
  have hts := atoms_spec (ws := wsX3_isSide) B.pre
  have hown : s.vm.findClass RX3 = some m.cls := findClass_of_methodNamed B.named
  have hlocks := B.notSynchronized
  subst hsz
  have hD := hD0.self (sz := s.heap.size)
  generalize hAe : va_A (wX cI cJ q  nc0 lc0 le0 ge0 wt0 kp0 fo0 po0 na0 ns0 ta0 ts0 mx0 ch0 mo0 ms0 fs0) s.heap.size = A at hD ⊢
  have hA : ∀ q : Nat, s.heap.size ≤ q → A q := fun q h => by rw [← hAe]; exact Or.inr h
  have hq := hz
  dsimp only [pX3_isSide] at hq
  have hl := lv_entry (([.ref (q 0), .int y1] : List Value)) (n := 2) (Nat.le_of_ble_eq_true rfl)
  rw [lg_entry_eq]
  generalize (lg_sl (([.ref (q 0), .int y1] : List Value)) ++ List.replicate (2 - (lg_sl (([.ref (q 0), .int y1] : List Value))).length) Slot.unset).toArray = ls at hl ⊢
  have hl : lv_has ls 2 [(0, .ref (q 0)), (1, .int y1)] := hl
  obtain ⟨H, hHe⟩ : ∃ H : Heap, H = s.heap := ⟨_, rfl⟩
  obtain ⟨locs, hLe⟩ : ∃ L : List Loc, L = [] := ⟨_, rfl⟩
  have hP : va_P (dC, dI) vwCl (wX cI cJ q  nc0 lc0 le0 ge0 wt0 kp0 fo0 po0 na0 ns0 ta0 ts0 mx0 ch0 mo0 ms0 fs0) H := by rw [hHe]; exact hP
  have hS : va_S A s.heap H locs := by rw [hHe, hLe]; exact va_S.rf
  show W p l e (headSpec wsX3_isSide ({ frames := 1, cells := 0, slots := 0, locals := 20 })).room s m ([.ref (q 0), .int y1] : List Value).toArray below meth c s.heap [] 0 0 (MQ below (va_Qi (fun (r : Int32) (u : Unit) => pX3_isSide nc0 y1 = some r ∧ narrow .boolean (.int r) = .int r) (fun u t => fw_B (dC, dI) A (wX cI cJ q  nc0 lc0 le0 ge0 wt0 kp0 fo0 po0 na0 ns0 ta0 ts0 mx0 ch0 mo0 ms0 fs0) t) A) ([.ref (q 0), .int y1] : List Value).toArray s 0 0 A) (F0 m 0 ls [])
  rw [← hHe, ← hLe]
  refine lv_iload_n hx hb dX3_isSide_0 rfl (lv_at hl 1 rfl) ?_
  refine lv_if_le (tgt := 23) hx hb dX3_isSide_1 (by decide) (fun c_1 => ?_) (fun c_1 => ?_)
  · have hq := fw_it c_1 hq
    refine lv_iconst (v := (0 : Int32)) hx hb dX3_isSide_23 (by decide) ?_
    exact W.zret (v := (0 : Int32)) (ty := .boolean) hx hb hr rfl (fun t ht hW => ⟨⟨(0 : Int32), (), rfl, ⟨hz.trans hq.symm, rfl⟩, by rw [ht]; exact hP, hD⟩, hS.F ht⟩) hS.2.2 dX3_isSide_24
  · have hq := fw_if c_1 hq
    refine lv_iload_n hx hb dX3_isSide_4 rfl (lv_at hl 1 rfl) ?_
    refine lv_aload_n hx hb dX3_isSide_5 rfl (lv_at hl 0 rfl) ?_
    have hPc := hP.sub (ws' := (wX cI cJ q  nc0 lc0 le0 ge0 wt0 kp0 fo0 po0 na0 ns0 ta0 ts0 mx0 ch0 mo0 ms0 fs0)) [0, 1, 2, 3, 4, 5, 6, 7, 8, 9, 10, 11, 12, 13, 14, 15, 16] rfl
    have hDc := hD.sub (ws' := (wX cI cJ q  nc0 lc0 le0 ge0 wt0 kp0 fo0 po0 na0 ns0 ta0 ts0 mx0 ch0 mo0 ms0 fs0)) [0, 1, 2, 3, 4, 5, 6, 7, 8, 9, 10, 11, 12, 13, 14, 15, 16] (by decide) rfl
    refine fw_ci (wr := []) (w2 := fun u => (wX cI cJ q  nc0 lc0 le0 ge0 wt0 kp0 fo0 po0 na0 ns0 ta0 ts0 mx0 ch0 mo0 ms0 fs0)) [0, 1, 2, 3, 4, 5, 6, 7, 8, 9, 10, 11, 12, 13, 14, 15, 16] [] [0, 1, 2, 3, 4, 5, 6, 7, 8, 9, 10, 11, 12, 13, 14, 15, 16] (va_runV (b := (q 0)) (As := []) (rest := [.int y1]) ⟨hx, hb, hml, hown, hts⟩ (kX3_allNodes l dC dI cI cJ q H.size  nc0 lc0 le0 ge0 wt0 kp0 fo0 po0 na0 ns0 ta0 ts0 mx0 ch0 mo0 ms0 fs0  (fw_be hq)) (cwV 0 hts gX3_isSide_X3_allNodes rfl rfl rfl (by decide +kernel) ⟨Nat.le_of_ble_eq_true rfl, Nat.le_of_ble_eq_true rfl⟩) ⟨fw_blind, va_recv hK hPc (ci := 3) (q0 := 0) rfl rfl, fun U hU hW => fw_pre hPc hK hDc hN hU hW⟩ rfl rfl hl.1 rfl (lv_room (Nat.le_of_ble_eq_true rfl)) dX3_isSide_6 ⟨Nat.zero_le _, Nat.zero_le _⟩) hP hD hS hA rfl rfl (by decide) (by decide) (by decide) (fun _ => rfl) (fun r_2 u H locs hw hP hD hS => ?_)
    have hq := fw_bs hw hq
    try dsimp only at hq
    refine lv_icmp_ge (tgt := 23) hx hb dX3_isSide_9 (by decide) (fun c_4 => ?_) (fun c_4 => ?_)
    · have hq := fw_it c_4 hq
      refine lv_iconst (v := (0 : Int32)) hx hb dX3_isSide_23 (by decide) ?_
      exact W.zret (v := (0 : Int32)) (ty := .boolean) hx hb hr rfl (fun t ht hW => ⟨⟨(0 : Int32), (), rfl, ⟨hz.trans hq.symm, rfl⟩, by rw [ht]; exact hP, hD⟩, hS.F ht⟩) hS.2.2 dX3_isSide_24
    · have hq := fw_if c_4 hq
      refine lv_iload_n hx hb dX3_isSide_12 rfl (lv_at hl 1 rfl) ?_
      refine lv_iconst (v := (1 : Int32)) hx hb dX3_isSide_13 (by decide) ?_
      refine lv_iand hx hb dX3_isSide_14 ?_
      refine lv_iconst (v := (1 : Int32)) hx hb dX3_isSide_15 (by decide) ?_
      refine lv_icmp_ne (tgt := 23) hx hb dX3_isSide_16 (by decide) (fun c_5 => ?_) (fun c_5 => ?_)
      · have hq := fw_if c_5 hq
        refine lv_iconst (v := (0 : Int32)) hx hb dX3_isSide_23 (by decide) ?_
        exact W.zret (v := (0 : Int32)) (ty := .boolean) hx hb hr rfl (fun t ht hW => ⟨⟨(0 : Int32), (), rfl, ⟨hz.trans hq.symm, rfl⟩, by rw [ht]; exact hP, hD⟩, hS.F ht⟩) hS.2.2 dX3_isSide_24
      · have hq := fw_it c_5 hq
        refine lv_iconst (v := (1 : Int32)) hx hb dX3_isSide_19 (by decide) ?_
        refine lv_goto (tgt := 24) hx hb dX3_isSide_20 (by decide) ?_
        exact W.zret (v := (1 : Int32)) (ty := .boolean) hx hb hr rfl (fun t ht hW => ⟨⟨(1 : Int32), (), rfl, ⟨hz.trans hq.symm, rfl⟩, by rw [ht]; exact hP, hD⟩, hS.F ht⟩) hS.2.2 dX3_isSide_24
set_option maxHeartbeats 4000000 in
set_option maxRecDepth 100000 in
theorem kX3_weightIn (l : Launch) (dC : Nat → ClassId) (dI : Nat → Nat → Nat) (cI cJ : ClassId) (q : Nat → Nat) (sz : Nat)  (nc0 : Int32) (lc0 : Int32) (le0 : Nat → Int32) (ge0 : Nat → Int32) (wt0 : Nat → Int32) (kp0 : Nat → Int32) (fo0 : Nat → Int32) (po0 : Nat → Int32) (na0 : Nat → Int32) (ns0 : Int32) (ta0 : Nat → Int32) (ts0 : Int32) (mx0 : Nat → Int64) (ch0 : Nat → Int32) (mo0 : Nat → Int64) (ms0 : Int32) (fs0 : Nat → Int32) (y1 : Int32) (y2 : Int32) (hd : ∃ z, pX3_weightIn wt0 kp0 y1 y2 = some z) : Met l yX3_weightIn wsX3_weightIn ({ frames := 0, cells := 0, slots := 0, locals := 0 }) (fw_Pc (dC, dI) (fw_tys cI cJ) (wX cI cJ q  nc0 lc0 le0 ge0 wt0 kp0 fo0 po0 na0 ns0 ta0 ts0 mx0 ch0 mo0 ms0 fs0) ([.ref (q 0), .int y1, .int y2] : List Value) sz) (va_Qi (fun (r : Int32) (u : Unit) => pX3_weightIn wt0 kp0 y1 y2 = some r) (fun u t => fw_B (dC, dI) (va_A (wX cI cJ q  nc0 lc0 le0 ge0 wt0 kp0 fo0 po0 na0 ns0 ta0 ts0 mx0 ch0 mo0 ms0 fs0) sz) (wX cI cJ q  nc0 lc0 le0 ge0 wt0 kp0 fo0 po0 na0 ns0 ta0 ts0 mx0 ch0 mo0 ms0 fs0) t) (va_A (wX cI cJ q  nc0 lc0 le0 ge0 wt0 kp0 fo0 po0 na0 ns0 ta0 ts0 mx0 ch0 mo0 ms0 fs0) sz)) 0 0 (va_A (wX cI cJ q  nc0 lc0 le0 ge0 wt0 kp0 fo0 po0 na0 ns0 ta0 ts0 mx0 ch0 mo0 ms0 fs0) sz) := by
  obtain ⟨z, hz⟩ := hd
  refine Met.ofW (cc := cX3_weightIn) (maxL := 3) (ret := (some .int)) (by decide) rfl ?_
  intro p e s m args below meth c s₁ B hml hv
  obtain ⟨rfl, hsz, hP, hK, hD0, hN⟩ := hv
  have hx := B.exec
  have hb := B.bytes
  have hr := B.returns
  have hts := atoms_spec (ws := wsX3_weightIn) B.pre
  have hown : s.vm.findClass RX3 = some m.cls := findClass_of_methodNamed B.named
  have hlocks := B.notSynchronized
  subst hsz
  have hD := hD0.self (sz := s.heap.size)
  generalize hAe : va_A (wX cI cJ q  nc0 lc0 le0 ge0 wt0 kp0 fo0 po0 na0 ns0 ta0 ts0 mx0 ch0 mo0 ms0 fs0) s.heap.size = A at hD ⊢
  have hA : ∀ q : Nat, s.heap.size ≤ q → A q := fun q h => by rw [← hAe]; exact Or.inr h
  have hinX3 : ∀ w ∈ u_ws RX3 TX3 12, w ∈ wsX3_weightIn := by decide +kernel
  have hf23 := hts (.fieldLink RX3 23 "FewLines" "weightOf" "[I") (by decide +kernel)
  have hf26 := hts (.fieldLink RX3 26 "FewLines" "keptOf" "[I") (by decide +kernel)
  have hq := hz
  dsimp only [pX3_weightIn] at hq
  have hl := lv_entry (([.ref (q 0), .int y1, .int y2] : List Value)) (n := 3) (Nat.le_of_ble_eq_true rfl)
  rw [lg_entry_eq]
  generalize (lg_sl (([.ref (q 0), .int y1, .int y2] : List Value)) ++ List.replicate (3 - (lg_sl (([.ref (q 0), .int y1, .int y2] : List Value))).length) Slot.unset).toArray = ls at hl ⊢
  have hl : lv_has ls 3 [(0, .ref (q 0)), (1, .int y1), (2, .int y2)] := hl
  obtain ⟨H, hHe⟩ : ∃ H : Heap, H = s.heap := ⟨_, rfl⟩
  obtain ⟨locs, hLe⟩ : ∃ L : List Loc, L = [] := ⟨_, rfl⟩
  have hP : va_P (dC, dI) vwCl (wX cI cJ q  nc0 lc0 le0 ge0 wt0 kp0 fo0 po0 na0 ns0 ta0 ts0 mx0 ch0 mo0 ms0 fs0) H := by rw [hHe]; exact hP
  have hS : va_S A s.heap H locs := by rw [hHe, hLe]; exact va_S.rf
  show W p l e (headSpec wsX3_weightIn ({ frames := 0, cells := 0, slots := 0, locals := 0 })).room s m ([.ref (q 0), .int y1, .int y2] : List Value).toArray below meth c s.heap [] 0 0 (MQ below (va_Qi (fun (r : Int32) (u : Unit) => pX3_weightIn wt0 kp0 y1 y2 = some r) (fun u t => fw_B (dC, dI) A (wX cI cJ q  nc0 lc0 le0 ge0 wt0 kp0 fo0 po0 na0 ns0 ta0 ts0 mx0 ch0 mo0 ms0 fs0) t) A) ([.ref (q 0), .int y1, .int y2] : List Value).toArray s 0 0 A) (F0 m 0 ls [])
  rw [← hHe, ← hLe]
  refine lv_iload_n hx hb dX3_weightIn_0 rfl (lv_at hl 2 rfl) ?_
  refine lv_if_ne (tgt := 13) hx hb dX3_weightIn_1 (by decide) (fun c_1 => ?_) (fun c_1 => ?_)
  · have hq := fw_if c_1 hq
    refine lv_aload_n hx hb dX3_weightIn_13 rfl (lv_at hl 0 rfl) ?_
    refine va_get (D := (dC, dI)) (ci := 3) (v := .ref (q 4)) (C := RX3) (T := TX3) (N := 12) hx hb hts hinX3 hown hK hP 0 rfl rfl 5 (by decide) hf26 (fun _ h9 => h9) rfl dX3_weightIn_14 ?_
    refine lv_iload_n hx hb dX3_weightIn_17 rfl (lv_at hl 1 rfl) ?_
    obtain ⟨h_2, hq⟩ := fw_ck_s hq
    refine va_iald hx hb hK hP 4 0 rfl rfl h_2 dX3_weightIn_18 ?_
    exact W.iret (v := (kp0 (y1).toNatClampNeg)) hx hb hr (fun t ht hW => ⟨⟨(kp0 (y1).toNatClampNeg), (), rfl, hz.trans hq.symm, by rw [ht]; exact hP, hD⟩, hS.F ht⟩) hS.2.2 dX3_weightIn_19
  · have hq := fw_it c_1 hq
    refine lv_aload_n hx hb dX3_weightIn_4 rfl (lv_at hl 0 rfl) ?_
    refine va_get (D := (dC, dI)) (ci := 3) (v := .ref (q 3)) (C := RX3) (T := TX3) (N := 12) hx hb hts hinX3 hown hK hP 0 rfl rfl 4 (by decide) hf23 (fun _ h9 => h9) rfl dX3_weightIn_5 ?_
    refine lv_iload_n hx hb dX3_weightIn_8 rfl (lv_at hl 1 rfl) ?_
    obtain ⟨h_3, hq⟩ := fw_ck_s hq
    refine va_iald hx hb hK hP 3 0 rfl rfl h_3 dX3_weightIn_9 ?_
    refine lv_goto (tgt := 19) hx hb dX3_weightIn_10 (by decide) ?_
    exact W.iret (v := (wt0 (y1).toNatClampNeg)) hx hb hr (fun t ht hW => ⟨⟨(wt0 (y1).toNatClampNeg), (), rfl, hz.trans hq.symm, by rw [ht]; exact hP, hD⟩, hS.F ht⟩) hS.2.2 dX3_weightIn_19
set_option maxHeartbeats 4000000 in
set_option maxRecDepth 100000 in
theorem kX3_weightTogether (l : Launch) (dC : Nat → ClassId) (dI : Nat → Nat → Nat) (cI cJ : ClassId) (q : Nat → Nat) (sz : Nat)  (nc0 : Int32) (lc0 : Int32) (le0 : Nat → Int32) (ge0 : Nat → Int32) (wt0 : Nat → Int32) (kp0 : Nat → Int32) (fo0 : Nat → Int32) (po0 : Nat → Int32) (na0 : Nat → Int32) (ns0 : Int32) (ta0 : Nat → Int32) (ts0 : Int32) (mx0 : Nat → Int64) (ch0 : Nat → Int32) (mo0 : Nat → Int64) (ms0 : Int32) (fs0 : Nat → Int32) (y1 : Int32) (hd : ∃ z, pX3_weightTogether lc0 wt0 kp0 y1 = some z) : Met l yX3_weightTogether wsX3_weightTogether ({ frames := 1, cells := 0, slots := 0, locals := 22 }) (fw_Pc (dC, dI) (fw_tys cI cJ) (wX cI cJ q  nc0 lc0 le0 ge0 wt0 kp0 fo0 po0 na0 ns0 ta0 ts0 mx0 ch0 mo0 ms0 fs0) ([.ref (q 0), .int y1] : List Value) sz) (va_Qi (fun (r : Int32) (u : Unit) => pX3_weightTogether lc0 wt0 kp0 y1 = some r) (fun u t => fw_B (dC, dI) (va_A (wX cI cJ q  nc0 lc0 le0 ge0 wt0 kp0 fo0 po0 na0 ns0 ta0 ts0 mx0 ch0 mo0 ms0 fs0) sz) (wX cI cJ q  nc0 lc0 le0 ge0 wt0 kp0 fo0 po0 na0 ns0 ta0 ts0 mx0 ch0 mo0 ms0 fs0) t) (va_A (wX cI cJ q  nc0 lc0 le0 ge0 wt0 kp0 fo0 po0 na0 ns0 ta0 ts0 mx0 ch0 mo0 ms0 fs0) sz)) 0 0 (va_A (wX cI cJ q  nc0 lc0 le0 ge0 wt0 kp0 fo0 po0 na0 ns0 ta0 ts0 mx0 ch0 mo0 ms0 fs0) sz) := by
  obtain ⟨z, hz⟩ := hd
  refine Met.ofW (cc := cX3_weightTogether) (maxL := 4) (ret := (some .int)) (by decide) rfl ?_
  intro p e s m args below meth c s₁ B hml hv
  obtain ⟨rfl, hsz, hP, hK, hD0, hN⟩ := hv
  have hx := B.exec
  have hb := B.bytes
  have hr := B.returns
  have hts := atoms_spec (ws := wsX3_weightTogether) B.pre
  have hown : s.vm.findClass RX3 = some m.cls := findClass_of_methodNamed B.named
  have hlocks := B.notSynchronized
  subst hsz
  have hD := hD0.self (sz := s.heap.size)
  generalize hAe : va_A (wX cI cJ q  nc0 lc0 le0 ge0 wt0 kp0 fo0 po0 na0 ns0 ta0 ts0 mx0 ch0 mo0 ms0 fs0) s.heap.size = A at hD ⊢
  have hA : ∀ q : Nat, s.heap.size ≤ q → A q := fun q h => by rw [← hAe]; exact Or.inr h
  have hinX3 : ∀ w ∈ u_ws RX3 TX3 12, w ∈ wsX3_weightTogether := by decide +kernel
  have hf13 := hts (.fieldLink RX3 13 "FewLines" "lineCount" "I") (by decide +kernel)
  have L4 : ∀ (x1 : Int32) (e9 : Int32 × Int32), (∀ (x2' : Int32) (x3' : Int32) (H : Heap) (locs : List Loc) (ls : Array Slot), e9 = (x2', x3') → va_P (dC, dI) vwCl (wX cI cJ q  nc0 lc0 le0 ge0 wt0 kp0 fo0 po0 na0 ns0 ta0 ts0 mx0 ch0 mo0 ms0 fs0) H → va_D A (wX cI cJ q  nc0 lc0 le0 ge0 wt0 kp0 fo0 po0 na0 ns0 ta0 ts0 mx0 ch0 mo0 ms0 fs0) → va_S A s.heap H locs → lv_has ls 4 [(0, .ref (q 0)), (1, .int x1), (2, .int x2'), (3, .int x3')] → W p l e (headSpec wsX3_weightTogether ({ frames := 1, cells := 0, slots := 0, locals := 22 })).room s m ([.ref (q 0), .int y1] : List Value).toArray below meth c H locs 0 0 (MQ below (va_Qi (fun (r : Int32) (u : Unit) => pX3_weightTogether lc0 wt0 kp0 y1 = some r) (fun u t => fw_B (dC, dI) A (wX cI cJ q  nc0 lc0 le0 ge0 wt0 kp0 fo0 po0 na0 ns0 ta0 ts0 mx0 ch0 mo0 ms0 fs0) t) A) ([.ref (q 0), .int y1] : List Value).toArray s 0 0 A) (F0 m 27 ls [])) → ∀ (n9 : Nat) (x2 : Int32) (x3 : Int32) (H : Heap) (locs : List Loc) (ls : Array Slot), fw_wh (pX3_weightTogether_4 x1 lc0 wt0 kp0) n9 (x2, x3) = some e9 → va_P (dC, dI) vwCl (wX cI cJ q  nc0 lc0 le0 ge0 wt0 kp0 fo0 po0 na0 ns0 ta0 ts0 mx0 ch0 mo0 ms0 fs0) H → va_D A (wX cI cJ q  nc0 lc0 le0 ge0 wt0 kp0 fo0 po0 na0 ns0 ta0 ts0 mx0 ch0 mo0 ms0 fs0) → va_S A s.heap H locs → lv_has ls 4 [(0, .ref (q 0)), (1, .int x1), (2, .int x2), (3, .int x3)] → W p l e (headSpec wsX3_weightTogether ({ frames := 1, cells := 0, slots := 0, locals := 22 })).room s m ([.ref (q 0), .int y1] : List Value).toArray below meth c H locs 0 0 (MQ below (va_Qi (fun (r : Int32) (u : Unit) => pX3_weightTogether lc0 wt0 kp0 y1 = some r) (fun u t => fw_B (dC, dI) A (wX cI cJ q  nc0 lc0 le0 ge0 wt0 kp0 fo0 po0 na0 ns0 ta0 ts0 mx0 ch0 mo0 ms0 fs0) t) A) ([.ref (q 0), .int y1] : List Value).toArray s 0 0 A) (F0 m 4 ls []) := by
    intro x1 e9 hkk n9
    induction n9 with
    | zero => exact fun _ _ H locs ls hq => (fw_wh0 hq).elim
    | succ n9 ih =>
      intro x2 x3 H locs ls hq hP hD hS hl
      obtain ⟨w9, hq, hwI, hwE⟩ := fw_wh1 hq
      dsimp only [pX3_weightTogether_4] at hq
      refine lv_iload_n hx hb dX3_weightTogether_4 rfl (lv_at hl 3 rfl) ?_
      refine lv_aload_n hx hb dX3_weightTogether_5 rfl (lv_at hl 0 rfl) ?_
      refine va_get (D := (dC, dI)) (ci := 3) (v := .int lc0) (C := RX3) (T := TX3) (N := 12) hx hb hts hinX3 hown hK hP 0 rfl rfl 1 (by decide) hf13 (fun _ h9 => h9) rfl dX3_weightTogether_6 ?_
      refine lv_icmp_ge (tgt := 27) hx hb dX3_weightTogether_9 (by decide) (fun c_1 => ?_) (fun c_1 => ?_)
      · have hq := fw_it c_1 hq
        exact hkk x2 x3 H locs ls (hwE _ (Option.some.inj hq).symm) hP hD hS (lv_sub hl [0, 1, 2, 3] rfl)
      · have hq := fw_if c_1 hq
        refine lv_iload_n hx hb dX3_weightTogether_12 rfl (lv_at hl 2 rfl) ?_
        refine lv_aload_n hx hb dX3_weightTogether_13 rfl (lv_at hl 0 rfl) ?_
        refine lv_iload_n hx hb dX3_weightTogether_14 rfl (lv_at hl 3 rfl) ?_
        refine lv_iload_n hx hb dX3_weightTogether_15 rfl (lv_at hl 1 rfl) ?_
        have hPc := hP.sub (ws' := (wX cI cJ q  nc0 lc0 le0 ge0 wt0 kp0 fo0 po0 na0 ns0 ta0 ts0 mx0 ch0 mo0 ms0 fs0)) [0, 1, 2, 3, 4, 5, 6, 7, 8, 9, 10, 11, 12, 13, 14, 15, 16] rfl
        have hDc := hD.sub (ws' := (wX cI cJ q  nc0 lc0 le0 ge0 wt0 kp0 fo0 po0 na0 ns0 ta0 ts0 mx0 ch0 mo0 ms0 fs0)) [0, 1, 2, 3, 4, 5, 6, 7, 8, 9, 10, 11, 12, 13, 14, 15, 16] (by decide) rfl
        refine fw_ci (wr := []) (w2 := fun u => (wX cI cJ q  nc0 lc0 le0 ge0 wt0 kp0 fo0 po0 na0 ns0 ta0 ts0 mx0 ch0 mo0 ms0 fs0)) [0, 1, 2, 3, 4, 5, 6, 7, 8, 9, 10, 11, 12, 13, 14, 15, 16] [] [0, 1, 2, 3, 4, 5, 6, 7, 8, 9, 10, 11, 12, 13, 14, 15, 16] (va_runV (b := (q 0)) (As := [.int x3, .int x1]) (rest := [.int x2]) ⟨hx, hb, hml, hown, hts⟩ (kX3_weightIn l dC dI cI cJ q H.size  nc0 lc0 le0 ge0 wt0 kp0 fo0 po0 na0 ns0 ta0 ts0 mx0 ch0 mo0 ms0 fs0 x3 x1 (fw_be hq)) (cwV 2 hts gX3_weightTogether_X3_weightIn rfl rfl rfl (by decide +kernel) ⟨Nat.le_of_ble_eq_true rfl, Nat.le_of_ble_eq_true rfl⟩) ⟨fw_blind, va_recv hK hPc (ci := 3) (q0 := 0) rfl rfl, fun U hU hW => fw_pre hPc hK hDc hN hU hW⟩ rfl rfl hl.1 rfl (lv_room (Nat.le_of_ble_eq_true rfl)) dX3_weightTogether_16 ⟨Nat.zero_le _, Nat.zero_le _⟩) hP hD hS hA rfl rfl (by decide) (by decide) (by decide) (fun _ => rfl) (fun r_2 u H locs hw hP hD hS => ?_)
        have hq := fw_bs hw hq
        try dsimp only at hq
        refine lv_iadd hx hb dX3_weightTogether_19 ?_
        refine lv_istore_n (lv' := [(2, .int (x2 + r_2)), (0, .ref (q 0)), (1, .int x1), (3, .int x3)]) hx hb dX3_weightTogether_20 rfl hl (by decide) rfl (fun ls hl => ?_)
        refine lv_iinc (v := (x3 + (1 : Int32))) (lv' := [(3, .int (x3 + (1 : Int32))), (2, .int (x2 + r_2)), (0, .ref (q 0)), (1, .int x1)]) hx hb dX3_weightTogether_21 hl (k := 3) rfl rfl (by decide) rfl (fun ls hl => ?_)
        refine lv_goto (tgt := 4) hx hb dX3_weightTogether_24 (by decide) ?_
        exact ih (x2 + r_2) (x3 + (1 : Int32)) H locs ls (hwI _ (Option.some.inj hq).symm) hP hD hS (lv_sub hl [2, 3, 1, 0] rfl)
  have hq := hz
  dsimp only [pX3_weightTogether] at hq
  have hl := lv_entry (([.ref (q 0), .int y1] : List Value)) (n := 4) (Nat.le_of_ble_eq_true rfl)
  rw [lg_entry_eq]
  generalize (lg_sl (([.ref (q 0), .int y1] : List Value)) ++ List.replicate (4 - (lg_sl (([.ref (q 0), .int y1] : List Value))).length) Slot.unset).toArray = ls at hl ⊢
  have hl : lv_has ls 4 [(0, .ref (q 0)), (1, .int y1)] := hl
  obtain ⟨H, hHe⟩ : ∃ H : Heap, H = s.heap := ⟨_, rfl⟩
  obtain ⟨locs, hLe⟩ : ∃ L : List Loc, L = [] := ⟨_, rfl⟩
  have hP : va_P (dC, dI) vwCl (wX cI cJ q  nc0 lc0 le0 ge0 wt0 kp0 fo0 po0 na0 ns0 ta0 ts0 mx0 ch0 mo0 ms0 fs0) H := by rw [hHe]; exact hP
  have hS : va_S A s.heap H locs := by rw [hHe, hLe]; exact va_S.rf
  show W p l e (headSpec wsX3_weightTogether ({ frames := 1, cells := 0, slots := 0, locals := 22 })).room s m ([.ref (q 0), .int y1] : List Value).toArray below meth c s.heap [] 0 0 (MQ below (va_Qi (fun (r : Int32) (u : Unit) => pX3_weightTogether lc0 wt0 kp0 y1 = some r) (fun u t => fw_B (dC, dI) A (wX cI cJ q  nc0 lc0 le0 ge0 wt0 kp0 fo0 po0 na0 ns0 ta0 ts0 mx0 ch0 mo0 ms0 fs0) t) A) ([.ref (q 0), .int y1] : List Value).toArray s 0 0 A) (F0 m 0 ls [])
  rw [← hHe, ← hLe]
  refine lv_iconst (v := (0 : Int32)) hx hb dX3_weightTogether_0 (by decide) ?_
  refine lv_istore_n (lv' := [(2, .int (0 : Int32)), (0, .ref (q 0)), (1, .int y1)]) hx hb dX3_weightTogether_1 rfl hl (by decide) rfl (fun ls hl => ?_)
  refine lv_iconst (v := (0 : Int32)) hx hb dX3_weightTogether_2 (by decide) ?_
  refine lv_istore_n (lv' := [(3, .int (0 : Int32)), (2, .int (0 : Int32)), (0, .ref (q 0)), (1, .int y1)]) hx hb dX3_weightTogether_3 rfl hl (by decide) rfl (fun ls hl => ?_)
  obtain ⟨e_6, hw, hq⟩ := fw_bb hq
  refine L4 y1 e_6 (fun x2_4 x3_5 H locs ls he hP hD hS hl => ?_) fw_N (0 : Int32) (0 : Int32) H locs ls hw hP hD hS (lv_sub hl [2, 3, 1, 0] rfl)
  subst he
  try dsimp only at hq
  refine lv_iload_n hx hb dX3_weightTogether_27 rfl (lv_at hl 2 rfl) ?_
  exact W.iret (v := x2_4) hx hb hr (fun t ht hW => ⟨⟨x2_4, (), rfl, hz.trans hq.symm, by rw [ht]; exact hP, hD⟩, hS.F ht⟩) hS.2.2 dX3_weightTogether_28
set_option maxHeartbeats 4000000 in
set_option maxRecDepth 100000 in
theorem kX3_weightAcross (l : Launch) (dC : Nat → ClassId) (dI : Nat → Nat → Nat) (cI cJ : ClassId) (q : Nat → Nat) (sz : Nat)  (nc0 : Int32) (lc0 : Int32) (le0 : Nat → Int32) (ge0 : Nat → Int32) (wt0 : Nat → Int32) (kp0 : Nat → Int32) (fo0 : Nat → Int32) (po0 : Nat → Int32) (na0 : Nat → Int32) (ns0 : Int32) (ta0 : Nat → Int32) (ts0 : Int32) (mx0 : Nat → Int64) (ch0 : Nat → Int32) (mo0 : Nat → Int64) (ms0 : Int32) (fs0 : Nat → Int32) (y1 : Int32) (y2 : Int32) (hd : ∃ z, pX3_weightAcross lc0 le0 ge0 wt0 kp0 y1 y2 = some z) : Met l yX3_weightAcross wsX3_weightAcross ({ frames := 1, cells := 0, slots := 0, locals := 22 }) (fw_Pc (dC, dI) (fw_tys cI cJ) (wX cI cJ q  nc0 lc0 le0 ge0 wt0 kp0 fo0 po0 na0 ns0 ta0 ts0 mx0 ch0 mo0 ms0 fs0) ([.ref (q 0), .int y1, .int y2] : List Value) sz) (va_Qi (fun (r : Int32) (u : Unit) => pX3_weightAcross lc0 le0 ge0 wt0 kp0 y1 y2 = some r) (fun u t => fw_B (dC, dI) (va_A (wX cI cJ q  nc0 lc0 le0 ge0 wt0 kp0 fo0 po0 na0 ns0 ta0 ts0 mx0 ch0 mo0 ms0 fs0) sz) (wX cI cJ q  nc0 lc0 le0 ge0 wt0 kp0 fo0 po0 na0 ns0 ta0 ts0 mx0 ch0 mo0 ms0 fs0) t) (va_A (wX cI cJ q  nc0 lc0 le0 ge0 wt0 kp0 fo0 po0 na0 ns0 ta0 ts0 mx0 ch0 mo0 ms0 fs0) sz)) 0 0 (va_A (wX cI cJ q  nc0 lc0 le0 ge0 wt0 kp0 fo0 po0 na0 ns0 ta0 ts0 mx0 ch0 mo0 ms0 fs0) sz) := by
  obtain ⟨z, hz⟩ := hd
  refine Met.ofW (cc := cX3_weightAcross) (maxL := 5) (ret := (some .int)) (by decide) rfl ?_
  intro p e s m args below meth c s₁ B hml hv
  obtain ⟨rfl, hsz, hP, hK, hD0, hN⟩ := hv
  have hx := B.exec
  have hb := B.bytes
  have hr := B.returns
  have hts := atoms_spec (ws := wsX3_weightAcross) B.pre
  have hown : s.vm.findClass RX3 = some m.cls := findClass_of_methodNamed B.named
  have hlocks := B.notSynchronized
  subst hsz
  have hD := hD0.self (sz := s.heap.size)
  generalize hAe : va_A (wX cI cJ q  nc0 lc0 le0 ge0 wt0 kp0 fo0 po0 na0 ns0 ta0 ts0 mx0 ch0 mo0 ms0 fs0) s.heap.size = A at hD ⊢
  have hA : ∀ q : Nat, s.heap.size ≤ q → A q := fun q h => by rw [← hAe]; exact Or.inr h
  have hinX3 : ∀ w ∈ u_ws RX3 TX3 12, w ∈ wsX3_weightAcross := by decide +kernel
  have hf13 := hts (.fieldLink RX3 13 "FewLines" "lineCount" "I") (by decide +kernel)
  have hf16 := hts (.fieldLink RX3 16 "FewLines" "lesserEnd" "[I") (by decide +kernel)
  have hf20 := hts (.fieldLink RX3 20 "FewLines" "greaterEnd" "[I") (by decide +kernel)
  have L5 : ∀ (x1 : Int32) (x2 : Int32) (e9 : Int32 × Int32), (∀ (x3' : Int32) (x4' : Int32) (H : Heap) (locs : List Loc) (ls : Array Slot), e9 = (x3', x4') → va_P (dC, dI) vwCl (wX cI cJ q  nc0 lc0 le0 ge0 wt0 kp0 fo0 po0 na0 ns0 ta0 ts0 mx0 ch0 mo0 ms0 fs0) H → va_D A (wX cI cJ q  nc0 lc0 le0 ge0 wt0 kp0 fo0 po0 na0 ns0 ta0 ts0 mx0 ch0 mo0 ms0 fs0) → va_S A s.heap H locs → lv_has ls 5 [(0, .ref (q 0)), (1, .int x1), (2, .int x2), (3, .int x3'), (4, .int x4')] → W p l e (headSpec wsX3_weightAcross ({ frames := 1, cells := 0, slots := 0, locals := 22 })).room s m ([.ref (q 0), .int y1, .int y2] : List Value).toArray below meth c H locs 0 0 (MQ below (va_Qi (fun (r : Int32) (u : Unit) => pX3_weightAcross lc0 le0 ge0 wt0 kp0 y1 y2 = some r) (fun u t => fw_B (dC, dI) A (wX cI cJ q  nc0 lc0 le0 ge0 wt0 kp0 fo0 po0 na0 ns0 ta0 ts0 mx0 ch0 mo0 ms0 fs0) t) A) ([.ref (q 0), .int y1, .int y2] : List Value).toArray s 0 0 A) (F0 m 55 ls [])) → ∀ (n9 : Nat) (x3 : Int32) (x4 : Int32) (H : Heap) (locs : List Loc) (ls : Array Slot), fw_wh (pX3_weightAcross_5 x1 x2 lc0 le0 ge0 wt0 kp0) n9 (x3, x4) = some e9 → va_P (dC, dI) vwCl (wX cI cJ q  nc0 lc0 le0 ge0 wt0 kp0 fo0 po0 na0 ns0 ta0 ts0 mx0 ch0 mo0 ms0 fs0) H → va_D A (wX cI cJ q  nc0 lc0 le0 ge0 wt0 kp0 fo0 po0 na0 ns0 ta0 ts0 mx0 ch0 mo0 ms0 fs0) → va_S A s.heap H locs → lv_has ls 5 [(0, .ref (q 0)), (1, .int x1), (2, .int x2), (3, .int x3), (4, .int x4)] → W p l e (headSpec wsX3_weightAcross ({ frames := 1, cells := 0, slots := 0, locals := 22 })).room s m ([.ref (q 0), .int y1, .int y2] : List Value).toArray below meth c H locs 0 0 (MQ below (va_Qi (fun (r : Int32) (u : Unit) => pX3_weightAcross lc0 le0 ge0 wt0 kp0 y1 y2 = some r) (fun u t => fw_B (dC, dI) A (wX cI cJ q  nc0 lc0 le0 ge0 wt0 kp0 fo0 po0 na0 ns0 ta0 ts0 mx0 ch0 mo0 ms0 fs0) t) A) ([.ref (q 0), .int y1, .int y2] : List Value).toArray s 0 0 A) (F0 m 5 ls []) := by
    intro x1 x2 e9 hkk n9
    induction n9 with
    | zero => exact fun _ _ H locs ls hq => (fw_wh0 hq).elim
    | succ n9 ih =>
      intro x3 x4 H locs ls hq hP hD hS hl
      obtain ⟨w9, hq, hwI, hwE⟩ := fw_wh1 hq
      dsimp only [pX3_weightAcross_5] at hq
      refine lv_iload hx hb dX3_weightAcross_5 (lv_at hl 4 rfl) ?_
      refine lv_aload_n hx hb dX3_weightAcross_7 rfl (lv_at hl 0 rfl) ?_
      refine va_get (D := (dC, dI)) (ci := 3) (v := .int lc0) (C := RX3) (T := TX3) (N := 12) hx hb hts hinX3 hown hK hP 0 rfl rfl 1 (by decide) hf13 (fun _ h9 => h9) rfl dX3_weightAcross_8 ?_
      refine lv_icmp_ge (tgt := 55) hx hb dX3_weightAcross_11 (by decide) (fun c_1 => ?_) (fun c_1 => ?_)
      · have hq := fw_it c_1 hq
        exact hkk x3 x4 H locs ls (hwE _ (Option.some.inj hq).symm) hP hD hS (lv_sub hl [0, 1, 2, 3, 4] rfl)
      · have hq := fw_if c_1 hq
        refine lv_iload_n hx hb dX3_weightAcross_14 rfl (lv_at hl 1 rfl) ?_
        refine lv_aload_n hx hb dX3_weightAcross_15 rfl (lv_at hl 0 rfl) ?_
        refine va_get (D := (dC, dI)) (ci := 3) (v := .ref (q 1)) (C := RX3) (T := TX3) (N := 12) hx hb hts hinX3 hown hK hP 0 rfl rfl 2 (by decide) hf16 (fun _ h9 => h9) rfl dX3_weightAcross_16 ?_
        refine lv_iload hx hb dX3_weightAcross_19 (lv_at hl 4 rfl) ?_
        obtain ⟨h_2, hq⟩ := fw_ck_s hq
        refine va_iald hx hb hK hP 1 0 rfl rfl h_2 dX3_weightAcross_21 ?_
        have hPc := hP.sub (ws' := (w0 cI cJ   )) [] rfl
        have hDc := hD.sub (ws' := (w0 cI cJ   )) [] (by decide) rfl
        refine fw_ci (wr := [((q 0), .inr (3, [.int nc0, .int lc0, .ref (q 1), .ref (q 2), .ref (q 3), .ref (q 4), .ref (q 5), .ref (q 6), .ref (q 8), .ref (q 10), .ref (q 12), .ref (q 16)])), ((q 1), .inl (cI, 12, .inl le0)), ((q 2), .inl (cI, 12, .inl ge0)), ((q 3), .inl (cI, 12, .inl wt0)), ((q 4), .inl (cI, 12, .inl kp0)), ((q 5), .inl (cI, 12, .inl fo0)), ((q 6), .inr (2, [.ref (q 7)])), ((q 7), .inl (cI, 7, .inl po0)), ((q 8), .inr (0, [.ref (q 9), .int ns0])), ((q 9), .inl (cI, 49, .inl na0)), ((q 10), .inr (0, [.ref (q 11), .int ts0])), ((q 11), .inl (cI, 49, .inl ta0)), ((q 12), .inr (1, [.ref (q 13), .ref (q 14), .ref (q 15), .int ms0])), ((q 13), .inl (cJ, 49, .inr (.inl mx0))), ((q 14), .inl (cI, 7, .inl ch0)), ((q 15), .inl (cJ, 128, .inr (.inl mo0))), ((q 16), .inl (cI, 10, .inl fs0))]) (w2 := fun u => (wX cI cJ q  nc0 lc0 le0 ge0 wt0 kp0 fo0 po0 na0 ns0 ta0 ts0 mx0 ch0 mo0 ms0 fs0)) [] [0, 1, 2, 3, 4, 5, 6, 7, 8, 9, 10, 11, 12, 13, 14, 15, 16] [0, 1, 2, 3, 4, 5, 6, 7, 8, 9, 10, 11, 12, 13, 14, 15, 16] (va_runS (As := [.int x1, .int (le0 (x4).toNatClampNeg)]) (rest := []) ⟨hx, hb, hml, hown, hts⟩ (kX3_isIn l dC dI cI cJ  H.size   x1 (le0 (x4).toNatClampNeg) (fw_be hq)) (va_cwS 2 hts gX3_weightAcross_X3_isIn rfl rfl rfl (by decide +kernel) ⟨Nat.le_of_ble_eq_true rfl, Nat.le_of_ble_eq_true rfl⟩) ⟨fw_blind, fun U hU hW => fw_pre hPc hK hDc hN hU hW⟩ rfl rfl hl.1 rfl (lv_room (Nat.le_of_ble_eq_true rfl)) dX3_weightAcross_22 ⟨Nat.zero_le _, Nat.zero_le _⟩) hP hD hS hA rfl rfl (by decide) (by decide) (by decide) (fun _ => rfl) (fun r_3 u H locs hw hP hD hS => ?_)
        obtain ⟨hw, n_5⟩ := hw
        have hq := fw_bs hw hq
        try dsimp only at hq
        refine lv_iload_n hx hb dX3_weightAcross_25 rfl (lv_at hl 1 rfl) ?_
        refine lv_aload_n hx hb dX3_weightAcross_26 rfl (lv_at hl 0 rfl) ?_
        refine va_get (D := (dC, dI)) (ci := 3) (v := .ref (q 2)) (C := RX3) (T := TX3) (N := 12) hx hb hts hinX3 hown hK hP 0 rfl rfl 3 (by decide) hf20 (fun _ h9 => h9) rfl dX3_weightAcross_27 ?_
        refine lv_iload hx hb dX3_weightAcross_30 (lv_at hl 4 rfl) ?_
        obtain ⟨h_6, hq⟩ := fw_ck_s hq
        refine va_iald hx hb hK hP 2 0 rfl rfl h_6 dX3_weightAcross_32 ?_
        have hPc := hP.sub (ws' := (w0 cI cJ   )) [] rfl
        have hDc := hD.sub (ws' := (w0 cI cJ   )) [] (by decide) rfl
        refine fw_ci (wr := [((q 0), .inr (3, [.int nc0, .int lc0, .ref (q 1), .ref (q 2), .ref (q 3), .ref (q 4), .ref (q 5), .ref (q 6), .ref (q 8), .ref (q 10), .ref (q 12), .ref (q 16)])), ((q 1), .inl (cI, 12, .inl le0)), ((q 2), .inl (cI, 12, .inl ge0)), ((q 3), .inl (cI, 12, .inl wt0)), ((q 4), .inl (cI, 12, .inl kp0)), ((q 5), .inl (cI, 12, .inl fo0)), ((q 6), .inr (2, [.ref (q 7)])), ((q 7), .inl (cI, 7, .inl po0)), ((q 8), .inr (0, [.ref (q 9), .int ns0])), ((q 9), .inl (cI, 49, .inl na0)), ((q 10), .inr (0, [.ref (q 11), .int ts0])), ((q 11), .inl (cI, 49, .inl ta0)), ((q 12), .inr (1, [.ref (q 13), .ref (q 14), .ref (q 15), .int ms0])), ((q 13), .inl (cJ, 49, .inr (.inl mx0))), ((q 14), .inl (cI, 7, .inl ch0)), ((q 15), .inl (cJ, 128, .inr (.inl mo0))), ((q 16), .inl (cI, 10, .inl fs0))]) (w2 := fun u => (wX cI cJ q  nc0 lc0 le0 ge0 wt0 kp0 fo0 po0 na0 ns0 ta0 ts0 mx0 ch0 mo0 ms0 fs0)) [] [0, 1, 2, 3, 4, 5, 6, 7, 8, 9, 10, 11, 12, 13, 14, 15, 16] [0, 1, 2, 3, 4, 5, 6, 7, 8, 9, 10, 11, 12, 13, 14, 15, 16] (va_runS (As := [.int x1, .int (ge0 (x4).toNatClampNeg)]) (rest := [.int r_3]) ⟨hx, hb, hml, hown, hts⟩ (kX3_isIn l dC dI cI cJ  H.size   x1 (ge0 (x4).toNatClampNeg) (fw_be hq)) (va_cwS 2 hts gX3_weightAcross_X3_isIn rfl rfl rfl (by decide +kernel) ⟨Nat.le_of_ble_eq_true rfl, Nat.le_of_ble_eq_true rfl⟩) ⟨fw_blind, fun U hU hW => fw_pre hPc hK hDc hN hU hW⟩ rfl rfl hl.1 rfl (lv_room (Nat.le_of_ble_eq_true rfl)) dX3_weightAcross_33 ⟨Nat.zero_le _, Nat.zero_le _⟩) hP hD hS hA rfl rfl (by decide) (by decide) (by decide) (fun _ => rfl) (fun r_7 u H locs hw hP hD hS => ?_)
        obtain ⟨hw, n_9⟩ := hw
        have hq := fw_bs hw hq
        try dsimp only at hq
        refine lv_icmp_eq (tgt := 49) hx hb dX3_weightAcross_36 (by decide) (fun c_10 => ?_) (fun c_10 => ?_)
        · have hq := fw_it c_10 hq
          refine lv_iinc (v := (x4 + (1 : Int32))) (lv' := [(4, .int (x4 + (1 : Int32))), (0, .ref (q 0)), (1, .int x1), (2, .int x2), (3, .int x3)]) hx hb dX3_weightAcross_49 hl (k := 4) rfl rfl (by decide) rfl (fun ls hl => ?_)
          refine lv_goto (tgt := 5) hx hb dX3_weightAcross_52 (by decide) ?_
          exact ih x3 (x4 + (1 : Int32)) H locs ls (hwI _ (Option.some.inj hq).symm) hP hD hS (lv_sub hl [1, 2, 3, 4, 0] rfl)
        · have hq := fw_if c_10 hq
          refine lv_iload_n hx hb dX3_weightAcross_39 rfl (lv_at hl 3 rfl) ?_
          refine lv_aload_n hx hb dX3_weightAcross_40 rfl (lv_at hl 0 rfl) ?_
          refine lv_iload hx hb dX3_weightAcross_41 (lv_at hl 4 rfl) ?_
          refine lv_iload_n hx hb dX3_weightAcross_43 rfl (lv_at hl 2 rfl) ?_
          have hPc := hP.sub (ws' := (wX cI cJ q  nc0 lc0 le0 ge0 wt0 kp0 fo0 po0 na0 ns0 ta0 ts0 mx0 ch0 mo0 ms0 fs0)) [0, 1, 2, 3, 4, 5, 6, 7, 8, 9, 10, 11, 12, 13, 14, 15, 16] rfl
          have hDc := hD.sub (ws' := (wX cI cJ q  nc0 lc0 le0 ge0 wt0 kp0 fo0 po0 na0 ns0 ta0 ts0 mx0 ch0 mo0 ms0 fs0)) [0, 1, 2, 3, 4, 5, 6, 7, 8, 9, 10, 11, 12, 13, 14, 15, 16] (by decide) rfl
          refine fw_ci (wr := []) (w2 := fun u => (wX cI cJ q  nc0 lc0 le0 ge0 wt0 kp0 fo0 po0 na0 ns0 ta0 ts0 mx0 ch0 mo0 ms0 fs0)) [0, 1, 2, 3, 4, 5, 6, 7, 8, 9, 10, 11, 12, 13, 14, 15, 16] [] [0, 1, 2, 3, 4, 5, 6, 7, 8, 9, 10, 11, 12, 13, 14, 15, 16] (va_runV (b := (q 0)) (As := [.int x4, .int x2]) (rest := [.int x3]) ⟨hx, hb, hml, hown, hts⟩ (kX3_weightIn l dC dI cI cJ q H.size  nc0 lc0 le0 ge0 wt0 kp0 fo0 po0 na0 ns0 ta0 ts0 mx0 ch0 mo0 ms0 fs0 x4 x2 (fw_be hq)) (cwV 2 hts gX3_weightAcross_X3_weightIn rfl rfl rfl (by decide +kernel) ⟨Nat.le_of_ble_eq_true rfl, Nat.le_of_ble_eq_true rfl⟩) ⟨fw_blind, va_recv hK hPc (ci := 3) (q0 := 0) rfl rfl, fun U hU hW => fw_pre hPc hK hDc hN hU hW⟩ rfl rfl hl.1 rfl (lv_room (Nat.le_of_ble_eq_true rfl)) dX3_weightAcross_44 ⟨Nat.zero_le _, Nat.zero_le _⟩) hP hD hS hA rfl rfl (by decide) (by decide) (by decide) (fun _ => rfl) (fun r_11 u H locs hw hP hD hS => ?_)
          have hq := fw_bs hw hq
          try dsimp only at hq
          refine lv_iadd hx hb dX3_weightAcross_47 ?_
          refine lv_istore_n (lv' := [(3, .int (x3 + r_11)), (0, .ref (q 0)), (1, .int x1), (2, .int x2), (4, .int x4)]) hx hb dX3_weightAcross_48 rfl hl (by decide) rfl (fun ls hl => ?_)
          refine lv_iinc (v := (x4 + (1 : Int32))) (lv' := [(4, .int (x4 + (1 : Int32))), (3, .int (x3 + r_11)), (0, .ref (q 0)), (1, .int x1), (2, .int x2)]) hx hb dX3_weightAcross_49 hl (k := 4) rfl rfl (by decide) rfl (fun ls hl => ?_)
          refine lv_goto (tgt := 5) hx hb dX3_weightAcross_52 (by decide) ?_
          exact ih (x3 + r_11) (x4 + (1 : Int32)) H locs ls (hwI _ (Option.some.inj hq).symm) hP hD hS (lv_sub hl [2, 3, 4, 1, 0] rfl)
  have hq := hz
  dsimp only [pX3_weightAcross] at hq
  have hl := lv_entry (([.ref (q 0), .int y1, .int y2] : List Value)) (n := 5) (Nat.le_of_ble_eq_true rfl)
  rw [lg_entry_eq]
  generalize (lg_sl (([.ref (q 0), .int y1, .int y2] : List Value)) ++ List.replicate (5 - (lg_sl (([.ref (q 0), .int y1, .int y2] : List Value))).length) Slot.unset).toArray = ls at hl ⊢
  have hl : lv_has ls 5 [(0, .ref (q 0)), (1, .int y1), (2, .int y2)] := hl
  obtain ⟨H, hHe⟩ : ∃ H : Heap, H = s.heap := ⟨_, rfl⟩
  obtain ⟨locs, hLe⟩ : ∃ L : List Loc, L = [] := ⟨_, rfl⟩
  have hP : va_P (dC, dI) vwCl (wX cI cJ q  nc0 lc0 le0 ge0 wt0 kp0 fo0 po0 na0 ns0 ta0 ts0 mx0 ch0 mo0 ms0 fs0) H := by rw [hHe]; exact hP
  have hS : va_S A s.heap H locs := by rw [hHe, hLe]; exact va_S.rf
  show W p l e (headSpec wsX3_weightAcross ({ frames := 1, cells := 0, slots := 0, locals := 22 })).room s m ([.ref (q 0), .int y1, .int y2] : List Value).toArray below meth c s.heap [] 0 0 (MQ below (va_Qi (fun (r : Int32) (u : Unit) => pX3_weightAcross lc0 le0 ge0 wt0 kp0 y1 y2 = some r) (fun u t => fw_B (dC, dI) A (wX cI cJ q  nc0 lc0 le0 ge0 wt0 kp0 fo0 po0 na0 ns0 ta0 ts0 mx0 ch0 mo0 ms0 fs0) t) A) ([.ref (q 0), .int y1, .int y2] : List Value).toArray s 0 0 A) (F0 m 0 ls [])
  rw [← hHe, ← hLe]
  refine lv_iconst (v := (0 : Int32)) hx hb dX3_weightAcross_0 (by decide) ?_
  refine lv_istore_n (lv' := [(3, .int (0 : Int32)), (0, .ref (q 0)), (1, .int y1), (2, .int y2)]) hx hb dX3_weightAcross_1 rfl hl (by decide) rfl (fun ls hl => ?_)
  refine lv_iconst (v := (0 : Int32)) hx hb dX3_weightAcross_2 (by decide) ?_
  refine lv_istore (lv' := [(4, .int (0 : Int32)), (3, .int (0 : Int32)), (0, .ref (q 0)), (1, .int y1), (2, .int y2)]) hx hb dX3_weightAcross_3 hl (by decide) rfl (fun ls hl => ?_)
  obtain ⟨e_15, hw, hq⟩ := fw_bb hq
  refine L5 y1 y2 e_15 (fun x3_13 x4_14 H locs ls he hP hD hS hl => ?_) fw_N (0 : Int32) (0 : Int32) H locs ls hw hP hD hS (lv_sub hl [2, 3, 4, 1, 0] rfl)
  subst he
  try dsimp only at hq
  refine lv_iload_n hx hb dX3_weightAcross_55 rfl (lv_at hl 3 rfl) ?_
  exact W.iret (v := x3_13) hx hb hr (fun t ht hW => ⟨⟨x3_13, (), rfl, hz.trans hq.symm, by rw [ht]; exact hP, hD⟩, hS.F ht⟩) hS.2.2 dX3_weightAcross_56
set_option maxHeartbeats 4000000 in
set_option maxRecDepth 100000 in
theorem kX3_linesOf (l : Launch) (dC : Nat → ClassId) (dI : Nat → Nat → Nat) (cI cJ : ClassId) (q : Nat → Nat) (sz : Nat)  (nc0 : Int32) (lc0 : Int32) (le0 : Nat → Int32) (ge0 : Nat → Int32) (wt0 : Nat → Int32) (kp0 : Nat → Int32) (fo0 : Nat → Int32) (po0 : Nat → Int32) (na0 : Nat → Int32) (ns0 : Int32) (ta0 : Nat → Int32) (ts0 : Int32) (mx0 : Nat → Int64) (ch0 : Nat → Int32) (mo0 : Nat → Int64) (ms0 : Int32) (fs0 : Nat → Int32) (y1 : Int32) (hd : ∃ z, pX3_linesOf lc0 wt0 kp0 y1 = some z) : Met l yX3_linesOf wsX3_linesOf ({ frames := 1, cells := 0, slots := 0, locals := 22 }) (fw_Pc (dC, dI) (fw_tys cI cJ) (wX cI cJ q  nc0 lc0 le0 ge0 wt0 kp0 fo0 po0 na0 ns0 ta0 ts0 mx0 ch0 mo0 ms0 fs0) ([.ref (q 0), .int y1] : List Value) sz) (va_Qi (fun (r : Int32) (u : Unit) => pX3_linesOf lc0 wt0 kp0 y1 = some r) (fun u t => fw_B (dC, dI) (va_A (wX cI cJ q  nc0 lc0 le0 ge0 wt0 kp0 fo0 po0 na0 ns0 ta0 ts0 mx0 ch0 mo0 ms0 fs0) sz) (wX cI cJ q  nc0 lc0 le0 ge0 wt0 kp0 fo0 po0 na0 ns0 ta0 ts0 mx0 ch0 mo0 ms0 fs0) t) (va_A (wX cI cJ q  nc0 lc0 le0 ge0 wt0 kp0 fo0 po0 na0 ns0 ta0 ts0 mx0 ch0 mo0 ms0 fs0) sz)) 0 0 (va_A (wX cI cJ q  nc0 lc0 le0 ge0 wt0 kp0 fo0 po0 na0 ns0 ta0 ts0 mx0 ch0 mo0 ms0 fs0) sz) := by
  obtain ⟨z, hz⟩ := hd
  refine Met.ofW (cc := cX3_linesOf) (maxL := 4) (ret := (some .int)) (by decide) rfl ?_
  intro p e s m args below meth c s₁ B hml hv
  obtain ⟨rfl, hsz, hP, hK, hD0, hN⟩ := hv
  have hx := B.exec
  have hb := B.bytes
  have hr := B.returns
  have hts := atoms_spec (ws := wsX3_linesOf) B.pre
  have hown : s.vm.findClass RX3 = some m.cls := findClass_of_methodNamed B.named
  have hlocks := B.notSynchronized
  subst hsz
  have hD := hD0.self (sz := s.heap.size)
  generalize hAe : va_A (wX cI cJ q  nc0 lc0 le0 ge0 wt0 kp0 fo0 po0 na0 ns0 ta0 ts0 mx0 ch0 mo0 ms0 fs0) s.heap.size = A at hD ⊢
  have hA : ∀ q : Nat, s.heap.size ≤ q → A q := fun q h => by rw [← hAe]; exact Or.inr h
  have hinX3 : ∀ w ∈ u_ws RX3 TX3 12, w ∈ wsX3_linesOf := by decide +kernel
  have hf13 := hts (.fieldLink RX3 13 "FewLines" "lineCount" "I") (by decide +kernel)
  have L4 : ∀ (x1 : Int32) (e9 : Int32 × Int32), (∀ (x2' : Int32) (x3' : Int32) (H : Heap) (locs : List Loc) (ls : Array Slot), e9 = (x2', x3') → va_P (dC, dI) vwCl (wX cI cJ q  nc0 lc0 le0 ge0 wt0 kp0 fo0 po0 na0 ns0 ta0 ts0 mx0 ch0 mo0 ms0 fs0) H → va_D A (wX cI cJ q  nc0 lc0 le0 ge0 wt0 kp0 fo0 po0 na0 ns0 ta0 ts0 mx0 ch0 mo0 ms0 fs0) → va_S A s.heap H locs → lv_has ls 4 [(0, .ref (q 0)), (1, .int x1), (2, .int x2'), (3, .int x3')] → W p l e (headSpec wsX3_linesOf ({ frames := 1, cells := 0, slots := 0, locals := 22 })).room s m ([.ref (q 0), .int y1] : List Value).toArray below meth c H locs 0 0 (MQ below (va_Qi (fun (r : Int32) (u : Unit) => pX3_linesOf lc0 wt0 kp0 y1 = some r) (fun u t => fw_B (dC, dI) A (wX cI cJ q  nc0 lc0 le0 ge0 wt0 kp0 fo0 po0 na0 ns0 ta0 ts0 mx0 ch0 mo0 ms0 fs0) t) A) ([.ref (q 0), .int y1] : List Value).toArray s 0 0 A) (F0 m 33 ls [])) → ∀ (n9 : Nat) (x2 : Int32) (x3 : Int32) (H : Heap) (locs : List Loc) (ls : Array Slot), fw_wh (pX3_linesOf_4 x1 lc0 wt0 kp0) n9 (x2, x3) = some e9 → va_P (dC, dI) vwCl (wX cI cJ q  nc0 lc0 le0 ge0 wt0 kp0 fo0 po0 na0 ns0 ta0 ts0 mx0 ch0 mo0 ms0 fs0) H → va_D A (wX cI cJ q  nc0 lc0 le0 ge0 wt0 kp0 fo0 po0 na0 ns0 ta0 ts0 mx0 ch0 mo0 ms0 fs0) → va_S A s.heap H locs → lv_has ls 4 [(0, .ref (q 0)), (1, .int x1), (2, .int x2), (3, .int x3)] → W p l e (headSpec wsX3_linesOf ({ frames := 1, cells := 0, slots := 0, locals := 22 })).room s m ([.ref (q 0), .int y1] : List Value).toArray below meth c H locs 0 0 (MQ below (va_Qi (fun (r : Int32) (u : Unit) => pX3_linesOf lc0 wt0 kp0 y1 = some r) (fun u t => fw_B (dC, dI) A (wX cI cJ q  nc0 lc0 le0 ge0 wt0 kp0 fo0 po0 na0 ns0 ta0 ts0 mx0 ch0 mo0 ms0 fs0) t) A) ([.ref (q 0), .int y1] : List Value).toArray s 0 0 A) (F0 m 4 ls []) := by
    intro x1 e9 hkk n9
    induction n9 with
    | zero => exact fun _ _ H locs ls hq => (fw_wh0 hq).elim
    | succ n9 ih =>
      intro x2 x3 H locs ls hq hP hD hS hl
      obtain ⟨w9, hq, hwI, hwE⟩ := fw_wh1 hq
      dsimp only [pX3_linesOf_4] at hq
      refine lv_iload_n hx hb dX3_linesOf_4 rfl (lv_at hl 3 rfl) ?_
      refine lv_aload_n hx hb dX3_linesOf_5 rfl (lv_at hl 0 rfl) ?_
      refine va_get (D := (dC, dI)) (ci := 3) (v := .int lc0) (C := RX3) (T := TX3) (N := 12) hx hb hts hinX3 hown hK hP 0 rfl rfl 1 (by decide) hf13 (fun _ h9 => h9) rfl dX3_linesOf_6 ?_
      refine lv_icmp_ge (tgt := 33) hx hb dX3_linesOf_9 (by decide) (fun c_1 => ?_) (fun c_1 => ?_)
      · have hq := fw_it c_1 hq
        exact hkk x2 x3 H locs ls (hwE _ (Option.some.inj hq).symm) hP hD hS (lv_sub hl [0, 1, 2, 3] rfl)
      · have hq := fw_if c_1 hq
        refine lv_aload_n hx hb dX3_linesOf_12 rfl (lv_at hl 0 rfl) ?_
        refine lv_iload_n hx hb dX3_linesOf_13 rfl (lv_at hl 3 rfl) ?_
        refine lv_iload_n hx hb dX3_linesOf_14 rfl (lv_at hl 1 rfl) ?_
        have hPc := hP.sub (ws' := (wX cI cJ q  nc0 lc0 le0 ge0 wt0 kp0 fo0 po0 na0 ns0 ta0 ts0 mx0 ch0 mo0 ms0 fs0)) [0, 1, 2, 3, 4, 5, 6, 7, 8, 9, 10, 11, 12, 13, 14, 15, 16] rfl
        have hDc := hD.sub (ws' := (wX cI cJ q  nc0 lc0 le0 ge0 wt0 kp0 fo0 po0 na0 ns0 ta0 ts0 mx0 ch0 mo0 ms0 fs0)) [0, 1, 2, 3, 4, 5, 6, 7, 8, 9, 10, 11, 12, 13, 14, 15, 16] (by decide) rfl
        refine fw_ci (wr := []) (w2 := fun u => (wX cI cJ q  nc0 lc0 le0 ge0 wt0 kp0 fo0 po0 na0 ns0 ta0 ts0 mx0 ch0 mo0 ms0 fs0)) [0, 1, 2, 3, 4, 5, 6, 7, 8, 9, 10, 11, 12, 13, 14, 15, 16] [] [0, 1, 2, 3, 4, 5, 6, 7, 8, 9, 10, 11, 12, 13, 14, 15, 16] (va_runV (b := (q 0)) (As := [.int x3, .int x1]) (rest := []) ⟨hx, hb, hml, hown, hts⟩ (kX3_weightIn l dC dI cI cJ q H.size  nc0 lc0 le0 ge0 wt0 kp0 fo0 po0 na0 ns0 ta0 ts0 mx0 ch0 mo0 ms0 fs0 x3 x1 (fw_be hq)) (cwV 2 hts gX3_linesOf_X3_weightIn rfl rfl rfl (by decide +kernel) ⟨Nat.le_of_ble_eq_true rfl, Nat.le_of_ble_eq_true rfl⟩) ⟨fw_blind, va_recv hK hPc (ci := 3) (q0 := 0) rfl rfl, fun U hU hW => fw_pre hPc hK hDc hN hU hW⟩ rfl rfl hl.1 rfl (lv_room (Nat.le_of_ble_eq_true rfl)) dX3_linesOf_15 ⟨Nat.zero_le _, Nat.zero_le _⟩) hP hD hS hA rfl rfl (by decide) (by decide) (by decide) (fun _ => rfl) (fun r_2 u H locs hw hP hD hS => ?_)
        have hq := fw_bs hw hq
        try dsimp only at hq
        refine lv_if_le (tgt := 27) hx hb dX3_linesOf_18 (by decide) (fun c_4 => ?_) (fun c_4 => ?_)
        · have hq := fw_it c_4 hq
          refine lv_iinc (v := (x3 + (1 : Int32))) (lv' := [(3, .int (x3 + (1 : Int32))), (0, .ref (q 0)), (1, .int x1), (2, .int x2)]) hx hb dX3_linesOf_27 hl (k := 3) rfl rfl (by decide) rfl (fun ls hl => ?_)
          refine lv_goto (tgt := 4) hx hb dX3_linesOf_30 (by decide) ?_
          exact ih x2 (x3 + (1 : Int32)) H locs ls (hwI _ (Option.some.inj hq).symm) hP hD hS (lv_sub hl [1, 2, 3, 0] rfl)
        · have hq := fw_if c_4 hq
          refine lv_iload_n hx hb dX3_linesOf_21 rfl (lv_at hl 2 rfl) ?_
          refine lv_iconst (v := (1 : Int32)) hx hb dX3_linesOf_22 (by decide) ?_
          refine lv_iload_n hx hb dX3_linesOf_23 rfl (lv_at hl 3 rfl) ?_
          refine lv_ishl hx hb dX3_linesOf_24 ?_
          refine lv_ior hx hb dX3_linesOf_25 ?_
          refine lv_istore_n (lv' := [(2, .int (x2 ||| ((1 : Int32) <<< (x3 &&& 31)))), (0, .ref (q 0)), (1, .int x1), (3, .int x3)]) hx hb dX3_linesOf_26 rfl hl (by decide) rfl (fun ls hl => ?_)
          refine lv_iinc (v := (x3 + (1 : Int32))) (lv' := [(3, .int (x3 + (1 : Int32))), (2, .int (x2 ||| ((1 : Int32) <<< (x3 &&& 31)))), (0, .ref (q 0)), (1, .int x1)]) hx hb dX3_linesOf_27 hl (k := 3) rfl rfl (by decide) rfl (fun ls hl => ?_)
          refine lv_goto (tgt := 4) hx hb dX3_linesOf_30 (by decide) ?_
          exact ih (x2 ||| ((1 : Int32) <<< (x3 &&& 31))) (x3 + (1 : Int32)) H locs ls (hwI _ (Option.some.inj hq).symm) hP hD hS (lv_sub hl [2, 3, 1, 0] rfl)
  have hq := hz
  dsimp only [pX3_linesOf] at hq
  have hl := lv_entry (([.ref (q 0), .int y1] : List Value)) (n := 4) (Nat.le_of_ble_eq_true rfl)
  rw [lg_entry_eq]
  generalize (lg_sl (([.ref (q 0), .int y1] : List Value)) ++ List.replicate (4 - (lg_sl (([.ref (q 0), .int y1] : List Value))).length) Slot.unset).toArray = ls at hl ⊢
  have hl : lv_has ls 4 [(0, .ref (q 0)), (1, .int y1)] := hl
  obtain ⟨H, hHe⟩ : ∃ H : Heap, H = s.heap := ⟨_, rfl⟩
  obtain ⟨locs, hLe⟩ : ∃ L : List Loc, L = [] := ⟨_, rfl⟩
  have hP : va_P (dC, dI) vwCl (wX cI cJ q  nc0 lc0 le0 ge0 wt0 kp0 fo0 po0 na0 ns0 ta0 ts0 mx0 ch0 mo0 ms0 fs0) H := by rw [hHe]; exact hP
  have hS : va_S A s.heap H locs := by rw [hHe, hLe]; exact va_S.rf
  show W p l e (headSpec wsX3_linesOf ({ frames := 1, cells := 0, slots := 0, locals := 22 })).room s m ([.ref (q 0), .int y1] : List Value).toArray below meth c s.heap [] 0 0 (MQ below (va_Qi (fun (r : Int32) (u : Unit) => pX3_linesOf lc0 wt0 kp0 y1 = some r) (fun u t => fw_B (dC, dI) A (wX cI cJ q  nc0 lc0 le0 ge0 wt0 kp0 fo0 po0 na0 ns0 ta0 ts0 mx0 ch0 mo0 ms0 fs0) t) A) ([.ref (q 0), .int y1] : List Value).toArray s 0 0 A) (F0 m 0 ls [])
  rw [← hHe, ← hLe]
  refine lv_iconst (v := (0 : Int32)) hx hb dX3_linesOf_0 (by decide) ?_
  refine lv_istore_n (lv' := [(2, .int (0 : Int32)), (0, .ref (q 0)), (1, .int y1)]) hx hb dX3_linesOf_1 rfl hl (by decide) rfl (fun ls hl => ?_)
  refine lv_iconst (v := (0 : Int32)) hx hb dX3_linesOf_2 (by decide) ?_
  refine lv_istore_n (lv' := [(3, .int (0 : Int32)), (2, .int (0 : Int32)), (0, .ref (q 0)), (1, .int y1)]) hx hb dX3_linesOf_3 rfl hl (by decide) rfl (fun ls hl => ?_)
  obtain ⟨e_7, hw, hq⟩ := fw_bb hq
  refine L4 y1 e_7 (fun x2_5 x3_6 H locs ls he hP hD hS hl => ?_) fw_N (0 : Int32) (0 : Int32) H locs ls hw hP hD hS (lv_sub hl [2, 3, 1, 0] rfl)
  subst he
  try dsimp only at hq
  refine lv_iload_n hx hb dX3_linesOf_33 rfl (lv_at hl 2 rfl) ?_
  exact W.iret (v := x2_5) hx hb hr (fun t ht hW => ⟨⟨x2_5, (), rfl, hz.trans hq.symm, by rw [ht]; exact hP, hD⟩, hS.F ht⟩) hS.2.2 dX3_linesOf_34
set_option maxHeartbeats 4000000 in
set_option maxRecDepth 100000 in
theorem kX3_keepJust (l : Launch) (dC : Nat → ClassId) (dI : Nat → Nat → Nat) (cI cJ : ClassId) (q : Nat → Nat) (sz : Nat)  (nc0 : Int32) (lc0 : Int32) (le0 : Nat → Int32) (ge0 : Nat → Int32) (wt0 : Nat → Int32) (kp0 : Nat → Int32) (fo0 : Nat → Int32) (po0 : Nat → Int32) (na0 : Nat → Int32) (ns0 : Int32) (ta0 : Nat → Int32) (ts0 : Int32) (mx0 : Nat → Int64) (ch0 : Nat → Int32) (mo0 : Nat → Int64) (ms0 : Int32) (fs0 : Nat → Int32) (y1 : Int32) (hd : ∃ z, pX3_keepJust lc0 wt0 kp0 y1 = some z) : Met l yX3_keepJust wsX3_keepJust ({ frames := 1, cells := 0, slots := 0, locals := 21 }) (fw_Pc (dC, dI) (fw_tys cI cJ) (wX cI cJ q  nc0 lc0 le0 ge0 wt0 kp0 fo0 po0 na0 ns0 ta0 ts0 mx0 ch0 mo0 ms0 fs0) ([.ref (q 0), .int y1] : List Value) sz) (va_Qi (fun (r : Int32) (u : (Nat → Int32)) => pX3_keepJust lc0 wt0 kp0 y1 = some (r, u)) (fun u t => fw_B (dC, dI) (va_A (wX cI cJ q  nc0 lc0 le0 ge0 wt0 kp0 fo0 po0 na0 ns0 ta0 ts0 mx0 ch0 mo0 ms0 fs0) sz) (wX cI cJ q  nc0 lc0 le0 ge0 wt0 u fo0 po0 na0 ns0 ta0 ts0 mx0 ch0 mo0 ms0 fs0) t) (va_A (wX cI cJ q  nc0 lc0 le0 ge0 wt0 kp0 fo0 po0 na0 ns0 ta0 ts0 mx0 ch0 mo0 ms0 fs0) sz)) 0 0 (va_A (wX cI cJ q  nc0 lc0 le0 ge0 wt0 kp0 fo0 po0 na0 ns0 ta0 ts0 mx0 ch0 mo0 ms0 fs0) sz) := by
  obtain ⟨z, hz⟩ := hd
  refine Met.ofW (cc := cX3_keepJust) (maxL := 3) (ret := (some .int)) (by decide) rfl ?_
  intro p e s m args below meth c s₁ B hml hv
  obtain ⟨rfl, hsz, hP, hK, hD0, hN⟩ := hv
  have hx := B.exec
  have hb := B.bytes
  have hr := B.returns
  have hts := atoms_spec (ws := wsX3_keepJust) B.pre
  have hown : s.vm.findClass RX3 = some m.cls := findClass_of_methodNamed B.named
  have hlocks := B.notSynchronized
  subst hsz
  have hD := hD0.self (sz := s.heap.size)
  generalize hAe : va_A (wX cI cJ q  nc0 lc0 le0 ge0 wt0 kp0 fo0 po0 na0 ns0 ta0 ts0 mx0 ch0 mo0 ms0 fs0) s.heap.size = A at hD ⊢
  have hA : ∀ q : Nat, s.heap.size ≤ q → A q := fun q h => by rw [← hAe]; exact Or.inr h
  have hinX3 : ∀ w ∈ u_ws RX3 TX3 12, w ∈ wsX3_keepJust := by decide +kernel
  have hf13 := hts (.fieldLink RX3 13 "FewLines" "lineCount" "I") (by decide +kernel)
  have hf23 := hts (.fieldLink RX3 23 "FewLines" "weightOf" "[I") (by decide +kernel)
  have hf26 := hts (.fieldLink RX3 26 "FewLines" "keptOf" "[I") (by decide +kernel)
  have L2 : ∀ (x1 : Int32) (e9 : Int32 × (Nat → Int32)), (∀ (x2' : Int32) (kp' : Nat → Int32) (H : Heap) (locs : List Loc) (ls : Array Slot), e9 = (x2', kp') → va_P (dC, dI) vwCl (wX cI cJ q  nc0 lc0 le0 ge0 wt0 kp' fo0 po0 na0 ns0 ta0 ts0 mx0 ch0 mo0 ms0 fs0) H → va_D A (wX cI cJ q  nc0 lc0 le0 ge0 wt0 kp' fo0 po0 na0 ns0 ta0 ts0 mx0 ch0 mo0 ms0 fs0) → va_S A s.heap H locs → lv_has ls 3 [(0, .ref (q 0)), (1, .int x1), (2, .int x2')] → W p l e (headSpec wsX3_keepJust ({ frames := 1, cells := 0, slots := 0, locals := 21 })).room s m ([.ref (q 0), .int y1] : List Value).toArray below meth c H locs 0 0 (MQ below (va_Qi (fun (r : Int32) (u : (Nat → Int32)) => pX3_keepJust lc0 wt0 kp0 y1 = some (r, u)) (fun u t => fw_B (dC, dI) A (wX cI cJ q  nc0 lc0 le0 ge0 wt0 u fo0 po0 na0 ns0 ta0 ts0 mx0 ch0 mo0 ms0 fs0) t) A) ([.ref (q 0), .int y1] : List Value).toArray s 0 0 A) (F0 m 40 ls [])) → ∀ (n9 : Nat) (x2 : Int32) (kp : Nat → Int32) (H : Heap) (locs : List Loc) (ls : Array Slot), fw_wh (pX3_keepJust_2 x1 lc0 wt0) n9 (x2, kp) = some e9 → va_P (dC, dI) vwCl (wX cI cJ q  nc0 lc0 le0 ge0 wt0 kp fo0 po0 na0 ns0 ta0 ts0 mx0 ch0 mo0 ms0 fs0) H → va_D A (wX cI cJ q  nc0 lc0 le0 ge0 wt0 kp fo0 po0 na0 ns0 ta0 ts0 mx0 ch0 mo0 ms0 fs0) → va_S A s.heap H locs → lv_has ls 3 [(0, .ref (q 0)), (1, .int x1), (2, .int x2)] → W p l e (headSpec wsX3_keepJust ({ frames := 1, cells := 0, slots := 0, locals := 21 })).room s m ([.ref (q 0), .int y1] : List Value).toArray below meth c H locs 0 0 (MQ below (va_Qi (fun (r : Int32) (u : (Nat → Int32)) => pX3_keepJust lc0 wt0 kp0 y1 = some (r, u)) (fun u t => fw_B (dC, dI) A (wX cI cJ q  nc0 lc0 le0 ge0 wt0 u fo0 po0 na0 ns0 ta0 ts0 mx0 ch0 mo0 ms0 fs0) t) A) ([.ref (q 0), .int y1] : List Value).toArray s 0 0 A) (F0 m 2 ls []) := by
    intro x1 e9 hkk n9
    induction n9 with
    | zero => exact fun _ _ H locs ls hq => (fw_wh0 hq).elim
    | succ n9 ih =>
      intro x2 kp H locs ls hq hP hD hS hl
      obtain ⟨w9, hq, hwI, hwE⟩ := fw_wh1 hq
      dsimp only [pX3_keepJust_2] at hq
      refine lv_iload_n hx hb dX3_keepJust_2 rfl (lv_at hl 2 rfl) ?_
      refine lv_aload_n hx hb dX3_keepJust_3 rfl (lv_at hl 0 rfl) ?_
      refine va_get (D := (dC, dI)) (ci := 3) (v := .int lc0) (C := RX3) (T := TX3) (N := 12) hx hb hts hinX3 hown hK hP 0 rfl rfl 1 (by decide) hf13 (fun _ h9 => h9) rfl dX3_keepJust_4 ?_
      refine lv_icmp_ge (tgt := 40) hx hb dX3_keepJust_7 (by decide) (fun c_1 => ?_) (fun c_1 => ?_)
      · have hq := fw_it c_1 hq
        exact hkk x2 kp H locs ls (hwE _ (Option.some.inj hq).symm) hP hD hS (lv_sub hl [0, 1, 2] rfl)
      · have hq := fw_if c_1 hq
        refine lv_aload_n hx hb dX3_keepJust_10 rfl (lv_at hl 0 rfl) ?_
        refine va_get (D := (dC, dI)) (ci := 3) (v := .ref (q 4)) (C := RX3) (T := TX3) (N := 12) hx hb hts hinX3 hown hK hP 0 rfl rfl 5 (by decide) hf26 (fun _ h9 => h9) rfl dX3_keepJust_11 ?_
        refine lv_iload_n hx hb dX3_keepJust_14 rfl (lv_at hl 2 rfl) ?_
        refine lv_iload_n hx hb dX3_keepJust_15 rfl (lv_at hl 1 rfl) ?_
        refine lv_iload_n hx hb dX3_keepJust_16 rfl (lv_at hl 2 rfl) ?_
        have hPc := hP.sub (ws' := (w0 cI cJ   )) [] rfl
        have hDc := hD.sub (ws' := (w0 cI cJ   )) [] (by decide) rfl
        refine fw_ci (wr := [((q 0), .inr (3, [.int nc0, .int lc0, .ref (q 1), .ref (q 2), .ref (q 3), .ref (q 4), .ref (q 5), .ref (q 6), .ref (q 8), .ref (q 10), .ref (q 12), .ref (q 16)])), ((q 1), .inl (cI, 12, .inl le0)), ((q 2), .inl (cI, 12, .inl ge0)), ((q 3), .inl (cI, 12, .inl wt0)), ((q 4), .inl (cI, 12, .inl kp)), ((q 5), .inl (cI, 12, .inl fo0)), ((q 6), .inr (2, [.ref (q 7)])), ((q 7), .inl (cI, 7, .inl po0)), ((q 8), .inr (0, [.ref (q 9), .int ns0])), ((q 9), .inl (cI, 49, .inl na0)), ((q 10), .inr (0, [.ref (q 11), .int ts0])), ((q 11), .inl (cI, 49, .inl ta0)), ((q 12), .inr (1, [.ref (q 13), .ref (q 14), .ref (q 15), .int ms0])), ((q 13), .inl (cJ, 49, .inr (.inl mx0))), ((q 14), .inl (cI, 7, .inl ch0)), ((q 15), .inl (cJ, 128, .inr (.inl mo0))), ((q 16), .inl (cI, 10, .inl fs0))]) (w2 := fun u => (wX cI cJ q  nc0 lc0 le0 ge0 wt0 kp fo0 po0 na0 ns0 ta0 ts0 mx0 ch0 mo0 ms0 fs0)) [] [0, 1, 2, 3, 4, 5, 6, 7, 8, 9, 10, 11, 12, 13, 14, 15, 16] [0, 1, 2, 3, 4, 5, 6, 7, 8, 9, 10, 11, 12, 13, 14, 15, 16] (va_runS (As := [.int x1, .int x2]) (rest := [.int x2, .ref (q 4)]) ⟨hx, hb, hml, hown, hts⟩ (kX3_isIn l dC dI cI cJ  H.size   x1 x2 (fw_be hq)) (va_cwS 2 hts gX3_keepJust_X3_isIn rfl rfl rfl (by decide +kernel) ⟨Nat.le_of_ble_eq_true rfl, Nat.le_of_ble_eq_true rfl⟩) ⟨fw_blind, fun U hU hW => fw_pre hPc hK hDc hN hU hW⟩ rfl rfl hl.1 rfl (lv_room (Nat.le_of_ble_eq_true rfl)) dX3_keepJust_17 ⟨Nat.zero_le _, Nat.zero_le _⟩) hP hD hS hA rfl rfl (by decide) (by decide) (by decide) (fun _ => rfl) (fun r_2 u H locs hw hP hD hS => ?_)
        obtain ⟨hw, n_4⟩ := hw
        have hq := fw_bs hw hq
        try dsimp only at hq
        refine lv_if_eq (tgt := 32) hx hb dX3_keepJust_20 (by decide) (fun c_5 => ?_) (fun c_5 => ?_)
        · have hq := fw_it c_5 hq
          refine lv_iconst (v := (0 : Int32)) hx hb dX3_keepJust_32 (by decide) ?_
          obtain ⟨h_6, hq⟩ := fw_ck_s hq
          refine va_iast hx hb hK hP hD hS 4 0 rfl rfl h_6 dX3_keepJust_33 (fun H locs hP hD hS => ?_)
          have hP : va_P (dC, dI) vwCl (wX cI cJ q  nc0 lc0 le0 ge0 wt0 (upd kp (x2).toNatClampNeg (0 : Int32)) fo0 po0 na0 ns0 ta0 ts0 mx0 ch0 mo0 ms0 fs0) H := hP
          have hD : va_D A (wX cI cJ q  nc0 lc0 le0 ge0 wt0 (upd kp (x2).toNatClampNeg (0 : Int32)) fo0 po0 na0 ns0 ta0 ts0 mx0 ch0 mo0 ms0 fs0) := hD
          refine lv_iinc (v := (x2 + (1 : Int32))) (lv' := [(2, .int (x2 + (1 : Int32))), (0, .ref (q 0)), (1, .int x1)]) hx hb dX3_keepJust_34 hl (k := 2) rfl rfl (by decide) rfl (fun ls hl => ?_)
          refine lv_goto (tgt := 2) hx hb dX3_keepJust_37 (by decide) ?_
          exact ih (x2 + (1 : Int32)) (upd kp (x2).toNatClampNeg (0 : Int32)) H locs ls (hwI _ (Option.some.inj hq).symm) hP hD hS (lv_sub hl [1, 2, 0] rfl)
        · have hq := fw_if c_5 hq
          refine lv_aload_n hx hb dX3_keepJust_23 rfl (lv_at hl 0 rfl) ?_
          refine va_get (D := (dC, dI)) (ci := 3) (v := .ref (q 3)) (C := RX3) (T := TX3) (N := 12) hx hb hts hinX3 hown hK hP 0 rfl rfl 4 (by decide) hf23 (fun _ h9 => h9) rfl dX3_keepJust_24 ?_
          refine lv_iload_n hx hb dX3_keepJust_27 rfl (lv_at hl 2 rfl) ?_
          obtain ⟨h_7, hq⟩ := fw_ck_s hq
          refine va_iald hx hb hK hP 3 0 rfl rfl h_7 dX3_keepJust_28 ?_
          refine lv_goto (tgt := 33) hx hb dX3_keepJust_29 (by decide) ?_
          obtain ⟨h_8, hq⟩ := fw_ck_s hq
          refine va_iast hx hb hK hP hD hS 4 0 rfl rfl h_8 dX3_keepJust_33 (fun H locs hP hD hS => ?_)
          have hP : va_P (dC, dI) vwCl (wX cI cJ q  nc0 lc0 le0 ge0 wt0 (upd kp (x2).toNatClampNeg (wt0 (x2).toNatClampNeg)) fo0 po0 na0 ns0 ta0 ts0 mx0 ch0 mo0 ms0 fs0) H := hP
          have hD : va_D A (wX cI cJ q  nc0 lc0 le0 ge0 wt0 (upd kp (x2).toNatClampNeg (wt0 (x2).toNatClampNeg)) fo0 po0 na0 ns0 ta0 ts0 mx0 ch0 mo0 ms0 fs0) := hD
          refine lv_iinc (v := (x2 + (1 : Int32))) (lv' := [(2, .int (x2 + (1 : Int32))), (0, .ref (q 0)), (1, .int x1)]) hx hb dX3_keepJust_34 hl (k := 2) rfl rfl (by decide) rfl (fun ls hl => ?_)
          refine lv_goto (tgt := 2) hx hb dX3_keepJust_37 (by decide) ?_
          exact ih (x2 + (1 : Int32)) (upd kp (x2).toNatClampNeg (wt0 (x2).toNatClampNeg)) H locs ls (hwI _ (Option.some.inj hq).symm) hP hD hS (lv_sub hl [1, 2, 0] rfl)
  have hq := hz
  dsimp only [pX3_keepJust] at hq
  have hl := lv_entry (([.ref (q 0), .int y1] : List Value)) (n := 3) (Nat.le_of_ble_eq_true rfl)
  rw [lg_entry_eq]
  generalize (lg_sl (([.ref (q 0), .int y1] : List Value)) ++ List.replicate (3 - (lg_sl (([.ref (q 0), .int y1] : List Value))).length) Slot.unset).toArray = ls at hl ⊢
  have hl : lv_has ls 3 [(0, .ref (q 0)), (1, .int y1)] := hl
  obtain ⟨H, hHe⟩ : ∃ H : Heap, H = s.heap := ⟨_, rfl⟩
  obtain ⟨locs, hLe⟩ : ∃ L : List Loc, L = [] := ⟨_, rfl⟩
  have hP : va_P (dC, dI) vwCl (wX cI cJ q  nc0 lc0 le0 ge0 wt0 kp0 fo0 po0 na0 ns0 ta0 ts0 mx0 ch0 mo0 ms0 fs0) H := by rw [hHe]; exact hP
  have hS : va_S A s.heap H locs := by rw [hHe, hLe]; exact va_S.rf
  show W p l e (headSpec wsX3_keepJust ({ frames := 1, cells := 0, slots := 0, locals := 21 })).room s m ([.ref (q 0), .int y1] : List Value).toArray below meth c s.heap [] 0 0 (MQ below (va_Qi (fun (r : Int32) (u : (Nat → Int32)) => pX3_keepJust lc0 wt0 kp0 y1 = some (r, u)) (fun u t => fw_B (dC, dI) A (wX cI cJ q  nc0 lc0 le0 ge0 wt0 u fo0 po0 na0 ns0 ta0 ts0 mx0 ch0 mo0 ms0 fs0) t) A) ([.ref (q 0), .int y1] : List Value).toArray s 0 0 A) (F0 m 0 ls [])
  rw [← hHe, ← hLe]
  refine lv_iconst (v := (0 : Int32)) hx hb dX3_keepJust_0 (by decide) ?_
  refine lv_istore_n (lv' := [(2, .int (0 : Int32)), (0, .ref (q 0)), (1, .int y1)]) hx hb dX3_keepJust_1 rfl hl (by decide) rfl (fun ls hl => ?_)
  obtain ⟨e_11, hw, hq⟩ := fw_bb hq
  refine L2 y1 e_11 (fun x2_9 kp_10 H locs ls he hP hD hS hl => ?_) fw_N (0 : Int32) kp0 H locs ls hw hP hD hS (lv_sub hl [1, 2, 0] rfl)
  subst he
  try dsimp only at hq
  refine lv_iload_n hx hb dX3_keepJust_40 rfl (lv_at hl 1 rfl) ?_
  have hPc := hP.sub (ws' := (w0 cI cJ   )) [] rfl
  have hDc := hD.sub (ws' := (w0 cI cJ   )) [] (by decide) rfl
  refine fw_ci (wr := [((q 0), .inr (3, [.int nc0, .int lc0, .ref (q 1), .ref (q 2), .ref (q 3), .ref (q 4), .ref (q 5), .ref (q 6), .ref (q 8), .ref (q 10), .ref (q 12), .ref (q 16)])), ((q 1), .inl (cI, 12, .inl le0)), ((q 2), .inl (cI, 12, .inl ge0)), ((q 3), .inl (cI, 12, .inl wt0)), ((q 4), .inl (cI, 12, .inl kp_10)), ((q 5), .inl (cI, 12, .inl fo0)), ((q 6), .inr (2, [.ref (q 7)])), ((q 7), .inl (cI, 7, .inl po0)), ((q 8), .inr (0, [.ref (q 9), .int ns0])), ((q 9), .inl (cI, 49, .inl na0)), ((q 10), .inr (0, [.ref (q 11), .int ts0])), ((q 11), .inl (cI, 49, .inl ta0)), ((q 12), .inr (1, [.ref (q 13), .ref (q 14), .ref (q 15), .int ms0])), ((q 13), .inl (cJ, 49, .inr (.inl mx0))), ((q 14), .inl (cI, 7, .inl ch0)), ((q 15), .inl (cJ, 128, .inr (.inl mo0))), ((q 16), .inl (cI, 10, .inl fs0))]) (w2 := fun u => (wX cI cJ q  nc0 lc0 le0 ge0 wt0 kp_10 fo0 po0 na0 ns0 ta0 ts0 mx0 ch0 mo0 ms0 fs0)) [] [0, 1, 2, 3, 4, 5, 6, 7, 8, 9, 10, 11, 12, 13, 14, 15, 16] [0, 1, 2, 3, 4, 5, 6, 7, 8, 9, 10, 11, 12, 13, 14, 15, 16] (va_runS (As := [.int y1]) (rest := []) ⟨hx, hb, hml, hown, hts⟩ (kJ6_bitCount_0f7a4 l dC dI cI cJ  H.size   y1 (fw_be hq)) (va_cwS 1 hts gX3_keepJust_J6_bitCount_0f7a4 rfl rfl rfl (by decide +kernel) ⟨Nat.le_of_ble_eq_true rfl, Nat.le_of_ble_eq_true rfl⟩) ⟨fw_blind, fun U hU hW => fw_pre hPc hK hDc hN hU hW⟩ rfl rfl hl.1 rfl (lv_room (Nat.le_of_ble_eq_true rfl)) dX3_keepJust_41 ⟨Nat.zero_le _, Nat.zero_le _⟩) hP hD hS hA rfl rfl (by decide) (by decide) (by decide) (fun _ => rfl) (fun r_12 u H locs hw hP hD hS => ?_)
  have hq := fw_bs hw hq
  try dsimp only at hq
  exact W.iret (v := r_12) hx hb hr (fun t ht hW => ⟨⟨r_12, kp_10, rfl, hz.trans hq.symm, by rw [ht]; exact hP, hD⟩, hS.F ht⟩) hS.2.2 dX3_keepJust_44
set_option maxHeartbeats 4000000 in
set_option maxRecDepth 100000 in
theorem kX3_peelOne (l : Launch) (dC : Nat → ClassId) (dI : Nat → Nat → Nat) (cI cJ : ClassId) (q : Nat → Nat) (sz : Nat)  (nc0 : Int32) (lc0 : Int32) (le0 : Nat → Int32) (ge0 : Nat → Int32) (wt0 : Nat → Int32) (kp0 : Nat → Int32) (fo0 : Nat → Int32) (po0 : Nat → Int32) (na0 : Nat → Int32) (ns0 : Int32) (ta0 : Nat → Int32) (ts0 : Int32) (mx0 : Nat → Int64) (ch0 : Nat → Int32) (mo0 : Nat → Int64) (ms0 : Int32) (fs0 : Nat → Int32) (y1 : Int32) (hd : ∃ z, pX3_peelOne lc0 le0 ge0 fo0 po0 y1 = some z) : Met l yX3_peelOne wsX3_peelOne ({ frames := 1, cells := 0, slots := 0, locals := 25 }) (fw_Pc (dC, dI) (fw_tys cI cJ) (wX cI cJ q  nc0 lc0 le0 ge0 wt0 kp0 fo0 po0 na0 ns0 ta0 ts0 mx0 ch0 mo0 ms0 fs0) ([.ref (q 0), .int y1] : List Value) sz) (va_Qi (fun (r : Int32) (u : (Nat → Int32) × (Nat → Int32)) => pX3_peelOne lc0 le0 ge0 fo0 po0 y1 = some (r, u)) (fun u t => fw_B (dC, dI) (va_A (wX cI cJ q  nc0 lc0 le0 ge0 wt0 kp0 fo0 po0 na0 ns0 ta0 ts0 mx0 ch0 mo0 ms0 fs0) sz) (wX cI cJ q  nc0 lc0 le0 ge0 wt0 kp0 u.1 u.2 na0 ns0 ta0 ts0 mx0 ch0 mo0 ms0 fs0) t) (va_A (wX cI cJ q  nc0 lc0 le0 ge0 wt0 kp0 fo0 po0 na0 ns0 ta0 ts0 mx0 ch0 mo0 ms0 fs0) sz)) 0 0 (va_A (wX cI cJ q  nc0 lc0 le0 ge0 wt0 kp0 fo0 po0 na0 ns0 ta0 ts0 mx0 ch0 mo0 ms0 fs0) sz) := by
  obtain ⟨z, hz⟩ := hd
  refine Met.ofW (cc := cX3_peelOne) (maxL := 4) (ret := (some .int)) (by decide) rfl ?_
  intro p e s m args below meth c s₁ B hml hv
  obtain ⟨rfl, hsz, hP, hK, hD0, hN⟩ := hv
  have hx := B.exec
  have hb := B.bytes
  have hr := B.returns
  have hts := atoms_spec (ws := wsX3_peelOne) B.pre
  have hown : s.vm.findClass RX3 = some m.cls := findClass_of_methodNamed B.named
  have hlocks := B.notSynchronized
  subst hsz
  have hD := hD0.self (sz := s.heap.size)
  generalize hAe : va_A (wX cI cJ q  nc0 lc0 le0 ge0 wt0 kp0 fo0 po0 na0 ns0 ta0 ts0 mx0 ch0 mo0 ms0 fs0) s.heap.size = A at hD ⊢
  have hA : ∀ q : Nat, s.heap.size ≤ q → A q := fun q h => by rw [← hAe]; exact Or.inr h
  have hinX3 : ∀ w ∈ u_ws RX3 TX3 12, w ∈ wsX3_peelOne := by decide +kernel
  have hf13 := hts (.fieldLink RX3 13 "FewLines" "lineCount" "I") (by decide +kernel)
  have hf16 := hts (.fieldLink RX3 16 "FewLines" "lesserEnd" "[I") (by decide +kernel)
  have hf20 := hts (.fieldLink RX3 20 "FewLines" "greaterEnd" "[I") (by decide +kernel)
  have hf29 := hts (.fieldLink RX3 29 "FewLines" "forestOf" "[I") (by decide +kernel)
  have hf35 := hts (.fieldLink RX3 35 "FewLines" "parts" "LFewLines$Parts;") (by decide +kernel)
  have L11 : ∀ (x1 : Int32) (e9 : Int32 × Int32 × (Nat → Int32) × (Nat → Int32)), (∀ (x2' : Int32) (x3' : Int32) (fo' : Nat → Int32) (po' : Nat → Int32) (H : Heap) (locs : List Loc) (ls : Array Slot), e9 = (x2', x3', fo', po') → va_P (dC, dI) vwCl (wX cI cJ q  nc0 lc0 le0 ge0 wt0 kp0 fo' po' na0 ns0 ta0 ts0 mx0 ch0 mo0 ms0 fs0) H → va_D A (wX cI cJ q  nc0 lc0 le0 ge0 wt0 kp0 fo' po' na0 ns0 ta0 ts0 mx0 ch0 mo0 ms0 fs0) → va_S A s.heap H locs → lv_has ls 4 [(0, .ref (q 0)), (1, .int x1), (2, .int x2'), (3, .int x3')] → W p l e (headSpec wsX3_peelOne ({ frames := 1, cells := 0, slots := 0, locals := 25 })).room s m ([.ref (q 0), .int y1] : List Value).toArray below meth c H locs 0 0 (MQ below (va_Qi (fun (r : Int32) (u : (Nat → Int32) × (Nat → Int32)) => pX3_peelOne lc0 le0 ge0 fo0 po0 y1 = some (r, u)) (fun u t => fw_B (dC, dI) A (wX cI cJ q  nc0 lc0 le0 ge0 wt0 kp0 u.1 u.2 na0 ns0 ta0 ts0 mx0 ch0 mo0 ms0 fs0) t) A) ([.ref (q 0), .int y1] : List Value).toArray s 0 0 A) (F0 m 66 ls [])) → ∀ (n9 : Nat) (x2 : Int32) (x3 : Int32) (fo : Nat → Int32) (po : Nat → Int32) (H : Heap) (locs : List Loc) (ls : Array Slot), fw_wh (pX3_peelOne_11 x1 lc0 le0 ge0) n9 (x2, x3, fo, po) = some e9 → va_P (dC, dI) vwCl (wX cI cJ q  nc0 lc0 le0 ge0 wt0 kp0 fo po na0 ns0 ta0 ts0 mx0 ch0 mo0 ms0 fs0) H → va_D A (wX cI cJ q  nc0 lc0 le0 ge0 wt0 kp0 fo po na0 ns0 ta0 ts0 mx0 ch0 mo0 ms0 fs0) → va_S A s.heap H locs → lv_has ls 4 [(0, .ref (q 0)), (1, .int x1), (2, .int x2), (3, .int x3)] → W p l e (headSpec wsX3_peelOne ({ frames := 1, cells := 0, slots := 0, locals := 25 })).room s m ([.ref (q 0), .int y1] : List Value).toArray below meth c H locs 0 0 (MQ below (va_Qi (fun (r : Int32) (u : (Nat → Int32) × (Nat → Int32)) => pX3_peelOne lc0 le0 ge0 fo0 po0 y1 = some (r, u)) (fun u t => fw_B (dC, dI) A (wX cI cJ q  nc0 lc0 le0 ge0 wt0 kp0 u.1 u.2 na0 ns0 ta0 ts0 mx0 ch0 mo0 ms0 fs0) t) A) ([.ref (q 0), .int y1] : List Value).toArray s 0 0 A) (F0 m 11 ls []) := by
    intro x1 e9 hkk n9
    induction n9 with
    | zero => exact fun _ _ _ _ H locs ls hq => (fw_wh0 hq).elim
    | succ n9 ih =>
      intro x2 x3 fo po H locs ls hq hP hD hS hl
      obtain ⟨w9, hq, hwI, hwE⟩ := fw_wh1 hq
      dsimp only [pX3_peelOne_11] at hq
      refine lv_iload_n hx hb dX3_peelOne_11 rfl (lv_at hl 3 rfl) ?_
      refine lv_aload_n hx hb dX3_peelOne_12 rfl (lv_at hl 0 rfl) ?_
      refine va_get (D := (dC, dI)) (ci := 3) (v := .int lc0) (C := RX3) (T := TX3) (N := 12) hx hb hts hinX3 hown hK hP 0 rfl rfl 1 (by decide) hf13 (fun _ h9 => h9) rfl dX3_peelOne_13 ?_
      refine lv_icmp_ge (tgt := 66) hx hb dX3_peelOne_16 (by decide) (fun c_4 => ?_) (fun c_4 => ?_)
      · have hq := fw_it c_4 hq
        exact hkk x2 x3 fo po H locs ls (hwE _ (Option.some.inj hq).symm) hP hD hS (lv_sub hl [0, 1, 2, 3] rfl)
      · have hq := fw_if c_4 hq
        refine lv_aload_n hx hb dX3_peelOne_19 rfl (lv_at hl 0 rfl) ?_
        refine va_get (D := (dC, dI)) (ci := 3) (v := .ref (q 5)) (C := RX3) (T := TX3) (N := 12) hx hb hts hinX3 hown hK hP 0 rfl rfl 6 (by decide) hf29 (fun _ h9 => h9) rfl dX3_peelOne_20 ?_
        refine lv_iload_n hx hb dX3_peelOne_23 rfl (lv_at hl 3 rfl) ?_
        obtain ⟨h_5, hq⟩ := fw_ck_s hq
        refine va_iald hx hb hK hP 5 0 rfl rfl h_5 dX3_peelOne_24 ?_
        refine lv_if_ne (tgt := 60) hx hb dX3_peelOne_25 (by decide) (fun c_6 => ?_) (fun c_6 => ?_)
        · have hq := fw_if c_6 hq
          refine lv_iinc (v := (x3 + (1 : Int32))) (lv' := [(3, .int (x3 + (1 : Int32))), (0, .ref (q 0)), (1, .int x1), (2, .int x2)]) hx hb dX3_peelOne_60 hl (k := 3) rfl rfl (by decide) rfl (fun ls hl => ?_)
          refine lv_goto (tgt := 11) hx hb dX3_peelOne_63 (by decide) ?_
          exact ih x2 (x3 + (1 : Int32)) fo po H locs ls (hwI _ (Option.some.inj hq).symm) hP hD hS (lv_sub hl [1, 2, 3, 0] rfl)
        · have hq := fw_it c_6 hq
          refine lv_aload_n hx hb dX3_peelOne_28 rfl (lv_at hl 0 rfl) ?_
          refine va_get (D := (dC, dI)) (ci := 3) (v := .ref (q 6)) (C := RX3) (T := TX3) (N := 12) hx hb hts hinX3 hown hK hP 0 rfl rfl 7 (by decide) hf35 (fun _ h9 => h9) rfl dX3_peelOne_29 ?_
          refine lv_aload_n hx hb dX3_peelOne_32 rfl (lv_at hl 0 rfl) ?_
          refine va_get (D := (dC, dI)) (ci := 3) (v := .ref (q 1)) (C := RX3) (T := TX3) (N := 12) hx hb hts hinX3 hown hK hP 0 rfl rfl 2 (by decide) hf16 (fun _ h9 => h9) rfl dX3_peelOne_33 ?_
          refine lv_iload_n hx hb dX3_peelOne_36 rfl (lv_at hl 3 rfl) ?_
          obtain ⟨h_7, hq⟩ := fw_ck_s hq
          refine va_iald hx hb hK hP 1 0 rfl rfl h_7 dX3_peelOne_37 ?_
          refine lv_aload_n hx hb dX3_peelOne_38 rfl (lv_at hl 0 rfl) ?_
          refine va_get (D := (dC, dI)) (ci := 3) (v := .ref (q 2)) (C := RX3) (T := TX3) (N := 12) hx hb hts hinX3 hown hK hP 0 rfl rfl 3 (by decide) hf20 (fun _ h9 => h9) rfl dX3_peelOne_39 ?_
          refine lv_iload_n hx hb dX3_peelOne_42 rfl (lv_at hl 3 rfl) ?_
          obtain ⟨h_8, hq⟩ := fw_ck_s hq
          refine va_iald hx hb hK hP 2 0 rfl rfl h_8 dX3_peelOne_43 ?_
          have hPc := hP.sub (ws' := (wP cI cJ (q 6) (q 7)  po)) [6, 7] rfl
          have hDc := hD.sub (ws' := (wP cI cJ (q 6) (q 7)  po)) [6, 7] (by decide) rfl
          refine fw_ci (wr := [((q 0), .inr (3, [.int nc0, .int lc0, .ref (q 1), .ref (q 2), .ref (q 3), .ref (q 4), .ref (q 5), .ref (q 6), .ref (q 8), .ref (q 10), .ref (q 12), .ref (q 16)])), ((q 1), .inl (cI, 12, .inl le0)), ((q 2), .inl (cI, 12, .inl ge0)), ((q 3), .inl (cI, 12, .inl wt0)), ((q 4), .inl (cI, 12, .inl kp0)), ((q 5), .inl (cI, 12, .inl fo)), ((q 8), .inr (0, [.ref (q 9), .int ns0])), ((q 9), .inl (cI, 49, .inl na0)), ((q 10), .inr (0, [.ref (q 11), .int ts0])), ((q 11), .inl (cI, 49, .inl ta0)), ((q 12), .inr (1, [.ref (q 13), .ref (q 14), .ref (q 15), .int ms0])), ((q 13), .inl (cJ, 49, .inr (.inl mx0))), ((q 14), .inl (cI, 7, .inl ch0)), ((q 15), .inl (cJ, 128, .inr (.inl mo0))), ((q 16), .inl (cI, 10, .inl fs0))]) (w2 := fun u => (wX cI cJ q  nc0 lc0 le0 ge0 wt0 kp0 fo u na0 ns0 ta0 ts0 mx0 ch0 mo0 ms0 fs0)) [6, 7] [0, 1, 2, 3, 4, 5, 8, 9, 10, 11, 12, 13, 14, 15, 16] [0, 1, 2, 3, 4, 5, 15, 16, 6, 7, 8, 9, 10, 11, 12, 13, 14] (va_runV (b := (q 6)) (As := [.int (le0 (x3).toNatClampNeg), .int (ge0 (x3).toNatClampNeg)]) (rest := []) ⟨hx, hb, hml, hown, hts⟩ (kX2_join l dC dI cI cJ (q 6) (q 7) H.size  po (le0 (x3).toNatClampNeg) (ge0 (x3).toNatClampNeg) (fw_be hq)) (cwV 2 hts gX3_peelOne_X2_join rfl rfl rfl (by decide +kernel) ⟨Nat.le_of_ble_eq_true rfl, Nat.le_of_ble_eq_true rfl⟩) ⟨fw_blind, va_recv hK hPc (ci := 2) (q0 := 0) rfl rfl, fun U hU hW => fw_pre hPc hK hDc hN hU hW⟩ rfl rfl hl.1 rfl (lv_room (Nat.le_of_ble_eq_true rfl)) dX3_peelOne_44 ⟨Nat.zero_le _, Nat.zero_le _⟩) hP hD hS hA rfl rfl (by decide) (by decide) (by decide) (fun _ => rfl) (fun r_10 u H locs hw hP hD hS => ?_)
          obtain ⟨po_9, rfl⟩ : ∃ z, z = u := ⟨_, rfl⟩
          obtain ⟨hw, n_12⟩ := hw
          have hq := fw_bs hw hq
          try dsimp only at hq
          have hP : va_P (dC, dI) vwCl (wX cI cJ q  nc0 lc0 le0 ge0 wt0 kp0 fo po_9 na0 ns0 ta0 ts0 mx0 ch0 mo0 ms0 fs0) H := hP
          have hD : va_D A (wX cI cJ q  nc0 lc0 le0 ge0 wt0 kp0 fo po_9 na0 ns0 ta0 ts0 mx0 ch0 mo0 ms0 fs0) := hD
          refine lv_if_eq (tgt := 60) hx hb dX3_peelOne_47 (by decide) (fun c_13 => ?_) (fun c_13 => ?_)
          · have hq := fw_it c_13 hq
            refine lv_iinc (v := (x3 + (1 : Int32))) (lv' := [(3, .int (x3 + (1 : Int32))), (0, .ref (q 0)), (1, .int x1), (2, .int x2)]) hx hb dX3_peelOne_60 hl (k := 3) rfl rfl (by decide) rfl (fun ls hl => ?_)
            refine lv_goto (tgt := 11) hx hb dX3_peelOne_63 (by decide) ?_
            exact ih x2 (x3 + (1 : Int32)) fo po_9 H locs ls (hwI _ (Option.some.inj hq).symm) hP hD hS (lv_sub hl [1, 2, 3, 0] rfl)
          · have hq := fw_if c_13 hq
            refine lv_aload_n hx hb dX3_peelOne_50 rfl (lv_at hl 0 rfl) ?_
            refine va_get (D := (dC, dI)) (ci := 3) (v := .ref (q 5)) (C := RX3) (T := TX3) (N := 12) hx hb hts hinX3 hown hK hP 0 rfl rfl 6 (by decide) hf29 (fun _ h9 => h9) rfl dX3_peelOne_51 ?_
            refine lv_iload_n hx hb dX3_peelOne_54 rfl (lv_at hl 3 rfl) ?_
            refine lv_iload_n hx hb dX3_peelOne_55 rfl (lv_at hl 1 rfl) ?_
            obtain ⟨h_14, hq⟩ := fw_ck_s hq
            refine va_iast hx hb hK hP hD hS 5 0 rfl rfl h_14 dX3_peelOne_56 (fun H locs hP hD hS => ?_)
            have hP : va_P (dC, dI) vwCl (wX cI cJ q  nc0 lc0 le0 ge0 wt0 kp0 (upd fo (x3).toNatClampNeg x1) po_9 na0 ns0 ta0 ts0 mx0 ch0 mo0 ms0 fs0) H := hP
            have hD : va_D A (wX cI cJ q  nc0 lc0 le0 ge0 wt0 kp0 (upd fo (x3).toNatClampNeg x1) po_9 na0 ns0 ta0 ts0 mx0 ch0 mo0 ms0 fs0) := hD
            refine lv_iinc (v := (x2 + (1 : Int32))) (lv' := [(2, .int (x2 + (1 : Int32))), (0, .ref (q 0)), (1, .int x1), (3, .int x3)]) hx hb dX3_peelOne_57 hl (k := 2) rfl rfl (by decide) rfl (fun ls hl => ?_)
            refine lv_iinc (v := (x3 + (1 : Int32))) (lv' := [(3, .int (x3 + (1 : Int32))), (2, .int (x2 + (1 : Int32))), (0, .ref (q 0)), (1, .int x1)]) hx hb dX3_peelOne_60 hl (k := 3) rfl rfl (by decide) rfl (fun ls hl => ?_)
            refine lv_goto (tgt := 11) hx hb dX3_peelOne_63 (by decide) ?_
            exact ih (x2 + (1 : Int32)) (x3 + (1 : Int32)) (upd fo (x3).toNatClampNeg x1) po_9 H locs ls (hwI _ (Option.some.inj hq).symm) hP hD hS (lv_sub hl [2, 3, 1, 0] rfl)
  have hq := hz
  dsimp only [pX3_peelOne] at hq
  have hl := lv_entry (([.ref (q 0), .int y1] : List Value)) (n := 4) (Nat.le_of_ble_eq_true rfl)
  rw [lg_entry_eq]
  generalize (lg_sl (([.ref (q 0), .int y1] : List Value)) ++ List.replicate (4 - (lg_sl (([.ref (q 0), .int y1] : List Value))).length) Slot.unset).toArray = ls at hl ⊢
  have hl : lv_has ls 4 [(0, .ref (q 0)), (1, .int y1)] := hl
  obtain ⟨H, hHe⟩ : ∃ H : Heap, H = s.heap := ⟨_, rfl⟩
  obtain ⟨locs, hLe⟩ : ∃ L : List Loc, L = [] := ⟨_, rfl⟩
  have hP : va_P (dC, dI) vwCl (wX cI cJ q  nc0 lc0 le0 ge0 wt0 kp0 fo0 po0 na0 ns0 ta0 ts0 mx0 ch0 mo0 ms0 fs0) H := by rw [hHe]; exact hP
  have hS : va_S A s.heap H locs := by rw [hHe, hLe]; exact va_S.rf
  show W p l e (headSpec wsX3_peelOne ({ frames := 1, cells := 0, slots := 0, locals := 25 })).room s m ([.ref (q 0), .int y1] : List Value).toArray below meth c s.heap [] 0 0 (MQ below (va_Qi (fun (r : Int32) (u : (Nat → Int32) × (Nat → Int32)) => pX3_peelOne lc0 le0 ge0 fo0 po0 y1 = some (r, u)) (fun u t => fw_B (dC, dI) A (wX cI cJ q  nc0 lc0 le0 ge0 wt0 kp0 u.1 u.2 na0 ns0 ta0 ts0 mx0 ch0 mo0 ms0 fs0) t) A) ([.ref (q 0), .int y1] : List Value).toArray s 0 0 A) (F0 m 0 ls [])
  rw [← hHe, ← hLe]
  refine lv_iconst (v := (0 : Int32)) hx hb dX3_peelOne_0 (by decide) ?_
  refine lv_istore_n (lv' := [(2, .int (0 : Int32)), (0, .ref (q 0)), (1, .int y1)]) hx hb dX3_peelOne_1 rfl hl (by decide) rfl (fun ls hl => ?_)
  refine lv_aload_n hx hb dX3_peelOne_2 rfl (lv_at hl 1 rfl) ?_
  refine va_get (D := (dC, dI)) (ci := 3) (v := .ref (q 6)) (C := RX3) (T := TX3) (N := 12) hx hb hts hinX3 hown hK hP 0 rfl rfl 7 (by decide) hf35 (fun _ h9 => h9) rfl dX3_peelOne_3 ?_
  have hPc := hP.sub (ws' := (wP cI cJ (q 6) (q 7)  po0)) [6, 7] rfl
  have hDc := hD.sub (ws' := (wP cI cJ (q 6) (q 7)  po0)) [6, 7] (by decide) rfl
  refine fw_cv (wr := [((q 0), .inr (3, [.int nc0, .int lc0, .ref (q 1), .ref (q 2), .ref (q 3), .ref (q 4), .ref (q 5), .ref (q 6), .ref (q 8), .ref (q 10), .ref (q 12), .ref (q 16)])), ((q 1), .inl (cI, 12, .inl le0)), ((q 2), .inl (cI, 12, .inl ge0)), ((q 3), .inl (cI, 12, .inl wt0)), ((q 4), .inl (cI, 12, .inl kp0)), ((q 5), .inl (cI, 12, .inl fo0)), ((q 8), .inr (0, [.ref (q 9), .int ns0])), ((q 9), .inl (cI, 49, .inl na0)), ((q 10), .inr (0, [.ref (q 11), .int ts0])), ((q 11), .inl (cI, 49, .inl ta0)), ((q 12), .inr (1, [.ref (q 13), .ref (q 14), .ref (q 15), .int ms0])), ((q 13), .inl (cJ, 49, .inr (.inl mx0))), ((q 14), .inl (cI, 7, .inl ch0)), ((q 15), .inl (cJ, 128, .inr (.inl mo0))), ((q 16), .inl (cI, 10, .inl fs0))]) (w2 := fun u => (wX cI cJ q  nc0 lc0 le0 ge0 wt0 kp0 fo0 u na0 ns0 ta0 ts0 mx0 ch0 mo0 ms0 fs0)) [6, 7] [0, 1, 2, 3, 4, 5, 8, 9, 10, 11, 12, 13, 14, 15, 16] [0, 1, 2, 3, 4, 5, 15, 16, 6, 7, 8, 9, 10, 11, 12, 13, 14] (va_runV (b := (q 6)) (As := []) (rest := []) ⟨hx, hb, hml, hown, hts⟩ (kX2_clear l dC dI cI cJ (q 6) (q 7) H.size  po0  (fw_be hq)) (cwV 0 hts gX3_peelOne_X2_clear rfl rfl rfl (by decide +kernel) ⟨Nat.le_of_ble_eq_true rfl, Nat.le_of_ble_eq_true rfl⟩) ⟨fw_blind, va_recv hK hPc (ci := 2) (q0 := 0) rfl rfl, fun U hU hW => fw_pre hPc hK hDc hN hU hW⟩ rfl rfl hl.1 rfl (lv_room (Nat.le_of_ble_eq_true rfl)) dX3_peelOne_6 ⟨Nat.zero_le _, Nat.zero_le _⟩) hP hD hS hA rfl rfl (by decide) (by decide) (by decide) (fun _ => rfl) (fun u H locs hw hP hD hS => ?_)
  obtain ⟨po_1, rfl⟩ : ∃ z, z = u := ⟨_, rfl⟩
  have hq := fw_bs hw hq
  try dsimp only at hq
  have hP : va_P (dC, dI) vwCl (wX cI cJ q  nc0 lc0 le0 ge0 wt0 kp0 fo0 po_1 na0 ns0 ta0 ts0 mx0 ch0 mo0 ms0 fs0) H := hP
  have hD : va_D A (wX cI cJ q  nc0 lc0 le0 ge0 wt0 kp0 fo0 po_1 na0 ns0 ta0 ts0 mx0 ch0 mo0 ms0 fs0) := hD
  refine lv_iconst (v := (0 : Int32)) hx hb dX3_peelOne_9 (by decide) ?_
  refine lv_istore_n (lv' := [(3, .int (0 : Int32)), (2, .int (0 : Int32)), (0, .ref (q 0)), (1, .int y1)]) hx hb dX3_peelOne_10 rfl hl (by decide) rfl (fun ls hl => ?_)
  obtain ⟨e_19, hw, hq⟩ := fw_bb hq
  refine L11 y1 e_19 (fun x2_15 x3_16 fo_17 po_18 H locs ls he hP hD hS hl => ?_) fw_N (0 : Int32) (0 : Int32) fo0 po_1 H locs ls hw hP hD hS (lv_sub hl [2, 3, 1, 0] rfl)
  subst he
  try dsimp only at hq
  refine lv_iload_n hx hb dX3_peelOne_66 rfl (lv_at hl 2 rfl) ?_
  exact W.iret (v := x2_15) hx hb hr (fun t ht hW => ⟨⟨x2_15, (fo_17, po_18), rfl, hz.trans hq.symm, by rw [ht]; exact hP, hD⟩, hS.F ht⟩) hS.2.2 dX3_peelOne_67
set_option maxHeartbeats 4000000 in
set_option maxRecDepth 100000 in
theorem kX3_peelForests (l : Launch) (dC : Nat → ClassId) (dI : Nat → Nat → Nat) (cI cJ : ClassId) (q : Nat → Nat) (sz : Nat)  (nc0 : Int32) (lc0 : Int32) (le0 : Nat → Int32) (ge0 : Nat → Int32) (wt0 : Nat → Int32) (kp0 : Nat → Int32) (fo0 : Nat → Int32) (po0 : Nat → Int32) (na0 : Nat → Int32) (ns0 : Int32) (ta0 : Nat → Int32) (ts0 : Int32) (mx0 : Nat → Int64) (ch0 : Nat → Int32) (mo0 : Nat → Int64) (ms0 : Int32) (fs0 : Nat → Int32)  (hd : ∃ z, pX3_peelForests lc0 le0 ge0 fo0 po0 = some z) : Met l yX3_peelForests wsX3_peelForests ({ frames := 2, cells := 0, slots := 0, locals := 48 }) (fw_Pc (dC, dI) (fw_tys cI cJ) (wX cI cJ q  nc0 lc0 le0 ge0 wt0 kp0 fo0 po0 na0 ns0 ta0 ts0 mx0 ch0 mo0 ms0 fs0) ([.ref (q 0)] : List Value) sz) (va_Qi (fun (r : Int32) (u : (Nat → Int32) × (Nat → Int32)) => pX3_peelForests lc0 le0 ge0 fo0 po0 = some (r, u)) (fun u t => fw_B (dC, dI) (va_A (wX cI cJ q  nc0 lc0 le0 ge0 wt0 kp0 fo0 po0 na0 ns0 ta0 ts0 mx0 ch0 mo0 ms0 fs0) sz) (wX cI cJ q  nc0 lc0 le0 ge0 wt0 kp0 u.1 u.2 na0 ns0 ta0 ts0 mx0 ch0 mo0 ms0 fs0) t) (va_A (wX cI cJ q  nc0 lc0 le0 ge0 wt0 kp0 fo0 po0 na0 ns0 ta0 ts0 mx0 ch0 mo0 ms0 fs0) sz)) 0 0 (va_A (wX cI cJ q  nc0 lc0 le0 ge0 wt0 kp0 fo0 po0 na0 ns0 ta0 ts0 mx0 ch0 mo0 ms0 fs0) sz) := by
  obtain ⟨z, hz⟩ := hd
  refine Met.ofW (cc := cX3_peelForests) (maxL := 3) (ret := (some .int)) (by decide) rfl ?_
  intro p e s m args below meth c s₁ B hml hv
  obtain ⟨rfl, hsz, hP, hK, hD0, hN⟩ := hv
  have hx := B.exec
  have hb := B.bytes
  have hr := B.returns
  have hts := atoms_spec (ws := wsX3_peelForests) B.pre
  have hown : s.vm.findClass RX3 = some m.cls := findClass_of_methodNamed B.named
  have hlocks := B.notSynchronized
  subst hsz
  have hD := hD0.self (sz := s.heap.size)
  generalize hAe : va_A (wX cI cJ q  nc0 lc0 le0 ge0 wt0 kp0 fo0 po0 na0 ns0 ta0 ts0 mx0 ch0 mo0 ms0 fs0) s.heap.size = A at hD ⊢
  have hA : ∀ q : Nat, s.heap.size ≤ q → A q := fun q h => by rw [← hAe]; exact Or.inr h
  have hinX3 : ∀ w ∈ u_ws RX3 TX3 12, w ∈ wsX3_peelForests := by decide +kernel
  have hf13 := hts (.fieldLink RX3 13 "FewLines" "lineCount" "I") (by decide +kernel)
  have hf29 := hts (.fieldLink RX3 29 "FewLines" "forestOf" "[I") (by decide +kernel)
  have L12 : ∀  (e9 : Int32 × Int32 × (Nat → Int32) × (Nat → Int32)), (∀ (x1' : Int32) (x2' : Int32) (fo' : Nat → Int32) (po' : Nat → Int32) (H : Heap) (locs : List Loc) (ls : Array Slot), e9 = (x1', x2', fo', po') → va_P (dC, dI) vwCl (wX cI cJ q  nc0 lc0 le0 ge0 wt0 kp0 fo' po' na0 ns0 ta0 ts0 mx0 ch0 mo0 ms0 fs0) H → va_D A (wX cI cJ q  nc0 lc0 le0 ge0 wt0 kp0 fo' po' na0 ns0 ta0 ts0 mx0 ch0 mo0 ms0 fs0) → va_S A s.heap H locs → lv_has ls 3 [(0, .ref (q 0)), (1, .int x1'), (2, .int x2')] → W p l e (headSpec wsX3_peelForests ({ frames := 2, cells := 0, slots := 0, locals := 48 })).room s m ([.ref (q 0)] : List Value).toArray below meth c H locs 0 0 (MQ below (va_Qi (fun (r : Int32) (u : (Nat → Int32) × (Nat → Int32)) => pX3_peelForests lc0 le0 ge0 fo0 po0 = some (r, u)) (fun u t => fw_B (dC, dI) A (wX cI cJ q  nc0 lc0 le0 ge0 wt0 kp0 u.1 u.2 na0 ns0 ta0 ts0 mx0 ch0 mo0 ms0 fs0) t) A) ([.ref (q 0)] : List Value).toArray s 0 0 A) (F0 m 40 ls [])) → ∀ (n9 : Nat) (x1 : Int32) (x2 : Int32) (fo : Nat → Int32) (po : Nat → Int32) (H : Heap) (locs : List Loc) (ls : Array Slot), fw_wh (pX3_peelForests_12 lc0 le0 ge0) n9 (x1, x2, fo, po) = some e9 → va_P (dC, dI) vwCl (wX cI cJ q  nc0 lc0 le0 ge0 wt0 kp0 fo po na0 ns0 ta0 ts0 mx0 ch0 mo0 ms0 fs0) H → va_D A (wX cI cJ q  nc0 lc0 le0 ge0 wt0 kp0 fo po na0 ns0 ta0 ts0 mx0 ch0 mo0 ms0 fs0) → va_S A s.heap H locs → lv_has ls 3 [(0, .ref (q 0)), (1, .int x1), (2, .int x2)] → W p l e (headSpec wsX3_peelForests ({ frames := 2, cells := 0, slots := 0, locals := 48 })).room s m ([.ref (q 0)] : List Value).toArray below meth c H locs 0 0 (MQ below (va_Qi (fun (r : Int32) (u : (Nat → Int32) × (Nat → Int32)) => pX3_peelForests lc0 le0 ge0 fo0 po0 = some (r, u)) (fun u t => fw_B (dC, dI) A (wX cI cJ q  nc0 lc0 le0 ge0 wt0 kp0 u.1 u.2 na0 ns0 ta0 ts0 mx0 ch0 mo0 ms0 fs0) t) A) ([.ref (q 0)] : List Value).toArray s 0 0 A) (F0 m 12 ls []) := by
    intro  e9 hkk n9
    induction n9 with
    | zero => exact fun _ _ _ _ H locs ls hq => (fw_wh0 hq).elim
    | succ n9 ih =>
      intro x1 x2 fo po H locs ls hq hP hD hS hl
      obtain ⟨w9, hq, hwI, hwE⟩ := fw_wh1 hq
      dsimp only [pX3_peelForests_12] at hq
      refine lv_iload_n hx hb dX3_peelForests_12 rfl (lv_at hl 1 rfl) ?_
      refine lv_aload_n hx hb dX3_peelForests_13 rfl (lv_at hl 0 rfl) ?_
      refine va_get (D := (dC, dI)) (ci := 3) (v := .int lc0) (C := RX3) (T := TX3) (N := 12) hx hb hts hinX3 hown hK hP 0 rfl rfl 1 (by decide) hf13 (fun _ h9 => h9) rfl dX3_peelForests_14 ?_
      refine lv_icmp_ge (tgt := 40) hx hb dX3_peelForests_17 (by decide) (fun c_4 => ?_) (fun c_4 => ?_)
      · have hq := fw_it c_4 hq
        exact hkk x1 x2 fo po H locs ls (hwE _ (Option.some.inj hq).symm) hP hD hS (lv_sub hl [0, 1, 2] rfl)
      · have hq := fw_if c_4 hq
        refine lv_iload_n hx hb dX3_peelForests_20 rfl (lv_at hl 2 rfl) ?_
        refine lv_bipush (v := (12 : Int32)) hx hb dX3_peelForests_21 (by decide) ?_
        refine lv_icmp_ge (tgt := 40) hx hb dX3_peelForests_23 (by decide) (fun c_5 => ?_) (fun c_5 => ?_)
        · have hq := fw_it c_5 hq
          exact hkk x1 x2 fo po H locs ls (hwE _ (Option.some.inj hq).symm) hP hD hS (lv_sub hl [0, 1, 2] rfl)
        · have hq := fw_if c_5 hq
          refine lv_iinc (v := (x2 + (1 : Int32))) (lv' := [(2, .int (x2 + (1 : Int32))), (0, .ref (q 0)), (1, .int x1)]) hx hb dX3_peelForests_26 hl (k := 2) rfl rfl (by decide) rfl (fun ls hl => ?_)
          refine lv_iload_n hx hb dX3_peelForests_29 rfl (lv_at hl 2 rfl) ?_
          refine lv_aload_n hx hb dX3_peelForests_30 rfl (lv_at hl 1 rfl) ?_
          refine lv_iload_n hx hb dX3_peelForests_31 rfl (lv_at hl 0 rfl) ?_
          have hPc := hP.sub (ws' := (wX cI cJ q  nc0 lc0 le0 ge0 wt0 kp0 fo po na0 ns0 ta0 ts0 mx0 ch0 mo0 ms0 fs0)) [0, 1, 2, 3, 4, 5, 6, 7, 8, 9, 10, 11, 12, 13, 14, 15, 16] rfl
          have hDc := hD.sub (ws' := (wX cI cJ q  nc0 lc0 le0 ge0 wt0 kp0 fo po na0 ns0 ta0 ts0 mx0 ch0 mo0 ms0 fs0)) [0, 1, 2, 3, 4, 5, 6, 7, 8, 9, 10, 11, 12, 13, 14, 15, 16] (by decide) rfl
          refine fw_ci (wr := []) (w2 := fun u => (wX cI cJ q  nc0 lc0 le0 ge0 wt0 kp0 u.1 u.2 na0 ns0 ta0 ts0 mx0 ch0 mo0 ms0 fs0)) [0, 1, 2, 3, 4, 5, 6, 7, 8, 9, 10, 11, 12, 13, 14, 15, 16] [] [0, 1, 2, 3, 4, 5, 6, 7, 8, 9, 10, 11, 12, 13, 14, 15, 16] (va_runV (b := (q 0)) (As := [.int (x2 + (1 : Int32))]) (rest := [.int x1]) ⟨hx, hb, hml, hown, hts⟩ (kX3_peelOne l dC dI cI cJ q H.size  nc0 lc0 le0 ge0 wt0 kp0 fo po na0 ns0 ta0 ts0 mx0 ch0 mo0 ms0 fs0 (x2 + (1 : Int32)) (fw_be hq)) (cwV 1 hts gX3_peelForests_X3_peelOne rfl rfl rfl (by decide +kernel) ⟨Nat.le_of_ble_eq_true rfl, Nat.le_of_ble_eq_true rfl⟩) ⟨fw_blind, va_recv hK hPc (ci := 3) (q0 := 0) rfl rfl, fun U hU hW => fw_pre hPc hK hDc hN hU hW⟩ rfl rfl hl.1 rfl (lv_room (Nat.le_of_ble_eq_true rfl)) dX3_peelForests_32 ⟨Nat.zero_le _, Nat.zero_le _⟩) hP hD hS hA rfl rfl (by decide) (by decide) (by decide) (fun _ => rfl) (fun r_8 u H locs hw hP hD hS => ?_)
          obtain ⟨fo_6, po_7⟩ := u
          have hq := fw_bs hw hq
          try dsimp only at hq
          have hP : va_P (dC, dI) vwCl (wX cI cJ q  nc0 lc0 le0 ge0 wt0 kp0 fo_6 po_7 na0 ns0 ta0 ts0 mx0 ch0 mo0 ms0 fs0) H := hP
          have hD : va_D A (wX cI cJ q  nc0 lc0 le0 ge0 wt0 kp0 fo_6 po_7 na0 ns0 ta0 ts0 mx0 ch0 mo0 ms0 fs0) := hD
          refine lv_iadd hx hb dX3_peelForests_35 ?_
          refine lv_istore_n (lv' := [(1, .int (x1 + r_8)), (2, .int (x2 + (1 : Int32))), (0, .ref (q 0))]) hx hb dX3_peelForests_36 rfl hl (by decide) rfl (fun ls hl => ?_)
          refine lv_goto (tgt := 12) hx hb dX3_peelForests_37 (by decide) ?_
          exact ih (x1 + r_8) (x2 + (1 : Int32)) fo_6 po_7 H locs ls (hwI _ (Option.some.inj hq).symm) hP hD hS (lv_sub hl [2, 0, 1] rfl)
  have hq := hz
  dsimp only [pX3_peelForests] at hq
  have hl := lv_entry (([.ref (q 0)] : List Value)) (n := 3) (Nat.le_of_ble_eq_true rfl)
  rw [lg_entry_eq]
  generalize (lg_sl (([.ref (q 0)] : List Value)) ++ List.replicate (3 - (lg_sl (([.ref (q 0)] : List Value))).length) Slot.unset).toArray = ls at hl ⊢
  have hl : lv_has ls 3 [(0, .ref (q 0))] := hl
  obtain ⟨H, hHe⟩ : ∃ H : Heap, H = s.heap := ⟨_, rfl⟩
  obtain ⟨locs, hLe⟩ : ∃ L : List Loc, L = [] := ⟨_, rfl⟩
  have hP : va_P (dC, dI) vwCl (wX cI cJ q  nc0 lc0 le0 ge0 wt0 kp0 fo0 po0 na0 ns0 ta0 ts0 mx0 ch0 mo0 ms0 fs0) H := by rw [hHe]; exact hP
  have hS : va_S A s.heap H locs := by rw [hHe, hLe]; exact va_S.rf
  show W p l e (headSpec wsX3_peelForests ({ frames := 2, cells := 0, slots := 0, locals := 48 })).room s m ([.ref (q 0)] : List Value).toArray below meth c s.heap [] 0 0 (MQ below (va_Qi (fun (r : Int32) (u : (Nat → Int32) × (Nat → Int32)) => pX3_peelForests lc0 le0 ge0 fo0 po0 = some (r, u)) (fun u t => fw_B (dC, dI) A (wX cI cJ q  nc0 lc0 le0 ge0 wt0 kp0 u.1 u.2 na0 ns0 ta0 ts0 mx0 ch0 mo0 ms0 fs0) t) A) ([.ref (q 0)] : List Value).toArray s 0 0 A) (F0 m 0 ls [])
  rw [← hHe, ← hLe]
  refine lv_aload_n hx hb dX3_peelForests_0 rfl (lv_at hl 0 rfl) ?_
  refine va_get (D := (dC, dI)) (ci := 3) (v := .ref (q 5)) (C := RX3) (T := TX3) (N := 12) hx hb hts hinX3 hown hK hP 0 rfl rfl 6 (by decide) hf29 (fun _ h9 => h9) rfl dX3_peelForests_1 ?_
  refine lv_iconst (v := (0 : Int32)) hx hb dX3_peelForests_4 (by decide) ?_
  have hPc := hP.sub (ws' := (wA cI cJ (q 5) 12 fo0)) [5] rfl
  have hDc := hD.sub (ws' := (wA cI cJ (q 5) 12 fo0)) [5] (by decide) rfl
  refine fw_cv (wr := [((q 0), .inr (3, [.int nc0, .int lc0, .ref (q 1), .ref (q 2), .ref (q 3), .ref (q 4), .ref (q 5), .ref (q 6), .ref (q 8), .ref (q 10), .ref (q 12), .ref (q 16)])), ((q 1), .inl (cI, 12, .inl le0)), ((q 2), .inl (cI, 12, .inl ge0)), ((q 3), .inl (cI, 12, .inl wt0)), ((q 4), .inl (cI, 12, .inl kp0)), ((q 6), .inr (2, [.ref (q 7)])), ((q 7), .inl (cI, 7, .inl po0)), ((q 8), .inr (0, [.ref (q 9), .int ns0])), ((q 9), .inl (cI, 49, .inl na0)), ((q 10), .inr (0, [.ref (q 11), .int ts0])), ((q 11), .inl (cI, 49, .inl ta0)), ((q 12), .inr (1, [.ref (q 13), .ref (q 14), .ref (q 15), .int ms0])), ((q 13), .inl (cJ, 49, .inr (.inl mx0))), ((q 14), .inl (cI, 7, .inl ch0)), ((q 15), .inl (cJ, 128, .inr (.inl mo0))), ((q 16), .inl (cI, 10, .inl fs0))]) (w2 := fun u => (wX cI cJ q  nc0 lc0 le0 ge0 wt0 kp0 u po0 na0 ns0 ta0 ts0 mx0 ch0 mo0 ms0 fs0)) [5] [0, 1, 2, 3, 4, 6, 7, 8, 9, 10, 11, 12, 13, 14, 15, 16] [0, 1, 2, 3, 4, 16, 5, 6, 7, 8, 9, 10, 11, 12, 13, 14, 15] (va_runS (As := [.ref (q 5), .int (0 : Int32)]) (rest := []) ⟨hx, hb, hml, hown, hts⟩ (kJ7_fill_53178 l dC dI cI cJ (q 5) H.size 12 fo0 (0 : Int32) (fw_be hq)) (va_cwS 2 hts gX3_peelForests_J7_fill_53178 rfl rfl rfl (by decide +kernel) ⟨Nat.le_of_ble_eq_true rfl, Nat.le_of_ble_eq_true rfl⟩) ⟨fw_blind, fun U hU hW => fw_pre hPc hK hDc hN hU hW⟩ rfl rfl hl.1 rfl (lv_room (Nat.le_of_ble_eq_true rfl)) dX3_peelForests_5 ⟨Nat.zero_le _, Nat.zero_le _⟩) hP hD hS hA rfl rfl (by decide) (by decide) (by decide) (fun _ => rfl) (fun u H locs hw hP hD hS => ?_)
  obtain ⟨f_1, rfl⟩ : ∃ z, z = u := ⟨_, rfl⟩
  have hq := fw_bs hw hq
  try dsimp only at hq
  have hP : va_P (dC, dI) vwCl (wX cI cJ q  nc0 lc0 le0 ge0 wt0 kp0 f_1 po0 na0 ns0 ta0 ts0 mx0 ch0 mo0 ms0 fs0) H := hP
  have hD : va_D A (wX cI cJ q  nc0 lc0 le0 ge0 wt0 kp0 f_1 po0 na0 ns0 ta0 ts0 mx0 ch0 mo0 ms0 fs0) := hD
  refine lv_iconst (v := (0 : Int32)) hx hb dX3_peelForests_8 (by decide) ?_
  refine lv_istore_n (lv' := [(1, .int (0 : Int32)), (0, .ref (q 0))]) hx hb dX3_peelForests_9 rfl hl (by decide) rfl (fun ls hl => ?_)
  refine lv_iconst (v := (0 : Int32)) hx hb dX3_peelForests_10 (by decide) ?_
  refine lv_istore_n (lv' := [(2, .int (0 : Int32)), (1, .int (0 : Int32)), (0, .ref (q 0))]) hx hb dX3_peelForests_11 rfl hl (by decide) rfl (fun ls hl => ?_)
  obtain ⟨e_14, hw, hq⟩ := fw_bb hq
  refine L12  e_14 (fun x1_10 x2_11 fo_12 po_13 H locs ls he hP hD hS hl => ?_) fw_N (0 : Int32) (0 : Int32) f_1 po0 H locs ls hw hP hD hS (lv_sub hl [2, 1, 0] rfl)
  subst he
  try dsimp only at hq
  refine lv_iload_n hx hb dX3_peelForests_40 rfl (lv_at hl 2 rfl) ?_
  exact W.iret (v := x2_11) hx hb hr (fun t ht hW => ⟨⟨x2_11, (fo_12, po_13), rfl, hz.trans hq.symm, by rw [ht]; exact hP, hD⟩, hS.F ht⟩) hS.2.2 dX3_peelForests_41
