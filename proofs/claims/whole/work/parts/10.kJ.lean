/-! ===== contracts, by own program ===== -/
set_option maxHeartbeats 4000000 in
set_option maxRecDepth 100000 in
theorem kJ6_bitCount_0f7a4 (l : Launch) (dC : Nat → ClassId) (dI : Nat → Nat → Nat) (cI cJ : ClassId)  (sz : Nat)   (y0 : Int32) (hd : ∃ z, pJ6_bitCount_0f7a4 y0 = some z) : Met l yJ6_bitCount_0f7a4 wsJ6_bitCount_0f7a4 ({ frames := 0, cells := 0, slots := 0, locals := 0 }) (fw_Pc (dC, dI) (fw_tys cI cJ) (w0 cI cJ   ) ([.int y0] : List Value) sz) (va_Qi (fun (r : Int32) (u : Unit) => pJ6_bitCount_0f7a4 y0 = some r) (fun u t => fw_B (dC, dI) (va_A (w0 cI cJ   ) sz) (w0 cI cJ   ) t) (va_A (w0 cI cJ   ) sz)) 0 0 (va_A (w0 cI cJ   ) sz) := by
  obtain ⟨z, hz⟩ := hd
  refine Met.ofW (cc := cJ6_bitCount_0f7a4) (maxL := 1) (ret := (some .int)) (by decide) rfl ?_
  intro p e s m args below meth c s₁ B hml hv
  obtain ⟨rfl, hsz, hP, hK, hD0, hN⟩ := hv
  have hx := B.exec
  have hb := B.bytes
  have hr := B.returns
  have hts := atoms_spec (ws := wsJ6_bitCount_0f7a4) B.pre
  have hown : s.vm.findClass RJ6 = some m.cls := findClass_of_methodNamed B.named
  have hlocks := B.notSynchronized
  subst hsz
  have hD := hD0.self (sz := s.heap.size)
  generalize hAe : va_A (w0 cI cJ   ) s.heap.size = A at hD ⊢
  have hA : ∀ q : Nat, s.heap.size ≤ q → A q := fun q h => by rw [← hAe]; exact Or.inr h
  have hq := hz
  dsimp only [pJ6_bitCount_0f7a4] at hq
  have hl := lv_entry (([.int y0] : List Value)) (n := 1) (Nat.le_of_ble_eq_true rfl)
  rw [lg_entry_eq]
  generalize (lg_sl (([.int y0] : List Value)) ++ List.replicate (1 - (lg_sl (([.int y0] : List Value))).length) Slot.unset).toArray = ls at hl ⊢
  have hl : lv_has ls 1 [(0, .int y0)] := hl
  obtain ⟨H, hHe⟩ : ∃ H : Heap, H = s.heap := ⟨_, rfl⟩
  obtain ⟨locs, hLe⟩ : ∃ L : List Loc, L = [] := ⟨_, rfl⟩
  have hP : va_P (dC, dI) vwCl (w0 cI cJ   ) H := by rw [hHe]; exact hP
  have hS : va_S A s.heap H locs := by rw [hHe, hLe]; exact va_S.rf
  show W p l e (headSpec wsJ6_bitCount_0f7a4 ({ frames := 0, cells := 0, slots := 0, locals := 0 })).room s m ([.int y0] : List Value).toArray below meth c s.heap [] 0 0 (MQ below (va_Qi (fun (r : Int32) (u : Unit) => pJ6_bitCount_0f7a4 y0 = some r) (fun u t => fw_B (dC, dI) A (w0 cI cJ   ) t) A) ([.int y0] : List Value).toArray s 0 0 A) (F0 m 0 ls [])
  rw [← hHe, ← hLe]
  refine lv_iload_n hx hb dJ6_bitCount_0f7a4_0 rfl (lv_at hl 0 rfl) ?_
  refine lv_iload_n hx hb dJ6_bitCount_0f7a4_1 rfl (lv_at hl 0 rfl) ?_
  refine lv_iconst (v := (1 : Int32)) hx hb dJ6_bitCount_0f7a4_2 (by decide) ?_
  refine lv_iushr (v := ((y0).toUInt32 >>> (((1 : Int32)).toUInt32 &&& Int32.toUInt32 31)).toInt32) hx hb dJ6_bitCount_0f7a4_3 rfl ?_
  refine lv_ldcw hx hb hown (hts (.constant RJ6 265 (1431655765)) (by decide +kernel)) dJ6_bitCount_0f7a4_4 ?_
  refine lv_iand hx hb dJ6_bitCount_0f7a4_7 ?_
  refine lv_isub hx hb dJ6_bitCount_0f7a4_8 ?_
  refine lv_istore_n (lv' := [(0, .int (y0 - (((y0).toUInt32 >>> (((1 : Int32)).toUInt32 &&& Int32.toUInt32 31)).toInt32 &&& (1431655765 : Int32))))]) hx hb dJ6_bitCount_0f7a4_9 rfl hl (by decide) rfl (fun ls hl => ?_)
  refine lv_iload_n hx hb dJ6_bitCount_0f7a4_10 rfl (lv_at hl 0 rfl) ?_
  refine lv_ldcw hx hb hown (hts (.constant RJ6 266 (858993459)) (by decide +kernel)) dJ6_bitCount_0f7a4_11 ?_
  refine lv_iand hx hb dJ6_bitCount_0f7a4_14 ?_
  refine lv_iload_n hx hb dJ6_bitCount_0f7a4_15 rfl (lv_at hl 0 rfl) ?_
  refine lv_iconst (v := (2 : Int32)) hx hb dJ6_bitCount_0f7a4_16 (by decide) ?_
  refine lv_iushr (v := (((y0 - (((y0).toUInt32 >>> (((1 : Int32)).toUInt32 &&& Int32.toUInt32 31)).toInt32 &&& (1431655765 : Int32)))).toUInt32 >>> (((2 : Int32)).toUInt32 &&& Int32.toUInt32 31)).toInt32) hx hb dJ6_bitCount_0f7a4_17 rfl ?_
  refine lv_ldcw hx hb hown (hts (.constant RJ6 266 (858993459)) (by decide +kernel)) dJ6_bitCount_0f7a4_18 ?_
  refine lv_iand hx hb dJ6_bitCount_0f7a4_21 ?_
  refine lv_iadd hx hb dJ6_bitCount_0f7a4_22 ?_
  refine lv_istore_n (lv' := [(0, .int (((y0 - (((y0).toUInt32 >>> (((1 : Int32)).toUInt32 &&& Int32.toUInt32 31)).toInt32 &&& (1431655765 : Int32))) &&& (858993459 : Int32)) + ((((y0 - (((y0).toUInt32 >>> (((1 : Int32)).toUInt32 &&& Int32.toUInt32 31)).toInt32 &&& (1431655765 : Int32)))).toUInt32 >>> (((2 : Int32)).toUInt32 &&& Int32.toUInt32 31)).toInt32 &&& (858993459 : Int32))))]) hx hb dJ6_bitCount_0f7a4_23 rfl hl (by decide) rfl (fun ls hl => ?_)
  refine lv_iload_n hx hb dJ6_bitCount_0f7a4_24 rfl (lv_at hl 0 rfl) ?_
  refine lv_iload_n hx hb dJ6_bitCount_0f7a4_25 rfl (lv_at hl 0 rfl) ?_
  refine lv_iconst (v := (4 : Int32)) hx hb dJ6_bitCount_0f7a4_26 (by decide) ?_
  refine lv_iushr (v := (((((y0 - (((y0).toUInt32 >>> (((1 : Int32)).toUInt32 &&& Int32.toUInt32 31)).toInt32 &&& (1431655765 : Int32))) &&& (858993459 : Int32)) + ((((y0 - (((y0).toUInt32 >>> (((1 : Int32)).toUInt32 &&& Int32.toUInt32 31)).toInt32 &&& (1431655765 : Int32)))).toUInt32 >>> (((2 : Int32)).toUInt32 &&& Int32.toUInt32 31)).toInt32 &&& (858993459 : Int32)))).toUInt32 >>> (((4 : Int32)).toUInt32 &&& Int32.toUInt32 31)).toInt32) hx hb dJ6_bitCount_0f7a4_27 rfl ?_
  refine lv_iadd hx hb dJ6_bitCount_0f7a4_28 ?_
  refine lv_ldcw hx hb hown (hts (.constant RJ6 267 (252645135)) (by decide +kernel)) dJ6_bitCount_0f7a4_29 ?_
  refine lv_iand hx hb dJ6_bitCount_0f7a4_32 ?_
  refine lv_istore_n (lv' := [(0, .int (((((y0 - (((y0).toUInt32 >>> (((1 : Int32)).toUInt32 &&& Int32.toUInt32 31)).toInt32 &&& (1431655765 : Int32))) &&& (858993459 : Int32)) + ((((y0 - (((y0).toUInt32 >>> (((1 : Int32)).toUInt32 &&& Int32.toUInt32 31)).toInt32 &&& (1431655765 : Int32)))).toUInt32 >>> (((2 : Int32)).toUInt32 &&& Int32.toUInt32 31)).toInt32 &&& (858993459 : Int32))) + (((((y0 - (((y0).toUInt32 >>> (((1 : Int32)).toUInt32 &&& Int32.toUInt32 31)).toInt32 &&& (1431655765 : Int32))) &&& (858993459 : Int32)) + ((((y0 - (((y0).toUInt32 >>> (((1 : Int32)).toUInt32 &&& Int32.toUInt32 31)).toInt32 &&& (1431655765 : Int32)))).toUInt32 >>> (((2 : Int32)).toUInt32 &&& Int32.toUInt32 31)).toInt32 &&& (858993459 : Int32)))).toUInt32 >>> (((4 : Int32)).toUInt32 &&& Int32.toUInt32 31)).toInt32) &&& (252645135 : Int32)))]) hx hb dJ6_bitCount_0f7a4_33 rfl hl (by decide) rfl (fun ls hl => ?_)
  refine lv_iload_n hx hb dJ6_bitCount_0f7a4_34 rfl (lv_at hl 0 rfl) ?_
  refine lv_iload_n hx hb dJ6_bitCount_0f7a4_35 rfl (lv_at hl 0 rfl) ?_
  refine lv_bipush (v := (8 : Int32)) hx hb dJ6_bitCount_0f7a4_36 (by decide) ?_
  refine lv_iushr (v := (((((((y0 - (((y0).toUInt32 >>> (((1 : Int32)).toUInt32 &&& Int32.toUInt32 31)).toInt32 &&& (1431655765 : Int32))) &&& (858993459 : Int32)) + ((((y0 - (((y0).toUInt32 >>> (((1 : Int32)).toUInt32 &&& Int32.toUInt32 31)).toInt32 &&& (1431655765 : Int32)))).toUInt32 >>> (((2 : Int32)).toUInt32 &&& Int32.toUInt32 31)).toInt32 &&& (858993459 : Int32))) + (((((y0 - (((y0).toUInt32 >>> (((1 : Int32)).toUInt32 &&& Int32.toUInt32 31)).toInt32 &&& (1431655765 : Int32))) &&& (858993459 : Int32)) + ((((y0 - (((y0).toUInt32 >>> (((1 : Int32)).toUInt32 &&& Int32.toUInt32 31)).toInt32 &&& (1431655765 : Int32)))).toUInt32 >>> (((2 : Int32)).toUInt32 &&& Int32.toUInt32 31)).toInt32 &&& (858993459 : Int32)))).toUInt32 >>> (((4 : Int32)).toUInt32 &&& Int32.toUInt32 31)).toInt32) &&& (252645135 : Int32))).toUInt32 >>> (((8 : Int32)).toUInt32 &&& Int32.toUInt32 31)).toInt32) hx hb dJ6_bitCount_0f7a4_38 rfl ?_
  refine lv_iadd hx hb dJ6_bitCount_0f7a4_39 ?_
  refine lv_istore_n (lv' := [(0, .int ((((((y0 - (((y0).toUInt32 >>> (((1 : Int32)).toUInt32 &&& Int32.toUInt32 31)).toInt32 &&& (1431655765 : Int32))) &&& (858993459 : Int32)) + ((((y0 - (((y0).toUInt32 >>> (((1 : Int32)).toUInt32 &&& Int32.toUInt32 31)).toInt32 &&& (1431655765 : Int32)))).toUInt32 >>> (((2 : Int32)).toUInt32 &&& Int32.toUInt32 31)).toInt32 &&& (858993459 : Int32))) + (((((y0 - (((y0).toUInt32 >>> (((1 : Int32)).toUInt32 &&& Int32.toUInt32 31)).toInt32 &&& (1431655765 : Int32))) &&& (858993459 : Int32)) + ((((y0 - (((y0).toUInt32 >>> (((1 : Int32)).toUInt32 &&& Int32.toUInt32 31)).toInt32 &&& (1431655765 : Int32)))).toUInt32 >>> (((2 : Int32)).toUInt32 &&& Int32.toUInt32 31)).toInt32 &&& (858993459 : Int32)))).toUInt32 >>> (((4 : Int32)).toUInt32 &&& Int32.toUInt32 31)).toInt32) &&& (252645135 : Int32)) + (((((((y0 - (((y0).toUInt32 >>> (((1 : Int32)).toUInt32 &&& Int32.toUInt32 31)).toInt32 &&& (1431655765 : Int32))) &&& (858993459 : Int32)) + ((((y0 - (((y0).toUInt32 >>> (((1 : Int32)).toUInt32 &&& Int32.toUInt32 31)).toInt32 &&& (1431655765 : Int32)))).toUInt32 >>> (((2 : Int32)).toUInt32 &&& Int32.toUInt32 31)).toInt32 &&& (858993459 : Int32))) + (((((y0 - (((y0).toUInt32 >>> (((1 : Int32)).toUInt32 &&& Int32.toUInt32 31)).toInt32 &&& (1431655765 : Int32))) &&& (858993459 : Int32)) + ((((y0 - (((y0).toUInt32 >>> (((1 : Int32)).toUInt32 &&& Int32.toUInt32 31)).toInt32 &&& (1431655765 : Int32)))).toUInt32 >>> (((2 : Int32)).toUInt32 &&& Int32.toUInt32 31)).toInt32 &&& (858993459 : Int32)))).toUInt32 >>> (((4 : Int32)).toUInt32 &&& Int32.toUInt32 31)).toInt32) &&& (252645135 : Int32))).toUInt32 >>> (((8 : Int32)).toUInt32 &&& Int32.toUInt32 31)).toInt32))]) hx hb dJ6_bitCount_0f7a4_40 rfl hl (by decide) rfl (fun ls hl => ?_)
  refine lv_iload_n hx hb dJ6_bitCount_0f7a4_41 rfl (lv_at hl 0 rfl) ?_
  refine lv_iload_n hx hb dJ6_bitCount_0f7a4_42 rfl (lv_at hl 0 rfl) ?_
  refine lv_bipush (v := (16 : Int32)) hx hb dJ6_bitCount_0f7a4_43 (by decide) ?_
  refine lv_iushr (v := ((((((((y0 - (((y0).toUInt32 >>> (((1 : Int32)).toUInt32 &&& Int32.toUInt32 31)).toInt32 &&& (1431655765 : Int32))) &&& (858993459 : Int32)) + ((((y0 - (((y0).toUInt32 >>> (((1 : Int32)).toUInt32 &&& Int32.toUInt32 31)).toInt32 &&& (1431655765 : Int32)))).toUInt32 >>> (((2 : Int32)).toUInt32 &&& Int32.toUInt32 31)).toInt32 &&& (858993459 : Int32))) + (((((y0 - (((y0).toUInt32 >>> (((1 : Int32)).toUInt32 &&& Int32.toUInt32 31)).toInt32 &&& (1431655765 : Int32))) &&& (858993459 : Int32)) + ((((y0 - (((y0).toUInt32 >>> (((1 : Int32)).toUInt32 &&& Int32.toUInt32 31)).toInt32 &&& (1431655765 : Int32)))).toUInt32 >>> (((2 : Int32)).toUInt32 &&& Int32.toUInt32 31)).toInt32 &&& (858993459 : Int32)))).toUInt32 >>> (((4 : Int32)).toUInt32 &&& Int32.toUInt32 31)).toInt32) &&& (252645135 : Int32)) + (((((((y0 - (((y0).toUInt32 >>> (((1 : Int32)).toUInt32 &&& Int32.toUInt32 31)).toInt32 &&& (1431655765 : Int32))) &&& (858993459 : Int32)) + ((((y0 - (((y0).toUInt32 >>> (((1 : Int32)).toUInt32 &&& Int32.toUInt32 31)).toInt32 &&& (1431655765 : Int32)))).toUInt32 >>> (((2 : Int32)).toUInt32 &&& Int32.toUInt32 31)).toInt32 &&& (858993459 : Int32))) + (((((y0 - (((y0).toUInt32 >>> (((1 : Int32)).toUInt32 &&& Int32.toUInt32 31)).toInt32 &&& (1431655765 : Int32))) &&& (858993459 : Int32)) + ((((y0 - (((y0).toUInt32 >>> (((1 : Int32)).toUInt32 &&& Int32.toUInt32 31)).toInt32 &&& (1431655765 : Int32)))).toUInt32 >>> (((2 : Int32)).toUInt32 &&& Int32.toUInt32 31)).toInt32 &&& (858993459 : Int32)))).toUInt32 >>> (((4 : Int32)).toUInt32 &&& Int32.toUInt32 31)).toInt32) &&& (252645135 : Int32))).toUInt32 >>> (((8 : Int32)).toUInt32 &&& Int32.toUInt32 31)).toInt32)).toUInt32 >>> (((16 : Int32)).toUInt32 &&& Int32.toUInt32 31)).toInt32) hx hb dJ6_bitCount_0f7a4_45 rfl ?_
  refine lv_iadd hx hb dJ6_bitCount_0f7a4_46 ?_
  refine lv_istore_n (lv' := [(0, .int (((((((y0 - (((y0).toUInt32 >>> (((1 : Int32)).toUInt32 &&& Int32.toUInt32 31)).toInt32 &&& (1431655765 : Int32))) &&& (858993459 : Int32)) + ((((y0 - (((y0).toUInt32 >>> (((1 : Int32)).toUInt32 &&& Int32.toUInt32 31)).toInt32 &&& (1431655765 : Int32)))).toUInt32 >>> (((2 : Int32)).toUInt32 &&& Int32.toUInt32 31)).toInt32 &&& (858993459 : Int32))) + (((((y0 - (((y0).toUInt32 >>> (((1 : Int32)).toUInt32 &&& Int32.toUInt32 31)).toInt32 &&& (1431655765 : Int32))) &&& (858993459 : Int32)) + ((((y0 - (((y0).toUInt32 >>> (((1 : Int32)).toUInt32 &&& Int32.toUInt32 31)).toInt32 &&& (1431655765 : Int32)))).toUInt32 >>> (((2 : Int32)).toUInt32 &&& Int32.toUInt32 31)).toInt32 &&& (858993459 : Int32)))).toUInt32 >>> (((4 : Int32)).toUInt32 &&& Int32.toUInt32 31)).toInt32) &&& (252645135 : Int32)) + (((((((y0 - (((y0).toUInt32 >>> (((1 : Int32)).toUInt32 &&& Int32.toUInt32 31)).toInt32 &&& (1431655765 : Int32))) &&& (858993459 : Int32)) + ((((y0 - (((y0).toUInt32 >>> (((1 : Int32)).toUInt32 &&& Int32.toUInt32 31)).toInt32 &&& (1431655765 : Int32)))).toUInt32 >>> (((2 : Int32)).toUInt32 &&& Int32.toUInt32 31)).toInt32 &&& (858993459 : Int32))) + (((((y0 - (((y0).toUInt32 >>> (((1 : Int32)).toUInt32 &&& Int32.toUInt32 31)).toInt32 &&& (1431655765 : Int32))) &&& (858993459 : Int32)) + ((((y0 - (((y0).toUInt32 >>> (((1 : Int32)).toUInt32 &&& Int32.toUInt32 31)).toInt32 &&& (1431655765 : Int32)))).toUInt32 >>> (((2 : Int32)).toUInt32 &&& Int32.toUInt32 31)).toInt32 &&& (858993459 : Int32)))).toUInt32 >>> (((4 : Int32)).toUInt32 &&& Int32.toUInt32 31)).toInt32) &&& (252645135 : Int32))).toUInt32 >>> (((8 : Int32)).toUInt32 &&& Int32.toUInt32 31)).toInt32) + ((((((((y0 - (((y0).toUInt32 >>> (((1 : Int32)).toUInt32 &&& Int32.toUInt32 31)).toInt32 &&& (1431655765 : Int32))) &&& (858993459 : Int32)) + ((((y0 - (((y0).toUInt32 >>> (((1 : Int32)).toUInt32 &&& Int32.toUInt32 31)).toInt32 &&& (1431655765 : Int32)))).toUInt32 >>> (((2 : Int32)).toUInt32 &&& Int32.toUInt32 31)).toInt32 &&& (858993459 : Int32))) + (((((y0 - (((y0).toUInt32 >>> (((1 : Int32)).toUInt32 &&& Int32.toUInt32 31)).toInt32 &&& (1431655765 : Int32))) &&& (858993459 : Int32)) + ((((y0 - (((y0).toUInt32 >>> (((1 : Int32)).toUInt32 &&& Int32.toUInt32 31)).toInt32 &&& (1431655765 : Int32)))).toUInt32 >>> (((2 : Int32)).toUInt32 &&& Int32.toUInt32 31)).toInt32 &&& (858993459 : Int32)))).toUInt32 >>> (((4 : Int32)).toUInt32 &&& Int32.toUInt32 31)).toInt32) &&& (252645135 : Int32)) + (((((((y0 - (((y0).toUInt32 >>> (((1 : Int32)).toUInt32 &&& Int32.toUInt32 31)).toInt32 &&& (1431655765 : Int32))) &&& (858993459 : Int32)) + ((((y0 - (((y0).toUInt32 >>> (((1 : Int32)).toUInt32 &&& Int32.toUInt32 31)).toInt32 &&& (1431655765 : Int32)))).toUInt32 >>> (((2 : Int32)).toUInt32 &&& Int32.toUInt32 31)).toInt32 &&& (858993459 : Int32))) + (((((y0 - (((y0).toUInt32 >>> (((1 : Int32)).toUInt32 &&& Int32.toUInt32 31)).toInt32 &&& (1431655765 : Int32))) &&& (858993459 : Int32)) + ((((y0 - (((y0).toUInt32 >>> (((1 : Int32)).toUInt32 &&& Int32.toUInt32 31)).toInt32 &&& (1431655765 : Int32)))).toUInt32 >>> (((2 : Int32)).toUInt32 &&& Int32.toUInt32 31)).toInt32 &&& (858993459 : Int32)))).toUInt32 >>> (((4 : Int32)).toUInt32 &&& Int32.toUInt32 31)).toInt32) &&& (252645135 : Int32))).toUInt32 >>> (((8 : Int32)).toUInt32 &&& Int32.toUInt32 31)).toInt32)).toUInt32 >>> (((16 : Int32)).toUInt32 &&& Int32.toUInt32 31)).toInt32))]) hx hb dJ6_bitCount_0f7a4_47 rfl hl (by decide) rfl (fun ls hl => ?_)
  refine lv_iload_n hx hb dJ6_bitCount_0f7a4_48 rfl (lv_at hl 0 rfl) ?_
  refine lv_bipush (v := (63 : Int32)) hx hb dJ6_bitCount_0f7a4_49 (by decide) ?_
  refine lv_iand hx hb dJ6_bitCount_0f7a4_51 ?_
  exact W.iret (v := ((((((((y0 - (((y0).toUInt32 >>> (((1 : Int32)).toUInt32 &&& Int32.toUInt32 31)).toInt32 &&& (1431655765 : Int32))) &&& (858993459 : Int32)) + ((((y0 - (((y0).toUInt32 >>> (((1 : Int32)).toUInt32 &&& Int32.toUInt32 31)).toInt32 &&& (1431655765 : Int32)))).toUInt32 >>> (((2 : Int32)).toUInt32 &&& Int32.toUInt32 31)).toInt32 &&& (858993459 : Int32))) + (((((y0 - (((y0).toUInt32 >>> (((1 : Int32)).toUInt32 &&& Int32.toUInt32 31)).toInt32 &&& (1431655765 : Int32))) &&& (858993459 : Int32)) + ((((y0 - (((y0).toUInt32 >>> (((1 : Int32)).toUInt32 &&& Int32.toUInt32 31)).toInt32 &&& (1431655765 : Int32)))).toUInt32 >>> (((2 : Int32)).toUInt32 &&& Int32.toUInt32 31)).toInt32 &&& (858993459 : Int32)))).toUInt32 >>> (((4 : Int32)).toUInt32 &&& Int32.toUInt32 31)).toInt32) &&& (252645135 : Int32)) + (((((((y0 - (((y0).toUInt32 >>> (((1 : Int32)).toUInt32 &&& Int32.toUInt32 31)).toInt32 &&& (1431655765 : Int32))) &&& (858993459 : Int32)) + ((((y0 - (((y0).toUInt32 >>> (((1 : Int32)).toUInt32 &&& Int32.toUInt32 31)).toInt32 &&& (1431655765 : Int32)))).toUInt32 >>> (((2 : Int32)).toUInt32 &&& Int32.toUInt32 31)).toInt32 &&& (858993459 : Int32))) + (((((y0 - (((y0).toUInt32 >>> (((1 : Int32)).toUInt32 &&& Int32.toUInt32 31)).toInt32 &&& (1431655765 : Int32))) &&& (858993459 : Int32)) + ((((y0 - (((y0).toUInt32 >>> (((1 : Int32)).toUInt32 &&& Int32.toUInt32 31)).toInt32 &&& (1431655765 : Int32)))).toUInt32 >>> (((2 : Int32)).toUInt32 &&& Int32.toUInt32 31)).toInt32 &&& (858993459 : Int32)))).toUInt32 >>> (((4 : Int32)).toUInt32 &&& Int32.toUInt32 31)).toInt32) &&& (252645135 : Int32))).toUInt32 >>> (((8 : Int32)).toUInt32 &&& Int32.toUInt32 31)).toInt32) + ((((((((y0 - (((y0).toUInt32 >>> (((1 : Int32)).toUInt32 &&& Int32.toUInt32 31)).toInt32 &&& (1431655765 : Int32))) &&& (858993459 : Int32)) + ((((y0 - (((y0).toUInt32 >>> (((1 : Int32)).toUInt32 &&& Int32.toUInt32 31)).toInt32 &&& (1431655765 : Int32)))).toUInt32 >>> (((2 : Int32)).toUInt32 &&& Int32.toUInt32 31)).toInt32 &&& (858993459 : Int32))) + (((((y0 - (((y0).toUInt32 >>> (((1 : Int32)).toUInt32 &&& Int32.toUInt32 31)).toInt32 &&& (1431655765 : Int32))) &&& (858993459 : Int32)) + ((((y0 - (((y0).toUInt32 >>> (((1 : Int32)).toUInt32 &&& Int32.toUInt32 31)).toInt32 &&& (1431655765 : Int32)))).toUInt32 >>> (((2 : Int32)).toUInt32 &&& Int32.toUInt32 31)).toInt32 &&& (858993459 : Int32)))).toUInt32 >>> (((4 : Int32)).toUInt32 &&& Int32.toUInt32 31)).toInt32) &&& (252645135 : Int32)) + (((((((y0 - (((y0).toUInt32 >>> (((1 : Int32)).toUInt32 &&& Int32.toUInt32 31)).toInt32 &&& (1431655765 : Int32))) &&& (858993459 : Int32)) + ((((y0 - (((y0).toUInt32 >>> (((1 : Int32)).toUInt32 &&& Int32.toUInt32 31)).toInt32 &&& (1431655765 : Int32)))).toUInt32 >>> (((2 : Int32)).toUInt32 &&& Int32.toUInt32 31)).toInt32 &&& (858993459 : Int32))) + (((((y0 - (((y0).toUInt32 >>> (((1 : Int32)).toUInt32 &&& Int32.toUInt32 31)).toInt32 &&& (1431655765 : Int32))) &&& (858993459 : Int32)) + ((((y0 - (((y0).toUInt32 >>> (((1 : Int32)).toUInt32 &&& Int32.toUInt32 31)).toInt32 &&& (1431655765 : Int32)))).toUInt32 >>> (((2 : Int32)).toUInt32 &&& Int32.toUInt32 31)).toInt32 &&& (858993459 : Int32)))).toUInt32 >>> (((4 : Int32)).toUInt32 &&& Int32.toUInt32 31)).toInt32) &&& (252645135 : Int32))).toUInt32 >>> (((8 : Int32)).toUInt32 &&& Int32.toUInt32 31)).toInt32)).toUInt32 >>> (((16 : Int32)).toUInt32 &&& Int32.toUInt32 31)).toInt32) &&& (63 : Int32))) hx hb hr (fun t ht hW => ⟨⟨((((((((y0 - (((y0).toUInt32 >>> (((1 : Int32)).toUInt32 &&& Int32.toUInt32 31)).toInt32 &&& (1431655765 : Int32))) &&& (858993459 : Int32)) + ((((y0 - (((y0).toUInt32 >>> (((1 : Int32)).toUInt32 &&& Int32.toUInt32 31)).toInt32 &&& (1431655765 : Int32)))).toUInt32 >>> (((2 : Int32)).toUInt32 &&& Int32.toUInt32 31)).toInt32 &&& (858993459 : Int32))) + (((((y0 - (((y0).toUInt32 >>> (((1 : Int32)).toUInt32 &&& Int32.toUInt32 31)).toInt32 &&& (1431655765 : Int32))) &&& (858993459 : Int32)) + ((((y0 - (((y0).toUInt32 >>> (((1 : Int32)).toUInt32 &&& Int32.toUInt32 31)).toInt32 &&& (1431655765 : Int32)))).toUInt32 >>> (((2 : Int32)).toUInt32 &&& Int32.toUInt32 31)).toInt32 &&& (858993459 : Int32)))).toUInt32 >>> (((4 : Int32)).toUInt32 &&& Int32.toUInt32 31)).toInt32) &&& (252645135 : Int32)) + (((((((y0 - (((y0).toUInt32 >>> (((1 : Int32)).toUInt32 &&& Int32.toUInt32 31)).toInt32 &&& (1431655765 : Int32))) &&& (858993459 : Int32)) + ((((y0 - (((y0).toUInt32 >>> (((1 : Int32)).toUInt32 &&& Int32.toUInt32 31)).toInt32 &&& (1431655765 : Int32)))).toUInt32 >>> (((2 : Int32)).toUInt32 &&& Int32.toUInt32 31)).toInt32 &&& (858993459 : Int32))) + (((((y0 - (((y0).toUInt32 >>> (((1 : Int32)).toUInt32 &&& Int32.toUInt32 31)).toInt32 &&& (1431655765 : Int32))) &&& (858993459 : Int32)) + ((((y0 - (((y0).toUInt32 >>> (((1 : Int32)).toUInt32 &&& Int32.toUInt32 31)).toInt32 &&& (1431655765 : Int32)))).toUInt32 >>> (((2 : Int32)).toUInt32 &&& Int32.toUInt32 31)).toInt32 &&& (858993459 : Int32)))).toUInt32 >>> (((4 : Int32)).toUInt32 &&& Int32.toUInt32 31)).toInt32) &&& (252645135 : Int32))).toUInt32 >>> (((8 : Int32)).toUInt32 &&& Int32.toUInt32 31)).toInt32) + ((((((((y0 - (((y0).toUInt32 >>> (((1 : Int32)).toUInt32 &&& Int32.toUInt32 31)).toInt32 &&& (1431655765 : Int32))) &&& (858993459 : Int32)) + ((((y0 - (((y0).toUInt32 >>> (((1 : Int32)).toUInt32 &&& Int32.toUInt32 31)).toInt32 &&& (1431655765 : Int32)))).toUInt32 >>> (((2 : Int32)).toUInt32 &&& Int32.toUInt32 31)).toInt32 &&& (858993459 : Int32))) + (((((y0 - (((y0).toUInt32 >>> (((1 : Int32)).toUInt32 &&& Int32.toUInt32 31)).toInt32 &&& (1431655765 : Int32))) &&& (858993459 : Int32)) + ((((y0 - (((y0).toUInt32 >>> (((1 : Int32)).toUInt32 &&& Int32.toUInt32 31)).toInt32 &&& (1431655765 : Int32)))).toUInt32 >>> (((2 : Int32)).toUInt32 &&& Int32.toUInt32 31)).toInt32 &&& (858993459 : Int32)))).toUInt32 >>> (((4 : Int32)).toUInt32 &&& Int32.toUInt32 31)).toInt32) &&& (252645135 : Int32)) + (((((((y0 - (((y0).toUInt32 >>> (((1 : Int32)).toUInt32 &&& Int32.toUInt32 31)).toInt32 &&& (1431655765 : Int32))) &&& (858993459 : Int32)) + ((((y0 - (((y0).toUInt32 >>> (((1 : Int32)).toUInt32 &&& Int32.toUInt32 31)).toInt32 &&& (1431655765 : Int32)))).toUInt32 >>> (((2 : Int32)).toUInt32 &&& Int32.toUInt32 31)).toInt32 &&& (858993459 : Int32))) + (((((y0 - (((y0).toUInt32 >>> (((1 : Int32)).toUInt32 &&& Int32.toUInt32 31)).toInt32 &&& (1431655765 : Int32))) &&& (858993459 : Int32)) + ((((y0 - (((y0).toUInt32 >>> (((1 : Int32)).toUInt32 &&& Int32.toUInt32 31)).toInt32 &&& (1431655765 : Int32)))).toUInt32 >>> (((2 : Int32)).toUInt32 &&& Int32.toUInt32 31)).toInt32 &&& (858993459 : Int32)))).toUInt32 >>> (((4 : Int32)).toUInt32 &&& Int32.toUInt32 31)).toInt32) &&& (252645135 : Int32))).toUInt32 >>> (((8 : Int32)).toUInt32 &&& Int32.toUInt32 31)).toInt32)).toUInt32 >>> (((16 : Int32)).toUInt32 &&& Int32.toUInt32 31)).toInt32) &&& (63 : Int32)), (), rfl, hz.trans hq.symm, by rw [ht]; exact hP, hD⟩, hS.F ht⟩) hS.2.2 dJ6_bitCount_0f7a4_52
set_option maxHeartbeats 4000000 in
set_option maxRecDepth 100000 in
theorem kJ7_fill_53178 (l : Launch) (dC : Nat → ClassId) (dI : Nat → Nat → Nat) (cI cJ : ClassId) (a0 : Nat) (sz : Nat) (N : Nat) (f0 : Nat → Int32) (y1 : Int32) (hd : ∃ z, pJ7_fill_53178 N f0 y1 = some z) : Met l yJ7_fill_53178 wsJ7_fill_53178 ({ frames := 0, cells := 0, slots := 0, locals := 0 }) (fw_Pc (dC, dI) (fw_tys cI cJ) (wA cI cJ a0 N f0) ([.ref a0, .int y1] : List Value) sz) (va_Qv (fun (u : (Nat → Int32)) => pJ7_fill_53178 N f0 y1 = some u) (fun u t => fw_B (dC, dI) (va_A (wA cI cJ a0 N f0) sz) (wA cI cJ a0 N u) t) (va_A (wA cI cJ a0 N f0) sz)) 0 0 (va_A (wA cI cJ a0 N f0) sz) := by
  obtain ⟨z, hz⟩ := hd
  refine Met.ofW (cc := cJ7_fill_53178) (maxL := 4) (ret := none) (by decide) rfl ?_
  intro p e s m args below meth c s₁ B hml hv
  obtain ⟨rfl, hsz, hP, hK, hD0, hN⟩ := hv
  have hx := B.exec
  have hb := B.bytes
  have hr := B.returns
  have hts := atoms_spec (ws := wsJ7_fill_53178) B.pre
  have hown : s.vm.findClass RJ7 = some m.cls := findClass_of_methodNamed B.named
  have hlocks := B.notSynchronized
  subst hsz
  have hD := hD0.self (sz := s.heap.size)
  generalize hAe : va_A (wA cI cJ a0 N f0) s.heap.size = A at hD ⊢
  have hA : ∀ q : Nat, s.heap.size ≤ q → A q := fun q h => by rw [← hAe]; exact Or.inr h
  have L5 : ∀ (x1 : Int32) (x3 : Int32) (e9 : Int32 × (Nat → Int32)), (∀ (x2' : Int32) (f' : Nat → Int32) (H : Heap) (locs : List Loc) (ls : Array Slot), e9 = (x2', f') → va_P (dC, dI) vwCl (wA cI cJ a0 N f') H → va_D A (wA cI cJ a0 N f') → va_S A s.heap H locs → lv_has ls 4 [(0, .ref a0), (1, .int x1), (2, .int x2'), (3, .int x3)] → W p l e (headSpec wsJ7_fill_53178 ({ frames := 0, cells := 0, slots := 0, locals := 0 })).room s m ([.ref a0, .int y1] : List Value).toArray below meth c H locs 0 0 (MQ below (va_Qv (fun (u : (Nat → Int32)) => pJ7_fill_53178 N f0 y1 = some u) (fun u t => fw_B (dC, dI) A (wA cI cJ a0 N u) t) A) ([.ref a0, .int y1] : List Value).toArray s 0 0 A) (F0 m 20 ls [])) → ∀ (n9 : Nat) (x2 : Int32) (f : Nat → Int32) (H : Heap) (locs : List Loc) (ls : Array Slot), fw_wh (pJ7_fill_53178_5 N x1 x3) n9 (x2, f) = some e9 → va_P (dC, dI) vwCl (wA cI cJ a0 N f) H → va_D A (wA cI cJ a0 N f) → va_S A s.heap H locs → lv_has ls 4 [(0, .ref a0), (1, .int x1), (2, .int x2), (3, .int x3)] → W p l e (headSpec wsJ7_fill_53178 ({ frames := 0, cells := 0, slots := 0, locals := 0 })).room s m ([.ref a0, .int y1] : List Value).toArray below meth c H locs 0 0 (MQ below (va_Qv (fun (u : (Nat → Int32)) => pJ7_fill_53178 N f0 y1 = some u) (fun u t => fw_B (dC, dI) A (wA cI cJ a0 N u) t) A) ([.ref a0, .int y1] : List Value).toArray s 0 0 A) (F0 m 5 ls []) := by
    intro x1 x3 e9 hkk n9
    induction n9 with
    | zero => exact fun _ _ H locs ls hq => (fw_wh0 hq).elim
    | succ n9 ih =>
      intro x2 f H locs ls hq hP hD hS hl
      obtain ⟨w9, hq, hwI, hwE⟩ := fw_wh1 hq
      dsimp only [pJ7_fill_53178_5] at hq
      refine lv_iload_n hx hb dJ7_fill_53178_5 rfl (lv_at hl 2 rfl) ?_
      refine lv_iload_n hx hb dJ7_fill_53178_6 rfl (lv_at hl 3 rfl) ?_
      refine lv_icmp_ge (tgt := 20) hx hb dJ7_fill_53178_7 (by decide) (fun c_1 => ?_) (fun c_1 => ?_)
      · have hq := fw_it c_1 hq
        exact hkk x2 f H locs ls (hwE _ (Option.some.inj hq).symm) hP hD hS (lv_sub hl [0, 1, 2, 3] rfl)
      · have hq := fw_if c_1 hq
        refine lv_aload_n hx hb dJ7_fill_53178_10 rfl (lv_at hl 0 rfl) ?_
        refine lv_iload_n hx hb dJ7_fill_53178_11 rfl (lv_at hl 2 rfl) ?_
        refine lv_iload_n hx hb dJ7_fill_53178_12 rfl (lv_at hl 1 rfl) ?_
        obtain ⟨h_2, hq⟩ := fw_ck_s hq
        refine va_iast hx hb hK hP hD hS 0 0 rfl rfl h_2 dJ7_fill_53178_13 (fun H locs hP hD hS => ?_)
        have hP : va_P (dC, dI) vwCl (wA cI cJ a0 N (upd f (x2).toNatClampNeg x1)) H := hP
        have hD : va_D A (wA cI cJ a0 N (upd f (x2).toNatClampNeg x1)) := hD
        refine lv_iinc (v := (x2 + (1 : Int32))) (lv' := [(2, .int (x2 + (1 : Int32))), (0, .ref a0), (1, .int x1), (3, .int x3)]) hx hb dJ7_fill_53178_14 hl (k := 2) rfl rfl (by decide) rfl (fun ls hl => ?_)
        refine lv_goto (tgt := 5) hx hb dJ7_fill_53178_17 (by decide) ?_
        exact ih (x2 + (1 : Int32)) (upd f (x2).toNatClampNeg x1) H locs ls (hwI _ (Option.some.inj hq).symm) hP hD hS (lv_sub hl [1, 2, 0, 3] rfl)
  have hq := hz
  dsimp only [pJ7_fill_53178] at hq
  have hl := lv_entry (([.ref a0, .int y1] : List Value)) (n := 4) (Nat.le_of_ble_eq_true rfl)
  rw [lg_entry_eq]
  generalize (lg_sl (([.ref a0, .int y1] : List Value)) ++ List.replicate (4 - (lg_sl (([.ref a0, .int y1] : List Value))).length) Slot.unset).toArray = ls at hl ⊢
  have hl : lv_has ls 4 [(0, .ref a0), (1, .int y1)] := hl
  obtain ⟨H, hHe⟩ : ∃ H : Heap, H = s.heap := ⟨_, rfl⟩
  obtain ⟨locs, hLe⟩ : ∃ L : List Loc, L = [] := ⟨_, rfl⟩
  have hP : va_P (dC, dI) vwCl (wA cI cJ a0 N f0) H := by rw [hHe]; exact hP
  have hS : va_S A s.heap H locs := by rw [hHe, hLe]; exact va_S.rf
  show W p l e (headSpec wsJ7_fill_53178 ({ frames := 0, cells := 0, slots := 0, locals := 0 })).room s m ([.ref a0, .int y1] : List Value).toArray below meth c s.heap [] 0 0 (MQ below (va_Qv (fun (u : (Nat → Int32)) => pJ7_fill_53178 N f0 y1 = some u) (fun u t => fw_B (dC, dI) A (wA cI cJ a0 N u) t) A) ([.ref a0, .int y1] : List Value).toArray s 0 0 A) (F0 m 0 ls [])
  rw [← hHe, ← hLe]
  refine lv_iconst (v := (0 : Int32)) hx hb dJ7_fill_53178_0 (by decide) ?_
  refine lv_istore_n (lv' := [(2, .int (0 : Int32)), (0, .ref a0), (1, .int y1)]) hx hb dJ7_fill_53178_1 rfl hl (by decide) rfl (fun ls hl => ?_)
  refine lv_aload_n hx hb dJ7_fill_53178_2 rfl (lv_at hl 1 rfl) ?_
  refine va_alen (v := (nI N)) hx hb hK hP 0 0 rfl rfl rfl dJ7_fill_53178_3 ?_
  refine lv_istore_n (lv' := [(3, .int (nI N)), (2, .int (0 : Int32)), (0, .ref a0), (1, .int y1)]) hx hb dJ7_fill_53178_4 rfl hl (by decide) rfl (fun ls hl => ?_)
  obtain ⟨e_5, hw, hq⟩ := fw_bb hq
  refine L5 y1 (nI N) e_5 (fun x2_3 f_4 H locs ls he hP hD hS hl => ?_) fw_N (0 : Int32) f0 H locs ls hw hP hD hS (lv_sub hl [2, 3, 1, 0] rfl)
  subst he
  try dsimp only at hq
  exact W.vret hx hb hr (fun t ht hW => ⟨⟨f_4, rfl, hz.trans hq.symm, by rw [ht]; exact hP, hD⟩, hS.F ht⟩) hS.2.2 dJ7_fill_53178_20
set_option maxHeartbeats 4000000 in
set_option maxRecDepth 100000 in
theorem kJ7_fill_d0a16 (l : Launch) (dC : Nat → ClassId) (dI : Nat → Nat → Nat) (cI cJ : ClassId) (a0 : Nat) (sz : Nat) (N : Nat) (g0 : Nat → Int64) (y1 : Int64) (hd : ∃ z, pJ7_fill_d0a16 N g0 y1 = some z) : Met l yJ7_fill_d0a16 wsJ7_fill_d0a16 ({ frames := 0, cells := 0, slots := 0, locals := 0 }) (fw_Pc (dC, dI) (fw_tys cI cJ) (wB cI cJ a0 N g0) ([.ref a0, .long y1] : List Value) sz) (va_Qv (fun (u : (Nat → Int64)) => pJ7_fill_d0a16 N g0 y1 = some u) (fun u t => fw_B (dC, dI) (va_A (wB cI cJ a0 N g0) sz) (wB cI cJ a0 N u) t) (va_A (wB cI cJ a0 N g0) sz)) 0 0 (va_A (wB cI cJ a0 N g0) sz) := by
  obtain ⟨z, hz⟩ := hd
  refine Met.ofW (cc := cJ7_fill_d0a16) (maxL := 5) (ret := none) (by decide) rfl ?_
  intro p e s m args below meth c s₁ B hml hv
  obtain ⟨rfl, hsz, hP, hK, hD0, hN⟩ := hv
  have hx := B.exec
  have hb := B.bytes
  have hr := B.returns
  have hts := atoms_spec (ws := wsJ7_fill_d0a16) B.pre
  have hown : s.vm.findClass RJ7 = some m.cls := findClass_of_methodNamed B.named
  have hlocks := B.notSynchronized
  subst hsz
  have hD := hD0.self (sz := s.heap.size)
  generalize hAe : va_A (wB cI cJ a0 N g0) s.heap.size = A at hD ⊢
  have hA : ∀ q : Nat, s.heap.size ≤ q → A q := fun q h => by rw [← hAe]; exact Or.inr h
  have L6 : ∀ (x1 : Int64) (x4 : Int32) (e9 : Int32 × (Nat → Int64)), (∀ (x3' : Int32) (g' : Nat → Int64) (H : Heap) (locs : List Loc) (ls : Array Slot), e9 = (x3', g') → va_P (dC, dI) vwCl (wB cI cJ a0 N g') H → va_D A (wB cI cJ a0 N g') → va_S A s.heap H locs → lv_has ls 5 [(0, .ref a0), (1, .long x1), (3, .int x3'), (4, .int x4)] → W p l e (headSpec wsJ7_fill_d0a16 ({ frames := 0, cells := 0, slots := 0, locals := 0 })).room s m ([.ref a0, .long y1] : List Value).toArray below meth c H locs 0 0 (MQ below (va_Qv (fun (u : (Nat → Int64)) => pJ7_fill_d0a16 N g0 y1 = some u) (fun u t => fw_B (dC, dI) A (wB cI cJ a0 N u) t) A) ([.ref a0, .long y1] : List Value).toArray s 0 0 A) (F0 m 22 ls [])) → ∀ (n9 : Nat) (x3 : Int32) (g : Nat → Int64) (H : Heap) (locs : List Loc) (ls : Array Slot), fw_wh (pJ7_fill_d0a16_6 N x1 x4) n9 (x3, g) = some e9 → va_P (dC, dI) vwCl (wB cI cJ a0 N g) H → va_D A (wB cI cJ a0 N g) → va_S A s.heap H locs → lv_has ls 5 [(0, .ref a0), (1, .long x1), (3, .int x3), (4, .int x4)] → W p l e (headSpec wsJ7_fill_d0a16 ({ frames := 0, cells := 0, slots := 0, locals := 0 })).room s m ([.ref a0, .long y1] : List Value).toArray below meth c H locs 0 0 (MQ below (va_Qv (fun (u : (Nat → Int64)) => pJ7_fill_d0a16 N g0 y1 = some u) (fun u t => fw_B (dC, dI) A (wB cI cJ a0 N u) t) A) ([.ref a0, .long y1] : List Value).toArray s 0 0 A) (F0 m 6 ls []) := by
    intro x1 x4 e9 hkk n9
    induction n9 with
    | zero => exact fun _ _ H locs ls hq => (fw_wh0 hq).elim
    | succ n9 ih =>
      intro x3 g H locs ls hq hP hD hS hl
      obtain ⟨w9, hq, hwI, hwE⟩ := fw_wh1 hq
      dsimp only [pJ7_fill_d0a16_6] at hq
      refine lv_iload_n hx hb dJ7_fill_d0a16_6 rfl (lv_at hl 2 rfl) ?_
      refine lv_iload hx hb dJ7_fill_d0a16_7 (lv_at hl 3 rfl) ?_
      refine lv_icmp_ge (tgt := 22) hx hb dJ7_fill_d0a16_9 (by decide) (fun c_1 => ?_) (fun c_1 => ?_)
      · have hq := fw_it c_1 hq
        exact hkk x3 g H locs ls (hwE _ (Option.some.inj hq).symm) hP hD hS (lv_sub hl [0, 1, 2, 3] rfl)
      · have hq := fw_if c_1 hq
        refine lv_aload_n hx hb dJ7_fill_d0a16_12 rfl (lv_at hl 0 rfl) ?_
        refine lv_iload_n hx hb dJ7_fill_d0a16_13 rfl (lv_at hl 2 rfl) ?_
        refine lv_lload_n hx hb dJ7_fill_d0a16_14 rfl (lv_at hl 1 rfl) ?_
        obtain ⟨h_2, hq⟩ := fw_ck_s hq
        refine va_last hx hb hK hP hD hS 0 1 rfl rfl h_2 dJ7_fill_d0a16_15 (fun H locs hP hD hS => ?_)
        have hP : va_P (dC, dI) vwCl (wB cI cJ a0 N (vp_updL g (x3).toNatClampNeg x1)) H := hP
        have hD : va_D A (wB cI cJ a0 N (vp_updL g (x3).toNatClampNeg x1)) := hD
        refine lv_iinc (v := (x3 + (1 : Int32))) (lv' := [(3, .int (x3 + (1 : Int32))), (0, .ref a0), (1, .long x1), (4, .int x4)]) hx hb dJ7_fill_d0a16_16 hl (k := 2) rfl rfl (by decide) rfl (fun ls hl => ?_)
        refine lv_goto (tgt := 6) hx hb dJ7_fill_d0a16_19 (by decide) ?_
        exact ih (x3 + (1 : Int32)) (vp_updL g (x3).toNatClampNeg x1) H locs ls (hwI _ (Option.some.inj hq).symm) hP hD hS (lv_sub hl [1, 2, 0, 3] rfl)
  have hq := hz
  dsimp only [pJ7_fill_d0a16] at hq
  have hl := lv_entry (([.ref a0, .long y1] : List Value)) (n := 5) (Nat.le_of_ble_eq_true rfl)
  rw [lg_entry_eq]
  generalize (lg_sl (([.ref a0, .long y1] : List Value)) ++ List.replicate (5 - (lg_sl (([.ref a0, .long y1] : List Value))).length) Slot.unset).toArray = ls at hl ⊢
  have hl : lv_has ls 5 [(0, .ref a0), (1, .long y1)] := hl
  obtain ⟨H, hHe⟩ : ∃ H : Heap, H = s.heap := ⟨_, rfl⟩
  obtain ⟨locs, hLe⟩ : ∃ L : List Loc, L = [] := ⟨_, rfl⟩
  have hP : va_P (dC, dI) vwCl (wB cI cJ a0 N g0) H := by rw [hHe]; exact hP
  have hS : va_S A s.heap H locs := by rw [hHe, hLe]; exact va_S.rf
  show W p l e (headSpec wsJ7_fill_d0a16 ({ frames := 0, cells := 0, slots := 0, locals := 0 })).room s m ([.ref a0, .long y1] : List Value).toArray below meth c s.heap [] 0 0 (MQ below (va_Qv (fun (u : (Nat → Int64)) => pJ7_fill_d0a16 N g0 y1 = some u) (fun u t => fw_B (dC, dI) A (wB cI cJ a0 N u) t) A) ([.ref a0, .long y1] : List Value).toArray s 0 0 A) (F0 m 0 ls [])
  rw [← hHe, ← hLe]
  refine lv_iconst (v := (0 : Int32)) hx hb dJ7_fill_d0a16_0 (by decide) ?_
  refine lv_istore_n (lv' := [(3, .int (0 : Int32)), (0, .ref a0), (1, .long y1)]) hx hb dJ7_fill_d0a16_1 rfl hl (by decide) rfl (fun ls hl => ?_)
  refine lv_aload_n hx hb dJ7_fill_d0a16_2 rfl (lv_at hl 1 rfl) ?_
  refine va_alen (v := (nI N)) hx hb hK hP 0 1 rfl rfl rfl dJ7_fill_d0a16_3 ?_
  refine lv_istore (lv' := [(4, .int (nI N)), (3, .int (0 : Int32)), (0, .ref a0), (1, .long y1)]) hx hb dJ7_fill_d0a16_4 hl (by decide) rfl (fun ls hl => ?_)
  obtain ⟨e_5, hw, hq⟩ := fw_bb hq
  refine L6 y1 (nI N) e_5 (fun x3_3 g_4 H locs ls he hP hD hS hl => ?_) fw_N (0 : Int32) g0 H locs ls hw hP hD hS (lv_sub hl [2, 3, 1, 0] rfl)
  subst he
  try dsimp only at hq
  exact W.vret hx hb hr (fun t ht hW => ⟨⟨g_4, rfl, hz.trans hq.symm, by rw [ht]; exact hP, hD⟩, hS.F ht⟩) hS.2.2 dJ7_fill_d0a16_22
set_option maxHeartbeats 4000000 in
set_option maxRecDepth 100000 in
theorem kX3_isWithin (l : Launch) (dC : Nat → ClassId) (dI : Nat → Nat → Nat) (cI cJ : ClassId)  (sz : Nat)   (y0 : Int32) (y1 : Int32) (y2 : Int32) (hd : ∃ z, pX3_isWithin y0 y1 y2 = some z) : Met l yX3_isWithin wsX3_isWithin ({ frames := 0, cells := 0, slots := 0, locals := 0 }) (fw_Pc (dC, dI) (fw_tys cI cJ) (w0 cI cJ   ) ([.int y0, .int y1, .int y2] : List Value) sz) (va_Qi (fun (r : Int32) (u : Unit) => pX3_isWithin y0 y1 y2 = some r ∧ narrow .boolean (.int r) = .int r) (fun u t => fw_B (dC, dI) (va_A (w0 cI cJ   ) sz) (w0 cI cJ   ) t) (va_A (w0 cI cJ   ) sz)) 0 0 (va_A (w0 cI cJ   ) sz) := by
  obtain ⟨z, hz⟩ := hd
  refine Met.ofW (cc := cX3_isWithin) (maxL := 3) (ret := (some .boolean)) (by decide) rfl ?_
  intro p e s m args below meth c s₁ B hml hv
  obtain ⟨rfl, hsz, hP, hK, hD0, hN⟩ := hv
  have hx := B.exec
  have hb := B.bytes
  have hr := B.returns
  have hts := atoms_spec (ws := wsX3_isWithin) B.pre
  have hown : s.vm.findClass RX3 = some m.cls := findClass_of_methodNamed B.named
  have hlocks := B.notSynchronized
  subst hsz
  have hD := hD0.self (sz := s.heap.size)
  generalize hAe : va_A (w0 cI cJ   ) s.heap.size = A at hD ⊢
  have hA : ∀ q : Nat, s.heap.size ≤ q → A q := fun q h => by rw [← hAe]; exact Or.inr h
  have hq := hz
  dsimp only [pX3_isWithin] at hq
  have hl := lv_entry (([.int y0, .int y1, .int y2] : List Value)) (n := 3) (Nat.le_of_ble_eq_true rfl)
  rw [lg_entry_eq]
  generalize (lg_sl (([.int y0, .int y1, .int y2] : List Value)) ++ List.replicate (3 - (lg_sl (([.int y0, .int y1, .int y2] : List Value))).length) Slot.unset).toArray = ls at hl ⊢
  have hl : lv_has ls 3 [(0, .int y0), (1, .int y1), (2, .int y2)] := hl
  obtain ⟨H, hHe⟩ : ∃ H : Heap, H = s.heap := ⟨_, rfl⟩
  obtain ⟨locs, hLe⟩ : ∃ L : List Loc, L = [] := ⟨_, rfl⟩
  have hP : va_P (dC, dI) vwCl (w0 cI cJ   ) H := by rw [hHe]; exact hP
  have hS : va_S A s.heap H locs := by rw [hHe, hLe]; exact va_S.rf
  show W p l e (headSpec wsX3_isWithin ({ frames := 0, cells := 0, slots := 0, locals := 0 })).room s m ([.int y0, .int y1, .int y2] : List Value).toArray below meth c s.heap [] 0 0 (MQ below (va_Qi (fun (r : Int32) (u : Unit) => pX3_isWithin y0 y1 y2 = some r ∧ narrow .boolean (.int r) = .int r) (fun u t => fw_B (dC, dI) A (w0 cI cJ   ) t) A) ([.int y0, .int y1, .int y2] : List Value).toArray s 0 0 A) (F0 m 0 ls [])
  rw [← hHe, ← hLe]
  refine lv_iload_n hx hb dX3_isWithin_0 rfl (lv_at hl 0 rfl) ?_
  refine lv_iload_n hx hb dX3_isWithin_1 rfl (lv_at hl 1 rfl) ?_
  refine lv_icmp_lt (tgt := 14) hx hb dX3_isWithin_2 (by decide) (fun c_1 => ?_) (fun c_1 => ?_)
  · have hq := fw_it c_1 hq
    refine lv_iconst (v := (0 : Int32)) hx hb dX3_isWithin_14 (by decide) ?_
    exact W.zret (v := (0 : Int32)) (ty := .boolean) hx hb hr rfl (fun t ht hW => ⟨⟨(0 : Int32), (), rfl, ⟨hz.trans hq.symm, rfl⟩, by rw [ht]; exact hP, hD⟩, hS.F ht⟩) hS.2.2 dX3_isWithin_15
  · have hq := fw_if c_1 hq
    refine lv_iload_n hx hb dX3_isWithin_5 rfl (lv_at hl 0 rfl) ?_
    refine lv_iload_n hx hb dX3_isWithin_6 rfl (lv_at hl 2 rfl) ?_
    refine lv_icmp_gt (tgt := 14) hx hb dX3_isWithin_7 (by decide) (fun c_2 => ?_) (fun c_2 => ?_)
    · have hq := fw_it c_2 hq
      refine lv_iconst (v := (0 : Int32)) hx hb dX3_isWithin_14 (by decide) ?_
      exact W.zret (v := (0 : Int32)) (ty := .boolean) hx hb hr rfl (fun t ht hW => ⟨⟨(0 : Int32), (), rfl, ⟨hz.trans hq.symm, rfl⟩, by rw [ht]; exact hP, hD⟩, hS.F ht⟩) hS.2.2 dX3_isWithin_15
    · have hq := fw_if c_2 hq
      refine lv_iconst (v := (1 : Int32)) hx hb dX3_isWithin_10 (by decide) ?_
      refine lv_goto (tgt := 15) hx hb dX3_isWithin_11 (by decide) ?_
      exact W.zret (v := (1 : Int32)) (ty := .boolean) hx hb hr rfl (fun t ht hW => ⟨⟨(1 : Int32), (), rfl, ⟨hz.trans hq.symm, rfl⟩, by rw [ht]; exact hP, hD⟩, hS.F ht⟩) hS.2.2 dX3_isWithin_15
set_option maxHeartbeats 4000000 in
set_option maxRecDepth 100000 in
theorem kX3_isIn (l : Launch) (dC : Nat → ClassId) (dI : Nat → Nat → Nat) (cI cJ : ClassId)  (sz : Nat)   (y0 : Int32) (y1 : Int32) (hd : ∃ z, pX3_isIn y0 y1 = some z) : Met l yX3_isIn wsX3_isIn ({ frames := 0, cells := 0, slots := 0, locals := 0 }) (fw_Pc (dC, dI) (fw_tys cI cJ) (w0 cI cJ   ) ([.int y0, .int y1] : List Value) sz) (va_Qi (fun (r : Int32) (u : Unit) => pX3_isIn y0 y1 = some r ∧ narrow .boolean (.int r) = .int r) (fun u t => fw_B (dC, dI) (va_A (w0 cI cJ   ) sz) (w0 cI cJ   ) t) (va_A (w0 cI cJ   ) sz)) 0 0 (va_A (w0 cI cJ   ) sz) := by
  obtain ⟨z, hz⟩ := hd
  refine Met.ofW (cc := cX3_isIn) (maxL := 2) (ret := (some .boolean)) (by decide) rfl ?_
  intro p e s m args below meth c s₁ B hml hv
  obtain ⟨rfl, hsz, hP, hK, hD0, hN⟩ := hv
  have hx := B.exec
  have hb := B.bytes
  have hr := B.returns
  have hts := atoms_spec (ws := wsX3_isIn) B.pre
  have hown : s.vm.findClass RX3 = some m.cls := findClass_of_methodNamed B.named
  have hlocks := B.notSynchronized
  subst hsz
  have hD := hD0.self (sz := s.heap.size)
  generalize hAe : va_A (w0 cI cJ   ) s.heap.size = A at hD ⊢
  have hA : ∀ q : Nat, s.heap.size ≤ q → A q := fun q h => by rw [← hAe]; exact Or.inr h
  have hq := hz
  dsimp only [pX3_isIn] at hq
  have hl := lv_entry (([.int y0, .int y1] : List Value)) (n := 2) (Nat.le_of_ble_eq_true rfl)
  rw [lg_entry_eq]
  generalize (lg_sl (([.int y0, .int y1] : List Value)) ++ List.replicate (2 - (lg_sl (([.int y0, .int y1] : List Value))).length) Slot.unset).toArray = ls at hl ⊢
  have hl : lv_has ls 2 [(0, .int y0), (1, .int y1)] := hl
  obtain ⟨H, hHe⟩ : ∃ H : Heap, H = s.heap := ⟨_, rfl⟩
  obtain ⟨locs, hLe⟩ : ∃ L : List Loc, L = [] := ⟨_, rfl⟩
  have hP : va_P (dC, dI) vwCl (w0 cI cJ   ) H := by rw [hHe]; exact hP
  have hS : va_S A s.heap H locs := by rw [hHe, hLe]; exact va_S.rf
  show W p l e (headSpec wsX3_isIn ({ frames := 0, cells := 0, slots := 0, locals := 0 })).room s m ([.int y0, .int y1] : List Value).toArray below meth c s.heap [] 0 0 (MQ below (va_Qi (fun (r : Int32) (u : Unit) => pX3_isIn y0 y1 = some r ∧ narrow .boolean (.int r) = .int r) (fun u t => fw_B (dC, dI) A (w0 cI cJ   ) t) A) ([.int y0, .int y1] : List Value).toArray s 0 0 A) (F0 m 0 ls [])
  rw [← hHe, ← hLe]
  refine lv_iload_n hx hb dX3_isIn_0 rfl (lv_at hl 0 rfl) ?_
  refine lv_iload_n hx hb dX3_isIn_1 rfl (lv_at hl 1 rfl) ?_
  refine lv_ishr hx hb dX3_isIn_2 ?_
  refine lv_iconst (v := (1 : Int32)) hx hb dX3_isIn_3 (by decide) ?_
  refine lv_iand hx hb dX3_isIn_4 ?_
  refine lv_iconst (v := (1 : Int32)) hx hb dX3_isIn_5 (by decide) ?_
  refine lv_icmp_ne (tgt := 13) hx hb dX3_isIn_6 (by decide) (fun c_1 => ?_) (fun c_1 => ?_)
  · have hq := fw_if c_1 hq
    refine lv_iconst (v := (0 : Int32)) hx hb dX3_isIn_13 (by decide) ?_
    exact W.zret (v := (0 : Int32)) (ty := .boolean) hx hb hr rfl (fun t ht hW => ⟨⟨(0 : Int32), (), rfl, ⟨hz.trans hq.symm, rfl⟩, by rw [ht]; exact hP, hD⟩, hS.F ht⟩) hS.2.2 dX3_isIn_14
  · have hq := fw_it c_1 hq
    refine lv_iconst (v := (1 : Int32)) hx hb dX3_isIn_9 (by decide) ?_
    refine lv_goto (tgt := 14) hx hb dX3_isIn_10 (by decide) ?_
    exact W.zret (v := (1 : Int32)) (ty := .boolean) hx hb hr rfl (fun t ht hW => ⟨⟨(1 : Int32), (), rfl, ⟨hz.trans hq.symm, rfl⟩, by rw [ht]; exact hP, hD⟩, hS.F ht⟩) hS.2.2 dX3_isIn_14
set_option maxHeartbeats 4000000 in
set_option maxRecDepth 100000 in
theorem kX3_isWay (l : Launch) (dC : Nat → ClassId) (dI : Nat → Nat → Nat) (cI cJ : ClassId)  (sz : Nat)   (y0 : Int32) (hd : ∃ z, pX3_isWay y0 = some z) : Met l yX3_isWay wsX3_isWay ({ frames := 0, cells := 0, slots := 0, locals := 0 }) (fw_Pc (dC, dI) (fw_tys cI cJ) (w0 cI cJ   ) ([.int y0] : List Value) sz) (va_Qi (fun (r : Int32) (u : Unit) => pX3_isWay y0 = some r ∧ narrow .boolean (.int r) = .int r) (fun u t => fw_B (dC, dI) (va_A (w0 cI cJ   ) sz) (w0 cI cJ   ) t) (va_A (w0 cI cJ   ) sz)) 0 0 (va_A (w0 cI cJ   ) sz) := by
  obtain ⟨z, hz⟩ := hd
  refine Met.ofW (cc := cX3_isWay) (maxL := 1) (ret := (some .boolean)) (by decide) rfl ?_
  intro p e s m args below meth c s₁ B hml hv
  obtain ⟨rfl, hsz, hP, hK, hD0, hN⟩ := hv
  have hx := B.exec
  have hb := B.bytes
  have hr := B.returns
  have hts := atoms_spec (ws := wsX3_isWay) B.pre
  have hown : s.vm.findClass RX3 = some m.cls := findClass_of_methodNamed B.named
  have hlocks := B.notSynchronized
  subst hsz
  have hD := hD0.self (sz := s.heap.size)
  generalize hAe : va_A (w0 cI cJ   ) s.heap.size = A at hD ⊢
  have hA : ∀ q : Nat, s.heap.size ≤ q → A q := fun q h => by rw [← hAe]; exact Or.inr h
  have hq := hz
  dsimp only [pX3_isWay] at hq
  have hl := lv_entry (([.int y0] : List Value)) (n := 1) (Nat.le_of_ble_eq_true rfl)
  rw [lg_entry_eq]
  generalize (lg_sl (([.int y0] : List Value)) ++ List.replicate (1 - (lg_sl (([.int y0] : List Value))).length) Slot.unset).toArray = ls at hl ⊢
  have hl : lv_has ls 1 [(0, .int y0)] := hl
  obtain ⟨H, hHe⟩ : ∃ H : Heap, H = s.heap := ⟨_, rfl⟩
  obtain ⟨locs, hLe⟩ : ∃ L : List Loc, L = [] := ⟨_, rfl⟩
  have hP : va_P (dC, dI) vwCl (w0 cI cJ   ) H := by rw [hHe]; exact hP
  have hS : va_S A s.heap H locs := by rw [hHe, hLe]; exact va_S.rf
  show W p l e (headSpec wsX3_isWay ({ frames := 0, cells := 0, slots := 0, locals := 0 })).room s m ([.int y0] : List Value).toArray below meth c s.heap [] 0 0 (MQ below (va_Qi (fun (r : Int32) (u : Unit) => pX3_isWay y0 = some r ∧ narrow .boolean (.int r) = .int r) (fun u t => fw_B (dC, dI) A (w0 cI cJ   ) t) A) ([.int y0] : List Value).toArray s 0 0 A) (F0 m 0 ls [])
  rw [← hHe, ← hLe]
  refine lv_iload_n hx hb dX3_isWay_0 rfl (lv_at hl 0 rfl) ?_
  refine lv_if_eq (tgt := 9) hx hb dX3_isWay_1 (by decide) (fun c_1 => ?_) (fun c_1 => ?_)
  · have hq := fw_it c_1 hq
    refine lv_iconst (v := (1 : Int32)) hx hb dX3_isWay_9 (by decide) ?_
    refine lv_goto (tgt := 14) hx hb dX3_isWay_10 (by decide) ?_
    exact W.zret (v := (1 : Int32)) (ty := .boolean) hx hb hr rfl (fun t ht hW => ⟨⟨(1 : Int32), (), rfl, ⟨hz.trans hq.symm, rfl⟩, by rw [ht]; exact hP, hD⟩, hS.F ht⟩) hS.2.2 dX3_isWay_14
  · have hq := fw_if c_1 hq
    refine lv_iload_n hx hb dX3_isWay_4 rfl (lv_at hl 0 rfl) ?_
    refine lv_iconst (v := (1 : Int32)) hx hb dX3_isWay_5 (by decide) ?_
    refine lv_icmp_ne (tgt := 13) hx hb dX3_isWay_6 (by decide) (fun c_2 => ?_) (fun c_2 => ?_)
    · have hq := fw_if c_2 hq
      refine lv_iconst (v := (0 : Int32)) hx hb dX3_isWay_13 (by decide) ?_
      exact W.zret (v := (0 : Int32)) (ty := .boolean) hx hb hr rfl (fun t ht hW => ⟨⟨(0 : Int32), (), rfl, ⟨hz.trans hq.symm, rfl⟩, by rw [ht]; exact hP, hD⟩, hS.F ht⟩) hS.2.2 dX3_isWay_14
    · have hq := fw_it c_2 hq
      refine lv_iconst (v := (1 : Int32)) hx hb dX3_isWay_9 (by decide) ?_
      refine lv_goto (tgt := 14) hx hb dX3_isWay_10 (by decide) ?_
      exact W.zret (v := (1 : Int32)) (ty := .boolean) hx hb hr rfl (fun t ht hW => ⟨⟨(1 : Int32), (), rfl, ⟨hz.trans hq.symm, rfl⟩, by rw [ht]; exact hP, hD⟩, hS.F ht⟩) hS.2.2 dX3_isWay_14
set_option maxHeartbeats 4000000 in
set_option maxRecDepth 100000 in
theorem kX3_commonDivisor (l : Launch) (dC : Nat → ClassId) (dI : Nat → Nat → Nat) (cI cJ : ClassId)  (sz : Nat)   (y0 : Int64) (y2 : Int64) (hd : ∃ z, pX3_commonDivisor y0 y2 = some z) : Met l yX3_commonDivisor wsX3_commonDivisor ({ frames := 0, cells := 0, slots := 0, locals := 0 }) (fw_Pc (dC, dI) (fw_tys cI cJ) (w0 cI cJ   ) ([.long y0, .long y2] : List Value) sz) (va_Ql (fun (r : Int64) (u : Unit) => pX3_commonDivisor y0 y2 = some r) (fun u t => fw_B (dC, dI) (va_A (w0 cI cJ   ) sz) (w0 cI cJ   ) t) (va_A (w0 cI cJ   ) sz)) 0 0 (va_A (w0 cI cJ   ) sz) := by
  obtain ⟨z, hz⟩ := hd
  refine Met.ofW (cc := cX3_commonDivisor) (maxL := 11) (ret := (some .long)) (by decide) rfl ?_
  intro p e s m args below meth c s₁ B hml hv
  obtain ⟨rfl, hsz, hP, hK, hD0, hN⟩ := hv
  have hx := B.exec
  have hb := B.bytes
  have hr := B.returns
  have hts := atoms_spec (ws := wsX3_commonDivisor) B.pre
  have hown : s.vm.findClass RX3 = some m.cls := findClass_of_methodNamed B.named
  have hlocks := B.notSynchronized
  subst hsz
  have hD := hD0.self (sz := s.heap.size)
  generalize hAe : va_A (w0 cI cJ   ) s.heap.size = A at hD ⊢
  have hA : ∀ q : Nat, s.heap.size ≤ q → A q := fun q h => by rw [← hAe]; exact Or.inr h
  have L9 : ∀  (e9 : Int64 × Int64 × Int32), (∀ (x4' : Int64) (x6' : Int64) (x8' : Int32) (H : Heap) (locs : List Loc) (ls : Array Slot), e9 = (x4', x6', x8') → va_P (dC, dI) vwCl (w0 cI cJ   ) H → va_D A (w0 cI cJ   ) → va_S A s.heap H locs → lv_has ls 11 [(4, .long x4'), (6, .long x6'), (8, .int x8')] → W p l e (headSpec wsX3_commonDivisor ({ frames := 0, cells := 0, slots := 0, locals := 0 })).room s m ([.long y0, .long y2] : List Value).toArray below meth c H locs 0 0 (MQ below (va_Ql (fun (r : Int64) (u : Unit) => pX3_commonDivisor y0 y2 = some r) (fun u t => fw_B (dC, dI) A (w0 cI cJ   ) t) A) ([.long y0, .long y2] : List Value).toArray s 0 0 A) (F0 m 44 ls [])) → ∀ (n9 : Nat) (x4 : Int64) (x6 : Int64) (x8 : Int32) (H : Heap) (locs : List Loc) (ls : Array Slot), fw_wh (pX3_commonDivisor_9 ) n9 (x4, x6, x8) = some e9 → va_P (dC, dI) vwCl (w0 cI cJ   ) H → va_D A (w0 cI cJ   ) → va_S A s.heap H locs → lv_has ls 11 [(4, .long x4), (6, .long x6), (8, .int x8)] → W p l e (headSpec wsX3_commonDivisor ({ frames := 0, cells := 0, slots := 0, locals := 0 })).room s m ([.long y0, .long y2] : List Value).toArray below meth c H locs 0 0 (MQ below (va_Ql (fun (r : Int64) (u : Unit) => pX3_commonDivisor y0 y2 = some r) (fun u t => fw_B (dC, dI) A (w0 cI cJ   ) t) A) ([.long y0, .long y2] : List Value).toArray s 0 0 A) (F0 m 9 ls []) := by
    intro  e9 hkk n9
    induction n9 with
    | zero => exact fun _ _ _ H locs ls hq => (fw_wh0 hq).elim
    | succ n9 ih =>
      intro x4 x6 x8 H locs ls hq hP hD hS hl
      obtain ⟨w9, hq, hwI, hwE⟩ := fw_wh1 hq
      dsimp only [pX3_commonDivisor_9] at hq
      refine lv_iload hx hb dX3_commonDivisor_9 (lv_at hl 2 rfl) ?_
      refine lv_bipush (v := (100 : Int32)) hx hb dX3_commonDivisor_11 (by decide) ?_
      refine lv_icmp_ge (tgt := 44) hx hb dX3_commonDivisor_13 (by decide) (fun c_1 => ?_) (fun c_1 => ?_)
      · have hq := fw_it c_1 hq
        exact hkk x4 x6 x8 H locs ls (hwE _ (Option.some.inj hq).symm) hP hD hS (lv_sub hl [0, 1, 2] rfl)
      · have hq := fw_if c_1 hq
        refine lv_lload hx hb dX3_commonDivisor_16 (lv_at hl 1 rfl) ?_
        refine lv_lconst (v := (0 : Int64)) hx hb dX3_commonDivisor_18 (by decide) ?_
        refine W.lcmp hx hb dX3_commonDivisor_19 ?_
        refine lv_if_eq (tgt := 44) hx hb dX3_commonDivisor_20 (by decide) (fun c_2 => ?_) (fun c_2 => ?_)
        · have hq := fw_it c_2 hq
          exact hkk x4 x6 x8 H locs ls (hwE _ (Option.some.inj hq).symm) hP hD hS (lv_sub hl [0, 1, 2] rfl)
        · have hq := fw_if c_2 hq
          refine lv_lload hx hb dX3_commonDivisor_23 (lv_at hl 0 rfl) ?_
          refine lv_lload hx hb dX3_commonDivisor_25 (lv_at hl 1 rfl) ?_
          obtain ⟨h_3, hq⟩ := fw_czl_s hq
          refine lv_lrem hx hb dX3_commonDivisor_27 h_3 ?_
          refine lv_lstore (lv' := [(9, .long (x4 - x4 / x6 * x6)), (4, .long x4), (6, .long x6), (8, .int x8)]) hx hb dX3_commonDivisor_28 hl (by decide) rfl (fun ls hl => ?_)
          refine lv_lload hx hb dX3_commonDivisor_30 (lv_at hl 2 rfl) ?_
          refine lv_lstore (lv' := [(4, .long x6), (9, .long (x4 - x4 / x6 * x6)), (6, .long x6), (8, .int x8)]) hx hb dX3_commonDivisor_32 hl (by decide) rfl (fun ls hl => ?_)
          refine lv_lload hx hb dX3_commonDivisor_34 (lv_at hl 1 rfl) ?_
          refine lv_lstore (lv' := [(6, .long (x4 - x4 / x6 * x6)), (4, .long x6), (9, .long (x4 - x4 / x6 * x6)), (8, .int x8)]) hx hb dX3_commonDivisor_36 hl (by decide) rfl (fun ls hl => ?_)
          refine lv_iinc (v := (x8 + (1 : Int32))) (lv' := [(8, .int (x8 + (1 : Int32))), (6, .long (x4 - x4 / x6 * x6)), (4, .long x6), (9, .long (x4 - x4 / x6 * x6))]) hx hb dX3_commonDivisor_38 hl (k := 3) rfl rfl (by decide) rfl (fun ls hl => ?_)
          refine lv_goto (tgt := 9) hx hb dX3_commonDivisor_41 (by decide) ?_
          exact ih x6 (x4 - x4 / x6 * x6) (x8 + (1 : Int32)) H locs ls (hwI _ (Option.some.inj hq).symm) hP hD hS (lv_sub hl [2, 1, 0] rfl)
  have hq := hz
  dsimp only [pX3_commonDivisor] at hq
  have hl := lv_entry (([.long y0, .long y2] : List Value)) (n := 11) (Nat.le_of_ble_eq_true rfl)
  rw [lg_entry_eq]
  generalize (lg_sl (([.long y0, .long y2] : List Value)) ++ List.replicate (11 - (lg_sl (([.long y0, .long y2] : List Value))).length) Slot.unset).toArray = ls at hl ⊢
  have hl : lv_has ls 11 [(0, .long y0), (2, .long y2)] := hl
  obtain ⟨H, hHe⟩ : ∃ H : Heap, H = s.heap := ⟨_, rfl⟩
  obtain ⟨locs, hLe⟩ : ∃ L : List Loc, L = [] := ⟨_, rfl⟩
  have hP : va_P (dC, dI) vwCl (w0 cI cJ   ) H := by rw [hHe]; exact hP
  have hS : va_S A s.heap H locs := by rw [hHe, hLe]; exact va_S.rf
  show W p l e (headSpec wsX3_commonDivisor ({ frames := 0, cells := 0, slots := 0, locals := 0 })).room s m ([.long y0, .long y2] : List Value).toArray below meth c s.heap [] 0 0 (MQ below (va_Ql (fun (r : Int64) (u : Unit) => pX3_commonDivisor y0 y2 = some r) (fun u t => fw_B (dC, dI) A (w0 cI cJ   ) t) A) ([.long y0, .long y2] : List Value).toArray s 0 0 A) (F0 m 0 ls [])
  rw [← hHe, ← hLe]
  refine lv_lload_n hx hb dX3_commonDivisor_0 rfl (lv_at hl 0 rfl) ?_
  refine lv_lstore (lv' := [(4, .long y0), (0, .long y0), (2, .long y2)]) hx hb dX3_commonDivisor_1 hl (by decide) rfl (fun ls hl => ?_)
  refine lv_lload_n hx hb dX3_commonDivisor_3 rfl (lv_at hl 2 rfl) ?_
  refine lv_lstore (lv' := [(6, .long y2), (4, .long y0), (0, .long y0), (2, .long y2)]) hx hb dX3_commonDivisor_4 hl (by decide) rfl (fun ls hl => ?_)
  refine lv_iconst (v := (0 : Int32)) hx hb dX3_commonDivisor_6 (by decide) ?_
  refine lv_istore (lv' := [(8, .int (0 : Int32)), (6, .long y2), (4, .long y0), (0, .long y0), (2, .long y2)]) hx hb dX3_commonDivisor_7 hl (by decide) rfl (fun ls hl => ?_)
  obtain ⟨e_7, hw, hq⟩ := fw_bb hq
  refine L9  e_7 (fun x4_4 x6_5 x8_6 H locs ls he hP hD hS hl => ?_) fw_N y0 y2 (0 : Int32) H locs ls hw hP hD hS (lv_sub hl [2, 1, 0] rfl)
  subst he
  try dsimp only at hq
  refine lv_lload hx hb dX3_commonDivisor_44 (lv_at hl 0 rfl) ?_
  exact W.lret (v := x4_4) hx hb hr (fun t ht hW => ⟨⟨x4_4, (), rfl, hz.trans hq.symm, by rw [ht]; exact hP, hD⟩, hS.F ht⟩) hS.2.2 dX3_commonDivisor_46
set_option maxHeartbeats 4000000 in
set_option maxRecDepth 100000 in
theorem kX3_inLowestTerms (l : Launch) (dC : Nat → ClassId) (dI : Nat → Nat → Nat) (cI cJ : ClassId)  (sz : Nat)   (y0 : Int64) (y2 : Int64) (y4 : Int32) (hd : ∃ z, pX3_inLowestTerms y0 y2 y4 = some z) : Met l yX3_inLowestTerms wsX3_inLowestTerms ({ frames := 1, cells := 0, slots := 0, locals := 30 }) (fw_Pc (dC, dI) (fw_tys cI cJ) (w0 cI cJ   ) ([.long y0, .long y2, .int y4] : List Value) sz) (va_Ql (fun (r : Int64) (u : Unit) => pX3_inLowestTerms y0 y2 y4 = some r) (fun u t => fw_B (dC, dI) (va_A (w0 cI cJ   ) sz) (w0 cI cJ   ) t) (va_A (w0 cI cJ   ) sz)) 0 0 (va_A (w0 cI cJ   ) sz) := by
  obtain ⟨z, hz⟩ := hd
  refine Met.ofW (cc := cX3_inLowestTerms) (maxL := 7) (ret := (some .long)) (by decide) rfl ?_
  intro p e s m args below meth c s₁ B hml hv
  obtain ⟨rfl, hsz, hP, hK, hD0, hN⟩ := hv
  have hx := B.exec
  have hb := B.bytes
  have hr := B.returns
  have hts := atoms_spec (ws := wsX3_inLowestTerms) B.pre
  have hown : s.vm.findClass RX3 = some m.cls := findClass_of_methodNamed B.named
  have hlocks := B.notSynchronized
  subst hsz
  have hD := hD0.self (sz := s.heap.size)
  generalize hAe : va_A (w0 cI cJ   ) s.heap.size = A at hD ⊢
  have hA : ∀ q : Nat, s.heap.size ≤ q → A q := fun q h => by rw [← hAe]; exact Or.inr h
  have hq := hz
  dsimp only [pX3_inLowestTerms] at hq
  have hl := lv_entry (([.long y0, .long y2, .int y4] : List Value)) (n := 7) (Nat.le_of_ble_eq_true rfl)
  rw [lg_entry_eq]
  generalize (lg_sl (([.long y0, .long y2, .int y4] : List Value)) ++ List.replicate (7 - (lg_sl (([.long y0, .long y2, .int y4] : List Value))).length) Slot.unset).toArray = ls at hl ⊢
  have hl : lv_has ls 7 [(0, .long y0), (2, .long y2), (4, .int y4)] := hl
  obtain ⟨H, hHe⟩ : ∃ H : Heap, H = s.heap := ⟨_, rfl⟩
  obtain ⟨locs, hLe⟩ : ∃ L : List Loc, L = [] := ⟨_, rfl⟩
  have hP : va_P (dC, dI) vwCl (w0 cI cJ   ) H := by rw [hHe]; exact hP
  have hS : va_S A s.heap H locs := by rw [hHe, hLe]; exact va_S.rf
  show W p l e (headSpec wsX3_inLowestTerms ({ frames := 1, cells := 0, slots := 0, locals := 30 })).room s m ([.long y0, .long y2, .int y4] : List Value).toArray below meth c s.heap [] 0 0 (MQ below (va_Ql (fun (r : Int64) (u : Unit) => pX3_inLowestTerms y0 y2 y4 = some r) (fun u t => fw_B (dC, dI) A (w0 cI cJ   ) t) A) ([.long y0, .long y2, .int y4] : List Value).toArray s 0 0 A) (F0 m 0 ls [])
  rw [← hHe, ← hLe]
  refine lv_lload_n hx hb dX3_inLowestTerms_0 rfl (lv_at hl 0 rfl) ?_
  refine lv_lload_n hx hb dX3_inLowestTerms_1 rfl (lv_at hl 1 rfl) ?_
  have hPc := hP.sub (ws' := (w0 cI cJ   )) [] rfl
  have hDc := hD.sub (ws' := (w0 cI cJ   )) [] (by decide) rfl
  refine fw_cl (wr := []) (w2 := fun u => (w0 cI cJ   )) [] [] [] (va_runS (As := [.long y0, .long y2]) (rest := []) ⟨hx, hb, hml, hown, hts⟩ (kX3_commonDivisor l dC dI cI cJ  H.size   y0 y2 (fw_be hq)) (va_cwS 2 hts gX3_inLowestTerms_X3_commonDivisor rfl rfl rfl (by decide +kernel) ⟨Nat.le_of_ble_eq_true rfl, Nat.le_of_ble_eq_true rfl⟩) ⟨fw_blind, fun U hU hW => fw_pre hPc hK hDc hN hU hW⟩ rfl rfl hl.1 rfl (lv_room (Nat.le_of_ble_eq_true rfl)) dX3_inLowestTerms_2 ⟨Nat.zero_le _, Nat.zero_le _⟩) hP hD hS hA rfl rfl (by decide) (by decide) (by decide) (fun _ => rfl) (fun r_1 u H locs hw hP hD hS => ?_)
  have hq := fw_bs hw hq
  try dsimp only at hq
  refine lv_lstore (lv' := [(5, .long r_1), (0, .long y0), (2, .long y2), (4, .int y4)]) hx hb dX3_inLowestTerms_5 hl (by decide) rfl (fun ls hl => ?_)
  refine lv_lload_n hx hb dX3_inLowestTerms_7 rfl (lv_at hl 2 rfl) ?_
  refine lv_lconst (v := (0 : Int64)) hx hb dX3_inLowestTerms_8 (by decide) ?_
  refine W.lcmp hx hb dX3_inLowestTerms_9 ?_
  refine lv_if_eq (tgt := 20) hx hb dX3_inLowestTerms_10 (by decide) (fun c_3 => ?_) (fun c_3 => ?_)
  · have hq := fw_it c_3 hq
    refine lv_ldc2 hx hb hown (hts (.constantLong RX3 198 (-1)) (by decide +kernel)) dX3_inLowestTerms_20 ?_
    exact W.lret (v := (-1 : Int64)) hx hb hr (fun t ht hW => ⟨⟨(-1 : Int64), (), rfl, hz.trans hq.symm, by rw [ht]; exact hP, hD⟩, hS.F ht⟩) hS.2.2 dX3_inLowestTerms_23
  · have hq := fw_if c_3 hq
    refine lv_lload hx hb dX3_inLowestTerms_13 (lv_at hl 0 rfl) ?_
    refine lv_lconst (v := (0 : Int64)) hx hb dX3_inLowestTerms_15 (by decide) ?_
    refine W.lcmp hx hb dX3_inLowestTerms_16 ?_
    refine lv_if_ne (tgt := 24) hx hb dX3_inLowestTerms_17 (by decide) (fun c_4 => ?_) (fun c_4 => ?_)
    · have hq := fw_if c_4 hq
      refine lv_iload hx hb dX3_inLowestTerms_24 (lv_at hl 3 rfl) ?_
      refine lv_if_ne (tgt := 33) hx hb dX3_inLowestTerms_26 (by decide) (fun c_5 => ?_) (fun c_5 => ?_)
      · have hq := fw_if c_5 hq
        refine lv_lload_n hx hb dX3_inLowestTerms_33 rfl (lv_at hl 2 rfl) ?_
        refine lv_lload hx hb dX3_inLowestTerms_34 (lv_at hl 0 rfl) ?_
        obtain ⟨h_6, hq⟩ := fw_czl_s hq
        refine lv_ldiv hx hb dX3_inLowestTerms_36 h_6 ?_
        exact W.lret (v := (y2 / r_1)) hx hb hr (fun t ht hW => ⟨⟨(y2 / r_1), (), rfl, hz.trans hq.symm, by rw [ht]; exact hP, hD⟩, hS.F ht⟩) hS.2.2 dX3_inLowestTerms_37
      · have hq := fw_it c_5 hq
        refine lv_lload_n hx hb dX3_inLowestTerms_29 rfl (lv_at hl 1 rfl) ?_
        refine lv_goto (tgt := 34) hx hb dX3_inLowestTerms_30 (by decide) ?_
        refine lv_lload hx hb dX3_inLowestTerms_34 (lv_at hl 0 rfl) ?_
        obtain ⟨h_7, hq⟩ := fw_czl_s hq
        refine lv_ldiv hx hb dX3_inLowestTerms_36 h_7 ?_
        exact W.lret (v := (y0 / r_1)) hx hb hr (fun t ht hW => ⟨⟨(y0 / r_1), (), rfl, hz.trans hq.symm, by rw [ht]; exact hP, hD⟩, hS.F ht⟩) hS.2.2 dX3_inLowestTerms_37
    · have hq := fw_it c_4 hq
      refine lv_ldc2 hx hb hown (hts (.constantLong RX3 198 (-1)) (by decide +kernel)) dX3_inLowestTerms_20 ?_
      exact W.lret (v := (-1 : Int64)) hx hb hr (fun t ht hW => ⟨⟨(-1 : Int64), (), rfl, hz.trans hq.symm, by rw [ht]; exact hP, hD⟩, hS.F ht⟩) hS.2.2 dX3_inLowestTerms_23
set_option maxHeartbeats 4000000 in
set_option maxRecDepth 100000 in
theorem kX4_in (l : Launch) (dC : Nat → ClassId) (dI : Nat → Nat → Nat) (cI cJ : ClassId)  (sz : Nat)   (y0 : Int32) (y1 : Int32) (y2 : Int32) (hd : ∃ z, pX4_in y0 y1 y2 = some z) : Met l yX4_in wsX4_in ({ frames := 0, cells := 0, slots := 0, locals := 0 }) (fw_Pc (dC, dI) (fw_tys cI cJ) (w0 cI cJ   ) ([.int y0, .int y1, .int y2] : List Value) sz) (va_Qi (fun (r : Int32) (u : Unit) => pX4_in y0 y1 y2 = some r ∧ narrow .boolean (.int r) = .int r) (fun u t => fw_B (dC, dI) (va_A (w0 cI cJ   ) sz) (w0 cI cJ   ) t) (va_A (w0 cI cJ   ) sz)) 0 0 (va_A (w0 cI cJ   ) sz) := by
  obtain ⟨z, hz⟩ := hd
  refine Met.ofW (cc := cX4_in) (maxL := 3) (ret := (some .boolean)) (by decide) rfl ?_
  intro p e s m args below meth c s₁ B hml hv
  obtain ⟨rfl, hsz, hP, hK, hD0, hN⟩ := hv
  have hx := B.exec
  have hb := B.bytes
  have hr := B.returns
  have hts := atoms_spec (ws := wsX4_in) B.pre
  have hown : s.vm.findClass RX4 = some m.cls := findClass_of_methodNamed B.named
  have hlocks := B.notSynchronized
  subst hsz
  have hD := hD0.self (sz := s.heap.size)
  generalize hAe : va_A (w0 cI cJ   ) s.heap.size = A at hD ⊢
  have hA : ∀ q : Nat, s.heap.size ≤ q → A q := fun q h => by rw [← hAe]; exact Or.inr h
  have hq := hz
  dsimp only [pX4_in] at hq
  have hl := lv_entry (([.int y0, .int y1, .int y2] : List Value)) (n := 3) (Nat.le_of_ble_eq_true rfl)
  rw [lg_entry_eq]
  generalize (lg_sl (([.int y0, .int y1, .int y2] : List Value)) ++ List.replicate (3 - (lg_sl (([.int y0, .int y1, .int y2] : List Value))).length) Slot.unset).toArray = ls at hl ⊢
  have hl : lv_has ls 3 [(0, .int y0), (1, .int y1), (2, .int y2)] := hl
  obtain ⟨H, hHe⟩ : ∃ H : Heap, H = s.heap := ⟨_, rfl⟩
  obtain ⟨locs, hLe⟩ : ∃ L : List Loc, L = [] := ⟨_, rfl⟩
  have hP : va_P (dC, dI) vwCl (w0 cI cJ   ) H := by rw [hHe]; exact hP
  have hS : va_S A s.heap H locs := by rw [hHe, hLe]; exact va_S.rf
  show W p l e (headSpec wsX4_in ({ frames := 0, cells := 0, slots := 0, locals := 0 })).room s m ([.int y0, .int y1, .int y2] : List Value).toArray below meth c s.heap [] 0 0 (MQ below (va_Qi (fun (r : Int32) (u : Unit) => pX4_in y0 y1 y2 = some r ∧ narrow .boolean (.int r) = .int r) (fun u t => fw_B (dC, dI) A (w0 cI cJ   ) t) A) ([.int y0, .int y1, .int y2] : List Value).toArray s 0 0 A) (F0 m 0 ls [])
  rw [← hHe, ← hLe]
  refine lv_iload_n hx hb dX4_in_0 rfl (lv_at hl 0 rfl) ?_
  refine lv_iload_n hx hb dX4_in_1 rfl (lv_at hl 1 rfl) ?_
  refine lv_icmp_lt (tgt := 14) hx hb dX4_in_2 (by decide) (fun c_1 => ?_) (fun c_1 => ?_)
  · have hq := fw_it c_1 hq
    refine lv_iconst (v := (0 : Int32)) hx hb dX4_in_14 (by decide) ?_
    exact W.zret (v := (0 : Int32)) (ty := .boolean) hx hb hr rfl (fun t ht hW => ⟨⟨(0 : Int32), (), rfl, ⟨hz.trans hq.symm, rfl⟩, by rw [ht]; exact hP, hD⟩, hS.F ht⟩) hS.2.2 dX4_in_15
  · have hq := fw_if c_1 hq
    refine lv_iload_n hx hb dX4_in_5 rfl (lv_at hl 0 rfl) ?_
    refine lv_iload_n hx hb dX4_in_6 rfl (lv_at hl 2 rfl) ?_
    refine lv_icmp_gt (tgt := 14) hx hb dX4_in_7 (by decide) (fun c_2 => ?_) (fun c_2 => ?_)
    · have hq := fw_it c_2 hq
      refine lv_iconst (v := (0 : Int32)) hx hb dX4_in_14 (by decide) ?_
      exact W.zret (v := (0 : Int32)) (ty := .boolean) hx hb hr rfl (fun t ht hW => ⟨⟨(0 : Int32), (), rfl, ⟨hz.trans hq.symm, rfl⟩, by rw [ht]; exact hP, hD⟩, hS.F ht⟩) hS.2.2 dX4_in_15
    · have hq := fw_if c_2 hq
      refine lv_iconst (v := (1 : Int32)) hx hb dX4_in_10 (by decide) ?_
      refine lv_goto (tgt := 15) hx hb dX4_in_11 (by decide) ?_
      exact W.zret (v := (1 : Int32)) (ty := .boolean) hx hb hr rfl (fun t ht hW => ⟨⟨(1 : Int32), (), rfl, ⟨hz.trans hq.symm, rfl⟩, by rw [ht]; exact hP, hD⟩, hS.F ht⟩) hS.2.2 dX4_in_15
set_option maxHeartbeats 4000000 in
set_option maxRecDepth 100000 in
theorem kX4_many (l : Launch) (dC : Nat → ClassId) (dI : Nat → Nat → Nat) (cI cJ : ClassId)  (sz : Nat)   (y0 : Int32) (hd : ∃ z, pX4_many y0 = some z) : Met l yX4_many wsX4_many ({ frames := 0, cells := 0, slots := 0, locals := 0 }) (fw_Pc (dC, dI) (fw_tys cI cJ) (w0 cI cJ   ) ([.int y0] : List Value) sz) (va_Qi (fun (r : Int32) (u : Unit) => pX4_many y0 = some r) (fun u t => fw_B (dC, dI) (va_A (w0 cI cJ   ) sz) (w0 cI cJ   ) t) (va_A (w0 cI cJ   ) sz)) 0 0 (va_A (w0 cI cJ   ) sz) := by
  obtain ⟨z, hz⟩ := hd
  refine Met.ofW (cc := cX4_many) (maxL := 3) (ret := (some .int)) (by decide) rfl ?_
  intro p e s m args below meth c s₁ B hml hv
  obtain ⟨rfl, hsz, hP, hK, hD0, hN⟩ := hv
  have hx := B.exec
  have hb := B.bytes
  have hr := B.returns
  have hts := atoms_spec (ws := wsX4_many) B.pre
  have hown : s.vm.findClass RX4 = some m.cls := findClass_of_methodNamed B.named
  have hlocks := B.notSynchronized
  subst hsz
  have hD := hD0.self (sz := s.heap.size)
  generalize hAe : va_A (w0 cI cJ   ) s.heap.size = A at hD ⊢
  have hA : ∀ q : Nat, s.heap.size ≤ q → A q := fun q h => by rw [← hAe]; exact Or.inr h
  have L4 : ∀ (x0 : Int32) (e9 : Int32 × Int32), (∀ (x1' : Int32) (x2' : Int32) (H : Heap) (locs : List Loc) (ls : Array Slot), e9 = (x1', x2') → va_P (dC, dI) vwCl (w0 cI cJ   ) H → va_D A (w0 cI cJ   ) → va_S A s.heap H locs → lv_has ls 3 [(0, .int x0), (1, .int x1'), (2, .int x2')] → W p l e (headSpec wsX4_many ({ frames := 0, cells := 0, slots := 0, locals := 0 })).room s m ([.int y0] : List Value).toArray below meth c H locs 0 0 (MQ below (va_Qi (fun (r : Int32) (u : Unit) => pX4_many y0 = some r) (fun u t => fw_B (dC, dI) A (w0 cI cJ   ) t) A) ([.int y0] : List Value).toArray s 0 0 A) (F0 m 24 ls [])) → ∀ (n9 : Nat) (x1 : Int32) (x2 : Int32) (H : Heap) (locs : List Loc) (ls : Array Slot), fw_wh (pX4_many_4 x0) n9 (x1, x2) = some e9 → va_P (dC, dI) vwCl (w0 cI cJ   ) H → va_D A (w0 cI cJ   ) → va_S A s.heap H locs → lv_has ls 3 [(0, .int x0), (1, .int x1), (2, .int x2)] → W p l e (headSpec wsX4_many ({ frames := 0, cells := 0, slots := 0, locals := 0 })).room s m ([.int y0] : List Value).toArray below meth c H locs 0 0 (MQ below (va_Qi (fun (r : Int32) (u : Unit) => pX4_many y0 = some r) (fun u t => fw_B (dC, dI) A (w0 cI cJ   ) t) A) ([.int y0] : List Value).toArray s 0 0 A) (F0 m 4 ls []) := by
    intro x0 e9 hkk n9
    induction n9 with
    | zero => exact fun _ _ H locs ls hq => (fw_wh0 hq).elim
    | succ n9 ih =>
      intro x1 x2 H locs ls hq hP hD hS hl
      obtain ⟨w9, hq, hwI, hwE⟩ := fw_wh1 hq
      dsimp only [pX4_many_4] at hq
      refine lv_iload_n hx hb dX4_many_4 rfl (lv_at hl 2 rfl) ?_
      refine lv_bipush (v := (12 : Int32)) hx hb dX4_many_5 (by decide) ?_
      refine lv_icmp_ge (tgt := 24) hx hb dX4_many_7 (by decide) (fun c_1 => ?_) (fun c_1 => ?_)
      · have hq := fw_it c_1 hq
        exact hkk x1 x2 H locs ls (hwE _ (Option.some.inj hq).symm) hP hD hS (lv_sub hl [0, 1, 2] rfl)
      · have hq := fw_if c_1 hq
        refine lv_iload_n hx hb dX4_many_10 rfl (lv_at hl 1 rfl) ?_
        refine lv_iload_n hx hb dX4_many_11 rfl (lv_at hl 0 rfl) ?_
        refine lv_iload_n hx hb dX4_many_12 rfl (lv_at hl 2 rfl) ?_
        refine lv_ishr hx hb dX4_many_13 ?_
        refine lv_iconst (v := (1 : Int32)) hx hb dX4_many_14 (by decide) ?_
        refine lv_iand hx hb dX4_many_15 ?_
        refine lv_iadd hx hb dX4_many_16 ?_
        refine lv_istore_n (lv' := [(1, .int (x1 + ((x0 >>> (x2 &&& 31)) &&& (1 : Int32)))), (0, .int x0), (2, .int x2)]) hx hb dX4_many_17 rfl hl (by decide) rfl (fun ls hl => ?_)
        refine lv_iinc (v := (x2 + (1 : Int32))) (lv' := [(2, .int (x2 + (1 : Int32))), (1, .int (x1 + ((x0 >>> (x2 &&& 31)) &&& (1 : Int32)))), (0, .int x0)]) hx hb dX4_many_18 hl (k := 2) rfl rfl (by decide) rfl (fun ls hl => ?_)
        refine lv_goto (tgt := 4) hx hb dX4_many_21 (by decide) ?_
        exact ih (x1 + ((x0 >>> (x2 &&& 31)) &&& (1 : Int32))) (x2 + (1 : Int32)) H locs ls (hwI _ (Option.some.inj hq).symm) hP hD hS (lv_sub hl [2, 1, 0] rfl)
  have hq := hz
  dsimp only [pX4_many] at hq
  have hl := lv_entry (([.int y0] : List Value)) (n := 3) (Nat.le_of_ble_eq_true rfl)
  rw [lg_entry_eq]
  generalize (lg_sl (([.int y0] : List Value)) ++ List.replicate (3 - (lg_sl (([.int y0] : List Value))).length) Slot.unset).toArray = ls at hl ⊢
  have hl : lv_has ls 3 [(0, .int y0)] := hl
  obtain ⟨H, hHe⟩ : ∃ H : Heap, H = s.heap := ⟨_, rfl⟩
  obtain ⟨locs, hLe⟩ : ∃ L : List Loc, L = [] := ⟨_, rfl⟩
  have hP : va_P (dC, dI) vwCl (w0 cI cJ   ) H := by rw [hHe]; exact hP
  have hS : va_S A s.heap H locs := by rw [hHe, hLe]; exact va_S.rf
  show W p l e (headSpec wsX4_many ({ frames := 0, cells := 0, slots := 0, locals := 0 })).room s m ([.int y0] : List Value).toArray below meth c s.heap [] 0 0 (MQ below (va_Qi (fun (r : Int32) (u : Unit) => pX4_many y0 = some r) (fun u t => fw_B (dC, dI) A (w0 cI cJ   ) t) A) ([.int y0] : List Value).toArray s 0 0 A) (F0 m 0 ls [])
  rw [← hHe, ← hLe]
  refine lv_iconst (v := (0 : Int32)) hx hb dX4_many_0 (by decide) ?_
  refine lv_istore_n (lv' := [(1, .int (0 : Int32)), (0, .int y0)]) hx hb dX4_many_1 rfl hl (by decide) rfl (fun ls hl => ?_)
  refine lv_iconst (v := (0 : Int32)) hx hb dX4_many_2 (by decide) ?_
  refine lv_istore_n (lv' := [(2, .int (0 : Int32)), (1, .int (0 : Int32)), (0, .int y0)]) hx hb dX4_many_3 rfl hl (by decide) rfl (fun ls hl => ?_)
  obtain ⟨e_4, hw, hq⟩ := fw_bb hq
  refine L4 y0 e_4 (fun x1_2 x2_3 H locs ls he hP hD hS hl => ?_) fw_N (0 : Int32) (0 : Int32) H locs ls hw hP hD hS (lv_sub hl [2, 1, 0] rfl)
  subst he
  try dsimp only at hq
  refine lv_iload_n hx hb dX4_many_24 rfl (lv_at hl 1 rfl) ?_
  exact W.iret (v := x1_2) hx hb hr (fun t ht hW => ⟨⟨x1_2, (), rfl, hz.trans hq.symm, by rw [ht]; exact hP, hD⟩, hS.F ht⟩) hS.2.2 dX4_many_25
set_option maxHeartbeats 4000000 in
set_option maxRecDepth 100000 in
theorem kX4_common (l : Launch) (dC : Nat → ClassId) (dI : Nat → Nat → Nat) (cI cJ : ClassId)  (sz : Nat)   (y0 : Int64) (y2 : Int64) (hd : ∃ z, pX4_common y0 y2 = some z) : Met l yX4_common wsX4_common ({ frames := 0, cells := 0, slots := 0, locals := 0 }) (fw_Pc (dC, dI) (fw_tys cI cJ) (w0 cI cJ   ) ([.long y0, .long y2] : List Value) sz) (va_Ql (fun (r : Int64) (u : Unit) => pX4_common y0 y2 = some r) (fun u t => fw_B (dC, dI) (va_A (w0 cI cJ   ) sz) (w0 cI cJ   ) t) (va_A (w0 cI cJ   ) sz)) 0 0 (va_A (w0 cI cJ   ) sz) := by
  obtain ⟨z, hz⟩ := hd
  refine Met.ofW (cc := cX4_common) (maxL := 10) (ret := (some .long)) (by decide) rfl ?_
  intro p e s m args below meth c s₁ B hml hv
  obtain ⟨rfl, hsz, hP, hK, hD0, hN⟩ := hv
  have hx := B.exec
  have hb := B.bytes
  have hr := B.returns
  have hts := atoms_spec (ws := wsX4_common) B.pre
  have hown : s.vm.findClass RX4 = some m.cls := findClass_of_methodNamed B.named
  have hlocks := B.notSynchronized
  subst hsz
  have hD := hD0.self (sz := s.heap.size)
  generalize hAe : va_A (w0 cI cJ   ) s.heap.size = A at hD ⊢
  have hA : ∀ q : Nat, s.heap.size ≤ q → A q := fun q h => by rw [← hAe]; exact Or.inr h
  have L6 : ∀  (e9 : Int64 × Int64), (∀ (x4' : Int64) (x6' : Int64) (H : Heap) (locs : List Loc) (ls : Array Slot), e9 = (x4', x6') → va_P (dC, dI) vwCl (w0 cI cJ   ) H → va_D A (w0 cI cJ   ) → va_S A s.heap H locs → lv_has ls 10 [(4, .long x4'), (6, .long x6')] → W p l e (headSpec wsX4_common ({ frames := 0, cells := 0, slots := 0, locals := 0 })).room s m ([.long y0, .long y2] : List Value).toArray below meth c H locs 0 0 (MQ below (va_Ql (fun (r : Int64) (u : Unit) => pX4_common y0 y2 = some r) (fun u t => fw_B (dC, dI) A (w0 cI cJ   ) t) A) ([.long y0, .long y2] : List Value).toArray s 0 0 A) (F0 m 31 ls [])) → ∀ (n9 : Nat) (x4 : Int64) (x6 : Int64) (H : Heap) (locs : List Loc) (ls : Array Slot), fw_wh (pX4_common_6 ) n9 (x4, x6) = some e9 → va_P (dC, dI) vwCl (w0 cI cJ   ) H → va_D A (w0 cI cJ   ) → va_S A s.heap H locs → lv_has ls 10 [(4, .long x4), (6, .long x6)] → W p l e (headSpec wsX4_common ({ frames := 0, cells := 0, slots := 0, locals := 0 })).room s m ([.long y0, .long y2] : List Value).toArray below meth c H locs 0 0 (MQ below (va_Ql (fun (r : Int64) (u : Unit) => pX4_common y0 y2 = some r) (fun u t => fw_B (dC, dI) A (w0 cI cJ   ) t) A) ([.long y0, .long y2] : List Value).toArray s 0 0 A) (F0 m 6 ls []) := by
    intro  e9 hkk n9
    induction n9 with
    | zero => exact fun _ _ H locs ls hq => (fw_wh0 hq).elim
    | succ n9 ih =>
      intro x4 x6 H locs ls hq hP hD hS hl
      obtain ⟨w9, hq, hwI, hwE⟩ := fw_wh1 hq
      dsimp only [pX4_common_6] at hq
      refine lv_lload hx hb dX4_common_6 (lv_at hl 1 rfl) ?_
      refine lv_lconst (v := (0 : Int64)) hx hb dX4_common_8 (by decide) ?_
      refine W.lcmp hx hb dX4_common_9 ?_
      refine lv_if_eq (tgt := 31) hx hb dX4_common_10 (by decide) (fun c_1 => ?_) (fun c_1 => ?_)
      · have hq := fw_it c_1 hq
        exact hkk x4 x6 H locs ls (hwE _ (Option.some.inj hq).symm) hP hD hS (lv_sub hl [0, 1] rfl)
      · have hq := fw_if c_1 hq
        refine lv_lload hx hb dX4_common_13 (lv_at hl 0 rfl) ?_
        refine lv_lload hx hb dX4_common_15 (lv_at hl 1 rfl) ?_
        obtain ⟨h_2, hq⟩ := fw_czl_s hq
        refine lv_lrem hx hb dX4_common_17 h_2 ?_
        refine lv_lstore (lv' := [(8, .long (x4 - x4 / x6 * x6)), (4, .long x4), (6, .long x6)]) hx hb dX4_common_18 hl (by decide) rfl (fun ls hl => ?_)
        refine lv_lload hx hb dX4_common_20 (lv_at hl 2 rfl) ?_
        refine lv_lstore (lv' := [(4, .long x6), (8, .long (x4 - x4 / x6 * x6)), (6, .long x6)]) hx hb dX4_common_22 hl (by decide) rfl (fun ls hl => ?_)
        refine lv_lload hx hb dX4_common_24 (lv_at hl 1 rfl) ?_
        refine lv_lstore (lv' := [(6, .long (x4 - x4 / x6 * x6)), (4, .long x6), (8, .long (x4 - x4 / x6 * x6))]) hx hb dX4_common_26 hl (by decide) rfl (fun ls hl => ?_)
        refine lv_goto (tgt := 6) hx hb dX4_common_28 (by decide) ?_
        exact ih x6 (x4 - x4 / x6 * x6) H locs ls (hwI _ (Option.some.inj hq).symm) hP hD hS (lv_sub hl [1, 0] rfl)
  have hq := hz
  dsimp only [pX4_common] at hq
  have hl := lv_entry (([.long y0, .long y2] : List Value)) (n := 10) (Nat.le_of_ble_eq_true rfl)
  rw [lg_entry_eq]
  generalize (lg_sl (([.long y0, .long y2] : List Value)) ++ List.replicate (10 - (lg_sl (([.long y0, .long y2] : List Value))).length) Slot.unset).toArray = ls at hl ⊢
  have hl : lv_has ls 10 [(0, .long y0), (2, .long y2)] := hl
  obtain ⟨H, hHe⟩ : ∃ H : Heap, H = s.heap := ⟨_, rfl⟩
  obtain ⟨locs, hLe⟩ : ∃ L : List Loc, L = [] := ⟨_, rfl⟩
  have hP : va_P (dC, dI) vwCl (w0 cI cJ   ) H := by rw [hHe]; exact hP
  have hS : va_S A s.heap H locs := by rw [hHe, hLe]; exact va_S.rf
  show W p l e (headSpec wsX4_common ({ frames := 0, cells := 0, slots := 0, locals := 0 })).room s m ([.long y0, .long y2] : List Value).toArray below meth c s.heap [] 0 0 (MQ below (va_Ql (fun (r : Int64) (u : Unit) => pX4_common y0 y2 = some r) (fun u t => fw_B (dC, dI) A (w0 cI cJ   ) t) A) ([.long y0, .long y2] : List Value).toArray s 0 0 A) (F0 m 0 ls [])
  rw [← hHe, ← hLe]
  refine lv_lload_n hx hb dX4_common_0 rfl (lv_at hl 0 rfl) ?_
  refine lv_lstore (lv' := [(4, .long y0), (0, .long y0), (2, .long y2)]) hx hb dX4_common_1 hl (by decide) rfl (fun ls hl => ?_)
  refine lv_lload_n hx hb dX4_common_3 rfl (lv_at hl 2 rfl) ?_
  refine lv_lstore (lv' := [(6, .long y2), (4, .long y0), (0, .long y0), (2, .long y2)]) hx hb dX4_common_4 hl (by decide) rfl (fun ls hl => ?_)
  obtain ⟨e_5, hw, hq⟩ := fw_bb hq
  refine L6  e_5 (fun x4_3 x6_4 H locs ls he hP hD hS hl => ?_) fw_N y0 y2 H locs ls hw hP hD hS (lv_sub hl [1, 0] rfl)
  subst he
  try dsimp only at hq
  refine lv_lload hx hb dX4_common_31 (lv_at hl 0 rfl) ?_
  exact W.lret (v := x4_3) hx hb hr (fun t ht hW => ⟨⟨x4_3, (), rfl, hz.trans hq.symm, by rw [ht]; exact hP, hD⟩, hS.F ht⟩) hS.2.2 dX4_common_33
