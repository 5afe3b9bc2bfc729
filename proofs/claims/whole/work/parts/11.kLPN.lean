/-! ===== contracts, by own program ===== -/
set_option maxHeartbeats 4000000 in
set_option maxRecDepth 100000 in
theorem kX0_clear (l : Launch) (dC : Nat → ClassId) (dI : Nat → Nat → Nat) (cI cJ : ClassId) (a0 a1 : Nat) (sz : Nat)  (la0 : Nat → Int32) (zs0 : Int32) (y1 : Int32) (hd : ∃ z, pX0_clear la0 y1 = some z) : Met l yX0_clear wsX0_clear ({ frames := 1, cells := 0, slots := 0, locals := 23 }) (fw_Pc (dC, dI) (fw_tys cI cJ) (wL cI cJ a0 a1  la0 zs0) ([.ref a0, .int y1] : List Value) sz) (va_Qv (fun (u : (Nat → Int32) × Int32) => pX0_clear la0 y1 = some u) (fun u t => fw_B (dC, dI) (va_A (wL cI cJ a0 a1  la0 zs0) sz) (wL cI cJ a0 a1  u.1 u.2) t) (va_A (wL cI cJ a0 a1  la0 zs0) sz)) 0 0 (va_A (wL cI cJ a0 a1  la0 zs0) sz) := by
  obtain ⟨z, hz⟩ := hd
  refine Met.ofW (cc := cX0_clear) (maxL := 3) (ret := none) (by decide) rfl ?_
  intro p e s m args below meth c s₁ B hml hv
  obtain ⟨rfl, hsz, hP, hK, hD0, hN⟩ := hv
  have hx := B.exec
  have hb := B.bytes
  have hr := B.returns
  have hts := atoms_spec (ws := wsX0_clear) B.pre
  have hown : s.vm.findClass RX0 = some m.cls := findClass_of_methodNamed B.named
  have hlocks := B.notSynchronized
  subst hsz
  have hD := hD0.self (sz := s.heap.size)
  generalize hAe : va_A (wL cI cJ a0 a1  la0 zs0) s.heap.size = A at hD ⊢
  have hA : ∀ q : Nat, s.heap.size ≤ q → A q := fun q h => by rw [← hAe]; exact Or.inr h
  have hinX0 : ∀ w ∈ u_ws RX0 TX0 2, w ∈ wsX0_clear := by decide +kernel
  have hf9 := hts (.fieldLink RX0 9 "FewLines$Lengths" "lengths" "[I") (by decide +kernel)
  have hf15 := hts (.fieldLink RX0 15 "FewLines$Lengths" "size" "I") (by decide +kernel)
  have L21 : ∀ (zs : Int32) (e9 : Int32 × (Nat → Int32)), (∀ (x2' : Int32) (la' : Nat → Int32) (H : Heap) (locs : List Loc) (ls : Array Slot), e9 = (x2', la') → va_P (dC, dI) vwCl (wL cI cJ a0 a1  la' zs) H → va_D A (wL cI cJ a0 a1  la' zs) → va_S A s.heap H locs → lv_has ls 3 [(0, .ref a0), (2, .int x2')] → W p l e (headSpec wsX0_clear ({ frames := 1, cells := 0, slots := 0, locals := 23 })).room s m ([.ref a0, .int y1] : List Value).toArray below meth c H locs 0 0 (MQ below (va_Qv (fun (u : (Nat → Int32) × Int32) => pX0_clear la0 y1 = some u) (fun u t => fw_B (dC, dI) A (wL cI cJ a0 a1  u.1 u.2) t) A) ([.ref a0, .int y1] : List Value).toArray s 0 0 A) (F0 m 47 ls [])) → ∀ (n9 : Nat) (x2 : Int32) (la : Nat → Int32) (H : Heap) (locs : List Loc) (ls : Array Slot), fw_wh (pX0_clear_21 zs) n9 (x2, la) = some e9 → va_P (dC, dI) vwCl (wL cI cJ a0 a1  la zs) H → va_D A (wL cI cJ a0 a1  la zs) → va_S A s.heap H locs → lv_has ls 3 [(0, .ref a0), (2, .int x2)] → W p l e (headSpec wsX0_clear ({ frames := 1, cells := 0, slots := 0, locals := 23 })).room s m ([.ref a0, .int y1] : List Value).toArray below meth c H locs 0 0 (MQ below (va_Qv (fun (u : (Nat → Int32) × Int32) => pX0_clear la0 y1 = some u) (fun u t => fw_B (dC, dI) A (wL cI cJ a0 a1  u.1 u.2) t) A) ([.ref a0, .int y1] : List Value).toArray s 0 0 A) (F0 m 21 ls []) := by
    intro zs e9 hkk n9
    induction n9 with
    | zero => exact fun _ _ H locs ls hq => (fw_wh0 hq).elim
    | succ n9 ih =>
      intro x2 la H locs ls hq hP hD hS hl
      obtain ⟨w9, hq, hwI, hwE⟩ := fw_wh1 hq
      dsimp only [pX0_clear_21] at hq
      refine lv_iload_n hx hb dX0_clear_21 rfl (lv_at hl 1 rfl) ?_
      refine lv_aload_n hx hb dX0_clear_22 rfl (lv_at hl 0 rfl) ?_
      refine va_get (D := (dC, dI)) (ci := 0) (v := .int zs) (C := RX0) (T := TX0) (N := 2) hx hb hts hinX0 hown hK hP 0 rfl rfl 1 (by decide) hf15 (fun _ h9 => h9) rfl dX0_clear_23 ?_
      refine lv_icmp_ge (tgt := 47) hx hb dX0_clear_26 (by decide) (fun c_4 => ?_) (fun c_4 => ?_)
      · have hq := fw_it c_4 hq
        exact hkk x2 la H locs ls (hwE _ (Option.some.inj hq).symm) hP hD hS (lv_sub hl [0, 1] rfl)
      · have hq := fw_if c_4 hq
        refine lv_aload_n hx hb dX0_clear_29 rfl (lv_at hl 0 rfl) ?_
        refine va_get (D := (dC, dI)) (ci := 0) (v := .ref a1) (C := RX0) (T := TX0) (N := 2) hx hb hts hinX0 hown hK hP 0 rfl rfl 0 (by decide) hf9 (fun _ h9 => h9) rfl dX0_clear_30 ?_
        refine lv_iload_n hx hb dX0_clear_33 rfl (lv_at hl 1 rfl) ?_
        refine lv_bipush (v := (7 : Int32)) hx hb dX0_clear_34 (by decide) ?_
        refine lv_imul hx hb dX0_clear_36 ?_
        refine lv_iload_n hx hb dX0_clear_37 rfl (lv_at hl 1 rfl) ?_
        refine lv_iadd hx hb dX0_clear_38 ?_
        refine lv_iconst (v := (0 : Int32)) hx hb dX0_clear_39 (by decide) ?_
        obtain ⟨h_5, hq⟩ := fw_ck_s hq
        refine va_iast hx hb hK hP hD hS 1 0 rfl rfl h_5 dX0_clear_40 (fun H locs hP hD hS => ?_)
        have hP : va_P (dC, dI) vwCl (wL cI cJ a0 a1  (upd la (((x2 * (7 : Int32)) + x2)).toNatClampNeg (0 : Int32)) zs) H := hP
        have hD : va_D A (wL cI cJ a0 a1  (upd la (((x2 * (7 : Int32)) + x2)).toNatClampNeg (0 : Int32)) zs) := hD
        refine lv_iinc (v := (x2 + (1 : Int32))) (lv' := [(2, .int (x2 + (1 : Int32))), (0, .ref a0)]) hx hb dX0_clear_41 hl (k := 1) rfl rfl (by decide) rfl (fun ls hl => ?_)
        refine lv_goto (tgt := 21) hx hb dX0_clear_44 (by decide) ?_
        exact ih (x2 + (1 : Int32)) (upd la (((x2 * (7 : Int32)) + x2)).toNatClampNeg (0 : Int32)) H locs ls (hwI _ (Option.some.inj hq).symm) hP hD hS (lv_sub hl [1, 0] rfl)
  have hq := hz
  dsimp only [pX0_clear] at hq
  have hl := lv_entry (([.ref a0, .int y1] : List Value)) (n := 3) (Nat.le_of_ble_eq_true rfl)
  rw [lg_entry_eq]
  generalize (lg_sl (([.ref a0, .int y1] : List Value)) ++ List.replicate (3 - (lg_sl (([.ref a0, .int y1] : List Value))).length) Slot.unset).toArray = ls at hl ⊢
  have hl : lv_has ls 3 [(0, .ref a0), (1, .int y1)] := hl
  obtain ⟨H, hHe⟩ : ∃ H : Heap, H = s.heap := ⟨_, rfl⟩
  obtain ⟨locs, hLe⟩ : ∃ L : List Loc, L = [] := ⟨_, rfl⟩
  have hP : va_P (dC, dI) vwCl (wL cI cJ a0 a1  la0 zs0) H := by rw [hHe]; exact hP
  have hS : va_S A s.heap H locs := by rw [hHe, hLe]; exact va_S.rf
  show W p l e (headSpec wsX0_clear ({ frames := 1, cells := 0, slots := 0, locals := 23 })).room s m ([.ref a0, .int y1] : List Value).toArray below meth c s.heap [] 0 0 (MQ below (va_Qv (fun (u : (Nat → Int32) × Int32) => pX0_clear la0 y1 = some u) (fun u t => fw_B (dC, dI) A (wL cI cJ a0 a1  u.1 u.2) t) A) ([.ref a0, .int y1] : List Value).toArray s 0 0 A) (F0 m 0 ls [])
  rw [← hHe, ← hLe]
  refine lv_aload_n hx hb dX0_clear_0 rfl (lv_at hl 0 rfl) ?_
  refine lv_iload_n hx hb dX0_clear_1 rfl (lv_at hl 1 rfl) ?_
  refine lv_bipush (v := (7 : Int32)) hx hb dX0_clear_2 (by decide) ?_
  refine va_mmin hx hb (by rw [hml]; exact hl.1.symm) hown (hts (.methodLink RX0 19 Lib.Math.min.name) (by decide +kernel)) (hts (.static Lib.Math.min.name) (by decide +kernel)) (hts (.initialized "java/lang/Math") (by decide +kernel)) (hts (.code Lib.Math.min.name Lib.Math.min.code 2 (some .int)) (by decide +kernel)) (Nat.le_of_ble_eq_true rfl) (Nat.le_of_ble_eq_true rfl) (Nat.zero_le _) (Nat.zero_le _) dX0_clear_4 ?_
  refine va_put (D := (dC, dI)) (ci := 0) (v := .int (if (7 : Int32) < y1 then (7 : Int32) else y1)) (ty := .int) (C := RX0) (T := TX0) (N := 2) hx hb hts hinX0 tyX0 tyX0_ok nmX0 hown hK hP hD hS 0 rfl rfl 1 (by decide) hf15 (fun _ h9 => h9) rfl (by decide +kernel) rfl rfl (Nat.le_of_ble_eq_true rfl) dX0_clear_7 (fun H locs hP hD hS => ?_)
  have hP : va_P (dC, dI) vwCl (wL cI cJ a0 a1  la0 (if (7 : Int32) < y1 then (7 : Int32) else y1)) H := hP
  have hD : va_D A (wL cI cJ a0 a1  la0 (if (7 : Int32) < y1 then (7 : Int32) else y1)) := hD
  refine lv_aload_n hx hb dX0_clear_10 rfl (lv_at hl 0 rfl) ?_
  refine va_get (D := (dC, dI)) (ci := 0) (v := .ref a1) (C := RX0) (T := TX0) (N := 2) hx hb hts hinX0 hown hK hP 0 rfl rfl 0 (by decide) hf9 (fun _ h9 => h9) rfl dX0_clear_11 ?_
  refine lv_ldc hx hb hown (hts (.constant RX0 25 (1000000)) (by decide +kernel)) dX0_clear_14 ?_
  have hPc := hP.sub (ws' := (wA cI cJ a1 49 la0)) [1] rfl
  have hDc := hD.sub (ws' := (wA cI cJ a1 49 la0)) [1] (by decide) rfl
  refine fw_cv (wr := [(a0, .inr (0, [.ref a1, .int (if (7 : Int32) < y1 then (7 : Int32) else y1)]))]) (w2 := fun u => (wL cI cJ a0 a1  u (if (7 : Int32) < y1 then (7 : Int32) else y1))) [1] [0] [0, 1] (va_runS (As := [.ref a1, .int (1000000 : Int32)]) (rest := []) ⟨hx, hb, hml, hown, hts⟩ (kJ7_fill_53178 l dC dI cI cJ a1 H.size 49 la0 (1000000 : Int32) (fw_be hq)) (va_cwS 2 hts gX0_clear_J7_fill_53178 rfl rfl rfl (by decide +kernel) ⟨Nat.le_of_ble_eq_true rfl, Nat.le_of_ble_eq_true rfl⟩) ⟨fw_blind, fun U hU hW => fw_pre hPc hK hDc hN hU hW⟩ rfl rfl hl.1 rfl (lv_room (Nat.le_of_ble_eq_true rfl)) dX0_clear_16 ⟨Nat.zero_le _, Nat.zero_le _⟩) hP hD hS hA rfl rfl (by decide) (by decide) (by decide) (fun _ => rfl) (fun u H locs hw hP hD hS => ?_)
  obtain ⟨f_1, rfl⟩ : ∃ z, z = u := ⟨_, rfl⟩
  have hq := fw_bs hw hq
  try dsimp only at hq
  have hP : va_P (dC, dI) vwCl (wL cI cJ a0 a1  f_1 (if (7 : Int32) < y1 then (7 : Int32) else y1)) H := hP
  have hD : va_D A (wL cI cJ a0 a1  f_1 (if (7 : Int32) < y1 then (7 : Int32) else y1)) := hD
  refine lv_iconst (v := (0 : Int32)) hx hb dX0_clear_19 (by decide) ?_
  refine lv_istore_n (lv' := [(2, .int (0 : Int32)), (0, .ref a0), (1, .int y1)]) hx hb dX0_clear_20 rfl hl (by decide) rfl (fun ls hl => ?_)
  obtain ⟨e_8, hw, hq⟩ := fw_bb hq
  refine L21 (if (7 : Int32) < y1 then (7 : Int32) else y1) e_8 (fun x2_6 la_7 H locs ls he hP hD hS hl => ?_) fw_N (0 : Int32) f_1 H locs ls hw hP hD hS (lv_sub hl [1, 0] rfl)
  subst he
  try dsimp only at hq
  exact W.vret hx hb hr (fun t ht hW => ⟨⟨(la_7, (if (7 : Int32) < y1 then (7 : Int32) else y1)), rfl, hz.trans hq.symm, by rw [ht]; exact hP, hD⟩, hS.F ht⟩) hS.2.2 dX0_clear_47
set_option maxHeartbeats 4000000 in
set_option maxRecDepth 100000 in
theorem kX0_between (l : Launch) (dC : Nat → ClassId) (dI : Nat → Nat → Nat) (cI cJ : ClassId) (a0 a1 : Nat) (sz : Nat)  (la0 : Nat → Int32) (zs0 : Int32) (y1 : Int32) (y2 : Int32) (hd : ∃ z, pX0_between la0 y1 y2 = some z) : Met l yX0_between wsX0_between ({ frames := 0, cells := 0, slots := 0, locals := 0 }) (fw_Pc (dC, dI) (fw_tys cI cJ) (wL cI cJ a0 a1  la0 zs0) ([.ref a0, .int y1, .int y2] : List Value) sz) (va_Qi (fun (r : Int32) (u : Unit) => pX0_between la0 y1 y2 = some r) (fun u t => fw_B (dC, dI) (va_A (wL cI cJ a0 a1  la0 zs0) sz) (wL cI cJ a0 a1  la0 zs0) t) (va_A (wL cI cJ a0 a1  la0 zs0) sz)) 0 0 (va_A (wL cI cJ a0 a1  la0 zs0) sz) := by
  obtain ⟨z, hz⟩ := hd
  refine Met.ofW (cc := cX0_between) (maxL := 3) (ret := (some .int)) (by decide) rfl ?_
  intro p e s m args below meth c s₁ B hml hv
  obtain ⟨rfl, hsz, hP, hK, hD0, hN⟩ := hv
  have hx := B.exec
  have hb := B.bytes
  have hr := B.returns
  have hts := atoms_spec (ws := wsX0_between) B.pre
  have hown : s.vm.findClass RX0 = some m.cls := findClass_of_methodNamed B.named
  have hlocks := B.notSynchronized
  subst hsz
  have hD := hD0.self (sz := s.heap.size)
  generalize hAe : va_A (wL cI cJ a0 a1  la0 zs0) s.heap.size = A at hD ⊢
  have hA : ∀ q : Nat, s.heap.size ≤ q → A q := fun q h => by rw [← hAe]; exact Or.inr h
  have hinX0 : ∀ w ∈ u_ws RX0 TX0 2, w ∈ wsX0_between := by decide +kernel
  have hf9 := hts (.fieldLink RX0 9 "FewLines$Lengths" "lengths" "[I") (by decide +kernel)
  have hq := hz
  dsimp only [pX0_between] at hq
  have hl := lv_entry (([.ref a0, .int y1, .int y2] : List Value)) (n := 3) (Nat.le_of_ble_eq_true rfl)
  rw [lg_entry_eq]
  generalize (lg_sl (([.ref a0, .int y1, .int y2] : List Value)) ++ List.replicate (3 - (lg_sl (([.ref a0, .int y1, .int y2] : List Value))).length) Slot.unset).toArray = ls at hl ⊢
  have hl : lv_has ls 3 [(0, .ref a0), (1, .int y1), (2, .int y2)] := hl
  obtain ⟨H, hHe⟩ : ∃ H : Heap, H = s.heap := ⟨_, rfl⟩
  obtain ⟨locs, hLe⟩ : ∃ L : List Loc, L = [] := ⟨_, rfl⟩
  have hP : va_P (dC, dI) vwCl (wL cI cJ a0 a1  la0 zs0) H := by rw [hHe]; exact hP
  have hS : va_S A s.heap H locs := by rw [hHe, hLe]; exact va_S.rf
  show W p l e (headSpec wsX0_between ({ frames := 0, cells := 0, slots := 0, locals := 0 })).room s m ([.ref a0, .int y1, .int y2] : List Value).toArray below meth c s.heap [] 0 0 (MQ below (va_Qi (fun (r : Int32) (u : Unit) => pX0_between la0 y1 y2 = some r) (fun u t => fw_B (dC, dI) A (wL cI cJ a0 a1  la0 zs0) t) A) ([.ref a0, .int y1, .int y2] : List Value).toArray s 0 0 A) (F0 m 0 ls [])
  rw [← hHe, ← hLe]
  refine lv_aload_n hx hb dX0_between_0 rfl (lv_at hl 0 rfl) ?_
  refine va_get (D := (dC, dI)) (ci := 0) (v := .ref a1) (C := RX0) (T := TX0) (N := 2) hx hb hts hinX0 hown hK hP 0 rfl rfl 0 (by decide) hf9 (fun _ h9 => h9) rfl dX0_between_1 ?_
  refine lv_iload_n hx hb dX0_between_4 rfl (lv_at hl 1 rfl) ?_
  refine lv_bipush (v := (7 : Int32)) hx hb dX0_between_5 (by decide) ?_
  refine lv_imul hx hb dX0_between_7 ?_
  refine lv_iload_n hx hb dX0_between_8 rfl (lv_at hl 2 rfl) ?_
  refine lv_iadd hx hb dX0_between_9 ?_
  obtain ⟨h_1, hq⟩ := fw_ck_s hq
  refine va_iald hx hb hK hP 1 0 rfl rfl h_1 dX0_between_10 ?_
  exact W.iret (v := (la0 (((y1 * (7 : Int32)) + y2)).toNatClampNeg)) hx hb hr (fun t ht hW => ⟨⟨(la0 (((y1 * (7 : Int32)) + y2)).toNatClampNeg), (), rfl, hz.trans hq.symm, by rw [ht]; exact hP, hD⟩, hS.F ht⟩) hS.2.2 dX0_between_11
set_option maxHeartbeats 4000000 in
set_option maxRecDepth 100000 in
theorem kX0_add (l : Launch) (dC : Nat → ClassId) (dI : Nat → Nat → Nat) (cI cJ : ClassId) (a0 a1 : Nat) (sz : Nat)  (la0 : Nat → Int32) (zs0 : Int32) (y1 : Int32) (y2 : Int32) (y3 : Int32) (hd : ∃ z, pX0_add la0 zs0 y1 y2 y3 = some z) : Met l yX0_add wsX0_add ({ frames := 1, cells := 0, slots := 0, locals := 22 }) (fw_Pc (dC, dI) (fw_tys cI cJ) (wL cI cJ a0 a1  la0 zs0) ([.ref a0, .int y1, .int y2, .int y3] : List Value) sz) (va_Qv (fun (u : (Nat → Int32)) => pX0_add la0 zs0 y1 y2 y3 = some u) (fun u t => fw_B (dC, dI) (va_A (wL cI cJ a0 a1  la0 zs0) sz) (wL cI cJ a0 a1  u zs0) t) (va_A (wL cI cJ a0 a1  la0 zs0) sz)) 0 0 (va_A (wL cI cJ a0 a1  la0 zs0) sz) := by
  obtain ⟨z, hz⟩ := hd
  refine Met.ofW (cc := cX0_add) (maxL := 11) (ret := none) (by decide) rfl ?_
  intro p e s m args below meth c s₁ B hml hv
  obtain ⟨rfl, hsz, hP, hK, hD0, hN⟩ := hv
  have hx := B.exec
  have hb := B.bytes
  have hr := B.returns
  have hts := atoms_spec (ws := wsX0_add) B.pre
  have hown : s.vm.findClass RX0 = some m.cls := findClass_of_methodNamed B.named
  have hlocks := B.notSynchronized
  subst hsz
  have hD := hD0.self (sz := s.heap.size)
  generalize hAe : va_A (wL cI cJ a0 a1  la0 zs0) s.heap.size = A at hD ⊢
  have hA : ∀ q : Nat, s.heap.size ≤ q → A q := fun q h => by rw [← hAe]; exact Or.inr h
  have hinX0 : ∀ w ∈ u_ws RX0 TX0 2, w ∈ wsX0_add := by decide +kernel
  have hf9 := hts (.fieldLink RX0 9 "FewLines$Lengths" "lengths" "[I") (by decide +kernel)
  have hf15 := hts (.fieldLink RX0 15 "FewLines$Lengths" "size" "I") (by decide +kernel)
  have L67 : ∀ (x1 : Int32) (x2 : Int32) (x3 : Int32) (x4 : Int32) (x5 : Int32) (x6 : Int32) (x7 : Int32) (x8 : Int32) (e9 : Int32 × (Nat → Int32)), (∀ (x9' : Int32) (la' : Nat → Int32) (H : Heap) (locs : List Loc) (ls : Array Slot), e9 = (x9', la') → va_P (dC, dI) vwCl (wL cI cJ a0 a1  la' zs0) H → va_D A (wL cI cJ a0 a1  la' zs0) → va_S A s.heap H locs → lv_has ls 11 [(0, .ref a0), (1, .int x1), (2, .int x2), (3, .int x3), (4, .int x4), (5, .int x5), (6, .int x6), (7, .int x7), (8, .int x8), (9, .int x9')] → W p l e (headSpec wsX0_add ({ frames := 1, cells := 0, slots := 0, locals := 22 })).room s m ([.ref a0, .int y1, .int y2, .int y3] : List Value).toArray below meth c H locs 0 0 (MQ below (va_Qv (fun (u : (Nat → Int32)) => pX0_add la0 zs0 y1 y2 y3 = some u) (fun u t => fw_B (dC, dI) A (wL cI cJ a0 a1  u zs0) t) A) ([.ref a0, .int y1, .int y2, .int y3] : List Value).toArray s 0 0 A) (F0 m 138 ls [])) → ∀ (n9 : Nat) (x9 : Int32) (la : Nat → Int32) (H : Heap) (locs : List Loc) (ls : Array Slot), fw_wh (pX0_add_67 x4 x5 x6 x7 x8 zs0) n9 (x9, la) = some e9 → va_P (dC, dI) vwCl (wL cI cJ a0 a1  la zs0) H → va_D A (wL cI cJ a0 a1  la zs0) → va_S A s.heap H locs → lv_has ls 11 [(0, .ref a0), (1, .int x1), (2, .int x2), (3, .int x3), (4, .int x4), (5, .int x5), (6, .int x6), (7, .int x7), (8, .int x8), (9, .int x9)] → W p l e (headSpec wsX0_add ({ frames := 1, cells := 0, slots := 0, locals := 22 })).room s m ([.ref a0, .int y1, .int y2, .int y3] : List Value).toArray below meth c H locs 0 0 (MQ below (va_Qv (fun (u : (Nat → Int32)) => pX0_add la0 zs0 y1 y2 y3 = some u) (fun u t => fw_B (dC, dI) A (wL cI cJ a0 a1  u zs0) t) A) ([.ref a0, .int y1, .int y2, .int y3] : List Value).toArray s 0 0 A) (F0 m 67 ls []) := by
    intro x1 x2 x3 x4 x5 x6 x7 x8 e9 hkk n9
    induction n9 with
    | zero => exact fun _ _ H locs ls hq => (fw_wh0 hq).elim
    | succ n9 ih =>
      intro x9 la H locs ls hq hP hD hS hl
      obtain ⟨w9, hq, hwI, hwE⟩ := fw_wh1 hq
      dsimp only [pX0_add_67] at hq
      refine lv_iload hx hb dX0_add_67 (lv_at hl 9 rfl) ?_
      refine lv_aload_n hx hb dX0_add_69 rfl (lv_at hl 0 rfl) ?_
      refine va_get (D := (dC, dI)) (ci := 0) (v := .int zs0) (C := RX0) (T := TX0) (N := 2) hx hb hts hinX0 hown hK hP 0 rfl rfl 1 (by decide) hf15 (fun _ h9 => h9) rfl dX0_add_70 ?_
      refine lv_icmp_ge (tgt := 138) hx hb dX0_add_73 (by decide) (fun c_7 => ?_) (fun c_7 => ?_)
      · have hq := fw_it c_7 hq
        exact hkk x9 la H locs ls (hwE _ (Option.some.inj hq).symm) hP hD hS (lv_sub hl [0, 1, 2, 3, 4, 5, 6, 7, 8, 9] rfl)
      · have hq := fw_if c_7 hq
        refine lv_iload hx hb dX0_add_76 (lv_at hl 7 rfl) ?_
        refine lv_aload_n hx hb dX0_add_78 rfl (lv_at hl 0 rfl) ?_
        refine va_get (D := (dC, dI)) (ci := 0) (v := .ref a1) (C := RX0) (T := TX0) (N := 2) hx hb hts hinX0 hown hK hP 0 rfl rfl 0 (by decide) hf9 (fun _ h9 => h9) rfl dX0_add_79 ?_
        refine lv_iload hx hb dX0_add_82 (lv_at hl 5 rfl) ?_
        refine lv_iload hx hb dX0_add_84 (lv_at hl 9 rfl) ?_
        refine lv_iadd hx hb dX0_add_86 ?_
        obtain ⟨h_8, hq⟩ := fw_ck_s hq
        refine va_iald hx hb hK hP 1 0 rfl rfl h_8 dX0_add_87 ?_
        refine lv_iadd hx hb dX0_add_88 ?_
        refine lv_iload hx hb dX0_add_89 (lv_at hl 8 rfl) ?_
        refine lv_aload_n hx hb dX0_add_91 rfl (lv_at hl 0 rfl) ?_
        refine va_get (D := (dC, dI)) (ci := 0) (v := .ref a1) (C := RX0) (T := TX0) (N := 2) hx hb hts hinX0 hown hK hP 0 rfl rfl 0 (by decide) hf9 (fun _ h9 => h9) rfl dX0_add_92 ?_
        refine lv_iload hx hb dX0_add_95 (lv_at hl 4 rfl) ?_
        refine lv_iload hx hb dX0_add_97 (lv_at hl 9 rfl) ?_
        refine lv_iadd hx hb dX0_add_99 ?_
        obtain ⟨h_9, hq⟩ := fw_ck_s hq
        refine va_iald hx hb hK hP 1 0 rfl rfl h_9 dX0_add_100 ?_
        refine lv_iadd hx hb dX0_add_101 ?_
        refine va_mmin hx hb (by rw [hml]; exact hl.1.symm) hown (hts (.methodLink RX0 19 Lib.Math.min.name) (by decide +kernel)) (hts (.static Lib.Math.min.name) (by decide +kernel)) (hts (.initialized "java/lang/Math") (by decide +kernel)) (hts (.code Lib.Math.min.name Lib.Math.min.code 2 (some .int)) (by decide +kernel)) (Nat.le_of_ble_eq_true rfl) (Nat.le_of_ble_eq_true rfl) (Nat.zero_le _) (Nat.zero_le _) dX0_add_102 ?_
        refine lv_istore (lv' := [(10, .int (if (x8 + (la ((x4 + x9)).toNatClampNeg)) < (x7 + (la ((x5 + x9)).toNatClampNeg)) then (x8 + (la ((x4 + x9)).toNatClampNeg)) else (x7 + (la ((x5 + x9)).toNatClampNeg)))), (0, .ref a0), (1, .int x1), (2, .int x2), (3, .int x3), (4, .int x4), (5, .int x5), (6, .int x6), (7, .int x7), (8, .int x8), (9, .int x9)]) hx hb dX0_add_105 hl (by decide) rfl (fun ls hl => ?_)
        refine lv_aload_n hx hb dX0_add_107 rfl (lv_at hl 1 rfl) ?_
        refine va_get (D := (dC, dI)) (ci := 0) (v := .ref a1) (C := RX0) (T := TX0) (N := 2) hx hb hts hinX0 hown hK hP 0 rfl rfl 0 (by decide) hf9 (fun _ h9 => h9) rfl dX0_add_108 ?_
        refine lv_iload hx hb dX0_add_111 (lv_at hl 7 rfl) ?_
        refine lv_iload hx hb dX0_add_113 (lv_at hl 10 rfl) ?_
        refine lv_iadd hx hb dX0_add_115 ?_
        refine lv_aload_n hx hb dX0_add_116 rfl (lv_at hl 1 rfl) ?_
        refine va_get (D := (dC, dI)) (ci := 0) (v := .ref a1) (C := RX0) (T := TX0) (N := 2) hx hb hts hinX0 hown hK hP 0 rfl rfl 0 (by decide) hf9 (fun _ h9 => h9) rfl dX0_add_117 ?_
        refine lv_iload hx hb dX0_add_120 (lv_at hl 7 rfl) ?_
        refine lv_iload hx hb dX0_add_122 (lv_at hl 10 rfl) ?_
        refine lv_iadd hx hb dX0_add_124 ?_
        obtain ⟨h_10, hq⟩ := fw_ck_s hq
        refine va_iald hx hb hK hP 1 0 rfl rfl h_10 dX0_add_125 ?_
        refine lv_iload hx hb dX0_add_126 (lv_at hl 0 rfl) ?_
        refine va_mmin hx hb (by rw [hml]; exact hl.1.symm) hown (hts (.methodLink RX0 19 Lib.Math.min.name) (by decide +kernel)) (hts (.static Lib.Math.min.name) (by decide +kernel)) (hts (.initialized "java/lang/Math") (by decide +kernel)) (hts (.code Lib.Math.min.name Lib.Math.min.code 2 (some .int)) (by decide +kernel)) (Nat.le_of_ble_eq_true rfl) (Nat.le_of_ble_eq_true rfl) (Nat.zero_le _) (Nat.zero_le _) dX0_add_128 ?_
        obtain ⟨h_11, hq⟩ := fw_ck_s hq
        refine va_iast hx hb hK hP hD hS 1 0 rfl rfl h_11 dX0_add_131 (fun H locs hP hD hS => ?_)
        have hP : va_P (dC, dI) vwCl (wL cI cJ a0 a1  (upd la ((x6 + x9)).toNatClampNeg (if (if (x8 + (la ((x4 + x9)).toNatClampNeg)) < (x7 + (la ((x5 + x9)).toNatClampNeg)) then (x8 + (la ((x4 + x9)).toNatClampNeg)) else (x7 + (la ((x5 + x9)).toNatClampNeg))) < (la ((x6 + x9)).toNatClampNeg) then (if (x8 + (la ((x4 + x9)).toNatClampNeg)) < (x7 + (la ((x5 + x9)).toNatClampNeg)) then (x8 + (la ((x4 + x9)).toNatClampNeg)) else (x7 + (la ((x5 + x9)).toNatClampNeg))) else (la ((x6 + x9)).toNatClampNeg))) zs0) H := hP
        have hD : va_D A (wL cI cJ a0 a1  (upd la ((x6 + x9)).toNatClampNeg (if (if (x8 + (la ((x4 + x9)).toNatClampNeg)) < (x7 + (la ((x5 + x9)).toNatClampNeg)) then (x8 + (la ((x4 + x9)).toNatClampNeg)) else (x7 + (la ((x5 + x9)).toNatClampNeg))) < (la ((x6 + x9)).toNatClampNeg) then (if (x8 + (la ((x4 + x9)).toNatClampNeg)) < (x7 + (la ((x5 + x9)).toNatClampNeg)) then (x8 + (la ((x4 + x9)).toNatClampNeg)) else (x7 + (la ((x5 + x9)).toNatClampNeg))) else (la ((x6 + x9)).toNatClampNeg))) zs0) := hD
        refine lv_iinc (v := (x9 + (1 : Int32))) (lv' := [(9, .int (x9 + (1 : Int32))), (10, .int (if (x8 + (la ((x4 + x9)).toNatClampNeg)) < (x7 + (la ((x5 + x9)).toNatClampNeg)) then (x8 + (la ((x4 + x9)).toNatClampNeg)) else (x7 + (la ((x5 + x9)).toNatClampNeg)))), (0, .ref a0), (1, .int x1), (2, .int x2), (3, .int x3), (4, .int x4), (5, .int x5), (6, .int x6), (7, .int x7), (8, .int x8)]) hx hb dX0_add_132 hl (k := 10) rfl rfl (by decide) rfl (fun ls hl => ?_)
        refine lv_goto (tgt := 67) hx hb dX0_add_135 (by decide) ?_
        exact ih (x9 + (1 : Int32)) (upd la ((x6 + x9)).toNatClampNeg (if (if (x8 + (la ((x4 + x9)).toNatClampNeg)) < (x7 + (la ((x5 + x9)).toNatClampNeg)) then (x8 + (la ((x4 + x9)).toNatClampNeg)) else (x7 + (la ((x5 + x9)).toNatClampNeg))) < (la ((x6 + x9)).toNatClampNeg) then (if (x8 + (la ((x4 + x9)).toNatClampNeg)) < (x7 + (la ((x5 + x9)).toNatClampNeg)) then (x8 + (la ((x4 + x9)).toNatClampNeg)) else (x7 + (la ((x5 + x9)).toNatClampNeg))) else (la ((x6 + x9)).toNatClampNeg))) H locs ls (hwI _ (Option.some.inj hq).symm) hP hD hS (lv_sub hl [2, 3, 4, 5, 6, 7, 8, 9, 10, 0] rfl)
  have L26 : ∀ (x1 : Int32) (x2 : Int32) (x3 : Int32) (x4 : Int32) (x5 : Int32) (e9 : Int32 × (Nat → Int32)), (∀ (x6' : Int32) (la' : Nat → Int32) (H : Heap) (locs : List Loc) (ls : Array Slot), e9 = (x6', la') → va_P (dC, dI) vwCl (wL cI cJ a0 a1  la' zs0) H → va_D A (wL cI cJ a0 a1  la' zs0) → va_S A s.heap H locs → lv_has ls 11 [(0, .ref a0), (1, .int x1), (2, .int x2), (3, .int x3), (4, .int x4), (5, .int x5), (6, .int x6')] → W p l e (headSpec wsX0_add ({ frames := 1, cells := 0, slots := 0, locals := 22 })).room s m ([.ref a0, .int y1, .int y2, .int y3] : List Value).toArray below meth c H locs 0 0 (MQ below (va_Qv (fun (u : (Nat → Int32)) => pX0_add la0 zs0 y1 y2 y3 = some u) (fun u t => fw_B (dC, dI) A (wL cI cJ a0 a1  u zs0) t) A) ([.ref a0, .int y1, .int y2, .int y3] : List Value).toArray s 0 0 A) (F0 m 144 ls [])) → ∀ (n9 : Nat) (x6 : Int32) (la : Nat → Int32) (H : Heap) (locs : List Loc) (ls : Array Slot), fw_wh (pX0_add_26 x1 x2 x3 x4 x5 zs0) n9 (x6, la) = some e9 → va_P (dC, dI) vwCl (wL cI cJ a0 a1  la zs0) H → va_D A (wL cI cJ a0 a1  la zs0) → va_S A s.heap H locs → lv_has ls 11 [(0, .ref a0), (1, .int x1), (2, .int x2), (3, .int x3), (4, .int x4), (5, .int x5), (6, .int x6)] → W p l e (headSpec wsX0_add ({ frames := 1, cells := 0, slots := 0, locals := 22 })).room s m ([.ref a0, .int y1, .int y2, .int y3] : List Value).toArray below meth c H locs 0 0 (MQ below (va_Qv (fun (u : (Nat → Int32)) => pX0_add la0 zs0 y1 y2 y3 = some u) (fun u t => fw_B (dC, dI) A (wL cI cJ a0 a1  u zs0) t) A) ([.ref a0, .int y1, .int y2, .int y3] : List Value).toArray s 0 0 A) (F0 m 26 ls []) := by
    intro x1 x2 x3 x4 x5 e9 hkk n9
    induction n9 with
    | zero => exact fun _ _ H locs ls hq => (fw_wh0 hq).elim
    | succ n9 ih =>
      intro x6 la H locs ls hq hP hD hS hl
      obtain ⟨w9, hq, hwI, hwE⟩ := fw_wh1 hq
      dsimp only [pX0_add_26] at hq
      refine lv_iload hx hb dX0_add_26 (lv_at hl 6 rfl) ?_
      refine lv_aload_n hx hb dX0_add_28 rfl (lv_at hl 0 rfl) ?_
      refine va_get (D := (dC, dI)) (ci := 0) (v := .int zs0) (C := RX0) (T := TX0) (N := 2) hx hb hts hinX0 hown hK hP 0 rfl rfl 1 (by decide) hf15 (fun _ h9 => h9) rfl dX0_add_29 ?_
      refine lv_bipush (v := (7 : Int32)) hx hb dX0_add_32 (by decide) ?_
      refine lv_imul hx hb dX0_add_34 ?_
      refine lv_icmp_ge (tgt := 144) hx hb dX0_add_35 (by decide) (fun c_4 => ?_) (fun c_4 => ?_)
      · have hq := fw_it c_4 hq
        exact hkk x6 la H locs ls (hwE _ (Option.some.inj hq).symm) hP hD hS (lv_sub hl [0, 1, 2, 3, 4, 5, 6] rfl)
      · have hq := fw_if c_4 hq
        refine lv_aload_n hx hb dX0_add_38 rfl (lv_at hl 0 rfl) ?_
        refine va_get (D := (dC, dI)) (ci := 0) (v := .ref a1) (C := RX0) (T := TX0) (N := 2) hx hb hts hinX0 hown hK hP 0 rfl rfl 0 (by decide) hf9 (fun _ h9 => h9) rfl dX0_add_39 ?_
        refine lv_iload hx hb dX0_add_42 (lv_at hl 6 rfl) ?_
        refine lv_iload_n hx hb dX0_add_44 rfl (lv_at hl 1 rfl) ?_
        refine lv_iadd hx hb dX0_add_45 ?_
        obtain ⟨h_5, hq⟩ := fw_ck_s hq
        refine va_iald hx hb hK hP 1 0 rfl rfl h_5 dX0_add_46 ?_
        refine lv_iload_n hx hb dX0_add_47 rfl (lv_at hl 3 rfl) ?_
        refine lv_iadd hx hb dX0_add_48 ?_
        refine lv_istore (lv' := [(7, .int ((la ((x6 + x1)).toNatClampNeg) + x3)), (0, .ref a0), (1, .int x1), (2, .int x2), (3, .int x3), (4, .int x4), (5, .int x5), (6, .int x6)]) hx hb dX0_add_49 hl (by decide) rfl (fun ls hl => ?_)
        refine lv_aload_n hx hb dX0_add_51 rfl (lv_at hl 1 rfl) ?_
        refine va_get (D := (dC, dI)) (ci := 0) (v := .ref a1) (C := RX0) (T := TX0) (N := 2) hx hb hts hinX0 hown hK hP 0 rfl rfl 0 (by decide) hf9 (fun _ h9 => h9) rfl dX0_add_52 ?_
        refine lv_iload hx hb dX0_add_55 (lv_at hl 7 rfl) ?_
        refine lv_iload_n hx hb dX0_add_57 rfl (lv_at hl 3 rfl) ?_
        refine lv_iadd hx hb dX0_add_58 ?_
        obtain ⟨h_6, hq⟩ := fw_ck_s hq
        refine va_iald hx hb hK hP 1 0 rfl rfl h_6 dX0_add_59 ?_
        refine lv_iload_n hx hb dX0_add_60 rfl (lv_at hl 4 rfl) ?_
        refine lv_iadd hx hb dX0_add_61 ?_
        refine lv_istore (lv' := [(8, .int ((la ((x6 + x2)).toNatClampNeg) + x3)), (7, .int ((la ((x6 + x1)).toNatClampNeg) + x3)), (0, .ref a0), (1, .int x1), (2, .int x2), (3, .int x3), (4, .int x4), (5, .int x5), (6, .int x6)]) hx hb dX0_add_62 hl (by decide) rfl (fun ls hl => ?_)
        refine lv_iconst (v := (0 : Int32)) hx hb dX0_add_64 (by decide) ?_
        refine lv_istore (lv' := [(9, .int (0 : Int32)), (8, .int ((la ((x6 + x2)).toNatClampNeg) + x3)), (7, .int ((la ((x6 + x1)).toNatClampNeg) + x3)), (0, .ref a0), (1, .int x1), (2, .int x2), (3, .int x3), (4, .int x4), (5, .int x5), (6, .int x6)]) hx hb dX0_add_65 hl (by decide) rfl (fun ls hl => ?_)
        obtain ⟨e_14, hw, hq⟩ := fw_bb hq
        refine L67 x1 x2 x3 x4 x5 x6 ((la ((x6 + x1)).toNatClampNeg) + x3) ((la ((x6 + x2)).toNatClampNeg) + x3) e_14 (fun x9_12 la_13 H locs ls he hP hD hS hl => ?_) fw_N (0 : Int32) la H locs ls hw hP hD hS (lv_sub hl [3, 4, 5, 6, 7, 8, 9, 2, 1, 0] rfl)
        subst he
        try dsimp only at hq
        refine lv_iinc (v := (x6 + (7 : Int32))) (lv' := [(6, .int (x6 + (7 : Int32))), (0, .ref a0), (1, .int x1), (2, .int x2), (3, .int x3), (4, .int x4), (5, .int x5), (7, .int ((la ((x6 + x1)).toNatClampNeg) + x3)), (8, .int ((la ((x6 + x2)).toNatClampNeg) + x3)), (9, .int x9_12)]) hx hb dX0_add_138 hl (k := 6) rfl rfl (by decide) rfl (fun ls hl => ?_)
        refine lv_goto (tgt := 26) hx hb dX0_add_141 (by decide) ?_
        exact ih (x6 + (7 : Int32)) la_13 H locs ls (hwI _ (Option.some.inj hq).symm) hP hD hS (lv_sub hl [1, 2, 3, 4, 5, 6, 0] rfl)
  have hq := hz
  dsimp only [pX0_add] at hq
  have hl := lv_entry (([.ref a0, .int y1, .int y2, .int y3] : List Value)) (n := 11) (Nat.le_of_ble_eq_true rfl)
  rw [lg_entry_eq]
  generalize (lg_sl (([.ref a0, .int y1, .int y2, .int y3] : List Value)) ++ List.replicate (11 - (lg_sl (([.ref a0, .int y1, .int y2, .int y3] : List Value))).length) Slot.unset).toArray = ls at hl ⊢
  have hl : lv_has ls 11 [(0, .ref a0), (1, .int y1), (2, .int y2), (3, .int y3)] := hl
  obtain ⟨H, hHe⟩ : ∃ H : Heap, H = s.heap := ⟨_, rfl⟩
  obtain ⟨locs, hLe⟩ : ∃ L : List Loc, L = [] := ⟨_, rfl⟩
  have hP : va_P (dC, dI) vwCl (wL cI cJ a0 a1  la0 zs0) H := by rw [hHe]; exact hP
  have hS : va_S A s.heap H locs := by rw [hHe, hLe]; exact va_S.rf
  show W p l e (headSpec wsX0_add ({ frames := 1, cells := 0, slots := 0, locals := 22 })).room s m ([.ref a0, .int y1, .int y2, .int y3] : List Value).toArray below meth c s.heap [] 0 0 (MQ below (va_Qv (fun (u : (Nat → Int32)) => pX0_add la0 zs0 y1 y2 y3 = some u) (fun u t => fw_B (dC, dI) A (wL cI cJ a0 a1  u zs0) t) A) ([.ref a0, .int y1, .int y2, .int y3] : List Value).toArray s 0 0 A) (F0 m 0 ls [])
  rw [← hHe, ← hLe]
  refine lv_aload_n hx hb dX0_add_0 rfl (lv_at hl 0 rfl) ?_
  refine lv_iload_n hx hb dX0_add_1 rfl (lv_at hl 1 rfl) ?_
  refine lv_iload_n hx hb dX0_add_2 rfl (lv_at hl 2 rfl) ?_
  have hPc := hP.sub (ws' := (wL cI cJ a0 a1  la0 zs0)) [0, 1] rfl
  have hDc := hD.sub (ws' := (wL cI cJ a0 a1  la0 zs0)) [0, 1] (by decide) rfl
  refine fw_ci (wr := []) (w2 := fun u => (wL cI cJ a0 a1  la0 zs0)) [0, 1] [] [0, 1] (va_runV (b := a0) (As := [.int y1, .int y2]) (rest := []) ⟨hx, hb, hml, hown, hts⟩ (kX0_between l dC dI cI cJ a0 a1 H.size  la0 zs0 y1 y2 (fw_be hq)) (cwV 2 hts gX0_add_X0_between rfl rfl rfl (by decide +kernel) ⟨Nat.le_of_ble_eq_true rfl, Nat.le_of_ble_eq_true rfl⟩) ⟨fw_blind, va_recv hK hPc (ci := 0) (q0 := 0) rfl rfl, fun U hU hW => fw_pre hPc hK hDc hN hU hW⟩ rfl rfl hl.1 rfl (lv_room (Nat.le_of_ble_eq_true rfl)) dX0_add_3 ⟨Nat.zero_le _, Nat.zero_le _⟩) hP hD hS hA rfl rfl (by decide) (by decide) (by decide) (fun _ => rfl) (fun r_1 u H locs hw hP hD hS => ?_)
  have hq := fw_bs hw hq
  try dsimp only at hq
  refine lv_iload_n hx hb dX0_add_6 rfl (lv_at hl 3 rfl) ?_
  refine lv_icmp_gt (tgt := 11) hx hb dX0_add_7 (by decide) (fun c_3 => ?_) (fun c_3 => ?_)
  · have hq := fw_it c_3 hq
    refine lv_iload_n hx hb dX0_add_11 rfl (lv_at hl 1 rfl) ?_
    refine lv_bipush (v := (7 : Int32)) hx hb dX0_add_12 (by decide) ?_
    refine lv_imul hx hb dX0_add_14 ?_
    refine lv_istore (lv' := [(4, .int (y1 * (7 : Int32))), (0, .ref a0), (1, .int y1), (2, .int y2), (3, .int y3)]) hx hb dX0_add_15 hl (by decide) rfl (fun ls hl => ?_)
    refine lv_iload_n hx hb dX0_add_17 rfl (lv_at hl 3 rfl) ?_
    refine lv_bipush (v := (7 : Int32)) hx hb dX0_add_18 (by decide) ?_
    refine lv_imul hx hb dX0_add_20 ?_
    refine lv_istore (lv' := [(5, .int (y2 * (7 : Int32))), (4, .int (y1 * (7 : Int32))), (0, .ref a0), (1, .int y1), (2, .int y2), (3, .int y3)]) hx hb dX0_add_21 hl (by decide) rfl (fun ls hl => ?_)
    refine lv_iconst (v := (0 : Int32)) hx hb dX0_add_23 (by decide) ?_
    refine lv_istore (lv' := [(6, .int (0 : Int32)), (5, .int (y2 * (7 : Int32))), (4, .int (y1 * (7 : Int32))), (0, .ref a0), (1, .int y1), (2, .int y2), (3, .int y3)]) hx hb dX0_add_24 hl (by decide) rfl (fun ls hl => ?_)
    obtain ⟨e_17, hw, hq⟩ := fw_bb hq
    refine L26 y1 y2 y3 (y1 * (7 : Int32)) (y2 * (7 : Int32)) e_17 (fun x6_15 la_16 H locs ls he hP hD hS hl => ?_) fw_N (0 : Int32) la0 H locs ls hw hP hD hS (lv_sub hl [3, 4, 5, 6, 2, 1, 0] rfl)
    subst he
    try dsimp only at hq
    exact W.vret hx hb hr (fun t ht hW => ⟨⟨la_16, rfl, hz.trans hq.symm, by rw [ht]; exact hP, hD⟩, hS.F ht⟩) hS.2.2 dX0_add_144
  · have hq := fw_if c_3 hq
    exact W.vret hx hb hr (fun t ht hW => ⟨⟨la0, rfl, hz.trans hq.symm, by rw [ht]; exact hP, hD⟩, hS.F ht⟩) hS.2.2 dX0_add_10
set_option maxHeartbeats 4000000 in
set_option maxRecDepth 100000 in
theorem kX2_clear (l : Launch) (dC : Nat → ClassId) (dI : Nat → Nat → Nat) (cI cJ : ClassId) (a0 a1 : Nat) (sz : Nat)  (po0 : Nat → Int32)  (hd : ∃ z, pX2_clear po0 = some z) : Met l yX2_clear wsX2_clear ({ frames := 0, cells := 0, slots := 0, locals := 0 }) (fw_Pc (dC, dI) (fw_tys cI cJ) (wP cI cJ a0 a1  po0) ([.ref a0] : List Value) sz) (va_Qv (fun (u : (Nat → Int32)) => pX2_clear po0 = some u) (fun u t => fw_B (dC, dI) (va_A (wP cI cJ a0 a1  po0) sz) (wP cI cJ a0 a1  u) t) (va_A (wP cI cJ a0 a1  po0) sz)) 0 0 (va_A (wP cI cJ a0 a1  po0) sz) := by
  obtain ⟨z, hz⟩ := hd
  refine Met.ofW (cc := cX2_clear) (maxL := 2) (ret := none) (by decide) rfl ?_
  intro p e s m args below meth c s₁ B hml hv
  obtain ⟨rfl, hsz, hP, hK, hD0, hN⟩ := hv
  have hx := B.exec
  have hb := B.bytes
  have hr := B.returns
  have hts := atoms_spec (ws := wsX2_clear) B.pre
  have hown : s.vm.findClass RX2 = some m.cls := findClass_of_methodNamed B.named
  have hlocks := B.notSynchronized
  subst hsz
  have hD := hD0.self (sz := s.heap.size)
  generalize hAe : va_A (wP cI cJ a0 a1  po0) s.heap.size = A at hD ⊢
  have hA : ∀ q : Nat, s.heap.size ≤ q → A q := fun q h => by rw [← hAe]; exact Or.inr h
  have hinX2 : ∀ w ∈ u_ws RX2 TX2 1, w ∈ wsX2_clear := by decide +kernel
  have hf9 := hts (.fieldLink RX2 9 "FewLines$Parts" "partOf" "[I") (by decide +kernel)
  have L2 : ∀  (e9 : Int32 × (Nat → Int32)), (∀ (x1' : Int32) (po' : Nat → Int32) (H : Heap) (locs : List Loc) (ls : Array Slot), e9 = (x1', po') → va_P (dC, dI) vwCl (wP cI cJ a0 a1  po') H → va_D A (wP cI cJ a0 a1  po') → va_S A s.heap H locs → lv_has ls 2 [(0, .ref a0), (1, .int x1')] → W p l e (headSpec wsX2_clear ({ frames := 0, cells := 0, slots := 0, locals := 0 })).room s m ([.ref a0] : List Value).toArray below meth c H locs 0 0 (MQ below (va_Qv (fun (u : (Nat → Int32)) => pX2_clear po0 = some u) (fun u t => fw_B (dC, dI) A (wP cI cJ a0 a1  u) t) A) ([.ref a0] : List Value).toArray s 0 0 A) (F0 m 21 ls [])) → ∀ (n9 : Nat) (x1 : Int32) (po : Nat → Int32) (H : Heap) (locs : List Loc) (ls : Array Slot), fw_wh (pX2_clear_2 ) n9 (x1, po) = some e9 → va_P (dC, dI) vwCl (wP cI cJ a0 a1  po) H → va_D A (wP cI cJ a0 a1  po) → va_S A s.heap H locs → lv_has ls 2 [(0, .ref a0), (1, .int x1)] → W p l e (headSpec wsX2_clear ({ frames := 0, cells := 0, slots := 0, locals := 0 })).room s m ([.ref a0] : List Value).toArray below meth c H locs 0 0 (MQ below (va_Qv (fun (u : (Nat → Int32)) => pX2_clear po0 = some u) (fun u t => fw_B (dC, dI) A (wP cI cJ a0 a1  u) t) A) ([.ref a0] : List Value).toArray s 0 0 A) (F0 m 2 ls []) := by
    intro  e9 hkk n9
    induction n9 with
    | zero => exact fun _ _ H locs ls hq => (fw_wh0 hq).elim
    | succ n9 ih =>
      intro x1 po H locs ls hq hP hD hS hl
      obtain ⟨w9, hq, hwI, hwE⟩ := fw_wh1 hq
      dsimp only [pX2_clear_2] at hq
      refine lv_iload_n hx hb dX2_clear_2 rfl (lv_at hl 1 rfl) ?_
      refine lv_bipush (v := (7 : Int32)) hx hb dX2_clear_3 (by decide) ?_
      refine lv_icmp_ge (tgt := 21) hx hb dX2_clear_5 (by decide) (fun c_1 => ?_) (fun c_1 => ?_)
      · have hq := fw_it c_1 hq
        exact hkk x1 po H locs ls (hwE _ (Option.some.inj hq).symm) hP hD hS (lv_sub hl [0, 1] rfl)
      · have hq := fw_if c_1 hq
        refine lv_aload_n hx hb dX2_clear_8 rfl (lv_at hl 0 rfl) ?_
        refine va_get (D := (dC, dI)) (ci := 2) (v := .ref a1) (C := RX2) (T := TX2) (N := 1) hx hb hts hinX2 hown hK hP 0 rfl rfl 0 (by decide) hf9 (fun _ h9 => h9) rfl dX2_clear_9 ?_
        refine lv_iload_n hx hb dX2_clear_12 rfl (lv_at hl 1 rfl) ?_
        refine lv_iload_n hx hb dX2_clear_13 rfl (lv_at hl 1 rfl) ?_
        obtain ⟨h_2, hq⟩ := fw_ck_s hq
        refine va_iast hx hb hK hP hD hS 1 0 rfl rfl h_2 dX2_clear_14 (fun H locs hP hD hS => ?_)
        have hP : va_P (dC, dI) vwCl (wP cI cJ a0 a1  (upd po (x1).toNatClampNeg x1)) H := hP
        have hD : va_D A (wP cI cJ a0 a1  (upd po (x1).toNatClampNeg x1)) := hD
        refine lv_iinc (v := (x1 + (1 : Int32))) (lv' := [(1, .int (x1 + (1 : Int32))), (0, .ref a0)]) hx hb dX2_clear_15 hl (k := 1) rfl rfl (by decide) rfl (fun ls hl => ?_)
        refine lv_goto (tgt := 2) hx hb dX2_clear_18 (by decide) ?_
        exact ih (x1 + (1 : Int32)) (upd po (x1).toNatClampNeg x1) H locs ls (hwI _ (Option.some.inj hq).symm) hP hD hS (lv_sub hl [1, 0] rfl)
  have hq := hz
  dsimp only [pX2_clear] at hq
  have hl := lv_entry (([.ref a0] : List Value)) (n := 2) (Nat.le_of_ble_eq_true rfl)
  rw [lg_entry_eq]
  generalize (lg_sl (([.ref a0] : List Value)) ++ List.replicate (2 - (lg_sl (([.ref a0] : List Value))).length) Slot.unset).toArray = ls at hl ⊢
  have hl : lv_has ls 2 [(0, .ref a0)] := hl
  obtain ⟨H, hHe⟩ : ∃ H : Heap, H = s.heap := ⟨_, rfl⟩
  obtain ⟨locs, hLe⟩ : ∃ L : List Loc, L = [] := ⟨_, rfl⟩
  have hP : va_P (dC, dI) vwCl (wP cI cJ a0 a1  po0) H := by rw [hHe]; exact hP
  have hS : va_S A s.heap H locs := by rw [hHe, hLe]; exact va_S.rf
  show W p l e (headSpec wsX2_clear ({ frames := 0, cells := 0, slots := 0, locals := 0 })).room s m ([.ref a0] : List Value).toArray below meth c s.heap [] 0 0 (MQ below (va_Qv (fun (u : (Nat → Int32)) => pX2_clear po0 = some u) (fun u t => fw_B (dC, dI) A (wP cI cJ a0 a1  u) t) A) ([.ref a0] : List Value).toArray s 0 0 A) (F0 m 0 ls [])
  rw [← hHe, ← hLe]
  refine lv_iconst (v := (0 : Int32)) hx hb dX2_clear_0 (by decide) ?_
  refine lv_istore_n (lv' := [(1, .int (0 : Int32)), (0, .ref a0)]) hx hb dX2_clear_1 rfl hl (by decide) rfl (fun ls hl => ?_)
  obtain ⟨e_5, hw, hq⟩ := fw_bb hq
  refine L2  e_5 (fun x1_3 po_4 H locs ls he hP hD hS hl => ?_) fw_N (0 : Int32) po0 H locs ls hw hP hD hS (lv_sub hl [1, 0] rfl)
  subst he
  try dsimp only at hq
  exact W.vret hx hb hr (fun t ht hW => ⟨⟨po_4, rfl, hz.trans hq.symm, by rw [ht]; exact hP, hD⟩, hS.F ht⟩) hS.2.2 dX2_clear_21
set_option maxHeartbeats 4000000 in
set_option maxRecDepth 100000 in
theorem kX2_join (l : Launch) (dC : Nat → ClassId) (dI : Nat → Nat → Nat) (cI cJ : ClassId) (a0 a1 : Nat) (sz : Nat)  (po0 : Nat → Int32) (y1 : Int32) (y2 : Int32) (hd : ∃ z, pX2_join po0 y1 y2 = some z) : Met l yX2_join wsX2_join ({ frames := 0, cells := 0, slots := 0, locals := 0 }) (fw_Pc (dC, dI) (fw_tys cI cJ) (wP cI cJ a0 a1  po0) ([.ref a0, .int y1, .int y2] : List Value) sz) (va_Qi (fun (r : Int32) (u : (Nat → Int32)) => pX2_join po0 y1 y2 = some (r, u) ∧ narrow .boolean (.int r) = .int r) (fun u t => fw_B (dC, dI) (va_A (wP cI cJ a0 a1  po0) sz) (wP cI cJ a0 a1  u) t) (va_A (wP cI cJ a0 a1  po0) sz)) 0 0 (va_A (wP cI cJ a0 a1  po0) sz) := by
  obtain ⟨z, hz⟩ := hd
  refine Met.ofW (cc := cX2_join) (maxL := 6) (ret := (some .boolean)) (by decide) rfl ?_
  intro p e s m args below meth c s₁ B hml hv
  obtain ⟨rfl, hsz, hP, hK, hD0, hN⟩ := hv
  have hx := B.exec
  have hb := B.bytes
  have hr := B.returns
  have hts := atoms_spec (ws := wsX2_join) B.pre
  have hown : s.vm.findClass RX2 = some m.cls := findClass_of_methodNamed B.named
  have hlocks := B.notSynchronized
  subst hsz
  have hD := hD0.self (sz := s.heap.size)
  generalize hAe : va_A (wP cI cJ a0 a1  po0) s.heap.size = A at hD ⊢
  have hA : ∀ q : Nat, s.heap.size ≤ q → A q := fun q h => by rw [← hAe]; exact Or.inr h
  have hinX2 : ∀ w ∈ u_ws RX2 TX2 1, w ∈ wsX2_join := by decide +kernel
  have hf9 := hts (.fieldLink RX2 9 "FewLines$Parts" "partOf" "[I") (by decide +kernel)
  have L26 : ∀ (x3 : Int32) (x4 : Int32) (e9 : Int32 × (Nat → Int32)), (∀ (x5' : Int32) (po' : Nat → Int32) (H : Heap) (locs : List Loc) (ls : Array Slot), e9 = (x5', po') → va_P (dC, dI) vwCl (wP cI cJ a0 a1  po') H → va_D A (wP cI cJ a0 a1  po') → va_S A s.heap H locs → lv_has ls 6 [(0, .ref a0), (3, .int x3), (4, .int x4), (5, .int x5')] → W p l e (headSpec wsX2_join ({ frames := 0, cells := 0, slots := 0, locals := 0 })).room s m ([.ref a0, .int y1, .int y2] : List Value).toArray below meth c H locs 0 0 (MQ below (va_Qi (fun (r : Int32) (u : (Nat → Int32)) => pX2_join po0 y1 y2 = some (r, u) ∧ narrow .boolean (.int r) = .int r) (fun u t => fw_B (dC, dI) A (wP cI cJ a0 a1  u) t) A) ([.ref a0, .int y1, .int y2] : List Value).toArray s 0 0 A) (F0 m 59 ls [])) → ∀ (n9 : Nat) (x5 : Int32) (po : Nat → Int32) (H : Heap) (locs : List Loc) (ls : Array Slot), fw_wh (pX2_join_26 x3 x4) n9 (x5, po) = some e9 → va_P (dC, dI) vwCl (wP cI cJ a0 a1  po) H → va_D A (wP cI cJ a0 a1  po) → va_S A s.heap H locs → lv_has ls 6 [(0, .ref a0), (3, .int x3), (4, .int x4), (5, .int x5)] → W p l e (headSpec wsX2_join ({ frames := 0, cells := 0, slots := 0, locals := 0 })).room s m ([.ref a0, .int y1, .int y2] : List Value).toArray below meth c H locs 0 0 (MQ below (va_Qi (fun (r : Int32) (u : (Nat → Int32)) => pX2_join po0 y1 y2 = some (r, u) ∧ narrow .boolean (.int r) = .int r) (fun u t => fw_B (dC, dI) A (wP cI cJ a0 a1  u) t) A) ([.ref a0, .int y1, .int y2] : List Value).toArray s 0 0 A) (F0 m 26 ls []) := by
    intro x3 x4 e9 hkk n9
    induction n9 with
    | zero => exact fun _ _ H locs ls hq => (fw_wh0 hq).elim
    | succ n9 ih =>
      intro x5 po H locs ls hq hP hD hS hl
      obtain ⟨w9, hq, hwI, hwE⟩ := fw_wh1 hq
      dsimp only [pX2_join_26] at hq
      refine lv_iload hx hb dX2_join_26 (lv_at hl 3 rfl) ?_
      refine lv_bipush (v := (7 : Int32)) hx hb dX2_join_28 (by decide) ?_
      refine lv_icmp_ge (tgt := 59) hx hb dX2_join_30 (by decide) (fun c_4 => ?_) (fun c_4 => ?_)
      · have hq := fw_it c_4 hq
        exact hkk x5 po H locs ls (hwE _ (Option.some.inj hq).symm) hP hD hS (lv_sub hl [0, 1, 2, 3] rfl)
      · have hq := fw_if c_4 hq
        refine lv_aload_n hx hb dX2_join_33 rfl (lv_at hl 0 rfl) ?_
        refine va_get (D := (dC, dI)) (ci := 2) (v := .ref a1) (C := RX2) (T := TX2) (N := 1) hx hb hts hinX2 hown hK hP 0 rfl rfl 0 (by decide) hf9 (fun _ h9 => h9) rfl dX2_join_34 ?_
        refine lv_iload hx hb dX2_join_37 (lv_at hl 3 rfl) ?_
        obtain ⟨h_5, hq⟩ := fw_ck_s hq
        refine va_iald hx hb hK hP 1 0 rfl rfl h_5 dX2_join_39 ?_
        refine lv_iload_n hx hb dX2_join_40 rfl (lv_at hl 1 rfl) ?_
        refine lv_icmp_ne (tgt := 53) hx hb dX2_join_41 (by decide) (fun c_6 => ?_) (fun c_6 => ?_)
        · have hq := fw_if c_6 hq
          refine lv_iinc (v := (x5 + (1 : Int32))) (lv' := [(5, .int (x5 + (1 : Int32))), (0, .ref a0), (3, .int x3), (4, .int x4)]) hx hb dX2_join_53 hl (k := 3) rfl rfl (by decide) rfl (fun ls hl => ?_)
          refine lv_goto (tgt := 26) hx hb dX2_join_56 (by decide) ?_
          exact ih (x5 + (1 : Int32)) po H locs ls (hwI _ (Option.some.inj hq).symm) hP hD hS (lv_sub hl [1, 2, 3, 0] rfl)
        · have hq := fw_it c_6 hq
          refine lv_aload_n hx hb dX2_join_44 rfl (lv_at hl 0 rfl) ?_
          refine va_get (D := (dC, dI)) (ci := 2) (v := .ref a1) (C := RX2) (T := TX2) (N := 1) hx hb hts hinX2 hown hK hP 0 rfl rfl 0 (by decide) hf9 (fun _ h9 => h9) rfl dX2_join_45 ?_
          refine lv_iload hx hb dX2_join_48 (lv_at hl 3 rfl) ?_
          refine lv_iload hx hb dX2_join_50 (lv_at hl 2 rfl) ?_
          obtain ⟨h_7, hq⟩ := fw_ck_s hq
          refine va_iast hx hb hK hP hD hS 1 0 rfl rfl h_7 dX2_join_52 (fun H locs hP hD hS => ?_)
          have hP : va_P (dC, dI) vwCl (wP cI cJ a0 a1  (upd po (x5).toNatClampNeg x4)) H := hP
          have hD : va_D A (wP cI cJ a0 a1  (upd po (x5).toNatClampNeg x4)) := hD
          refine lv_iinc (v := (x5 + (1 : Int32))) (lv' := [(5, .int (x5 + (1 : Int32))), (0, .ref a0), (3, .int x3), (4, .int x4)]) hx hb dX2_join_53 hl (k := 3) rfl rfl (by decide) rfl (fun ls hl => ?_)
          refine lv_goto (tgt := 26) hx hb dX2_join_56 (by decide) ?_
          exact ih (x5 + (1 : Int32)) (upd po (x5).toNatClampNeg x4) H locs ls (hwI _ (Option.some.inj hq).symm) hP hD hS (lv_sub hl [1, 2, 3, 0] rfl)
  have hq := hz
  dsimp only [pX2_join] at hq
  have hl := lv_entry (([.ref a0, .int y1, .int y2] : List Value)) (n := 6) (Nat.le_of_ble_eq_true rfl)
  rw [lg_entry_eq]
  generalize (lg_sl (([.ref a0, .int y1, .int y2] : List Value)) ++ List.replicate (6 - (lg_sl (([.ref a0, .int y1, .int y2] : List Value))).length) Slot.unset).toArray = ls at hl ⊢
  have hl : lv_has ls 6 [(0, .ref a0), (1, .int y1), (2, .int y2)] := hl
  obtain ⟨H, hHe⟩ : ∃ H : Heap, H = s.heap := ⟨_, rfl⟩
  obtain ⟨locs, hLe⟩ : ∃ L : List Loc, L = [] := ⟨_, rfl⟩
  have hP : va_P (dC, dI) vwCl (wP cI cJ a0 a1  po0) H := by rw [hHe]; exact hP
  have hS : va_S A s.heap H locs := by rw [hHe, hLe]; exact va_S.rf
  show W p l e (headSpec wsX2_join ({ frames := 0, cells := 0, slots := 0, locals := 0 })).room s m ([.ref a0, .int y1, .int y2] : List Value).toArray below meth c s.heap [] 0 0 (MQ below (va_Qi (fun (r : Int32) (u : (Nat → Int32)) => pX2_join po0 y1 y2 = some (r, u) ∧ narrow .boolean (.int r) = .int r) (fun u t => fw_B (dC, dI) A (wP cI cJ a0 a1  u) t) A) ([.ref a0, .int y1, .int y2] : List Value).toArray s 0 0 A) (F0 m 0 ls [])
  rw [← hHe, ← hLe]
  refine lv_aload_n hx hb dX2_join_0 rfl (lv_at hl 0 rfl) ?_
  refine va_get (D := (dC, dI)) (ci := 2) (v := .ref a1) (C := RX2) (T := TX2) (N := 1) hx hb hts hinX2 hown hK hP 0 rfl rfl 0 (by decide) hf9 (fun _ h9 => h9) rfl dX2_join_1 ?_
  refine lv_iload_n hx hb dX2_join_4 rfl (lv_at hl 1 rfl) ?_
  obtain ⟨h_1, hq⟩ := fw_ck_s hq
  refine va_iald hx hb hK hP 1 0 rfl rfl h_1 dX2_join_5 ?_
  refine lv_istore_n (lv' := [(3, .int (po0 (y1).toNatClampNeg)), (0, .ref a0), (1, .int y1), (2, .int y2)]) hx hb dX2_join_6 rfl hl (by decide) rfl (fun ls hl => ?_)
  refine lv_aload_n hx hb dX2_join_7 rfl (lv_at hl 1 rfl) ?_
  refine va_get (D := (dC, dI)) (ci := 2) (v := .ref a1) (C := RX2) (T := TX2) (N := 1) hx hb hts hinX2 hown hK hP 0 rfl rfl 0 (by decide) hf9 (fun _ h9 => h9) rfl dX2_join_8 ?_
  refine lv_iload_n hx hb dX2_join_11 rfl (lv_at hl 3 rfl) ?_
  obtain ⟨h_2, hq⟩ := fw_ck_s hq
  refine va_iald hx hb hK hP 1 0 rfl rfl h_2 dX2_join_12 ?_
  refine lv_istore (lv' := [(4, .int (po0 (y2).toNatClampNeg)), (3, .int (po0 (y1).toNatClampNeg)), (0, .ref a0), (1, .int y1), (2, .int y2)]) hx hb dX2_join_13 hl (by decide) rfl (fun ls hl => ?_)
  refine lv_iload_n hx hb dX2_join_15 rfl (lv_at hl 1 rfl) ?_
  refine lv_iload hx hb dX2_join_16 (lv_at hl 0 rfl) ?_
  refine lv_icmp_ne (tgt := 23) hx hb dX2_join_18 (by decide) (fun c_3 => ?_) (fun c_3 => ?_)
  · have hq := fw_if c_3 hq
    refine lv_iconst (v := (0 : Int32)) hx hb dX2_join_23 (by decide) ?_
    refine lv_istore (lv' := [(5, .int (0 : Int32)), (4, .int (po0 (y2).toNatClampNeg)), (3, .int (po0 (y1).toNatClampNeg)), (0, .ref a0), (1, .int y1), (2, .int y2)]) hx hb dX2_join_24 hl (by decide) rfl (fun ls hl => ?_)
    obtain ⟨e_10, hw, hq⟩ := fw_bb hq
    refine L26 (po0 (y1).toNatClampNeg) (po0 (y2).toNatClampNeg) e_10 (fun x5_8 po_9 H locs ls he hP hD hS hl => ?_) fw_N (0 : Int32) po0 H locs ls hw hP hD hS (lv_sub hl [3, 2, 1, 0] rfl)
    subst he
    try dsimp only at hq
    refine lv_iconst (v := (1 : Int32)) hx hb dX2_join_59 (by decide) ?_
    exact W.zret (v := (1 : Int32)) (ty := .boolean) hx hb hr rfl (fun t ht hW => ⟨⟨(1 : Int32), po_9, rfl, ⟨hz.trans hq.symm, rfl⟩, by rw [ht]; exact hP, hD⟩, hS.F ht⟩) hS.2.2 dX2_join_60
  · have hq := fw_it c_3 hq
    refine lv_iconst (v := (0 : Int32)) hx hb dX2_join_21 (by decide) ?_
    exact W.zret (v := (0 : Int32)) (ty := .boolean) hx hb hr rfl (fun t ht hW => ⟨⟨(0 : Int32), po0, rfl, ⟨hz.trans hq.symm, rfl⟩, by rw [ht]; exact hP, hD⟩, hS.F ht⟩) hS.2.2 dX2_join_22
set_option maxHeartbeats 4000000 in
set_option maxRecDepth 100000 in
theorem kX1_clear (l : Launch) (dC : Nat → ClassId) (dI : Nat → Nat → Nat) (cI cJ : ClassId) (a0 a1 a2 a3 : Nat) (sz : Nat)  (mx0 : Nat → Int64) (ch0 : Nat → Int32) (mo0 : Nat → Int64) (ms0 : Int32) (y1 : Int32) (hd : ∃ z, pX1_clear mx0 y1 = some z) : Met l yX1_clear wsX1_clear ({ frames := 1, cells := 0, slots := 0, locals := 24 }) (fw_Pc (dC, dI) (fw_tys cI cJ) (wN cI cJ a0 a1 a2 a3  mx0 ch0 mo0 ms0) ([.ref a0, .int y1] : List Value) sz) (va_Qv (fun (u : (Nat → Int64) × Int32) => pX1_clear mx0 y1 = some u) (fun u t => fw_B (dC, dI) (va_A (wN cI cJ a0 a1 a2 a3  mx0 ch0 mo0 ms0) sz) (wN cI cJ a0 a1 a2 a3  u.1 ch0 mo0 u.2) t) (va_A (wN cI cJ a0 a1 a2 a3  mx0 ch0 mo0 ms0) sz)) 0 0 (va_A (wN cI cJ a0 a1 a2 a3  mx0 ch0 mo0 ms0) sz) := by
  obtain ⟨z, hz⟩ := hd
  refine Met.ofW (cc := cX1_clear) (maxL := 2) (ret := none) (by decide) rfl ?_
  intro p e s m args below meth c s₁ B hml hv
  obtain ⟨rfl, hsz, hP, hK, hD0, hN⟩ := hv
  have hx := B.exec
  have hb := B.bytes
  have hr := B.returns
  have hts := atoms_spec (ws := wsX1_clear) B.pre
  have hown : s.vm.findClass RX1 = some m.cls := findClass_of_methodNamed B.named
  have hlocks := B.notSynchronized
  subst hsz
  have hD := hD0.self (sz := s.heap.size)
  generalize hAe : va_A (wN cI cJ a0 a1 a2 a3  mx0 ch0 mo0 ms0) s.heap.size = A at hD ⊢
  have hA : ∀ q : Nat, s.heap.size ≤ q → A q := fun q h => by rw [← hAe]; exact Or.inr h
  have hinX1 : ∀ w ∈ u_ws RX1 TX1 4, w ∈ wsX1_clear := by decide +kernel
  have hf9 := hts (.fieldLink RX1 9 "FewLines$Minors" "matrix" "[J") (by decide +kernel)
  have hf22 := hts (.fieldLink RX1 22 "FewLines$Minors" "size" "I") (by decide +kernel)
  have hq := hz
  dsimp only [pX1_clear] at hq
  have hl := lv_entry (([.ref a0, .int y1] : List Value)) (n := 2) (Nat.le_of_ble_eq_true rfl)
  rw [lg_entry_eq]
  generalize (lg_sl (([.ref a0, .int y1] : List Value)) ++ List.replicate (2 - (lg_sl (([.ref a0, .int y1] : List Value))).length) Slot.unset).toArray = ls at hl ⊢
  have hl : lv_has ls 2 [(0, .ref a0), (1, .int y1)] := hl
  obtain ⟨H, hHe⟩ : ∃ H : Heap, H = s.heap := ⟨_, rfl⟩
  obtain ⟨locs, hLe⟩ : ∃ L : List Loc, L = [] := ⟨_, rfl⟩
  have hP : va_P (dC, dI) vwCl (wN cI cJ a0 a1 a2 a3  mx0 ch0 mo0 ms0) H := by rw [hHe]; exact hP
  have hS : va_S A s.heap H locs := by rw [hHe, hLe]; exact va_S.rf
  show W p l e (headSpec wsX1_clear ({ frames := 1, cells := 0, slots := 0, locals := 24 })).room s m ([.ref a0, .int y1] : List Value).toArray below meth c s.heap [] 0 0 (MQ below (va_Qv (fun (u : (Nat → Int64) × Int32) => pX1_clear mx0 y1 = some u) (fun u t => fw_B (dC, dI) A (wN cI cJ a0 a1 a2 a3  u.1 ch0 mo0 u.2) t) A) ([.ref a0, .int y1] : List Value).toArray s 0 0 A) (F0 m 0 ls [])
  rw [← hHe, ← hLe]
  refine lv_aload_n hx hb dX1_clear_0 rfl (lv_at hl 0 rfl) ?_
  refine lv_iload_n hx hb dX1_clear_1 rfl (lv_at hl 1 rfl) ?_
  refine lv_bipush (v := (7 : Int32)) hx hb dX1_clear_2 (by decide) ?_
  refine va_mmin hx hb (by rw [hml]; exact hl.1.symm) hown (hts (.methodLink RX1 26 Lib.Math.min.name) (by decide +kernel)) (hts (.static Lib.Math.min.name) (by decide +kernel)) (hts (.initialized "java/lang/Math") (by decide +kernel)) (hts (.code Lib.Math.min.name Lib.Math.min.code 2 (some .int)) (by decide +kernel)) (Nat.le_of_ble_eq_true rfl) (Nat.le_of_ble_eq_true rfl) (Nat.zero_le _) (Nat.zero_le _) dX1_clear_4 ?_
  refine va_put (D := (dC, dI)) (ci := 1) (v := .int (if (7 : Int32) < y1 then (7 : Int32) else y1)) (ty := .int) (C := RX1) (T := TX1) (N := 4) hx hb hts hinX1 tyX1 tyX1_ok nmX1 hown hK hP hD hS 0 rfl rfl 3 (by decide) hf22 (fun _ h9 => h9) rfl (by decide +kernel) rfl rfl (Nat.le_of_ble_eq_true rfl) dX1_clear_7 (fun H locs hP hD hS => ?_)
  have hP : va_P (dC, dI) vwCl (wN cI cJ a0 a1 a2 a3  mx0 ch0 mo0 (if (7 : Int32) < y1 then (7 : Int32) else y1)) H := hP
  have hD : va_D A (wN cI cJ a0 a1 a2 a3  mx0 ch0 mo0 (if (7 : Int32) < y1 then (7 : Int32) else y1)) := hD
  refine lv_aload_n hx hb dX1_clear_10 rfl (lv_at hl 0 rfl) ?_
  refine va_get (D := (dC, dI)) (ci := 1) (v := .ref a1) (C := RX1) (T := TX1) (N := 4) hx hb hts hinX1 hown hK hP 0 rfl rfl 0 (by decide) hf9 (fun _ h9 => h9) rfl dX1_clear_11 ?_
  refine lv_lconst (v := (0 : Int64)) hx hb dX1_clear_14 (by decide) ?_
  have hPc := hP.sub (ws' := (wB cI cJ a1 49 mx0)) [1] rfl
  have hDc := hD.sub (ws' := (wB cI cJ a1 49 mx0)) [1] (by decide) rfl
  refine fw_cv (wr := [(a0, .inr (1, [.ref a1, .ref a2, .ref a3, .int (if (7 : Int32) < y1 then (7 : Int32) else y1)])), (a2, .inl (cI, 7, .inl ch0)), (a3, .inl (cJ, 128, .inr (.inl mo0)))]) (w2 := fun u => (wN cI cJ a0 a1 a2 a3  u ch0 mo0 (if (7 : Int32) < y1 then (7 : Int32) else y1))) [1] [0, 2, 3] [0, 3, 1, 2] (va_runS (As := [.ref a1, .long (0 : Int64)]) (rest := []) ⟨hx, hb, hml, hown, hts⟩ (kJ7_fill_d0a16 l dC dI cI cJ a1 H.size 49 mx0 (0 : Int64) (fw_be hq)) (va_cwS 2 hts gX1_clear_J7_fill_d0a16 rfl rfl rfl (by decide +kernel) ⟨Nat.le_of_ble_eq_true rfl, Nat.le_of_ble_eq_true rfl⟩) ⟨fw_blind, fun U hU hW => fw_pre hPc hK hDc hN hU hW⟩ rfl rfl hl.1 rfl (lv_room (Nat.le_of_ble_eq_true rfl)) dX1_clear_15 ⟨Nat.zero_le _, Nat.zero_le _⟩) hP hD hS hA rfl rfl (by decide) (by decide) (by decide) (fun _ => rfl) (fun u H locs hw hP hD hS => ?_)
  obtain ⟨g_1, rfl⟩ : ∃ z, z = u := ⟨_, rfl⟩
  have hq := fw_bs hw hq
  try dsimp only at hq
  have hP : va_P (dC, dI) vwCl (wN cI cJ a0 a1 a2 a3  g_1 ch0 mo0 (if (7 : Int32) < y1 then (7 : Int32) else y1)) H := hP
  have hD : va_D A (wN cI cJ a0 a1 a2 a3  g_1 ch0 mo0 (if (7 : Int32) < y1 then (7 : Int32) else y1)) := hD
  exact W.vret hx hb hr (fun t ht hW => ⟨⟨(g_1, (if (7 : Int32) < y1 then (7 : Int32) else y1)), rfl, hz.trans hq.symm, by rw [ht]; exact hP, hD⟩, hS.F ht⟩) hS.2.2 dX1_clear_18
set_option maxHeartbeats 4000000 in
set_option maxRecDepth 100000 in
theorem kX1_add (l : Launch) (dC : Nat → ClassId) (dI : Nat → Nat → Nat) (cI cJ : ClassId) (a0 a1 a2 a3 : Nat) (sz : Nat)  (mx0 : Nat → Int64) (ch0 : Nat → Int32) (mo0 : Nat → Int64) (ms0 : Int32) (y1 : Int32) (y2 : Int32) (y3 : Int32) (hd : ∃ z, pX1_add mx0 y1 y2 y3 = some z) : Met l yX1_add wsX1_add ({ frames := 0, cells := 0, slots := 0, locals := 0 }) (fw_Pc (dC, dI) (fw_tys cI cJ) (wN cI cJ a0 a1 a2 a3  mx0 ch0 mo0 ms0) ([.ref a0, .int y1, .int y2, .int y3] : List Value) sz) (va_Qv (fun (u : (Nat → Int64)) => pX1_add mx0 y1 y2 y3 = some u) (fun u t => fw_B (dC, dI) (va_A (wN cI cJ a0 a1 a2 a3  mx0 ch0 mo0 ms0) sz) (wN cI cJ a0 a1 a2 a3  u ch0 mo0 ms0) t) (va_A (wN cI cJ a0 a1 a2 a3  mx0 ch0 mo0 ms0) sz)) 0 0 (va_A (wN cI cJ a0 a1 a2 a3  mx0 ch0 mo0 ms0) sz) := by
  obtain ⟨z, hz⟩ := hd
  refine Met.ofW (cc := cX1_add) (maxL := 4) (ret := none) (by decide) rfl ?_
  intro p e s m args below meth c s₁ B hml hv
  obtain ⟨rfl, hsz, hP, hK, hD0, hN⟩ := hv
  have hx := B.exec
  have hb := B.bytes
  have hr := B.returns
  have hts := atoms_spec (ws := wsX1_add) B.pre
  have hown : s.vm.findClass RX1 = some m.cls := findClass_of_methodNamed B.named
  have hlocks := B.notSynchronized
  subst hsz
  have hD := hD0.self (sz := s.heap.size)
  generalize hAe : va_A (wN cI cJ a0 a1 a2 a3  mx0 ch0 mo0 ms0) s.heap.size = A at hD ⊢
  have hA : ∀ q : Nat, s.heap.size ≤ q → A q := fun q h => by rw [← hAe]; exact Or.inr h
  have hinX1 : ∀ w ∈ u_ws RX1 TX1 4, w ∈ wsX1_add := by decide +kernel
  have hf9 := hts (.fieldLink RX1 9 "FewLines$Minors" "matrix" "[J") (by decide +kernel)
  have hq := hz
  dsimp only [pX1_add] at hq
  have hl := lv_entry (([.ref a0, .int y1, .int y2, .int y3] : List Value)) (n := 4) (Nat.le_of_ble_eq_true rfl)
  rw [lg_entry_eq]
  generalize (lg_sl (([.ref a0, .int y1, .int y2, .int y3] : List Value)) ++ List.replicate (4 - (lg_sl (([.ref a0, .int y1, .int y2, .int y3] : List Value))).length) Slot.unset).toArray = ls at hl ⊢
  have hl : lv_has ls 4 [(0, .ref a0), (1, .int y1), (2, .int y2), (3, .int y3)] := hl
  obtain ⟨H, hHe⟩ : ∃ H : Heap, H = s.heap := ⟨_, rfl⟩
  obtain ⟨locs, hLe⟩ : ∃ L : List Loc, L = [] := ⟨_, rfl⟩
  have hP : va_P (dC, dI) vwCl (wN cI cJ a0 a1 a2 a3  mx0 ch0 mo0 ms0) H := by rw [hHe]; exact hP
  have hS : va_S A s.heap H locs := by rw [hHe, hLe]; exact va_S.rf
  show W p l e (headSpec wsX1_add ({ frames := 0, cells := 0, slots := 0, locals := 0 })).room s m ([.ref a0, .int y1, .int y2, .int y3] : List Value).toArray below meth c s.heap [] 0 0 (MQ below (va_Qv (fun (u : (Nat → Int64)) => pX1_add mx0 y1 y2 y3 = some u) (fun u t => fw_B (dC, dI) A (wN cI cJ a0 a1 a2 a3  u ch0 mo0 ms0) t) A) ([.ref a0, .int y1, .int y2, .int y3] : List Value).toArray s 0 0 A) (F0 m 0 ls [])
  rw [← hHe, ← hLe]
  refine lv_aload_n hx hb dX1_add_0 rfl (lv_at hl 0 rfl) ?_
  refine va_get (D := (dC, dI)) (ci := 1) (v := .ref a1) (C := RX1) (T := TX1) (N := 4) hx hb hts hinX1 hown hK hP 0 rfl rfl 0 (by decide) hf9 (fun _ h9 => h9) rfl dX1_add_1 ?_
  refine lv_iload_n hx hb dX1_add_4 rfl (lv_at hl 1 rfl) ?_
  refine lv_bipush (v := (7 : Int32)) hx hb dX1_add_5 (by decide) ?_
  refine lv_imul hx hb dX1_add_7 ?_
  refine lv_iload_n hx hb dX1_add_8 rfl (lv_at hl 1 rfl) ?_
  refine lv_iadd hx hb dX1_add_9 ?_
  refine lv_dup2_11 hx hb dX1_add_10 rfl rfl ?_
  obtain ⟨h_1, hq⟩ := fw_ck_s hq
  refine va_lald hx hb hK hP 1 1 rfl rfl h_1 dX1_add_11 ?_
  refine lv_iload_n hx hb dX1_add_12 rfl (lv_at hl 3 rfl) ?_
  refine lv_i2l (v := (y3).toInt64) hx hb dX1_add_13 rfl ?_
  refine lv_ladd hx hb dX1_add_14 ?_
  obtain ⟨h_2, hq⟩ := fw_ck_s hq
  refine va_last hx hb hK hP hD hS 1 1 rfl rfl h_2 dX1_add_15 (fun H locs hP hD hS => ?_)
  have hP : va_P (dC, dI) vwCl (wN cI cJ a0 a1 a2 a3  (vp_updL mx0 (((y1 * (7 : Int32)) + y1)).toNatClampNeg ((mx0 (((y1 * (7 : Int32)) + y1)).toNatClampNeg) + (y3).toInt64)) ch0 mo0 ms0) H := hP
  have hD : va_D A (wN cI cJ a0 a1 a2 a3  (vp_updL mx0 (((y1 * (7 : Int32)) + y1)).toNatClampNeg ((mx0 (((y1 * (7 : Int32)) + y1)).toNatClampNeg) + (y3).toInt64)) ch0 mo0 ms0) := hD
  refine lv_aload_n hx hb dX1_add_16 rfl (lv_at hl 0 rfl) ?_
  refine va_get (D := (dC, dI)) (ci := 1) (v := .ref a1) (C := RX1) (T := TX1) (N := 4) hx hb hts hinX1 hown hK hP 0 rfl rfl 0 (by decide) hf9 (fun _ h9 => h9) rfl dX1_add_17 ?_
  refine lv_iload_n hx hb dX1_add_20 rfl (lv_at hl 2 rfl) ?_
  refine lv_bipush (v := (7 : Int32)) hx hb dX1_add_21 (by decide) ?_
  refine lv_imul hx hb dX1_add_23 ?_
  refine lv_iload_n hx hb dX1_add_24 rfl (lv_at hl 2 rfl) ?_
  refine lv_iadd hx hb dX1_add_25 ?_
  refine lv_dup2_11 hx hb dX1_add_26 rfl rfl ?_
  obtain ⟨h_3, hq⟩ := fw_ck_s hq
  refine va_lald hx hb hK hP 1 1 rfl rfl h_3 dX1_add_27 ?_
  refine lv_iload_n hx hb dX1_add_28 rfl (lv_at hl 3 rfl) ?_
  refine lv_i2l (v := (y3).toInt64) hx hb dX1_add_29 rfl ?_
  refine lv_ladd hx hb dX1_add_30 ?_
  obtain ⟨h_4, hq⟩ := fw_ck_s hq
  refine va_last hx hb hK hP hD hS 1 1 rfl rfl h_4 dX1_add_31 (fun H locs hP hD hS => ?_)
  have hP : va_P (dC, dI) vwCl (wN cI cJ a0 a1 a2 a3  (vp_updL (vp_updL mx0 (((y1 * (7 : Int32)) + y1)).toNatClampNeg ((mx0 (((y1 * (7 : Int32)) + y1)).toNatClampNeg) + (y3).toInt64)) (((y2 * (7 : Int32)) + y2)).toNatClampNeg (((vp_updL mx0 (((y1 * (7 : Int32)) + y1)).toNatClampNeg ((mx0 (((y1 * (7 : Int32)) + y1)).toNatClampNeg) + (y3).toInt64)) (((y2 * (7 : Int32)) + y2)).toNatClampNeg) + (y3).toInt64)) ch0 mo0 ms0) H := hP
  have hD : va_D A (wN cI cJ a0 a1 a2 a3  (vp_updL (vp_updL mx0 (((y1 * (7 : Int32)) + y1)).toNatClampNeg ((mx0 (((y1 * (7 : Int32)) + y1)).toNatClampNeg) + (y3).toInt64)) (((y2 * (7 : Int32)) + y2)).toNatClampNeg (((vp_updL mx0 (((y1 * (7 : Int32)) + y1)).toNatClampNeg ((mx0 (((y1 * (7 : Int32)) + y1)).toNatClampNeg) + (y3).toInt64)) (((y2 * (7 : Int32)) + y2)).toNatClampNeg) + (y3).toInt64)) ch0 mo0 ms0) := hD
  refine lv_aload_n hx hb dX1_add_32 rfl (lv_at hl 0 rfl) ?_
  refine va_get (D := (dC, dI)) (ci := 1) (v := .ref a1) (C := RX1) (T := TX1) (N := 4) hx hb hts hinX1 hown hK hP 0 rfl rfl 0 (by decide) hf9 (fun _ h9 => h9) rfl dX1_add_33 ?_
  refine lv_iload_n hx hb dX1_add_36 rfl (lv_at hl 1 rfl) ?_
  refine lv_bipush (v := (7 : Int32)) hx hb dX1_add_37 (by decide) ?_
  refine lv_imul hx hb dX1_add_39 ?_
  refine lv_iload_n hx hb dX1_add_40 rfl (lv_at hl 2 rfl) ?_
  refine lv_iadd hx hb dX1_add_41 ?_
  refine lv_dup2_11 hx hb dX1_add_42 rfl rfl ?_
  obtain ⟨h_5, hq⟩ := fw_ck_s hq
  refine va_lald hx hb hK hP 1 1 rfl rfl h_5 dX1_add_43 ?_
  refine lv_iload_n hx hb dX1_add_44 rfl (lv_at hl 3 rfl) ?_
  refine lv_i2l (v := (y3).toInt64) hx hb dX1_add_45 rfl ?_
  refine lv_lsub hx hb dX1_add_46 ?_
  obtain ⟨h_6, hq⟩ := fw_ck_s hq
  refine va_last hx hb hK hP hD hS 1 1 rfl rfl h_6 dX1_add_47 (fun H locs hP hD hS => ?_)
  have hP : va_P (dC, dI) vwCl (wN cI cJ a0 a1 a2 a3  (vp_updL (vp_updL (vp_updL mx0 (((y1 * (7 : Int32)) + y1)).toNatClampNeg ((mx0 (((y1 * (7 : Int32)) + y1)).toNatClampNeg) + (y3).toInt64)) (((y2 * (7 : Int32)) + y2)).toNatClampNeg (((vp_updL mx0 (((y1 * (7 : Int32)) + y1)).toNatClampNeg ((mx0 (((y1 * (7 : Int32)) + y1)).toNatClampNeg) + (y3).toInt64)) (((y2 * (7 : Int32)) + y2)).toNatClampNeg) + (y3).toInt64)) (((y1 * (7 : Int32)) + y2)).toNatClampNeg (((vp_updL (vp_updL mx0 (((y1 * (7 : Int32)) + y1)).toNatClampNeg ((mx0 (((y1 * (7 : Int32)) + y1)).toNatClampNeg) + (y3).toInt64)) (((y2 * (7 : Int32)) + y2)).toNatClampNeg (((vp_updL mx0 (((y1 * (7 : Int32)) + y1)).toNatClampNeg ((mx0 (((y1 * (7 : Int32)) + y1)).toNatClampNeg) + (y3).toInt64)) (((y2 * (7 : Int32)) + y2)).toNatClampNeg) + (y3).toInt64)) (((y1 * (7 : Int32)) + y2)).toNatClampNeg) - (y3).toInt64)) ch0 mo0 ms0) H := hP
  have hD : va_D A (wN cI cJ a0 a1 a2 a3  (vp_updL (vp_updL (vp_updL mx0 (((y1 * (7 : Int32)) + y1)).toNatClampNeg ((mx0 (((y1 * (7 : Int32)) + y1)).toNatClampNeg) + (y3).toInt64)) (((y2 * (7 : Int32)) + y2)).toNatClampNeg (((vp_updL mx0 (((y1 * (7 : Int32)) + y1)).toNatClampNeg ((mx0 (((y1 * (7 : Int32)) + y1)).toNatClampNeg) + (y3).toInt64)) (((y2 * (7 : Int32)) + y2)).toNatClampNeg) + (y3).toInt64)) (((y1 * (7 : Int32)) + y2)).toNatClampNeg (((vp_updL (vp_updL mx0 (((y1 * (7 : Int32)) + y1)).toNatClampNeg ((mx0 (((y1 * (7 : Int32)) + y1)).toNatClampNeg) + (y3).toInt64)) (((y2 * (7 : Int32)) + y2)).toNatClampNeg (((vp_updL mx0 (((y1 * (7 : Int32)) + y1)).toNatClampNeg ((mx0 (((y1 * (7 : Int32)) + y1)).toNatClampNeg) + (y3).toInt64)) (((y2 * (7 : Int32)) + y2)).toNatClampNeg) + (y3).toInt64)) (((y1 * (7 : Int32)) + y2)).toNatClampNeg) - (y3).toInt64)) ch0 mo0 ms0) := hD
  refine lv_aload_n hx hb dX1_add_48 rfl (lv_at hl 0 rfl) ?_
  refine va_get (D := (dC, dI)) (ci := 1) (v := .ref a1) (C := RX1) (T := TX1) (N := 4) hx hb hts hinX1 hown hK hP 0 rfl rfl 0 (by decide) hf9 (fun _ h9 => h9) rfl dX1_add_49 ?_
  refine lv_iload_n hx hb dX1_add_52 rfl (lv_at hl 2 rfl) ?_
  refine lv_bipush (v := (7 : Int32)) hx hb dX1_add_53 (by decide) ?_
  refine lv_imul hx hb dX1_add_55 ?_
  refine lv_iload_n hx hb dX1_add_56 rfl (lv_at hl 1 rfl) ?_
  refine lv_iadd hx hb dX1_add_57 ?_
  refine lv_dup2_11 hx hb dX1_add_58 rfl rfl ?_
  obtain ⟨h_7, hq⟩ := fw_ck_s hq
  refine va_lald hx hb hK hP 1 1 rfl rfl h_7 dX1_add_59 ?_
  refine lv_iload_n hx hb dX1_add_60 rfl (lv_at hl 3 rfl) ?_
  refine lv_i2l (v := (y3).toInt64) hx hb dX1_add_61 rfl ?_
  refine lv_lsub hx hb dX1_add_62 ?_
  obtain ⟨h_8, hq⟩ := fw_ck_s hq
  refine va_last hx hb hK hP hD hS 1 1 rfl rfl h_8 dX1_add_63 (fun H locs hP hD hS => ?_)
  have hP : va_P (dC, dI) vwCl (wN cI cJ a0 a1 a2 a3  (vp_updL (vp_updL (vp_updL (vp_updL mx0 (((y1 * (7 : Int32)) + y1)).toNatClampNeg ((mx0 (((y1 * (7 : Int32)) + y1)).toNatClampNeg) + (y3).toInt64)) (((y2 * (7 : Int32)) + y2)).toNatClampNeg (((vp_updL mx0 (((y1 * (7 : Int32)) + y1)).toNatClampNeg ((mx0 (((y1 * (7 : Int32)) + y1)).toNatClampNeg) + (y3).toInt64)) (((y2 * (7 : Int32)) + y2)).toNatClampNeg) + (y3).toInt64)) (((y1 * (7 : Int32)) + y2)).toNatClampNeg (((vp_updL (vp_updL mx0 (((y1 * (7 : Int32)) + y1)).toNatClampNeg ((mx0 (((y1 * (7 : Int32)) + y1)).toNatClampNeg) + (y3).toInt64)) (((y2 * (7 : Int32)) + y2)).toNatClampNeg (((vp_updL mx0 (((y1 * (7 : Int32)) + y1)).toNatClampNeg ((mx0 (((y1 * (7 : Int32)) + y1)).toNatClampNeg) + (y3).toInt64)) (((y2 * (7 : Int32)) + y2)).toNatClampNeg) + (y3).toInt64)) (((y1 * (7 : Int32)) + y2)).toNatClampNeg) - (y3).toInt64)) (((y2 * (7 : Int32)) + y1)).toNatClampNeg (((vp_updL (vp_updL (vp_updL mx0 (((y1 * (7 : Int32)) + y1)).toNatClampNeg ((mx0 (((y1 * (7 : Int32)) + y1)).toNatClampNeg) + (y3).toInt64)) (((y2 * (7 : Int32)) + y2)).toNatClampNeg (((vp_updL mx0 (((y1 * (7 : Int32)) + y1)).toNatClampNeg ((mx0 (((y1 * (7 : Int32)) + y1)).toNatClampNeg) + (y3).toInt64)) (((y2 * (7 : Int32)) + y2)).toNatClampNeg) + (y3).toInt64)) (((y1 * (7 : Int32)) + y2)).toNatClampNeg (((vp_updL (vp_updL mx0 (((y1 * (7 : Int32)) + y1)).toNatClampNeg ((mx0 (((y1 * (7 : Int32)) + y1)).toNatClampNeg) + (y3).toInt64)) (((y2 * (7 : Int32)) + y2)).toNatClampNeg (((vp_updL mx0 (((y1 * (7 : Int32)) + y1)).toNatClampNeg ((mx0 (((y1 * (7 : Int32)) + y1)).toNatClampNeg) + (y3).toInt64)) (((y2 * (7 : Int32)) + y2)).toNatClampNeg) + (y3).toInt64)) (((y1 * (7 : Int32)) + y2)).toNatClampNeg) - (y3).toInt64)) (((y2 * (7 : Int32)) + y1)).toNatClampNeg) - (y3).toInt64)) ch0 mo0 ms0) H := hP
  have hD : va_D A (wN cI cJ a0 a1 a2 a3  (vp_updL (vp_updL (vp_updL (vp_updL mx0 (((y1 * (7 : Int32)) + y1)).toNatClampNeg ((mx0 (((y1 * (7 : Int32)) + y1)).toNatClampNeg) + (y3).toInt64)) (((y2 * (7 : Int32)) + y2)).toNatClampNeg (((vp_updL mx0 (((y1 * (7 : Int32)) + y1)).toNatClampNeg ((mx0 (((y1 * (7 : Int32)) + y1)).toNatClampNeg) + (y3).toInt64)) (((y2 * (7 : Int32)) + y2)).toNatClampNeg) + (y3).toInt64)) (((y1 * (7 : Int32)) + y2)).toNatClampNeg (((vp_updL (vp_updL mx0 (((y1 * (7 : Int32)) + y1)).toNatClampNeg ((mx0 (((y1 * (7 : Int32)) + y1)).toNatClampNeg) + (y3).toInt64)) (((y2 * (7 : Int32)) + y2)).toNatClampNeg (((vp_updL mx0 (((y1 * (7 : Int32)) + y1)).toNatClampNeg ((mx0 (((y1 * (7 : Int32)) + y1)).toNatClampNeg) + (y3).toInt64)) (((y2 * (7 : Int32)) + y2)).toNatClampNeg) + (y3).toInt64)) (((y1 * (7 : Int32)) + y2)).toNatClampNeg) - (y3).toInt64)) (((y2 * (7 : Int32)) + y1)).toNatClampNeg (((vp_updL (vp_updL (vp_updL mx0 (((y1 * (7 : Int32)) + y1)).toNatClampNeg ((mx0 (((y1 * (7 : Int32)) + y1)).toNatClampNeg) + (y3).toInt64)) (((y2 * (7 : Int32)) + y2)).toNatClampNeg (((vp_updL mx0 (((y1 * (7 : Int32)) + y1)).toNatClampNeg ((mx0 (((y1 * (7 : Int32)) + y1)).toNatClampNeg) + (y3).toInt64)) (((y2 * (7 : Int32)) + y2)).toNatClampNeg) + (y3).toInt64)) (((y1 * (7 : Int32)) + y2)).toNatClampNeg (((vp_updL (vp_updL mx0 (((y1 * (7 : Int32)) + y1)).toNatClampNeg ((mx0 (((y1 * (7 : Int32)) + y1)).toNatClampNeg) + (y3).toInt64)) (((y2 * (7 : Int32)) + y2)).toNatClampNeg (((vp_updL mx0 (((y1 * (7 : Int32)) + y1)).toNatClampNeg ((mx0 (((y1 * (7 : Int32)) + y1)).toNatClampNeg) + (y3).toInt64)) (((y2 * (7 : Int32)) + y2)).toNatClampNeg) + (y3).toInt64)) (((y1 * (7 : Int32)) + y2)).toNatClampNeg) - (y3).toInt64)) (((y2 * (7 : Int32)) + y1)).toNatClampNeg) - (y3).toInt64)) ch0 mo0 ms0) := hD
  exact W.vret hx hb hr (fun t ht hW => ⟨⟨(vp_updL (vp_updL (vp_updL (vp_updL mx0 (((y1 * (7 : Int32)) + y1)).toNatClampNeg ((mx0 (((y1 * (7 : Int32)) + y1)).toNatClampNeg) + (y3).toInt64)) (((y2 * (7 : Int32)) + y2)).toNatClampNeg (((vp_updL mx0 (((y1 * (7 : Int32)) + y1)).toNatClampNeg ((mx0 (((y1 * (7 : Int32)) + y1)).toNatClampNeg) + (y3).toInt64)) (((y2 * (7 : Int32)) + y2)).toNatClampNeg) + (y3).toInt64)) (((y1 * (7 : Int32)) + y2)).toNatClampNeg (((vp_updL (vp_updL mx0 (((y1 * (7 : Int32)) + y1)).toNatClampNeg ((mx0 (((y1 * (7 : Int32)) + y1)).toNatClampNeg) + (y3).toInt64)) (((y2 * (7 : Int32)) + y2)).toNatClampNeg (((vp_updL mx0 (((y1 * (7 : Int32)) + y1)).toNatClampNeg ((mx0 (((y1 * (7 : Int32)) + y1)).toNatClampNeg) + (y3).toInt64)) (((y2 * (7 : Int32)) + y2)).toNatClampNeg) + (y3).toInt64)) (((y1 * (7 : Int32)) + y2)).toNatClampNeg) - (y3).toInt64)) (((y2 * (7 : Int32)) + y1)).toNatClampNeg (((vp_updL (vp_updL (vp_updL mx0 (((y1 * (7 : Int32)) + y1)).toNatClampNeg ((mx0 (((y1 * (7 : Int32)) + y1)).toNatClampNeg) + (y3).toInt64)) (((y2 * (7 : Int32)) + y2)).toNatClampNeg (((vp_updL mx0 (((y1 * (7 : Int32)) + y1)).toNatClampNeg ((mx0 (((y1 * (7 : Int32)) + y1)).toNatClampNeg) + (y3).toInt64)) (((y2 * (7 : Int32)) + y2)).toNatClampNeg) + (y3).toInt64)) (((y1 * (7 : Int32)) + y2)).toNatClampNeg (((vp_updL (vp_updL mx0 (((y1 * (7 : Int32)) + y1)).toNatClampNeg ((mx0 (((y1 * (7 : Int32)) + y1)).toNatClampNeg) + (y3).toInt64)) (((y2 * (7 : Int32)) + y2)).toNatClampNeg (((vp_updL mx0 (((y1 * (7 : Int32)) + y1)).toNatClampNeg ((mx0 (((y1 * (7 : Int32)) + y1)).toNatClampNeg) + (y3).toInt64)) (((y2 * (7 : Int32)) + y2)).toNatClampNeg) + (y3).toInt64)) (((y1 * (7 : Int32)) + y2)).toNatClampNeg) - (y3).toInt64)) (((y2 * (7 : Int32)) + y1)).toNatClampNeg) - (y3).toInt64)), rfl, hz.trans hq.symm, by rw [ht]; exact hP, hD⟩, hS.F ht⟩) hS.2.2 dX1_add_64
set_option maxHeartbeats 4000000 in
set_option maxRecDepth 100000 in
theorem kX1_choose (l : Launch) (dC : Nat → ClassId) (dI : Nat → Nat → Nat) (cI cJ : ClassId) (a0 a1 a2 a3 : Nat) (sz : Nat)  (mx0 : Nat → Int64) (ch0 : Nat → Int32) (mo0 : Nat → Int64) (ms0 : Int32) (y1 : Int32) (hd : ∃ z, pX1_choose ch0 ms0 y1 = some z) : Met l yX1_choose wsX1_choose ({ frames := 1, cells := 0, slots := 0, locals := 21 }) (fw_Pc (dC, dI) (fw_tys cI cJ) (wN cI cJ a0 a1 a2 a3  mx0 ch0 mo0 ms0) ([.ref a0, .int y1] : List Value) sz) (va_Qi (fun (r : Int32) (u : (Nat → Int32)) => pX1_choose ch0 ms0 y1 = some (r, u)) (fun u t => fw_B (dC, dI) (va_A (wN cI cJ a0 a1 a2 a3  mx0 ch0 mo0 ms0) sz) (wN cI cJ a0 a1 a2 a3  mx0 u mo0 ms0) t) (va_A (wN cI cJ a0 a1 a2 a3  mx0 ch0 mo0 ms0) sz)) 0 0 (va_A (wN cI cJ a0 a1 a2 a3  mx0 ch0 mo0 ms0) sz) := by
  obtain ⟨z, hz⟩ := hd
  refine Met.ofW (cc := cX1_choose) (maxL := 4) (ret := (some .int)) (by decide) rfl ?_
  intro p e s m args below meth c s₁ B hml hv
  obtain ⟨rfl, hsz, hP, hK, hD0, hN⟩ := hv
  have hx := B.exec
  have hb := B.bytes
  have hr := B.returns
  have hts := atoms_spec (ws := wsX1_choose) B.pre
  have hown : s.vm.findClass RX1 = some m.cls := findClass_of_methodNamed B.named
  have hlocks := B.notSynchronized
  subst hsz
  have hD := hD0.self (sz := s.heap.size)
  generalize hAe : va_A (wN cI cJ a0 a1 a2 a3  mx0 ch0 mo0 ms0) s.heap.size = A at hD ⊢
  have hA : ∀ q : Nat, s.heap.size ≤ q → A q := fun q h => by rw [← hAe]; exact Or.inr h
  have hinX1 : ∀ w ∈ u_ws RX1 TX1 4, w ∈ wsX1_choose := by decide +kernel
  have hf15 := hts (.fieldLink RX1 15 "FewLines$Minors" "chosen" "[I") (by decide +kernel)
  have hf22 := hts (.fieldLink RX1 22 "FewLines$Minors" "size" "I") (by decide +kernel)
  have L4 : ∀ (x1 : Int32) (e9 : Int32 × Int32 × (Nat → Int32)), (∀ (x2' : Int32) (x3' : Int32) (ch' : Nat → Int32) (H : Heap) (locs : List Loc) (ls : Array Slot), e9 = (x2', x3', ch') → va_P (dC, dI) vwCl (wN cI cJ a0 a1 a2 a3  mx0 ch' mo0 ms0) H → va_D A (wN cI cJ a0 a1 a2 a3  mx0 ch' mo0 ms0) → va_S A s.heap H locs → lv_has ls 4 [(0, .ref a0), (1, .int x1), (2, .int x2'), (3, .int x3')] → W p l e (headSpec wsX1_choose ({ frames := 1, cells := 0, slots := 0, locals := 21 })).room s m ([.ref a0, .int y1] : List Value).toArray below meth c H locs 0 0 (MQ below (va_Qi (fun (r : Int32) (u : (Nat → Int32)) => pX1_choose ch0 ms0 y1 = some (r, u)) (fun u t => fw_B (dC, dI) A (wN cI cJ a0 a1 a2 a3  mx0 u mo0 ms0) t) A) ([.ref a0, .int y1] : List Value).toArray s 0 0 A) (F0 m 36 ls [])) → ∀ (n9 : Nat) (x2 : Int32) (x3 : Int32) (ch : Nat → Int32) (H : Heap) (locs : List Loc) (ls : Array Slot), fw_wh (pX1_choose_4 x1 ms0) n9 (x2, x3, ch) = some e9 → va_P (dC, dI) vwCl (wN cI cJ a0 a1 a2 a3  mx0 ch mo0 ms0) H → va_D A (wN cI cJ a0 a1 a2 a3  mx0 ch mo0 ms0) → va_S A s.heap H locs → lv_has ls 4 [(0, .ref a0), (1, .int x1), (2, .int x2), (3, .int x3)] → W p l e (headSpec wsX1_choose ({ frames := 1, cells := 0, slots := 0, locals := 21 })).room s m ([.ref a0, .int y1] : List Value).toArray below meth c H locs 0 0 (MQ below (va_Qi (fun (r : Int32) (u : (Nat → Int32)) => pX1_choose ch0 ms0 y1 = some (r, u)) (fun u t => fw_B (dC, dI) A (wN cI cJ a0 a1 a2 a3  mx0 u mo0 ms0) t) A) ([.ref a0, .int y1] : List Value).toArray s 0 0 A) (F0 m 4 ls []) := by
    intro x1 e9 hkk n9
    induction n9 with
    | zero => exact fun _ _ _ H locs ls hq => (fw_wh0 hq).elim
    | succ n9 ih =>
      intro x2 x3 ch H locs ls hq hP hD hS hl
      obtain ⟨w9, hq, hwI, hwE⟩ := fw_wh1 hq
      dsimp only [pX1_choose_4] at hq
      refine lv_iload_n hx hb dX1_choose_4 rfl (lv_at hl 3 rfl) ?_
      refine lv_aload_n hx hb dX1_choose_5 rfl (lv_at hl 0 rfl) ?_
      refine va_get (D := (dC, dI)) (ci := 1) (v := .int ms0) (C := RX1) (T := TX1) (N := 4) hx hb hts hinX1 hown hK hP 0 rfl rfl 3 (by decide) hf22 (fun _ h9 => h9) rfl dX1_choose_6 ?_
      refine lv_icmp_ge (tgt := 36) hx hb dX1_choose_9 (by decide) (fun c_1 => ?_) (fun c_1 => ?_)
      · have hq := fw_it c_1 hq
        exact hkk x2 x3 ch H locs ls (hwE _ (Option.some.inj hq).symm) hP hD hS (lv_sub hl [0, 1, 2, 3] rfl)
      · have hq := fw_if c_1 hq
        refine lv_iload_n hx hb dX1_choose_12 rfl (lv_at hl 1 rfl) ?_
        refine lv_iload_n hx hb dX1_choose_13 rfl (lv_at hl 3 rfl) ?_
        have hPc := hP.sub (ws' := (w0 cI cJ   )) [] rfl
        have hDc := hD.sub (ws' := (w0 cI cJ   )) [] (by decide) rfl
        refine fw_ci (wr := [(a0, .inr (1, [.ref a1, .ref a2, .ref a3, .int ms0])), (a1, .inl (cJ, 49, .inr (.inl mx0))), (a2, .inl (cI, 7, .inl ch)), (a3, .inl (cJ, 128, .inr (.inl mo0)))]) (w2 := fun u => (wN cI cJ a0 a1 a2 a3  mx0 ch mo0 ms0)) [] [0, 1, 2, 3] [0, 1, 2, 3] (va_runSN (As := [.int x1, .int x3]) (rest := []) ⟨hx, hb, hml, hown, hts⟩ (kX3_isIn l dC dI cI cJ  H.size   x1 x3 (fw_be hq)) ⟨va_cnB 2 hts gX1_choose_X3_isIn_n46 rfl rfl rfl hN (hts (.initialized RX3) (by decide +kernel)) (by decide +kernel) ⟨Nat.le_of_ble_eq_true rfl, Nat.le_of_ble_eq_true rfl⟩, hts (.static yX3_isIn) (by decide +kernel), trivial⟩ ⟨fw_blind, fun U hU hW => fw_pre hPc hK hDc hN hU hW⟩ rfl rfl hl.1 rfl (lv_room (Nat.le_of_ble_eq_true rfl)) dX1_choose_14 ⟨Nat.zero_le _, Nat.zero_le _⟩) hP hD hS hA rfl rfl (by decide) (by decide) (by decide) (fun _ => rfl) (fun r_2 u H locs hw hP hD hS => ?_)
        obtain ⟨hw, n_4⟩ := hw
        have hq := fw_bs hw hq
        try dsimp only at hq
        refine lv_if_ne (tgt := 30) hx hb dX1_choose_17 (by decide) (fun c_5 => ?_) (fun c_5 => ?_)
        · have hq := fw_if c_5 hq
          refine lv_iinc (v := (x3 + (1 : Int32))) (lv' := [(3, .int (x3 + (1 : Int32))), (0, .ref a0), (1, .int x1), (2, .int x2)]) hx hb dX1_choose_30 hl (k := 3) rfl rfl (by decide) rfl (fun ls hl => ?_)
          refine lv_goto (tgt := 4) hx hb dX1_choose_33 (by decide) ?_
          exact ih x2 (x3 + (1 : Int32)) ch H locs ls (hwI _ (Option.some.inj hq).symm) hP hD hS (lv_sub hl [1, 2, 3, 0] rfl)
        · have hq := fw_it c_5 hq
          refine lv_aload_n hx hb dX1_choose_20 rfl (lv_at hl 0 rfl) ?_
          refine va_get (D := (dC, dI)) (ci := 1) (v := .ref a2) (C := RX1) (T := TX1) (N := 4) hx hb hts hinX1 hown hK hP 0 rfl rfl 1 (by decide) hf15 (fun _ h9 => h9) rfl dX1_choose_21 ?_
          refine lv_iload_n hx hb dX1_choose_24 rfl (lv_at hl 2 rfl) ?_
          refine lv_iload_n hx hb dX1_choose_25 rfl (lv_at hl 3 rfl) ?_
          obtain ⟨h_6, hq⟩ := fw_ck_s hq
          refine va_iast hx hb hK hP hD hS 2 0 rfl rfl h_6 dX1_choose_26 (fun H locs hP hD hS => ?_)
          have hP : va_P (dC, dI) vwCl (wN cI cJ a0 a1 a2 a3  mx0 (upd ch (x2).toNatClampNeg x3) mo0 ms0) H := hP
          have hD : va_D A (wN cI cJ a0 a1 a2 a3  mx0 (upd ch (x2).toNatClampNeg x3) mo0 ms0) := hD
          refine lv_iinc (v := (x2 + (1 : Int32))) (lv' := [(2, .int (x2 + (1 : Int32))), (0, .ref a0), (1, .int x1), (3, .int x3)]) hx hb dX1_choose_27 hl (k := 2) rfl rfl (by decide) rfl (fun ls hl => ?_)
          refine lv_iinc (v := (x3 + (1 : Int32))) (lv' := [(3, .int (x3 + (1 : Int32))), (2, .int (x2 + (1 : Int32))), (0, .ref a0), (1, .int x1)]) hx hb dX1_choose_30 hl (k := 3) rfl rfl (by decide) rfl (fun ls hl => ?_)
          refine lv_goto (tgt := 4) hx hb dX1_choose_33 (by decide) ?_
          exact ih (x2 + (1 : Int32)) (x3 + (1 : Int32)) (upd ch (x2).toNatClampNeg x3) H locs ls (hwI _ (Option.some.inj hq).symm) hP hD hS (lv_sub hl [2, 3, 1, 0] rfl)
  have hq := hz
  dsimp only [pX1_choose] at hq
  have hl := lv_entry (([.ref a0, .int y1] : List Value)) (n := 4) (Nat.le_of_ble_eq_true rfl)
  rw [lg_entry_eq]
  generalize (lg_sl (([.ref a0, .int y1] : List Value)) ++ List.replicate (4 - (lg_sl (([.ref a0, .int y1] : List Value))).length) Slot.unset).toArray = ls at hl ⊢
  have hl : lv_has ls 4 [(0, .ref a0), (1, .int y1)] := hl
  obtain ⟨H, hHe⟩ : ∃ H : Heap, H = s.heap := ⟨_, rfl⟩
  obtain ⟨locs, hLe⟩ : ∃ L : List Loc, L = [] := ⟨_, rfl⟩
  have hP : va_P (dC, dI) vwCl (wN cI cJ a0 a1 a2 a3  mx0 ch0 mo0 ms0) H := by rw [hHe]; exact hP
  have hS : va_S A s.heap H locs := by rw [hHe, hLe]; exact va_S.rf
  show W p l e (headSpec wsX1_choose ({ frames := 1, cells := 0, slots := 0, locals := 21 })).room s m ([.ref a0, .int y1] : List Value).toArray below meth c s.heap [] 0 0 (MQ below (va_Qi (fun (r : Int32) (u : (Nat → Int32)) => pX1_choose ch0 ms0 y1 = some (r, u)) (fun u t => fw_B (dC, dI) A (wN cI cJ a0 a1 a2 a3  mx0 u mo0 ms0) t) A) ([.ref a0, .int y1] : List Value).toArray s 0 0 A) (F0 m 0 ls [])
  rw [← hHe, ← hLe]
  refine lv_iconst (v := (0 : Int32)) hx hb dX1_choose_0 (by decide) ?_
  refine lv_istore_n (lv' := [(2, .int (0 : Int32)), (0, .ref a0), (1, .int y1)]) hx hb dX1_choose_1 rfl hl (by decide) rfl (fun ls hl => ?_)
  refine lv_iconst (v := (0 : Int32)) hx hb dX1_choose_2 (by decide) ?_
  refine lv_istore_n (lv' := [(3, .int (0 : Int32)), (2, .int (0 : Int32)), (0, .ref a0), (1, .int y1)]) hx hb dX1_choose_3 rfl hl (by decide) rfl (fun ls hl => ?_)
  obtain ⟨e_10, hw, hq⟩ := fw_bb hq
  refine L4 y1 e_10 (fun x2_7 x3_8 ch_9 H locs ls he hP hD hS hl => ?_) fw_N (0 : Int32) (0 : Int32) ch0 H locs ls hw hP hD hS (lv_sub hl [2, 3, 1, 0] rfl)
  subst he
  try dsimp only at hq
  refine lv_iload_n hx hb dX1_choose_36 rfl (lv_at hl 2 rfl) ?_
  exact W.iret (v := x2_7) hx hb hr (fun t ht hW => ⟨⟨x2_7, ch_9, rfl, hz.trans hq.symm, by rw [ht]; exact hP, hD⟩, hS.F ht⟩) hS.2.2 dX1_choose_37
set_option maxHeartbeats 4000000 in
set_option maxRecDepth 100000 in
theorem kX1_alongLastRow (l : Launch) (dC : Nat → ClassId) (dI : Nat → Nat → Nat) (cI cJ : ClassId) (a0 a1 a2 a3 : Nat) (sz : Nat)  (mx0 : Nat → Int64) (ch0 : Nat → Int32) (mo0 : Nat → Int64) (ms0 : Int32) (y1 : Int32) (y2 : Int32) (hd : ∃ z, pX1_alongLastRow mx0 ch0 mo0 y1 y2 = some z) : Met l yX1_alongLastRow wsX1_alongLastRow ({ frames := 1, cells := 0, slots := 0, locals := 21 }) (fw_Pc (dC, dI) (fw_tys cI cJ) (wN cI cJ a0 a1 a2 a3  mx0 ch0 mo0 ms0) ([.ref a0, .int y1, .int y2] : List Value) sz) (va_Ql (fun (r : Int64) (u : Unit) => pX1_alongLastRow mx0 ch0 mo0 y1 y2 = some r) (fun u t => fw_B (dC, dI) (va_A (wN cI cJ a0 a1 a2 a3  mx0 ch0 mo0 ms0) sz) (wN cI cJ a0 a1 a2 a3  mx0 ch0 mo0 ms0) t) (va_A (wN cI cJ a0 a1 a2 a3  mx0 ch0 mo0 ms0) sz)) 0 0 (va_A (wN cI cJ a0 a1 a2 a3  mx0 ch0 mo0 ms0) sz) := by
  obtain ⟨z, hz⟩ := hd
  refine Met.ofW (cc := cX1_alongLastRow) (maxL := 9) (ret := (some .long)) (by decide) rfl ?_
  intro p e s m args below meth c s₁ B hml hv
  obtain ⟨rfl, hsz, hP, hK, hD0, hN⟩ := hv
  have hx := B.exec
  have hb := B.bytes
  have hr := B.returns
  have hts := atoms_spec (ws := wsX1_alongLastRow) B.pre
  have hown : s.vm.findClass RX1 = some m.cls := findClass_of_methodNamed B.named
  have hlocks := B.notSynchronized
  subst hsz
  have hD := hD0.self (sz := s.heap.size)
  generalize hAe : va_A (wN cI cJ a0 a1 a2 a3  mx0 ch0 mo0 ms0) s.heap.size = A at hD ⊢
  have hA : ∀ q : Nat, s.heap.size ≤ q → A q := fun q h => by rw [← hAe]; exact Or.inr h
  have hinX1 : ∀ w ∈ u_ws RX1 TX1 4, w ∈ wsX1_alongLastRow := by decide +kernel
  have hf9 := hts (.fieldLink RX1 9 "FewLines$Minors" "matrix" "[J") (by decide +kernel)
  have hf15 := hts (.fieldLink RX1 15 "FewLines$Minors" "chosen" "[I") (by decide +kernel)
  have hf19 := hts (.fieldLink RX1 19 "FewLines$Minors" "minorOf" "[J") (by decide +kernel)
  have L26 : ∀ (x1 : Int32) (x3 : Int32) (e9 : Int64 × Int64 × Int32), (∀ (x4' : Int64) (x6' : Int64) (x8' : Int32) (H : Heap) (locs : List Loc) (ls : Array Slot), e9 = (x4', x6', x8') → va_P (dC, dI) vwCl (wN cI cJ a0 a1 a2 a3  mx0 ch0 mo0 ms0) H → va_D A (wN cI cJ a0 a1 a2 a3  mx0 ch0 mo0 ms0) → va_S A s.heap H locs → lv_has ls 9 [(0, .ref a0), (1, .int x1), (3, .int x3), (4, .long x4'), (6, .long x6'), (8, .int x8')] → W p l e (headSpec wsX1_alongLastRow ({ frames := 1, cells := 0, slots := 0, locals := 21 })).room s m ([.ref a0, .int y1, .int y2] : List Value).toArray below meth c H locs 0 0 (MQ below (va_Ql (fun (r : Int64) (u : Unit) => pX1_alongLastRow mx0 ch0 mo0 y1 y2 = some r) (fun u t => fw_B (dC, dI) A (wN cI cJ a0 a1 a2 a3  mx0 ch0 mo0 ms0) t) A) ([.ref a0, .int y1, .int y2] : List Value).toArray s 0 0 A) (F0 m 87 ls [])) → ∀ (n9 : Nat) (x4 : Int64) (x6 : Int64) (x8 : Int32) (H : Heap) (locs : List Loc) (ls : Array Slot), fw_wh (pX1_alongLastRow_26 x1 x3 mx0 ch0 mo0) n9 (x4, x6, x8) = some e9 → va_P (dC, dI) vwCl (wN cI cJ a0 a1 a2 a3  mx0 ch0 mo0 ms0) H → va_D A (wN cI cJ a0 a1 a2 a3  mx0 ch0 mo0 ms0) → va_S A s.heap H locs → lv_has ls 9 [(0, .ref a0), (1, .int x1), (3, .int x3), (4, .long x4), (6, .long x6), (8, .int x8)] → W p l e (headSpec wsX1_alongLastRow ({ frames := 1, cells := 0, slots := 0, locals := 21 })).room s m ([.ref a0, .int y1, .int y2] : List Value).toArray below meth c H locs 0 0 (MQ below (va_Ql (fun (r : Int64) (u : Unit) => pX1_alongLastRow mx0 ch0 mo0 y1 y2 = some r) (fun u t => fw_B (dC, dI) A (wN cI cJ a0 a1 a2 a3  mx0 ch0 mo0 ms0) t) A) ([.ref a0, .int y1, .int y2] : List Value).toArray s 0 0 A) (F0 m 26 ls []) := by
    intro x1 x3 e9 hkk n9
    induction n9 with
    | zero => exact fun _ _ _ H locs ls hq => (fw_wh0 hq).elim
    | succ n9 ih =>
      intro x4 x6 x8 H locs ls hq hP hD hS hl
      obtain ⟨w9, hq, hwI, hwE⟩ := fw_wh1 hq
      dsimp only [pX1_alongLastRow_26] at hq
      refine lv_iload hx hb dX1_alongLastRow_26 (lv_at hl 5 rfl) ?_
      refine lv_if_lt (tgt := 87) hx hb dX1_alongLastRow_28 (by decide) (fun c_4 => ?_) (fun c_4 => ?_)
      · have hq := fw_it c_4 hq
        exact hkk x4 x6 x8 H locs ls (hwE _ (Option.some.inj hq).symm) hP hD hS (lv_sub hl [0, 1, 2, 3, 4, 5] rfl)
      · have hq := fw_if c_4 hq
        refine lv_iload_n hx hb dX1_alongLastRow_31 rfl (lv_at hl 1 rfl) ?_
        refine lv_iload hx hb dX1_alongLastRow_32 (lv_at hl 5 rfl) ?_
        have hPc := hP.sub (ws' := (w0 cI cJ   )) [] rfl
        have hDc := hD.sub (ws' := (w0 cI cJ   )) [] (by decide) rfl
        refine fw_ci (wr := [(a0, .inr (1, [.ref a1, .ref a2, .ref a3, .int ms0])), (a1, .inl (cJ, 49, .inr (.inl mx0))), (a2, .inl (cI, 7, .inl ch0)), (a3, .inl (cJ, 128, .inr (.inl mo0)))]) (w2 := fun u => (wN cI cJ a0 a1 a2 a3  mx0 ch0 mo0 ms0)) [] [0, 1, 2, 3] [0, 1, 2, 3] (va_runSN (As := [.int x1, .int x8]) (rest := []) ⟨hx, hb, hml, hown, hts⟩ (kX3_isIn l dC dI cI cJ  H.size   x1 x8 (fw_be hq)) ⟨va_cnB 2 hts gX1_alongLastRow_X3_isIn_n46 rfl rfl rfl hN (hts (.initialized RX3) (by decide +kernel)) (by decide +kernel) ⟨Nat.le_of_ble_eq_true rfl, Nat.le_of_ble_eq_true rfl⟩, hts (.static yX3_isIn) (by decide +kernel), trivial⟩ ⟨fw_blind, fun U hU hW => fw_pre hPc hK hDc hN hU hW⟩ rfl rfl hl.1 rfl (lv_room (Nat.le_of_ble_eq_true rfl)) dX1_alongLastRow_34 ⟨Nat.zero_le _, Nat.zero_le _⟩) hP hD hS hA rfl rfl (by decide) (by decide) (by decide) (fun _ => rfl) (fun r_5 u H locs hw hP hD hS => ?_)
        obtain ⟨hw, n_7⟩ := hw
        have hq := fw_bs hw hq
        try dsimp only at hq
        refine lv_if_eq (tgt := 81) hx hb dX1_alongLastRow_37 (by decide) (fun c_8 => ?_) (fun c_8 => ?_)
        · have hq := fw_it c_8 hq
          refine lv_iinc (v := (x8 + (-1 : Int32))) (lv' := [(8, .int (x8 + (-1 : Int32))), (0, .ref a0), (1, .int x1), (3, .int x3), (4, .long x4), (6, .long x6)]) hx hb dX1_alongLastRow_81 hl (k := 5) rfl rfl (by decide) rfl (fun ls hl => ?_)
          refine lv_goto (tgt := 26) hx hb dX1_alongLastRow_84 (by decide) ?_
          exact ih x4 x6 (x8 + (-1 : Int32)) H locs ls (hwI _ (Option.some.inj hq).symm) hP hD hS (lv_sub hl [1, 2, 3, 4, 5, 0] rfl)
        · have hq := fw_if c_8 hq
          refine lv_lload hx hb dX1_alongLastRow_40 (lv_at hl 3 rfl) ?_
          refine lv_lload hx hb dX1_alongLastRow_42 (lv_at hl 4 rfl) ?_
          refine lv_aload_n hx hb dX1_alongLastRow_44 rfl (lv_at hl 0 rfl) ?_
          refine va_get (D := (dC, dI)) (ci := 1) (v := .ref a1) (C := RX1) (T := TX1) (N := 4) hx hb hts hinX1 hown hK hP 0 rfl rfl 0 (by decide) hf9 (fun _ h9 => h9) rfl dX1_alongLastRow_45 ?_
          refine lv_iload_n hx hb dX1_alongLastRow_48 rfl (lv_at hl 2 rfl) ?_
          refine lv_aload_n hx hb dX1_alongLastRow_49 rfl (lv_at hl 0 rfl) ?_
          refine va_get (D := (dC, dI)) (ci := 1) (v := .ref a2) (C := RX1) (T := TX1) (N := 4) hx hb hts hinX1 hown hK hP 0 rfl rfl 1 (by decide) hf15 (fun _ h9 => h9) rfl dX1_alongLastRow_50 ?_
          refine lv_iload hx hb dX1_alongLastRow_53 (lv_at hl 5 rfl) ?_
          obtain ⟨h_9, hq⟩ := fw_ck_s hq
          refine va_iald hx hb hK hP 2 0 rfl rfl h_9 dX1_alongLastRow_55 ?_
          refine lv_iadd hx hb dX1_alongLastRow_56 ?_
          obtain ⟨h_10, hq⟩ := fw_ck_s hq
          refine va_lald hx hb hK hP 1 1 rfl rfl h_10 dX1_alongLastRow_57 ?_
          refine lv_lmul hx hb dX1_alongLastRow_58 ?_
          refine lv_aload_n hx hb dX1_alongLastRow_59 rfl (lv_at hl 0 rfl) ?_
          refine va_get (D := (dC, dI)) (ci := 1) (v := .ref a3) (C := RX1) (T := TX1) (N := 4) hx hb hts hinX1 hown hK hP 0 rfl rfl 2 (by decide) hf19 (fun _ h9 => h9) rfl dX1_alongLastRow_60 ?_
          refine lv_iload_n hx hb dX1_alongLastRow_63 rfl (lv_at hl 1 rfl) ?_
          refine lv_iconst (v := (1 : Int32)) hx hb dX1_alongLastRow_64 (by decide) ?_
          refine lv_iload hx hb dX1_alongLastRow_65 (lv_at hl 5 rfl) ?_
          refine lv_ishl hx hb dX1_alongLastRow_67 ?_
          refine lv_iconst (v := (-1 : Int32)) hx hb dX1_alongLastRow_68 (by decide) ?_
          refine lv_ixor hx hb dX1_alongLastRow_69 ?_
          refine lv_iand hx hb dX1_alongLastRow_70 ?_
          obtain ⟨h_11, hq⟩ := fw_ck_s hq
          refine va_lald hx hb hK hP 3 1 rfl rfl h_11 dX1_alongLastRow_71 ?_
          refine lv_lmul hx hb dX1_alongLastRow_72 ?_
          refine lv_ladd hx hb dX1_alongLastRow_73 ?_
          refine lv_lstore (lv' := [(4, .long (x4 + ((x6 * (mx0 ((x3 + (ch0 (x8).toNatClampNeg))).toNatClampNeg)) * (mo0 ((x1 &&& (((1 : Int32) <<< (x8 &&& 31)) ^^^ (-1 : Int32)))).toNatClampNeg)))), (0, .ref a0), (1, .int x1), (3, .int x3), (6, .long x6), (8, .int x8)]) hx hb dX1_alongLastRow_74 hl (by decide) rfl (fun ls hl => ?_)
          refine lv_lload hx hb dX1_alongLastRow_76 (lv_at hl 4 rfl) ?_
          refine lv_lneg hx hb dX1_alongLastRow_78 ?_
          refine lv_lstore (lv' := [(6, .long (-x6)), (4, .long (x4 + ((x6 * (mx0 ((x3 + (ch0 (x8).toNatClampNeg))).toNatClampNeg)) * (mo0 ((x1 &&& (((1 : Int32) <<< (x8 &&& 31)) ^^^ (-1 : Int32)))).toNatClampNeg)))), (0, .ref a0), (1, .int x1), (3, .int x3), (8, .int x8)]) hx hb dX1_alongLastRow_79 hl (by decide) rfl (fun ls hl => ?_)
          refine lv_iinc (v := (x8 + (-1 : Int32))) (lv' := [(8, .int (x8 + (-1 : Int32))), (6, .long (-x6)), (4, .long (x4 + ((x6 * (mx0 ((x3 + (ch0 (x8).toNatClampNeg))).toNatClampNeg)) * (mo0 ((x1 &&& (((1 : Int32) <<< (x8 &&& 31)) ^^^ (-1 : Int32)))).toNatClampNeg)))), (0, .ref a0), (1, .int x1), (3, .int x3)]) hx hb dX1_alongLastRow_81 hl (k := 5) rfl rfl (by decide) rfl (fun ls hl => ?_)
          refine lv_goto (tgt := 26) hx hb dX1_alongLastRow_84 (by decide) ?_
          exact ih (x4 + ((x6 * (mx0 ((x3 + (ch0 (x8).toNatClampNeg))).toNatClampNeg)) * (mo0 ((x1 &&& (((1 : Int32) <<< (x8 &&& 31)) ^^^ (-1 : Int32)))).toNatClampNeg))) (-x6) (x8 + (-1 : Int32)) H locs ls (hwI _ (Option.some.inj hq).symm) hP hD hS (lv_sub hl [3, 4, 5, 2, 1, 0] rfl)
  have hq := hz
  dsimp only [pX1_alongLastRow] at hq
  have hl := lv_entry (([.ref a0, .int y1, .int y2] : List Value)) (n := 9) (Nat.le_of_ble_eq_true rfl)
  rw [lg_entry_eq]
  generalize (lg_sl (([.ref a0, .int y1, .int y2] : List Value)) ++ List.replicate (9 - (lg_sl (([.ref a0, .int y1, .int y2] : List Value))).length) Slot.unset).toArray = ls at hl ⊢
  have hl : lv_has ls 9 [(0, .ref a0), (1, .int y1), (2, .int y2)] := hl
  obtain ⟨H, hHe⟩ : ∃ H : Heap, H = s.heap := ⟨_, rfl⟩
  obtain ⟨locs, hLe⟩ : ∃ L : List Loc, L = [] := ⟨_, rfl⟩
  have hP : va_P (dC, dI) vwCl (wN cI cJ a0 a1 a2 a3  mx0 ch0 mo0 ms0) H := by rw [hHe]; exact hP
  have hS : va_S A s.heap H locs := by rw [hHe, hLe]; exact va_S.rf
  show W p l e (headSpec wsX1_alongLastRow ({ frames := 1, cells := 0, slots := 0, locals := 21 })).room s m ([.ref a0, .int y1, .int y2] : List Value).toArray below meth c s.heap [] 0 0 (MQ below (va_Ql (fun (r : Int64) (u : Unit) => pX1_alongLastRow mx0 ch0 mo0 y1 y2 = some r) (fun u t => fw_B (dC, dI) A (wN cI cJ a0 a1 a2 a3  mx0 ch0 mo0 ms0) t) A) ([.ref a0, .int y1, .int y2] : List Value).toArray s 0 0 A) (F0 m 0 ls [])
  rw [← hHe, ← hLe]
  refine lv_aload_n hx hb dX1_alongLastRow_0 rfl (lv_at hl 0 rfl) ?_
  refine va_get (D := (dC, dI)) (ci := 1) (v := .ref a2) (C := RX1) (T := TX1) (N := 4) hx hb hts hinX1 hown hK hP 0 rfl rfl 1 (by decide) hf15 (fun _ h9 => h9) rfl dX1_alongLastRow_1 ?_
  refine lv_iload_n hx hb dX1_alongLastRow_4 rfl (lv_at hl 1 rfl) ?_
  have hPc := hP.sub (ws' := (w0 cI cJ   )) [] rfl
  have hDc := hD.sub (ws' := (w0 cI cJ   )) [] (by decide) rfl
  refine fw_ci (wr := [(a0, .inr (1, [.ref a1, .ref a2, .ref a3, .int ms0])), (a1, .inl (cJ, 49, .inr (.inl mx0))), (a2, .inl (cI, 7, .inl ch0)), (a3, .inl (cJ, 128, .inr (.inl mo0)))]) (w2 := fun u => (wN cI cJ a0 a1 a2 a3  mx0 ch0 mo0 ms0)) [] [0, 1, 2, 3] [0, 1, 2, 3] (va_runS (As := [.int y1]) (rest := [.ref a2]) ⟨hx, hb, hml, hown, hts⟩ (kJ6_bitCount_0f7a4 l dC dI cI cJ  H.size   y1 (fw_be hq)) (va_cwS 1 hts gX1_alongLastRow_J6_bitCount_0f7a4 rfl rfl rfl (by decide +kernel) ⟨Nat.le_of_ble_eq_true rfl, Nat.le_of_ble_eq_true rfl⟩) ⟨fw_blind, fun U hU hW => fw_pre hPc hK hDc hN hU hW⟩ rfl rfl hl.1 rfl (lv_room (Nat.le_of_ble_eq_true rfl)) dX1_alongLastRow_5 ⟨Nat.zero_le _, Nat.zero_le _⟩) hP hD hS hA rfl rfl (by decide) (by decide) (by decide) (fun _ => rfl) (fun r_1 u H locs hw hP hD hS => ?_)
  have hq := fw_bs hw hq
  try dsimp only at hq
  refine lv_iconst (v := (1 : Int32)) hx hb dX1_alongLastRow_8 (by decide) ?_
  refine lv_isub hx hb dX1_alongLastRow_9 ?_
  obtain ⟨h_3, hq⟩ := fw_ck_s hq
  refine va_iald hx hb hK hP 2 0 rfl rfl h_3 dX1_alongLastRow_10 ?_
  refine lv_bipush (v := (7 : Int32)) hx hb dX1_alongLastRow_11 (by decide) ?_
  refine lv_imul hx hb dX1_alongLastRow_13 ?_
  refine lv_istore_n (lv' := [(3, .int ((ch0 ((r_1 - (1 : Int32))).toNatClampNeg) * (7 : Int32))), (0, .ref a0), (1, .int y1), (2, .int y2)]) hx hb dX1_alongLastRow_14 rfl hl (by decide) rfl (fun ls hl => ?_)
  refine lv_lconst (v := (0 : Int64)) hx hb dX1_alongLastRow_15 (by decide) ?_
  refine lv_lstore (lv' := [(4, .long (0 : Int64)), (3, .int ((ch0 ((r_1 - (1 : Int32))).toNatClampNeg) * (7 : Int32))), (0, .ref a0), (1, .int y1), (2, .int y2)]) hx hb dX1_alongLastRow_16 hl (by decide) rfl (fun ls hl => ?_)
  refine lv_lconst (v := (1 : Int64)) hx hb dX1_alongLastRow_18 (by decide) ?_
  refine lv_lstore (lv' := [(6, .long (1 : Int64)), (4, .long (0 : Int64)), (3, .int ((ch0 ((r_1 - (1 : Int32))).toNatClampNeg) * (7 : Int32))), (0, .ref a0), (1, .int y1), (2, .int y2)]) hx hb dX1_alongLastRow_19 hl (by decide) rfl (fun ls hl => ?_)
  refine lv_iload_n hx hb dX1_alongLastRow_21 rfl (lv_at hl 5 rfl) ?_
  refine lv_iconst (v := (1 : Int32)) hx hb dX1_alongLastRow_22 (by decide) ?_
  refine lv_isub hx hb dX1_alongLastRow_23 ?_
  refine lv_istore (lv' := [(8, .int (y2 - (1 : Int32))), (6, .long (1 : Int64)), (4, .long (0 : Int64)), (3, .int ((ch0 ((r_1 - (1 : Int32))).toNatClampNeg) * (7 : Int32))), (0, .ref a0), (1, .int y1), (2, .int y2)]) hx hb dX1_alongLastRow_24 hl (by decide) rfl (fun ls hl => ?_)
  obtain ⟨e_15, hw, hq⟩ := fw_bb hq
  refine L26 y1 ((ch0 ((r_1 - (1 : Int32))).toNatClampNeg) * (7 : Int32)) e_15 (fun x4_12 x6_13 x8_14 H locs ls he hP hD hS hl => ?_) fw_N (0 : Int64) (1 : Int64) (y2 - (1 : Int32)) H locs ls hw hP hD hS (lv_sub hl [4, 5, 3, 2, 1, 0] rfl)
  subst he
  try dsimp only at hq
  refine lv_lload hx hb dX1_alongLastRow_87 (lv_at hl 3 rfl) ?_
  exact W.lret (v := x4_12) hx hb hr (fun t ht hW => ⟨⟨x4_12, (), rfl, hz.trans hq.symm, by rw [ht]; exact hP, hD⟩, hS.F ht⟩) hS.2.2 dX1_alongLastRow_89
set_option maxHeartbeats 4000000 in
set_option maxRecDepth 100000 in
theorem kX1_without (l : Launch) (dC : Nat → ClassId) (dI : Nat → Nat → Nat) (cI cJ : ClassId) (a0 a1 a2 a3 : Nat) (sz : Nat)  (mx0 : Nat → Int64) (ch0 : Nat → Int32) (mo0 : Nat → Int64) (ms0 : Int32) (y1 : Int32) (hd : ∃ z, pX1_without mx0 ch0 mo0 ms0 y1 = some z) : Met l yX1_without wsX1_without ({ frames := 2, cells := 0, slots := 0, locals := 49 }) (fw_Pc (dC, dI) (fw_tys cI cJ) (wN cI cJ a0 a1 a2 a3  mx0 ch0 mo0 ms0) ([.ref a0, .int y1] : List Value) sz) (va_Ql (fun (r : Int64) (u : (Nat → Int32) × (Nat → Int64)) => pX1_without mx0 ch0 mo0 ms0 y1 = some (r, u)) (fun u t => fw_B (dC, dI) (va_A (wN cI cJ a0 a1 a2 a3  mx0 ch0 mo0 ms0) sz) (wN cI cJ a0 a1 a2 a3  mx0 u.1 u.2 ms0) t) (va_A (wN cI cJ a0 a1 a2 a3  mx0 ch0 mo0 ms0) sz)) 0 0 (va_A (wN cI cJ a0 a1 a2 a3  mx0 ch0 mo0 ms0) sz) := by
  obtain ⟨z, hz⟩ := hd
  refine Met.ofW (cc := cX1_without) (maxL := 5) (ret := (some .long)) (by decide) rfl ?_
  intro p e s m args below meth c s₁ B hml hv
  obtain ⟨rfl, hsz, hP, hK, hD0, hN⟩ := hv
  have hx := B.exec
  have hb := B.bytes
  have hr := B.returns
  have hts := atoms_spec (ws := wsX1_without) B.pre
  have hown : s.vm.findClass RX1 = some m.cls := findClass_of_methodNamed B.named
  have hlocks := B.notSynchronized
  subst hsz
  have hD := hD0.self (sz := s.heap.size)
  generalize hAe : va_A (wN cI cJ a0 a1 a2 a3  mx0 ch0 mo0 ms0) s.heap.size = A at hD ⊢
  have hA : ∀ q : Nat, s.heap.size ≤ q → A q := fun q h => by rw [← hAe]; exact Or.inr h
  have hinX1 : ∀ w ∈ u_ws RX1 TX1 4, w ∈ wsX1_without := by decide +kernel
  have hf19 := hts (.fieldLink RX1 19 "FewLines$Minors" "minorOf" "[J") (by decide +kernel)
  have L22 : ∀ (x2 : Int32) (x3 : Int32) (ch : Nat → Int32) (e9 : Int32 × (Nat → Int64)), (∀ (x4' : Int32) (mo' : Nat → Int64) (H : Heap) (locs : List Loc) (ls : Array Slot), e9 = (x4', mo') → va_P (dC, dI) vwCl (wN cI cJ a0 a1 a2 a3  mx0 ch mo' ms0) H → va_D A (wN cI cJ a0 a1 a2 a3  mx0 ch mo' ms0) → va_S A s.heap H locs → lv_has ls 5 [(0, .ref a0), (2, .int x2), (3, .int x3), (4, .int x4')] → W p l e (headSpec wsX1_without ({ frames := 2, cells := 0, slots := 0, locals := 49 })).room s m ([.ref a0, .int y1] : List Value).toArray below meth c H locs 0 0 (MQ below (va_Ql (fun (r : Int64) (u : (Nat → Int32) × (Nat → Int64)) => pX1_without mx0 ch0 mo0 ms0 y1 = some (r, u)) (fun u t => fw_B (dC, dI) A (wN cI cJ a0 a1 a2 a3  mx0 u.1 u.2 ms0) t) A) ([.ref a0, .int y1] : List Value).toArray s 0 0 A) (F0 m 48 ls [])) → ∀ (n9 : Nat) (x4 : Int32) (mo : Nat → Int64) (H : Heap) (locs : List Loc) (ls : Array Slot), fw_wh (pX1_without_22 x2 x3 mx0 ch) n9 (x4, mo) = some e9 → va_P (dC, dI) vwCl (wN cI cJ a0 a1 a2 a3  mx0 ch mo ms0) H → va_D A (wN cI cJ a0 a1 a2 a3  mx0 ch mo ms0) → va_S A s.heap H locs → lv_has ls 5 [(0, .ref a0), (2, .int x2), (3, .int x3), (4, .int x4)] → W p l e (headSpec wsX1_without ({ frames := 2, cells := 0, slots := 0, locals := 49 })).room s m ([.ref a0, .int y1] : List Value).toArray below meth c H locs 0 0 (MQ below (va_Ql (fun (r : Int64) (u : (Nat → Int32) × (Nat → Int64)) => pX1_without mx0 ch0 mo0 ms0 y1 = some (r, u)) (fun u t => fw_B (dC, dI) A (wN cI cJ a0 a1 a2 a3  mx0 u.1 u.2 ms0) t) A) ([.ref a0, .int y1] : List Value).toArray s 0 0 A) (F0 m 22 ls []) := by
    intro x2 x3 ch e9 hkk n9
    induction n9 with
    | zero => exact fun _ _ H locs ls hq => (fw_wh0 hq).elim
    | succ n9 ih =>
      intro x4 mo H locs ls hq hP hD hS hl
      obtain ⟨w9, hq, hwI, hwE⟩ := fw_wh1 hq
      dsimp only [pX1_without_22] at hq
      refine lv_iload hx hb dX1_without_22 (lv_at hl 3 rfl) ?_
      refine lv_iload_n hx hb dX1_without_24 rfl (lv_at hl 2 rfl) ?_
      refine lv_icmp_gt (tgt := 48) hx hb dX1_without_25 (by decide) (fun c_5 => ?_) (fun c_5 => ?_)
      · have hq := fw_it c_5 hq
        exact hkk x4 mo H locs ls (hwE _ (Option.some.inj hq).symm) hP hD hS (lv_sub hl [0, 1, 2, 3] rfl)
      · have hq := fw_if c_5 hq
        refine lv_aload_n hx hb dX1_without_28 rfl (lv_at hl 0 rfl) ?_
        refine va_get (D := (dC, dI)) (ci := 1) (v := .ref a3) (C := RX1) (T := TX1) (N := 4) hx hb hts hinX1 hown hK hP 0 rfl rfl 2 (by decide) hf19 (fun _ h9 => h9) rfl dX1_without_29 ?_
        refine lv_iload hx hb dX1_without_32 (lv_at hl 3 rfl) ?_
        refine lv_aload_n hx hb dX1_without_34 rfl (lv_at hl 0 rfl) ?_
        refine lv_iload hx hb dX1_without_35 (lv_at hl 3 rfl) ?_
        refine lv_iload_n hx hb dX1_without_37 rfl (lv_at hl 1 rfl) ?_
        have hPc := hP.sub (ws' := (wN cI cJ a0 a1 a2 a3  mx0 ch mo ms0)) [0, 1, 2, 3] rfl
        have hDc := hD.sub (ws' := (wN cI cJ a0 a1 a2 a3  mx0 ch mo ms0)) [0, 1, 2, 3] (by decide) rfl
        refine fw_cl (wr := []) (w2 := fun u => (wN cI cJ a0 a1 a2 a3  mx0 ch mo ms0)) [0, 1, 2, 3] [] [0, 1, 2, 3] (va_runV (b := a0) (As := [.int x4, .int x2]) (rest := [.int x4, .ref a3]) ⟨hx, hb, hml, hown, hts⟩ (kX1_alongLastRow l dC dI cI cJ a0 a1 a2 a3 H.size  mx0 ch mo ms0 x4 x2 (fw_be hq)) (cwV 2 hts gX1_without_X1_alongLastRow rfl rfl rfl (by decide +kernel) ⟨Nat.le_of_ble_eq_true rfl, Nat.le_of_ble_eq_true rfl⟩) ⟨fw_blind, va_recv hK hPc (ci := 1) (q0 := 0) rfl rfl, fun U hU hW => fw_pre hPc hK hDc hN hU hW⟩ rfl rfl hl.1 rfl (lv_room (Nat.le_of_ble_eq_true rfl)) dX1_without_38 ⟨Nat.zero_le _, Nat.zero_le _⟩) hP hD hS hA rfl rfl (by decide) (by decide) (by decide) (fun _ => rfl) (fun r_6 u H locs hw hP hD hS => ?_)
        have hq := fw_bs hw hq
        try dsimp only at hq
        obtain ⟨h_8, hq⟩ := fw_ck_s hq
        refine va_last hx hb hK hP hD hS 3 1 rfl rfl h_8 dX1_without_41 (fun H locs hP hD hS => ?_)
        have hP : va_P (dC, dI) vwCl (wN cI cJ a0 a1 a2 a3  mx0 ch (vp_updL mo (x4).toNatClampNeg r_6) ms0) H := hP
        have hD : va_D A (wN cI cJ a0 a1 a2 a3  mx0 ch (vp_updL mo (x4).toNatClampNeg r_6) ms0) := hD
        refine lv_iinc (v := (x4 + (1 : Int32))) (lv' := [(4, .int (x4 + (1 : Int32))), (0, .ref a0), (2, .int x2), (3, .int x3)]) hx hb dX1_without_42 hl (k := 3) rfl rfl (by decide) rfl (fun ls hl => ?_)
        refine lv_goto (tgt := 22) hx hb dX1_without_45 (by decide) ?_
        exact ih (x4 + (1 : Int32)) (vp_updL mo (x4).toNatClampNeg r_6) H locs ls (hwI _ (Option.some.inj hq).symm) hP hD hS (lv_sub hl [1, 2, 3, 0] rfl)
  have hq := hz
  dsimp only [pX1_without] at hq
  have hl := lv_entry (([.ref a0, .int y1] : List Value)) (n := 5) (Nat.le_of_ble_eq_true rfl)
  rw [lg_entry_eq]
  generalize (lg_sl (([.ref a0, .int y1] : List Value)) ++ List.replicate (5 - (lg_sl (([.ref a0, .int y1] : List Value))).length) Slot.unset).toArray = ls at hl ⊢
  have hl : lv_has ls 5 [(0, .ref a0), (1, .int y1)] := hl
  obtain ⟨H, hHe⟩ : ∃ H : Heap, H = s.heap := ⟨_, rfl⟩
  obtain ⟨locs, hLe⟩ : ∃ L : List Loc, L = [] := ⟨_, rfl⟩
  have hP : va_P (dC, dI) vwCl (wN cI cJ a0 a1 a2 a3  mx0 ch0 mo0 ms0) H := by rw [hHe]; exact hP
  have hS : va_S A s.heap H locs := by rw [hHe, hLe]; exact va_S.rf
  show W p l e (headSpec wsX1_without ({ frames := 2, cells := 0, slots := 0, locals := 49 })).room s m ([.ref a0, .int y1] : List Value).toArray below meth c s.heap [] 0 0 (MQ below (va_Ql (fun (r : Int64) (u : (Nat → Int32) × (Nat → Int64)) => pX1_without mx0 ch0 mo0 ms0 y1 = some (r, u)) (fun u t => fw_B (dC, dI) A (wN cI cJ a0 a1 a2 a3  mx0 u.1 u.2 ms0) t) A) ([.ref a0, .int y1] : List Value).toArray s 0 0 A) (F0 m 0 ls [])
  rw [← hHe, ← hLe]
  refine lv_aload_n hx hb dX1_without_0 rfl (lv_at hl 0 rfl) ?_
  refine lv_iload_n hx hb dX1_without_1 rfl (lv_at hl 1 rfl) ?_
  have hPc := hP.sub (ws' := (wN cI cJ a0 a1 a2 a3  mx0 ch0 mo0 ms0)) [0, 1, 2, 3] rfl
  have hDc := hD.sub (ws' := (wN cI cJ a0 a1 a2 a3  mx0 ch0 mo0 ms0)) [0, 1, 2, 3] (by decide) rfl
  refine fw_ci (wr := []) (w2 := fun u => (wN cI cJ a0 a1 a2 a3  mx0 u mo0 ms0)) [0, 1, 2, 3] [] [0, 1, 2, 3] (va_runV (b := a0) (As := [.int y1]) (rest := []) ⟨hx, hb, hml, hown, hts⟩ (kX1_choose l dC dI cI cJ a0 a1 a2 a3 H.size  mx0 ch0 mo0 ms0 y1 (fw_be hq)) (cwV 1 hts gX1_without_X1_choose rfl rfl rfl (by decide +kernel) ⟨Nat.le_of_ble_eq_true rfl, Nat.le_of_ble_eq_true rfl⟩) ⟨fw_blind, va_recv hK hPc (ci := 1) (q0 := 0) rfl rfl, fun U hU hW => fw_pre hPc hK hDc hN hU hW⟩ rfl rfl hl.1 rfl (lv_room (Nat.le_of_ble_eq_true rfl)) dX1_without_2 ⟨Nat.zero_le _, Nat.zero_le _⟩) hP hD hS hA rfl rfl (by decide) (by decide) (by decide) (fun _ => rfl) (fun r_2 u H locs hw hP hD hS => ?_)
  obtain ⟨ch_1, rfl⟩ : ∃ z, z = u := ⟨_, rfl⟩
  have hq := fw_bs hw hq
  try dsimp only at hq
  have hP : va_P (dC, dI) vwCl (wN cI cJ a0 a1 a2 a3  mx0 ch_1 mo0 ms0) H := hP
  have hD : va_D A (wN cI cJ a0 a1 a2 a3  mx0 ch_1 mo0 ms0) := hD
  refine lv_istore_n (lv' := [(2, .int r_2), (0, .ref a0), (1, .int y1)]) hx hb dX1_without_5 rfl hl (by decide) rfl (fun ls hl => ?_)
  refine lv_iconst (v := (1 : Int32)) hx hb dX1_without_6 (by decide) ?_
  refine lv_iload_n hx hb dX1_without_7 rfl (lv_at hl 0 rfl) ?_
  refine lv_ishl hx hb dX1_without_8 ?_
  refine lv_iconst (v := (1 : Int32)) hx hb dX1_without_9 (by decide) ?_
  refine lv_isub hx hb dX1_without_10 ?_
  refine lv_istore_n (lv' := [(3, .int (((1 : Int32) <<< (r_2 &&& 31)) - (1 : Int32))), (2, .int r_2), (0, .ref a0), (1, .int y1)]) hx hb dX1_without_11 rfl hl (by decide) rfl (fun ls hl => ?_)
  refine lv_aload_n hx hb dX1_without_12 rfl (lv_at hl 2 rfl) ?_
  refine va_get (D := (dC, dI)) (ci := 1) (v := .ref a3) (C := RX1) (T := TX1) (N := 4) hx hb hts hinX1 hown hK hP 0 rfl rfl 2 (by decide) hf19 (fun _ h9 => h9) rfl dX1_without_13 ?_
  refine lv_iconst (v := (0 : Int32)) hx hb dX1_without_16 (by decide) ?_
  refine lv_lconst (v := (1 : Int64)) hx hb dX1_without_17 (by decide) ?_
  obtain ⟨h_4, hq⟩ := fw_ck_s hq
  refine va_last hx hb hK hP hD hS 3 1 rfl rfl h_4 dX1_without_18 (fun H locs hP hD hS => ?_)
  have hP : va_P (dC, dI) vwCl (wN cI cJ a0 a1 a2 a3  mx0 ch_1 (vp_updL mo0 ((0 : Int32)).toNatClampNeg (1 : Int64)) ms0) H := hP
  have hD : va_D A (wN cI cJ a0 a1 a2 a3  mx0 ch_1 (vp_updL mo0 ((0 : Int32)).toNatClampNeg (1 : Int64)) ms0) := hD
  refine lv_iconst (v := (1 : Int32)) hx hb dX1_without_19 (by decide) ?_
  refine lv_istore (lv' := [(4, .int (1 : Int32)), (3, .int (((1 : Int32) <<< (r_2 &&& 31)) - (1 : Int32))), (2, .int r_2), (0, .ref a0), (1, .int y1)]) hx hb dX1_without_20 hl (by decide) rfl (fun ls hl => ?_)
  obtain ⟨e_11, hw, hq⟩ := fw_bb hq
  refine L22 r_2 (((1 : Int32) <<< (r_2 &&& 31)) - (1 : Int32)) ch_1 e_11 (fun x4_9 mo_10 H locs ls he hP hD hS hl => ?_) fw_N (1 : Int32) (vp_updL mo0 ((0 : Int32)).toNatClampNeg (1 : Int64)) H locs ls hw hP hD hS (lv_sub hl [3, 2, 1, 0] rfl)
  subst he
  try dsimp only at hq
  refine lv_aload_n hx hb dX1_without_48 rfl (lv_at hl 0 rfl) ?_
  refine va_get (D := (dC, dI)) (ci := 1) (v := .ref a3) (C := RX1) (T := TX1) (N := 4) hx hb hts hinX1 hown hK hP 0 rfl rfl 2 (by decide) hf19 (fun _ h9 => h9) rfl dX1_without_49 ?_
  refine lv_iload_n hx hb dX1_without_52 rfl (lv_at hl 2 rfl) ?_
  obtain ⟨h_12, hq⟩ := fw_ck_s hq
  refine va_lald hx hb hK hP 3 1 rfl rfl h_12 dX1_without_53 ?_
  exact W.lret (v := (mo_10 ((((1 : Int32) <<< (r_2 &&& 31)) - (1 : Int32))).toNatClampNeg)) hx hb hr (fun t ht hW => ⟨⟨(mo_10 ((((1 : Int32) <<< (r_2 &&& 31)) - (1 : Int32))).toNatClampNeg), (ch_1, mo_10), rfl, hz.trans hq.symm, by rw [ht]; exact hP, hD⟩, hS.F ht⟩) hS.2.2 dX1_without_54
