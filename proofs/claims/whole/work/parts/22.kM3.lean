/-! ===== contracts, by own program ===== -/
set_option maxHeartbeats 4000000 in
set_option maxRecDepth 100000 in
theorem kX4_findFar_W (l : Launch) (dC : Nat → ClassId) (dI : Nat → Nat → Nat) (cI cJ : ClassId) (q : Nat → Nat) (sz : Nat)  (nn0 : Int32) (ln0 : Int32) (sa0 : Nat → Int32) (sb0 : Nat → Int32) (wg0 : Nat → Int32) (kt0 : Nat → Int32) (fr0 : Nat → Int32) (pt0 : Nat → Int32) (wl0 : Nat → Int32) (tn0 : Nat → Int32) (up0 : Int64) (lo0 : Int64) (y1 : Int32) (hd : ∃ z, pX4_findFar_W nn0 ln0 sa0 sb0 wg0 wl0 y1 = some z) : Met l yX4_findFar wsX4_findFar ({ frames := 0, cells := 0, slots := 0, locals := 0 }) (fw_Pc (dC, dI) (fw_tys cI cJ) (wM cI cJ q  nn0 ln0 sa0 sb0 wg0 kt0 fr0 pt0 wl0 tn0 up0 lo0) ([.ref (q 0), .int y1, .ref (q 7)] : List Value) sz) (va_Qv (fun (u : (Nat → Int32)) => pX4_findFar_W nn0 ln0 sa0 sb0 wg0 wl0 y1 = some u) (fun u t => fw_B (dC, dI) (va_A (wM cI cJ q  nn0 ln0 sa0 sb0 wg0 kt0 fr0 pt0 wl0 tn0 up0 lo0) sz) (wM cI cJ q  nn0 ln0 sa0 sb0 wg0 kt0 fr0 pt0 u tn0 up0 lo0) t) (va_A (wM cI cJ q  nn0 ln0 sa0 sb0 wg0 kt0 fr0 pt0 wl0 tn0 up0 lo0) sz)) 0 0 (va_A (wM cI cJ q  nn0 ln0 sa0 sb0 wg0 kt0 fr0 pt0 wl0 tn0 up0 lo0) sz) := by
  obtain ⟨z, hz⟩ := hd
  refine Met.ofW (cc := cX4_findFar) (maxL := 7) (ret := none) (by decide) rfl ?_
  intro p e s m args below meth c s₁ B hml hv
  obtain ⟨rfl, hsz, hP, hK, hD0, hN⟩ := hv
  have hx := B.exec
  have hb := B.bytes
  have hr := B.returns
  have hts := atoms_spec (ws := wsX4_findFar) B.pre
  have hown : s.vm.findClass RX4 = some m.cls := findClass_of_methodNamed B.named
  have hlocks := B.notSynchronized
  subst hsz
  have hD := hD0.self (sz := s.heap.size)
  generalize hAe : va_A (wM cI cJ q  nn0 ln0 sa0 sb0 wg0 kt0 fr0 pt0 wl0 tn0 up0 lo0) s.heap.size = A at hD ⊢
  have hA : ∀ q : Nat, s.heap.size ≤ q → A q := fun q h => by rw [← hAe]; exact Or.inr h
  have hinX4 : ∀ w ∈ u_ws RX4 TX4 12, w ∈ wsX4_findFar := by decide +kernel
  have hf7 := hts (.fieldLink RX4 7 "FewLinesModel" "n" "I") (by decide +kernel)
  have hf13 := hts (.fieldLink RX4 13 "FewLinesModel" "as" "[I") (by decide +kernel)
  have hf17 := hts (.fieldLink RX4 17 "FewLinesModel" "bs" "[I") (by decide +kernel)
  have hf20 := hts (.fieldLink RX4 20 "FewLinesModel" "weight" "[I") (by decide +kernel)
  have hf42 := hts (.fieldLink RX4 42 "FewLinesModel" "lines" "I") (by decide +kernel)
  have L13 : ∀ (x1 : Int32) (x3 : Int32) (e9 : Int32 × (Nat → Int32)), (∀ (x4' : Int32) (wl' : Nat → Int32) (H : Heap) (locs : List Loc) (ls : Array Slot), e9 = (x4', wl') → va_P (dC, dI) vwCl (wM cI cJ q  nn0 ln0 sa0 sb0 wg0 kt0 fr0 pt0 wl' tn0 up0 lo0) H → va_D A (wM cI cJ q  nn0 ln0 sa0 sb0 wg0 kt0 fr0 pt0 wl' tn0 up0 lo0) → va_S A s.heap H locs → lv_has ls 7 [(0, .ref (q 0)), (1, .int x1), (2, .ref (q 7)), (3, .int x3), (4, .int x4')] → W p l e (headSpec wsX4_findFar ({ frames := 0, cells := 0, slots := 0, locals := 0 })).room s m ([.ref (q 0), .int y1, .ref (q 7)] : List Value).toArray below meth c H locs 0 0 (MQ below (va_Qv (fun (u : (Nat → Int32)) => pX4_findFar_W nn0 ln0 sa0 sb0 wg0 wl0 y1 = some u) (fun u t => fw_B (dC, dI) A (wM cI cJ q  nn0 ln0 sa0 sb0 wg0 kt0 fr0 pt0 u tn0 up0 lo0) t) A) ([.ref (q 0), .int y1, .ref (q 7)] : List Value).toArray s 0 0 A) (F0 m 50 ls [])) → ∀ (n9 : Nat) (x4 : Int32) (wl : Nat → Int32) (H : Heap) (locs : List Loc) (ls : Array Slot), fw_wh (pX4_findFar_W_13 x3 nn0) n9 (x4, wl) = some e9 → va_P (dC, dI) vwCl (wM cI cJ q  nn0 ln0 sa0 sb0 wg0 kt0 fr0 pt0 wl tn0 up0 lo0) H → va_D A (wM cI cJ q  nn0 ln0 sa0 sb0 wg0 kt0 fr0 pt0 wl tn0 up0 lo0) → va_S A s.heap H locs → lv_has ls 7 [(0, .ref (q 0)), (1, .int x1), (2, .ref (q 7)), (3, .int x3), (4, .int x4)] → W p l e (headSpec wsX4_findFar ({ frames := 0, cells := 0, slots := 0, locals := 0 })).room s m ([.ref (q 0), .int y1, .ref (q 7)] : List Value).toArray below meth c H locs 0 0 (MQ below (va_Qv (fun (u : (Nat → Int32)) => pX4_findFar_W nn0 ln0 sa0 sb0 wg0 wl0 y1 = some u) (fun u t => fw_B (dC, dI) A (wM cI cJ q  nn0 ln0 sa0 sb0 wg0 kt0 fr0 pt0 u tn0 up0 lo0) t) A) ([.ref (q 0), .int y1, .ref (q 7)] : List Value).toArray s 0 0 A) (F0 m 13 ls []) := by
    intro x1 x3 e9 hkk n9
    induction n9 with
    | zero => exact fun _ _ H locs ls hq => (fw_wh0 hq).elim
    | succ n9 ih =>
      intro x4 wl H locs ls hq hP hD hS hl
      obtain ⟨w9, hq, hwI, hwE⟩ := fw_wh1 hq
      dsimp only [pX4_findFar_W_13] at hq
      refine lv_iload hx hb dX4_findFar_13 (lv_at hl 4 rfl) ?_
      refine lv_aload_n hx hb dX4_findFar_15 rfl (lv_at hl 0 rfl) ?_
      refine va_get (D := (dC, dI)) (ci := 4) (v := .int nn0) (C := RX4) (T := TX4) (N := 12) hx hb hts hinX4 hown hK hP 0 rfl rfl 0 (by decide) hf7 (fun _ h9 => h9) rfl dX4_findFar_16 ?_
      refine lv_icmp_ge (tgt := 50) hx hb dX4_findFar_19 (by decide) (fun c_2 => ?_) (fun c_2 => ?_)
      · have hq := fw_it c_2 hq
        exact hkk x4 wl H locs ls (hwE _ (Option.some.inj hq).symm) hP hD hS (lv_sub hl [0, 1, 2, 3, 4] rfl)
      · have hq := fw_if c_2 hq
        refine lv_aload_n hx hb dX4_findFar_22 rfl (lv_at hl 2 rfl) ?_
        refine lv_bipush (v := (7 : Int32)) hx hb dX4_findFar_23 (by decide) ?_
        refine lv_iload_n hx hb dX4_findFar_25 rfl (lv_at hl 3 rfl) ?_
        refine lv_imul hx hb dX4_findFar_26 ?_
        refine lv_iload hx hb dX4_findFar_27 (lv_at hl 4 rfl) ?_
        refine lv_iadd hx hb dX4_findFar_29 ?_
        refine lv_iload_n hx hb dX4_findFar_30 rfl (lv_at hl 3 rfl) ?_
        refine lv_iload hx hb dX4_findFar_31 (lv_at hl 4 rfl) ?_
        refine lv_icmp_ne (tgt := 40) hx hb dX4_findFar_33 (by decide) (fun c_3 => ?_) (fun c_3 => ?_)
        · have hq := fw_if c_3 hq
          refine lv_sipush (v := (10000 : Int32)) hx hb dX4_findFar_40 (by decide) ?_
          obtain ⟨h_4, hq⟩ := fw_ck_s hq
          refine va_iast hx hb hK hP hD hS 7 0 rfl rfl h_4 dX4_findFar_43 (fun H locs hP hD hS => ?_)
          have hP : va_P (dC, dI) vwCl (wM cI cJ q  nn0 ln0 sa0 sb0 wg0 kt0 fr0 pt0 (upd wl ((((7 : Int32) * x3) + x4)).toNatClampNeg (10000 : Int32)) tn0 up0 lo0) H := hP
          have hD : va_D A (wM cI cJ q  nn0 ln0 sa0 sb0 wg0 kt0 fr0 pt0 (upd wl ((((7 : Int32) * x3) + x4)).toNatClampNeg (10000 : Int32)) tn0 up0 lo0) := hD
          refine lv_iinc (v := (x4 + (1 : Int32))) (lv' := [(4, .int (x4 + (1 : Int32))), (0, .ref (q 0)), (1, .int x1), (2, .ref (q 7)), (3, .int x3)]) hx hb dX4_findFar_44 hl (k := 4) rfl rfl (by decide) rfl (fun ls hl => ?_)
          refine lv_goto (tgt := 13) hx hb dX4_findFar_47 (by decide) ?_
          exact ih (x4 + (1 : Int32)) (upd wl ((((7 : Int32) * x3) + x4)).toNatClampNeg (10000 : Int32)) H locs ls (hwI _ (Option.some.inj hq).symm) hP hD hS (lv_sub hl [1, 2, 3, 4, 0] rfl)
        · have hq := fw_it c_3 hq
          refine lv_iconst (v := (0 : Int32)) hx hb dX4_findFar_36 (by decide) ?_
          refine lv_goto (tgt := 43) hx hb dX4_findFar_37 (by decide) ?_
          obtain ⟨h_5, hq⟩ := fw_ck_s hq
          refine va_iast hx hb hK hP hD hS 7 0 rfl rfl h_5 dX4_findFar_43 (fun H locs hP hD hS => ?_)
          have hP : va_P (dC, dI) vwCl (wM cI cJ q  nn0 ln0 sa0 sb0 wg0 kt0 fr0 pt0 (upd wl ((((7 : Int32) * x3) + x4)).toNatClampNeg (0 : Int32)) tn0 up0 lo0) H := hP
          have hD : va_D A (wM cI cJ q  nn0 ln0 sa0 sb0 wg0 kt0 fr0 pt0 (upd wl ((((7 : Int32) * x3) + x4)).toNatClampNeg (0 : Int32)) tn0 up0 lo0) := hD
          refine lv_iinc (v := (x4 + (1 : Int32))) (lv' := [(4, .int (x4 + (1 : Int32))), (0, .ref (q 0)), (1, .int x1), (2, .ref (q 7)), (3, .int x3)]) hx hb dX4_findFar_44 hl (k := 4) rfl rfl (by decide) rfl (fun ls hl => ?_)
          refine lv_goto (tgt := 13) hx hb dX4_findFar_47 (by decide) ?_
          exact ih (x4 + (1 : Int32)) (upd wl ((((7 : Int32) * x3) + x4)).toNatClampNeg (0 : Int32)) H locs ls (hwI _ (Option.some.inj hq).symm) hP hD hS (lv_sub hl [1, 2, 3, 4, 0] rfl)
  have L2 : ∀ (x1 : Int32) (e9 : Int32 × (Nat → Int32)), (∀ (x3' : Int32) (wl' : Nat → Int32) (H : Heap) (locs : List Loc) (ls : Array Slot), e9 = (x3', wl') → va_P (dC, dI) vwCl (wM cI cJ q  nn0 ln0 sa0 sb0 wg0 kt0 fr0 pt0 wl' tn0 up0 lo0) H → va_D A (wM cI cJ q  nn0 ln0 sa0 sb0 wg0 kt0 fr0 pt0 wl' tn0 up0 lo0) → va_S A s.heap H locs → lv_has ls 7 [(0, .ref (q 0)), (1, .int x1), (2, .ref (q 7)), (3, .int x3')] → W p l e (headSpec wsX4_findFar ({ frames := 0, cells := 0, slots := 0, locals := 0 })).room s m ([.ref (q 0), .int y1, .ref (q 7)] : List Value).toArray below meth c H locs 0 0 (MQ below (va_Qv (fun (u : (Nat → Int32)) => pX4_findFar_W nn0 ln0 sa0 sb0 wg0 wl0 y1 = some u) (fun u t => fw_B (dC, dI) A (wM cI cJ q  nn0 ln0 sa0 sb0 wg0 kt0 fr0 pt0 u tn0 up0 lo0) t) A) ([.ref (q 0), .int y1, .ref (q 7)] : List Value).toArray s 0 0 A) (F0 m 56 ls [])) → ∀ (n9 : Nat) (x3 : Int32) (wl : Nat → Int32) (H : Heap) (locs : List Loc) (ls : Array Slot), fw_wh (pX4_findFar_W_2 nn0) n9 (x3, wl) = some e9 → va_P (dC, dI) vwCl (wM cI cJ q  nn0 ln0 sa0 sb0 wg0 kt0 fr0 pt0 wl tn0 up0 lo0) H → va_D A (wM cI cJ q  nn0 ln0 sa0 sb0 wg0 kt0 fr0 pt0 wl tn0 up0 lo0) → va_S A s.heap H locs → lv_has ls 7 [(0, .ref (q 0)), (1, .int x1), (2, .ref (q 7)), (3, .int x3)] → W p l e (headSpec wsX4_findFar ({ frames := 0, cells := 0, slots := 0, locals := 0 })).room s m ([.ref (q 0), .int y1, .ref (q 7)] : List Value).toArray below meth c H locs 0 0 (MQ below (va_Qv (fun (u : (Nat → Int32)) => pX4_findFar_W nn0 ln0 sa0 sb0 wg0 wl0 y1 = some u) (fun u t => fw_B (dC, dI) A (wM cI cJ q  nn0 ln0 sa0 sb0 wg0 kt0 fr0 pt0 u tn0 up0 lo0) t) A) ([.ref (q 0), .int y1, .ref (q 7)] : List Value).toArray s 0 0 A) (F0 m 2 ls []) := by
    intro x1 e9 hkk n9
    induction n9 with
    | zero => exact fun _ _ H locs ls hq => (fw_wh0 hq).elim
    | succ n9 ih =>
      intro x3 wl H locs ls hq hP hD hS hl
      obtain ⟨w9, hq, hwI, hwE⟩ := fw_wh1 hq
      dsimp only [pX4_findFar_W_2] at hq
      refine lv_iload_n hx hb dX4_findFar_2 rfl (lv_at hl 3 rfl) ?_
      refine lv_aload_n hx hb dX4_findFar_3 rfl (lv_at hl 0 rfl) ?_
      refine va_get (D := (dC, dI)) (ci := 4) (v := .int nn0) (C := RX4) (T := TX4) (N := 12) hx hb hts hinX4 hown hK hP 0 rfl rfl 0 (by decide) hf7 (fun _ h9 => h9) rfl dX4_findFar_4 ?_
      refine lv_icmp_ge (tgt := 56) hx hb dX4_findFar_7 (by decide) (fun c_1 => ?_) (fun c_1 => ?_)
      · have hq := fw_it c_1 hq
        exact hkk x3 wl H locs ls (hwE _ (Option.some.inj hq).symm) hP hD hS (lv_sub hl [0, 1, 2, 3] rfl)
      · have hq := fw_if c_1 hq
        refine lv_iconst (v := (0 : Int32)) hx hb dX4_findFar_10 (by decide) ?_
        refine lv_istore (lv' := [(4, .int (0 : Int32)), (0, .ref (q 0)), (1, .int x1), (2, .ref (q 7)), (3, .int x3)]) hx hb dX4_findFar_11 hl (by decide) rfl (fun ls hl => ?_)
        obtain ⟨e_8, hw, hq⟩ := fw_bb hq
        refine L13 x1 x3 e_8 (fun x4_6 wl_7 H locs ls he hP hD hS hl => ?_) fw_N (0 : Int32) wl H locs ls hw hP hD hS (lv_sub hl [1, 2, 3, 4, 0] rfl)
        subst he
        try dsimp only at hq
        refine lv_iinc (v := (x3 + (1 : Int32))) (lv' := [(3, .int (x3 + (1 : Int32))), (0, .ref (q 0)), (1, .int x1), (2, .ref (q 7)), (4, .int x4_6)]) hx hb dX4_findFar_50 hl (k := 3) rfl rfl (by decide) rfl (fun ls hl => ?_)
        refine lv_goto (tgt := 2) hx hb dX4_findFar_53 (by decide) ?_
        exact ih (x3 + (1 : Int32)) wl_7 H locs ls (hwI _ (Option.some.inj hq).symm) hP hD hS (lv_sub hl [1, 2, 3, 0] rfl)
  have L58 : ∀ (x1 : Int32) (e9 : Int32 × (Nat → Int32)), (∀ (x3' : Int32) (wl' : Nat → Int32) (H : Heap) (locs : List Loc) (ls : Array Slot), e9 = (x3', wl') → va_P (dC, dI) vwCl (wM cI cJ q  nn0 ln0 sa0 sb0 wg0 kt0 fr0 pt0 wl' tn0 up0 lo0) H → va_D A (wM cI cJ q  nn0 ln0 sa0 sb0 wg0 kt0 fr0 pt0 wl' tn0 up0 lo0) → va_S A s.heap H locs → lv_has ls 7 [(0, .ref (q 0)), (1, .int x1), (2, .ref (q 7)), (3, .int x3')] → W p l e (headSpec wsX4_findFar ({ frames := 0, cells := 0, slots := 0, locals := 0 })).room s m ([.ref (q 0), .int y1, .ref (q 7)] : List Value).toArray below meth c H locs 0 0 (MQ below (va_Qv (fun (u : (Nat → Int32)) => pX4_findFar_W nn0 ln0 sa0 sb0 wg0 wl0 y1 = some u) (fun u t => fw_B (dC, dI) A (wM cI cJ q  nn0 ln0 sa0 sb0 wg0 kt0 fr0 pt0 u tn0 up0 lo0) t) A) ([.ref (q 0), .int y1, .ref (q 7)] : List Value).toArray s 0 0 A) (F0 m 156 ls [])) → ∀ (n9 : Nat) (x3 : Int32) (wl : Nat → Int32) (H : Heap) (locs : List Loc) (ls : Array Slot), fw_wh (pX4_findFar_W_58 x1 ln0 sa0 sb0 wg0) n9 (x3, wl) = some e9 → va_P (dC, dI) vwCl (wM cI cJ q  nn0 ln0 sa0 sb0 wg0 kt0 fr0 pt0 wl tn0 up0 lo0) H → va_D A (wM cI cJ q  nn0 ln0 sa0 sb0 wg0 kt0 fr0 pt0 wl tn0 up0 lo0) → va_S A s.heap H locs → lv_has ls 7 [(0, .ref (q 0)), (1, .int x1), (2, .ref (q 7)), (3, .int x3)] → W p l e (headSpec wsX4_findFar ({ frames := 0, cells := 0, slots := 0, locals := 0 })).room s m ([.ref (q 0), .int y1, .ref (q 7)] : List Value).toArray below meth c H locs 0 0 (MQ below (va_Qv (fun (u : (Nat → Int32)) => pX4_findFar_W nn0 ln0 sa0 sb0 wg0 wl0 y1 = some u) (fun u t => fw_B (dC, dI) A (wM cI cJ q  nn0 ln0 sa0 sb0 wg0 kt0 fr0 pt0 u tn0 up0 lo0) t) A) ([.ref (q 0), .int y1, .ref (q 7)] : List Value).toArray s 0 0 A) (F0 m 58 ls []) := by
    intro x1 e9 hkk n9
    induction n9 with
    | zero => exact fun _ _ H locs ls hq => (fw_wh0 hq).elim
    | succ n9 ih =>
      intro x3 wl H locs ls hq hP hD hS hl
      obtain ⟨w9, hq, hwI, hwE⟩ := fw_wh1 hq
      dsimp only [pX4_findFar_W_58] at hq
      refine lv_iload_n hx hb dX4_findFar_58 rfl (lv_at hl 3 rfl) ?_
      refine lv_aload_n hx hb dX4_findFar_59 rfl (lv_at hl 0 rfl) ?_
      refine va_get (D := (dC, dI)) (ci := 4) (v := .int ln0) (C := RX4) (T := TX4) (N := 12) hx hb hts hinX4 hown hK hP 0 rfl rfl 1 (by decide) hf42 (fun _ h9 => h9) rfl dX4_findFar_60 ?_
      refine lv_icmp_ge (tgt := 156) hx hb dX4_findFar_63 (by decide) (fun c_12 => ?_) (fun c_12 => ?_)
      · have hq := fw_it c_12 hq
        exact hkk x3 wl H locs ls (hwE _ (Option.some.inj hq).symm) hP hD hS (lv_sub hl [0, 1, 2, 3] rfl)
      · have hq := fw_if c_12 hq
        refine lv_iload_n hx hb dX4_findFar_66 rfl (lv_at hl 1 rfl) ?_
        refine lv_iload_n hx hb dX4_findFar_67 rfl (lv_at hl 3 rfl) ?_
        refine lv_ishr hx hb dX4_findFar_68 ?_
        refine lv_iconst (v := (1 : Int32)) hx hb dX4_findFar_69 (by decide) ?_
        refine lv_iand hx hb dX4_findFar_70 ?_
        refine lv_iconst (v := (1 : Int32)) hx hb dX4_findFar_71 (by decide) ?_
        refine lv_icmp_ne (tgt := 150) hx hb dX4_findFar_72 (by decide) (fun c_13 => ?_) (fun c_13 => ?_)
        · have hq := fw_if c_13 hq
          refine lv_iinc (v := (x3 + (1 : Int32))) (lv' := [(3, .int (x3 + (1 : Int32))), (0, .ref (q 0)), (1, .int x1), (2, .ref (q 7))]) hx hb dX4_findFar_150 hl (k := 3) rfl rfl (by decide) rfl (fun ls hl => ?_)
          refine lv_goto (tgt := 58) hx hb dX4_findFar_153 (by decide) ?_
          exact ih (x3 + (1 : Int32)) wl H locs ls (hwI _ (Option.some.inj hq).symm) hP hD hS (lv_sub hl [1, 2, 3, 0] rfl)
        · have hq := fw_it c_13 hq
          refine lv_aload_n hx hb dX4_findFar_75 rfl (lv_at hl 0 rfl) ?_
          refine va_get (D := (dC, dI)) (ci := 4) (v := .ref (q 3)) (C := RX4) (T := TX4) (N := 12) hx hb hts hinX4 hown hK hP 0 rfl rfl 4 (by decide) hf20 (fun _ h9 => h9) rfl dX4_findFar_76 ?_
          refine lv_iload_n hx hb dX4_findFar_79 rfl (lv_at hl 3 rfl) ?_
          obtain ⟨h_14, hq⟩ := fw_ck_s hq
          refine va_iald hx hb hK hP 3 0 rfl rfl h_14 dX4_findFar_80 ?_
          refine lv_aload_n hx hb dX4_findFar_81 rfl (lv_at hl 2 rfl) ?_
          refine lv_bipush (v := (7 : Int32)) hx hb dX4_findFar_82 (by decide) ?_
          refine lv_aload_n hx hb dX4_findFar_84 rfl (lv_at hl 0 rfl) ?_
          refine va_get (D := (dC, dI)) (ci := 4) (v := .ref (q 1)) (C := RX4) (T := TX4) (N := 12) hx hb hts hinX4 hown hK hP 0 rfl rfl 2 (by decide) hf13 (fun _ h9 => h9) rfl dX4_findFar_85 ?_
          refine lv_iload_n hx hb dX4_findFar_88 rfl (lv_at hl 3 rfl) ?_
          obtain ⟨h_15, hq⟩ := fw_ck_s hq
          refine va_iald hx hb hK hP 1 0 rfl rfl h_15 dX4_findFar_89 ?_
          refine lv_imul hx hb dX4_findFar_90 ?_
          refine lv_aload_n hx hb dX4_findFar_91 rfl (lv_at hl 0 rfl) ?_
          refine va_get (D := (dC, dI)) (ci := 4) (v := .ref (q 2)) (C := RX4) (T := TX4) (N := 12) hx hb hts hinX4 hown hK hP 0 rfl rfl 3 (by decide) hf17 (fun _ h9 => h9) rfl dX4_findFar_92 ?_
          refine lv_iload_n hx hb dX4_findFar_95 rfl (lv_at hl 3 rfl) ?_
          obtain ⟨h_16, hq⟩ := fw_ck_s hq
          refine va_iald hx hb hK hP 2 0 rfl rfl h_16 dX4_findFar_96 ?_
          refine lv_iadd hx hb dX4_findFar_97 ?_
          obtain ⟨h_17, hq⟩ := fw_ck_s hq
          refine va_iald hx hb hK hP 7 0 rfl rfl h_17 dX4_findFar_98 ?_
          refine lv_icmp_ge (tgt := 150) hx hb dX4_findFar_99 (by decide) (fun c_18 => ?_) (fun c_18 => ?_)
          · have hq := fw_it c_18 hq
            refine lv_iinc (v := (x3 + (1 : Int32))) (lv' := [(3, .int (x3 + (1 : Int32))), (0, .ref (q 0)), (1, .int x1), (2, .ref (q 7))]) hx hb dX4_findFar_150 hl (k := 3) rfl rfl (by decide) rfl (fun ls hl => ?_)
            refine lv_goto (tgt := 58) hx hb dX4_findFar_153 (by decide) ?_
            exact ih (x3 + (1 : Int32)) wl H locs ls (hwI _ (Option.some.inj hq).symm) hP hD hS (lv_sub hl [1, 2, 3, 0] rfl)
          · have hq := fw_if c_18 hq
            refine lv_aload_n hx hb dX4_findFar_102 rfl (lv_at hl 2 rfl) ?_
            refine lv_bipush (v := (7 : Int32)) hx hb dX4_findFar_103 (by decide) ?_
            refine lv_aload_n hx hb dX4_findFar_105 rfl (lv_at hl 0 rfl) ?_
            refine va_get (D := (dC, dI)) (ci := 4) (v := .ref (q 1)) (C := RX4) (T := TX4) (N := 12) hx hb hts hinX4 hown hK hP 0 rfl rfl 2 (by decide) hf13 (fun _ h9 => h9) rfl dX4_findFar_106 ?_
            refine lv_iload_n hx hb dX4_findFar_109 rfl (lv_at hl 3 rfl) ?_
            obtain ⟨h_19, hq⟩ := fw_ck_s hq
            refine va_iald hx hb hK hP 1 0 rfl rfl h_19 dX4_findFar_110 ?_
            refine lv_imul hx hb dX4_findFar_111 ?_
            refine lv_aload_n hx hb dX4_findFar_112 rfl (lv_at hl 0 rfl) ?_
            refine va_get (D := (dC, dI)) (ci := 4) (v := .ref (q 2)) (C := RX4) (T := TX4) (N := 12) hx hb hts hinX4 hown hK hP 0 rfl rfl 3 (by decide) hf17 (fun _ h9 => h9) rfl dX4_findFar_113 ?_
            refine lv_iload_n hx hb dX4_findFar_116 rfl (lv_at hl 3 rfl) ?_
            obtain ⟨h_20, hq⟩ := fw_ck_s hq
            refine va_iald hx hb hK hP 2 0 rfl rfl h_20 dX4_findFar_117 ?_
            refine lv_iadd hx hb dX4_findFar_118 ?_
            refine lv_aload_n hx hb dX4_findFar_119 rfl (lv_at hl 0 rfl) ?_
            refine va_get (D := (dC, dI)) (ci := 4) (v := .ref (q 3)) (C := RX4) (T := TX4) (N := 12) hx hb hts hinX4 hown hK hP 0 rfl rfl 4 (by decide) hf20 (fun _ h9 => h9) rfl dX4_findFar_120 ?_
            refine lv_iload_n hx hb dX4_findFar_123 rfl (lv_at hl 3 rfl) ?_
            obtain ⟨h_21, hq⟩ := fw_ck_s hq
            refine va_iald hx hb hK hP 3 0 rfl rfl h_21 dX4_findFar_124 ?_
            obtain ⟨h_22, hq⟩ := fw_ck_s hq
            refine va_iast hx hb hK hP hD hS 7 0 rfl rfl h_22 dX4_findFar_125 (fun H locs hP hD hS => ?_)
            have hP : va_P (dC, dI) vwCl (wM cI cJ q  nn0 ln0 sa0 sb0 wg0 kt0 fr0 pt0 (upd wl ((((7 : Int32) * (sa0 (x3).toNatClampNeg)) + (sb0 (x3).toNatClampNeg))).toNatClampNeg (wg0 (x3).toNatClampNeg)) tn0 up0 lo0) H := hP
            have hD : va_D A (wM cI cJ q  nn0 ln0 sa0 sb0 wg0 kt0 fr0 pt0 (upd wl ((((7 : Int32) * (sa0 (x3).toNatClampNeg)) + (sb0 (x3).toNatClampNeg))).toNatClampNeg (wg0 (x3).toNatClampNeg)) tn0 up0 lo0) := hD
            refine lv_aload_n hx hb dX4_findFar_126 rfl (lv_at hl 2 rfl) ?_
            refine lv_bipush (v := (7 : Int32)) hx hb dX4_findFar_127 (by decide) ?_
            refine lv_aload_n hx hb dX4_findFar_129 rfl (lv_at hl 0 rfl) ?_
            refine va_get (D := (dC, dI)) (ci := 4) (v := .ref (q 2)) (C := RX4) (T := TX4) (N := 12) hx hb hts hinX4 hown hK hP 0 rfl rfl 3 (by decide) hf17 (fun _ h9 => h9) rfl dX4_findFar_130 ?_
            refine lv_iload_n hx hb dX4_findFar_133 rfl (lv_at hl 3 rfl) ?_
            obtain ⟨h_23, hq⟩ := fw_ck_s hq
            refine va_iald hx hb hK hP 2 0 rfl rfl h_23 dX4_findFar_134 ?_
            refine lv_imul hx hb dX4_findFar_135 ?_
            refine lv_aload_n hx hb dX4_findFar_136 rfl (lv_at hl 0 rfl) ?_
            refine va_get (D := (dC, dI)) (ci := 4) (v := .ref (q 1)) (C := RX4) (T := TX4) (N := 12) hx hb hts hinX4 hown hK hP 0 rfl rfl 2 (by decide) hf13 (fun _ h9 => h9) rfl dX4_findFar_137 ?_
            refine lv_iload_n hx hb dX4_findFar_140 rfl (lv_at hl 3 rfl) ?_
            obtain ⟨h_24, hq⟩ := fw_ck_s hq
            refine va_iald hx hb hK hP 1 0 rfl rfl h_24 dX4_findFar_141 ?_
            refine lv_iadd hx hb dX4_findFar_142 ?_
            refine lv_aload_n hx hb dX4_findFar_143 rfl (lv_at hl 0 rfl) ?_
            refine va_get (D := (dC, dI)) (ci := 4) (v := .ref (q 3)) (C := RX4) (T := TX4) (N := 12) hx hb hts hinX4 hown hK hP 0 rfl rfl 4 (by decide) hf20 (fun _ h9 => h9) rfl dX4_findFar_144 ?_
            refine lv_iload_n hx hb dX4_findFar_147 rfl (lv_at hl 3 rfl) ?_
            obtain ⟨h_25, hq⟩ := fw_ck_s hq
            refine va_iald hx hb hK hP 3 0 rfl rfl h_25 dX4_findFar_148 ?_
            obtain ⟨h_26, hq⟩ := fw_ck_s hq
            refine va_iast hx hb hK hP hD hS 7 0 rfl rfl h_26 dX4_findFar_149 (fun H locs hP hD hS => ?_)
            have hP : va_P (dC, dI) vwCl (wM cI cJ q  nn0 ln0 sa0 sb0 wg0 kt0 fr0 pt0 (upd (upd wl ((((7 : Int32) * (sa0 (x3).toNatClampNeg)) + (sb0 (x3).toNatClampNeg))).toNatClampNeg (wg0 (x3).toNatClampNeg)) ((((7 : Int32) * (sb0 (x3).toNatClampNeg)) + (sa0 (x3).toNatClampNeg))).toNatClampNeg (wg0 (x3).toNatClampNeg)) tn0 up0 lo0) H := hP
            have hD : va_D A (wM cI cJ q  nn0 ln0 sa0 sb0 wg0 kt0 fr0 pt0 (upd (upd wl ((((7 : Int32) * (sa0 (x3).toNatClampNeg)) + (sb0 (x3).toNatClampNeg))).toNatClampNeg (wg0 (x3).toNatClampNeg)) ((((7 : Int32) * (sb0 (x3).toNatClampNeg)) + (sa0 (x3).toNatClampNeg))).toNatClampNeg (wg0 (x3).toNatClampNeg)) tn0 up0 lo0) := hD
            refine lv_iinc (v := (x3 + (1 : Int32))) (lv' := [(3, .int (x3 + (1 : Int32))), (0, .ref (q 0)), (1, .int x1), (2, .ref (q 7))]) hx hb dX4_findFar_150 hl (k := 3) rfl rfl (by decide) rfl (fun ls hl => ?_)
            refine lv_goto (tgt := 58) hx hb dX4_findFar_153 (by decide) ?_
            exact ih (x3 + (1 : Int32)) (upd (upd wl ((((7 : Int32) * (sa0 (x3).toNatClampNeg)) + (sb0 (x3).toNatClampNeg))).toNatClampNeg (wg0 (x3).toNatClampNeg)) ((((7 : Int32) * (sb0 (x3).toNatClampNeg)) + (sa0 (x3).toNatClampNeg))).toNatClampNeg (wg0 (x3).toNatClampNeg)) H locs ls (hwI _ (Option.some.inj hq).symm) hP hD hS (lv_sub hl [1, 2, 3, 0] rfl)
  have L181 : ∀ (x3 : Int32) (x4 : Int32) (e9 : Int32 × (Nat → Int32)), (∀ (x5' : Int32) (wl' : Nat → Int32) (H : Heap) (locs : List Loc) (ls : Array Slot), e9 = (x5', wl') → va_P (dC, dI) vwCl (wM cI cJ q  nn0 ln0 sa0 sb0 wg0 kt0 fr0 pt0 wl' tn0 up0 lo0) H → va_D A (wM cI cJ q  nn0 ln0 sa0 sb0 wg0 kt0 fr0 pt0 wl' tn0 up0 lo0) → va_S A s.heap H locs → lv_has ls 7 [(0, .ref (q 0)), (2, .ref (q 7)), (3, .int x3), (4, .int x4), (5, .int x5')] → W p l e (headSpec wsX4_findFar ({ frames := 0, cells := 0, slots := 0, locals := 0 })).room s m ([.ref (q 0), .int y1, .ref (q 7)] : List Value).toArray below meth c H locs 0 0 (MQ below (va_Qv (fun (u : (Nat → Int32)) => pX4_findFar_W nn0 ln0 sa0 sb0 wg0 wl0 y1 = some u) (fun u t => fw_B (dC, dI) A (wM cI cJ q  nn0 ln0 sa0 sb0 wg0 kt0 fr0 pt0 u tn0 up0 lo0) t) A) ([.ref (q 0), .int y1, .ref (q 7)] : List Value).toArray s 0 0 A) (F0 m 257 ls [])) → ∀ (n9 : Nat) (x5 : Int32) (wl : Nat → Int32) (H : Heap) (locs : List Loc) (ls : Array Slot), fw_wh (pX4_findFar_W_181 x3 x4 nn0) n9 (x5, wl) = some e9 → va_P (dC, dI) vwCl (wM cI cJ q  nn0 ln0 sa0 sb0 wg0 kt0 fr0 pt0 wl tn0 up0 lo0) H → va_D A (wM cI cJ q  nn0 ln0 sa0 sb0 wg0 kt0 fr0 pt0 wl tn0 up0 lo0) → va_S A s.heap H locs → lv_has ls 7 [(0, .ref (q 0)), (2, .ref (q 7)), (3, .int x3), (4, .int x4), (5, .int x5)] → W p l e (headSpec wsX4_findFar ({ frames := 0, cells := 0, slots := 0, locals := 0 })).room s m ([.ref (q 0), .int y1, .ref (q 7)] : List Value).toArray below meth c H locs 0 0 (MQ below (va_Qv (fun (u : (Nat → Int32)) => pX4_findFar_W nn0 ln0 sa0 sb0 wg0 wl0 y1 = some u) (fun u t => fw_B (dC, dI) A (wM cI cJ q  nn0 ln0 sa0 sb0 wg0 kt0 fr0 pt0 u tn0 up0 lo0) t) A) ([.ref (q 0), .int y1, .ref (q 7)] : List Value).toArray s 0 0 A) (F0 m 181 ls []) := by
    intro x3 x4 e9 hkk n9
    induction n9 with
    | zero => exact fun _ _ H locs ls hq => (fw_wh0 hq).elim
    | succ n9 ih =>
      intro x5 wl H locs ls hq hP hD hS hl
      obtain ⟨w9, hq, hwI, hwE⟩ := fw_wh1 hq
      dsimp only [pX4_findFar_W_181] at hq
      refine lv_iload hx hb dX4_findFar_181 (lv_at hl 4 rfl) ?_
      refine lv_aload_n hx hb dX4_findFar_183 rfl (lv_at hl 0 rfl) ?_
      refine va_get (D := (dC, dI)) (ci := 4) (v := .int nn0) (C := RX4) (T := TX4) (N := 12) hx hb hts hinX4 hown hK hP 0 rfl rfl 0 (by decide) hf7 (fun _ h9 => h9) rfl dX4_findFar_184 ?_
      refine lv_icmp_ge (tgt := 257) hx hb dX4_findFar_187 (by decide) (fun c_32 => ?_) (fun c_32 => ?_)
      · have hq := fw_it c_32 hq
        exact hkk x5 wl H locs ls (hwE _ (Option.some.inj hq).symm) hP hD hS (lv_sub hl [0, 1, 2, 3, 4] rfl)
      · have hq := fw_if c_32 hq
        refine lv_aload_n hx hb dX4_findFar_190 rfl (lv_at hl 1 rfl) ?_
        refine lv_bipush (v := (7 : Int32)) hx hb dX4_findFar_191 (by decide) ?_
        refine lv_iload hx hb dX4_findFar_193 (lv_at hl 3 rfl) ?_
        refine lv_imul hx hb dX4_findFar_195 ?_
        refine lv_iload_n hx hb dX4_findFar_196 rfl (lv_at hl 2 rfl) ?_
        refine lv_iadd hx hb dX4_findFar_197 ?_
        obtain ⟨h_33, hq⟩ := fw_ck_s hq
        refine va_iald hx hb hK hP 7 0 rfl rfl h_33 dX4_findFar_198 ?_
        refine lv_aload_n hx hb dX4_findFar_199 rfl (lv_at hl 1 rfl) ?_
        refine lv_bipush (v := (7 : Int32)) hx hb dX4_findFar_200 (by decide) ?_
        refine lv_iload_n hx hb dX4_findFar_202 rfl (lv_at hl 2 rfl) ?_
        refine lv_imul hx hb dX4_findFar_203 ?_
        refine lv_iload hx hb dX4_findFar_204 (lv_at hl 4 rfl) ?_
        refine lv_iadd hx hb dX4_findFar_206 ?_
        obtain ⟨h_34, hq⟩ := fw_ck_s hq
        refine va_iald hx hb hK hP 7 0 rfl rfl h_34 dX4_findFar_207 ?_
        refine lv_iadd hx hb dX4_findFar_208 ?_
        refine lv_istore (lv' := [(6, .int ((wl ((((7 : Int32) * x4) + x3)).toNatClampNeg) + (wl ((((7 : Int32) * x3) + x5)).toNatClampNeg))), (0, .ref (q 0)), (2, .ref (q 7)), (3, .int x3), (4, .int x4), (5, .int x5)]) hx hb dX4_findFar_209 hl (by decide) rfl (fun ls hl => ?_)
        refine lv_aload_n hx hb dX4_findFar_211 rfl (lv_at hl 2 rfl) ?_
        refine lv_bipush (v := (7 : Int32)) hx hb dX4_findFar_212 (by decide) ?_
        refine lv_iload hx hb dX4_findFar_214 (lv_at hl 4 rfl) ?_
        refine lv_imul hx hb dX4_findFar_216 ?_
        refine lv_iload hx hb dX4_findFar_217 (lv_at hl 5 rfl) ?_
        refine lv_iadd hx hb dX4_findFar_219 ?_
        refine lv_iload hx hb dX4_findFar_220 (lv_at hl 0 rfl) ?_
        refine lv_aload_n hx hb dX4_findFar_222 rfl (lv_at hl 2 rfl) ?_
        refine lv_bipush (v := (7 : Int32)) hx hb dX4_findFar_223 (by decide) ?_
        refine lv_iload hx hb dX4_findFar_225 (lv_at hl 4 rfl) ?_
        refine lv_imul hx hb dX4_findFar_227 ?_
        refine lv_iload hx hb dX4_findFar_228 (lv_at hl 5 rfl) ?_
        refine lv_iadd hx hb dX4_findFar_230 ?_
        obtain ⟨h_35, hq⟩ := fw_ck_s hq
        refine va_iald hx hb hK hP 7 0 rfl rfl h_35 dX4_findFar_231 ?_
        refine lv_icmp_ge (tgt := 240) hx hb dX4_findFar_232 (by decide) (fun c_36 => ?_) (fun c_36 => ?_)
        · have hq := fw_it c_36 hq
          refine lv_aload_n hx hb dX4_findFar_240 rfl (lv_at hl 2 rfl) ?_
          refine lv_bipush (v := (7 : Int32)) hx hb dX4_findFar_241 (by decide) ?_
          refine lv_iload hx hb dX4_findFar_243 (lv_at hl 4 rfl) ?_
          refine lv_imul hx hb dX4_findFar_245 ?_
          refine lv_iload hx hb dX4_findFar_246 (lv_at hl 5 rfl) ?_
          refine lv_iadd hx hb dX4_findFar_248 ?_
          obtain ⟨h_37, hq⟩ := fw_ck_s hq
          refine va_iald hx hb hK hP 7 0 rfl rfl h_37 dX4_findFar_249 ?_
          obtain ⟨h_38, hq⟩ := fw_ck_s hq
          refine va_iast hx hb hK hP hD hS 7 0 rfl rfl h_38 dX4_findFar_250 (fun H locs hP hD hS => ?_)
          have hP : va_P (dC, dI) vwCl (wM cI cJ q  nn0 ln0 sa0 sb0 wg0 kt0 fr0 pt0 (upd wl ((((7 : Int32) * x4) + x5)).toNatClampNeg (wl ((((7 : Int32) * x4) + x5)).toNatClampNeg)) tn0 up0 lo0) H := hP
          have hD : va_D A (wM cI cJ q  nn0 ln0 sa0 sb0 wg0 kt0 fr0 pt0 (upd wl ((((7 : Int32) * x4) + x5)).toNatClampNeg (wl ((((7 : Int32) * x4) + x5)).toNatClampNeg)) tn0 up0 lo0) := hD
          refine lv_iinc (v := (x5 + (1 : Int32))) (lv' := [(5, .int (x5 + (1 : Int32))), (6, .int ((wl ((((7 : Int32) * x4) + x3)).toNatClampNeg) + (wl ((((7 : Int32) * x3) + x5)).toNatClampNeg))), (0, .ref (q 0)), (2, .ref (q 7)), (3, .int x3), (4, .int x4)]) hx hb dX4_findFar_251 hl (k := 5) rfl rfl (by decide) rfl (fun ls hl => ?_)
          refine lv_goto (tgt := 181) hx hb dX4_findFar_254 (by decide) ?_
          exact ih (x5 + (1 : Int32)) (upd wl ((((7 : Int32) * x4) + x5)).toNatClampNeg (wl ((((7 : Int32) * x4) + x5)).toNatClampNeg)) H locs ls (hwI _ (Option.some.inj hq).symm) hP hD hS (lv_sub hl [2, 3, 4, 5, 0] rfl)
        · have hq := fw_if c_36 hq
          refine lv_iload hx hb dX4_findFar_235 (lv_at hl 0 rfl) ?_
          refine lv_goto (tgt := 250) hx hb dX4_findFar_237 (by decide) ?_
          obtain ⟨h_39, hq⟩ := fw_ck_s hq
          refine va_iast hx hb hK hP hD hS 7 0 rfl rfl h_39 dX4_findFar_250 (fun H locs hP hD hS => ?_)
          have hP : va_P (dC, dI) vwCl (wM cI cJ q  nn0 ln0 sa0 sb0 wg0 kt0 fr0 pt0 (upd wl ((((7 : Int32) * x4) + x5)).toNatClampNeg ((wl ((((7 : Int32) * x4) + x3)).toNatClampNeg) + (wl ((((7 : Int32) * x3) + x5)).toNatClampNeg))) tn0 up0 lo0) H := hP
          have hD : va_D A (wM cI cJ q  nn0 ln0 sa0 sb0 wg0 kt0 fr0 pt0 (upd wl ((((7 : Int32) * x4) + x5)).toNatClampNeg ((wl ((((7 : Int32) * x4) + x3)).toNatClampNeg) + (wl ((((7 : Int32) * x3) + x5)).toNatClampNeg))) tn0 up0 lo0) := hD
          refine lv_iinc (v := (x5 + (1 : Int32))) (lv' := [(5, .int (x5 + (1 : Int32))), (6, .int ((wl ((((7 : Int32) * x4) + x3)).toNatClampNeg) + (wl ((((7 : Int32) * x3) + x5)).toNatClampNeg))), (0, .ref (q 0)), (2, .ref (q 7)), (3, .int x3), (4, .int x4)]) hx hb dX4_findFar_251 hl (k := 5) rfl rfl (by decide) rfl (fun ls hl => ?_)
          refine lv_goto (tgt := 181) hx hb dX4_findFar_254 (by decide) ?_
          exact ih (x5 + (1 : Int32)) (upd wl ((((7 : Int32) * x4) + x5)).toNatClampNeg ((wl ((((7 : Int32) * x4) + x3)).toNatClampNeg) + (wl ((((7 : Int32) * x3) + x5)).toNatClampNeg))) H locs ls (hwI _ (Option.some.inj hq).symm) hP hD hS (lv_sub hl [2, 3, 4, 5, 0] rfl)
  have L169 : ∀ (x3 : Int32) (e9 : Int32 × (Nat → Int32)), (∀ (x4' : Int32) (wl' : Nat → Int32) (H : Heap) (locs : List Loc) (ls : Array Slot), e9 = (x4', wl') → va_P (dC, dI) vwCl (wM cI cJ q  nn0 ln0 sa0 sb0 wg0 kt0 fr0 pt0 wl' tn0 up0 lo0) H → va_D A (wM cI cJ q  nn0 ln0 sa0 sb0 wg0 kt0 fr0 pt0 wl' tn0 up0 lo0) → va_S A s.heap H locs → lv_has ls 7 [(0, .ref (q 0)), (2, .ref (q 7)), (3, .int x3), (4, .int x4')] → W p l e (headSpec wsX4_findFar ({ frames := 0, cells := 0, slots := 0, locals := 0 })).room s m ([.ref (q 0), .int y1, .ref (q 7)] : List Value).toArray below meth c H locs 0 0 (MQ below (va_Qv (fun (u : (Nat → Int32)) => pX4_findFar_W nn0 ln0 sa0 sb0 wg0 wl0 y1 = some u) (fun u t => fw_B (dC, dI) A (wM cI cJ q  nn0 ln0 sa0 sb0 wg0 kt0 fr0 pt0 u tn0 up0 lo0) t) A) ([.ref (q 0), .int y1, .ref (q 7)] : List Value).toArray s 0 0 A) (F0 m 263 ls [])) → ∀ (n9 : Nat) (x4 : Int32) (wl : Nat → Int32) (H : Heap) (locs : List Loc) (ls : Array Slot), fw_wh (pX4_findFar_W_169 x3 nn0) n9 (x4, wl) = some e9 → va_P (dC, dI) vwCl (wM cI cJ q  nn0 ln0 sa0 sb0 wg0 kt0 fr0 pt0 wl tn0 up0 lo0) H → va_D A (wM cI cJ q  nn0 ln0 sa0 sb0 wg0 kt0 fr0 pt0 wl tn0 up0 lo0) → va_S A s.heap H locs → lv_has ls 7 [(0, .ref (q 0)), (2, .ref (q 7)), (3, .int x3), (4, .int x4)] → W p l e (headSpec wsX4_findFar ({ frames := 0, cells := 0, slots := 0, locals := 0 })).room s m ([.ref (q 0), .int y1, .ref (q 7)] : List Value).toArray below meth c H locs 0 0 (MQ below (va_Qv (fun (u : (Nat → Int32)) => pX4_findFar_W nn0 ln0 sa0 sb0 wg0 wl0 y1 = some u) (fun u t => fw_B (dC, dI) A (wM cI cJ q  nn0 ln0 sa0 sb0 wg0 kt0 fr0 pt0 u tn0 up0 lo0) t) A) ([.ref (q 0), .int y1, .ref (q 7)] : List Value).toArray s 0 0 A) (F0 m 169 ls []) := by
    intro x3 e9 hkk n9
    induction n9 with
    | zero => exact fun _ _ H locs ls hq => (fw_wh0 hq).elim
    | succ n9 ih =>
      intro x4 wl H locs ls hq hP hD hS hl
      obtain ⟨w9, hq, hwI, hwE⟩ := fw_wh1 hq
      dsimp only [pX4_findFar_W_169] at hq
      refine lv_iload hx hb dX4_findFar_169 (lv_at hl 3 rfl) ?_
      refine lv_aload_n hx hb dX4_findFar_171 rfl (lv_at hl 0 rfl) ?_
      refine va_get (D := (dC, dI)) (ci := 4) (v := .int nn0) (C := RX4) (T := TX4) (N := 12) hx hb hts hinX4 hown hK hP 0 rfl rfl 0 (by decide) hf7 (fun _ h9 => h9) rfl dX4_findFar_172 ?_
      refine lv_icmp_ge (tgt := 263) hx hb dX4_findFar_175 (by decide) (fun c_31 => ?_) (fun c_31 => ?_)
      · have hq := fw_it c_31 hq
        exact hkk x4 wl H locs ls (hwE _ (Option.some.inj hq).symm) hP hD hS (lv_sub hl [0, 1, 2, 3] rfl)
      · have hq := fw_if c_31 hq
        refine lv_iconst (v := (0 : Int32)) hx hb dX4_findFar_178 (by decide) ?_
        refine lv_istore (lv' := [(5, .int (0 : Int32)), (0, .ref (q 0)), (2, .ref (q 7)), (3, .int x3), (4, .int x4)]) hx hb dX4_findFar_179 hl (by decide) rfl (fun ls hl => ?_)
        obtain ⟨e_42, hw, hq⟩ := fw_bb hq
        refine L181 x3 x4 e_42 (fun x5_40 wl_41 H locs ls he hP hD hS hl => ?_) fw_N (0 : Int32) wl H locs ls hw hP hD hS (lv_sub hl [1, 2, 3, 4, 0] rfl)
        subst he
        try dsimp only at hq
        refine lv_iinc (v := (x4 + (1 : Int32))) (lv' := [(4, .int (x4 + (1 : Int32))), (0, .ref (q 0)), (2, .ref (q 7)), (3, .int x3), (5, .int x5_40)]) hx hb dX4_findFar_257 hl (k := 3) rfl rfl (by decide) rfl (fun ls hl => ?_)
        refine lv_goto (tgt := 169) hx hb dX4_findFar_260 (by decide) ?_
        exact ih (x4 + (1 : Int32)) wl_41 H locs ls (hwI _ (Option.some.inj hq).symm) hP hD hS (lv_sub hl [1, 2, 3, 0] rfl)
  have L158 : ∀  (e9 : Int32 × (Nat → Int32)), (∀ (x3' : Int32) (wl' : Nat → Int32) (H : Heap) (locs : List Loc) (ls : Array Slot), e9 = (x3', wl') → va_P (dC, dI) vwCl (wM cI cJ q  nn0 ln0 sa0 sb0 wg0 kt0 fr0 pt0 wl' tn0 up0 lo0) H → va_D A (wM cI cJ q  nn0 ln0 sa0 sb0 wg0 kt0 fr0 pt0 wl' tn0 up0 lo0) → va_S A s.heap H locs → lv_has ls 7 [(0, .ref (q 0)), (2, .ref (q 7)), (3, .int x3')] → W p l e (headSpec wsX4_findFar ({ frames := 0, cells := 0, slots := 0, locals := 0 })).room s m ([.ref (q 0), .int y1, .ref (q 7)] : List Value).toArray below meth c H locs 0 0 (MQ below (va_Qv (fun (u : (Nat → Int32)) => pX4_findFar_W nn0 ln0 sa0 sb0 wg0 wl0 y1 = some u) (fun u t => fw_B (dC, dI) A (wM cI cJ q  nn0 ln0 sa0 sb0 wg0 kt0 fr0 pt0 u tn0 up0 lo0) t) A) ([.ref (q 0), .int y1, .ref (q 7)] : List Value).toArray s 0 0 A) (F0 m 269 ls [])) → ∀ (n9 : Nat) (x3 : Int32) (wl : Nat → Int32) (H : Heap) (locs : List Loc) (ls : Array Slot), fw_wh (pX4_findFar_W_158 nn0) n9 (x3, wl) = some e9 → va_P (dC, dI) vwCl (wM cI cJ q  nn0 ln0 sa0 sb0 wg0 kt0 fr0 pt0 wl tn0 up0 lo0) H → va_D A (wM cI cJ q  nn0 ln0 sa0 sb0 wg0 kt0 fr0 pt0 wl tn0 up0 lo0) → va_S A s.heap H locs → lv_has ls 7 [(0, .ref (q 0)), (2, .ref (q 7)), (3, .int x3)] → W p l e (headSpec wsX4_findFar ({ frames := 0, cells := 0, slots := 0, locals := 0 })).room s m ([.ref (q 0), .int y1, .ref (q 7)] : List Value).toArray below meth c H locs 0 0 (MQ below (va_Qv (fun (u : (Nat → Int32)) => pX4_findFar_W nn0 ln0 sa0 sb0 wg0 wl0 y1 = some u) (fun u t => fw_B (dC, dI) A (wM cI cJ q  nn0 ln0 sa0 sb0 wg0 kt0 fr0 pt0 u tn0 up0 lo0) t) A) ([.ref (q 0), .int y1, .ref (q 7)] : List Value).toArray s 0 0 A) (F0 m 158 ls []) := by
    intro  e9 hkk n9
    induction n9 with
    | zero => exact fun _ _ H locs ls hq => (fw_wh0 hq).elim
    | succ n9 ih =>
      intro x3 wl H locs ls hq hP hD hS hl
      obtain ⟨w9, hq, hwI, hwE⟩ := fw_wh1 hq
      dsimp only [pX4_findFar_W_158] at hq
      refine lv_iload_n hx hb dX4_findFar_158 rfl (lv_at hl 2 rfl) ?_
      refine lv_aload_n hx hb dX4_findFar_159 rfl (lv_at hl 0 rfl) ?_
      refine va_get (D := (dC, dI)) (ci := 4) (v := .int nn0) (C := RX4) (T := TX4) (N := 12) hx hb hts hinX4 hown hK hP 0 rfl rfl 0 (by decide) hf7 (fun _ h9 => h9) rfl dX4_findFar_160 ?_
      refine lv_icmp_ge (tgt := 269) hx hb dX4_findFar_163 (by decide) (fun c_30 => ?_) (fun c_30 => ?_)
      · have hq := fw_it c_30 hq
        exact hkk x3 wl H locs ls (hwE _ (Option.some.inj hq).symm) hP hD hS (lv_sub hl [0, 1, 2] rfl)
      · have hq := fw_if c_30 hq
        refine lv_iconst (v := (0 : Int32)) hx hb dX4_findFar_166 (by decide) ?_
        refine lv_istore (lv' := [(4, .int (0 : Int32)), (0, .ref (q 0)), (2, .ref (q 7)), (3, .int x3)]) hx hb dX4_findFar_167 hl (by decide) rfl (fun ls hl => ?_)
        obtain ⟨e_45, hw, hq⟩ := fw_bb hq
        refine L169 x3 e_45 (fun x4_43 wl_44 H locs ls he hP hD hS hl => ?_) fw_N (0 : Int32) wl H locs ls hw hP hD hS (lv_sub hl [1, 2, 3, 0] rfl)
        subst he
        try dsimp only at hq
        refine lv_iinc (v := (x3 + (1 : Int32))) (lv' := [(3, .int (x3 + (1 : Int32))), (0, .ref (q 0)), (2, .ref (q 7)), (4, .int x4_43)]) hx hb dX4_findFar_263 hl (k := 2) rfl rfl (by decide) rfl (fun ls hl => ?_)
        refine lv_goto (tgt := 158) hx hb dX4_findFar_266 (by decide) ?_
        exact ih (x3 + (1 : Int32)) wl_44 H locs ls (hwI _ (Option.some.inj hq).symm) hP hD hS (lv_sub hl [1, 2, 0] rfl)
  have hq := hz
  dsimp only [pX4_findFar_W] at hq
  have hl := lv_entry (([.ref (q 0), .int y1, .ref (q 7)] : List Value)) (n := 7) (Nat.le_of_ble_eq_true rfl)
  rw [lg_entry_eq]
  generalize (lg_sl (([.ref (q 0), .int y1, .ref (q 7)] : List Value)) ++ List.replicate (7 - (lg_sl (([.ref (q 0), .int y1, .ref (q 7)] : List Value))).length) Slot.unset).toArray = ls at hl ⊢
  have hl : lv_has ls 7 [(0, .ref (q 0)), (1, .int y1), (2, .ref (q 7))] := hl
  obtain ⟨H, hHe⟩ : ∃ H : Heap, H = s.heap := ⟨_, rfl⟩
  obtain ⟨locs, hLe⟩ : ∃ L : List Loc, L = [] := ⟨_, rfl⟩
  have hP : va_P (dC, dI) vwCl (wM cI cJ q  nn0 ln0 sa0 sb0 wg0 kt0 fr0 pt0 wl0 tn0 up0 lo0) H := by rw [hHe]; exact hP
  have hS : va_S A s.heap H locs := by rw [hHe, hLe]; exact va_S.rf
  show W p l e (headSpec wsX4_findFar ({ frames := 0, cells := 0, slots := 0, locals := 0 })).room s m ([.ref (q 0), .int y1, .ref (q 7)] : List Value).toArray below meth c s.heap [] 0 0 (MQ below (va_Qv (fun (u : (Nat → Int32)) => pX4_findFar_W nn0 ln0 sa0 sb0 wg0 wl0 y1 = some u) (fun u t => fw_B (dC, dI) A (wM cI cJ q  nn0 ln0 sa0 sb0 wg0 kt0 fr0 pt0 u tn0 up0 lo0) t) A) ([.ref (q 0), .int y1, .ref (q 7)] : List Value).toArray s 0 0 A) (F0 m 0 ls [])
  rw [← hHe, ← hLe]
  refine lv_iconst (v := (0 : Int32)) hx hb dX4_findFar_0 (by decide) ?_
  refine lv_istore_n (lv' := [(3, .int (0 : Int32)), (0, .ref (q 0)), (1, .int y1), (2, .ref (q 7))]) hx hb dX4_findFar_1 rfl hl (by decide) rfl (fun ls hl => ?_)
  obtain ⟨e_11, hw, hq⟩ := fw_bb hq
  refine L2 y1 e_11 (fun x3_9 wl_10 H locs ls he hP hD hS hl => ?_) fw_N (0 : Int32) wl0 H locs ls hw hP hD hS (lv_sub hl [1, 2, 3, 0] rfl)
  subst he
  try dsimp only at hq
  refine lv_iconst (v := (0 : Int32)) hx hb dX4_findFar_56 (by decide) ?_
  refine lv_istore_n (lv' := [(3, .int (0 : Int32)), (0, .ref (q 0)), (1, .int y1), (2, .ref (q 7))]) hx hb dX4_findFar_57 rfl hl (by decide) rfl (fun ls hl => ?_)
  obtain ⟨e_29, hw, hq⟩ := fw_bb hq
  refine L58 y1 e_29 (fun x3_27 wl_28 H locs ls he hP hD hS hl => ?_) fw_N (0 : Int32) wl_10 H locs ls hw hP hD hS (lv_sub hl [1, 2, 3, 0] rfl)
  subst he
  try dsimp only at hq
  refine lv_iconst (v := (0 : Int32)) hx hb dX4_findFar_156 (by decide) ?_
  refine lv_istore_n (lv' := [(3, .int (0 : Int32)), (0, .ref (q 0)), (1, .int y1), (2, .ref (q 7))]) hx hb dX4_findFar_157 rfl hl (by decide) rfl (fun ls hl => ?_)
  obtain ⟨e_48, hw, hq⟩ := fw_bb hq
  refine L158  e_48 (fun x3_46 wl_47 H locs ls he hP hD hS hl => ?_) fw_N (0 : Int32) wl_28 H locs ls hw hP hD hS (lv_sub hl [1, 3, 0] rfl)
  subst he
  try dsimp only at hq
  exact W.vret hx hb hr (fun t ht hW => ⟨⟨wl_47, rfl, hz.trans hq.symm, by rw [ht]; exact hP, hD⟩, hS.F ht⟩) hS.2.2 dX4_findFar_269
set_option maxHeartbeats 4000000 in
set_option maxRecDepth 100000 in
theorem kX4_findFar_T (l : Launch) (dC : Nat → ClassId) (dI : Nat → Nat → Nat) (cI cJ : ClassId) (q : Nat → Nat) (sz : Nat)  (nn0 : Int32) (ln0 : Int32) (sa0 : Nat → Int32) (sb0 : Nat → Int32) (wg0 : Nat → Int32) (kt0 : Nat → Int32) (fr0 : Nat → Int32) (pt0 : Nat → Int32) (wl0 : Nat → Int32) (tn0 : Nat → Int32) (up0 : Int64) (lo0 : Int64) (y1 : Int32) (hd : ∃ z, pX4_findFar_T nn0 ln0 sa0 sb0 wg0 tn0 y1 = some z) : Met l yX4_findFar wsX4_findFar ({ frames := 0, cells := 0, slots := 0, locals := 0 }) (fw_Pc (dC, dI) (fw_tys cI cJ) (wM cI cJ q  nn0 ln0 sa0 sb0 wg0 kt0 fr0 pt0 wl0 tn0 up0 lo0) ([.ref (q 0), .int y1, .ref (q 8)] : List Value) sz) (va_Qv (fun (u : (Nat → Int32)) => pX4_findFar_T nn0 ln0 sa0 sb0 wg0 tn0 y1 = some u) (fun u t => fw_B (dC, dI) (va_A (wM cI cJ q  nn0 ln0 sa0 sb0 wg0 kt0 fr0 pt0 wl0 tn0 up0 lo0) sz) (wM cI cJ q  nn0 ln0 sa0 sb0 wg0 kt0 fr0 pt0 wl0 u up0 lo0) t) (va_A (wM cI cJ q  nn0 ln0 sa0 sb0 wg0 kt0 fr0 pt0 wl0 tn0 up0 lo0) sz)) 0 0 (va_A (wM cI cJ q  nn0 ln0 sa0 sb0 wg0 kt0 fr0 pt0 wl0 tn0 up0 lo0) sz) := by
  obtain ⟨z, hz⟩ := hd
  refine Met.ofW (cc := cX4_findFar) (maxL := 7) (ret := none) (by decide) rfl ?_
  intro p e s m args below meth c s₁ B hml hv
  obtain ⟨rfl, hsz, hP, hK, hD0, hN⟩ := hv
  have hx := B.exec
  have hb := B.bytes
  have hr := B.returns
  have hts := atoms_spec (ws := wsX4_findFar) B.pre
  have hown : s.vm.findClass RX4 = some m.cls := findClass_of_methodNamed B.named
  have hlocks := B.notSynchronized
  subst hsz
  have hD := hD0.self (sz := s.heap.size)
  generalize hAe : va_A (wM cI cJ q  nn0 ln0 sa0 sb0 wg0 kt0 fr0 pt0 wl0 tn0 up0 lo0) s.heap.size = A at hD ⊢
  have hA : ∀ q : Nat, s.heap.size ≤ q → A q := fun q h => by rw [← hAe]; exact Or.inr h
  have hinX4 : ∀ w ∈ u_ws RX4 TX4 12, w ∈ wsX4_findFar := by decide +kernel
  have hf7 := hts (.fieldLink RX4 7 "FewLinesModel" "n" "I") (by decide +kernel)
  have hf13 := hts (.fieldLink RX4 13 "FewLinesModel" "as" "[I") (by decide +kernel)
  have hf17 := hts (.fieldLink RX4 17 "FewLinesModel" "bs" "[I") (by decide +kernel)
  have hf20 := hts (.fieldLink RX4 20 "FewLinesModel" "weight" "[I") (by decide +kernel)
  have hf42 := hts (.fieldLink RX4 42 "FewLinesModel" "lines" "I") (by decide +kernel)
  have L13 : ∀ (x1 : Int32) (x3 : Int32) (e9 : Int32 × (Nat → Int32)), (∀ (x4' : Int32) (tn' : Nat → Int32) (H : Heap) (locs : List Loc) (ls : Array Slot), e9 = (x4', tn') → va_P (dC, dI) vwCl (wM cI cJ q  nn0 ln0 sa0 sb0 wg0 kt0 fr0 pt0 wl0 tn' up0 lo0) H → va_D A (wM cI cJ q  nn0 ln0 sa0 sb0 wg0 kt0 fr0 pt0 wl0 tn' up0 lo0) → va_S A s.heap H locs → lv_has ls 7 [(0, .ref (q 0)), (1, .int x1), (2, .ref (q 8)), (3, .int x3), (4, .int x4')] → W p l e (headSpec wsX4_findFar ({ frames := 0, cells := 0, slots := 0, locals := 0 })).room s m ([.ref (q 0), .int y1, .ref (q 8)] : List Value).toArray below meth c H locs 0 0 (MQ below (va_Qv (fun (u : (Nat → Int32)) => pX4_findFar_T nn0 ln0 sa0 sb0 wg0 tn0 y1 = some u) (fun u t => fw_B (dC, dI) A (wM cI cJ q  nn0 ln0 sa0 sb0 wg0 kt0 fr0 pt0 wl0 u up0 lo0) t) A) ([.ref (q 0), .int y1, .ref (q 8)] : List Value).toArray s 0 0 A) (F0 m 50 ls [])) → ∀ (n9 : Nat) (x4 : Int32) (tn : Nat → Int32) (H : Heap) (locs : List Loc) (ls : Array Slot), fw_wh (pX4_findFar_T_13 x3 nn0) n9 (x4, tn) = some e9 → va_P (dC, dI) vwCl (wM cI cJ q  nn0 ln0 sa0 sb0 wg0 kt0 fr0 pt0 wl0 tn up0 lo0) H → va_D A (wM cI cJ q  nn0 ln0 sa0 sb0 wg0 kt0 fr0 pt0 wl0 tn up0 lo0) → va_S A s.heap H locs → lv_has ls 7 [(0, .ref (q 0)), (1, .int x1), (2, .ref (q 8)), (3, .int x3), (4, .int x4)] → W p l e (headSpec wsX4_findFar ({ frames := 0, cells := 0, slots := 0, locals := 0 })).room s m ([.ref (q 0), .int y1, .ref (q 8)] : List Value).toArray below meth c H locs 0 0 (MQ below (va_Qv (fun (u : (Nat → Int32)) => pX4_findFar_T nn0 ln0 sa0 sb0 wg0 tn0 y1 = some u) (fun u t => fw_B (dC, dI) A (wM cI cJ q  nn0 ln0 sa0 sb0 wg0 kt0 fr0 pt0 wl0 u up0 lo0) t) A) ([.ref (q 0), .int y1, .ref (q 8)] : List Value).toArray s 0 0 A) (F0 m 13 ls []) := by
    intro x1 x3 e9 hkk n9
    induction n9 with
    | zero => exact fun _ _ H locs ls hq => (fw_wh0 hq).elim
    | succ n9 ih =>
      intro x4 tn H locs ls hq hP hD hS hl
      obtain ⟨w9, hq, hwI, hwE⟩ := fw_wh1 hq
      dsimp only [pX4_findFar_T_13] at hq
      refine lv_iload hx hb dX4_findFar_13 (lv_at hl 4 rfl) ?_
      refine lv_aload_n hx hb dX4_findFar_15 rfl (lv_at hl 0 rfl) ?_
      refine va_get (D := (dC, dI)) (ci := 4) (v := .int nn0) (C := RX4) (T := TX4) (N := 12) hx hb hts hinX4 hown hK hP 0 rfl rfl 0 (by decide) hf7 (fun _ h9 => h9) rfl dX4_findFar_16 ?_
      refine lv_icmp_ge (tgt := 50) hx hb dX4_findFar_19 (by decide) (fun c_2 => ?_) (fun c_2 => ?_)
      · have hq := fw_it c_2 hq
        exact hkk x4 tn H locs ls (hwE _ (Option.some.inj hq).symm) hP hD hS (lv_sub hl [0, 1, 2, 3, 4] rfl)
      · have hq := fw_if c_2 hq
        refine lv_aload_n hx hb dX4_findFar_22 rfl (lv_at hl 2 rfl) ?_
        refine lv_bipush (v := (7 : Int32)) hx hb dX4_findFar_23 (by decide) ?_
        refine lv_iload_n hx hb dX4_findFar_25 rfl (lv_at hl 3 rfl) ?_
        refine lv_imul hx hb dX4_findFar_26 ?_
        refine lv_iload hx hb dX4_findFar_27 (lv_at hl 4 rfl) ?_
        refine lv_iadd hx hb dX4_findFar_29 ?_
        refine lv_iload_n hx hb dX4_findFar_30 rfl (lv_at hl 3 rfl) ?_
        refine lv_iload hx hb dX4_findFar_31 (lv_at hl 4 rfl) ?_
        refine lv_icmp_ne (tgt := 40) hx hb dX4_findFar_33 (by decide) (fun c_3 => ?_) (fun c_3 => ?_)
        · have hq := fw_if c_3 hq
          refine lv_sipush (v := (10000 : Int32)) hx hb dX4_findFar_40 (by decide) ?_
          obtain ⟨h_4, hq⟩ := fw_ck_s hq
          refine va_iast hx hb hK hP hD hS 8 0 rfl rfl h_4 dX4_findFar_43 (fun H locs hP hD hS => ?_)
          have hP : va_P (dC, dI) vwCl (wM cI cJ q  nn0 ln0 sa0 sb0 wg0 kt0 fr0 pt0 wl0 (upd tn ((((7 : Int32) * x3) + x4)).toNatClampNeg (10000 : Int32)) up0 lo0) H := hP
          have hD : va_D A (wM cI cJ q  nn0 ln0 sa0 sb0 wg0 kt0 fr0 pt0 wl0 (upd tn ((((7 : Int32) * x3) + x4)).toNatClampNeg (10000 : Int32)) up0 lo0) := hD
          refine lv_iinc (v := (x4 + (1 : Int32))) (lv' := [(4, .int (x4 + (1 : Int32))), (0, .ref (q 0)), (1, .int x1), (2, .ref (q 8)), (3, .int x3)]) hx hb dX4_findFar_44 hl (k := 4) rfl rfl (by decide) rfl (fun ls hl => ?_)
          refine lv_goto (tgt := 13) hx hb dX4_findFar_47 (by decide) ?_
          exact ih (x4 + (1 : Int32)) (upd tn ((((7 : Int32) * x3) + x4)).toNatClampNeg (10000 : Int32)) H locs ls (hwI _ (Option.some.inj hq).symm) hP hD hS (lv_sub hl [1, 2, 3, 4, 0] rfl)
        · have hq := fw_it c_3 hq
          refine lv_iconst (v := (0 : Int32)) hx hb dX4_findFar_36 (by decide) ?_
          refine lv_goto (tgt := 43) hx hb dX4_findFar_37 (by decide) ?_
          obtain ⟨h_5, hq⟩ := fw_ck_s hq
          refine va_iast hx hb hK hP hD hS 8 0 rfl rfl h_5 dX4_findFar_43 (fun H locs hP hD hS => ?_)
          have hP : va_P (dC, dI) vwCl (wM cI cJ q  nn0 ln0 sa0 sb0 wg0 kt0 fr0 pt0 wl0 (upd tn ((((7 : Int32) * x3) + x4)).toNatClampNeg (0 : Int32)) up0 lo0) H := hP
          have hD : va_D A (wM cI cJ q  nn0 ln0 sa0 sb0 wg0 kt0 fr0 pt0 wl0 (upd tn ((((7 : Int32) * x3) + x4)).toNatClampNeg (0 : Int32)) up0 lo0) := hD
          refine lv_iinc (v := (x4 + (1 : Int32))) (lv' := [(4, .int (x4 + (1 : Int32))), (0, .ref (q 0)), (1, .int x1), (2, .ref (q 8)), (3, .int x3)]) hx hb dX4_findFar_44 hl (k := 4) rfl rfl (by decide) rfl (fun ls hl => ?_)
          refine lv_goto (tgt := 13) hx hb dX4_findFar_47 (by decide) ?_
          exact ih (x4 + (1 : Int32)) (upd tn ((((7 : Int32) * x3) + x4)).toNatClampNeg (0 : Int32)) H locs ls (hwI _ (Option.some.inj hq).symm) hP hD hS (lv_sub hl [1, 2, 3, 4, 0] rfl)
  have L2 : ∀ (x1 : Int32) (e9 : Int32 × (Nat → Int32)), (∀ (x3' : Int32) (tn' : Nat → Int32) (H : Heap) (locs : List Loc) (ls : Array Slot), e9 = (x3', tn') → va_P (dC, dI) vwCl (wM cI cJ q  nn0 ln0 sa0 sb0 wg0 kt0 fr0 pt0 wl0 tn' up0 lo0) H → va_D A (wM cI cJ q  nn0 ln0 sa0 sb0 wg0 kt0 fr0 pt0 wl0 tn' up0 lo0) → va_S A s.heap H locs → lv_has ls 7 [(0, .ref (q 0)), (1, .int x1), (2, .ref (q 8)), (3, .int x3')] → W p l e (headSpec wsX4_findFar ({ frames := 0, cells := 0, slots := 0, locals := 0 })).room s m ([.ref (q 0), .int y1, .ref (q 8)] : List Value).toArray below meth c H locs 0 0 (MQ below (va_Qv (fun (u : (Nat → Int32)) => pX4_findFar_T nn0 ln0 sa0 sb0 wg0 tn0 y1 = some u) (fun u t => fw_B (dC, dI) A (wM cI cJ q  nn0 ln0 sa0 sb0 wg0 kt0 fr0 pt0 wl0 u up0 lo0) t) A) ([.ref (q 0), .int y1, .ref (q 8)] : List Value).toArray s 0 0 A) (F0 m 56 ls [])) → ∀ (n9 : Nat) (x3 : Int32) (tn : Nat → Int32) (H : Heap) (locs : List Loc) (ls : Array Slot), fw_wh (pX4_findFar_T_2 nn0) n9 (x3, tn) = some e9 → va_P (dC, dI) vwCl (wM cI cJ q  nn0 ln0 sa0 sb0 wg0 kt0 fr0 pt0 wl0 tn up0 lo0) H → va_D A (wM cI cJ q  nn0 ln0 sa0 sb0 wg0 kt0 fr0 pt0 wl0 tn up0 lo0) → va_S A s.heap H locs → lv_has ls 7 [(0, .ref (q 0)), (1, .int x1), (2, .ref (q 8)), (3, .int x3)] → W p l e (headSpec wsX4_findFar ({ frames := 0, cells := 0, slots := 0, locals := 0 })).room s m ([.ref (q 0), .int y1, .ref (q 8)] : List Value).toArray below meth c H locs 0 0 (MQ below (va_Qv (fun (u : (Nat → Int32)) => pX4_findFar_T nn0 ln0 sa0 sb0 wg0 tn0 y1 = some u) (fun u t => fw_B (dC, dI) A (wM cI cJ q  nn0 ln0 sa0 sb0 wg0 kt0 fr0 pt0 wl0 u up0 lo0) t) A) ([.ref (q 0), .int y1, .ref (q 8)] : List Value).toArray s 0 0 A) (F0 m 2 ls []) := by
    intro x1 e9 hkk n9
    induction n9 with
    | zero => exact fun _ _ H locs ls hq => (fw_wh0 hq).elim
    | succ n9 ih =>
      intro x3 tn H locs ls hq hP hD hS hl
      obtain ⟨w9, hq, hwI, hwE⟩ := fw_wh1 hq
      dsimp only [pX4_findFar_T_2] at hq
      refine lv_iload_n hx hb dX4_findFar_2 rfl (lv_at hl 3 rfl) ?_
      refine lv_aload_n hx hb dX4_findFar_3 rfl (lv_at hl 0 rfl) ?_
      refine va_get (D := (dC, dI)) (ci := 4) (v := .int nn0) (C := RX4) (T := TX4) (N := 12) hx hb hts hinX4 hown hK hP 0 rfl rfl 0 (by decide) hf7 (fun _ h9 => h9) rfl dX4_findFar_4 ?_
      refine lv_icmp_ge (tgt := 56) hx hb dX4_findFar_7 (by decide) (fun c_1 => ?_) (fun c_1 => ?_)
      · have hq := fw_it c_1 hq
        exact hkk x3 tn H locs ls (hwE _ (Option.some.inj hq).symm) hP hD hS (lv_sub hl [0, 1, 2, 3] rfl)
      · have hq := fw_if c_1 hq
        refine lv_iconst (v := (0 : Int32)) hx hb dX4_findFar_10 (by decide) ?_
        refine lv_istore (lv' := [(4, .int (0 : Int32)), (0, .ref (q 0)), (1, .int x1), (2, .ref (q 8)), (3, .int x3)]) hx hb dX4_findFar_11 hl (by decide) rfl (fun ls hl => ?_)
        obtain ⟨e_8, hw, hq⟩ := fw_bb hq
        refine L13 x1 x3 e_8 (fun x4_6 tn_7 H locs ls he hP hD hS hl => ?_) fw_N (0 : Int32) tn H locs ls hw hP hD hS (lv_sub hl [1, 2, 3, 4, 0] rfl)
        subst he
        try dsimp only at hq
        refine lv_iinc (v := (x3 + (1 : Int32))) (lv' := [(3, .int (x3 + (1 : Int32))), (0, .ref (q 0)), (1, .int x1), (2, .ref (q 8)), (4, .int x4_6)]) hx hb dX4_findFar_50 hl (k := 3) rfl rfl (by decide) rfl (fun ls hl => ?_)
        refine lv_goto (tgt := 2) hx hb dX4_findFar_53 (by decide) ?_
        exact ih (x3 + (1 : Int32)) tn_7 H locs ls (hwI _ (Option.some.inj hq).symm) hP hD hS (lv_sub hl [1, 2, 3, 0] rfl)
  have L58 : ∀ (x1 : Int32) (e9 : Int32 × (Nat → Int32)), (∀ (x3' : Int32) (tn' : Nat → Int32) (H : Heap) (locs : List Loc) (ls : Array Slot), e9 = (x3', tn') → va_P (dC, dI) vwCl (wM cI cJ q  nn0 ln0 sa0 sb0 wg0 kt0 fr0 pt0 wl0 tn' up0 lo0) H → va_D A (wM cI cJ q  nn0 ln0 sa0 sb0 wg0 kt0 fr0 pt0 wl0 tn' up0 lo0) → va_S A s.heap H locs → lv_has ls 7 [(0, .ref (q 0)), (1, .int x1), (2, .ref (q 8)), (3, .int x3')] → W p l e (headSpec wsX4_findFar ({ frames := 0, cells := 0, slots := 0, locals := 0 })).room s m ([.ref (q 0), .int y1, .ref (q 8)] : List Value).toArray below meth c H locs 0 0 (MQ below (va_Qv (fun (u : (Nat → Int32)) => pX4_findFar_T nn0 ln0 sa0 sb0 wg0 tn0 y1 = some u) (fun u t => fw_B (dC, dI) A (wM cI cJ q  nn0 ln0 sa0 sb0 wg0 kt0 fr0 pt0 wl0 u up0 lo0) t) A) ([.ref (q 0), .int y1, .ref (q 8)] : List Value).toArray s 0 0 A) (F0 m 156 ls [])) → ∀ (n9 : Nat) (x3 : Int32) (tn : Nat → Int32) (H : Heap) (locs : List Loc) (ls : Array Slot), fw_wh (pX4_findFar_T_58 x1 ln0 sa0 sb0 wg0) n9 (x3, tn) = some e9 → va_P (dC, dI) vwCl (wM cI cJ q  nn0 ln0 sa0 sb0 wg0 kt0 fr0 pt0 wl0 tn up0 lo0) H → va_D A (wM cI cJ q  nn0 ln0 sa0 sb0 wg0 kt0 fr0 pt0 wl0 tn up0 lo0) → va_S A s.heap H locs → lv_has ls 7 [(0, .ref (q 0)), (1, .int x1), (2, .ref (q 8)), (3, .int x3)] → W p l e (headSpec wsX4_findFar ({ frames := 0, cells := 0, slots := 0, locals := 0 })).room s m ([.ref (q 0), .int y1, .ref (q 8)] : List Value).toArray below meth c H locs 0 0 (MQ below (va_Qv (fun (u : (Nat → Int32)) => pX4_findFar_T nn0 ln0 sa0 sb0 wg0 tn0 y1 = some u) (fun u t => fw_B (dC, dI) A (wM cI cJ q  nn0 ln0 sa0 sb0 wg0 kt0 fr0 pt0 wl0 u up0 lo0) t) A) ([.ref (q 0), .int y1, .ref (q 8)] : List Value).toArray s 0 0 A) (F0 m 58 ls []) := by
    intro x1 e9 hkk n9
    induction n9 with
    | zero => exact fun _ _ H locs ls hq => (fw_wh0 hq).elim
    | succ n9 ih =>
      intro x3 tn H locs ls hq hP hD hS hl
      obtain ⟨w9, hq, hwI, hwE⟩ := fw_wh1 hq
      dsimp only [pX4_findFar_T_58] at hq
      refine lv_iload_n hx hb dX4_findFar_58 rfl (lv_at hl 3 rfl) ?_
      refine lv_aload_n hx hb dX4_findFar_59 rfl (lv_at hl 0 rfl) ?_
      refine va_get (D := (dC, dI)) (ci := 4) (v := .int ln0) (C := RX4) (T := TX4) (N := 12) hx hb hts hinX4 hown hK hP 0 rfl rfl 1 (by decide) hf42 (fun _ h9 => h9) rfl dX4_findFar_60 ?_
      refine lv_icmp_ge (tgt := 156) hx hb dX4_findFar_63 (by decide) (fun c_12 => ?_) (fun c_12 => ?_)
      · have hq := fw_it c_12 hq
        exact hkk x3 tn H locs ls (hwE _ (Option.some.inj hq).symm) hP hD hS (lv_sub hl [0, 1, 2, 3] rfl)
      · have hq := fw_if c_12 hq
        refine lv_iload_n hx hb dX4_findFar_66 rfl (lv_at hl 1 rfl) ?_
        refine lv_iload_n hx hb dX4_findFar_67 rfl (lv_at hl 3 rfl) ?_
        refine lv_ishr hx hb dX4_findFar_68 ?_
        refine lv_iconst (v := (1 : Int32)) hx hb dX4_findFar_69 (by decide) ?_
        refine lv_iand hx hb dX4_findFar_70 ?_
        refine lv_iconst (v := (1 : Int32)) hx hb dX4_findFar_71 (by decide) ?_
        refine lv_icmp_ne (tgt := 150) hx hb dX4_findFar_72 (by decide) (fun c_13 => ?_) (fun c_13 => ?_)
        · have hq := fw_if c_13 hq
          refine lv_iinc (v := (x3 + (1 : Int32))) (lv' := [(3, .int (x3 + (1 : Int32))), (0, .ref (q 0)), (1, .int x1), (2, .ref (q 8))]) hx hb dX4_findFar_150 hl (k := 3) rfl rfl (by decide) rfl (fun ls hl => ?_)
          refine lv_goto (tgt := 58) hx hb dX4_findFar_153 (by decide) ?_
          exact ih (x3 + (1 : Int32)) tn H locs ls (hwI _ (Option.some.inj hq).symm) hP hD hS (lv_sub hl [1, 2, 3, 0] rfl)
        · have hq := fw_it c_13 hq
          refine lv_aload_n hx hb dX4_findFar_75 rfl (lv_at hl 0 rfl) ?_
          refine va_get (D := (dC, dI)) (ci := 4) (v := .ref (q 3)) (C := RX4) (T := TX4) (N := 12) hx hb hts hinX4 hown hK hP 0 rfl rfl 4 (by decide) hf20 (fun _ h9 => h9) rfl dX4_findFar_76 ?_
          refine lv_iload_n hx hb dX4_findFar_79 rfl (lv_at hl 3 rfl) ?_
          obtain ⟨h_14, hq⟩ := fw_ck_s hq
          refine va_iald hx hb hK hP 3 0 rfl rfl h_14 dX4_findFar_80 ?_
          refine lv_aload_n hx hb dX4_findFar_81 rfl (lv_at hl 2 rfl) ?_
          refine lv_bipush (v := (7 : Int32)) hx hb dX4_findFar_82 (by decide) ?_
          refine lv_aload_n hx hb dX4_findFar_84 rfl (lv_at hl 0 rfl) ?_
          refine va_get (D := (dC, dI)) (ci := 4) (v := .ref (q 1)) (C := RX4) (T := TX4) (N := 12) hx hb hts hinX4 hown hK hP 0 rfl rfl 2 (by decide) hf13 (fun _ h9 => h9) rfl dX4_findFar_85 ?_
          refine lv_iload_n hx hb dX4_findFar_88 rfl (lv_at hl 3 rfl) ?_
          obtain ⟨h_15, hq⟩ := fw_ck_s hq
          refine va_iald hx hb hK hP 1 0 rfl rfl h_15 dX4_findFar_89 ?_
          refine lv_imul hx hb dX4_findFar_90 ?_
          refine lv_aload_n hx hb dX4_findFar_91 rfl (lv_at hl 0 rfl) ?_
          refine va_get (D := (dC, dI)) (ci := 4) (v := .ref (q 2)) (C := RX4) (T := TX4) (N := 12) hx hb hts hinX4 hown hK hP 0 rfl rfl 3 (by decide) hf17 (fun _ h9 => h9) rfl dX4_findFar_92 ?_
          refine lv_iload_n hx hb dX4_findFar_95 rfl (lv_at hl 3 rfl) ?_
          obtain ⟨h_16, hq⟩ := fw_ck_s hq
          refine va_iald hx hb hK hP 2 0 rfl rfl h_16 dX4_findFar_96 ?_
          refine lv_iadd hx hb dX4_findFar_97 ?_
          obtain ⟨h_17, hq⟩ := fw_ck_s hq
          refine va_iald hx hb hK hP 8 0 rfl rfl h_17 dX4_findFar_98 ?_
          refine lv_icmp_ge (tgt := 150) hx hb dX4_findFar_99 (by decide) (fun c_18 => ?_) (fun c_18 => ?_)
          · have hq := fw_it c_18 hq
            refine lv_iinc (v := (x3 + (1 : Int32))) (lv' := [(3, .int (x3 + (1 : Int32))), (0, .ref (q 0)), (1, .int x1), (2, .ref (q 8))]) hx hb dX4_findFar_150 hl (k := 3) rfl rfl (by decide) rfl (fun ls hl => ?_)
            refine lv_goto (tgt := 58) hx hb dX4_findFar_153 (by decide) ?_
            exact ih (x3 + (1 : Int32)) tn H locs ls (hwI _ (Option.some.inj hq).symm) hP hD hS (lv_sub hl [1, 2, 3, 0] rfl)
          · have hq := fw_if c_18 hq
            refine lv_aload_n hx hb dX4_findFar_102 rfl (lv_at hl 2 rfl) ?_
            refine lv_bipush (v := (7 : Int32)) hx hb dX4_findFar_103 (by decide) ?_
            refine lv_aload_n hx hb dX4_findFar_105 rfl (lv_at hl 0 rfl) ?_
            refine va_get (D := (dC, dI)) (ci := 4) (v := .ref (q 1)) (C := RX4) (T := TX4) (N := 12) hx hb hts hinX4 hown hK hP 0 rfl rfl 2 (by decide) hf13 (fun _ h9 => h9) rfl dX4_findFar_106 ?_
            refine lv_iload_n hx hb dX4_findFar_109 rfl (lv_at hl 3 rfl) ?_
            obtain ⟨h_19, hq⟩ := fw_ck_s hq
            refine va_iald hx hb hK hP 1 0 rfl rfl h_19 dX4_findFar_110 ?_
            refine lv_imul hx hb dX4_findFar_111 ?_
            refine lv_aload_n hx hb dX4_findFar_112 rfl (lv_at hl 0 rfl) ?_
            refine va_get (D := (dC, dI)) (ci := 4) (v := .ref (q 2)) (C := RX4) (T := TX4) (N := 12) hx hb hts hinX4 hown hK hP 0 rfl rfl 3 (by decide) hf17 (fun _ h9 => h9) rfl dX4_findFar_113 ?_
            refine lv_iload_n hx hb dX4_findFar_116 rfl (lv_at hl 3 rfl) ?_
            obtain ⟨h_20, hq⟩ := fw_ck_s hq
            refine va_iald hx hb hK hP 2 0 rfl rfl h_20 dX4_findFar_117 ?_
            refine lv_iadd hx hb dX4_findFar_118 ?_
            refine lv_aload_n hx hb dX4_findFar_119 rfl (lv_at hl 0 rfl) ?_
            refine va_get (D := (dC, dI)) (ci := 4) (v := .ref (q 3)) (C := RX4) (T := TX4) (N := 12) hx hb hts hinX4 hown hK hP 0 rfl rfl 4 (by decide) hf20 (fun _ h9 => h9) rfl dX4_findFar_120 ?_
            refine lv_iload_n hx hb dX4_findFar_123 rfl (lv_at hl 3 rfl) ?_
            obtain ⟨h_21, hq⟩ := fw_ck_s hq
            refine va_iald hx hb hK hP 3 0 rfl rfl h_21 dX4_findFar_124 ?_
            obtain ⟨h_22, hq⟩ := fw_ck_s hq
            refine va_iast hx hb hK hP hD hS 8 0 rfl rfl h_22 dX4_findFar_125 (fun H locs hP hD hS => ?_)
            have hP : va_P (dC, dI) vwCl (wM cI cJ q  nn0 ln0 sa0 sb0 wg0 kt0 fr0 pt0 wl0 (upd tn ((((7 : Int32) * (sa0 (x3).toNatClampNeg)) + (sb0 (x3).toNatClampNeg))).toNatClampNeg (wg0 (x3).toNatClampNeg)) up0 lo0) H := hP
            have hD : va_D A (wM cI cJ q  nn0 ln0 sa0 sb0 wg0 kt0 fr0 pt0 wl0 (upd tn ((((7 : Int32) * (sa0 (x3).toNatClampNeg)) + (sb0 (x3).toNatClampNeg))).toNatClampNeg (wg0 (x3).toNatClampNeg)) up0 lo0) := hD
            refine lv_aload_n hx hb dX4_findFar_126 rfl (lv_at hl 2 rfl) ?_
            refine lv_bipush (v := (7 : Int32)) hx hb dX4_findFar_127 (by decide) ?_
            refine lv_aload_n hx hb dX4_findFar_129 rfl (lv_at hl 0 rfl) ?_
            refine va_get (D := (dC, dI)) (ci := 4) (v := .ref (q 2)) (C := RX4) (T := TX4) (N := 12) hx hb hts hinX4 hown hK hP 0 rfl rfl 3 (by decide) hf17 (fun _ h9 => h9) rfl dX4_findFar_130 ?_
            refine lv_iload_n hx hb dX4_findFar_133 rfl (lv_at hl 3 rfl) ?_
            obtain ⟨h_23, hq⟩ := fw_ck_s hq
            refine va_iald hx hb hK hP 2 0 rfl rfl h_23 dX4_findFar_134 ?_
            refine lv_imul hx hb dX4_findFar_135 ?_
            refine lv_aload_n hx hb dX4_findFar_136 rfl (lv_at hl 0 rfl) ?_
            refine va_get (D := (dC, dI)) (ci := 4) (v := .ref (q 1)) (C := RX4) (T := TX4) (N := 12) hx hb hts hinX4 hown hK hP 0 rfl rfl 2 (by decide) hf13 (fun _ h9 => h9) rfl dX4_findFar_137 ?_
            refine lv_iload_n hx hb dX4_findFar_140 rfl (lv_at hl 3 rfl) ?_
            obtain ⟨h_24, hq⟩ := fw_ck_s hq
            refine va_iald hx hb hK hP 1 0 rfl rfl h_24 dX4_findFar_141 ?_
            refine lv_iadd hx hb dX4_findFar_142 ?_
            refine lv_aload_n hx hb dX4_findFar_143 rfl (lv_at hl 0 rfl) ?_
            refine va_get (D := (dC, dI)) (ci := 4) (v := .ref (q 3)) (C := RX4) (T := TX4) (N := 12) hx hb hts hinX4 hown hK hP 0 rfl rfl 4 (by decide) hf20 (fun _ h9 => h9) rfl dX4_findFar_144 ?_
            refine lv_iload_n hx hb dX4_findFar_147 rfl (lv_at hl 3 rfl) ?_
            obtain ⟨h_25, hq⟩ := fw_ck_s hq
            refine va_iald hx hb hK hP 3 0 rfl rfl h_25 dX4_findFar_148 ?_
            obtain ⟨h_26, hq⟩ := fw_ck_s hq
            refine va_iast hx hb hK hP hD hS 8 0 rfl rfl h_26 dX4_findFar_149 (fun H locs hP hD hS => ?_)
            have hP : va_P (dC, dI) vwCl (wM cI cJ q  nn0 ln0 sa0 sb0 wg0 kt0 fr0 pt0 wl0 (upd (upd tn ((((7 : Int32) * (sa0 (x3).toNatClampNeg)) + (sb0 (x3).toNatClampNeg))).toNatClampNeg (wg0 (x3).toNatClampNeg)) ((((7 : Int32) * (sb0 (x3).toNatClampNeg)) + (sa0 (x3).toNatClampNeg))).toNatClampNeg (wg0 (x3).toNatClampNeg)) up0 lo0) H := hP
            have hD : va_D A (wM cI cJ q  nn0 ln0 sa0 sb0 wg0 kt0 fr0 pt0 wl0 (upd (upd tn ((((7 : Int32) * (sa0 (x3).toNatClampNeg)) + (sb0 (x3).toNatClampNeg))).toNatClampNeg (wg0 (x3).toNatClampNeg)) ((((7 : Int32) * (sb0 (x3).toNatClampNeg)) + (sa0 (x3).toNatClampNeg))).toNatClampNeg (wg0 (x3).toNatClampNeg)) up0 lo0) := hD
            refine lv_iinc (v := (x3 + (1 : Int32))) (lv' := [(3, .int (x3 + (1 : Int32))), (0, .ref (q 0)), (1, .int x1), (2, .ref (q 8))]) hx hb dX4_findFar_150 hl (k := 3) rfl rfl (by decide) rfl (fun ls hl => ?_)
            refine lv_goto (tgt := 58) hx hb dX4_findFar_153 (by decide) ?_
            exact ih (x3 + (1 : Int32)) (upd (upd tn ((((7 : Int32) * (sa0 (x3).toNatClampNeg)) + (sb0 (x3).toNatClampNeg))).toNatClampNeg (wg0 (x3).toNatClampNeg)) ((((7 : Int32) * (sb0 (x3).toNatClampNeg)) + (sa0 (x3).toNatClampNeg))).toNatClampNeg (wg0 (x3).toNatClampNeg)) H locs ls (hwI _ (Option.some.inj hq).symm) hP hD hS (lv_sub hl [1, 2, 3, 0] rfl)
  have L181 : ∀ (x3 : Int32) (x4 : Int32) (e9 : Int32 × (Nat → Int32)), (∀ (x5' : Int32) (tn' : Nat → Int32) (H : Heap) (locs : List Loc) (ls : Array Slot), e9 = (x5', tn') → va_P (dC, dI) vwCl (wM cI cJ q  nn0 ln0 sa0 sb0 wg0 kt0 fr0 pt0 wl0 tn' up0 lo0) H → va_D A (wM cI cJ q  nn0 ln0 sa0 sb0 wg0 kt0 fr0 pt0 wl0 tn' up0 lo0) → va_S A s.heap H locs → lv_has ls 7 [(0, .ref (q 0)), (2, .ref (q 8)), (3, .int x3), (4, .int x4), (5, .int x5')] → W p l e (headSpec wsX4_findFar ({ frames := 0, cells := 0, slots := 0, locals := 0 })).room s m ([.ref (q 0), .int y1, .ref (q 8)] : List Value).toArray below meth c H locs 0 0 (MQ below (va_Qv (fun (u : (Nat → Int32)) => pX4_findFar_T nn0 ln0 sa0 sb0 wg0 tn0 y1 = some u) (fun u t => fw_B (dC, dI) A (wM cI cJ q  nn0 ln0 sa0 sb0 wg0 kt0 fr0 pt0 wl0 u up0 lo0) t) A) ([.ref (q 0), .int y1, .ref (q 8)] : List Value).toArray s 0 0 A) (F0 m 257 ls [])) → ∀ (n9 : Nat) (x5 : Int32) (tn : Nat → Int32) (H : Heap) (locs : List Loc) (ls : Array Slot), fw_wh (pX4_findFar_T_181 x3 x4 nn0) n9 (x5, tn) = some e9 → va_P (dC, dI) vwCl (wM cI cJ q  nn0 ln0 sa0 sb0 wg0 kt0 fr0 pt0 wl0 tn up0 lo0) H → va_D A (wM cI cJ q  nn0 ln0 sa0 sb0 wg0 kt0 fr0 pt0 wl0 tn up0 lo0) → va_S A s.heap H locs → lv_has ls 7 [(0, .ref (q 0)), (2, .ref (q 8)), (3, .int x3), (4, .int x4), (5, .int x5)] → W p l e (headSpec wsX4_findFar ({ frames := 0, cells := 0, slots := 0, locals := 0 })).room s m ([.ref (q 0), .int y1, .ref (q 8)] : List Value).toArray below meth c H locs 0 0 (MQ below (va_Qv (fun (u : (Nat → Int32)) => pX4_findFar_T nn0 ln0 sa0 sb0 wg0 tn0 y1 = some u) (fun u t => fw_B (dC, dI) A (wM cI cJ q  nn0 ln0 sa0 sb0 wg0 kt0 fr0 pt0 wl0 u up0 lo0) t) A) ([.ref (q 0), .int y1, .ref (q 8)] : List Value).toArray s 0 0 A) (F0 m 181 ls []) := by
    intro x3 x4 e9 hkk n9
    induction n9 with
    | zero => exact fun _ _ H locs ls hq => (fw_wh0 hq).elim
    | succ n9 ih =>
      intro x5 tn H locs ls hq hP hD hS hl
      obtain ⟨w9, hq, hwI, hwE⟩ := fw_wh1 hq
      dsimp only [pX4_findFar_T_181] at hq
      refine lv_iload hx hb dX4_findFar_181 (lv_at hl 4 rfl) ?_
      refine lv_aload_n hx hb dX4_findFar_183 rfl (lv_at hl 0 rfl) ?_
      refine va_get (D := (dC, dI)) (ci := 4) (v := .int nn0) (C := RX4) (T := TX4) (N := 12) hx hb hts hinX4 hown hK hP 0 rfl rfl 0 (by decide) hf7 (fun _ h9 => h9) rfl dX4_findFar_184 ?_
      refine lv_icmp_ge (tgt := 257) hx hb dX4_findFar_187 (by decide) (fun c_32 => ?_) (fun c_32 => ?_)
      · have hq := fw_it c_32 hq
        exact hkk x5 tn H locs ls (hwE _ (Option.some.inj hq).symm) hP hD hS (lv_sub hl [0, 1, 2, 3, 4] rfl)
      · have hq := fw_if c_32 hq
        refine lv_aload_n hx hb dX4_findFar_190 rfl (lv_at hl 1 rfl) ?_
        refine lv_bipush (v := (7 : Int32)) hx hb dX4_findFar_191 (by decide) ?_
        refine lv_iload hx hb dX4_findFar_193 (lv_at hl 3 rfl) ?_
        refine lv_imul hx hb dX4_findFar_195 ?_
        refine lv_iload_n hx hb dX4_findFar_196 rfl (lv_at hl 2 rfl) ?_
        refine lv_iadd hx hb dX4_findFar_197 ?_
        obtain ⟨h_33, hq⟩ := fw_ck_s hq
        refine va_iald hx hb hK hP 8 0 rfl rfl h_33 dX4_findFar_198 ?_
        refine lv_aload_n hx hb dX4_findFar_199 rfl (lv_at hl 1 rfl) ?_
        refine lv_bipush (v := (7 : Int32)) hx hb dX4_findFar_200 (by decide) ?_
        refine lv_iload_n hx hb dX4_findFar_202 rfl (lv_at hl 2 rfl) ?_
        refine lv_imul hx hb dX4_findFar_203 ?_
        refine lv_iload hx hb dX4_findFar_204 (lv_at hl 4 rfl) ?_
        refine lv_iadd hx hb dX4_findFar_206 ?_
        obtain ⟨h_34, hq⟩ := fw_ck_s hq
        refine va_iald hx hb hK hP 8 0 rfl rfl h_34 dX4_findFar_207 ?_
        refine lv_iadd hx hb dX4_findFar_208 ?_
        refine lv_istore (lv' := [(6, .int ((tn ((((7 : Int32) * x4) + x3)).toNatClampNeg) + (tn ((((7 : Int32) * x3) + x5)).toNatClampNeg))), (0, .ref (q 0)), (2, .ref (q 8)), (3, .int x3), (4, .int x4), (5, .int x5)]) hx hb dX4_findFar_209 hl (by decide) rfl (fun ls hl => ?_)
        refine lv_aload_n hx hb dX4_findFar_211 rfl (lv_at hl 2 rfl) ?_
        refine lv_bipush (v := (7 : Int32)) hx hb dX4_findFar_212 (by decide) ?_
        refine lv_iload hx hb dX4_findFar_214 (lv_at hl 4 rfl) ?_
        refine lv_imul hx hb dX4_findFar_216 ?_
        refine lv_iload hx hb dX4_findFar_217 (lv_at hl 5 rfl) ?_
        refine lv_iadd hx hb dX4_findFar_219 ?_
        refine lv_iload hx hb dX4_findFar_220 (lv_at hl 0 rfl) ?_
        refine lv_aload_n hx hb dX4_findFar_222 rfl (lv_at hl 2 rfl) ?_
        refine lv_bipush (v := (7 : Int32)) hx hb dX4_findFar_223 (by decide) ?_
        refine lv_iload hx hb dX4_findFar_225 (lv_at hl 4 rfl) ?_
        refine lv_imul hx hb dX4_findFar_227 ?_
        refine lv_iload hx hb dX4_findFar_228 (lv_at hl 5 rfl) ?_
        refine lv_iadd hx hb dX4_findFar_230 ?_
        obtain ⟨h_35, hq⟩ := fw_ck_s hq
        refine va_iald hx hb hK hP 8 0 rfl rfl h_35 dX4_findFar_231 ?_
        refine lv_icmp_ge (tgt := 240) hx hb dX4_findFar_232 (by decide) (fun c_36 => ?_) (fun c_36 => ?_)
        · have hq := fw_it c_36 hq
          refine lv_aload_n hx hb dX4_findFar_240 rfl (lv_at hl 2 rfl) ?_
          refine lv_bipush (v := (7 : Int32)) hx hb dX4_findFar_241 (by decide) ?_
          refine lv_iload hx hb dX4_findFar_243 (lv_at hl 4 rfl) ?_
          refine lv_imul hx hb dX4_findFar_245 ?_
          refine lv_iload hx hb dX4_findFar_246 (lv_at hl 5 rfl) ?_
          refine lv_iadd hx hb dX4_findFar_248 ?_
          obtain ⟨h_37, hq⟩ := fw_ck_s hq
          refine va_iald hx hb hK hP 8 0 rfl rfl h_37 dX4_findFar_249 ?_
          obtain ⟨h_38, hq⟩ := fw_ck_s hq
          refine va_iast hx hb hK hP hD hS 8 0 rfl rfl h_38 dX4_findFar_250 (fun H locs hP hD hS => ?_)
          have hP : va_P (dC, dI) vwCl (wM cI cJ q  nn0 ln0 sa0 sb0 wg0 kt0 fr0 pt0 wl0 (upd tn ((((7 : Int32) * x4) + x5)).toNatClampNeg (tn ((((7 : Int32) * x4) + x5)).toNatClampNeg)) up0 lo0) H := hP
          have hD : va_D A (wM cI cJ q  nn0 ln0 sa0 sb0 wg0 kt0 fr0 pt0 wl0 (upd tn ((((7 : Int32) * x4) + x5)).toNatClampNeg (tn ((((7 : Int32) * x4) + x5)).toNatClampNeg)) up0 lo0) := hD
          refine lv_iinc (v := (x5 + (1 : Int32))) (lv' := [(5, .int (x5 + (1 : Int32))), (6, .int ((tn ((((7 : Int32) * x4) + x3)).toNatClampNeg) + (tn ((((7 : Int32) * x3) + x5)).toNatClampNeg))), (0, .ref (q 0)), (2, .ref (q 8)), (3, .int x3), (4, .int x4)]) hx hb dX4_findFar_251 hl (k := 5) rfl rfl (by decide) rfl (fun ls hl => ?_)
          refine lv_goto (tgt := 181) hx hb dX4_findFar_254 (by decide) ?_
          exact ih (x5 + (1 : Int32)) (upd tn ((((7 : Int32) * x4) + x5)).toNatClampNeg (tn ((((7 : Int32) * x4) + x5)).toNatClampNeg)) H locs ls (hwI _ (Option.some.inj hq).symm) hP hD hS (lv_sub hl [2, 3, 4, 5, 0] rfl)
        · have hq := fw_if c_36 hq
          refine lv_iload hx hb dX4_findFar_235 (lv_at hl 0 rfl) ?_
          refine lv_goto (tgt := 250) hx hb dX4_findFar_237 (by decide) ?_
          obtain ⟨h_39, hq⟩ := fw_ck_s hq
          refine va_iast hx hb hK hP hD hS 8 0 rfl rfl h_39 dX4_findFar_250 (fun H locs hP hD hS => ?_)
          have hP : va_P (dC, dI) vwCl (wM cI cJ q  nn0 ln0 sa0 sb0 wg0 kt0 fr0 pt0 wl0 (upd tn ((((7 : Int32) * x4) + x5)).toNatClampNeg ((tn ((((7 : Int32) * x4) + x3)).toNatClampNeg) + (tn ((((7 : Int32) * x3) + x5)).toNatClampNeg))) up0 lo0) H := hP
          have hD : va_D A (wM cI cJ q  nn0 ln0 sa0 sb0 wg0 kt0 fr0 pt0 wl0 (upd tn ((((7 : Int32) * x4) + x5)).toNatClampNeg ((tn ((((7 : Int32) * x4) + x3)).toNatClampNeg) + (tn ((((7 : Int32) * x3) + x5)).toNatClampNeg))) up0 lo0) := hD
          refine lv_iinc (v := (x5 + (1 : Int32))) (lv' := [(5, .int (x5 + (1 : Int32))), (6, .int ((tn ((((7 : Int32) * x4) + x3)).toNatClampNeg) + (tn ((((7 : Int32) * x3) + x5)).toNatClampNeg))), (0, .ref (q 0)), (2, .ref (q 8)), (3, .int x3), (4, .int x4)]) hx hb dX4_findFar_251 hl (k := 5) rfl rfl (by decide) rfl (fun ls hl => ?_)
          refine lv_goto (tgt := 181) hx hb dX4_findFar_254 (by decide) ?_
          exact ih (x5 + (1 : Int32)) (upd tn ((((7 : Int32) * x4) + x5)).toNatClampNeg ((tn ((((7 : Int32) * x4) + x3)).toNatClampNeg) + (tn ((((7 : Int32) * x3) + x5)).toNatClampNeg))) H locs ls (hwI _ (Option.some.inj hq).symm) hP hD hS (lv_sub hl [2, 3, 4, 5, 0] rfl)
  have L169 : ∀ (x3 : Int32) (e9 : Int32 × (Nat → Int32)), (∀ (x4' : Int32) (tn' : Nat → Int32) (H : Heap) (locs : List Loc) (ls : Array Slot), e9 = (x4', tn') → va_P (dC, dI) vwCl (wM cI cJ q  nn0 ln0 sa0 sb0 wg0 kt0 fr0 pt0 wl0 tn' up0 lo0) H → va_D A (wM cI cJ q  nn0 ln0 sa0 sb0 wg0 kt0 fr0 pt0 wl0 tn' up0 lo0) → va_S A s.heap H locs → lv_has ls 7 [(0, .ref (q 0)), (2, .ref (q 8)), (3, .int x3), (4, .int x4')] → W p l e (headSpec wsX4_findFar ({ frames := 0, cells := 0, slots := 0, locals := 0 })).room s m ([.ref (q 0), .int y1, .ref (q 8)] : List Value).toArray below meth c H locs 0 0 (MQ below (va_Qv (fun (u : (Nat → Int32)) => pX4_findFar_T nn0 ln0 sa0 sb0 wg0 tn0 y1 = some u) (fun u t => fw_B (dC, dI) A (wM cI cJ q  nn0 ln0 sa0 sb0 wg0 kt0 fr0 pt0 wl0 u up0 lo0) t) A) ([.ref (q 0), .int y1, .ref (q 8)] : List Value).toArray s 0 0 A) (F0 m 263 ls [])) → ∀ (n9 : Nat) (x4 : Int32) (tn : Nat → Int32) (H : Heap) (locs : List Loc) (ls : Array Slot), fw_wh (pX4_findFar_T_169 x3 nn0) n9 (x4, tn) = some e9 → va_P (dC, dI) vwCl (wM cI cJ q  nn0 ln0 sa0 sb0 wg0 kt0 fr0 pt0 wl0 tn up0 lo0) H → va_D A (wM cI cJ q  nn0 ln0 sa0 sb0 wg0 kt0 fr0 pt0 wl0 tn up0 lo0) → va_S A s.heap H locs → lv_has ls 7 [(0, .ref (q 0)), (2, .ref (q 8)), (3, .int x3), (4, .int x4)] → W p l e (headSpec wsX4_findFar ({ frames := 0, cells := 0, slots := 0, locals := 0 })).room s m ([.ref (q 0), .int y1, .ref (q 8)] : List Value).toArray below meth c H locs 0 0 (MQ below (va_Qv (fun (u : (Nat → Int32)) => pX4_findFar_T nn0 ln0 sa0 sb0 wg0 tn0 y1 = some u) (fun u t => fw_B (dC, dI) A (wM cI cJ q  nn0 ln0 sa0 sb0 wg0 kt0 fr0 pt0 wl0 u up0 lo0) t) A) ([.ref (q 0), .int y1, .ref (q 8)] : List Value).toArray s 0 0 A) (F0 m 169 ls []) := by
    intro x3 e9 hkk n9
    induction n9 with
    | zero => exact fun _ _ H locs ls hq => (fw_wh0 hq).elim
    | succ n9 ih =>
      intro x4 tn H locs ls hq hP hD hS hl
      obtain ⟨w9, hq, hwI, hwE⟩ := fw_wh1 hq
      dsimp only [pX4_findFar_T_169] at hq
      refine lv_iload hx hb dX4_findFar_169 (lv_at hl 3 rfl) ?_
      refine lv_aload_n hx hb dX4_findFar_171 rfl (lv_at hl 0 rfl) ?_
      refine va_get (D := (dC, dI)) (ci := 4) (v := .int nn0) (C := RX4) (T := TX4) (N := 12) hx hb hts hinX4 hown hK hP 0 rfl rfl 0 (by decide) hf7 (fun _ h9 => h9) rfl dX4_findFar_172 ?_
      refine lv_icmp_ge (tgt := 263) hx hb dX4_findFar_175 (by decide) (fun c_31 => ?_) (fun c_31 => ?_)
      · have hq := fw_it c_31 hq
        exact hkk x4 tn H locs ls (hwE _ (Option.some.inj hq).symm) hP hD hS (lv_sub hl [0, 1, 2, 3] rfl)
      · have hq := fw_if c_31 hq
        refine lv_iconst (v := (0 : Int32)) hx hb dX4_findFar_178 (by decide) ?_
        refine lv_istore (lv' := [(5, .int (0 : Int32)), (0, .ref (q 0)), (2, .ref (q 8)), (3, .int x3), (4, .int x4)]) hx hb dX4_findFar_179 hl (by decide) rfl (fun ls hl => ?_)
        obtain ⟨e_42, hw, hq⟩ := fw_bb hq
        refine L181 x3 x4 e_42 (fun x5_40 tn_41 H locs ls he hP hD hS hl => ?_) fw_N (0 : Int32) tn H locs ls hw hP hD hS (lv_sub hl [1, 2, 3, 4, 0] rfl)
        subst he
        try dsimp only at hq
        refine lv_iinc (v := (x4 + (1 : Int32))) (lv' := [(4, .int (x4 + (1 : Int32))), (0, .ref (q 0)), (2, .ref (q 8)), (3, .int x3), (5, .int x5_40)]) hx hb dX4_findFar_257 hl (k := 3) rfl rfl (by decide) rfl (fun ls hl => ?_)
        refine lv_goto (tgt := 169) hx hb dX4_findFar_260 (by decide) ?_
        exact ih (x4 + (1 : Int32)) tn_41 H locs ls (hwI _ (Option.some.inj hq).symm) hP hD hS (lv_sub hl [1, 2, 3, 0] rfl)
  have L158 : ∀  (e9 : Int32 × (Nat → Int32)), (∀ (x3' : Int32) (tn' : Nat → Int32) (H : Heap) (locs : List Loc) (ls : Array Slot), e9 = (x3', tn') → va_P (dC, dI) vwCl (wM cI cJ q  nn0 ln0 sa0 sb0 wg0 kt0 fr0 pt0 wl0 tn' up0 lo0) H → va_D A (wM cI cJ q  nn0 ln0 sa0 sb0 wg0 kt0 fr0 pt0 wl0 tn' up0 lo0) → va_S A s.heap H locs → lv_has ls 7 [(0, .ref (q 0)), (2, .ref (q 8)), (3, .int x3')] → W p l e (headSpec wsX4_findFar ({ frames := 0, cells := 0, slots := 0, locals := 0 })).room s m ([.ref (q 0), .int y1, .ref (q 8)] : List Value).toArray below meth c H locs 0 0 (MQ below (va_Qv (fun (u : (Nat → Int32)) => pX4_findFar_T nn0 ln0 sa0 sb0 wg0 tn0 y1 = some u) (fun u t => fw_B (dC, dI) A (wM cI cJ q  nn0 ln0 sa0 sb0 wg0 kt0 fr0 pt0 wl0 u up0 lo0) t) A) ([.ref (q 0), .int y1, .ref (q 8)] : List Value).toArray s 0 0 A) (F0 m 269 ls [])) → ∀ (n9 : Nat) (x3 : Int32) (tn : Nat → Int32) (H : Heap) (locs : List Loc) (ls : Array Slot), fw_wh (pX4_findFar_T_158 nn0) n9 (x3, tn) = some e9 → va_P (dC, dI) vwCl (wM cI cJ q  nn0 ln0 sa0 sb0 wg0 kt0 fr0 pt0 wl0 tn up0 lo0) H → va_D A (wM cI cJ q  nn0 ln0 sa0 sb0 wg0 kt0 fr0 pt0 wl0 tn up0 lo0) → va_S A s.heap H locs → lv_has ls 7 [(0, .ref (q 0)), (2, .ref (q 8)), (3, .int x3)] → W p l e (headSpec wsX4_findFar ({ frames := 0, cells := 0, slots := 0, locals := 0 })).room s m ([.ref (q 0), .int y1, .ref (q 8)] : List Value).toArray below meth c H locs 0 0 (MQ below (va_Qv (fun (u : (Nat → Int32)) => pX4_findFar_T nn0 ln0 sa0 sb0 wg0 tn0 y1 = some u) (fun u t => fw_B (dC, dI) A (wM cI cJ q  nn0 ln0 sa0 sb0 wg0 kt0 fr0 pt0 wl0 u up0 lo0) t) A) ([.ref (q 0), .int y1, .ref (q 8)] : List Value).toArray s 0 0 A) (F0 m 158 ls []) := by
    intro  e9 hkk n9
    induction n9 with
    | zero => exact fun _ _ H locs ls hq => (fw_wh0 hq).elim
    | succ n9 ih =>
      intro x3 tn H locs ls hq hP hD hS hl
      obtain ⟨w9, hq, hwI, hwE⟩ := fw_wh1 hq
      dsimp only [pX4_findFar_T_158] at hq
      refine lv_iload_n hx hb dX4_findFar_158 rfl (lv_at hl 2 rfl) ?_
      refine lv_aload_n hx hb dX4_findFar_159 rfl (lv_at hl 0 rfl) ?_
      refine va_get (D := (dC, dI)) (ci := 4) (v := .int nn0) (C := RX4) (T := TX4) (N := 12) hx hb hts hinX4 hown hK hP 0 rfl rfl 0 (by decide) hf7 (fun _ h9 => h9) rfl dX4_findFar_160 ?_
      refine lv_icmp_ge (tgt := 269) hx hb dX4_findFar_163 (by decide) (fun c_30 => ?_) (fun c_30 => ?_)
      · have hq := fw_it c_30 hq
        exact hkk x3 tn H locs ls (hwE _ (Option.some.inj hq).symm) hP hD hS (lv_sub hl [0, 1, 2] rfl)
      · have hq := fw_if c_30 hq
        refine lv_iconst (v := (0 : Int32)) hx hb dX4_findFar_166 (by decide) ?_
        refine lv_istore (lv' := [(4, .int (0 : Int32)), (0, .ref (q 0)), (2, .ref (q 8)), (3, .int x3)]) hx hb dX4_findFar_167 hl (by decide) rfl (fun ls hl => ?_)
        obtain ⟨e_45, hw, hq⟩ := fw_bb hq
        refine L169 x3 e_45 (fun x4_43 tn_44 H locs ls he hP hD hS hl => ?_) fw_N (0 : Int32) tn H locs ls hw hP hD hS (lv_sub hl [1, 2, 3, 0] rfl)
        subst he
        try dsimp only at hq
        refine lv_iinc (v := (x3 + (1 : Int32))) (lv' := [(3, .int (x3 + (1 : Int32))), (0, .ref (q 0)), (2, .ref (q 8)), (4, .int x4_43)]) hx hb dX4_findFar_263 hl (k := 2) rfl rfl (by decide) rfl (fun ls hl => ?_)
        refine lv_goto (tgt := 158) hx hb dX4_findFar_266 (by decide) ?_
        exact ih (x3 + (1 : Int32)) tn_44 H locs ls (hwI _ (Option.some.inj hq).symm) hP hD hS (lv_sub hl [1, 2, 0] rfl)
  have hq := hz
  dsimp only [pX4_findFar_T] at hq
  have hl := lv_entry (([.ref (q 0), .int y1, .ref (q 8)] : List Value)) (n := 7) (Nat.le_of_ble_eq_true rfl)
  rw [lg_entry_eq]
  generalize (lg_sl (([.ref (q 0), .int y1, .ref (q 8)] : List Value)) ++ List.replicate (7 - (lg_sl (([.ref (q 0), .int y1, .ref (q 8)] : List Value))).length) Slot.unset).toArray = ls at hl ⊢
  have hl : lv_has ls 7 [(0, .ref (q 0)), (1, .int y1), (2, .ref (q 8))] := hl
  obtain ⟨H, hHe⟩ : ∃ H : Heap, H = s.heap := ⟨_, rfl⟩
  obtain ⟨locs, hLe⟩ : ∃ L : List Loc, L = [] := ⟨_, rfl⟩
  have hP : va_P (dC, dI) vwCl (wM cI cJ q  nn0 ln0 sa0 sb0 wg0 kt0 fr0 pt0 wl0 tn0 up0 lo0) H := by rw [hHe]; exact hP
  have hS : va_S A s.heap H locs := by rw [hHe, hLe]; exact va_S.rf
  show W p l e (headSpec wsX4_findFar ({ frames := 0, cells := 0, slots := 0, locals := 0 })).room s m ([.ref (q 0), .int y1, .ref (q 8)] : List Value).toArray below meth c s.heap [] 0 0 (MQ below (va_Qv (fun (u : (Nat → Int32)) => pX4_findFar_T nn0 ln0 sa0 sb0 wg0 tn0 y1 = some u) (fun u t => fw_B (dC, dI) A (wM cI cJ q  nn0 ln0 sa0 sb0 wg0 kt0 fr0 pt0 wl0 u up0 lo0) t) A) ([.ref (q 0), .int y1, .ref (q 8)] : List Value).toArray s 0 0 A) (F0 m 0 ls [])
  rw [← hHe, ← hLe]
  refine lv_iconst (v := (0 : Int32)) hx hb dX4_findFar_0 (by decide) ?_
  refine lv_istore_n (lv' := [(3, .int (0 : Int32)), (0, .ref (q 0)), (1, .int y1), (2, .ref (q 8))]) hx hb dX4_findFar_1 rfl hl (by decide) rfl (fun ls hl => ?_)
  obtain ⟨e_11, hw, hq⟩ := fw_bb hq
  refine L2 y1 e_11 (fun x3_9 tn_10 H locs ls he hP hD hS hl => ?_) fw_N (0 : Int32) tn0 H locs ls hw hP hD hS (lv_sub hl [1, 2, 3, 0] rfl)
  subst he
  try dsimp only at hq
  refine lv_iconst (v := (0 : Int32)) hx hb dX4_findFar_56 (by decide) ?_
  refine lv_istore_n (lv' := [(3, .int (0 : Int32)), (0, .ref (q 0)), (1, .int y1), (2, .ref (q 8))]) hx hb dX4_findFar_57 rfl hl (by decide) rfl (fun ls hl => ?_)
  obtain ⟨e_29, hw, hq⟩ := fw_bb hq
  refine L58 y1 e_29 (fun x3_27 tn_28 H locs ls he hP hD hS hl => ?_) fw_N (0 : Int32) tn_10 H locs ls hw hP hD hS (lv_sub hl [1, 2, 3, 0] rfl)
  subst he
  try dsimp only at hq
  refine lv_iconst (v := (0 : Int32)) hx hb dX4_findFar_156 (by decide) ?_
  refine lv_istore_n (lv' := [(3, .int (0 : Int32)), (0, .ref (q 0)), (1, .int y1), (2, .ref (q 8))]) hx hb dX4_findFar_157 rfl hl (by decide) rfl (fun ls hl => ?_)
  obtain ⟨e_48, hw, hq⟩ := fw_bb hq
  refine L158  e_48 (fun x3_46 tn_47 H locs ls he hP hD hS hl => ?_) fw_N (0 : Int32) tn_28 H locs ls hw hP hD hS (lv_sub hl [1, 3, 0] rfl)
  subst he
  try dsimp only at hq
  exact W.vret hx hb hr (fun t ht hW => ⟨⟨tn_47, rfl, hz.trans hq.symm, by rw [ht]; exact hP, hD⟩, hS.F ht⟩) hS.2.2 dX4_findFar_269
set_option maxHeartbeats 4000000 in
set_option maxRecDepth 100000 in
theorem kX4_keptSet (l : Launch) (dC : Nat → ClassId) (dI : Nat → Nat → Nat) (cI cJ : ClassId) (q : Nat → Nat) (sz : Nat)  (nn0 : Int32) (ln0 : Int32) (sa0 : Nat → Int32) (sb0 : Nat → Int32) (wg0 : Nat → Int32) (kt0 : Nat → Int32) (fr0 : Nat → Int32) (pt0 : Nat → Int32) (wl0 : Nat → Int32) (tn0 : Nat → Int32) (up0 : Int64) (lo0 : Int64)  (hd : ∃ z, pX4_keptSet ln0 kt0 = some z) : Met l yX4_keptSet wsX4_keptSet ({ frames := 0, cells := 0, slots := 0, locals := 0 }) (fw_Pc (dC, dI) (fw_tys cI cJ) (wM cI cJ q  nn0 ln0 sa0 sb0 wg0 kt0 fr0 pt0 wl0 tn0 up0 lo0) ([.ref (q 0)] : List Value) sz) (va_Qi (fun (r : Int32) (u : Unit) => pX4_keptSet ln0 kt0 = some r) (fun u t => fw_B (dC, dI) (va_A (wM cI cJ q  nn0 ln0 sa0 sb0 wg0 kt0 fr0 pt0 wl0 tn0 up0 lo0) sz) (wM cI cJ q  nn0 ln0 sa0 sb0 wg0 kt0 fr0 pt0 wl0 tn0 up0 lo0) t) (va_A (wM cI cJ q  nn0 ln0 sa0 sb0 wg0 kt0 fr0 pt0 wl0 tn0 up0 lo0) sz)) 0 0 (va_A (wM cI cJ q  nn0 ln0 sa0 sb0 wg0 kt0 fr0 pt0 wl0 tn0 up0 lo0) sz) := by
  obtain ⟨z, hz⟩ := hd
  refine Met.ofW (cc := cX4_keptSet) (maxL := 3) (ret := (some .int)) (by decide) rfl ?_
  intro p e s m args below meth c s₁ B hml hv
  obtain ⟨rfl, hsz, hP, hK, hD0, hN⟩ := hv
  have hx := B.exec
  have hb := B.bytes
  have hr := B.returns
  have hts := atoms_spec (ws := wsX4_keptSet) B.pre
  have hown : s.vm.findClass RX4 = some m.cls := findClass_of_methodNamed B.named
  have hlocks := B.notSynchronized
  subst hsz
  have hD := hD0.self (sz := s.heap.size)
  generalize hAe : va_A (wM cI cJ q  nn0 ln0 sa0 sb0 wg0 kt0 fr0 pt0 wl0 tn0 up0 lo0) s.heap.size = A at hD ⊢
  have hA : ∀ q : Nat, s.heap.size ≤ q → A q := fun q h => by rw [← hAe]; exact Or.inr h
  have hinX4 : ∀ w ∈ u_ws RX4 TX4 12, w ∈ wsX4_keptSet := by decide +kernel
  have hf23 := hts (.fieldLink RX4 23 "FewLinesModel" "kept" "[I") (by decide +kernel)
  have hf42 := hts (.fieldLink RX4 42 "FewLinesModel" "lines" "I") (by decide +kernel)
  have L4 : ∀  (e9 : Int32 × Int32), (∀ (x1' : Int32) (x2' : Int32) (H : Heap) (locs : List Loc) (ls : Array Slot), e9 = (x1', x2') → va_P (dC, dI) vwCl (wM cI cJ q  nn0 ln0 sa0 sb0 wg0 kt0 fr0 pt0 wl0 tn0 up0 lo0) H → va_D A (wM cI cJ q  nn0 ln0 sa0 sb0 wg0 kt0 fr0 pt0 wl0 tn0 up0 lo0) → va_S A s.heap H locs → lv_has ls 3 [(0, .ref (q 0)), (1, .int x1'), (2, .int x2')] → W p l e (headSpec wsX4_keptSet ({ frames := 0, cells := 0, slots := 0, locals := 0 })).room s m ([.ref (q 0)] : List Value).toArray below meth c H locs 0 0 (MQ below (va_Qi (fun (r : Int32) (u : Unit) => pX4_keptSet ln0 kt0 = some r) (fun u t => fw_B (dC, dI) A (wM cI cJ q  nn0 ln0 sa0 sb0 wg0 kt0 fr0 pt0 wl0 tn0 up0 lo0) t) A) ([.ref (q 0)] : List Value).toArray s 0 0 A) (F0 m 37 ls [])) → ∀ (n9 : Nat) (x1 : Int32) (x2 : Int32) (H : Heap) (locs : List Loc) (ls : Array Slot), fw_wh (pX4_keptSet_4 ln0 kt0) n9 (x1, x2) = some e9 → va_P (dC, dI) vwCl (wM cI cJ q  nn0 ln0 sa0 sb0 wg0 kt0 fr0 pt0 wl0 tn0 up0 lo0) H → va_D A (wM cI cJ q  nn0 ln0 sa0 sb0 wg0 kt0 fr0 pt0 wl0 tn0 up0 lo0) → va_S A s.heap H locs → lv_has ls 3 [(0, .ref (q 0)), (1, .int x1), (2, .int x2)] → W p l e (headSpec wsX4_keptSet ({ frames := 0, cells := 0, slots := 0, locals := 0 })).room s m ([.ref (q 0)] : List Value).toArray below meth c H locs 0 0 (MQ below (va_Qi (fun (r : Int32) (u : Unit) => pX4_keptSet ln0 kt0 = some r) (fun u t => fw_B (dC, dI) A (wM cI cJ q  nn0 ln0 sa0 sb0 wg0 kt0 fr0 pt0 wl0 tn0 up0 lo0) t) A) ([.ref (q 0)] : List Value).toArray s 0 0 A) (F0 m 4 ls []) := by
    intro  e9 hkk n9
    induction n9 with
    | zero => exact fun _ _ H locs ls hq => (fw_wh0 hq).elim
    | succ n9 ih =>
      intro x1 x2 H locs ls hq hP hD hS hl
      obtain ⟨w9, hq, hwI, hwE⟩ := fw_wh1 hq
      dsimp only [pX4_keptSet_4] at hq
      refine lv_iload_n hx hb dX4_keptSet_4 rfl (lv_at hl 2 rfl) ?_
      refine lv_aload_n hx hb dX4_keptSet_5 rfl (lv_at hl 0 rfl) ?_
      refine va_get (D := (dC, dI)) (ci := 4) (v := .int ln0) (C := RX4) (T := TX4) (N := 12) hx hb hts hinX4 hown hK hP 0 rfl rfl 1 (by decide) hf42 (fun _ h9 => h9) rfl dX4_keptSet_6 ?_
      refine lv_icmp_ge (tgt := 37) hx hb dX4_keptSet_9 (by decide) (fun c_1 => ?_) (fun c_1 => ?_)
      · have hq := fw_it c_1 hq
        exact hkk x1 x2 H locs ls (hwE _ (Option.some.inj hq).symm) hP hD hS (lv_sub hl [0, 1, 2] rfl)
      · have hq := fw_if c_1 hq
        refine lv_iload_n hx hb dX4_keptSet_12 rfl (lv_at hl 1 rfl) ?_
        refine lv_aload_n hx hb dX4_keptSet_13 rfl (lv_at hl 0 rfl) ?_
        refine va_get (D := (dC, dI)) (ci := 4) (v := .ref (q 4)) (C := RX4) (T := TX4) (N := 12) hx hb hts hinX4 hown hK hP 0 rfl rfl 5 (by decide) hf23 (fun _ h9 => h9) rfl dX4_keptSet_14 ?_
        refine lv_iload_n hx hb dX4_keptSet_17 rfl (lv_at hl 2 rfl) ?_
        obtain ⟨h_2, hq⟩ := fw_ck_s hq
        refine va_iald hx hb hK hP 4 0 rfl rfl h_2 dX4_keptSet_18 ?_
        refine lv_if_le (tgt := 28) hx hb dX4_keptSet_19 (by decide) (fun c_3 => ?_) (fun c_3 => ?_)
        · have hq := fw_it c_3 hq
          refine lv_iconst (v := (0 : Int32)) hx hb dX4_keptSet_28 (by decide) ?_
          refine lv_ior hx hb dX4_keptSet_29 ?_
          refine lv_istore_n (lv' := [(1, .int (x1 ||| (0 : Int32))), (0, .ref (q 0)), (2, .int x2)]) hx hb dX4_keptSet_30 rfl hl (by decide) rfl (fun ls hl => ?_)
          refine lv_iinc (v := (x2 + (1 : Int32))) (lv' := [(2, .int (x2 + (1 : Int32))), (1, .int (x1 ||| (0 : Int32))), (0, .ref (q 0))]) hx hb dX4_keptSet_31 hl (k := 2) rfl rfl (by decide) rfl (fun ls hl => ?_)
          refine lv_goto (tgt := 4) hx hb dX4_keptSet_34 (by decide) ?_
          exact ih (x1 ||| (0 : Int32)) (x2 + (1 : Int32)) H locs ls (hwI _ (Option.some.inj hq).symm) hP hD hS (lv_sub hl [2, 1, 0] rfl)
        · have hq := fw_if c_3 hq
          refine lv_iconst (v := (1 : Int32)) hx hb dX4_keptSet_22 (by decide) ?_
          refine lv_iload_n hx hb dX4_keptSet_23 rfl (lv_at hl 2 rfl) ?_
          refine lv_ishl hx hb dX4_keptSet_24 ?_
          refine lv_goto (tgt := 29) hx hb dX4_keptSet_25 (by decide) ?_
          refine lv_ior hx hb dX4_keptSet_29 ?_
          refine lv_istore_n (lv' := [(1, .int (x1 ||| ((1 : Int32) <<< (x2 &&& 31)))), (0, .ref (q 0)), (2, .int x2)]) hx hb dX4_keptSet_30 rfl hl (by decide) rfl (fun ls hl => ?_)
          refine lv_iinc (v := (x2 + (1 : Int32))) (lv' := [(2, .int (x2 + (1 : Int32))), (1, .int (x1 ||| ((1 : Int32) <<< (x2 &&& 31)))), (0, .ref (q 0))]) hx hb dX4_keptSet_31 hl (k := 2) rfl rfl (by decide) rfl (fun ls hl => ?_)
          refine lv_goto (tgt := 4) hx hb dX4_keptSet_34 (by decide) ?_
          exact ih (x1 ||| ((1 : Int32) <<< (x2 &&& 31))) (x2 + (1 : Int32)) H locs ls (hwI _ (Option.some.inj hq).symm) hP hD hS (lv_sub hl [2, 1, 0] rfl)
  have hq := hz
  dsimp only [pX4_keptSet] at hq
  have hl := lv_entry (([.ref (q 0)] : List Value)) (n := 3) (Nat.le_of_ble_eq_true rfl)
  rw [lg_entry_eq]
  generalize (lg_sl (([.ref (q 0)] : List Value)) ++ List.replicate (3 - (lg_sl (([.ref (q 0)] : List Value))).length) Slot.unset).toArray = ls at hl ⊢
  have hl : lv_has ls 3 [(0, .ref (q 0))] := hl
  obtain ⟨H, hHe⟩ : ∃ H : Heap, H = s.heap := ⟨_, rfl⟩
  obtain ⟨locs, hLe⟩ : ∃ L : List Loc, L = [] := ⟨_, rfl⟩
  have hP : va_P (dC, dI) vwCl (wM cI cJ q  nn0 ln0 sa0 sb0 wg0 kt0 fr0 pt0 wl0 tn0 up0 lo0) H := by rw [hHe]; exact hP
  have hS : va_S A s.heap H locs := by rw [hHe, hLe]; exact va_S.rf
  show W p l e (headSpec wsX4_keptSet ({ frames := 0, cells := 0, slots := 0, locals := 0 })).room s m ([.ref (q 0)] : List Value).toArray below meth c s.heap [] 0 0 (MQ below (va_Qi (fun (r : Int32) (u : Unit) => pX4_keptSet ln0 kt0 = some r) (fun u t => fw_B (dC, dI) A (wM cI cJ q  nn0 ln0 sa0 sb0 wg0 kt0 fr0 pt0 wl0 tn0 up0 lo0) t) A) ([.ref (q 0)] : List Value).toArray s 0 0 A) (F0 m 0 ls [])
  rw [← hHe, ← hLe]
  refine lv_iconst (v := (0 : Int32)) hx hb dX4_keptSet_0 (by decide) ?_
  refine lv_istore_n (lv' := [(1, .int (0 : Int32)), (0, .ref (q 0))]) hx hb dX4_keptSet_1 rfl hl (by decide) rfl (fun ls hl => ?_)
  refine lv_iconst (v := (0 : Int32)) hx hb dX4_keptSet_2 (by decide) ?_
  refine lv_istore_n (lv' := [(2, .int (0 : Int32)), (1, .int (0 : Int32)), (0, .ref (q 0))]) hx hb dX4_keptSet_3 rfl hl (by decide) rfl (fun ls hl => ?_)
  obtain ⟨e_6, hw, hq⟩ := fw_bb hq
  refine L4  e_6 (fun x1_4 x2_5 H locs ls he hP hD hS hl => ?_) fw_N (0 : Int32) (0 : Int32) H locs ls hw hP hD hS (lv_sub hl [2, 1, 0] rfl)
  subst he
  try dsimp only at hq
  refine lv_iload_n hx hb dX4_keptSet_37 rfl (lv_at hl 1 rfl) ?_
  exact W.iret (v := x1_4) hx hb hr (fun t ht hW => ⟨⟨x1_4, (), rfl, hz.trans hq.symm, by rw [ht]; exact hP, hD⟩, hS.F ht⟩) hS.2.2 dX4_keptSet_38
set_option maxHeartbeats 4000000 in
set_option maxRecDepth 100000 in
theorem kX4_greedy (l : Launch) (dC : Nat → ClassId) (dI : Nat → Nat → Nat) (cI cJ : ClassId) (q : Nat → Nat) (sz : Nat)  (nn0 : Int32) (ln0 : Int32) (sa0 : Nat → Int32) (sb0 : Nat → Int32) (wg0 : Nat → Int32) (kt0 : Nat → Int32) (fr0 : Nat → Int32) (pt0 : Nat → Int32) (wl0 : Nat → Int32) (tn0 : Nat → Int32) (up0 : Int64) (lo0 : Int64) (y1 : Int32) (hd : ∃ z, pX4_greedy nn0 ln0 sa0 sb0 wg0 kt0 tn0 y1 = some z) : Met l yX4_greedy wsX4_greedy ({ frames := 1, cells := 0, slots := 0, locals := 26 }) (fw_Pc (dC, dI) (fw_tys cI cJ) (wM cI cJ q  nn0 ln0 sa0 sb0 wg0 kt0 fr0 pt0 wl0 tn0 up0 lo0) ([.ref (q 0), .int y1] : List Value) sz) (va_Qi (fun (r : Int32) (u : (Nat → Int32) × (Nat → Int32)) => pX4_greedy nn0 ln0 sa0 sb0 wg0 kt0 tn0 y1 = some (r, u)) (fun u t => fw_B (dC, dI) (va_A (wM cI cJ q  nn0 ln0 sa0 sb0 wg0 kt0 fr0 pt0 wl0 tn0 up0 lo0) sz) (wM cI cJ q  nn0 ln0 sa0 sb0 wg0 u.1 fr0 pt0 wl0 u.2 up0 lo0) t) (va_A (wM cI cJ q  nn0 ln0 sa0 sb0 wg0 kt0 fr0 pt0 wl0 tn0 up0 lo0) sz)) 0 0 (va_A (wM cI cJ q  nn0 ln0 sa0 sb0 wg0 kt0 fr0 pt0 wl0 tn0 up0 lo0) sz) := by
  obtain ⟨z, hz⟩ := hd
  refine Met.ofW (cc := cX4_greedy) (maxL := 5) (ret := (some .int)) (by decide) rfl ?_
  intro p e s m args below meth c s₁ B hml hv
  obtain ⟨rfl, hsz, hP, hK, hD0, hN⟩ := hv
  have hx := B.exec
  have hb := B.bytes
  have hr := B.returns
  have hts := atoms_spec (ws := wsX4_greedy) B.pre
  have hown : s.vm.findClass RX4 = some m.cls := findClass_of_methodNamed B.named
  have hlocks := B.notSynchronized
  subst hsz
  have hD := hD0.self (sz := s.heap.size)
  generalize hAe : va_A (wM cI cJ q  nn0 ln0 sa0 sb0 wg0 kt0 fr0 pt0 wl0 tn0 up0 lo0) s.heap.size = A at hD ⊢
  have hA : ∀ q : Nat, s.heap.size ≤ q → A q := fun q h => by rw [← hAe]; exact Or.inr h
  have hinX4 : ∀ w ∈ u_ws RX4 TX4 12, w ∈ wsX4_greedy := by decide +kernel
  have hf13 := hts (.fieldLink RX4 13 "FewLinesModel" "as" "[I") (by decide +kernel)
  have hf17 := hts (.fieldLink RX4 17 "FewLinesModel" "bs" "[I") (by decide +kernel)
  have hf20 := hts (.fieldLink RX4 20 "FewLinesModel" "weight" "[I") (by decide +kernel)
  have hf23 := hts (.fieldLink RX4 23 "FewLinesModel" "kept" "[I") (by decide +kernel)
  have hf35 := hts (.fieldLink RX4 35 "FewLinesModel" "thin" "[I") (by decide +kernel)
  have hf42 := hts (.fieldLink RX4 42 "FewLinesModel" "lines" "I") (by decide +kernel)
  have L26 : ∀ (x1 : Int32) (x3 : Int32) (kt : Nat → Int32) (e9 : Int32 × Int32 × (Nat → Int32)), (∀ (x2' : Int32) (x4' : Int32) (tn' : Nat → Int32) (H : Heap) (locs : List Loc) (ls : Array Slot), e9 = (x2', x4', tn') → va_P (dC, dI) vwCl (wM cI cJ q  nn0 ln0 sa0 sb0 wg0 kt fr0 pt0 wl0 tn' up0 lo0) H → va_D A (wM cI cJ q  nn0 ln0 sa0 sb0 wg0 kt fr0 pt0 wl0 tn' up0 lo0) → va_S A s.heap H locs → lv_has ls 5 [(0, .ref (q 0)), (1, .int x1), (2, .int x2'), (3, .int x3), (4, .int x4')] → W p l e (headSpec wsX4_greedy ({ frames := 1, cells := 0, slots := 0, locals := 26 })).room s m ([.ref (q 0), .int y1] : List Value).toArray below meth c H locs 0 0 (MQ below (va_Qi (fun (r : Int32) (u : (Nat → Int32) × (Nat → Int32)) => pX4_greedy nn0 ln0 sa0 sb0 wg0 kt0 tn0 y1 = some (r, u)) (fun u t => fw_B (dC, dI) A (wM cI cJ q  nn0 ln0 sa0 sb0 wg0 u.1 fr0 pt0 wl0 u.2 up0 lo0) t) A) ([.ref (q 0), .int y1] : List Value).toArray s 0 0 A) (F0 m 101 ls [])) → ∀ (n9 : Nat) (x2 : Int32) (x4 : Int32) (tn : Nat → Int32) (H : Heap) (locs : List Loc) (ls : Array Slot), fw_wh (pX4_greedy_26 x1 x3 nn0 ln0 sa0 sb0 wg0) n9 (x2, x4, tn) = some e9 → va_P (dC, dI) vwCl (wM cI cJ q  nn0 ln0 sa0 sb0 wg0 kt fr0 pt0 wl0 tn up0 lo0) H → va_D A (wM cI cJ q  nn0 ln0 sa0 sb0 wg0 kt fr0 pt0 wl0 tn up0 lo0) → va_S A s.heap H locs → lv_has ls 5 [(0, .ref (q 0)), (1, .int x1), (2, .int x2), (3, .int x3), (4, .int x4)] → W p l e (headSpec wsX4_greedy ({ frames := 1, cells := 0, slots := 0, locals := 26 })).room s m ([.ref (q 0), .int y1] : List Value).toArray below meth c H locs 0 0 (MQ below (va_Qi (fun (r : Int32) (u : (Nat → Int32) × (Nat → Int32)) => pX4_greedy nn0 ln0 sa0 sb0 wg0 kt0 tn0 y1 = some (r, u)) (fun u t => fw_B (dC, dI) A (wM cI cJ q  nn0 ln0 sa0 sb0 wg0 u.1 fr0 pt0 wl0 u.2 up0 lo0) t) A) ([.ref (q 0), .int y1] : List Value).toArray s 0 0 A) (F0 m 26 ls []) := by
    intro x1 x3 kt e9 hkk n9
    induction n9 with
    | zero => exact fun _ _ _ H locs ls hq => (fw_wh0 hq).elim
    | succ n9 ih =>
      intro x2 x4 tn H locs ls hq hP hD hS hl
      obtain ⟨w9, hq, hwI, hwE⟩ := fw_wh1 hq
      dsimp only [pX4_greedy_26] at hq
      refine lv_iload hx hb dX4_greedy_26 (lv_at hl 4 rfl) ?_
      refine lv_aload_n hx hb dX4_greedy_28 rfl (lv_at hl 0 rfl) ?_
      refine va_get (D := (dC, dI)) (ci := 4) (v := .int ln0) (C := RX4) (T := TX4) (N := 12) hx hb hts hinX4 hown hK hP 0 rfl rfl 1 (by decide) hf42 (fun _ h9 => h9) rfl dX4_greedy_29 ?_
      refine lv_icmp_ge (tgt := 101) hx hb dX4_greedy_32 (by decide) (fun c_6 => ?_) (fun c_6 => ?_)
      · have hq := fw_it c_6 hq
        exact hkk x2 x4 tn H locs ls (hwE _ (Option.some.inj hq).symm) hP hD hS (lv_sub hl [0, 1, 2, 3, 4] rfl)
      · have hq := fw_if c_6 hq
        refine lv_aload_n hx hb dX4_greedy_35 rfl (lv_at hl 0 rfl) ?_
        refine va_get (D := (dC, dI)) (ci := 4) (v := .ref (q 3)) (C := RX4) (T := TX4) (N := 12) hx hb hts hinX4 hown hK hP 0 rfl rfl 4 (by decide) hf20 (fun _ h9 => h9) rfl dX4_greedy_36 ?_
        refine lv_iload hx hb dX4_greedy_39 (lv_at hl 4 rfl) ?_
        obtain ⟨h_7, hq⟩ := fw_ck_s hq
        refine va_iald hx hb hK hP 3 0 rfl rfl h_7 dX4_greedy_41 ?_
        refine lv_iload_n hx hb dX4_greedy_42 rfl (lv_at hl 3 rfl) ?_
        refine lv_icmp_ne (tgt := 95) hx hb dX4_greedy_43 (by decide) (fun c_8 => ?_) (fun c_8 => ?_)
        · have hq := fw_if c_8 hq
          refine lv_iinc (v := (x4 + (1 : Int32))) (lv' := [(4, .int (x4 + (1 : Int32))), (0, .ref (q 0)), (1, .int x1), (2, .int x2), (3, .int x3)]) hx hb dX4_greedy_95 hl (k := 4) rfl rfl (by decide) rfl (fun ls hl => ?_)
          refine lv_goto (tgt := 26) hx hb dX4_greedy_98 (by decide) ?_
          exact ih x2 (x4 + (1 : Int32)) tn H locs ls (hwI _ (Option.some.inj hq).symm) hP hD hS (lv_sub hl [1, 2, 3, 4, 0] rfl)
        · have hq := fw_it c_8 hq
          refine lv_aload_n hx hb dX4_greedy_46 rfl (lv_at hl 0 rfl) ?_
          refine lv_iload_n hx hb dX4_greedy_47 rfl (lv_at hl 2 rfl) ?_
          refine lv_aload_n hx hb dX4_greedy_48 rfl (lv_at hl 0 rfl) ?_
          refine va_get (D := (dC, dI)) (ci := 4) (v := .ref (q 8)) (C := RX4) (T := TX4) (N := 12) hx hb hts hinX4 hown hK hP 0 rfl rfl 9 (by decide) hf35 (fun _ h9 => h9) rfl dX4_greedy_49 ?_
          have hPc := hP.sub (ws' := (wM cI cJ q  nn0 ln0 sa0 sb0 wg0 kt fr0 pt0 wl0 tn up0 lo0)) [0, 1, 2, 3, 4, 5, 6, 7, 8] rfl
          have hDc := hD.sub (ws' := (wM cI cJ q  nn0 ln0 sa0 sb0 wg0 kt fr0 pt0 wl0 tn up0 lo0)) [0, 1, 2, 3, 4, 5, 6, 7, 8] (by decide) rfl
          refine fw_cv (wr := []) (w2 := fun u => (wM cI cJ q  nn0 ln0 sa0 sb0 wg0 kt fr0 pt0 wl0 u up0 lo0)) [0, 1, 2, 3, 4, 5, 6, 7, 8] [] [0, 1, 2, 3, 4, 5, 6, 7, 8] (va_runV (b := (q 0)) (As := [.int x2, .ref (q 8)]) (rest := []) ⟨hx, hb, hml, hown, hts⟩ (kX4_findFar_T l dC dI cI cJ q H.size  nn0 ln0 sa0 sb0 wg0 kt fr0 pt0 wl0 tn up0 lo0 x2 (fw_be hq)) (cwV 2 hts gX4_greedy_X4_findFar rfl rfl rfl (by decide +kernel) ⟨Nat.le_of_ble_eq_true rfl, Nat.le_of_ble_eq_true rfl⟩) ⟨fw_blind, va_recv hK hPc (ci := 4) (q0 := 0) rfl rfl, fun U hU hW => fw_pre hPc hK hDc hN hU hW⟩ rfl rfl hl.1 rfl (lv_room (Nat.le_of_ble_eq_true rfl)) dX4_greedy_52 ⟨Nat.zero_le _, Nat.zero_le _⟩) hP hD hS hA rfl rfl (by decide) (by decide) (by decide) (fun _ => rfl) (fun u H locs hw hP hD hS => ?_)
          obtain ⟨tn_9, rfl⟩ : ∃ z, z = u := ⟨_, rfl⟩
          have hq := fw_bs hw hq
          try dsimp only at hq
          have hP : va_P (dC, dI) vwCl (wM cI cJ q  nn0 ln0 sa0 sb0 wg0 kt fr0 pt0 wl0 tn_9 up0 lo0) H := hP
          have hD : va_D A (wM cI cJ q  nn0 ln0 sa0 sb0 wg0 kt fr0 pt0 wl0 tn_9 up0 lo0) := hD
          refine lv_iload_n hx hb dX4_greedy_55 rfl (lv_at hl 2 rfl) ?_
          refine lv_aload_n hx hb dX4_greedy_56 rfl (lv_at hl 0 rfl) ?_
          refine va_get (D := (dC, dI)) (ci := 4) (v := .ref (q 8)) (C := RX4) (T := TX4) (N := 12) hx hb hts hinX4 hown hK hP 0 rfl rfl 9 (by decide) hf35 (fun _ h9 => h9) rfl dX4_greedy_57 ?_
          refine lv_bipush (v := (7 : Int32)) hx hb dX4_greedy_60 (by decide) ?_
          refine lv_aload_n hx hb dX4_greedy_62 rfl (lv_at hl 0 rfl) ?_
          refine va_get (D := (dC, dI)) (ci := 4) (v := .ref (q 1)) (C := RX4) (T := TX4) (N := 12) hx hb hts hinX4 hown hK hP 0 rfl rfl 2 (by decide) hf13 (fun _ h9 => h9) rfl dX4_greedy_63 ?_
          refine lv_iload hx hb dX4_greedy_66 (lv_at hl 4 rfl) ?_
          obtain ⟨h_12, hq⟩ := fw_ck_s hq
          refine va_iald hx hb hK hP 1 0 rfl rfl h_12 dX4_greedy_68 ?_
          refine lv_imul hx hb dX4_greedy_69 ?_
          refine lv_aload_n hx hb dX4_greedy_70 rfl (lv_at hl 0 rfl) ?_
          refine va_get (D := (dC, dI)) (ci := 4) (v := .ref (q 2)) (C := RX4) (T := TX4) (N := 12) hx hb hts hinX4 hown hK hP 0 rfl rfl 3 (by decide) hf17 (fun _ h9 => h9) rfl dX4_greedy_71 ?_
          refine lv_iload hx hb dX4_greedy_74 (lv_at hl 4 rfl) ?_
          obtain ⟨h_13, hq⟩ := fw_ck_s hq
          refine va_iald hx hb hK hP 2 0 rfl rfl h_13 dX4_greedy_76 ?_
          refine lv_iadd hx hb dX4_greedy_77 ?_
          obtain ⟨h_14, hq⟩ := fw_ck_s hq
          refine va_iald hx hb hK hP 8 0 rfl rfl h_14 dX4_greedy_78 ?_
          refine lv_iload_n hx hb dX4_greedy_79 rfl (lv_at hl 1 rfl) ?_
          refine lv_iload_n hx hb dX4_greedy_80 rfl (lv_at hl 3 rfl) ?_
          refine lv_imul hx hb dX4_greedy_81 ?_
          refine lv_icmp_le (tgt := 92) hx hb dX4_greedy_82 (by decide) (fun c_15 => ?_) (fun c_15 => ?_)
          · have hq := fw_it c_15 hq
            refine lv_iconst (v := (0 : Int32)) hx hb dX4_greedy_92 (by decide) ?_
            refine lv_ior hx hb dX4_greedy_93 ?_
            refine lv_istore_n (lv' := [(2, .int (x2 ||| (0 : Int32))), (0, .ref (q 0)), (1, .int x1), (3, .int x3), (4, .int x4)]) hx hb dX4_greedy_94 rfl hl (by decide) rfl (fun ls hl => ?_)
            refine lv_iinc (v := (x4 + (1 : Int32))) (lv' := [(4, .int (x4 + (1 : Int32))), (2, .int (x2 ||| (0 : Int32))), (0, .ref (q 0)), (1, .int x1), (3, .int x3)]) hx hb dX4_greedy_95 hl (k := 4) rfl rfl (by decide) rfl (fun ls hl => ?_)
            refine lv_goto (tgt := 26) hx hb dX4_greedy_98 (by decide) ?_
            exact ih (x2 ||| (0 : Int32)) (x4 + (1 : Int32)) tn_9 H locs ls (hwI _ (Option.some.inj hq).symm) hP hD hS (lv_sub hl [2, 3, 1, 4, 0] rfl)
          · have hq := fw_if c_15 hq
            refine lv_iconst (v := (1 : Int32)) hx hb dX4_greedy_85 (by decide) ?_
            refine lv_iload hx hb dX4_greedy_86 (lv_at hl 4 rfl) ?_
            refine lv_ishl hx hb dX4_greedy_88 ?_
            refine lv_goto (tgt := 93) hx hb dX4_greedy_89 (by decide) ?_
            refine lv_ior hx hb dX4_greedy_93 ?_
            refine lv_istore_n (lv' := [(2, .int (x2 ||| ((1 : Int32) <<< (x4 &&& 31)))), (0, .ref (q 0)), (1, .int x1), (3, .int x3), (4, .int x4)]) hx hb dX4_greedy_94 rfl hl (by decide) rfl (fun ls hl => ?_)
            refine lv_iinc (v := (x4 + (1 : Int32))) (lv' := [(4, .int (x4 + (1 : Int32))), (2, .int (x2 ||| ((1 : Int32) <<< (x4 &&& 31)))), (0, .ref (q 0)), (1, .int x1), (3, .int x3)]) hx hb dX4_greedy_95 hl (k := 4) rfl rfl (by decide) rfl (fun ls hl => ?_)
            refine lv_goto (tgt := 26) hx hb dX4_greedy_98 (by decide) ?_
            exact ih (x2 ||| ((1 : Int32) <<< (x4 &&& 31))) (x4 + (1 : Int32)) tn_9 H locs ls (hwI _ (Option.some.inj hq).symm) hP hD hS (lv_sub hl [2, 3, 1, 4, 0] rfl)
  have L17 : ∀ (x1 : Int32) (kt : Nat → Int32) (e9 : Int32 × Int32 × (Nat → Int32)), (∀ (x2' : Int32) (x3' : Int32) (tn' : Nat → Int32) (H : Heap) (locs : List Loc) (ls : Array Slot), e9 = (x2', x3', tn') → va_P (dC, dI) vwCl (wM cI cJ q  nn0 ln0 sa0 sb0 wg0 kt fr0 pt0 wl0 tn' up0 lo0) H → va_D A (wM cI cJ q  nn0 ln0 sa0 sb0 wg0 kt fr0 pt0 wl0 tn' up0 lo0) → va_S A s.heap H locs → lv_has ls 5 [(0, .ref (q 0)), (1, .int x1), (2, .int x2'), (3, .int x3')] → W p l e (headSpec wsX4_greedy ({ frames := 1, cells := 0, slots := 0, locals := 26 })).room s m ([.ref (q 0), .int y1] : List Value).toArray below meth c H locs 0 0 (MQ below (va_Qi (fun (r : Int32) (u : (Nat → Int32) × (Nat → Int32)) => pX4_greedy nn0 ln0 sa0 sb0 wg0 kt0 tn0 y1 = some (r, u)) (fun u t => fw_B (dC, dI) A (wM cI cJ q  nn0 ln0 sa0 sb0 wg0 u.1 fr0 pt0 wl0 u.2 up0 lo0) t) A) ([.ref (q 0), .int y1] : List Value).toArray s 0 0 A) (F0 m 107 ls [])) → ∀ (n9 : Nat) (x2 : Int32) (x3 : Int32) (tn : Nat → Int32) (H : Heap) (locs : List Loc) (ls : Array Slot), fw_wh (pX4_greedy_17 x1 nn0 ln0 sa0 sb0 wg0) n9 (x2, x3, tn) = some e9 → va_P (dC, dI) vwCl (wM cI cJ q  nn0 ln0 sa0 sb0 wg0 kt fr0 pt0 wl0 tn up0 lo0) H → va_D A (wM cI cJ q  nn0 ln0 sa0 sb0 wg0 kt fr0 pt0 wl0 tn up0 lo0) → va_S A s.heap H locs → lv_has ls 5 [(0, .ref (q 0)), (1, .int x1), (2, .int x2), (3, .int x3)] → W p l e (headSpec wsX4_greedy ({ frames := 1, cells := 0, slots := 0, locals := 26 })).room s m ([.ref (q 0), .int y1] : List Value).toArray below meth c H locs 0 0 (MQ below (va_Qi (fun (r : Int32) (u : (Nat → Int32) × (Nat → Int32)) => pX4_greedy nn0 ln0 sa0 sb0 wg0 kt0 tn0 y1 = some (r, u)) (fun u t => fw_B (dC, dI) A (wM cI cJ q  nn0 ln0 sa0 sb0 wg0 u.1 fr0 pt0 wl0 u.2 up0 lo0) t) A) ([.ref (q 0), .int y1] : List Value).toArray s 0 0 A) (F0 m 17 ls []) := by
    intro x1 kt e9 hkk n9
    induction n9 with
    | zero => exact fun _ _ _ H locs ls hq => (fw_wh0 hq).elim
    | succ n9 ih =>
      intro x2 x3 tn H locs ls hq hP hD hS hl
      obtain ⟨w9, hq, hwI, hwE⟩ := fw_wh1 hq
      dsimp only [pX4_greedy_17] at hq
      refine lv_iload_n hx hb dX4_greedy_17 rfl (lv_at hl 3 rfl) ?_
      refine lv_bipush (v := (10 : Int32)) hx hb dX4_greedy_18 (by decide) ?_
      refine lv_icmp_ge (tgt := 107) hx hb dX4_greedy_20 (by decide) (fun c_5 => ?_) (fun c_5 => ?_)
      · have hq := fw_it c_5 hq
        exact hkk x2 x3 tn H locs ls (hwE _ (Option.some.inj hq).symm) hP hD hS (lv_sub hl [0, 1, 2, 3] rfl)
      · have hq := fw_if c_5 hq
        refine lv_iconst (v := (0 : Int32)) hx hb dX4_greedy_23 (by decide) ?_
        refine lv_istore (lv' := [(4, .int (0 : Int32)), (0, .ref (q 0)), (1, .int x1), (2, .int x2), (3, .int x3)]) hx hb dX4_greedy_24 hl (by decide) rfl (fun ls hl => ?_)
        obtain ⟨e_19, hw, hq⟩ := fw_bb hq
        refine L26 x1 x3 kt e_19 (fun x2_16 x4_17 tn_18 H locs ls he hP hD hS hl => ?_) fw_N x2 (0 : Int32) tn H locs ls hw hP hD hS (lv_sub hl [1, 2, 3, 4, 0] rfl)
        subst he
        try dsimp only at hq
        refine lv_iinc (v := (x3 + (1 : Int32))) (lv' := [(3, .int (x3 + (1 : Int32))), (0, .ref (q 0)), (1, .int x1), (2, .int x2_16), (4, .int x4_17)]) hx hb dX4_greedy_101 hl (k := 3) rfl rfl (by decide) rfl (fun ls hl => ?_)
        refine lv_goto (tgt := 17) hx hb dX4_greedy_104 (by decide) ?_
        exact ih x2_16 (x3 + (1 : Int32)) tn_18 H locs ls (hwI _ (Option.some.inj hq).symm) hP hD hS (lv_sub hl [1, 2, 3, 0] rfl)
  have L109 : ∀ (x2 : Int32) (tn : Nat → Int32) (e9 : Int32 × (Nat → Int32)), (∀ (x3' : Int32) (kt' : Nat → Int32) (H : Heap) (locs : List Loc) (ls : Array Slot), e9 = (x3', kt') → va_P (dC, dI) vwCl (wM cI cJ q  nn0 ln0 sa0 sb0 wg0 kt' fr0 pt0 wl0 tn up0 lo0) H → va_D A (wM cI cJ q  nn0 ln0 sa0 sb0 wg0 kt' fr0 pt0 wl0 tn up0 lo0) → va_S A s.heap H locs → lv_has ls 5 [(0, .ref (q 0)), (2, .int x2), (3, .int x3')] → W p l e (headSpec wsX4_greedy ({ frames := 1, cells := 0, slots := 0, locals := 26 })).room s m ([.ref (q 0), .int y1] : List Value).toArray below meth c H locs 0 0 (MQ below (va_Qi (fun (r : Int32) (u : (Nat → Int32) × (Nat → Int32)) => pX4_greedy nn0 ln0 sa0 sb0 wg0 kt0 tn0 y1 = some (r, u)) (fun u t => fw_B (dC, dI) A (wM cI cJ q  nn0 ln0 sa0 sb0 wg0 u.1 fr0 pt0 wl0 u.2 up0 lo0) t) A) ([.ref (q 0), .int y1] : List Value).toArray s 0 0 A) (F0 m 148 ls [])) → ∀ (n9 : Nat) (x3 : Int32) (kt : Nat → Int32) (H : Heap) (locs : List Loc) (ls : Array Slot), fw_wh (pX4_greedy_109 x2 ln0 wg0) n9 (x3, kt) = some e9 → va_P (dC, dI) vwCl (wM cI cJ q  nn0 ln0 sa0 sb0 wg0 kt fr0 pt0 wl0 tn up0 lo0) H → va_D A (wM cI cJ q  nn0 ln0 sa0 sb0 wg0 kt fr0 pt0 wl0 tn up0 lo0) → va_S A s.heap H locs → lv_has ls 5 [(0, .ref (q 0)), (2, .int x2), (3, .int x3)] → W p l e (headSpec wsX4_greedy ({ frames := 1, cells := 0, slots := 0, locals := 26 })).room s m ([.ref (q 0), .int y1] : List Value).toArray below meth c H locs 0 0 (MQ below (va_Qi (fun (r : Int32) (u : (Nat → Int32) × (Nat → Int32)) => pX4_greedy nn0 ln0 sa0 sb0 wg0 kt0 tn0 y1 = some (r, u)) (fun u t => fw_B (dC, dI) A (wM cI cJ q  nn0 ln0 sa0 sb0 wg0 u.1 fr0 pt0 wl0 u.2 up0 lo0) t) A) ([.ref (q 0), .int y1] : List Value).toArray s 0 0 A) (F0 m 109 ls []) := by
    intro x2 tn e9 hkk n9
    induction n9 with
    | zero => exact fun _ _ H locs ls hq => (fw_wh0 hq).elim
    | succ n9 ih =>
      intro x3 kt H locs ls hq hP hD hS hl
      obtain ⟨w9, hq, hwI, hwE⟩ := fw_wh1 hq
      dsimp only [pX4_greedy_109] at hq
      refine lv_iload_n hx hb dX4_greedy_109 rfl (lv_at hl 2 rfl) ?_
      refine lv_aload_n hx hb dX4_greedy_110 rfl (lv_at hl 0 rfl) ?_
      refine va_get (D := (dC, dI)) (ci := 4) (v := .int ln0) (C := RX4) (T := TX4) (N := 12) hx hb hts hinX4 hown hK hP 0 rfl rfl 1 (by decide) hf42 (fun _ h9 => h9) rfl dX4_greedy_111 ?_
      refine lv_icmp_ge (tgt := 148) hx hb dX4_greedy_114 (by decide) (fun c_24 => ?_) (fun c_24 => ?_)
      · have hq := fw_it c_24 hq
        exact hkk x3 kt H locs ls (hwE _ (Option.some.inj hq).symm) hP hD hS (lv_sub hl [0, 1, 2] rfl)
      · have hq := fw_if c_24 hq
        refine lv_aload_n hx hb dX4_greedy_117 rfl (lv_at hl 0 rfl) ?_
        refine va_get (D := (dC, dI)) (ci := 4) (v := .ref (q 4)) (C := RX4) (T := TX4) (N := 12) hx hb hts hinX4 hown hK hP 0 rfl rfl 5 (by decide) hf23 (fun _ h9 => h9) rfl dX4_greedy_118 ?_
        refine lv_iload_n hx hb dX4_greedy_121 rfl (lv_at hl 2 rfl) ?_
        refine lv_iload_n hx hb dX4_greedy_122 rfl (lv_at hl 1 rfl) ?_
        refine lv_iload_n hx hb dX4_greedy_123 rfl (lv_at hl 2 rfl) ?_
        refine lv_ishr hx hb dX4_greedy_124 ?_
        refine lv_iconst (v := (1 : Int32)) hx hb dX4_greedy_125 (by decide) ?_
        refine lv_iand hx hb dX4_greedy_126 ?_
        refine lv_iconst (v := (1 : Int32)) hx hb dX4_greedy_127 (by decide) ?_
        refine lv_icmp_ne (tgt := 140) hx hb dX4_greedy_128 (by decide) (fun c_25 => ?_) (fun c_25 => ?_)
        · have hq := fw_if c_25 hq
          refine lv_iconst (v := (0 : Int32)) hx hb dX4_greedy_140 (by decide) ?_
          obtain ⟨h_26, hq⟩ := fw_ck_s hq
          refine va_iast hx hb hK hP hD hS 4 0 rfl rfl h_26 dX4_greedy_141 (fun H locs hP hD hS => ?_)
          have hP : va_P (dC, dI) vwCl (wM cI cJ q  nn0 ln0 sa0 sb0 wg0 (upd kt (x3).toNatClampNeg (0 : Int32)) fr0 pt0 wl0 tn up0 lo0) H := hP
          have hD : va_D A (wM cI cJ q  nn0 ln0 sa0 sb0 wg0 (upd kt (x3).toNatClampNeg (0 : Int32)) fr0 pt0 wl0 tn up0 lo0) := hD
          refine lv_iinc (v := (x3 + (1 : Int32))) (lv' := [(3, .int (x3 + (1 : Int32))), (0, .ref (q 0)), (2, .int x2)]) hx hb dX4_greedy_142 hl (k := 2) rfl rfl (by decide) rfl (fun ls hl => ?_)
          refine lv_goto (tgt := 109) hx hb dX4_greedy_145 (by decide) ?_
          exact ih (x3 + (1 : Int32)) (upd kt (x3).toNatClampNeg (0 : Int32)) H locs ls (hwI _ (Option.some.inj hq).symm) hP hD hS (lv_sub hl [1, 2, 0] rfl)
        · have hq := fw_it c_25 hq
          refine lv_aload_n hx hb dX4_greedy_131 rfl (lv_at hl 0 rfl) ?_
          refine va_get (D := (dC, dI)) (ci := 4) (v := .ref (q 3)) (C := RX4) (T := TX4) (N := 12) hx hb hts hinX4 hown hK hP 0 rfl rfl 4 (by decide) hf20 (fun _ h9 => h9) rfl dX4_greedy_132 ?_
          refine lv_iload_n hx hb dX4_greedy_135 rfl (lv_at hl 2 rfl) ?_
          obtain ⟨h_27, hq⟩ := fw_ck_s hq
          refine va_iald hx hb hK hP 3 0 rfl rfl h_27 dX4_greedy_136 ?_
          refine lv_goto (tgt := 141) hx hb dX4_greedy_137 (by decide) ?_
          obtain ⟨h_28, hq⟩ := fw_ck_s hq
          refine va_iast hx hb hK hP hD hS 4 0 rfl rfl h_28 dX4_greedy_141 (fun H locs hP hD hS => ?_)
          have hP : va_P (dC, dI) vwCl (wM cI cJ q  nn0 ln0 sa0 sb0 wg0 (upd kt (x3).toNatClampNeg (wg0 (x3).toNatClampNeg)) fr0 pt0 wl0 tn up0 lo0) H := hP
          have hD : va_D A (wM cI cJ q  nn0 ln0 sa0 sb0 wg0 (upd kt (x3).toNatClampNeg (wg0 (x3).toNatClampNeg)) fr0 pt0 wl0 tn up0 lo0) := hD
          refine lv_iinc (v := (x3 + (1 : Int32))) (lv' := [(3, .int (x3 + (1 : Int32))), (0, .ref (q 0)), (2, .int x2)]) hx hb dX4_greedy_142 hl (k := 2) rfl rfl (by decide) rfl (fun ls hl => ?_)
          refine lv_goto (tgt := 109) hx hb dX4_greedy_145 (by decide) ?_
          exact ih (x3 + (1 : Int32)) (upd kt (x3).toNatClampNeg (wg0 (x3).toNatClampNeg)) H locs ls (hwI _ (Option.some.inj hq).symm) hP hD hS (lv_sub hl [1, 2, 0] rfl)
  have hq := hz
  dsimp only [pX4_greedy] at hq
  have hl := lv_entry (([.ref (q 0), .int y1] : List Value)) (n := 5) (Nat.le_of_ble_eq_true rfl)
  rw [lg_entry_eq]
  generalize (lg_sl (([.ref (q 0), .int y1] : List Value)) ++ List.replicate (5 - (lg_sl (([.ref (q 0), .int y1] : List Value))).length) Slot.unset).toArray = ls at hl ⊢
  have hl : lv_has ls 5 [(0, .ref (q 0)), (1, .int y1)] := hl
  obtain ⟨H, hHe⟩ : ∃ H : Heap, H = s.heap := ⟨_, rfl⟩
  obtain ⟨locs, hLe⟩ : ∃ L : List Loc, L = [] := ⟨_, rfl⟩
  have hP : va_P (dC, dI) vwCl (wM cI cJ q  nn0 ln0 sa0 sb0 wg0 kt0 fr0 pt0 wl0 tn0 up0 lo0) H := by rw [hHe]; exact hP
  have hS : va_S A s.heap H locs := by rw [hHe, hLe]; exact va_S.rf
  show W p l e (headSpec wsX4_greedy ({ frames := 1, cells := 0, slots := 0, locals := 26 })).room s m ([.ref (q 0), .int y1] : List Value).toArray below meth c s.heap [] 0 0 (MQ below (va_Qi (fun (r : Int32) (u : (Nat → Int32) × (Nat → Int32)) => pX4_greedy nn0 ln0 sa0 sb0 wg0 kt0 tn0 y1 = some (r, u)) (fun u t => fw_B (dC, dI) A (wM cI cJ q  nn0 ln0 sa0 sb0 wg0 u.1 fr0 pt0 wl0 u.2 up0 lo0) t) A) ([.ref (q 0), .int y1] : List Value).toArray s 0 0 A) (F0 m 0 ls [])
  rw [← hHe, ← hLe]
  refine lv_iload_n hx hb dX4_greedy_0 rfl (lv_at hl 1 rfl) ?_
  refine lv_iconst (v := (1 : Int32)) hx hb dX4_greedy_1 (by decide) ?_
  refine lv_bipush (v := (9 : Int32)) hx hb dX4_greedy_2 (by decide) ?_
  have hPc := hP.sub (ws' := (w0 cI cJ   )) [] rfl
  have hDc := hD.sub (ws' := (w0 cI cJ   )) [] (by decide) rfl
  refine fw_ci (wr := [((q 0), .inr (4, [.int nn0, .int ln0, .ref (q 1), .ref (q 2), .ref (q 3), .ref (q 4), .ref (q 5), .ref (q 6), .ref (q 7), .ref (q 8), .long up0, .long lo0])), ((q 1), .inl (cI, 12, .inl sa0)), ((q 2), .inl (cI, 12, .inl sb0)), ((q 3), .inl (cI, 12, .inl wg0)), ((q 4), .inl (cI, 12, .inl kt0)), ((q 5), .inl (cI, 12, .inl fr0)), ((q 6), .inl (cI, 7, .inl pt0)), ((q 7), .inl (cI, 49, .inl wl0)), ((q 8), .inl (cI, 49, .inl tn0))]) (w2 := fun u => (wM cI cJ q  nn0 ln0 sa0 sb0 wg0 kt0 fr0 pt0 wl0 tn0 up0 lo0)) [] [0, 1, 2, 3, 4, 5, 6, 7, 8] [0, 1, 2, 3, 4, 5, 6, 7, 8] (va_runS (As := [.int y1, .int (1 : Int32), .int (9 : Int32)]) (rest := []) ⟨hx, hb, hml, hown, hts⟩ (kX4_in l dC dI cI cJ  H.size   y1 (1 : Int32) (9 : Int32) (fw_be hq)) (va_cwS 3 hts gX4_greedy_X4_in rfl rfl rfl (by decide +kernel) ⟨Nat.le_of_ble_eq_true rfl, Nat.le_of_ble_eq_true rfl⟩) ⟨fw_blind, fun U hU hW => fw_pre hPc hK hDc hN hU hW⟩ rfl rfl hl.1 rfl (lv_room (Nat.le_of_ble_eq_true rfl)) dX4_greedy_4 ⟨Nat.zero_le _, Nat.zero_le _⟩) hP hD hS hA rfl rfl (by decide) (by decide) (by decide) (fun _ => rfl) (fun r_1 u H locs hw hP hD hS => ?_)
  obtain ⟨hw, n_3⟩ := hw
  have hq := fw_bs hw hq
  try dsimp only at hq
  refine lv_if_ne (tgt := 13) hx hb dX4_greedy_7 (by decide) (fun c_4 => ?_) (fun c_4 => ?_)
  · have hq := fw_if c_4 hq
    refine lv_iconst (v := (0 : Int32)) hx hb dX4_greedy_13 (by decide) ?_
    refine lv_istore_n (lv' := [(2, .int (0 : Int32)), (0, .ref (q 0)), (1, .int y1)]) hx hb dX4_greedy_14 rfl hl (by decide) rfl (fun ls hl => ?_)
    refine lv_iconst (v := (1 : Int32)) hx hb dX4_greedy_15 (by decide) ?_
    refine lv_istore_n (lv' := [(3, .int (1 : Int32)), (2, .int (0 : Int32)), (0, .ref (q 0)), (1, .int y1)]) hx hb dX4_greedy_16 rfl hl (by decide) rfl (fun ls hl => ?_)
    obtain ⟨e_23, hw, hq⟩ := fw_bb hq
    refine L17 y1 kt0 e_23 (fun x2_20 x3_21 tn_22 H locs ls he hP hD hS hl => ?_) fw_N (0 : Int32) (1 : Int32) tn0 H locs ls hw hP hD hS (lv_sub hl [2, 3, 1, 0] rfl)
    subst he
    try dsimp only at hq
    refine lv_iconst (v := (0 : Int32)) hx hb dX4_greedy_107 (by decide) ?_
    refine lv_istore_n (lv' := [(3, .int (0 : Int32)), (0, .ref (q 0)), (1, .int y1), (2, .int x2_20)]) hx hb dX4_greedy_108 rfl hl (by decide) rfl (fun ls hl => ?_)
    obtain ⟨e_31, hw, hq⟩ := fw_bb hq
    refine L109 x2_20 tn_22 e_31 (fun x3_29 kt_30 H locs ls he hP hD hS hl => ?_) fw_N (0 : Int32) kt0 H locs ls hw hP hD hS (lv_sub hl [1, 3, 0] rfl)
    subst he
    try dsimp only at hq
    refine lv_aload_n hx hb dX4_greedy_148 rfl (lv_at hl 0 rfl) ?_
    have hPc := hP.sub (ws' := (wM cI cJ q  nn0 ln0 sa0 sb0 wg0 kt_30 fr0 pt0 wl0 tn_22 up0 lo0)) [0, 1, 2, 3, 4, 5, 6, 7, 8] rfl
    have hDc := hD.sub (ws' := (wM cI cJ q  nn0 ln0 sa0 sb0 wg0 kt_30 fr0 pt0 wl0 tn_22 up0 lo0)) [0, 1, 2, 3, 4, 5, 6, 7, 8] (by decide) rfl
    refine fw_ci (wr := []) (w2 := fun u => (wM cI cJ q  nn0 ln0 sa0 sb0 wg0 kt_30 fr0 pt0 wl0 tn_22 up0 lo0)) [0, 1, 2, 3, 4, 5, 6, 7, 8] [] [0, 1, 2, 3, 4, 5, 6, 7, 8] (va_runV (b := (q 0)) (As := []) (rest := []) ⟨hx, hb, hml, hown, hts⟩ (kX4_keptMany l dC dI cI cJ q H.size  nn0 ln0 sa0 sb0 wg0 kt_30 fr0 pt0 wl0 tn_22 up0 lo0  (fw_be hq)) (cwV 0 hts gX4_greedy_X4_keptMany rfl rfl rfl (by decide +kernel) ⟨Nat.le_of_ble_eq_true rfl, Nat.le_of_ble_eq_true rfl⟩) ⟨fw_blind, va_recv hK hPc (ci := 4) (q0 := 0) rfl rfl, fun U hU hW => fw_pre hPc hK hDc hN hU hW⟩ rfl rfl hl.1 rfl (lv_room (Nat.le_of_ble_eq_true rfl)) dX4_greedy_149 ⟨Nat.zero_le _, Nat.zero_le _⟩) hP hD hS hA rfl rfl (by decide) (by decide) (by decide) (fun _ => rfl) (fun r_32 u H locs hw hP hD hS => ?_)
    have hq := fw_bs hw hq
    try dsimp only at hq
    exact W.iret (v := r_32) hx hb hr (fun t ht hW => ⟨⟨r_32, (kt_30, tn_22), rfl, hz.trans hq.symm, by rw [ht]; exact hP, hD⟩, hS.F ht⟩) hS.2.2 dX4_greedy_152
  · have hq := fw_it c_4 hq
    refine lv_bipush (v := (-3 : Int32)) hx hb dX4_greedy_10 (by decide) ?_
    exact W.iret (v := (-3 : Int32)) hx hb hr (fun t ht hW => ⟨⟨(-3 : Int32), (kt0, tn0), rfl, hz.trans hq.symm, by rw [ht]; exact hP, hD⟩, hS.F ht⟩) hS.2.2 dX4_greedy_12
set_option maxHeartbeats 4000000 in
set_option maxRecDepth 100000 in
theorem kX4_isWithin (l : Launch) (dC : Nat → ClassId) (dI : Nat → Nat → Nat) (cI cJ : ClassId) (q : Nat → Nat) (sz : Nat)  (nn0 : Int32) (ln0 : Int32) (sa0 : Nat → Int32) (sb0 : Nat → Int32) (wg0 : Nat → Int32) (kt0 : Nat → Int32) (fr0 : Nat → Int32) (pt0 : Nat → Int32) (wl0 : Nat → Int32) (tn0 : Nat → Int32) (up0 : Int64) (lo0 : Int64) (y1 : Int32) (y2 : Int32) (hd : ∃ z, pX4_isWithin nn0 ln0 sa0 sb0 wg0 wl0 tn0 y1 y2 = some z) : Met l yX4_isWithin wsX4_isWithin ({ frames := 1, cells := 0, slots := 0, locals := 26 }) (fw_Pc (dC, dI) (fw_tys cI cJ) (wM cI cJ q  nn0 ln0 sa0 sb0 wg0 kt0 fr0 pt0 wl0 tn0 up0 lo0) ([.ref (q 0), .int y1, .int y2] : List Value) sz) (va_Qi (fun (r : Int32) (u : (Nat → Int32)) => pX4_isWithin nn0 ln0 sa0 sb0 wg0 wl0 tn0 y1 y2 = some (r, u) ∧ narrow .boolean (.int r) = .int r) (fun u t => fw_B (dC, dI) (va_A (wM cI cJ q  nn0 ln0 sa0 sb0 wg0 kt0 fr0 pt0 wl0 tn0 up0 lo0) sz) (wM cI cJ q  nn0 ln0 sa0 sb0 wg0 kt0 fr0 pt0 wl0 u up0 lo0) t) (va_A (wM cI cJ q  nn0 ln0 sa0 sb0 wg0 kt0 fr0 pt0 wl0 tn0 up0 lo0) sz)) 0 0 (va_A (wM cI cJ q  nn0 ln0 sa0 sb0 wg0 kt0 fr0 pt0 wl0 tn0 up0 lo0) sz) := by
  obtain ⟨z, hz⟩ := hd
  refine Met.ofW (cc := cX4_isWithin) (maxL := 5) (ret := (some .boolean)) (by decide) rfl ?_
  intro p e s m args below meth c s₁ B hml hv
  obtain ⟨rfl, hsz, hP, hK, hD0, hN⟩ := hv
  have hx := B.exec
  have hb := B.bytes
  have hr := B.returns
  have hts := atoms_spec (ws := wsX4_isWithin) B.pre
  have hown : s.vm.findClass RX4 = some m.cls := findClass_of_methodNamed B.named
  have hlocks := B.notSynchronized
  subst hsz
  have hD := hD0.self (sz := s.heap.size)
  generalize hAe : va_A (wM cI cJ q  nn0 ln0 sa0 sb0 wg0 kt0 fr0 pt0 wl0 tn0 up0 lo0) s.heap.size = A at hD ⊢
  have hA : ∀ q : Nat, s.heap.size ≤ q → A q := fun q h => by rw [← hAe]; exact Or.inr h
  have hinX4 : ∀ w ∈ u_ws RX4 TX4 12, w ∈ wsX4_isWithin := by decide +kernel
  have hf7 := hts (.fieldLink RX4 7 "FewLinesModel" "n" "I") (by decide +kernel)
  have hf32 := hts (.fieldLink RX4 32 "FewLinesModel" "whole" "[I") (by decide +kernel)
  have hf35 := hts (.fieldLink RX4 35 "FewLinesModel" "thin" "[I") (by decide +kernel)
  have L14 : ∀ (x2 : Int32) (tn : Nat → Int32) (e9 : Int32 × Int32), (∀ (x3' : Int32) (x4' : Int32) (H : Heap) (locs : List Loc) (ls : Array Slot), e9 = (x3', x4') → va_P (dC, dI) vwCl (wM cI cJ q  nn0 ln0 sa0 sb0 wg0 kt0 fr0 pt0 wl0 tn up0 lo0) H → va_D A (wM cI cJ q  nn0 ln0 sa0 sb0 wg0 kt0 fr0 pt0 wl0 tn up0 lo0) → va_S A s.heap H locs → lv_has ls 5 [(0, .ref (q 0)), (2, .int x2), (3, .int x3'), (4, .int x4')] → W p l e (headSpec wsX4_isWithin ({ frames := 1, cells := 0, slots := 0, locals := 26 })).room s m ([.ref (q 0), .int y1, .int y2] : List Value).toArray below meth c H locs 0 0 (MQ below (va_Qi (fun (r : Int32) (u : (Nat → Int32)) => pX4_isWithin nn0 ln0 sa0 sb0 wg0 wl0 tn0 y1 y2 = some (r, u) ∧ narrow .boolean (.int r) = .int r) (fun u t => fw_B (dC, dI) A (wM cI cJ q  nn0 ln0 sa0 sb0 wg0 kt0 fr0 pt0 wl0 u up0 lo0) t) A) ([.ref (q 0), .int y1, .int y2] : List Value).toArray s 0 0 A) (F0 m 93 ls [])) → ∀ (n9 : Nat) (x3 : Int32) (x4 : Int32) (H : Heap) (locs : List Loc) (ls : Array Slot), fw_wh (pX4_isWithin_14 x2 nn0 wl0 tn) n9 (x3, x4) = some e9 → va_P (dC, dI) vwCl (wM cI cJ q  nn0 ln0 sa0 sb0 wg0 kt0 fr0 pt0 wl0 tn up0 lo0) H → va_D A (wM cI cJ q  nn0 ln0 sa0 sb0 wg0 kt0 fr0 pt0 wl0 tn up0 lo0) → va_S A s.heap H locs → lv_has ls 5 [(0, .ref (q 0)), (2, .int x2), (3, .int x3), (4, .int x4)] → W p l e (headSpec wsX4_isWithin ({ frames := 1, cells := 0, slots := 0, locals := 26 })).room s m ([.ref (q 0), .int y1, .int y2] : List Value).toArray below meth c H locs 0 0 (MQ below (va_Qi (fun (r : Int32) (u : (Nat → Int32)) => pX4_isWithin nn0 ln0 sa0 sb0 wg0 wl0 tn0 y1 y2 = some (r, u) ∧ narrow .boolean (.int r) = .int r) (fun u t => fw_B (dC, dI) A (wM cI cJ q  nn0 ln0 sa0 sb0 wg0 kt0 fr0 pt0 wl0 u up0 lo0) t) A) ([.ref (q 0), .int y1, .int y2] : List Value).toArray s 0 0 A) (F0 m 14 ls []) := by
    intro x2 tn e9 hkk n9
    induction n9 with
    | zero => exact fun _ _ H locs ls hq => (fw_wh0 hq).elim
    | succ n9 ih =>
      intro x3 x4 H locs ls hq hP hD hS hl
      obtain ⟨w9, hq, hwI, hwE⟩ := fw_wh1 hq
      dsimp only [pX4_isWithin_14] at hq
      refine lv_iload hx hb dX4_isWithin_14 (lv_at hl 3 rfl) ?_
      refine lv_bipush (v := (49 : Int32)) hx hb dX4_isWithin_16 (by decide) ?_
      refine lv_icmp_ge (tgt := 93) hx hb dX4_isWithin_18 (by decide) (fun c_4 => ?_) (fun c_4 => ?_)
      · have hq := fw_it c_4 hq
        exact hkk x3 x4 H locs ls (hwE _ (Option.some.inj hq).symm) hP hD hS (lv_sub hl [0, 1, 2, 3] rfl)
      · have hq := fw_if c_4 hq
        refine lv_iload_n hx hb dX4_isWithin_21 rfl (lv_at hl 2 rfl) ?_
        refine lv_if_eq (tgt := 85) hx hb dX4_isWithin_22 (by decide) (fun c_5 => ?_) (fun c_5 => ?_)
        · have hq := fw_it c_5 hq
          refine lv_iconst (v := (0 : Int32)) hx hb dX4_isWithin_85 (by decide) ?_
          refine lv_istore_n (lv' := [(3, .int (0 : Int32)), (0, .ref (q 0)), (2, .int x2), (4, .int x4)]) hx hb dX4_isWithin_86 rfl hl (by decide) rfl (fun ls hl => ?_)
          refine lv_iinc (v := (x4 + (1 : Int32))) (lv' := [(4, .int (x4 + (1 : Int32))), (3, .int (0 : Int32)), (0, .ref (q 0)), (2, .int x2)]) hx hb dX4_isWithin_87 hl (k := 3) rfl rfl (by decide) rfl (fun ls hl => ?_)
          refine lv_goto (tgt := 14) hx hb dX4_isWithin_90 (by decide) ?_
          exact ih (0 : Int32) (x4 + (1 : Int32)) H locs ls (hwI _ (Option.some.inj hq).symm) hP hD hS (lv_sub hl [2, 3, 1, 0] rfl)
        · have hq := fw_if c_5 hq
          refine lv_iload hx hb dX4_isWithin_25 (lv_at hl 3 rfl) ?_
          refine lv_bipush (v := (7 : Int32)) hx hb dX4_isWithin_27 (by decide) ?_
          obtain ⟨h_6, hq⟩ := fw_cz_s hq
          refine lv_idiv hx hb dX4_isWithin_29 h_6 ?_
          refine lv_aload_n hx hb dX4_isWithin_30 rfl (lv_at hl 0 rfl) ?_
          refine va_get (D := (dC, dI)) (ci := 4) (v := .int nn0) (C := RX4) (T := TX4) (N := 12) hx hb hts hinX4 hown hK hP 0 rfl rfl 0 (by decide) hf7 (fun _ h9 => h9) rfl dX4_isWithin_31 ?_
          refine lv_icmp_ge (tgt := 81) hx hb dX4_isWithin_34 (by decide) (fun c_7 => ?_) (fun c_7 => ?_)
          · have hq := fw_it c_7 hq
            refine lv_iconst (v := (1 : Int32)) hx hb dX4_isWithin_81 (by decide) ?_
            refine lv_goto (tgt := 86) hx hb dX4_isWithin_82 (by decide) ?_
            refine lv_istore_n (lv' := [(3, .int (1 : Int32)), (0, .ref (q 0)), (2, .int x2), (4, .int x4)]) hx hb dX4_isWithin_86 rfl hl (by decide) rfl (fun ls hl => ?_)
            refine lv_iinc (v := (x4 + (1 : Int32))) (lv' := [(4, .int (x4 + (1 : Int32))), (3, .int (1 : Int32)), (0, .ref (q 0)), (2, .int x2)]) hx hb dX4_isWithin_87 hl (k := 3) rfl rfl (by decide) rfl (fun ls hl => ?_)
            refine lv_goto (tgt := 14) hx hb dX4_isWithin_90 (by decide) ?_
            exact ih (1 : Int32) (x4 + (1 : Int32)) H locs ls (hwI _ (Option.some.inj hq).symm) hP hD hS (lv_sub hl [2, 3, 1, 0] rfl)
          · have hq := fw_if c_7 hq
            refine lv_iload hx hb dX4_isWithin_37 (lv_at hl 3 rfl) ?_
            refine lv_bipush (v := (7 : Int32)) hx hb dX4_isWithin_39 (by decide) ?_
            obtain ⟨h_8, hq⟩ := fw_cz_s hq
            refine lv_irem hx hb dX4_isWithin_41 h_8 ?_
            refine lv_aload_n hx hb dX4_isWithin_42 rfl (lv_at hl 0 rfl) ?_
            refine va_get (D := (dC, dI)) (ci := 4) (v := .int nn0) (C := RX4) (T := TX4) (N := 12) hx hb hts hinX4 hown hK hP 0 rfl rfl 0 (by decide) hf7 (fun _ h9 => h9) rfl dX4_isWithin_43 ?_
            refine lv_icmp_ge (tgt := 81) hx hb dX4_isWithin_46 (by decide) (fun c_9 => ?_) (fun c_9 => ?_)
            · have hq := fw_it c_9 hq
              refine lv_iconst (v := (1 : Int32)) hx hb dX4_isWithin_81 (by decide) ?_
              refine lv_goto (tgt := 86) hx hb dX4_isWithin_82 (by decide) ?_
              refine lv_istore_n (lv' := [(3, .int (1 : Int32)), (0, .ref (q 0)), (2, .int x2), (4, .int x4)]) hx hb dX4_isWithin_86 rfl hl (by decide) rfl (fun ls hl => ?_)
              refine lv_iinc (v := (x4 + (1 : Int32))) (lv' := [(4, .int (x4 + (1 : Int32))), (3, .int (1 : Int32)), (0, .ref (q 0)), (2, .int x2)]) hx hb dX4_isWithin_87 hl (k := 3) rfl rfl (by decide) rfl (fun ls hl => ?_)
              refine lv_goto (tgt := 14) hx hb dX4_isWithin_90 (by decide) ?_
              exact ih (1 : Int32) (x4 + (1 : Int32)) H locs ls (hwI _ (Option.some.inj hq).symm) hP hD hS (lv_sub hl [2, 3, 1, 0] rfl)
            · have hq := fw_if c_9 hq
              refine lv_aload_n hx hb dX4_isWithin_49 rfl (lv_at hl 0 rfl) ?_
              refine va_get (D := (dC, dI)) (ci := 4) (v := .ref (q 7)) (C := RX4) (T := TX4) (N := 12) hx hb hts hinX4 hown hK hP 0 rfl rfl 8 (by decide) hf32 (fun _ h9 => h9) rfl dX4_isWithin_50 ?_
              refine lv_iload hx hb dX4_isWithin_53 (lv_at hl 3 rfl) ?_
              obtain ⟨h_10, hq⟩ := fw_ck_s hq
              refine va_iald hx hb hK hP 7 0 rfl rfl h_10 dX4_isWithin_55 ?_
              refine lv_sipush (v := (10000 : Int32)) hx hb dX4_isWithin_56 (by decide) ?_
              refine lv_icmp_ge (tgt := 81) hx hb dX4_isWithin_59 (by decide) (fun c_11 => ?_) (fun c_11 => ?_)
              · have hq := fw_it c_11 hq
                refine lv_iconst (v := (1 : Int32)) hx hb dX4_isWithin_81 (by decide) ?_
                refine lv_goto (tgt := 86) hx hb dX4_isWithin_82 (by decide) ?_
                refine lv_istore_n (lv' := [(3, .int (1 : Int32)), (0, .ref (q 0)), (2, .int x2), (4, .int x4)]) hx hb dX4_isWithin_86 rfl hl (by decide) rfl (fun ls hl => ?_)
                refine lv_iinc (v := (x4 + (1 : Int32))) (lv' := [(4, .int (x4 + (1 : Int32))), (3, .int (1 : Int32)), (0, .ref (q 0)), (2, .int x2)]) hx hb dX4_isWithin_87 hl (k := 3) rfl rfl (by decide) rfl (fun ls hl => ?_)
                refine lv_goto (tgt := 14) hx hb dX4_isWithin_90 (by decide) ?_
                exact ih (1 : Int32) (x4 + (1 : Int32)) H locs ls (hwI _ (Option.some.inj hq).symm) hP hD hS (lv_sub hl [2, 3, 1, 0] rfl)
              · have hq := fw_if c_11 hq
                refine lv_aload_n hx hb dX4_isWithin_62 rfl (lv_at hl 0 rfl) ?_
                refine va_get (D := (dC, dI)) (ci := 4) (v := .ref (q 8)) (C := RX4) (T := TX4) (N := 12) hx hb hts hinX4 hown hK hP 0 rfl rfl 9 (by decide) hf35 (fun _ h9 => h9) rfl dX4_isWithin_63 ?_
                refine lv_iload hx hb dX4_isWithin_66 (lv_at hl 3 rfl) ?_
                obtain ⟨h_12, hq⟩ := fw_ck_s hq
                refine va_iald hx hb hK hP 8 0 rfl rfl h_12 dX4_isWithin_68 ?_
                refine lv_iload_n hx hb dX4_isWithin_69 rfl (lv_at hl 1 rfl) ?_
                refine lv_aload_n hx hb dX4_isWithin_70 rfl (lv_at hl 0 rfl) ?_
                refine va_get (D := (dC, dI)) (ci := 4) (v := .ref (q 7)) (C := RX4) (T := TX4) (N := 12) hx hb hts hinX4 hown hK hP 0 rfl rfl 8 (by decide) hf32 (fun _ h9 => h9) rfl dX4_isWithin_71 ?_
                refine lv_iload hx hb dX4_isWithin_74 (lv_at hl 3 rfl) ?_
                obtain ⟨h_13, hq⟩ := fw_ck_s hq
                refine va_iald hx hb hK hP 7 0 rfl rfl h_13 dX4_isWithin_76 ?_
                refine lv_imul hx hb dX4_isWithin_77 ?_
                refine lv_icmp_gt (tgt := 85) hx hb dX4_isWithin_78 (by decide) (fun c_14 => ?_) (fun c_14 => ?_)
                · have hq := fw_it c_14 hq
                  refine lv_iconst (v := (0 : Int32)) hx hb dX4_isWithin_85 (by decide) ?_
                  refine lv_istore_n (lv' := [(3, .int (0 : Int32)), (0, .ref (q 0)), (2, .int x2), (4, .int x4)]) hx hb dX4_isWithin_86 rfl hl (by decide) rfl (fun ls hl => ?_)
                  refine lv_iinc (v := (x4 + (1 : Int32))) (lv' := [(4, .int (x4 + (1 : Int32))), (3, .int (0 : Int32)), (0, .ref (q 0)), (2, .int x2)]) hx hb dX4_isWithin_87 hl (k := 3) rfl rfl (by decide) rfl (fun ls hl => ?_)
                  refine lv_goto (tgt := 14) hx hb dX4_isWithin_90 (by decide) ?_
                  exact ih (0 : Int32) (x4 + (1 : Int32)) H locs ls (hwI _ (Option.some.inj hq).symm) hP hD hS (lv_sub hl [2, 3, 1, 0] rfl)
                · have hq := fw_if c_14 hq
                  refine lv_iconst (v := (1 : Int32)) hx hb dX4_isWithin_81 (by decide) ?_
                  refine lv_goto (tgt := 86) hx hb dX4_isWithin_82 (by decide) ?_
                  refine lv_istore_n (lv' := [(3, .int (1 : Int32)), (0, .ref (q 0)), (2, .int x2), (4, .int x4)]) hx hb dX4_isWithin_86 rfl hl (by decide) rfl (fun ls hl => ?_)
                  refine lv_iinc (v := (x4 + (1 : Int32))) (lv' := [(4, .int (x4 + (1 : Int32))), (3, .int (1 : Int32)), (0, .ref (q 0)), (2, .int x2)]) hx hb dX4_isWithin_87 hl (k := 3) rfl rfl (by decide) rfl (fun ls hl => ?_)
                  refine lv_goto (tgt := 14) hx hb dX4_isWithin_90 (by decide) ?_
                  exact ih (1 : Int32) (x4 + (1 : Int32)) H locs ls (hwI _ (Option.some.inj hq).symm) hP hD hS (lv_sub hl [2, 3, 1, 0] rfl)
  have hq := hz
  dsimp only [pX4_isWithin] at hq
  have hl := lv_entry (([.ref (q 0), .int y1, .int y2] : List Value)) (n := 5) (Nat.le_of_ble_eq_true rfl)
  rw [lg_entry_eq]
  generalize (lg_sl (([.ref (q 0), .int y1, .int y2] : List Value)) ++ List.replicate (5 - (lg_sl (([.ref (q 0), .int y1, .int y2] : List Value))).length) Slot.unset).toArray = ls at hl ⊢
  have hl : lv_has ls 5 [(0, .ref (q 0)), (1, .int y1), (2, .int y2)] := hl
  obtain ⟨H, hHe⟩ : ∃ H : Heap, H = s.heap := ⟨_, rfl⟩
  obtain ⟨locs, hLe⟩ : ∃ L : List Loc, L = [] := ⟨_, rfl⟩
  have hP : va_P (dC, dI) vwCl (wM cI cJ q  nn0 ln0 sa0 sb0 wg0 kt0 fr0 pt0 wl0 tn0 up0 lo0) H := by rw [hHe]; exact hP
  have hS : va_S A s.heap H locs := by rw [hHe, hLe]; exact va_S.rf
  show W p l e (headSpec wsX4_isWithin ({ frames := 1, cells := 0, slots := 0, locals := 26 })).room s m ([.ref (q 0), .int y1, .int y2] : List Value).toArray below meth c s.heap [] 0 0 (MQ below (va_Qi (fun (r : Int32) (u : (Nat → Int32)) => pX4_isWithin nn0 ln0 sa0 sb0 wg0 wl0 tn0 y1 y2 = some (r, u) ∧ narrow .boolean (.int r) = .int r) (fun u t => fw_B (dC, dI) A (wM cI cJ q  nn0 ln0 sa0 sb0 wg0 kt0 fr0 pt0 wl0 u up0 lo0) t) A) ([.ref (q 0), .int y1, .int y2] : List Value).toArray s 0 0 A) (F0 m 0 ls [])
  rw [← hHe, ← hLe]
  refine lv_aload_n hx hb dX4_isWithin_0 rfl (lv_at hl 0 rfl) ?_
  refine lv_iload_n hx hb dX4_isWithin_1 rfl (lv_at hl 1 rfl) ?_
  refine lv_aload_n hx hb dX4_isWithin_2 rfl (lv_at hl 0 rfl) ?_
  refine va_get (D := (dC, dI)) (ci := 4) (v := .ref (q 8)) (C := RX4) (T := TX4) (N := 12) hx hb hts hinX4 hown hK hP 0 rfl rfl 9 (by decide) hf35 (fun _ h9 => h9) rfl dX4_isWithin_3 ?_
  have hPc := hP.sub (ws' := (wM cI cJ q  nn0 ln0 sa0 sb0 wg0 kt0 fr0 pt0 wl0 tn0 up0 lo0)) [0, 1, 2, 3, 4, 5, 6, 7, 8] rfl
  have hDc := hD.sub (ws' := (wM cI cJ q  nn0 ln0 sa0 sb0 wg0 kt0 fr0 pt0 wl0 tn0 up0 lo0)) [0, 1, 2, 3, 4, 5, 6, 7, 8] (by decide) rfl
  refine fw_cv (wr := []) (w2 := fun u => (wM cI cJ q  nn0 ln0 sa0 sb0 wg0 kt0 fr0 pt0 wl0 u up0 lo0)) [0, 1, 2, 3, 4, 5, 6, 7, 8] [] [0, 1, 2, 3, 4, 5, 6, 7, 8] (va_runV (b := (q 0)) (As := [.int y1, .ref (q 8)]) (rest := []) ⟨hx, hb, hml, hown, hts⟩ (kX4_findFar_T l dC dI cI cJ q H.size  nn0 ln0 sa0 sb0 wg0 kt0 fr0 pt0 wl0 tn0 up0 lo0 y1 (fw_be hq)) (cwV 2 hts gX4_isWithin_X4_findFar rfl rfl rfl (by decide +kernel) ⟨Nat.le_of_ble_eq_true rfl, Nat.le_of_ble_eq_true rfl⟩) ⟨fw_blind, va_recv hK hPc (ci := 4) (q0 := 0) rfl rfl, fun U hU hW => fw_pre hPc hK hDc hN hU hW⟩ rfl rfl hl.1 rfl (lv_room (Nat.le_of_ble_eq_true rfl)) dX4_isWithin_6 ⟨Nat.zero_le _, Nat.zero_le _⟩) hP hD hS hA rfl rfl (by decide) (by decide) (by decide) (fun _ => rfl) (fun u H locs hw hP hD hS => ?_)
  obtain ⟨tn_1, rfl⟩ : ∃ z, z = u := ⟨_, rfl⟩
  have hq := fw_bs hw hq
  try dsimp only at hq
  have hP : va_P (dC, dI) vwCl (wM cI cJ q  nn0 ln0 sa0 sb0 wg0 kt0 fr0 pt0 wl0 tn_1 up0 lo0) H := hP
  have hD : va_D A (wM cI cJ q  nn0 ln0 sa0 sb0 wg0 kt0 fr0 pt0 wl0 tn_1 up0 lo0) := hD
  refine lv_iconst (v := (1 : Int32)) hx hb dX4_isWithin_9 (by decide) ?_
  refine lv_istore_n (lv' := [(3, .int (1 : Int32)), (0, .ref (q 0)), (1, .int y1), (2, .int y2)]) hx hb dX4_isWithin_10 rfl hl (by decide) rfl (fun ls hl => ?_)
  refine lv_iconst (v := (0 : Int32)) hx hb dX4_isWithin_11 (by decide) ?_
  refine lv_istore (lv' := [(4, .int (0 : Int32)), (3, .int (1 : Int32)), (0, .ref (q 0)), (1, .int y1), (2, .int y2)]) hx hb dX4_isWithin_12 hl (by decide) rfl (fun ls hl => ?_)
  obtain ⟨e_17, hw, hq⟩ := fw_bb hq
  refine L14 y2 tn_1 e_17 (fun x3_15 x4_16 H locs ls he hP hD hS hl => ?_) fw_N (1 : Int32) (0 : Int32) H locs ls hw hP hD hS (lv_sub hl [2, 4, 1, 0] rfl)
  subst he
  try dsimp only at hq
  refine lv_iload_n hx hb dX4_isWithin_93 rfl (lv_at hl 2 rfl) ?_
  obtain ⟨hnar, hq⟩ := fw_cb_s hq
  exact W.zret (v := x3_15) (ty := .boolean) hx hb hr hnar (fun t ht hW => ⟨⟨x3_15, tn_1, rfl, ⟨hz.trans hq.symm, hnar⟩, by rw [ht]; exact hP, hD⟩, hS.F ht⟩) hS.2.2 dX4_isWithin_94
set_option maxHeartbeats 4000000 in
set_option maxRecDepth 100000 in
theorem kX4_fewestBy (l : Launch) (dC : Nat → ClassId) (dI : Nat → Nat → Nat) (cI cJ : ClassId) (q : Nat → Nat) (sz : Nat)  (nn0 : Int32) (ln0 : Int32) (sa0 : Nat → Int32) (sb0 : Nat → Int32) (wg0 : Nat → Int32) (kt0 : Nat → Int32) (fr0 : Nat → Int32) (pt0 : Nat → Int32) (wl0 : Nat → Int32) (tn0 : Nat → Int32) (up0 : Int64) (lo0 : Int64) (y1 : Int32) (hd : ∃ z, pX4_fewestBy nn0 ln0 sa0 sb0 wg0 wl0 tn0 y1 = some z) : Met l yX4_fewestBy wsX4_fewestBy ({ frames := 2, cells := 0, slots := 0, locals := 50 }) (fw_Pc (dC, dI) (fw_tys cI cJ) (wM cI cJ q  nn0 ln0 sa0 sb0 wg0 kt0 fr0 pt0 wl0 tn0 up0 lo0) ([.ref (q 0), .int y1] : List Value) sz) (va_Qi (fun (r : Int32) (u : (Nat → Int32) × (Nat → Int32)) => pX4_fewestBy nn0 ln0 sa0 sb0 wg0 wl0 tn0 y1 = some (r, u)) (fun u t => fw_B (dC, dI) (va_A (wM cI cJ q  nn0 ln0 sa0 sb0 wg0 kt0 fr0 pt0 wl0 tn0 up0 lo0) sz) (wM cI cJ q  nn0 ln0 sa0 sb0 wg0 kt0 fr0 pt0 u.1 u.2 up0 lo0) t) (va_A (wM cI cJ q  nn0 ln0 sa0 sb0 wg0 kt0 fr0 pt0 wl0 tn0 up0 lo0) sz)) 0 0 (va_A (wM cI cJ q  nn0 ln0 sa0 sb0 wg0 kt0 fr0 pt0 wl0 tn0 up0 lo0) sz) := by
  obtain ⟨z, hz⟩ := hd
  refine Met.ofW (cc := cX4_fewestBy) (maxL := 4) (ret := (some .int)) (by decide) rfl ?_
  intro p e s m args below meth c s₁ B hml hv
  obtain ⟨rfl, hsz, hP, hK, hD0, hN⟩ := hv
  have hx := B.exec
  have hb := B.bytes
  have hr := B.returns
  have hts := atoms_spec (ws := wsX4_fewestBy) B.pre
  have hown : s.vm.findClass RX4 = some m.cls := findClass_of_methodNamed B.named
  have hlocks := B.notSynchronized
  subst hsz
  have hD := hD0.self (sz := s.heap.size)
  generalize hAe : va_A (wM cI cJ q  nn0 ln0 sa0 sb0 wg0 kt0 fr0 pt0 wl0 tn0 up0 lo0) s.heap.size = A at hD ⊢
  have hA : ∀ q : Nat, s.heap.size ≤ q → A q := fun q h => by rw [← hAe]; exact Or.inr h
  have hinX4 : ∀ w ∈ u_ws RX4 TX4 12, w ∈ wsX4_fewestBy := by decide +kernel
  have hf32 := hts (.fieldLink RX4 32 "FewLinesModel" "whole" "[I") (by decide +kernel)
  have hf42 := hts (.fieldLink RX4 42 "FewLinesModel" "lines" "I") (by decide +kernel)
  have L27 : ∀ (x1 : Int32) (wl : Nat → Int32) (e9 : Int32 × Int32 × (Nat → Int32)), (∀ (x2' : Int32) (x3' : Int32) (tn' : Nat → Int32) (H : Heap) (locs : List Loc) (ls : Array Slot), e9 = (x2', x3', tn') → va_P (dC, dI) vwCl (wM cI cJ q  nn0 ln0 sa0 sb0 wg0 kt0 fr0 pt0 wl tn' up0 lo0) H → va_D A (wM cI cJ q  nn0 ln0 sa0 sb0 wg0 kt0 fr0 pt0 wl tn' up0 lo0) → va_S A s.heap H locs → lv_has ls 4 [(0, .ref (q 0)), (1, .int x1), (2, .int x2'), (3, .int x3')] → W p l e (headSpec wsX4_fewestBy ({ frames := 2, cells := 0, slots := 0, locals := 50 })).room s m ([.ref (q 0), .int y1] : List Value).toArray below meth c H locs 0 0 (MQ below (va_Qi (fun (r : Int32) (u : (Nat → Int32) × (Nat → Int32)) => pX4_fewestBy nn0 ln0 sa0 sb0 wg0 wl0 tn0 y1 = some (r, u)) (fun u t => fw_B (dC, dI) A (wM cI cJ q  nn0 ln0 sa0 sb0 wg0 kt0 fr0 pt0 u.1 u.2 up0 lo0) t) A) ([.ref (q 0), .int y1] : List Value).toArray s 0 0 A) (F0 m 65 ls [])) → ∀ (n9 : Nat) (x2 : Int32) (x3 : Int32) (tn : Nat → Int32) (H : Heap) (locs : List Loc) (ls : Array Slot), fw_wh (pX4_fewestBy_27 x1 nn0 ln0 sa0 sb0 wg0 wl) n9 (x2, x3, tn) = some e9 → va_P (dC, dI) vwCl (wM cI cJ q  nn0 ln0 sa0 sb0 wg0 kt0 fr0 pt0 wl tn up0 lo0) H → va_D A (wM cI cJ q  nn0 ln0 sa0 sb0 wg0 kt0 fr0 pt0 wl tn up0 lo0) → va_S A s.heap H locs → lv_has ls 4 [(0, .ref (q 0)), (1, .int x1), (2, .int x2), (3, .int x3)] → W p l e (headSpec wsX4_fewestBy ({ frames := 2, cells := 0, slots := 0, locals := 50 })).room s m ([.ref (q 0), .int y1] : List Value).toArray below meth c H locs 0 0 (MQ below (va_Qi (fun (r : Int32) (u : (Nat → Int32) × (Nat → Int32)) => pX4_fewestBy nn0 ln0 sa0 sb0 wg0 wl0 tn0 y1 = some (r, u)) (fun u t => fw_B (dC, dI) A (wM cI cJ q  nn0 ln0 sa0 sb0 wg0 kt0 fr0 pt0 u.1 u.2 up0 lo0) t) A) ([.ref (q 0), .int y1] : List Value).toArray s 0 0 A) (F0 m 27 ls []) := by
    intro x1 wl e9 hkk n9
    induction n9 with
    | zero => exact fun _ _ _ H locs ls hq => (fw_wh0 hq).elim
    | succ n9 ih =>
      intro x2 x3 tn H locs ls hq hP hD hS hl
      obtain ⟨w9, hq, hwI, hwE⟩ := fw_wh1 hq
      dsimp only [pX4_fewestBy_27] at hq
      refine lv_iload_n hx hb dX4_fewestBy_27 rfl (lv_at hl 3 rfl) ?_
      refine lv_iconst (v := (1 : Int32)) hx hb dX4_fewestBy_28 (by decide) ?_
      refine lv_aload_n hx hb dX4_fewestBy_29 rfl (lv_at hl 0 rfl) ?_
      refine va_get (D := (dC, dI)) (ci := 4) (v := .int ln0) (C := RX4) (T := TX4) (N := 12) hx hb hts hinX4 hown hK hP 0 rfl rfl 1 (by decide) hf42 (fun _ h9 => h9) rfl dX4_fewestBy_30 ?_
      refine lv_ishl hx hb dX4_fewestBy_33 ?_
      refine lv_icmp_ge (tgt := 65) hx hb dX4_fewestBy_34 (by decide) (fun c_4 => ?_) (fun c_4 => ?_)
      · have hq := fw_it c_4 hq
        exact hkk x2 x3 tn H locs ls (hwE _ (Option.some.inj hq).symm) hP hD hS (lv_sub hl [0, 1, 2, 3] rfl)
      · have hq := fw_if c_4 hq
        refine lv_iload_n hx hb dX4_fewestBy_37 rfl (lv_at hl 3 rfl) ?_
        have hPc := hP.sub (ws' := (w0 cI cJ   )) [] rfl
        have hDc := hD.sub (ws' := (w0 cI cJ   )) [] (by decide) rfl
        refine fw_ci (wr := [((q 0), .inr (4, [.int nn0, .int ln0, .ref (q 1), .ref (q 2), .ref (q 3), .ref (q 4), .ref (q 5), .ref (q 6), .ref (q 7), .ref (q 8), .long up0, .long lo0])), ((q 1), .inl (cI, 12, .inl sa0)), ((q 2), .inl (cI, 12, .inl sb0)), ((q 3), .inl (cI, 12, .inl wg0)), ((q 4), .inl (cI, 12, .inl kt0)), ((q 5), .inl (cI, 12, .inl fr0)), ((q 6), .inl (cI, 7, .inl pt0)), ((q 7), .inl (cI, 49, .inl wl)), ((q 8), .inl (cI, 49, .inl tn))]) (w2 := fun u => (wM cI cJ q  nn0 ln0 sa0 sb0 wg0 kt0 fr0 pt0 wl tn up0 lo0)) [] [0, 1, 2, 3, 4, 5, 6, 7, 8] [0, 1, 2, 3, 4, 5, 6, 7, 8] (va_runS (As := [.int x3]) (rest := []) ⟨hx, hb, hml, hown, hts⟩ (kX4_many l dC dI cI cJ  H.size   x3 (fw_be hq)) (va_cwS 1 hts gX4_fewestBy_X4_many rfl rfl rfl (by decide +kernel) ⟨Nat.le_of_ble_eq_true rfl, Nat.le_of_ble_eq_true rfl⟩) ⟨fw_blind, fun U hU hW => fw_pre hPc hK hDc hN hU hW⟩ rfl rfl hl.1 rfl (lv_room (Nat.le_of_ble_eq_true rfl)) dX4_fewestBy_38 ⟨Nat.zero_le _, Nat.zero_le _⟩) hP hD hS hA rfl rfl (by decide) (by decide) (by decide) (fun _ => rfl) (fun r_5 u H locs hw hP hD hS => ?_)
        have hq := fw_bs hw hq
        try dsimp only at hq
        refine lv_iload_n hx hb dX4_fewestBy_41 rfl (lv_at hl 2 rfl) ?_
        have hPc := hP.sub (ws' := (w0 cI cJ   )) [] rfl
        have hDc := hD.sub (ws' := (w0 cI cJ   )) [] (by decide) rfl
        refine fw_ci (wr := [((q 0), .inr (4, [.int nn0, .int ln0, .ref (q 1), .ref (q 2), .ref (q 3), .ref (q 4), .ref (q 5), .ref (q 6), .ref (q 7), .ref (q 8), .long up0, .long lo0])), ((q 1), .inl (cI, 12, .inl sa0)), ((q 2), .inl (cI, 12, .inl sb0)), ((q 3), .inl (cI, 12, .inl wg0)), ((q 4), .inl (cI, 12, .inl kt0)), ((q 5), .inl (cI, 12, .inl fr0)), ((q 6), .inl (cI, 7, .inl pt0)), ((q 7), .inl (cI, 49, .inl wl)), ((q 8), .inl (cI, 49, .inl tn))]) (w2 := fun u => (wM cI cJ q  nn0 ln0 sa0 sb0 wg0 kt0 fr0 pt0 wl tn up0 lo0)) [] [0, 1, 2, 3, 4, 5, 6, 7, 8] [0, 1, 2, 3, 4, 5, 6, 7, 8] (va_runS (As := [.int x2]) (rest := [.int r_5]) ⟨hx, hb, hml, hown, hts⟩ (kX4_many l dC dI cI cJ  H.size   x2 (fw_be hq)) (va_cwS 1 hts gX4_fewestBy_X4_many rfl rfl rfl (by decide +kernel) ⟨Nat.le_of_ble_eq_true rfl, Nat.le_of_ble_eq_true rfl⟩) ⟨fw_blind, fun U hU hW => fw_pre hPc hK hDc hN hU hW⟩ rfl rfl hl.1 rfl (lv_room (Nat.le_of_ble_eq_true rfl)) dX4_fewestBy_42 ⟨Nat.zero_le _, Nat.zero_le _⟩) hP hD hS hA rfl rfl (by decide) (by decide) (by decide) (fun _ => rfl) (fun r_7 u H locs hw hP hD hS => ?_)
        have hq := fw_bs hw hq
        try dsimp only at hq
        refine lv_icmp_ge (tgt := 59) hx hb dX4_fewestBy_45 (by decide) (fun c_9 => ?_) (fun c_9 => ?_)
        · have hq := fw_it c_9 hq
          refine lv_iinc (v := (x3 + (1 : Int32))) (lv' := [(3, .int (x3 + (1 : Int32))), (0, .ref (q 0)), (1, .int x1), (2, .int x2)]) hx hb dX4_fewestBy_59 hl (k := 3) rfl rfl (by decide) rfl (fun ls hl => ?_)
          refine lv_goto (tgt := 27) hx hb dX4_fewestBy_62 (by decide) ?_
          exact ih x2 (x3 + (1 : Int32)) tn H locs ls (hwI _ (Option.some.inj hq).symm) hP hD hS (lv_sub hl [1, 2, 3, 0] rfl)
        · have hq := fw_if c_9 hq
          refine lv_aload_n hx hb dX4_fewestBy_48 rfl (lv_at hl 0 rfl) ?_
          refine lv_iload_n hx hb dX4_fewestBy_49 rfl (lv_at hl 3 rfl) ?_
          refine lv_iload_n hx hb dX4_fewestBy_50 rfl (lv_at hl 1 rfl) ?_
          have hPc := hP.sub (ws' := (wM cI cJ q  nn0 ln0 sa0 sb0 wg0 kt0 fr0 pt0 wl tn up0 lo0)) [0, 1, 2, 3, 4, 5, 6, 7, 8] rfl
          have hDc := hD.sub (ws' := (wM cI cJ q  nn0 ln0 sa0 sb0 wg0 kt0 fr0 pt0 wl tn up0 lo0)) [0, 1, 2, 3, 4, 5, 6, 7, 8] (by decide) rfl
          refine fw_ci (wr := []) (w2 := fun u => (wM cI cJ q  nn0 ln0 sa0 sb0 wg0 kt0 fr0 pt0 wl u up0 lo0)) [0, 1, 2, 3, 4, 5, 6, 7, 8] [] [0, 1, 2, 3, 4, 5, 6, 7, 8] (va_runV (b := (q 0)) (As := [.int x3, .int x1]) (rest := []) ⟨hx, hb, hml, hown, hts⟩ (kX4_isWithin l dC dI cI cJ q H.size  nn0 ln0 sa0 sb0 wg0 kt0 fr0 pt0 wl tn up0 lo0 x3 x1 (fw_be hq)) (cwV 2 hts gX4_fewestBy_X4_isWithin rfl rfl rfl (by decide +kernel) ⟨Nat.le_of_ble_eq_true rfl, Nat.le_of_ble_eq_true rfl⟩) ⟨fw_blind, va_recv hK hPc (ci := 4) (q0 := 0) rfl rfl, fun U hU hW => fw_pre hPc hK hDc hN hU hW⟩ rfl rfl hl.1 rfl (lv_room (Nat.le_of_ble_eq_true rfl)) dX4_fewestBy_51 ⟨Nat.zero_le _, Nat.zero_le _⟩) hP hD hS hA rfl rfl (by decide) (by decide) (by decide) (fun _ => rfl) (fun r_11 u H locs hw hP hD hS => ?_)
          obtain ⟨tn_10, rfl⟩ : ∃ z, z = u := ⟨_, rfl⟩
          obtain ⟨hw, n_13⟩ := hw
          have hq := fw_bs hw hq
          try dsimp only at hq
          have hP : va_P (dC, dI) vwCl (wM cI cJ q  nn0 ln0 sa0 sb0 wg0 kt0 fr0 pt0 wl tn_10 up0 lo0) H := hP
          have hD : va_D A (wM cI cJ q  nn0 ln0 sa0 sb0 wg0 kt0 fr0 pt0 wl tn_10 up0 lo0) := hD
          refine lv_if_eq (tgt := 59) hx hb dX4_fewestBy_54 (by decide) (fun c_14 => ?_) (fun c_14 => ?_)
          · have hq := fw_it c_14 hq
            refine lv_iinc (v := (x3 + (1 : Int32))) (lv' := [(3, .int (x3 + (1 : Int32))), (0, .ref (q 0)), (1, .int x1), (2, .int x2)]) hx hb dX4_fewestBy_59 hl (k := 3) rfl rfl (by decide) rfl (fun ls hl => ?_)
            refine lv_goto (tgt := 27) hx hb dX4_fewestBy_62 (by decide) ?_
            exact ih x2 (x3 + (1 : Int32)) tn_10 H locs ls (hwI _ (Option.some.inj hq).symm) hP hD hS (lv_sub hl [1, 2, 3, 0] rfl)
          · have hq := fw_if c_14 hq
            refine lv_iload_n hx hb dX4_fewestBy_57 rfl (lv_at hl 3 rfl) ?_
            refine lv_istore_n (lv' := [(2, .int x3), (0, .ref (q 0)), (1, .int x1), (3, .int x3)]) hx hb dX4_fewestBy_58 rfl hl (by decide) rfl (fun ls hl => ?_)
            refine lv_iinc (v := (x3 + (1 : Int32))) (lv' := [(3, .int (x3 + (1 : Int32))), (2, .int x3), (0, .ref (q 0)), (1, .int x1)]) hx hb dX4_fewestBy_59 hl (k := 3) rfl rfl (by decide) rfl (fun ls hl => ?_)
            refine lv_goto (tgt := 27) hx hb dX4_fewestBy_62 (by decide) ?_
            exact ih x3 (x3 + (1 : Int32)) tn_10 H locs ls (hwI _ (Option.some.inj hq).symm) hP hD hS (lv_sub hl [2, 3, 1, 0] rfl)
  have L67 : ∀ (x1 : Int32) (x2 : Int32) (wl : Nat → Int32) (e9 : (Int32 × (Nat → Int32)) ⊕ (Int32 × (Nat → Int32) × (Nat → Int32))), (∀ (x3' : Int32) (tn' : Nat → Int32) (H : Heap) (locs : List Loc) (ls : Array Slot), e9 = .inl (x3', tn') → va_P (dC, dI) vwCl (wM cI cJ q  nn0 ln0 sa0 sb0 wg0 kt0 fr0 pt0 wl tn' up0 lo0) H → va_D A (wM cI cJ q  nn0 ln0 sa0 sb0 wg0 kt0 fr0 pt0 wl tn' up0 lo0) → va_S A s.heap H locs → lv_has ls 4 [(0, .ref (q 0)), (1, .int x1), (2, .int x2), (3, .int x3')] → W p l e (headSpec wsX4_fewestBy ({ frames := 2, cells := 0, slots := 0, locals := 50 })).room s m ([.ref (q 0), .int y1] : List Value).toArray below meth c H locs 0 0 (MQ below (va_Qi (fun (r : Int32) (u : (Nat → Int32) × (Nat → Int32)) => pX4_fewestBy nn0 ln0 sa0 sb0 wg0 wl0 tn0 y1 = some (r, u)) (fun u t => fw_B (dC, dI) A (wM cI cJ q  nn0 ln0 sa0 sb0 wg0 kt0 fr0 pt0 u.1 u.2 up0 lo0) t) A) ([.ref (q 0), .int y1] : List Value).toArray s 0 0 A) (F0 m 100 ls [])) → (∀ r9, e9 = .inr r9 → some r9 = some z) → ∀ (n9 : Nat) (x3 : Int32) (tn : Nat → Int32) (H : Heap) (locs : List Loc) (ls : Array Slot), fw_wh (pX4_fewestBy_67 x1 x2 nn0 ln0 sa0 sb0 wg0 wl) n9 (x3, tn) = some e9 → va_P (dC, dI) vwCl (wM cI cJ q  nn0 ln0 sa0 sb0 wg0 kt0 fr0 pt0 wl tn up0 lo0) H → va_D A (wM cI cJ q  nn0 ln0 sa0 sb0 wg0 kt0 fr0 pt0 wl tn up0 lo0) → va_S A s.heap H locs → lv_has ls 4 [(0, .ref (q 0)), (1, .int x1), (2, .int x2), (3, .int x3)] → W p l e (headSpec wsX4_fewestBy ({ frames := 2, cells := 0, slots := 0, locals := 50 })).room s m ([.ref (q 0), .int y1] : List Value).toArray below meth c H locs 0 0 (MQ below (va_Qi (fun (r : Int32) (u : (Nat → Int32) × (Nat → Int32)) => pX4_fewestBy nn0 ln0 sa0 sb0 wg0 wl0 tn0 y1 = some (r, u)) (fun u t => fw_B (dC, dI) A (wM cI cJ q  nn0 ln0 sa0 sb0 wg0 kt0 fr0 pt0 u.1 u.2 up0 lo0) t) A) ([.ref (q 0), .int y1] : List Value).toArray s 0 0 A) (F0 m 67 ls []) := by
    intro x1 x2 wl e9 hkk hr0 n9
    induction n9 with
    | zero => exact fun _ _ H locs ls hq => (fw_wh0 hq).elim
    | succ n9 ih =>
      intro x3 tn H locs ls hq hP hD hS hl
      obtain ⟨w9, hq, hwI, hwE⟩ := fw_wh1 hq
      dsimp only [pX4_fewestBy_67] at hq
      refine lv_iload_n hx hb dX4_fewestBy_67 rfl (lv_at hl 3 rfl) ?_
      refine lv_iload_n hx hb dX4_fewestBy_68 rfl (lv_at hl 2 rfl) ?_
      refine lv_icmp_ge (tgt := 100) hx hb dX4_fewestBy_69 (by decide) (fun c_19 => ?_) (fun c_19 => ?_)
      · have hq := fw_it c_19 hq
        exact hkk x3 tn H locs ls (hwE _ (Option.some.inj hq).symm) hP hD hS (lv_sub hl [0, 1, 2, 3] rfl)
      · have hq := fw_if c_19 hq
        refine lv_iload_n hx hb dX4_fewestBy_72 rfl (lv_at hl 3 rfl) ?_
        have hPc := hP.sub (ws' := (w0 cI cJ   )) [] rfl
        have hDc := hD.sub (ws' := (w0 cI cJ   )) [] (by decide) rfl
        refine fw_ci (wr := [((q 0), .inr (4, [.int nn0, .int ln0, .ref (q 1), .ref (q 2), .ref (q 3), .ref (q 4), .ref (q 5), .ref (q 6), .ref (q 7), .ref (q 8), .long up0, .long lo0])), ((q 1), .inl (cI, 12, .inl sa0)), ((q 2), .inl (cI, 12, .inl sb0)), ((q 3), .inl (cI, 12, .inl wg0)), ((q 4), .inl (cI, 12, .inl kt0)), ((q 5), .inl (cI, 12, .inl fr0)), ((q 6), .inl (cI, 7, .inl pt0)), ((q 7), .inl (cI, 49, .inl wl)), ((q 8), .inl (cI, 49, .inl tn))]) (w2 := fun u => (wM cI cJ q  nn0 ln0 sa0 sb0 wg0 kt0 fr0 pt0 wl tn up0 lo0)) [] [0, 1, 2, 3, 4, 5, 6, 7, 8] [0, 1, 2, 3, 4, 5, 6, 7, 8] (va_runS (As := [.int x3]) (rest := []) ⟨hx, hb, hml, hown, hts⟩ (kX4_many l dC dI cI cJ  H.size   x3 (fw_be hq)) (va_cwS 1 hts gX4_fewestBy_X4_many rfl rfl rfl (by decide +kernel) ⟨Nat.le_of_ble_eq_true rfl, Nat.le_of_ble_eq_true rfl⟩) ⟨fw_blind, fun U hU hW => fw_pre hPc hK hDc hN hU hW⟩ rfl rfl hl.1 rfl (lv_room (Nat.le_of_ble_eq_true rfl)) dX4_fewestBy_73 ⟨Nat.zero_le _, Nat.zero_le _⟩) hP hD hS hA rfl rfl (by decide) (by decide) (by decide) (fun _ => rfl) (fun r_20 u H locs hw hP hD hS => ?_)
        have hq := fw_bs hw hq
        try dsimp only at hq
        refine lv_iload_n hx hb dX4_fewestBy_76 rfl (lv_at hl 2 rfl) ?_
        have hPc := hP.sub (ws' := (w0 cI cJ   )) [] rfl
        have hDc := hD.sub (ws' := (w0 cI cJ   )) [] (by decide) rfl
        refine fw_ci (wr := [((q 0), .inr (4, [.int nn0, .int ln0, .ref (q 1), .ref (q 2), .ref (q 3), .ref (q 4), .ref (q 5), .ref (q 6), .ref (q 7), .ref (q 8), .long up0, .long lo0])), ((q 1), .inl (cI, 12, .inl sa0)), ((q 2), .inl (cI, 12, .inl sb0)), ((q 3), .inl (cI, 12, .inl wg0)), ((q 4), .inl (cI, 12, .inl kt0)), ((q 5), .inl (cI, 12, .inl fr0)), ((q 6), .inl (cI, 7, .inl pt0)), ((q 7), .inl (cI, 49, .inl wl)), ((q 8), .inl (cI, 49, .inl tn))]) (w2 := fun u => (wM cI cJ q  nn0 ln0 sa0 sb0 wg0 kt0 fr0 pt0 wl tn up0 lo0)) [] [0, 1, 2, 3, 4, 5, 6, 7, 8] [0, 1, 2, 3, 4, 5, 6, 7, 8] (va_runS (As := [.int x2]) (rest := [.int r_20]) ⟨hx, hb, hml, hown, hts⟩ (kX4_many l dC dI cI cJ  H.size   x2 (fw_be hq)) (va_cwS 1 hts gX4_fewestBy_X4_many rfl rfl rfl (by decide +kernel) ⟨Nat.le_of_ble_eq_true rfl, Nat.le_of_ble_eq_true rfl⟩) ⟨fw_blind, fun U hU hW => fw_pre hPc hK hDc hN hU hW⟩ rfl rfl hl.1 rfl (lv_room (Nat.le_of_ble_eq_true rfl)) dX4_fewestBy_77 ⟨Nat.zero_le _, Nat.zero_le _⟩) hP hD hS hA rfl rfl (by decide) (by decide) (by decide) (fun _ => rfl) (fun r_22 u H locs hw hP hD hS => ?_)
        have hq := fw_bs hw hq
        try dsimp only at hq
        refine lv_icmp_ne (tgt := 94) hx hb dX4_fewestBy_80 (by decide) (fun c_24 => ?_) (fun c_24 => ?_)
        · have hq := fw_if c_24 hq
          refine lv_iinc (v := (x3 + (1 : Int32))) (lv' := [(3, .int (x3 + (1 : Int32))), (0, .ref (q 0)), (1, .int x1), (2, .int x2)]) hx hb dX4_fewestBy_94 hl (k := 3) rfl rfl (by decide) rfl (fun ls hl => ?_)
          refine lv_goto (tgt := 67) hx hb dX4_fewestBy_97 (by decide) ?_
          exact ih (x3 + (1 : Int32)) tn H locs ls (hwI _ (Option.some.inj hq).symm) hP hD hS (lv_sub hl [1, 2, 3, 0] rfl)
        · have hq := fw_it c_24 hq
          refine lv_aload_n hx hb dX4_fewestBy_83 rfl (lv_at hl 0 rfl) ?_
          refine lv_iload_n hx hb dX4_fewestBy_84 rfl (lv_at hl 3 rfl) ?_
          refine lv_iload_n hx hb dX4_fewestBy_85 rfl (lv_at hl 1 rfl) ?_
          have hPc := hP.sub (ws' := (wM cI cJ q  nn0 ln0 sa0 sb0 wg0 kt0 fr0 pt0 wl tn up0 lo0)) [0, 1, 2, 3, 4, 5, 6, 7, 8] rfl
          have hDc := hD.sub (ws' := (wM cI cJ q  nn0 ln0 sa0 sb0 wg0 kt0 fr0 pt0 wl tn up0 lo0)) [0, 1, 2, 3, 4, 5, 6, 7, 8] (by decide) rfl
          refine fw_ci (wr := []) (w2 := fun u => (wM cI cJ q  nn0 ln0 sa0 sb0 wg0 kt0 fr0 pt0 wl u up0 lo0)) [0, 1, 2, 3, 4, 5, 6, 7, 8] [] [0, 1, 2, 3, 4, 5, 6, 7, 8] (va_runV (b := (q 0)) (As := [.int x3, .int x1]) (rest := []) ⟨hx, hb, hml, hown, hts⟩ (kX4_isWithin l dC dI cI cJ q H.size  nn0 ln0 sa0 sb0 wg0 kt0 fr0 pt0 wl tn up0 lo0 x3 x1 (fw_be hq)) (cwV 2 hts gX4_fewestBy_X4_isWithin rfl rfl rfl (by decide +kernel) ⟨Nat.le_of_ble_eq_true rfl, Nat.le_of_ble_eq_true rfl⟩) ⟨fw_blind, va_recv hK hPc (ci := 4) (q0 := 0) rfl rfl, fun U hU hW => fw_pre hPc hK hDc hN hU hW⟩ rfl rfl hl.1 rfl (lv_room (Nat.le_of_ble_eq_true rfl)) dX4_fewestBy_86 ⟨Nat.zero_le _, Nat.zero_le _⟩) hP hD hS hA rfl rfl (by decide) (by decide) (by decide) (fun _ => rfl) (fun r_26 u H locs hw hP hD hS => ?_)
          obtain ⟨tn_25, rfl⟩ : ∃ z, z = u := ⟨_, rfl⟩
          obtain ⟨hw, n_28⟩ := hw
          have hq := fw_bs hw hq
          try dsimp only at hq
          have hP : va_P (dC, dI) vwCl (wM cI cJ q  nn0 ln0 sa0 sb0 wg0 kt0 fr0 pt0 wl tn_25 up0 lo0) H := hP
          have hD : va_D A (wM cI cJ q  nn0 ln0 sa0 sb0 wg0 kt0 fr0 pt0 wl tn_25 up0 lo0) := hD
          refine lv_if_eq (tgt := 94) hx hb dX4_fewestBy_89 (by decide) (fun c_29 => ?_) (fun c_29 => ?_)
          · have hq := fw_it c_29 hq
            refine lv_iinc (v := (x3 + (1 : Int32))) (lv' := [(3, .int (x3 + (1 : Int32))), (0, .ref (q 0)), (1, .int x1), (2, .int x2)]) hx hb dX4_fewestBy_94 hl (k := 3) rfl rfl (by decide) rfl (fun ls hl => ?_)
            refine lv_goto (tgt := 67) hx hb dX4_fewestBy_97 (by decide) ?_
            exact ih (x3 + (1 : Int32)) tn_25 H locs ls (hwI _ (Option.some.inj hq).symm) hP hD hS (lv_sub hl [1, 2, 3, 0] rfl)
          · have hq := fw_if c_29 hq
            refine lv_iload_n hx hb dX4_fewestBy_92 rfl (lv_at hl 3 rfl) ?_
            exact W.iret (v := x3) hx hb hr (fun t ht hW => ⟨⟨x3, (wl, tn_25), rfl, hz.trans (hr0 _ (hwE _ (Option.some.inj hq).symm)).symm, by rw [ht]; exact hP, hD⟩, hS.F ht⟩) hS.2.2 dX4_fewestBy_93
  have hq := hz
  dsimp only [pX4_fewestBy] at hq
  have hl := lv_entry (([.ref (q 0), .int y1] : List Value)) (n := 4) (Nat.le_of_ble_eq_true rfl)
  rw [lg_entry_eq]
  generalize (lg_sl (([.ref (q 0), .int y1] : List Value)) ++ List.replicate (4 - (lg_sl (([.ref (q 0), .int y1] : List Value))).length) Slot.unset).toArray = ls at hl ⊢
  have hl : lv_has ls 4 [(0, .ref (q 0)), (1, .int y1)] := hl
  obtain ⟨H, hHe⟩ : ∃ H : Heap, H = s.heap := ⟨_, rfl⟩
  obtain ⟨locs, hLe⟩ : ∃ L : List Loc, L = [] := ⟨_, rfl⟩
  have hP : va_P (dC, dI) vwCl (wM cI cJ q  nn0 ln0 sa0 sb0 wg0 kt0 fr0 pt0 wl0 tn0 up0 lo0) H := by rw [hHe]; exact hP
  have hS : va_S A s.heap H locs := by rw [hHe, hLe]; exact va_S.rf
  show W p l e (headSpec wsX4_fewestBy ({ frames := 2, cells := 0, slots := 0, locals := 50 })).room s m ([.ref (q 0), .int y1] : List Value).toArray below meth c s.heap [] 0 0 (MQ below (va_Qi (fun (r : Int32) (u : (Nat → Int32) × (Nat → Int32)) => pX4_fewestBy nn0 ln0 sa0 sb0 wg0 wl0 tn0 y1 = some (r, u)) (fun u t => fw_B (dC, dI) A (wM cI cJ q  nn0 ln0 sa0 sb0 wg0 kt0 fr0 pt0 u.1 u.2 up0 lo0) t) A) ([.ref (q 0), .int y1] : List Value).toArray s 0 0 A) (F0 m 0 ls [])
  rw [← hHe, ← hLe]
  refine lv_aload_n hx hb dX4_fewestBy_0 rfl (lv_at hl 0 rfl) ?_
  refine lv_iconst (v := (1 : Int32)) hx hb dX4_fewestBy_1 (by decide) ?_
  refine lv_aload_n hx hb dX4_fewestBy_2 rfl (lv_at hl 0 rfl) ?_
  refine va_get (D := (dC, dI)) (ci := 4) (v := .int ln0) (C := RX4) (T := TX4) (N := 12) hx hb hts hinX4 hown hK hP 0 rfl rfl 1 (by decide) hf42 (fun _ h9 => h9) rfl dX4_fewestBy_3 ?_
  refine lv_ishl hx hb dX4_fewestBy_6 ?_
  refine lv_iconst (v := (1 : Int32)) hx hb dX4_fewestBy_7 (by decide) ?_
  refine lv_isub hx hb dX4_fewestBy_8 ?_
  refine lv_aload_n hx hb dX4_fewestBy_9 rfl (lv_at hl 0 rfl) ?_
  refine va_get (D := (dC, dI)) (ci := 4) (v := .ref (q 7)) (C := RX4) (T := TX4) (N := 12) hx hb hts hinX4 hown hK hP 0 rfl rfl 8 (by decide) hf32 (fun _ h9 => h9) rfl dX4_fewestBy_10 ?_
  have hPc := hP.sub (ws' := (wM cI cJ q  nn0 ln0 sa0 sb0 wg0 kt0 fr0 pt0 wl0 tn0 up0 lo0)) [0, 1, 2, 3, 4, 5, 6, 7, 8] rfl
  have hDc := hD.sub (ws' := (wM cI cJ q  nn0 ln0 sa0 sb0 wg0 kt0 fr0 pt0 wl0 tn0 up0 lo0)) [0, 1, 2, 3, 4, 5, 6, 7, 8] (by decide) rfl
  refine fw_cv (wr := []) (w2 := fun u => (wM cI cJ q  nn0 ln0 sa0 sb0 wg0 kt0 fr0 pt0 u tn0 up0 lo0)) [0, 1, 2, 3, 4, 5, 6, 7, 8] [] [0, 1, 2, 3, 4, 5, 6, 7, 8] (va_runV (b := (q 0)) (As := [.int (((1 : Int32) <<< (ln0 &&& 31)) - (1 : Int32)), .ref (q 7)]) (rest := []) ⟨hx, hb, hml, hown, hts⟩ (kX4_findFar_W l dC dI cI cJ q H.size  nn0 ln0 sa0 sb0 wg0 kt0 fr0 pt0 wl0 tn0 up0 lo0 (((1 : Int32) <<< (ln0 &&& 31)) - (1 : Int32)) (fw_be hq)) (cwV 2 hts gX4_fewestBy_X4_findFar rfl rfl rfl (by decide +kernel) ⟨Nat.le_of_ble_eq_true rfl, Nat.le_of_ble_eq_true rfl⟩) ⟨fw_blind, va_recv hK hPc (ci := 4) (q0 := 0) rfl rfl, fun U hU hW => fw_pre hPc hK hDc hN hU hW⟩ rfl rfl hl.1 rfl (lv_room (Nat.le_of_ble_eq_true rfl)) dX4_fewestBy_13 ⟨Nat.zero_le _, Nat.zero_le _⟩) hP hD hS hA rfl rfl (by decide) (by decide) (by decide) (fun _ => rfl) (fun u H locs hw hP hD hS => ?_)
  obtain ⟨wl_1, rfl⟩ : ∃ z, z = u := ⟨_, rfl⟩
  have hq := fw_bs hw hq
  try dsimp only at hq
  have hP : va_P (dC, dI) vwCl (wM cI cJ q  nn0 ln0 sa0 sb0 wg0 kt0 fr0 pt0 wl_1 tn0 up0 lo0) H := hP
  have hD : va_D A (wM cI cJ q  nn0 ln0 sa0 sb0 wg0 kt0 fr0 pt0 wl_1 tn0 up0 lo0) := hD
  refine lv_iconst (v := (1 : Int32)) hx hb dX4_fewestBy_16 (by decide) ?_
  refine lv_aload_n hx hb dX4_fewestBy_17 rfl (lv_at hl 0 rfl) ?_
  refine va_get (D := (dC, dI)) (ci := 4) (v := .int ln0) (C := RX4) (T := TX4) (N := 12) hx hb hts hinX4 hown hK hP 0 rfl rfl 1 (by decide) hf42 (fun _ h9 => h9) rfl dX4_fewestBy_18 ?_
  refine lv_ishl hx hb dX4_fewestBy_21 ?_
  refine lv_iconst (v := (1 : Int32)) hx hb dX4_fewestBy_22 (by decide) ?_
  refine lv_isub hx hb dX4_fewestBy_23 ?_
  refine lv_istore_n (lv' := [(2, .int (((1 : Int32) <<< (ln0 &&& 31)) - (1 : Int32))), (0, .ref (q 0)), (1, .int y1)]) hx hb dX4_fewestBy_24 rfl hl (by decide) rfl (fun ls hl => ?_)
  refine lv_iconst (v := (0 : Int32)) hx hb dX4_fewestBy_25 (by decide) ?_
  refine lv_istore_n (lv' := [(3, .int (0 : Int32)), (2, .int (((1 : Int32) <<< (ln0 &&& 31)) - (1 : Int32))), (0, .ref (q 0)), (1, .int y1)]) hx hb dX4_fewestBy_26 rfl hl (by decide) rfl (fun ls hl => ?_)
  obtain ⟨e_18, hw, hq⟩ := fw_bb hq
  refine L27 y1 wl_1 e_18 (fun x2_15 x3_16 tn_17 H locs ls he hP hD hS hl => ?_) fw_N (((1 : Int32) <<< (ln0 &&& 31)) - (1 : Int32)) (0 : Int32) tn0 H locs ls hw hP hD hS (lv_sub hl [2, 3, 1, 0] rfl)
  subst he
  try dsimp only at hq
  refine lv_iconst (v := (0 : Int32)) hx hb dX4_fewestBy_65 (by decide) ?_
  refine lv_istore_n (lv' := [(3, .int (0 : Int32)), (0, .ref (q 0)), (1, .int y1), (2, .int x2_15)]) hx hb dX4_fewestBy_66 rfl hl (by decide) rfl (fun ls hl => ?_)
  obtain ⟨e_32, hw, hq⟩ := fw_bb hq
  refine L67 y1 x2_15 wl_1 e_32 (fun x3_30 tn_31 H locs ls he hP hD hS hl => ?_) (fun r9 he => by subst he; dsimp only at hq; exact hq) fw_N (0 : Int32) tn_17 H locs ls hw hP hD hS (lv_sub hl [1, 2, 3, 0] rfl)
  subst he
  try dsimp only at hq
  refine lv_iload_n hx hb dX4_fewestBy_100 rfl (lv_at hl 2 rfl) ?_
  exact W.iret (v := x2_15) hx hb hr (fun t ht hW => ⟨⟨x2_15, (wl_1, tn_31), rfl, hz.trans hq.symm, by rw [ht]; exact hP, hD⟩, hS.F ht⟩) hS.2.2 dX4_fewestBy_101
