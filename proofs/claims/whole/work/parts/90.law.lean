/-! ===== the law, by own program ===== -/
/-! THE CLAIM OUT OF ONE WALK OF THE LAW'S BODY. Your part is whole_start (and what it stands on); all else here is the same for every law, but numbers. -/
def R_law : String := "FewLinesLaw"
def lw_P (b : Addr) (xs : List Int32) (args : Array Value) (s : State) : Prop := args = #[.ref b] ∧ s.IntsAt b xs ∧ xs.length ≤ 2560 ∧ (Jvm.Cond.and given_1 narrow_1).before args s = true
def lw_Q (_ : Array Value) (s : State) (o : Outcome) (t : State) : Prop := o = .returned (some (.int 1)) ∧ Framed s o t [] 600000 7302250
def lw_Z (below : List Frame) (a : Array Value) (s : State) : State → Prop := fun t => ∃ o, t.status = .running ∧ Ended t below o ∧ lw_Q a s o t
/-- the law's own end, with 1 on the stack, nothing written that was there before, its room as the claim has it -/
theorem lw_ret {p : Program} {l : Launch} {e : Env} {s : State} {m : MethodId} {below : List Frame} {meth : Method} {c : Code} {b : Nat} (hx : p.tables.exec = Jvm.exec) (hb : c.code = code) (hr : meth.sig.returnType = ret) (hlocks : meth.locks = false) {pc : Nat} {H : Heap} {ls : Array Slot} (hdg : decode code pc = .ok (.ireturn, 1)) : W p l e room_1 s m #[Value.ref b] below meth c H [] 600000 7302250 (lw_Z below #[Value.ref b] s) (F0 m pc ls [.int 1]) := by
  intro T hT X
  obtain ⟨fs, hret, hrun, hended, hW, hframe⟩ := X.leave (v := some (.int 1)) (hlocks := hlocks) (fun h => by rw [hr] at h; cases h)
  have hmeth' : T.vm.method? m = some meth := X.method'
  refine ⟨T.setFrames fs, ?_, .returned (some (.int 1)), hrun, hended, rfl, ⟨_, rfl⟩, hW, hframe⟩
  jvm_step X.here [X.here.top, hx, hb, hdg, hmeth', hr, ret, narrow_b1]
  (try refine ⟨rfl, ?_⟩); (try refine ⟨rfl, ?_⟩)
  first | (intro acts; rw [hret _ acts rfl rfl rfl]) | rw [hret _ _ rfl rfl rfl]
  exact Steps.refl _
/-- what holds at the law's entry: the machine, the code, the tables' words (any of lw_tbl by 'hts w (by decide +kernel)'), the script of L ints xs at the cell b, what the Statement gives of the start (any of its parts by flat_of_before) -/
def lw_At (p : Program) (s : State) (m : MethodId) (meth : Method) (c : Code) (b L : Nat) (xs : Nat → Int32) : Prop :=
  p.tables.exec = Jvm.exec ∧ c.code = code ∧ meth.sig.returnType = ret ∧ c.maxLocals = 4 ∧ s.vm.findClass R_law = some m.cls ∧ (∀ w ∈ lw_tbl, w.before #[Value.ref b] s = true) ∧ va_X b L xs s s.heap ∧ b < s.heap.size ∧ meth.locks = false ∧ (Jvm.Cond.and given_1 narrow_1).before #[Value.ref b] s = true
theorem fw_out18 {x : Int32} (h0 : ¬ x = 0) (h1 : ¬ x = 1) (h2 : ¬ x = 2) (h3 : ¬ x = 3) (h4 : ¬ x = 4) (h5 : ¬ x = 5) (h6 : ¬ x = 6) (h7 : ¬ x = 7) (h8 : ¬ x = 8) (h9 : ¬ x = 9) (h10 : ¬ x = 10) (h11 : ¬ x = 11) (h12 : ¬ x = 12) (h13 : ¬ x = 13) (h14 : ¬ x = 14) (h15 : ¬ x = 15) (h16 : ¬ x = 16) (h17 : ¬ x = 17) (h18 : ¬ x = 18) : x.toInt < 0 ∨ (18 : Int) < x.toInt := by
  have a0 : x.toInt ≠ 0 := fw_tn h0
  have a1 : x.toInt ≠ 1 := fw_tn h1
  have a2 : x.toInt ≠ 2 := fw_tn h2
  have a3 : x.toInt ≠ 3 := fw_tn h3
  have a4 : x.toInt ≠ 4 := fw_tn h4
  have a5 : x.toInt ≠ 5 := fw_tn h5
  have a6 : x.toInt ≠ 6 := fw_tn h6
  have a7 : x.toInt ≠ 7 := fw_tn h7
  have a8 : x.toInt ≠ 8 := fw_tn h8
  have a9 : x.toInt ≠ 9 := fw_tn h9
  have a10 : x.toInt ≠ 10 := fw_tn h10
  have a11 : x.toInt ≠ 11 := fw_tn h11
  have a12 : x.toInt ≠ 12 := fw_tn h12
  have a13 : x.toInt ≠ 13 := fw_tn h13
  have a14 : x.toInt ≠ 14 := fw_tn h14
  have a15 : x.toInt ≠ 15 := fw_tn h15
  have a16 : x.toInt ≠ 16 := fw_tn h16
  have a17 : x.toInt ≠ 17 := fw_tn h17
  have a18 : x.toInt ≠ 18 := fw_tn h18
  omega
theorem fw_cmp (r : Int64) : lg_cmp r r = 0 := by
  unfold lg_cmp
  rw [if_neg (by simp [Int64.lt_iff_toInt_lt]), if_pos rfl]
theorem fw_law5 {L i : Nat} {x3 : Int32} (hL : L ≤ 2560) (hi : i ≤ L + 4) (ex3 : x3 = nI i) (c9 : ¬ Int32.ofNat L - 5 < x3) : i + 5 ≤ L := by
  have h1 : (Int32.ofNat L - 5 : Int32).toInt = (L : Int) - 5 := pk_sub_toInt (a := L) (b := 5) (by omega) (by omega)
  have h2 : x3.toInt = (i : Int) := by rw [ex3]; exact nI_toInt (by omega)
  rw [Int32.lt_iff_toInt_lt, h1, h2] at c9
  omega
set_option maxHeartbeats 4000000 in
set_option maxRecDepth 100000 in
theorem law_nodes {p : Program} {l : Launch} {e : Env} {s : State} {m : MethodId} {below : List Frame} {meth : Method} {c : Code} {dC : Nat → ClassId} {dI : Nat → Nat → Nat} {cI cJ : ClassId} {b L : Nat} {xs : Nat → Int32} (hL : L ≤ 2560) (C0 : lw_At p s m meth c b L xs) (hK : va_K (dC, dI) vwCl (fw_tys cI cJ) s) (hN : va_Nw fw_nest s) (q k : Nat → Nat) (nc : Int32) (lc : Int32) (le : Nat → Int32) (ge : Nat → Int32) (wt : Nat → Int32) (kp : Nat → Int32) (fo : Nat → Int32) (po : Nat → Int32) (na : Nat → Int32) (ns : Int32) (ta : Nat → Int32) (ts : Int32) (mx : Nat → Int64) (ch : Nat → Int32) (mo : Nat → Int64) (ms : Int32) (fs : Nat → Int32) (nn : Int32) (ln : Int32) (sa : Nat → Int32) (sb : Nat → Int32) (wg : Nat → Int32) (kt : Nat → Int32) (fr : Nat → Int32) (pt : Nat → Int32) (wl : Nat → Int32) (tn : Nat → Int32) (up : Int64) (lo : Int64) (hR : fw_R nc lc le ge wt kp fs nn ln sa sb wg kt) (x3 : Int32) (hin : ∀ j : Nat, j < 5 → vp_in (x3 + nI j) L) (H : Heap) (locs : List Loc) (ls : Array Slot) (hP : va_P (dC, dI) vwCl (wX cI cJ q nc lc le ge wt kp fo po na ns ta ts mx ch mo ms fs ++ wM cI cJ k nn ln sa sb wg kt fr pt wl tn up lo) H) (hD : va_D (fun q : Nat => s.heap.size ≤ q) (wX cI cJ q nc lc le ge wt kp fo po na ns ta ts mx ch mo ms fs ++ wM cI cJ k nn ln sa sb wg kt fr pt wl tn up lo)) (hS : va_S (fun q : Nat => s.heap.size ≤ q) s.heap H locs) (hl : lv_has ls 4 [(3, .int x3), (2, .ref (k 0)), (1, .ref (q 0)), (0, .ref b)])
    (hk : ∀ (nc : Int32) (lc : Int32) (le : Nat → Int32) (ge : Nat → Int32) (wt : Nat → Int32) (kp : Nat → Int32) (fo : Nat → Int32) (po : Nat → Int32) (na : Nat → Int32) (ns : Int32) (ta : Nat → Int32) (ts : Int32) (mx : Nat → Int64) (ch : Nat → Int32) (mo : Nat → Int64) (ms : Int32) (fs : Nat → Int32) (nn : Int32) (ln : Int32) (sa : Nat → Int32) (sb : Nat → Int32) (wg : Nat → Int32) (kt : Nat → Int32) (fr : Nat → Int32) (pt : Nat → Int32) (wl : Nat → Int32) (tn : Nat → Int32) (up : Int64) (lo : Int64) (H : Heap) (locs : List Loc) (ls : Array Slot), fw_R nc lc le ge wt kp fs nn ln sa sb wg kt → va_P (dC, dI) vwCl (wX cI cJ q nc lc le ge wt kp fo po na ns ta ts mx ch mo ms fs ++ wM cI cJ k nn ln sa sb wg kt fr pt wl tn up lo) H → va_D (fun q : Nat => s.heap.size ≤ q) (wX cI cJ q nc lc le ge wt kp fo po na ns ta ts mx ch mo ms fs ++ wM cI cJ k nn ln sa sb wg kt fr pt wl tn up lo) → va_S (fun q : Nat => s.heap.size ≤ q) s.heap H locs → lv_has ls 4 [(3, .int x3), (2, .ref (k 0)), (1, .ref (q 0)), (0, .ref b)] → W p l e room_1 s m #[Value.ref b] below meth c H locs 26 600 (lw_Z below #[Value.ref b] s) (F0 m 684 ls [])) : W p l e room_1 s m #[Value.ref b] below meth c H locs 26 600 (lw_Z below #[Value.ref b] s) (F0 m 124 ls []) := by
  obtain ⟨hx, hb, hr, hml, hown, hts, hX, hbl, hlocks, hgv⟩ := C0
  have hb : c.code = cL_law := hb
  have hown : s.vm.findClass RL = some m.cls := hown
  have htl : ∀ w ∈ wsL_law, w.before #[Value.ref b] s = true := fun w h => hts w (wsL_law_in w h)
  have hA : ∀ q : Nat, s.heap.size ≤ q → (fun q : Nat => s.heap.size ≤ q) q := fun _ h => h
  have hbA : ¬ (fun q : Nat => s.heap.size ≤ q) b := Nat.not_le.mpr hbl
  obtain ⟨r, nc', lc', fs', nn', ln',  hX1, hM1, hR1⟩ := st_nodes nc lc le ge wt kp fs nn ln sa sb wg kt hR   (xs (x3 + (1 : Int32)).toNatClampNeg)
  refine lv_aload_n hx hb dL_law_124 rfl (lv_at hl 2 rfl) ?_
  refine lv_aload_n hx hb dL_law_125 rfl (lv_at hl 3 rfl) ?_
  refine lv_iload_n hx hb dL_law_126 rfl (lv_at hl 0 rfl) ?_
  refine lv_iconst (v := (1 : Int32)) hx hb dL_law_127 (by decide) ?_
  refine lv_iadd hx hb dL_law_128 ?_
  refine va_sld hx hb hX hbl hbA hS (hin 1 (by decide)) dL_law_129 ?_
  have hPc := hP.sub (ws' := (wX cI cJ q nc lc le ge wt kp fo po na ns ta ts mx ch mo ms fs)) [0, 1, 2, 3, 4, 5, 6, 7, 8, 9, 10, 11, 12, 13, 14, 15, 16] rfl
  have hDc := hD.sub (ws' := (wX cI cJ q nc lc le ge wt kp fo po na ns ta ts mx ch mo ms fs)) [0, 1, 2, 3, 4, 5, 6, 7, 8, 9, 10, 11, 12, 13, 14, 15, 16] (by decide) rfl
  refine fw_ci (wr := (wM cI cJ k nn ln sa sb wg kt fr pt wl tn up lo)) (w2 := fun u => (wX cI cJ q u.1 u.2.1 le ge wt kp fo po na ns ta ts mx ch mo ms u.2.2 ++ wM cI cJ k nn ln sa sb wg kt fr pt wl tn up lo)) [0, 1, 2, 3, 4, 5, 6, 7, 8, 9, 10, 11, 12, 13, 14, 15, 16] [17, 18, 19, 20, 21, 22, 23, 24, 25] [9, 10, 11, 12, 13, 14, 15, 16, 17, 18, 19, 20, 21, 22, 23, 24, 25, 0, 1, 2, 3, 4, 5, 6, 7, 8] (va_runV (b := q 0) (As := [.int (xs (x3 + (1 : Int32)).toNatClampNeg)]) (rest := []) ⟨hx, hb, hml, hown, htl⟩ (kX3_nodes l dC dI cI cJ q H.size nc lc le ge wt kp fo po na ns ta ts mx ch mo ms fs (xs (x3 + (1 : Int32)).toNatClampNeg) ⟨_, hX1⟩) (cwV 1 htl gL_law_X3_nodes rfl rfl rfl (by decide +kernel) ⟨Nat.le_of_ble_eq_true rfl, Nat.le_of_ble_eq_true rfl⟩) ⟨fw_blind, va_recv hK hPc (ci := 3) (q0 := 0) rfl rfl, fun U hU hW => fw_pre hPc hK hDc hN hU hW⟩ rfl rfl hl.1 rfl (lv_room (Nat.le_of_ble_eq_true rfl)) dL_law_130 ⟨Nat.le_of_ble_eq_true rfl, Nat.le_of_ble_eq_true rfl⟩) hP hD hS hA rfl rfl (by decide) (by decide) (by decide) (fun _ => rfl) (fun r1 u H locs hw hP hD hS => ?_)
  have h9 := hX1.symm.trans hw
  cases h9
  have hP : va_P (dC, dI) vwCl (wX cI cJ q nc' lc' le ge wt kp fo po na ns ta ts mx ch mo ms fs' ++ wM cI cJ k nn ln sa sb wg kt fr pt wl tn up lo) H := hP
  have hD : va_D (fun q : Nat => s.heap.size ≤ q) (wX cI cJ q nc' lc' le ge wt kp fo po na ns ta ts mx ch mo ms fs' ++ wM cI cJ k nn ln sa sb wg kt fr pt wl tn up lo) := hD
  refine lv_aload_n hx hb dL_law_133 rfl (lv_at hl 1 rfl) ?_
  refine lv_aload_n hx hb dL_law_134 rfl (lv_at hl 3 rfl) ?_
  refine lv_iload_n hx hb dL_law_135 rfl (lv_at hl 0 rfl) ?_
  refine lv_iconst (v := (1 : Int32)) hx hb dL_law_136 (by decide) ?_
  refine lv_iadd hx hb dL_law_137 ?_
  refine va_sld hx hb hX hbl hbA hS (hin 1 (by decide)) dL_law_138 ?_
  have hPc := hP.sub (ws' := (wM cI cJ k nn ln sa sb wg kt fr pt wl tn up lo)) [17, 18, 19, 20, 21, 22, 23, 24, 25] rfl
  have hDc := hD.sub (ws' := (wM cI cJ k nn ln sa sb wg kt fr pt wl tn up lo)) [17, 18, 19, 20, 21, 22, 23, 24, 25] (by decide) rfl
  refine fw_ci (wr := (wX cI cJ q nc' lc' le ge wt kp fo po na ns ta ts mx ch mo ms fs')) (w2 := fun u => (wX cI cJ q nc' lc' le ge wt kp fo po na ns ta ts mx ch mo ms fs' ++ wM cI cJ k u.1 u.2 sa sb wg kt fr pt wl tn up lo)) [17, 18, 19, 20, 21, 22, 23, 24, 25] [0, 1, 2, 3, 4, 5, 6, 7, 8, 9, 10, 11, 12, 13, 14, 15, 16] [0, 1, 2, 3, 4, 5, 6, 7, 8, 9, 10, 11, 12, 13, 14, 15, 16, 17, 18, 19, 20, 21, 22, 23, 24, 25] (va_runV (b := k 0) (As := [.int (xs (x3 + (1 : Int32)).toNatClampNeg)]) (rest := [.int r]) ⟨hx, hb, hml, hown, htl⟩ (kX4_nodes l dC dI cI cJ k H.size nn ln sa sb wg kt fr pt wl tn up lo (xs (x3 + (1 : Int32)).toNatClampNeg) ⟨_, hM1⟩) (cwV 1 htl gL_law_X4_nodes rfl rfl rfl (by decide +kernel) ⟨Nat.le_of_ble_eq_true rfl, Nat.le_of_ble_eq_true rfl⟩) ⟨fw_blind, va_recv hK hPc (ci := 4) (q0 := 0) rfl rfl, fun U hU hW => fw_pre hPc hK hDc hN hU hW⟩ rfl rfl hl.1 rfl (lv_room (Nat.le_of_ble_eq_true rfl)) dL_law_139 ⟨Nat.le_of_ble_eq_true rfl, Nat.le_of_ble_eq_true rfl⟩) hP hD hS hA rfl rfl (by decide) (by decide) (by decide) (fun _ => rfl) (fun r1 u H locs hw hP hD hS => ?_)
  have h9 := hM1.symm.trans hw
  cases h9
  have hP : va_P (dC, dI) vwCl (wX cI cJ q nc' lc' le ge wt kp fo po na ns ta ts mx ch mo ms fs' ++ wM cI cJ k nn' ln' sa sb wg kt fr pt wl tn up lo) H := hP
  have hD : va_D (fun q : Nat => s.heap.size ≤ q) (wX cI cJ q nc' lc' le ge wt kp fo po na ns ta ts mx ch mo ms fs' ++ wM cI cJ k nn' ln' sa sb wg kt fr pt wl tn up lo) := hD
  refine lv_icmp_eq (tgt := 684) hx hb dL_law_142 (by decide) (fun c9 => ?_) (fun c9 => absurd rfl c9)
  exact hk nc' lc' le ge wt kp fo po na ns ta ts mx ch mo ms fs' nn' ln' sa sb wg kt fr pt wl tn up lo H locs ls hR1 hP hD hS (lv_sub hl [0, 1, 2, 3] rfl)
set_option maxHeartbeats 4000000 in
set_option maxRecDepth 100000 in
theorem law_line {p : Program} {l : Launch} {e : Env} {s : State} {m : MethodId} {below : List Frame} {meth : Method} {c : Code} {dC : Nat → ClassId} {dI : Nat → Nat → Nat} {cI cJ : ClassId} {b L : Nat} {xs : Nat → Int32} (hL : L ≤ 2560) (C0 : lw_At p s m meth c b L xs) (hK : va_K (dC, dI) vwCl (fw_tys cI cJ) s) (hN : va_Nw fw_nest s) (q k : Nat → Nat) (nc : Int32) (lc : Int32) (le : Nat → Int32) (ge : Nat → Int32) (wt : Nat → Int32) (kp : Nat → Int32) (fo : Nat → Int32) (po : Nat → Int32) (na : Nat → Int32) (ns : Int32) (ta : Nat → Int32) (ts : Int32) (mx : Nat → Int64) (ch : Nat → Int32) (mo : Nat → Int64) (ms : Int32) (fs : Nat → Int32) (nn : Int32) (ln : Int32) (sa : Nat → Int32) (sb : Nat → Int32) (wg : Nat → Int32) (kt : Nat → Int32) (fr : Nat → Int32) (pt : Nat → Int32) (wl : Nat → Int32) (tn : Nat → Int32) (up : Int64) (lo : Int64) (hR : fw_R nc lc le ge wt kp fs nn ln sa sb wg kt) (x3 : Int32) (hin : ∀ j : Nat, j < 5 → vp_in (x3 + nI j) L) (H : Heap) (locs : List Loc) (ls : Array Slot) (hP : va_P (dC, dI) vwCl (wX cI cJ q nc lc le ge wt kp fo po na ns ta ts mx ch mo ms fs ++ wM cI cJ k nn ln sa sb wg kt fr pt wl tn up lo) H) (hD : va_D (fun q : Nat => s.heap.size ≤ q) (wX cI cJ q nc lc le ge wt kp fo po na ns ta ts mx ch mo ms fs ++ wM cI cJ k nn ln sa sb wg kt fr pt wl tn up lo)) (hS : va_S (fun q : Nat => s.heap.size ≤ q) s.heap H locs) (hl : lv_has ls 4 [(3, .int x3), (2, .ref (k 0)), (1, .ref (q 0)), (0, .ref b)])
    (hk : ∀ (nc : Int32) (lc : Int32) (le : Nat → Int32) (ge : Nat → Int32) (wt : Nat → Int32) (kp : Nat → Int32) (fo : Nat → Int32) (po : Nat → Int32) (na : Nat → Int32) (ns : Int32) (ta : Nat → Int32) (ts : Int32) (mx : Nat → Int64) (ch : Nat → Int32) (mo : Nat → Int64) (ms : Int32) (fs : Nat → Int32) (nn : Int32) (ln : Int32) (sa : Nat → Int32) (sb : Nat → Int32) (wg : Nat → Int32) (kt : Nat → Int32) (fr : Nat → Int32) (pt : Nat → Int32) (wl : Nat → Int32) (tn : Nat → Int32) (up : Int64) (lo : Int64) (H : Heap) (locs : List Loc) (ls : Array Slot), fw_R nc lc le ge wt kp fs nn ln sa sb wg kt → va_P (dC, dI) vwCl (wX cI cJ q nc lc le ge wt kp fo po na ns ta ts mx ch mo ms fs ++ wM cI cJ k nn ln sa sb wg kt fr pt wl tn up lo) H → va_D (fun q : Nat => s.heap.size ≤ q) (wX cI cJ q nc lc le ge wt kp fo po na ns ta ts mx ch mo ms fs ++ wM cI cJ k nn ln sa sb wg kt fr pt wl tn up lo) → va_S (fun q : Nat => s.heap.size ≤ q) s.heap H locs → lv_has ls 4 [(3, .int x3), (2, .ref (k 0)), (1, .ref (q 0)), (0, .ref b)] → W p l e room_1 s m #[Value.ref b] below meth c H locs 26 600 (lw_Z below #[Value.ref b] s) (F0 m 684 ls [])) : W p l e room_1 s m #[Value.ref b] below meth c H locs 26 600 (lw_Z below #[Value.ref b] s) (F0 m 147 ls []) := by
  obtain ⟨hx, hb, hr, hml, hown, hts, hX, hbl, hlocks, hgv⟩ := C0
  have hb : c.code = cL_law := hb
  have hown : s.vm.findClass RL = some m.cls := hown
  have htl : ∀ w ∈ wsL_law, w.before #[Value.ref b] s = true := fun w h => hts w (wsL_law_in w h)
  have hA : ∀ q : Nat, s.heap.size ≤ q → (fun q : Nat => s.heap.size ≤ q) q := fun _ h => h
  have hbA : ¬ (fun q : Nat => s.heap.size ≤ q) b := Nat.not_le.mpr hbl
  obtain ⟨r, lc', le', ge', wt', kp', fs', ln', sa', sb', wg', kt',  hX1, hM1, hR1⟩ := st_line nc lc le ge wt kp fs nn ln sa sb wg kt hR   (xs (x3 + (1 : Int32)).toNatClampNeg) (xs (x3 + (2 : Int32)).toNatClampNeg) (xs (x3 + (3 : Int32)).toNatClampNeg)
  refine lv_aload_n hx hb dL_law_147 rfl (lv_at hl 2 rfl) ?_
  refine lv_aload_n hx hb dL_law_148 rfl (lv_at hl 3 rfl) ?_
  refine lv_iload_n hx hb dL_law_149 rfl (lv_at hl 0 rfl) ?_
  refine lv_iconst (v := (1 : Int32)) hx hb dL_law_150 (by decide) ?_
  refine lv_iadd hx hb dL_law_151 ?_
  refine va_sld hx hb hX hbl hbA hS (hin 1 (by decide)) dL_law_152 ?_
  refine lv_aload_n hx hb dL_law_153 rfl (lv_at hl 3 rfl) ?_
  refine lv_iload_n hx hb dL_law_154 rfl (lv_at hl 0 rfl) ?_
  refine lv_iconst (v := (2 : Int32)) hx hb dL_law_155 (by decide) ?_
  refine lv_iadd hx hb dL_law_156 ?_
  refine va_sld hx hb hX hbl hbA hS (hin 2 (by decide)) dL_law_157 ?_
  refine lv_aload_n hx hb dL_law_158 rfl (lv_at hl 3 rfl) ?_
  refine lv_iload_n hx hb dL_law_159 rfl (lv_at hl 0 rfl) ?_
  refine lv_iconst (v := (3 : Int32)) hx hb dL_law_160 (by decide) ?_
  refine lv_iadd hx hb dL_law_161 ?_
  refine va_sld hx hb hX hbl hbA hS (hin 3 (by decide)) dL_law_162 ?_
  have hPc := hP.sub (ws' := (wX cI cJ q nc lc le ge wt kp fo po na ns ta ts mx ch mo ms fs)) [0, 1, 2, 3, 4, 5, 6, 7, 8, 9, 10, 11, 12, 13, 14, 15, 16] rfl
  have hDc := hD.sub (ws' := (wX cI cJ q nc lc le ge wt kp fo po na ns ta ts mx ch mo ms fs)) [0, 1, 2, 3, 4, 5, 6, 7, 8, 9, 10, 11, 12, 13, 14, 15, 16] (by decide) rfl
  refine fw_ci (wr := (wM cI cJ k nn ln sa sb wg kt fr pt wl tn up lo)) (w2 := fun u => (wX cI cJ q nc u.1 u.2.1 u.2.2.1 u.2.2.2.1 u.2.2.2.2.1 fo po na ns ta ts mx ch mo ms u.2.2.2.2.2 ++ wM cI cJ k nn ln sa sb wg kt fr pt wl tn up lo)) [0, 1, 2, 3, 4, 5, 6, 7, 8, 9, 10, 11, 12, 13, 14, 15, 16] [17, 18, 19, 20, 21, 22, 23, 24, 25] [9, 10, 11, 12, 13, 14, 15, 16, 17, 18, 19, 20, 21, 22, 23, 24, 25, 0, 1, 2, 3, 4, 5, 6, 7, 8] (va_runV (b := q 0) (As := [.int (xs (x3 + (1 : Int32)).toNatClampNeg), .int (xs (x3 + (2 : Int32)).toNatClampNeg), .int (xs (x3 + (3 : Int32)).toNatClampNeg)]) (rest := []) ⟨hx, hb, hml, hown, htl⟩ (kX3_line l dC dI cI cJ q H.size nc lc le ge wt kp fo po na ns ta ts mx ch mo ms fs (xs (x3 + (1 : Int32)).toNatClampNeg) (xs (x3 + (2 : Int32)).toNatClampNeg) (xs (x3 + (3 : Int32)).toNatClampNeg) ⟨_, hX1⟩) (cwV 3 htl gL_law_X3_line rfl rfl rfl (by decide +kernel) ⟨Nat.le_of_ble_eq_true rfl, Nat.le_of_ble_eq_true rfl⟩) ⟨fw_blind, va_recv hK hPc (ci := 3) (q0 := 0) rfl rfl, fun U hU hW => fw_pre hPc hK hDc hN hU hW⟩ rfl rfl hl.1 rfl (lv_room (Nat.le_of_ble_eq_true rfl)) dL_law_163 ⟨Nat.le_of_ble_eq_true rfl, Nat.le_of_ble_eq_true rfl⟩) hP hD hS hA rfl rfl (by decide) (by decide) (by decide) (fun _ => rfl) (fun r1 u H locs hw hP hD hS => ?_)
  have h9 := hX1.symm.trans hw
  cases h9
  have hP : va_P (dC, dI) vwCl (wX cI cJ q nc lc' le' ge' wt' kp' fo po na ns ta ts mx ch mo ms fs' ++ wM cI cJ k nn ln sa sb wg kt fr pt wl tn up lo) H := hP
  have hD : va_D (fun q : Nat => s.heap.size ≤ q) (wX cI cJ q nc lc' le' ge' wt' kp' fo po na ns ta ts mx ch mo ms fs' ++ wM cI cJ k nn ln sa sb wg kt fr pt wl tn up lo) := hD
  refine lv_aload_n hx hb dL_law_166 rfl (lv_at hl 1 rfl) ?_
  refine lv_aload_n hx hb dL_law_167 rfl (lv_at hl 3 rfl) ?_
  refine lv_iload_n hx hb dL_law_168 rfl (lv_at hl 0 rfl) ?_
  refine lv_iconst (v := (1 : Int32)) hx hb dL_law_169 (by decide) ?_
  refine lv_iadd hx hb dL_law_170 ?_
  refine va_sld hx hb hX hbl hbA hS (hin 1 (by decide)) dL_law_171 ?_
  refine lv_aload_n hx hb dL_law_172 rfl (lv_at hl 3 rfl) ?_
  refine lv_iload_n hx hb dL_law_173 rfl (lv_at hl 0 rfl) ?_
  refine lv_iconst (v := (2 : Int32)) hx hb dL_law_174 (by decide) ?_
  refine lv_iadd hx hb dL_law_175 ?_
  refine va_sld hx hb hX hbl hbA hS (hin 2 (by decide)) dL_law_176 ?_
  refine lv_aload_n hx hb dL_law_177 rfl (lv_at hl 3 rfl) ?_
  refine lv_iload_n hx hb dL_law_178 rfl (lv_at hl 0 rfl) ?_
  refine lv_iconst (v := (3 : Int32)) hx hb dL_law_179 (by decide) ?_
  refine lv_iadd hx hb dL_law_180 ?_
  refine va_sld hx hb hX hbl hbA hS (hin 3 (by decide)) dL_law_181 ?_
  have hPc := hP.sub (ws' := (wM cI cJ k nn ln sa sb wg kt fr pt wl tn up lo)) [17, 18, 19, 20, 21, 22, 23, 24, 25] rfl
  have hDc := hD.sub (ws' := (wM cI cJ k nn ln sa sb wg kt fr pt wl tn up lo)) [17, 18, 19, 20, 21, 22, 23, 24, 25] (by decide) rfl
  refine fw_ci (wr := (wX cI cJ q nc lc' le' ge' wt' kp' fo po na ns ta ts mx ch mo ms fs')) (w2 := fun u => (wX cI cJ q nc lc' le' ge' wt' kp' fo po na ns ta ts mx ch mo ms fs' ++ wM cI cJ k nn u.1 u.2.1 u.2.2.1 u.2.2.2.1 u.2.2.2.2 fr pt wl tn up lo)) [17, 18, 19, 20, 21, 22, 23, 24, 25] [0, 1, 2, 3, 4, 5, 6, 7, 8, 9, 10, 11, 12, 13, 14, 15, 16] [0, 1, 2, 3, 4, 5, 6, 7, 8, 9, 10, 11, 12, 13, 14, 15, 16, 17, 18, 19, 20, 21, 22, 23, 24, 25] (va_runV (b := k 0) (As := [.int (xs (x3 + (1 : Int32)).toNatClampNeg), .int (xs (x3 + (2 : Int32)).toNatClampNeg), .int (xs (x3 + (3 : Int32)).toNatClampNeg)]) (rest := [.int r]) ⟨hx, hb, hml, hown, htl⟩ (kX4_line l dC dI cI cJ k H.size nn ln sa sb wg kt fr pt wl tn up lo (xs (x3 + (1 : Int32)).toNatClampNeg) (xs (x3 + (2 : Int32)).toNatClampNeg) (xs (x3 + (3 : Int32)).toNatClampNeg) ⟨_, hM1⟩) (cwV 3 htl gL_law_X4_line rfl rfl rfl (by decide +kernel) ⟨Nat.le_of_ble_eq_true rfl, Nat.le_of_ble_eq_true rfl⟩) ⟨fw_blind, va_recv hK hPc (ci := 4) (q0 := 0) rfl rfl, fun U hU hW => fw_pre hPc hK hDc hN hU hW⟩ rfl rfl hl.1 rfl (lv_room (Nat.le_of_ble_eq_true rfl)) dL_law_182 ⟨Nat.le_of_ble_eq_true rfl, Nat.le_of_ble_eq_true rfl⟩) hP hD hS hA rfl rfl (by decide) (by decide) (by decide) (fun _ => rfl) (fun r1 u H locs hw hP hD hS => ?_)
  have h9 := hM1.symm.trans hw
  cases h9
  have hP : va_P (dC, dI) vwCl (wX cI cJ q nc lc' le' ge' wt' kp' fo po na ns ta ts mx ch mo ms fs' ++ wM cI cJ k nn ln' sa' sb' wg' kt' fr pt wl tn up lo) H := hP
  have hD : va_D (fun q : Nat => s.heap.size ≤ q) (wX cI cJ q nc lc' le' ge' wt' kp' fo po na ns ta ts mx ch mo ms fs' ++ wM cI cJ k nn ln' sa' sb' wg' kt' fr pt wl tn up lo) := hD
  refine lv_icmp_eq (tgt := 684) hx hb dL_law_185 (by decide) (fun c9 => ?_) (fun c9 => absurd rfl c9)
  exact hk nc lc' le' ge' wt' kp' fo po na ns ta ts mx ch mo ms fs' nn ln' sa' sb' wg' kt' fr pt wl tn up lo H locs ls hR1 hP hD hS (lv_sub hl [0, 1, 2, 3] rfl)
set_option maxHeartbeats 4000000 in
set_option maxRecDepth 100000 in
theorem law_drop {p : Program} {l : Launch} {e : Env} {s : State} {m : MethodId} {below : List Frame} {meth : Method} {c : Code} {dC : Nat → ClassId} {dI : Nat → Nat → Nat} {cI cJ : ClassId} {b L : Nat} {xs : Nat → Int32} (hL : L ≤ 2560) (C0 : lw_At p s m meth c b L xs) (hK : va_K (dC, dI) vwCl (fw_tys cI cJ) s) (hN : va_Nw fw_nest s) (q k : Nat → Nat) (nc : Int32) (lc : Int32) (le : Nat → Int32) (ge : Nat → Int32) (wt : Nat → Int32) (kp : Nat → Int32) (fo : Nat → Int32) (po : Nat → Int32) (na : Nat → Int32) (ns : Int32) (ta : Nat → Int32) (ts : Int32) (mx : Nat → Int64) (ch : Nat → Int32) (mo : Nat → Int64) (ms : Int32) (fs : Nat → Int32) (nn : Int32) (ln : Int32) (sa : Nat → Int32) (sb : Nat → Int32) (wg : Nat → Int32) (kt : Nat → Int32) (fr : Nat → Int32) (pt : Nat → Int32) (wl : Nat → Int32) (tn : Nat → Int32) (up : Int64) (lo : Int64) (hR : fw_R nc lc le ge wt kp fs nn ln sa sb wg kt) (x3 : Int32) (hin : ∀ j : Nat, j < 5 → vp_in (x3 + nI j) L) (H : Heap) (locs : List Loc) (ls : Array Slot) (hP : va_P (dC, dI) vwCl (wX cI cJ q nc lc le ge wt kp fo po na ns ta ts mx ch mo ms fs ++ wM cI cJ k nn ln sa sb wg kt fr pt wl tn up lo) H) (hD : va_D (fun q : Nat => s.heap.size ≤ q) (wX cI cJ q nc lc le ge wt kp fo po na ns ta ts mx ch mo ms fs ++ wM cI cJ k nn ln sa sb wg kt fr pt wl tn up lo)) (hS : va_S (fun q : Nat => s.heap.size ≤ q) s.heap H locs) (hl : lv_has ls 4 [(3, .int x3), (2, .ref (k 0)), (1, .ref (q 0)), (0, .ref b)])
    (hk : ∀ (nc : Int32) (lc : Int32) (le : Nat → Int32) (ge : Nat → Int32) (wt : Nat → Int32) (kp : Nat → Int32) (fo : Nat → Int32) (po : Nat → Int32) (na : Nat → Int32) (ns : Int32) (ta : Nat → Int32) (ts : Int32) (mx : Nat → Int64) (ch : Nat → Int32) (mo : Nat → Int64) (ms : Int32) (fs : Nat → Int32) (nn : Int32) (ln : Int32) (sa : Nat → Int32) (sb : Nat → Int32) (wg : Nat → Int32) (kt : Nat → Int32) (fr : Nat → Int32) (pt : Nat → Int32) (wl : Nat → Int32) (tn : Nat → Int32) (up : Int64) (lo : Int64) (H : Heap) (locs : List Loc) (ls : Array Slot), fw_R nc lc le ge wt kp fs nn ln sa sb wg kt → va_P (dC, dI) vwCl (wX cI cJ q nc lc le ge wt kp fo po na ns ta ts mx ch mo ms fs ++ wM cI cJ k nn ln sa sb wg kt fr pt wl tn up lo) H → va_D (fun q : Nat => s.heap.size ≤ q) (wX cI cJ q nc lc le ge wt kp fo po na ns ta ts mx ch mo ms fs ++ wM cI cJ k nn ln sa sb wg kt fr pt wl tn up lo) → va_S (fun q : Nat => s.heap.size ≤ q) s.heap H locs → lv_has ls 4 [(3, .int x3), (2, .ref (k 0)), (1, .ref (q 0)), (0, .ref b)] → W p l e room_1 s m #[Value.ref b] below meth c H locs 26 600 (lw_Z below #[Value.ref b] s) (F0 m 684 ls [])) : W p l e room_1 s m #[Value.ref b] below meth c H locs 26 600 (lw_Z below #[Value.ref b] s) (F0 m 190 ls []) := by
  obtain ⟨hx, hb, hr, hml, hown, hts, hX, hbl, hlocks, hgv⟩ := C0
  have hb : c.code = cL_law := hb
  have hown : s.vm.findClass RL = some m.cls := hown
  have htl : ∀ w ∈ wsL_law, w.before #[Value.ref b] s = true := fun w h => hts w (wsL_law_in w h)
  have hA : ∀ q : Nat, s.heap.size ≤ q → (fun q : Nat => s.heap.size ≤ q) q := fun _ h => h
  have hbA : ¬ (fun q : Nat => s.heap.size ≤ q) b := Nat.not_le.mpr hbl
  obtain ⟨r, lc', le', ge', wt', kp', fs', ln', sa', sb', wg', kt',  hX1, hM1, hR1⟩ := st_drop nc lc le ge wt kp fs nn ln sa sb wg kt hR   (xs (x3 + (1 : Int32)).toNatClampNeg)
  refine lv_aload_n hx hb dL_law_190 rfl (lv_at hl 2 rfl) ?_
  refine lv_aload_n hx hb dL_law_191 rfl (lv_at hl 3 rfl) ?_
  refine lv_iload_n hx hb dL_law_192 rfl (lv_at hl 0 rfl) ?_
  refine lv_iconst (v := (1 : Int32)) hx hb dL_law_193 (by decide) ?_
  refine lv_iadd hx hb dL_law_194 ?_
  refine va_sld hx hb hX hbl hbA hS (hin 1 (by decide)) dL_law_195 ?_
  have hPc := hP.sub (ws' := (wX cI cJ q nc lc le ge wt kp fo po na ns ta ts mx ch mo ms fs)) [0, 1, 2, 3, 4, 5, 6, 7, 8, 9, 10, 11, 12, 13, 14, 15, 16] rfl
  have hDc := hD.sub (ws' := (wX cI cJ q nc lc le ge wt kp fo po na ns ta ts mx ch mo ms fs)) [0, 1, 2, 3, 4, 5, 6, 7, 8, 9, 10, 11, 12, 13, 14, 15, 16] (by decide) rfl
  refine fw_ci (wr := (wM cI cJ k nn ln sa sb wg kt fr pt wl tn up lo)) (w2 := fun u => (wX cI cJ q nc u.1 u.2.1 u.2.2.1 u.2.2.2.1 u.2.2.2.2.1 fo po na ns ta ts mx ch mo ms u.2.2.2.2.2 ++ wM cI cJ k nn ln sa sb wg kt fr pt wl tn up lo)) [0, 1, 2, 3, 4, 5, 6, 7, 8, 9, 10, 11, 12, 13, 14, 15, 16] [17, 18, 19, 20, 21, 22, 23, 24, 25] [9, 10, 11, 12, 13, 14, 15, 16, 17, 18, 19, 20, 21, 22, 23, 24, 25, 0, 1, 2, 3, 4, 5, 6, 7, 8] (va_runV (b := q 0) (As := [.int (xs (x3 + (1 : Int32)).toNatClampNeg)]) (rest := []) ⟨hx, hb, hml, hown, htl⟩ (kX3_drop l dC dI cI cJ q H.size nc lc le ge wt kp fo po na ns ta ts mx ch mo ms fs (xs (x3 + (1 : Int32)).toNatClampNeg) ⟨_, hX1⟩) (cwV 1 htl gL_law_X3_drop rfl rfl rfl (by decide +kernel) ⟨Nat.le_of_ble_eq_true rfl, Nat.le_of_ble_eq_true rfl⟩) ⟨fw_blind, va_recv hK hPc (ci := 3) (q0 := 0) rfl rfl, fun U hU hW => fw_pre hPc hK hDc hN hU hW⟩ rfl rfl hl.1 rfl (lv_room (Nat.le_of_ble_eq_true rfl)) dL_law_196 ⟨Nat.le_of_ble_eq_true rfl, Nat.le_of_ble_eq_true rfl⟩) hP hD hS hA rfl rfl (by decide) (by decide) (by decide) (fun _ => rfl) (fun r1 u H locs hw hP hD hS => ?_)
  have h9 := hX1.symm.trans hw
  cases h9
  have hP : va_P (dC, dI) vwCl (wX cI cJ q nc lc' le' ge' wt' kp' fo po na ns ta ts mx ch mo ms fs' ++ wM cI cJ k nn ln sa sb wg kt fr pt wl tn up lo) H := hP
  have hD : va_D (fun q : Nat => s.heap.size ≤ q) (wX cI cJ q nc lc' le' ge' wt' kp' fo po na ns ta ts mx ch mo ms fs' ++ wM cI cJ k nn ln sa sb wg kt fr pt wl tn up lo) := hD
  refine lv_aload_n hx hb dL_law_199 rfl (lv_at hl 1 rfl) ?_
  refine lv_aload_n hx hb dL_law_200 rfl (lv_at hl 3 rfl) ?_
  refine lv_iload_n hx hb dL_law_201 rfl (lv_at hl 0 rfl) ?_
  refine lv_iconst (v := (1 : Int32)) hx hb dL_law_202 (by decide) ?_
  refine lv_iadd hx hb dL_law_203 ?_
  refine va_sld hx hb hX hbl hbA hS (hin 1 (by decide)) dL_law_204 ?_
  have hPc := hP.sub (ws' := (wM cI cJ k nn ln sa sb wg kt fr pt wl tn up lo)) [17, 18, 19, 20, 21, 22, 23, 24, 25] rfl
  have hDc := hD.sub (ws' := (wM cI cJ k nn ln sa sb wg kt fr pt wl tn up lo)) [17, 18, 19, 20, 21, 22, 23, 24, 25] (by decide) rfl
  refine fw_ci (wr := (wX cI cJ q nc lc' le' ge' wt' kp' fo po na ns ta ts mx ch mo ms fs')) (w2 := fun u => (wX cI cJ q nc lc' le' ge' wt' kp' fo po na ns ta ts mx ch mo ms fs' ++ wM cI cJ k nn u.1 u.2.1 u.2.2.1 u.2.2.2.1 u.2.2.2.2 fr pt wl tn up lo)) [17, 18, 19, 20, 21, 22, 23, 24, 25] [0, 1, 2, 3, 4, 5, 6, 7, 8, 9, 10, 11, 12, 13, 14, 15, 16] [0, 1, 2, 3, 4, 5, 6, 7, 8, 9, 10, 11, 12, 13, 14, 15, 16, 17, 18, 19, 20, 21, 22, 23, 24, 25] (va_runV (b := k 0) (As := [.int (xs (x3 + (1 : Int32)).toNatClampNeg)]) (rest := [.int r]) ⟨hx, hb, hml, hown, htl⟩ (kX4_drop l dC dI cI cJ k H.size nn ln sa sb wg kt fr pt wl tn up lo (xs (x3 + (1 : Int32)).toNatClampNeg) ⟨_, hM1⟩) (cwV 1 htl gL_law_X4_drop rfl rfl rfl (by decide +kernel) ⟨Nat.le_of_ble_eq_true rfl, Nat.le_of_ble_eq_true rfl⟩) ⟨fw_blind, va_recv hK hPc (ci := 4) (q0 := 0) rfl rfl, fun U hU hW => fw_pre hPc hK hDc hN hU hW⟩ rfl rfl hl.1 rfl (lv_room (Nat.le_of_ble_eq_true rfl)) dL_law_205 ⟨Nat.le_of_ble_eq_true rfl, Nat.le_of_ble_eq_true rfl⟩) hP hD hS hA rfl rfl (by decide) (by decide) (by decide) (fun _ => rfl) (fun r1 u H locs hw hP hD hS => ?_)
  have h9 := hM1.symm.trans hw
  cases h9
  have hP : va_P (dC, dI) vwCl (wX cI cJ q nc lc' le' ge' wt' kp' fo po na ns ta ts mx ch mo ms fs' ++ wM cI cJ k nn ln' sa' sb' wg' kt' fr pt wl tn up lo) H := hP
  have hD : va_D (fun q : Nat => s.heap.size ≤ q) (wX cI cJ q nc lc' le' ge' wt' kp' fo po na ns ta ts mx ch mo ms fs' ++ wM cI cJ k nn ln' sa' sb' wg' kt' fr pt wl tn up lo) := hD
  refine lv_icmp_eq (tgt := 684) hx hb dL_law_208 (by decide) (fun c9 => ?_) (fun c9 => absurd rfl c9)
  exact hk nc lc' le' ge' wt' kp' fo po na ns ta ts mx ch mo ms fs' nn ln' sa' sb' wg' kt' fr pt wl tn up lo H locs ls hR1 hP hD hS (lv_sub hl [0, 1, 2, 3] rfl)
set_option maxHeartbeats 4000000 in
set_option maxRecDepth 100000 in
theorem law_keep {p : Program} {l : Launch} {e : Env} {s : State} {m : MethodId} {below : List Frame} {meth : Method} {c : Code} {dC : Nat → ClassId} {dI : Nat → Nat → Nat} {cI cJ : ClassId} {b L : Nat} {xs : Nat → Int32} (hL : L ≤ 2560) (C0 : lw_At p s m meth c b L xs) (hK : va_K (dC, dI) vwCl (fw_tys cI cJ) s) (hN : va_Nw fw_nest s) (q k : Nat → Nat) (nc : Int32) (lc : Int32) (le : Nat → Int32) (ge : Nat → Int32) (wt : Nat → Int32) (kp : Nat → Int32) (fo : Nat → Int32) (po : Nat → Int32) (na : Nat → Int32) (ns : Int32) (ta : Nat → Int32) (ts : Int32) (mx : Nat → Int64) (ch : Nat → Int32) (mo : Nat → Int64) (ms : Int32) (fs : Nat → Int32) (nn : Int32) (ln : Int32) (sa : Nat → Int32) (sb : Nat → Int32) (wg : Nat → Int32) (kt : Nat → Int32) (fr : Nat → Int32) (pt : Nat → Int32) (wl : Nat → Int32) (tn : Nat → Int32) (up : Int64) (lo : Int64) (hR : fw_R nc lc le ge wt kp fs nn ln sa sb wg kt) (x3 : Int32) (hin : ∀ j : Nat, j < 5 → vp_in (x3 + nI j) L) (H : Heap) (locs : List Loc) (ls : Array Slot) (hP : va_P (dC, dI) vwCl (wX cI cJ q nc lc le ge wt kp fo po na ns ta ts mx ch mo ms fs ++ wM cI cJ k nn ln sa sb wg kt fr pt wl tn up lo) H) (hD : va_D (fun q : Nat => s.heap.size ≤ q) (wX cI cJ q nc lc le ge wt kp fo po na ns ta ts mx ch mo ms fs ++ wM cI cJ k nn ln sa sb wg kt fr pt wl tn up lo)) (hS : va_S (fun q : Nat => s.heap.size ≤ q) s.heap H locs) (hl : lv_has ls 4 [(3, .int x3), (2, .ref (k 0)), (1, .ref (q 0)), (0, .ref b)])
    (hk : ∀ (nc : Int32) (lc : Int32) (le : Nat → Int32) (ge : Nat → Int32) (wt : Nat → Int32) (kp : Nat → Int32) (fo : Nat → Int32) (po : Nat → Int32) (na : Nat → Int32) (ns : Int32) (ta : Nat → Int32) (ts : Int32) (mx : Nat → Int64) (ch : Nat → Int32) (mo : Nat → Int64) (ms : Int32) (fs : Nat → Int32) (nn : Int32) (ln : Int32) (sa : Nat → Int32) (sb : Nat → Int32) (wg : Nat → Int32) (kt : Nat → Int32) (fr : Nat → Int32) (pt : Nat → Int32) (wl : Nat → Int32) (tn : Nat → Int32) (up : Int64) (lo : Int64) (H : Heap) (locs : List Loc) (ls : Array Slot), fw_R nc lc le ge wt kp fs nn ln sa sb wg kt → va_P (dC, dI) vwCl (wX cI cJ q nc lc le ge wt kp fo po na ns ta ts mx ch mo ms fs ++ wM cI cJ k nn ln sa sb wg kt fr pt wl tn up lo) H → va_D (fun q : Nat => s.heap.size ≤ q) (wX cI cJ q nc lc le ge wt kp fo po na ns ta ts mx ch mo ms fs ++ wM cI cJ k nn ln sa sb wg kt fr pt wl tn up lo) → va_S (fun q : Nat => s.heap.size ≤ q) s.heap H locs → lv_has ls 4 [(3, .int x3), (2, .ref (k 0)), (1, .ref (q 0)), (0, .ref b)] → W p l e room_1 s m #[Value.ref b] below meth c H locs 26 600 (lw_Z below #[Value.ref b] s) (F0 m 684 ls [])) : W p l e room_1 s m #[Value.ref b] below meth c H locs 26 600 (lw_Z below #[Value.ref b] s) (F0 m 213 ls []) := by
  obtain ⟨hx, hb, hr, hml, hown, hts, hX, hbl, hlocks, hgv⟩ := C0
  have hb : c.code = cL_law := hb
  have hown : s.vm.findClass RL = some m.cls := hown
  have htl : ∀ w ∈ wsL_law, w.before #[Value.ref b] s = true := fun w h => hts w (wsL_law_in w h)
  have hA : ∀ q : Nat, s.heap.size ≤ q → (fun q : Nat => s.heap.size ≤ q) q := fun _ h => h
  have hbA : ¬ (fun q : Nat => s.heap.size ≤ q) b := Nat.not_le.mpr hbl
  obtain ⟨r, kp', kt',  hX1, hM1, hR1⟩ := st_keep nc lc le ge wt kp fs nn ln sa sb wg kt hR   (xs (x3 + (1 : Int32)).toNatClampNeg) (xs (x3 + (2 : Int32)).toNatClampNeg)
  refine lv_aload_n hx hb dL_law_213 rfl (lv_at hl 2 rfl) ?_
  refine lv_aload_n hx hb dL_law_214 rfl (lv_at hl 3 rfl) ?_
  refine lv_iload_n hx hb dL_law_215 rfl (lv_at hl 0 rfl) ?_
  refine lv_iconst (v := (1 : Int32)) hx hb dL_law_216 (by decide) ?_
  refine lv_iadd hx hb dL_law_217 ?_
  refine va_sld hx hb hX hbl hbA hS (hin 1 (by decide)) dL_law_218 ?_
  refine lv_aload_n hx hb dL_law_219 rfl (lv_at hl 3 rfl) ?_
  refine lv_iload_n hx hb dL_law_220 rfl (lv_at hl 0 rfl) ?_
  refine lv_iconst (v := (2 : Int32)) hx hb dL_law_221 (by decide) ?_
  refine lv_iadd hx hb dL_law_222 ?_
  refine va_sld hx hb hX hbl hbA hS (hin 2 (by decide)) dL_law_223 ?_
  have hPc := hP.sub (ws' := (wX cI cJ q nc lc le ge wt kp fo po na ns ta ts mx ch mo ms fs)) [0, 1, 2, 3, 4, 5, 6, 7, 8, 9, 10, 11, 12, 13, 14, 15, 16] rfl
  have hDc := hD.sub (ws' := (wX cI cJ q nc lc le ge wt kp fo po na ns ta ts mx ch mo ms fs)) [0, 1, 2, 3, 4, 5, 6, 7, 8, 9, 10, 11, 12, 13, 14, 15, 16] (by decide) rfl
  refine fw_ci (wr := (wM cI cJ k nn ln sa sb wg kt fr pt wl tn up lo)) (w2 := fun u => (wX cI cJ q nc lc le ge wt u fo po na ns ta ts mx ch mo ms fs ++ wM cI cJ k nn ln sa sb wg kt fr pt wl tn up lo)) [0, 1, 2, 3, 4, 5, 6, 7, 8, 9, 10, 11, 12, 13, 14, 15, 16] [17, 18, 19, 20, 21, 22, 23, 24, 25] [9, 10, 11, 12, 13, 14, 15, 16, 17, 18, 19, 20, 21, 22, 23, 24, 25, 0, 1, 2, 3, 4, 5, 6, 7, 8] (va_runV (b := q 0) (As := [.int (xs (x3 + (1 : Int32)).toNatClampNeg), .int (xs (x3 + (2 : Int32)).toNatClampNeg)]) (rest := []) ⟨hx, hb, hml, hown, htl⟩ (kX3_keep l dC dI cI cJ q H.size nc lc le ge wt kp fo po na ns ta ts mx ch mo ms fs (xs (x3 + (1 : Int32)).toNatClampNeg) (xs (x3 + (2 : Int32)).toNatClampNeg) ⟨_, hX1⟩) (cwV 2 htl gL_law_X3_keep rfl rfl rfl (by decide +kernel) ⟨Nat.le_of_ble_eq_true rfl, Nat.le_of_ble_eq_true rfl⟩) ⟨fw_blind, va_recv hK hPc (ci := 3) (q0 := 0) rfl rfl, fun U hU hW => fw_pre hPc hK hDc hN hU hW⟩ rfl rfl hl.1 rfl (lv_room (Nat.le_of_ble_eq_true rfl)) dL_law_224 ⟨Nat.le_of_ble_eq_true rfl, Nat.le_of_ble_eq_true rfl⟩) hP hD hS hA rfl rfl (by decide) (by decide) (by decide) (fun _ => rfl) (fun r1 u H locs hw hP hD hS => ?_)
  have h9 := hX1.symm.trans hw
  cases h9
  have hP : va_P (dC, dI) vwCl (wX cI cJ q nc lc le ge wt kp' fo po na ns ta ts mx ch mo ms fs ++ wM cI cJ k nn ln sa sb wg kt fr pt wl tn up lo) H := hP
  have hD : va_D (fun q : Nat => s.heap.size ≤ q) (wX cI cJ q nc lc le ge wt kp' fo po na ns ta ts mx ch mo ms fs ++ wM cI cJ k nn ln sa sb wg kt fr pt wl tn up lo) := hD
  refine lv_aload_n hx hb dL_law_227 rfl (lv_at hl 1 rfl) ?_
  refine lv_aload_n hx hb dL_law_228 rfl (lv_at hl 3 rfl) ?_
  refine lv_iload_n hx hb dL_law_229 rfl (lv_at hl 0 rfl) ?_
  refine lv_iconst (v := (1 : Int32)) hx hb dL_law_230 (by decide) ?_
  refine lv_iadd hx hb dL_law_231 ?_
  refine va_sld hx hb hX hbl hbA hS (hin 1 (by decide)) dL_law_232 ?_
  refine lv_aload_n hx hb dL_law_233 rfl (lv_at hl 3 rfl) ?_
  refine lv_iload_n hx hb dL_law_234 rfl (lv_at hl 0 rfl) ?_
  refine lv_iconst (v := (2 : Int32)) hx hb dL_law_235 (by decide) ?_
  refine lv_iadd hx hb dL_law_236 ?_
  refine va_sld hx hb hX hbl hbA hS (hin 2 (by decide)) dL_law_237 ?_
  have hPc := hP.sub (ws' := (wM cI cJ k nn ln sa sb wg kt fr pt wl tn up lo)) [17, 18, 19, 20, 21, 22, 23, 24, 25] rfl
  have hDc := hD.sub (ws' := (wM cI cJ k nn ln sa sb wg kt fr pt wl tn up lo)) [17, 18, 19, 20, 21, 22, 23, 24, 25] (by decide) rfl
  refine fw_ci (wr := (wX cI cJ q nc lc le ge wt kp' fo po na ns ta ts mx ch mo ms fs)) (w2 := fun u => (wX cI cJ q nc lc le ge wt kp' fo po na ns ta ts mx ch mo ms fs ++ wM cI cJ k nn ln sa sb wg u fr pt wl tn up lo)) [17, 18, 19, 20, 21, 22, 23, 24, 25] [0, 1, 2, 3, 4, 5, 6, 7, 8, 9, 10, 11, 12, 13, 14, 15, 16] [0, 1, 2, 3, 4, 5, 6, 7, 8, 9, 10, 11, 12, 13, 14, 15, 16, 17, 18, 19, 20, 21, 22, 23, 24, 25] (va_runV (b := k 0) (As := [.int (xs (x3 + (1 : Int32)).toNatClampNeg), .int (xs (x3 + (2 : Int32)).toNatClampNeg)]) (rest := [.int r]) ⟨hx, hb, hml, hown, htl⟩ (kX4_keep l dC dI cI cJ k H.size nn ln sa sb wg kt fr pt wl tn up lo (xs (x3 + (1 : Int32)).toNatClampNeg) (xs (x3 + (2 : Int32)).toNatClampNeg) ⟨_, hM1⟩) (cwV 2 htl gL_law_X4_keep rfl rfl rfl (by decide +kernel) ⟨Nat.le_of_ble_eq_true rfl, Nat.le_of_ble_eq_true rfl⟩) ⟨fw_blind, va_recv hK hPc (ci := 4) (q0 := 0) rfl rfl, fun U hU hW => fw_pre hPc hK hDc hN hU hW⟩ rfl rfl hl.1 rfl (lv_room (Nat.le_of_ble_eq_true rfl)) dL_law_238 ⟨Nat.le_of_ble_eq_true rfl, Nat.le_of_ble_eq_true rfl⟩) hP hD hS hA rfl rfl (by decide) (by decide) (by decide) (fun _ => rfl) (fun r1 u H locs hw hP hD hS => ?_)
  have h9 := hM1.symm.trans hw
  cases h9
  have hP : va_P (dC, dI) vwCl (wX cI cJ q nc lc le ge wt kp' fo po na ns ta ts mx ch mo ms fs ++ wM cI cJ k nn ln sa sb wg kt' fr pt wl tn up lo) H := hP
  have hD : va_D (fun q : Nat => s.heap.size ≤ q) (wX cI cJ q nc lc le ge wt kp' fo po na ns ta ts mx ch mo ms fs ++ wM cI cJ k nn ln sa sb wg kt' fr pt wl tn up lo) := hD
  refine lv_icmp_eq (tgt := 684) hx hb dL_law_241 (by decide) (fun c9 => ?_) (fun c9 => absurd rfl c9)
  exact hk nc lc le ge wt kp' fo po na ns ta ts mx ch mo ms fs nn ln sa sb wg kt' fr pt wl tn up lo H locs ls hR1 hP hD hS (lv_sub hl [0, 1, 2, 3] rfl)
set_option maxHeartbeats 4000000 in
set_option maxRecDepth 100000 in
theorem law_at {p : Program} {l : Launch} {e : Env} {s : State} {m : MethodId} {below : List Frame} {meth : Method} {c : Code} {dC : Nat → ClassId} {dI : Nat → Nat → Nat} {cI cJ : ClassId} {b L : Nat} {xs : Nat → Int32} (hL : L ≤ 2560) (C0 : lw_At p s m meth c b L xs) (hK : va_K (dC, dI) vwCl (fw_tys cI cJ) s) (hN : va_Nw fw_nest s) (q k : Nat → Nat) (nc : Int32) (lc : Int32) (le : Nat → Int32) (ge : Nat → Int32) (wt : Nat → Int32) (kp : Nat → Int32) (fo : Nat → Int32) (po : Nat → Int32) (na : Nat → Int32) (ns : Int32) (ta : Nat → Int32) (ts : Int32) (mx : Nat → Int64) (ch : Nat → Int32) (mo : Nat → Int64) (ms : Int32) (fs : Nat → Int32) (nn : Int32) (ln : Int32) (sa : Nat → Int32) (sb : Nat → Int32) (wg : Nat → Int32) (kt : Nat → Int32) (fr : Nat → Int32) (pt : Nat → Int32) (wl : Nat → Int32) (tn : Nat → Int32) (up : Int64) (lo : Int64) (hR : fw_R nc lc le ge wt kp fs nn ln sa sb wg kt) (x3 : Int32) (hin : ∀ j : Nat, j < 5 → vp_in (x3 + nI j) L) (H : Heap) (locs : List Loc) (ls : Array Slot) (hP : va_P (dC, dI) vwCl (wX cI cJ q nc lc le ge wt kp fo po na ns ta ts mx ch mo ms fs ++ wM cI cJ k nn ln sa sb wg kt fr pt wl tn up lo) H) (hD : va_D (fun q : Nat => s.heap.size ≤ q) (wX cI cJ q nc lc le ge wt kp fo po na ns ta ts mx ch mo ms fs ++ wM cI cJ k nn ln sa sb wg kt fr pt wl tn up lo)) (hS : va_S (fun q : Nat => s.heap.size ≤ q) s.heap H locs) (hl : lv_has ls 4 [(3, .int x3), (2, .ref (k 0)), (1, .ref (q 0)), (0, .ref b)])
    (hk : ∀ (nc : Int32) (lc : Int32) (le : Nat → Int32) (ge : Nat → Int32) (wt : Nat → Int32) (kp : Nat → Int32) (fo : Nat → Int32) (po : Nat → Int32) (na : Nat → Int32) (ns : Int32) (ta : Nat → Int32) (ts : Int32) (mx : Nat → Int64) (ch : Nat → Int32) (mo : Nat → Int64) (ms : Int32) (fs : Nat → Int32) (nn : Int32) (ln : Int32) (sa : Nat → Int32) (sb : Nat → Int32) (wg : Nat → Int32) (kt : Nat → Int32) (fr : Nat → Int32) (pt : Nat → Int32) (wl : Nat → Int32) (tn : Nat → Int32) (up : Int64) (lo : Int64) (H : Heap) (locs : List Loc) (ls : Array Slot), fw_R nc lc le ge wt kp fs nn ln sa sb wg kt → va_P (dC, dI) vwCl (wX cI cJ q nc lc le ge wt kp fo po na ns ta ts mx ch mo ms fs ++ wM cI cJ k nn ln sa sb wg kt fr pt wl tn up lo) H → va_D (fun q : Nat => s.heap.size ≤ q) (wX cI cJ q nc lc le ge wt kp fo po na ns ta ts mx ch mo ms fs ++ wM cI cJ k nn ln sa sb wg kt fr pt wl tn up lo) → va_S (fun q : Nat => s.heap.size ≤ q) s.heap H locs → lv_has ls 4 [(3, .int x3), (2, .ref (k 0)), (1, .ref (q 0)), (0, .ref b)] → W p l e room_1 s m #[Value.ref b] below meth c H locs 26 600 (lw_Z below #[Value.ref b] s) (F0 m 684 ls [])) : W p l e room_1 s m #[Value.ref b] below meth c H locs 26 600 (lw_Z below #[Value.ref b] s) (F0 m 246 ls []) := by
  obtain ⟨hx, hb, hr, hml, hown, hts, hX, hbl, hlocks, hgv⟩ := C0
  have hb : c.code = cL_law := hb
  have hown : s.vm.findClass RL = some m.cls := hown
  have htl : ∀ w ∈ wsL_law, w.before #[Value.ref b] s = true := fun w h => hts w (wsL_law_in w h)
  have hA : ∀ q : Nat, s.heap.size ≤ q → (fun q : Nat => s.heap.size ≤ q) q := fun _ h => h
  have hbA : ¬ (fun q : Nat => s.heap.size ≤ q) b := Nat.not_le.mpr hbl
  obtain ⟨r, fo', po', fr', pt',  hX1, hM1, hR1⟩ := st_at nc lc le ge wt kp fs nn ln sa sb wg kt hR fo po fr pt (xs (x3 + (1 : Int32)).toNatClampNeg) (xs (x3 + (2 : Int32)).toNatClampNeg)
  refine lv_aload_n hx hb dL_law_246 rfl (lv_at hl 2 rfl) ?_
  refine lv_aload_n hx hb dL_law_247 rfl (lv_at hl 3 rfl) ?_
  refine lv_iload_n hx hb dL_law_248 rfl (lv_at hl 0 rfl) ?_
  refine lv_iconst (v := (1 : Int32)) hx hb dL_law_249 (by decide) ?_
  refine lv_iadd hx hb dL_law_250 ?_
  refine va_sld hx hb hX hbl hbA hS (hin 1 (by decide)) dL_law_251 ?_
  refine lv_aload_n hx hb dL_law_252 rfl (lv_at hl 3 rfl) ?_
  refine lv_iload_n hx hb dL_law_253 rfl (lv_at hl 0 rfl) ?_
  refine lv_iconst (v := (2 : Int32)) hx hb dL_law_254 (by decide) ?_
  refine lv_iadd hx hb dL_law_255 ?_
  refine va_sld hx hb hX hbl hbA hS (hin 2 (by decide)) dL_law_256 ?_
  have hPc := hP.sub (ws' := (wX cI cJ q nc lc le ge wt kp fo po na ns ta ts mx ch mo ms fs)) [0, 1, 2, 3, 4, 5, 6, 7, 8, 9, 10, 11, 12, 13, 14, 15, 16] rfl
  have hDc := hD.sub (ws' := (wX cI cJ q nc lc le ge wt kp fo po na ns ta ts mx ch mo ms fs)) [0, 1, 2, 3, 4, 5, 6, 7, 8, 9, 10, 11, 12, 13, 14, 15, 16] (by decide) rfl
  refine fw_ci (wr := (wM cI cJ k nn ln sa sb wg kt fr pt wl tn up lo)) (w2 := fun u => (wX cI cJ q nc lc le ge wt kp u.1 u.2 na ns ta ts mx ch mo ms fs ++ wM cI cJ k nn ln sa sb wg kt fr pt wl tn up lo)) [0, 1, 2, 3, 4, 5, 6, 7, 8, 9, 10, 11, 12, 13, 14, 15, 16] [17, 18, 19, 20, 21, 22, 23, 24, 25] [9, 10, 11, 12, 13, 14, 15, 16, 17, 18, 19, 20, 21, 22, 23, 24, 25, 0, 1, 2, 3, 4, 5, 6, 7, 8] (va_runV (b := q 0) (As := [.int (xs (x3 + (1 : Int32)).toNatClampNeg), .int (xs (x3 + (2 : Int32)).toNatClampNeg)]) (rest := []) ⟨hx, hb, hml, hown, htl⟩ (kX3_at l dC dI cI cJ q H.size nc lc le ge wt kp fo po na ns ta ts mx ch mo ms fs (xs (x3 + (1 : Int32)).toNatClampNeg) (xs (x3 + (2 : Int32)).toNatClampNeg) ⟨_, hX1⟩) (cwV 2 htl gL_law_X3_at rfl rfl rfl (by decide +kernel) ⟨Nat.le_of_ble_eq_true rfl, Nat.le_of_ble_eq_true rfl⟩) ⟨fw_blind, va_recv hK hPc (ci := 3) (q0 := 0) rfl rfl, fun U hU hW => fw_pre hPc hK hDc hN hU hW⟩ rfl rfl hl.1 rfl (lv_room (Nat.le_of_ble_eq_true rfl)) dL_law_257 ⟨Nat.le_of_ble_eq_true rfl, Nat.le_of_ble_eq_true rfl⟩) hP hD hS hA rfl rfl (by decide) (by decide) (by decide) (fun _ => rfl) (fun r1 u H locs hw hP hD hS => ?_)
  have h9 := hX1.symm.trans hw
  cases h9
  have hP : va_P (dC, dI) vwCl (wX cI cJ q nc lc le ge wt kp fo' po' na ns ta ts mx ch mo ms fs ++ wM cI cJ k nn ln sa sb wg kt fr pt wl tn up lo) H := hP
  have hD : va_D (fun q : Nat => s.heap.size ≤ q) (wX cI cJ q nc lc le ge wt kp fo' po' na ns ta ts mx ch mo ms fs ++ wM cI cJ k nn ln sa sb wg kt fr pt wl tn up lo) := hD
  refine lv_aload_n hx hb dL_law_260 rfl (lv_at hl 1 rfl) ?_
  refine lv_aload_n hx hb dL_law_261 rfl (lv_at hl 3 rfl) ?_
  refine lv_iload_n hx hb dL_law_262 rfl (lv_at hl 0 rfl) ?_
  refine lv_iconst (v := (1 : Int32)) hx hb dL_law_263 (by decide) ?_
  refine lv_iadd hx hb dL_law_264 ?_
  refine va_sld hx hb hX hbl hbA hS (hin 1 (by decide)) dL_law_265 ?_
  refine lv_aload_n hx hb dL_law_266 rfl (lv_at hl 3 rfl) ?_
  refine lv_iload_n hx hb dL_law_267 rfl (lv_at hl 0 rfl) ?_
  refine lv_iconst (v := (2 : Int32)) hx hb dL_law_268 (by decide) ?_
  refine lv_iadd hx hb dL_law_269 ?_
  refine va_sld hx hb hX hbl hbA hS (hin 2 (by decide)) dL_law_270 ?_
  have hPc := hP.sub (ws' := (wM cI cJ k nn ln sa sb wg kt fr pt wl tn up lo)) [17, 18, 19, 20, 21, 22, 23, 24, 25] rfl
  have hDc := hD.sub (ws' := (wM cI cJ k nn ln sa sb wg kt fr pt wl tn up lo)) [17, 18, 19, 20, 21, 22, 23, 24, 25] (by decide) rfl
  refine fw_ci (wr := (wX cI cJ q nc lc le ge wt kp fo' po' na ns ta ts mx ch mo ms fs)) (w2 := fun u => (wX cI cJ q nc lc le ge wt kp fo' po' na ns ta ts mx ch mo ms fs ++ wM cI cJ k nn ln sa sb wg kt u.1 u.2 wl tn up lo)) [17, 18, 19, 20, 21, 22, 23, 24, 25] [0, 1, 2, 3, 4, 5, 6, 7, 8, 9, 10, 11, 12, 13, 14, 15, 16] [0, 1, 2, 3, 4, 5, 6, 7, 8, 9, 10, 11, 12, 13, 14, 15, 16, 17, 18, 19, 20, 21, 22, 23, 24, 25] (va_runV (b := k 0) (As := [.int (xs (x3 + (1 : Int32)).toNatClampNeg), .int (xs (x3 + (2 : Int32)).toNatClampNeg)]) (rest := [.int r]) ⟨hx, hb, hml, hown, htl⟩ (kX4_at l dC dI cI cJ k H.size nn ln sa sb wg kt fr pt wl tn up lo (xs (x3 + (1 : Int32)).toNatClampNeg) (xs (x3 + (2 : Int32)).toNatClampNeg) ⟨_, hM1⟩) (cwV 2 htl gL_law_X4_at rfl rfl rfl (by decide +kernel) ⟨Nat.le_of_ble_eq_true rfl, Nat.le_of_ble_eq_true rfl⟩) ⟨fw_blind, va_recv hK hPc (ci := 4) (q0 := 0) rfl rfl, fun U hU hW => fw_pre hPc hK hDc hN hU hW⟩ rfl rfl hl.1 rfl (lv_room (Nat.le_of_ble_eq_true rfl)) dL_law_271 ⟨Nat.le_of_ble_eq_true rfl, Nat.le_of_ble_eq_true rfl⟩) hP hD hS hA rfl rfl (by decide) (by decide) (by decide) (fun _ => rfl) (fun r1 u H locs hw hP hD hS => ?_)
  have h9 := hM1.symm.trans hw
  cases h9
  have hP : va_P (dC, dI) vwCl (wX cI cJ q nc lc le ge wt kp fo' po' na ns ta ts mx ch mo ms fs ++ wM cI cJ k nn ln sa sb wg kt fr' pt' wl tn up lo) H := hP
  have hD : va_D (fun q : Nat => s.heap.size ≤ q) (wX cI cJ q nc lc le ge wt kp fo' po' na ns ta ts mx ch mo ms fs ++ wM cI cJ k nn ln sa sb wg kt fr' pt' wl tn up lo) := hD
  refine lv_icmp_eq (tgt := 684) hx hb dL_law_274 (by decide) (fun c9 => ?_) (fun c9 => absurd rfl c9)
  exact hk nc lc le ge wt kp fo' po' na ns ta ts mx ch mo ms fs nn ln sa sb wg kt fr' pt' wl tn up lo H locs ls hR1 hP hD hS (lv_sub hl [0, 1, 2, 3] rfl)
set_option maxHeartbeats 4000000 in
set_option maxRecDepth 100000 in
theorem law_cut {p : Program} {l : Launch} {e : Env} {s : State} {m : MethodId} {below : List Frame} {meth : Method} {c : Code} {dC : Nat → ClassId} {dI : Nat → Nat → Nat} {cI cJ : ClassId} {b L : Nat} {xs : Nat → Int32} (hL : L ≤ 2560) (C0 : lw_At p s m meth c b L xs) (hK : va_K (dC, dI) vwCl (fw_tys cI cJ) s) (hN : va_Nw fw_nest s) (q k : Nat → Nat) (nc : Int32) (lc : Int32) (le : Nat → Int32) (ge : Nat → Int32) (wt : Nat → Int32) (kp : Nat → Int32) (fo : Nat → Int32) (po : Nat → Int32) (na : Nat → Int32) (ns : Int32) (ta : Nat → Int32) (ts : Int32) (mx : Nat → Int64) (ch : Nat → Int32) (mo : Nat → Int64) (ms : Int32) (fs : Nat → Int32) (nn : Int32) (ln : Int32) (sa : Nat → Int32) (sb : Nat → Int32) (wg : Nat → Int32) (kt : Nat → Int32) (fr : Nat → Int32) (pt : Nat → Int32) (wl : Nat → Int32) (tn : Nat → Int32) (up : Int64) (lo : Int64) (hR : fw_R nc lc le ge wt kp fs nn ln sa sb wg kt) (x3 : Int32) (hin : ∀ j : Nat, j < 5 → vp_in (x3 + nI j) L) (H : Heap) (locs : List Loc) (ls : Array Slot) (hP : va_P (dC, dI) vwCl (wX cI cJ q nc lc le ge wt kp fo po na ns ta ts mx ch mo ms fs ++ wM cI cJ k nn ln sa sb wg kt fr pt wl tn up lo) H) (hD : va_D (fun q : Nat => s.heap.size ≤ q) (wX cI cJ q nc lc le ge wt kp fo po na ns ta ts mx ch mo ms fs ++ wM cI cJ k nn ln sa sb wg kt fr pt wl tn up lo)) (hS : va_S (fun q : Nat => s.heap.size ≤ q) s.heap H locs) (hl : lv_has ls 4 [(3, .int x3), (2, .ref (k 0)), (1, .ref (q 0)), (0, .ref b)])
    (hk : ∀ (nc : Int32) (lc : Int32) (le : Nat → Int32) (ge : Nat → Int32) (wt : Nat → Int32) (kp : Nat → Int32) (fo : Nat → Int32) (po : Nat → Int32) (na : Nat → Int32) (ns : Int32) (ta : Nat → Int32) (ts : Int32) (mx : Nat → Int64) (ch : Nat → Int32) (mo : Nat → Int64) (ms : Int32) (fs : Nat → Int32) (nn : Int32) (ln : Int32) (sa : Nat → Int32) (sb : Nat → Int32) (wg : Nat → Int32) (kt : Nat → Int32) (fr : Nat → Int32) (pt : Nat → Int32) (wl : Nat → Int32) (tn : Nat → Int32) (up : Int64) (lo : Int64) (H : Heap) (locs : List Loc) (ls : Array Slot), fw_R nc lc le ge wt kp fs nn ln sa sb wg kt → va_P (dC, dI) vwCl (wX cI cJ q nc lc le ge wt kp fo po na ns ta ts mx ch mo ms fs ++ wM cI cJ k nn ln sa sb wg kt fr pt wl tn up lo) H → va_D (fun q : Nat => s.heap.size ≤ q) (wX cI cJ q nc lc le ge wt kp fo po na ns ta ts mx ch mo ms fs ++ wM cI cJ k nn ln sa sb wg kt fr pt wl tn up lo) → va_S (fun q : Nat => s.heap.size ≤ q) s.heap H locs → lv_has ls 4 [(3, .int x3), (2, .ref (k 0)), (1, .ref (q 0)), (0, .ref b)] → W p l e room_1 s m #[Value.ref b] below meth c H locs 26 600 (lw_Z below #[Value.ref b] s) (F0 m 684 ls [])) : W p l e room_1 s m #[Value.ref b] below meth c H locs 26 600 (lw_Z below #[Value.ref b] s) (F0 m 279 ls []) := by
  obtain ⟨hx, hb, hr, hml, hown, hts, hX, hbl, hlocks, hgv⟩ := C0
  have hb : c.code = cL_law := hb
  have hown : s.vm.findClass RL = some m.cls := hown
  have htl : ∀ w ∈ wsL_law, w.before #[Value.ref b] s = true := fun w h => hts w (wsL_law_in w h)
  have hA : ∀ q : Nat, s.heap.size ≤ q → (fun q : Nat => s.heap.size ≤ q) q := fun _ h => h
  have hbA : ¬ (fun q : Nat => s.heap.size ≤ q) b := Nat.not_le.mpr hbl
  obtain ⟨r,  hX1, hM1, hR1⟩ := st_cut nc lc le ge wt kp fs nn ln sa sb wg kt hR   (xs (x3 + (1 : Int32)).toNatClampNeg) (xs (x3 + (2 : Int32)).toNatClampNeg)
  refine lv_aload_n hx hb dL_law_279 rfl (lv_at hl 2 rfl) ?_
  refine lv_aload_n hx hb dL_law_280 rfl (lv_at hl 3 rfl) ?_
  refine lv_iload_n hx hb dL_law_281 rfl (lv_at hl 0 rfl) ?_
  refine lv_iconst (v := (1 : Int32)) hx hb dL_law_282 (by decide) ?_
  refine lv_iadd hx hb dL_law_283 ?_
  refine va_sld hx hb hX hbl hbA hS (hin 1 (by decide)) dL_law_284 ?_
  refine lv_aload_n hx hb dL_law_285 rfl (lv_at hl 3 rfl) ?_
  refine lv_iload_n hx hb dL_law_286 rfl (lv_at hl 0 rfl) ?_
  refine lv_iconst (v := (2 : Int32)) hx hb dL_law_287 (by decide) ?_
  refine lv_iadd hx hb dL_law_288 ?_
  refine va_sld hx hb hX hbl hbA hS (hin 2 (by decide)) dL_law_289 ?_
  have hPc := hP.sub (ws' := (wX cI cJ q nc lc le ge wt kp fo po na ns ta ts mx ch mo ms fs)) [0, 1, 2, 3, 4, 5, 6, 7, 8, 9, 10, 11, 12, 13, 14, 15, 16] rfl
  have hDc := hD.sub (ws' := (wX cI cJ q nc lc le ge wt kp fo po na ns ta ts mx ch mo ms fs)) [0, 1, 2, 3, 4, 5, 6, 7, 8, 9, 10, 11, 12, 13, 14, 15, 16] (by decide) rfl
  refine fw_ci (wr := (wM cI cJ k nn ln sa sb wg kt fr pt wl tn up lo)) (w2 := fun u => (wX cI cJ q nc lc le ge wt kp fo po na ns ta ts mx ch mo ms fs ++ wM cI cJ k nn ln sa sb wg kt fr pt wl tn up lo)) [0, 1, 2, 3, 4, 5, 6, 7, 8, 9, 10, 11, 12, 13, 14, 15, 16] [17, 18, 19, 20, 21, 22, 23, 24, 25] [9, 10, 11, 12, 13, 14, 15, 16, 17, 18, 19, 20, 21, 22, 23, 24, 25, 0, 1, 2, 3, 4, 5, 6, 7, 8] (va_runV (b := q 0) (As := [.int (xs (x3 + (1 : Int32)).toNatClampNeg), .int (xs (x3 + (2 : Int32)).toNatClampNeg)]) (rest := []) ⟨hx, hb, hml, hown, htl⟩ (kX3_cut l dC dI cI cJ q H.size nc lc le ge wt kp fo po na ns ta ts mx ch mo ms fs (xs (x3 + (1 : Int32)).toNatClampNeg) (xs (x3 + (2 : Int32)).toNatClampNeg) ⟨_, hX1⟩) (cwV 2 htl gL_law_X3_cut rfl rfl rfl (by decide +kernel) ⟨Nat.le_of_ble_eq_true rfl, Nat.le_of_ble_eq_true rfl⟩) ⟨fw_blind, va_recv hK hPc (ci := 3) (q0 := 0) rfl rfl, fun U hU hW => fw_pre hPc hK hDc hN hU hW⟩ rfl rfl hl.1 rfl (lv_room (Nat.le_of_ble_eq_true rfl)) dL_law_290 ⟨Nat.le_of_ble_eq_true rfl, Nat.le_of_ble_eq_true rfl⟩) hP hD hS hA rfl rfl (by decide) (by decide) (by decide) (fun _ => rfl) (fun r1 u H locs hw hP hD hS => ?_)
  have h9 := hX1.symm.trans hw
  cases h9
  have hP : va_P (dC, dI) vwCl (wX cI cJ q nc lc le ge wt kp fo po na ns ta ts mx ch mo ms fs ++ wM cI cJ k nn ln sa sb wg kt fr pt wl tn up lo) H := hP
  have hD : va_D (fun q : Nat => s.heap.size ≤ q) (wX cI cJ q nc lc le ge wt kp fo po na ns ta ts mx ch mo ms fs ++ wM cI cJ k nn ln sa sb wg kt fr pt wl tn up lo) := hD
  refine lv_aload_n hx hb dL_law_293 rfl (lv_at hl 1 rfl) ?_
  refine lv_aload_n hx hb dL_law_294 rfl (lv_at hl 3 rfl) ?_
  refine lv_iload_n hx hb dL_law_295 rfl (lv_at hl 0 rfl) ?_
  refine lv_iconst (v := (1 : Int32)) hx hb dL_law_296 (by decide) ?_
  refine lv_iadd hx hb dL_law_297 ?_
  refine va_sld hx hb hX hbl hbA hS (hin 1 (by decide)) dL_law_298 ?_
  refine lv_aload_n hx hb dL_law_299 rfl (lv_at hl 3 rfl) ?_
  refine lv_iload_n hx hb dL_law_300 rfl (lv_at hl 0 rfl) ?_
  refine lv_iconst (v := (2 : Int32)) hx hb dL_law_301 (by decide) ?_
  refine lv_iadd hx hb dL_law_302 ?_
  refine va_sld hx hb hX hbl hbA hS (hin 2 (by decide)) dL_law_303 ?_
  have hPc := hP.sub (ws' := (wM cI cJ k nn ln sa sb wg kt fr pt wl tn up lo)) [17, 18, 19, 20, 21, 22, 23, 24, 25] rfl
  have hDc := hD.sub (ws' := (wM cI cJ k nn ln sa sb wg kt fr pt wl tn up lo)) [17, 18, 19, 20, 21, 22, 23, 24, 25] (by decide) rfl
  refine fw_ci (wr := (wX cI cJ q nc lc le ge wt kp fo po na ns ta ts mx ch mo ms fs)) (w2 := fun u => (wX cI cJ q nc lc le ge wt kp fo po na ns ta ts mx ch mo ms fs ++ wM cI cJ k nn ln sa sb wg kt fr pt wl tn up lo)) [17, 18, 19, 20, 21, 22, 23, 24, 25] [0, 1, 2, 3, 4, 5, 6, 7, 8, 9, 10, 11, 12, 13, 14, 15, 16] [0, 1, 2, 3, 4, 5, 6, 7, 8, 9, 10, 11, 12, 13, 14, 15, 16, 17, 18, 19, 20, 21, 22, 23, 24, 25] (va_runV (b := k 0) (As := [.int (xs (x3 + (1 : Int32)).toNatClampNeg), .int (xs (x3 + (2 : Int32)).toNatClampNeg)]) (rest := [.int r]) ⟨hx, hb, hml, hown, htl⟩ (kX4_cut l dC dI cI cJ k H.size nn ln sa sb wg kt fr pt wl tn up lo (xs (x3 + (1 : Int32)).toNatClampNeg) (xs (x3 + (2 : Int32)).toNatClampNeg) ⟨_, hM1⟩) (cwV 2 htl gL_law_X4_cut rfl rfl rfl (by decide +kernel) ⟨Nat.le_of_ble_eq_true rfl, Nat.le_of_ble_eq_true rfl⟩) ⟨fw_blind, va_recv hK hPc (ci := 4) (q0 := 0) rfl rfl, fun U hU hW => fw_pre hPc hK hDc hN hU hW⟩ rfl rfl hl.1 rfl (lv_room (Nat.le_of_ble_eq_true rfl)) dL_law_304 ⟨Nat.le_of_ble_eq_true rfl, Nat.le_of_ble_eq_true rfl⟩) hP hD hS hA rfl rfl (by decide) (by decide) (by decide) (fun _ => rfl) (fun r1 u H locs hw hP hD hS => ?_)
  have h9 := hM1.symm.trans hw
  cases h9
  have hP : va_P (dC, dI) vwCl (wX cI cJ q nc lc le ge wt kp fo po na ns ta ts mx ch mo ms fs ++ wM cI cJ k nn ln sa sb wg kt fr pt wl tn up lo) H := hP
  have hD : va_D (fun q : Nat => s.heap.size ≤ q) (wX cI cJ q nc lc le ge wt kp fo po na ns ta ts mx ch mo ms fs ++ wM cI cJ k nn ln sa sb wg kt fr pt wl tn up lo) := hD
  refine lv_icmp_eq (tgt := 684) hx hb dL_law_307 (by decide) (fun c9 => ?_) (fun c9 => absurd rfl c9)
  exact hk nc lc le ge wt kp fo po na ns ta ts mx ch mo ms fs nn ln sa sb wg kt fr pt wl tn up lo H locs ls hR1 hP hD hS (lv_sub hl [0, 1, 2, 3] rfl)
set_option maxHeartbeats 4000000 in
set_option maxRecDepth 100000 in
theorem law_worst {p : Program} {l : Launch} {e : Env} {s : State} {m : MethodId} {below : List Frame} {meth : Method} {c : Code} {dC : Nat → ClassId} {dI : Nat → Nat → Nat} {cI cJ : ClassId} {b L : Nat} {xs : Nat → Int32} (hL : L ≤ 2560) (C0 : lw_At p s m meth c b L xs) (hK : va_K (dC, dI) vwCl (fw_tys cI cJ) s) (hN : va_Nw fw_nest s) (q k : Nat → Nat) (nc : Int32) (lc : Int32) (le : Nat → Int32) (ge : Nat → Int32) (wt : Nat → Int32) (kp : Nat → Int32) (fo : Nat → Int32) (po : Nat → Int32) (na : Nat → Int32) (ns : Int32) (ta : Nat → Int32) (ts : Int32) (mx : Nat → Int64) (ch : Nat → Int32) (mo : Nat → Int64) (ms : Int32) (fs : Nat → Int32) (nn : Int32) (ln : Int32) (sa : Nat → Int32) (sb : Nat → Int32) (wg : Nat → Int32) (kt : Nat → Int32) (fr : Nat → Int32) (pt : Nat → Int32) (wl : Nat → Int32) (tn : Nat → Int32) (up : Int64) (lo : Int64) (hR : fw_R nc lc le ge wt kp fs nn ln sa sb wg kt) (x3 : Int32) (hin : ∀ j : Nat, j < 5 → vp_in (x3 + nI j) L) (H : Heap) (locs : List Loc) (ls : Array Slot) (hP : va_P (dC, dI) vwCl (wX cI cJ q nc lc le ge wt kp fo po na ns ta ts mx ch mo ms fs ++ wM cI cJ k nn ln sa sb wg kt fr pt wl tn up lo) H) (hD : va_D (fun q : Nat => s.heap.size ≤ q) (wX cI cJ q nc lc le ge wt kp fo po na ns ta ts mx ch mo ms fs ++ wM cI cJ k nn ln sa sb wg kt fr pt wl tn up lo)) (hS : va_S (fun q : Nat => s.heap.size ≤ q) s.heap H locs) (hl : lv_has ls 4 [(3, .int x3), (2, .ref (k 0)), (1, .ref (q 0)), (0, .ref b)])
    (hk : ∀ (nc : Int32) (lc : Int32) (le : Nat → Int32) (ge : Nat → Int32) (wt : Nat → Int32) (kp : Nat → Int32) (fo : Nat → Int32) (po : Nat → Int32) (na : Nat → Int32) (ns : Int32) (ta : Nat → Int32) (ts : Int32) (mx : Nat → Int64) (ch : Nat → Int32) (mo : Nat → Int64) (ms : Int32) (fs : Nat → Int32) (nn : Int32) (ln : Int32) (sa : Nat → Int32) (sb : Nat → Int32) (wg : Nat → Int32) (kt : Nat → Int32) (fr : Nat → Int32) (pt : Nat → Int32) (wl : Nat → Int32) (tn : Nat → Int32) (up : Int64) (lo : Int64) (H : Heap) (locs : List Loc) (ls : Array Slot), fw_R nc lc le ge wt kp fs nn ln sa sb wg kt → va_P (dC, dI) vwCl (wX cI cJ q nc lc le ge wt kp fo po na ns ta ts mx ch mo ms fs ++ wM cI cJ k nn ln sa sb wg kt fr pt wl tn up lo) H → va_D (fun q : Nat => s.heap.size ≤ q) (wX cI cJ q nc lc le ge wt kp fo po na ns ta ts mx ch mo ms fs ++ wM cI cJ k nn ln sa sb wg kt fr pt wl tn up lo) → va_S (fun q : Nat => s.heap.size ≤ q) s.heap H locs → lv_has ls 4 [(3, .int x3), (2, .ref (k 0)), (1, .ref (q 0)), (0, .ref b)] → W p l e room_1 s m #[Value.ref b] below meth c H locs 26 600 (lw_Z below #[Value.ref b] s) (F0 m 684 ls [])) : W p l e room_1 s m #[Value.ref b] below meth c H locs 26 600 (lw_Z below #[Value.ref b] s) (F0 m 312 ls []) := by
  obtain ⟨hx, hb, hr, hml, hown, hts, hX, hbl, hlocks, hgv⟩ := C0
  have hb : c.code = cL_law := hb
  have hown : s.vm.findClass RL = some m.cls := hown
  have htl : ∀ w ∈ wsL_law, w.before #[Value.ref b] s = true := fun w h => hts w (wsL_law_in w h)
  have hA : ∀ q : Nat, s.heap.size ≤ q → (fun q : Nat => s.heap.size ≤ q) q := fun _ h => h
  have hbA : ¬ (fun q : Nat => s.heap.size ≤ q) b := Nat.not_le.mpr hbl
  obtain ⟨r,  hX1, hM1, hR1⟩ := st_worst nc lc le ge wt kp fs nn ln sa sb wg kt hR   (xs (x3 + (1 : Int32)).toNatClampNeg)
  refine lv_aload_n hx hb dL_law_312 rfl (lv_at hl 2 rfl) ?_
  refine lv_aload_n hx hb dL_law_313 rfl (lv_at hl 3 rfl) ?_
  refine lv_iload_n hx hb dL_law_314 rfl (lv_at hl 0 rfl) ?_
  refine lv_iconst (v := (1 : Int32)) hx hb dL_law_315 (by decide) ?_
  refine lv_iadd hx hb dL_law_316 ?_
  refine va_sld hx hb hX hbl hbA hS (hin 1 (by decide)) dL_law_317 ?_
  have hPc := hP.sub (ws' := (wX cI cJ q nc lc le ge wt kp fo po na ns ta ts mx ch mo ms fs)) [0, 1, 2, 3, 4, 5, 6, 7, 8, 9, 10, 11, 12, 13, 14, 15, 16] rfl
  have hDc := hD.sub (ws' := (wX cI cJ q nc lc le ge wt kp fo po na ns ta ts mx ch mo ms fs)) [0, 1, 2, 3, 4, 5, 6, 7, 8, 9, 10, 11, 12, 13, 14, 15, 16] (by decide) rfl
  refine fw_ci (wr := (wM cI cJ k nn ln sa sb wg kt fr pt wl tn up lo)) (w2 := fun u => (wX cI cJ q nc lc le ge wt kp fo po na ns ta ts mx ch mo ms fs ++ wM cI cJ k nn ln sa sb wg kt fr pt wl tn up lo)) [0, 1, 2, 3, 4, 5, 6, 7, 8, 9, 10, 11, 12, 13, 14, 15, 16] [17, 18, 19, 20, 21, 22, 23, 24, 25] [9, 10, 11, 12, 13, 14, 15, 16, 17, 18, 19, 20, 21, 22, 23, 24, 25, 0, 1, 2, 3, 4, 5, 6, 7, 8] (va_runV (b := q 0) (As := [.int (xs (x3 + (1 : Int32)).toNatClampNeg)]) (rest := []) ⟨hx, hb, hml, hown, htl⟩ (kX3_worst l dC dI cI cJ q H.size nc lc le ge wt kp fo po na ns ta ts mx ch mo ms fs (xs (x3 + (1 : Int32)).toNatClampNeg) ⟨_, hX1⟩) (cwV 1 htl gL_law_X3_worst rfl rfl rfl (by decide +kernel) ⟨Nat.le_of_ble_eq_true rfl, Nat.le_of_ble_eq_true rfl⟩) ⟨fw_blind, va_recv hK hPc (ci := 3) (q0 := 0) rfl rfl, fun U hU hW => fw_pre hPc hK hDc hN hU hW⟩ rfl rfl hl.1 rfl (lv_room (Nat.le_of_ble_eq_true rfl)) dL_law_318 ⟨Nat.le_of_ble_eq_true rfl, Nat.le_of_ble_eq_true rfl⟩) hP hD hS hA rfl rfl (by decide) (by decide) (by decide) (fun _ => rfl) (fun r1 u H locs hw hP hD hS => ?_)
  have h9 := hX1.symm.trans hw
  cases h9
  have hP : va_P (dC, dI) vwCl (wX cI cJ q nc lc le ge wt kp fo po na ns ta ts mx ch mo ms fs ++ wM cI cJ k nn ln sa sb wg kt fr pt wl tn up lo) H := hP
  have hD : va_D (fun q : Nat => s.heap.size ≤ q) (wX cI cJ q nc lc le ge wt kp fo po na ns ta ts mx ch mo ms fs ++ wM cI cJ k nn ln sa sb wg kt fr pt wl tn up lo) := hD
  refine lv_aload_n hx hb dL_law_321 rfl (lv_at hl 1 rfl) ?_
  refine lv_aload_n hx hb dL_law_322 rfl (lv_at hl 3 rfl) ?_
  refine lv_iload_n hx hb dL_law_323 rfl (lv_at hl 0 rfl) ?_
  refine lv_iconst (v := (1 : Int32)) hx hb dL_law_324 (by decide) ?_
  refine lv_iadd hx hb dL_law_325 ?_
  refine va_sld hx hb hX hbl hbA hS (hin 1 (by decide)) dL_law_326 ?_
  have hPc := hP.sub (ws' := (wM cI cJ k nn ln sa sb wg kt fr pt wl tn up lo)) [17, 18, 19, 20, 21, 22, 23, 24, 25] rfl
  have hDc := hD.sub (ws' := (wM cI cJ k nn ln sa sb wg kt fr pt wl tn up lo)) [17, 18, 19, 20, 21, 22, 23, 24, 25] (by decide) rfl
  refine fw_ci (wr := (wX cI cJ q nc lc le ge wt kp fo po na ns ta ts mx ch mo ms fs)) (w2 := fun u => (wX cI cJ q nc lc le ge wt kp fo po na ns ta ts mx ch mo ms fs ++ wM cI cJ k nn ln sa sb wg kt fr pt wl tn up lo)) [17, 18, 19, 20, 21, 22, 23, 24, 25] [0, 1, 2, 3, 4, 5, 6, 7, 8, 9, 10, 11, 12, 13, 14, 15, 16] [0, 1, 2, 3, 4, 5, 6, 7, 8, 9, 10, 11, 12, 13, 14, 15, 16, 17, 18, 19, 20, 21, 22, 23, 24, 25] (va_runV (b := k 0) (As := [.int (xs (x3 + (1 : Int32)).toNatClampNeg)]) (rest := [.int r]) ⟨hx, hb, hml, hown, htl⟩ (kX4_worst l dC dI cI cJ k H.size nn ln sa sb wg kt fr pt wl tn up lo (xs (x3 + (1 : Int32)).toNatClampNeg) ⟨_, hM1⟩) (cwV 1 htl gL_law_X4_worst rfl rfl rfl (by decide +kernel) ⟨Nat.le_of_ble_eq_true rfl, Nat.le_of_ble_eq_true rfl⟩) ⟨fw_blind, va_recv hK hPc (ci := 4) (q0 := 0) rfl rfl, fun U hU hW => fw_pre hPc hK hDc hN hU hW⟩ rfl rfl hl.1 rfl (lv_room (Nat.le_of_ble_eq_true rfl)) dL_law_327 ⟨Nat.le_of_ble_eq_true rfl, Nat.le_of_ble_eq_true rfl⟩) hP hD hS hA rfl rfl (by decide) (by decide) (by decide) (fun _ => rfl) (fun r1 u H locs hw hP hD hS => ?_)
  have h9 := hM1.symm.trans hw
  cases h9
  have hP : va_P (dC, dI) vwCl (wX cI cJ q nc lc le ge wt kp fo po na ns ta ts mx ch mo ms fs ++ wM cI cJ k nn ln sa sb wg kt fr pt wl tn up lo) H := hP
  have hD : va_D (fun q : Nat => s.heap.size ≤ q) (wX cI cJ q nc lc le ge wt kp fo po na ns ta ts mx ch mo ms fs ++ wM cI cJ k nn ln sa sb wg kt fr pt wl tn up lo) := hD
  refine lv_icmp_eq (tgt := 684) hx hb dL_law_330 (by decide) (fun c9 => ?_) (fun c9 => absurd rfl c9)
  exact hk nc lc le ge wt kp fo po na ns ta ts mx ch mo ms fs nn ln sa sb wg kt fr pt wl tn up lo H locs ls hR1 hP hD hS (lv_sub hl [0, 1, 2, 3] rfl)
set_option maxHeartbeats 4000000 in
set_option maxRecDepth 100000 in
theorem law_promise {p : Program} {l : Launch} {e : Env} {s : State} {m : MethodId} {below : List Frame} {meth : Method} {c : Code} {dC : Nat → ClassId} {dI : Nat → Nat → Nat} {cI cJ : ClassId} {b L : Nat} {xs : Nat → Int32} (hL : L ≤ 2560) (C0 : lw_At p s m meth c b L xs) (hK : va_K (dC, dI) vwCl (fw_tys cI cJ) s) (hN : va_Nw fw_nest s) (q k : Nat → Nat) (nc : Int32) (lc : Int32) (le : Nat → Int32) (ge : Nat → Int32) (wt : Nat → Int32) (kp : Nat → Int32) (fo : Nat → Int32) (po : Nat → Int32) (na : Nat → Int32) (ns : Int32) (ta : Nat → Int32) (ts : Int32) (mx : Nat → Int64) (ch : Nat → Int32) (mo : Nat → Int64) (ms : Int32) (fs : Nat → Int32) (nn : Int32) (ln : Int32) (sa : Nat → Int32) (sb : Nat → Int32) (wg : Nat → Int32) (kt : Nat → Int32) (fr : Nat → Int32) (pt : Nat → Int32) (wl : Nat → Int32) (tn : Nat → Int32) (up : Int64) (lo : Int64) (hR : fw_R nc lc le ge wt kp fs nn ln sa sb wg kt) (x3 : Int32) (hin : ∀ j : Nat, j < 5 → vp_in (x3 + nI j) L) (H : Heap) (locs : List Loc) (ls : Array Slot) (hP : va_P (dC, dI) vwCl (wX cI cJ q nc lc le ge wt kp fo po na ns ta ts mx ch mo ms fs ++ wM cI cJ k nn ln sa sb wg kt fr pt wl tn up lo) H) (hD : va_D (fun q : Nat => s.heap.size ≤ q) (wX cI cJ q nc lc le ge wt kp fo po na ns ta ts mx ch mo ms fs ++ wM cI cJ k nn ln sa sb wg kt fr pt wl tn up lo)) (hS : va_S (fun q : Nat => s.heap.size ≤ q) s.heap H locs) (hl : lv_has ls 4 [(3, .int x3), (2, .ref (k 0)), (1, .ref (q 0)), (0, .ref b)])
    (hk : ∀ (nc : Int32) (lc : Int32) (le : Nat → Int32) (ge : Nat → Int32) (wt : Nat → Int32) (kp : Nat → Int32) (fo : Nat → Int32) (po : Nat → Int32) (na : Nat → Int32) (ns : Int32) (ta : Nat → Int32) (ts : Int32) (mx : Nat → Int64) (ch : Nat → Int32) (mo : Nat → Int64) (ms : Int32) (fs : Nat → Int32) (nn : Int32) (ln : Int32) (sa : Nat → Int32) (sb : Nat → Int32) (wg : Nat → Int32) (kt : Nat → Int32) (fr : Nat → Int32) (pt : Nat → Int32) (wl : Nat → Int32) (tn : Nat → Int32) (up : Int64) (lo : Int64) (H : Heap) (locs : List Loc) (ls : Array Slot), fw_R nc lc le ge wt kp fs nn ln sa sb wg kt → va_P (dC, dI) vwCl (wX cI cJ q nc lc le ge wt kp fo po na ns ta ts mx ch mo ms fs ++ wM cI cJ k nn ln sa sb wg kt fr pt wl tn up lo) H → va_D (fun q : Nat => s.heap.size ≤ q) (wX cI cJ q nc lc le ge wt kp fo po na ns ta ts mx ch mo ms fs ++ wM cI cJ k nn ln sa sb wg kt fr pt wl tn up lo) → va_S (fun q : Nat => s.heap.size ≤ q) s.heap H locs → lv_has ls 4 [(3, .int x3), (2, .ref (k 0)), (1, .ref (q 0)), (0, .ref b)] → W p l e room_1 s m #[Value.ref b] below meth c H locs 26 600 (lw_Z below #[Value.ref b] s) (F0 m 684 ls [])) : W p l e room_1 s m #[Value.ref b] below meth c H locs 26 600 (lw_Z below #[Value.ref b] s) (F0 m 335 ls []) := by
  obtain ⟨hx, hb, hr, hml, hown, hts, hX, hbl, hlocks, hgv⟩ := C0
  have hb : c.code = cL_law := hb
  have hown : s.vm.findClass RL = some m.cls := hown
  have htl : ∀ w ∈ wsL_law, w.before #[Value.ref b] s = true := fun w h => hts w (wsL_law_in w h)
  have hA : ∀ q : Nat, s.heap.size ≤ q → (fun q : Nat => s.heap.size ≤ q) q := fun _ h => h
  have hbA : ¬ (fun q : Nat => s.heap.size ≤ q) b := Nat.not_le.mpr hbl
  obtain ⟨r,  hX1, hM1, hR1⟩ := st_promise nc lc le ge wt kp fs nn ln sa sb wg kt hR   (xs (x3 + (1 : Int32)).toNatClampNeg) (xs (x3 + (2 : Int32)).toNatClampNeg)
  refine lv_aload_n hx hb dL_law_335 rfl (lv_at hl 2 rfl) ?_
  refine lv_aload_n hx hb dL_law_336 rfl (lv_at hl 3 rfl) ?_
  refine lv_iload_n hx hb dL_law_337 rfl (lv_at hl 0 rfl) ?_
  refine lv_iconst (v := (1 : Int32)) hx hb dL_law_338 (by decide) ?_
  refine lv_iadd hx hb dL_law_339 ?_
  refine va_sld hx hb hX hbl hbA hS (hin 1 (by decide)) dL_law_340 ?_
  refine lv_aload_n hx hb dL_law_341 rfl (lv_at hl 3 rfl) ?_
  refine lv_iload_n hx hb dL_law_342 rfl (lv_at hl 0 rfl) ?_
  refine lv_iconst (v := (2 : Int32)) hx hb dL_law_343 (by decide) ?_
  refine lv_iadd hx hb dL_law_344 ?_
  refine va_sld hx hb hX hbl hbA hS (hin 2 (by decide)) dL_law_345 ?_
  have hPc := hP.sub (ws' := (wX cI cJ q nc lc le ge wt kp fo po na ns ta ts mx ch mo ms fs)) [0, 1, 2, 3, 4, 5, 6, 7, 8, 9, 10, 11, 12, 13, 14, 15, 16] rfl
  have hDc := hD.sub (ws' := (wX cI cJ q nc lc le ge wt kp fo po na ns ta ts mx ch mo ms fs)) [0, 1, 2, 3, 4, 5, 6, 7, 8, 9, 10, 11, 12, 13, 14, 15, 16] (by decide) rfl
  refine fw_ci (wr := (wM cI cJ k nn ln sa sb wg kt fr pt wl tn up lo)) (w2 := fun u => (wX cI cJ q nc lc le ge wt kp fo po na ns ta ts mx ch mo ms fs ++ wM cI cJ k nn ln sa sb wg kt fr pt wl tn up lo)) [0, 1, 2, 3, 4, 5, 6, 7, 8, 9, 10, 11, 12, 13, 14, 15, 16] [17, 18, 19, 20, 21, 22, 23, 24, 25] [9, 10, 11, 12, 13, 14, 15, 16, 17, 18, 19, 20, 21, 22, 23, 24, 25, 0, 1, 2, 3, 4, 5, 6, 7, 8] (va_runV (b := q 0) (As := [.int (xs (x3 + (1 : Int32)).toNatClampNeg), .int (xs (x3 + (2 : Int32)).toNatClampNeg)]) (rest := []) ⟨hx, hb, hml, hown, htl⟩ (kX3_promise l dC dI cI cJ q H.size nc lc le ge wt kp fo po na ns ta ts mx ch mo ms fs (xs (x3 + (1 : Int32)).toNatClampNeg) (xs (x3 + (2 : Int32)).toNatClampNeg) ⟨_, hX1⟩) (cwV 2 htl gL_law_X3_promise rfl rfl rfl (by decide +kernel) ⟨Nat.le_of_ble_eq_true rfl, Nat.le_of_ble_eq_true rfl⟩) ⟨fw_blind, va_recv hK hPc (ci := 3) (q0 := 0) rfl rfl, fun U hU hW => fw_pre hPc hK hDc hN hU hW⟩ rfl rfl hl.1 rfl (lv_room (Nat.le_of_ble_eq_true rfl)) dL_law_346 ⟨Nat.le_of_ble_eq_true rfl, Nat.le_of_ble_eq_true rfl⟩) hP hD hS hA rfl rfl (by decide) (by decide) (by decide) (fun _ => rfl) (fun r1 u H locs hw hP hD hS => ?_)
  have h9 := hX1.symm.trans hw
  cases h9
  have hP : va_P (dC, dI) vwCl (wX cI cJ q nc lc le ge wt kp fo po na ns ta ts mx ch mo ms fs ++ wM cI cJ k nn ln sa sb wg kt fr pt wl tn up lo) H := hP
  have hD : va_D (fun q : Nat => s.heap.size ≤ q) (wX cI cJ q nc lc le ge wt kp fo po na ns ta ts mx ch mo ms fs ++ wM cI cJ k nn ln sa sb wg kt fr pt wl tn up lo) := hD
  refine lv_aload_n hx hb dL_law_349 rfl (lv_at hl 1 rfl) ?_
  refine lv_aload_n hx hb dL_law_350 rfl (lv_at hl 3 rfl) ?_
  refine lv_iload_n hx hb dL_law_351 rfl (lv_at hl 0 rfl) ?_
  refine lv_iconst (v := (1 : Int32)) hx hb dL_law_352 (by decide) ?_
  refine lv_iadd hx hb dL_law_353 ?_
  refine va_sld hx hb hX hbl hbA hS (hin 1 (by decide)) dL_law_354 ?_
  refine lv_aload_n hx hb dL_law_355 rfl (lv_at hl 3 rfl) ?_
  refine lv_iload_n hx hb dL_law_356 rfl (lv_at hl 0 rfl) ?_
  refine lv_iconst (v := (2 : Int32)) hx hb dL_law_357 (by decide) ?_
  refine lv_iadd hx hb dL_law_358 ?_
  refine va_sld hx hb hX hbl hbA hS (hin 2 (by decide)) dL_law_359 ?_
  have hPc := hP.sub (ws' := (wM cI cJ k nn ln sa sb wg kt fr pt wl tn up lo)) [17, 18, 19, 20, 21, 22, 23, 24, 25] rfl
  have hDc := hD.sub (ws' := (wM cI cJ k nn ln sa sb wg kt fr pt wl tn up lo)) [17, 18, 19, 20, 21, 22, 23, 24, 25] (by decide) rfl
  refine fw_ci (wr := (wX cI cJ q nc lc le ge wt kp fo po na ns ta ts mx ch mo ms fs)) (w2 := fun u => (wX cI cJ q nc lc le ge wt kp fo po na ns ta ts mx ch mo ms fs ++ wM cI cJ k nn ln sa sb wg kt fr pt wl tn up lo)) [17, 18, 19, 20, 21, 22, 23, 24, 25] [0, 1, 2, 3, 4, 5, 6, 7, 8, 9, 10, 11, 12, 13, 14, 15, 16] [0, 1, 2, 3, 4, 5, 6, 7, 8, 9, 10, 11, 12, 13, 14, 15, 16, 17, 18, 19, 20, 21, 22, 23, 24, 25] (va_runV (b := k 0) (As := [.int (xs (x3 + (1 : Int32)).toNatClampNeg), .int (xs (x3 + (2 : Int32)).toNatClampNeg)]) (rest := [.int r]) ⟨hx, hb, hml, hown, htl⟩ (kX4_promise l dC dI cI cJ k H.size nn ln sa sb wg kt fr pt wl tn up lo (xs (x3 + (1 : Int32)).toNatClampNeg) (xs (x3 + (2 : Int32)).toNatClampNeg) ⟨_, hM1⟩) (cwV 2 htl gL_law_X4_promise rfl rfl rfl (by decide +kernel) ⟨Nat.le_of_ble_eq_true rfl, Nat.le_of_ble_eq_true rfl⟩) ⟨fw_blind, va_recv hK hPc (ci := 4) (q0 := 0) rfl rfl, fun U hU hW => fw_pre hPc hK hDc hN hU hW⟩ rfl rfl hl.1 rfl (lv_room (Nat.le_of_ble_eq_true rfl)) dL_law_360 ⟨Nat.le_of_ble_eq_true rfl, Nat.le_of_ble_eq_true rfl⟩) hP hD hS hA rfl rfl (by decide) (by decide) (by decide) (fun _ => rfl) (fun r1 u H locs hw hP hD hS => ?_)
  have h9 := hM1.symm.trans hw
  cases h9
  have hP : va_P (dC, dI) vwCl (wX cI cJ q nc lc le ge wt kp fo po na ns ta ts mx ch mo ms fs ++ wM cI cJ k nn ln sa sb wg kt fr pt wl tn up lo) H := hP
  have hD : va_D (fun q : Nat => s.heap.size ≤ q) (wX cI cJ q nc lc le ge wt kp fo po na ns ta ts mx ch mo ms fs ++ wM cI cJ k nn ln sa sb wg kt fr pt wl tn up lo) := hD
  refine lv_icmp_eq (tgt := 684) hx hb dL_law_363 (by decide) (fun c9 => ?_) (fun c9 => absurd rfl c9)
  exact hk nc lc le ge wt kp fo po na ns ta ts mx ch mo ms fs nn ln sa sb wg kt fr pt wl tn up lo H locs ls hR1 hP hD hS (lv_sub hl [0, 1, 2, 3] rfl)
set_option maxHeartbeats 4000000 in
set_option maxRecDepth 100000 in
theorem law_forests {p : Program} {l : Launch} {e : Env} {s : State} {m : MethodId} {below : List Frame} {meth : Method} {c : Code} {dC : Nat → ClassId} {dI : Nat → Nat → Nat} {cI cJ : ClassId} {b L : Nat} {xs : Nat → Int32} (hL : L ≤ 2560) (C0 : lw_At p s m meth c b L xs) (hK : va_K (dC, dI) vwCl (fw_tys cI cJ) s) (hN : va_Nw fw_nest s) (q k : Nat → Nat) (nc : Int32) (lc : Int32) (le : Nat → Int32) (ge : Nat → Int32) (wt : Nat → Int32) (kp : Nat → Int32) (fo : Nat → Int32) (po : Nat → Int32) (na : Nat → Int32) (ns : Int32) (ta : Nat → Int32) (ts : Int32) (mx : Nat → Int64) (ch : Nat → Int32) (mo : Nat → Int64) (ms : Int32) (fs : Nat → Int32) (nn : Int32) (ln : Int32) (sa : Nat → Int32) (sb : Nat → Int32) (wg : Nat → Int32) (kt : Nat → Int32) (fr : Nat → Int32) (pt : Nat → Int32) (wl : Nat → Int32) (tn : Nat → Int32) (up : Int64) (lo : Int64) (hR : fw_R nc lc le ge wt kp fs nn ln sa sb wg kt) (x3 : Int32) (hin : ∀ j : Nat, j < 5 → vp_in (x3 + nI j) L) (H : Heap) (locs : List Loc) (ls : Array Slot) (hP : va_P (dC, dI) vwCl (wX cI cJ q nc lc le ge wt kp fo po na ns ta ts mx ch mo ms fs ++ wM cI cJ k nn ln sa sb wg kt fr pt wl tn up lo) H) (hD : va_D (fun q : Nat => s.heap.size ≤ q) (wX cI cJ q nc lc le ge wt kp fo po na ns ta ts mx ch mo ms fs ++ wM cI cJ k nn ln sa sb wg kt fr pt wl tn up lo)) (hS : va_S (fun q : Nat => s.heap.size ≤ q) s.heap H locs) (hl : lv_has ls 4 [(3, .int x3), (2, .ref (k 0)), (1, .ref (q 0)), (0, .ref b)])
    (hk : ∀ (nc : Int32) (lc : Int32) (le : Nat → Int32) (ge : Nat → Int32) (wt : Nat → Int32) (kp : Nat → Int32) (fo : Nat → Int32) (po : Nat → Int32) (na : Nat → Int32) (ns : Int32) (ta : Nat → Int32) (ts : Int32) (mx : Nat → Int64) (ch : Nat → Int32) (mo : Nat → Int64) (ms : Int32) (fs : Nat → Int32) (nn : Int32) (ln : Int32) (sa : Nat → Int32) (sb : Nat → Int32) (wg : Nat → Int32) (kt : Nat → Int32) (fr : Nat → Int32) (pt : Nat → Int32) (wl : Nat → Int32) (tn : Nat → Int32) (up : Int64) (lo : Int64) (H : Heap) (locs : List Loc) (ls : Array Slot), fw_R nc lc le ge wt kp fs nn ln sa sb wg kt → va_P (dC, dI) vwCl (wX cI cJ q nc lc le ge wt kp fo po na ns ta ts mx ch mo ms fs ++ wM cI cJ k nn ln sa sb wg kt fr pt wl tn up lo) H → va_D (fun q : Nat => s.heap.size ≤ q) (wX cI cJ q nc lc le ge wt kp fo po na ns ta ts mx ch mo ms fs ++ wM cI cJ k nn ln sa sb wg kt fr pt wl tn up lo) → va_S (fun q : Nat => s.heap.size ≤ q) s.heap H locs → lv_has ls 4 [(3, .int x3), (2, .ref (k 0)), (1, .ref (q 0)), (0, .ref b)] → W p l e room_1 s m #[Value.ref b] below meth c H locs 26 600 (lw_Z below #[Value.ref b] s) (F0 m 684 ls [])) : W p l e room_1 s m #[Value.ref b] below meth c H locs 26 600 (lw_Z below #[Value.ref b] s) (F0 m 368 ls []) := by
  obtain ⟨hx, hb, hr, hml, hown, hts, hX, hbl, hlocks, hgv⟩ := C0
  have hb : c.code = cL_law := hb
  have hown : s.vm.findClass RL = some m.cls := hown
  have htl : ∀ w ∈ wsL_law, w.before #[Value.ref b] s = true := fun w h => hts w (wsL_law_in w h)
  have hA : ∀ q : Nat, s.heap.size ≤ q → (fun q : Nat => s.heap.size ≤ q) q := fun _ h => h
  have hbA : ¬ (fun q : Nat => s.heap.size ≤ q) b := Nat.not_le.mpr hbl
  obtain ⟨r, fo', po', fr', pt',  hX1, hM1, hR1⟩ := st_forests nc lc le ge wt kp fs nn ln sa sb wg kt hR fo po fr pt 
  refine lv_aload_n hx hb dL_law_368 rfl (lv_at hl 2 rfl) ?_
  have hPc := hP.sub (ws' := (wX cI cJ q nc lc le ge wt kp fo po na ns ta ts mx ch mo ms fs)) [0, 1, 2, 3, 4, 5, 6, 7, 8, 9, 10, 11, 12, 13, 14, 15, 16] rfl
  have hDc := hD.sub (ws' := (wX cI cJ q nc lc le ge wt kp fo po na ns ta ts mx ch mo ms fs)) [0, 1, 2, 3, 4, 5, 6, 7, 8, 9, 10, 11, 12, 13, 14, 15, 16] (by decide) rfl
  refine fw_ci (wr := (wM cI cJ k nn ln sa sb wg kt fr pt wl tn up lo)) (w2 := fun u => (wX cI cJ q nc lc le ge wt kp u.1 u.2 na ns ta ts mx ch mo ms fs ++ wM cI cJ k nn ln sa sb wg kt fr pt wl tn up lo)) [0, 1, 2, 3, 4, 5, 6, 7, 8, 9, 10, 11, 12, 13, 14, 15, 16] [17, 18, 19, 20, 21, 22, 23, 24, 25] [9, 10, 11, 12, 13, 14, 15, 16, 17, 18, 19, 20, 21, 22, 23, 24, 25, 0, 1, 2, 3, 4, 5, 6, 7, 8] (va_runV (b := q 0) (As := []) (rest := []) ⟨hx, hb, hml, hown, htl⟩ (kX3_forests l dC dI cI cJ q H.size nc lc le ge wt kp fo po na ns ta ts mx ch mo ms fs  ⟨_, hX1⟩) (cwV 0 htl gL_law_X3_forests rfl rfl rfl (by decide +kernel) ⟨Nat.le_of_ble_eq_true rfl, Nat.le_of_ble_eq_true rfl⟩) ⟨fw_blind, va_recv hK hPc (ci := 3) (q0 := 0) rfl rfl, fun U hU hW => fw_pre hPc hK hDc hN hU hW⟩ rfl rfl hl.1 rfl (lv_room (Nat.le_of_ble_eq_true rfl)) dL_law_369 ⟨Nat.le_of_ble_eq_true rfl, Nat.le_of_ble_eq_true rfl⟩) hP hD hS hA rfl rfl (by decide) (by decide) (by decide) (fun _ => rfl) (fun r1 u H locs hw hP hD hS => ?_)
  have h9 := hX1.symm.trans hw
  cases h9
  have hP : va_P (dC, dI) vwCl (wX cI cJ q nc lc le ge wt kp fo' po' na ns ta ts mx ch mo ms fs ++ wM cI cJ k nn ln sa sb wg kt fr pt wl tn up lo) H := hP
  have hD : va_D (fun q : Nat => s.heap.size ≤ q) (wX cI cJ q nc lc le ge wt kp fo' po' na ns ta ts mx ch mo ms fs ++ wM cI cJ k nn ln sa sb wg kt fr pt wl tn up lo) := hD
  refine lv_aload_n hx hb dL_law_372 rfl (lv_at hl 1 rfl) ?_
  have hPc := hP.sub (ws' := (wM cI cJ k nn ln sa sb wg kt fr pt wl tn up lo)) [17, 18, 19, 20, 21, 22, 23, 24, 25] rfl
  have hDc := hD.sub (ws' := (wM cI cJ k nn ln sa sb wg kt fr pt wl tn up lo)) [17, 18, 19, 20, 21, 22, 23, 24, 25] (by decide) rfl
  refine fw_ci (wr := (wX cI cJ q nc lc le ge wt kp fo' po' na ns ta ts mx ch mo ms fs)) (w2 := fun u => (wX cI cJ q nc lc le ge wt kp fo' po' na ns ta ts mx ch mo ms fs ++ wM cI cJ k nn ln sa sb wg kt u.1 u.2 wl tn up lo)) [17, 18, 19, 20, 21, 22, 23, 24, 25] [0, 1, 2, 3, 4, 5, 6, 7, 8, 9, 10, 11, 12, 13, 14, 15, 16] [0, 1, 2, 3, 4, 5, 6, 7, 8, 9, 10, 11, 12, 13, 14, 15, 16, 17, 18, 19, 20, 21, 22, 23, 24, 25] (va_runV (b := k 0) (As := []) (rest := [.int r]) ⟨hx, hb, hml, hown, htl⟩ (kX4_forests l dC dI cI cJ k H.size nn ln sa sb wg kt fr pt wl tn up lo  ⟨_, hM1⟩) (cwV 0 htl gL_law_X4_forests rfl rfl rfl (by decide +kernel) ⟨Nat.le_of_ble_eq_true rfl, Nat.le_of_ble_eq_true rfl⟩) ⟨fw_blind, va_recv hK hPc (ci := 4) (q0 := 0) rfl rfl, fun U hU hW => fw_pre hPc hK hDc hN hU hW⟩ rfl rfl hl.1 rfl (lv_room (Nat.le_of_ble_eq_true rfl)) dL_law_373 ⟨Nat.le_of_ble_eq_true rfl, Nat.le_of_ble_eq_true rfl⟩) hP hD hS hA rfl rfl (by decide) (by decide) (by decide) (fun _ => rfl) (fun r1 u H locs hw hP hD hS => ?_)
  have h9 := hM1.symm.trans hw
  cases h9
  have hP : va_P (dC, dI) vwCl (wX cI cJ q nc lc le ge wt kp fo' po' na ns ta ts mx ch mo ms fs ++ wM cI cJ k nn ln sa sb wg kt fr' pt' wl tn up lo) H := hP
  have hD : va_D (fun q : Nat => s.heap.size ≤ q) (wX cI cJ q nc lc le ge wt kp fo' po' na ns ta ts mx ch mo ms fs ++ wM cI cJ k nn ln sa sb wg kt fr' pt' wl tn up lo) := hD
  refine lv_icmp_eq (tgt := 684) hx hb dL_law_376 (by decide) (fun c9 => ?_) (fun c9 => absurd rfl c9)
  exact hk nc lc le ge wt kp fo' po' na ns ta ts mx ch mo ms fs nn ln sa sb wg kt fr' pt' wl tn up lo H locs ls hR1 hP hD hS (lv_sub hl [0, 1, 2, 3] rfl)
set_option maxHeartbeats 4000000 in
set_option maxRecDepth 100000 in
theorem law_peel {p : Program} {l : Launch} {e : Env} {s : State} {m : MethodId} {below : List Frame} {meth : Method} {c : Code} {dC : Nat → ClassId} {dI : Nat → Nat → Nat} {cI cJ : ClassId} {b L : Nat} {xs : Nat → Int32} (hL : L ≤ 2560) (C0 : lw_At p s m meth c b L xs) (hK : va_K (dC, dI) vwCl (fw_tys cI cJ) s) (hN : va_Nw fw_nest s) (q k : Nat → Nat) (nc : Int32) (lc : Int32) (le : Nat → Int32) (ge : Nat → Int32) (wt : Nat → Int32) (kp : Nat → Int32) (fo : Nat → Int32) (po : Nat → Int32) (na : Nat → Int32) (ns : Int32) (ta : Nat → Int32) (ts : Int32) (mx : Nat → Int64) (ch : Nat → Int32) (mo : Nat → Int64) (ms : Int32) (fs : Nat → Int32) (nn : Int32) (ln : Int32) (sa : Nat → Int32) (sb : Nat → Int32) (wg : Nat → Int32) (kt : Nat → Int32) (fr : Nat → Int32) (pt : Nat → Int32) (wl : Nat → Int32) (tn : Nat → Int32) (up : Int64) (lo : Int64) (hR : fw_R nc lc le ge wt kp fs nn ln sa sb wg kt) (x3 : Int32) (hin : ∀ j : Nat, j < 5 → vp_in (x3 + nI j) L) (H : Heap) (locs : List Loc) (ls : Array Slot) (hP : va_P (dC, dI) vwCl (wX cI cJ q nc lc le ge wt kp fo po na ns ta ts mx ch mo ms fs ++ wM cI cJ k nn ln sa sb wg kt fr pt wl tn up lo) H) (hD : va_D (fun q : Nat => s.heap.size ≤ q) (wX cI cJ q nc lc le ge wt kp fo po na ns ta ts mx ch mo ms fs ++ wM cI cJ k nn ln sa sb wg kt fr pt wl tn up lo)) (hS : va_S (fun q : Nat => s.heap.size ≤ q) s.heap H locs) (hl : lv_has ls 4 [(3, .int x3), (2, .ref (k 0)), (1, .ref (q 0)), (0, .ref b)])
    (hk : ∀ (nc : Int32) (lc : Int32) (le : Nat → Int32) (ge : Nat → Int32) (wt : Nat → Int32) (kp : Nat → Int32) (fo : Nat → Int32) (po : Nat → Int32) (na : Nat → Int32) (ns : Int32) (ta : Nat → Int32) (ts : Int32) (mx : Nat → Int64) (ch : Nat → Int32) (mo : Nat → Int64) (ms : Int32) (fs : Nat → Int32) (nn : Int32) (ln : Int32) (sa : Nat → Int32) (sb : Nat → Int32) (wg : Nat → Int32) (kt : Nat → Int32) (fr : Nat → Int32) (pt : Nat → Int32) (wl : Nat → Int32) (tn : Nat → Int32) (up : Int64) (lo : Int64) (H : Heap) (locs : List Loc) (ls : Array Slot), fw_R nc lc le ge wt kp fs nn ln sa sb wg kt → va_P (dC, dI) vwCl (wX cI cJ q nc lc le ge wt kp fo po na ns ta ts mx ch mo ms fs ++ wM cI cJ k nn ln sa sb wg kt fr pt wl tn up lo) H → va_D (fun q : Nat => s.heap.size ≤ q) (wX cI cJ q nc lc le ge wt kp fo po na ns ta ts mx ch mo ms fs ++ wM cI cJ k nn ln sa sb wg kt fr pt wl tn up lo) → va_S (fun q : Nat => s.heap.size ≤ q) s.heap H locs → lv_has ls 4 [(3, .int x3), (2, .ref (k 0)), (1, .ref (q 0)), (0, .ref b)] → W p l e room_1 s m #[Value.ref b] below meth c H locs 26 600 (lw_Z below #[Value.ref b] s) (F0 m 684 ls [])) : W p l e room_1 s m #[Value.ref b] below meth c H locs 26 600 (lw_Z below #[Value.ref b] s) (F0 m 381 ls []) := by
  obtain ⟨hx, hb, hr, hml, hown, hts, hX, hbl, hlocks, hgv⟩ := C0
  have hb : c.code = cL_law := hb
  have hown : s.vm.findClass RL = some m.cls := hown
  have htl : ∀ w ∈ wsL_law, w.before #[Value.ref b] s = true := fun w h => hts w (wsL_law_in w h)
  have hA : ∀ q : Nat, s.heap.size ≤ q → (fun q : Nat => s.heap.size ≤ q) q := fun _ h => h
  have hbA : ¬ (fun q : Nat => s.heap.size ≤ q) b := Nat.not_le.mpr hbl
  obtain ⟨r, kp', fo', po', kt', fr', pt',  hX1, hM1, hR1⟩ := st_peel nc lc le ge wt kp fs nn ln sa sb wg kt hR fo po fr pt (xs (x3 + (1 : Int32)).toNatClampNeg)
  refine lv_aload_n hx hb dL_law_381 rfl (lv_at hl 2 rfl) ?_
  refine lv_aload_n hx hb dL_law_382 rfl (lv_at hl 3 rfl) ?_
  refine lv_iload_n hx hb dL_law_383 rfl (lv_at hl 0 rfl) ?_
  refine lv_iconst (v := (1 : Int32)) hx hb dL_law_384 (by decide) ?_
  refine lv_iadd hx hb dL_law_385 ?_
  refine va_sld hx hb hX hbl hbA hS (hin 1 (by decide)) dL_law_386 ?_
  have hPc := hP.sub (ws' := (wX cI cJ q nc lc le ge wt kp fo po na ns ta ts mx ch mo ms fs)) [0, 1, 2, 3, 4, 5, 6, 7, 8, 9, 10, 11, 12, 13, 14, 15, 16] rfl
  have hDc := hD.sub (ws' := (wX cI cJ q nc lc le ge wt kp fo po na ns ta ts mx ch mo ms fs)) [0, 1, 2, 3, 4, 5, 6, 7, 8, 9, 10, 11, 12, 13, 14, 15, 16] (by decide) rfl
  refine fw_ci (wr := (wM cI cJ k nn ln sa sb wg kt fr pt wl tn up lo)) (w2 := fun u => (wX cI cJ q nc lc le ge wt u.1 u.2.1 u.2.2 na ns ta ts mx ch mo ms fs ++ wM cI cJ k nn ln sa sb wg kt fr pt wl tn up lo)) [0, 1, 2, 3, 4, 5, 6, 7, 8, 9, 10, 11, 12, 13, 14, 15, 16] [17, 18, 19, 20, 21, 22, 23, 24, 25] [9, 10, 11, 12, 13, 14, 15, 16, 17, 18, 19, 20, 21, 22, 23, 24, 25, 0, 1, 2, 3, 4, 5, 6, 7, 8] (va_runV (b := q 0) (As := [.int (xs (x3 + (1 : Int32)).toNatClampNeg)]) (rest := []) ⟨hx, hb, hml, hown, htl⟩ (kX3_peel l dC dI cI cJ q H.size nc lc le ge wt kp fo po na ns ta ts mx ch mo ms fs (xs (x3 + (1 : Int32)).toNatClampNeg) ⟨_, hX1⟩) (cwV 1 htl gL_law_X3_peel rfl rfl rfl (by decide +kernel) ⟨Nat.le_of_ble_eq_true rfl, Nat.le_of_ble_eq_true rfl⟩) ⟨fw_blind, va_recv hK hPc (ci := 3) (q0 := 0) rfl rfl, fun U hU hW => fw_pre hPc hK hDc hN hU hW⟩ rfl rfl hl.1 rfl (lv_room (Nat.le_of_ble_eq_true rfl)) dL_law_387 ⟨Nat.le_of_ble_eq_true rfl, Nat.le_of_ble_eq_true rfl⟩) hP hD hS hA rfl rfl (by decide) (by decide) (by decide) (fun _ => rfl) (fun r1 u H locs hw hP hD hS => ?_)
  have h9 := hX1.symm.trans hw
  cases h9
  have hP : va_P (dC, dI) vwCl (wX cI cJ q nc lc le ge wt kp' fo' po' na ns ta ts mx ch mo ms fs ++ wM cI cJ k nn ln sa sb wg kt fr pt wl tn up lo) H := hP
  have hD : va_D (fun q : Nat => s.heap.size ≤ q) (wX cI cJ q nc lc le ge wt kp' fo' po' na ns ta ts mx ch mo ms fs ++ wM cI cJ k nn ln sa sb wg kt fr pt wl tn up lo) := hD
  refine lv_aload_n hx hb dL_law_390 rfl (lv_at hl 1 rfl) ?_
  refine lv_aload_n hx hb dL_law_391 rfl (lv_at hl 3 rfl) ?_
  refine lv_iload_n hx hb dL_law_392 rfl (lv_at hl 0 rfl) ?_
  refine lv_iconst (v := (1 : Int32)) hx hb dL_law_393 (by decide) ?_
  refine lv_iadd hx hb dL_law_394 ?_
  refine va_sld hx hb hX hbl hbA hS (hin 1 (by decide)) dL_law_395 ?_
  have hPc := hP.sub (ws' := (wM cI cJ k nn ln sa sb wg kt fr pt wl tn up lo)) [17, 18, 19, 20, 21, 22, 23, 24, 25] rfl
  have hDc := hD.sub (ws' := (wM cI cJ k nn ln sa sb wg kt fr pt wl tn up lo)) [17, 18, 19, 20, 21, 22, 23, 24, 25] (by decide) rfl
  refine fw_ci (wr := (wX cI cJ q nc lc le ge wt kp' fo' po' na ns ta ts mx ch mo ms fs)) (w2 := fun u => (wX cI cJ q nc lc le ge wt kp' fo' po' na ns ta ts mx ch mo ms fs ++ wM cI cJ k nn ln sa sb wg u.1 u.2.1 u.2.2 wl tn up lo)) [17, 18, 19, 20, 21, 22, 23, 24, 25] [0, 1, 2, 3, 4, 5, 6, 7, 8, 9, 10, 11, 12, 13, 14, 15, 16] [0, 1, 2, 3, 4, 5, 6, 7, 8, 9, 10, 11, 12, 13, 14, 15, 16, 17, 18, 19, 20, 21, 22, 23, 24, 25] (va_runV (b := k 0) (As := [.int (xs (x3 + (1 : Int32)).toNatClampNeg)]) (rest := [.int r]) ⟨hx, hb, hml, hown, htl⟩ (kX4_peel l dC dI cI cJ k H.size nn ln sa sb wg kt fr pt wl tn up lo (xs (x3 + (1 : Int32)).toNatClampNeg) ⟨_, hM1⟩) (cwV 1 htl gL_law_X4_peel rfl rfl rfl (by decide +kernel) ⟨Nat.le_of_ble_eq_true rfl, Nat.le_of_ble_eq_true rfl⟩) ⟨fw_blind, va_recv hK hPc (ci := 4) (q0 := 0) rfl rfl, fun U hU hW => fw_pre hPc hK hDc hN hU hW⟩ rfl rfl hl.1 rfl (lv_room (Nat.le_of_ble_eq_true rfl)) dL_law_396 ⟨Nat.le_of_ble_eq_true rfl, Nat.le_of_ble_eq_true rfl⟩) hP hD hS hA rfl rfl (by decide) (by decide) (by decide) (fun _ => rfl) (fun r1 u H locs hw hP hD hS => ?_)
  have h9 := hM1.symm.trans hw
  cases h9
  have hP : va_P (dC, dI) vwCl (wX cI cJ q nc lc le ge wt kp' fo' po' na ns ta ts mx ch mo ms fs ++ wM cI cJ k nn ln sa sb wg kt' fr' pt' wl tn up lo) H := hP
  have hD : va_D (fun q : Nat => s.heap.size ≤ q) (wX cI cJ q nc lc le ge wt kp' fo' po' na ns ta ts mx ch mo ms fs ++ wM cI cJ k nn ln sa sb wg kt' fr' pt' wl tn up lo) := hD
  refine lv_icmp_eq (tgt := 684) hx hb dL_law_399 (by decide) (fun c9 => ?_) (fun c9 => absurd rfl c9)
  exact hk nc lc le ge wt kp' fo' po' na ns ta ts mx ch mo ms fs nn ln sa sb wg kt' fr' pt' wl tn up lo H locs ls hR1 hP hD hS (lv_sub hl [0, 1, 2, 3] rfl)
set_option maxHeartbeats 4000000 in
set_option maxRecDepth 100000 in
theorem law_greedy {p : Program} {l : Launch} {e : Env} {s : State} {m : MethodId} {below : List Frame} {meth : Method} {c : Code} {dC : Nat → ClassId} {dI : Nat → Nat → Nat} {cI cJ : ClassId} {b L : Nat} {xs : Nat → Int32} (hL : L ≤ 2560) (C0 : lw_At p s m meth c b L xs) (hK : va_K (dC, dI) vwCl (fw_tys cI cJ) s) (hN : va_Nw fw_nest s) (q k : Nat → Nat) (nc : Int32) (lc : Int32) (le : Nat → Int32) (ge : Nat → Int32) (wt : Nat → Int32) (kp : Nat → Int32) (fo : Nat → Int32) (po : Nat → Int32) (na : Nat → Int32) (ns : Int32) (ta : Nat → Int32) (ts : Int32) (mx : Nat → Int64) (ch : Nat → Int32) (mo : Nat → Int64) (ms : Int32) (fs : Nat → Int32) (nn : Int32) (ln : Int32) (sa : Nat → Int32) (sb : Nat → Int32) (wg : Nat → Int32) (kt : Nat → Int32) (fr : Nat → Int32) (pt : Nat → Int32) (wl : Nat → Int32) (tn : Nat → Int32) (up : Int64) (lo : Int64) (hR : fw_R nc lc le ge wt kp fs nn ln sa sb wg kt) (x3 : Int32) (hin : ∀ j : Nat, j < 5 → vp_in (x3 + nI j) L) (H : Heap) (locs : List Loc) (ls : Array Slot) (hP : va_P (dC, dI) vwCl (wX cI cJ q nc lc le ge wt kp fo po na ns ta ts mx ch mo ms fs ++ wM cI cJ k nn ln sa sb wg kt fr pt wl tn up lo) H) (hD : va_D (fun q : Nat => s.heap.size ≤ q) (wX cI cJ q nc lc le ge wt kp fo po na ns ta ts mx ch mo ms fs ++ wM cI cJ k nn ln sa sb wg kt fr pt wl tn up lo)) (hS : va_S (fun q : Nat => s.heap.size ≤ q) s.heap H locs) (hl : lv_has ls 4 [(3, .int x3), (2, .ref (k 0)), (1, .ref (q 0)), (0, .ref b)])
    (hk : ∀ (nc : Int32) (lc : Int32) (le : Nat → Int32) (ge : Nat → Int32) (wt : Nat → Int32) (kp : Nat → Int32) (fo : Nat → Int32) (po : Nat → Int32) (na : Nat → Int32) (ns : Int32) (ta : Nat → Int32) (ts : Int32) (mx : Nat → Int64) (ch : Nat → Int32) (mo : Nat → Int64) (ms : Int32) (fs : Nat → Int32) (nn : Int32) (ln : Int32) (sa : Nat → Int32) (sb : Nat → Int32) (wg : Nat → Int32) (kt : Nat → Int32) (fr : Nat → Int32) (pt : Nat → Int32) (wl : Nat → Int32) (tn : Nat → Int32) (up : Int64) (lo : Int64) (H : Heap) (locs : List Loc) (ls : Array Slot), fw_R nc lc le ge wt kp fs nn ln sa sb wg kt → va_P (dC, dI) vwCl (wX cI cJ q nc lc le ge wt kp fo po na ns ta ts mx ch mo ms fs ++ wM cI cJ k nn ln sa sb wg kt fr pt wl tn up lo) H → va_D (fun q : Nat => s.heap.size ≤ q) (wX cI cJ q nc lc le ge wt kp fo po na ns ta ts mx ch mo ms fs ++ wM cI cJ k nn ln sa sb wg kt fr pt wl tn up lo) → va_S (fun q : Nat => s.heap.size ≤ q) s.heap H locs → lv_has ls 4 [(3, .int x3), (2, .ref (k 0)), (1, .ref (q 0)), (0, .ref b)] → W p l e room_1 s m #[Value.ref b] below meth c H locs 26 600 (lw_Z below #[Value.ref b] s) (F0 m 684 ls [])) : W p l e room_1 s m #[Value.ref b] below meth c H locs 26 600 (lw_Z below #[Value.ref b] s) (F0 m 404 ls []) := by
  obtain ⟨hx, hb, hr, hml, hown, hts, hX, hbl, hlocks, hgv⟩ := C0
  have hb : c.code = cL_law := hb
  have hown : s.vm.findClass RL = some m.cls := hown
  have htl : ∀ w ∈ wsL_law, w.before #[Value.ref b] s = true := fun w h => hts w (wsL_law_in w h)
  have hA : ∀ q : Nat, s.heap.size ≤ q → (fun q : Nat => s.heap.size ≤ q) q := fun _ h => h
  have hbA : ¬ (fun q : Nat => s.heap.size ≤ q) b := Nat.not_le.mpr hbl
  obtain ⟨r, kp', ta', ts', kt', tn',  hX1, hM1, hR1⟩ := st_greedy nc lc le ge wt kp fs nn ln sa sb wg kt hR ta ts tn (xs (x3 + (1 : Int32)).toNatClampNeg)
  refine lv_aload_n hx hb dL_law_404 rfl (lv_at hl 2 rfl) ?_
  refine lv_aload_n hx hb dL_law_405 rfl (lv_at hl 3 rfl) ?_
  refine lv_iload_n hx hb dL_law_406 rfl (lv_at hl 0 rfl) ?_
  refine lv_iconst (v := (1 : Int32)) hx hb dL_law_407 (by decide) ?_
  refine lv_iadd hx hb dL_law_408 ?_
  refine va_sld hx hb hX hbl hbA hS (hin 1 (by decide)) dL_law_409 ?_
  have hPc := hP.sub (ws' := (wX cI cJ q nc lc le ge wt kp fo po na ns ta ts mx ch mo ms fs)) [0, 1, 2, 3, 4, 5, 6, 7, 8, 9, 10, 11, 12, 13, 14, 15, 16] rfl
  have hDc := hD.sub (ws' := (wX cI cJ q nc lc le ge wt kp fo po na ns ta ts mx ch mo ms fs)) [0, 1, 2, 3, 4, 5, 6, 7, 8, 9, 10, 11, 12, 13, 14, 15, 16] (by decide) rfl
  refine fw_ci (wr := (wM cI cJ k nn ln sa sb wg kt fr pt wl tn up lo)) (w2 := fun u => (wX cI cJ q nc lc le ge wt u.1 fo po na ns u.2.1 u.2.2 mx ch mo ms fs ++ wM cI cJ k nn ln sa sb wg kt fr pt wl tn up lo)) [0, 1, 2, 3, 4, 5, 6, 7, 8, 9, 10, 11, 12, 13, 14, 15, 16] [17, 18, 19, 20, 21, 22, 23, 24, 25] [9, 10, 11, 12, 13, 14, 15, 16, 17, 18, 19, 20, 21, 22, 23, 24, 25, 0, 1, 2, 3, 4, 5, 6, 7, 8] (va_runV (b := q 0) (As := [.int (xs (x3 + (1 : Int32)).toNatClampNeg)]) (rest := []) ⟨hx, hb, hml, hown, htl⟩ (kX3_greedy l dC dI cI cJ q H.size nc lc le ge wt kp fo po na ns ta ts mx ch mo ms fs (xs (x3 + (1 : Int32)).toNatClampNeg) ⟨_, hX1⟩) (cwV 1 htl gL_law_X3_greedy rfl rfl rfl (by decide +kernel) ⟨Nat.le_of_ble_eq_true rfl, Nat.le_of_ble_eq_true rfl⟩) ⟨fw_blind, va_recv hK hPc (ci := 3) (q0 := 0) rfl rfl, fun U hU hW => fw_pre hPc hK hDc hN hU hW⟩ rfl rfl hl.1 rfl (lv_room (Nat.le_of_ble_eq_true rfl)) dL_law_410 ⟨Nat.le_of_ble_eq_true rfl, Nat.le_of_ble_eq_true rfl⟩) hP hD hS hA rfl rfl (by decide) (by decide) (by decide) (fun _ => rfl) (fun r1 u H locs hw hP hD hS => ?_)
  have h9 := hX1.symm.trans hw
  cases h9
  have hP : va_P (dC, dI) vwCl (wX cI cJ q nc lc le ge wt kp' fo po na ns ta' ts' mx ch mo ms fs ++ wM cI cJ k nn ln sa sb wg kt fr pt wl tn up lo) H := hP
  have hD : va_D (fun q : Nat => s.heap.size ≤ q) (wX cI cJ q nc lc le ge wt kp' fo po na ns ta' ts' mx ch mo ms fs ++ wM cI cJ k nn ln sa sb wg kt fr pt wl tn up lo) := hD
  refine lv_aload_n hx hb dL_law_413 rfl (lv_at hl 1 rfl) ?_
  refine lv_aload_n hx hb dL_law_414 rfl (lv_at hl 3 rfl) ?_
  refine lv_iload_n hx hb dL_law_415 rfl (lv_at hl 0 rfl) ?_
  refine lv_iconst (v := (1 : Int32)) hx hb dL_law_416 (by decide) ?_
  refine lv_iadd hx hb dL_law_417 ?_
  refine va_sld hx hb hX hbl hbA hS (hin 1 (by decide)) dL_law_418 ?_
  have hPc := hP.sub (ws' := (wM cI cJ k nn ln sa sb wg kt fr pt wl tn up lo)) [17, 18, 19, 20, 21, 22, 23, 24, 25] rfl
  have hDc := hD.sub (ws' := (wM cI cJ k nn ln sa sb wg kt fr pt wl tn up lo)) [17, 18, 19, 20, 21, 22, 23, 24, 25] (by decide) rfl
  refine fw_ci (wr := (wX cI cJ q nc lc le ge wt kp' fo po na ns ta' ts' mx ch mo ms fs)) (w2 := fun u => (wX cI cJ q nc lc le ge wt kp' fo po na ns ta' ts' mx ch mo ms fs ++ wM cI cJ k nn ln sa sb wg u.1 fr pt wl u.2 up lo)) [17, 18, 19, 20, 21, 22, 23, 24, 25] [0, 1, 2, 3, 4, 5, 6, 7, 8, 9, 10, 11, 12, 13, 14, 15, 16] [0, 1, 2, 3, 4, 5, 6, 7, 8, 9, 10, 11, 12, 13, 14, 15, 16, 17, 18, 19, 20, 21, 22, 23, 24, 25] (va_runV (b := k 0) (As := [.int (xs (x3 + (1 : Int32)).toNatClampNeg)]) (rest := [.int r]) ⟨hx, hb, hml, hown, htl⟩ (kX4_greedy l dC dI cI cJ k H.size nn ln sa sb wg kt fr pt wl tn up lo (xs (x3 + (1 : Int32)).toNatClampNeg) ⟨_, hM1⟩) (cwV 1 htl gL_law_X4_greedy rfl rfl rfl (by decide +kernel) ⟨Nat.le_of_ble_eq_true rfl, Nat.le_of_ble_eq_true rfl⟩) ⟨fw_blind, va_recv hK hPc (ci := 4) (q0 := 0) rfl rfl, fun U hU hW => fw_pre hPc hK hDc hN hU hW⟩ rfl rfl hl.1 rfl (lv_room (Nat.le_of_ble_eq_true rfl)) dL_law_419 ⟨Nat.le_of_ble_eq_true rfl, Nat.le_of_ble_eq_true rfl⟩) hP hD hS hA rfl rfl (by decide) (by decide) (by decide) (fun _ => rfl) (fun r1 u H locs hw hP hD hS => ?_)
  have h9 := hM1.symm.trans hw
  cases h9
  have hP : va_P (dC, dI) vwCl (wX cI cJ q nc lc le ge wt kp' fo po na ns ta' ts' mx ch mo ms fs ++ wM cI cJ k nn ln sa sb wg kt' fr pt wl tn' up lo) H := hP
  have hD : va_D (fun q : Nat => s.heap.size ≤ q) (wX cI cJ q nc lc le ge wt kp' fo po na ns ta' ts' mx ch mo ms fs ++ wM cI cJ k nn ln sa sb wg kt' fr pt wl tn' up lo) := hD
  refine lv_icmp_eq (tgt := 684) hx hb dL_law_422 (by decide) (fun c9 => ?_) (fun c9 => absurd rfl c9)
  exact hk nc lc le ge wt kp' fo po na ns ta' ts' mx ch mo ms fs nn ln sa sb wg kt' fr pt wl tn' up lo H locs ls hR1 hP hD hS (lv_sub hl [0, 1, 2, 3] rfl)
set_option maxHeartbeats 4000000 in
set_option maxRecDepth 100000 in
theorem law_fewest {p : Program} {l : Launch} {e : Env} {s : State} {m : MethodId} {below : List Frame} {meth : Method} {c : Code} {dC : Nat → ClassId} {dI : Nat → Nat → Nat} {cI cJ : ClassId} {b L : Nat} {xs : Nat → Int32} (hL : L ≤ 2560) (C0 : lw_At p s m meth c b L xs) (hK : va_K (dC, dI) vwCl (fw_tys cI cJ) s) (hN : va_Nw fw_nest s) (q k : Nat → Nat) (nc : Int32) (lc : Int32) (le : Nat → Int32) (ge : Nat → Int32) (wt : Nat → Int32) (kp : Nat → Int32) (fo : Nat → Int32) (po : Nat → Int32) (na : Nat → Int32) (ns : Int32) (ta : Nat → Int32) (ts : Int32) (mx : Nat → Int64) (ch : Nat → Int32) (mo : Nat → Int64) (ms : Int32) (fs : Nat → Int32) (nn : Int32) (ln : Int32) (sa : Nat → Int32) (sb : Nat → Int32) (wg : Nat → Int32) (kt : Nat → Int32) (fr : Nat → Int32) (pt : Nat → Int32) (wl : Nat → Int32) (tn : Nat → Int32) (up : Int64) (lo : Int64) (hR : fw_R nc lc le ge wt kp fs nn ln sa sb wg kt) (x3 : Int32) (hin : ∀ j : Nat, j < 5 → vp_in (x3 + nI j) L) (H : Heap) (locs : List Loc) (ls : Array Slot) (hP : va_P (dC, dI) vwCl (wX cI cJ q nc lc le ge wt kp fo po na ns ta ts mx ch mo ms fs ++ wM cI cJ k nn ln sa sb wg kt fr pt wl tn up lo) H) (hD : va_D (fun q : Nat => s.heap.size ≤ q) (wX cI cJ q nc lc le ge wt kp fo po na ns ta ts mx ch mo ms fs ++ wM cI cJ k nn ln sa sb wg kt fr pt wl tn up lo)) (hS : va_S (fun q : Nat => s.heap.size ≤ q) s.heap H locs) (hl : lv_has ls 4 [(3, .int x3), (2, .ref (k 0)), (1, .ref (q 0)), (0, .ref b)])
    (hk : ∀ (nc : Int32) (lc : Int32) (le : Nat → Int32) (ge : Nat → Int32) (wt : Nat → Int32) (kp : Nat → Int32) (fo : Nat → Int32) (po : Nat → Int32) (na : Nat → Int32) (ns : Int32) (ta : Nat → Int32) (ts : Int32) (mx : Nat → Int64) (ch : Nat → Int32) (mo : Nat → Int64) (ms : Int32) (fs : Nat → Int32) (nn : Int32) (ln : Int32) (sa : Nat → Int32) (sb : Nat → Int32) (wg : Nat → Int32) (kt : Nat → Int32) (fr : Nat → Int32) (pt : Nat → Int32) (wl : Nat → Int32) (tn : Nat → Int32) (up : Int64) (lo : Int64) (H : Heap) (locs : List Loc) (ls : Array Slot), fw_R nc lc le ge wt kp fs nn ln sa sb wg kt → va_P (dC, dI) vwCl (wX cI cJ q nc lc le ge wt kp fo po na ns ta ts mx ch mo ms fs ++ wM cI cJ k nn ln sa sb wg kt fr pt wl tn up lo) H → va_D (fun q : Nat => s.heap.size ≤ q) (wX cI cJ q nc lc le ge wt kp fo po na ns ta ts mx ch mo ms fs ++ wM cI cJ k nn ln sa sb wg kt fr pt wl tn up lo) → va_S (fun q : Nat => s.heap.size ≤ q) s.heap H locs → lv_has ls 4 [(3, .int x3), (2, .ref (k 0)), (1, .ref (q 0)), (0, .ref b)] → W p l e room_1 s m #[Value.ref b] below meth c H locs 26 600 (lw_Z below #[Value.ref b] s) (F0 m 684 ls [])) : W p l e room_1 s m #[Value.ref b] below meth c H locs 26 600 (lw_Z below #[Value.ref b] s) (F0 m 427 ls []) := by
  obtain ⟨hx, hb, hr, hml, hown, hts, hX, hbl, hlocks, hgv⟩ := C0
  have hb : c.code = cL_law := hb
  have hown : s.vm.findClass RL = some m.cls := hown
  have htl : ∀ w ∈ wsL_law, w.before #[Value.ref b] s = true := fun w h => hts w (wsL_law_in w h)
  have hA : ∀ q : Nat, s.heap.size ≤ q → (fun q : Nat => s.heap.size ≤ q) q := fun _ h => h
  have hbA : ¬ (fun q : Nat => s.heap.size ≤ q) b := Nat.not_le.mpr hbl
  obtain ⟨r, fo', po', na', ns', ta', ts', fs', wl', tn',  hX1, hM1, hR1⟩ := st_fewest nc lc le ge wt kp fs nn ln sa sb wg kt hR fo po na ns ta ts wl tn (xs (x3 + (1 : Int32)).toNatClampNeg) (xs (x3 + (2 : Int32)).toNatClampNeg)
  refine lv_aload_n hx hb dL_law_427 rfl (lv_at hl 2 rfl) ?_
  refine lv_aload_n hx hb dL_law_428 rfl (lv_at hl 3 rfl) ?_
  refine lv_iload_n hx hb dL_law_429 rfl (lv_at hl 0 rfl) ?_
  refine lv_iconst (v := (1 : Int32)) hx hb dL_law_430 (by decide) ?_
  refine lv_iadd hx hb dL_law_431 ?_
  refine va_sld hx hb hX hbl hbA hS (hin 1 (by decide)) dL_law_432 ?_
  refine lv_aload_n hx hb dL_law_433 rfl (lv_at hl 3 rfl) ?_
  refine lv_iload_n hx hb dL_law_434 rfl (lv_at hl 0 rfl) ?_
  refine lv_iconst (v := (2 : Int32)) hx hb dL_law_435 (by decide) ?_
  refine lv_iadd hx hb dL_law_436 ?_
  refine va_sld hx hb hX hbl hbA hS (hin 2 (by decide)) dL_law_437 ?_
  have hPc := hP.sub (ws' := (wX cI cJ q nc lc le ge wt kp fo po na ns ta ts mx ch mo ms fs)) [0, 1, 2, 3, 4, 5, 6, 7, 8, 9, 10, 11, 12, 13, 14, 15, 16] rfl
  have hDc := hD.sub (ws' := (wX cI cJ q nc lc le ge wt kp fo po na ns ta ts mx ch mo ms fs)) [0, 1, 2, 3, 4, 5, 6, 7, 8, 9, 10, 11, 12, 13, 14, 15, 16] (by decide) rfl
  refine fw_ci (wr := (wM cI cJ k nn ln sa sb wg kt fr pt wl tn up lo)) (w2 := fun u => (wX cI cJ q nc lc le ge wt kp u.1 u.2.1 u.2.2.1 u.2.2.2.1 u.2.2.2.2.1 u.2.2.2.2.2.1 mx ch mo ms u.2.2.2.2.2.2 ++ wM cI cJ k nn ln sa sb wg kt fr pt wl tn up lo)) [0, 1, 2, 3, 4, 5, 6, 7, 8, 9, 10, 11, 12, 13, 14, 15, 16] [17, 18, 19, 20, 21, 22, 23, 24, 25] [9, 10, 11, 12, 13, 14, 15, 16, 17, 18, 19, 20, 21, 22, 23, 24, 25, 0, 1, 2, 3, 4, 5, 6, 7, 8] (va_runV (b := q 0) (As := [.int (xs (x3 + (1 : Int32)).toNatClampNeg), .int (xs (x3 + (2 : Int32)).toNatClampNeg)]) (rest := []) ⟨hx, hb, hml, hown, htl⟩ (kX3_fewest l dC dI cI cJ q H.size nc lc le ge wt kp fo po na ns ta ts mx ch mo ms fs (xs (x3 + (1 : Int32)).toNatClampNeg) (xs (x3 + (2 : Int32)).toNatClampNeg) ⟨_, hX1⟩) (cwV 2 htl gL_law_X3_fewest rfl rfl rfl (by decide +kernel) ⟨Nat.le_of_ble_eq_true rfl, Nat.le_of_ble_eq_true rfl⟩) ⟨fw_blind, va_recv hK hPc (ci := 3) (q0 := 0) rfl rfl, fun U hU hW => fw_pre hPc hK hDc hN hU hW⟩ rfl rfl hl.1 rfl (lv_room (Nat.le_of_ble_eq_true rfl)) dL_law_438 ⟨Nat.le_of_ble_eq_true rfl, Nat.le_of_ble_eq_true rfl⟩) hP hD hS hA rfl rfl (by decide) (by decide) (by decide) (fun _ => rfl) (fun r1 u H locs hw hP hD hS => ?_)
  have h9 := hX1.symm.trans hw
  cases h9
  have hP : va_P (dC, dI) vwCl (wX cI cJ q nc lc le ge wt kp fo' po' na' ns' ta' ts' mx ch mo ms fs' ++ wM cI cJ k nn ln sa sb wg kt fr pt wl tn up lo) H := hP
  have hD : va_D (fun q : Nat => s.heap.size ≤ q) (wX cI cJ q nc lc le ge wt kp fo' po' na' ns' ta' ts' mx ch mo ms fs' ++ wM cI cJ k nn ln sa sb wg kt fr pt wl tn up lo) := hD
  refine lv_aload_n hx hb dL_law_441 rfl (lv_at hl 1 rfl) ?_
  refine lv_aload_n hx hb dL_law_442 rfl (lv_at hl 3 rfl) ?_
  refine lv_iload_n hx hb dL_law_443 rfl (lv_at hl 0 rfl) ?_
  refine lv_iconst (v := (1 : Int32)) hx hb dL_law_444 (by decide) ?_
  refine lv_iadd hx hb dL_law_445 ?_
  refine va_sld hx hb hX hbl hbA hS (hin 1 (by decide)) dL_law_446 ?_
  refine lv_aload_n hx hb dL_law_447 rfl (lv_at hl 3 rfl) ?_
  refine lv_iload_n hx hb dL_law_448 rfl (lv_at hl 0 rfl) ?_
  refine lv_iconst (v := (2 : Int32)) hx hb dL_law_449 (by decide) ?_
  refine lv_iadd hx hb dL_law_450 ?_
  refine va_sld hx hb hX hbl hbA hS (hin 2 (by decide)) dL_law_451 ?_
  have hPc := hP.sub (ws' := (wM cI cJ k nn ln sa sb wg kt fr pt wl tn up lo)) [17, 18, 19, 20, 21, 22, 23, 24, 25] rfl
  have hDc := hD.sub (ws' := (wM cI cJ k nn ln sa sb wg kt fr pt wl tn up lo)) [17, 18, 19, 20, 21, 22, 23, 24, 25] (by decide) rfl
  refine fw_ci (wr := (wX cI cJ q nc lc le ge wt kp fo' po' na' ns' ta' ts' mx ch mo ms fs')) (w2 := fun u => (wX cI cJ q nc lc le ge wt kp fo' po' na' ns' ta' ts' mx ch mo ms fs' ++ wM cI cJ k nn ln sa sb wg kt fr pt u.1 u.2 up lo)) [17, 18, 19, 20, 21, 22, 23, 24, 25] [0, 1, 2, 3, 4, 5, 6, 7, 8, 9, 10, 11, 12, 13, 14, 15, 16] [0, 1, 2, 3, 4, 5, 6, 7, 8, 9, 10, 11, 12, 13, 14, 15, 16, 17, 18, 19, 20, 21, 22, 23, 24, 25] (va_runV (b := k 0) (As := [.int (xs (x3 + (1 : Int32)).toNatClampNeg), .int (xs (x3 + (2 : Int32)).toNatClampNeg)]) (rest := [.int r]) ⟨hx, hb, hml, hown, htl⟩ (kX4_fewest l dC dI cI cJ k H.size nn ln sa sb wg kt fr pt wl tn up lo (xs (x3 + (1 : Int32)).toNatClampNeg) (xs (x3 + (2 : Int32)).toNatClampNeg) ⟨_, hM1⟩) (cwV 2 htl gL_law_X4_fewest rfl rfl rfl (by decide +kernel) ⟨Nat.le_of_ble_eq_true rfl, Nat.le_of_ble_eq_true rfl⟩) ⟨fw_blind, va_recv hK hPc (ci := 4) (q0 := 0) rfl rfl, fun U hU hW => fw_pre hPc hK hDc hN hU hW⟩ rfl rfl hl.1 rfl (lv_room (Nat.le_of_ble_eq_true rfl)) dL_law_452 ⟨Nat.le_of_ble_eq_true rfl, Nat.le_of_ble_eq_true rfl⟩) hP hD hS hA rfl rfl (by decide) (by decide) (by decide) (fun _ => rfl) (fun r1 u H locs hw hP hD hS => ?_)
  have h9 := hM1.symm.trans hw
  cases h9
  have hP : va_P (dC, dI) vwCl (wX cI cJ q nc lc le ge wt kp fo' po' na' ns' ta' ts' mx ch mo ms fs' ++ wM cI cJ k nn ln sa sb wg kt fr pt wl' tn' up lo) H := hP
  have hD : va_D (fun q : Nat => s.heap.size ≤ q) (wX cI cJ q nc lc le ge wt kp fo' po' na' ns' ta' ts' mx ch mo ms fs' ++ wM cI cJ k nn ln sa sb wg kt fr pt wl' tn' up lo) := hD
  refine lv_icmp_eq (tgt := 684) hx hb dL_law_455 (by decide) (fun c9 => ?_) (fun c9 => absurd rfl c9)
  exact hk nc lc le ge wt kp fo' po' na' ns' ta' ts' mx ch mo ms fs' nn ln sa sb wg kt fr pt wl' tn' up lo H locs ls hR1 hP hD hS (lv_sub hl [0, 1, 2, 3] rfl)
set_option maxHeartbeats 4000000 in
set_option maxRecDepth 100000 in
theorem law_thin {p : Program} {l : Launch} {e : Env} {s : State} {m : MethodId} {below : List Frame} {meth : Method} {c : Code} {dC : Nat → ClassId} {dI : Nat → Nat → Nat} {cI cJ : ClassId} {b L : Nat} {xs : Nat → Int32} (hL : L ≤ 2560) (C0 : lw_At p s m meth c b L xs) (hK : va_K (dC, dI) vwCl (fw_tys cI cJ) s) (hN : va_Nw fw_nest s) (q k : Nat → Nat) (nc : Int32) (lc : Int32) (le : Nat → Int32) (ge : Nat → Int32) (wt : Nat → Int32) (kp : Nat → Int32) (fo : Nat → Int32) (po : Nat → Int32) (na : Nat → Int32) (ns : Int32) (ta : Nat → Int32) (ts : Int32) (mx : Nat → Int64) (ch : Nat → Int32) (mo : Nat → Int64) (ms : Int32) (fs : Nat → Int32) (nn : Int32) (ln : Int32) (sa : Nat → Int32) (sb : Nat → Int32) (wg : Nat → Int32) (kt : Nat → Int32) (fr : Nat → Int32) (pt : Nat → Int32) (wl : Nat → Int32) (tn : Nat → Int32) (up : Int64) (lo : Int64) (hR : fw_R nc lc le ge wt kp fs nn ln sa sb wg kt) (x3 : Int32) (hin : ∀ j : Nat, j < 5 → vp_in (x3 + nI j) L) (H : Heap) (locs : List Loc) (ls : Array Slot) (hP : va_P (dC, dI) vwCl (wX cI cJ q nc lc le ge wt kp fo po na ns ta ts mx ch mo ms fs ++ wM cI cJ k nn ln sa sb wg kt fr pt wl tn up lo) H) (hD : va_D (fun q : Nat => s.heap.size ≤ q) (wX cI cJ q nc lc le ge wt kp fo po na ns ta ts mx ch mo ms fs ++ wM cI cJ k nn ln sa sb wg kt fr pt wl tn up lo)) (hS : va_S (fun q : Nat => s.heap.size ≤ q) s.heap H locs) (hl : lv_has ls 4 [(3, .int x3), (2, .ref (k 0)), (1, .ref (q 0)), (0, .ref b)])
    (hk : ∀ (nc : Int32) (lc : Int32) (le : Nat → Int32) (ge : Nat → Int32) (wt : Nat → Int32) (kp : Nat → Int32) (fo : Nat → Int32) (po : Nat → Int32) (na : Nat → Int32) (ns : Int32) (ta : Nat → Int32) (ts : Int32) (mx : Nat → Int64) (ch : Nat → Int32) (mo : Nat → Int64) (ms : Int32) (fs : Nat → Int32) (nn : Int32) (ln : Int32) (sa : Nat → Int32) (sb : Nat → Int32) (wg : Nat → Int32) (kt : Nat → Int32) (fr : Nat → Int32) (pt : Nat → Int32) (wl : Nat → Int32) (tn : Nat → Int32) (up : Int64) (lo : Int64) (H : Heap) (locs : List Loc) (ls : Array Slot), fw_R nc lc le ge wt kp fs nn ln sa sb wg kt → va_P (dC, dI) vwCl (wX cI cJ q nc lc le ge wt kp fo po na ns ta ts mx ch mo ms fs ++ wM cI cJ k nn ln sa sb wg kt fr pt wl tn up lo) H → va_D (fun q : Nat => s.heap.size ≤ q) (wX cI cJ q nc lc le ge wt kp fo po na ns ta ts mx ch mo ms fs ++ wM cI cJ k nn ln sa sb wg kt fr pt wl tn up lo) → va_S (fun q : Nat => s.heap.size ≤ q) s.heap H locs → lv_has ls 4 [(3, .int x3), (2, .ref (k 0)), (1, .ref (q 0)), (0, .ref b)] → W p l e room_1 s m #[Value.ref b] below meth c H locs 26 600 (lw_Z below #[Value.ref b] s) (F0 m 684 ls [])) : W p l e room_1 s m #[Value.ref b] below meth c H locs 26 600 (lw_Z below #[Value.ref b] s) (F0 m 460 ls []) := by
  obtain ⟨hx, hb, hr, hml, hown, hts, hX, hbl, hlocks, hgv⟩ := C0
  have hb : c.code = cL_law := hb
  have hown : s.vm.findClass RL = some m.cls := hown
  have htl : ∀ w ∈ wsL_law, w.before #[Value.ref b] s = true := fun w h => hts w (wsL_law_in w h)
  have hA : ∀ q : Nat, s.heap.size ≤ q → (fun q : Nat => s.heap.size ≤ q) q := fun _ h => h
  have hbA : ¬ (fun q : Nat => s.heap.size ≤ q) b := Nat.not_le.mpr hbl
  obtain ⟨r, kp', fo', po', na', ns', ta', ts', fs', kt', wl', tn',  hX1, hM1, hR1⟩ := st_thin nc lc le ge wt kp fs nn ln sa sb wg kt hR fo po na ns ta ts wl tn (xs (x3 + (1 : Int32)).toNatClampNeg)
  refine lv_aload_n hx hb dL_law_460 rfl (lv_at hl 2 rfl) ?_
  refine lv_aload_n hx hb dL_law_461 rfl (lv_at hl 3 rfl) ?_
  refine lv_iload_n hx hb dL_law_462 rfl (lv_at hl 0 rfl) ?_
  refine lv_iconst (v := (1 : Int32)) hx hb dL_law_463 (by decide) ?_
  refine lv_iadd hx hb dL_law_464 ?_
  refine va_sld hx hb hX hbl hbA hS (hin 1 (by decide)) dL_law_465 ?_
  have hPc := hP.sub (ws' := (wX cI cJ q nc lc le ge wt kp fo po na ns ta ts mx ch mo ms fs)) [0, 1, 2, 3, 4, 5, 6, 7, 8, 9, 10, 11, 12, 13, 14, 15, 16] rfl
  have hDc := hD.sub (ws' := (wX cI cJ q nc lc le ge wt kp fo po na ns ta ts mx ch mo ms fs)) [0, 1, 2, 3, 4, 5, 6, 7, 8, 9, 10, 11, 12, 13, 14, 15, 16] (by decide) rfl
  refine fw_ci (wr := (wM cI cJ k nn ln sa sb wg kt fr pt wl tn up lo)) (w2 := fun u => (wX cI cJ q nc lc le ge wt u.1 u.2.1 u.2.2.1 u.2.2.2.1 u.2.2.2.2.1 u.2.2.2.2.2.1 u.2.2.2.2.2.2.1 mx ch mo ms u.2.2.2.2.2.2.2 ++ wM cI cJ k nn ln sa sb wg kt fr pt wl tn up lo)) [0, 1, 2, 3, 4, 5, 6, 7, 8, 9, 10, 11, 12, 13, 14, 15, 16] [17, 18, 19, 20, 21, 22, 23, 24, 25] [9, 10, 11, 12, 13, 14, 15, 16, 17, 18, 19, 20, 21, 22, 23, 24, 25, 0, 1, 2, 3, 4, 5, 6, 7, 8] (va_runV (b := q 0) (As := [.int (xs (x3 + (1 : Int32)).toNatClampNeg)]) (rest := []) ⟨hx, hb, hml, hown, htl⟩ (kX3_thin l dC dI cI cJ q H.size nc lc le ge wt kp fo po na ns ta ts mx ch mo ms fs (xs (x3 + (1 : Int32)).toNatClampNeg) ⟨_, hX1⟩) (cwV 1 htl gL_law_X3_thin rfl rfl rfl (by decide +kernel) ⟨Nat.le_of_ble_eq_true rfl, Nat.le_of_ble_eq_true rfl⟩) ⟨fw_blind, va_recv hK hPc (ci := 3) (q0 := 0) rfl rfl, fun U hU hW => fw_pre hPc hK hDc hN hU hW⟩ rfl rfl hl.1 rfl (lv_room (Nat.le_of_ble_eq_true rfl)) dL_law_466 ⟨Nat.le_of_ble_eq_true rfl, Nat.le_of_ble_eq_true rfl⟩) hP hD hS hA rfl rfl (by decide) (by decide) (by decide) (fun _ => rfl) (fun r1 u H locs hw hP hD hS => ?_)
  have h9 := hX1.symm.trans hw
  cases h9
  have hP : va_P (dC, dI) vwCl (wX cI cJ q nc lc le ge wt kp' fo' po' na' ns' ta' ts' mx ch mo ms fs' ++ wM cI cJ k nn ln sa sb wg kt fr pt wl tn up lo) H := hP
  have hD : va_D (fun q : Nat => s.heap.size ≤ q) (wX cI cJ q nc lc le ge wt kp' fo' po' na' ns' ta' ts' mx ch mo ms fs' ++ wM cI cJ k nn ln sa sb wg kt fr pt wl tn up lo) := hD
  refine lv_aload_n hx hb dL_law_469 rfl (lv_at hl 1 rfl) ?_
  refine lv_aload_n hx hb dL_law_470 rfl (lv_at hl 3 rfl) ?_
  refine lv_iload_n hx hb dL_law_471 rfl (lv_at hl 0 rfl) ?_
  refine lv_iconst (v := (1 : Int32)) hx hb dL_law_472 (by decide) ?_
  refine lv_iadd hx hb dL_law_473 ?_
  refine va_sld hx hb hX hbl hbA hS (hin 1 (by decide)) dL_law_474 ?_
  have hPc := hP.sub (ws' := (wM cI cJ k nn ln sa sb wg kt fr pt wl tn up lo)) [17, 18, 19, 20, 21, 22, 23, 24, 25] rfl
  have hDc := hD.sub (ws' := (wM cI cJ k nn ln sa sb wg kt fr pt wl tn up lo)) [17, 18, 19, 20, 21, 22, 23, 24, 25] (by decide) rfl
  refine fw_ci (wr := (wX cI cJ q nc lc le ge wt kp' fo' po' na' ns' ta' ts' mx ch mo ms fs')) (w2 := fun u => (wX cI cJ q nc lc le ge wt kp' fo' po' na' ns' ta' ts' mx ch mo ms fs' ++ wM cI cJ k nn ln sa sb wg u.1 fr pt u.2.1 u.2.2 up lo)) [17, 18, 19, 20, 21, 22, 23, 24, 25] [0, 1, 2, 3, 4, 5, 6, 7, 8, 9, 10, 11, 12, 13, 14, 15, 16] [0, 1, 2, 3, 4, 5, 6, 7, 8, 9, 10, 11, 12, 13, 14, 15, 16, 17, 18, 19, 20, 21, 22, 23, 24, 25] (va_runV (b := k 0) (As := [.int (xs (x3 + (1 : Int32)).toNatClampNeg)]) (rest := [.int r]) ⟨hx, hb, hml, hown, htl⟩ (kX4_thin l dC dI cI cJ k H.size nn ln sa sb wg kt fr pt wl tn up lo (xs (x3 + (1 : Int32)).toNatClampNeg) ⟨_, hM1⟩) (cwV 1 htl gL_law_X4_thin rfl rfl rfl (by decide +kernel) ⟨Nat.le_of_ble_eq_true rfl, Nat.le_of_ble_eq_true rfl⟩) ⟨fw_blind, va_recv hK hPc (ci := 4) (q0 := 0) rfl rfl, fun U hU hW => fw_pre hPc hK hDc hN hU hW⟩ rfl rfl hl.1 rfl (lv_room (Nat.le_of_ble_eq_true rfl)) dL_law_475 ⟨Nat.le_of_ble_eq_true rfl, Nat.le_of_ble_eq_true rfl⟩) hP hD hS hA rfl rfl (by decide) (by decide) (by decide) (fun _ => rfl) (fun r1 u H locs hw hP hD hS => ?_)
  have h9 := hM1.symm.trans hw
  cases h9
  have hP : va_P (dC, dI) vwCl (wX cI cJ q nc lc le ge wt kp' fo' po' na' ns' ta' ts' mx ch mo ms fs' ++ wM cI cJ k nn ln sa sb wg kt' fr pt wl' tn' up lo) H := hP
  have hD : va_D (fun q : Nat => s.heap.size ≤ q) (wX cI cJ q nc lc le ge wt kp' fo' po' na' ns' ta' ts' mx ch mo ms fs' ++ wM cI cJ k nn ln sa sb wg kt' fr pt wl' tn' up lo) := hD
  refine lv_icmp_eq (tgt := 684) hx hb dL_law_478 (by decide) (fun c9 => ?_) (fun c9 => absurd rfl c9)
  exact hk nc lc le ge wt kp' fo' po' na' ns' ta' ts' mx ch mo ms fs' nn ln sa sb wg kt' fr pt wl' tn' up lo H locs ls hR1 hP hD hS (lv_sub hl [0, 1, 2, 3] rfl)
set_option maxHeartbeats 4000000 in
set_option maxRecDepth 100000 in
theorem law_far {p : Program} {l : Launch} {e : Env} {s : State} {m : MethodId} {below : List Frame} {meth : Method} {c : Code} {dC : Nat → ClassId} {dI : Nat → Nat → Nat} {cI cJ : ClassId} {b L : Nat} {xs : Nat → Int32} (hL : L ≤ 2560) (C0 : lw_At p s m meth c b L xs) (hK : va_K (dC, dI) vwCl (fw_tys cI cJ) s) (hN : va_Nw fw_nest s) (q k : Nat → Nat) (nc : Int32) (lc : Int32) (le : Nat → Int32) (ge : Nat → Int32) (wt : Nat → Int32) (kp : Nat → Int32) (fo : Nat → Int32) (po : Nat → Int32) (na : Nat → Int32) (ns : Int32) (ta : Nat → Int32) (ts : Int32) (mx : Nat → Int64) (ch : Nat → Int32) (mo : Nat → Int64) (ms : Int32) (fs : Nat → Int32) (nn : Int32) (ln : Int32) (sa : Nat → Int32) (sb : Nat → Int32) (wg : Nat → Int32) (kt : Nat → Int32) (fr : Nat → Int32) (pt : Nat → Int32) (wl : Nat → Int32) (tn : Nat → Int32) (up : Int64) (lo : Int64) (hR : fw_R nc lc le ge wt kp fs nn ln sa sb wg kt) (x3 : Int32) (hin : ∀ j : Nat, j < 5 → vp_in (x3 + nI j) L) (H : Heap) (locs : List Loc) (ls : Array Slot) (hP : va_P (dC, dI) vwCl (wX cI cJ q nc lc le ge wt kp fo po na ns ta ts mx ch mo ms fs ++ wM cI cJ k nn ln sa sb wg kt fr pt wl tn up lo) H) (hD : va_D (fun q : Nat => s.heap.size ≤ q) (wX cI cJ q nc lc le ge wt kp fo po na ns ta ts mx ch mo ms fs ++ wM cI cJ k nn ln sa sb wg kt fr pt wl tn up lo)) (hS : va_S (fun q : Nat => s.heap.size ≤ q) s.heap H locs) (hl : lv_has ls 4 [(3, .int x3), (2, .ref (k 0)), (1, .ref (q 0)), (0, .ref b)])
    (hk : ∀ (nc : Int32) (lc : Int32) (le : Nat → Int32) (ge : Nat → Int32) (wt : Nat → Int32) (kp : Nat → Int32) (fo : Nat → Int32) (po : Nat → Int32) (na : Nat → Int32) (ns : Int32) (ta : Nat → Int32) (ts : Int32) (mx : Nat → Int64) (ch : Nat → Int32) (mo : Nat → Int64) (ms : Int32) (fs : Nat → Int32) (nn : Int32) (ln : Int32) (sa : Nat → Int32) (sb : Nat → Int32) (wg : Nat → Int32) (kt : Nat → Int32) (fr : Nat → Int32) (pt : Nat → Int32) (wl : Nat → Int32) (tn : Nat → Int32) (up : Int64) (lo : Int64) (H : Heap) (locs : List Loc) (ls : Array Slot), fw_R nc lc le ge wt kp fs nn ln sa sb wg kt → va_P (dC, dI) vwCl (wX cI cJ q nc lc le ge wt kp fo po na ns ta ts mx ch mo ms fs ++ wM cI cJ k nn ln sa sb wg kt fr pt wl tn up lo) H → va_D (fun q : Nat => s.heap.size ≤ q) (wX cI cJ q nc lc le ge wt kp fo po na ns ta ts mx ch mo ms fs ++ wM cI cJ k nn ln sa sb wg kt fr pt wl tn up lo) → va_S (fun q : Nat => s.heap.size ≤ q) s.heap H locs → lv_has ls 4 [(3, .int x3), (2, .ref (k 0)), (1, .ref (q 0)), (0, .ref b)] → W p l e room_1 s m #[Value.ref b] below meth c H locs 26 600 (lw_Z below #[Value.ref b] s) (F0 m 684 ls [])) : W p l e room_1 s m #[Value.ref b] below meth c H locs 26 600 (lw_Z below #[Value.ref b] s) (F0 m 483 ls []) := by
  obtain ⟨hx, hb, hr, hml, hown, hts, hX, hbl, hlocks, hgv⟩ := C0
  have hb : c.code = cL_law := hb
  have hown : s.vm.findClass RL = some m.cls := hown
  have htl : ∀ w ∈ wsL_law, w.before #[Value.ref b] s = true := fun w h => hts w (wsL_law_in w h)
  have hA : ∀ q : Nat, s.heap.size ≤ q → (fun q : Nat => s.heap.size ≤ q) q := fun _ h => h
  have hbA : ¬ (fun q : Nat => s.heap.size ≤ q) b := Nat.not_le.mpr hbl
  obtain ⟨r, na', ns', ta', ts', wl',  hX1, hM1, hR1⟩ := st_far nc lc le ge wt kp fs nn ln sa sb wg kt hR na ns ta ts wl (xs (x3 + (1 : Int32)).toNatClampNeg) (xs (x3 + (2 : Int32)).toNatClampNeg) (xs (x3 + (3 : Int32)).toNatClampNeg)
  refine lv_aload_n hx hb dL_law_483 rfl (lv_at hl 2 rfl) ?_
  refine lv_aload_n hx hb dL_law_484 rfl (lv_at hl 3 rfl) ?_
  refine lv_iload_n hx hb dL_law_485 rfl (lv_at hl 0 rfl) ?_
  refine lv_iconst (v := (1 : Int32)) hx hb dL_law_486 (by decide) ?_
  refine lv_iadd hx hb dL_law_487 ?_
  refine va_sld hx hb hX hbl hbA hS (hin 1 (by decide)) dL_law_488 ?_
  refine lv_aload_n hx hb dL_law_489 rfl (lv_at hl 3 rfl) ?_
  refine lv_iload_n hx hb dL_law_490 rfl (lv_at hl 0 rfl) ?_
  refine lv_iconst (v := (2 : Int32)) hx hb dL_law_491 (by decide) ?_
  refine lv_iadd hx hb dL_law_492 ?_
  refine va_sld hx hb hX hbl hbA hS (hin 2 (by decide)) dL_law_493 ?_
  refine lv_aload_n hx hb dL_law_494 rfl (lv_at hl 3 rfl) ?_
  refine lv_iload_n hx hb dL_law_495 rfl (lv_at hl 0 rfl) ?_
  refine lv_iconst (v := (3 : Int32)) hx hb dL_law_496 (by decide) ?_
  refine lv_iadd hx hb dL_law_497 ?_
  refine va_sld hx hb hX hbl hbA hS (hin 3 (by decide)) dL_law_498 ?_
  have hPc := hP.sub (ws' := (wX cI cJ q nc lc le ge wt kp fo po na ns ta ts mx ch mo ms fs)) [0, 1, 2, 3, 4, 5, 6, 7, 8, 9, 10, 11, 12, 13, 14, 15, 16] rfl
  have hDc := hD.sub (ws' := (wX cI cJ q nc lc le ge wt kp fo po na ns ta ts mx ch mo ms fs)) [0, 1, 2, 3, 4, 5, 6, 7, 8, 9, 10, 11, 12, 13, 14, 15, 16] (by decide) rfl
  refine fw_ci (wr := (wM cI cJ k nn ln sa sb wg kt fr pt wl tn up lo)) (w2 := fun u => (wX cI cJ q nc lc le ge wt kp fo po u.1 u.2.1 u.2.2.1 u.2.2.2 mx ch mo ms fs ++ wM cI cJ k nn ln sa sb wg kt fr pt wl tn up lo)) [0, 1, 2, 3, 4, 5, 6, 7, 8, 9, 10, 11, 12, 13, 14, 15, 16] [17, 18, 19, 20, 21, 22, 23, 24, 25] [9, 10, 11, 12, 13, 14, 15, 16, 17, 18, 19, 20, 21, 22, 23, 24, 25, 0, 1, 2, 3, 4, 5, 6, 7, 8] (va_runV (b := q 0) (As := [.int (xs (x3 + (1 : Int32)).toNatClampNeg), .int (xs (x3 + (2 : Int32)).toNatClampNeg), .int (xs (x3 + (3 : Int32)).toNatClampNeg)]) (rest := []) ⟨hx, hb, hml, hown, htl⟩ (kX3_far l dC dI cI cJ q H.size nc lc le ge wt kp fo po na ns ta ts mx ch mo ms fs (xs (x3 + (1 : Int32)).toNatClampNeg) (xs (x3 + (2 : Int32)).toNatClampNeg) (xs (x3 + (3 : Int32)).toNatClampNeg) ⟨_, hX1⟩) (cwV 3 htl gL_law_X3_far rfl rfl rfl (by decide +kernel) ⟨Nat.le_of_ble_eq_true rfl, Nat.le_of_ble_eq_true rfl⟩) ⟨fw_blind, va_recv hK hPc (ci := 3) (q0 := 0) rfl rfl, fun U hU hW => fw_pre hPc hK hDc hN hU hW⟩ rfl rfl hl.1 rfl (lv_room (Nat.le_of_ble_eq_true rfl)) dL_law_499 ⟨Nat.le_of_ble_eq_true rfl, Nat.le_of_ble_eq_true rfl⟩) hP hD hS hA rfl rfl (by decide) (by decide) (by decide) (fun _ => rfl) (fun r1 u H locs hw hP hD hS => ?_)
  have h9 := hX1.symm.trans hw
  cases h9
  have hP : va_P (dC, dI) vwCl (wX cI cJ q nc lc le ge wt kp fo po na' ns' ta' ts' mx ch mo ms fs ++ wM cI cJ k nn ln sa sb wg kt fr pt wl tn up lo) H := hP
  have hD : va_D (fun q : Nat => s.heap.size ≤ q) (wX cI cJ q nc lc le ge wt kp fo po na' ns' ta' ts' mx ch mo ms fs ++ wM cI cJ k nn ln sa sb wg kt fr pt wl tn up lo) := hD
  refine lv_aload_n hx hb dL_law_502 rfl (lv_at hl 1 rfl) ?_
  refine lv_aload_n hx hb dL_law_503 rfl (lv_at hl 3 rfl) ?_
  refine lv_iload_n hx hb dL_law_504 rfl (lv_at hl 0 rfl) ?_
  refine lv_iconst (v := (1 : Int32)) hx hb dL_law_505 (by decide) ?_
  refine lv_iadd hx hb dL_law_506 ?_
  refine va_sld hx hb hX hbl hbA hS (hin 1 (by decide)) dL_law_507 ?_
  refine lv_aload_n hx hb dL_law_508 rfl (lv_at hl 3 rfl) ?_
  refine lv_iload_n hx hb dL_law_509 rfl (lv_at hl 0 rfl) ?_
  refine lv_iconst (v := (2 : Int32)) hx hb dL_law_510 (by decide) ?_
  refine lv_iadd hx hb dL_law_511 ?_
  refine va_sld hx hb hX hbl hbA hS (hin 2 (by decide)) dL_law_512 ?_
  refine lv_aload_n hx hb dL_law_513 rfl (lv_at hl 3 rfl) ?_
  refine lv_iload_n hx hb dL_law_514 rfl (lv_at hl 0 rfl) ?_
  refine lv_iconst (v := (3 : Int32)) hx hb dL_law_515 (by decide) ?_
  refine lv_iadd hx hb dL_law_516 ?_
  refine va_sld hx hb hX hbl hbA hS (hin 3 (by decide)) dL_law_517 ?_
  have hPc := hP.sub (ws' := (wM cI cJ k nn ln sa sb wg kt fr pt wl tn up lo)) [17, 18, 19, 20, 21, 22, 23, 24, 25] rfl
  have hDc := hD.sub (ws' := (wM cI cJ k nn ln sa sb wg kt fr pt wl tn up lo)) [17, 18, 19, 20, 21, 22, 23, 24, 25] (by decide) rfl
  refine fw_ci (wr := (wX cI cJ q nc lc le ge wt kp fo po na' ns' ta' ts' mx ch mo ms fs)) (w2 := fun u => (wX cI cJ q nc lc le ge wt kp fo po na' ns' ta' ts' mx ch mo ms fs ++ wM cI cJ k nn ln sa sb wg kt fr pt u tn up lo)) [17, 18, 19, 20, 21, 22, 23, 24, 25] [0, 1, 2, 3, 4, 5, 6, 7, 8, 9, 10, 11, 12, 13, 14, 15, 16] [0, 1, 2, 3, 4, 5, 6, 7, 8, 9, 10, 11, 12, 13, 14, 15, 16, 17, 18, 19, 20, 21, 22, 23, 24, 25] (va_runV (b := k 0) (As := [.int (xs (x3 + (1 : Int32)).toNatClampNeg), .int (xs (x3 + (2 : Int32)).toNatClampNeg), .int (xs (x3 + (3 : Int32)).toNatClampNeg)]) (rest := [.int r]) ⟨hx, hb, hml, hown, htl⟩ (kX4_far l dC dI cI cJ k H.size nn ln sa sb wg kt fr pt wl tn up lo (xs (x3 + (1 : Int32)).toNatClampNeg) (xs (x3 + (2 : Int32)).toNatClampNeg) (xs (x3 + (3 : Int32)).toNatClampNeg) ⟨_, hM1⟩) (cwV 3 htl gL_law_X4_far rfl rfl rfl (by decide +kernel) ⟨Nat.le_of_ble_eq_true rfl, Nat.le_of_ble_eq_true rfl⟩) ⟨fw_blind, va_recv hK hPc (ci := 4) (q0 := 0) rfl rfl, fun U hU hW => fw_pre hPc hK hDc hN hU hW⟩ rfl rfl hl.1 rfl (lv_room (Nat.le_of_ble_eq_true rfl)) dL_law_518 ⟨Nat.le_of_ble_eq_true rfl, Nat.le_of_ble_eq_true rfl⟩) hP hD hS hA rfl rfl (by decide) (by decide) (by decide) (fun _ => rfl) (fun r1 u H locs hw hP hD hS => ?_)
  have h9 := hM1.symm.trans hw
  cases h9
  have hP : va_P (dC, dI) vwCl (wX cI cJ q nc lc le ge wt kp fo po na' ns' ta' ts' mx ch mo ms fs ++ wM cI cJ k nn ln sa sb wg kt fr pt wl' tn up lo) H := hP
  have hD : va_D (fun q : Nat => s.heap.size ≤ q) (wX cI cJ q nc lc le ge wt kp fo po na' ns' ta' ts' mx ch mo ms fs ++ wM cI cJ k nn ln sa sb wg kt fr pt wl' tn up lo) := hD
  refine lv_icmp_eq (tgt := 684) hx hb dL_law_521 (by decide) (fun c9 => ?_) (fun c9 => absurd rfl c9)
  exact hk nc lc le ge wt kp fo po na' ns' ta' ts' mx ch mo ms fs nn ln sa sb wg kt fr pt wl' tn up lo H locs ls hR1 hP hD hS (lv_sub hl [0, 1, 2, 3] rfl)
set_option maxHeartbeats 4000000 in
set_option maxRecDepth 100000 in
theorem law_stretch {p : Program} {l : Launch} {e : Env} {s : State} {m : MethodId} {below : List Frame} {meth : Method} {c : Code} {dC : Nat → ClassId} {dI : Nat → Nat → Nat} {cI cJ : ClassId} {b L : Nat} {xs : Nat → Int32} (hL : L ≤ 2560) (C0 : lw_At p s m meth c b L xs) (hK : va_K (dC, dI) vwCl (fw_tys cI cJ) s) (hN : va_Nw fw_nest s) (q k : Nat → Nat) (nc : Int32) (lc : Int32) (le : Nat → Int32) (ge : Nat → Int32) (wt : Nat → Int32) (kp : Nat → Int32) (fo : Nat → Int32) (po : Nat → Int32) (na : Nat → Int32) (ns : Int32) (ta : Nat → Int32) (ts : Int32) (mx : Nat → Int64) (ch : Nat → Int32) (mo : Nat → Int64) (ms : Int32) (fs : Nat → Int32) (nn : Int32) (ln : Int32) (sa : Nat → Int32) (sb : Nat → Int32) (wg : Nat → Int32) (kt : Nat → Int32) (fr : Nat → Int32) (pt : Nat → Int32) (wl : Nat → Int32) (tn : Nat → Int32) (up : Int64) (lo : Int64) (hR : fw_R nc lc le ge wt kp fs nn ln sa sb wg kt) (x3 : Int32) (hin : ∀ j : Nat, j < 5 → vp_in (x3 + nI j) L) (H : Heap) (locs : List Loc) (ls : Array Slot) (hP : va_P (dC, dI) vwCl (wX cI cJ q nc lc le ge wt kp fo po na ns ta ts mx ch mo ms fs ++ wM cI cJ k nn ln sa sb wg kt fr pt wl tn up lo) H) (hD : va_D (fun q : Nat => s.heap.size ≤ q) (wX cI cJ q nc lc le ge wt kp fo po na ns ta ts mx ch mo ms fs ++ wM cI cJ k nn ln sa sb wg kt fr pt wl tn up lo)) (hS : va_S (fun q : Nat => s.heap.size ≤ q) s.heap H locs) (hl : lv_has ls 4 [(3, .int x3), (2, .ref (k 0)), (1, .ref (q 0)), (0, .ref b)])
    (hk : ∀ (nc : Int32) (lc : Int32) (le : Nat → Int32) (ge : Nat → Int32) (wt : Nat → Int32) (kp : Nat → Int32) (fo : Nat → Int32) (po : Nat → Int32) (na : Nat → Int32) (ns : Int32) (ta : Nat → Int32) (ts : Int32) (mx : Nat → Int64) (ch : Nat → Int32) (mo : Nat → Int64) (ms : Int32) (fs : Nat → Int32) (nn : Int32) (ln : Int32) (sa : Nat → Int32) (sb : Nat → Int32) (wg : Nat → Int32) (kt : Nat → Int32) (fr : Nat → Int32) (pt : Nat → Int32) (wl : Nat → Int32) (tn : Nat → Int32) (up : Int64) (lo : Int64) (H : Heap) (locs : List Loc) (ls : Array Slot), fw_R nc lc le ge wt kp fs nn ln sa sb wg kt → va_P (dC, dI) vwCl (wX cI cJ q nc lc le ge wt kp fo po na ns ta ts mx ch mo ms fs ++ wM cI cJ k nn ln sa sb wg kt fr pt wl tn up lo) H → va_D (fun q : Nat => s.heap.size ≤ q) (wX cI cJ q nc lc le ge wt kp fo po na ns ta ts mx ch mo ms fs ++ wM cI cJ k nn ln sa sb wg kt fr pt wl tn up lo) → va_S (fun q : Nat => s.heap.size ≤ q) s.heap H locs → lv_has ls 4 [(3, .int x3), (2, .ref (k 0)), (1, .ref (q 0)), (0, .ref b)] → W p l e room_1 s m #[Value.ref b] below meth c H locs 26 600 (lw_Z below #[Value.ref b] s) (F0 m 684 ls [])) : W p l e room_1 s m #[Value.ref b] below meth c H locs 26 600 (lw_Z below #[Value.ref b] s) (F0 m 526 ls []) := by
  obtain ⟨hx, hb, hr, hml, hown, hts, hX, hbl, hlocks, hgv⟩ := C0
  have hb : c.code = cL_law := hb
  have hown : s.vm.findClass RL = some m.cls := hown
  have htl : ∀ w ∈ wsL_law, w.before #[Value.ref b] s = true := fun w h => hts w (wsL_law_in w h)
  have hA : ∀ q : Nat, s.heap.size ≤ q → (fun q : Nat => s.heap.size ≤ q) q := fun _ h => h
  have hbA : ¬ (fun q : Nat => s.heap.size ≤ q) b := Nat.not_le.mpr hbl
  obtain ⟨r, na', ns', ta', ts', wl', tn',  hX1, hM1, hR1⟩ := st_stretch nc lc le ge wt kp fs nn ln sa sb wg kt hR na ns ta ts wl tn (xs (x3 + (1 : Int32)).toNatClampNeg)
  refine lv_aload_n hx hb dL_law_526 rfl (lv_at hl 2 rfl) ?_
  refine lv_aload_n hx hb dL_law_527 rfl (lv_at hl 3 rfl) ?_
  refine lv_iload_n hx hb dL_law_528 rfl (lv_at hl 0 rfl) ?_
  refine lv_iconst (v := (1 : Int32)) hx hb dL_law_529 (by decide) ?_
  refine lv_iadd hx hb dL_law_530 ?_
  refine va_sld hx hb hX hbl hbA hS (hin 1 (by decide)) dL_law_531 ?_
  have hPc := hP.sub (ws' := (wX cI cJ q nc lc le ge wt kp fo po na ns ta ts mx ch mo ms fs)) [0, 1, 2, 3, 4, 5, 6, 7, 8, 9, 10, 11, 12, 13, 14, 15, 16] rfl
  have hDc := hD.sub (ws' := (wX cI cJ q nc lc le ge wt kp fo po na ns ta ts mx ch mo ms fs)) [0, 1, 2, 3, 4, 5, 6, 7, 8, 9, 10, 11, 12, 13, 14, 15, 16] (by decide) rfl
  refine fw_ci (wr := (wM cI cJ k nn ln sa sb wg kt fr pt wl tn up lo)) (w2 := fun u => (wX cI cJ q nc lc le ge wt kp fo po u.1 u.2.1 u.2.2.1 u.2.2.2 mx ch mo ms fs ++ wM cI cJ k nn ln sa sb wg kt fr pt wl tn up lo)) [0, 1, 2, 3, 4, 5, 6, 7, 8, 9, 10, 11, 12, 13, 14, 15, 16] [17, 18, 19, 20, 21, 22, 23, 24, 25] [9, 10, 11, 12, 13, 14, 15, 16, 17, 18, 19, 20, 21, 22, 23, 24, 25, 0, 1, 2, 3, 4, 5, 6, 7, 8] (va_runV (b := q 0) (As := [.int (xs (x3 + (1 : Int32)).toNatClampNeg)]) (rest := []) ⟨hx, hb, hml, hown, htl⟩ (kX3_stretch l dC dI cI cJ q H.size nc lc le ge wt kp fo po na ns ta ts mx ch mo ms fs (xs (x3 + (1 : Int32)).toNatClampNeg) ⟨_, hX1⟩) (cwV 1 htl gL_law_X3_stretch rfl rfl rfl (by decide +kernel) ⟨Nat.le_of_ble_eq_true rfl, Nat.le_of_ble_eq_true rfl⟩) ⟨fw_blind, va_recv hK hPc (ci := 3) (q0 := 0) rfl rfl, fun U hU hW => fw_pre hPc hK hDc hN hU hW⟩ rfl rfl hl.1 rfl (lv_room (Nat.le_of_ble_eq_true rfl)) dL_law_532 ⟨Nat.le_of_ble_eq_true rfl, Nat.le_of_ble_eq_true rfl⟩) hP hD hS hA rfl rfl (by decide) (by decide) (by decide) (fun _ => rfl) (fun r1 u H locs hw hP hD hS => ?_)
  have h9 := hX1.symm.trans hw
  cases h9
  have hP : va_P (dC, dI) vwCl (wX cI cJ q nc lc le ge wt kp fo po na' ns' ta' ts' mx ch mo ms fs ++ wM cI cJ k nn ln sa sb wg kt fr pt wl tn up lo) H := hP
  have hD : va_D (fun q : Nat => s.heap.size ≤ q) (wX cI cJ q nc lc le ge wt kp fo po na' ns' ta' ts' mx ch mo ms fs ++ wM cI cJ k nn ln sa sb wg kt fr pt wl tn up lo) := hD
  refine lv_aload_n hx hb dL_law_535 rfl (lv_at hl 1 rfl) ?_
  refine lv_aload_n hx hb dL_law_536 rfl (lv_at hl 3 rfl) ?_
  refine lv_iload_n hx hb dL_law_537 rfl (lv_at hl 0 rfl) ?_
  refine lv_iconst (v := (1 : Int32)) hx hb dL_law_538 (by decide) ?_
  refine lv_iadd hx hb dL_law_539 ?_
  refine va_sld hx hb hX hbl hbA hS (hin 1 (by decide)) dL_law_540 ?_
  have hPc := hP.sub (ws' := (wM cI cJ k nn ln sa sb wg kt fr pt wl tn up lo)) [17, 18, 19, 20, 21, 22, 23, 24, 25] rfl
  have hDc := hD.sub (ws' := (wM cI cJ k nn ln sa sb wg kt fr pt wl tn up lo)) [17, 18, 19, 20, 21, 22, 23, 24, 25] (by decide) rfl
  refine fw_ci (wr := (wX cI cJ q nc lc le ge wt kp fo po na' ns' ta' ts' mx ch mo ms fs)) (w2 := fun u => (wX cI cJ q nc lc le ge wt kp fo po na' ns' ta' ts' mx ch mo ms fs ++ wM cI cJ k nn ln sa sb wg kt fr pt u.1 u.2 up lo)) [17, 18, 19, 20, 21, 22, 23, 24, 25] [0, 1, 2, 3, 4, 5, 6, 7, 8, 9, 10, 11, 12, 13, 14, 15, 16] [0, 1, 2, 3, 4, 5, 6, 7, 8, 9, 10, 11, 12, 13, 14, 15, 16, 17, 18, 19, 20, 21, 22, 23, 24, 25] (va_runV (b := k 0) (As := [.int (xs (x3 + (1 : Int32)).toNatClampNeg)]) (rest := [.int r]) ⟨hx, hb, hml, hown, htl⟩ (kX4_stretch l dC dI cI cJ k H.size nn ln sa sb wg kt fr pt wl tn up lo (xs (x3 + (1 : Int32)).toNatClampNeg) ⟨_, hM1⟩) (cwV 1 htl gL_law_X4_stretch rfl rfl rfl (by decide +kernel) ⟨Nat.le_of_ble_eq_true rfl, Nat.le_of_ble_eq_true rfl⟩) ⟨fw_blind, va_recv hK hPc (ci := 4) (q0 := 0) rfl rfl, fun U hU hW => fw_pre hPc hK hDc hN hU hW⟩ rfl rfl hl.1 rfl (lv_room (Nat.le_of_ble_eq_true rfl)) dL_law_541 ⟨Nat.le_of_ble_eq_true rfl, Nat.le_of_ble_eq_true rfl⟩) hP hD hS hA rfl rfl (by decide) (by decide) (by decide) (fun _ => rfl) (fun r1 u H locs hw hP hD hS => ?_)
  have h9 := hM1.symm.trans hw
  cases h9
  have hP : va_P (dC, dI) vwCl (wX cI cJ q nc lc le ge wt kp fo po na' ns' ta' ts' mx ch mo ms fs ++ wM cI cJ k nn ln sa sb wg kt fr pt wl' tn' up lo) H := hP
  have hD : va_D (fun q : Nat => s.heap.size ≤ q) (wX cI cJ q nc lc le ge wt kp fo po na' ns' ta' ts' mx ch mo ms fs ++ wM cI cJ k nn ln sa sb wg kt fr pt wl' tn' up lo) := hD
  refine lv_icmp_eq (tgt := 684) hx hb dL_law_544 (by decide) (fun c9 => ?_) (fun c9 => absurd rfl c9)
  exact hk nc lc le ge wt kp fo po na' ns' ta' ts' mx ch mo ms fs nn ln sa sb wg kt fr pt wl' tn' up lo H locs ls hR1 hP hD hS (lv_sub hl [0, 1, 2, 3] rfl)
set_option maxHeartbeats 4000000 in
set_option maxRecDepth 100000 in
theorem law_trees {p : Program} {l : Launch} {e : Env} {s : State} {m : MethodId} {below : List Frame} {meth : Method} {c : Code} {dC : Nat → ClassId} {dI : Nat → Nat → Nat} {cI cJ : ClassId} {b L : Nat} {xs : Nat → Int32} (hL : L ≤ 2560) (C0 : lw_At p s m meth c b L xs) (hK : va_K (dC, dI) vwCl (fw_tys cI cJ) s) (hN : va_Nw fw_nest s) (q k : Nat → Nat) (nc : Int32) (lc : Int32) (le : Nat → Int32) (ge : Nat → Int32) (wt : Nat → Int32) (kp : Nat → Int32) (fo : Nat → Int32) (po : Nat → Int32) (na : Nat → Int32) (ns : Int32) (ta : Nat → Int32) (ts : Int32) (mx : Nat → Int64) (ch : Nat → Int32) (mo : Nat → Int64) (ms : Int32) (fs : Nat → Int32) (nn : Int32) (ln : Int32) (sa : Nat → Int32) (sb : Nat → Int32) (wg : Nat → Int32) (kt : Nat → Int32) (fr : Nat → Int32) (pt : Nat → Int32) (wl : Nat → Int32) (tn : Nat → Int32) (up : Int64) (lo : Int64) (hR : fw_R nc lc le ge wt kp fs nn ln sa sb wg kt) (x3 : Int32) (hin : ∀ j : Nat, j < 5 → vp_in (x3 + nI j) L) (H : Heap) (locs : List Loc) (ls : Array Slot) (hP : va_P (dC, dI) vwCl (wX cI cJ q nc lc le ge wt kp fo po na ns ta ts mx ch mo ms fs ++ wM cI cJ k nn ln sa sb wg kt fr pt wl tn up lo) H) (hD : va_D (fun q : Nat => s.heap.size ≤ q) (wX cI cJ q nc lc le ge wt kp fo po na ns ta ts mx ch mo ms fs ++ wM cI cJ k nn ln sa sb wg kt fr pt wl tn up lo)) (hS : va_S (fun q : Nat => s.heap.size ≤ q) s.heap H locs) (hl : lv_has ls 4 [(3, .int x3), (2, .ref (k 0)), (1, .ref (q 0)), (0, .ref b)])
    (hk : ∀ (nc : Int32) (lc : Int32) (le : Nat → Int32) (ge : Nat → Int32) (wt : Nat → Int32) (kp : Nat → Int32) (fo : Nat → Int32) (po : Nat → Int32) (na : Nat → Int32) (ns : Int32) (ta : Nat → Int32) (ts : Int32) (mx : Nat → Int64) (ch : Nat → Int32) (mo : Nat → Int64) (ms : Int32) (fs : Nat → Int32) (nn : Int32) (ln : Int32) (sa : Nat → Int32) (sb : Nat → Int32) (wg : Nat → Int32) (kt : Nat → Int32) (fr : Nat → Int32) (pt : Nat → Int32) (wl : Nat → Int32) (tn : Nat → Int32) (up : Int64) (lo : Int64) (H : Heap) (locs : List Loc) (ls : Array Slot), fw_R nc lc le ge wt kp fs nn ln sa sb wg kt → va_P (dC, dI) vwCl (wX cI cJ q nc lc le ge wt kp fo po na ns ta ts mx ch mo ms fs ++ wM cI cJ k nn ln sa sb wg kt fr pt wl tn up lo) H → va_D (fun q : Nat => s.heap.size ≤ q) (wX cI cJ q nc lc le ge wt kp fo po na ns ta ts mx ch mo ms fs ++ wM cI cJ k nn ln sa sb wg kt fr pt wl tn up lo) → va_S (fun q : Nat => s.heap.size ≤ q) s.heap H locs → lv_has ls 4 [(3, .int x3), (2, .ref (k 0)), (1, .ref (q 0)), (0, .ref b)] → W p l e room_1 s m #[Value.ref b] below meth c H locs 26 600 (lw_Z below #[Value.ref b] s) (F0 m 684 ls [])) : W p l e room_1 s m #[Value.ref b] below meth c H locs 26 600 (lw_Z below #[Value.ref b] s) (F0 m 549 ls []) := by
  obtain ⟨hx, hb, hr, hml, hown, hts, hX, hbl, hlocks, hgv⟩ := C0
  have hb : c.code = cL_law := hb
  have hown : s.vm.findClass RL = some m.cls := hown
  have htl : ∀ w ∈ wsL_law, w.before #[Value.ref b] s = true := fun w h => hts w (wsL_law_in w h)
  have hA : ∀ q : Nat, s.heap.size ≤ q → (fun q : Nat => s.heap.size ≤ q) q := fun _ h => h
  have hbA : ¬ (fun q : Nat => s.heap.size ≤ q) b := Nat.not_le.mpr hbl
  obtain ⟨r, mx', ch', mo', ms', pt',  hX1, hM1, hR1⟩ := st_trees nc lc le ge wt kp fs nn ln sa sb wg kt hR mx ch mo ms pt (xs (x3 + (1 : Int32)).toNatClampNeg)
  refine lv_aload_n hx hb dL_law_549 rfl (lv_at hl 2 rfl) ?_
  refine lv_aload_n hx hb dL_law_550 rfl (lv_at hl 3 rfl) ?_
  refine lv_iload_n hx hb dL_law_551 rfl (lv_at hl 0 rfl) ?_
  refine lv_iconst (v := (1 : Int32)) hx hb dL_law_552 (by decide) ?_
  refine lv_iadd hx hb dL_law_553 ?_
  refine va_sld hx hb hX hbl hbA hS (hin 1 (by decide)) dL_law_554 ?_
  have hPc := hP.sub (ws' := (wX cI cJ q nc lc le ge wt kp fo po na ns ta ts mx ch mo ms fs)) [0, 1, 2, 3, 4, 5, 6, 7, 8, 9, 10, 11, 12, 13, 14, 15, 16] rfl
  have hDc := hD.sub (ws' := (wX cI cJ q nc lc le ge wt kp fo po na ns ta ts mx ch mo ms fs)) [0, 1, 2, 3, 4, 5, 6, 7, 8, 9, 10, 11, 12, 13, 14, 15, 16] (by decide) rfl
  refine fw_cl (wr := (wM cI cJ k nn ln sa sb wg kt fr pt wl tn up lo)) (w2 := fun u => (wX cI cJ q nc lc le ge wt kp fo po na ns ta ts u.1 u.2.1 u.2.2.1 u.2.2.2 fs ++ wM cI cJ k nn ln sa sb wg kt fr pt wl tn up lo)) [0, 1, 2, 3, 4, 5, 6, 7, 8, 9, 10, 11, 12, 13, 14, 15, 16] [17, 18, 19, 20, 21, 22, 23, 24, 25] [9, 10, 11, 12, 13, 14, 15, 16, 17, 18, 19, 20, 21, 22, 23, 24, 25, 0, 1, 2, 3, 4, 5, 6, 7, 8] (va_runV (b := q 0) (As := [.int (xs (x3 + (1 : Int32)).toNatClampNeg)]) (rest := []) ⟨hx, hb, hml, hown, htl⟩ (kX3_trees l dC dI cI cJ q H.size nc lc le ge wt kp fo po na ns ta ts mx ch mo ms fs (xs (x3 + (1 : Int32)).toNatClampNeg) ⟨_, hX1⟩) (cwV 1 htl gL_law_X3_trees rfl rfl rfl (by decide +kernel) ⟨Nat.le_of_ble_eq_true rfl, Nat.le_of_ble_eq_true rfl⟩) ⟨fw_blind, va_recv hK hPc (ci := 3) (q0 := 0) rfl rfl, fun U hU hW => fw_pre hPc hK hDc hN hU hW⟩ rfl rfl hl.1 rfl (lv_room (Nat.le_of_ble_eq_true rfl)) dL_law_555 ⟨Nat.le_of_ble_eq_true rfl, Nat.le_of_ble_eq_true rfl⟩) hP hD hS hA rfl rfl (by decide) (by decide) (by decide) (fun _ => rfl) (fun r1 u H locs hw hP hD hS => ?_)
  have h9 := hX1.symm.trans hw
  cases h9
  have hP : va_P (dC, dI) vwCl (wX cI cJ q nc lc le ge wt kp fo po na ns ta ts mx' ch' mo' ms' fs ++ wM cI cJ k nn ln sa sb wg kt fr pt wl tn up lo) H := hP
  have hD : va_D (fun q : Nat => s.heap.size ≤ q) (wX cI cJ q nc lc le ge wt kp fo po na ns ta ts mx' ch' mo' ms' fs ++ wM cI cJ k nn ln sa sb wg kt fr pt wl tn up lo) := hD
  refine lv_aload_n hx hb dL_law_558 rfl (lv_at hl 1 rfl) ?_
  refine lv_aload_n hx hb dL_law_559 rfl (lv_at hl 3 rfl) ?_
  refine lv_iload_n hx hb dL_law_560 rfl (lv_at hl 0 rfl) ?_
  refine lv_iconst (v := (1 : Int32)) hx hb dL_law_561 (by decide) ?_
  refine lv_iadd hx hb dL_law_562 ?_
  refine va_sld hx hb hX hbl hbA hS (hin 1 (by decide)) dL_law_563 ?_
  have hPc := hP.sub (ws' := (wM cI cJ k nn ln sa sb wg kt fr pt wl tn up lo)) [17, 18, 19, 20, 21, 22, 23, 24, 25] rfl
  have hDc := hD.sub (ws' := (wM cI cJ k nn ln sa sb wg kt fr pt wl tn up lo)) [17, 18, 19, 20, 21, 22, 23, 24, 25] (by decide) rfl
  refine fw_cl (wr := (wX cI cJ q nc lc le ge wt kp fo po na ns ta ts mx' ch' mo' ms' fs)) (w2 := fun u => (wX cI cJ q nc lc le ge wt kp fo po na ns ta ts mx' ch' mo' ms' fs ++ wM cI cJ k nn ln sa sb wg kt fr u wl tn up lo)) [17, 18, 19, 20, 21, 22, 23, 24, 25] [0, 1, 2, 3, 4, 5, 6, 7, 8, 9, 10, 11, 12, 13, 14, 15, 16] [0, 1, 2, 3, 4, 5, 6, 7, 8, 9, 10, 11, 12, 13, 14, 15, 16, 17, 18, 19, 20, 21, 22, 23, 24, 25] (va_runV (b := k 0) (As := [.int (xs (x3 + (1 : Int32)).toNatClampNeg)]) (rest := [.long r]) ⟨hx, hb, hml, hown, htl⟩ (kX4_trees l dC dI cI cJ k H.size nn ln sa sb wg kt fr pt wl tn up lo (xs (x3 + (1 : Int32)).toNatClampNeg) ⟨_, hM1⟩) (cwV 1 htl gL_law_X4_trees rfl rfl rfl (by decide +kernel) ⟨Nat.le_of_ble_eq_true rfl, Nat.le_of_ble_eq_true rfl⟩) ⟨fw_blind, va_recv hK hPc (ci := 4) (q0 := 0) rfl rfl, fun U hU hW => fw_pre hPc hK hDc hN hU hW⟩ rfl rfl hl.1 rfl (lv_room (Nat.le_of_ble_eq_true rfl)) dL_law_564 ⟨Nat.le_of_ble_eq_true rfl, Nat.le_of_ble_eq_true rfl⟩) hP hD hS hA rfl rfl (by decide) (by decide) (by decide) (fun _ => rfl) (fun r1 u H locs hw hP hD hS => ?_)
  have h9 := hM1.symm.trans hw
  cases h9
  have hP : va_P (dC, dI) vwCl (wX cI cJ q nc lc le ge wt kp fo po na ns ta ts mx' ch' mo' ms' fs ++ wM cI cJ k nn ln sa sb wg kt fr pt' wl tn up lo) H := hP
  have hD : va_D (fun q : Nat => s.heap.size ≤ q) (wX cI cJ q nc lc le ge wt kp fo po na ns ta ts mx' ch' mo' ms' fs ++ wM cI cJ k nn ln sa sb wg kt fr pt' wl tn up lo) := hD
  refine W.lcmp hx hb dL_law_567 ?_
  refine lv_if_eq (tgt := 684) hx hb dL_law_568 (by decide) (fun c9 => ?_) (fun c9 => absurd (fw_cmp r) c9)
  exact hk nc lc le ge wt kp fo po na ns ta ts mx' ch' mo' ms' fs nn ln sa sb wg kt fr pt' wl tn up lo H locs ls hR1 hP hD hS (lv_sub hl [0, 1, 2, 3] rfl)
set_option maxHeartbeats 4000000 in
set_option maxRecDepth 100000 in
theorem law_resistance {p : Program} {l : Launch} {e : Env} {s : State} {m : MethodId} {below : List Frame} {meth : Method} {c : Code} {dC : Nat → ClassId} {dI : Nat → Nat → Nat} {cI cJ : ClassId} {b L : Nat} {xs : Nat → Int32} (hL : L ≤ 2560) (C0 : lw_At p s m meth c b L xs) (hK : va_K (dC, dI) vwCl (fw_tys cI cJ) s) (hN : va_Nw fw_nest s) (q k : Nat → Nat) (nc : Int32) (lc : Int32) (le : Nat → Int32) (ge : Nat → Int32) (wt : Nat → Int32) (kp : Nat → Int32) (fo : Nat → Int32) (po : Nat → Int32) (na : Nat → Int32) (ns : Int32) (ta : Nat → Int32) (ts : Int32) (mx : Nat → Int64) (ch : Nat → Int32) (mo : Nat → Int64) (ms : Int32) (fs : Nat → Int32) (nn : Int32) (ln : Int32) (sa : Nat → Int32) (sb : Nat → Int32) (wg : Nat → Int32) (kt : Nat → Int32) (fr : Nat → Int32) (pt : Nat → Int32) (wl : Nat → Int32) (tn : Nat → Int32) (up : Int64) (lo : Int64) (hR : fw_R nc lc le ge wt kp fs nn ln sa sb wg kt) (x3 : Int32) (hin : ∀ j : Nat, j < 5 → vp_in (x3 + nI j) L) (H : Heap) (locs : List Loc) (ls : Array Slot) (hP : va_P (dC, dI) vwCl (wX cI cJ q nc lc le ge wt kp fo po na ns ta ts mx ch mo ms fs ++ wM cI cJ k nn ln sa sb wg kt fr pt wl tn up lo) H) (hD : va_D (fun q : Nat => s.heap.size ≤ q) (wX cI cJ q nc lc le ge wt kp fo po na ns ta ts mx ch mo ms fs ++ wM cI cJ k nn ln sa sb wg kt fr pt wl tn up lo)) (hS : va_S (fun q : Nat => s.heap.size ≤ q) s.heap H locs) (hl : lv_has ls 4 [(3, .int x3), (2, .ref (k 0)), (1, .ref (q 0)), (0, .ref b)])
    (hk : ∀ (nc : Int32) (lc : Int32) (le : Nat → Int32) (ge : Nat → Int32) (wt : Nat → Int32) (kp : Nat → Int32) (fo : Nat → Int32) (po : Nat → Int32) (na : Nat → Int32) (ns : Int32) (ta : Nat → Int32) (ts : Int32) (mx : Nat → Int64) (ch : Nat → Int32) (mo : Nat → Int64) (ms : Int32) (fs : Nat → Int32) (nn : Int32) (ln : Int32) (sa : Nat → Int32) (sb : Nat → Int32) (wg : Nat → Int32) (kt : Nat → Int32) (fr : Nat → Int32) (pt : Nat → Int32) (wl : Nat → Int32) (tn : Nat → Int32) (up : Int64) (lo : Int64) (H : Heap) (locs : List Loc) (ls : Array Slot), fw_R nc lc le ge wt kp fs nn ln sa sb wg kt → va_P (dC, dI) vwCl (wX cI cJ q nc lc le ge wt kp fo po na ns ta ts mx ch mo ms fs ++ wM cI cJ k nn ln sa sb wg kt fr pt wl tn up lo) H → va_D (fun q : Nat => s.heap.size ≤ q) (wX cI cJ q nc lc le ge wt kp fo po na ns ta ts mx ch mo ms fs ++ wM cI cJ k nn ln sa sb wg kt fr pt wl tn up lo) → va_S (fun q : Nat => s.heap.size ≤ q) s.heap H locs → lv_has ls 4 [(3, .int x3), (2, .ref (k 0)), (1, .ref (q 0)), (0, .ref b)] → W p l e room_1 s m #[Value.ref b] below meth c H locs 26 600 (lw_Z below #[Value.ref b] s) (F0 m 684 ls [])) : W p l e room_1 s m #[Value.ref b] below meth c H locs 26 600 (lw_Z below #[Value.ref b] s) (F0 m 573 ls []) := by
  obtain ⟨hx, hb, hr, hml, hown, hts, hX, hbl, hlocks, hgv⟩ := C0
  have hb : c.code = cL_law := hb
  have hown : s.vm.findClass RL = some m.cls := hown
  have htl : ∀ w ∈ wsL_law, w.before #[Value.ref b] s = true := fun w h => hts w (wsL_law_in w h)
  have hA : ∀ q : Nat, s.heap.size ≤ q → (fun q : Nat => s.heap.size ≤ q) q := fun _ h => h
  have hbA : ¬ (fun q : Nat => s.heap.size ≤ q) b := Nat.not_le.mpr hbl
  obtain ⟨r, mx', ch', mo', ms', pt', up', lo',  hX1, hM1, hR1⟩ := st_resistance nc lc le ge wt kp fs nn ln sa sb wg kt hR mx ch mo ms pt up lo (xs (x3 + (1 : Int32)).toNatClampNeg) (xs (x3 + (2 : Int32)).toNatClampNeg) (xs (x3 + (3 : Int32)).toNatClampNeg) (xs (x3 + (4 : Int32)).toNatClampNeg)
  refine lv_aload_n hx hb dL_law_573 rfl (lv_at hl 2 rfl) ?_
  refine lv_aload_n hx hb dL_law_574 rfl (lv_at hl 3 rfl) ?_
  refine lv_iload_n hx hb dL_law_575 rfl (lv_at hl 0 rfl) ?_
  refine lv_iconst (v := (1 : Int32)) hx hb dL_law_576 (by decide) ?_
  refine lv_iadd hx hb dL_law_577 ?_
  refine va_sld hx hb hX hbl hbA hS (hin 1 (by decide)) dL_law_578 ?_
  refine lv_aload_n hx hb dL_law_579 rfl (lv_at hl 3 rfl) ?_
  refine lv_iload_n hx hb dL_law_580 rfl (lv_at hl 0 rfl) ?_
  refine lv_iconst (v := (2 : Int32)) hx hb dL_law_581 (by decide) ?_
  refine lv_iadd hx hb dL_law_582 ?_
  refine va_sld hx hb hX hbl hbA hS (hin 2 (by decide)) dL_law_583 ?_
  refine lv_aload_n hx hb dL_law_584 rfl (lv_at hl 3 rfl) ?_
  refine lv_iload_n hx hb dL_law_585 rfl (lv_at hl 0 rfl) ?_
  refine lv_iconst (v := (3 : Int32)) hx hb dL_law_586 (by decide) ?_
  refine lv_iadd hx hb dL_law_587 ?_
  refine va_sld hx hb hX hbl hbA hS (hin 3 (by decide)) dL_law_588 ?_
  refine lv_aload_n hx hb dL_law_589 rfl (lv_at hl 3 rfl) ?_
  refine lv_iload_n hx hb dL_law_590 rfl (lv_at hl 0 rfl) ?_
  refine lv_iconst (v := (4 : Int32)) hx hb dL_law_591 (by decide) ?_
  refine lv_iadd hx hb dL_law_592 ?_
  refine va_sld hx hb hX hbl hbA hS (hin 4 (by decide)) dL_law_593 ?_
  have hPc := hP.sub (ws' := (wX cI cJ q nc lc le ge wt kp fo po na ns ta ts mx ch mo ms fs)) [0, 1, 2, 3, 4, 5, 6, 7, 8, 9, 10, 11, 12, 13, 14, 15, 16] rfl
  have hDc := hD.sub (ws' := (wX cI cJ q nc lc le ge wt kp fo po na ns ta ts mx ch mo ms fs)) [0, 1, 2, 3, 4, 5, 6, 7, 8, 9, 10, 11, 12, 13, 14, 15, 16] (by decide) rfl
  refine fw_cl (wr := (wM cI cJ k nn ln sa sb wg kt fr pt wl tn up lo)) (w2 := fun u => (wX cI cJ q nc lc le ge wt kp fo po na ns ta ts u.1 u.2.1 u.2.2.1 u.2.2.2 fs ++ wM cI cJ k nn ln sa sb wg kt fr pt wl tn up lo)) [0, 1, 2, 3, 4, 5, 6, 7, 8, 9, 10, 11, 12, 13, 14, 15, 16] [17, 18, 19, 20, 21, 22, 23, 24, 25] [9, 10, 11, 12, 13, 14, 15, 16, 17, 18, 19, 20, 21, 22, 23, 24, 25, 0, 1, 2, 3, 4, 5, 6, 7, 8] (va_runV (b := q 0) (As := [.int (xs (x3 + (1 : Int32)).toNatClampNeg), .int (xs (x3 + (2 : Int32)).toNatClampNeg), .int (xs (x3 + (3 : Int32)).toNatClampNeg), .int (xs (x3 + (4 : Int32)).toNatClampNeg)]) (rest := []) ⟨hx, hb, hml, hown, htl⟩ (kX3_resistance l dC dI cI cJ q H.size nc lc le ge wt kp fo po na ns ta ts mx ch mo ms fs (xs (x3 + (1 : Int32)).toNatClampNeg) (xs (x3 + (2 : Int32)).toNatClampNeg) (xs (x3 + (3 : Int32)).toNatClampNeg) (xs (x3 + (4 : Int32)).toNatClampNeg) ⟨_, hX1⟩) (cwV 4 htl gL_law_X3_resistance rfl rfl rfl (by decide +kernel) ⟨Nat.le_of_ble_eq_true rfl, Nat.le_of_ble_eq_true rfl⟩) ⟨fw_blind, va_recv hK hPc (ci := 3) (q0 := 0) rfl rfl, fun U hU hW => fw_pre hPc hK hDc hN hU hW⟩ rfl rfl hl.1 rfl (lv_room (Nat.le_of_ble_eq_true rfl)) dL_law_594 ⟨Nat.le_of_ble_eq_true rfl, Nat.le_of_ble_eq_true rfl⟩) hP hD hS hA rfl rfl (by decide) (by decide) (by decide) (fun _ => rfl) (fun r1 u H locs hw hP hD hS => ?_)
  have h9 := hX1.symm.trans hw
  cases h9
  have hP : va_P (dC, dI) vwCl (wX cI cJ q nc lc le ge wt kp fo po na ns ta ts mx' ch' mo' ms' fs ++ wM cI cJ k nn ln sa sb wg kt fr pt wl tn up lo) H := hP
  have hD : va_D (fun q : Nat => s.heap.size ≤ q) (wX cI cJ q nc lc le ge wt kp fo po na ns ta ts mx' ch' mo' ms' fs ++ wM cI cJ k nn ln sa sb wg kt fr pt wl tn up lo) := hD
  refine lv_aload_n hx hb dL_law_597 rfl (lv_at hl 1 rfl) ?_
  refine lv_aload_n hx hb dL_law_598 rfl (lv_at hl 3 rfl) ?_
  refine lv_iload_n hx hb dL_law_599 rfl (lv_at hl 0 rfl) ?_
  refine lv_iconst (v := (1 : Int32)) hx hb dL_law_600 (by decide) ?_
  refine lv_iadd hx hb dL_law_601 ?_
  refine va_sld hx hb hX hbl hbA hS (hin 1 (by decide)) dL_law_602 ?_
  refine lv_aload_n hx hb dL_law_603 rfl (lv_at hl 3 rfl) ?_
  refine lv_iload_n hx hb dL_law_604 rfl (lv_at hl 0 rfl) ?_
  refine lv_iconst (v := (2 : Int32)) hx hb dL_law_605 (by decide) ?_
  refine lv_iadd hx hb dL_law_606 ?_
  refine va_sld hx hb hX hbl hbA hS (hin 2 (by decide)) dL_law_607 ?_
  refine lv_aload_n hx hb dL_law_608 rfl (lv_at hl 3 rfl) ?_
  refine lv_iload_n hx hb dL_law_609 rfl (lv_at hl 0 rfl) ?_
  refine lv_iconst (v := (3 : Int32)) hx hb dL_law_610 (by decide) ?_
  refine lv_iadd hx hb dL_law_611 ?_
  refine va_sld hx hb hX hbl hbA hS (hin 3 (by decide)) dL_law_612 ?_
  refine lv_aload_n hx hb dL_law_613 rfl (lv_at hl 3 rfl) ?_
  refine lv_iload_n hx hb dL_law_614 rfl (lv_at hl 0 rfl) ?_
  refine lv_iconst (v := (4 : Int32)) hx hb dL_law_615 (by decide) ?_
  refine lv_iadd hx hb dL_law_616 ?_
  refine va_sld hx hb hX hbl hbA hS (hin 4 (by decide)) dL_law_617 ?_
  have hPc := hP.sub (ws' := (wM cI cJ k nn ln sa sb wg kt fr pt wl tn up lo)) [17, 18, 19, 20, 21, 22, 23, 24, 25] rfl
  have hDc := hD.sub (ws' := (wM cI cJ k nn ln sa sb wg kt fr pt wl tn up lo)) [17, 18, 19, 20, 21, 22, 23, 24, 25] (by decide) rfl
  refine fw_cl (wr := (wX cI cJ q nc lc le ge wt kp fo po na ns ta ts mx' ch' mo' ms' fs)) (w2 := fun u => (wX cI cJ q nc lc le ge wt kp fo po na ns ta ts mx' ch' mo' ms' fs ++ wM cI cJ k nn ln sa sb wg kt fr u.1 wl tn u.2.1 u.2.2)) [17, 18, 19, 20, 21, 22, 23, 24, 25] [0, 1, 2, 3, 4, 5, 6, 7, 8, 9, 10, 11, 12, 13, 14, 15, 16] [0, 1, 2, 3, 4, 5, 6, 7, 8, 9, 10, 11, 12, 13, 14, 15, 16, 17, 18, 19, 20, 21, 22, 23, 24, 25] (va_runV (b := k 0) (As := [.int (xs (x3 + (1 : Int32)).toNatClampNeg), .int (xs (x3 + (2 : Int32)).toNatClampNeg), .int (xs (x3 + (3 : Int32)).toNatClampNeg), .int (xs (x3 + (4 : Int32)).toNatClampNeg)]) (rest := [.long r]) ⟨hx, hb, hml, hown, htl⟩ (kX4_resistance l dC dI cI cJ k H.size nn ln sa sb wg kt fr pt wl tn up lo (xs (x3 + (1 : Int32)).toNatClampNeg) (xs (x3 + (2 : Int32)).toNatClampNeg) (xs (x3 + (3 : Int32)).toNatClampNeg) (xs (x3 + (4 : Int32)).toNatClampNeg) ⟨_, hM1⟩) (cwV 4 htl gL_law_X4_resistance rfl rfl rfl (by decide +kernel) ⟨Nat.le_of_ble_eq_true rfl, Nat.le_of_ble_eq_true rfl⟩) ⟨fw_blind, va_recv hK hPc (ci := 4) (q0 := 0) rfl rfl, fun U hU hW => fw_pre hPc hK hDc hN hU hW⟩ rfl rfl hl.1 rfl (lv_room (Nat.le_of_ble_eq_true rfl)) dL_law_618 ⟨Nat.le_of_ble_eq_true rfl, Nat.le_of_ble_eq_true rfl⟩) hP hD hS hA rfl rfl (by decide) (by decide) (by decide) (fun _ => rfl) (fun r1 u H locs hw hP hD hS => ?_)
  have h9 := hM1.symm.trans hw
  cases h9
  have hP : va_P (dC, dI) vwCl (wX cI cJ q nc lc le ge wt kp fo po na ns ta ts mx' ch' mo' ms' fs ++ wM cI cJ k nn ln sa sb wg kt fr pt' wl tn up' lo') H := hP
  have hD : va_D (fun q : Nat => s.heap.size ≤ q) (wX cI cJ q nc lc le ge wt kp fo po na ns ta ts mx' ch' mo' ms' fs ++ wM cI cJ k nn ln sa sb wg kt fr pt' wl tn up' lo') := hD
  refine W.lcmp hx hb dL_law_621 ?_
  refine lv_if_eq (tgt := 684) hx hb dL_law_622 (by decide) (fun c9 => ?_) (fun c9 => absurd (fw_cmp r) c9)
  exact hk nc lc le ge wt kp fo po na ns ta ts mx' ch' mo' ms' fs nn ln sa sb wg kt fr pt' wl tn up' lo' H locs ls hR1 hP hD hS (lv_sub hl [0, 1, 2, 3] rfl)
set_option maxHeartbeats 4000000 in
set_option maxRecDepth 100000 in
theorem law_load {p : Program} {l : Launch} {e : Env} {s : State} {m : MethodId} {below : List Frame} {meth : Method} {c : Code} {dC : Nat → ClassId} {dI : Nat → Nat → Nat} {cI cJ : ClassId} {b L : Nat} {xs : Nat → Int32} (hL : L ≤ 2560) (C0 : lw_At p s m meth c b L xs) (hK : va_K (dC, dI) vwCl (fw_tys cI cJ) s) (hN : va_Nw fw_nest s) (q k : Nat → Nat) (nc : Int32) (lc : Int32) (le : Nat → Int32) (ge : Nat → Int32) (wt : Nat → Int32) (kp : Nat → Int32) (fo : Nat → Int32) (po : Nat → Int32) (na : Nat → Int32) (ns : Int32) (ta : Nat → Int32) (ts : Int32) (mx : Nat → Int64) (ch : Nat → Int32) (mo : Nat → Int64) (ms : Int32) (fs : Nat → Int32) (nn : Int32) (ln : Int32) (sa : Nat → Int32) (sb : Nat → Int32) (wg : Nat → Int32) (kt : Nat → Int32) (fr : Nat → Int32) (pt : Nat → Int32) (wl : Nat → Int32) (tn : Nat → Int32) (up : Int64) (lo : Int64) (hR : fw_R nc lc le ge wt kp fs nn ln sa sb wg kt) (x3 : Int32) (hin : ∀ j : Nat, j < 5 → vp_in (x3 + nI j) L) (H : Heap) (locs : List Loc) (ls : Array Slot) (hP : va_P (dC, dI) vwCl (wX cI cJ q nc lc le ge wt kp fo po na ns ta ts mx ch mo ms fs ++ wM cI cJ k nn ln sa sb wg kt fr pt wl tn up lo) H) (hD : va_D (fun q : Nat => s.heap.size ≤ q) (wX cI cJ q nc lc le ge wt kp fo po na ns ta ts mx ch mo ms fs ++ wM cI cJ k nn ln sa sb wg kt fr pt wl tn up lo)) (hS : va_S (fun q : Nat => s.heap.size ≤ q) s.heap H locs) (hl : lv_has ls 4 [(3, .int x3), (2, .ref (k 0)), (1, .ref (q 0)), (0, .ref b)])
    (hk : ∀ (nc : Int32) (lc : Int32) (le : Nat → Int32) (ge : Nat → Int32) (wt : Nat → Int32) (kp : Nat → Int32) (fo : Nat → Int32) (po : Nat → Int32) (na : Nat → Int32) (ns : Int32) (ta : Nat → Int32) (ts : Int32) (mx : Nat → Int64) (ch : Nat → Int32) (mo : Nat → Int64) (ms : Int32) (fs : Nat → Int32) (nn : Int32) (ln : Int32) (sa : Nat → Int32) (sb : Nat → Int32) (wg : Nat → Int32) (kt : Nat → Int32) (fr : Nat → Int32) (pt : Nat → Int32) (wl : Nat → Int32) (tn : Nat → Int32) (up : Int64) (lo : Int64) (H : Heap) (locs : List Loc) (ls : Array Slot), fw_R nc lc le ge wt kp fs nn ln sa sb wg kt → va_P (dC, dI) vwCl (wX cI cJ q nc lc le ge wt kp fo po na ns ta ts mx ch mo ms fs ++ wM cI cJ k nn ln sa sb wg kt fr pt wl tn up lo) H → va_D (fun q : Nat => s.heap.size ≤ q) (wX cI cJ q nc lc le ge wt kp fo po na ns ta ts mx ch mo ms fs ++ wM cI cJ k nn ln sa sb wg kt fr pt wl tn up lo) → va_S (fun q : Nat => s.heap.size ≤ q) s.heap H locs → lv_has ls 4 [(3, .int x3), (2, .ref (k 0)), (1, .ref (q 0)), (0, .ref b)] → W p l e room_1 s m #[Value.ref b] below meth c H locs 26 600 (lw_Z below #[Value.ref b] s) (F0 m 684 ls [])) : W p l e room_1 s m #[Value.ref b] below meth c H locs 26 600 (lw_Z below #[Value.ref b] s) (F0 m 627 ls []) := by
  obtain ⟨hx, hb, hr, hml, hown, hts, hX, hbl, hlocks, hgv⟩ := C0
  have hb : c.code = cL_law := hb
  have hown : s.vm.findClass RL = some m.cls := hown
  have htl : ∀ w ∈ wsL_law, w.before #[Value.ref b] s = true := fun w h => hts w (wsL_law_in w h)
  have hA : ∀ q : Nat, s.heap.size ≤ q → (fun q : Nat => s.heap.size ≤ q) q := fun _ h => h
  have hbA : ¬ (fun q : Nat => s.heap.size ≤ q) b := Nat.not_le.mpr hbl
  obtain ⟨r, mx', ch', mo', ms', pt', up', lo',  hX1, hM1, hR1⟩ := st_load nc lc le ge wt kp fs nn ln sa sb wg kt hR mx ch mo ms pt up lo (xs (x3 + (1 : Int32)).toNatClampNeg) (xs (x3 + (2 : Int32)).toNatClampNeg)
  refine lv_aload_n hx hb dL_law_627 rfl (lv_at hl 2 rfl) ?_
  refine lv_aload_n hx hb dL_law_628 rfl (lv_at hl 3 rfl) ?_
  refine lv_iload_n hx hb dL_law_629 rfl (lv_at hl 0 rfl) ?_
  refine lv_iconst (v := (1 : Int32)) hx hb dL_law_630 (by decide) ?_
  refine lv_iadd hx hb dL_law_631 ?_
  refine va_sld hx hb hX hbl hbA hS (hin 1 (by decide)) dL_law_632 ?_
  refine lv_aload_n hx hb dL_law_633 rfl (lv_at hl 3 rfl) ?_
  refine lv_iload_n hx hb dL_law_634 rfl (lv_at hl 0 rfl) ?_
  refine lv_iconst (v := (2 : Int32)) hx hb dL_law_635 (by decide) ?_
  refine lv_iadd hx hb dL_law_636 ?_
  refine va_sld hx hb hX hbl hbA hS (hin 2 (by decide)) dL_law_637 ?_
  have hPc := hP.sub (ws' := (wX cI cJ q nc lc le ge wt kp fo po na ns ta ts mx ch mo ms fs)) [0, 1, 2, 3, 4, 5, 6, 7, 8, 9, 10, 11, 12, 13, 14, 15, 16] rfl
  have hDc := hD.sub (ws' := (wX cI cJ q nc lc le ge wt kp fo po na ns ta ts mx ch mo ms fs)) [0, 1, 2, 3, 4, 5, 6, 7, 8, 9, 10, 11, 12, 13, 14, 15, 16] (by decide) rfl
  refine fw_cl (wr := (wM cI cJ k nn ln sa sb wg kt fr pt wl tn up lo)) (w2 := fun u => (wX cI cJ q nc lc le ge wt kp fo po na ns ta ts u.1 u.2.1 u.2.2.1 u.2.2.2 fs ++ wM cI cJ k nn ln sa sb wg kt fr pt wl tn up lo)) [0, 1, 2, 3, 4, 5, 6, 7, 8, 9, 10, 11, 12, 13, 14, 15, 16] [17, 18, 19, 20, 21, 22, 23, 24, 25] [9, 10, 11, 12, 13, 14, 15, 16, 17, 18, 19, 20, 21, 22, 23, 24, 25, 0, 1, 2, 3, 4, 5, 6, 7, 8] (va_runV (b := q 0) (As := [.int (xs (x3 + (1 : Int32)).toNatClampNeg), .int (xs (x3 + (2 : Int32)).toNatClampNeg)]) (rest := []) ⟨hx, hb, hml, hown, htl⟩ (kX3_load l dC dI cI cJ q H.size nc lc le ge wt kp fo po na ns ta ts mx ch mo ms fs (xs (x3 + (1 : Int32)).toNatClampNeg) (xs (x3 + (2 : Int32)).toNatClampNeg) ⟨_, hX1⟩) (cwV 2 htl gL_law_X3_load rfl rfl rfl (by decide +kernel) ⟨Nat.le_of_ble_eq_true rfl, Nat.le_of_ble_eq_true rfl⟩) ⟨fw_blind, va_recv hK hPc (ci := 3) (q0 := 0) rfl rfl, fun U hU hW => fw_pre hPc hK hDc hN hU hW⟩ rfl rfl hl.1 rfl (lv_room (Nat.le_of_ble_eq_true rfl)) dL_law_638 ⟨Nat.le_of_ble_eq_true rfl, Nat.le_of_ble_eq_true rfl⟩) hP hD hS hA rfl rfl (by decide) (by decide) (by decide) (fun _ => rfl) (fun r1 u H locs hw hP hD hS => ?_)
  have h9 := hX1.symm.trans hw
  cases h9
  have hP : va_P (dC, dI) vwCl (wX cI cJ q nc lc le ge wt kp fo po na ns ta ts mx' ch' mo' ms' fs ++ wM cI cJ k nn ln sa sb wg kt fr pt wl tn up lo) H := hP
  have hD : va_D (fun q : Nat => s.heap.size ≤ q) (wX cI cJ q nc lc le ge wt kp fo po na ns ta ts mx' ch' mo' ms' fs ++ wM cI cJ k nn ln sa sb wg kt fr pt wl tn up lo) := hD
  refine lv_aload_n hx hb dL_law_641 rfl (lv_at hl 1 rfl) ?_
  refine lv_aload_n hx hb dL_law_642 rfl (lv_at hl 3 rfl) ?_
  refine lv_iload_n hx hb dL_law_643 rfl (lv_at hl 0 rfl) ?_
  refine lv_iconst (v := (1 : Int32)) hx hb dL_law_644 (by decide) ?_
  refine lv_iadd hx hb dL_law_645 ?_
  refine va_sld hx hb hX hbl hbA hS (hin 1 (by decide)) dL_law_646 ?_
  refine lv_aload_n hx hb dL_law_647 rfl (lv_at hl 3 rfl) ?_
  refine lv_iload_n hx hb dL_law_648 rfl (lv_at hl 0 rfl) ?_
  refine lv_iconst (v := (2 : Int32)) hx hb dL_law_649 (by decide) ?_
  refine lv_iadd hx hb dL_law_650 ?_
  refine va_sld hx hb hX hbl hbA hS (hin 2 (by decide)) dL_law_651 ?_
  have hPc := hP.sub (ws' := (wM cI cJ k nn ln sa sb wg kt fr pt wl tn up lo)) [17, 18, 19, 20, 21, 22, 23, 24, 25] rfl
  have hDc := hD.sub (ws' := (wM cI cJ k nn ln sa sb wg kt fr pt wl tn up lo)) [17, 18, 19, 20, 21, 22, 23, 24, 25] (by decide) rfl
  refine fw_cl (wr := (wX cI cJ q nc lc le ge wt kp fo po na ns ta ts mx' ch' mo' ms' fs)) (w2 := fun u => (wX cI cJ q nc lc le ge wt kp fo po na ns ta ts mx' ch' mo' ms' fs ++ wM cI cJ k nn ln sa sb wg kt fr u.1 wl tn u.2.1 u.2.2)) [17, 18, 19, 20, 21, 22, 23, 24, 25] [0, 1, 2, 3, 4, 5, 6, 7, 8, 9, 10, 11, 12, 13, 14, 15, 16] [0, 1, 2, 3, 4, 5, 6, 7, 8, 9, 10, 11, 12, 13, 14, 15, 16, 17, 18, 19, 20, 21, 22, 23, 24, 25] (va_runV (b := k 0) (As := [.int (xs (x3 + (1 : Int32)).toNatClampNeg), .int (xs (x3 + (2 : Int32)).toNatClampNeg)]) (rest := [.long r]) ⟨hx, hb, hml, hown, htl⟩ (kX4_load l dC dI cI cJ k H.size nn ln sa sb wg kt fr pt wl tn up lo (xs (x3 + (1 : Int32)).toNatClampNeg) (xs (x3 + (2 : Int32)).toNatClampNeg) ⟨_, hM1⟩) (cwV 2 htl gL_law_X4_load rfl rfl rfl (by decide +kernel) ⟨Nat.le_of_ble_eq_true rfl, Nat.le_of_ble_eq_true rfl⟩) ⟨fw_blind, va_recv hK hPc (ci := 4) (q0 := 0) rfl rfl, fun U hU hW => fw_pre hPc hK hDc hN hU hW⟩ rfl rfl hl.1 rfl (lv_room (Nat.le_of_ble_eq_true rfl)) dL_law_652 ⟨Nat.le_of_ble_eq_true rfl, Nat.le_of_ble_eq_true rfl⟩) hP hD hS hA rfl rfl (by decide) (by decide) (by decide) (fun _ => rfl) (fun r1 u H locs hw hP hD hS => ?_)
  have h9 := hM1.symm.trans hw
  cases h9
  have hP : va_P (dC, dI) vwCl (wX cI cJ q nc lc le ge wt kp fo po na ns ta ts mx' ch' mo' ms' fs ++ wM cI cJ k nn ln sa sb wg kt fr pt' wl tn up' lo') H := hP
  have hD : va_D (fun q : Nat => s.heap.size ≤ q) (wX cI cJ q nc lc le ge wt kp fo po na ns ta ts mx' ch' mo' ms' fs ++ wM cI cJ k nn ln sa sb wg kt fr pt' wl tn up' lo') := hD
  refine W.lcmp hx hb dL_law_655 ?_
  refine lv_if_eq (tgt := 684) hx hb dL_law_656 (by decide) (fun c9 => ?_) (fun c9 => absurd (fw_cmp r) c9)
  exact hk nc lc le ge wt kp fo po na ns ta ts mx' ch' mo' ms' fs nn ln sa sb wg kt fr pt' wl tn up' lo' H locs ls hR1 hP hD hS (lv_sub hl [0, 1, 2, 3] rfl)
set_option maxHeartbeats 4000000 in
set_option maxRecDepth 100000 in
theorem law_count {p : Program} {l : Launch} {e : Env} {s : State} {m : MethodId} {below : List Frame} {meth : Method} {c : Code} {dC : Nat → ClassId} {dI : Nat → Nat → Nat} {cI cJ : ClassId} {b L : Nat} {xs : Nat → Int32} (hL : L ≤ 2560) (C0 : lw_At p s m meth c b L xs) (hK : va_K (dC, dI) vwCl (fw_tys cI cJ) s) (hN : va_Nw fw_nest s) (q k : Nat → Nat) (nc : Int32) (lc : Int32) (le : Nat → Int32) (ge : Nat → Int32) (wt : Nat → Int32) (kp : Nat → Int32) (fo : Nat → Int32) (po : Nat → Int32) (na : Nat → Int32) (ns : Int32) (ta : Nat → Int32) (ts : Int32) (mx : Nat → Int64) (ch : Nat → Int32) (mo : Nat → Int64) (ms : Int32) (fs : Nat → Int32) (nn : Int32) (ln : Int32) (sa : Nat → Int32) (sb : Nat → Int32) (wg : Nat → Int32) (kt : Nat → Int32) (fr : Nat → Int32) (pt : Nat → Int32) (wl : Nat → Int32) (tn : Nat → Int32) (up : Int64) (lo : Int64) (hR : fw_R nc lc le ge wt kp fs nn ln sa sb wg kt) (x3 : Int32) (hin : ∀ j : Nat, j < 5 → vp_in (x3 + nI j) L) (H : Heap) (locs : List Loc) (ls : Array Slot) (hP : va_P (dC, dI) vwCl (wX cI cJ q nc lc le ge wt kp fo po na ns ta ts mx ch mo ms fs ++ wM cI cJ k nn ln sa sb wg kt fr pt wl tn up lo) H) (hD : va_D (fun q : Nat => s.heap.size ≤ q) (wX cI cJ q nc lc le ge wt kp fo po na ns ta ts mx ch mo ms fs ++ wM cI cJ k nn ln sa sb wg kt fr pt wl tn up lo)) (hS : va_S (fun q : Nat => s.heap.size ≤ q) s.heap H locs) (hl : lv_has ls 4 [(3, .int x3), (2, .ref (k 0)), (1, .ref (q 0)), (0, .ref b)])
    (hk : ∀ (nc : Int32) (lc : Int32) (le : Nat → Int32) (ge : Nat → Int32) (wt : Nat → Int32) (kp : Nat → Int32) (fo : Nat → Int32) (po : Nat → Int32) (na : Nat → Int32) (ns : Int32) (ta : Nat → Int32) (ts : Int32) (mx : Nat → Int64) (ch : Nat → Int32) (mo : Nat → Int64) (ms : Int32) (fs : Nat → Int32) (nn : Int32) (ln : Int32) (sa : Nat → Int32) (sb : Nat → Int32) (wg : Nat → Int32) (kt : Nat → Int32) (fr : Nat → Int32) (pt : Nat → Int32) (wl : Nat → Int32) (tn : Nat → Int32) (up : Int64) (lo : Int64) (H : Heap) (locs : List Loc) (ls : Array Slot), fw_R nc lc le ge wt kp fs nn ln sa sb wg kt → va_P (dC, dI) vwCl (wX cI cJ q nc lc le ge wt kp fo po na ns ta ts mx ch mo ms fs ++ wM cI cJ k nn ln sa sb wg kt fr pt wl tn up lo) H → va_D (fun q : Nat => s.heap.size ≤ q) (wX cI cJ q nc lc le ge wt kp fo po na ns ta ts mx ch mo ms fs ++ wM cI cJ k nn ln sa sb wg kt fr pt wl tn up lo) → va_S (fun q : Nat => s.heap.size ≤ q) s.heap H locs → lv_has ls 4 [(3, .int x3), (2, .ref (k 0)), (1, .ref (q 0)), (0, .ref b)] → W p l e room_1 s m #[Value.ref b] below meth c H locs 26 600 (lw_Z below #[Value.ref b] s) (F0 m 684 ls [])) : W p l e room_1 s m #[Value.ref b] below meth c H locs 26 600 (lw_Z below #[Value.ref b] s) (F0 m 661 ls []) := by
  obtain ⟨hx, hb, hr, hml, hown, hts, hX, hbl, hlocks, hgv⟩ := C0
  have hb : c.code = cL_law := hb
  have hown : s.vm.findClass RL = some m.cls := hown
  have htl : ∀ w ∈ wsL_law, w.before #[Value.ref b] s = true := fun w h => hts w (wsL_law_in w h)
  have hA : ∀ q : Nat, s.heap.size ≤ q → (fun q : Nat => s.heap.size ≤ q) q := fun _ h => h
  have hbA : ¬ (fun q : Nat => s.heap.size ≤ q) b := Nat.not_le.mpr hbl
  obtain ⟨r,  hX1, hM1, hR1⟩ := st_count nc lc le ge wt kp fs nn ln sa sb wg kt hR   (xs (x3 + (1 : Int32)).toNatClampNeg)
  refine lv_aload_n hx hb dL_law_661 rfl (lv_at hl 2 rfl) ?_
  refine lv_aload_n hx hb dL_law_662 rfl (lv_at hl 3 rfl) ?_
  refine lv_iload_n hx hb dL_law_663 rfl (lv_at hl 0 rfl) ?_
  refine lv_iconst (v := (1 : Int32)) hx hb dL_law_664 (by decide) ?_
  refine lv_iadd hx hb dL_law_665 ?_
  refine va_sld hx hb hX hbl hbA hS (hin 1 (by decide)) dL_law_666 ?_
  have hPc := hP.sub (ws' := (wX cI cJ q nc lc le ge wt kp fo po na ns ta ts mx ch mo ms fs)) [0, 1, 2, 3, 4, 5, 6, 7, 8, 9, 10, 11, 12, 13, 14, 15, 16] rfl
  have hDc := hD.sub (ws' := (wX cI cJ q nc lc le ge wt kp fo po na ns ta ts mx ch mo ms fs)) [0, 1, 2, 3, 4, 5, 6, 7, 8, 9, 10, 11, 12, 13, 14, 15, 16] (by decide) rfl
  refine fw_ci (wr := (wM cI cJ k nn ln sa sb wg kt fr pt wl tn up lo)) (w2 := fun u => (wX cI cJ q nc lc le ge wt kp fo po na ns ta ts mx ch mo ms fs ++ wM cI cJ k nn ln sa sb wg kt fr pt wl tn up lo)) [0, 1, 2, 3, 4, 5, 6, 7, 8, 9, 10, 11, 12, 13, 14, 15, 16] [17, 18, 19, 20, 21, 22, 23, 24, 25] [9, 10, 11, 12, 13, 14, 15, 16, 17, 18, 19, 20, 21, 22, 23, 24, 25, 0, 1, 2, 3, 4, 5, 6, 7, 8] (va_runV (b := q 0) (As := [.int (xs (x3 + (1 : Int32)).toNatClampNeg)]) (rest := []) ⟨hx, hb, hml, hown, htl⟩ (kX3_count l dC dI cI cJ q H.size nc lc le ge wt kp fo po na ns ta ts mx ch mo ms fs (xs (x3 + (1 : Int32)).toNatClampNeg) ⟨_, hX1⟩) (cwV 1 htl gL_law_X3_count rfl rfl rfl (by decide +kernel) ⟨Nat.le_of_ble_eq_true rfl, Nat.le_of_ble_eq_true rfl⟩) ⟨fw_blind, va_recv hK hPc (ci := 3) (q0 := 0) rfl rfl, fun U hU hW => fw_pre hPc hK hDc hN hU hW⟩ rfl rfl hl.1 rfl (lv_room (Nat.le_of_ble_eq_true rfl)) dL_law_667 ⟨Nat.le_of_ble_eq_true rfl, Nat.le_of_ble_eq_true rfl⟩) hP hD hS hA rfl rfl (by decide) (by decide) (by decide) (fun _ => rfl) (fun r1 u H locs hw hP hD hS => ?_)
  have h9 := hX1.symm.trans hw
  cases h9
  have hP : va_P (dC, dI) vwCl (wX cI cJ q nc lc le ge wt kp fo po na ns ta ts mx ch mo ms fs ++ wM cI cJ k nn ln sa sb wg kt fr pt wl tn up lo) H := hP
  have hD : va_D (fun q : Nat => s.heap.size ≤ q) (wX cI cJ q nc lc le ge wt kp fo po na ns ta ts mx ch mo ms fs ++ wM cI cJ k nn ln sa sb wg kt fr pt wl tn up lo) := hD
  refine lv_aload_n hx hb dL_law_670 rfl (lv_at hl 1 rfl) ?_
  refine lv_aload_n hx hb dL_law_671 rfl (lv_at hl 3 rfl) ?_
  refine lv_iload_n hx hb dL_law_672 rfl (lv_at hl 0 rfl) ?_
  refine lv_iconst (v := (1 : Int32)) hx hb dL_law_673 (by decide) ?_
  refine lv_iadd hx hb dL_law_674 ?_
  refine va_sld hx hb hX hbl hbA hS (hin 1 (by decide)) dL_law_675 ?_
  have hPc := hP.sub (ws' := (wM cI cJ k nn ln sa sb wg kt fr pt wl tn up lo)) [17, 18, 19, 20, 21, 22, 23, 24, 25] rfl
  have hDc := hD.sub (ws' := (wM cI cJ k nn ln sa sb wg kt fr pt wl tn up lo)) [17, 18, 19, 20, 21, 22, 23, 24, 25] (by decide) rfl
  refine fw_ci (wr := (wX cI cJ q nc lc le ge wt kp fo po na ns ta ts mx ch mo ms fs)) (w2 := fun u => (wX cI cJ q nc lc le ge wt kp fo po na ns ta ts mx ch mo ms fs ++ wM cI cJ k nn ln sa sb wg kt fr pt wl tn up lo)) [17, 18, 19, 20, 21, 22, 23, 24, 25] [0, 1, 2, 3, 4, 5, 6, 7, 8, 9, 10, 11, 12, 13, 14, 15, 16] [0, 1, 2, 3, 4, 5, 6, 7, 8, 9, 10, 11, 12, 13, 14, 15, 16, 17, 18, 19, 20, 21, 22, 23, 24, 25] (va_runV (b := k 0) (As := [.int (xs (x3 + (1 : Int32)).toNatClampNeg)]) (rest := [.int r]) ⟨hx, hb, hml, hown, htl⟩ (kX4_count l dC dI cI cJ k H.size nn ln sa sb wg kt fr pt wl tn up lo (xs (x3 + (1 : Int32)).toNatClampNeg) ⟨_, hM1⟩) (cwV 1 htl gL_law_X4_count rfl rfl rfl (by decide +kernel) ⟨Nat.le_of_ble_eq_true rfl, Nat.le_of_ble_eq_true rfl⟩) ⟨fw_blind, va_recv hK hPc (ci := 4) (q0 := 0) rfl rfl, fun U hU hW => fw_pre hPc hK hDc hN hU hW⟩ rfl rfl hl.1 rfl (lv_room (Nat.le_of_ble_eq_true rfl)) dL_law_676 ⟨Nat.le_of_ble_eq_true rfl, Nat.le_of_ble_eq_true rfl⟩) hP hD hS hA rfl rfl (by decide) (by decide) (by decide) (fun _ => rfl) (fun r1 u H locs hw hP hD hS => ?_)
  have h9 := hM1.symm.trans hw
  cases h9
  have hP : va_P (dC, dI) vwCl (wX cI cJ q nc lc le ge wt kp fo po na ns ta ts mx ch mo ms fs ++ wM cI cJ k nn ln sa sb wg kt fr pt wl tn up lo) H := hP
  have hD : va_D (fun q : Nat => s.heap.size ≤ q) (wX cI cJ q nc lc le ge wt kp fo po na ns ta ts mx ch mo ms fs ++ wM cI cJ k nn ln sa sb wg kt fr pt wl tn up lo) := hD
  refine lv_icmp_eq (tgt := 684) hx hb dL_law_679 (by decide) (fun c9 => ?_) (fun c9 => absurd rfl c9)
  exact hk nc lc le ge wt kp fo po na ns ta ts mx ch mo ms fs nn ln sa sb wg kt fr pt wl tn up lo H locs ls hR1 hP hD hS (lv_sub hl [0, 1, 2, 3] rfl)
set_option maxHeartbeats 4000000 in
set_option maxRecDepth 100000 in
theorem law_loop {p : Program} {l : Launch} {e : Env} {s : State} {m : MethodId} {below : List Frame} {meth : Method} {c : Code} {dC : Nat → ClassId} {dI : Nat → Nat → Nat} {cI cJ : ClassId} {b L : Nat} {xs : Nat → Int32} (hL : L ≤ 2560) (C0 : lw_At p s m meth c b L xs) (hK : va_K (dC, dI) vwCl (fw_tys cI cJ) s) (hN : va_Nw fw_nest s) (q k : Nat → Nat) : ∀ (n i : Nat) (x3 : Int32), i ≤ L + 4 → L + 5 ≤ i + n → x3 = nI i → ∀ (nc : Int32) (lc : Int32) (le : Nat → Int32) (ge : Nat → Int32) (wt : Nat → Int32) (kp : Nat → Int32) (fo : Nat → Int32) (po : Nat → Int32) (na : Nat → Int32) (ns : Int32) (ta : Nat → Int32) (ts : Int32) (mx : Nat → Int64) (ch : Nat → Int32) (mo : Nat → Int64) (ms : Int32) (fs : Nat → Int32) (nn : Int32) (ln : Int32) (sa : Nat → Int32) (sb : Nat → Int32) (wg : Nat → Int32) (kt : Nat → Int32) (fr : Nat → Int32) (pt : Nat → Int32) (wl : Nat → Int32) (tn : Nat → Int32) (up : Int64) (lo : Int64) (H : Heap) (locs : List Loc) (ls : Array Slot), fw_R nc lc le ge wt kp fs nn ln sa sb wg kt → va_P (dC, dI) vwCl (wX cI cJ q nc lc le ge wt kp fo po na ns ta ts mx ch mo ms fs ++ wM cI cJ k nn ln sa sb wg kt fr pt wl tn up lo) H → va_D (fun q : Nat => s.heap.size ≤ q) (wX cI cJ q nc lc le ge wt kp fo po na ns ta ts mx ch mo ms fs ++ wM cI cJ k nn ln sa sb wg kt fr pt wl tn up lo) → va_S (fun q : Nat => s.heap.size ≤ q) s.heap H locs → lv_has ls 4 [(3, .int x3), (2, .ref (k 0)), (1, .ref (q 0)), (0, .ref b)] → W p l e room_1 s m #[Value.ref b] below meth c H locs 26 600 (lw_Z below #[Value.ref b] s) (F0 m 18 ls []) := by
  obtain ⟨hx, hb, hr, hml, hown, hts, hX, hbl, hlocks, hgv⟩ := id C0
  have hb : c.code = cL_law := hb
  have hbA : ¬ (fun q : Nat => s.heap.size ≤ q) b := Nat.not_le.mpr hbl
  intro n
  induction n with
  | zero => intro i x3 h1 h2; exact absurd h2 (by omega)
  | succ n ih =>
    intro i x3 hi hin ex3 nc lc le ge wt kp fo po na ns ta ts mx ch mo ms fs nn ln sa sb wg kt fr pt wl tn up lo H locs ls hR hP hD hS hl
    refine lv_iload_n hx hb dL_law_18 rfl (lv_at hl 0 rfl) ?_
    refine lv_aload_n hx hb dL_law_19 rfl (lv_at hl 3 rfl) ?_
    refine va_slen hx hb hX hbl hbA hS dL_law_20 ?_
    refine lv_iconst (v := (5 : Int32)) hx hb dL_law_21 (by decide) ?_
    refine lv_isub hx hb dL_law_22 ?_
    refine lv_icmp_gt (tgt := 690) hx hb dL_law_23 (by decide) (fun c9 => ?_) (fun c9 => ?_)
    · refine lv_iconst (v := 1) hx hb dL_law_690 (by decide) ?_
      refine va_forget (fun q hq => hS.2.2 q hq) ?_
      refine W.widen (k := 600000) (n := 7302250) (Nat.le_of_ble_eq_true rfl) (Nat.le_of_ble_eq_true rfl) ?_
      exact lw_ret hx hb hr hlocks dL_law_691
    · have hi5 : i + 5 ≤ L := fw_law5 hL hi ex3 c9
      have hin5 : ∀ j : Nat, j < 5 → vp_in (x3 + nI j) L := fun j hj => by rw [ex3, nI_add]; exact vp_in_nI (by omega) (by omega)
      have hin0 : vp_in x3 L := by rw [ex3]; exact vp_in_nI (by omega) (by omega)
      have hk : ∀ (nc : Int32) (lc : Int32) (le : Nat → Int32) (ge : Nat → Int32) (wt : Nat → Int32) (kp : Nat → Int32) (fo : Nat → Int32) (po : Nat → Int32) (na : Nat → Int32) (ns : Int32) (ta : Nat → Int32) (ts : Int32) (mx : Nat → Int64) (ch : Nat → Int32) (mo : Nat → Int64) (ms : Int32) (fs : Nat → Int32) (nn : Int32) (ln : Int32) (sa : Nat → Int32) (sb : Nat → Int32) (wg : Nat → Int32) (kt : Nat → Int32) (fr : Nat → Int32) (pt : Nat → Int32) (wl : Nat → Int32) (tn : Nat → Int32) (up : Int64) (lo : Int64) (H : Heap) (locs : List Loc) (ls : Array Slot), fw_R nc lc le ge wt kp fs nn ln sa sb wg kt → va_P (dC, dI) vwCl (wX cI cJ q nc lc le ge wt kp fo po na ns ta ts mx ch mo ms fs ++ wM cI cJ k nn ln sa sb wg kt fr pt wl tn up lo) H → va_D (fun q : Nat => s.heap.size ≤ q) (wX cI cJ q nc lc le ge wt kp fo po na ns ta ts mx ch mo ms fs ++ wM cI cJ k nn ln sa sb wg kt fr pt wl tn up lo) → va_S (fun q : Nat => s.heap.size ≤ q) s.heap H locs → lv_has ls 4 [(3, .int x3), (2, .ref (k 0)), (1, .ref (q 0)), (0, .ref b)] → W p l e room_1 s m #[Value.ref b] below meth c H locs 26 600 (lw_Z below #[Value.ref b] s) (F0 m 684 ls []) := by
        intro nc lc le ge wt kp fo po na ns ta ts mx ch mo ms fs nn ln sa sb wg kt fr pt wl tn up lo H locs ls hR hP hD hS hl
        refine lv_iinc (v := x3 + 5) (lv' := [(3, .int (x3 + 5)), (2, .ref (k 0)), (1, .ref (q 0)), (0, .ref b)]) hx hb dL_law_684 hl (k := 0) rfl rfl (by decide) rfl (fun ls hl => ?_)
        refine lv_goto (tgt := 18) hx hb dL_law_687 (by decide) ?_
        exact ih (i + 5) (x3 + 5) (by omega) (by omega) (by rw [ex3]; exact nI_add i 5) nc lc le ge wt kp fo po na ns ta ts mx ch mo ms fs nn ln sa sb wg kt fr pt wl tn up lo H locs ls hR hP hD hS hl
      refine lv_aload_n hx hb dL_law_26 rfl (lv_at hl 3 rfl) ?_
      refine lv_iload_n hx hb dL_law_27 rfl (lv_at hl 0 rfl) ?_
      refine va_sld hx hb hX hbl hbA hS hin0 dL_law_28 ?_
      refine lv_bipush (v := (31 : Int32)) hx hb dL_law_29 (by decide) ?_
      refine lv_iand hx hb dL_law_31 ?_
      refine lv_topi (fun w ew => ?_)
      clear ew
      by_cases c0 : w = 0
      · refine lv_tableIn (tgt := 124) (off := 92) hx hb dL_law_32 (by rw [c0]; decide) (by rw [c0]; decide) (by rw [c0]; rfl) (by decide) ?_
        exact law_nodes hL C0 hK hN q k nc lc le ge wt kp fo po na ns ta ts mx ch mo ms fs nn ln sa sb wg kt fr pt wl tn up lo hR x3 hin5 H locs ls hP hD hS hl hk
      by_cases c1 : w = 1
      · refine lv_tableIn (tgt := 147) (off := 115) hx hb dL_law_32 (by rw [c1]; decide) (by rw [c1]; decide) (by rw [c1]; rfl) (by decide) ?_
        exact law_line hL C0 hK hN q k nc lc le ge wt kp fo po na ns ta ts mx ch mo ms fs nn ln sa sb wg kt fr pt wl tn up lo hR x3 hin5 H locs ls hP hD hS hl hk
      by_cases c2 : w = 2
      · refine lv_tableIn (tgt := 190) (off := 158) hx hb dL_law_32 (by rw [c2]; decide) (by rw [c2]; decide) (by rw [c2]; rfl) (by decide) ?_
        exact law_drop hL C0 hK hN q k nc lc le ge wt kp fo po na ns ta ts mx ch mo ms fs nn ln sa sb wg kt fr pt wl tn up lo hR x3 hin5 H locs ls hP hD hS hl hk
      by_cases c3 : w = 3
      · refine lv_tableIn (tgt := 213) (off := 181) hx hb dL_law_32 (by rw [c3]; decide) (by rw [c3]; decide) (by rw [c3]; rfl) (by decide) ?_
        exact law_keep hL C0 hK hN q k nc lc le ge wt kp fo po na ns ta ts mx ch mo ms fs nn ln sa sb wg kt fr pt wl tn up lo hR x3 hin5 H locs ls hP hD hS hl hk
      by_cases c4 : w = 4
      · refine lv_tableIn (tgt := 246) (off := 214) hx hb dL_law_32 (by rw [c4]; decide) (by rw [c4]; decide) (by rw [c4]; rfl) (by decide) ?_
        exact law_at hL C0 hK hN q k nc lc le ge wt kp fo po na ns ta ts mx ch mo ms fs nn ln sa sb wg kt fr pt wl tn up lo hR x3 hin5 H locs ls hP hD hS hl hk
      by_cases c5 : w = 5
      · refine lv_tableIn (tgt := 279) (off := 247) hx hb dL_law_32 (by rw [c5]; decide) (by rw [c5]; decide) (by rw [c5]; rfl) (by decide) ?_
        exact law_cut hL C0 hK hN q k nc lc le ge wt kp fo po na ns ta ts mx ch mo ms fs nn ln sa sb wg kt fr pt wl tn up lo hR x3 hin5 H locs ls hP hD hS hl hk
      by_cases c6 : w = 6
      · refine lv_tableIn (tgt := 312) (off := 280) hx hb dL_law_32 (by rw [c6]; decide) (by rw [c6]; decide) (by rw [c6]; rfl) (by decide) ?_
        exact law_worst hL C0 hK hN q k nc lc le ge wt kp fo po na ns ta ts mx ch mo ms fs nn ln sa sb wg kt fr pt wl tn up lo hR x3 hin5 H locs ls hP hD hS hl hk
      by_cases c7 : w = 7
      · refine lv_tableIn (tgt := 335) (off := 303) hx hb dL_law_32 (by rw [c7]; decide) (by rw [c7]; decide) (by rw [c7]; rfl) (by decide) ?_
        exact law_promise hL C0 hK hN q k nc lc le ge wt kp fo po na ns ta ts mx ch mo ms fs nn ln sa sb wg kt fr pt wl tn up lo hR x3 hin5 H locs ls hP hD hS hl hk
      by_cases c8 : w = 8
      · refine lv_tableIn (tgt := 368) (off := 336) hx hb dL_law_32 (by rw [c8]; decide) (by rw [c8]; decide) (by rw [c8]; rfl) (by decide) ?_
        exact law_forests hL C0 hK hN q k nc lc le ge wt kp fo po na ns ta ts mx ch mo ms fs nn ln sa sb wg kt fr pt wl tn up lo hR x3 hin5 H locs ls hP hD hS hl hk
      by_cases c9 : w = 9
      · refine lv_tableIn (tgt := 381) (off := 349) hx hb dL_law_32 (by rw [c9]; decide) (by rw [c9]; decide) (by rw [c9]; rfl) (by decide) ?_
        exact law_peel hL C0 hK hN q k nc lc le ge wt kp fo po na ns ta ts mx ch mo ms fs nn ln sa sb wg kt fr pt wl tn up lo hR x3 hin5 H locs ls hP hD hS hl hk
      by_cases c10 : w = 10
      · refine lv_tableIn (tgt := 404) (off := 372) hx hb dL_law_32 (by rw [c10]; decide) (by rw [c10]; decide) (by rw [c10]; rfl) (by decide) ?_
        exact law_greedy hL C0 hK hN q k nc lc le ge wt kp fo po na ns ta ts mx ch mo ms fs nn ln sa sb wg kt fr pt wl tn up lo hR x3 hin5 H locs ls hP hD hS hl hk
      by_cases c11 : w = 11
      · refine lv_tableIn (tgt := 427) (off := 395) hx hb dL_law_32 (by rw [c11]; decide) (by rw [c11]; decide) (by rw [c11]; rfl) (by decide) ?_
        exact law_fewest hL C0 hK hN q k nc lc le ge wt kp fo po na ns ta ts mx ch mo ms fs nn ln sa sb wg kt fr pt wl tn up lo hR x3 hin5 H locs ls hP hD hS hl hk
      by_cases c12 : w = 12
      · refine lv_tableIn (tgt := 460) (off := 428) hx hb dL_law_32 (by rw [c12]; decide) (by rw [c12]; decide) (by rw [c12]; rfl) (by decide) ?_
        exact law_thin hL C0 hK hN q k nc lc le ge wt kp fo po na ns ta ts mx ch mo ms fs nn ln sa sb wg kt fr pt wl tn up lo hR x3 hin5 H locs ls hP hD hS hl hk
      by_cases c13 : w = 13
      · refine lv_tableIn (tgt := 483) (off := 451) hx hb dL_law_32 (by rw [c13]; decide) (by rw [c13]; decide) (by rw [c13]; rfl) (by decide) ?_
        exact law_far hL C0 hK hN q k nc lc le ge wt kp fo po na ns ta ts mx ch mo ms fs nn ln sa sb wg kt fr pt wl tn up lo hR x3 hin5 H locs ls hP hD hS hl hk
      by_cases c14 : w = 14
      · refine lv_tableIn (tgt := 526) (off := 494) hx hb dL_law_32 (by rw [c14]; decide) (by rw [c14]; decide) (by rw [c14]; rfl) (by decide) ?_
        exact law_stretch hL C0 hK hN q k nc lc le ge wt kp fo po na ns ta ts mx ch mo ms fs nn ln sa sb wg kt fr pt wl tn up lo hR x3 hin5 H locs ls hP hD hS hl hk
      by_cases c15 : w = 15
      · refine lv_tableIn (tgt := 549) (off := 517) hx hb dL_law_32 (by rw [c15]; decide) (by rw [c15]; decide) (by rw [c15]; rfl) (by decide) ?_
        exact law_trees hL C0 hK hN q k nc lc le ge wt kp fo po na ns ta ts mx ch mo ms fs nn ln sa sb wg kt fr pt wl tn up lo hR x3 hin5 H locs ls hP hD hS hl hk
      by_cases c16 : w = 16
      · refine lv_tableIn (tgt := 573) (off := 541) hx hb dL_law_32 (by rw [c16]; decide) (by rw [c16]; decide) (by rw [c16]; rfl) (by decide) ?_
        exact law_resistance hL C0 hK hN q k nc lc le ge wt kp fo po na ns ta ts mx ch mo ms fs nn ln sa sb wg kt fr pt wl tn up lo hR x3 hin5 H locs ls hP hD hS hl hk
      by_cases c17 : w = 17
      · refine lv_tableIn (tgt := 627) (off := 595) hx hb dL_law_32 (by rw [c17]; decide) (by rw [c17]; decide) (by rw [c17]; rfl) (by decide) ?_
        exact law_load hL C0 hK hN q k nc lc le ge wt kp fo po na ns ta ts mx ch mo ms fs nn ln sa sb wg kt fr pt wl tn up lo hR x3 hin5 H locs ls hP hD hS hl hk
      by_cases c18 : w = 18
      · refine lv_tableIn (tgt := 661) (off := 629) hx hb dL_law_32 (by rw [c18]; decide) (by rw [c18]; decide) (by rw [c18]; rfl) (by decide) ?_
        exact law_count hL C0 hK hN q k nc lc le ge wt kp fo po na ns ta ts mx ch mo ms fs nn ln sa sb wg kt fr pt wl tn up lo hR x3 hin5 H locs ls hP hD hS hl hk
      refine lv_tableOut (tgt := 684) hx hb dL_law_32 (fw_out18 c0 c1 c2 c3 c4 c5 c6 c7 c8 c9 c10 c11 c12 c13 c14 c15 c16 c17 c18) (by decide) ?_
      exact hk nc lc le ge wt kp fo po na ns ta ts mx ch mo ms fs nn ln sa sb wg kt fr pt wl tn up lo H locs ls hR hP hD hS hl
set_option maxHeartbeats 4000000 in
set_option maxRecDepth 100000 in
theorem whole_start {p : Program} {e : Env} {s : State} {m : MethodId} {below : List Frame} {meth : Method} {c : Code} (l : Launch) {b L : Nat} {xs : Nat → Int32} (hL : L ≤ 2560) (C0 : lw_At p s m meth c b L xs) : W p l e room_1 s m #[Value.ref b] below meth c s.heap [] 0 0 (lw_Z below #[Value.ref b] s) (entryFrame m ([Value.ref b] : List Value).toArray 4) := by
  obtain ⟨hx, hb, hr, hml, hown, hts0, hX, hbl, hlocks, hgv⟩ := id C0
  have hb : c.code = cL_law := hb
  have hown : s.vm.findClass RL = some m.cls := hown
  have hts : ∀ w ∈ wsL_law, w.before #[Value.ref b] s = true := fun w h => hts0 w (wsL_law_in w h)
  have hA : ∀ q : Nat, s.heap.size ≤ q → (fun q : Nat => s.heap.size ≤ q) q := fun _ h => h
  have hbA : ¬ (fun q : Nat => s.heap.size ≤ q) b := Nat.not_le.mpr hbl
  obtain ⟨c0, iS0, hKn0⟩ := u_known (C := RX0) (T := TX0) (N := 2) (n := 2) hts inlX0 (hts (.instantiable RX0 2) (by decide +kernel))
  obtain ⟨c1, iS1, hKn1⟩ := u_known (C := RX1) (T := TX1) (N := 4) (n := 4) hts inlX1 (hts (.instantiable RX1 4) (by decide +kernel))
  obtain ⟨c2, iS2, hKn2⟩ := u_known (C := RX2) (T := TX2) (N := 1) (n := 1) hts inlX2 (hts (.instantiable RX2 1) (by decide +kernel))
  obtain ⟨c3, iS3, hKn3⟩ := u_known (C := RX3) (T := TX3) (N := 12) (n := 12) hts inlX3 (hts (.instantiable RX3 12) (by decide +kernel))
  obtain ⟨c4, iS4, hKn4⟩ := u_known (C := RX4) (T := TX4) (N := 12) (n := 12) hts inlX4 (hts (.instantiable RX4 12) (by decide +kernel))
  obtain ⟨dC, dI, hKc⟩ : ∃ (dC : Nat → ClassId) (dI : Nat → Nat → Nat), ∀ (k : Nat) (q : vw_C), vwCl[k]? = some q → u_Kn s q.1 q.2.1 q.2.2 (dC k) (dI k) := by
    refine ⟨fun k => if k = 0 then c0 else if k = 1 then c1 else if k = 2 then c2 else if k = 3 then c3 else c4, fun k => if k = 0 then iS0 else if k = 1 then iS1 else if k = 2 then iS2 else if k = 3 then iS3 else iS4, ?_⟩
    intro k q hq
    match k, hq with
    | 0, hq => cases hq; exact hKn0
    | 1, hq => cases hq; exact hKn1
    | 2, hq => cases hq; exact hKn2
    | 3, hq => cases hq; exact hKn3
    | 4, hq => cases hq; exact hKn4
    | k + 5, hq => simp [vwCl] at hq
  obtain ⟨cI, kI, pI, hI1, hI2, hI3⟩ := Cond.arrayClass_spec (hts (.arrayClass .int) (by decide +kernel))
  obtain ⟨cJ, kJ, pJ, hJ1, hJ2, hJ3⟩ := Cond.arrayClass_spec (hts (.arrayClass .long) (by decide +kernel))
  have hN : va_Nw fw_nest s := va_Nw.of rfl (hts0 fw_nest (by decide +kernel))
  have hS : va_S (fun q : Nat => s.heap.size ≤ q) s.heap s.heap [] := va_S.rf
  have hK : va_K (dC, dI) vwCl (fw_tys cI cJ) s := ⟨hKc, fun k q h => by
    match k, h with
    | 0, h => cases h; exact ⟨fun n z => ⟨fun k h => (by cases h), kI, hI2, pI, hI3⟩, hI1⟩
    | 1, h => cases h; exact ⟨fun n z => ⟨fun k h => (by cases h), kJ, hJ2, pJ, hJ3⟩, hJ1⟩
    | k + 2, h => simp [fw_tys] at h⟩
  have hP : va_P (dC, dI) vwCl [] s.heap := fun k q h => by simp at h
  have hD : va_D (fun q : Nat => s.heap.size ≤ q) [] := ⟨fun i j p q h => by simp at h, fun k q h => by simp at h⟩
  have hl := lv_entry ([.ref b]) (n := 4) (Nat.le_of_ble_eq_true rfl)
  rw [lg_entry_eq]
  generalize (lg_sl ([.ref b]) ++ List.replicate (4 - (lg_sl ([.ref b])).length) Slot.unset).toArray = ls at hl ⊢
  have hl : lv_has ls 4 [(0, .ref b)] := hl
  refine va_new (ci := 3) (fs := [.int 0, .int 0, .null, .null, .null, .null, .null, .null, .null, .null, .null, .null]) (C := RX3) (T := TX3) (N := 12) hx hb hts inlX3 tyX3 tyX3_ok hown (hts (.classLink RL 7 RX3) (by decide +kernel)) (hts (.instantiable RX3 12) (by decide +kernel)) (hts (.initialized RX3) (by decide +kernel)) hK hP hD hS hA rfl (fun j hj => by rcases (show j = 0 ∨ j = 1 ∨ j = 2 ∨ j = 3 ∨ j = 4 ∨ j = 5 ∨ j = 6 ∨ j = 7 ∨ j = 8 ∨ j = 9 ∨ j = 10 ∨ j = 11 by omega) with rfl | rfl | rfl | rfl | rfl | rfl | rfl | rfl | rfl | rfl | rfl | rfl <;> rfl) (Nat.le_of_ble_eq_true rfl) (Nat.le_of_ble_eq_true rfl) dL_law_0 (fun hx0 H hP hD hS => ?_)
  have hP : va_P (dC, dI) vwCl [(hx0, .inr (3, [.int 0, .int 0, .null, .null, .null, .null, .null, .null, .null, .null, .null, .null]))] H := hP
  have hD : va_D (fun q : Nat => s.heap.size ≤ q) [(hx0, .inr (3, [.int 0, .int 0, .null, .null, .null, .null, .null, .null, .null, .null, .null, .null]))] := hD
  refine W.widen (k := 1) (n := 12) (Nat.le_of_ble_eq_true rfl) (Nat.le_of_ble_eq_true rfl) ?_
  refine lv_dup hx hb dL_law_3 rfl ?_
  have hPc := hP.sub (ws' := [(hx0, .inr (3, [.int 0, .int 0, .null, .null, .null, .null, .null, .null, .null, .null, .null, .null]))]) [0] rfl
  have hDc := hD.sub (ws' := [(hx0, .inr (3, [.int 0, .int 0, .null, .null, .null, .null, .null, .null, .null, .null, .null, .null]))]) [0] (by decide) rfl
  refine fw_cvm (wr := []) (w2 := fun u => (wX cI cJ u.1 4 0 (fun _ => 0) (fun _ => 0) (fun _ => 0) (fun _ => 0) (fun _ => 0) (fun _ => 0) (fun _ => 0) 0 (fun _ => 0) 0 (fun _ => 0) (fun _ => 0) (fun _ => 0) 0 u.2)) [0] [] [0, 1, 2, 3, 4, 5, 6, 7, 8, 9, 10, 11, 12, 13, 14, 15, 16] (va_runI (b := hx0) (As := []) (rest := [.ref hx0]) ⟨hx, hb, hml, hown, hts⟩ (kX3_init l dC dI cI cJ hx0 H.size st_forget) (cwI 0 hts gL_law_X3_init rfl rfl rfl (hts (.initialized RX3) (by decide +kernel)) (hts (.methodLink RL 9 yX3_init) (by decide +kernel)) (hts (.instanceMethod yX3_init) (by decide +kernel)) rfl (by decide +kernel) ⟨Nat.le_of_ble_eq_true rfl, Nat.le_of_ble_eq_true rfl⟩) ⟨fw_blind, fun U hU hW => fw_pre hPc hK hDc hN hU hW⟩ rfl rfl hl.1 rfl (lv_room (Nat.le_of_ble_eq_true rfl)) dL_law_4 ⟨Nat.le_of_ble_eq_true rfl, Nat.le_of_ble_eq_true rfl⟩) hP hD hS hA rfl rfl (by decide) (by decide) (by decide) (fun _ => rfl) (fun u H2 locs2 hw hP2 hD2 hS2 => ?_)
  clear hPc hDc hP hD hS
  obtain ⟨q, fs⟩ := u
  obtain ⟨hq0, hfs⟩ := hw
  dsimp only at hq0 hfs
  subst hq0
  obtain ⟨H, hH9⟩ : ∃ z, z = H2 := ⟨_, rfl⟩
  subst hH9
  obtain ⟨locs, hL9⟩ : ∃ z, z = locs2 := ⟨_, rfl⟩
  subst hL9
  have hP : va_P (dC, dI) vwCl (wX cI cJ q 4 0 (fun _ => 0) (fun _ => 0) (fun _ => 0) (fun _ => 0) (fun _ => 0) (fun _ => 0) (fun _ => 0) 0 (fun _ => 0) 0 (fun _ => 0) (fun _ => 0) (fun _ => 0) 0 fs) H := hP2
  have hD : va_D (fun q : Nat => s.heap.size ≤ q) (wX cI cJ q 4 0 (fun _ => 0) (fun _ => 0) (fun _ => 0) (fun _ => 0) (fun _ => 0) (fun _ => 0) (fun _ => 0) 0 (fun _ => 0) 0 (fun _ => 0) (fun _ => 0) (fun _ => 0) 0 fs) := hD2
  have hS := hS2
  clear hP2 hD2 hS2
  refine W.widen (k := 17) (n := 380) (Nat.le_of_ble_eq_true rfl) (Nat.le_of_ble_eq_true rfl) ?_
  refine lv_astore_n (lv' := [(1, .ref (q 0)), (0, .ref b)]) hx hb dL_law_7 rfl hl (by decide) rfl (fun ls hl => ?_)
  refine va_new (ci := 4) (fs := [.int 0, .int 0, .null, .null, .null, .null, .null, .null, .null, .null, .long 0, .long 0]) (C := RX4) (T := TX4) (N := 12) hx hb hts inlX4 tyX4 tyX4_ok hown (hts (.classLink RL 10 RX4) (by decide +kernel)) (hts (.instantiable RX4 12) (by decide +kernel)) (hts (.initialized RX4) (by decide +kernel)) hK hP hD hS hA rfl (fun j hj => by rcases (show j = 0 ∨ j = 1 ∨ j = 2 ∨ j = 3 ∨ j = 4 ∨ j = 5 ∨ j = 6 ∨ j = 7 ∨ j = 8 ∨ j = 9 ∨ j = 10 ∨ j = 11 by omega) with rfl | rfl | rfl | rfl | rfl | rfl | rfl | rfl | rfl | rfl | rfl | rfl <;> rfl) (Nat.le_of_ble_eq_true rfl) (Nat.le_of_ble_eq_true rfl) dL_law_8 (fun hm0 H hP hD hS => ?_)
  have hP : va_P (dC, dI) vwCl ((wX cI cJ q 4 0 (fun _ => 0) (fun _ => 0) (fun _ => 0) (fun _ => 0) (fun _ => 0) (fun _ => 0) (fun _ => 0) 0 (fun _ => 0) 0 (fun _ => 0) (fun _ => 0) (fun _ => 0) 0 fs) ++ [(hm0, .inr (4, [.int 0, .int 0, .null, .null, .null, .null, .null, .null, .null, .null, .long 0, .long 0]))]) H := hP
  have hD : va_D (fun q : Nat => s.heap.size ≤ q) ((wX cI cJ q 4 0 (fun _ => 0) (fun _ => 0) (fun _ => 0) (fun _ => 0) (fun _ => 0) (fun _ => 0) (fun _ => 0) 0 (fun _ => 0) 0 (fun _ => 0) (fun _ => 0) (fun _ => 0) 0 fs) ++ [(hm0, .inr (4, [.int 0, .int 0, .null, .null, .null, .null, .null, .null, .null, .null, .long 0, .long 0]))]) := hD
  refine W.widen (k := 18) (n := 392) (Nat.le_of_ble_eq_true rfl) (Nat.le_of_ble_eq_true rfl) ?_
  refine lv_dup hx hb dL_law_11 rfl ?_
  have hPc := hP.sub (ws' := [(hm0, .inr (4, [.int 0, .int 0, .null, .null, .null, .null, .null, .null, .null, .null, .long 0, .long 0]))]) [17] rfl
  have hDc := hD.sub (ws' := [(hm0, .inr (4, [.int 0, .int 0, .null, .null, .null, .null, .null, .null, .null, .null, .long 0, .long 0]))]) [17] (by decide) rfl
  refine fw_cvm (wr := (wX cI cJ q 4 0 (fun _ => 0) (fun _ => 0) (fun _ => 0) (fun _ => 0) (fun _ => 0) (fun _ => 0) (fun _ => 0) 0 (fun _ => 0) 0 (fun _ => 0) (fun _ => 0) (fun _ => 0) 0 fs)) (w2 := fun u => ((wX cI cJ q 4 0 (fun _ => 0) (fun _ => 0) (fun _ => 0) (fun _ => 0) (fun _ => 0) (fun _ => 0) (fun _ => 0) 0 (fun _ => 0) 0 (fun _ => 0) (fun _ => 0) (fun _ => 0) 0 fs) ++ (wM cI cJ u 4 0 (fun _ => 0) (fun _ => 0) (fun _ => 0) (fun _ => 0) (fun _ => 0) (fun _ => 0) (fun _ => 0) (fun _ => 0) 0 0))) [17] [0, 1, 2, 3, 4, 5, 6, 7, 8, 9, 10, 11, 12, 13, 14, 15, 16] [0, 1, 2, 3, 4, 5, 6, 7, 8, 9, 10, 11, 12, 13, 14, 15, 16, 17, 18, 19, 20, 21, 22, 23, 24, 25] (va_runI (b := hm0) (As := []) (rest := [.ref hm0]) ⟨hx, hb, hml, hown, hts⟩ (kX4_init l dC dI cI cJ hm0 H.size) (cwI 0 hts gL_law_X4_init rfl rfl rfl (hts (.initialized RX4) (by decide +kernel)) (hts (.methodLink RL 12 yX4_init) (by decide +kernel)) (hts (.instanceMethod yX4_init) (by decide +kernel)) rfl (by decide +kernel) ⟨Nat.le_of_ble_eq_true rfl, Nat.le_of_ble_eq_true rfl⟩) ⟨fw_blind, fun U hU hW => fw_pre hPc hK hDc hN hU hW⟩ rfl rfl hl.1 rfl (lv_room (Nat.le_of_ble_eq_true rfl)) dL_law_12 ⟨Nat.le_of_ble_eq_true rfl, Nat.le_of_ble_eq_true rfl⟩) hP hD hS hA rfl rfl (by decide) (by decide) (by decide) (fun _ => rfl) (fun k H2 locs2 hw hP2 hD2 hS2 => ?_)
  clear hPc hDc hP hD hS
  have hk0 : k 0 = hm0 := hw
  subst hk0
  obtain ⟨H, hH9⟩ : ∃ z, z = H2 := ⟨_, rfl⟩
  subst hH9
  obtain ⟨locs, hL9⟩ : ∃ z, z = locs2 := ⟨_, rfl⟩
  subst hL9
  have hP : va_P (dC, dI) vwCl ((wX cI cJ q 4 0 (fun _ => 0) (fun _ => 0) (fun _ => 0) (fun _ => 0) (fun _ => 0) (fun _ => 0) (fun _ => 0) 0 (fun _ => 0) 0 (fun _ => 0) (fun _ => 0) (fun _ => 0) 0 fs) ++ (wM cI cJ k 4 0 (fun _ => 0) (fun _ => 0) (fun _ => 0) (fun _ => 0) (fun _ => 0) (fun _ => 0) (fun _ => 0) (fun _ => 0) 0 0)) H := hP2
  have hD : va_D (fun q : Nat => s.heap.size ≤ q) ((wX cI cJ q 4 0 (fun _ => 0) (fun _ => 0) (fun _ => 0) (fun _ => 0) (fun _ => 0) (fun _ => 0) (fun _ => 0) 0 (fun _ => 0) 0 (fun _ => 0) (fun _ => 0) (fun _ => 0) 0 fs) ++ (wM cI cJ k 4 0 (fun _ => 0) (fun _ => 0) (fun _ => 0) (fun _ => 0) (fun _ => 0) (fun _ => 0) (fun _ => 0) (fun _ => 0) 0 0)) := hD2
  have hS := hS2
  refine W.widen (k := 26) (n := 600) (Nat.le_of_ble_eq_true rfl) (Nat.le_of_ble_eq_true rfl) ?_
  refine lv_astore_n (lv' := [(2, .ref (k 0)), (1, .ref (q 0)), (0, .ref b)]) hx hb dL_law_15 rfl hl (by decide) rfl (fun ls hl => ?_)
  refine lv_iconst (v := (0 : Int32)) hx hb dL_law_16 (by decide) ?_
  refine lv_istore_n (lv' := [(3, .int (0 : Int32)), (2, .ref (k 0)), (1, .ref (q 0)), (0, .ref b)]) hx hb dL_law_17 rfl hl (by decide) rfl (fun ls hl => ?_)
  exact law_loop hL C0 hK hN q k (L + 5) 0 0 (by omega) (by omega) nI_0.symm 4 0 (fun _ => 0) (fun _ => 0) (fun _ => 0) (fun _ => 0) (fun _ => 0) (fun _ => 0) (fun _ => 0) 0 (fun _ => 0) 0 (fun _ => 0) (fun _ => 0) (fun _ => 0) 0 fs 4 0 (fun _ => 0) (fun _ => 0) (fun _ => 0) (fun _ => 0) (fun _ => 0) (fun _ => 0) (fun _ => 0) (fun _ => 0) 0 0 H locs ls (st_new fs hfs) hP hD hS hl
-- ===== YOUR PART ENDS =====
set_option maxHeartbeats 4000000 in
theorem lw_walk (l : Launch) (b : Addr) (xs : List Int32) : MetFree l x (headSpec (Jvm.Cond.code x code maxLocals ret :: tables_1) room_1) (lw_P b xs) (fun _ _ _ _ _ => True) lw_Q := by
  refine MetFree.of_bodyS (code := code) (maxLocals := maxLocals) (ret := ret) (by decide) ?_ ?_
  · intro args s m h hn
    obtain ⟨meth, c, h1, h2, h3, h4, h5, h6, -, -⟩ := Cond.code_spec hn (atoms_spec (ws := Jvm.Cond.code x code maxLocals ret :: tables_1) h _ List.mem_cons_self)
    exact ⟨meth, c, h1, h2, h3, h4, h5, h6⟩
  · intro p e s m args below meth c s₁ B hml0 hP _
    obtain ⟨rfl, hx, hbd, hgv⟩ := hP
    obtain ⟨scr, harrAt, hlist, hof, hsmall⟩ := hx
    obtain ⟨hcb, hkn, -, -⟩ := State.arrayAt?_spec harrAt
    have hown : s.vm.findClass R_law = some m.cls := findClass_of_methodNamed B.named
    have hts0 : ∀ c ∈ (Jvm.Cond.code x code maxLocals ret :: tables_1), c.before #[Value.ref b] s = true := atoms_spec (ws := Jvm.Cond.code x code maxLocals ret :: tables_1) B.pre
    have hts : ∀ w ∈ lw_tbl, w.before #[Value.ref b] s = true := k2_hts_sels lw_privs (fun w hw => hts0 w (List.mem_cons_of_mem _ hw)) lw_privs_ok
    have hml : c.maxLocals = 4 := B.maxLocals_eq (hts0 _ List.mem_cons_self)
    have X₀ : Stand p l e room_1 s m #[Value.ref b] below meth c s₁ [] 0 0 := Stand.of_body B
    have hh0 : s₁.heap = s.heap := by rw [B.state]; rfl
    have hsz : scr.slots.size = xs.length := by rw [← Array.length_toList, hlist, List.length_map]
    have hval : ∀ j : Nat, j < xs.length → scr.slots[j]? = some (.int (xs.getD j 0)) := fun j hj => by
      rw [← Array.getElem?_toList, hlist]
      simp [hj]
    have hbl : b < s.heap.size := (Array.getElem?_eq_some_iff.mp hcb).1
    have hX : va_X b xs.length (fun j => xs.getD j 0) s s.heap := ⟨scr, hcb, hof, hkn, hsz, hval⟩
    have K : W p l e room_1 s m #[Value.ref b] below meth c s₁.heap [] 0 0 (lw_Z below #[Value.ref b] s) (entryFrame m ([Value.ref b] : List Value).toArray 4) := by
      rw [hh0]
      exact whole_start l hbd ⟨B.exec, B.bytes, B.returns, hml, hown, hts, hX, hbl, B.notSynchronized, hgv⟩
    obtain ⟨t, a1, o, b1, b2, b3⟩ := K s₁ rfl X₀
    exact ⟨t, o, a1, b1, b2, b3⟩
theorem lw_pre_spec {args : Array Value} {s : State} (h : (Jvm.Cond.and given_1 narrow_1).before args s = true) (hr : rest_1_c.before args s = true) : ∃ (b : Addr) (xs : List Int32), lw_P b xs args s := by
  have hs := flat_of_before _ h
  have hq := flat_of_before _ hr
  have hc : (Cond.count 1).before args s = true := hs _ (by decide +kernel)
  have harr : (Cond.arrayOf (.arg 0) .int).before args s = true := hs _ (by decide +kernel)
  have hle : (Cond.le (.length (.arg 0)) (.int 2560)).before args s = true := hs _ (by decide +kernel)
  have hlen : (Cond.isInt (.length (.arg 0))).before args s = true := hq _ (by decide +kernel)
  have hall : (Cond.all (.arg 0) (.isInt (.elem (.arg 0) (.index 0)))).before args s = true := hq _ (by decide +kernel)
  obtain ⟨b, xs, hb, hx⟩ := State.ints_of_pre rfl harr hlen hall
  have hsm : xs.length < 2 ^ 31 := hx.choose_spec.2.2.2
  have hev : (Term.length (.arg 0)).eval args s none [] s = some (.int xs.length.toInt32) := hx.length_eval hb
  have hv := Cond.le_ints hev (show (Term.int 2560).eval args s none [] s = some (.int 2560) from rfl)
  have hd : xs.length.toInt32 ≤ 2560 := by
    simpa [Cond.before, Cond.holds, hv] using hle
  have hN : xs.length ≤ 2560 := (Int32.ofNat_le_ofNat hsm (by decide)).mp (show Int32.ofNat xs.length ≤ Int32.ofNat 2560 from hd)
  exact ⟨b, xs, Cond.one_arg hc (show args[0]? = some (.ref b) from hb), hx, hN, h⟩
theorem lw_comes (l : Launch) : Comes l x (Jvm.Cond.code x code maxLocals ret :: tables_1) room_1 (fun tb e args s => Calls_1 tb e args s ∧ rest_1 tb e args s ∧ Pre_1 tb e args s)
    (fun _ _ args s o t => lw_Q args s o t) := by
  intro p e ha hc hk s m args below hf hfit hheap happ hpre
  obtain ⟨b, xs, hP⟩ := lw_pre_spec hpre.2.2 hpre.2.1
  obtain ⟨k, o, h1, h2, h3, hQ⟩ := lw_walk l b xs p e ha hc hk s m args below hf ((Spec.applies_iff_loose hf).mp happ).1 hP trivial
  exact ⟨k, o, h1, h2, h3, hQ⟩
theorem lw_frame {s t : State} {o : Outcome} {args : Array Value} (h : Framed s o t [] 600000 7302250) :
    Framed s o t (fieldLocs frame_1_writes args s ++ arrayLocs frame_1_arrays args s ++ staticLocs frame_1_statics s) 600000 7302250 := h
theorem lw_limb (L : Cond) (hL : ∀ (args : Array Value) (s t : State), L.after args s (.returned (some (.int 1))) t = true) :
    ArmFor flags0 classFile x code maxLocals ret World_1 tables_1 room_1 Calls_1 rest_1 Pre_1
      (fun tb e a s o t => postC L tb e a s o t ∧ Framed s o t (fieldLocs frame_1_writes a s ++ arrayLocs frame_1_arrays a s ++ staticLocs frame_1_statics s) 600000 7302250) := by
  intro l _ _ _ p e ha hc hk s m args below hf hfit hheap happ hpre
  obtain ⟨k, o, h1, h2, h3, rfl, hF⟩ := lw_comes l p e ha hc hk s m args below hf hfit hheap happ hpre
  exact ⟨k, _, h1, h2, h3, hL args s _, lw_frame hF⟩
theorem i_vc : Claimed_1_1 ∧ Claimed_1_2 := ⟨lw_limb limb_1_1 (fun args s t => by simp [limb_1_1, Cond.after, Cond.holds, Cond.value]), lw_limb limb_1_2 (fun args s t => Cond.after_iff.mpr (by
  first | (rw [show limb_1_2 = Cond.eq .result (.int 1) from rfl, Cond.eq_ints (x := 1) (y := 1) rfl rfl]; simp; done) | (simp [limb_1_2, Cond.value, Term.eval]; done)))⟩
