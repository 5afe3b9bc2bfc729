section
-- ===== PART A: goes FIRST, ahead of the names: the tables' words, and 'selects' of the private methods out of them =====
/-- a private method of a class that the tables say can be made, by its rows of tables_1 -/
def lw_okq (q : MethodName × Nat) : Prop := (q.1.cls ≠ "java/lang/invoke/MethodHandle" ∧ q.1.cls ≠ "java/lang/invoke/VarHandle") ∧ Cond.instantiable q.1.cls q.2 ∈ tables_1 ∧ Cond.privateMethod q.1 ∈ tables_1 ∧ Cond.instanceMethod q.1 ∈ tables_1
theorem lw_p0 : lw_okq (⟨"FewLines", "forgetFewest", "()V"⟩, 12) := ⟨⟨by decide +kernel, by decide +kernel⟩, List.mem_of_getElem? (i := 10) (by decide +kernel), List.mem_of_getElem? (i := 62) (by decide +kernel), List.mem_of_getElem? (i := 63) (by decide +kernel)⟩
theorem lw_p1 : lw_okq (⟨"FewLines", "isNode", "(I)Z"⟩, 12) := ⟨⟨by decide +kernel, by decide +kernel⟩, List.mem_of_getElem? (i := 10) (by decide +kernel), List.mem_of_getElem? (i := 117) (by decide +kernel), List.mem_of_getElem? (i := 118) (by decide +kernel)⟩
theorem lw_p2 : lw_okq (⟨"FewLines", "isLine", "(I)Z"⟩, 12) := ⟨⟨by decide +kernel, by decide +kernel⟩, List.mem_of_getElem? (i := 10) (by decide +kernel), List.mem_of_getElem? (i := 131) (by decide +kernel), List.mem_of_getElem? (i := 132) (by decide +kernel)⟩
theorem lw_p3 : lw_okq (⟨"FewLines", "peelForests", "()I"⟩, 12) := ⟨⟨by decide +kernel, by decide +kernel⟩, List.mem_of_getElem? (i := 10) (by decide +kernel), List.mem_of_getElem? (i := 143) (by decide +kernel), List.mem_of_getElem? (i := 144) (by decide +kernel)⟩
theorem lw_p4 : lw_okq (⟨"FewLines", "peelOne", "(I)I"⟩, 12) := ⟨⟨by decide +kernel, by decide +kernel⟩, List.mem_of_getElem? (i := 10) (by decide +kernel), List.mem_of_getElem? (i := 147) (by decide +kernel), List.mem_of_getElem? (i := 148) (by decide +kernel)⟩
theorem lw_p5 : lw_okq (⟨"FewLines", "isSide", "(I)Z"⟩, 12) := ⟨⟨by decide +kernel, by decide +kernel⟩, List.mem_of_getElem? (i := 10) (by decide +kernel), List.mem_of_getElem? (i := 163) (by decide +kernel), List.mem_of_getElem? (i := 164) (by decide +kernel)⟩
theorem lw_p6 : lw_okq (⟨"FewLines", "allNodes", "()I"⟩, 12) := ⟨⟨by decide +kernel, by decide +kernel⟩, List.mem_of_getElem? (i := 10) (by decide +kernel), List.mem_of_getElem? (i := 167) (by decide +kernel), List.mem_of_getElem? (i := 168) (by decide +kernel)⟩
theorem lw_p7 : lw_okq (⟨"FewLines", "weightAcross", "(II)I"⟩, 12) := ⟨⟨by decide +kernel, by decide +kernel⟩, List.mem_of_getElem? (i := 10) (by decide +kernel), List.mem_of_getElem? (i := 174) (by decide +kernel), List.mem_of_getElem? (i := 175) (by decide +kernel)⟩
theorem lw_p8 : lw_okq (⟨"FewLines", "weightIn", "(II)I"⟩, 12) := ⟨⟨by decide +kernel, by decide +kernel⟩, List.mem_of_getElem? (i := 10) (by decide +kernel), List.mem_of_getElem? (i := 181) (by decide +kernel), List.mem_of_getElem? (i := 182) (by decide +kernel)⟩
theorem lw_p9 : lw_okq (⟨"FewLines", "keepJust", "(I)I"⟩, 12) := ⟨⟨by decide +kernel, by decide +kernel⟩, List.mem_of_getElem? (i := 10) (by decide +kernel), List.mem_of_getElem? (i := 201) (by decide +kernel), List.mem_of_getElem? (i := 202) (by decide +kernel)⟩
theorem lw_p10 : lw_okq (⟨"FewLines", "lengthBetweenEnds", "(I)I"⟩, 12) := ⟨⟨by decide +kernel, by decide +kernel⟩, List.mem_of_getElem? (i := 10) (by decide +kernel), List.mem_of_getElem? (i := 222) (by decide +kernel), List.mem_of_getElem? (i := 223) (by decide +kernel)⟩
theorem lw_p11 : lw_okq (⟨"FewLines", "fewestSet", "(I)I"⟩, 12) := ⟨⟨by decide +kernel, by decide +kernel⟩, List.mem_of_getElem? (i := 10) (by decide +kernel), List.mem_of_getElem? (i := 239) (by decide +kernel), List.mem_of_getElem? (i := 240) (by decide +kernel)⟩
theorem lw_p12 : lw_okq (⟨"FewLines", "linesOf", "(I)I"⟩, 12) := ⟨⟨by decide +kernel, by decide +kernel⟩, List.mem_of_getElem? (i := 10) (by decide +kernel), List.mem_of_getElem? (i := 243) (by decide +kernel), List.mem_of_getElem? (i := 244) (by decide +kernel)⟩
theorem lw_p13 : lw_okq (⟨"FewLines", "measure", "(LFewLines$Lengths;I)V"⟩, 12) := ⟨⟨by decide +kernel, by decide +kernel⟩, List.mem_of_getElem? (i := 10) (by decide +kernel), List.mem_of_getElem? (i := 247) (by decide +kernel), List.mem_of_getElem? (i := 248) (by decide +kernel)⟩
theorem lw_p14 : lw_okq (⟨"FewLines", "leastToJoin", "()I"⟩, 12) := ⟨⟨by decide +kernel, by decide +kernel⟩, List.mem_of_getElem? (i := 10) (by decide +kernel), List.mem_of_getElem? (i := 251) (by decide +kernel), List.mem_of_getElem? (i := 252) (by decide +kernel)⟩
theorem lw_p15 : lw_okq (⟨"FewLines", "isWithinStretch", "(II)Z"⟩, 12) := ⟨⟨by decide +kernel, by decide +kernel⟩, List.mem_of_getElem? (i := 10) (by decide +kernel), List.mem_of_getElem? (i := 258) (by decide +kernel), List.mem_of_getElem? (i := 259) (by decide +kernel)⟩
def lw_privs_1 : List (MethodName × Nat) := [(⟨"FewLines", "forgetFewest", "()V"⟩, 12), (⟨"FewLines", "isNode", "(I)Z"⟩, 12), (⟨"FewLines", "isLine", "(I)Z"⟩, 12), (⟨"FewLines", "peelForests", "()I"⟩, 12), (⟨"FewLines", "peelOne", "(I)I"⟩, 12), (⟨"FewLines", "isSide", "(I)Z"⟩, 12), (⟨"FewLines", "allNodes", "()I"⟩, 12), (⟨"FewLines", "weightAcross", "(II)I"⟩, 12), (⟨"FewLines", "weightIn", "(II)I"⟩, 12), (⟨"FewLines", "keepJust", "(I)I"⟩, 12), (⟨"FewLines", "lengthBetweenEnds", "(I)I"⟩, 12), (⟨"FewLines", "fewestSet", "(I)I"⟩, 12), (⟨"FewLines", "linesOf", "(I)I"⟩, 12), (⟨"FewLines", "measure", "(LFewLines$Lengths;I)V"⟩, 12), (⟨"FewLines", "leastToJoin", "()I"⟩, 12), (⟨"FewLines", "isWithinStretch", "(II)Z"⟩, 12)]
theorem lw_r1 : ∀ q ∈ lw_privs_1, lw_okq q := List.forall_mem_cons.mpr ⟨lw_p0, List.forall_mem_cons.mpr ⟨lw_p1, List.forall_mem_cons.mpr ⟨lw_p2, List.forall_mem_cons.mpr ⟨lw_p3, List.forall_mem_cons.mpr ⟨lw_p4, List.forall_mem_cons.mpr ⟨lw_p5, List.forall_mem_cons.mpr ⟨lw_p6, List.forall_mem_cons.mpr ⟨lw_p7, List.forall_mem_cons.mpr ⟨lw_p8, List.forall_mem_cons.mpr ⟨lw_p9, List.forall_mem_cons.mpr ⟨lw_p10, List.forall_mem_cons.mpr ⟨lw_p11, List.forall_mem_cons.mpr ⟨lw_p12, List.forall_mem_cons.mpr ⟨lw_p13, List.forall_mem_cons.mpr ⟨lw_p14, List.forall_mem_cons.mpr ⟨lw_p15, fun _ h => absurd h List.not_mem_nil⟩⟩⟩⟩⟩⟩⟩⟩⟩⟩⟩⟩⟩⟩⟩⟩
theorem lw_p16 : lw_okq (⟨"FewLines", "measured", "(I)LFewLines$Lengths;"⟩, 12) := ⟨⟨by decide +kernel, by decide +kernel⟩, List.mem_of_getElem? (i := 10) (by decide +kernel), List.mem_of_getElem? (i := 271) (by decide +kernel), List.mem_of_getElem? (i := 272) (by decide +kernel)⟩
theorem lw_p17 : lw_okq (⟨"FewLines", "treeProducts", "(I)J"⟩, 12) := ⟨⟨by decide +kernel, by decide +kernel⟩, List.mem_of_getElem? (i := 10) (by decide +kernel), List.mem_of_getElem? (i := 291) (by decide +kernel), List.mem_of_getElem? (i := 292) (by decide +kernel)⟩
theorem lw_p18 : lw_okq (⟨"FewLines", "fillMinors", "(I)V"⟩, 12) := ⟨⟨by decide +kernel, by decide +kernel⟩, List.mem_of_getElem? (i := 10) (by decide +kernel), List.mem_of_getElem? (i := 295) (by decide +kernel), List.mem_of_getElem? (i := 296) (by decide +kernel)⟩
theorem lw_p19 : lw_okq (⟨"FewLines$Minors", "choose", "(I)I"⟩, 4) := ⟨⟨by decide +kernel, by decide +kernel⟩, List.mem_of_getElem? (i := 42) (by decide +kernel), List.mem_of_getElem? (i := 315) (by decide +kernel), List.mem_of_getElem? (i := 316) (by decide +kernel)⟩
theorem lw_p20 : lw_okq (⟨"FewLines$Minors", "alongLastRow", "(II)J"⟩, 4) := ⟨⟨by decide +kernel, by decide +kernel⟩, List.mem_of_getElem? (i := 42) (by decide +kernel), List.mem_of_getElem? (i := 320) (by decide +kernel), List.mem_of_getElem? (i := 321) (by decide +kernel)⟩
theorem lw_p21 : lw_okq (⟨"FewLines", "partingProducts", "(III)J"⟩, 12) := ⟨⟨by decide +kernel, by decide +kernel⟩, List.mem_of_getElem? (i := 10) (by decide +kernel), List.mem_of_getElem? (i := 330) (by decide +kernel), List.mem_of_getElem? (i := 331) (by decide +kernel)⟩
theorem lw_p22 : lw_okq (⟨"FewLines", "weightTogether", "(I)I"⟩, 12) := ⟨⟨by decide +kernel, by decide +kernel⟩, List.mem_of_getElem? (i := 10) (by decide +kernel), List.mem_of_getElem? (i := 342) (by decide +kernel), List.mem_of_getElem? (i := 343) (by decide +kernel)⟩
theorem lw_p23 : lw_okq (⟨"FewLinesModel", "isNode", "(I)Z"⟩, 12) := ⟨⟨by decide +kernel, by decide +kernel⟩, List.mem_of_getElem? (i := 346) (by decide +kernel), List.mem_of_getElem? (i := 400) (by decide +kernel), List.mem_of_getElem? (i := 401) (by decide +kernel)⟩
theorem lw_p24 : lw_okq (⟨"FewLinesModel", "isLine", "(I)Z"⟩, 12) := ⟨⟨by decide +kernel, by decide +kernel⟩, List.mem_of_getElem? (i := 346) (by decide +kernel), List.mem_of_getElem? (i := 408) (by decide +kernel), List.mem_of_getElem? (i := 409) (by decide +kernel)⟩
theorem lw_p25 : lw_okq (⟨"FewLinesModel", "findForests", "()I"⟩, 12) := ⟨⟨by decide +kernel, by decide +kernel⟩, List.mem_of_getElem? (i := 346) (by decide +kernel), List.mem_of_getElem? (i := 420) (by decide +kernel), List.mem_of_getElem? (i := 421) (by decide +kernel)⟩
theorem lw_p26 : lw_okq (⟨"FewLinesModel", "apart", "()V"⟩, 12) := ⟨⟨by decide +kernel, by decide +kernel⟩, List.mem_of_getElem? (i := 346) (by decide +kernel), List.mem_of_getElem? (i := 424) (by decide +kernel), List.mem_of_getElem? (i := 425) (by decide +kernel)⟩
theorem lw_p27 : lw_okq (⟨"FewLinesModel", "join", "(I)Z"⟩, 12) := ⟨⟨by decide +kernel, by decide +kernel⟩, List.mem_of_getElem? (i := 346) (by decide +kernel), List.mem_of_getElem? (i := 428) (by decide +kernel), List.mem_of_getElem? (i := 429) (by decide +kernel)⟩
theorem lw_p28 : lw_okq (⟨"FewLinesModel", "isSide", "(I)Z"⟩, 12) := ⟨⟨by decide +kernel, by decide +kernel⟩, List.mem_of_getElem? (i := 346) (by decide +kernel), List.mem_of_getElem? (i := 436) (by decide +kernel), List.mem_of_getElem? (i := 437) (by decide +kernel)⟩
theorem lw_p29 : lw_okq (⟨"FewLinesModel", "cutOf", "(II)I"⟩, 12) := ⟨⟨by decide +kernel, by decide +kernel⟩, List.mem_of_getElem? (i := 346) (by decide +kernel), List.mem_of_getElem? (i := 440) (by decide +kernel), List.mem_of_getElem? (i := 441) (by decide +kernel)⟩
theorem lw_p30 : lw_okq (⟨"FewLinesModel", "keptMany", "()I"⟩, 12) := ⟨⟨by decide +kernel, by decide +kernel⟩, List.mem_of_getElem? (i := 346) (by decide +kernel), List.mem_of_getElem? (i := 460) (by decide +kernel), List.mem_of_getElem? (i := 461) (by decide +kernel)⟩
theorem lw_p31 : lw_okq (⟨"FewLinesModel", "findFar", "(I[I)V"⟩, 12) := ⟨⟨by decide +kernel, by decide +kernel⟩, List.mem_of_getElem? (i := 346) (by decide +kernel), List.mem_of_getElem? (i := 468) (by decide +kernel), List.mem_of_getElem? (i := 469) (by decide +kernel)⟩
def lw_privs_2 : List (MethodName × Nat) := [(⟨"FewLines", "measured", "(I)LFewLines$Lengths;"⟩, 12), (⟨"FewLines", "treeProducts", "(I)J"⟩, 12), (⟨"FewLines", "fillMinors", "(I)V"⟩, 12), (⟨"FewLines$Minors", "choose", "(I)I"⟩, 4), (⟨"FewLines$Minors", "alongLastRow", "(II)J"⟩, 4), (⟨"FewLines", "partingProducts", "(III)J"⟩, 12), (⟨"FewLines", "weightTogether", "(I)I"⟩, 12), (⟨"FewLinesModel", "isNode", "(I)Z"⟩, 12), (⟨"FewLinesModel", "isLine", "(I)Z"⟩, 12), (⟨"FewLinesModel", "findForests", "()I"⟩, 12), (⟨"FewLinesModel", "apart", "()V"⟩, 12), (⟨"FewLinesModel", "join", "(I)Z"⟩, 12), (⟨"FewLinesModel", "isSide", "(I)Z"⟩, 12), (⟨"FewLinesModel", "cutOf", "(II)I"⟩, 12), (⟨"FewLinesModel", "keptMany", "()I"⟩, 12), (⟨"FewLinesModel", "findFar", "(I[I)V"⟩, 12)]
theorem lw_r2 : ∀ q ∈ lw_privs_2, lw_okq q := List.forall_mem_cons.mpr ⟨lw_p16, List.forall_mem_cons.mpr ⟨lw_p17, List.forall_mem_cons.mpr ⟨lw_p18, List.forall_mem_cons.mpr ⟨lw_p19, List.forall_mem_cons.mpr ⟨lw_p20, List.forall_mem_cons.mpr ⟨lw_p21, List.forall_mem_cons.mpr ⟨lw_p22, List.forall_mem_cons.mpr ⟨lw_p23, List.forall_mem_cons.mpr ⟨lw_p24, List.forall_mem_cons.mpr ⟨lw_p25, List.forall_mem_cons.mpr ⟨lw_p26, List.forall_mem_cons.mpr ⟨lw_p27, List.forall_mem_cons.mpr ⟨lw_p28, List.forall_mem_cons.mpr ⟨lw_p29, List.forall_mem_cons.mpr ⟨lw_p30, List.forall_mem_cons.mpr ⟨lw_p31, fun _ h => absurd h List.not_mem_nil⟩⟩⟩⟩⟩⟩⟩⟩⟩⟩⟩⟩⟩⟩⟩⟩
theorem lw_p32 : lw_okq (⟨"FewLinesModel", "fewestBy", "(I)I"⟩, 12) := ⟨⟨by decide +kernel, by decide +kernel⟩, List.mem_of_getElem? (i := 346) (by decide +kernel), List.mem_of_getElem? (i := 476) (by decide +kernel), List.mem_of_getElem? (i := 477) (by decide +kernel)⟩
theorem lw_p33 : lw_okq (⟨"FewLinesModel", "isWithin", "(II)Z"⟩, 12) := ⟨⟨by decide +kernel, by decide +kernel⟩, List.mem_of_getElem? (i := 346) (by decide +kernel), List.mem_of_getElem? (i := 483) (by decide +kernel), List.mem_of_getElem? (i := 484) (by decide +kernel)⟩
theorem lw_p34 : lw_okq (⟨"FewLinesModel", "keptSet", "()I"⟩, 12) := ⟨⟨by decide +kernel, by decide +kernel⟩, List.mem_of_getElem? (i := 346) (by decide +kernel), List.mem_of_getElem? (i := 495) (by decide +kernel), List.mem_of_getElem? (i := 496) (by decide +kernel)⟩
theorem lw_p35 : lw_okq (⟨"FewLinesModel", "products", "(IIII)J"⟩, 12) := ⟨⟨by decide +kernel, by decide +kernel⟩, List.mem_of_getElem? (i := 346) (by decide +kernel), List.mem_of_getElem? (i := 510) (by decide +kernel), List.mem_of_getElem? (i := 511) (by decide +kernel)⟩
theorem lw_p36 : lw_okq (⟨"FewLinesModel", "hasResistance", "(IIIJ)Z"⟩, 12) := ⟨⟨by decide +kernel, by decide +kernel⟩, List.mem_of_getElem? (i := 346) (by decide +kernel), List.mem_of_getElem? (i := 520) (by decide +kernel), List.mem_of_getElem? (i := 521) (by decide +kernel)⟩
def lw_privs_3 : List (MethodName × Nat) := [(⟨"FewLinesModel", "fewestBy", "(I)I"⟩, 12), (⟨"FewLinesModel", "isWithin", "(II)Z"⟩, 12), (⟨"FewLinesModel", "keptSet", "()I"⟩, 12), (⟨"FewLinesModel", "products", "(IIII)J"⟩, 12), (⟨"FewLinesModel", "hasResistance", "(IIIJ)Z"⟩, 12)]
theorem lw_r3 : ∀ q ∈ lw_privs_3, lw_okq q := List.forall_mem_cons.mpr ⟨lw_p32, List.forall_mem_cons.mpr ⟨lw_p33, List.forall_mem_cons.mpr ⟨lw_p34, List.forall_mem_cons.mpr ⟨lw_p35, List.forall_mem_cons.mpr ⟨lw_p36, fun _ h => absurd h List.not_mem_nil⟩⟩⟩⟩⟩
def lw_privs : List (MethodName × Nat) := lw_privs_1 ++ (lw_privs_2 ++ (lw_privs_3))
def lw_tbl : List Cond := k2_sels lw_privs ++ tables_1
theorem lw_privs_ok : ∀ q ∈ lw_privs, lw_okq q := by
  show ∀ q ∈ lw_privs_1 ++ (lw_privs_2 ++ (lw_privs_3)), lw_okq q
  exact List.forall_mem_append.mpr ⟨lw_r1, List.forall_mem_append.mpr ⟨lw_r2, lw_r3⟩⟩
-- ===== end of PART A; then your names; then what follows =====
end
section
/-! ===== BEGIN words of one list among another's, by their places ===== -/
theorem goodIn_r {big : List Cond} (ws : List Cond) (ps : List Nat) (hp : ws = ps.filterMap (fun i => big[i]?)) (h : ws.all goodWord = true) : GoodIn big ws := by
  intro w hw
  have h1 := List.all_eq_true.mp h w hw
  rw [hp] at hw
  obtain ⟨i, -, hi⟩ := List.mem_filterMap.mp hw
  have hm : w ∈ big := by first | exact List.mem_of_getElem? hi | exact List.getElem?_mem hi
  exact ⟨hm, good_of_word h1⟩
theorem goodIn_app {big a b : List Cond} (ha : GoodIn big a) (hb : GoodIn big b) : GoodIn big (a ++ b) := fun w h => (List.mem_append.mp h).elim (ha w) (hb w)
theorem goodIn_ca {big a b : List Cond} {c : Cond} (ha : GoodIn big (c :: a)) (hb : GoodIn big b) : GoodIn big (c :: (a ++ b)) := fun w h => (List.mem_cons.mp h).elim (fun e => ha w (List.mem_cons.mpr (Or.inl e))) (fun h => (List.mem_append.mp h).elim (fun h => ha w (List.mem_cons.mpr (Or.inr h))) (hb w))
theorem goodIn_sub {big ws : List Cond} (hm : ∀ w ∈ ws, w ∈ big) (h : ws.all goodWord = true) : GoodIn big ws := fun w hw => ⟨hm w hw, good_of_word (List.all_eq_true.mp h w hw)⟩
/-! ===== END ===== -/

/-! ===== BEGIN printed: names, fields, word lists, decode rows ===== -/
def RX0 : String := "FewLines$Lengths"
def TX0 : u_T := fun k => match k with
  | 0 => ("FewLines$Lengths", "lengths", "[I", true)
  | _ => ("FewLines$Lengths", "size", "I", false)
def tyX0 : Nat → FieldType := fun k => match k with
  | 0 => .array .int
  | _ => .int
abbrev wsX00 : List Cond := u_ws RX0 TX0 2
theorem nmX0 : ∀ a, a < 2 → ∀ b, b < 2 → a ≠ b → (TX0 a).2.1 ≠ (TX0 b).2.1 := by decide +kernel
theorem tyX0_ok : ∀ k, k < 2 → parseFieldDescriptor (TX0 k).2.2.1 = some (tyX0 k) := by decide +kernel
abbrev cX0_init : ByteArray := prog_2_method_1_code
def yX0_init : MethodName := ⟨RX0, "<init>", "()V"⟩
abbrev cX0_clear : ByteArray := prog_2_method_2_code
def yX0_clear : MethodName := ⟨RX0, "clear", "(I)V"⟩
abbrev cX0_between : ByteArray := prog_2_method_3_code
def yX0_between : MethodName := ⟨RX0, "between", "(II)I"⟩
abbrev cX0_add : ByteArray := prog_2_method_4_code
def yX0_add : MethodName := ⟨RX0, "add", "(III)V"⟩
def RX1 : String := "FewLines$Minors"
def TX1 : u_T := fun k => match k with
  | 0 => ("FewLines$Minors", "matrix", "[J", true)
  | 1 => ("FewLines$Minors", "chosen", "[I", true)
  | 2 => ("FewLines$Minors", "minorOf", "[J", true)
  | _ => ("FewLines$Minors", "size", "I", false)
def tyX1 : Nat → FieldType := fun k => match k with
  | 0 => .array .long
  | 1 => .array .int
  | 2 => .array .long
  | _ => .int
abbrev wsX10 : List Cond := u_ws RX1 TX1 4
theorem nmX1 : ∀ a, a < 4 → ∀ b, b < 4 → a ≠ b → (TX1 a).2.1 ≠ (TX1 b).2.1 := by decide +kernel
theorem tyX1_ok : ∀ k, k < 4 → parseFieldDescriptor (TX1 k).2.2.1 = some (tyX1 k) := by decide +kernel
abbrev cX1_init : ByteArray := prog_3_method_1_code
def yX1_init : MethodName := ⟨RX1, "<init>", "()V"⟩
abbrev cX1_clear : ByteArray := prog_3_method_2_code
def yX1_clear : MethodName := ⟨RX1, "clear", "(I)V"⟩
abbrev cX1_add : ByteArray := prog_3_method_3_code
def yX1_add : MethodName := ⟨RX1, "add", "(III)V"⟩
abbrev cX1_without : ByteArray := prog_3_method_4_code
def yX1_without : MethodName := ⟨RX1, "without", "(I)J"⟩
abbrev cX1_choose : ByteArray := prog_3_method_5_code
def yX1_choose : MethodName := ⟨RX1, "choose", "(I)I"⟩
abbrev cX1_alongLastRow : ByteArray := prog_3_method_6_code
def yX1_alongLastRow : MethodName := ⟨RX1, "alongLastRow", "(II)J"⟩
def RX2 : String := "FewLines$Parts"
def TX2 : u_T := fun k => match k with
  | _ => ("FewLines$Parts", "partOf", "[I", true)
def tyX2 : Nat → FieldType := fun k => match k with
  | _ => .array .int
abbrev wsX20 : List Cond := u_ws RX2 TX2 1
theorem nmX2 : ∀ a, a < 1 → ∀ b, b < 1 → a ≠ b → (TX2 a).2.1 ≠ (TX2 b).2.1 := by decide +kernel
theorem tyX2_ok : ∀ k, k < 1 → parseFieldDescriptor (TX2 k).2.2.1 = some (tyX2 k) := by decide +kernel
abbrev cX2_init : ByteArray := prog_4_method_1_code
def yX2_init : MethodName := ⟨RX2, "<init>", "()V"⟩
abbrev cX2_clear : ByteArray := prog_4_method_2_code
def yX2_clear : MethodName := ⟨RX2, "clear", "()V"⟩
abbrev cX2_join : ByteArray := prog_4_method_3_code
def yX2_join : MethodName := ⟨RX2, "join", "(II)Z"⟩
def RX3 : String := "FewLines"
def TX3 : u_T := fun k => match k with
  | 0 => ("FewLines", "nodeCount", "I", false)
  | 1 => ("FewLines", "lineCount", "I", false)
  | 2 => ("FewLines", "lesserEnd", "[I", true)
  | 3 => ("FewLines", "greaterEnd", "[I", true)
  | 4 => ("FewLines", "weightOf", "[I", true)
  | 5 => ("FewLines", "keptOf", "[I", true)
  | 6 => ("FewLines", "forestOf", "[I", true)
  | 7 => ("FewLines", "parts", "LFewLines$Parts;", true)
  | 8 => ("FewLines", "netLengths", "LFewLines$Lengths;", true)
  | 9 => ("FewLines", "thinLengths", "LFewLines$Lengths;", true)
  | 10 => ("FewLines", "minors", "LFewLines$Minors;", true)
  | _ => ("FewLines", "fewestSets", "[I", true)
def tyX3 : Nat → FieldType := fun k => match k with
  | 0 => .int
  | 1 => .int
  | 2 => .array .int
  | 3 => .array .int
  | 4 => .array .int
  | 5 => .array .int
  | 6 => .array .int
  | 7 => .object "FewLines$Parts"
  | 8 => .object "FewLines$Lengths"
  | 9 => .object "FewLines$Lengths"
  | 10 => .object "FewLines$Minors"
  | _ => .array .int
abbrev wsX30 : List Cond := u_ws RX3 TX3 12
theorem nmX3 : ∀ a, a < 12 → ∀ b, b < 12 → a ≠ b → (TX3 a).2.1 ≠ (TX3 b).2.1 := by decide +kernel
theorem tyX3_ok : ∀ k, k < 12 → parseFieldDescriptor (TX3 k).2.2.1 = some (tyX3 k) := by decide +kernel
abbrev cX3_init : ByteArray := prog_1_method_1_code
def yX3_init : MethodName := ⟨RX3, "<init>", "()V"⟩
abbrev cX3_nodes : ByteArray := prog_1_method_2_code
def yX3_nodes : MethodName := ⟨RX3, "nodes", "(I)I"⟩
abbrev cX3_line : ByteArray := prog_1_method_3_code
def yX3_line : MethodName := ⟨RX3, "line", "(III)I"⟩
abbrev cX3_drop : ByteArray := prog_1_method_4_code
def yX3_drop : MethodName := ⟨RX3, "drop", "(I)I"⟩
abbrev cX3_keep : ByteArray := prog_1_method_5_code
def yX3_keep : MethodName := ⟨RX3, "keep", "(II)I"⟩
abbrev cX3_at : ByteArray := prog_1_method_6_code
def yX3_at : MethodName := ⟨RX3, "at", "(II)I"⟩
abbrev cX3_cut : ByteArray := prog_1_method_7_code
def yX3_cut : MethodName := ⟨RX3, "cut", "(II)I"⟩
abbrev cX3_worst : ByteArray := prog_1_method_8_code
def yX3_worst : MethodName := ⟨RX3, "worst", "(I)I"⟩
abbrev cX3_promise : ByteArray := prog_1_method_9_code
def yX3_promise : MethodName := ⟨RX3, "promise", "(II)I"⟩
abbrev cX3_forests : ByteArray := prog_1_method_10_code
def yX3_forests : MethodName := ⟨RX3, "forests", "()I"⟩
abbrev cX3_peel : ByteArray := prog_1_method_11_code
def yX3_peel : MethodName := ⟨RX3, "peel", "(I)I"⟩
abbrev cX3_greedy : ByteArray := prog_1_method_12_code
def yX3_greedy : MethodName := ⟨RX3, "greedy", "(I)I"⟩
abbrev cX3_fewest : ByteArray := prog_1_method_13_code
def yX3_fewest : MethodName := ⟨RX3, "fewest", "(II)I"⟩
abbrev cX3_thin : ByteArray := prog_1_method_14_code
def yX3_thin : MethodName := ⟨RX3, "thin", "(I)I"⟩
abbrev cX3_far : ByteArray := prog_1_method_15_code
def yX3_far : MethodName := ⟨RX3, "far", "(III)I"⟩
abbrev cX3_stretch : ByteArray := prog_1_method_16_code
def yX3_stretch : MethodName := ⟨RX3, "stretch", "(I)I"⟩
abbrev cX3_trees : ByteArray := prog_1_method_17_code
def yX3_trees : MethodName := ⟨RX3, "trees", "(I)J"⟩
abbrev cX3_resistance : ByteArray := prog_1_method_18_code
def yX3_resistance : MethodName := ⟨RX3, "resistance", "(IIII)J"⟩
abbrev cX3_load : ByteArray := prog_1_method_19_code
def yX3_load : MethodName := ⟨RX3, "load", "(II)J"⟩
abbrev cX3_count : ByteArray := prog_1_method_20_code
def yX3_count : MethodName := ⟨RX3, "count", "(I)I"⟩
abbrev cX3_isWithin : ByteArray := prog_1_method_21_code
def yX3_isWithin : MethodName := ⟨RX3, "isWithin", "(III)Z"⟩
abbrev cX3_isIn : ByteArray := prog_1_method_22_code
def yX3_isIn : MethodName := ⟨RX3, "isIn", "(II)Z"⟩
abbrev cX3_isWay : ByteArray := prog_1_method_23_code
def yX3_isWay : MethodName := ⟨RX3, "isWay", "(I)Z"⟩
abbrev cX3_isNode : ByteArray := prog_1_method_24_code
def yX3_isNode : MethodName := ⟨RX3, "isNode", "(I)Z"⟩
abbrev cX3_isLine : ByteArray := prog_1_method_25_code
def yX3_isLine : MethodName := ⟨RX3, "isLine", "(I)Z"⟩
abbrev cX3_isSide : ByteArray := prog_1_method_26_code
def yX3_isSide : MethodName := ⟨RX3, "isSide", "(I)Z"⟩
abbrev cX3_allNodes : ByteArray := prog_1_method_27_code
def yX3_allNodes : MethodName := ⟨RX3, "allNodes", "()I"⟩
abbrev cX3_weightIn : ByteArray := prog_1_method_28_code
def yX3_weightIn : MethodName := ⟨RX3, "weightIn", "(II)I"⟩
abbrev cX3_weightTogether : ByteArray := prog_1_method_29_code
def yX3_weightTogether : MethodName := ⟨RX3, "weightTogether", "(I)I"⟩
abbrev cX3_weightAcross : ByteArray := prog_1_method_30_code
def yX3_weightAcross : MethodName := ⟨RX3, "weightAcross", "(II)I"⟩
abbrev cX3_linesOf : ByteArray := prog_1_method_31_code
def yX3_linesOf : MethodName := ⟨RX3, "linesOf", "(I)I"⟩
abbrev cX3_keepJust : ByteArray := prog_1_method_32_code
def yX3_keepJust : MethodName := ⟨RX3, "keepJust", "(I)I"⟩
abbrev cX3_peelForests : ByteArray := prog_1_method_33_code
def yX3_peelForests : MethodName := ⟨RX3, "peelForests", "()I"⟩
abbrev cX3_peelOne : ByteArray := prog_1_method_34_code
def yX3_peelOne : MethodName := ⟨RX3, "peelOne", "(I)I"⟩
abbrev cX3_measure : ByteArray := prog_1_method_35_code
def yX3_measure : MethodName := ⟨RX3, "measure", "(LFewLines$Lengths;I)V"⟩
abbrev cX3_measured : ByteArray := prog_1_method_36_code
def yX3_measured : MethodName := ⟨RX3, "measured", "(I)LFewLines$Lengths;"⟩
abbrev cX3_lengthBetweenEnds : ByteArray := prog_1_method_37_code
def yX3_lengthBetweenEnds : MethodName := ⟨RX3, "lengthBetweenEnds", "(I)I"⟩
abbrev cX3_forgetFewest : ByteArray := prog_1_method_38_code
def yX3_forgetFewest : MethodName := ⟨RX3, "forgetFewest", "()V"⟩
abbrev cX3_fewestSet : ByteArray := prog_1_method_39_code
def yX3_fewestSet : MethodName := ⟨RX3, "fewestSet", "(I)I"⟩
abbrev cX3_leastToJoin : ByteArray := prog_1_method_40_code
def yX3_leastToJoin : MethodName := ⟨RX3, "leastToJoin", "()I"⟩
abbrev cX3_fewestWithin : ByteArray := prog_1_method_41_code
def yX3_fewestWithin : MethodName := ⟨RX3, "fewestWithin", "(LFewLines;IIIII)I"⟩
abbrev cX3_isWithinStretch : ByteArray := prog_1_method_42_code
def yX3_isWithinStretch : MethodName := ⟨RX3, "isWithinStretch", "(II)Z"⟩
abbrev cX3_treeProducts : ByteArray := prog_1_method_43_code
def yX3_treeProducts : MethodName := ⟨RX3, "treeProducts", "(I)J"⟩
abbrev cX3_partingProducts : ByteArray := prog_1_method_44_code
def yX3_partingProducts : MethodName := ⟨RX3, "partingProducts", "(III)J"⟩
abbrev cX3_fillMinors : ByteArray := prog_1_method_45_code
def yX3_fillMinors : MethodName := ⟨RX3, "fillMinors", "(I)V"⟩
abbrev cX3_inLowestTerms : ByteArray := prog_1_method_46_code
def yX3_inLowestTerms : MethodName := ⟨RX3, "inLowestTerms", "(JJI)J"⟩
abbrev cX3_commonDivisor : ByteArray := prog_1_method_47_code
def yX3_commonDivisor : MethodName := ⟨RX3, "commonDivisor", "(JJ)J"⟩
def RX4 : String := "FewLinesModel"
def TX4 : u_T := fun k => match k with
  | 0 => ("FewLinesModel", "n", "I", false)
  | 1 => ("FewLinesModel", "lines", "I", false)
  | 2 => ("FewLinesModel", "as", "[I", true)
  | 3 => ("FewLinesModel", "bs", "[I", true)
  | 4 => ("FewLinesModel", "weight", "[I", true)
  | 5 => ("FewLinesModel", "kept", "[I", true)
  | 6 => ("FewLinesModel", "forest", "[I", true)
  | 7 => ("FewLinesModel", "part", "[I", true)
  | 8 => ("FewLinesModel", "whole", "[I", true)
  | 9 => ("FewLinesModel", "thin", "[I", true)
  | 10 => ("FewLinesModel", "up", "J", false)
  | _ => ("FewLinesModel", "low", "J", false)
def tyX4 : Nat → FieldType := fun k => match k with
  | 0 => .int
  | 1 => .int
  | 2 => .array .int
  | 3 => .array .int
  | 4 => .array .int
  | 5 => .array .int
  | 6 => .array .int
  | 7 => .array .int
  | 8 => .array .int
  | 9 => .array .int
  | 10 => .long
  | _ => .long
abbrev wsX40 : List Cond := u_ws RX4 TX4 12
theorem nmX4 : ∀ a, a < 12 → ∀ b, b < 12 → a ≠ b → (TX4 a).2.1 ≠ (TX4 b).2.1 := by decide +kernel
theorem tyX4_ok : ∀ k, k < 12 → parseFieldDescriptor (TX4 k).2.2.1 = some (tyX4 k) := by decide +kernel
abbrev cX4_init : ByteArray := prog_6_method_1_code
def yX4_init : MethodName := ⟨RX4, "<init>", "()V"⟩
abbrev cX4_in : ByteArray := prog_6_method_2_code
def yX4_in : MethodName := ⟨RX4, "in", "(III)Z"⟩
abbrev cX4_isNode : ByteArray := prog_6_method_3_code
def yX4_isNode : MethodName := ⟨RX4, "isNode", "(I)Z"⟩
abbrev cX4_isLine : ByteArray := prog_6_method_4_code
def yX4_isLine : MethodName := ⟨RX4, "isLine", "(I)Z"⟩
abbrev cX4_nodes : ByteArray := prog_6_method_5_code
def yX4_nodes : MethodName := ⟨RX4, "nodes", "(I)I"⟩
abbrev cX4_line : ByteArray := prog_6_method_6_code
def yX4_line : MethodName := ⟨RX4, "line", "(III)I"⟩
abbrev cX4_drop : ByteArray := prog_6_method_7_code
def yX4_drop : MethodName := ⟨RX4, "drop", "(I)I"⟩
abbrev cX4_keep : ByteArray := prog_6_method_8_code
def yX4_keep : MethodName := ⟨RX4, "keep", "(II)I"⟩
abbrev cX4_at : ByteArray := prog_6_method_9_code
def yX4_at : MethodName := ⟨RX4, "at", "(II)I"⟩
abbrev cX4_cutOf : ByteArray := prog_6_method_10_code
def yX4_cutOf : MethodName := ⟨RX4, "cutOf", "(II)I"⟩
abbrev cX4_isSide : ByteArray := prog_6_method_11_code
def yX4_isSide : MethodName := ⟨RX4, "isSide", "(I)Z"⟩
abbrev cX4_cut : ByteArray := prog_6_method_12_code
def yX4_cut : MethodName := ⟨RX4, "cut", "(II)I"⟩
abbrev cX4_worst : ByteArray := prog_6_method_13_code
def yX4_worst : MethodName := ⟨RX4, "worst", "(I)I"⟩
abbrev cX4_promise : ByteArray := prog_6_method_14_code
def yX4_promise : MethodName := ⟨RX4, "promise", "(II)I"⟩
abbrev cX4_apart : ByteArray := prog_6_method_15_code
def yX4_apart : MethodName := ⟨RX4, "apart", "()V"⟩
abbrev cX4_join : ByteArray := prog_6_method_16_code
def yX4_join : MethodName := ⟨RX4, "join", "(I)Z"⟩
abbrev cX4_findForests : ByteArray := prog_6_method_17_code
def yX4_findForests : MethodName := ⟨RX4, "findForests", "()I"⟩
abbrev cX4_forests : ByteArray := prog_6_method_18_code
def yX4_forests : MethodName := ⟨RX4, "forests", "()I"⟩
abbrev cX4_keptMany : ByteArray := prog_6_method_19_code
def yX4_keptMany : MethodName := ⟨RX4, "keptMany", "()I"⟩
abbrev cX4_peel : ByteArray := prog_6_method_20_code
def yX4_peel : MethodName := ⟨RX4, "peel", "(I)I"⟩
abbrev cX4_findFar : ByteArray := prog_6_method_21_code
def yX4_findFar : MethodName := ⟨RX4, "findFar", "(I[I)V"⟩
abbrev cX4_keptSet : ByteArray := prog_6_method_22_code
def yX4_keptSet : MethodName := ⟨RX4, "keptSet", "()I"⟩
abbrev cX4_greedy : ByteArray := prog_6_method_23_code
def yX4_greedy : MethodName := ⟨RX4, "greedy", "(I)I"⟩
abbrev cX4_many : ByteArray := prog_6_method_24_code
def yX4_many : MethodName := ⟨RX4, "many", "(I)I"⟩
abbrev cX4_isWithin : ByteArray := prog_6_method_25_code
def yX4_isWithin : MethodName := ⟨RX4, "isWithin", "(II)Z"⟩
abbrev cX4_fewestBy : ByteArray := prog_6_method_26_code
def yX4_fewestBy : MethodName := ⟨RX4, "fewestBy", "(I)I"⟩
abbrev cX4_fewest : ByteArray := prog_6_method_27_code
def yX4_fewest : MethodName := ⟨RX4, "fewest", "(II)I"⟩
abbrev cX4_thin : ByteArray := prog_6_method_28_code
def yX4_thin : MethodName := ⟨RX4, "thin", "(I)I"⟩
abbrev cX4_far : ByteArray := prog_6_method_29_code
def yX4_far : MethodName := ⟨RX4, "far", "(III)I"⟩
abbrev cX4_stretch : ByteArray := prog_6_method_30_code
def yX4_stretch : MethodName := ⟨RX4, "stretch", "(I)I"⟩
abbrev cX4_common : ByteArray := prog_6_method_31_code
def yX4_common : MethodName := ⟨RX4, "common", "(JJ)J"⟩
abbrev cX4_products : ByteArray := prog_6_method_32_code
def yX4_products : MethodName := ⟨RX4, "products", "(IIII)J"⟩
abbrev cX4_trees : ByteArray := prog_6_method_33_code
def yX4_trees : MethodName := ⟨RX4, "trees", "(I)J"⟩
abbrev cX4_hasResistance : ByteArray := prog_6_method_34_code
def yX4_hasResistance : MethodName := ⟨RX4, "hasResistance", "(IIIJ)Z"⟩
abbrev cX4_resistance : ByteArray := prog_6_method_35_code
def yX4_resistance : MethodName := ⟨RX4, "resistance", "(IIII)J"⟩
abbrev cX4_load : ByteArray := prog_6_method_36_code
def yX4_load : MethodName := ⟨RX4, "load", "(II)J"⟩
abbrev cX4_count : ByteArray := prog_6_method_37_code
def yX4_count : MethodName := ⟨RX4, "count", "(I)I"⟩
def RJ6 : String := "java/lang/Integer"
def TJ6 : u_T := fun k => match k with
  | _ => ("", "", "", false)
def tyJ6 : Nat → FieldType := fun k => match k with
  | _ => .int
abbrev wsJ60 : List Cond := u_ws RJ6 TJ6 0
theorem nmJ6 : ∀ a, a < 0 → ∀ b, b < 0 → a ≠ b → (TJ6 a).2.1 ≠ (TJ6 b).2.1 := by decide +kernel
theorem tyJ6_ok : ∀ k, k < 0 → parseFieldDescriptor (TJ6 k).2.2.1 = some (tyJ6 k) := by decide +kernel
abbrev cJ6_bitCount_0f7a4 : ByteArray := prog_7_method_49_code
def yJ6_bitCount_0f7a4 : MethodName := ⟨RJ6, "bitCount", "(I)I"⟩
def RJ9 : String := "java/lang/Math"
def TJ9 : u_T := fun k => match k with
  | _ => ("", "", "", false)
def tyJ9 : Nat → FieldType := fun k => match k with
  | _ => .int
abbrev wsJ90 : List Cond := u_ws RJ9 TJ9 0
theorem nmJ9 : ∀ a, a < 0 → ∀ b, b < 0 → a ≠ b → (TJ9 a).2.1 ≠ (TJ9 b).2.1 := by decide +kernel
theorem tyJ9_ok : ∀ k, k < 0 → parseFieldDescriptor (TJ9 k).2.2.1 = some (tyJ9 k) := by decide +kernel
abbrev cJ9_max_7cf53 : ByteArray := prog_8_method_65_code
def yJ9_max_7cf53 : MethodName := ⟨RJ9, "max", "(II)I"⟩
abbrev cJ9_min_7cf53 : ByteArray := prog_8_method_69_code
def yJ9_min_7cf53 : MethodName := ⟨RJ9, "min", "(II)I"⟩
def RJ7 : String := "java/util/Arrays"
def TJ7 : u_T := fun k => match k with
  | _ => ("", "", "", false)
def tyJ7 : Nat → FieldType := fun k => match k with
  | _ => .int
abbrev wsJ70 : List Cond := u_ws RJ7 TJ7 0
theorem nmJ7 : ∀ a, a < 0 → ∀ b, b < 0 → a ≠ b → (TJ7 a).2.1 ≠ (TJ7 b).2.1 := by decide +kernel
theorem tyJ7_ok : ∀ k, k < 0 → parseFieldDescriptor (TJ7 k).2.2.1 = some (tyJ7 k) := by decide +kernel
abbrev cJ7_fill_d0a16 : ByteArray := prog_9_method_101_code
def yJ7_fill_d0a16 : MethodName := ⟨RJ7, "fill", "([JJ)V"⟩
abbrev cJ7_fill_53178 : ByteArray := prog_9_method_103_code
def yJ7_fill_53178 : MethodName := ⟨RJ7, "fill", "([II)V"⟩
def RL : String := "FewLinesLaw"
abbrev cL_law : ByteArray := code
def yL_law : MethodName := ⟨RL, "law", "([I)Z"⟩
def wsX0_init : List Cond := .code yX0_init cX0_init 1 none :: ([.methodLink RX0 3 objectInit, .instanceMethod objectInit, .code objectInit ⟨#[0xb1]⟩ 1 none, .arrayClass .int, .fieldLink RX0 9 "FewLines$Lengths" "lengths" "[I", .fieldLink RX0 15 "FewLines$Lengths" "size" "I"] ++ wsX00)
def wsJ7_fill_53178 : List Cond := .code yJ7_fill_53178 cJ7_fill_53178 4 none :: ([])
def wsX0_clear : List Cond := .code yX0_clear cX0_clear 3 none :: ([.methodLink RX0 19 Lib.Math.min.name, .static Lib.Math.min.name, .initialized "java/lang/Math", .code Lib.Math.min.name Lib.Math.min.code 2 (some .int), .fieldLink RX0 15 "FewLines$Lengths" "size" "I", .fieldLink RX0 9 "FewLines$Lengths" "lengths" "[I", .constant RX0 25 (1000000), .methodLink RX0 26 yJ7_fill_53178, .static yJ7_fill_53178, .initialized RJ7, .code yJ7_fill_53178 cJ7_fill_53178 4 none] ++ wsX00)
def wsX0_between : List Cond := .code yX0_between cX0_between 3 (some .int) :: ([.fieldLink RX0 9 "FewLines$Lengths" "lengths" "[I"] ++ wsX00)
def wsX0_add : List Cond := .code yX0_add cX0_add 11 none :: ([.fieldLink RX0 15 "FewLines$Lengths" "size" "I", .fieldLink RX0 9 "FewLines$Lengths" "lengths" "[I", .methodLink RX0 19 Lib.Math.min.name, .static Lib.Math.min.name, .initialized "java/lang/Math", .code Lib.Math.min.name Lib.Math.min.code 2 (some .int), .methodLink RX0 32 yX0_between, .instanceMethod yX0_between, .selects RX0 yX0_between yX0_between, .initialized RX0, .code yX0_between cX0_between 3 (some .int)] ++ wsX00)
def wsX1_init : List Cond := .code yX1_init cX1_init 1 none :: ([.methodLink RX1 3 objectInit, .instanceMethod objectInit, .code objectInit ⟨#[0xb1]⟩ 1 none, .arrayClass .long, .fieldLink RX1 9 "FewLines$Minors" "matrix" "[J", .arrayClass .int, .fieldLink RX1 15 "FewLines$Minors" "chosen" "[I", .fieldLink RX1 19 "FewLines$Minors" "minorOf" "[J", .fieldLink RX1 22 "FewLines$Minors" "size" "I"] ++ wsX10)
def wsJ7_fill_d0a16 : List Cond := .code yJ7_fill_d0a16 cJ7_fill_d0a16 5 none :: ([])
def wsX1_clear : List Cond := .code yX1_clear cX1_clear 2 none :: ([.methodLink RX1 26 Lib.Math.min.name, .static Lib.Math.min.name, .initialized "java/lang/Math", .code Lib.Math.min.name Lib.Math.min.code 2 (some .int), .fieldLink RX1 22 "FewLines$Minors" "size" "I", .fieldLink RX1 9 "FewLines$Minors" "matrix" "[J", .methodLink RX1 32 yJ7_fill_d0a16, .static yJ7_fill_d0a16, .initialized RJ7, .code yJ7_fill_d0a16 cJ7_fill_d0a16 5 none] ++ wsX10)
def wsX1_add : List Cond := .code yX1_add cX1_add 4 none :: ([.fieldLink RX1 9 "FewLines$Minors" "matrix" "[J"] ++ wsX10)
def wsX3_isIn : List Cond := .code yX3_isIn cX3_isIn 2 (some .boolean) :: ([])
def wsX1_choose : List Cond := .code yX1_choose cX1_choose 4 (some .int) :: ([.fieldLink RX1 22 "FewLines$Minors" "size" "I", .fieldLink RX1 15 "FewLines$Minors" "chosen" "[I", .static yX3_isIn, .initialized RX3, .code yX3_isIn cX3_isIn 2 (some .boolean)] ++ wsX10)
def wsJ6_bitCount_0f7a4 : List Cond := .code yJ6_bitCount_0f7a4 cJ6_bitCount_0f7a4 1 (some .int) :: ([.constant RJ6 265 (1431655765), .constant RJ6 266 (858993459), .constant RJ6 267 (252645135)])
def wsX1_alongLastRow : List Cond := .code yX1_alongLastRow cX1_alongLastRow 9 (some .long) :: ([.fieldLink RX1 15 "FewLines$Minors" "chosen" "[I", .fieldLink RX1 9 "FewLines$Minors" "matrix" "[J", .fieldLink RX1 19 "FewLines$Minors" "minorOf" "[J", .methodLink RX1 50 yJ6_bitCount_0f7a4, .static yJ6_bitCount_0f7a4, .initialized RJ6, .code yJ6_bitCount_0f7a4 cJ6_bitCount_0f7a4 1 (some .int), .constant RJ6 265 (1431655765), .constant RJ6 266 (858993459), .constant RJ6 267 (252645135), .static yX3_isIn, .initialized RX3, .code yX3_isIn cX3_isIn 2 (some .boolean)] ++ wsX10)
def wsX1_without : List Cond := .code yX1_without cX1_without 5 (some .long) :: ([.fieldLink RX1 19 "FewLines$Minors" "minorOf" "[J", .methodLink RX1 38 yX1_choose, .instanceMethod yX1_choose, .selects RX1 yX1_choose yX1_choose, .initialized RX1, .code yX1_choose cX1_choose 4 (some .int), .fieldLink RX1 22 "FewLines$Minors" "size" "I", .fieldLink RX1 15 "FewLines$Minors" "chosen" "[I", .static yX3_isIn, .initialized RX3, .code yX3_isIn cX3_isIn 2 (some .boolean), .methodLink RX1 42 yX1_alongLastRow, .instanceMethod yX1_alongLastRow, .selects RX1 yX1_alongLastRow yX1_alongLastRow, .code yX1_alongLastRow cX1_alongLastRow 9 (some .long), .fieldLink RX1 9 "FewLines$Minors" "matrix" "[J", .methodLink RX1 50 yJ6_bitCount_0f7a4, .static yJ6_bitCount_0f7a4, .initialized RJ6, .code yJ6_bitCount_0f7a4 cJ6_bitCount_0f7a4 1 (some .int), .constant RJ6 265 (1431655765), .constant RJ6 266 (858993459), .constant RJ6 267 (252645135)] ++ wsX10)
def wsX2_init : List Cond := .code yX2_init cX2_init 1 none :: ([.methodLink RX2 3 objectInit, .instanceMethod objectInit, .code objectInit ⟨#[0xb1]⟩ 1 none, .arrayClass .int, .fieldLink RX2 9 "FewLines$Parts" "partOf" "[I"] ++ wsX20)
def wsX2_clear : List Cond := .code yX2_clear cX2_clear 2 none :: ([.fieldLink RX2 9 "FewLines$Parts" "partOf" "[I"] ++ wsX20)
def wsX2_join : List Cond := .code yX2_join cX2_join 6 (some .boolean) :: ([.fieldLink RX2 9 "FewLines$Parts" "partOf" "[I"] ++ wsX20)
def wsX3_forgetFewest : List Cond := .code yX3_forgetFewest cX3_forgetFewest 1 none :: ([.fieldLink RX3 56 "FewLines" "fewestSets" "[I", .methodLink RX3 158 yJ7_fill_53178, .static yJ7_fill_53178, .initialized RJ7, .code yJ7_fill_53178 cJ7_fill_53178 4 none] ++ wsX30)
def wsX3_init_r1 : List Cond := [Cond.methodLink RX3 1 objectInit, Cond.instanceMethod objectInit, Cond.code objectInit ⟨#[0xb1]⟩ 1 none, Cond.fieldLink RX3 9 "FewLines" "nodeCount" "I", Cond.fieldLink RX3 13 "FewLines" "lineCount" "I", Cond.arrayClass .int, Cond.fieldLink RX3 16 "FewLines" "lesserEnd" "[I", Cond.fieldLink RX3 20 "FewLines" "greaterEnd" "[I", Cond.fieldLink RX3 23 "FewLines" "weightOf" "[I", Cond.fieldLink RX3 26 "FewLines" "keptOf" "[I", Cond.fieldLink RX3 29 "FewLines" "forestOf" "[I", Cond.classLink RX3 32 RX2, Cond.instantiable RX2 1, Cond.initialized RX2, Cond.fieldLink RX3 35 "FewLines" "parts" "LFewLines$Parts;", Cond.classLink RX3 39 RX0, Cond.instantiable RX0 2, Cond.initialized RX0, Cond.fieldLink RX3 42 "FewLines" "netLengths" "LFewLines$Lengths;", Cond.fieldLink RX3 46 "FewLines" "thinLengths" "LFewLines$Lengths;", Cond.classLink RX3 49 RX1, Cond.instantiable RX1 4, Cond.initialized RX1, Cond.fieldLink RX3 52 "FewLines" "minors" "LFewLines$Minors;"]
def wsX3_init_r2 : List Cond := [Cond.fieldLink RX3 56 "FewLines" "fewestSets" "[I", Cond.methodLink RX3 34 yX2_init, Cond.instanceMethod yX2_init, Cond.code yX2_init cX2_init 1 none, Cond.methodLink RX2 3 objectInit, Cond.fieldLink RX2 9 "FewLines$Parts" "partOf" "[I", Cond.methodLink RX3 41 yX0_init, Cond.instanceMethod yX0_init, Cond.code yX0_init cX0_init 1 none, Cond.methodLink RX0 3 objectInit, Cond.fieldLink RX0 9 "FewLines$Lengths" "lengths" "[I", Cond.fieldLink RX0 15 "FewLines$Lengths" "size" "I", Cond.methodLink RX3 51 yX1_init, Cond.instanceMethod yX1_init, Cond.code yX1_init cX1_init 1 none, Cond.methodLink RX1 3 objectInit, Cond.arrayClass .long, Cond.fieldLink RX1 9 "FewLines$Minors" "matrix" "[J", Cond.fieldLink RX1 15 "FewLines$Minors" "chosen" "[I", Cond.fieldLink RX1 19 "FewLines$Minors" "minorOf" "[J", Cond.fieldLink RX1 22 "FewLines$Minors" "size" "I", Cond.methodLink RX3 59 yX3_forgetFewest, Cond.instanceMethod yX3_forgetFewest, Cond.selects RX3 yX3_forgetFewest yX3_forgetFewest]
def wsX3_init_r3 : List Cond := [Cond.initialized RX3, Cond.code yX3_forgetFewest cX3_forgetFewest 1 none, Cond.methodLink RX3 158 yJ7_fill_53178, Cond.static yJ7_fill_53178, Cond.initialized RJ7, Cond.code yJ7_fill_53178 cJ7_fill_53178 4 none]
def wsX3_init : List Cond := .code yX3_init cX3_init 1 none :: ((wsX3_init_r1 ++ (wsX3_init_r2 ++ wsX3_init_r3)) ++ wsX30 ++ wsX20 ++ wsX00 ++ wsX10)
def wsX3_isWithin : List Cond := .code yX3_isWithin cX3_isWithin 3 (some .boolean) :: ([])
def wsX3_nodes : List Cond := .code yX3_nodes cX3_nodes 2 (some .int) :: ([.fieldLink RX3 9 "FewLines" "nodeCount" "I", .fieldLink RX3 13 "FewLines" "lineCount" "I", .methodLink RX3 62 yX3_isWithin, .static yX3_isWithin, .initialized RX3, .code yX3_isWithin cX3_isWithin 3 (some .boolean), .methodLink RX3 59 yX3_forgetFewest, .instanceMethod yX3_forgetFewest, .selects RX3 yX3_forgetFewest yX3_forgetFewest, .code yX3_forgetFewest cX3_forgetFewest 1 none, .fieldLink RX3 56 "FewLines" "fewestSets" "[I", .methodLink RX3 158 yJ7_fill_53178, .static yJ7_fill_53178, .initialized RJ7, .code yJ7_fill_53178 cJ7_fill_53178 4 none] ++ wsX30)
def wsX3_isNode : List Cond := .code yX3_isNode cX3_isNode 2 (some .boolean) :: ([.fieldLink RX3 9 "FewLines" "nodeCount" "I"] ++ wsX30)
def wsX3_line_r1 : List Cond := [Cond.fieldLink RX3 13 "FewLines" "lineCount" "I", Cond.fieldLink RX3 16 "FewLines" "lesserEnd" "[I", Cond.methodLink RX3 70 Lib.Math.min.name, Cond.static Lib.Math.min.name, Cond.initialized "java/lang/Math", Cond.code Lib.Math.min.name Lib.Math.min.code 2 (some .int), Cond.fieldLink RX3 20 "FewLines" "greaterEnd" "[I", Cond.methodLink RX3 76 Lib.Math.max.name, Cond.static Lib.Math.max.name, Cond.code Lib.Math.max.name Lib.Math.max.code 2 (some .int), Cond.fieldLink RX3 23 "FewLines" "weightOf" "[I", Cond.fieldLink RX3 26 "FewLines" "keptOf" "[I", Cond.methodLink RX3 66 yX3_isNode, Cond.instanceMethod yX3_isNode, Cond.selects RX3 yX3_isNode yX3_isNode, Cond.initialized RX3, Cond.code yX3_isNode cX3_isNode 2 (some .boolean), Cond.fieldLink RX3 9 "FewLines" "nodeCount" "I", Cond.methodLink RX3 62 yX3_isWithin, Cond.static yX3_isWithin, Cond.code yX3_isWithin cX3_isWithin 3 (some .boolean), Cond.methodLink RX3 59 yX3_forgetFewest, Cond.instanceMethod yX3_forgetFewest, Cond.selects RX3 yX3_forgetFewest yX3_forgetFewest]
def wsX3_line_r2 : List Cond := [Cond.code yX3_forgetFewest cX3_forgetFewest 1 none, Cond.fieldLink RX3 56 "FewLines" "fewestSets" "[I", Cond.methodLink RX3 158 yJ7_fill_53178, Cond.static yJ7_fill_53178, Cond.initialized RJ7, Cond.code yJ7_fill_53178 cJ7_fill_53178 4 none]
def wsX3_line : List Cond := .code yX3_line cX3_line 5 (some .int) :: ((wsX3_line_r1 ++ wsX3_line_r2) ++ wsX30)
def wsX3_isLine : List Cond := .code yX3_isLine cX3_isLine 2 (some .boolean) :: ([.fieldLink RX3 13 "FewLines" "lineCount" "I"] ++ wsX30)
def wsX3_drop : List Cond := .code yX3_drop cX3_drop 3 (some .int) :: ([.fieldLink RX3 13 "FewLines" "lineCount" "I", .fieldLink RX3 16 "FewLines" "lesserEnd" "[I", .fieldLink RX3 20 "FewLines" "greaterEnd" "[I", .fieldLink RX3 23 "FewLines" "weightOf" "[I", .fieldLink RX3 26 "FewLines" "keptOf" "[I", .methodLink RX3 79 yX3_isLine, .instanceMethod yX3_isLine, .selects RX3 yX3_isLine yX3_isLine, .initialized RX3, .code yX3_isLine cX3_isLine 2 (some .boolean), .methodLink RX3 59 yX3_forgetFewest, .instanceMethod yX3_forgetFewest, .selects RX3 yX3_forgetFewest yX3_forgetFewest, .code yX3_forgetFewest cX3_forgetFewest 1 none, .fieldLink RX3 56 "FewLines" "fewestSets" "[I", .methodLink RX3 158 yJ7_fill_53178, .static yJ7_fill_53178, .initialized RJ7, .code yJ7_fill_53178 cJ7_fill_53178 4 none] ++ wsX30)
def wsX3_keep : List Cond := .code yX3_keep cX3_keep 4 (some .int) :: ([.fieldLink RX3 26 "FewLines" "keptOf" "[I", .methodLink RX3 79 yX3_isLine, .instanceMethod yX3_isLine, .selects RX3 yX3_isLine yX3_isLine, .initialized RX3, .code yX3_isLine cX3_isLine 2 (some .boolean), .fieldLink RX3 13 "FewLines" "lineCount" "I", .methodLink RX3 62 yX3_isWithin, .static yX3_isWithin, .code yX3_isWithin cX3_isWithin 3 (some .boolean)] ++ wsX30)
def wsX3_peelOne : List Cond := .code yX3_peelOne cX3_peelOne 4 (some .int) :: ([.fieldLink RX3 35 "FewLines" "parts" "LFewLines$Parts;", .fieldLink RX3 13 "FewLines" "lineCount" "I", .fieldLink RX3 29 "FewLines" "forestOf" "[I", .fieldLink RX3 16 "FewLines" "lesserEnd" "[I", .fieldLink RX3 20 "FewLines" "greaterEnd" "[I", .methodLink RX3 167 yX2_clear, .instanceMethod yX2_clear, .selects RX2 yX2_clear yX2_clear, .initialized RX2, .code yX2_clear cX2_clear 2 none, .fieldLink RX2 9 "FewLines$Parts" "partOf" "[I", .methodLink RX3 169 yX2_join, .instanceMethod yX2_join, .selects RX2 yX2_join yX2_join, .code yX2_join cX2_join 6 (some .boolean)] ++ wsX30 ++ wsX20)
def wsX3_peelForests : List Cond := .code yX3_peelForests cX3_peelForests 3 (some .int) :: ([.fieldLink RX3 29 "FewLines" "forestOf" "[I", .fieldLink RX3 13 "FewLines" "lineCount" "I", .methodLink RX3 158 yJ7_fill_53178, .static yJ7_fill_53178, .initialized RJ7, .code yJ7_fill_53178 cJ7_fill_53178 4 none, .methodLink RX3 164 yX3_peelOne, .instanceMethod yX3_peelOne, .selects RX3 yX3_peelOne yX3_peelOne, .initialized RX3, .code yX3_peelOne cX3_peelOne 4 (some .int), .fieldLink RX3 35 "FewLines" "parts" "LFewLines$Parts;", .fieldLink RX3 16 "FewLines" "lesserEnd" "[I", .fieldLink RX3 20 "FewLines" "greaterEnd" "[I", .methodLink RX3 167 yX2_clear, .instanceMethod yX2_clear, .selects RX2 yX2_clear yX2_clear, .initialized RX2, .code yX2_clear cX2_clear 2 none, .fieldLink RX2 9 "FewLines$Parts" "partOf" "[I", .methodLink RX3 169 yX2_join, .instanceMethod yX2_join, .selects RX2 yX2_join yX2_join, .code yX2_join cX2_join 6 (some .boolean)] ++ wsX30 ++ wsX20)
def wsX3_at_r1 : List Cond := [Cond.fieldLink RX3 16 "FewLines" "lesserEnd" "[I", Cond.fieldLink RX3 20 "FewLines" "greaterEnd" "[I", Cond.fieldLink RX3 23 "FewLines" "weightOf" "[I", Cond.fieldLink RX3 26 "FewLines" "keptOf" "[I", Cond.fieldLink RX3 29 "FewLines" "forestOf" "[I", Cond.methodLink RX3 79 yX3_isLine, Cond.instanceMethod yX3_isLine, Cond.selects RX3 yX3_isLine yX3_isLine, Cond.initialized RX3, Cond.code yX3_isLine cX3_isLine 2 (some .boolean), Cond.fieldLink RX3 13 "FewLines" "lineCount" "I", Cond.methodLink RX3 82 yX3_peelForests, Cond.instanceMethod yX3_peelForests, Cond.selects RX3 yX3_peelForests yX3_peelForests, Cond.code yX3_peelForests cX3_peelForests 3 (some .int), Cond.methodLink RX3 158 yJ7_fill_53178, Cond.static yJ7_fill_53178, Cond.initialized RJ7, Cond.code yJ7_fill_53178 cJ7_fill_53178 4 none, Cond.methodLink RX3 164 yX3_peelOne, Cond.instanceMethod yX3_peelOne, Cond.selects RX3 yX3_peelOne yX3_peelOne, Cond.code yX3_peelOne cX3_peelOne 4 (some .int), Cond.fieldLink RX3 35 "FewLines" "parts" "LFewLines$Parts;"]
def wsX3_at_r2 : List Cond := [Cond.methodLink RX3 167 yX2_clear, Cond.instanceMethod yX2_clear, Cond.selects RX2 yX2_clear yX2_clear, Cond.initialized RX2, Cond.code yX2_clear cX2_clear 2 none, Cond.fieldLink RX2 9 "FewLines$Parts" "partOf" "[I", Cond.methodLink RX3 169 yX2_join, Cond.instanceMethod yX2_join, Cond.selects RX2 yX2_join yX2_join, Cond.code yX2_join cX2_join 6 (some .boolean)]
def wsX3_at : List Cond := .code yX3_at cX3_at 3 (some .int) :: ((wsX3_at_r1 ++ wsX3_at_r2) ++ wsX30 ++ wsX20)
def wsX3_allNodes : List Cond := .code yX3_allNodes cX3_allNodes 1 (some .int) :: ([.fieldLink RX3 9 "FewLines" "nodeCount" "I"] ++ wsX30)
def wsX3_isSide : List Cond := .code yX3_isSide cX3_isSide 2 (some .boolean) :: ([.methodLink RX3 95 yX3_allNodes, .instanceMethod yX3_allNodes, .selects RX3 yX3_allNodes yX3_allNodes, .initialized RX3, .code yX3_allNodes cX3_allNodes 1 (some .int), .fieldLink RX3 9 "FewLines" "nodeCount" "I"] ++ wsX30)
def wsX3_isWay : List Cond := .code yX3_isWay cX3_isWay 1 (some .boolean) :: ([])
def wsX3_weightIn : List Cond := .code yX3_weightIn cX3_weightIn 3 (some .int) :: ([.fieldLink RX3 23 "FewLines" "weightOf" "[I", .fieldLink RX3 26 "FewLines" "keptOf" "[I"] ++ wsX30)
def wsX3_weightAcross : List Cond := .code yX3_weightAcross cX3_weightAcross 5 (some .int) :: ([.fieldLink RX3 13 "FewLines" "lineCount" "I", .fieldLink RX3 16 "FewLines" "lesserEnd" "[I", .fieldLink RX3 20 "FewLines" "greaterEnd" "[I", .methodLink RX3 154 yX3_isIn, .static yX3_isIn, .initialized RX3, .code yX3_isIn cX3_isIn 2 (some .boolean), .methodLink RX3 151 yX3_weightIn, .instanceMethod yX3_weightIn, .selects RX3 yX3_weightIn yX3_weightIn, .code yX3_weightIn cX3_weightIn 3 (some .int), .fieldLink RX3 23 "FewLines" "weightOf" "[I", .fieldLink RX3 26 "FewLines" "keptOf" "[I"] ++ wsX30)
def wsX3_cut_r1 : List Cond := [Cond.methodLink RX3 86 yX3_isSide, Cond.instanceMethod yX3_isSide, Cond.selects RX3 yX3_isSide yX3_isSide, Cond.initialized RX3, Cond.code yX3_isSide cX3_isSide 2 (some .boolean), Cond.methodLink RX3 95 yX3_allNodes, Cond.instanceMethod yX3_allNodes, Cond.selects RX3 yX3_allNodes yX3_allNodes, Cond.code yX3_allNodes cX3_allNodes 1 (some .int), Cond.fieldLink RX3 9 "FewLines" "nodeCount" "I", Cond.methodLink RX3 89 yX3_isWay, Cond.static yX3_isWay, Cond.code yX3_isWay cX3_isWay 1 (some .boolean), Cond.methodLink RX3 92 yX3_weightAcross, Cond.instanceMethod yX3_weightAcross, Cond.selects RX3 yX3_weightAcross yX3_weightAcross, Cond.code yX3_weightAcross cX3_weightAcross 5 (some .int), Cond.fieldLink RX3 13 "FewLines" "lineCount" "I", Cond.fieldLink RX3 16 "FewLines" "lesserEnd" "[I", Cond.fieldLink RX3 20 "FewLines" "greaterEnd" "[I", Cond.methodLink RX3 154 yX3_isIn, Cond.static yX3_isIn, Cond.code yX3_isIn cX3_isIn 2 (some .boolean), Cond.methodLink RX3 151 yX3_weightIn]
def wsX3_cut_r2 : List Cond := [Cond.instanceMethod yX3_weightIn, Cond.selects RX3 yX3_weightIn yX3_weightIn, Cond.code yX3_weightIn cX3_weightIn 3 (some .int), Cond.fieldLink RX3 23 "FewLines" "weightOf" "[I", Cond.fieldLink RX3 26 "FewLines" "keptOf" "[I"]
def wsX3_cut : List Cond := .code yX3_cut cX3_cut 3 (some .int) :: ((wsX3_cut_r1 ++ wsX3_cut_r2) ++ wsX30)
def wsX3_worst_r1 : List Cond := [Cond.methodLink RX3 62 yX3_isWithin, Cond.static yX3_isWithin, Cond.initialized RX3, Cond.code yX3_isWithin cX3_isWithin 3 (some .boolean), Cond.methodLink RX3 95 yX3_allNodes, Cond.instanceMethod yX3_allNodes, Cond.selects RX3 yX3_allNodes yX3_allNodes, Cond.code yX3_allNodes cX3_allNodes 1 (some .int), Cond.fieldLink RX3 9 "FewLines" "nodeCount" "I", Cond.methodLink RX3 92 yX3_weightAcross, Cond.instanceMethod yX3_weightAcross, Cond.selects RX3 yX3_weightAcross yX3_weightAcross, Cond.code yX3_weightAcross cX3_weightAcross 5 (some .int), Cond.fieldLink RX3 13 "FewLines" "lineCount" "I", Cond.fieldLink RX3 16 "FewLines" "lesserEnd" "[I", Cond.fieldLink RX3 20 "FewLines" "greaterEnd" "[I", Cond.methodLink RX3 154 yX3_isIn, Cond.static yX3_isIn, Cond.code yX3_isIn cX3_isIn 2 (some .boolean), Cond.methodLink RX3 151 yX3_weightIn, Cond.instanceMethod yX3_weightIn, Cond.selects RX3 yX3_weightIn yX3_weightIn, Cond.code yX3_weightIn cX3_weightIn 3 (some .int), Cond.fieldLink RX3 23 "FewLines" "weightOf" "[I"]
def wsX3_worst_r2 : List Cond := [Cond.fieldLink RX3 26 "FewLines" "keptOf" "[I"]
def wsX3_worst : List Cond := .code yX3_worst cX3_worst 10 (some .int) :: ((wsX3_worst_r1 ++ wsX3_worst_r2) ++ wsX30)
def wsX3_promise_r1 : List Cond := [Cond.methodLink RX3 62 yX3_isWithin, Cond.static yX3_isWithin, Cond.initialized RX3, Cond.code yX3_isWithin cX3_isWithin 3 (some .boolean), Cond.methodLink RX3 95 yX3_allNodes, Cond.instanceMethod yX3_allNodes, Cond.selects RX3 yX3_allNodes yX3_allNodes, Cond.code yX3_allNodes cX3_allNodes 1 (some .int), Cond.fieldLink RX3 9 "FewLines" "nodeCount" "I", Cond.methodLink RX3 92 yX3_weightAcross, Cond.instanceMethod yX3_weightAcross, Cond.selects RX3 yX3_weightAcross yX3_weightAcross, Cond.code yX3_weightAcross cX3_weightAcross 5 (some .int), Cond.fieldLink RX3 13 "FewLines" "lineCount" "I", Cond.fieldLink RX3 16 "FewLines" "lesserEnd" "[I", Cond.fieldLink RX3 20 "FewLines" "greaterEnd" "[I", Cond.methodLink RX3 154 yX3_isIn, Cond.static yX3_isIn, Cond.code yX3_isIn cX3_isIn 2 (some .boolean), Cond.methodLink RX3 151 yX3_weightIn, Cond.instanceMethod yX3_weightIn, Cond.selects RX3 yX3_weightIn yX3_weightIn, Cond.code yX3_weightIn cX3_weightIn 3 (some .int), Cond.fieldLink RX3 23 "FewLines" "weightOf" "[I"]
def wsX3_promise_r2 : List Cond := [Cond.fieldLink RX3 26 "FewLines" "keptOf" "[I"]
def wsX3_promise : List Cond := .code yX3_promise cX3_promise 6 (some .int) :: ((wsX3_promise_r1 ++ wsX3_promise_r2) ++ wsX30)
def wsX3_forests_r1 : List Cond := [Cond.methodLink RX3 82 yX3_peelForests, Cond.instanceMethod yX3_peelForests, Cond.selects RX3 yX3_peelForests yX3_peelForests, Cond.initialized RX3, Cond.code yX3_peelForests cX3_peelForests 3 (some .int), Cond.fieldLink RX3 29 "FewLines" "forestOf" "[I", Cond.fieldLink RX3 13 "FewLines" "lineCount" "I", Cond.methodLink RX3 158 yJ7_fill_53178, Cond.static yJ7_fill_53178, Cond.initialized RJ7, Cond.code yJ7_fill_53178 cJ7_fill_53178 4 none, Cond.methodLink RX3 164 yX3_peelOne, Cond.instanceMethod yX3_peelOne, Cond.selects RX3 yX3_peelOne yX3_peelOne, Cond.code yX3_peelOne cX3_peelOne 4 (some .int), Cond.fieldLink RX3 35 "FewLines" "parts" "LFewLines$Parts;", Cond.fieldLink RX3 16 "FewLines" "lesserEnd" "[I", Cond.fieldLink RX3 20 "FewLines" "greaterEnd" "[I", Cond.methodLink RX3 167 yX2_clear, Cond.instanceMethod yX2_clear, Cond.selects RX2 yX2_clear yX2_clear, Cond.initialized RX2, Cond.code yX2_clear cX2_clear 2 none, Cond.fieldLink RX2 9 "FewLines$Parts" "partOf" "[I"]
def wsX3_forests_r2 : List Cond := [Cond.methodLink RX3 169 yX2_join, Cond.instanceMethod yX2_join, Cond.selects RX2 yX2_join yX2_join, Cond.code yX2_join cX2_join 6 (some .boolean)]
def wsX3_forests : List Cond := .code yX3_forests cX3_forests 1 (some .int) :: ((wsX3_forests_r1 ++ wsX3_forests_r2) ++ wsX30 ++ wsX20)
def wsX3_keepJust : List Cond := .code yX3_keepJust cX3_keepJust 3 (some .int) :: ([.fieldLink RX3 13 "FewLines" "lineCount" "I", .fieldLink RX3 26 "FewLines" "keptOf" "[I", .fieldLink RX3 23 "FewLines" "weightOf" "[I", .methodLink RX3 154 yX3_isIn, .static yX3_isIn, .initialized RX3, .code yX3_isIn cX3_isIn 2 (some .boolean), .methodLink RX3 116 yJ6_bitCount_0f7a4, .static yJ6_bitCount_0f7a4, .initialized RJ6, .code yJ6_bitCount_0f7a4 cJ6_bitCount_0f7a4 1 (some .int), .constant RJ6 265 (1431655765), .constant RJ6 266 (858993459), .constant RJ6 267 (252645135)] ++ wsX30)
def wsX3_peel_r1 : List Cond := [Cond.fieldLink RX3 13 "FewLines" "lineCount" "I", Cond.fieldLink RX3 29 "FewLines" "forestOf" "[I", Cond.methodLink RX3 62 yX3_isWithin, Cond.static yX3_isWithin, Cond.initialized RX3, Cond.code yX3_isWithin cX3_isWithin 3 (some .boolean), Cond.methodLink RX3 82 yX3_peelForests, Cond.instanceMethod yX3_peelForests, Cond.selects RX3 yX3_peelForests yX3_peelForests, Cond.code yX3_peelForests cX3_peelForests 3 (some .int), Cond.methodLink RX3 158 yJ7_fill_53178, Cond.static yJ7_fill_53178, Cond.initialized RJ7, Cond.code yJ7_fill_53178 cJ7_fill_53178 4 none, Cond.methodLink RX3 164 yX3_peelOne, Cond.instanceMethod yX3_peelOne, Cond.selects RX3 yX3_peelOne yX3_peelOne, Cond.code yX3_peelOne cX3_peelOne 4 (some .int), Cond.fieldLink RX3 35 "FewLines" "parts" "LFewLines$Parts;", Cond.fieldLink RX3 16 "FewLines" "lesserEnd" "[I", Cond.fieldLink RX3 20 "FewLines" "greaterEnd" "[I", Cond.methodLink RX3 167 yX2_clear, Cond.instanceMethod yX2_clear, Cond.selects RX2 yX2_clear yX2_clear]
def wsX3_peel_r2 : List Cond := [Cond.initialized RX2, Cond.code yX2_clear cX2_clear 2 none, Cond.fieldLink RX2 9 "FewLines$Parts" "partOf" "[I", Cond.methodLink RX3 169 yX2_join, Cond.instanceMethod yX2_join, Cond.selects RX2 yX2_join yX2_join, Cond.code yX2_join cX2_join 6 (some .boolean), Cond.methodLink RX3 98 yX3_keepJust, Cond.instanceMethod yX3_keepJust, Cond.selects RX3 yX3_keepJust yX3_keepJust, Cond.code yX3_keepJust cX3_keepJust 3 (some .int), Cond.fieldLink RX3 26 "FewLines" "keptOf" "[I", Cond.fieldLink RX3 23 "FewLines" "weightOf" "[I", Cond.methodLink RX3 154 yX3_isIn, Cond.static yX3_isIn, Cond.code yX3_isIn cX3_isIn 2 (some .boolean), Cond.methodLink RX3 116 yJ6_bitCount_0f7a4, Cond.static yJ6_bitCount_0f7a4, Cond.initialized RJ6, Cond.code yJ6_bitCount_0f7a4 cJ6_bitCount_0f7a4 1 (some .int), Cond.constant RJ6 265 (1431655765), Cond.constant RJ6 266 (858993459), Cond.constant RJ6 267 (252645135)]
def wsX3_peel : List Cond := .code yX3_peel cX3_peel 4 (some .int) :: ((wsX3_peel_r1 ++ wsX3_peel_r2) ++ wsX30 ++ wsX20)
def wsX3_lengthBetweenEnds : List Cond := .code yX3_lengthBetweenEnds cX3_lengthBetweenEnds 2 (some .int) :: ([.fieldLink RX3 46 "FewLines" "thinLengths" "LFewLines$Lengths;", .fieldLink RX3 16 "FewLines" "lesserEnd" "[I", .fieldLink RX3 20 "FewLines" "greaterEnd" "[I", .methodLink RX3 125 yX0_between, .instanceMethod yX0_between, .selects RX0 yX0_between yX0_between, .initialized RX0, .code yX0_between cX0_between 3 (some .int), .fieldLink RX0 9 "FewLines$Lengths" "lengths" "[I"] ++ wsX30 ++ wsX00)
def wsX3_greedy_r1 : List Cond := [Cond.fieldLink RX3 46 "FewLines" "thinLengths" "LFewLines$Lengths;", Cond.fieldLink RX3 9 "FewLines" "nodeCount" "I", Cond.fieldLink RX3 13 "FewLines" "lineCount" "I", Cond.fieldLink RX3 23 "FewLines" "weightOf" "[I", Cond.fieldLink RX3 16 "FewLines" "lesserEnd" "[I", Cond.fieldLink RX3 20 "FewLines" "greaterEnd" "[I", Cond.methodLink RX3 62 yX3_isWithin, Cond.static yX3_isWithin, Cond.initialized RX3, Cond.code yX3_isWithin cX3_isWithin 3 (some .boolean), Cond.methodLink RX3 102 yX0_clear, Cond.instanceMethod yX0_clear, Cond.selects RX0 yX0_clear yX0_clear, Cond.initialized RX0, Cond.code yX0_clear cX0_clear 3 none, Cond.methodLink RX0 19 Lib.Math.min.name, Cond.static Lib.Math.min.name, Cond.initialized "java/lang/Math", Cond.code Lib.Math.min.name Lib.Math.min.code 2 (some .int), Cond.fieldLink RX0 15 "FewLines$Lengths" "size" "I", Cond.fieldLink RX0 9 "FewLines$Lengths" "lengths" "[I", Cond.constant RX0 25 (1000000), Cond.methodLink RX0 26 yJ7_fill_53178, Cond.static yJ7_fill_53178]
def wsX3_greedy_r2 : List Cond := [Cond.initialized RJ7, Cond.code yJ7_fill_53178 cJ7_fill_53178 4 none, Cond.methodLink RX3 106 yX3_lengthBetweenEnds, Cond.instanceMethod yX3_lengthBetweenEnds, Cond.selects RX3 yX3_lengthBetweenEnds yX3_lengthBetweenEnds, Cond.code yX3_lengthBetweenEnds cX3_lengthBetweenEnds 2 (some .int), Cond.methodLink RX3 125 yX0_between, Cond.instanceMethod yX0_between, Cond.selects RX0 yX0_between yX0_between, Cond.code yX0_between cX0_between 3 (some .int), Cond.methodLink RX3 109 yX0_add, Cond.instanceMethod yX0_add, Cond.selects RX0 yX0_add yX0_add, Cond.code yX0_add cX0_add 11 none, Cond.methodLink RX0 32 yX0_between, Cond.methodLink RX3 98 yX3_keepJust, Cond.instanceMethod yX3_keepJust, Cond.selects RX3 yX3_keepJust yX3_keepJust, Cond.code yX3_keepJust cX3_keepJust 3 (some .int), Cond.fieldLink RX3 26 "FewLines" "keptOf" "[I", Cond.methodLink RX3 154 yX3_isIn, Cond.static yX3_isIn, Cond.code yX3_isIn cX3_isIn 2 (some .boolean), Cond.methodLink RX3 116 yJ6_bitCount_0f7a4]
def wsX3_greedy_r3 : List Cond := [Cond.static yJ6_bitCount_0f7a4, Cond.initialized RJ6, Cond.code yJ6_bitCount_0f7a4 cJ6_bitCount_0f7a4 1 (some .int), Cond.constant RJ6 265 (1431655765), Cond.constant RJ6 266 (858993459), Cond.constant RJ6 267 (252645135)]
def wsX3_greedy : List Cond := .code yX3_greedy cX3_greedy 5 (some .int) :: ((wsX3_greedy_r1 ++ (wsX3_greedy_r2 ++ wsX3_greedy_r3)) ++ wsX30 ++ wsX00)
def wsX3_linesOf : List Cond := .code yX3_linesOf cX3_linesOf 4 (some .int) :: ([.fieldLink RX3 13 "FewLines" "lineCount" "I", .methodLink RX3 151 yX3_weightIn, .instanceMethod yX3_weightIn, .selects RX3 yX3_weightIn yX3_weightIn, .initialized RX3, .code yX3_weightIn cX3_weightIn 3 (some .int), .fieldLink RX3 23 "FewLines" "weightOf" "[I", .fieldLink RX3 26 "FewLines" "keptOf" "[I"] ++ wsX30)
def wsX3_measure_r1 : List Cond := [Cond.fieldLink RX3 9 "FewLines" "nodeCount" "I", Cond.fieldLink RX3 13 "FewLines" "lineCount" "I", Cond.fieldLink RX3 16 "FewLines" "lesserEnd" "[I", Cond.fieldLink RX3 20 "FewLines" "greaterEnd" "[I", Cond.fieldLink RX3 23 "FewLines" "weightOf" "[I", Cond.methodLink RX3 102 yX0_clear, Cond.instanceMethod yX0_clear, Cond.selects RX0 yX0_clear yX0_clear, Cond.initialized RX0, Cond.code yX0_clear cX0_clear 3 none, Cond.methodLink RX0 19 Lib.Math.min.name, Cond.static Lib.Math.min.name, Cond.initialized "java/lang/Math", Cond.code Lib.Math.min.name Lib.Math.min.code 2 (some .int), Cond.fieldLink RX0 15 "FewLines$Lengths" "size" "I", Cond.fieldLink RX0 9 "FewLines$Lengths" "lengths" "[I", Cond.constant RX0 25 (1000000), Cond.methodLink RX0 26 yJ7_fill_53178, Cond.static yJ7_fill_53178, Cond.initialized RJ7, Cond.code yJ7_fill_53178 cJ7_fill_53178 4 none, Cond.methodLink RX3 154 yX3_isIn, Cond.static yX3_isIn, Cond.initialized RX3]
def wsX3_measure_r2 : List Cond := [Cond.code yX3_isIn cX3_isIn 2 (some .boolean), Cond.methodLink RX3 109 yX0_add, Cond.instanceMethod yX0_add, Cond.selects RX0 yX0_add yX0_add, Cond.code yX0_add cX0_add 11 none, Cond.methodLink RX0 32 yX0_between, Cond.instanceMethod yX0_between, Cond.selects RX0 yX0_between yX0_between, Cond.code yX0_between cX0_between 3 (some .int)]
def wsX3_measure : List Cond := .code yX3_measure cX3_measure 4 none :: ((wsX3_measure_r1 ++ wsX3_measure_r2) ++ wsX30 ++ wsX00)
def wsX3_leastToJoin : List Cond := .code yX3_leastToJoin cX3_leastToJoin 1 (some .int) :: ([.fieldLink RX3 29 "FewLines" "forestOf" "[I", .methodLink RX3 158 yJ7_fill_53178, .static yJ7_fill_53178, .initialized RJ7, .code yJ7_fill_53178 cJ7_fill_53178 4 none, .methodLink RX3 164 yX3_peelOne, .instanceMethod yX3_peelOne, .selects RX3 yX3_peelOne yX3_peelOne, .initialized RX3, .code yX3_peelOne cX3_peelOne 4 (some .int), .fieldLink RX3 35 "FewLines" "parts" "LFewLines$Parts;", .fieldLink RX3 13 "FewLines" "lineCount" "I", .fieldLink RX3 16 "FewLines" "lesserEnd" "[I", .fieldLink RX3 20 "FewLines" "greaterEnd" "[I", .methodLink RX3 167 yX2_clear, .instanceMethod yX2_clear, .selects RX2 yX2_clear yX2_clear, .initialized RX2, .code yX2_clear cX2_clear 2 none, .fieldLink RX2 9 "FewLines$Parts" "partOf" "[I", .methodLink RX3 169 yX2_join, .instanceMethod yX2_join, .selects RX2 yX2_join yX2_join, .code yX2_join cX2_join 6 (some .boolean)] ++ wsX30 ++ wsX20)
def wsX3_isWithinStretch_r1 : List Cond := [Cond.fieldLink RX3 46 "FewLines" "thinLengths" "LFewLines$Lengths;", Cond.fieldLink RX3 9 "FewLines" "nodeCount" "I", Cond.fieldLink RX3 42 "FewLines" "netLengths" "LFewLines$Lengths;", Cond.constant RX3 128 (1000000), Cond.methodLink RX3 172 yX3_measure, Cond.instanceMethod yX3_measure, Cond.selects RX3 yX3_measure yX3_measure, Cond.initialized RX3, Cond.code yX3_measure cX3_measure 4 none, Cond.fieldLink RX3 13 "FewLines" "lineCount" "I", Cond.fieldLink RX3 16 "FewLines" "lesserEnd" "[I", Cond.fieldLink RX3 20 "FewLines" "greaterEnd" "[I", Cond.fieldLink RX3 23 "FewLines" "weightOf" "[I", Cond.methodLink RX3 102 yX0_clear, Cond.instanceMethod yX0_clear, Cond.selects RX0 yX0_clear yX0_clear, Cond.initialized RX0, Cond.code yX0_clear cX0_clear 3 none, Cond.methodLink RX0 19 Lib.Math.min.name, Cond.static Lib.Math.min.name, Cond.initialized "java/lang/Math", Cond.code Lib.Math.min.name Lib.Math.min.code 2 (some .int), Cond.fieldLink RX0 15 "FewLines$Lengths" "size" "I", Cond.fieldLink RX0 9 "FewLines$Lengths" "lengths" "[I"]
def wsX3_isWithinStretch_r2 : List Cond := [Cond.constant RX0 25 (1000000), Cond.methodLink RX0 26 yJ7_fill_53178, Cond.static yJ7_fill_53178, Cond.initialized RJ7, Cond.code yJ7_fill_53178 cJ7_fill_53178 4 none, Cond.methodLink RX3 154 yX3_isIn, Cond.static yX3_isIn, Cond.code yX3_isIn cX3_isIn 2 (some .boolean), Cond.methodLink RX3 109 yX0_add, Cond.instanceMethod yX0_add, Cond.selects RX0 yX0_add yX0_add, Cond.code yX0_add cX0_add 11 none, Cond.methodLink RX0 32 yX0_between, Cond.instanceMethod yX0_between, Cond.selects RX0 yX0_between yX0_between, Cond.code yX0_between cX0_between 3 (some .int), Cond.methodLink RX3 125 yX0_between]
def wsX3_isWithinStretch : List Cond := .code yX3_isWithinStretch cX3_isWithinStretch 6 (some .boolean) :: ((wsX3_isWithinStretch_r1 ++ wsX3_isWithinStretch_r2) ++ wsX30 ++ wsX00)
def wsX3_fewestWithin_r1 : List Cond := [Cond.methodLink RX3 76 Lib.Math.max.name, Cond.static Lib.Math.max.name, Cond.initialized "java/lang/Math", Cond.code Lib.Math.max.name Lib.Math.max.code 2 (some .int), Cond.methodLink RX3 116 yJ6_bitCount_0f7a4, Cond.static yJ6_bitCount_0f7a4, Cond.initialized RJ6, Cond.code yJ6_bitCount_0f7a4 cJ6_bitCount_0f7a4 1 (some .int), Cond.constant RJ6 265 (1431655765), Cond.constant RJ6 266 (858993459), Cond.constant RJ6 267 (252645135), Cond.methodLink RX3 183 yX3_isWithinStretch, Cond.instanceMethod yX3_isWithinStretch, Cond.selects RX3 yX3_isWithinStretch yX3_isWithinStretch, Cond.initialized RX3, Cond.code yX3_isWithinStretch cX3_isWithinStretch 6 (some .boolean), Cond.fieldLink RX3 46 "FewLines" "thinLengths" "LFewLines$Lengths;", Cond.fieldLink RX3 9 "FewLines" "nodeCount" "I", Cond.fieldLink RX3 42 "FewLines" "netLengths" "LFewLines$Lengths;", Cond.constant RX3 128 (1000000), Cond.methodLink RX3 172 yX3_measure, Cond.instanceMethod yX3_measure, Cond.selects RX3 yX3_measure yX3_measure, Cond.code yX3_measure cX3_measure 4 none]
def wsX3_fewestWithin_r2 : List Cond := [Cond.fieldLink RX3 13 "FewLines" "lineCount" "I", Cond.fieldLink RX3 16 "FewLines" "lesserEnd" "[I", Cond.fieldLink RX3 20 "FewLines" "greaterEnd" "[I", Cond.fieldLink RX3 23 "FewLines" "weightOf" "[I", Cond.methodLink RX3 102 yX0_clear, Cond.instanceMethod yX0_clear, Cond.selects RX0 yX0_clear yX0_clear, Cond.initialized RX0, Cond.code yX0_clear cX0_clear 3 none, Cond.methodLink RX0 19 Lib.Math.min.name, Cond.static Lib.Math.min.name, Cond.code Lib.Math.min.name Lib.Math.min.code 2 (some .int), Cond.fieldLink RX0 15 "FewLines$Lengths" "size" "I", Cond.fieldLink RX0 9 "FewLines$Lengths" "lengths" "[I", Cond.constant RX0 25 (1000000), Cond.methodLink RX0 26 yJ7_fill_53178, Cond.static yJ7_fill_53178, Cond.initialized RJ7, Cond.code yJ7_fill_53178 cJ7_fill_53178 4 none, Cond.methodLink RX3 154 yX3_isIn, Cond.static yX3_isIn, Cond.code yX3_isIn cX3_isIn 2 (some .boolean), Cond.methodLink RX3 109 yX0_add, Cond.instanceMethod yX0_add]
def wsX3_fewestWithin_r3 : List Cond := [Cond.selects RX0 yX0_add yX0_add, Cond.code yX0_add cX0_add 11 none, Cond.methodLink RX0 32 yX0_between, Cond.instanceMethod yX0_between, Cond.selects RX0 yX0_between yX0_between, Cond.code yX0_between cX0_between 3 (some .int), Cond.methodLink RX3 125 yX0_between, Cond.methodLink RX3 179 yX3_fewestWithin, Cond.static yX3_fewestWithin]
def wsX3_fewestWithin : List Cond := .code yX3_fewestWithin cX3_fewestWithin 10 (some .int) :: ((wsX3_fewestWithin_r1 ++ (wsX3_fewestWithin_r2 ++ wsX3_fewestWithin_r3)) ++ wsX30 ++ wsX00)
def wsX3_fewestSet_r1 : List Cond := [Cond.fieldLink RX3 56 "FewLines" "fewestSets" "[I", Cond.fieldLink RX3 42 "FewLines" "netLengths" "LFewLines$Lengths;", Cond.fieldLink RX3 13 "FewLines" "lineCount" "I", Cond.methodLink RX3 145 yX3_linesOf, Cond.instanceMethod yX3_linesOf, Cond.selects RX3 yX3_linesOf yX3_linesOf, Cond.initialized RX3, Cond.code yX3_linesOf cX3_linesOf 4 (some .int), Cond.methodLink RX3 151 yX3_weightIn, Cond.instanceMethod yX3_weightIn, Cond.selects RX3 yX3_weightIn yX3_weightIn, Cond.code yX3_weightIn cX3_weightIn 3 (some .int), Cond.fieldLink RX3 23 "FewLines" "weightOf" "[I", Cond.fieldLink RX3 26 "FewLines" "keptOf" "[I", Cond.methodLink RX3 172 yX3_measure, Cond.instanceMethod yX3_measure, Cond.selects RX3 yX3_measure yX3_measure, Cond.code yX3_measure cX3_measure 4 none, Cond.fieldLink RX3 9 "FewLines" "nodeCount" "I", Cond.fieldLink RX3 16 "FewLines" "lesserEnd" "[I", Cond.fieldLink RX3 20 "FewLines" "greaterEnd" "[I", Cond.methodLink RX3 102 yX0_clear, Cond.instanceMethod yX0_clear, Cond.selects RX0 yX0_clear yX0_clear]
def wsX3_fewestSet_r2 : List Cond := [Cond.initialized RX0, Cond.code yX0_clear cX0_clear 3 none, Cond.methodLink RX0 19 Lib.Math.min.name, Cond.static Lib.Math.min.name, Cond.initialized "java/lang/Math", Cond.code Lib.Math.min.name Lib.Math.min.code 2 (some .int), Cond.fieldLink RX0 15 "FewLines$Lengths" "size" "I", Cond.fieldLink RX0 9 "FewLines$Lengths" "lengths" "[I", Cond.constant RX0 25 (1000000), Cond.methodLink RX0 26 yJ7_fill_53178, Cond.static yJ7_fill_53178, Cond.initialized RJ7, Cond.code yJ7_fill_53178 cJ7_fill_53178 4 none, Cond.methodLink RX3 154 yX3_isIn, Cond.static yX3_isIn, Cond.code yX3_isIn cX3_isIn 2 (some .boolean), Cond.methodLink RX3 109 yX0_add, Cond.instanceMethod yX0_add, Cond.selects RX0 yX0_add yX0_add, Cond.code yX0_add cX0_add 11 none, Cond.methodLink RX0 32 yX0_between, Cond.instanceMethod yX0_between, Cond.selects RX0 yX0_between yX0_between, Cond.code yX0_between cX0_between 3 (some .int)]
def wsX3_fewestSet_r3 : List Cond := [Cond.methodLink RX3 176 yX3_leastToJoin, Cond.instanceMethod yX3_leastToJoin, Cond.selects RX3 yX3_leastToJoin yX3_leastToJoin, Cond.code yX3_leastToJoin cX3_leastToJoin 1 (some .int), Cond.fieldLink RX3 29 "FewLines" "forestOf" "[I", Cond.methodLink RX3 158 yJ7_fill_53178, Cond.methodLink RX3 164 yX3_peelOne, Cond.instanceMethod yX3_peelOne, Cond.selects RX3 yX3_peelOne yX3_peelOne, Cond.code yX3_peelOne cX3_peelOne 4 (some .int), Cond.fieldLink RX3 35 "FewLines" "parts" "LFewLines$Parts;", Cond.methodLink RX3 167 yX2_clear, Cond.instanceMethod yX2_clear, Cond.selects RX2 yX2_clear yX2_clear, Cond.initialized RX2, Cond.code yX2_clear cX2_clear 2 none, Cond.fieldLink RX2 9 "FewLines$Parts" "partOf" "[I", Cond.methodLink RX3 169 yX2_join, Cond.instanceMethod yX2_join, Cond.selects RX2 yX2_join yX2_join, Cond.code yX2_join cX2_join 6 (some .boolean), Cond.methodLink RX3 179 yX3_fewestWithin, Cond.static yX3_fewestWithin, Cond.code yX3_fewestWithin cX3_fewestWithin 10 (some .int)]
def wsX3_fewestSet_r4 : List Cond := [Cond.methodLink RX3 76 Lib.Math.max.name, Cond.static Lib.Math.max.name, Cond.code Lib.Math.max.name Lib.Math.max.code 2 (some .int), Cond.methodLink RX3 116 yJ6_bitCount_0f7a4, Cond.static yJ6_bitCount_0f7a4, Cond.initialized RJ6, Cond.code yJ6_bitCount_0f7a4 cJ6_bitCount_0f7a4 1 (some .int), Cond.constant RJ6 265 (1431655765), Cond.constant RJ6 266 (858993459), Cond.constant RJ6 267 (252645135), Cond.methodLink RX3 183 yX3_isWithinStretch, Cond.instanceMethod yX3_isWithinStretch, Cond.selects RX3 yX3_isWithinStretch yX3_isWithinStretch, Cond.code yX3_isWithinStretch cX3_isWithinStretch 6 (some .boolean), Cond.fieldLink RX3 46 "FewLines" "thinLengths" "LFewLines$Lengths;", Cond.constant RX3 128 (1000000), Cond.methodLink RX3 125 yX0_between]
def wsX3_fewestSet : List Cond := .code yX3_fewestSet cX3_fewestSet 3 (some .int) :: ((wsX3_fewestSet_r1 ++ (wsX3_fewestSet_r2 ++ (wsX3_fewestSet_r3 ++ wsX3_fewestSet_r4))) ++ wsX30 ++ wsX00 ++ wsX20)
def wsX3_fewest_r1 : List Cond := [Cond.methodLink RX3 62 yX3_isWithin, Cond.static yX3_isWithin, Cond.initialized RX3, Cond.code yX3_isWithin cX3_isWithin 3 (some .boolean), Cond.methodLink RX3 113 yX3_fewestSet, Cond.instanceMethod yX3_fewestSet, Cond.selects RX3 yX3_fewestSet yX3_fewestSet, Cond.code yX3_fewestSet cX3_fewestSet 3 (some .int), Cond.fieldLink RX3 56 "FewLines" "fewestSets" "[I", Cond.fieldLink RX3 42 "FewLines" "netLengths" "LFewLines$Lengths;", Cond.fieldLink RX3 13 "FewLines" "lineCount" "I", Cond.methodLink RX3 145 yX3_linesOf, Cond.instanceMethod yX3_linesOf, Cond.selects RX3 yX3_linesOf yX3_linesOf, Cond.code yX3_linesOf cX3_linesOf 4 (some .int), Cond.methodLink RX3 151 yX3_weightIn, Cond.instanceMethod yX3_weightIn, Cond.selects RX3 yX3_weightIn yX3_weightIn, Cond.code yX3_weightIn cX3_weightIn 3 (some .int), Cond.fieldLink RX3 23 "FewLines" "weightOf" "[I", Cond.fieldLink RX3 26 "FewLines" "keptOf" "[I", Cond.methodLink RX3 172 yX3_measure, Cond.instanceMethod yX3_measure, Cond.selects RX3 yX3_measure yX3_measure]
def wsX3_fewest_r2 : List Cond := [Cond.code yX3_measure cX3_measure 4 none, Cond.fieldLink RX3 9 "FewLines" "nodeCount" "I", Cond.fieldLink RX3 16 "FewLines" "lesserEnd" "[I", Cond.fieldLink RX3 20 "FewLines" "greaterEnd" "[I", Cond.methodLink RX3 102 yX0_clear, Cond.instanceMethod yX0_clear, Cond.selects RX0 yX0_clear yX0_clear, Cond.initialized RX0, Cond.code yX0_clear cX0_clear 3 none, Cond.methodLink RX0 19 Lib.Math.min.name, Cond.static Lib.Math.min.name, Cond.initialized "java/lang/Math", Cond.code Lib.Math.min.name Lib.Math.min.code 2 (some .int), Cond.fieldLink RX0 15 "FewLines$Lengths" "size" "I", Cond.fieldLink RX0 9 "FewLines$Lengths" "lengths" "[I", Cond.constant RX0 25 (1000000), Cond.methodLink RX0 26 yJ7_fill_53178, Cond.static yJ7_fill_53178, Cond.initialized RJ7, Cond.code yJ7_fill_53178 cJ7_fill_53178 4 none, Cond.methodLink RX3 154 yX3_isIn, Cond.static yX3_isIn, Cond.code yX3_isIn cX3_isIn 2 (some .boolean), Cond.methodLink RX3 109 yX0_add]
def wsX3_fewest_r3 : List Cond := [Cond.instanceMethod yX0_add, Cond.selects RX0 yX0_add yX0_add, Cond.code yX0_add cX0_add 11 none, Cond.methodLink RX0 32 yX0_between, Cond.instanceMethod yX0_between, Cond.selects RX0 yX0_between yX0_between, Cond.code yX0_between cX0_between 3 (some .int), Cond.methodLink RX3 176 yX3_leastToJoin, Cond.instanceMethod yX3_leastToJoin, Cond.selects RX3 yX3_leastToJoin yX3_leastToJoin, Cond.code yX3_leastToJoin cX3_leastToJoin 1 (some .int), Cond.fieldLink RX3 29 "FewLines" "forestOf" "[I", Cond.methodLink RX3 158 yJ7_fill_53178, Cond.methodLink RX3 164 yX3_peelOne, Cond.instanceMethod yX3_peelOne, Cond.selects RX3 yX3_peelOne yX3_peelOne, Cond.code yX3_peelOne cX3_peelOne 4 (some .int), Cond.fieldLink RX3 35 "FewLines" "parts" "LFewLines$Parts;", Cond.methodLink RX3 167 yX2_clear, Cond.instanceMethod yX2_clear, Cond.selects RX2 yX2_clear yX2_clear, Cond.initialized RX2, Cond.code yX2_clear cX2_clear 2 none, Cond.fieldLink RX2 9 "FewLines$Parts" "partOf" "[I"]
def wsX3_fewest_r4 : List Cond := [Cond.methodLink RX3 169 yX2_join, Cond.instanceMethod yX2_join, Cond.selects RX2 yX2_join yX2_join, Cond.code yX2_join cX2_join 6 (some .boolean), Cond.methodLink RX3 179 yX3_fewestWithin, Cond.static yX3_fewestWithin, Cond.code yX3_fewestWithin cX3_fewestWithin 10 (some .int), Cond.methodLink RX3 76 Lib.Math.max.name, Cond.static Lib.Math.max.name, Cond.code Lib.Math.max.name Lib.Math.max.code 2 (some .int), Cond.methodLink RX3 116 yJ6_bitCount_0f7a4, Cond.static yJ6_bitCount_0f7a4, Cond.initialized RJ6, Cond.code yJ6_bitCount_0f7a4 cJ6_bitCount_0f7a4 1 (some .int), Cond.constant RJ6 265 (1431655765), Cond.constant RJ6 266 (858993459), Cond.constant RJ6 267 (252645135), Cond.methodLink RX3 183 yX3_isWithinStretch, Cond.instanceMethod yX3_isWithinStretch, Cond.selects RX3 yX3_isWithinStretch yX3_isWithinStretch, Cond.code yX3_isWithinStretch cX3_isWithinStretch 6 (some .boolean), Cond.fieldLink RX3 46 "FewLines" "thinLengths" "LFewLines$Lengths;", Cond.constant RX3 128 (1000000), Cond.methodLink RX3 125 yX0_between]
def wsX3_fewest : List Cond := .code yX3_fewest cX3_fewest 4 (some .int) :: ((wsX3_fewest_r1 ++ (wsX3_fewest_r2 ++ (wsX3_fewest_r3 ++ wsX3_fewest_r4))) ++ wsX30 ++ wsX00 ++ wsX20)
def wsX3_thin_r1 : List Cond := [Cond.methodLink RX3 62 yX3_isWithin, Cond.static yX3_isWithin, Cond.initialized RX3, Cond.code yX3_isWithin cX3_isWithin 3 (some .boolean), Cond.methodLink RX3 113 yX3_fewestSet, Cond.instanceMethod yX3_fewestSet, Cond.selects RX3 yX3_fewestSet yX3_fewestSet, Cond.code yX3_fewestSet cX3_fewestSet 3 (some .int), Cond.fieldLink RX3 56 "FewLines" "fewestSets" "[I", Cond.fieldLink RX3 42 "FewLines" "netLengths" "LFewLines$Lengths;", Cond.fieldLink RX3 13 "FewLines" "lineCount" "I", Cond.methodLink RX3 145 yX3_linesOf, Cond.instanceMethod yX3_linesOf, Cond.selects RX3 yX3_linesOf yX3_linesOf, Cond.code yX3_linesOf cX3_linesOf 4 (some .int), Cond.methodLink RX3 151 yX3_weightIn, Cond.instanceMethod yX3_weightIn, Cond.selects RX3 yX3_weightIn yX3_weightIn, Cond.code yX3_weightIn cX3_weightIn 3 (some .int), Cond.fieldLink RX3 23 "FewLines" "weightOf" "[I", Cond.fieldLink RX3 26 "FewLines" "keptOf" "[I", Cond.methodLink RX3 172 yX3_measure, Cond.instanceMethod yX3_measure, Cond.selects RX3 yX3_measure yX3_measure]
def wsX3_thin_r2 : List Cond := [Cond.code yX3_measure cX3_measure 4 none, Cond.fieldLink RX3 9 "FewLines" "nodeCount" "I", Cond.fieldLink RX3 16 "FewLines" "lesserEnd" "[I", Cond.fieldLink RX3 20 "FewLines" "greaterEnd" "[I", Cond.methodLink RX3 102 yX0_clear, Cond.instanceMethod yX0_clear, Cond.selects RX0 yX0_clear yX0_clear, Cond.initialized RX0, Cond.code yX0_clear cX0_clear 3 none, Cond.methodLink RX0 19 Lib.Math.min.name, Cond.static Lib.Math.min.name, Cond.initialized "java/lang/Math", Cond.code Lib.Math.min.name Lib.Math.min.code 2 (some .int), Cond.fieldLink RX0 15 "FewLines$Lengths" "size" "I", Cond.fieldLink RX0 9 "FewLines$Lengths" "lengths" "[I", Cond.constant RX0 25 (1000000), Cond.methodLink RX0 26 yJ7_fill_53178, Cond.static yJ7_fill_53178, Cond.initialized RJ7, Cond.code yJ7_fill_53178 cJ7_fill_53178 4 none, Cond.methodLink RX3 154 yX3_isIn, Cond.static yX3_isIn, Cond.code yX3_isIn cX3_isIn 2 (some .boolean), Cond.methodLink RX3 109 yX0_add]
def wsX3_thin_r3 : List Cond := [Cond.instanceMethod yX0_add, Cond.selects RX0 yX0_add yX0_add, Cond.code yX0_add cX0_add 11 none, Cond.methodLink RX0 32 yX0_between, Cond.instanceMethod yX0_between, Cond.selects RX0 yX0_between yX0_between, Cond.code yX0_between cX0_between 3 (some .int), Cond.methodLink RX3 176 yX3_leastToJoin, Cond.instanceMethod yX3_leastToJoin, Cond.selects RX3 yX3_leastToJoin yX3_leastToJoin, Cond.code yX3_leastToJoin cX3_leastToJoin 1 (some .int), Cond.fieldLink RX3 29 "FewLines" "forestOf" "[I", Cond.methodLink RX3 158 yJ7_fill_53178, Cond.methodLink RX3 164 yX3_peelOne, Cond.instanceMethod yX3_peelOne, Cond.selects RX3 yX3_peelOne yX3_peelOne, Cond.code yX3_peelOne cX3_peelOne 4 (some .int), Cond.fieldLink RX3 35 "FewLines" "parts" "LFewLines$Parts;", Cond.methodLink RX3 167 yX2_clear, Cond.instanceMethod yX2_clear, Cond.selects RX2 yX2_clear yX2_clear, Cond.initialized RX2, Cond.code yX2_clear cX2_clear 2 none, Cond.fieldLink RX2 9 "FewLines$Parts" "partOf" "[I"]
def wsX3_thin_r4 : List Cond := [Cond.methodLink RX3 169 yX2_join, Cond.instanceMethod yX2_join, Cond.selects RX2 yX2_join yX2_join, Cond.code yX2_join cX2_join 6 (some .boolean), Cond.methodLink RX3 179 yX3_fewestWithin, Cond.static yX3_fewestWithin, Cond.code yX3_fewestWithin cX3_fewestWithin 10 (some .int), Cond.methodLink RX3 76 Lib.Math.max.name, Cond.static Lib.Math.max.name, Cond.code Lib.Math.max.name Lib.Math.max.code 2 (some .int), Cond.methodLink RX3 116 yJ6_bitCount_0f7a4, Cond.static yJ6_bitCount_0f7a4, Cond.initialized RJ6, Cond.code yJ6_bitCount_0f7a4 cJ6_bitCount_0f7a4 1 (some .int), Cond.constant RJ6 265 (1431655765), Cond.constant RJ6 266 (858993459), Cond.constant RJ6 267 (252645135), Cond.methodLink RX3 183 yX3_isWithinStretch, Cond.instanceMethod yX3_isWithinStretch, Cond.selects RX3 yX3_isWithinStretch yX3_isWithinStretch, Cond.code yX3_isWithinStretch cX3_isWithinStretch 6 (some .boolean), Cond.fieldLink RX3 46 "FewLines" "thinLengths" "LFewLines$Lengths;", Cond.constant RX3 128 (1000000), Cond.methodLink RX3 125 yX0_between]
def wsX3_thin_r5 : List Cond := [Cond.methodLink RX3 98 yX3_keepJust, Cond.instanceMethod yX3_keepJust, Cond.selects RX3 yX3_keepJust yX3_keepJust, Cond.code yX3_keepJust cX3_keepJust 3 (some .int)]
def wsX3_thin : List Cond := .code yX3_thin cX3_thin 2 (some .int) :: ((wsX3_thin_r1 ++ (wsX3_thin_r2 ++ (wsX3_thin_r3 ++ (wsX3_thin_r4 ++ wsX3_thin_r5)))) ++ wsX30 ++ wsX00 ++ wsX20)
def wsX3_measured_r1 : List Cond := [Cond.fieldLink RX3 42 "FewLines" "netLengths" "LFewLines$Lengths;", Cond.fieldLink RX3 46 "FewLines" "thinLengths" "LFewLines$Lengths;", Cond.methodLink RX3 145 yX3_linesOf, Cond.instanceMethod yX3_linesOf, Cond.selects RX3 yX3_linesOf yX3_linesOf, Cond.initialized RX3, Cond.code yX3_linesOf cX3_linesOf 4 (some .int), Cond.fieldLink RX3 13 "FewLines" "lineCount" "I", Cond.methodLink RX3 151 yX3_weightIn, Cond.instanceMethod yX3_weightIn, Cond.selects RX3 yX3_weightIn yX3_weightIn, Cond.code yX3_weightIn cX3_weightIn 3 (some .int), Cond.fieldLink RX3 23 "FewLines" "weightOf" "[I", Cond.fieldLink RX3 26 "FewLines" "keptOf" "[I", Cond.methodLink RX3 172 yX3_measure, Cond.instanceMethod yX3_measure, Cond.selects RX3 yX3_measure yX3_measure, Cond.code yX3_measure cX3_measure 4 none, Cond.fieldLink RX3 9 "FewLines" "nodeCount" "I", Cond.fieldLink RX3 16 "FewLines" "lesserEnd" "[I", Cond.fieldLink RX3 20 "FewLines" "greaterEnd" "[I", Cond.methodLink RX3 102 yX0_clear, Cond.instanceMethod yX0_clear, Cond.selects RX0 yX0_clear yX0_clear]
def wsX3_measured_r2 : List Cond := [Cond.initialized RX0, Cond.code yX0_clear cX0_clear 3 none, Cond.methodLink RX0 19 Lib.Math.min.name, Cond.static Lib.Math.min.name, Cond.initialized "java/lang/Math", Cond.code Lib.Math.min.name Lib.Math.min.code 2 (some .int), Cond.fieldLink RX0 15 "FewLines$Lengths" "size" "I", Cond.fieldLink RX0 9 "FewLines$Lengths" "lengths" "[I", Cond.constant RX0 25 (1000000), Cond.methodLink RX0 26 yJ7_fill_53178, Cond.static yJ7_fill_53178, Cond.initialized RJ7, Cond.code yJ7_fill_53178 cJ7_fill_53178 4 none, Cond.methodLink RX3 154 yX3_isIn, Cond.static yX3_isIn, Cond.code yX3_isIn cX3_isIn 2 (some .boolean), Cond.methodLink RX3 109 yX0_add, Cond.instanceMethod yX0_add, Cond.selects RX0 yX0_add yX0_add, Cond.code yX0_add cX0_add 11 none, Cond.methodLink RX0 32 yX0_between, Cond.instanceMethod yX0_between, Cond.selects RX0 yX0_between yX0_between, Cond.code yX0_between cX0_between 3 (some .int)]
def wsX3_measured : List Cond := .code yX3_measured cX3_measured 3 (some (.object "FewLines$Lengths")) :: ((wsX3_measured_r1 ++ wsX3_measured_r2) ++ wsX30 ++ wsX00)
def wsX3_far_r1 : List Cond := [Cond.constant RX3 128 (1000000), Cond.methodLink RX3 66 yX3_isNode, Cond.instanceMethod yX3_isNode, Cond.selects RX3 yX3_isNode yX3_isNode, Cond.initialized RX3, Cond.code yX3_isNode cX3_isNode 2 (some .boolean), Cond.fieldLink RX3 9 "FewLines" "nodeCount" "I", Cond.methodLink RX3 89 yX3_isWay, Cond.static yX3_isWay, Cond.code yX3_isWay cX3_isWay 1 (some .boolean), Cond.methodLink RX3 121 yX3_measured, Cond.instanceMethod yX3_measured, Cond.selects RX3 yX3_measured yX3_measured, Cond.code yX3_measured cX3_measured 3 (some (.object "FewLines$Lengths")), Cond.fieldLink RX3 42 "FewLines" "netLengths" "LFewLines$Lengths;", Cond.fieldLink RX3 46 "FewLines" "thinLengths" "LFewLines$Lengths;", Cond.methodLink RX3 145 yX3_linesOf, Cond.instanceMethod yX3_linesOf, Cond.selects RX3 yX3_linesOf yX3_linesOf, Cond.code yX3_linesOf cX3_linesOf 4 (some .int), Cond.fieldLink RX3 13 "FewLines" "lineCount" "I", Cond.methodLink RX3 151 yX3_weightIn, Cond.instanceMethod yX3_weightIn, Cond.selects RX3 yX3_weightIn yX3_weightIn]
def wsX3_far_r2 : List Cond := [Cond.code yX3_weightIn cX3_weightIn 3 (some .int), Cond.fieldLink RX3 23 "FewLines" "weightOf" "[I", Cond.fieldLink RX3 26 "FewLines" "keptOf" "[I", Cond.methodLink RX3 172 yX3_measure, Cond.instanceMethod yX3_measure, Cond.selects RX3 yX3_measure yX3_measure, Cond.code yX3_measure cX3_measure 4 none, Cond.fieldLink RX3 16 "FewLines" "lesserEnd" "[I", Cond.fieldLink RX3 20 "FewLines" "greaterEnd" "[I", Cond.methodLink RX3 102 yX0_clear, Cond.instanceMethod yX0_clear, Cond.selects RX0 yX0_clear yX0_clear, Cond.initialized RX0, Cond.code yX0_clear cX0_clear 3 none, Cond.methodLink RX0 19 Lib.Math.min.name, Cond.static Lib.Math.min.name, Cond.initialized "java/lang/Math", Cond.code Lib.Math.min.name Lib.Math.min.code 2 (some .int), Cond.fieldLink RX0 15 "FewLines$Lengths" "size" "I", Cond.fieldLink RX0 9 "FewLines$Lengths" "lengths" "[I", Cond.constant RX0 25 (1000000), Cond.methodLink RX0 26 yJ7_fill_53178, Cond.static yJ7_fill_53178, Cond.initialized RJ7]
def wsX3_far_r3 : List Cond := [Cond.code yJ7_fill_53178 cJ7_fill_53178 4 none, Cond.methodLink RX3 154 yX3_isIn, Cond.static yX3_isIn, Cond.code yX3_isIn cX3_isIn 2 (some .boolean), Cond.methodLink RX3 109 yX0_add, Cond.instanceMethod yX0_add, Cond.selects RX0 yX0_add yX0_add, Cond.code yX0_add cX0_add 11 none, Cond.methodLink RX0 32 yX0_between, Cond.instanceMethod yX0_between, Cond.selects RX0 yX0_between yX0_between, Cond.code yX0_between cX0_between 3 (some .int), Cond.methodLink RX3 125 yX0_between]
def wsX3_far : List Cond := .code yX3_far cX3_far 5 (some .int) :: ((wsX3_far_r1 ++ (wsX3_far_r2 ++ wsX3_far_r3)) ++ wsX30 ++ wsX00)
def wsX3_commonDivisor : List Cond := .code yX3_commonDivisor cX3_commonDivisor 11 (some .long) :: ([])
def wsX3_inLowestTerms : List Cond := .code yX3_inLowestTerms cX3_inLowestTerms 7 (some .long) :: ([.constantLong RX3 198 (-1), .methodLink RX3 194 yX3_commonDivisor, .static yX3_commonDivisor, .initialized RX3, .code yX3_commonDivisor cX3_commonDivisor 11 (some .long)])
def wsX3_stretch_r1 : List Cond := [Cond.fieldLink RX3 9 "FewLines" "nodeCount" "I", Cond.constant RX3 128 (1000000), Cond.methodLink RX3 62 yX3_isWithin, Cond.static yX3_isWithin, Cond.initialized RX3, Cond.code yX3_isWithin cX3_isWithin 3 (some .boolean), Cond.methodLink RX3 121 yX3_measured, Cond.instanceMethod yX3_measured, Cond.selects RX3 yX3_measured yX3_measured, Cond.code yX3_measured cX3_measured 3 (some (.object "FewLines$Lengths")), Cond.fieldLink RX3 42 "FewLines" "netLengths" "LFewLines$Lengths;", Cond.fieldLink RX3 46 "FewLines" "thinLengths" "LFewLines$Lengths;", Cond.methodLink RX3 145 yX3_linesOf, Cond.instanceMethod yX3_linesOf, Cond.selects RX3 yX3_linesOf yX3_linesOf, Cond.code yX3_linesOf cX3_linesOf 4 (some .int), Cond.fieldLink RX3 13 "FewLines" "lineCount" "I", Cond.methodLink RX3 151 yX3_weightIn, Cond.instanceMethod yX3_weightIn, Cond.selects RX3 yX3_weightIn yX3_weightIn, Cond.code yX3_weightIn cX3_weightIn 3 (some .int), Cond.fieldLink RX3 23 "FewLines" "weightOf" "[I", Cond.fieldLink RX3 26 "FewLines" "keptOf" "[I", Cond.methodLink RX3 172 yX3_measure]
def wsX3_stretch_r2 : List Cond := [Cond.instanceMethod yX3_measure, Cond.selects RX3 yX3_measure yX3_measure, Cond.code yX3_measure cX3_measure 4 none, Cond.fieldLink RX3 16 "FewLines" "lesserEnd" "[I", Cond.fieldLink RX3 20 "FewLines" "greaterEnd" "[I", Cond.methodLink RX3 102 yX0_clear, Cond.instanceMethod yX0_clear, Cond.selects RX0 yX0_clear yX0_clear, Cond.initialized RX0, Cond.code yX0_clear cX0_clear 3 none, Cond.methodLink RX0 19 Lib.Math.min.name, Cond.static Lib.Math.min.name, Cond.initialized "java/lang/Math", Cond.code Lib.Math.min.name Lib.Math.min.code 2 (some .int), Cond.fieldLink RX0 15 "FewLines$Lengths" "size" "I", Cond.fieldLink RX0 9 "FewLines$Lengths" "lengths" "[I", Cond.constant RX0 25 (1000000), Cond.methodLink RX0 26 yJ7_fill_53178, Cond.static yJ7_fill_53178, Cond.initialized RJ7, Cond.code yJ7_fill_53178 cJ7_fill_53178 4 none, Cond.methodLink RX3 154 yX3_isIn, Cond.static yX3_isIn, Cond.code yX3_isIn cX3_isIn 2 (some .boolean)]
def wsX3_stretch_r3 : List Cond := [Cond.methodLink RX3 109 yX0_add, Cond.instanceMethod yX0_add, Cond.selects RX0 yX0_add yX0_add, Cond.code yX0_add cX0_add 11 none, Cond.methodLink RX0 32 yX0_between, Cond.instanceMethod yX0_between, Cond.selects RX0 yX0_between yX0_between, Cond.code yX0_between cX0_between 3 (some .int), Cond.methodLink RX3 125 yX0_between, Cond.methodLink RX3 129 yX3_inLowestTerms, Cond.static yX3_inLowestTerms, Cond.code yX3_inLowestTerms cX3_inLowestTerms 7 (some .long), Cond.constantLong RX3 198 (-1), Cond.methodLink RX3 194 yX3_commonDivisor, Cond.static yX3_commonDivisor, Cond.code yX3_commonDivisor cX3_commonDivisor 11 (some .long)]
def wsX3_stretch : List Cond := .code yX3_stretch cX3_stretch 10 (some .int) :: ((wsX3_stretch_r1 ++ (wsX3_stretch_r2 ++ wsX3_stretch_r3)) ++ wsX30 ++ wsX00)
def wsX3_fillMinors_r1 : List Cond := [Cond.fieldLink RX3 52 "FewLines" "minors" "LFewLines$Minors;", Cond.fieldLink RX3 9 "FewLines" "nodeCount" "I", Cond.fieldLink RX3 13 "FewLines" "lineCount" "I", Cond.fieldLink RX3 16 "FewLines" "lesserEnd" "[I", Cond.fieldLink RX3 20 "FewLines" "greaterEnd" "[I", Cond.methodLink RX3 192 yX1_clear, Cond.instanceMethod yX1_clear, Cond.selects RX1 yX1_clear yX1_clear, Cond.initialized RX1, Cond.code yX1_clear cX1_clear 2 none, Cond.methodLink RX1 26 Lib.Math.min.name, Cond.static Lib.Math.min.name, Cond.initialized "java/lang/Math", Cond.code Lib.Math.min.name Lib.Math.min.code 2 (some .int), Cond.fieldLink RX1 22 "FewLines$Minors" "size" "I", Cond.fieldLink RX1 9 "FewLines$Minors" "matrix" "[J", Cond.methodLink RX1 32 yJ7_fill_d0a16, Cond.static yJ7_fill_d0a16, Cond.initialized RJ7, Cond.code yJ7_fill_d0a16 cJ7_fill_d0a16 5 none, Cond.methodLink RX3 151 yX3_weightIn, Cond.instanceMethod yX3_weightIn, Cond.selects RX3 yX3_weightIn yX3_weightIn, Cond.initialized RX3]
def wsX3_fillMinors_r2 : List Cond := [Cond.code yX3_weightIn cX3_weightIn 3 (some .int), Cond.fieldLink RX3 23 "FewLines" "weightOf" "[I", Cond.fieldLink RX3 26 "FewLines" "keptOf" "[I", Cond.methodLink RX3 193 yX1_add, Cond.instanceMethod yX1_add, Cond.selects RX1 yX1_add yX1_add, Cond.code yX1_add cX1_add 4 none]
def wsX3_fillMinors : List Cond := .code yX3_fillMinors cX3_fillMinors 3 none :: ((wsX3_fillMinors_r1 ++ wsX3_fillMinors_r2) ++ wsX30 ++ wsX10)
def wsX3_treeProducts_r1 : List Cond := [Cond.fieldLink RX3 52 "FewLines" "minors" "LFewLines$Minors;", Cond.methodLink RX3 186 yX3_fillMinors, Cond.instanceMethod yX3_fillMinors, Cond.selects RX3 yX3_fillMinors yX3_fillMinors, Cond.initialized RX3, Cond.code yX3_fillMinors cX3_fillMinors 3 none, Cond.fieldLink RX3 9 "FewLines" "nodeCount" "I", Cond.fieldLink RX3 13 "FewLines" "lineCount" "I", Cond.fieldLink RX3 16 "FewLines" "lesserEnd" "[I", Cond.fieldLink RX3 20 "FewLines" "greaterEnd" "[I", Cond.methodLink RX3 192 yX1_clear, Cond.instanceMethod yX1_clear, Cond.selects RX1 yX1_clear yX1_clear, Cond.initialized RX1, Cond.code yX1_clear cX1_clear 2 none, Cond.methodLink RX1 26 Lib.Math.min.name, Cond.static Lib.Math.min.name, Cond.initialized "java/lang/Math", Cond.code Lib.Math.min.name Lib.Math.min.code 2 (some .int), Cond.fieldLink RX1 22 "FewLines$Minors" "size" "I", Cond.fieldLink RX1 9 "FewLines$Minors" "matrix" "[J", Cond.methodLink RX1 32 yJ7_fill_d0a16, Cond.static yJ7_fill_d0a16, Cond.initialized RJ7]
def wsX3_treeProducts_r2 : List Cond := [Cond.code yJ7_fill_d0a16 cJ7_fill_d0a16 5 none, Cond.methodLink RX3 151 yX3_weightIn, Cond.instanceMethod yX3_weightIn, Cond.selects RX3 yX3_weightIn yX3_weightIn, Cond.code yX3_weightIn cX3_weightIn 3 (some .int), Cond.fieldLink RX3 23 "FewLines" "weightOf" "[I", Cond.fieldLink RX3 26 "FewLines" "keptOf" "[I", Cond.methodLink RX3 193 yX1_add, Cond.instanceMethod yX1_add, Cond.selects RX1 yX1_add yX1_add, Cond.code yX1_add cX1_add 4 none, Cond.methodLink RX3 189 yX1_without, Cond.instanceMethod yX1_without, Cond.selects RX1 yX1_without yX1_without, Cond.code yX1_without cX1_without 5 (some .long), Cond.fieldLink RX1 19 "FewLines$Minors" "minorOf" "[J", Cond.methodLink RX1 38 yX1_choose, Cond.instanceMethod yX1_choose, Cond.selects RX1 yX1_choose yX1_choose, Cond.code yX1_choose cX1_choose 4 (some .int), Cond.fieldLink RX1 15 "FewLines$Minors" "chosen" "[I", Cond.static yX3_isIn, Cond.code yX3_isIn cX3_isIn 2 (some .boolean), Cond.methodLink RX1 42 yX1_alongLastRow]
def wsX3_treeProducts_r3 : List Cond := [Cond.instanceMethod yX1_alongLastRow, Cond.selects RX1 yX1_alongLastRow yX1_alongLastRow, Cond.code yX1_alongLastRow cX1_alongLastRow 9 (some .long), Cond.methodLink RX1 50 yJ6_bitCount_0f7a4, Cond.static yJ6_bitCount_0f7a4, Cond.initialized RJ6, Cond.code yJ6_bitCount_0f7a4 cJ6_bitCount_0f7a4 1 (some .int), Cond.constant RJ6 265 (1431655765), Cond.constant RJ6 266 (858993459), Cond.constant RJ6 267 (252645135)]
def wsX3_treeProducts : List Cond := .code yX3_treeProducts cX3_treeProducts 2 (some .long) :: ((wsX3_treeProducts_r1 ++ (wsX3_treeProducts_r2 ++ wsX3_treeProducts_r3)) ++ wsX30 ++ wsX10)
def wsX3_trees_r1 : List Cond := [Cond.constantLong RX3 133 (-3), Cond.methodLink RX3 89 yX3_isWay, Cond.static yX3_isWay, Cond.initialized RX3, Cond.code yX3_isWay cX3_isWay 1 (some .boolean), Cond.methodLink RX3 135 yX3_treeProducts, Cond.instanceMethod yX3_treeProducts, Cond.selects RX3 yX3_treeProducts yX3_treeProducts, Cond.code yX3_treeProducts cX3_treeProducts 2 (some .long), Cond.fieldLink RX3 52 "FewLines" "minors" "LFewLines$Minors;", Cond.methodLink RX3 186 yX3_fillMinors, Cond.instanceMethod yX3_fillMinors, Cond.selects RX3 yX3_fillMinors yX3_fillMinors, Cond.code yX3_fillMinors cX3_fillMinors 3 none, Cond.fieldLink RX3 9 "FewLines" "nodeCount" "I", Cond.fieldLink RX3 13 "FewLines" "lineCount" "I", Cond.fieldLink RX3 16 "FewLines" "lesserEnd" "[I", Cond.fieldLink RX3 20 "FewLines" "greaterEnd" "[I", Cond.methodLink RX3 192 yX1_clear, Cond.instanceMethod yX1_clear, Cond.selects RX1 yX1_clear yX1_clear, Cond.initialized RX1, Cond.code yX1_clear cX1_clear 2 none, Cond.methodLink RX1 26 Lib.Math.min.name]
def wsX3_trees_r2 : List Cond := [Cond.static Lib.Math.min.name, Cond.initialized "java/lang/Math", Cond.code Lib.Math.min.name Lib.Math.min.code 2 (some .int), Cond.fieldLink RX1 22 "FewLines$Minors" "size" "I", Cond.fieldLink RX1 9 "FewLines$Minors" "matrix" "[J", Cond.methodLink RX1 32 yJ7_fill_d0a16, Cond.static yJ7_fill_d0a16, Cond.initialized RJ7, Cond.code yJ7_fill_d0a16 cJ7_fill_d0a16 5 none, Cond.methodLink RX3 151 yX3_weightIn, Cond.instanceMethod yX3_weightIn, Cond.selects RX3 yX3_weightIn yX3_weightIn, Cond.code yX3_weightIn cX3_weightIn 3 (some .int), Cond.fieldLink RX3 23 "FewLines" "weightOf" "[I", Cond.fieldLink RX3 26 "FewLines" "keptOf" "[I", Cond.methodLink RX3 193 yX1_add, Cond.instanceMethod yX1_add, Cond.selects RX1 yX1_add yX1_add, Cond.code yX1_add cX1_add 4 none, Cond.methodLink RX3 189 yX1_without, Cond.instanceMethod yX1_without, Cond.selects RX1 yX1_without yX1_without, Cond.code yX1_without cX1_without 5 (some .long), Cond.fieldLink RX1 19 "FewLines$Minors" "minorOf" "[J"]
def wsX3_trees_r3 : List Cond := [Cond.methodLink RX1 38 yX1_choose, Cond.instanceMethod yX1_choose, Cond.selects RX1 yX1_choose yX1_choose, Cond.code yX1_choose cX1_choose 4 (some .int), Cond.fieldLink RX1 15 "FewLines$Minors" "chosen" "[I", Cond.static yX3_isIn, Cond.code yX3_isIn cX3_isIn 2 (some .boolean), Cond.methodLink RX1 42 yX1_alongLastRow, Cond.instanceMethod yX1_alongLastRow, Cond.selects RX1 yX1_alongLastRow yX1_alongLastRow, Cond.code yX1_alongLastRow cX1_alongLastRow 9 (some .long), Cond.methodLink RX1 50 yJ6_bitCount_0f7a4, Cond.static yJ6_bitCount_0f7a4, Cond.initialized RJ6, Cond.code yJ6_bitCount_0f7a4 cJ6_bitCount_0f7a4 1 (some .int), Cond.constant RJ6 265 (1431655765), Cond.constant RJ6 266 (858993459), Cond.constant RJ6 267 (252645135)]
def wsX3_trees : List Cond := .code yX3_trees cX3_trees 2 (some .long) :: ((wsX3_trees_r1 ++ (wsX3_trees_r2 ++ wsX3_trees_r3)) ++ wsX30 ++ wsX10)
def wsX3_partingProducts_r1 : List Cond := [Cond.fieldLink RX3 52 "FewLines" "minors" "LFewLines$Minors;", Cond.methodLink RX3 186 yX3_fillMinors, Cond.instanceMethod yX3_fillMinors, Cond.selects RX3 yX3_fillMinors yX3_fillMinors, Cond.initialized RX3, Cond.code yX3_fillMinors cX3_fillMinors 3 none, Cond.fieldLink RX3 9 "FewLines" "nodeCount" "I", Cond.fieldLink RX3 13 "FewLines" "lineCount" "I", Cond.fieldLink RX3 16 "FewLines" "lesserEnd" "[I", Cond.fieldLink RX3 20 "FewLines" "greaterEnd" "[I", Cond.methodLink RX3 192 yX1_clear, Cond.instanceMethod yX1_clear, Cond.selects RX1 yX1_clear yX1_clear, Cond.initialized RX1, Cond.code yX1_clear cX1_clear 2 none, Cond.methodLink RX1 26 Lib.Math.min.name, Cond.static Lib.Math.min.name, Cond.initialized "java/lang/Math", Cond.code Lib.Math.min.name Lib.Math.min.code 2 (some .int), Cond.fieldLink RX1 22 "FewLines$Minors" "size" "I", Cond.fieldLink RX1 9 "FewLines$Minors" "matrix" "[J", Cond.methodLink RX1 32 yJ7_fill_d0a16, Cond.static yJ7_fill_d0a16, Cond.initialized RJ7]
def wsX3_partingProducts_r2 : List Cond := [Cond.code yJ7_fill_d0a16 cJ7_fill_d0a16 5 none, Cond.methodLink RX3 151 yX3_weightIn, Cond.instanceMethod yX3_weightIn, Cond.selects RX3 yX3_weightIn yX3_weightIn, Cond.code yX3_weightIn cX3_weightIn 3 (some .int), Cond.fieldLink RX3 23 "FewLines" "weightOf" "[I", Cond.fieldLink RX3 26 "FewLines" "keptOf" "[I", Cond.methodLink RX3 193 yX1_add, Cond.instanceMethod yX1_add, Cond.selects RX1 yX1_add yX1_add, Cond.code yX1_add cX1_add 4 none, Cond.methodLink RX3 189 yX1_without, Cond.instanceMethod yX1_without, Cond.selects RX1 yX1_without yX1_without, Cond.code yX1_without cX1_without 5 (some .long), Cond.fieldLink RX1 19 "FewLines$Minors" "minorOf" "[J", Cond.methodLink RX1 38 yX1_choose, Cond.instanceMethod yX1_choose, Cond.selects RX1 yX1_choose yX1_choose, Cond.code yX1_choose cX1_choose 4 (some .int), Cond.fieldLink RX1 15 "FewLines$Minors" "chosen" "[I", Cond.static yX3_isIn, Cond.code yX3_isIn cX3_isIn 2 (some .boolean), Cond.methodLink RX1 42 yX1_alongLastRow]
def wsX3_partingProducts_r3 : List Cond := [Cond.instanceMethod yX1_alongLastRow, Cond.selects RX1 yX1_alongLastRow yX1_alongLastRow, Cond.code yX1_alongLastRow cX1_alongLastRow 9 (some .long), Cond.methodLink RX1 50 yJ6_bitCount_0f7a4, Cond.static yJ6_bitCount_0f7a4, Cond.initialized RJ6, Cond.code yJ6_bitCount_0f7a4 cJ6_bitCount_0f7a4 1 (some .int), Cond.constant RJ6 265 (1431655765), Cond.constant RJ6 266 (858993459), Cond.constant RJ6 267 (252645135)]
def wsX3_partingProducts : List Cond := .code yX3_partingProducts cX3_partingProducts 4 (some .long) :: ((wsX3_partingProducts_r1 ++ (wsX3_partingProducts_r2 ++ wsX3_partingProducts_r3)) ++ wsX30 ++ wsX10)
def wsX3_resistance_r1 : List Cond := [Cond.constantLong RX3 139 (-2), Cond.constantLong RX3 133 (-3), Cond.methodLink RX3 66 yX3_isNode, Cond.instanceMethod yX3_isNode, Cond.selects RX3 yX3_isNode yX3_isNode, Cond.initialized RX3, Cond.code yX3_isNode cX3_isNode 2 (some .boolean), Cond.fieldLink RX3 9 "FewLines" "nodeCount" "I", Cond.methodLink RX3 89 yX3_isWay, Cond.static yX3_isWay, Cond.code yX3_isWay cX3_isWay 1 (some .boolean), Cond.methodLink RX3 62 yX3_isWithin, Cond.static yX3_isWithin, Cond.code yX3_isWithin cX3_isWithin 3 (some .boolean), Cond.methodLink RX3 141 yX3_partingProducts, Cond.instanceMethod yX3_partingProducts, Cond.selects RX3 yX3_partingProducts yX3_partingProducts, Cond.code yX3_partingProducts cX3_partingProducts 4 (some .long), Cond.fieldLink RX3 52 "FewLines" "minors" "LFewLines$Minors;", Cond.methodLink RX3 186 yX3_fillMinors, Cond.instanceMethod yX3_fillMinors, Cond.selects RX3 yX3_fillMinors yX3_fillMinors, Cond.code yX3_fillMinors cX3_fillMinors 3 none, Cond.fieldLink RX3 13 "FewLines" "lineCount" "I"]
def wsX3_resistance_r2 : List Cond := [Cond.fieldLink RX3 16 "FewLines" "lesserEnd" "[I", Cond.fieldLink RX3 20 "FewLines" "greaterEnd" "[I", Cond.methodLink RX3 192 yX1_clear, Cond.instanceMethod yX1_clear, Cond.selects RX1 yX1_clear yX1_clear, Cond.initialized RX1, Cond.code yX1_clear cX1_clear 2 none, Cond.methodLink RX1 26 Lib.Math.min.name, Cond.static Lib.Math.min.name, Cond.initialized "java/lang/Math", Cond.code Lib.Math.min.name Lib.Math.min.code 2 (some .int), Cond.fieldLink RX1 22 "FewLines$Minors" "size" "I", Cond.fieldLink RX1 9 "FewLines$Minors" "matrix" "[J", Cond.methodLink RX1 32 yJ7_fill_d0a16, Cond.static yJ7_fill_d0a16, Cond.initialized RJ7, Cond.code yJ7_fill_d0a16 cJ7_fill_d0a16 5 none, Cond.methodLink RX3 151 yX3_weightIn, Cond.instanceMethod yX3_weightIn, Cond.selects RX3 yX3_weightIn yX3_weightIn, Cond.code yX3_weightIn cX3_weightIn 3 (some .int), Cond.fieldLink RX3 23 "FewLines" "weightOf" "[I", Cond.fieldLink RX3 26 "FewLines" "keptOf" "[I", Cond.methodLink RX3 193 yX1_add]
def wsX3_resistance_r3 : List Cond := [Cond.instanceMethod yX1_add, Cond.selects RX1 yX1_add yX1_add, Cond.code yX1_add cX1_add 4 none, Cond.methodLink RX3 189 yX1_without, Cond.instanceMethod yX1_without, Cond.selects RX1 yX1_without yX1_without, Cond.code yX1_without cX1_without 5 (some .long), Cond.fieldLink RX1 19 "FewLines$Minors" "minorOf" "[J", Cond.methodLink RX1 38 yX1_choose, Cond.instanceMethod yX1_choose, Cond.selects RX1 yX1_choose yX1_choose, Cond.code yX1_choose cX1_choose 4 (some .int), Cond.fieldLink RX1 15 "FewLines$Minors" "chosen" "[I", Cond.static yX3_isIn, Cond.code yX3_isIn cX3_isIn 2 (some .boolean), Cond.methodLink RX1 42 yX1_alongLastRow, Cond.instanceMethod yX1_alongLastRow, Cond.selects RX1 yX1_alongLastRow yX1_alongLastRow, Cond.code yX1_alongLastRow cX1_alongLastRow 9 (some .long), Cond.methodLink RX1 50 yJ6_bitCount_0f7a4, Cond.static yJ6_bitCount_0f7a4, Cond.initialized RJ6, Cond.code yJ6_bitCount_0f7a4 cJ6_bitCount_0f7a4 1 (some .int), Cond.constant RJ6 265 (1431655765)]
def wsX3_resistance_r4 : List Cond := [Cond.constant RJ6 266 (858993459), Cond.constant RJ6 267 (252645135), Cond.methodLink RX3 135 yX3_treeProducts, Cond.instanceMethod yX3_treeProducts, Cond.selects RX3 yX3_treeProducts yX3_treeProducts, Cond.code yX3_treeProducts cX3_treeProducts 2 (some .long), Cond.methodLink RX3 129 yX3_inLowestTerms, Cond.static yX3_inLowestTerms, Cond.code yX3_inLowestTerms cX3_inLowestTerms 7 (some .long), Cond.constantLong RX3 198 (-1), Cond.methodLink RX3 194 yX3_commonDivisor, Cond.static yX3_commonDivisor, Cond.code yX3_commonDivisor cX3_commonDivisor 11 (some .long)]
def wsX3_resistance : List Cond := .code yX3_resistance cX3_resistance 5 (some .long) :: ((wsX3_resistance_r1 ++ (wsX3_resistance_r2 ++ (wsX3_resistance_r3 ++ wsX3_resistance_r4))) ++ wsX30 ++ wsX10)
def wsX3_load_r1 : List Cond := [Cond.constantLong RX3 139 (-2), Cond.constantLong RX3 133 (-3), Cond.fieldLink RX3 16 "FewLines" "lesserEnd" "[I", Cond.fieldLink RX3 20 "FewLines" "greaterEnd" "[I", Cond.fieldLink RX3 23 "FewLines" "weightOf" "[I", Cond.methodLink RX3 79 yX3_isLine, Cond.instanceMethod yX3_isLine, Cond.selects RX3 yX3_isLine yX3_isLine, Cond.initialized RX3, Cond.code yX3_isLine cX3_isLine 2 (some .boolean), Cond.fieldLink RX3 13 "FewLines" "lineCount" "I", Cond.methodLink RX3 62 yX3_isWithin, Cond.static yX3_isWithin, Cond.code yX3_isWithin cX3_isWithin 3 (some .boolean), Cond.methodLink RX3 141 yX3_partingProducts, Cond.instanceMethod yX3_partingProducts, Cond.selects RX3 yX3_partingProducts yX3_partingProducts, Cond.code yX3_partingProducts cX3_partingProducts 4 (some .long), Cond.fieldLink RX3 52 "FewLines" "minors" "LFewLines$Minors;", Cond.methodLink RX3 186 yX3_fillMinors, Cond.instanceMethod yX3_fillMinors, Cond.selects RX3 yX3_fillMinors yX3_fillMinors, Cond.code yX3_fillMinors cX3_fillMinors 3 none, Cond.fieldLink RX3 9 "FewLines" "nodeCount" "I"]
def wsX3_load_r2 : List Cond := [Cond.methodLink RX3 192 yX1_clear, Cond.instanceMethod yX1_clear, Cond.selects RX1 yX1_clear yX1_clear, Cond.initialized RX1, Cond.code yX1_clear cX1_clear 2 none, Cond.methodLink RX1 26 Lib.Math.min.name, Cond.static Lib.Math.min.name, Cond.initialized "java/lang/Math", Cond.code Lib.Math.min.name Lib.Math.min.code 2 (some .int), Cond.fieldLink RX1 22 "FewLines$Minors" "size" "I", Cond.fieldLink RX1 9 "FewLines$Minors" "matrix" "[J", Cond.methodLink RX1 32 yJ7_fill_d0a16, Cond.static yJ7_fill_d0a16, Cond.initialized RJ7, Cond.code yJ7_fill_d0a16 cJ7_fill_d0a16 5 none, Cond.methodLink RX3 151 yX3_weightIn, Cond.instanceMethod yX3_weightIn, Cond.selects RX3 yX3_weightIn yX3_weightIn, Cond.code yX3_weightIn cX3_weightIn 3 (some .int), Cond.fieldLink RX3 26 "FewLines" "keptOf" "[I", Cond.methodLink RX3 193 yX1_add, Cond.instanceMethod yX1_add, Cond.selects RX1 yX1_add yX1_add, Cond.code yX1_add cX1_add 4 none]
def wsX3_load_r3 : List Cond := [Cond.methodLink RX3 189 yX1_without, Cond.instanceMethod yX1_without, Cond.selects RX1 yX1_without yX1_without, Cond.code yX1_without cX1_without 5 (some .long), Cond.fieldLink RX1 19 "FewLines$Minors" "minorOf" "[J", Cond.methodLink RX1 38 yX1_choose, Cond.instanceMethod yX1_choose, Cond.selects RX1 yX1_choose yX1_choose, Cond.code yX1_choose cX1_choose 4 (some .int), Cond.fieldLink RX1 15 "FewLines$Minors" "chosen" "[I", Cond.static yX3_isIn, Cond.code yX3_isIn cX3_isIn 2 (some .boolean), Cond.methodLink RX1 42 yX1_alongLastRow, Cond.instanceMethod yX1_alongLastRow, Cond.selects RX1 yX1_alongLastRow yX1_alongLastRow, Cond.code yX1_alongLastRow cX1_alongLastRow 9 (some .long), Cond.methodLink RX1 50 yJ6_bitCount_0f7a4, Cond.static yJ6_bitCount_0f7a4, Cond.initialized RJ6, Cond.code yJ6_bitCount_0f7a4 cJ6_bitCount_0f7a4 1 (some .int), Cond.constant RJ6 265 (1431655765), Cond.constant RJ6 266 (858993459), Cond.constant RJ6 267 (252645135), Cond.methodLink RX3 135 yX3_treeProducts]
def wsX3_load_r4 : List Cond := [Cond.instanceMethod yX3_treeProducts, Cond.selects RX3 yX3_treeProducts yX3_treeProducts, Cond.code yX3_treeProducts cX3_treeProducts 2 (some .long), Cond.methodLink RX3 129 yX3_inLowestTerms, Cond.static yX3_inLowestTerms, Cond.code yX3_inLowestTerms cX3_inLowestTerms 7 (some .long), Cond.constantLong RX3 198 (-1), Cond.methodLink RX3 194 yX3_commonDivisor, Cond.static yX3_commonDivisor, Cond.code yX3_commonDivisor cX3_commonDivisor 11 (some .long)]
def wsX3_load : List Cond := .code yX3_load cX3_load 5 (some .long) :: ((wsX3_load_r1 ++ (wsX3_load_r2 ++ (wsX3_load_r3 ++ wsX3_load_r4))) ++ wsX30 ++ wsX10)
def wsX3_weightTogether : List Cond := .code yX3_weightTogether cX3_weightTogether 4 (some .int) :: ([.fieldLink RX3 13 "FewLines" "lineCount" "I", .methodLink RX3 151 yX3_weightIn, .instanceMethod yX3_weightIn, .selects RX3 yX3_weightIn yX3_weightIn, .initialized RX3, .code yX3_weightIn cX3_weightIn 3 (some .int), .fieldLink RX3 23 "FewLines" "weightOf" "[I", .fieldLink RX3 26 "FewLines" "keptOf" "[I"] ++ wsX30)
def wsX3_count : List Cond := .code yX3_count cX3_count 2 (some .int) :: ([.fieldLink RX3 9 "FewLines" "nodeCount" "I", .fieldLink RX3 13 "FewLines" "lineCount" "I", .methodLink RX3 145 yX3_linesOf, .instanceMethod yX3_linesOf, .selects RX3 yX3_linesOf yX3_linesOf, .initialized RX3, .code yX3_linesOf cX3_linesOf 4 (some .int), .methodLink RX3 151 yX3_weightIn, .instanceMethod yX3_weightIn, .selects RX3 yX3_weightIn yX3_weightIn, .code yX3_weightIn cX3_weightIn 3 (some .int), .fieldLink RX3 23 "FewLines" "weightOf" "[I", .fieldLink RX3 26 "FewLines" "keptOf" "[I", .methodLink RX3 116 yJ6_bitCount_0f7a4, .static yJ6_bitCount_0f7a4, .initialized RJ6, .code yJ6_bitCount_0f7a4 cJ6_bitCount_0f7a4 1 (some .int), .constant RJ6 265 (1431655765), .constant RJ6 266 (858993459), .constant RJ6 267 (252645135), .methodLink RX3 148 yX3_weightTogether, .instanceMethod yX3_weightTogether, .selects RX3 yX3_weightTogether yX3_weightTogether, .code yX3_weightTogether cX3_weightTogether 4 (some .int)] ++ wsX30)
def wsX4_init : List Cond := .code yX4_init cX4_init 1 none :: ([.methodLink RX4 1 objectInit, .instanceMethod objectInit, .code objectInit ⟨#[0xb1]⟩ 1 none, .fieldLink RX4 7 "FewLinesModel" "n" "I", .arrayClass .int, .fieldLink RX4 13 "FewLinesModel" "as" "[I", .fieldLink RX4 17 "FewLinesModel" "bs" "[I", .fieldLink RX4 20 "FewLinesModel" "weight" "[I", .fieldLink RX4 23 "FewLinesModel" "kept" "[I", .fieldLink RX4 26 "FewLinesModel" "forest" "[I", .fieldLink RX4 29 "FewLinesModel" "part" "[I", .fieldLink RX4 32 "FewLinesModel" "whole" "[I", .fieldLink RX4 35 "FewLinesModel" "thin" "[I"] ++ wsX40)
def wsX4_in : List Cond := .code yX4_in cX4_in 3 (some .boolean) :: ([])
def wsX4_isNode : List Cond := .code yX4_isNode cX4_isNode 2 (some .boolean) :: ([.fieldLink RX4 7 "FewLinesModel" "n" "I", .methodLink RX4 38 yX4_in, .static yX4_in, .initialized RX4, .code yX4_in cX4_in 3 (some .boolean)] ++ wsX40)
def wsX4_isLine : List Cond := .code yX4_isLine cX4_isLine 2 (some .boolean) :: ([.fieldLink RX4 42 "FewLinesModel" "lines" "I", .methodLink RX4 38 yX4_in, .static yX4_in, .initialized RX4, .code yX4_in cX4_in 3 (some .boolean)] ++ wsX40)
def wsX4_nodes : List Cond := .code yX4_nodes cX4_nodes 2 (some .int) :: ([.fieldLink RX4 7 "FewLinesModel" "n" "I", .fieldLink RX4 42 "FewLinesModel" "lines" "I", .methodLink RX4 38 yX4_in, .static yX4_in, .initialized RX4, .code yX4_in cX4_in 3 (some .boolean)] ++ wsX40)
def wsX4_line : List Cond := .code yX4_line cX4_line 4 (some .int) :: ([.fieldLink RX4 42 "FewLinesModel" "lines" "I", .fieldLink RX4 13 "FewLinesModel" "as" "[I", .fieldLink RX4 17 "FewLinesModel" "bs" "[I", .fieldLink RX4 20 "FewLinesModel" "weight" "[I", .fieldLink RX4 23 "FewLinesModel" "kept" "[I", .methodLink RX4 45 yX4_isNode, .instanceMethod yX4_isNode, .selects RX4 yX4_isNode yX4_isNode, .initialized RX4, .code yX4_isNode cX4_isNode 2 (some .boolean), .fieldLink RX4 7 "FewLinesModel" "n" "I", .methodLink RX4 38 yX4_in, .static yX4_in, .code yX4_in cX4_in 3 (some .boolean)] ++ wsX40)
def wsX4_drop : List Cond := .code yX4_drop cX4_drop 3 (some .int) :: ([.fieldLink RX4 42 "FewLinesModel" "lines" "I", .fieldLink RX4 13 "FewLinesModel" "as" "[I", .fieldLink RX4 17 "FewLinesModel" "bs" "[I", .fieldLink RX4 20 "FewLinesModel" "weight" "[I", .fieldLink RX4 23 "FewLinesModel" "kept" "[I", .methodLink RX4 49 yX4_isLine, .instanceMethod yX4_isLine, .selects RX4 yX4_isLine yX4_isLine, .initialized RX4, .code yX4_isLine cX4_isLine 2 (some .boolean), .methodLink RX4 38 yX4_in, .static yX4_in, .code yX4_in cX4_in 3 (some .boolean)] ++ wsX40)
def wsX4_keep : List Cond := .code yX4_keep cX4_keep 4 (some .int) :: ([.fieldLink RX4 23 "FewLinesModel" "kept" "[I", .methodLink RX4 49 yX4_isLine, .instanceMethod yX4_isLine, .selects RX4 yX4_isLine yX4_isLine, .initialized RX4, .code yX4_isLine cX4_isLine 2 (some .boolean), .fieldLink RX4 42 "FewLinesModel" "lines" "I", .methodLink RX4 38 yX4_in, .static yX4_in, .code yX4_in cX4_in 3 (some .boolean)] ++ wsX40)
def wsX4_apart : List Cond := .code yX4_apart cX4_apart 2 none :: ([.fieldLink RX4 29 "FewLinesModel" "part" "[I"] ++ wsX40)
def wsX4_join : List Cond := .code yX4_join cX4_join 5 (some .boolean) :: ([.fieldLink RX4 29 "FewLinesModel" "part" "[I", .fieldLink RX4 13 "FewLinesModel" "as" "[I", .fieldLink RX4 17 "FewLinesModel" "bs" "[I", .fieldLink RX4 7 "FewLinesModel" "n" "I"] ++ wsX40)
def wsX4_findForests : List Cond := .code yX4_findForests cX4_findForests 4 (some .int) :: ([.fieldLink RX4 42 "FewLinesModel" "lines" "I", .fieldLink RX4 26 "FewLinesModel" "forest" "[I", .methodLink RX4 63 yX4_apart, .instanceMethod yX4_apart, .selects RX4 yX4_apart yX4_apart, .initialized RX4, .code yX4_apart cX4_apart 2 none, .fieldLink RX4 29 "FewLinesModel" "part" "[I", .methodLink RX4 66 yX4_join, .instanceMethod yX4_join, .selects RX4 yX4_join yX4_join, .code yX4_join cX4_join 5 (some .boolean), .fieldLink RX4 13 "FewLinesModel" "as" "[I", .fieldLink RX4 17 "FewLinesModel" "bs" "[I", .fieldLink RX4 7 "FewLinesModel" "n" "I"] ++ wsX40)
def wsX4_at_r1 : List Cond := [Cond.fieldLink RX4 26 "FewLinesModel" "forest" "[I", Cond.fieldLink RX4 13 "FewLinesModel" "as" "[I", Cond.fieldLink RX4 17 "FewLinesModel" "bs" "[I", Cond.fieldLink RX4 20 "FewLinesModel" "weight" "[I", Cond.fieldLink RX4 23 "FewLinesModel" "kept" "[I", Cond.methodLink RX4 49 yX4_isLine, Cond.instanceMethod yX4_isLine, Cond.selects RX4 yX4_isLine yX4_isLine, Cond.initialized RX4, Cond.code yX4_isLine cX4_isLine 2 (some .boolean), Cond.fieldLink RX4 42 "FewLinesModel" "lines" "I", Cond.methodLink RX4 38 yX4_in, Cond.static yX4_in, Cond.code yX4_in cX4_in 3 (some .boolean), Cond.methodLink RX4 52 yX4_findForests, Cond.instanceMethod yX4_findForests, Cond.selects RX4 yX4_findForests yX4_findForests, Cond.code yX4_findForests cX4_findForests 4 (some .int), Cond.methodLink RX4 63 yX4_apart, Cond.instanceMethod yX4_apart, Cond.selects RX4 yX4_apart yX4_apart, Cond.code yX4_apart cX4_apart 2 none, Cond.fieldLink RX4 29 "FewLinesModel" "part" "[I", Cond.methodLink RX4 66 yX4_join]
def wsX4_at_r2 : List Cond := [Cond.instanceMethod yX4_join, Cond.selects RX4 yX4_join yX4_join, Cond.code yX4_join cX4_join 5 (some .boolean), Cond.fieldLink RX4 7 "FewLinesModel" "n" "I"]
def wsX4_at : List Cond := .code yX4_at cX4_at 3 (some .int) :: ((wsX4_at_r1 ++ wsX4_at_r2) ++ wsX40)
def wsX4_cutOf : List Cond := .code yX4_cutOf cX4_cutOf 6 (some .int) :: ([.fieldLink RX4 42 "FewLinesModel" "lines" "I", .fieldLink RX4 13 "FewLinesModel" "as" "[I", .fieldLink RX4 17 "FewLinesModel" "bs" "[I", .fieldLink RX4 20 "FewLinesModel" "weight" "[I", .fieldLink RX4 23 "FewLinesModel" "kept" "[I"] ++ wsX40)
def wsX4_isSide : List Cond := .code yX4_isSide cX4_isSide 2 (some .boolean) :: ([.fieldLink RX4 7 "FewLinesModel" "n" "I", .methodLink RX4 38 yX4_in, .static yX4_in, .initialized RX4, .code yX4_in cX4_in 3 (some .boolean)] ++ wsX40)
def wsX4_cut : List Cond := .code yX4_cut cX4_cut 3 (some .int) :: ([.methodLink RX4 56 yX4_isSide, .instanceMethod yX4_isSide, .selects RX4 yX4_isSide yX4_isSide, .initialized RX4, .code yX4_isSide cX4_isSide 2 (some .boolean), .fieldLink RX4 7 "FewLinesModel" "n" "I", .methodLink RX4 38 yX4_in, .static yX4_in, .code yX4_in cX4_in 3 (some .boolean), .methodLink RX4 59 yX4_cutOf, .instanceMethod yX4_cutOf, .selects RX4 yX4_cutOf yX4_cutOf, .code yX4_cutOf cX4_cutOf 6 (some .int), .fieldLink RX4 42 "FewLinesModel" "lines" "I", .fieldLink RX4 13 "FewLinesModel" "as" "[I", .fieldLink RX4 17 "FewLinesModel" "bs" "[I", .fieldLink RX4 20 "FewLinesModel" "weight" "[I", .fieldLink RX4 23 "FewLinesModel" "kept" "[I"] ++ wsX40)
def wsX4_worst : List Cond := .code yX4_worst cX4_worst 5 (some .int) :: ([.fieldLink RX4 7 "FewLinesModel" "n" "I", .methodLink RX4 38 yX4_in, .static yX4_in, .initialized RX4, .code yX4_in cX4_in 3 (some .boolean), .methodLink RX4 59 yX4_cutOf, .instanceMethod yX4_cutOf, .selects RX4 yX4_cutOf yX4_cutOf, .code yX4_cutOf cX4_cutOf 6 (some .int), .fieldLink RX4 42 "FewLinesModel" "lines" "I", .fieldLink RX4 13 "FewLinesModel" "as" "[I", .fieldLink RX4 17 "FewLinesModel" "bs" "[I", .fieldLink RX4 20 "FewLinesModel" "weight" "[I", .fieldLink RX4 23 "FewLinesModel" "kept" "[I"] ++ wsX40)
def wsX4_promise : List Cond := .code yX4_promise cX4_promise 6 (some .int) :: ([.fieldLink RX4 7 "FewLinesModel" "n" "I", .methodLink RX4 38 yX4_in, .static yX4_in, .initialized RX4, .code yX4_in cX4_in 3 (some .boolean), .methodLink RX4 59 yX4_cutOf, .instanceMethod yX4_cutOf, .selects RX4 yX4_cutOf yX4_cutOf, .code yX4_cutOf cX4_cutOf 6 (some .int), .fieldLink RX4 42 "FewLinesModel" "lines" "I", .fieldLink RX4 13 "FewLinesModel" "as" "[I", .fieldLink RX4 17 "FewLinesModel" "bs" "[I", .fieldLink RX4 20 "FewLinesModel" "weight" "[I", .fieldLink RX4 23 "FewLinesModel" "kept" "[I"] ++ wsX40)
def wsX4_forests : List Cond := .code yX4_forests cX4_forests 1 (some .int) :: ([.methodLink RX4 52 yX4_findForests, .instanceMethod yX4_findForests, .selects RX4 yX4_findForests yX4_findForests, .initialized RX4, .code yX4_findForests cX4_findForests 4 (some .int), .fieldLink RX4 42 "FewLinesModel" "lines" "I", .fieldLink RX4 26 "FewLinesModel" "forest" "[I", .methodLink RX4 63 yX4_apart, .instanceMethod yX4_apart, .selects RX4 yX4_apart yX4_apart, .code yX4_apart cX4_apart 2 none, .fieldLink RX4 29 "FewLinesModel" "part" "[I", .methodLink RX4 66 yX4_join, .instanceMethod yX4_join, .selects RX4 yX4_join yX4_join, .code yX4_join cX4_join 5 (some .boolean), .fieldLink RX4 13 "FewLinesModel" "as" "[I", .fieldLink RX4 17 "FewLinesModel" "bs" "[I", .fieldLink RX4 7 "FewLinesModel" "n" "I"] ++ wsX40)
def wsX4_keptMany : List Cond := .code yX4_keptMany cX4_keptMany 3 (some .int) :: ([.fieldLink RX4 42 "FewLinesModel" "lines" "I", .fieldLink RX4 23 "FewLinesModel" "kept" "[I"] ++ wsX40)
def wsX4_peel_r1 : List Cond := [Cond.fieldLink RX4 42 "FewLinesModel" "lines" "I", Cond.fieldLink RX4 23 "FewLinesModel" "kept" "[I", Cond.fieldLink RX4 26 "FewLinesModel" "forest" "[I", Cond.fieldLink RX4 20 "FewLinesModel" "weight" "[I", Cond.methodLink RX4 38 yX4_in, Cond.static yX4_in, Cond.initialized RX4, Cond.code yX4_in cX4_in 3 (some .boolean), Cond.methodLink RX4 52 yX4_findForests, Cond.instanceMethod yX4_findForests, Cond.selects RX4 yX4_findForests yX4_findForests, Cond.code yX4_findForests cX4_findForests 4 (some .int), Cond.methodLink RX4 63 yX4_apart, Cond.instanceMethod yX4_apart, Cond.selects RX4 yX4_apart yX4_apart, Cond.code yX4_apart cX4_apart 2 none, Cond.fieldLink RX4 29 "FewLinesModel" "part" "[I", Cond.methodLink RX4 66 yX4_join, Cond.instanceMethod yX4_join, Cond.selects RX4 yX4_join yX4_join, Cond.code yX4_join cX4_join 5 (some .boolean), Cond.fieldLink RX4 13 "FewLinesModel" "as" "[I", Cond.fieldLink RX4 17 "FewLinesModel" "bs" "[I", Cond.fieldLink RX4 7 "FewLinesModel" "n" "I"]
def wsX4_peel_r2 : List Cond := [Cond.methodLink RX4 69 yX4_keptMany, Cond.instanceMethod yX4_keptMany, Cond.selects RX4 yX4_keptMany yX4_keptMany, Cond.code yX4_keptMany cX4_keptMany 3 (some .int)]
def wsX4_peel : List Cond := .code yX4_peel cX4_peel 3 (some .int) :: ((wsX4_peel_r1 ++ wsX4_peel_r2) ++ wsX40)
def wsX4_findFar : List Cond := .code yX4_findFar cX4_findFar 7 none :: ([.fieldLink RX4 7 "FewLinesModel" "n" "I", .fieldLink RX4 42 "FewLinesModel" "lines" "I", .fieldLink RX4 20 "FewLinesModel" "weight" "[I", .fieldLink RX4 13 "FewLinesModel" "as" "[I", .fieldLink RX4 17 "FewLinesModel" "bs" "[I"] ++ wsX40)
def wsX4_keptSet : List Cond := .code yX4_keptSet cX4_keptSet 3 (some .int) :: ([.fieldLink RX4 42 "FewLinesModel" "lines" "I", .fieldLink RX4 23 "FewLinesModel" "kept" "[I"] ++ wsX40)
def wsX4_greedy : List Cond := .code yX4_greedy cX4_greedy 5 (some .int) :: ([.fieldLink RX4 42 "FewLinesModel" "lines" "I", .fieldLink RX4 20 "FewLinesModel" "weight" "[I", .fieldLink RX4 35 "FewLinesModel" "thin" "[I", .fieldLink RX4 13 "FewLinesModel" "as" "[I", .fieldLink RX4 17 "FewLinesModel" "bs" "[I", .fieldLink RX4 23 "FewLinesModel" "kept" "[I", .methodLink RX4 38 yX4_in, .static yX4_in, .initialized RX4, .code yX4_in cX4_in 3 (some .boolean), .methodLink RX4 72 yX4_findFar, .instanceMethod yX4_findFar, .selects RX4 yX4_findFar yX4_findFar, .code yX4_findFar cX4_findFar 7 none, .fieldLink RX4 7 "FewLinesModel" "n" "I", .methodLink RX4 69 yX4_keptMany, .instanceMethod yX4_keptMany, .selects RX4 yX4_keptMany yX4_keptMany, .code yX4_keptMany cX4_keptMany 3 (some .int)] ++ wsX40)
def wsX4_many : List Cond := .code yX4_many cX4_many 3 (some .int) :: ([])
def wsX4_isWithin : List Cond := .code yX4_isWithin cX4_isWithin 5 (some .boolean) :: ([.fieldLink RX4 35 "FewLinesModel" "thin" "[I", .fieldLink RX4 7 "FewLinesModel" "n" "I", .fieldLink RX4 32 "FewLinesModel" "whole" "[I", .methodLink RX4 72 yX4_findFar, .instanceMethod yX4_findFar, .selects RX4 yX4_findFar yX4_findFar, .initialized RX4, .code yX4_findFar cX4_findFar 7 none, .fieldLink RX4 42 "FewLinesModel" "lines" "I", .fieldLink RX4 20 "FewLinesModel" "weight" "[I", .fieldLink RX4 13 "FewLinesModel" "as" "[I", .fieldLink RX4 17 "FewLinesModel" "bs" "[I"] ++ wsX40)
def wsX4_fewestBy : List Cond := .code yX4_fewestBy cX4_fewestBy 4 (some .int) :: ([.fieldLink RX4 42 "FewLinesModel" "lines" "I", .fieldLink RX4 32 "FewLinesModel" "whole" "[I", .methodLink RX4 72 yX4_findFar, .instanceMethod yX4_findFar, .selects RX4 yX4_findFar yX4_findFar, .initialized RX4, .code yX4_findFar cX4_findFar 7 none, .fieldLink RX4 7 "FewLinesModel" "n" "I", .fieldLink RX4 20 "FewLinesModel" "weight" "[I", .fieldLink RX4 13 "FewLinesModel" "as" "[I", .fieldLink RX4 17 "FewLinesModel" "bs" "[I", .methodLink RX4 76 yX4_many, .static yX4_many, .code yX4_many cX4_many 3 (some .int), .methodLink RX4 80 yX4_isWithin, .instanceMethod yX4_isWithin, .selects RX4 yX4_isWithin yX4_isWithin, .code yX4_isWithin cX4_isWithin 5 (some .boolean), .fieldLink RX4 35 "FewLinesModel" "thin" "[I"] ++ wsX40)
def wsX4_fewest_r1 : List Cond := [Cond.methodLink RX4 38 yX4_in, Cond.static yX4_in, Cond.initialized RX4, Cond.code yX4_in cX4_in 3 (some .boolean), Cond.methodLink RX4 84 yX4_fewestBy, Cond.instanceMethod yX4_fewestBy, Cond.selects RX4 yX4_fewestBy yX4_fewestBy, Cond.code yX4_fewestBy cX4_fewestBy 4 (some .int), Cond.fieldLink RX4 42 "FewLinesModel" "lines" "I", Cond.fieldLink RX4 32 "FewLinesModel" "whole" "[I", Cond.methodLink RX4 72 yX4_findFar, Cond.instanceMethod yX4_findFar, Cond.selects RX4 yX4_findFar yX4_findFar, Cond.code yX4_findFar cX4_findFar 7 none, Cond.fieldLink RX4 7 "FewLinesModel" "n" "I", Cond.fieldLink RX4 20 "FewLinesModel" "weight" "[I", Cond.fieldLink RX4 13 "FewLinesModel" "as" "[I", Cond.fieldLink RX4 17 "FewLinesModel" "bs" "[I", Cond.methodLink RX4 76 yX4_many, Cond.static yX4_many, Cond.code yX4_many cX4_many 3 (some .int), Cond.methodLink RX4 80 yX4_isWithin, Cond.instanceMethod yX4_isWithin, Cond.selects RX4 yX4_isWithin yX4_isWithin]
def wsX4_fewest_r2 : List Cond := [Cond.code yX4_isWithin cX4_isWithin 5 (some .boolean), Cond.fieldLink RX4 35 "FewLinesModel" "thin" "[I"]
def wsX4_fewest : List Cond := .code yX4_fewest cX4_fewest 4 (some .int) :: ((wsX4_fewest_r1 ++ wsX4_fewest_r2) ++ wsX40)
def wsX4_thin_r1 : List Cond := [Cond.fieldLink RX4 42 "FewLinesModel" "lines" "I", Cond.fieldLink RX4 23 "FewLinesModel" "kept" "[I", Cond.fieldLink RX4 20 "FewLinesModel" "weight" "[I", Cond.methodLink RX4 38 yX4_in, Cond.static yX4_in, Cond.initialized RX4, Cond.code yX4_in cX4_in 3 (some .boolean), Cond.methodLink RX4 84 yX4_fewestBy, Cond.instanceMethod yX4_fewestBy, Cond.selects RX4 yX4_fewestBy yX4_fewestBy, Cond.code yX4_fewestBy cX4_fewestBy 4 (some .int), Cond.fieldLink RX4 32 "FewLinesModel" "whole" "[I", Cond.methodLink RX4 72 yX4_findFar, Cond.instanceMethod yX4_findFar, Cond.selects RX4 yX4_findFar yX4_findFar, Cond.code yX4_findFar cX4_findFar 7 none, Cond.fieldLink RX4 7 "FewLinesModel" "n" "I", Cond.fieldLink RX4 13 "FewLinesModel" "as" "[I", Cond.fieldLink RX4 17 "FewLinesModel" "bs" "[I", Cond.methodLink RX4 76 yX4_many, Cond.static yX4_many, Cond.code yX4_many cX4_many 3 (some .int), Cond.methodLink RX4 80 yX4_isWithin, Cond.instanceMethod yX4_isWithin]
def wsX4_thin_r2 : List Cond := [Cond.selects RX4 yX4_isWithin yX4_isWithin, Cond.code yX4_isWithin cX4_isWithin 5 (some .boolean), Cond.fieldLink RX4 35 "FewLinesModel" "thin" "[I"]
def wsX4_thin : List Cond := .code yX4_thin cX4_thin 4 (some .int) :: ((wsX4_thin_r1 ++ wsX4_thin_r2) ++ wsX40)
def wsX4_far : List Cond := .code yX4_far cX4_far 4 (some .int) :: ([.fieldLink RX4 42 "FewLinesModel" "lines" "I", .fieldLink RX4 32 "FewLinesModel" "whole" "[I", .methodLink RX4 45 yX4_isNode, .instanceMethod yX4_isNode, .selects RX4 yX4_isNode yX4_isNode, .initialized RX4, .code yX4_isNode cX4_isNode 2 (some .boolean), .fieldLink RX4 7 "FewLinesModel" "n" "I", .methodLink RX4 38 yX4_in, .static yX4_in, .code yX4_in cX4_in 3 (some .boolean), .methodLink RX4 87 yX4_keptSet, .instanceMethod yX4_keptSet, .selects RX4 yX4_keptSet yX4_keptSet, .code yX4_keptSet cX4_keptSet 3 (some .int), .fieldLink RX4 23 "FewLinesModel" "kept" "[I", .methodLink RX4 72 yX4_findFar, .instanceMethod yX4_findFar, .selects RX4 yX4_findFar yX4_findFar, .code yX4_findFar cX4_findFar 7 none, .fieldLink RX4 20 "FewLinesModel" "weight" "[I", .fieldLink RX4 13 "FewLinesModel" "as" "[I", .fieldLink RX4 17 "FewLinesModel" "bs" "[I"] ++ wsX40)
def wsX4_common : List Cond := .code yX4_common cX4_common 10 (some .long) :: ([])
def wsX4_stretch : List Cond := .code yX4_stretch cX4_stretch 8 (some .int) :: ([.fieldLink RX4 42 "FewLinesModel" "lines" "I", .fieldLink RX4 32 "FewLinesModel" "whole" "[I", .fieldLink RX4 35 "FewLinesModel" "thin" "[I", .fieldLink RX4 7 "FewLinesModel" "n" "I", .methodLink RX4 38 yX4_in, .static yX4_in, .initialized RX4, .code yX4_in cX4_in 3 (some .boolean), .methodLink RX4 72 yX4_findFar, .instanceMethod yX4_findFar, .selects RX4 yX4_findFar yX4_findFar, .code yX4_findFar cX4_findFar 7 none, .fieldLink RX4 20 "FewLinesModel" "weight" "[I", .fieldLink RX4 13 "FewLinesModel" "as" "[I", .fieldLink RX4 17 "FewLinesModel" "bs" "[I", .methodLink RX4 87 yX4_keptSet, .instanceMethod yX4_keptSet, .selects RX4 yX4_keptSet yX4_keptSet, .code yX4_keptSet cX4_keptSet 3 (some .int), .fieldLink RX4 23 "FewLinesModel" "kept" "[I", .methodLink RX4 90 yX4_common, .static yX4_common, .code yX4_common cX4_common 10 (some .long)] ++ wsX40)
def wsX4_products : List Cond := .code yX4_products cX4_products 11 (some .long) :: ([.fieldLink RX4 42 "FewLinesModel" "lines" "I", .fieldLink RX4 20 "FewLinesModel" "weight" "[I", .fieldLink RX4 23 "FewLinesModel" "kept" "[I", .fieldLink RX4 29 "FewLinesModel" "part" "[I", .methodLink RX4 76 yX4_many, .static yX4_many, .initialized RX4, .code yX4_many cX4_many 3 (some .int), .methodLink RX4 63 yX4_apart, .instanceMethod yX4_apart, .selects RX4 yX4_apart yX4_apart, .code yX4_apart cX4_apart 2 none, .methodLink RX4 66 yX4_join, .instanceMethod yX4_join, .selects RX4 yX4_join yX4_join, .code yX4_join cX4_join 5 (some .boolean), .fieldLink RX4 13 "FewLinesModel" "as" "[I", .fieldLink RX4 17 "FewLinesModel" "bs" "[I", .fieldLink RX4 7 "FewLinesModel" "n" "I"] ++ wsX40)
def wsX4_trees_r1 : List Cond := [Cond.fieldLink RX4 7 "FewLinesModel" "n" "I", Cond.constantLong RX4 98 (-3), Cond.methodLink RX4 38 yX4_in, Cond.static yX4_in, Cond.initialized RX4, Cond.code yX4_in cX4_in 3 (some .boolean), Cond.methodLink RX4 94 yX4_products, Cond.instanceMethod yX4_products, Cond.selects RX4 yX4_products yX4_products, Cond.code yX4_products cX4_products 11 (some .long), Cond.fieldLink RX4 42 "FewLinesModel" "lines" "I", Cond.fieldLink RX4 20 "FewLinesModel" "weight" "[I", Cond.fieldLink RX4 23 "FewLinesModel" "kept" "[I", Cond.fieldLink RX4 29 "FewLinesModel" "part" "[I", Cond.methodLink RX4 76 yX4_many, Cond.static yX4_many, Cond.code yX4_many cX4_many 3 (some .int), Cond.methodLink RX4 63 yX4_apart, Cond.instanceMethod yX4_apart, Cond.selects RX4 yX4_apart yX4_apart, Cond.code yX4_apart cX4_apart 2 none, Cond.methodLink RX4 66 yX4_join, Cond.instanceMethod yX4_join, Cond.selects RX4 yX4_join yX4_join]
def wsX4_trees_r2 : List Cond := [Cond.code yX4_join cX4_join 5 (some .boolean), Cond.fieldLink RX4 13 "FewLinesModel" "as" "[I", Cond.fieldLink RX4 17 "FewLinesModel" "bs" "[I"]
def wsX4_trees : List Cond := .code yX4_trees cX4_trees 2 (some .long) :: ((wsX4_trees_r1 ++ wsX4_trees_r2) ++ wsX40)
def wsX4_hasResistance_r1 : List Cond := [Cond.fieldLink RX4 7 "FewLinesModel" "n" "I", Cond.fieldLink RX4 100 "FewLinesModel" "low" "J", Cond.fieldLink RX4 104 "FewLinesModel" "up" "J", Cond.methodLink RX4 94 yX4_products, Cond.instanceMethod yX4_products, Cond.selects RX4 yX4_products yX4_products, Cond.initialized RX4, Cond.code yX4_products cX4_products 11 (some .long), Cond.fieldLink RX4 42 "FewLinesModel" "lines" "I", Cond.fieldLink RX4 20 "FewLinesModel" "weight" "[I", Cond.fieldLink RX4 23 "FewLinesModel" "kept" "[I", Cond.fieldLink RX4 29 "FewLinesModel" "part" "[I", Cond.methodLink RX4 76 yX4_many, Cond.static yX4_many, Cond.code yX4_many cX4_many 3 (some .int), Cond.methodLink RX4 63 yX4_apart, Cond.instanceMethod yX4_apart, Cond.selects RX4 yX4_apart yX4_apart, Cond.code yX4_apart cX4_apart 2 none, Cond.methodLink RX4 66 yX4_join, Cond.instanceMethod yX4_join, Cond.selects RX4 yX4_join yX4_join, Cond.code yX4_join cX4_join 5 (some .boolean), Cond.fieldLink RX4 13 "FewLinesModel" "as" "[I"]
def wsX4_hasResistance_r2 : List Cond := [Cond.fieldLink RX4 17 "FewLinesModel" "bs" "[I", Cond.methodLink RX4 90 yX4_common, Cond.static yX4_common, Cond.code yX4_common cX4_common 10 (some .long)]
def wsX4_hasResistance : List Cond := .code yX4_hasResistance cX4_hasResistance 8 (some .boolean) :: ((wsX4_hasResistance_r1 ++ wsX4_hasResistance_r2) ++ wsX40)
def wsX4_resistance_r1 : List Cond := [Cond.constantLong RX4 107 (-2), Cond.constantLong RX4 98 (-3), Cond.constantLong RX4 113 (-1), Cond.fieldLink RX4 104 "FewLinesModel" "up" "J", Cond.fieldLink RX4 100 "FewLinesModel" "low" "J", Cond.methodLink RX4 45 yX4_isNode, Cond.instanceMethod yX4_isNode, Cond.selects RX4 yX4_isNode yX4_isNode, Cond.initialized RX4, Cond.code yX4_isNode cX4_isNode 2 (some .boolean), Cond.fieldLink RX4 7 "FewLinesModel" "n" "I", Cond.methodLink RX4 38 yX4_in, Cond.static yX4_in, Cond.code yX4_in cX4_in 3 (some .boolean), Cond.methodLink RX4 109 yX4_hasResistance, Cond.instanceMethod yX4_hasResistance, Cond.selects RX4 yX4_hasResistance yX4_hasResistance, Cond.code yX4_hasResistance cX4_hasResistance 8 (some .boolean), Cond.methodLink RX4 94 yX4_products, Cond.instanceMethod yX4_products, Cond.selects RX4 yX4_products yX4_products, Cond.code yX4_products cX4_products 11 (some .long), Cond.fieldLink RX4 42 "FewLinesModel" "lines" "I", Cond.fieldLink RX4 20 "FewLinesModel" "weight" "[I"]
def wsX4_resistance_r2 : List Cond := [Cond.fieldLink RX4 23 "FewLinesModel" "kept" "[I", Cond.fieldLink RX4 29 "FewLinesModel" "part" "[I", Cond.methodLink RX4 76 yX4_many, Cond.static yX4_many, Cond.code yX4_many cX4_many 3 (some .int), Cond.methodLink RX4 63 yX4_apart, Cond.instanceMethod yX4_apart, Cond.selects RX4 yX4_apart yX4_apart, Cond.code yX4_apart cX4_apart 2 none, Cond.methodLink RX4 66 yX4_join, Cond.instanceMethod yX4_join, Cond.selects RX4 yX4_join yX4_join, Cond.code yX4_join cX4_join 5 (some .boolean), Cond.fieldLink RX4 13 "FewLinesModel" "as" "[I", Cond.fieldLink RX4 17 "FewLinesModel" "bs" "[I", Cond.methodLink RX4 90 yX4_common, Cond.static yX4_common, Cond.code yX4_common cX4_common 10 (some .long)]
def wsX4_resistance : List Cond := .code yX4_resistance cX4_resistance 5 (some .long) :: ((wsX4_resistance_r1 ++ wsX4_resistance_r2) ++ wsX40)
def wsX4_load_r1 : List Cond := [Cond.constantLong RX4 107 (-2), Cond.constantLong RX4 98 (-3), Cond.fieldLink RX4 13 "FewLinesModel" "as" "[I", Cond.fieldLink RX4 17 "FewLinesModel" "bs" "[I", Cond.fieldLink RX4 20 "FewLinesModel" "weight" "[I", Cond.constantLong RX4 113 (-1), Cond.fieldLink RX4 104 "FewLinesModel" "up" "J", Cond.fieldLink RX4 100 "FewLinesModel" "low" "J", Cond.methodLink RX4 49 yX4_isLine, Cond.instanceMethod yX4_isLine, Cond.selects RX4 yX4_isLine yX4_isLine, Cond.initialized RX4, Cond.code yX4_isLine cX4_isLine 2 (some .boolean), Cond.fieldLink RX4 42 "FewLinesModel" "lines" "I", Cond.methodLink RX4 38 yX4_in, Cond.static yX4_in, Cond.code yX4_in cX4_in 3 (some .boolean), Cond.methodLink RX4 109 yX4_hasResistance, Cond.instanceMethod yX4_hasResistance, Cond.selects RX4 yX4_hasResistance yX4_hasResistance, Cond.code yX4_hasResistance cX4_hasResistance 8 (some .boolean), Cond.fieldLink RX4 7 "FewLinesModel" "n" "I", Cond.methodLink RX4 94 yX4_products, Cond.instanceMethod yX4_products]
def wsX4_load_r2 : List Cond := [Cond.selects RX4 yX4_products yX4_products, Cond.code yX4_products cX4_products 11 (some .long), Cond.fieldLink RX4 23 "FewLinesModel" "kept" "[I", Cond.fieldLink RX4 29 "FewLinesModel" "part" "[I", Cond.methodLink RX4 76 yX4_many, Cond.static yX4_many, Cond.code yX4_many cX4_many 3 (some .int), Cond.methodLink RX4 63 yX4_apart, Cond.instanceMethod yX4_apart, Cond.selects RX4 yX4_apart yX4_apart, Cond.code yX4_apart cX4_apart 2 none, Cond.methodLink RX4 66 yX4_join, Cond.instanceMethod yX4_join, Cond.selects RX4 yX4_join yX4_join, Cond.code yX4_join cX4_join 5 (some .boolean), Cond.methodLink RX4 90 yX4_common, Cond.static yX4_common, Cond.code yX4_common cX4_common 10 (some .long)]
def wsX4_load : List Cond := .code yX4_load cX4_load 3 (some .long) :: ((wsX4_load_r1 ++ wsX4_load_r2) ++ wsX40)
def wsX4_count : List Cond := .code yX4_count cX4_count 4 (some .int) :: ([.fieldLink RX4 7 "FewLinesModel" "n" "I", .fieldLink RX4 42 "FewLinesModel" "lines" "I", .fieldLink RX4 20 "FewLinesModel" "weight" "[I", .fieldLink RX4 23 "FewLinesModel" "kept" "[I", .methodLink RX4 69 yX4_keptMany, .instanceMethod yX4_keptMany, .selects RX4 yX4_keptMany yX4_keptMany, .initialized RX4, .code yX4_keptMany cX4_keptMany 3 (some .int)] ++ wsX40)
def wsJ9_max_7cf53 : List Cond := .code yJ9_max_7cf53 cJ9_max_7cf53 2 (some .int) :: ([])
def wsJ9_min_7cf53 : List Cond := .code yJ9_min_7cf53 cJ9_min_7cf53 2 (some .int) :: ([])
def wsL_law_r1 : List Cond := [Cond.classLink RL 7 RX3, Cond.instantiable RX3 12, Cond.initialized RX3, Cond.classLink RL 10 RX4, Cond.instantiable RX4 12, Cond.initialized RX4, Cond.methodLink RL 9 yX3_init, Cond.instanceMethod yX3_init, Cond.code yX3_init cX3_init 1 none, Cond.methodLink RX3 1 objectInit, Cond.instanceMethod objectInit, Cond.code objectInit ⟨#[0xb1]⟩ 1 none, Cond.fieldLink RX3 9 "FewLines" "nodeCount" "I", Cond.fieldLink RX3 13 "FewLines" "lineCount" "I", Cond.arrayClass .int, Cond.fieldLink RX3 16 "FewLines" "lesserEnd" "[I", Cond.fieldLink RX3 20 "FewLines" "greaterEnd" "[I", Cond.fieldLink RX3 23 "FewLines" "weightOf" "[I", Cond.fieldLink RX3 26 "FewLines" "keptOf" "[I", Cond.fieldLink RX3 29 "FewLines" "forestOf" "[I", Cond.classLink RX3 32 RX2, Cond.instantiable RX2 1, Cond.initialized RX2, Cond.fieldLink RX3 35 "FewLines" "parts" "LFewLines$Parts;"]
def wsL_law_r2 : List Cond := [Cond.classLink RX3 39 RX0, Cond.instantiable RX0 2, Cond.initialized RX0, Cond.fieldLink RX3 42 "FewLines" "netLengths" "LFewLines$Lengths;", Cond.fieldLink RX3 46 "FewLines" "thinLengths" "LFewLines$Lengths;", Cond.classLink RX3 49 RX1, Cond.instantiable RX1 4, Cond.initialized RX1, Cond.fieldLink RX3 52 "FewLines" "minors" "LFewLines$Minors;", Cond.fieldLink RX3 56 "FewLines" "fewestSets" "[I", Cond.methodLink RX3 34 yX2_init, Cond.instanceMethod yX2_init, Cond.code yX2_init cX2_init 1 none, Cond.methodLink RX2 3 objectInit, Cond.fieldLink RX2 9 "FewLines$Parts" "partOf" "[I", Cond.methodLink RX3 41 yX0_init, Cond.instanceMethod yX0_init, Cond.code yX0_init cX0_init 1 none, Cond.methodLink RX0 3 objectInit, Cond.fieldLink RX0 9 "FewLines$Lengths" "lengths" "[I", Cond.fieldLink RX0 15 "FewLines$Lengths" "size" "I", Cond.methodLink RX3 51 yX1_init, Cond.instanceMethod yX1_init, Cond.code yX1_init cX1_init 1 none]
def wsL_law_r3 : List Cond := [Cond.methodLink RX1 3 objectInit, Cond.arrayClass .long, Cond.fieldLink RX1 9 "FewLines$Minors" "matrix" "[J", Cond.fieldLink RX1 15 "FewLines$Minors" "chosen" "[I", Cond.fieldLink RX1 19 "FewLines$Minors" "minorOf" "[J", Cond.fieldLink RX1 22 "FewLines$Minors" "size" "I", Cond.methodLink RX3 59 yX3_forgetFewest, Cond.instanceMethod yX3_forgetFewest, Cond.selects RX3 yX3_forgetFewest yX3_forgetFewest, Cond.code yX3_forgetFewest cX3_forgetFewest 1 none, Cond.methodLink RX3 158 yJ7_fill_53178, Cond.static yJ7_fill_53178, Cond.initialized RJ7, Cond.code yJ7_fill_53178 cJ7_fill_53178 4 none, Cond.methodLink RL 12 yX4_init, Cond.instanceMethod yX4_init, Cond.code yX4_init cX4_init 1 none, Cond.methodLink RX4 1 objectInit, Cond.fieldLink RX4 7 "FewLinesModel" "n" "I", Cond.fieldLink RX4 13 "FewLinesModel" "as" "[I", Cond.fieldLink RX4 17 "FewLinesModel" "bs" "[I", Cond.fieldLink RX4 20 "FewLinesModel" "weight" "[I", Cond.fieldLink RX4 23 "FewLinesModel" "kept" "[I", Cond.fieldLink RX4 26 "FewLinesModel" "forest" "[I"]
def wsL_law_r4 : List Cond := [Cond.fieldLink RX4 29 "FewLinesModel" "part" "[I", Cond.fieldLink RX4 32 "FewLinesModel" "whole" "[I", Cond.fieldLink RX4 35 "FewLinesModel" "thin" "[I", Cond.methodLink RL 13 yX3_nodes, Cond.instanceMethod yX3_nodes, Cond.selects RX3 yX3_nodes yX3_nodes, Cond.code yX3_nodes cX3_nodes 2 (some .int), Cond.methodLink RX3 62 yX3_isWithin, Cond.static yX3_isWithin, Cond.code yX3_isWithin cX3_isWithin 3 (some .boolean), Cond.methodLink RL 17 yX4_nodes, Cond.instanceMethod yX4_nodes, Cond.selects RX4 yX4_nodes yX4_nodes, Cond.code yX4_nodes cX4_nodes 2 (some .int), Cond.fieldLink RX4 42 "FewLinesModel" "lines" "I", Cond.methodLink RX4 38 yX4_in, Cond.static yX4_in, Cond.code yX4_in cX4_in 3 (some .boolean), Cond.methodLink RL 18 yX3_line, Cond.instanceMethod yX3_line, Cond.selects RX3 yX3_line yX3_line, Cond.code yX3_line cX3_line 5 (some .int), Cond.methodLink RX3 70 Lib.Math.min.name, Cond.static Lib.Math.min.name]
def wsL_law_r5 : List Cond := [Cond.initialized "java/lang/Math", Cond.code Lib.Math.min.name Lib.Math.min.code 2 (some .int), Cond.methodLink RX3 76 Lib.Math.max.name, Cond.static Lib.Math.max.name, Cond.code Lib.Math.max.name Lib.Math.max.code 2 (some .int), Cond.methodLink RX3 66 yX3_isNode, Cond.instanceMethod yX3_isNode, Cond.selects RX3 yX3_isNode yX3_isNode, Cond.code yX3_isNode cX3_isNode 2 (some .boolean), Cond.methodLink RL 22 yX4_line, Cond.instanceMethod yX4_line, Cond.selects RX4 yX4_line yX4_line, Cond.code yX4_line cX4_line 4 (some .int), Cond.methodLink RX4 45 yX4_isNode, Cond.instanceMethod yX4_isNode, Cond.selects RX4 yX4_isNode yX4_isNode, Cond.code yX4_isNode cX4_isNode 2 (some .boolean), Cond.methodLink RL 23 yX3_drop, Cond.instanceMethod yX3_drop, Cond.selects RX3 yX3_drop yX3_drop, Cond.code yX3_drop cX3_drop 3 (some .int), Cond.methodLink RX3 79 yX3_isLine, Cond.instanceMethod yX3_isLine, Cond.selects RX3 yX3_isLine yX3_isLine]
def wsL_law_r6 : List Cond := [Cond.code yX3_isLine cX3_isLine 2 (some .boolean), Cond.methodLink RL 26 yX4_drop, Cond.instanceMethod yX4_drop, Cond.selects RX4 yX4_drop yX4_drop, Cond.code yX4_drop cX4_drop 3 (some .int), Cond.methodLink RX4 49 yX4_isLine, Cond.instanceMethod yX4_isLine, Cond.selects RX4 yX4_isLine yX4_isLine, Cond.code yX4_isLine cX4_isLine 2 (some .boolean), Cond.methodLink RL 27 yX3_keep, Cond.instanceMethod yX3_keep, Cond.selects RX3 yX3_keep yX3_keep, Cond.code yX3_keep cX3_keep 4 (some .int), Cond.methodLink RL 31 yX4_keep, Cond.instanceMethod yX4_keep, Cond.selects RX4 yX4_keep yX4_keep, Cond.code yX4_keep cX4_keep 4 (some .int), Cond.methodLink RL 32 yX3_at, Cond.instanceMethod yX3_at, Cond.selects RX3 yX3_at yX3_at, Cond.code yX3_at cX3_at 3 (some .int), Cond.methodLink RX3 82 yX3_peelForests, Cond.instanceMethod yX3_peelForests, Cond.selects RX3 yX3_peelForests yX3_peelForests]
def wsL_law_r7 : List Cond := [Cond.code yX3_peelForests cX3_peelForests 3 (some .int), Cond.methodLink RX3 164 yX3_peelOne, Cond.instanceMethod yX3_peelOne, Cond.selects RX3 yX3_peelOne yX3_peelOne, Cond.code yX3_peelOne cX3_peelOne 4 (some .int), Cond.methodLink RX3 167 yX2_clear, Cond.instanceMethod yX2_clear, Cond.selects RX2 yX2_clear yX2_clear, Cond.code yX2_clear cX2_clear 2 none, Cond.methodLink RX3 169 yX2_join, Cond.instanceMethod yX2_join, Cond.selects RX2 yX2_join yX2_join, Cond.code yX2_join cX2_join 6 (some .boolean), Cond.methodLink RL 35 yX4_at, Cond.instanceMethod yX4_at, Cond.selects RX4 yX4_at yX4_at, Cond.code yX4_at cX4_at 3 (some .int), Cond.methodLink RX4 52 yX4_findForests, Cond.instanceMethod yX4_findForests, Cond.selects RX4 yX4_findForests yX4_findForests, Cond.code yX4_findForests cX4_findForests 4 (some .int), Cond.methodLink RX4 63 yX4_apart, Cond.instanceMethod yX4_apart, Cond.selects RX4 yX4_apart yX4_apart]
def wsL_law_r8 : List Cond := [Cond.code yX4_apart cX4_apart 2 none, Cond.methodLink RX4 66 yX4_join, Cond.instanceMethod yX4_join, Cond.selects RX4 yX4_join yX4_join, Cond.code yX4_join cX4_join 5 (some .boolean), Cond.methodLink RL 36 yX3_cut, Cond.instanceMethod yX3_cut, Cond.selects RX3 yX3_cut yX3_cut, Cond.code yX3_cut cX3_cut 3 (some .int), Cond.methodLink RX3 86 yX3_isSide, Cond.instanceMethod yX3_isSide, Cond.selects RX3 yX3_isSide yX3_isSide, Cond.code yX3_isSide cX3_isSide 2 (some .boolean), Cond.methodLink RX3 95 yX3_allNodes, Cond.instanceMethod yX3_allNodes, Cond.selects RX3 yX3_allNodes yX3_allNodes, Cond.code yX3_allNodes cX3_allNodes 1 (some .int), Cond.methodLink RX3 89 yX3_isWay, Cond.static yX3_isWay, Cond.code yX3_isWay cX3_isWay 1 (some .boolean), Cond.methodLink RX3 92 yX3_weightAcross, Cond.instanceMethod yX3_weightAcross, Cond.selects RX3 yX3_weightAcross yX3_weightAcross, Cond.code yX3_weightAcross cX3_weightAcross 5 (some .int)]
def wsL_law_r9 : List Cond := [Cond.methodLink RX3 154 yX3_isIn, Cond.static yX3_isIn, Cond.code yX3_isIn cX3_isIn 2 (some .boolean), Cond.methodLink RX3 151 yX3_weightIn, Cond.instanceMethod yX3_weightIn, Cond.selects RX3 yX3_weightIn yX3_weightIn, Cond.code yX3_weightIn cX3_weightIn 3 (some .int), Cond.methodLink RL 39 yX4_cut, Cond.instanceMethod yX4_cut, Cond.selects RX4 yX4_cut yX4_cut, Cond.code yX4_cut cX4_cut 3 (some .int), Cond.methodLink RX4 56 yX4_isSide, Cond.instanceMethod yX4_isSide, Cond.selects RX4 yX4_isSide yX4_isSide, Cond.code yX4_isSide cX4_isSide 2 (some .boolean), Cond.methodLink RX4 59 yX4_cutOf, Cond.instanceMethod yX4_cutOf, Cond.selects RX4 yX4_cutOf yX4_cutOf, Cond.code yX4_cutOf cX4_cutOf 6 (some .int), Cond.methodLink RL 40 yX3_worst, Cond.instanceMethod yX3_worst, Cond.selects RX3 yX3_worst yX3_worst, Cond.code yX3_worst cX3_worst 10 (some .int), Cond.methodLink RL 43 yX4_worst]
def wsL_law_r10 : List Cond := [Cond.instanceMethod yX4_worst, Cond.selects RX4 yX4_worst yX4_worst, Cond.code yX4_worst cX4_worst 5 (some .int), Cond.methodLink RL 44 yX3_promise, Cond.instanceMethod yX3_promise, Cond.selects RX3 yX3_promise yX3_promise, Cond.code yX3_promise cX3_promise 6 (some .int), Cond.methodLink RL 47 yX4_promise, Cond.instanceMethod yX4_promise, Cond.selects RX4 yX4_promise yX4_promise, Cond.code yX4_promise cX4_promise 6 (some .int), Cond.methodLink RL 48 yX3_forests, Cond.instanceMethod yX3_forests, Cond.selects RX3 yX3_forests yX3_forests, Cond.code yX3_forests cX3_forests 1 (some .int), Cond.methodLink RL 52 yX4_forests, Cond.instanceMethod yX4_forests, Cond.selects RX4 yX4_forests yX4_forests, Cond.code yX4_forests cX4_forests 1 (some .int), Cond.methodLink RL 53 yX3_peel, Cond.instanceMethod yX3_peel, Cond.selects RX3 yX3_peel yX3_peel, Cond.code yX3_peel cX3_peel 4 (some .int), Cond.methodLink RX3 98 yX3_keepJust]
def wsL_law_r11 : List Cond := [Cond.instanceMethod yX3_keepJust, Cond.selects RX3 yX3_keepJust yX3_keepJust, Cond.code yX3_keepJust cX3_keepJust 3 (some .int), Cond.methodLink RX3 116 yJ6_bitCount_0f7a4, Cond.static yJ6_bitCount_0f7a4, Cond.initialized RJ6, Cond.code yJ6_bitCount_0f7a4 cJ6_bitCount_0f7a4 1 (some .int), Cond.constant RJ6 265 (1431655765), Cond.constant RJ6 266 (858993459), Cond.constant RJ6 267 (252645135), Cond.methodLink RL 56 yX4_peel, Cond.instanceMethod yX4_peel, Cond.selects RX4 yX4_peel yX4_peel, Cond.code yX4_peel cX4_peel 3 (some .int), Cond.methodLink RX4 69 yX4_keptMany, Cond.instanceMethod yX4_keptMany, Cond.selects RX4 yX4_keptMany yX4_keptMany, Cond.code yX4_keptMany cX4_keptMany 3 (some .int), Cond.methodLink RL 57 yX3_greedy, Cond.instanceMethod yX3_greedy, Cond.selects RX3 yX3_greedy yX3_greedy, Cond.code yX3_greedy cX3_greedy 5 (some .int), Cond.methodLink RX3 102 yX0_clear, Cond.instanceMethod yX0_clear]
def wsL_law_r12 : List Cond := [Cond.selects RX0 yX0_clear yX0_clear, Cond.code yX0_clear cX0_clear 3 none, Cond.methodLink RX0 19 Lib.Math.min.name, Cond.constant RX0 25 (1000000), Cond.methodLink RX0 26 yJ7_fill_53178, Cond.methodLink RX3 106 yX3_lengthBetweenEnds, Cond.instanceMethod yX3_lengthBetweenEnds, Cond.selects RX3 yX3_lengthBetweenEnds yX3_lengthBetweenEnds, Cond.code yX3_lengthBetweenEnds cX3_lengthBetweenEnds 2 (some .int), Cond.methodLink RX3 125 yX0_between, Cond.instanceMethod yX0_between, Cond.selects RX0 yX0_between yX0_between, Cond.code yX0_between cX0_between 3 (some .int), Cond.methodLink RX3 109 yX0_add, Cond.instanceMethod yX0_add, Cond.selects RX0 yX0_add yX0_add, Cond.code yX0_add cX0_add 11 none, Cond.methodLink RX0 32 yX0_between, Cond.methodLink RL 60 yX4_greedy, Cond.instanceMethod yX4_greedy, Cond.selects RX4 yX4_greedy yX4_greedy, Cond.code yX4_greedy cX4_greedy 5 (some .int), Cond.methodLink RX4 72 yX4_findFar, Cond.instanceMethod yX4_findFar]
def wsL_law_r13 : List Cond := [Cond.selects RX4 yX4_findFar yX4_findFar, Cond.code yX4_findFar cX4_findFar 7 none, Cond.methodLink RL 61 yX3_fewest, Cond.instanceMethod yX3_fewest, Cond.selects RX3 yX3_fewest yX3_fewest, Cond.code yX3_fewest cX3_fewest 4 (some .int), Cond.methodLink RX3 113 yX3_fewestSet, Cond.instanceMethod yX3_fewestSet, Cond.selects RX3 yX3_fewestSet yX3_fewestSet, Cond.code yX3_fewestSet cX3_fewestSet 3 (some .int), Cond.methodLink RX3 145 yX3_linesOf, Cond.instanceMethod yX3_linesOf, Cond.selects RX3 yX3_linesOf yX3_linesOf, Cond.code yX3_linesOf cX3_linesOf 4 (some .int), Cond.methodLink RX3 172 yX3_measure, Cond.instanceMethod yX3_measure, Cond.selects RX3 yX3_measure yX3_measure, Cond.code yX3_measure cX3_measure 4 none, Cond.methodLink RX3 176 yX3_leastToJoin, Cond.instanceMethod yX3_leastToJoin, Cond.selects RX3 yX3_leastToJoin yX3_leastToJoin, Cond.code yX3_leastToJoin cX3_leastToJoin 1 (some .int), Cond.methodLink RX3 179 yX3_fewestWithin, Cond.static yX3_fewestWithin]
def wsL_law_r14 : List Cond := [Cond.code yX3_fewestWithin cX3_fewestWithin 10 (some .int), Cond.methodLink RX3 183 yX3_isWithinStretch, Cond.instanceMethod yX3_isWithinStretch, Cond.selects RX3 yX3_isWithinStretch yX3_isWithinStretch, Cond.code yX3_isWithinStretch cX3_isWithinStretch 6 (some .boolean), Cond.constant RX3 128 (1000000), Cond.methodLink RL 64 yX4_fewest, Cond.instanceMethod yX4_fewest, Cond.selects RX4 yX4_fewest yX4_fewest, Cond.code yX4_fewest cX4_fewest 4 (some .int), Cond.methodLink RX4 84 yX4_fewestBy, Cond.instanceMethod yX4_fewestBy, Cond.selects RX4 yX4_fewestBy yX4_fewestBy, Cond.code yX4_fewestBy cX4_fewestBy 4 (some .int), Cond.methodLink RX4 76 yX4_many, Cond.static yX4_many, Cond.code yX4_many cX4_many 3 (some .int), Cond.methodLink RX4 80 yX4_isWithin, Cond.instanceMethod yX4_isWithin, Cond.selects RX4 yX4_isWithin yX4_isWithin, Cond.code yX4_isWithin cX4_isWithin 5 (some .boolean), Cond.methodLink RL 65 yX3_thin, Cond.instanceMethod yX3_thin, Cond.selects RX3 yX3_thin yX3_thin]
def wsL_law_r15 : List Cond := [Cond.code yX3_thin cX3_thin 2 (some .int), Cond.methodLink RL 68 yX4_thin, Cond.instanceMethod yX4_thin, Cond.selects RX4 yX4_thin yX4_thin, Cond.code yX4_thin cX4_thin 4 (some .int), Cond.methodLink RL 69 yX3_far, Cond.instanceMethod yX3_far, Cond.selects RX3 yX3_far yX3_far, Cond.code yX3_far cX3_far 5 (some .int), Cond.methodLink RX3 121 yX3_measured, Cond.instanceMethod yX3_measured, Cond.selects RX3 yX3_measured yX3_measured, Cond.code yX3_measured cX3_measured 3 (some (.object "FewLines$Lengths")), Cond.methodLink RL 72 yX4_far, Cond.instanceMethod yX4_far, Cond.selects RX4 yX4_far yX4_far, Cond.code yX4_far cX4_far 4 (some .int), Cond.methodLink RX4 87 yX4_keptSet, Cond.instanceMethod yX4_keptSet, Cond.selects RX4 yX4_keptSet yX4_keptSet, Cond.code yX4_keptSet cX4_keptSet 3 (some .int), Cond.methodLink RL 73 yX3_stretch, Cond.instanceMethod yX3_stretch, Cond.selects RX3 yX3_stretch yX3_stretch]
def wsL_law_r16 : List Cond := [Cond.code yX3_stretch cX3_stretch 10 (some .int), Cond.methodLink RX3 129 yX3_inLowestTerms, Cond.static yX3_inLowestTerms, Cond.code yX3_inLowestTerms cX3_inLowestTerms 7 (some .long), Cond.constantLong RX3 198 (-1), Cond.methodLink RX3 194 yX3_commonDivisor, Cond.static yX3_commonDivisor, Cond.code yX3_commonDivisor cX3_commonDivisor 11 (some .long), Cond.methodLink RL 76 yX4_stretch, Cond.instanceMethod yX4_stretch, Cond.selects RX4 yX4_stretch yX4_stretch, Cond.code yX4_stretch cX4_stretch 8 (some .int), Cond.methodLink RX4 90 yX4_common, Cond.static yX4_common, Cond.code yX4_common cX4_common 10 (some .long), Cond.methodLink RL 77 yX3_trees, Cond.instanceMethod yX3_trees, Cond.selects RX3 yX3_trees yX3_trees, Cond.code yX3_trees cX3_trees 2 (some .long), Cond.constantLong RX3 133 (-3), Cond.methodLink RX3 135 yX3_treeProducts, Cond.instanceMethod yX3_treeProducts, Cond.selects RX3 yX3_treeProducts yX3_treeProducts, Cond.code yX3_treeProducts cX3_treeProducts 2 (some .long)]
def wsL_law_r17 : List Cond := [Cond.methodLink RX3 186 yX3_fillMinors, Cond.instanceMethod yX3_fillMinors, Cond.selects RX3 yX3_fillMinors yX3_fillMinors, Cond.code yX3_fillMinors cX3_fillMinors 3 none, Cond.methodLink RX3 192 yX1_clear, Cond.instanceMethod yX1_clear, Cond.selects RX1 yX1_clear yX1_clear, Cond.code yX1_clear cX1_clear 2 none, Cond.methodLink RX1 26 Lib.Math.min.name, Cond.methodLink RX1 32 yJ7_fill_d0a16, Cond.static yJ7_fill_d0a16, Cond.code yJ7_fill_d0a16 cJ7_fill_d0a16 5 none, Cond.methodLink RX3 193 yX1_add, Cond.instanceMethod yX1_add, Cond.selects RX1 yX1_add yX1_add, Cond.code yX1_add cX1_add 4 none, Cond.methodLink RX3 189 yX1_without, Cond.instanceMethod yX1_without, Cond.selects RX1 yX1_without yX1_without, Cond.code yX1_without cX1_without 5 (some .long), Cond.methodLink RX1 38 yX1_choose, Cond.instanceMethod yX1_choose, Cond.selects RX1 yX1_choose yX1_choose, Cond.code yX1_choose cX1_choose 4 (some .int)]
def wsL_law_r18 : List Cond := [Cond.methodLink RX1 42 yX1_alongLastRow, Cond.instanceMethod yX1_alongLastRow, Cond.selects RX1 yX1_alongLastRow yX1_alongLastRow, Cond.code yX1_alongLastRow cX1_alongLastRow 9 (some .long), Cond.methodLink RX1 50 yJ6_bitCount_0f7a4, Cond.methodLink RL 81 yX4_trees, Cond.instanceMethod yX4_trees, Cond.selects RX4 yX4_trees yX4_trees, Cond.code yX4_trees cX4_trees 2 (some .long), Cond.constantLong RX4 98 (-3), Cond.methodLink RX4 94 yX4_products, Cond.instanceMethod yX4_products, Cond.selects RX4 yX4_products yX4_products, Cond.code yX4_products cX4_products 11 (some .long), Cond.methodLink RL 82 yX3_resistance, Cond.instanceMethod yX3_resistance, Cond.selects RX3 yX3_resistance yX3_resistance, Cond.code yX3_resistance cX3_resistance 5 (some .long), Cond.constantLong RX3 139 (-2), Cond.methodLink RX3 141 yX3_partingProducts, Cond.instanceMethod yX3_partingProducts, Cond.selects RX3 yX3_partingProducts yX3_partingProducts, Cond.code yX3_partingProducts cX3_partingProducts 4 (some .long), Cond.methodLink RL 86 yX4_resistance]
def wsL_law_r19 : List Cond := [Cond.instanceMethod yX4_resistance, Cond.selects RX4 yX4_resistance yX4_resistance, Cond.code yX4_resistance cX4_resistance 5 (some .long), Cond.constantLong RX4 107 (-2), Cond.constantLong RX4 113 (-1), Cond.fieldLink RX4 104 "FewLinesModel" "up" "J", Cond.fieldLink RX4 100 "FewLinesModel" "low" "J", Cond.methodLink RX4 109 yX4_hasResistance, Cond.instanceMethod yX4_hasResistance, Cond.selects RX4 yX4_hasResistance yX4_hasResistance, Cond.code yX4_hasResistance cX4_hasResistance 8 (some .boolean), Cond.methodLink RL 87 yX3_load, Cond.instanceMethod yX3_load, Cond.selects RX3 yX3_load yX3_load, Cond.code yX3_load cX3_load 5 (some .long), Cond.methodLink RL 91 yX4_load, Cond.instanceMethod yX4_load, Cond.selects RX4 yX4_load yX4_load, Cond.code yX4_load cX4_load 3 (some .long), Cond.methodLink RL 92 yX3_count, Cond.instanceMethod yX3_count, Cond.selects RX3 yX3_count yX3_count, Cond.code yX3_count cX3_count 2 (some .int), Cond.methodLink RX3 148 yX3_weightTogether]
def wsL_law_r20 : List Cond := [Cond.instanceMethod yX3_weightTogether, Cond.selects RX3 yX3_weightTogether yX3_weightTogether, Cond.code yX3_weightTogether cX3_weightTogether 4 (some .int), Cond.methodLink RL 95 yX4_count, Cond.instanceMethod yX4_count, Cond.selects RX4 yX4_count yX4_count, Cond.code yX4_count cX4_count 4 (some .int)]
def wsL_law : List Cond := (wsL_law_r1 ++ (wsL_law_r2 ++ (wsL_law_r3 ++ (wsL_law_r4 ++ (wsL_law_r5 ++ (wsL_law_r6 ++ (wsL_law_r7 ++ (wsL_law_r8 ++ (wsL_law_r9 ++ (wsL_law_r10 ++ (wsL_law_r11 ++ (wsL_law_r12 ++ (wsL_law_r13 ++ (wsL_law_r14 ++ (wsL_law_r15 ++ (wsL_law_r16 ++ (wsL_law_r17 ++ (wsL_law_r18 ++ (wsL_law_r19 ++ wsL_law_r20))))))))))))))))))) ++ wsX30 ++ wsX40 ++ wsX20 ++ wsX00 ++ wsX10 ++ ([] : List Cond)
end
section
set_option maxRecDepth 20000 in
theorem wsL_in_r1 : ∀ w ∈ wsL_law_r1, w ∈ lw_tbl := fun w h => (goodIn_p wsL_law_r1 [50, 53] (by decide +kernel) (by decide +kernel) w h).1
set_option maxRecDepth 20000 in
theorem wsL_in_r2 : ∀ w ∈ wsL_law_r2, w ∈ lw_tbl := fun w h => (goodIn_p wsL_law_r2 [58, 69, 82] (by decide +kernel) (by decide +kernel) w h).1
set_option maxRecDepth 20000 in
theorem wsL_in_r3 : ∀ w ∈ wsL_law_r3, w ∈ lw_tbl := fun w h => (goodIn_p wsL_law_r3 [101, 104, 386] (by decide +kernel) (by decide +kernel) w h).1
set_option maxRecDepth 20000 in
theorem wsL_in_r4 : ∀ w ∈ wsL_law_r4, w ∈ lw_tbl := fun w h => (goodIn_p wsL_law_r4 [145, 148, 428, 431, 152] (by decide +kernel) (by decide +kernel) w h).1
set_option maxRecDepth 20000 in
theorem wsL_in_r5 : ∀ w ∈ wsL_law_r5, w ∈ lw_tbl := fun w h => (goodIn_p wsL_law_r5 [159, 162, 156, 435, 439, 166] (by decide +kernel) (by decide +kernel) w h).1
set_option maxRecDepth 20000 in
theorem wsL_in_r6 : ∀ w ∈ wsL_law_r6, w ∈ lw_tbl := fun w h => (goodIn_p wsL_law_r6 [170, 443, 447, 174, 451, 178] (by decide +kernel) (by decide +kernel) w h).1
set_option maxRecDepth 20000 in
theorem wsL_in_r7 : ∀ w ∈ wsL_law_r7, w ∈ lw_tbl := fun w h => (goodIn_p wsL_law_r7 [182, 186, 190, 194, 455, 459] (by decide +kernel) (by decide +kernel) w h).1
set_option maxRecDepth 20000 in
theorem wsL_in_r8 : ∀ w ∈ wsL_law_r8, w ∈ lw_tbl := fun w h => (goodIn_p wsL_law_r8 [463, 467, 198, 202, 206, 209, 213] (by decide +kernel) (by decide +kernel) w h).1
set_option maxRecDepth 20000 in
theorem wsL_in_r9 : ∀ w ∈ wsL_law_r9, w ∈ lw_tbl := fun w h => (goodIn_p wsL_law_r9 [216, 220, 471, 475, 479, 224] (by decide +kernel) (by decide +kernel) w h).1
set_option maxRecDepth 20000 in
theorem wsL_in_r10 : ∀ w ∈ wsL_law_r10, w ∈ lw_tbl := fun w h => (goodIn_p wsL_law_r10 [483, 228, 487, 232, 491, 236] (by decide +kernel) (by decide +kernel) w h).1
set_option maxRecDepth 20000 in
theorem wsL_in_r11 : ∀ w ∈ wsL_law_r11, w ∈ lw_tbl := fun w h => (goodIn_p wsL_law_r11 [240, 243, 495, 499, 250] (by decide +kernel) (by decide +kernel) w h).1
set_option maxRecDepth 20000 in
theorem wsL_in_r12 : ∀ w ∈ wsL_law_r12, w ∈ lw_tbl := fun w h => (goodIn_p wsL_law_r12 [254, 261, 265, 269, 503] (by decide +kernel) (by decide +kernel) w h).1
set_option maxRecDepth 20000 in
theorem wsL_in_r13 : ∀ w ∈ wsL_law_r13, w ∈ lw_tbl := fun w h => (goodIn_p wsL_law_r13 [507, 274, 278, 282, 286, 290] (by decide +kernel) (by decide +kernel) w h).1
set_option maxRecDepth 20000 in
theorem wsL_in_r14 : ∀ w ∈ wsL_law_r14, w ∈ lw_tbl := fun w h => (goodIn_p wsL_law_r14 [293, 297, 511, 515, 518, 522] (by decide +kernel) (by decide +kernel) w h).1
set_option maxRecDepth 20000 in
theorem wsL_in_r15 : ∀ w ∈ wsL_law_r15, w ∈ lw_tbl := fun w h => (goodIn_p wsL_law_r15 [302, 526, 306, 310, 530, 534] (by decide +kernel) (by decide +kernel) w h).1
set_option maxRecDepth 20000 in
theorem wsL_in_r16 : ∀ w ∈ wsL_law_r16, w ∈ lw_tbl := fun w h => (goodIn_p wsL_law_r16 [314, 317, 320, 538, 541, 325, 330] (by decide +kernel) (by decide +kernel) w h).1
set_option maxRecDepth 20000 in
theorem wsL_in_r17 : ∀ w ∈ wsL_law_r17, w ∈ lw_tbl := fun w h => (goodIn_p wsL_law_r17 [334, 338, 342, 346, 350, 354] (by decide +kernel) (by decide +kernel) w h).1
set_option maxRecDepth 20000 in
theorem wsL_in_r18 : ∀ w ∈ wsL_law_r18, w ∈ lw_tbl := fun w h => (goodIn_p wsL_law_r18 [359, 545, 549, 364, 369] (by decide +kernel) (by decide +kernel) w h).1
set_option maxRecDepth 20000 in
theorem wsL_in_r19 : ∀ w ∈ wsL_law_r19, w ∈ lw_tbl := fun w h => (goodIn_p wsL_law_r19 [554, 559, 373, 564, 377] (by decide +kernel) (by decide +kernel) w h).1
set_option maxRecDepth 20000 in
theorem wsL_in_r20 : ∀ w ∈ wsL_law_r20, w ∈ lw_tbl := fun w h => (goodIn_p wsL_law_r20 [381, 568] (by decide +kernel) (by decide +kernel) w h).1
set_option maxRecDepth 20000 in
theorem wsL_in_X3 : ∀ w ∈ wsX30, w ∈ lw_tbl := by decide +kernel
set_option maxRecDepth 20000 in
theorem wsL_in_X4 : ∀ w ∈ wsX40, w ∈ lw_tbl := by decide +kernel
set_option maxRecDepth 20000 in
theorem wsL_in_X2 : ∀ w ∈ wsX20, w ∈ lw_tbl := by decide +kernel
set_option maxRecDepth 20000 in
theorem wsL_in_X0 : ∀ w ∈ wsX00, w ∈ lw_tbl := by decide +kernel
set_option maxRecDepth 20000 in
theorem wsL_in_X1 : ∀ w ∈ wsX10, w ∈ lw_tbl := by decide +kernel
theorem wsL_app {a b : List Cond} (ha : ∀ w ∈ a, w ∈ lw_tbl) (hb : ∀ w ∈ b, w ∈ lw_tbl) : ∀ w ∈ a ++ b, w ∈ lw_tbl := fun w h => (List.mem_append.mp h).elim (ha w) (hb w)
theorem wsL_law_in : ∀ w ∈ wsL_law, w ∈ lw_tbl := (wsL_app (wsL_app (wsL_app (wsL_app (wsL_app (wsL_app (wsL_app wsL_in_r1 (wsL_app wsL_in_r2 (wsL_app wsL_in_r3 (wsL_app wsL_in_r4 (wsL_app wsL_in_r5 (wsL_app wsL_in_r6 (wsL_app wsL_in_r7 (wsL_app wsL_in_r8 (wsL_app wsL_in_r9 (wsL_app wsL_in_r10 (wsL_app wsL_in_r11 (wsL_app wsL_in_r12 (wsL_app wsL_in_r13 (wsL_app wsL_in_r14 (wsL_app wsL_in_r15 (wsL_app wsL_in_r16 (wsL_app wsL_in_r17 (wsL_app wsL_in_r18 (wsL_app wsL_in_r19 (wsL_in_r20)))))))))))))))))))) wsL_in_X3) wsL_in_X4) wsL_in_X2) wsL_in_X0) wsL_in_X1) (fun _ h => absurd h List.not_mem_nil))
theorem inlX0 : ∀ w ∈ wsX00, w ∈ wsL_law := fun _ h => List.mem_append_left _ (List.mem_append_left _ (List.mem_append_right _ h))
theorem inX0 : ∀ w ∈ wsX00, w ∈ lw_tbl := fun w h => wsL_law_in w (inlX0 w h)
theorem inlX1 : ∀ w ∈ wsX10, w ∈ wsL_law := fun _ h => List.mem_append_left _ (List.mem_append_right _ h)
theorem inX1 : ∀ w ∈ wsX10, w ∈ lw_tbl := fun w h => wsL_law_in w (inlX1 w h)
theorem inlX2 : ∀ w ∈ wsX20, w ∈ wsL_law := fun _ h => List.mem_append_left _ (List.mem_append_left _ (List.mem_append_left _ (List.mem_append_right _ h)))
theorem inX2 : ∀ w ∈ wsX20, w ∈ lw_tbl := fun w h => wsL_law_in w (inlX2 w h)
theorem inlX3 : ∀ w ∈ wsX30, w ∈ wsL_law := fun _ h => List.mem_append_left _ (List.mem_append_left _ (List.mem_append_left _ (List.mem_append_left _ (List.mem_append_left _ (List.mem_append_right _ h)))))
theorem inX3 : ∀ w ∈ wsX30, w ∈ lw_tbl := fun w h => wsL_law_in w (inlX3 w h)
theorem inlX4 : ∀ w ∈ wsX40, w ∈ wsL_law := fun _ h => List.mem_append_left _ (List.mem_append_left _ (List.mem_append_left _ (List.mem_append_left _ (List.mem_append_right _ h))))
theorem inX4 : ∀ w ∈ wsX40, w ∈ lw_tbl := fun w h => wsL_law_in w (inlX4 w h)
theorem inJ6 : ∀ w ∈ wsJ60, w ∈ lw_tbl := by decide +kernel
theorem inJ9 : ∀ w ∈ wsJ90, w ∈ lw_tbl := by decide +kernel
theorem inJ7 : ∀ w ∈ wsJ70, w ∈ lw_tbl := by decide +kernel
end
section
theorem dX0_init_0 : decode cX0_init 0 = .ok (.aload_n 0, 1) := by decide +kernel
theorem dX0_init_1 : decode cX0_init 1 = .ok (.invokespecial 3, 3) := by decide +kernel
theorem dX0_init_4 : decode cX0_init 4 = .ok (.aload_n 0, 1) := by decide +kernel
theorem dX0_init_5 : decode cX0_init 5 = .ok (.bipush 49, 2) := by decide +kernel
theorem dX0_init_7 : decode cX0_init 7 = .ok (.newarray .int, 2) := by decide +kernel
theorem dX0_init_9 : decode cX0_init 9 = .ok (.putfield 9, 3) := by decide +kernel
theorem dX0_init_12 : decode cX0_init 12 = .ok (.aload_n 0, 1) := by decide +kernel
theorem dX0_init_13 : decode cX0_init 13 = .ok (.iconst 0, 1) := by decide +kernel
theorem dX0_init_14 : decode cX0_init 14 = .ok (.putfield 15, 3) := by decide +kernel
theorem dX0_init_17 : decode cX0_init 17 = .ok (.return_, 1) := by decide +kernel
set_option maxRecDepth 20000 in
theorem ggX0_clear_J7_fill_53178 : GoodIn wsX0_clear wsJ7_fill_53178 := goodIn_r _ [11] (by decide +kernel) (by decide +kernel)
set_option maxRecDepth 20000 in
theorem gX0_clear_J7_fill_53178 : GoodIn wsX0_clear (va_wsS RX0 26 yJ7_fill_53178 wsJ7_fill_53178) := goodIn_app (goodIn_of _ (by decide +kernel)) ggX0_clear_J7_fill_53178
theorem dX0_clear_0 : decode cX0_clear 0 = .ok (.aload_n 0, 1) := by decide +kernel
theorem dX0_clear_1 : decode cX0_clear 1 = .ok (.iload_n 1, 1) := by decide +kernel
theorem dX0_clear_2 : decode cX0_clear 2 = .ok (.bipush 7, 2) := by decide +kernel
theorem dX0_clear_4 : decode cX0_clear 4 = .ok (.invokestatic 19, 3) := by decide +kernel
theorem dX0_clear_7 : decode cX0_clear 7 = .ok (.putfield 15, 3) := by decide +kernel
theorem dX0_clear_10 : decode cX0_clear 10 = .ok (.aload_n 0, 1) := by decide +kernel
theorem dX0_clear_11 : decode cX0_clear 11 = .ok (.getfield 9, 3) := by decide +kernel
theorem dX0_clear_14 : decode cX0_clear 14 = .ok (.ldc 25, 2) := by decide +kernel
theorem dX0_clear_16 : decode cX0_clear 16 = .ok (.invokestatic 26, 3) := by decide +kernel
theorem dX0_clear_19 : decode cX0_clear 19 = .ok (.iconst 0, 1) := by decide +kernel
theorem dX0_clear_20 : decode cX0_clear 20 = .ok (.istore_n 2, 1) := by decide +kernel
theorem dX0_clear_21 : decode cX0_clear 21 = .ok (.iload_n 2, 1) := by decide +kernel
theorem dX0_clear_22 : decode cX0_clear 22 = .ok (.aload_n 0, 1) := by decide +kernel
theorem dX0_clear_23 : decode cX0_clear 23 = .ok (.getfield 15, 3) := by decide +kernel
theorem dX0_clear_26 : decode cX0_clear 26 = .ok (.if_icmp .ge 21, 3) := by decide +kernel
theorem dX0_clear_29 : decode cX0_clear 29 = .ok (.aload_n 0, 1) := by decide +kernel
theorem dX0_clear_30 : decode cX0_clear 30 = .ok (.getfield 9, 3) := by decide +kernel
theorem dX0_clear_33 : decode cX0_clear 33 = .ok (.iload_n 2, 1) := by decide +kernel
theorem dX0_clear_34 : decode cX0_clear 34 = .ok (.bipush 7, 2) := by decide +kernel
theorem dX0_clear_36 : decode cX0_clear 36 = .ok (.imul, 1) := by decide +kernel
theorem dX0_clear_37 : decode cX0_clear 37 = .ok (.iload_n 2, 1) := by decide +kernel
theorem dX0_clear_38 : decode cX0_clear 38 = .ok (.iadd, 1) := by decide +kernel
theorem dX0_clear_39 : decode cX0_clear 39 = .ok (.iconst 0, 1) := by decide +kernel
theorem dX0_clear_40 : decode cX0_clear 40 = .ok (.iastore, 1) := by decide +kernel
theorem dX0_clear_41 : decode cX0_clear 41 = .ok (.iinc 2 1, 3) := by decide +kernel
theorem dX0_clear_44 : decode cX0_clear 44 = .ok (.goto (-23), 3) := by decide +kernel
theorem dX0_clear_47 : decode cX0_clear 47 = .ok (.return_, 1) := by decide +kernel
theorem dX0_between_0 : decode cX0_between 0 = .ok (.aload_n 0, 1) := by decide +kernel
theorem dX0_between_1 : decode cX0_between 1 = .ok (.getfield 9, 3) := by decide +kernel
theorem dX0_between_4 : decode cX0_between 4 = .ok (.iload_n 1, 1) := by decide +kernel
theorem dX0_between_5 : decode cX0_between 5 = .ok (.bipush 7, 2) := by decide +kernel
theorem dX0_between_7 : decode cX0_between 7 = .ok (.imul, 1) := by decide +kernel
theorem dX0_between_8 : decode cX0_between 8 = .ok (.iload_n 2, 1) := by decide +kernel
theorem dX0_between_9 : decode cX0_between 9 = .ok (.iadd, 1) := by decide +kernel
theorem dX0_between_10 : decode cX0_between 10 = .ok (.iaload, 1) := by decide +kernel
theorem dX0_between_11 : decode cX0_between 11 = .ok (.ireturn, 1) := by decide +kernel
set_option maxRecDepth 20000 in
theorem ggX0_add_X0_between : GoodIn wsX0_add wsX0_between := goodIn_r _ [11, 2, 12, 13] (by decide +kernel) (by decide +kernel)
set_option maxRecDepth 20000 in
theorem gX0_add_X0_between : GoodIn wsX0_add (wsV RX0 32 RX0 yX0_between wsX0_between) := goodIn_app (goodIn_of _ (by decide +kernel)) ggX0_add_X0_between
theorem dX0_add_0 : decode cX0_add 0 = .ok (.aload_n 0, 1) := by decide +kernel
theorem dX0_add_1 : decode cX0_add 1 = .ok (.iload_n 1, 1) := by decide +kernel
theorem dX0_add_2 : decode cX0_add 2 = .ok (.iload_n 2, 1) := by decide +kernel
theorem dX0_add_3 : decode cX0_add 3 = .ok (.invokevirtual 32, 3) := by decide +kernel
theorem dX0_add_6 : decode cX0_add 6 = .ok (.iload_n 3, 1) := by decide +kernel
theorem dX0_add_7 : decode cX0_add 7 = .ok (.if_icmp .gt 4, 3) := by decide +kernel
theorem dX0_add_10 : decode cX0_add 10 = .ok (.return_, 1) := by decide +kernel
theorem dX0_add_11 : decode cX0_add 11 = .ok (.iload_n 1, 1) := by decide +kernel
theorem dX0_add_12 : decode cX0_add 12 = .ok (.bipush 7, 2) := by decide +kernel
theorem dX0_add_14 : decode cX0_add 14 = .ok (.imul, 1) := by decide +kernel
theorem dX0_add_15 : decode cX0_add 15 = .ok (.istore 4, 2) := by decide +kernel
theorem dX0_add_17 : decode cX0_add 17 = .ok (.iload_n 2, 1) := by decide +kernel
theorem dX0_add_18 : decode cX0_add 18 = .ok (.bipush 7, 2) := by decide +kernel
theorem dX0_add_20 : decode cX0_add 20 = .ok (.imul, 1) := by decide +kernel
theorem dX0_add_21 : decode cX0_add 21 = .ok (.istore 5, 2) := by decide +kernel
theorem dX0_add_23 : decode cX0_add 23 = .ok (.iconst 0, 1) := by decide +kernel
theorem dX0_add_24 : decode cX0_add 24 = .ok (.istore 6, 2) := by decide +kernel
theorem dX0_add_26 : decode cX0_add 26 = .ok (.iload 6, 2) := by decide +kernel
theorem dX0_add_28 : decode cX0_add 28 = .ok (.aload_n 0, 1) := by decide +kernel
theorem dX0_add_29 : decode cX0_add 29 = .ok (.getfield 15, 3) := by decide +kernel
theorem dX0_add_32 : decode cX0_add 32 = .ok (.bipush 7, 2) := by decide +kernel
theorem dX0_add_34 : decode cX0_add 34 = .ok (.imul, 1) := by decide +kernel
theorem dX0_add_35 : decode cX0_add 35 = .ok (.if_icmp .ge 109, 3) := by decide +kernel
theorem dX0_add_38 : decode cX0_add 38 = .ok (.aload_n 0, 1) := by decide +kernel
theorem dX0_add_39 : decode cX0_add 39 = .ok (.getfield 9, 3) := by decide +kernel
theorem dX0_add_42 : decode cX0_add 42 = .ok (.iload 6, 2) := by decide +kernel
theorem dX0_add_44 : decode cX0_add 44 = .ok (.iload_n 1, 1) := by decide +kernel
theorem dX0_add_45 : decode cX0_add 45 = .ok (.iadd, 1) := by decide +kernel
theorem dX0_add_46 : decode cX0_add 46 = .ok (.iaload, 1) := by decide +kernel
theorem dX0_add_47 : decode cX0_add 47 = .ok (.iload_n 3, 1) := by decide +kernel
theorem dX0_add_48 : decode cX0_add 48 = .ok (.iadd, 1) := by decide +kernel
theorem dX0_add_49 : decode cX0_add 49 = .ok (.istore 7, 2) := by decide +kernel
theorem dX0_add_51 : decode cX0_add 51 = .ok (.aload_n 0, 1) := by decide +kernel
theorem dX0_add_52 : decode cX0_add 52 = .ok (.getfield 9, 3) := by decide +kernel
theorem dX0_add_55 : decode cX0_add 55 = .ok (.iload 6, 2) := by decide +kernel
theorem dX0_add_57 : decode cX0_add 57 = .ok (.iload_n 2, 1) := by decide +kernel
theorem dX0_add_58 : decode cX0_add 58 = .ok (.iadd, 1) := by decide +kernel
theorem dX0_add_59 : decode cX0_add 59 = .ok (.iaload, 1) := by decide +kernel
theorem dX0_add_60 : decode cX0_add 60 = .ok (.iload_n 3, 1) := by decide +kernel
theorem dX0_add_61 : decode cX0_add 61 = .ok (.iadd, 1) := by decide +kernel
theorem dX0_add_62 : decode cX0_add 62 = .ok (.istore 8, 2) := by decide +kernel
theorem dX0_add_64 : decode cX0_add 64 = .ok (.iconst 0, 1) := by decide +kernel
theorem dX0_add_65 : decode cX0_add 65 = .ok (.istore 9, 2) := by decide +kernel
theorem dX0_add_67 : decode cX0_add 67 = .ok (.iload 9, 2) := by decide +kernel
theorem dX0_add_69 : decode cX0_add 69 = .ok (.aload_n 0, 1) := by decide +kernel
theorem dX0_add_70 : decode cX0_add 70 = .ok (.getfield 15, 3) := by decide +kernel
theorem dX0_add_73 : decode cX0_add 73 = .ok (.if_icmp .ge 65, 3) := by decide +kernel
theorem dX0_add_76 : decode cX0_add 76 = .ok (.iload 7, 2) := by decide +kernel
theorem dX0_add_78 : decode cX0_add 78 = .ok (.aload_n 0, 1) := by decide +kernel
theorem dX0_add_79 : decode cX0_add 79 = .ok (.getfield 9, 3) := by decide +kernel
theorem dX0_add_82 : decode cX0_add 82 = .ok (.iload 5, 2) := by decide +kernel
theorem dX0_add_84 : decode cX0_add 84 = .ok (.iload 9, 2) := by decide +kernel
theorem dX0_add_86 : decode cX0_add 86 = .ok (.iadd, 1) := by decide +kernel
theorem dX0_add_87 : decode cX0_add 87 = .ok (.iaload, 1) := by decide +kernel
theorem dX0_add_88 : decode cX0_add 88 = .ok (.iadd, 1) := by decide +kernel
theorem dX0_add_89 : decode cX0_add 89 = .ok (.iload 8, 2) := by decide +kernel
theorem dX0_add_91 : decode cX0_add 91 = .ok (.aload_n 0, 1) := by decide +kernel
theorem dX0_add_92 : decode cX0_add 92 = .ok (.getfield 9, 3) := by decide +kernel
theorem dX0_add_95 : decode cX0_add 95 = .ok (.iload 4, 2) := by decide +kernel
theorem dX0_add_97 : decode cX0_add 97 = .ok (.iload 9, 2) := by decide +kernel
theorem dX0_add_99 : decode cX0_add 99 = .ok (.iadd, 1) := by decide +kernel
theorem dX0_add_100 : decode cX0_add 100 = .ok (.iaload, 1) := by decide +kernel
theorem dX0_add_101 : decode cX0_add 101 = .ok (.iadd, 1) := by decide +kernel
theorem dX0_add_102 : decode cX0_add 102 = .ok (.invokestatic 19, 3) := by decide +kernel
theorem dX0_add_105 : decode cX0_add 105 = .ok (.istore 10, 2) := by decide +kernel
theorem dX0_add_107 : decode cX0_add 107 = .ok (.aload_n 0, 1) := by decide +kernel
theorem dX0_add_108 : decode cX0_add 108 = .ok (.getfield 9, 3) := by decide +kernel
theorem dX0_add_111 : decode cX0_add 111 = .ok (.iload 6, 2) := by decide +kernel
theorem dX0_add_113 : decode cX0_add 113 = .ok (.iload 9, 2) := by decide +kernel
theorem dX0_add_115 : decode cX0_add 115 = .ok (.iadd, 1) := by decide +kernel
theorem dX0_add_116 : decode cX0_add 116 = .ok (.aload_n 0, 1) := by decide +kernel
theorem dX0_add_117 : decode cX0_add 117 = .ok (.getfield 9, 3) := by decide +kernel
theorem dX0_add_120 : decode cX0_add 120 = .ok (.iload 6, 2) := by decide +kernel
theorem dX0_add_122 : decode cX0_add 122 = .ok (.iload 9, 2) := by decide +kernel
theorem dX0_add_124 : decode cX0_add 124 = .ok (.iadd, 1) := by decide +kernel
theorem dX0_add_125 : decode cX0_add 125 = .ok (.iaload, 1) := by decide +kernel
theorem dX0_add_126 : decode cX0_add 126 = .ok (.iload 10, 2) := by decide +kernel
theorem dX0_add_128 : decode cX0_add 128 = .ok (.invokestatic 19, 3) := by decide +kernel
theorem dX0_add_131 : decode cX0_add 131 = .ok (.iastore, 1) := by decide +kernel
theorem dX0_add_132 : decode cX0_add 132 = .ok (.iinc 9 1, 3) := by decide +kernel
theorem dX0_add_135 : decode cX0_add 135 = .ok (.goto (-68), 3) := by decide +kernel
theorem dX0_add_138 : decode cX0_add 138 = .ok (.iinc 6 7, 3) := by decide +kernel
theorem dX0_add_141 : decode cX0_add 141 = .ok (.goto (-115), 3) := by decide +kernel
theorem dX0_add_144 : decode cX0_add 144 = .ok (.return_, 1) := by decide +kernel
theorem dX1_init_0 : decode cX1_init 0 = .ok (.aload_n 0, 1) := by decide +kernel
theorem dX1_init_1 : decode cX1_init 1 = .ok (.invokespecial 3, 3) := by decide +kernel
theorem dX1_init_4 : decode cX1_init 4 = .ok (.aload_n 0, 1) := by decide +kernel
theorem dX1_init_5 : decode cX1_init 5 = .ok (.bipush 49, 2) := by decide +kernel
theorem dX1_init_7 : decode cX1_init 7 = .ok (.newarray .long, 2) := by decide +kernel
theorem dX1_init_9 : decode cX1_init 9 = .ok (.putfield 9, 3) := by decide +kernel
theorem dX1_init_12 : decode cX1_init 12 = .ok (.aload_n 0, 1) := by decide +kernel
theorem dX1_init_13 : decode cX1_init 13 = .ok (.bipush 7, 2) := by decide +kernel
theorem dX1_init_15 : decode cX1_init 15 = .ok (.newarray .int, 2) := by decide +kernel
theorem dX1_init_17 : decode cX1_init 17 = .ok (.putfield 15, 3) := by decide +kernel
theorem dX1_init_20 : decode cX1_init 20 = .ok (.aload_n 0, 1) := by decide +kernel
theorem dX1_init_21 : decode cX1_init 21 = .ok (.sipush 128, 3) := by decide +kernel
theorem dX1_init_24 : decode cX1_init 24 = .ok (.newarray .long, 2) := by decide +kernel
theorem dX1_init_26 : decode cX1_init 26 = .ok (.putfield 19, 3) := by decide +kernel
theorem dX1_init_29 : decode cX1_init 29 = .ok (.aload_n 0, 1) := by decide +kernel
theorem dX1_init_30 : decode cX1_init 30 = .ok (.iconst 0, 1) := by decide +kernel
theorem dX1_init_31 : decode cX1_init 31 = .ok (.putfield 22, 3) := by decide +kernel
theorem dX1_init_34 : decode cX1_init 34 = .ok (.return_, 1) := by decide +kernel
set_option maxRecDepth 20000 in
theorem ggX1_clear_J7_fill_d0a16 : GoodIn wsX1_clear wsJ7_fill_d0a16 := goodIn_r _ [10] (by decide +kernel) (by decide +kernel)
set_option maxRecDepth 20000 in
theorem gX1_clear_J7_fill_d0a16 : GoodIn wsX1_clear (va_wsS RX1 32 yJ7_fill_d0a16 wsJ7_fill_d0a16) := goodIn_app (goodIn_of _ (by decide +kernel)) ggX1_clear_J7_fill_d0a16
theorem dX1_clear_0 : decode cX1_clear 0 = .ok (.aload_n 0, 1) := by decide +kernel
theorem dX1_clear_1 : decode cX1_clear 1 = .ok (.iload_n 1, 1) := by decide +kernel
theorem dX1_clear_2 : decode cX1_clear 2 = .ok (.bipush 7, 2) := by decide +kernel
theorem dX1_clear_4 : decode cX1_clear 4 = .ok (.invokestatic 26, 3) := by decide +kernel
theorem dX1_clear_7 : decode cX1_clear 7 = .ok (.putfield 22, 3) := by decide +kernel
theorem dX1_clear_10 : decode cX1_clear 10 = .ok (.aload_n 0, 1) := by decide +kernel
theorem dX1_clear_11 : decode cX1_clear 11 = .ok (.getfield 9, 3) := by decide +kernel
theorem dX1_clear_14 : decode cX1_clear 14 = .ok (.lconst 0, 1) := by decide +kernel
theorem dX1_clear_15 : decode cX1_clear 15 = .ok (.invokestatic 32, 3) := by decide +kernel
theorem dX1_clear_18 : decode cX1_clear 18 = .ok (.return_, 1) := by decide +kernel
theorem dX1_add_0 : decode cX1_add 0 = .ok (.aload_n 0, 1) := by decide +kernel
theorem dX1_add_1 : decode cX1_add 1 = .ok (.getfield 9, 3) := by decide +kernel
theorem dX1_add_4 : decode cX1_add 4 = .ok (.iload_n 1, 1) := by decide +kernel
theorem dX1_add_5 : decode cX1_add 5 = .ok (.bipush 7, 2) := by decide +kernel
theorem dX1_add_7 : decode cX1_add 7 = .ok (.imul, 1) := by decide +kernel
theorem dX1_add_8 : decode cX1_add 8 = .ok (.iload_n 1, 1) := by decide +kernel
theorem dX1_add_9 : decode cX1_add 9 = .ok (.iadd, 1) := by decide +kernel
theorem dX1_add_10 : decode cX1_add 10 = .ok (.dup2, 1) := by decide +kernel
theorem dX1_add_11 : decode cX1_add 11 = .ok (.laload, 1) := by decide +kernel
theorem dX1_add_12 : decode cX1_add 12 = .ok (.iload_n 3, 1) := by decide +kernel
theorem dX1_add_13 : decode cX1_add 13 = .ok (.i2l, 1) := by decide +kernel
theorem dX1_add_14 : decode cX1_add 14 = .ok (.ladd, 1) := by decide +kernel
theorem dX1_add_15 : decode cX1_add 15 = .ok (.lastore, 1) := by decide +kernel
theorem dX1_add_16 : decode cX1_add 16 = .ok (.aload_n 0, 1) := by decide +kernel
theorem dX1_add_17 : decode cX1_add 17 = .ok (.getfield 9, 3) := by decide +kernel
theorem dX1_add_20 : decode cX1_add 20 = .ok (.iload_n 2, 1) := by decide +kernel
theorem dX1_add_21 : decode cX1_add 21 = .ok (.bipush 7, 2) := by decide +kernel
theorem dX1_add_23 : decode cX1_add 23 = .ok (.imul, 1) := by decide +kernel
theorem dX1_add_24 : decode cX1_add 24 = .ok (.iload_n 2, 1) := by decide +kernel
theorem dX1_add_25 : decode cX1_add 25 = .ok (.iadd, 1) := by decide +kernel
theorem dX1_add_26 : decode cX1_add 26 = .ok (.dup2, 1) := by decide +kernel
theorem dX1_add_27 : decode cX1_add 27 = .ok (.laload, 1) := by decide +kernel
theorem dX1_add_28 : decode cX1_add 28 = .ok (.iload_n 3, 1) := by decide +kernel
theorem dX1_add_29 : decode cX1_add 29 = .ok (.i2l, 1) := by decide +kernel
theorem dX1_add_30 : decode cX1_add 30 = .ok (.ladd, 1) := by decide +kernel
theorem dX1_add_31 : decode cX1_add 31 = .ok (.lastore, 1) := by decide +kernel
theorem dX1_add_32 : decode cX1_add 32 = .ok (.aload_n 0, 1) := by decide +kernel
theorem dX1_add_33 : decode cX1_add 33 = .ok (.getfield 9, 3) := by decide +kernel
theorem dX1_add_36 : decode cX1_add 36 = .ok (.iload_n 1, 1) := by decide +kernel
theorem dX1_add_37 : decode cX1_add 37 = .ok (.bipush 7, 2) := by decide +kernel
theorem dX1_add_39 : decode cX1_add 39 = .ok (.imul, 1) := by decide +kernel
theorem dX1_add_40 : decode cX1_add 40 = .ok (.iload_n 2, 1) := by decide +kernel
theorem dX1_add_41 : decode cX1_add 41 = .ok (.iadd, 1) := by decide +kernel
theorem dX1_add_42 : decode cX1_add 42 = .ok (.dup2, 1) := by decide +kernel
theorem dX1_add_43 : decode cX1_add 43 = .ok (.laload, 1) := by decide +kernel
theorem dX1_add_44 : decode cX1_add 44 = .ok (.iload_n 3, 1) := by decide +kernel
theorem dX1_add_45 : decode cX1_add 45 = .ok (.i2l, 1) := by decide +kernel
theorem dX1_add_46 : decode cX1_add 46 = .ok (.lsub, 1) := by decide +kernel
theorem dX1_add_47 : decode cX1_add 47 = .ok (.lastore, 1) := by decide +kernel
theorem dX1_add_48 : decode cX1_add 48 = .ok (.aload_n 0, 1) := by decide +kernel
theorem dX1_add_49 : decode cX1_add 49 = .ok (.getfield 9, 3) := by decide +kernel
theorem dX1_add_52 : decode cX1_add 52 = .ok (.iload_n 2, 1) := by decide +kernel
theorem dX1_add_53 : decode cX1_add 53 = .ok (.bipush 7, 2) := by decide +kernel
theorem dX1_add_55 : decode cX1_add 55 = .ok (.imul, 1) := by decide +kernel
theorem dX1_add_56 : decode cX1_add 56 = .ok (.iload_n 1, 1) := by decide +kernel
theorem dX1_add_57 : decode cX1_add 57 = .ok (.iadd, 1) := by decide +kernel
theorem dX1_add_58 : decode cX1_add 58 = .ok (.dup2, 1) := by decide +kernel
theorem dX1_add_59 : decode cX1_add 59 = .ok (.laload, 1) := by decide +kernel
theorem dX1_add_60 : decode cX1_add 60 = .ok (.iload_n 3, 1) := by decide +kernel
theorem dX1_add_61 : decode cX1_add 61 = .ok (.i2l, 1) := by decide +kernel
theorem dX1_add_62 : decode cX1_add 62 = .ok (.lsub, 1) := by decide +kernel
theorem dX1_add_63 : decode cX1_add 63 = .ok (.lastore, 1) := by decide +kernel
theorem dX1_add_64 : decode cX1_add 64 = .ok (.return_, 1) := by decide +kernel
set_option maxRecDepth 20000 in
theorem ggX1_without_X1_choose : GoodIn wsX1_without wsX1_choose := goodIn_r _ [6, 7, 8, 9, 10, 11, 24, 25, 26, 27] (by decide +kernel) (by decide +kernel)
set_option maxRecDepth 20000 in
theorem gX1_without_X1_choose : GoodIn wsX1_without (wsV RX1 38 RX1 yX1_choose wsX1_choose) := goodIn_app (goodIn_of _ (by decide +kernel)) ggX1_without_X1_choose
set_option maxRecDepth 20000 in
theorem ggX1_without_X1_alongLastRow : GoodIn wsX1_without wsX1_alongLastRow := goodIn_r _ [15, 8, 16, 1, 17, 18, 19, 20, 21, 22, 23, 9, 10, 11, 24, 25, 26, 27] (by decide +kernel) (by decide +kernel)
set_option maxRecDepth 20000 in
theorem gX1_without_X1_alongLastRow : GoodIn wsX1_without (wsV RX1 42 RX1 yX1_alongLastRow wsX1_alongLastRow) := goodIn_app (goodIn_of _ (by decide +kernel)) ggX1_without_X1_alongLastRow
theorem dX1_without_0 : decode cX1_without 0 = .ok (.aload_n 0, 1) := by decide +kernel
theorem dX1_without_1 : decode cX1_without 1 = .ok (.iload_n 1, 1) := by decide +kernel
theorem dX1_without_2 : decode cX1_without 2 = .ok (.invokevirtual 38, 3) := by decide +kernel
theorem dX1_without_5 : decode cX1_without 5 = .ok (.istore_n 2, 1) := by decide +kernel
theorem dX1_without_6 : decode cX1_without 6 = .ok (.iconst 1, 1) := by decide +kernel
theorem dX1_without_7 : decode cX1_without 7 = .ok (.iload_n 2, 1) := by decide +kernel
theorem dX1_without_8 : decode cX1_without 8 = .ok (.ishl, 1) := by decide +kernel
theorem dX1_without_9 : decode cX1_without 9 = .ok (.iconst 1, 1) := by decide +kernel
theorem dX1_without_10 : decode cX1_without 10 = .ok (.isub, 1) := by decide +kernel
theorem dX1_without_11 : decode cX1_without 11 = .ok (.istore_n 3, 1) := by decide +kernel
theorem dX1_without_12 : decode cX1_without 12 = .ok (.aload_n 0, 1) := by decide +kernel
theorem dX1_without_13 : decode cX1_without 13 = .ok (.getfield 19, 3) := by decide +kernel
theorem dX1_without_16 : decode cX1_without 16 = .ok (.iconst 0, 1) := by decide +kernel
theorem dX1_without_17 : decode cX1_without 17 = .ok (.lconst 1, 1) := by decide +kernel
theorem dX1_without_18 : decode cX1_without 18 = .ok (.lastore, 1) := by decide +kernel
theorem dX1_without_19 : decode cX1_without 19 = .ok (.iconst 1, 1) := by decide +kernel
theorem dX1_without_20 : decode cX1_without 20 = .ok (.istore 4, 2) := by decide +kernel
theorem dX1_without_22 : decode cX1_without 22 = .ok (.iload 4, 2) := by decide +kernel
theorem dX1_without_24 : decode cX1_without 24 = .ok (.iload_n 3, 1) := by decide +kernel
theorem dX1_without_25 : decode cX1_without 25 = .ok (.if_icmp .gt 23, 3) := by decide +kernel
theorem dX1_without_28 : decode cX1_without 28 = .ok (.aload_n 0, 1) := by decide +kernel
theorem dX1_without_29 : decode cX1_without 29 = .ok (.getfield 19, 3) := by decide +kernel
theorem dX1_without_32 : decode cX1_without 32 = .ok (.iload 4, 2) := by decide +kernel
theorem dX1_without_34 : decode cX1_without 34 = .ok (.aload_n 0, 1) := by decide +kernel
theorem dX1_without_35 : decode cX1_without 35 = .ok (.iload 4, 2) := by decide +kernel
theorem dX1_without_37 : decode cX1_without 37 = .ok (.iload_n 2, 1) := by decide +kernel
theorem dX1_without_38 : decode cX1_without 38 = .ok (.invokevirtual 42, 3) := by decide +kernel
theorem dX1_without_41 : decode cX1_without 41 = .ok (.lastore, 1) := by decide +kernel
theorem dX1_without_42 : decode cX1_without 42 = .ok (.iinc 4 1, 3) := by decide +kernel
theorem dX1_without_45 : decode cX1_without 45 = .ok (.goto (-23), 3) := by decide +kernel
theorem dX1_without_48 : decode cX1_without 48 = .ok (.aload_n 0, 1) := by decide +kernel
theorem dX1_without_49 : decode cX1_without 49 = .ok (.getfield 19, 3) := by decide +kernel
theorem dX1_without_52 : decode cX1_without 52 = .ok (.iload_n 3, 1) := by decide +kernel
theorem dX1_without_53 : decode cX1_without 53 = .ok (.laload, 1) := by decide +kernel
theorem dX1_without_54 : decode cX1_without 54 = .ok (.lreturn, 1) := by decide +kernel
set_option maxRecDepth 20000 in
theorem ggX1_choose_X3_isIn : GoodIn wsX1_choose wsX3_isIn := goodIn_r _ [5] (by decide +kernel) (by decide +kernel)
set_option maxRecDepth 20000 in
theorem gX1_choose_X3_isIn_n46 : GoodIn wsX1_choose (wsX3_isIn) := ggX1_choose_X3_isIn
theorem dX1_choose_0 : decode cX1_choose 0 = .ok (.iconst 0, 1) := by decide +kernel
theorem dX1_choose_1 : decode cX1_choose 1 = .ok (.istore_n 2, 1) := by decide +kernel
theorem dX1_choose_2 : decode cX1_choose 2 = .ok (.iconst 0, 1) := by decide +kernel
theorem dX1_choose_3 : decode cX1_choose 3 = .ok (.istore_n 3, 1) := by decide +kernel
theorem dX1_choose_4 : decode cX1_choose 4 = .ok (.iload_n 3, 1) := by decide +kernel
theorem dX1_choose_5 : decode cX1_choose 5 = .ok (.aload_n 0, 1) := by decide +kernel
theorem dX1_choose_6 : decode cX1_choose 6 = .ok (.getfield 22, 3) := by decide +kernel
theorem dX1_choose_9 : decode cX1_choose 9 = .ok (.if_icmp .ge 27, 3) := by decide +kernel
theorem dX1_choose_12 : decode cX1_choose 12 = .ok (.iload_n 1, 1) := by decide +kernel
theorem dX1_choose_13 : decode cX1_choose 13 = .ok (.iload_n 3, 1) := by decide +kernel
theorem dX1_choose_14 : decode cX1_choose 14 = .ok (.invokestatic 46, 3) := by decide +kernel
theorem dX1_choose_17 : decode cX1_choose 17 = .ok (.ifCond .ne 13, 3) := by decide +kernel
theorem dX1_choose_20 : decode cX1_choose 20 = .ok (.aload_n 0, 1) := by decide +kernel
theorem dX1_choose_21 : decode cX1_choose 21 = .ok (.getfield 15, 3) := by decide +kernel
theorem dX1_choose_24 : decode cX1_choose 24 = .ok (.iload_n 2, 1) := by decide +kernel
theorem dX1_choose_25 : decode cX1_choose 25 = .ok (.iload_n 3, 1) := by decide +kernel
theorem dX1_choose_26 : decode cX1_choose 26 = .ok (.iastore, 1) := by decide +kernel
theorem dX1_choose_27 : decode cX1_choose 27 = .ok (.iinc 2 1, 3) := by decide +kernel
theorem dX1_choose_30 : decode cX1_choose 30 = .ok (.iinc 3 1, 3) := by decide +kernel
theorem dX1_choose_33 : decode cX1_choose 33 = .ok (.goto (-29), 3) := by decide +kernel
theorem dX1_choose_36 : decode cX1_choose 36 = .ok (.iload_n 2, 1) := by decide +kernel
theorem dX1_choose_37 : decode cX1_choose 37 = .ok (.ireturn, 1) := by decide +kernel
set_option maxRecDepth 20000 in
theorem ggX1_alongLastRow_J6_bitCount_0f7a4 : GoodIn wsX1_alongLastRow wsJ6_bitCount_0f7a4 := goodIn_r _ [7, 8, 9, 10] (by decide +kernel) (by decide +kernel)
set_option maxRecDepth 20000 in
theorem gX1_alongLastRow_J6_bitCount_0f7a4 : GoodIn wsX1_alongLastRow (va_wsS RX1 50 yJ6_bitCount_0f7a4 wsJ6_bitCount_0f7a4) := goodIn_app (goodIn_of _ (by decide +kernel)) ggX1_alongLastRow_J6_bitCount_0f7a4
set_option maxRecDepth 20000 in
theorem ggX1_alongLastRow_X3_isIn : GoodIn wsX1_alongLastRow wsX3_isIn := goodIn_r _ [13] (by decide +kernel) (by decide +kernel)
set_option maxRecDepth 20000 in
theorem gX1_alongLastRow_X3_isIn_n46 : GoodIn wsX1_alongLastRow (wsX3_isIn) := ggX1_alongLastRow_X3_isIn
theorem dX1_alongLastRow_0 : decode cX1_alongLastRow 0 = .ok (.aload_n 0, 1) := by decide +kernel
theorem dX1_alongLastRow_1 : decode cX1_alongLastRow 1 = .ok (.getfield 15, 3) := by decide +kernel
theorem dX1_alongLastRow_4 : decode cX1_alongLastRow 4 = .ok (.iload_n 1, 1) := by decide +kernel
theorem dX1_alongLastRow_5 : decode cX1_alongLastRow 5 = .ok (.invokestatic 50, 3) := by decide +kernel
theorem dX1_alongLastRow_8 : decode cX1_alongLastRow 8 = .ok (.iconst 1, 1) := by decide +kernel
theorem dX1_alongLastRow_9 : decode cX1_alongLastRow 9 = .ok (.isub, 1) := by decide +kernel
theorem dX1_alongLastRow_10 : decode cX1_alongLastRow 10 = .ok (.iaload, 1) := by decide +kernel
theorem dX1_alongLastRow_11 : decode cX1_alongLastRow 11 = .ok (.bipush 7, 2) := by decide +kernel
theorem dX1_alongLastRow_13 : decode cX1_alongLastRow 13 = .ok (.imul, 1) := by decide +kernel
theorem dX1_alongLastRow_14 : decode cX1_alongLastRow 14 = .ok (.istore_n 3, 1) := by decide +kernel
theorem dX1_alongLastRow_15 : decode cX1_alongLastRow 15 = .ok (.lconst 0, 1) := by decide +kernel
theorem dX1_alongLastRow_16 : decode cX1_alongLastRow 16 = .ok (.lstore 4, 2) := by decide +kernel
theorem dX1_alongLastRow_18 : decode cX1_alongLastRow 18 = .ok (.lconst 1, 1) := by decide +kernel
theorem dX1_alongLastRow_19 : decode cX1_alongLastRow 19 = .ok (.lstore 6, 2) := by decide +kernel
theorem dX1_alongLastRow_21 : decode cX1_alongLastRow 21 = .ok (.iload_n 2, 1) := by decide +kernel
theorem dX1_alongLastRow_22 : decode cX1_alongLastRow 22 = .ok (.iconst 1, 1) := by decide +kernel
theorem dX1_alongLastRow_23 : decode cX1_alongLastRow 23 = .ok (.isub, 1) := by decide +kernel
theorem dX1_alongLastRow_24 : decode cX1_alongLastRow 24 = .ok (.istore 8, 2) := by decide +kernel
theorem dX1_alongLastRow_26 : decode cX1_alongLastRow 26 = .ok (.iload 8, 2) := by decide +kernel
theorem dX1_alongLastRow_28 : decode cX1_alongLastRow 28 = .ok (.ifCond .lt 59, 3) := by decide +kernel
theorem dX1_alongLastRow_31 : decode cX1_alongLastRow 31 = .ok (.iload_n 1, 1) := by decide +kernel
theorem dX1_alongLastRow_32 : decode cX1_alongLastRow 32 = .ok (.iload 8, 2) := by decide +kernel
theorem dX1_alongLastRow_34 : decode cX1_alongLastRow 34 = .ok (.invokestatic 46, 3) := by decide +kernel
theorem dX1_alongLastRow_37 : decode cX1_alongLastRow 37 = .ok (.ifCond .eq 44, 3) := by decide +kernel
theorem dX1_alongLastRow_40 : decode cX1_alongLastRow 40 = .ok (.lload 4, 2) := by decide +kernel
theorem dX1_alongLastRow_42 : decode cX1_alongLastRow 42 = .ok (.lload 6, 2) := by decide +kernel
theorem dX1_alongLastRow_44 : decode cX1_alongLastRow 44 = .ok (.aload_n 0, 1) := by decide +kernel
theorem dX1_alongLastRow_45 : decode cX1_alongLastRow 45 = .ok (.getfield 9, 3) := by decide +kernel
theorem dX1_alongLastRow_48 : decode cX1_alongLastRow 48 = .ok (.iload_n 3, 1) := by decide +kernel
theorem dX1_alongLastRow_49 : decode cX1_alongLastRow 49 = .ok (.aload_n 0, 1) := by decide +kernel
theorem dX1_alongLastRow_50 : decode cX1_alongLastRow 50 = .ok (.getfield 15, 3) := by decide +kernel
theorem dX1_alongLastRow_53 : decode cX1_alongLastRow 53 = .ok (.iload 8, 2) := by decide +kernel
theorem dX1_alongLastRow_55 : decode cX1_alongLastRow 55 = .ok (.iaload, 1) := by decide +kernel
theorem dX1_alongLastRow_56 : decode cX1_alongLastRow 56 = .ok (.iadd, 1) := by decide +kernel
theorem dX1_alongLastRow_57 : decode cX1_alongLastRow 57 = .ok (.laload, 1) := by decide +kernel
theorem dX1_alongLastRow_58 : decode cX1_alongLastRow 58 = .ok (.lmul, 1) := by decide +kernel
theorem dX1_alongLastRow_59 : decode cX1_alongLastRow 59 = .ok (.aload_n 0, 1) := by decide +kernel
theorem dX1_alongLastRow_60 : decode cX1_alongLastRow 60 = .ok (.getfield 19, 3) := by decide +kernel
theorem dX1_alongLastRow_63 : decode cX1_alongLastRow 63 = .ok (.iload_n 1, 1) := by decide +kernel
theorem dX1_alongLastRow_64 : decode cX1_alongLastRow 64 = .ok (.iconst 1, 1) := by decide +kernel
theorem dX1_alongLastRow_65 : decode cX1_alongLastRow 65 = .ok (.iload 8, 2) := by decide +kernel
theorem dX1_alongLastRow_67 : decode cX1_alongLastRow 67 = .ok (.ishl, 1) := by decide +kernel
theorem dX1_alongLastRow_68 : decode cX1_alongLastRow 68 = .ok (.iconst (-1), 1) := by decide +kernel
theorem dX1_alongLastRow_69 : decode cX1_alongLastRow 69 = .ok (.ixor, 1) := by decide +kernel
theorem dX1_alongLastRow_70 : decode cX1_alongLastRow 70 = .ok (.iand, 1) := by decide +kernel
theorem dX1_alongLastRow_71 : decode cX1_alongLastRow 71 = .ok (.laload, 1) := by decide +kernel
theorem dX1_alongLastRow_72 : decode cX1_alongLastRow 72 = .ok (.lmul, 1) := by decide +kernel
theorem dX1_alongLastRow_73 : decode cX1_alongLastRow 73 = .ok (.ladd, 1) := by decide +kernel
theorem dX1_alongLastRow_74 : decode cX1_alongLastRow 74 = .ok (.lstore 4, 2) := by decide +kernel
theorem dX1_alongLastRow_76 : decode cX1_alongLastRow 76 = .ok (.lload 6, 2) := by decide +kernel
theorem dX1_alongLastRow_78 : decode cX1_alongLastRow 78 = .ok (.lneg, 1) := by decide +kernel
theorem dX1_alongLastRow_79 : decode cX1_alongLastRow 79 = .ok (.lstore 6, 2) := by decide +kernel
theorem dX1_alongLastRow_81 : decode cX1_alongLastRow 81 = .ok (.iinc 8 (-1), 3) := by decide +kernel
theorem dX1_alongLastRow_84 : decode cX1_alongLastRow 84 = .ok (.goto (-58), 3) := by decide +kernel
theorem dX1_alongLastRow_87 : decode cX1_alongLastRow 87 = .ok (.lload 4, 2) := by decide +kernel
theorem dX1_alongLastRow_89 : decode cX1_alongLastRow 89 = .ok (.lreturn, 1) := by decide +kernel
theorem dX2_init_0 : decode cX2_init 0 = .ok (.aload_n 0, 1) := by decide +kernel
theorem dX2_init_1 : decode cX2_init 1 = .ok (.invokespecial 3, 3) := by decide +kernel
theorem dX2_init_4 : decode cX2_init 4 = .ok (.aload_n 0, 1) := by decide +kernel
theorem dX2_init_5 : decode cX2_init 5 = .ok (.bipush 7, 2) := by decide +kernel
theorem dX2_init_7 : decode cX2_init 7 = .ok (.newarray .int, 2) := by decide +kernel
theorem dX2_init_9 : decode cX2_init 9 = .ok (.putfield 9, 3) := by decide +kernel
theorem dX2_init_12 : decode cX2_init 12 = .ok (.return_, 1) := by decide +kernel
theorem dX2_clear_0 : decode cX2_clear 0 = .ok (.iconst 0, 1) := by decide +kernel
theorem dX2_clear_1 : decode cX2_clear 1 = .ok (.istore_n 1, 1) := by decide +kernel
theorem dX2_clear_2 : decode cX2_clear 2 = .ok (.iload_n 1, 1) := by decide +kernel
theorem dX2_clear_3 : decode cX2_clear 3 = .ok (.bipush 7, 2) := by decide +kernel
theorem dX2_clear_5 : decode cX2_clear 5 = .ok (.if_icmp .ge 16, 3) := by decide +kernel
theorem dX2_clear_8 : decode cX2_clear 8 = .ok (.aload_n 0, 1) := by decide +kernel
theorem dX2_clear_9 : decode cX2_clear 9 = .ok (.getfield 9, 3) := by decide +kernel
theorem dX2_clear_12 : decode cX2_clear 12 = .ok (.iload_n 1, 1) := by decide +kernel
theorem dX2_clear_13 : decode cX2_clear 13 = .ok (.iload_n 1, 1) := by decide +kernel
theorem dX2_clear_14 : decode cX2_clear 14 = .ok (.iastore, 1) := by decide +kernel
theorem dX2_clear_15 : decode cX2_clear 15 = .ok (.iinc 1 1, 3) := by decide +kernel
theorem dX2_clear_18 : decode cX2_clear 18 = .ok (.goto (-16), 3) := by decide +kernel
theorem dX2_clear_21 : decode cX2_clear 21 = .ok (.return_, 1) := by decide +kernel
theorem dX2_join_0 : decode cX2_join 0 = .ok (.aload_n 0, 1) := by decide +kernel
theorem dX2_join_1 : decode cX2_join 1 = .ok (.getfield 9, 3) := by decide +kernel
theorem dX2_join_4 : decode cX2_join 4 = .ok (.iload_n 1, 1) := by decide +kernel
theorem dX2_join_5 : decode cX2_join 5 = .ok (.iaload, 1) := by decide +kernel
theorem dX2_join_6 : decode cX2_join 6 = .ok (.istore_n 3, 1) := by decide +kernel
theorem dX2_join_7 : decode cX2_join 7 = .ok (.aload_n 0, 1) := by decide +kernel
theorem dX2_join_8 : decode cX2_join 8 = .ok (.getfield 9, 3) := by decide +kernel
theorem dX2_join_11 : decode cX2_join 11 = .ok (.iload_n 2, 1) := by decide +kernel
theorem dX2_join_12 : decode cX2_join 12 = .ok (.iaload, 1) := by decide +kernel
theorem dX2_join_13 : decode cX2_join 13 = .ok (.istore 4, 2) := by decide +kernel
theorem dX2_join_15 : decode cX2_join 15 = .ok (.iload_n 3, 1) := by decide +kernel
theorem dX2_join_16 : decode cX2_join 16 = .ok (.iload 4, 2) := by decide +kernel
theorem dX2_join_18 : decode cX2_join 18 = .ok (.if_icmp .ne 5, 3) := by decide +kernel
theorem dX2_join_21 : decode cX2_join 21 = .ok (.iconst 0, 1) := by decide +kernel
theorem dX2_join_22 : decode cX2_join 22 = .ok (.ireturn, 1) := by decide +kernel
theorem dX2_join_23 : decode cX2_join 23 = .ok (.iconst 0, 1) := by decide +kernel
theorem dX2_join_24 : decode cX2_join 24 = .ok (.istore 5, 2) := by decide +kernel
theorem dX2_join_26 : decode cX2_join 26 = .ok (.iload 5, 2) := by decide +kernel
theorem dX2_join_28 : decode cX2_join 28 = .ok (.bipush 7, 2) := by decide +kernel
theorem dX2_join_30 : decode cX2_join 30 = .ok (.if_icmp .ge 29, 3) := by decide +kernel
theorem dX2_join_33 : decode cX2_join 33 = .ok (.aload_n 0, 1) := by decide +kernel
theorem dX2_join_34 : decode cX2_join 34 = .ok (.getfield 9, 3) := by decide +kernel
theorem dX2_join_37 : decode cX2_join 37 = .ok (.iload 5, 2) := by decide +kernel
theorem dX2_join_39 : decode cX2_join 39 = .ok (.iaload, 1) := by decide +kernel
theorem dX2_join_40 : decode cX2_join 40 = .ok (.iload_n 3, 1) := by decide +kernel
theorem dX2_join_41 : decode cX2_join 41 = .ok (.if_icmp .ne 12, 3) := by decide +kernel
theorem dX2_join_44 : decode cX2_join 44 = .ok (.aload_n 0, 1) := by decide +kernel
theorem dX2_join_45 : decode cX2_join 45 = .ok (.getfield 9, 3) := by decide +kernel
theorem dX2_join_48 : decode cX2_join 48 = .ok (.iload 5, 2) := by decide +kernel
theorem dX2_join_50 : decode cX2_join 50 = .ok (.iload 4, 2) := by decide +kernel
theorem dX2_join_52 : decode cX2_join 52 = .ok (.iastore, 1) := by decide +kernel
theorem dX2_join_53 : decode cX2_join 53 = .ok (.iinc 5 1, 3) := by decide +kernel
theorem dX2_join_56 : decode cX2_join 56 = .ok (.goto (-30), 3) := by decide +kernel
theorem dX2_join_59 : decode cX2_join 59 = .ok (.iconst 1, 1) := by decide +kernel
theorem dX2_join_60 : decode cX2_join 60 = .ok (.ireturn, 1) := by decide +kernel
set_option maxRecDepth 20000 in
theorem ggX3_init_X2_init : GoodIn wsX3_init wsX2_init := goodIn_r _ [28, 29, 2, 3, 6, 30, 67] (by decide +kernel) (by decide +kernel)
set_option maxRecDepth 20000 in
theorem gX3_init_X2_init : GoodIn wsX3_init (wsX2_init) := ggX3_init_X2_init
set_option maxRecDepth 20000 in
theorem ggX3_init_X0_init : GoodIn wsX3_init wsX0_init := goodIn_r _ [33, 34, 2, 3, 6, 35, 36, 68, 69] (by decide +kernel) (by decide +kernel)
set_option maxRecDepth 20000 in
theorem gX3_init_X0_init : GoodIn wsX3_init (wsX0_init) := ggX3_init_X0_init
set_option maxRecDepth 20000 in
theorem ggX3_init_X1_init : GoodIn wsX3_init wsX1_init := goodIn_r _ [39, 40, 2, 3, 41, 42, 6, 43, 44, 45, 70, 71, 72, 73] (by decide +kernel) (by decide +kernel)
set_option maxRecDepth 20000 in
theorem gX3_init_X1_init : GoodIn wsX3_init (wsX1_init) := ggX3_init_X1_init
set_option maxRecDepth 20000 in
theorem ggX3_init_X3_forgetFewest : GoodIn wsX3_init wsX3_forgetFewest := goodIn_r _ [50, 25, 51, 52, 53, 54, 55, 56, 57, 58, 59, 60, 61, 62, 63, 64, 65, 66] (by decide +kernel) (by decide +kernel)
set_option maxRecDepth 20000 in
theorem gX3_init_X3_forgetFewest : GoodIn wsX3_init (wsV RX3 59 RX3 yX3_forgetFewest wsX3_forgetFewest) := goodIn_app (goodIn_of _ (by decide +kernel)) ggX3_init_X3_forgetFewest
theorem dX3_init_0 : decode cX3_init 0 = .ok (.aload_n 0, 1) := by decide +kernel
theorem dX3_init_1 : decode cX3_init 1 = .ok (.invokespecial 1, 3) := by decide +kernel
theorem dX3_init_4 : decode cX3_init 4 = .ok (.aload_n 0, 1) := by decide +kernel
theorem dX3_init_5 : decode cX3_init 5 = .ok (.iconst 4, 1) := by decide +kernel
theorem dX3_init_6 : decode cX3_init 6 = .ok (.putfield 9, 3) := by decide +kernel
theorem dX3_init_9 : decode cX3_init 9 = .ok (.aload_n 0, 1) := by decide +kernel
theorem dX3_init_10 : decode cX3_init 10 = .ok (.iconst 0, 1) := by decide +kernel
theorem dX3_init_11 : decode cX3_init 11 = .ok (.putfield 13, 3) := by decide +kernel
theorem dX3_init_14 : decode cX3_init 14 = .ok (.aload_n 0, 1) := by decide +kernel
theorem dX3_init_15 : decode cX3_init 15 = .ok (.bipush 12, 2) := by decide +kernel
theorem dX3_init_17 : decode cX3_init 17 = .ok (.newarray .int, 2) := by decide +kernel
theorem dX3_init_19 : decode cX3_init 19 = .ok (.putfield 16, 3) := by decide +kernel
theorem dX3_init_22 : decode cX3_init 22 = .ok (.aload_n 0, 1) := by decide +kernel
theorem dX3_init_23 : decode cX3_init 23 = .ok (.bipush 12, 2) := by decide +kernel
theorem dX3_init_25 : decode cX3_init 25 = .ok (.newarray .int, 2) := by decide +kernel
theorem dX3_init_27 : decode cX3_init 27 = .ok (.putfield 20, 3) := by decide +kernel
theorem dX3_init_30 : decode cX3_init 30 = .ok (.aload_n 0, 1) := by decide +kernel
theorem dX3_init_31 : decode cX3_init 31 = .ok (.bipush 12, 2) := by decide +kernel
theorem dX3_init_33 : decode cX3_init 33 = .ok (.newarray .int, 2) := by decide +kernel
theorem dX3_init_35 : decode cX3_init 35 = .ok (.putfield 23, 3) := by decide +kernel
theorem dX3_init_38 : decode cX3_init 38 = .ok (.aload_n 0, 1) := by decide +kernel
theorem dX3_init_39 : decode cX3_init 39 = .ok (.bipush 12, 2) := by decide +kernel
theorem dX3_init_41 : decode cX3_init 41 = .ok (.newarray .int, 2) := by decide +kernel
theorem dX3_init_43 : decode cX3_init 43 = .ok (.putfield 26, 3) := by decide +kernel
theorem dX3_init_46 : decode cX3_init 46 = .ok (.aload_n 0, 1) := by decide +kernel
theorem dX3_init_47 : decode cX3_init 47 = .ok (.bipush 12, 2) := by decide +kernel
theorem dX3_init_49 : decode cX3_init 49 = .ok (.newarray .int, 2) := by decide +kernel
theorem dX3_init_51 : decode cX3_init 51 = .ok (.putfield 29, 3) := by decide +kernel
theorem dX3_init_54 : decode cX3_init 54 = .ok (.aload_n 0, 1) := by decide +kernel
theorem dX3_init_55 : decode cX3_init 55 = .ok (.new 32, 3) := by decide +kernel
theorem dX3_init_58 : decode cX3_init 58 = .ok (.dup, 1) := by decide +kernel
theorem dX3_init_59 : decode cX3_init 59 = .ok (.invokespecial 34, 3) := by decide +kernel
theorem dX3_init_62 : decode cX3_init 62 = .ok (.putfield 35, 3) := by decide +kernel
theorem dX3_init_65 : decode cX3_init 65 = .ok (.aload_n 0, 1) := by decide +kernel
theorem dX3_init_66 : decode cX3_init 66 = .ok (.new 39, 3) := by decide +kernel
theorem dX3_init_69 : decode cX3_init 69 = .ok (.dup, 1) := by decide +kernel
theorem dX3_init_70 : decode cX3_init 70 = .ok (.invokespecial 41, 3) := by decide +kernel
theorem dX3_init_73 : decode cX3_init 73 = .ok (.putfield 42, 3) := by decide +kernel
theorem dX3_init_76 : decode cX3_init 76 = .ok (.aload_n 0, 1) := by decide +kernel
theorem dX3_init_77 : decode cX3_init 77 = .ok (.new 39, 3) := by decide +kernel
theorem dX3_init_80 : decode cX3_init 80 = .ok (.dup, 1) := by decide +kernel
theorem dX3_init_81 : decode cX3_init 81 = .ok (.invokespecial 41, 3) := by decide +kernel
theorem dX3_init_84 : decode cX3_init 84 = .ok (.putfield 46, 3) := by decide +kernel
theorem dX3_init_87 : decode cX3_init 87 = .ok (.aload_n 0, 1) := by decide +kernel
theorem dX3_init_88 : decode cX3_init 88 = .ok (.new 49, 3) := by decide +kernel
theorem dX3_init_91 : decode cX3_init 91 = .ok (.dup, 1) := by decide +kernel
theorem dX3_init_92 : decode cX3_init 92 = .ok (.invokespecial 51, 3) := by decide +kernel
theorem dX3_init_95 : decode cX3_init 95 = .ok (.putfield 52, 3) := by decide +kernel
theorem dX3_init_98 : decode cX3_init 98 = .ok (.aload_n 0, 1) := by decide +kernel
theorem dX3_init_99 : decode cX3_init 99 = .ok (.bipush 10, 2) := by decide +kernel
theorem dX3_init_101 : decode cX3_init 101 = .ok (.newarray .int, 2) := by decide +kernel
theorem dX3_init_103 : decode cX3_init 103 = .ok (.putfield 56, 3) := by decide +kernel
theorem dX3_init_106 : decode cX3_init 106 = .ok (.aload_n 0, 1) := by decide +kernel
theorem dX3_init_107 : decode cX3_init 107 = .ok (.invokevirtual 59, 3) := by decide +kernel
theorem dX3_init_110 : decode cX3_init 110 = .ok (.return_, 1) := by decide +kernel
set_option maxRecDepth 20000 in
theorem ggX3_nodes_X3_isWithin : GoodIn wsX3_nodes wsX3_isWithin := goodIn_r _ [6] (by decide +kernel) (by decide +kernel)
set_option maxRecDepth 20000 in
theorem gX3_nodes_X3_isWithin : GoodIn wsX3_nodes (va_wsS RX3 62 yX3_isWithin wsX3_isWithin) := goodIn_app (goodIn_of _ (by decide +kernel)) ggX3_nodes_X3_isWithin
set_option maxRecDepth 20000 in
theorem ggX3_nodes_X3_forgetFewest : GoodIn wsX3_nodes wsX3_forgetFewest := goodIn_r _ [10, 11, 12, 13, 14, 15, 16, 17, 18, 19, 20, 21, 22, 23, 24, 25, 26, 27] (by decide +kernel) (by decide +kernel)
set_option maxRecDepth 20000 in
theorem gX3_nodes_X3_forgetFewest : GoodIn wsX3_nodes (wsV RX3 59 RX3 yX3_forgetFewest wsX3_forgetFewest) := goodIn_app (goodIn_of _ (by decide +kernel)) ggX3_nodes_X3_forgetFewest
theorem dX3_nodes_0 : decode cX3_nodes 0 = .ok (.iload_n 1, 1) := by decide +kernel
theorem dX3_nodes_1 : decode cX3_nodes 1 = .ok (.iconst 2, 1) := by decide +kernel
theorem dX3_nodes_2 : decode cX3_nodes 2 = .ok (.bipush 7, 2) := by decide +kernel
theorem dX3_nodes_4 : decode cX3_nodes 4 = .ok (.invokestatic 62, 3) := by decide +kernel
theorem dX3_nodes_7 : decode cX3_nodes 7 = .ok (.ifCond .ne 6, 3) := by decide +kernel
theorem dX3_nodes_10 : decode cX3_nodes 10 = .ok (.bipush (-3), 2) := by decide +kernel
theorem dX3_nodes_12 : decode cX3_nodes 12 = .ok (.ireturn, 1) := by decide +kernel
theorem dX3_nodes_13 : decode cX3_nodes 13 = .ok (.aload_n 0, 1) := by decide +kernel
theorem dX3_nodes_14 : decode cX3_nodes 14 = .ok (.iload_n 1, 1) := by decide +kernel
theorem dX3_nodes_15 : decode cX3_nodes 15 = .ok (.putfield 9, 3) := by decide +kernel
theorem dX3_nodes_18 : decode cX3_nodes 18 = .ok (.aload_n 0, 1) := by decide +kernel
theorem dX3_nodes_19 : decode cX3_nodes 19 = .ok (.iconst 0, 1) := by decide +kernel
theorem dX3_nodes_20 : decode cX3_nodes 20 = .ok (.putfield 13, 3) := by decide +kernel
theorem dX3_nodes_23 : decode cX3_nodes 23 = .ok (.aload_n 0, 1) := by decide +kernel
theorem dX3_nodes_24 : decode cX3_nodes 24 = .ok (.invokevirtual 59, 3) := by decide +kernel
theorem dX3_nodes_27 : decode cX3_nodes 27 = .ok (.iconst 1, 1) := by decide +kernel
theorem dX3_nodes_28 : decode cX3_nodes 28 = .ok (.ireturn, 1) := by decide +kernel
set_option maxRecDepth 20000 in
theorem ggX3_line_X3_isNode : GoodIn wsX3_line wsX3_isNode := goodIn_r _ [17, 18, 31, 32, 33, 34, 35, 36, 37, 38, 39, 40, 41, 42] (by decide +kernel) (by decide +kernel)
set_option maxRecDepth 20000 in
theorem gX3_line_X3_isNode : GoodIn wsX3_line (wsV RX3 66 RX3 yX3_isNode wsX3_isNode) := goodIn_app (goodIn_of _ (by decide +kernel)) ggX3_line_X3_isNode
set_option maxRecDepth 20000 in
theorem ggX3_line_X3_isWithin : GoodIn wsX3_line wsX3_isWithin := goodIn_r _ [21] (by decide +kernel) (by decide +kernel)
set_option maxRecDepth 20000 in
theorem gX3_line_X3_isWithin : GoodIn wsX3_line (va_wsS RX3 62 yX3_isWithin wsX3_isWithin) := goodIn_app (goodIn_of _ (by decide +kernel)) ggX3_line_X3_isWithin
set_option maxRecDepth 20000 in
theorem ggX3_line_X3_forgetFewest : GoodIn wsX3_line wsX3_forgetFewest := goodIn_r _ [25, 26, 27, 28, 29, 30, 31, 32, 33, 34, 35, 36, 37, 38, 39, 40, 41, 42] (by decide +kernel) (by decide +kernel)
set_option maxRecDepth 20000 in
theorem gX3_line_X3_forgetFewest : GoodIn wsX3_line (wsV RX3 59 RX3 yX3_forgetFewest wsX3_forgetFewest) := goodIn_app (goodIn_of _ (by decide +kernel)) ggX3_line_X3_forgetFewest
theorem dX3_line_0 : decode cX3_line 0 = .ok (.aload_n 0, 1) := by decide +kernel
theorem dX3_line_1 : decode cX3_line 1 = .ok (.iload_n 1, 1) := by decide +kernel
theorem dX3_line_2 : decode cX3_line 2 = .ok (.invokevirtual 66, 3) := by decide +kernel
theorem dX3_line_5 : decode cX3_line 5 = .ok (.ifCond .eq 11, 3) := by decide +kernel
theorem dX3_line_8 : decode cX3_line 8 = .ok (.aload_n 0, 1) := by decide +kernel
theorem dX3_line_9 : decode cX3_line 9 = .ok (.iload_n 2, 1) := by decide +kernel
theorem dX3_line_10 : decode cX3_line 10 = .ok (.invokevirtual 66, 3) := by decide +kernel
theorem dX3_line_13 : decode cX3_line 13 = .ok (.ifCond .ne 6, 3) := by decide +kernel
theorem dX3_line_16 : decode cX3_line 16 = .ok (.bipush (-2), 2) := by decide +kernel
theorem dX3_line_18 : decode cX3_line 18 = .ok (.ireturn, 1) := by decide +kernel
theorem dX3_line_19 : decode cX3_line 19 = .ok (.iload_n 1, 1) := by decide +kernel
theorem dX3_line_20 : decode cX3_line 20 = .ok (.iload_n 2, 1) := by decide +kernel
theorem dX3_line_21 : decode cX3_line 21 = .ok (.if_icmp .eq 13, 3) := by decide +kernel
theorem dX3_line_24 : decode cX3_line 24 = .ok (.iload_n 3, 1) := by decide +kernel
theorem dX3_line_25 : decode cX3_line 25 = .ok (.iconst 1, 1) := by decide +kernel
theorem dX3_line_26 : decode cX3_line 26 = .ok (.bipush 9, 2) := by decide +kernel
theorem dX3_line_28 : decode cX3_line 28 = .ok (.invokestatic 62, 3) := by decide +kernel
theorem dX3_line_31 : decode cX3_line 31 = .ok (.ifCond .ne 6, 3) := by decide +kernel
theorem dX3_line_34 : decode cX3_line 34 = .ok (.bipush (-3), 2) := by decide +kernel
theorem dX3_line_36 : decode cX3_line 36 = .ok (.ireturn, 1) := by decide +kernel
theorem dX3_line_37 : decode cX3_line 37 = .ok (.aload_n 0, 1) := by decide +kernel
theorem dX3_line_38 : decode cX3_line 38 = .ok (.getfield 13, 3) := by decide +kernel
theorem dX3_line_41 : decode cX3_line 41 = .ok (.bipush 12, 2) := by decide +kernel
theorem dX3_line_43 : decode cX3_line 43 = .ok (.if_icmp .lt 6, 3) := by decide +kernel
theorem dX3_line_46 : decode cX3_line 46 = .ok (.bipush (-5), 2) := by decide +kernel
theorem dX3_line_48 : decode cX3_line 48 = .ok (.ireturn, 1) := by decide +kernel
theorem dX3_line_49 : decode cX3_line 49 = .ok (.aload_n 0, 1) := by decide +kernel
theorem dX3_line_50 : decode cX3_line 50 = .ok (.getfield 13, 3) := by decide +kernel
theorem dX3_line_53 : decode cX3_line 53 = .ok (.istore 4, 2) := by decide +kernel
theorem dX3_line_55 : decode cX3_line 55 = .ok (.aload_n 0, 1) := by decide +kernel
theorem dX3_line_56 : decode cX3_line 56 = .ok (.getfield 16, 3) := by decide +kernel
theorem dX3_line_59 : decode cX3_line 59 = .ok (.iload 4, 2) := by decide +kernel
theorem dX3_line_61 : decode cX3_line 61 = .ok (.iload_n 1, 1) := by decide +kernel
theorem dX3_line_62 : decode cX3_line 62 = .ok (.iload_n 2, 1) := by decide +kernel
theorem dX3_line_63 : decode cX3_line 63 = .ok (.invokestatic 70, 3) := by decide +kernel
theorem dX3_line_66 : decode cX3_line 66 = .ok (.iastore, 1) := by decide +kernel
theorem dX3_line_67 : decode cX3_line 67 = .ok (.aload_n 0, 1) := by decide +kernel
theorem dX3_line_68 : decode cX3_line 68 = .ok (.getfield 20, 3) := by decide +kernel
theorem dX3_line_71 : decode cX3_line 71 = .ok (.iload 4, 2) := by decide +kernel
theorem dX3_line_73 : decode cX3_line 73 = .ok (.iload_n 1, 1) := by decide +kernel
theorem dX3_line_74 : decode cX3_line 74 = .ok (.iload_n 2, 1) := by decide +kernel
theorem dX3_line_75 : decode cX3_line 75 = .ok (.invokestatic 76, 3) := by decide +kernel
theorem dX3_line_78 : decode cX3_line 78 = .ok (.iastore, 1) := by decide +kernel
theorem dX3_line_79 : decode cX3_line 79 = .ok (.aload_n 0, 1) := by decide +kernel
theorem dX3_line_80 : decode cX3_line 80 = .ok (.getfield 23, 3) := by decide +kernel
theorem dX3_line_83 : decode cX3_line 83 = .ok (.iload 4, 2) := by decide +kernel
theorem dX3_line_85 : decode cX3_line 85 = .ok (.iload_n 3, 1) := by decide +kernel
theorem dX3_line_86 : decode cX3_line 86 = .ok (.iastore, 1) := by decide +kernel
theorem dX3_line_87 : decode cX3_line 87 = .ok (.aload_n 0, 1) := by decide +kernel
theorem dX3_line_88 : decode cX3_line 88 = .ok (.getfield 26, 3) := by decide +kernel
theorem dX3_line_91 : decode cX3_line 91 = .ok (.iload 4, 2) := by decide +kernel
theorem dX3_line_93 : decode cX3_line 93 = .ok (.iload_n 3, 1) := by decide +kernel
theorem dX3_line_94 : decode cX3_line 94 = .ok (.iastore, 1) := by decide +kernel
theorem dX3_line_95 : decode cX3_line 95 = .ok (.aload_n 0, 1) := by decide +kernel
theorem dX3_line_96 : decode cX3_line 96 = .ok (.iload 4, 2) := by decide +kernel
theorem dX3_line_98 : decode cX3_line 98 = .ok (.iconst 1, 1) := by decide +kernel
theorem dX3_line_99 : decode cX3_line 99 = .ok (.iadd, 1) := by decide +kernel
theorem dX3_line_100 : decode cX3_line 100 = .ok (.putfield 13, 3) := by decide +kernel
theorem dX3_line_103 : decode cX3_line 103 = .ok (.aload_n 0, 1) := by decide +kernel
theorem dX3_line_104 : decode cX3_line 104 = .ok (.invokevirtual 59, 3) := by decide +kernel
theorem dX3_line_107 : decode cX3_line 107 = .ok (.iload 4, 2) := by decide +kernel
theorem dX3_line_109 : decode cX3_line 109 = .ok (.ireturn, 1) := by decide +kernel
set_option maxRecDepth 20000 in
theorem ggX3_drop_X3_isLine : GoodIn wsX3_drop wsX3_isLine := goodIn_r _ [10, 1, 20, 21, 22, 23, 24, 25, 26, 27, 28, 29, 30, 31] (by decide +kernel) (by decide +kernel)
set_option maxRecDepth 20000 in
theorem gX3_drop_X3_isLine : GoodIn wsX3_drop (wsV RX3 79 RX3 yX3_isLine wsX3_isLine) := goodIn_app (goodIn_of _ (by decide +kernel)) ggX3_drop_X3_isLine
set_option maxRecDepth 20000 in
theorem ggX3_drop_X3_forgetFewest : GoodIn wsX3_drop wsX3_forgetFewest := goodIn_r _ [14, 15, 16, 17, 18, 19, 20, 21, 22, 23, 24, 25, 26, 27, 28, 29, 30, 31] (by decide +kernel) (by decide +kernel)
set_option maxRecDepth 20000 in
theorem gX3_drop_X3_forgetFewest : GoodIn wsX3_drop (wsV RX3 59 RX3 yX3_forgetFewest wsX3_forgetFewest) := goodIn_app (goodIn_of _ (by decide +kernel)) ggX3_drop_X3_forgetFewest
theorem dX3_drop_0 : decode cX3_drop 0 = .ok (.aload_n 0, 1) := by decide +kernel
theorem dX3_drop_1 : decode cX3_drop 1 = .ok (.iload_n 1, 1) := by decide +kernel
theorem dX3_drop_2 : decode cX3_drop 2 = .ok (.invokevirtual 79, 3) := by decide +kernel
theorem dX3_drop_5 : decode cX3_drop 5 = .ok (.ifCond .ne 6, 3) := by decide +kernel
theorem dX3_drop_8 : decode cX3_drop 8 = .ok (.bipush (-2), 2) := by decide +kernel
theorem dX3_drop_10 : decode cX3_drop 10 = .ok (.ireturn, 1) := by decide +kernel
theorem dX3_drop_11 : decode cX3_drop 11 = .ok (.iload_n 1, 1) := by decide +kernel
theorem dX3_drop_12 : decode cX3_drop 12 = .ok (.istore_n 2, 1) := by decide +kernel
theorem dX3_drop_13 : decode cX3_drop 13 = .ok (.iload_n 2, 1) := by decide +kernel
theorem dX3_drop_14 : decode cX3_drop 14 = .ok (.aload_n 0, 1) := by decide +kernel
theorem dX3_drop_15 : decode cX3_drop 15 = .ok (.getfield 13, 3) := by decide +kernel
theorem dX3_drop_18 : decode cX3_drop 18 = .ok (.iconst 1, 1) := by decide +kernel
theorem dX3_drop_19 : decode cX3_drop 19 = .ok (.isub, 1) := by decide +kernel
theorem dX3_drop_20 : decode cX3_drop 20 = .ok (.if_icmp .ge 65, 3) := by decide +kernel
theorem dX3_drop_23 : decode cX3_drop 23 = .ok (.aload_n 0, 1) := by decide +kernel
theorem dX3_drop_24 : decode cX3_drop 24 = .ok (.getfield 16, 3) := by decide +kernel
theorem dX3_drop_27 : decode cX3_drop 27 = .ok (.iload_n 2, 1) := by decide +kernel
theorem dX3_drop_28 : decode cX3_drop 28 = .ok (.aload_n 0, 1) := by decide +kernel
theorem dX3_drop_29 : decode cX3_drop 29 = .ok (.getfield 16, 3) := by decide +kernel
theorem dX3_drop_32 : decode cX3_drop 32 = .ok (.iload_n 2, 1) := by decide +kernel
theorem dX3_drop_33 : decode cX3_drop 33 = .ok (.iconst 1, 1) := by decide +kernel
theorem dX3_drop_34 : decode cX3_drop 34 = .ok (.iadd, 1) := by decide +kernel
theorem dX3_drop_35 : decode cX3_drop 35 = .ok (.iaload, 1) := by decide +kernel
theorem dX3_drop_36 : decode cX3_drop 36 = .ok (.iastore, 1) := by decide +kernel
theorem dX3_drop_37 : decode cX3_drop 37 = .ok (.aload_n 0, 1) := by decide +kernel
theorem dX3_drop_38 : decode cX3_drop 38 = .ok (.getfield 20, 3) := by decide +kernel
theorem dX3_drop_41 : decode cX3_drop 41 = .ok (.iload_n 2, 1) := by decide +kernel
theorem dX3_drop_42 : decode cX3_drop 42 = .ok (.aload_n 0, 1) := by decide +kernel
theorem dX3_drop_43 : decode cX3_drop 43 = .ok (.getfield 20, 3) := by decide +kernel
theorem dX3_drop_46 : decode cX3_drop 46 = .ok (.iload_n 2, 1) := by decide +kernel
theorem dX3_drop_47 : decode cX3_drop 47 = .ok (.iconst 1, 1) := by decide +kernel
theorem dX3_drop_48 : decode cX3_drop 48 = .ok (.iadd, 1) := by decide +kernel
theorem dX3_drop_49 : decode cX3_drop 49 = .ok (.iaload, 1) := by decide +kernel
theorem dX3_drop_50 : decode cX3_drop 50 = .ok (.iastore, 1) := by decide +kernel
theorem dX3_drop_51 : decode cX3_drop 51 = .ok (.aload_n 0, 1) := by decide +kernel
theorem dX3_drop_52 : decode cX3_drop 52 = .ok (.getfield 23, 3) := by decide +kernel
theorem dX3_drop_55 : decode cX3_drop 55 = .ok (.iload_n 2, 1) := by decide +kernel
theorem dX3_drop_56 : decode cX3_drop 56 = .ok (.aload_n 0, 1) := by decide +kernel
theorem dX3_drop_57 : decode cX3_drop 57 = .ok (.getfield 23, 3) := by decide +kernel
theorem dX3_drop_60 : decode cX3_drop 60 = .ok (.iload_n 2, 1) := by decide +kernel
theorem dX3_drop_61 : decode cX3_drop 61 = .ok (.iconst 1, 1) := by decide +kernel
theorem dX3_drop_62 : decode cX3_drop 62 = .ok (.iadd, 1) := by decide +kernel
theorem dX3_drop_63 : decode cX3_drop 63 = .ok (.iaload, 1) := by decide +kernel
theorem dX3_drop_64 : decode cX3_drop 64 = .ok (.iastore, 1) := by decide +kernel
theorem dX3_drop_65 : decode cX3_drop 65 = .ok (.aload_n 0, 1) := by decide +kernel
theorem dX3_drop_66 : decode cX3_drop 66 = .ok (.getfield 26, 3) := by decide +kernel
theorem dX3_drop_69 : decode cX3_drop 69 = .ok (.iload_n 2, 1) := by decide +kernel
theorem dX3_drop_70 : decode cX3_drop 70 = .ok (.aload_n 0, 1) := by decide +kernel
theorem dX3_drop_71 : decode cX3_drop 71 = .ok (.getfield 26, 3) := by decide +kernel
theorem dX3_drop_74 : decode cX3_drop 74 = .ok (.iload_n 2, 1) := by decide +kernel
theorem dX3_drop_75 : decode cX3_drop 75 = .ok (.iconst 1, 1) := by decide +kernel
theorem dX3_drop_76 : decode cX3_drop 76 = .ok (.iadd, 1) := by decide +kernel
theorem dX3_drop_77 : decode cX3_drop 77 = .ok (.iaload, 1) := by decide +kernel
theorem dX3_drop_78 : decode cX3_drop 78 = .ok (.iastore, 1) := by decide +kernel
theorem dX3_drop_79 : decode cX3_drop 79 = .ok (.iinc 2 1, 3) := by decide +kernel
theorem dX3_drop_82 : decode cX3_drop 82 = .ok (.goto (-69), 3) := by decide +kernel
theorem dX3_drop_85 : decode cX3_drop 85 = .ok (.aload_n 0, 1) := by decide +kernel
theorem dX3_drop_86 : decode cX3_drop 86 = .ok (.dup, 1) := by decide +kernel
theorem dX3_drop_87 : decode cX3_drop 87 = .ok (.getfield 13, 3) := by decide +kernel
theorem dX3_drop_90 : decode cX3_drop 90 = .ok (.iconst 1, 1) := by decide +kernel
theorem dX3_drop_91 : decode cX3_drop 91 = .ok (.isub, 1) := by decide +kernel
theorem dX3_drop_92 : decode cX3_drop 92 = .ok (.putfield 13, 3) := by decide +kernel
theorem dX3_drop_95 : decode cX3_drop 95 = .ok (.aload_n 0, 1) := by decide +kernel
theorem dX3_drop_96 : decode cX3_drop 96 = .ok (.invokevirtual 59, 3) := by decide +kernel
theorem dX3_drop_99 : decode cX3_drop 99 = .ok (.iconst 1, 1) := by decide +kernel
theorem dX3_drop_100 : decode cX3_drop 100 = .ok (.ireturn, 1) := by decide +kernel
set_option maxRecDepth 20000 in
theorem ggX3_keep_X3_isLine : GoodIn wsX3_keep wsX3_isLine := goodIn_r _ [6, 7, 11, 12, 13, 14, 15, 16, 17, 18, 19, 20, 21, 22] (by decide +kernel) (by decide +kernel)
set_option maxRecDepth 20000 in
theorem gX3_keep_X3_isLine : GoodIn wsX3_keep (wsV RX3 79 RX3 yX3_isLine wsX3_isLine) := goodIn_app (goodIn_of _ (by decide +kernel)) ggX3_keep_X3_isLine
set_option maxRecDepth 20000 in
theorem ggX3_keep_X3_isWithin : GoodIn wsX3_keep wsX3_isWithin := goodIn_r _ [10] (by decide +kernel) (by decide +kernel)
set_option maxRecDepth 20000 in
theorem gX3_keep_X3_isWithin : GoodIn wsX3_keep (va_wsS RX3 62 yX3_isWithin wsX3_isWithin) := goodIn_app (goodIn_of _ (by decide +kernel)) ggX3_keep_X3_isWithin
theorem dX3_keep_0 : decode cX3_keep 0 = .ok (.aload_n 0, 1) := by decide +kernel
theorem dX3_keep_1 : decode cX3_keep 1 = .ok (.iload_n 1, 1) := by decide +kernel
theorem dX3_keep_2 : decode cX3_keep 2 = .ok (.invokevirtual 79, 3) := by decide +kernel
theorem dX3_keep_5 : decode cX3_keep 5 = .ok (.ifCond .ne 6, 3) := by decide +kernel
theorem dX3_keep_8 : decode cX3_keep 8 = .ok (.bipush (-2), 2) := by decide +kernel
theorem dX3_keep_10 : decode cX3_keep 10 = .ok (.ireturn, 1) := by decide +kernel
theorem dX3_keep_11 : decode cX3_keep 11 = .ok (.iload_n 2, 1) := by decide +kernel
theorem dX3_keep_12 : decode cX3_keep 12 = .ok (.iconst 0, 1) := by decide +kernel
theorem dX3_keep_13 : decode cX3_keep 13 = .ok (.bipush 60, 2) := by decide +kernel
theorem dX3_keep_15 : decode cX3_keep 15 = .ok (.invokestatic 62, 3) := by decide +kernel
theorem dX3_keep_18 : decode cX3_keep 18 = .ok (.ifCond .ne 6, 3) := by decide +kernel
theorem dX3_keep_21 : decode cX3_keep 21 = .ok (.bipush (-3), 2) := by decide +kernel
theorem dX3_keep_23 : decode cX3_keep 23 = .ok (.ireturn, 1) := by decide +kernel
theorem dX3_keep_24 : decode cX3_keep 24 = .ok (.aload_n 0, 1) := by decide +kernel
theorem dX3_keep_25 : decode cX3_keep 25 = .ok (.getfield 26, 3) := by decide +kernel
theorem dX3_keep_28 : decode cX3_keep 28 = .ok (.iload_n 1, 1) := by decide +kernel
theorem dX3_keep_29 : decode cX3_keep 29 = .ok (.iaload, 1) := by decide +kernel
theorem dX3_keep_30 : decode cX3_keep 30 = .ok (.istore_n 3, 1) := by decide +kernel
theorem dX3_keep_31 : decode cX3_keep 31 = .ok (.aload_n 0, 1) := by decide +kernel
theorem dX3_keep_32 : decode cX3_keep 32 = .ok (.getfield 26, 3) := by decide +kernel
theorem dX3_keep_35 : decode cX3_keep 35 = .ok (.iload_n 1, 1) := by decide +kernel
theorem dX3_keep_36 : decode cX3_keep 36 = .ok (.iload_n 2, 1) := by decide +kernel
theorem dX3_keep_37 : decode cX3_keep 37 = .ok (.iastore, 1) := by decide +kernel
theorem dX3_keep_38 : decode cX3_keep 38 = .ok (.iload_n 3, 1) := by decide +kernel
theorem dX3_keep_39 : decode cX3_keep 39 = .ok (.ireturn, 1) := by decide +kernel
set_option maxRecDepth 20000 in
theorem ggX3_at_X3_isLine : GoodIn wsX3_at wsX3_isLine := goodIn_r _ [10, 11, 35, 36, 37, 38, 39, 40, 41, 42, 43, 44, 45, 46] (by decide +kernel) (by decide +kernel)
set_option maxRecDepth 20000 in
theorem gX3_at_X3_isLine : GoodIn wsX3_at (wsV RX3 79 RX3 yX3_isLine wsX3_isLine) := goodIn_app (goodIn_of _ (by decide +kernel)) ggX3_at_X3_isLine
set_option maxRecDepth 20000 in
theorem ggX3_at_X3_peelForests : GoodIn wsX3_at wsX3_peelForests := goodIn_r _ [15, 5, 11, 16, 17, 18, 19, 20, 21, 22, 9, 23, 24, 1, 2, 25, 26, 27, 28, 29, 30, 31, 32, 33, 34, 35, 36, 37, 38, 39, 40, 41, 42, 43, 44, 45, 46, 47] (by decide +kernel) (by decide +kernel)
set_option maxRecDepth 20000 in
theorem gX3_at_X3_peelForests : GoodIn wsX3_at (wsV RX3 82 RX3 yX3_peelForests wsX3_peelForests) := goodIn_app (goodIn_of _ (by decide +kernel)) ggX3_at_X3_peelForests
theorem dX3_at_0 : decode cX3_at 0 = .ok (.aload_n 0, 1) := by decide +kernel
theorem dX3_at_1 : decode cX3_at 1 = .ok (.iload_n 1, 1) := by decide +kernel
theorem dX3_at_2 : decode cX3_at 2 = .ok (.invokevirtual 79, 3) := by decide +kernel
theorem dX3_at_5 : decode cX3_at 5 = .ok (.ifCond .ne 6, 3) := by decide +kernel
theorem dX3_at_8 : decode cX3_at 8 = .ok (.bipush (-2), 2) := by decide +kernel
theorem dX3_at_10 : decode cX3_at 10 = .ok (.ireturn, 1) := by decide +kernel
theorem dX3_at_11 : decode cX3_at 11 = .ok (.iload_n 2, 1) := by decide +kernel
theorem dX3_at_12 : decode cX3_at 12 = .ok (.tableswitch 76 0 4 #[36, 43, 50, 57, 64], 36) := by decide +kernel
theorem dX3_at_48 : decode cX3_at 48 = .ok (.aload_n 0, 1) := by decide +kernel
theorem dX3_at_49 : decode cX3_at 49 = .ok (.getfield 16, 3) := by decide +kernel
theorem dX3_at_52 : decode cX3_at 52 = .ok (.iload_n 1, 1) := by decide +kernel
theorem dX3_at_53 : decode cX3_at 53 = .ok (.iaload, 1) := by decide +kernel
theorem dX3_at_54 : decode cX3_at 54 = .ok (.ireturn, 1) := by decide +kernel
theorem dX3_at_55 : decode cX3_at 55 = .ok (.aload_n 0, 1) := by decide +kernel
theorem dX3_at_56 : decode cX3_at 56 = .ok (.getfield 20, 3) := by decide +kernel
theorem dX3_at_59 : decode cX3_at 59 = .ok (.iload_n 1, 1) := by decide +kernel
theorem dX3_at_60 : decode cX3_at 60 = .ok (.iaload, 1) := by decide +kernel
theorem dX3_at_61 : decode cX3_at 61 = .ok (.ireturn, 1) := by decide +kernel
theorem dX3_at_62 : decode cX3_at 62 = .ok (.aload_n 0, 1) := by decide +kernel
theorem dX3_at_63 : decode cX3_at 63 = .ok (.getfield 23, 3) := by decide +kernel
theorem dX3_at_66 : decode cX3_at 66 = .ok (.iload_n 1, 1) := by decide +kernel
theorem dX3_at_67 : decode cX3_at 67 = .ok (.iaload, 1) := by decide +kernel
theorem dX3_at_68 : decode cX3_at 68 = .ok (.ireturn, 1) := by decide +kernel
theorem dX3_at_69 : decode cX3_at 69 = .ok (.aload_n 0, 1) := by decide +kernel
theorem dX3_at_70 : decode cX3_at 70 = .ok (.getfield 26, 3) := by decide +kernel
theorem dX3_at_73 : decode cX3_at 73 = .ok (.iload_n 1, 1) := by decide +kernel
theorem dX3_at_74 : decode cX3_at 74 = .ok (.iaload, 1) := by decide +kernel
theorem dX3_at_75 : decode cX3_at 75 = .ok (.ireturn, 1) := by decide +kernel
theorem dX3_at_76 : decode cX3_at 76 = .ok (.aload_n 0, 1) := by decide +kernel
theorem dX3_at_77 : decode cX3_at 77 = .ok (.invokevirtual 82, 3) := by decide +kernel
theorem dX3_at_80 : decode cX3_at 80 = .ok (.pop, 1) := by decide +kernel
theorem dX3_at_81 : decode cX3_at 81 = .ok (.aload_n 0, 1) := by decide +kernel
theorem dX3_at_82 : decode cX3_at 82 = .ok (.getfield 29, 3) := by decide +kernel
theorem dX3_at_85 : decode cX3_at 85 = .ok (.iload_n 1, 1) := by decide +kernel
theorem dX3_at_86 : decode cX3_at 86 = .ok (.iaload, 1) := by decide +kernel
theorem dX3_at_87 : decode cX3_at 87 = .ok (.ireturn, 1) := by decide +kernel
theorem dX3_at_88 : decode cX3_at 88 = .ok (.bipush (-3), 2) := by decide +kernel
theorem dX3_at_90 : decode cX3_at 90 = .ok (.ireturn, 1) := by decide +kernel
set_option maxRecDepth 20000 in
theorem ggX3_cut_X3_isSide : GoodIn wsX3_cut wsX3_isSide := goodIn_r _ [5, 6, 7, 8, 4, 9, 10, 30, 31, 32, 33, 34, 35, 36, 37, 38, 39, 40, 41] (by decide +kernel) (by decide +kernel)
set_option maxRecDepth 20000 in
theorem gX3_cut_X3_isSide : GoodIn wsX3_cut (wsV RX3 86 RX3 yX3_isSide wsX3_isSide) := goodIn_app (goodIn_of _ (by decide +kernel)) ggX3_cut_X3_isSide
set_option maxRecDepth 20000 in
theorem ggX3_cut_X3_isWay : GoodIn wsX3_cut wsX3_isWay := goodIn_r _ [13] (by decide +kernel) (by decide +kernel)
set_option maxRecDepth 20000 in
theorem gX3_cut_X3_isWay : GoodIn wsX3_cut (va_wsS RX3 89 yX3_isWay wsX3_isWay) := goodIn_app (goodIn_of _ (by decide +kernel)) ggX3_cut_X3_isWay
set_option maxRecDepth 20000 in
theorem ggX3_cut_X3_weightAcross : GoodIn wsX3_cut wsX3_weightAcross := goodIn_r _ [17, 18, 19, 20, 21, 22, 4, 23, 24, 25, 26, 27, 28, 29, 30, 31, 32, 33, 34, 35, 36, 37, 38, 39, 40, 41] (by decide +kernel) (by decide +kernel)
set_option maxRecDepth 20000 in
theorem gX3_cut_X3_weightAcross : GoodIn wsX3_cut (wsV RX3 92 RX3 yX3_weightAcross wsX3_weightAcross) := goodIn_app (goodIn_of _ (by decide +kernel)) ggX3_cut_X3_weightAcross
theorem dX3_cut_0 : decode cX3_cut 0 = .ok (.aload_n 0, 1) := by decide +kernel
theorem dX3_cut_1 : decode cX3_cut 1 = .ok (.iload_n 1, 1) := by decide +kernel
theorem dX3_cut_2 : decode cX3_cut 2 = .ok (.invokevirtual 86, 3) := by decide +kernel
theorem dX3_cut_5 : decode cX3_cut 5 = .ok (.ifCond .eq 10, 3) := by decide +kernel
theorem dX3_cut_8 : decode cX3_cut 8 = .ok (.iload_n 2, 1) := by decide +kernel
theorem dX3_cut_9 : decode cX3_cut 9 = .ok (.invokestatic 89, 3) := by decide +kernel
theorem dX3_cut_12 : decode cX3_cut 12 = .ok (.ifCond .ne 6, 3) := by decide +kernel
theorem dX3_cut_15 : decode cX3_cut 15 = .ok (.bipush (-3), 2) := by decide +kernel
theorem dX3_cut_17 : decode cX3_cut 17 = .ok (.ireturn, 1) := by decide +kernel
theorem dX3_cut_18 : decode cX3_cut 18 = .ok (.aload_n 0, 1) := by decide +kernel
theorem dX3_cut_19 : decode cX3_cut 19 = .ok (.iload_n 1, 1) := by decide +kernel
theorem dX3_cut_20 : decode cX3_cut 20 = .ok (.iload_n 2, 1) := by decide +kernel
theorem dX3_cut_21 : decode cX3_cut 21 = .ok (.invokevirtual 92, 3) := by decide +kernel
theorem dX3_cut_24 : decode cX3_cut 24 = .ok (.ireturn, 1) := by decide +kernel
set_option maxRecDepth 20000 in
theorem ggX3_worst_X3_isWithin : GoodIn wsX3_worst wsX3_isWithin := goodIn_r _ [4] (by decide +kernel) (by decide +kernel)
set_option maxRecDepth 20000 in
theorem gX3_worst_X3_isWithin : GoodIn wsX3_worst (va_wsS RX3 62 yX3_isWithin wsX3_isWithin) := goodIn_app (goodIn_of _ (by decide +kernel)) ggX3_worst_X3_isWithin
set_option maxRecDepth 20000 in
theorem ggX3_worst_X3_allNodes : GoodIn wsX3_worst wsX3_allNodes := goodIn_r _ [8, 9, 26, 27, 28, 29, 30, 31, 32, 33, 34, 35, 36, 37] (by decide +kernel) (by decide +kernel)
set_option maxRecDepth 20000 in
theorem gX3_worst_X3_allNodes : GoodIn wsX3_worst (wsV RX3 95 RX3 yX3_allNodes wsX3_allNodes) := goodIn_app (goodIn_of _ (by decide +kernel)) ggX3_worst_X3_allNodes
set_option maxRecDepth 20000 in
theorem ggX3_worst_X3_weightAcross : GoodIn wsX3_worst wsX3_weightAcross := goodIn_r _ [13, 14, 15, 16, 17, 18, 3, 19, 20, 21, 22, 23, 24, 25, 26, 27, 28, 29, 30, 31, 32, 33, 34, 35, 36, 37] (by decide +kernel) (by decide +kernel)
set_option maxRecDepth 20000 in
theorem gX3_worst_X3_weightAcross : GoodIn wsX3_worst (wsV RX3 92 RX3 yX3_weightAcross wsX3_weightAcross) := goodIn_app (goodIn_of _ (by decide +kernel)) ggX3_worst_X3_weightAcross
theorem dX3_worst_0 : decode cX3_worst 0 = .ok (.iload_n 1, 1) := by decide +kernel
theorem dX3_worst_1 : decode cX3_worst 1 = .ok (.iconst 0, 1) := by decide +kernel
theorem dX3_worst_2 : decode cX3_worst 2 = .ok (.iconst 1, 1) := by decide +kernel
theorem dX3_worst_3 : decode cX3_worst 3 = .ok (.invokestatic 62, 3) := by decide +kernel
theorem dX3_worst_6 : decode cX3_worst 6 = .ok (.ifCond .ne 6, 3) := by decide +kernel
theorem dX3_worst_9 : decode cX3_worst 9 = .ok (.bipush (-3), 2) := by decide +kernel
theorem dX3_worst_11 : decode cX3_worst 11 = .ok (.ireturn, 1) := by decide +kernel
theorem dX3_worst_12 : decode cX3_worst 12 = .ok (.iload_n 1, 1) := by decide +kernel
theorem dX3_worst_13 : decode cX3_worst 13 = .ok (.ifCond .ne 7, 3) := by decide +kernel
theorem dX3_worst_16 : decode cX3_worst 16 = .ok (.iconst (-1), 1) := by decide +kernel
theorem dX3_worst_17 : decode cX3_worst 17 = .ok (.goto 4, 3) := by decide +kernel
theorem dX3_worst_20 : decode cX3_worst 20 = .ok (.iconst 1, 1) := by decide +kernel
theorem dX3_worst_21 : decode cX3_worst 21 = .ok (.istore_n 2, 1) := by decide +kernel
theorem dX3_worst_22 : decode cX3_worst 22 = .ok (.iconst (-1), 1) := by decide +kernel
theorem dX3_worst_23 : decode cX3_worst 23 = .ok (.istore_n 3, 1) := by decide +kernel
theorem dX3_worst_24 : decode cX3_worst 24 = .ok (.iconst 0, 1) := by decide +kernel
theorem dX3_worst_25 : decode cX3_worst 25 = .ok (.istore 4, 2) := by decide +kernel
theorem dX3_worst_27 : decode cX3_worst 27 = .ok (.iconst 0, 1) := by decide +kernel
theorem dX3_worst_28 : decode cX3_worst 28 = .ok (.istore 5, 2) := by decide +kernel
theorem dX3_worst_30 : decode cX3_worst 30 = .ok (.iconst 1, 1) := by decide +kernel
theorem dX3_worst_31 : decode cX3_worst 31 = .ok (.istore 6, 2) := by decide +kernel
theorem dX3_worst_33 : decode cX3_worst 33 = .ok (.iload 6, 2) := by decide +kernel
theorem dX3_worst_35 : decode cX3_worst 35 = .ok (.aload_n 0, 1) := by decide +kernel
theorem dX3_worst_36 : decode cX3_worst 36 = .ok (.invokevirtual 95, 3) := by decide +kernel
theorem dX3_worst_39 : decode cX3_worst 39 = .ok (.if_icmp .ge 76, 3) := by decide +kernel
theorem dX3_worst_42 : decode cX3_worst 42 = .ok (.aload_n 0, 1) := by decide +kernel
theorem dX3_worst_43 : decode cX3_worst 43 = .ok (.iload 6, 2) := by decide +kernel
theorem dX3_worst_45 : decode cX3_worst 45 = .ok (.iconst 0, 1) := by decide +kernel
theorem dX3_worst_46 : decode cX3_worst 46 = .ok (.invokevirtual 92, 3) := by decide +kernel
theorem dX3_worst_49 : decode cX3_worst 49 = .ok (.istore 7, 2) := by decide +kernel
theorem dX3_worst_51 : decode cX3_worst 51 = .ok (.aload_n 0, 1) := by decide +kernel
theorem dX3_worst_52 : decode cX3_worst 52 = .ok (.iload 6, 2) := by decide +kernel
theorem dX3_worst_54 : decode cX3_worst 54 = .ok (.iconst 1, 1) := by decide +kernel
theorem dX3_worst_55 : decode cX3_worst 55 = .ok (.invokevirtual 92, 3) := by decide +kernel
theorem dX3_worst_58 : decode cX3_worst 58 = .ok (.istore 8, 2) := by decide +kernel
theorem dX3_worst_60 : decode cX3_worst 60 = .ok (.iload_n 2, 1) := by decide +kernel
theorem dX3_worst_61 : decode cX3_worst 61 = .ok (.iload 8, 2) := by decide +kernel
theorem dX3_worst_63 : decode cX3_worst 63 = .ok (.iload 5, 2) := by decide +kernel
theorem dX3_worst_65 : decode cX3_worst 65 = .ok (.imul, 1) := by decide +kernel
theorem dX3_worst_66 : decode cX3_worst 66 = .ok (.iload 4, 2) := by decide +kernel
theorem dX3_worst_68 : decode cX3_worst 68 = .ok (.iload 7, 2) := by decide +kernel
theorem dX3_worst_70 : decode cX3_worst 70 = .ok (.imul, 1) := by decide +kernel
theorem dX3_worst_71 : decode cX3_worst 71 = .ok (.isub, 1) := by decide +kernel
theorem dX3_worst_72 : decode cX3_worst 72 = .ok (.imul, 1) := by decide +kernel
theorem dX3_worst_73 : decode cX3_worst 73 = .ok (.ifCond .le 7, 3) := by decide +kernel
theorem dX3_worst_76 : decode cX3_worst 76 = .ok (.iconst 1, 1) := by decide +kernel
theorem dX3_worst_77 : decode cX3_worst 77 = .ok (.goto 4, 3) := by decide +kernel
theorem dX3_worst_80 : decode cX3_worst 80 = .ok (.iconst 0, 1) := by decide +kernel
theorem dX3_worst_81 : decode cX3_worst 81 = .ok (.istore 9, 2) := by decide +kernel
theorem dX3_worst_83 : decode cX3_worst 83 = .ok (.iload 7, 2) := by decide +kernel
theorem dX3_worst_85 : decode cX3_worst 85 = .ok (.ifCond .le 24, 3) := by decide +kernel
theorem dX3_worst_88 : decode cX3_worst 88 = .ok (.iload_n 3, 1) := by decide +kernel
theorem dX3_worst_89 : decode cX3_worst 89 = .ok (.iconst (-1), 1) := by decide +kernel
theorem dX3_worst_90 : decode cX3_worst 90 = .ok (.if_icmp .eq 8, 3) := by decide +kernel
theorem dX3_worst_93 : decode cX3_worst 93 = .ok (.iload 9, 2) := by decide +kernel
theorem dX3_worst_95 : decode cX3_worst 95 = .ok (.ifCond .eq 14, 3) := by decide +kernel
theorem dX3_worst_98 : decode cX3_worst 98 = .ok (.iload 6, 2) := by decide +kernel
theorem dX3_worst_100 : decode cX3_worst 100 = .ok (.istore_n 3, 1) := by decide +kernel
theorem dX3_worst_101 : decode cX3_worst 101 = .ok (.iload 8, 2) := by decide +kernel
theorem dX3_worst_103 : decode cX3_worst 103 = .ok (.istore 4, 2) := by decide +kernel
theorem dX3_worst_105 : decode cX3_worst 105 = .ok (.iload 7, 2) := by decide +kernel
theorem dX3_worst_107 : decode cX3_worst 107 = .ok (.istore 5, 2) := by decide +kernel
theorem dX3_worst_109 : decode cX3_worst 109 = .ok (.iinc 6 2, 3) := by decide +kernel
theorem dX3_worst_112 : decode cX3_worst 112 = .ok (.goto (-79), 3) := by decide +kernel
theorem dX3_worst_115 : decode cX3_worst 115 = .ok (.iload_n 3, 1) := by decide +kernel
theorem dX3_worst_116 : decode cX3_worst 116 = .ok (.ireturn, 1) := by decide +kernel
set_option maxRecDepth 20000 in
theorem ggX3_promise_X3_isWithin : GoodIn wsX3_promise wsX3_isWithin := goodIn_r _ [4] (by decide +kernel) (by decide +kernel)
set_option maxRecDepth 20000 in
theorem gX3_promise_X3_isWithin : GoodIn wsX3_promise (va_wsS RX3 62 yX3_isWithin wsX3_isWithin) := goodIn_app (goodIn_of _ (by decide +kernel)) ggX3_promise_X3_isWithin
set_option maxRecDepth 20000 in
theorem ggX3_promise_X3_allNodes : GoodIn wsX3_promise wsX3_allNodes := goodIn_r _ [8, 9, 26, 27, 28, 29, 30, 31, 32, 33, 34, 35, 36, 37] (by decide +kernel) (by decide +kernel)
set_option maxRecDepth 20000 in
theorem gX3_promise_X3_allNodes : GoodIn wsX3_promise (wsV RX3 95 RX3 yX3_allNodes wsX3_allNodes) := goodIn_app (goodIn_of _ (by decide +kernel)) ggX3_promise_X3_allNodes
set_option maxRecDepth 20000 in
theorem ggX3_promise_X3_weightAcross : GoodIn wsX3_promise wsX3_weightAcross := goodIn_r _ [13, 14, 15, 16, 17, 18, 3, 19, 20, 21, 22, 23, 24, 25, 26, 27, 28, 29, 30, 31, 32, 33, 34, 35, 36, 37] (by decide +kernel) (by decide +kernel)
set_option maxRecDepth 20000 in
theorem gX3_promise_X3_weightAcross : GoodIn wsX3_promise (wsV RX3 92 RX3 yX3_weightAcross wsX3_weightAcross) := goodIn_app (goodIn_of _ (by decide +kernel)) ggX3_promise_X3_weightAcross
theorem dX3_promise_0 : decode cX3_promise 0 = .ok (.iload_n 2, 1) := by decide +kernel
theorem dX3_promise_1 : decode cX3_promise 1 = .ok (.iconst 1, 1) := by decide +kernel
theorem dX3_promise_2 : decode cX3_promise 2 = .ok (.bipush 20, 2) := by decide +kernel
theorem dX3_promise_4 : decode cX3_promise 4 = .ok (.invokestatic 62, 3) := by decide +kernel
theorem dX3_promise_7 : decode cX3_promise 7 = .ok (.ifCond .eq 12, 3) := by decide +kernel
theorem dX3_promise_10 : decode cX3_promise 10 = .ok (.iload_n 1, 1) := by decide +kernel
theorem dX3_promise_11 : decode cX3_promise 11 = .ok (.iconst 1, 1) := by decide +kernel
theorem dX3_promise_12 : decode cX3_promise 12 = .ok (.iload_n 2, 1) := by decide +kernel
theorem dX3_promise_13 : decode cX3_promise 13 = .ok (.invokestatic 62, 3) := by decide +kernel
theorem dX3_promise_16 : decode cX3_promise 16 = .ok (.ifCond .ne 6, 3) := by decide +kernel
theorem dX3_promise_19 : decode cX3_promise 19 = .ok (.bipush (-3), 2) := by decide +kernel
theorem dX3_promise_21 : decode cX3_promise 21 = .ok (.ireturn, 1) := by decide +kernel
theorem dX3_promise_22 : decode cX3_promise 22 = .ok (.iconst 1, 1) := by decide +kernel
theorem dX3_promise_23 : decode cX3_promise 23 = .ok (.istore_n 3, 1) := by decide +kernel
theorem dX3_promise_24 : decode cX3_promise 24 = .ok (.iload_n 3, 1) := by decide +kernel
theorem dX3_promise_25 : decode cX3_promise 25 = .ok (.aload_n 0, 1) := by decide +kernel
theorem dX3_promise_26 : decode cX3_promise 26 = .ok (.invokevirtual 95, 3) := by decide +kernel
theorem dX3_promise_29 : decode cX3_promise 29 = .ok (.if_icmp .ge 53, 3) := by decide +kernel
theorem dX3_promise_32 : decode cX3_promise 32 = .ok (.aload_n 0, 1) := by decide +kernel
theorem dX3_promise_33 : decode cX3_promise 33 = .ok (.iload_n 3, 1) := by decide +kernel
theorem dX3_promise_34 : decode cX3_promise 34 = .ok (.iconst 0, 1) := by decide +kernel
theorem dX3_promise_35 : decode cX3_promise 35 = .ok (.invokevirtual 92, 3) := by decide +kernel
theorem dX3_promise_38 : decode cX3_promise 38 = .ok (.istore 4, 2) := by decide +kernel
theorem dX3_promise_40 : decode cX3_promise 40 = .ok (.aload_n 0, 1) := by decide +kernel
theorem dX3_promise_41 : decode cX3_promise 41 = .ok (.iload_n 3, 1) := by decide +kernel
theorem dX3_promise_42 : decode cX3_promise 42 = .ok (.iconst 1, 1) := by decide +kernel
theorem dX3_promise_43 : decode cX3_promise 43 = .ok (.invokevirtual 92, 3) := by decide +kernel
theorem dX3_promise_46 : decode cX3_promise 46 = .ok (.istore 5, 2) := by decide +kernel
theorem dX3_promise_48 : decode cX3_promise 48 = .ok (.iload_n 2, 1) := by decide +kernel
theorem dX3_promise_49 : decode cX3_promise 49 = .ok (.iload 5, 2) := by decide +kernel
theorem dX3_promise_51 : decode cX3_promise 51 = .ok (.imul, 1) := by decide +kernel
theorem dX3_promise_52 : decode cX3_promise 52 = .ok (.iload_n 2, 1) := by decide +kernel
theorem dX3_promise_53 : decode cX3_promise 53 = .ok (.iload_n 1, 1) := by decide +kernel
theorem dX3_promise_54 : decode cX3_promise 54 = .ok (.isub, 1) := by decide +kernel
theorem dX3_promise_55 : decode cX3_promise 55 = .ok (.iload 4, 2) := by decide +kernel
theorem dX3_promise_57 : decode cX3_promise 57 = .ok (.imul, 1) := by decide +kernel
theorem dX3_promise_58 : decode cX3_promise 58 = .ok (.if_icmp .lt 16, 3) := by decide +kernel
theorem dX3_promise_61 : decode cX3_promise 61 = .ok (.iload_n 2, 1) := by decide +kernel
theorem dX3_promise_62 : decode cX3_promise 62 = .ok (.iload 5, 2) := by decide +kernel
theorem dX3_promise_64 : decode cX3_promise 64 = .ok (.imul, 1) := by decide +kernel
theorem dX3_promise_65 : decode cX3_promise 65 = .ok (.iload_n 2, 1) := by decide +kernel
theorem dX3_promise_66 : decode cX3_promise 66 = .ok (.iload_n 1, 1) := by decide +kernel
theorem dX3_promise_67 : decode cX3_promise 67 = .ok (.iadd, 1) := by decide +kernel
theorem dX3_promise_68 : decode cX3_promise 68 = .ok (.iload 4, 2) := by decide +kernel
theorem dX3_promise_70 : decode cX3_promise 70 = .ok (.imul, 1) := by decide +kernel
theorem dX3_promise_71 : decode cX3_promise 71 = .ok (.if_icmp .le 5, 3) := by decide +kernel
theorem dX3_promise_74 : decode cX3_promise 74 = .ok (.iconst 0, 1) := by decide +kernel
theorem dX3_promise_75 : decode cX3_promise 75 = .ok (.ireturn, 1) := by decide +kernel
theorem dX3_promise_76 : decode cX3_promise 76 = .ok (.iinc 3 2, 3) := by decide +kernel
theorem dX3_promise_79 : decode cX3_promise 79 = .ok (.goto (-55), 3) := by decide +kernel
theorem dX3_promise_82 : decode cX3_promise 82 = .ok (.iconst 1, 1) := by decide +kernel
theorem dX3_promise_83 : decode cX3_promise 83 = .ok (.ireturn, 1) := by decide +kernel
set_option maxRecDepth 20000 in
theorem ggX3_forests_X3_peelForests : GoodIn wsX3_forests wsX3_peelForests := goodIn_r _ [5, 6, 7, 8, 9, 10, 11, 12, 13, 14, 4, 15, 16, 17, 18, 19, 20, 21, 22, 23, 24, 25, 26, 27, 28, 29, 30, 31, 32, 33, 34, 35, 36, 37, 38, 39, 40, 41] (by decide +kernel) (by decide +kernel)
set_option maxRecDepth 20000 in
theorem gX3_forests_X3_peelForests : GoodIn wsX3_forests (wsV RX3 82 RX3 yX3_peelForests wsX3_peelForests) := goodIn_app (goodIn_of _ (by decide +kernel)) ggX3_forests_X3_peelForests
theorem dX3_forests_0 : decode cX3_forests 0 = .ok (.aload_n 0, 1) := by decide +kernel
theorem dX3_forests_1 : decode cX3_forests 1 = .ok (.invokevirtual 82, 3) := by decide +kernel
theorem dX3_forests_4 : decode cX3_forests 4 = .ok (.ireturn, 1) := by decide +kernel
set_option maxRecDepth 20000 in
theorem ggX3_peel_X3_isWithin : GoodIn wsX3_peel wsX3_isWithin := goodIn_r _ [6] (by decide +kernel) (by decide +kernel)
set_option maxRecDepth 20000 in
theorem gX3_peel_X3_isWithin : GoodIn wsX3_peel (va_wsS RX3 62 yX3_isWithin wsX3_isWithin) := goodIn_app (goodIn_of _ (by decide +kernel)) ggX3_peel_X3_isWithin
set_option maxRecDepth 20000 in
theorem ggX3_peel_X3_peelForests : GoodIn wsX3_peel wsX3_peelForests := goodIn_r _ [10, 2, 1, 11, 12, 13, 14, 15, 16, 17, 5, 18, 19, 20, 21, 22, 23, 24, 25, 26, 27, 28, 29, 30, 31, 48, 49, 50, 51, 52, 53, 54, 55, 56, 57, 58, 59, 60] (by decide +kernel) (by decide +kernel)
set_option maxRecDepth 20000 in
theorem gX3_peel_X3_peelForests : GoodIn wsX3_peel (wsV RX3 82 RX3 yX3_peelForests wsX3_peelForests) := goodIn_app (goodIn_of _ (by decide +kernel)) ggX3_peel_X3_peelForests
set_option maxRecDepth 20000 in
theorem ggX3_peel_X3_keepJust : GoodIn wsX3_peel wsX3_keepJust := goodIn_r _ [35, 1, 36, 37, 38, 39, 5, 40, 41, 42, 43, 44, 45, 46, 47, 48, 49, 50, 51, 52, 53, 54, 55, 56, 57, 58, 59] (by decide +kernel) (by decide +kernel)
set_option maxRecDepth 20000 in
theorem gX3_peel_X3_keepJust : GoodIn wsX3_peel (wsV RX3 98 RX3 yX3_keepJust wsX3_keepJust) := goodIn_app (goodIn_of _ (by decide +kernel)) ggX3_peel_X3_keepJust
theorem dX3_peel_0 : decode cX3_peel 0 = .ok (.iload_n 1, 1) := by decide +kernel
theorem dX3_peel_1 : decode cX3_peel 1 = .ok (.iconst 0, 1) := by decide +kernel
theorem dX3_peel_2 : decode cX3_peel 2 = .ok (.bipush 12, 2) := by decide +kernel
theorem dX3_peel_4 : decode cX3_peel 4 = .ok (.invokestatic 62, 3) := by decide +kernel
theorem dX3_peel_7 : decode cX3_peel 7 = .ok (.ifCond .ne 6, 3) := by decide +kernel
theorem dX3_peel_10 : decode cX3_peel 10 = .ok (.bipush (-3), 2) := by decide +kernel
theorem dX3_peel_12 : decode cX3_peel 12 = .ok (.ireturn, 1) := by decide +kernel
theorem dX3_peel_13 : decode cX3_peel 13 = .ok (.aload_n 0, 1) := by decide +kernel
theorem dX3_peel_14 : decode cX3_peel 14 = .ok (.invokevirtual 82, 3) := by decide +kernel
theorem dX3_peel_17 : decode cX3_peel 17 = .ok (.pop, 1) := by decide +kernel
theorem dX3_peel_18 : decode cX3_peel 18 = .ok (.iconst 0, 1) := by decide +kernel
theorem dX3_peel_19 : decode cX3_peel 19 = .ok (.istore_n 2, 1) := by decide +kernel
theorem dX3_peel_20 : decode cX3_peel 20 = .ok (.iconst 0, 1) := by decide +kernel
theorem dX3_peel_21 : decode cX3_peel 21 = .ok (.istore_n 3, 1) := by decide +kernel
theorem dX3_peel_22 : decode cX3_peel 22 = .ok (.iload_n 3, 1) := by decide +kernel
theorem dX3_peel_23 : decode cX3_peel 23 = .ok (.aload_n 0, 1) := by decide +kernel
theorem dX3_peel_24 : decode cX3_peel 24 = .ok (.getfield 13, 3) := by decide +kernel
theorem dX3_peel_27 : decode cX3_peel 27 = .ok (.if_icmp .ge 25, 3) := by decide +kernel
theorem dX3_peel_30 : decode cX3_peel 30 = .ok (.aload_n 0, 1) := by decide +kernel
theorem dX3_peel_31 : decode cX3_peel 31 = .ok (.getfield 29, 3) := by decide +kernel
theorem dX3_peel_34 : decode cX3_peel 34 = .ok (.iload_n 3, 1) := by decide +kernel
theorem dX3_peel_35 : decode cX3_peel 35 = .ok (.iaload, 1) := by decide +kernel
theorem dX3_peel_36 : decode cX3_peel 36 = .ok (.iload_n 1, 1) := by decide +kernel
theorem dX3_peel_37 : decode cX3_peel 37 = .ok (.if_icmp .gt 9, 3) := by decide +kernel
theorem dX3_peel_40 : decode cX3_peel 40 = .ok (.iload_n 2, 1) := by decide +kernel
theorem dX3_peel_41 : decode cX3_peel 41 = .ok (.iconst 1, 1) := by decide +kernel
theorem dX3_peel_42 : decode cX3_peel 42 = .ok (.iload_n 3, 1) := by decide +kernel
theorem dX3_peel_43 : decode cX3_peel 43 = .ok (.ishl, 1) := by decide +kernel
theorem dX3_peel_44 : decode cX3_peel 44 = .ok (.ior, 1) := by decide +kernel
theorem dX3_peel_45 : decode cX3_peel 45 = .ok (.istore_n 2, 1) := by decide +kernel
theorem dX3_peel_46 : decode cX3_peel 46 = .ok (.iinc 3 1, 3) := by decide +kernel
theorem dX3_peel_49 : decode cX3_peel 49 = .ok (.goto (-27), 3) := by decide +kernel
theorem dX3_peel_52 : decode cX3_peel 52 = .ok (.aload_n 0, 1) := by decide +kernel
theorem dX3_peel_53 : decode cX3_peel 53 = .ok (.iload_n 2, 1) := by decide +kernel
theorem dX3_peel_54 : decode cX3_peel 54 = .ok (.invokevirtual 98, 3) := by decide +kernel
theorem dX3_peel_57 : decode cX3_peel 57 = .ok (.ireturn, 1) := by decide +kernel
set_option maxRecDepth 20000 in
theorem ggX3_greedy_X3_isWithin : GoodIn wsX3_greedy wsX3_isWithin := goodIn_r _ [10] (by decide +kernel) (by decide +kernel)
set_option maxRecDepth 20000 in
theorem gX3_greedy_X3_isWithin : GoodIn wsX3_greedy (va_wsS RX3 62 yX3_isWithin wsX3_isWithin) := goodIn_app (goodIn_of _ (by decide +kernel)) ggX3_greedy_X3_isWithin
set_option maxRecDepth 20000 in
theorem ggX3_greedy_X0_clear : GoodIn wsX3_greedy wsX0_clear := goodIn_r _ [15, 16, 17, 18, 19, 20, 21, 22, 23, 24, 25, 26, 67, 68] (by decide +kernel) (by decide +kernel)
set_option maxRecDepth 20000 in
theorem gX3_greedy_X0_clear : GoodIn wsX3_greedy (wsV RX3 102 RX0 yX0_clear wsX0_clear) := goodIn_app (goodIn_of _ (by decide +kernel)) ggX3_greedy_X0_clear
set_option maxRecDepth 20000 in
theorem ggX3_greedy_X3_lengthBetweenEnds : GoodIn wsX3_greedy wsX3_lengthBetweenEnds := goodIn_r _ [30, 1, 5, 6, 31, 32, 33, 14, 34, 21, 55, 56, 57, 58, 59, 60, 61, 62, 63, 64, 65, 66, 67, 68] (by decide +kernel) (by decide +kernel)
set_option maxRecDepth 20000 in
theorem gX3_greedy_X3_lengthBetweenEnds : GoodIn wsX3_greedy (wsV RX3 106 RX3 yX3_lengthBetweenEnds wsX3_lengthBetweenEnds) := goodIn_app (goodIn_of _ (by decide +kernel)) ggX3_greedy_X3_lengthBetweenEnds
set_option maxRecDepth 20000 in
theorem ggX3_greedy_X0_add : GoodIn wsX3_greedy wsX0_add := goodIn_r _ [38, 20, 21, 16, 17, 18, 19, 39, 32, 33, 14, 34, 67, 68] (by decide +kernel) (by decide +kernel)
set_option maxRecDepth 20000 in
theorem gX3_greedy_X0_add : GoodIn wsX3_greedy (wsV RX3 109 RX0 yX0_add wsX0_add) := goodIn_app (goodIn_of _ (by decide +kernel)) ggX3_greedy_X0_add
set_option maxRecDepth 20000 in
theorem ggX3_greedy_X3_keepJust : GoodIn wsX3_greedy wsX3_keepJust := goodIn_r _ [43, 3, 44, 4, 45, 46, 9, 47, 48, 49, 50, 51, 52, 53, 54, 55, 56, 57, 58, 59, 60, 61, 62, 63, 64, 65, 66] (by decide +kernel) (by decide +kernel)
set_option maxRecDepth 20000 in
theorem gX3_greedy_X3_keepJust : GoodIn wsX3_greedy (wsV RX3 98 RX3 yX3_keepJust wsX3_keepJust) := goodIn_app (goodIn_of _ (by decide +kernel)) ggX3_greedy_X3_keepJust
theorem dX3_greedy_0 : decode cX3_greedy 0 = .ok (.iload_n 1, 1) := by decide +kernel
theorem dX3_greedy_1 : decode cX3_greedy 1 = .ok (.iconst 1, 1) := by decide +kernel
theorem dX3_greedy_2 : decode cX3_greedy 2 = .ok (.bipush 9, 2) := by decide +kernel
theorem dX3_greedy_4 : decode cX3_greedy 4 = .ok (.invokestatic 62, 3) := by decide +kernel
theorem dX3_greedy_7 : decode cX3_greedy 7 = .ok (.ifCond .ne 6, 3) := by decide +kernel
theorem dX3_greedy_10 : decode cX3_greedy 10 = .ok (.bipush (-3), 2) := by decide +kernel
theorem dX3_greedy_12 : decode cX3_greedy 12 = .ok (.ireturn, 1) := by decide +kernel
theorem dX3_greedy_13 : decode cX3_greedy 13 = .ok (.iconst 0, 1) := by decide +kernel
theorem dX3_greedy_14 : decode cX3_greedy 14 = .ok (.istore_n 2, 1) := by decide +kernel
theorem dX3_greedy_15 : decode cX3_greedy 15 = .ok (.aload_n 0, 1) := by decide +kernel
theorem dX3_greedy_16 : decode cX3_greedy 16 = .ok (.getfield 46, 3) := by decide +kernel
theorem dX3_greedy_19 : decode cX3_greedy 19 = .ok (.aload_n 0, 1) := by decide +kernel
theorem dX3_greedy_20 : decode cX3_greedy 20 = .ok (.getfield 9, 3) := by decide +kernel
theorem dX3_greedy_23 : decode cX3_greedy 23 = .ok (.invokevirtual 102, 3) := by decide +kernel
theorem dX3_greedy_26 : decode cX3_greedy 26 = .ok (.iconst 1, 1) := by decide +kernel
theorem dX3_greedy_27 : decode cX3_greedy 27 = .ok (.istore_n 3, 1) := by decide +kernel
theorem dX3_greedy_28 : decode cX3_greedy 28 = .ok (.iload_n 3, 1) := by decide +kernel
theorem dX3_greedy_29 : decode cX3_greedy 29 = .ok (.bipush 9, 2) := by decide +kernel
theorem dX3_greedy_31 : decode cX3_greedy 31 = .ok (.if_icmp .gt 79, 3) := by decide +kernel
theorem dX3_greedy_34 : decode cX3_greedy 34 = .ok (.iconst 0, 1) := by decide +kernel
theorem dX3_greedy_35 : decode cX3_greedy 35 = .ok (.istore 4, 2) := by decide +kernel
theorem dX3_greedy_37 : decode cX3_greedy 37 = .ok (.iload 4, 2) := by decide +kernel
theorem dX3_greedy_39 : decode cX3_greedy 39 = .ok (.aload_n 0, 1) := by decide +kernel
theorem dX3_greedy_40 : decode cX3_greedy 40 = .ok (.getfield 13, 3) := by decide +kernel
theorem dX3_greedy_43 : decode cX3_greedy 43 = .ok (.if_icmp .ge 61, 3) := by decide +kernel
theorem dX3_greedy_46 : decode cX3_greedy 46 = .ok (.aload_n 0, 1) := by decide +kernel
theorem dX3_greedy_47 : decode cX3_greedy 47 = .ok (.getfield 23, 3) := by decide +kernel
theorem dX3_greedy_50 : decode cX3_greedy 50 = .ok (.iload 4, 2) := by decide +kernel
theorem dX3_greedy_52 : decode cX3_greedy 52 = .ok (.iaload, 1) := by decide +kernel
theorem dX3_greedy_53 : decode cX3_greedy 53 = .ok (.iload_n 3, 1) := by decide +kernel
theorem dX3_greedy_54 : decode cX3_greedy 54 = .ok (.if_icmp .ne 44, 3) := by decide +kernel
theorem dX3_greedy_57 : decode cX3_greedy 57 = .ok (.aload_n 0, 1) := by decide +kernel
theorem dX3_greedy_58 : decode cX3_greedy 58 = .ok (.iload 4, 2) := by decide +kernel
theorem dX3_greedy_60 : decode cX3_greedy 60 = .ok (.invokevirtual 106, 3) := by decide +kernel
theorem dX3_greedy_63 : decode cX3_greedy 63 = .ok (.iload_n 1, 1) := by decide +kernel
theorem dX3_greedy_64 : decode cX3_greedy 64 = .ok (.iload_n 3, 1) := by decide +kernel
theorem dX3_greedy_65 : decode cX3_greedy 65 = .ok (.imul, 1) := by decide +kernel
theorem dX3_greedy_66 : decode cX3_greedy 66 = .ok (.if_icmp .le 32, 3) := by decide +kernel
theorem dX3_greedy_69 : decode cX3_greedy 69 = .ok (.aload_n 0, 1) := by decide +kernel
theorem dX3_greedy_70 : decode cX3_greedy 70 = .ok (.getfield 46, 3) := by decide +kernel
theorem dX3_greedy_73 : decode cX3_greedy 73 = .ok (.aload_n 0, 1) := by decide +kernel
theorem dX3_greedy_74 : decode cX3_greedy 74 = .ok (.getfield 16, 3) := by decide +kernel
theorem dX3_greedy_77 : decode cX3_greedy 77 = .ok (.iload 4, 2) := by decide +kernel
theorem dX3_greedy_79 : decode cX3_greedy 79 = .ok (.iaload, 1) := by decide +kernel
theorem dX3_greedy_80 : decode cX3_greedy 80 = .ok (.aload_n 0, 1) := by decide +kernel
theorem dX3_greedy_81 : decode cX3_greedy 81 = .ok (.getfield 20, 3) := by decide +kernel
theorem dX3_greedy_84 : decode cX3_greedy 84 = .ok (.iload 4, 2) := by decide +kernel
theorem dX3_greedy_86 : decode cX3_greedy 86 = .ok (.iaload, 1) := by decide +kernel
theorem dX3_greedy_87 : decode cX3_greedy 87 = .ok (.iload_n 3, 1) := by decide +kernel
theorem dX3_greedy_88 : decode cX3_greedy 88 = .ok (.invokevirtual 109, 3) := by decide +kernel
theorem dX3_greedy_91 : decode cX3_greedy 91 = .ok (.iload_n 2, 1) := by decide +kernel
theorem dX3_greedy_92 : decode cX3_greedy 92 = .ok (.iconst 1, 1) := by decide +kernel
theorem dX3_greedy_93 : decode cX3_greedy 93 = .ok (.iload 4, 2) := by decide +kernel
theorem dX3_greedy_95 : decode cX3_greedy 95 = .ok (.ishl, 1) := by decide +kernel
theorem dX3_greedy_96 : decode cX3_greedy 96 = .ok (.ior, 1) := by decide +kernel
theorem dX3_greedy_97 : decode cX3_greedy 97 = .ok (.istore_n 2, 1) := by decide +kernel
theorem dX3_greedy_98 : decode cX3_greedy 98 = .ok (.iinc 4 1, 3) := by decide +kernel
theorem dX3_greedy_101 : decode cX3_greedy 101 = .ok (.goto (-64), 3) := by decide +kernel
theorem dX3_greedy_104 : decode cX3_greedy 104 = .ok (.iinc 3 1, 3) := by decide +kernel
theorem dX3_greedy_107 : decode cX3_greedy 107 = .ok (.goto (-79), 3) := by decide +kernel
theorem dX3_greedy_110 : decode cX3_greedy 110 = .ok (.aload_n 0, 1) := by decide +kernel
theorem dX3_greedy_111 : decode cX3_greedy 111 = .ok (.iload_n 2, 1) := by decide +kernel
theorem dX3_greedy_112 : decode cX3_greedy 112 = .ok (.invokevirtual 98, 3) := by decide +kernel
theorem dX3_greedy_115 : decode cX3_greedy 115 = .ok (.ireturn, 1) := by decide +kernel
set_option maxRecDepth 20000 in
theorem ggX3_fewest_X3_isWithin : GoodIn wsX3_fewest wsX3_isWithin := goodIn_r _ [4] (by decide +kernel) (by decide +kernel)
set_option maxRecDepth 20000 in
theorem gX3_fewest_X3_isWithin : GoodIn wsX3_fewest (va_wsS RX3 62 yX3_isWithin wsX3_isWithin) := goodIn_app (goodIn_of _ (by decide +kernel)) ggX3_fewest_X3_isWithin
set_option maxRecDepth 20000 in
theorem ggX3_fewest_X3_fewestSet : GoodIn wsX3_fewest wsX3_fewestSet := goodIn_r _ [8, 9, 10, 11, 12, 13, 14, 3, 15, 16, 17, 18, 19, 20, 21, 22, 23, 24, 25, 26, 27, 28, 29, 30, 31, 32, 33, 34, 35, 36, 37, 38, 39, 40, 41, 42, 43, 44, 45, 46, 47, 48, 49, 50, 51, 52, 53, 54, 55, 56, 57, 58, 59, 60, 61, 62, 63, 64, 65, 66, 67, 68, 69, 70, 71, 72, 73, 74, 75, 76, 77, 78, 79, 80, 81, 82, 83, 84, 85, 86, 87, 88, 89, 90, 91, 92, 93, 94, 95, 96, 97, 98, 99, 100, 101, 102, 103, 104, 105, 106, 107, 108, 109, 110, 111] (by decide +kernel) (by decide +kernel)
set_option maxRecDepth 20000 in
theorem gX3_fewest_X3_fewestSet : GoodIn wsX3_fewest (wsV RX3 113 RX3 yX3_fewestSet wsX3_fewestSet) := goodIn_app (goodIn_of _ (by decide +kernel)) ggX3_fewest_X3_fewestSet
set_option maxRecDepth 20000 in
theorem ggX3_fewest_J6_bitCount_0f7a4 : GoodIn wsX3_fewest wsJ6_bitCount_0f7a4 := goodIn_r _ [86, 87, 88, 89] (by decide +kernel) (by decide +kernel)
set_option maxRecDepth 20000 in
theorem gX3_fewest_J6_bitCount_0f7a4 : GoodIn wsX3_fewest (va_wsS RX3 116 yJ6_bitCount_0f7a4 wsJ6_bitCount_0f7a4) := goodIn_app (goodIn_of _ (by decide +kernel)) ggX3_fewest_J6_bitCount_0f7a4
theorem dX3_fewest_0 : decode cX3_fewest 0 = .ok (.iload_n 1, 1) := by decide +kernel
theorem dX3_fewest_1 : decode cX3_fewest 1 = .ok (.iconst 1, 1) := by decide +kernel
theorem dX3_fewest_2 : decode cX3_fewest 2 = .ok (.bipush 9, 2) := by decide +kernel
theorem dX3_fewest_4 : decode cX3_fewest 4 = .ok (.invokestatic 62, 3) := by decide +kernel
theorem dX3_fewest_7 : decode cX3_fewest 7 = .ok (.ifCond .eq 12, 3) := by decide +kernel
theorem dX3_fewest_10 : decode cX3_fewest 10 = .ok (.iload_n 2, 1) := by decide +kernel
theorem dX3_fewest_11 : decode cX3_fewest 11 = .ok (.iconst 0, 1) := by decide +kernel
theorem dX3_fewest_12 : decode cX3_fewest 12 = .ok (.iconst 1, 1) := by decide +kernel
theorem dX3_fewest_13 : decode cX3_fewest 13 = .ok (.invokestatic 62, 3) := by decide +kernel
theorem dX3_fewest_16 : decode cX3_fewest 16 = .ok (.ifCond .ne 6, 3) := by decide +kernel
theorem dX3_fewest_19 : decode cX3_fewest 19 = .ok (.bipush (-3), 2) := by decide +kernel
theorem dX3_fewest_21 : decode cX3_fewest 21 = .ok (.ireturn, 1) := by decide +kernel
theorem dX3_fewest_22 : decode cX3_fewest 22 = .ok (.aload_n 0, 1) := by decide +kernel
theorem dX3_fewest_23 : decode cX3_fewest 23 = .ok (.iload_n 1, 1) := by decide +kernel
theorem dX3_fewest_24 : decode cX3_fewest 24 = .ok (.invokevirtual 113, 3) := by decide +kernel
theorem dX3_fewest_27 : decode cX3_fewest 27 = .ok (.istore_n 3, 1) := by decide +kernel
theorem dX3_fewest_28 : decode cX3_fewest 28 = .ok (.iload_n 2, 1) := by decide +kernel
theorem dX3_fewest_29 : decode cX3_fewest 29 = .ok (.ifCond .ne 10, 3) := by decide +kernel
theorem dX3_fewest_32 : decode cX3_fewest 32 = .ok (.iload_n 3, 1) := by decide +kernel
theorem dX3_fewest_33 : decode cX3_fewest 33 = .ok (.invokestatic 116, 3) := by decide +kernel
theorem dX3_fewest_36 : decode cX3_fewest 36 = .ok (.goto 4, 3) := by decide +kernel
theorem dX3_fewest_39 : decode cX3_fewest 39 = .ok (.iload_n 3, 1) := by decide +kernel
theorem dX3_fewest_40 : decode cX3_fewest 40 = .ok (.ireturn, 1) := by decide +kernel
set_option maxRecDepth 20000 in
theorem ggX3_thin_X3_isWithin : GoodIn wsX3_thin wsX3_isWithin := goodIn_r _ [4] (by decide +kernel) (by decide +kernel)
set_option maxRecDepth 20000 in
theorem gX3_thin_X3_isWithin : GoodIn wsX3_thin (va_wsS RX3 62 yX3_isWithin wsX3_isWithin) := goodIn_app (goodIn_of _ (by decide +kernel)) ggX3_thin_X3_isWithin
set_option maxRecDepth 20000 in
theorem ggX3_thin_X3_fewestSet : GoodIn wsX3_thin wsX3_fewestSet := goodIn_r _ [8, 9, 10, 11, 12, 13, 14, 3, 15, 16, 17, 18, 19, 20, 21, 22, 23, 24, 25, 26, 27, 28, 29, 30, 31, 32, 33, 34, 35, 36, 37, 38, 39, 40, 41, 42, 43, 44, 45, 46, 47, 48, 49, 50, 51, 52, 53, 54, 55, 56, 57, 58, 59, 60, 61, 62, 63, 64, 65, 66, 67, 68, 69, 70, 71, 72, 73, 74, 75, 76, 77, 78, 79, 80, 81, 82, 83, 84, 85, 86, 87, 88, 89, 90, 91, 92, 93, 94, 95, 96, 101, 102, 103, 104, 105, 106, 107, 108, 109, 110, 111, 112, 113, 114, 115] (by decide +kernel) (by decide +kernel)
set_option maxRecDepth 20000 in
theorem gX3_thin_X3_fewestSet : GoodIn wsX3_thin (wsV RX3 113 RX3 yX3_fewestSet wsX3_fewestSet) := goodIn_app (goodIn_of _ (by decide +kernel)) ggX3_thin_X3_fewestSet
set_option maxRecDepth 20000 in
theorem ggX3_thin_X3_keepJust : GoodIn wsX3_thin wsX3_keepJust := goodIn_r _ [100, 11, 21, 20, 45, 46, 3, 47, 83, 84, 85, 86, 87, 88, 89, 101, 102, 103, 104, 105, 106, 107, 108, 109, 110, 111, 112] (by decide +kernel) (by decide +kernel)
set_option maxRecDepth 20000 in
theorem gX3_thin_X3_keepJust : GoodIn wsX3_thin (wsV RX3 98 RX3 yX3_keepJust wsX3_keepJust) := goodIn_app (goodIn_of _ (by decide +kernel)) ggX3_thin_X3_keepJust
theorem dX3_thin_0 : decode cX3_thin 0 = .ok (.iload_n 1, 1) := by decide +kernel
theorem dX3_thin_1 : decode cX3_thin 1 = .ok (.iconst 1, 1) := by decide +kernel
theorem dX3_thin_2 : decode cX3_thin 2 = .ok (.bipush 9, 2) := by decide +kernel
theorem dX3_thin_4 : decode cX3_thin 4 = .ok (.invokestatic 62, 3) := by decide +kernel
theorem dX3_thin_7 : decode cX3_thin 7 = .ok (.ifCond .ne 6, 3) := by decide +kernel
theorem dX3_thin_10 : decode cX3_thin 10 = .ok (.bipush (-3), 2) := by decide +kernel
theorem dX3_thin_12 : decode cX3_thin 12 = .ok (.ireturn, 1) := by decide +kernel
theorem dX3_thin_13 : decode cX3_thin 13 = .ok (.aload_n 0, 1) := by decide +kernel
theorem dX3_thin_14 : decode cX3_thin 14 = .ok (.aload_n 0, 1) := by decide +kernel
theorem dX3_thin_15 : decode cX3_thin 15 = .ok (.iload_n 1, 1) := by decide +kernel
theorem dX3_thin_16 : decode cX3_thin 16 = .ok (.invokevirtual 113, 3) := by decide +kernel
theorem dX3_thin_19 : decode cX3_thin 19 = .ok (.invokevirtual 98, 3) := by decide +kernel
theorem dX3_thin_22 : decode cX3_thin 22 = .ok (.ireturn, 1) := by decide +kernel
set_option maxRecDepth 20000 in
theorem ggX3_far_X3_isNode : GoodIn wsX3_far wsX3_isNode := goodIn_r _ [6, 7, 62, 63, 64, 65, 66, 67, 68, 69, 70, 71, 72, 73] (by decide +kernel) (by decide +kernel)
set_option maxRecDepth 20000 in
theorem gX3_far_X3_isNode : GoodIn wsX3_far (wsV RX3 66 RX3 yX3_isNode wsX3_isNode) := goodIn_app (goodIn_of _ (by decide +kernel)) ggX3_far_X3_isNode
set_option maxRecDepth 20000 in
theorem ggX3_far_X3_isWay : GoodIn wsX3_far wsX3_isWay := goodIn_r _ [10] (by decide +kernel) (by decide +kernel)
set_option maxRecDepth 20000 in
theorem gX3_far_X3_isWay : GoodIn wsX3_far (va_wsS RX3 89 yX3_isWay wsX3_isWay) := goodIn_app (goodIn_of _ (by decide +kernel)) ggX3_far_X3_isWay
set_option maxRecDepth 20000 in
theorem ggX3_far_X3_measured : GoodIn wsX3_far wsX3_measured := goodIn_r _ [14, 15, 16, 17, 18, 19, 5, 20, 21, 22, 23, 24, 25, 26, 27, 28, 29, 30, 31, 7, 32, 33, 34, 35, 36, 37, 38, 39, 40, 41, 42, 43, 44, 45, 46, 47, 48, 49, 50, 51, 52, 53, 54, 55, 56, 57, 58, 59, 60, 62, 63, 64, 65, 66, 67, 68, 69, 70, 71, 72, 73, 74, 75] (by decide +kernel) (by decide +kernel)
set_option maxRecDepth 20000 in
theorem gX3_far_X3_measured : GoodIn wsX3_far (wsV RX3 121 RX3 yX3_measured wsX3_measured) := goodIn_app (goodIn_of _ (by decide +kernel)) ggX3_far_X3_measured
set_option maxRecDepth 20000 in
theorem ggX3_far_X0_between : GoodIn wsX3_far wsX0_between := goodIn_r _ [60, 44, 74, 75] (by decide +kernel) (by decide +kernel)
set_option maxRecDepth 20000 in
theorem gX3_far_X0_between : GoodIn wsX3_far (wsV RX3 125 RX0 yX0_between wsX0_between) := goodIn_app (goodIn_of _ (by decide +kernel)) ggX3_far_X0_between
theorem dX3_far_0 : decode cX3_far 0 = .ok (.aload_n 0, 1) := by decide +kernel
theorem dX3_far_1 : decode cX3_far 1 = .ok (.iload_n 1, 1) := by decide +kernel
theorem dX3_far_2 : decode cX3_far 2 = .ok (.invokevirtual 66, 3) := by decide +kernel
theorem dX3_far_5 : decode cX3_far 5 = .ok (.ifCond .eq 11, 3) := by decide +kernel
theorem dX3_far_8 : decode cX3_far 8 = .ok (.aload_n 0, 1) := by decide +kernel
theorem dX3_far_9 : decode cX3_far 9 = .ok (.iload_n 2, 1) := by decide +kernel
theorem dX3_far_10 : decode cX3_far 10 = .ok (.invokevirtual 66, 3) := by decide +kernel
theorem dX3_far_13 : decode cX3_far 13 = .ok (.ifCond .ne 6, 3) := by decide +kernel
theorem dX3_far_16 : decode cX3_far 16 = .ok (.bipush (-2), 2) := by decide +kernel
theorem dX3_far_18 : decode cX3_far 18 = .ok (.ireturn, 1) := by decide +kernel
theorem dX3_far_19 : decode cX3_far 19 = .ok (.iload_n 3, 1) := by decide +kernel
theorem dX3_far_20 : decode cX3_far 20 = .ok (.invokestatic 89, 3) := by decide +kernel
theorem dX3_far_23 : decode cX3_far 23 = .ok (.ifCond .ne 6, 3) := by decide +kernel
theorem dX3_far_26 : decode cX3_far 26 = .ok (.bipush (-3), 2) := by decide +kernel
theorem dX3_far_28 : decode cX3_far 28 = .ok (.ireturn, 1) := by decide +kernel
theorem dX3_far_29 : decode cX3_far 29 = .ok (.aload_n 0, 1) := by decide +kernel
theorem dX3_far_30 : decode cX3_far 30 = .ok (.iload_n 3, 1) := by decide +kernel
theorem dX3_far_31 : decode cX3_far 31 = .ok (.invokevirtual 121, 3) := by decide +kernel
theorem dX3_far_34 : decode cX3_far 34 = .ok (.iload_n 1, 1) := by decide +kernel
theorem dX3_far_35 : decode cX3_far 35 = .ok (.iload_n 2, 1) := by decide +kernel
theorem dX3_far_36 : decode cX3_far 36 = .ok (.invokevirtual 125, 3) := by decide +kernel
theorem dX3_far_39 : decode cX3_far 39 = .ok (.istore 4, 2) := by decide +kernel
theorem dX3_far_41 : decode cX3_far 41 = .ok (.iload 4, 2) := by decide +kernel
theorem dX3_far_43 : decode cX3_far 43 = .ok (.ldc 128, 2) := by decide +kernel
theorem dX3_far_45 : decode cX3_far 45 = .ok (.if_icmp .ge 8, 3) := by decide +kernel
theorem dX3_far_48 : decode cX3_far 48 = .ok (.iload 4, 2) := by decide +kernel
theorem dX3_far_50 : decode cX3_far 50 = .ok (.goto 4, 3) := by decide +kernel
theorem dX3_far_53 : decode cX3_far 53 = .ok (.iconst (-1), 1) := by decide +kernel
theorem dX3_far_54 : decode cX3_far 54 = .ok (.ireturn, 1) := by decide +kernel
set_option maxRecDepth 20000 in
theorem ggX3_stretch_X3_isWithin : GoodIn wsX3_stretch wsX3_isWithin := goodIn_r _ [6] (by decide +kernel) (by decide +kernel)
set_option maxRecDepth 20000 in
theorem gX3_stretch_X3_isWithin : GoodIn wsX3_stretch (va_wsS RX3 62 yX3_isWithin wsX3_isWithin) := goodIn_app (goodIn_of _ (by decide +kernel)) ggX3_stretch_X3_isWithin
set_option maxRecDepth 20000 in
theorem ggX3_stretch_X3_measured : GoodIn wsX3_stretch wsX3_measured := goodIn_r _ [10, 11, 12, 13, 14, 15, 5, 16, 17, 18, 19, 20, 21, 22, 23, 24, 25, 26, 27, 1, 28, 29, 30, 31, 32, 33, 34, 35, 36, 37, 38, 39, 40, 41, 42, 43, 44, 45, 46, 47, 48, 49, 50, 51, 52, 53, 54, 55, 56, 65, 66, 67, 68, 69, 70, 71, 72, 73, 74, 75, 76, 77, 78] (by decide +kernel) (by decide +kernel)
set_option maxRecDepth 20000 in
theorem gX3_stretch_X3_measured : GoodIn wsX3_stretch (wsV RX3 121 RX3 yX3_measured wsX3_measured) := goodIn_app (goodIn_of _ (by decide +kernel)) ggX3_stretch_X3_measured
set_option maxRecDepth 20000 in
theorem ggX3_stretch_X0_between : GoodIn wsX3_stretch wsX0_between := goodIn_r _ [56, 40, 77, 78] (by decide +kernel) (by decide +kernel)
set_option maxRecDepth 20000 in
theorem gX3_stretch_X0_between : GoodIn wsX3_stretch (wsV RX3 125 RX0 yX0_between wsX0_between) := goodIn_app (goodIn_of _ (by decide +kernel)) ggX3_stretch_X0_between
set_option maxRecDepth 20000 in
theorem ggX3_stretch_X3_inLowestTerms : GoodIn wsX3_stretch wsX3_inLowestTerms := goodIn_r _ [60, 61, 62, 63, 5, 64] (by decide +kernel) (by decide +kernel)
set_option maxRecDepth 20000 in
theorem gX3_stretch_X3_inLowestTerms : GoodIn wsX3_stretch (va_wsS RX3 129 yX3_inLowestTerms wsX3_inLowestTerms) := goodIn_app (goodIn_of _ (by decide +kernel)) ggX3_stretch_X3_inLowestTerms
theorem dX3_stretch_0 : decode cX3_stretch 0 = .ok (.iload_n 1, 1) := by decide +kernel
theorem dX3_stretch_1 : decode cX3_stretch 1 = .ok (.iconst 0, 1) := by decide +kernel
theorem dX3_stretch_2 : decode cX3_stretch 2 = .ok (.iconst 1, 1) := by decide +kernel
theorem dX3_stretch_3 : decode cX3_stretch 3 = .ok (.invokestatic 62, 3) := by decide +kernel
theorem dX3_stretch_6 : decode cX3_stretch 6 = .ok (.ifCond .ne 6, 3) := by decide +kernel
theorem dX3_stretch_9 : decode cX3_stretch 9 = .ok (.bipush (-3), 2) := by decide +kernel
theorem dX3_stretch_11 : decode cX3_stretch 11 = .ok (.ireturn, 1) := by decide +kernel
theorem dX3_stretch_12 : decode cX3_stretch 12 = .ok (.aload_n 0, 1) := by decide +kernel
theorem dX3_stretch_13 : decode cX3_stretch 13 = .ok (.iconst 0, 1) := by decide +kernel
theorem dX3_stretch_14 : decode cX3_stretch 14 = .ok (.invokevirtual 121, 3) := by decide +kernel
theorem dX3_stretch_17 : decode cX3_stretch 17 = .ok (.astore_n 2, 1) := by decide +kernel
theorem dX3_stretch_18 : decode cX3_stretch 18 = .ok (.aload_n 0, 1) := by decide +kernel
theorem dX3_stretch_19 : decode cX3_stretch 19 = .ok (.iconst 1, 1) := by decide +kernel
theorem dX3_stretch_20 : decode cX3_stretch 20 = .ok (.invokevirtual 121, 3) := by decide +kernel
theorem dX3_stretch_23 : decode cX3_stretch 23 = .ok (.astore_n 3, 1) := by decide +kernel
theorem dX3_stretch_24 : decode cX3_stretch 24 = .ok (.iconst 0, 1) := by decide +kernel
theorem dX3_stretch_25 : decode cX3_stretch 25 = .ok (.istore 4, 2) := by decide +kernel
theorem dX3_stretch_27 : decode cX3_stretch 27 = .ok (.iconst 0, 1) := by decide +kernel
theorem dX3_stretch_28 : decode cX3_stretch 28 = .ok (.istore 5, 2) := by decide +kernel
theorem dX3_stretch_30 : decode cX3_stretch 30 = .ok (.iconst 0, 1) := by decide +kernel
theorem dX3_stretch_31 : decode cX3_stretch 31 = .ok (.istore 6, 2) := by decide +kernel
theorem dX3_stretch_33 : decode cX3_stretch 33 = .ok (.iload 6, 2) := by decide +kernel
theorem dX3_stretch_35 : decode cX3_stretch 35 = .ok (.aload_n 0, 1) := by decide +kernel
theorem dX3_stretch_36 : decode cX3_stretch 36 = .ok (.getfield 9, 3) := by decide +kernel
theorem dX3_stretch_39 : decode cX3_stretch 39 = .ok (.if_icmp .ge 99, 3) := by decide +kernel
theorem dX3_stretch_42 : decode cX3_stretch 42 = .ok (.iload 6, 2) := by decide +kernel
theorem dX3_stretch_44 : decode cX3_stretch 44 = .ok (.iconst 1, 1) := by decide +kernel
theorem dX3_stretch_45 : decode cX3_stretch 45 = .ok (.iadd, 1) := by decide +kernel
theorem dX3_stretch_46 : decode cX3_stretch 46 = .ok (.istore 7, 2) := by decide +kernel
theorem dX3_stretch_48 : decode cX3_stretch 48 = .ok (.iload 7, 2) := by decide +kernel
theorem dX3_stretch_50 : decode cX3_stretch 50 = .ok (.aload_n 0, 1) := by decide +kernel
theorem dX3_stretch_51 : decode cX3_stretch 51 = .ok (.getfield 9, 3) := by decide +kernel
theorem dX3_stretch_54 : decode cX3_stretch 54 = .ok (.if_icmp .ge 78, 3) := by decide +kernel
theorem dX3_stretch_57 : decode cX3_stretch 57 = .ok (.aload_n 2, 1) := by decide +kernel
theorem dX3_stretch_58 : decode cX3_stretch 58 = .ok (.iload 6, 2) := by decide +kernel
theorem dX3_stretch_60 : decode cX3_stretch 60 = .ok (.iload 7, 2) := by decide +kernel
theorem dX3_stretch_62 : decode cX3_stretch 62 = .ok (.invokevirtual 125, 3) := by decide +kernel
theorem dX3_stretch_65 : decode cX3_stretch 65 = .ok (.istore 8, 2) := by decide +kernel
theorem dX3_stretch_67 : decode cX3_stretch 67 = .ok (.aload_n 3, 1) := by decide +kernel
theorem dX3_stretch_68 : decode cX3_stretch 68 = .ok (.iload 6, 2) := by decide +kernel
theorem dX3_stretch_70 : decode cX3_stretch 70 = .ok (.iload 7, 2) := by decide +kernel
theorem dX3_stretch_72 : decode cX3_stretch 72 = .ok (.invokevirtual 125, 3) := by decide +kernel
theorem dX3_stretch_75 : decode cX3_stretch 75 = .ok (.istore 9, 2) := by decide +kernel
theorem dX3_stretch_77 : decode cX3_stretch 77 = .ok (.iload 8, 2) := by decide +kernel
theorem dX3_stretch_79 : decode cX3_stretch 79 = .ok (.ldc 128, 2) := by decide +kernel
theorem dX3_stretch_81 : decode cX3_stretch 81 = .ok (.if_icmp .ge 12, 3) := by decide +kernel
theorem dX3_stretch_84 : decode cX3_stretch 84 = .ok (.iload 9, 2) := by decide +kernel
theorem dX3_stretch_86 : decode cX3_stretch 86 = .ok (.ldc 128, 2) := by decide +kernel
theorem dX3_stretch_88 : decode cX3_stretch 88 = .ok (.if_icmp .lt 5, 3) := by decide +kernel
theorem dX3_stretch_91 : decode cX3_stretch 91 = .ok (.iconst (-1), 1) := by decide +kernel
theorem dX3_stretch_92 : decode cX3_stretch 92 = .ok (.ireturn, 1) := by decide +kernel
theorem dX3_stretch_93 : decode cX3_stretch 93 = .ok (.iload 8, 2) := by decide +kernel
theorem dX3_stretch_95 : decode cX3_stretch 95 = .ok (.ldc 128, 2) := by decide +kernel
theorem dX3_stretch_97 : decode cX3_stretch 97 = .ok (.if_icmp .ge 29, 3) := by decide +kernel
theorem dX3_stretch_100 : decode cX3_stretch 100 = .ok (.iload 5, 2) := by decide +kernel
theorem dX3_stretch_102 : decode cX3_stretch 102 = .ok (.ifCond .eq 16, 3) := by decide +kernel
theorem dX3_stretch_105 : decode cX3_stretch 105 = .ok (.iload 9, 2) := by decide +kernel
theorem dX3_stretch_107 : decode cX3_stretch 107 = .ok (.iload 5, 2) := by decide +kernel
theorem dX3_stretch_109 : decode cX3_stretch 109 = .ok (.imul, 1) := by decide +kernel
theorem dX3_stretch_110 : decode cX3_stretch 110 = .ok (.iload 4, 2) := by decide +kernel
theorem dX3_stretch_112 : decode cX3_stretch 112 = .ok (.iload 8, 2) := by decide +kernel
theorem dX3_stretch_114 : decode cX3_stretch 114 = .ok (.imul, 1) := by decide +kernel
theorem dX3_stretch_115 : decode cX3_stretch 115 = .ok (.if_icmp .le 11, 3) := by decide +kernel
theorem dX3_stretch_118 : decode cX3_stretch 118 = .ok (.iload 9, 2) := by decide +kernel
theorem dX3_stretch_120 : decode cX3_stretch 120 = .ok (.istore 4, 2) := by decide +kernel
theorem dX3_stretch_122 : decode cX3_stretch 122 = .ok (.iload 8, 2) := by decide +kernel
theorem dX3_stretch_124 : decode cX3_stretch 124 = .ok (.istore 5, 2) := by decide +kernel
theorem dX3_stretch_126 : decode cX3_stretch 126 = .ok (.iinc 7 1, 3) := by decide +kernel
theorem dX3_stretch_129 : decode cX3_stretch 129 = .ok (.goto (-81), 3) := by decide +kernel
theorem dX3_stretch_132 : decode cX3_stretch 132 = .ok (.iinc 6 1, 3) := by decide +kernel
theorem dX3_stretch_135 : decode cX3_stretch 135 = .ok (.goto (-102), 3) := by decide +kernel
theorem dX3_stretch_138 : decode cX3_stretch 138 = .ok (.iload 4, 2) := by decide +kernel
theorem dX3_stretch_140 : decode cX3_stretch 140 = .ok (.i2l, 1) := by decide +kernel
theorem dX3_stretch_141 : decode cX3_stretch 141 = .ok (.iload 5, 2) := by decide +kernel
theorem dX3_stretch_143 : decode cX3_stretch 143 = .ok (.i2l, 1) := by decide +kernel
theorem dX3_stretch_144 : decode cX3_stretch 144 = .ok (.iload_n 1, 1) := by decide +kernel
theorem dX3_stretch_145 : decode cX3_stretch 145 = .ok (.invokestatic 129, 3) := by decide +kernel
theorem dX3_stretch_148 : decode cX3_stretch 148 = .ok (.l2i, 1) := by decide +kernel
theorem dX3_stretch_149 : decode cX3_stretch 149 = .ok (.ireturn, 1) := by decide +kernel
set_option maxRecDepth 20000 in
theorem ggX3_trees_X3_isWay : GoodIn wsX3_trees wsX3_isWay := goodIn_r _ [5] (by decide +kernel) (by decide +kernel)
set_option maxRecDepth 20000 in
theorem gX3_trees_X3_isWay : GoodIn wsX3_trees (va_wsS RX3 89 yX3_isWay wsX3_isWay) := goodIn_app (goodIn_of _ (by decide +kernel)) ggX3_trees_X3_isWay
set_option maxRecDepth 20000 in
theorem ggX3_trees_X3_treeProducts : GoodIn wsX3_trees wsX3_treeProducts := goodIn_r _ [9, 10, 11, 12, 13, 4, 14, 15, 16, 17, 18, 19, 20, 21, 22, 23, 24, 25, 26, 27, 28, 29, 30, 31, 32, 33, 34, 35, 36, 37, 38, 39, 40, 41, 42, 43, 44, 45, 46, 47, 48, 49, 50, 51, 52, 53, 54, 55, 56, 57, 58, 59, 60, 61, 62, 63, 64, 65, 66, 67, 68, 69, 70, 71, 72, 73, 74, 75, 76, 77, 78, 79, 80, 81, 82] (by decide +kernel) (by decide +kernel)
set_option maxRecDepth 20000 in
theorem gX3_trees_X3_treeProducts : GoodIn wsX3_trees (wsV RX3 135 RX3 yX3_treeProducts wsX3_treeProducts) := goodIn_app (goodIn_of _ (by decide +kernel)) ggX3_trees_X3_treeProducts
theorem dX3_trees_0 : decode cX3_trees 0 = .ok (.iload_n 1, 1) := by decide +kernel
theorem dX3_trees_1 : decode cX3_trees 1 = .ok (.invokestatic 89, 3) := by decide +kernel
theorem dX3_trees_4 : decode cX3_trees 4 = .ok (.ifCond .ne 7, 3) := by decide +kernel
theorem dX3_trees_7 : decode cX3_trees 7 = .ok (.ldc2_w 133, 3) := by decide +kernel
theorem dX3_trees_10 : decode cX3_trees 10 = .ok (.lreturn, 1) := by decide +kernel
theorem dX3_trees_11 : decode cX3_trees 11 = .ok (.aload_n 0, 1) := by decide +kernel
theorem dX3_trees_12 : decode cX3_trees 12 = .ok (.iload_n 1, 1) := by decide +kernel
theorem dX3_trees_13 : decode cX3_trees 13 = .ok (.invokevirtual 135, 3) := by decide +kernel
theorem dX3_trees_16 : decode cX3_trees 16 = .ok (.lreturn, 1) := by decide +kernel
set_option maxRecDepth 20000 in
theorem ggX3_resistance_X3_isNode : GoodIn wsX3_resistance wsX3_isNode := goodIn_r _ [7, 8, 86, 87, 88, 89, 90, 91, 92, 93, 94, 95, 96, 97] (by decide +kernel) (by decide +kernel)
set_option maxRecDepth 20000 in
theorem gX3_resistance_X3_isNode : GoodIn wsX3_resistance (wsV RX3 66 RX3 yX3_isNode wsX3_isNode) := goodIn_app (goodIn_of _ (by decide +kernel)) ggX3_resistance_X3_isNode
set_option maxRecDepth 20000 in
theorem ggX3_resistance_X3_isWay : GoodIn wsX3_resistance wsX3_isWay := goodIn_r _ [11] (by decide +kernel) (by decide +kernel)
set_option maxRecDepth 20000 in
theorem gX3_resistance_X3_isWay : GoodIn wsX3_resistance (va_wsS RX3 89 yX3_isWay wsX3_isWay) := goodIn_app (goodIn_of _ (by decide +kernel)) ggX3_resistance_X3_isWay
set_option maxRecDepth 20000 in
theorem ggX3_resistance_X3_isWithin : GoodIn wsX3_resistance wsX3_isWithin := goodIn_r _ [14] (by decide +kernel) (by decide +kernel)
set_option maxRecDepth 20000 in
theorem gX3_resistance_X3_isWithin : GoodIn wsX3_resistance (va_wsS RX3 62 yX3_isWithin wsX3_isWithin) := goodIn_app (goodIn_of _ (by decide +kernel)) ggX3_resistance_X3_isWithin
set_option maxRecDepth 20000 in
theorem ggX3_resistance_X3_partingProducts : GoodIn wsX3_resistance wsX3_partingProducts := goodIn_r _ [18, 19, 20, 21, 22, 6, 23, 8, 24, 25, 26, 27, 28, 29, 30, 31, 32, 33, 34, 35, 36, 37, 38, 39, 40, 41, 42, 43, 44, 45, 46, 47, 48, 49, 50, 51, 52, 53, 54, 55, 56, 57, 58, 59, 60, 61, 62, 63, 64, 65, 66, 67, 68, 69, 70, 71, 72, 73, 74, 86, 87, 88, 89, 90, 91, 92, 93, 94, 95, 96, 97, 98, 99, 100, 101] (by decide +kernel) (by decide +kernel)
set_option maxRecDepth 20000 in
theorem gX3_resistance_X3_partingProducts : GoodIn wsX3_resistance (wsV RX3 141 RX3 yX3_partingProducts wsX3_partingProducts) := goodIn_app (goodIn_of _ (by decide +kernel)) ggX3_resistance_X3_partingProducts
set_option maxRecDepth 20000 in
theorem ggX3_resistance_X3_treeProducts : GoodIn wsX3_resistance wsX3_treeProducts := goodIn_r _ [78, 19, 20, 21, 22, 6, 23, 8, 24, 25, 26, 27, 28, 29, 30, 31, 32, 33, 34, 35, 36, 37, 38, 39, 40, 41, 42, 43, 44, 45, 46, 47, 48, 49, 50, 51, 52, 53, 54, 55, 56, 57, 58, 59, 60, 61, 62, 63, 64, 65, 66, 67, 68, 69, 70, 71, 72, 73, 74, 86, 87, 88, 89, 90, 91, 92, 93, 94, 95, 96, 97, 98, 99, 100, 101] (by decide +kernel) (by decide +kernel)
set_option maxRecDepth 20000 in
theorem gX3_resistance_X3_treeProducts : GoodIn wsX3_resistance (wsV RX3 135 RX3 yX3_treeProducts wsX3_treeProducts) := goodIn_app (goodIn_of _ (by decide +kernel)) ggX3_resistance_X3_treeProducts
set_option maxRecDepth 20000 in
theorem ggX3_resistance_X3_inLowestTerms : GoodIn wsX3_resistance wsX3_inLowestTerms := goodIn_r _ [81, 82, 83, 84, 6, 85] (by decide +kernel) (by decide +kernel)
set_option maxRecDepth 20000 in
theorem gX3_resistance_X3_inLowestTerms : GoodIn wsX3_resistance (va_wsS RX3 129 yX3_inLowestTerms wsX3_inLowestTerms) := goodIn_app (goodIn_of _ (by decide +kernel)) ggX3_resistance_X3_inLowestTerms
theorem dX3_resistance_0 : decode cX3_resistance 0 = .ok (.aload_n 0, 1) := by decide +kernel
theorem dX3_resistance_1 : decode cX3_resistance 1 = .ok (.iload_n 1, 1) := by decide +kernel
theorem dX3_resistance_2 : decode cX3_resistance 2 = .ok (.invokevirtual 66, 3) := by decide +kernel
theorem dX3_resistance_5 : decode cX3_resistance 5 = .ok (.ifCond .eq 11, 3) := by decide +kernel
theorem dX3_resistance_8 : decode cX3_resistance 8 = .ok (.aload_n 0, 1) := by decide +kernel
theorem dX3_resistance_9 : decode cX3_resistance 9 = .ok (.iload_n 2, 1) := by decide +kernel
theorem dX3_resistance_10 : decode cX3_resistance 10 = .ok (.invokevirtual 66, 3) := by decide +kernel
theorem dX3_resistance_13 : decode cX3_resistance 13 = .ok (.ifCond .ne 7, 3) := by decide +kernel
theorem dX3_resistance_16 : decode cX3_resistance 16 = .ok (.ldc2_w 139, 3) := by decide +kernel
theorem dX3_resistance_19 : decode cX3_resistance 19 = .ok (.lreturn, 1) := by decide +kernel
theorem dX3_resistance_20 : decode cX3_resistance 20 = .ok (.iload_n 1, 1) := by decide +kernel
theorem dX3_resistance_21 : decode cX3_resistance 21 = .ok (.iload_n 2, 1) := by decide +kernel
theorem dX3_resistance_22 : decode cX3_resistance 22 = .ok (.if_icmp .eq 20, 3) := by decide +kernel
theorem dX3_resistance_25 : decode cX3_resistance 25 = .ok (.iload_n 3, 1) := by decide +kernel
theorem dX3_resistance_26 : decode cX3_resistance 26 = .ok (.invokestatic 89, 3) := by decide +kernel
theorem dX3_resistance_29 : decode cX3_resistance 29 = .ok (.ifCond .eq 13, 3) := by decide +kernel
theorem dX3_resistance_32 : decode cX3_resistance 32 = .ok (.iload 4, 2) := by decide +kernel
theorem dX3_resistance_34 : decode cX3_resistance 34 = .ok (.iconst 0, 1) := by decide +kernel
theorem dX3_resistance_35 : decode cX3_resistance 35 = .ok (.iconst 1, 1) := by decide +kernel
theorem dX3_resistance_36 : decode cX3_resistance 36 = .ok (.invokestatic 62, 3) := by decide +kernel
theorem dX3_resistance_39 : decode cX3_resistance 39 = .ok (.ifCond .ne 7, 3) := by decide +kernel
theorem dX3_resistance_42 : decode cX3_resistance 42 = .ok (.ldc2_w 133, 3) := by decide +kernel
theorem dX3_resistance_45 : decode cX3_resistance 45 = .ok (.lreturn, 1) := by decide +kernel
theorem dX3_resistance_46 : decode cX3_resistance 46 = .ok (.aload_n 0, 1) := by decide +kernel
theorem dX3_resistance_47 : decode cX3_resistance 47 = .ok (.iload_n 1, 1) := by decide +kernel
theorem dX3_resistance_48 : decode cX3_resistance 48 = .ok (.iload_n 2, 1) := by decide +kernel
theorem dX3_resistance_49 : decode cX3_resistance 49 = .ok (.iload_n 3, 1) := by decide +kernel
theorem dX3_resistance_50 : decode cX3_resistance 50 = .ok (.invokevirtual 141, 3) := by decide +kernel
theorem dX3_resistance_53 : decode cX3_resistance 53 = .ok (.aload_n 0, 1) := by decide +kernel
theorem dX3_resistance_54 : decode cX3_resistance 54 = .ok (.iload_n 3, 1) := by decide +kernel
theorem dX3_resistance_55 : decode cX3_resistance 55 = .ok (.invokevirtual 135, 3) := by decide +kernel
theorem dX3_resistance_58 : decode cX3_resistance 58 = .ok (.iload 4, 2) := by decide +kernel
theorem dX3_resistance_60 : decode cX3_resistance 60 = .ok (.invokestatic 129, 3) := by decide +kernel
theorem dX3_resistance_63 : decode cX3_resistance 63 = .ok (.lreturn, 1) := by decide +kernel
set_option maxRecDepth 20000 in
theorem ggX3_load_X3_isLine : GoodIn wsX3_load wsX3_isLine := goodIn_r _ [10, 11, 83, 84, 85, 86, 87, 88, 89, 90, 91, 92, 93, 94] (by decide +kernel) (by decide +kernel)
set_option maxRecDepth 20000 in
theorem gX3_load_X3_isLine : GoodIn wsX3_load (wsV RX3 79 RX3 yX3_isLine wsX3_isLine) := goodIn_app (goodIn_of _ (by decide +kernel)) ggX3_load_X3_isLine
set_option maxRecDepth 20000 in
theorem ggX3_load_X3_isWithin : GoodIn wsX3_load wsX3_isWithin := goodIn_r _ [14] (by decide +kernel) (by decide +kernel)
set_option maxRecDepth 20000 in
theorem gX3_load_X3_isWithin : GoodIn wsX3_load (va_wsS RX3 62 yX3_isWithin wsX3_isWithin) := goodIn_app (goodIn_of _ (by decide +kernel)) ggX3_load_X3_isWithin
set_option maxRecDepth 20000 in
theorem ggX3_load_X3_partingProducts : GoodIn wsX3_load wsX3_partingProducts := goodIn_r _ [18, 19, 20, 21, 22, 9, 23, 24, 11, 3, 4, 25, 26, 27, 28, 29, 30, 31, 32, 33, 34, 35, 36, 37, 38, 39, 40, 41, 42, 43, 5, 44, 45, 46, 47, 48, 49, 50, 51, 52, 53, 54, 55, 56, 57, 58, 59, 60, 61, 62, 63, 64, 65, 66, 67, 68, 69, 70, 71, 83, 84, 85, 86, 87, 88, 89, 90, 91, 92, 93, 94, 95, 96, 97, 98] (by decide +kernel) (by decide +kernel)
set_option maxRecDepth 20000 in
theorem gX3_load_X3_partingProducts : GoodIn wsX3_load (wsV RX3 141 RX3 yX3_partingProducts wsX3_partingProducts) := goodIn_app (goodIn_of _ (by decide +kernel)) ggX3_load_X3_partingProducts
set_option maxRecDepth 20000 in
theorem ggX3_load_X3_treeProducts : GoodIn wsX3_load wsX3_treeProducts := goodIn_r _ [75, 19, 20, 21, 22, 9, 23, 24, 11, 3, 4, 25, 26, 27, 28, 29, 30, 31, 32, 33, 34, 35, 36, 37, 38, 39, 40, 41, 42, 43, 5, 44, 45, 46, 47, 48, 49, 50, 51, 52, 53, 54, 55, 56, 57, 58, 59, 60, 61, 62, 63, 64, 65, 66, 67, 68, 69, 70, 71, 83, 84, 85, 86, 87, 88, 89, 90, 91, 92, 93, 94, 95, 96, 97, 98] (by decide +kernel) (by decide +kernel)
set_option maxRecDepth 20000 in
theorem gX3_load_X3_treeProducts : GoodIn wsX3_load (wsV RX3 135 RX3 yX3_treeProducts wsX3_treeProducts) := goodIn_app (goodIn_of _ (by decide +kernel)) ggX3_load_X3_treeProducts
set_option maxRecDepth 20000 in
theorem ggX3_load_X3_inLowestTerms : GoodIn wsX3_load wsX3_inLowestTerms := goodIn_r _ [78, 79, 80, 81, 9, 82] (by decide +kernel) (by decide +kernel)
set_option maxRecDepth 20000 in
theorem gX3_load_X3_inLowestTerms : GoodIn wsX3_load (va_wsS RX3 129 yX3_inLowestTerms wsX3_inLowestTerms) := goodIn_app (goodIn_of _ (by decide +kernel)) ggX3_load_X3_inLowestTerms
theorem dX3_load_0 : decode cX3_load 0 = .ok (.aload_n 0, 1) := by decide +kernel
theorem dX3_load_1 : decode cX3_load 1 = .ok (.iload_n 1, 1) := by decide +kernel
theorem dX3_load_2 : decode cX3_load 2 = .ok (.invokevirtual 79, 3) := by decide +kernel
theorem dX3_load_5 : decode cX3_load 5 = .ok (.ifCond .ne 7, 3) := by decide +kernel
theorem dX3_load_8 : decode cX3_load 8 = .ok (.ldc2_w 139, 3) := by decide +kernel
theorem dX3_load_11 : decode cX3_load 11 = .ok (.lreturn, 1) := by decide +kernel
theorem dX3_load_12 : decode cX3_load 12 = .ok (.iload_n 2, 1) := by decide +kernel
theorem dX3_load_13 : decode cX3_load 13 = .ok (.iconst 0, 1) := by decide +kernel
theorem dX3_load_14 : decode cX3_load 14 = .ok (.iconst 1, 1) := by decide +kernel
theorem dX3_load_15 : decode cX3_load 15 = .ok (.invokestatic 62, 3) := by decide +kernel
theorem dX3_load_18 : decode cX3_load 18 = .ok (.ifCond .ne 7, 3) := by decide +kernel
theorem dX3_load_21 : decode cX3_load 21 = .ok (.ldc2_w 133, 3) := by decide +kernel
theorem dX3_load_24 : decode cX3_load 24 = .ok (.lreturn, 1) := by decide +kernel
theorem dX3_load_25 : decode cX3_load 25 = .ok (.aload_n 0, 1) := by decide +kernel
theorem dX3_load_26 : decode cX3_load 26 = .ok (.aload_n 0, 1) := by decide +kernel
theorem dX3_load_27 : decode cX3_load 27 = .ok (.getfield 16, 3) := by decide +kernel
theorem dX3_load_30 : decode cX3_load 30 = .ok (.iload_n 1, 1) := by decide +kernel
theorem dX3_load_31 : decode cX3_load 31 = .ok (.iaload, 1) := by decide +kernel
theorem dX3_load_32 : decode cX3_load 32 = .ok (.aload_n 0, 1) := by decide +kernel
theorem dX3_load_33 : decode cX3_load 33 = .ok (.getfield 20, 3) := by decide +kernel
theorem dX3_load_36 : decode cX3_load 36 = .ok (.iload_n 1, 1) := by decide +kernel
theorem dX3_load_37 : decode cX3_load 37 = .ok (.iaload, 1) := by decide +kernel
theorem dX3_load_38 : decode cX3_load 38 = .ok (.iconst 0, 1) := by decide +kernel
theorem dX3_load_39 : decode cX3_load 39 = .ok (.invokevirtual 141, 3) := by decide +kernel
theorem dX3_load_42 : decode cX3_load 42 = .ok (.lstore_n 3, 1) := by decide +kernel
theorem dX3_load_43 : decode cX3_load 43 = .ok (.aload_n 0, 1) := by decide +kernel
theorem dX3_load_44 : decode cX3_load 44 = .ok (.getfield 23, 3) := by decide +kernel
theorem dX3_load_47 : decode cX3_load 47 = .ok (.iload_n 1, 1) := by decide +kernel
theorem dX3_load_48 : decode cX3_load 48 = .ok (.iaload, 1) := by decide +kernel
theorem dX3_load_49 : decode cX3_load 49 = .ok (.i2l, 1) := by decide +kernel
theorem dX3_load_50 : decode cX3_load 50 = .ok (.lload_n 3, 1) := by decide +kernel
theorem dX3_load_51 : decode cX3_load 51 = .ok (.lmul, 1) := by decide +kernel
theorem dX3_load_52 : decode cX3_load 52 = .ok (.aload_n 0, 1) := by decide +kernel
theorem dX3_load_53 : decode cX3_load 53 = .ok (.iconst 0, 1) := by decide +kernel
theorem dX3_load_54 : decode cX3_load 54 = .ok (.invokevirtual 135, 3) := by decide +kernel
theorem dX3_load_57 : decode cX3_load 57 = .ok (.iload_n 2, 1) := by decide +kernel
theorem dX3_load_58 : decode cX3_load 58 = .ok (.invokestatic 129, 3) := by decide +kernel
theorem dX3_load_61 : decode cX3_load 61 = .ok (.lreturn, 1) := by decide +kernel
set_option maxRecDepth 20000 in
theorem ggX3_count_X3_linesOf : GoodIn wsX3_count wsX3_linesOf := goodIn_r _ [7, 2, 8, 9, 10, 6, 11, 12, 13, 25, 26, 27, 28, 29, 30, 31, 32, 33, 34, 35, 36] (by decide +kernel) (by decide +kernel)
set_option maxRecDepth 20000 in
theorem gX3_count_X3_linesOf : GoodIn wsX3_count (wsV RX3 145 RX3 yX3_linesOf wsX3_linesOf) := goodIn_app (goodIn_of _ (by decide +kernel)) ggX3_count_X3_linesOf
set_option maxRecDepth 20000 in
theorem ggX3_count_J6_bitCount_0f7a4 : GoodIn wsX3_count wsJ6_bitCount_0f7a4 := goodIn_r _ [17, 18, 19, 20] (by decide +kernel) (by decide +kernel)
set_option maxRecDepth 20000 in
theorem gX3_count_J6_bitCount_0f7a4 : GoodIn wsX3_count (va_wsS RX3 116 yJ6_bitCount_0f7a4 wsJ6_bitCount_0f7a4) := goodIn_app (goodIn_of _ (by decide +kernel)) ggX3_count_J6_bitCount_0f7a4
set_option maxRecDepth 20000 in
theorem ggX3_count_X3_weightTogether : GoodIn wsX3_count wsX3_weightTogether := goodIn_r _ [24, 2, 8, 9, 10, 6, 11, 12, 13, 25, 26, 27, 28, 29, 30, 31, 32, 33, 34, 35, 36] (by decide +kernel) (by decide +kernel)
set_option maxRecDepth 20000 in
theorem gX3_count_X3_weightTogether : GoodIn wsX3_count (wsV RX3 148 RX3 yX3_weightTogether wsX3_weightTogether) := goodIn_app (goodIn_of _ (by decide +kernel)) ggX3_count_X3_weightTogether
theorem dX3_count_0 : decode cX3_count 0 = .ok (.iload_n 1, 1) := by decide +kernel
theorem dX3_count_1 : decode cX3_count 1 = .ok (.tableswitch 66 0 4 #[35, 40, 45, 54, 60], 35) := by decide +kernel
theorem dX3_count_36 : decode cX3_count 36 = .ok (.aload_n 0, 1) := by decide +kernel
theorem dX3_count_37 : decode cX3_count 37 = .ok (.getfield 9, 3) := by decide +kernel
theorem dX3_count_40 : decode cX3_count 40 = .ok (.ireturn, 1) := by decide +kernel
theorem dX3_count_41 : decode cX3_count 41 = .ok (.aload_n 0, 1) := by decide +kernel
theorem dX3_count_42 : decode cX3_count 42 = .ok (.getfield 13, 3) := by decide +kernel
theorem dX3_count_45 : decode cX3_count 45 = .ok (.ireturn, 1) := by decide +kernel
theorem dX3_count_46 : decode cX3_count 46 = .ok (.aload_n 0, 1) := by decide +kernel
theorem dX3_count_47 : decode cX3_count 47 = .ok (.iconst 1, 1) := by decide +kernel
theorem dX3_count_48 : decode cX3_count 48 = .ok (.invokevirtual 145, 3) := by decide +kernel
theorem dX3_count_51 : decode cX3_count 51 = .ok (.invokestatic 116, 3) := by decide +kernel
theorem dX3_count_54 : decode cX3_count 54 = .ok (.ireturn, 1) := by decide +kernel
theorem dX3_count_55 : decode cX3_count 55 = .ok (.aload_n 0, 1) := by decide +kernel
theorem dX3_count_56 : decode cX3_count 56 = .ok (.iconst 0, 1) := by decide +kernel
theorem dX3_count_57 : decode cX3_count 57 = .ok (.invokevirtual 148, 3) := by decide +kernel
theorem dX3_count_60 : decode cX3_count 60 = .ok (.ireturn, 1) := by decide +kernel
theorem dX3_count_61 : decode cX3_count 61 = .ok (.aload_n 0, 1) := by decide +kernel
theorem dX3_count_62 : decode cX3_count 62 = .ok (.iconst 1, 1) := by decide +kernel
theorem dX3_count_63 : decode cX3_count 63 = .ok (.invokevirtual 148, 3) := by decide +kernel
theorem dX3_count_66 : decode cX3_count 66 = .ok (.ireturn, 1) := by decide +kernel
theorem dX3_count_67 : decode cX3_count 67 = .ok (.bipush (-3), 2) := by decide +kernel
theorem dX3_count_69 : decode cX3_count 69 = .ok (.ireturn, 1) := by decide +kernel
theorem dX3_isWithin_0 : decode cX3_isWithin 0 = .ok (.iload_n 0, 1) := by decide +kernel
theorem dX3_isWithin_1 : decode cX3_isWithin 1 = .ok (.iload_n 1, 1) := by decide +kernel
theorem dX3_isWithin_2 : decode cX3_isWithin 2 = .ok (.if_icmp .lt 12, 3) := by decide +kernel
theorem dX3_isWithin_5 : decode cX3_isWithin 5 = .ok (.iload_n 0, 1) := by decide +kernel
theorem dX3_isWithin_6 : decode cX3_isWithin 6 = .ok (.iload_n 2, 1) := by decide +kernel
theorem dX3_isWithin_7 : decode cX3_isWithin 7 = .ok (.if_icmp .gt 7, 3) := by decide +kernel
theorem dX3_isWithin_10 : decode cX3_isWithin 10 = .ok (.iconst 1, 1) := by decide +kernel
theorem dX3_isWithin_11 : decode cX3_isWithin 11 = .ok (.goto 4, 3) := by decide +kernel
theorem dX3_isWithin_14 : decode cX3_isWithin 14 = .ok (.iconst 0, 1) := by decide +kernel
theorem dX3_isWithin_15 : decode cX3_isWithin 15 = .ok (.ireturn, 1) := by decide +kernel
theorem dX3_isIn_0 : decode cX3_isIn 0 = .ok (.iload_n 0, 1) := by decide +kernel
theorem dX3_isIn_1 : decode cX3_isIn 1 = .ok (.iload_n 1, 1) := by decide +kernel
theorem dX3_isIn_2 : decode cX3_isIn 2 = .ok (.ishr, 1) := by decide +kernel
theorem dX3_isIn_3 : decode cX3_isIn 3 = .ok (.iconst 1, 1) := by decide +kernel
theorem dX3_isIn_4 : decode cX3_isIn 4 = .ok (.iand, 1) := by decide +kernel
theorem dX3_isIn_5 : decode cX3_isIn 5 = .ok (.iconst 1, 1) := by decide +kernel
theorem dX3_isIn_6 : decode cX3_isIn 6 = .ok (.if_icmp .ne 7, 3) := by decide +kernel
theorem dX3_isIn_9 : decode cX3_isIn 9 = .ok (.iconst 1, 1) := by decide +kernel
theorem dX3_isIn_10 : decode cX3_isIn 10 = .ok (.goto 4, 3) := by decide +kernel
theorem dX3_isIn_13 : decode cX3_isIn 13 = .ok (.iconst 0, 1) := by decide +kernel
theorem dX3_isIn_14 : decode cX3_isIn 14 = .ok (.ireturn, 1) := by decide +kernel
theorem dX3_isWay_0 : decode cX3_isWay 0 = .ok (.iload_n 0, 1) := by decide +kernel
theorem dX3_isWay_1 : decode cX3_isWay 1 = .ok (.ifCond .eq 8, 3) := by decide +kernel
theorem dX3_isWay_4 : decode cX3_isWay 4 = .ok (.iload_n 0, 1) := by decide +kernel
theorem dX3_isWay_5 : decode cX3_isWay 5 = .ok (.iconst 1, 1) := by decide +kernel
theorem dX3_isWay_6 : decode cX3_isWay 6 = .ok (.if_icmp .ne 7, 3) := by decide +kernel
theorem dX3_isWay_9 : decode cX3_isWay 9 = .ok (.iconst 1, 1) := by decide +kernel
theorem dX3_isWay_10 : decode cX3_isWay 10 = .ok (.goto 4, 3) := by decide +kernel
theorem dX3_isWay_13 : decode cX3_isWay 13 = .ok (.iconst 0, 1) := by decide +kernel
theorem dX3_isWay_14 : decode cX3_isWay 14 = .ok (.ireturn, 1) := by decide +kernel
theorem dX3_isNode_0 : decode cX3_isNode 0 = .ok (.iload_n 1, 1) := by decide +kernel
theorem dX3_isNode_1 : decode cX3_isNode 1 = .ok (.ifCond .lt 15, 3) := by decide +kernel
theorem dX3_isNode_4 : decode cX3_isNode 4 = .ok (.iload_n 1, 1) := by decide +kernel
theorem dX3_isNode_5 : decode cX3_isNode 5 = .ok (.aload_n 0, 1) := by decide +kernel
theorem dX3_isNode_6 : decode cX3_isNode 6 = .ok (.getfield 9, 3) := by decide +kernel
theorem dX3_isNode_9 : decode cX3_isNode 9 = .ok (.if_icmp .ge 7, 3) := by decide +kernel
theorem dX3_isNode_12 : decode cX3_isNode 12 = .ok (.iconst 1, 1) := by decide +kernel
theorem dX3_isNode_13 : decode cX3_isNode 13 = .ok (.goto 4, 3) := by decide +kernel
theorem dX3_isNode_16 : decode cX3_isNode 16 = .ok (.iconst 0, 1) := by decide +kernel
theorem dX3_isNode_17 : decode cX3_isNode 17 = .ok (.ireturn, 1) := by decide +kernel
theorem dX3_isLine_0 : decode cX3_isLine 0 = .ok (.iload_n 1, 1) := by decide +kernel
theorem dX3_isLine_1 : decode cX3_isLine 1 = .ok (.ifCond .lt 15, 3) := by decide +kernel
theorem dX3_isLine_4 : decode cX3_isLine 4 = .ok (.iload_n 1, 1) := by decide +kernel
theorem dX3_isLine_5 : decode cX3_isLine 5 = .ok (.aload_n 0, 1) := by decide +kernel
theorem dX3_isLine_6 : decode cX3_isLine 6 = .ok (.getfield 13, 3) := by decide +kernel
theorem dX3_isLine_9 : decode cX3_isLine 9 = .ok (.if_icmp .ge 7, 3) := by decide +kernel
theorem dX3_isLine_12 : decode cX3_isLine 12 = .ok (.iconst 1, 1) := by decide +kernel
theorem dX3_isLine_13 : decode cX3_isLine 13 = .ok (.goto 4, 3) := by decide +kernel
theorem dX3_isLine_16 : decode cX3_isLine 16 = .ok (.iconst 0, 1) := by decide +kernel
theorem dX3_isLine_17 : decode cX3_isLine 17 = .ok (.ireturn, 1) := by decide +kernel
set_option maxRecDepth 20000 in
theorem ggX3_isSide_X3_allNodes : GoodIn wsX3_isSide wsX3_allNodes := goodIn_r _ [5, 6, 7, 8, 9, 10, 11, 12, 13, 14, 15, 16, 17, 18] (by decide +kernel) (by decide +kernel)
set_option maxRecDepth 20000 in
theorem gX3_isSide_X3_allNodes : GoodIn wsX3_isSide (wsV RX3 95 RX3 yX3_allNodes wsX3_allNodes) := goodIn_app (goodIn_of _ (by decide +kernel)) ggX3_isSide_X3_allNodes
theorem dX3_isSide_0 : decode cX3_isSide 0 = .ok (.iload_n 1, 1) := by decide +kernel
theorem dX3_isSide_1 : decode cX3_isSide 1 = .ok (.ifCond .le 22, 3) := by decide +kernel
theorem dX3_isSide_4 : decode cX3_isSide 4 = .ok (.iload_n 1, 1) := by decide +kernel
theorem dX3_isSide_5 : decode cX3_isSide 5 = .ok (.aload_n 0, 1) := by decide +kernel
theorem dX3_isSide_6 : decode cX3_isSide 6 = .ok (.invokevirtual 95, 3) := by decide +kernel
theorem dX3_isSide_9 : decode cX3_isSide 9 = .ok (.if_icmp .ge 14, 3) := by decide +kernel
theorem dX3_isSide_12 : decode cX3_isSide 12 = .ok (.iload_n 1, 1) := by decide +kernel
theorem dX3_isSide_13 : decode cX3_isSide 13 = .ok (.iconst 1, 1) := by decide +kernel
theorem dX3_isSide_14 : decode cX3_isSide 14 = .ok (.iand, 1) := by decide +kernel
theorem dX3_isSide_15 : decode cX3_isSide 15 = .ok (.iconst 1, 1) := by decide +kernel
theorem dX3_isSide_16 : decode cX3_isSide 16 = .ok (.if_icmp .ne 7, 3) := by decide +kernel
theorem dX3_isSide_19 : decode cX3_isSide 19 = .ok (.iconst 1, 1) := by decide +kernel
theorem dX3_isSide_20 : decode cX3_isSide 20 = .ok (.goto 4, 3) := by decide +kernel
theorem dX3_isSide_23 : decode cX3_isSide 23 = .ok (.iconst 0, 1) := by decide +kernel
theorem dX3_isSide_24 : decode cX3_isSide 24 = .ok (.ireturn, 1) := by decide +kernel
theorem dX3_allNodes_0 : decode cX3_allNodes 0 = .ok (.iconst 1, 1) := by decide +kernel
theorem dX3_allNodes_1 : decode cX3_allNodes 1 = .ok (.aload_n 0, 1) := by decide +kernel
theorem dX3_allNodes_2 : decode cX3_allNodes 2 = .ok (.getfield 9, 3) := by decide +kernel
theorem dX3_allNodes_5 : decode cX3_allNodes 5 = .ok (.ishl, 1) := by decide +kernel
theorem dX3_allNodes_6 : decode cX3_allNodes 6 = .ok (.iconst 1, 1) := by decide +kernel
theorem dX3_allNodes_7 : decode cX3_allNodes 7 = .ok (.isub, 1) := by decide +kernel
theorem dX3_allNodes_8 : decode cX3_allNodes 8 = .ok (.ireturn, 1) := by decide +kernel
theorem dX3_weightIn_0 : decode cX3_weightIn 0 = .ok (.iload_n 2, 1) := by decide +kernel
theorem dX3_weightIn_1 : decode cX3_weightIn 1 = .ok (.ifCond .ne 12, 3) := by decide +kernel
theorem dX3_weightIn_4 : decode cX3_weightIn 4 = .ok (.aload_n 0, 1) := by decide +kernel
theorem dX3_weightIn_5 : decode cX3_weightIn 5 = .ok (.getfield 23, 3) := by decide +kernel
theorem dX3_weightIn_8 : decode cX3_weightIn 8 = .ok (.iload_n 1, 1) := by decide +kernel
theorem dX3_weightIn_9 : decode cX3_weightIn 9 = .ok (.iaload, 1) := by decide +kernel
theorem dX3_weightIn_10 : decode cX3_weightIn 10 = .ok (.goto 9, 3) := by decide +kernel
theorem dX3_weightIn_13 : decode cX3_weightIn 13 = .ok (.aload_n 0, 1) := by decide +kernel
theorem dX3_weightIn_14 : decode cX3_weightIn 14 = .ok (.getfield 26, 3) := by decide +kernel
theorem dX3_weightIn_17 : decode cX3_weightIn 17 = .ok (.iload_n 1, 1) := by decide +kernel
theorem dX3_weightIn_18 : decode cX3_weightIn 18 = .ok (.iaload, 1) := by decide +kernel
theorem dX3_weightIn_19 : decode cX3_weightIn 19 = .ok (.ireturn, 1) := by decide +kernel
set_option maxRecDepth 20000 in
theorem ggX3_weightTogether_X3_weightIn : GoodIn wsX3_weightTogether wsX3_weightIn := goodIn_r _ [6, 7, 8, 9, 10, 11, 12, 13, 14, 15, 16, 17, 18, 19, 20] (by decide +kernel) (by decide +kernel)
set_option maxRecDepth 20000 in
theorem gX3_weightTogether_X3_weightIn : GoodIn wsX3_weightTogether (wsV RX3 151 RX3 yX3_weightIn wsX3_weightIn) := goodIn_app (goodIn_of _ (by decide +kernel)) ggX3_weightTogether_X3_weightIn
theorem dX3_weightTogether_0 : decode cX3_weightTogether 0 = .ok (.iconst 0, 1) := by decide +kernel
theorem dX3_weightTogether_1 : decode cX3_weightTogether 1 = .ok (.istore_n 2, 1) := by decide +kernel
theorem dX3_weightTogether_2 : decode cX3_weightTogether 2 = .ok (.iconst 0, 1) := by decide +kernel
theorem dX3_weightTogether_3 : decode cX3_weightTogether 3 = .ok (.istore_n 3, 1) := by decide +kernel
theorem dX3_weightTogether_4 : decode cX3_weightTogether 4 = .ok (.iload_n 3, 1) := by decide +kernel
theorem dX3_weightTogether_5 : decode cX3_weightTogether 5 = .ok (.aload_n 0, 1) := by decide +kernel
theorem dX3_weightTogether_6 : decode cX3_weightTogether 6 = .ok (.getfield 13, 3) := by decide +kernel
theorem dX3_weightTogether_9 : decode cX3_weightTogether 9 = .ok (.if_icmp .ge 18, 3) := by decide +kernel
theorem dX3_weightTogether_12 : decode cX3_weightTogether 12 = .ok (.iload_n 2, 1) := by decide +kernel
theorem dX3_weightTogether_13 : decode cX3_weightTogether 13 = .ok (.aload_n 0, 1) := by decide +kernel
theorem dX3_weightTogether_14 : decode cX3_weightTogether 14 = .ok (.iload_n 3, 1) := by decide +kernel
theorem dX3_weightTogether_15 : decode cX3_weightTogether 15 = .ok (.iload_n 1, 1) := by decide +kernel
theorem dX3_weightTogether_16 : decode cX3_weightTogether 16 = .ok (.invokevirtual 151, 3) := by decide +kernel
theorem dX3_weightTogether_19 : decode cX3_weightTogether 19 = .ok (.iadd, 1) := by decide +kernel
theorem dX3_weightTogether_20 : decode cX3_weightTogether 20 = .ok (.istore_n 2, 1) := by decide +kernel
theorem dX3_weightTogether_21 : decode cX3_weightTogether 21 = .ok (.iinc 3 1, 3) := by decide +kernel
theorem dX3_weightTogether_24 : decode cX3_weightTogether 24 = .ok (.goto (-20), 3) := by decide +kernel
theorem dX3_weightTogether_27 : decode cX3_weightTogether 27 = .ok (.iload_n 2, 1) := by decide +kernel
theorem dX3_weightTogether_28 : decode cX3_weightTogether 28 = .ok (.ireturn, 1) := by decide +kernel
set_option maxRecDepth 20000 in
theorem ggX3_weightAcross_X3_isIn : GoodIn wsX3_weightAcross wsX3_isIn := goodIn_r _ [7] (by decide +kernel) (by decide +kernel)
set_option maxRecDepth 20000 in
theorem gX3_weightAcross_X3_isIn : GoodIn wsX3_weightAcross (va_wsS RX3 154 yX3_isIn wsX3_isIn) := goodIn_app (goodIn_of _ (by decide +kernel)) ggX3_weightAcross_X3_isIn
set_option maxRecDepth 20000 in
theorem ggX3_weightAcross_X3_weightIn : GoodIn wsX3_weightAcross wsX3_weightIn := goodIn_r _ [11, 12, 13, 14, 15, 16, 17, 18, 19, 20, 21, 22, 23, 24, 25] (by decide +kernel) (by decide +kernel)
set_option maxRecDepth 20000 in
theorem gX3_weightAcross_X3_weightIn : GoodIn wsX3_weightAcross (wsV RX3 151 RX3 yX3_weightIn wsX3_weightIn) := goodIn_app (goodIn_of _ (by decide +kernel)) ggX3_weightAcross_X3_weightIn
theorem dX3_weightAcross_0 : decode cX3_weightAcross 0 = .ok (.iconst 0, 1) := by decide +kernel
theorem dX3_weightAcross_1 : decode cX3_weightAcross 1 = .ok (.istore_n 3, 1) := by decide +kernel
theorem dX3_weightAcross_2 : decode cX3_weightAcross 2 = .ok (.iconst 0, 1) := by decide +kernel
theorem dX3_weightAcross_3 : decode cX3_weightAcross 3 = .ok (.istore 4, 2) := by decide +kernel
theorem dX3_weightAcross_5 : decode cX3_weightAcross 5 = .ok (.iload 4, 2) := by decide +kernel
theorem dX3_weightAcross_7 : decode cX3_weightAcross 7 = .ok (.aload_n 0, 1) := by decide +kernel
theorem dX3_weightAcross_8 : decode cX3_weightAcross 8 = .ok (.getfield 13, 3) := by decide +kernel
theorem dX3_weightAcross_11 : decode cX3_weightAcross 11 = .ok (.if_icmp .ge 44, 3) := by decide +kernel
theorem dX3_weightAcross_14 : decode cX3_weightAcross 14 = .ok (.iload_n 1, 1) := by decide +kernel
theorem dX3_weightAcross_15 : decode cX3_weightAcross 15 = .ok (.aload_n 0, 1) := by decide +kernel
theorem dX3_weightAcross_16 : decode cX3_weightAcross 16 = .ok (.getfield 16, 3) := by decide +kernel
theorem dX3_weightAcross_19 : decode cX3_weightAcross 19 = .ok (.iload 4, 2) := by decide +kernel
theorem dX3_weightAcross_21 : decode cX3_weightAcross 21 = .ok (.iaload, 1) := by decide +kernel
theorem dX3_weightAcross_22 : decode cX3_weightAcross 22 = .ok (.invokestatic 154, 3) := by decide +kernel
theorem dX3_weightAcross_25 : decode cX3_weightAcross 25 = .ok (.iload_n 1, 1) := by decide +kernel
theorem dX3_weightAcross_26 : decode cX3_weightAcross 26 = .ok (.aload_n 0, 1) := by decide +kernel
theorem dX3_weightAcross_27 : decode cX3_weightAcross 27 = .ok (.getfield 20, 3) := by decide +kernel
theorem dX3_weightAcross_30 : decode cX3_weightAcross 30 = .ok (.iload 4, 2) := by decide +kernel
theorem dX3_weightAcross_32 : decode cX3_weightAcross 32 = .ok (.iaload, 1) := by decide +kernel
theorem dX3_weightAcross_33 : decode cX3_weightAcross 33 = .ok (.invokestatic 154, 3) := by decide +kernel
theorem dX3_weightAcross_36 : decode cX3_weightAcross 36 = .ok (.if_icmp .eq 13, 3) := by decide +kernel
theorem dX3_weightAcross_39 : decode cX3_weightAcross 39 = .ok (.iload_n 3, 1) := by decide +kernel
theorem dX3_weightAcross_40 : decode cX3_weightAcross 40 = .ok (.aload_n 0, 1) := by decide +kernel
theorem dX3_weightAcross_41 : decode cX3_weightAcross 41 = .ok (.iload 4, 2) := by decide +kernel
theorem dX3_weightAcross_43 : decode cX3_weightAcross 43 = .ok (.iload_n 2, 1) := by decide +kernel
theorem dX3_weightAcross_44 : decode cX3_weightAcross 44 = .ok (.invokevirtual 151, 3) := by decide +kernel
theorem dX3_weightAcross_47 : decode cX3_weightAcross 47 = .ok (.iadd, 1) := by decide +kernel
theorem dX3_weightAcross_48 : decode cX3_weightAcross 48 = .ok (.istore_n 3, 1) := by decide +kernel
theorem dX3_weightAcross_49 : decode cX3_weightAcross 49 = .ok (.iinc 4 1, 3) := by decide +kernel
theorem dX3_weightAcross_52 : decode cX3_weightAcross 52 = .ok (.goto (-47), 3) := by decide +kernel
theorem dX3_weightAcross_55 : decode cX3_weightAcross 55 = .ok (.iload_n 3, 1) := by decide +kernel
theorem dX3_weightAcross_56 : decode cX3_weightAcross 56 = .ok (.ireturn, 1) := by decide +kernel
set_option maxRecDepth 20000 in
theorem ggX3_linesOf_X3_weightIn : GoodIn wsX3_linesOf wsX3_weightIn := goodIn_r _ [6, 7, 8, 9, 10, 11, 12, 13, 14, 15, 16, 17, 18, 19, 20] (by decide +kernel) (by decide +kernel)
set_option maxRecDepth 20000 in
theorem gX3_linesOf_X3_weightIn : GoodIn wsX3_linesOf (wsV RX3 151 RX3 yX3_weightIn wsX3_weightIn) := goodIn_app (goodIn_of _ (by decide +kernel)) ggX3_linesOf_X3_weightIn
theorem dX3_linesOf_0 : decode cX3_linesOf 0 = .ok (.iconst 0, 1) := by decide +kernel
theorem dX3_linesOf_1 : decode cX3_linesOf 1 = .ok (.istore_n 2, 1) := by decide +kernel
theorem dX3_linesOf_2 : decode cX3_linesOf 2 = .ok (.iconst 0, 1) := by decide +kernel
theorem dX3_linesOf_3 : decode cX3_linesOf 3 = .ok (.istore_n 3, 1) := by decide +kernel
theorem dX3_linesOf_4 : decode cX3_linesOf 4 = .ok (.iload_n 3, 1) := by decide +kernel
theorem dX3_linesOf_5 : decode cX3_linesOf 5 = .ok (.aload_n 0, 1) := by decide +kernel
theorem dX3_linesOf_6 : decode cX3_linesOf 6 = .ok (.getfield 13, 3) := by decide +kernel
theorem dX3_linesOf_9 : decode cX3_linesOf 9 = .ok (.if_icmp .ge 24, 3) := by decide +kernel
theorem dX3_linesOf_12 : decode cX3_linesOf 12 = .ok (.aload_n 0, 1) := by decide +kernel
theorem dX3_linesOf_13 : decode cX3_linesOf 13 = .ok (.iload_n 3, 1) := by decide +kernel
theorem dX3_linesOf_14 : decode cX3_linesOf 14 = .ok (.iload_n 1, 1) := by decide +kernel
theorem dX3_linesOf_15 : decode cX3_linesOf 15 = .ok (.invokevirtual 151, 3) := by decide +kernel
theorem dX3_linesOf_18 : decode cX3_linesOf 18 = .ok (.ifCond .le 9, 3) := by decide +kernel
theorem dX3_linesOf_21 : decode cX3_linesOf 21 = .ok (.iload_n 2, 1) := by decide +kernel
theorem dX3_linesOf_22 : decode cX3_linesOf 22 = .ok (.iconst 1, 1) := by decide +kernel
theorem dX3_linesOf_23 : decode cX3_linesOf 23 = .ok (.iload_n 3, 1) := by decide +kernel
theorem dX3_linesOf_24 : decode cX3_linesOf 24 = .ok (.ishl, 1) := by decide +kernel
theorem dX3_linesOf_25 : decode cX3_linesOf 25 = .ok (.ior, 1) := by decide +kernel
theorem dX3_linesOf_26 : decode cX3_linesOf 26 = .ok (.istore_n 2, 1) := by decide +kernel
theorem dX3_linesOf_27 : decode cX3_linesOf 27 = .ok (.iinc 3 1, 3) := by decide +kernel
theorem dX3_linesOf_30 : decode cX3_linesOf 30 = .ok (.goto (-26), 3) := by decide +kernel
theorem dX3_linesOf_33 : decode cX3_linesOf 33 = .ok (.iload_n 2, 1) := by decide +kernel
theorem dX3_linesOf_34 : decode cX3_linesOf 34 = .ok (.ireturn, 1) := by decide +kernel
set_option maxRecDepth 20000 in
theorem ggX3_keepJust_X3_isIn : GoodIn wsX3_keepJust wsX3_isIn := goodIn_r _ [7] (by decide +kernel) (by decide +kernel)
set_option maxRecDepth 20000 in
theorem gX3_keepJust_X3_isIn : GoodIn wsX3_keepJust (va_wsS RX3 154 yX3_isIn wsX3_isIn) := goodIn_app (goodIn_of _ (by decide +kernel)) ggX3_keepJust_X3_isIn
set_option maxRecDepth 20000 in
theorem ggX3_keepJust_J6_bitCount_0f7a4 : GoodIn wsX3_keepJust wsJ6_bitCount_0f7a4 := goodIn_r _ [11, 12, 13, 14] (by decide +kernel) (by decide +kernel)
set_option maxRecDepth 20000 in
theorem gX3_keepJust_J6_bitCount_0f7a4 : GoodIn wsX3_keepJust (va_wsS RX3 116 yJ6_bitCount_0f7a4 wsJ6_bitCount_0f7a4) := goodIn_app (goodIn_of _ (by decide +kernel)) ggX3_keepJust_J6_bitCount_0f7a4
theorem dX3_keepJust_0 : decode cX3_keepJust 0 = .ok (.iconst 0, 1) := by decide +kernel
theorem dX3_keepJust_1 : decode cX3_keepJust 1 = .ok (.istore_n 2, 1) := by decide +kernel
theorem dX3_keepJust_2 : decode cX3_keepJust 2 = .ok (.iload_n 2, 1) := by decide +kernel
theorem dX3_keepJust_3 : decode cX3_keepJust 3 = .ok (.aload_n 0, 1) := by decide +kernel
theorem dX3_keepJust_4 : decode cX3_keepJust 4 = .ok (.getfield 13, 3) := by decide +kernel
theorem dX3_keepJust_7 : decode cX3_keepJust 7 = .ok (.if_icmp .ge 33, 3) := by decide +kernel
theorem dX3_keepJust_10 : decode cX3_keepJust 10 = .ok (.aload_n 0, 1) := by decide +kernel
theorem dX3_keepJust_11 : decode cX3_keepJust 11 = .ok (.getfield 26, 3) := by decide +kernel
theorem dX3_keepJust_14 : decode cX3_keepJust 14 = .ok (.iload_n 2, 1) := by decide +kernel
theorem dX3_keepJust_15 : decode cX3_keepJust 15 = .ok (.iload_n 1, 1) := by decide +kernel
theorem dX3_keepJust_16 : decode cX3_keepJust 16 = .ok (.iload_n 2, 1) := by decide +kernel
theorem dX3_keepJust_17 : decode cX3_keepJust 17 = .ok (.invokestatic 154, 3) := by decide +kernel
theorem dX3_keepJust_20 : decode cX3_keepJust 20 = .ok (.ifCond .eq 12, 3) := by decide +kernel
theorem dX3_keepJust_23 : decode cX3_keepJust 23 = .ok (.aload_n 0, 1) := by decide +kernel
theorem dX3_keepJust_24 : decode cX3_keepJust 24 = .ok (.getfield 23, 3) := by decide +kernel
theorem dX3_keepJust_27 : decode cX3_keepJust 27 = .ok (.iload_n 2, 1) := by decide +kernel
theorem dX3_keepJust_28 : decode cX3_keepJust 28 = .ok (.iaload, 1) := by decide +kernel
theorem dX3_keepJust_29 : decode cX3_keepJust 29 = .ok (.goto 4, 3) := by decide +kernel
theorem dX3_keepJust_32 : decode cX3_keepJust 32 = .ok (.iconst 0, 1) := by decide +kernel
theorem dX3_keepJust_33 : decode cX3_keepJust 33 = .ok (.iastore, 1) := by decide +kernel
theorem dX3_keepJust_34 : decode cX3_keepJust 34 = .ok (.iinc 2 1, 3) := by decide +kernel
theorem dX3_keepJust_37 : decode cX3_keepJust 37 = .ok (.goto (-35), 3) := by decide +kernel
theorem dX3_keepJust_40 : decode cX3_keepJust 40 = .ok (.iload_n 1, 1) := by decide +kernel
theorem dX3_keepJust_41 : decode cX3_keepJust 41 = .ok (.invokestatic 116, 3) := by decide +kernel
theorem dX3_keepJust_44 : decode cX3_keepJust 44 = .ok (.ireturn, 1) := by decide +kernel
set_option maxRecDepth 20000 in
theorem ggX3_peelForests_J7_fill_53178 : GoodIn wsX3_peelForests wsJ7_fill_53178 := goodIn_r _ [6] (by decide +kernel) (by decide +kernel)
set_option maxRecDepth 20000 in
theorem gX3_peelForests_J7_fill_53178 : GoodIn wsX3_peelForests (va_wsS RX3 158 yJ7_fill_53178 wsJ7_fill_53178) := goodIn_app (goodIn_of _ (by decide +kernel)) ggX3_peelForests_J7_fill_53178
set_option maxRecDepth 20000 in
theorem ggX3_peelForests_X3_peelOne : GoodIn wsX3_peelForests wsX3_peelOne := goodIn_r _ [11, 12, 2, 1, 13, 14, 15, 16, 17, 18, 19, 20, 21, 22, 23, 24, 25, 26, 27, 28, 29, 30, 31, 32, 33, 34, 35, 36, 37] (by decide +kernel) (by decide +kernel)
set_option maxRecDepth 20000 in
theorem gX3_peelForests_X3_peelOne : GoodIn wsX3_peelForests (wsV RX3 164 RX3 yX3_peelOne wsX3_peelOne) := goodIn_app (goodIn_of _ (by decide +kernel)) ggX3_peelForests_X3_peelOne
theorem dX3_peelForests_0 : decode cX3_peelForests 0 = .ok (.aload_n 0, 1) := by decide +kernel
theorem dX3_peelForests_1 : decode cX3_peelForests 1 = .ok (.getfield 29, 3) := by decide +kernel
theorem dX3_peelForests_4 : decode cX3_peelForests 4 = .ok (.iconst 0, 1) := by decide +kernel
theorem dX3_peelForests_5 : decode cX3_peelForests 5 = .ok (.invokestatic 158, 3) := by decide +kernel
theorem dX3_peelForests_8 : decode cX3_peelForests 8 = .ok (.iconst 0, 1) := by decide +kernel
theorem dX3_peelForests_9 : decode cX3_peelForests 9 = .ok (.istore_n 1, 1) := by decide +kernel
theorem dX3_peelForests_10 : decode cX3_peelForests 10 = .ok (.iconst 0, 1) := by decide +kernel
theorem dX3_peelForests_11 : decode cX3_peelForests 11 = .ok (.istore_n 2, 1) := by decide +kernel
theorem dX3_peelForests_12 : decode cX3_peelForests 12 = .ok (.iload_n 1, 1) := by decide +kernel
theorem dX3_peelForests_13 : decode cX3_peelForests 13 = .ok (.aload_n 0, 1) := by decide +kernel
theorem dX3_peelForests_14 : decode cX3_peelForests 14 = .ok (.getfield 13, 3) := by decide +kernel
theorem dX3_peelForests_17 : decode cX3_peelForests 17 = .ok (.if_icmp .ge 23, 3) := by decide +kernel
theorem dX3_peelForests_20 : decode cX3_peelForests 20 = .ok (.iload_n 2, 1) := by decide +kernel
theorem dX3_peelForests_21 : decode cX3_peelForests 21 = .ok (.bipush 12, 2) := by decide +kernel
theorem dX3_peelForests_23 : decode cX3_peelForests 23 = .ok (.if_icmp .ge 17, 3) := by decide +kernel
theorem dX3_peelForests_26 : decode cX3_peelForests 26 = .ok (.iinc 2 1, 3) := by decide +kernel
theorem dX3_peelForests_29 : decode cX3_peelForests 29 = .ok (.iload_n 1, 1) := by decide +kernel
theorem dX3_peelForests_30 : decode cX3_peelForests 30 = .ok (.aload_n 0, 1) := by decide +kernel
theorem dX3_peelForests_31 : decode cX3_peelForests 31 = .ok (.iload_n 2, 1) := by decide +kernel
theorem dX3_peelForests_32 : decode cX3_peelForests 32 = .ok (.invokevirtual 164, 3) := by decide +kernel
theorem dX3_peelForests_35 : decode cX3_peelForests 35 = .ok (.iadd, 1) := by decide +kernel
theorem dX3_peelForests_36 : decode cX3_peelForests 36 = .ok (.istore_n 1, 1) := by decide +kernel
theorem dX3_peelForests_37 : decode cX3_peelForests 37 = .ok (.goto (-25), 3) := by decide +kernel
theorem dX3_peelForests_40 : decode cX3_peelForests 40 = .ok (.iload_n 2, 1) := by decide +kernel
theorem dX3_peelForests_41 : decode cX3_peelForests 41 = .ok (.ireturn, 1) := by decide +kernel
set_option maxRecDepth 20000 in
theorem ggX3_peelOne_X2_clear : GoodIn wsX3_peelOne wsX2_clear := goodIn_r _ [10, 11, 28] (by decide +kernel) (by decide +kernel)
set_option maxRecDepth 20000 in
theorem gX3_peelOne_X2_clear : GoodIn wsX3_peelOne (wsV RX3 167 RX2 yX2_clear wsX2_clear) := goodIn_app (goodIn_of _ (by decide +kernel)) ggX3_peelOne_X2_clear
set_option maxRecDepth 20000 in
theorem ggX3_peelOne_X2_join : GoodIn wsX3_peelOne wsX2_join := goodIn_r _ [15, 11, 28] (by decide +kernel) (by decide +kernel)
set_option maxRecDepth 20000 in
theorem gX3_peelOne_X2_join : GoodIn wsX3_peelOne (wsV RX3 169 RX2 yX2_join wsX2_join) := goodIn_app (goodIn_of _ (by decide +kernel)) ggX3_peelOne_X2_join
theorem dX3_peelOne_0 : decode cX3_peelOne 0 = .ok (.iconst 0, 1) := by decide +kernel
theorem dX3_peelOne_1 : decode cX3_peelOne 1 = .ok (.istore_n 2, 1) := by decide +kernel
theorem dX3_peelOne_2 : decode cX3_peelOne 2 = .ok (.aload_n 0, 1) := by decide +kernel
theorem dX3_peelOne_3 : decode cX3_peelOne 3 = .ok (.getfield 35, 3) := by decide +kernel
theorem dX3_peelOne_6 : decode cX3_peelOne 6 = .ok (.invokevirtual 167, 3) := by decide +kernel
theorem dX3_peelOne_9 : decode cX3_peelOne 9 = .ok (.iconst 0, 1) := by decide +kernel
theorem dX3_peelOne_10 : decode cX3_peelOne 10 = .ok (.istore_n 3, 1) := by decide +kernel
theorem dX3_peelOne_11 : decode cX3_peelOne 11 = .ok (.iload_n 3, 1) := by decide +kernel
theorem dX3_peelOne_12 : decode cX3_peelOne 12 = .ok (.aload_n 0, 1) := by decide +kernel
theorem dX3_peelOne_13 : decode cX3_peelOne 13 = .ok (.getfield 13, 3) := by decide +kernel
theorem dX3_peelOne_16 : decode cX3_peelOne 16 = .ok (.if_icmp .ge 50, 3) := by decide +kernel
theorem dX3_peelOne_19 : decode cX3_peelOne 19 = .ok (.aload_n 0, 1) := by decide +kernel
theorem dX3_peelOne_20 : decode cX3_peelOne 20 = .ok (.getfield 29, 3) := by decide +kernel
theorem dX3_peelOne_23 : decode cX3_peelOne 23 = .ok (.iload_n 3, 1) := by decide +kernel
theorem dX3_peelOne_24 : decode cX3_peelOne 24 = .ok (.iaload, 1) := by decide +kernel
theorem dX3_peelOne_25 : decode cX3_peelOne 25 = .ok (.ifCond .ne 35, 3) := by decide +kernel
theorem dX3_peelOne_28 : decode cX3_peelOne 28 = .ok (.aload_n 0, 1) := by decide +kernel
theorem dX3_peelOne_29 : decode cX3_peelOne 29 = .ok (.getfield 35, 3) := by decide +kernel
theorem dX3_peelOne_32 : decode cX3_peelOne 32 = .ok (.aload_n 0, 1) := by decide +kernel
theorem dX3_peelOne_33 : decode cX3_peelOne 33 = .ok (.getfield 16, 3) := by decide +kernel
theorem dX3_peelOne_36 : decode cX3_peelOne 36 = .ok (.iload_n 3, 1) := by decide +kernel
theorem dX3_peelOne_37 : decode cX3_peelOne 37 = .ok (.iaload, 1) := by decide +kernel
theorem dX3_peelOne_38 : decode cX3_peelOne 38 = .ok (.aload_n 0, 1) := by decide +kernel
theorem dX3_peelOne_39 : decode cX3_peelOne 39 = .ok (.getfield 20, 3) := by decide +kernel
theorem dX3_peelOne_42 : decode cX3_peelOne 42 = .ok (.iload_n 3, 1) := by decide +kernel
theorem dX3_peelOne_43 : decode cX3_peelOne 43 = .ok (.iaload, 1) := by decide +kernel
theorem dX3_peelOne_44 : decode cX3_peelOne 44 = .ok (.invokevirtual 169, 3) := by decide +kernel
theorem dX3_peelOne_47 : decode cX3_peelOne 47 = .ok (.ifCond .eq 13, 3) := by decide +kernel
theorem dX3_peelOne_50 : decode cX3_peelOne 50 = .ok (.aload_n 0, 1) := by decide +kernel
theorem dX3_peelOne_51 : decode cX3_peelOne 51 = .ok (.getfield 29, 3) := by decide +kernel
theorem dX3_peelOne_54 : decode cX3_peelOne 54 = .ok (.iload_n 3, 1) := by decide +kernel
theorem dX3_peelOne_55 : decode cX3_peelOne 55 = .ok (.iload_n 1, 1) := by decide +kernel
theorem dX3_peelOne_56 : decode cX3_peelOne 56 = .ok (.iastore, 1) := by decide +kernel
theorem dX3_peelOne_57 : decode cX3_peelOne 57 = .ok (.iinc 2 1, 3) := by decide +kernel
theorem dX3_peelOne_60 : decode cX3_peelOne 60 = .ok (.iinc 3 1, 3) := by decide +kernel
theorem dX3_peelOne_63 : decode cX3_peelOne 63 = .ok (.goto (-52), 3) := by decide +kernel
theorem dX3_peelOne_66 : decode cX3_peelOne 66 = .ok (.iload_n 2, 1) := by decide +kernel
theorem dX3_peelOne_67 : decode cX3_peelOne 67 = .ok (.ireturn, 1) := by decide +kernel
set_option maxRecDepth 20000 in
theorem ggX3_measure_X0_clear : GoodIn wsX3_measure wsX0_clear := goodIn_r _ [10, 11, 12, 13, 14, 15, 16, 17, 18, 19, 20, 21, 46, 47] (by decide +kernel) (by decide +kernel)
set_option maxRecDepth 20000 in
theorem gX3_measure_X0_clear : GoodIn wsX3_measure (wsV RX3 102 RX0 yX0_clear wsX0_clear) := goodIn_app (goodIn_of _ (by decide +kernel)) ggX3_measure_X0_clear
set_option maxRecDepth 20000 in
theorem ggX3_measure_X3_isIn : GoodIn wsX3_measure wsX3_isIn := goodIn_r _ [25] (by decide +kernel) (by decide +kernel)
set_option maxRecDepth 20000 in
theorem gX3_measure_X3_isIn : GoodIn wsX3_measure (va_wsS RX3 154 yX3_isIn wsX3_isIn) := goodIn_app (goodIn_of _ (by decide +kernel)) ggX3_measure_X3_isIn
set_option maxRecDepth 20000 in
theorem ggX3_measure_X0_add : GoodIn wsX3_measure wsX0_add := goodIn_r _ [29, 15, 16, 11, 12, 13, 14, 30, 31, 32, 9, 33, 46, 47] (by decide +kernel) (by decide +kernel)
set_option maxRecDepth 20000 in
theorem gX3_measure_X0_add : GoodIn wsX3_measure (wsV RX3 109 RX0 yX0_add wsX0_add) := goodIn_app (goodIn_of _ (by decide +kernel)) ggX3_measure_X0_add
theorem dX3_measure_0 : decode cX3_measure 0 = .ok (.aload_n 1, 1) := by decide +kernel
theorem dX3_measure_1 : decode cX3_measure 1 = .ok (.aload_n 0, 1) := by decide +kernel
theorem dX3_measure_2 : decode cX3_measure 2 = .ok (.getfield 9, 3) := by decide +kernel
theorem dX3_measure_5 : decode cX3_measure 5 = .ok (.invokevirtual 102, 3) := by decide +kernel
theorem dX3_measure_8 : decode cX3_measure 8 = .ok (.iconst 0, 1) := by decide +kernel
theorem dX3_measure_9 : decode cX3_measure 9 = .ok (.istore_n 3, 1) := by decide +kernel
theorem dX3_measure_10 : decode cX3_measure 10 = .ok (.iload_n 3, 1) := by decide +kernel
theorem dX3_measure_11 : decode cX3_measure 11 = .ok (.aload_n 0, 1) := by decide +kernel
theorem dX3_measure_12 : decode cX3_measure 12 = .ok (.getfield 13, 3) := by decide +kernel
theorem dX3_measure_15 : decode cX3_measure 15 = .ok (.if_icmp .ge 39, 3) := by decide +kernel
theorem dX3_measure_18 : decode cX3_measure 18 = .ok (.iload_n 2, 1) := by decide +kernel
theorem dX3_measure_19 : decode cX3_measure 19 = .ok (.iload_n 3, 1) := by decide +kernel
theorem dX3_measure_20 : decode cX3_measure 20 = .ok (.invokestatic 154, 3) := by decide +kernel
theorem dX3_measure_23 : decode cX3_measure 23 = .ok (.ifCond .eq 25, 3) := by decide +kernel
theorem dX3_measure_26 : decode cX3_measure 26 = .ok (.aload_n 1, 1) := by decide +kernel
theorem dX3_measure_27 : decode cX3_measure 27 = .ok (.aload_n 0, 1) := by decide +kernel
theorem dX3_measure_28 : decode cX3_measure 28 = .ok (.getfield 16, 3) := by decide +kernel
theorem dX3_measure_31 : decode cX3_measure 31 = .ok (.iload_n 3, 1) := by decide +kernel
theorem dX3_measure_32 : decode cX3_measure 32 = .ok (.iaload, 1) := by decide +kernel
theorem dX3_measure_33 : decode cX3_measure 33 = .ok (.aload_n 0, 1) := by decide +kernel
theorem dX3_measure_34 : decode cX3_measure 34 = .ok (.getfield 20, 3) := by decide +kernel
theorem dX3_measure_37 : decode cX3_measure 37 = .ok (.iload_n 3, 1) := by decide +kernel
theorem dX3_measure_38 : decode cX3_measure 38 = .ok (.iaload, 1) := by decide +kernel
theorem dX3_measure_39 : decode cX3_measure 39 = .ok (.aload_n 0, 1) := by decide +kernel
theorem dX3_measure_40 : decode cX3_measure 40 = .ok (.getfield 23, 3) := by decide +kernel
theorem dX3_measure_43 : decode cX3_measure 43 = .ok (.iload_n 3, 1) := by decide +kernel
theorem dX3_measure_44 : decode cX3_measure 44 = .ok (.iaload, 1) := by decide +kernel
theorem dX3_measure_45 : decode cX3_measure 45 = .ok (.invokevirtual 109, 3) := by decide +kernel
theorem dX3_measure_48 : decode cX3_measure 48 = .ok (.iinc 3 1, 3) := by decide +kernel
theorem dX3_measure_51 : decode cX3_measure 51 = .ok (.goto (-41), 3) := by decide +kernel
theorem dX3_measure_54 : decode cX3_measure 54 = .ok (.return_, 1) := by decide +kernel
set_option maxRecDepth 20000 in
theorem ggX3_measured_X3_linesOf : GoodIn wsX3_measured wsX3_linesOf := goodIn_r _ [7, 8, 9, 10, 11, 6, 12, 13, 14, 49, 50, 51, 52, 53, 54, 55, 56, 57, 58, 59, 60] (by decide +kernel) (by decide +kernel)
set_option maxRecDepth 20000 in
theorem gX3_measured_X3_linesOf : GoodIn wsX3_measured (wsV RX3 145 RX3 yX3_linesOf wsX3_linesOf) := goodIn_app (goodIn_of _ (by decide +kernel)) ggX3_measured_X3_linesOf
set_option maxRecDepth 20000 in
theorem ggX3_measured_X3_measure : GoodIn wsX3_measured wsX3_measure := goodIn_r _ [18, 19, 8, 20, 21, 13, 22, 23, 24, 25, 26, 27, 28, 29, 30, 31, 32, 33, 34, 35, 36, 37, 38, 39, 6, 40, 41, 42, 43, 44, 45, 46, 47, 48, 49, 50, 51, 52, 53, 54, 55, 56, 57, 58, 59, 60, 61, 62] (by decide +kernel) (by decide +kernel)
set_option maxRecDepth 20000 in
theorem gX3_measured_X3_measure : GoodIn wsX3_measured (wsV RX3 172 RX3 yX3_measure wsX3_measure) := goodIn_app (goodIn_of _ (by decide +kernel)) ggX3_measured_X3_measure
theorem dX3_measured_0 : decode cX3_measured 0 = .ok (.iload_n 1, 1) := by decide +kernel
theorem dX3_measured_1 : decode cX3_measured 1 = .ok (.ifCond .ne 10, 3) := by decide +kernel
theorem dX3_measured_4 : decode cX3_measured 4 = .ok (.aload_n 0, 1) := by decide +kernel
theorem dX3_measured_5 : decode cX3_measured 5 = .ok (.getfield 42, 3) := by decide +kernel
theorem dX3_measured_8 : decode cX3_measured 8 = .ok (.goto 7, 3) := by decide +kernel
theorem dX3_measured_11 : decode cX3_measured 11 = .ok (.aload_n 0, 1) := by decide +kernel
theorem dX3_measured_12 : decode cX3_measured 12 = .ok (.getfield 46, 3) := by decide +kernel
theorem dX3_measured_15 : decode cX3_measured 15 = .ok (.astore_n 2, 1) := by decide +kernel
theorem dX3_measured_16 : decode cX3_measured 16 = .ok (.aload_n 0, 1) := by decide +kernel
theorem dX3_measured_17 : decode cX3_measured 17 = .ok (.aload_n 2, 1) := by decide +kernel
theorem dX3_measured_18 : decode cX3_measured 18 = .ok (.aload_n 0, 1) := by decide +kernel
theorem dX3_measured_19 : decode cX3_measured 19 = .ok (.iload_n 1, 1) := by decide +kernel
theorem dX3_measured_20 : decode cX3_measured 20 = .ok (.invokevirtual 145, 3) := by decide +kernel
theorem dX3_measured_23 : decode cX3_measured 23 = .ok (.invokevirtual 172, 3) := by decide +kernel
theorem dX3_measured_26 : decode cX3_measured 26 = .ok (.aload_n 2, 1) := by decide +kernel
theorem dX3_measured_27 : decode cX3_measured 27 = .ok (.areturn, 1) := by decide +kernel
set_option maxRecDepth 20000 in
theorem ggX3_lengthBetweenEnds_X0_between : GoodIn wsX3_lengthBetweenEnds wsX0_between := goodIn_r _ [8, 9, 22, 23] (by decide +kernel) (by decide +kernel)
set_option maxRecDepth 20000 in
theorem gX3_lengthBetweenEnds_X0_between : GoodIn wsX3_lengthBetweenEnds (wsV RX3 125 RX0 yX0_between wsX0_between) := goodIn_app (goodIn_of _ (by decide +kernel)) ggX3_lengthBetweenEnds_X0_between
theorem dX3_lengthBetweenEnds_0 : decode cX3_lengthBetweenEnds 0 = .ok (.aload_n 0, 1) := by decide +kernel
theorem dX3_lengthBetweenEnds_1 : decode cX3_lengthBetweenEnds 1 = .ok (.getfield 46, 3) := by decide +kernel
theorem dX3_lengthBetweenEnds_4 : decode cX3_lengthBetweenEnds 4 = .ok (.aload_n 0, 1) := by decide +kernel
theorem dX3_lengthBetweenEnds_5 : decode cX3_lengthBetweenEnds 5 = .ok (.getfield 16, 3) := by decide +kernel
theorem dX3_lengthBetweenEnds_8 : decode cX3_lengthBetweenEnds 8 = .ok (.iload_n 1, 1) := by decide +kernel
theorem dX3_lengthBetweenEnds_9 : decode cX3_lengthBetweenEnds 9 = .ok (.iaload, 1) := by decide +kernel
theorem dX3_lengthBetweenEnds_10 : decode cX3_lengthBetweenEnds 10 = .ok (.aload_n 0, 1) := by decide +kernel
theorem dX3_lengthBetweenEnds_11 : decode cX3_lengthBetweenEnds 11 = .ok (.getfield 20, 3) := by decide +kernel
theorem dX3_lengthBetweenEnds_14 : decode cX3_lengthBetweenEnds 14 = .ok (.iload_n 1, 1) := by decide +kernel
theorem dX3_lengthBetweenEnds_15 : decode cX3_lengthBetweenEnds 15 = .ok (.iaload, 1) := by decide +kernel
theorem dX3_lengthBetweenEnds_16 : decode cX3_lengthBetweenEnds 16 = .ok (.invokevirtual 125, 3) := by decide +kernel
theorem dX3_lengthBetweenEnds_19 : decode cX3_lengthBetweenEnds 19 = .ok (.ireturn, 1) := by decide +kernel
set_option maxRecDepth 20000 in
theorem ggX3_forgetFewest_J7_fill_53178 : GoodIn wsX3_forgetFewest wsJ7_fill_53178 := goodIn_r _ [5] (by decide +kernel) (by decide +kernel)
set_option maxRecDepth 20000 in
theorem gX3_forgetFewest_J7_fill_53178 : GoodIn wsX3_forgetFewest (va_wsS RX3 158 yJ7_fill_53178 wsJ7_fill_53178) := goodIn_app (goodIn_of _ (by decide +kernel)) ggX3_forgetFewest_J7_fill_53178
theorem dX3_forgetFewest_0 : decode cX3_forgetFewest 0 = .ok (.aload_n 0, 1) := by decide +kernel
theorem dX3_forgetFewest_1 : decode cX3_forgetFewest 1 = .ok (.getfield 56, 3) := by decide +kernel
theorem dX3_forgetFewest_4 : decode cX3_forgetFewest 4 = .ok (.iconst (-1), 1) := by decide +kernel
theorem dX3_forgetFewest_5 : decode cX3_forgetFewest 5 = .ok (.invokestatic 158, 3) := by decide +kernel
theorem dX3_forgetFewest_8 : decode cX3_forgetFewest 8 = .ok (.return_, 1) := by decide +kernel
set_option maxRecDepth 20000 in
theorem ggX3_fewestSet_X3_linesOf : GoodIn wsX3_fewestSet wsX3_linesOf := goodIn_r _ [8, 3, 9, 10, 11, 7, 12, 13, 14, 90, 91, 92, 93, 94, 95, 96, 97, 98, 99, 100, 101] (by decide +kernel) (by decide +kernel)
set_option maxRecDepth 20000 in
theorem gX3_fewestSet_X3_linesOf : GoodIn wsX3_fewestSet (wsV RX3 145 RX3 yX3_linesOf wsX3_linesOf) := goodIn_app (goodIn_of _ (by decide +kernel)) ggX3_fewestSet_X3_linesOf
set_option maxRecDepth 20000 in
theorem ggX3_fewestSet_X3_measure : GoodIn wsX3_fewestSet wsX3_measure := goodIn_r _ [18, 19, 3, 20, 21, 13, 22, 23, 24, 25, 26, 27, 28, 29, 30, 31, 32, 33, 34, 35, 36, 37, 38, 39, 7, 40, 41, 42, 43, 44, 45, 46, 47, 48, 90, 91, 92, 93, 94, 95, 96, 97, 98, 99, 100, 101, 102, 103] (by decide +kernel) (by decide +kernel)
set_option maxRecDepth 20000 in
theorem gX3_fewestSet_X3_measure : GoodIn wsX3_fewestSet (wsV RX3 172 RX3 yX3_measure wsX3_measure) := goodIn_app (goodIn_of _ (by decide +kernel)) ggX3_fewestSet_X3_measure
set_option maxRecDepth 20000 in
theorem ggX3_fewestSet_X3_leastToJoin : GoodIn wsX3_fewestSet wsX3_leastToJoin := goodIn_r _ [52, 53, 54, 35, 36, 37, 55, 56, 57, 7, 58, 59, 3, 20, 21, 60, 61, 62, 63, 64, 65, 66, 67, 68, 69, 90, 91, 92, 93, 94, 95, 96, 97, 98, 99, 100, 101, 104] (by decide +kernel) (by decide +kernel)
set_option maxRecDepth 20000 in
theorem gX3_fewestSet_X3_leastToJoin : GoodIn wsX3_fewestSet (wsV RX3 176 RX3 yX3_leastToJoin wsX3_leastToJoin) := goodIn_app (goodIn_of _ (by decide +kernel)) ggX3_fewestSet_X3_leastToJoin
set_option maxRecDepth 20000 in
theorem ggX3_fewestSet_X3_fewestWithin : GoodIn wsX3_fewestSet wsX3_fewestWithin := goodIn_r _ [72, 73, 74, 29, 75, 76, 77, 78, 79, 80, 81, 82, 83, 84, 85, 7, 86, 87, 19, 2, 88, 15, 16, 17, 18, 3, 20, 21, 13, 22, 23, 24, 25, 26, 27, 28, 30, 31, 32, 33, 34, 35, 36, 37, 38, 39, 40, 41, 42, 43, 44, 45, 46, 47, 48, 89, 70, 71, 90, 91, 92, 93, 94, 95, 96, 97, 98, 99, 100, 101, 102, 103] (by decide +kernel) (by decide +kernel)
set_option maxRecDepth 20000 in
theorem gX3_fewestSet_X3_fewestWithin : GoodIn wsX3_fewestSet (va_wsS RX3 179 yX3_fewestWithin wsX3_fewestWithin) := goodIn_app (goodIn_of _ (by decide +kernel)) ggX3_fewestSet_X3_fewestWithin
theorem dX3_fewestSet_0 : decode cX3_fewestSet 0 = .ok (.aload_n 0, 1) := by decide +kernel
theorem dX3_fewestSet_1 : decode cX3_fewestSet 1 = .ok (.getfield 56, 3) := by decide +kernel
theorem dX3_fewestSet_4 : decode cX3_fewestSet 4 = .ok (.iload_n 1, 1) := by decide +kernel
theorem dX3_fewestSet_5 : decode cX3_fewestSet 5 = .ok (.iaload, 1) := by decide +kernel
theorem dX3_fewestSet_6 : decode cX3_fewestSet 6 = .ok (.iconst (-1), 1) := by decide +kernel
theorem dX3_fewestSet_7 : decode cX3_fewestSet 7 = .ok (.if_icmp .ne 39, 3) := by decide +kernel
theorem dX3_fewestSet_10 : decode cX3_fewestSet 10 = .ok (.aload_n 0, 1) := by decide +kernel
theorem dX3_fewestSet_11 : decode cX3_fewestSet 11 = .ok (.iconst 0, 1) := by decide +kernel
theorem dX3_fewestSet_12 : decode cX3_fewestSet 12 = .ok (.invokevirtual 145, 3) := by decide +kernel
theorem dX3_fewestSet_15 : decode cX3_fewestSet 15 = .ok (.istore_n 2, 1) := by decide +kernel
theorem dX3_fewestSet_16 : decode cX3_fewestSet 16 = .ok (.aload_n 0, 1) := by decide +kernel
theorem dX3_fewestSet_17 : decode cX3_fewestSet 17 = .ok (.aload_n 0, 1) := by decide +kernel
theorem dX3_fewestSet_18 : decode cX3_fewestSet 18 = .ok (.getfield 42, 3) := by decide +kernel
theorem dX3_fewestSet_21 : decode cX3_fewestSet 21 = .ok (.iload_n 2, 1) := by decide +kernel
theorem dX3_fewestSet_22 : decode cX3_fewestSet 22 = .ok (.invokevirtual 172, 3) := by decide +kernel
theorem dX3_fewestSet_25 : decode cX3_fewestSet 25 = .ok (.aload_n 0, 1) := by decide +kernel
theorem dX3_fewestSet_26 : decode cX3_fewestSet 26 = .ok (.getfield 56, 3) := by decide +kernel
theorem dX3_fewestSet_29 : decode cX3_fewestSet 29 = .ok (.iload_n 1, 1) := by decide +kernel
theorem dX3_fewestSet_30 : decode cX3_fewestSet 30 = .ok (.aload_n 0, 1) := by decide +kernel
theorem dX3_fewestSet_31 : decode cX3_fewestSet 31 = .ok (.iload_n 2, 1) := by decide +kernel
theorem dX3_fewestSet_32 : decode cX3_fewestSet 32 = .ok (.aload_n 0, 1) := by decide +kernel
theorem dX3_fewestSet_33 : decode cX3_fewestSet 33 = .ok (.getfield 13, 3) := by decide +kernel
theorem dX3_fewestSet_36 : decode cX3_fewestSet 36 = .ok (.iload_n 1, 1) := by decide +kernel
theorem dX3_fewestSet_37 : decode cX3_fewestSet 37 = .ok (.iload_n 2, 1) := by decide +kernel
theorem dX3_fewestSet_38 : decode cX3_fewestSet 38 = .ok (.aload_n 0, 1) := by decide +kernel
theorem dX3_fewestSet_39 : decode cX3_fewestSet 39 = .ok (.invokevirtual 176, 3) := by decide +kernel
theorem dX3_fewestSet_42 : decode cX3_fewestSet 42 = .ok (.invokestatic 179, 3) := by decide +kernel
theorem dX3_fewestSet_45 : decode cX3_fewestSet 45 = .ok (.iastore, 1) := by decide +kernel
theorem dX3_fewestSet_46 : decode cX3_fewestSet 46 = .ok (.aload_n 0, 1) := by decide +kernel
theorem dX3_fewestSet_47 : decode cX3_fewestSet 47 = .ok (.getfield 56, 3) := by decide +kernel
theorem dX3_fewestSet_50 : decode cX3_fewestSet 50 = .ok (.iload_n 1, 1) := by decide +kernel
theorem dX3_fewestSet_51 : decode cX3_fewestSet 51 = .ok (.iaload, 1) := by decide +kernel
theorem dX3_fewestSet_52 : decode cX3_fewestSet 52 = .ok (.ireturn, 1) := by decide +kernel
set_option maxRecDepth 20000 in
theorem ggX3_leastToJoin_J7_fill_53178 : GoodIn wsX3_leastToJoin wsJ7_fill_53178 := goodIn_r _ [5] (by decide +kernel) (by decide +kernel)
set_option maxRecDepth 20000 in
theorem gX3_leastToJoin_J7_fill_53178 : GoodIn wsX3_leastToJoin (va_wsS RX3 158 yJ7_fill_53178 wsJ7_fill_53178) := goodIn_app (goodIn_of _ (by decide +kernel)) ggX3_leastToJoin_J7_fill_53178
set_option maxRecDepth 20000 in
theorem ggX3_leastToJoin_X3_peelOne : GoodIn wsX3_leastToJoin wsX3_peelOne := goodIn_r _ [10, 11, 12, 1, 13, 14, 15, 16, 17, 18, 19, 20, 21, 22, 23, 24, 25, 26, 27, 28, 29, 30, 31, 32, 33, 34, 35, 36, 37] (by decide +kernel) (by decide +kernel)
set_option maxRecDepth 20000 in
theorem gX3_leastToJoin_X3_peelOne : GoodIn wsX3_leastToJoin (wsV RX3 164 RX3 yX3_peelOne wsX3_peelOne) := goodIn_app (goodIn_of _ (by decide +kernel)) ggX3_leastToJoin_X3_peelOne
theorem dX3_leastToJoin_0 : decode cX3_leastToJoin 0 = .ok (.aload_n 0, 1) := by decide +kernel
theorem dX3_leastToJoin_1 : decode cX3_leastToJoin 1 = .ok (.getfield 29, 3) := by decide +kernel
theorem dX3_leastToJoin_4 : decode cX3_leastToJoin 4 = .ok (.iconst 0, 1) := by decide +kernel
theorem dX3_leastToJoin_5 : decode cX3_leastToJoin 5 = .ok (.invokestatic 158, 3) := by decide +kernel
theorem dX3_leastToJoin_8 : decode cX3_leastToJoin 8 = .ok (.aload_n 0, 1) := by decide +kernel
theorem dX3_leastToJoin_9 : decode cX3_leastToJoin 9 = .ok (.iconst 1, 1) := by decide +kernel
theorem dX3_leastToJoin_10 : decode cX3_leastToJoin 10 = .ok (.invokevirtual 164, 3) := by decide +kernel
theorem dX3_leastToJoin_13 : decode cX3_leastToJoin 13 = .ok (.ireturn, 1) := by decide +kernel
set_option maxRecDepth 20000 in
theorem ggX3_fewestWithin_J6_bitCount_0f7a4 : GoodIn wsX3_fewestWithin wsJ6_bitCount_0f7a4 := goodIn_r _ [8, 9, 10, 11] (by decide +kernel) (by decide +kernel)
set_option maxRecDepth 20000 in
theorem gX3_fewestWithin_J6_bitCount_0f7a4 : GoodIn wsX3_fewestWithin (va_wsS RX3 116 yJ6_bitCount_0f7a4 wsJ6_bitCount_0f7a4) := goodIn_app (goodIn_of _ (by decide +kernel)) ggX3_fewestWithin_J6_bitCount_0f7a4
set_option maxRecDepth 20000 in
theorem ggX3_fewestWithin_X3_isWithinStretch : GoodIn wsX3_fewestWithin wsX3_isWithinStretch := goodIn_r _ [16, 17, 18, 19, 20, 21, 22, 23, 15, 24, 25, 26, 27, 28, 29, 30, 31, 32, 33, 34, 35, 3, 36, 37, 38, 39, 40, 41, 42, 43, 44, 45, 46, 47, 48, 49, 50, 51, 52, 53, 54, 55, 58, 59, 60, 61, 62, 63, 64, 65, 66, 67, 68, 69, 70, 71] (by decide +kernel) (by decide +kernel)
set_option maxRecDepth 20000 in
theorem gX3_fewestWithin_X3_isWithinStretch : GoodIn wsX3_fewestWithin (wsV RX3 183 RX3 yX3_isWithinStretch wsX3_isWithinStretch) := goodIn_app (goodIn_of _ (by decide +kernel)) ggX3_fewestWithin_X3_isWithinStretch
set_option maxRecDepth 20000 in
theorem ggX3_fewestWithin_X3_fewestWithin : GoodIn wsX3_fewestWithin wsX3_fewestWithin := goodIn_r _ [0, 1, 2, 3, 4, 5, 6, 7, 8, 9, 10, 11, 12, 13, 14, 15, 16, 17, 18, 19, 20, 21, 22, 23, 24, 25, 26, 27, 28, 29, 30, 31, 32, 33, 34, 35, 36, 37, 38, 39, 40, 41, 42, 43, 44, 45, 46, 47, 48, 49, 50, 51, 52, 53, 54, 55, 56, 57, 58, 59, 60, 61, 62, 63, 64, 65, 66, 67, 68, 69, 70, 71] (by decide +kernel) (by decide +kernel)
set_option maxRecDepth 20000 in
theorem gX3_fewestWithin_X3_fewestWithin : GoodIn wsX3_fewestWithin (va_wsS RX3 179 yX3_fewestWithin wsX3_fewestWithin) := goodIn_app (goodIn_of _ (by decide +kernel)) ggX3_fewestWithin_X3_fewestWithin
theorem dX3_fewestWithin_0 : decode cX3_fewestWithin 0 = .ok (.iload_n 1, 1) := by decide +kernel
theorem dX3_fewestWithin_1 : decode cX3_fewestWithin 1 = .ok (.iload_n 2, 1) := by decide +kernel
theorem dX3_fewestWithin_2 : decode cX3_fewestWithin 2 = .ok (.ishr, 1) := by decide +kernel
theorem dX3_fewestWithin_3 : decode cX3_fewestWithin 3 = .ok (.invokestatic 116, 3) := by decide +kernel
theorem dX3_fewestWithin_6 : decode cX3_fewestWithin 6 = .ok (.iload 5, 2) := by decide +kernel
theorem dX3_fewestWithin_8 : decode cX3_fewestWithin 8 = .ok (.invokestatic 76, 3) := by decide +kernel
theorem dX3_fewestWithin_11 : decode cX3_fewestWithin 11 = .ok (.istore 6, 2) := by decide +kernel
theorem dX3_fewestWithin_13 : decode cX3_fewestWithin 13 = .ok (.iload 6, 2) := by decide +kernel
theorem dX3_fewestWithin_15 : decode cX3_fewestWithin 15 = .ok (.iload 4, 2) := by decide +kernel
theorem dX3_fewestWithin_17 : decode cX3_fewestWithin 17 = .ok (.invokestatic 116, 3) := by decide +kernel
theorem dX3_fewestWithin_20 : decode cX3_fewestWithin 20 = .ok (.if_icmp .lt 6, 3) := by decide +kernel
theorem dX3_fewestWithin_23 : decode cX3_fewestWithin 23 = .ok (.iload 4, 2) := by decide +kernel
theorem dX3_fewestWithin_25 : decode cX3_fewestWithin 25 = .ok (.ireturn, 1) := by decide +kernel
theorem dX3_fewestWithin_26 : decode cX3_fewestWithin 26 = .ok (.iload_n 2, 1) := by decide +kernel
theorem dX3_fewestWithin_27 : decode cX3_fewestWithin 27 = .ok (.ifCond .gt 5, 3) := by decide +kernel
theorem dX3_fewestWithin_30 : decode cX3_fewestWithin 30 = .ok (.iload_n 1, 1) := by decide +kernel
theorem dX3_fewestWithin_31 : decode cX3_fewestWithin 31 = .ok (.ireturn, 1) := by decide +kernel
theorem dX3_fewestWithin_32 : decode cX3_fewestWithin 32 = .ok (.iload_n 2, 1) := by decide +kernel
theorem dX3_fewestWithin_33 : decode cX3_fewestWithin 33 = .ok (.iconst 1, 1) := by decide +kernel
theorem dX3_fewestWithin_34 : decode cX3_fewestWithin 34 = .ok (.isub, 1) := by decide +kernel
theorem dX3_fewestWithin_35 : decode cX3_fewestWithin 35 = .ok (.istore 7, 2) := by decide +kernel
theorem dX3_fewestWithin_37 : decode cX3_fewestWithin 37 = .ok (.iload_n 1, 1) := by decide +kernel
theorem dX3_fewestWithin_38 : decode cX3_fewestWithin 38 = .ok (.iconst 1, 1) := by decide +kernel
theorem dX3_fewestWithin_39 : decode cX3_fewestWithin 39 = .ok (.iload 7, 2) := by decide +kernel
theorem dX3_fewestWithin_41 : decode cX3_fewestWithin 41 = .ok (.ishl, 1) := by decide +kernel
theorem dX3_fewestWithin_42 : decode cX3_fewestWithin 42 = .ok (.iconst (-1), 1) := by decide +kernel
theorem dX3_fewestWithin_43 : decode cX3_fewestWithin 43 = .ok (.ixor, 1) := by decide +kernel
theorem dX3_fewestWithin_44 : decode cX3_fewestWithin 44 = .ok (.iand, 1) := by decide +kernel
theorem dX3_fewestWithin_45 : decode cX3_fewestWithin 45 = .ok (.istore 8, 2) := by decide +kernel
theorem dX3_fewestWithin_47 : decode cX3_fewestWithin 47 = .ok (.iload 4, 2) := by decide +kernel
theorem dX3_fewestWithin_49 : decode cX3_fewestWithin 49 = .ok (.istore 9, 2) := by decide +kernel
theorem dX3_fewestWithin_51 : decode cX3_fewestWithin 51 = .ok (.aload_n 0, 1) := by decide +kernel
theorem dX3_fewestWithin_52 : decode cX3_fewestWithin 52 = .ok (.iload 8, 2) := by decide +kernel
theorem dX3_fewestWithin_54 : decode cX3_fewestWithin 54 = .ok (.iload_n 3, 1) := by decide +kernel
theorem dX3_fewestWithin_55 : decode cX3_fewestWithin 55 = .ok (.invokevirtual 183, 3) := by decide +kernel
theorem dX3_fewestWithin_58 : decode cX3_fewestWithin 58 = .ok (.ifCond .eq 18, 3) := by decide +kernel
theorem dX3_fewestWithin_61 : decode cX3_fewestWithin 61 = .ok (.aload_n 0, 1) := by decide +kernel
theorem dX3_fewestWithin_62 : decode cX3_fewestWithin 62 = .ok (.iload 8, 2) := by decide +kernel
theorem dX3_fewestWithin_64 : decode cX3_fewestWithin 64 = .ok (.iload 7, 2) := by decide +kernel
theorem dX3_fewestWithin_66 : decode cX3_fewestWithin 66 = .ok (.iload_n 3, 1) := by decide +kernel
theorem dX3_fewestWithin_67 : decode cX3_fewestWithin 67 = .ok (.iload 9, 2) := by decide +kernel
theorem dX3_fewestWithin_69 : decode cX3_fewestWithin 69 = .ok (.iload 5, 2) := by decide +kernel
theorem dX3_fewestWithin_71 : decode cX3_fewestWithin 71 = .ok (.invokestatic 179, 3) := by decide +kernel
theorem dX3_fewestWithin_74 : decode cX3_fewestWithin 74 = .ok (.istore 9, 2) := by decide +kernel
theorem dX3_fewestWithin_76 : decode cX3_fewestWithin 76 = .ok (.aload_n 0, 1) := by decide +kernel
theorem dX3_fewestWithin_77 : decode cX3_fewestWithin 77 = .ok (.iload_n 1, 1) := by decide +kernel
theorem dX3_fewestWithin_78 : decode cX3_fewestWithin 78 = .ok (.iload 7, 2) := by decide +kernel
theorem dX3_fewestWithin_80 : decode cX3_fewestWithin 80 = .ok (.iload_n 3, 1) := by decide +kernel
theorem dX3_fewestWithin_81 : decode cX3_fewestWithin 81 = .ok (.iload 9, 2) := by decide +kernel
theorem dX3_fewestWithin_83 : decode cX3_fewestWithin 83 = .ok (.iload 5, 2) := by decide +kernel
theorem dX3_fewestWithin_85 : decode cX3_fewestWithin 85 = .ok (.invokestatic 179, 3) := by decide +kernel
theorem dX3_fewestWithin_88 : decode cX3_fewestWithin 88 = .ok (.ireturn, 1) := by decide +kernel
set_option maxRecDepth 20000 in
theorem ggX3_isWithinStretch_X3_measure : GoodIn wsX3_isWithinStretch wsX3_measure := goodIn_r _ [9, 2, 10, 11, 12, 13, 14, 15, 16, 17, 18, 19, 20, 21, 22, 23, 24, 25, 26, 27, 28, 29, 30, 31, 8, 32, 33, 34, 35, 36, 37, 38, 39, 40, 42, 43, 44, 45, 46, 47, 48, 49, 50, 51, 52, 53, 54, 55] (by decide +kernel) (by decide +kernel)
set_option maxRecDepth 20000 in
theorem gX3_isWithinStretch_X3_measure : GoodIn wsX3_isWithinStretch (wsV RX3 172 RX3 yX3_measure wsX3_measure) := goodIn_app (goodIn_of _ (by decide +kernel)) ggX3_isWithinStretch_X3_measure
set_option maxRecDepth 20000 in
theorem ggX3_isWithinStretch_X0_between : GoodIn wsX3_isWithinStretch wsX0_between := goodIn_r _ [40, 24, 54, 55] (by decide +kernel) (by decide +kernel)
set_option maxRecDepth 20000 in
theorem gX3_isWithinStretch_X0_between : GoodIn wsX3_isWithinStretch (wsV RX3 125 RX0 yX0_between wsX0_between) := goodIn_app (goodIn_of _ (by decide +kernel)) ggX3_isWithinStretch_X0_between
theorem dX3_isWithinStretch_0 : decode cX3_isWithinStretch 0 = .ok (.aload_n 0, 1) := by decide +kernel
theorem dX3_isWithinStretch_1 : decode cX3_isWithinStretch 1 = .ok (.aload_n 0, 1) := by decide +kernel
theorem dX3_isWithinStretch_2 : decode cX3_isWithinStretch 2 = .ok (.getfield 46, 3) := by decide +kernel
theorem dX3_isWithinStretch_5 : decode cX3_isWithinStretch 5 = .ok (.iload_n 1, 1) := by decide +kernel
theorem dX3_isWithinStretch_6 : decode cX3_isWithinStretch 6 = .ok (.invokevirtual 172, 3) := by decide +kernel
theorem dX3_isWithinStretch_9 : decode cX3_isWithinStretch 9 = .ok (.iconst 0, 1) := by decide +kernel
theorem dX3_isWithinStretch_10 : decode cX3_isWithinStretch 10 = .ok (.istore_n 3, 1) := by decide +kernel
theorem dX3_isWithinStretch_11 : decode cX3_isWithinStretch 11 = .ok (.iload_n 3, 1) := by decide +kernel
theorem dX3_isWithinStretch_12 : decode cX3_isWithinStretch 12 = .ok (.aload_n 0, 1) := by decide +kernel
theorem dX3_isWithinStretch_13 : decode cX3_isWithinStretch 13 = .ok (.getfield 9, 3) := by decide +kernel
theorem dX3_isWithinStretch_16 : decode cX3_isWithinStretch 16 = .ok (.if_icmp .ge 67, 3) := by decide +kernel
theorem dX3_isWithinStretch_19 : decode cX3_isWithinStretch 19 = .ok (.iload_n 3, 1) := by decide +kernel
theorem dX3_isWithinStretch_20 : decode cX3_isWithinStretch 20 = .ok (.iconst 1, 1) := by decide +kernel
theorem dX3_isWithinStretch_21 : decode cX3_isWithinStretch 21 = .ok (.iadd, 1) := by decide +kernel
theorem dX3_isWithinStretch_22 : decode cX3_isWithinStretch 22 = .ok (.istore 4, 2) := by decide +kernel
theorem dX3_isWithinStretch_24 : decode cX3_isWithinStretch 24 = .ok (.iload 4, 2) := by decide +kernel
theorem dX3_isWithinStretch_26 : decode cX3_isWithinStretch 26 = .ok (.aload_n 0, 1) := by decide +kernel
theorem dX3_isWithinStretch_27 : decode cX3_isWithinStretch 27 = .ok (.getfield 9, 3) := by decide +kernel
theorem dX3_isWithinStretch_30 : decode cX3_isWithinStretch 30 = .ok (.if_icmp .ge 47, 3) := by decide +kernel
theorem dX3_isWithinStretch_33 : decode cX3_isWithinStretch 33 = .ok (.aload_n 0, 1) := by decide +kernel
theorem dX3_isWithinStretch_34 : decode cX3_isWithinStretch 34 = .ok (.getfield 42, 3) := by decide +kernel
theorem dX3_isWithinStretch_37 : decode cX3_isWithinStretch 37 = .ok (.iload_n 3, 1) := by decide +kernel
theorem dX3_isWithinStretch_38 : decode cX3_isWithinStretch 38 = .ok (.iload 4, 2) := by decide +kernel
theorem dX3_isWithinStretch_40 : decode cX3_isWithinStretch 40 = .ok (.invokevirtual 125, 3) := by decide +kernel
theorem dX3_isWithinStretch_43 : decode cX3_isWithinStretch 43 = .ok (.istore 5, 2) := by decide +kernel
theorem dX3_isWithinStretch_45 : decode cX3_isWithinStretch 45 = .ok (.iload 5, 2) := by decide +kernel
theorem dX3_isWithinStretch_47 : decode cX3_isWithinStretch 47 = .ok (.ldc 128, 2) := by decide +kernel
theorem dX3_isWithinStretch_49 : decode cX3_isWithinStretch 49 = .ok (.if_icmp .ge 22, 3) := by decide +kernel
theorem dX3_isWithinStretch_52 : decode cX3_isWithinStretch 52 = .ok (.aload_n 0, 1) := by decide +kernel
theorem dX3_isWithinStretch_53 : decode cX3_isWithinStretch 53 = .ok (.getfield 46, 3) := by decide +kernel
theorem dX3_isWithinStretch_56 : decode cX3_isWithinStretch 56 = .ok (.iload_n 3, 1) := by decide +kernel
theorem dX3_isWithinStretch_57 : decode cX3_isWithinStretch 57 = .ok (.iload 4, 2) := by decide +kernel
theorem dX3_isWithinStretch_59 : decode cX3_isWithinStretch 59 = .ok (.invokevirtual 125, 3) := by decide +kernel
theorem dX3_isWithinStretch_62 : decode cX3_isWithinStretch 62 = .ok (.iload_n 2, 1) := by decide +kernel
theorem dX3_isWithinStretch_63 : decode cX3_isWithinStretch 63 = .ok (.iload 5, 2) := by decide +kernel
theorem dX3_isWithinStretch_65 : decode cX3_isWithinStretch 65 = .ok (.imul, 1) := by decide +kernel
theorem dX3_isWithinStretch_66 : decode cX3_isWithinStretch 66 = .ok (.if_icmp .le 5, 3) := by decide +kernel
theorem dX3_isWithinStretch_69 : decode cX3_isWithinStretch 69 = .ok (.iconst 0, 1) := by decide +kernel
theorem dX3_isWithinStretch_70 : decode cX3_isWithinStretch 70 = .ok (.ireturn, 1) := by decide +kernel
theorem dX3_isWithinStretch_71 : decode cX3_isWithinStretch 71 = .ok (.iinc 4 1, 3) := by decide +kernel
theorem dX3_isWithinStretch_74 : decode cX3_isWithinStretch 74 = .ok (.goto (-50), 3) := by decide +kernel
theorem dX3_isWithinStretch_77 : decode cX3_isWithinStretch 77 = .ok (.iinc 3 1, 3) := by decide +kernel
theorem dX3_isWithinStretch_80 : decode cX3_isWithinStretch 80 = .ok (.goto (-69), 3) := by decide +kernel
theorem dX3_isWithinStretch_83 : decode cX3_isWithinStretch 83 = .ok (.iconst 1, 1) := by decide +kernel
theorem dX3_isWithinStretch_84 : decode cX3_isWithinStretch 84 = .ok (.ireturn, 1) := by decide +kernel
set_option maxRecDepth 20000 in
theorem ggX3_treeProducts_X3_fillMinors : GoodIn wsX3_treeProducts wsX3_fillMinors := goodIn_r _ [6, 1, 7, 8, 9, 10, 11, 12, 13, 14, 15, 16, 17, 18, 19, 20, 21, 22, 23, 24, 25, 26, 27, 28, 5, 29, 30, 31, 32, 33, 34, 35, 59, 60, 61, 62, 63, 64, 65, 66, 67, 68, 69, 70, 71, 72, 73, 74] (by decide +kernel) (by decide +kernel)
set_option maxRecDepth 20000 in
theorem gX3_treeProducts_X3_fillMinors : GoodIn wsX3_treeProducts (wsV RX3 186 RX3 yX3_fillMinors wsX3_fillMinors) := goodIn_app (goodIn_of _ (by decide +kernel)) ggX3_treeProducts_X3_fillMinors
set_option maxRecDepth 20000 in
theorem ggX3_treeProducts_X1_without : GoodIn wsX3_treeProducts wsX1_without := goodIn_r _ [39, 40, 41, 42, 43, 14, 44, 20, 45, 46, 5, 47, 48, 49, 50, 51, 21, 52, 53, 54, 55, 56, 57, 58, 71, 72, 73, 74] (by decide +kernel) (by decide +kernel)
set_option maxRecDepth 20000 in
theorem gX3_treeProducts_X1_without : GoodIn wsX3_treeProducts (wsV RX3 189 RX1 yX1_without wsX1_without) := goodIn_app (goodIn_of _ (by decide +kernel)) ggX3_treeProducts_X1_without
theorem dX3_treeProducts_0 : decode cX3_treeProducts 0 = .ok (.aload_n 0, 1) := by decide +kernel
theorem dX3_treeProducts_1 : decode cX3_treeProducts 1 = .ok (.iload_n 1, 1) := by decide +kernel
theorem dX3_treeProducts_2 : decode cX3_treeProducts 2 = .ok (.invokevirtual 186, 3) := by decide +kernel
theorem dX3_treeProducts_5 : decode cX3_treeProducts 5 = .ok (.aload_n 0, 1) := by decide +kernel
theorem dX3_treeProducts_6 : decode cX3_treeProducts 6 = .ok (.getfield 52, 3) := by decide +kernel
theorem dX3_treeProducts_9 : decode cX3_treeProducts 9 = .ok (.iconst 1, 1) := by decide +kernel
theorem dX3_treeProducts_10 : decode cX3_treeProducts 10 = .ok (.invokevirtual 189, 3) := by decide +kernel
theorem dX3_treeProducts_13 : decode cX3_treeProducts 13 = .ok (.lreturn, 1) := by decide +kernel
set_option maxRecDepth 20000 in
theorem ggX3_partingProducts_X3_fillMinors : GoodIn wsX3_partingProducts wsX3_fillMinors := goodIn_r _ [6, 1, 7, 8, 9, 10, 11, 12, 13, 14, 15, 16, 17, 18, 19, 20, 21, 22, 23, 24, 25, 26, 27, 28, 5, 29, 30, 31, 32, 33, 34, 35, 59, 60, 61, 62, 63, 64, 65, 66, 67, 68, 69, 70, 71, 72, 73, 74] (by decide +kernel) (by decide +kernel)
set_option maxRecDepth 20000 in
theorem gX3_partingProducts_X3_fillMinors : GoodIn wsX3_partingProducts (wsV RX3 186 RX3 yX3_fillMinors wsX3_fillMinors) := goodIn_app (goodIn_of _ (by decide +kernel)) ggX3_partingProducts_X3_fillMinors
set_option maxRecDepth 20000 in
theorem ggX3_partingProducts_X1_without : GoodIn wsX3_partingProducts wsX1_without := goodIn_r _ [39, 40, 41, 42, 43, 14, 44, 20, 45, 46, 5, 47, 48, 49, 50, 51, 21, 52, 53, 54, 55, 56, 57, 58, 71, 72, 73, 74] (by decide +kernel) (by decide +kernel)
set_option maxRecDepth 20000 in
theorem gX3_partingProducts_X1_without : GoodIn wsX3_partingProducts (wsV RX3 189 RX1 yX1_without wsX1_without) := goodIn_app (goodIn_of _ (by decide +kernel)) ggX3_partingProducts_X1_without
theorem dX3_partingProducts_0 : decode cX3_partingProducts 0 = .ok (.aload_n 0, 1) := by decide +kernel
theorem dX3_partingProducts_1 : decode cX3_partingProducts 1 = .ok (.iload_n 3, 1) := by decide +kernel
theorem dX3_partingProducts_2 : decode cX3_partingProducts 2 = .ok (.invokevirtual 186, 3) := by decide +kernel
theorem dX3_partingProducts_5 : decode cX3_partingProducts 5 = .ok (.aload_n 0, 1) := by decide +kernel
theorem dX3_partingProducts_6 : decode cX3_partingProducts 6 = .ok (.getfield 52, 3) := by decide +kernel
theorem dX3_partingProducts_9 : decode cX3_partingProducts 9 = .ok (.iconst 1, 1) := by decide +kernel
theorem dX3_partingProducts_10 : decode cX3_partingProducts 10 = .ok (.iload_n 1, 1) := by decide +kernel
theorem dX3_partingProducts_11 : decode cX3_partingProducts 11 = .ok (.ishl, 1) := by decide +kernel
theorem dX3_partingProducts_12 : decode cX3_partingProducts 12 = .ok (.iconst 1, 1) := by decide +kernel
theorem dX3_partingProducts_13 : decode cX3_partingProducts 13 = .ok (.iload_n 2, 1) := by decide +kernel
theorem dX3_partingProducts_14 : decode cX3_partingProducts 14 = .ok (.ishl, 1) := by decide +kernel
theorem dX3_partingProducts_15 : decode cX3_partingProducts 15 = .ok (.ior, 1) := by decide +kernel
theorem dX3_partingProducts_16 : decode cX3_partingProducts 16 = .ok (.invokevirtual 189, 3) := by decide +kernel
theorem dX3_partingProducts_19 : decode cX3_partingProducts 19 = .ok (.lreturn, 1) := by decide +kernel
set_option maxRecDepth 20000 in
theorem ggX3_fillMinors_X1_clear : GoodIn wsX3_fillMinors wsX1_clear := goodIn_r _ [10, 11, 12, 13, 14, 15, 16, 17, 18, 19, 20, 44, 45, 46, 47] (by decide +kernel) (by decide +kernel)
set_option maxRecDepth 20000 in
theorem gX3_fillMinors_X1_clear : GoodIn wsX3_fillMinors (wsV RX3 192 RX1 yX1_clear wsX1_clear) := goodIn_app (goodIn_of _ (by decide +kernel)) ggX3_fillMinors_X1_clear
set_option maxRecDepth 20000 in
theorem ggX3_fillMinors_X3_weightIn : GoodIn wsX3_fillMinors wsX3_weightIn := goodIn_r _ [25, 26, 27, 32, 33, 34, 35, 36, 37, 38, 39, 40, 41, 42, 43] (by decide +kernel) (by decide +kernel)
set_option maxRecDepth 20000 in
theorem gX3_fillMinors_X3_weightIn : GoodIn wsX3_fillMinors (wsV RX3 151 RX3 yX3_weightIn wsX3_weightIn) := goodIn_app (goodIn_of _ (by decide +kernel)) ggX3_fillMinors_X3_weightIn
set_option maxRecDepth 20000 in
theorem ggX3_fillMinors_X1_add : GoodIn wsX3_fillMinors wsX1_add := goodIn_r _ [31, 16, 44, 45, 46, 47] (by decide +kernel) (by decide +kernel)
set_option maxRecDepth 20000 in
theorem gX3_fillMinors_X1_add : GoodIn wsX3_fillMinors (wsV RX3 193 RX1 yX1_add wsX1_add) := goodIn_app (goodIn_of _ (by decide +kernel)) ggX3_fillMinors_X1_add
theorem dX3_fillMinors_0 : decode cX3_fillMinors 0 = .ok (.aload_n 0, 1) := by decide +kernel
theorem dX3_fillMinors_1 : decode cX3_fillMinors 1 = .ok (.getfield 52, 3) := by decide +kernel
theorem dX3_fillMinors_4 : decode cX3_fillMinors 4 = .ok (.aload_n 0, 1) := by decide +kernel
theorem dX3_fillMinors_5 : decode cX3_fillMinors 5 = .ok (.getfield 9, 3) := by decide +kernel
theorem dX3_fillMinors_8 : decode cX3_fillMinors 8 = .ok (.invokevirtual 192, 3) := by decide +kernel
theorem dX3_fillMinors_11 : decode cX3_fillMinors 11 = .ok (.iconst 0, 1) := by decide +kernel
theorem dX3_fillMinors_12 : decode cX3_fillMinors 12 = .ok (.istore_n 2, 1) := by decide +kernel
theorem dX3_fillMinors_13 : decode cX3_fillMinors 13 = .ok (.iload_n 2, 1) := by decide +kernel
theorem dX3_fillMinors_14 : decode cX3_fillMinors 14 = .ok (.aload_n 0, 1) := by decide +kernel
theorem dX3_fillMinors_15 : decode cX3_fillMinors 15 = .ok (.getfield 13, 3) := by decide +kernel
theorem dX3_fillMinors_18 : decode cX3_fillMinors 18 = .ok (.if_icmp .ge 34, 3) := by decide +kernel
theorem dX3_fillMinors_21 : decode cX3_fillMinors 21 = .ok (.aload_n 0, 1) := by decide +kernel
theorem dX3_fillMinors_22 : decode cX3_fillMinors 22 = .ok (.getfield 52, 3) := by decide +kernel
theorem dX3_fillMinors_25 : decode cX3_fillMinors 25 = .ok (.aload_n 0, 1) := by decide +kernel
theorem dX3_fillMinors_26 : decode cX3_fillMinors 26 = .ok (.getfield 16, 3) := by decide +kernel
theorem dX3_fillMinors_29 : decode cX3_fillMinors 29 = .ok (.iload_n 2, 1) := by decide +kernel
theorem dX3_fillMinors_30 : decode cX3_fillMinors 30 = .ok (.iaload, 1) := by decide +kernel
theorem dX3_fillMinors_31 : decode cX3_fillMinors 31 = .ok (.aload_n 0, 1) := by decide +kernel
theorem dX3_fillMinors_32 : decode cX3_fillMinors 32 = .ok (.getfield 20, 3) := by decide +kernel
theorem dX3_fillMinors_35 : decode cX3_fillMinors 35 = .ok (.iload_n 2, 1) := by decide +kernel
theorem dX3_fillMinors_36 : decode cX3_fillMinors 36 = .ok (.iaload, 1) := by decide +kernel
theorem dX3_fillMinors_37 : decode cX3_fillMinors 37 = .ok (.aload_n 0, 1) := by decide +kernel
theorem dX3_fillMinors_38 : decode cX3_fillMinors 38 = .ok (.iload_n 2, 1) := by decide +kernel
theorem dX3_fillMinors_39 : decode cX3_fillMinors 39 = .ok (.iload_n 1, 1) := by decide +kernel
theorem dX3_fillMinors_40 : decode cX3_fillMinors 40 = .ok (.invokevirtual 151, 3) := by decide +kernel
theorem dX3_fillMinors_43 : decode cX3_fillMinors 43 = .ok (.invokevirtual 193, 3) := by decide +kernel
theorem dX3_fillMinors_46 : decode cX3_fillMinors 46 = .ok (.iinc 2 1, 3) := by decide +kernel
theorem dX3_fillMinors_49 : decode cX3_fillMinors 49 = .ok (.goto (-36), 3) := by decide +kernel
theorem dX3_fillMinors_52 : decode cX3_fillMinors 52 = .ok (.return_, 1) := by decide +kernel
set_option maxRecDepth 20000 in
theorem ggX3_inLowestTerms_X3_commonDivisor : GoodIn wsX3_inLowestTerms wsX3_commonDivisor := goodIn_r _ [5] (by decide +kernel) (by decide +kernel)
set_option maxRecDepth 20000 in
theorem gX3_inLowestTerms_X3_commonDivisor : GoodIn wsX3_inLowestTerms (va_wsS RX3 194 yX3_commonDivisor wsX3_commonDivisor) := goodIn_app (goodIn_of _ (by decide +kernel)) ggX3_inLowestTerms_X3_commonDivisor
theorem dX3_inLowestTerms_0 : decode cX3_inLowestTerms 0 = .ok (.lload_n 0, 1) := by decide +kernel
theorem dX3_inLowestTerms_1 : decode cX3_inLowestTerms 1 = .ok (.lload_n 2, 1) := by decide +kernel
theorem dX3_inLowestTerms_2 : decode cX3_inLowestTerms 2 = .ok (.invokestatic 194, 3) := by decide +kernel
theorem dX3_inLowestTerms_5 : decode cX3_inLowestTerms 5 = .ok (.lstore 5, 2) := by decide +kernel
theorem dX3_inLowestTerms_7 : decode cX3_inLowestTerms 7 = .ok (.lload_n 2, 1) := by decide +kernel
theorem dX3_inLowestTerms_8 : decode cX3_inLowestTerms 8 = .ok (.lconst 0, 1) := by decide +kernel
theorem dX3_inLowestTerms_9 : decode cX3_inLowestTerms 9 = .ok (.lcmp, 1) := by decide +kernel
theorem dX3_inLowestTerms_10 : decode cX3_inLowestTerms 10 = .ok (.ifCond .eq 10, 3) := by decide +kernel
theorem dX3_inLowestTerms_13 : decode cX3_inLowestTerms 13 = .ok (.lload 5, 2) := by decide +kernel
theorem dX3_inLowestTerms_15 : decode cX3_inLowestTerms 15 = .ok (.lconst 0, 1) := by decide +kernel
theorem dX3_inLowestTerms_16 : decode cX3_inLowestTerms 16 = .ok (.lcmp, 1) := by decide +kernel
theorem dX3_inLowestTerms_17 : decode cX3_inLowestTerms 17 = .ok (.ifCond .ne 7, 3) := by decide +kernel
theorem dX3_inLowestTerms_20 : decode cX3_inLowestTerms 20 = .ok (.ldc2_w 198, 3) := by decide +kernel
theorem dX3_inLowestTerms_23 : decode cX3_inLowestTerms 23 = .ok (.lreturn, 1) := by decide +kernel
theorem dX3_inLowestTerms_24 : decode cX3_inLowestTerms 24 = .ok (.iload 4, 2) := by decide +kernel
theorem dX3_inLowestTerms_26 : decode cX3_inLowestTerms 26 = .ok (.ifCond .ne 7, 3) := by decide +kernel
theorem dX3_inLowestTerms_29 : decode cX3_inLowestTerms 29 = .ok (.lload_n 0, 1) := by decide +kernel
theorem dX3_inLowestTerms_30 : decode cX3_inLowestTerms 30 = .ok (.goto 4, 3) := by decide +kernel
theorem dX3_inLowestTerms_33 : decode cX3_inLowestTerms 33 = .ok (.lload_n 2, 1) := by decide +kernel
theorem dX3_inLowestTerms_34 : decode cX3_inLowestTerms 34 = .ok (.lload 5, 2) := by decide +kernel
theorem dX3_inLowestTerms_36 : decode cX3_inLowestTerms 36 = .ok (.ldiv, 1) := by decide +kernel
theorem dX3_inLowestTerms_37 : decode cX3_inLowestTerms 37 = .ok (.lreturn, 1) := by decide +kernel
theorem dX3_commonDivisor_0 : decode cX3_commonDivisor 0 = .ok (.lload_n 0, 1) := by decide +kernel
theorem dX3_commonDivisor_1 : decode cX3_commonDivisor 1 = .ok (.lstore 4, 2) := by decide +kernel
theorem dX3_commonDivisor_3 : decode cX3_commonDivisor 3 = .ok (.lload_n 2, 1) := by decide +kernel
theorem dX3_commonDivisor_4 : decode cX3_commonDivisor 4 = .ok (.lstore 6, 2) := by decide +kernel
theorem dX3_commonDivisor_6 : decode cX3_commonDivisor 6 = .ok (.iconst 0, 1) := by decide +kernel
theorem dX3_commonDivisor_7 : decode cX3_commonDivisor 7 = .ok (.istore 8, 2) := by decide +kernel
theorem dX3_commonDivisor_9 : decode cX3_commonDivisor 9 = .ok (.iload 8, 2) := by decide +kernel
theorem dX3_commonDivisor_11 : decode cX3_commonDivisor 11 = .ok (.bipush 100, 2) := by decide +kernel
theorem dX3_commonDivisor_13 : decode cX3_commonDivisor 13 = .ok (.if_icmp .ge 31, 3) := by decide +kernel
theorem dX3_commonDivisor_16 : decode cX3_commonDivisor 16 = .ok (.lload 6, 2) := by decide +kernel
theorem dX3_commonDivisor_18 : decode cX3_commonDivisor 18 = .ok (.lconst 0, 1) := by decide +kernel
theorem dX3_commonDivisor_19 : decode cX3_commonDivisor 19 = .ok (.lcmp, 1) := by decide +kernel
theorem dX3_commonDivisor_20 : decode cX3_commonDivisor 20 = .ok (.ifCond .eq 24, 3) := by decide +kernel
theorem dX3_commonDivisor_23 : decode cX3_commonDivisor 23 = .ok (.lload 4, 2) := by decide +kernel
theorem dX3_commonDivisor_25 : decode cX3_commonDivisor 25 = .ok (.lload 6, 2) := by decide +kernel
theorem dX3_commonDivisor_27 : decode cX3_commonDivisor 27 = .ok (.lrem, 1) := by decide +kernel
theorem dX3_commonDivisor_28 : decode cX3_commonDivisor 28 = .ok (.lstore 9, 2) := by decide +kernel
theorem dX3_commonDivisor_30 : decode cX3_commonDivisor 30 = .ok (.lload 6, 2) := by decide +kernel
theorem dX3_commonDivisor_32 : decode cX3_commonDivisor 32 = .ok (.lstore 4, 2) := by decide +kernel
theorem dX3_commonDivisor_34 : decode cX3_commonDivisor 34 = .ok (.lload 9, 2) := by decide +kernel
theorem dX3_commonDivisor_36 : decode cX3_commonDivisor 36 = .ok (.lstore 6, 2) := by decide +kernel
theorem dX3_commonDivisor_38 : decode cX3_commonDivisor 38 = .ok (.iinc 8 1, 3) := by decide +kernel
theorem dX3_commonDivisor_41 : decode cX3_commonDivisor 41 = .ok (.goto (-32), 3) := by decide +kernel
theorem dX3_commonDivisor_44 : decode cX3_commonDivisor 44 = .ok (.lload 4, 2) := by decide +kernel
theorem dX3_commonDivisor_46 : decode cX3_commonDivisor 46 = .ok (.lreturn, 1) := by decide +kernel
end
section
theorem dX4_init_0 : decode cX4_init 0 = .ok (.aload_n 0, 1) := by decide +kernel
theorem dX4_init_1 : decode cX4_init 1 = .ok (.invokespecial 1, 3) := by decide +kernel
theorem dX4_init_4 : decode cX4_init 4 = .ok (.aload_n 0, 1) := by decide +kernel
theorem dX4_init_5 : decode cX4_init 5 = .ok (.iconst 4, 1) := by decide +kernel
theorem dX4_init_6 : decode cX4_init 6 = .ok (.putfield 7, 3) := by decide +kernel
theorem dX4_init_9 : decode cX4_init 9 = .ok (.aload_n 0, 1) := by decide +kernel
theorem dX4_init_10 : decode cX4_init 10 = .ok (.bipush 12, 2) := by decide +kernel
theorem dX4_init_12 : decode cX4_init 12 = .ok (.newarray .int, 2) := by decide +kernel
theorem dX4_init_14 : decode cX4_init 14 = .ok (.putfield 13, 3) := by decide +kernel
theorem dX4_init_17 : decode cX4_init 17 = .ok (.aload_n 0, 1) := by decide +kernel
theorem dX4_init_18 : decode cX4_init 18 = .ok (.bipush 12, 2) := by decide +kernel
theorem dX4_init_20 : decode cX4_init 20 = .ok (.newarray .int, 2) := by decide +kernel
theorem dX4_init_22 : decode cX4_init 22 = .ok (.putfield 17, 3) := by decide +kernel
theorem dX4_init_25 : decode cX4_init 25 = .ok (.aload_n 0, 1) := by decide +kernel
theorem dX4_init_26 : decode cX4_init 26 = .ok (.bipush 12, 2) := by decide +kernel
theorem dX4_init_28 : decode cX4_init 28 = .ok (.newarray .int, 2) := by decide +kernel
theorem dX4_init_30 : decode cX4_init 30 = .ok (.putfield 20, 3) := by decide +kernel
theorem dX4_init_33 : decode cX4_init 33 = .ok (.aload_n 0, 1) := by decide +kernel
theorem dX4_init_34 : decode cX4_init 34 = .ok (.bipush 12, 2) := by decide +kernel
theorem dX4_init_36 : decode cX4_init 36 = .ok (.newarray .int, 2) := by decide +kernel
theorem dX4_init_38 : decode cX4_init 38 = .ok (.putfield 23, 3) := by decide +kernel
theorem dX4_init_41 : decode cX4_init 41 = .ok (.aload_n 0, 1) := by decide +kernel
theorem dX4_init_42 : decode cX4_init 42 = .ok (.bipush 12, 2) := by decide +kernel
theorem dX4_init_44 : decode cX4_init 44 = .ok (.newarray .int, 2) := by decide +kernel
theorem dX4_init_46 : decode cX4_init 46 = .ok (.putfield 26, 3) := by decide +kernel
theorem dX4_init_49 : decode cX4_init 49 = .ok (.aload_n 0, 1) := by decide +kernel
theorem dX4_init_50 : decode cX4_init 50 = .ok (.bipush 7, 2) := by decide +kernel
theorem dX4_init_52 : decode cX4_init 52 = .ok (.newarray .int, 2) := by decide +kernel
theorem dX4_init_54 : decode cX4_init 54 = .ok (.putfield 29, 3) := by decide +kernel
theorem dX4_init_57 : decode cX4_init 57 = .ok (.aload_n 0, 1) := by decide +kernel
theorem dX4_init_58 : decode cX4_init 58 = .ok (.bipush 49, 2) := by decide +kernel
theorem dX4_init_60 : decode cX4_init 60 = .ok (.newarray .int, 2) := by decide +kernel
theorem dX4_init_62 : decode cX4_init 62 = .ok (.putfield 32, 3) := by decide +kernel
theorem dX4_init_65 : decode cX4_init 65 = .ok (.aload_n 0, 1) := by decide +kernel
theorem dX4_init_66 : decode cX4_init 66 = .ok (.bipush 49, 2) := by decide +kernel
theorem dX4_init_68 : decode cX4_init 68 = .ok (.newarray .int, 2) := by decide +kernel
theorem dX4_init_70 : decode cX4_init 70 = .ok (.putfield 35, 3) := by decide +kernel
theorem dX4_init_73 : decode cX4_init 73 = .ok (.return_, 1) := by decide +kernel
theorem dX4_in_0 : decode cX4_in 0 = .ok (.iload_n 0, 1) := by decide +kernel
theorem dX4_in_1 : decode cX4_in 1 = .ok (.iload_n 1, 1) := by decide +kernel
theorem dX4_in_2 : decode cX4_in 2 = .ok (.if_icmp .lt 12, 3) := by decide +kernel
theorem dX4_in_5 : decode cX4_in 5 = .ok (.iload_n 0, 1) := by decide +kernel
theorem dX4_in_6 : decode cX4_in 6 = .ok (.iload_n 2, 1) := by decide +kernel
theorem dX4_in_7 : decode cX4_in 7 = .ok (.if_icmp .gt 7, 3) := by decide +kernel
theorem dX4_in_10 : decode cX4_in 10 = .ok (.iconst 1, 1) := by decide +kernel
theorem dX4_in_11 : decode cX4_in 11 = .ok (.goto 4, 3) := by decide +kernel
theorem dX4_in_14 : decode cX4_in 14 = .ok (.iconst 0, 1) := by decide +kernel
theorem dX4_in_15 : decode cX4_in 15 = .ok (.ireturn, 1) := by decide +kernel
set_option maxRecDepth 20000 in
theorem ggX4_isNode_X4_in : GoodIn wsX4_isNode wsX4_in := goodIn_r _ [5] (by decide +kernel) (by decide +kernel)
set_option maxRecDepth 20000 in
theorem gX4_isNode_X4_in : GoodIn wsX4_isNode (va_wsS RX4 38 yX4_in wsX4_in) := goodIn_app (goodIn_of _ (by decide +kernel)) ggX4_isNode_X4_in
theorem dX4_isNode_0 : decode cX4_isNode 0 = .ok (.iload_n 1, 1) := by decide +kernel
theorem dX4_isNode_1 : decode cX4_isNode 1 = .ok (.iconst 0, 1) := by decide +kernel
theorem dX4_isNode_2 : decode cX4_isNode 2 = .ok (.aload_n 0, 1) := by decide +kernel
theorem dX4_isNode_3 : decode cX4_isNode 3 = .ok (.getfield 7, 3) := by decide +kernel
theorem dX4_isNode_6 : decode cX4_isNode 6 = .ok (.iconst 1, 1) := by decide +kernel
theorem dX4_isNode_7 : decode cX4_isNode 7 = .ok (.isub, 1) := by decide +kernel
theorem dX4_isNode_8 : decode cX4_isNode 8 = .ok (.invokestatic 38, 3) := by decide +kernel
theorem dX4_isNode_11 : decode cX4_isNode 11 = .ok (.ireturn, 1) := by decide +kernel
set_option maxRecDepth 20000 in
theorem ggX4_isLine_X4_in : GoodIn wsX4_isLine wsX4_in := goodIn_r _ [5] (by decide +kernel) (by decide +kernel)
set_option maxRecDepth 20000 in
theorem gX4_isLine_X4_in : GoodIn wsX4_isLine (va_wsS RX4 38 yX4_in wsX4_in) := goodIn_app (goodIn_of _ (by decide +kernel)) ggX4_isLine_X4_in
theorem dX4_isLine_0 : decode cX4_isLine 0 = .ok (.iload_n 1, 1) := by decide +kernel
theorem dX4_isLine_1 : decode cX4_isLine 1 = .ok (.iconst 0, 1) := by decide +kernel
theorem dX4_isLine_2 : decode cX4_isLine 2 = .ok (.aload_n 0, 1) := by decide +kernel
theorem dX4_isLine_3 : decode cX4_isLine 3 = .ok (.getfield 42, 3) := by decide +kernel
theorem dX4_isLine_6 : decode cX4_isLine 6 = .ok (.iconst 1, 1) := by decide +kernel
theorem dX4_isLine_7 : decode cX4_isLine 7 = .ok (.isub, 1) := by decide +kernel
theorem dX4_isLine_8 : decode cX4_isLine 8 = .ok (.invokestatic 38, 3) := by decide +kernel
theorem dX4_isLine_11 : decode cX4_isLine 11 = .ok (.ireturn, 1) := by decide +kernel
set_option maxRecDepth 20000 in
theorem ggX4_nodes_X4_in : GoodIn wsX4_nodes wsX4_in := goodIn_r _ [6] (by decide +kernel) (by decide +kernel)
set_option maxRecDepth 20000 in
theorem gX4_nodes_X4_in : GoodIn wsX4_nodes (va_wsS RX4 38 yX4_in wsX4_in) := goodIn_app (goodIn_of _ (by decide +kernel)) ggX4_nodes_X4_in
theorem dX4_nodes_0 : decode cX4_nodes 0 = .ok (.iload_n 1, 1) := by decide +kernel
theorem dX4_nodes_1 : decode cX4_nodes 1 = .ok (.iconst 2, 1) := by decide +kernel
theorem dX4_nodes_2 : decode cX4_nodes 2 = .ok (.bipush 7, 2) := by decide +kernel
theorem dX4_nodes_4 : decode cX4_nodes 4 = .ok (.invokestatic 38, 3) := by decide +kernel
theorem dX4_nodes_7 : decode cX4_nodes 7 = .ok (.ifCond .ne 6, 3) := by decide +kernel
theorem dX4_nodes_10 : decode cX4_nodes 10 = .ok (.bipush (-3), 2) := by decide +kernel
theorem dX4_nodes_12 : decode cX4_nodes 12 = .ok (.ireturn, 1) := by decide +kernel
theorem dX4_nodes_13 : decode cX4_nodes 13 = .ok (.aload_n 0, 1) := by decide +kernel
theorem dX4_nodes_14 : decode cX4_nodes 14 = .ok (.iload_n 1, 1) := by decide +kernel
theorem dX4_nodes_15 : decode cX4_nodes 15 = .ok (.putfield 7, 3) := by decide +kernel
theorem dX4_nodes_18 : decode cX4_nodes 18 = .ok (.aload_n 0, 1) := by decide +kernel
theorem dX4_nodes_19 : decode cX4_nodes 19 = .ok (.iconst 0, 1) := by decide +kernel
theorem dX4_nodes_20 : decode cX4_nodes 20 = .ok (.putfield 42, 3) := by decide +kernel
theorem dX4_nodes_23 : decode cX4_nodes 23 = .ok (.iconst 1, 1) := by decide +kernel
theorem dX4_nodes_24 : decode cX4_nodes 24 = .ok (.ireturn, 1) := by decide +kernel
set_option maxRecDepth 20000 in
theorem ggX4_line_X4_isNode : GoodIn wsX4_line wsX4_isNode := goodIn_r _ [10, 11, 12, 13, 9, 14, 15, 16, 17, 18, 19, 20, 21, 22, 23, 24, 25, 26] (by decide +kernel) (by decide +kernel)
set_option maxRecDepth 20000 in
theorem gX4_line_X4_isNode : GoodIn wsX4_line (wsV RX4 45 RX4 yX4_isNode wsX4_isNode) := goodIn_app (goodIn_of _ (by decide +kernel)) ggX4_line_X4_isNode
set_option maxRecDepth 20000 in
theorem ggX4_line_X4_in : GoodIn wsX4_line wsX4_in := goodIn_r _ [14] (by decide +kernel) (by decide +kernel)
set_option maxRecDepth 20000 in
theorem gX4_line_X4_in : GoodIn wsX4_line (va_wsS RX4 38 yX4_in wsX4_in) := goodIn_app (goodIn_of _ (by decide +kernel)) ggX4_line_X4_in
theorem dX4_line_0 : decode cX4_line 0 = .ok (.aload_n 0, 1) := by decide +kernel
theorem dX4_line_1 : decode cX4_line 1 = .ok (.iload_n 1, 1) := by decide +kernel
theorem dX4_line_2 : decode cX4_line 2 = .ok (.invokevirtual 45, 3) := by decide +kernel
theorem dX4_line_5 : decode cX4_line 5 = .ok (.ifCond .eq 11, 3) := by decide +kernel
theorem dX4_line_8 : decode cX4_line 8 = .ok (.aload_n 0, 1) := by decide +kernel
theorem dX4_line_9 : decode cX4_line 9 = .ok (.iload_n 2, 1) := by decide +kernel
theorem dX4_line_10 : decode cX4_line 10 = .ok (.invokevirtual 45, 3) := by decide +kernel
theorem dX4_line_13 : decode cX4_line 13 = .ok (.ifCond .ne 6, 3) := by decide +kernel
theorem dX4_line_16 : decode cX4_line 16 = .ok (.bipush (-2), 2) := by decide +kernel
theorem dX4_line_18 : decode cX4_line 18 = .ok (.ireturn, 1) := by decide +kernel
theorem dX4_line_19 : decode cX4_line 19 = .ok (.iload_n 1, 1) := by decide +kernel
theorem dX4_line_20 : decode cX4_line 20 = .ok (.iload_n 2, 1) := by decide +kernel
theorem dX4_line_21 : decode cX4_line 21 = .ok (.if_icmp .eq 13, 3) := by decide +kernel
theorem dX4_line_24 : decode cX4_line 24 = .ok (.iload_n 3, 1) := by decide +kernel
theorem dX4_line_25 : decode cX4_line 25 = .ok (.iconst 1, 1) := by decide +kernel
theorem dX4_line_26 : decode cX4_line 26 = .ok (.bipush 9, 2) := by decide +kernel
theorem dX4_line_28 : decode cX4_line 28 = .ok (.invokestatic 38, 3) := by decide +kernel
theorem dX4_line_31 : decode cX4_line 31 = .ok (.ifCond .ne 6, 3) := by decide +kernel
theorem dX4_line_34 : decode cX4_line 34 = .ok (.bipush (-3), 2) := by decide +kernel
theorem dX4_line_36 : decode cX4_line 36 = .ok (.ireturn, 1) := by decide +kernel
theorem dX4_line_37 : decode cX4_line 37 = .ok (.aload_n 0, 1) := by decide +kernel
theorem dX4_line_38 : decode cX4_line 38 = .ok (.getfield 42, 3) := by decide +kernel
theorem dX4_line_41 : decode cX4_line 41 = .ok (.bipush 12, 2) := by decide +kernel
theorem dX4_line_43 : decode cX4_line 43 = .ok (.if_icmp .ne 6, 3) := by decide +kernel
theorem dX4_line_46 : decode cX4_line 46 = .ok (.bipush (-5), 2) := by decide +kernel
theorem dX4_line_48 : decode cX4_line 48 = .ok (.ireturn, 1) := by decide +kernel
theorem dX4_line_49 : decode cX4_line 49 = .ok (.aload_n 0, 1) := by decide +kernel
theorem dX4_line_50 : decode cX4_line 50 = .ok (.getfield 13, 3) := by decide +kernel
theorem dX4_line_53 : decode cX4_line 53 = .ok (.aload_n 0, 1) := by decide +kernel
theorem dX4_line_54 : decode cX4_line 54 = .ok (.getfield 42, 3) := by decide +kernel
theorem dX4_line_57 : decode cX4_line 57 = .ok (.iload_n 1, 1) := by decide +kernel
theorem dX4_line_58 : decode cX4_line 58 = .ok (.iload_n 2, 1) := by decide +kernel
theorem dX4_line_59 : decode cX4_line 59 = .ok (.if_icmp .ge 7, 3) := by decide +kernel
theorem dX4_line_62 : decode cX4_line 62 = .ok (.iload_n 1, 1) := by decide +kernel
theorem dX4_line_63 : decode cX4_line 63 = .ok (.goto 4, 3) := by decide +kernel
theorem dX4_line_66 : decode cX4_line 66 = .ok (.iload_n 2, 1) := by decide +kernel
theorem dX4_line_67 : decode cX4_line 67 = .ok (.iastore, 1) := by decide +kernel
theorem dX4_line_68 : decode cX4_line 68 = .ok (.aload_n 0, 1) := by decide +kernel
theorem dX4_line_69 : decode cX4_line 69 = .ok (.getfield 17, 3) := by decide +kernel
theorem dX4_line_72 : decode cX4_line 72 = .ok (.aload_n 0, 1) := by decide +kernel
theorem dX4_line_73 : decode cX4_line 73 = .ok (.getfield 42, 3) := by decide +kernel
theorem dX4_line_76 : decode cX4_line 76 = .ok (.iload_n 1, 1) := by decide +kernel
theorem dX4_line_77 : decode cX4_line 77 = .ok (.iload_n 2, 1) := by decide +kernel
theorem dX4_line_78 : decode cX4_line 78 = .ok (.if_icmp .ge 7, 3) := by decide +kernel
theorem dX4_line_81 : decode cX4_line 81 = .ok (.iload_n 2, 1) := by decide +kernel
theorem dX4_line_82 : decode cX4_line 82 = .ok (.goto 4, 3) := by decide +kernel
theorem dX4_line_85 : decode cX4_line 85 = .ok (.iload_n 1, 1) := by decide +kernel
theorem dX4_line_86 : decode cX4_line 86 = .ok (.iastore, 1) := by decide +kernel
theorem dX4_line_87 : decode cX4_line 87 = .ok (.aload_n 0, 1) := by decide +kernel
theorem dX4_line_88 : decode cX4_line 88 = .ok (.getfield 20, 3) := by decide +kernel
theorem dX4_line_91 : decode cX4_line 91 = .ok (.aload_n 0, 1) := by decide +kernel
theorem dX4_line_92 : decode cX4_line 92 = .ok (.getfield 42, 3) := by decide +kernel
theorem dX4_line_95 : decode cX4_line 95 = .ok (.iload_n 3, 1) := by decide +kernel
theorem dX4_line_96 : decode cX4_line 96 = .ok (.iastore, 1) := by decide +kernel
theorem dX4_line_97 : decode cX4_line 97 = .ok (.aload_n 0, 1) := by decide +kernel
theorem dX4_line_98 : decode cX4_line 98 = .ok (.getfield 23, 3) := by decide +kernel
theorem dX4_line_101 : decode cX4_line 101 = .ok (.aload_n 0, 1) := by decide +kernel
theorem dX4_line_102 : decode cX4_line 102 = .ok (.getfield 42, 3) := by decide +kernel
theorem dX4_line_105 : decode cX4_line 105 = .ok (.iload_n 3, 1) := by decide +kernel
theorem dX4_line_106 : decode cX4_line 106 = .ok (.iastore, 1) := by decide +kernel
theorem dX4_line_107 : decode cX4_line 107 = .ok (.aload_n 0, 1) := by decide +kernel
theorem dX4_line_108 : decode cX4_line 108 = .ok (.dup, 1) := by decide +kernel
theorem dX4_line_109 : decode cX4_line 109 = .ok (.getfield 42, 3) := by decide +kernel
theorem dX4_line_112 : decode cX4_line 112 = .ok (.iconst 1, 1) := by decide +kernel
theorem dX4_line_113 : decode cX4_line 113 = .ok (.iadd, 1) := by decide +kernel
theorem dX4_line_114 : decode cX4_line 114 = .ok (.putfield 42, 3) := by decide +kernel
theorem dX4_line_117 : decode cX4_line 117 = .ok (.aload_n 0, 1) := by decide +kernel
theorem dX4_line_118 : decode cX4_line 118 = .ok (.getfield 42, 3) := by decide +kernel
theorem dX4_line_121 : decode cX4_line 121 = .ok (.iconst 1, 1) := by decide +kernel
theorem dX4_line_122 : decode cX4_line 122 = .ok (.isub, 1) := by decide +kernel
theorem dX4_line_123 : decode cX4_line 123 = .ok (.ireturn, 1) := by decide +kernel
set_option maxRecDepth 20000 in
theorem ggX4_drop_X4_isLine : GoodIn wsX4_drop wsX4_isLine := goodIn_r _ [10, 1, 11, 12, 9, 13, 14, 15, 16, 17, 18, 19, 20, 21, 22, 23, 24, 25] (by decide +kernel) (by decide +kernel)
set_option maxRecDepth 20000 in
theorem gX4_drop_X4_isLine : GoodIn wsX4_drop (wsV RX4 49 RX4 yX4_isLine wsX4_isLine) := goodIn_app (goodIn_of _ (by decide +kernel)) ggX4_drop_X4_isLine
theorem dX4_drop_0 : decode cX4_drop 0 = .ok (.aload_n 0, 1) := by decide +kernel
theorem dX4_drop_1 : decode cX4_drop 1 = .ok (.iload_n 1, 1) := by decide +kernel
theorem dX4_drop_2 : decode cX4_drop 2 = .ok (.invokevirtual 49, 3) := by decide +kernel
theorem dX4_drop_5 : decode cX4_drop 5 = .ok (.ifCond .ne 6, 3) := by decide +kernel
theorem dX4_drop_8 : decode cX4_drop 8 = .ok (.bipush (-2), 2) := by decide +kernel
theorem dX4_drop_10 : decode cX4_drop 10 = .ok (.ireturn, 1) := by decide +kernel
theorem dX4_drop_11 : decode cX4_drop 11 = .ok (.aload_n 0, 1) := by decide +kernel
theorem dX4_drop_12 : decode cX4_drop 12 = .ok (.dup, 1) := by decide +kernel
theorem dX4_drop_13 : decode cX4_drop 13 = .ok (.getfield 42, 3) := by decide +kernel
theorem dX4_drop_16 : decode cX4_drop 16 = .ok (.iconst 1, 1) := by decide +kernel
theorem dX4_drop_17 : decode cX4_drop 17 = .ok (.isub, 1) := by decide +kernel
theorem dX4_drop_18 : decode cX4_drop 18 = .ok (.putfield 42, 3) := by decide +kernel
theorem dX4_drop_21 : decode cX4_drop 21 = .ok (.iload_n 1, 1) := by decide +kernel
theorem dX4_drop_22 : decode cX4_drop 22 = .ok (.istore_n 2, 1) := by decide +kernel
theorem dX4_drop_23 : decode cX4_drop 23 = .ok (.iload_n 2, 1) := by decide +kernel
theorem dX4_drop_24 : decode cX4_drop 24 = .ok (.aload_n 0, 1) := by decide +kernel
theorem dX4_drop_25 : decode cX4_drop 25 = .ok (.getfield 42, 3) := by decide +kernel
theorem dX4_drop_28 : decode cX4_drop 28 = .ok (.if_icmp .ge 65, 3) := by decide +kernel
theorem dX4_drop_31 : decode cX4_drop 31 = .ok (.aload_n 0, 1) := by decide +kernel
theorem dX4_drop_32 : decode cX4_drop 32 = .ok (.getfield 13, 3) := by decide +kernel
theorem dX4_drop_35 : decode cX4_drop 35 = .ok (.iload_n 2, 1) := by decide +kernel
theorem dX4_drop_36 : decode cX4_drop 36 = .ok (.aload_n 0, 1) := by decide +kernel
theorem dX4_drop_37 : decode cX4_drop 37 = .ok (.getfield 13, 3) := by decide +kernel
theorem dX4_drop_40 : decode cX4_drop 40 = .ok (.iload_n 2, 1) := by decide +kernel
theorem dX4_drop_41 : decode cX4_drop 41 = .ok (.iconst 1, 1) := by decide +kernel
theorem dX4_drop_42 : decode cX4_drop 42 = .ok (.iadd, 1) := by decide +kernel
theorem dX4_drop_43 : decode cX4_drop 43 = .ok (.iaload, 1) := by decide +kernel
theorem dX4_drop_44 : decode cX4_drop 44 = .ok (.iastore, 1) := by decide +kernel
theorem dX4_drop_45 : decode cX4_drop 45 = .ok (.aload_n 0, 1) := by decide +kernel
theorem dX4_drop_46 : decode cX4_drop 46 = .ok (.getfield 17, 3) := by decide +kernel
theorem dX4_drop_49 : decode cX4_drop 49 = .ok (.iload_n 2, 1) := by decide +kernel
theorem dX4_drop_50 : decode cX4_drop 50 = .ok (.aload_n 0, 1) := by decide +kernel
theorem dX4_drop_51 : decode cX4_drop 51 = .ok (.getfield 17, 3) := by decide +kernel
theorem dX4_drop_54 : decode cX4_drop 54 = .ok (.iload_n 2, 1) := by decide +kernel
theorem dX4_drop_55 : decode cX4_drop 55 = .ok (.iconst 1, 1) := by decide +kernel
theorem dX4_drop_56 : decode cX4_drop 56 = .ok (.iadd, 1) := by decide +kernel
theorem dX4_drop_57 : decode cX4_drop 57 = .ok (.iaload, 1) := by decide +kernel
theorem dX4_drop_58 : decode cX4_drop 58 = .ok (.iastore, 1) := by decide +kernel
theorem dX4_drop_59 : decode cX4_drop 59 = .ok (.aload_n 0, 1) := by decide +kernel
theorem dX4_drop_60 : decode cX4_drop 60 = .ok (.getfield 20, 3) := by decide +kernel
theorem dX4_drop_63 : decode cX4_drop 63 = .ok (.iload_n 2, 1) := by decide +kernel
theorem dX4_drop_64 : decode cX4_drop 64 = .ok (.aload_n 0, 1) := by decide +kernel
theorem dX4_drop_65 : decode cX4_drop 65 = .ok (.getfield 20, 3) := by decide +kernel
theorem dX4_drop_68 : decode cX4_drop 68 = .ok (.iload_n 2, 1) := by decide +kernel
theorem dX4_drop_69 : decode cX4_drop 69 = .ok (.iconst 1, 1) := by decide +kernel
theorem dX4_drop_70 : decode cX4_drop 70 = .ok (.iadd, 1) := by decide +kernel
theorem dX4_drop_71 : decode cX4_drop 71 = .ok (.iaload, 1) := by decide +kernel
theorem dX4_drop_72 : decode cX4_drop 72 = .ok (.iastore, 1) := by decide +kernel
theorem dX4_drop_73 : decode cX4_drop 73 = .ok (.aload_n 0, 1) := by decide +kernel
theorem dX4_drop_74 : decode cX4_drop 74 = .ok (.getfield 23, 3) := by decide +kernel
theorem dX4_drop_77 : decode cX4_drop 77 = .ok (.iload_n 2, 1) := by decide +kernel
theorem dX4_drop_78 : decode cX4_drop 78 = .ok (.aload_n 0, 1) := by decide +kernel
theorem dX4_drop_79 : decode cX4_drop 79 = .ok (.getfield 23, 3) := by decide +kernel
theorem dX4_drop_82 : decode cX4_drop 82 = .ok (.iload_n 2, 1) := by decide +kernel
theorem dX4_drop_83 : decode cX4_drop 83 = .ok (.iconst 1, 1) := by decide +kernel
theorem dX4_drop_84 : decode cX4_drop 84 = .ok (.iadd, 1) := by decide +kernel
theorem dX4_drop_85 : decode cX4_drop 85 = .ok (.iaload, 1) := by decide +kernel
theorem dX4_drop_86 : decode cX4_drop 86 = .ok (.iastore, 1) := by decide +kernel
theorem dX4_drop_87 : decode cX4_drop 87 = .ok (.iinc 2 1, 3) := by decide +kernel
theorem dX4_drop_90 : decode cX4_drop 90 = .ok (.goto (-67), 3) := by decide +kernel
theorem dX4_drop_93 : decode cX4_drop 93 = .ok (.iconst 1, 1) := by decide +kernel
theorem dX4_drop_94 : decode cX4_drop 94 = .ok (.ireturn, 1) := by decide +kernel
set_option maxRecDepth 20000 in
theorem ggX4_keep_X4_isLine : GoodIn wsX4_keep wsX4_isLine := goodIn_r _ [6, 7, 8, 9, 5, 10, 11, 12, 13, 14, 15, 16, 17, 18, 19, 20, 21, 22] (by decide +kernel) (by decide +kernel)
set_option maxRecDepth 20000 in
theorem gX4_keep_X4_isLine : GoodIn wsX4_keep (wsV RX4 49 RX4 yX4_isLine wsX4_isLine) := goodIn_app (goodIn_of _ (by decide +kernel)) ggX4_keep_X4_isLine
set_option maxRecDepth 20000 in
theorem ggX4_keep_X4_in : GoodIn wsX4_keep wsX4_in := goodIn_r _ [10] (by decide +kernel) (by decide +kernel)
set_option maxRecDepth 20000 in
theorem gX4_keep_X4_in : GoodIn wsX4_keep (va_wsS RX4 38 yX4_in wsX4_in) := goodIn_app (goodIn_of _ (by decide +kernel)) ggX4_keep_X4_in
theorem dX4_keep_0 : decode cX4_keep 0 = .ok (.aload_n 0, 1) := by decide +kernel
theorem dX4_keep_1 : decode cX4_keep 1 = .ok (.iload_n 1, 1) := by decide +kernel
theorem dX4_keep_2 : decode cX4_keep 2 = .ok (.invokevirtual 49, 3) := by decide +kernel
theorem dX4_keep_5 : decode cX4_keep 5 = .ok (.ifCond .ne 6, 3) := by decide +kernel
theorem dX4_keep_8 : decode cX4_keep 8 = .ok (.bipush (-2), 2) := by decide +kernel
theorem dX4_keep_10 : decode cX4_keep 10 = .ok (.ireturn, 1) := by decide +kernel
theorem dX4_keep_11 : decode cX4_keep 11 = .ok (.iload_n 2, 1) := by decide +kernel
theorem dX4_keep_12 : decode cX4_keep 12 = .ok (.iconst 0, 1) := by decide +kernel
theorem dX4_keep_13 : decode cX4_keep 13 = .ok (.bipush 60, 2) := by decide +kernel
theorem dX4_keep_15 : decode cX4_keep 15 = .ok (.invokestatic 38, 3) := by decide +kernel
theorem dX4_keep_18 : decode cX4_keep 18 = .ok (.ifCond .ne 6, 3) := by decide +kernel
theorem dX4_keep_21 : decode cX4_keep 21 = .ok (.bipush (-3), 2) := by decide +kernel
theorem dX4_keep_23 : decode cX4_keep 23 = .ok (.ireturn, 1) := by decide +kernel
theorem dX4_keep_24 : decode cX4_keep 24 = .ok (.aload_n 0, 1) := by decide +kernel
theorem dX4_keep_25 : decode cX4_keep 25 = .ok (.getfield 23, 3) := by decide +kernel
theorem dX4_keep_28 : decode cX4_keep 28 = .ok (.iload_n 1, 1) := by decide +kernel
theorem dX4_keep_29 : decode cX4_keep 29 = .ok (.iaload, 1) := by decide +kernel
theorem dX4_keep_30 : decode cX4_keep 30 = .ok (.istore_n 3, 1) := by decide +kernel
theorem dX4_keep_31 : decode cX4_keep 31 = .ok (.aload_n 0, 1) := by decide +kernel
theorem dX4_keep_32 : decode cX4_keep 32 = .ok (.getfield 23, 3) := by decide +kernel
theorem dX4_keep_35 : decode cX4_keep 35 = .ok (.iload_n 1, 1) := by decide +kernel
theorem dX4_keep_36 : decode cX4_keep 36 = .ok (.iload_n 2, 1) := by decide +kernel
theorem dX4_keep_37 : decode cX4_keep 37 = .ok (.iastore, 1) := by decide +kernel
theorem dX4_keep_38 : decode cX4_keep 38 = .ok (.iload_n 3, 1) := by decide +kernel
theorem dX4_keep_39 : decode cX4_keep 39 = .ok (.ireturn, 1) := by decide +kernel
set_option maxRecDepth 20000 in
theorem ggX4_at_X4_isLine : GoodIn wsX4_at wsX4_isLine := goodIn_r _ [10, 11, 12, 13, 9, 14, 29, 30, 31, 32, 33, 34, 35, 36, 37, 38, 39, 40] (by decide +kernel) (by decide +kernel)
set_option maxRecDepth 20000 in
theorem gX4_at_X4_isLine : GoodIn wsX4_at (wsV RX4 49 RX4 yX4_isLine wsX4_isLine) := goodIn_app (goodIn_of _ (by decide +kernel)) ggX4_at_X4_isLine
set_option maxRecDepth 20000 in
theorem ggX4_at_X4_findForests : GoodIn wsX4_at wsX4_findForests := goodIn_r _ [18, 11, 1, 19, 20, 21, 9, 22, 23, 24, 25, 26, 27, 2, 3, 28, 29, 30, 31, 32, 33, 34, 35, 36, 37, 38, 39, 40] (by decide +kernel) (by decide +kernel)
set_option maxRecDepth 20000 in
theorem gX4_at_X4_findForests : GoodIn wsX4_at (wsV RX4 52 RX4 yX4_findForests wsX4_findForests) := goodIn_app (goodIn_of _ (by decide +kernel)) ggX4_at_X4_findForests
theorem dX4_at_0 : decode cX4_at 0 = .ok (.aload_n 0, 1) := by decide +kernel
theorem dX4_at_1 : decode cX4_at 1 = .ok (.iload_n 1, 1) := by decide +kernel
theorem dX4_at_2 : decode cX4_at 2 = .ok (.invokevirtual 49, 3) := by decide +kernel
theorem dX4_at_5 : decode cX4_at 5 = .ok (.ifCond .ne 6, 3) := by decide +kernel
theorem dX4_at_8 : decode cX4_at 8 = .ok (.bipush (-2), 2) := by decide +kernel
theorem dX4_at_10 : decode cX4_at 10 = .ok (.ireturn, 1) := by decide +kernel
theorem dX4_at_11 : decode cX4_at 11 = .ok (.iload_n 2, 1) := by decide +kernel
theorem dX4_at_12 : decode cX4_at 12 = .ok (.iconst 4, 1) := by decide +kernel
theorem dX4_at_13 : decode cX4_at 13 = .ok (.if_icmp .ne 15, 3) := by decide +kernel
theorem dX4_at_16 : decode cX4_at 16 = .ok (.aload_n 0, 1) := by decide +kernel
theorem dX4_at_17 : decode cX4_at 17 = .ok (.invokevirtual 52, 3) := by decide +kernel
theorem dX4_at_20 : decode cX4_at 20 = .ok (.pop, 1) := by decide +kernel
theorem dX4_at_21 : decode cX4_at 21 = .ok (.aload_n 0, 1) := by decide +kernel
theorem dX4_at_22 : decode cX4_at 22 = .ok (.getfield 26, 3) := by decide +kernel
theorem dX4_at_25 : decode cX4_at 25 = .ok (.iload_n 1, 1) := by decide +kernel
theorem dX4_at_26 : decode cX4_at 26 = .ok (.iaload, 1) := by decide +kernel
theorem dX4_at_27 : decode cX4_at 27 = .ok (.ireturn, 1) := by decide +kernel
theorem dX4_at_28 : decode cX4_at 28 = .ok (.iload_n 2, 1) := by decide +kernel
theorem dX4_at_29 : decode cX4_at 29 = .ok (.ifCond .ne 12, 3) := by decide +kernel
theorem dX4_at_32 : decode cX4_at 32 = .ok (.aload_n 0, 1) := by decide +kernel
theorem dX4_at_33 : decode cX4_at 33 = .ok (.getfield 13, 3) := by decide +kernel
theorem dX4_at_36 : decode cX4_at 36 = .ok (.iload_n 1, 1) := by decide +kernel
theorem dX4_at_37 : decode cX4_at 37 = .ok (.iaload, 1) := by decide +kernel
theorem dX4_at_38 : decode cX4_at 38 = .ok (.goto 47, 3) := by decide +kernel
theorem dX4_at_41 : decode cX4_at 41 = .ok (.iload_n 2, 1) := by decide +kernel
theorem dX4_at_42 : decode cX4_at 42 = .ok (.iconst 1, 1) := by decide +kernel
theorem dX4_at_43 : decode cX4_at 43 = .ok (.if_icmp .ne 12, 3) := by decide +kernel
theorem dX4_at_46 : decode cX4_at 46 = .ok (.aload_n 0, 1) := by decide +kernel
theorem dX4_at_47 : decode cX4_at 47 = .ok (.getfield 17, 3) := by decide +kernel
theorem dX4_at_50 : decode cX4_at 50 = .ok (.iload_n 1, 1) := by decide +kernel
theorem dX4_at_51 : decode cX4_at 51 = .ok (.iaload, 1) := by decide +kernel
theorem dX4_at_52 : decode cX4_at 52 = .ok (.goto 33, 3) := by decide +kernel
theorem dX4_at_55 : decode cX4_at 55 = .ok (.iload_n 2, 1) := by decide +kernel
theorem dX4_at_56 : decode cX4_at 56 = .ok (.iconst 2, 1) := by decide +kernel
theorem dX4_at_57 : decode cX4_at 57 = .ok (.if_icmp .ne 12, 3) := by decide +kernel
theorem dX4_at_60 : decode cX4_at 60 = .ok (.aload_n 0, 1) := by decide +kernel
theorem dX4_at_61 : decode cX4_at 61 = .ok (.getfield 20, 3) := by decide +kernel
theorem dX4_at_64 : decode cX4_at 64 = .ok (.iload_n 1, 1) := by decide +kernel
theorem dX4_at_65 : decode cX4_at 65 = .ok (.iaload, 1) := by decide +kernel
theorem dX4_at_66 : decode cX4_at 66 = .ok (.goto 19, 3) := by decide +kernel
theorem dX4_at_69 : decode cX4_at 69 = .ok (.iload_n 2, 1) := by decide +kernel
theorem dX4_at_70 : decode cX4_at 70 = .ok (.iconst 3, 1) := by decide +kernel
theorem dX4_at_71 : decode cX4_at 71 = .ok (.if_icmp .ne 12, 3) := by decide +kernel
theorem dX4_at_74 : decode cX4_at 74 = .ok (.aload_n 0, 1) := by decide +kernel
theorem dX4_at_75 : decode cX4_at 75 = .ok (.getfield 23, 3) := by decide +kernel
theorem dX4_at_78 : decode cX4_at 78 = .ok (.iload_n 1, 1) := by decide +kernel
theorem dX4_at_79 : decode cX4_at 79 = .ok (.iaload, 1) := by decide +kernel
theorem dX4_at_80 : decode cX4_at 80 = .ok (.goto 5, 3) := by decide +kernel
theorem dX4_at_83 : decode cX4_at 83 = .ok (.bipush (-3), 2) := by decide +kernel
theorem dX4_at_85 : decode cX4_at 85 = .ok (.ireturn, 1) := by decide +kernel
theorem dX4_cutOf_0 : decode cX4_cutOf 0 = .ok (.iconst 0, 1) := by decide +kernel
theorem dX4_cutOf_1 : decode cX4_cutOf 1 = .ok (.istore_n 3, 1) := by decide +kernel
theorem dX4_cutOf_2 : decode cX4_cutOf 2 = .ok (.iconst 0, 1) := by decide +kernel
theorem dX4_cutOf_3 : decode cX4_cutOf 3 = .ok (.istore 4, 2) := by decide +kernel
theorem dX4_cutOf_5 : decode cX4_cutOf 5 = .ok (.iload 4, 2) := by decide +kernel
theorem dX4_cutOf_7 : decode cX4_cutOf 7 = .ok (.aload_n 0, 1) := by decide +kernel
theorem dX4_cutOf_8 : decode cX4_cutOf 8 = .ok (.getfield 42, 3) := by decide +kernel
theorem dX4_cutOf_11 : decode cX4_cutOf 11 = .ok (.if_icmp .ge 74, 3) := by decide +kernel
theorem dX4_cutOf_14 : decode cX4_cutOf 14 = .ok (.iload_n 1, 1) := by decide +kernel
theorem dX4_cutOf_15 : decode cX4_cutOf 15 = .ok (.aload_n 0, 1) := by decide +kernel
theorem dX4_cutOf_16 : decode cX4_cutOf 16 = .ok (.getfield 13, 3) := by decide +kernel
theorem dX4_cutOf_19 : decode cX4_cutOf 19 = .ok (.iload 4, 2) := by decide +kernel
theorem dX4_cutOf_21 : decode cX4_cutOf 21 = .ok (.iaload, 1) := by decide +kernel
theorem dX4_cutOf_22 : decode cX4_cutOf 22 = .ok (.ishr, 1) := by decide +kernel
theorem dX4_cutOf_23 : decode cX4_cutOf 23 = .ok (.iconst 1, 1) := by decide +kernel
theorem dX4_cutOf_24 : decode cX4_cutOf 24 = .ok (.iand, 1) := by decide +kernel
theorem dX4_cutOf_25 : decode cX4_cutOf 25 = .ok (.iload_n 1, 1) := by decide +kernel
theorem dX4_cutOf_26 : decode cX4_cutOf 26 = .ok (.aload_n 0, 1) := by decide +kernel
theorem dX4_cutOf_27 : decode cX4_cutOf 27 = .ok (.getfield 17, 3) := by decide +kernel
theorem dX4_cutOf_30 : decode cX4_cutOf 30 = .ok (.iload 4, 2) := by decide +kernel
theorem dX4_cutOf_32 : decode cX4_cutOf 32 = .ok (.iaload, 1) := by decide +kernel
theorem dX4_cutOf_33 : decode cX4_cutOf 33 = .ok (.ishr, 1) := by decide +kernel
theorem dX4_cutOf_34 : decode cX4_cutOf 34 = .ok (.iconst 1, 1) := by decide +kernel
theorem dX4_cutOf_35 : decode cX4_cutOf 35 = .ok (.iand, 1) := by decide +kernel
theorem dX4_cutOf_36 : decode cX4_cutOf 36 = .ok (.if_icmp .eq 7, 3) := by decide +kernel
theorem dX4_cutOf_39 : decode cX4_cutOf 39 = .ok (.iconst 1, 1) := by decide +kernel
theorem dX4_cutOf_40 : decode cX4_cutOf 40 = .ok (.goto 4, 3) := by decide +kernel
theorem dX4_cutOf_43 : decode cX4_cutOf 43 = .ok (.iconst 0, 1) := by decide +kernel
theorem dX4_cutOf_44 : decode cX4_cutOf 44 = .ok (.istore 5, 2) := by decide +kernel
theorem dX4_cutOf_46 : decode cX4_cutOf 46 = .ok (.iload_n 3, 1) := by decide +kernel
theorem dX4_cutOf_47 : decode cX4_cutOf 47 = .ok (.iload 5, 2) := by decide +kernel
theorem dX4_cutOf_49 : decode cX4_cutOf 49 = .ok (.ifCond .ne 7, 3) := by decide +kernel
theorem dX4_cutOf_52 : decode cX4_cutOf 52 = .ok (.iconst 0, 1) := by decide +kernel
theorem dX4_cutOf_53 : decode cX4_cutOf 53 = .ok (.goto 24, 3) := by decide +kernel
theorem dX4_cutOf_56 : decode cX4_cutOf 56 = .ok (.iload_n 2, 1) := by decide +kernel
theorem dX4_cutOf_57 : decode cX4_cutOf 57 = .ok (.ifCond .ne 13, 3) := by decide +kernel
theorem dX4_cutOf_60 : decode cX4_cutOf 60 = .ok (.aload_n 0, 1) := by decide +kernel
theorem dX4_cutOf_61 : decode cX4_cutOf 61 = .ok (.getfield 20, 3) := by decide +kernel
theorem dX4_cutOf_64 : decode cX4_cutOf 64 = .ok (.iload 4, 2) := by decide +kernel
theorem dX4_cutOf_66 : decode cX4_cutOf 66 = .ok (.iaload, 1) := by decide +kernel
theorem dX4_cutOf_67 : decode cX4_cutOf 67 = .ok (.goto 10, 3) := by decide +kernel
theorem dX4_cutOf_70 : decode cX4_cutOf 70 = .ok (.aload_n 0, 1) := by decide +kernel
theorem dX4_cutOf_71 : decode cX4_cutOf 71 = .ok (.getfield 23, 3) := by decide +kernel
theorem dX4_cutOf_74 : decode cX4_cutOf 74 = .ok (.iload 4, 2) := by decide +kernel
theorem dX4_cutOf_76 : decode cX4_cutOf 76 = .ok (.iaload, 1) := by decide +kernel
theorem dX4_cutOf_77 : decode cX4_cutOf 77 = .ok (.iadd, 1) := by decide +kernel
theorem dX4_cutOf_78 : decode cX4_cutOf 78 = .ok (.istore_n 3, 1) := by decide +kernel
theorem dX4_cutOf_79 : decode cX4_cutOf 79 = .ok (.iinc 4 1, 3) := by decide +kernel
theorem dX4_cutOf_82 : decode cX4_cutOf 82 = .ok (.goto (-77), 3) := by decide +kernel
theorem dX4_cutOf_85 : decode cX4_cutOf 85 = .ok (.iload_n 3, 1) := by decide +kernel
theorem dX4_cutOf_86 : decode cX4_cutOf 86 = .ok (.ireturn, 1) := by decide +kernel
set_option maxRecDepth 20000 in
theorem ggX4_isSide_X4_in : GoodIn wsX4_isSide wsX4_in := goodIn_r _ [5] (by decide +kernel) (by decide +kernel)
set_option maxRecDepth 20000 in
theorem gX4_isSide_X4_in : GoodIn wsX4_isSide (va_wsS RX4 38 yX4_in wsX4_in) := goodIn_app (goodIn_of _ (by decide +kernel)) ggX4_isSide_X4_in
theorem dX4_isSide_0 : decode cX4_isSide 0 = .ok (.iload_n 1, 1) := by decide +kernel
theorem dX4_isSide_1 : decode cX4_isSide 1 = .ok (.iconst 1, 1) := by decide +kernel
theorem dX4_isSide_2 : decode cX4_isSide 2 = .ok (.iconst 1, 1) := by decide +kernel
theorem dX4_isSide_3 : decode cX4_isSide 3 = .ok (.aload_n 0, 1) := by decide +kernel
theorem dX4_isSide_4 : decode cX4_isSide 4 = .ok (.getfield 7, 3) := by decide +kernel
theorem dX4_isSide_7 : decode cX4_isSide 7 = .ok (.ishl, 1) := by decide +kernel
theorem dX4_isSide_8 : decode cX4_isSide 8 = .ok (.iconst 2, 1) := by decide +kernel
theorem dX4_isSide_9 : decode cX4_isSide 9 = .ok (.isub, 1) := by decide +kernel
theorem dX4_isSide_10 : decode cX4_isSide 10 = .ok (.invokestatic 38, 3) := by decide +kernel
theorem dX4_isSide_13 : decode cX4_isSide 13 = .ok (.ifCond .eq 14, 3) := by decide +kernel
theorem dX4_isSide_16 : decode cX4_isSide 16 = .ok (.iload_n 1, 1) := by decide +kernel
theorem dX4_isSide_17 : decode cX4_isSide 17 = .ok (.iconst 2, 1) := by decide +kernel
theorem dX4_isSide_18 : decode cX4_isSide 18 = .ok (.irem, 1) := by decide +kernel
theorem dX4_isSide_19 : decode cX4_isSide 19 = .ok (.iconst 1, 1) := by decide +kernel
theorem dX4_isSide_20 : decode cX4_isSide 20 = .ok (.if_icmp .ne 7, 3) := by decide +kernel
theorem dX4_isSide_23 : decode cX4_isSide 23 = .ok (.iconst 1, 1) := by decide +kernel
theorem dX4_isSide_24 : decode cX4_isSide 24 = .ok (.goto 4, 3) := by decide +kernel
theorem dX4_isSide_27 : decode cX4_isSide 27 = .ok (.iconst 0, 1) := by decide +kernel
theorem dX4_isSide_28 : decode cX4_isSide 28 = .ok (.ireturn, 1) := by decide +kernel
set_option maxRecDepth 20000 in
theorem ggX4_cut_X4_isSide : GoodIn wsX4_cut wsX4_isSide := goodIn_r _ [5, 6, 7, 8, 4, 9, 19, 20, 21, 22, 23, 24, 25, 26, 27, 28, 29, 30] (by decide +kernel) (by decide +kernel)
set_option maxRecDepth 20000 in
theorem gX4_cut_X4_isSide : GoodIn wsX4_cut (wsV RX4 56 RX4 yX4_isSide wsX4_isSide) := goodIn_app (goodIn_of _ (by decide +kernel)) ggX4_cut_X4_isSide
set_option maxRecDepth 20000 in
theorem ggX4_cut_X4_in : GoodIn wsX4_cut wsX4_in := goodIn_r _ [9] (by decide +kernel) (by decide +kernel)
set_option maxRecDepth 20000 in
theorem gX4_cut_X4_in : GoodIn wsX4_cut (va_wsS RX4 38 yX4_in wsX4_in) := goodIn_app (goodIn_of _ (by decide +kernel)) ggX4_cut_X4_in
set_option maxRecDepth 20000 in
theorem ggX4_cut_X4_cutOf : GoodIn wsX4_cut wsX4_cutOf := goodIn_r _ [13, 14, 15, 16, 17, 18, 19, 20, 21, 22, 23, 24, 25, 26, 27, 28, 29, 30] (by decide +kernel) (by decide +kernel)
set_option maxRecDepth 20000 in
theorem gX4_cut_X4_cutOf : GoodIn wsX4_cut (wsV RX4 59 RX4 yX4_cutOf wsX4_cutOf) := goodIn_app (goodIn_of _ (by decide +kernel)) ggX4_cut_X4_cutOf
theorem dX4_cut_0 : decode cX4_cut 0 = .ok (.aload_n 0, 1) := by decide +kernel
theorem dX4_cut_1 : decode cX4_cut 1 = .ok (.iload_n 1, 1) := by decide +kernel
theorem dX4_cut_2 : decode cX4_cut 2 = .ok (.invokevirtual 56, 3) := by decide +kernel
theorem dX4_cut_5 : decode cX4_cut 5 = .ok (.ifCond .eq 21, 3) := by decide +kernel
theorem dX4_cut_8 : decode cX4_cut 8 = .ok (.iload_n 2, 1) := by decide +kernel
theorem dX4_cut_9 : decode cX4_cut 9 = .ok (.iconst 0, 1) := by decide +kernel
theorem dX4_cut_10 : decode cX4_cut 10 = .ok (.iconst 1, 1) := by decide +kernel
theorem dX4_cut_11 : decode cX4_cut 11 = .ok (.invokestatic 38, 3) := by decide +kernel
theorem dX4_cut_14 : decode cX4_cut 14 = .ok (.ifCond .eq 12, 3) := by decide +kernel
theorem dX4_cut_17 : decode cX4_cut 17 = .ok (.aload_n 0, 1) := by decide +kernel
theorem dX4_cut_18 : decode cX4_cut 18 = .ok (.iload_n 1, 1) := by decide +kernel
theorem dX4_cut_19 : decode cX4_cut 19 = .ok (.iload_n 2, 1) := by decide +kernel
theorem dX4_cut_20 : decode cX4_cut 20 = .ok (.invokevirtual 59, 3) := by decide +kernel
theorem dX4_cut_23 : decode cX4_cut 23 = .ok (.goto 5, 3) := by decide +kernel
theorem dX4_cut_26 : decode cX4_cut 26 = .ok (.bipush (-3), 2) := by decide +kernel
theorem dX4_cut_28 : decode cX4_cut 28 = .ok (.ireturn, 1) := by decide +kernel
set_option maxRecDepth 20000 in
theorem ggX4_worst_X4_in : GoodIn wsX4_worst wsX4_in := goodIn_r _ [5] (by decide +kernel) (by decide +kernel)
set_option maxRecDepth 20000 in
theorem gX4_worst_X4_in : GoodIn wsX4_worst (va_wsS RX4 38 yX4_in wsX4_in) := goodIn_app (goodIn_of _ (by decide +kernel)) ggX4_worst_X4_in
set_option maxRecDepth 20000 in
theorem ggX4_worst_X4_cutOf : GoodIn wsX4_worst wsX4_cutOf := goodIn_r _ [9, 10, 11, 12, 13, 14, 15, 16, 17, 18, 19, 20, 21, 22, 23, 24, 25, 26] (by decide +kernel) (by decide +kernel)
set_option maxRecDepth 20000 in
theorem gX4_worst_X4_cutOf : GoodIn wsX4_worst (wsV RX4 59 RX4 yX4_cutOf wsX4_cutOf) := goodIn_app (goodIn_of _ (by decide +kernel)) ggX4_worst_X4_cutOf
theorem dX4_worst_0 : decode cX4_worst 0 = .ok (.iload_n 1, 1) := by decide +kernel
theorem dX4_worst_1 : decode cX4_worst 1 = .ok (.iconst 0, 1) := by decide +kernel
theorem dX4_worst_2 : decode cX4_worst 2 = .ok (.iconst 1, 1) := by decide +kernel
theorem dX4_worst_3 : decode cX4_worst 3 = .ok (.invokestatic 38, 3) := by decide +kernel
theorem dX4_worst_6 : decode cX4_worst 6 = .ok (.ifCond .ne 6, 3) := by decide +kernel
theorem dX4_worst_9 : decode cX4_worst 9 = .ok (.bipush (-3), 2) := by decide +kernel
theorem dX4_worst_11 : decode cX4_worst 11 = .ok (.ireturn, 1) := by decide +kernel
theorem dX4_worst_12 : decode cX4_worst 12 = .ok (.iconst (-1), 1) := by decide +kernel
theorem dX4_worst_13 : decode cX4_worst 13 = .ok (.istore_n 2, 1) := by decide +kernel
theorem dX4_worst_14 : decode cX4_worst 14 = .ok (.iconst 1, 1) := by decide +kernel
theorem dX4_worst_15 : decode cX4_worst 15 = .ok (.istore_n 3, 1) := by decide +kernel
theorem dX4_worst_16 : decode cX4_worst 16 = .ok (.iload_n 3, 1) := by decide +kernel
theorem dX4_worst_17 : decode cX4_worst 17 = .ok (.iconst 1, 1) := by decide +kernel
theorem dX4_worst_18 : decode cX4_worst 18 = .ok (.aload_n 0, 1) := by decide +kernel
theorem dX4_worst_19 : decode cX4_worst 19 = .ok (.getfield 7, 3) := by decide +kernel
theorem dX4_worst_22 : decode cX4_worst 22 = .ok (.ishl, 1) := by decide +kernel
theorem dX4_worst_23 : decode cX4_worst 23 = .ok (.iconst 1, 1) := by decide +kernel
theorem dX4_worst_24 : decode cX4_worst 24 = .ok (.isub, 1) := by decide +kernel
theorem dX4_worst_25 : decode cX4_worst 25 = .ok (.if_icmp .ge 86, 3) := by decide +kernel
theorem dX4_worst_28 : decode cX4_worst 28 = .ok (.aload_n 0, 1) := by decide +kernel
theorem dX4_worst_29 : decode cX4_worst 29 = .ok (.iload_n 3, 1) := by decide +kernel
theorem dX4_worst_30 : decode cX4_worst 30 = .ok (.iconst 0, 1) := by decide +kernel
theorem dX4_worst_31 : decode cX4_worst 31 = .ok (.invokevirtual 59, 3) := by decide +kernel
theorem dX4_worst_34 : decode cX4_worst 34 = .ok (.ifCond .le 71, 3) := by decide +kernel
theorem dX4_worst_37 : decode cX4_worst 37 = .ok (.iload_n 2, 1) := by decide +kernel
theorem dX4_worst_38 : decode cX4_worst 38 = .ok (.iconst (-1), 1) := by decide +kernel
theorem dX4_worst_39 : decode cX4_worst 39 = .ok (.if_icmp .ne 7, 3) := by decide +kernel
theorem dX4_worst_42 : decode cX4_worst 42 = .ok (.iconst 0, 1) := by decide +kernel
theorem dX4_worst_43 : decode cX4_worst 43 = .ok (.goto 30, 3) := by decide +kernel
theorem dX4_worst_46 : decode cX4_worst 46 = .ok (.aload_n 0, 1) := by decide +kernel
theorem dX4_worst_47 : decode cX4_worst 47 = .ok (.iload_n 3, 1) := by decide +kernel
theorem dX4_worst_48 : decode cX4_worst 48 = .ok (.iconst 1, 1) := by decide +kernel
theorem dX4_worst_49 : decode cX4_worst 49 = .ok (.invokevirtual 59, 3) := by decide +kernel
theorem dX4_worst_52 : decode cX4_worst 52 = .ok (.aload_n 0, 1) := by decide +kernel
theorem dX4_worst_53 : decode cX4_worst 53 = .ok (.iload_n 2, 1) := by decide +kernel
theorem dX4_worst_54 : decode cX4_worst 54 = .ok (.iconst 0, 1) := by decide +kernel
theorem dX4_worst_55 : decode cX4_worst 55 = .ok (.invokevirtual 59, 3) := by decide +kernel
theorem dX4_worst_58 : decode cX4_worst 58 = .ok (.imul, 1) := by decide +kernel
theorem dX4_worst_59 : decode cX4_worst 59 = .ok (.aload_n 0, 1) := by decide +kernel
theorem dX4_worst_60 : decode cX4_worst 60 = .ok (.iload_n 2, 1) := by decide +kernel
theorem dX4_worst_61 : decode cX4_worst 61 = .ok (.iconst 1, 1) := by decide +kernel
theorem dX4_worst_62 : decode cX4_worst 62 = .ok (.invokevirtual 59, 3) := by decide +kernel
theorem dX4_worst_65 : decode cX4_worst 65 = .ok (.aload_n 0, 1) := by decide +kernel
theorem dX4_worst_66 : decode cX4_worst 66 = .ok (.iload_n 3, 1) := by decide +kernel
theorem dX4_worst_67 : decode cX4_worst 67 = .ok (.iconst 0, 1) := by decide +kernel
theorem dX4_worst_68 : decode cX4_worst 68 = .ok (.invokevirtual 59, 3) := by decide +kernel
theorem dX4_worst_71 : decode cX4_worst 71 = .ok (.imul, 1) := by decide +kernel
theorem dX4_worst_72 : decode cX4_worst 72 = .ok (.isub, 1) := by decide +kernel
theorem dX4_worst_73 : decode cX4_worst 73 = .ok (.istore 4, 2) := by decide +kernel
theorem dX4_worst_75 : decode cX4_worst 75 = .ok (.iload_n 2, 1) := by decide +kernel
theorem dX4_worst_76 : decode cX4_worst 76 = .ok (.iconst (-1), 1) := by decide +kernel
theorem dX4_worst_77 : decode cX4_worst 77 = .ok (.if_icmp .eq 22, 3) := by decide +kernel
theorem dX4_worst_80 : decode cX4_worst 80 = .ok (.iload_n 1, 1) := by decide +kernel
theorem dX4_worst_81 : decode cX4_worst 81 = .ok (.ifCond .ne 8, 3) := by decide +kernel
theorem dX4_worst_84 : decode cX4_worst 84 = .ok (.iload 4, 2) := by decide +kernel
theorem dX4_worst_86 : decode cX4_worst 86 = .ok (.ifCond .lt 13, 3) := by decide +kernel
theorem dX4_worst_89 : decode cX4_worst 89 = .ok (.iload_n 1, 1) := by decide +kernel
theorem dX4_worst_90 : decode cX4_worst 90 = .ok (.iconst 1, 1) := by decide +kernel
theorem dX4_worst_91 : decode cX4_worst 91 = .ok (.if_icmp .ne 12, 3) := by decide +kernel
theorem dX4_worst_94 : decode cX4_worst 94 = .ok (.iload 4, 2) := by decide +kernel
theorem dX4_worst_96 : decode cX4_worst 96 = .ok (.ifCond .le 7, 3) := by decide +kernel
theorem dX4_worst_99 : decode cX4_worst 99 = .ok (.iload_n 3, 1) := by decide +kernel
theorem dX4_worst_100 : decode cX4_worst 100 = .ok (.goto 4, 3) := by decide +kernel
theorem dX4_worst_103 : decode cX4_worst 103 = .ok (.iload_n 2, 1) := by decide +kernel
theorem dX4_worst_104 : decode cX4_worst 104 = .ok (.istore_n 2, 1) := by decide +kernel
theorem dX4_worst_105 : decode cX4_worst 105 = .ok (.iinc 3 2, 3) := by decide +kernel
theorem dX4_worst_108 : decode cX4_worst 108 = .ok (.goto (-92), 3) := by decide +kernel
theorem dX4_worst_111 : decode cX4_worst 111 = .ok (.iload_n 2, 1) := by decide +kernel
theorem dX4_worst_112 : decode cX4_worst 112 = .ok (.ireturn, 1) := by decide +kernel
set_option maxRecDepth 20000 in
theorem ggX4_promise_X4_in : GoodIn wsX4_promise wsX4_in := goodIn_r _ [5] (by decide +kernel) (by decide +kernel)
set_option maxRecDepth 20000 in
theorem gX4_promise_X4_in : GoodIn wsX4_promise (va_wsS RX4 38 yX4_in wsX4_in) := goodIn_app (goodIn_of _ (by decide +kernel)) ggX4_promise_X4_in
set_option maxRecDepth 20000 in
theorem ggX4_promise_X4_cutOf : GoodIn wsX4_promise wsX4_cutOf := goodIn_r _ [9, 10, 11, 12, 13, 14, 15, 16, 17, 18, 19, 20, 21, 22, 23, 24, 25, 26] (by decide +kernel) (by decide +kernel)
set_option maxRecDepth 20000 in
theorem gX4_promise_X4_cutOf : GoodIn wsX4_promise (wsV RX4 59 RX4 yX4_cutOf wsX4_cutOf) := goodIn_app (goodIn_of _ (by decide +kernel)) ggX4_promise_X4_cutOf
theorem dX4_promise_0 : decode cX4_promise 0 = .ok (.iload_n 2, 1) := by decide +kernel
theorem dX4_promise_1 : decode cX4_promise 1 = .ok (.iconst 1, 1) := by decide +kernel
theorem dX4_promise_2 : decode cX4_promise 2 = .ok (.bipush 20, 2) := by decide +kernel
theorem dX4_promise_4 : decode cX4_promise 4 = .ok (.invokestatic 38, 3) := by decide +kernel
theorem dX4_promise_7 : decode cX4_promise 7 = .ok (.ifCond .eq 12, 3) := by decide +kernel
theorem dX4_promise_10 : decode cX4_promise 10 = .ok (.iload_n 1, 1) := by decide +kernel
theorem dX4_promise_11 : decode cX4_promise 11 = .ok (.iconst 1, 1) := by decide +kernel
theorem dX4_promise_12 : decode cX4_promise 12 = .ok (.iload_n 2, 1) := by decide +kernel
theorem dX4_promise_13 : decode cX4_promise 13 = .ok (.invokestatic 38, 3) := by decide +kernel
theorem dX4_promise_16 : decode cX4_promise 16 = .ok (.ifCond .ne 6, 3) := by decide +kernel
theorem dX4_promise_19 : decode cX4_promise 19 = .ok (.bipush (-3), 2) := by decide +kernel
theorem dX4_promise_21 : decode cX4_promise 21 = .ok (.ireturn, 1) := by decide +kernel
theorem dX4_promise_22 : decode cX4_promise 22 = .ok (.iconst 1, 1) := by decide +kernel
theorem dX4_promise_23 : decode cX4_promise 23 = .ok (.istore_n 3, 1) := by decide +kernel
theorem dX4_promise_24 : decode cX4_promise 24 = .ok (.iconst 1, 1) := by decide +kernel
theorem dX4_promise_25 : decode cX4_promise 25 = .ok (.istore 4, 2) := by decide +kernel
theorem dX4_promise_27 : decode cX4_promise 27 = .ok (.iload 4, 2) := by decide +kernel
theorem dX4_promise_29 : decode cX4_promise 29 = .ok (.iconst 1, 1) := by decide +kernel
theorem dX4_promise_30 : decode cX4_promise 30 = .ok (.aload_n 0, 1) := by decide +kernel
theorem dX4_promise_31 : decode cX4_promise 31 = .ok (.getfield 7, 3) := by decide +kernel
theorem dX4_promise_34 : decode cX4_promise 34 = .ok (.ishl, 1) := by decide +kernel
theorem dX4_promise_35 : decode cX4_promise 35 = .ok (.iconst 1, 1) := by decide +kernel
theorem dX4_promise_36 : decode cX4_promise 36 = .ok (.isub, 1) := by decide +kernel
theorem dX4_promise_37 : decode cX4_promise 37 = .ok (.if_icmp .ge 62, 3) := by decide +kernel
theorem dX4_promise_40 : decode cX4_promise 40 = .ok (.iload_n 2, 1) := by decide +kernel
theorem dX4_promise_41 : decode cX4_promise 41 = .ok (.aload_n 0, 1) := by decide +kernel
theorem dX4_promise_42 : decode cX4_promise 42 = .ok (.iload 4, 2) := by decide +kernel
theorem dX4_promise_44 : decode cX4_promise 44 = .ok (.iconst 1, 1) := by decide +kernel
theorem dX4_promise_45 : decode cX4_promise 45 = .ok (.invokevirtual 59, 3) := by decide +kernel
theorem dX4_promise_48 : decode cX4_promise 48 = .ok (.imul, 1) := by decide +kernel
theorem dX4_promise_49 : decode cX4_promise 49 = .ok (.istore 5, 2) := by decide +kernel
theorem dX4_promise_51 : decode cX4_promise 51 = .ok (.iload_n 3, 1) := by decide +kernel
theorem dX4_promise_52 : decode cX4_promise 52 = .ok (.ifCond .eq 39, 3) := by decide +kernel
theorem dX4_promise_55 : decode cX4_promise 55 = .ok (.iload 5, 2) := by decide +kernel
theorem dX4_promise_57 : decode cX4_promise 57 = .ok (.iload_n 2, 1) := by decide +kernel
theorem dX4_promise_58 : decode cX4_promise 58 = .ok (.iload_n 1, 1) := by decide +kernel
theorem dX4_promise_59 : decode cX4_promise 59 = .ok (.isub, 1) := by decide +kernel
theorem dX4_promise_60 : decode cX4_promise 60 = .ok (.aload_n 0, 1) := by decide +kernel
theorem dX4_promise_61 : decode cX4_promise 61 = .ok (.iload 4, 2) := by decide +kernel
theorem dX4_promise_63 : decode cX4_promise 63 = .ok (.iconst 0, 1) := by decide +kernel
theorem dX4_promise_64 : decode cX4_promise 64 = .ok (.invokevirtual 59, 3) := by decide +kernel
theorem dX4_promise_67 : decode cX4_promise 67 = .ok (.imul, 1) := by decide +kernel
theorem dX4_promise_68 : decode cX4_promise 68 = .ok (.if_icmp .lt 23, 3) := by decide +kernel
theorem dX4_promise_71 : decode cX4_promise 71 = .ok (.iload 5, 2) := by decide +kernel
theorem dX4_promise_73 : decode cX4_promise 73 = .ok (.iload_n 2, 1) := by decide +kernel
theorem dX4_promise_74 : decode cX4_promise 74 = .ok (.iload_n 1, 1) := by decide +kernel
theorem dX4_promise_75 : decode cX4_promise 75 = .ok (.iadd, 1) := by decide +kernel
theorem dX4_promise_76 : decode cX4_promise 76 = .ok (.aload_n 0, 1) := by decide +kernel
theorem dX4_promise_77 : decode cX4_promise 77 = .ok (.iload 4, 2) := by decide +kernel
theorem dX4_promise_79 : decode cX4_promise 79 = .ok (.iconst 0, 1) := by decide +kernel
theorem dX4_promise_80 : decode cX4_promise 80 = .ok (.invokevirtual 59, 3) := by decide +kernel
theorem dX4_promise_83 : decode cX4_promise 83 = .ok (.imul, 1) := by decide +kernel
theorem dX4_promise_84 : decode cX4_promise 84 = .ok (.if_icmp .gt 7, 3) := by decide +kernel
theorem dX4_promise_87 : decode cX4_promise 87 = .ok (.iconst 1, 1) := by decide +kernel
theorem dX4_promise_88 : decode cX4_promise 88 = .ok (.goto 4, 3) := by decide +kernel
theorem dX4_promise_91 : decode cX4_promise 91 = .ok (.iconst 0, 1) := by decide +kernel
theorem dX4_promise_92 : decode cX4_promise 92 = .ok (.istore_n 3, 1) := by decide +kernel
theorem dX4_promise_93 : decode cX4_promise 93 = .ok (.iinc 4 2, 3) := by decide +kernel
theorem dX4_promise_96 : decode cX4_promise 96 = .ok (.goto (-69), 3) := by decide +kernel
theorem dX4_promise_99 : decode cX4_promise 99 = .ok (.iload_n 3, 1) := by decide +kernel
theorem dX4_promise_100 : decode cX4_promise 100 = .ok (.ifCond .eq 7, 3) := by decide +kernel
theorem dX4_promise_103 : decode cX4_promise 103 = .ok (.iconst 1, 1) := by decide +kernel
theorem dX4_promise_104 : decode cX4_promise 104 = .ok (.goto 4, 3) := by decide +kernel
theorem dX4_promise_107 : decode cX4_promise 107 = .ok (.iconst 0, 1) := by decide +kernel
theorem dX4_promise_108 : decode cX4_promise 108 = .ok (.ireturn, 1) := by decide +kernel
theorem dX4_apart_0 : decode cX4_apart 0 = .ok (.iconst 0, 1) := by decide +kernel
theorem dX4_apart_1 : decode cX4_apart 1 = .ok (.istore_n 1, 1) := by decide +kernel
theorem dX4_apart_2 : decode cX4_apart 2 = .ok (.iload_n 1, 1) := by decide +kernel
theorem dX4_apart_3 : decode cX4_apart 3 = .ok (.bipush 7, 2) := by decide +kernel
theorem dX4_apart_5 : decode cX4_apart 5 = .ok (.if_icmp .ge 16, 3) := by decide +kernel
theorem dX4_apart_8 : decode cX4_apart 8 = .ok (.aload_n 0, 1) := by decide +kernel
theorem dX4_apart_9 : decode cX4_apart 9 = .ok (.getfield 29, 3) := by decide +kernel
theorem dX4_apart_12 : decode cX4_apart 12 = .ok (.iload_n 1, 1) := by decide +kernel
theorem dX4_apart_13 : decode cX4_apart 13 = .ok (.iload_n 1, 1) := by decide +kernel
theorem dX4_apart_14 : decode cX4_apart 14 = .ok (.iastore, 1) := by decide +kernel
theorem dX4_apart_15 : decode cX4_apart 15 = .ok (.iinc 1 1, 3) := by decide +kernel
theorem dX4_apart_18 : decode cX4_apart 18 = .ok (.goto (-16), 3) := by decide +kernel
theorem dX4_apart_21 : decode cX4_apart 21 = .ok (.return_, 1) := by decide +kernel
theorem dX4_join_0 : decode cX4_join 0 = .ok (.aload_n 0, 1) := by decide +kernel
theorem dX4_join_1 : decode cX4_join 1 = .ok (.getfield 29, 3) := by decide +kernel
theorem dX4_join_4 : decode cX4_join 4 = .ok (.aload_n 0, 1) := by decide +kernel
theorem dX4_join_5 : decode cX4_join 5 = .ok (.getfield 13, 3) := by decide +kernel
theorem dX4_join_8 : decode cX4_join 8 = .ok (.iload_n 1, 1) := by decide +kernel
theorem dX4_join_9 : decode cX4_join 9 = .ok (.iaload, 1) := by decide +kernel
theorem dX4_join_10 : decode cX4_join 10 = .ok (.iaload, 1) := by decide +kernel
theorem dX4_join_11 : decode cX4_join 11 = .ok (.istore_n 2, 1) := by decide +kernel
theorem dX4_join_12 : decode cX4_join 12 = .ok (.aload_n 0, 1) := by decide +kernel
theorem dX4_join_13 : decode cX4_join 13 = .ok (.getfield 29, 3) := by decide +kernel
theorem dX4_join_16 : decode cX4_join 16 = .ok (.aload_n 0, 1) := by decide +kernel
theorem dX4_join_17 : decode cX4_join 17 = .ok (.getfield 17, 3) := by decide +kernel
theorem dX4_join_20 : decode cX4_join 20 = .ok (.iload_n 1, 1) := by decide +kernel
theorem dX4_join_21 : decode cX4_join 21 = .ok (.iaload, 1) := by decide +kernel
theorem dX4_join_22 : decode cX4_join 22 = .ok (.iaload, 1) := by decide +kernel
theorem dX4_join_23 : decode cX4_join 23 = .ok (.istore_n 3, 1) := by decide +kernel
theorem dX4_join_24 : decode cX4_join 24 = .ok (.iconst 0, 1) := by decide +kernel
theorem dX4_join_25 : decode cX4_join 25 = .ok (.istore 4, 2) := by decide +kernel
theorem dX4_join_27 : decode cX4_join 27 = .ok (.iload 4, 2) := by decide +kernel
theorem dX4_join_29 : decode cX4_join 29 = .ok (.aload_n 0, 1) := by decide +kernel
theorem dX4_join_30 : decode cX4_join 30 = .ok (.getfield 7, 3) := by decide +kernel
theorem dX4_join_33 : decode cX4_join 33 = .ok (.if_icmp .ge 43, 3) := by decide +kernel
theorem dX4_join_36 : decode cX4_join 36 = .ok (.iload_n 2, 1) := by decide +kernel
theorem dX4_join_37 : decode cX4_join 37 = .ok (.iload_n 3, 1) := by decide +kernel
theorem dX4_join_38 : decode cX4_join 38 = .ok (.if_icmp .eq 38, 3) := by decide +kernel
theorem dX4_join_41 : decode cX4_join 41 = .ok (.aload_n 0, 1) := by decide +kernel
theorem dX4_join_42 : decode cX4_join 42 = .ok (.getfield 29, 3) := by decide +kernel
theorem dX4_join_45 : decode cX4_join 45 = .ok (.iload 4, 2) := by decide +kernel
theorem dX4_join_47 : decode cX4_join 47 = .ok (.aload_n 0, 1) := by decide +kernel
theorem dX4_join_48 : decode cX4_join 48 = .ok (.getfield 29, 3) := by decide +kernel
theorem dX4_join_51 : decode cX4_join 51 = .ok (.iload 4, 2) := by decide +kernel
theorem dX4_join_53 : decode cX4_join 53 = .ok (.iaload, 1) := by decide +kernel
theorem dX4_join_54 : decode cX4_join 54 = .ok (.iload_n 3, 1) := by decide +kernel
theorem dX4_join_55 : decode cX4_join 55 = .ok (.if_icmp .ne 7, 3) := by decide +kernel
theorem dX4_join_58 : decode cX4_join 58 = .ok (.iload_n 2, 1) := by decide +kernel
theorem dX4_join_59 : decode cX4_join 59 = .ok (.goto 10, 3) := by decide +kernel
theorem dX4_join_62 : decode cX4_join 62 = .ok (.aload_n 0, 1) := by decide +kernel
theorem dX4_join_63 : decode cX4_join 63 = .ok (.getfield 29, 3) := by decide +kernel
theorem dX4_join_66 : decode cX4_join 66 = .ok (.iload 4, 2) := by decide +kernel
theorem dX4_join_68 : decode cX4_join 68 = .ok (.iaload, 1) := by decide +kernel
theorem dX4_join_69 : decode cX4_join 69 = .ok (.iastore, 1) := by decide +kernel
theorem dX4_join_70 : decode cX4_join 70 = .ok (.iinc 4 1, 3) := by decide +kernel
theorem dX4_join_73 : decode cX4_join 73 = .ok (.goto (-46), 3) := by decide +kernel
theorem dX4_join_76 : decode cX4_join 76 = .ok (.iload_n 2, 1) := by decide +kernel
theorem dX4_join_77 : decode cX4_join 77 = .ok (.iload_n 3, 1) := by decide +kernel
theorem dX4_join_78 : decode cX4_join 78 = .ok (.if_icmp .eq 7, 3) := by decide +kernel
theorem dX4_join_81 : decode cX4_join 81 = .ok (.iconst 1, 1) := by decide +kernel
theorem dX4_join_82 : decode cX4_join 82 = .ok (.goto 4, 3) := by decide +kernel
theorem dX4_join_85 : decode cX4_join 85 = .ok (.iconst 0, 1) := by decide +kernel
theorem dX4_join_86 : decode cX4_join 86 = .ok (.ireturn, 1) := by decide +kernel
set_option maxRecDepth 20000 in
theorem ggX4_findForests_X4_apart : GoodIn wsX4_findForests wsX4_apart := goodIn_r _ [7, 8, 16, 17, 18, 19, 20, 21, 22, 23, 24, 25, 26, 27] (by decide +kernel) (by decide +kernel)
set_option maxRecDepth 20000 in
theorem gX4_findForests_X4_apart : GoodIn wsX4_findForests (wsV RX4 63 RX4 yX4_apart wsX4_apart) := goodIn_app (goodIn_of _ (by decide +kernel)) ggX4_findForests_X4_apart
set_option maxRecDepth 20000 in
theorem ggX4_findForests_X4_join : GoodIn wsX4_findForests wsX4_join := goodIn_r _ [12, 8, 13, 14, 15, 16, 17, 18, 19, 20, 21, 22, 23, 24, 25, 26, 27] (by decide +kernel) (by decide +kernel)
set_option maxRecDepth 20000 in
theorem gX4_findForests_X4_join : GoodIn wsX4_findForests (wsV RX4 66 RX4 yX4_join wsX4_join) := goodIn_app (goodIn_of _ (by decide +kernel)) ggX4_findForests_X4_join
theorem dX4_findForests_0 : decode cX4_findForests 0 = .ok (.iconst 0, 1) := by decide +kernel
theorem dX4_findForests_1 : decode cX4_findForests 1 = .ok (.istore_n 1, 1) := by decide +kernel
theorem dX4_findForests_2 : decode cX4_findForests 2 = .ok (.iload_n 1, 1) := by decide +kernel
theorem dX4_findForests_3 : decode cX4_findForests 3 = .ok (.aload_n 0, 1) := by decide +kernel
theorem dX4_findForests_4 : decode cX4_findForests 4 = .ok (.getfield 42, 3) := by decide +kernel
theorem dX4_findForests_7 : decode cX4_findForests 7 = .ok (.if_icmp .ge 16, 3) := by decide +kernel
theorem dX4_findForests_10 : decode cX4_findForests 10 = .ok (.aload_n 0, 1) := by decide +kernel
theorem dX4_findForests_11 : decode cX4_findForests 11 = .ok (.getfield 26, 3) := by decide +kernel
theorem dX4_findForests_14 : decode cX4_findForests 14 = .ok (.iload_n 1, 1) := by decide +kernel
theorem dX4_findForests_15 : decode cX4_findForests 15 = .ok (.iconst 0, 1) := by decide +kernel
theorem dX4_findForests_16 : decode cX4_findForests 16 = .ok (.iastore, 1) := by decide +kernel
theorem dX4_findForests_17 : decode cX4_findForests 17 = .ok (.iinc 1 1, 3) := by decide +kernel
theorem dX4_findForests_20 : decode cX4_findForests 20 = .ok (.goto (-18), 3) := by decide +kernel
theorem dX4_findForests_23 : decode cX4_findForests 23 = .ok (.aload_n 0, 1) := by decide +kernel
theorem dX4_findForests_24 : decode cX4_findForests 24 = .ok (.getfield 42, 3) := by decide +kernel
theorem dX4_findForests_27 : decode cX4_findForests 27 = .ok (.istore_n 1, 1) := by decide +kernel
theorem dX4_findForests_28 : decode cX4_findForests 28 = .ok (.iconst 0, 1) := by decide +kernel
theorem dX4_findForests_29 : decode cX4_findForests 29 = .ok (.istore_n 2, 1) := by decide +kernel
theorem dX4_findForests_30 : decode cX4_findForests 30 = .ok (.iload_n 1, 1) := by decide +kernel
theorem dX4_findForests_31 : decode cX4_findForests 31 = .ok (.ifCond .le 56, 3) := by decide +kernel
theorem dX4_findForests_34 : decode cX4_findForests 34 = .ok (.iinc 2 1, 3) := by decide +kernel
theorem dX4_findForests_37 : decode cX4_findForests 37 = .ok (.aload_n 0, 1) := by decide +kernel
theorem dX4_findForests_38 : decode cX4_findForests 38 = .ok (.invokevirtual 63, 3) := by decide +kernel
theorem dX4_findForests_41 : decode cX4_findForests 41 = .ok (.iconst 0, 1) := by decide +kernel
theorem dX4_findForests_42 : decode cX4_findForests 42 = .ok (.istore_n 3, 1) := by decide +kernel
theorem dX4_findForests_43 : decode cX4_findForests 43 = .ok (.iload_n 3, 1) := by decide +kernel
theorem dX4_findForests_44 : decode cX4_findForests 44 = .ok (.aload_n 0, 1) := by decide +kernel
theorem dX4_findForests_45 : decode cX4_findForests 45 = .ok (.getfield 42, 3) := by decide +kernel
theorem dX4_findForests_48 : decode cX4_findForests 48 = .ok (.if_icmp .ge 36, 3) := by decide +kernel
theorem dX4_findForests_51 : decode cX4_findForests 51 = .ok (.aload_n 0, 1) := by decide +kernel
theorem dX4_findForests_52 : decode cX4_findForests 52 = .ok (.getfield 26, 3) := by decide +kernel
theorem dX4_findForests_55 : decode cX4_findForests 55 = .ok (.iload_n 3, 1) := by decide +kernel
theorem dX4_findForests_56 : decode cX4_findForests 56 = .ok (.iaload, 1) := by decide +kernel
theorem dX4_findForests_57 : decode cX4_findForests 57 = .ok (.ifCond .ne 21, 3) := by decide +kernel
theorem dX4_findForests_60 : decode cX4_findForests 60 = .ok (.aload_n 0, 1) := by decide +kernel
theorem dX4_findForests_61 : decode cX4_findForests 61 = .ok (.iload_n 3, 1) := by decide +kernel
theorem dX4_findForests_62 : decode cX4_findForests 62 = .ok (.invokevirtual 66, 3) := by decide +kernel
theorem dX4_findForests_65 : decode cX4_findForests 65 = .ok (.ifCond .eq 13, 3) := by decide +kernel
theorem dX4_findForests_68 : decode cX4_findForests 68 = .ok (.aload_n 0, 1) := by decide +kernel
theorem dX4_findForests_69 : decode cX4_findForests 69 = .ok (.getfield 26, 3) := by decide +kernel
theorem dX4_findForests_72 : decode cX4_findForests 72 = .ok (.iload_n 3, 1) := by decide +kernel
theorem dX4_findForests_73 : decode cX4_findForests 73 = .ok (.iload_n 2, 1) := by decide +kernel
theorem dX4_findForests_74 : decode cX4_findForests 74 = .ok (.iastore, 1) := by decide +kernel
theorem dX4_findForests_75 : decode cX4_findForests 75 = .ok (.iinc 1 (-1), 3) := by decide +kernel
theorem dX4_findForests_78 : decode cX4_findForests 78 = .ok (.iinc 3 1, 3) := by decide +kernel
theorem dX4_findForests_81 : decode cX4_findForests 81 = .ok (.goto (-38), 3) := by decide +kernel
theorem dX4_findForests_84 : decode cX4_findForests 84 = .ok (.goto (-54), 3) := by decide +kernel
theorem dX4_findForests_87 : decode cX4_findForests 87 = .ok (.iload_n 2, 1) := by decide +kernel
theorem dX4_findForests_88 : decode cX4_findForests 88 = .ok (.ireturn, 1) := by decide +kernel
set_option maxRecDepth 20000 in
theorem ggX4_forests_X4_findForests : GoodIn wsX4_forests wsX4_findForests := goodIn_r _ [5, 6, 7, 8, 9, 10, 4, 11, 12, 13, 14, 15, 16, 17, 18, 19, 20, 21, 22, 23, 24, 25, 26, 27, 28, 29, 30, 31] (by decide +kernel) (by decide +kernel)
set_option maxRecDepth 20000 in
theorem gX4_forests_X4_findForests : GoodIn wsX4_forests (wsV RX4 52 RX4 yX4_findForests wsX4_findForests) := goodIn_app (goodIn_of _ (by decide +kernel)) ggX4_forests_X4_findForests
theorem dX4_forests_0 : decode cX4_forests 0 = .ok (.aload_n 0, 1) := by decide +kernel
theorem dX4_forests_1 : decode cX4_forests 1 = .ok (.invokevirtual 52, 3) := by decide +kernel
theorem dX4_forests_4 : decode cX4_forests 4 = .ok (.ireturn, 1) := by decide +kernel
theorem dX4_keptMany_0 : decode cX4_keptMany 0 = .ok (.iconst 0, 1) := by decide +kernel
theorem dX4_keptMany_1 : decode cX4_keptMany 1 = .ok (.istore_n 1, 1) := by decide +kernel
theorem dX4_keptMany_2 : decode cX4_keptMany 2 = .ok (.iconst 0, 1) := by decide +kernel
theorem dX4_keptMany_3 : decode cX4_keptMany 3 = .ok (.istore_n 2, 1) := by decide +kernel
theorem dX4_keptMany_4 : decode cX4_keptMany 4 = .ok (.iload_n 2, 1) := by decide +kernel
theorem dX4_keptMany_5 : decode cX4_keptMany 5 = .ok (.aload_n 0, 1) := by decide +kernel
theorem dX4_keptMany_6 : decode cX4_keptMany 6 = .ok (.getfield 42, 3) := by decide +kernel
theorem dX4_keptMany_9 : decode cX4_keptMany 9 = .ok (.if_icmp .ge 26, 3) := by decide +kernel
theorem dX4_keptMany_12 : decode cX4_keptMany 12 = .ok (.iload_n 1, 1) := by decide +kernel
theorem dX4_keptMany_13 : decode cX4_keptMany 13 = .ok (.aload_n 0, 1) := by decide +kernel
theorem dX4_keptMany_14 : decode cX4_keptMany 14 = .ok (.getfield 23, 3) := by decide +kernel
theorem dX4_keptMany_17 : decode cX4_keptMany 17 = .ok (.iload_n 2, 1) := by decide +kernel
theorem dX4_keptMany_18 : decode cX4_keptMany 18 = .ok (.iaload, 1) := by decide +kernel
theorem dX4_keptMany_19 : decode cX4_keptMany 19 = .ok (.ifCond .le 7, 3) := by decide +kernel
theorem dX4_keptMany_22 : decode cX4_keptMany 22 = .ok (.iconst 1, 1) := by decide +kernel
theorem dX4_keptMany_23 : decode cX4_keptMany 23 = .ok (.goto 4, 3) := by decide +kernel
theorem dX4_keptMany_26 : decode cX4_keptMany 26 = .ok (.iconst 0, 1) := by decide +kernel
theorem dX4_keptMany_27 : decode cX4_keptMany 27 = .ok (.iadd, 1) := by decide +kernel
theorem dX4_keptMany_28 : decode cX4_keptMany 28 = .ok (.istore_n 1, 1) := by decide +kernel
theorem dX4_keptMany_29 : decode cX4_keptMany 29 = .ok (.iinc 2 1, 3) := by decide +kernel
theorem dX4_keptMany_32 : decode cX4_keptMany 32 = .ok (.goto (-28), 3) := by decide +kernel
theorem dX4_keptMany_35 : decode cX4_keptMany 35 = .ok (.iload_n 1, 1) := by decide +kernel
theorem dX4_keptMany_36 : decode cX4_keptMany 36 = .ok (.ireturn, 1) := by decide +kernel
set_option maxRecDepth 20000 in
theorem ggX4_peel_X4_in : GoodIn wsX4_peel wsX4_in := goodIn_r _ [8] (by decide +kernel) (by decide +kernel)
set_option maxRecDepth 20000 in
theorem gX4_peel_X4_in : GoodIn wsX4_peel (va_wsS RX4 38 yX4_in wsX4_in) := goodIn_app (goodIn_of _ (by decide +kernel)) ggX4_peel_X4_in
set_option maxRecDepth 20000 in
theorem ggX4_peel_X4_findForests : GoodIn wsX4_peel wsX4_findForests := goodIn_r _ [12, 1, 3, 13, 14, 15, 7, 16, 17, 18, 19, 20, 21, 22, 23, 24, 29, 30, 31, 32, 33, 34, 35, 36, 37, 38, 39, 40] (by decide +kernel) (by decide +kernel)
set_option maxRecDepth 20000 in
theorem gX4_peel_X4_findForests : GoodIn wsX4_peel (wsV RX4 52 RX4 yX4_findForests wsX4_findForests) := goodIn_app (goodIn_of _ (by decide +kernel)) ggX4_peel_X4_findForests
set_option maxRecDepth 20000 in
theorem ggX4_peel_X4_keptMany : GoodIn wsX4_peel wsX4_keptMany := goodIn_r _ [28, 1, 2, 29, 30, 31, 32, 33, 34, 35, 36, 37, 38, 39, 40] (by decide +kernel) (by decide +kernel)
set_option maxRecDepth 20000 in
theorem gX4_peel_X4_keptMany : GoodIn wsX4_peel (wsV RX4 69 RX4 yX4_keptMany wsX4_keptMany) := goodIn_app (goodIn_of _ (by decide +kernel)) ggX4_peel_X4_keptMany
theorem dX4_peel_0 : decode cX4_peel 0 = .ok (.iload_n 1, 1) := by decide +kernel
theorem dX4_peel_1 : decode cX4_peel 1 = .ok (.iconst 0, 1) := by decide +kernel
theorem dX4_peel_2 : decode cX4_peel 2 = .ok (.bipush 12, 2) := by decide +kernel
theorem dX4_peel_4 : decode cX4_peel 4 = .ok (.invokestatic 38, 3) := by decide +kernel
theorem dX4_peel_7 : decode cX4_peel 7 = .ok (.ifCond .ne 6, 3) := by decide +kernel
theorem dX4_peel_10 : decode cX4_peel 10 = .ok (.bipush (-3), 2) := by decide +kernel
theorem dX4_peel_12 : decode cX4_peel 12 = .ok (.ireturn, 1) := by decide +kernel
theorem dX4_peel_13 : decode cX4_peel 13 = .ok (.aload_n 0, 1) := by decide +kernel
theorem dX4_peel_14 : decode cX4_peel 14 = .ok (.invokevirtual 52, 3) := by decide +kernel
theorem dX4_peel_17 : decode cX4_peel 17 = .ok (.pop, 1) := by decide +kernel
theorem dX4_peel_18 : decode cX4_peel 18 = .ok (.iconst 0, 1) := by decide +kernel
theorem dX4_peel_19 : decode cX4_peel 19 = .ok (.istore_n 2, 1) := by decide +kernel
theorem dX4_peel_20 : decode cX4_peel 20 = .ok (.iload_n 2, 1) := by decide +kernel
theorem dX4_peel_21 : decode cX4_peel 21 = .ok (.aload_n 0, 1) := by decide +kernel
theorem dX4_peel_22 : decode cX4_peel 22 = .ok (.getfield 42, 3) := by decide +kernel
theorem dX4_peel_25 : decode cX4_peel 25 = .ok (.if_icmp .ge 35, 3) := by decide +kernel
theorem dX4_peel_28 : decode cX4_peel 28 = .ok (.aload_n 0, 1) := by decide +kernel
theorem dX4_peel_29 : decode cX4_peel 29 = .ok (.getfield 23, 3) := by decide +kernel
theorem dX4_peel_32 : decode cX4_peel 32 = .ok (.iload_n 2, 1) := by decide +kernel
theorem dX4_peel_33 : decode cX4_peel 33 = .ok (.aload_n 0, 1) := by decide +kernel
theorem dX4_peel_34 : decode cX4_peel 34 = .ok (.getfield 26, 3) := by decide +kernel
theorem dX4_peel_37 : decode cX4_peel 37 = .ok (.iload_n 2, 1) := by decide +kernel
theorem dX4_peel_38 : decode cX4_peel 38 = .ok (.iaload, 1) := by decide +kernel
theorem dX4_peel_39 : decode cX4_peel 39 = .ok (.iload_n 1, 1) := by decide +kernel
theorem dX4_peel_40 : decode cX4_peel 40 = .ok (.if_icmp .gt 12, 3) := by decide +kernel
theorem dX4_peel_43 : decode cX4_peel 43 = .ok (.aload_n 0, 1) := by decide +kernel
theorem dX4_peel_44 : decode cX4_peel 44 = .ok (.getfield 20, 3) := by decide +kernel
theorem dX4_peel_47 : decode cX4_peel 47 = .ok (.iload_n 2, 1) := by decide +kernel
theorem dX4_peel_48 : decode cX4_peel 48 = .ok (.iaload, 1) := by decide +kernel
theorem dX4_peel_49 : decode cX4_peel 49 = .ok (.goto 4, 3) := by decide +kernel
theorem dX4_peel_52 : decode cX4_peel 52 = .ok (.iconst 0, 1) := by decide +kernel
theorem dX4_peel_53 : decode cX4_peel 53 = .ok (.iastore, 1) := by decide +kernel
theorem dX4_peel_54 : decode cX4_peel 54 = .ok (.iinc 2 1, 3) := by decide +kernel
theorem dX4_peel_57 : decode cX4_peel 57 = .ok (.goto (-37), 3) := by decide +kernel
theorem dX4_peel_60 : decode cX4_peel 60 = .ok (.aload_n 0, 1) := by decide +kernel
theorem dX4_peel_61 : decode cX4_peel 61 = .ok (.invokevirtual 69, 3) := by decide +kernel
theorem dX4_peel_64 : decode cX4_peel 64 = .ok (.ireturn, 1) := by decide +kernel
theorem dX4_findFar_0 : decode cX4_findFar 0 = .ok (.iconst 0, 1) := by decide +kernel
theorem dX4_findFar_1 : decode cX4_findFar 1 = .ok (.istore_n 3, 1) := by decide +kernel
theorem dX4_findFar_2 : decode cX4_findFar 2 = .ok (.iload_n 3, 1) := by decide +kernel
theorem dX4_findFar_3 : decode cX4_findFar 3 = .ok (.aload_n 0, 1) := by decide +kernel
theorem dX4_findFar_4 : decode cX4_findFar 4 = .ok (.getfield 7, 3) := by decide +kernel
theorem dX4_findFar_7 : decode cX4_findFar 7 = .ok (.if_icmp .ge 49, 3) := by decide +kernel
theorem dX4_findFar_10 : decode cX4_findFar 10 = .ok (.iconst 0, 1) := by decide +kernel
theorem dX4_findFar_11 : decode cX4_findFar 11 = .ok (.istore 4, 2) := by decide +kernel
theorem dX4_findFar_13 : decode cX4_findFar 13 = .ok (.iload 4, 2) := by decide +kernel
theorem dX4_findFar_15 : decode cX4_findFar 15 = .ok (.aload_n 0, 1) := by decide +kernel
theorem dX4_findFar_16 : decode cX4_findFar 16 = .ok (.getfield 7, 3) := by decide +kernel
theorem dX4_findFar_19 : decode cX4_findFar 19 = .ok (.if_icmp .ge 31, 3) := by decide +kernel
theorem dX4_findFar_22 : decode cX4_findFar 22 = .ok (.aload_n 2, 1) := by decide +kernel
theorem dX4_findFar_23 : decode cX4_findFar 23 = .ok (.bipush 7, 2) := by decide +kernel
theorem dX4_findFar_25 : decode cX4_findFar 25 = .ok (.iload_n 3, 1) := by decide +kernel
theorem dX4_findFar_26 : decode cX4_findFar 26 = .ok (.imul, 1) := by decide +kernel
theorem dX4_findFar_27 : decode cX4_findFar 27 = .ok (.iload 4, 2) := by decide +kernel
theorem dX4_findFar_29 : decode cX4_findFar 29 = .ok (.iadd, 1) := by decide +kernel
theorem dX4_findFar_30 : decode cX4_findFar 30 = .ok (.iload_n 3, 1) := by decide +kernel
theorem dX4_findFar_31 : decode cX4_findFar 31 = .ok (.iload 4, 2) := by decide +kernel
theorem dX4_findFar_33 : decode cX4_findFar 33 = .ok (.if_icmp .ne 7, 3) := by decide +kernel
theorem dX4_findFar_36 : decode cX4_findFar 36 = .ok (.iconst 0, 1) := by decide +kernel
theorem dX4_findFar_37 : decode cX4_findFar 37 = .ok (.goto 6, 3) := by decide +kernel
theorem dX4_findFar_40 : decode cX4_findFar 40 = .ok (.sipush 10000, 3) := by decide +kernel
theorem dX4_findFar_43 : decode cX4_findFar 43 = .ok (.iastore, 1) := by decide +kernel
theorem dX4_findFar_44 : decode cX4_findFar 44 = .ok (.iinc 4 1, 3) := by decide +kernel
theorem dX4_findFar_47 : decode cX4_findFar 47 = .ok (.goto (-34), 3) := by decide +kernel
theorem dX4_findFar_50 : decode cX4_findFar 50 = .ok (.iinc 3 1, 3) := by decide +kernel
theorem dX4_findFar_53 : decode cX4_findFar 53 = .ok (.goto (-51), 3) := by decide +kernel
theorem dX4_findFar_56 : decode cX4_findFar 56 = .ok (.iconst 0, 1) := by decide +kernel
theorem dX4_findFar_57 : decode cX4_findFar 57 = .ok (.istore_n 3, 1) := by decide +kernel
theorem dX4_findFar_58 : decode cX4_findFar 58 = .ok (.iload_n 3, 1) := by decide +kernel
theorem dX4_findFar_59 : decode cX4_findFar 59 = .ok (.aload_n 0, 1) := by decide +kernel
theorem dX4_findFar_60 : decode cX4_findFar 60 = .ok (.getfield 42, 3) := by decide +kernel
theorem dX4_findFar_63 : decode cX4_findFar 63 = .ok (.if_icmp .ge 93, 3) := by decide +kernel
theorem dX4_findFar_66 : decode cX4_findFar 66 = .ok (.iload_n 1, 1) := by decide +kernel
theorem dX4_findFar_67 : decode cX4_findFar 67 = .ok (.iload_n 3, 1) := by decide +kernel
theorem dX4_findFar_68 : decode cX4_findFar 68 = .ok (.ishr, 1) := by decide +kernel
theorem dX4_findFar_69 : decode cX4_findFar 69 = .ok (.iconst 1, 1) := by decide +kernel
theorem dX4_findFar_70 : decode cX4_findFar 70 = .ok (.iand, 1) := by decide +kernel
theorem dX4_findFar_71 : decode cX4_findFar 71 = .ok (.iconst 1, 1) := by decide +kernel
theorem dX4_findFar_72 : decode cX4_findFar 72 = .ok (.if_icmp .ne 78, 3) := by decide +kernel
theorem dX4_findFar_75 : decode cX4_findFar 75 = .ok (.aload_n 0, 1) := by decide +kernel
theorem dX4_findFar_76 : decode cX4_findFar 76 = .ok (.getfield 20, 3) := by decide +kernel
theorem dX4_findFar_79 : decode cX4_findFar 79 = .ok (.iload_n 3, 1) := by decide +kernel
theorem dX4_findFar_80 : decode cX4_findFar 80 = .ok (.iaload, 1) := by decide +kernel
theorem dX4_findFar_81 : decode cX4_findFar 81 = .ok (.aload_n 2, 1) := by decide +kernel
theorem dX4_findFar_82 : decode cX4_findFar 82 = .ok (.bipush 7, 2) := by decide +kernel
theorem dX4_findFar_84 : decode cX4_findFar 84 = .ok (.aload_n 0, 1) := by decide +kernel
theorem dX4_findFar_85 : decode cX4_findFar 85 = .ok (.getfield 13, 3) := by decide +kernel
theorem dX4_findFar_88 : decode cX4_findFar 88 = .ok (.iload_n 3, 1) := by decide +kernel
theorem dX4_findFar_89 : decode cX4_findFar 89 = .ok (.iaload, 1) := by decide +kernel
theorem dX4_findFar_90 : decode cX4_findFar 90 = .ok (.imul, 1) := by decide +kernel
theorem dX4_findFar_91 : decode cX4_findFar 91 = .ok (.aload_n 0, 1) := by decide +kernel
theorem dX4_findFar_92 : decode cX4_findFar 92 = .ok (.getfield 17, 3) := by decide +kernel
theorem dX4_findFar_95 : decode cX4_findFar 95 = .ok (.iload_n 3, 1) := by decide +kernel
theorem dX4_findFar_96 : decode cX4_findFar 96 = .ok (.iaload, 1) := by decide +kernel
theorem dX4_findFar_97 : decode cX4_findFar 97 = .ok (.iadd, 1) := by decide +kernel
theorem dX4_findFar_98 : decode cX4_findFar 98 = .ok (.iaload, 1) := by decide +kernel
theorem dX4_findFar_99 : decode cX4_findFar 99 = .ok (.if_icmp .ge 51, 3) := by decide +kernel
theorem dX4_findFar_102 : decode cX4_findFar 102 = .ok (.aload_n 2, 1) := by decide +kernel
theorem dX4_findFar_103 : decode cX4_findFar 103 = .ok (.bipush 7, 2) := by decide +kernel
theorem dX4_findFar_105 : decode cX4_findFar 105 = .ok (.aload_n 0, 1) := by decide +kernel
theorem dX4_findFar_106 : decode cX4_findFar 106 = .ok (.getfield 13, 3) := by decide +kernel
theorem dX4_findFar_109 : decode cX4_findFar 109 = .ok (.iload_n 3, 1) := by decide +kernel
theorem dX4_findFar_110 : decode cX4_findFar 110 = .ok (.iaload, 1) := by decide +kernel
theorem dX4_findFar_111 : decode cX4_findFar 111 = .ok (.imul, 1) := by decide +kernel
theorem dX4_findFar_112 : decode cX4_findFar 112 = .ok (.aload_n 0, 1) := by decide +kernel
theorem dX4_findFar_113 : decode cX4_findFar 113 = .ok (.getfield 17, 3) := by decide +kernel
theorem dX4_findFar_116 : decode cX4_findFar 116 = .ok (.iload_n 3, 1) := by decide +kernel
theorem dX4_findFar_117 : decode cX4_findFar 117 = .ok (.iaload, 1) := by decide +kernel
theorem dX4_findFar_118 : decode cX4_findFar 118 = .ok (.iadd, 1) := by decide +kernel
theorem dX4_findFar_119 : decode cX4_findFar 119 = .ok (.aload_n 0, 1) := by decide +kernel
theorem dX4_findFar_120 : decode cX4_findFar 120 = .ok (.getfield 20, 3) := by decide +kernel
theorem dX4_findFar_123 : decode cX4_findFar 123 = .ok (.iload_n 3, 1) := by decide +kernel
theorem dX4_findFar_124 : decode cX4_findFar 124 = .ok (.iaload, 1) := by decide +kernel
theorem dX4_findFar_125 : decode cX4_findFar 125 = .ok (.iastore, 1) := by decide +kernel
theorem dX4_findFar_126 : decode cX4_findFar 126 = .ok (.aload_n 2, 1) := by decide +kernel
theorem dX4_findFar_127 : decode cX4_findFar 127 = .ok (.bipush 7, 2) := by decide +kernel
theorem dX4_findFar_129 : decode cX4_findFar 129 = .ok (.aload_n 0, 1) := by decide +kernel
theorem dX4_findFar_130 : decode cX4_findFar 130 = .ok (.getfield 17, 3) := by decide +kernel
theorem dX4_findFar_133 : decode cX4_findFar 133 = .ok (.iload_n 3, 1) := by decide +kernel
theorem dX4_findFar_134 : decode cX4_findFar 134 = .ok (.iaload, 1) := by decide +kernel
theorem dX4_findFar_135 : decode cX4_findFar 135 = .ok (.imul, 1) := by decide +kernel
theorem dX4_findFar_136 : decode cX4_findFar 136 = .ok (.aload_n 0, 1) := by decide +kernel
theorem dX4_findFar_137 : decode cX4_findFar 137 = .ok (.getfield 13, 3) := by decide +kernel
theorem dX4_findFar_140 : decode cX4_findFar 140 = .ok (.iload_n 3, 1) := by decide +kernel
theorem dX4_findFar_141 : decode cX4_findFar 141 = .ok (.iaload, 1) := by decide +kernel
theorem dX4_findFar_142 : decode cX4_findFar 142 = .ok (.iadd, 1) := by decide +kernel
theorem dX4_findFar_143 : decode cX4_findFar 143 = .ok (.aload_n 0, 1) := by decide +kernel
theorem dX4_findFar_144 : decode cX4_findFar 144 = .ok (.getfield 20, 3) := by decide +kernel
theorem dX4_findFar_147 : decode cX4_findFar 147 = .ok (.iload_n 3, 1) := by decide +kernel
theorem dX4_findFar_148 : decode cX4_findFar 148 = .ok (.iaload, 1) := by decide +kernel
theorem dX4_findFar_149 : decode cX4_findFar 149 = .ok (.iastore, 1) := by decide +kernel
theorem dX4_findFar_150 : decode cX4_findFar 150 = .ok (.iinc 3 1, 3) := by decide +kernel
theorem dX4_findFar_153 : decode cX4_findFar 153 = .ok (.goto (-95), 3) := by decide +kernel
theorem dX4_findFar_156 : decode cX4_findFar 156 = .ok (.iconst 0, 1) := by decide +kernel
theorem dX4_findFar_157 : decode cX4_findFar 157 = .ok (.istore_n 3, 1) := by decide +kernel
theorem dX4_findFar_158 : decode cX4_findFar 158 = .ok (.iload_n 3, 1) := by decide +kernel
theorem dX4_findFar_159 : decode cX4_findFar 159 = .ok (.aload_n 0, 1) := by decide +kernel
theorem dX4_findFar_160 : decode cX4_findFar 160 = .ok (.getfield 7, 3) := by decide +kernel
theorem dX4_findFar_163 : decode cX4_findFar 163 = .ok (.if_icmp .ge 106, 3) := by decide +kernel
theorem dX4_findFar_166 : decode cX4_findFar 166 = .ok (.iconst 0, 1) := by decide +kernel
theorem dX4_findFar_167 : decode cX4_findFar 167 = .ok (.istore 4, 2) := by decide +kernel
theorem dX4_findFar_169 : decode cX4_findFar 169 = .ok (.iload 4, 2) := by decide +kernel
theorem dX4_findFar_171 : decode cX4_findFar 171 = .ok (.aload_n 0, 1) := by decide +kernel
theorem dX4_findFar_172 : decode cX4_findFar 172 = .ok (.getfield 7, 3) := by decide +kernel
theorem dX4_findFar_175 : decode cX4_findFar 175 = .ok (.if_icmp .ge 88, 3) := by decide +kernel
theorem dX4_findFar_178 : decode cX4_findFar 178 = .ok (.iconst 0, 1) := by decide +kernel
theorem dX4_findFar_179 : decode cX4_findFar 179 = .ok (.istore 5, 2) := by decide +kernel
theorem dX4_findFar_181 : decode cX4_findFar 181 = .ok (.iload 5, 2) := by decide +kernel
theorem dX4_findFar_183 : decode cX4_findFar 183 = .ok (.aload_n 0, 1) := by decide +kernel
theorem dX4_findFar_184 : decode cX4_findFar 184 = .ok (.getfield 7, 3) := by decide +kernel
theorem dX4_findFar_187 : decode cX4_findFar 187 = .ok (.if_icmp .ge 70, 3) := by decide +kernel
theorem dX4_findFar_190 : decode cX4_findFar 190 = .ok (.aload_n 2, 1) := by decide +kernel
theorem dX4_findFar_191 : decode cX4_findFar 191 = .ok (.bipush 7, 2) := by decide +kernel
theorem dX4_findFar_193 : decode cX4_findFar 193 = .ok (.iload 4, 2) := by decide +kernel
theorem dX4_findFar_195 : decode cX4_findFar 195 = .ok (.imul, 1) := by decide +kernel
theorem dX4_findFar_196 : decode cX4_findFar 196 = .ok (.iload_n 3, 1) := by decide +kernel
theorem dX4_findFar_197 : decode cX4_findFar 197 = .ok (.iadd, 1) := by decide +kernel
theorem dX4_findFar_198 : decode cX4_findFar 198 = .ok (.iaload, 1) := by decide +kernel
theorem dX4_findFar_199 : decode cX4_findFar 199 = .ok (.aload_n 2, 1) := by decide +kernel
theorem dX4_findFar_200 : decode cX4_findFar 200 = .ok (.bipush 7, 2) := by decide +kernel
theorem dX4_findFar_202 : decode cX4_findFar 202 = .ok (.iload_n 3, 1) := by decide +kernel
theorem dX4_findFar_203 : decode cX4_findFar 203 = .ok (.imul, 1) := by decide +kernel
theorem dX4_findFar_204 : decode cX4_findFar 204 = .ok (.iload 5, 2) := by decide +kernel
theorem dX4_findFar_206 : decode cX4_findFar 206 = .ok (.iadd, 1) := by decide +kernel
theorem dX4_findFar_207 : decode cX4_findFar 207 = .ok (.iaload, 1) := by decide +kernel
theorem dX4_findFar_208 : decode cX4_findFar 208 = .ok (.iadd, 1) := by decide +kernel
theorem dX4_findFar_209 : decode cX4_findFar 209 = .ok (.istore 6, 2) := by decide +kernel
theorem dX4_findFar_211 : decode cX4_findFar 211 = .ok (.aload_n 2, 1) := by decide +kernel
theorem dX4_findFar_212 : decode cX4_findFar 212 = .ok (.bipush 7, 2) := by decide +kernel
theorem dX4_findFar_214 : decode cX4_findFar 214 = .ok (.iload 4, 2) := by decide +kernel
theorem dX4_findFar_216 : decode cX4_findFar 216 = .ok (.imul, 1) := by decide +kernel
theorem dX4_findFar_217 : decode cX4_findFar 217 = .ok (.iload 5, 2) := by decide +kernel
theorem dX4_findFar_219 : decode cX4_findFar 219 = .ok (.iadd, 1) := by decide +kernel
theorem dX4_findFar_220 : decode cX4_findFar 220 = .ok (.iload 6, 2) := by decide +kernel
theorem dX4_findFar_222 : decode cX4_findFar 222 = .ok (.aload_n 2, 1) := by decide +kernel
theorem dX4_findFar_223 : decode cX4_findFar 223 = .ok (.bipush 7, 2) := by decide +kernel
theorem dX4_findFar_225 : decode cX4_findFar 225 = .ok (.iload 4, 2) := by decide +kernel
theorem dX4_findFar_227 : decode cX4_findFar 227 = .ok (.imul, 1) := by decide +kernel
theorem dX4_findFar_228 : decode cX4_findFar 228 = .ok (.iload 5, 2) := by decide +kernel
theorem dX4_findFar_230 : decode cX4_findFar 230 = .ok (.iadd, 1) := by decide +kernel
theorem dX4_findFar_231 : decode cX4_findFar 231 = .ok (.iaload, 1) := by decide +kernel
theorem dX4_findFar_232 : decode cX4_findFar 232 = .ok (.if_icmp .ge 8, 3) := by decide +kernel
theorem dX4_findFar_235 : decode cX4_findFar 235 = .ok (.iload 6, 2) := by decide +kernel
theorem dX4_findFar_237 : decode cX4_findFar 237 = .ok (.goto 13, 3) := by decide +kernel
theorem dX4_findFar_240 : decode cX4_findFar 240 = .ok (.aload_n 2, 1) := by decide +kernel
theorem dX4_findFar_241 : decode cX4_findFar 241 = .ok (.bipush 7, 2) := by decide +kernel
theorem dX4_findFar_243 : decode cX4_findFar 243 = .ok (.iload 4, 2) := by decide +kernel
theorem dX4_findFar_245 : decode cX4_findFar 245 = .ok (.imul, 1) := by decide +kernel
theorem dX4_findFar_246 : decode cX4_findFar 246 = .ok (.iload 5, 2) := by decide +kernel
theorem dX4_findFar_248 : decode cX4_findFar 248 = .ok (.iadd, 1) := by decide +kernel
theorem dX4_findFar_249 : decode cX4_findFar 249 = .ok (.iaload, 1) := by decide +kernel
theorem dX4_findFar_250 : decode cX4_findFar 250 = .ok (.iastore, 1) := by decide +kernel
theorem dX4_findFar_251 : decode cX4_findFar 251 = .ok (.iinc 5 1, 3) := by decide +kernel
theorem dX4_findFar_254 : decode cX4_findFar 254 = .ok (.goto (-73), 3) := by decide +kernel
theorem dX4_findFar_257 : decode cX4_findFar 257 = .ok (.iinc 4 1, 3) := by decide +kernel
theorem dX4_findFar_260 : decode cX4_findFar 260 = .ok (.goto (-91), 3) := by decide +kernel
theorem dX4_findFar_263 : decode cX4_findFar 263 = .ok (.iinc 3 1, 3) := by decide +kernel
theorem dX4_findFar_266 : decode cX4_findFar 266 = .ok (.goto (-108), 3) := by decide +kernel
theorem dX4_findFar_269 : decode cX4_findFar 269 = .ok (.return_, 1) := by decide +kernel
theorem dX4_keptSet_0 : decode cX4_keptSet 0 = .ok (.iconst 0, 1) := by decide +kernel
theorem dX4_keptSet_1 : decode cX4_keptSet 1 = .ok (.istore_n 1, 1) := by decide +kernel
theorem dX4_keptSet_2 : decode cX4_keptSet 2 = .ok (.iconst 0, 1) := by decide +kernel
theorem dX4_keptSet_3 : decode cX4_keptSet 3 = .ok (.istore_n 2, 1) := by decide +kernel
theorem dX4_keptSet_4 : decode cX4_keptSet 4 = .ok (.iload_n 2, 1) := by decide +kernel
theorem dX4_keptSet_5 : decode cX4_keptSet 5 = .ok (.aload_n 0, 1) := by decide +kernel
theorem dX4_keptSet_6 : decode cX4_keptSet 6 = .ok (.getfield 42, 3) := by decide +kernel
theorem dX4_keptSet_9 : decode cX4_keptSet 9 = .ok (.if_icmp .ge 28, 3) := by decide +kernel
theorem dX4_keptSet_12 : decode cX4_keptSet 12 = .ok (.iload_n 1, 1) := by decide +kernel
theorem dX4_keptSet_13 : decode cX4_keptSet 13 = .ok (.aload_n 0, 1) := by decide +kernel
theorem dX4_keptSet_14 : decode cX4_keptSet 14 = .ok (.getfield 23, 3) := by decide +kernel
theorem dX4_keptSet_17 : decode cX4_keptSet 17 = .ok (.iload_n 2, 1) := by decide +kernel
theorem dX4_keptSet_18 : decode cX4_keptSet 18 = .ok (.iaload, 1) := by decide +kernel
theorem dX4_keptSet_19 : decode cX4_keptSet 19 = .ok (.ifCond .le 9, 3) := by decide +kernel
theorem dX4_keptSet_22 : decode cX4_keptSet 22 = .ok (.iconst 1, 1) := by decide +kernel
theorem dX4_keptSet_23 : decode cX4_keptSet 23 = .ok (.iload_n 2, 1) := by decide +kernel
theorem dX4_keptSet_24 : decode cX4_keptSet 24 = .ok (.ishl, 1) := by decide +kernel
theorem dX4_keptSet_25 : decode cX4_keptSet 25 = .ok (.goto 4, 3) := by decide +kernel
theorem dX4_keptSet_28 : decode cX4_keptSet 28 = .ok (.iconst 0, 1) := by decide +kernel
theorem dX4_keptSet_29 : decode cX4_keptSet 29 = .ok (.ior, 1) := by decide +kernel
theorem dX4_keptSet_30 : decode cX4_keptSet 30 = .ok (.istore_n 1, 1) := by decide +kernel
theorem dX4_keptSet_31 : decode cX4_keptSet 31 = .ok (.iinc 2 1, 3) := by decide +kernel
theorem dX4_keptSet_34 : decode cX4_keptSet 34 = .ok (.goto (-30), 3) := by decide +kernel
theorem dX4_keptSet_37 : decode cX4_keptSet 37 = .ok (.iload_n 1, 1) := by decide +kernel
theorem dX4_keptSet_38 : decode cX4_keptSet 38 = .ok (.ireturn, 1) := by decide +kernel
set_option maxRecDepth 20000 in
theorem ggX4_greedy_X4_in : GoodIn wsX4_greedy wsX4_in := goodIn_r _ [10] (by decide +kernel) (by decide +kernel)
set_option maxRecDepth 20000 in
theorem gX4_greedy_X4_in : GoodIn wsX4_greedy (va_wsS RX4 38 yX4_in wsX4_in) := goodIn_app (goodIn_of _ (by decide +kernel)) ggX4_greedy_X4_in
set_option maxRecDepth 20000 in
theorem ggX4_greedy_X4_findFar : GoodIn wsX4_greedy wsX4_findFar := goodIn_r _ [14, 15, 1, 2, 4, 5, 20, 21, 22, 23, 24, 25, 26, 27, 28, 29, 30, 31] (by decide +kernel) (by decide +kernel)
set_option maxRecDepth 20000 in
theorem gX4_greedy_X4_findFar : GoodIn wsX4_greedy (wsV RX4 72 RX4 yX4_findFar wsX4_findFar) := goodIn_app (goodIn_of _ (by decide +kernel)) ggX4_greedy_X4_findFar
set_option maxRecDepth 20000 in
theorem ggX4_greedy_X4_keptMany : GoodIn wsX4_greedy wsX4_keptMany := goodIn_r _ [19, 1, 6, 20, 21, 22, 23, 24, 25, 26, 27, 28, 29, 30, 31] (by decide +kernel) (by decide +kernel)
set_option maxRecDepth 20000 in
theorem gX4_greedy_X4_keptMany : GoodIn wsX4_greedy (wsV RX4 69 RX4 yX4_keptMany wsX4_keptMany) := goodIn_app (goodIn_of _ (by decide +kernel)) ggX4_greedy_X4_keptMany
theorem dX4_greedy_0 : decode cX4_greedy 0 = .ok (.iload_n 1, 1) := by decide +kernel
theorem dX4_greedy_1 : decode cX4_greedy 1 = .ok (.iconst 1, 1) := by decide +kernel
theorem dX4_greedy_2 : decode cX4_greedy 2 = .ok (.bipush 9, 2) := by decide +kernel
theorem dX4_greedy_4 : decode cX4_greedy 4 = .ok (.invokestatic 38, 3) := by decide +kernel
theorem dX4_greedy_7 : decode cX4_greedy 7 = .ok (.ifCond .ne 6, 3) := by decide +kernel
theorem dX4_greedy_10 : decode cX4_greedy 10 = .ok (.bipush (-3), 2) := by decide +kernel
theorem dX4_greedy_12 : decode cX4_greedy 12 = .ok (.ireturn, 1) := by decide +kernel
theorem dX4_greedy_13 : decode cX4_greedy 13 = .ok (.iconst 0, 1) := by decide +kernel
theorem dX4_greedy_14 : decode cX4_greedy 14 = .ok (.istore_n 2, 1) := by decide +kernel
theorem dX4_greedy_15 : decode cX4_greedy 15 = .ok (.iconst 1, 1) := by decide +kernel
theorem dX4_greedy_16 : decode cX4_greedy 16 = .ok (.istore_n 3, 1) := by decide +kernel
theorem dX4_greedy_17 : decode cX4_greedy 17 = .ok (.iload_n 3, 1) := by decide +kernel
theorem dX4_greedy_18 : decode cX4_greedy 18 = .ok (.bipush 10, 2) := by decide +kernel
theorem dX4_greedy_20 : decode cX4_greedy 20 = .ok (.if_icmp .ge 87, 3) := by decide +kernel
theorem dX4_greedy_23 : decode cX4_greedy 23 = .ok (.iconst 0, 1) := by decide +kernel
theorem dX4_greedy_24 : decode cX4_greedy 24 = .ok (.istore 4, 2) := by decide +kernel
theorem dX4_greedy_26 : decode cX4_greedy 26 = .ok (.iload 4, 2) := by decide +kernel
theorem dX4_greedy_28 : decode cX4_greedy 28 = .ok (.aload_n 0, 1) := by decide +kernel
theorem dX4_greedy_29 : decode cX4_greedy 29 = .ok (.getfield 42, 3) := by decide +kernel
theorem dX4_greedy_32 : decode cX4_greedy 32 = .ok (.if_icmp .ge 69, 3) := by decide +kernel
theorem dX4_greedy_35 : decode cX4_greedy 35 = .ok (.aload_n 0, 1) := by decide +kernel
theorem dX4_greedy_36 : decode cX4_greedy 36 = .ok (.getfield 20, 3) := by decide +kernel
theorem dX4_greedy_39 : decode cX4_greedy 39 = .ok (.iload 4, 2) := by decide +kernel
theorem dX4_greedy_41 : decode cX4_greedy 41 = .ok (.iaload, 1) := by decide +kernel
theorem dX4_greedy_42 : decode cX4_greedy 42 = .ok (.iload_n 3, 1) := by decide +kernel
theorem dX4_greedy_43 : decode cX4_greedy 43 = .ok (.if_icmp .ne 52, 3) := by decide +kernel
theorem dX4_greedy_46 : decode cX4_greedy 46 = .ok (.aload_n 0, 1) := by decide +kernel
theorem dX4_greedy_47 : decode cX4_greedy 47 = .ok (.iload_n 2, 1) := by decide +kernel
theorem dX4_greedy_48 : decode cX4_greedy 48 = .ok (.aload_n 0, 1) := by decide +kernel
theorem dX4_greedy_49 : decode cX4_greedy 49 = .ok (.getfield 35, 3) := by decide +kernel
theorem dX4_greedy_52 : decode cX4_greedy 52 = .ok (.invokevirtual 72, 3) := by decide +kernel
theorem dX4_greedy_55 : decode cX4_greedy 55 = .ok (.iload_n 2, 1) := by decide +kernel
theorem dX4_greedy_56 : decode cX4_greedy 56 = .ok (.aload_n 0, 1) := by decide +kernel
theorem dX4_greedy_57 : decode cX4_greedy 57 = .ok (.getfield 35, 3) := by decide +kernel
theorem dX4_greedy_60 : decode cX4_greedy 60 = .ok (.bipush 7, 2) := by decide +kernel
theorem dX4_greedy_62 : decode cX4_greedy 62 = .ok (.aload_n 0, 1) := by decide +kernel
theorem dX4_greedy_63 : decode cX4_greedy 63 = .ok (.getfield 13, 3) := by decide +kernel
theorem dX4_greedy_66 : decode cX4_greedy 66 = .ok (.iload 4, 2) := by decide +kernel
theorem dX4_greedy_68 : decode cX4_greedy 68 = .ok (.iaload, 1) := by decide +kernel
theorem dX4_greedy_69 : decode cX4_greedy 69 = .ok (.imul, 1) := by decide +kernel
theorem dX4_greedy_70 : decode cX4_greedy 70 = .ok (.aload_n 0, 1) := by decide +kernel
theorem dX4_greedy_71 : decode cX4_greedy 71 = .ok (.getfield 17, 3) := by decide +kernel
theorem dX4_greedy_74 : decode cX4_greedy 74 = .ok (.iload 4, 2) := by decide +kernel
theorem dX4_greedy_76 : decode cX4_greedy 76 = .ok (.iaload, 1) := by decide +kernel
theorem dX4_greedy_77 : decode cX4_greedy 77 = .ok (.iadd, 1) := by decide +kernel
theorem dX4_greedy_78 : decode cX4_greedy 78 = .ok (.iaload, 1) := by decide +kernel
theorem dX4_greedy_79 : decode cX4_greedy 79 = .ok (.iload_n 1, 1) := by decide +kernel
theorem dX4_greedy_80 : decode cX4_greedy 80 = .ok (.iload_n 3, 1) := by decide +kernel
theorem dX4_greedy_81 : decode cX4_greedy 81 = .ok (.imul, 1) := by decide +kernel
theorem dX4_greedy_82 : decode cX4_greedy 82 = .ok (.if_icmp .le 10, 3) := by decide +kernel
theorem dX4_greedy_85 : decode cX4_greedy 85 = .ok (.iconst 1, 1) := by decide +kernel
theorem dX4_greedy_86 : decode cX4_greedy 86 = .ok (.iload 4, 2) := by decide +kernel
theorem dX4_greedy_88 : decode cX4_greedy 88 = .ok (.ishl, 1) := by decide +kernel
theorem dX4_greedy_89 : decode cX4_greedy 89 = .ok (.goto 4, 3) := by decide +kernel
theorem dX4_greedy_92 : decode cX4_greedy 92 = .ok (.iconst 0, 1) := by decide +kernel
theorem dX4_greedy_93 : decode cX4_greedy 93 = .ok (.ior, 1) := by decide +kernel
theorem dX4_greedy_94 : decode cX4_greedy 94 = .ok (.istore_n 2, 1) := by decide +kernel
theorem dX4_greedy_95 : decode cX4_greedy 95 = .ok (.iinc 4 1, 3) := by decide +kernel
theorem dX4_greedy_98 : decode cX4_greedy 98 = .ok (.goto (-72), 3) := by decide +kernel
theorem dX4_greedy_101 : decode cX4_greedy 101 = .ok (.iinc 3 1, 3) := by decide +kernel
theorem dX4_greedy_104 : decode cX4_greedy 104 = .ok (.goto (-87), 3) := by decide +kernel
theorem dX4_greedy_107 : decode cX4_greedy 107 = .ok (.iconst 0, 1) := by decide +kernel
theorem dX4_greedy_108 : decode cX4_greedy 108 = .ok (.istore_n 3, 1) := by decide +kernel
theorem dX4_greedy_109 : decode cX4_greedy 109 = .ok (.iload_n 3, 1) := by decide +kernel
theorem dX4_greedy_110 : decode cX4_greedy 110 = .ok (.aload_n 0, 1) := by decide +kernel
theorem dX4_greedy_111 : decode cX4_greedy 111 = .ok (.getfield 42, 3) := by decide +kernel
theorem dX4_greedy_114 : decode cX4_greedy 114 = .ok (.if_icmp .ge 34, 3) := by decide +kernel
theorem dX4_greedy_117 : decode cX4_greedy 117 = .ok (.aload_n 0, 1) := by decide +kernel
theorem dX4_greedy_118 : decode cX4_greedy 118 = .ok (.getfield 23, 3) := by decide +kernel
theorem dX4_greedy_121 : decode cX4_greedy 121 = .ok (.iload_n 3, 1) := by decide +kernel
theorem dX4_greedy_122 : decode cX4_greedy 122 = .ok (.iload_n 2, 1) := by decide +kernel
theorem dX4_greedy_123 : decode cX4_greedy 123 = .ok (.iload_n 3, 1) := by decide +kernel
theorem dX4_greedy_124 : decode cX4_greedy 124 = .ok (.ishr, 1) := by decide +kernel
theorem dX4_greedy_125 : decode cX4_greedy 125 = .ok (.iconst 1, 1) := by decide +kernel
theorem dX4_greedy_126 : decode cX4_greedy 126 = .ok (.iand, 1) := by decide +kernel
theorem dX4_greedy_127 : decode cX4_greedy 127 = .ok (.iconst 1, 1) := by decide +kernel
theorem dX4_greedy_128 : decode cX4_greedy 128 = .ok (.if_icmp .ne 12, 3) := by decide +kernel
theorem dX4_greedy_131 : decode cX4_greedy 131 = .ok (.aload_n 0, 1) := by decide +kernel
theorem dX4_greedy_132 : decode cX4_greedy 132 = .ok (.getfield 20, 3) := by decide +kernel
theorem dX4_greedy_135 : decode cX4_greedy 135 = .ok (.iload_n 3, 1) := by decide +kernel
theorem dX4_greedy_136 : decode cX4_greedy 136 = .ok (.iaload, 1) := by decide +kernel
theorem dX4_greedy_137 : decode cX4_greedy 137 = .ok (.goto 4, 3) := by decide +kernel
theorem dX4_greedy_140 : decode cX4_greedy 140 = .ok (.iconst 0, 1) := by decide +kernel
theorem dX4_greedy_141 : decode cX4_greedy 141 = .ok (.iastore, 1) := by decide +kernel
theorem dX4_greedy_142 : decode cX4_greedy 142 = .ok (.iinc 3 1, 3) := by decide +kernel
theorem dX4_greedy_145 : decode cX4_greedy 145 = .ok (.goto (-36), 3) := by decide +kernel
theorem dX4_greedy_148 : decode cX4_greedy 148 = .ok (.aload_n 0, 1) := by decide +kernel
theorem dX4_greedy_149 : decode cX4_greedy 149 = .ok (.invokevirtual 69, 3) := by decide +kernel
theorem dX4_greedy_152 : decode cX4_greedy 152 = .ok (.ireturn, 1) := by decide +kernel
theorem dX4_many_0 : decode cX4_many 0 = .ok (.iconst 0, 1) := by decide +kernel
theorem dX4_many_1 : decode cX4_many 1 = .ok (.istore_n 1, 1) := by decide +kernel
theorem dX4_many_2 : decode cX4_many 2 = .ok (.iconst 0, 1) := by decide +kernel
theorem dX4_many_3 : decode cX4_many 3 = .ok (.istore_n 2, 1) := by decide +kernel
theorem dX4_many_4 : decode cX4_many 4 = .ok (.iload_n 2, 1) := by decide +kernel
theorem dX4_many_5 : decode cX4_many 5 = .ok (.bipush 12, 2) := by decide +kernel
theorem dX4_many_7 : decode cX4_many 7 = .ok (.if_icmp .ge 17, 3) := by decide +kernel
theorem dX4_many_10 : decode cX4_many 10 = .ok (.iload_n 1, 1) := by decide +kernel
theorem dX4_many_11 : decode cX4_many 11 = .ok (.iload_n 0, 1) := by decide +kernel
theorem dX4_many_12 : decode cX4_many 12 = .ok (.iload_n 2, 1) := by decide +kernel
theorem dX4_many_13 : decode cX4_many 13 = .ok (.ishr, 1) := by decide +kernel
theorem dX4_many_14 : decode cX4_many 14 = .ok (.iconst 1, 1) := by decide +kernel
theorem dX4_many_15 : decode cX4_many 15 = .ok (.iand, 1) := by decide +kernel
theorem dX4_many_16 : decode cX4_many 16 = .ok (.iadd, 1) := by decide +kernel
theorem dX4_many_17 : decode cX4_many 17 = .ok (.istore_n 1, 1) := by decide +kernel
theorem dX4_many_18 : decode cX4_many 18 = .ok (.iinc 2 1, 3) := by decide +kernel
theorem dX4_many_21 : decode cX4_many 21 = .ok (.goto (-17), 3) := by decide +kernel
theorem dX4_many_24 : decode cX4_many 24 = .ok (.iload_n 1, 1) := by decide +kernel
theorem dX4_many_25 : decode cX4_many 25 = .ok (.ireturn, 1) := by decide +kernel
set_option maxRecDepth 20000 in
theorem ggX4_isWithin_X4_findFar : GoodIn wsX4_isWithin wsX4_findFar := goodIn_r _ [8, 2, 9, 10, 11, 12, 13, 14, 15, 16, 17, 18, 19, 20, 21, 22, 23, 24] (by decide +kernel) (by decide +kernel)
set_option maxRecDepth 20000 in
theorem gX4_isWithin_X4_findFar : GoodIn wsX4_isWithin (wsV RX4 72 RX4 yX4_findFar wsX4_findFar) := goodIn_app (goodIn_of _ (by decide +kernel)) ggX4_isWithin_X4_findFar
theorem dX4_isWithin_0 : decode cX4_isWithin 0 = .ok (.aload_n 0, 1) := by decide +kernel
theorem dX4_isWithin_1 : decode cX4_isWithin 1 = .ok (.iload_n 1, 1) := by decide +kernel
theorem dX4_isWithin_2 : decode cX4_isWithin 2 = .ok (.aload_n 0, 1) := by decide +kernel
theorem dX4_isWithin_3 : decode cX4_isWithin 3 = .ok (.getfield 35, 3) := by decide +kernel
theorem dX4_isWithin_6 : decode cX4_isWithin 6 = .ok (.invokevirtual 72, 3) := by decide +kernel
theorem dX4_isWithin_9 : decode cX4_isWithin 9 = .ok (.iconst 1, 1) := by decide +kernel
theorem dX4_isWithin_10 : decode cX4_isWithin 10 = .ok (.istore_n 3, 1) := by decide +kernel
theorem dX4_isWithin_11 : decode cX4_isWithin 11 = .ok (.iconst 0, 1) := by decide +kernel
theorem dX4_isWithin_12 : decode cX4_isWithin 12 = .ok (.istore 4, 2) := by decide +kernel
theorem dX4_isWithin_14 : decode cX4_isWithin 14 = .ok (.iload 4, 2) := by decide +kernel
theorem dX4_isWithin_16 : decode cX4_isWithin 16 = .ok (.bipush 49, 2) := by decide +kernel
theorem dX4_isWithin_18 : decode cX4_isWithin 18 = .ok (.if_icmp .ge 75, 3) := by decide +kernel
theorem dX4_isWithin_21 : decode cX4_isWithin 21 = .ok (.iload_n 3, 1) := by decide +kernel
theorem dX4_isWithin_22 : decode cX4_isWithin 22 = .ok (.ifCond .eq 63, 3) := by decide +kernel
theorem dX4_isWithin_25 : decode cX4_isWithin 25 = .ok (.iload 4, 2) := by decide +kernel
theorem dX4_isWithin_27 : decode cX4_isWithin 27 = .ok (.bipush 7, 2) := by decide +kernel
theorem dX4_isWithin_29 : decode cX4_isWithin 29 = .ok (.idiv, 1) := by decide +kernel
theorem dX4_isWithin_30 : decode cX4_isWithin 30 = .ok (.aload_n 0, 1) := by decide +kernel
theorem dX4_isWithin_31 : decode cX4_isWithin 31 = .ok (.getfield 7, 3) := by decide +kernel
theorem dX4_isWithin_34 : decode cX4_isWithin 34 = .ok (.if_icmp .ge 47, 3) := by decide +kernel
theorem dX4_isWithin_37 : decode cX4_isWithin 37 = .ok (.iload 4, 2) := by decide +kernel
theorem dX4_isWithin_39 : decode cX4_isWithin 39 = .ok (.bipush 7, 2) := by decide +kernel
theorem dX4_isWithin_41 : decode cX4_isWithin 41 = .ok (.irem, 1) := by decide +kernel
theorem dX4_isWithin_42 : decode cX4_isWithin 42 = .ok (.aload_n 0, 1) := by decide +kernel
theorem dX4_isWithin_43 : decode cX4_isWithin 43 = .ok (.getfield 7, 3) := by decide +kernel
theorem dX4_isWithin_46 : decode cX4_isWithin 46 = .ok (.if_icmp .ge 35, 3) := by decide +kernel
theorem dX4_isWithin_49 : decode cX4_isWithin 49 = .ok (.aload_n 0, 1) := by decide +kernel
theorem dX4_isWithin_50 : decode cX4_isWithin 50 = .ok (.getfield 32, 3) := by decide +kernel
theorem dX4_isWithin_53 : decode cX4_isWithin 53 = .ok (.iload 4, 2) := by decide +kernel
theorem dX4_isWithin_55 : decode cX4_isWithin 55 = .ok (.iaload, 1) := by decide +kernel
theorem dX4_isWithin_56 : decode cX4_isWithin 56 = .ok (.sipush 10000, 3) := by decide +kernel
theorem dX4_isWithin_59 : decode cX4_isWithin 59 = .ok (.if_icmp .ge 22, 3) := by decide +kernel
theorem dX4_isWithin_62 : decode cX4_isWithin 62 = .ok (.aload_n 0, 1) := by decide +kernel
theorem dX4_isWithin_63 : decode cX4_isWithin 63 = .ok (.getfield 35, 3) := by decide +kernel
theorem dX4_isWithin_66 : decode cX4_isWithin 66 = .ok (.iload 4, 2) := by decide +kernel
theorem dX4_isWithin_68 : decode cX4_isWithin 68 = .ok (.iaload, 1) := by decide +kernel
theorem dX4_isWithin_69 : decode cX4_isWithin 69 = .ok (.iload_n 2, 1) := by decide +kernel
theorem dX4_isWithin_70 : decode cX4_isWithin 70 = .ok (.aload_n 0, 1) := by decide +kernel
theorem dX4_isWithin_71 : decode cX4_isWithin 71 = .ok (.getfield 32, 3) := by decide +kernel
theorem dX4_isWithin_74 : decode cX4_isWithin 74 = .ok (.iload 4, 2) := by decide +kernel
theorem dX4_isWithin_76 : decode cX4_isWithin 76 = .ok (.iaload, 1) := by decide +kernel
theorem dX4_isWithin_77 : decode cX4_isWithin 77 = .ok (.imul, 1) := by decide +kernel
theorem dX4_isWithin_78 : decode cX4_isWithin 78 = .ok (.if_icmp .gt 7, 3) := by decide +kernel
theorem dX4_isWithin_81 : decode cX4_isWithin 81 = .ok (.iconst 1, 1) := by decide +kernel
theorem dX4_isWithin_82 : decode cX4_isWithin 82 = .ok (.goto 4, 3) := by decide +kernel
theorem dX4_isWithin_85 : decode cX4_isWithin 85 = .ok (.iconst 0, 1) := by decide +kernel
theorem dX4_isWithin_86 : decode cX4_isWithin 86 = .ok (.istore_n 3, 1) := by decide +kernel
theorem dX4_isWithin_87 : decode cX4_isWithin 87 = .ok (.iinc 4 1, 3) := by decide +kernel
theorem dX4_isWithin_90 : decode cX4_isWithin 90 = .ok (.goto (-76), 3) := by decide +kernel
theorem dX4_isWithin_93 : decode cX4_isWithin 93 = .ok (.iload_n 3, 1) := by decide +kernel
theorem dX4_isWithin_94 : decode cX4_isWithin 94 = .ok (.ireturn, 1) := by decide +kernel
set_option maxRecDepth 20000 in
theorem ggX4_fewestBy_X4_findFar : GoodIn wsX4_fewestBy wsX4_findFar := goodIn_r _ [7, 8, 1, 9, 10, 11, 20, 21, 22, 23, 24, 25, 26, 27, 28, 29, 30, 31] (by decide +kernel) (by decide +kernel)
set_option maxRecDepth 20000 in
theorem gX4_fewestBy_X4_findFar : GoodIn wsX4_fewestBy (wsV RX4 72 RX4 yX4_findFar wsX4_findFar) := goodIn_app (goodIn_of _ (by decide +kernel)) ggX4_fewestBy_X4_findFar
set_option maxRecDepth 20000 in
theorem ggX4_fewestBy_X4_many : GoodIn wsX4_fewestBy wsX4_many := goodIn_r _ [14] (by decide +kernel) (by decide +kernel)
set_option maxRecDepth 20000 in
theorem gX4_fewestBy_X4_many : GoodIn wsX4_fewestBy (va_wsS RX4 76 yX4_many wsX4_many) := goodIn_app (goodIn_of _ (by decide +kernel)) ggX4_fewestBy_X4_many
set_option maxRecDepth 20000 in
theorem ggX4_fewestBy_X4_isWithin : GoodIn wsX4_fewestBy wsX4_isWithin := goodIn_r _ [18, 19, 8, 2, 3, 4, 5, 6, 7, 1, 9, 10, 11, 20, 21, 22, 23, 24, 25, 26, 27, 28, 29, 30, 31] (by decide +kernel) (by decide +kernel)
set_option maxRecDepth 20000 in
theorem gX4_fewestBy_X4_isWithin : GoodIn wsX4_fewestBy (wsV RX4 80 RX4 yX4_isWithin wsX4_isWithin) := goodIn_app (goodIn_of _ (by decide +kernel)) ggX4_fewestBy_X4_isWithin
theorem dX4_fewestBy_0 : decode cX4_fewestBy 0 = .ok (.aload_n 0, 1) := by decide +kernel
theorem dX4_fewestBy_1 : decode cX4_fewestBy 1 = .ok (.iconst 1, 1) := by decide +kernel
theorem dX4_fewestBy_2 : decode cX4_fewestBy 2 = .ok (.aload_n 0, 1) := by decide +kernel
theorem dX4_fewestBy_3 : decode cX4_fewestBy 3 = .ok (.getfield 42, 3) := by decide +kernel
theorem dX4_fewestBy_6 : decode cX4_fewestBy 6 = .ok (.ishl, 1) := by decide +kernel
theorem dX4_fewestBy_7 : decode cX4_fewestBy 7 = .ok (.iconst 1, 1) := by decide +kernel
theorem dX4_fewestBy_8 : decode cX4_fewestBy 8 = .ok (.isub, 1) := by decide +kernel
theorem dX4_fewestBy_9 : decode cX4_fewestBy 9 = .ok (.aload_n 0, 1) := by decide +kernel
theorem dX4_fewestBy_10 : decode cX4_fewestBy 10 = .ok (.getfield 32, 3) := by decide +kernel
theorem dX4_fewestBy_13 : decode cX4_fewestBy 13 = .ok (.invokevirtual 72, 3) := by decide +kernel
theorem dX4_fewestBy_16 : decode cX4_fewestBy 16 = .ok (.iconst 1, 1) := by decide +kernel
theorem dX4_fewestBy_17 : decode cX4_fewestBy 17 = .ok (.aload_n 0, 1) := by decide +kernel
theorem dX4_fewestBy_18 : decode cX4_fewestBy 18 = .ok (.getfield 42, 3) := by decide +kernel
theorem dX4_fewestBy_21 : decode cX4_fewestBy 21 = .ok (.ishl, 1) := by decide +kernel
theorem dX4_fewestBy_22 : decode cX4_fewestBy 22 = .ok (.iconst 1, 1) := by decide +kernel
theorem dX4_fewestBy_23 : decode cX4_fewestBy 23 = .ok (.isub, 1) := by decide +kernel
theorem dX4_fewestBy_24 : decode cX4_fewestBy 24 = .ok (.istore_n 2, 1) := by decide +kernel
theorem dX4_fewestBy_25 : decode cX4_fewestBy 25 = .ok (.iconst 0, 1) := by decide +kernel
theorem dX4_fewestBy_26 : decode cX4_fewestBy 26 = .ok (.istore_n 3, 1) := by decide +kernel
theorem dX4_fewestBy_27 : decode cX4_fewestBy 27 = .ok (.iload_n 3, 1) := by decide +kernel
theorem dX4_fewestBy_28 : decode cX4_fewestBy 28 = .ok (.iconst 1, 1) := by decide +kernel
theorem dX4_fewestBy_29 : decode cX4_fewestBy 29 = .ok (.aload_n 0, 1) := by decide +kernel
theorem dX4_fewestBy_30 : decode cX4_fewestBy 30 = .ok (.getfield 42, 3) := by decide +kernel
theorem dX4_fewestBy_33 : decode cX4_fewestBy 33 = .ok (.ishl, 1) := by decide +kernel
theorem dX4_fewestBy_34 : decode cX4_fewestBy 34 = .ok (.if_icmp .ge 31, 3) := by decide +kernel
theorem dX4_fewestBy_37 : decode cX4_fewestBy 37 = .ok (.iload_n 3, 1) := by decide +kernel
theorem dX4_fewestBy_38 : decode cX4_fewestBy 38 = .ok (.invokestatic 76, 3) := by decide +kernel
theorem dX4_fewestBy_41 : decode cX4_fewestBy 41 = .ok (.iload_n 2, 1) := by decide +kernel
theorem dX4_fewestBy_42 : decode cX4_fewestBy 42 = .ok (.invokestatic 76, 3) := by decide +kernel
theorem dX4_fewestBy_45 : decode cX4_fewestBy 45 = .ok (.if_icmp .ge 14, 3) := by decide +kernel
theorem dX4_fewestBy_48 : decode cX4_fewestBy 48 = .ok (.aload_n 0, 1) := by decide +kernel
theorem dX4_fewestBy_49 : decode cX4_fewestBy 49 = .ok (.iload_n 3, 1) := by decide +kernel
theorem dX4_fewestBy_50 : decode cX4_fewestBy 50 = .ok (.iload_n 1, 1) := by decide +kernel
theorem dX4_fewestBy_51 : decode cX4_fewestBy 51 = .ok (.invokevirtual 80, 3) := by decide +kernel
theorem dX4_fewestBy_54 : decode cX4_fewestBy 54 = .ok (.ifCond .eq 5, 3) := by decide +kernel
theorem dX4_fewestBy_57 : decode cX4_fewestBy 57 = .ok (.iload_n 3, 1) := by decide +kernel
theorem dX4_fewestBy_58 : decode cX4_fewestBy 58 = .ok (.istore_n 2, 1) := by decide +kernel
theorem dX4_fewestBy_59 : decode cX4_fewestBy 59 = .ok (.iinc 3 1, 3) := by decide +kernel
theorem dX4_fewestBy_62 : decode cX4_fewestBy 62 = .ok (.goto (-35), 3) := by decide +kernel
theorem dX4_fewestBy_65 : decode cX4_fewestBy 65 = .ok (.iconst 0, 1) := by decide +kernel
theorem dX4_fewestBy_66 : decode cX4_fewestBy 66 = .ok (.istore_n 3, 1) := by decide +kernel
theorem dX4_fewestBy_67 : decode cX4_fewestBy 67 = .ok (.iload_n 3, 1) := by decide +kernel
theorem dX4_fewestBy_68 : decode cX4_fewestBy 68 = .ok (.iload_n 2, 1) := by decide +kernel
theorem dX4_fewestBy_69 : decode cX4_fewestBy 69 = .ok (.if_icmp .ge 31, 3) := by decide +kernel
theorem dX4_fewestBy_72 : decode cX4_fewestBy 72 = .ok (.iload_n 3, 1) := by decide +kernel
theorem dX4_fewestBy_73 : decode cX4_fewestBy 73 = .ok (.invokestatic 76, 3) := by decide +kernel
theorem dX4_fewestBy_76 : decode cX4_fewestBy 76 = .ok (.iload_n 2, 1) := by decide +kernel
theorem dX4_fewestBy_77 : decode cX4_fewestBy 77 = .ok (.invokestatic 76, 3) := by decide +kernel
theorem dX4_fewestBy_80 : decode cX4_fewestBy 80 = .ok (.if_icmp .ne 14, 3) := by decide +kernel
theorem dX4_fewestBy_83 : decode cX4_fewestBy 83 = .ok (.aload_n 0, 1) := by decide +kernel
theorem dX4_fewestBy_84 : decode cX4_fewestBy 84 = .ok (.iload_n 3, 1) := by decide +kernel
theorem dX4_fewestBy_85 : decode cX4_fewestBy 85 = .ok (.iload_n 1, 1) := by decide +kernel
theorem dX4_fewestBy_86 : decode cX4_fewestBy 86 = .ok (.invokevirtual 80, 3) := by decide +kernel
theorem dX4_fewestBy_89 : decode cX4_fewestBy 89 = .ok (.ifCond .eq 5, 3) := by decide +kernel
theorem dX4_fewestBy_92 : decode cX4_fewestBy 92 = .ok (.iload_n 3, 1) := by decide +kernel
theorem dX4_fewestBy_93 : decode cX4_fewestBy 93 = .ok (.ireturn, 1) := by decide +kernel
theorem dX4_fewestBy_94 : decode cX4_fewestBy 94 = .ok (.iinc 3 1, 3) := by decide +kernel
theorem dX4_fewestBy_97 : decode cX4_fewestBy 97 = .ok (.goto (-30), 3) := by decide +kernel
theorem dX4_fewestBy_100 : decode cX4_fewestBy 100 = .ok (.iload_n 2, 1) := by decide +kernel
theorem dX4_fewestBy_101 : decode cX4_fewestBy 101 = .ok (.ireturn, 1) := by decide +kernel
set_option maxRecDepth 20000 in
theorem ggX4_fewest_X4_in : GoodIn wsX4_fewest wsX4_in := goodIn_r _ [4] (by decide +kernel) (by decide +kernel)
set_option maxRecDepth 20000 in
theorem gX4_fewest_X4_in : GoodIn wsX4_fewest (va_wsS RX4 38 yX4_in wsX4_in) := goodIn_app (goodIn_of _ (by decide +kernel)) ggX4_fewest_X4_in
set_option maxRecDepth 20000 in
theorem ggX4_fewest_X4_fewestBy : GoodIn wsX4_fewest wsX4_fewestBy := goodIn_r _ [8, 9, 10, 11, 12, 13, 3, 14, 15, 16, 17, 18, 19, 20, 21, 22, 23, 24, 25, 26, 27, 28, 29, 30, 31, 32, 33, 34, 35, 36, 37, 38] (by decide +kernel) (by decide +kernel)
set_option maxRecDepth 20000 in
theorem gX4_fewest_X4_fewestBy : GoodIn wsX4_fewest (wsV RX4 84 RX4 yX4_fewestBy wsX4_fewestBy) := goodIn_app (goodIn_of _ (by decide +kernel)) ggX4_fewest_X4_fewestBy
set_option maxRecDepth 20000 in
theorem ggX4_fewest_X4_many : GoodIn wsX4_fewest wsX4_many := goodIn_r _ [21] (by decide +kernel) (by decide +kernel)
set_option maxRecDepth 20000 in
theorem gX4_fewest_X4_many : GoodIn wsX4_fewest (va_wsS RX4 76 yX4_many wsX4_many) := goodIn_app (goodIn_of _ (by decide +kernel)) ggX4_fewest_X4_many
theorem dX4_fewest_0 : decode cX4_fewest 0 = .ok (.iload_n 1, 1) := by decide +kernel
theorem dX4_fewest_1 : decode cX4_fewest 1 = .ok (.iconst 1, 1) := by decide +kernel
theorem dX4_fewest_2 : decode cX4_fewest 2 = .ok (.bipush 9, 2) := by decide +kernel
theorem dX4_fewest_4 : decode cX4_fewest 4 = .ok (.invokestatic 38, 3) := by decide +kernel
theorem dX4_fewest_7 : decode cX4_fewest 7 = .ok (.ifCond .eq 12, 3) := by decide +kernel
theorem dX4_fewest_10 : decode cX4_fewest 10 = .ok (.iload_n 2, 1) := by decide +kernel
theorem dX4_fewest_11 : decode cX4_fewest 11 = .ok (.iconst 0, 1) := by decide +kernel
theorem dX4_fewest_12 : decode cX4_fewest 12 = .ok (.iconst 1, 1) := by decide +kernel
theorem dX4_fewest_13 : decode cX4_fewest 13 = .ok (.invokestatic 38, 3) := by decide +kernel
theorem dX4_fewest_16 : decode cX4_fewest 16 = .ok (.ifCond .ne 6, 3) := by decide +kernel
theorem dX4_fewest_19 : decode cX4_fewest 19 = .ok (.bipush (-3), 2) := by decide +kernel
theorem dX4_fewest_21 : decode cX4_fewest 21 = .ok (.ireturn, 1) := by decide +kernel
theorem dX4_fewest_22 : decode cX4_fewest 22 = .ok (.aload_n 0, 1) := by decide +kernel
theorem dX4_fewest_23 : decode cX4_fewest 23 = .ok (.iload_n 1, 1) := by decide +kernel
theorem dX4_fewest_24 : decode cX4_fewest 24 = .ok (.invokevirtual 84, 3) := by decide +kernel
theorem dX4_fewest_27 : decode cX4_fewest 27 = .ok (.istore_n 3, 1) := by decide +kernel
theorem dX4_fewest_28 : decode cX4_fewest 28 = .ok (.iload_n 2, 1) := by decide +kernel
theorem dX4_fewest_29 : decode cX4_fewest 29 = .ok (.ifCond .ne 10, 3) := by decide +kernel
theorem dX4_fewest_32 : decode cX4_fewest 32 = .ok (.iload_n 3, 1) := by decide +kernel
theorem dX4_fewest_33 : decode cX4_fewest 33 = .ok (.invokestatic 76, 3) := by decide +kernel
theorem dX4_fewest_36 : decode cX4_fewest 36 = .ok (.goto 4, 3) := by decide +kernel
theorem dX4_fewest_39 : decode cX4_fewest 39 = .ok (.iload_n 3, 1) := by decide +kernel
theorem dX4_fewest_40 : decode cX4_fewest 40 = .ok (.ireturn, 1) := by decide +kernel
set_option maxRecDepth 20000 in
theorem ggX4_thin_X4_in : GoodIn wsX4_thin wsX4_in := goodIn_r _ [7] (by decide +kernel) (by decide +kernel)
set_option maxRecDepth 20000 in
theorem gX4_thin_X4_in : GoodIn wsX4_thin (va_wsS RX4 38 yX4_in wsX4_in) := goodIn_app (goodIn_of _ (by decide +kernel)) ggX4_thin_X4_in
set_option maxRecDepth 20000 in
theorem ggX4_thin_X4_fewestBy : GoodIn wsX4_thin wsX4_fewestBy := goodIn_r _ [11, 1, 12, 13, 14, 15, 6, 16, 17, 3, 18, 19, 20, 21, 22, 23, 24, 25, 26, 27, 28, 29, 30, 31, 32, 33, 34, 35, 36, 37, 38, 39] (by decide +kernel) (by decide +kernel)
set_option maxRecDepth 20000 in
theorem gX4_thin_X4_fewestBy : GoodIn wsX4_thin (wsV RX4 84 RX4 yX4_fewestBy wsX4_fewestBy) := goodIn_app (goodIn_of _ (by decide +kernel)) ggX4_thin_X4_fewestBy
set_option maxRecDepth 20000 in
theorem ggX4_thin_X4_many : GoodIn wsX4_thin wsX4_many := goodIn_r _ [22] (by decide +kernel) (by decide +kernel)
set_option maxRecDepth 20000 in
theorem gX4_thin_X4_many : GoodIn wsX4_thin (va_wsS RX4 76 yX4_many wsX4_many) := goodIn_app (goodIn_of _ (by decide +kernel)) ggX4_thin_X4_many
theorem dX4_thin_0 : decode cX4_thin 0 = .ok (.iload_n 1, 1) := by decide +kernel
theorem dX4_thin_1 : decode cX4_thin 1 = .ok (.iconst 1, 1) := by decide +kernel
theorem dX4_thin_2 : decode cX4_thin 2 = .ok (.bipush 9, 2) := by decide +kernel
theorem dX4_thin_4 : decode cX4_thin 4 = .ok (.invokestatic 38, 3) := by decide +kernel
theorem dX4_thin_7 : decode cX4_thin 7 = .ok (.ifCond .ne 6, 3) := by decide +kernel
theorem dX4_thin_10 : decode cX4_thin 10 = .ok (.bipush (-3), 2) := by decide +kernel
theorem dX4_thin_12 : decode cX4_thin 12 = .ok (.ireturn, 1) := by decide +kernel
theorem dX4_thin_13 : decode cX4_thin 13 = .ok (.aload_n 0, 1) := by decide +kernel
theorem dX4_thin_14 : decode cX4_thin 14 = .ok (.iload_n 1, 1) := by decide +kernel
theorem dX4_thin_15 : decode cX4_thin 15 = .ok (.invokevirtual 84, 3) := by decide +kernel
theorem dX4_thin_18 : decode cX4_thin 18 = .ok (.istore_n 2, 1) := by decide +kernel
theorem dX4_thin_19 : decode cX4_thin 19 = .ok (.iconst 0, 1) := by decide +kernel
theorem dX4_thin_20 : decode cX4_thin 20 = .ok (.istore_n 3, 1) := by decide +kernel
theorem dX4_thin_21 : decode cX4_thin 21 = .ok (.iload_n 3, 1) := by decide +kernel
theorem dX4_thin_22 : decode cX4_thin 22 = .ok (.aload_n 0, 1) := by decide +kernel
theorem dX4_thin_23 : decode cX4_thin 23 = .ok (.getfield 42, 3) := by decide +kernel
theorem dX4_thin_26 : decode cX4_thin 26 = .ok (.if_icmp .ge 34, 3) := by decide +kernel
theorem dX4_thin_29 : decode cX4_thin 29 = .ok (.aload_n 0, 1) := by decide +kernel
theorem dX4_thin_30 : decode cX4_thin 30 = .ok (.getfield 23, 3) := by decide +kernel
theorem dX4_thin_33 : decode cX4_thin 33 = .ok (.iload_n 3, 1) := by decide +kernel
theorem dX4_thin_34 : decode cX4_thin 34 = .ok (.iload_n 2, 1) := by decide +kernel
theorem dX4_thin_35 : decode cX4_thin 35 = .ok (.iload_n 3, 1) := by decide +kernel
theorem dX4_thin_36 : decode cX4_thin 36 = .ok (.ishr, 1) := by decide +kernel
theorem dX4_thin_37 : decode cX4_thin 37 = .ok (.iconst 1, 1) := by decide +kernel
theorem dX4_thin_38 : decode cX4_thin 38 = .ok (.iand, 1) := by decide +kernel
theorem dX4_thin_39 : decode cX4_thin 39 = .ok (.iconst 1, 1) := by decide +kernel
theorem dX4_thin_40 : decode cX4_thin 40 = .ok (.if_icmp .ne 12, 3) := by decide +kernel
theorem dX4_thin_43 : decode cX4_thin 43 = .ok (.aload_n 0, 1) := by decide +kernel
theorem dX4_thin_44 : decode cX4_thin 44 = .ok (.getfield 20, 3) := by decide +kernel
theorem dX4_thin_47 : decode cX4_thin 47 = .ok (.iload_n 3, 1) := by decide +kernel
theorem dX4_thin_48 : decode cX4_thin 48 = .ok (.iaload, 1) := by decide +kernel
theorem dX4_thin_49 : decode cX4_thin 49 = .ok (.goto 4, 3) := by decide +kernel
theorem dX4_thin_52 : decode cX4_thin 52 = .ok (.iconst 0, 1) := by decide +kernel
theorem dX4_thin_53 : decode cX4_thin 53 = .ok (.iastore, 1) := by decide +kernel
theorem dX4_thin_54 : decode cX4_thin 54 = .ok (.iinc 3 1, 3) := by decide +kernel
theorem dX4_thin_57 : decode cX4_thin 57 = .ok (.goto (-36), 3) := by decide +kernel
theorem dX4_thin_60 : decode cX4_thin 60 = .ok (.iload_n 2, 1) := by decide +kernel
theorem dX4_thin_61 : decode cX4_thin 61 = .ok (.invokestatic 76, 3) := by decide +kernel
theorem dX4_thin_64 : decode cX4_thin 64 = .ok (.ireturn, 1) := by decide +kernel
set_option maxRecDepth 20000 in
theorem ggX4_far_X4_isNode : GoodIn wsX4_far wsX4_isNode := goodIn_r _ [7, 8, 9, 10, 6, 11, 24, 25, 26, 27, 28, 29, 30, 31, 32, 33, 34, 35] (by decide +kernel) (by decide +kernel)
set_option maxRecDepth 20000 in
theorem gX4_far_X4_isNode : GoodIn wsX4_far (wsV RX4 45 RX4 yX4_isNode wsX4_isNode) := goodIn_app (goodIn_of _ (by decide +kernel)) ggX4_far_X4_isNode
set_option maxRecDepth 20000 in
theorem ggX4_far_X4_in : GoodIn wsX4_far wsX4_in := goodIn_r _ [11] (by decide +kernel) (by decide +kernel)
set_option maxRecDepth 20000 in
theorem gX4_far_X4_in : GoodIn wsX4_far (va_wsS RX4 38 yX4_in wsX4_in) := goodIn_app (goodIn_of _ (by decide +kernel)) ggX4_far_X4_in
set_option maxRecDepth 20000 in
theorem ggX4_far_X4_keptSet : GoodIn wsX4_far wsX4_keptSet := goodIn_r _ [15, 1, 16, 24, 25, 26, 27, 28, 29, 30, 31, 32, 33, 34, 35] (by decide +kernel) (by decide +kernel)
set_option maxRecDepth 20000 in
theorem gX4_far_X4_keptSet : GoodIn wsX4_far (wsV RX4 87 RX4 yX4_keptSet wsX4_keptSet) := goodIn_app (goodIn_of _ (by decide +kernel)) ggX4_far_X4_keptSet
set_option maxRecDepth 20000 in
theorem ggX4_far_X4_findFar : GoodIn wsX4_far wsX4_findFar := goodIn_r _ [20, 8, 1, 21, 22, 23, 24, 25, 26, 27, 28, 29, 30, 31, 32, 33, 34, 35] (by decide +kernel) (by decide +kernel)
set_option maxRecDepth 20000 in
theorem gX4_far_X4_findFar : GoodIn wsX4_far (wsV RX4 72 RX4 yX4_findFar wsX4_findFar) := goodIn_app (goodIn_of _ (by decide +kernel)) ggX4_far_X4_findFar
theorem dX4_far_0 : decode cX4_far 0 = .ok (.aload_n 0, 1) := by decide +kernel
theorem dX4_far_1 : decode cX4_far 1 = .ok (.iload_n 1, 1) := by decide +kernel
theorem dX4_far_2 : decode cX4_far 2 = .ok (.invokevirtual 45, 3) := by decide +kernel
theorem dX4_far_5 : decode cX4_far 5 = .ok (.ifCond .eq 11, 3) := by decide +kernel
theorem dX4_far_8 : decode cX4_far 8 = .ok (.aload_n 0, 1) := by decide +kernel
theorem dX4_far_9 : decode cX4_far 9 = .ok (.iload_n 2, 1) := by decide +kernel
theorem dX4_far_10 : decode cX4_far 10 = .ok (.invokevirtual 45, 3) := by decide +kernel
theorem dX4_far_13 : decode cX4_far 13 = .ok (.ifCond .ne 6, 3) := by decide +kernel
theorem dX4_far_16 : decode cX4_far 16 = .ok (.bipush (-2), 2) := by decide +kernel
theorem dX4_far_18 : decode cX4_far 18 = .ok (.ireturn, 1) := by decide +kernel
theorem dX4_far_19 : decode cX4_far 19 = .ok (.iload_n 3, 1) := by decide +kernel
theorem dX4_far_20 : decode cX4_far 20 = .ok (.iconst 0, 1) := by decide +kernel
theorem dX4_far_21 : decode cX4_far 21 = .ok (.iconst 1, 1) := by decide +kernel
theorem dX4_far_22 : decode cX4_far 22 = .ok (.invokestatic 38, 3) := by decide +kernel
theorem dX4_far_25 : decode cX4_far 25 = .ok (.ifCond .ne 6, 3) := by decide +kernel
theorem dX4_far_28 : decode cX4_far 28 = .ok (.bipush (-3), 2) := by decide +kernel
theorem dX4_far_30 : decode cX4_far 30 = .ok (.ireturn, 1) := by decide +kernel
theorem dX4_far_31 : decode cX4_far 31 = .ok (.aload_n 0, 1) := by decide +kernel
theorem dX4_far_32 : decode cX4_far 32 = .ok (.iload_n 3, 1) := by decide +kernel
theorem dX4_far_33 : decode cX4_far 33 = .ok (.ifCond .ne 14, 3) := by decide +kernel
theorem dX4_far_36 : decode cX4_far 36 = .ok (.iconst 1, 1) := by decide +kernel
theorem dX4_far_37 : decode cX4_far 37 = .ok (.aload_n 0, 1) := by decide +kernel
theorem dX4_far_38 : decode cX4_far 38 = .ok (.getfield 42, 3) := by decide +kernel
theorem dX4_far_41 : decode cX4_far 41 = .ok (.ishl, 1) := by decide +kernel
theorem dX4_far_42 : decode cX4_far 42 = .ok (.iconst 1, 1) := by decide +kernel
theorem dX4_far_43 : decode cX4_far 43 = .ok (.isub, 1) := by decide +kernel
theorem dX4_far_44 : decode cX4_far 44 = .ok (.goto 7, 3) := by decide +kernel
theorem dX4_far_47 : decode cX4_far 47 = .ok (.aload_n 0, 1) := by decide +kernel
theorem dX4_far_48 : decode cX4_far 48 = .ok (.invokevirtual 87, 3) := by decide +kernel
theorem dX4_far_51 : decode cX4_far 51 = .ok (.aload_n 0, 1) := by decide +kernel
theorem dX4_far_52 : decode cX4_far 52 = .ok (.getfield 32, 3) := by decide +kernel
theorem dX4_far_55 : decode cX4_far 55 = .ok (.invokevirtual 72, 3) := by decide +kernel
theorem dX4_far_58 : decode cX4_far 58 = .ok (.aload_n 0, 1) := by decide +kernel
theorem dX4_far_59 : decode cX4_far 59 = .ok (.getfield 32, 3) := by decide +kernel
theorem dX4_far_62 : decode cX4_far 62 = .ok (.bipush 7, 2) := by decide +kernel
theorem dX4_far_64 : decode cX4_far 64 = .ok (.iload_n 1, 1) := by decide +kernel
theorem dX4_far_65 : decode cX4_far 65 = .ok (.imul, 1) := by decide +kernel
theorem dX4_far_66 : decode cX4_far 66 = .ok (.iload_n 2, 1) := by decide +kernel
theorem dX4_far_67 : decode cX4_far 67 = .ok (.iadd, 1) := by decide +kernel
theorem dX4_far_68 : decode cX4_far 68 = .ok (.iaload, 1) := by decide +kernel
theorem dX4_far_69 : decode cX4_far 69 = .ok (.sipush 10000, 3) := by decide +kernel
theorem dX4_far_72 : decode cX4_far 72 = .ok (.if_icmp .lt 7, 3) := by decide +kernel
theorem dX4_far_75 : decode cX4_far 75 = .ok (.iconst (-1), 1) := by decide +kernel
theorem dX4_far_76 : decode cX4_far 76 = .ok (.goto 14, 3) := by decide +kernel
theorem dX4_far_79 : decode cX4_far 79 = .ok (.aload_n 0, 1) := by decide +kernel
theorem dX4_far_80 : decode cX4_far 80 = .ok (.getfield 32, 3) := by decide +kernel
theorem dX4_far_83 : decode cX4_far 83 = .ok (.bipush 7, 2) := by decide +kernel
theorem dX4_far_85 : decode cX4_far 85 = .ok (.iload_n 1, 1) := by decide +kernel
theorem dX4_far_86 : decode cX4_far 86 = .ok (.imul, 1) := by decide +kernel
theorem dX4_far_87 : decode cX4_far 87 = .ok (.iload_n 2, 1) := by decide +kernel
theorem dX4_far_88 : decode cX4_far 88 = .ok (.iadd, 1) := by decide +kernel
theorem dX4_far_89 : decode cX4_far 89 = .ok (.iaload, 1) := by decide +kernel
theorem dX4_far_90 : decode cX4_far 90 = .ok (.ireturn, 1) := by decide +kernel
set_option maxRecDepth 20000 in
theorem ggX4_stretch_X4_in : GoodIn wsX4_stretch wsX4_in := goodIn_r _ [8] (by decide +kernel) (by decide +kernel)
set_option maxRecDepth 20000 in
theorem gX4_stretch_X4_in : GoodIn wsX4_stretch (va_wsS RX4 38 yX4_in wsX4_in) := goodIn_app (goodIn_of _ (by decide +kernel)) ggX4_stretch_X4_in
set_option maxRecDepth 20000 in
theorem ggX4_stretch_X4_findFar : GoodIn wsX4_stretch wsX4_findFar := goodIn_r _ [12, 4, 1, 13, 14, 15, 24, 25, 26, 27, 28, 29, 30, 31, 32, 33, 34, 35] (by decide +kernel) (by decide +kernel)
set_option maxRecDepth 20000 in
theorem gX4_stretch_X4_findFar : GoodIn wsX4_stretch (wsV RX4 72 RX4 yX4_findFar wsX4_findFar) := goodIn_app (goodIn_of _ (by decide +kernel)) ggX4_stretch_X4_findFar
set_option maxRecDepth 20000 in
theorem ggX4_stretch_X4_keptSet : GoodIn wsX4_stretch wsX4_keptSet := goodIn_r _ [19, 1, 20, 24, 25, 26, 27, 28, 29, 30, 31, 32, 33, 34, 35] (by decide +kernel) (by decide +kernel)
set_option maxRecDepth 20000 in
theorem gX4_stretch_X4_keptSet : GoodIn wsX4_stretch (wsV RX4 87 RX4 yX4_keptSet wsX4_keptSet) := goodIn_app (goodIn_of _ (by decide +kernel)) ggX4_stretch_X4_keptSet
set_option maxRecDepth 20000 in
theorem ggX4_stretch_X4_common : GoodIn wsX4_stretch wsX4_common := goodIn_r _ [23] (by decide +kernel) (by decide +kernel)
set_option maxRecDepth 20000 in
theorem gX4_stretch_X4_common : GoodIn wsX4_stretch (va_wsS RX4 90 yX4_common wsX4_common) := goodIn_app (goodIn_of _ (by decide +kernel)) ggX4_stretch_X4_common
theorem dX4_stretch_0 : decode cX4_stretch 0 = .ok (.iload_n 1, 1) := by decide +kernel
theorem dX4_stretch_1 : decode cX4_stretch 1 = .ok (.iconst 0, 1) := by decide +kernel
theorem dX4_stretch_2 : decode cX4_stretch 2 = .ok (.iconst 1, 1) := by decide +kernel
theorem dX4_stretch_3 : decode cX4_stretch 3 = .ok (.invokestatic 38, 3) := by decide +kernel
theorem dX4_stretch_6 : decode cX4_stretch 6 = .ok (.ifCond .ne 6, 3) := by decide +kernel
theorem dX4_stretch_9 : decode cX4_stretch 9 = .ok (.bipush (-3), 2) := by decide +kernel
theorem dX4_stretch_11 : decode cX4_stretch 11 = .ok (.ireturn, 1) := by decide +kernel
theorem dX4_stretch_12 : decode cX4_stretch 12 = .ok (.aload_n 0, 1) := by decide +kernel
theorem dX4_stretch_13 : decode cX4_stretch 13 = .ok (.iconst 1, 1) := by decide +kernel
theorem dX4_stretch_14 : decode cX4_stretch 14 = .ok (.aload_n 0, 1) := by decide +kernel
theorem dX4_stretch_15 : decode cX4_stretch 15 = .ok (.getfield 42, 3) := by decide +kernel
theorem dX4_stretch_18 : decode cX4_stretch 18 = .ok (.ishl, 1) := by decide +kernel
theorem dX4_stretch_19 : decode cX4_stretch 19 = .ok (.iconst 1, 1) := by decide +kernel
theorem dX4_stretch_20 : decode cX4_stretch 20 = .ok (.isub, 1) := by decide +kernel
theorem dX4_stretch_21 : decode cX4_stretch 21 = .ok (.aload_n 0, 1) := by decide +kernel
theorem dX4_stretch_22 : decode cX4_stretch 22 = .ok (.getfield 32, 3) := by decide +kernel
theorem dX4_stretch_25 : decode cX4_stretch 25 = .ok (.invokevirtual 72, 3) := by decide +kernel
theorem dX4_stretch_28 : decode cX4_stretch 28 = .ok (.aload_n 0, 1) := by decide +kernel
theorem dX4_stretch_29 : decode cX4_stretch 29 = .ok (.aload_n 0, 1) := by decide +kernel
theorem dX4_stretch_30 : decode cX4_stretch 30 = .ok (.invokevirtual 87, 3) := by decide +kernel
theorem dX4_stretch_33 : decode cX4_stretch 33 = .ok (.aload_n 0, 1) := by decide +kernel
theorem dX4_stretch_34 : decode cX4_stretch 34 = .ok (.getfield 35, 3) := by decide +kernel
theorem dX4_stretch_37 : decode cX4_stretch 37 = .ok (.invokevirtual 72, 3) := by decide +kernel
theorem dX4_stretch_40 : decode cX4_stretch 40 = .ok (.iconst 0, 1) := by decide +kernel
theorem dX4_stretch_41 : decode cX4_stretch 41 = .ok (.istore_n 2, 1) := by decide +kernel
theorem dX4_stretch_42 : decode cX4_stretch 42 = .ok (.iconst 1, 1) := by decide +kernel
theorem dX4_stretch_43 : decode cX4_stretch 43 = .ok (.istore_n 3, 1) := by decide +kernel
theorem dX4_stretch_44 : decode cX4_stretch 44 = .ok (.iconst 0, 1) := by decide +kernel
theorem dX4_stretch_45 : decode cX4_stretch 45 = .ok (.istore 4, 2) := by decide +kernel
theorem dX4_stretch_47 : decode cX4_stretch 47 = .ok (.iload 4, 2) := by decide +kernel
theorem dX4_stretch_49 : decode cX4_stretch 49 = .ok (.aload_n 0, 1) := by decide +kernel
theorem dX4_stretch_50 : decode cX4_stretch 50 = .ok (.getfield 7, 3) := by decide +kernel
theorem dX4_stretch_53 : decode cX4_stretch 53 = .ok (.if_icmp .ge 98, 3) := by decide +kernel
theorem dX4_stretch_56 : decode cX4_stretch 56 = .ok (.iconst 0, 1) := by decide +kernel
theorem dX4_stretch_57 : decode cX4_stretch 57 = .ok (.istore 5, 2) := by decide +kernel
theorem dX4_stretch_59 : decode cX4_stretch 59 = .ok (.iload 5, 2) := by decide +kernel
theorem dX4_stretch_61 : decode cX4_stretch 61 = .ok (.iload 4, 2) := by decide +kernel
theorem dX4_stretch_63 : decode cX4_stretch 63 = .ok (.if_icmp .ge 82, 3) := by decide +kernel
theorem dX4_stretch_66 : decode cX4_stretch 66 = .ok (.aload_n 0, 1) := by decide +kernel
theorem dX4_stretch_67 : decode cX4_stretch 67 = .ok (.getfield 32, 3) := by decide +kernel
theorem dX4_stretch_70 : decode cX4_stretch 70 = .ok (.bipush 7, 2) := by decide +kernel
theorem dX4_stretch_72 : decode cX4_stretch 72 = .ok (.iload 4, 2) := by decide +kernel
theorem dX4_stretch_74 : decode cX4_stretch 74 = .ok (.imul, 1) := by decide +kernel
theorem dX4_stretch_75 : decode cX4_stretch 75 = .ok (.iload 5, 2) := by decide +kernel
theorem dX4_stretch_77 : decode cX4_stretch 77 = .ok (.iadd, 1) := by decide +kernel
theorem dX4_stretch_78 : decode cX4_stretch 78 = .ok (.iaload, 1) := by decide +kernel
theorem dX4_stretch_79 : decode cX4_stretch 79 = .ok (.istore 6, 2) := by decide +kernel
theorem dX4_stretch_81 : decode cX4_stretch 81 = .ok (.aload_n 0, 1) := by decide +kernel
theorem dX4_stretch_82 : decode cX4_stretch 82 = .ok (.getfield 35, 3) := by decide +kernel
theorem dX4_stretch_85 : decode cX4_stretch 85 = .ok (.bipush 7, 2) := by decide +kernel
theorem dX4_stretch_87 : decode cX4_stretch 87 = .ok (.iload 4, 2) := by decide +kernel
theorem dX4_stretch_89 : decode cX4_stretch 89 = .ok (.imul, 1) := by decide +kernel
theorem dX4_stretch_90 : decode cX4_stretch 90 = .ok (.iload 5, 2) := by decide +kernel
theorem dX4_stretch_92 : decode cX4_stretch 92 = .ok (.iadd, 1) := by decide +kernel
theorem dX4_stretch_93 : decode cX4_stretch 93 = .ok (.iaload, 1) := by decide +kernel
theorem dX4_stretch_94 : decode cX4_stretch 94 = .ok (.istore 7, 2) := by decide +kernel
theorem dX4_stretch_96 : decode cX4_stretch 96 = .ok (.iload 6, 2) := by decide +kernel
theorem dX4_stretch_98 : decode cX4_stretch 98 = .ok (.sipush 10000, 3) := by decide +kernel
theorem dX4_stretch_101 : decode cX4_stretch 101 = .ok (.if_icmp .ge 13, 3) := by decide +kernel
theorem dX4_stretch_104 : decode cX4_stretch 104 = .ok (.iload 7, 2) := by decide +kernel
theorem dX4_stretch_106 : decode cX4_stretch 106 = .ok (.sipush 10000, 3) := by decide +kernel
theorem dX4_stretch_109 : decode cX4_stretch 109 = .ok (.if_icmp .lt 5, 3) := by decide +kernel
theorem dX4_stretch_112 : decode cX4_stretch 112 = .ok (.iconst (-1), 1) := by decide +kernel
theorem dX4_stretch_113 : decode cX4_stretch 113 = .ok (.ireturn, 1) := by decide +kernel
theorem dX4_stretch_114 : decode cX4_stretch 114 = .ok (.iload 6, 2) := by decide +kernel
theorem dX4_stretch_116 : decode cX4_stretch 116 = .ok (.sipush 10000, 3) := by decide +kernel
theorem dX4_stretch_119 : decode cX4_stretch 119 = .ok (.if_icmp .ge 20, 3) := by decide +kernel
theorem dX4_stretch_122 : decode cX4_stretch 122 = .ok (.iload 7, 2) := by decide +kernel
theorem dX4_stretch_124 : decode cX4_stretch 124 = .ok (.iload_n 3, 1) := by decide +kernel
theorem dX4_stretch_125 : decode cX4_stretch 125 = .ok (.imul, 1) := by decide +kernel
theorem dX4_stretch_126 : decode cX4_stretch 126 = .ok (.iload_n 2, 1) := by decide +kernel
theorem dX4_stretch_127 : decode cX4_stretch 127 = .ok (.iload 6, 2) := by decide +kernel
theorem dX4_stretch_129 : decode cX4_stretch 129 = .ok (.imul, 1) := by decide +kernel
theorem dX4_stretch_130 : decode cX4_stretch 130 = .ok (.if_icmp .le 9, 3) := by decide +kernel
theorem dX4_stretch_133 : decode cX4_stretch 133 = .ok (.iload 7, 2) := by decide +kernel
theorem dX4_stretch_135 : decode cX4_stretch 135 = .ok (.istore_n 2, 1) := by decide +kernel
theorem dX4_stretch_136 : decode cX4_stretch 136 = .ok (.iload 6, 2) := by decide +kernel
theorem dX4_stretch_138 : decode cX4_stretch 138 = .ok (.istore_n 3, 1) := by decide +kernel
theorem dX4_stretch_139 : decode cX4_stretch 139 = .ok (.iinc 5 1, 3) := by decide +kernel
theorem dX4_stretch_142 : decode cX4_stretch 142 = .ok (.goto (-83), 3) := by decide +kernel
theorem dX4_stretch_145 : decode cX4_stretch 145 = .ok (.iinc 4 1, 3) := by decide +kernel
theorem dX4_stretch_148 : decode cX4_stretch 148 = .ok (.goto (-101), 3) := by decide +kernel
theorem dX4_stretch_151 : decode cX4_stretch 151 = .ok (.iload_n 2, 1) := by decide +kernel
theorem dX4_stretch_152 : decode cX4_stretch 152 = .ok (.ifCond .ne 5, 3) := by decide +kernel
theorem dX4_stretch_155 : decode cX4_stretch 155 = .ok (.iconst (-1), 1) := by decide +kernel
theorem dX4_stretch_156 : decode cX4_stretch 156 = .ok (.ireturn, 1) := by decide +kernel
theorem dX4_stretch_157 : decode cX4_stretch 157 = .ok (.iload_n 2, 1) := by decide +kernel
theorem dX4_stretch_158 : decode cX4_stretch 158 = .ok (.i2l, 1) := by decide +kernel
theorem dX4_stretch_159 : decode cX4_stretch 159 = .ok (.iload_n 3, 1) := by decide +kernel
theorem dX4_stretch_160 : decode cX4_stretch 160 = .ok (.i2l, 1) := by decide +kernel
theorem dX4_stretch_161 : decode cX4_stretch 161 = .ok (.invokestatic 90, 3) := by decide +kernel
theorem dX4_stretch_164 : decode cX4_stretch 164 = .ok (.l2i, 1) := by decide +kernel
theorem dX4_stretch_165 : decode cX4_stretch 165 = .ok (.istore 4, 2) := by decide +kernel
theorem dX4_stretch_167 : decode cX4_stretch 167 = .ok (.iload_n 1, 1) := by decide +kernel
theorem dX4_stretch_168 : decode cX4_stretch 168 = .ok (.ifCond .ne 10, 3) := by decide +kernel
theorem dX4_stretch_171 : decode cX4_stretch 171 = .ok (.iload_n 2, 1) := by decide +kernel
theorem dX4_stretch_172 : decode cX4_stretch 172 = .ok (.iload 4, 2) := by decide +kernel
theorem dX4_stretch_174 : decode cX4_stretch 174 = .ok (.idiv, 1) := by decide +kernel
theorem dX4_stretch_175 : decode cX4_stretch 175 = .ok (.goto 7, 3) := by decide +kernel
theorem dX4_stretch_178 : decode cX4_stretch 178 = .ok (.iload_n 3, 1) := by decide +kernel
theorem dX4_stretch_179 : decode cX4_stretch 179 = .ok (.iload 4, 2) := by decide +kernel
theorem dX4_stretch_181 : decode cX4_stretch 181 = .ok (.idiv, 1) := by decide +kernel
theorem dX4_stretch_182 : decode cX4_stretch 182 = .ok (.ireturn, 1) := by decide +kernel
theorem dX4_common_0 : decode cX4_common 0 = .ok (.lload_n 0, 1) := by decide +kernel
theorem dX4_common_1 : decode cX4_common 1 = .ok (.lstore 4, 2) := by decide +kernel
theorem dX4_common_3 : decode cX4_common 3 = .ok (.lload_n 2, 1) := by decide +kernel
theorem dX4_common_4 : decode cX4_common 4 = .ok (.lstore 6, 2) := by decide +kernel
theorem dX4_common_6 : decode cX4_common 6 = .ok (.lload 6, 2) := by decide +kernel
theorem dX4_common_8 : decode cX4_common 8 = .ok (.lconst 0, 1) := by decide +kernel
theorem dX4_common_9 : decode cX4_common 9 = .ok (.lcmp, 1) := by decide +kernel
theorem dX4_common_10 : decode cX4_common 10 = .ok (.ifCond .eq 21, 3) := by decide +kernel
theorem dX4_common_13 : decode cX4_common 13 = .ok (.lload 4, 2) := by decide +kernel
theorem dX4_common_15 : decode cX4_common 15 = .ok (.lload 6, 2) := by decide +kernel
theorem dX4_common_17 : decode cX4_common 17 = .ok (.lrem, 1) := by decide +kernel
theorem dX4_common_18 : decode cX4_common 18 = .ok (.lstore 8, 2) := by decide +kernel
theorem dX4_common_20 : decode cX4_common 20 = .ok (.lload 6, 2) := by decide +kernel
theorem dX4_common_22 : decode cX4_common 22 = .ok (.lstore 4, 2) := by decide +kernel
theorem dX4_common_24 : decode cX4_common 24 = .ok (.lload 8, 2) := by decide +kernel
theorem dX4_common_26 : decode cX4_common 26 = .ok (.lstore 6, 2) := by decide +kernel
theorem dX4_common_28 : decode cX4_common 28 = .ok (.goto (-22), 3) := by decide +kernel
theorem dX4_common_31 : decode cX4_common 31 = .ok (.lload 4, 2) := by decide +kernel
theorem dX4_common_33 : decode cX4_common 33 = .ok (.lreturn, 1) := by decide +kernel
set_option maxRecDepth 20000 in
theorem ggX4_products_X4_many : GoodIn wsX4_products wsX4_many := goodIn_r _ [8] (by decide +kernel) (by decide +kernel)
set_option maxRecDepth 20000 in
theorem gX4_products_X4_many : GoodIn wsX4_products (va_wsS RX4 76 yX4_many wsX4_many) := goodIn_app (goodIn_of _ (by decide +kernel)) ggX4_products_X4_many
set_option maxRecDepth 20000 in
theorem ggX4_products_X4_apart : GoodIn wsX4_products wsX4_apart := goodIn_r _ [12, 4, 20, 21, 22, 23, 24, 25, 26, 27, 28, 29, 30, 31] (by decide +kernel) (by decide +kernel)
set_option maxRecDepth 20000 in
theorem gX4_products_X4_apart : GoodIn wsX4_products (wsV RX4 63 RX4 yX4_apart wsX4_apart) := goodIn_app (goodIn_of _ (by decide +kernel)) ggX4_products_X4_apart
set_option maxRecDepth 20000 in
theorem ggX4_products_X4_join : GoodIn wsX4_products wsX4_join := goodIn_r _ [16, 4, 17, 18, 19, 20, 21, 22, 23, 24, 25, 26, 27, 28, 29, 30, 31] (by decide +kernel) (by decide +kernel)
set_option maxRecDepth 20000 in
theorem gX4_products_X4_join : GoodIn wsX4_products (wsV RX4 66 RX4 yX4_join wsX4_join) := goodIn_app (goodIn_of _ (by decide +kernel)) ggX4_products_X4_join
theorem dX4_products_0 : decode cX4_products 0 = .ok (.lconst 0, 1) := by decide +kernel
theorem dX4_products_1 : decode cX4_products 1 = .ok (.lstore 5, 2) := by decide +kernel
theorem dX4_products_3 : decode cX4_products 3 = .ok (.iconst 0, 1) := by decide +kernel
theorem dX4_products_4 : decode cX4_products 4 = .ok (.istore 7, 2) := by decide +kernel
theorem dX4_products_6 : decode cX4_products 6 = .ok (.iload 7, 2) := by decide +kernel
theorem dX4_products_8 : decode cX4_products 8 = .ok (.iconst 1, 1) := by decide +kernel
theorem dX4_products_9 : decode cX4_products 9 = .ok (.aload_n 0, 1) := by decide +kernel
theorem dX4_products_10 : decode cX4_products 10 = .ok (.getfield 42, 3) := by decide +kernel
theorem dX4_products_13 : decode cX4_products 13 = .ok (.ishl, 1) := by decide +kernel
theorem dX4_products_14 : decode cX4_products 14 = .ok (.if_icmp .ge 134, 3) := by decide +kernel
theorem dX4_products_17 : decode cX4_products 17 = .ok (.iload 7, 2) := by decide +kernel
theorem dX4_products_19 : decode cX4_products 19 = .ok (.invokestatic 76, 3) := by decide +kernel
theorem dX4_products_22 : decode cX4_products 22 = .ok (.iload_n 1, 1) := by decide +kernel
theorem dX4_products_23 : decode cX4_products 23 = .ok (.if_icmp .ne 119, 3) := by decide +kernel
theorem dX4_products_26 : decode cX4_products 26 = .ok (.lconst 1, 1) := by decide +kernel
theorem dX4_products_27 : decode cX4_products 27 = .ok (.lstore 8, 2) := by decide +kernel
theorem dX4_products_29 : decode cX4_products 29 = .ok (.aload_n 0, 1) := by decide +kernel
theorem dX4_products_30 : decode cX4_products 30 = .ok (.invokevirtual 63, 3) := by decide +kernel
theorem dX4_products_33 : decode cX4_products 33 = .ok (.iconst 0, 1) := by decide +kernel
theorem dX4_products_34 : decode cX4_products 34 = .ok (.istore 10, 2) := by decide +kernel
theorem dX4_products_36 : decode cX4_products 36 = .ok (.iload 10, 2) := by decide +kernel
theorem dX4_products_38 : decode cX4_products 38 = .ok (.aload_n 0, 1) := by decide +kernel
theorem dX4_products_39 : decode cX4_products 39 = .ok (.getfield 42, 3) := by decide +kernel
theorem dX4_products_42 : decode cX4_products 42 = .ok (.if_icmp .ge 67, 3) := by decide +kernel
theorem dX4_products_45 : decode cX4_products 45 = .ok (.lload 8, 2) := by decide +kernel
theorem dX4_products_47 : decode cX4_products 47 = .ok (.lconst 0, 1) := by decide +kernel
theorem dX4_products_48 : decode cX4_products 48 = .ok (.lcmp, 1) := by decide +kernel
theorem dX4_products_49 : decode cX4_products 49 = .ok (.ifCond .le 60, 3) := by decide +kernel
theorem dX4_products_52 : decode cX4_products 52 = .ok (.iload 7, 2) := by decide +kernel
theorem dX4_products_54 : decode cX4_products 54 = .ok (.iload 10, 2) := by decide +kernel
theorem dX4_products_56 : decode cX4_products 56 = .ok (.ishr, 1) := by decide +kernel
theorem dX4_products_57 : decode cX4_products 57 = .ok (.iconst 1, 1) := by decide +kernel
theorem dX4_products_58 : decode cX4_products 58 = .ok (.iand, 1) := by decide +kernel
theorem dX4_products_59 : decode cX4_products 59 = .ok (.iconst 1, 1) := by decide +kernel
theorem dX4_products_60 : decode cX4_products 60 = .ok (.if_icmp .ne 43, 3) := by decide +kernel
theorem dX4_products_63 : decode cX4_products 63 = .ok (.aload_n 0, 1) := by decide +kernel
theorem dX4_products_64 : decode cX4_products 64 = .ok (.iload 10, 2) := by decide +kernel
theorem dX4_products_66 : decode cX4_products 66 = .ok (.invokevirtual 66, 3) := by decide +kernel
theorem dX4_products_69 : decode cX4_products 69 = .ok (.ifCond .eq 31, 3) := by decide +kernel
theorem dX4_products_72 : decode cX4_products 72 = .ok (.lload 8, 2) := by decide +kernel
theorem dX4_products_74 : decode cX4_products 74 = .ok (.iload_n 2, 1) := by decide +kernel
theorem dX4_products_75 : decode cX4_products 75 = .ok (.ifCond .ne 13, 3) := by decide +kernel
theorem dX4_products_78 : decode cX4_products 78 = .ok (.aload_n 0, 1) := by decide +kernel
theorem dX4_products_79 : decode cX4_products 79 = .ok (.getfield 20, 3) := by decide +kernel
theorem dX4_products_82 : decode cX4_products 82 = .ok (.iload 10, 2) := by decide +kernel
theorem dX4_products_84 : decode cX4_products 84 = .ok (.iaload, 1) := by decide +kernel
theorem dX4_products_85 : decode cX4_products 85 = .ok (.goto 10, 3) := by decide +kernel
theorem dX4_products_88 : decode cX4_products 88 = .ok (.aload_n 0, 1) := by decide +kernel
theorem dX4_products_89 : decode cX4_products 89 = .ok (.getfield 23, 3) := by decide +kernel
theorem dX4_products_92 : decode cX4_products 92 = .ok (.iload 10, 2) := by decide +kernel
theorem dX4_products_94 : decode cX4_products 94 = .ok (.iaload, 1) := by decide +kernel
theorem dX4_products_95 : decode cX4_products 95 = .ok (.i2l, 1) := by decide +kernel
theorem dX4_products_96 : decode cX4_products 96 = .ok (.lmul, 1) := by decide +kernel
theorem dX4_products_97 : decode cX4_products 97 = .ok (.goto 4, 3) := by decide +kernel
theorem dX4_products_100 : decode cX4_products 100 = .ok (.lconst 0, 1) := by decide +kernel
theorem dX4_products_101 : decode cX4_products 101 = .ok (.lstore 8, 2) := by decide +kernel
theorem dX4_products_103 : decode cX4_products 103 = .ok (.iinc 10 1, 3) := by decide +kernel
theorem dX4_products_106 : decode cX4_products 106 = .ok (.goto (-70), 3) := by decide +kernel
theorem dX4_products_109 : decode cX4_products 109 = .ok (.lload 5, 2) := by decide +kernel
theorem dX4_products_111 : decode cX4_products 111 = .ok (.iload_n 3, 1) := by decide +kernel
theorem dX4_products_112 : decode cX4_products 112 = .ok (.iload 4, 2) := by decide +kernel
theorem dX4_products_114 : decode cX4_products 114 = .ok (.if_icmp .eq 19, 3) := by decide +kernel
theorem dX4_products_117 : decode cX4_products 117 = .ok (.aload_n 0, 1) := by decide +kernel
theorem dX4_products_118 : decode cX4_products 118 = .ok (.getfield 29, 3) := by decide +kernel
theorem dX4_products_121 : decode cX4_products 121 = .ok (.iload_n 3, 1) := by decide +kernel
theorem dX4_products_122 : decode cX4_products 122 = .ok (.iaload, 1) := by decide +kernel
theorem dX4_products_123 : decode cX4_products 123 = .ok (.aload_n 0, 1) := by decide +kernel
theorem dX4_products_124 : decode cX4_products 124 = .ok (.getfield 29, 3) := by decide +kernel
theorem dX4_products_127 : decode cX4_products 127 = .ok (.iload 4, 2) := by decide +kernel
theorem dX4_products_129 : decode cX4_products 129 = .ok (.iaload, 1) := by decide +kernel
theorem dX4_products_130 : decode cX4_products 130 = .ok (.if_icmp .eq 8, 3) := by decide +kernel
theorem dX4_products_133 : decode cX4_products 133 = .ok (.lload 8, 2) := by decide +kernel
theorem dX4_products_135 : decode cX4_products 135 = .ok (.goto 4, 3) := by decide +kernel
theorem dX4_products_138 : decode cX4_products 138 = .ok (.lconst 0, 1) := by decide +kernel
theorem dX4_products_139 : decode cX4_products 139 = .ok (.ladd, 1) := by decide +kernel
theorem dX4_products_140 : decode cX4_products 140 = .ok (.lstore 5, 2) := by decide +kernel
theorem dX4_products_142 : decode cX4_products 142 = .ok (.iinc 7 1, 3) := by decide +kernel
theorem dX4_products_145 : decode cX4_products 145 = .ok (.goto (-139), 3) := by decide +kernel
theorem dX4_products_148 : decode cX4_products 148 = .ok (.lload 5, 2) := by decide +kernel
theorem dX4_products_150 : decode cX4_products 150 = .ok (.lreturn, 1) := by decide +kernel
set_option maxRecDepth 20000 in
theorem ggX4_trees_X4_in : GoodIn wsX4_trees wsX4_in := goodIn_r _ [6] (by decide +kernel) (by decide +kernel)
set_option maxRecDepth 20000 in
theorem gX4_trees_X4_in : GoodIn wsX4_trees (va_wsS RX4 38 yX4_in wsX4_in) := goodIn_app (goodIn_of _ (by decide +kernel)) ggX4_trees_X4_in
set_option maxRecDepth 20000 in
theorem ggX4_trees_X4_products : GoodIn wsX4_trees wsX4_products := goodIn_r _ [10, 11, 12, 13, 14, 15, 16, 5, 17, 18, 19, 20, 21, 22, 23, 24, 25, 26, 27, 1, 28, 29, 30, 31, 32, 33, 34, 35, 36, 37, 38, 39] (by decide +kernel) (by decide +kernel)
set_option maxRecDepth 20000 in
theorem gX4_trees_X4_products : GoodIn wsX4_trees (wsV RX4 94 RX4 yX4_products wsX4_products) := goodIn_app (goodIn_of _ (by decide +kernel)) ggX4_trees_X4_products
theorem dX4_trees_0 : decode cX4_trees 0 = .ok (.iload_n 1, 1) := by decide +kernel
theorem dX4_trees_1 : decode cX4_trees 1 = .ok (.iconst 0, 1) := by decide +kernel
theorem dX4_trees_2 : decode cX4_trees 2 = .ok (.iconst 1, 1) := by decide +kernel
theorem dX4_trees_3 : decode cX4_trees 3 = .ok (.invokestatic 38, 3) := by decide +kernel
theorem dX4_trees_6 : decode cX4_trees 6 = .ok (.ifCond .eq 19, 3) := by decide +kernel
theorem dX4_trees_9 : decode cX4_trees 9 = .ok (.aload_n 0, 1) := by decide +kernel
theorem dX4_trees_10 : decode cX4_trees 10 = .ok (.aload_n 0, 1) := by decide +kernel
theorem dX4_trees_11 : decode cX4_trees 11 = .ok (.getfield 7, 3) := by decide +kernel
theorem dX4_trees_14 : decode cX4_trees 14 = .ok (.iconst 1, 1) := by decide +kernel
theorem dX4_trees_15 : decode cX4_trees 15 = .ok (.isub, 1) := by decide +kernel
theorem dX4_trees_16 : decode cX4_trees 16 = .ok (.iload_n 1, 1) := by decide +kernel
theorem dX4_trees_17 : decode cX4_trees 17 = .ok (.iconst 0, 1) := by decide +kernel
theorem dX4_trees_18 : decode cX4_trees 18 = .ok (.iconst 0, 1) := by decide +kernel
theorem dX4_trees_19 : decode cX4_trees 19 = .ok (.invokevirtual 94, 3) := by decide +kernel
theorem dX4_trees_22 : decode cX4_trees 22 = .ok (.goto 6, 3) := by decide +kernel
theorem dX4_trees_25 : decode cX4_trees 25 = .ok (.ldc2_w 98, 3) := by decide +kernel
theorem dX4_trees_28 : decode cX4_trees 28 = .ok (.lreturn, 1) := by decide +kernel
set_option maxRecDepth 20000 in
theorem ggX4_hasResistance_X4_products : GoodIn wsX4_hasResistance wsX4_products := goodIn_r _ [8, 9, 10, 11, 12, 13, 14, 7, 15, 16, 17, 18, 19, 20, 21, 22, 23, 24, 25, 1, 29, 30, 31, 32, 33, 34, 35, 36, 37, 38, 39, 40] (by decide +kernel) (by decide +kernel)
set_option maxRecDepth 20000 in
theorem gX4_hasResistance_X4_products : GoodIn wsX4_hasResistance (wsV RX4 94 RX4 yX4_products wsX4_products) := goodIn_app (goodIn_of _ (by decide +kernel)) ggX4_hasResistance_X4_products
set_option maxRecDepth 20000 in
theorem ggX4_hasResistance_X4_common : GoodIn wsX4_hasResistance wsX4_common := goodIn_r _ [28] (by decide +kernel) (by decide +kernel)
set_option maxRecDepth 20000 in
theorem gX4_hasResistance_X4_common : GoodIn wsX4_hasResistance (va_wsS RX4 90 yX4_common wsX4_common) := goodIn_app (goodIn_of _ (by decide +kernel)) ggX4_hasResistance_X4_common
theorem dX4_hasResistance_0 : decode cX4_hasResistance 0 = .ok (.aload_n 0, 1) := by decide +kernel
theorem dX4_hasResistance_1 : decode cX4_hasResistance 1 = .ok (.aload_n 0, 1) := by decide +kernel
theorem dX4_hasResistance_2 : decode cX4_hasResistance 2 = .ok (.aload_n 0, 1) := by decide +kernel
theorem dX4_hasResistance_3 : decode cX4_hasResistance 3 = .ok (.getfield 7, 3) := by decide +kernel
theorem dX4_hasResistance_6 : decode cX4_hasResistance 6 = .ok (.iconst 1, 1) := by decide +kernel
theorem dX4_hasResistance_7 : decode cX4_hasResistance 7 = .ok (.isub, 1) := by decide +kernel
theorem dX4_hasResistance_8 : decode cX4_hasResistance 8 = .ok (.iload_n 3, 1) := by decide +kernel
theorem dX4_hasResistance_9 : decode cX4_hasResistance 9 = .ok (.iconst 0, 1) := by decide +kernel
theorem dX4_hasResistance_10 : decode cX4_hasResistance 10 = .ok (.iconst 0, 1) := by decide +kernel
theorem dX4_hasResistance_11 : decode cX4_hasResistance 11 = .ok (.invokevirtual 94, 3) := by decide +kernel
theorem dX4_hasResistance_14 : decode cX4_hasResistance 14 = .ok (.putfield 100, 3) := by decide +kernel
theorem dX4_hasResistance_17 : decode cX4_hasResistance 17 = .ok (.aload_n 0, 1) := by decide +kernel
theorem dX4_hasResistance_18 : decode cX4_hasResistance 18 = .ok (.getfield 100, 3) := by decide +kernel
theorem dX4_hasResistance_21 : decode cX4_hasResistance 21 = .ok (.lconst 0, 1) := by decide +kernel
theorem dX4_hasResistance_22 : decode cX4_hasResistance 22 = .ok (.lcmp, 1) := by decide +kernel
theorem dX4_hasResistance_23 : decode cX4_hasResistance 23 = .ok (.ifCond .ne 5, 3) := by decide +kernel
theorem dX4_hasResistance_26 : decode cX4_hasResistance 26 = .ok (.iconst 0, 1) := by decide +kernel
theorem dX4_hasResistance_27 : decode cX4_hasResistance 27 = .ok (.ireturn, 1) := by decide +kernel
theorem dX4_hasResistance_28 : decode cX4_hasResistance 28 = .ok (.aload_n 0, 1) := by decide +kernel
theorem dX4_hasResistance_29 : decode cX4_hasResistance 29 = .ok (.lload 4, 2) := by decide +kernel
theorem dX4_hasResistance_31 : decode cX4_hasResistance 31 = .ok (.aload_n 0, 1) := by decide +kernel
theorem dX4_hasResistance_32 : decode cX4_hasResistance 32 = .ok (.aload_n 0, 1) := by decide +kernel
theorem dX4_hasResistance_33 : decode cX4_hasResistance 33 = .ok (.getfield 7, 3) := by decide +kernel
theorem dX4_hasResistance_36 : decode cX4_hasResistance 36 = .ok (.iconst 2, 1) := by decide +kernel
theorem dX4_hasResistance_37 : decode cX4_hasResistance 37 = .ok (.isub, 1) := by decide +kernel
theorem dX4_hasResistance_38 : decode cX4_hasResistance 38 = .ok (.iload_n 3, 1) := by decide +kernel
theorem dX4_hasResistance_39 : decode cX4_hasResistance 39 = .ok (.iload_n 1, 1) := by decide +kernel
theorem dX4_hasResistance_40 : decode cX4_hasResistance 40 = .ok (.iload_n 2, 1) := by decide +kernel
theorem dX4_hasResistance_41 : decode cX4_hasResistance 41 = .ok (.invokevirtual 94, 3) := by decide +kernel
theorem dX4_hasResistance_44 : decode cX4_hasResistance 44 = .ok (.lmul, 1) := by decide +kernel
theorem dX4_hasResistance_45 : decode cX4_hasResistance 45 = .ok (.putfield 104, 3) := by decide +kernel
theorem dX4_hasResistance_48 : decode cX4_hasResistance 48 = .ok (.aload_n 0, 1) := by decide +kernel
theorem dX4_hasResistance_49 : decode cX4_hasResistance 49 = .ok (.getfield 104, 3) := by decide +kernel
theorem dX4_hasResistance_52 : decode cX4_hasResistance 52 = .ok (.aload_n 0, 1) := by decide +kernel
theorem dX4_hasResistance_53 : decode cX4_hasResistance 53 = .ok (.getfield 100, 3) := by decide +kernel
theorem dX4_hasResistance_56 : decode cX4_hasResistance 56 = .ok (.invokestatic 90, 3) := by decide +kernel
theorem dX4_hasResistance_59 : decode cX4_hasResistance 59 = .ok (.lstore 6, 2) := by decide +kernel
theorem dX4_hasResistance_61 : decode cX4_hasResistance 61 = .ok (.aload_n 0, 1) := by decide +kernel
theorem dX4_hasResistance_62 : decode cX4_hasResistance 62 = .ok (.aload_n 0, 1) := by decide +kernel
theorem dX4_hasResistance_63 : decode cX4_hasResistance 63 = .ok (.getfield 104, 3) := by decide +kernel
theorem dX4_hasResistance_66 : decode cX4_hasResistance 66 = .ok (.lload 6, 2) := by decide +kernel
theorem dX4_hasResistance_68 : decode cX4_hasResistance 68 = .ok (.ldiv, 1) := by decide +kernel
theorem dX4_hasResistance_69 : decode cX4_hasResistance 69 = .ok (.putfield 104, 3) := by decide +kernel
theorem dX4_hasResistance_72 : decode cX4_hasResistance 72 = .ok (.aload_n 0, 1) := by decide +kernel
theorem dX4_hasResistance_73 : decode cX4_hasResistance 73 = .ok (.aload_n 0, 1) := by decide +kernel
theorem dX4_hasResistance_74 : decode cX4_hasResistance 74 = .ok (.getfield 100, 3) := by decide +kernel
theorem dX4_hasResistance_77 : decode cX4_hasResistance 77 = .ok (.lload 6, 2) := by decide +kernel
theorem dX4_hasResistance_79 : decode cX4_hasResistance 79 = .ok (.ldiv, 1) := by decide +kernel
theorem dX4_hasResistance_80 : decode cX4_hasResistance 80 = .ok (.putfield 100, 3) := by decide +kernel
theorem dX4_hasResistance_83 : decode cX4_hasResistance 83 = .ok (.iconst 1, 1) := by decide +kernel
theorem dX4_hasResistance_84 : decode cX4_hasResistance 84 = .ok (.ireturn, 1) := by decide +kernel
set_option maxRecDepth 20000 in
theorem ggX4_resistance_X4_isNode : GoodIn wsX4_resistance wsX4_isNode := goodIn_r _ [10, 11, 12, 13, 9, 14, 43, 44, 45, 46, 47, 48, 49, 50, 51, 52, 53, 54] (by decide +kernel) (by decide +kernel)
set_option maxRecDepth 20000 in
theorem gX4_resistance_X4_isNode : GoodIn wsX4_resistance (wsV RX4 45 RX4 yX4_isNode wsX4_isNode) := goodIn_app (goodIn_of _ (by decide +kernel)) ggX4_resistance_X4_isNode
set_option maxRecDepth 20000 in
theorem ggX4_resistance_X4_in : GoodIn wsX4_resistance wsX4_in := goodIn_r _ [14] (by decide +kernel) (by decide +kernel)
set_option maxRecDepth 20000 in
theorem gX4_resistance_X4_in : GoodIn wsX4_resistance (va_wsS RX4 38 yX4_in wsX4_in) := goodIn_app (goodIn_of _ (by decide +kernel)) ggX4_resistance_X4_in
set_option maxRecDepth 20000 in
theorem ggX4_resistance_X4_hasResistance : GoodIn wsX4_resistance wsX4_hasResistance := goodIn_r _ [18, 11, 5, 4, 19, 20, 21, 9, 22, 23, 24, 25, 26, 27, 28, 29, 30, 31, 32, 33, 34, 35, 36, 37, 38, 39, 40, 41, 42, 43, 44, 45, 46, 47, 48, 49, 50, 51, 52, 53, 54] (by decide +kernel) (by decide +kernel)
set_option maxRecDepth 20000 in
theorem gX4_resistance_X4_hasResistance : GoodIn wsX4_resistance (wsV RX4 109 RX4 yX4_hasResistance wsX4_hasResistance) := goodIn_app (goodIn_of _ (by decide +kernel)) ggX4_resistance_X4_hasResistance
theorem dX4_resistance_0 : decode cX4_resistance 0 = .ok (.aload_n 0, 1) := by decide +kernel
theorem dX4_resistance_1 : decode cX4_resistance 1 = .ok (.iload_n 1, 1) := by decide +kernel
theorem dX4_resistance_2 : decode cX4_resistance 2 = .ok (.invokevirtual 45, 3) := by decide +kernel
theorem dX4_resistance_5 : decode cX4_resistance 5 = .ok (.ifCond .eq 11, 3) := by decide +kernel
theorem dX4_resistance_8 : decode cX4_resistance 8 = .ok (.aload_n 0, 1) := by decide +kernel
theorem dX4_resistance_9 : decode cX4_resistance 9 = .ok (.iload_n 2, 1) := by decide +kernel
theorem dX4_resistance_10 : decode cX4_resistance 10 = .ok (.invokevirtual 45, 3) := by decide +kernel
theorem dX4_resistance_13 : decode cX4_resistance 13 = .ok (.ifCond .ne 7, 3) := by decide +kernel
theorem dX4_resistance_16 : decode cX4_resistance 16 = .ok (.ldc2_w 107, 3) := by decide +kernel
theorem dX4_resistance_19 : decode cX4_resistance 19 = .ok (.lreturn, 1) := by decide +kernel
theorem dX4_resistance_20 : decode cX4_resistance 20 = .ok (.iload_n 1, 1) := by decide +kernel
theorem dX4_resistance_21 : decode cX4_resistance 21 = .ok (.iload_n 2, 1) := by decide +kernel
theorem dX4_resistance_22 : decode cX4_resistance 22 = .ok (.if_icmp .eq 22, 3) := by decide +kernel
theorem dX4_resistance_25 : decode cX4_resistance 25 = .ok (.iload_n 3, 1) := by decide +kernel
theorem dX4_resistance_26 : decode cX4_resistance 26 = .ok (.iconst 0, 1) := by decide +kernel
theorem dX4_resistance_27 : decode cX4_resistance 27 = .ok (.iconst 1, 1) := by decide +kernel
theorem dX4_resistance_28 : decode cX4_resistance 28 = .ok (.invokestatic 38, 3) := by decide +kernel
theorem dX4_resistance_31 : decode cX4_resistance 31 = .ok (.ifCond .eq 13, 3) := by decide +kernel
theorem dX4_resistance_34 : decode cX4_resistance 34 = .ok (.iload 4, 2) := by decide +kernel
theorem dX4_resistance_36 : decode cX4_resistance 36 = .ok (.iconst 0, 1) := by decide +kernel
theorem dX4_resistance_37 : decode cX4_resistance 37 = .ok (.iconst 1, 1) := by decide +kernel
theorem dX4_resistance_38 : decode cX4_resistance 38 = .ok (.invokestatic 38, 3) := by decide +kernel
theorem dX4_resistance_41 : decode cX4_resistance 41 = .ok (.ifCond .ne 7, 3) := by decide +kernel
theorem dX4_resistance_44 : decode cX4_resistance 44 = .ok (.ldc2_w 98, 3) := by decide +kernel
theorem dX4_resistance_47 : decode cX4_resistance 47 = .ok (.lreturn, 1) := by decide +kernel
theorem dX4_resistance_48 : decode cX4_resistance 48 = .ok (.aload_n 0, 1) := by decide +kernel
theorem dX4_resistance_49 : decode cX4_resistance 49 = .ok (.iload_n 1, 1) := by decide +kernel
theorem dX4_resistance_50 : decode cX4_resistance 50 = .ok (.iload_n 2, 1) := by decide +kernel
theorem dX4_resistance_51 : decode cX4_resistance 51 = .ok (.iload_n 3, 1) := by decide +kernel
theorem dX4_resistance_52 : decode cX4_resistance 52 = .ok (.lconst 1, 1) := by decide +kernel
theorem dX4_resistance_53 : decode cX4_resistance 53 = .ok (.invokevirtual 109, 3) := by decide +kernel
theorem dX4_resistance_56 : decode cX4_resistance 56 = .ok (.ifCond .ne 9, 3) := by decide +kernel
theorem dX4_resistance_59 : decode cX4_resistance 59 = .ok (.ldc2_w 113, 3) := by decide +kernel
theorem dX4_resistance_62 : decode cX4_resistance 62 = .ok (.goto 19, 3) := by decide +kernel
theorem dX4_resistance_65 : decode cX4_resistance 65 = .ok (.iload 4, 2) := by decide +kernel
theorem dX4_resistance_67 : decode cX4_resistance 67 = .ok (.ifCond .ne 10, 3) := by decide +kernel
theorem dX4_resistance_70 : decode cX4_resistance 70 = .ok (.aload_n 0, 1) := by decide +kernel
theorem dX4_resistance_71 : decode cX4_resistance 71 = .ok (.getfield 104, 3) := by decide +kernel
theorem dX4_resistance_74 : decode cX4_resistance 74 = .ok (.goto 7, 3) := by decide +kernel
theorem dX4_resistance_77 : decode cX4_resistance 77 = .ok (.aload_n 0, 1) := by decide +kernel
theorem dX4_resistance_78 : decode cX4_resistance 78 = .ok (.getfield 100, 3) := by decide +kernel
theorem dX4_resistance_81 : decode cX4_resistance 81 = .ok (.lreturn, 1) := by decide +kernel
set_option maxRecDepth 20000 in
theorem ggX4_load_X4_isLine : GoodIn wsX4_load wsX4_isLine := goodIn_r _ [13, 14, 15, 16, 12, 17, 43, 44, 45, 46, 47, 48, 49, 50, 51, 52, 53, 54] (by decide +kernel) (by decide +kernel)
set_option maxRecDepth 20000 in
theorem gX4_load_X4_isLine : GoodIn wsX4_load (wsV RX4 49 RX4 yX4_isLine wsX4_isLine) := goodIn_app (goodIn_of _ (by decide +kernel)) ggX4_load_X4_isLine
set_option maxRecDepth 20000 in
theorem ggX4_load_X4_in : GoodIn wsX4_load wsX4_in := goodIn_r _ [17] (by decide +kernel) (by decide +kernel)
set_option maxRecDepth 20000 in
theorem gX4_load_X4_in : GoodIn wsX4_load (va_wsS RX4 38 yX4_in wsX4_in) := goodIn_app (goodIn_of _ (by decide +kernel)) ggX4_load_X4_in
set_option maxRecDepth 20000 in
theorem ggX4_load_X4_hasResistance : GoodIn wsX4_load wsX4_hasResistance := goodIn_r _ [21, 22, 8, 7, 23, 24, 25, 12, 26, 14, 5, 27, 28, 29, 30, 31, 32, 33, 34, 35, 36, 37, 38, 39, 3, 4, 40, 41, 42, 43, 44, 45, 46, 47, 48, 49, 50, 51, 52, 53, 54] (by decide +kernel) (by decide +kernel)
set_option maxRecDepth 20000 in
theorem gX4_load_X4_hasResistance : GoodIn wsX4_load (wsV RX4 109 RX4 yX4_hasResistance wsX4_hasResistance) := goodIn_app (goodIn_of _ (by decide +kernel)) ggX4_load_X4_hasResistance
theorem dX4_load_0 : decode cX4_load 0 = .ok (.aload_n 0, 1) := by decide +kernel
theorem dX4_load_1 : decode cX4_load 1 = .ok (.iload_n 1, 1) := by decide +kernel
theorem dX4_load_2 : decode cX4_load 2 = .ok (.invokevirtual 49, 3) := by decide +kernel
theorem dX4_load_5 : decode cX4_load 5 = .ok (.ifCond .ne 7, 3) := by decide +kernel
theorem dX4_load_8 : decode cX4_load 8 = .ok (.ldc2_w 107, 3) := by decide +kernel
theorem dX4_load_11 : decode cX4_load 11 = .ok (.lreturn, 1) := by decide +kernel
theorem dX4_load_12 : decode cX4_load 12 = .ok (.iload_n 2, 1) := by decide +kernel
theorem dX4_load_13 : decode cX4_load 13 = .ok (.iconst 0, 1) := by decide +kernel
theorem dX4_load_14 : decode cX4_load 14 = .ok (.iconst 1, 1) := by decide +kernel
theorem dX4_load_15 : decode cX4_load 15 = .ok (.invokestatic 38, 3) := by decide +kernel
theorem dX4_load_18 : decode cX4_load 18 = .ok (.ifCond .ne 7, 3) := by decide +kernel
theorem dX4_load_21 : decode cX4_load 21 = .ok (.ldc2_w 98, 3) := by decide +kernel
theorem dX4_load_24 : decode cX4_load 24 = .ok (.lreturn, 1) := by decide +kernel
theorem dX4_load_25 : decode cX4_load 25 = .ok (.aload_n 0, 1) := by decide +kernel
theorem dX4_load_26 : decode cX4_load 26 = .ok (.aload_n 0, 1) := by decide +kernel
theorem dX4_load_27 : decode cX4_load 27 = .ok (.getfield 13, 3) := by decide +kernel
theorem dX4_load_30 : decode cX4_load 30 = .ok (.iload_n 1, 1) := by decide +kernel
theorem dX4_load_31 : decode cX4_load 31 = .ok (.iaload, 1) := by decide +kernel
theorem dX4_load_32 : decode cX4_load 32 = .ok (.aload_n 0, 1) := by decide +kernel
theorem dX4_load_33 : decode cX4_load 33 = .ok (.getfield 17, 3) := by decide +kernel
theorem dX4_load_36 : decode cX4_load 36 = .ok (.iload_n 1, 1) := by decide +kernel
theorem dX4_load_37 : decode cX4_load 37 = .ok (.iaload, 1) := by decide +kernel
theorem dX4_load_38 : decode cX4_load 38 = .ok (.iconst 0, 1) := by decide +kernel
theorem dX4_load_39 : decode cX4_load 39 = .ok (.aload_n 0, 1) := by decide +kernel
theorem dX4_load_40 : decode cX4_load 40 = .ok (.getfield 20, 3) := by decide +kernel
theorem dX4_load_43 : decode cX4_load 43 = .ok (.iload_n 1, 1) := by decide +kernel
theorem dX4_load_44 : decode cX4_load 44 = .ok (.iaload, 1) := by decide +kernel
theorem dX4_load_45 : decode cX4_load 45 = .ok (.i2l, 1) := by decide +kernel
theorem dX4_load_46 : decode cX4_load 46 = .ok (.invokevirtual 109, 3) := by decide +kernel
theorem dX4_load_49 : decode cX4_load 49 = .ok (.ifCond .ne 9, 3) := by decide +kernel
theorem dX4_load_52 : decode cX4_load 52 = .ok (.ldc2_w 113, 3) := by decide +kernel
theorem dX4_load_55 : decode cX4_load 55 = .ok (.goto 18, 3) := by decide +kernel
theorem dX4_load_58 : decode cX4_load 58 = .ok (.iload_n 2, 1) := by decide +kernel
theorem dX4_load_59 : decode cX4_load 59 = .ok (.ifCond .ne 10, 3) := by decide +kernel
theorem dX4_load_62 : decode cX4_load 62 = .ok (.aload_n 0, 1) := by decide +kernel
theorem dX4_load_63 : decode cX4_load 63 = .ok (.getfield 104, 3) := by decide +kernel
theorem dX4_load_66 : decode cX4_load 66 = .ok (.goto 7, 3) := by decide +kernel
theorem dX4_load_69 : decode cX4_load 69 = .ok (.aload_n 0, 1) := by decide +kernel
theorem dX4_load_70 : decode cX4_load 70 = .ok (.getfield 100, 3) := by decide +kernel
theorem dX4_load_73 : decode cX4_load 73 = .ok (.lreturn, 1) := by decide +kernel
set_option maxRecDepth 20000 in
theorem ggX4_count_X4_keptMany : GoodIn wsX4_count wsX4_keptMany := goodIn_r _ [9, 2, 4, 10, 11, 12, 13, 14, 15, 16, 17, 18, 19, 20, 21] (by decide +kernel) (by decide +kernel)
set_option maxRecDepth 20000 in
theorem gX4_count_X4_keptMany : GoodIn wsX4_count (wsV RX4 69 RX4 yX4_keptMany wsX4_keptMany) := goodIn_app (goodIn_of _ (by decide +kernel)) ggX4_count_X4_keptMany
theorem dX4_count_0 : decode cX4_count 0 = .ok (.iconst 0, 1) := by decide +kernel
theorem dX4_count_1 : decode cX4_count 1 = .ok (.istore_n 2, 1) := by decide +kernel
theorem dX4_count_2 : decode cX4_count 2 = .ok (.iload_n 1, 1) := by decide +kernel
theorem dX4_count_3 : decode cX4_count 3 = .ok (.tableswitch 102 0 4 #[33, 38, 43, 48, 75], 33) := by decide +kernel
theorem dX4_count_36 : decode cX4_count 36 = .ok (.aload_n 0, 1) := by decide +kernel
theorem dX4_count_37 : decode cX4_count 37 = .ok (.getfield 7, 3) := by decide +kernel
theorem dX4_count_40 : decode cX4_count 40 = .ok (.ireturn, 1) := by decide +kernel
theorem dX4_count_41 : decode cX4_count 41 = .ok (.aload_n 0, 1) := by decide +kernel
theorem dX4_count_42 : decode cX4_count 42 = .ok (.getfield 42, 3) := by decide +kernel
theorem dX4_count_45 : decode cX4_count 45 = .ok (.ireturn, 1) := by decide +kernel
theorem dX4_count_46 : decode cX4_count 46 = .ok (.aload_n 0, 1) := by decide +kernel
theorem dX4_count_47 : decode cX4_count 47 = .ok (.invokevirtual 69, 3) := by decide +kernel
theorem dX4_count_50 : decode cX4_count 50 = .ok (.ireturn, 1) := by decide +kernel
theorem dX4_count_51 : decode cX4_count 51 = .ok (.iconst 0, 1) := by decide +kernel
theorem dX4_count_52 : decode cX4_count 52 = .ok (.istore_n 3, 1) := by decide +kernel
theorem dX4_count_53 : decode cX4_count 53 = .ok (.iload_n 3, 1) := by decide +kernel
theorem dX4_count_54 : decode cX4_count 54 = .ok (.aload_n 0, 1) := by decide +kernel
theorem dX4_count_55 : decode cX4_count 55 = .ok (.getfield 42, 3) := by decide +kernel
theorem dX4_count_58 : decode cX4_count 58 = .ok (.if_icmp .ge 18, 3) := by decide +kernel
theorem dX4_count_61 : decode cX4_count 61 = .ok (.iload_n 2, 1) := by decide +kernel
theorem dX4_count_62 : decode cX4_count 62 = .ok (.aload_n 0, 1) := by decide +kernel
theorem dX4_count_63 : decode cX4_count 63 = .ok (.getfield 20, 3) := by decide +kernel
theorem dX4_count_66 : decode cX4_count 66 = .ok (.iload_n 3, 1) := by decide +kernel
theorem dX4_count_67 : decode cX4_count 67 = .ok (.iaload, 1) := by decide +kernel
theorem dX4_count_68 : decode cX4_count 68 = .ok (.iadd, 1) := by decide +kernel
theorem dX4_count_69 : decode cX4_count 69 = .ok (.istore_n 2, 1) := by decide +kernel
theorem dX4_count_70 : decode cX4_count 70 = .ok (.iinc 3 1, 3) := by decide +kernel
theorem dX4_count_73 : decode cX4_count 73 = .ok (.goto (-20), 3) := by decide +kernel
theorem dX4_count_76 : decode cX4_count 76 = .ok (.iload_n 2, 1) := by decide +kernel
theorem dX4_count_77 : decode cX4_count 77 = .ok (.ireturn, 1) := by decide +kernel
theorem dX4_count_78 : decode cX4_count 78 = .ok (.iconst 0, 1) := by decide +kernel
theorem dX4_count_79 : decode cX4_count 79 = .ok (.istore_n 3, 1) := by decide +kernel
theorem dX4_count_80 : decode cX4_count 80 = .ok (.iload_n 3, 1) := by decide +kernel
theorem dX4_count_81 : decode cX4_count 81 = .ok (.aload_n 0, 1) := by decide +kernel
theorem dX4_count_82 : decode cX4_count 82 = .ok (.getfield 42, 3) := by decide +kernel
theorem dX4_count_85 : decode cX4_count 85 = .ok (.if_icmp .ge 18, 3) := by decide +kernel
theorem dX4_count_88 : decode cX4_count 88 = .ok (.iload_n 2, 1) := by decide +kernel
theorem dX4_count_89 : decode cX4_count 89 = .ok (.aload_n 0, 1) := by decide +kernel
theorem dX4_count_90 : decode cX4_count 90 = .ok (.getfield 23, 3) := by decide +kernel
theorem dX4_count_93 : decode cX4_count 93 = .ok (.iload_n 3, 1) := by decide +kernel
theorem dX4_count_94 : decode cX4_count 94 = .ok (.iaload, 1) := by decide +kernel
theorem dX4_count_95 : decode cX4_count 95 = .ok (.iadd, 1) := by decide +kernel
theorem dX4_count_96 : decode cX4_count 96 = .ok (.istore_n 2, 1) := by decide +kernel
theorem dX4_count_97 : decode cX4_count 97 = .ok (.iinc 3 1, 3) := by decide +kernel
theorem dX4_count_100 : decode cX4_count 100 = .ok (.goto (-20), 3) := by decide +kernel
theorem dX4_count_103 : decode cX4_count 103 = .ok (.iload_n 2, 1) := by decide +kernel
theorem dX4_count_104 : decode cX4_count 104 = .ok (.ireturn, 1) := by decide +kernel
theorem dX4_count_105 : decode cX4_count 105 = .ok (.bipush (-3), 2) := by decide +kernel
theorem dX4_count_107 : decode cX4_count 107 = .ok (.ireturn, 1) := by decide +kernel
end
section
theorem dJ6_bitCount_0f7a4_0 : decode cJ6_bitCount_0f7a4 0 = .ok (.iload_n 0, 1) := by decide +kernel
theorem dJ6_bitCount_0f7a4_1 : decode cJ6_bitCount_0f7a4 1 = .ok (.iload_n 0, 1) := by decide +kernel
theorem dJ6_bitCount_0f7a4_2 : decode cJ6_bitCount_0f7a4 2 = .ok (.iconst 1, 1) := by decide +kernel
theorem dJ6_bitCount_0f7a4_3 : decode cJ6_bitCount_0f7a4 3 = .ok (.iushr, 1) := by decide +kernel
theorem dJ6_bitCount_0f7a4_4 : decode cJ6_bitCount_0f7a4 4 = .ok (.ldc_w 265, 3) := by decide +kernel
theorem dJ6_bitCount_0f7a4_7 : decode cJ6_bitCount_0f7a4 7 = .ok (.iand, 1) := by decide +kernel
theorem dJ6_bitCount_0f7a4_8 : decode cJ6_bitCount_0f7a4 8 = .ok (.isub, 1) := by decide +kernel
theorem dJ6_bitCount_0f7a4_9 : decode cJ6_bitCount_0f7a4 9 = .ok (.istore_n 0, 1) := by decide +kernel
theorem dJ6_bitCount_0f7a4_10 : decode cJ6_bitCount_0f7a4 10 = .ok (.iload_n 0, 1) := by decide +kernel
theorem dJ6_bitCount_0f7a4_11 : decode cJ6_bitCount_0f7a4 11 = .ok (.ldc_w 266, 3) := by decide +kernel
theorem dJ6_bitCount_0f7a4_14 : decode cJ6_bitCount_0f7a4 14 = .ok (.iand, 1) := by decide +kernel
theorem dJ6_bitCount_0f7a4_15 : decode cJ6_bitCount_0f7a4 15 = .ok (.iload_n 0, 1) := by decide +kernel
theorem dJ6_bitCount_0f7a4_16 : decode cJ6_bitCount_0f7a4 16 = .ok (.iconst 2, 1) := by decide +kernel
theorem dJ6_bitCount_0f7a4_17 : decode cJ6_bitCount_0f7a4 17 = .ok (.iushr, 1) := by decide +kernel
theorem dJ6_bitCount_0f7a4_18 : decode cJ6_bitCount_0f7a4 18 = .ok (.ldc_w 266, 3) := by decide +kernel
theorem dJ6_bitCount_0f7a4_21 : decode cJ6_bitCount_0f7a4 21 = .ok (.iand, 1) := by decide +kernel
theorem dJ6_bitCount_0f7a4_22 : decode cJ6_bitCount_0f7a4 22 = .ok (.iadd, 1) := by decide +kernel
theorem dJ6_bitCount_0f7a4_23 : decode cJ6_bitCount_0f7a4 23 = .ok (.istore_n 0, 1) := by decide +kernel
theorem dJ6_bitCount_0f7a4_24 : decode cJ6_bitCount_0f7a4 24 = .ok (.iload_n 0, 1) := by decide +kernel
theorem dJ6_bitCount_0f7a4_25 : decode cJ6_bitCount_0f7a4 25 = .ok (.iload_n 0, 1) := by decide +kernel
theorem dJ6_bitCount_0f7a4_26 : decode cJ6_bitCount_0f7a4 26 = .ok (.iconst 4, 1) := by decide +kernel
theorem dJ6_bitCount_0f7a4_27 : decode cJ6_bitCount_0f7a4 27 = .ok (.iushr, 1) := by decide +kernel
theorem dJ6_bitCount_0f7a4_28 : decode cJ6_bitCount_0f7a4 28 = .ok (.iadd, 1) := by decide +kernel
theorem dJ6_bitCount_0f7a4_29 : decode cJ6_bitCount_0f7a4 29 = .ok (.ldc_w 267, 3) := by decide +kernel
theorem dJ6_bitCount_0f7a4_32 : decode cJ6_bitCount_0f7a4 32 = .ok (.iand, 1) := by decide +kernel
theorem dJ6_bitCount_0f7a4_33 : decode cJ6_bitCount_0f7a4 33 = .ok (.istore_n 0, 1) := by decide +kernel
theorem dJ6_bitCount_0f7a4_34 : decode cJ6_bitCount_0f7a4 34 = .ok (.iload_n 0, 1) := by decide +kernel
theorem dJ6_bitCount_0f7a4_35 : decode cJ6_bitCount_0f7a4 35 = .ok (.iload_n 0, 1) := by decide +kernel
theorem dJ6_bitCount_0f7a4_36 : decode cJ6_bitCount_0f7a4 36 = .ok (.bipush 8, 2) := by decide +kernel
theorem dJ6_bitCount_0f7a4_38 : decode cJ6_bitCount_0f7a4 38 = .ok (.iushr, 1) := by decide +kernel
theorem dJ6_bitCount_0f7a4_39 : decode cJ6_bitCount_0f7a4 39 = .ok (.iadd, 1) := by decide +kernel
theorem dJ6_bitCount_0f7a4_40 : decode cJ6_bitCount_0f7a4 40 = .ok (.istore_n 0, 1) := by decide +kernel
theorem dJ6_bitCount_0f7a4_41 : decode cJ6_bitCount_0f7a4 41 = .ok (.iload_n 0, 1) := by decide +kernel
theorem dJ6_bitCount_0f7a4_42 : decode cJ6_bitCount_0f7a4 42 = .ok (.iload_n 0, 1) := by decide +kernel
theorem dJ6_bitCount_0f7a4_43 : decode cJ6_bitCount_0f7a4 43 = .ok (.bipush 16, 2) := by decide +kernel
theorem dJ6_bitCount_0f7a4_45 : decode cJ6_bitCount_0f7a4 45 = .ok (.iushr, 1) := by decide +kernel
theorem dJ6_bitCount_0f7a4_46 : decode cJ6_bitCount_0f7a4 46 = .ok (.iadd, 1) := by decide +kernel
theorem dJ6_bitCount_0f7a4_47 : decode cJ6_bitCount_0f7a4 47 = .ok (.istore_n 0, 1) := by decide +kernel
theorem dJ6_bitCount_0f7a4_48 : decode cJ6_bitCount_0f7a4 48 = .ok (.iload_n 0, 1) := by decide +kernel
theorem dJ6_bitCount_0f7a4_49 : decode cJ6_bitCount_0f7a4 49 = .ok (.bipush 63, 2) := by decide +kernel
theorem dJ6_bitCount_0f7a4_51 : decode cJ6_bitCount_0f7a4 51 = .ok (.iand, 1) := by decide +kernel
theorem dJ6_bitCount_0f7a4_52 : decode cJ6_bitCount_0f7a4 52 = .ok (.ireturn, 1) := by decide +kernel
theorem dJ9_max_7cf53_0 : decode cJ9_max_7cf53 0 = .ok (.iload_n 0, 1) := by decide +kernel
theorem dJ9_max_7cf53_1 : decode cJ9_max_7cf53 1 = .ok (.iload_n 1, 1) := by decide +kernel
theorem dJ9_max_7cf53_2 : decode cJ9_max_7cf53 2 = .ok (.if_icmp .lt 7, 3) := by decide +kernel
theorem dJ9_max_7cf53_5 : decode cJ9_max_7cf53 5 = .ok (.iload_n 0, 1) := by decide +kernel
theorem dJ9_max_7cf53_6 : decode cJ9_max_7cf53 6 = .ok (.goto 4, 3) := by decide +kernel
theorem dJ9_max_7cf53_9 : decode cJ9_max_7cf53 9 = .ok (.iload_n 1, 1) := by decide +kernel
theorem dJ9_max_7cf53_10 : decode cJ9_max_7cf53 10 = .ok (.ireturn, 1) := by decide +kernel
theorem dJ9_min_7cf53_0 : decode cJ9_min_7cf53 0 = .ok (.iload_n 0, 1) := by decide +kernel
theorem dJ9_min_7cf53_1 : decode cJ9_min_7cf53 1 = .ok (.iload_n 1, 1) := by decide +kernel
theorem dJ9_min_7cf53_2 : decode cJ9_min_7cf53 2 = .ok (.if_icmp .gt 7, 3) := by decide +kernel
theorem dJ9_min_7cf53_5 : decode cJ9_min_7cf53 5 = .ok (.iload_n 0, 1) := by decide +kernel
theorem dJ9_min_7cf53_6 : decode cJ9_min_7cf53 6 = .ok (.goto 4, 3) := by decide +kernel
theorem dJ9_min_7cf53_9 : decode cJ9_min_7cf53 9 = .ok (.iload_n 1, 1) := by decide +kernel
theorem dJ9_min_7cf53_10 : decode cJ9_min_7cf53 10 = .ok (.ireturn, 1) := by decide +kernel
theorem dJ7_fill_d0a16_0 : decode cJ7_fill_d0a16 0 = .ok (.iconst 0, 1) := by decide +kernel
theorem dJ7_fill_d0a16_1 : decode cJ7_fill_d0a16 1 = .ok (.istore_n 3, 1) := by decide +kernel
theorem dJ7_fill_d0a16_2 : decode cJ7_fill_d0a16 2 = .ok (.aload_n 0, 1) := by decide +kernel
theorem dJ7_fill_d0a16_3 : decode cJ7_fill_d0a16 3 = .ok (.arraylength, 1) := by decide +kernel
theorem dJ7_fill_d0a16_4 : decode cJ7_fill_d0a16 4 = .ok (.istore 4, 2) := by decide +kernel
theorem dJ7_fill_d0a16_6 : decode cJ7_fill_d0a16 6 = .ok (.iload_n 3, 1) := by decide +kernel
theorem dJ7_fill_d0a16_7 : decode cJ7_fill_d0a16 7 = .ok (.iload 4, 2) := by decide +kernel
theorem dJ7_fill_d0a16_9 : decode cJ7_fill_d0a16 9 = .ok (.if_icmp .ge 13, 3) := by decide +kernel
theorem dJ7_fill_d0a16_12 : decode cJ7_fill_d0a16 12 = .ok (.aload_n 0, 1) := by decide +kernel
theorem dJ7_fill_d0a16_13 : decode cJ7_fill_d0a16 13 = .ok (.iload_n 3, 1) := by decide +kernel
theorem dJ7_fill_d0a16_14 : decode cJ7_fill_d0a16 14 = .ok (.lload_n 1, 1) := by decide +kernel
theorem dJ7_fill_d0a16_15 : decode cJ7_fill_d0a16 15 = .ok (.lastore, 1) := by decide +kernel
theorem dJ7_fill_d0a16_16 : decode cJ7_fill_d0a16 16 = .ok (.iinc 3 1, 3) := by decide +kernel
theorem dJ7_fill_d0a16_19 : decode cJ7_fill_d0a16 19 = .ok (.goto (-13), 3) := by decide +kernel
theorem dJ7_fill_d0a16_22 : decode cJ7_fill_d0a16 22 = .ok (.return_, 1) := by decide +kernel
theorem dJ7_fill_53178_0 : decode cJ7_fill_53178 0 = .ok (.iconst 0, 1) := by decide +kernel
theorem dJ7_fill_53178_1 : decode cJ7_fill_53178 1 = .ok (.istore_n 2, 1) := by decide +kernel
theorem dJ7_fill_53178_2 : decode cJ7_fill_53178 2 = .ok (.aload_n 0, 1) := by decide +kernel
theorem dJ7_fill_53178_3 : decode cJ7_fill_53178 3 = .ok (.arraylength, 1) := by decide +kernel
theorem dJ7_fill_53178_4 : decode cJ7_fill_53178 4 = .ok (.istore_n 3, 1) := by decide +kernel
theorem dJ7_fill_53178_5 : decode cJ7_fill_53178 5 = .ok (.iload_n 2, 1) := by decide +kernel
theorem dJ7_fill_53178_6 : decode cJ7_fill_53178 6 = .ok (.iload_n 3, 1) := by decide +kernel
theorem dJ7_fill_53178_7 : decode cJ7_fill_53178 7 = .ok (.if_icmp .ge 13, 3) := by decide +kernel
theorem dJ7_fill_53178_10 : decode cJ7_fill_53178 10 = .ok (.aload_n 0, 1) := by decide +kernel
theorem dJ7_fill_53178_11 : decode cJ7_fill_53178 11 = .ok (.iload_n 2, 1) := by decide +kernel
theorem dJ7_fill_53178_12 : decode cJ7_fill_53178 12 = .ok (.iload_n 1, 1) := by decide +kernel
theorem dJ7_fill_53178_13 : decode cJ7_fill_53178 13 = .ok (.iastore, 1) := by decide +kernel
theorem dJ7_fill_53178_14 : decode cJ7_fill_53178 14 = .ok (.iinc 2 1, 3) := by decide +kernel
theorem dJ7_fill_53178_17 : decode cJ7_fill_53178 17 = .ok (.goto (-12), 3) := by decide +kernel
theorem dJ7_fill_53178_20 : decode cJ7_fill_53178 20 = .ok (.return_, 1) := by decide +kernel
set_option maxRecDepth 20000 in
theorem ggL_law_X3_init : GoodIn wsL_law wsX3_init := goodIn_r _ [8, 9, 10, 11, 12, 13, 14, 15, 16, 17, 18, 19, 20, 21, 22, 23, 24, 25, 26, 27, 28, 29, 30, 31, 32, 33, 34, 35, 36, 37, 38, 39, 40, 41, 42, 43, 44, 45, 46, 47, 48, 49, 50, 51, 52, 53, 54, 55, 56, 2, 57, 58, 59, 60, 61, 463, 464, 465, 466, 467, 468, 469, 470, 471, 472, 473, 474, 487, 488, 489, 490, 491, 492, 493] (by decide +kernel) (by decide +kernel)
set_option maxRecDepth 20000 in
theorem gL_law_X3_init : GoodIn wsL_law (wsX3_init) := ggL_law_X3_init
set_option maxRecDepth 20000 in
theorem ggL_law_X4_init : GoodIn wsL_law wsX4_init := goodIn_r _ [64, 65, 10, 11, 66, 14, 67, 68, 69, 70, 71, 72, 73, 74, 475, 476, 477, 478, 479, 480, 481, 482, 483, 484, 485, 486] (by decide +kernel) (by decide +kernel)
set_option maxRecDepth 20000 in
theorem gL_law_X4_init : GoodIn wsL_law (wsX4_init) := ggL_law_X4_init
set_option maxRecDepth 20000 in
theorem ggL_law_X3_nodes : GoodIn wsL_law wsX3_nodes := goodIn_r _ [78, 12, 13, 79, 80, 2, 81, 54, 55, 56, 57, 33, 58, 59, 60, 61, 463, 464, 465, 466, 467, 468, 469, 470, 471, 472, 473, 474] (by decide +kernel) (by decide +kernel)
set_option maxRecDepth 20000 in
theorem gL_law_X3_nodes : GoodIn wsL_law (wsV RL 13 RX3 yX3_nodes wsX3_nodes) := goodIn_app (goodIn_of _ (by decide +kernel)) ggL_law_X3_nodes
set_option maxRecDepth 20000 in
theorem ggL_law_X4_nodes : GoodIn wsL_law wsX4_nodes := goodIn_r _ [85, 66, 86, 87, 88, 5, 89, 475, 476, 477, 478, 479, 480, 481, 482, 483, 484, 485, 486] (by decide +kernel) (by decide +kernel)
set_option maxRecDepth 20000 in
theorem gL_law_X4_nodes : GoodIn wsL_law (wsV RL 17 RX4 yX4_nodes wsX4_nodes) := goodIn_app (goodIn_of _ (by decide +kernel)) ggL_law_X4_nodes
set_option maxRecDepth 20000 in
theorem ggL_law_X3_line : GoodIn wsL_law wsX3_line := goodIn_r _ [93, 13, 15, 94, 95, 96, 97, 16, 98, 99, 100, 17, 18, 101, 102, 103, 2, 104, 12, 79, 80, 81, 54, 55, 56, 57, 33, 58, 59, 60, 61, 463, 464, 465, 466, 467, 468, 469, 470, 471, 472, 473, 474] (by decide +kernel) (by decide +kernel)
set_option maxRecDepth 20000 in
theorem gL_law_X3_line : GoodIn wsL_law (wsV RL 18 RX3 yX3_line wsX3_line) := goodIn_app (goodIn_of _ (by decide +kernel)) ggL_law_X3_line
set_option maxRecDepth 20000 in
theorem ggL_law_X4_line : GoodIn wsL_law wsX4_line := goodIn_r _ [108, 86, 67, 68, 69, 70, 109, 110, 111, 5, 112, 66, 87, 88, 89, 475, 476, 477, 478, 479, 480, 481, 482, 483, 484, 485, 486] (by decide +kernel) (by decide +kernel)
set_option maxRecDepth 20000 in
theorem gL_law_X4_line : GoodIn wsL_law (wsV RL 22 RX4 yX4_line wsX4_line) := goodIn_app (goodIn_of _ (by decide +kernel)) ggL_law_X4_line
set_option maxRecDepth 20000 in
theorem ggL_law_X3_drop : GoodIn wsL_law wsX3_drop := goodIn_r _ [116, 13, 15, 16, 17, 18, 117, 118, 119, 2, 120, 54, 55, 56, 57, 33, 58, 59, 60, 61, 463, 464, 465, 466, 467, 468, 469, 470, 471, 472, 473, 474] (by decide +kernel) (by decide +kernel)
set_option maxRecDepth 20000 in
theorem gL_law_X3_drop : GoodIn wsL_law (wsV RL 23 RX3 yX3_drop wsX3_drop) := goodIn_app (goodIn_of _ (by decide +kernel)) ggL_law_X3_drop
set_option maxRecDepth 20000 in
theorem ggL_law_X4_drop : GoodIn wsL_law wsX4_drop := goodIn_r _ [124, 86, 67, 68, 69, 70, 125, 126, 127, 5, 128, 87, 88, 89, 475, 476, 477, 478, 479, 480, 481, 482, 483, 484, 485, 486] (by decide +kernel) (by decide +kernel)
set_option maxRecDepth 20000 in
theorem gL_law_X4_drop : GoodIn wsL_law (wsV RL 26 RX4 yX4_drop wsX4_drop) := goodIn_app (goodIn_of _ (by decide +kernel)) ggL_law_X4_drop
set_option maxRecDepth 20000 in
theorem ggL_law_X3_keep : GoodIn wsL_law wsX3_keep := goodIn_r _ [132, 18, 117, 118, 119, 2, 120, 13, 79, 80, 81, 463, 464, 465, 466, 467, 468, 469, 470, 471, 472, 473, 474] (by decide +kernel) (by decide +kernel)
set_option maxRecDepth 20000 in
theorem gL_law_X3_keep : GoodIn wsL_law (wsV RL 27 RX3 yX3_keep wsX3_keep) := goodIn_app (goodIn_of _ (by decide +kernel)) ggL_law_X3_keep
set_option maxRecDepth 20000 in
theorem ggL_law_X4_keep : GoodIn wsL_law wsX4_keep := goodIn_r _ [136, 70, 125, 126, 127, 5, 128, 86, 87, 88, 89, 475, 476, 477, 478, 479, 480, 481, 482, 483, 484, 485, 486] (by decide +kernel) (by decide +kernel)
set_option maxRecDepth 20000 in
theorem gL_law_X4_keep : GoodIn wsL_law (wsV RL 31 RX4 yX4_keep wsX4_keep) := goodIn_app (goodIn_of _ (by decide +kernel)) ggL_law_X4_keep
set_option maxRecDepth 20000 in
theorem ggL_law_X3_at : GoodIn wsL_law wsX3_at := goodIn_r _ [140, 15, 16, 17, 18, 19, 117, 118, 119, 2, 120, 13, 141, 142, 143, 144, 58, 59, 60, 61, 145, 146, 147, 148, 23, 149, 150, 151, 22, 152, 38, 153, 154, 155, 156, 463, 464, 465, 466, 467, 468, 469, 470, 471, 472, 473, 474, 487] (by decide +kernel) (by decide +kernel)
set_option maxRecDepth 20000 in
theorem gL_law_X3_at : GoodIn wsL_law (wsV RL 32 RX3 yX3_at wsX3_at) := goodIn_app (goodIn_of _ (by decide +kernel)) ggL_law_X3_at
set_option maxRecDepth 20000 in
theorem ggL_law_X4_at : GoodIn wsL_law wsX4_at := goodIn_r _ [160, 71, 67, 68, 69, 70, 125, 126, 127, 5, 128, 86, 87, 88, 89, 161, 162, 163, 164, 165, 166, 167, 168, 72, 169, 170, 171, 172, 66, 475, 476, 477, 478, 479, 480, 481, 482, 483, 484, 485, 486] (by decide +kernel) (by decide +kernel)
set_option maxRecDepth 20000 in
theorem gL_law_X4_at : GoodIn wsL_law (wsV RL 35 RX4 yX4_at wsX4_at) := goodIn_app (goodIn_of _ (by decide +kernel)) ggL_law_X4_at
set_option maxRecDepth 20000 in
theorem ggL_law_X3_cut : GoodIn wsL_law wsX3_cut := goodIn_r _ [176, 177, 178, 179, 2, 180, 181, 182, 183, 184, 12, 185, 186, 187, 188, 189, 190, 191, 13, 15, 16, 192, 193, 194, 195, 196, 197, 198, 17, 18, 463, 464, 465, 466, 467, 468, 469, 470, 471, 472, 473, 474] (by decide +kernel) (by decide +kernel)
set_option maxRecDepth 20000 in
theorem gL_law_X3_cut : GoodIn wsL_law (wsV RL 36 RX3 yX3_cut wsX3_cut) := goodIn_app (goodIn_of _ (by decide +kernel)) ggL_law_X3_cut
set_option maxRecDepth 20000 in
theorem ggL_law_X4_cut : GoodIn wsL_law wsX4_cut := goodIn_r _ [202, 203, 204, 205, 5, 206, 66, 87, 88, 89, 207, 208, 209, 210, 86, 67, 68, 69, 70, 475, 476, 477, 478, 479, 480, 481, 482, 483, 484, 485, 486] (by decide +kernel) (by decide +kernel)
set_option maxRecDepth 20000 in
theorem gL_law_X4_cut : GoodIn wsL_law (wsV RL 39 RX4 yX4_cut wsX4_cut) := goodIn_app (goodIn_of _ (by decide +kernel)) ggL_law_X4_cut
set_option maxRecDepth 20000 in
theorem ggL_law_X3_worst : GoodIn wsL_law wsX3_worst := goodIn_r _ [214, 79, 80, 2, 81, 181, 182, 183, 184, 12, 188, 189, 190, 191, 13, 15, 16, 192, 193, 194, 195, 196, 197, 198, 17, 18, 463, 464, 465, 466, 467, 468, 469, 470, 471, 472, 473, 474] (by decide +kernel) (by decide +kernel)
set_option maxRecDepth 20000 in
theorem gL_law_X3_worst : GoodIn wsL_law (wsV RL 40 RX3 yX3_worst wsX3_worst) := goodIn_app (goodIn_of _ (by decide +kernel)) ggL_law_X3_worst
set_option maxRecDepth 20000 in
theorem ggL_law_X4_worst : GoodIn wsL_law wsX4_worst := goodIn_r _ [218, 66, 87, 88, 5, 89, 207, 208, 209, 210, 86, 67, 68, 69, 70, 475, 476, 477, 478, 479, 480, 481, 482, 483, 484, 485, 486] (by decide +kernel) (by decide +kernel)
set_option maxRecDepth 20000 in
theorem gL_law_X4_worst : GoodIn wsL_law (wsV RL 43 RX4 yX4_worst wsX4_worst) := goodIn_app (goodIn_of _ (by decide +kernel)) ggL_law_X4_worst
set_option maxRecDepth 20000 in
theorem ggL_law_X3_promise : GoodIn wsL_law wsX3_promise := goodIn_r _ [222, 79, 80, 2, 81, 181, 182, 183, 184, 12, 188, 189, 190, 191, 13, 15, 16, 192, 193, 194, 195, 196, 197, 198, 17, 18, 463, 464, 465, 466, 467, 468, 469, 470, 471, 472, 473, 474] (by decide +kernel) (by decide +kernel)
set_option maxRecDepth 20000 in
theorem gL_law_X3_promise : GoodIn wsL_law (wsV RL 44 RX3 yX3_promise wsX3_promise) := goodIn_app (goodIn_of _ (by decide +kernel)) ggL_law_X3_promise
set_option maxRecDepth 20000 in
theorem ggL_law_X4_promise : GoodIn wsL_law wsX4_promise := goodIn_r _ [226, 66, 87, 88, 5, 89, 207, 208, 209, 210, 86, 67, 68, 69, 70, 475, 476, 477, 478, 479, 480, 481, 482, 483, 484, 485, 486] (by decide +kernel) (by decide +kernel)
set_option maxRecDepth 20000 in
theorem gL_law_X4_promise : GoodIn wsL_law (wsV RL 47 RX4 yX4_promise wsX4_promise) := goodIn_app (goodIn_of _ (by decide +kernel)) ggL_law_X4_promise
set_option maxRecDepth 20000 in
theorem ggL_law_X3_forests : GoodIn wsL_law wsX3_forests := goodIn_r _ [230, 141, 142, 143, 2, 144, 19, 13, 58, 59, 60, 61, 145, 146, 147, 148, 23, 15, 16, 149, 150, 151, 22, 152, 38, 153, 154, 155, 156, 463, 464, 465, 466, 467, 468, 469, 470, 471, 472, 473, 474, 487] (by decide +kernel) (by decide +kernel)
set_option maxRecDepth 20000 in
theorem gL_law_X3_forests : GoodIn wsL_law (wsV RL 48 RX3 yX3_forests wsX3_forests) := goodIn_app (goodIn_of _ (by decide +kernel)) ggL_law_X3_forests
set_option maxRecDepth 20000 in
theorem ggL_law_X4_forests : GoodIn wsL_law wsX4_forests := goodIn_r _ [234, 161, 162, 163, 5, 164, 86, 71, 165, 166, 167, 168, 72, 169, 170, 171, 172, 67, 68, 66, 475, 476, 477, 478, 479, 480, 481, 482, 483, 484, 485, 486] (by decide +kernel) (by decide +kernel)
set_option maxRecDepth 20000 in
theorem gL_law_X4_forests : GoodIn wsL_law (wsV RL 52 RX4 yX4_forests wsX4_forests) := goodIn_app (goodIn_of _ (by decide +kernel)) ggL_law_X4_forests
set_option maxRecDepth 20000 in
theorem ggL_law_X3_peel : GoodIn wsL_law wsX3_peel := goodIn_r _ [238, 13, 19, 79, 80, 2, 81, 141, 142, 143, 144, 58, 59, 60, 61, 145, 146, 147, 148, 23, 15, 16, 149, 150, 151, 22, 152, 38, 153, 154, 155, 156, 239, 240, 241, 242, 18, 17, 192, 193, 194, 243, 244, 245, 246, 247, 248, 249, 463, 464, 465, 466, 467, 468, 469, 470, 471, 472, 473, 474, 487] (by decide +kernel) (by decide +kernel)
set_option maxRecDepth 20000 in
theorem gL_law_X3_peel : GoodIn wsL_law (wsV RL 53 RX3 yX3_peel wsX3_peel) := goodIn_app (goodIn_of _ (by decide +kernel)) ggL_law_X3_peel
set_option maxRecDepth 20000 in
theorem ggL_law_X4_peel : GoodIn wsL_law wsX4_peel := goodIn_r _ [253, 86, 70, 71, 69, 87, 88, 5, 89, 161, 162, 163, 164, 165, 166, 167, 168, 72, 169, 170, 171, 172, 67, 68, 66, 254, 255, 256, 257, 475, 476, 477, 478, 479, 480, 481, 482, 483, 484, 485, 486] (by decide +kernel) (by decide +kernel)
set_option maxRecDepth 20000 in
theorem gL_law_X4_peel : GoodIn wsL_law (wsV RL 56 RX4 yX4_peel wsX4_peel) := goodIn_app (goodIn_of _ (by decide +kernel)) ggL_law_X4_peel
set_option maxRecDepth 20000 in
theorem ggL_law_X3_greedy : GoodIn wsL_law wsX3_greedy := goodIn_r _ [261, 28, 12, 13, 17, 15, 16, 79, 80, 2, 81, 262, 263, 264, 26, 265, 266, 95, 96, 97, 44, 43, 267, 268, 59, 60, 61, 269, 270, 271, 272, 273, 274, 275, 276, 277, 278, 279, 280, 281, 239, 240, 241, 242, 18, 192, 193, 194, 243, 244, 245, 246, 247, 248, 249, 463, 464, 465, 466, 467, 468, 469, 470, 471, 472, 473, 474, 488, 489] (by decide +kernel) (by decide +kernel)
set_option maxRecDepth 20000 in
theorem gL_law_X3_greedy : GoodIn wsL_law (wsV RL 57 RX3 yX3_greedy wsX3_greedy) := goodIn_app (goodIn_of _ (by decide +kernel)) ggL_law_X3_greedy
set_option maxRecDepth 20000 in
theorem ggL_law_X4_greedy : GoodIn wsL_law wsX4_greedy := goodIn_r _ [285, 86, 69, 74, 67, 68, 70, 87, 88, 5, 89, 286, 287, 288, 289, 66, 254, 255, 256, 257, 475, 476, 477, 478, 479, 480, 481, 482, 483, 484, 485, 486] (by decide +kernel) (by decide +kernel)
set_option maxRecDepth 20000 in
theorem gL_law_X4_greedy : GoodIn wsL_law (wsV RL 60 RX4 yX4_greedy wsX4_greedy) := goodIn_app (goodIn_of _ (by decide +kernel)) ggL_law_X4_greedy
set_option maxRecDepth 20000 in
theorem ggL_law_X3_fewest : GoodIn wsL_law wsX3_fewest := goodIn_r _ [293, 79, 80, 2, 81, 294, 295, 296, 297, 33, 27, 13, 298, 299, 300, 301, 195, 196, 197, 198, 17, 18, 302, 303, 304, 305, 12, 15, 16, 262, 263, 264, 26, 265, 266, 95, 96, 97, 44, 43, 267, 268, 59, 60, 61, 192, 193, 194, 277, 278, 279, 280, 281, 274, 275, 276, 306, 307, 308, 309, 19, 58, 145, 146, 147, 148, 23, 149, 150, 151, 22, 152, 38, 153, 154, 155, 156, 310, 311, 312, 98, 99, 100, 243, 244, 245, 246, 247, 248, 249, 313, 314, 315, 316, 28, 317, 273, 463, 464, 465, 466, 467, 468, 469, 470, 471, 472, 473, 474, 488, 489, 487] (by decide +kernel) (by decide +kernel)
set_option maxRecDepth 20000 in
theorem gL_law_X3_fewest : GoodIn wsL_law (wsV RL 61 RX3 yX3_fewest wsX3_fewest) := goodIn_app (goodIn_of _ (by decide +kernel)) ggL_law_X3_fewest
set_option maxRecDepth 20000 in
theorem ggL_law_X4_fewest : GoodIn wsL_law wsX4_fewest := goodIn_r _ [321, 87, 88, 5, 89, 322, 323, 324, 325, 86, 73, 286, 287, 288, 289, 66, 69, 67, 68, 326, 327, 328, 329, 330, 331, 332, 74, 475, 476, 477, 478, 479, 480, 481, 482, 483, 484, 485, 486] (by decide +kernel) (by decide +kernel)
set_option maxRecDepth 20000 in
theorem gL_law_X4_fewest : GoodIn wsL_law (wsV RL 64 RX4 yX4_fewest wsX4_fewest) := goodIn_app (goodIn_of _ (by decide +kernel)) ggL_law_X4_fewest
set_option maxRecDepth 20000 in
theorem ggL_law_X3_thin : GoodIn wsL_law wsX3_thin := goodIn_r _ [336, 79, 80, 2, 81, 294, 295, 296, 297, 33, 27, 13, 298, 299, 300, 301, 195, 196, 197, 198, 17, 18, 302, 303, 304, 305, 12, 15, 16, 262, 263, 264, 26, 265, 266, 95, 96, 97, 44, 43, 267, 268, 59, 60, 61, 192, 193, 194, 277, 278, 279, 280, 281, 274, 275, 276, 306, 307, 308, 309, 19, 58, 145, 146, 147, 148, 23, 149, 150, 151, 22, 152, 38, 153, 154, 155, 156, 310, 311, 312, 98, 99, 100, 243, 244, 245, 246, 247, 248, 249, 313, 314, 315, 316, 28, 317, 273, 239, 240, 241, 242, 463, 464, 465, 466, 467, 468, 469, 470, 471, 472, 473, 474, 488, 489, 487] (by decide +kernel) (by decide +kernel)
set_option maxRecDepth 20000 in
theorem gL_law_X3_thin : GoodIn wsL_law (wsV RL 65 RX3 yX3_thin wsX3_thin) := goodIn_app (goodIn_of _ (by decide +kernel)) ggL_law_X3_thin
set_option maxRecDepth 20000 in
theorem ggL_law_X4_thin : GoodIn wsL_law wsX4_thin := goodIn_r _ [340, 86, 70, 69, 87, 88, 5, 89, 322, 323, 324, 325, 73, 286, 287, 288, 289, 66, 67, 68, 326, 327, 328, 329, 330, 331, 332, 74, 475, 476, 477, 478, 479, 480, 481, 482, 483, 484, 485, 486] (by decide +kernel) (by decide +kernel)
set_option maxRecDepth 20000 in
theorem gL_law_X4_thin : GoodIn wsL_law (wsV RL 68 RX4 yX4_thin wsX4_thin) := goodIn_app (goodIn_of _ (by decide +kernel)) ggL_law_X4_thin
set_option maxRecDepth 20000 in
theorem ggL_law_X3_far : GoodIn wsL_law wsX3_far := goodIn_r _ [344, 317, 101, 102, 103, 2, 104, 12, 185, 186, 187, 345, 346, 347, 348, 27, 28, 298, 299, 300, 301, 13, 195, 196, 197, 198, 17, 18, 302, 303, 304, 305, 15, 16, 262, 263, 264, 26, 265, 266, 95, 96, 97, 44, 43, 267, 268, 59, 60, 61, 192, 193, 194, 277, 278, 279, 280, 281, 274, 275, 276, 273, 463, 464, 465, 466, 467, 468, 469, 470, 471, 472, 473, 474, 488, 489] (by decide +kernel) (by decide +kernel)
set_option maxRecDepth 20000 in
theorem gL_law_X3_far : GoodIn wsL_law (wsV RL 69 RX3 yX3_far wsX3_far) := goodIn_app (goodIn_of _ (by decide +kernel)) ggL_law_X3_far
set_option maxRecDepth 20000 in
theorem ggL_law_X4_far : GoodIn wsL_law wsX4_far := goodIn_r _ [352, 86, 73, 109, 110, 111, 5, 112, 66, 87, 88, 89, 353, 354, 355, 356, 70, 286, 287, 288, 289, 69, 67, 68, 475, 476, 477, 478, 479, 480, 481, 482, 483, 484, 485, 486] (by decide +kernel) (by decide +kernel)
set_option maxRecDepth 20000 in
theorem gL_law_X4_far : GoodIn wsL_law (wsV RL 72 RX4 yX4_far wsX4_far) := goodIn_app (goodIn_of _ (by decide +kernel)) ggL_law_X4_far
set_option maxRecDepth 20000 in
theorem ggL_law_X3_stretch : GoodIn wsL_law wsX3_stretch := goodIn_r _ [360, 12, 317, 79, 80, 2, 81, 345, 346, 347, 348, 27, 28, 298, 299, 300, 301, 13, 195, 196, 197, 198, 17, 18, 302, 303, 304, 305, 15, 16, 262, 263, 264, 26, 265, 266, 95, 96, 97, 44, 43, 267, 268, 59, 60, 61, 192, 193, 194, 277, 278, 279, 280, 281, 274, 275, 276, 273, 361, 362, 363, 364, 365, 366, 367, 463, 464, 465, 466, 467, 468, 469, 470, 471, 472, 473, 474, 488, 489] (by decide +kernel) (by decide +kernel)
set_option maxRecDepth 20000 in
theorem gL_law_X3_stretch : GoodIn wsL_law (wsV RL 73 RX3 yX3_stretch wsX3_stretch) := goodIn_app (goodIn_of _ (by decide +kernel)) ggL_law_X3_stretch
set_option maxRecDepth 20000 in
theorem ggL_law_X4_stretch : GoodIn wsL_law wsX4_stretch := goodIn_r _ [371, 86, 73, 74, 66, 87, 88, 5, 89, 286, 287, 288, 289, 69, 67, 68, 353, 354, 355, 356, 70, 372, 373, 374, 475, 476, 477, 478, 479, 480, 481, 482, 483, 484, 485, 486] (by decide +kernel) (by decide +kernel)
set_option maxRecDepth 20000 in
theorem gL_law_X4_stretch : GoodIn wsL_law (wsV RL 76 RX4 yX4_stretch wsX4_stretch) := goodIn_app (goodIn_of _ (by decide +kernel)) ggL_law_X4_stretch
set_option maxRecDepth 20000 in
theorem ggL_law_X3_trees : GoodIn wsL_law wsX3_trees := goodIn_r _ [378, 379, 185, 186, 2, 187, 380, 381, 382, 383, 32, 384, 385, 386, 387, 12, 13, 15, 16, 388, 389, 390, 31, 391, 392, 95, 96, 97, 53, 50, 393, 394, 60, 395, 195, 196, 197, 198, 17, 18, 396, 397, 398, 399, 400, 401, 402, 403, 52, 404, 405, 406, 407, 51, 193, 194, 408, 409, 410, 411, 412, 244, 245, 246, 247, 248, 249, 463, 464, 465, 466, 467, 468, 469, 470, 471, 472, 473, 474, 490, 491, 492, 493] (by decide +kernel) (by decide +kernel)
set_option maxRecDepth 20000 in
theorem gL_law_X3_trees : GoodIn wsL_law (wsV RL 77 RX3 yX3_trees wsX3_trees) := goodIn_app (goodIn_of _ (by decide +kernel)) ggL_law_X3_trees
set_option maxRecDepth 20000 in
theorem ggL_law_X4_trees : GoodIn wsL_law wsX4_trees := goodIn_r _ [416, 66, 417, 87, 88, 5, 89, 418, 419, 420, 421, 86, 69, 70, 72, 326, 327, 328, 165, 166, 167, 168, 169, 170, 171, 172, 67, 68, 475, 476, 477, 478, 479, 480, 481, 482, 483, 484, 485, 486] (by decide +kernel) (by decide +kernel)
set_option maxRecDepth 20000 in
theorem gL_law_X4_trees : GoodIn wsL_law (wsV RL 81 RX4 yX4_trees wsX4_trees) := goodIn_app (goodIn_of _ (by decide +kernel)) ggL_law_X4_trees
set_option maxRecDepth 20000 in
theorem ggL_law_X3_resistance : GoodIn wsL_law wsX3_resistance := goodIn_r _ [425, 426, 379, 101, 102, 103, 2, 104, 12, 185, 186, 187, 79, 80, 81, 427, 428, 429, 430, 32, 384, 385, 386, 387, 13, 15, 16, 388, 389, 390, 31, 391, 392, 95, 96, 97, 53, 50, 393, 394, 60, 395, 195, 196, 197, 198, 17, 18, 396, 397, 398, 399, 400, 401, 402, 403, 52, 404, 405, 406, 407, 51, 193, 194, 408, 409, 410, 411, 412, 244, 245, 246, 247, 248, 249, 380, 381, 382, 383, 361, 362, 363, 364, 365, 366, 367, 463, 464, 465, 466, 467, 468, 469, 470, 471, 472, 473, 474, 490, 491, 492, 493] (by decide +kernel) (by decide +kernel)
set_option maxRecDepth 20000 in
theorem gL_law_X3_resistance : GoodIn wsL_law (wsV RL 82 RX3 yX3_resistance wsX3_resistance) := goodIn_app (goodIn_of _ (by decide +kernel)) ggL_law_X3_resistance
set_option maxRecDepth 20000 in
theorem ggL_law_X4_resistance : GoodIn wsL_law wsX4_resistance := goodIn_r _ [434, 435, 417, 436, 437, 438, 109, 110, 111, 5, 112, 66, 87, 88, 89, 439, 440, 441, 442, 418, 419, 420, 421, 86, 69, 70, 72, 326, 327, 328, 165, 166, 167, 168, 169, 170, 171, 172, 67, 68, 372, 373, 374, 475, 476, 477, 478, 479, 480, 481, 482, 483, 484, 485, 486] (by decide +kernel) (by decide +kernel)
set_option maxRecDepth 20000 in
theorem gL_law_X4_resistance : GoodIn wsL_law (wsV RL 86 RX4 yX4_resistance wsX4_resistance) := goodIn_app (goodIn_of _ (by decide +kernel)) ggL_law_X4_resistance
set_option maxRecDepth 20000 in
theorem ggL_law_X3_load : GoodIn wsL_law wsX3_load := goodIn_r _ [446, 426, 379, 15, 16, 17, 117, 118, 119, 2, 120, 13, 79, 80, 81, 427, 428, 429, 430, 32, 384, 385, 386, 387, 12, 388, 389, 390, 31, 391, 392, 95, 96, 97, 53, 50, 393, 394, 60, 395, 195, 196, 197, 198, 18, 396, 397, 398, 399, 400, 401, 402, 403, 52, 404, 405, 406, 407, 51, 193, 194, 408, 409, 410, 411, 412, 244, 245, 246, 247, 248, 249, 380, 381, 382, 383, 361, 362, 363, 364, 365, 366, 367, 463, 464, 465, 466, 467, 468, 469, 470, 471, 472, 473, 474, 490, 491, 492, 493] (by decide +kernel) (by decide +kernel)
set_option maxRecDepth 20000 in
theorem gL_law_X3_load : GoodIn wsL_law (wsV RL 87 RX3 yX3_load wsX3_load) := goodIn_app (goodIn_of _ (by decide +kernel)) ggL_law_X3_load
set_option maxRecDepth 20000 in
theorem ggL_law_X4_load : GoodIn wsL_law wsX4_load := goodIn_r _ [450, 435, 417, 67, 68, 69, 436, 437, 438, 125, 126, 127, 5, 128, 86, 87, 88, 89, 439, 440, 441, 442, 66, 418, 419, 420, 421, 70, 72, 326, 327, 328, 165, 166, 167, 168, 169, 170, 171, 172, 372, 373, 374, 475, 476, 477, 478, 479, 480, 481, 482, 483, 484, 485, 486] (by decide +kernel) (by decide +kernel)
set_option maxRecDepth 20000 in
theorem gL_law_X4_load : GoodIn wsL_law (wsV RL 91 RX4 yX4_load wsX4_load) := goodIn_app (goodIn_of _ (by decide +kernel)) ggL_law_X4_load
set_option maxRecDepth 20000 in
theorem ggL_law_X3_count : GoodIn wsL_law wsX3_count := goodIn_r _ [454, 12, 13, 298, 299, 300, 2, 301, 195, 196, 197, 198, 17, 18, 243, 244, 245, 246, 247, 248, 249, 455, 456, 457, 458, 463, 464, 465, 466, 467, 468, 469, 470, 471, 472, 473, 474] (by decide +kernel) (by decide +kernel)
set_option maxRecDepth 20000 in
theorem gL_law_X3_count : GoodIn wsL_law (wsV RL 92 RX3 yX3_count wsX3_count) := goodIn_app (goodIn_of _ (by decide +kernel)) ggL_law_X3_count
set_option maxRecDepth 20000 in
theorem ggL_law_X4_count : GoodIn wsL_law wsX4_count := goodIn_r _ [462, 66, 86, 69, 70, 254, 255, 256, 5, 257, 475, 476, 477, 478, 479, 480, 481, 482, 483, 484, 485, 486] (by decide +kernel) (by decide +kernel)
set_option maxRecDepth 20000 in
theorem gL_law_X4_count : GoodIn wsL_law (wsV RL 95 RX4 yX4_count wsX4_count) := goodIn_app (goodIn_of _ (by decide +kernel)) ggL_law_X4_count
theorem dL_law_0 : decode cL_law 0 = .ok (.new 7, 3) := by decide +kernel
theorem dL_law_3 : decode cL_law 3 = .ok (.dup, 1) := by decide +kernel
theorem dL_law_4 : decode cL_law 4 = .ok (.invokespecial 9, 3) := by decide +kernel
theorem dL_law_7 : decode cL_law 7 = .ok (.astore_n 1, 1) := by decide +kernel
theorem dL_law_8 : decode cL_law 8 = .ok (.new 10, 3) := by decide +kernel
theorem dL_law_11 : decode cL_law 11 = .ok (.dup, 1) := by decide +kernel
theorem dL_law_12 : decode cL_law 12 = .ok (.invokespecial 12, 3) := by decide +kernel
theorem dL_law_15 : decode cL_law 15 = .ok (.astore_n 2, 1) := by decide +kernel
theorem dL_law_16 : decode cL_law 16 = .ok (.iconst 0, 1) := by decide +kernel
theorem dL_law_17 : decode cL_law 17 = .ok (.istore_n 3, 1) := by decide +kernel
theorem dL_law_18 : decode cL_law 18 = .ok (.iload_n 3, 1) := by decide +kernel
theorem dL_law_19 : decode cL_law 19 = .ok (.aload_n 0, 1) := by decide +kernel
theorem dL_law_20 : decode cL_law 20 = .ok (.arraylength, 1) := by decide +kernel
theorem dL_law_21 : decode cL_law 21 = .ok (.iconst 5, 1) := by decide +kernel
theorem dL_law_22 : decode cL_law 22 = .ok (.isub, 1) := by decide +kernel
theorem dL_law_23 : decode cL_law 23 = .ok (.if_icmp .gt 667, 3) := by decide +kernel
theorem dL_law_26 : decode cL_law 26 = .ok (.aload_n 0, 1) := by decide +kernel
theorem dL_law_27 : decode cL_law 27 = .ok (.iload_n 3, 1) := by decide +kernel
theorem dL_law_28 : decode cL_law 28 = .ok (.iaload, 1) := by decide +kernel
theorem dL_law_29 : decode cL_law 29 = .ok (.bipush 31, 2) := by decide +kernel
theorem dL_law_31 : decode cL_law 31 = .ok (.iand, 1) := by decide +kernel
theorem dL_law_32 : decode cL_law 32 = .ok (.tableswitch 652 0 18 #[92, 115, 158, 181, 214, 247, 280, 303, 336, 349, 372, 395, 428, 451, 494, 517, 541, 595, 629], 92) := by decide +kernel
theorem dL_law_124 : decode cL_law 124 = .ok (.aload_n 1, 1) := by decide +kernel
theorem dL_law_125 : decode cL_law 125 = .ok (.aload_n 0, 1) := by decide +kernel
theorem dL_law_126 : decode cL_law 126 = .ok (.iload_n 3, 1) := by decide +kernel
theorem dL_law_127 : decode cL_law 127 = .ok (.iconst 1, 1) := by decide +kernel
theorem dL_law_128 : decode cL_law 128 = .ok (.iadd, 1) := by decide +kernel
theorem dL_law_129 : decode cL_law 129 = .ok (.iaload, 1) := by decide +kernel
theorem dL_law_130 : decode cL_law 130 = .ok (.invokevirtual 13, 3) := by decide +kernel
theorem dL_law_133 : decode cL_law 133 = .ok (.aload_n 2, 1) := by decide +kernel
theorem dL_law_134 : decode cL_law 134 = .ok (.aload_n 0, 1) := by decide +kernel
theorem dL_law_135 : decode cL_law 135 = .ok (.iload_n 3, 1) := by decide +kernel
theorem dL_law_136 : decode cL_law 136 = .ok (.iconst 1, 1) := by decide +kernel
theorem dL_law_137 : decode cL_law 137 = .ok (.iadd, 1) := by decide +kernel
theorem dL_law_138 : decode cL_law 138 = .ok (.iaload, 1) := by decide +kernel
theorem dL_law_139 : decode cL_law 139 = .ok (.invokevirtual 17, 3) := by decide +kernel
theorem dL_law_142 : decode cL_law 142 = .ok (.if_icmp .eq 542, 3) := by decide +kernel
theorem dL_law_145 : decode cL_law 145 = .ok (.iconst 0, 1) := by decide +kernel
theorem dL_law_146 : decode cL_law 146 = .ok (.ireturn, 1) := by decide +kernel
theorem dL_law_147 : decode cL_law 147 = .ok (.aload_n 1, 1) := by decide +kernel
theorem dL_law_148 : decode cL_law 148 = .ok (.aload_n 0, 1) := by decide +kernel
theorem dL_law_149 : decode cL_law 149 = .ok (.iload_n 3, 1) := by decide +kernel
theorem dL_law_150 : decode cL_law 150 = .ok (.iconst 1, 1) := by decide +kernel
theorem dL_law_151 : decode cL_law 151 = .ok (.iadd, 1) := by decide +kernel
theorem dL_law_152 : decode cL_law 152 = .ok (.iaload, 1) := by decide +kernel
theorem dL_law_153 : decode cL_law 153 = .ok (.aload_n 0, 1) := by decide +kernel
theorem dL_law_154 : decode cL_law 154 = .ok (.iload_n 3, 1) := by decide +kernel
theorem dL_law_155 : decode cL_law 155 = .ok (.iconst 2, 1) := by decide +kernel
theorem dL_law_156 : decode cL_law 156 = .ok (.iadd, 1) := by decide +kernel
theorem dL_law_157 : decode cL_law 157 = .ok (.iaload, 1) := by decide +kernel
theorem dL_law_158 : decode cL_law 158 = .ok (.aload_n 0, 1) := by decide +kernel
theorem dL_law_159 : decode cL_law 159 = .ok (.iload_n 3, 1) := by decide +kernel
theorem dL_law_160 : decode cL_law 160 = .ok (.iconst 3, 1) := by decide +kernel
theorem dL_law_161 : decode cL_law 161 = .ok (.iadd, 1) := by decide +kernel
theorem dL_law_162 : decode cL_law 162 = .ok (.iaload, 1) := by decide +kernel
theorem dL_law_163 : decode cL_law 163 = .ok (.invokevirtual 18, 3) := by decide +kernel
theorem dL_law_166 : decode cL_law 166 = .ok (.aload_n 2, 1) := by decide +kernel
theorem dL_law_167 : decode cL_law 167 = .ok (.aload_n 0, 1) := by decide +kernel
theorem dL_law_168 : decode cL_law 168 = .ok (.iload_n 3, 1) := by decide +kernel
theorem dL_law_169 : decode cL_law 169 = .ok (.iconst 1, 1) := by decide +kernel
theorem dL_law_170 : decode cL_law 170 = .ok (.iadd, 1) := by decide +kernel
theorem dL_law_171 : decode cL_law 171 = .ok (.iaload, 1) := by decide +kernel
theorem dL_law_172 : decode cL_law 172 = .ok (.aload_n 0, 1) := by decide +kernel
theorem dL_law_173 : decode cL_law 173 = .ok (.iload_n 3, 1) := by decide +kernel
theorem dL_law_174 : decode cL_law 174 = .ok (.iconst 2, 1) := by decide +kernel
theorem dL_law_175 : decode cL_law 175 = .ok (.iadd, 1) := by decide +kernel
theorem dL_law_176 : decode cL_law 176 = .ok (.iaload, 1) := by decide +kernel
theorem dL_law_177 : decode cL_law 177 = .ok (.aload_n 0, 1) := by decide +kernel
theorem dL_law_178 : decode cL_law 178 = .ok (.iload_n 3, 1) := by decide +kernel
theorem dL_law_179 : decode cL_law 179 = .ok (.iconst 3, 1) := by decide +kernel
theorem dL_law_180 : decode cL_law 180 = .ok (.iadd, 1) := by decide +kernel
theorem dL_law_181 : decode cL_law 181 = .ok (.iaload, 1) := by decide +kernel
theorem dL_law_182 : decode cL_law 182 = .ok (.invokevirtual 22, 3) := by decide +kernel
theorem dL_law_185 : decode cL_law 185 = .ok (.if_icmp .eq 499, 3) := by decide +kernel
theorem dL_law_188 : decode cL_law 188 = .ok (.iconst 0, 1) := by decide +kernel
theorem dL_law_189 : decode cL_law 189 = .ok (.ireturn, 1) := by decide +kernel
theorem dL_law_190 : decode cL_law 190 = .ok (.aload_n 1, 1) := by decide +kernel
theorem dL_law_191 : decode cL_law 191 = .ok (.aload_n 0, 1) := by decide +kernel
theorem dL_law_192 : decode cL_law 192 = .ok (.iload_n 3, 1) := by decide +kernel
theorem dL_law_193 : decode cL_law 193 = .ok (.iconst 1, 1) := by decide +kernel
theorem dL_law_194 : decode cL_law 194 = .ok (.iadd, 1) := by decide +kernel
theorem dL_law_195 : decode cL_law 195 = .ok (.iaload, 1) := by decide +kernel
theorem dL_law_196 : decode cL_law 196 = .ok (.invokevirtual 23, 3) := by decide +kernel
theorem dL_law_199 : decode cL_law 199 = .ok (.aload_n 2, 1) := by decide +kernel
theorem dL_law_200 : decode cL_law 200 = .ok (.aload_n 0, 1) := by decide +kernel
theorem dL_law_201 : decode cL_law 201 = .ok (.iload_n 3, 1) := by decide +kernel
theorem dL_law_202 : decode cL_law 202 = .ok (.iconst 1, 1) := by decide +kernel
theorem dL_law_203 : decode cL_law 203 = .ok (.iadd, 1) := by decide +kernel
theorem dL_law_204 : decode cL_law 204 = .ok (.iaload, 1) := by decide +kernel
theorem dL_law_205 : decode cL_law 205 = .ok (.invokevirtual 26, 3) := by decide +kernel
theorem dL_law_208 : decode cL_law 208 = .ok (.if_icmp .eq 476, 3) := by decide +kernel
theorem dL_law_211 : decode cL_law 211 = .ok (.iconst 0, 1) := by decide +kernel
theorem dL_law_212 : decode cL_law 212 = .ok (.ireturn, 1) := by decide +kernel
theorem dL_law_213 : decode cL_law 213 = .ok (.aload_n 1, 1) := by decide +kernel
theorem dL_law_214 : decode cL_law 214 = .ok (.aload_n 0, 1) := by decide +kernel
theorem dL_law_215 : decode cL_law 215 = .ok (.iload_n 3, 1) := by decide +kernel
theorem dL_law_216 : decode cL_law 216 = .ok (.iconst 1, 1) := by decide +kernel
theorem dL_law_217 : decode cL_law 217 = .ok (.iadd, 1) := by decide +kernel
theorem dL_law_218 : decode cL_law 218 = .ok (.iaload, 1) := by decide +kernel
theorem dL_law_219 : decode cL_law 219 = .ok (.aload_n 0, 1) := by decide +kernel
theorem dL_law_220 : decode cL_law 220 = .ok (.iload_n 3, 1) := by decide +kernel
theorem dL_law_221 : decode cL_law 221 = .ok (.iconst 2, 1) := by decide +kernel
theorem dL_law_222 : decode cL_law 222 = .ok (.iadd, 1) := by decide +kernel
theorem dL_law_223 : decode cL_law 223 = .ok (.iaload, 1) := by decide +kernel
theorem dL_law_224 : decode cL_law 224 = .ok (.invokevirtual 27, 3) := by decide +kernel
theorem dL_law_227 : decode cL_law 227 = .ok (.aload_n 2, 1) := by decide +kernel
theorem dL_law_228 : decode cL_law 228 = .ok (.aload_n 0, 1) := by decide +kernel
theorem dL_law_229 : decode cL_law 229 = .ok (.iload_n 3, 1) := by decide +kernel
theorem dL_law_230 : decode cL_law 230 = .ok (.iconst 1, 1) := by decide +kernel
theorem dL_law_231 : decode cL_law 231 = .ok (.iadd, 1) := by decide +kernel
theorem dL_law_232 : decode cL_law 232 = .ok (.iaload, 1) := by decide +kernel
theorem dL_law_233 : decode cL_law 233 = .ok (.aload_n 0, 1) := by decide +kernel
theorem dL_law_234 : decode cL_law 234 = .ok (.iload_n 3, 1) := by decide +kernel
theorem dL_law_235 : decode cL_law 235 = .ok (.iconst 2, 1) := by decide +kernel
theorem dL_law_236 : decode cL_law 236 = .ok (.iadd, 1) := by decide +kernel
theorem dL_law_237 : decode cL_law 237 = .ok (.iaload, 1) := by decide +kernel
theorem dL_law_238 : decode cL_law 238 = .ok (.invokevirtual 31, 3) := by decide +kernel
theorem dL_law_241 : decode cL_law 241 = .ok (.if_icmp .eq 443, 3) := by decide +kernel
theorem dL_law_244 : decode cL_law 244 = .ok (.iconst 0, 1) := by decide +kernel
theorem dL_law_245 : decode cL_law 245 = .ok (.ireturn, 1) := by decide +kernel
theorem dL_law_246 : decode cL_law 246 = .ok (.aload_n 1, 1) := by decide +kernel
theorem dL_law_247 : decode cL_law 247 = .ok (.aload_n 0, 1) := by decide +kernel
theorem dL_law_248 : decode cL_law 248 = .ok (.iload_n 3, 1) := by decide +kernel
theorem dL_law_249 : decode cL_law 249 = .ok (.iconst 1, 1) := by decide +kernel
theorem dL_law_250 : decode cL_law 250 = .ok (.iadd, 1) := by decide +kernel
theorem dL_law_251 : decode cL_law 251 = .ok (.iaload, 1) := by decide +kernel
theorem dL_law_252 : decode cL_law 252 = .ok (.aload_n 0, 1) := by decide +kernel
theorem dL_law_253 : decode cL_law 253 = .ok (.iload_n 3, 1) := by decide +kernel
theorem dL_law_254 : decode cL_law 254 = .ok (.iconst 2, 1) := by decide +kernel
theorem dL_law_255 : decode cL_law 255 = .ok (.iadd, 1) := by decide +kernel
theorem dL_law_256 : decode cL_law 256 = .ok (.iaload, 1) := by decide +kernel
theorem dL_law_257 : decode cL_law 257 = .ok (.invokevirtual 32, 3) := by decide +kernel
theorem dL_law_260 : decode cL_law 260 = .ok (.aload_n 2, 1) := by decide +kernel
theorem dL_law_261 : decode cL_law 261 = .ok (.aload_n 0, 1) := by decide +kernel
theorem dL_law_262 : decode cL_law 262 = .ok (.iload_n 3, 1) := by decide +kernel
theorem dL_law_263 : decode cL_law 263 = .ok (.iconst 1, 1) := by decide +kernel
theorem dL_law_264 : decode cL_law 264 = .ok (.iadd, 1) := by decide +kernel
theorem dL_law_265 : decode cL_law 265 = .ok (.iaload, 1) := by decide +kernel
theorem dL_law_266 : decode cL_law 266 = .ok (.aload_n 0, 1) := by decide +kernel
theorem dL_law_267 : decode cL_law 267 = .ok (.iload_n 3, 1) := by decide +kernel
theorem dL_law_268 : decode cL_law 268 = .ok (.iconst 2, 1) := by decide +kernel
theorem dL_law_269 : decode cL_law 269 = .ok (.iadd, 1) := by decide +kernel
theorem dL_law_270 : decode cL_law 270 = .ok (.iaload, 1) := by decide +kernel
theorem dL_law_271 : decode cL_law 271 = .ok (.invokevirtual 35, 3) := by decide +kernel
theorem dL_law_274 : decode cL_law 274 = .ok (.if_icmp .eq 410, 3) := by decide +kernel
theorem dL_law_277 : decode cL_law 277 = .ok (.iconst 0, 1) := by decide +kernel
theorem dL_law_278 : decode cL_law 278 = .ok (.ireturn, 1) := by decide +kernel
theorem dL_law_279 : decode cL_law 279 = .ok (.aload_n 1, 1) := by decide +kernel
theorem dL_law_280 : decode cL_law 280 = .ok (.aload_n 0, 1) := by decide +kernel
theorem dL_law_281 : decode cL_law 281 = .ok (.iload_n 3, 1) := by decide +kernel
theorem dL_law_282 : decode cL_law 282 = .ok (.iconst 1, 1) := by decide +kernel
theorem dL_law_283 : decode cL_law 283 = .ok (.iadd, 1) := by decide +kernel
theorem dL_law_284 : decode cL_law 284 = .ok (.iaload, 1) := by decide +kernel
theorem dL_law_285 : decode cL_law 285 = .ok (.aload_n 0, 1) := by decide +kernel
theorem dL_law_286 : decode cL_law 286 = .ok (.iload_n 3, 1) := by decide +kernel
theorem dL_law_287 : decode cL_law 287 = .ok (.iconst 2, 1) := by decide +kernel
theorem dL_law_288 : decode cL_law 288 = .ok (.iadd, 1) := by decide +kernel
theorem dL_law_289 : decode cL_law 289 = .ok (.iaload, 1) := by decide +kernel
theorem dL_law_290 : decode cL_law 290 = .ok (.invokevirtual 36, 3) := by decide +kernel
theorem dL_law_293 : decode cL_law 293 = .ok (.aload_n 2, 1) := by decide +kernel
theorem dL_law_294 : decode cL_law 294 = .ok (.aload_n 0, 1) := by decide +kernel
theorem dL_law_295 : decode cL_law 295 = .ok (.iload_n 3, 1) := by decide +kernel
theorem dL_law_296 : decode cL_law 296 = .ok (.iconst 1, 1) := by decide +kernel
theorem dL_law_297 : decode cL_law 297 = .ok (.iadd, 1) := by decide +kernel
theorem dL_law_298 : decode cL_law 298 = .ok (.iaload, 1) := by decide +kernel
theorem dL_law_299 : decode cL_law 299 = .ok (.aload_n 0, 1) := by decide +kernel
theorem dL_law_300 : decode cL_law 300 = .ok (.iload_n 3, 1) := by decide +kernel
theorem dL_law_301 : decode cL_law 301 = .ok (.iconst 2, 1) := by decide +kernel
theorem dL_law_302 : decode cL_law 302 = .ok (.iadd, 1) := by decide +kernel
theorem dL_law_303 : decode cL_law 303 = .ok (.iaload, 1) := by decide +kernel
theorem dL_law_304 : decode cL_law 304 = .ok (.invokevirtual 39, 3) := by decide +kernel
theorem dL_law_307 : decode cL_law 307 = .ok (.if_icmp .eq 377, 3) := by decide +kernel
theorem dL_law_310 : decode cL_law 310 = .ok (.iconst 0, 1) := by decide +kernel
theorem dL_law_311 : decode cL_law 311 = .ok (.ireturn, 1) := by decide +kernel
theorem dL_law_312 : decode cL_law 312 = .ok (.aload_n 1, 1) := by decide +kernel
theorem dL_law_313 : decode cL_law 313 = .ok (.aload_n 0, 1) := by decide +kernel
theorem dL_law_314 : decode cL_law 314 = .ok (.iload_n 3, 1) := by decide +kernel
theorem dL_law_315 : decode cL_law 315 = .ok (.iconst 1, 1) := by decide +kernel
theorem dL_law_316 : decode cL_law 316 = .ok (.iadd, 1) := by decide +kernel
theorem dL_law_317 : decode cL_law 317 = .ok (.iaload, 1) := by decide +kernel
theorem dL_law_318 : decode cL_law 318 = .ok (.invokevirtual 40, 3) := by decide +kernel
theorem dL_law_321 : decode cL_law 321 = .ok (.aload_n 2, 1) := by decide +kernel
theorem dL_law_322 : decode cL_law 322 = .ok (.aload_n 0, 1) := by decide +kernel
theorem dL_law_323 : decode cL_law 323 = .ok (.iload_n 3, 1) := by decide +kernel
theorem dL_law_324 : decode cL_law 324 = .ok (.iconst 1, 1) := by decide +kernel
theorem dL_law_325 : decode cL_law 325 = .ok (.iadd, 1) := by decide +kernel
theorem dL_law_326 : decode cL_law 326 = .ok (.iaload, 1) := by decide +kernel
theorem dL_law_327 : decode cL_law 327 = .ok (.invokevirtual 43, 3) := by decide +kernel
theorem dL_law_330 : decode cL_law 330 = .ok (.if_icmp .eq 354, 3) := by decide +kernel
theorem dL_law_333 : decode cL_law 333 = .ok (.iconst 0, 1) := by decide +kernel
theorem dL_law_334 : decode cL_law 334 = .ok (.ireturn, 1) := by decide +kernel
theorem dL_law_335 : decode cL_law 335 = .ok (.aload_n 1, 1) := by decide +kernel
theorem dL_law_336 : decode cL_law 336 = .ok (.aload_n 0, 1) := by decide +kernel
theorem dL_law_337 : decode cL_law 337 = .ok (.iload_n 3, 1) := by decide +kernel
theorem dL_law_338 : decode cL_law 338 = .ok (.iconst 1, 1) := by decide +kernel
theorem dL_law_339 : decode cL_law 339 = .ok (.iadd, 1) := by decide +kernel
theorem dL_law_340 : decode cL_law 340 = .ok (.iaload, 1) := by decide +kernel
theorem dL_law_341 : decode cL_law 341 = .ok (.aload_n 0, 1) := by decide +kernel
theorem dL_law_342 : decode cL_law 342 = .ok (.iload_n 3, 1) := by decide +kernel
theorem dL_law_343 : decode cL_law 343 = .ok (.iconst 2, 1) := by decide +kernel
theorem dL_law_344 : decode cL_law 344 = .ok (.iadd, 1) := by decide +kernel
theorem dL_law_345 : decode cL_law 345 = .ok (.iaload, 1) := by decide +kernel
theorem dL_law_346 : decode cL_law 346 = .ok (.invokevirtual 44, 3) := by decide +kernel
theorem dL_law_349 : decode cL_law 349 = .ok (.aload_n 2, 1) := by decide +kernel
theorem dL_law_350 : decode cL_law 350 = .ok (.aload_n 0, 1) := by decide +kernel
theorem dL_law_351 : decode cL_law 351 = .ok (.iload_n 3, 1) := by decide +kernel
theorem dL_law_352 : decode cL_law 352 = .ok (.iconst 1, 1) := by decide +kernel
theorem dL_law_353 : decode cL_law 353 = .ok (.iadd, 1) := by decide +kernel
theorem dL_law_354 : decode cL_law 354 = .ok (.iaload, 1) := by decide +kernel
theorem dL_law_355 : decode cL_law 355 = .ok (.aload_n 0, 1) := by decide +kernel
theorem dL_law_356 : decode cL_law 356 = .ok (.iload_n 3, 1) := by decide +kernel
theorem dL_law_357 : decode cL_law 357 = .ok (.iconst 2, 1) := by decide +kernel
theorem dL_law_358 : decode cL_law 358 = .ok (.iadd, 1) := by decide +kernel
theorem dL_law_359 : decode cL_law 359 = .ok (.iaload, 1) := by decide +kernel
theorem dL_law_360 : decode cL_law 360 = .ok (.invokevirtual 47, 3) := by decide +kernel
theorem dL_law_363 : decode cL_law 363 = .ok (.if_icmp .eq 321, 3) := by decide +kernel
theorem dL_law_366 : decode cL_law 366 = .ok (.iconst 0, 1) := by decide +kernel
theorem dL_law_367 : decode cL_law 367 = .ok (.ireturn, 1) := by decide +kernel
theorem dL_law_368 : decode cL_law 368 = .ok (.aload_n 1, 1) := by decide +kernel
theorem dL_law_369 : decode cL_law 369 = .ok (.invokevirtual 48, 3) := by decide +kernel
theorem dL_law_372 : decode cL_law 372 = .ok (.aload_n 2, 1) := by decide +kernel
theorem dL_law_373 : decode cL_law 373 = .ok (.invokevirtual 52, 3) := by decide +kernel
theorem dL_law_376 : decode cL_law 376 = .ok (.if_icmp .eq 308, 3) := by decide +kernel
theorem dL_law_379 : decode cL_law 379 = .ok (.iconst 0, 1) := by decide +kernel
theorem dL_law_380 : decode cL_law 380 = .ok (.ireturn, 1) := by decide +kernel
theorem dL_law_381 : decode cL_law 381 = .ok (.aload_n 1, 1) := by decide +kernel
theorem dL_law_382 : decode cL_law 382 = .ok (.aload_n 0, 1) := by decide +kernel
theorem dL_law_383 : decode cL_law 383 = .ok (.iload_n 3, 1) := by decide +kernel
theorem dL_law_384 : decode cL_law 384 = .ok (.iconst 1, 1) := by decide +kernel
theorem dL_law_385 : decode cL_law 385 = .ok (.iadd, 1) := by decide +kernel
theorem dL_law_386 : decode cL_law 386 = .ok (.iaload, 1) := by decide +kernel
theorem dL_law_387 : decode cL_law 387 = .ok (.invokevirtual 53, 3) := by decide +kernel
theorem dL_law_390 : decode cL_law 390 = .ok (.aload_n 2, 1) := by decide +kernel
theorem dL_law_391 : decode cL_law 391 = .ok (.aload_n 0, 1) := by decide +kernel
theorem dL_law_392 : decode cL_law 392 = .ok (.iload_n 3, 1) := by decide +kernel
theorem dL_law_393 : decode cL_law 393 = .ok (.iconst 1, 1) := by decide +kernel
theorem dL_law_394 : decode cL_law 394 = .ok (.iadd, 1) := by decide +kernel
theorem dL_law_395 : decode cL_law 395 = .ok (.iaload, 1) := by decide +kernel
theorem dL_law_396 : decode cL_law 396 = .ok (.invokevirtual 56, 3) := by decide +kernel
theorem dL_law_399 : decode cL_law 399 = .ok (.if_icmp .eq 285, 3) := by decide +kernel
theorem dL_law_402 : decode cL_law 402 = .ok (.iconst 0, 1) := by decide +kernel
theorem dL_law_403 : decode cL_law 403 = .ok (.ireturn, 1) := by decide +kernel
theorem dL_law_404 : decode cL_law 404 = .ok (.aload_n 1, 1) := by decide +kernel
theorem dL_law_405 : decode cL_law 405 = .ok (.aload_n 0, 1) := by decide +kernel
theorem dL_law_406 : decode cL_law 406 = .ok (.iload_n 3, 1) := by decide +kernel
theorem dL_law_407 : decode cL_law 407 = .ok (.iconst 1, 1) := by decide +kernel
theorem dL_law_408 : decode cL_law 408 = .ok (.iadd, 1) := by decide +kernel
theorem dL_law_409 : decode cL_law 409 = .ok (.iaload, 1) := by decide +kernel
theorem dL_law_410 : decode cL_law 410 = .ok (.invokevirtual 57, 3) := by decide +kernel
theorem dL_law_413 : decode cL_law 413 = .ok (.aload_n 2, 1) := by decide +kernel
theorem dL_law_414 : decode cL_law 414 = .ok (.aload_n 0, 1) := by decide +kernel
theorem dL_law_415 : decode cL_law 415 = .ok (.iload_n 3, 1) := by decide +kernel
theorem dL_law_416 : decode cL_law 416 = .ok (.iconst 1, 1) := by decide +kernel
theorem dL_law_417 : decode cL_law 417 = .ok (.iadd, 1) := by decide +kernel
theorem dL_law_418 : decode cL_law 418 = .ok (.iaload, 1) := by decide +kernel
theorem dL_law_419 : decode cL_law 419 = .ok (.invokevirtual 60, 3) := by decide +kernel
theorem dL_law_422 : decode cL_law 422 = .ok (.if_icmp .eq 262, 3) := by decide +kernel
theorem dL_law_425 : decode cL_law 425 = .ok (.iconst 0, 1) := by decide +kernel
theorem dL_law_426 : decode cL_law 426 = .ok (.ireturn, 1) := by decide +kernel
theorem dL_law_427 : decode cL_law 427 = .ok (.aload_n 1, 1) := by decide +kernel
theorem dL_law_428 : decode cL_law 428 = .ok (.aload_n 0, 1) := by decide +kernel
theorem dL_law_429 : decode cL_law 429 = .ok (.iload_n 3, 1) := by decide +kernel
theorem dL_law_430 : decode cL_law 430 = .ok (.iconst 1, 1) := by decide +kernel
theorem dL_law_431 : decode cL_law 431 = .ok (.iadd, 1) := by decide +kernel
theorem dL_law_432 : decode cL_law 432 = .ok (.iaload, 1) := by decide +kernel
theorem dL_law_433 : decode cL_law 433 = .ok (.aload_n 0, 1) := by decide +kernel
theorem dL_law_434 : decode cL_law 434 = .ok (.iload_n 3, 1) := by decide +kernel
theorem dL_law_435 : decode cL_law 435 = .ok (.iconst 2, 1) := by decide +kernel
theorem dL_law_436 : decode cL_law 436 = .ok (.iadd, 1) := by decide +kernel
theorem dL_law_437 : decode cL_law 437 = .ok (.iaload, 1) := by decide +kernel
theorem dL_law_438 : decode cL_law 438 = .ok (.invokevirtual 61, 3) := by decide +kernel
theorem dL_law_441 : decode cL_law 441 = .ok (.aload_n 2, 1) := by decide +kernel
theorem dL_law_442 : decode cL_law 442 = .ok (.aload_n 0, 1) := by decide +kernel
theorem dL_law_443 : decode cL_law 443 = .ok (.iload_n 3, 1) := by decide +kernel
theorem dL_law_444 : decode cL_law 444 = .ok (.iconst 1, 1) := by decide +kernel
theorem dL_law_445 : decode cL_law 445 = .ok (.iadd, 1) := by decide +kernel
theorem dL_law_446 : decode cL_law 446 = .ok (.iaload, 1) := by decide +kernel
theorem dL_law_447 : decode cL_law 447 = .ok (.aload_n 0, 1) := by decide +kernel
theorem dL_law_448 : decode cL_law 448 = .ok (.iload_n 3, 1) := by decide +kernel
theorem dL_law_449 : decode cL_law 449 = .ok (.iconst 2, 1) := by decide +kernel
theorem dL_law_450 : decode cL_law 450 = .ok (.iadd, 1) := by decide +kernel
theorem dL_law_451 : decode cL_law 451 = .ok (.iaload, 1) := by decide +kernel
theorem dL_law_452 : decode cL_law 452 = .ok (.invokevirtual 64, 3) := by decide +kernel
theorem dL_law_455 : decode cL_law 455 = .ok (.if_icmp .eq 229, 3) := by decide +kernel
theorem dL_law_458 : decode cL_law 458 = .ok (.iconst 0, 1) := by decide +kernel
theorem dL_law_459 : decode cL_law 459 = .ok (.ireturn, 1) := by decide +kernel
theorem dL_law_460 : decode cL_law 460 = .ok (.aload_n 1, 1) := by decide +kernel
theorem dL_law_461 : decode cL_law 461 = .ok (.aload_n 0, 1) := by decide +kernel
theorem dL_law_462 : decode cL_law 462 = .ok (.iload_n 3, 1) := by decide +kernel
theorem dL_law_463 : decode cL_law 463 = .ok (.iconst 1, 1) := by decide +kernel
theorem dL_law_464 : decode cL_law 464 = .ok (.iadd, 1) := by decide +kernel
theorem dL_law_465 : decode cL_law 465 = .ok (.iaload, 1) := by decide +kernel
theorem dL_law_466 : decode cL_law 466 = .ok (.invokevirtual 65, 3) := by decide +kernel
theorem dL_law_469 : decode cL_law 469 = .ok (.aload_n 2, 1) := by decide +kernel
theorem dL_law_470 : decode cL_law 470 = .ok (.aload_n 0, 1) := by decide +kernel
theorem dL_law_471 : decode cL_law 471 = .ok (.iload_n 3, 1) := by decide +kernel
theorem dL_law_472 : decode cL_law 472 = .ok (.iconst 1, 1) := by decide +kernel
theorem dL_law_473 : decode cL_law 473 = .ok (.iadd, 1) := by decide +kernel
theorem dL_law_474 : decode cL_law 474 = .ok (.iaload, 1) := by decide +kernel
theorem dL_law_475 : decode cL_law 475 = .ok (.invokevirtual 68, 3) := by decide +kernel
theorem dL_law_478 : decode cL_law 478 = .ok (.if_icmp .eq 206, 3) := by decide +kernel
theorem dL_law_481 : decode cL_law 481 = .ok (.iconst 0, 1) := by decide +kernel
theorem dL_law_482 : decode cL_law 482 = .ok (.ireturn, 1) := by decide +kernel
theorem dL_law_483 : decode cL_law 483 = .ok (.aload_n 1, 1) := by decide +kernel
theorem dL_law_484 : decode cL_law 484 = .ok (.aload_n 0, 1) := by decide +kernel
theorem dL_law_485 : decode cL_law 485 = .ok (.iload_n 3, 1) := by decide +kernel
theorem dL_law_486 : decode cL_law 486 = .ok (.iconst 1, 1) := by decide +kernel
theorem dL_law_487 : decode cL_law 487 = .ok (.iadd, 1) := by decide +kernel
theorem dL_law_488 : decode cL_law 488 = .ok (.iaload, 1) := by decide +kernel
theorem dL_law_489 : decode cL_law 489 = .ok (.aload_n 0, 1) := by decide +kernel
theorem dL_law_490 : decode cL_law 490 = .ok (.iload_n 3, 1) := by decide +kernel
theorem dL_law_491 : decode cL_law 491 = .ok (.iconst 2, 1) := by decide +kernel
theorem dL_law_492 : decode cL_law 492 = .ok (.iadd, 1) := by decide +kernel
theorem dL_law_493 : decode cL_law 493 = .ok (.iaload, 1) := by decide +kernel
theorem dL_law_494 : decode cL_law 494 = .ok (.aload_n 0, 1) := by decide +kernel
theorem dL_law_495 : decode cL_law 495 = .ok (.iload_n 3, 1) := by decide +kernel
theorem dL_law_496 : decode cL_law 496 = .ok (.iconst 3, 1) := by decide +kernel
theorem dL_law_497 : decode cL_law 497 = .ok (.iadd, 1) := by decide +kernel
theorem dL_law_498 : decode cL_law 498 = .ok (.iaload, 1) := by decide +kernel
theorem dL_law_499 : decode cL_law 499 = .ok (.invokevirtual 69, 3) := by decide +kernel
theorem dL_law_502 : decode cL_law 502 = .ok (.aload_n 2, 1) := by decide +kernel
theorem dL_law_503 : decode cL_law 503 = .ok (.aload_n 0, 1) := by decide +kernel
theorem dL_law_504 : decode cL_law 504 = .ok (.iload_n 3, 1) := by decide +kernel
theorem dL_law_505 : decode cL_law 505 = .ok (.iconst 1, 1) := by decide +kernel
theorem dL_law_506 : decode cL_law 506 = .ok (.iadd, 1) := by decide +kernel
theorem dL_law_507 : decode cL_law 507 = .ok (.iaload, 1) := by decide +kernel
theorem dL_law_508 : decode cL_law 508 = .ok (.aload_n 0, 1) := by decide +kernel
theorem dL_law_509 : decode cL_law 509 = .ok (.iload_n 3, 1) := by decide +kernel
theorem dL_law_510 : decode cL_law 510 = .ok (.iconst 2, 1) := by decide +kernel
theorem dL_law_511 : decode cL_law 511 = .ok (.iadd, 1) := by decide +kernel
theorem dL_law_512 : decode cL_law 512 = .ok (.iaload, 1) := by decide +kernel
theorem dL_law_513 : decode cL_law 513 = .ok (.aload_n 0, 1) := by decide +kernel
theorem dL_law_514 : decode cL_law 514 = .ok (.iload_n 3, 1) := by decide +kernel
theorem dL_law_515 : decode cL_law 515 = .ok (.iconst 3, 1) := by decide +kernel
theorem dL_law_516 : decode cL_law 516 = .ok (.iadd, 1) := by decide +kernel
theorem dL_law_517 : decode cL_law 517 = .ok (.iaload, 1) := by decide +kernel
theorem dL_law_518 : decode cL_law 518 = .ok (.invokevirtual 72, 3) := by decide +kernel
theorem dL_law_521 : decode cL_law 521 = .ok (.if_icmp .eq 163, 3) := by decide +kernel
theorem dL_law_524 : decode cL_law 524 = .ok (.iconst 0, 1) := by decide +kernel
theorem dL_law_525 : decode cL_law 525 = .ok (.ireturn, 1) := by decide +kernel
theorem dL_law_526 : decode cL_law 526 = .ok (.aload_n 1, 1) := by decide +kernel
theorem dL_law_527 : decode cL_law 527 = .ok (.aload_n 0, 1) := by decide +kernel
theorem dL_law_528 : decode cL_law 528 = .ok (.iload_n 3, 1) := by decide +kernel
theorem dL_law_529 : decode cL_law 529 = .ok (.iconst 1, 1) := by decide +kernel
theorem dL_law_530 : decode cL_law 530 = .ok (.iadd, 1) := by decide +kernel
theorem dL_law_531 : decode cL_law 531 = .ok (.iaload, 1) := by decide +kernel
theorem dL_law_532 : decode cL_law 532 = .ok (.invokevirtual 73, 3) := by decide +kernel
theorem dL_law_535 : decode cL_law 535 = .ok (.aload_n 2, 1) := by decide +kernel
theorem dL_law_536 : decode cL_law 536 = .ok (.aload_n 0, 1) := by decide +kernel
theorem dL_law_537 : decode cL_law 537 = .ok (.iload_n 3, 1) := by decide +kernel
theorem dL_law_538 : decode cL_law 538 = .ok (.iconst 1, 1) := by decide +kernel
theorem dL_law_539 : decode cL_law 539 = .ok (.iadd, 1) := by decide +kernel
theorem dL_law_540 : decode cL_law 540 = .ok (.iaload, 1) := by decide +kernel
theorem dL_law_541 : decode cL_law 541 = .ok (.invokevirtual 76, 3) := by decide +kernel
theorem dL_law_544 : decode cL_law 544 = .ok (.if_icmp .eq 140, 3) := by decide +kernel
theorem dL_law_547 : decode cL_law 547 = .ok (.iconst 0, 1) := by decide +kernel
theorem dL_law_548 : decode cL_law 548 = .ok (.ireturn, 1) := by decide +kernel
theorem dL_law_549 : decode cL_law 549 = .ok (.aload_n 1, 1) := by decide +kernel
theorem dL_law_550 : decode cL_law 550 = .ok (.aload_n 0, 1) := by decide +kernel
theorem dL_law_551 : decode cL_law 551 = .ok (.iload_n 3, 1) := by decide +kernel
theorem dL_law_552 : decode cL_law 552 = .ok (.iconst 1, 1) := by decide +kernel
theorem dL_law_553 : decode cL_law 553 = .ok (.iadd, 1) := by decide +kernel
theorem dL_law_554 : decode cL_law 554 = .ok (.iaload, 1) := by decide +kernel
theorem dL_law_555 : decode cL_law 555 = .ok (.invokevirtual 77, 3) := by decide +kernel
theorem dL_law_558 : decode cL_law 558 = .ok (.aload_n 2, 1) := by decide +kernel
theorem dL_law_559 : decode cL_law 559 = .ok (.aload_n 0, 1) := by decide +kernel
theorem dL_law_560 : decode cL_law 560 = .ok (.iload_n 3, 1) := by decide +kernel
theorem dL_law_561 : decode cL_law 561 = .ok (.iconst 1, 1) := by decide +kernel
theorem dL_law_562 : decode cL_law 562 = .ok (.iadd, 1) := by decide +kernel
theorem dL_law_563 : decode cL_law 563 = .ok (.iaload, 1) := by decide +kernel
theorem dL_law_564 : decode cL_law 564 = .ok (.invokevirtual 81, 3) := by decide +kernel
theorem dL_law_567 : decode cL_law 567 = .ok (.lcmp, 1) := by decide +kernel
theorem dL_law_568 : decode cL_law 568 = .ok (.ifCond .eq 116, 3) := by decide +kernel
theorem dL_law_571 : decode cL_law 571 = .ok (.iconst 0, 1) := by decide +kernel
theorem dL_law_572 : decode cL_law 572 = .ok (.ireturn, 1) := by decide +kernel
theorem dL_law_573 : decode cL_law 573 = .ok (.aload_n 1, 1) := by decide +kernel
theorem dL_law_574 : decode cL_law 574 = .ok (.aload_n 0, 1) := by decide +kernel
theorem dL_law_575 : decode cL_law 575 = .ok (.iload_n 3, 1) := by decide +kernel
theorem dL_law_576 : decode cL_law 576 = .ok (.iconst 1, 1) := by decide +kernel
theorem dL_law_577 : decode cL_law 577 = .ok (.iadd, 1) := by decide +kernel
theorem dL_law_578 : decode cL_law 578 = .ok (.iaload, 1) := by decide +kernel
theorem dL_law_579 : decode cL_law 579 = .ok (.aload_n 0, 1) := by decide +kernel
theorem dL_law_580 : decode cL_law 580 = .ok (.iload_n 3, 1) := by decide +kernel
theorem dL_law_581 : decode cL_law 581 = .ok (.iconst 2, 1) := by decide +kernel
theorem dL_law_582 : decode cL_law 582 = .ok (.iadd, 1) := by decide +kernel
theorem dL_law_583 : decode cL_law 583 = .ok (.iaload, 1) := by decide +kernel
theorem dL_law_584 : decode cL_law 584 = .ok (.aload_n 0, 1) := by decide +kernel
theorem dL_law_585 : decode cL_law 585 = .ok (.iload_n 3, 1) := by decide +kernel
theorem dL_law_586 : decode cL_law 586 = .ok (.iconst 3, 1) := by decide +kernel
theorem dL_law_587 : decode cL_law 587 = .ok (.iadd, 1) := by decide +kernel
theorem dL_law_588 : decode cL_law 588 = .ok (.iaload, 1) := by decide +kernel
theorem dL_law_589 : decode cL_law 589 = .ok (.aload_n 0, 1) := by decide +kernel
theorem dL_law_590 : decode cL_law 590 = .ok (.iload_n 3, 1) := by decide +kernel
theorem dL_law_591 : decode cL_law 591 = .ok (.iconst 4, 1) := by decide +kernel
theorem dL_law_592 : decode cL_law 592 = .ok (.iadd, 1) := by decide +kernel
theorem dL_law_593 : decode cL_law 593 = .ok (.iaload, 1) := by decide +kernel
theorem dL_law_594 : decode cL_law 594 = .ok (.invokevirtual 82, 3) := by decide +kernel
theorem dL_law_597 : decode cL_law 597 = .ok (.aload_n 2, 1) := by decide +kernel
theorem dL_law_598 : decode cL_law 598 = .ok (.aload_n 0, 1) := by decide +kernel
theorem dL_law_599 : decode cL_law 599 = .ok (.iload_n 3, 1) := by decide +kernel
theorem dL_law_600 : decode cL_law 600 = .ok (.iconst 1, 1) := by decide +kernel
theorem dL_law_601 : decode cL_law 601 = .ok (.iadd, 1) := by decide +kernel
theorem dL_law_602 : decode cL_law 602 = .ok (.iaload, 1) := by decide +kernel
theorem dL_law_603 : decode cL_law 603 = .ok (.aload_n 0, 1) := by decide +kernel
theorem dL_law_604 : decode cL_law 604 = .ok (.iload_n 3, 1) := by decide +kernel
theorem dL_law_605 : decode cL_law 605 = .ok (.iconst 2, 1) := by decide +kernel
theorem dL_law_606 : decode cL_law 606 = .ok (.iadd, 1) := by decide +kernel
theorem dL_law_607 : decode cL_law 607 = .ok (.iaload, 1) := by decide +kernel
theorem dL_law_608 : decode cL_law 608 = .ok (.aload_n 0, 1) := by decide +kernel
theorem dL_law_609 : decode cL_law 609 = .ok (.iload_n 3, 1) := by decide +kernel
theorem dL_law_610 : decode cL_law 610 = .ok (.iconst 3, 1) := by decide +kernel
theorem dL_law_611 : decode cL_law 611 = .ok (.iadd, 1) := by decide +kernel
theorem dL_law_612 : decode cL_law 612 = .ok (.iaload, 1) := by decide +kernel
theorem dL_law_613 : decode cL_law 613 = .ok (.aload_n 0, 1) := by decide +kernel
theorem dL_law_614 : decode cL_law 614 = .ok (.iload_n 3, 1) := by decide +kernel
theorem dL_law_615 : decode cL_law 615 = .ok (.iconst 4, 1) := by decide +kernel
theorem dL_law_616 : decode cL_law 616 = .ok (.iadd, 1) := by decide +kernel
theorem dL_law_617 : decode cL_law 617 = .ok (.iaload, 1) := by decide +kernel
theorem dL_law_618 : decode cL_law 618 = .ok (.invokevirtual 86, 3) := by decide +kernel
theorem dL_law_621 : decode cL_law 621 = .ok (.lcmp, 1) := by decide +kernel
theorem dL_law_622 : decode cL_law 622 = .ok (.ifCond .eq 62, 3) := by decide +kernel
theorem dL_law_625 : decode cL_law 625 = .ok (.iconst 0, 1) := by decide +kernel
theorem dL_law_626 : decode cL_law 626 = .ok (.ireturn, 1) := by decide +kernel
theorem dL_law_627 : decode cL_law 627 = .ok (.aload_n 1, 1) := by decide +kernel
theorem dL_law_628 : decode cL_law 628 = .ok (.aload_n 0, 1) := by decide +kernel
theorem dL_law_629 : decode cL_law 629 = .ok (.iload_n 3, 1) := by decide +kernel
theorem dL_law_630 : decode cL_law 630 = .ok (.iconst 1, 1) := by decide +kernel
theorem dL_law_631 : decode cL_law 631 = .ok (.iadd, 1) := by decide +kernel
theorem dL_law_632 : decode cL_law 632 = .ok (.iaload, 1) := by decide +kernel
theorem dL_law_633 : decode cL_law 633 = .ok (.aload_n 0, 1) := by decide +kernel
theorem dL_law_634 : decode cL_law 634 = .ok (.iload_n 3, 1) := by decide +kernel
theorem dL_law_635 : decode cL_law 635 = .ok (.iconst 2, 1) := by decide +kernel
theorem dL_law_636 : decode cL_law 636 = .ok (.iadd, 1) := by decide +kernel
theorem dL_law_637 : decode cL_law 637 = .ok (.iaload, 1) := by decide +kernel
theorem dL_law_638 : decode cL_law 638 = .ok (.invokevirtual 87, 3) := by decide +kernel
theorem dL_law_641 : decode cL_law 641 = .ok (.aload_n 2, 1) := by decide +kernel
theorem dL_law_642 : decode cL_law 642 = .ok (.aload_n 0, 1) := by decide +kernel
theorem dL_law_643 : decode cL_law 643 = .ok (.iload_n 3, 1) := by decide +kernel
theorem dL_law_644 : decode cL_law 644 = .ok (.iconst 1, 1) := by decide +kernel
theorem dL_law_645 : decode cL_law 645 = .ok (.iadd, 1) := by decide +kernel
theorem dL_law_646 : decode cL_law 646 = .ok (.iaload, 1) := by decide +kernel
theorem dL_law_647 : decode cL_law 647 = .ok (.aload_n 0, 1) := by decide +kernel
theorem dL_law_648 : decode cL_law 648 = .ok (.iload_n 3, 1) := by decide +kernel
theorem dL_law_649 : decode cL_law 649 = .ok (.iconst 2, 1) := by decide +kernel
theorem dL_law_650 : decode cL_law 650 = .ok (.iadd, 1) := by decide +kernel
theorem dL_law_651 : decode cL_law 651 = .ok (.iaload, 1) := by decide +kernel
theorem dL_law_652 : decode cL_law 652 = .ok (.invokevirtual 91, 3) := by decide +kernel
theorem dL_law_655 : decode cL_law 655 = .ok (.lcmp, 1) := by decide +kernel
theorem dL_law_656 : decode cL_law 656 = .ok (.ifCond .eq 28, 3) := by decide +kernel
theorem dL_law_659 : decode cL_law 659 = .ok (.iconst 0, 1) := by decide +kernel
theorem dL_law_660 : decode cL_law 660 = .ok (.ireturn, 1) := by decide +kernel
theorem dL_law_661 : decode cL_law 661 = .ok (.aload_n 1, 1) := by decide +kernel
theorem dL_law_662 : decode cL_law 662 = .ok (.aload_n 0, 1) := by decide +kernel
theorem dL_law_663 : decode cL_law 663 = .ok (.iload_n 3, 1) := by decide +kernel
theorem dL_law_664 : decode cL_law 664 = .ok (.iconst 1, 1) := by decide +kernel
theorem dL_law_665 : decode cL_law 665 = .ok (.iadd, 1) := by decide +kernel
theorem dL_law_666 : decode cL_law 666 = .ok (.iaload, 1) := by decide +kernel
theorem dL_law_667 : decode cL_law 667 = .ok (.invokevirtual 92, 3) := by decide +kernel
theorem dL_law_670 : decode cL_law 670 = .ok (.aload_n 2, 1) := by decide +kernel
theorem dL_law_671 : decode cL_law 671 = .ok (.aload_n 0, 1) := by decide +kernel
theorem dL_law_672 : decode cL_law 672 = .ok (.iload_n 3, 1) := by decide +kernel
theorem dL_law_673 : decode cL_law 673 = .ok (.iconst 1, 1) := by decide +kernel
theorem dL_law_674 : decode cL_law 674 = .ok (.iadd, 1) := by decide +kernel
theorem dL_law_675 : decode cL_law 675 = .ok (.iaload, 1) := by decide +kernel
theorem dL_law_676 : decode cL_law 676 = .ok (.invokevirtual 95, 3) := by decide +kernel
theorem dL_law_679 : decode cL_law 679 = .ok (.if_icmp .eq 5, 3) := by decide +kernel
theorem dL_law_682 : decode cL_law 682 = .ok (.iconst 0, 1) := by decide +kernel
theorem dL_law_683 : decode cL_law 683 = .ok (.ireturn, 1) := by decide +kernel
theorem dL_law_684 : decode cL_law 684 = .ok (.iinc 3 5, 3) := by decide +kernel
theorem dL_law_687 : decode cL_law 687 = .ok (.goto (-669), 3) := by decide +kernel
theorem dL_law_690 : decode cL_law 690 = .ok (.iconst 1, 1) := by decide +kernel
theorem dL_law_691 : decode cL_law 691 = .ok (.ireturn, 1) := by decide +kernel
abbrev vwCl : List vw_C := [(RX0, TX0, 2), (RX1, TX1, 4), (RX2, TX2, 1), (RX3, TX3, 12), (RX4, TX4, 12)]
end
section
/-! ===== own words: pure programs that the bytecode is tied to, and a call in one row ===== -/
/-- an index that is looked at -/
def fw_ck {α : Type} (i : Int32) (n : Nat) (k : Option α) : Option α := if 0 ≤ i.toInt ∧ i.toInt < (n : Int) then k else none
theorem fw_ck_s {α : Type} {i : Int32} {n : Nat} {k : Option α} {z : α} (h : fw_ck i n k = some z) : vp_in i n ∧ k = some z := by
  unfold fw_ck at h
  split at h
  · next h1 => exact ⟨vp_in_iff.mpr h1, h⟩
  · cases h
/-- a divisor that is looked at -/
def fw_cz {α : Type} (y : Int32) (k : Option α) : Option α := if y = 0 then none else k
theorem fw_cz_s {α : Type} {y : Int32} {k : Option α} {z : α} (h : fw_cz y k = some z) : ¬ y = 0 ∧ k = some z := by
  unfold fw_cz at h
  split at h
  · cases h
  · next h1 => exact ⟨h1, h⟩
def fw_czl {α : Type} (y : Int64) (k : Option α) : Option α := if y = 0 then none else k
theorem fw_czl_s {α : Type} {y : Int64} {k : Option α} {z : α} (h : fw_czl y k = some z) : ¬ y = 0 ∧ k = some z := by
  unfold fw_czl at h
  split at h
  · cases h
  · next h1 => exact ⟨h1, h⟩
theorem fw_it {α : Type} {c : Prop} [Decidable c] {a b : Option α} {z : α} (hc : c) (h : (if c then a else b) = some z) : a = some z := by
  rwa [if_pos hc] at h
theorem fw_if {α : Type} {c : Prop} [Decidable c] {a b : Option α} {z : α} (hc : ¬ c) (h : (if c then a else b) = some z) : b = some z := by
  rwa [if_neg hc] at h
theorem fw_be {α β : Type} {x : Option α} {k : α → Option β} {z : β} (h : x.bind k = some z) : ∃ a, x = some a := by
  cases x with
  | none => cases h
  | some a => exact ⟨a, rfl⟩
theorem fw_bs {α β : Type} {x : Option α} {a : α} {k : α → Option β} {z : β} (h : x = some a) (hq : x.bind k = some z) : k a = some z := by
  subst h
  exact hq
theorem fw_bb {α β : Type} {x : Option α} {k : α → Option β} {z : β} (h : x.bind k = some z) : ∃ a, x = some a ∧ k a = some z := by
  cases x with
  | none => cases h
  | some a => exact ⟨a, rfl, h⟩
/-- a loop with fuel: the body goes on (inl) or leaves (inr) -/
def fw_wh {V E : Type} (f : V → Option (V ⊕ E)) : Nat → V → Option E
  | 0, _ => none
  | n + 1, v => match f v with
    | none => none
    | some (.inl v') => fw_wh f n v'
    | some (.inr e) => some e
theorem fw_wh0 {V E : Type} {f : V → Option (V ⊕ E)} {v : V} {e : E} (h : fw_wh f 0 v = some e) : False := by
  cases h
theorem fw_wh1 {V E : Type} {f : V → Option (V ⊕ E)} {n : Nat} {v : V} {e : E} (h : fw_wh f (n + 1) v = some e) : ∃ w, f v = some w ∧ (∀ v', w = .inl v' → fw_wh f n v' = some e) ∧ (∀ e', w = .inr e' → e = e') := by
  unfold fw_wh at h
  cases hf : f v with
  | none => rw [hf] at h; cases h
  | some w =>
    rw [hf] at h
    refine ⟨w, rfl, fun v' hv => ?_, fun e' he => ?_⟩
    · subst hv; exact h
    · subst he; exact (Option.some.inj h).symm
/-- the fuel of every loop: more than any can need -/
def fw_N : Nat := 5000
theorem fw_out {x : Int32} {k : Int} (h : ¬ (0 ≤ x.toInt ∧ x.toInt ≤ k)) : x.toInt < 0 ∨ k < x.toInt := by omega
theorem fw_tn {x : Int32} {k : Int32} (h : ¬ x = k) : x.toInt ≠ k.toInt := fun e => h (Int32.toInt_inj.mp e)
theorem fw_out4 {x : Int32} (h0 : ¬ x = 0) (h1 : ¬ x = 1) (h2 : ¬ x = 2) (h3 : ¬ x = 3) (h4 : ¬ x = 4) : x.toInt < 0 ∨ (4 : Int) < x.toInt := by
  have a0 : x.toInt ≠ 0 := fw_tn h0
  have a1 : x.toInt ≠ 1 := fw_tn h1
  have a2 : x.toInt ≠ 2 := fw_tn h2
  have a3 : x.toInt ≠ 3 := fw_tn h3
  have a4 : x.toInt ≠ 4 := fw_tn h4
  omega
/-! the one word of a nest mate's method -/
abbrev fw_nest : Cond := .methodLinkNest RX1 46 yX3_isIn "FewLines"
abbrev fw_tys (cI cJ : ClassId) : List (ClassId × FieldType) := [(cI, .int), (cJ, .long)]
/-- a contract's start: the arguments, the cells, the tables -/
def fw_Pc (D : va_G) (tys : List (ClassId × FieldType)) (ws : va_W) (av : List Value) (sz : Nat) : Array Value → State → Prop := va_Pc av (fun U => U.heap.size = sz ∧ va_P D vwCl ws U.heap ∧ va_K D vwCl tys U ∧ va_D (fun _ => True) ws ∧ va_Nw fw_nest U)
/-- a contract's end: the cells -/
def fw_B (D : va_G) (A : Nat → Prop) (ws : va_W) (t : State) : Prop := va_P D vwCl ws t.heap ∧ va_D A ws
theorem fw_blind {D : va_G} {tys : List (ClassId × FieldType)} {ws : va_W} {av : List Value} {sz : Nat} : FrameBlind (fw_Pc D tys ws av sz) := fun a U g mk q => by
  obtain ⟨q0, q1, qP, qK, qD, qN⟩ := q
  exact ⟨q0, q1, qP, va_K.moved (u := U) (U := U.calling g mk a) (Vm.Alike.refl U.vm) qK, qD, va_Nw.same (u := U) rfl rfl qN⟩
theorem fw_pre {D : va_G} {tys : List (ClassId × FieldType)} {ws : va_W} {av : List Value} {A : Nat → Prop} {s U : State} {H : Heap} (hP : va_P D vwCl ws H) (hK : va_K D vwCl tys s) (hD : va_D A ws) (hN : va_Nw fw_nest s) (hU : U.heap = H) (hW : s.WarmedH U.vm) : fw_Pc D tys ws av H.size av.toArray U :=
  ⟨rfl, by rw [hU], by rw [hU]; exact hP, va_K.moved hW.alike hK, hD.weaken (fun _ _ _ _ => trivial), va_Nw.warmM hW hN⟩
theorem fw_fm {α : Type} {l : List Nat} {g : Nat → Option α} {r : List α} (h : l.map g = r.map some) : l.filterMap g = r := by
  induction l generalizing r with
  | nil => cases r with
    | nil => rfl
    | cons a r => cases h
  | cons x l ih => cases r with
    | nil => cases h
    | cons a r =>
      rw [List.map_cons, List.map_cons] at h
      obtain ⟨h1, h2⟩ := List.cons.inj h
      rw [List.filterMap_cons_some h1, ih h2]
section FWC
variable {p : Program} {l : Launch} {e : Env} {R : Room} {s : State} {m : MethodId} {args : Array Value} {below : List Frame} {meth : Method} {c : Code} {H : Heap} {locs : List Loc} {cells slots : Nat} {Q : State → Prop} {pc : Nat} {ls : Array Slot} {rest st0 : List Value} {A : Nat → Prop} {D : va_G} {ws0 wc wr : va_W} {a : Array Value}
/-- behind a call: the world again, in its own order -/
theorem fw_back {H1 : Heap} {w1 w2 : va_W} (hP : va_P D vwCl ws0 H) (hD : va_D A ws0) (hF : ∀ q, va_A wc H.size q → A q) (isC isR is2 : List Nat) (hC : isC.map (fun i => ws0[i]?) = wc.map some) (hR : isR.map (fun i => ws0[i]?) = wr.map some) (hn : va_nd isR = true) (hdis : ∀ i ∈ isR, i ∉ isC) (hn2 : va_nd is2 = true) (h2 : is2.map (fun i => (wr ++ w1)[i]?) = w2.map some)
    (hk : ∀ q : Nat, q < H.size → ¬ va_A wc H.size q → H1[q]? = H[q]?) (hP1 : va_P D vwCl w1 H1) (hD1 : va_D (va_A wc H.size) w1) : va_P D vwCl w2 H1 ∧ va_D A w2 := by
  obtain ⟨x, y⟩ := va_join (wr := wr) (w1 := w1) hP hD isC isR hC hR hn hdis hk hF hP1 hD1
  exact ⟨x.sub is2 (fw_fm h2), y.sub is2 hn2 h2⟩
theorem fw_ci {S : Type} {post : Int32 → S → Prop} {w1 w2 : S → va_W} (isC isR is2 : List Nat) (hr : va_Run p l e R s m args below meth c H locs cells slots 0 0 (F0 m pc ls st0) rest (va_Qi post (fun u t => fw_B D (va_A wc H.size) (w1 u) t) (va_A wc H.size) a) (va_A wc H.size))
    (hP : va_P D vwCl ws0 H) (hD : va_D A ws0) (hS : va_S A s.heap H locs) (hA : ∀ q, s.heap.size ≤ q → A q) (hC : isC.map (fun i => ws0[i]?) = wc.map some) (hR : isR.map (fun i => ws0[i]?) = wr.map some) (hn : va_nd isR = true) (hdis : ∀ i ∈ isR, i ∉ isC) (hn2 : va_nd is2 = true) (h2 : ∀ u, is2.map (fun i => (wr ++ w1 u)[i]?) = (w2 u).map some)
    (kk : ∀ (r : Int32) (u : S) (H1 : Heap) (locs1 : List Loc), post r u → va_P D vwCl (w2 u) H1 → va_D A (w2 u) → va_S A s.heap H1 locs1 → W p l e R s m args below meth c H1 locs1 cells slots Q (F0 m (pc + 3) ls (.int r :: rest))) : W p l e R s m args below meth c H locs cells slots Q (F0 m pc ls st0) := by
  have hF := va_free (wc := wc) hD hS hA isC hC
  refine va_calli hr hS (fun q _ h => hF q h) hF (fun r u t H1 locs1 ht hvm hw hB hz1 hk1 hS1 => ?_)
  obtain ⟨hP1, hD1⟩ := hB
  rw [ht] at hP1
  obtain ⟨x, y⟩ := fw_back (w2 := w2 u) hP hD hF isC isR is2 hC hR hn hdis hn2 (h2 u) hk1 hP1 hD1
  exact kk r u H1 locs1 hw x y hS1
theorem fw_cl {S : Type} {post : Int64 → S → Prop} {w1 w2 : S → va_W} (isC isR is2 : List Nat) (hr : va_Run p l e R s m args below meth c H locs cells slots 0 0 (F0 m pc ls st0) rest (va_Ql post (fun u t => fw_B D (va_A wc H.size) (w1 u) t) (va_A wc H.size) a) (va_A wc H.size))
    (hP : va_P D vwCl ws0 H) (hD : va_D A ws0) (hS : va_S A s.heap H locs) (hA : ∀ q, s.heap.size ≤ q → A q) (hC : isC.map (fun i => ws0[i]?) = wc.map some) (hR : isR.map (fun i => ws0[i]?) = wr.map some) (hn : va_nd isR = true) (hdis : ∀ i ∈ isR, i ∉ isC) (hn2 : va_nd is2 = true) (h2 : ∀ u, is2.map (fun i => (wr ++ w1 u)[i]?) = (w2 u).map some)
    (kk : ∀ (r : Int64) (u : S) (H1 : Heap) (locs1 : List Loc), post r u → va_P D vwCl (w2 u) H1 → va_D A (w2 u) → va_S A s.heap H1 locs1 → W p l e R s m args below meth c H1 locs1 cells slots Q (F0 m (pc + 3) ls (.long r :: rest))) : W p l e R s m args below meth c H locs cells slots Q (F0 m pc ls st0) := by
  have hF := va_free (wc := wc) hD hS hA isC hC
  refine va_calll hr hS (fun q _ h => hF q h) hF (fun r u t H1 locs1 ht hvm hw hB hz1 hk1 hS1 => ?_)
  obtain ⟨hP1, hD1⟩ := hB
  rw [ht] at hP1
  obtain ⟨x, y⟩ := fw_back (w2 := w2 u) hP hD hF isC isR is2 hC hR hn hdis hn2 (h2 u) hk1 hP1 hD1
  exact kk r u H1 locs1 hw x y hS1
theorem fw_cv {S : Type} {post : S → Prop} {w1 w2 : S → va_W} (isC isR is2 : List Nat) (hr : va_Run p l e R s m args below meth c H locs cells slots 0 0 (F0 m pc ls st0) rest (va_Qv post (fun u t => fw_B D (va_A wc H.size) (w1 u) t) (va_A wc H.size) a) (va_A wc H.size))
    (hP : va_P D vwCl ws0 H) (hD : va_D A ws0) (hS : va_S A s.heap H locs) (hA : ∀ q, s.heap.size ≤ q → A q) (hC : isC.map (fun i => ws0[i]?) = wc.map some) (hR : isR.map (fun i => ws0[i]?) = wr.map some) (hn : va_nd isR = true) (hdis : ∀ i ∈ isR, i ∉ isC) (hn2 : va_nd is2 = true) (h2 : ∀ u, is2.map (fun i => (wr ++ w1 u)[i]?) = (w2 u).map some)
    (kk : ∀ (u : S) (H1 : Heap) (locs1 : List Loc), post u → va_P D vwCl (w2 u) H1 → va_D A (w2 u) → va_S A s.heap H1 locs1 → W p l e R s m args below meth c H1 locs1 cells slots Q (F0 m (pc + 3) ls rest)) : W p l e R s m args below meth c H locs cells slots Q (F0 m pc ls st0) := by
  have hF := va_free (wc := wc) hD hS hA isC hC
  refine va_callv hr hS (fun q _ h => hF q h) hF (fun u t H1 locs1 ht hvm hw hB hz1 hk1 hS1 => ?_)
  obtain ⟨hP1, hD1⟩ := hB
  rw [ht] at hP1
  obtain ⟨x, y⟩ := fw_back (w2 := w2 u) hP hD hF isC isR is2 hC hR hn hdis hn2 (h2 u) hk1 hP1 hD1
  exact kk u H1 locs1 hw x y hS1
theorem fw_cr {S : Type} {ra : Nat} {post : S → Prop} {w1 w2 : S → va_W} (isC isR is2 : List Nat) (hr : va_Run p l e R s m args below meth c H locs cells slots 0 0 (F0 m pc ls st0) rest (va_Qr post (fun u x t => x = ra ∧ fw_B D (va_A wc H.size) (w1 u) t) (va_A wc H.size) a) (va_A wc H.size))
    (hP : va_P D vwCl ws0 H) (hD : va_D A ws0) (hS : va_S A s.heap H locs) (hA : ∀ q, s.heap.size ≤ q → A q) (hC : isC.map (fun i => ws0[i]?) = wc.map some) (hR : isR.map (fun i => ws0[i]?) = wr.map some) (hn : va_nd isR = true) (hdis : ∀ i ∈ isR, i ∉ isC) (hn2 : va_nd is2 = true) (h2 : ∀ u, is2.map (fun i => (wr ++ w1 u)[i]?) = (w2 u).map some)
    (kk : ∀ (u : S) (H1 : Heap) (locs1 : List Loc), post u → va_P D vwCl (w2 u) H1 → va_D A (w2 u) → va_S A s.heap H1 locs1 → W p l e R s m args below meth c H1 locs1 cells slots Q (F0 m (pc + 3) ls (.ref ra :: rest))) : W p l e R s m args below meth c H locs cells slots Q (F0 m pc ls st0) := by
  have hF := va_free (wc := wc) hD hS hA isC hC
  refine va_callr hr hS (fun q _ h => hF q h) hF (fun u x t H1 locs1 ht hvm hw hB hz1 hk1 hS1 => ?_)
  obtain ⟨rfl, hP1, hD1⟩ := hB
  rw [ht] at hP1
  obtain ⟨x, y⟩ := fw_back (w2 := w2 u) hP hD hF isC isR is2 hC hR hn hdis hn2 (h2 u) hk1 hP1 hD1
  exact kk u H1 locs1 hw x y hS1
end FWC
end
