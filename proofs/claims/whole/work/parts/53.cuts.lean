/-! ===== bits, sums, cuts: count, cut, worst, promise ===== -/
theorem n_sl : ∀ n, n < 32 → ((nI n &&& 31).toBitVec.smod 32).toNat = n := by decide +kernel
theorem n_and (a b : Nat) : nI a &&& nI b = nI (a &&& b) := by
  apply Int32.toBitVec_inj.1
  show BitVec.ofNat 32 a &&& BitVec.ofNat 32 b = BitVec.ofNat 32 (a &&& b)
  apply BitVec.eq_of_getLsbD_eq
  intro i hi
  simp [hi]
theorem n_or (a b : Nat) : nI a ||| nI b = nI (a ||| b) := by
  apply Int32.toBitVec_inj.1
  show BitVec.ofNat 32 a ||| BitVec.ofNat 32 b = BitVec.ofNat 32 (a ||| b)
  apply BitVec.eq_of_getLsbD_eq
  intro i hi
  simp [hi]
theorem n_shl {j : Nat} (hj : j < 31) : (1 : Int32) <<< (nI j &&& 31) = nI (2 ^ j) := by
  have h2 : (2 : Nat) ^ j < 2 ^ 31 := Nat.pow_lt_pow_right (by decide) hj
  have h := pk_shlN (n := 1) (nI j &&& 31) j (n_sl j (by omega)) (by omega)
  rw [Nat.one_mul] at h
  exact h
theorem n_bit {S j : Nat} (hS : S < 2 ^ 31) (hj : j < 31) : ((nI S >>> (nI j &&& 31)) &&& (1 : Int32)) = bb (S.testBit j) := by
  rw [pk_shrN hS (nI j &&& 31) j (n_sl j (by omega)), l_1, n_and, Nat.and_one_is_mod, Nat.testBit_eq_decide_div_mod_eq]
  rcases Nat.mod_two_eq_zero_or_one (S / 2 ^ j) with h | h <;> rw [h] <;> rfl
theorem bb_eq {p q : Bool} : (bb p = bb q) = (p = q) := by cases p <;> cases q <;> simp [bb]
theorem bb_1 {p : Bool} : (bb p = 1) = (p = true) := by cases p <;> simp [bb]
theorem pX3_isIn_eq {S j : Nat} (hS : S < 2 ^ 31) (hj : j < 31) : pX3_isIn (nI S) (nI j) = some (bb (S.testBit j)) := by
  unfold pX3_isIn
  rw [n_bit hS hj]
  cases S.testBit j <;> simp [bb]
/-- the sum of the first m -/
def nsum (f : Nat → Nat) : Nat → Nat
  | 0 => 0
  | j + 1 => nsum f j + f j
theorem nsum_le {f : Nat → Nat} {c m : Nat} (h : ∀ j, j < m → f j ≤ c) : nsum f m ≤ c * m := by
  induction m with
  | zero => simp [nsum]
  | succ m ih =>
    have h1 := ih (fun j hj => h j (by omega))
    have h2 := h m (by omega)
    show nsum f m + f m ≤ c * (m + 1)
    rw [Nat.mul_succ]
    omega
theorem nsum_congr {f g : Nat → Nat} {m : Nat} (h : ∀ j, j < m → f j = g j) : nsum f m = nsum g m := by
  induction m with
  | zero => rfl
  | succ m ih =>
    show nsum f m + f m = nsum g m + g m
    rw [ih (fun j hj => h j (by omega)), h m (by omega)]
/-- the weights of a way -/
def nt_wy (w k : Nat → Nat) (way : Int32) : Nat → Nat := fun j => if way = 0 then w j else k j
/-- the cut of a side -/
def nt_cut (A B g : Nat → Nat) (m S : Nat) : Nat := nsum (fun j => if S.testBit (A j) = S.testBit (B j) then 0 else g j) m
section CUT
variable {n m : Nat} {A B w k : Nat → Nat}
theorem nt_wy_le (hok : nt_ok n m A B w k) (way : Int32) {j : Nat} (hj : j < m) : nt_wy w k way j ≤ 60 := by
  unfold nt_wy
  obtain ⟨x1, x2, x3, x4, x5⟩ := hok.2 j hj
  split <;> omega
theorem nt_cut_le (hok : nt_ok n m A B w k) (way : Int32) (S : Nat) : nt_cut A B (nt_wy w k way) m S ≤ 720 := by
  unfold nt_cut
  have h := nsum_le (f := fun j => if S.testBit (A j) = S.testBit (B j) then 0 else nt_wy w k way j) (c := 60) (m := m) (fun j hj => by
    have h1 := nt_wy_le hok way hj
    show (if _ then 0 else _) ≤ 60
    split <;> omega)
  have := hok.1
  omega
theorem pX3_weightIn_eq {nc lc : Int32} {le ge wt kp : Nat → Int32} (hok : nt_ok n m A B w k) (hX : nt_X n m A B w k nc lc le ge wt kp) (way : Int32) {j : Nat} (hj : j < m) : pX3_weightIn wt kp (nI j) way = some (nI (nt_wy w k way j)) := by
  have h12 := hok.1.2.2
  unfold pX3_weightIn nt_wy
  rw [n_ck (show j < 12 by omega) (by omega), n_ck (show j < 12 by omega) (by omega), n_cl (by omega)]
  obtain ⟨x1, x2, x3, x4⟩ := hX.2.2 j hj
  rw [x3, x4]
  split <;> rfl
theorem pX3_weightAcross_eq {nc lc : Int32} {le ge wt kp : Nat → Int32} (hok : nt_ok n m A B w k) (hX : nt_X n m A B w k nc lc le ge wt kp) (way : Int32) {S : Nat} (hS : S < 2 ^ 31) : pX3_weightAcross lc le ge wt kp (nI S) way = some (nI (nt_cut A B (nt_wy w k way) m S)) := by
  have h12 := hok.1.2.2
  have hlc := hX.2.1
  subst hlc
  unfold pX3_weightAcross
  have h := fw_from (f := pX3_weightAcross_5 (nI S) way (nI m) le ge wt kp) (e := (nI (nt_cut A B (nt_wy w k way) m S), nI m)) 0 m (fun i => (nI (nt_cut A B (nt_wy w k way) i S), nI i)) (by omega) (by omega) (fun j _ hj => by
    obtain ⟨x1, x2, x3, x4⟩ := hX.2.2 j hj
    obtain ⟨y1, y2, y3, y4, y5⟩ := hok.2 j hj
    have h7 := hok.1.2.1
    show (if nI m ≤ nI j then _ else _) = _
    rw [if_neg (nI_ge hj (by omega)), n_ck (show j < 12 by omega) (by omega), n_cl (by omega), x1, x2, pX3_isIn_eq hS (show A j < 31 by omega), fw_ob, n_ck (show j < 12 by omega) (by omega), pX3_isIn_eq hS (show B j < 31 by omega), fw_ob, pX3_weightIn_eq hok hX way hj, fw_ob, nI_1, nI_add]
    simp only [bb_eq]
    show _ = some (Sum.inl (nI (nt_cut A B (nt_wy w k way) j S + if S.testBit (A j) = S.testBit (B j) then 0 else nt_wy w k way j), nI (j + 1)))
    split <;> simp) (by
    show (if nI m ≤ nI m then _ else _) = _
    rw [if_pos (nI_le (Nat.le_refl _) (by omega))])
  rw [show ((0 : Int32), (0 : Int32)) = (nI (nt_cut A B (nt_wy w k way) 0 S), nI 0) from rfl, h]
  rfl
theorem pX4_cutOf_eq {nc lc : Int32} {le ge wt kp : Nat → Int32} (hok : nt_ok n m A B w k) (hX : nt_X n m A B w k nc lc le ge wt kp) (way : Int32) {S : Nat} (hS : S < 2 ^ 31) : pX4_cutOf lc le ge wt kp (nI S) way = some (nI (nt_cut A B (nt_wy w k way) m S)) := by
  have h12 := hok.1.2.2
  have hlc := hX.2.1
  subst hlc
  unfold pX4_cutOf
  have h := fw_from (f := pX4_cutOf_5 (nI S) way (nI m) le ge wt kp) (e := (nI (nt_cut A B (nt_wy w k way) m S), nI m)) 0 m (fun i => (nI (nt_cut A B (nt_wy w k way) i S), nI i)) (by omega) (by omega) (fun j _ hj => by
    obtain ⟨x1, x2, x3, x4⟩ := hX.2.2 j hj
    obtain ⟨y1, y2, y3, y4, y5⟩ := hok.2 j hj
    have h7 := hok.1.2.1
    show (if nI m ≤ nI j then _ else _) = _
    rw [if_neg (nI_ge hj (by omega))]
    simp only [n_ck (show j < 12 by omega) (show 12 < 2 ^ 31 by omega), n_cl (show j < 2 ^ 31 by omega), x1, x2, x3, x4, n_bit hS (show A j < 31 by omega), n_bit hS (show B j < 31 by omega), bb_eq, nI_1, nI_add, if_pos, show ¬ (1 : Int32) = 0 by decide, if_false]
    show _ = some (Sum.inl (nI (nt_cut A B (nt_wy w k way) j S + if S.testBit (A j) = S.testBit (B j) then 0 else nt_wy w k way j), nI (j + 1)))
    unfold nt_wy
    by_cases e : S.testBit (A j) = S.testBit (B j)
    · simp only [e, if_pos, Nat.add_zero]
      show some (Sum.inl (nI _ + nI 0, _)) = _
      rw [nI_add, Nat.add_zero]
    · simp only [e, if_false]
      split <;> rfl) (by
    show (if nI m ≤ nI m then _ else _) = _
    rw [if_pos (nI_le (Nat.le_refl _) (by omega))])
  rw [show ((0 : Int32), (0 : Int32)) = (nI (nt_cut A B (nt_wy w k way) 0 S), nI 0) from rfl, h]
  rfl
end CUT
theorem n_pow {n : Nat} (h : n ≤ 7) : 2 ^ n ≤ 128 := Nat.pow_le_pow_right (by omega) h
theorem pX3_isSide_eq {n : Nat} (h2 : 2 ≤ n) (h7 : n ≤ 7) (x : Int32) : pX3_isSide (nI n) x = some (bb (decide (0 < x.toInt ∧ x.toInt < 2 ^ n - 1 ∧ x.toInt % 2 = 1))) := by
  have hp := n_pow h7
  have hp1 : 4 ≤ 2 ^ n := Nat.pow_le_pow_right (show 0 < 2 by omega) h2
  have e0 : (0 : Int32).toInt = 0 := rfl
  have e1 : (nI (2 ^ n) - 1).toInt = ((2 ^ n : Nat) : Int) - 1 := pk_sub_toInt (a := 2 ^ n) (b := 1) (by omega) (by omega)
  have ec : ((2 ^ n : Nat) : Int) = (2 : Int) ^ n := by simp
  unfold pX3_isSide pX3_allNodes
  rw [n_shl (by omega), fw_ob]
  by_cases h1 : x ≤ 0
  · rw [if_pos h1]
    rw [Int32.le_iff_toInt_le, e0] at h1
    rw [decide_eq_false (by omega)]; rfl
  · rw [if_neg h1]
    rw [Int32.le_iff_toInt_le, e0] at h1
    by_cases h3 : nI (2 ^ n) - 1 ≤ x
    · rw [if_pos h3]
      rw [Int32.le_iff_toInt_le, e1, ec] at h3
      rw [decide_eq_false (by omega)]; rfl
    · rw [if_neg h3]
      rw [Int32.le_iff_toInt_le, e1, ec] at h3
      obtain ⟨s, hs, rfl⟩ := n_idx (x := x) (m := 2 ^ n) (by omega) (by omega)
      rw [nI_toInt (by omega)] at h1 h3 ⊢
      rw [l_1, n_and, Nat.and_one_is_mod]
      by_cases h4 : s % 2 = 1
      · rw [h4, if_pos rfl, decide_eq_true (by omega)]; rfl
      · rw [show s % 2 = 0 by omega, if_neg (by decide), decide_eq_false (by omega)]; rfl
theorem pX4_isSide_eq {n : Nat} (h2 : 2 ≤ n) (h7 : n ≤ 7) (x : Int32) : pX4_isSide (nI n) x = some (bb (decide (0 < x.toInt ∧ x.toInt < 2 ^ n - 1 ∧ x.toInt % 2 = 1))) := by
  have hp := n_pow h7
  have hp1 : 4 ≤ 2 ^ n := Nat.pow_le_pow_right (show 0 < 2 by omega) h2
  have e0 : (1 : Int32).toInt = 1 := rfl
  have e1 : (nI (2 ^ n) - 2).toInt = ((2 ^ n : Nat) : Int) - 2 := pk_sub_toInt (a := 2 ^ n) (b := 2) (by omega) (by omega)
  have ec : ((2 ^ n : Nat) : Int) = (2 : Int) ^ n := by simp
  unfold pX4_isSide
  rw [n_shl (by omega), pX4_in_eq, fw_ob]
  by_cases h1 : ¬ x < 1 ∧ ¬ nI (2 ^ n) - 2 < x
  · rw [decide_eq_true h1, if_neg (by decide)]
    rw [Int32.lt_iff_toInt_lt, Int32.lt_iff_toInt_lt, e0, e1, ec] at h1
    obtain ⟨s, hs, rfl⟩ := n_idx (x := x) (m := 2 ^ n) (by omega) (by omega)
    rw [nI_toInt (by omega)] at h1 ⊢
    unfold fw_cz
    rw [if_neg (by decide), l_2, pk_rem (by omega) (by omega) (by omega)]
    by_cases h4 : s % 2 = 1
    · rw [h4, if_pos (show nI 1 = 1 from rfl), decide_eq_true (by omega)]; rfl
    · rw [show s % 2 = 0 by omega, if_neg (by decide), decide_eq_false (by omega)]; rfl
  · rw [decide_eq_false h1, if_pos (show bb false = 0 from rfl)]
    rw [Int32.lt_iff_toInt_lt, Int32.lt_iff_toInt_lt, e0, e1, ec] at h1
    rw [decide_eq_false (by omega)]; rfl
theorem st_cut (nc : Int32) (lc : Int32) (le : Nat → Int32) (ge : Nat → Int32) (wt : Nat → Int32) (kp : Nat → Int32) (fs : Nat → Int32) (nn : Int32) (ln : Int32) (sa : Nat → Int32) (sb : Nat → Int32) (wg : Nat → Int32) (kt : Nat → Int32) (h : fw_R nc lc le ge wt kp fs nn ln sa sb wg kt) (a1 : Int32) (a2 : Int32) : ∃ (r : Int32), pX3_cut nc lc le ge wt kp a1 a2 = some r ∧ pX4_cut nn ln sa sb wg kt a1 a2 = some r ∧ fw_R nc lc le ge wt kp fs nn ln sa sb wg kt := by
  have h0 := h
  obtain ⟨n, m, A, B, w, k, hok, hX, hM, hC⟩ := h
  obtain ⟨⟨h2, h7, h12⟩, hj⟩ := id hok
  have hp := n_pow h7
  have ec : ((2 ^ n : Nat) : Int) = (2 : Int) ^ n := by simp
  have e1 := hX.1
  have e2 := hM.1
  subst e1
  subst e2
  unfold pX3_cut pX4_cut
  simp only [pX3_isSide_eq h2 h7, pX4_isSide_eq h2 h7, pX3_isWay_eq, pX4_in_eq, fw_ob, bb_0, decide_eq_false_iff_not]
  by_cases c : 0 < a1.toInt ∧ a1.toInt < 2 ^ n - 1 ∧ a1.toInt % 2 = 1
  · rw [if_neg (not_not_intro c), if_neg (not_not_intro c)]
    by_cases c2 : ¬ a2 < 0 ∧ ¬ 1 < a2
    · rw [if_neg (not_not_intro c2), if_neg (not_not_intro c2)]
      obtain ⟨s, hs, rfl⟩ := n_idx (x := a1) (m := 2 ^ n) (by omega) (by omega)
      rw [pX3_weightAcross_eq hok hX a2 (by omega), pX4_cutOf_eq hok hM a2 (by omega)]
      exact ⟨_, rfl, rfl, h0⟩
    · rw [if_pos c2, if_pos c2]
      exact ⟨_, rfl, rfl, h0⟩
  · rw [if_pos c, if_pos c]
    exact ⟨_, rfl, rfl, h0⟩
