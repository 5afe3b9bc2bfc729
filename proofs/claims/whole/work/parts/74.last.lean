/-! ===== the three calls ===== -/
theorem st_trees (nc : Int32) (lc : Int32) (le : Nat → Int32) (ge : Nat → Int32) (wt : Nat → Int32) (kp : Nat → Int32) (fs : Nat → Int32) (nn : Int32) (ln : Int32) (sa : Nat → Int32) (sb : Nat → Int32) (wg : Nat → Int32) (kt : Nat → Int32) (h : fw_R nc lc le ge wt kp fs nn ln sa sb wg kt) (mx : Nat → Int64) (ch : Nat → Int32) (mo : Nat → Int64) (ms : Int32) (pt : Nat → Int32) (a1 : Int32) : ∃ (r : Int64) (mx' : Nat → Int64) (ch' : Nat → Int32) (mo' : Nat → Int64) (ms' : Int32) (pt' : Nat → Int32), pX3_trees nc lc le ge wt kp mx ch mo ms a1 = some (r, mx', ch', mo', ms') ∧ pX4_trees nn ln sa sb wg kt pt a1 = some (r, pt') ∧ fw_R nc lc le ge wt kp fs nn ln sa sb wg kt := by
  obtain ⟨n, m, A, B, w, k, hok, hX, hM, hC⟩ := id h
  obtain ⟨⟨h2, h7, h12⟩, hj⟩ := id hok
  unfold pX3_trees pX4_trees
  rw [pX3_isWay_eq, pX4_in_eq, fw_ob, fw_ob]
  simp only [bb_0]
  by_cases c1 : decide (¬ a1 < 0 ∧ ¬ 1 < a1) = false
  · rw [if_pos c1, if_pos c1]
    exact ⟨_, _, _, _, _, _, rfl, rfl, h⟩
  · rw [if_neg c1, if_neg c1]
    obtain ⟨mx', ch', mo', ms', q⟩ := pX3_treeProducts_eq hok hX mx ch mo a1
    obtain ⟨pt', p⟩ := pX4_products_eq hok hM pt a1 (a := 0) (b := 0) (by omega) (by omega)
    obtain ⟨rfl, rfl, hx⟩ := id hM
    have e1 : nI n - (1 : Int32) = nI (n - fm_nr 0 0) := pk_sub (a := n) (b := 1) (by omega)
    rw [q, fw_ob, e1, l_0, p, fw_ob]
    exact ⟨_, _, _, _, _, _, rfl, rfl, h⟩
theorem st_resistance (nc : Int32) (lc : Int32) (le : Nat → Int32) (ge : Nat → Int32) (wt : Nat → Int32) (kp : Nat → Int32) (fs : Nat → Int32) (nn : Int32) (ln : Int32) (sa : Nat → Int32) (sb : Nat → Int32) (wg : Nat → Int32) (kt : Nat → Int32) (h : fw_R nc lc le ge wt kp fs nn ln sa sb wg kt) (mx : Nat → Int64) (ch : Nat → Int32) (mo : Nat → Int64) (ms : Int32) (pt : Nat → Int32) (up : Int64) (lo : Int64) (a1 : Int32) (a2 : Int32) (a3 : Int32) (a4 : Int32) : ∃ (r : Int64) (mx' : Nat → Int64) (ch' : Nat → Int32) (mo' : Nat → Int64) (ms' : Int32) (pt' : Nat → Int32) (up' : Int64) (lo' : Int64), pX3_resistance nc lc le ge wt kp mx ch mo ms a1 a2 a3 a4 = some (r, mx', ch', mo', ms') ∧ pX4_resistance nn ln sa sb wg kt pt up lo a1 a2 a3 a4 = some (r, pt', up', lo') ∧ fw_R nc lc le ge wt kp fs nn ln sa sb wg kt := by
  obtain ⟨n, m, A, B, w, k, hok, hX, hM, hC⟩ := id h
  obtain ⟨⟨h2, h7, h12⟩, hj⟩ := id hok
  obtain ⟨rfl, hX'⟩ := id hX
  obtain ⟨rfl, hM'⟩ := id hM
  unfold pX3_resistance pX4_resistance
  rw [pX3_isNode_eq (show n < 2 ^ 31 by omega), pX4_isNode_eq (show n < 2 ^ 30 by omega), fw_ob, fw_ob]
  simp only [bb_0]
  by_cases c1 : decide (0 ≤ a1.toInt ∧ a1.toInt < n) = false
  · rw [if_pos c1, if_pos c1]
    exact ⟨_, _, _, _, _, _, _, _, rfl, rfl, h⟩
  · rw [if_neg c1, if_neg c1, pX3_isNode_eq (show n < 2 ^ 31 by omega), pX4_isNode_eq (show n < 2 ^ 30 by omega), fw_ob, fw_ob]
    simp only [bb_0]
    by_cases c2 : decide (0 ≤ a2.toInt ∧ a2.toInt < n) = false
    · rw [if_pos c2, if_pos c2]
      exact ⟨_, _, _, _, _, _, _, _, rfl, rfl, h⟩
    · rw [if_neg c2, if_neg c2]
      by_cases c3 : a1 = a2
      · rw [if_pos c3, if_pos c3]
        exact ⟨_, _, _, _, _, _, _, _, rfl, rfl, h⟩
      · rw [if_neg c3, if_neg c3, pX3_isWay_eq, pX4_in_eq, fw_ob, fw_ob]
        simp only [bb_0]
        by_cases c4 : decide (¬ a3 < 0 ∧ ¬ 1 < a3) = false
        · rw [if_pos c4, if_pos c4]
          exact ⟨_, _, _, _, _, _, _, _, rfl, rfl, h⟩
        · rw [if_neg c4, if_neg c4, pX3_isWithin_eq, pX4_in_eq, fw_ob, fw_ob]
          simp only [bb_0]
          by_cases c5 : decide (¬ a4 < 0 ∧ ¬ 1 < a4) = false
          · rw [if_pos c5, if_pos c5]
            exact ⟨_, _, _, _, _, _, _, _, rfl, rfl, h⟩
          · rw [if_neg c5, if_neg c5]
            have c1' : 0 ≤ a1.toInt ∧ a1.toInt < n := by simpa using c1
            have c2' : 0 ≤ a2.toInt ∧ a2.toInt < n := by simpa using c2
            obtain ⟨i1, hi1, rfl⟩ := n_idx c1' (by omega)
            obtain ⟨i2, hi2, rfl⟩ := n_idx c2' (by omega)
            have hne : i1 ≠ i2 := fun e => c3 (by rw [e])
            obtain ⟨mx1, ch1, mo1, ms1, q1⟩ := pX3_partingProducts_eq hok hX mx ch mo a3 hi1 hi2
            obtain ⟨mx2, ch2, mo2, ms2, q2⟩ := pX3_treeProducts_eq hok hX mx1 ch1 mo1 a3
            obtain ⟨pt', up', lo', p1, p2⟩ := pX4_hasResistance_eq hok hM pt up a3 (f := 1) hi1 hi2 hne (by omega)
            have t0 := fm_tot hok a3 (a := 0) (b := 0)
            have t1 := fm_tot hok a3 (a := i1) (b := i2)
            rw [q1, fw_ob]
            dsimp only
            rw [q2, fw_ob]
            dsimp only
            rw [show (1 : Int64) = lN 1 from rfl, p1, fw_ob]
            generalize nsum (fm_val A B (nt_wy w k a3) m n 0 0) (2 ^ m) = low at *
            generalize nsum (fm_val A B (nt_wy w k a3) m n i1 i2) (2 ^ m) = high at *
            rw [pX3_inLowestTerms_eq (show high < 2 ^ 63 by omega) (show low < 2 ^ 48 by omega), fw_ob]
            dsimp only
            simp only [bb_0]
            by_cases h0 : low = 0
            · rw [if_pos (show decide (low ≠ 0) = false from decide_eq_false (fun z => z h0)), if_pos h0]
              exact ⟨_, _, _, _, _, _, _, _, rfl, rfl, h⟩
            · obtain ⟨u1, u2⟩ := p2 h0
              rw [if_neg (show ¬ decide (low ≠ 0) = false by rw [decide_eq_true h0]; decide), if_neg h0, u1, u2, Nat.one_mul]
              by_cases c6 : a4 = 0
              · rw [if_pos c6, if_pos c6]
                exact ⟨_, _, _, _, _, _, _, _, rfl, rfl, h⟩
              · rw [if_neg c6, if_neg c6]
                exact ⟨_, _, _, _, _, _, _, _, rfl, rfl, h⟩
theorem st_load (nc : Int32) (lc : Int32) (le : Nat → Int32) (ge : Nat → Int32) (wt : Nat → Int32) (kp : Nat → Int32) (fs : Nat → Int32) (nn : Int32) (ln : Int32) (sa : Nat → Int32) (sb : Nat → Int32) (wg : Nat → Int32) (kt : Nat → Int32) (h : fw_R nc lc le ge wt kp fs nn ln sa sb wg kt) (mx : Nat → Int64) (ch : Nat → Int32) (mo : Nat → Int64) (ms : Int32) (pt : Nat → Int32) (up : Int64) (lo : Int64) (a1 : Int32) (a2 : Int32) : ∃ (r : Int64) (mx' : Nat → Int64) (ch' : Nat → Int32) (mo' : Nat → Int64) (ms' : Int32) (pt' : Nat → Int32) (up' : Int64) (lo' : Int64), pX3_load nc lc le ge wt kp mx ch mo ms a1 a2 = some (r, mx', ch', mo', ms') ∧ pX4_load nn ln sa sb wg kt pt up lo a1 a2 = some (r, pt', up', lo') ∧ fw_R nc lc le ge wt kp fs nn ln sa sb wg kt := by
  obtain ⟨n, m, A, B, w, k, hok, hX, hM, hC⟩ := id h
  obtain ⟨⟨h2, h7, h12⟩, hj⟩ := id hok
  obtain ⟨hX1, rfl, hX'⟩ := id hX
  obtain ⟨hM1, rfl, hM'⟩ := id hM
  unfold pX3_load pX4_load
  rw [pX3_isLine_eq (show m < 2 ^ 31 by omega), pX4_isLine_eq (show m < 2 ^ 30 by omega), fw_ob, fw_ob]
  simp only [bb_0]
  by_cases c1 : decide (0 ≤ a1.toInt ∧ a1.toInt < m) = false
  · rw [if_pos c1, if_pos c1]
    exact ⟨_, _, _, _, _, _, _, _, rfl, rfl, h⟩
  · rw [if_neg c1, if_neg c1, pX3_isWithin_eq, pX4_in_eq, fw_ob, fw_ob]
    simp only [bb_0]
    by_cases c5 : decide (¬ a2 < 0 ∧ ¬ 1 < a2) = false
    · rw [if_pos c5, if_pos c5]
      exact ⟨_, _, _, _, _, _, _, _, rfl, rfl, h⟩
    · rw [if_neg c5, if_neg c5]
      have c1' : 0 ≤ a1.toInt ∧ a1.toInt < m := by simpa using c1
      obtain ⟨j, hjm, rfl⟩ := n_idx c1' (by omega)
      have hl := hj j hjm
      have x1 := hX.2.2 j hjm
      have x2 := hM.2.2 j hjm
      obtain ⟨mx1, ch1, mo1, ms1, q1⟩ := pX3_partingProducts_eq hok hX mx ch mo 0 (a := A j) (b := B j) (by omega) hl.2.1
      obtain ⟨mx2, ch2, mo2, ms2, q2⟩ := pX3_treeProducts_eq hok hX mx1 ch1 mo1 0
      obtain ⟨pt', up', lo', p1, p2⟩ := pX4_hasResistance_eq hok hM pt up 0 (a := A j) (b := B j) (f := w j) (by omega) hl.2.1 (by omega) (by omega)
      have t0 := fm_tot hok 0 (a := 0) (b := 0)
      have t1 := fm_tot hok 0 (a := A j) (b := B j)
      simp only [n_ck (show j < 12 by omega) (show 12 < 2 ^ 31 by omega), n_cl (show j < 2 ^ 31 by omega), x1.1, x1.2.1, x1.2.2.1, x2.1, x2.2.1, x2.2.2.1, nI_l (show w j < 2 ^ 31 by omega)]
      rw [q1, fw_ob]
      dsimp only
      rw [q2, fw_ob]
      dsimp only
      rw [p1, fw_ob]
      generalize nsum (fm_val A B (nt_wy w k 0) m n 0 0) (2 ^ m) = low at *
      generalize nsum (fm_val A B (nt_wy w k 0) m n (A j) (B j)) (2 ^ m) = high at *
      have hfu : w j * high ≤ 60 * (46656000000 * 4096) := Nat.mul_le_mul (by omega) t1
      rw [lN_mul, pX3_inLowestTerms_eq (show w j * high < 2 ^ 63 by omega) (show low < 2 ^ 48 by omega), fw_ob]
      dsimp only
      simp only [bb_0]
      by_cases h0 : low = 0
      · rw [if_pos (show decide (low ≠ 0) = false from decide_eq_false (fun z => z h0)), if_pos h0]
        exact ⟨_, _, _, _, _, _, _, _, rfl, rfl, h⟩
      · obtain ⟨u1, u2⟩ := p2 h0
        rw [if_neg (show ¬ decide (low ≠ 0) = false by rw [decide_eq_true h0]; decide), if_neg h0, u1, u2]
        by_cases c6 : a2 = 0
        · rw [if_pos c6, if_pos c6]
          exact ⟨_, _, _, _, _, _, _, _, rfl, rfl, h⟩
        · rw [if_neg c6, if_neg c6]
          exact ⟨_, _, _, _, _, _, _, _, rfl, rfl, h⟩
