/-! ===== sets of lines, count ===== -/
/-- the set of the j below m with p j -/
def nt_set (p : Nat → Bool) : Nat → Nat
  | 0 => 0
  | j + 1 => nt_set p j + (if p j = true then 2 ^ j else 0)
theorem nt_set_lt (p : Nat → Bool) (m : Nat) : nt_set p m < 2 ^ m := by
  induction m with
  | zero => simp [nt_set]
  | succ m ih =>
    show nt_set p m + _ < _
    rw [Nat.pow_succ]
    split <;> omega
theorem nt_set_bit (p : Nat → Bool) (m i : Nat) : (nt_set p m).testBit i = (decide (i < m) && p i) := by
  induction m with
  | zero => simp [nt_set]
  | succ m ih =>
    show (nt_set p m + _).testBit i = _
    have hl := nt_set_lt p m
    cases hp : p m with
    | false =>
      simp only [Bool.false_eq_true, if_false, Nat.add_zero, ih]
      by_cases e : i = m
      · subst e; simp [hp]
      · by_cases e2 : i < m
        · simp [e2, show i < m + 1 by omega]
        · simp [e2, show ¬ i < m + 1 by omega]
    | true =>
      simp only [if_true]
      have h := Nat.testBit_two_pow_mul_add 1 hl i
      rw [Nat.mul_one, Nat.add_comm] at h
      rw [h]
      by_cases e2 : i < m
      · rw [if_pos e2, ih]
        simp [e2, show i < m + 1 by omega]
      · rw [if_neg e2]
        by_cases e : i = m
        · subst e; simp [hp]
        · rw [Nat.testBit_lt_two_pow (show 1 < 2 ^ (i - m) from Nat.one_lt_two_pow (by omega))]
          simp [show ¬ i < m + 1 by omega]
/-- two sets below 2^m are one, if they have the same lines -/
theorem nt_ext {S T m : Nat} (hS : S < 2 ^ m) (hT : T < 2 ^ m) (h : ∀ i, i < m → S.testBit i = T.testBit i) : S = T := by
  apply Nat.eq_of_testBit_eq
  intro i
  by_cases hi : i < m
  · exact h i hi
  · rw [Nat.testBit_lt_two_pow (Nat.lt_of_lt_of_le hS (Nat.pow_le_pow_right (by omega) (by omega))), Nat.testBit_lt_two_pow (Nat.lt_of_lt_of_le hT (Nat.pow_le_pow_right (by omega) (by omega)))]
theorem n_p12 {m : Nat} (h : m ≤ 12) : 2 ^ m ≤ 4096 := Nat.pow_le_pow_right (by omega) h
theorem n_orp {S j : Nat} (hS : S < 2 ^ j) (hj : j < 31) : nI S ||| ((1 : Int32) <<< (nI j &&& 31)) = nI (S + 2 ^ j) := by
  rw [n_shl hj, n_or]
  have h := Nat.two_pow_add_eq_or_of_lt hS 1
  rw [Nat.mul_one] at h
  rw [Nat.or_comm, ← h, Nat.add_comm]
theorem nt_pc_eq (S m : Nat) : nt_pc S m = nsum (fun j => if S.testBit j then 1 else 0) m := by
  induction m with
  | zero => rfl
  | succ m ih =>
    show nt_pc S m + _ = nsum _ m + _
    rw [ih]
theorem nt_pc_le (S m : Nat) : nt_pc S m ≤ m := by
  rw [nt_pc_eq]
  have := nsum_le (f := fun j => if S.testBit j then 1 else 0) (c := 1) (m := m) (fun j _ => by show (if _ then 1 else 0) ≤ 1; split <;> omega)
  omega
theorem nt_pc_12 {S m : Nat} (hS : S < 2 ^ m) (n : Nat) (hm : m ≤ n) : nt_pc S n = nt_pc S m := by
  induction n with
  | zero => rw [show m = 0 by omega]
  | succ n ih =>
    by_cases e : m = n + 1
    · rw [e]
    · show nt_pc S n + _ = _
      rw [ih (by omega), Nat.testBit_lt_two_pow (Nat.lt_of_lt_of_le hS (Nat.pow_le_pow_right (by omega) (by omega)))]
      simp
/-- bitCount, as its bytes go, of each set of 12 lines -/
-- (the row below takes some 15 seconds)
theorem bc_all : ∀ a, a < 64 → ∀ b, b < 64 → pJ6_bitCount_0f7a4 (nI (64 * a + b)) = some (nI (nt_pc (64 * a + b) 12)) := by decide +kernel
theorem bc_eq {S : Nat} (h : S < 4096) : pJ6_bitCount_0f7a4 (nI S) = some (nI (nt_pc S 12)) := by
  have h1 := bc_all (S / 64) (by omega) (S % 64) (by omega)
  rwa [show 64 * (S / 64) + S % 64 = S by omega] at h1
theorem bc_m {S m : Nat} (hm : m ≤ 12) (h : S < 2 ^ m) : pJ6_bitCount_0f7a4 (nI S) = some (nI (nt_pc S m)) := by
  rw [bc_eq (by have := n_p12 hm; omega), nt_pc_12 h 12 hm]
section SET
variable {n m : Nat} {A B w k : Nat → Nat}
theorem pX3_linesOf_eq {nc lc : Int32} {le ge wt kp : Nat → Int32} (hok : nt_ok n m A B w k) (hX : nt_X n m A B w k nc lc le ge wt kp) (way : Int32) : pX3_linesOf lc wt kp way = some (nI (nt_set (fun j => decide (0 < nt_wy w k way j)) m)) := by
  have h12 := hok.1.2.2
  have hlc := hX.2.1
  subst hlc
  unfold pX3_linesOf
  have h := fw_from (f := pX3_linesOf_4 way (nI m) wt kp) (e := (nI (nt_set (fun j => decide (0 < nt_wy w k way j)) m), nI m)) 0 m (fun i => (nI (nt_set (fun j => decide (0 < nt_wy w k way j)) i), nI i)) (by omega) (by omega) (fun j _ hj => by
    have hw := nt_wy_le hok way hj
    have hl := nt_set_lt (fun j => decide (0 < nt_wy w k way j)) j
    dsimp only [pX3_linesOf_4]
    rw [if_neg (nI_ge hj (by omega)), pX3_weightIn_eq hok hX way hj, fw_ob, nI_1, n_orp hl (by omega)]
    simp only [l_0, n_le (show nt_wy w k way j < 2 ^ 31 by omega) (show 0 < 2 ^ 31 by omega)]
    show _ = some (Sum.inl (nI (nt_set (fun j => decide (0 < nt_wy w k way j)) j + if decide (0 < nt_wy w k way j) = true then 2 ^ j else 0), nI (j + 1)))
    by_cases e : nt_wy w k way j ≤ 0
    · simp [e, show ¬ 0 < nt_wy w k way j by omega]
    · simp [e, show 0 < nt_wy w k way j by omega]) (by
    dsimp only [pX3_linesOf_4]
    rw [if_pos (nI_le (Nat.le_refl _) (by omega))])
  rw [show ((0 : Int32), (0 : Int32)) = (nI (nt_set (fun j => decide (0 < nt_wy w k way j)) 0), nI 0) from rfl, h]
  rfl
theorem pX4_keptSet_eq {nc lc : Int32} {le ge wt kp : Nat → Int32} (hok : nt_ok n m A B w k) (hX : nt_X n m A B w k nc lc le ge wt kp) : pX4_keptSet lc kp = some (nI (nt_set (fun j => decide (0 < k j)) m)) := by
  have h12 := hok.1.2.2
  have hlc := hX.2.1
  subst hlc
  unfold pX4_keptSet
  have h := fw_from (f := pX4_keptSet_4 (nI m) kp) (e := (nI (nt_set (fun j => decide (0 < k j)) m), nI m)) 0 m (fun i => (nI (nt_set (fun j => decide (0 < k j)) i), nI i)) (by omega) (by omega) (fun j _ hj => by
    obtain ⟨x1, x2, x3, x4⟩ := hX.2.2 j hj
    obtain ⟨y1, y2, y3, y4, y5⟩ := hok.2 j hj
    have hl := nt_set_lt (fun j => decide (0 < k j)) j
    dsimp only [pX4_keptSet_4]
    rw [if_neg (nI_ge hj (by omega)), n_ck (show j < 12 by omega) (by omega), n_cl (by omega), x4, nI_1, n_orp hl (by omega)]
    simp only [l_0, n_le (show k j < 2 ^ 31 by omega) (show 0 < 2 ^ 31 by omega), n_or, Nat.or_zero]
    show _ = some (Sum.inl (nI (nt_set (fun j => decide (0 < k j)) j + if decide (0 < k j) = true then 2 ^ j else 0), nI (j + 1)))
    by_cases e : k j ≤ 0
    · simp [e, show ¬ 0 < k j by omega]
    · simp [e, show 0 < k j by omega]) (by
    dsimp only [pX4_keptSet_4]
    rw [if_pos (nI_le (Nat.le_refl _) (by omega))])
  rw [show ((0 : Int32), (0 : Int32)) = (nI (nt_set (fun j => decide (0 < k j)) 0), nI 0) from rfl, h]
  rfl
theorem nt_set_all (hok : nt_ok n m A B w k) : nt_set (fun j => decide (0 < nt_wy w k 0 j)) m = 2 ^ m - 1 := by
  apply nt_ext (nt_set_lt _ m) (by have := Nat.one_le_two_pow (n := m); omega)
  intro i hi
  rw [nt_set_bit, Nat.testBit_two_pow_sub_one]
  have := (hok.2 i hi).2.2.1
  simp [hi, nt_wy]
  omega
theorem nt_set_k : nt_set (fun j => decide (0 < nt_wy w k 1 j)) m = nt_set (fun j => decide (0 < k j)) m := rfl
/-- the reference's count of kept lines -/
theorem pX4_keptMany_eq {kp : Nat → Int32} {kk : Nat → Nat} (h12 : m ≤ 12) (hk : ∀ j, j < m → kp j = nI (kk j) ∧ kk j < 2 ^ 31) : pX4_keptMany (nI m) kp = some (nI (nt_pc (nt_set (fun j => decide (0 < kk j)) m) m)) := by
  unfold pX4_keptMany
  have hb : ∀ i, i ≤ m → nt_pc (nt_set (fun j => decide (0 < kk j)) m) i = nsum (fun j => if 0 < kk j then 1 else 0) i := fun i hi => by
    rw [nt_pc_eq]
    apply nsum_congr
    intro j hj
    rw [nt_set_bit]
    simp [show j < m by omega]
  rw [hb m (Nat.le_refl m)]
  have h := fw_from (f := pX4_keptMany_4 (nI m) kp) (e := (nI (nsum (fun j => if 0 < kk j then 1 else 0) m), nI m)) 0 m (fun i => (nI (nsum (fun j => if 0 < kk j then 1 else 0) i), nI i)) (by omega) (by omega) (fun j _ hj => by
    obtain ⟨x4, x5⟩ := hk j hj
    dsimp only [pX4_keptMany_4]
    rw [if_neg (nI_ge hj (by omega)), n_ck (show j < 12 by omega) (by omega), n_cl (by omega), x4, nI_1, nI_1]
    simp only [l_0, n_le x5 (show 0 < 2 ^ 31 by omega), nI_add]
    show _ = some (Sum.inl (nI (nsum (fun j => if 0 < kk j then 1 else 0) j + if 0 < kk j then 1 else 0), nI (j + 1)))
    by_cases e : kk j ≤ 0
    · simp [e, show ¬ 0 < kk j by omega]
    · simp [e, show 0 < kk j by omega]) (by
    dsimp only [pX4_keptMany_4]
    rw [if_pos (nI_le (Nat.le_refl _) (by omega))])
  rw [show ((0 : Int32), (0 : Int32)) = (nI (nsum (fun j => if 0 < kk j then 1 else 0) 0), nI 0) from rfl, h]
  rfl
theorem pX3_weightTogether_eq {nc lc : Int32} {le ge wt kp : Nat → Int32} (hok : nt_ok n m A B w k) (hX : nt_X n m A B w k nc lc le ge wt kp) (way : Int32) : pX3_weightTogether lc wt kp way = some (nI (nsum (nt_wy w k way) m)) := by
  have h12 := hok.1.2.2
  have hlc := hX.2.1
  subst hlc
  unfold pX3_weightTogether
  have h := fw_from (f := pX3_weightTogether_4 way (nI m) wt kp) (e := (nI (nsum (nt_wy w k way) m), nI m)) 0 m (fun i => (nI (nsum (nt_wy w k way) i), nI i)) (by omega) (by omega) (fun j _ hj => by
    dsimp only [pX3_weightTogether_4]
    rw [if_neg (nI_ge hj (by omega)), pX3_weightIn_eq hok hX way hj, fw_ob, nI_1, nI_add]
    rfl) (by
    dsimp only [pX3_weightTogether_4]
    rw [if_pos (nI_le (Nat.le_refl _) (by omega))])
  rw [show ((0 : Int32), (0 : Int32)) = (nI (nsum (nt_wy w k way) 0), nI 0) from rfl, h]
  rfl
theorem pX4_sum_eq {f : Nat → Int32} {g : Nat → Nat} (h12 : m ≤ 12) (hk : ∀ j, j < m → f j = nI (g j)) : fw_wh (pX4_count_53 (nI m) f) fw_N ((0 : Int32), (0 : Int32)) = some (nI (nsum g m), nI m) := by
  have h := fw_from (f := pX4_count_53 (nI m) f) (e := (nI (nsum g m), nI m)) 0 m (fun i => (nI (nsum g i), nI i)) (by omega) (by omega) (fun j _ hj => by
    dsimp only [pX4_count_53]
    rw [if_neg (nI_ge hj (by omega)), n_ck (show j < 12 by omega) (by omega), n_cl (by omega), hk j hj, nI_1, nI_add]
    rfl) (by
    dsimp only [pX4_count_53]
    rw [if_pos (nI_le (Nat.le_refl _) (by omega))])
  rw [show ((0 : Int32), (0 : Int32)) = (nI (nsum g 0), nI 0) from rfl, h]
end SET
theorem st_count (nc : Int32) (lc : Int32) (le : Nat → Int32) (ge : Nat → Int32) (wt : Nat → Int32) (kp : Nat → Int32) (fs : Nat → Int32) (nn : Int32) (ln : Int32) (sa : Nat → Int32) (sb : Nat → Int32) (wg : Nat → Int32) (kt : Nat → Int32) (h : fw_R nc lc le ge wt kp fs nn ln sa sb wg kt) (a1 : Int32) : ∃ (r : Int32), pX3_count nc lc wt kp a1 = some r ∧ pX4_count nn ln wg kt a1 = some r ∧ fw_R nc lc le ge wt kp fs nn ln sa sb wg kt := by
  have h0 := h
  obtain ⟨n, m, A, B, w, k, hok, hX, hM, hC⟩ := h
  have h12 := hok.1.2.2
  have e1 := hX.1
  have e2 := hM.1
  have e3 := hX.2.1
  have e4 := hM.2.1
  subst e1
  subst e2
  subst e3
  subst e4
  unfold pX3_count pX4_count
  rw [pX3_linesOf_eq hok hX 1, fw_ob, bc_m h12 (nt_set_lt _ m), fw_ob, pX4_keptMany_eq h12 (kk := k) (fun j hj => ⟨(hM.2.2 j hj).2.2.2, by have := (hok.2 j hj).2.2.2.2; omega⟩), fw_ob, pX3_weightTogether_eq hok hX 0, pX3_weightTogether_eq hok hX 1, fw_ob, fw_ob, pX4_sum_eq h12 (fun j hj => (hM.2.2 j hj).2.2.1)]
  have hs2 : fw_wh (pX4_count_80 (nI m) kt) fw_N ((0 : Int32), (0 : Int32)) = some (nI (nsum k m), nI m) := pX4_sum_eq h12 (fun j hj => (hM.2.2 j hj).2.2.2)
  rw [hs2, fw_ob, fw_ob]
  by_cases c0 : a1 = 0
  · simp only [c0, if_true]
    exact ⟨_, rfl, rfl, h0⟩
  by_cases c1 : a1 = 1
  · simp only [c0, if_false, if_pos c1]
    exact ⟨_, rfl, rfl, h0⟩
  by_cases c2 : a1 = 2
  · simp only [c0, c1, if_false, if_pos c2]
    exact ⟨_, rfl, rfl, h0⟩
  by_cases c3 : a1 = 3
  · simp only [c0, c1, c2, if_false, if_pos c3]
    exact ⟨_, rfl, rfl, h0⟩
  by_cases c4 : a1 = 4
  · simp only [c0, c1, c2, c3, if_false, if_pos c4]
    exact ⟨_, rfl, rfl, h0⟩
  simp only [c0, c1, c2, c3, c4, if_false]
  exact ⟨_, rfl, rfl, h0⟩
