/-! ===== worst, promise, count ===== -/
theorem d_lt {a b c d : Nat} (h1 : a * b < 2 ^ 30) (h2 : c * d < 2 ^ 30) : (nI a * nI b - nI c * nI d < 0) = (a * b < c * d) := by
  apply propext
  rw [pk_mul, pk_mul, Int32.lt_iff_toInt_lt, pk_sub_toInt h1 h2]
  show _ < (0 : Int) ↔ _
  omega
theorem d_le {a b c d : Nat} (h1 : a * b < 2 ^ 30) (h2 : c * d < 2 ^ 30) : (nI a * nI b - nI c * nI d ≤ 0) = (a * b ≤ c * d) := by
  apply propext
  rw [pk_mul, pk_mul, Int32.le_iff_toInt_le, pk_sub_toInt h1 h2]
  show _ ≤ (0 : Int) ↔ _
  omega
theorem d_neg (x y : Int32) : (-1 : Int32) * (x - y) = y - x := by grind
theorem d_one (x : Int32) : (1 : Int32) * x = x := by grind
def nt_ws (c0 c1 : Nat → Nat) (low : Bool) (s b : Nat) : Bool := match low with
  | true => decide (c1 s * c0 b < c1 b * c0 s)
  | false => decide (c1 b * c0 s < c1 s * c0 b)
/-- the worst side among the first i odd ones -/
def nt_wst (c0 c1 : Nat → Nat) (low : Bool) : Nat → Option Nat
  | 0 => none
  | i + 1 => if c0 (2 * i + 1) = 0 then nt_wst c0 c1 low i else match nt_wst c0 c1 low i with
    | none => some (2 * i + 1)
    | some b => if nt_ws c0 c1 low (2 * i + 1) b = true then some (2 * i + 1) else some b
theorem nt_wst_lt {c0 c1 : Nat → Nat} {low : Bool} {i b : Nat} (h : nt_wst c0 c1 low i = some b) : b < 2 * i := by
  induction i generalizing b with
  | zero => cases h
  | succ i ih =>
    unfold nt_wst at h
    split at h
    · have := ih h; omega
    · cases hw : nt_wst c0 c1 low i with
      | none => rw [hw] at h; cases h; omega
      | some b' =>
        rw [hw] at h
        dsimp only at h
        have := ih hw
        split at h <;> cases h <;> omega
def nt_enc (o : Option Nat) : Int32 := match o with
  | none => -1
  | some b => nI b
def nt_e (c : Nat → Nat) (o : Option Nat) : Int32 := match o with
  | none => 0
  | some b => nI (c b)
theorem n_ne1 {a : Nat} (h : a < 2 ^ 31) : ¬ nI a = -1 := by
  intro e
  have h1 := congrArg Int32.toInt e
  rw [nI_toInt h] at h1
  have e1 : (-1 : Int32).toInt = -1 := rfl
  omega
section WST
variable {n m : Nat} {A B w k : Nat → Nat}
theorem nt_all {p : Nat} (hp : p ≤ 6) : (1 : Int32) <<< (nI (p + 1) &&& 31) - 1 = nI (2 ^ (p + 1) - 1) := by
  have h := n_pow (n := p + 1) (by omega)
  have h1 : 1 ≤ 2 ^ (p + 1) := Nat.one_le_two_pow
  rw [n_shl (by omega), l_1, pk_sub h1]
theorem pX3_worst_run {p : Nat} {lc : Int32} {le ge wt kp : Nat → Int32} (low : Bool) (hok : nt_ok (p + 1) m A B w k) (hX : nt_X (p + 1) m A B w k (nI (p + 1)) lc le ge wt kp) :
    fw_wh (pX3_worst_33 (if low = true then -1 else 1) (nI (p + 1)) lc le ge wt kp) fw_N ((-1 : Int32), (0 : Int32), (0 : Int32), (1 : Int32)) = some (nt_enc (nt_wst (nt_cut A B (nt_wy w k 0) m) (nt_cut A B (nt_wy w k 1) m) low (2 ^ p - 1)), nt_e (nt_cut A B (nt_wy w k 1) m) (nt_wst (nt_cut A B (nt_wy w k 0) m) (nt_cut A B (nt_wy w k 1) m) low (2 ^ p - 1)), nt_e (nt_cut A B (nt_wy w k 0) m) (nt_wst (nt_cut A B (nt_wy w k 0) m) (nt_cut A B (nt_wy w k 1) m) low (2 ^ p - 1)), nI (2 * (2 ^ p - 1) + 1)) := by
  have h7 := hok.1.2.1
  have hpw := n_pow h7
  have h1 : 1 ≤ 2 ^ p := Nat.one_le_two_pow
  have hs : 2 ^ (p + 1) = 2 * 2 ^ p := by rw [Nat.pow_succ]; omega
  have b0 := nt_cut_le hok 0
  have b1 := nt_cut_le hok 1
  generalize hc0 : nt_cut A B (nt_wy w k 0) m = c0 at *
  generalize hc1 : nt_cut A B (nt_wy w k 1) m = c1 at *
  refine fw_from 0 (2 ^ p - 1) (fun i => (nt_enc (nt_wst c0 c1 low i), nt_e c1 (nt_wst c0 c1 low i), nt_e c0 (nt_wst c0 c1 low i), nI (2 * i + 1))) (by omega) (by omega) (fun i _ hi => ?_) ?_
  · dsimp only [pX3_worst_33, pX3_allNodes]
    rw [fw_ob, nt_all (by omega)]
    simp only [n_le (show 2 ^ (p + 1) - 1 < 2 ^ 31 by omega) (show 2 * i + 1 < 2 ^ 31 by omega), show ¬ 2 ^ (p + 1) - 1 ≤ 2 * i + 1 by omega, if_false]
    have w0 := pX3_weightAcross_eq hok hX 0 (S := 2 * i + 1) (by omega)
    have w1 := pX3_weightAcross_eq hok hX 1 (S := 2 * i + 1) (by omega)
    rw [hc0] at w0
    rw [hc1] at w1
    rw [w0, fw_ob, w1, fw_ob]
    have z0 := b0 (2 * i + 1)
    have z1 := b1 (2 * i + 1)
    have e2 : nI (2 * i + 1) + 2 = nI (2 * (i + 1) + 1) := nI_add _ 2
    rw [e2]
    simp only [l_0, n_le (show c0 (2 * i + 1) < 2 ^ 31 by omega) (show 0 < 2 ^ 31 by omega), Nat.le_zero]
    rw [nt_wst]
    by_cases hz : c0 (2 * i + 1) = 0
    · simp only [hz, if_pos, if_true, ite_self]
    · simp only [hz, if_false]
      cases hw : nt_wst c0 c1 low i with
      | none =>
        simp only [nt_enc, nt_e, if_pos, ite_self]
      | some b =>
        have hb := nt_wst_lt hw
        have y0 := b0 b
        have y1 := b1 b
        have q1 : c1 (2 * i + 1) * c0 b ≤ 720 * 720 := Nat.mul_le_mul z1 y0
        have q2 : c1 b * c0 (2 * i + 1) ≤ 720 * 720 := Nat.mul_le_mul y1 z0
        simp only [nt_enc, nt_e, n_ne1 (show b < 2 ^ 31 by omega), if_false]
        cases low with
        | true =>
          simp only [if_true, d_neg, nt_ws, decide_eq_true_eq]
          have hd := d_le (a := c1 b) (b := c0 (2 * i + 1)) (c := c1 (2 * i + 1)) (d := c0 b) (by omega) (by omega)
          rw [l_0] at hd
          simp only [hd]
          by_cases hc : c1 (2 * i + 1) * c0 b < c1 b * c0 (2 * i + 1)
          · simp only [hc, show ¬ c1 b * c0 (2 * i + 1) ≤ c1 (2 * i + 1) * c0 b by omega, if_false, if_true, show ¬ (1 : Int32) = nI 0 by decide]
          · simp only [hc, show c1 b * c0 (2 * i + 1) ≤ c1 (2 * i + 1) * c0 b by omega, if_false, if_true]
        | false =>
          simp only [Bool.false_eq_true, if_false, d_one, nt_ws, decide_eq_true_eq]
          have hd := d_le (a := c1 (2 * i + 1)) (b := c0 b) (c := c1 b) (d := c0 (2 * i + 1)) (by omega) (by omega)
          rw [l_0] at hd
          simp only [hd]
          by_cases hc : c1 b * c0 (2 * i + 1) < c1 (2 * i + 1) * c0 b
          · simp only [hc, show ¬ c1 (2 * i + 1) * c0 b ≤ c1 b * c0 (2 * i + 1) by omega, if_false, if_true, show ¬ (1 : Int32) = nI 0 by decide]
          · simp only [hc, show c1 (2 * i + 1) * c0 b ≤ c1 b * c0 (2 * i + 1) by omega, if_false, if_true]
  · dsimp only [pX3_worst_33, pX3_allNodes]
    rw [fw_ob, nt_all (by omega)]
    simp only [n_le (show 2 ^ (p + 1) - 1 < 2 ^ 31 by omega) (show 2 * (2 ^ p - 1) + 1 < 2 ^ 31 by omega), show 2 ^ (p + 1) - 1 ≤ 2 * (2 ^ p - 1) + 1 by omega, if_true]
theorem pX4_worst_run {p : Nat} {lc : Int32} {le ge wt kp : Nat → Int32} (low : Bool) (hok : nt_ok (p + 1) m A B w k) (hX : nt_X (p + 1) m A B w k (nI (p + 1)) lc le ge wt kp) :
    fw_wh (pX4_worst_16 (if low = true then 0 else 1) (nI (p + 1)) lc le ge wt kp) fw_N ((-1 : Int32), (1 : Int32)) = some (nt_enc (nt_wst (nt_cut A B (nt_wy w k 0) m) (nt_cut A B (nt_wy w k 1) m) low (2 ^ p - 1)), nI (2 * (2 ^ p - 1) + 1)) := by
  have h7 := hok.1.2.1
  have hpw := n_pow h7
  have h1 : 1 ≤ 2 ^ p := Nat.one_le_two_pow
  have hs : 2 ^ (p + 1) = 2 * 2 ^ p := by rw [Nat.pow_succ]; omega
  have b0 := nt_cut_le hok 0
  have b1 := nt_cut_le hok 1
  have r0 := fun (S : Nat) (hS : S < 2 ^ 31) => pX4_cutOf_eq hok hX 0 (S := S) hS
  have r1 := fun (S : Nat) (hS : S < 2 ^ 31) => pX4_cutOf_eq hok hX 1 (S := S) hS
  generalize hc0 : nt_cut A B (nt_wy w k 0) m = c0 at *
  generalize hc1 : nt_cut A B (nt_wy w k 1) m = c1 at *
  refine fw_from 0 (2 ^ p - 1) (fun i => (nt_enc (nt_wst c0 c1 low i), nI (2 * i + 1))) (by omega) (by omega) (fun i _ hi => ?_) ?_
  · show (if (1 : Int32) <<< (nI (p + 1) &&& 31) - 1 ≤ nI (2 * i + 1) then _ else _) = _
    rw [nt_all (by omega)]
    simp only [n_le (show 2 ^ (p + 1) - 1 < 2 ^ 31 by omega) (show 2 * i + 1 < 2 ^ 31 by omega), show ¬ 2 ^ (p + 1) - 1 ≤ 2 * i + 1 by omega, if_false]
    rw [r0 (2 * i + 1) (by omega), fw_ob]
    have z0 := b0 (2 * i + 1)
    have z1 := b1 (2 * i + 1)
    have e2 : nI (2 * i + 1) + 2 = nI (2 * (i + 1) + 1) := nI_add _ 2
    rw [e2]
    have hle : (nI (c0 (2 * i + 1)) ≤ 0) = (c0 (2 * i + 1) = 0) := by
      rw [l_0, n_le (by omega) (by omega), Nat.le_zero]
    simp only [hle]
    rw [nt_wst]
    by_cases hz : c0 (2 * i + 1) = 0
    · simp only [hz, if_true]
    · simp only [hz, if_false]
      cases hw : nt_wst c0 c1 low i with
      | none => simp only [nt_enc, if_true]
      | some b =>
        have hb := nt_wst_lt hw
        have y0 := b0 b
        have y1 := b1 b
        have q1 : c1 (2 * i + 1) * c0 b ≤ 720 * 720 := Nat.mul_le_mul z1 y0
        have q2 : c1 b * c0 (2 * i + 1) ≤ 720 * 720 := Nat.mul_le_mul y1 z0
        simp only [nt_enc, n_ne1 (show b < 2 ^ 31 by omega), if_false]
        rw [r1 (2 * i + 1) (by omega), fw_ob, r0 b (by omega), fw_ob, r1 b (by omega), fw_ob, fw_ob]
        have hd := d_le (a := c1 (2 * i + 1)) (b := c0 b) (c := c1 b) (d := c0 (2 * i + 1)) (by omega) (by omega)
        have hd2 := d_lt (a := c1 (2 * i + 1)) (b := c0 b) (c := c1 b) (d := c0 (2 * i + 1)) (by omega) (by omega)
        cases low with
        | true =>
          simp only [if_true, hd2, show ¬ (0 : Int32) = 1 by decide, if_false, nt_ws, decide_eq_true_eq]
          by_cases hc : c1 (2 * i + 1) * c0 b < c1 b * c0 (2 * i + 1)
          · simp only [hc, if_true]
          · simp only [hc, if_false]
        | false =>
          simp only [Bool.false_eq_true, if_false, show ¬ (1 : Int32) = 0 by decide, if_true, hd, nt_ws, decide_eq_true_eq]
          by_cases hc : c1 b * c0 (2 * i + 1) < c1 (2 * i + 1) * c0 b
          · simp only [hc, show ¬ c1 (2 * i + 1) * c0 b ≤ c1 b * c0 (2 * i + 1) by omega, if_false, if_true]
          · simp only [hc, show c1 (2 * i + 1) * c0 b ≤ c1 b * c0 (2 * i + 1) by omega, if_false, if_true]
  · show (if (1 : Int32) <<< (nI (p + 1) &&& 31) - 1 ≤ nI (2 * (2 ^ p - 1) + 1) then _ else _) = _
    rw [nt_all (by omega)]
    simp only [n_le (show 2 ^ (p + 1) - 1 < 2 ^ 31 by omega) (show 2 * (2 ^ p - 1) + 1 < 2 ^ 31 by omega), show 2 ^ (p + 1) - 1 ≤ 2 * (2 ^ p - 1) + 1 by omega, if_true]
end WST
theorem st_worst (nc : Int32) (lc : Int32) (le : Nat → Int32) (ge : Nat → Int32) (wt : Nat → Int32) (kp : Nat → Int32) (fs : Nat → Int32) (nn : Int32) (ln : Int32) (sa : Nat → Int32) (sb : Nat → Int32) (wg : Nat → Int32) (kt : Nat → Int32) (h : fw_R nc lc le ge wt kp fs nn ln sa sb wg kt) (a1 : Int32) : ∃ (r : Int32), pX3_worst nc lc le ge wt kp a1 = some r ∧ pX4_worst nn ln sa sb wg kt a1 = some r ∧ fw_R nc lc le ge wt kp fs nn ln sa sb wg kt := by
  have h0 := h
  obtain ⟨n, m, A, B, w, k, hok, hX, hM, hC⟩ := h
  obtain ⟨p, rfl⟩ : ∃ p, n = p + 1 := ⟨n - 1, by have := hok.1; omega⟩
  have e1 := hX.1
  have e2 := hM.1
  subst e1
  subst e2
  unfold pX3_worst pX4_worst
  simp only [pX3_isWithin_eq, pX4_in_eq, fw_ob, bb_0, decide_eq_false_iff_not]
  by_cases c : ¬ a1 < 0 ∧ ¬ 1 < a1
  · rw [if_neg (not_not_intro c), if_neg (not_not_intro c)]
    rcases n_within a1 (a := 0) (b := 1) (by omega) (by omega) with h1 | h1 | ⟨j, -, hj, rfl⟩
    · exact absurd h1 c.1
    · exact absurd h1 c.2
    · rcases (show j = 0 ∨ j = 1 by omega) with rfl | rfl
      · have x := pX3_worst_run true hok hX
        have y := pX4_worst_run true hok hM
        rw [if_pos rfl] at x y
        rw [if_pos (show nI 0 = 0 from rfl), x]
        show ∃ r, some _ = some r ∧ (fw_wh (pX4_worst_16 0 _ _ _ _ _ _) _ _).bind _ = some r ∧ _
        rw [y]
        exact ⟨_, rfl, rfl, h0⟩
      · have x := pX3_worst_run false hok hX
        have y := pX4_worst_run false hok hM
        rw [if_neg (by decide)] at x y
        rw [if_neg (show ¬ nI 1 = 0 by decide), x]
        show ∃ r, some _ = some r ∧ (fw_wh (pX4_worst_16 1 _ _ _ _ _ _) _ _).bind _ = some r ∧ _
        rw [y]
        exact ⟨_, rfl, rfl, h0⟩
  · rw [if_pos c, if_pos c]
    exact ⟨_, rfl, rfl, h0⟩
