/-! ===== far, greedy ===== -/
section FAR
variable {n m : Nat} {A B w k : Nat → Nat}
theorem n_all {m : Nat} (h : m ≤ 12) : (1 : Int32) <<< (nI m &&& 31) - 1 = nI (2 ^ m - 1) := by
  have h1 : 1 ≤ 2 ^ m := Nat.one_le_two_pow
  rw [n_shl (by omega), l_1, pk_sub h1]
theorem pX3_measured_N_eq {nc lc : Int32} {le ge wt kp : Nat → Int32} (hok : nt_ok n m A B w k) (hX : nt_X n m A B w k nc lc le ge wt kp) (na : Nat → Int32) : ∃ na', pX3_measured_N nc lc le ge wt kp na 0 = some (na', nI n) ∧ rep n na' (nt_d A B w (2 ^ m - 1) m) := by
  have hp := n_p12 hok.1.2.2
  unfold pX3_measured_N
  rw [pX3_linesOf_eq hok hX 0, fw_ob, nt_set_all hok]
  obtain ⟨na', h1, h2⟩ := pX3_measure_N_eq hok hX (S := 2 ^ m - 1) (by omega) na
  rw [h1]
  exact ⟨na', rfl, h2⟩
theorem pX3_measured_T_eq {nc lc : Int32} {le ge wt kp : Nat → Int32} (hok : nt_ok n m A B w k) (hX : nt_X n m A B w k nc lc le ge wt kp) (ta : Nat → Int32) : ∃ ta', pX3_measured_T nc lc le ge wt kp ta 1 = some (ta', nI n) ∧ rep n ta' (nt_d A B w (nt_set (fun j => decide (0 < k j)) m) m) := by
  have hp := n_p12 hok.1.2.2
  have hl := nt_set_lt (fun j => decide (0 < k j)) m
  unfold pX3_measured_T
  rw [pX3_linesOf_eq hok hX 1, fw_ob, nt_set_k]
  obtain ⟨na', h1, h2⟩ := pX3_measure_T_eq hok hX (S := nt_set (fun j => decide (0 < k j)) m) (by omega) ta
  rw [h1]
  exact ⟨na', rfl, h2⟩
/-- what far answers -/
def nt_fa (d : Nat) : Int32 := if d < nt_inf then nI d else -1
theorem far_X (d : Nat) (hd : d ≤ nt_inf) {α : Type} (x : α) : (if (1000000 : Int32) ≤ nI d then some ((-1 : Int32), x) else some (nI d, x)) = some (nt_fa d, x) := by
  have hinf : nt_inf = 1000000 := rfl
  simp only [l_1e6, n_le (show 1000000 < 2 ^ 31 by omega) (show d < 2 ^ 31 by omega)]
  unfold nt_fa
  by_cases e : d < nt_inf
  · rw [if_pos e, if_neg (by omega)]
  · rw [if_neg e, if_pos (by omega)]
theorem far_M {d g : Nat} (h : (d < nt_inf ∧ g = d ∧ g ≤ 1152) ∨ (d = nt_inf ∧ g = 10000)) {α : Type} (x : α) : (if nI g < (10000 : Int32) then some (nI g, x) else some ((-1 : Int32), x)) = some (nt_fa d, x) := by
  simp only [l_1e4, n_lt (show g < 2 ^ 31 by omega) (show 10000 < 2 ^ 31 by omega)]
  unfold nt_fa
  rcases h with ⟨h1, h2, h3⟩ | ⟨h1, h2⟩
  · rw [if_pos (by omega), if_pos h1, h2]
  · rw [if_neg (by omega), if_neg (by omega)]
end FAR
theorem st_far (nc : Int32) (lc : Int32) (le : Nat → Int32) (ge : Nat → Int32) (wt : Nat → Int32) (kp : Nat → Int32) (fs : Nat → Int32) (nn : Int32) (ln : Int32) (sa : Nat → Int32) (sb : Nat → Int32) (wg : Nat → Int32) (kt : Nat → Int32) (h : fw_R nc lc le ge wt kp fs nn ln sa sb wg kt) (na : Nat → Int32) (ns : Int32) (ta : Nat → Int32) (ts : Int32) (wl : Nat → Int32) (a1 : Int32) (a2 : Int32) (a3 : Int32) : ∃ (r : Int32) (na' : Nat → Int32) (ns' : Int32) (ta' : Nat → Int32) (ts' : Int32) (wl' : Nat → Int32), pX3_far nc lc le ge wt kp na ns ta ts a1 a2 a3 = some (r, na', ns', ta', ts') ∧ pX4_far nn ln sa sb wg kt wl a1 a2 a3 = some (r, wl') ∧ fw_R nc lc le ge wt kp fs nn ln sa sb wg kt := by
  have h0 := h
  obtain ⟨n, m, A, B, w, k, hok, hX, hM, hC⟩ := h
  obtain ⟨⟨h2, h7, h12⟩, hj⟩ := id hok
  have hp := n_p12 h12
  have e1 := hX.1
  have e2 := hM.1
  have e3 := hX.2.1
  have e4 := hM.2.1
  subst e1
  subst e2
  subst e3
  subst e4
  unfold pX3_far pX4_far
  rw [pX3_isNode_eq (by omega), pX4_isNode_eq (by omega), pX3_isNode_eq (by omega), pX4_isNode_eq (by omega), pX3_isWay_eq, pX4_in_eq]
  simp only [fw_ob, bb_0, decide_eq_false_iff_not]
  by_cases c1 : 0 ≤ a1.toInt ∧ a1.toInt < n
  · by_cases c2 : 0 ≤ a2.toInt ∧ a2.toInt < n
    · rw [if_neg (not_not_intro c1), if_neg (not_not_intro c1), if_neg (not_not_intro c2), if_neg (not_not_intro c2)]
      by_cases c3 : ¬ a3 < 0 ∧ ¬ 1 < a3
      · rw [if_neg (not_not_intro c3), if_neg (not_not_intro c3)]
        obtain ⟨a, ha, rfl⟩ := n_idx c1 (by omega)
        obtain ⟨b, hb, rfl⟩ := n_idx c2 (by omega)
        rcases n_within a3 (a := 0) (b := 1) (by omega) (by omega) with z | z | ⟨v, -, hv, rfl⟩
        · exact absurd z c3.1
        · exact absurd z c3.2
        · rcases (show v = 0 ∨ v = 1 by omega) with rfl | rfl
          · rw [if_pos (show nI 0 = 0 from rfl), if_pos (show nI 0 = 0 from rfl)]
            obtain ⟨na', x1, x2⟩ := pX3_measured_N_eq hok hX na
            obtain ⟨wl', G, y1, y2, y3⟩ := pX4_findFar_W_eq hok hM (S := 2 ^ m - 1) (by omega) wl
            have hbo := nt_both hok y3 ha hb
            have hd := (nt_d_pm (w := w) (nt_ends hok) (2 ^ m - 1) m (Nat.le_refl m)).2.2.2 a b ha hb
            have x1' : pX3_measured_N (nI n) (nI m) le ge wt kp na (nI 0) = some (na', nI n) := x1
            rw [x1', fw_ob]
            dsimp only
            rw [pX0_between_eq h7 x2 ha hb, fw_ob, far_X _ hd, n_all h12, y1, fw_ob, i_ba, n_ck (show 7 * a + b < 49 by omega) (by omega), n_ck (show 7 * a + b < 49 by omega) (by omega), n_cl (by omega), y2 a b ha hb, far_M hbo]
            exact ⟨_, _, _, _, _, _, rfl, rfl, h0⟩
          · rw [if_neg (show ¬ nI 1 = 0 by decide), if_neg (show ¬ nI 1 = 0 by decide)]
            have hl := nt_set_lt (fun j => decide (0 < k j)) m
            obtain ⟨ta', x1, x2⟩ := pX3_measured_T_eq hok hX ta
            obtain ⟨wl', G, y1, y2, y3⟩ := pX4_findFar_W_eq hok hM (S := nt_set (fun j => decide (0 < k j)) m) (by omega) wl
            have hbo := nt_both hok y3 ha hb
            have hd := (nt_d_pm (w := w) (nt_ends hok) (nt_set (fun j => decide (0 < k j)) m) m (Nat.le_refl m)).2.2.2 a b ha hb
            have x1' : pX3_measured_T (nI n) (nI m) le ge wt kp ta (nI 1) = some (ta', nI n) := x1
            rw [x1', fw_ob]
            dsimp only
            rw [pX0_between_eq h7 x2 ha hb, fw_ob]
            have hx : (if (1000000 : Int32) ≤ nI (nt_d A B w (nt_set (fun j => decide (0 < k j)) m) m a b) then some ((-1 : Int32), na, ns, ta', nI n) else some (nI (nt_d A B w (nt_set (fun j => decide (0 < k j)) m) m a b), na, ns, ta', nI n)) = some (nt_fa (nt_d A B w (nt_set (fun j => decide (0 < k j)) m) m a b), na, ns, ta', nI n) := far_X _ hd (na, ns, ta', nI n)
            rw [hx, pX4_keptSet_eq hok hM, fw_ob, y1, fw_ob, i_ba, n_ck (show 7 * a + b < 49 by omega) (by omega), n_ck (show 7 * a + b < 49 by omega) (by omega), n_cl (by omega), y2 a b ha hb, far_M hbo]
            exact ⟨_, _, _, _, _, _, rfl, rfl, h0⟩
      · rw [if_pos c3, if_pos c3]
        exact ⟨_, _, _, _, _, _, rfl, rfl, h0⟩
    · rw [if_neg (not_not_intro c1), if_neg (not_not_intro c1), if_pos c2, if_pos c2]
      exact ⟨_, _, _, _, _, _, rfl, rfl, h0⟩
  · rw [if_pos c1, if_pos c1]
    exact ⟨_, _, _, _, _, _, rfl, rfl, h0⟩
/-! greedy -/
/-- the lengths over the lines of S, however they came about -/
def isD (n m : Nat) (A B w : Nat → Nat) (S : Nat) (D : Nat → Nat → Nat) : Prop := pmn n nt_inf D ∧ (∀ q, q < m → S.testBit q = true → D (A q) (B q) ≤ w q) ∧ ∀ E, pmn n nt_inf E → (∀ q, q < m → S.testBit q = true → E (A q) (B q) ≤ w q) → ∀ i j, i < n → j < n → E i j ≤ D i j
theorem isD_eq {n m : Nat} {A B w : Nat → Nat} {S : Nat} {D : Nat → Nat → Nat} (hn : ∀ j, j < m → A j < n ∧ B j < n) (h : isD n m A B w S D) {i j : Nat} (hi : i < n) (hj : j < n) : D i j = nt_d A B w S m i j := by
  have a := h.2.2 (nt_d A B w S m) (nt_d_pm hn S m (Nat.le_refl m)) (nt_d_line hn m (Nat.le_refl m)) i j hi hj
  have b := nt_d_great hn h.1 h.2.1 m (Nat.le_refl m) i j hi hj
  omega
theorem isD_add {n m : Nat} {A B w : Nat → Nat} {S l : Nat} {D : Nat → Nat → Nat} (hn : ∀ j, j < m → A j < n ∧ B j < n) (hl : l < m) (h : isD n m A B w S D) : isD n m A B w (S ||| 2 ^ l) (nt_add D (A l) (B l) (w l)) := by
  obtain ⟨h1, h2, h3⟩ := h
  obtain ⟨a1, a2⟩ := hn l hl
  refine ⟨nt_add_pm h1 a1 a2, fun q hq hb => ?_, fun E hE hw i j hi hj => ?_⟩
  · rw [Nat.testBit_or, Nat.testBit_two_pow] at hb
    by_cases e : l = q
    · subst e; exact nt_add_ab h1 a1 a2
    · have : S.testBit q = true := by simpa [e] using hb
      exact Nat.le_trans (nt_add_le _ _ _ _ _ _) (h2 q hq this)
  · refine nt_add_gr (c := nt_inf) hE a1 a2 hi hj (hw l hl (by rw [Nat.testBit_or, Nat.testBit_two_pow]; simp)) (fun i j hi hj => h3 E hE (fun q hq hb => hw q hq (by rw [Nat.testBit_or, hb]; rfl)) i j hi hj)
/-- one line of greedy -/
def gr_step (A B w : Nat → Nat) (m t v S j : Nat) : Nat := if w j = v ∧ t * v < nt_d A B w S m (A j) (B j) then S ||| 2 ^ j else S
def gr_l (A B w : Nat → Nat) (m t v S : Nat) : Nat → Nat
  | 0 => S
  | j + 1 => gr_step A B w m t v (gr_l A B w m t v S j) j
def gr_w (A B w : Nat → Nat) (m t : Nat) : Nat → Nat
  | 0 => 0
  | v + 1 => gr_l A B w m t (v + 1) (gr_w A B w m t v) m
theorem gr_l_lt {A B w : Nat → Nat} {m t v S : Nat} (hS : S < 2 ^ m) : ∀ j, j ≤ m → gr_l A B w m t v S j < 2 ^ m := by
  intro j
  induction j with
  | zero => intro _; exact hS
  | succ j ih =>
    intro hj
    show gr_step A B w m t v (gr_l A B w m t v S j) j < 2 ^ m
    unfold gr_step
    split
    · exact Nat.or_lt_two_pow (ih (by omega)) (Nat.pow_lt_pow_right (by omega) (by omega))
    · exact ih (by omega)
theorem gr_w_lt {A B w : Nat → Nat} {m t : Nat} : ∀ v, gr_w A B w m t v < 2 ^ m := by
  intro v
  induction v with
  | zero => exact Nat.two_pow_pos m
  | succ v ih => exact gr_l_lt ih m (Nat.le_refl m)
section GRE
variable {n m : Nat} {A B w k : Nat → Nat}
theorem pX3_greedy_run {nc lc : Int32} {le ge wt kp : Nat → Int32} (hok : nt_ok n m A B w k) (hX : nt_X n m A B w k nc lc le ge wt kp) {t : Nat} (ht : t ≤ 9) (la : Nat → Int32) (hla : rep n la (nt_d A B w 0 0)) : ∃ ta' x, fw_wh (pX3_greedy_28 (nI t) lc le ge wt (nI n)) fw_N ((0 : Int32), (1 : Int32), la) = some (nI (gr_w A B w m t 9), x, ta') := by
  obtain ⟨⟨h2, h7, h12⟩, hj⟩ := id hok
  have hp := n_p12 h12
  have hn := nt_ends hok
  have e3 := hX.2.1
  subst e3
  have hd0 : isD n m A B w 0 (nt_d A B w 0 0) := by
    refine ⟨nt_d_pm hn 0 0 (by omega), fun q hq hb => ?_, fun E hE hw i j hi hj => ?_⟩
    · rw [Nat.zero_testBit] at hb; cases hb
    · exact nt_d_great hn hE hw 0 (by omega) i j hi hj
  obtain ⟨e, g1, g2⟩ := fw_loop (f := pX3_greedy_28 (nI t) (nI m) le ge wt (nI n)) (Q := fun e => e.1 = nI (gr_w A B w m t 9)) (fun v s => s.1 = nI (gr_w A B w m t v) ∧ s.2.1 = nI (v + 1) ∧ ∃ D, rep n s.2.2 D ∧ isD n m A B w (gr_w A B w m t v) D) 0 9 ((0 : Int32), (1 : Int32), la) (by omega) (by omega) ⟨rfl, rfl, _, hla, hd0⟩ (fun v s hv hs => by
    obtain ⟨x2, x3, ta⟩ := s
    obtain ⟨r1, r2, D, r3, r4⟩ := hs
    dsimp only at r1 r2 r3
    subst r1
    subst r2
    left
    dsimp only [pX3_greedy_28]
    rw [if_neg (show ¬ (9 : Int32) < nI (v + 1) from nI_nlt (a := 9) (by omega) (by omega))]
    have hwl := gr_w_lt (A := A) (B := B) (w := w) (m := m) (t := t) v
    obtain ⟨e, k1, k2⟩ := fw_loop (f := pX3_greedy_37 (nI t) (nI (v + 1)) (nI m) le ge wt (nI n)) (Q := fun e => e.1 = nI (gr_w A B w m t (v + 1)) ∧ ∃ D, rep n e.2.2 D ∧ isD n m A B w (gr_w A B w m t (v + 1)) D) (fun j s => s.1 = nI (gr_l A B w m t (v + 1) (gr_w A B w m t v) j) ∧ s.2.1 = nI j ∧ ∃ D, rep n s.2.2 D ∧ isD n m A B w (gr_l A B w m t (v + 1) (gr_w A B w m t v) j) D) 0 m (nI (gr_w A B w m t v), (0 : Int32), ta) (by omega) (by omega) ⟨rfl, rfl, D, r3, r4⟩ (fun j s hjm hs => by
      obtain ⟨x2, x4, ta1⟩ := s
      obtain ⟨q1, q2, D1, q3, q4⟩ := hs
      dsimp only at q1 q2 q3
      subst q1
      subst q2
      left
      obtain ⟨y1, y2, y3, y4⟩ := hX.2.2 j hjm
      obtain ⟨z1, z2, z3, z4, z5⟩ := hj j hjm
      have hAn : A j < n := by omega
      have hDe := isD_eq hn q4 hAn z2
      have hDl := q4.1.2.2.2 (A j) (B j) hAn z2
      have hinf : nt_inf = 1000000 := rfl
      have htv : t * (v + 1) ≤ 9 * 9 := Nat.mul_le_mul ht (by omega)
      have hst : gr_l A B w m t (v + 1) (gr_w A B w m t v) (j + 1) = gr_step A B w m t (v + 1) (gr_l A B w m t (v + 1) (gr_w A B w m t v) j) j := rfl
      rw [hst]
      generalize gr_l A B w m t (v + 1) (gr_w A B w m t v) j = S at *
      dsimp only [pX3_greedy_37, pX3_lengthBetweenEnds]
      rw [if_neg (nI_ge hjm (by omega))]
      simp only [n_ck (show j < 12 by omega) (show 12 < 2 ^ 31 by omega), n_cl (show j < 2 ^ 31 by omega), y1, y2, y3, nI_1, n_eq (show w j < 2 ^ 31 by omega) (show v + 1 < 2 ^ 31 by omega), pX0_between_eq h7 q3 hAn z2, fw_ob, pk_mul, n_le (show D1 (A j) (B j) < 2 ^ 31 by omega) (show t * (v + 1) < 2 ^ 31 by omega)]
      by_cases c1 : w j = v + 1
      · rw [if_pos c1]
        by_cases c2 : D1 (A j) (B j) ≤ t * (v + 1)
        · rw [if_pos c2]
          have hs2 : gr_step A B w m t (v + 1) S j = S := by
            unfold gr_step
            rw [if_neg (by rw [← hDe]; omega)]
          rw [hs2]
          exact ⟨_, rfl, rfl, rfl, D1, q3, q4⟩
        · rw [if_neg c2]
          have hs2 : gr_step A B w m t (v + 1) S j = S ||| 2 ^ j := by
            unfold gr_step
            rw [if_pos (by rw [← hDe]; omega)]
          rw [hs2]
          obtain ⟨la2, b1, b2⟩ := pX0_add_eq h7 q4.1 q3 (a := A j) (b := B j) (v := v + 1) hAn z2 (by omega)
          rw [b1, fw_ob, n_shl (by omega), n_or]
          refine ⟨_, rfl, rfl, rfl, nt_add D1 (A j) (B j) (v + 1), b2, ?_⟩
          have := isD_add hn hjm q4
          rw [c1] at this
          exact this
      · rw [if_neg c1]
        have hs2 : gr_step A B w m t (v + 1) S j = S := by
          unfold gr_step
          rw [if_neg (fun z => c1 z.1)]
        rw [hs2]
        exact ⟨_, rfl, rfl, rfl, D1, q3, q4⟩) (fun s hs => by
      obtain ⟨x2, x4, ta1⟩ := s
      obtain ⟨q1, q2, q3⟩ := hs
      dsimp only at q1 q2 q3
      subst q2
      dsimp only [pX3_greedy_37]
      rw [if_pos (nI_le (Nat.le_refl _) (by omega))]
      exact ⟨_, rfl, q1, q3⟩)
    obtain ⟨x2, x4, ta1⟩ := e
    rw [k1, fw_ob, nI_1]
    obtain ⟨k3, k4⟩ := k2
    dsimp only at k3 k4
    exact ⟨_, rfl, k3, rfl, k4⟩) (fun s hs => by
    obtain ⟨x2, x3, ta⟩ := s
    obtain ⟨r1, r2, r3⟩ := hs
    dsimp only at r1 r2 r3
    subst r2
    dsimp only [pX3_greedy_28]
    rw [if_pos (show (9 : Int32) < nI (9 + 1) by decide)]
    exact ⟨_, rfl, r1⟩)
  obtain ⟨x2, x3, ta⟩ := e
  dsimp only at g2
  subst g2
  exact ⟨ta, x3, g1⟩
theorem pX4_greedy_run {nc lc : Int32} {le ge wt kp : Nat → Int32} (hok : nt_ok n m A B w k) (hX : nt_X n m A B w k nc lc le ge wt kp) {t : Nat} (ht : t ≤ 9) (tn : Nat → Int32) : ∃ tn' x, fw_wh (pX4_greedy_17 (nI t) nc lc le ge wt) fw_N ((0 : Int32), (1 : Int32), tn) = some (nI (gr_w A B w m t 9), x, tn') := by
  obtain ⟨⟨h2, h7, h12⟩, hj⟩ := id hok
  have hp := n_p12 h12
  have hn := nt_ends hok
  have e3 := hX.2.1
  subst e3
  obtain ⟨e, g1, g2⟩ := fw_loop (f := pX4_greedy_17 (nI t) nc (nI m) le ge wt) (Q := fun e => e.1 = nI (gr_w A B w m t 9)) (fun v s => s.1 = nI (gr_w A B w m t v) ∧ s.2.1 = nI (v + 1)) 0 9 ((0 : Int32), (1 : Int32), tn) (by omega) (by omega) ⟨rfl, rfl⟩ (fun v s hv hs => by
    obtain ⟨x2, x3, tn1⟩ := s
    obtain ⟨r1, r2⟩ := hs
    dsimp only at r1 r2
    subst r1
    subst r2
    left
    dsimp only [pX4_greedy_17]
    rw [if_neg (show ¬ (10 : Int32) ≤ nI (v + 1) from nI_ge (b := 10) (by omega) (by omega))]
    have hwl := gr_w_lt (A := A) (B := B) (w := w) (m := m) (t := t) v
    obtain ⟨e, k1, k2⟩ := fw_loop (f := pX4_greedy_26 (nI t) (nI (v + 1)) nc (nI m) le ge wt) (Q := fun e => e.1 = nI (gr_w A B w m t (v + 1))) (fun j s => s.1 = nI (gr_l A B w m t (v + 1) (gr_w A B w m t v) j) ∧ s.2.1 = nI j) 0 m (nI (gr_w A B w m t v), (0 : Int32), tn1) (by omega) (by omega) ⟨rfl, rfl⟩ (fun j s hjm hs => by
      obtain ⟨x2, x4, ta1⟩ := s
      obtain ⟨q1, q2⟩ := hs
      dsimp only at q1 q2
      subst q1
      subst q2
      left
      obtain ⟨y1, y2, y3, y4⟩ := hX.2.2 j hjm
      obtain ⟨z1, z2, z3, z4, z5⟩ := hj j hjm
      have hAn : A j < n := by omega
      have htv : t * (v + 1) ≤ 9 * 9 := Nat.mul_le_mul ht (by omega)
      have hinf : nt_inf = 1000000 := rfl
      have hSl := gr_l_lt (A := A) (B := B) (w := w) (t := t) (v := v + 1) hwl j (by omega)
      have hst : gr_l A B w m t (v + 1) (gr_w A B w m t v) (j + 1) = gr_step A B w m t (v + 1) (gr_l A B w m t (v + 1) (gr_w A B w m t v) j) j := rfl
      rw [hst]
      generalize gr_l A B w m t (v + 1) (gr_w A B w m t v) j = S at *
      obtain ⟨tn2, G, b1, b2, b3⟩ := pX4_findFar_T_eq hok hX (S := S) (by omega) ta1
      have hbo := nt_both hok b3 hAn z2
      dsimp only [pX4_greedy_26]
      rw [if_neg (nI_ge hjm (by omega))]
      simp only [n_ck (show j < 12 by omega) (show 12 < 2 ^ 31 by omega), n_cl (show j < 2 ^ 31 by omega), y1, y2, y3, nI_1, n_eq (show w j < 2 ^ 31 by omega) (show v + 1 < 2 ^ 31 by omega), b1, fw_ob, pk_mul, i_ba, n_ck (show 7 * A j + B j < 49 by omega) (show 49 < 2 ^ 31 by omega), n_cl (show 7 * A j + B j < 2 ^ 31 by omega), b2 (A j) (B j) hAn z2, n_le (show G (A j) (B j) < 2 ^ 31 by omega) (show t * (v + 1) < 2 ^ 31 by omega)]
      by_cases c1 : w j = v + 1
      · rw [if_pos c1]
        by_cases c2 : G (A j) (B j) ≤ t * (v + 1)
        · rw [if_pos c2]
          have hs2 : gr_step A B w m t (v + 1) S j = S := by
            unfold gr_step
            rw [if_neg (by omega)]
          rw [hs2, l_0, n_or, Nat.or_zero]
          exact ⟨_, rfl, rfl, rfl⟩
        · rw [if_neg c2]
          have hs2 : gr_step A B w m t (v + 1) S j = S ||| 2 ^ j := by
            unfold gr_step
            rw [if_pos (by omega)]
          rw [hs2, n_shl (by omega), n_or]
          exact ⟨_, rfl, rfl, rfl⟩
      · rw [if_neg c1]
        have hs2 : gr_step A B w m t (v + 1) S j = S := by
          unfold gr_step
          rw [if_neg (fun z => c1 z.1)]
        rw [hs2]
        exact ⟨_, rfl, rfl, rfl⟩) (fun s hs => by
      obtain ⟨x2, x4, ta1⟩ := s
      obtain ⟨q1, q2⟩ := hs
      dsimp only at q1 q2
      subst q2
      dsimp only [pX4_greedy_26]
      rw [if_pos (nI_le (Nat.le_refl _) (by omega))]
      exact ⟨_, rfl, q1⟩)
    obtain ⟨x2, x4, ta1⟩ := e
    rw [k1, fw_ob, nI_1]
    exact ⟨_, rfl, k2, rfl⟩) (fun s hs => by
    obtain ⟨x2, x3, ta⟩ := s
    obtain ⟨r1, r2⟩ := hs
    dsimp only at r1 r2
    subst r2
    dsimp only [pX4_greedy_17]
    rw [if_pos (show (10 : Int32) ≤ nI (9 + 1) by decide)]
    exact ⟨_, rfl, r1⟩)
  obtain ⟨x2, x3, ta⟩ := e
  dsimp only at g2
  subst g2
  exact ⟨ta, x3, g1⟩
end GRE
theorem st_greedy (nc : Int32) (lc : Int32) (le : Nat → Int32) (ge : Nat → Int32) (wt : Nat → Int32) (kp : Nat → Int32) (fs : Nat → Int32) (nn : Int32) (ln : Int32) (sa : Nat → Int32) (sb : Nat → Int32) (wg : Nat → Int32) (kt : Nat → Int32) (h : fw_R nc lc le ge wt kp fs nn ln sa sb wg kt) (ta : Nat → Int32) (ts : Int32) (tn : Nat → Int32) (a1 : Int32) : ∃ (r : Int32) (kp' : Nat → Int32) (ta' : Nat → Int32) (ts' : Int32) (kt' : Nat → Int32) (tn' : Nat → Int32), pX3_greedy nc lc le ge wt kp ta ts a1 = some (r, kp', ta', ts') ∧ pX4_greedy nn ln sa sb wg kt tn a1 = some (r, kt', tn') ∧ fw_R nc lc le ge wt kp' fs nn ln sa sb wg kt' := by
  have h0 := h
  obtain ⟨n, m, A, B, w, k, hok, hX, hM, hC⟩ := h
  obtain ⟨⟨h2, h7, h12⟩, hj⟩ := id hok
  have e1 := hX.1
  have e4 := hM.2.1
  subst e1
  subst e4
  unfold pX3_greedy pX4_greedy
  rw [pX3_isWithin_eq, pX4_in_eq, fw_ob, fw_ob]
  simp only [bb_0, decide_eq_false_iff_not]
  by_cases c : ¬ a1 < 1 ∧ ¬ 9 < a1
  · rw [if_neg (not_not_intro c), if_neg (not_not_intro c)]
    rcases n_within a1 (a := 1) (b := 9) (by omega) (by omega) with z | z | ⟨t, ht1, ht2, rfl⟩
    · exact absurd z c.1
    · exact absurd z c.2
    · obtain ⟨la0, c1, c2⟩ := pX0_clear_eq (A := A) (B := B) (w := w) h7 ta 0
      rw [c1, fw_ob]
      dsimp only
      obtain ⟨ta', x, g1⟩ := pX3_greedy_run hok hX ht2 la0 c2
      obtain ⟨tn', y, g2⟩ := pX4_greedy_run hok hM ht2 tn
      have hSl := gr_w_lt (A := A) (B := B) (w := w) (m := m) (t := t) 9
      obtain ⟨kp', k1, k2⟩ := pX3_keepJust_eq hok hX hSl kp
      obtain ⟨kt', k3, k4⟩ := pX4_keepLoop_eq hok hM hSl kt
      have k3' : fw_wh (pX4_greedy_109 (nI (gr_w A B w m t 9)) (nI m) wg) fw_N ((0 : Int32), kt) = some (nI m, kt') := k3
      rw [g1, fw_ob, g2, fw_ob]
      dsimp only
      rw [k1, fw_ob, k3', fw_ob]
      dsimp only
      rw [pX4_keptMany_ks hok hSl k4, fw_ob]
      exact ⟨_, _, _, _, _, _, rfl, rfl, fw_R_ks hok hX hM hC k2 k4⟩
  · rw [if_pos c, if_pos c]
    exact ⟨_, _, _, _, _, _, rfl, rfl, h0⟩
