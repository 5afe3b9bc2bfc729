/-! ===== the net's own calls: nodes, line, drop, keep ===== -/
theorem nt_C0 {n m : Nat} {A B w : Nat → Nat} {f : Nat → Int32} : nt_C n m A B w (fun j => if j < 10 then -1 else f j) := by
  intro t h1 h2
  left
  show (if t < 10 then (-1 : Int32) else f t) = -1
  rw [if_pos (by omega)]
theorem st_forget : ∃ z, pX3_forgetFewest (fun _ => 0) = some z := ⟨_, pX3_forgetFewest_eq _⟩
theorem st_new (fs : Nat → Int32) (h : pX3_forgetFewest (fun _ => 0) = some fs) : fw_R 4 0 (fun _ => 0) (fun _ => 0) (fun _ => 0) (fun _ => 0) fs 4 0 (fun _ => 0) (fun _ => 0) (fun _ => 0) (fun _ => 0) := by
  rw [pX3_forgetFewest_eq] at h
  cases h
  exact ⟨4, 0, fun _ => 0, fun _ => 0, fun _ => 0, fun _ => 0, ⟨by omega, fun j hj => by omega⟩, ⟨rfl, rfl, fun j hj => by omega⟩, ⟨rfl, rfl, fun j hj => by omega⟩, nt_C0⟩
theorem st_nodes (nc : Int32) (lc : Int32) (le : Nat → Int32) (ge : Nat → Int32) (wt : Nat → Int32) (kp : Nat → Int32) (fs : Nat → Int32) (nn : Int32) (ln : Int32) (sa : Nat → Int32) (sb : Nat → Int32) (wg : Nat → Int32) (kt : Nat → Int32) (h : fw_R nc lc le ge wt kp fs nn ln sa sb wg kt) (a1 : Int32) : ∃ (r : Int32) (nc' : Int32) (lc' : Int32) (fs' : Nat → Int32) (nn' : Int32) (ln' : Int32), pX3_nodes nc lc fs a1 = some (r, nc', lc', fs') ∧ pX4_nodes nn ln a1 = some (r, nn', ln') ∧ fw_R nc' lc' le ge wt kp fs' nn' ln' sa sb wg kt := by
  unfold pX3_nodes pX4_nodes
  simp only [pX3_isWithin_eq, pX4_in_eq, fw_ob, bb_0, decide_eq_false_iff_not, pX3_forgetFewest_eq]
  by_cases c : ¬ a1 < 2 ∧ ¬ 7 < a1
  · rw [if_neg (not_not_intro c), if_neg (not_not_intro c)]
    refine ⟨_, _, _, _, _, _, rfl, rfl, ?_⟩
    rcases n_within a1 (a := 2) (b := 7) (by omega) (by omega) with h1 | h1 | ⟨j, h1, h2, rfl⟩
    · exact absurd h1 c.1
    · exact absurd h1 c.2
    · exact ⟨j, 0, fun _ => 0, fun _ => 0, fun _ => 0, fun _ => 0, ⟨by omega, fun j hj => by omega⟩, ⟨rfl, rfl, fun j hj => by omega⟩, ⟨rfl, rfl, fun j hj => by omega⟩, nt_C0⟩
  · rw [if_pos c, if_pos c]
    exact ⟨_, _, _, _, _, _, rfl, rfl, h⟩
theorem st_keep (nc : Int32) (lc : Int32) (le : Nat → Int32) (ge : Nat → Int32) (wt : Nat → Int32) (kp : Nat → Int32) (fs : Nat → Int32) (nn : Int32) (ln : Int32) (sa : Nat → Int32) (sb : Nat → Int32) (wg : Nat → Int32) (kt : Nat → Int32) (h : fw_R nc lc le ge wt kp fs nn ln sa sb wg kt) (a1 : Int32) (a2 : Int32) : ∃ (r : Int32) (kp' : Nat → Int32) (kt' : Nat → Int32), pX3_keep lc kp a1 a2 = some (r, kp') ∧ pX4_keep ln kt a1 a2 = some (r, kt') ∧ fw_R nc lc le ge wt kp' fs nn ln sa sb wg kt' := by
  have h0 := h
  obtain ⟨n, m, A, B, w, k, ⟨⟨h2, h7, h12⟩, hj⟩, ⟨rfl, rfl, hx⟩, ⟨rfl, rfl, hm⟩, hC⟩ := h
  unfold pX3_keep pX4_keep
  simp only [pX3_isLine_eq (show m < 2 ^ 31 by omega), pX4_isLine_eq (show m < 2 ^ 30 by omega), pX3_isWithin_eq, pX4_in_eq, fw_ob, bb_0, decide_eq_false_iff_not]
  by_cases c : 0 ≤ a1.toInt ∧ a1.toInt < m
  · rw [if_neg (not_not_intro c), if_neg (not_not_intro c)]
    by_cases c2 : ¬ a2 < 0 ∧ ¬ 60 < a2
    · rw [if_neg (not_not_intro c2), if_neg (not_not_intro c2)]
      obtain ⟨d, hd, rfl⟩ := n_idx c (by omega)
      rw [n_ck (show d < 12 by omega) (by omega), n_ck (show d < 12 by omega) (by omega), n_ck (show d < 12 by omega) (by omega), n_ck (show d < 12 by omega) (by omega), n_cl (by omega), (hx d hd).2.2.2, (hm d hd).2.2.2]
      refine ⟨_, _, _, rfl, rfl, ?_⟩
      rcases n_within a2 (a := 0) (b := 60) (by omega) (by omega) with h1 | h1 | ⟨v, h1, h2, rfl⟩
      · exact absurd h1 c2.1
      · exact absurd h1 c2.2
      · refine ⟨n, m, A, B, w, fun j => if j = d then v else k j, ⟨⟨by omega, by omega, by omega⟩, fun j hj2 => ?_⟩, ⟨rfl, rfl, fun j hj2 => ?_⟩, ⟨rfl, rfl, fun j hj2 => ?_⟩, hC⟩
        · obtain ⟨x1, x2, x3, x4, x5⟩ := hj j hj2
          refine ⟨x1, x2, x3, x4, ?_⟩
          show (if j = d then v else k j) ≤ 60
          split <;> omega
        · obtain ⟨x1, x2, x3, x4⟩ := hx j hj2
          refine ⟨x1, x2, x3, ?_⟩
          unfold upd
          by_cases e : j = d
          · simp [e]
          · simp [e, x4]
        · obtain ⟨x1, x2, x3, x4⟩ := hm j hj2
          refine ⟨x1, x2, x3, ?_⟩
          unfold upd
          by_cases e : j = d
          · simp [e]
          · simp [e, x4]
    · rw [if_pos c2, if_pos c2]
      exact ⟨_, _, _, rfl, rfl, h0⟩
  · rw [if_pos c, if_pos c]
    exact ⟨_, _, _, rfl, rfl, h0⟩
theorem n_min {a b : Nat} (ha : a < 2 ^ 31) (hb : b < 2 ^ 31) : (if nI b < nI a then nI b else nI a) = nI (min a b) := by
  simp only [n_lt hb ha]
  split
  · rw [Nat.min_eq_right (by omega)]
  · rw [Nat.min_eq_left (by omega)]
theorem n_max {a b : Nat} (ha : a < 2 ^ 31) (hb : b < 2 ^ 31) : (if nI a < nI b then nI b else nI a) = nI (max a b) := by
  simp only [n_lt ha hb]
  split
  · rw [Nat.max_eq_right (by omega)]
  · rw [Nat.max_eq_left (by omega)]
theorem st_line (nc : Int32) (lc : Int32) (le : Nat → Int32) (ge : Nat → Int32) (wt : Nat → Int32) (kp : Nat → Int32) (fs : Nat → Int32) (nn : Int32) (ln : Int32) (sa : Nat → Int32) (sb : Nat → Int32) (wg : Nat → Int32) (kt : Nat → Int32) (h : fw_R nc lc le ge wt kp fs nn ln sa sb wg kt) (a1 : Int32) (a2 : Int32) (a3 : Int32) : ∃ (r : Int32) (lc' : Int32) (le' : Nat → Int32) (ge' : Nat → Int32) (wt' : Nat → Int32) (kp' : Nat → Int32) (fs' : Nat → Int32) (ln' : Int32) (sa' : Nat → Int32) (sb' : Nat → Int32) (wg' : Nat → Int32) (kt' : Nat → Int32), pX3_line nc lc le ge wt kp fs a1 a2 a3 = some (r, lc', le', ge', wt', kp', fs') ∧ pX4_line nn ln sa sb wg kt a1 a2 a3 = some (r, ln', sa', sb', wg', kt') ∧ fw_R nc lc' le' ge' wt' kp' fs' nn ln' sa' sb' wg' kt' := by
  have h0 := h
  obtain ⟨n, m, A, B, w, k, ⟨⟨h2, h7, h12⟩, hj⟩, ⟨rfl, rfl, hx⟩, ⟨rfl, rfl, hm⟩, hC⟩ := h
  unfold pX3_line pX4_line
  simp only [pX3_isNode_eq (show n < 2 ^ 31 by omega), pX4_isNode_eq (show n < 2 ^ 30 by omega), pX3_isWithin_eq, pX4_in_eq, fw_ob, bb_0, decide_eq_false_iff_not, pX3_forgetFewest_eq]
  by_cases c1 : 0 ≤ a1.toInt ∧ a1.toInt < n
  · by_cases c2 : 0 ≤ a2.toInt ∧ a2.toInt < n
    · rw [if_neg (not_not_intro c1), if_neg (not_not_intro c1), if_neg (not_not_intro c2), if_neg (not_not_intro c2)]
      by_cases c3 : a1 = a2
      · rw [if_pos c3, if_pos c3]
        exact ⟨_, _, _, _, _, _, _, _, _, _, _, _, rfl, rfl, h0⟩
      · rw [if_neg c3, if_neg c3]
        by_cases c4 : ¬ a3 < 1 ∧ ¬ 9 < a3
        · rw [if_neg (not_not_intro c4), if_neg (not_not_intro c4)]
          obtain ⟨i1, hi1, rfl⟩ := n_idx c1 (by omega)
          obtain ⟨i2, hi2, rfl⟩ := n_idx c2 (by omega)
          have hne : i1 ≠ i2 := fun e => c3 (by rw [e])
          rcases n_within a3 (a := 1) (b := 9) (by omega) (by omega) with h1 | h1 | ⟨v, hv1, hv2, rfl⟩
          · exact absurd h1 c4.1
          · exact absurd h1 c4.2
          · by_cases c5 : m < 12
            · rw [if_pos (show nI m < 12 from nI_lt (b := 12) c5 (by omega)), if_neg (show ¬ nI m = 12 from fun e => by rw [l_12, n_eq (by omega) (by omega)] at e; omega)]
              simp only [n_ck c5 (show 12 < 2 ^ 31 by omega), n_cl (show m < 2 ^ 31 by omega), nI_1, n_min (show i1 < 2 ^ 31 by omega) (show i2 < 2 ^ 31 by omega), n_max (show i1 < 2 ^ 31 by omega) (show i2 < 2 ^ 31 by omega), nI_pred]
              have hM : (if nI i2 ≤ nI i1 then (if nI i2 ≤ nI i1 then some (nI m, nI (m + 1), upd sa m (nI i2), upd sb m (nI i1), upd wg m (nI v), upd kt m (nI v)) else some (nI m, nI (m + 1), upd sa m (nI i2), upd sb m (nI i2), upd wg m (nI v), upd kt m (nI v))) else (if nI i2 ≤ nI i1 then some (nI m, nI (m + 1), upd sa m (nI i1), upd sb m (nI i1), upd wg m (nI v), upd kt m (nI v)) else some (nI m, nI (m + 1), upd sa m (nI i1), upd sb m (nI i2), upd wg m (nI v), upd kt m (nI v)))) = some (nI m, nI (m + 1), upd sa m (nI (min i1 i2)), upd sb m (nI (max i1 i2)), upd wg m (nI v), upd kt m (nI v)) := by
                simp only [n_le (show i2 < 2 ^ 31 by omega) (show i1 < 2 ^ 31 by omega)]
                by_cases c6 : i2 ≤ i1
                · rw [if_pos c6, if_pos c6, Nat.min_eq_right c6, Nat.max_eq_left c6]
                · rw [if_neg c6, if_neg c6, Nat.min_eq_left (by omega), Nat.max_eq_right (by omega)]
              refine ⟨_, _, _, _, _, _, _, _, _, _, _, _, rfl, hM, ?_⟩
              refine ⟨n, m + 1, fun j => if j = m then min i1 i2 else A j, fun j => if j = m then max i1 i2 else B j, fun j => if j = m then v else w j, fun j => if j = m then v else k j, ⟨⟨h2, h7, by omega⟩, fun j hj2 => ?_⟩, ⟨rfl, rfl, fun j hj2 => ?_⟩, ⟨rfl, rfl, fun j hj2 => ?_⟩, nt_C0⟩
              · by_cases e : j = m
                · simp only [e, if_pos]; omega
                · simp only [e, if_false]; exact hj j (by omega)
              · unfold upd
                by_cases e : j = m
                · simp only [e, if_pos]; exact ⟨trivial, trivial, trivial, trivial⟩
                · simp only [e, if_false]; exact hx j (by omega)
              · unfold upd
                by_cases e : j = m
                · simp only [e, if_pos]; exact ⟨trivial, trivial, trivial, trivial⟩
                · simp only [e, if_false]; exact hm j (by omega)
            · have e12 : m = 12 := by omega
              subst e12
              rw [if_neg (show ¬ nI 12 < 12 by decide), if_pos (show nI 12 = 12 from rfl)]
              exact ⟨_, _, _, _, _, _, _, _, _, _, _, _, rfl, rfl, h0⟩
        · rw [if_pos c4, if_pos c4]
          exact ⟨_, _, _, _, _, _, _, _, _, _, _, _, rfl, rfl, h0⟩
    · rw [if_neg (not_not_intro c1), if_neg (not_not_intro c1), if_pos c2, if_pos c2]
      exact ⟨_, _, _, _, _, _, _, _, _, _, _, _, rfl, rfl, h0⟩
  · rw [if_pos c1, if_pos c1]
    exact ⟨_, _, _, _, _, _, _, _, _, _, _, _, rfl, rfl, h0⟩
/-- the lines behind d go a place ahead -/
def nt_sh {α : Type} (d i : Nat) (f : Nat → α) : Nat → α := fun j => if d ≤ j ∧ j < i then f (j + 1) else f j
theorem nt_sh_step (d i : Nat) (f : Nat → Int32) (h : d ≤ i) : upd (nt_sh d i f) i (nt_sh d i f (i + 1)) = nt_sh d (i + 1) f := by
  funext j
  unfold upd nt_sh
  by_cases e : j = i
  · subst e
    simp [h, show ¬ (d ≤ j + 1 ∧ j + 1 < j) by omega]
  · by_cases e2 : d ≤ j ∧ j < i
    · simp [e, e2, show j < i + 1 by omega]
    · simp [e, e2, show ¬ (d ≤ j ∧ j < i + 1) by omega]
theorem nt_sh_0 {α : Type} (d : Nat) (f : Nat → α) : nt_sh d d f = f := by
  funext j
  unfold nt_sh
  rw [if_neg (by omega)]
theorem st_drop (nc : Int32) (lc : Int32) (le : Nat → Int32) (ge : Nat → Int32) (wt : Nat → Int32) (kp : Nat → Int32) (fs : Nat → Int32) (nn : Int32) (ln : Int32) (sa : Nat → Int32) (sb : Nat → Int32) (wg : Nat → Int32) (kt : Nat → Int32) (h : fw_R nc lc le ge wt kp fs nn ln sa sb wg kt) (a1 : Int32) : ∃ (r : Int32) (lc' : Int32) (le' : Nat → Int32) (ge' : Nat → Int32) (wt' : Nat → Int32) (kp' : Nat → Int32) (fs' : Nat → Int32) (ln' : Int32) (sa' : Nat → Int32) (sb' : Nat → Int32) (wg' : Nat → Int32) (kt' : Nat → Int32), pX3_drop lc le ge wt kp fs a1 = some (r, lc', le', ge', wt', kp', fs') ∧ pX4_drop ln sa sb wg kt a1 = some (r, ln', sa', sb', wg', kt') ∧ fw_R nc lc' le' ge' wt' kp' fs' nn ln' sa' sb' wg' kt' := by
  have h0 := h
  obtain ⟨n, m, A, B, w, k, ⟨⟨h2, h7, h12⟩, hj⟩, ⟨rfl, rfl, hx⟩, ⟨rfl, rfl, hm⟩, hC⟩ := h
  unfold pX3_drop pX4_drop
  simp only [pX3_isLine_eq (show m < 2 ^ 31 by omega), pX4_isLine_eq (show m < 2 ^ 30 by omega), fw_ob, bb_0, decide_eq_false_iff_not]
  by_cases c : 0 ≤ a1.toInt ∧ a1.toInt < m
  · rw [if_neg (not_not_intro c), if_neg (not_not_intro c)]
    obtain ⟨d, hd, rfl⟩ := n_idx c (by omega)
    obtain ⟨m, rfl⟩ : ∃ z, m = z + 1 := ⟨m - 1, by omega⟩
    have hX := fw_from (f := pX3_drop_13 (nI (m + 1))) (e := (nI m, nt_sh d m le, nt_sh d m ge, nt_sh d m wt, nt_sh d m kp)) d m (fun i => (nI i, nt_sh d i le, nt_sh d i ge, nt_sh d i wt, nt_sh d i kp)) (by omega) (by omega) (fun j hj1 hj2 => by
      show (if nI (m + 1) - 1 ≤ nI j then _ else _) = _
      rw [nI_pred, if_neg (nI_ge hj2 (by omega)), nI_1]
      simp only [n_ck (show j + 1 < 12 by omega) (show 12 < 2 ^ 31 by omega), n_ck (show j < 12 by omega) (show 12 < 2 ^ 31 by omega), n_cl (show j < 2 ^ 31 by omega), n_cl (show j + 1 < 2 ^ 31 by omega), nt_sh_step d j _ hj1]) (by
      show (if nI (m + 1) - 1 ≤ nI m then _ else _) = _
      rw [nI_pred, if_pos (nI_le (Nat.le_refl _) (by omega))])
    have hM := fw_from (f := pX4_drop_23 (nI m)) (e := (nI m, nt_sh d m sa, nt_sh d m sb, nt_sh d m wg, nt_sh d m kt)) d m (fun i => (nI i, nt_sh d i sa, nt_sh d i sb, nt_sh d i wg, nt_sh d i kt)) (by omega) (by omega) (fun j hj1 hj2 => by
      show (if nI m ≤ nI j then _ else _) = _
      rw [if_neg (nI_ge hj2 (by omega)), nI_1]
      simp only [n_ck (show j + 1 < 12 by omega) (show 12 < 2 ^ 31 by omega), n_ck (show j < 12 by omega) (show 12 < 2 ^ 31 by omega), n_cl (show j < 2 ^ 31 by omega), n_cl (show j + 1 < 2 ^ 31 by omega), nt_sh_step d j _ hj1]) (by
      show (if nI m ≤ nI m then _ else _) = _
      rw [if_pos (nI_le (Nat.le_refl _) (by omega))])
    simp only [nt_sh_0] at hX hM
    rw [nI_pred, hX, hM]
    simp only [fw_ob, pX3_forgetFewest_eq]
    refine ⟨_, _, _, _, _, _, _, _, _, _, _, _, rfl, rfl, ?_⟩
    refine ⟨n, m, nt_sh d m A, nt_sh d m B, nt_sh d m w, nt_sh d m k, ⟨⟨h2, h7, by omega⟩, fun j hj2 => ?_⟩, ⟨rfl, rfl, fun j hj2 => ?_⟩, ⟨rfl, rfl, fun j hj2 => ?_⟩, nt_C0⟩
    · unfold nt_sh
      by_cases e : d ≤ j ∧ j < m
      · simp only [e, if_pos, and_self]; exact hj (j + 1) (by omega)
      · simp only [e, if_false]; exact hj j (by omega)
    · unfold nt_sh
      by_cases e : d ≤ j ∧ j < m
      · simp only [e, if_pos, and_self]; exact hx (j + 1) (by omega)
      · simp only [e, if_false]; exact hx j (by omega)
    · unfold nt_sh
      by_cases e : d ≤ j ∧ j < m
      · simp only [e, if_pos, and_self]; exact hm (j + 1) (by omega)
      · simp only [e, if_false]; exact hm j (by omega)
  · rw [if_pos c, if_pos c]
    exact ⟨_, _, _, _, _, _, _, _, _, _, _, _, rfl, rfl, h0⟩
