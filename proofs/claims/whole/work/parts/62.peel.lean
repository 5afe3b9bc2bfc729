/-! ===== keeping just a set of lines; peel ===== -/
def nt_ks (w : Nat → Nat) (S : Nat) : Nat → Nat := fun j => if S.testBit j = true then w j else 0
section KEEP
variable {n m : Nat} {A B w k : Nat → Nat}
theorem nt_ok_ks (hok : nt_ok n m A B w k) (S : Nat) : nt_ok n m A B w (nt_ks w S) := by
  refine ⟨hok.1, fun j hj => ?_⟩
  obtain ⟨x1, x2, x3, x4, x5⟩ := hok.2 j hj
  refine ⟨x1, x2, x3, x4, ?_⟩
  unfold nt_ks
  split <;> omega
theorem nt_set_ks (hok : nt_ok n m A B w k) {S : Nat} (hS : S < 2 ^ m) : nt_set (fun j => decide (0 < nt_ks w S j)) m = S := by
  apply nt_ext (nt_set_lt _ m) hS
  intro i hi
  rw [nt_set_bit]
  have := (hok.2 i hi).2.2.1
  unfold nt_ks
  cases hb : S.testBit i with
  | false => simp
  | true => simp [hi]; omega
/-- new kept weights in both -/
theorem fw_R_ks {nc lc : Int32} {le ge wt kp fs : Nat → Int32} {nn ln : Int32} {sa sb wg kt : Nat → Int32} (hok : nt_ok n m A B w k) (hX : nt_X n m A B w k nc lc le ge wt kp) (hM : nt_X n m A B w k nn ln sa sb wg kt) (hC : nt_C n m A B w fs) {S : Nat} {kp' kt' : Nat → Int32} (h1 : ∀ j, j < m → kp' j = nI (nt_ks w S j)) (h2 : ∀ j, j < m → kt' j = nI (nt_ks w S j)) : fw_R nc lc le ge wt kp' fs nn ln sa sb wg kt' :=
  ⟨n, m, A, B, w, nt_ks w S, nt_ok_ks hok S, ⟨hX.1, hX.2.1, fun j hj => ⟨(hX.2.2 j hj).1, (hX.2.2 j hj).2.1, (hX.2.2 j hj).2.2.1, h1 j hj⟩⟩, ⟨hM.1, hM.2.1, fun j hj => ⟨(hM.2.2 j hj).1, (hM.2.2 j hj).2.1, (hM.2.2 j hj).2.2.1, h2 j hj⟩⟩, hC⟩
theorem pX3_keepJust_eq {nc lc : Int32} {le ge wt kp : Nat → Int32} (hok : nt_ok n m A B w k) (hX : nt_X n m A B w k nc lc le ge wt kp) {S : Nat} (hS : S < 2 ^ m) (kp0 : Nat → Int32) : ∃ kp', pX3_keepJust lc wt kp0 (nI S) = some (nI (nt_pc S m), kp') ∧ ∀ j, j < m → kp' j = nI (nt_ks w S j) := by
  have h12 := hok.1.2.2
  have hp := n_p12 h12
  have hlc := hX.2.1
  subst hlc
  unfold pX3_keepJust
  obtain ⟨e, g1, g2⟩ := fw_loop (f := pX3_keepJust_2 (nI S) (nI m) wt) (Q := fun e => ∀ j, j < m → e.2 j = nI (nt_ks w S j)) (fun i v => v.1 = nI i ∧ ∀ j, j < i → v.2 j = nI (nt_ks w S j)) 0 m ((0 : Int32), kp0) (by omega) (by omega) ⟨rfl, fun j hj => by omega⟩ (fun i v hi hv => by
    obtain ⟨x1, fr'⟩ := v
    obtain ⟨r1, r2⟩ := hv
    dsimp only at r1 r2
    subst r1
    left
    dsimp only [pX3_keepJust_2]
    rw [if_neg (nI_ge hi (by omega)), pX3_isIn_eq (by omega) (show i < 31 by omega), fw_ob]
    simp only [n_ck (show i < 12 by omega) (show 12 < 2 ^ 31 by omega), n_cl (show i < 2 ^ 31 by omega), nI_1, bb_0, (hX.2.2 i hi).2.2.1]
    cases hb : S.testBit i with
    | false =>
      rw [if_pos rfl]
      refine ⟨_, rfl, rfl, fun j hj' => ?_⟩
      show upd fr' i 0 j = _
      unfold upd
      by_cases e : j = i
      · simp [e, nt_ks, hb]; rfl
      · simp only [e, if_false]; exact r2 j (by omega)
    | true =>
      rw [if_neg (by decide)]
      refine ⟨_, rfl, rfl, fun j hj' => ?_⟩
      show upd fr' i (nI (w i)) j = _
      unfold upd
      by_cases e : j = i
      · simp [e, nt_ks, hb]
      · simp only [e, if_false]; exact r2 j (by omega)) (fun v hv => by
    obtain ⟨x1, fr'⟩ := v
    obtain ⟨r1, r2⟩ := hv
    dsimp only at r1 r2
    subst r1
    dsimp only [pX3_keepJust_2]
    rw [if_pos (nI_le (Nat.le_refl _) (by omega))]
    exact ⟨_, rfl, r2⟩)
  obtain ⟨x, y⟩ := e
  rw [g1, fw_ob, bc_m h12 hS]
  exact ⟨y, rfl, g2⟩
/-- the reference's loop that keeps a set -/
theorem pX4_keepLoop_eq {nc lc : Int32} {le ge wt kp : Nat → Int32} (hok : nt_ok n m A B w k) (hX : nt_X n m A B w k nc lc le ge wt kp) {S : Nat} (hS : S < 2 ^ m) (kp0 : Nat → Int32) : ∃ kp', fw_wh (pX4_thin_21 (nI S) lc wt) fw_N ((0 : Int32), kp0) = some (nI m, kp') ∧ ∀ j, j < m → kp' j = nI (nt_ks w S j) := by
  have h12 := hok.1.2.2
  have hp := n_p12 h12
  have hlc := hX.2.1
  subst hlc
  obtain ⟨e, g1, g2⟩ := fw_loop (f := pX4_thin_21 (nI S) (nI m) wt) (Q := fun e => e.1 = nI m ∧ ∀ j, j < m → e.2 j = nI (nt_ks w S j)) (fun i v => v.1 = nI i ∧ ∀ j, j < i → v.2 j = nI (nt_ks w S j)) 0 m ((0 : Int32), kp0) (by omega) (by omega) ⟨rfl, fun j hj => by omega⟩ (fun i v hi hv => by
    obtain ⟨x1, fr'⟩ := v
    obtain ⟨r1, r2⟩ := hv
    dsimp only at r1 r2
    subst r1
    left
    dsimp only [pX4_thin_21]
    rw [if_neg (nI_ge hi (by omega)), n_bit (show S < 2 ^ 31 by omega) (show i < 31 by omega)]
    simp only [n_ck (show i < 12 by omega) (show 12 < 2 ^ 31 by omega), n_cl (show i < 2 ^ 31 by omega), nI_1, bb_1, (hX.2.2 i hi).2.2.1]
    cases hb : S.testBit i with
    | false =>
      rw [if_neg (by decide)]
      refine ⟨_, rfl, rfl, fun j hj' => ?_⟩
      show upd fr' i 0 j = _
      unfold upd
      by_cases e : j = i
      · simp [e, nt_ks, hb]; rfl
      · simp only [e, if_false]; exact r2 j (by omega)
    | true =>
      rw [if_pos rfl]
      refine ⟨_, rfl, rfl, fun j hj' => ?_⟩
      show upd fr' i (nI (w i)) j = _
      unfold upd
      by_cases e : j = i
      · simp [e, nt_ks, hb]
      · simp only [e, if_false]; exact r2 j (by omega)) (fun v hv => by
    obtain ⟨x1, fr'⟩ := v
    obtain ⟨r1, r2⟩ := hv
    dsimp only at r1 r2
    subst r1
    dsimp only [pX4_thin_21]
    rw [if_pos (nI_le (Nat.le_refl _) (by omega))]
    exact ⟨_, rfl, rfl, r2⟩)
  obtain ⟨x, y⟩ := e
  obtain ⟨g3, g4⟩ := g2
  dsimp only at g3 g4
  subst g3
  exact ⟨y, g1, g4⟩
theorem pX4_keptMany_ks {kt' : Nat → Int32} (hok : nt_ok n m A B w k) {S : Nat} (hS : S < 2 ^ m) (h : ∀ j, j < m → kt' j = nI (nt_ks w S j)) : pX4_keptMany (nI m) kt' = some (nI (nt_pc S m)) := by
  rw [pX4_keptMany_eq hok.1.2.2 (kk := nt_ks w S) (fun j hj => ⟨h j hj, by have := ((nt_ok_ks hok S).2 j hj).2.2.2.2; omega⟩), nt_set_ks hok hS]
end KEEP
theorem st_peel (nc : Int32) (lc : Int32) (le : Nat → Int32) (ge : Nat → Int32) (wt : Nat → Int32) (kp : Nat → Int32) (fs : Nat → Int32) (nn : Int32) (ln : Int32) (sa : Nat → Int32) (sb : Nat → Int32) (wg : Nat → Int32) (kt : Nat → Int32) (h : fw_R nc lc le ge wt kp fs nn ln sa sb wg kt) (fo : Nat → Int32) (po : Nat → Int32) (fr : Nat → Int32) (pt : Nat → Int32) (a1 : Int32) : ∃ (r : Int32) (kp' : Nat → Int32) (fo' : Nat → Int32) (po' : Nat → Int32) (kt' : Nat → Int32) (fr' : Nat → Int32) (pt' : Nat → Int32), pX3_peel lc le ge wt kp fo po a1 = some (r, kp', fo', po') ∧ pX4_peel nn ln sa sb wg kt fr pt a1 = some (r, kt', fr', pt') ∧ fw_R nc lc le ge wt kp' fs nn ln sa sb wg kt' := by
  have h0 := h
  obtain ⟨n, m, A, B, w, k, hok, hX, hM, hC⟩ := h
  have h12 := hok.1.2.2
  have e3 := hX.2.1
  have e4 := hM.2.1
  subst e3
  subst e4
  obtain ⟨R, h1, h2, h3⟩ := fr_R hok
  obtain ⟨fo', po', x1, x2⟩ := pX3_peelForests_eq hok hX fo po h1 h2 h3
  obtain ⟨fr', pt', y1, y2⟩ := pX4_findForests_eq hok hM fr pt h1 h2 h3
  have hF := fr_F_le A B m R (by omega)
  unfold pX3_peel pX4_peel
  rw [x1, fw_ob, y1, fw_ob, pX3_isWithin_eq, pX4_in_eq, fw_ob, fw_ob]
  simp only [bb_0, decide_eq_false_iff_not]
  by_cases c : ¬ a1 < 0 ∧ ¬ 12 < a1
  · rw [if_neg (not_not_intro c), if_neg (not_not_intro c)]
    rcases n_within a1 (a := 0) (b := 12) (by omega) (by omega) with z | z | ⟨f, hf1, hf2, rfl⟩
    · exact absurd z c.1
    · exact absurd z c.2
    · generalize hS : nt_set (fun j => decide (fr_F A B m R j ≤ f)) m = S
      have hSl : S < 2 ^ m := by rw [← hS]; exact nt_set_lt _ m
      have hx := fw_from (f := pX3_peel_22 (nI f) (nI m) fo') (e := (nI S, nI m)) 0 m (fun i => (nI (nt_set (fun j => decide (fr_F A B m R j ≤ f)) i), nI i)) (by omega) (by omega) (fun j _ hj => by
        have hl := nt_set_lt (fun j => decide (fr_F A B m R j ≤ f)) j
        have hFj := hF j
        dsimp only [pX3_peel_22]
        rw [if_neg (nI_ge hj (by omega)), n_ck (show j < 12 by omega) (by omega), n_cl (by omega), x2 j hj, n_orp hl (by omega), nI_1]
        simp only [n_lt (show f < 2 ^ 31 by omega) (show fr_F A B m R j < 2 ^ 31 by omega)]
        show _ = some (Sum.inl (nI (nt_set (fun j => decide (fr_F A B m R j ≤ f)) j + if decide (fr_F A B m R j ≤ f) = true then 2 ^ j else 0), nI (j + 1)))
        by_cases e : f < fr_F A B m R j
        · simp [e, show ¬ fr_F A B m R j ≤ f by omega]
        · simp [e, show fr_F A B m R j ≤ f by omega]) (by
        dsimp only [pX3_peel_22]
        rw [if_pos (nI_le (Nat.le_refl _) (by omega)), hS])
      have hx' : fw_wh (pX3_peel_22 (nI f) (nI m) fo') fw_N ((0 : Int32), (0 : Int32)) = some (nI S, nI m) := hx
      obtain ⟨kp', k1, k2⟩ := pX3_keepJust_eq hok hX hSl kp
      have hbit : ∀ j, j < m → S.testBit j = decide (fr_F A B m R j ≤ f) := fun j hj => by rw [← hS, nt_set_bit]; simp [hj]
      obtain ⟨e, g1, g2⟩ := fw_loop (f := pX4_peel_20 (nI f) (nI m) wg fr') (Q := fun e => ∀ j, j < m → e.2 j = nI (nt_ks w S j)) (fun i v => v.1 = nI i ∧ ∀ j, j < i → v.2 j = nI (nt_ks w S j)) 0 m ((0 : Int32), kt) (by omega) (by omega) ⟨rfl, fun j hj => by omega⟩ (fun i v hi hv => by
        obtain ⟨z1, z2⟩ := v
        obtain ⟨r1, r2⟩ := hv
        dsimp only at r1 r2
        subst r1
        left
        have hFi := hF i
        dsimp only [pX4_peel_20]
        rw [if_neg (nI_ge hi (by omega))]
        simp only [n_ck (show i < 12 by omega) (show 12 < 2 ^ 31 by omega), n_cl (show i < 2 ^ 31 by omega), nI_1, y2 i hi, n_lt (show f < 2 ^ 31 by omega) (show fr_F A B m R i < 2 ^ 31 by omega), (hM.2.2 i hi).2.2.1]
        by_cases e : f < fr_F A B m R i
        · rw [if_pos e]
          refine ⟨_, rfl, rfl, fun j hj' => ?_⟩
          show upd z2 i 0 j = _
          unfold upd
          by_cases e' : j = i
          · simp [e', nt_ks, hbit i hi, show ¬ fr_F A B m R i ≤ f by omega]; rfl
          · simp only [e', if_false]; exact r2 j (by omega)
        · rw [if_neg e]
          refine ⟨_, rfl, rfl, fun j hj' => ?_⟩
          show upd z2 i (nI (w i)) j = _
          unfold upd
          by_cases e' : j = i
          · simp [e', nt_ks, hbit i hi, show fr_F A B m R i ≤ f by omega]
          · simp only [e', if_false]; exact r2 j (by omega)) (fun v hv => by
        obtain ⟨z1, z2⟩ := v
        obtain ⟨r1, r2⟩ := hv
        dsimp only at r1 r2
        subst r1
        dsimp only [pX4_peel_20]
        rw [if_pos (nI_le (Nat.le_refl _) (by omega))]
        exact ⟨_, rfl, r2⟩)
      obtain ⟨z1, z2⟩ := e
      rw [hx', fw_ob, k1, fw_ob, g1, fw_ob, pX4_keptMany_ks hok hSl g2, fw_ob]
      exact ⟨_, _, _, _, _, _, _, rfl, rfl, fw_R_ks hok hX hM hC k2 g2⟩
  · rw [if_pos c, if_pos c]
    exact ⟨_, _, _, _, _, _, _, rfl, rfl, h0⟩
