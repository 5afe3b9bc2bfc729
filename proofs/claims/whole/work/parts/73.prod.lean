/-! ===== trees, resistances, loads ===== -/
theorem fm_st_zero (A B W : Nat → Nat) (S j : Nat) (h : (fm_st A B W S j).1 = 0) : ∀ q, (fm_st A B W S (j + q)).1 = 0 := by
  intro q
  induction q with
  | zero => exact h
  | succ q ih =>
    rw [← Nat.add_assoc]
    simp only [fm_st]
    by_cases h1 : S.testBit (j + q) = true
    · rw [if_pos h1]
      by_cases h2 : (fm_st A B W S (j + q)).2 (A (j + q)) = (fm_st A B W S (j + q)).2 (B (j + q))
      · rw [if_pos h2]
      · rw [if_neg h2]
        show (fm_st A B W S (j + q)).1 * _ = 0
        rw [ih, Nat.zero_mul]
    · rw [if_neg h1]; exact ih
theorem lg_le0 {V : Nat} (h : V < 2 ^ 63) : (lg_cmp (lN V) 0 ≤ (0 : Int32)) = (V = 0) := by
  apply propext
  by_cases e : V = 0
  · subst e
    have : lg_cmp (lN 0) 0 = 0 := by rw [lg0]; rfl
    rw [this]
    exact ⟨fun _ => rfl, fun _ => by decide⟩
  · have hp : lN V > 0 := (pk_lLT (a := 0) (b := V) (by omega) h).mpr (by omega)
    unfold lg_cmp
    rw [if_pos hp]
    exact ⟨fun z => absurd z (by decide), fun z => absurd z e⟩
theorem nt_pc_mono (S : Nat) {i j : Nat} (h : i ≤ j) : nt_pc S i ≤ nt_pc S j := by
  induction j with
  | zero => rw [show i = 0 by omega]; exact Nat.le_refl _
  | succ j ih =>
    by_cases e : i = j + 1
    · rw [e]; exact Nat.le_refl _
    · have := ih (by omega)
      simp only [nt_pc]
      omega
section PRD
variable {n m : Nat} {A B w k : Nat → Nat}
theorem fm_60 {p : Nat} (h : p ≤ 6) : 60 ^ p ≤ 46656000000 := Nat.pow_le_pow_right (n := 60) (by omega) h
theorem pX4_products_36_eq {nc lc : Int32} {le ge wt kp : Nat → Int32} (hok : nt_ok n m A B w k) (hX : nt_X n m A B w k nc lc le ge wt kp) (way : Int32) {S : Nat} (hS : S < 2 ^ m) (hpc : nt_pc S m ≤ 6) {pt : Nat → Int32} (hpt : ∀ u, u < 7 → pt u = nI u) : ∃ (i' : Int32) (pt' : Nat → Int32), fw_wh (pX4_products_36 way (nI S) nc lc le ge wt kp) fw_N ((1 : Int64), (0 : Int32), pt) = some (lN (fm_st A B (nt_wy w k way) S m).1, i', pt') ∧ ((fm_st A B (nt_wy w k way) S m).1 ≠ 0 → ∀ u, u < n → pt' u = nI ((fm_st A B (nt_wy w k way) S m).2 u)) := by
  obtain ⟨⟨h2, h7, h12⟩, hj⟩ := id hok
  obtain ⟨rfl, rfl, hx⟩ := id hX
  have hp := n_p12 h12
  have hends : ∀ j, j < m → A j < n ∧ B j < n := fun j h => ⟨by have := hj j h; omega, (hj j h).2.1⟩
  obtain ⟨e, h1, h2⟩ := fw_loop (f := pX4_products_36 way (nI S) (nI n) (nI m) le ge wt kp) (Q := fun e => e.1 = lN (fm_st A B (nt_wy w k way) S m).1 ∧ ((fm_st A B (nt_wy w k way) S m).1 ≠ 0 → ∀ u, u < n → e.2.2 u = nI ((fm_st A B (nt_wy w k way) S m).2 u))) (fun j v => v.1 = lN (fm_st A B (nt_wy w k way) S j).1 ∧ v.2.1 = nI j ∧ ∀ u, u < n → v.2.2 u = nI ((fm_st A B (nt_wy w k way) S j).2 u)) 0 m ((1 : Int64), (0 : Int32), pt) (by omega) (by omega) ⟨rfl, rfl, fun u hu => hpt u (by omega)⟩ (fun j v hjm hv => by
    obtain ⟨x, y, z⟩ := v
    obtain ⟨rfl, rfl, hz⟩ := hv
    have hw := nt_wy_le hok way hjm
    have hl := fm_st_le A B (nt_wy w k way) m S (fun j hj => nt_wy_le hok way hj) j (by omega)
    have hm := nt_pc_mono S (show j ≤ m by omega)
    have h60 := fm_60 (show nt_pc S j ≤ 6 by omega)
    have hst := fm_st_ok A B (nt_wy w k way) S n m hends j (by omega)
    dsimp only [pX4_products_36]
    rw [if_neg (nI_ge hjm (by omega))]
    simp only [lg_le0 (show (fm_st A B (nt_wy w k way) S j).1 < 2 ^ 63 by omega)]
    by_cases hv0 : (fm_st A B (nt_wy w k way) S j).1 = 0
    · right
      rw [if_pos hv0]
      have hz0 := fm_st_zero A B (nt_wy w k way) S j hv0 (m - j)
      rw [show j + (m - j) = m by omega] at hz0
      exact ⟨_, rfl, by show lN _ = lN _; rw [hv0, hz0], fun q => absurd hz0 q⟩
    · left
      rw [if_neg hv0, n_bit (show S < 2 ^ 31 by omega) (show j < 31 by omega)]
      simp only [bb_1]
      have est : fm_st A B (nt_wy w k way) S (j + 1) = if S.testBit j then (if (fm_st A B (nt_wy w k way) S j).2 (A j) = (fm_st A B (nt_wy w k way) S j).2 (B j) then (0, (fm_st A B (nt_wy w k way) S j).2) else ((fm_st A B (nt_wy w k way) S j).1 * nt_wy w k way j, jn (fm_st A B (nt_wy w k way) S j).2 (A j) (B j))) else fm_st A B (nt_wy w k way) S j := rfl
      rw [est]
      generalize fm_st A B (nt_wy w k way) S j = s at *
      obtain ⟨V, P⟩ := s
      dsimp only at *
      by_cases hb : S.testBit j = true
      · rw [if_pos hb, if_pos hb]
        obtain ⟨pt', j1, j2⟩ := pX4_join_eq (n := n) h7 (sa := le) (sb := ge) (pt := z) (P := P) (fun u hu => ⟨hz u hu, by have := (hst u hu).1; omega⟩) (a := A j) (b := B j) (j := j) (by omega) (hx j hjm).1 (hx j hjm).2.1 (hends j hjm).1 (hends j hjm).2
        rw [j1, fw_ob]
        dsimp only
        simp only [bb_0, decide_eq_false_iff_not, ne_eq, Classical.not_not]
        by_cases he : P (A j) = P (B j)
        · rw [if_pos he, if_pos he, nI_1]
          refine ⟨_, rfl, rfl, rfl, fun u hu => ?_⟩
          have := j2 u hu
          rw [if_neg (fun z => z he)] at this
          exact this
        · rw [if_neg he, if_neg he, n_ck (show j < 12 by omega) (by omega), n_ck (show j < 12 by omega) (by omega), n_cl (by omega), nI_1]
          have pj : ∀ u, u < n → pt' u = nI (jn P (A j) (B j) u) := fun u hu => by
            have := j2 u hu
            rw [if_pos he] at this
            exact this
          by_cases hwy : way = 0
          · rw [if_pos hwy]
            refine ⟨_, rfl, ?_, rfl, pj⟩
            show lN V * (wt j).toInt64 = lN (V * nt_wy w k way j)
            have : nt_wy w k way j = w j := by unfold nt_wy; rw [if_pos hwy]
            rw [this] at hw
            rw [this, (hx j hjm).2.2.1, nI_l (by omega), lN_mul]
          · rw [if_neg hwy]
            refine ⟨_, rfl, ?_, rfl, pj⟩
            show lN V * (kp j).toInt64 = lN (V * nt_wy w k way j)
            have : nt_wy w k way j = k j := by unfold nt_wy; rw [if_neg hwy]
            rw [this] at hw
            rw [this, (hx j hjm).2.2.2, nI_l (by omega), lN_mul]
      · rw [if_neg hb, if_neg hb, nI_1]
        exact ⟨_, rfl, rfl, rfl, hz⟩) (fun v hv => by
    obtain ⟨x, y, z⟩ := v
    obtain ⟨rfl, rfl, hz⟩ := hv
    dsimp only [pX4_products_36]
    rw [if_pos (nI_le (Nat.le_refl _) (by omega))]
    exact ⟨_, rfl, rfl, fun _ => hz⟩)
  obtain ⟨x9, y9, z9⟩ := e
  have e1 : x9 = _ := h2.1
  exact ⟨y9, z9, by rw [h1, e1], h2.2⟩
theorem pX4_products_eq {nc lc : Int32} {le ge wt kp : Nat → Int32} (hok : nt_ok n m A B w k) (hX : nt_X n m A B w k nc lc le ge wt kp) (pt : Nat → Int32) (way : Int32) {a b : Nat} (ha : a < n) (hb : b < n) : ∃ pt', pX4_products nc lc le ge wt kp pt (nI (n - fm_nr a b)) way (nI a) (nI b) = some (lN (nsum (fm_val A B (nt_wy w k way) m n a b) (2 ^ m)), pt') := by
  obtain ⟨⟨h2, h7, h12⟩, hj⟩ := id hok
  obtain ⟨rfl, rfl, hx⟩ := id hX
  have hp := n_p12 h12
  have hnr : 1 ≤ fm_nr a b := by unfold fm_nr; split <;> omega
  unfold pX4_products
  obtain ⟨e, h1, h2⟩ := fw_loop (f := pX4_products_6 (nI (n - fm_nr a b)) way (nI a) (nI b) (nI n) (nI m) le ge wt kp) (Q := fun e => e.1 = lN (nsum (fm_val A B (nt_wy w k way) m n a b) (2 ^ m))) (fun i v => v.1 = lN (nsum (fm_val A B (nt_wy w k way) m n a b) i) ∧ v.2.1 = nI i) 0 (2 ^ m) ((0 : Int64), (0 : Int32), pt) (Nat.zero_le _) (by omega) ⟨rfl, rfl⟩ (fun S v hS hv => by
    obtain ⟨x, y, z⟩ := v
    obtain ⟨rfl, rfl⟩ := hv
    left
    dsimp only [pX4_products_6]
    have hpl := nt_pc_le S m
    rw [n_shl (show m < 31 by omega), if_neg (nI_ge hS (by omega)), pX4_many_eq h12 hS, fw_ob]
    simp only [n_eq (show nt_pc S m < 2 ^ 31 by omega) (show n - fm_nr a b < 2 ^ 31 by omega)]
    have hval : nsum (fm_val A B (nt_wy w k way) m n a b) (S + 1) = nsum (fm_val A B (nt_wy w k way) m n a b) S + (if nt_pc S m = n - fm_nr a b ∧ fm_sep (fm_st A B (nt_wy w k way) S m).2 a b then (fm_st A B (nt_wy w k way) S m).1 else 0) := rfl
    by_cases hpc : nt_pc S m = n - fm_nr a b
    · rw [if_pos hpc]
      obtain ⟨pt1, a1, a2⟩ := pX4_apart_eq z
      rw [a1, fw_ob]
      obtain ⟨i', pt2, b1, b2⟩ := pX4_products_36_eq hok hX way hS (by omega) a2
      rw [b1, fw_ob]
      dsimp only
      simp only [n_eq (show a < 2 ^ 31 by omega) (show b < 2 ^ 31 by omega), nI_1]
      by_cases hab : a = b
      · rw [if_pos hab]
        refine ⟨_, rfl, ?_, rfl⟩
        show lN _ + lN _ = lN (nsum _ (S + 1))
        rw [hval, if_pos ⟨hpc, Or.inl hab⟩, lN_add]
      · rw [if_neg hab, n_ck (show a < 7 by omega) (by omega), n_ck (show b < 7 by omega) (by omega), n_cl (by omega), n_cl (by omega)]
        by_cases hv0 : (fm_st A B (nt_wy w k way) S m).1 = 0
        · have hv1 : nsum (fm_val A B (nt_wy w k way) m n a b) (S + 1) = nsum (fm_val A B (nt_wy w k way) m n a b) S := by
            rw [hval, hv0]; split <;> rfl
          rw [hv0]
          split
          · refine ⟨_, rfl, ?_, rfl⟩
            show lN _ + (0 : Int64) = lN (nsum _ (S + 1))
            rw [hv1]; grind
          · refine ⟨_, rfl, ?_, rfl⟩
            show lN _ + lN 0 = lN (nsum _ (S + 1))
            rw [hv1, lN_add]; rfl
        · have hends : ∀ j, j < m → A j < n ∧ B j < n := fun j h => ⟨by have := hj j h; omega, (hj j h).2.1⟩
          have hst := fm_st_ok A B (nt_wy w k way) S n m hends m (Nat.le_refl m)
          have oa := (hst a ha).1
          have ob := (hst b hb).1
          rw [b2 hv0 a ha, b2 hv0 b hb]
          simp only [n_eq (show (fm_st A B (nt_wy w k way) S m).2 a < 2 ^ 31 by omega) (show (fm_st A B (nt_wy w k way) S m).2 b < 2 ^ 31 by omega)]
          by_cases hpp : (fm_st A B (nt_wy w k way) S m).2 a = (fm_st A B (nt_wy w k way) S m).2 b
          · rw [if_pos hpp]
            refine ⟨_, rfl, ?_, rfl⟩
            show lN _ + (0 : Int64) = lN (nsum _ (S + 1))
            rw [hval, if_neg (fun q => q.2.elim hab (fun r => r hpp))]
            show lN _ + (0 : Int64) = lN (_ + 0)
            rw [Nat.add_zero]; grind
          · rw [if_neg hpp]
            refine ⟨_, rfl, ?_, rfl⟩
            show lN _ + lN _ = lN (nsum _ (S + 1))
            rw [hval, if_pos ⟨hpc, Or.inr hpp⟩, lN_add]
    · rw [if_neg hpc, nI_1]
      refine ⟨_, rfl, ?_, rfl⟩
      show lN _ = lN (nsum _ (S + 1))
      rw [hval, if_neg (fun q => hpc q.1)]
      rfl) (fun v hv => by
    obtain ⟨x, y, z⟩ := v
    obtain ⟨rfl, rfl⟩ := hv
    dsimp only [pX4_products_6]
    rw [n_shl (show m < 31 by omega), if_pos (nI_le (Nat.le_refl _) (by omega))]
    exact ⟨_, rfl, rfl⟩)
  obtain ⟨x9, y9, z9⟩ := e
  have h2 : x9 = _ := h2
  rw [h1, fw_ob, h2]
  exact ⟨z9, rfl⟩
theorem fm_tot (hok : nt_ok n m A B w k) (way : Int32) {a b : Nat} : nsum (fm_val A B (nt_wy w k way) m n a b) (2 ^ m) ≤ 46656000000 * 4096 := by
  obtain ⟨⟨h2, h7, h12⟩, hj⟩ := id hok
  have hp := n_p12 h12
  have hnr : 1 ≤ fm_nr a b := by unfold fm_nr; split <;> omega
  have h := nsum_le (f := fm_val A B (nt_wy w k way) m n a b) (c := 46656000000) (m := 2 ^ m) (fun S hS => by
    unfold fm_val
    by_cases c : nt_pc S m = n - fm_nr a b ∧ fm_sep (fm_st A B (nt_wy w k way) S m).2 a b
    · rw [if_pos c]
      have hl := fm_st_le A B (nt_wy w k way) m S (fun j hj => nt_wy_le hok way hj) m (Nat.le_refl m)
      have h60 := fm_60 (show nt_pc S m ≤ 6 by omega)
      omega
    · rw [if_neg c]; omega)
  have h3 : 46656000000 * 2 ^ m ≤ 46656000000 * 4096 := Nat.mul_le_mul_left _ hp
  omega
theorem mn_to_K (hok : nt_ok n m A B w k) (way : Int32) {a b : Nat} (ha : a < n) (hb : b < n) {l : List Nat} (hl : l.Nodup) (hm : ∀ z, z ∈ l ↔ z < n ∧ z ≠ a ∧ z ≠ b) : dG (fm_B A B (nt_wy w k way) m 0) (l.map mn_e) = lN (nsum (fm_val A B (nt_wy w k way) m n a b) (2 ^ m)) := by
  obtain ⟨⟨h2, h7, h12⟩, hj⟩ := id hok
  have hends : ∀ j, j < m → A j < n ∧ B j < n := fun j h => ⟨by have := hj j h; omega, (hj j h).2.1⟩
  rw [← fm_main A B (nt_wy w k way) m n a b hends ha hb]
  have p : l.Perm (fm_K n (fun u => u) a b) := (List.perm_ext_iff_of_nodup hl (fm_nd n _ a b)).mpr (fun z => by
    rw [hm, fm_mem]
    exact ⟨fun h => ⟨h.1, rfl, h.2.1, h.2.2⟩, fun h => ⟨h.1, h.2.2.1, h.2.2.2⟩⟩)
  exact dG_perm _ (p.map mn_e)
theorem pX3_treeProducts_eq {nc lc : Int32} {le ge wt kp : Nat → Int32} (hok : nt_ok n m A B w k) (hX : nt_X n m A B w k nc lc le ge wt kp) (mx : Nat → Int64) (ch : Nat → Int32) (mo : Nat → Int64) (way : Int32) : ∃ (mx' : Nat → Int64) (ch' : Nat → Int32) (mo' : Nat → Int64) (ms' : Int32), pX3_treeProducts nc lc le ge wt kp mx ch mo way = some (lN (nsum (fm_val A B (nt_wy w k way) m n 0 0) (2 ^ m)), mx', ch', mo', ms') := by
  obtain ⟨⟨h2, h7, h12⟩, hj⟩ := id hok
  unfold pX3_treeProducts
  obtain ⟨mx', q1, q2⟩ := pX3_fillMinors_eq hok hX mx way
  rw [q1, fw_ob]
  dsimp only
  obtain ⟨l, ch', mo', r1, r2, r3⟩ := pX1_without_eq (n := n) (X := 1) (mx := mx') h7 (by omega) ch mo (fm_B A B (nt_wy w k way) m 0) q2
  rw [l_1, r1, fw_ob]
  dsimp only
  rw [mn_to_K hok way (a := 0) (b := 0) (by omega) (by omega) r2 (fun z => by
    rw [r3, show (1 : Nat) = 2 ^ 0 from rfl, Nat.testBit_two_pow, decide_eq_false_iff_not]
    constructor
    · intro h; exact ⟨h.1, fun e => h.2 e.symm, fun e => h.2 e.symm⟩
    · intro h; exact ⟨h.1, fun e => h.2.1 e.symm⟩)]
  exact ⟨_, _, _, _, rfl⟩
theorem pX3_partingProducts_eq {nc lc : Int32} {le ge wt kp : Nat → Int32} (hok : nt_ok n m A B w k) (hX : nt_X n m A B w k nc lc le ge wt kp) (mx : Nat → Int64) (ch : Nat → Int32) (mo : Nat → Int64) (way : Int32) {a b : Nat} (ha : a < n) (hb : b < n) : ∃ (mx' : Nat → Int64) (ch' : Nat → Int32) (mo' : Nat → Int64) (ms' : Int32), pX3_partingProducts nc lc le ge wt kp mx ch mo (nI a) (nI b) way = some (lN (nsum (fm_val A B (nt_wy w k way) m n a b) (2 ^ m)), mx', ch', mo', ms') := by
  obtain ⟨⟨h2, h7, h12⟩, hj⟩ := id hok
  unfold pX3_partingProducts
  obtain ⟨mx', q1, q2⟩ := pX3_fillMinors_eq hok hX mx way
  rw [q1, fw_ob]
  dsimp only
  have hor : 2 ^ a ||| 2 ^ b < 2 ^ 7 := Nat.or_lt_two_pow (Nat.pow_lt_pow_right (by omega) (by omega)) (Nat.pow_lt_pow_right (by omega) (by omega))
  obtain ⟨l, ch', mo', r1, r2, r3⟩ := pX1_without_eq (n := n) (X := 2 ^ a ||| 2 ^ b) (mx := mx') h7 (by omega) ch mo (fm_B A B (nt_wy w k way) m 0) q2
  rw [n_shl (show a < 31 by omega), n_shl (show b < 31 by omega), n_or, r1, fw_ob]
  dsimp only
  rw [mn_to_K hok way (a := a) (b := b) ha hb r2 (fun z => by
    rw [r3, Nat.testBit_or, Nat.testBit_two_pow, Nat.testBit_two_pow, Bool.or_eq_false_iff, decide_eq_false_iff_not, decide_eq_false_iff_not]
    constructor
    · intro h; exact ⟨h.1, fun e => h.2.1 e.symm, fun e => h.2.2 e.symm⟩
    · intro h; exact ⟨h.1, fun e => h.2.1 e.symm, fun e => h.2.2 e.symm⟩)]
  exact ⟨_, _, _, _, rfl⟩
theorem pX4_hasResistance_eq {nc lc : Int32} {le ge wt kp : Nat → Int32} (hok : nt_ok n m A B w k) (hX : nt_X n m A B w k nc lc le ge wt kp) (pt : Nat → Int32) (up : Int64) (way : Int32) {a b f : Nat} (ha : a < n) (hb : b < n) (hab : a ≠ b) (hf : f ≤ 60) : ∃ (pt' : Nat → Int32) (up' lo' : Int64), pX4_hasResistance nc lc le ge wt kp pt up (nI a) (nI b) way (lN f) = some (bb (decide (nsum (fm_val A B (nt_wy w k way) m n 0 0) (2 ^ m) ≠ 0)), pt', up', lo') ∧ (nsum (fm_val A B (nt_wy w k way) m n 0 0) (2 ^ m) ≠ 0 → up' = lN ((f * nsum (fm_val A B (nt_wy w k way) m n a b) (2 ^ m)) / Nat.gcd (f * nsum (fm_val A B (nt_wy w k way) m n a b) (2 ^ m)) (nsum (fm_val A B (nt_wy w k way) m n 0 0) (2 ^ m))) ∧ lo' = lN (nsum (fm_val A B (nt_wy w k way) m n 0 0) (2 ^ m) / Nat.gcd (f * nsum (fm_val A B (nt_wy w k way) m n a b) (2 ^ m)) (nsum (fm_val A B (nt_wy w k way) m n 0 0) (2 ^ m)))) := by
  obtain ⟨⟨h2, h7, h12⟩, hj⟩ := id hok
  have t0 := fm_tot hok way (a := 0) (b := 0)
  have t1 := fm_tot hok way (a := a) (b := b)
  obtain ⟨pt1, p1⟩ := pX4_products_eq hok hX pt way (a := 0) (b := 0) (by omega) (by omega)
  obtain ⟨rfl, rfl, hx⟩ := id hX
  unfold pX4_hasResistance
  have e1 : nI n - (1 : Int32) = nI (n - fm_nr 0 0) := pk_sub (a := n) (b := 1) (by omega)
  have e2 : nI n - (2 : Int32) = nI (n - fm_nr a b) := by
    have : fm_nr a b = 2 := if_neg hab
    rw [this]
    exact pk_sub (a := n) (b := 2) (by omega)
  rw [e1, l_0, p1, fw_ob]
  dsimp only
  obtain ⟨pt2, p2⟩ := pX4_products_eq hok hX pt1 way (a := a) (b := b) ha hb
  generalize nsum (fm_val A B (nt_wy w k way) m n 0 0) (2 ^ m) = low at *
  generalize nsum (fm_val A B (nt_wy w k way) m n a b) (2 ^ m) = high at *
  have hfu : f * high ≤ 60 * (46656000000 * 4096) := Nat.mul_le_mul hf t1
  simp only [← l_0, lg0, lN_0 (show low < 2 ^ 63 by omega)]
  by_cases h0 : low = 0
  · rw [if_pos h0]
    refine ⟨_, _, _, by rw [decide_eq_false (fun z => z h0)]; rfl, fun z => absurd h0 z⟩
  · rw [if_neg h0, e2, p2, fw_ob]
    dsimp only
    rw [lN_mul, pX4_common_eq (show f * high < 2 ^ 63 by omega) (show low < 2 ^ 62 by omega), fw_ob]
    have hg : 0 < Nat.gcd (f * high) low := Nat.gcd_pos_of_pos_right _ (by omega)
    have hgl : Nat.gcd (f * high) low ≤ low := Nat.gcd_le_right _ (by omega)
    have hcz : ∀ {α : Type} (kk : Option α), fw_czl (lN (Nat.gcd (f * high) low)) kk = kk := fun kk => by
      unfold fw_czl
      rw [if_neg (by rw [lN_0 (by omega)]; omega)]
    rw [hcz, hcz, pk_lDiv (by omega) hg (by omega), pk_lDiv (by omega) hg (by omega)]
    exact ⟨_, _, _, by rw [decide_eq_true h0]; rfl, fun _ => ⟨rfl, rfl⟩⟩
end PRD
