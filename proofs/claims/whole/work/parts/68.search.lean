/-! ===== the search for the fewest lines ===== -/
theorem nt_lt_bit : ∀ (m x y l : Nat), x < 2 ^ m → y < 2 ^ m → x.testBit l = false → y.testBit l = true → (∀ j, l < j → x.testBit j = y.testBit j) → x < y := by
  intro m x y l hx hy h1 h2 h3
  -- the parts above l are one
  have e : x / 2 ^ (l + 1) = y / 2 ^ (l + 1) := by
    apply Nat.eq_of_testBit_eq
    intro i
    rw [Nat.testBit_div_two_pow, Nat.testBit_div_two_pow]
    exact h3 _ (by omega)
  have dx : x / 2 ^ l = 2 * (x / 2 ^ (l + 1)) + x / 2 ^ l % 2 := by
    rw [Nat.pow_succ, ← Nat.div_div_eq_div_mul]; omega
  have dy : y / 2 ^ l = 2 * (y / 2 ^ (l + 1)) + y / 2 ^ l % 2 := by
    rw [Nat.pow_succ, ← Nat.div_div_eq_div_mul]; omega
  rw [Nat.testBit_eq_decide_div_mod_eq, decide_eq_false_iff_not] at h1
  rw [Nat.testBit_eq_decide_div_mod_eq, decide_eq_true_iff] at h2
  have hlt : x / 2 ^ l < y / 2 ^ l := by rw [dx, dy, e]; omega
  rcases Nat.lt_or_ge x y with z | z
  · exact z
  · have := Nat.div_le_div_right (c := 2 ^ l) z
    omega
theorem nt_pc_shift (S o : Nat) : ∀ q, nt_pc (S / 2 ^ o) q + nt_pc S o = nt_pc S (q + o) := by
  intro q
  induction q with
  | zero => rw [Nat.zero_add]; show 0 + _ = _; omega
  | succ q ih =>
    have e1 : nt_pc (S / 2 ^ o) (q + 1) = nt_pc (S / 2 ^ o) q + (if (S / 2 ^ o).testBit q then 1 else 0) := rfl
    have e2 : nt_pc S (q + o + 1) = nt_pc S (q + o) + (if S.testBit (q + o) then 1 else 0) := rfl
    rw [show q + 1 + o = q + o + 1 by omega, e1, e2, Nat.testBit_div_two_pow]
    omega
theorem nt_pc_high {S m : Nat} (hm : m ≤ 12) (hS : S < 2 ^ m) (o : Nat) : nt_pc (S / 2 ^ o) 12 ≤ nt_pc S m := by
  have h := nt_pc_shift S o 12
  have h2 := nt_pc_12 hS (12 + o) (by omega)
  omega
theorem nI_not {S l : Nat} (hl : l < 31) (hb : S.testBit l = true) : nI S &&& (((1 : Int32) <<< (nI l &&& 31)) ^^^ (-1 : Int32)) = nI (S ^^^ 2 ^ l) := by
  rw [n_shl hl]
  apply Int32.toBitVec_inj.1
  show BitVec.ofNat 32 S &&& (BitVec.ofNat 32 (2 ^ l) ^^^ (-1 : Int32).toBitVec) = BitVec.ofNat 32 (S ^^^ 2 ^ l)
  have e : (-1 : Int32).toBitVec = BitVec.allOnes 32 := rfl
  rw [e]
  apply BitVec.eq_of_getLsbD_eq
  intro i hi
  simp only [BitVec.getLsbD_and, BitVec.getLsbD_xor, BitVec.getLsbD_ofNat, BitVec.getLsbD_allOnes, hi, decide_true, Bool.true_and, Nat.testBit_xor, Nat.testBit_two_pow]
  by_cases c : l = i
  · subst c; simp [hb]
  · simp [c]
section SRC
variable {n m : Nat} {A B w k : Nat → Nat}
theorem nt_mono (hok : nt_ok n m A B w k) {S S' : Nat} (h : ∀ q, q < m → S'.testBit q = true → S.testBit q = true) {i j : Nat} (hi : i < n) (hj : j < n) : nt_d A B w S m i j ≤ nt_d A B w S' m i j :=
  nt_d_great (nt_ends hok) (nt_d_pm (nt_ends hok) S m (Nat.le_refl m)) (fun q hq hb => nt_d_line (nt_ends hok) m (Nat.le_refl m) q hq (h q hq hb)) m (Nat.le_refl m) i j hi hj
theorem nt_in_mono (hok : nt_ok n m A B w k) {S S' t : Nat} (h : ∀ q, q < m → S'.testBit q = true → S.testBit q = true) (hS : nt_in n m A B w t S') : nt_in n m A B w t S :=
  fun i j hi hj hf => Nat.le_trans (nt_mono hok h hi hj) (hS i j hi hj hf)
theorem nt_in_all {t : Nat} (ht : 1 ≤ t) : nt_in n m A B w t (2 ^ m - 1) := by
  intro i j _ _ _
  have : 1 * nt_d A B w (2 ^ m - 1) m i j ≤ t * nt_d A B w (2 ^ m - 1) m i j := Nat.mul_le_mul_right _ ht
  omega
theorem nt_few_one {t S S' : Nat} (h : nt_few n m A B w t S) (h' : nt_few n m A B w t S') : S = S' := by
  have a := h.2.2 S' h'.1 h'.2.1
  have b := h'.2.2 S h.1 h.2.1
  omega
theorem bb_n (p : Bool) : bb p = nI (if p then 1 else 0) := by cases p <;> rfl
theorem pX4_many_eq (h12 : m ≤ 12) {S : Nat} (hS : S < 2 ^ m) : pX4_many (nI S) = some (nI (nt_pc S m)) := by
  have hp := n_p12 h12
  unfold pX4_many
  have h := fw_from (f := pX4_many_4 (nI S)) (e := (nI (nt_pc S 12), nI 12)) 0 12 (fun i => (nI (nt_pc S i), nI i)) (by omega) (by omega) (fun j _ hj => by
    dsimp only [pX4_many_4]
    rw [if_neg (show ¬ (12 : Int32) ≤ nI j from nI_ge (b := 12) hj (by omega)), n_bit (by omega) (by omega), bb_n, nI_add, nI_1]
    rfl) (by
    dsimp only [pX4_many_4]
    rw [if_pos (show (12 : Int32) ≤ nI 12 by decide)])
  have h' : fw_wh (pX4_many_4 (nI S)) fw_N ((0 : Int32), (0 : Int32)) = some (nI (nt_pc S 12), nI 12) := h
  rw [h', fw_ob, nt_pc_12 hS 12 h12]
/-- whether a set keeps within the stretch, as the reference finds it -/
theorem pX4_isWithin_eq {nc lc : Int32} {le ge wt kp : Nat → Int32} (hok : nt_ok n m A B w k) (hX : nt_X n m A B w k nc lc le ge wt kp) {wl : Nat → Int32} {GN : Nat → Nat → Nat} (hwl : rep n wl GN) (hGN : fwp n m A B w (2 ^ m - 1) n GN) (tn : Nat → Int32) {S t : Nat} (hS : S < 2 ^ m) (ht : t ≤ 9) : ∃ b tn', pX4_isWithin nc lc le ge wt wl tn (nI S) (nI t) = some (bb b, tn') ∧ (b = true ↔ nt_in n m A B w t S) := by
  obtain ⟨⟨h2, h7, h12⟩, hj⟩ := id hok
  have hp := n_p12 h12
  have hinf : nt_inf = 1000000 := rfl
  have e1 := hX.1
  unfold pX4_isWithin
  obtain ⟨tn', GT, z1, z2, z3⟩ := pX4_findFar_T_eq hok hX (S := S) (by omega) tn
  rw [z1, fw_ob]
  subst e1
  have hN := fun i j (hi : i < n) (hj : j < n) => nt_both hok hGN hi hj
  have hT := fun i j (hi : i < n) (hj : j < n) => nt_both hok z3 hi hj
  have hN63 := fun i j (hi : i < n) (hj : j < n) => nt_d_63 hok (2 ^ m - 1) hi hj
  unfold nt_in
  generalize nt_d A B w (2 ^ m - 1) m = N at *
  generalize nt_d A B w S m = T at *
  obtain ⟨e, g1, g2⟩ := fw_loop (f := pX4_isWithin_14 (nI t) (nI n) wl tn') (Q := fun e => ∃ b, e.1 = bb b ∧ (b = true ↔ ∀ i j, i < n → j < n → N i j < nt_inf → T i j ≤ t * N i j)) (fun q s => s.2 = nI q ∧ ∃ b, s.1 = bb b ∧ (b = true ↔ ∀ i j, i < n → j < n → 7 * i + j < q → N i j < nt_inf → T i j ≤ t * N i j)) 0 49 ((1 : Int32), (0 : Int32)) (by omega) (by omega) ⟨rfl, true, rfl, fun _ i j _ _ h => by omega, fun _ => rfl⟩ (fun q s hq hs => by
    obtain ⟨x3, x4⟩ := s
    obtain ⟨r1, b, r2, r3⟩ := hs
    dsimp only at r1 r2
    subst r1
    subst r2
    left
    have hq7 : 7 * (q / 7) + q % 7 = q := by omega
    have hdiv : nI q / (7 : Int32) = nI (q / 7) := pk_div (a := q) (d := 7) (by omega) (by omega) (by omega)
    have hrem : nI q - nI q / (7 : Int32) * (7 : Int32) = nI (q % 7) := pk_rem (a := q) (d := 7) (by omega) (by omega) (by omega)
    dsimp only [pX4_isWithin_14]
    rw [if_neg (show ¬ (49 : Int32) ≤ nI q from nI_ge (b := 49) hq (by omega)), hrem, hdiv]
    unfold fw_cz
    simp only [bb_0, show ¬ (7 : Int32) = 0 by decide, if_false, n_le (show n < 2 ^ 31 by omega) (show q / 7 < 2 ^ 31 by omega), n_le (show n < 2 ^ 31 by omega) (show q % 7 < 2 ^ 31 by omega), n_ck hq (show 49 < 2 ^ 31 by omega), n_cl (show q < 2 ^ 31 by omega), nI_1]
    -- no pair lies at this place
    have none_here : ∀ i j, i < n → j < n → (n ≤ q / 7 ∨ n ≤ q % 7) → 7 * i + j < q + 1 → 7 * i + j < q := fun i j hi hj hc hlt => by omega
    cases hb : b with
    | false =>
      rw [if_pos rfl]
      refine ⟨_, rfl, rfl, false, rfl, ⟨fun z => (by cases z), fun z => ?_⟩⟩
      rw [hb] at r3
      exact r3.mpr (fun i j hi hj hlt => z i j hi hj (by omega))
    | true =>
      rw [if_neg (by decide)]
      rw [hb] at r3
      have r3 := r3.mp rfl
      by_cases c1 : n ≤ q / 7
      · rw [if_pos c1]
        exact ⟨_, rfl, rfl, true, rfl, fun _ i j hi hj hlt => r3 i j hi hj (none_here i j hi hj (Or.inl c1) hlt), fun _ => rfl⟩
      · rw [if_neg c1]
        by_cases c2 : n ≤ q % 7
        · rw [if_pos c2]
          exact ⟨_, rfl, rfl, true, rfl, fun _ i j hi hj hlt => r3 i j hi hj (none_here i j hi hj (Or.inr c2) hlt), fun _ => rfl⟩
        · rw [if_neg c2]
          have hi : q / 7 < n := by omega
          have hj : q % 7 < n := by omega
          have vN : wl q = nI (GN (q / 7) (q % 7)) := by
            have := hwl (q / 7) (q % 7) hi hj
            rw [hq7] at this; exact this
          have vT : tn' q = nI (GT (q / 7) (q % 7)) := by
            have := z2 (q / 7) (q % 7) hi hj
            rw [hq7] at this; exact this
          have bN := hN (q / 7) (q % 7) hi hj
          have bT := hT (q / 7) (q % 7) hi hj
          have b63 := hN63 (q / 7) (q % 7) hi hj
          have hsame : ∀ i j, i < n → j < n → 7 * i + j < q + 1 → 7 * i + j < q ∨ (i = q / 7 ∧ j = q % 7) := fun i j hi hj hlt => by omega
          rw [vN, vT]
          simp only [l_1e4, n_le (show 10000 < 2 ^ 31 by omega) (show GN (q / 7) (q % 7) < 2 ^ 31 by omega), pk_mul]
          by_cases c3 : 10000 ≤ GN (q / 7) (q % 7)
          · rw [if_pos c3]
            refine ⟨_, rfl, rfl, true, rfl, fun _ i j hi hj hlt hf => ?_, fun _ => rfl⟩
            rcases hsame i j hi hj hlt with z | ⟨rfl, rfl⟩
            · exact r3 i j hi hj z hf
            · omega
          · rw [if_neg c3]
            have eN : GN (q / 7) (q % 7) = N (q / 7) (q % 7) := by omega
            have hmul : t * GN (q / 7) (q % 7) ≤ 9 * 63 := Nat.mul_le_mul ht (by omega)
            simp only [n_lt (show t * GN (q / 7) (q % 7) < 2 ^ 31 by omega) (show GT (q / 7) (q % 7) < 2 ^ 31 by omega)]
            by_cases c4 : t * GN (q / 7) (q % 7) < GT (q / 7) (q % 7)
            · rw [if_pos c4]
              refine ⟨_, rfl, rfl, false, rfl, fun z => (by cases z), fun z => ?_⟩
              have := z (q / 7) (q % 7) hi hj (by omega) (by omega)
              rw [eN] at c4 hmul
              omega
            · rw [if_neg c4]
              refine ⟨_, rfl, rfl, true, rfl, fun _ i j hi hj hlt hf => ?_, fun _ => rfl⟩
              rcases hsame i j hi hj hlt with z | ⟨rfl, rfl⟩
              · exact r3 i j hi hj z hf
              · rw [eN] at c4 hmul
                omega) (fun s hs => by
    obtain ⟨x3, x4⟩ := s
    obtain ⟨r1, b, r2, r3⟩ := hs
    dsimp only at r1 r2
    subst r1
    subst r2
    dsimp only [pX4_isWithin_14]
    rw [if_pos (show (49 : Int32) ≤ nI 49 by decide)]
    refine ⟨_, rfl, b, rfl, r3.trans ⟨fun z i j hi hj => z i j hi hj (by omega), fun z i j hi hj _ => z i j hi hj⟩⟩)
  obtain ⟨x3, x4⟩ := e
  obtain ⟨b, g3, g4⟩ := g2
  dsimp only at g3
  subst g3
  rw [g1, fw_ob]
  dsimp only
  unfold fw_cb
  rw [if_pos (by cases b <;> simp [bb])]
  exact ⟨b, tn', rfl, g4⟩
/-- as the class finds it -/
theorem pX3_isWithinStretch_eq {nc lc : Int32} {le ge wt kp : Nat → Int32} (hok : nt_ok n m A B w k) (hX : nt_X n m A B w k nc lc le ge wt kp) {na : Nat → Int32} (hna : rep n na (nt_d A B w (2 ^ m - 1) m)) (ta : Nat → Int32) {S t : Nat} (hS : S < 2 ^ m) (ht : t ≤ 9) : ∃ b ta', pX3_isWithinStretch nc lc le ge wt na ta (nI S) (nI t) = some (bb b, ta', nI n) ∧ (b = true ↔ nt_in n m A B w t S) := by
  obtain ⟨⟨h2, h7, h12⟩, hj⟩ := id hok
  have hp := n_p12 h12
  have hinf : nt_inf = 1000000 := rfl
  unfold pX3_isWithinStretch
  obtain ⟨ta', z1, z2⟩ := pX3_measure_T_eq hok hX (S := S) (by omega) ta
  rw [z1, fw_ob]
  dsimp only
  have e1 := hX.1
  subst e1
  have hN63 := fun i j (hi : i < n) (hj : j < n) => nt_d_63 hok (2 ^ m - 1) hi hj
  have hNp := nt_d_pm (w := w) (nt_ends hok) (2 ^ m - 1) m (Nat.le_refl m)
  have hTp := nt_d_pm (w := w) (nt_ends hok) S m (Nat.le_refl m)
  unfold nt_in
  generalize nt_d A B w (2 ^ m - 1) m = N at *
  generalize nt_d A B w S m = T at *
  obtain ⟨e, g1, g2⟩ := fw_loop (f := pX3_isWithinStretch_11 (nI t) (nI n) na ta' (nI n)) (Q := fun e => (∃ x, e = .inl x ∧ ∀ i j, i < j → j < n → N i j < nt_inf → T i j ≤ t * N i j) ∨ (e = .inr (0, ta', nI n) ∧ ∃ i j, i < j ∧ j < n ∧ N i j < nt_inf ∧ ¬ T i j ≤ t * N i j)) (fun a s => s = nI a ∧ ∀ i j, i < j → j < n → i < a → N i j < nt_inf → T i j ≤ t * N i j) 0 n (0 : Int32) (by omega) (by omega) ⟨rfl, fun i j _ _ h => by omega⟩ (fun a s ha hs => by
    obtain ⟨r1, r2⟩ := hs
    subst r1
    dsimp only [pX3_isWithinStretch_11]
    rw [if_neg (nI_ge ha (by omega)), nI_1]
    obtain ⟨e, k1, k2⟩ := fw_loop (f := pX3_isWithinStretch_24 (nI t) (nI a) (nI n) na ta' (nI n)) (Q := fun e => (∃ x, e = .inl x ∧ ∀ i j, i < j → j < n → i < a + 1 → N i j < nt_inf → T i j ≤ t * N i j) ∨ (e = .inr (0, ta', nI n) ∧ ∃ i j, i < j ∧ j < n ∧ N i j < nt_inf ∧ ¬ T i j ≤ t * N i j)) (fun b s => s = nI b ∧ a < b ∧ ∀ i j, i < j → j < n → (i < a ∨ (i = a ∧ j < b)) → N i j < nt_inf → T i j ≤ t * N i j) (a + 1) n (nI (a + 1)) (by omega) (by omega) ⟨rfl, by omega, fun i j h1 h2 h3 => r2 i j h1 h2 (by omega)⟩ (fun b s hb hs => by
      obtain ⟨q1, q2, q3⟩ := hs
      subst q1
      have lN := hNp.2.2.2 a b ha hb
      have lT := hTp.2.2.2 a b ha hb
      have b63 := hN63 a b ha hb
      dsimp only [pX3_isWithinStretch_24]
      rw [if_neg (nI_ge hb (by omega)), pX0_between_eq h7 hna ha hb, fw_ob, pX0_between_eq h7 z2 ha hb, fw_ob, nI_1]
      simp only [l_1e6, n_le (show 1000000 < 2 ^ 31 by omega) (show N a b < 2 ^ 31 by omega)]
      by_cases c1 : 1000000 ≤ N a b
      · rw [if_pos c1]
        refine Or.inl ⟨_, rfl, rfl, by omega, fun i j h1 h2 h3 h4 => ?_⟩
        rcases (show (i < a ∨ (i = a ∧ j < b)) ∨ (i = a ∧ j = b) by omega) with z | ⟨rfl, rfl⟩
        · exact q3 i j h1 h2 z h4
        · omega
      · rw [if_neg c1]
        have hmul : t * N a b ≤ 9 * 63 := Nat.mul_le_mul ht (b63 (by omega))
        rw [pk_mul]
        simp only [n_le (show T a b < 2 ^ 31 by omega) (show t * N a b < 2 ^ 31 by omega)]
        by_cases c2 : T a b ≤ t * N a b
        · rw [if_pos c2]
          refine Or.inl ⟨_, rfl, rfl, by omega, fun i j h1 h2 h3 h4 => ?_⟩
          rcases (show (i < a ∨ (i = a ∧ j < b)) ∨ (i = a ∧ j = b) by omega) with z | ⟨rfl, rfl⟩
          · exact q3 i j h1 h2 z h4
          · exact c2
        · rw [if_neg c2]
          exact Or.inr ⟨_, rfl, Or.inr ⟨rfl, a, b, q2, hb, by omega, c2⟩⟩) (fun s hs => by
      obtain ⟨q1, q2, q3⟩ := hs
      subst q1
      dsimp only [pX3_isWithinStretch_24]
      rw [if_pos (nI_le (Nat.le_refl _) (by omega))]
      exact ⟨_, rfl, Or.inl ⟨_, rfl, fun i j h1 h2 h3 => q3 i j h1 h2 (by omega)⟩⟩)
    rw [k1, fw_ob]
    rcases k2 with ⟨x, rfl, h⟩ | ⟨rfl, h⟩
    · exact Or.inl ⟨_, rfl, rfl, h⟩
    · exact Or.inr ⟨_, rfl, Or.inr ⟨rfl, h⟩⟩) (fun s hs => by
    obtain ⟨r1, r2⟩ := hs
    subst r1
    dsimp only [pX3_isWithinStretch_11]
    rw [if_pos (nI_le (Nat.le_refl _) (by omega))]
    exact ⟨_, rfl, Or.inl ⟨_, rfl, fun i j h1 h2 h3 => r2 i j h1 h2 (by omega) h3⟩⟩)
  rw [g1, fw_ob]
  rcases g2 with ⟨x, rfl, h⟩ | ⟨rfl, i, j, h1, h2, h3, h4⟩
  · refine ⟨true, ta', rfl, fun _ i j hi hj hf => ?_, fun _ => rfl⟩
    rcases (show i < j ∨ i = j ∨ j < i by omega) with z | z | z
    · exact h i j z hj hf
    · subst z; rw [hTp.1 i hi]; omega
    · rw [hTp.2.1 i j hi hj, hNp.2.1 i j hi hj]
      rw [hNp.2.1 i j hi hj] at hf
      exact h j i z hi hf
  · refine ⟨false, ta', rfl, fun z => (by cases z), fun z => ?_⟩
    exact absurd (z i j (by omega) h2 h3) h4
/-- the sets that the search looks through -/
def cand (n m : Nat) (A B w : Nat → Nat) (t S o S' : Nat) : Prop := S' < 2 ^ m ∧ nt_in n m A B w t S' ∧ ∀ j, o ≤ j → S'.testBit j = S.testBit j
def srch (n m : Nat) (A B w : Nat → Nat) (t S o best r : Nat) : Prop := r < 2 ^ m ∧ ((r = best ∧ ∀ S', cand n m A B w t S o S' → nt_pc best m ≤ nt_pc S' m) ∨ (cand n m A B w t S o r ∧ nt_pc r m < nt_pc best m ∧ ∀ S', cand n m A B w t S o S' → nt_pc r m < nt_pc S' m ∨ (nt_pc r m = nt_pc S' m ∧ r ≤ S')))
theorem pX3_fewestWithin_eq {nc lc : Int32} {le ge wt kp : Nat → Int32} (hok : nt_ok n m A B w k) (hX : nt_X n m A B w k nc lc le ge wt kp) {na : Nat → Int32} (hna : rep n na (nt_d A B w (2 ^ m - 1) m)) {t : Nat} (ht : t ≤ 9) {least : Nat} (hl12 : least ≤ 12) (hleast : ∀ S', S' < 2 ^ m → nt_in n m A B w t S' → least ≤ nt_pc S' m) :
    ∀ (o d S best : Nat) (ta : Nat → Int32) (ts : Int32), o ≤ m → o < d → S < 2 ^ m → (∀ j, j < o → S.testBit j = true) → nt_in n m A B w t S → best < 2 ^ m → ∃ r ta' ts', pX3_fewestWithin d nc lc le ge wt na ta ts (nI S) (nI o) (nI t) (nI best) (nI least) = some (nI r, ta', ts') ∧ srch n m A B w t S o best r := by
  have h12 := hok.1.2.2
  have hp := n_p12 h12
  intro o
  induction o with
  | zero =>
    intro d S best ta ts ho hd hS hbits hin hbest
    obtain ⟨d, rfl⟩ : ∃ z, d = z + 1 := ⟨d - 1, by omega⟩
    have p1 := nt_pc_le S m
    have p2 := nt_pc_le best m
    rw [pX3_fewestWithin, pk_shrN (show S < 2 ^ 31 by omega) (nI 0 &&& 31) 0 (n_sl 0 (by omega)), Nat.pow_zero, Nat.div_one, bc_m h12 hS, fw_ob, bc_m h12 hbest, fw_ob, n_max (show nt_pc S m < 2 ^ 31 by omega) (show least < 2 ^ 31 by omega)]
    simp only [n_lt (show max (nt_pc S m) least < 2 ^ 31 by omega) (show nt_pc best m < 2 ^ 31 by omega)]
    have hcS : ∀ S', cand n m A B w t S 0 S' → S' = S := fun S' h => Nat.eq_of_testBit_eq (fun i => h.2.2 i (by omega))
    by_cases c : max (nt_pc S m) least < nt_pc best m
    · rw [if_pos c, if_neg (show ¬ (0 : Int32) < nI 0 by decide)]
      exact ⟨S, _, _, rfl, hS, Or.inr ⟨⟨hS, hin, fun _ _ => rfl⟩, by omega, fun S' h => by rw [hcS S' h]; exact Or.inr ⟨rfl, Nat.le_refl _⟩⟩⟩
    · rw [if_neg c]
      refine ⟨best, _, _, rfl, hbest, Or.inl ⟨rfl, fun S' h => ?_⟩⟩
      have e := hcS S' h
      have := hleast S' h.1 h.2.1
      rw [e] at this ⊢
      omega
  | succ l ih =>
    intro d S best ta ts ho hd hS hbits hin hbest
    obtain ⟨d, rfl⟩ : ∃ z, d = z + 1 := ⟨d - 1, by omega⟩
    have hSo : S / 2 ^ (l + 1) < 2 ^ 12 := by
      have := Nat.div_le_self S (2 ^ (l + 1))
      omega
    have p1 := nt_pc_le (S / 2 ^ (l + 1)) 12
    have p2 := nt_pc_le best m
    rw [pX3_fewestWithin, pk_shrN (show S < 2 ^ 31 by omega) (nI (l + 1) &&& 31) (l + 1) (n_sl (l + 1) (by omega)), bc_m (Nat.le_refl 12) hSo, fw_ob, bc_m h12 hbest, fw_ob, n_max (show nt_pc (S / 2 ^ (l + 1)) 12 < 2 ^ 31 by omega) (show least < 2 ^ 31 by omega)]
    simp only [n_lt (show max (nt_pc (S / 2 ^ (l + 1)) 12) least < 2 ^ 31 by omega) (show nt_pc best m < 2 ^ 31 by omega)]
    by_cases c : max (nt_pc (S / 2 ^ (l + 1)) 12) least < nt_pc best m
    · rw [if_pos c, if_pos (show (0 : Int32) < nI (l + 1) from nI_lt (a := 0) (by omega) (by omega)), nI_pred, nI_not (show l < 31 by omega) (hbits l (by omega))]
      have hlm : (2 : Nat) ^ l < 2 ^ m := Nat.pow_lt_pow_right (by omega) (by omega)
      have hW : S ^^^ 2 ^ l < 2 ^ m := Nat.xor_lt_two_pow hS hlm
      have wbit : ∀ j, (S ^^^ 2 ^ l).testBit j = (if j = l then false else S.testBit j) := fun j => by
        rw [Nat.testBit_xor, Nat.testBit_two_pow]
        by_cases e : j = l
        · subst e; rw [hbits j (by omega)]; simp
        · simp [e, show ¬ l = j from fun z => e z.symm]
      -- what the two halves look through
      have split : ∀ S', cand n m A B w t S (l + 1) S' → cand n m A B w t (S ^^^ 2 ^ l) l S' ∨ cand n m A B w t S l S' := by
        intro S' ⟨h1, h2, h3⟩
        cases hb : S'.testBit l with
        | false =>
          left
          refine ⟨h1, h2, fun j hj => ?_⟩
          rw [wbit]
          by_cases e : j = l
          · rw [if_pos e, e, hb]
          · rw [if_neg e]; exact h3 j (by omega)
        | true =>
          right
          refine ⟨h1, h2, fun j hj => ?_⟩
          by_cases e : j = l
          · rw [e, hb, hbits l (by omega)]
          · exact h3 j (by omega)
      have in1 : ∀ S', cand n m A B w t (S ^^^ 2 ^ l) l S' → cand n m A B w t S (l + 1) S' := fun S' ⟨h1, h2, h3⟩ => ⟨h1, h2, fun j hj => by rw [h3 j (by omega), wbit, if_neg (by omega)]⟩
      have in2 : ∀ S', cand n m A B w t S l S' → cand n m A B w t S (l + 1) S' := fun S' ⟨h1, h2, h3⟩ => ⟨h1, h2, fun j hj => h3 j (by omega)⟩
      have order : ∀ S1 S2, cand n m A B w t (S ^^^ 2 ^ l) l S1 → cand n m A B w t S l S2 → S1 < S2 := fun S1 S2 h1 h2 => by
        apply nt_lt_bit m S1 S2 l h1.1 h2.1
        · rw [h1.2.2 l (Nat.le_refl l), wbit, if_pos rfl]
        · rw [h2.2.2 l (Nat.le_refl l)]; exact hbits l (by omega)
        · intro j hj
          rw [h1.2.2 j (by omega), h2.2.2 j (by omega), wbit, if_neg (by omega)]
      obtain ⟨b, ta1, x1, x2⟩ := pX3_isWithinStretch_eq hok hX hna ta hW ht
      rw [x1, fw_ob]
      dsimp only
      simp only [bb_0]
      cases hb : b with
      | false =>
        rw [if_pos rfl]
        have hno : ¬ nt_in n m A B w t (S ^^^ 2 ^ l) := fun z => by
          have := x2.mpr z
          rw [hb] at this
          cases this
        obtain ⟨r, ta2, ts2, y1, y2⟩ := ih d S best ta1 (nI n) (by omega) (by omega) hS (fun j hj => hbits j (by omega)) hin hbest
        rw [y1, fw_ob]
        have none1 : ∀ S', ¬ cand n m A B w t (S ^^^ 2 ^ l) l S' := fun S' h => hno (nt_in_mono hok (fun q hq hqb => by
          rw [wbit]
          by_cases e : q = l
          · subst e
            rw [h.2.2 q (Nat.le_refl q), wbit, if_pos rfl] at hqb
            cases hqb
          · rw [if_neg e]
            rcases (show q < l ∨ l < q by omega) with z | z
            · exact hbits q (by omega)
            · rw [h.2.2 q (by omega), wbit, if_neg e] at hqb
              exact hqb) h.2.1)
        refine ⟨r, ta2, ts2, rfl, y2.1, ?_⟩
        rcases y2.2 with ⟨e1, e2⟩ | ⟨e1, e2, e3⟩
        · exact Or.inl ⟨e1, fun S' h => by
            rcases split S' h with z | z
            · exact absurd z (none1 S')
            · exact e2 S' z⟩
        · exact Or.inr ⟨in2 r e1, e2, fun S' h => by
            rcases split S' h with z | z
            · exact absurd z (none1 S')
            · exact e3 S' z⟩
      | true =>
        rw [if_neg (by decide)]
        obtain ⟨b1, ta2, ts2, y1, y2⟩ := ih d (S ^^^ 2 ^ l) best ta1 (nI n) (by omega) (by omega) hW (fun j hj => by rw [wbit, if_neg (by omega)]; exact hbits j (by omega)) (x2.mp hb) hbest
        rw [y1, fw_ob]
        dsimp only
        obtain ⟨r, ta3, ts3, z1, z2⟩ := ih d S b1 ta2 ts2 (by omega) (by omega) hS (fun j hj => hbits j (by omega)) hin y2.1
        rw [z1, fw_ob]
        refine ⟨r, ta3, ts3, rfl, z2.1, ?_⟩
        rcases y2.2 with ⟨e1, e2⟩ | ⟨e1, e2, e3⟩
        · subst e1
          rcases z2.2 with ⟨f1, f2⟩ | ⟨f1, f2, f3⟩
          · exact Or.inl ⟨f1, fun S' h => by
              rcases split S' h with z | z
              · exact e2 S' z
              · exact f2 S' z⟩
          · exact Or.inr ⟨in2 r f1, f2, fun S' h => by
              rcases split S' h with z | z
              · have := e2 S' z; left; omega
              · exact f3 S' z⟩
        · rcases z2.2 with ⟨f1, f2⟩ | ⟨f1, f2, f3⟩
          · subst f1
            exact Or.inr ⟨in1 r e1, e2, fun S' h => by
              rcases split S' h with z | z
              · exact e3 S' z
              · have q1 := f2 S' z
                have q2 := order r S' e1 z
                omega⟩
          · exact Or.inr ⟨in2 r f1, by omega, fun S' h => by
              rcases split S' h with z | z
              · have := e3 S' z; left; omega
              · exact f3 S' z⟩
    · rw [if_neg c]
      refine ⟨best, _, _, rfl, hbest, Or.inl ⟨rfl, fun S' h => ?_⟩⟩
      have q1 := hleast S' h.1 h.2.1
      have q2 := nt_pc_high h12 h.1 (l + 1)
      have q3 : S' / 2 ^ (l + 1) = S / 2 ^ (l + 1) := Nat.eq_of_testBit_eq (fun i => by
        rw [Nat.testBit_div_two_pow, Nat.testBit_div_two_pow]
        exact h.2.2 _ (by omega))
      rw [q3] at q2
      omega
end SRC
