/-! ===== how loops of pure programs run; numbers ===== -/
theorem fw_run {V E : Type} {f : V → Option (V ⊕ E)} {e : E} : ∀ (n N : Nat) (σ : Nat → V), n < N → (∀ j, j < n → f (σ j) = some (.inl (σ (j + 1)))) → f (σ n) = some (.inr e) → fw_wh f N (σ 0) = some e := by
  intro n
  induction n with
  | zero =>
    intro N σ hN _ he
    cases N with
    | zero => exact absurd hN (by omega)
    | succ N =>
      unfold fw_wh
      rw [he]
  | succ n ih =>
    intro N σ hN hs he
    cases N with
    | zero => exact absurd hN (by omega)
    | succ N =>
      unfold fw_wh
      rw [hs 0 (by omega)]
      exact ih N (fun j => σ (j + 1)) (by omega) (fun j hj => hs (j + 1) (by omega)) he
theorem fw_lN {n : Nat} (h : n < 5000) : n < fw_N := h
theorem fw_ob {α β : Type} (a : α) (f : α → Option β) : (some a).bind f = f a := rfl
theorem n_le {a b : Nat} (ha : a < 2 ^ 31) (hb : b < 2 ^ 31) : (nI a ≤ nI b) = (a ≤ b) := propext (nI_leI ha hb)
theorem n_lt {a b : Nat} (ha : a < 2 ^ 31) (hb : b < 2 ^ 31) : (nI a < nI b) = (a < b) := propext (nI_ltI ha hb)
theorem n_eq {a b : Nat} (ha : a < 2 ^ 31) (hb : b < 2 ^ 31) : (nI a = nI b) = (a = b) := propext (nI_eq ha hb)
theorem n_cl {a : Nat} (ha : a < 2 ^ 31) : (nI a).toNatClampNeg = a := nI_clamp ha
theorem n_ck {α : Type} {j n : Nat} {k : Option α} (h : j < n) (hn : n < 2 ^ 31) : fw_ck (nI j) n k = k := by
  unfold fw_ck
  rw [if_pos]
  rw [nI_toInt (by omega)]
  omega
theorem l_0 : (0 : Int32) = nI 0 := rfl
theorem l_1 : (1 : Int32) = nI 1 := rfl
theorem l_2 : (2 : Int32) = nI 2 := rfl
theorem l_7 : (7 : Int32) = nI 7 := rfl
theorem l_9 : (9 : Int32) = nI 9 := rfl
theorem l_10 : (10 : Int32) = nI 10 := rfl
theorem l_12 : (12 : Int32) = nI 12 := rfl
theorem l_20 : (20 : Int32) = nI 20 := rfl
theorem l_60 : (60 : Int32) = nI 60 := rfl
theorem l_1e4 : (10000 : Int32) = nI 10000 := rfl
theorem l_1e6 : (1000000 : Int32) = nI 1000000 := rfl
/-- a counted loop: from i0 up to m by ones, the index last or first is the caller's to say -/
theorem fw_from {V E : Type} {f : V → Option (V ⊕ E)} {e : E} (a b : Nat) (σ : Nat → V) (hab : a ≤ b) (hN : b - a < 5000) (hs : ∀ j, a ≤ j → j < b → f (σ j) = some (.inl (σ (j + 1)))) (he : f (σ b) = some (.inr e)) : fw_wh f fw_N (σ a) = some e := by
  have h := fw_run (f := f) (e := e) (b - a) fw_N (fun j => σ (a + j)) (fw_lN hN) (fun j hj => hs (a + j) (by omega) (by omega)) (by rw [show a + (b - a) = b by omega]; exact he)
  exact h
/-! truth of an Int32 between -/
theorem n_within (x : Int32) {a b : Nat} (ha : a < 2 ^ 31) (hb : b < 2 ^ 31) : (x < nI a) ∨ (nI b < x) ∨ ∃ j : Nat, a ≤ j ∧ j ≤ b ∧ x = nI j := by
  by_cases h1 : x < nI a
  · exact Or.inl h1
  · by_cases h2 : nI b < x
    · exact Or.inr (Or.inl h2)
    · refine Or.inr (Or.inr ?_)
      rw [Int32.lt_iff_toInt_lt, nI_toInt ha] at h1
      rw [Int32.lt_iff_toInt_lt, nI_toInt hb] at h2
      refine ⟨x.toInt.toNat, by omega, by omega, ?_⟩
      rw [← Int32.toInt_inj, nI_toInt (by omega)]
      omega
/-- X's and the reference's test of bounds -/
def bb (p : Bool) : Int32 := if p then 1 else 0
theorem bb_0 {p : Bool} : (bb p = 0) = (p = false) := by cases p <;> simp [bb]
theorem bb_t : bb true = 1 := rfl
theorem bb_f : bb false = 0 := rfl
theorem pX3_isWithin_eq (x a b : Int32) : pX3_isWithin x a b = some (bb (decide (¬ x < a ∧ ¬ b < x))) := by
  unfold pX3_isWithin
  by_cases h1 : x < a <;> by_cases h2 : b < x <;> simp [h1, h2, bb]
theorem pX4_in_eq (x a b : Int32) : pX4_in x a b = some (bb (decide (¬ x < a ∧ ¬ b < x))) := by
  unfold pX4_in
  by_cases h1 : x < a <;> by_cases h2 : b < x <;> simp [h1, h2, bb]
theorem pX3_isWay_eq (x : Int32) : pX3_isWay x = some (bb (decide (¬ x < 0 ∧ ¬ 1 < x))) := by
  unfold pX3_isWay
  by_cases h1 : x = 0
  · subst h1; rfl
  · by_cases h2 : x = 1
    · subst h2; rfl
    · rw [if_neg h1, if_neg h2]
      have : ¬ (¬ x < 0 ∧ ¬ 1 < x) := by
        intro ⟨a, b⟩
        have h3 := fw_tn h1
        have h4 := fw_tn h2
        rw [Int32.lt_iff_toInt_lt] at a b
        have e0 : (0 : Int32).toInt = 0 := rfl
        have e1 : (1 : Int32).toInt = 1 := rfl
        omega
      rw [decide_eq_false this]
      rfl
/-- node or line below m -/
theorem pX3_isNode_eq {m : Nat} (hm : m < 2 ^ 31) (x : Int32) : pX3_isNode (nI m) x = some (bb (decide (0 ≤ x.toInt ∧ x.toInt < m))) := by
  unfold pX3_isNode
  have e0 : (0 : Int32).toInt = 0 := rfl
  have e1 := nI_toInt hm
  by_cases h1 : x < 0
  · rw [if_pos h1]
    rw [Int32.lt_iff_toInt_lt, e0] at h1
    rw [decide_eq_false (by omega)]; rfl
  · rw [if_neg h1]
    rw [Int32.lt_iff_toInt_lt, e0] at h1
    by_cases h2 : nI m ≤ x
    · rw [if_pos h2]
      rw [Int32.le_iff_toInt_le, e1] at h2
      rw [decide_eq_false (by omega)]; rfl
    · rw [if_neg h2]
      rw [Int32.le_iff_toInt_le, e1] at h2
      rw [decide_eq_true (by omega)]; rfl
theorem pX3_isLine_eq {m : Nat} (hm : m < 2 ^ 31) (x : Int32) : pX3_isLine (nI m) x = some (bb (decide (0 ≤ x.toInt ∧ x.toInt < m))) := pX3_isNode_eq hm x
theorem pX4_isNode_eq {m : Nat} (hm : m < 2 ^ 30) (x : Int32) : pX4_isNode (nI m) x = some (bb (decide (0 ≤ x.toInt ∧ x.toInt < m))) := by
  unfold pX4_isNode
  rw [pX4_in_eq]
  show some _ = some _
  congr 2
  have e0 : (0 : Int32).toInt = 0 := rfl
  have e1 : (nI m - 1).toInt = (m : Int) - 1 := pk_sub_toInt (a := m) (b := 1) hm (by omega)
  apply decide_eq_decide.mpr
  rw [Int32.lt_iff_toInt_lt, Int32.lt_iff_toInt_lt, e0, e1]
  omega
theorem pX4_isLine_eq {m : Nat} (hm : m < 2 ^ 30) (x : Int32) : pX4_isLine (nI m) x = some (bb (decide (0 ≤ x.toInt ∧ x.toInt < m))) := pX4_isNode_eq hm x
theorem n_idx {x : Int32} {m : Nat} (h : 0 ≤ x.toInt ∧ x.toInt < m) (hm : m < 2 ^ 31) : ∃ j : Nat, j < m ∧ x = nI j := by
  refine ⟨x.toInt.toNat, by omega, ?_⟩
  rw [← Int32.toInt_inj, nI_toInt (by omega)]
  omega
/-- Arrays.fill -/
theorem pJ7_fill_eq (N : Nat) (hN : N < 5000) (f : Nat → Int32) (v : Int32) : pJ7_fill_53178 N f v = some (fun j => if j < N then v else f j) := by
  unfold pJ7_fill_53178
  have h := fw_from (f := pJ7_fill_53178_5 N v (nI N)) (e := (nI N, fun j => if j < N then v else f j)) 0 N (fun i => (nI i, fun j => if j < i then v else f j)) (by omega) (by omega) (fun j _ hj => by
    show (if nI N ≤ nI j then _ else _) = _
    rw [if_neg (nI_ge hj (by omega)), n_ck hj (by omega), n_cl (by omega), nI_1]
    congr 3
    funext i
    unfold upd
    by_cases h1 : i = j
    · subst h1; simp
    · by_cases h2 : i < j
      · simp [h1, h2, show i < j + 1 by omega]
      · simp [h1, h2, show ¬ i < j + 1 by omega]) (by
    show (if nI N ≤ nI N then _ else _) = _
    rw [if_pos (nI_le (Nat.le_refl _) (by omega))])
  rw [show ((0 : Int32), f) = (nI 0, fun j => if j < 0 then v else f j) by simp [nI_0], h]
  rfl
theorem pX3_forgetFewest_eq (f : Nat → Int32) : pX3_forgetFewest f = some (fun j => if j < 10 then -1 else f j) := by
  unfold pX3_forgetFewest
  rw [pJ7_fill_eq 10 (by omega)]
  rfl
