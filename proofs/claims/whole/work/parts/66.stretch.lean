/-! ===== greatest common divisors, fractions, stretch ===== -/
theorem lg0 (x : Int64) : (lg_cmp x 0 = 0) = (x = 0) := by
  apply propext
  unfold lg_cmp
  by_cases h : x = 0
  · subst h; simp [Int64.lt_iff_toInt_lt]
  · constructor
    · intro z
      exfalso
      by_cases h2 : x > 0
      · rw [if_pos h2] at z; exact absurd z (by decide)
      · rw [if_neg h2, if_neg h] at z; exact absurd z (by decide)
    · intro z; exact absurd z h
theorem lN_0 {a : Nat} (h : a < 2 ^ 63) : (lN a = 0) = (a = 0) := propext (pk_lEQ (a := a) (b := 0) h (by omega))
theorem mod_half {b r k : Nat} (hr : 0 < r) (hrb : r < b) (hb : b < 2 ^ (k + 1)) : b % r < 2 ^ k := by
  have h1 := Nat.mod_lt b hr
  have h2 : b % r = (b - r) % r := Nat.mod_eq_sub_mod (by omega)
  have h3 := Nat.mod_le (b - r) r
  rw [Nat.pow_succ] at hb
  omega
theorem gcd_step (a b : Nat) : Nat.gcd a b = Nat.gcd b (a % b) := by
  rw [Nat.gcd_comm, Nat.gcd_rec, Nat.gcd_comm]
theorem gcdM : ∀ (k a b N : Nat), a < 2 ^ 63 → b < 2 ^ k → k ≤ 62 → 2 * k < N → fw_wh pX4_common_6 N (lN a, lN b) = some (lN (Nat.gcd a b), lN 0) := by
  have step0 : ∀ a N, 0 < N → fw_wh pX4_common_6 N (lN a, lN 0) = some (lN (Nat.gcd a 0), lN 0) := by
    intro a N hN
    obtain ⟨N, rfl⟩ : ∃ z, N = z + 1 := ⟨N - 1, by omega⟩
    unfold fw_wh
    dsimp only [pX4_common_6]
    rw [if_pos (by rw [lg0]; rfl), Nat.gcd_zero_right]
  have step1 : ∀ a b N, a < 2 ^ 63 → b < 2 ^ 63 → b ≠ 0 → fw_wh pX4_common_6 (N + 1) (lN a, lN b) = fw_wh pX4_common_6 N (lN b, lN (a % b)) := by
    intro a b N ha hb h0
    conv => lhs; unfold fw_wh
    dsimp only [pX4_common_6]
    rw [if_neg (by rw [lg0, lN_0 hb]; exact h0)]
    unfold fw_czl
    rw [if_neg (by rw [lN_0 hb]; exact h0), pk_lRem ha (by omega) hb]
  intro k
  induction k with
  | zero =>
    intro a b N ha hb hk hN
    rw [show b = 0 by simpa using hb]
    exact step0 a N (by omega)
  | succ k ih =>
    intro a b N ha hb hk hN
    have hb63 : b < 2 ^ 63 := Nat.lt_of_lt_of_le hb (Nat.pow_le_pow_right (by omega) (by omega))
    by_cases h0 : b = 0
    · subst h0; exact step0 a N (by omega)
    · obtain ⟨N, rfl⟩ : ∃ z, N = z + 1 + 1 := ⟨N - 2, by omega⟩
      have hr := Nat.mod_lt a (Nat.pos_of_ne_zero h0)
      rw [step1 a b _ ha hb63 h0, gcd_step a b]
      by_cases h1 : a % b = 0
      · rw [h1]; exact step0 b _ (by omega)
      · rw [step1 b (a % b) _ hb63 (by omega) h1, gcd_step b (a % b)]
        exact ih (a % b) (b % (a % b)) N (by omega) (mod_half (Nat.pos_of_ne_zero h1) hr hb) (by omega) (by omega)
theorem gcdX : ∀ (k a b N c : Nat), a < 2 ^ 63 → b < 2 ^ k → k ≤ 62 → 2 * k < N → c + 2 * k < 100 → ∃ c', fw_wh pX3_commonDivisor_9 N (lN a, lN b, nI c) = some (lN (Nat.gcd a b), lN 0, c') := by
  have step0 : ∀ a N c, 0 < N → c < 100 → ∃ c', fw_wh pX3_commonDivisor_9 N (lN a, lN 0, nI c) = some (lN (Nat.gcd a 0), lN 0, c') := by
    intro a N c hN hc
    obtain ⟨N, rfl⟩ : ∃ z, N = z + 1 := ⟨N - 1, by omega⟩
    unfold fw_wh
    dsimp only [pX3_commonDivisor_9]
    rw [if_neg (show ¬ (100 : Int32) ≤ nI c from nI_ge (b := 100) hc (by omega)), if_pos (by rw [lg0]; rfl), Nat.gcd_zero_right]
    exact ⟨_, rfl⟩
  have step1 : ∀ a b N c, a < 2 ^ 63 → b < 2 ^ 63 → b ≠ 0 → c < 100 → fw_wh pX3_commonDivisor_9 (N + 1) (lN a, lN b, nI c) = fw_wh pX3_commonDivisor_9 N (lN b, lN (a % b), nI (c + 1)) := by
    intro a b N c ha hb h0 hc
    conv => lhs; unfold fw_wh
    dsimp only [pX3_commonDivisor_9]
    rw [if_neg (show ¬ (100 : Int32) ≤ nI c from nI_ge (b := 100) hc (by omega)), if_neg (by rw [lg0, lN_0 hb]; exact h0)]
    unfold fw_czl
    rw [if_neg (by rw [lN_0 hb]; exact h0), pk_lRem ha (by omega) hb, nI_1]
  intro k
  induction k with
  | zero =>
    intro a b N c ha hb hk hN hc
    rw [show b = 0 by simpa using hb]
    exact step0 a N c (by omega) (by omega)
  | succ k ih =>
    intro a b N c ha hb hk hN hc
    have hb63 : b < 2 ^ 63 := Nat.lt_of_lt_of_le hb (Nat.pow_le_pow_right (by omega) (by omega))
    by_cases h0 : b = 0
    · subst h0; exact step0 a N c (by omega) (by omega)
    · obtain ⟨N, rfl⟩ : ∃ z, N = z + 1 + 1 := ⟨N - 2, by omega⟩
      have hr := Nat.mod_lt a (Nat.pos_of_ne_zero h0)
      rw [step1 a b _ c ha hb63 h0 (by omega), gcd_step a b]
      by_cases h1 : a % b = 0
      · rw [h1]; exact step0 b _ (c + 1) (by omega) (by omega)
      · rw [step1 b (a % b) _ (c + 1) hb63 (by omega) h1 (by omega), gcd_step b (a % b)]
        exact ih (a % b) (b % (a % b)) N (c + 1 + 1) (by omega) (mod_half (Nat.pos_of_ne_zero h1) hr hb) (by omega) (by omega) (by omega)
theorem pX4_common_eq {a b : Nat} (ha : a < 2 ^ 63) (hb : b < 2 ^ 62) : pX4_common (lN a) (lN b) = some (lN (Nat.gcd a b)) := by
  unfold pX4_common
  rw [gcdM 62 a b fw_N ha hb (by omega) (fw_lN (by omega))]
  rfl
theorem pX3_commonDivisor_eq {a b : Nat} (ha : a < 2 ^ 63) (hb : b < 2 ^ 48) : pX3_commonDivisor (lN a) (lN b) = some (lN (Nat.gcd a b)) := by
  unfold pX3_commonDivisor
  obtain ⟨c', h⟩ := gcdX 48 a b fw_N 0 ha hb (by omega) (fw_lN (by omega)) (by omega)
  have h' : fw_wh pX3_commonDivisor_9 fw_N (lN a, lN b, (0 : Int32)) = some (lN (Nat.gcd a b), lN 0, c') := h
  rw [h']
  rfl
theorem pX3_inLowestTerms_eq {a b : Nat} (ha : a < 2 ^ 63) (hb : b < 2 ^ 48) (part : Int32) : pX3_inLowestTerms (lN a) (lN b) part = some (if b = 0 then -1 else lN ((if part = 0 then a else b) / Nat.gcd a b)) := by
  unfold pX3_inLowestTerms
  rw [pX3_commonDivisor_eq ha hb, fw_ob]
  simp only [lg0, lN_0 (show b < 2 ^ 63 by omega)]
  by_cases h0 : b = 0
  · simp only [h0, if_true]
  · have hg := Nat.gcd_pos_of_pos_right a (Nat.pos_of_ne_zero h0)
    have hgl : Nat.gcd a b ≤ b := Nat.gcd_le_right a (Nat.pos_of_ne_zero h0)
    have hg0 : ¬ Nat.gcd a b = 0 := by omega
    simp only [h0, if_false, lN_0 (show Nat.gcd a b < 2 ^ 63 by omega), hg0]
    unfold fw_czl
    simp only [lN_0 (show Nat.gcd a b < 2 ^ 63 by omega), hg0, if_false, pk_lDiv ha hg (show Nat.gcd a b < 2 ^ 63 by omega), pk_lDiv (show b < 2 ^ 63 by omega) hg (show Nat.gcd a b < 2 ^ 63 by omega)]
    split <;> rfl
/-- a fraction has one form in lowest terms -/
theorem frac_one {a b c d : Nat} (hb : 0 < b) (hd : 0 < d) (h : a * d = c * b) : a / Nat.gcd a b = c / Nat.gcd c d ∧ b / Nat.gcd a b = d / Nat.gcd c d := by
  obtain ⟨x, y, hxy, hx, hy⟩ := Nat.exists_coprime a b
  obtain ⟨x', y', hxy', hx', hy'⟩ := Nat.exists_coprime c d
  have hg : 0 < Nat.gcd a b := Nat.gcd_pos_of_pos_right a hb
  have hg' : 0 < Nat.gcd c d := Nat.gcd_pos_of_pos_right c hd
  have e1 : a / Nat.gcd a b = x := by conv => lhs; lhs; rw [hx]
                                      exact Nat.mul_div_cancel x hg
  have e2 : b / Nat.gcd a b = y := by conv => lhs; lhs; rw [hy]
                                      exact Nat.mul_div_cancel y hg
  have e3 : c / Nat.gcd c d = x' := by conv => lhs; lhs; rw [hx']
                                       exact Nat.mul_div_cancel x' hg'
  have e4 : d / Nat.gcd c d = y' := by conv => lhs; lhs; rw [hy']
                                       exact Nat.mul_div_cancel y' hg'
  rw [e1, e2, e3, e4]
  generalize Nat.gcd a b = g at *
  generalize Nat.gcd c d = g' at *
  have key : x * y' = x' * y := by
    have h1 : (x * y') * (g * g') = (x' * y) * (g * g') := by
      calc (x * y') * (g * g') = (x * g) * (y' * g') := by rw [Nat.mul_mul_mul_comm]
        _ = (x' * g') * (y * g) := by rw [← hx, ← hy', ← hx', ← hy]; exact h
        _ = (x' * y) * (g' * g) := by rw [Nat.mul_mul_mul_comm]
        _ = (x' * y) * (g * g') := by rw [Nat.mul_comm g' g]
    exact Nat.eq_of_mul_eq_mul_right (Nat.mul_pos hg hg') h1
  constructor
  · apply Nat.dvd_antisymm
    · exact hxy.dvd_of_dvd_mul_right ⟨y', by rw [← key]⟩
    · exact hxy'.dvd_of_dvd_mul_right ⟨y, by rw [key]⟩
  · apply Nat.dvd_antisymm
    · exact hxy.symm.dvd_of_dvd_mul_left ⟨x', by rw [key, Nat.mul_comm]⟩
    · exact hxy'.symm.dvd_of_dvd_mul_left ⟨x, by rw [← key, Nat.mul_comm]⟩
/-! the greatest stretch -/
def stI (N T : Nat → Nat → Nat) (b0 al be : Nat) (P : Nat → Nat → Prop) : Prop := (∀ i j, P i j → N i j < nt_inf → T i j < nt_inf ∧ T i j * be ≤ al * N i j ∧ be ≠ 0) ∧ ((al = 0 ∧ be = b0) ∨ ∃ i j, P i j ∧ N i j < nt_inf ∧ al = T i j ∧ be = N i j)
theorem stI_same {N T : Nat → Nat → Nat} {b0 al be : Nat} {P P' : Nat → Nat → Prop} (h : stI N T b0 al be P) (hP : ∀ i j, P' i j ↔ P i j) : stI N T b0 al be P' := by
  refine ⟨fun i j hp => h.1 i j ((hP i j).mp hp), ?_⟩
  rcases h.2 with z | ⟨i, j, h1, h2⟩
  · exact Or.inl z
  · exact Or.inr ⟨i, j, (hP i j).mpr h1, h2⟩
theorem stI_skip {N T : Nat → Nat → Nat} {b0 al be a b : Nat} {P P' : Nat → Nat → Prop} (h : stI N T b0 al be P) (hP : ∀ i j, P' i j ↔ (P i j ∨ (i = a ∧ j = b))) (hN : ¬ N a b < nt_inf) : stI N T b0 al be P' := by
  refine ⟨fun i j hp hn => ?_, ?_⟩
  · rcases (hP i j).mp hp with z | ⟨rfl, rfl⟩
    · exact h.1 i j z hn
    · exact absurd hn hN
  · rcases h.2 with z | ⟨i, j, h1, h2⟩
    · exact Or.inl z
    · exact Or.inr ⟨i, j, (hP i j).mpr (Or.inl h1), h2⟩
theorem stI_keep {N T : Nat → Nat → Nat} {b0 al be a b : Nat} {P P' : Nat → Nat → Prop} (h : stI N T b0 al be P) (hP : ∀ i j, P' i j ↔ (P i j ∨ (i = a ∧ j = b))) (hT : T a b < nt_inf) (hb : be ≠ 0) (hc : T a b * be ≤ al * N a b) : stI N T b0 al be P' := by
  refine ⟨fun i j hp hn => ?_, ?_⟩
  · rcases (hP i j).mp hp with z | ⟨rfl, rfl⟩
    · exact h.1 i j z hn
    · exact ⟨hT, hc, hb⟩
  · rcases h.2 with z | ⟨i, j, h1, h2⟩
    · exact Or.inl z
    · exact Or.inr ⟨i, j, (hP i j).mpr (Or.inl h1), h2⟩
theorem stI_new {N T : Nat → Nat → Nat} {b0 al be a b : Nat} {P P' : Nat → Nat → Prop} (h : stI N T b0 al be P) (hP : ∀ i j, P' i j ↔ (P i j ∨ (i = a ∧ j = b))) (hN : N a b < nt_inf) (hN0 : N a b ≠ 0) (hT : T a b < nt_inf) (hc : be = 0 ∨ al * N a b < T a b * be) : stI N T b0 (T a b) (N a b) P' := by
  refine ⟨fun i j hp hn => ?_, Or.inr ⟨a, b, (hP a b).mpr (Or.inr ⟨rfl, rfl⟩), hN, rfl, rfl⟩⟩
  rcases (hP i j).mp hp with z | ⟨rfl, rfl⟩
  · obtain ⟨h1, h2, h3⟩ := h.1 i j z hn
    refine ⟨h1, ?_, hN0⟩
    rcases hc with hc | hc
    · exact absurd hc h3
    · have hb : 0 < be := Nat.pos_of_ne_zero h3
      have e1 : T i j * N a b * be ≤ T a b * N i j * be := by
        calc T i j * N a b * be = T i j * be * N a b := by rw [Nat.mul_right_comm]
          _ ≤ al * N i j * N a b := Nat.mul_le_mul_right _ h2
          _ = al * N a b * N i j := by rw [Nat.mul_right_comm]
          _ ≤ T a b * be * N i j := Nat.mul_le_mul_right _ (Nat.le_of_lt hc)
          _ = T a b * N i j * be := by rw [Nat.mul_right_comm]
      exact Nat.le_of_mul_le_mul_right e1 hb
  · exact ⟨hT, Nat.le_refl _, hN0⟩
section STR
variable {n m : Nat} {A B w k : Nat → Nat}
theorem nt_d_pos (hok : nt_ok n m A B w k) (S : Nat) {i j : Nat} (hi : i < n) (hj : j < n) (hij : i ≠ j) : nt_d A B w S m i j ≠ 0 := by
  have h := nt_d_great (S := S) (w := w) (nt_ends hok) (E := fun i j => if i = j then 0 else 1) ⟨fun i _ => if_pos rfl, fun i j _ _ => by
      show (if i = j then 0 else 1) = (if j = i then 0 else 1)
      by_cases e : i = j
      · rw [if_pos e, if_pos e.symm]
      · rw [if_neg e, if_neg (fun z => e z.symm)], fun i j l _ _ _ => by
      show (if i = l then 0 else 1) ≤ (if i = j then 0 else 1) + (if j = l then 0 else 1)
      by_cases e : i = j
      · subst e; simp
      · rw [if_neg e]; split <;> omega, fun i j _ _ => by
      show (if i = j then 0 else 1) ≤ nt_inf
      unfold nt_inf
      split <;> omega⟩ (fun q hq _ => by
      show (if _ then 0 else 1) ≤ _
      have := (hok.2 q hq).2.2.1
      split <;> omega) m (Nat.le_refl m) i j hi hj
  rw [if_neg hij] at h
  omega
theorem pX3_stretch_run (h7 : n ≤ 7) {N T : Nat → Nat → Nat} {na ta : Nat → Int32} {ns ts : Int32} (hna : rep n na N) (hta : rep n ta T) (hN : ∀ i j, i < n → j < n → N i j ≤ 1152 ∨ N i j = nt_inf) (hT : ∀ i j, i < n → j < n → T i j ≤ 1152 ∨ T i j = nt_inf) (hN0 : ∀ i j, i < n → j < n → i ≠ j → N i j ≠ 0) :
    ∃ e, fw_wh (pX3_stretch_33 (nI n) na ns ta ts) fw_N ((0 : Int32), (0 : Int32), (0 : Int32)) = some e ∧ ((∃ al be x, e = .inl (nI al, nI be, x) ∧ al ≤ 1152 ∧ be ≤ 1152 ∧ stI N T 0 al be (fun p q => p < q ∧ q < n)) ∨ (e = .inr (-1, na, ns, ta, ts) ∧ ∃ p q, p < q ∧ q < n ∧ N p q < nt_inf ∧ T p q = nt_inf)) := by
  have hinf : nt_inf = 1000000 := rfl
  refine fw_loop (f := pX3_stretch_33 (nI n) na ns ta ts) (fun a s => ∃ al be, s.1 = nI al ∧ s.2.1 = nI be ∧ s.2.2 = nI a ∧ al ≤ 1152 ∧ be ≤ 1152 ∧ stI N T 0 al be (fun p q => p < q ∧ q < n ∧ p < a)) 0 n _ (by omega) (by omega) ⟨0, 0, rfl, rfl, rfl, by omega, by omega, fun i j hp => by omega, Or.inl ⟨rfl, rfl⟩⟩ (fun a s ha hs => ?_) (fun s hs => ?_)
  · obtain ⟨x4, x5, x6⟩ := s
    obtain ⟨al, be, r1, r2, r3, r4, r5, r6⟩ := hs
    dsimp only at r1 r2 r3
    subst r1
    subst r2
    subst r3
    dsimp only [pX3_stretch_33]
    rw [if_neg (nI_ge ha (by omega)), nI_1]
    obtain ⟨e, k1, k2⟩ := fw_loop (f := pX3_stretch_48 (nI a) (nI n) na ns ta ts) (Q := fun e => (∃ al be x, e = .inl (nI al, nI be, x) ∧ al ≤ 1152 ∧ be ≤ 1152 ∧ stI N T 0 al be (fun p q => p < q ∧ q < n ∧ p < a + 1)) ∨ (e = .inr (-1, na, ns, ta, ts) ∧ ∃ p q, p < q ∧ q < n ∧ N p q < nt_inf ∧ T p q = nt_inf)) (fun b s => ∃ al be, s.1 = nI al ∧ s.2.1 = nI be ∧ s.2.2 = nI b ∧ a < b ∧ al ≤ 1152 ∧ be ≤ 1152 ∧ stI N T 0 al be (fun p q => p < q ∧ q < n ∧ (p < a ∨ (p = a ∧ q < b)))) (a + 1) n (nI al, nI be, nI (a + 1)) (by omega) (by omega) ⟨al, be, rfl, rfl, rfl, by omega, r4, r5, stI_same r6 (fun i j => by omega)⟩ (fun b s hb hs => by
      obtain ⟨y4, y5, y7⟩ := s
      obtain ⟨al, be, q1, q2, q3, q0, q4, q5, q6⟩ := hs
      dsimp only at q1 q2 q3
      subst q1
      subst q2
      subst q3
      have bN := hN a b ha hb
      have bT := hT a b ha hb
      have hPeq : ∀ i j, (i < j ∧ j < n ∧ (i < a ∨ (i = a ∧ j < b + 1))) ↔ ((i < j ∧ j < n ∧ (i < a ∨ (i = a ∧ j < b))) ∨ (i = a ∧ j = b)) := fun i j => by omega
      dsimp only [pX3_stretch_48]
      rw [if_neg (nI_ge hb (by omega)), pX0_between_eq h7 hna ha hb, fw_ob, pX0_between_eq h7 hta ha hb, fw_ob, nI_1, pk_mul, pk_mul]
      have m1 : al * N a b ≤ 1152 * 1000000 := Nat.mul_le_mul q4 (by omega)
      have m2 : T a b * be ≤ 1000000 * 1152 := Nat.mul_le_mul (by omega) q5
      simp only [l_1e6, l_0, n_le (show 1000000 < 2 ^ 31 by omega) (show N a b < 2 ^ 31 by omega), n_lt (show T a b < 2 ^ 31 by omega) (show 1000000 < 2 ^ 31 by omega), n_eq (show be < 2 ^ 31 by omega) (show 0 < 2 ^ 31 by omega), n_le (show T a b * be < 2 ^ 31 by omega) (show al * N a b < 2 ^ 31 by omega)]
      by_cases c1 : 1000000 ≤ N a b
      · rw [if_pos c1, if_pos c1]
        exact Or.inl ⟨_, rfl, al, be, rfl, rfl, rfl, by omega, q4, q5, stI_skip q6 hPeq (by omega)⟩
      · rw [if_neg c1]
        by_cases c2 : T a b < 1000000
        · rw [if_pos c2, if_neg c1]
          by_cases c3 : be = 0
          · rw [if_pos c3]
            exact Or.inl ⟨_, rfl, T a b, N a b, rfl, rfl, rfl, by omega, by omega, by omega, stI_new q6 hPeq (by omega) (hN0 a b ha hb (by omega)) (by omega) (Or.inl c3)⟩
          · rw [if_neg c3]
            by_cases c4 : T a b * be ≤ al * N a b
            · rw [if_pos c4]
              exact Or.inl ⟨_, rfl, al, be, rfl, rfl, rfl, by omega, q4, q5, stI_keep q6 hPeq (by omega) c3 c4⟩
            · rw [if_neg c4]
              exact Or.inl ⟨_, rfl, T a b, N a b, rfl, rfl, rfl, by omega, by omega, by omega, stI_new q6 hPeq (by omega) (hN0 a b ha hb (by omega)) (by omega) (Or.inr (by omega))⟩
        · rw [if_neg c2]
          exact Or.inr ⟨_, rfl, Or.inr ⟨rfl, a, b, q0, hb, by omega, by omega⟩⟩) (fun s hs => by
      obtain ⟨y4, y5, y7⟩ := s
      obtain ⟨al, be, q1, q2, q3, q0, q4, q5, q6⟩ := hs
      dsimp only at q1 q2 q3
      subst q1
      subst q2
      subst q3
      dsimp only [pX3_stretch_48]
      rw [if_pos (nI_le (Nat.le_refl _) (by omega))]
      exact ⟨_, rfl, Or.inl ⟨al, be, _, rfl, q4, q5, stI_same q6 (fun i j => by omega)⟩⟩)
    rw [k1, fw_ob]
    rcases k2 with ⟨al', be', x, rfl, t1, t2, t3⟩ | ⟨rfl, hbad⟩
    · exact Or.inl ⟨_, rfl, al', be', rfl, rfl, rfl, t1, t2, t3⟩
    · exact Or.inr ⟨_, rfl, Or.inr ⟨rfl, hbad⟩⟩
  · obtain ⟨x4, x5, x6⟩ := s
    obtain ⟨al, be, r1, r2, r3, r4, r5, r6⟩ := hs
    dsimp only at r1 r2 r3
    subst r1
    subst r2
    subst r3
    dsimp only [pX3_stretch_33]
    rw [if_pos (nI_le (Nat.le_refl _) (by omega))]
    exact ⟨_, rfl, Or.inl ⟨al, be, _, rfl, r4, r5, stI_same r6 (fun i j => by omega)⟩⟩
theorem pX4_stretch_run (h7 : n ≤ 7) {N T GN GT : Nat → Nat → Nat} {wl tn : Nat → Int32} (hwl : rep n wl GN) (htn : rep n tn GT) (hN : ∀ i j, i < n → j < n → (N i j < nt_inf ∧ GN i j = N i j ∧ GN i j ≤ 1152) ∨ (N i j = nt_inf ∧ GN i j = 10000)) (hT : ∀ i j, i < n → j < n → (T i j < nt_inf ∧ GT i j = T i j ∧ GT i j ≤ 1152) ∨ (T i j = nt_inf ∧ GT i j = 10000)) (hN0 : ∀ i j, i < n → j < n → i ≠ j → N i j ≠ 0) :
    ∃ e, fw_wh (pX4_stretch_47 (nI n) wl tn) fw_N ((0 : Int32), (1 : Int32), (0 : Int32)) = some e ∧ ((∃ al be x, e = .inl (nI al, nI be, x) ∧ al ≤ 1152 ∧ be ≤ 1152 ∧ be ≠ 0 ∧ stI N T 1 al be (fun p q => q < p ∧ p < n)) ∨ (e = .inr (-1, wl, tn) ∧ ∃ p q, q < p ∧ p < n ∧ N p q < nt_inf ∧ T p q = nt_inf)) := by
  refine fw_loop (f := pX4_stretch_47 (nI n) wl tn) (fun a s => ∃ al be, s.1 = nI al ∧ s.2.1 = nI be ∧ s.2.2 = nI a ∧ al ≤ 1152 ∧ be ≤ 1152 ∧ be ≠ 0 ∧ stI N T 1 al be (fun p q => q < p ∧ p < n ∧ p < a)) 0 n _ (by omega) (by omega) ⟨0, 1, rfl, rfl, rfl, by omega, by omega, by omega, fun i j hp => by omega, Or.inl ⟨rfl, rfl⟩⟩ (fun a s ha hs => ?_) (fun s hs => ?_)
  · obtain ⟨x4, x5, x6⟩ := s
    obtain ⟨al, be, r1, r2, r3, r4, r5, r7, r6⟩ := hs
    dsimp only at r1 r2 r3
    subst r1
    subst r2
    subst r3
    dsimp only [pX4_stretch_47]
    rw [if_neg (nI_ge ha (by omega))]
    obtain ⟨e, k1, k2⟩ := fw_loop (f := pX4_stretch_59 (nI a) wl tn) (Q := fun e => (∃ al be x, e = .inl (nI al, nI be, x) ∧ al ≤ 1152 ∧ be ≤ 1152 ∧ be ≠ 0 ∧ stI N T 1 al be (fun p q => q < p ∧ p < n ∧ p < a + 1)) ∨ (e = .inr (-1, wl, tn) ∧ ∃ p q, q < p ∧ p < n ∧ N p q < nt_inf ∧ T p q = nt_inf)) (fun b s => ∃ al be, s.1 = nI al ∧ s.2.1 = nI be ∧ s.2.2 = nI b ∧ al ≤ 1152 ∧ be ≤ 1152 ∧ be ≠ 0 ∧ stI N T 1 al be (fun p q => q < p ∧ p < n ∧ (p < a ∨ (p = a ∧ q < b)))) 0 a (nI al, nI be, (0 : Int32)) (by omega) (by omega) ⟨al, be, rfl, rfl, rfl, r4, r5, r7, stI_same r6 (fun i j => by omega)⟩ (fun b s hb hs => by
      obtain ⟨y4, y5, y7⟩ := s
      obtain ⟨al, be, q1, q2, q3, q4, q5, q7, q6⟩ := hs
      dsimp only at q1 q2 q3
      subst q1
      subst q2
      subst q3
      have hbn : b < n := by omega
      have bN := hN a b ha hbn
      have bT := hT a b ha hbn
      have hinf : nt_inf = 1000000 := rfl
      have hPeq : ∀ i j, (j < i ∧ i < n ∧ (i < a ∨ (i = a ∧ j < b + 1))) ↔ ((j < i ∧ i < n ∧ (i < a ∨ (i = a ∧ j < b))) ∨ (i = a ∧ j = b)) := fun i j => by omega
      have m1 : al * GN a b ≤ 1152 * 10000 := Nat.mul_le_mul q4 (by omega)
      have m2 : GT a b * be ≤ 10000 * 1152 := Nat.mul_le_mul (by omega) q5
      dsimp only [pX4_stretch_59]
      rw [if_neg (nI_ge hb (by omega))]
      simp only [i_ba, n_ck (show 7 * a + b < 49 by omega) (show 49 < 2 ^ 31 by omega), n_cl (show 7 * a + b < 2 ^ 31 by omega), hwl a b ha hbn, htn a b ha hbn, nI_1, pk_mul, l_1e4, n_le (show 10000 < 2 ^ 31 by omega) (show GN a b < 2 ^ 31 by omega), n_lt (show GT a b < 2 ^ 31 by omega) (show 10000 < 2 ^ 31 by omega), n_le (show GT a b * be < 2 ^ 31 by omega) (show al * GN a b < 2 ^ 31 by omega)]
      by_cases c1 : 10000 ≤ GN a b
      · rw [if_pos c1, if_pos c1]
        exact Or.inl ⟨_, rfl, al, be, rfl, rfl, rfl, q4, q5, q7, stI_skip q6 hPeq (by omega)⟩
      · rw [if_neg c1]
        have eN : GN a b = N a b := by omega
        by_cases c2 : GT a b < 10000
        · rw [if_pos c2, if_neg c1]
          have eT : GT a b = T a b := by omega
          rw [eN, eT]
          by_cases c4 : T a b * be ≤ al * N a b
          · rw [if_pos c4]
            exact Or.inl ⟨_, rfl, al, be, rfl, rfl, rfl, q4, q5, q7, stI_keep q6 hPeq (by omega) q7 c4⟩
          · rw [if_neg c4]
            exact Or.inl ⟨_, rfl, T a b, N a b, rfl, rfl, rfl, by omega, by omega, hN0 a b ha hbn (by omega), stI_new q6 hPeq (by omega) (hN0 a b ha hbn (by omega)) (by omega) (Or.inr (by omega))⟩
        · rw [if_neg c2]
          exact Or.inr ⟨_, rfl, Or.inr ⟨rfl, a, b, hb, ha, by omega, by omega⟩⟩) (fun s hs => by
      obtain ⟨y4, y5, y7⟩ := s
      obtain ⟨al, be, q1, q2, q3, q4, q5, q7, q6⟩ := hs
      dsimp only at q1 q2 q3
      subst q1
      subst q2
      subst q3
      dsimp only [pX4_stretch_59]
      rw [if_pos (nI_le (Nat.le_refl _) (by omega))]
      exact ⟨_, rfl, Or.inl ⟨al, be, _, rfl, q4, q5, q7, stI_same q6 (fun i j => by omega)⟩⟩)
    rw [k1, fw_ob, nI_1]
    rcases k2 with ⟨al', be', x, rfl, t1, t2, t4, t3⟩ | ⟨rfl, hbad⟩
    · exact Or.inl ⟨_, rfl, al', be', rfl, rfl, rfl, t1, t2, t4, t3⟩
    · exact Or.inr ⟨_, rfl, Or.inr ⟨rfl, hbad⟩⟩
  · obtain ⟨x4, x5, x6⟩ := s
    obtain ⟨al, be, r1, r2, r3, r4, r5, r7, r6⟩ := hs
    dsimp only at r1 r2 r3
    subst r1
    subst r2
    subst r3
    dsimp only [pX4_stretch_47]
    rw [if_pos (nI_le (Nat.le_refl _) (by omega))]
    exact ⟨_, rfl, Or.inl ⟨al, be, _, rfl, r4, r5, r7, stI_same r6 (fun i j => by omega)⟩⟩
end STR
theorem st_stretch (nc : Int32) (lc : Int32) (le : Nat → Int32) (ge : Nat → Int32) (wt : Nat → Int32) (kp : Nat → Int32) (fs : Nat → Int32) (nn : Int32) (ln : Int32) (sa : Nat → Int32) (sb : Nat → Int32) (wg : Nat → Int32) (kt : Nat → Int32) (h : fw_R nc lc le ge wt kp fs nn ln sa sb wg kt) (na : Nat → Int32) (ns : Int32) (ta : Nat → Int32) (ts : Int32) (wl : Nat → Int32) (tn : Nat → Int32) (a1 : Int32) : ∃ (r : Int32) (na' : Nat → Int32) (ns' : Int32) (ta' : Nat → Int32) (ts' : Int32) (wl' : Nat → Int32) (tn' : Nat → Int32), pX3_stretch nc lc le ge wt kp na ns ta ts a1 = some (r, na', ns', ta', ts') ∧ pX4_stretch nn ln sa sb wg kt wl tn a1 = some (r, wl', tn') ∧ fw_R nc lc le ge wt kp fs nn ln sa sb wg kt := by
  have h0 := h
  obtain ⟨n, m, A, B, w, k, hok, hX, hM, hC⟩ := h
  obtain ⟨⟨h2, h7, h12⟩, hj⟩ := id hok
  have hp := n_p12 h12
  have hinf : nt_inf = 1000000 := rfl
  have e1 := hX.1
  have e2 := hM.1
  have e4 := hM.2.1
  subst e1
  subst e2
  subst e4
  unfold pX3_stretch pX4_stretch
  rw [pX3_isWithin_eq, pX4_in_eq, fw_ob, fw_ob]
  simp only [bb_0, decide_eq_false_iff_not]
  by_cases c : ¬ a1 < 0 ∧ ¬ 1 < a1
  · rw [if_neg (not_not_intro c), if_neg (not_not_intro c)]
    have hl := nt_set_lt (fun j => decide (0 < k j)) m
    obtain ⟨na', x1, x2⟩ := pX3_measured_N_eq hok hX na
    obtain ⟨ta', x3, x4⟩ := pX3_measured_T_eq hok hX ta
    obtain ⟨wl', GN, y1, y2, y3⟩ := pX4_findFar_W_eq hok hM (S := 2 ^ m - 1) (by omega) wl
    obtain ⟨tn', GT, z1, z2, z3⟩ := pX4_findFar_T_eq hok hM (S := nt_set (fun j => decide (0 < k j)) m) (by omega) tn
    rw [x1, fw_ob]
    dsimp only
    rw [x3, fw_ob, n_all h12, y1, fw_ob, pX4_keptSet_eq hok hM, fw_ob, z1, fw_ob]
    dsimp only
    have hNb := fun i j (hi : i < n) (hj : j < n) => nt_both hok y3 hi hj
    have hTb := fun i j (hi : i < n) (hj : j < n) => nt_both hok z3 hi hj
    have hN0 := fun i j (hi : i < n) (hj : j < n) => nt_d_pos hok (2 ^ m - 1) hi hj
    have hT0 := fun i j (hi : i < n) (hj : j < n) => nt_d_pos hok (nt_set (fun j => decide (0 < k j)) m) hi hj
    have hNs := (nt_d_pm (w := w) (nt_ends hok) (2 ^ m - 1) m (Nat.le_refl m)).2.1
    have hTs := (nt_d_pm (w := w) (nt_ends hok) (nt_set (fun j => decide (0 < k j)) m) m (Nat.le_refl m)).2.1
    generalize nt_d A B w (2 ^ m - 1) m = N at *
    generalize nt_d A B w (nt_set (fun j => decide (0 < k j)) m) m = T at *
    obtain ⟨e, g1, g2⟩ := pX3_stretch_run (ns := nI n) (ts := nI n) h7 x2 x4 (fun i j hi hj => by have := hNb i j hi hj; omega) (fun i j hi hj => by have := hTb i j hi hj; omega) hN0
    obtain ⟨e', k1, k2⟩ := pX4_stretch_run h7 y2 z2 hNb hTb hN0
    rw [g1, fw_ob, k1, fw_ob]
    rcases g2 with ⟨al, be, x, rfl, t1, t2, t3⟩ | ⟨rfl, p, q, u1, u2, u3, u4⟩
    · rcases k2 with ⟨al', be', x', rfl, s1, s2, s4, s3⟩ | ⟨rfl, p, q, u1, u2, u3, u4⟩
      · dsimp only
        rw [nI_l (show al < 2 ^ 31 by omega), nI_l (show be < 2 ^ 31 by omega), pX3_inLowestTerms_eq (by omega) (by omega), fw_ob, nI_l (show al' < 2 ^ 31 by omega), nI_l (show be' < 2 ^ 31 by omega), pX4_common_eq (by omega) (by omega), fw_ob, lN_i]
        have hg' : 0 < Nat.gcd al' be' := Nat.gcd_pos_of_pos_right al' (by omega)
        have hgl' : Nat.gcd al' be' ≤ be' := Nat.gcd_le_right al' (by omega)
        have hz : (nI al' = 0) = (al' = 0) := n_eq (b := 0) (by omega) (by omega)
        have hz2 : (nI (Nat.gcd al' be') = 0) = (Nat.gcd al' be' = 0) := n_eq (b := 0) (by omega) (by omega)
        unfold fw_cz
        simp only [hz, hz2, show ¬ Nat.gcd al' be' = 0 by omega, if_false, pk_div (show al' < 2 ^ 31 by omega) hg' (show Nat.gcd al' be' < 2 ^ 31 by omega), pk_div (show be' < 2 ^ 31 by omega) hg' (show Nat.gcd al' be' < 2 ^ 31 by omega)]
        by_cases hb : be = 0
        · have ha' : al' = 0 := by
            rcases s3.2 with z | ⟨i, j, w1, w2, w3, w4⟩
            · exact z.1
            · have := t3.1 j i ⟨w1.1, w1.2⟩ (by rw [hNs j i (by omega) (by omega)]; exact w2)
              omega
          simp only [hb, ha', if_true]
          exact ⟨_, _, _, _, _, _, _, rfl, rfl, h0⟩
        · rcases t3.2 with z | ⟨i, j, w1, w2, w3, w4⟩
          · exact absurd z.2 hb
          · have q1 := s3.1 j i ⟨w1.1, w1.2⟩ (by rw [hNs j i (by omega) (by omega)]; exact w2)
            rw [hTs j i (by omega) (by omega), hNs j i (by omega) (by omega), ← w3, ← w4] at q1
            have hT1 := hT0 i j (by omega) (by omega) (by omega)
            have ha' : ¬ al' = 0 := by
              intro z
              have q2 := q1.2.1
              rw [z, Nat.zero_mul] at q2
              have : 0 < al * be' := Nat.mul_pos (by omega) (by omega)
              omega
            rcases s3.2 with z | ⟨i', j', v1, v2, v3, v4⟩
            · exact absurd z.1 ha'
            · have q3 := t3.1 j' i' ⟨v1.1, v1.2⟩ (by rw [hNs j' i' (by omega) (by omega)]; exact v2)
              rw [hTs j' i' (by omega) (by omega), hNs j' i' (by omega) (by omega), ← v3, ← v4] at q3
              have heq : al * be' = al' * be := Nat.le_antisymm q1.2.1 q3.2.1
              obtain ⟨f1, f2⟩ := frac_one (by omega) (by omega) heq
              simp only [hb, ha', if_false]
              by_cases hpart : a1 = 0
              · simp only [hpart, if_true, lN_i, f1]
                exact ⟨_, _, _, _, _, _, _, rfl, rfl, h0⟩
              · simp only [hpart, if_false, lN_i, f2]
                exact ⟨_, _, _, _, _, _, _, rfl, rfl, h0⟩
      · have := t3.1 q p ⟨u1, u2⟩ (by rw [hNs q p (by omega) (by omega)]; exact u3)
        have := hTs q p (by omega) (by omega)
        omega
    · rcases k2 with ⟨al', be', x', rfl, s1, s2, s4, s3⟩ | ⟨rfl, p', q', v1, v2, v3, v4⟩
      · have := s3.1 q p ⟨u1, u2⟩ (by rw [hNs q p (by omega) (by omega)]; exact u3)
        have := hTs q p (by omega) (by omega)
        omega
      · exact ⟨_, _, _, _, _, _, _, rfl, rfl, h0⟩
  · rw [if_pos c, if_pos c]
    exact ⟨_, _, _, _, _, _, _, rfl, rfl, h0⟩
