/-! ===== promise, count ===== -/
/-- the promise at one side -/
def nt_pr (c0 c1 : Nat → Nat) (p q s : Nat) : Prop := (q - p) * c0 s ≤ q * c1 s ∧ q * c1 s ≤ (q + p) * c0 s
section PRM
variable {m : Nat} {A B w k : Nat → Nat}
theorem pX3_promise_step {u p q i : Nat} {lc : Int32} {le ge wt kp : Nat → Int32} (hok : nt_ok (u + 1) m A B w k) (hX : nt_X (u + 1) m A B w k (nI (u + 1)) lc le ge wt kp) (hp : p ≤ q) (hq : q ≤ 20) (hi : i < 2 ^ u - 1) :
    (nt_pr (nt_cut A B (nt_wy w k 0) m) (nt_cut A B (nt_wy w k 1) m) p q (2 * i + 1) → pX3_promise_24 (nI p) (nI q) (nI (u + 1)) lc le ge wt kp (nI (2 * i + 1)) = some (.inl (nI (2 * (i + 1) + 1)))) ∧ (¬ nt_pr (nt_cut A B (nt_wy w k 0) m) (nt_cut A B (nt_wy w k 1) m) p q (2 * i + 1) → pX3_promise_24 (nI p) (nI q) (nI (u + 1)) lc le ge wt kp (nI (2 * i + 1)) = some (.inr (.inr 0))) := by
  have h7 := hok.1.2.1
  have hpw := n_pow h7
  have h1 : 1 ≤ 2 ^ u := Nat.one_le_two_pow
  have hs : 2 ^ (u + 1) = 2 * 2 ^ u := by rw [Nat.pow_succ]; omega
  have b0 := nt_cut_le hok 0 (2 * i + 1)
  have b1 := nt_cut_le hok 1 (2 * i + 1)
  have w0 := pX3_weightAcross_eq hok hX 0 (S := 2 * i + 1) (by omega)
  have w1 := pX3_weightAcross_eq hok hX 1 (S := 2 * i + 1) (by omega)
  unfold nt_pr
  generalize nt_cut A B (nt_wy w k 0) m (2 * i + 1) = c0 at *
  generalize nt_cut A B (nt_wy w k 1) m (2 * i + 1) = c1 at *
  have q0 : q * c1 ≤ 20 * 720 := Nat.mul_le_mul hq b1
  have q1 : (q - p) * c0 ≤ 20 * 720 := Nat.mul_le_mul (by omega) b0
  have q2 : (q + p) * c0 ≤ 40 * 720 := Nat.mul_le_mul (by omega) b0
  have key : pX3_promise_24 (nI p) (nI q) (nI (u + 1)) lc le ge wt kp (nI (2 * i + 1)) = if q * c1 < (q - p) * c0 then some (.inr (.inr 0)) else if q * c1 ≤ (q + p) * c0 then some (.inl (nI (2 * (i + 1) + 1))) else some (.inr (.inr 0)) := by
    dsimp only [pX3_promise_24, pX3_allNodes]
    rw [fw_ob, nt_all (by omega)]
    simp only [n_le (show 2 ^ (u + 1) - 1 < 2 ^ 31 by omega) (show 2 * i + 1 < 2 ^ 31 by omega), show ¬ 2 ^ (u + 1) - 1 ≤ 2 * i + 1 by omega, if_false]
    rw [w0, fw_ob, w1, fw_ob, pk_sub hp, nI_add, pk_mul, pk_mul, pk_mul, show nI (2 * i + 1) + 2 = nI (2 * (i + 1) + 1) from nI_add _ 2]
    simp only [n_lt (show q * c1 < 2 ^ 31 by omega) (show (q - p) * c0 < 2 ^ 31 by omega), n_le (show q * c1 < 2 ^ 31 by omega) (show (q + p) * c0 < 2 ^ 31 by omega)]
  rw [key]
  constructor
  · intro ⟨x, y⟩
    rw [if_neg (by omega), if_pos y]
  · intro x
    by_cases y : q * c1 < (q - p) * c0
    · rw [if_pos y]
    · rw [if_neg y, if_neg (fun z => x ⟨by omega, z⟩)]
theorem pX3_promise_end {u p q : Nat} {lc : Int32} {le ge wt kp : Nat → Int32} (h7 : u ≤ 6) : pX3_promise_24 (nI p) (nI q) (nI (u + 1)) lc le ge wt kp (nI (2 * (2 ^ u - 1) + 1)) = some (.inr (.inl (nI (2 * (2 ^ u - 1) + 1)))) := by
  have hpw := n_pow (n := u + 1) (by omega)
  have h1 : 1 ≤ 2 ^ u := Nat.one_le_two_pow
  have hs : 2 ^ (u + 1) = 2 * 2 ^ u := by rw [Nat.pow_succ]; omega
  dsimp only [pX3_promise_24, pX3_allNodes]
  rw [fw_ob, nt_all (by omega)]
  simp only [n_le (show 2 ^ (u + 1) - 1 < 2 ^ 31 by omega) (show 2 * (2 ^ u - 1) + 1 < 2 ^ 31 by omega), show 2 ^ (u + 1) - 1 ≤ 2 * (2 ^ u - 1) + 1 by omega, if_true]
/-- all of the first i odd sides keep the promise -/
def nt_prs (c0 c1 : Nat → Nat) (p q : Nat) (i : Nat) : Prop := ∀ j, j < i → nt_pr c0 c1 p q (2 * j + 1)
theorem pX4_promise_run {u p q : Nat} {lc : Int32} {le ge wt kp : Nat → Int32} (hok : nt_ok (u + 1) m A B w k) (hX : nt_X (u + 1) m A B w k (nI (u + 1)) lc le ge wt kp) (hp : p ≤ q) (hq : q ≤ 20) (P : Nat → Bool) (hP : ∀ i, P i = true ↔ nt_prs (nt_cut A B (nt_wy w k 0) m) (nt_cut A B (nt_wy w k 1) m) p q i) :
    fw_wh (pX4_promise_27 (nI p) (nI q) (nI (u + 1)) lc le ge wt kp) fw_N ((1 : Int32), (1 : Int32)) = some (bb (P (2 ^ u - 1)), nI (2 * (2 ^ u - 1) + 1)) := by
  have h7 := hok.1.2.1
  have hpw := n_pow h7
  have h1 : 1 ≤ 2 ^ u := Nat.one_le_two_pow
  have hs : 2 ^ (u + 1) = 2 * 2 ^ u := by rw [Nat.pow_succ]; omega
  have hP0 : P 0 = true := (hP 0).mpr (fun j hj => by omega)
  have h0 : ((1 : Int32), (1 : Int32)) = (bb (P 0), nI (2 * 0 + 1)) := by rw [hP0]; rfl
  rw [h0]
  refine fw_from 0 (2 ^ u - 1) (fun i => (bb (P i), nI (2 * i + 1))) (by omega) (by omega) (fun i _ hi => ?_) ?_
  · have b0 := nt_cut_le hok 0 (2 * i + 1)
    have b1 := nt_cut_le hok 1 (2 * i + 1)
    have w0 := pX4_cutOf_eq hok hX 0 (S := 2 * i + 1) (by omega)
    have w1 := pX4_cutOf_eq hok hX 1 (S := 2 * i + 1) (by omega)
    have hstep : (P (i + 1) = true) ↔ (P i = true ∧ nt_pr (nt_cut A B (nt_wy w k 0) m) (nt_cut A B (nt_wy w k 1) m) p q (2 * i + 1)) := by
      rw [hP, hP]
      constructor
      · intro h
        exact ⟨fun j hj => h j (by omega), h i (by omega)⟩
      · intro ⟨h, h'⟩ j hj
        rcases (show j < i ∨ j = i by omega) with z | z
        · exact h j z
        · subst z; exact h'
    unfold nt_pr at hstep
    generalize nt_cut A B (nt_wy w k 0) m (2 * i + 1) = c0 at *
    generalize nt_cut A B (nt_wy w k 1) m (2 * i + 1) = c1 at *
    have q0 : q * c1 ≤ 20 * 720 := Nat.mul_le_mul hq b1
    have q1 : (q - p) * c0 ≤ 20 * 720 := Nat.mul_le_mul (by omega) b0
    have q2 : (q + p) * c0 ≤ 40 * 720 := Nat.mul_le_mul (by omega) b0
    dsimp only [pX4_promise_27]
    rw [nt_all (by omega)]
    simp only [n_le (show 2 ^ (u + 1) - 1 < 2 ^ 31 by omega) (show 2 * i + 1 < 2 ^ 31 by omega), show ¬ 2 ^ (u + 1) - 1 ≤ 2 * i + 1 by omega, if_false]
    simp only [w0, w1, fw_ob, pk_sub hp, nI_add q p, pk_mul, show nI (2 * i + 1) + 2 = nI (2 * (i + 1) + 1) from nI_add _ 2]
    simp only [n_lt (show q * c1 < 2 ^ 31 by omega) (show (q - p) * c0 < 2 ^ 31 by omega), n_lt (show (q + p) * c0 < 2 ^ 31 by omega) (show q * c1 < 2 ^ 31 by omega), bb_0]
    have nf : ∀ {b : Bool}, ¬ b = true → b = false := fun {b} h => by cases b <;> simp_all
    cases hpi : P i with
    | false =>
      have : P (i + 1) = false := nf (fun z => by rw [hstep, hpi] at z; exact absurd z.1 (by decide))
      rw [if_pos rfl, this]; rfl
    | true =>
      rw [if_neg (by decide)]
      by_cases y1 : q * c1 < (q - p) * c0
      · have : P (i + 1) = false := nf (fun z => by rw [hstep] at z; omega)
        rw [if_pos y1, this]; rfl
      · by_cases y2 : (q + p) * c0 < q * c1
        · have : P (i + 1) = false := nf (fun z => by rw [hstep] at z; omega)
          rw [if_neg y1, if_pos y2, this]; rfl
        · have : P (i + 1) = true := hstep.mpr ⟨hpi, by omega, by omega⟩
          rw [if_neg y1, if_neg y2, this]; rfl
  · dsimp only [pX4_promise_27]
    rw [nt_all (by omega)]
    simp only [n_le (show 2 ^ (u + 1) - 1 < 2 ^ 31 by omega) (show 2 * (2 ^ u - 1) + 1 < 2 ^ 31 by omega), show 2 ^ (u + 1) - 1 ≤ 2 * (2 ^ u - 1) + 1 by omega, if_true]
end PRM
theorem st_promise (nc : Int32) (lc : Int32) (le : Nat → Int32) (ge : Nat → Int32) (wt : Nat → Int32) (kp : Nat → Int32) (fs : Nat → Int32) (nn : Int32) (ln : Int32) (sa : Nat → Int32) (sb : Nat → Int32) (wg : Nat → Int32) (kt : Nat → Int32) (h : fw_R nc lc le ge wt kp fs nn ln sa sb wg kt) (a1 : Int32) (a2 : Int32) : ∃ (r : Int32), pX3_promise nc lc le ge wt kp a1 a2 = some r ∧ pX4_promise nn ln sa sb wg kt a1 a2 = some r ∧ fw_R nc lc le ge wt kp fs nn ln sa sb wg kt := by
  have h0 := h
  obtain ⟨n, m, A, B, w, k, hok, hX, hM, hC⟩ := h
  obtain ⟨u, rfl⟩ : ∃ u, n = u + 1 := ⟨n - 1, by have := hok.1; omega⟩
  have e1 := hX.1
  have e2 := hM.1
  subst e1
  subst e2
  have h7 := hok.1.2.1
  have hpw := n_pow h7
  have g1 : 1 ≤ 2 ^ u := Nat.one_le_two_pow
  have hs : 2 ^ (u + 1) = 2 * 2 ^ u := by rw [Nat.pow_succ]; omega
  unfold pX3_promise pX4_promise
  simp only [pX3_isWithin_eq, pX4_in_eq, fw_ob, bb_0, decide_eq_false_iff_not]
  by_cases c : ¬ a2 < 1 ∧ ¬ 20 < a2
  · rw [if_neg (not_not_intro c), if_neg (not_not_intro c)]
    by_cases c2 : ¬ a1 < 1 ∧ ¬ a2 < a1
    · rw [if_neg (not_not_intro c2), if_neg (not_not_intro c2)]
      rcases n_within a2 (a := 1) (b := 20) (by omega) (by omega) with z | z | ⟨q, hq1, hq2, rfl⟩
      · exact absurd z c.1
      · exact absurd z c.2
      rcases n_within a1 (a := 1) (b := q) (by omega) (by omega) with z | z | ⟨p, hp1, hp2, rfl⟩
      · exact absurd z c2.1
      · exact absurd z c2.2
      obtain ⟨P, hP⟩ : ∃ P : Nat → Bool, ∀ i, P i = true ↔ nt_prs (nt_cut A B (nt_wy w k 0) m) (nt_cut A B (nt_wy w k 1) m) p q i := ⟨fun i => @decide (nt_prs (nt_cut A B (nt_wy w k 0) m) (nt_cut A B (nt_wy w k 1) m) p q i) (Classical.propDecidable _), fun i => by simp⟩
      rw [pX4_promise_run hok hM hp2 hq2 P hP, fw_ob]
      by_cases hall : nt_prs (nt_cut A B (nt_wy w k 0) m) (nt_cut A B (nt_wy w k 1) m) p q (2 ^ u - 1)
      · have hx := fw_from (f := pX3_promise_24 (nI p) (nI q) (nI (u + 1)) lc le ge wt kp) (e := Sum.inl (nI (2 * (2 ^ u - 1) + 1))) 0 (2 ^ u - 1) (fun i => nI (2 * i + 1)) (by omega) (by omega) (fun i _ hi => (pX3_promise_step hok hX hp2 hq2 hi).1 (hall i hi)) (pX3_promise_end (by omega))
        have hx' : fw_wh (pX3_promise_24 (nI p) (nI q) (nI (u + 1)) lc le ge wt kp) fw_N 1 = some (Sum.inl (nI (2 * (2 ^ u - 1) + 1))) := hx
        rw [hx', fw_ob, (hP _).mpr hall]
        exact ⟨1, rfl, rfl, h0⟩
      · obtain ⟨i, ⟨hi, hni⟩, hmin⟩ := pk_least (fun i => i < 2 ^ u - 1 ∧ ¬ nt_pr (nt_cut A B (nt_wy w k 0) m) (nt_cut A B (nt_wy w k 1) m) p q (2 * i + 1)) (Classical.byContradiction fun z => hall fun j hj => Classical.byContradiction fun y => z ⟨j, hj, y⟩)
        have hx := fw_from (f := pX3_promise_24 (nI p) (nI q) (nI (u + 1)) lc le ge wt kp) (e := Sum.inr 0) 0 i (fun i => nI (2 * i + 1)) (by omega) (by omega) (fun j _ hj => (pX3_promise_step hok hX hp2 hq2 (by omega)).1 (Classical.byContradiction fun y => hmin j hj ⟨by omega, y⟩)) ((pX3_promise_step hok hX hp2 hq2 hi).2 hni)
        have hx' : fw_wh (pX3_promise_24 (nI p) (nI q) (nI (u + 1)) lc le ge wt kp) fw_N 1 = some (Sum.inr 0) := hx
        have hf : P (2 ^ u - 1) = false := by
          cases hh : P (2 ^ u - 1) with
          | false => rfl
          | true => exact absurd ((hP _).mp hh) hall
        rw [hx', fw_ob, hf]
        exact ⟨0, rfl, rfl, h0⟩
    · rw [if_pos c2, if_pos c2]
      exact ⟨_, rfl, rfl, h0⟩
  · rw [if_pos c, if_pos c]
    exact ⟨_, rfl, rfl, h0⟩
