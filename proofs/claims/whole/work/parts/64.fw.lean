/-! ===== the reference's lengths (Floyd, Warshall), and both beside each other ===== -/
/-- one node more may lie on the ways -/
def fwn (G : Nat → Nat → Nat) (t i j : Nat) : Nat := min (G i j) (G i t + G t j)
/-- what holds behind t nodes -/
def fwp (n m : Nat) (A B w : Nat → Nat) (S t : Nat) (G : Nat → Nat → Nat) : Prop :=
  (∀ i, i < n → G i i = 0) ∧ (∀ i j, i < n → j < n → G i j = G j i) ∧ (∀ i j p, i < n → j < n → p < n → p < t → G i j ≤ G i p + G p j) ∧ (∀ i j, i < n → j < n → G i j ≤ 9 * 2 ^ t ∨ G i j = 10000) ∧ (∀ i j, i < n → j < n → G i j ≤ 10000) ∧ (∀ q, q < m → S.testBit q = true → G (A q) (B q) ≤ w q) ∧ (∀ E, pmn n 10000 E → (∀ q, q < m → S.testBit q = true → E (A q) (B q) ≤ w q) → ∀ i j, i < n → j < n → E i j ≤ G i j)
theorem fwp_step {n m : Nat} {A B w : Nat → Nat} {S t : Nat} {G : Nat → Nat → Nat} (ht : t < n) (h7 : n ≤ 7) (h : fwp n m A B w S t G) : fwp n m A B w S (t + 1) (fwn G t) := by
  obtain ⟨h1, h2, h3, h4, h5, h6, h8⟩ := h
  have hp : 2 ^ (t + 1) = 2 * 2 ^ t := by rw [Nat.pow_succ]; omega
  have hp7 : 2 ^ t ≤ 2 ^ 6 := Nat.pow_le_pow_right (by omega) (by omega)
  refine ⟨fun i hi => ?_, fun i j hi hj => ?_, fun i j p hi hj hp hpt => ?_, fun i j hi hj => ?_, fun i j hi hj => ?_, fun q hq hb => ?_, fun E hE hw i j hi hj => ?_⟩
  · have := h1 i hi; unfold fwn; omega
  · have x1 := h2 i j hi hj
    have x2 := h2 i t hi ht
    have x3 := h2 t j ht hj
    unfold fwn; omega
  · have z := h1 t ht
    by_cases e : p = t
    · subst e
      unfold fwn
      omega
    · have hpt' : p < t := by omega
      have a1 := h3 i j p hi hj hp hpt'
      have a2 := h3 i t p hi ht hp hpt'
      have a3 := h3 t j p ht hj hp hpt'
      unfold fwn
      omega
  · have a1 := h4 i j hi hj
    have a2 := h4 i t hi ht
    have a3 := h4 t j ht hj
    have a4 := h5 i j hi hj
    unfold fwn
    omega
  · have a4 := h5 i j hi hj
    unfold fwn; omega
  · have := h6 q hq hb
    unfold fwn; omega
  · have a1 := h8 E hE hw i j hi hj
    have a2 := h8 E hE hw i t hi ht
    have a3 := h8 E hE hw t j ht hj
    have a4 := hE.2.2.1 i t j hi ht hj
    unfold fwn; omega
section FWS
variable {n m : Nat} {A B w k : Nat → Nat}
theorem pX4_findFar_W_eq {nc lc : Int32} {le ge wt kp : Nat → Int32} (hok : nt_ok n m A B w k) (hX : nt_X n m A B w k nc lc le ge wt kp) {S : Nat} (hS : S < 2 ^ 31) (wl : Nat → Int32) : ∃ wl' G, pX4_findFar_W nc lc le ge wt wl (nI S) = some wl' ∧ rep n wl' G ∧ fwp n m A B w S n G := by
  obtain ⟨⟨h2, h7, h12⟩, hj⟩ := id hok
  have e1 := hX.1
  have e2 := hX.2.1
  subst e1
  subst e2
  unfold pX4_findFar_W
  -- the first loops: 0 and far
  obtain ⟨e, g1, g2⟩ := fw_loop (f := pX4_findFar_W_2 (nI n)) (Q := fun e => rep n e.2 (fun i j => if i = j then 0 else 10000)) (fun i s => s.1 = nI i ∧ ∀ p q, p < i → q < n → s.2 (7 * p + q) = nI (if p = q then 0 else 10000)) 0 n ((0 : Int32), wl) (by omega) (by omega) ⟨rfl, fun p q hp => by omega⟩ (fun i s hi hs => by
    obtain ⟨x3, w1⟩ := s
    obtain ⟨r1, r2⟩ := hs
    dsimp only at r1 r2
    subst r1
    left
    dsimp only [pX4_findFar_W_2]
    rw [if_neg (nI_ge hi (by omega))]
    obtain ⟨e, k1, k2⟩ := fw_loop (f := pX4_findFar_W_13 (nI i) (nI n)) (Q := fun e => ∀ p q, p < i + 1 → q < n → e.2 (7 * p + q) = nI (if p = q then 0 else 10000)) (fun j s => s.1 = nI j ∧ (∀ p q, p < i → q < n → s.2 (7 * p + q) = nI (if p = q then 0 else 10000)) ∧ ∀ q, q < j → s.2 (7 * i + q) = nI (if i = q then 0 else 10000)) 0 n ((0 : Int32), w1) (by omega) (by omega) ⟨rfl, r2, fun q hq => by omega⟩ (fun j s hj hs => by
      obtain ⟨x4, w2⟩ := s
      obtain ⟨q1, q2, q3⟩ := hs
      dsimp only at q1 q2 q3
      subst q1
      left
      dsimp only [pX4_findFar_W_13]
      rw [if_neg (nI_ge hj (by omega)), i_ba, n_ck (show 7 * i + j < 49 by omega) (by omega), n_ck (show 7 * i + j < 49 by omega) (by omega), n_cl (by omega), nI_1]
      simp only [n_eq (show i < 2 ^ 31 by omega) (show j < 2 ^ 31 by omega)]
      have hup : ∀ z : Int32, z = nI (if i = j then 0 else 10000) → (∀ p q, p < i → q < n → upd w2 (7 * i + j) z (7 * p + q) = nI (if p = q then 0 else 10000)) ∧ ∀ q, q < j + 1 → upd w2 (7 * i + j) z (7 * i + q) = nI (if i = q then 0 else 10000) := by
        intro z hz
        refine ⟨fun p q hp hq => ?_, fun q hq => ?_⟩
        · unfold upd
          rw [if_neg (by omega)]
          exact q2 p q hp hq
        · unfold upd
          by_cases e : q = j
          · subst e; rw [if_pos rfl]; exact hz
          · rw [if_neg (by omega)]; exact q3 q (by omega)
      by_cases e : i = j
      · rw [if_pos e]
        exact ⟨_, rfl, rfl, hup 0 (by rw [if_pos e]; rfl)⟩
      · rw [if_neg e]
        exact ⟨_, rfl, rfl, hup 10000 (by rw [if_neg e]; rfl)⟩) (fun s hs => by
      obtain ⟨x4, w2⟩ := s
      obtain ⟨q1, q2, q3⟩ := hs
      dsimp only at q1 q2 q3
      subst q1
      dsimp only [pX4_findFar_W_13]
      rw [if_pos (nI_le (Nat.le_refl _) (by omega))]
      refine ⟨_, rfl, fun p q hp hq => ?_⟩
      rcases (show p < i ∨ p = i by omega) with z | z
      · exact q2 p q z hq
      · subst z; exact q3 q hq)
    obtain ⟨x4, w2⟩ := e
    rw [k1, fw_ob, nI_1]
    exact ⟨_, rfl, rfl, k2⟩) (fun s hs => by
    obtain ⟨x3, w1⟩ := s
    obtain ⟨r1, r2⟩ := hs
    dsimp only at r1 r2
    subst r1
    dsimp only [pX4_findFar_W_2]
    rw [if_pos (nI_le (Nat.le_refl _) (by omega))]
    exact ⟨_, rfl, fun p q hp hq => r2 p q hp hq⟩)
  obtain ⟨x0, w0⟩ := e
  rw [g1, fw_ob]
  dsimp only at g2 ⊢
  -- the lines
  obtain ⟨e, k1, k2⟩ := fw_loop (f := pX4_findFar_W_58 (nI S) (nI m) le ge wt) (Q := fun e => ∃ G, rep n e.2 G ∧ fwp n m A B w S 0 G) (fun l s => s.1 = nI l ∧ ∃ G, rep n s.2 G ∧ fwp n l A B w S 0 G) 0 m ((0 : Int32), w0) (by omega) (by omega) ⟨rfl, _, g2, fun i hi => if_pos rfl, fun i j hi hj => by
      show (if i = j then 0 else 10000) = (if j = i then 0 else 10000)
      by_cases e : i = j
      · rw [if_pos e, if_pos e.symm]
      · rw [if_neg e, if_neg (fun z => e z.symm)], fun i j p _ _ _ hp => by omega, fun i j hi hj => by
      show (if i = j then 0 else 10000) ≤ _ ∨ (if i = j then 0 else 10000) = 10000
      split <;> omega, fun i j hi hj => by
      show (if i = j then 0 else 10000) ≤ 10000
      split <;> omega, fun q hq => by omega, fun E hE _ i j hi hj => by
      show E i j ≤ (if i = j then 0 else 10000)
      by_cases e : i = j
      · subst e; rw [if_pos rfl, hE.1 i hi]; exact Nat.le_refl 0
      · rw [if_neg e]; exact hE.2.2.2 i j hi hj⟩ (fun l s hl hs => by
    obtain ⟨x3, w1⟩ := s
    obtain ⟨r1, G, r2, p1, p2, p3, p4, p5, p6, p8⟩ := hs
    dsimp only at r1 r2
    subst r1
    left
    obtain ⟨y1, y2, y3, y4⟩ := hX.2.2 l hl
    obtain ⟨z1, z2, z3, z4, z5⟩ := hj l hl
    have hAn : A l < n := by omega
    have hG := p5 (A l) (B l) hAn z2
    dsimp only [pX4_findFar_W_58]
    rw [if_neg (nI_ge hl (by omega)), n_bit hS (show l < 31 by omega)]
    simp only [bb_1, n_ck (show l < 12 by omega) (show 12 < 2 ^ 31 by omega), n_cl (show l < 2 ^ 31 by omega), y1, y2, y3, nI_1, i_ba, n_ck (show 7 * A l + B l < 49 by omega) (show 49 < 2 ^ 31 by omega), n_ck (show 7 * B l + A l < 49 by omega) (show 49 < 2 ^ 31 by omega), n_cl (show 7 * A l + B l < 2 ^ 31 by omega), n_cl (show 7 * B l + A l < 2 ^ 31 by omega), r2 (A l) (B l) hAn z2, n_le (show G (A l) (B l) < 2 ^ 31 by omega) (show w l < 2 ^ 31 by omega)]
    cases hb : S.testBit l with
    | false =>
      rw [if_neg (by decide)]
      refine ⟨_, rfl, rfl, G, r2, p1, p2, p3, p4, p5, fun q hq hqb => ?_, fun E hE hw => p8 E hE (fun q hq => hw q (by omega))⟩
      rcases (show q < l ∨ q = l by omega) with z | z
      · exact p6 q z hqb
      · subst z; rw [hb] at hqb; cases hqb
    | true =>
      rw [if_pos rfl]
      by_cases c : G (A l) (B l) ≤ w l
      · rw [if_pos c]
        refine ⟨_, rfl, rfl, G, r2, p1, p2, p3, p4, p5, fun q hq hqb => ?_, fun E hE hw => p8 E hE (fun q hq => hw q (by omega))⟩
        rcases (show q < l ∨ q = l by omega) with z | z
        · exact p6 q z hqb
        · subst z; exact c
      · rw [if_neg c]
        have hne : A l ≠ B l := by omega
        refine ⟨_, rfl, rfl, fun i j => if (i = A l ∧ j = B l) ∨ (i = B l ∧ j = A l) then w l else G i j, fun i j hi hj => ?_, fun i hi => ?_, fun i j hi hj => ?_, fun i j p _ _ _ hp => by omega, fun i j hi hj => ?_, fun i j hi hj => ?_, fun q hq hqb => ?_, fun E hE hw i j hi hj => ?_⟩
        · show upd (upd w1 (7 * A l + B l) (nI (w l))) (7 * B l + A l) (nI (w l)) (7 * i + j) = nI (if (i = A l ∧ j = B l) ∨ (i = B l ∧ j = A l) then w l else G i j)
          unfold upd
          by_cases c1 : i = B l ∧ j = A l
          · rw [if_pos (by omega), if_pos (Or.inr c1)]
          · rw [if_neg (by omega)]
            by_cases c2 : i = A l ∧ j = B l
            · rw [if_pos (by omega), if_pos (Or.inl c2)]
            · rw [if_neg (by omega), if_neg (by omega), r2 i j hi hj]
        · show (if _ then _ else _) = 0
          rw [if_neg (by omega)]
          exact p1 i hi
        · show (if _ then _ else _) = (if _ then _ else _)
          have := p2 i j hi hj
          by_cases c1 : (i = A l ∧ j = B l) ∨ (i = B l ∧ j = A l)
          · rw [if_pos c1, if_pos (by omega)]
          · rw [if_neg c1, if_neg (by omega), this]
        · show (if _ then _ else _) ≤ _ ∨ (if _ then _ else _) = 10000
          split
          · left; omega
          · exact p4 i j hi hj
        · show (if _ then _ else _) ≤ 10000
          split
          · omega
          · exact p5 i j hi hj
        · show (if _ then _ else _) ≤ _
          rcases (show q < l ∨ q = l by omega) with z | z
          · split
            · next e =>
              have h9 := p6 q z hqb
              have hsy := p2 (A l) (B l) hAn z2
              rcases e with ⟨e1, e2⟩ | ⟨e1, e2⟩
              · rw [e1, e2] at h9; omega
              · rw [e1, e2, ← hsy] at h9; omega
            · exact p6 q z hqb
          · subst z
            rw [if_pos (Or.inl ⟨rfl, rfl⟩)]; exact Nat.le_refl _
        · show _ ≤ (if _ then _ else _)
          split
          · next e =>
            have h9 := hw l (by omega) hb
            have hsy := hE.2.1 (A l) (B l) hAn z2
            rcases e with ⟨e1, e2⟩ | ⟨e1, e2⟩
            · rw [e1, e2]; exact h9
            · rw [e1, e2, ← hsy]; exact h9
          · exact p8 E hE (fun q hq => hw q (by omega)) i j hi hj) (fun s hs => by
    obtain ⟨x3, w1⟩ := s
    obtain ⟨r1, r2⟩ := hs
    dsimp only at r1 r2
    subst r1
    dsimp only [pX4_findFar_W_58]
    rw [if_pos (nI_le (Nat.le_refl _) (by omega))]
    exact ⟨_, rfl, r2⟩)
  obtain ⟨x1, w1⟩ := e
  rw [k1, fw_ob]
  dsimp only at k2 ⊢
  -- the nodes between
  obtain ⟨e, m1, m2⟩ := fw_loop (f := pX4_findFar_W_158 (nI n)) (Q := fun e => ∃ G, rep n e.2 G ∧ fwp n m A B w S n G) (fun t s => s.1 = nI t ∧ ∃ G, rep n s.2 G ∧ fwp n m A B w S t G) 0 n ((0 : Int32), w1) (by omega) (by omega) ⟨rfl, k2⟩ (fun t s ht hs => by
    obtain ⟨x3, w2⟩ := s
    obtain ⟨r1, G, r2, hG⟩ := hs
    dsimp only at r1 r2
    subst r1
    left
    have hGt := hG.1 t ht
    have hGle := hG.2.2.2.2.1
    have hst := fwp_step ht h7 hG
    have hNle := hst.2.2.2.2.1
    have hcol : ∀ i, fwn G t i t = G i t := fun i => by unfold fwn; omega
    have hrow : ∀ j, fwn G t t j = G t j := fun j => by unfold fwn; omega
    dsimp only [pX4_findFar_W_158]
    rw [if_neg (nI_ge ht (by omega))]
    obtain ⟨e, a1, a2⟩ := fw_loop (f := pX4_findFar_W_169 (nI t) (nI n)) (Q := fun e => rep n e.2 (fwn G t)) (fun i s => s.1 = nI i ∧ rep n s.2 (mix G (fwn G t) i 0)) 0 n ((0 : Int32), w2) (by omega) (by omega) ⟨rfl, rep_first r2⟩ (fun i s hi hs => by
      obtain ⟨x4, w3⟩ := s
      obtain ⟨q1, q2⟩ := hs
      dsimp only at q1 q2
      subst q1
      left
      dsimp only [pX4_findFar_W_169]
      rw [if_neg (nI_ge hi (by omega))]
      obtain ⟨e, b1, b2⟩ := fw_loop (f := pX4_findFar_W_181 (nI t) (nI i) (nI n)) (Q := fun e => rep n e.2 (mix G (fwn G t) i n)) (fun j s => s.1 = nI j ∧ rep n s.2 (mix G (fwn G t) i j)) 0 n ((0 : Int32), w3) (by omega) (by omega) ⟨rfl, q2⟩ (fun j s hj hs => by
        obtain ⟨x5, w4⟩ := s
        obtain ⟨u1, u2⟩ := hs
        dsimp only at u1 u2
        subst u1
        left
        have v1 : w4 (7 * i + t) = nI (G i t) := by
          rw [u2 i t hi ht]; unfold mix
          split
          · rw [hcol]
          · rfl
        have v2 : w4 (7 * t + j) = nI (G t j) := by
          rw [u2 t j ht hj]; unfold mix
          split
          · rw [hrow]
          · rfl
        have v3 : w4 (7 * i + j) = nI (G i j) := by
          rw [u2 i j hi hj]; unfold mix
          rw [if_neg (by omega)]
        have l1 := hGle i t hi ht
        have l2 := hGle t j ht hj
        have l3 := hGle i j hi hj
        have hup := rep_step (D := G) (D' := fwn G t) h7 hi hj u2
        dsimp only [pX4_findFar_W_181]
        rw [if_neg (nI_ge hj (by omega))]
        simp only [i_ba, n_ck (show 7 * i + t < 49 by omega) (show 49 < 2 ^ 31 by omega), n_ck (show 7 * t + j < 49 by omega) (show 49 < 2 ^ 31 by omega), n_ck (show 7 * i + j < 49 by omega) (show 49 < 2 ^ 31 by omega), n_cl (show 7 * i + t < 2 ^ 31 by omega), n_cl (show 7 * t + j < 2 ^ 31 by omega), n_cl (show 7 * i + j < 2 ^ 31 by omega), v1, v2, v3, nI_add, nI_1, n_le (show G i j < 2 ^ 31 by omega) (show G i t + G t j < 2 ^ 31 by omega)]
        by_cases c : G i j ≤ G i t + G t j
        · rw [if_pos c]
          refine ⟨_, rfl, rfl, ?_⟩
          have : fwn G t i j = G i j := by unfold fwn; omega
          rw [this] at hup
          exact hup
        · rw [if_neg c]
          refine ⟨_, rfl, rfl, ?_⟩
          have : fwn G t i j = G i t + G t j := by unfold fwn; omega
          rw [this] at hup
          exact hup) (fun s hs => by
        obtain ⟨x5, w4⟩ := s
        obtain ⟨u1, u2⟩ := hs
        dsimp only at u1 u2
        subst u1
        dsimp only [pX4_findFar_W_181]
        rw [if_pos (nI_le (Nat.le_refl _) (by omega))]
        exact ⟨_, rfl, u2⟩)
      obtain ⟨x5, w4⟩ := e
      rw [b1, fw_ob, nI_1]
      exact ⟨_, rfl, rfl, rep_row b2⟩) (fun s hs => by
      obtain ⟨x4, w3⟩ := s
      obtain ⟨q1, q2⟩ := hs
      dsimp only at q1 q2
      subst q1
      dsimp only [pX4_findFar_W_169]
      rw [if_pos (nI_le (Nat.le_refl _) (by omega))]
      exact ⟨_, rfl, rep_last q2⟩)
    obtain ⟨x4, w3⟩ := e
    rw [a1, fw_ob, nI_1]
    exact ⟨_, rfl, rfl, fwn G t, a2, hst⟩) (fun s hs => by
    obtain ⟨x3, w2⟩ := s
    obtain ⟨r1, r2⟩ := hs
    dsimp only at r1 r2
    subst r1
    dsimp only [pX4_findFar_W_158]
    rw [if_pos (nI_le (Nat.le_refl _) (by omega))]
    exact ⟨_, rfl, r2⟩)
  obtain ⟨x2, w2⟩ := e
  rw [m1, fw_ob]
  obtain ⟨G, t1, t2⟩ := m2
  exact ⟨w2, G, rfl, t1, t2⟩
theorem pX4_findFar_T_eq {nc lc : Int32} {le ge wt kp : Nat → Int32} (hok : nt_ok n m A B w k) (hX : nt_X n m A B w k nc lc le ge wt kp) {S : Nat} (hS : S < 2 ^ 31) (wl : Nat → Int32) : ∃ wl' G, pX4_findFar_T nc lc le ge wt wl (nI S) = some wl' ∧ rep n wl' G ∧ fwp n m A B w S n G := pX4_findFar_W_eq hok hX hS wl
/-- both lengths are one, where there is a way -/
theorem nt_both (hok : nt_ok n m A B w k) {S : Nat} {G : Nat → Nat → Nat} (hG : fwp n m A B w S n G) {i j : Nat} (hi : i < n) (hj : j < n) : (nt_d A B w S m i j < nt_inf ∧ G i j = nt_d A B w S m i j ∧ G i j ≤ 1152) ∨ (nt_d A B w S m i j = nt_inf ∧ G i j = 10000) := by
  obtain ⟨⟨h2, h7, h12⟩, hjj⟩ := id hok
  obtain ⟨p1, p2, p3, p4, p5, p6, p8⟩ := hG
  have hn := nt_ends hok
  have hinf : nt_inf = 1000000 := rfl
  have hp : 2 ^ n ≤ 128 := n_pow h7
  have hD := nt_d_pm (w := w) hn S m (Nat.le_refl m)
  have hb : ∀ i j, i < n → j < n → G i j ≤ 1152 ∨ G i j = 10000 := fun i j hi hj => by
    have := p4 i j hi hj
    omega
  have hGm : pmn n nt_inf G := ⟨p1, p2, fun i j l hi hj hl => p3 i l j hi hl hj hj, fun i j hi hj => by have := p5 i j hi hj; omega⟩
  have a1 := nt_d_great hn hGm p6 m (Nat.le_refl m) i j hi hj
  have a2 := p8 (fun i j => min (nt_d A B w S m i j) 10000) ⟨fun i hi => by have := hD.1 i hi; show min _ _ = 0; omega, fun i j hi hj => by show min _ _ = min _ _; rw [hD.2.1 i j hi hj], fun i j l hi hj hl => by have := hD.2.2.1 i j l hi hj hl; show min _ _ ≤ min _ _ + min _ _; omega, fun i j _ _ => by show min _ _ ≤ 10000; omega⟩ (fun q hq hqb => by have := nt_d_line (w := w) hn m (Nat.le_refl m) q hq hqb; show min _ _ ≤ _; omega) i j hi hj
  have a3 := nt_d_great (w := w) (S := S) hn (E := fun i j => if G i j < 10000 then G i j else nt_inf) ⟨fun i hi => by show (if _ then _ else _) = 0; rw [p1 i hi]; rfl, fun i j hi hj => by show (if _ then _ else _) = (if _ then _ else _); rw [p2 i j hi hj], fun i j l hi hj hl => by
      show (if _ then _ else _) ≤ (if _ then _ else _) + (if _ then _ else _)
      have t := hGm.2.2.1 i j l hi hj hl
      have b1 := hb i j hi hj
      have b2 := hb j l hj hl
      by_cases c1 : G i j < 10000
      · by_cases c2 : G j l < 10000
        · rw [if_pos c1, if_pos c2, if_pos (by omega)]; omega
        · rw [if_neg c2]; split <;> omega
      · rw [if_neg c1]; split <;> omega, fun i j hi hj => by show (if _ then _ else _) ≤ _; have := p5 i j hi hj; split <;> omega⟩ (fun q hq hqb => by
      show (if _ then _ else _) ≤ _
      have h6 := p6 q hq hqb
      have h9 := (hjj q hq).2.2.2.1
      rw [if_pos (by omega)]; exact h6) m (Nat.le_refl m) i j hi hj
  have b := hb i j hi hj
  have c := hD.2.2.2 i j hi hj
  by_cases e : G i j < 10000
  · rw [if_pos e] at a3
    left
    omega
  · rw [if_neg e] at a3
    right
    omega
end FWS
