/-! ===== lengths: the greatest that keep the lines ===== -/
def pmn (n c : Nat) (D : Nat → Nat → Nat) : Prop := (∀ i, i < n → D i i = 0) ∧ (∀ i j, i < n → j < n → D i j = D j i) ∧ (∀ i j l, i < n → j < n → l < n → D i l ≤ D i j + D j l) ∧ ∀ i j, i < n → j < n → D i j ≤ c
theorem nt_add_le (D : Nat → Nat → Nat) (a b w i j : Nat) : nt_add D a b w i j ≤ D i j := by
  unfold nt_add; omega
theorem nt_add_pm {n c : Nat} {D : Nat → Nat → Nat} {a b w : Nat} (h : pmn n c D) (ha : a < n) (hb : b < n) : pmn n c (nt_add D a b w) := by
  obtain ⟨h1, h2, h3, h4⟩ := h
  refine ⟨fun i hi => ?_, fun i j hi hj => ?_, fun i j l hi hj hl => ?_, fun i j hi hj => ?_⟩
  · have := h1 i hi; unfold nt_add; omega
  · have x1 := h2 i j hi hj
    have x2 := h2 i a hi ha
    have x3 := h2 b j hb hj
    have x4 := h2 i b hi hb
    have x5 := h2 a j ha hj
    unfold nt_add; omega
  · have t1 := h3 i j l hi hj hl
    have t2 := h3 b j l hb hj hl
    have t3 := h3 a j l ha hj hl
    have t4 := h3 i j a hi hj ha
    have t5 := h3 i j b hi hj hb
    have t6 := h3 i a l hi ha hl
    have t7 := h3 i b l hi hb hl
    unfold nt_add; omega
  · have := h4 i j hi hj; unfold nt_add; omega
theorem nt_add_ab {n c : Nat} {D : Nat → Nat → Nat} {a b w : Nat} (h : pmn n c D) (ha : a < n) (hb : b < n) : nt_add D a b w a b ≤ w := by
  have := h.1 a ha
  have := h.1 b hb
  unfold nt_add; omega
theorem nt_add_gr {n c c' : Nat} {D E : Nat → Nat → Nat} {a b w i j : Nat} (hE : pmn n c' E) (ha : a < n) (hb : b < n) (hi : i < n) (hj : j < n) (hw : E a b ≤ w) (hD : ∀ i j, i < n → j < n → E i j ≤ D i j) : E i j ≤ nt_add D a b w i j := by
  have x1 := hD i j hi hj
  have x2 := hD i a hi ha
  have x3 := hD b j hb hj
  have x4 := hD i b hi hb
  have x5 := hD a j ha hj
  have t1 := hE.2.2.1 i a j hi ha hj
  have t2 := hE.2.2.1 a b j ha hb hj
  have t3 := hE.2.2.1 i b j hi hb hj
  have t4 := hE.2.2.1 b a j hb ha hj
  have s1 := hE.2.1 a b ha hb
  unfold nt_add; omega
section DST
variable {n m : Nat} {A B w k : Nat → Nat}
theorem nt_d_pm (hn : ∀ j, j < m → A j < n ∧ B j < n) (S : Nat) : ∀ l, l ≤ m → pmn n nt_inf (nt_d A B w S l) := by
  intro l
  induction l with
  | zero =>
    intro _
    refine ⟨fun i _ => if_pos rfl, fun i j _ _ => ?_, fun i j l _ _ _ => ?_, fun i j _ _ => ?_⟩
    · show (if i = j then 0 else nt_inf) = (if j = i then 0 else nt_inf)
      by_cases e : i = j
      · rw [if_pos e, if_pos e.symm]
      · rw [if_neg e, if_neg (fun z => e z.symm)]
    · show (if i = l then 0 else nt_inf) ≤ (if i = j then 0 else nt_inf) + (if j = l then 0 else nt_inf)
      by_cases e : i = j
      · subst e; simp
      · rw [if_neg e]; split <;> omega
    · show (if i = j then 0 else nt_inf) ≤ nt_inf
      split <;> omega
  | succ l ih =>
    intro hl
    have ih := ih (by omega)
    obtain ⟨a1, a2⟩ := hn l (by omega)
    by_cases e : S.testBit l
    · have he : nt_d A B w S (l + 1) = nt_add (nt_d A B w S l) (A l) (B l) (w l) := by
        funext i j
        show (if S.testBit l then _ else _) = _
        rw [if_pos e]
      rw [he]
      exact nt_add_pm ih a1 a2
    · have he : nt_d A B w S (l + 1) = nt_d A B w S l := by
        funext i j
        show (if S.testBit l then _ else _) = _
        rw [if_neg e]
      rw [he]
      exact ih
theorem nt_d_mono (S l i j : Nat) : nt_d A B w S (l + 1) i j ≤ nt_d A B w S l i j := by
  show (if S.testBit l then _ else _) ≤ _
  split
  · exact nt_add_le _ _ _ _ _ _
  · exact Nat.le_refl _
theorem nt_d_line (hn : ∀ j, j < m → A j < n ∧ B j < n) {S : Nat} : ∀ l, l ≤ m → ∀ q, q < l → S.testBit q = true → nt_d A B w S l (A q) (B q) ≤ w q := by
  intro l
  induction l with
  | zero => intro _ q hq; omega
  | succ l ih =>
    intro hl q hq hb
    rcases (show q < l ∨ q = l by omega) with z | z
    · exact Nat.le_trans (nt_d_mono S l _ _) (ih (by omega) q z hb)
    · subst z
      obtain ⟨a1, a2⟩ := hn q (by omega)
      show (if S.testBit q then _ else _) ≤ _
      rw [if_pos hb]
      exact nt_add_ab (nt_d_pm hn S q (by omega)) a1 a2
theorem nt_d_great (hn : ∀ j, j < m → A j < n ∧ B j < n) {S : Nat} {E : Nat → Nat → Nat} (hE : pmn n nt_inf E) (hw : ∀ q, q < m → S.testBit q = true → E (A q) (B q) ≤ w q) : ∀ l, l ≤ m → ∀ i j, i < n → j < n → E i j ≤ nt_d A B w S l i j := by
  intro l
  induction l with
  | zero =>
    intro _ i j hi hj
    show _ ≤ (if i = j then 0 else nt_inf)
    by_cases e : i = j
    · subst e; rw [if_pos rfl, hE.1 i hi]; exact Nat.le_refl 0
    · rw [if_neg e]; exact hE.2.2.2 i j hi hj
  | succ l ih =>
    intro hl i j hi hj
    have ih := ih (by omega)
    obtain ⟨a1, a2⟩ := hn l (by omega)
    show _ ≤ (if S.testBit l then _ else _)
    split
    · next e => exact nt_add_gr (c := nt_inf) hE a1 a2 hi hj (hw l (by omega) e) ih
    · exact ih i j hi hj
/-- an array of 7 by 7 holds these numbers -/
def rep (n : Nat) (la : Nat → Int32) (D : Nat → Nat → Nat) : Prop := ∀ i j, i < n → j < n → la (7 * i + j) = nI (D i j)
/-- up to a place the new, from it on the old -/
def mix (D D' : Nat → Nat → Nat) (i j p q : Nat) : Nat := if p < i ∨ (p = i ∧ q < j) then D' p q else D p q
theorem rep_step {la : Nat → Int32} {D D' : Nat → Nat → Nat} {i j : Nat} (h7 : n ≤ 7) (hi : i < n) (hj : j < n) (h : rep n la (mix D D' i j)) : rep n (upd la (7 * i + j) (nI (D' i j))) (mix D D' i (j + 1)) := by
  intro p q hp hq
  unfold upd
  by_cases e : p = i ∧ q = j
  · obtain ⟨rfl, rfl⟩ := e
    simp [mix]
  · have hne : ¬ 7 * p + q = 7 * i + j := by omega
    rw [if_neg hne, h p q hp hq]
    unfold mix
    by_cases e2 : p < i ∨ (p = i ∧ q < j)
    · rw [if_pos e2, if_pos (by omega)]
    · rw [if_neg e2, if_neg (by omega)]
theorem rep_row {la : Nat → Int32} {D D' : Nat → Nat → Nat} {i : Nat} (h : rep n la (mix D D' i n)) : rep n la (mix D D' (i + 1) 0) := by
  intro p q hp hq
  rw [h p q hp hq]
  unfold mix
  by_cases e : p < i ∨ (p = i ∧ q < n)
  · rw [if_pos e, if_pos (by omega)]
  · rw [if_neg e, if_neg (by omega)]
theorem rep_first {la : Nat → Int32} {D D' : Nat → Nat → Nat} (h : rep n la D) : rep n la (mix D D' 0 0) := by
  intro p q hp hq
  rw [h p q hp hq]
  unfold mix
  rw [if_neg (by omega)]
theorem rep_last {la : Nat → Int32} {D D' : Nat → Nat → Nat} (h : rep n la (mix D D' n 0)) : rep n la D' := by
  intro p q hp hq
  rw [h p q hp hq]
  unfold mix
  rw [if_pos (by omega)]
theorem i_ab {a b : Nat} : nI a * (7 : Int32) + nI b = nI (7 * a + b) := by
  rw [l_7, pk_mul, nI_add, Nat.mul_comm]
theorem i_ba {a b : Nat} : (7 : Int32) * nI a + nI b = nI (7 * a + b) := by
  rw [l_7, pk_mul, nI_add]
theorem pX0_between_eq {la : Nat → Int32} {D : Nat → Nat → Nat} (h7 : n ≤ 7) (h : rep n la D) {a b : Nat} (ha : a < n) (hb : b < n) : pX0_between la (nI a) (nI b) = some (nI (D a b)) := by
  unfold pX0_between
  rw [i_ab, n_ck (show 7 * a + b < 49 by omega) (by omega), n_cl (by omega), h a b ha hb]
theorem pX0_clear_eq (h7 : n ≤ 7) (la : Nat → Int32) (S : Nat) : ∃ la', pX0_clear la (nI n) = some (la', nI n) ∧ rep n la' (nt_d A B w S 0) := by
  unfold pX0_clear
  rw [pJ7_fill_eq 49 (by omega), fw_ob]
  have hmin : (if (7 : Int32) < nI n then (7 : Int32) else nI n) = nI n := by
    rw [if_neg (show ¬ (7 : Int32) < nI n from nI_nlt (a := 7) h7 (by omega))]
  rw [hmin]
  obtain ⟨e, g1, g2⟩ := fw_loop (f := pX0_clear_21 (nI n)) (Q := fun e => rep n e.2 (nt_d A B w S 0)) (fun i v => v.1 = nI i ∧ ∀ p q, p < n → q < n → v.2 (7 * p + q) = nI (if p = q ∧ p < i then 0 else nt_inf)) 0 n ((0 : Int32), fun j => if j < 49 then (1000000 : Int32) else la j) (by omega) (by omega) ⟨rfl, fun p q hp hq => by
      show (if 7 * p + q < 49 then (1000000 : Int32) else _) = _
      rw [if_pos (by omega), if_neg (by omega)]; rfl⟩ (fun i v hi hv => by
    obtain ⟨x, y⟩ := v
    obtain ⟨r1, r2⟩ := hv
    dsimp only at r1 r2
    subst r1
    left
    dsimp only [pX0_clear_21]
    rw [if_neg (nI_ge hi (by omega)), i_ab, n_ck (show 7 * i + i < 49 by omega) (by omega), n_cl (by omega), nI_1]
    refine ⟨_, rfl, rfl, fun p q hp hq => ?_⟩
    show upd y (7 * i + i) 0 (7 * p + q) = _
    unfold upd
    by_cases e : p = i ∧ q = i
    · obtain ⟨rfl, rfl⟩ := e
      rw [if_pos rfl, if_pos (by omega)]; rfl
    · rw [if_neg (by omega), r2 p q hp hq]
      by_cases e2 : p = q ∧ p < i
      · rw [if_pos e2, if_pos (by omega)]
      · rw [if_neg e2, if_neg (by omega)]) (fun v hv => by
    obtain ⟨x, y⟩ := v
    obtain ⟨r1, r2⟩ := hv
    dsimp only at r1 r2
    subst r1
    dsimp only [pX0_clear_21]
    rw [if_pos (nI_le (Nat.le_refl _) (by omega))]
    refine ⟨_, rfl, fun p q hp hq => ?_⟩
    show y (7 * p + q) = nI (if p = q then 0 else nt_inf)
    rw [r2 p q hp hq]
    by_cases e : p = q
    · rw [if_pos e, if_pos ⟨e, hp⟩]
    · rw [if_neg e, if_neg (fun z => e z.1)])
  obtain ⟨x, y⟩ := e
  rw [g1, fw_ob]
  exact ⟨y, rfl, g2⟩
theorem pX0_add_eq {la : Nat → Int32} {D : Nat → Nat → Nat} (h7 : n ≤ 7) (hD : pmn n nt_inf D) (h : rep n la D) {a b v : Nat} (ha : a < n) (hb : b < n) (hv : v ≤ 9) : ∃ la', pX0_add la (nI n) (nI a) (nI b) (nI v) = some la' ∧ rep n la' (nt_add D a b v) := by
  have hinf : nt_inf = 1000000 := rfl
  have hDab := hD.2.2.2 a b ha hb
  unfold pX0_add
  rw [pX0_between_eq h7 h ha hb, fw_ob]
  simp only [n_lt (show v < 2 ^ 31 by omega) (show D a b < 2 ^ 31 by omega)]
  by_cases hc : v < D a b
  · rw [if_pos hc]
    have hD' := nt_add_pm (w := v) hD ha hb
    have hx4 : nI a * (7 : Int32) = nI (7 * a) := by rw [l_7, pk_mul, Nat.mul_comm]
    have hx5 : nI b * (7 : Int32) = nI (7 * b) := by rw [l_7, pk_mul, Nat.mul_comm]
    have hxn : nI n * (7 : Int32) = nI (7 * n) := by rw [l_7, pk_mul, Nat.mul_comm]
    rw [hx4, hx5]
    generalize hG : nt_add D a b v = G at hD' ⊢
    have hcell : ∀ i j xa xb, i < n → j < n → (xa = D a j ∨ xa = G a j) → (xb = D b j ∨ xb = G b j) → min (D i j) (min (D i a + v + xb) (D i b + v + xa)) = G i j := by
      intro i j xa xb hi hj h1 h2
      have g1 : G i j = min (D i j) (min (D i a + v + D b j) (D i b + v + D a j)) := by rw [← hG]; rfl
      have g2 : G a j ≤ D a j := by rw [← hG]; exact nt_add_le _ _ _ _ _ _
      have g3 : G b j ≤ D b j := by rw [← hG]; exact nt_add_le _ _ _ _ _ _
      have g4 : G i b ≤ D i a + v := by
        have := hD.1 b hb
        have e : G i b = min (D i b) (min (D i a + v + D b b) (D i b + v + D a b)) := by rw [← hG]; rfl
        omega
      have g5 : G i a ≤ D i b + v := by
        have := hD.1 a ha
        have e : G i a = min (D i a) (min (D i a + v + D b a) (D i b + v + D a a)) := by rw [← hG]; rfl
        omega
      have t1 := hD'.2.2.1 i b j hi hb hj
      have t2 := hD'.2.2.1 i a j hi ha hj
      rcases h1 with rfl | rfl <;> rcases h2 with rfl | rfl <;> omega
    have hGle := hD'.2.2.2
    have hDle := hD.2.2.2
    have hmixle : ∀ i j p q, p < n → q < n → mix D G i j p q ≤ 1000000 := fun i j p q hp hq => by
      unfold mix
      have := hGle p q hp hq
      have := hDle p q hp hq
      split <;> omega
    obtain ⟨e, g1, g2⟩ := fw_loop (f := pX0_add_26 (nI a) (nI b) (nI v) (nI (7 * a)) (nI (7 * b)) (nI n)) (Q := fun e => rep n e.2 G) (fun i s => s.1 = nI (7 * i) ∧ rep n s.2 (mix D G i 0)) 0 n ((0 : Int32), la) (by omega) (by omega) ⟨rfl, rep_first h⟩ (fun i s hi hs => by
      obtain ⟨x6, la1⟩ := s
      obtain ⟨r1, r2⟩ := hs
      dsimp only at r1 r2
      subst r1
      left
      have hia : la1 (7 * i + a) = nI (D i a) := by rw [r2 i a hi ha]; unfold mix; rw [if_neg (by omega)]
      have hib : la1 (7 * i + b) = nI (D i b) := by rw [r2 i b hi hb]; unfold mix; rw [if_neg (by omega)]
      have b1 := hDle i a hi ha
      have b2 := hDle i b hi hb
      dsimp only [pX0_add_26]
      rw [hxn, if_neg (nI_ge (show 7 * i < 7 * n by omega) (by omega)), nI_add, nI_add, n_ck (show 7 * i + a < 49 by omega) (by omega), n_ck (show 7 * i + b < 49 by omega) (by omega), n_cl (by omega), n_cl (by omega), hia, hib, nI_add, nI_add]
      obtain ⟨e, k1, k2⟩ := fw_loop (f := pX0_add_67 (nI (7 * a)) (nI (7 * b)) (nI (7 * i)) (nI (D i a + v)) (nI (D i b + v)) (nI n)) (Q := fun e => rep n e.2 (mix D G i n)) (fun j s => s.1 = nI j ∧ rep n s.2 (mix D G i j)) 0 n ((0 : Int32), la1) (by omega) (by omega) ⟨rfl, r2⟩ (fun j s hj hs => by
        obtain ⟨x9, la2⟩ := s
        obtain ⟨q1, q2⟩ := hs
        dsimp only at q1 q2
        subst q1
        left
        have c1 := hmixle i j a j ha hj
        have c2 := hmixle i j b j hb hj
        have c3 := hDle i j hi hj
        have hij : la2 (7 * i + j) = nI (D i j) := by rw [q2 i j hi hj]; unfold mix; rw [if_neg (by omega)]
        have hkey := hcell i j (mix D G i j a j) (mix D G i j b j) hi hj (by unfold mix; split; exact Or.inr rfl; exact Or.inl rfl) (by unfold mix; split; exact Or.inr rfl; exact Or.inl rfl)
        dsimp only [pX0_add_67]
        rw [if_neg (nI_ge hj (by omega))]
        simp only [nI_add, n_ck (show 7 * a + j < 49 by omega) (show 49 < 2 ^ 31 by omega), n_ck (show 7 * b + j < 49 by omega) (show 49 < 2 ^ 31 by omega), n_ck (show 7 * i + j < 49 by omega) (show 49 < 2 ^ 31 by omega), n_cl (show 7 * a + j < 2 ^ 31 by omega), n_cl (show 7 * b + j < 2 ^ 31 by omega), n_cl (show 7 * i + j < 2 ^ 31 by omega), q2 a j ha hj, q2 b j hb hj, hij, nI_1, n_min (show D i a + v + mix D G i j b j < 2 ^ 31 by omega) (show D i b + v + mix D G i j a j < 2 ^ 31 by omega), n_min (show D i j < 2 ^ 31 by omega) (show min (D i a + v + mix D G i j b j) (D i b + v + mix D G i j a j) < 2 ^ 31 by omega), hkey]
        exact ⟨_, rfl, rfl, rep_step h7 hi hj q2⟩) (fun s hs => by
        obtain ⟨x9, la2⟩ := s
        obtain ⟨q1, q2⟩ := hs
        dsimp only at q1 q2
        subst q1
        dsimp only [pX0_add_67]
        rw [if_pos (nI_le (Nat.le_refl _) (by omega))]
        exact ⟨_, rfl, q2⟩)
      obtain ⟨x9, la2⟩ := e
      rw [k1, fw_ob]
      refine ⟨_, rfl, ?_, rep_row k2⟩
      show nI (7 * i) + 7 = nI (7 * (i + 1))
      rw [l_7, nI_add]; rfl) (fun s hs => by
      obtain ⟨x6, la1⟩ := s
      obtain ⟨r1, r2⟩ := hs
      dsimp only at r1 r2
      subst r1
      dsimp only [pX0_add_26]
      rw [hxn, if_pos (nI_le (Nat.le_refl _) (by omega))]
      exact ⟨_, rfl, rep_last r2⟩)
    obtain ⟨x6, la1⟩ := e
    rw [g1, fw_ob]
    exact ⟨la1, rfl, g2⟩
  · rw [if_neg hc]
    refine ⟨la, rfl, fun i j hi hj => ?_⟩
    rw [h i j hi hj]
    congr 1
    have t1 := hD.2.2.1 i a j hi ha hj
    have t2 := hD.2.2.1 a b j ha hb hj
    have t3 := hD.2.2.1 i b j hi hb hj
    have t4 := hD.2.2.1 b a j hb ha hj
    have s1 := hD.2.1 a b ha hb
    unfold nt_add
    omega
theorem pX3_measure_N_eq {nc lc : Int32} {le ge wt kp : Nat → Int32} (hok : nt_ok n m A B w k) (hX : nt_X n m A B w k nc lc le ge wt kp) {S : Nat} (hS : S < 2 ^ 31) (na : Nat → Int32) : ∃ na', pX3_measure_N nc lc le ge wt na (nI S) = some (na', nI n) ∧ rep n na' (nt_d A B w S m) := by
  obtain ⟨⟨h2, h7, h12⟩, hj⟩ := id hok
  have e1 := hX.1
  have e2 := hX.2.1
  subst e1
  subst e2
  unfold pX3_measure_N
  obtain ⟨la0, c1, c2⟩ := pX0_clear_eq (A := A) (B := B) (w := w) h7 na S
  rw [c1, fw_ob]
  dsimp only
  obtain ⟨e, g1, g2⟩ := fw_loop (f := pX3_measure_N_10 (nI S) (nI m) le ge wt (nI n)) (Q := fun e => rep n e.2 (nt_d A B w S m)) (fun l s => s.1 = nI l ∧ rep n s.2 (nt_d A B w S l)) 0 m ((0 : Int32), la0) (by omega) (by omega) ⟨rfl, c2⟩ (fun l s hl hs => by
    obtain ⟨x3, la1⟩ := s
    obtain ⟨r1, r2⟩ := hs
    dsimp only at r1 r2
    subst r1
    left
    obtain ⟨y1, y2, y3, y4⟩ := hX.2.2 l hl
    obtain ⟨z1, z2, z3, z4, z5⟩ := hj l hl
    dsimp only [pX3_measure_N_10]
    rw [if_neg (nI_ge hl (by omega)), pX3_isIn_eq hS (show l < 31 by omega), fw_ob]
    simp only [bb_0, n_ck (show l < 12 by omega) (show 12 < 2 ^ 31 by omega), n_cl (show l < 2 ^ 31 by omega), y1, y2, y3, nI_1]
    cases hb : S.testBit l with
    | false =>
      rw [if_pos rfl]
      refine ⟨_, rfl, rfl, ?_⟩
      have : nt_d A B w S (l + 1) = nt_d A B w S l := by
        funext i j
        show (if S.testBit l then _ else _) = _
        rw [hb]; rfl
      rw [this]
      exact r2
    | true =>
      rw [if_neg (by decide)]
      obtain ⟨la2, a1, a2⟩ := pX0_add_eq h7 (nt_d_pm (nt_ends hok) S l (by omega)) r2 (a := A l) (b := B l) (v := w l) (by omega) (by omega) (by omega)
      rw [a1, fw_ob]
      refine ⟨_, rfl, rfl, ?_⟩
      have : nt_d A B w S (l + 1) = nt_add (nt_d A B w S l) (A l) (B l) (w l) := by
        funext i j
        show (if S.testBit l then _ else _) = _
        rw [hb]; rfl
      rw [this]
      exact a2) (fun s hs => by
    obtain ⟨x3, la1⟩ := s
    obtain ⟨r1, r2⟩ := hs
    dsimp only at r1 r2
    subst r1
    dsimp only [pX3_measure_N_10]
    rw [if_pos (nI_le (Nat.le_refl _) (by omega))]
    exact ⟨_, rfl, r2⟩)
  obtain ⟨x3, la1⟩ := e
  rw [g1, fw_ob]
  exact ⟨la1, rfl, g2⟩
theorem pX3_measure_T_eq {nc lc : Int32} {le ge wt kp : Nat → Int32} (hok : nt_ok n m A B w k) (hX : nt_X n m A B w k nc lc le ge wt kp) {S : Nat} (hS : S < 2 ^ 31) (ta : Nat → Int32) : ∃ ta', pX3_measure_T nc lc le ge wt ta (nI S) = some (ta', nI n) ∧ rep n ta' (nt_d A B w S m) := pX3_measure_N_eq hok hX hS ta
end DST
