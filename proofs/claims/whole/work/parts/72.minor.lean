/-! ===== the class's minors ===== -/
theorem pJ7_fillL_eq (N : Nat) (hN : N < 5000) (f : Nat → Int64) (v : Int64) : pJ7_fill_d0a16 N f v = some (fun j => if j < N then v else f j) := by
  unfold pJ7_fill_d0a16
  have h := fw_from (f := pJ7_fill_d0a16_6 N v (nI N)) (e := (nI N, fun j => if j < N then v else f j)) 0 N (fun i => (nI i, fun j => if j < i then v else f j)) (by omega) (by omega) (fun j _ hj => by
    show (if nI N ≤ nI j then _ else _) = _
    rw [if_neg (nI_ge hj (by omega)), n_ck hj (by omega), n_cl (by omega), nI_1]
    congr 3
    funext i
    unfold vp_updL
    by_cases h1 : i = j
    · subst h1; simp
    · by_cases h2 : i < j
      · simp [h1, h2, show i < j + 1 by omega]
      · simp [h1, h2, show ¬ i < j + 1 by omega]) (by
    show (if nI N ≤ nI N then _ else _) = _
    rw [if_pos (nI_le (Nat.le_refl _) (by omega))])
  rw [show ((0 : Int32), f) = (nI 0, fun j => if j < 0 then v else f j) by simp [nI_0], h]
  rfl
theorem pX1_clear_eq {n : Nat} (h7 : n ≤ 7) (mx : Nat → Int64) : pX1_clear mx (nI n) = some ((fun j => if j < 49 then 0 else mx j), nI n) := by
  unfold pX1_clear
  rw [pJ7_fillL_eq 49 (by omega), fw_ob, if_neg (show ¬ (7 : Int32) < nI n by rw [l_7, n_lt (by omega) (by omega)]; omega)]
/-- a node's own column -/
def mn_e (x : Nat) : Nat → Int64 := fm_chi (fun u => u) x
theorem mn_e_eq (x i : Nat) : mn_e x i = if i = x then 1 else 0 := rfl
theorem pX1_add_eq {a b : Nat} (ha : a < 7) (hb : b < 7) (hab : a ≠ b) {v : Nat} (hv : v < 2 ^ 31) (mx : Nat → Int64) : ∃ mx', pX1_add mx (nI a) (nI b) (nI v) = some mx' ∧ ∀ i j, i < 7 → j < 7 → mx' (7 * i + j) = mx (7 * i + j) + lN v * (mn_e i a - mn_e i b) * (mn_e j a - mn_e j b) := by
  unfold pX1_add
  simp only [i_ab, n_ck (show 7 * a + a < 49 by omega) (show 49 < 2 ^ 31 by omega), n_ck (show 7 * b + b < 49 by omega) (show 49 < 2 ^ 31 by omega), n_ck (show 7 * a + b < 49 by omega) (show 49 < 2 ^ 31 by omega), n_ck (show 7 * b + a < 49 by omega) (show 49 < 2 ^ 31 by omega), n_cl (show 7 * a + a < 2 ^ 31 by omega), n_cl (show 7 * b + b < 2 ^ 31 by omega), n_cl (show 7 * a + b < 2 ^ 31 by omega), n_cl (show 7 * b + a < 2 ^ 31 by omega), nI_l hv]
  refine ⟨_, rfl, fun i j hi hj => ?_⟩
  simp only [vp_updL, mn_e_eq]
  have d1 : ¬ 7 * b + b = 7 * a + a := by omega
  have d2 : ¬ 7 * a + b = 7 * a + a := by omega
  have d3 : ¬ 7 * a + b = 7 * b + b := by omega
  have d4 : ¬ 7 * b + a = 7 * a + a := by omega
  have d5 : ¬ 7 * b + a = 7 * b + b := by omega
  have d6 : ¬ 7 * b + a = 7 * a + b := by omega
  simp only [d1, d2, d3, d4, d5, d6, if_false]
  have e1 : (7 * i + j = 7 * b + a) = (i = b ∧ j = a) := propext ⟨fun h => by omega, fun h => by omega⟩
  have e2 : (7 * i + j = 7 * a + b) = (i = a ∧ j = b) := propext ⟨fun h => by omega, fun h => by omega⟩
  have e3 : (7 * i + j = 7 * b + b) = (i = b ∧ j = b) := propext ⟨fun h => by omega, fun h => by omega⟩
  have e4 : (7 * i + j = 7 * a + a) = (i = a ∧ j = a) := propext ⟨fun h => by omega, fun h => by omega⟩
  simp only [e1, e2, e3, e4]
  have hba : ¬ b = a := fun e => hab e.symm
  by_cases ia : i = a
  · subst ia
    by_cases ja : j = i
    · subst ja
      simp only [hab, hba, and_self, and_false, false_and, if_true, if_false]; grind
    · by_cases jb : j = b
      · subst jb
        simp only [hab, hba, and_self, and_true, and_false, true_and, false_and, if_true, if_false]; grind
      · have ja' : ¬ i = j := fun e => ja e.symm
        have jb' : ¬ b = j := fun e => jb e.symm
        simp only [hab, hba, ja, jb, ja', jb', and_false, if_true, if_false]; grind
  · have ia' : ¬ a = i := fun e => ia e.symm
    by_cases ib : i = b
    · subst ib
      by_cases ja : j = a
      · subst ja
        simp only [ia, ia', and_self, and_true, and_false, true_and, false_and, if_true, if_false]; grind
      · have ja' : ¬ a = j := fun e => ja e.symm
        by_cases jb : j = i
        · subst jb
          simp only [ia, ia', ja, ja', and_self, and_true, and_false, true_and, false_and, if_true, if_false]; grind
        · have jb' : ¬ i = j := fun e => jb e.symm
          simp only [ia, ia', ja, ja', jb, jb', and_false, false_and, if_true, if_false]; grind
    · have ib' : ¬ b = i := fun e => ib e.symm
      simp only [ia, ia', ib, ib', false_and, if_false]; grind
section MIN
variable {n m : Nat} {A B w k : Nat → Nat}
theorem pX3_fillMinors_eq {nc lc : Int32} {le ge wt kp : Nat → Int32} (hok : nt_ok n m A B w k) (hX : nt_X n m A B w k nc lc le ge wt kp) (mx : Nat → Int64) (way : Int32) : ∃ mx', pX3_fillMinors nc lc le ge wt kp mx way = some (mx', nI n) ∧ ∀ i j, i < 7 → j < 7 → mx' (7 * i + j) = fm_B A B (nt_wy w k way) m 0 (mn_e i) (mn_e j) := by
  obtain ⟨⟨h2, h7, h12⟩, hj⟩ := id hok
  obtain ⟨rfl, rfl, hx⟩ := id hX
  unfold pX3_fillMinors
  rw [pX1_clear_eq h7, fw_ob]
  obtain ⟨e, h1, h2⟩ := fw_loop (f := pX3_fillMinors_13 way (nI m) le ge wt kp) (Q := fun e => ∀ i j, i < 7 → j < 7 → e.2 (7 * i + j) = fm_s A B (nt_wy w k way) m (mn_e i) (mn_e j)) (fun l v => v.1 = nI l ∧ ∀ i j, i < 7 → j < 7 → v.2 (7 * i + j) = fm_s A B (nt_wy w k way) l (mn_e i) (mn_e j)) 0 m ((0 : Int32), fun j => if j < 49 then 0 else mx j) (by omega) (by omega) ⟨rfl, fun i j hi hj => by
      show (if 7 * i + j < 49 then (0 : Int64) else _) = 0
      rw [if_pos (by omega)]⟩ (fun l v hl hv => by
    obtain ⟨x, y⟩ := v
    obtain ⟨rfl, hy⟩ := hv
    left
    have hw := nt_wy_le hok way hl
    have hlj := hj l hl
    dsimp only [pX3_fillMinors_13]
    rw [if_neg (nI_ge hl (by omega)), n_ck (show l < 12 by omega) (by omega), n_ck (show l < 12 by omega) (by omega), pX3_weightIn_eq hok hX way hl, fw_ob, n_cl (by omega), (hx l hl).1, (hx l hl).2.1]
    obtain ⟨mx', q1, q2⟩ := pX1_add_eq (show A l < 7 by omega) (show B l < 7 by omega) (show A l ≠ B l by omega) (show nt_wy w k way l < 2 ^ 31 by omega) y
    rw [q1, fw_ob, nI_1]
    refine ⟨_, rfl, rfl, fun i j hi hj => ?_⟩
    show mx' (7 * i + j) = fm_s A B (nt_wy w k way) l (mn_e i) (mn_e j) + _
    rw [q2 i j hi hj]
    have : y (7 * i + j) = _ := hy i j hi hj
    rw [this]) (fun v hv => by
    obtain ⟨x, y⟩ := v
    obtain ⟨rfl, hy⟩ := hv
    dsimp only [pX3_fillMinors_13]
    rw [if_pos (nI_le (Nat.le_refl _) (by omega))]
    exact ⟨_, rfl, hy⟩)
  obtain ⟨x9, y9⟩ := e
  show ∃ mx', (fw_wh (pX3_fillMinors_13 way (nI m) le ge wt kp) fw_N ((0 : Int32), fun j => if j < 49 then 0 else mx j)).bind _ = _ ∧ _
  rw [h1, fw_ob]
  refine ⟨_, rfl, fun i j hi hj => ?_⟩
  have : y9 (7 * i + j) = _ := h2 i j hi hj
  rw [this]
  unfold fm_B
  show _ = fm_s A B (nt_wy w k way) m (mn_e i) (mn_e j) - 0
  grind
end MIN
/-! what is chosen -/
def mn_kl (d : Nat → Nat) : Nat → List Nat
  | 0 => []
  | r + 1 => d r :: mn_kl d r
theorem mn_kl_congr {d d' : Nat → Nat} : ∀ r, (∀ s, s < r → d s = d' s) → mn_kl d r = mn_kl d' r := by
  intro r
  induction r with
  | zero => intro _; rfl
  | succ r ih => intro h; simp only [mn_kl]; rw [ih (fun s hs => h s (by omega)), h r (by omega)]
theorem pX1_choose_eq {n X : Nat} (h7 : n ≤ 7) (hX : X < 2 ^ 31) (ch : Nat → Int32) : ∃ (r : Nat) (d : Nat → Nat) (ch' : Nat → Int32), pX1_choose ch (nI n) (nI X) = some (nI r, ch') ∧ r ≤ n ∧ (∀ s, s < r → ch' s = nI (d s) ∧ d s < 7) ∧ (mn_kl d r).Nodup ∧ ∀ z, z ∈ mn_kl d r ↔ z < n ∧ X.testBit z = false := by
  unfold pX1_choose
  obtain ⟨e, h1, h2⟩ := fw_loop (f := pX1_choose_4 (nI X) (nI n)) (Q := fun e => ∃ (r : Nat) (d : Nat → Nat), e.1 = nI r ∧ r ≤ n ∧ (∀ s, s < r → e.2.2 s = nI (d s) ∧ d s < 7) ∧ (mn_kl d r).Nodup ∧ ∀ z, z ∈ mn_kl d r ↔ z < n ∧ X.testBit z = false) (fun i v => v.2.1 = nI i ∧ ∃ (r : Nat) (d : Nat → Nat), v.1 = nI r ∧ r ≤ i ∧ (∀ s, s < r → v.2.2 s = nI (d s) ∧ d s < 7) ∧ (mn_kl d r).Nodup ∧ ∀ z, z ∈ mn_kl d r ↔ z < i ∧ X.testBit z = false) 0 n ((0 : Int32), (0 : Int32), ch) (by omega) (by omega) ⟨rfl, 0, fun _ => 0, rfl, Nat.le_refl 0, fun s hs => by omega, List.nodup_nil, fun z => by simp [mn_kl]⟩ (fun i v hi hv => by
    obtain ⟨x, y, z⟩ := v
    obtain ⟨rfl, r, d, rfl, hr, hs, hn, hm⟩ := hv
    left
    dsimp only [pX1_choose_4]
    rw [if_neg (nI_ge hi (by omega)), pX3_isIn_eq hX (by omega), fw_ob]
    simp only [bb_0]
    by_cases hb : X.testBit i = false
    · rw [if_pos hb, n_ck (show r < 7 by omega) (by omega), n_cl (by omega), nI_1, nI_1]
      have ec : mn_kl (fun s => if s = r then i else d s) r = mn_kl d r := mn_kl_congr r (fun s hs => if_neg (by omega))
      have ek : mn_kl (fun s => if s = r then i else d s) (r + 1) = i :: mn_kl d r := by
        simp only [mn_kl]; rw [ec]; simp
      refine ⟨_, rfl, rfl, r + 1, fun s => if s = r then i else d s, rfl, by omega, fun s hs' => ?_, ?_, fun q => ?_⟩
      · show upd z r (nI i) s = _ ∧ _
        unfold upd
        by_cases e : s = r
        · simp only [e, if_true]; exact ⟨trivial, by omega⟩
        · simp only [e, if_false]; exact hs s (by omega)
      · rw [ek]
        exact List.nodup_cons.mpr ⟨fun q => by have := (hm i).mp q; omega, hn⟩
      · rw [ek, List.mem_cons, hm]
        constructor
        · intro h
          rcases h with h | h
          · rw [h]; exact ⟨by omega, hb⟩
          · exact ⟨by omega, h.2⟩
        · intro h
          by_cases e : q = i
          · exact Or.inl e
          · exact Or.inr ⟨by omega, h.2⟩
    · rw [if_neg hb, nI_1]
      refine ⟨_, rfl, rfl, r, d, rfl, by omega, hs, hn, fun q => ?_⟩
      rw [hm]
      constructor
      · intro h; exact ⟨by omega, h.2⟩
      · intro h
        by_cases e : q = i
        · rw [e] at h; exact absurd h.2 hb
        · exact ⟨by omega, h.2⟩) (fun v hv => by
    obtain ⟨x, y, z⟩ := v
    obtain ⟨rfl, hv⟩ := hv
    dsimp only [pX1_choose_4]
    rw [if_pos (nI_le (Nat.le_refl _) (by omega))]
    exact ⟨_, rfl, hv⟩)
  obtain ⟨x9, y9, z9⟩ := e
  rw [h1, fw_ob]
  obtain ⟨r, d, e1, e2, e3, e4, e5⟩ := h2
  have e1 : x9 = nI r := e1
  exact ⟨r, d, z9, by rw [e1], e2, e3, e4, e5⟩
/-! one minor out of the smaller ones -/
def mn_cl (φ : Nat → Nat → Int64) (T : Nat) : Nat → List (Nat → Int64)
  | 0 => []
  | t + 1 => if T.testBit t then φ t :: mn_cl φ T t else mn_cl φ T t
theorem mn_cl_congr (φ : Nat → Nat → Int64) {T T' : Nat} : ∀ t, (∀ j, j < t → T.testBit j = T'.testBit j) → mn_cl φ T t = mn_cl φ T' t := by
  intro t
  induction t with
  | zero => intro _; rfl
  | succ t ih => intro h; simp only [mn_cl]; rw [ih (fun s hs => h s (by omega)), h t (by omega)]
theorem n_xb {T s j : Nat} (h : j ≠ s) : (T ^^^ 2 ^ s).testBit j = T.testBit j := by
  rw [Nat.testBit_xor, Nat.testBit_two_pow, decide_eq_false (fun e => h e.symm), Bool.xor_false]
theorem n_xs {T s : Nat} (h : T.testBit s = true) : (T ^^^ 2 ^ s).testBit s = false := by
  rw [Nat.testBit_xor, Nat.testBit_two_pow, h, decide_eq_true rfl]; rfl
theorem n_m1 (t : Nat) : nI t + (-1 : Int32) = nI t - 1 := by
  rw [Int32.sub_eq_add_neg]
theorem mn_run {mx mo : Nat → Int64} {ch : Nat → Int32} {T c : Nat} {d : Nat → Nat} (hc : c < 7) (hT : T < 2 ^ 7) (v : (Nat → Int64) → Int64) (g : List (Nat → Int64) → Int64) (φ : Nat → Nat → Int64) :
    ∀ t, t ≤ 7 → (∀ s, s < t → ch s = nI (d s) ∧ d s < 7) → (∀ s, s < t → mx (7 * c + d s) = v (φ s)) → ∀ (N : Nat), t < N → ∀ (acc sg : Int64) (pre : List (Nat → Int64)), (∀ s, s < t → T.testBit s = true → mo (T ^^^ 2 ^ s) = g (pre ++ mn_cl φ (T ^^^ 2 ^ s) t)) → ∃ e : Int64 × Int32, fw_wh (pX1_alongLastRow_26 (nI T) (nI c * 7) mx ch mo) N (acc, sg, nI t - 1) = some (acc + sg * dE v (fun l => g (pre ++ l)) (mn_cl φ T t), e) := by
  intro t
  induction t with
  | zero =>
    intro _ _ _ N hN acc sg pre _
    cases N with
    | zero => exact absurd hN (by omega)
    | succ N =>
      unfold fw_wh
      dsimp only [pX1_alongLastRow_26]
      rw [if_pos (show nI 0 - 1 < (0 : Int32) by decide)]
      refine ⟨(sg, nI 0 - 1), ?_⟩
      show some (acc, sg, nI 0 - 1) = some (acc + sg * 0, sg, nI 0 - 1)
      congr 2
      grind
  | succ t ih =>
    intro ht hch hmx N hN acc sg pre hmo
    have ih := ih (by omega) (fun s hs => hch s (by omega)) (fun s hs => hmx s (by omega))
    cases N with
    | zero => exact absurd hN (by omega)
    | succ N =>
      unfold fw_wh
      rw [nI_pred]
      dsimp only [pX1_alongLastRow_26]
      rw [if_neg (show ¬ nI t < (0 : Int32) by rw [l_0, n_lt (by omega) (by omega)]; omega), pX3_isIn_eq (show T < 2 ^ 31 by omega) (by omega), fw_ob]
      simp only [bb_0]
      by_cases hb : T.testBit t = false
      · rw [if_pos hb, n_m1]
        have e0 : mn_cl φ T (t + 1) = mn_cl φ T t := by simp only [mn_cl]; rw [hb]; rfl
        rw [e0]
        refine ih N (by omega) acc sg pre (fun s hs hs' => ?_)
        rw [hmo s (by omega) hs']
        have : mn_cl φ (T ^^^ 2 ^ s) (t + 1) = mn_cl φ (T ^^^ 2 ^ s) t := by
          simp only [mn_cl]; rw [n_xb (show t ≠ s by omega), hb]; rfl
        rw [this]
      · have hb' : T.testBit t = true := by simpa using hb
        have hx7 : T ^^^ 2 ^ t < 2 ^ 7 := Nat.xor_lt_two_pow hT (Nat.pow_lt_pow_right (by omega) (by omega))
        have ct := hch t (by omega)
        rw [if_neg hb, n_ck (show t < 7 by omega) (by omega), n_cl (show t < 2 ^ 31 by omega), ct.1, i_ab, n_ck (show 7 * c + d t < 49 by omega) (by omega), nI_not (by omega) hb', n_ck (show T ^^^ 2 ^ t < 128 by omega) (by omega), n_cl (by omega), n_cl (by omega), n_m1, hmx t (by omega), hmo t (by omega) hb']
        have e0 : mn_cl φ (T ^^^ 2 ^ t) (t + 1) = mn_cl φ T t := by
          simp only [mn_cl]; rw [n_xs hb']
          exact mn_cl_congr φ t (fun j hj => n_xb (by omega))
        have e1 : mn_cl φ T (t + 1) = φ t :: mn_cl φ T t := by simp only [mn_cl]; rw [hb']; rfl
        rw [e0, e1]
        obtain ⟨e, q⟩ := ih N (by omega) (acc + sg * v (φ t) * g (pre ++ mn_cl φ T t)) (-sg) (pre ++ [φ t]) (fun s hs hs' => by
          rw [hmo s (by omega) hs']
          have : mn_cl φ (T ^^^ 2 ^ s) (t + 1) = φ t :: mn_cl φ (T ^^^ 2 ^ s) t := by
            simp only [mn_cl]; rw [n_xb (show t ≠ s by omega), hb']; rfl
          rw [this, List.append_assoc]
          rfl)
        refine ⟨e, q.trans ?_⟩
        congr 2
        simp only [dE, List.append_assoc, List.singleton_append]
        grind
theorem nt_pc_pos {T r : Nat} (hT : T < 2 ^ r) (h : T ≠ 0) : 1 ≤ nt_pc T r := by
  rcases Nat.lt_or_ge 0 (nt_pc T r) with z | z
  · exact z
  · exfalso
    apply h
    have all : ∀ k, nt_pc T k ≤ 0 → ∀ j, j < k → T.testBit j = false := by
      intro k
      induction k with
      | zero => intro _ j hj; omega
      | succ k ih =>
        intro hk j hj
        simp only [nt_pc] at hk
        by_cases e : j = k
        · subst e
          cases hb : T.testBit j
          · rfl
          · rw [hb] at hk; simp at hk
        · exact ih (by omega) j (by omega)
    exact nt_ext hT (by omega) (fun i hi => by rw [all r z i hi]; simp)
theorem nt_pc_xor {T s : Nat} (h : T.testBit s = true) : ∀ k, nt_pc (T ^^^ 2 ^ s) k + (if s < k then 1 else 0) = nt_pc T k := by
  intro k
  induction k with
  | zero => rfl
  | succ k ih =>
    simp only [nt_pc]
    by_cases e : k = s
    · subst e
      rw [n_xs h, h]
      rw [if_neg (show ¬ k < k by omega)] at ih
      rw [if_pos (show k < k + 1 by omega)]
      simp only [Bool.false_eq_true, if_false, if_true]
      omega
    · rw [n_xb e]
      by_cases e2 : s < k
      · rw [if_pos e2] at ih; rw [if_pos (show s < k + 1 by omega)]; omega
      · rw [if_neg e2] at ih; rw [if_neg (show ¬ s < k + 1 by omega)]; omega
/-- the first rows, the last first -/
def mn_rw (ρ : (Nat → Int64) → (Nat → Int64) → Int64) (φ : Nat → Nat → Int64) : Nat → List ((Nat → Int64) → Int64)
  | 0 => []
  | t + 1 => ρ (φ t) :: mn_rw ρ φ t
def mn_v (ρ : (Nat → Int64) → (Nat → Int64) → Int64) (φ : Nat → Nat → Int64) (r T : Nat) : Int64 := dD (mn_rw ρ φ (nt_pc T r)) (mn_cl φ T r)
theorem pX1_alongLastRow_eq {mx mo : Nat → Int64} {ch : Nat → Int32} {d : Nat → Nat} {r T : Nat} (ρ : (Nat → Int64) → (Nat → Int64) → Int64) (hr : r ≤ 7) (hch : ∀ s, s < r → ch s = nI (d s) ∧ d s < 7) (hmx : ∀ i j, i < 7 → j < 7 → mx (7 * i + j) = ρ (mn_e i) (mn_e j)) (h0 : T ≠ 0) (hT : T < 2 ^ r) (hmo : ∀ T', T' < T → mo T' = mn_v ρ (fun s => mn_e (d s)) r T') : pX1_alongLastRow mx ch mo (nI T) (nI r) = some (mn_v ρ (fun s => mn_e (d s)) r T) := by
  have hp := nt_pc_pos hT h0
  have hl := nt_pc_le T r
  have h27 : 2 ^ r ≤ 2 ^ 7 := Nat.pow_le_pow_right (by omega) hr
  unfold pX1_alongLastRow
  rw [bc_m (show r ≤ 12 by omega) hT, fw_ob]
  obtain ⟨p, hpe⟩ : ∃ p, nt_pc T r = p + 1 := ⟨nt_pc T r - 1, by omega⟩
  have cp := hch p (by omega)
  rw [hpe, nI_pred, n_ck (show p < 7 by omega) (by omega), n_cl (by omega), cp.1]
  obtain ⟨e, q⟩ := mn_run (mx := mx) (mo := mo) (ch := ch) (T := T) (c := d p) (d := d) cp.2 (by omega) (ρ (mn_e (d p))) (dD (mn_rw ρ (fun s => mn_e (d s)) p)) (fun s => mn_e (d s)) r hr hch (fun s hs => hmx _ _ cp.2 (hch s hs).2) fw_N (fw_lN (by omega)) 0 1 [] (fun s hs hb => by
    have hx : T ^^^ 2 ^ s < T := by
      have hxl : T ^^^ 2 ^ s < 2 ^ r := Nat.xor_lt_two_pow hT (Nat.pow_lt_pow_right (by omega) hs)
      exact nt_lt_bit r _ _ s hxl hT (n_xs hb) hb (fun j hj => n_xb (by omega))
    rw [hmo _ hx]
    unfold mn_v
    have := nt_pc_xor hb r
    rw [if_pos hs] at this
    rw [show nt_pc (T ^^^ 2 ^ s) r = p by omega]
    rfl)
  rw [q, fw_ob]
  obtain ⟨e1, e2⟩ := e
  show some _ = some _
  congr 1
  unfold mn_v
  rw [hpe]
  show (0 : Int64) + 1 * dE (ρ (mn_e (d p))) (fun l => dD (mn_rw ρ (fun s => mn_e (d s)) p) ([] ++ l)) _ = dE (ρ (mn_e (d p))) (dD (mn_rw ρ (fun s => mn_e (d s)) p)) _
  simp only [List.nil_append]
  grind
theorem mn_full (ρ : (Nat → Int64) → (Nat → Int64) → Int64) (d : Nat → Nat) (r : Nat) : mn_v ρ (fun s => mn_e (d s)) r (2 ^ r - 1) = dG ρ ((mn_kl d r).map mn_e) := by
  unfold mn_v dG
  have h1 := nt_pc_all r
  have h2 := nt_pc_le (2 ^ r - 1) r
  rw [show nt_pc (2 ^ r - 1) r = r by omega]
  have e1 : ∀ q, mn_rw ρ (fun s => mn_e (d s)) q = ((mn_kl d q).map mn_e).map ρ := by
    intro q
    induction q with
    | zero => rfl
    | succ q ih => simp only [mn_rw, mn_kl, List.map_cons]; rw [ih]
  have e2 : ∀ q, q ≤ r → mn_cl (fun s => mn_e (d s)) (2 ^ r - 1) q = (mn_kl d q).map mn_e := by
    intro q
    induction q with
    | zero => intro _; rfl
    | succ q ih =>
      intro hq
      simp only [mn_cl, mn_kl, List.map_cons]
      rw [ih (by omega), Nat.testBit_two_pow_sub_one, decide_eq_true (show q < r by omega)]
      rfl
  rw [e1, e2 r (Nat.le_refl r)]
theorem pX1_without_eq {n X : Nat} {mx : Nat → Int64} (h7 : n ≤ 7) (hX : X < 2 ^ 31) (ch : Nat → Int32) (mo : Nat → Int64) (ρ : (Nat → Int64) → (Nat → Int64) → Int64) (hmx : ∀ i j, i < 7 → j < 7 → mx (7 * i + j) = ρ (mn_e i) (mn_e j)) : ∃ (l : List Nat) (ch' : Nat → Int32) (mo' : Nat → Int64), pX1_without mx ch mo (nI n) (nI X) = some (dG ρ (l.map mn_e), ch', mo') ∧ l.Nodup ∧ ∀ z, z ∈ l ↔ z < n ∧ X.testBit z = false := by
  obtain ⟨r, d, ch', c1, c2, c3, c4, c5⟩ := pX1_choose_eq h7 hX ch
  have hr : r ≤ 7 := by omega
  have h27 : 2 ^ r ≤ 2 ^ 7 := Nat.pow_le_pow_right (by omega) hr
  have h1p : 1 ≤ 2 ^ r := Nat.one_le_two_pow
  unfold pX1_without
  rw [c1, fw_ob]
  dsimp only
  rw [n_shl (show r < 31 by omega), l_0, n_ck (show 0 < 128 by omega) (by omega), n_cl (show 0 < 2 ^ 31 by omega), show nI (2 ^ r) - (1 : Int32) = nI (2 ^ r - 1) from pk_sub h1p]
  obtain ⟨e, h1, h2⟩ := fw_loop (f := pX1_without_22 (nI r) (nI (2 ^ r - 1)) mx ch') (Q := fun e => ∀ T, T < 2 ^ r → e.2 T = mn_v ρ (fun s => mn_e (d s)) r T) (fun i v => v.1 = nI i ∧ 1 ≤ i ∧ ∀ T, T < i → v.2 T = mn_v ρ (fun s => mn_e (d s)) r T) 1 (2 ^ r) ((1 : Int32), vp_updL mo 0 1) h1p (by omega) ⟨rfl, Nat.le_refl 1, fun T hT => by
      rw [show T = 0 by omega]
      show vp_updL mo 0 1 0 = _
      rw [pk_uLs]
      unfold mn_v
      have z1 : ∀ q, nt_pc 0 q = 0 := by
        intro q
        induction q with
        | zero => rfl
        | succ q ih => simp only [nt_pc]; rw [ih]; simp
      have z2 : ∀ q, mn_cl (fun s => mn_e (d s)) 0 q = [] := by
        intro q
        induction q with
        | zero => rfl
        | succ q ih => simp only [mn_cl]; rw [ih]; simp
      rw [z1, z2]
      rfl⟩ (fun i v hi hv => by
    obtain ⟨x, y⟩ := v
    obtain ⟨rfl, hi1, hy⟩ := hv
    left
    dsimp only [pX1_without_22]
    rw [if_neg (show ¬ nI (2 ^ r - 1) < nI i by rw [n_lt (by omega) (by omega)]; omega), pX1_alongLastRow_eq ρ hr c3 hmx (show i ≠ 0 by omega) hi hy, fw_ob, n_ck (show i < 128 by omega) (by omega), n_cl (by omega), nI_1]
    refine ⟨_, rfl, rfl, by omega, fun T hT => ?_⟩
    show vp_updL y i _ T = _
    by_cases e : T = i
    · rw [e, pk_uLs]
    · rw [pk_uLn e]; exact hy T (by omega)) (fun v hv => by
    obtain ⟨x, y⟩ := v
    obtain ⟨rfl, hi1, hy⟩ := hv
    dsimp only [pX1_without_22]
    rw [if_pos (show nI (2 ^ r - 1) < nI (2 ^ r) by rw [n_lt (by omega) (by omega)]; omega)]
    exact ⟨_, rfl, hy⟩)
  obtain ⟨x9, y9⟩ := e
  rw [h1, fw_ob]
  dsimp only
  rw [n_ck (show 2 ^ r - 1 < 128 by omega) (by omega), n_cl (by omega)]
  have q : y9 (2 ^ r - 1) = _ := h2 (2 ^ r - 1) (by omega)
  rw [q, mn_full]
  exact ⟨mn_kl d r, ch', y9, rfl, c4, c5⟩
