/-! ===== loops by an invariant; forests ===== -/
theorem fw_inv {V E : Type} {f : V → Option (V ⊕ E)} {Q : E → Prop} (Inv : Nat → V → Prop) (b : Nat) (hs : ∀ j v, j < b → Inv j v → (∃ v', f v = some (.inl v') ∧ Inv (j + 1) v') ∨ (∃ e, f v = some (.inr e) ∧ Q e)) (he : ∀ v, Inv b v → ∃ e, f v = some (.inr e) ∧ Q e) :
    ∀ (d N a : Nat) (v : V), a + d = b → d < N → Inv a v → ∃ e, fw_wh f N v = some e ∧ Q e := by
  intro d
  induction d with
  | zero =>
    intro N a v h1 h2 h3
    cases N with
    | zero => exact absurd h2 (by omega)
    | succ N =>
      obtain ⟨e, e1, e2⟩ := he v (by rw [← h1]; exact h3)
      exact ⟨e, by unfold fw_wh; rw [e1], e2⟩
  | succ d ih =>
    intro N a v h1 h2 h3
    cases N with
    | zero => exact absurd h2 (by omega)
    | succ N =>
      rcases hs a v (by omega) h3 with ⟨v', e1, e2⟩ | ⟨e, e1, e2⟩
      · obtain ⟨e, e3, e4⟩ := ih N (a + 1) v' (by omega) (by omega) e2
        exact ⟨e, by unfold fw_wh; rw [e1]; exact e3, e4⟩
      · exact ⟨e, by unfold fw_wh; rw [e1], e2⟩
theorem fw_loop {V E : Type} {f : V → Option (V ⊕ E)} {Q : E → Prop} (Inv : Nat → V → Prop) (a b : Nat) (v : V) (hab : a ≤ b) (hN : b - a < 5000) (h0 : Inv a v) (hs : ∀ j v, j < b → Inv j v → (∃ v', f v = some (.inl v') ∧ Inv (j + 1) v') ∨ (∃ e, f v = some (.inr e) ∧ Q e)) (he : ∀ v, Inv b v → ∃ e, f v = some (.inr e) ∧ Q e) : ∃ e, fw_wh f fw_N v = some e ∧ Q e :=
  fw_inv Inv b hs he (b - a) fw_N a v (by omega) (fw_lN hN) h0
/-- joining two classes, as the class and as the reference do it -/
def jx (P : Nat → Nat) (a b : Nat) : Nat → Nat := fun u => if P u = P a then P b else P u
def jn (P : Nat → Nat) (a b : Nat) : Nat → Nat := fun u => if P u = P b then P a else P u
def eqv (P Q : Nat → Nat) (n : Nat) : Prop := ∀ u v, u < n → v < n → (P u = P v ↔ Q u = Q v)
theorem eqv_join {P Q : Nat → Nat} {n a b : Nat} (h : eqv P Q n) (ha : a < n) (hb : b < n) : eqv (jx P a b) (jn Q a b) n := by
  intro u v hu hv
  unfold jx jn
  have h1 := h u a hu ha
  have h2 := h u b hu hb
  have h3 := h v a hv ha
  have h4 := h v b hv hb
  have h5 := h u v hu hv
  by_cases e1 : P u = P a <;> by_cases e2 : P v = P a <;> by_cases e3 : Q u = Q b <;> by_cases e4 : Q v = Q b <;> simp only [e1, e2, e3, e4, if_true, if_false] <;> grind
/-- one line of a forest's round: (forest numbers, labels, how many were placed) -/
def fr_step (J : (Nat → Nat) → Nat → Nat → Nat → Nat) (A B : Nat → Nat) (f : Nat) (s : (Nat → Nat) × (Nat → Nat) × Nat) (j : Nat) : (Nat → Nat) × (Nat → Nat) × Nat :=
  if s.1 j = 0 ∧ s.2.1 (A j) ≠ s.2.1 (B j) then (fun i => if i = j then f else s.1 i, J s.2.1 (A j) (B j), s.2.2 + 1) else s
def fr_rd (J : (Nat → Nat) → Nat → Nat → Nat → Nat) (A B : Nat → Nat) (f : Nat) (F : Nat → Nat) : Nat → (Nat → Nat) × (Nat → Nat) × Nat
  | 0 => (F, fun u => u, 0)
  | j + 1 => fr_step J A B f (fr_rd J A B f F j) j
theorem fr_sim {A B F : Nat → Nat} {n m f : Nat} (hn : ∀ j, j < m → A j < n ∧ B j < n) : ∀ i, i ≤ m → (fr_rd jx A B f F i).1 = (fr_rd jn A B f F i).1 ∧ (fr_rd jx A B f F i).2.2 = (fr_rd jn A B f F i).2.2 ∧ eqv (fr_rd jx A B f F i).2.1 (fr_rd jn A B f F i).2.1 n := by
  intro i
  induction i with
  | zero => intro _; exact ⟨rfl, rfl, fun _ _ _ _ => Iff.rfl⟩
  | succ i ih =>
    intro hi
    obtain ⟨h1, h2, h3⟩ := ih (by omega)
    obtain ⟨a1, a2⟩ := hn i (by omega)
    show (fr_step jx A B f (fr_rd jx A B f F i) i).1 = (fr_step jn A B f (fr_rd jn A B f F i) i).1 ∧ (fr_step jx A B f (fr_rd jx A B f F i) i).2.2 = (fr_step jn A B f (fr_rd jn A B f F i) i).2.2 ∧ eqv (fr_step jx A B f (fr_rd jx A B f F i) i).2.1 (fr_step jn A B f (fr_rd jn A B f F i) i).2.1 n
    unfold fr_step
    rw [h1]
    have h4 := h3 (A i) (B i) a1 a2
    by_cases e : (fr_rd jn A B f F i).1 i = 0 ∧ (fr_rd jn A B f F i).2.1 (A i) ≠ (fr_rd jn A B f F i).2.1 (B i)
    · have e2 : (fr_rd jn A B f F i).1 i = 0 ∧ (fr_rd jx A B f F i).2.1 (A i) ≠ (fr_rd jx A B f F i).2.1 (B i) := ⟨e.1, fun z => e.2 (h4.mp z)⟩
      rw [if_pos e, if_pos e2]
      exact ⟨rfl, by show _ + 1 = _ + 1; rw [h2], eqv_join h3 a1 a2⟩
    · have e2 : ¬ ((fr_rd jn A B f F i).1 i = 0 ∧ (fr_rd jx A B f F i).2.1 (A i) ≠ (fr_rd jx A B f F i).2.1 (B i)) := fun z => e ⟨z.1, fun y => z.2 (h4.mpr y)⟩
      rw [if_neg e, if_neg e2]
      exact ⟨h1, h2, h3⟩
/-- labels stay below 7 -/
theorem fr_lab {J : (Nat → Nat) → Nat → Nat → Nat → Nat} (hJ : ∀ (P : Nat → Nat) a b u, J P a b u = P a ∨ J P a b u = P b ∨ J P a b u = P u) {A B F : Nat → Nat} {n m f : Nat} (h7 : n ≤ 7) (hn : ∀ j, j < m → A j < n ∧ B j < n) : ∀ i, i ≤ m → ∀ u, u < 7 → (fr_rd J A B f F i).2.1 u < 7 := by
  intro i
  induction i with
  | zero => intro _ u hu; exact hu
  | succ i ih =>
    intro hi u hu
    obtain ⟨a1, a2⟩ := hn i (by omega)
    have ih := ih (by omega)
    show (fr_step J A B f (fr_rd J A B f F i) i).2.1 u < 7
    unfold fr_step
    split
    · show J _ _ _ u < 7
      rcases hJ (fr_rd J A B f F i).2.1 (A i) (B i) u with e | e | e <;> rw [e]
      · exact ih _ (by omega)
      · exact ih _ (by omega)
      · exact ih _ hu
    · exact ih u hu
theorem jx_3 (P : Nat → Nat) (a b u : Nat) : jx P a b u = P a ∨ jx P a b u = P b ∨ jx P a b u = P u := by
  unfold jx; split
  · exact Or.inr (Or.inl rfl)
  · exact Or.inr (Or.inr rfl)
theorem jn_3 (P : Nat → Nat) (a b u : Nat) : jn P a b u = P a ∨ jn P a b u = P b ∨ jn P a b u = P u := by
  unfold jn; split
  · exact Or.inl rfl
  · exact Or.inr (Or.inr rfl)
/-- Parts.clear and apart: every node for itself -/
theorem pX2_clear_eq (po : Nat → Int32) : ∃ po', pX2_clear po = some po' ∧ ∀ u, u < 7 → po' u = nI u := by
  unfold pX2_clear
  obtain ⟨e, h1, h2⟩ := fw_loop (f := pX2_clear_2) (Q := fun e => ∀ u, u < 7 → e.2 u = nI u) (fun i v => v.1 = nI i ∧ ∀ u, u < i → v.2 u = nI u) 0 7 ((0 : Int32), po) (by omega) (by omega) ⟨rfl, fun u hu => by omega⟩ (fun j v hj hv => by
    obtain ⟨x, y⟩ := v
    obtain ⟨rfl, hy⟩ := hv
    left
    dsimp only [pX2_clear_2]
    rw [if_neg (show ¬ (7 : Int32) ≤ nI j from nI_ge (b := 7) hj (by omega)), n_ck hj (by omega), n_cl (by omega), nI_1]
    refine ⟨_, rfl, rfl, fun u hu => ?_⟩
    show upd y j (nI j) u = nI u
    unfold upd
    by_cases e : u = j
    · simp [e]
    · simp only [e, if_false]; exact hy u (by omega)) (fun v hv => by
    obtain ⟨x, y⟩ := v
    obtain ⟨rfl, hy⟩ := hv
    dsimp only [pX2_clear_2]
    rw [if_pos (show (7 : Int32) ≤ nI 7 by decide)]
    exact ⟨_, rfl, hy⟩)
  rw [h1, fw_ob]
  exact ⟨_, rfl, h2⟩
theorem pX4_apart_eq (po : Nat → Int32) : ∃ po', pX4_apart po = some po' ∧ ∀ u, u < 7 → po' u = nI u := pX2_clear_eq po
theorem pX2_join_eq {po : Nat → Int32} {P : Nat → Nat} (hP : ∀ u, u < 7 → po u = nI (P u) ∧ P u < 7) {a b : Nat} (ha : a < 7) (hb : b < 7) : ∃ po', pX2_join po (nI a) (nI b) = some (bb (decide (P a ≠ P b)), po') ∧ ∀ u, u < 7 → po' u = nI (if P a ≠ P b then jx P a b u else P u) := by
  unfold pX2_join
  obtain ⟨pa, la⟩ := hP a ha
  obtain ⟨pb, lb⟩ := hP b hb
  rw [n_ck ha (by omega), n_ck hb (by omega), n_cl (by omega), n_cl (by omega), pa, pb]
  simp only [n_eq (show P a < 2 ^ 31 by omega) (show P b < 2 ^ 31 by omega)]
  by_cases e : P a = P b
  · simp only [e, if_true, ne_eq, not_true, decide_false]
    exact ⟨_, rfl, fun u hu => (hP u hu).1⟩
  · simp only [e, if_false]
    obtain ⟨e', h1, h2⟩ := fw_loop (f := pX2_join_26 (nI (P a)) (nI (P b))) (Q := fun e => ∀ u, u < 7 → e.2 u = nI (jx P a b u)) (fun i v => v.1 = nI i ∧ (∀ u, u < i → v.2 u = nI (jx P a b u)) ∧ ∀ u, i ≤ u → u < 7 → v.2 u = nI (P u)) 0 7 ((0 : Int32), po) (by omega) (by omega) ⟨rfl, fun u hu => by omega, fun u _ hu => (hP u hu).1⟩ (fun j v hj hv => by
      obtain ⟨x, y⟩ := v
      obtain ⟨rfl, hy, hz⟩ := hv
      left
      have hl := (hP j hj).2
      dsimp only [pX2_join_26]
      have hyj : y j = nI (P j) := hz j (Nat.le_refl j) hj
      rw [if_neg (show ¬ (7 : Int32) ≤ nI j from nI_ge (b := 7) hj (by omega)), n_ck hj (by omega), n_ck hj (by omega), n_cl (by omega), hyj, nI_1]
      simp only [n_eq (show P j < 2 ^ 31 by omega) (show P a < 2 ^ 31 by omega)]
      by_cases e2 : P j = P a
      · rw [if_pos e2]
        refine ⟨_, rfl, rfl, fun u hu => ?_, fun u h1 h2 => ?_⟩
        · show upd y j _ u = _
          unfold upd
          by_cases e3 : u = j
          · subst e3; simp [jx, e2]
          · simp only [e3, if_false]; exact hy u (by omega)
        · show upd y j _ u = _
          unfold upd
          rw [if_neg (show ¬ u = j by omega)]
          exact hz u (by omega) h2
      · rw [if_neg e2]
        refine ⟨_, rfl, rfl, fun u hu => ?_, fun u h1 h2 => ?_⟩
        · show y u = _
          by_cases e3 : u = j
          · subst e3; rw [hyj]; simp [jx, e2]
          · exact hy u (by omega)
        · exact hz u (by omega) h2) (fun v hv => by
      obtain ⟨x, y⟩ := v
      obtain ⟨rfl, hy, hz⟩ := hv
      dsimp only [pX2_join_26]
      rw [if_pos (show (7 : Int32) ≤ nI 7 by decide)]
      exact ⟨_, rfl, hy⟩)
    obtain ⟨x9, y9⟩ := e'
    rw [h1, fw_ob]
    refine ⟨y9, ?_, fun u hu => ?_⟩
    · simp [bb, e]
    · rw [if_pos e]; exact h2 u hu
theorem pX4_join_eq {n : Nat} (h7 : n ≤ 7) {sa sb pt : Nat → Int32} {P : Nat → Nat} (hP : ∀ u, u < n → pt u = nI (P u) ∧ P u < 7) {a b j : Nat} (hj : j < 12) (hsa : sa j = nI a) (hsb : sb j = nI b) (ha : a < n) (hb : b < n) : ∃ pt', pX4_join (nI n) sa sb pt (nI j) = some (bb (decide (P a ≠ P b)), pt') ∧ ∀ u, u < n → pt' u = nI (if P a ≠ P b then jn P a b u else P u) := by
  unfold pX4_join
  obtain ⟨pa, la⟩ := hP a ha
  obtain ⟨pb, lb⟩ := hP b hb
  rw [n_ck hj (by omega), n_ck hj (by omega), n_cl (by omega), hsa, hsb, n_ck (show a < 7 by omega) (by omega), n_ck (show b < 7 by omega) (by omega), n_cl (by omega), n_cl (by omega), pa, pb]
  by_cases e : P a = P b
  · obtain ⟨e', h1, h2⟩ := fw_loop (f := pX4_join_27 (nI (P a)) (nI (P b)) (nI n)) (Q := fun e => e.2 = pt) (fun i v => v.1 = nI i ∧ v.2 = pt) 0 0 ((0 : Int32), pt) (by omega) (by omega) ⟨rfl, rfl⟩ (fun j v hj => by omega) (fun v hv => by
      obtain ⟨x, y⟩ := v
      obtain ⟨rfl, rfl⟩ := hv
      dsimp only [pX4_join_27]
      rw [e]
      by_cases e2 : nI n ≤ nI 0
      · rw [if_pos e2]; exact ⟨_, rfl, rfl⟩
      · rw [if_neg e2, if_pos rfl]; exact ⟨_, rfl, rfl⟩)
    obtain ⟨x9, y9⟩ := e'
    rw [h1, fw_ob]
    refine ⟨y9, ?_, fun u hu => ?_⟩
    · simp [bb, e]
    · have h2 : y9 = pt := h2
      rw [h2, (hP u hu).1, if_neg (fun z => z e)]
  · obtain ⟨e', h1, h2⟩ := fw_loop (f := pX4_join_27 (nI (P a)) (nI (P b)) (nI n)) (Q := fun e => ∀ u, u < n → e.2 u = nI (jn P a b u)) (fun i v => v.1 = nI i ∧ (∀ u, u < i → v.2 u = nI (jn P a b u)) ∧ ∀ u, i ≤ u → u < n → v.2 u = nI (P u)) 0 n ((0 : Int32), pt) (by omega) (by omega) ⟨rfl, fun u hu => by omega, fun u _ hu => (hP u hu).1⟩ (fun j v hj hv => by
      obtain ⟨x, y⟩ := v
      obtain ⟨rfl, hy, hz⟩ := hv
      left
      have hl := (hP j hj).2
      dsimp only [pX4_join_27]
      have hyj : y j = nI (P j) := hz j (Nat.le_refl j) hj
      rw [if_neg (nI_ge hj (by omega)), if_neg (show ¬ nI (P a) = nI (P b) from fun z => by rw [n_eq (by omega) (by omega)] at z; exact e z)]
      simp only [n_ck (show j < 7 by omega) (show 7 < 2 ^ 31 by omega), n_cl (show j < 2 ^ 31 by omega), hyj, nI_1, n_eq (show P j < 2 ^ 31 by omega) (show P b < 2 ^ 31 by omega)]
      by_cases e2 : P j = P b
      · rw [if_pos e2]
        refine ⟨_, rfl, rfl, fun u hu => ?_, fun u h1 h2 => ?_⟩
        · show upd y j _ u = _
          unfold upd
          by_cases e3 : u = j
          · subst e3; simp [jn, e2]
          · simp only [e3, if_false]; exact hy u (by omega)
        · show upd y j _ u = _
          unfold upd
          rw [if_neg (show ¬ u = j by omega)]
          exact hz u (by omega) h2
      · rw [if_neg e2]
        refine ⟨_, rfl, rfl, fun u hu => ?_, fun u h1 h2 => ?_⟩
        · show upd y j _ u = _
          unfold upd
          by_cases e3 : u = j
          · subst e3; simp [jn, e2]
          · simp only [e3, if_false]; exact hy u (by omega)
        · show upd y j _ u = _
          unfold upd
          rw [if_neg (show ¬ u = j by omega)]
          exact hz u (by omega) h2) (fun v hv => by
      obtain ⟨x, y⟩ := v
      obtain ⟨rfl, hy, hz⟩ := hv
      dsimp only [pX4_join_27]
      rw [if_pos (nI_le (Nat.le_refl _) (by omega))]
      exact ⟨_, rfl, hy⟩)
    obtain ⟨x9, y9⟩ := e'
    rw [h1, fw_ob]
    refine ⟨y9, ?_, fun u hu => ?_⟩
    · have hne : ¬ nI (P a) = nI (P b) := fun z => by rw [n_eq (by omega) (by omega)] at z; exact e z
      simp [bb, e, hne]
    · rw [if_pos e]; exact h2 u hu
