/-! ===== rounds of forests: at, forests, peel ===== -/
def zc (F : Nat → Nat) (m : Nat) : Nat := nsum (fun j => if F j = 0 then 1 else 0) m
theorem zc_le (F : Nat → Nat) (m : Nat) : zc F m ≤ m := by
  have := nsum_le (f := fun j => if F j = 0 then 1 else 0) (c := 1) (m := m) (fun j _ => by show (if _ then 1 else 0) ≤ 1; split <;> omega)
  unfold zc; omega
theorem zc_zero (m : Nat) : zc (fun _ => 0) m = m := by
  induction m with
  | zero => rfl
  | succ m ih => show nsum _ m + 1 = m + 1; have : nsum (fun j => if (fun _ => 0 : Nat → Nat) j = 0 then 1 else 0) m = m := ih; rw [this]
theorem zc_up {F : Nat → Nat} {f j : Nat} (hf : 1 ≤ f) (hF : F j = 0) : ∀ m, zc (fun i => if i = j then f else F i) m + (if j < m then 1 else 0) = zc F m := by
  intro m
  induction m with
  | zero => rfl
  | succ m ih =>
    have ih : nsum (fun i => if (if i = j then f else F i) = 0 then 1 else 0) m + (if j < m then 1 else 0) = nsum (fun i => if F i = 0 then 1 else 0) m := ih
    show nsum (fun i => if (if i = j then f else F i) = 0 then 1 else 0) m + (if (if m = j then f else F m) = 0 then 1 else 0) + (if j < m + 1 then 1 else 0) = nsum (fun i => if F i = 0 then 1 else 0) m + (if F m = 0 then 1 else 0)
    generalize nsum (fun i => if (if i = j then f else F i) = 0 then 1 else 0) m = x at ih ⊢
    generalize nsum (fun i => if F i = 0 then 1 else 0) m = y at ih ⊢
    by_cases e : m = j
    · subst e
      rw [if_neg (show ¬ m < m by omega)] at ih
      rw [if_pos rfl, if_neg (show ¬ f = 0 by omega), if_pos (show m < m + 1 by omega), if_pos hF]
      omega
    · rw [if_neg e]
      by_cases e2 : j < m
      · rw [if_pos e2] at ih
        rw [if_pos (show j < m + 1 by omega)]
        omega
      · rw [if_neg e2] at ih
        rw [if_neg (show ¬ j < m + 1 by omega)]
        omega
theorem zc_pos {F : Nat → Nat} {m : Nat} (h : ∀ j, j < m → F j ≠ 0) : zc F m = 0 := by
  unfold zc
  rw [nsum_congr (g := fun _ => 0) (fun j hj => by show (if F j = 0 then 1 else 0) = 0; rw [if_neg (h j hj)])]
  have := nsum_le (f := fun _ => 0) (c := 0) (m := m) (fun _ _ => Nat.le_refl 0)
  omega
section RDS
variable {n m : Nat} {A B w k : Nat → Nat}
theorem fr_cnt {J : (Nat → Nat) → Nat → Nat → Nat → Nat} {F : Nat → Nat} {f : Nat} (hf : 1 ≤ f) : ∀ i, i ≤ m → (fr_rd J A B f F i).2.2 + zc (fr_rd J A B f F i).1 m = zc F m := by
  intro i
  induction i with
  | zero => intro _; show 0 + zc F m = _; omega
  | succ i ih =>
    intro hi
    have ih := ih (by omega)
    show (fr_step J A B f (fr_rd J A B f F i) i).2.2 + zc (fr_step J A B f (fr_rd J A B f F i) i).1 m = zc F m
    unfold fr_step
    split
    · next e =>
      have h := zc_up hf e.1 m
      rw [if_pos (show i < m by omega)] at h
      show _ + 1 + zc (fun i_1 => if i_1 = i then f else (fr_rd J A B f F i).1 i_1) m = zc F m
      omega
    · exact ih
theorem fr_le12 {J : (Nat → Nat) → Nat → Nat → Nat → Nat} {F : Nat → Nat} {f : Nat} (hf : f ≤ 12) (hF : ∀ j, F j ≤ 12) : ∀ i j, (fr_rd J A B f F i).1 j ≤ 12 := by
  intro i
  induction i with
  | zero => exact hF
  | succ i ih =>
    intro j
    show (fr_step J A B f (fr_rd J A B f F i) i).1 j ≤ 12
    unfold fr_step
    split
    · show (if j = i then f else _) ≤ 12
      split
      · exact hf
      · exact ih j
    · exact ih j
theorem fr_dec {J : (Nat → Nat) → Nat → Nat → Nat → Nat} {F : Nat → Nat} {f : Nat} (hok : nt_ok n m A B w k) (hz : 0 < zc F m) : 1 ≤ (fr_rd J A B f F m).2.2 := by
  have key : ∀ i, i ≤ m → (fr_rd J A B f F i).2.2 = 0 → (fr_rd J A B f F i) = (F, fun u => u, 0) ∧ ∀ j, j < i → F j ≠ 0 := by
    intro i
    induction i with
    | zero => intro _ _; exact ⟨rfl, fun j hj => by omega⟩
    | succ i ih =>
      intro hi h
      have h' : (fr_step J A B f (fr_rd J A B f F i) i).2.2 = 0 := h
      have hst : (fr_rd J A B f F (i + 1)) = fr_step J A B f (fr_rd J A B f F i) i := rfl
      unfold fr_step at h'
      by_cases e : (fr_rd J A B f F i).1 i = 0 ∧ (fr_rd J A B f F i).2.1 (A i) ≠ (fr_rd J A B f F i).2.1 (B i)
      · rw [if_pos e] at h'
        exact absurd h' (by show ¬ (_ + 1 = 0); omega)
      · rw [if_neg e] at h'
        obtain ⟨h1, h2⟩ := ih (by omega) h'
        rw [hst]
        unfold fr_step
        rw [if_neg e]
        refine ⟨h1, fun j hj => ?_⟩
        rcases (show j < i ∨ j = i by omega) with z | z
        · exact h2 j z
        · subst z
          intro hF
          apply e
          rw [h1]
          exact ⟨hF, by have := (hok.2 j (by omega)).1; show A j ≠ B j; omega⟩
  rcases Nat.eq_zero_or_pos (fr_rd J A B f F m).2.2 with h | h
  · have := zc_pos (key m (Nat.le_refl m) h).2
    omega
  · exact h
/-- the forest numbers behind r rounds -/
def fr_F (A B : Nat → Nat) (m : Nat) : Nat → Nat → Nat
  | 0 => fun _ => 0
  | r + 1 => (fr_rd jn A B (r + 1) (fr_F A B m r) m).1
theorem fr_R (hok : nt_ok n m A B w k) : ∃ R, R ≤ m ∧ zc (fr_F A B m R) m = 0 ∧ ∀ r, r < R → 0 < zc (fr_F A B m r) m := by
  have step : ∀ r, 0 < zc (fr_F A B m r) m → zc (fr_F A B m (r + 1)) m + 1 ≤ zc (fr_F A B m r) m := fun r h => by
    have h1 := fr_cnt (J := jn) (A := A) (B := B) (F := fr_F A B m r) (f := r + 1) (m := m) (by omega) m (Nat.le_refl m)
    have h2 := fr_dec (J := jn) (f := r + 1) hok h
    show zc (fr_rd jn A B (r + 1) (fr_F A B m r) m).1 m + 1 ≤ _
    omega
  have bound : ∀ r, (∀ q, q < r → 0 < zc (fr_F A B m q) m) → zc (fr_F A B m r) m + r ≤ m := by
    intro r
    induction r with
    | zero => intro _; have := zc_le (fr_F A B m 0) m; omega
    | succ r ih =>
      intro h
      have h1 := ih (fun q hq => h q (by omega))
      have h2 := step r (h r (by omega))
      omega
  obtain ⟨R, h1, h2⟩ := pk_least (fun r => zc (fr_F A B m r) m = 0) (Classical.byContradiction fun hn => by
    have hall : ∀ q, 0 < zc (fr_F A B m q) m := fun q => by
      rcases Nat.eq_zero_or_pos (zc (fr_F A B m q) m) with z | z
      · exact absurd ⟨q, z⟩ hn
      · exact z
    have := bound (m + 1) (fun q _ => hall q)
    omega)
  have h3 : ∀ r, r < R → 0 < zc (fr_F A B m r) m := fun r hr => by
    have := h2 r hr
    omega
  have := bound R h3
  exact ⟨R, by omega, h1, h3⟩
theorem fr_F_le (A B : Nat → Nat) (m : Nat) : ∀ r, r ≤ 12 → ∀ j, fr_F A B m r j ≤ 12 := by
  intro r
  induction r with
  | zero => intro _ j; exact Nat.zero_le _
  | succ r ih => intro hr j; exact fr_le12 (by omega) (ih (by omega)) m j
theorem nt_ends (hok : nt_ok n m A B w k) : ∀ j, j < m → A j < n ∧ B j < n := fun j hj => by have := hok.2 j hj; omega
theorem pX3_peelOne_eq {nc lc : Int32} {le ge wt kp : Nat → Int32} (hok : nt_ok n m A B w k) (hX : nt_X n m A B w k nc lc le ge wt kp) {F : Nat → Nat} (hF : ∀ j, F j ≤ 12) {fo : Nat → Int32} (hfo : ∀ j, j < m → fo j = nI (F j)) (po : Nat → Int32) {f : Nat} (hf2 : f ≤ 12) :
    ∃ fo' po', pX3_peelOne lc le ge fo po (nI f) = some (nI (fr_rd jn A B f F m).2.2, fo', po') ∧ ∀ j, j < m → fo' j = nI ((fr_rd jn A B f F m).1 j) := by
  obtain ⟨⟨h2, h7, h12⟩, hj⟩ := id hok
  have hlc := hX.2.1
  subst hlc
  unfold pX3_peelOne
  obtain ⟨po1, e1, e2⟩ := pX2_clear_eq po
  rw [e1, fw_ob]
  have hlab := fr_lab (J := jx) jx_3 (F := F) (f := f) h7 (nt_ends hok)
  have hle := fr_le12 (J := jx) (A := A) (B := B) hf2 hF
  obtain ⟨e, g1, g2⟩ := fw_loop (f := pX3_peelOne_11 (nI f) (nI m) le ge) (Q := fun e => e.1 = nI (fr_rd jx A B f F m).2.2 ∧ ∀ j, j < m → e.2.2.1 j = nI ((fr_rd jx A B f F m).1 j)) (fun i v => v.1 = nI (fr_rd jx A B f F i).2.2 ∧ v.2.1 = nI i ∧ (∀ j, j < m → v.2.2.1 j = nI ((fr_rd jx A B f F i).1 j)) ∧ ∀ u, u < 7 → v.2.2.2 u = nI ((fr_rd jx A B f F i).2.1 u)) 0 m ((0 : Int32), (0 : Int32), fo, po1) (by omega) (by omega) ⟨rfl, rfl, hfo, e2⟩ (fun i v hi hv => by
    obtain ⟨x2, x3, fo', po'⟩ := v
    obtain ⟨r1, r2, r3, r4⟩ := hv
    dsimp only at r1 r2 r3 r4
    subst r1
    subst r2
    left
    obtain ⟨y1, y2, y3, y4⟩ := hX.2.2 i hi
    obtain ⟨z1, z2, z3, z4, z5⟩ := hj i hi
    have hle' := hle i i
    have hlab' := hlab i (by omega)
    dsimp only [pX3_peelOne_11]
    rw [if_neg (nI_ge hi (by omega))]
    simp only [n_ck (show i < 12 by omega) (show 12 < 2 ^ 31 by omega), n_cl (show i < 2 ^ 31 by omega), r3 i hi, y1, y2, nI_1, l_0, n_eq (show (fr_rd jx A B f F i).1 i < 2 ^ 31 by omega) (show 0 < 2 ^ 31 by omega)]
    have hst : fr_rd jx A B f F (i + 1) = fr_step jx A B f (fr_rd jx A B f F i) i := rfl
    rw [hst]
    generalize fr_rd jx A B f F i = S at *
    by_cases c1 : S.1 i = 0
    · rw [if_pos c1]
      obtain ⟨po2, j1, j2⟩ := pX2_join_eq (po := po') (P := S.2.1) (fun u hu => ⟨r4 u hu, hlab' u hu⟩) (a := A i) (b := B i) (by omega) (by omega)
      rw [j1, fw_ob]
      dsimp only
      simp only [show nI 0 = (0 : Int32) from rfl, bb_0]
      by_cases c2 : S.2.1 (A i) ≠ S.2.1 (B i)
      · rw [if_neg (by rw [decide_eq_true c2]; decide)]
        refine ⟨_, rfl, ?_, rfl, fun j hj' => ?_, fun u hu => ?_⟩
        · unfold fr_step
          rw [if_pos ⟨c1, c2⟩]
        · unfold fr_step
          rw [if_pos ⟨c1, c2⟩]
          show upd fo' i (nI f) j = nI (if j = i then f else S.1 j)
          unfold upd
          by_cases e : j = i
          · simp [e]
          · simp only [e, if_false]; exact r3 j hj'
        · unfold fr_step
          rw [if_pos ⟨c1, c2⟩]
          have := j2 u hu
          rw [if_pos c2] at this
          exact this
      · rw [if_pos (by rw [decide_eq_false c2])]
        refine ⟨_, rfl, ?_, rfl, fun j hj' => ?_, fun u hu => ?_⟩
        · unfold fr_step
          rw [if_neg (fun z => c2 z.2)]
        · unfold fr_step
          rw [if_neg (fun z => c2 z.2)]
          exact r3 j hj'
        · unfold fr_step
          rw [if_neg (fun z => c2 z.2)]
          have := j2 u hu
          rw [if_neg c2] at this
          exact this
    · rw [if_neg c1]
      refine ⟨_, rfl, ?_, rfl, fun j hj' => ?_, fun u hu => ?_⟩
      · unfold fr_step
        rw [if_neg (fun z => c1 z.1)]
      · unfold fr_step
        rw [if_neg (fun z => c1 z.1)]
        exact r3 j hj'
      · unfold fr_step
        rw [if_neg (fun z => c1 z.1)]
        exact r4 u hu) (fun v hv => by
    obtain ⟨x2, x3, fo', po'⟩ := v
    obtain ⟨r1, r2, r3, r4⟩ := hv
    dsimp only at r1 r2 r3 r4
    subst r2
    dsimp only [pX3_peelOne_11]
    rw [if_pos (nI_le (Nat.le_refl _) (by omega))]
    exact ⟨_, rfl, r1, r3⟩)
  obtain ⟨x2, x3, fo', po'⟩ := e
  rw [g1, fw_ob]
  obtain ⟨s1, s2, -⟩ := fr_sim (F := F) (f := f) (nt_ends hok) m (Nat.le_refl m)
  refine ⟨fo', po', ?_, fun j hj' => ?_⟩
  · have := g2.1
    dsimp only at this
    rw [this, s2]
  · have := g2.2 j hj'
    dsimp only at this
    rw [this, s1]
theorem pX3_peelForests_eq {nc lc : Int32} {le ge wt kp : Nat → Int32} (hok : nt_ok n m A B w k) (hX : nt_X n m A B w k nc lc le ge wt kp) (fo po : Nat → Int32) {R : Nat} (hR1 : R ≤ m) (hR2 : zc (fr_F A B m R) m = 0) (hR3 : ∀ r, r < R → 0 < zc (fr_F A B m r) m) :
    ∃ fo' po', pX3_peelForests lc le ge fo po = some (nI R, fo', po') ∧ ∀ j, j < m → fo' j = nI (fr_F A B m R j) := by
  obtain ⟨⟨h2, h7, h12⟩, hj⟩ := id hok
  have hlc := hX.2.1
  unfold pX3_peelForests
  rw [pJ7_fill_eq 12 (by omega), fw_ob]
  obtain ⟨e, g1, g2⟩ := fw_loop (f := pX3_peelForests_12 lc le ge) (Q := fun e => e.2.1 = nI R ∧ ∀ j, j < m → e.2.2.1 j = nI (fr_F A B m R j)) (fun r v => r ≤ R ∧ v.1 = nI (m - zc (fr_F A B m r) m) ∧ v.2.1 = nI r ∧ ∀ j, j < m → v.2.2.1 j = nI (fr_F A B m r j)) 0 R ((0 : Int32), (0 : Int32), fun j => if j < 12 then 0 else fo j, po) (by omega) (by omega) ⟨by omega, by
      show (0 : Int32) = nI (m - zc (fun _ => 0) m)
      rw [zc_zero, Nat.sub_self]; rfl, rfl, fun j hj' => by
      show (if j < 12 then (0 : Int32) else fo j) = nI 0
      rw [if_pos (by omega)]; rfl⟩ (fun r v hr hv => by
    obtain ⟨x1, x2, fo', po'⟩ := v
    obtain ⟨r0, r1, r2, r3⟩ := hv
    dsimp only at r1 r2 r3
    subst r1
    subst r2
    left
    have hz := hR3 r hr
    have hzl := zc_le (fr_F A B m r) m
    obtain ⟨fo2, po2, p1, p2⟩ := pX3_peelOne_eq hok hX (fr_F_le A B m r (by omega)) r3 po' (f := r + 1) (by omega)
    have hcnt := fr_cnt (J := jn) (A := A) (B := B) (F := fr_F A B m r) (f := r + 1) (m := m) (by omega) m (Nat.le_refl m)
    dsimp only [pX3_peelForests_12]
    rw [hlc, if_neg (nI_ge (show m - zc (fr_F A B m r) m < m by omega) (by omega)), if_neg (show ¬ (12 : Int32) ≤ nI r from nI_ge (b := 12) (by omega) (by omega)), nI_1, ← hlc, p1, fw_ob]
    dsimp only
    rw [nI_add]
    refine ⟨_, rfl, by omega, ?_, rfl, p2⟩
    show nI _ = nI (m - zc (fr_rd jn A B (r + 1) (fr_F A B m r) m).1 m)
    congr 1
    omega) (fun v hv => by
    obtain ⟨x1, x2, fo', po'⟩ := v
    obtain ⟨r0, r1, r2, r3⟩ := hv
    dsimp only at r1 r2 r3
    subst r1
    dsimp only [pX3_peelForests_12]
    rw [hlc, hR2, Nat.sub_zero, if_pos (nI_le (Nat.le_refl _) (by omega))]
    exact ⟨_, rfl, r2, r3⟩)
  obtain ⟨x1, x2, fo', po'⟩ := e
  rw [g1, fw_ob]
  obtain ⟨q1, q2⟩ := g2
  dsimp only at q1 q2
  exact ⟨fo', po', by rw [q1], q2⟩
theorem pX4_findForests_eq {nc lc : Int32} {le ge wt kp : Nat → Int32} (hok : nt_ok n m A B w k) (hX : nt_X n m A B w k nc lc le ge wt kp) (fr pt : Nat → Int32) {R : Nat} (hR1 : R ≤ m) (hR2 : zc (fr_F A B m R) m = 0) (hR3 : ∀ r, r < R → 0 < zc (fr_F A B m r) m) :
    ∃ fr' pt', pX4_findForests nc lc le ge fr pt = some (nI R, fr', pt') ∧ ∀ j, j < m → fr' j = nI (fr_F A B m R j) := by
  obtain ⟨⟨h2, h7, h12⟩, hj⟩ := id hok
  have hnc := hX.1
  have hlc := hX.2.1
  subst hnc
  subst hlc
  unfold pX4_findForests
  obtain ⟨e, g1, g2⟩ := fw_loop (f := pX4_findForests_2 (nI m)) (Q := fun e => ∀ j, j < m → e.2 j = nI 0) (fun i v => v.1 = nI i ∧ ∀ j, j < i → v.2 j = nI 0) 0 m ((0 : Int32), fr) (by omega) (by omega) ⟨rfl, fun j hj => by omega⟩ (fun i v hi hv => by
    obtain ⟨x1, fr'⟩ := v
    obtain ⟨r1, r2⟩ := hv
    dsimp only at r1 r2
    subst r1
    left
    dsimp only [pX4_findForests_2]
    rw [if_neg (nI_ge hi (by omega)), n_ck (show i < 12 by omega) (by omega), n_cl (by omega), nI_1]
    refine ⟨_, rfl, rfl, fun j hj' => ?_⟩
    show upd fr' i 0 j = nI 0
    unfold upd
    by_cases e : j = i
    · simp only [e, if_true]; rfl
    · simp only [e, if_false]; exact r2 j (by omega)) (fun v hv => by
    obtain ⟨x1, fr'⟩ := v
    obtain ⟨r1, r2⟩ := hv
    dsimp only at r1 r2
    subst r1
    dsimp only [pX4_findForests_2]
    rw [if_pos (nI_le (Nat.le_refl _) (by omega))]
    exact ⟨_, rfl, r2⟩)
  obtain ⟨x0, fr0⟩ := e
  rw [g1, fw_ob]
  dsimp only at g2 ⊢
  obtain ⟨e, k1, k2⟩ := fw_loop (f := pX4_findForests_30 (nI n) (nI m) le ge) (Q := fun e => e.2.1 = nI R ∧ ∀ j, j < m → e.2.2.1 j = nI (fr_F A B m R j)) (fun r v => r ≤ R ∧ v.1 = nI (zc (fr_F A B m r) m) ∧ v.2.1 = nI r ∧ ∀ j, j < m → v.2.2.1 j = nI (fr_F A B m r j)) 0 R (nI m, (0 : Int32), fr0, pt) (by omega) (by omega) ⟨by omega, by
      show nI m = nI (zc (fun _ => 0) m)
      rw [zc_zero], rfl, g2⟩ (fun r v hr hv => by
    obtain ⟨x1, x2, fo', po'⟩ := v
    obtain ⟨r0, r1, r2, r3⟩ := hv
    dsimp only at r1 r2 r3
    subst r1
    subst r2
    left
    have hz := hR3 r hr
    have hzl := zc_le (fr_F A B m r) m
    have hFl := fr_F_le A B m r (by omega)
    have hlab := fr_lab (J := jn) jn_3 (F := fr_F A B m r) (f := r + 1) h7 (nt_ends hok)
    have hle := fr_le12 (J := jn) (A := A) (B := B) (f := r + 1) (by omega) hFl
    have hcnt := fr_cnt (J := jn) (A := A) (B := B) (F := fr_F A B m r) (f := r + 1) (m := m) (by omega)
    dsimp only [pX4_findForests_30]
    rw [if_neg (show ¬ nI (zc (fr_F A B m r) m) ≤ 0 from nI_nle hz (by omega))]
    obtain ⟨pt1, e1, e2⟩ := pX4_apart_eq po'
    rw [e1, fw_ob, nI_1]
    obtain ⟨e, m1, m2⟩ := fw_loop (f := pX4_findForests_43 (nI (r + 1)) (nI n) (nI m) le ge) (Q := fun e => e.1 = nI (zc (fr_rd jn A B (r + 1) (fr_F A B m r) m).1 m) ∧ ∀ j, j < m → e.2.2.1 j = nI ((fr_rd jn A B (r + 1) (fr_F A B m r) m).1 j)) (fun i v => v.1 = nI (zc (fr_rd jn A B (r + 1) (fr_F A B m r) i).1 m) ∧ v.2.1 = nI i ∧ (∀ j, j < m → v.2.2.1 j = nI ((fr_rd jn A B (r + 1) (fr_F A B m r) i).1 j)) ∧ ∀ u, u < n → v.2.2.2 u = nI ((fr_rd jn A B (r + 1) (fr_F A B m r) i).2.1 u)) 0 m (nI (zc (fr_F A B m r) m), (0 : Int32), fo', pt1) (by omega) (by omega) ⟨rfl, rfl, r3, fun u hu => e2 u (by omega)⟩ (fun i v hi hv => by
      obtain ⟨x1, x3, fr', pt'⟩ := v
      obtain ⟨q1, q2, q3, q4⟩ := hv
      dsimp only at q1 q2 q3 q4
      subst q1
      subst q2
      left
      obtain ⟨y1, y2, y3, y4⟩ := hX.2.2 i hi
      obtain ⟨z1, z2, z3, z4, z5⟩ := hj i hi
      have hle' := hle i i
      have hlab' := hlab i (by omega)
      have hst : fr_rd jn A B (r + 1) (fr_F A B m r) (i + 1) = fr_step jn A B (r + 1) (fr_rd jn A B (r + 1) (fr_F A B m r) i) i := rfl
      dsimp only [pX4_findForests_43]
      rw [if_neg (nI_ge hi (by omega)), hst]
      generalize fr_rd jn A B (r + 1) (fr_F A B m r) i = S at *
      simp only [n_ck (show i < 12 by omega) (show 12 < 2 ^ 31 by omega), n_cl (show i < 2 ^ 31 by omega), q3 i hi, nI_1, l_0, n_eq (show S.1 i < 2 ^ 31 by omega) (show 0 < 2 ^ 31 by omega)]
      by_cases c1 : S.1 i = 0
      · rw [if_pos c1]
        obtain ⟨po2, j1, j2⟩ := pX4_join_eq (n := n) h7 (sa := le) (sb := ge) (pt := pt') (P := S.2.1) (fun u hu => ⟨q4 u hu, hlab' u (by omega)⟩) (a := A i) (b := B i) (j := i) (by omega) y1 y2 (by omega) (by omega)
        rw [j1, fw_ob]
        dsimp only
        simp only [show nI 0 = (0 : Int32) from rfl, bb_0]
        by_cases c2 : S.2.1 (A i) ≠ S.2.1 (B i)
        · rw [if_neg (by rw [decide_eq_true c2]; decide)]
          have hup := zc_up (F := S.1) (f := r + 1) (by omega) c1 m
          rw [if_pos hi] at hup
          refine ⟨_, rfl, ?_, rfl, fun j hj' => ?_, fun u hu => ?_⟩
          · unfold fr_step
            rw [if_pos ⟨c1, c2⟩]
            show nI (zc S.1 m) + -1 = nI (zc (fun i_1 => if i_1 = i then r + 1 else S.1 i_1) m)
            rw [← hup, pk_m1]
          · unfold fr_step
            rw [if_pos ⟨c1, c2⟩]
            show upd fr' i (nI (r + 1)) j = nI (if j = i then r + 1 else S.1 j)
            unfold upd
            by_cases e : j = i
            · simp [e]
            · simp only [e, if_false]; exact q3 j hj'
          · unfold fr_step
            rw [if_pos ⟨c1, c2⟩]
            have := j2 u hu
            rw [if_pos c2] at this
            exact this
        · rw [if_pos (by rw [decide_eq_false c2])]
          refine ⟨_, rfl, ?_, rfl, fun j hj' => ?_, fun u hu => ?_⟩
          · unfold fr_step
            rw [if_neg (fun z => c2 z.2)]
          · unfold fr_step
            rw [if_neg (fun z => c2 z.2)]
            exact q3 j hj'
          · unfold fr_step
            rw [if_neg (fun z => c2 z.2)]
            have := j2 u hu
            rw [if_neg c2] at this
            exact this
      · rw [if_neg c1]
        refine ⟨_, rfl, ?_, rfl, fun j hj' => ?_, fun u hu => ?_⟩
        · unfold fr_step
          rw [if_neg (fun z => c1 z.1)]
        · unfold fr_step
          rw [if_neg (fun z => c1 z.1)]
          exact q3 j hj'
        · unfold fr_step
          rw [if_neg (fun z => c1 z.1)]
          exact q4 u hu) (fun v hv => by
      obtain ⟨x1, x3, fr', pt'⟩ := v
      obtain ⟨q1, q2, q3, q4⟩ := hv
      dsimp only at q1 q2 q3 q4
      subst q2
      dsimp only [pX4_findForests_43]
      rw [if_pos (nI_le (Nat.le_refl _) (by omega))]
      exact ⟨_, rfl, q1, q3⟩)
    obtain ⟨x1, x3, fr', pt'⟩ := e
    rw [m1, fw_ob]
    obtain ⟨t1, t2⟩ := m2
    dsimp only at t1 t2 ⊢
    exact ⟨_, rfl, by omega, t1, rfl, t2⟩) (fun v hv => by
    obtain ⟨x1, x2, fo', po'⟩ := v
    obtain ⟨r0, r1, r2, r3⟩ := hv
    dsimp only at r1 r2 r3
    subst r1
    dsimp only [pX4_findForests_30]
    rw [hR2, if_pos (show nI 0 ≤ 0 by decide)]
    exact ⟨_, rfl, r2, r3⟩)
  obtain ⟨x1, x2, fo', po'⟩ := e
  rw [k1, fw_ob]
  obtain ⟨q1, q2⟩ := k2
  dsimp only at q1 q2
  exact ⟨fo', po', by rw [q1], q2⟩
end RDS

theorem st_forests (nc : Int32) (lc : Int32) (le : Nat → Int32) (ge : Nat → Int32) (wt : Nat → Int32) (kp : Nat → Int32) (fs : Nat → Int32) (nn : Int32) (ln : Int32) (sa : Nat → Int32) (sb : Nat → Int32) (wg : Nat → Int32) (kt : Nat → Int32) (h : fw_R nc lc le ge wt kp fs nn ln sa sb wg kt) (fo : Nat → Int32) (po : Nat → Int32) (fr : Nat → Int32) (pt : Nat → Int32) : ∃ (r : Int32) (fo' : Nat → Int32) (po' : Nat → Int32) (fr' : Nat → Int32) (pt' : Nat → Int32), pX3_forests lc le ge fo po = some (r, fo', po') ∧ pX4_forests nn ln sa sb fr pt = some (r, fr', pt') ∧ fw_R nc lc le ge wt kp fs nn ln sa sb wg kt := by
  have h0 := h
  obtain ⟨n, m, A, B, w, k, hok, hX, hM, hC⟩ := h
  obtain ⟨R, h1, h2, h3⟩ := fr_R hok
  obtain ⟨fo', po', x1, -⟩ := pX3_peelForests_eq hok hX fo po h1 h2 h3
  obtain ⟨fr', pt', y1, -⟩ := pX4_findForests_eq hok hM fr pt h1 h2 h3
  unfold pX3_forests pX4_forests
  rw [x1, y1]
  exact ⟨_, _, _, _, _, rfl, rfl, h0⟩
theorem st_at (nc : Int32) (lc : Int32) (le : Nat → Int32) (ge : Nat → Int32) (wt : Nat → Int32) (kp : Nat → Int32) (fs : Nat → Int32) (nn : Int32) (ln : Int32) (sa : Nat → Int32) (sb : Nat → Int32) (wg : Nat → Int32) (kt : Nat → Int32) (h : fw_R nc lc le ge wt kp fs nn ln sa sb wg kt) (fo : Nat → Int32) (po : Nat → Int32) (fr : Nat → Int32) (pt : Nat → Int32) (a1 : Int32) (a2 : Int32) : ∃ (r : Int32) (fo' : Nat → Int32) (po' : Nat → Int32) (fr' : Nat → Int32) (pt' : Nat → Int32), pX3_at lc le ge wt kp fo po a1 a2 = some (r, fo', po') ∧ pX4_at nn ln sa sb wg kt fr pt a1 a2 = some (r, fr', pt') ∧ fw_R nc lc le ge wt kp fs nn ln sa sb wg kt := by
  have h0 := h
  obtain ⟨n, m, A, B, w, k, hok, hX, hM, hC⟩ := h
  have h12 := hok.1.2.2
  have e3 := hX.2.1
  have e4 := hM.2.1
  subst e3
  subst e4
  obtain ⟨R, h1, h2, h3⟩ := fr_R hok
  obtain ⟨fo', po', x1, x2⟩ := pX3_peelForests_eq hok hX fo po h1 h2 h3
  obtain ⟨fr', pt', y1, y2⟩ := pX4_findForests_eq hok hM fr pt h1 h2 h3
  unfold pX3_at pX4_at
  rw [x1, fw_ob, y1, fw_ob, pX3_isLine_eq (by omega), pX4_isLine_eq (by omega), fw_ob, fw_ob]
  simp only [bb_0, decide_eq_false_iff_not]
  by_cases c : 0 ≤ a1.toInt ∧ a1.toInt < m
  · rw [if_neg (not_not_intro c), if_neg (not_not_intro c)]
    obtain ⟨d, hd, rfl⟩ := n_idx c (by omega)
    obtain ⟨u1, u2, u3, u4⟩ := hX.2.2 d hd
    obtain ⟨v1, v2, v3, v4⟩ := hM.2.2 d hd
    simp only [n_ck (show d < 12 by omega) (show 12 < 2 ^ 31 by omega), n_cl (show d < 2 ^ 31 by omega), u1, u2, u3, u4, v1, v2, v3, v4, x2 d hd, y2 d hd]
    by_cases c0 : a2 = 0
    · simp only [c0, if_true, show ¬ (0 : Int32) = 4 by decide, if_false]
      exact ⟨_, _, _, _, _, rfl, rfl, h0⟩
    by_cases c1 : a2 = 1
    · simp only [c1, if_true, show ¬ (1 : Int32) = 4 by decide, show ¬ (1 : Int32) = 0 by decide, if_false]
      exact ⟨_, _, _, _, _, rfl, rfl, h0⟩
    by_cases c2 : a2 = 2
    · simp only [c2, if_true, show ¬ (2 : Int32) = 4 by decide, show ¬ (2 : Int32) = 0 by decide, show ¬ (2 : Int32) = 1 by decide, if_false]
      exact ⟨_, _, _, _, _, rfl, rfl, h0⟩
    by_cases c3 : a2 = 3
    · simp only [c3, if_true, show ¬ (3 : Int32) = 4 by decide, show ¬ (3 : Int32) = 0 by decide, show ¬ (3 : Int32) = 1 by decide, show ¬ (3 : Int32) = 2 by decide, if_false]
      exact ⟨_, _, _, _, _, rfl, rfl, h0⟩
    by_cases c4 : a2 = 4
    · simp only [c4, if_true, show ¬ (4 : Int32) = 3 by decide, show ¬ (4 : Int32) = 0 by decide, show ¬ (4 : Int32) = 1 by decide, show ¬ (4 : Int32) = 2 by decide, if_false]
      exact ⟨_, _, _, _, _, rfl, rfl, h0⟩
    simp only [c0, c1, c2, c3, c4, if_false]
    exact ⟨_, _, _, _, _, rfl, rfl, h0⟩
  · rw [if_pos c, if_pos c]
    exact ⟨_, _, _, _, _, rfl, rfl, h0⟩
