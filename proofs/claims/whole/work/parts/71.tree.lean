/-! ===== trees and forests, by weights ===== -/
/-- the lines of S below the number, one after the other: the product (0 at a circle) and the labels -/
def fm_st (A B W : Nat → Nat) (S : Nat) : Nat → Nat × (Nat → Nat)
  | 0 => (1, fun u => u)
  | j + 1 => if S.testBit j then (if (fm_st A B W S j).2 (A j) = (fm_st A B W S j).2 (B j) then (0, (fm_st A B W S j).2) else ((fm_st A B W S j).1 * W j, jn (fm_st A B W S j).2 (A j) (B j))) else fm_st A B W S j
/-- the form of the lines below j -/
def fm_s (A B W : Nat → Nat) : Nat → (Nat → Int64) → (Nat → Int64) → Int64
  | 0, _, _ => 0
  | j + 1, f, h => fm_s A B W j f h + lN (W j) * (f (A j) - f (B j)) * (h (A j) - h (B j))
/-- the form of the lines from k on -/
def fm_B (A B W : Nat → Nat) (m k : Nat) (f h : Nat → Int64) : Int64 := fm_s A B W m f h - fm_s A B W k f h
def fm_ad (f h : Nat → Int64) : Nat → Int64 := fun i => f i + h i
theorem fm_s_r (A B W : Nat → Nat) (j : Nat) (r c c' : Nat → Int64) : fm_s A B W j r (fm_ad c c') = fm_s A B W j r c + fm_s A B W j r c' := by
  induction j with
  | zero => simp only [fm_s]; grind
  | succ j ih => simp only [fm_s]; rw [ih]; simp only [fm_ad]; grind
theorem fm_s_l (A B W : Nat → Nat) (j : Nat) (r r' c : Nat → Int64) : fm_s A B W j (fm_ad r r') c = fm_s A B W j r c + fm_s A B W j r' c := by
  induction j with
  | zero => simp only [fm_s]; grind
  | succ j ih => simp only [fm_s]; rw [ih]; simp only [fm_ad]; grind
theorem fm_B_r (A B W : Nat → Nat) (m k : Nat) (r c c' : Nat → Int64) : fm_B A B W m k r (fm_ad c c') = fm_B A B W m k r c + fm_B A B W m k r c' := by
  unfold fm_B; rw [fm_s_r, fm_s_r]; grind
theorem fm_B_l (A B W : Nat → Nat) (m k : Nat) (r r' c : Nat → Int64) : fm_B A B W m k (fm_ad r r') c = fm_B A B W m k r c + fm_B A B W m k r' c := by
  unfold fm_B; rw [fm_s_l, fm_s_l]; grind
theorem fm_B_s (A B W : Nat → Nat) (m k : Nat) (c c' : Nat → Int64) : fm_B A B W m k c c' = fm_B A B W m (k + 1) c c' + lN (W k) * (fun c : Nat → Int64 => c (A k) - c (B k)) c * (fun c : Nat → Int64 => c (A k) - c (B k)) c' := by
  unfold fm_B; simp only [fm_s]; grind
/-- one at the nodes with that label -/
def fm_chi (P : Nat → Nat) (x : Nat) : Nat → Int64 := fun i => if P i = x then 1 else 0
/-- the labels but those of a and b -/
def fm_K (n : Nat) (P : Nat → Nat) (a b : Nat) : List Nat := (List.range n).filter (fun x => decide (P x = x ∧ x ≠ P a ∧ x ≠ P b))
theorem fm_mem {n : Nat} {P : Nat → Nat} {a b z : Nat} : z ∈ fm_K n P a b ↔ z < n ∧ P z = z ∧ z ≠ P a ∧ z ≠ P b := by
  unfold fm_K; simp [List.mem_filter]
theorem fm_nd (n : Nat) (P : Nat → Nat) (a b : Nat) : (fm_K n P a b).Nodup := by
  unfold fm_K
  exact List.Pairwise.filter _ List.nodup_range
abbrev fm_sep (P : Nat → Nat) (a b : Nat) : Prop := a = b ∨ P a ≠ P b
def fm_ok (n : Nat) (P : Nat → Nat) : Prop := ∀ u, u < n → P u < n ∧ P (P u) = P u
theorem fm_ok_jn {n : Nat} {P : Nat → Nat} {a b : Nat} (h : fm_ok n P) (ha : a < n) (hb : b < n) (hne : P a ≠ P b) : fm_ok n (jn P a b) := by
  intro u hu
  have h1 := h u hu
  have h2 := h a ha
  have h3 := h b hb
  unfold jn
  by_cases e : P u = P b
  · rw [if_pos e]
    refine ⟨h2.1, ?_⟩
    rw [h2.2, if_neg hne]
  · rw [if_neg e]
    refine ⟨h1.1, ?_⟩
    rw [h1.2, if_neg e]
theorem fm_d_in {P : Nat → Nat} {x y : Nat} {a b : Nat} (ha : P a = x) (hb : P b = y) (z : Nat) : fm_chi P z a - fm_chi P z b = (if x = z then 1 else 0) - (if y = z then 1 else 0) := by
  unfold fm_chi; rw [ha, hb]
theorem fm_dc0 (A B W : Nat → Nat) (m k n : Nat) (P : Nat → Nat) (a b : Nat) (he : P (A k) = P (B k)) : dG (fm_B A B W m k) ((fm_K n P a b).map (fm_chi P)) = dG (fm_B A B W m (k + 1)) ((fm_K n P a b).map (fm_chi P)) := by
  refine dG_none _ _ _ _ (fm_B_s A B W m k) _ (fun c hc => ?_)
  obtain ⟨z, _, rfl⟩ := List.mem_map.mp hc
  show fm_chi P z (A k) - fm_chi P z (B k) = 0
  rw [fm_d_in he rfl]; grind
theorem fm_dc (A B W : Nat → Nat) (m k n : Nat) (P : Nat → Nat) (a b : Nat) (hP : fm_ok n P) (hA : A k < n) (hB : B k < n) (ha : a < n) (hb : b < n) (hs : fm_sep P a b) (he : P (A k) ≠ P (B k)) :
    dG (fm_B A B W m k) ((fm_K n P a b).map (fm_chi P)) = dG (fm_B A B W m (k + 1)) ((fm_K n P a b).map (fm_chi P)) + (if fm_sep (jn P (A k) (B k)) a b then lN (W k) * dG (fm_B A B W m (k + 1)) ((fm_K n (jn P (A k) (B k)) a b).map (fm_chi (jn P (A k) (B k)))) else 0) ∧ (fm_sep (jn P (A k) (B k)) a b → (fm_K n P a b).length = (fm_K n (jn P (A k) (B k)) a b).length + 1) := by
  generalize hK : fm_K n P a b = K
  generalize hP' : jn P (A k) (B k) = P'
  generalize hK' : fm_K n P' a b = K'
  generalize hx : P (A k) = x at he
  generalize hy : P (B k) = y at he
  have nK : K.Nodup := hK ▸ fm_nd n P a b
  have nK' : K'.Nodup := hK' ▸ fm_nd n P' a b
  have mK : ∀ z, z ∈ K ↔ z < n ∧ P z = z ∧ z ≠ P a ∧ z ≠ P b := fun z => hK ▸ fm_mem
  have mK' : ∀ z, z ∈ K' ↔ z < n ∧ P' z = z ∧ z ≠ P' a ∧ z ≠ P' b := fun z => hK' ▸ fm_mem
  have eP' : ∀ u, P' u = if P u = y then x else P u := by
    intro u; rw [← hP', ← hx, ← hy]; rfl
  have okx : x < n ∧ P x = x := by rw [← hx]; exact hP _ hA
  have oky : y < n ∧ P y = y := by rw [← hy]; exact hP _ hB
  have oka := hP a ha
  have okb := hP b hb
  have hδ : ∀ z, (fun c : Nat → Int64 => c (A k) - c (B k)) (fm_chi P z) = (if x = z then 1 else 0) - (if y = z then 1 else 0) := fun z => fm_d_in hx hy z
  have hδ0 : ∀ F : List Nat, (∀ z, z ∈ F → z ≠ x ∧ z ≠ y) → ∀ c, c ∈ F.map (fm_chi P) → (fun c : Nat → Int64 => c (A k) - c (B k)) c = 0 := by
    intro F hF c hc
    obtain ⟨z, hz, rfl⟩ := List.mem_map.mp hc
    rw [hδ, if_neg (fun e => (hF z hz).1 e.symm), if_neg (fun e => (hF z hz).2 e.symm)]; grind
  have hχ : ∀ F : List Nat, (∀ z, z ∈ F → z ≠ x ∧ z ≠ y) → F.map (fm_chi P') = F.map (fm_chi P) := by
    intro F hF
    refine List.map_congr_left (fun z hz => ?_)
    funext i
    unfold fm_chi
    rw [eP' i]
    have := hF z hz
    by_cases e : P i = y
    · rw [if_pos e, if_neg (fun q => this.1 q.symm), if_neg (fun q => this.2 (q.symm.trans e))]
    · rw [if_neg e]
  unfold fm_sep at hs
  by_cases kx : x ∈ K
  · have mx := (mK x).mp kx
    by_cases ky : y ∈ K
    · have my := (mK y).mp ky
      have p1 := List.perm_cons_erase kx
      have hye : y ∈ K.erase x := (List.Nodup.mem_erase_iff nK).mpr ⟨fun e => he e.symm, ky⟩
      have p2 := List.perm_cons_erase hye
      have n1 := List.Nodup.erase x nK
      have n2 := List.Nodup.erase y n1
      generalize hK0 : (K.erase x).erase y = K0 at p2 n2
      have m0 : ∀ z, z ∈ K0 ↔ z ≠ y ∧ z ≠ x ∧ z ∈ K := fun z => by
        rw [← hK0, List.Nodup.mem_erase_iff n1, List.Nodup.mem_erase_iff nK]
      have q0 : ∀ z, z ∈ K0 → z ≠ x ∧ z ≠ y := fun z hz => ⟨((m0 z).mp hz).2.1, ((m0 z).mp hz).1⟩
      have p3 : K.Perm (x :: y :: K0) := p1.trans (p2.cons x)
      have nx0 : (x :: K0).Nodup := List.nodup_cons.mpr ⟨fun z => (q0 x z).1 rfl, n2⟩
      have fa : P' a = P a := by rw [eP', if_neg (fun e => my.2.2.1 e.symm)]
      have fb : P' b = P b := by rw [eP', if_neg (fun e => my.2.2.2 e.symm)]
      have p4 : K'.Perm (x :: K0) := (List.perm_ext_iff_of_nodup nK' nx0).mpr (fun z => by
        rw [mK', List.mem_cons, m0, mK, fa, fb, eP']
        by_cases e : P z = y
        · rw [if_pos e]
          constructor
          · intro h; exact Or.inl h.2.1.symm
          · intro h
            rcases h with h | h
            · rw [h, okx.2] at e; exact absurd e he
            · exact absurd (h.2.2.2.1.symm.trans e) h.1
        · rw [if_neg e]
          constructor
          · intro h
            by_cases ez : z = x
            · exact Or.inl ez
            · exact Or.inr ⟨fun q => e (by rw [q]; exact oky.2), ez, h⟩
          · intro h
            rcases h with h | h
            · rw [h]; exact mx
            · exact h.2.2)
      have sp : fm_sep P' a b := by unfold fm_sep; rw [fa, fb]; exact hs
      refine ⟨?_, fun _ => by rw [p3.length_eq, p4.length_eq]; rfl⟩
      rw [if_pos sp, dG_perm _ (p3.map _), dG_perm _ (p3.map _), dG_perm _ (p4.map _)]
      simp only [List.map_cons]
      rw [hχ K0 q0]
      have ex : fm_chi P' x = fm_ad (fm_chi P x) (fm_chi P y) := by
        funext i
        show (if P' i = x then (1 : Int64) else 0) = (if P i = x then 1 else 0) + (if P i = y then 1 else 0)
        rw [eP' i]
        by_cases e : P i = y
        · rw [if_pos e, if_pos rfl, if_neg (fun q => he (q.symm.trans e)), if_pos e]; decide
        · rw [if_neg e, if_neg e]; grind
      rw [ex]
      refine dG_two fm_ad _ _ _ _ (fm_B_s A B W m k) (fm_B_r A B W m (k + 1)) (fm_B_l A B W m (k + 1)) _ _ _ (hδ0 K0 q0) ?_ ?_
      · rw [fm_d_in hx hy, if_pos rfl, if_neg (fun e => he e.symm)]; decide
      · have he' : ¬ y = x := fun e => he e.symm
        rw [fm_d_in hx hy, fm_d_in hx hy]
        simp only [he, he', if_true, if_false]
        decide
    · have p1 := List.perm_cons_erase kx
      have n1 := List.Nodup.erase x nK
      generalize hK0 : K.erase x = K0 at p1 n1
      have m0 : ∀ z, z ∈ K0 ↔ z ≠ x ∧ z ∈ K := fun z => by
        rw [← hK0, List.Nodup.mem_erase_iff nK]
      have q0 : ∀ z, z ∈ K0 → z ≠ x ∧ z ≠ y := fun z hz => ⟨((m0 z).mp hz).1, fun e => ky (e ▸ ((m0 z).mp hz).2)⟩
      have hyr : y = P a ∨ y = P b := Classical.byContradiction fun z => ky ((mK y).mpr ⟨oky.1, oky.2, fun e => z (Or.inl e), fun e => z (Or.inr e)⟩)
      have p4 : K'.Perm K0 := (List.perm_ext_iff_of_nodup nK' n1).mpr (fun z => by
        rw [mK', m0, mK, eP' z, eP' a, eP' b]
        have hm := mx
        constructor
        · intro h
          by_cases e : P z = y
          · rw [if_pos e] at h
            rcases hyr with q | q
            · rw [if_pos q.symm] at h; exact absurd h.2.1.symm h.2.2.1
            · rw [if_pos q.symm] at h; exact absurd h.2.1.symm h.2.2.2
          · rw [if_neg e] at h
            have hzy : z ≠ y := fun q => e (by rw [q]; exact oky.2)
            refine ⟨?_, h.1, h.2.1, ?_, ?_⟩
            · intro q
              rcases hyr with r | r
              · rw [if_pos r.symm] at h; exact h.2.2.1 q
              · rw [if_pos r.symm] at h; exact h.2.2.2 q
            · by_cases r : P a = y
              · rw [r]; exact hzy
              · have := h.2.2.1; rw [if_neg r] at this; exact this
            · by_cases r : P b = y
              · rw [r]; exact hzy
              · have := h.2.2.2; rw [if_neg r] at this; exact this
        · intro h
          have hzy : z ≠ y := by
            rcases hyr with r | r
            · rw [r]; exact h.2.2.2.1
            · rw [r]; exact h.2.2.2.2
          rw [if_neg (show ¬ P z = y by rw [h.2.2.1]; exact hzy)]
          refine ⟨h.2.1, h.2.2.1, ?_, ?_⟩
          · by_cases r : P a = y
            · rw [if_pos r]; exact h.1
            · rw [if_neg r]; exact h.2.2.2.1
          · by_cases r : P b = y
            · rw [if_pos r]; exact h.1
            · rw [if_neg r]; exact h.2.2.2.2)
      have sp : fm_sep P' a b := by
        rcases hs with r | r
        · exact Or.inl r
        · right
          rw [eP' a, eP' b]
          rcases hyr with q | q
          · rw [if_pos q.symm, if_neg (fun t => r (q.symm.trans t.symm))]; exact mx.2.2.2
          · rw [if_pos q.symm, if_neg (fun t => r (t.trans q))]; exact fun t => mx.2.2.1 t.symm
      refine ⟨?_, fun _ => by rw [p1.length_eq, p4.length_eq]; rfl⟩
      rw [if_pos sp, dG_perm _ (p1.map _), dG_perm _ (p1.map _), dG_perm _ (p4.map _), hχ K0 q0]
      simp only [List.map_cons]
      refine dG_one _ _ _ _ (fm_B_s A B W m k) _ _ (hδ0 K0 q0) ?_
      rw [fm_d_in hx hy, if_pos rfl, if_neg (fun e => he e.symm)]; decide
  · have hxr : x = P a ∨ x = P b := Classical.byContradiction fun z => kx ((mK x).mpr ⟨okx.1, okx.2, fun e => z (Or.inl e), fun e => z (Or.inr e)⟩)
    by_cases ky : y ∈ K
    · have my := (mK y).mp ky
      have p1 := List.perm_cons_erase ky
      have n1 := List.Nodup.erase y nK
      generalize hK0 : K.erase y = K0 at p1 n1
      have m0 : ∀ z, z ∈ K0 ↔ z ≠ y ∧ z ∈ K := fun z => by
        rw [← hK0, List.Nodup.mem_erase_iff nK]
      have q0 : ∀ z, z ∈ K0 → z ≠ x ∧ z ≠ y := fun z hz => ⟨fun e => kx (e ▸ ((m0 z).mp hz).2), ((m0 z).mp hz).1⟩
      have fa : P' a = P a := by rw [eP', if_neg (fun e => my.2.2.1 e.symm)]
      have fb : P' b = P b := by rw [eP', if_neg (fun e => my.2.2.2 e.symm)]
      have p4 : K'.Perm K0 := (List.perm_ext_iff_of_nodup nK' n1).mpr (fun z => by
        rw [mK', m0, mK, fa, fb, eP']
        by_cases e : P z = y
        · rw [if_pos e]
          constructor
          · intro h
            rcases hxr with r | r
            · exact absurd (h.2.1.symm.trans r) h.2.2.1
            · exact absurd (h.2.1.symm.trans r) h.2.2.2
          · intro h
            exact absurd (h.2.2.1.symm.trans e) h.1
        · rw [if_neg e]
          constructor
          · intro h
            exact ⟨fun q => e (by rw [q]; exact oky.2), h⟩
          · intro h
            exact h.2)
      have sp : fm_sep P' a b := by unfold fm_sep; rw [fa, fb]; exact hs
      refine ⟨?_, fun _ => by rw [p1.length_eq, p4.length_eq]; rfl⟩
      rw [if_pos sp, dG_perm _ (p1.map _), dG_perm _ (p1.map _), dG_perm _ (p4.map _), hχ K0 q0]
      simp only [List.map_cons]
      refine dG_one _ _ _ _ (fm_B_s A B W m k) _ _ (hδ0 K0 q0) ?_
      rw [fm_d_in hx hy, if_pos rfl, if_neg he]; decide
    · have hyr : y = P a ∨ y = P b := Classical.byContradiction fun z => ky ((mK y).mpr ⟨oky.1, oky.2, fun e => z (Or.inl e), fun e => z (Or.inr e)⟩)
      have ns : ¬ fm_sep P' a b := by
        rcases hs with r | r
        · subst r
          rcases hxr with u | u <;> rcases hyr with v | v <;> exact absurd (u.trans v.symm) he
        · intro t
          rcases t with t | t
          · exact r (by rw [t])
          · apply t
            rw [eP' a, eP' b]
            rcases hxr with u | u <;> rcases hyr with v | v
            · exact absurd (u.trans v.symm) he
            · rw [if_pos v.symm, if_neg (fun q => r (q.trans v)), u]
            · rw [if_pos v.symm, if_neg (fun q => r (v.symm.trans q.symm)), u]
            · exact absurd (u.trans v.symm) he
      refine ⟨?_, fun z => absurd z ns⟩
      rw [if_neg ns, dG_none _ _ _ _ (fm_B_s A B W m k) (K.map (fm_chi P)) (hδ0 K (fun z hz => ⟨fun e => kx (e ▸ hz), fun e => ky (e ▸ hz)⟩))]
      grind
/-! sums over sets -/
def isum (f : Nat → Int64) : Nat → Int64
  | 0 => 0
  | n + 1 => isum f n + f n
theorem isum_congr {f g : Nat → Int64} {n : Nat} (h : ∀ j, j < n → f j = g j) : isum f n = isum g n := by
  induction n with
  | zero => rfl
  | succ n ih => simp only [isum]; rw [ih (fun j hj => h j (by omega)), h n (by omega)]
theorem isum_split (f : Nat → Int64) (n m : Nat) : isum f (n + m) = isum f n + isum (fun i => f (n + i)) m := by
  induction m with
  | zero => simp only [isum, Nat.add_zero]; grind
  | succ m ih => rw [← Nat.add_assoc]; simp only [isum]; rw [ih]; grind
theorem isum_add (f g : Nat → Int64) (n : Nat) : isum (fun i => f i + g i) n = isum f n + isum g n := by
  induction n with
  | zero => simp only [isum]; grind
  | succ n ih => simp only [isum]; rw [ih]; grind
theorem isum_lN (f : Nat → Nat) (n : Nat) : isum (fun i => lN (f i)) n = lN (nsum f n) := by
  induction n with
  | zero => rfl
  | succ n ih => simp only [isum, nsum]; rw [ih, lN_add]
theorem fm_st_congr (A B W : Nat → Nat) (S S' : Nat) : ∀ k, (∀ j, j < k → S.testBit j = S'.testBit j) → fm_st A B W S k = fm_st A B W S' k := by
  intro k
  induction k with
  | zero => intro _; rfl
  | succ k ih =>
    intro h
    simp only [fm_st]
    rw [ih (fun j hj => h j (by omega)), h k (by omega)]
theorem fm_pc_congr (S S' : Nat) : ∀ k, (∀ j, j < k → S.testBit j = S'.testBit j) → nt_pc S k = nt_pc S' k := by
  intro k
  induction k with
  | zero => intro _; rfl
  | succ k ih =>
    intro h
    simp only [nt_pc]
    rw [ih (fun j hj => h j (by omega)), h k (by omega)]
theorem fm_st_ok (A B W : Nat → Nat) (S n m : Nat) (hn : ∀ j, j < m → A j < n ∧ B j < n) : ∀ k, k ≤ m → fm_ok n (fm_st A B W S k).2 := by
  intro k
  induction k with
  | zero => intro _ u hu; exact ⟨hu, rfl⟩
  | succ k ih =>
    intro hk
    have i := ih (by omega)
    simp only [fm_st]
    by_cases h1 : S.testBit k = true
    · rw [if_pos h1]
      by_cases h2 : (fm_st A B W S k).2 (A k) = (fm_st A B W S k).2 (B k)
      · rw [if_pos h2]; exact i
      · rw [if_neg h2]
        exact fm_ok_jn i (hn k (by omega)).1 (hn k (by omega)).2 h2
    · rw [if_neg h1]; exact i
def fm_nr (a b : Nat) : Nat := if a = b then 1 else 2
theorem fm_len0 (n a b : Nat) (ha : a < n) (hb : b < n) : (fm_K n (fun u => u) a b).length + fm_nr a b = n := by
  have nd := fm_nd n (fun u => u) a b
  have mm : ∀ z, z ∈ fm_K n (fun u => u) a b ↔ z < n ∧ z = z ∧ z ≠ a ∧ z ≠ b := fun z => fm_mem
  have ra : a ∈ List.range n := List.mem_range.mpr ha
  have n1 := List.Nodup.erase a (List.nodup_range (n := n))
  have l1 := List.length_erase_of_mem ra
  rw [List.length_range] at l1
  unfold fm_nr
  by_cases e : a = b
  · subst e
    have p : (fm_K n (fun u => u) a a).Perm ((List.range n).erase a) := (List.perm_ext_iff_of_nodup nd n1).mpr (fun z => by
      rw [mm, List.Nodup.mem_erase_iff List.nodup_range, List.mem_range]
      constructor
      · intro h; exact ⟨h.2.2.1, h.1⟩
      · intro h; exact ⟨h.2, rfl, h.1, h.1⟩)
    rw [p.length_eq, l1, if_pos rfl]; omega
  · have rb : b ∈ (List.range n).erase a := (List.Nodup.mem_erase_iff List.nodup_range).mpr ⟨fun q => e q.symm, List.mem_range.mpr hb⟩
    have n2 := List.Nodup.erase b n1
    have l2 := List.length_erase_of_mem rb
    have p : (fm_K n (fun u => u) a b).Perm (((List.range n).erase a).erase b) := (List.perm_ext_iff_of_nodup nd n2).mpr (fun z => by
      rw [mm, List.Nodup.mem_erase_iff n1, List.Nodup.mem_erase_iff List.nodup_range, List.mem_range]
      constructor
      · intro h; exact ⟨h.2.2.2, h.2.2.1, h.1⟩
      · intro h; exact ⟨h.2.2, rfl, h.2.1, h.1⟩)
    rw [p.length_eq, l2, l1, if_neg e]; omega
theorem fm_sep_back {P : Nat → Nat} {x y a b : Nat} (h : fm_sep (jn P x y) a b) : fm_sep P a b := by
  unfold fm_sep at *
  rcases h with h | h
  · exact Or.inl h
  · right; intro e; apply h; unfold jn; rw [e]
theorem fm_len (A B W : Nat → Nat) (S n m a b : Nat) (hn : ∀ j, j < m → A j < n ∧ B j < n) (ha : a < n) (hb : b < n) : ∀ k, k ≤ m → (fm_st A B W S k).1 ≠ 0 → fm_sep (fm_st A B W S k).2 a b → (fm_K n (fm_st A B W S k).2 a b).length + nt_pc S k + fm_nr a b = n := by
  intro k
  induction k with
  | zero =>
    intro _ _ _
    have := fm_len0 n a b ha hb
    show (fm_K n (fun u => u) a b).length + 0 + fm_nr a b = n
    omega
  | succ k ih =>
    intro hk hv hs
    have ok := fm_st_ok A B W S n m hn k (by omega)
    have ih := ih (by omega)
    simp only [fm_st] at hv hs ⊢
    simp only [nt_pc]
    by_cases h1 : S.testBit k = true
    · simp only [h1, if_true] at hv hs ⊢
      by_cases h2 : (fm_st A B W S k).2 (A k) = (fm_st A B W S k).2 (B k)
      · simp only [h2, if_true] at hv; exact absurd rfl hv
      · simp only [h2, if_false] at hv hs ⊢
        have hb' := fm_sep_back hs
        have i := ih (fun z => hv (by rw [z, Nat.zero_mul])) hb'
        have l := (fm_dc A B W m k n _ a b ok (hn k (by omega)).1 (hn k (by omega)).2 ha hb hb' h2).2 hs
        omega
    · simp only [h1] at hv hs ⊢
      have i := ih hv hs
      simp only [Bool.false_eq_true, if_false]
      omega
/-- what the choice S of the first k lines stands for -/
def fm_psi (A B W : Nat → Nat) (m n a b k S : Nat) : Int64 := if fm_sep (fm_st A B W S k).2 a b then lN (fm_st A B W S k).1 * dG (fm_B A B W m k) ((fm_K n (fm_st A B W S k).2 a b).map (fm_chi (fm_st A B W S k).2)) else 0
theorem fm_psi_step (A B W : Nat → Nat) (m n a b k S : Nat) (hn : ∀ j, j < m → A j < n ∧ B j < n) (ha : a < n) (hb : b < n) (hk : k < m) (hS : S < 2 ^ k) : fm_psi A B W m n a b k S = fm_psi A B W m n a b (k + 1) S + fm_psi A B W m n a b (k + 1) (2 ^ k + S) := by
  have t0 : S.testBit k = false := Nat.testBit_lt_two_pow hS
  have t1 : (2 ^ k + S).testBit k = true := by rw [Nat.testBit_two_pow_add_eq, t0]; rfl
  have c := fm_st_congr A B W (2 ^ k + S) S k (fun j hj => Nat.testBit_two_pow_add_gt hj S)
  have ok := fm_st_ok A B W S n m hn k (by omega)
  unfold fm_psi
  have e0 : fm_st A B W S (k + 1) = fm_st A B W S k := by
    simp only [fm_st]; rw [t0]; rfl
  have e1 : fm_st A B W (2 ^ k + S) (k + 1) = if (fm_st A B W S k).2 (A k) = (fm_st A B W S k).2 (B k) then (0, (fm_st A B W S k).2) else ((fm_st A B W S k).1 * W k, jn (fm_st A B W S k).2 (A k) (B k)) := by
    simp only [fm_st]; rw [t1, c]; rfl
  rw [e0, e1]
  generalize fm_st A B W S k = s at *
  obtain ⟨V, P⟩ := s
  dsimp only at *
  by_cases h2 : P (A k) = P (B k)
  · rw [if_pos h2]
    dsimp only
    by_cases h3 : fm_sep P a b
    · rw [if_pos h3, if_pos h3, if_pos h3, fm_dc0 A B W m k n P a b h2]
      show _ = _ + (0 : Int64) * _
      grind
    · rw [if_neg h3, if_neg h3, if_neg h3]; decide
  · rw [if_neg h2]
    dsimp only
    by_cases h3 : fm_sep P a b
    · rw [if_pos h3, if_pos h3, (fm_dc A B W m k n P a b ok (hn k hk).1 (hn k hk).2 ha hb h3 h2).1]
      by_cases h4 : fm_sep (jn P (A k) (B k)) a b
      · rw [if_pos h4, if_pos h4, ← lN_mul]; grind
      · rw [if_neg h4, if_neg h4]; grind
    · rw [if_neg h3, if_neg h3, if_neg (fun z => h3 (fm_sep_back z))]; decide
theorem fm_H (A B W : Nat → Nat) (m n a b : Nat) (hn : ∀ j, j < m → A j < n ∧ B j < n) (ha : a < n) (hb : b < n) : ∀ k, k ≤ m → isum (fm_psi A B W m n a b 0) 1 = isum (fm_psi A B W m n a b k) (2 ^ k) := by
  intro k
  induction k with
  | zero => intro _; rfl
  | succ k ih =>
    intro hk
    rw [ih (by omega), show 2 ^ (k + 1) = 2 ^ k + 2 ^ k by omega, isum_split, ← isum_add]
    exact isum_congr (fun S hS => fm_psi_step A B W m n a b k S hn ha hb (by omega) hS)
/-- what the set S gives -/
def fm_val (A B W : Nat → Nat) (m n a b S : Nat) : Nat := if nt_pc S m = n - fm_nr a b ∧ fm_sep (fm_st A B W S m).2 a b then (fm_st A B W S m).1 else 0
theorem dD_zero {C : Type} (l l' : List C) : dD (l.map (fun _ _ => (0 : Int64))) l' = if l = [] ∧ l' = [] then 1 else 0 := by
  cases l with
  | nil =>
    cases l' with
    | nil => rfl
    | cons c l' => rfl
  | cons r l =>
    show dE (fun _ => (0 : Int64)) _ l' = _
    rw [dE_0 _ _ _ (fun c _ => rfl), if_neg (fun z => by cases z.1)]
theorem fm_last (A B W : Nat → Nat) (m n a b S : Nat) (hn : ∀ j, j < m → A j < n ∧ B j < n) (ha : a < n) (hb : b < n) : fm_psi A B W m n a b m S = lN (fm_val A B W m n a b S) := by
  unfold fm_psi fm_val
  by_cases h : fm_sep (fm_st A B W S m).2 a b
  · rw [if_pos h]
    by_cases hv : (fm_st A B W S m).1 = 0
    · rw [hv]
      have : (if nt_pc S m = n - fm_nr a b ∧ fm_sep (fm_st A B W S m).2 a b then 0 else 0) = 0 := by split <;> rfl
      rw [this]
      show (0 : Int64) * _ = 0
      grind
    · have l := fm_len A B W S n m a b hn ha hb m (Nat.le_refl m) hv h
      have e : fm_B A B W m m = fun _ _ => 0 := by
        funext c c'; unfold fm_B; grind
      unfold dG
      rw [e, dD_zero]
      by_cases h2 : nt_pc S m = n - fm_nr a b
      · have : (fm_K n (fm_st A B W S m).2 a b) = [] := List.length_eq_zero_iff.mp (by omega)
        rw [this, if_pos ⟨rfl, rfl⟩, if_pos ⟨h2, h⟩]; grind
      · have : (fm_K n (fm_st A B W S m).2 a b) ≠ [] := fun z => by
          rw [z] at l
          have : nt_pc S m + fm_nr a b = n := by simpa using l
          omega
        rw [if_neg (fun z => this (by simpa using z.1)), if_neg (fun z => h2 z.1)]
        show _ * (0 : Int64) = 0
        grind
  · rw [if_neg h, if_neg (fun z => h z.2)]; rfl
/-- the products of all sets together are one determinant -/
theorem fm_main (A B W : Nat → Nat) (m n a b : Nat) (hn : ∀ j, j < m → A j < n ∧ B j < n) (ha : a < n) (hb : b < n) : dG (fm_B A B W m 0) ((fm_K n (fun u => u) a b).map (fm_chi (fun u => u))) = lN (nsum (fm_val A B W m n a b) (2 ^ m)) := by
  have h := fm_H A B W m n a b hn ha hb m (Nat.le_refl m)
  rw [isum_congr (g := fun S => lN (fm_val A B W m n a b S)) (fun S _ => fm_last A B W m n a b S hn ha hb), isum_lN] at h
  rw [← h]
  show _ = 0 + fm_psi A B W m n a b 0 0
  unfold fm_psi
  have hs : fm_sep (fm_st A B W 0 0).2 a b := by
    show a = b ∨ a ≠ b
    omega
  rw [if_pos hs]
  show _ = 0 + 1 * dG (fm_B A B W m 0) ((fm_K n (fun u => u) a b).map (fm_chi (fun u => u)))
  grind
theorem fm_st_le (A B W : Nat → Nat) (m S : Nat) (hW : ∀ j, j < m → W j ≤ 60) : ∀ k, k ≤ m → (fm_st A B W S k).1 ≤ 60 ^ nt_pc S k := by
  intro k
  induction k with
  | zero => intro _; exact Nat.le_refl 1
  | succ k ih =>
    intro hk
    have i := ih (by omega)
    have w := hW k (by omega)
    simp only [fm_st, nt_pc]
    by_cases h1 : S.testBit k = true
    · simp only [h1, if_true]
      by_cases h2 : (fm_st A B W S k).2 (A k) = (fm_st A B W S k).2 (B k)
      · simp only [h2, if_true]; exact Nat.zero_le _
      · simp only [h2, if_false]
        rw [Nat.pow_succ]
        exact Nat.mul_le_mul i w
    · simp only [h1, Bool.false_eq_true, if_false]; exact i
