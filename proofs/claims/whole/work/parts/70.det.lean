/-! ===== determinants, over the long numbers ===== -/
/-- a row laid over a list of columns -/
def dE {C : Type} (v : C → Int64) (g : List C → Int64) : List C → Int64
  | [] => 0
  | c :: cs => v c * g cs - dE v (fun l => g (c :: l)) cs
/-- the determinant of rows over columns -/
def dD {C : Type} : List (C → Int64) → List C → Int64
  | [] => fun l => match l with
    | [] => 1
    | _ :: _ => 0
  | r :: rs => dE r (dD rs)
theorem dE_v {C : Type} (v u : C → Int64) (a b : Int64) (g : List C → Int64) (l : List C) : dE (fun c => a * v c + b * u c) g l = a * dE v g l + b * dE u g l := by
  induction l generalizing g with
  | nil => simp only [dE]; grind
  | cons c cs ih => simp only [dE]; rw [ih]; grind
theorem dE_g {C : Type} (v : C → Int64) (a b : Int64) (g h : List C → Int64) (l : List C) : dE v (fun l => a * g l + b * h l) l = a * dE v g l + b * dE v h l := by
  induction l generalizing g h with
  | nil => simp only [dE]; grind
  | cons c cs ih => simp only [dE]; rw [ih]; grind
theorem dE_com {C : Type} (v u : C → Int64) (g : List C → Int64) (l : List C) : dE v (dE u g) l = - dE u (dE v g) l := by
  induction l generalizing g with
  | nil => simp only [dE]; grind
  | cons c cs ih =>
    simp only [dE]
    have h1 := dE_g v (u c) (-1) g (dE u (fun l => g (c :: l))) cs
    have h2 := dE_g u (v c) (-1) g (dE v (fun l => g (c :: l))) cs
    have h3 := ih (fun l => g (c :: l))
    have e1 : (fun l => u c * g l - dE u (fun l => g (c :: l)) l) = fun l => u c * g l + -1 * dE u (fun l => g (c :: l)) l := by funext l; grind
    have e2 : (fun l => v c * g l - dE v (fun l => g (c :: l)) l) = fun l => v c * g l + -1 * dE v (fun l => g (c :: l)) l := by funext l; grind
    rw [e1, e2, h1, h2, h3]; grind
theorem dE_self {C : Type} (v : C → Int64) (g : List C → Int64) (l : List C) : dE v (dE v g) l = 0 := by
  induction l generalizing g with
  | nil => rfl
  | cons c cs ih =>
    simp only [dE]
    have h1 := dE_g v (v c) (-1) g (dE v (fun l => g (c :: l))) cs
    have h3 := ih (fun l => g (c :: l))
    have e1 : (fun l => v c * g l - dE v (fun l => g (c :: l)) l) = fun l => v c * g l + -1 * dE v (fun l => g (c :: l)) l := by funext l; grind
    rw [e1, h1, h3]; grind
theorem dE_0 {C : Type} (v : C → Int64) (g : List C → Int64) (l : List C) (h : ∀ c, c ∈ l → v c = 0) : dE v g l = 0 := by
  induction l generalizing g with
  | nil => rfl
  | cons c cs ih =>
    simp only [dE]
    rw [ih _ (fun c hc => h c (by simp [hc])), h c (by simp)]; grind
theorem dE_cv {C : Type} (v u : C → Int64) (g : List C → Int64) (l : List C) (h : ∀ c, c ∈ l → v c = u c) : dE v g l = dE u g l := by
  induction l generalizing g with
  | nil => rfl
  | cons c cs ih =>
    simp only [dE]
    rw [ih _ (fun c hc => h c (by simp [hc])), h c (by simp)]
/-- changes its sign where two neighbouring columns change places -/
def dAlt {C : Type} (g : List C → Int64) : Prop := ∀ p x y s, g (p ++ x :: y :: s) = - g (p ++ y :: x :: s)
theorem dAlt_E {C : Type} (v : C → Int64) (g : List C → Int64) (h : dAlt g) : dAlt (dE v g) := by
  intro p
  induction p generalizing g with
  | nil =>
    intro x y s
    simp only [List.nil_append, dE]
    have e : (fun l => g (y :: x :: l)) = fun l => (-1) * g (x :: y :: l) + 0 * g l := by
      funext l
      have := h [] y x l
      simp only [List.nil_append] at this
      rw [this]; grind
    rw [e, dE_g]; grind
  | cons c p ih =>
    intro x y s
    simp only [List.cons_append, dE]
    rw [ih (fun l => g (c :: l)) (fun p x y s => h (c :: p) x y s) x y s, h p x y s]; grind
theorem dAlt_D {C : Type} (rs : List (C → Int64)) : dAlt (dD rs) := by
  induction rs with
  | nil =>
    intro p x y s
    cases p with
    | nil => show (0 : Int64) = -0; decide
    | cons c p => show (0 : Int64) = -0; decide
  | cons r rs ih => exact dAlt_E r _ ih
/-- two neighbouring rows -/
theorem dD_rows {C : Type} (P : List (C → Int64)) (r r' : C → Int64) (R : List (C → Int64)) (l : List C) : dD (P ++ r :: r' :: R) l = - dD (P ++ r' :: r :: R) l := by
  induction P generalizing l with
  | nil => exact dE_com r r' _ l
  | cons q P ih =>
    show dE q (dD (P ++ r :: r' :: R)) l = - dE q (dD (P ++ r' :: r :: R)) l
    have e : dD (P ++ r :: r' :: R) = fun l => (-1) * dD (P ++ r' :: r :: R) l + 0 * dD (P ++ r' :: r :: R) l := by
      funext l; rw [ih l]; grind
    rw [e, dE_g]; grind
/-- rows and columns by one list -/
def dG {C : Type} (ρ : C → C → Int64) (l : List C) : Int64 := dD (l.map ρ) l
theorem dG_swap {C : Type} (ρ : C → C → Int64) (p : List C) (x y : C) (s : List C) : dG ρ (p ++ x :: y :: s) = dG ρ (p ++ y :: x :: s) := by
  unfold dG
  rw [dAlt_D _ p x y s]
  simp only [List.map_append, List.map_cons]
  rw [dD_rows]; grind
theorem dG_perm' {C : Type} (ρ : C → C → Int64) {l l' : List C} (h : l.Perm l') : ∀ p, dG ρ (p ++ l) = dG ρ (p ++ l') := by
  induction h with
  | nil => intro p; rfl
  | cons x _ ih =>
    intro p
    have := ih (p ++ [x])
    simpa using this
  | swap x y l => intro p; exact dG_swap ρ p y x l
  | trans _ _ i1 i2 => intro p; rw [i1, i2]
theorem dG_perm {C : Type} (ρ : C → C → Int64) {l l' : List C} (h : l.Perm l') : dG ρ l = dG ρ l' := dG_perm' ρ h []
/-- columns are added -/
def dAdd {C : Type} (ad : C → C → C) (g : List C → Int64) : Prop := ∀ c c' l, g (ad c c' :: l) = g (c :: l) + g (c' :: l)
theorem dAdd_D {C : Type} (ad : C → C → C) (rs : List (C → Int64)) (h : ∀ r, r ∈ rs → ∀ c c', r (ad c c') = r c + r c') : dAdd ad (dD rs) := by
  induction rs with
  | nil => intro c c' l; rfl
  | cons r rs ih =>
    have i := ih (fun r hr => h r (by simp [hr]))
    intro c c' l
    show r (ad c c') * dD rs l - dE r (fun l => dD rs (ad c c' :: l)) l = (r c * dD rs l - dE r (fun l => dD rs (c :: l)) l) + (r c' * dD rs l - dE r (fun l => dD rs (c' :: l)) l)
    have e : (fun l => dD rs (ad c c' :: l)) = fun l => 1 * dD rs (c :: l) + 1 * dD rs (c' :: l) := by
      funext l; rw [i c c' l]; grind
    rw [e, dE_g, h r (by simp)]; grind
/-- a line that touches one of the classes -/
theorem dG_one {C : Type} (ρ ρ' : C → C → Int64) (δ : C → Int64) (w : Int64) (hρ : ∀ c c', ρ c c' = ρ' c c' + w * δ c * δ c') (f : C) (F : List C) (hF : ∀ c, c ∈ F → δ c = 0) (hf : δ f * δ f = 1) : dG ρ (f :: F) = dG ρ' (f :: F) + w * dG ρ' F := by
  have e0 : F.map ρ = F.map ρ' := List.map_congr_left (fun c hc => by
    funext c'
    rw [hρ, hF c hc]; grind)
  show dE (ρ f) (dD (F.map ρ)) (f :: F) = dE (ρ' f) (dD (F.map ρ')) (f :: F) + w * dD (F.map ρ') F
  rw [e0]
  have e1 : ρ f = fun c => 1 * ρ' f c + (w * δ f) * δ c := by funext c; rw [hρ]; grind
  rw [e1, dE_v]
  have e2 : dE δ (dD (F.map ρ')) (f :: F) = δ f * dD (F.map ρ') F := by
    simp only [dE]
    rw [dE_0 δ _ F hF]; grind
  rw [e2]; grind
/-- a line that touches none -/
theorem dG_none {C : Type} (ρ ρ' : C → C → Int64) (δ : C → Int64) (w : Int64) (hρ : ∀ c c', ρ c c' = ρ' c c' + w * δ c * δ c') (F : List C) (hF : ∀ c, c ∈ F → δ c = 0) : dG ρ F = dG ρ' F := by
  have e0 : F.map ρ = F.map ρ' := List.map_congr_left (fun c hc => by
    funext c'
    rw [hρ, hF c hc]; grind)
  unfold dG
  rw [e0]
/-- a line between two of the classes -/
theorem dG_two {C : Type} (ad : C → C → C) (ρ ρ' : C → C → Int64) (δ : C → Int64) (w : Int64) (hρ : ∀ c c', ρ c c' = ρ' c c' + w * δ c * δ c') (hr : ∀ r c c', ρ' r (ad c c') = ρ' r c + ρ' r c') (hl : ∀ r r' c, ρ' (ad r r') c = ρ' r c + ρ' r' c) (x y : C) (F : List C) (hF : ∀ c, c ∈ F → δ c = 0) (hx : δ x * δ x = 1) (hy : δ y = - δ x) : dG ρ (x :: y :: F) = dG ρ' (x :: y :: F) + w * dG ρ' (ad x y :: F) := by
  have e0 : F.map ρ = F.map ρ' := List.map_congr_left (fun c hc => by
    funext c'
    rw [hρ, hF c hc]; grind)
  show dE (ρ x) (dE (ρ y) (dD (F.map ρ))) (x :: y :: F) = dE (ρ' x) (dE (ρ' y) (dD (F.map ρ'))) (x :: y :: F) + w * dE (ρ' (ad x y)) (dD (F.map ρ')) (ad x y :: F)
  rw [e0]
  have ex : ρ x = fun c => 1 * ρ' x c + (w * δ x) * δ c := by funext c; rw [hρ]; grind
  have ey : ρ y = fun c => 1 * ρ' y c + (-(w * δ x)) * δ c := by funext c; rw [hρ, hy]; grind
  have ea : ρ' (ad x y) = fun c => 1 * ρ' x c + 1 * ρ' y c := by funext c; rw [hl]; grind
  have ga : dE (ρ' (ad x y)) (dD (F.map ρ')) (ad x y :: F) = dE (ρ' (ad x y)) (dD (F.map ρ')) (x :: F) + dE (ρ' (ad x y)) (dD (F.map ρ')) (y :: F) := dAdd_D ad (ρ' (ad x y) :: F.map ρ') (fun r hm c c' => by
    have : ∃ z, ρ' z = r := by
      simp only [List.mem_cons, List.mem_map] at hm
      rcases hm with h | ⟨z, _, h⟩
      · exact ⟨_, h.symm⟩
      · exact ⟨z, h⟩
    obtain ⟨z, rfl⟩ := this
    exact hr z c c') x y F
  rw [ga]
  generalize dD (F.map ρ') = g at *
  have e1 : dE (ρ y) g = fun l => 1 * dE (ρ' y) g l + (-(w * δ x)) * dE δ g l := by
    funext l; rw [ey, dE_v]
  rw [e1, dE_g, ex, dE_v, dE_v]
  have k1 : dE δ (dE δ g) (x :: y :: F) = 0 := dE_self δ g _
  have k2 : dE (ρ' x) (dE δ g) (x :: y :: F) = - dE δ (dE (ρ' x) g) (x :: y :: F) := dE_com _ _ g _
  have k3 : dE δ (dE (ρ' x) g) (x :: y :: F) = δ x * dE (ρ' x) g (y :: F) - δ y * dE (ρ' x) g (x :: F) := by
    show δ x * dE (ρ' x) g (y :: F) - (δ y * dE (ρ' x) g (x :: F) - dE δ _ F) = _
    rw [dE_0 δ _ F hF]; grind
  have k4 : dE δ (dE (ρ' y) g) (x :: y :: F) = δ x * dE (ρ' y) g (y :: F) - δ y * dE (ρ' y) g (x :: F) := by
    show δ x * dE (ρ' y) g (y :: F) - (δ y * dE (ρ' y) g (x :: F) - dE δ _ F) = _
    rw [dE_0 δ _ F hF]; grind
  have k5 : ∀ l, dE (ρ' (ad x y)) g l = dE (ρ' x) g l + dE (ρ' y) g l := by
    intro l; rw [ea, dE_v]; grind
  rw [k1, k2, k3, k4, k5, k5, hy]
  grind
