/-! ===== finite lengths are small; how many lines a set needs that joins all ===== -/
theorem nsum_lt {g h : Nat → Nat} {n j0 : Nat} (hle : ∀ j, j < n → g j ≤ h j) (h0 : j0 < n) (hlt : g j0 < h j0) : nsum g n < nsum h n := by
  induction n with
  | zero => omega
  | succ n ih =>
    show nsum g n + g n < nsum h n + h n
    have hn := hle n (by omega)
    have hm : nsum g n ≤ nsum h n := by
      clear ih h0 hlt
      induction n with
      | zero => exact Nat.le_refl 0
      | succ n ih2 =>
        show nsum g n + g n ≤ nsum h n + h n
        have := ih2 (fun j hj => hle j (by omega)) (hle n (by omega))
        have := hle n (by omega)
        omega
    rcases (show j0 < n ∨ j0 = n by omega) with z | z
    · have := ih (fun j hj => hle j (by omega)) z
      omega
    · subst z; omega
/-- how many below n have p -/
noncomputable def cp (p : Nat → Prop) (n : Nat) : Nat := nsum (fun l => @ite Nat (p l) (Classical.propDecidable _) 1 0) n
theorem cp_le (p : Nat → Prop) (n : Nat) : cp p n ≤ n := by
  unfold cp
  have := nsum_le (f := fun l => @ite Nat (p l) (Classical.propDecidable _) 1 0) (c := 1) (m := n) (fun j _ => by
    show (@ite Nat (p j) (Classical.propDecidable _) 1 0) ≤ 1
    split <;> omega)
  omega
theorem cp_add1 {p q : Nat → Prop} {l0 n : Nat} (h : ∀ l, q l → p l ∨ l = l0) : cp q n ≤ cp p n + 1 ∧ (n ≤ l0 → cp q n ≤ cp p n) := by
  induction n with
  | zero => exact ⟨by unfold cp nsum; omega, fun _ => Nat.le_refl _⟩
  | succ n ih =>
    obtain ⟨i1, i2⟩ := ih
    have e1 : cp q (n + 1) = cp q n + @ite Nat (q n) (Classical.propDecidable _) 1 0 := rfl
    have e2 : cp p (n + 1) = cp p n + @ite Nat (p n) (Classical.propDecidable _) 1 0 := rfl
    rw [e1, e2]
    by_cases hq : q n
    · rw [if_pos hq]
      rcases h n hq with hp | hp
      · rw [if_pos hp]
        exact ⟨by omega, fun z => by have := i2 (by omega); omega⟩
      · subst hp
        have := i2 (Nat.le_refl n)
        refine ⟨?_, fun z => by omega⟩
        split <;> omega
    · rw [if_neg hq]
      refine ⟨?_, fun z => ?_⟩
      · split <;> omega
      · have := i2 (by omega)
        split <;> omega
theorem cp_lt {p q : Nat → Prop} {l0 n : Nat} (h : ∀ l, q l → p l) (hp : p l0) (hq : ¬ q l0) (hl : l0 < n) : cp q n + 1 ≤ cp p n := by
  unfold cp
  apply nsum_lt (j0 := l0) _ hl
  · show (@ite Nat (q l0) (Classical.propDecidable _) 1 0) < (@ite Nat (p l0) (Classical.propDecidable _) 1 0)
    rw [if_neg hq, if_pos hp]; omega
  · intro j _
    show (@ite Nat (q j) (Classical.propDecidable _) 1 0) ≤ (@ite Nat (p j) (Classical.propDecidable _) 1 0)
    by_cases e : q j
    · rw [if_pos e, if_pos (h j e)]; omega
    · rw [if_neg e]; omega
theorem cp_img {p : Nat → Prop} {g : Nat → Nat} {N : Nat} : ∀ k, cp (fun l => ∃ x, x < k ∧ p x ∧ g x = l) N ≤ cp p k := by
  intro k
  induction k with
  | zero =>
    have h : cp (fun l => ∃ x, x < 0 ∧ p x ∧ g x = l) N = 0 := by
      unfold cp
      have := nsum_le (f := fun l => @ite Nat (∃ x, x < 0 ∧ p x ∧ g x = l) (Classical.propDecidable _) 1 0) (c := 0) (m := N) (fun j _ => by
        show (@ite Nat (∃ x, x < 0 ∧ p x ∧ g x = j) (Classical.propDecidable _) 1 0) ≤ 0
        rw [if_neg (fun ⟨x, hx, _⟩ => by omega)]; omega)
      rw [Nat.zero_mul] at this
      exact Nat.le_zero.mp this
    omega
  | succ k ih =>
    have e2 : cp p (k + 1) = cp p k + @ite Nat (p k) (Classical.propDecidable _) 1 0 := rfl
    rw [e2]
    by_cases hp : p k
    · rw [if_pos hp]
      have := (cp_add1 (p := fun l => ∃ x, x < k ∧ p x ∧ g x = l) (q := fun l => ∃ x, x < k + 1 ∧ p x ∧ g x = l) (l0 := g k) (n := N) (fun l ⟨x, h1, h2, h3⟩ => by
        rcases (show x < k ∨ x = k by omega) with z | z
        · exact Or.inl ⟨x, z, h2, h3⟩
        · subst z; exact Or.inr h3.symm)).1
      omega
    · rw [if_neg hp]
      have := (cp_add1 (p := fun l => ∃ x, x < k ∧ p x ∧ g x = l) (q := fun l => ∃ x, x < k + 1 ∧ p x ∧ g x = l) (l0 := N) (n := N) (fun l ⟨x, h1, h2, h3⟩ => by
        rcases (show x < k ∨ x = k by omega) with z | z
        · exact Or.inl ⟨x, z, h2, h3⟩
        · subst z; exact absurd h2 hp)).2 (Nat.le_refl N)
      omega
/-- the labels in use -/
def im (P : Nat → Nat) (n l : Nat) : Prop := ∃ u, u < n ∧ P u = l
theorem im_factor {P Q : Nat → Nat} {n : Nat} (hP : ∀ u, u < n → P u < 7) (h : ∀ u v, u < n → v < n → P u = P v → Q u = Q v) : cp (im Q n) 7 ≤ cp (im P n) 7 := by
  have hg : ∃ g : Nat → Nat, ∀ u, u < n → g (P u) = Q u := by
    refine ⟨fun l => @dite Nat (im P n l) (Classical.propDecidable _) (fun hl => Q hl.choose) (fun _ => 0), fun u hu => ?_⟩
    have hl : im P n (P u) := ⟨u, hu, rfl⟩
    show (@dite Nat (im P n (P u)) (Classical.propDecidable _) (fun hl => Q hl.choose) (fun _ => 0)) = Q u
    rw [dif_pos hl]
    exact h _ _ hl.choose_spec.1 hu hl.choose_spec.2
  obtain ⟨g, hg⟩ := hg
  have h1 := cp_img (p := im P n) (g := g) (N := 7) 7
  refine Nat.le_trans ?_ h1
  have := (cp_add1 (p := fun l => ∃ x, x < 7 ∧ im P n x ∧ g x = l) (q := im Q n) (l0 := 7) (n := 7) (fun l ⟨u, hu, hl⟩ => Or.inl ⟨P u, hP u hu, ⟨u, hu, rfl⟩, by rw [hg u hu, hl]⟩)).2 (Nat.le_refl 7)
  exact this
theorem im_join1 {P : Nat → Nat} {n a b : Nat} (ha : a < n) (hb : b < n) (hl : P b < 7) (hne : P a ≠ P b) : cp (im (jn P a b) n) 7 + 1 ≤ cp (im P n) 7 := by
  refine cp_lt (l0 := P b) (fun l ⟨u, hu, e⟩ => ?_) ⟨b, hb, rfl⟩ (fun ⟨u, hu, e⟩ => ?_) hl
  · unfold jn at e
    split at e
    · exact ⟨a, ha, e⟩
    · exact ⟨u, hu, e⟩
  · unfold jn at e
    split at e
    · exact hne e
    · next c => exact c e
theorem im_join2 {P : Nat → Nat} {n a b : Nat} : cp (im P n) 7 ≤ cp (im (jn P a b) n) 7 + 1 := by
  refine (cp_add1 (l0 := P b) (fun l ⟨u, hu, e⟩ => ?_)).1
  by_cases c : P u = P b
  · right; rw [← e, c]
  · left
    refine ⟨u, hu, ?_⟩
    unfold jn
    rw [if_neg c, e]
section RNK
variable {n m : Nat} {A B w k : Nat → Nat}
/-- finite lengths are at most 63 -/
theorem nt_d_63 (hok : nt_ok n m A B w k) (S : Nat) {i j : Nat} (hi : i < n) (hj : j < n) (hfin : nt_d A B w S m i j < nt_inf) : nt_d A B w S m i j ≤ 63 := by
  have hn := nt_ends hok
  have hD := nt_d_pm (w := w) hn S m (Nat.le_refl m)
  have hL := nt_d_line (w := w) (S := S) hn m (Nat.le_refl m)
  have hgr := fun E (hE : pmn n nt_inf E) hw => nt_d_great (w := w) (S := S) hn (E := E) hE hw m (Nat.le_refl m)
  have h7 := hok.1.2.1
  have hw9 := fun q (hq : q < m) => (hok.2 q hq).2.2.2.1
  have hinf : nt_inf = 1000000 := rfl
  generalize nt_d A B w S m = D at *
  -- between c and c + 9 there is a node, or beyond c all is endless
  have gap : ∀ c, c ≤ 100 → (∃ x, x < n ∧ c < D i x ∧ D i x ≤ c + 9) ∨ ∀ x, x < n → c < D i x → D i x = nt_inf := by
    intro c hc
    by_cases he : ∃ x, x < n ∧ c < D i x ∧ D i x ≤ c + 9
    · exact Or.inl he
    · right
      intro x hx hcx
      have hno : ∀ y, y < n → c < D i y → c + 9 < D i y := fun y hy hcy => by
        rcases Nat.lt_or_ge (c + 9) (D i y) with z | z
        · exact z
        · exact absurd ⟨y, hy, hcy, z⟩ he
      have hE : pmn n nt_inf (fun x y => if (D i x ≤ c ↔ D i y ≤ c) then D x y else nt_inf) := by
        refine ⟨fun x hx => ?_, fun x y hx hy => ?_, fun x y z hx hy hz => ?_, fun x y hx hy => ?_⟩
        · show (if _ then _ else _) = 0
          rw [if_pos Iff.rfl]; exact hD.1 x hx
        · show (if _ then _ else _) = (if _ then _ else _)
          by_cases e : D i x ≤ c ↔ D i y ≤ c
          · rw [if_pos e, if_pos e.symm]; exact hD.2.1 x y hx hy
          · rw [if_neg e, if_neg (fun z => e z.symm)]
        · show (if _ then _ else _) ≤ (if _ then _ else _) + (if _ then _ else _)
          have t := hD.2.2.1 x y z hx hy hz
          have l := hD.2.2.2 x z hx hz
          by_cases e1 : D i x ≤ c ↔ D i y ≤ c
          · by_cases e2 : D i y ≤ c ↔ D i z ≤ c
            · rw [if_pos e1, if_pos e2, if_pos (e1.trans e2)]; exact t
            · rw [if_neg e2]; split <;> omega
          · rw [if_neg e1]; split <;> omega
        · show (if _ then _ else _) ≤ _
          have := hD.2.2.2 x y hx hy
          split <;> omega
      have hle := hgr _ hE (fun q hq hb => by
        show (if _ then _ else _) ≤ _
        obtain ⟨a1, a2⟩ := hn q hq
        have l1 := hL q hq hb
        have l2 := hw9 q hq
        have t1 := hD.2.2.1 i (A q) (B q) hi a1 a2
        have t2 := hD.2.2.1 i (B q) (A q) hi a2 a1
        have sy := hD.2.1 (A q) (B q) a1 a2
        have n1 := hno (A q) a1
        have n2 := hno (B q) a2
        rw [if_pos (by omega)]
        exact l1) i x hi hx
      have hle' : (if (D i i ≤ c ↔ D i x ≤ c) then D i x else nt_inf) ≤ D i x := hle
      have d0 := hD.1 i hi
      rw [if_neg (by omega)] at hle'
      have := hD.2.2.2 i x hi hx
      omega
  have grow : ∀ t, t ≤ 7 → (t + 1 ≤ cp (fun x => D i x ≤ 9 * t) n) ∨ ∀ x, x < n → D i x ≤ 9 * t ∨ D i x = nt_inf := by
    intro t
    induction t with
    | zero =>
      intro _
      left
      have d0 := hD.1 i hi
      have h1 := cp_lt (p := fun x => D i x ≤ 9 * 0) (q := fun _ => False) (l0 := i) (n := n) (fun _ z => z.elim) (by show D i i ≤ 0; omega) (fun z => z) hi
      omega
    | succ t ih =>
      intro ht
      rcases ih (by omega) with z | z
      · rcases gap (9 * t) (by omega) with ⟨x, hx, h1, h2⟩ | h1
        · left
          have h3 := cp_lt (p := fun x => D i x ≤ 9 * (t + 1)) (q := fun x => D i x ≤ 9 * t) (l0 := x) (n := n) (fun l hl => by show D i l ≤ 9 * (t + 1); omega) (by show D i x ≤ 9 * (t + 1); omega) (by omega) hx
          omega
        · right
          intro x hx
          rcases Nat.lt_or_ge (9 * t) (D i x) with y | y
          · exact Or.inr (h1 x hx y)
          · left; omega
      · right
        intro x hx
        have := z x hx
        omega
  rcases grow 7 (Nat.le_refl 7) with z | z
  · have := cp_le (fun x => D i x ≤ 9 * 7) n
    omega
  · have := z j hj
    omega
/-- the labels when all lines of S below j are joined -/
def ps (A B : Nat → Nat) (S : Nat) : Nat → Nat → Nat
  | 0 => fun u => u
  | j + 1 => if S.testBit j = true then jn (ps A B S j) (A j) (B j) else ps A B S j
theorem jn_ab (P : Nat → Nat) (a b : Nat) : jn P a b a = jn P a b b := by
  unfold jn
  rw [if_pos rfl]
  split <;> rfl
theorem jn_eq {P : Nat → Nat} {u v : Nat} (a b : Nat) (h : P u = P v) : jn P a b u = jn P a b v := by
  unfold jn
  rw [h]
theorem ps_line {S : Nat} : ∀ l, l ≤ m → ∀ q, q < l → S.testBit q = true → ps A B S l (A q) = ps A B S l (B q) := by
  intro l
  induction l with
  | zero => intro _ q hq; omega
  | succ l ih =>
    intro hl q hq hb
    show (if S.testBit l = true then _ else _ : Nat → Nat) (A q) = (if S.testBit l = true then _ else _ : Nat → Nat) (B q)
    rcases (show q < l ∨ q = l by omega) with z | z
    · split
      · exact jn_eq _ _ (ih (by omega) q z hb)
      · exact ih (by omega) q z hb
    · subst z
      rw [if_pos hb]
      exact jn_ab _ _ _
theorem ps_cp {S : Nat} : ∀ l, cp (im (fun u => u) n) 7 ≤ cp (im (ps A B S l) n) 7 + nt_pc S l := by
  intro l
  induction l with
  | zero => exact Nat.le_refl _
  | succ l ih =>
    have e : nt_pc S (l + 1) = nt_pc S l + (if S.testBit l then 1 else 0) := rfl
    have e2 : ps A B S (l + 1) = if S.testBit l = true then jn (ps A B S l) (A l) (B l) else ps A B S l := rfl
    rw [e, e2]
    by_cases hb : S.testBit l = true
    · rw [if_pos hb, if_pos hb]
      have := im_join2 (P := ps A B S l) (n := n) (a := A l) (b := B l)
      omega
    · rw [if_neg hb, if_neg hb]
      omega
/-- what is joined by the first forest has a way -/
theorem fr_way (hok : nt_ok n m A B w k) {F : Nat → Nat} {f : Nat} : ∀ i, i ≤ m → (∀ u v, u < n → v < n → (fr_rd jn A B f F i).2.1 u = (fr_rd jn A B f F i).2.1 v → nt_d A B w (2 ^ m - 1) m u v < nt_inf) ∧ cp (im (fr_rd jn A B f F i).2.1 n) 7 + (fr_rd jn A B f F i).2.2 ≤ cp (im (fun u => u) n) 7 := by
  have hn := nt_ends hok
  have hD := nt_d_pm (w := w) hn (2 ^ m - 1) m (Nat.le_refl m)
  have hinf : nt_inf = 1000000 := rfl
  have h7 := hok.1.2.1
  intro i
  induction i with
  | zero =>
    intro _
    refine ⟨fun u v hu hv e => ?_, Nat.le_refl _⟩
    have e : u = v := e
    subst e
    rw [hD.1 u hu]; omega
  | succ i ih =>
    intro hi
    obtain ⟨h1, h2⟩ := ih (by omega)
    obtain ⟨a1, a2⟩ := hn i (by omega)
    have hlab := fr_lab (J := jn) jn_3 (F := F) (f := f) h7 hn i (by omega)
    have hline := nt_d_line (w := w) (S := 2 ^ m - 1) hn m (Nat.le_refl m) i (by omega) (by rw [Nat.testBit_two_pow_sub_one]; simp; omega)
    have hw9 := (hok.2 i (by omega)).2.2.2.1
    have est : fr_rd jn A B f F (i + 1) = fr_step jn A B f (fr_rd jn A B f F i) i := rfl
    rw [est]
    generalize fr_rd jn A B f F i = s at *
    unfold fr_step
    by_cases c : s.1 i = 0 ∧ s.2.1 (A i) ≠ s.2.1 (B i)
    · rw [if_pos c]
      have hj1 := im_join1 (n := n) a1 a2 (hlab (B i) (by omega)) c.2
      refine ⟨fun u v hu hv e => ?_, ?_⟩
      · have e : jn s.2.1 (A i) (B i) u = jn s.2.1 (A i) (B i) v := e
        have small := fun x y (hx : x < n) (hy : y < n) (h : nt_d A B w (2 ^ m - 1) m x y < nt_inf) => nt_d_63 hok (2 ^ m - 1) hx hy h
        have key : ∀ x, x < n → nt_d A B w (2 ^ m - 1) m x (A i) < nt_inf ∨ jn s.2.1 (A i) (B i) x ≠ s.2.1 (A i) := by
          intro x hx
          by_cases cx : s.2.1 x = s.2.1 (B i)
          · left
            have l1 := small x (B i) hx a2 (h1 x (B i) hx a2 cx)
            have t := hD.2.2.1 x (B i) (A i) hx a2 a1
            have sy := hD.2.1 (A i) (B i) a1 a2
            omega
          · by_cases cx2 : s.2.1 x = s.2.1 (A i)
            · left; exact h1 x (A i) hx a1 cx2
            · right
              unfold jn
              rw [if_neg cx]; exact cx2
        rcases key u hu with z | z
        · rcases key v hv with y | y
          · have l1 := small u (A i) hu a1 z
            have l2 := small v (A i) hv a1 y
            have t := hD.2.2.1 u (A i) v hu a1 hv
            have sy := hD.2.1 (A i) v a1 hv
            omega
          · by_cases cu : jn s.2.1 (A i) (B i) u = s.2.1 (A i)
            · exact absurd (e.symm.trans cu) y
            · unfold jn at e cu y
              have c1 : ¬ s.2.1 u = s.2.1 (B i) := fun q => cu (by rw [if_pos q])
              have c2 : ¬ s.2.1 v = s.2.1 (B i) := fun q => y (by rw [if_pos q])
              rw [if_neg c1, if_neg c2] at e
              exact h1 u v hu hv e
        · have z2 : jn s.2.1 (A i) (B i) v ≠ s.2.1 (A i) := fun q => z (e.trans q)
          unfold jn at e z z2
          have c1 : ¬ s.2.1 u = s.2.1 (B i) := fun q => z (by rw [if_pos q])
          have c2 : ¬ s.2.1 v = s.2.1 (B i) := fun q => z2 (by rw [if_pos q])
          rw [if_neg c1, if_neg c2] at e
          exact h1 u v hu hv e
      · show cp (im (jn s.2.1 (A i) (B i)) n) 7 + (s.2.2 + 1) ≤ _
        omega
    · rw [if_neg c]
      exact ⟨h1, h2⟩
/-- a set within the stretch has as many lines as the first forest -/
theorem nt_least (hok : nt_ok n m A B w k) {t S : Nat} (ht : t ≤ 9) (hS : nt_in n m A B w t S) {F : Nat → Nat} {f : Nat} : (fr_rd jn A B f F m).2.2 ≤ nt_pc S m := by
  have hn := nt_ends hok
  have hinf : nt_inf = 1000000 := rfl
  obtain ⟨h1, h2⟩ := fr_way hok (F := F) (f := f) m (Nat.le_refl m)
  have h3 := ps_cp (n := n) (A := A) (B := B) (S := S) m
  have hlab := fr_lab (J := jn) jn_3 (F := F) (f := f) hok.1.2.1 hn m (Nat.le_refl m)
  have hps : ∀ u v, u < n → v < n → nt_d A B w S m u v < nt_inf → ps A B S m u = ps A B S m v := by
    intro u v hu hv h
    have hE : pmn n nt_inf (fun x y => if ps A B S m x = ps A B S m y then 0 else nt_inf) := by
      refine ⟨fun x _ => if_pos rfl, fun x y _ _ => ?_, fun x y z _ _ _ => ?_, fun x y _ _ => ?_⟩
      · show (if _ then _ else _) = (if _ then _ else _)
        by_cases e : ps A B S m x = ps A B S m y
        · rw [if_pos e, if_pos e.symm]
        · rw [if_neg e, if_neg (fun q => e q.symm)]
      · show (if _ then _ else _) ≤ (if _ then _ else _) + (if _ then _ else _)
        by_cases e : ps A B S m x = ps A B S m y
        · rw [e]; omega
        · rw [if_neg e]; split <;> omega
      · show (if _ then _ else _) ≤ _
        split <;> omega
    have hle := nt_d_great (w := w) (S := S) hn hE (fun q hq hb => by
      show (if _ then _ else _) ≤ _
      rw [if_pos (ps_line (m := m) m (Nat.le_refl m) q hq hb)]; omega) m (Nat.le_refl m) u v hu hv
    have hle' : (if ps A B S m u = ps A B S m v then 0 else nt_inf) ≤ nt_d A B w S m u v := hle
    by_cases e : ps A B S m u = ps A B S m v
    · exact e
    · rw [if_neg e] at hle'; omega
  have h4 := im_factor (P := (fr_rd jn A B f F m).2.1) (Q := ps A B S m) (n := n) (fun u hu => hlab u (by have := hok.1.2.1; omega)) (fun u v hu hv e => by
    apply hps u v hu hv
    have a1 := h1 u v hu hv e
    have a2 := nt_d_63 hok (2 ^ m - 1) hu hv a1
    have a3 := hS u v hu hv a1
    have a4 : t * nt_d A B w (2 ^ m - 1) m u v ≤ 9 * 63 := Nat.mul_le_mul ht a2
    omega)
  omega
end RNK
