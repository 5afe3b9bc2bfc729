/-! ===== own words: pure programs that the bytecode is tied to, and a call in one row ===== -/
/-- an index that is looked at -/
def fw_ck {α : Type} (i : Int32) (n : Nat) (k : Option α) : Option α := if 0 ≤ i.toInt ∧ i.toInt < (n : Int) then k else none
theorem fw_ck_s {α : Type} {i : Int32} {n : Nat} {k : Option α} {z : α} (h : fw_ck i n k = some z) : vp_in i n ∧ k = some z := by
  unfold fw_ck at h
  split at h
  · next h1 => exact ⟨vp_in_iff.mpr h1, h⟩
  · cases h
/-- a divisor that is looked at -/
def fw_cz {α : Type} (y : Int32) (k : Option α) : Option α := if y = 0 then none else k
theorem fw_cz_s {α : Type} {y : Int32} {k : Option α} {z : α} (h : fw_cz y k = some z) : ¬ y = 0 ∧ k = some z := by
  unfold fw_cz at h
  split at h
  · cases h
  · next h1 => exact ⟨h1, h⟩
def fw_czl {α : Type} (y : Int64) (k : Option α) : Option α := if y = 0 then none else k
theorem fw_czl_s {α : Type} {y : Int64} {k : Option α} {z : α} (h : fw_czl y k = some z) : ¬ y = 0 ∧ k = some z := by
  unfold fw_czl at h
  split at h
  · cases h
  · next h1 => exact ⟨h1, h⟩
theorem fw_it {α : Type} {c : Prop} [Decidable c] {a b : Option α} {z : α} (hc : c) (h : (if c then a else b) = some z) : a = some z := by
  rwa [if_pos hc] at h
theorem fw_if {α : Type} {c : Prop} [Decidable c] {a b : Option α} {z : α} (hc : ¬ c) (h : (if c then a else b) = some z) : b = some z := by
  rwa [if_neg hc] at h
theorem fw_be {α β : Type} {x : Option α} {k : α → Option β} {z : β} (h : x.bind k = some z) : ∃ a, x = some a := by
  cases x with
  | none => cases h
  | some a => exact ⟨a, rfl⟩
theorem fw_bs {α β : Type} {x : Option α} {a : α} {k : α → Option β} {z : β} (h : x = some a) (hq : x.bind k = some z) : k a = some z := by
  subst h
  exact hq
theorem fw_bb {α β : Type} {x : Option α} {k : α → Option β} {z : β} (h : x.bind k = some z) : ∃ a, x = some a ∧ k a = some z := by
  cases x with
  | none => cases h
  | some a => exact ⟨a, rfl, h⟩
/-- a loop with fuel: the body goes on (inl) or leaves (inr) -/
def fw_wh {V E : Type} (f : V → Option (V ⊕ E)) : Nat → V → Option E
  | 0, _ => none
  | n + 1, v => match f v with
    | none => none
    | some (.inl v') => fw_wh f n v'
    | some (.inr e) => some e
theorem fw_wh0 {V E : Type} {f : V → Option (V ⊕ E)} {v : V} {e : E} (h : fw_wh f 0 v = some e) : False := by
  cases h
theorem fw_wh1 {V E : Type} {f : V → Option (V ⊕ E)} {n : Nat} {v : V} {e : E} (h : fw_wh f (n + 1) v = some e) : ∃ w, f v = some w ∧ (∀ v', w = .inl v' → fw_wh f n v' = some e) ∧ (∀ e', w = .inr e' → e = e') := by
  unfold fw_wh at h
  cases hf : f v with
  | none => rw [hf] at h; cases h
  | some w =>
    rw [hf] at h
    refine ⟨w, rfl, fun v' hv => ?_, fun e' he => ?_⟩
    · subst hv; exact h
    · subst he; exact (Option.some.inj h).symm
/-- the fuel of every loop: more than any can need -/
def fw_N : Nat := 5000
theorem fw_out {x : Int32} {k : Int} (h : ¬ (0 ≤ x.toInt ∧ x.toInt ≤ k)) : x.toInt < 0 ∨ k < x.toInt := by omega
theorem fw_tn {x : Int32} {k : Int32} (h : ¬ x = k) : x.toInt ≠ k.toInt := fun e => h (Int32.toInt_inj.mp e)
theorem fw_out4 {x : Int32} (h0 : ¬ x = 0) (h1 : ¬ x = 1) (h2 : ¬ x = 2) (h3 : ¬ x = 3) (h4 : ¬ x = 4) : x.toInt < 0 ∨ (4 : Int) < x.toInt := by
  have a0 : x.toInt ≠ 0 := fw_tn h0
  have a1 : x.toInt ≠ 1 := fw_tn h1
  have a2 : x.toInt ≠ 2 := fw_tn h2
  have a3 : x.toInt ≠ 3 := fw_tn h3
  have a4 : x.toInt ≠ 4 := fw_tn h4
  omega
/-! the one word of a nest mate's method -/
abbrev fw_nest : Cond := .methodLinkNest RX1 46 yX3_isIn "FewLines"
abbrev fw_tys (cI cJ : ClassId) : List (ClassId × FieldType) := [(cI, .int), (cJ, .long)]
/-- a contract's start: the arguments, the cells, the tables -/
def fw_Pc (D : va_G) (tys : List (ClassId × FieldType)) (ws : va_W) (av : List Value) (sz : Nat) : Array Value → State → Prop := va_Pc av (fun U => U.heap.size = sz ∧ va_P D vwCl ws U.heap ∧ va_K D vwCl tys U ∧ va_D (fun _ => True) ws ∧ va_Nw fw_nest U)
/-- a contract's end: the cells -/
def fw_B (D : va_G) (A : Nat → Prop) (ws : va_W) (t : State) : Prop := va_P D vwCl ws t.heap ∧ va_D A ws
theorem fw_blind {D : va_G} {tys : List (ClassId × FieldType)} {ws : va_W} {av : List Value} {sz : Nat} : FrameBlind (fw_Pc D tys ws av sz) := fun a U g mk q => by
  obtain ⟨q0, q1, qP, qK, qD, qN⟩ := q
  exact ⟨q0, q1, qP, va_K.moved (u := U) (U := U.calling g mk a) (Vm.Alike.refl U.vm) qK, qD, va_Nw.same (u := U) rfl rfl qN⟩
theorem fw_pre {D : va_G} {tys : List (ClassId × FieldType)} {ws : va_W} {av : List Value} {A : Nat → Prop} {s U : State} {H : Heap} (hP : va_P D vwCl ws H) (hK : va_K D vwCl tys s) (hD : va_D A ws) (hN : va_Nw fw_nest s) (hU : U.heap = H) (hW : s.WarmedH U.vm) : fw_Pc D tys ws av H.size av.toArray U :=
  ⟨rfl, by rw [hU], by rw [hU]; exact hP, va_K.moved hW.alike hK, hD.weaken (fun _ _ _ _ => trivial), va_Nw.warmM hW hN⟩
theorem fw_fm {α : Type} {l : List Nat} {g : Nat → Option α} {r : List α} (h : l.map g = r.map some) : l.filterMap g = r := by
  induction l generalizing r with
  | nil => cases r with
    | nil => rfl
    | cons a r => cases h
  | cons x l ih => cases r with
    | nil => cases h
    | cons a r =>
      rw [List.map_cons, List.map_cons] at h
      obtain ⟨h1, h2⟩ := List.cons.inj h
      rw [List.filterMap_cons_some h1, ih h2]
section FWC
variable {p : Program} {l : Launch} {e : Env} {R : Room} {s : State} {m : MethodId} {args : Array Value} {below : List Frame} {meth : Method} {c : Code} {H : Heap} {locs : List Loc} {cells slots : Nat} {Q : State → Prop} {pc : Nat} {ls : Array Slot} {rest st0 : List Value} {A : Nat → Prop} {D : va_G} {ws0 wc wr : va_W} {a : Array Value}
/-- behind a call: the world again, in its own order -/
theorem fw_back {H1 : Heap} {w1 w2 : va_W} (hP : va_P D vwCl ws0 H) (hD : va_D A ws0) (hF : ∀ q, va_A wc H.size q → A q) (isC isR is2 : List Nat) (hC : isC.map (fun i => ws0[i]?) = wc.map some) (hR : isR.map (fun i => ws0[i]?) = wr.map some) (hn : va_nd isR = true) (hdis : ∀ i ∈ isR, i ∉ isC) (hn2 : va_nd is2 = true) (h2 : is2.map (fun i => (wr ++ w1)[i]?) = w2.map some)
    (hk : ∀ q : Nat, q < H.size → ¬ va_A wc H.size q → H1[q]? = H[q]?) (hP1 : va_P D vwCl w1 H1) (hD1 : va_D (va_A wc H.size) w1) : va_P D vwCl w2 H1 ∧ va_D A w2 := by
  obtain ⟨x, y⟩ := va_join (wr := wr) (w1 := w1) hP hD isC isR hC hR hn hdis hk hF hP1 hD1
  exact ⟨x.sub is2 (fw_fm h2), y.sub is2 hn2 h2⟩
theorem fw_ci {S : Type} {post : Int32 → S → Prop} {w1 w2 : S → va_W} (isC isR is2 : List Nat) (hr : va_Run p l e R s m args below meth c H locs cells slots 0 0 (F0 m pc ls st0) rest (va_Qi post (fun u t => fw_B D (va_A wc H.size) (w1 u) t) (va_A wc H.size) a) (va_A wc H.size))
    (hP : va_P D vwCl ws0 H) (hD : va_D A ws0) (hS : va_S A s.heap H locs) (hA : ∀ q, s.heap.size ≤ q → A q) (hC : isC.map (fun i => ws0[i]?) = wc.map some) (hR : isR.map (fun i => ws0[i]?) = wr.map some) (hn : va_nd isR = true) (hdis : ∀ i ∈ isR, i ∉ isC) (hn2 : va_nd is2 = true) (h2 : ∀ u, is2.map (fun i => (wr ++ w1 u)[i]?) = (w2 u).map some)
    (kk : ∀ (r : Int32) (u : S) (H1 : Heap) (locs1 : List Loc), post r u → va_P D vwCl (w2 u) H1 → va_D A (w2 u) → va_S A s.heap H1 locs1 → W p l e R s m args below meth c H1 locs1 cells slots Q (F0 m (pc + 3) ls (.int r :: rest))) : W p l e R s m args below meth c H locs cells slots Q (F0 m pc ls st0) := by
  have hF := va_free (wc := wc) hD hS hA isC hC
  refine va_calli hr hS (fun q _ h => hF q h) hF (fun r u t H1 locs1 ht hvm hw hB hz1 hk1 hS1 => ?_)
  obtain ⟨hP1, hD1⟩ := hB
  rw [ht] at hP1
  obtain ⟨x, y⟩ := fw_back (w2 := w2 u) hP hD hF isC isR is2 hC hR hn hdis hn2 (h2 u) hk1 hP1 hD1
  exact kk r u H1 locs1 hw x y hS1
theorem fw_cl {S : Type} {post : Int64 → S → Prop} {w1 w2 : S → va_W} (isC isR is2 : List Nat) (hr : va_Run p l e R s m args below meth c H locs cells slots 0 0 (F0 m pc ls st0) rest (va_Ql post (fun u t => fw_B D (va_A wc H.size) (w1 u) t) (va_A wc H.size) a) (va_A wc H.size))
    (hP : va_P D vwCl ws0 H) (hD : va_D A ws0) (hS : va_S A s.heap H locs) (hA : ∀ q, s.heap.size ≤ q → A q) (hC : isC.map (fun i => ws0[i]?) = wc.map some) (hR : isR.map (fun i => ws0[i]?) = wr.map some) (hn : va_nd isR = true) (hdis : ∀ i ∈ isR, i ∉ isC) (hn2 : va_nd is2 = true) (h2 : ∀ u, is2.map (fun i => (wr ++ w1 u)[i]?) = (w2 u).map some)
    (kk : ∀ (r : Int64) (u : S) (H1 : Heap) (locs1 : List Loc), post r u → va_P D vwCl (w2 u) H1 → va_D A (w2 u) → va_S A s.heap H1 locs1 → W p l e R s m args below meth c H1 locs1 cells slots Q (F0 m (pc + 3) ls (.long r :: rest))) : W p l e R s m args below meth c H locs cells slots Q (F0 m pc ls st0) := by
  have hF := va_free (wc := wc) hD hS hA isC hC
  refine va_calll hr hS (fun q _ h => hF q h) hF (fun r u t H1 locs1 ht hvm hw hB hz1 hk1 hS1 => ?_)
  obtain ⟨hP1, hD1⟩ := hB
  rw [ht] at hP1
  obtain ⟨x, y⟩ := fw_back (w2 := w2 u) hP hD hF isC isR is2 hC hR hn hdis hn2 (h2 u) hk1 hP1 hD1
  exact kk r u H1 locs1 hw x y hS1
theorem fw_cv {S : Type} {post : S → Prop} {w1 w2 : S → va_W} (isC isR is2 : List Nat) (hr : va_Run p l e R s m args below meth c H locs cells slots 0 0 (F0 m pc ls st0) rest (va_Qv post (fun u t => fw_B D (va_A wc H.size) (w1 u) t) (va_A wc H.size) a) (va_A wc H.size))
    (hP : va_P D vwCl ws0 H) (hD : va_D A ws0) (hS : va_S A s.heap H locs) (hA : ∀ q, s.heap.size ≤ q → A q) (hC : isC.map (fun i => ws0[i]?) = wc.map some) (hR : isR.map (fun i => ws0[i]?) = wr.map some) (hn : va_nd isR = true) (hdis : ∀ i ∈ isR, i ∉ isC) (hn2 : va_nd is2 = true) (h2 : ∀ u, is2.map (fun i => (wr ++ w1 u)[i]?) = (w2 u).map some)
    (kk : ∀ (u : S) (H1 : Heap) (locs1 : List Loc), post u → va_P D vwCl (w2 u) H1 → va_D A (w2 u) → va_S A s.heap H1 locs1 → W p l e R s m args below meth c H1 locs1 cells slots Q (F0 m (pc + 3) ls rest)) : W p l e R s m args below meth c H locs cells slots Q (F0 m pc ls st0) := by
  have hF := va_free (wc := wc) hD hS hA isC hC
  refine va_callv hr hS (fun q _ h => hF q h) hF (fun u t H1 locs1 ht hvm hw hB hz1 hk1 hS1 => ?_)
  obtain ⟨hP1, hD1⟩ := hB
  rw [ht] at hP1
  obtain ⟨x, y⟩ := fw_back (w2 := w2 u) hP hD hF isC isR is2 hC hR hn hdis hn2 (h2 u) hk1 hP1 hD1
  exact kk u H1 locs1 hw x y hS1
theorem fw_cr {S : Type} {ra : Nat} {post : S → Prop} {w1 w2 : S → va_W} (isC isR is2 : List Nat) (hr : va_Run p l e R s m args below meth c H locs cells slots 0 0 (F0 m pc ls st0) rest (va_Qr post (fun u x t => x = ra ∧ fw_B D (va_A wc H.size) (w1 u) t) (va_A wc H.size) a) (va_A wc H.size))
    (hP : va_P D vwCl ws0 H) (hD : va_D A ws0) (hS : va_S A s.heap H locs) (hA : ∀ q, s.heap.size ≤ q → A q) (hC : isC.map (fun i => ws0[i]?) = wc.map some) (hR : isR.map (fun i => ws0[i]?) = wr.map some) (hn : va_nd isR = true) (hdis : ∀ i ∈ isR, i ∉ isC) (hn2 : va_nd is2 = true) (h2 : ∀ u, is2.map (fun i => (wr ++ w1 u)[i]?) = (w2 u).map some)
    (kk : ∀ (u : S) (H1 : Heap) (locs1 : List Loc), post u → va_P D vwCl (w2 u) H1 → va_D A (w2 u) → va_S A s.heap H1 locs1 → W p l e R s m args below meth c H1 locs1 cells slots Q (F0 m (pc + 3) ls (.ref ra :: rest))) : W p l e R s m args below meth c H locs cells slots Q (F0 m pc ls st0) := by
  have hF := va_free (wc := wc) hD hS hA isC hC
  refine va_callr hr hS (fun q _ h => hF q h) hF (fun u x t H1 locs1 ht hvm hw hB hz1 hk1 hS1 => ?_)
  obtain ⟨rfl, hP1, hD1⟩ := hB
  rw [ht] at hP1
  obtain ⟨x, y⟩ := fw_back (w2 := w2 u) hP hD hF isC isR is2 hC hR hn hdis hn2 (h2 u) hk1 hP1 hD1
  exact kk u H1 locs1 hw x y hS1
end FWC
