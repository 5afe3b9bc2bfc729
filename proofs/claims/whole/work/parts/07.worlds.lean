/-! ===== own words: the worlds of the classes ===== -/
/-- a truth value that is looked at -/
def fw_cb {α : Type} (y : Int32) (k : Option α) : Option α := if y = 0 ∨ y = 1 then k else none
theorem fw_cb_s {α : Type} {y : Int32} {k : Option α} {z : α} (h : fw_cb y k = some z) : narrow .boolean (.int y) = .int y ∧ k = some z := by
  unfold fw_cb at h
  split at h
  · next h1 => exact ⟨by rcases h1 with rfl | rfl <;> rfl, h⟩
  · cases h
abbrev wL (cI cJ : ClassId) (a0 a1 : Nat)  (la : Nat → Int32) (zs : Int32) : va_W := [(a0, .inr (0, [.ref a1, .int zs])), (a1, .inl (cI, 49, .inl la))]
abbrev wP (cI cJ : ClassId) (a0 a1 : Nat)  (po : Nat → Int32) : va_W := [(a0, .inr (2, [.ref a1])), (a1, .inl (cI, 7, .inl po))]
abbrev wN (cI cJ : ClassId) (a0 a1 a2 a3 : Nat)  (mx : Nat → Int64) (ch : Nat → Int32) (mo : Nat → Int64) (ms : Int32) : va_W := [(a0, .inr (1, [.ref a1, .ref a2, .ref a3, .int ms])), (a1, .inl (cJ, 49, .inr (.inl mx))), (a2, .inl (cI, 7, .inl ch)), (a3, .inl (cJ, 128, .inr (.inl mo)))]
abbrev wX (cI cJ : ClassId) (q : Nat → Nat)  (nc : Int32) (lc : Int32) (le : Nat → Int32) (ge : Nat → Int32) (wt : Nat → Int32) (kp : Nat → Int32) (fo : Nat → Int32) (po : Nat → Int32) (na : Nat → Int32) (ns : Int32) (ta : Nat → Int32) (ts : Int32) (mx : Nat → Int64) (ch : Nat → Int32) (mo : Nat → Int64) (ms : Int32) (fs : Nat → Int32) : va_W := [((q 0), .inr (3, [.int nc, .int lc, .ref (q 1), .ref (q 2), .ref (q 3), .ref (q 4), .ref (q 5), .ref (q 6), .ref (q 8), .ref (q 10), .ref (q 12), .ref (q 16)])), ((q 1), .inl (cI, 12, .inl le)), ((q 2), .inl (cI, 12, .inl ge)), ((q 3), .inl (cI, 12, .inl wt)), ((q 4), .inl (cI, 12, .inl kp)), ((q 5), .inl (cI, 12, .inl fo)), ((q 6), .inr (2, [.ref (q 7)])), ((q 7), .inl (cI, 7, .inl po)), ((q 8), .inr (0, [.ref (q 9), .int ns])), ((q 9), .inl (cI, 49, .inl na)), ((q 10), .inr (0, [.ref (q 11), .int ts])), ((q 11), .inl (cI, 49, .inl ta)), ((q 12), .inr (1, [.ref (q 13), .ref (q 14), .ref (q 15), .int ms])), ((q 13), .inl (cJ, 49, .inr (.inl mx))), ((q 14), .inl (cI, 7, .inl ch)), ((q 15), .inl (cJ, 128, .inr (.inl mo))), ((q 16), .inl (cI, 10, .inl fs))]
abbrev wM (cI cJ : ClassId) (q : Nat → Nat)  (nn : Int32) (ln : Int32) (sa : Nat → Int32) (sb : Nat → Int32) (wg : Nat → Int32) (kt : Nat → Int32) (fr : Nat → Int32) (pt : Nat → Int32) (wl : Nat → Int32) (tn : Nat → Int32) (up : Int64) (lo : Int64) : va_W := [((q 0), .inr (4, [.int nn, .int ln, .ref (q 1), .ref (q 2), .ref (q 3), .ref (q 4), .ref (q 5), .ref (q 6), .ref (q 7), .ref (q 8), .long up, .long lo])), ((q 1), .inl (cI, 12, .inl sa)), ((q 2), .inl (cI, 12, .inl sb)), ((q 3), .inl (cI, 12, .inl wg)), ((q 4), .inl (cI, 12, .inl kt)), ((q 5), .inl (cI, 12, .inl fr)), ((q 6), .inl (cI, 7, .inl pt)), ((q 7), .inl (cI, 49, .inl wl)), ((q 8), .inl (cI, 49, .inl tn))]
abbrev wA (cI cJ : ClassId) (a0 : Nat) (N : Nat) (f : Nat → Int32) : va_W := [(a0, .inl (cI, N, .inl f))]
abbrev wB (cI cJ : ClassId) (a0 : Nat) (N : Nat) (g : Nat → Int64) : va_W := [(a0, .inl (cJ, N, .inr (.inl g)))]
abbrev w0 (cI cJ : ClassId)    : va_W := []
