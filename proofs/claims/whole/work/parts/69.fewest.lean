/-! ===== fewest, thin ===== -/
section FEW
variable {n m : Nat} {A B w k : Nat → Nat}
theorem nt_pc_full {S m : Nat} (hS : S < 2 ^ m) (h : m ≤ nt_pc S m) : S = 2 ^ m - 1 := by
  apply nt_ext hS (by have := Nat.one_le_two_pow (n := m); omega)
  intro i hi
  rw [Nat.testBit_two_pow_sub_one]
  cases hb : S.testBit i with
  | true => simp [hi]
  | false =>
    exfalso
    have h1 := nsum_lt (g := fun j => if S.testBit j then 1 else 0) (h := fun _ => 1) (n := m) (j0 := i) (fun j _ => by show (if _ then 1 else 0) ≤ 1; split <;> omega) hi (by show (if S.testBit i then 1 else 0) < 1; rw [hb]; decide)
    have h2 := nsum_le (f := fun _ => 1) (c := 1) (m := m) (fun _ _ => Nat.le_refl 1)
    rw [nt_pc_eq] at h
    omega
theorem nsum_one (m : Nat) : nsum (fun _ => 1) m = m := by
  induction m with
  | zero => rfl
  | succ m ih => show nsum (fun _ => 1) m + 1 = m + 1; rw [ih]
theorem nt_pc_all (m : Nat) : m ≤ nt_pc (2 ^ m - 1) m := by
  rw [nt_pc_eq, nsum_congr (g := fun _ => 1) (fun j hj => by
    show (if (2 ^ m - 1).testBit j then 1 else 0) = 1
    rw [Nat.testBit_two_pow_sub_one]; simp [hj]), nsum_one]
  exact Nat.le_refl m
theorem pX4_fewestBy_eq {nc lc : Int32} {le ge wt kp : Nat → Int32} (hok : nt_ok n m A B w k) (hX : nt_X n m A B w k nc lc le ge wt kp) (wl tn : Nat → Int32) {t : Nat} (ht1 : 1 ≤ t) (ht : t ≤ 9) : ∃ S wl' tn', pX4_fewestBy nc lc le ge wt wl tn (nI t) = some (nI S, wl', tn') ∧ nt_few n m A B w t S := by
  obtain ⟨⟨h2, h7, h12⟩, hj⟩ := id hok
  have hp := n_p12 h12
  have hone := Nat.one_le_two_pow (n := m)
  have e2 := hX.2.1
  subst e2
  unfold pX4_fewestBy
  rw [n_all h12]
  obtain ⟨wl', GN, y1, y2, y3⟩ := pX4_findFar_W_eq hok hX (S := 2 ^ m - 1) (by omega) wl
  rw [y1, fw_ob]
  have hpcf : ∀ S, nt_pc S m ≤ m := fun S => nt_pc_le S m
  obtain ⟨e, g1, g2⟩ := fw_loop (f := pX4_fewestBy_27 (nI t) nc (nI m) le ge wt wl') (Q := fun e => ∃ best, e.1 = nI best ∧ nt_few n m A B w t best) (fun s v => v.2.1 = nI s ∧ ∃ best, v.1 = nI best ∧ best < 2 ^ m ∧ nt_in n m A B w t best ∧ (best < s ∨ best = 2 ^ m - 1) ∧ ∀ S', S' < s → nt_in n m A B w t S' → nt_pc best m < nt_pc S' m ∨ (nt_pc best m = nt_pc S' m ∧ best ≤ S')) 0 (2 ^ m) (nI (2 ^ m - 1), (0 : Int32), tn) (by omega) (by omega) ⟨rfl, 2 ^ m - 1, rfl, by omega, nt_in_all ht1, Or.inr rfl, fun S' h => by omega⟩ (fun s v hs hv => by
    obtain ⟨x2, x3, tn1⟩ := v
    obtain ⟨r1, best, r2, r3, r4, r5, r6⟩ := hv
    dsimp only at r1 r2
    subst r1
    subst r2
    left
    have b1 := hpcf s
    have b2 := hpcf best
    dsimp only [pX4_fewestBy_27]
    rw [n_shl (show m < 31 by omega), if_neg (nI_ge hs (by omega)), pX4_many_eq h12 hs, fw_ob, pX4_many_eq h12 r3, fw_ob, nI_1]
    simp only [n_le (show nt_pc best m < 2 ^ 31 by omega) (show nt_pc s m < 2 ^ 31 by omega)]
    have keep : ¬ nt_pc s m < nt_pc best m ∨ ¬ nt_in n m A B w t s → ∀ S', S' < s + 1 → nt_in n m A B w t S' → nt_pc best m < nt_pc S' m ∨ (nt_pc best m = nt_pc S' m ∧ best ≤ S') := by
      intro hc S' h1 h2
      rcases (show S' < s ∨ S' = s by omega) with z | z
      · exact r6 S' z h2
      · subst z
        rcases hc with hc | hc
        · rcases Nat.lt_or_ge (nt_pc best m) (nt_pc S' m) with q | q
          · exact Or.inl q
          · right
            refine ⟨by omega, ?_⟩
            rcases r5 with u | u
            · omega
            · have hfull : m ≤ nt_pc best m := by rw [u]; exact nt_pc_all m
              have := nt_pc_full hs (by omega)
              omega
        · exact absurd h2 hc
    by_cases c1 : nt_pc best m ≤ nt_pc s m
    · rw [if_pos c1]
      exact ⟨_, rfl, rfl, best, rfl, r3, r4, by omega, keep (Or.inl (by omega))⟩
    · rw [if_neg c1]
      obtain ⟨b, tn2, z1, z2⟩ := pX4_isWithin_eq hok hX y2 y3 tn1 hs ht
      rw [z1, fw_ob]
      dsimp only
      simp only [bb_0]
      cases hb : b with
      | false =>
        rw [if_pos rfl]
        exact ⟨_, rfl, rfl, best, rfl, r3, r4, by omega, keep (Or.inr (fun z => by have := z2.mpr z; rw [hb] at this; cases this))⟩
      | true =>
        rw [if_neg (by decide)]
        refine ⟨_, rfl, rfl, s, rfl, hs, z2.mp hb, by omega, fun S' h1 h2 => ?_⟩
        rcases (show S' < s ∨ S' = s by omega) with z | z
        · have := r6 S' z h2
          left; omega
        · subst z; exact Or.inr ⟨rfl, Nat.le_refl _⟩) (fun v hv => by
    obtain ⟨x2, x3, tn1⟩ := v
    obtain ⟨r1, best, r2, r3, r4, r5, r6⟩ := hv
    dsimp only at r1 r2
    subst r1
    subst r2
    dsimp only [pX4_fewestBy_27]
    rw [n_shl (show m < 31 by omega), if_pos (nI_le (Nat.le_refl _) (by omega))]
    exact ⟨_, rfl, best, rfl, r3, r4, r6⟩)
  obtain ⟨x2, x3, tn1⟩ := e
  obtain ⟨best, g3, g4⟩ := g2
  dsimp only at g3
  subst g3
  rw [g1, fw_ob]
  dsimp only
  have hbl := g4.1
  obtain ⟨e, k1, k2⟩ := fw_loop (f := pX4_fewestBy_67 (nI t) (nI best) nc (nI m) le ge wt wl') (Q := fun e => ∃ x y, e = .inl (x, y)) (fun s v => v.1 = nI s) 0 best ((0 : Int32), tn1) (by omega) (by omega) rfl (fun s v hs hv => by
    obtain ⟨x3, tn2⟩ := v
    dsimp only at hv
    subst hv
    left
    have hsm : s < 2 ^ m := by omega
    have b1 := hpcf s
    have b2 := hpcf best
    dsimp only [pX4_fewestBy_67]
    rw [if_neg (nI_ge hs (by omega)), pX4_many_eq h12 hsm, fw_ob, pX4_many_eq h12 hbl, fw_ob, nI_1]
    simp only [n_eq (show nt_pc s m < 2 ^ 31 by omega) (show nt_pc best m < 2 ^ 31 by omega)]
    by_cases c1 : nt_pc s m = nt_pc best m
    · rw [if_pos c1]
      obtain ⟨b, tn3, z1, z2⟩ := pX4_isWithin_eq hok hX y2 y3 tn2 hsm ht
      rw [z1, fw_ob]
      dsimp only
      simp only [bb_0]
      cases hb : b with
      | false => rw [if_pos rfl]; exact ⟨_, rfl, rfl⟩
      | true =>
        exfalso
        have := g4.2.2 s hsm (z2.mp hb)
        omega
    · rw [if_neg c1]; exact ⟨_, rfl, rfl⟩) (fun v hv => by
    obtain ⟨x3, tn2⟩ := v
    dsimp only at hv
    subst hv
    dsimp only [pX4_fewestBy_67]
    rw [if_pos (nI_le (Nat.le_refl _) (by omega))]
    exact ⟨_, rfl, _, _, rfl⟩)
  obtain ⟨x, y, rfl⟩ := k2
  rw [k1, fw_ob]
  exact ⟨best, _, _, rfl, g4⟩
theorem pX3_leastToJoin_eq {nc lc : Int32} {le ge wt kp : Nat → Int32} (hok : nt_ok n m A B w k) (hX : nt_X n m A B w k nc lc le ge wt kp) (fo po : Nat → Int32) : ∃ fo' po', pX3_leastToJoin lc le ge fo po = some (nI (fr_rd jn A B 1 (fun _ => 0) m).2.2, fo', po') := by
  unfold pX3_leastToJoin
  rw [pJ7_fill_eq 12 (by omega), fw_ob]
  have h12 := hok.1.2.2
  obtain ⟨fo', po', h1, -⟩ := pX3_peelOne_eq hok hX (F := fun _ => 0) (fun _ => Nat.zero_le _) (fo := fun j => if j < 12 then (0 : Int32) else fo j) (fun j hj => by
    show (if j < 12 then (0 : Int32) else fo j) = nI 0
    rw [if_pos (by omega)]; rfl) po (f := 1) (by omega)
  have h1' : pX3_peelOne lc le ge (fun j => if j < 12 then (0 : Int32) else fo j) po 1 = some (nI (fr_rd jn A B 1 (fun _ => 0) m).2.2, fo', po') := h1
  rw [h1']
  exact ⟨_, _, rfl⟩
/-- what the class answers, with or without its store -/
theorem pX3_fewestSet_eq {nc lc : Int32} {le ge wt kp fs : Nat → Int32} (hok : nt_ok n m A B w k) (hX : nt_X n m A B w k nc lc le ge wt kp) (hC : nt_C n m A B w fs) (fo po na : Nat → Int32) (ns : Int32) (ta : Nat → Int32) (ts : Int32) {t : Nat} (ht1 : 1 ≤ t) (ht : t ≤ 9) : ∃ S fo' po' na' ns' ta' ts' fs', pX3_fewestSet nc lc le ge wt kp fo po na ns ta ts fs (nI t) = some (nI S, fo', po', na', ns', ta', ts', fs') ∧ nt_few n m A B w t S ∧ nt_C n m A B w fs' := by
  obtain ⟨⟨h2, h7, h12⟩, hj⟩ := id hok
  have hp := n_p12 h12
  have hone := Nat.one_le_two_pow (n := m)
  unfold pX3_fewestSet
  simp only [n_ck (show t < 10 by omega) (show 10 < 2 ^ 31 by omega), n_cl (show t < 2 ^ 31 by omega)]
  by_cases c : fs t = -1
  · rw [if_pos c, pX3_linesOf_eq hok hX 0, fw_ob, nt_set_all hok]
    obtain ⟨na', a1, a2⟩ := pX3_measure_N_eq hok hX (S := 2 ^ m - 1) (by omega) na
    rw [a1, fw_ob]
    dsimp only
    obtain ⟨fo', po', b1⟩ := pX3_leastToJoin_eq hok hX fo po
    rw [b1, fw_ob]
    dsimp only
    have hl12 : (fr_rd jn A B 1 (fun _ => 0) m).2.2 ≤ 12 := by
      have := fr_cnt (J := jn) (A := A) (B := B) (F := fun _ => 0) (f := 1) (m := m) (by omega) m (Nat.le_refl m)
      have := zc_le (fun _ => 0) m
      omega
    have hlc := hX.2.1
    obtain ⟨r, ta', ts', d1, d2⟩ := pX3_fewestWithin_eq hok hX a2 ht hl12 (fun S' _ h => nt_least hok ht h) m 13 (2 ^ m - 1) (2 ^ m - 1) ta ts (Nat.le_refl m) (by omega) (by omega) (fun j hj => by rw [Nat.testBit_two_pow_sub_one]; simp [hj]) (nt_in_all ht1) (by omega)
    rw [← hlc] at d1
    rw [d1, fw_ob]
    dsimp only
    have hfew : nt_few n m A B w t r := by
      refine ⟨d2.1, ?_, ?_⟩
      · rcases d2.2 with ⟨e1, -⟩ | ⟨e1, -, -⟩
        · rw [e1]; exact nt_in_all ht1
        · exact e1.2.1
      · intro S' h1 h3
        have hc : cand n m A B w t (2 ^ m - 1) m S' := ⟨h1, h3, fun j hj => by
          rw [Nat.testBit_lt_two_pow (Nat.lt_of_lt_of_le h1 (Nat.pow_le_pow_right (by omega) hj)), Nat.testBit_lt_two_pow (Nat.lt_of_lt_of_le (show 2 ^ m - 1 < 2 ^ m by omega) (Nat.pow_le_pow_right (by omega) hj))]⟩
        rcases d2.2 with ⟨e1, e2⟩ | ⟨e1, -, e3⟩
        · have h4 := e2 S' hc
          rcases Nat.lt_or_ge (nt_pc (2 ^ m - 1) m) (nt_pc S' m) with z | z
          · rw [e1]; exact Or.inl z
          · right
            refine ⟨by rw [e1]; omega, ?_⟩
            have hpf := nt_pc_all m
            rw [nt_pc_full h1 (by omega), e1]
            exact Nat.le_refl _
        · exact e3 S' hc
    have hup : upd fs t (nI r) t = nI r := pk_us
    rw [hup]
    refine ⟨r, _, _, _, _, _, _, _, rfl, hfew, fun q h1 h3 => ?_⟩
    unfold upd
    by_cases e : q = t
    · subst e
      rw [if_pos rfl]
      exact Or.inr ⟨r, rfl, hfew⟩
    · rw [if_neg e]
      exact hC q h1 h3
  · rw [if_neg c]
    rcases hC t ht1 ht with z | ⟨S, e1, e2⟩
    · exact absurd z c
    · rw [e1]
      exact ⟨S, _, _, _, _, _, _, _, rfl, e2, hC⟩
end FEW
theorem st_fewest (nc : Int32) (lc : Int32) (le : Nat → Int32) (ge : Nat → Int32) (wt : Nat → Int32) (kp : Nat → Int32) (fs : Nat → Int32) (nn : Int32) (ln : Int32) (sa : Nat → Int32) (sb : Nat → Int32) (wg : Nat → Int32) (kt : Nat → Int32) (h : fw_R nc lc le ge wt kp fs nn ln sa sb wg kt) (fo : Nat → Int32) (po : Nat → Int32) (na : Nat → Int32) (ns : Int32) (ta : Nat → Int32) (ts : Int32) (wl : Nat → Int32) (tn : Nat → Int32) (a1 : Int32) (a2 : Int32) : ∃ (r : Int32) (fo' : Nat → Int32) (po' : Nat → Int32) (na' : Nat → Int32) (ns' : Int32) (ta' : Nat → Int32) (ts' : Int32) (fs' : Nat → Int32) (wl' : Nat → Int32) (tn' : Nat → Int32), pX3_fewest nc lc le ge wt kp fo po na ns ta ts fs a1 a2 = some (r, fo', po', na', ns', ta', ts', fs') ∧ pX4_fewest nn ln sa sb wg wl tn a1 a2 = some (r, wl', tn') ∧ fw_R nc lc le ge wt kp fs' nn ln sa sb wg kt := by
  have h0 := h
  obtain ⟨n, m, A, B, w, k, hok, hX, hM, hC⟩ := h
  have h12 := hok.1.2.2
  unfold pX3_fewest pX4_fewest
  rw [pX3_isWithin_eq, pX4_in_eq, pX3_isWithin_eq, pX4_in_eq]
  simp only [fw_ob, bb_0, decide_eq_false_iff_not]
  by_cases c : ¬ a1 < 1 ∧ ¬ 9 < a1
  · rw [if_neg (not_not_intro c), if_neg (not_not_intro c)]
    by_cases c2 : ¬ a2 < 0 ∧ ¬ 1 < a2
    · rw [if_neg (not_not_intro c2), if_neg (not_not_intro c2)]
      rcases n_within a1 (a := 1) (b := 9) (by omega) (by omega) with z | z | ⟨t, ht1, ht2, rfl⟩
      · exact absurd z c.1
      · exact absurd z c.2
      obtain ⟨S, fo', po', na', ns', ta', ts', fs', x1, x2, x3⟩ := pX3_fewestSet_eq hok hX hC fo po na ns ta ts ht1 ht2
      obtain ⟨S', wl', tn', y1, y2⟩ := pX4_fewestBy_eq hok hM wl tn ht1 ht2
      have e := nt_few_one x2 y2
      subst e
      rw [x1, fw_ob, y1, fw_ob]
      dsimp only
      rw [bc_m h12 x2.1, fw_ob, pX4_many_eq h12 x2.1, fw_ob]
      by_cases c3 : a2 = 0
      · rw [if_pos c3, if_pos c3]
        exact ⟨_, _, _, _, _, _, _, _, _, _, rfl, rfl, n, m, A, B, w, k, hok, hX, hM, x3⟩
      · rw [if_neg c3, if_neg c3]
        exact ⟨_, _, _, _, _, _, _, _, _, _, rfl, rfl, n, m, A, B, w, k, hok, hX, hM, x3⟩
    · rw [if_pos c2, if_pos c2]
      exact ⟨_, _, _, _, _, _, _, _, _, _, rfl, rfl, h0⟩
  · rw [if_pos c, if_pos c]
    exact ⟨_, _, _, _, _, _, _, _, _, _, rfl, rfl, h0⟩
theorem st_thin (nc : Int32) (lc : Int32) (le : Nat → Int32) (ge : Nat → Int32) (wt : Nat → Int32) (kp : Nat → Int32) (fs : Nat → Int32) (nn : Int32) (ln : Int32) (sa : Nat → Int32) (sb : Nat → Int32) (wg : Nat → Int32) (kt : Nat → Int32) (h : fw_R nc lc le ge wt kp fs nn ln sa sb wg kt) (fo : Nat → Int32) (po : Nat → Int32) (na : Nat → Int32) (ns : Int32) (ta : Nat → Int32) (ts : Int32) (wl : Nat → Int32) (tn : Nat → Int32) (a1 : Int32) : ∃ (r : Int32) (kp' : Nat → Int32) (fo' : Nat → Int32) (po' : Nat → Int32) (na' : Nat → Int32) (ns' : Int32) (ta' : Nat → Int32) (ts' : Int32) (fs' : Nat → Int32) (kt' : Nat → Int32) (wl' : Nat → Int32) (tn' : Nat → Int32), pX3_thin nc lc le ge wt kp fo po na ns ta ts fs a1 = some (r, kp', fo', po', na', ns', ta', ts', fs') ∧ pX4_thin nn ln sa sb wg kt wl tn a1 = some (r, kt', wl', tn') ∧ fw_R nc lc le ge wt kp' fs' nn ln sa sb wg kt' := by
  have h0 := h
  obtain ⟨n, m, A, B, w, k, hok, hX, hM, hC⟩ := h
  have h12 := hok.1.2.2
  unfold pX3_thin pX4_thin
  rw [pX3_isWithin_eq, pX4_in_eq]
  simp only [fw_ob, bb_0, decide_eq_false_iff_not]
  by_cases c : ¬ a1 < 1 ∧ ¬ 9 < a1
  · rw [if_neg (not_not_intro c), if_neg (not_not_intro c)]
    rcases n_within a1 (a := 1) (b := 9) (by omega) (by omega) with z | z | ⟨t, ht1, ht2, rfl⟩
    · exact absurd z c.1
    · exact absurd z c.2
    obtain ⟨S, fo', po', na', ns', ta', ts', fs', x1, x2, x3⟩ := pX3_fewestSet_eq hok hX hC fo po na ns ta ts ht1 ht2
    obtain ⟨S', wl', tn', y1, y2⟩ := pX4_fewestBy_eq hok hM wl tn ht1 ht2
    have e := nt_few_one x2 y2
    subst e
    obtain ⟨kp', k1, k2⟩ := pX3_keepJust_eq hok hX x2.1 kp
    obtain ⟨kt', k3, k4⟩ := pX4_keepLoop_eq hok hM x2.1 kt
    rw [x1, fw_ob, y1, fw_ob]
    dsimp only
    rw [k1, fw_ob, k3, fw_ob]
    dsimp only
    rw [pX4_many_eq h12 x2.1, fw_ob]
    exact ⟨_, _, _, _, _, _, _, _, _, _, _, _, rfl, rfl, fw_R_ks hok hX hM x3 k2 k4⟩
  · rw [if_pos c, if_pos c]
    exact ⟨_, _, _, _, _, _, _, _, _, _, _, _, rfl, rfl, h0⟩
