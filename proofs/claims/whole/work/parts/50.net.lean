/-! ===== the net as numbers ===== -/
/-- beyond each length -/
def nt_inf : Nat := 1000000
/-- one line more: the lengths through it -/
def nt_add (D : Nat → Nat → Nat) (a b w : Nat) (i j : Nat) : Nat := min (D i j) (min (D i a + w + D b j) (D i b + w + D a j))
/-- the lengths over the lines of S below k -/
def nt_d (A B w : Nat → Nat) (S : Nat) : Nat → Nat → Nat → Nat
  | 0, i, j => if i = j then 0 else nt_inf
  | k + 1, i, j => if S.testBit k then nt_add (nt_d A B w S k) (A k) (B k) (w k) i j else nt_d A B w S k i j
/-- how many lines below m the set has -/
def nt_pc (S : Nat) : Nat → Nat
  | 0 => 0
  | k + 1 => nt_pc S k + (if S.testBit k then 1 else 0)
/-- the set keeps all ways within t times their lengths -/
def nt_in (n m : Nat) (A B w : Nat → Nat) (t S : Nat) : Prop := ∀ i j, i < n → j < n → nt_d A B w (2 ^ m - 1) m i j < nt_inf → nt_d A B w S m i j ≤ t * nt_d A B w (2 ^ m - 1) m i j
/-- the fewest lines, of several sets the first -/
def nt_few (n m : Nat) (A B w : Nat → Nat) (t S : Nat) : Prop := S < 2 ^ m ∧ nt_in n m A B w t S ∧ ∀ S', S' < 2 ^ m → nt_in n m A B w t S' → nt_pc S m < nt_pc S' m ∨ (nt_pc S m = nt_pc S' m ∧ S ≤ S')
def nt_ok (n m : Nat) (A B w k : Nat → Nat) : Prop := (2 ≤ n ∧ n ≤ 7 ∧ m ≤ 12) ∧ ∀ j, j < m → A j < B j ∧ B j < n ∧ 1 ≤ w j ∧ w j ≤ 9 ∧ k j ≤ 60
def nt_X (n m : Nat) (A B w k : Nat → Nat) (nc lc : Int32) (le ge wt kp : Nat → Int32) : Prop := nc = nI n ∧ lc = nI m ∧ ∀ j, j < m → le j = nI (A j) ∧ ge j = nI (B j) ∧ wt j = nI (w j) ∧ kp j = nI (k j)
/-- what the class has kept of its search -/
def nt_C (n m : Nat) (A B w : Nat → Nat) (fs : Nat → Int32) : Prop := ∀ t, 1 ≤ t → t ≤ 9 → fs t = -1 ∨ ∃ S, fs t = nI S ∧ nt_few n m A B w t S
/-- class and reference hold the same net -/
def fw_R (nc lc : Int32) (le ge wt kp fs : Nat → Int32) (nn ln : Int32) (sa sb wg kt : Nat → Int32) : Prop := ∃ (n m : Nat) (A B w k : Nat → Nat), nt_ok n m A B w k ∧ nt_X n m A B w k nc lc le ge wt kp ∧ nt_X n m A B w k nn ln sa sb wg kt ∧ nt_C n m A B w fs
