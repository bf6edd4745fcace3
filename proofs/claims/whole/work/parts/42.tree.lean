/-- the nodes that are there: the root, and the first n of the nodes' array -/
def lvN (n : Nat) (r : Nat → Nat) (j : Nat) : Prop := j = 0 ∨ ∃ i, i < n ∧ r i = j
/-- how many i below n are so -/
def cnt (P : Nat → Bool) : Nat → Nat
  | 0 => 0
  | n + 1 => cnt P n + (if P n = true then 1 else 0)
/-- the j-th node of the class is what slot n of the reference's cells T holds -/
def NdR (t : TY) (y : LYT) (G : GS) (T : Nat → Int32) (j n : Nat) : Prop :=
  T (83 * n) = 1 ∧ T (83 * n + 1) = gi G 0 (y 5 j) ∧ T (83 * n + 2) = gi G 1 (y 5 j) ∧ T (83 * n + 3) = gi G 2 (y 5 j) ∧ T (83 * n + 4) = gi G 3 (y 5 j)
  ∧ (∃ u, u < 3 ∧ gr G 4 (y 5 j) = some (tad t u) ∧ T (83 * n + 5) = nI u) ∧ (∃ u, u < 3 ∧ gr G 5 (y 5 j) = some (tad t u) ∧ T (83 * n + 6) = nI u) ∧ (∃ u, u < 3 ∧ gr G 6 (y 5 j) = some (tad t u) ∧ T (83 * n + 7) = nI u)
  ∧ (∃ l f, l ≤ 8 ∧ gi G 10 (y 5 j) = nI l ∧ T (83 * n + 9) = nI l ∧ bC G (y 6 j) l f ∧ ∀ k, k < l → T (83 * n + 10 + k) = nI (f k))
  ∧ (∃ l f, l ≤ 64 ∧ gi G 12 (y 5 j) = nI l ∧ T (83 * n + 18) = nI l ∧ bC G (y 7 j) l f ∧ ∀ k, k < l → T (83 * n + 19 + k) = nI (f k))
/-- two nodes have one name -/
def sNm (y : LYT) (G : GS) (j j' : Nat) : Prop := gi G 10 (y 5 j) = gi G 10 (y 5 j') ∧ ∀ k, k < (gi G 10 (y 5 j)).toNatClampNeg → ai G (y 6 j) k = ai G (y 6 j') k
/-- the tree of the class, n nodes besides the root, r their numbers by rising path, and cells T of the reference, s the slot of each node; np the next path -/
def TrR (t : TY) (y : LYT) (G : GS) (T : Nat → Int32) (n : Nat) (r s : Nat → Nat) (np : Nat) : Prop :=
  n ≤ 20 ∧ gi G 15 (y 2 0) = nI n ∧ 1 ≤ np ∧ gi G 16 (y 2 0) = nI np
  ∧ (∀ i, i < 20 → ar G (y 16 0) i = some (y 5 (r i)) ∧ 1 ≤ r i ∧ r i ≤ 20) ∧ (∀ i i', i < 20 → i' < 20 → r i = r i' → i = i')
  ∧ (∃ p : Nat → Nat, (∀ i, i < n → gi G 0 (y 5 (r i)) = nI (p i) ∧ 1 ≤ p i ∧ p i < np) ∧ ∀ i i', i < i' → i' < n → p i < p i') ∧ (∀ i, n ≤ i → i < 20 → gi G 0 (y 5 (r i)) = -1)
  ∧ gi G 0 (y 5 0) = 0 ∧ s 0 = 0
  ∧ (∀ j, lvN n r j → s j < 21 ∧ (j ≠ 0 → 1 ≤ s j) ∧ NdR t y G T j (s j)) ∧ (∀ k, k < 21 → T (83 * k) = 0 ∨ ∃ j, lvN n r j ∧ s j = k)
  ∧ (gr G 7 (y 5 0) = none ∧ T 8 = -1) ∧ (∀ i, i < n → ∃ j, lvN n r j ∧ gr G 7 (y 5 (r i)) = some (y 5 j) ∧ T (83 * s (r i) + 8) = gi G 0 (y 5 j) ∧ gi G 2 (y 5 j) < 0)
  ∧ (∀ j, lvN n r j → gi G 8 (y 5 j) = nI (cnt (fun i => decide (gr G 7 (y 5 (r i)) = some (y 5 j))) n))
  ∧ (∀ i i', i < n → i' < n → gr G 7 (y 5 (r i)) = gr G 7 (y 5 (r i')) → sNm y G (r i) (r i') → i = i')
  ∧ (∀ j, j ≤ 20 → ∃ l, l ≤ 64 ∧ gi G 12 (y 5 j) = nI l ∧ ∀ k, l ≤ k → k < 64 → ai G (y 7 j) k = 0)
/-- a fid in use -/
def FdR (t : TY) (y : LYT) (G : GS) (n : Nat) (r : Nat → Nat) (np k : Nat) : Prop := gi G 46 (y 14 k) = 1 → ∃ (v p j u : Nat),
  v < 2 ^ 32 ∧ gl G 47 (y 14 k) = lN v ∧ al G (y 30 87) k = lN v
  ∧ gr G 48 (y 14 k) = some (y 5 j) ∧ j ≤ 20 ∧ gi G 49 (y 14 k) = nI p ∧ ai G (y 30 88) k = nI p ∧ p < np
  ∧ (gi G 0 (y 5 j) = nI p → lvN n r j) ∧ (∀ j', lvN n r j' → gi G 0 (y 5 j') = nI p → j' = j)
  ∧ u < 3 ∧ gr G 50 (y 14 k) = some (tad t u) ∧ ai G (y 30 89) k = nI u
  ∧ ai G (y 30 90) k = gi G 51 (y 14 k) ∧ (gi G 51 (y 14 k) = -1 ∨ ∃ o, o < 4 ∧ gi G 51 (y 14 k) = nI o)
  ∧ isB (gi G 52 (y 14 k)) ∧ ai G (y 30 91) k = gi G 52 (y 14 k)
  ∧ al G (y 30 92) k = gl G 53 (y 14 k) ∧ ai G (y 30 93) k = gi G 54 (y 14 k)
  ∧ (gi G 51 (y 14 k) = -1 → gl G 53 (y 14 k) = 0 ∧ gi G 54 (y 14 k) = 0)
/-- tree and fids -/
def TfR (t : TY) (y : LYT) (G : GS) (np : Nat) : Prop := gi G 74 (y 1 0) = nI (np - 1) ∧ ∃ (n : Nat) (r s : Nat → Nat), TrR t y G (ai G (y 30 70)) n r s np ∧ ∀ k, k < 12 → FdR t y G n r np k
