/-- the nodes that are there: the root, and the first n of the nodes' array -/
def lvN (n : Nat) (r : Nat → Nat) (j : Nat) : Prop := j = 0 ∨ ∃ i, i < n ∧ r i = j
/-- how many i below n are so -/
def cnt (P : Nat → Bool) : Nat → Nat
  | 0 => 0
  | n + 1 => cnt P n + (if P n = true then 1 else 0)
/-- the j-th node of the class is what slot n of the reference's cells T holds -/
def NdR (t : TY) (y : LYT) (G : GS) (T : Nat → Int32) (j n : Nat) : Prop :=
  T (83 * n) = 1 ∧ T (83 * n + 1) = gi G 0 (y 5 j) ∧ T (83 * n + 2) = gi G 1 (y 5 j) ∧ T (83 * n + 3) = gi G 2 (y 5 j) ∧ T (83 * n + 4) = gi G 3 (y 5 j)
  ∧ (∃ u, u < 3 ∧ gr G 4 (y 5 j) = some (tad t u) ∧ T (83 * n + 5) = nI u) ∧ (∃ u, u < 3 ∧ gr G 5 (y 5 j) = some (tad t u) ∧ T (83 * n + 6) = nI u) ∧ (∃ u, u < 3 ∧ gr G 6 (y 5 j) = some (tad t u) ∧ T (83 * n + 7) = nI u)
  ∧ (∃ l f, l ≤ 8 ∧ gi G 10 (y 5 j) = nI l ∧ T (83 * n + 9) = nI l ∧ bC G (y 6 j) l f ∧ ∀ k, k < l → T (83 * n + 10 + k) = nI (f k))
  ∧ (∃ l f, l ≤ 64 ∧ gi G 12 (y 5 j) = nI l ∧ T (83 * n + 18) = nI l ∧ bC G (y 7 j) l f ∧ ∀ k, k < l → T (83 * n + 19 + k) = nI (f k))
/-- sums -/
def sm (w : Nat → Nat) : Nat → Nat
  | 0 => 0
  | n + 1 => sm w n + w n
/-- what a node takes of blocks -/
def cBl (y : LYT) (G : GS) (n : Nat) (r : Nat → Nat) (j : Nat) : Nat := if gi G 2 (y 5 j) < 0 then (cnt (fun i => decide (gr G 7 (y 5 (r i)) = some (y 5 j))) n + 3) / 4 else ((gi G 12 (y 5 j)).toNatClampNeg + 15) / 16
/-- all blocks -/
def tBl (y : LYT) (G : GS) (n : Nat) (r : Nat → Nat) : Nat := cBl y G n r 0 + sm (fun i => cBl y G n r (r i)) n
/-- two nodes have one name -/
def sNm (y : LYT) (G : GS) (j j' : Nat) : Prop := gi G 10 (y 5 j) = gi G 10 (y 5 j') ∧ ∀ k, k < (gi G 10 (y 5 j)).toNatClampNeg → ai G (y 6 j) k = ai G (y 6 j') k
/-- the tree of the class, n nodes besides the root, r their numbers by rising path, and cells T of the reference, s the slot of each node; np the next path -/
def TrR (t : TY) (y : LYT) (G : GS) (T : Nat → Int32) (n : Nat) (r s : Nat → Nat) (np : Nat) : Prop :=
  n ≤ 20 ∧ gi G 15 (y 2 0) = nI n ∧ 1 ≤ np ∧ gi G 16 (y 2 0) = nI np
  ∧ (∀ i, i < 20 → ar G (y 16 0) i = some (y 5 (r i)) ∧ 1 ≤ r i ∧ r i ≤ 20) ∧ (∀ i i', i < 20 → i' < 20 → r i = r i' → i = i')
  ∧ (∃ p : Nat → Nat, (∀ i, i < n → gi G 0 (y 5 (r i)) = nI (p i) ∧ 1 ≤ p i ∧ p i < np) ∧ ∀ i i', i < i' → i' < n → p i < p i') ∧ (∀ i, n ≤ i → i < 20 → gi G 0 (y 5 (r i)) = -1)
  ∧ gi G 0 (y 5 0) = 0 ∧ s 0 = 0
  ∧ (∀ j, lvN n r j → s j < 21 ∧ (j ≠ 0 → 1 ≤ s j) ∧ NdR t y G T j (s j)) ∧ (∀ k, k < 21 → T (83 * k) = 0 ∨ ∃ j, lvN n r j ∧ s j = k)
  ∧ (gr G 7 (y 5 0) = none ∧ T 8 = -1 ∧ tBl y G n r ≤ 24) ∧ (∀ i, i < n → ∃ j, lvN n r j ∧ gr G 7 (y 5 (r i)) = some (y 5 j) ∧ T (83 * s (r i) + 8) = gi G 0 (y 5 j) ∧ gi G 2 (y 5 j) < 0)
  ∧ (∀ j, lvN n r j → gi G 8 (y 5 j) = nI (cnt (fun i => decide (gr G 7 (y 5 (r i)) = some (y 5 j))) n))
  ∧ (∀ i i', i < n → i' < n → gr G 7 (y 5 (r i)) = gr G 7 (y 5 (r i')) → sNm y G (r i) (r i') → i = i')
  ∧ (∀ j, j ≤ 20 → ∃ l, l ≤ 64 ∧ gi G 12 (y 5 j) = nI l ∧ ∀ k, l ≤ k → k < 64 → ai G (y 7 j) k = 0)
/-- a fid in use -/
def FdR (t : TY) (y : LYT) (G m : GS) (n : Nat) (r : Nat → Nat) (np k : Nat) : Prop := gi G 46 (y 14 k) = 1 → ∃ (v p j u : Nat),
  v < 2 ^ 32 ∧ gl G 47 (y 14 k) = lN v ∧ al m (y 30 87) k = lN v
  ∧ gr G 48 (y 14 k) = some (y 5 j) ∧ j ≤ 20 ∧ gi G 49 (y 14 k) = nI p ∧ ai m (y 30 88) k = nI p ∧ p < np
  ∧ (gi G 0 (y 5 j) = nI p → lvN n r j) ∧ (∀ j', lvN n r j' → gi G 0 (y 5 j') = nI p → j' = j)
  ∧ u < 3 ∧ gr G 50 (y 14 k) = some (tad t u) ∧ ai m (y 30 89) k = nI u
  ∧ ai m (y 30 90) k = gi G 51 (y 14 k) ∧ (gi G 51 (y 14 k) = -1 ∨ ∃ o, o < 4 ∧ gi G 51 (y 14 k) = nI o ∧ (o ≠ 0 → gi G 0 (y 5 j) = nI p → ¬ gi G 2 (y 5 j) < 0))
  ∧ isB (gi G 52 (y 14 k)) ∧ ai m (y 30 91) k = gi G 52 (y 14 k)
  ∧ al m (y 30 92) k = gl G 53 (y 14 k) ∧ ai m (y 30 93) k = gi G 54 (y 14 k)
  ∧ (gi G 51 (y 14 k) = -1 → gl G 53 (y 14 k) = 0 ∧ gi G 54 (y 14 k) = 0)
/-- what the tree's part of the state is in two states -/
def agT (y : LYT) (G G' : GS) : Prop := (∀ f a, f ≤ 16 → gi G' f a = gi G f a ∧ gr G' f a = gr G f a) ∧ (∀ i, i < 23 → ai G' (y 6 i) = ai G (y 6 i) ∧ ai G' (y 7 i) = ai G (y 7 i)) ∧ ∀ b, ar G' b = ar G b
/-- .. and the change's part -/
def agC (y : LYT) (G G' : GS) : Prop := agT y G G' ∧ (∀ f a, 21 ≤ f → f ≤ 35 → gi G' f a = gi G f a ∧ gr G' f a = gr G f a) ∧ ai G' (y 17 0) = ai G (y 17 0) ∧ ai G' (y 18 0) = ai G (y 18 0)
/-- nothing but the tree's part has changed -/
def frT (y : LYT) (G G' : GS) : Prop := (∀ f a, 16 < f → gi G' f a = gi G f a ∧ gr G' f a = gr G f a) ∧ (∀ f a, gl G' f a = gl G f a) ∧ (∀ b, al G' b = al G b) ∧ (∀ b, (∀ i, i < 23 → b ≠ y 6 i ∧ b ≠ y 7 i) → ai G' b = ai G b) ∧ (∀ a, gr G' 9 a = gr G 9 a ∧ gr G' 11 a = gr G 11 a ∧ gr G' 13 a = gr G 13 a ∧ gr G' 14 a = gr G 14 a) ∧ ∀ b, b ≠ y 16 0 → ar G' b = ar G b
/-- behind a change that was run: the tree is what the cells P hold; of fids nothing is new -/
def Rn (t : TY) (y : LYT) (G G' : GS) (P : Nat → Int32) (n : Nat) (r : Nat → Nat) (np nq : Nat) : Prop := frT y G G' ∧ ∃ (n' : Nat) (r' s' : Nat → Nat), TrR t y G' P n' r' s' nq ∧ (nq = np ∨ (nq = np + 1 ∧ ∃ j, lvN n' r' j ∧ gi G' 0 (y 5 j) = nI np))
  ∧ ∀ j p, j ≤ 20 → p < np → gi G' 0 (y 5 j) = nI p → gi G 0 (y 5 j) = nI p ∧ (lvN n r j → lvN n' r' j) ∧ (lvN n' r' j → lvN n r j) ∧ (gi G' 2 (y 5 j) < 0 → gi G 2 (y 5 j) < 0)
/-- a change stands ready that makes the cells P out of the tree, in any state that has its part of this one -/
def Stg (t : TY) (y : LYT) (G : GS) (P : Nat → Int32) (n : Nat) (r : Nat → Nat) (np nq : Nat) : Prop := ∀ G1, agC y G G1 → FZ y G1 → ∃ G2, Rn t y G1 G2 P n r np nq ∧ ∀ K : GS → Prop, K G2 → w_Change_run t G1 (y 4 0) (y 2 0) K
theorem agT.rf {y : LYT} {G : GS} : agT y G G := ⟨fun _ _ _ => ⟨rfl, rfl⟩, fun _ _ => ⟨rfl, rfl⟩, fun _ => rfl⟩
theorem agT.tr {y : LYT} {G G1 G2 : GS} (a : agT y G G1) (b : agT y G1 G2) : agT y G G2 := ⟨fun f x h => ⟨(b.1 f x h).1.trans (a.1 f x h).1, (b.1 f x h).2.trans (a.1 f x h).2⟩, fun i h => ⟨(b.2.1 i h).1.trans (a.2.1 i h).1, (b.2.1 i h).2.trans (a.2.1 i h).2⟩, fun x => (b.2.2 x).trans (a.2.2 x)⟩
theorem agC.rf {y : LYT} {G : GS} : agC y G G := ⟨agT.rf, fun _ _ _ _ => ⟨rfl, rfl⟩, rfl, rfl⟩
theorem agC.tr {y : LYT} {G G1 G2 : GS} (a : agC y G G1) (b : agC y G1 G2) : agC y G G2 := ⟨a.1.tr b.1, fun f x h h' => ⟨(b.2.1 f x h h').1.trans (a.2.1 f x h h').1, (b.2.1 f x h h').2.trans (a.2.1 f x h h').2⟩, b.2.2.1.trans a.2.2.1, b.2.2.2.trans a.2.2.2⟩
theorem Stg.to {t : TY} {y : LYT} {G G' : GS} {P : Nat → Int32} {n : Nat} {r : Nat → Nat} {np nq : Nat} (h : Stg t y G P n r np nq) (a : agC y G G') : Stg t y G' P n r np nq := fun G1 b hz => h G1 (a.tr b) hz
theorem lvN_le {n : Nat} {r : Nat → Nat} (hn : n ≤ 20) (hr : ∀ i, i < 20 → 1 ≤ r i ∧ r i ≤ 20) {j : Nat} (h : lvN n r j) : j ≤ 20 := by
  rcases h with rfl | ⟨i, hi, rfl⟩
  · omega
  · exact (hr i (by omega)).2
theorem NdR.to {t : TY} {y : LYT} {G G' : GS} {T : Nat → Int32} {j n : Nat} (hj : j ≤ 20) (h : NdR t y G T j n) (a : agT y G G') : NdR t y G' T j n := by
  unfold NdR bC at h ⊢
  have g : ∀ f, f ≤ 16 → gi G' f (y 5 j) = gi G f (y 5 j) := fun f hf => (a.1 f _ hf).1
  have q : ∀ f, f ≤ 16 → gr G' f (y 5 j) = gr G f (y 5 j) := fun f hf => (a.1 f _ hf).2
  rw [g 0 (by omega), g 1 (by omega), g 2 (by omega), g 3 (by omega), g 10 (by omega), g 12 (by omega), q 4 (by omega), q 5 (by omega), q 6 (by omega), (a.2.1 j (by omega)).1, (a.2.1 j (by omega)).2]
  exact h
theorem sm_congr {w v : Nat → Nat} : ∀ {n : Nat}, (∀ i, i < n → w i = v i) → sm w n = sm v n
  | 0, _ => rfl
  | n + 1, h => by show sm w n + w n = sm v n + v n; rw [sm_congr (fun i hi => h i (by omega)), h n (by omega)]
/-- blocks hang on modes, homes and lengths alone -/
theorem tBl_eq {y : LYT} {G G' : GS} {n : Nat} {r : Nat → Nat} (h2 : ∀ a, gi G' 2 a < 0 ↔ gi G 2 a < 0) (h7 : ∀ a, gr G' 7 a = gr G 7 a) (h12 : ∀ a, gi G' 12 a = gi G 12 a) : tBl y G' n r = tBl y G n r := by
  have e : ∀ j, cBl y G' n r j = cBl y G n r j := fun j => by
    unfold cBl
    simp only [h7, h12]
    by_cases q : gi G 2 (y 5 j) < 0
    · rw [if_pos q, if_pos ((h2 _).mpr q)]
    · rw [if_neg q, if_neg (fun w => q ((h2 _).mp w))]
  unfold tBl
  rw [e, sm_congr (fun i _ => e (r i))]
theorem TrR.to {t : TY} {y : LYT} {G G' : GS} {T : Nat → Int32} {n : Nat} {r s : Nat → Nat} {np : Nat} (h : TrR t y G T n r s np) (a : agT y G G') : TrR t y G' T n r s np := by
  obtain ⟨h1, h2, h3, h4, h5, h6, ⟨p, h7, h8⟩, h9, h10, h11, h12, h13, h14, h15, h16, h17, h18⟩ := h
  have g : ∀ f b, f ≤ 16 → gi G' f b = gi G f b := fun f b hf => (a.1 f b hf).1
  have q : ∀ f b, f ≤ 16 → gr G' f b = gr G f b := fun f b hf => (a.1 f b hf).2
  have hr : ∀ i, i < 20 → 1 ≤ r i ∧ r i ≤ 20 := fun i hi => (h5 i hi).2
  have hle : ∀ j, lvN n r j → j ≤ 20 := fun j hj => lvN_le h1 hr hj
  refine ⟨h1, by rw [g 15 _ (by omega)]; exact h2, h3, by rw [g 16 _ (by omega)]; exact h4, fun i hi => by rw [a.2.2]; exact h5 i hi, h6, ⟨p, fun i hi => by rw [g 0 _ (by omega)]; exact h7 i hi, h8⟩, fun i hi hi2 => by rw [g 0 _ (by omega)]; exact h9 i hi hi2, by rw [g 0 _ (by omega)]; exact h10, h11, fun j hj => ?_, h13, ?_, fun i hi => ?_, fun j hj => ?_, fun i i' hi hi' e1 e2 => ?_, fun j hj => ?_⟩
  · obtain ⟨x1, x2, x3⟩ := h12 j hj
    exact ⟨x1, x2, x3.to (hle j hj) a⟩
  · rw [q 7 _ (by omega), tBl_eq (fun a => by rw [g 2 a (by omega)]) (fun a => q 7 a (by omega)) (fun a => g 12 a (by omega))]; exact h14
  · obtain ⟨j, x1, x2, x3, x4⟩ := h15 i hi
    exact ⟨j, x1, by rw [q 7 _ (by omega)]; exact x2, by rw [g 0 _ (by omega)]; exact x3, by rw [g 2 _ (by omega)]; exact x4⟩
  · rw [g 8 _ (by omega)]
    simp only [q 7 _ (show 7 ≤ 16 by omega)]
    exact h16 j hj
  · rw [q 7 _ (by omega), q 7 _ (by omega)] at e1
    refine h17 i i' hi hi' e1 ?_
    obtain ⟨z1, z2⟩ := e2
    rw [g 10 _ (by omega), g 10 _ (by omega)] at z1
    rw [g 10 _ (by omega)] at z2
    refine ⟨z1, fun k hk => ?_⟩
    have := z2 k hk
    rw [(a.2.1 (r i) (by have := hr i (by omega); omega)).1, (a.2.1 (r i') (by have := hr i' (by omega); omega)).1] at this
    exact this
  · obtain ⟨l, x1, x2, x3⟩ := h18 j hj
    refine ⟨l, x1, by rw [g 12 _ (by omega)]; exact x2, fun k hk hk2 => ?_⟩
    rw [(a.2.1 j (by omega)).2]
    exact x3 k hk hk2
/-- a fid's part in two states: the class's, the reference's -/
def agF (y : LYT) (G G' : GS) (k : Nat) : Prop := ∀ f, 46 ≤ f → f ≤ 54 → gi G' f (y 14 k) = gi G f (y 14 k) ∧ gl G' f (y 14 k) = gl G f (y 14 k) ∧ gr G' f (y 14 k) = gr G f (y 14 k)
def agFm (y : LYT) (m m' : GS) (k : Nat) : Prop := ∀ f, 86 ≤ f → f ≤ 93 → ai m' (y 30 f) k = ai m (y 30 f) k ∧ al m' (y 30 f) k = al m (y 30 f) k
theorem agF.rf {y : LYT} {G : GS} {k : Nat} : agF y G G k := fun _ _ _ => ⟨rfl, rfl, rfl⟩
theorem agFm.rf {y : LYT} {m : GS} {k : Nat} : agFm y m m k := fun _ _ _ => ⟨rfl, rfl⟩
theorem FuR.to {y : LYT} {G G' m m' : GS} {k : Nat} (h : FuR y G m k) (a : agF y G G' k) (b : agFm y m m' k) (e : gi G' 19 (y 3 0) = 0 → gi G 19 (y 3 0) = 0) : FuR y G' m' k := by
  unfold FuR at h ⊢
  rw [(a 46 (by omega) (by omega)).1, (b 86 (by omega) (by omega)).1]
  exact ⟨h.1, h.2.1, fun z => h.2.2 (e z)⟩
theorem FdR.to {t : TY} {y : LYT} {G G' m m' : GS} {n : Nat} {r : Nat → Nat} {np k : Nat} (h : FdR t y G m n r np k) (a : agF y G G' k) (c : agFm y m m' k) (b : ∀ j, gi G' 0 (y 5 j) = gi G 0 (y 5 j) ∧ gi G' 2 (y 5 j) = gi G 2 (y 5 j)) : FdR t y G' m' n r np k := by
  have b1 : ∀ j, gi G' 0 (y 5 j) = gi G 0 (y 5 j) := fun j => (b j).1
  have b2 : ∀ j, gi G' 2 (y 5 j) = gi G 2 (y 5 j) := fun j => (b j).2
  unfold FdR at h ⊢
  have g : ∀ f, 46 ≤ f → f ≤ 54 → gi G' f (y 14 k) = gi G f (y 14 k) := fun f h1 h2 => (a f h1 h2).1
  have g2 : ∀ f, 46 ≤ f → f ≤ 54 → gl G' f (y 14 k) = gl G f (y 14 k) := fun f h1 h2 => (a f h1 h2).2.1
  have g3 : ∀ f, 46 ≤ f → f ≤ 54 → gr G' f (y 14 k) = gr G f (y 14 k) := fun f h1 h2 => (a f h1 h2).2.2
  have q : ∀ f, 86 ≤ f → f ≤ 93 → ai m' (y 30 f) k = ai m (y 30 f) k := fun f h1 h2 => (c f h1 h2).1
  have q2 : ∀ f, 86 ≤ f → f ≤ 93 → al m' (y 30 f) k = al m (y 30 f) k := fun f h1 h2 => (c f h1 h2).2
  simp only [g 46 (by omega) (by omega), g 49 (by omega) (by omega), g 51 (by omega) (by omega), g 52 (by omega) (by omega), g 54 (by omega) (by omega), g2 47 (by omega) (by omega), g2 53 (by omega) (by omega), g3 48 (by omega) (by omega), g3 50 (by omega) (by omega), q2 87 (by omega) (by omega), q 88 (by omega) (by omega), q 89 (by omega) (by omega), q 90 (by omega) (by omega), q 91 (by omega) (by omega), q2 92 (by omega) (by omega), q 93 (by omega) (by omega), b1, b2]
  exact h
/-- a fid's part behind a change that was run -/
theorem FdR.rn {t : TY} {y : LYT} {G G' m : GS} {n n' : Nat} {r r' : Nat → Nat} {np nq k : Nat} (h : FdR t y G m n r np k) (hf : frT y G G') (hq : np ≤ nq) (hle : ∀ j, lvN n' r' j → j ≤ 20) (hc : ∀ j p, j ≤ 20 → p < np → gi G' 0 (y 5 j) = nI p → gi G 0 (y 5 j) = nI p ∧ (lvN n r j → lvN n' r' j) ∧ (lvN n' r' j → lvN n r j) ∧ (gi G' 2 (y 5 j) < 0 → gi G 2 (y 5 j) < 0)) : FdR t y G' m n' r' nq k := by
  intro z
  rw [(hf.1 46 _ (by omega)).1] at z
  obtain ⟨v, p, j, u, a1, a2, a3, a4, a5, a6, a7, a8, a9, a10, a11, a12, a13, a14, a15, a16, a17, a18, a19, a20⟩ := h z
  refine ⟨v, p, j, u, a1, (hf.2.1 47 _).trans a2, a3, (hf.1 48 _ (by omega)).2.trans a4, a5, (hf.1 49 _ (by omega)).1.trans a6, a7, by omega, fun e => ?_, fun j' hj' e => ?_, a11, (hf.1 50 _ (by omega)).2.trans a12, a13, ?_, ?_, ?_, ?_, ?_, ?_, ?_⟩
  · obtain ⟨x1, x2, -, -⟩ := hc j p a5 a8 e
    exact x2 (a9 x1)
  · obtain ⟨x1, -, x3, -⟩ := hc j' p (hle j' hj') a8 e
    exact a10 j' (x3 hj') x1
  · rw [(hf.1 51 _ (by omega)).1]; exact a14
  · rw [(hf.1 51 _ (by omega)).1]
    rcases a15 with w | ⟨o, w1, w2, w3⟩
    · exact Or.inl w
    · refine Or.inr ⟨o, w1, w2, fun ho e => ?_⟩
      obtain ⟨x1, -, -, x4⟩ := hc j p a5 a8 e
      exact fun q => w3 ho x1 (x4 q)
  · rw [(hf.1 52 _ (by omega)).1]; exact a16
  · rw [(hf.1 52 _ (by omega)).1]; exact a17
  · rw [hf.2.1]; exact a18
  · rw [(hf.1 54 _ (by omega)).1]; exact a19
  · rw [(hf.1 51 _ (by omega)).1, hf.2.1, (hf.1 54 _ (by omega)).1]; exact a20
/-- a connection's part in two states -/
def agL (y : LYT) (G G' : GS) (c : Nat) : Prop := (∀ f, 56 ≤ f → f ≤ 61 → gi G' f (y 10 c) = gi G f (y 10 c)) ∧ ai G' (y 11 c) = ai G (y 11 c) ∧ ai G' (y 12 c) = ai G (y 12 c)
def agLm (y : LYT) (m m' : GS) (c : Nat) : Prop := (∀ k, k < 160 → ai m' (y 30 79) (160 * c + k) = ai m (y 30 79) (160 * c + k)) ∧ (∀ k, k < 256 → ai m' (y 30 81) (256 * c + k) = ai m (y 30 81) (256 * c + k)) ∧ (∀ f, f = 80 ∨ f = 82 ∨ f = 83 ∨ f = 84 ∨ f = 85 → ai m' (y 30 f) c = ai m (y 30 f) c)
theorem agL.rf {y : LYT} {G : GS} {c : Nat} : agL y G G c := ⟨fun _ _ _ => rfl, rfl, rfl⟩
theorem agLm.rf {y : LYT} {m : GS} {c : Nat} : agLm y m m c := ⟨fun _ _ => rfl, fun _ _ => rfl, fun _ _ => rfl⟩
theorem LkR.to {y : LYT} {G G' m m' : GS} {c : Nat} (h : LkR y G m c) (a : agL y G G' c) (b : agLm y m m' c) (e : gi G' 19 (y 3 0) = 0 → gi G 19 (y 3 0) = 0) : LkR y G' m' c := by
  obtain ⟨n, o, z, f, h', x1, x2, x3, x4, x5, x6, x7, x8, x9, x10, x11, x12, x13, x14, x15, x16, x17, x18, x19, x20⟩ := h
  obtain ⟨a1, a2, a3⟩ := a
  obtain ⟨a4, a5, a6⟩ := b
  have g : ∀ f, 56 ≤ f → f ≤ 61 → gi G' f (y 10 c) = gi G f (y 10 c) := a1
  refine ⟨n, o, z, f, h', x1, x2, x3, x4, by rw [g 56 (by omega) (by omega)]; exact x5, by rw [a6 80 (by omega)]; exact x6, fun k hk => by rw [a2]; exact x7 k hk, fun k hk => by rw [a4 k (by omega)]; exact x8 k hk, by rw [g 58 (by omega) (by omega)]; exact x9, by rw [a6 82 (by omega)]; exact x10, fun k hk => by rw [a3]; exact x11 k hk, fun k hk => by rw [a5 k (by omega)]; exact x12 k hk, by rw [g 59 (by omega) (by omega)]; exact x13, by rw [a6 83 (by omega)]; exact x14, by rw [g 60 (by omega) (by omega)]; exact x15, by rw [a6 84 (by omega), g 60 (by omega) (by omega)]; exact x16, by rw [g 61 (by omega) (by omega)]; exact x17, by rw [a6 85 (by omega), g 61 (by omega) (by omega)]; exact x18, by rw [g 61 (by omega) (by omega)]; exact x19, by rw [g 61 (by omega) (by omega)]; exact fun z => x20 (e z)⟩
/-- what holds between two calls: G the state with the class's part, m the one with the reference's -/
def InvY (t : TY) (y : LYT) (b : Nat) (G m : GS) : Prop := SH t y ∧ FZ y G ∧ FZ y m ∧ ScR y G m ∧ (∀ c, c < 2 → LkR y G m c) ∧ (∀ k, k < 12 → FuR y G m k) ∧ ∃ (n : Nat) (r s : Nat → Nat) (np : Nat), TrR t y G (ai m (y 30 70)) n r s np ∧ (∀ k, k < 12 → FdR t y G m n r np k) ∧ gi m 74 (y 1 0) = nI (np - 1) ∧ np ≤ b ∧ (gi G 19 (y 3 0) = 0 → gi G 20 (y 3 0) = 1 → ∃ nq, Stg t y G (ai m (y 30 72)) n r np nq)
def InvW (t : TY) (S M j : Nat) (G : GS) : Prop := ∃ y : LYT, y 0 0 = S ∧ y 1 0 = M ∧ InvY t y (1 + 40 * j) G G
