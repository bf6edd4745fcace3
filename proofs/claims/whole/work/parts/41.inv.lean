/-! what class and reference have in common between two calls (by hand) -/
abbrev LYT : Type := Nat → Nat → Nat
/-- the places of the layout: 0 the server, 1 the reference, 2 tree, 3 log, 4 change, 5 nodes (0 the root, 1 to 20 the pool, 21 and 22 nowhere), 6 their names, 7 their contents, 8 message, 9 answer, 10 links, 11 inputs, 12 outputs, 13 arrays of fids, 14 fids, 15 links' array, 16 nodes' array, 17 and 18 the change's bytes, 19 to 21 the message's arrays, 22 the answer's bytes, 30 the reference's arrays by their fields' numbers -/
def yV (k i : Nat) : Bool := match k with
  | 5 => decide (i < 23) | 6 => decide (i < 23) | 7 => decide (i < 23)
  | 10 => decide (i < 2) | 11 => decide (i < 2) | 12 => decide (i < 2) | 13 => decide (i < 2)
  | 14 => decide (i < 12)
  | 30 => decide ((70 ≤ i ∧ i ≤ 72) ∨ (79 ≤ i ∧ i ≤ 94) ∨ i = 96)
  | _ => decide (k < 23 ∧ i = 0)
def yK (k i : Nat) : Nat := match k with
  | 0 => 9 | 1 => 10 | 2 => 2 | 3 => 3 | 4 => 4 | 5 => 1 | 6 => 51 | 7 => 51 | 8 => 5 | 9 => 6 | 10 => 8 | 11 => 51 | 12 => 51 | 13 => 56 | 14 => 7 | 15 => 55 | 16 => 54
  | 17 => 51 | 18 => 51 | 19 => 51 | 20 => 50 | 21 => 50 | 22 => 51
  | 30 => if i = 84 ∨ i = 85 ∨ i = 86 ∨ i = 91 then 52 else if i = 87 ∨ i = 92 then 53 else 50
  | _ => 0
def yL (k i : Nat) : Nat := match k with
  | 6 => 8 | 7 => 64 | 11 => 160 | 12 => 256 | 13 => 6 | 15 => 2 | 16 => 20 | 17 => 8 | 18 => 64 | 19 => 128 | 20 => 4 | 21 => 4 | 22 => 128
  | 30 => if i ≤ 72 then 1743 else if i = 79 then 320 else if i = 81 then 512 else if i ≤ 85 then 2 else if i ≤ 93 then 12 else if i = 94 then 128 else 160
  | _ => 0
/-- the types: which kind and length each place has; no two places are one -/
def SH (t : TY) (y : LYT) : Prop := (∀ k i, yV k i = true → tk t (y k i) = yK k i ∧ tn t (y k i) = yL k i) ∧ (∀ k i k' i', yV k i = true → yV k' i' = true → (y k i = y k' i' ↔ k = k' ∧ i = i')) ∧ tdOK t
/-- the references that never change -/
def FZ (y : LYT) (G : GS) : Prop :=
  (gr G 63 (y 0 0) = some (y 2 0) ∧ gr G 64 (y 0 0) = some (y 3 0) ∧ gr G 65 (y 0 0) = some (y 4 0) ∧ gr G 66 (y 0 0) = some (y 8 0) ∧ gr G 67 (y 0 0) = some (y 9 0) ∧ gr G 68 (y 0 0) = some (y 15 0))
  ∧ (gr G 13 (y 2 0) = some (y 5 0) ∧ gr G 14 (y 2 0) = some (y 16 0) ∧ gr G 31 (y 4 0) = some (y 17 0) ∧ gr G 33 (y 4 0) = some (y 18 0))
  ∧ (gr G 36 (y 8 0) = some (y 19 0) ∧ gr G 40 (y 8 0) = some (y 20 0) ∧ gr G 41 (y 8 0) = some (y 21 0) ∧ gr G 44 (y 9 0) = some (y 22 0))
  ∧ (∀ i, i < 23 → gr G 9 (y 5 i) = some (y 6 i) ∧ gr G 11 (y 5 i) = some (y 7 i))
  ∧ (∀ c, c < 2 → gr G 55 (y 10 c) = some (y 11 c) ∧ gr G 57 (y 10 c) = some (y 12 c) ∧ gr G 62 (y 10 c) = some (y 13 c) ∧ ar G (y 15 0) c = some (y 10 c) ∧ ∀ i, i < 6 → ar G (y 13 c) i = some (y 14 (6 * c + i)))
  ∧ ∀ f, yV 30 f = true → gr G f (y 1 0) = some (y 30 f)
/-- the references that never change, in two states -/
def sZ (y : LYT) (G G' : GS) : Prop := (∀ a, gr G' 63 a = gr G 63 a ∧ gr G' 64 a = gr G 64 a ∧ gr G' 65 a = gr G 65 a ∧ gr G' 66 a = gr G 66 a ∧ gr G' 67 a = gr G 67 a ∧ gr G' 68 a = gr G 68 a
  ∧ gr G' 13 a = gr G 13 a ∧ gr G' 14 a = gr G 14 a ∧ gr G' 31 a = gr G 31 a ∧ gr G' 33 a = gr G 33 a ∧ gr G' 36 a = gr G 36 a ∧ gr G' 40 a = gr G 40 a ∧ gr G' 41 a = gr G 41 a ∧ gr G' 44 a = gr G 44 a
  ∧ gr G' 9 a = gr G 9 a ∧ gr G' 11 a = gr G 11 a ∧ gr G' 55 a = gr G 55 a ∧ gr G' 57 a = gr G 57 a ∧ gr G' 62 a = gr G 62 a) ∧ (∀ f a, yV 30 f = true → gr G' f a = gr G f a) ∧ ∀ b, b ≠ y 16 0 → ar G' b = ar G b
theorem FZ.to {t : TY} {y : LYT} {G G' : GS} (hs : SH t y) (h : FZ y G) (e : sZ y G G') : FZ y G' := by
  obtain ⟨e1, e2, e3⟩ := e
  obtain ⟨⟨a1, a2, a3, a4, a5, a6⟩, ⟨b1, b2, b3, b4⟩, ⟨c1, c2, c3, c4⟩, d1, d2, d3⟩ := h
  refine ⟨?_, ?_, ?_, fun i hi => ?_, fun c hc => ?_, fun f hf => ?_⟩
  · obtain ⟨x1, x2, x3, x4, x5, x6, -⟩ := e1 (y 0 0)
    exact ⟨x1.trans a1, x2.trans a2, x3.trans a3, x4.trans a4, x5.trans a5, x6.trans a6⟩
  · obtain ⟨-, -, -, -, -, -, x1, x2, -⟩ := e1 (y 2 0)
    obtain ⟨-, -, -, -, -, -, -, -, x3, x4, -⟩ := e1 (y 4 0)
    exact ⟨x1.trans b1, x2.trans b2, x3.trans b3, x4.trans b4⟩
  · obtain ⟨-, -, -, -, -, -, -, -, -, -, x1, x2, x3, -⟩ := e1 (y 8 0)
    obtain ⟨-, -, -, -, -, -, -, -, -, -, -, -, -, x4, -⟩ := e1 (y 9 0)
    exact ⟨x1.trans c1, x2.trans c2, x3.trans c3, x4.trans c4⟩
  · obtain ⟨-, -, -, -, -, -, -, -, -, -, -, -, -, -, x1, x2, -⟩ := e1 (y 5 i)
    exact ⟨x1.trans (d1 i hi).1, x2.trans (d1 i hi).2⟩
  · obtain ⟨-, -, -, -, -, -, -, -, -, -, -, -, -, -, -, -, x1, x2, x3⟩ := e1 (y 10 c)
    obtain ⟨z1, z2, z3, z4, z5⟩ := d2 c hc
    have hv : yV 13 c = true := by simp [yV, hc]
    refine ⟨x1.trans z1, x2.trans z2, x3.trans z3, ?_, fun i hi => ?_⟩
    · rw [e3 (y 15 0) (fun q => by have := (hs.2.1 15 0 16 0 rfl rfl).mp q; omega)]
      exact z4
    · rw [e3 (y 13 c) (fun q => by have := (hs.2.1 13 c 16 0 hv rfl).mp q; omega)]
      exact z5 i hi
  · exact (e2 f (y 1 0) hf).trans (d3 f hf)
/-- a byte as the class keeps it -/
def sb (v : Nat) : Int32 := (nI v).toInt8.toInt32
/-- n places of a byte array, of an int array from a place on -/
def bC (G : GS) (a n : Nat) (f : Nat → Nat) : Prop := ∀ k, k < n → f k < 256 ∧ ai G a k = sb (f k)
def bM (G : GS) (a o n : Nat) (f : Nat → Nat) : Prop := ∀ k, k < n → f k < 256 ∧ ai G a (o + k) = nI (f k)
/-- the numbers: G the state with the class's part, m the one with the reference's -/
def ScR (y : LYT) (G m : GS) : Prop := gi G 17 (y 3 0) = gi m 77 (y 1 0) ∧ gi G 18 (y 3 0) = gi m 76 (y 1 0) ∧ gi G 69 (y 0 0) = gi m 78 (y 1 0) ∧ gi G 20 (y 3 0) = gi m 73 (y 1 0) ∧ isB (gi G 20 (y 3 0)) ∧ ((gi G 19 (y 3 0) = 1 ∧ gi m 75 (y 1 0) = 0 ∧ gi G 20 (y 3 0) = 0) ∨ (gi G 19 (y 3 0) = 0 ∧ gi m 75 (y 1 0) = 1))
/-- a connection: n bytes of input, o of output, msize z -/
def LkR (y : LYT) (G m : GS) (c : Nat) : Prop := ∃ (n o z : Nat) (f h : Nat → Nat), n ≤ 160 ∧ o ≤ 256 ∧ 96 ≤ z ∧ z ≤ 128
  ∧ gi G 56 (y 10 c) = nI n ∧ ai m (y 30 80) c = nI n ∧ bC G (y 11 c) n f ∧ bM m (y 30 79) (160 * c) n f
  ∧ gi G 58 (y 10 c) = nI o ∧ ai m (y 30 82) c = nI o ∧ bC G (y 12 c) o h ∧ bM m (y 30 81) (256 * c) o h
  ∧ gi G 59 (y 10 c) = nI z ∧ ai m (y 30 83) c = nI z
  ∧ isB (gi G 60 (y 10 c)) ∧ ai m (y 30 84) c = gi G 60 (y 10 c) ∧ isB (gi G 61 (y 10 c)) ∧ ai m (y 30 85) c = gi G 61 (y 10 c)
  ∧ (gi G 61 (y 10 c) = 1 → n = 0 ∧ o = 0) ∧ (gi G 19 (y 3 0) = 0 → n = 0 ∧ o = 0 ∧ gi G 61 (y 10 c) = 0)
/-- whether a fid is used -/
def FuR (y : LYT) (G m : GS) (k : Nat) : Prop := isB (gi G 46 (y 14 k)) ∧ ai m (y 30 86) k = gi G 46 (y 14 k) ∧ (gi G 19 (y 3 0) = 0 → gi G 46 (y 14 k) = 0)
