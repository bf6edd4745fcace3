/-! alter as a whole (by hand) -/
/-- the same nodes in the same places -/
def eqc (T T' : Nat → Int32) : Prop := ∀ q, q < 21 → T' (83 * q) = T (83 * q) ∧ T' (83 * q + 1) = T (83 * q + 1) ∧ T' (83 * q + 8) = T (83 * q + 8)
theorem eqc.rf {T : Nat → Int32} : eqc T T := fun _ _ => ⟨rfl, rfl, rfl⟩
theorem eqc.cS {T T' : Nat → Int32} (h : eqc T T') {c v : Nat} {x : Int32} (hv : v < 83) (h0 : v ≠ 0) (h1 : v ≠ 1) (h8 : v ≠ 8) : eqc T (cS T' c v x) := fun q hq => by
  rw [cS_ne (by omega), cS_ne (by omega), cS_ne (by omega)]; exact h q hq
theorem eqc.cG {T T' : Nat → Int32} (h : eqc T T') {c u : Nat} {tm : Int32} : eqc T (cG T' c tm u) := fun q hq => by
  rw [cG_ne (by omega) (by omega) (by omega), cG_ne (by omega) (by omega) (by omega), cG_ne (by omega) (by omega) (by omega)]; exact h q hq
theorem eqc.ct {T T' : Nat → Int32} (h : eqc T T') {c l : Nat} {B : Nat → Int32} : eqc T (ctT T' c l B) := fun q hq => by
  unfold ctT
  rw [if_neg (by omega), if_neg (by omega), if_neg (by omega), if_neg (by omega), if_neg (by omega), if_neg (by omega)]; exact h q hq
theorem eqc.nm {T T' : Nat → Int32} (h : eqc T T') {c l : Nat} {g : Nat → Nat} (hl : l ≤ 8) : eqc T (nmT T' c l g) := fun q hq => by
  unfold nmT
  rw [if_neg (by omega), if_neg (by omega), if_neg (by omega), if_neg (by omega), if_neg (by omega), if_neg (by omega)]; exact h q hq
theorem eqc.a1 {T T' : Nat → Int32} (h : eqc T T') {c l0 u : Nat} {tm : Int32} {o : Option Nat} : eqc T (aT1 T' c l0 tm u o) := by
  cases o with
  | none => exact h
  | some l => exact h.ct.cG
theorem eqc.a2 {T T' : Nat → Int32} (h : eqc T T') {c : Nat} {o : Option Int32} : eqc T (aT2 T' c o) := by
  cases o with
  | none => exact h
  | some l => exact h.cS (by omega) (by omega) (by omega) (by omega)
theorem eqc.a3 {T T' : Nat → Int32} (h : eqc T T') {c : Nat} {o : Option Nat} : eqc T (aT3 T' c o) := by
  cases o with
  | none => exact h
  | some l => exact h.cS (by omega) (by omega) (by omega) (by omega)
theorem a1_18 {T : Nat → Int32} {c l0 u : Nat} {tm : Int32} : aT1 T c l0 tm u none = T := rfl
section ALH
variable {t : TY} {y : LYT} {b c z k j u : Nat} {f : Nat → Nat} {G m X : GS} {n np : Nat} {r s : Nat → Nat}
theorem cC_x1 (a : cC y G X) {o : Option Nat} : cC y G (x1C y X o) := by cases o with
  | none => exact a
  | some l => exact a.si (f := 25)
theorem cC_x2 (a : cC y G X) {o : Option Int32} : cC y G (x2C y X o) := by cases o with
  | none => exact a
  | some l => exact (a.si (f := 26)).si (f := 27)
theorem cC_x5 (a : cC y G X) {o : Option Int32} : cC y G (x5C y X o) := by cases o with
  | none => exact a
  | some l => exact (a.si (f := 28)).si (f := 29)
theorem cC_x3 (a : cC y G X) {o : Option Nat} : cC y G (x3C t y X o) := by cases o with
  | none => exact a
  | some l => exact a.sr (f := 30)
theorem cC_x4 (a : cC y G X) {l : Nat} : cC y G (x4C y X f l) := by
  unfold x4C
  by_cases q : l = 0
  · rw [if_pos q]; exact a
  · rw [if_neg q]; exact (a.aw (Or.inl rfl)).si (f := 32)
theorem M_given (hs : SH t y) (hm : FZ y m) (hf : MsF z f) (h : MsM y m z f) (hz : 56 ≤ z) {q : Nat} (hq : q + 2 ≤ z) {b1 b2 b3 b4 b5 : Bool} (e1 : b1 = false ↔ al1s f 46 8) (e2 : b2 = false ↔ al1s f 34 4) (e3 : b3 = false ↔ al1s f 42 4) (e4 : b4 = false ↔ nm f q 2 = 0) (e5 : b5 = false ↔ nm f 54 2 = 0) {K : Int32 → Prop} (k : K (gv b1 b2 b3 b4 b5)) : w_M_given t m (y 1 0) (nI q) K := by
  have n8 : nm f 46 8 < 2 ^ 64 := nm_l hf.2.2.1 (by omega)
  have c1 : lN (nm f 46 8) = (-1 : Int64) ↔ b1 = false := by
    rw [e1, ← ones f hf.2.2.1 (by omega)]
    constructor
    · intro w
      have := congrArg (fun v : Int64 => v.toBitVec.toNat) w
      simp only [lN_nat n8] at this
      exact this
    · intro w; rw [w]; decide +kernel
  have c4 : ∀ p (bb : Bool), (bb = false ↔ al1s f p 4) → (lN (nm f p 4) = (4294967295 : Int64) ↔ bb = false) := fun p bb e => by
    rw [e, ← ones f hf.2.2.1 (by omega)]
    have : nm f p 4 < 256 ^ 4 := nm_lt hf.2.2.1
    exact pk_lEQ (b := 4294967295) (by omega) (by decide)
  have c2 : ∀ p (bb : Bool), (bb = false ↔ nm f p 2 = 0) → (lN (nm f p 2) = (0 : Int64) ↔ bb = false) := fun p bb e => by
    rw [e]
    have : nm f p 2 < 256 ^ 2 := nm_lt hf.2.2.1
    exact pk_lEQ (b := 0) (by omega) (by decide)
  have st : ∀ (bb : Bool) (cond A B : Prop) {i : Decidable cond}, (cond ↔ bb = false) → (bb = true → B) → (bb = false → A) → @ite Prop cond i A B := fun bb cond A B i e hB hA => by
    cases bb with
    | false => exact iT (e.mpr rfl) (hA rfl)
    | true => exact iF (fun w => absurd (e.mp w) (by simp)) (hB rfl)
  have g84 : ∀ s0 : Int32, K (if b5 = true then s0 ||| 16 else s0) → w_M_given_84 t m (y 1 0) K s0 := fun s0 hK => ⟨hs.k 1 0, M_get (p := 54) (n := 2) hs hm hf h (by omega) (by omega) (st b5 _ _ _ (c2 54 b5 e5) (fun w => by rw [if_pos w] at hK; exact hK) (fun w => by rw [if_neg (by rw [w]; simp)] at hK; exact hK))⟩
  have g64 : ∀ s0 : Int32, K (if b5 = true then (if b4 = true then s0 ||| 8 else s0) ||| 16 else (if b4 = true then s0 ||| 8 else s0)) → w_M_given_64 t m (y 1 0) K (nI q) s0 := fun s0 hK => ⟨hs.k 1 0, M_get (n := 2) hs hm hf h (by omega) (by omega) (st b4 _ _ _ (c2 q b4 e4) (fun w => g84 _ (by rw [if_pos w] at hK; exact hK)) (fun w => g84 _ (by rw [show (if b4 = true then s0 ||| 8 else s0) = s0 from if_neg (by rw [w]; simp)] at hK; exact hK)))⟩
  have g42 : ∀ s0 : Int32, (∀ s1, s1 = (if b3 = true then s0 ||| 4 else s0) → K (if b5 = true then (if b4 = true then s1 ||| 8 else s1) ||| 16 else (if b4 = true then s1 ||| 8 else s1))) → w_M_given_42 t m (y 1 0) K (nI q) s0 := fun s0 hK => ⟨hs.k 1 0, M_get (p := 42) (n := 4) hs hm hf h (by omega) (by omega) (st b3 _ _ _ (c4 42 b3 e3) (fun w => g64 _ (hK _ (by rw [if_pos w]))) (fun w => g64 _ (hK _ (by rw [if_neg (by rw [w]; simp)]))))⟩
  have g20 : ∀ s0 : Int32, (∀ s1 s2, s1 = (if b2 = true then s0 ||| 2 else s0) → s2 = (if b3 = true then s1 ||| 4 else s1) → K (if b5 = true then (if b4 = true then s2 ||| 8 else s2) ||| 16 else (if b4 = true then s2 ||| 8 else s2))) → w_M_given_20 t m (y 1 0) K (nI q) s0 := fun s0 hK => ⟨hs.k 1 0, M_get (p := 34) (n := 4) hs hm hf h (by omega) (by omega) (st b2 _ _ _ (c4 34 b2 e2) (fun w => g42 _ (fun s1 e => hK _ s1 (by rw [if_pos w]) e)) (fun w => g42 _ (fun s1 e => hK _ s1 (by rw [if_neg (by rw [w]; simp)]) e)))⟩
  refine ⟨hs.k 1 0, M_get (p := 46) (n := 8) hs hm hf h (by omega) (by omega) (st b1 _ _ _ c1 (fun w => g20 1 (fun s1 s2 a1 a2 => ?_)) (fun w => g20 0 (fun s1 s2 a1 a2 => ?_)))⟩
  · subst w
    rw [a2, a1]; exact k
  · subst w
    rw [a2, a1]; exact k
end ALH
