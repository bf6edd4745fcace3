/-! the checks of an alteration (by hand) -/
/-- all ones: not given -/
def al1s (f : Nat → Nat) (p n : Nat) : Prop := ∀ i, i < n → f (p + i) = 255
theorem ones_v : ∀ n, n ≤ 8 → ∀ i, i < n → (256 ^ n - 1) / 256 ^ i % 256 = 255 := by decide +kernel
theorem ones (f : Nat → Nat) (hf : ∀ k, f k < 256) {p n : Nat} (hn : n ≤ 8) : nm f p n = 256 ^ n - 1 ↔ al1s f p n := by
  rw [nm_val hf (Nat.sub_lt (Nat.pow_pos (by decide)) (by decide))]
  constructor
  · intro h i hi; rw [h i hi, ones_v n hn i hi]
  · intro h i hi; rw [h i hi, ones_v n hn i hi]
/-- which parts are given -/
def gv (b1 b2 b3 b4 b5 : Bool) : Int32 :=
  let g1 : Int32 := if b1 = true then 1 else 0
  let g2 : Int32 := if b2 = true then g1 ||| 2 else g1
  let g3 : Int32 := if b3 = true then g2 ||| 4 else g2
  let g4 : Int32 := if b4 = true then g3 ||| 8 else g3
  if b5 = true then g4 ||| 16 else g4
theorem gv_b : ∀ b1 b2 b3 b4 b5 : Bool, ((gv b1 b2 b3 b4 b5 &&& 1) = 0 ↔ b1 = false) ∧ ((gv b1 b2 b3 b4 b5 &&& 2) = 0 ↔ b2 = false) ∧ ((gv b1 b2 b3 b4 b5 &&& 4) = 0 ↔ b3 = false) ∧ ((gv b1 b2 b3 b4 b5 &&& 8) = 0 ↔ b4 = false) ∧ ((gv b1 b2 b3 b4 b5 &&& 16) = 0 ↔ b5 = false) ∧ (gv b1 b2 b3 b4 b5 = 0 ↔ (b1 = false ∧ b2 = false ∧ b3 = false ∧ b4 = false ∧ b5 = false)) := by decide
section STGS
variable {t : TY} {y : LYT} {b c z k j u : Nat} {f : Nat → Nat} {G X m : GS} {n np : Nat} {r s : Nat → Nat}
theorem S_gives (hs : SH t y) (hz : FZ y G) (hf : MsF z f) (h : MsC y G z f) {p q : Nat} (hp : p + q < 2 ^ 20) {K : Int32 → Prop} (k0 : al1s f p q → K 0) (k1 : ¬ al1s f p q → K 1) : w_Message_gives t G (y 8 0) (nI p) (nI q) K := by
  have step : ∀ x i, i < q → (f (p + i) = 255 → w_Message_gives_2 t G (y 8 0) K x (nI p) (nI q) (nI (i + 1))) → (¬ f (p + i) = 255 → K 1) → w_Message_gives_2 t G (y 8 0) K (x + 1) (nI p) (nI q) (nI i) := fun x i hi a b => by
    refine iF (nI_ge hi (by omega)) ⟨hs.k 8 0, ?_⟩
    rw [nI_add]
    refine S_number (n := 1) hs hz hf h (by omega) (by omega) ?_
    rw [nm_1]
    have h256 := hf.2.2.1 (p + i)
    by_cases e : f (p + i) = 255
    · refine iT (by rw [e]; rfl) (fun v hv => ?_)
      subst hv; rw [nI_1]; exact a e
    · exact iF (fun w => e ((pk_lEQ (b := 255) (by omega) (by decide)).mp w)) (b e)
  by_cases g : al1s f p q
  · exact pk_loop (fun x i (_ : Unit) => w_Message_gives_2 t G (y 8 0) K x (nI p) (nI q) (nI i)) (fun _ _ => True) q 0 () (by omega) trivial (fun x _ _ => iT (Int32.le_refl _) (k0 g)) (fun x i _ hi _ ih => step x i hi (fun _ => ih () trivial) (fun w => absurd (g i hi) w))
  · have : ∃ i, i < q ∧ ¬ f (p + i) = 255 := Classical.byContradiction fun n => g fun i hi => Classical.byContradiction fun w => n ⟨i, hi, w⟩
    obtain ⟨i, ⟨e1, e2⟩, e3⟩ := pk_least _ this
    exact pk_loop (fun x i (_ : Unit) => w_Message_gives_2 t G (y 8 0) K x (nI p) (nI q) (nI i)) (fun _ _ => True) i 0 () (by omega) trivial (fun x _ _ => step x i e1 (fun w => absurd w e2) (fun _ => k1 g)) (fun x i' _ hi' _ ih => step x i' (by omega) (fun _ => ih () trivial) (fun w => absurd ⟨by omega, w⟩ (e3 i' hi')))
theorem S_givesText (hs : SH t y) (hz : FZ y G) (hf : MsF z f) {p c i : Nat} (hT : TxC y G f p c) (hi : i < c) (hc : c ≤ 4) {K : Int32 → Prop} (k0 : nm f (tp f p i) 2 = 0 → K 0) (k1 : ¬ nm f (tp f p i) 2 = 0 → K 1) : w_Message_givesText t G (y 8 0) (nI i) K := by
  have hL : nm f (tp f p i) 2 < 256 ^ 2 := nm_lt hf.2.2.1
  refine ⟨hs.k 8 0, y 21 0, hz.2.2.1.2.2.1, hs.k 21 0, by rw [hs.n 21 0]; exact vp_lt (N := 4) (by omega), ?_⟩
  rw [nI_clamp (by omega), (hT.1 i hi).2]
  by_cases q : nm f (tp f p i) 2 = 0
  · exact iT (by rw [q]; decide) (k0 q)
  · exact iF (nI_nle (by omega) (by omega)) (k1 q)
/-- what all is not given -/
def fixd (f : Nat → Nat) : Prop := al1s f 15 2 ∧ al1s f 17 4 ∧ al1s f 21 13 ∧ al1s f 38 4 ∧ nm f (tp f 54 1) 2 = 0 ∧ nm f (tp f 54 3) 2 = 0
theorem S_fixed (hs : SH t y) (hz : FZ y G) (hf : MsF z f) (h : MsC y G z f) (hT : TxC y G f 54 4) {K : Int32 → Prop} (k0 : fixd f → K 0) (k1 : ¬ fixd f → K 1) : w_S_givesFixedPart t G (y 0 0) K := by
  refine ⟨hs.k 0 0, y 8 0, hz.1.2.2.2.1, hs.k 8 0, S_gives (p := 15) (q := 2) hs hz hf h (by omega) (fun a1 => iF (by simp) (S_gives (p := 17) (q := 4) hs hz hf h (by omega) (fun a2 => iF (by simp) (S_gives (p := 21) (q := 13) hs hz hf h (by omega) (fun a3 => iF (by simp) (S_gives (p := 38) (q := 4) hs hz hf h (by omega) (fun a4 => iF (by simp) (S_givesText (i := 1) hs hz hf hT (by omega) (by omega) (fun a5 => iF (by simp) (S_givesText (i := 3) hs hz hf hT (by omega) (by omega) (fun a6 => iT rfl (k0 ⟨a1, a2, a3, a4, a5, a6⟩)) (fun a => iF (by decide) (k1 fun w => a w.2.2.2.2.2)))) (fun a => iT (by decide) (k1 fun w => a w.2.2.2.2.1)))) (fun a => iT (by decide) (k1 fun w => a w.2.2.2.1)))) (fun a => iT (by decide) (k1 fun w => a w.2.2.1)))) (fun a => iT (by decide) (k1 fun w => a w.2.1)))) (fun a => iT (by decide) (k1 fun w => a w.1))⟩
theorem al13 : al1s f 21 13 ↔ al1s f 21 5 ∧ al1s f 26 8 := by
  constructor
  · intro h
    refine ⟨fun i hi => h i (by omega), fun i hi => ?_⟩
    have := h (5 + i) (by omega)
    rw [show 26 + i = 21 + (5 + i) by omega]; exact this
  · intro ⟨h1, h2⟩ i hi
    by_cases q : i < 5
    · exact h1 i q
    · have := h2 (i - 5) (by omega)
      rw [show 21 + i = 26 + (i - 5) by omega]; exact this
theorem xrS (a b : Int32) : 0 ≤ a ^^^ b ↔ (a < 0 ↔ b < 0) := by
  have ms : ∀ x : Int32, x < 0 ↔ x.toBitVec.msb = true := fun x => by
    rw [Int32.lt_iff_toInt_lt]
    show x.toBitVec.toInt < 0 ↔ _
    rw [BitVec.toInt_neg_iff, BitVec.msb_eq_true_iff_two_mul_ge]
  have h0 : 0 ≤ a ^^^ b ↔ ¬ (a ^^^ b) < 0 := by
    rw [Int32.le_iff_toInt_le, Int32.lt_iff_toInt_lt]
    have : (0 : Int32).toInt = 0 := by decide
    omega
  rw [h0, ms, ms, ms]
  have : (a ^^^ b).toBitVec.msb = (a.toBitVec.msb ^^ b.toBitVec.msb) := BitVec.msb_xor
  rw [this]
  cases a.toBitVec.msb <;> cases b.toBitVec.msb <;> simp
theorem dirS (a b : Int32) : (a &&& (-2147483648 : Int32)) = (b &&& (-2147483648 : Int32)) ↔ (a < 0 ↔ b < 0) := by
  have v : ∀ x : Int32, (x &&& (-2147483648 : Int32)) = if x < 0 then -2147483648 else 0 := fun x => by
    by_cases q : x < 0
    · rw [if_pos q]
      have h1 : ¬ (x &&& (-2147483648 : Int32)) = 0 := fun w => (dir_bit x).mp w q
      apply Int32.toBitVec_inj.mp
      show x.toBitVec &&& 2147483648#32 = 2147483648#32
      have hm : x.toBitVec.msb = true := by
        rw [Int32.lt_iff_toInt_lt] at q
        have q : x.toBitVec.toInt < 0 := q
        rw [BitVec.toInt_neg_iff] at q
        rw [BitVec.msb_eq_true_iff_two_mul_ge]; exact q
      apply BitVec.eq_of_getLsbD_eq
      intro i hi
      rw [BitVec.getLsbD_and]
      by_cases e : i = 31
      · subst e
        have : x.toBitVec.getLsbD 31 = true := by rw [BitVec.msb_eq_getLsbD_last] at hm; exact hm
        rw [this, Bool.true_and]
      · have : (2147483648#32).getLsbD i = false := by
          rw [BitVec.getLsbD_ofNat]
          have : Nat.testBit 2147483648 i = false := by
            rw [show 2147483648 = 2 ^ 31 from rfl, Nat.testBit_two_pow]
            simp; omega
          rw [this, Bool.and_false]
        rw [this, Bool.and_false]
    · rw [if_neg q]; exact (dir_bit x).mpr q
  rw [v, v]
  by_cases qa : a < 0 <;> by_cases qb : b < 0 <;> simp [qa, qb]
/-- the change's part may be anything while it runs -/
theorem InvZ.cc (h : InvZ t y b G m n r s np) (hrun : gi G 19 (y 3 0) = 1) (a : cC y G X) : InvZ t y b X m n r s np := by
  obtain ⟨hs, hz, hm, ⟨s1, s2, s3, s4, s5, s6⟩, hl, hu0, hT, hF0, h74, hnp, -⟩ := h
  have A : ∀ k i, k ≠ 17 → k ≠ 18 → yV k i = true → ai X (y k i) = ai G (y k i) := fun k i h1 h2 hv => a.2.2.2.1 _ (hs.ne (by omega) hv rfl) (hs.ne (by omega) hv rfl)
  have aF : ∀ k, agF y G X k := fun k f h1 h2 => ⟨a.1 f _ (by omega), a.2.2.1 f _, a.2.1 f _ (by omega)⟩
  have x19 : gi X 19 (y 3 0) = 1 := (a.1 19 _ (by omega)).trans hrun
  refine ⟨hs, a.fz hs hz, hm, ⟨by rw [a.1 _ _ (by omega)]; exact s1, by rw [a.1 _ _ (by omega)]; exact s2, by rw [a.1 _ _ (by omega)]; exact s3, by rw [a.1 _ _ (by omega)]; exact s4, by rw [a.1 _ _ (by omega)]; exact s5, by rw [a.1 _ _ (by omega), a.1 _ _ (by omega)]; exact s6⟩, fun q hq => (hl q hq).to ⟨fun f h1 h2 => a.1 f _ (by omega), A 11 q (by omega) (by omega) (by simp [yV, hq]), A 12 q (by omega) (by omega) (by simp [yV, hq])⟩ agLm.rf (fun w => by rw [x19] at w; exact absurd w (by decide)), fun k hk => (hu0 k hk).to (aF k) agFm.rf (fun w => by rw [x19] at w; exact absurd w (by decide)), hT.to (a.agT hs), fun k hk => (hF0 k hk).to (aF k) agFm.rf (fun j => ⟨a.1 0 _ (by omega), a.1 2 _ (by omega)⟩), h74, hnp, fun w => by rw [x19] at w; exact absurd w (by decide)⟩
/-- a staged message: an error, or nothing to do -/
theorem HR.cerr (P : Pre t y b c z f G m) (hZ : InvZ t y b G m n r s np) (a : cC y G X) {e : Nat} (he : e < 29) (he2 : e ≠ 2) {F : (GS → Option Nat → Prop) → Prop} {H : (GS → Prop) → Prop} (hF : ∀ K : GS → Option Nat → Prop, K X (some (tks t e)) → F K) (hH : ∀ K : GS → Prop, K (sl m 98 (y 1 0) (lN (er e))) → H K) : HR t y b c G m F H := by
  have I := (hZ.cc P.r a).of
  have kk := a.kk P.s
  exact ⟨X, _, e, he, I.x xC.rf (xM.rf.sl (f := 98)), a.e P.s, hF, hH, fun _ => ⟨fun q _ _ => by rw [kk.2.1 22 (by omega) (by omega)], rfl, gl_at, (kk.2.2 c P.hc).1, (kk.2.2 c P.hc).2, fun w => absurd w he2⟩⟩
theorem TrR.cBl_le {T : Nat → Int32} (h : TrR t y G T n r s np) (hj : lvN n r j) : cBl y G n r j ≤ tBl y G n r := by
  unfold tBl
  rcases hj with rfl | ⟨i, hi, rfl⟩
  · omega
  · rw [sm_take (w := fun i => cBl y G n r (r i)) hi]
    show cBl y G n r (r i) ≤ _ + (_ + cBl y G n r (r i))
    omega
end STGS
