/-! numbers out of bytes and bytes out of numbers (by hand) -/
/-- the number of n bytes from a place on -/
def nm (f : Nat → Nat) : Nat → Nat → Nat
  | _, 0 => 0
  | p, n + 1 => nm f (p + 1) n * 256 + f p
theorem nm_lt {f : Nat → Nat} (hf : ∀ k, f k < 256) : ∀ {n p : Nat}, nm f p n < 256 ^ n
  | 0, p => by simp [nm]
  | n + 1, p => by
    have h := @nm_lt f hf n (p + 1)
    have h2 := hf p
    show nm f (p + 1) n * 256 + f p < 256 ^ (n + 1)
    rw [Nat.pow_succ]
    omega
theorem nm_eq {f g : Nat → Nat} : ∀ {n p : Nat}, (∀ k, p ≤ k → k < p + n → f k = g k) → nm f p n = nm g p n
  | 0, p, _ => rfl
  | n + 1, p, h => by
    show nm f (p + 1) n * 256 + f p = nm g (p + 1) n * 256 + g p
    rw [nm_eq (fun k h1 h2 => h k (by omega) (by omega)), h p (by omega) (by omega)]
theorem p256 : ∀ {n : Nat}, n ≤ 8 → 256 ^ n ≤ 2 ^ 64 := by decide
theorem nm_l {f : Nat → Nat} (hf : ∀ k, f k < 256) {n p : Nat} (hn : n ≤ 8) : nm f p n < 2 ^ 64 := Nat.lt_of_lt_of_le (nm_lt hf) (p256 hn)
theorem sb_and : ∀ v, v < 256 → sb v &&& 255 = nI v := by decide +kernel
theorem sb_andl : ∀ v, v < 256 → (sb v).toInt64 &&& 255 = lN v := by decide +kernel
theorem sb_inj {v w : Nat} (hv : v < 256) (hw : w < 256) (h : sb v = sb w) : v = w := by
  have := sb_and v hv
  rw [h, sb_and w hw] at this
  exact ((nI_eq (by omega) (by omega)).mp this).symm
theorem sb_mod (w : Nat) : (nI w).toInt8.toInt32 = sb (w % 256) := by
  have e : (nI w).toInt8 = (nI (w % 256)).toInt8 := by
    show (Int32.ofNat w).toInt8 = (Int32.ofNat (w % 256)).toInt8
    rw [Int32.toInt8_ofNat', Int32.toInt8_ofNat']
    apply Int8.toBitVec_inj.mp
    show BitVec.ofNat 8 w = BitVec.ofNat 8 (w % 256)
    apply BitVec.eq_of_toNat_eq
    rw [BitVec.toNat_ofNat, BitVec.toNat_ofNat]
    omega
  unfold sb; rw [e]
theorem nb_sb (v : Nat) : vp_nar .byte (sb v) = sb v := pk_vb _
/-- one more byte below -/
theorem sh8 {a b : Nat} (hb : b < 256) (h : a * 256 + b < 2 ^ 64) : (lN a <<< ((8 : Int32).toInt64 &&& 63)) ||| lN b = lN (a * 256 + b) := by
  have e : lN a <<< ((8 : Int32).toInt64 &&& 63) = lN (a * 2 ^ 8) := wb_shl a (k := 8) (by decide)
  rw [e, show (2 : Nat) ^ 8 = 256 from rfl]
  exact g_or (k := 8) (p := 256) rfl hb h
theorem mul8 {i : Nat} : (8 : Int32) * nI i = nI (8 * i) := by rw [show (8 : Int32) = nI 8 from rfl, pk_mul]
theorem pw8 (i : Nat) : 2 ^ (8 * i) = 256 ^ i := by rw [Nat.pow_mul]
/-- byte i of a number, as the class writes it -/
theorem byC {v i : Nat} (hv : v < 2 ^ 64) (hi : i < 8) : vp_nar .byte (((lN v).toUInt64 >>> (((8 : Int32) * nI i).toInt64.toUInt64 &&& Int64.toUInt64 63)).toInt64.toInt32.toInt8.toInt32) = sb (v / 256 ^ i % 256) := by
  rw [mul8, wb_shr hv (by omega), lN_i, sb_mod, pw8, nb_sb]
theorem sar (x : BitVec 64) (s : Nat) (hs : s ≤ 56) : x.sshiftRight s &&& 255#64 = (x >>> s) &&& 255#64 := by
  apply BitVec.eq_of_getLsbD_eq
  intro i hi
  rw [BitVec.getLsbD_and, BitVec.getLsbD_and]
  by_cases q : i < 8
  · rw [BitVec.getLsbD_sshiftRight, BitVec.getLsbD_ushiftRight]
    have : ¬ 64 ≤ i := by omega
    simp only [this, decide_false, Bool.not_false, Bool.true_and, show s + i < 64 by omega, if_true]
  · have : (255#64).getLsbD i = false := by
      rw [BitVec.getLsbD_ofNat]
      have : Nat.testBit 255 i = false := Nat.testBit_lt_two_pow (Nat.lt_of_lt_of_le (by decide : 255 < 2 ^ 8) (Nat.pow_le_pow_right (by decide) (by omega)))
      rw [this, Bool.and_false]
    rw [this, Bool.and_false, Bool.and_false]
/-- .. and as the reference does -/
theorem byM {v i : Nat} (hv : v < 2 ^ 64) (hi : i < 8) : ((lN v >>> (((8 : Int32) * nI i).toInt64 &&& 63)) &&& (255 : Int64)).toInt32 = nI (v / 256 ^ i % 256) := by
  have e : lN v >>> (((8 : Int32) * nI i).toInt64 &&& 63) &&& (255 : Int64) = lN (v / 256 ^ i % 256) := by
    rw [mul8, wb_c (8 * i) (by omega)]
    apply wb_inj
    show (BitVec.ofNat 64 v).sshiftRight ((BitVec.ofNat 64 (8 * i)).smod 64).toNat &&& 255#64 = BitVec.ofNat 64 (v / 256 ^ i % 256)
    rw [wb_sm (8 * i) (by omega), BitVec.toNat_ofNat, Nat.mod_eq_of_lt (show 8 * i < 2 ^ 64 by omega), sar _ _ (by omega)]
    apply BitVec.eq_of_toNat_eq
    rw [BitVec.toNat_and, BitVec.toNat_ushiftRight, BitVec.toNat_ofNat, BitVec.toNat_ofNat, BitVec.toNat_ofNat, Nat.mod_eq_of_lt hv, Nat.shiftRight_eq_div_pow, pw8, show 255 % 2 ^ 64 = 2 ^ 8 - 1 from rfl, Nat.and_two_pow_sub_one_eq_mod]
    omega
  rw [e, lN_i]
section NUM
variable {t : TY} {y : LYT} {G m : GS}
/-- the message: z bytes f; behind them f is 0 -/
def MsC (y : LYT) (G : GS) (z : Nat) (f : Nat → Nat) : Prop := gi G 37 (y 8 0) = nI z ∧ ∀ k, k < z → ai G (y 19 0) k = sb (f k)
def MsM (y : LYT) (m : GS) (z : Nat) (f : Nat → Nat) : Prop := gi m 95 (y 1 0) = nI z ∧ ∀ k, k < z → ai m (y 30 94) k = nI (f k)
def MsF (z : Nat) (f : Nat → Nat) : Prop := 7 ≤ z ∧ z ≤ 128 ∧ (∀ k, f k < 256) ∧ ∀ k, z ≤ k → f k = 0
/-- the class reads a number -/
theorem S_number (hs : SH t y) (hz : FZ y G) {z : Nat} {f : Nat → Nat} (hf : MsF z f) (h : MsC y G z f) {p n : Nat} (hp : p + n < 2 ^ 31) (hn : n ≤ 8) {K : Int64 → Prop} (k : K (lN (nm f p n))) : w_Message_number t G (y 8 0) (nI p) (nI n) K := by
  obtain ⟨h1, h2, h3, h4⟩ := hf
  obtain ⟨g1, g2⟩ := h
  have key : ∀ i, i ≤ n → w_Message_number_7 t G (y 8 0) K (i + 1) (nI p) (lN (nm f (p + i) (n - i))) (nI i - 1) := fun i => by
    induction i with
    | zero =>
      intro _
      unfold w_Message_number_7
      exact iT (show nI 0 - 1 < 0 by decide) k
    | succ i ih =>
      intro hi
      have ih := ih (by omega)
      have e1 : nI (i + 1) - 1 = nI i := nI_pred i
      have e2 : nI i + (-1) = nI i - 1 := by
        cases i with
        | zero => decide
        | succ q => rw [pk_m1, nI_pred]
      have e3 : nm f (p + i) (n - i) = nm f (p + (i + 1)) (n - (i + 1)) * 256 + f (p + i) := by
        rw [show n - i = n - (i + 1) + 1 by omega]; rfl
      have e4 : nm f (p + (i + 1)) (n - (i + 1)) * 256 + f (p + i) < 2 ^ 64 := by rw [← e3]; exact nm_l h3 (by omega)
      have step : ∀ s1, s1 = nI (f (p + i)) → w_Message_number_51 t G (y 8 0) K (w_Message_number_7 t G (y 8 0) K (i + 1)) (nI p) (nI i) (lN (nm f (p + (i + 1)) (n - (i + 1))) <<< ((8 : Int32).toInt64 &&& 63)) s1 := fun s1 hs1 => by
        intro v1 e5 v2 e6
        rw [hs1, nI_l (by have := h3 (p + i); omega), sh8 (h3 _) e4, ← e3] at e5
        rw [e2] at e6
        subst e5 e6
        exact ih
      rw [e1]
      refine iF (nI_pos (by omega)) ?_
      intro v1 e5
      rw [nI_add] at e5
      subst e5
      refine iF (nI_pos (by omega)) ⟨hs.k 8 0, ?_⟩
      rw [g1]
      by_cases q : p + i < z
      · refine iF (nI_ge q (by omega)) ⟨y 19 0, hz.2.2.1.1, hs.k 19 0, by rw [hs.n 19 0]; exact vp_lt (N := 128) (by omega), step _ ?_⟩
        rw [nI_clamp (by omega), g2 _ q, sb_and _ (h3 _)]
      · refine iT (nI_le (by omega) (by omega)) (step _ ?_)
        rw [h4 _ (by omega)]; rfl
  intro v1 e1
  subst e1
  refine ⟨n + 1, ?_⟩
  have := key n (Nat.le_refl _)
  rw [Nat.sub_self] at this
  exact this
/-- the reference does -/
theorem M_get (hs : SH t y) (hz : FZ y m) {z : Nat} {f : Nat → Nat} (hf : MsF z f) (h : MsM y m z f) {p n : Nat} (hp : p + n ≤ z) (hn : n ≤ 8) {K : Int64 → Prop} (k : K (lN (nm f p n))) : w_M_get t m (y 1 0) (nI p) (nI n) K := by
  obtain ⟨h1, h2, h3, h4⟩ := hf
  obtain ⟨g1, g2⟩ := h
  have key : ∀ i, i ≤ n → w_M_get_7 t m (y 1 0) K (i + 1) (nI p) (lN (nm f (p + i) (n - i))) (nI i - 1) := fun i => by
    induction i with
    | zero =>
      intro _
      unfold w_M_get_7
      exact iT (show nI 0 - 1 < 0 by decide) k
    | succ i ih =>
      intro hi
      have ih := ih (by omega)
      have e2 : nI i + (-1) = nI i - 1 := by
        cases i with
        | zero => decide
        | succ q => rw [pk_m1, nI_pred]
      have e3 : nm f (p + i) (n - i) = nm f (p + (i + 1)) (n - (i + 1)) * 256 + f (p + i) := by
        rw [show n - i = n - (i + 1) + 1 by omega]; rfl
      have e4 : nm f (p + (i + 1)) (n - (i + 1)) * 256 + f (p + i) < 2 ^ 64 := by rw [← e3]; exact nm_l h3 (by omega)
      rw [nI_pred]
      refine iF (nI_pos (by omega)) ⟨hs.k 1 0, y 30 94, hz.m 94, hs.k 30 94, by rw [hs.n 30 94, nI_add]; exact vp_lt (N := 128) (by omega), ?_⟩
      intro v1 e5 v2 e6
      rw [nI_add, nI_clamp (by omega), g2 _ (by omega), nI_l (by have := h3 (p + i); omega), sh8 (h3 _) e4, ← e3] at e5
      rw [e2] at e6
      subst e5 e6
      exact ih
  intro v1 e1
  subst e1
  refine ⟨n + 1, ?_⟩
  have := key n (Nat.le_refl _)
  rw [Nat.sub_self] at this
  exact this
end NUM
