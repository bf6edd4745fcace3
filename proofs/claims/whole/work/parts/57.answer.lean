/-! the answers (by hand) -/
section ANS
variable {t : TY} {y : LYT} {G m : GS}
/-- a state with these bytes of the answer, and so many: the class's, the reference's -/
def cP (y : LYT) (G : GS) (A : Nat → Int32) (l : Nat) : GS := si (aw G (y 22 0) A) 45 (y 9 0) (nI l)
def mP (y : LYT) (m : GS) (B : Nat → Int32) (l : Nat) : GS := si (aw m (y 30 96) B) 97 (y 1 0) (nI l)
theorem cP_self {l : Nat} (h : gi G 45 (y 9 0) = nI l) : cP y G (ai G (y 22 0)) l = G := by unfold cP; rw [aw_self, ← h, si_self]
theorem mP_self {l : Nat} (h : gi m 97 (y 1 0) = nI l) : mP y m (ai m (y 30 96)) l = m := by unfold mP; rw [aw_self, ← h, si_self]
theorem cP_z (hs : SH t y) (hz : FZ y G) {A : Nat → Int32} {l : Nat} : FZ y (cP y G A l) := hz.to hs (sZ.of (fun _ _ => rfl) (fun _ => rfl))
theorem mP_z (hs : SH t y) (hz : FZ y m) {A : Nat → Int32} {l : Nat} : FZ y (mP y m A l) := hz.to hs (sZ.of (fun _ _ => rfl) (fun _ => rfl))
theorem cP_i {A : Nat → Int32} {l f a : Nat} (h : f ≠ 45) : gi (cP y G A l) f a = gi G f a := gi_ne h
theorem mP_i {A : Nat → Int32} {l f a : Nat} (h : f ≠ 97) : gi (mP y m A l) f a = gi m f a := gi_ne h
theorem cP_l {A : Nat → Int32} {l : Nat} : gi (cP y G A l) 45 (y 9 0) = nI l := gi_at
theorem mP_l {A : Nat → Int32} {l : Nat} : gi (mP y m A l) 97 (y 1 0) = nI l := gi_at
theorem cP_a {A : Nat → Int32} {l b : Nat} (h : b ≠ y 22 0) : ai (cP y G A l) b = ai G b := aw_ne h
theorem mP_a {A : Nat → Int32} {l b : Nat} (h : b ≠ y 30 96) : ai (mP y m A l) b = ai m b := aw_ne h
theorem cP_A {A : Nat → Int32} {l : Nat} : ai (cP y G A l) (y 22 0) = A := aw_at
theorem mP_A {A : Nat → Int32} {l : Nat} : ai (mP y m A l) (y 30 96) = A := aw_at
theorem cP_70 (hs : SH t y) {B : Nat → Int32} {l : Nat} : ai (mP y m B l) (y 30 70) = ai m (y 30 70) := mP_a (hs.ne (by omega))
theorem cP_step {A : Nat → Int32} {l : Nat} {x : Int32} : si (ais (cP y G A l) (y 22 0) l x) 45 (y 9 0) (nI l + 1) = cP y G (fun k => if k = l then x else A k) (l + 1) := by
  have e : ais (cP y G A l) (y 22 0) l x = cP y G (fun k => if k = l then x else A k) l := by
    show si (ais (aw G (y 22 0) A) (y 22 0) l x) 45 (y 9 0) (nI l) = _
    rw [aw_ais]; rfl
  rw [e]; unfold cP; rw [si_si, nI_1]
theorem mP_step {A : Nat → Int32} {l : Nat} {x : Int32} : si (ais (mP y m A l) (y 30 96) l x) 97 (y 1 0) (nI l + 1) = mP y m (fun k => if k = l then x else A k) (l + 1) := by
  have e : ais (mP y m A l) (y 30 96) l x = mP y m (fun k => if k = l then x else A k) l := by
    show si (ais (aw m (y 30 96) A) (y 30 96) l x) 97 (y 1 0) (nI l) = _
    rw [aw_ais]; rfl
  rw [e]; unfold mP; rw [si_si, nI_1]
/-- bytes put behind others -/
def pB (s : Nat → Int32) (A : Nat → Int32) (l v i : Nat) : Nat → Int32 := fun k => if l ≤ k ∧ k < l + i then s (v / 256 ^ (k - l) % 256) else A k
theorem pB_0 {s A : Nat → Int32} {l v : Nat} : pB s A l v 0 = A := funext fun k => if_neg (by omega)
theorem pB_s {s A : Nat → Int32} {l v i : Nat} : (fun k => if k = l + i then s (v / 256 ^ i % 256) else pB s A l v i k) = pB s A l v (i + 1) := funext fun k => by
  unfold pB
  by_cases q : k = l + i
  · rw [if_pos q, if_pos (by omega), show k - l = i by omega]
  · rw [if_neg q]
    by_cases q2 : l ≤ k ∧ k < l + i
    · rw [if_pos q2, if_pos (by omega)]
    · rw [if_neg q2, if_neg (by omega)]
theorem S_put (hs : SH t y) (hz : FZ y G) {A : Nat → Int32} {l v n : Nat} (hv : v < 2 ^ 64) (hn : n ≤ 8) (hl : l + n ≤ 128) {K : GS → Prop} (k : K (cP y G (pB sb A l v n) (l + n))) : w_Answer_put t (cP y G A l) (y 9 0) (lN v) (nI n) K := by
  have key := pk_loop (fun q i (_ : Unit) => w_Answer_put_3 t (y 9 0) K q (lN v) (nI n) (nI i) (cP y G (pB sb A l v i) (l + i))) (fun _ _ => True) n 0 () (by omega) trivial (fun q _ _ => ?_) (fun q i _ hi _ ih => ?_)
  · obtain ⟨q, hq⟩ := key
    refine ⟨q, ?_⟩
    have hq : w_Answer_put_3 t (y 9 0) K q (lN v) (nI n) (nI 0) (cP y G (pB sb A l v 0) (l + 0)) := hq
    rw [pB_0] at hq
    exact hq
  · exact iT (Int32.le_refl _) k
  · refine iF (nI_ge hi (by omega)) ⟨hs.k 9 0, y 22 0, (cP_z hs hz).2.2.1.2.2.2, hs.k 22 0, ?_⟩
    rw [cP_l, hs.n 22 0]
    refine iF (nI_ge (b := 128) (by omega) (by decide)) ⟨vp_lt (N := 128) (by omega), ?_⟩
    intro G2 e2 G3 e3 v4 e4
    rw [nI_clamp (by omega), byC hv (by omega)] at e2
    have e5 : gi G2 45 (y 9 0) = nI (l + i) := by rw [e2]; exact cP_l
    rw [e5, e2, cP_step, pB_s] at e3
    rw [nI_1] at e4
    subst e3 e4
    exact ih () trivial
theorem M_put (hs : SH t y) (hz : FZ y m) {A : Nat → Int32} {l v n : Nat} (hv : v < 2 ^ 64) (hn : n ≤ 8) (hl : l + n ≤ 128) {K : GS → Prop} (k : K (mP y m (pB nI A l v n) (l + n))) : w_M_put t (mP y m A l) (y 1 0) (lN v) (nI n) K := by
  have key := pk_loop (fun q i (_ : Unit) => w_M_put_3 t (y 1 0) K q (lN v) (nI n) (nI i) (mP y m (pB nI A l v i) (l + i))) (fun _ _ => True) n 0 () (by omega) trivial (fun q _ _ => ?_) (fun q i _ hi _ ih => ?_)
  · obtain ⟨q, hq⟩ := key
    refine ⟨q, ?_⟩
    have hq : w_M_put_3 t (y 1 0) K q (lN v) (nI n) (nI 0) (mP y m (pB nI A l v 0) (l + 0)) := hq
    rw [pB_0] at hq
    exact hq
  · exact iT (Int32.le_refl _) k
  · refine iF (nI_ge hi (by omega)) ⟨hs.k 1 0, y 30 96, (mP_z hs hz).m 96, hs.k 30 96, ?_⟩
    rw [mP_l, hs.n 30 96]
    refine ⟨vp_lt (N := 160) (by omega), ?_⟩
    intro G2 e2 G3 e3 v4 e4
    rw [nI_clamp (by omega), byM hv (by omega)] at e2
    have e5 : gi G2 97 (y 1 0) = nI (l + i) := by rw [e2]; exact mP_l
    rw [e5, e2, mP_step, pB_s] at e3
    rw [nI_1] at e4
    subst e3 e4
    exact ih () trivial
/-- both put n bytes, the same ones -/
def Pw (y : LYT) (G m : GS) (n : Nat) (f g : GS → (GS → Prop) → Prop) : Prop := ∀ A B l, l + n ≤ 128 → ∃ A' B', (∀ k, k < l → A' k = A k ∧ B' k = B k) ∧ (∀ k, l ≤ k → k < l + n → ∃ v, v < 256 ∧ A' k = sb v ∧ B' k = nI v) ∧ (∀ K : GS → Prop, K (cP y G A' (l + n)) → f (cP y G A l) K) ∧ (∀ K : GS → Prop, K (mP y m B' (l + n)) → g (mP y m B l) K)
theorem Pw.seq {n1 n2 : Nat} {f1 g1 f2 g2 : GS → (GS → Prop) → Prop} (a : Pw y G m n1 f1 g1) (b : Pw y G m n2 f2 g2) : Pw y G m (n1 + n2) (fun X K => f1 X (fun X' => f2 X' K)) (fun X K => g1 X (fun X' => g2 X' K)) := fun A B l hl => by
  obtain ⟨A1, B1, a1, a2, a3, a4⟩ := a A B l (by omega)
  obtain ⟨A2, B2, b1, b2, b3, b4⟩ := b A1 B1 (l + n1) (by omega)
  refine ⟨A2, B2, fun k hk => ?_, fun k h1 h2 => ?_, fun K hK => a3 _ (b3 K ?_), fun K hK => a4 _ (b4 K ?_)⟩
  · have x := b1 k (by omega)
    have z := a1 k hk
    exact ⟨x.1.trans z.1, x.2.trans z.2⟩
  · by_cases q : k < l + n1
    · have x := b1 k q
      obtain ⟨v, v1, v2, v3⟩ := a2 k h1 q
      exact ⟨v, v1, x.1.trans v2, x.2.trans v3⟩
    · exact b2 k (by omega) (by omega)
  · rw [← Nat.add_assoc] at hK; exact hK
  · rw [← Nat.add_assoc] at hK; exact hK
theorem Pw.mono {n : Nat} {f g f' g' : GS → (GS → Prop) → Prop} (a : Pw y G m n f g) (hf : ∀ A l K, f (cP y G A l) K → f' (cP y G A l) K) (hg : ∀ B l K, g (mP y m B l) K → g' (mP y m B l) K) : Pw y G m n f' g' := fun A B l hl => by
  obtain ⟨A1, B1, a1, a2, a3, a4⟩ := a A B l hl
  exact ⟨A1, B1, a1, a2, fun K hK => hf _ _ _ (a3 K hK), fun K hK => hg _ _ _ (a4 K hK)⟩
theorem Pw.nil {f g : GS → (GS → Prop) → Prop} (hf : ∀ A l (K : GS → Prop), K (cP y G A l) → f (cP y G A l) K) (hg : ∀ B l (K : GS → Prop), K (mP y m B l) → g (mP y m B l) K) : Pw y G m 0 f g := fun A B l _ => ⟨A, B, fun _ _ => ⟨rfl, rfl⟩, fun _ h1 h2 => by omega, fun K hK => hf _ _ _ hK, fun K hK => hg _ _ _ hK⟩
theorem Pw.put (hs : SH t y) (hz : FZ y G) (hm : FZ y m) (x : Int64) {n : Nat} (hn : n ≤ 8) {f g : GS → (GS → Prop) → Prop} (hf : ∀ A l K, w_Answer_put t (cP y G A l) (y 9 0) x (nI n) K → f (cP y G A l) K) (hg : ∀ B l K, w_M_put t (mP y m B l) (y 1 0) x (nI n) K → g (mP y m B l) K) : Pw y G m n f g := fun A B l hl => by
  obtain ⟨v, hv, rfl⟩ := wb_of x
  refine ⟨pB sb A l v n, pB nI B l v n, fun k hk => ⟨if_neg (by omega), if_neg (by omega)⟩, fun k h1 h2 => ⟨v / 256 ^ (k - l) % 256, Nat.mod_lt _ (by omega), if_pos ⟨h1, h2⟩, if_pos ⟨h1, h2⟩⟩, fun K hK => hf _ _ _ (S_put hs hz hv hn hl hK), fun K hK => hg _ _ _ (M_put hs hm hv hn hl hK)⟩
/-- the strings' bytes -/
def chn (j i : Nat) : Nat := (sch j i).toNatClampNeg
def er (j : Nat) : Nat := nm (chn j) 0 (slen j)
theorem str7 : ∀ j, j < 29 → slen j ≤ 7 ∧ er j < 256 ^ slen j ∧ (slen j = 0 ∨ 256 ^ (slen j - 1) ≤ er j) := by decide +kernel
theorem strC : ∀ j, j < 29 → ∀ i, i < 7 → i < slen j → sch j i = nI (er j / 256 ^ i % 256) := by decide +kernel
theorem M_lengthOf {v n : Nat} (hn : n ≤ 7) (h1 : v < 256 ^ n) (h2 : n = 0 ∨ 256 ^ (n - 1) ≤ v) {K : Int32 → Prop} (k : K (nI n)) : w_M_lengthOf t m (lN v) K := by
  have key : ∀ (n c v : Nat), n ≤ 7 → v < 256 ^ n → (n = 0 ∨ 256 ^ (n - 1) ≤ v) → K (nI (c + n)) → w_M_lengthOf_4 t m K (n + 1) (nI c) (lN v) := fun n => by
    induction n with
    | zero =>
      intro c v _ h1 _ hk
      have : v = 0 := by simpa using h1
      subst this
      unfold w_M_lengthOf_4
      exact iT rfl hk
    | succ n ih =>
      intro c v hn h1 h2 hk
      have hb : (256 : Nat) ^ (n + 1) ≤ 2 ^ 63 := Nat.le_trans (Nat.pow_le_pow_right (by decide) hn) (by decide)
      have hp : 0 < (256 : Nat) ^ n := Nat.pow_pos (by decide)
      have h2 : 256 ^ n ≤ v := by rcases h2 with z | z; omega; exact z
      refine iF (fun q => ?_) ?_
      · have := (pk_lEQ (a := v) (b := 0) (by omega) (by decide)).mp q
        omega
      · intro v1 e1 v2 e2
        have e3 := wb_shr (n := v) (k := 8) (by omega) (by decide)
        rw [nI_1] at e1
        have e2 : v2 = lN (v / 256) := e2.trans e3
        subst e1 e2
        refine ih (c + 1) (v / 256) (by omega) ?_ ?_ (by rw [show c + 1 + n = c + (n + 1) by omega]; exact hk)
        · rw [Nat.pow_succ] at h1; omega
        · cases n with
          | zero => exact Or.inl rfl
          | succ q => right; rw [Nat.pow_succ] at h2; rw [show q + 1 - 1 = q by omega]; omega
  exact ⟨n + 1, key n 0 v hn h1 h2 (by rw [Nat.zero_add]; exact k)⟩
theorem lN_0 : (0 : Int64) = lN 0 := rfl
/-- both put a string -/
theorem Pw.text (hs : SH t y) (hz : FZ y G) (hm : FZ y m) {j : Nat} (hj : j < 29) {f g : GS → (GS → Prop) → Prop} (hf : ∀ A l K, w_Answer_putText t (cP y G A l) (y 9 0) (some (tks t j)) K → f (cP y G A l) K) (hg : ∀ B l K, w_M_say t (mP y m B l) (y 1 0) (lN (er j)) K → g (mP y m B l) K) : Pw y G m (2 + slen j) f g := by
  obtain ⟨s7, s1, s2⟩ := str7 j hj
  have hv : er j < 2 ^ 64 := Nat.lt_of_lt_of_le s1 (p256 (by omega))
  -- the class's characters
  have cl : ∀ A l (K : GS → Prop), l + slen j ≤ 128 → K (cP y G (pB sb A l (er j) (slen j)) (l + slen j)) → ∃ n, w_Answer_putText_12 t (y 9 0) K n (some (tks t j)) 0 (cP y G A l) := fun A l K hl hK => by
    have key := pk_loop (fun q i (_ : Unit) => w_Answer_putText_12 t (y 9 0) K q (some (tks t j)) (nI i) (cP y G (pB sb A l (er j) i) (l + i))) (fun _ _ => True) (slen j) 0 () (by omega) trivial (fun q _ _ => ?_) (fun q i _ hi _ ih => ?_)
    · obtain ⟨q, hq⟩ := key
      refine ⟨q, ?_⟩
      have hq : w_Answer_putText_12 t (y 9 0) K q (some (tks t j)) (nI 0) (cP y G (pB sb A l (er j) 0) (l + 0)) := hq
      rw [pB_0] at hq
      exact hq
    · exact ⟨j, hj, rfl, iT (Int32.le_refl _) hK⟩
    · refine ⟨j, hj, rfl, iF (nI_ge hi (by omega)) ⟨j, hj, rfl, vp_lt hi (by omega), hs.k 9 0, ?_⟩⟩
      rw [nI_clamp (by omega), strC j hj i (by omega) hi, nI_l (by omega)]
      have hb : er j / 256 ^ i % 256 < 256 := Nat.mod_lt _ (by omega)
      refine S_put (n := 1) hs hz (by omega) (by omega) (by omega) ?_
      intro v4 e4
      rw [nI_1] at e4
      subst e4
      have e : pB sb (pB sb A l (er j) i) (l + i) (er j / 256 ^ i % 256) 1 = pB sb A l (er j) (i + 1) := by
        rw [← pB_s, ← pB_s (i := i)]
        rw [pB_0]
        funext k
        show (if k = l + i + 0 then sb (er j / 256 ^ i % 256 / 256 ^ 0 % 256) else _) = _
        rw [Nat.pow_zero, Nat.div_one, Nat.mod_eq_of_lt hb, Nat.add_zero]
      rw [e]
      exact ih () trivial
  intro A B l hl
  refine ⟨pB sb (pB sb A l (slen j) 2) (l + 2) (er j) (slen j), pB nI (pB nI B l (slen j) 2) (l + 2) (er j) (slen j), fun k hk => ?_, fun k h1 h2 => ?_, fun K hK => hf _ _ _ ?_, fun K hK => hg _ _ _ ?_⟩
  · unfold pB; rw [if_neg (by omega), if_neg (by omega), if_neg (by omega), if_neg (by omega)]; exact ⟨rfl, rfl⟩
  · by_cases q : k < l + 2
    · refine ⟨slen j / 256 ^ (k - l) % 256, Nat.mod_lt _ (by omega), ?_, ?_⟩
      · unfold pB; rw [if_neg (by omega), if_pos ⟨h1, q⟩]
      · unfold pB; rw [if_neg (by omega), if_pos ⟨h1, q⟩]
    · exact ⟨er j / 256 ^ (k - (l + 2)) % 256, Nat.mod_lt _ (by omega), if_pos (by omega), if_pos (by omega)⟩
  · refine ⟨j, hj, rfl, hs.k 9 0, ?_⟩
    rw [nI_l (by omega)]
    refine S_put (n := 2) hs hz (by omega) (by omega) (by omega) (cl _ _ _ (by omega) ?_)
    rw [show l + 2 + slen j = l + (2 + slen j) by omega]; exact hK
  · refine M_lengthOf s7 s1 s2 ⟨hs.k 1 0, ?_⟩
    rw [nI_l (by omega)]
    refine M_put (n := 2) hs hm (by omega) (by omega) (by omega) (M_put hs hm hv (by omega) (by omega) ?_)
    rw [show l + 2 + slen j = l + (2 + slen j) by omega]; exact hK
/-- both put a node's qid -/
theorem Pw.qid (hs : SH t y) (hz : FZ y G) (hm : FZ y m) {j n : Nat} (hj : j < 23) (hn : n < 21) (h : NdR t y G (ai m (y 30 70)) j n) : Pw y G m 13 (fun X K => w_Answer_putQid t X (y 9 0) (y 5 j) K) (fun X K => w_M_qid t X (y 1 0) (nI n) K) := by
  obtain ⟨h0, h1, h2, h3, -⟩ := h
  have mA : ∀ B l c, ai (mP y m B l) (y 30 70) c = ai m (y 30 70) c := fun B l c => by rw [cP_70 hs]
  refine Pw.mono (((Pw.put (n := 1) hs hz hm (((gi G 2 (y 5 j)).toUInt32 >>> ((24 : Int32).toUInt32 &&& Int32.toUInt32 31)).toInt32.toInt64) (by omega) (f := fun X K => w_Answer_put t X (y 9 0) (((gi X 2 (y 5 j)).toUInt32 >>> ((24 : Int32).toUInt32 &&& Int32.toUInt32 31)).toInt32.toInt64) (1 : Int32) K) (g := fun X K => w_M_at t X (y 1 0) (nI n) (3 : Int32) (fun v1 => w_M_put t X (y 1 0) ((v1.toUInt32 >>> ((24 : Int32).toUInt32 &&& Int32.toUInt32 31)).toInt32.toInt64) (1 : Int32) K)) (fun A l K q => ?_) (fun B l K q => ?_)).seq (Pw.put (n := 4) hs hz hm ((gi G 1 (y 5 j)).toInt64) (by omega) (f := fun X K => w_Answer_put t X (y 9 0) ((gi X 1 (y 5 j)).toInt64) (4 : Int32) K) (g := fun X K => w_M_at t X (y 1 0) (nI n) (2 : Int32) (fun v1 => w_M_put t X (y 1 0) v1.toInt64 (4 : Int32) K)) (fun A l K q => ?_) (fun B l K q => ?_))).seq (Pw.put (n := 8) hs hz hm ((gi G 0 (y 5 j)).toInt64) (by omega) (f := fun X K => w_Answer_put t X (y 9 0) ((gi X 0 (y 5 j)).toInt64) (8 : Int32) K) (g := fun X K => w_M_at t X (y 1 0) (nI n) (1 : Int32) (fun v1 => w_M_put t X (y 1 0) v1.toInt64 (8 : Int32) K)) (fun A l K q => ?_) (fun B l K q => ?_))) (fun A l K q => ⟨hs.k 5 j (by simp [yV, hj]), hs.k 9 0, q⟩) (fun B l K q => ⟨hs.k 1 0, q⟩)
  · rw [cP_i (by omega)]; exact q
  · exact M_at (c := 3) hs (mP_z hs hm) hn (by omega) (by rw [mA, h3]; exact q)
  · rw [cP_i (by omega)]; exact q
  · exact M_at (c := 2) hs (mP_z hs hm) hn (by omega) (by rw [mA, h2]; exact q)
  · rw [cP_i (by omega)]; exact q
  · exact M_at (c := 1) hs (mP_z hs hm) hn (by omega) (by rw [mA, h1]; exact q)
end ANS
