/-! a fid with its node, and the message that opens it (by hand) -/
def FP (t : TY) (y : LYT) (b c z : Nat) (f : Nat → Nat) (G m : GS) (n : Nat) (r s : Nat → Nat) (np k j u : Nat) : Prop := Pre t y b c z f G m ∧ InvZ t y b G m n r s np ∧ k < 12 ∧ gi G 46 (y 14 k) = 1 ∧ lvN n r j ∧ u < 3 ∧ gr G 48 (y 14 k) = some (y 5 j) ∧ gr G 50 (y 14 k) = some (tad t u) ∧ gi m 99 (y 1 0) = nI u ∧ ai m (y 30 90) k = gi G 51 (y 14 k) ∧ (gi G 51 (y 14 k) = -1 ∨ ∃ o, o < 4 ∧ gi G 51 (y 14 k) = nI o ∧ (o ≠ 0 → ¬ gi G 2 (y 5 j) < 0))
/-- what a mode asks for -/
def okL (md : Int32) (v : Int32) (u g o : Nat) : Prop := (((v &&& 3) = 0 ∨ (v &&& 3) = 2) → mOk md 4 u g o) ∧ (((v &&& 3) = 1 ∨ (v &&& 3) = 2 ∨ ¬ (v &&& 16) = 0) → mOk md 2 u g o) ∧ ((v &&& 3) = 3 → mOk md 1 u g o)
/-- all but what lies in the fids' arrays is the same -/
def oM (y : LYT) (m m' : GS) : Prop := (∀ f a, gi m' f a = gi m f a) ∧ (∀ f a, gr m' f a = gr m f a) ∧ (∀ b, ar m' b = ar m b) ∧ ∀ b, (∀ f, 87 ≤ f → f ≤ 93 → b ≠ y 30 f) → ai m' b = ai m b
section OPH
variable {t : TY} {y : LYT} {b c z k j u : Nat} {f : Nat → Nat} {G m m' : GS} {n np : Nat} {r s : Nat → Nat}
theorem FP.hj (h : FP t y b c z f G m n r s np k j u) : lvN n r j := h.2.2.2.2.1
theorem FP.np31 (h : FP t y b c z f G m n r s np k j u) : np < 2 ^ 31 := h.2.1.np31 h.1.hb
theorem FP.tr (h : FP t y b c z f G m n r s np k j u) : TrR t y G (ai m (y 30 70)) n r s np := h.2.1.2.2.2.2.2.2.1
theorem oM_si (a : oM y m m') {f x : Nat} {v : Int32} : oM y (si m f x v) (si m' f x v) := ⟨fun g d => by rw [giS, giS, a.1 g d], a.2.1, a.2.2.1, a.2.2.2⟩
theorem oM_ais (a : oM y m m') {x i : Nat} {v : Int32} : oM y (ais m x i v) (ais m' x i v) := ⟨a.1, a.2.1, a.2.2.1, fun b h => funext fun q => by rw [aiA, aiA, congrFun (a.2.2.2 b h) q]⟩
theorem oM_aw (a : oM y m m') {x : Nat} {v : Nat → Int32} : oM y (aw m x v) (aw m' x v) := ⟨a.1, a.2.1, a.2.2.1, fun b h => by
  by_cases q : b = x
  · rw [q, aw_at, aw_at]
  · rw [aw_ne q, aw_ne q]; exact a.2.2.2 b h⟩
theorem oM.ar' (a : oM y m m') (hs : SH t y) {f : Nat} (hv : yV 30 f = true) (h : f < 87 ∨ 93 < f) : ai m' (y 30 f) = ai m (y 30 f) := a.2.2.2 _ (fun g h1 h2 => hs.ne (by omega) hv (yV30 (by omega)))
theorem oM_fr (a : oM y m m') (hs : SH t y) {c : Nat} : oM y (frM y m c) (frM y m' c) := by
  unfold frM
  rw [a.ar' hs (f := 86) rfl (by omega)]
  exact oM_aw (oM_ais (oM_ais (oM_ais (oM_ais (oM_ais a)))))
theorem oM_cmN (a : oM y m m') (hs : SH t y) {zz : Nat} : oM y (cmN y m zz) (cmN y m' zz) := by
  unfold cmN
  refine oM_fr (oM_fr ?_ hs) hs
  unfold cm6 cm3
  rw [a.1, a.1, a.ar' hs (f := 70) rfl (by omega), a.ar' hs (f := 71) rfl (by omega), a.ar' hs (f := 72) rfl (by omega)]
  exact oM_si (oM_aw (oM_aw (oM_si (oM_si (oM_si a)))))
theorem cM5_ais (a : cM5 y m m') {x i : Nat} {v : Int32} : cM5 y (ais m x i v) (ais m' x i v) := ⟨a.1, a.2.1, a.2.2.1, a.2.2.2.1, a.2.2.2.2.1, fun b h1 h2 => funext fun q => by rw [aiA, aiA, congrFun (a.2.2.2.2.2 b h1 h2) q]⟩
theorem cM5_als (a : cM5 y m m') {x i : Nat} {v : Int64} : cM5 y (als m x i v) (als m' x i v) := ⟨a.1, a.2.1, a.2.2.1, a.2.2.2.1, fun b => funext fun q => by rw [alB, alB, congrFun (a.2.2.2.2.1 b) q], a.2.2.2.2.2⟩
theorem cM5_op (a : cM5 y m m') {v : Int32} : cM5 y (opM y m k v) (opM y m' k v) := cM5_ais (cM5_als (cM5_ais (cM5_ais a)))
theorem opM_o {v : Int32} : oM y m (opM y m k v) := ⟨fun _ _ => rfl, fun _ _ => rfl, fun _ => rfl, fun b h => by
  unfold opM
  rw [ai_nb (h 93 (by omega) (by omega))]
  show ai (ais (ais m (y 30 90) k _) (y 30 91) k _) b = _
  rw [ai_nb (h 91 (by omega) (by omega)), ai_nb (h 90 (by omega) (by omega))]⟩
theorem oM.sy (a : oM y m m') : oM y m' m := ⟨fun f x => (a.1 f x).symm, fun f x => (a.2.1 f x).symm, fun x => (a.2.2.1 x).symm, fun b h => (a.2.2.2 b h).symm⟩
theorem S_putx (hs : SH t y) (hz : FZ y G) (A : Nat → Int32) (l : Nat) (x : Int64) {n : Nat} (hn : n ≤ 8) (hl : l + n ≤ 128) : ∃ A', ∀ K : GS → Prop, K (cP y G A' (l + n)) → w_Answer_put t (cP y G A l) (y 9 0) x (nI n) K := by
  obtain ⟨v, hv, rfl⟩ := wb_of x
  exact ⟨_, fun K hK => S_put hs hz hv hn hl hK⟩
theorem S_qidx (hs : SH t y) (hz : FZ y G) (A : Nat → Int32) (l : Nat) {d : Nat} (hd : d < 23) (hl : l + 13 ≤ 128) : ∃ A', ∀ K : GS → Prop, K (cP y G A' (l + 13)) → w_Answer_putQid t (cP y G A l) (y 9 0) (y 5 d) K := by
  obtain ⟨A1, h1⟩ := S_putx (n := 1) (t := t) hs hz A l (((gi (cP y G A l) 2 (y 5 d)).toUInt32 >>> ((24 : Int32).toUInt32 &&& Int32.toUInt32 31)).toInt32.toInt64) (by omega) (by omega)
  obtain ⟨A2, h2⟩ := S_putx (n := 4) (t := t) hs hz A1 (l + 1) ((gi (cP y G A1 (l + 1)) 1 (y 5 d)).toInt64) (by omega) (by omega)
  obtain ⟨A3, h3⟩ := S_putx (n := 8) (t := t) hs hz A2 (l + 1 + 4) ((gi (cP y G A2 (l + 1 + 4)) 0 (y 5 d)).toInt64) (by omega) (by omega)
  exact ⟨A3, fun K hK => ⟨hs.k 5 d (by simp [yV, hd]), hs.k 9 0, h1 _ (h2 _ (h3 _ hK))⟩⟩
/-- a down class still puts a qid and a number -/
theorem S_qid4 (hs : SH t y) (hz : FZ y G) (h45 : gi G 45 (y 9 0) = nI 7) {d : Nat} (hd : d < 23) : ∃ X, xC y G X ∧ ∀ K : GS → Prop, K X → w_Answer_putQid t G (y 9 0) (y 5 d) (fun G3 => ∃ a4, (gr G3 67 (y 0 0)) = some a4 ∧ tk t a4 = 6 ∧ w_Answer_put t G3 a4 (0 : Int64) (4 : Int32) K) := by
  obtain ⟨A1, h1⟩ := S_qidx (t := t) hs hz (ai G (y 22 0)) 7 hd (by omega)
  obtain ⟨A2, h2⟩ := S_putx (n := 4) (t := t) hs hz A1 (7 + 13) 0 (by omega) (by omega)
  rw [cP_self h45] at h1
  exact ⟨_, xC.rf.cP, fun K hK => h1 _ ⟨y 9 0, (cP_z hs hz).1.2.2.2.2.1, hs.k 9 0, h2 K hK⟩⟩
theorem S_letsOpen (hs : SH t y) {v : Int32} {g o : Nat} (hj : j < 23) (hu : u < 3) (hg : g < 3) (ho : o < 3) (eg : gr G 5 (y 5 j) = some (tad t g)) (eo : gr G 4 (y 5 j) = some (tad t o)) {K : Int32 → Prop} (k1 : okL (gi G 2 (y 5 j)) v u g o → K 1) (k0 : ¬ okL (gi G 2 (y 5 j)) v u g o → K 0) : w_S_letsOpen t G (y 5 j) (some (tad t u)) v K := by
  have hv : yV 5 j = true := by simp [yV, hj]
  have l74 : (((v &&& 3) = 0 ∨ (v &&& 3) = 2) → mOk (gi G 2 (y 5 j)) 4 u g o) → (((v &&& 3) = 1 ∨ (v &&& 3) = 2 ∨ ¬ (v &&& 16) = 0) → mOk (gi G 2 (y 5 j)) 2 u g o) → w_S_letsOpen_74 t G K (some (y 5 j)) (some (tad t u)) (v &&& 3) := fun a1 a2 => iN ⟨fun e => ⟨y 5 j, rfl, hs.k 5 j hv, S_lets hs hj hu hg ho eg eo (fun w => iF (by decide) (k1 ⟨a1, a2, fun _ => w⟩)) (fun w => iT rfl (k0 fun q => w (q.2.2 e)))⟩, fun e => k1 ⟨a1, a2, fun w => absurd w e⟩⟩
  have l58 : (((v &&& 3) = 0 ∨ (v &&& 3) = 2) → mOk (gi G 2 (y 5 j)) 4 u g o) → ∀ s0 : Int32, (((v &&& 3) = 1 ∨ (v &&& 3) = 2 ∨ ¬ (v &&& 16) = 0) → s0 = 1) → (¬ ((v &&& 3) = 1 ∨ (v &&& 3) = 2 ∨ ¬ (v &&& 16) = 0) → s0 = 0) → w_S_letsOpen_58 t G K (some (y 5 j)) (some (tad t u)) (v &&& 3) s0 := fun a1 s0 b1 b0 => by
    by_cases w : ((v &&& 3) = 1 ∨ (v &&& 3) = 2 ∨ ¬ (v &&& 16) = 0)
    · rw [b1 w]
      exact iF (by decide) ⟨y 5 j, rfl, hs.k 5 j hv, S_lets hs hj hu hg ho eg eo (fun q => iT (by decide) (l74 a1 fun _ => q)) (fun q => iF (by simp) (k0 fun q' => q (q'.2.1 w)))⟩
    · rw [b0 w]
      exact iT rfl (l74 a1 fun q => absurd q w)
  have l42 : ∀ l4 s0 : Int32, (((v &&& 3) = 0 ∨ (v &&& 3) = 2) → l4 = 1) → (¬ ((v &&& 3) = 0 ∨ (v &&& 3) = 2) → l4 = 0) → (((v &&& 3) = 1 ∨ (v &&& 3) = 2 ∨ ¬ (v &&& 16) = 0) → s0 = 1) → (¬ ((v &&& 3) = 1 ∨ (v &&& 3) = 2 ∨ ¬ (v &&& 16) = 0) → s0 = 0) → w_S_letsOpen_42 t G K (some (y 5 j)) (some (tad t u)) (v &&& 3) l4 s0 := fun l4 s0 a1 a0 b1 b0 => by
    by_cases w : ((v &&& 3) = 0 ∨ (v &&& 3) = 2)
    · rw [a1 w]
      exact iF (by decide) ⟨y 5 j, rfl, hs.k 5 j hv, S_lets hs hj hu hg ho eg eo (fun q => iF (by decide) (l58 (fun _ => q) s0 b1 b0)) (fun q => iT rfl (k0 fun q' => q (q'.1 w)))⟩
    · rw [a0 w]
      exact iT rfl (l58 (fun q => absurd q w) s0 b1 b0)
  have l18 : ∀ l4 : Int32, (((v &&& 3) = 0 ∨ (v &&& 3) = 2) → l4 = 1) → (¬ ((v &&& 3) = 0 ∨ (v &&& 3) = 2) → l4 = 0) → w_S_letsOpen_18 t G K (some (y 5 j)) (some (tad t u)) v (v &&& 3) l4 := fun l4 a1 a0 => by
    by_cases w1 : (v &&& 3) = 1
    · exact iT w1 (l42 l4 1 a1 a0 (fun _ => rfl) (fun n => absurd (Or.inl w1) n))
    refine iF w1 ?_
    by_cases w2 : (v &&& 3) = 2
    · exact iT w2 (l42 l4 1 a1 a0 (fun _ => rfl) (fun n => absurd (Or.inr (Or.inl w2)) n))
    refine iF w2 ?_
    by_cases w3 : (v &&& 16) = 0
    · exact iT w3 (l42 l4 0 a1 a0 (fun n => by rcases n with n | n | n; exact absurd n w1; exact absurd n w2; exact absurd w3 n) (fun _ => rfl))
    · exact iF w3 (l42 l4 1 a1 a0 (fun _ => rfl) (fun n => absurd (Or.inr (Or.inr w3)) n))
  intro v1 e1
  subst e1
  by_cases w0 : (v &&& 3) = 0
  · exact iT w0 (l18 1 (fun _ => rfl) (fun n => absurd (Or.inl w0) n))
  refine iF w0 (iN ⟨fun w2 => l18 1 (fun _ => rfl) (fun n => absurd (Or.inr w2) n), fun w2 => l18 0 (fun n => by rcases n with n | n; exact absurd n w0; exact absurd n w2) (fun _ => rfl)⟩)
/-- the node stays where it is -/
theorem keep_slot {T P : Nat → Int32} {G2 : GS} {n' nq : Nat} {r' s' : Nat → Nat} (h : TrR t y G T n r s np) (h' : TrR t y G2 P n' r' s' nq) (hb : np < 2 ^ 31) (hc : ∀ j, j ≤ 20 → ∀ p, p < np → gi G2 0 (y 5 j) = nI p → gi G 0 (y 5 j) = nI p ∧ (lvN n r j → lvN n' r' j) ∧ (lvN n' r' j → lvN n r j)) (hj : lvN n r j) (p0 : P (83 * s j) = 1) (p1 : P (83 * s j + 1) = T (83 * s j + 1)) : lvN n' r' j ∧ s' j = s j := by
  have x := h.nd hj
  obtain ⟨j', hj', e⟩ := h'.slot x.1 p0
  have x' := h'.nd hj'
  obtain ⟨p, hp, ep, -⟩ := h.pth hj
  have e0 : gi G2 0 (y 5 j') = nI p := by
    have := x'.2.2.2.1
    rw [e, p1, x.2.2.2.1, ep] at this
    exact this.symm
  obtain ⟨a1, a2, a3⟩ := hc j' (h'.le hj') p hp e0
  have := h.pinj hb (a3 hj') hj (a1.trans ep.symm)
  subst this
  exact ⟨hj', e⟩
end OPH
