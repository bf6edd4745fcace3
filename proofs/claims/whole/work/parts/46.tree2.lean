/-! the tree as both keep it (by hand) -/
theorem sm_shift (w : Nat → Nat) : ∀ n : Nat, sm w (n + 1) = w 0 + sm (fun i => w (i + 1)) n
  | 0 => by show 0 + w 0 = w 0 + 0; omega
  | n + 1 => by
    show sm w (n + 1) + w (n + 1) = w 0 + (sm (fun i => w (i + 1)) n + w (n + 1))
    rw [sm_shift w n]; omega
theorem sm_one : ∀ n : Nat, sm (fun _ => 1) n = n
  | 0 => rfl
  | n + 1 => by show sm _ n + 1 = n + 1; rw [sm_one n]
/-- the sign is the directory's bit -/
theorem dir_bit (x : Int32) : (x &&& (-2147483648 : Int32)) = 0 ↔ ¬ x < 0 := by
  have hm : ∀ i, i < 32 → bt (-2147483648 : Int32) i = decide (i = 31) := by decide +kernel
  have hb : bt x 31 = decide (x < 0) := by
    unfold bt
    rw [show x.toBitVec.getLsbD 31 = x.toBitVec.msb from (BitVec.msb_eq_getLsbD_last x.toBitVec).symm, BitVec.msb_eq_toInt]
    have : (x < 0) ↔ x.toBitVec.toInt < 0 := by rw [Int32.lt_iff_toInt_lt, Int32.toInt_zero]; exact Iff.rfl
    simp only [this]
  constructor
  · intro h hx
    have := congrArg (fun z => bt z 31) h
    simp only [b_and, hm 31 (by omega), b_0] at this
    rw [hb] at this
    simp [hx] at this
  · intro h
    refine b_ext (fun i hi => ?_)
    rw [b_and, hm i hi, b_0]
    by_cases q : i = 31
    · subst q; rw [hb]; simp [h]
    · simp [q]
section TREE
variable {t : TY} {y : LYT} {G : GS} {T : Nat → Int32} {n np : Nat} {r s : Nat → Nat}
theorem TrR.le (h : TrR t y G T n r s np) {j : Nat} (hj : lvN n r j) : j ≤ 20 := lvN_le h.1 (fun i hi => (h.2.2.2.2.1 i hi).2) hj
theorem TrR.nd (h : TrR t y G T n r s np) {j : Nat} (hj : lvN n r j) : s j < 21 ∧ (j ≠ 0 → 1 ≤ s j) ∧ NdR t y G T j (s j) := h.2.2.2.2.2.2.2.2.2.2.1 j hj
theorem TrR.in (h : TrR t y G T n r s np) {i : Nat} (hi : i < n) : lvN n r (r i) := Or.inr ⟨i, hi, rfl⟩
theorem lv0 : lvN n r 0 := Or.inl rfl
/-- every node has a path of its own, below the next one -/
theorem TrR.pth (h : TrR t y G T n r s np) {j : Nat} (hj : lvN n r j) : ∃ p, p < np ∧ gi G 0 (y 5 j) = nI p ∧ (p = 0 ↔ j = 0) := by
  obtain ⟨h1, -, h3, -, h5, -, ⟨p, h7, -⟩, -, h10, -⟩ := h
  rcases hj with rfl | ⟨i, hi, rfl⟩
  · exact ⟨0, by omega, h10, by simp⟩
  · have := (h5 i (by omega)).2.1
    exact ⟨p i, (h7 i hi).2.2, (h7 i hi).1, by have := (h7 i hi).2.1; omega⟩
theorem TrR.pinj (h : TrR t y G T n r s np) (hb : np < 2 ^ 31) {j j' : Nat} (hj : lvN n r j) (hj' : lvN n r j') (e : gi G 0 (y 5 j) = gi G 0 (y 5 j')) : j = j' := by
  obtain ⟨h1, -, h3, -, h5, -, ⟨p, h7, h8⟩, -, h10, -⟩ := h
  rcases hj with rfl | ⟨i, hi, rfl⟩
  · rcases hj' with rfl | ⟨i', hi', rfl⟩
    · rfl
    · rw [h10, (h7 i' hi').1] at e
      have := (nI_eq (a := 0) (by omega) (by have := (h7 i' hi').2.2; omega)).mp e
      have := (h7 i' hi').2.1
      omega
  · rcases hj' with rfl | ⟨i', hi', rfl⟩
    · rw [h10, (h7 i hi).1] at e
      have := (nI_eq (b := 0) (by have := (h7 i hi).2.2; omega) (by omega)).mp e
      have := (h7 i hi).2.1
      omega
    · rw [(h7 i hi).1, (h7 i' hi').1] at e
      have e := (nI_eq (by have := (h7 i hi).2.2; omega) (by have := (h7 i' hi').2.2; omega)).mp e
      rcases Nat.lt_trichotomy i i' with q | q | q
      · have := h8 i i' q hi'; omega
      · rw [q]
      · have := h8 i' i q hi; omega
theorem TrR.sinj (h : TrR t y G T n r s np) (hb : np < 2 ^ 31) {j j' : Nat} (hj : lvN n r j) (hj' : lvN n r j') (e : s j = s j') : j = j' := by
  have a := (h.nd hj).2.2.2.1
  have b := (h.nd hj').2.2.2.1
  rw [e] at a
  exact h.pinj hb hj hj' (a.symm.trans b)
/-- a slot that is taken is some node's -/
theorem TrR.slot (h : TrR t y G T n r s np) {k : Nat} (hk : k < 21) (h1 : T (83 * k) = 1) : ∃ j, lvN n r j ∧ s j = k := by
  rcases h.2.2.2.2.2.2.2.2.2.2.2.1 k hk with q | q
  · rw [h1] at q; exact absurd q (by decide)
  · exact q
theorem TrR.t01 (h : TrR t y G T n r s np) {k : Nat} (hk : k < 21) : T (83 * k) = 0 ∨ T (83 * k) = 1 := by
  rcases h.2.2.2.2.2.2.2.2.2.2.2.1 k hk with q | ⟨j, hj, rfl⟩
  · exact Or.inl q
  · exact Or.inr (h.nd hj).2.2.1
/-- the slot of a path -/
theorem TrR.uniq (h : TrR t y G T n r s np) (hb : np < 2 ^ 31) {j m : Nat} (hj : lvN n r j) (hm : m < 21) (h1 : T (83 * m) = 1) (h2 : T (83 * m + 1) = gi G 0 (y 5 j)) : m = s j := by
  obtain ⟨j', hj', rfl⟩ := h.slot hm h1
  have := (h.nd hj').2.2.2.1
  rw [h.pinj hb hj' hj (this.symm.trans h2)]
/-- a sum over the taken slots is a sum over the nodes -/
theorem TrR.sum (h : TrR t y G T n r s np) (hb : np < 2 ^ 31) (w : Nat → Nat) (hw : ∀ k, k < 21 → ¬ T (83 * k) = 1 → w k = 0) : sm w 21 = w 0 + sm (fun i => w (s (r i))) n := by
  have hs0 : s 0 = 0 := h.2.2.2.2.2.2.2.2.2.1
  have hr := h.2.2.2.2.1
  have hri := h.2.2.2.2.2.1
  have hn := h.1
  let f : Nat → Nat := fun i => match i with | 0 => 0 | i + 1 => s (r i)
  rw [sm_bij (N := 21) (n + 1) f w (fun i hi => ?_) (fun i i' hi hi' e => ?_) (fun k hk hne => ?_), sm_shift]
  · cases i with
    | zero => exact Nat.zero_lt_succ _
    | succ i => exact (h.nd (h.in (by omega))).1
  · have z : ∀ i, i < n → 1 ≤ s (r i) := fun i hi => (h.nd (h.in hi)).2.1 (by have := (hr i (by omega)).2.1; omega)
    cases i with
    | zero =>
      cases i' with
      | zero => rfl
      | succ i' => have := z i' (by omega); have e : 0 = s (r i') := e; omega
    | succ i =>
      cases i' with
      | zero => have := z i (by omega); have e : s (r i) = 0 := e; omega
      | succ i' =>
        have e : s (r i) = s (r i') := e
        have := h.sinj hb (h.in (by omega)) (h.in (by omega)) e
        have := hri i i' (by omega) (by omega) this
        omega
  · have ht : T (83 * k) = 1 := Classical.byContradiction fun q => hne (hw k hk q)
    obtain ⟨j, hj, rfl⟩ := h.slot hk ht
    rcases hj with rfl | ⟨i, hi, rfl⟩
    · exact ⟨0, by omega, hs0.symm⟩
    · exact ⟨i + 1, by omega, rfl⟩
/-- .. over the slots from 1 on -/
theorem TrR.sum1 (h : TrR t y G T n r s np) (hb : np < 2 ^ 31) (w : Nat → Nat) (hw : ∀ k, k < 20 → ¬ T (83 * (k + 1)) = 1 → w k = 0) : sm w 20 = sm (fun i => w (s (r i) - 1)) n := by
  let v : Nat → Nat := fun k => match k with | 0 => 0 | k + 1 => w k
  have e := h.sum hb v (fun k hk q => by
    cases k with
    | zero => rfl
    | succ k => exact hw k (by omega) q)
  rw [sm_shift] at e
  have e2 : sm (fun i => v (s (r i))) n = sm (fun i => w (s (r i) - 1)) n := sm_congr (fun i hi => by
    have h1 := (h.nd (h.in hi)).2.1 (by have := (h.2.2.2.2.1 i (by have := h.1; omega)).2.1; omega)
    obtain ⟨q, hq⟩ : ∃ q, s (r i) = q + 1 := ⟨s (r i) - 1, by omega⟩
    show v (s (r i)) = w (s (r i) - 1)
    rw [hq]; rfl)
  have e3 : sm (fun i => v (i + 1)) 20 = sm w 20 := rfl
  have e4 : v 0 = 0 := rfl
  rw [e2, e3, e4] at e
  omega
/-- how many entries a node has, in the reference's cells -/
theorem TrR.ents (h : TrR t y G T n r s np) (hb : np < 2 ^ 31) {j : Nat} (hj : lvN n r j) (hs : SH t y) : cnt (fun e => decide (T (83 * (e + 1)) = 1 ∧ T (83 * (e + 1) + 8) = T (83 * s j + 1))) 20 = cnt (fun i => decide (gr G 7 (y 5 (r i)) = some (y 5 j))) n := by
  rw [cnt_sm, cnt_sm, h.sum1 hb _ (fun k hk q => by rw [if_neg]; simp only [decide_eq_true_eq]; exact fun z => q z.1)]
  refine sm_congr (fun i hi => ?_)
  have h1 := (h.nd (h.in hi)).2.1 (by have := (h.2.2.2.2.1 i (by have := h.1; omega)).2.1; omega)
  obtain ⟨q, hq⟩ : ∃ q, s (r i) = q + 1 := ⟨s (r i) - 1, by omega⟩
  have hh := h.2.2.2.2.2.2.2.2.2.2.2.2.2.1 i hi
  obtain ⟨j', hj', x2, x3, -⟩ := hh
  have a := (h.nd (h.in hi)).2.2.1
  have b := (h.nd hj).2.2.2.1
  rw [show s (r i) - 1 + 1 = s (r i) by omega]
  have key : (T (83 * s (r i)) = 1 ∧ T (83 * s (r i) + 8) = T (83 * s j + 1)) ↔ gr G 7 (y 5 (r i)) = some (y 5 j) := by
    rw [x2, x3, b]
    constructor
    · intro z
      rw [h.pinj hb hj' hj z.2]
    · intro z
      have e : y 5 j' = y 5 j := Option.some.inj z
      have hv : yV 5 j = true := by have := h.le hj; simp [yV]; omega
      have hv' : yV 5 j' = true := by have := h.le hj'; simp [yV]; omega
      have := (hs.2.1 5 j' 5 j hv' hv).mp e
      rw [this.2]
      exact ⟨a, rfl⟩
  simp only [decide_eq_true_eq, key]
/-- nodes -/
theorem e_nodes {b : Nat} (h : InvY t y b G G) (hb : b < 2 ^ 31) : w_S_nodes t G (y 0 0) (fun r1 => w_M_nodes t G (y 1 0) (fun r2 => r1 = r2)) := by
  obtain ⟨hs, hz, -, -, -, -, n, r, s, np, hT, -, -, hnp, -⟩ := h
  refine ⟨hs.k 0 0, y 2 0, hz.1.1, hs.k 2 0, ?_⟩
  rw [hT.2.1]
  let v : Nat → Nat := fun k => if ai G (y 30 70) (83 * (k + 1)) = 1 then 1 else 0
  have hv : ∀ k, k < 20 → ai G (y 30 70) (83 * (k + 1)) = nI (v k) := fun k hk => by
    rcases hT.t01 (k := k + 1) (by omega) with q | q
    · show _ = nI (if _ then 1 else 0)
      rw [if_neg (by rw [q]; decide), q]; rfl
    · show _ = nI (if _ then 1 else 0)
      rw [if_pos q, q]; rfl
  have hsum : sm v 20 = n := by
    rw [hT.sum1 (by omega) v (fun k hk q => if_neg q)]
    have : sm (fun i => v (s (r i) - 1)) n = sm (fun _ => 1) n := sm_congr (fun i hi => by
      have h1 := (hT.nd (hT.in hi)).2.1 (by have := (hT.2.2.2.2.1 i (by have := hT.1; omega)).2.1; omega)
      have a := (hT.nd (hT.in hi)).2.2.1
      show (if ai G (y 30 70) (83 * (s (r i) - 1 + 1)) = 1 then 1 else 0) = 1
      rw [show s (r i) - 1 + 1 = s (r i) by omega, if_pos a])
    rw [this, sm_one]
  refine pk_loop (fun k i (a : Nat) => w_M_nodes_4 t G (y 1 0) _ k (nI a) (nI (i + 1))) (fun i a => a = sm v i) 20 0 0 (by omega) rfl (fun k a ha => ?_) (fun k i a hi ha ih => ?_)
  · show w_M_nodes_4 t G (y 1 0) _ (k + 1) (nI a) (nI 21)
    unfold w_M_nodes_4
    refine iT (show (21 : Int32) ≤ nI 21 by decide) ?_
    rw [ha, hsum]
  · refine iF (show ¬ nI 21 ≤ nI (i + 1) from nI_ge (by omega) (by decide)) ⟨hs.k 1 0, M_at0 hs hz (by omega) ?_⟩
    intro x hx x2 hx2
    subst hx hx2
    have := ih (a + v i) (by rw [ha]; rfl)
    rw [← nI_add, ← hv i hi, ← nI_1 (i + 1)] at this
    exact this
theorem TrR.bl (h : TrR t y G T n r s np) (hb : np < 2 ^ 31) (hs : SH t y) {j : Nat} (hj : lvN n r j) : cBl y G n r j ≤ 20 ∧ mBl T (s j) = nI (cBl y G n r j) ∧ (if gi G 2 (y 5 j) < 0 then (gi G 8 (y 5 j) + 3) / 4 else (gi G 12 (y 5 j) + 15) / 16) = nI (cBl y G n r j) := by
  obtain ⟨x1, x2, x3⟩ := h.nd hj
  have hc : cnt (fun i => decide (gr G 7 (y 5 (r i)) = some (y 5 j))) n ≤ 20 := Nat.le_trans cnt_le h.1
  have h16 := h.2.2.2.2.2.2.2.2.2.2.2.2.2.2.1 j hj
  obtain ⟨a1, a2, a3, a4, a5, a6, a7, a8, a9, ⟨l, f, l1, l2, l3, -⟩⟩ := x3
  unfold cBl mBl
  rw [a4, l3, h.ents hb hj hs, h16, l2]
  by_cases q : gi G 2 (y 5 j) < 0
  · rw [if_pos q, if_pos q]
    have e : (nI (cnt (fun i => decide (gr G 7 (y 5 (r i)) = some (y 5 j))) n) + 3) / 4 = nI ((cnt (fun i => decide (gr G 7 (y 5 (r i)) = some (y 5 j))) n + 3) / 4) := by
      rw [show (3 : Int32) = nI 3 from rfl, show (4 : Int32) = nI 4 from rfl, nI_add, pk_div (by omega) (by omega) (by omega)]
    exact ⟨by omega, e, e⟩
  · rw [if_neg q, if_neg q, nI_clamp (by omega)]
    have e : (nI l + 15) / 16 = nI ((l + 15) / 16) := by
      rw [show (15 : Int32) = nI 15 from rfl, show (16 : Int32) = nI 16 from rfl, nI_add, pk_div (by omega) (by omega) (by omega)]
    exact ⟨by omega, e, e⟩
theorem S_blocks (hs : SH t y) {j : Nat} (hj : j < 23) {K : Int32 → Prop} (h : K (if gi G 2 (y 5 j) < 0 then (gi G 8 (y 5 j) + 3) / 4 else (gi G 12 (y 5 j) + 15) / 16)) : w_Node_blocks t G (y 5 j) K := by
  have hv : yV 5 j = true := by simp [yV, hj]
  refine ⟨hs.k 5 j hv, ?_⟩
  by_cases q : gi G 2 (y 5 j) < 0
  · rw [if_pos q] at h
    exact iF (fun z => (dir_bit _).mp z q) h
  · rw [if_neg q] at h
    exact iT ((dir_bit _).mpr q) h
theorem sub_nI (x : Int32) (a b : Nat) : x - nI a - nI b = x - nI (a + b) := by
  rw [← nI_add, Int32.sub_eq_add_neg, Int32.sub_eq_add_neg, Int32.sub_eq_add_neg, Int32.neg_add, Int32.sub_eq_add_neg, Int32.add_assoc]
theorem TrR.spare (h : TrR t y G T n r s np) (hb : np < 2 ^ 31) (hs : SH t y) (hz : FZ y G) {K : Int32 → Prop} (k : K (nI 24 - nI (tBl y G n r))) : w_Tree_spareBlocks t G (y 2 0) K := by
  refine ⟨hs.k 2 0, y 5 0, hz.2.1.1, hs.k 5 0, S_blocks hs (by omega) ?_⟩
  rw [(h.bl hb hs lv0).2.2]
  intro v hv
  subst hv
  have hn := h.1
  refine pk_loop (fun k i (a : Nat) => w_Tree_spareBlocks_13 t G (y 2 0) K k (nI 24 - nI a) (nI i)) (fun i a => a = cBl y G n r 0 + sm (fun i => cBl y G n r (r i)) i) n 0 (cBl y G n r 0) (by omega) rfl (fun q a ha => ?_) (fun q i a hi ha ih => ?_)
  · refine ⟨hs.k 2 0, ?_⟩
    rw [h.2.1]
    refine iT (Int32.le_refl _) ?_
    rw [ha]; exact k
  · refine ⟨hs.k 2 0, ?_⟩
    rw [h.2.1]
    have hr := h.2.2.2.2.1 i (by omega)
    refine iF (nI_ge hi (by omega)) ⟨y 16 0, hz.2.1.2.1, hs.k 16 0, by rw [hs.n 16 0]; exact vp_lt (N := 20) (by omega), y 5 (r i), by rw [nI_clamp (by omega)]; exact hr.1, hs.k 5 _ (by simp [yV]; omega), S_blocks hs (by omega) ?_⟩
    rw [(h.bl hb hs (h.in hi)).2.2]
    intro v hv v2 hv2
    subst hv hv2
    have := ih (a + cBl y G n r (r i)) (by rw [ha]; exact Nat.add_assoc _ _ _)
    rw [← nI_1 i, ← sub_nI] at this
    exact this
theorem TrR.mblocks {m : GS} (h : TrR t y G (ai m (y 30 70)) n r s np) (hb : np < 2 ^ 31) (hs : SH t y) (hz : FZ y m) {K : Int32 → Prop} (k : K (nI (tBl y G n r))) : w_M_blocks t m (y 1 0) K := by
  let w : Nat → Nat := fun q => if ai m (y 30 70) (83 * q) = 1 then (mBl (ai m (y 30 70)) q).toNatClampNeg else 0
  have hw : ∀ j, lvN n r j → w (s j) = cBl y G n r j := fun j hj => by
    show (if _ then _ else _) = _
    have hbl := h.bl hb hs hj
    rw [if_pos (h.nd hj).2.2.1, hbl.2.1, nI_clamp (by omega)]
  refine M_blocks (w := w) hs hz (fun q hq => ⟨?_, fun ht => ?_, fun ht => if_neg ht⟩) ?_
  · by_cases ht : ai m (y 30 70) (83 * q) = 1
    · obtain ⟨j, hj, rfl⟩ := h.slot hq ht
      rw [hw j hj]; exact (h.bl hb hs hj).1
    · show (if _ then _ else _) ≤ 20
      rw [if_neg ht]; omega
  · obtain ⟨j, hj, rfl⟩ := h.slot hq ht
    rw [hw j hj]; exact (h.bl hb hs hj).2.1
  · rw [h.sum hb w (fun q hq ht => if_neg ht)]
    have e0 : w 0 = cBl y G n r 0 := by have := hw 0 lv0; rw [h.2.2.2.2.2.2.2.2.2.1] at this; exact this
    have e1 : sm (fun i => w (s (r i))) n = sm (fun i => cBl y G n r (r i)) n := sm_congr (fun i hi => hw _ (h.in hi))
    rw [e0, e1]; exact k
theorem o_nodes {S M : Nat} : Ob_nodes t S M (InvW t S M) := fun j G hj ⟨y, h1, h2, h⟩ => by subst h1 h2; exact e_nodes h (by omega)
theorem o_free {S M : Nat} : Ob_free t S M (InvW t S M) := fun j G hj ⟨y, h1, h2, h⟩ => by
  subst h1 h2
  obtain ⟨hs, hz, -, -, -, -, n, r, s, np, hT, -, -, hnp, -⟩ := h
  refine ⟨hs.k 0 0, y 2 0, hz.1.1, hs.k 2 0, hT.spare (by omega) hs hz ⟨hs.k 1 0, hT.mblocks (by omega) hs hz rfl⟩⟩
end TREE
