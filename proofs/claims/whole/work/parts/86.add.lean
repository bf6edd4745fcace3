/-! a node is added to the tree (by hand) -/
section ADD
variable {t : TY} {y : LYT} {G G' : GS} {T T' : Nat → Int32} {n np d k0 : Nat} {r s : Nat → Nat}
theorem TrR.spn (h : TrR t y G T n r s np) (hn : n < 20) : 1 ≤ r n ∧ r n ≤ 20 ∧ ∀ j, lvN n r j → j ≠ r n := by
  have := h.2.2.2.2.1 n hn
  refine ⟨this.2.1, this.2.2, fun j hj e => ?_⟩
  rcases hj with rfl | ⟨i, hi, rfl⟩
  · omega
  · have := h.2.2.2.2.2.1 i n (by omega) hn e
    omega
theorem TrR.add (h : TrR t y G T n r s np) (hs : SH t y) (hn : n < 20) (hd : lvN n r d) (hdir : gi G 2 (y 5 d) < 0) (hk1 : 1 ≤ k0) (hk0 : k0 < 21) (hfree : T (83 * k0) = 0) (c1 : ∀ f a, f ≤ 16 → a ≠ y 5 (r n) → ¬ (f = 8 ∧ a = y 5 d) → ¬ (a = y 2 0 ∧ (f = 15 ∨ f = 16)) → gi G' f a = gi G f a) (c1r : ∀ f a, f ≤ 16 → a ≠ y 5 (r n) → gr G' f a = gr G f a) (c15 : gi G' 15 (y 2 0) = nI (n + 1)) (c16 : gi G' 16 (y 2 0) = nI (np + 1)) (c0 : gi G' 0 (y 5 (r n)) = nI np) (c7 : gr G' 7 (y 5 (r n)) = some (y 5 d)) (c8 : gi G' 8 (y 5 (r n)) = 0) (c8d : gi G' 8 (y 5 d) = gi G 8 (y 5 d) + 1) (c3 : ∀ i, i < 23 → i ≠ r n → ai G' (y 6 i) = ai G (y 6 i) ∧ ai G' (y 7 i) = ai G (y 7 i)) (c4 : ∀ b, ar G' b = ar G b) (t1 : ∀ k, ¬ (83 * k0 ≤ k ∧ k < 83 * k0 + 83) → T' k = T k) (t8 : T' (83 * k0 + 8) = gi G 0 (y 5 d)) (hN : NdR t y G' T' (r n) k0) (hU : ∀ i, i < n → gr G 7 (y 5 (r i)) = some (y 5 d) → ¬ sNm y G' (r i) (r n) ∧ ¬ sNm y G' (r n) (r i)) (hC : ∃ l, l ≤ 64 ∧ gi G' 12 (y 5 (r n)) = nI l ∧ ∀ k, l ≤ k → k < 64 → ai G' (y 7 (r n)) k = 0) (hB : tBl y G' (n + 1) r ≤ 24) : TrR t y G' T' (n + 1) r (fun q => if q = r n then k0 else s q) (np + 1) := by
  obtain ⟨h1, h2, h3, h4, h5, h6, ⟨p, h7, h8⟩, h9, h10, h11, h12, h13, h14, h15, h16, h17, h18⟩ := id h
  obtain ⟨rn1, rn20, rnl⟩ := h.spn hn
  have hd20 := h.le hd
  have hdr := rnl d hd
  have y5n : ∀ j, j ≤ 20 → j ≠ r n → y 5 j ≠ y 5 (r n) := fun j hj q e => q (y5 hs (by omega) (by omega) e)
  have y52 : ∀ j, j ≤ 20 → y 5 j ≠ y 2 0 := fun j hj => hs.ne (by omega) (by simp [yV]; omega) rfl
  have gI : ∀ f j, f ≤ 16 → j ≤ 20 → j ≠ r n → f ≠ 8 → gi G' f (y 5 j) = gi G f (y 5 j) := fun f j hf hj q q8 => c1 f _ hf (y5n j hj q) (fun w => q8 w.1) (fun w => y52 j hj w.1)
  have gR : ∀ f j, f ≤ 16 → j ≤ 20 → j ≠ r n → gr G' f (y 5 j) = gr G f (y 5 j) := fun f j hf hj q => c1r f _ hf (y5n j hj q)
  have g8 : ∀ j, j ≤ 20 → j ≠ r n → j ≠ d → gi G' 8 (y 5 j) = gi G 8 (y 5 j) := fun j hj q qd => c1 8 _ (by omega) (y5n j hj q) (fun w => qd (y5 hs (by omega) (by omega) w.2)) (fun w => y52 j hj w.1)
  have hr20 : ∀ i, i < 20 → r i ≤ 20 := fun i hi => (h5 i hi).2.2
  have rin : ∀ i, i < 20 → i ≠ n → r i ≠ r n := fun i hi q e => q (h6 i n hi hn e)
  have lvS : ∀ j, lvN (n + 1) r j ↔ (lvN n r j ∨ j = r n) := fun j => by
    constructor
    · rintro (rfl | ⟨i, hi, rfl⟩)
      · exact Or.inl (Or.inl rfl)
      · by_cases q : i = n
        · rw [q]; exact Or.inr rfl
        · exact Or.inl (Or.inr ⟨i, by omega, rfl⟩)
    · rintro ((rfl | ⟨i, hi, rfl⟩) | rfl)
      · exact Or.inl rfl
      · exact Or.inr ⟨i, by omega, rfl⟩
      · exact Or.inr ⟨n, by omega, rfl⟩
  have snk : ∀ j, lvN n r j → s j ≠ k0 := fun j hj e => by
    have := (h.nd hj).2.2.1
    rw [e, hfree] at this
    exact absurd this (by decide)
  have c7i : ∀ i, i < n → gr G' 7 (y 5 (r i)) = gr G 7 (y 5 (r i)) := fun i hi => gR 7 _ (by omega) (hr20 i (by omega)) (rin i (by omega) (by omega))
  have cntE : ∀ j, cnt (fun i => decide (gr G' 7 (y 5 (r i)) = some (y 5 j))) n = cnt (fun i => decide (gr G 7 (y 5 (r i)) = some (y 5 j))) n := fun j => cnt_congr fun i hi => by rw [c7i i hi]
  refine ⟨by omega, c15, by omega, c16, fun i hi => by rw [c4]; exact h5 i hi, h6, ⟨fun i => if i = n then np else p i, fun i hi => ?_, fun i i' hi hi' => ?_⟩, fun i hi hi2 => by rw [gI 0 _ (by omega) (hr20 i hi2) (rin i hi2 (by omega)) (by omega)]; exact h9 i (by omega) hi2, by rw [gI 0 0 (by omega) (by omega) (by omega) (by omega)]; exact h10, by show (if 0 = r n then k0 else s 0) = 0; rw [if_neg (by omega)]; exact h11, fun j hj => ?_, fun k hk => ?_, ⟨by rw [gR 7 0 (by omega) (by omega) (by omega)]; exact h14.1, by rw [t1 8 (by omega)]; exact h14.2.1, hB⟩, fun i hi => ?_, fun j hj => ?_, fun i i' hi hi' e1 e2 => ?_, fun j hj => ?_⟩
  · by_cases q : i = n
    · show gi G' 0 (y 5 (r i)) = nI (if i = n then np else p i) ∧ 1 ≤ (if i = n then np else p i) ∧ (if i = n then np else p i) < np + 1
      rw [if_pos q, q]; exact ⟨c0, h3, by omega⟩
    · show gi G' 0 (y 5 (r i)) = nI (if i = n then np else p i) ∧ 1 ≤ (if i = n then np else p i) ∧ (if i = n then np else p i) < np + 1
      rw [if_neg q, gI 0 _ (by omega) (hr20 i (by omega)) (rin i (by omega) q) (by omega)]
      have := h7 i (by omega)
      exact ⟨this.1, this.2.1, by omega⟩
  · show (if i = n then np else p i) < (if i' = n then np else p i')
    rw [if_neg (by omega)]
    by_cases q : i' = n
    · rw [if_pos q]; exact (h7 i (by omega)).2.2
    · rw [if_neg q]; exact h8 i i' hi (by omega)
  · show (if j = r n then k0 else s j) < 21 ∧ (j ≠ 0 → 1 ≤ (if j = r n then k0 else s j)) ∧ NdR t y G' T' j (if j = r n then k0 else s j)
    by_cases q : j = r n
    · rw [if_pos q, q]; exact ⟨hk0, fun _ => hk1, hN⟩
    · rw [if_neg q]
      have hj' : lvN n r j := by rcases (lvS j).mp hj with w | w; exact w; exact absurd w q
      have hj20 := h.le hj'
      obtain ⟨x1, x2, x3⟩ := h12 j hj'
      refine ⟨x1, x2, ?_⟩
      have ns := snk j hj'
      have tt : ∀ c, c < 83 → T' (83 * s j + c) = T (83 * s j + c) := fun c hc => t1 _ (by omega)
      obtain ⟨y1, y2, y3, y4, y5', y6, y7, y8, ⟨l, g1, z1, z2, z3, z4, z5⟩, ⟨l2, g2, w1, w2, w3, w4, w5⟩⟩ := x3
      refine ⟨(tt 0 (by omega)).trans y1, by rw [tt 1 (by omega), gI 0 j (by omega) hj20 q (by omega)]; exact y2, by rw [tt 2 (by omega), gI 1 j (by omega) hj20 q (by omega)]; exact y3, by rw [tt 3 (by omega), gI 2 j (by omega) hj20 q (by omega)]; exact y4, by rw [tt 4 (by omega), gI 3 j (by omega) hj20 q (by omega)]; exact y5', by rw [tt 5 (by omega), gR 4 j (by omega) hj20 q]; exact y6, by rw [tt 6 (by omega), gR 5 j (by omega) hj20 q]; exact y7, by rw [tt 7 (by omega), gR 6 j (by omega) hj20 q]; exact y8, ⟨l, g1, z1, by rw [gI 10 j (by omega) hj20 q (by omega)]; exact z2, by rw [tt 9 (by omega)]; exact z3, fun k hk => by rw [(c3 j (by omega) q).1]; exact z4 k hk, fun k hk => by
        rw [show 83 * s j + 10 + k = 83 * s j + (10 + k) by omega, tt (10 + k) (by omega), show 83 * s j + (10 + k) = 83 * s j + 10 + k by omega]; exact z5 k hk⟩, ⟨l2, g2, w1, by rw [gI 12 j (by omega) hj20 q (by omega)]; exact w2, by rw [tt 18 (by omega)]; exact w3, fun k hk => by rw [(c3 j (by omega) q).2]; exact w4 k hk, fun k hk => by
        rw [show 83 * s j + 19 + k = 83 * s j + (19 + k) by omega, tt (19 + k) (by omega), show 83 * s j + (19 + k) = 83 * s j + 19 + k by omega]; exact w5 k hk⟩⟩
  · by_cases q : k = k0
    · exact Or.inr ⟨r n, (lvS _).mpr (Or.inr rfl), by show (if r n = r n then k0 else s (r n)) = k; rw [if_pos rfl, q]⟩
    · rw [t1 _ (by omega)]
      rcases h13 k hk with w | ⟨j, w1, w2⟩
      · exact Or.inl w
      · exact Or.inr ⟨j, (lvS j).mpr (Or.inl w1), by show (if j = r n then k0 else s j) = k; rw [if_neg (rnl j w1)]; exact w2⟩
  · by_cases q : i = n
    · refine ⟨d, (lvS d).mpr (Or.inl hd), by rw [q]; exact c7, ?_, by rw [gI 2 d (by omega) hd20 hdr (by omega)]; exact hdir⟩
      show T' (83 * (if r i = r n then k0 else s (r i)) + 8) = _
      rw [q, if_pos rfl, t8, gI 0 d (by omega) hd20 hdr (by omega)]
    · obtain ⟨j, x1, x2, x3, x4⟩ := h15 i (by omega)
      have hj20 := h.le x1
      have ns := snk (r i) (Or.inr ⟨i, by omega, rfl⟩)
      refine ⟨j, (lvS j).mpr (Or.inl x1), by rw [c7i i (by omega)]; exact x2, ?_, by rw [gI 2 j (by omega) hj20 (rnl j x1) (by omega)]; exact x4⟩
      show T' (83 * (if r i = r n then k0 else s (r i)) + 8) = _
      rw [if_neg (rin i (by omega) q), t1 _ (by omega), gI 0 j (by omega) hj20 (rnl j x1) (by omega)]; exact x3
  · show gi G' 8 (y 5 j) = nI (cnt (fun i => decide (gr G' 7 (y 5 (r i)) = some (y 5 j))) (n + 1))
    by_cases q : j = r n
    · rw [q, c8]
      have e : cnt (fun i => decide (gr G' 7 (y 5 (r i)) = some (y 5 (r n)))) (n + 1) = 0 := by
        rw [cnt_sm]
        refine sm_zero fun i hi => if_neg ?_
        simp only [decide_eq_true_eq]
        intro w
        by_cases qi : i = n
        · rw [qi, c7] at w
          exact hdr (y5 hs (by omega) (by omega) (Option.some.inj w))
        · rw [c7i i (by omega)] at w
          obtain ⟨j', x1, x2, -, -⟩ := h15 i (by omega)
          exact rnl j' x1 (y5 hs (by have := h.le x1; omega) (by omega) (Option.some.inj (x2.symm.trans w)))
      rw [e]; rfl
    · have hj' : lvN n r j := by rcases (lvS j).mp hj with w | w; exact w; exact absurd w q
      have hj20 := h.le hj'
      by_cases qd : j = d
      · rw [qd, c8d, h16 d hd, nI_1, ← cntE d, cnt_t (by simp only [decide_eq_true_eq]; exact c7)]
      · rw [g8 j hj20 q qd, h16 j hj', ← cntE j, cnt_f (by
          simp only [decide_eq_true_eq]
          rw [c7]
          exact fun w => qd (y5 hs (by omega) (by omega) (Option.some.inj w)).symm)]
  · by_cases q : i = n
    · by_cases q' : i' = n
      · omega
      · exfalso
        rw [q, c7, c7i i' (by omega)] at e1
        rw [q] at e2
        exact (hU i' (by omega) e1.symm).2 e2
    · by_cases q' : i' = n
      · exfalso
        rw [q', c7, c7i i (by omega)] at e1
        rw [q'] at e2
        exact (hU i (by omega) e1).1 e2
      · rw [c7i i (by omega), c7i i' (by omega)] at e1
        refine h17 i i' (by omega) (by omega) e1 ?_
        obtain ⟨z1, z2⟩ := e2
        rw [gI 10 _ (by omega) (hr20 i (by omega)) (rin i (by omega) q) (by omega), gI 10 _ (by omega) (hr20 i' (by omega)) (rin i' (by omega) q') (by omega)] at z1
        rw [gI 10 _ (by omega) (hr20 i (by omega)) (rin i (by omega) q) (by omega)] at z2
        refine ⟨z1, fun k hk => ?_⟩
        have := z2 k hk
        rw [(c3 (r i) (by have := hr20 i (by omega); omega) (rin i (by omega) q)).1, (c3 (r i') (by have := hr20 i' (by omega); omega) (rin i' (by omega) q')).1] at this
        exact this
  · by_cases q : j = r n
    · rw [q]; exact hC
    · obtain ⟨l, x1, x2, x3⟩ := h18 j hj
      exact ⟨l, x1, by rw [gI 12 j (by omega) hj q (by omega)]; exact x2, fun k hk hk2 => by rw [(c3 j (by omega) q).2]; exact x3 k hk hk2⟩
/-- the blocks behind it -/
theorem TrR.tadd (h : TrR t y G T n r s np) (hs : SH t y) (hn : n < 20) (hd : lvN n r d) (hdir : gi G 2 (y 5 d) < 0) (c2 : ∀ j, j ≤ 20 → j ≠ r n → gi G' 2 (y 5 j) = gi G 2 (y 5 j) ∧ gi G' 12 (y 5 j) = gi G 12 (y 5 j)) (c7 : gr G' 7 (y 5 (r n)) = some (y 5 d)) (c7o : ∀ i, i < n → gr G' 7 (y 5 (r i)) = gr G 7 (y 5 (r i))) (c12 : gi G' 12 (y 5 (r n)) = nI 0) : tBl y G' (n + 1) r + (cnt (fun i => decide (gr G 7 (y 5 (r i)) = some (y 5 d))) n + 3) / 4 = tBl y G n r + (cnt (fun i => decide (gr G 7 (y 5 (r i)) = some (y 5 d))) n + 4) / 4 := by
  obtain ⟨rn1, rn20, rnl⟩ := h.spn hn
  have hd20 := h.le hd
  have cntE : ∀ j, cnt (fun i => decide (gr G' 7 (y 5 (r i)) = some (y 5 j))) n = cnt (fun i => decide (gr G 7 (y 5 (r i)) = some (y 5 j))) n := fun j => cnt_congr fun i hi => by rw [c7o i hi]
  have cS' : ∀ j, j ≤ 20 → cnt (fun i => decide (gr G' 7 (y 5 (r i)) = some (y 5 j))) (n + 1) = cnt (fun i => decide (gr G 7 (y 5 (r i)) = some (y 5 j))) n + if j = d then 1 else 0 := fun j hj => by
    show cnt _ n + (if decide (gr G' 7 (y 5 (r n)) = some (y 5 j)) = true then 1 else 0) = _
    rw [cntE j]
    by_cases q : j = d
    · rw [if_pos q, if_pos (by simp only [decide_eq_true_eq]; rw [q]; exact c7)]
    · rw [if_neg q, if_neg (by
        simp only [decide_eq_true_eq]
        rw [c7]
        exact fun w => q (y5 hs (by omega) (by omega) (Option.some.inj w)).symm)]
  have oth : ∀ j, j ≤ 20 → j ≠ r n → j ≠ d → cBl y G' (n + 1) r j = cBl y G n r j := fun j hj q qd => by
    unfold cBl
    rw [(c2 j hj q).1, (c2 j hj q).2, cS' j hj, if_neg qd, Nat.add_zero]
  have cd : cBl y G' (n + 1) r d = (cnt (fun i => decide (gr G 7 (y 5 (r i)) = some (y 5 d))) n + 4) / 4 := by
    unfold cBl
    rw [(c2 d hd20 (rnl d hd)).1, if_pos hdir, cS' d hd20, if_pos rfl]
  have cd0 : cBl y G n r d = (cnt (fun i => decide (gr G 7 (y 5 (r i)) = some (y 5 d))) n + 3) / 4 := by
    unfold cBl
    rw [if_pos hdir]
  have cn : cBl y G' (n + 1) r (r n) = 0 := by
    unfold cBl
    by_cases q : gi G' 2 (y 5 (r n)) < 0
    · rw [if_pos q, cS' (r n) rn20, if_neg (fun w => rnl d hd w.symm)]
      have : cnt (fun i => decide (gr G 7 (y 5 (r i)) = some (y 5 (r n)))) n = 0 := by
        rw [cnt_sm]
        refine sm_zero fun i hi => if_neg ?_
        simp only [decide_eq_true_eq]
        intro w
        obtain ⟨j', x1, x2, -, -⟩ := h.2.2.2.2.2.2.2.2.2.2.2.2.2.1 i hi
        exact rnl j' x1 (y5 hs (by have := h.le x1; omega) (by omega) (Option.some.inj (x2.symm.trans w)))
      omega
    · rw [if_neg q, c12]; decide
  have r20 : ∀ i, i < n → r i ≤ 20 ∧ 1 ≤ r i ∧ r i ≠ r n := fun i hi => ⟨(h.2.2.2.2.1 i (by omega)).2.2, (h.2.2.2.2.1 i (by omega)).2.1, rnl _ (Or.inr ⟨i, hi, rfl⟩)⟩
  have e : sm (fun i => cBl y G' (n + 1) r (r i)) (n + 1) = sm (fun i => cBl y G' (n + 1) r (r i)) n := by
    show sm _ n + cBl y G' (n + 1) r (r n) = _
    rw [cn]; rfl
  unfold tBl
  rw [e]
  rcases hd with rfl | ⟨i0, hi0, rfl⟩
  · rw [cd, cd0, sm_congr (w := fun i => cBl y G' (n + 1) r (r i)) (v := fun i => cBl y G n r (r i)) (fun i hi => oth _ (r20 i hi).1 (r20 i hi).2.2 (by have := (r20 i hi).2.1; omega))]
    omega
  · rw [oth 0 (by omega) (by omega) (by have := r20 i0 hi0; omega)]
    have e1 : sm (fun i => cBl y G' (n + 1) r (r i)) n = sm (fun i => if i = i0 then (cnt (fun i => decide (gr G 7 (y 5 (r i)) = some (y 5 (r i0)))) n + 4) / 4 else cBl y G n r (r i)) n := sm_congr fun i hi => by
      show cBl y G' (n + 1) r (r i) = _
      by_cases q : i = i0
      · rw [if_pos q, q, cd]
      · rw [if_neg q, oth _ (r20 i hi).1 (r20 i hi).2.2 (fun w => q (h.2.2.2.2.2.1 i i0 (by omega) (by omega) w))]
    have e2 := sm_upd (w := fun i => cBl y G n r (r i)) (a := i0) (v := (cnt (fun i => decide (gr G 7 (y 5 (r i)) = some (y 5 (r i0)))) n + 4) / 4) hi0
    rw [cd0] at e2
    rw [e1]
    omega
end ADD
