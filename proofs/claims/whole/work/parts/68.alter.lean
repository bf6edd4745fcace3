/-! the tree when one node is altered (by hand) -/
section MOD
variable {t : TY} {y : LYT} {G G' X : GS} {T T' : Nat → Int32} {n np : Nat} {r s : Nat → Nat}
theorem frT.fz (hs : SH t y) (hz : FZ y G) (hf : frT y G G') : FZ y G' := hz.to hs ⟨fun a => ⟨(hf.1 63 a (by omega)).2, (hf.1 64 a (by omega)).2, (hf.1 65 a (by omega)).2, (hf.1 66 a (by omega)).2, (hf.1 67 a (by omega)).2, (hf.1 68 a (by omega)).2, (hf.2.2.2.2.1 a).2.2.1, (hf.2.2.2.2.1 a).2.2.2, (hf.1 31 a (by omega)).2, (hf.1 33 a (by omega)).2, (hf.1 36 a (by omega)).2, (hf.1 40 a (by omega)).2, (hf.1 41 a (by omega)).2, (hf.1 44 a (by omega)).2, (hf.2.2.2.2.1 a).1, (hf.2.2.2.2.1 a).2.1, (hf.1 55 a (by omega)).2, (hf.1 57 a (by omega)).2, (hf.1 62 a (by omega)).2⟩, fun f a hv => (hf.1 f a (by simp [yV] at hv; omega)).2, hf.2.2.2.2.2⟩
theorem frT.rf : frT y G G := ⟨fun _ _ _ => ⟨rfl, rfl⟩, fun _ _ => rfl, fun _ => rfl, fun _ _ => rfl, fun _ => ⟨rfl, rfl, rfl, rfl⟩, fun _ _ => rfl⟩
/-- one node is another, but for its path, home and entries -/
theorem TrR.mod (h : TrR t y G T n r s np) (hb : np < 2 ^ 31) (hs : SH t y) {d : Nat} (hd : lvN n r d) (c1 : ∀ f a, f ≤ 16 → a ≠ y 5 d → gi G' f a = gi G f a ∧ gr G' f a = gr G f a) (c2 : gi G' 0 (y 5 d) = gi G 0 (y 5 d) ∧ gi G' 8 (y 5 d) = gi G 8 (y 5 d) ∧ gr G' 7 (y 5 d) = gr G 7 (y 5 d)) (c3 : ∀ i, i < 23 → i ≠ d → ai G' (y 6 i) = ai G (y 6 i) ∧ ai G' (y 7 i) = ai G (y 7 i)) (c4 : ∀ a, ar G' a = ar G a) (c5 : gi G 2 (y 5 d) < 0 → gi G' 2 (y 5 d) < 0) (t1 : ∀ k, ¬ (83 * s d + 2 ≤ k ∧ k < 83 * s d + 83) → T' k = T k) (t2 : T' (83 * s d + 8) = T (83 * s d + 8)) (hN : NdR t y G' T' d (s d)) (hU : ∀ i i', i < n → i' < n → gr G 7 (y 5 (r i)) = gr G 7 (y 5 (r i')) → sNm y G' (r i) (r i') → i = i') (hC : ∃ l, l ≤ 64 ∧ gi G' 12 (y 5 d) = nI l ∧ ∀ k, l ≤ k → k < 64 → ai G' (y 7 d) k = 0) (hB : tBl y G' n r ≤ 24) : TrR t y G' T' n r s np := by
  obtain ⟨h1, h2, h3, h4, h5, h6, ⟨p, h7, h8⟩, h9, h10, h11, h12, h13, h14, h15, h16, h17, h18⟩ := id h
  have hd20 := h.le hd
  have e0 : ∀ a, gi G' 0 a = gi G 0 a := fun a => by
    by_cases q : a = y 5 d
    · rw [q]; exact c2.1
    · exact (c1 0 a (by omega) q).1
  have e7 : ∀ a, gr G' 7 a = gr G 7 a := fun a => by
    by_cases q : a = y 5 d
    · rw [q]; exact c2.2.2
    · exact (c1 7 a (by omega) q).2
  have e8 : ∀ a, gi G' 8 a = gi G 8 a := fun a => by
    by_cases q : a = y 5 d
    · rw [q]; exact c2.2.1
    · exact (c1 8 a (by omega) q).1
  have n2 : y 2 0 ≠ y 5 d := hs.ne (by omega) rfl (by simp [yV]; omega)
  have sd := (h.nd hd).1
  have T8 : ∀ k, k < 21 → T' (83 * k + 8) = T (83 * k + 8) := fun k hk => by
    by_cases q : k = s d
    · rw [q]; exact t2
    · exact t1 _ (by omega)
  have T0 : ∀ k, k < 21 → T' (83 * k) = T (83 * k) := fun k hk => t1 _ (by omega)
  have nd : ∀ j, lvN n r j → j ≠ d → y 5 j ≠ y 5 d := fun j hj q z => q (y5 hs (by have := h.le hj; omega) (by omega) z)
  refine ⟨h1, by rw [(c1 15 _ (by omega) n2).1]; exact h2, h3, by rw [(c1 16 _ (by omega) n2).1]; exact h4, fun i hi => by rw [c4]; exact h5 i hi, h6, ⟨p, fun i hi => by rw [e0]; exact h7 i hi, h8⟩, fun i hi hi2 => by rw [e0]; exact h9 i hi hi2, by rw [e0]; exact h10, h11, fun j hj => ?_, fun k hk => ?_, ?_, fun i hi => ?_, fun j hj => ?_, fun i i' hi hi' e1 e2 => ?_, fun j hj => ?_⟩
  · by_cases q : j = d
    · rw [q]; exact ⟨sd, (h12 d hd).2.1, hN⟩
    · obtain ⟨x1, x2, x3⟩ := h12 j hj
      refine ⟨x1, x2, ?_⟩
      have hj20 := h.le hj
      have ne := nd j hj q
      have ns : s j ≠ s d := fun w => q (h.sinj hb hj hd w)
      have tt : ∀ c, c < 83 → T' (83 * s j + c) = T (83 * s j + c) := fun c hc => t1 _ (by omega)
      have g : ∀ f, f ≤ 16 → gi G' f (y 5 j) = gi G f (y 5 j) := fun f hf => (c1 f _ hf ne).1
      have g' : ∀ f, f ≤ 16 → gr G' f (y 5 j) = gr G f (y 5 j) := fun f hf => (c1 f _ hf ne).2
      obtain ⟨y1, y2, y3, y4, y5', y6, y7, y8, ⟨l, g1, z1, z2, z3, z4, z5⟩, ⟨l2, g2, w1, w2, w3, w4, w5⟩⟩ := x3
      refine ⟨(tt 0 (by omega)).trans y1, by rw [tt 1 (by omega), g 0 (by omega)]; exact y2, by rw [tt 2 (by omega), g 1 (by omega)]; exact y3, by rw [tt 3 (by omega), g 2 (by omega)]; exact y4, by rw [tt 4 (by omega), g 3 (by omega)]; exact y5', by rw [tt 5 (by omega), g' 4 (by omega)]; exact y6, by rw [tt 6 (by omega), g' 5 (by omega)]; exact y7, by rw [tt 7 (by omega), g' 6 (by omega)]; exact y8, ⟨l, g1, z1, by rw [g 10 (by omega)]; exact z2, by rw [tt 9 (by omega)]; exact z3, fun k hk => by rw [(c3 j (by omega) q).1]; exact z4 k hk, fun k hk => by
        rw [show 83 * s j + 10 + k = 83 * s j + (10 + k) by omega, tt (10 + k) (by omega), show 83 * s j + (10 + k) = 83 * s j + 10 + k by omega]; exact z5 k hk⟩, ⟨l2, g2, w1, by rw [g 12 (by omega)]; exact w2, by rw [tt 18 (by omega)]; exact w3, fun k hk => by rw [(c3 j (by omega) q).2]; exact w4 k hk, fun k hk => by
        rw [show 83 * s j + 19 + k = 83 * s j + (19 + k) by omega, tt (19 + k) (by omega), show 83 * s j + (19 + k) = 83 * s j + 19 + k by omega]; exact w5 k hk⟩⟩
  · rw [T0 k hk]; exact h13 k hk
  · rw [e7]
    have := T8 0 (by omega)
    rw [show 83 * 0 + 8 = 8 from rfl] at this
    rw [this]; exact ⟨h14.1, h14.2.1, hB⟩
  · obtain ⟨j, x1, x2, x3, x4⟩ := h15 i hi
    refine ⟨j, x1, by rw [e7]; exact x2, by rw [T8 _ (h.nd (h.in hi)).1, e0]; exact x3, ?_⟩
    by_cases q : j = d
    · rw [q] at x4 ⊢; exact c5 x4
    · rw [(c1 2 _ (by omega) (nd j x1 q)).1]; exact x4
  · rw [e8]
    simp only [e7]
    exact h16 j hj
  · rw [e7, e7] at e1
    exact hU i i' hi hi' e1 e2
  · by_cases q : j = d
    · rw [q]; exact hC
    · obtain ⟨l, x1, x2, x3⟩ := h18 j hj
      have ne : y 5 j ≠ y 5 d := fun z => q (y5 hs (by omega) (by omega) z)
      exact ⟨l, x1, by rw [(c1 12 _ (by omega) ne).1]; exact x2, fun k hk hk2 => by rw [(c3 j (by omega) q).2]; exact x3 k hk hk2⟩
/-- names as before -/
theorem TrR.nmU (h : TrR t y G T n r s np) (e10 : ∀ a, gi G' 10 a = gi G 10 a) (e6 : ∀ i, i < 23 → ai G' (y 6 i) = ai G (y 6 i)) : ∀ i i', i < n → i' < n → gr G 7 (y 5 (r i)) = gr G 7 (y 5 (r i')) → sNm y G' (r i) (r i') → i = i' := fun i i' hi hi' e1 e2 => by
  refine h.2.2.2.2.2.2.2.2.2.2.2.2.2.2.2.1 i i' hi hi' e1 ?_
  obtain ⟨z1, z2⟩ := e2
  rw [e10, e10] at z1
  rw [e10] at z2
  refine ⟨z1, fun k hk => ?_⟩
  have := z2 k hk
  rw [e6 _ (h.y20 hi), e6 _ (h.y20 hi')] at this
  exact this
theorem TrR.tail (h : TrR t y G T n r s np) {d : Nat} (hd : lvN n r d) (e12 : gi G' 12 (y 5 d) = gi G 12 (y 5 d)) (e7 : ai G' (y 7 d) = ai G (y 7 d)) : ∃ l, l ≤ 64 ∧ gi G' 12 (y 5 d) = nI l ∧ ∀ k, l ≤ k → k < 64 → ai G' (y 7 d) k = 0 := by
  rw [e12, e7]; exact h.2.2.2.2.2.2.2.2.2.2.2.2.2.2.2.2 d (h.le hd)
/-- the mode -/
theorem TrR.b24 (h : TrR t y G T n r s np) : tBl y G n r ≤ 24 := h.2.2.2.2.2.2.2.2.2.2.2.2.1.2.2
theorem TrR.md (h : TrR t y G T n r s np) (hb : np < 2 ^ 31) (hs : SH t y) {d : Nat} (hd : lvN n r d) {v : Int32} (hv : v < 0 ↔ gi G 2 (y 5 d) < 0) : TrR t y (si G 2 (y 5 d) v) (cS T (s d) 3 v) n r s np := by
  have N := (h.nd hd).2.2
  obtain ⟨y1, y2, y3, y4, y5', y6, y7, y8, ⟨l, g1, z1, z2, z3, z4, z5⟩, ⟨l2, g2, w1, w2, w3, w4, w5⟩⟩ := N
  have g : ∀ f a, f ≠ 2 → gi (si G 2 (y 5 d) v) f a = gi G f a := fun f a q => gi_ne q
  refine h.mod hb hs hd (fun f a _ q => ⟨gi_na q, rfl⟩) ⟨g _ _ (by omega), g _ _ (by omega), rfl⟩ (fun i _ _ => ⟨rfl, rfl⟩) (fun _ => rfl) (fun w => by rw [gi_at]; exact hv.mpr w) (fun k q => cS_ne (by omega)) (cS_ne (by omega)) ⟨(cS_ne (by omega)).trans y1, by rw [cS_ne (by omega), g _ _ (by omega)]; exact y2, by rw [cS_ne (by omega), g _ _ (by omega)]; exact y3, by rw [cS_at, gi_at], by rw [cS_ne (by omega), g _ _ (by omega)]; exact y5', by rw [cS_ne (by omega)]; exact y6, by rw [cS_ne (by omega)]; exact y7, by rw [cS_ne (by omega)]; exact y8, ⟨l, g1, z1, by rw [g _ _ (by omega)]; exact z2, by rw [cS_ne (by omega)]; exact z3, z4, fun k hk => by rw [cS_ne (by omega)]; exact z5 k hk⟩, ⟨l2, g2, w1, by rw [g _ _ (by omega)]; exact w2, by rw [cS_ne (by omega)]; exact w3, w4, fun k hk => by rw [cS_ne (by omega)]; exact w5 k hk⟩⟩ (h.nmU (fun a => g _ _ (by omega)) (fun _ _ => rfl)) (h.tail hd (g _ _ (by omega)) rfl) (by
    have e : tBl y (si G 2 (y 5 d) v) n r = tBl y G n r := tBl_eq (fun a => by
      by_cases q : a = y 5 d
      · rw [q, gi_at]; exact hv
      · rw [gi_na q]) (fun _ => rfl) (fun a => g _ _ (by omega))
    rw [e]; exact h.b24)
/-- the group -/
theorem TrR.gp (h : TrR t y G T n r s np) (hb : np < 2 ^ 31) (hs : SH t y) {d u : Nat} (hd : lvN n r d) (hu : u < 3) : TrR t y (sr G 5 (y 5 d) (some (tad t u))) (cS T (s d) 6 (nI u)) n r s np := by
  have N := (h.nd hd).2.2
  obtain ⟨y1, y2, y3, y4, y5', y6, y7, y8, ⟨l, g1, z1, z2, z3, z4, z5⟩, ⟨l2, g2, w1, w2, w3, w4, w5⟩⟩ := N
  have g : ∀ f a, f ≠ 5 → gr (sr G 5 (y 5 d) (some (tad t u))) f a = gr G f a := fun f a q => gr_ne q
  refine h.mod hb hs hd (fun f a _ q => ⟨rfl, gr_na q⟩) ⟨rfl, rfl, g _ _ (by omega)⟩ (fun i _ _ => ⟨rfl, rfl⟩) (fun _ => rfl) (fun w => w) (fun k q => cS_ne (by omega)) (cS_ne (by omega)) ⟨(cS_ne (by omega)).trans y1, by rw [cS_ne (by omega)]; exact y2, by rw [cS_ne (by omega)]; exact y3, by rw [cS_ne (by omega)]; exact y4, by rw [cS_ne (by omega)]; exact y5', by rw [cS_ne (by omega), g _ _ (by omega)]; exact y6, ⟨u, hu, gr_at, cS_at⟩, by rw [cS_ne (by omega), g _ _ (by omega)]; exact y8, ⟨l, g1, z1, z2, by rw [cS_ne (by omega)]; exact z3, z4, fun k hk => by rw [cS_ne (by omega)]; exact z5 k hk⟩, ⟨l2, g2, w1, w2, by rw [cS_ne (by omega)]; exact w3, w4, fun k hk => by rw [cS_ne (by omega)]; exact w5 k hk⟩⟩ (h.nmU (fun a => rfl) (fun _ _ => rfl)) (h.tail hd rfl rfl) (by rw [tBl_eq (fun _ => Iff.rfl) (fun a => g _ _ (by omega)) (fun _ => rfl)]; exact h.b24)
/-- the time -/
theorem TrR.mt (h : TrR t y G T n r s np) (hb : np < 2 ^ 31) (hs : SH t y) {d : Nat} (hd : lvN n r d) {v : Int32} : TrR t y (si G 3 (y 5 d) v) (cS T (s d) 4 v) n r s np := by
  have N := (h.nd hd).2.2
  obtain ⟨y1, y2, y3, y4, y5', y6, y7, y8, ⟨l, g1, z1, z2, z3, z4, z5⟩, ⟨l2, g2, w1, w2, w3, w4, w5⟩⟩ := N
  have g : ∀ f a, f ≠ 3 → gi (si G 3 (y 5 d) v) f a = gi G f a := fun f a q => gi_ne q
  refine h.mod hb hs hd (fun f a _ q => ⟨gi_na q, rfl⟩) ⟨g _ _ (by omega), g _ _ (by omega), rfl⟩ (fun i _ _ => ⟨rfl, rfl⟩) (fun _ => rfl) (fun w => by rw [g _ _ (by omega)]; exact w) (fun k q => cS_ne (by omega)) (cS_ne (by omega)) ⟨(cS_ne (by omega)).trans y1, by rw [cS_ne (by omega), g _ _ (by omega)]; exact y2, by rw [cS_ne (by omega), g _ _ (by omega)]; exact y3, by rw [cS_ne (by omega), g _ _ (by omega)]; exact y4, by rw [cS_at, gi_at], by rw [cS_ne (by omega)]; exact y6, by rw [cS_ne (by omega)]; exact y7, by rw [cS_ne (by omega)]; exact y8, ⟨l, g1, z1, by rw [g _ _ (by omega)]; exact z2, by rw [cS_ne (by omega)]; exact z3, z4, fun k hk => by rw [cS_ne (by omega)]; exact z5 k hk⟩, ⟨l2, g2, w1, by rw [g _ _ (by omega)]; exact w2, by rw [cS_ne (by omega)]; exact w3, w4, fun k hk => by rw [cS_ne (by omega)]; exact w5 k hk⟩⟩ (h.nmU (fun a => g _ _ (by omega)) (fun _ _ => rfl)) (h.tail hd (g _ _ (by omega)) rfl) (by rw [tBl_eq (fun a => by rw [g _ _ (by omega)]) (fun _ => rfl) (fun a => g _ _ (by omega))]; exact h.b24)
/-- the content: class, cells -/
def ctC (y : LYT) (G : GS) (d l : Nat) (A : Nat → Int32) : GS := si (aw G (y 7 d) A) 12 (y 5 d) (nI l)
def ctT (T : Nat → Int32) (n l : Nat) (B : Nat → Int32) : Nat → Int32 := fun k => if k = 83 * n + 18 then nI l else if 83 * n + 19 ≤ k ∧ k < 83 * n + 83 then B (k - (83 * n + 19)) else T k
theorem TrR.ct (h : TrR t y G T n r s np) (hb : np < 2 ^ 31) (hs : SH t y) {d l : Nat} (hd : lvN n r d) {A B : Nat → Int32} (hl : l ≤ 64) (hA : ∀ k, k < l → ∃ v, v < 256 ∧ A k = sb v ∧ B k = nI v) (hz : ∀ k, l ≤ k → k < 64 → A k = 0) (hB : tBl y (ctC y G d l A) n r ≤ 24) : TrR t y (ctC y G d l A) (ctT T (s d) l B) n r s np := by
  have hd20 := h.le hd
  have N := (h.nd hd).2.2
  obtain ⟨y1, y2, y3, y4, y5', y6, y7, y8, ⟨l1, g1, z1, z2, z3, z4, z5⟩, -⟩ := N
  have v7 : ∀ i, i < 23 → yV 7 i = true := fun i hi => by simp [yV, hi]
  have v6 : ∀ i, i < 23 → yV 6 i = true := fun i hi => by simp [yV, hi]
  have g : ∀ f a, f ≠ 12 → gi (ctC y G d l A) f a = gi G f a := fun f a q => gi_ne q
  have a6 : ∀ i, i < 23 → ai (ctC y G d l A) (y 6 i) = ai G (y 6 i) := fun i hi => aw_ne (hs.ne (by omega) (v6 i hi) (v7 d (by omega)))
  have a7 : ai (ctC y G d l A) (y 7 d) = A := aw_at
  have tt : ∀ c, c < 18 → ctT T (s d) l B (83 * s d + c) = T (83 * s d + c) := fun c hc => by unfold ctT; rw [if_neg (by omega), if_neg (by omega)]
  obtain ⟨f, hf⟩ : ∃ f : Nat → Nat, ∀ k, k < l → f k < 256 ∧ A k = sb (f k) ∧ B k = nI (f k) := by
    refine ⟨fun k => if h : k < l then (hA k h).choose else 0, fun k hk => ?_⟩
    simp only [dif_pos hk]
    exact (hA k hk).choose_spec
  refine h.mod hb hs hd (fun f a _ q => ⟨gi_na q, rfl⟩) ⟨g _ _ (by omega), g _ _ (by omega), rfl⟩ (fun i hi q => ⟨a6 i hi, aw_ne (hs.ne (by omega) (v7 i hi) (v7 d (by omega)))⟩) (fun _ => rfl) (fun w => by rw [g _ _ (by omega)]; exact w) (fun k q => by unfold ctT; rw [if_neg (by omega), if_neg (by omega)]) (tt 8 (by omega)) ⟨(tt 0 (by omega)).trans y1, by rw [tt _ (by omega), g _ _ (by omega)]; exact y2, by rw [tt _ (by omega), g _ _ (by omega)]; exact y3, by rw [tt _ (by omega), g _ _ (by omega)]; exact y4, by rw [tt _ (by omega), g _ _ (by omega)]; exact y5', by rw [tt _ (by omega)]; exact y6, by rw [tt _ (by omega)]; exact y7, by rw [tt _ (by omega)]; exact y8, ⟨l1, g1, z1, by rw [g _ _ (by omega)]; exact z2, by rw [tt _ (by omega)]; exact z3, fun k hk => by rw [a6 d (by omega)]; exact z4 k hk, fun k hk => by rw [show 83 * s d + 10 + k = 83 * s d + (10 + k) by omega, tt _ (by omega), show 83 * s d + (10 + k) = 83 * s d + 10 + k by omega]; exact z5 k hk⟩, ⟨l, f, hl, gi_at, by unfold ctT; rw [if_pos rfl], fun k hk => ⟨(hf k hk).1, by rw [a7]; exact (hf k hk).2.1⟩, fun k hk => by unfold ctT; rw [if_neg (by omega), if_pos (by omega), show 83 * s d + 19 + k - (83 * s d + 19) = k by omega]; exact (hf k hk).2.2⟩⟩ (h.nmU (fun a => g _ _ (by omega)) a6) ⟨l, hl, gi_at, fun k h1 h2 => by rw [a7]; exact hz k h1 h2⟩ hB
/-- the name: class, cells -/
def nmC (y : LYT) (G : GS) (d l : Nat) (A : Nat → Int32) : GS := si (aw G (y 6 d) A) 10 (y 5 d) (nI l)
def nmT (T : Nat → Int32) (n l : Nat) (g : Nat → Nat) : Nat → Int32 := fun k => if k = 83 * n + 9 then nI l else if 83 * n + 10 ≤ k ∧ k < 83 * n + 10 + l then nI (g (k - (83 * n + 10))) else T k
theorem TrR.rn (h : TrR t y G T n r s np) (hb : np < 2 ^ 31) (hs : SH t y) {d l : Nat} (hd : lvN n r d) {A : Nat → Int32} {g : Nat → Nat} (hl : l ≤ 8) (hA : ∀ k, k < l → g k < 256 ∧ A k = sb (g k)) (hU : ∀ i, i < n → r i ≠ d → gr G 7 (y 5 (r i)) = gr G 7 (y 5 d) → ¬ (gi G 10 (y 5 (r i)) = nI l ∧ ∀ k, k < l → ai G (y 6 (r i)) k = sb (g k))) : TrR t y (nmC y G d l A) (nmT T (s d) l g) n r s np := by
  have hd20 := h.le hd
  have N := (h.nd hd).2.2
  obtain ⟨y1, y2, y3, y4, y5', y6, y7, y8, -, ⟨l2, g2, w1, w2, w3, w4, w5⟩⟩ := N
  have v7 : ∀ i, i < 23 → yV 7 i = true := fun i hi => by simp [yV, hi]
  have v6 : ∀ i, i < 23 → yV 6 i = true := fun i hi => by simp [yV, hi]
  have gg : ∀ f a, f ≠ 10 → gi (nmC y G d l A) f a = gi G f a := fun f a q => gi_ne q
  have a7 : ∀ i, i < 23 → ai (nmC y G d l A) (y 7 i) = ai G (y 7 i) := fun i hi => aw_ne (hs.ne (by omega) (v7 i hi) (v6 d (by omega)))
  have a6 : ai (nmC y G d l A) (y 6 d) = A := aw_at
  have o6 : ∀ i, i < 23 → i ≠ d → ai (nmC y G d l A) (y 6 i) = ai G (y 6 i) := fun i hi q => aw_ne (hs.ne (by omega) (v6 i hi) (v6 d (by omega)))
  have tt : ∀ c, c < 9 ∨ 18 ≤ c → c < 83 → nmT T (s d) l g (83 * s d + c) = T (83 * s d + c) := fun c h1 h2 => by unfold nmT; rw [if_neg (by omega), if_neg (by omega)]
  have n5 : ∀ i, i < n → r i ≠ d → y 5 (r i) ≠ y 5 d := fun i hi q z => q (y5 hs (by have := h.y20 hi; omega) (by omega) z)
  have e10 : gi (nmC y G d l A) 10 (y 5 d) = nI l := gi_at
  have o10 : ∀ i, i < n → r i ≠ d → gi (nmC y G d l A) 10 (y 5 (r i)) = gi G 10 (y 5 (r i)) := fun i hi q => gi_na (n5 i hi q)
  refine h.mod hb hs hd (fun f a _ q => ⟨gi_na q, rfl⟩) ⟨gg _ _ (by omega), gg _ _ (by omega), rfl⟩ (fun i hi q => ⟨o6 i hi q, a7 i hi⟩) (fun _ => rfl) (fun w => by rw [gg _ _ (by omega)]; exact w) (fun k q => by unfold nmT; rw [if_neg (by omega), if_neg (by omega)]) (tt 8 (by omega) (by omega)) ⟨(tt 0 (by omega) (by omega)).trans y1, by rw [tt _ (by omega) (by omega), gg _ _ (by omega)]; exact y2, by rw [tt _ (by omega) (by omega), gg _ _ (by omega)]; exact y3, by rw [tt _ (by omega) (by omega), gg _ _ (by omega)]; exact y4, by rw [tt _ (by omega) (by omega), gg _ _ (by omega)]; exact y5', by rw [tt _ (by omega) (by omega)]; exact y6, by rw [tt _ (by omega) (by omega)]; exact y7, by rw [tt _ (by omega) (by omega)]; exact y8, ⟨l, g, hl, e10, by unfold nmT; rw [if_pos rfl], fun k hk => ⟨(hA k hk).1, by rw [a6]; exact (hA k hk).2⟩, fun k hk => by unfold nmT; rw [if_neg (by omega), if_pos (by omega), show 83 * s d + 10 + k - (83 * s d + 10) = k by omega]⟩, ⟨l2, g2, w1, by rw [gg _ _ (by omega)]; exact w2, by rw [tt _ (by omega) (by omega)]; exact w3, fun k hk => by rw [a7 d (by omega)]; exact w4 k hk, fun k hk => by rw [show 83 * s d + 19 + k = 83 * s d + (19 + k) by omega, tt _ (by omega) (by omega), show 83 * s d + (19 + k) = 83 * s d + 19 + k by omega]; exact w5 k hk⟩⟩ (fun i i' hi hi' e1 e2 => ?_) (h.tail hd (gg _ _ (by omega)) (a7 d (by omega))) (by rw [tBl_eq (fun a => by rw [gg _ _ (by omega)]) (fun _ => rfl) (fun a => gg _ _ (by omega))]; exact h.b24)
  obtain ⟨z1, z2⟩ := e2
  by_cases q : r i = d
  · by_cases q' : r i' = d
    · exact h.2.2.2.2.2.1 i i' (by have := h.1; omega) (by have := h.1; omega) (q.trans q'.symm)
    · exfalso
      rw [q, e10, o10 i' hi' q'] at z1
      refine hU i' hi' q' (by rw [← q]; exact e1.symm) ⟨z1.symm, fun k hk => ?_⟩
      have := z2 k (by rw [q, e10, nI_clamp (by omega)]; exact hk)
      rw [q, a6, o6 _ (h.y20 hi') q', (hA k hk).2] at this
      exact this.symm
  · by_cases q' : r i' = d
    · exfalso
      rw [q', e10, o10 i hi q] at z1
      refine hU i hi q (by rw [← q']; exact e1) ⟨z1, fun k hk => ?_⟩
      have := z2 k (by rw [o10 i hi q, z1, nI_clamp (by omega)]; exact hk)
      rw [q', a6, o6 _ (h.y20 hi) q, (hA k hk).2] at this
      exact this
    · refine h.2.2.2.2.2.2.2.2.2.2.2.2.2.2.2.1 i i' hi hi' e1 ⟨?_, fun k hk => ?_⟩
      · rw [o10 i hi q, o10 i' hi' q'] at z1; exact z1
      · have := z2 k (by rw [o10 i hi q]; exact hk)
        rw [o6 _ (h.y20 hi) q, o6 _ (h.y20 hi') q'] at this
        exact this
end MOD
