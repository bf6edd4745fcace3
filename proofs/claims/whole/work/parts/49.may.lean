/-! rights (by hand) -/
/-- whether a mode gives a right: the three roads -/
def mOk (md b : Int32) (u g o : Nat) : Prop := ¬ md &&& b = 0 ∨ ((u = g ∨ (u = 1 ∧ g = 0)) ∧ ¬ (md >>> ((3 : Int32) &&& 31)) &&& b = 0) ∨ (u = o ∧ ¬ (md >>> ((6 : Int32) &&& 31)) &&& b = 0)
section MAY
variable {t : TY} {y : LYT} {G m : GS}
theorem td3 (hs : SH t y) {u v : Nat} (hu : u < 3) (hv : v < 3) : (some (tad t u) = some (tad t v)) ↔ u = v := ⟨fun h => hs.2.2.1 u v hu hv (Option.some.inj h), fun h => by rw [h]⟩
theorem S_isIn (hs : SH t y) {u g : Nat} (hu : u < 3) (hg : g < 3) {K : Int32 → Prop} (k1 : (u = g ∨ (u = 1 ∧ g = 0)) → K 1) (k0 : ¬ (u = g ∨ (u = 1 ∧ g = 0)) → K 0) : w_User_isIn t G (tad t u) (some (tad t g)) K := by
  refine iS ⟨fun h => k1 (Or.inl ((td3 hs hu hg).mp h)), fun h => iN ⟨fun h1 => iN ⟨fun h2 => ?_, fun h2 => ?_⟩, fun h1 => ?_⟩⟩
  · exact k1 (Or.inr ⟨(td3 hs hu (by omega)).mp h1, (td3 hs hg (by omega)).mp h2⟩)
  · refine k0 (fun z => ?_)
    rcases z with z | z
    · exact h ((td3 hs hu hg).mpr z)
    · exact h2 ((td3 hs hg (by omega)).mpr z.2)
  · refine k0 (fun z => ?_)
    rcases z with z | z
    · exact h ((td3 hs hu hg).mpr z)
    · exact h1 ((td3 hs hu (by omega)).mpr z.1)
theorem S_lets (hs : SH t y) {j u g o : Nat} {b : Int32} (hj : j < 23) (hu : u < 3) (hg : g < 3) (ho : o < 3) (eg : gr G 5 (y 5 j) = some (tad t g)) (eo : gr G 4 (y 5 j) = some (tad t o)) {K : Int32 → Prop} (k1 : mOk (gi G 2 (y 5 j)) b u g o → K 1) (k0 : ¬ mOk (gi G 2 (y 5 j)) b u g o → K 0) : w_Node_lets t G (y 5 j) (some (tad t u)) b K := by
  have hv : yV 5 j = true := by simp [yV, hj]
  have last : ¬ (¬ gi G 2 (y 5 j) &&& b = 0) → ¬ ((u = g ∨ (u = 1 ∧ g = 0)) ∧ ¬ (gi G 2 (y 5 j) >>> ((3 : Int32) &&& 31)) &&& b = 0) → w_Node_lets_35 t G (y 5 j) K (some (tad t u)) b := fun n1 n2 => by
    refine ⟨hs.k 5 j hv, iS ⟨fun h => k0 (fun z => ?_), fun h => ?_⟩⟩
    · rcases z with z | z | z
      · exact n1 z
      · exact n2 z
      · exact z.2 h
    · rw [eo]
      refine iN ⟨fun h2 => k1 (Or.inr (Or.inr ⟨(td3 hs hu ho).mp h2, h⟩)), fun h2 => k0 (fun z => ?_)⟩
      rcases z with z | z | z
      · exact n1 z
      · exact n2 z
      · exact h2 ((td3 hs hu ho).mpr z.1)
  refine ⟨hs.k 5 j hv, iS ⟨fun h => iS ⟨fun h3 => ?_, fun h3 => ?_⟩, fun h => k1 (Or.inl h)⟩⟩
  · exact last (not_not_intro h) (fun z => z.2 h3)
  · refine ⟨tad t u, rfl, ⟨u, hu, rfl⟩, ?_⟩
    rw [eg]
    refine S_isIn hs hu hg (fun z => iF (by decide) (k1 (Or.inr (Or.inl ⟨z, h3⟩)))) (fun z => iT rfl (last (not_not_intro h) (fun w => z w.1)))
theorem M_may (hs : SH t y) (hz : FZ y m) {n u g o : Nat} {b : Int32} (hn : n < 21) (hu : u < 3) (hg : g < 3) (ho : o < 3) (eg : ai m (y 30 70) (83 * n + 6) = nI g) (eo : ai m (y 30 70) (83 * n + 5) = nI o) {K : Int32 → Prop} (k1 : mOk (ai m (y 30 70) (83 * n + 3)) b u g o → K 1) (k0 : ¬ mOk (ai m (y 30 70) (83 * n + 3)) b u g o → K 0) : w_M_may t m (y 1 0) (nI n) (nI u) b K := by
  have last : ¬ (¬ ai m (y 30 70) (83 * n + 3) &&& b = 0) → ¬ ((u = g ∨ (u = 1 ∧ g = 0)) ∧ ¬ (ai m (y 30 70) (83 * n + 3) >>> ((3 : Int32) &&& 31)) &&& b = 0) → w_M_may_62 t m (y 1 0) K (nI n) (nI u) b (ai m (y 30 70) (83 * n + 3)) := fun n1 n2 => by
    refine ⟨hs.k 1 0, M_at (c := 5) hs hz hn (by omega) ?_⟩
    rw [eo]
    refine iN ⟨fun h2 => iS ⟨fun h => k0 (fun z => ?_), fun h => k1 (Or.inr (Or.inr ⟨(nI_eq (by omega) (by omega)).mp h2, h⟩))⟩, fun h2 => k0 (fun z => ?_)⟩
    · rcases z with z | z | z
      · exact n1 z
      · exact n2 z
      · exact z.2 h
    · rcases z with z | z | z
      · exact n1 z
      · exact n2 z
      · exact h2 (by rw [z.1])
  have in1 : (u = g ∨ (u = 1 ∧ g = 0)) → w_M_may_34 t m (y 1 0) K (nI n) (nI u) b (ai m (y 30 70) (83 * n + 3)) := fun hin => by
    refine iN ⟨fun h => ?_, fun h => k1 (Or.inl h)⟩
    refine iF (by decide) (iN ⟨fun h3 => last (not_not_intro h) (fun z => z.2 h3), fun h3 => k1 (Or.inr (Or.inl ⟨hin, h3⟩))⟩)
  have in0 : ¬ (u = g ∨ (u = 1 ∧ g = 0)) → w_M_may_38 t m (y 1 0) K (nI n) (nI u) b (ai m (y 30 70) (83 * n + 3)) := fun hin => by
    refine iN ⟨fun h => iT rfl (last (not_not_intro h) (fun z => hin z.1)), fun h => k1 (Or.inl h)⟩
  refine ⟨hs.k 1 0, M_at (c := 3) hs hz hn (by omega) (M_at (c := 6) hs hz hn (by omega) ?_)⟩
  rw [eg]
  refine iS ⟨fun h => in1 (Or.inl ((nI_eq (by omega) (by omega)).mp h)), fun h => iN ⟨fun h1 => M_at (c := 6) hs hz hn (by omega) ?_, fun h1 => in0 (fun z => ?_)⟩⟩
  · rw [eg]
    refine iN ⟨fun h2 => in1 (Or.inr ⟨(nI_eq (b := 1) (by omega) (by omega)).mp h1, (nI_eq (b := 0) (by omega) (by omega)).mp h2⟩), fun h2 => in0 (fun z => ?_)⟩
    rcases z with z | z
    · exact h (by rw [z])
    · exact h2 (by rw [z.2]; rfl)
  · rcases z with z | z
    · exact h (by rw [z])
    · exact h1 (by rw [z.1]; rfl)
/-- a node and its slot give the same rights -/
theorem NdR.may {T : Nat → Int32} {j n : Nat} (h : NdR t y G T j n) : ∃ g o, g < 3 ∧ o < 3 ∧ gr G 5 (y 5 j) = some (tad t g) ∧ gr G 4 (y 5 j) = some (tad t o) ∧ T (83 * n + 6) = nI g ∧ T (83 * n + 5) = nI o ∧ T (83 * n + 3) = gi G 2 (y 5 j) := by
  obtain ⟨-, -, -, a4, -, ⟨o, ho, o1, o2⟩, ⟨g, hg, g1, g2⟩, -⟩ := h
  exact ⟨g, o, hg, ho, g1, o1, g2, o2, a4⟩
/-- the home of a node that isn't the root -/
theorem TrR.home {T : Nat → Int32} {n np : Nat} {r s : Nat → Nat} (h : TrR t y G T n r s np) {j : Nat} (hj : lvN n r j) (h0 : j ≠ 0) : ∃ j', lvN n r j' ∧ gr G 7 (y 5 j) = some (y 5 j') ∧ T (83 * s j + 8) = gi G 0 (y 5 j') ∧ gi G 2 (y 5 j') < 0 := by
  rcases hj with rfl | ⟨i, hi, rfl⟩
  · exact absurd rfl h0
  · exact h.2.2.2.2.2.2.2.2.2.2.2.2.2.1 i hi
/-- mayIn, over the tree -/
theorem TrR.mayIn {n np : Nat} {r s : Nat → Nat} (h : TrR t y G (ai m (y 30 70)) n r s np) (hb : np < 2 ^ 31) (hs : SH t y) (hz : FZ y m) {j j' u : Nat} (hu : u < 3) (hj : lvN n r j) (h0 : j ≠ 0) (hj' : lvN n r j') (e7 : gr G 7 (y 5 j) = some (y 5 j')) {g o : Nat} (hg : g < 3) (ho : o < 3) (eg : gr G 5 (y 5 j') = some (tad t g)) (eo : gr G 4 (y 5 j') = some (tad t o)) {K : Int32 → Prop} (k1 : mOk (gi G 2 (y 5 j')) 2 u g o → K 1) (k0 : ¬ mOk (gi G 2 (y 5 j')) 2 u g o → K 0) : w_M_mayIn t m (y 1 0) (nI (s j)) (nI u) K := by
  have x := h.nd hj
  have x' := h.nd hj'
  have s1 := x.2.1 h0
  obtain ⟨jj, hjj, e7', e8, -⟩ := h.home hj h0
  have hle := h.le hj'
  have hle' := h.le hjj
  have ejj : jj = j' := ((hs.2.1 5 jj 5 j' (by simp [yV]; omega) (by simp [yV]; omega)).mp (Option.some.inj (e7'.symm.trans e7))).2
  subst ejj
  refine iF (nI_ne0 (by omega) (by omega)) ⟨hs.k 1 0, M_at (c := 8) hs hz x.1 (by omega) ?_⟩
  rw [e8]
  refine M_find hs hz x'.1 x'.2.2.1 x'.2.2.2.1 (fun q hq h1 h2 => h.uniq hb hj' hq h1 h2) ?_
  obtain ⟨-, -, -, a4, -, ⟨o', ho', o1, o2⟩, ⟨g', hg', g1, g2⟩, -⟩ := x'.2.2
  have e1 : g' = g := (td3 hs hg' hg).mp (g1.symm.trans eg)
  have e2 : o' = o := (td3 hs ho' ho).mp (o1.symm.trans eo)
  subst e1 e2
  refine M_may hs hz x'.1 hu hg ho g2 o2 (fun z => iF (by decide) (k1 (by rw [← a4]; exact z))) (fun z => iT rfl (k0 (by rw [← a4]; exact z)))
end MAY
