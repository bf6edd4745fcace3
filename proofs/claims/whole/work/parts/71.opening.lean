/-! opening a fid (by hand) -/
/-- an opened fid at the node -/
def opn (y : LYT) (G : GS) (j k : Nat) : Prop := gi G 46 (y 14 k) = 1 ∧ ¬ gi G 51 (y 14 k) = -1 ∧ gr G 48 (y 14 k) = some (y 5 j) ∧ gi G 0 (y 5 j) = gi G 49 (y 14 k)
def opC (y : LYT) (G : GS) (k : Nat) (v : Int32) : GS := si (si G 51 (y 14 k) (v &&& 3)) 52 (y 14 k) (if (v &&& 64) = 0 then 0 else 1)
def opM (y : LYT) (m : GS) (k : Nat) (v : Int32) : GS := ais (als (ais (ais m (y 30 90) k (v &&& 3)) (y 30 91) k (if (v &&& 64) = 0 then 0 else 1)) (y 30 92) k 0) (y 30 93) k 0
theorem and3 : ∀ b, b < 256 → (nI b &&& 3) = nI (b % 4) := by decide +kernel
section OPN
variable {t : TY} {y : LYT} {b c z k j : Nat} {f : Nat → Nat} {G m m' : GS} {n np : Nat} {r s : Nat → Nat}
theorem S_hasOpen (hs : SH t y) (hz : FZ y G) (hU : ∀ k, k < 12 → isB (gi G 46 (y 14 k))) (hN : ∀ k, k < 12 → gi G 46 (y 14 k) = 1 → ∃ j', j' ≤ 20 ∧ gr G 48 (y 14 k) = some (y 5 j')) (hc : c < 2) (hj : j ≤ 20) {K : Int32 → Prop} (k1 : ∀ i, i < 6 → opn y G j (6 * c + i) → K 1) (k0 : (∀ i, i < 6 → ¬ opn y G j (6 * c + i)) → K 0) : w_Link_hasOpenFidAt t G (y 10 c) (y 5 j) K := by
  have hv10 : yV 10 c = true := by simp [yV, hc]
  have hv13 : yV 13 c = true := by simp [yV, hc]
  have step : ∀ q i, i < 6 → (¬ opn y G j (6 * c + i) → w_Link_hasOpenFidAt_2 t G (y 10 c) K q (y 5 j) (nI (i + 1))) → w_Link_hasOpenFidAt_2 t G (y 10 c) K (q + 1) (y 5 j) (nI i) := fun q i hi nx => by
    have hk : 6 * c + i < 12 := by omega
    have hv14 : yV 14 (6 * c + i) = true := by simp [yV, hk]
    have nx' : ¬ opn y G j (6 * c + i) → ∀ v : Int32, v = nI i + 1 → w_Link_hasOpenFidAt_2 t G (y 10 c) K q (y 5 j) v := fun w v e => by subst e; rw [nI_1]; exact nx w
    refine iF (show ¬ nI 6 ≤ nI i from nI_ge hi (by decide)) ⟨hs.k 10 c hv10, y 13 c, (hz.2.2.2.2.1 c hc).2.2.1, hs.k 13 c hv13, by rw [hs.n 13 c hv13]; exact vp_lt (N := 6) hi, y 14 (6 * c + i), by rw [nI_clamp (by omega)]; exact (hz.2.2.2.2.1 c hc).2.2.2.2 i hi, hs.k 14 _ hv14, ?_⟩
    refine iS ⟨fun e => nx' fun w => by rw [w.1] at e; exact absurd e (by decide), fun e => iN ⟨fun e2 => iS ⟨fun e3 => nx' fun w => w.2.1 e3, fun e3 => ?_⟩, fun e2 => nx' fun w => e2 w.2.2.1⟩⟩
    have hus : gi G 46 (y 14 (6 * c + i)) = 1 := by rcases hU _ hk with w | w; exact absurd w e; exact w
    refine ⟨hs.k 14 _ hv14, y 5 j, e2, hs.k 5 j (by simp [yV]; omega), iS ⟨fun e4 => iF (by simp) (k1 i hi ⟨hus, e3, e2, e4⟩), fun e4 => iT (by decide) (nx' fun w => e4 w.2.2.2)⟩⟩
  by_cases h : ∃ i, i < 6 ∧ opn y G j (6 * c + i)
  · obtain ⟨i, ⟨h1, h2⟩, h3⟩ := pk_least _ h
    exact pk_loop (fun q i (_ : Unit) => w_Link_hasOpenFidAt_2 t G (y 10 c) K q (y 5 j) (nI i)) (fun _ _ => True) i 0 () (by omega) trivial (fun q _ _ => by
      have hk : 6 * c + i < 12 := by omega
      have hv14 : yV 14 (6 * c + i) = true := by simp [yV, hk]
      refine iF (show ¬ nI 6 ≤ nI i from nI_ge h1 (by decide)) ⟨hs.k 10 c hv10, y 13 c, (hz.2.2.2.2.1 c hc).2.2.1, hs.k 13 c hv13, by rw [hs.n 13 c hv13]; exact vp_lt (N := 6) h1, y 14 (6 * c + i), by rw [nI_clamp (by omega)]; exact (hz.2.2.2.2.1 c hc).2.2.2.2 i h1, hs.k 14 _ hv14, ?_⟩
      exact iF (by rw [h2.1]; decide) (iF (fun w => w h2.2.2.1) (iF h2.2.1 ⟨hs.k 14 _ hv14, y 5 j, h2.2.2.1, hs.k 5 j (by simp [yV]; omega), iT h2.2.2.2 (iF (by simp) (k1 i h1 h2))⟩))) (fun q i' _ hi' _ ih => step q i' (by omega) (fun _ => ih () trivial))
  · refine pk_loop (fun q i (_ : Unit) => w_Link_hasOpenFidAt_2 t G (y 10 c) K q (y 5 j) (nI i)) (fun _ _ => True) 6 0 () (by omega) trivial (fun q _ _ => ?_) (fun q i' _ hi' _ ih => step q i' (by omega) (fun _ => ih () trivial))
    show w_Link_hasOpenFidAt_2 t G (y 10 c) K (q + 1) (y 5 j) (nI 6)
    unfold w_Link_hasOpenFidAt_2
    exact iT (show (6 : Int32) ≤ nI 6 by decide) (k0 fun i hi w => h ⟨i, hi, w⟩)
theorem S_isOpen (hs : SH t y) (hz : FZ y G) (hU : ∀ k, k < 12 → isB (gi G 46 (y 14 k))) (hN : ∀ k, k < 12 → gi G 46 (y 14 k) = 1 → ∃ j', j' ≤ 20 ∧ gr G 48 (y 14 k) = some (y 5 j')) (hj : j ≤ 20) {K : Int32 → Prop} (k1 : (∃ k, k < 12 ∧ opn y G j k) → K 1) (k0 : ¬ (∃ k, k < 12 ∧ opn y G j k) → K 0) : w_S_isOpenSomewhere t G (y 0 0) (y 5 j) K := by
  refine ⟨3, ?_⟩
  have one : ∀ (q c : Nat), c < 2 → ((∀ i, i < 6 → ¬ opn y G j (6 * c + i)) → w_S_isOpenSomewhere_2 t G (y 0 0) K q (y 5 j) (nI (c + 1))) → w_S_isOpenSomewhere_2 t G (y 0 0) K (q + 1) (y 5 j) (nI c) := fun q c hc nx => by
    refine iF (show ¬ nI 2 ≤ nI c from nI_ge hc (by decide)) ⟨hs.k 0 0, y 15 0, hz.1.2.2.2.2.2, hs.k 15 0, by rw [hs.n 15 0]; exact vp_lt (N := 2) hc, y 10 c, by rw [nI_clamp (by omega)]; exact (hz.2.2.2.2.1 c hc).2.2.2.1, hs.k 10 c (by simp [yV, hc]), S_hasOpen hs hz hU hN hc hj (fun i hi w => iF (by decide) (k1 ⟨6 * c + i, by omega, w⟩)) (fun w => iT rfl (fun v e => by subst e; rw [nI_1]; exact nx w))⟩
  refine one 2 0 (by omega) (fun h0 => one 1 1 (by omega) (fun h1 => ?_))
  unfold w_S_isOpenSomewhere_2
  refine iT (show (2 : Int32) ≤ nI (1 + 1) by decide) (k0 fun ⟨k, hk, w⟩ => ?_)
  by_cases q : k < 6
  · exact h0 k q (by rw [show 6 * 0 + k = k by omega]; exact w)
  · exact h1 (k - 6) (by omega) (by rw [show 6 * 1 + (k - 6) = k by omega]; exact w)
/-- the reference's look at a fid -/
theorem opn_M (h : InvZ t y b G m n r s np) (hb : np < 2 ^ 31) (hj : lvN n r j) {i : Nat} (hi : i < 12) : (¬ ai m (y 30 86) i = 0 ∧ ¬ ai m (y 30 90) i < 0 ∧ ai m (y 30 88) i = ai m (y 30 70) (83 * s j + 1)) ↔ opn y G j i := by
  obtain ⟨hs, hz, hm, -, -, hU, hT, hF, -⟩ := h
  obtain ⟨u1, u2, -⟩ := hU i hi
  rw [u2]
  have N := (hT.nd hj).2.2.2.1
  obtain ⟨p, hp, ep, -⟩ := hT.pth hj
  rw [N, ep]
  constructor
  · intro ⟨a1, a2, a3⟩
    have hus : gi G 46 (y 14 i) = 1 := by rcases u1 with w | w; exact absurd w a1; exact w
    obtain ⟨v, p', j', u, b1, b2, b3, b4, b5, b6, b7, b8, b9, b10, -, -, -, b14, b15, -⟩ := hF i hi hus
    have e : p' = p := (nI_eq (by omega) (by omega)).mp (b7.symm.trans a3)
    subst e
    have := b10 j hj ep
    subst this
    refine ⟨hus, fun w => a2 (by rw [b14, w]; decide), b4, by rw [ep, b6]⟩
  · intro ⟨a1, a2, a3, a4⟩
    obtain ⟨v, p', j', u, b1, b2, b3, b4, b5, b6, b7, b8, b9, b10, -, -, -, b14, b15, -⟩ := hF i hi a1
    refine ⟨by rw [a1]; decide, ?_, by rw [b7, ← b6, ← a4, ep]⟩
    rw [b14]
    rcases b15 with w | ⟨o, ho, w, -⟩
    · exact absurd w a2
    · rw [w]; exact nI_pos (by omega)
theorem opC_f {v : Int32} : fC y k G (opC y G k v) := (fC.rf.si (f := 51)).si (f := 52)
theorem opM_f {v : Int32} : fM y k m (opM y m k v) := (((fM.rf.ais (f := 90)).ais (f := 91)).als (f := 92)).ais (f := 93)
theorem S_fidOpen (hs : SH t y) (hk : k < 12) {v : Int32} {K : GS → Prop} (h : K (opC y G k v)) : w_Fid_open t G (y 14 k) v K := by
  refine ⟨hs.k 14 k (by simp [yV, hk]), fun G1 e1 => ?_⟩
  subst e1
  unfold opC at h
  by_cases q : (v &&& 64) = 0
  · rw [if_pos q] at h
    exact iT q (fun G2 e2 => by subst e2; exact h)
  · rw [if_neg q] at h
    exact iF q (fun G2 e2 => by subst e2; exact h)
theorem M_fidOpen (hs : SH t y) (hm : FZ y m) (hk : k < 12) {v : Int32} {K : GS → Prop} (h : K (opM y m k v)) : w_M_open t m (y 1 0) (nI k) v K := by
  have cl : (nI k).toNatClampNeg = k := nI_clamp (by omega)
  have v12 : vp_in (nI k) 12 := vp_lt (N := 12) hk
  refine ⟨hs.k 1 0, y 30 90, hm.m 90, hs.k 30 90, by rw [hs.n 30 90]; exact v12, fun G2 e2 => ?_⟩
  rw [cl] at e2
  have z2 : FZ y G2 := hm.to hs (sZ.of (fun _ _ => by rw [e2]; rfl) (fun _ => by rw [e2]; rfl))
  have go : ∀ s2 : Int32, isB s2 → s2 = (if (v &&& 64) = 0 then 0 else 1) → w_M_open_26 t (y 1 0) K (nI k) (gr G2 91 (y 1 0)) (nI k) s2 G2 := fun s2 hB es => by
    refine ⟨y 30 91, z2.m 91, hs.k 30 91, by rw [hs.n 30 91]; exact v12, fun G3 e3 => ?_⟩
    have nb : vp_nar .boolean s2 = s2 := by rcases hB with w | w <;> rw [w]; exact nb0; exact nb1
    rw [cl, nb] at e3
    have z3 : FZ y G3 := z2.to hs (sZ.of (fun _ _ => by rw [e3]; rfl) (fun _ => by rw [e3]; rfl))
    refine ⟨hs.k 1 0, y 30 92, z3.m 92, hs.k 30 92, by rw [hs.n 30 92]; exact v12, fun G4 e4 => ?_⟩
    rw [cl] at e4
    have z4 : FZ y G4 := z3.to hs (sZ.of (fun _ _ => by rw [e4]; rfl) (fun _ => by rw [e4]; rfl))
    refine ⟨y 30 93, z4.m 93, hs.k 30 93, by rw [hs.n 30 93]; exact v12, fun G6 e6 => ?_⟩
    rw [cl] at e6
    subst e2 e3 e4 e6
    rw [es]
    exact h
  exact iS ⟨fun q => go 0 (Or.inl rfl) (by rw [if_pos q]), fun q => go 1 (Or.inr rfl) (by rw [if_neg q])⟩
/-- a fid is opened in both -/
theorem fid_opened (h : InvZ t y b G m n r s np) (hk : k < 12) (hus : gi G 46 (y 14 k) = 1) (h51 : gi G 51 (y 14 k) = -1) {o : Nat} (ho : o < 256) (hnd : o % 4 ≠ 0 → ∀ j, gr G 48 (y 14 k) = some (y 5 j) → ¬ gi G 2 (y 5 j) < 0) : FuR y (opC y G k (nI o)) (opM y m k (nI o)) k ∧ FdR t y (opC y G k (nI o)) (opM y m k (nI o)) n r np k := by
  obtain ⟨hs, -, -, -, -, hU, hT, hF, -⟩ := h
  obtain ⟨u1, u2, u3⟩ := hU k hk
  have hy : ∀ f f', 86 ≤ f → f ≤ 93 → 86 ≤ f' → f' ≤ 93 → (y 30 f = y 30 f' ↔ f = f') := fun f f' h1 h2 h3 h4 => ⟨fun e => ((hs.2.1 30 f 30 f' (yV30 (by omega)) (yV30 (by omega))).mp e).2, fun e => by rw [e]⟩
  have c : ∀ f a, f ≠ 51 → f ≠ 52 → gi (opC y G k (nI o)) f a = gi G f a := fun f a q1 q2 => by unfold opC; rw [gi_ne q2, gi_ne q1]
  have c51 : gi (opC y G k (nI o)) 51 (y 14 k) = nI (o % 4) := by rw [← and3 o ho]; unfold opC; rw [gi_ne (by omega), gi_at]
  have c52 : gi (opC y G k (nI o)) 52 (y 14 k) = if (nI o &&& 64) = 0 then 0 else 1 := gi_at
  have e86 : ai (opM y m k (nI o)) (y 30 86) k = ai m (y 30 86) k := by simp [opM, aiA, aiB, hy]
  have e88 : ai (opM y m k (nI o)) (y 30 88) k = ai m (y 30 88) k := by simp [opM, aiA, aiB, hy]
  have e89 : ai (opM y m k (nI o)) (y 30 89) k = ai m (y 30 89) k := by simp [opM, aiA, aiB, hy]
  have e90 : ai (opM y m k (nI o)) (y 30 90) k = nI (o % 4) := by rw [← and3 o ho]; simp [opM, aiA, aiB, hy]
  have e91 : ai (opM y m k (nI o)) (y 30 91) k = if (nI o &&& 64) = 0 then 0 else 1 := by simp [opM, aiA, aiB, hy]
  have e93 : ai (opM y m k (nI o)) (y 30 93) k = 0 := by simp [opM, aiA, aiB, hy]
  have e92 : al (opM y m k (nI o)) (y 30 92) k = 0 := by simp [opM, alA, alB, hy]
  have e87 : al (opM y m k (nI o)) (y 30 87) k = al m (y 30 87) k := by simp [opM, alA, alB, hy]
  refine ⟨⟨by rw [c _ _ (by omega) (by omega)]; exact u1, by rw [e86, c _ _ (by omega) (by omega)]; exact u2, by rw [c _ _ (by omega) (by omega), c _ _ (by omega) (by omega)]; exact u3⟩, fun _ => ?_⟩
  obtain ⟨v, p, j, u, a1, a2, a3, a4, a5, a6, a7, a8, a9, a10, a11, a12, a13, a14, a15, a16, a17, a18, a19, a20⟩ := hF k hk hus
  obtain ⟨w53, w54⟩ := a20 h51
  refine ⟨v, p, j, u, a1, a2, by rw [e87]; exact a3, a4, a5, by rw [c _ _ (by omega) (by omega)]; exact a6, by rw [e88]; exact a7, a8, by rw [c _ _ (by omega) (by omega)]; exact a9, fun j' hj' => by rw [c _ _ (by omega) (by omega)]; exact a10 j' hj', a11, a12, by rw [e89]; exact a13, by rw [e90, c51], Or.inr ⟨o % 4, by omega, c51, fun w _ => by rw [c _ _ (by omega) (by omega)]; exact hnd w j a4⟩, by rw [c52]; split; exact Or.inl rfl; exact Or.inr rfl, by rw [e91, c52], by rw [e92]; exact w53.symm, by rw [e93, c _ _ (by omega) (by omega)]; exact w54.symm, fun w => ?_⟩
  rw [c51] at w
  exact absurd (show nI (o % 4) < 0 by rw [w]; decide) (nI_pos (by omega))
end OPN
