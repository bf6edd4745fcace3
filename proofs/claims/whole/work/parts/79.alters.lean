/-! alter: mode, time, group, name (by hand) -/
section ALT2
variable {t : TY} {y : LYT} {b c z k j u : Nat} {f : Nat → Nat} {G X m : GS} {n np oo : Nat} {r s : Nat → Nat} {l3 l6 own : Int32}
/-- mode -/
theorem stM (Q : FP t y b c z f G m n r s np k j u) (hz : 54 ≤ z) (hoo : oo < 3) (eoo : gr G 4 (y 5 j) = some (tad t oo)) (h6 : (l6 &&& 2) = 0 ↔ al1s f 34 4) (hown : oo = u → own = 1) (hown0 : ¬ oo = u → own = 0) : (∃ e, e < 29 ∧ e ≠ 2 ∧ (∀ X, cC y G X → ∀ K : GS → Option Nat → Prop, K X (some (tks t e)) → w_S_stageMode t X (y 0 0) (y 5 j) (some (tad t u)) K) ∧ ∀ K : GS → Prop, w_M_alter_275 t (y 1 0) K (nI (s j)) l3 l6 own (nI (nm f 34 4)) (sl m 98 (y 1 0) (lN (er e))) → w_M_alter_191 t (y 1 0) K (nI (s j)) l3 l6 own m) ∨ (∃ o : Option Int32, (o = none ↔ al1s f 34 4) ∧ (∀ X, cC y G X → ∀ K : GS → Option Nat → Prop, K (x2C y X o) (some (tks t 2)) → w_S_stageMode t X (y 0 0) (y 5 j) (some (tad t u)) K) ∧ (∀ K : GS → Prop, w_M_alter_275 t (y 1 0) K (nI (s j)) l3 l6 own (nI (nm f 34 4)) m → w_M_alter_191 t (y 1 0) K (nI (s j)) l3 l6 own m) ∧ ∀ v, o = some v → v = nI (nm f 34 4) ∧ (v < 0 ↔ gi G 2 (y 5 j) < 0)) := by
  obtain ⟨P, hZ, hk, hus, hj, hu, g48, g50, h99, f90, f51⟩ := id Q
  have hs := P.s
  have hm := P.hm
  have hTr := Q.tr
  have x := hTr.nd hj
  have hj20 := hTr.le hj
  have hvj : yV 5 j = true := by simp [yV]; omega
  have f3 : ai m (y 30 70) (83 * s j + 3) = gi G 2 (y 5 j) := x.2.2.2.2.2.1
  have cst : ∀ X, cC y G X → ∀ K : GS → Option Nat → Prop, (al1s f 34 4 → K X (some (tks t 2))) → (¬ al1s f 34 4 → (if oo = u then ((if ¬ (nI (nm f 34 4) &&& (536870400 : Int32)) = 0 then (K X (some (tks t 19))) else ((if (nI (nm f 34 4) < 0 ↔ gi G 2 (y 5 j) < 0) then K (x2C y X (some (nI (nm f 34 4)))) (some (tks t 2)) else (K X (some (tks t 19))))))) else (K X (some (tks t 15))))) → w_S_stageMode t X (y 0 0) (y 5 j) (some (tad t u)) K := fun X a K k0 k1 => by
    have hzX := a.fz hs P.g
    have mX := P.mc.k (a.kk hs)
    refine ⟨hs.k 0 0, y 8 0, hzX.1.2.2.2.1, hs.k 8 0, S_gives (p := 34) (q := 4) hs hzX P.hf mX (by omega) (fun q => iF (by simp) (k0 q)) (fun q => iT (by decide) (S_number (p := 34) (n := 4) hs hzX P.hf mX (by omega) (by omega) (fun v4 e4 => ?_)))⟩
    rw [lN_i] at e4
    subst e4
    have k1 := k1 q
    have e4' : gr X 4 (y 5 j) = some (tad t oo) := (a.2.1 4 _ (by omega)).trans eoo
    have e2' : gi X 2 (y 5 j) = gi G 2 (y 5 j) := a.1 2 _ (by omega)
    refine ⟨hs.k 5 j hvj, ?_⟩
    rw [e4', e2']
    by_cases ow : oo = u
    · rw [if_pos ow] at k1
      refine iT ((td3 hs hu hoo).mpr ow.symm) ?_
      by_cases q1 : ¬ (nI (nm f 34 4) &&& (536870400 : Int32)) = 0
      · rw [if_pos q1] at k1; exact iT q1 k1
      · rw [if_neg q1] at k1
        refine iF q1 ?_
        by_cases q2 : (nI (nm f 34 4) < 0 ↔ gi G 2 (y 5 j) < 0)
        · rw [if_pos q2] at k1
          refine iT ((dirS _ _).mpr q2) ⟨y 4 0, hzX.1.2.2.1, hs.k 4 0, fun G6 e6 => ⟨y 4 0, ?_, hs.k 4 0, fun G8 e8 => ?_⟩⟩
          · rw [e6]; exact hzX.1.2.2.1
          · subst e6 e8; exact k1
        · rw [if_neg q2] at k1
          exact iF (fun w => q2 ((dirS _ _).mp w)) k1
    · rw [if_neg ow] at k1
      exact iF (fun w => ow ((td3 hs hu hoo).mp w).symm) k1
  have mget : ∀ K : GS → Prop, (if ¬ (gl m 98 (y 1 0)) = (0 : Int64) then (w_M_alter_231 t (y 1 0) K (nI (s j)) l3 l6 own (nI (nm f 34 4)) m) else ((if (l6 &&& (2 : Int32)) = 0 then (w_M_alter_231 t (y 1 0) K (nI (s j)) l3 l6 own (nI (nm f 34 4)) m) else ((if ¬ own = 0 then (w_M_alter_231 t (y 1 0) K (nI (s j)) l3 l6 own (nI (nm f 34 4)) m) else (∀ G3, G3 = sl m 98 (y 1 0) (1836213616 : Int64) → w_M_alter_231 t (y 1 0) K (nI (s j)) l3 l6 own (nI (nm f 34 4)) G3)))))) → w_M_alter_191 t (y 1 0) K (nI (s j)) l3 l6 own m := fun K hK => ⟨hs.k 1 0, P.get (p := 34) (n := 4) (by omega) (by omega) (fun v2 e2 => by
    rw [lN_i] at e2
    subst e2; exact hK)⟩
  have ne : ¬ ¬ gl m 98 (y 1 0) = (0 : Int64) := fun q => q P.e
  by_cases g : al1s f 34 4
  · exact Or.inr ⟨none, ⟨fun _ => g, fun _ => rfl⟩, fun X a K hK => cst X a K (fun _ => hK) (fun q => absurd g q), fun K hK => mget K (iF ne (iT (h6.mpr g) ⟨hs.k 1 0, iF ne (iT (h6.mpr g) hK)⟩)), fun v hv => absurd hv (by simp)⟩
  have n2 : ¬ (l6 &&& 2) = 0 := fun q => g (h6.mp q)
  by_cases ow : oo = u
  · have o1 : ¬ own = 0 := by rw [hown ow]; decide
    have e268 : ∀ K : GS → Prop, w_M_alter_275 t (y 1 0) K (nI (s j)) l3 l6 own (nI (nm f 34 4)) (sl m 98 (y 1 0) (lN (er 19))) → w_M_alter_268 t (y 1 0) K (nI (s j)) l3 l6 own (nI (nm f 34 4)) m := fun K hK => ⟨hs.k 1 0, M_err (K := fun X => w_M_alter_275 t (y 1 0) K (nI (s j)) l3 l6 own (nI (nm f 34 4)) X) (by decide +kernel) hK⟩
    by_cases q1 : ¬ (nI (nm f 34 4) &&& (536870400 : Int32)) = 0
    · exact Or.inl ⟨19, by omega, by omega, fun X a K hK => cst X a K (fun q => absurd q g) (fun _ => by rw [if_pos ow, if_pos q1]; exact hK), fun K hK => mget K (iF ne (iF n2 (iT o1 ⟨hs.k 1 0, iF ne (iF n2 (iT q1 (e268 K hK)))⟩)))⟩
    · by_cases q2 : (nI (nm f 34 4) < 0 ↔ gi G 2 (y 5 j) < 0)
      · exact Or.inr ⟨some (nI (nm f 34 4)), ⟨fun w => absurd w (by simp), fun w => absurd w g⟩, fun X a K hK => cst X a K (fun q => absurd q g) (fun _ => by rw [if_pos ow, if_neg q1, if_pos q2]; exact hK), fun K hK => mget K (iF ne (iF n2 (iT o1 ⟨hs.k 1 0, iF ne (iF n2 (iF q1 (M_at (c := 3) hs hm x.1 (by omega) (by rw [f3]; exact iT ((xrS _ _).mpr q2) hK))))⟩))), fun v hv => by obtain rfl := Option.some.inj hv; exact ⟨rfl, q2⟩⟩
      · exact Or.inl ⟨19, by omega, by omega, fun X a K hK => cst X a K (fun q => absurd q g) (fun _ => by rw [if_pos ow, if_neg q1, if_neg q2]; exact hK), fun K hK => mget K (iF ne (iF n2 (iT o1 ⟨hs.k 1 0, iF ne (iF n2 (iF q1 (M_at (c := 3) hs hm x.1 (by omega) (by rw [f3]; exact iF (fun w => q2 ((xrS _ _).mp w)) (e268 K hK)))))⟩)))⟩
  · have o0 : ¬ ¬ own = 0 := fun q => q (hown0 ow)
    refine Or.inl ⟨15, by omega, by omega, fun X a K hK => cst X a K (fun q => absurd q g) (fun _ => by rw [if_neg ow]; exact hK), fun K hK => mget K (iF ne (iF n2 (iF o0 (M_err (K := fun X => w_M_alter_231 t (y 1 0) K (nI (s j)) l3 l6 own (nI (nm f 34 4)) X) (v := lN (er 15)) (by decide +kernel) ⟨hs.k 1 0, iT ?_ hK⟩))))⟩
    rw [gl_at]; decide +kernel
/-- time -/
theorem stT (Q : FP t y b c z f G m n r s np k j u) (hz : 54 ≤ z) {l8 : Int32} (hoo : oo < 3) (eoo : gr G 4 (y 5 j) = some (tad t oo)) (h6 : (l6 &&& 4) = 0 ↔ al1s f 42 4) (hown : oo = u → own = 1) (hown0 : ¬ oo = u → own = 0) : (∃ e, e < 29 ∧ e ≠ 2 ∧ (∀ X, cC y G X → ∀ K : GS → Option Nat → Prop, K X (some (tks t e)) → w_S_stageMtime t X (y 0 0) (y 5 j) (some (tad t u)) K) ∧ ∀ K : GS → Prop, w_M_alter_303 t (y 1 0) K (nI (s j)) l3 l6 own l8 (sl m 98 (y 1 0) (lN (er e))) → w_M_alter_275 t (y 1 0) K (nI (s j)) l3 l6 own l8 m) ∨ (∃ o : Option Int32, (o = none ↔ al1s f 42 4) ∧ (∀ X, cC y G X → ∀ K : GS → Option Nat → Prop, K (x5C y X o) (some (tks t 2)) → w_S_stageMtime t X (y 0 0) (y 5 j) (some (tad t u)) K) ∧ (∀ K : GS → Prop, w_M_alter_303 t (y 1 0) K (nI (s j)) l3 l6 own l8 m → w_M_alter_275 t (y 1 0) K (nI (s j)) l3 l6 own l8 m) ∧ ∀ v, o = some v → v = nI (nm f 42 4)) := by
  obtain ⟨P, hZ, hk, hus, hj, hu, g48, g50, h99, f90, f51⟩ := id Q
  have hs := P.s
  have hTr := Q.tr
  have hj20 := hTr.le hj
  have hvj : yV 5 j = true := by simp [yV]; omega
  have cst : ∀ X, cC y G X → ∀ K : GS → Option Nat → Prop, (al1s f 42 4 → K X (some (tks t 2))) → (¬ al1s f 42 4 → (if oo = u then K (x5C y X (some (nI (nm f 42 4)))) (some (tks t 2)) else (K X (some (tks t 15))))) → w_S_stageMtime t X (y 0 0) (y 5 j) (some (tad t u)) K := fun X a K k0 k1 => by
    have hzX := a.fz hs P.g
    have mX := P.mc.k (a.kk hs)
    refine ⟨hs.k 0 0, y 8 0, hzX.1.2.2.2.1, hs.k 8 0, S_gives (p := 42) (q := 4) hs hzX P.hf mX (by omega) (fun q => iF (by simp) (k0 q)) (fun q => iT (by decide) ⟨hs.k 5 j hvj, ?_⟩)⟩
    have k1 := k1 q
    have e4' : gr X 4 (y 5 j) = some (tad t oo) := (a.2.1 4 _ (by omega)).trans eoo
    rw [e4']
    by_cases ow : oo = u
    · rw [if_pos ow] at k1
      refine iT ((td3 hs hu hoo).mpr ow.symm) ⟨y 4 0, hzX.1.2.2.1, hs.k 4 0, fun G4 e4 => ?_⟩
      have a4 : cC y G G4 := by rw [e4]; exact a.si (f := 28)
      have hz4 := a4.fz hs P.g
      refine ⟨y 8 0, hz4.1.2.2.2.1, hs.k 8 0, S_number (p := 42) (n := 4) hs hz4 P.hf (P.mc.k (a4.kk hs)) (by omega) (by omega) ⟨y 4 0, hz4.1.2.2.1, hs.k 4 0, fun G8 e8 => ?_⟩⟩
      rw [lN_i] at e8
      subst e4 e8; exact k1
    · rw [if_neg ow] at k1
      exact iF (fun w => ow ((td3 hs hu hoo).mp w).symm) k1
  have ne : ¬ ¬ gl m 98 (y 1 0) = (0 : Int64) := fun q => q P.e
  by_cases g : al1s f 42 4
  · exact Or.inr ⟨none, ⟨fun _ => g, fun _ => rfl⟩, fun X a K hK => cst X a K (fun _ => hK) (fun q => absurd g q), fun K hK => ⟨hs.k 1 0, iF ne (iT (h6.mpr g) hK)⟩, fun v hv => absurd hv (by simp)⟩
  have n2 : ¬ (l6 &&& 4) = 0 := fun q => g (h6.mp q)
  by_cases ow : oo = u
  · have o1 : ¬ own = 0 := by rw [hown ow]; decide
    exact Or.inr ⟨some (nI (nm f 42 4)), ⟨fun w => absurd w (by simp), fun w => absurd w g⟩, fun X a K hK => cst X a K (fun q => absurd q g) (fun _ => by rw [if_pos ow]; exact hK), fun K hK => ⟨hs.k 1 0, iF ne (iF n2 (iT o1 hK))⟩, fun v hv => by obtain rfl := Option.some.inj hv; rfl⟩
  · have o0 : ¬ ¬ own = 0 := fun q => q (hown0 ow)
    exact Or.inl ⟨15, by omega, by omega, fun X a K hK => cst X a K (fun q => absurd q g) (fun _ => by rw [if_neg ow]; exact hK), fun K hK => ⟨hs.k 1 0, iF ne (iF n2 (iF o0 (M_err (K := fun X => w_M_alter_303 t (y 1 0) K (nI (s j)) l3 l6 own l8 X) (by decide +kernel) hK)))⟩⟩
/-- group -/
theorem stG (Q : FP t y b c z f G m n r s np k j u) (hT : TxC y G f 54 4) (hin : tp f 54 4 ≤ z) {l8 : Int32} (hoo : oo < 3) (eoo : gr G 4 (y 5 j) = some (tad t oo)) (h6 : (l6 &&& 8) = 0 ↔ nm f (tp f 54 2) 2 = 0) (hown : oo = u → own = 1) (hown0 : ¬ oo = u → own = 0) : (∃ e, e < 29 ∧ e ≠ 2 ∧ (∀ X, cC y G X → ∀ K : GS → Option Nat → Prop, K X (some (tks t e)) → w_S_stageGroup t X (y 0 0) (y 5 j) (some (tad t u)) K) ∧ ∀ K : GS → Prop, w_M_alter_390 t (y 1 0) K (nI (s j)) l6 l8 (uI (unm f (tp f 54 2))) (sl m 98 (y 1 0) (lN (er e))) → w_M_alter_303 t (y 1 0) K (nI (s j)) (nI (tp f 54 2)) l6 own l8 m) ∨ (∃ o : Option Nat, (o = none ↔ nm f (tp f 54 2) 2 = 0) ∧ (∀ X, cC y G X → ∀ K : GS → Option Nat → Prop, K (x3C t y X o) (some (tks t 2)) → w_S_stageGroup t X (y 0 0) (y 5 j) (some (tad t u)) K) ∧ (∀ K : GS → Prop, w_M_alter_390 t (y 1 0) K (nI (s j)) l6 l8 (uI (unm f (tp f 54 2))) m → w_M_alter_303 t (y 1 0) K (nI (s j)) (nI (tp f 54 2)) l6 own l8 m) ∧ ∀ v, o = some v → v < 3 ∧ unm f (tp f 54 2) = some v) := by
  obtain ⟨P, hZ, hk, hus, hj, hu, g48, g50, h99, f90, f51⟩ := id Q
  have hs := P.s
  have hm := P.hm
  have hTr := Q.tr
  have hj20 := hTr.le hj
  have hvj : yV 5 j = true := by simp [yV]; omega
  have in2 := tp_in hin (i := 2) (by omega)
  have hT2 : ∀ X, cC y G X → TxC y X f 54 4 := fun X a => hT.k (a.kk hs)
  have cst : ∀ X, cC y G X → ∀ K : GS → Option Nat → Prop, (nm f (tp f 54 2) 2 = 0 → K X (some (tks t 2))) → (¬ nm f (tp f 54 2) 2 = 0 → (unm f (tp f 54 2) = none → K X (some (tks t 10))) ∧ ∀ v, unm f (tp f 54 2) = some v → (if oo = u then (if (u = v ∨ (u = 1 ∧ v = 0)) then K (x3C t y X (some v)) (some (tks t 2)) else K X (some (tks t 15))) else K X (some (tks t 15)))) → w_S_stageGroup t X (y 0 0) (y 5 j) (some (tad t u)) K := fun X a K k0 k1 => by
    have hzX := a.fz hs P.g
    have mX := P.mc.k (a.kk hs)
    refine ⟨hs.k 0 0, y 8 0, hzX.1.2.2.2.1, hs.k 8 0, S_givesText (i := 2) hs hzX P.hf (hT2 X a) (by omega) (by omega) (fun q => iF (by simp) (k0 q)) (fun q => iT (by decide) (S_userNamed (i := 2) hs hzX P.hf mX (hT2 X a) (by omega) (by omega) (by omega) ?_))⟩
    obtain ⟨k2, k3⟩ := k1 q
    have e4' : gr X 4 (y 5 j) = some (tad t oo) := (a.2.1 4 _ (by omega)).trans eoo
    cases eu : unm f (tp f 54 2) with
    | none => exact iF (by simp) (k2 eu)
    | some v =>
      have k3 := k3 v eu
      refine iT (by simp) ⟨hs.k 5 j hvj, ?_⟩
      rw [e4']
      by_cases ow : oo = u
      · rw [if_pos ow] at k3
        refine iF (fun w => w ((td3 hs hu hoo).mpr ow.symm)) ⟨tad t u, rfl, ⟨u, hu, rfl⟩, S_isIn hs hu (unm_lt eu) (fun w => ?_) (fun w => ?_)⟩
        · rw [if_pos w] at k3
          refine iT (by decide) ⟨y 4 0, hzX.1.2.2.1, hs.k 4 0, fun G7 e7 => ?_⟩
          subst e7; exact k3
        · rw [if_neg w] at k3
          exact iF (by simp) k3
      · rw [if_neg ow] at k3
        exact iT (fun w => ow ((td3 hs hu hoo).mp w).symm) k3
  have ne : ¬ ¬ gl m 98 (y 1 0) = (0 : Int64) := fun q => q P.e
  have mst : ∀ K : GS → Prop, (if ¬ (gl m 98 (y 1 0)) = (0 : Int64) then (w_M_alter_339 t (y 1 0) K (nI (s j)) l6 own l8 (uI (unm f (tp f 54 2))) m) else ((if (l6 &&& (8 : Int32)) = 0 then (w_M_alter_339 t (y 1 0) K (nI (s j)) l6 own l8 (uI (unm f (tp f 54 2))) m) else ((if 0 ≤ (uI (unm f (tp f 54 2))) then (w_M_alter_339 t (y 1 0) K (nI (s j)) l6 own l8 (uI (unm f (tp f 54 2))) m) else (∀ G2, G2 = sl m 98 (y 1 0) (1919251317 : Int64) → w_M_alter_339 t (y 1 0) K (nI (s j)) l6 own l8 (uI (unm f (tp f 54 2))) G2)))))) → w_M_alter_303 t (y 1 0) K (nI (s j)) (nI (tp f 54 2)) l6 own l8 m := fun K hK => ⟨hs.k 1 0, M_userAt hs hm P.hf P.mm in2 hK⟩
  by_cases g : nm f (tp f 54 2) 2 = 0
  · exact Or.inr ⟨none, ⟨fun _ => g, fun _ => rfl⟩, fun X a K hK => cst X a K (fun _ => hK) (fun q => absurd g q), fun K hK => mst K (iF ne (iT (h6.mpr g) ⟨hs.k 1 0, iF ne (iT (h6.mpr g) hK)⟩)), fun v hv => absurd hv (by simp)⟩
  have n2 : ¬ (l6 &&& 8) = 0 := fun q => g (h6.mp q)
  cases eu : unm f (tp f 54 2) with
  | none =>
    rw [eu] at mst
    refine Or.inl ⟨10, by omega, by omega, fun X a K hK => cst X a K (fun q => absurd q g) (fun _ => ⟨fun _ => hK, fun v hv => by rw [eu] at hv; exact absurd hv (by simp)⟩), fun K hK => mst K (iF ne (iF n2 (iF (by decide) (M_err (K := fun X => w_M_alter_339 t (y 1 0) K (nI (s j)) l6 own l8 (uI none) X) (v := lN (er 10)) (by decide +kernel) ⟨hs.k 1 0, iT ?_ hK⟩))))⟩
    rw [gl_at]; decide +kernel
  | some v =>
    have hv3 := unm_lt eu
    rw [eu] at mst
    have p0 : (0 : Int32) ≤ uI (some v) := nI_pos' (by omega)
    have e383 : ∀ K : GS → Prop, w_M_alter_390 t (y 1 0) K (nI (s j)) l6 l8 (uI (some v)) (sl m 98 (y 1 0) (lN (er 15))) → w_M_alter_383 t (y 1 0) K (nI (s j)) l6 l8 (uI (some v)) m := fun K hK => ⟨hs.k 1 0, M_err (K := fun X => w_M_alter_390 t (y 1 0) K (nI (s j)) l6 l8 (uI (some v)) X) (by decide +kernel) hK⟩
    have uv : (nI u = uI (some v)) ↔ u = v := nI_eq (by omega) (by omega)
    have u1 : (nI u = (1 : Int32)) ↔ u = 1 := nI_eq (b := 1) (by omega) (by decide)
    have v0 : (uI (some v) = (0 : Int32)) ↔ v = 0 := nI_eq (b := 0) (by omega) (by decide)
    by_cases ow : oo = u
    · have o1 : ¬ own = 0 := by rw [hown ow]; decide
      by_cases ig : (u = v ∨ (u = 1 ∧ v = 0))
      · refine Or.inr ⟨some v, ⟨fun w => absurd w (by simp), fun w => absurd w g⟩, fun X a K hK => cst X a K (fun q => absurd q g) (fun _ => ⟨fun q => by rw [eu] at q; exact absurd q (by simp), fun v' hv' => by
          rw [eu] at hv'
          obtain rfl := Option.some.inj hv'
          rw [if_pos ow, if_pos ig]; exact hK⟩), fun K hK => mst K (iF ne (iF n2 (iT p0 ⟨hs.k 1 0, iF ne (iF n2 (iF o1 ?_))⟩))), fun v' hv' => by obtain rfl := Option.some.inj hv'; exact ⟨hv3, rfl⟩⟩
        rw [h99]
        by_cases q : u = v
        · exact iT (uv.mpr q) hK
        · have ig : u = 1 ∧ v = 0 := by rcases ig with w | w; exact absurd w q; exact w
          exact iF (fun w => q (uv.mp w)) (iF (fun w => w (u1.mpr ig.1)) (iT (v0.mpr ig.2) hK))
      · refine Or.inl ⟨15, by omega, by omega, fun X a K hK => cst X a K (fun q => absurd q g) (fun _ => ⟨fun q => by rw [eu] at q; exact absurd q (by simp), fun v' hv' => by
          rw [eu] at hv'
          obtain rfl := Option.some.inj hv'
          rw [if_pos ow, if_neg ig]; exact hK⟩), fun K hK => mst K (iF ne (iF n2 (iT p0 ⟨hs.k 1 0, iF ne (iF n2 (iF o1 ?_))⟩)))⟩
        rw [h99]
        refine iF (fun w => ig (Or.inl (uv.mp w))) (iN ⟨fun w => iF (fun w2 => ig (Or.inr ⟨u1.mp w, v0.mp w2⟩)) (e383 K hK), fun w => e383 K hK⟩)
    · exact Or.inl ⟨15, by omega, by omega, fun X a K hK => cst X a K (fun q => absurd q g) (fun _ => ⟨fun q => by rw [eu] at q; exact absurd q (by simp), fun v' hv' => by
        rw [eu] at hv'
        obtain rfl := Option.some.inj hv'
        rw [if_neg ow]; exact hK⟩), fun K hK => mst K (iF ne (iF n2 (iT p0 ⟨hs.k 1 0, iF ne (iF n2 (iT (hown0 ow) (e383 K hK)))⟩)))⟩
/-- name -/
theorem stN (Q : FP t y b c z f G m n r s np k j u) (hT : TxC y G f 54 4) (hin : tp f 54 4 ≤ z) {l8 l9 : Int32} (h6 : (l6 &&& 16) = 0 ↔ nm f 54 2 = 0) : (∃ e, e < 29 ∧ e ≠ 2 ∧ (∀ X, cC y G X → ∀ K : GS → Option Nat → Prop, K X (some (tks t e)) → w_S_stageName t X (y 0 0) (y 5 j) (some (tad t u)) K) ∧ ∀ K : GS → Prop, w_M_alter_412 t (y 1 0) K (nI (s j)) l6 l8 l9 (sl m 98 (y 1 0) (lN (er e))) → w_M_alter_390 t (y 1 0) K (nI (s j)) l6 l8 l9 m) ∨ (∃ h, nm f 54 2 ≤ 8 ∧ (∀ X, cC y G X → ∀ K : GS → Option Nat → Prop, K (x4C y X f (nm f 54 2)) (some (tks t 2)) → w_S_stageName t X (y 0 0) (y 5 j) (some (tad t u)) K) ∧ (∀ K : GS → Prop, w_M_alter_412 t (y 1 0) K (nI (s j)) l6 l8 l9 m → w_M_alter_390 t (y 1 0) K (nI (s j)) l6 l8 l9 m) ∧ (0 < nm f 54 2 → j ≠ 0 ∧ lvN n r h ∧ gr G 7 (y 5 j) = some (y 5 h) ∧ ∀ i, i < n → r i ≠ j → gr G 7 (y 5 (r i)) = gr G 7 (y 5 j) → ¬ (gi G 10 (y 5 (r i)) = nI (nm f 54 2) ∧ ∀ q, q < nm f 54 2 → ai G (y 6 (r i)) q = sb (f (56 + q))))) := by
  obtain ⟨P, hZ, hk, hus, hj, hu, g48, g50, h99, f90, f51⟩ := id Q
  have hs := P.s
  have hm := P.hm
  have hnp := Q.np31
  have hTr := Q.tr
  have x := hTr.nd hj
  have hj20 := hTr.le hj
  have hvj : yV 5 j = true := by simp [yV]; omega
  have in0 : 54 + 2 + nm f 54 2 ≤ z := tp_in hin (i := 0) (by omega)
  have hz128 := P.hf.2.1
  have ne : ¬ ¬ gl m 98 (y 1 0) = (0 : Int64) := fun q => q P.e
  have hTX : ∀ X, cC y G X → TxC y X f 54 4 := fun X a => hT.k (a.kk hs)
  have c86 : ∀ X, cC y G X → 0 < nm f 54 2 → nm f 54 2 ≤ 8 → ∀ K : GS → Option Nat → Prop, K (x4C y X f (nm f 54 2)) (some (tks t 2)) → w_S_stageName_86 t (y 0 0) K X := fun X a hp h8 K hK => by
    have hzX := a.fz hs P.g
    have mX := P.mc.k (a.kk hs)
    obtain ⟨e1, e2⟩ := (hTX X a).1 0 (by omega)
    refine ⟨hs.k 0 0, y 4 0, hzX.1.2.2.1, hs.k 4 0, y 8 0, hzX.1.2.2.2.1, hs.k 8 0, y 17 0, hzX.2.1.2.2.1, hs.k 8 0, y 20 0, hzX.2.2.1.2.1, hs.k 20 0, by rw [hs.n 20 0]; exact vp_lt (n := 0) (N := 4) (by omega), y 21 0, hzX.2.2.1.2.2.1, hs.k 21 0, by rw [hs.n 21 0]; exact vp_lt (n := 0) (N := 4) (by omega), ?_⟩
    have a0 : ai X (y 20 0) (0 : Int32).toNatClampNeg = nI 56 := e1
    have a1 : ai X (y 21 0) (0 : Int32).toNatClampNeg = nI (nm f 54 2) := e2
    rw [a0, a1]
    refine S_copy (p := 56) (q := 17) (N := 8) hs hzX P.hf mX (Or.inl rfl) rfl h8 (by omega) (by omega) (fun X6 e6 => ?_)
    unfold x4C at hK
    rw [if_neg (by omega)] at hK
    subst e6; exact hK
  have cst : ∀ X, cC y G X → ∀ K : GS → Option Nat → Prop, (nm f 54 2 = 0 → K X (some (tks t 2))) → (¬ nm f 54 2 = 0 → (if ¬ (gr G 7 (y 5 j)) = none then (w_Message_nameFits t X (y 8 0) (0 : Int32) (fun v3 => (if ¬ v3 = 0 then (∃ a4, (gr X 7 (y 5 j)) = some a4 ∧ tk t a4 = 1 ∧ w_Node_lets t X a4 (some (tad t u)) (2 : Int32) (fun v5 => (if ¬ v5 = 0 then (∃ a6, (gr X 63 (y 0 0)) = some a6 ∧ tk t a6 = 2 ∧ w_Tree_entry t X a6 a4 (y 8 0) (0 : Int32) (fun x7 => (if x7 = none then (w_S_stageName_86 t (y 0 0) K X) else ((if x7 = some (y 5 j) then (w_S_stageName_86 t (y 0 0) K X) else (K X (some (tks t 22)))))))) else (K X (some (tks t 15)))))) else (K X (some (tks t 21)))))) else (K X (some (tks t 15))))) → w_S_stageName t X (y 0 0) (y 5 j) (some (tad t u)) K := fun X a K k0 k1 => by
    have hzX := a.fz hs P.g
    refine ⟨hs.k 0 0, y 8 0, hzX.1.2.2.2.1, hs.k 8 0, S_givesText (i := 0) hs hzX P.hf (hTX X a) (by omega) (by omega) (fun q => iF (by simp) (k0 q)) (fun q => iT (by decide) ⟨hs.k 5 j hvj, ?_⟩)⟩
    have k1 := k1 q
    rw [a.2.1 7 _ (by omega)] at k1 ⊢
    exact k1
  have mst : ∀ K : GS → Prop, ¬ nm f 54 2 = 0 → w_M_checkName t m (y 1 0) (nI (s j)) (fun G1 => w_M_alter_412 t (y 1 0) K (nI (s j)) l6 l8 l9 G1) → w_M_alter_390 t (y 1 0) K (nI (s j)) l6 l8 l9 m := fun K g hK => ⟨hs.k 1 0, iF ne (iF (fun q => g (h6.mp q)) hK)⟩
  by_cases g : nm f 54 2 = 0
  · exact Or.inr ⟨0, by omega, fun X a K hK => cst X a K (fun _ => by unfold x4C at hK; rw [if_pos g] at hK; exact hK) (fun q => absurd g q), fun K hK => ⟨hs.k 1 0, iF ne (iT (h6.mpr g) hK)⟩, fun q => absurd q (by omega)⟩
  by_cases h0 : j = 0
  · subst h0
    have e7 : gr G 7 (y 5 0) = none := hTr.2.2.2.2.2.2.2.2.2.2.2.2.1.1
    have s0 : s 0 = 0 := hTr.2.2.2.2.2.2.2.2.2.1
    have z0 : nI (s 0) = 0 := by rw [s0]; rfl
    exact Or.inl ⟨15, by omega, by omega, fun X a K hK => cst X a K (fun q => absurd q g) (fun _ => by rw [e7]; exact iF (by simp) hK), fun K hK => mst K g (iF (fun w => w z0) (iF (fun w => w z0) ⟨hs.k 1 0, M_err (K := fun X => w_M_alter_412 t (y 1 0) K (nI (s 0)) l6 l8 l9 X) (by decide +kernel) hK⟩))⟩
  obtain ⟨d, hd, e7, e8, -⟩ := hTr.home hj h0
  have hd20 := hTr.le hd
  have xd := hTr.nd hd
  have nz : ¬ nI (s j) = 0 := nI_ne0 (x.2.1 h0) (by omega)
  obtain ⟨g1, o1, hg1, ho1, eg1, eo1, fg1, fo1, fd3⟩ := xd.2.2.may
  have c7 : ∀ X, cC y G X → gr X 7 (y 5 j) = some (y 5 d) := fun X a => (a.2.1 7 _ (by omega)).trans e7
  have n7 : ¬ gr G 7 (y 5 j) = none := by rw [e7]; simp
  have m19 : ∀ K : GS → Prop, w_M_fits t m (y 1 0) (54 : Int32) (fun v1 => (if ¬ v1 = 0 then (w_M_may t m (y 1 0) (nI (s d)) (gi m 99 (y 1 0)) (2 : Int32) (fun v2 => (if ¬ v2 = 0 then (w_M_named t m (y 1 0) (nI (s d)) (54 : Int32) (fun v3 => (if v3 < 0 then (w_M_alter_412 t (y 1 0) K (nI (s j)) l6 l8 l9 m) else (w_M_named t m (y 1 0) (nI (s d)) (54 : Int32) (fun v4 => (if v4 = nI (s j) then (w_M_alter_412 t (y 1 0) K (nI (s j)) l6 l8 l9 m) else (∀ G5, G5 = sl m 98 (y 1 0) (500152498277 : Int64) → w_M_alter_412 t (y 1 0) K (nI (s j)) l6 l8 l9 G5))))))) else (∀ G6, G6 = sl m 98 (y 1 0) (1836213616 : Int64) → w_M_alter_412 t (y 1 0) K (nI (s j)) l6 l8 l9 G6)))) else (∀ G7, G7 = sl m 98 (y 1 0) (1701667182 : Int64) → w_M_alter_412 t (y 1 0) K (nI (s j)) l6 l8 l9 G7))) → w_M_alter_390 t (y 1 0) K (nI (s j)) l6 l8 l9 m := fun K hK => mst K g (iT nz ⟨hs.k 1 0, M_at (c := 8) hs hm x.1 (by omega) (by
    rw [e8]
    exact M_find hs hm xd.1 xd.2.2.1 xd.2.2.2.1 (fun q hq z1 z2 => hTr.uniq hnp hd hq z1 z2) (iT nz ⟨hs.k 1 0, hK⟩))⟩)
  have E : ∀ (K : GS → Prop) (e : Nat) (w : Int64), lN (er e) = w → w_M_alter_412 t (y 1 0) K (nI (s j)) l6 l8 l9 (sl m 98 (y 1 0) (lN (er e))) → ∀ X, X = sl m 98 (y 1 0) w → w_M_alter_412 t (y 1 0) K (nI (s j)) l6 l8 l9 X := fun K e w ew hK => M_err (K := fun X => w_M_alter_412 t (y 1 0) K (nI (s j)) l6 l8 l9 X) ew hK
  by_cases ft : nft f 54
  · have h8 := ft.2.1
    by_cases ok : mOk (gi G 2 (y 5 d)) 2 u g1 o1
    · have cok : ∀ X, cC y G X → ∀ K : GS → Option Nat → Prop, w_Tree_entry t X (y 2 0) (y 5 d) (y 8 0) (nI 0) (fun x7 => (if x7 = none then (w_S_stageName_86 t (y 0 0) K X) else ((if x7 = some (y 5 j) then (w_S_stageName_86 t (y 0 0) K X) else (K X (some (tks t 22))))))) → w_S_stageName t X (y 0 0) (y 5 j) (some (tad t u)) K := fun X a K hK => cst X a K (fun q => absurd q g) (fun _ => iT n7 (S_nameFits (i := 0) hs (a.fz hs P.g) P.hf (P.mc.k (a.kk hs)) (hTX X a) (by omega) (by omega) (by omega) (fun _ => iT (by decide) ⟨y 5 d, c7 X a, hs.k 5 d (by simp [yV]; omega), S_lets hs (by omega) hu hg1 ho1 ((a.2.1 5 _ (by omega)).trans eg1) ((a.2.1 4 _ (by omega)).trans eo1) (fun _ => iT (by decide) ⟨y 2 0, (a.fz hs P.g).1.1, hs.k 2 0, hK⟩) (fun q => absurd (by rw [a.1 2 _ (by omega)]; exact ok) q)⟩) (fun q => absurd ft q)))
      have mok : ∀ K : GS → Prop, w_M_named t m (y 1 0) (nI (s d)) (nI 54) (fun v3 => (if v3 < 0 then (w_M_alter_412 t (y 1 0) K (nI (s j)) l6 l8 l9 m) else (w_M_named t m (y 1 0) (nI (s d)) (54 : Int32) (fun v4 => (if v4 = nI (s j) then (w_M_alter_412 t (y 1 0) K (nI (s j)) l6 l8 l9 m) else (∀ G5, G5 = sl m 98 (y 1 0) (500152498277 : Int64) → w_M_alter_412 t (y 1 0) K (nI (s j)) l6 l8 l9 G5)))))) → w_M_alter_390 t (y 1 0) K (nI (s j)) l6 l8 l9 m := fun K hK => m19 K (M_fits (q := 54) hs hm P.hf P.mm in0 (fun _ => iT (by decide) (by
        rw [h99]
        exact M_may hs hm xd.1 hu hg1 ho1 fg1 fo1 (fun _ => iT (by decide) hK) (fun q => absurd (by rw [fd3]; exact ok) q))) (fun q => absurd ft q))
      have sEnt : ∀ X, cC y G X → ∀ i, i < n → (isEnt y X f 54 d (r i) ↔ isEnt y G f 54 d (r i)) := fun X a i hi => by
        unfold isEnt hasNm
        have := hTr.y20 hi
        rw [a.2.1 7 _ (by omega), a.1 10 _ (by omega), ((a.agT hs).2.1 _ this).1]
      rcases ent_or y G f 54 d n r with ⟨i, hi, w1, w2⟩ | w
      · have TX : ∀ X, cC y G X → TrR t y X (ai m (y 30 70)) n r s np := fun X a => hTr.to (a.agT hs)
        have centr : ∀ X, cC y G X → ∀ K : Option Nat → Prop, K (some (y 5 (r i))) → w_Tree_entry t X (y 2 0) (y 5 d) (y 8 0) (nI 0) K := fun X a K hK => S_entryY (p := 54) (c := 4) (x := 0) (TX X a) hs (a.fz hs P.g) P.hf (P.mc.k (a.kk hs)) (hTX X a) (by omega) (by omega) in0 hi ((sEnt X a i hi).mpr w1) (fun q hq => fun w => w2 q hq ((sEnt X a q (by omega)).mp w)) hK
        have mentr : ∀ K : Int32 → Prop, K (nI (s (r i))) → w_M_named t m (y 1 0) (nI (s d)) (nI 54) K := fun K hK => M_namedY hTr hnp hs hm P.hf P.mm in0 hd hi w1 hK
        have hri := hTr.in hi
        have sri := (hTr.nd hri).1
        by_cases same : r i = j
        · refine Or.inr ⟨d, h8, fun X a K hK => cok X a K (centr X a _ (iF (by simp) (iT (by rw [same]) (c86 X a (by omega) h8 K hK)))), fun K hK => mok K (mentr _ (iF (nI_pos (by omega)) (mentr _ (iT (by rw [same]) hK)))), fun _ => ⟨h0, hd, e7, fun i' hi' hne e => ?_⟩⟩
          intro ⟨q1, q2⟩
          rw [e7] at e
          have he' : isEnt y G f 54 d (r i') := ⟨e, q1, q2⟩
          have : i' = i := hTr.2.2.2.2.2.2.2.2.2.2.2.2.2.2.2.1 i' i hi' hi (he'.1.trans w1.1.symm) ⟨he'.2.1.trans w1.2.1.symm, fun v hv => by
            rw [he'.2.1, nI_clamp (by omega)] at hv
            rw [he'.2.2 v hv, w1.2.2 v hv]⟩
          exact hne (by rw [this]; exact same)
        · have ns : ¬ nI (s (r i)) = nI (s j) := fun w => same (hTr.sinj hnp hri hj ((nI_eq (by omega) (by omega)).mp w))
          exact Or.inl ⟨22, by omega, by omega, fun X a K hK => cok X a K (centr X a _ (iF (by simp) (iF (fun w => same (y5 hs (by have := hTr.y20 hi; omega) (by omega) (Option.some.inj w))) hK))), fun K hK => mok K (mentr _ (iF (nI_pos (by omega)) (mentr _ (iF ns (E K 22 _ (by decide +kernel) hK)))))⟩
      · exact Or.inr ⟨d, h8, fun X a K hK => cok X a K (S_entryN (p := 54) (c := 4) (x := 0) (hTr.to (a.agT hs)) hs (a.fz hs P.g) P.hf (P.mc.k (a.kk hs)) (hTX X a) (by omega) (by omega) in0 (fun q hq => fun w' => w q hq ((sEnt X a q hq).mp w')) (iT rfl (c86 X a (by omega) h8 K hK))), fun K hK => mok K (M_namedN hTr hnp hs hm P.hf P.mm in0 hd w (iT (by decide) hK)), fun _ => ⟨h0, hd, e7, fun i' hi' _ e => fun ⟨q1, q2⟩ => w i' hi' ⟨e.trans e7, q1, q2⟩⟩⟩
    · exact Or.inl ⟨15, by omega, by omega, fun X a K hK => cst X a K (fun q => absurd q g) (fun _ => iT n7 (S_nameFits (i := 0) hs (a.fz hs P.g) P.hf (P.mc.k (a.kk hs)) (hTX X a) (by omega) (by omega) (by omega) (fun _ => iT (by decide) ⟨y 5 d, c7 X a, hs.k 5 d (by simp [yV]; omega), S_lets hs (by omega) hu hg1 ho1 ((a.2.1 5 _ (by omega)).trans eg1) ((a.2.1 4 _ (by omega)).trans eo1) (fun q => absurd (by rw [a.1 2 _ (by omega)] at q; exact q) ok) (fun _ => iF (by simp) hK)⟩) (fun q => absurd ft q))), fun K hK => m19 K (M_fits (q := 54) hs hm P.hf P.mm in0 (fun _ => iT (by decide) (by
        rw [h99]
        exact M_may hs hm xd.1 hu hg1 ho1 fg1 fo1 (fun q => absurd (by rw [fd3] at q; exact q) ok) (fun _ => iF (by simp) (E K 15 _ (by decide +kernel) hK)))) (fun q => absurd ft q))⟩
  · exact Or.inl ⟨21, by omega, by omega, fun X a K hK => cst X a K (fun q => absurd q g) (fun _ => iT n7 (S_nameFits (i := 0) hs (a.fz hs P.g) P.hf (P.mc.k (a.kk hs)) (hTX X a) (by omega) (by omega) (by omega) (fun q => absurd q ft) (fun _ => iF (by simp) hK))), fun K hK => m19 K (M_fits (q := 54) hs hm P.hf P.mm in0 (fun q => absurd q ft) (fun _ => iF (by simp) (E K 21 _ (by decide +kernel) hK)))⟩
end ALT2
