/-! alter: its checks, stage by stage (by hand) -/
section ALT
variable {t : TY} {y : LYT} {b c z k j u : Nat} {f : Nat → Nat} {G X m : GS} {n np : Nat} {r s : Nat → Nat}
/-- the staged state behind each stage -/
def x1C (y : LYT) (X : GS) (o : Option Nat) : GS := match o with
  | some l => si X 25 (y 4 0) (nI l)
  | none => X
def x2C (y : LYT) (X : GS) (o : Option Int32) : GS := match o with
  | some v => si (si X 26 (y 4 0) 1) 27 (y 4 0) v
  | none => X
def x5C (y : LYT) (X : GS) (o : Option Int32) : GS := match o with
  | some v => si (si X 28 (y 4 0) 1) 29 (y 4 0) v
  | none => X
def x3C (t : TY) (y : LYT) (X : GS) (o : Option Nat) : GS := match o with
  | some v => sr X 30 (y 4 0) (some (tad t v))
  | none => X
def x4C (y : LYT) (X : GS) (f : Nat → Nat) (l : Nat) : GS := if l = 0 then X else si (aw X (y 17 0) (fun i => if i < l then sb (f (56 + i)) else ai X (y 17 0) i)) 32 (y 4 0) (nI l)
/-- length -/
theorem stL (Q : FP t y b c z f G m n r s np k j u) (hz : 54 ≤ z) : (∃ e, e < 29 ∧ e ≠ 2 ∧ ¬ al1s f 46 8 ∧ (∀ X, cC y G X → ∀ K : GS → Option Nat → Prop, K X (some (tks t e)) → w_S_stageLength t X (y 0 0) (y 5 j) (some (tad t u)) K) ∧ ∀ K : GS → Prop, K (sl m 98 (y 1 0) (lN (er e))) → w_M_checkLength t m (y 1 0) (nI (s j)) K) ∨ (∃ o : Option Nat, (o = none ↔ al1s f 46 8) ∧ (∀ X, cC y G X → ∀ K : GS → Option Nat → Prop, K (x1C y X o) (some (tks t 2)) → w_S_stageLength t X (y 0 0) (y 5 j) (some (tad t u)) K) ∧ (¬ al1s f 46 8 → ∀ K : GS → Prop, K m → w_M_checkLength t m (y 1 0) (nI (s j)) K) ∧ ∀ l, o = some l → nm f 46 8 = l ∧ l ≤ 64 ∧ ¬ gi G 2 (y 5 j) < 0 ∧ ∀ l0, l0 ≤ 64 → gi G 12 (y 5 j) = nI l0 → tBl y G n r + (l + 15) / 16 ≤ 24 + (l0 + 15) / 16) := by
  obtain ⟨P, hZ, hk, hus, hj, hu, g48, g50, h99, f90, f51⟩ := id Q
  have hs := P.s
  have hm := P.hm
  have hnp := Q.np31
  have hTr := Q.tr
  have x := hTr.nd hj
  have hj20 := hTr.le hj
  have hvj : yV 5 j = true := by simp [yV]; omega
  have b24 := hTr.b24
  have n64 : nm f 46 8 < 2 ^ 64 := nm_l P.hf.2.2.1 (by omega)
  obtain ⟨gg, oo, hgg, hoo, egg, eoo, fgg, foo, f3⟩ := x.2.2.may
  obtain ⟨l0, lb, le, -⟩ := hTr.2.2.2.2.2.2.2.2.2.2.2.2.2.2.2.2 j hj20
  have t18 : ai m (y 30 70) (83 * s j + 18) = nI l0 := by
    obtain ⟨-, -, -, -, -, -, -, -, -, ⟨l2, g2, w1, w2, w3, -⟩⟩ := x.2.2
    rw [w3, ← le, w2]
  -- the class's look
  have cst : ∀ X, cC y G X → ∀ K : GS → Option Nat → Prop, (al1s f 46 8 → K X (some (tks t 2))) → (¬ al1s f 46 8 → w_Node_isDirectory t X (y 5 j) (fun v4 => (if v4 = 0 then (w_Node_lets t X (y 5 j) (some (tad t u)) (2 : Int32) (fun v5 => (if ¬ v5 = 0 then ((if lN (nm f 46 8) < (0 : Int64) then (K X (some (tks t 23))) else (∃ a6, (gr X 63 (y 0 0)) = some a6 ∧ tk t a6 = 2 ∧ w_Tree_hasRoomForContent t X a6 (y 5 j) (lN (nm f 46 8)) (fun v7 => (if ¬ v7 = 0 then (∃ a8, (gr X 65 (y 0 0)) = some a8 ∧ tk t a8 = 4 ∧ ∀ G9, G9 = si X 25 a8 (lN (nm f 46 8)).toInt32 → K G9 (some (tks t 2))) else (K X (some (tks t 23)))))))) else (K X (some (tks t 15)))))) else (K X (some (tks t 25)))))) → w_S_stageLength t X (y 0 0) (y 5 j) (some (tad t u)) K := fun X a K k0 k1 => by
    have hzX := a.fz hs P.g
    have mX := P.mc.k (a.kk hs)
    exact ⟨hs.k 0 0, y 8 0, hzX.1.2.2.2.1, hs.k 8 0, S_gives (p := 46) (q := 8) hs hzX P.hf mX (by omega) (fun q => iF (by simp) (k0 q)) (fun q => iT (by decide) (S_number (p := 46) (n := 8) hs hzX P.hf mX (by omega) (by omega) ⟨hs.k 5 j hvj, k1 q⟩))⟩
  have mst : ∀ K : GS → Prop, w_M_isDirectory t m (y 1 0) (nI (s j)) (fun v2 => (if v2 = 0 then (w_M_may t m (y 1 0) (nI (s j)) (nI u) (2 : Int32) (fun v3 => (if ¬ v3 = 0 then ((if lN (nm f 46 8) < (0 : Int64) then (w_M_checkLength_100 t (y 1 0) K m) else ((if (64 : Int64) < lN (nm f 46 8) then (w_M_checkLength_100 t (y 1 0) K m) else (w_M_blocks t m (y 1 0) (fun v4 => w_M_at t m (y 1 0) (nI (s j)) (18 : Int32) (fun v5 => (if ((v4 - ((v5 + (15 : Int32)) / (16 : Int32))).toInt64 + ((lN (nm f 46 8) + (15 : Int64)) / (16 : Int64))) ≤ (24 : Int64) then (K m) else (w_M_checkLength_100 t (y 1 0) K m))))))))) else (∀ G6, G6 = sl m 98 (y 1 0) (1836213616 : Int64) → K G6)))) else (∀ G7, G7 = sl m 98 (y 1 0) (1952543859 : Int64) → K G7))) → w_M_checkLength t m (y 1 0) (nI (s j)) K := fun K hK => by
    refine ⟨hs.k 1 0, P.get (p := 46) (n := 8) (by omega) (by omega) ?_⟩
    rw [h99]; exact hK
  by_cases g : al1s f 46 8
  · exact Or.inr ⟨none, ⟨fun _ => g, fun _ => rfl⟩, fun X a K hK => cst X a K (fun _ => hK) (fun q => absurd g q), fun q => absurd g q, fun l hl => absurd hl (by simp)⟩
  by_cases dd : gi G 2 (y 5 j) < 0
  · refine Or.inl ⟨25, by omega, by omega, g, fun X a K hK => cst X a K (fun q => absurd q g) (fun _ => S_isDirectory hs (by omega) (by rw [a.1 2 _ (by omega), if_pos dd]; exact iF (by decide) hK)), fun K hK => mst K (M_isDir hs hm x.1 (by rw [f3, if_pos dd]; exact iF (by decide) (M_err (by decide +kernel) hK)))⟩
  have cnd : ∀ X, cC y G X → ∀ K : GS → Option Nat → Prop, w_Node_lets t X (y 5 j) (some (tad t u)) (2 : Int32) (fun v5 => (if ¬ v5 = 0 then ((if lN (nm f 46 8) < (0 : Int64) then (K X (some (tks t 23))) else (∃ a6, (gr X 63 (y 0 0)) = some a6 ∧ tk t a6 = 2 ∧ w_Tree_hasRoomForContent t X a6 (y 5 j) (lN (nm f 46 8)) (fun v7 => (if ¬ v7 = 0 then (∃ a8, (gr X 65 (y 0 0)) = some a8 ∧ tk t a8 = 4 ∧ ∀ G9, G9 = si X 25 a8 (lN (nm f 46 8)).toInt32 → K G9 (some (tks t 2))) else (K X (some (tks t 23)))))))) else (K X (some (tks t 15))))) → w_S_stageLength t X (y 0 0) (y 5 j) (some (tad t u)) K := fun X a K hK => cst X a K (fun q => absurd q g) (fun _ => S_isDirectory hs (by omega) (by rw [a.1 2 _ (by omega), if_neg dd]; exact iT rfl hK))
  have mnd : ∀ K : GS → Prop, w_M_may t m (y 1 0) (nI (s j)) (nI u) (2 : Int32) (fun v3 => (if ¬ v3 = 0 then ((if lN (nm f 46 8) < (0 : Int64) then (w_M_checkLength_100 t (y 1 0) K m) else ((if (64 : Int64) < lN (nm f 46 8) then (w_M_checkLength_100 t (y 1 0) K m) else (w_M_blocks t m (y 1 0) (fun v4 => w_M_at t m (y 1 0) (nI (s j)) (18 : Int32) (fun v5 => (if ((v4 - ((v5 + (15 : Int32)) / (16 : Int32))).toInt64 + ((lN (nm f 46 8) + (15 : Int64)) / (16 : Int64))) ≤ (24 : Int64) then (K m) else (w_M_checkLength_100 t (y 1 0) K m))))))))) else (∀ G6, G6 = sl m 98 (y 1 0) (1836213616 : Int64) → K G6))) → w_M_checkLength t m (y 1 0) (nI (s j)) K := fun K hK => mst K (M_isDir hs hm x.1 (by rw [f3, if_neg dd]; exact iT rfl hK))
  have lts : ∀ X, cC y G X → ∀ K : Int32 → Prop, (mOk (gi G 2 (y 5 j)) 2 u gg oo → K 1) → (¬ mOk (gi G 2 (y 5 j)) 2 u gg oo → K 0) → w_Node_lets t X (y 5 j) (some (tad t u)) (2 : Int32) K := fun X a K k1 k0 => by
    have e2 : gi X 2 (y 5 j) = gi G 2 (y 5 j) := a.1 2 _ (by omega)
    exact S_lets hs (by omega) hu hgg hoo ((a.2.1 5 _ (by omega)).trans egg) ((a.2.1 4 _ (by omega)).trans eoo) (fun w => k1 (by rw [← e2]; exact w)) (fun w => k0 (fun q => w (by rw [e2]; exact q)))
  have mty : ∀ K : Int32 → Prop, (mOk (gi G 2 (y 5 j)) 2 u gg oo → K 1) → (¬ mOk (gi G 2 (y 5 j)) 2 u gg oo → K 0) → w_M_may t m (y 1 0) (nI (s j)) (nI u) (2 : Int32) K := fun K k1 k0 => M_may hs hm x.1 hu hgg hoo fgg foo (fun w => k1 (by rw [← f3]; exact w)) (fun w => k0 (fun q => w (by rw [f3]; exact q)))
  by_cases ok : mOk (gi G 2 (y 5 j)) 2 u gg oo
  · have m100 : ∀ K : GS → Prop, K (sl m 98 (y 1 0) (lN (er 23))) → w_M_checkLength_100 t (y 1 0) K m := fun K hK => ⟨hs.k 1 0, M_err (by decide +kernel) hK⟩
    by_cases sg : lN (nm f 46 8) < (0 : Int64)
    · exact Or.inl ⟨23, by omega, by omega, g, fun X a K hK => cnd X a K (lts X a _ (fun _ => iT (by decide) (iT sg hK)) (fun q => absurd ok q)), fun K hK => mnd K (mty _ (fun _ => iT (by decide) (iT sg (m100 K hK))) (fun q => absurd ok q))⟩
    obtain ⟨l, hl, el⟩ := pk_lOf sg
    have hl' : nm f 46 8 = l := by
      have := congrArg (fun v : Int64 => v.toBitVec.toNat) el
      simp only [lN_nat n64, lN_nat (show l < 2 ^ 64 by omega)] at this
      exact this
    have cbl : cBl y G n r j = (l0 + 15) / 16 := by
      unfold cBl
      rw [if_neg dd, le, nI_clamp (by omega)]
    have cle := hTr.cBl_le hj
    rw [cbl] at cle
    have crm : ∀ X, cC y G X → ∀ K : Int32 → Prop, (l ≤ 64 → tBl y G n r + (l + 15) / 16 ≤ 24 + (l0 + 15) / 16 → K 1) → (¬ (l ≤ 64 ∧ tBl y G n r + (l + 15) / 16 ≤ 24 + (l0 + 15) / 16) → K 0) → w_Tree_hasRoomForContent t X (y 2 0) (y 5 j) (lN (nm f 46 8)) K := fun X a K k1 k0 => by
      have tbX : tBl y X n r = tBl y G n r := tBl_eq (fun q => by rw [a.1 2 q (by omega)]) (fun q => a.2.1 7 q (by omega)) (fun q => a.1 12 q (by omega))
      rw [el]
      by_cases q62 : l < 2 ^ 62
      · exact S_room (hTr.to (a.agT hs)) hnp hs (a.fz hs P.g) hj (by rw [a.1 2 _ (by omega)]; exact dd) lb ((a.1 12 _ (by omega)).trans le) q62 (fun a1 a2 => k1 a1 (by rw [tbX] at a2; exact a2)) (fun q => k0 (by rw [tbX] at q; exact q))
      · exact iF (fun w => by have := (pk_lLE (b := 64) hl (by decide)).mp w; omega) (k0 fun w => by omega)
    have mrm : ∀ K : GS → Prop, (l ≤ 64 → tBl y G n r + (l + 15) / 16 ≤ 24 + (l0 + 15) / 16 → K m) → (¬ (l ≤ 64 ∧ tBl y G n r + (l + 15) / 16 ≤ 24 + (l0 + 15) / 16) → K (sl m 98 (y 1 0) (lN (er 23)))) → w_M_checkLength t m (y 1 0) (nI (s j)) K := fun K k1 k0 => mnd K (mty _ (fun _ => iT (by decide) (iF sg (by
      rw [el]
      by_cases q64 : 64 < l
      · exact iT ((pk_lLT (a := 64) (by decide) hl).mpr q64) (m100 K (k0 fun w => by omega))
      · refine iF (fun w => q64 ((pk_lLT (a := 64) (by decide) hl).mp w)) (hTr.mblocks hnp hs hm (M_at (c := 18) hs hm x.1 (by omega) ?_))
        rw [t18, show (15 : Int32) = nI 15 from rfl, show (16 : Int32) = nI 16 from rfl, nI_add, pk_div (by omega) (by omega) (by omega), pk_sub cle, nI_l (by omega), show (15 : Int64) = lN 15 from rfl, show (16 : Int64) = lN 16 from rfl, lN_add, pk_lDiv (by omega) (by omega) (by omega), lN_add]
        by_cases q : tBl y G n r - (l0 + 15) / 16 + (l + 15) / 16 ≤ 24
        · exact iT ((pk_lLE (b := 24) (by omega) (by decide)).mpr q) (k1 (by omega) (by omega))
        · exact iF (fun w => q ((pk_lLE (b := 24) (by omega) (by decide)).mp w)) (m100 K (k0 fun w => by omega))))) (fun q => absurd ok q))
    by_cases room : l ≤ 64 ∧ tBl y G n r + (l + 15) / 16 ≤ 24 + (l0 + 15) / 16
    · refine Or.inr ⟨some l, ⟨fun w => absurd w (by simp), fun w => absurd w g⟩, fun X a K hK => cnd X a K (lts X a _ (fun _ => iT (by decide) (iF sg ⟨y 2 0, (a.fz hs P.g).1.1, hs.k 2 0, crm X a _ (fun _ _ => iT (by decide) ⟨y 4 0, (a.fz hs P.g).1.2.2.1, hs.k 4 0, fun G9 e9 => ?_⟩) (fun q => absurd room q)⟩)) (fun q => absurd ok q)), fun _ K hK => mrm K (fun _ _ => hK) (fun q => absurd room q), fun l' hl2 => ?_⟩
      · rw [el, lN_i] at e9
        subst e9; exact hK
      · obtain rfl : l = l' := Option.some.inj hl2
        refine ⟨hl', room.1, dd, fun l1 h1 e1 => ?_⟩
        obtain rfl : l0 = l1 := (nI_eq (by omega) (by omega)).mp (le.symm.trans e1)
        exact room.2
    · exact Or.inl ⟨23, by omega, by omega, g, fun X a K hK => cnd X a K (lts X a _ (fun _ => iT (by decide) (iF sg ⟨y 2 0, (a.fz hs P.g).1.1, hs.k 2 0, crm X a _ (fun a1 a2 => absurd ⟨a1, a2⟩ room) (fun _ => iF (by simp) hK)⟩)) (fun q => absurd ok q)), fun K hK => mrm K (fun a1 a2 => absurd ⟨a1, a2⟩ room) (fun _ => hK)⟩
  · exact Or.inl ⟨15, by omega, by omega, g, fun X a K hK => cnd X a K (lts X a _ (fun q => absurd q ok) (fun _ => iF (by simp) hK)), fun K hK => mnd K (mty _ (fun q => absurd q ok) (fun _ => iF (by simp) (M_err (by decide +kernel) hK)))⟩
end ALT
