/-! open (by hand) -/
section OPY
variable {t : TY} {y : LYT} {b c z k j u : Nat} {f : Nat → Nat} {G m : GS} {n np : Nat} {r s : Nat → Nat}
theorem h_open (Q : FP t y b c z f G m n r s np k j u) (h4 : f 4 = 112) : HR t y b c G m (fun K => w_S_open t G (y 0 0) (y 14 k) (fun X x => K X x)) (fun K => w_M_reach t m (y 1 0) (nI k) (nI (s j)) (fun X => K X)) := by
  obtain ⟨P, hZ, hk, hus, hj, hu, g48, g50, h99, f90, f51⟩ := id Q
  have hs := P.s
  have hz := P.g
  have hm := P.hm
  have hnp := Q.np31
  have hTr := Q.tr
  have x := hTr.nd hj
  have hj20 := hTr.le hj
  have hvj : yV 5 j = true := by simp [yV]; omega
  have hvk : yV 14 k = true := by simp [yV, hk]
  have z12 := (wf112 h4).mp P.w
  have ho := P.hf.2.2.1 11
  obtain ⟨o, eo'⟩ : ∃ o, o = f 11 := ⟨_, rfl⟩
  rw [← eo'] at ho
  obtain ⟨gg, oo, hgg, hoo, egg, eoo, fgg, foo, f3⟩ := x.2.2.may
  have hU : ∀ k, k < 12 → isB (gi G 46 (y 14 k)) := fun k hk => (hZ.2.2.2.2.2.1 k hk).1
  have hN : ∀ k, k < 12 → gi G 46 (y 14 k) = 1 → ∃ j', j' ≤ 20 ∧ gr G 48 (y 14 k) = some (y 5 j') := fun k hk hus => by
    obtain ⟨v, p', j', u, b1, b2, b3, b4, b5, -⟩ := hZ.2.2.2.2.2.2.2.1 k hk hus
    exact ⟨j', b5, b4⟩
  have cl : (nI k).toNatClampNeg = k := nI_clamp (by omega)
  -- the class up to its first look
  have cst : ∀ K : GS → Option Nat → Prop, (if (gi G 51 (y 14 k)) = (-1 : Int32) then ((if (nI o &&& (-84 : Int32)) = 0 then (∃ a4, (gr G 48 (y 14 k)) = some a4 ∧ tk t a4 = 1 ∧ w_Node_isDirectory t G a4 (fun v5 => (if v5 = 0 then (w_S_open_55 t (y 0 0) (fun X x => K X x) (y 14 k) (nI o) (gr G 48 (y 14 k)) G) else ((if nI o = 0 then (w_S_open_55 t (y 0 0) (fun X x => K X x) (y 14 k) (nI o) (gr G 48 (y 14 k)) G) else (K G (some (tks t 14)))))))) else (K G (some (tks t 19))))) else (K G (some (tks t 13)))) → w_S_open t G (y 0 0) (y 14 k) (fun X x => K X x) := fun K hK => ⟨hs.k 0 0, y 8 0, hz.1.2.2.2.1, hs.k 8 0, P.num (p := 11) (n := 1) (by omega) (by omega) (fun v3 e3 => by
    rw [nm_1, lN_i, ← eo'] at e3
    subst e3
    exact ⟨hs.k 14 k hvk, hK⟩)⟩
  -- the reference's flags
  obtain ⟨l4, hl4, hl4'⟩ : ∃ l4 : Int32, ((nI o &&& 16) = 0 → l4 = 0) ∧ (¬ (nI o &&& 16) = 0 → l4 = 1) := by
    by_cases w : (nI o &&& 16) = 0
    · exact ⟨0, fun _ => rfl, fun n => absurd w n⟩
    · exact ⟨1, fun n => absurd n w, fun _ => rfl⟩
  obtain ⟨l5, h5, h5'⟩ : ∃ l5 : Int32, (((nI o &&& 3) = 0 ∨ (nI o &&& 3) = 2) → l5 = 1) ∧ (¬ ((nI o &&& 3) = 0 ∨ (nI o &&& 3) = 2) → l5 = 0) := by
    by_cases w : ((nI o &&& 3) = 0 ∨ (nI o &&& 3) = 2)
    · exact ⟨1, fun _ => rfl, fun n => absurd w n⟩
    · exact ⟨0, fun n => absurd n w, fun _ => rfl⟩
  obtain ⟨l6, h6, h6'⟩ : ∃ l6 : Int32, (((nI o &&& 3) = 1 ∨ (nI o &&& 3) = 2 ∨ ¬ (nI o &&& 16) = 0) → l6 = 1) ∧ (¬ ((nI o &&& 3) = 1 ∨ (nI o &&& 3) = 2 ∨ ¬ (nI o &&& 16) = 0) → l6 = 0) := by
    by_cases w : ((nI o &&& 3) = 1 ∨ (nI o &&& 3) = 2 ∨ ¬ (nI o &&& 16) = 0)
    · exact ⟨1, fun _ => rfl, fun n => absurd w n⟩
    · exact ⟨0, fun n => absurd n w, fun _ => rfl⟩
  have mst : ∀ K : GS → Prop, (if (ai m (y 30 90) k) < 0 then ((if (nI o &&& (-84 : Int32)) = 0 then (w_M_isDirectory t m (y 1 0) (nI (s j)) (fun v2 => (if v2 = 0 then (w_M_reach_193 t (y 1 0) (fun X => K X) (nI k) (nI (s j)) (nI o) l4 l5 l6 (bI (∃ k, k < 12 ∧ opn y G j k)) m) else ((if nI o = 0 then (w_M_reach_193 t (y 1 0) (fun X => K X) (nI k) (nI (s j)) (nI o) l4 l5 l6 (bI (∃ k, k < 12 ∧ opn y G j k)) m) else (∀ G3, G3 = sl m 98 (y 1 0) (7498084 : Int64) → w_M_reach_313 t (y 1 0) (fun X => K X) (nI k) (nI (s j)) (nI o) l4 G3)))))) else (∀ G4, G4 = sl m 98 (y 1 0) (1701080941 : Int64) → w_M_reach_313 t (y 1 0) (fun X => K X) (nI k) (nI (s j)) (nI o) l4 G4))) else (∀ G5, G5 = sl m 98 (y 1 0) (1852141679 : Int64) → w_M_reach_313 t (y 1 0) (fun X => K X) (nI k) (nI (s j)) (nI o) l4 G5)) → w_M_reach t m (y 1 0) (nI k) (nI (s j)) (fun X => K X) := fun K hK => by
    have loop : ∃ q, w_M_reach_74 t (y 1 0) (fun X => K X) q (nI k) (nI (s j)) (nI o) l4 l5 l6 (bI (∃ k, k < 0 ∧ opn y G j k)) (nI 0) m := by
      refine pk_loop (fun q i (_ : Unit) => w_M_reach_74 t (y 1 0) (fun X => K X) q (nI k) (nI (s j)) (nI o) l4 l5 l6 (bI (∃ k, k < i ∧ opn y G j k)) (nI i) m) (fun _ _ => True) 12 0 () (by omega) trivial (fun q _ _ => ?_) (fun q i _ hi _ ih => ?_)
      · show w_M_reach_74 t (y 1 0) (fun X => K X) (q + 1) (nI k) (nI (s j)) (nI o) l4 l5 l6 (bI (∃ k, k < 12 ∧ opn y G j k)) (nI 12) m
        unfold w_M_reach_74
        refine iT (show (12 : Int32) ≤ nI 12 by decide) ⟨hs.k 1 0, y 30 90, hm.m 90, hs.k 30 90, by rw [hs.n 30 90]; exact vp_lt (N := 12) hk, ?_⟩
        rw [cl]
        exact hK
      · have ih := ih () trivial
        have nx : ∀ s0 : Int32, s0 = bI (∃ k, k < i + 1 ∧ opn y G j k) → w_M_reach_127 t (y 1 0) (fun X => K X) (w_M_reach_74 t (y 1 0) (fun X => K X) q) (nI k) (nI (s j)) (nI o) l4 l5 l6 (nI i) s0 m := fun s0 e0 v1 e1 => by
          rw [nI_1] at e1
          subst e0 e1
          exact ih
        refine iF (show ¬ nI 12 ≤ nI i from nI_ge hi (by decide)) ?_
        by_cases w : ∃ k, k < i ∧ opn y G j k
        · rw [bI_1 w]
          refine iT (by decide) (nx 1 (bI_1 ?_).symm)
          obtain ⟨k', a1, a2⟩ := w
          exact ⟨k', by omega, a2⟩
        · rw [bI_0 w]
          have vi : ∀ f, yV 30 f = true → yL 30 f = 12 → vp_in (nI i) (tn t (y 30 f)) := fun f hv hl => by rw [hs.n 30 f hv, hl]; exact vp_lt (N := 12) hi
          have oM' := opn_M hZ hnp hj hi
          have no : ¬ opn y G j i → bI (∃ k, k < i + 1 ∧ opn y G j k) = 0 := fun w' => bI_0 fun ⟨k', a1, a2⟩ => by
            by_cases q : k' = i
            · subst q; exact w' a2
            · exact w ⟨k', by omega, a2⟩
          refine iF (by simp) ⟨hs.k 1 0, y 30 86, hm.m 86, hs.k 30 86, vi 86 rfl rfl, ?_⟩
          rw [nI_clamp (by omega)]
          refine iS ⟨fun a => nx 0 (no fun w' => (oM'.mpr w').1 a).symm, fun a => ⟨y 30 90, hm.m 90, hs.k 30 90, vi 90 rfl rfl, iS ⟨fun a2 => nx 0 (no fun w' => (oM'.mpr w').2.1 a2).symm, fun a2 => ⟨y 30 88, hm.m 88, hs.k 30 88, vi 88 rfl rfl, M_at (c := 1) hs hm x.1 (by omega) (iN ⟨fun a3 => nx 1 (bI_1 ⟨i, by omega, oM'.mp ⟨a, a2, a3⟩⟩).symm, fun a3 => nx 0 (no fun w' => a3 (oM'.mpr w').2.2).symm⟩)⟩⟩⟩⟩
    rw [bI_0 (fun ⟨k', a1, _⟩ => by omega)] at loop
    have m66 : w_M_reach_66 t (y 1 0) (fun X => K X) (nI k) (nI (s j)) (nI o) l4 l5 l6 m := loop
    have m40 : w_M_reach_40 t (y 1 0) (fun X => K X) (nI k) (nI (s j)) (nI o) l4 l5 m := by
      by_cases w1 : (nI o &&& 3) = 1
      · rw [h6 (Or.inl w1)] at m66; exact iT w1 m66
      refine iF w1 ?_
      by_cases w2 : (nI o &&& 3) = 2
      · rw [h6 (Or.inr (Or.inl w2))] at m66; exact iT w2 m66
      refine iF w2 ?_
      by_cases w3 : (nI o &&& 16) = 0
      · rw [h6' (fun n => by rcases n with n | n | n; exact w1 n; exact w2 n; exact n w3)] at m66
        exact iT (hl4 w3) m66
      · rw [h6 (Or.inr (Or.inr w3))] at m66
        exact iF (by rw [hl4' w3]; decide) m66
    have m20 : w_M_reach_20 t (y 1 0) (fun X => K X) (nI k) (nI (s j)) (nI o) l4 m := by
      by_cases w0 : (nI o &&& 3) = 0
      · rw [h5 (Or.inl w0)] at m40; exact iT w0 m40
      refine iF w0 (iN ⟨fun w2 => ?_, fun w2 => ?_⟩)
      · rw [h5 (Or.inr w2)] at m40; exact m40
      · rw [h5' (fun n => by rcases n with n | n; exact w0 n; exact w2 n)] at m40; exact m40
    refine ⟨hs.k 1 0, y 30 94, hm.m 94, hs.k 30 94, by rw [hs.n 30 94]; exact vp_lt (n := 11) (N := 128) (by omega), fun v2 e2 => ?_⟩
    have e11 : ai m (y 30 94) 11 = nI o := by rw [eo']; exact P.mm.2 11 (by omega)
    have e2 : v2 = nI o := by rw [e2]; exact e11
    subst e2
    refine iS ⟨fun w => ?_, fun w => ?_⟩
    · rw [hl4 w] at m20; exact m20
    · rw [hl4' w] at m20; exact m20
  have e313 : ∀ (K : GS → Prop) (e : Nat) (w : Int64), lN (er e) = w → ¬ w = 0 → K (sl m 98 (y 1 0) (lN (er e))) → ∀ X, X = sl m 98 (y 1 0) w → w_M_reach_313 t (y 1 0) (fun X => K X) (nI k) (nI (s j)) (nI o) l4 X := fun K e w ew hw hK X eX => by
    rw [← ew] at eX
    subst eX
    exact ⟨hs.k 1 0, iF (by rw [gl_at, ew]; exact hw) hK⟩
  by_cases op51 : gi G 51 (y 14 k) = -1
  · have n90 : ai m (y 30 90) k < 0 := by rw [f90, op51]; decide
    by_cases hmd : (nI o &&& (-84 : Int32)) = 0
    · by_cases hdd : gi G 2 (y 5 j) < 0 ∧ ¬ nI o = 0
      · exact HR.er0 P (j := 14) (by omega) (by omega) (fun K hK => cst K (iT op51 (iT hmd ⟨y 5 j, g48, hs.k 5 j hvj, S_isDirectory hs (by omega) (by rw [if_pos hdd.1]; exact iF (by decide) (iF hdd.2 hK))⟩))) (fun K hK => mst K (iT n90 (iT hmd (M_isDir hs hm x.1 (by rw [f3, if_pos hdd.1]; exact iF (by decide) (iF hdd.2 (e313 K 14 _ (by decide +kernel) (by decide) hK)))))))
      -- the way on
      have c55 : ∀ K : GS → Option Nat → Prop, w_S_open_55 t (y 0 0) (fun X x => K X x) (y 14 k) (nI o) (some (y 5 j)) G → w_S_open t G (y 0 0) (y 14 k) (fun X x => K X x) := fun K hK => cst K (iT op51 (iT hmd ⟨y 5 j, g48, hs.k 5 j hvj, S_isDirectory hs (by omega) (by
        rw [g48]
        by_cases w : gi G 2 (y 5 j) < 0
        · rw [if_pos w]
          exact iF (by decide) (iT (Classical.byContradiction fun n => hdd ⟨w, n⟩) hK)
        · rw [if_neg w]
          exact iT rfl hK)⟩))
      have m193 : ∀ K : GS → Prop, w_M_reach_193 t (y 1 0) (fun X => K X) (nI k) (nI (s j)) (nI o) l4 l5 l6 (bI (∃ k, k < 12 ∧ opn y G j k)) m → w_M_reach t m (y 1 0) (nI k) (nI (s j)) (fun X => K X) := fun K hK => mst K (iT n90 (iT hmd (M_isDir hs hm x.1 (by
        rw [f3]
        by_cases w : gi G 2 (y 5 j) < 0
        · rw [if_pos w]
          exact iF (by decide) (iT (Classical.byContradiction fun n => hdd ⟨w, n⟩) hK)
        · rw [if_neg w]
          exact iT rfl hK))))
      have m249 : ∀ K : GS → Prop, K (sl m 98 (y 1 0) (lN (er 15))) → w_M_reach_249 t (y 1 0) (fun X => K X) (nI k) (nI (s j)) (nI o) l4 m := fun K hK => ⟨hs.k 1 0, e313 K 15 _ (by decide +kernel) (by decide) hK⟩
      have mk : ∀ bb : Int32, mOk (ai m (y 30 70) (83 * s j + 3)) bb u gg oo ↔ mOk (gi G 2 (y 5 j)) bb u gg oo := fun bb => by rw [f3]
      -- the reference's rights
      have mr : ∀ K : GS → Prop, (okL (gi G 2 (y 5 j)) (nI o) u gg oo → w_M_reach_259 t (y 1 0) (fun X => K X) (nI k) (nI (s j)) (nI o) l4 (bI (∃ k, k < 12 ∧ opn y G j k)) m) → (¬ okL (gi G 2 (y 5 j)) (nI o) u gg oo → K (sl m 98 (y 1 0) (lN (er 15)))) → w_M_reach_193 t (y 1 0) (fun X => K X) (nI k) (nI (s j)) (nI o) l4 l5 l6 (bI (∃ k, k < 12 ∧ opn y G j k)) m := fun K hY hE => by
        have m229 : (((nI o &&& 3) = 0 ∨ (nI o &&& 3) = 2) → mOk (gi G 2 (y 5 j)) 4 u gg oo) → (((nI o &&& 3) = 1 ∨ (nI o &&& 3) = 2 ∨ ¬ (nI o &&& 16) = 0) → mOk (gi G 2 (y 5 j)) 2 u gg oo) → w_M_reach_229 t (y 1 0) (fun X => K X) (nI k) (nI (s j)) (nI o) l4 (bI (∃ k, k < 12 ∧ opn y G j k)) m := fun a1 a2 => iN ⟨fun e => ⟨hs.k 1 0, by
          rw [h99]
          exact M_may hs hm x.1 hu hgg hoo fgg foo (fun w => iT (by decide) (hY ⟨a1, a2, fun _ => (mk 1).mp w⟩)) (fun w => iF (by simp) (m249 K (hE fun q => w ((mk 1).mpr (q.2.2 e)))))⟩, fun e => hY ⟨a1, a2, fun w => absurd w e⟩⟩
        have m211 : (((nI o &&& 3) = 0 ∨ (nI o &&& 3) = 2) → mOk (gi G 2 (y 5 j)) 4 u gg oo) → w_M_reach_211 t (y 1 0) (fun X => K X) (nI k) (nI (s j)) (nI o) l4 l6 (bI (∃ k, k < 12 ∧ opn y G j k)) m := fun a1 => by
          by_cases w : ((nI o &&& 3) = 1 ∨ (nI o &&& 3) = 2 ∨ ¬ (nI o &&& 16) = 0)
          · rw [h6 w]
            refine iF (by decide) ⟨hs.k 1 0, ?_⟩
            rw [h99]
            exact M_may hs hm x.1 hu hgg hoo fgg foo (fun q => iF (by decide) (m229 a1 fun _ => (mk 2).mp q)) (fun q => iT rfl (m249 K (hE fun q' => q ((mk 2).mpr (q'.2.1 w)))))
          · rw [h6' w]
            exact iT rfl (m229 a1 fun q => absurd q w)
        by_cases w : ((nI o &&& 3) = 0 ∨ (nI o &&& 3) = 2)
        · rw [h5 w]
          refine iF (by decide) ⟨hs.k 1 0, ?_⟩
          rw [h99]
          exact M_may hs hm x.1 hu hgg hoo fgg foo (fun q => iF (by decide) (m211 fun _ => (mk 4).mp q)) (fun q => iT rfl (m249 K (hE fun q' => q ((mk 4).mpr (q'.1 w)))))
        · rw [h5' w]
          exact iT rfl (m211 fun q => absurd q w)
      by_cases ok : okL (gi G 2 (y 5 j)) (nI o) u gg oo
      · -- behind the rights: removal on clunk
        have cok : ∀ K : GS → Option Nat → Prop, (if (nI o &&& (64 : Int32)) = 0 then (w_S_open_93 t (y 0 0) (fun X x => K X x) (y 14 k) (nI o) (some (y 5 j)) G) else (tk t (y 5 j) = 1 ∧ w_Node_letsUnlink t G (y 5 j) (some (tad t u)) (fun v3 => (if ¬ v3 = 0 then (w_S_open_93 t (y 0 0) (fun X x => K X x) (y 14 k) (nI o) (some (y 5 j)) G) else (K G (some (tks t 15))))))) → w_S_open t G (y 0 0) (y 14 k) (fun X x => K X x) := fun K hK => c55 K ⟨hs.k 14 k hvk, y 5 j, rfl, by
          rw [g50]
          exact S_letsOpen hs (by omega) hu hgg hoo egg eoo (fun _ => iT (by decide) hK) (fun n => absurd ok n)⟩
        have mok : ∀ K : GS → Prop, w_M_reach_259 t (y 1 0) (fun X => K X) (nI k) (nI (s j)) (nI o) l4 (bI (∃ k, k < 12 ∧ opn y G j k)) m → w_M_reach t m (y 1 0) (nI k) (nI (s j)) (fun X => K X) := fun K hK => m193 K (mr K (fun _ => hK) (fun n => absurd ok n))
        -- the exclusive use
        have fin : HR t y b c G m (fun K => w_S_open_93 t (y 0 0) (fun X x => K X x) (y 14 k) (nI o) (some (y 5 j)) G) (fun K => w_M_reach_288 t (y 1 0) (fun X => K X) (nI k) (nI (s j)) (nI o) l4 (bI (∃ k, k < 12 ∧ opn y G j k)) m) := by
          have H := h_opened Q op51 (l4 := l4) ho hl4 hl4' (fun w => fun w2 => hdd ⟨w2, w⟩)
          by_cases ex : (gi G 2 (y 5 j) &&& 536870912) = 0
          · exact H.mono (fun K hK => ⟨y 5 j, rfl, hs.k 5 j hvj, hs.k 5 j hvj, iT ex (iT rfl hK)⟩) (fun K hK => ⟨hs.k 1 0, M_at (c := 3) hs hm x.1 (by omega) (by rw [f3]; exact iT ex hK)⟩)
          · by_cases O : ∃ k, k < 12 ∧ opn y G j k
            · exact HR.er0 P (j := 20) (by omega) (by omega) (fun K hK => ⟨y 5 j, rfl, hs.k 5 j hvj, hs.k 5 j hvj, iF ex (iF (by decide) ⟨hs.k 0 0, S_isOpen hs hz hU hN hj20 (fun _ => iF (by decide) hK) (fun n => absurd O n)⟩)⟩) (fun K hK => ⟨hs.k 1 0, M_at (c := 3) hs hm x.1 (by omega) (by
                rw [f3, bI_1 O]
                exact iF ex (iF (by decide) (e313 K 20 _ (by decide +kernel) (by decide) hK)))⟩)
            · exact H.mono (fun K hK => ⟨y 5 j, rfl, hs.k 5 j hvj, hs.k 5 j hvj, iF ex (iF (by decide) ⟨hs.k 0 0, S_isOpen hs hz hU hN hj20 (fun n => absurd n O) (fun _ => iT rfl hK)⟩)⟩) (fun K hK => ⟨hs.k 1 0, M_at (c := 3) hs hm x.1 (by omega) (by
                rw [f3, bI_0 O]
                exact iF ex (iT rfl hK))⟩)
        by_cases w64 : (nI o &&& (64 : Int32)) = 0
        · exact fin.mono (fun K hK => cok K (iT w64 hK)) (fun K hK => mok K (iT w64 hK))
        · by_cases h0 : j = 0
          · subst h0
            have e7 : gr G 7 (y 5 0) = none := hTr.2.2.2.2.2.2.2.2.2.2.2.2.1.1
            have s0 : s 0 = 0 := hTr.2.2.2.2.2.2.2.2.2.1
            exact HR.er0 P (j := 15) (by omega) (by omega) (fun K hK => cok K (iF w64 ⟨hs.k 5 0, S_letsUnlink hs (by omega) e7 (iF (by simp) hK)⟩)) (fun K hK => mok K (iF w64 ⟨hs.k 1 0, iT (by rw [s0]; rfl) (iF (by simp) (e313 K 15 _ (by decide +kernel) (by decide) hK))⟩))
          · obtain ⟨d, hd, e7, e8, hdd'⟩ := hTr.home hj h0
            have hd20 := hTr.le hd
            obtain ⟨g1, o1, hg1, ho1, eg1, eo1, -, -, -⟩ := (hTr.nd hd).2.2.may
            by_cases hok : mOk (gi G 2 (y 5 d)) 2 u g1 o1
            · exact fin.mono (fun K hK => cok K (iF w64 ⟨hs.k 5 j hvj, S_letsUnlinkY hs (by omega) (by omega) e7 hu hg1 ho1 eg1 eo1 (fun _ => iT (by decide) hK) (fun n => absurd hok n)⟩)) (fun K hK => mok K (iF w64 ⟨hs.k 1 0, by
                rw [h99]
                exact hTr.mayIn hnp hs hm hu hj h0 hd e7 hg1 ho1 eg1 eo1 (fun _ => iT (by decide) hK) (fun n => absurd hok n)⟩))
            · exact HR.er0 P (j := 15) (by omega) (by omega) (fun K hK => cok K (iF w64 ⟨hs.k 5 j hvj, S_letsUnlinkY hs (by omega) (by omega) e7 hu hg1 ho1 eg1 eo1 (fun n => absurd n hok) (fun _ => iF (by simp) hK)⟩)) (fun K hK => mok K (iF w64 ⟨hs.k 1 0, by
                rw [h99]
                exact hTr.mayIn hnp hs hm hu hj h0 hd e7 hg1 ho1 eg1 eo1 (fun n => absurd n hok) (fun _ => iF (by simp) (e313 K 15 _ (by decide +kernel) (by decide) hK))⟩))
      · exact HR.er0 P (j := 15) (by omega) (by omega) (fun K hK => c55 K ⟨hs.k 14 k hvk, y 5 j, rfl, by
          rw [g50]
          exact S_letsOpen hs (by omega) hu hgg hoo egg eoo (fun n => absurd n ok) (fun _ => iF (by simp) hK)⟩) (fun K hK => m193 K (mr K (fun n => absurd n ok) (fun _ => hK)))
    · exact HR.er0 P (j := 19) (by omega) (by omega) (fun K hK => cst K (iT op51 (iF hmd hK))) (fun K hK => mst K (iT n90 (iF hmd (e313 K 19 _ (by decide +kernel) (by decide) hK))))
  · have n90 : ¬ ai m (y 30 90) k < 0 := by
      rcases f51 with w | ⟨o, ho, w, -⟩
      · exact absurd w op51
      · rw [f90, w]; exact nI_pos (by omega)
    exact HR.er0 P (j := 13) (by omega) (by omega) (fun K hK => cst K (iF op51 hK)) (fun K hK => mst K (iF n90 (e313 K 13 _ (by decide +kernel) (by decide) hK)))
end OPY
