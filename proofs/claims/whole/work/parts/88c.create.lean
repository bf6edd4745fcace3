/-! create (by hand) -/
section CRF
variable {t : TY} {y : LYT} {b c z k j u : Nat} {f : Nat → Nat} {G m : GS} {n np : Nat} {r s : Nat → Nat}
theorem h_create (Q : FP t y b c z f G m n r s np k j u) (h4 : f 4 = 114) (hb1 : b + 1 < 2 ^ 20) : HR t y (b + 1) c G m (fun K => w_S_create t G (y 0 0) (y 14 k) (fun X x => K X x)) (fun K => w_M_create t m (y 1 0) (nI k) (nI (s j)) (fun X => K X)) := by
  obtain ⟨P, hZ, hk, hus, hj, hu, g48, g50, h99, f90, f51⟩ := id Q
  have hs := P.s
  have hz := P.g
  have hm := P.hm
  have hnp := Q.np31
  have hTr := Q.tr
  have x := hTr.nd hj
  have hj20 := hTr.le hj
  have hvj : yV 5 j = true := by simp [yV]; omega
  have hvk : yV 14 k = true := by simp [yV, hk]
  have hz128 := P.hf.2.1
  have wf := (wf114 h4).mp P.w
  have hT := P.x (Or.inr (Or.inr (Or.inr (Or.inr (Or.inl h4)))))
  have e1 : txP f = 11 := by unfold txP; rw [if_neg (by omega), if_neg (by omega), if_neg (by omega)]
  have e2 : txN f = 1 := by unfold txN; rw [if_pos (Or.inr h4)]
  rw [e1, e2] at hT
  obtain ⟨q, eq⟩ : ∃ q, q = tp f 11 1 := ⟨_, rfl⟩
  have eq' : q = 13 + nm f 11 2 := by rw [eq]; show 11 + 2 + nm f 11 2 = _; omega
  rw [← eq] at wf
  have e43 : gi G 43 (y 8 0) = nI q := by rw [eq]; exact hT.2.2
  obtain ⟨o, eo⟩ : ∃ o, o = f (q + 4) := ⟨_, rfl⟩
  have ho : o < 256 := by rw [eo]; exact P.hf.2.2.1 _
  obtain ⟨v3, ev3⟩ : ∃ v, v = nI (nm f q 4) := ⟨_, rfl⟩
  have cl : (nI k).toNatClampNeg = k := nI_clamp (by omega)
  obtain ⟨gg, oo, hgg, hoo, egg, eoo, fgg, foo, f3⟩ := x.2.2.may
  have cst : ∀ K : GS → Option Nat → Prop, (if (gi G 51 (y 14 k)) = (-1 : Int32) then (∃ a6, (gr G 48 (y 14 k)) = some a6 ∧ tk t a6 = 1 ∧ w_Node_isDirectory t G a6 (fun v7 => (if ¬ v7 = 0 then (w_Message_nameFits t G (y 8 0) (0 : Int32) (fun v8 => (if ¬ v8 = 0 then ((if (v3 &&& (-2147483648 : Int32)) = 0 then (w_S_create_93 t (y 0 0) (fun X x => K X x) (y 14 k) (gr G 48 (y 14 k)) v3 (nI o) (0 : Int32) G) else (w_S_create_93 t (y 0 0) (fun X x => K X x) (y 14 k) (gr G 48 (y 14 k)) v3 (nI o) (1 : Int32) G))) else (K G (some (tks t 21)))))) else (K G (some (tks t 14)))))) else (K G (some (tks t 13)))) → w_S_create t G (y 0 0) (y 14 k) (fun X x => K X x) := fun K hK => by
    refine ⟨hs.k 14 k hvk, hs.k 0 0, y 8 0, hz.1.2.2.2.1, hs.k 8 0, ?_⟩
    rw [e43, show nI q + 4 = nI (q + 4) from nI_add q 4]
    refine P.num (p := q) (n := 4) (by omega) (by omega) (fun w3 e3 => ?_)
    rw [lN_i, ← ev3] at e3
    rw [e3]
    refine P.num (p := q + 4) (n := 1) (by omega) (by omega) (fun w5 e5 => ?_)
    rw [nm_1, lN_i, ← eo] at e5
    rw [e5]
    exact hK
  have mst : ∀ K : GS → Prop, (if (ai m (y 30 90) k) < 0 then (w_M_isDirectory t m (y 1 0) (nI (s j)) (fun v7 => (if ¬ v7 = 0 then (w_M_fits t m (y 1 0) (11 : Int32) (fun v8 => (if ¬ v8 = 0 then ((if ¬ (v3 &&& (536870400 : Int32)) = 0 then (w_M_create_113 t (y 1 0) (fun X => K X) (nI k) (nI (s j)) v3 (nI o) m) else ((if ¬ (nI o &&& (-84 : Int32)) = 0 then (w_M_create_113 t (y 1 0) (fun X => K X) (nI k) (nI (s j)) v3 (nI o) m) else ((if nI o = 0 then (w_M_create_123 t (y 1 0) (fun X => K X) (nI k) (nI (s j)) v3 (nI o) m) else ((if 0 ≤ v3 then (w_M_create_123 t (y 1 0) (fun X => K X) (nI k) (nI (s j)) v3 (nI o) m) else (w_M_create_113 t (y 1 0) (fun X => K X) (nI k) (nI (s j)) v3 (nI o) m))))))))) else (∀ G9, G9 = sl m 98 (y 1 0) (1701667182 : Int64) → w_M_create_163 t (y 1 0) (fun X => K X) (nI k) (nI (s j)) v3 (nI o) G9)))) else (∀ G10, G10 = sl m 98 (y 1 0) (7498084 : Int64) → w_M_create_163 t (y 1 0) (fun X => K X) (nI k) (nI (s j)) v3 (nI o) G10)))) else (∀ G11, G11 = sl m 98 (y 1 0) (1852141679 : Int64) → w_M_create_163 t (y 1 0) (fun X => K X) (nI k) (nI (s j)) v3 (nI o) G11)) → w_M_create t m (y 1 0) (nI k) (nI (s j)) (fun X => K X) := fun K hK => by
    refine ⟨hs.k 1 0, ?_⟩
    rw [P.mm.1]
    refine M_behind (p := 11) hs hm P.hf P.mm (by omega) ?_
    rw [if_pos (by omega), show 11 + 2 + nm f 11 2 = q by omega]
    refine P.get (p := q) (n := 4) (by omega) (by omega) (fun w3 e3 => ?_)
    rw [lN_i, ← ev3] at e3
    rw [e3, show nI q + 4 = nI (q + 4) from nI_add q 4]
    refine ⟨y 30 94, hm.m 94, hs.k 30 94, by rw [hs.n 30 94]; exact vp_lt (N := 128) (by omega), fun w5 e5 => ?_⟩
    rw [nI_clamp (by omega), P.mm.2 _ (by omega), ← eo] at e5
    rw [e5]
    refine ⟨y 30 90, hm.m 90, hs.k 30 90, by rw [hs.n 30 90]; exact vp_lt (N := 12) hk, ?_⟩
    rw [cl]; exact hK
  have e163 : ∀ (K : GS → Prop) (e : Nat) (w : Int64), lN (er e) = w → ¬ w = 0 → K (sl m 98 (y 1 0) (lN (er e))) → ∀ X, X = sl m 98 (y 1 0) w → w_M_create_163 t (y 1 0) (fun X => K X) (nI k) (nI (s j)) v3 (nI o) X := fun K e w ew hw hK X eX => by
    rw [← ew] at eX
    subst eX
    exact ⟨hs.k 1 0, iF (by rw [gl_at, ew]; exact hw) hK⟩
  by_cases op51 : gi G 51 (y 14 k) = -1
  · have n90 : ai m (y 30 90) k < 0 := by rw [f90, op51]; decide
    by_cases hdir : gi G 2 (y 5 j) < 0
    · by_cases fit : nft f 11
      · -- behind the name
        have c93 : ∀ K : GS → Option Nat → Prop, (∀ l5 : Int32, (0 ≤ v3 → l5 = 0) → (¬ 0 ≤ v3 → l5 = 1) → w_S_create_93 t (y 0 0) (fun X x => K X x) (y 14 k) (some (y 5 j)) v3 (nI o) l5 G) → w_S_create t G (y 0 0) (y 14 k) (fun X x => K X x) := fun K hK => cst K (iT op51 ⟨y 5 j, g48, hs.k 5 j hvj, S_isDirectory hs (by omega) (by
          rw [if_pos hdir, g48]
          refine iT (by decide) (S_nameFits (i := 0) hs hz P.hf P.mc hT (by omega) (by omega) (by omega) (fun _ => iT (by decide) ?_) (fun q => absurd fit q))
          have e0 : (0 &&& (-2147483648 : Int32)) = 0 := by decide
          by_cases w : 0 ≤ v3
          · have nw : ¬ v3 < 0 := Int32.not_lt.mpr w
            exact iT (by rw [← e0]; exact (dirS v3 0).mpr ⟨fun q => absurd q nw, fun q => absurd q (by decide)⟩) (hK 0 (fun _ => rfl) (fun q => absurd w q))
          · have nw : v3 < 0 := Int32.not_le.mp w
            refine iF (fun q => ?_) (hK 1 (fun q => absurd q w) (fun _ => rfl))
            rw [← e0] at q
            exact absurd (((dirS v3 0).mp q).mp nw) (by decide))⟩)
        have mfit : ∀ K : GS → Prop, ((if ¬ (v3 &&& (536870400 : Int32)) = 0 then (w_M_create_113 t (y 1 0) (fun X => K X) (nI k) (nI (s j)) v3 (nI o) m) else ((if ¬ (nI o &&& (-84 : Int32)) = 0 then (w_M_create_113 t (y 1 0) (fun X => K X) (nI k) (nI (s j)) v3 (nI o) m) else ((if nI o = 0 then (w_M_create_123 t (y 1 0) (fun X => K X) (nI k) (nI (s j)) v3 (nI o) m) else ((if 0 ≤ v3 then (w_M_create_123 t (y 1 0) (fun X => K X) (nI k) (nI (s j)) v3 (nI o) m) else (w_M_create_113 t (y 1 0) (fun X => K X) (nI k) (nI (s j)) v3 (nI o) m))))))))) → w_M_create t m (y 1 0) (nI k) (nI (s j)) (fun X => K X) := fun K hK => mst K (iT n90 (M_isDir hs hm x.1 (by
          rw [f3, if_pos hdir]
          exact iT (by decide) (M_fits (q := 11) hs hm P.hf P.mm (by omega) (fun _ => iT (by decide) hK) (fun q => absurd fit q)))))
        have m113 : ∀ K : GS → Prop, K (sl m 98 (y 1 0) (lN (er 19))) → w_M_create_113 t (y 1 0) (fun X => K X) (nI k) (nI (s j)) v3 (nI o) m := fun K hK => ⟨hs.k 1 0, e163 K 19 _ (by decide +kernel) (by decide) hK⟩
        by_cases a1 : (v3 &&& (536870400 : Int32)) = 0
        · by_cases a2 : (nI o &&& (-84 : Int32)) = 0
          · by_cases a3 : nI o = 0 ∨ 0 ≤ v3
            · have c125 : ∀ K : GS → Option Nat → Prop, (∀ l5 : Int32, (0 ≤ v3 → l5 = 0) → (¬ 0 ≤ v3 → l5 = 1) → w_S_create_125 t (y 0 0) (fun X x => K X x) (y 14 k) (some (y 5 j)) v3 (nI o) l5 G) → w_S_create t G (y 0 0) (y 14 k) (fun X x => K X x) := fun K hK => c93 K (fun l5 q1 q2 => iF (fun w => w a1) (iF (fun w => w a2) (by
                by_cases w : nI o = 0
                · exact iT w (hK l5 q1 q2)
                · have w2 : 0 ≤ v3 := by rcases a3 with a | a; exact absurd a w; exact a
                  exact iF w (iT (q1 w2) (hK l5 q1 q2)))))
              have m123 : ∀ K : GS → Prop, w_M_create_123 t (y 1 0) (fun X => K X) (nI k) (nI (s j)) v3 (nI o) m → w_M_create t m (y 1 0) (nI k) (nI (s j)) (fun X => K X) := fun K hK => mfit K (iF (fun w => w a1) (iF (fun w => w a2) (by
                by_cases w : nI o = 0
                · exact iT w hK
                · have w2 : 0 ≤ v3 := by rcases a3 with a | a; exact absurd a w; exact a
                  exact iF w (iT w2 hK))))
              have mk : mOk (ai m (y 30 70) (83 * s j + 3)) 2 u gg oo ↔ mOk (gi G 2 (y 5 j)) 2 u gg oo := by rw [f3]
              by_cases ok : mOk (gi G 2 (y 5 j)) 2 u gg oo
              · have fitl : nm f 11 2 ≤ 8 := fit.2.1
                have c22 : ∀ K : GS → Option Nat → Prop, (∀ l5 : Int32, (0 ≤ v3 → l5 = 0) → (¬ 0 ≤ v3 → l5 = 1) → w_Tree_entry t G (y 2 0) (y 5 j) (y 8 0) (0 : Int32) (fun x5 => (if x5 = none then (w_Tree_hasRoomForEntry t G (y 2 0) (y 5 j) (fun v6 => (if ¬ v6 = 0 then (∃ a7, (gr G 65 (y 0 0)) = some a7 ∧ tk t a7 = 4 ∧ w_Change_begin t G a7 (some (tad t 3)) (y 5 j) (gr G 50 (y 14 k)) (gi G 69 (y 0 0)) (fun G8 => (if l5 = 0 then (w_S_create_214 t (y 0 0) (fun X x => K X x) (y 14 k) (some (y 5 j)) (nI o) (gr G8 65 (y 0 0)) v3 (-439 : Int32) G8) else (w_S_create_214 t (y 0 0) (fun X x => K X x) (y 14 k) (some (y 5 j)) (nI o) (gr G8 65 (y 0 0)) v3 (-512 : Int32) G8)))) else (K G (some (tks t 23)))))) else (K G (some (tks t 22)))))) → w_S_create t G (y 0 0) (y 14 k) (fun X x => K X x) := fun K hK => c125 K (fun l5 q1 q2 => ⟨hs.k 14 k hvk, y 5 j, rfl, hs.k 5 j hvj, by
                  rw [g50]
                  refine S_lets hs (by omega) hu hgg hoo egg eoo (fun _ => iT (by decide) ⟨hs.k 0 0, y 2 0, hz.1.1, hs.k 2 0, y 8 0, hz.1.2.2.2.1, ?_⟩) (fun q => absurd ok q)
                  have := hK l5 q1 q2
                  rw [g50] at this
                  exact this⟩)
                have m22 : ∀ K : GS → Prop, w_M_named t m (y 1 0) (nI (s j)) (11 : Int32) (fun v2 => (if v2 < 0 then (w_M_create_163 t (y 1 0) (fun X => K X) (nI k) (nI (s j)) v3 (nI o) m) else (∀ G3, G3 = sl m 98 (y 1 0) (500152498277 : Int64) → w_M_create_163 t (y 1 0) (fun X => K X) (nI k) (nI (s j)) v3 (nI o) G3))) → w_M_create t m (y 1 0) (nI k) (nI (s j)) (fun X => K X) := fun K hK => m123 K ⟨hs.k 1 0, by
                  rw [h99]
                  exact M_may hs hm x.1 hu hgg hoo fgg foo (fun _ => iT (by decide) hK) (fun q => absurd (mk.mpr ok) q)⟩
                rcases ent_or y G f 11 j n r with ⟨i, hi, he, hle⟩ | hno
                · exact HR.up (HR.er0 P (j := 22) (by omega) (by omega) (fun K hK => c22 K (fun l5 _ _ => S_entryY (p := 11) (c := 1) (x := 0) hTr hs hz P.hf P.mc hT (by omega) (by omega) (show 11 + 2 + nm f 11 2 ≤ z by omega) hi he hle (iF (by simp) hK))) (fun K hK => m22 K (M_namedY (q := 11) hTr hnp hs hm P.hf P.mm (by omega) hj hi he (iF (nI_pos (by have := (hTr.nd (hTr.in hi)).1; omega)) (e163 K 22 _ (by decide +kernel) (by decide) hK))))) (by omega)
                · obtain ⟨l5, q1, q2⟩ : ∃ l5 : Int32, (0 ≤ v3 → l5 = 0) ∧ (¬ 0 ≤ v3 → l5 = 1) := by
                    by_cases w : 0 ≤ v3
                    · exact ⟨0, fun _ => rfl, fun n => absurd w n⟩
                    · exact ⟨1, fun n => absurd n w, fun _ => rfl⟩
                  refine HR.mono (h_created Q hb1 hT (by omega) fitl hdir hno ho (v3 := v3) (l5 := l5) (fun w => by rcases a3 with a | a; exact absurd a w; exact a) q1 q2) (fun K hK => c22 K (fun l5' q1' q2' => S_entryN (p := 11) (c := 1) (x := 0) hTr hs hz P.hf P.mc hT (by omega) (by omega) (show 11 + 2 + nm f 11 2 ≤ z by omega) hno (iT rfl ?_))) (fun K hK => m22 K (M_namedN (q := 11) hTr hnp hs hm P.hf P.mm (by omega) hj hno (iT (by decide) hK)))
                  have : l5' = l5 := by
                    by_cases w : 0 ≤ v3
                    · rw [q1' w, q1 w]
                    · rw [q2' w, q2 w]
                  rw [this]
                  exact hK
              · exact HR.up (HR.er0 P (j := 15) (by omega) (by omega) (fun K hK => c125 K (fun l5 _ _ => ⟨hs.k 14 k hvk, y 5 j, rfl, hs.k 5 j hvj, by
                  rw [g50]
                  exact S_lets hs (by omega) hu hgg hoo egg eoo (fun q => absurd q ok) (fun _ => iF (by simp) hK)⟩)) (fun K hK => m123 K ⟨hs.k 1 0, by
                  rw [h99]
                  exact M_may hs hm x.1 hu hgg hoo fgg foo (fun q => absurd (mk.mp q) ok) (fun _ => iF (by simp) (e163 K 15 _ (by decide +kernel) (by decide) hK))⟩)) (by omega)
            · have b1 : ¬ nI o = 0 := fun w => a3 (Or.inl w)
              have b2 : ¬ 0 ≤ v3 := fun w => a3 (Or.inr w)
              exact HR.up (HR.er0 P (j := 19) (by omega) (by omega) (fun K hK => c93 K (fun l5 _ q2 => iF (fun w => w a1) (iF (fun w => w a2) (iF b1 (iF (by rw [q2 b2]; decide) hK))))) (fun K hK => mfit K (iF (fun w => w a1) (iF (fun w => w a2) (iF b1 (iF b2 (m113 K hK))))))) (by omega)
          · exact HR.up (HR.er0 P (j := 19) (by omega) (by omega) (fun K hK => c93 K (fun l5 _ _ => iF (fun w => w a1) (iT a2 hK))) (fun K hK => mfit K (iF (fun w => w a1) (iT a2 (m113 K hK))))) (by omega)
        · exact HR.up (HR.er0 P (j := 19) (by omega) (by omega) (fun K hK => c93 K (fun l5 _ _ => iT a1 hK)) (fun K hK => mfit K (iT a1 (m113 K hK)))) (by omega)
      · exact HR.up (HR.er0 P (j := 21) (by omega) (by omega) (fun K hK => cst K (iT op51 ⟨y 5 j, g48, hs.k 5 j hvj, S_isDirectory hs (by omega) (by rw [if_pos hdir]; exact iT (by decide) (S_nameFits (i := 0) hs hz P.hf P.mc hT (by omega) (by omega) (by omega) (fun q => absurd q fit) (fun _ => iF (by simp) hK)))⟩)) (fun K hK => mst K (iT n90 (M_isDir hs hm x.1 (by rw [f3, if_pos hdir]; exact iT (by decide) (M_fits (q := 11) hs hm P.hf P.mm (by omega) (fun q => absurd q fit) (fun _ => iF (by simp) (e163 K 21 _ (by decide +kernel) (by decide) hK)))))))) (by omega)
    · exact HR.up (HR.er0 P (j := 14) (by omega) (by omega) (fun K hK => cst K (iT op51 ⟨y 5 j, g48, hs.k 5 j hvj, S_isDirectory hs (by omega) (by rw [if_neg hdir]; exact iF (by simp) hK)⟩)) (fun K hK => mst K (iT n90 (M_isDir hs hm x.1 (by rw [f3, if_neg hdir]; exact iF (by simp) (e163 K 14 _ (by decide +kernel) (by decide) hK)))))) (by omega)
  · have n90 : ¬ ai m (y 30 90) k < 0 := by
      rw [f90]
      rcases f51 with w | ⟨o', h1, h2, -⟩
      · exact absurd w op51
      · rw [h2]; exact nI_pos (by omega)
    exact HR.up (HR.er0 P (j := 13) (by omega) (by omega) (fun K hK => cst K (iF op51 hK)) (fun K hK => mst K (iF n90 (e163 K 13 _ (by decide +kernel) (by decide) hK)))) (by omega)
end CRF
