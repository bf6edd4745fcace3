/-! stat, clunk, remove (by hand) -/
section REMV
variable {t : TY} {y : LYT} {b b' c z k : Nat} {f : Nat → Nat} {G m G1 m1 G2 G7 m5 : GS} {n np n' nq zz : Nat} {r s r' s' : Nat → Nat} {F F1 : (GS → Option Nat → Prop) → Prop} {H H1 : (GS → Prop) → Prop}
/-- a change was cut: both are down -/
theorem HR.cdn (D : Dn t y b' zz G1 G7 m5) (e1 : eS y G G1) {X : GS} {j : Nat} (hj : j < 29) (hs : SH t y) (x : xC y (gdN y G7 zz) X) (hF : ∀ K : GS → Option Nat → Prop, (∀ K' : GS → Prop, K' (gdN y G7 zz) → w_S_carryOut t G7 (y 0 0) (nI zz) K') → K X (some (tks t j)) → F K) (hH : ∀ K : GS → Prop, (∀ K' : GS → Int32 → Prop, K' (cmN y m5 zz) 0 → w_M_commit t m5 (y 1 0) (nI zz) K') → K (cmN y m5 zz) → H K) : HR t y b' c G m F H := by
  obtain ⟨d1, d2, d3, d4, d5, -⟩ := D
  exact HR.down hj (d1.x x xM.rf) ((e1.tr d2).tr (x.eS hs)) ((x.1 19 _ (by omega)).trans d3) (fun K hK => hF K d4 hK) (fun K hK => hH K d5 hK)
/-- a change was admitted -/
theorem HR.cup (P : Pre t y b c z f G m) (U : Up t y b' zz G1 G7 m1 m5 G2 n' r' s' np nq) (e1 : eS y G G1) (k1 : kC y G G1) (q1 : kM y m m1) (hb' : b' < 2 ^ 20) (h : Pre t y b' c z f G2 (si (cmY y m5 zz) 74 (y 1 0) (nI (nq - 1))) → HR t y b' c G2 (si (cmY y m5 zz) 74 (y 1 0) (nI (nq - 1))) F1 H1) (hF : ∀ K : GS → Option Nat → Prop, (∀ K' : GS → Prop, K' G2 → w_S_carryOut t G7 (y 0 0) (nI zz) K') → F1 K → F K) (hH : ∀ K : GS → Prop, (∀ K' : GS → Int32 → Prop, K' (cmY y m5 zz) 1 → w_M_commit t m5 (y 1 0) (nI zz) K') → H1 K → H K) : HR t y b' c G m F H := by
  obtain ⟨u1, u2, u3, u4, u5, u6, u7, u8, -⟩ := U
  have P2 := P.to u1.of u2 (k1.tr u5) (q1.tr u6) hb'
  exact (h P2).step P.hc (e1.tr u4) (k1.tr u5) (q1.tr u6) (fun K hK => hF K u7 hK) (fun K hK => hH K u8 hK)
theorem h_clunk (P : Pre t y b c z f G m) (hk : k < 12) (hus : gi G 46 (y 14 k) = 1) : HR t y b c G m (fun K => w_S_clunk t G (y 0 0) (y 14 k) (fun X x => K X x)) (fun K => w_M_release t m (y 1 0) (nI k) (fun X => K X)) := by
  obtain ⟨G', m', h', x, kk, rS, rM⟩ := rel1 P.i (by have := P.hb; omega) P.r hk hus
  have cg : ∀ K : GS → Option Nat → Prop, K G' (some (tks t 2)) → w_S_clunk t G (y 0 0) (y 14 k) (fun X x => K X x) := fun K hK => ⟨P.s.k 0 0, rS (fun X => K X (some (tks t 2))) hK⟩
  rcases h'.ud with ⟨u1, -⟩ | ⟨u1, -⟩
  · obtain ⟨k1, k2⟩ := kk u1
    exact (HR.ok (P.to h' u1 k1 k2 P.hb) (F := fun K => K G' (some (tks t 2))) (H := fun K => K m') (fun K hK => hK) (fun K hK => hK)).step P.hc x k1 k2 cg (fun K hK => rM K hK)
  · exact HR.down (j := 2) (by omega) h' x u1 cg (fun K hK => rM K hK)
/-- what a node's mode and home let a user do to it -/
theorem S_letsUnlink (hs : SH t y) {j u : Nat} (hj : j < 23) (hN : gr G 7 (y 5 j) = none) {K : Int32 → Prop} (k : K 0) : w_Node_letsUnlink t G (y 5 j) (some (tad t u)) K := ⟨hs.k 5 j (by simp [yV, hj]), iT hN k⟩
theorem S_letsUnlinkY (hs : SH t y) {j d u g o : Nat} (hj : j < 23) (hd : d < 23) (e7 : gr G 7 (y 5 j) = some (y 5 d)) (hu : u < 3) (hg : g < 3) (ho : o < 3) (eg : gr G 5 (y 5 d) = some (tad t g)) (eo : gr G 4 (y 5 d) = some (tad t o)) {K : Int32 → Prop} (k1 : mOk (gi G 2 (y 5 d)) 2 u g o → K 1) (k0 : ¬ mOk (gi G 2 (y 5 d)) 2 u g o → K 0) : w_Node_letsUnlink t G (y 5 j) (some (tad t u)) K := ⟨hs.k 5 j (by simp [yV, hj]), iF (by rw [e7]; simp) ⟨y 5 d, e7, hs.k 5 d (by simp [yV, hd]), S_lets hs hd hu hg ho eg eo (fun w => iF (by decide) (k1 w)) (fun w => iT rfl (k0 w))⟩⟩
theorem h_tell (P : Pre t y b c z f G m) (hZ : InvZ t y b G m n r s np) {j : Nat} (hj : lvN n r j) : HR t y b c G m (fun K => w_S_tell t G (y 0 0) (y 5 j) (fun X x => K X x)) (fun K => w_M_show t m (y 1 0) (nI (s j)) (fun X => K X)) := by
  have hs := P.s
  have hTr := hZ.2.2.2.2.2.2.1
  have x := hTr.nd hj
  have hj20 := hTr.le hj
  obtain ⟨l, u0, u1, u2, hS⟩ := x.2.2.st
  obtain ⟨l8, b0, b1, b2, c1, c2, c3, c4, c5, c6, c7, c8, c9⟩ := id hS
  obtain ⟨z1, z2⟩ := stz_le l8 b0 b1 b2
  refine HR.pw P (n := 2 + stz l u0 u1 u2) (u := fun X K => w_Answer_put t X (y 9 0) (nI (stz l u0 u1 u2)).toInt64 (2 : Int32) (fun X' => ∃ a4, gr X' 67 (y 0 0) = some a4 ∧ tk t a4 = 6 ∧ w_Answer_putStat t X' a4 (y 5 j) K)) (v := fun X K => w_M_put t X (y 1 0) (nI (stz l u0 u1 u2)).toInt64 (2 : Int32) (fun X' => w_M_stat t X' (y 1 0) (nI (s j)) K)) (Pw.seq (f1 := fun X K => w_Answer_put t X (y 9 0) (nI (stz l u0 u1 u2)).toInt64 (2 : Int32) K) (g1 := fun X K => w_M_put t X (y 1 0) (nI (stz l u0 u1 u2)).toInt64 (2 : Int32) K) (Pw.put (n := 2) hs P.g P.hm _ (by omega) (fun _ _ _ q => q) (fun _ _ _ q => q)) (Pw.a9 (t := t) (F := fun X a K => w_Answer_putStat t X a (y 5 j) K) hs P.g (Pw.stat hs P.g P.hm (by omega) x.1 x.2.2 hS))) (by omega) (fun K hK => ⟨hs.k 0 0, hs.k 5 j (by simp [yV]; omega), S_statSize hs (by omega) b0 b1 b2 c1 c3 c4 c5 ⟨y 9 0, P.g.1.2.2.2.2.1, hs.k 9 0, hK⟩⟩) (fun K hK => ⟨hs.k 1 0, M_statSize hs P.hm x.1 b0 b1 b2 c2 c6 c7 c8 hK⟩)
theorem h_remove (P : Pre t y b c z f G m) (hZ : InvZ t y b G m n r s np) (hk : k < 12) (hus : gi G 46 (y 14 k) = 1) {v4 : Int32} (hv4 : ∀ j u, j ≤ 20 → u < 3 → gr G 50 (y 14 k) = some (tad t u) → gr G 48 (y 14 k) = some (y 5 j) → (gi G 0 (y 5 j) = gi G 49 (y 14 k) → v4 = nI (s j)) ∧ (¬ gi G 0 (y 5 j) = gi G 49 (y 14 k) → v4 = -1)) : HR t y b c G m (fun K => w_S_remove t G (y 0 0) (y 14 k) (fun X x => K X x)) (fun K => w_M_remove t m (y 1 0) (nI k) v4 (fun X => K X)) := by
  have hs := P.s
  have hI := hZ.unuse hk
  have hTr := hZ.2.2.2.2.2.2.1
  have hnp := hZ.np31 P.hb
  have hz128 := P.hf.2.1
  obtain ⟨v, p, j, u, a1, a2, a3, a4, a5, a6, a7, a8, a9, a10, a11, a12, a13, -⟩ := hZ.2.2.2.2.2.2.2.1 k hk hus
  obtain ⟨hvY, hvN⟩ := hv4 j u a5 a11 a12 a4
  have hvk : yV 14 k = true := by simp [yV, hk]
  have hvj : yV 5 j = true := by simp [yV]; omega
  have cl : (nI k).toNatClampNeg = k := nI_clamp (by omega)
  obtain ⟨G1, eG1⟩ : ∃ X, X = si G 46 (y 14 k) 0 := ⟨_, rfl⟩
  obtain ⟨m2, em2⟩ : ∃ X, X = ais m (y 30 86) k 0 := ⟨_, rfl⟩
  rw [← eG1, ← em2] at hI
  have fc : fC y k G G1 := by rw [eG1]; exact fC.rf.si (f := 46)
  have fm : fM y k m m2 := by rw [em2]; exact fM.rf.ais (f := 86)
  have g1 : ∀ f a, f ≠ 46 → gi G1 f a = gi G f a := fun f a q => by rw [eG1]; exact gi_ne q
  have r1 : ∀ f a, gr G1 f a = gr G f a := fun f a => by rw [eG1]; rfl
  have hz1 := hI.2.1
  have hm2 := hI.2.2.1
  have run1 : gi G1 19 (y 3 0) = 1 := (g1 19 _ (by omega)).trans P.r
  have hT := hI.2.2.2.2.2.2.1
  have P1 : Pre t y b c z f G1 m2 := P.to hI.of run1 fc.kk (fm.kk hs) P.hb
  have e89 : ai m2 (y 30 89) k = nI u := by rw [em2, ai_nb (hs.ne (by omega))]; exact a13
  -- both behind the fid's end
  refine HR.step (G1 := G1) (m1 := m2) (F1 := fun K => w_Fid_isGone t G1 (y 14 k) (fun v2 => (if v2 = 0 then (∃ a3, (gr G1 48 (y 14 k)) = some a3 ∧ tk t a3 = 1 ∧ w_Node_letsUnlink t G1 a3 (gr G1 50 (y 14 k)) (fun v4 => (if ¬ v4 = 0 then ((if (gi G1 8 a3) ≤ 0 then (tk t (y 0 0) = 9 ∧ ∃ a5, (gr G1 65 (y 0 0)) = some a5 ∧ tk t a5 = 4 ∧ w_Change_begin t G1 a5 (some (tad t 5)) a3 (gr G1 50 (y 14 k)) (gi G1 69 (y 0 0)) (fun G6 => ∃ a7, (gr G6 66 (y 0 0)) = some a7 ∧ tk t a7 = 5 ∧ w_S_carryOut t G6 (y 0 0) (gi G6 37 a7) (fun G8 => K G8 (some (tks t 2))))) else (K G1 (some (tks t 18))))) else (K G1 (some (tks t 15)))))) else (K G1 (some (tks t 12)))))) (H1 := fun K => (if 0 ≤ v4 then (∃ a3, (gr m2 89 (y 1 0)) = some a3 ∧ tk t a3 = 50 ∧ vp_in (nI k) (tn t a3) ∧ w_M_mayIn t m2 (y 1 0) v4 (ai m2 a3 (nI k).toNatClampNeg) (fun v4' => (if ¬ v4' = 0 then (w_M_isDirectory t m2 (y 1 0) v4 (fun v5 => (if v5 = 0 then (w_M_remove_68 t (y 1 0) (fun X => K X) (nI k) v4 m2) else (w_M_entries t m2 (y 1 0) v4 (fun v6 => (if v6 ≤ 0 then (w_M_remove_68 t (y 1 0) (fun X => K X) (nI k) v4 m2) else (∀ G7, G7 = sl m2 98 (y 1 0) (521644567909 : Int64) → w_M_remove_68 t (y 1 0) (fun X => K X) (nI k) v4 G7))))))) else (∀ G8, G8 = sl m2 98 (y 1 0) (1836213616 : Int64) → w_M_remove_68 t (y 1 0) (fun X => K X) (nI k) v4 G8)))) else (∀ G9, G9 = sl m2 98 (y 1 0) (1701736295 : Int64) → w_M_remove_68 t (y 1 0) (fun X => K X) (nI k) v4 G9))) ?_ P.hc fc.e fc.kk (fm.kk hs) (fun K hK => ⟨hs.k 14 k hvk, fun X eX => by rw [← eG1] at eX; subst eX; exact hK⟩) (fun K hK => ⟨hs.k 1 0, y 30 86, P.hm.m 86, hs.k 30 86, by rw [hs.n 30 86]; exact vp_lt (N := 12) hk, fun X eX => by rw [cl, nb0, ← em2] at eX; subst eX; exact hK⟩)
  have e68 : ∀ (K : GS → Prop) (e : Nat) (w : Int64), lN (er e) = w → ¬ w = 0 → K (sl m2 98 (y 1 0) (lN (er e))) → ∀ X, X = sl m2 98 (y 1 0) w → w_M_remove_68 t (y 1 0) (fun X => K X) (nI k) v4 X := fun K e w ew hw hK X eX => by
    rw [← ew] at eX
    subst eX
    exact ⟨hs.k 1 0, iF (by rw [gl_at, ew]; exact hw) hK⟩
  by_cases hgone : gi G 0 (y 5 j) = nI p
  · have hj := a9 hgone
    have ev4 := hvY (by rw [a6]; exact hgone)
    have x := hT.nd hj
    have cng : ∀ C : Int32 → Prop, C 0 → w_Fid_isGone t G1 (y 14 k) C := fun C hC => ⟨hs.k 14 k hvk, y 5 j, (r1 _ _).trans a4, hs.k 5 j hvj, iT (by rw [g1 0 _ (by omega), g1 49 _ (by omega), a6]; exact hgone) hC⟩
    subst ev4
    have ev0 : (0 : Int32) ≤ nI (s j) := nI_pos' (by omega)
    have mpre : ∀ K : GS → Prop, w_M_mayIn t m2 (y 1 0) (nI (s j)) (nI u) (fun v4' => (if ¬ v4' = 0 then (w_M_isDirectory t m2 (y 1 0) (nI (s j)) (fun v5 => (if v5 = 0 then (w_M_remove_68 t (y 1 0) (fun X => K X) (nI k) (nI (s j)) m2) else (w_M_entries t m2 (y 1 0) (nI (s j)) (fun v6 => (if v6 ≤ 0 then (w_M_remove_68 t (y 1 0) (fun X => K X) (nI k) (nI (s j)) m2) else (∀ G7, G7 = sl m2 98 (y 1 0) (521644567909 : Int64) → w_M_remove_68 t (y 1 0) (fun X => K X) (nI k) (nI (s j)) G7))))))) else (∀ G8, G8 = sl m2 98 (y 1 0) (1836213616 : Int64) → w_M_remove_68 t (y 1 0) (fun X => K X) (nI k) (nI (s j)) G8))) → (if (0 : Int32) ≤ nI (s j) then (∃ a3, (gr m2 89 (y 1 0)) = some a3 ∧ tk t a3 = 50 ∧ vp_in (nI k) (tn t a3) ∧ w_M_mayIn t m2 (y 1 0) (nI (s j)) (ai m2 a3 (nI k).toNatClampNeg) (fun v4' => (if ¬ v4' = 0 then (w_M_isDirectory t m2 (y 1 0) (nI (s j)) (fun v5 => (if v5 = 0 then (w_M_remove_68 t (y 1 0) (fun X => K X) (nI k) (nI (s j)) m2) else (w_M_entries t m2 (y 1 0) (nI (s j)) (fun v6 => (if v6 ≤ 0 then (w_M_remove_68 t (y 1 0) (fun X => K X) (nI k) (nI (s j)) m2) else (∀ G7, G7 = sl m2 98 (y 1 0) (521644567909 : Int64) → w_M_remove_68 t (y 1 0) (fun X => K X) (nI k) (nI (s j)) G7))))))) else (∀ G8, G8 = sl m2 98 (y 1 0) (1836213616 : Int64) → w_M_remove_68 t (y 1 0) (fun X => K X) (nI k) (nI (s j)) G8)))) else (∀ G9, G9 = sl m2 98 (y 1 0) (1701736295 : Int64) → w_M_remove_68 t (y 1 0) (fun X => K X) (nI k) (nI (s j)) G9)) := fun K hK => iT ev0 ⟨y 30 89, hm2.m 89, hs.k 30 89, by rw [hs.n 30 89]; exact vp_lt (N := 12) hk, by rw [cl, e89]; exact hK⟩
    have c50 : gr G1 50 (y 14 k) = some (tad t u) := (r1 _ _).trans a12
    have c48 : gr G1 48 (y 14 k) = some (y 5 j) := (r1 _ _).trans a4
    by_cases h0 : j = 0
    · subst h0
      have e7 : gr G1 7 (y 5 0) = none := (r1 _ _).trans hTr.2.2.2.2.2.2.2.2.2.2.2.2.1.1
      have s0 : s 0 = 0 := hT.2.2.2.2.2.2.2.2.2.1
      refine HR.er0 P1 (j := 15) (by omega) (by omega) (fun K hK => cng _ (iT rfl ⟨y 5 0, c48, hs.k 5 0, ?_⟩)) (fun K hK => mpre K (iT (by rw [s0]; rfl) (iF (by simp) (e68 K 15 _ (by decide +kernel) (by decide) hK))))
      rw [c50]
      exact S_letsUnlink hs (by omega) e7 (iF (by simp) hK)
    obtain ⟨d, hd, e7, e8, hdd⟩ := hT.home hj h0
    have hd20 := hT.le hd
    obtain ⟨gg, oo, hgg, hoo, egg, eoo, -, -, -⟩ := (hT.nd hd).2.2.may
    by_cases hok : mOk (gi G1 2 (y 5 d)) 2 u gg oo
    · have h16 := hT.2.2.2.2.2.2.2.2.2.2.2.2.2.2.1 j hj
      have hcl : cnt (fun i => decide (gr G1 7 (y 5 (r i)) = some (y 5 j))) n ≤ 20 := Nat.le_trans cnt_le hT.1
      have ment : ∀ K' : Int32 → Prop, K' (nI (cnt (fun i => decide (gr G1 7 (y 5 (r i)) = some (y 5 j))) n)) → w_M_entries t m2 (y 1 0) (nI (s j)) K' := fun K' hK => M_entries hs hm2 x.1 (by rw [hT.ents hnp hj hs]; exact hK)
      have cpre : ∀ (K : GS → Option Nat → Prop) (B : Prop), B → (gi G1 8 (y 5 j) ≤ 0 → tk t (y 0 0) = 9 ∧ ∃ a5, (gr G1 65 (y 0 0)) = some a5 ∧ tk t a5 = 4 ∧ w_Change_begin t G1 a5 (some (tad t 5)) (y 5 j) (some (tad t u)) (gi G1 69 (y 0 0)) (fun G6 => ∃ a7, (gr G6 66 (y 0 0)) = some a7 ∧ tk t a7 = 5 ∧ w_S_carryOut t G6 (y 0 0) (gi G6 37 a7) (fun G8 => K G8 (some (tks t 2))))) → (¬ gi G1 8 (y 5 j) ≤ 0 → K G1 (some (tks t 18))) → w_Fid_isGone t G1 (y 14 k) (fun v2 => (if v2 = 0 then (∃ a3, (gr G1 48 (y 14 k)) = some a3 ∧ tk t a3 = 1 ∧ w_Node_letsUnlink t G1 a3 (gr G1 50 (y 14 k)) (fun v4 => (if ¬ v4 = 0 then ((if (gi G1 8 a3) ≤ 0 then (tk t (y 0 0) = 9 ∧ ∃ a5, (gr G1 65 (y 0 0)) = some a5 ∧ tk t a5 = 4 ∧ w_Change_begin t G1 a5 (some (tad t 5)) a3 (gr G1 50 (y 14 k)) (gi G1 69 (y 0 0)) (fun G6 => ∃ a7, (gr G6 66 (y 0 0)) = some a7 ∧ tk t a7 = 5 ∧ w_S_carryOut t G6 (y 0 0) (gi G6 37 a7) (fun G8 => K G8 (some (tks t 2))))) else (K G1 (some (tks t 18))))) else (K G1 (some (tks t 15)))))) else (K G1 (some (tks t 12))))) := fun K B _ hA hB => cng _ (iT rfl ⟨y 5 j, c48, hs.k 5 j hvj, by
        rw [c50]
        exact S_letsUnlinkY hs (by omega) (by omega) e7 a11 hgg hoo egg eoo (fun _ => iT (by decide) (iS ⟨hA, hB⟩)) (fun n => absurd hok n)⟩)
      by_cases hent : gi G1 8 (y 5 j) ≤ 0
      · have hc0 : cnt (fun i => decide (gr G1 7 (y 5 (r i)) = some (y 5 j))) n = 0 := by
          rw [h16] at hent
          exact Classical.byContradiction fun q => nI_nle (by omega) (by omega) hent
        obtain ⟨i0, hi0, ei0⟩ : ∃ i0, i0 < n ∧ r i0 = j := by
          rcases hj with z | z
          · exact absurd z h0
          · exact z
        obtain ⟨G7, eG7⟩ : ∃ z, z = bgC y G1 (tad t 5) (y 5 j) (some (tad t u)) (gi G1 69 (y 0 0)) := ⟨_, rfl⟩
        obtain ⟨m3, em3⟩ : ∃ z, z = aw m2 (y 30 71) (mix (ai m2 (y 30 70)) (ai m2 (y 30 71)) 1743) := ⟨_, rfl⟩
        obtain ⟨m5, em5⟩ : ∃ z, z = chM y (ais m3 (y 30 70) (83 * s j + 0) 0) (s d) u := ⟨_, rfl⟩
        have cc : cC y G1 G7 := by rw [eG7]; exact cC.rf.bg
        have c3 : cM5 y m2 m3 := by rw [em3]; exact cM5.rf.aw (Or.inr rfl)
        have cm : cM5 y m2 m5 := by rw [em5]; exact c3.ais.ais.ais.ais
        have t3 : ai m3 (y 30 70) = ai m2 (y 30 70) := by rw [em3]; exact aw_ne (hs.ne (by omega))
        have hm3 := c3.fz hs hm2
        have tm : gi G1 69 (y 0 0) = gi m2 78 (y 1 0) := hI.2.2.2.1.2.2.1
        have P5 : ai m5 (y 30 70) = cG (cS (ai m2 (y 30 70)) (s j) 0 0) (s d) (gi G1 69 (y 0 0)) u := by
          rw [em5, chM_70, ais_cS, t3, tm, em3]; rfl
        have h71 : ∀ i, i < 1743 → ai m5 (y 30 71) i = ai m2 (y 30 70) i := fun i hi => by
          have : ai m5 (y 30 71) = mix (ai m2 (y 30 70)) (ai m2 (y 30 71)) 1743 := by rw [em5, chM_o (hs.ne (by omega)), ai_nb (hs.ne (by omega)), em3, aw_at]
          rw [this]; show (if i < 1743 then _ else _) = _; rw [if_pos hi]
        have hT7 : TrR t y G7 (ai m2 (y 30 70)) n r s np := hT.to (cc.agT hs)
        have hv7 := @bgC_v y G1 (tad t 5) (y 5 j) (some (tad t u)) (gi G1 69 (y 0 0))
        have hS : Stg t y G7 (ai m5 (y 30 70)) n r np np := by
          rw [P5]
          subst ei0
          refine stg_rm hT7 hnp hs hi0 hd a11 ((cc.2.1 7 _ (by omega)).trans e7) ?_ (by rw [eG7]; exact hv7.1) (by rw [eG7]; exact hv7.2.1) (by rw [eG7]; exact hv7.2.2) (by rw [eG7]; exact bgC_24)
          have : ∀ i, gr G7 7 (y 5 (r i)) = gr G1 7 (y 5 (r i)) := fun i => cc.2.1 7 _ (by omega)
          simp only [this]; exact hc0
        have e37 : gi G7 37 (y 8 0) = nI z := (cc.1 37 _ (by omega)).trans P1.mc.1
        have e95 : gi m5 95 (y 1 0) = nI z := (cm.1 _ _).trans P1.mm.1
        have cgo : ∀ K : GS → Option Nat → Prop, w_S_carryOut t G7 (y 0 0) (nI z) (fun G8 => K G8 (some (tks t 2))) → w_Fid_isGone t G1 (y 14 k) (fun v2 => (if v2 = 0 then (∃ a3, (gr G1 48 (y 14 k)) = some a3 ∧ tk t a3 = 1 ∧ w_Node_letsUnlink t G1 a3 (gr G1 50 (y 14 k)) (fun v4 => (if ¬ v4 = 0 then ((if (gi G1 8 a3) ≤ 0 then (tk t (y 0 0) = 9 ∧ ∃ a5, (gr G1 65 (y 0 0)) = some a5 ∧ tk t a5 = 4 ∧ w_Change_begin t G1 a5 (some (tad t 5)) a3 (gr G1 50 (y 14 k)) (gi G1 69 (y 0 0)) (fun G6 => ∃ a7, (gr G6 66 (y 0 0)) = some a7 ∧ tk t a7 = 5 ∧ w_S_carryOut t G6 (y 0 0) (gi G6 37 a7) (fun G8 => K G8 (some (tks t 2))))) else (K G1 (some (tks t 18))))) else (K G1 (some (tks t 15)))))) else (K G1 (some (tks t 12))))) := fun K hK => cpre K True trivial (fun _ => ⟨hs.k 0 0, y 4 0, hz1.1.2.2.1, hs.k 4 0, S_begin hs (by
          rw [← eG7]
          exact ⟨y 8 0, (cc.fz hs hz1).1.2.2.2.1, hs.k 8 0, by rw [e37]; exact hK⟩)⟩) (fun n => absurd hent n)
        have m68 : ∀ K : GS → Prop, w_M_commit t m5 (y 1 0) (nI z) (fun G4 _ => K G4) → w_M_remove_68 t (y 1 0) (fun X => K X) (nI k) (nI (s j)) m2 := fun K hK => by
          refine ⟨hs.k 1 0, iT P1.e (M_begin hs hm2 ?_)⟩
          rw [← em3]
          have e893 : ai m3 (y 30 89) k = nI u := by rw [em3, aw_ne (hs.ne (by omega))]; exact e89
          refine ⟨y 30 89, hm3.m 89, hs.k 30 89, by rw [hs.n 30 89]; exact vp_lt (N := 12) hk, ?_⟩
          rw [cl, e893]
          refine ⟨hs.k 1 0, M_at (c := 8) hs hm3 x.1 (by omega) ?_⟩
          have xd := hT.nd hd
          rw [t3, e8]
          refine M_find hs hm3 xd.1 (by rw [t3]; exact xd.2.2.1) (by rw [t3]; exact xd.2.2.2.1) (fun q hq z1 z2 => hT.uniq hnp hd hq (by rw [← t3]; exact z1) (by rw [← t3]; exact z2)) ?_
          refine M_set (c := 0) hs hm3 x.1 (by omega) ?_
          refine M_changes hs ?_ xd.1 ?_
          · exact hm3.to hs (sZ.of (fun _ _ => rfl) (fun _ => rfl))
          · rw [← em5]
            show w_M_commit t m5 (y 1 0) (gi m5 95 (y 1 0)) _
            rw [e95]
            exact hK
        have mgo : ∀ K : GS → Prop, w_M_commit t m5 (y 1 0) (nI z) (fun G4 _ => K G4) → _ := fun K hK => mpre K (hT.mayIn hnp hs hm2 a11 hj h0 hd e7 hgg hoo egg eoo (fun _ => iT (by decide) (M_isDir hs hm2 x.1 (by
          by_cases q : ai m2 (y 30 70) (83 * s j + 3) < 0
          · rw [if_pos q]; exact iF (by decide) (ment _ (iT (by rw [hc0]; decide) (m68 K hK)))
          · rw [if_neg q]; exact iT rfl (m68 K hK)))) (fun q => absurd hok q))
        rcases carryH hI run1 cc cm h71 hS (zz := z) (by omega) (Nat.le_refl _) hI.2.2.2.2.2.2.2.2.2.1 with D | ⟨G2, n', r', s', U, -⟩
        · exact HR.cdn D eS.rf (j := 2) (by omega) hs xC.rf (fun K run hK => cgo K (run _ hK)) (fun K run hK => mgo K (run _ hK))
        · have e74 : gi m5 74 (y 1 0) = nI (np - 1) := (cm.1 _ _).trans hI.2.2.2.2.2.2.2.2.1
          refine HR.cup P1 U eS.rf kC.rf kM.rf P.hb (F1 := fun K => K G2 (some (tks t 2))) (H1 := fun K => K (cmY y m5 z)) (fun P2 => ?_) (fun K run hK => cgo K (run _ hK)) (fun K run hK => mgo K (run _ hK))
          exact HR.ok P2 (fun K hK => hK) (fun K hK => by rw [U.same e74] at hK; exact hK)
      · have hdir : gi G1 2 (y 5 j) < 0 := Classical.byContradiction fun q => by
          rw [h16, hT.nokids hs hj q] at hent
          exact hent (by decide)
        have hcp : ¬ nI (cnt (fun i => decide (gr G1 7 (y 5 (r i)) = some (y 5 j))) n) ≤ 0 := by rw [← h16]; exact hent
        exact HR.er0 P1 (j := 18) (by omega) (by omega) (fun K hK => cpre K True trivial (fun n => absurd n hent) (fun _ => hK)) (fun K hK => mpre K (hT.mayIn hnp hs hm2 a11 hj h0 hd e7 hgg hoo egg eoo (fun _ => iT (by decide) (M_isDir hs hm2 x.1 (by
          rw [x.2.2.2.2.2.1, if_pos hdir]
          exact iF (by decide) (ment _ (iF hcp (e68 K 18 _ (by decide +kernel) (by decide) hK)))))) (fun q => absurd hok q)))
    · exact HR.er0 P1 (j := 15) (by omega) (by omega) (fun K hK => cng _ (iT rfl ⟨y 5 j, c48, hs.k 5 j hvj, by
        rw [c50]
        exact S_letsUnlinkY hs (by omega) (by omega) e7 a11 hgg hoo egg eoo (fun n => absurd n hok) (fun _ => iF (by simp) hK)⟩)) (fun K hK => mpre K (hT.mayIn hnp hs hm2 a11 hj h0 hd e7 hgg hoo egg eoo (fun q => absurd q hok) (fun _ => iF (by simp) (e68 K 15 _ (by decide +kernel) (by decide) hK))))
  · have ev4 := hvN (by rw [a6]; exact hgone)
    subst ev4
    exact HR.er0 P1 (j := 12) (by omega) (by omega) (fun K hK => ⟨hs.k 14 k hvk, y 5 j, (r1 _ _).trans a4, hs.k 5 j hvj, iF (by rw [g1 0 _ (by omega), g1 49 _ (by omega), a6]; exact hgone) (iF (by decide) hK)⟩) (fun K hK => iF (by decide) (e68 K 12 _ (by decide +kernel) (by decide) hK))
end REMV
