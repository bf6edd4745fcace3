/-! a message with a fid (by hand) -/
section HFD
variable {t : TY} {y : LYT} {b c z k j u : Nat} {f : Nat → Nat} {G m : GS} {n np : Nat} {r s : Nat → Nat}
/-- a fid in use, live or gone -/
theorem fid_full (h : InvZ t y b G m n r s np) (hb : np < 2 ^ 31) (hk : k < 12) (hus : gi G 46 (y 14 k) = 1) : ∃ j u, u < 3 ∧ gr G 50 (y 14 k) = some (tad t u) ∧ ai m (y 30 89) k = nI u ∧ gr G 48 (y 14 k) = some (y 5 j) ∧ j ≤ 20 ∧ ((lvN n r j ∧ gi G 0 (y 5 j) = gi G 49 (y 14 k) ∧ ai m (y 30 90) k = gi G 51 (y 14 k) ∧ (gi G 51 (y 14 k) = -1 ∨ ∃ o, o < 4 ∧ gi G 51 (y 14 k) = nI o ∧ (o ≠ 0 → ¬ gi G 2 (y 5 j) < 0)) ∧ (∀ K : Int32 → Prop, K 0 → w_Fid_isGone t G (y 14 k) K) ∧ (∀ K : Int32 → Prop, K (nI (s j)) → w_M_find t m (y 1 0) (ai m (y 30 88) k) K)) ∨ (¬ gi G 0 (y 5 j) = gi G 49 (y 14 k) ∧ (∀ K : Int32 → Prop, K 1 → w_Fid_isGone t G (y 14 k) K) ∧ ∀ K : Int32 → Prop, K (-1) → w_M_find t m (y 1 0) (ai m (y 30 88) k) K)) := by
  obtain ⟨hs, hz, hm, -, -, -, hT, hF, -⟩ := h
  obtain ⟨v, p, j, u, a1, a2, a3, a4, a5, a6, a7, a8, a9, a10, a11, a12, a13, a14, a15, -⟩ := hF k hk hus
  refine ⟨j, u, a11, a12, a13, a4, a5, ?_⟩
  have hvk : yV 14 k = true := by simp [yV, hk]
  have hvj : yV 5 j = true := by simp [yV]; omega
  rw [a7]
  by_cases g : gi G 0 (y 5 j) = nI p
  · have hj := a9 g
    have x := hT.nd hj
    refine Or.inl ⟨hj, by rw [a6]; exact g, a14, ?_, fun K hK => ⟨hs.k 14 k hvk, y 5 j, a4, hs.k 5 j hvj, iT (by rw [a6]; exact g) hK⟩, fun K hK => M_find hs hm x.1 x.2.2.1 (x.2.2.2.1.trans g) (fun q hq z1 z2 => hT.uniq hb hj hq z1 (z2.trans g.symm)) hK⟩
    rcases a15 with w | ⟨o, w1, w2, w3⟩
    · exact Or.inl w
    · exact Or.inr ⟨o, w1, w2, fun q => w3 q g⟩
  · refine Or.inr ⟨by rw [a6]; exact g, fun K hK => ⟨hs.k 14 k hvk, y 5 j, a4, hs.k 5 j hvj, iF (by rw [a6]; exact g) hK⟩, fun K hK => M_findNo hs hm (fun q hq z1 z2 => ?_) hK⟩
    obtain ⟨j', hj', rfl⟩ := hT.slot hq z1
    have := (hT.nd hj').2.2.2.1
    rw [z2] at this
    have e := a10 j' hj' this.symm
    subst e
    exact g this.symm
theorem Pre.t4 (P : Pre t y b c z f G m) {v : Nat} (hv : v < 256) : gi G 38 (y 8 0) = nI v ↔ f 4 = v := by
  rw [P.ty]
  exact nI_eq (by have := P.hf.2.2.1 4; omega) (by omega)
theorem InvZ.who (h : InvZ t y b G m n r s np) (hm : FZ y (si m 99 (y 1 0) (nI u))) : InvZ t y b G (si m 99 (y 1 0) (nI u)) n r s np := by
  obtain ⟨z1, z2, z3, z4, z5, z6, z7, z8, z9, z10, z11⟩ := h
  exact ⟨z1, z2, hm, ⟨z4.1, z4.2.1, z4.2.2.1, z4.2.2.2.1, z4.2.2.2.2.1, z4.2.2.2.2.2⟩, z5, z6, z7, z8, z9, z10, z11⟩
theorem h_fid (P : Pre t y b c z f G m) (hb1 : b + 1 < 2 ^ 20) (h4 : f 4 = 112 ∨ f 4 = 114 ∨ f 4 = 116 ∨ f 4 = 118 ∨ f 4 = 120 ∨ f 4 = 122 ∨ f 4 = 124 ∨ f 4 = 126) (hz11 : 11 ≤ z) : HR t y (b + 1) c G m (fun K => w_S_handleWithFid t G (y 0 0) (y 10 c) (fun X x => K X x)) (fun K => w_M_withFid t m (y 1 0) (nI c) (nI (f 4)) (fun X => K X)) := by
  have hs := P.s
  have hc := P.hc
  have hz := P.g
  have hm := P.hm
  have hvc : yV 10 c = true := by simp [yV, hc]
  obtain ⟨n, r, s, np, hZ⟩ := P.i.z
  have hnp := hZ.np31 P.hb
  have hTr := hZ.2.2.2.2.2.2.1
  have f256 := P.hf.2.2.1 4
  have q4 : ∀ v, v < 256 → (nI (f 4) = nI v ↔ f 4 = v) := fun v hv => nI_eq (by omega) (by omega)
  have q38 : ∀ v, v < 256 → (gi G 38 (y 8 0) = nI v ↔ f 4 = v) := fun v hv => P.t4 hv
  have n110 : ¬ nI (f 4) = nI 110 := fun w => by have := (q4 110 (by omega)).mp w; omega
  have tI : ∀ (v : Nat) {A B : Prop}, v < 256 → f 4 = v → A → (if gi G 38 (y 8 0) = nI v then A else B) := fun v A B hv e a => iT ((q38 v hv).mpr e) a
  have tN : ∀ (v : Nat) {A B : Prop}, v < 256 → f 4 ≠ v → B → (if gi G 38 (y 8 0) = nI v then A else B) := fun v A B hv e a => iF (fun w => e ((q38 v hv).mp w)) a
  have uI' : ∀ (v : Nat) {A B : Prop}, v < 256 → f 4 = v → B → (if ¬ gi G 38 (y 8 0) = nI v then A else B) := fun v A B hv e a => iF (fun w => w ((q38 v hv).mpr e)) a
  have uN : ∀ (v : Nat) {A B : Prop}, v < 256 → f 4 ≠ v → A → (if ¬ gi G 38 (y 8 0) = nI v then A else B) := fun v A B hv e a => iT (fun w => e ((q38 v hv).mp w)) a
  have mI : ∀ (v : Nat) {A B : Prop}, v < 256 → f 4 = v → B → (if ¬ nI (f 4) = nI v then A else B) := fun v A B hv e a => iF (fun w => w ((q4 v hv).mpr e)) a
  have mN : ∀ (v : Nat) {A B : Prop}, v < 256 → f 4 ≠ v → A → (if ¬ nI (f 4) = nI v then A else B) := fun v A B hv e a => iT (fun w => e ((q4 v hv).mp w)) a
  rcases fid_or G y c (lN (nm f 7 4)) with ⟨i, hi, hl, hu, hv⟩ | hno
  · obtain ⟨k, ek⟩ : ∃ k, k = 6 * c + i := ⟨_, rfl⟩
    have hk12 : k < 12 := by omega
    rw [← ek] at hu hv
    obtain ⟨q1, q2⟩ := P.i.fu (k := k) hk12
    have hus := (q2 hu).1
    have cfd : ∀ K : Option Nat → Prop, K (some (y 14 k)) → w_Link_find t G (y 10 c) (lN (nm f 7 4)) K := fun K hK => by
      rw [ek] at hu hv hK
      exact S_findY hs hz hc hi hl hu hv hK
    have mfd : ∀ K : Int32 → Prop, K (nI k) → w_M_fid t m (y 1 0) (nI c) (lN (nm f 7 4)) K := fun K hK => by
      rw [ek] at hK
      exact M_fidY hs hm hc hi (fun k hk => P.i.fn (by omega) (hl k hk)) (by rw [← ek, q1]; exact hu) (by rw [← ek, (q2 hu).2]; exact hv) hK
    obtain ⟨j, u, hu3, g50, a89, g48, hj20, hcase⟩ := fid_full hZ hnp hk12 hus
    have hv14 : yV 14 k = true := by simp [yV]; omega
    have cst : ∀ K : GS → Option Nat → Prop, ((if ¬ (gi G 38 (y 8 0)) = (120 : Int32) then ((if ¬ (gi G 38 (y 8 0)) = (122 : Int32) then (∃ a4, some (y 14 k) = some a4 ∧ tk t a4 = 7 ∧ w_Fid_isGone t G a4 (fun v5 => (if v5 = 0 then (∀ v6 : Int32, v6 = (gi G 38 (y 8 0)) → (if v6 = (112 : Int32) then (w_S_open t G (y 0 0) a4 (fun G7 x8 => K G7 x8)) else if v6 = (114 : Int32) then (w_S_create t G (y 0 0) a4 (fun G9 x10 => K G9 x10)) else if v6 = (116 : Int32) then (w_S_read t G (y 0 0) a4 (gi G 59 (y 10 c)) (fun G11 x12 => K G11 x12)) else if v6 = (118 : Int32) then (w_S_write t G (y 0 0) a4 (fun G13 x14 => K G13 x14)) else if v6 = (124 : Int32) then (∃ a15, (gr G 48 a4) = some a15 ∧ w_S_tell t G (y 0 0) a15 (fun G16 x17 => K G16 x17)) else (w_S_handleWithFid_177 t (y 0 0) (fun X x => K X x) (some (y 14 k)) G))) else (K G (some (tks t 12)))))) else (∃ a18, some (y 14 k) = some a18 ∧ w_S_remove t G (y 0 0) a18 (fun G19 x20 => K G19 x20)))) else (∃ a21, some (y 14 k) = some a21 ∧ w_S_clunk t G (y 0 0) a21 (fun G22 x23 => K G22 x23)))) → w_S_handleWithFid t G (y 0 0) (y 10 c) (fun X x => K X x) := fun K hK => ⟨hs.k 0 0, y 8 0, hz.1.2.2.2.1, hs.k 8 0, P.num (p := 7) (n := 4) (by omega) (by omega) ⟨hs.k 10 c hvc, cfd _ (iT (by simp) hK)⟩⟩
    have mst : ∀ (K : GS → Prop) (v4 : Int32), (∀ K' : Int32 → Prop, K' v4 → w_M_find t m (y 1 0) (ai m (y 30 88) k) K') → (if ¬ nI (f 4) = (120 : Int32) then ((if ¬ nI (f 4) = (122 : Int32) then ((if 0 ≤ v4 then ((if ¬ nI (f 4) = (112 : Int32) then ((if ¬ nI (f 4) = (114 : Int32) then ((if ¬ nI (f 4) = (116 : Int32) then ((if ¬ nI (f 4) = (118 : Int32) then ((if ¬ nI (f 4) = (124 : Int32) then (w_M_alter t (si m 99 (y 1 0) (nI u)) (y 1 0) v4 (fun G3 => K G3)) else (w_M_show t (si m 99 (y 1 0) (nI u)) (y 1 0) v4 (fun G4 => K G4)))) else (w_M_write t (si m 99 (y 1 0) (nI u)) (y 1 0) (nI k) v4 (fun G5 => K G5)))) else (w_M_read t (si m 99 (y 1 0) (nI u)) (y 1 0) (nI c) (nI k) v4 (fun G6 => K G6)))) else (w_M_create t (si m 99 (y 1 0) (nI u)) (y 1 0) (nI k) v4 (fun G7 => K G7)))) else (w_M_reach t (si m 99 (y 1 0) (nI u)) (y 1 0) (nI k) v4 (fun G8 => K G8)))) else (∀ G10, G10 = sl m 98 (y 1 0) (1701736295 : Int64) → K G10))) else (w_M_remove t m (y 1 0) (nI k) v4 (fun G11 => K G11)))) else (w_M_release t m (y 1 0) (nI k) (fun G12 => K G12))) → w_M_withFid t m (y 1 0) (nI c) (nI (f 4)) (fun X => K X) := fun K v4 hf hK => by
      refine ⟨hs.k 1 0, P.get (p := 7) (n := 4) (by omega) (by omega) (mfd _ (iT (nI_pos' (by omega)) ⟨y 30 88, hm.m 88, hs.k 30 88, by rw [hs.n 30 88]; exact vp_lt (N := 12) hk12, ?_⟩))⟩
      rw [nI_clamp (by omega)]
      refine hf _ (iT (nI_pos' (by omega)) ?_)
      by_cases w120 : nI (f 4) = (120 : Int32)
      · rw [if_neg (fun w => w w120)] at hK
        exact iF (fun w => w w120) ⟨hs.k 1 0, hK⟩
      rw [if_pos w120] at hK
      refine iT w120 ?_
      by_cases w122 : nI (f 4) = (122 : Int32)
      · rw [if_neg (fun w => w w122)] at hK
        exact iF (fun w => w w122) ⟨hs.k 1 0, hK⟩
      rw [if_pos w122] at hK
      refine iT w122 ?_
      by_cases w : 0 ≤ v4
      · rw [if_pos w] at hK
        refine iT w ⟨hs.k 1 0, y 30 89, hm.m 89, hs.k 30 89, by rw [hs.n 30 89]; exact vp_lt (N := 12) hk12, fun X eX => ?_⟩
        rw [nI_clamp (by omega), a89] at eX
        subst eX
        exact iT n110 hK
      · rw [if_neg w] at hK
        exact iF w ⟨hs.k 1 0, hK⟩
    -- clunk and remove
    by_cases h120 : f 4 = 120
    · have mf : ∃ v4 : Int32, ∀ K' : Int32 → Prop, K' v4 → w_M_find t m (y 1 0) (ai m (y 30 88) k) K' := by
        rcases hcase with ⟨-, -, -, -, -, a⟩ | ⟨-, -, a⟩
        · exact ⟨_, a⟩
        · exact ⟨_, a⟩
      obtain ⟨v4, mf⟩ := mf
      exact HR.up (HR.mono (h_clunk P hk12 hus) (fun K hK => cst K (uI' 120 (by omega) h120 ⟨y 14 k, rfl, hK⟩)) (fun K hK => mst K v4 mf (mI 120 (by omega) h120 hK))) (by omega)
    by_cases h122 : f 4 = 122
    · have fin : ∀ v4 : Int32, (∀ K' : Int32 → Prop, K' v4 → w_M_find t m (y 1 0) (ai m (y 30 88) k) K') → ((gi G 0 (y 5 j) = gi G 49 (y 14 k) → v4 = nI (s j)) ∧ (¬ gi G 0 (y 5 j) = gi G 49 (y 14 k) → v4 = -1)) → HR t y b c G m (fun K => w_S_handleWithFid t G (y 0 0) (y 10 c) (fun X x => K X x)) (fun K => w_M_withFid t m (y 1 0) (nI c) (nI (f 4)) (fun X => K X)) := fun v4 mf hv4 => HR.mono (h_remove P hZ hk12 hus (v4 := v4) (fun j' u' hj' _ _ e => by
          have : j' = j := y5 hs (by omega) (by omega) (Option.some.inj (e.symm.trans g48))
          rw [this]; exact hv4)) (fun K hK => cst K (uN 120 (by omega) h120 (uI' 122 (by omega) h122 ⟨y 14 k, rfl, hK⟩))) (fun K hK => mst K v4 mf (mN 120 (by omega) h120 (mI 122 (by omega) h122 hK)))
      rcases hcase with ⟨-, a1, -, -, -, a⟩ | ⟨a1, -, a⟩
      · exact HR.up (fin _ a ⟨fun _ => rfl, fun w => absurd a1 w⟩) (by omega)
      · exact HR.up (fin _ a ⟨fun w => absurd w a1, fun _ => rfl⟩) (by omega)
    rcases hcase with ⟨hj, a0, f90, f51, cg, mg⟩ | ⟨-, cg, mg⟩
    · have hs21 := (hTr.nd hj).1
      have p4 : 0 ≤ nI (s j) := nI_pos' (by omega)
      have P9 := P.who (v := nI u)
      have Z9 := hZ.who P9.hm
      have Q : FP t y b c z f G (si m 99 (y 1 0) (nI u)) n r s np k j u := ⟨P9, Z9, hk12, hus, hj, hu3, g48, g50, gi_at, f90, f51⟩
      have cl : ∀ K : GS → Option Nat → Prop, (if (gi G 38 (y 8 0)) = (112 : Int32) then (w_S_open t G (y 0 0) (y 14 k) (fun G7 x8 => K G7 x8)) else if (gi G 38 (y 8 0)) = (114 : Int32) then (w_S_create t G (y 0 0) (y 14 k) (fun G9 x10 => K G9 x10)) else if (gi G 38 (y 8 0)) = (116 : Int32) then (w_S_read t G (y 0 0) (y 14 k) (gi G 59 (y 10 c)) (fun G11 x12 => K G11 x12)) else if (gi G 38 (y 8 0)) = (118 : Int32) then (w_S_write t G (y 0 0) (y 14 k) (fun G13 x14 => K G13 x14)) else if (gi G 38 (y 8 0)) = (124 : Int32) then (∃ a15, (gr G 48 (y 14 k)) = some a15 ∧ w_S_tell t G (y 0 0) a15 (fun G16 x17 => K G16 x17)) else (w_S_handleWithFid_177 t (y 0 0) (fun X x => K X x) (some (y 14 k)) G)) → w_S_handleWithFid t G (y 0 0) (y 10 c) (fun X x => K X x) := fun K hK => cst K (uN 120 (by omega) h120 (uN 122 (by omega) h122 ⟨y 14 k, rfl, hs.k 14 k hv14, cg _ (iT rfl (fun v6 e6 => by rw [e6]; exact hK))⟩))
      have ml : ∀ K : GS → Prop, ((if ¬ nI (f 4) = (112 : Int32) then ((if ¬ nI (f 4) = (114 : Int32) then ((if ¬ nI (f 4) = (116 : Int32) then ((if ¬ nI (f 4) = (118 : Int32) then ((if ¬ nI (f 4) = (124 : Int32) then (w_M_alter t (si m 99 (y 1 0) (nI u)) (y 1 0) (nI (s j)) (fun G3 => K G3)) else (w_M_show t (si m 99 (y 1 0) (nI u)) (y 1 0) (nI (s j)) (fun G4 => K G4)))) else (w_M_write t (si m 99 (y 1 0) (nI u)) (y 1 0) (nI k) (nI (s j)) (fun G5 => K G5)))) else (w_M_read t (si m 99 (y 1 0) (nI u)) (y 1 0) (nI c) (nI k) (nI (s j)) (fun G6 => K G6)))) else (w_M_create t (si m 99 (y 1 0) (nI u)) (y 1 0) (nI k) (nI (s j)) (fun G7 => K G7)))) else (w_M_reach t (si m 99 (y 1 0) (nI u)) (y 1 0) (nI k) (nI (s j)) (fun G8 => K G8)))) → w_M_withFid t m (y 1 0) (nI c) (nI (f 4)) (fun X => K X) := fun K hK => mst K _ mg (mN 120 (by omega) h120 (mN 122 (by omega) h122 (iT p4 hK)))
      refine HR.who (v := nI u) ?_
      by_cases e1 : f 4 = 112
      · exact HR.up (HR.mono (h_open Q e1) (fun K hK => cl K (tI 112 (by omega) e1 hK)) (fun K hK => ml K (mI 112 (by omega) e1 hK))) (by omega)
      by_cases e2 : f 4 = 114
      · exact HR.mono (h_create Q e2 hb1) (fun K hK => cl K (tN 112 (by omega) e1 (tI 114 (by omega) e2 hK))) (fun K hK => ml K (mN 112 (by omega) e1 (mI 114 (by omega) e2 hK)))
      by_cases e3 : f 4 = 116
      · exact HR.up (HR.mono (h_read Q e3) (fun K hK => cl K (tN 112 (by omega) e1 (tN 114 (by omega) e2 (tI 116 (by omega) e3 hK)))) (fun K hK => ml K (mN 112 (by omega) e1 (mN 114 (by omega) e2 (mI 116 (by omega) e3 hK))))) (by omega)
      by_cases e4 : f 4 = 118
      · exact HR.up (HR.mono (h_write Q e4) (fun K hK => cl K (tN 112 (by omega) e1 (tN 114 (by omega) e2 (tN 116 (by omega) e3 (tI 118 (by omega) e4 hK))))) (fun K hK => ml K (mN 112 (by omega) e1 (mN 114 (by omega) e2 (mN 116 (by omega) e3 (mI 118 (by omega) e4 hK)))))) (by omega)
      by_cases e5 : f 4 = 124
      · exact HR.up (HR.mono (h_tell P9 Z9 hj) (fun K hK => cl K (tN 112 (by omega) e1 (tN 114 (by omega) e2 (tN 116 (by omega) e3 (tN 118 (by omega) e4 (tI 124 (by omega) e5 ⟨y 5 j, g48, hK⟩)))))) (fun K hK => ml K (mN 112 (by omega) e1 (mN 114 (by omega) e2 (mN 116 (by omega) e3 (mN 118 (by omega) e4 (mI 124 (by omega) e5 hK))))))) (by omega)
      have e6 : f 4 = 126 := by omega
      exact HR.up (HR.mono (h_alter Q e6) (fun K hK => cl K (tN 112 (by omega) e1 (tN 114 (by omega) e2 (tN 116 (by omega) e3 (tN 118 (by omega) e4 (tN 124 (by omega) e5 ⟨hs.k 0 0, y 14 k, rfl, hK⟩)))))) (fun K hK => ml K (mN 112 (by omega) e1 (mN 114 (by omega) e2 (mN 116 (by omega) e3 (mN 118 (by omega) e4 (mN 124 (by omega) e5 hK))))))) (by omega)
    · have e12 : lN (er 12) = 1701736295 := by decide +kernel
      exact HR.up (HR.er0 P (j := 12) (by omega) (by omega) (fun K hK => cst K (uN 120 (by omega) h120 (uN 122 (by omega) h122 ⟨y 14 k, rfl, hs.k 14 k hv14, cg _ (iF (by decide) hK)⟩))) (fun K hK => mst K _ mg (mN 120 (by omega) h120 (mN 122 (by omega) h122 (iF (by decide) (M_err e12 hK)))))) (by omega)
  · have e11 : lN (er 11) = 6580582 := by decide +kernel
    exact HR.up (HR.er0 P (j := 11) (by omega) (by omega) (fun K hK => ⟨hs.k 0 0, y 8 0, hz.1.2.2.2.1, hs.k 8 0, P.num (p := 7) (n := 4) (by omega) (by omega) ⟨hs.k 10 c hvc, S_findN hs hz hc hno (iF (by simp) hK)⟩⟩) (fun K hK => ⟨hs.k 1 0, P.get (p := 7) (n := 4) (by omega) (by omega) (M_fidN hs hm hc (fun k hk => P.i.fn (by omega) (hno k hk)) (iF (by decide) (iF (by decide) ⟨hs.k 1 0, M_err e11 hK⟩)))⟩)) (by omega)
end HFD
