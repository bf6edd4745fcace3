/-! alter (by hand) -/
section ALX
variable {t : TY} {y : LYT} {b c z k j u : Nat} {f : Nat → Nat} {G m X : GS} {n np : Nat} {r s : Nat → Nat}
/-- an error goes through the stages that are left: the class -/
theorem c109e {e : Nat} (he : e < 29) (he2 : e ≠ 2) {K : GS → Option Nat → Prop} (k : K X (some (tks t e))) : w_S_alter_109 t (y 0 0) K (some (tks t e)) X := isEn he he2 (iT rfl k)
theorem c93e {e : Nat} (he : e < 29) (he2 : e ≠ 2) {l2 l3 : Option Nat} {K : GS → Option Nat → Prop} (k : K X (some (tks t e))) : w_S_alter_93 t (y 0 0) K l2 l3 (some (tks t e)) X := isEn he he2 (iT rfl (c109e he he2 k))
theorem c77e {e : Nat} (he : e < 29) (he2 : e ≠ 2) {l2 l3 : Option Nat} {K : GS → Option Nat → Prop} (k : K X (some (tks t e))) : w_S_alter_77 t (y 0 0) K l2 l3 (some (tks t e)) X := isEn he he2 (iT rfl (c93e he he2 k))
theorem c61e {e : Nat} (he : e < 29) (he2 : e ≠ 2) {l2 l3 : Option Nat} {K : GS → Option Nat → Prop} (k : K X (some (tks t e))) : w_S_alter_61 t (y 0 0) K l2 l3 (some (tks t e)) X := isEn he he2 (iT rfl (c77e he he2 k))
theorem er0 : ∀ e, e < 29 → e ≠ 2 → ¬ lN (er e) = 0 := by decide +kernel
theorem h_alter (Q : FP t y b c z f G m n r s np k j u) (h4 : f 4 = 126) : HR t y b c G m (fun K => w_S_alter t G (y 0 0) (y 14 k) (fun X x => K X x)) (fun K => w_M_alter t m (y 1 0) (nI (s j)) (fun X => K X)) := by
  obtain ⟨P, hZ, hk, hus, hj, hu, g48, g50, h99, f90, f51⟩ := id Q
  have hs := P.s
  have hz := P.g
  have hm := P.hm
  have hnp := Q.np31
  have hTr := Q.tr
  have x := hTr.nd hj
  have hj20 := hTr.le hj
  have hz128 := P.hf.2.1
  obtain ⟨-, -, wf⟩ := (wf126 h4).mp P.w
  have hvj : yV 5 j = true := by simp [yV]; omega
  have hvk : yV 14 k = true := by simp [yV, hk]
  have hT := P.x (Or.inr (Or.inr (Or.inr (Or.inr (Or.inr h4)))))
  have e1 : txP f = 54 := by unfold txP; rw [if_neg (by omega), if_neg (by omega), if_pos h4]
  have e2 : txN f = 4 := by unfold txN; rw [if_neg (by omega), if_neg (by omega), if_pos h4]
  rw [e1, e2] at hT
  have hin : tp f 54 4 ≤ z := by omega
  have z62 : 62 ≤ z := by have := @tp_le f 54 4; omega
  have i0 := tp_in hin (i := 0) (by omega)
  have i1 := tp_in hin (i := 1) (by omega)
  have i2 := tp_in hin (i := 2) (by omega)
  have i3 := tp_in hin (i := 3) (by omega)
  obtain ⟨oo, hoo, eoo, foo⟩ := x.2.2.2.2.2.2.2.1
  obtain ⟨l0, lb, le, -⟩ := hTr.2.2.2.2.2.2.2.2.2.2.2.2.2.2.2.2 j hj20
  -- the flags
  obtain ⟨b1, hb1⟩ : ∃ q : Bool, q = false ↔ al1s f 46 8 := by
    by_cases w : al1s f 46 8
    · exact ⟨false, fun _ => w, fun _ => rfl⟩
    · exact ⟨true, fun q => absurd q (by simp), fun q => absurd q w⟩
  obtain ⟨b2, hb2⟩ : ∃ q : Bool, q = false ↔ al1s f 34 4 := by
    by_cases w : al1s f 34 4
    · exact ⟨false, fun _ => w, fun _ => rfl⟩
    · exact ⟨true, fun q => absurd q (by simp), fun q => absurd q w⟩
  obtain ⟨b3, hb3⟩ : ∃ q : Bool, q = false ↔ al1s f 42 4 := by
    by_cases w : al1s f 42 4
    · exact ⟨false, fun _ => w, fun _ => rfl⟩
    · exact ⟨true, fun q => absurd q (by simp), fun q => absurd q w⟩
  obtain ⟨b4, hb4⟩ : ∃ q : Bool, q = false ↔ nm f (tp f 54 2) 2 = 0 := by
    by_cases w : nm f (tp f 54 2) 2 = 0
    · exact ⟨false, fun _ => w, fun _ => rfl⟩
    · exact ⟨true, fun q => absurd q (by simp), fun q => absurd q w⟩
  obtain ⟨b5, hb5⟩ : ∃ q : Bool, q = false ↔ nm f 54 2 = 0 := by
    by_cases w : nm f 54 2 = 0
    · exact ⟨false, fun _ => w, fun _ => rfl⟩
    · exact ⟨true, fun q => absurd q (by simp), fun q => absurd q w⟩
  obtain ⟨l6, el6⟩ : ∃ l6, l6 = gv b1 b2 b3 b4 b5 := ⟨_, rfl⟩
  obtain ⟨v1, v2, v3, v4, v5, v0⟩ := gv_b b1 b2 b3 b4 b5
  rw [← el6] at v1 v2 v3 v4 v5 v0
  obtain ⟨own, ow1, ow0⟩ : ∃ q : Int32, (oo = u → q = 1) ∧ (¬ oo = u → q = 0) := by
    by_cases w : oo = u
    · exact ⟨1, fun _ => rfl, fun n => absurd w n⟩
    · exact ⟨0, fun n => absurd n w, fun _ => rfl⟩
  obtain ⟨l8, el8⟩ : ∃ l8, l8 = nI (nm f 34 4) := ⟨_, rfl⟩
  obtain ⟨l9, el9⟩ : ∃ l9, l9 = uI (unm f (tp f 54 2)) := ⟨_, rfl⟩
  -- the reference up to its checks
  have o2 : ∀ p, lN (nm f p 2) = (65535 : Int64) ↔ al1s f p 2 := fun p => by
    rw [← ones f P.hf.2.2.1 (by omega)]
    have : nm f p 2 < 256 ^ 2 := nm_lt P.hf.2.2.1
    exact pk_lEQ (b := 65535) (by omega) (by decide)
  have o4 : ∀ p, lN (nm f p 4) = (4294967295 : Int64) ↔ al1s f p 4 := fun p => by
    rw [← ones f P.hf.2.2.1 (by omega)]
    have : nm f p 4 < 256 ^ 4 := nm_lt P.hf.2.2.1
    exact pk_lEQ (b := 4294967295) (by omega) (by decide)
  have o5 : ∀ p, lN (nm f p 5) = (1099511627775 : Int64) ↔ al1s f p 5 := fun p => by
    rw [← ones f P.hf.2.2.1 (by omega)]
    have : nm f p 5 < 256 ^ 5 := nm_lt P.hf.2.2.1
    exact pk_lEQ (b := 1099511627775) (by omega) (by decide)
  have o8 : ∀ p, lN (nm f p 8) = (-1 : Int64) ↔ al1s f p 8 := fun p => by
    rw [← ones f P.hf.2.2.1 (by omega)]
    have n8 : nm f p 8 < 2 ^ 64 := nm_l P.hf.2.2.1 (by omega)
    constructor
    · intro w
      have := congrArg (fun v : Int64 => v.toBitVec.toNat) w
      simp only [lN_nat n8] at this
      exact this
    · intro w; rw [w]; decide +kernel
  have o0 : ∀ p, lN (nm f p 2) = (0 : Int64) ↔ nm f p 2 = 0 := fun p => by
    have : nm f p 2 < 256 ^ 2 := nm_lt P.hf.2.2.1
    exact pk_lEQ (b := 0) (by omega) (by decide)
  have mst : ∀ K : GS → Prop, (fixd f → w_M_alter_145 t (y 1 0) (fun X => K X) (nI (s j)) (nI (tp f 54 2)) m) → (¬ fixd f → w_M_alter_138 t (y 1 0) (fun X => K X) (nI (s j)) (nI (tp f 54 2)) m) → w_M_alter t m (y 1 0) (nI (s j)) (fun X => K X) := fun K kY kN => by
    have bh : ∀ i, i < 3 → ∀ K' : Int32 → Prop, K' (nI (tp f 54 (i + 1))) → w_M_behind t m (y 1 0) (nI (tp f 54 i)) (nI z) K' := fun i hi K' hK => M_behind hs hm P.hf P.mm (by have := @tp_lt f P.hf.2.2.1 54 i; omega) (by
      rw [if_pos (tp_in hin (i := i) (by omega))]; exact hK)
    refine ⟨hs.k 1 0, ?_⟩
    rw [P.mm.1]
    refine bh 0 (by omega) _ (bh 1 (by omega) _ (bh 2 (by omega) _ (P.get (p := 15) (n := 2) (by omega) (by omega) ?_)))
    have no : ¬ fixd f → w_M_alter_103 t (y 1 0) (fun X => K X) (nI (s j)) (nI (tp f 54 1)) (nI (tp f 54 2)) (nI (tp f 54 3)) m := fun w => (show w_M_alter_108 t (y 1 0) (fun X => K X) (nI (s j)) (nI (tp f 54 1)) (nI (tp f 54 2)) (nI (tp f 54 3)) 1 m from iT (by decide) (kN w))
    refine iN ⟨fun a1 => P.get (p := 17) (n := 4) (by omega) (by omega) (iN ⟨fun a2 => P.get (p := 21) (n := 5) (by omega) (by omega) (iN ⟨fun a3 => P.get (p := 26) (n := 8) (by omega) (by omega) (iN ⟨fun a4 => P.get (p := 38) (n := 4) (by omega) (by omega) (iS ⟨fun a5 => ?_, fun a5 => no fun w => a5 ((o4 38).mpr w.2.2.2.1)⟩), fun a4 => no fun w => a4 ((o8 26).mpr (al13.mp w.2.2.1).2)⟩), fun a3 => no fun w => a3 ((o5 21).mpr (al13.mp w.2.2.1).1)⟩), fun a2 => no fun w => a2 ((o4 17).mpr w.2.1)⟩), fun a1 => no fun w => a1 ((o2 15).mpr w.1)⟩
    refine iF (by simp) ⟨hs.k 1 0, P.get (p := tp f 54 1) (n := 2) (by omega) (by omega) (iN ⟨fun a6 => P.get (p := tp f 54 3) (n := 2) (by omega) (by omega) (iS ⟨fun a7 => kY ⟨(o2 15).mp a1, (o4 17).mp a2, al13.mpr ⟨(o5 21).mp a3, (o8 26).mp a4⟩, (o4 38).mp a5, (o0 _).mp a6, (o0 _).mp a7⟩, fun a7 => kN fun w => a7 ((o0 _).mpr w.2.2.2.2.2)⟩), fun a6 => kN fun w => a6 ((o0 _).mpr w.2.2.2.2.1)⟩)⟩
  -- an error goes through the rest: the reference
  have hmE : ∀ w : Int64, FZ y (sl m 98 (y 1 0) w) := fun w => hm.to hs (sZ.of (fun _ _ => rfl) (fun _ => rfl))
  have mmE : ∀ w : Int64, MsM y (sl m 98 (y 1 0) w) z f := fun w => P.mm
  have glE : ∀ w : Int64, gl (sl m 98 (y 1 0) w) 98 (y 1 0) = w := fun w => gl_at
  have e412 : ∀ (K : GS → Prop) (w : Int64), ¬ w = 0 → K (sl m 98 (y 1 0) w) → ∀ a1 a2 a3 : Int32, w_M_alter_412 t (y 1 0) (fun X => K X) (nI (s j)) a1 a2 a3 (sl m 98 (y 1 0) w) := fun K w hw hK a1 a2 a3 => ⟨hs.k 1 0, iT (by rw [glE]; exact hw) hK⟩
  have e390 : ∀ (K : GS → Prop) (w : Int64), ¬ w = 0 → K (sl m 98 (y 1 0) w) → ∀ a1 a2 a3 : Int32, w_M_alter_390 t (y 1 0) (fun X => K X) (nI (s j)) a1 a2 a3 (sl m 98 (y 1 0) w) := fun K w hw hK a1 a2 a3 => ⟨hs.k 1 0, iT (by rw [glE]; exact hw) (e412 K w hw hK a1 a2 a3)⟩
  have e303 : ∀ (K : GS → Prop) (w : Int64), ¬ w = 0 → K (sl m 98 (y 1 0) w) → ∀ a1 a2 a3 : Int32, w_M_alter_303 t (y 1 0) (fun X => K X) (nI (s j)) (nI (tp f 54 2)) a1 a2 a3 (sl m 98 (y 1 0) w) := fun K w hw hK a1 a2 a3 => ⟨hs.k 1 0, M_userAt hs (hmE w) P.hf (mmE w) i2 (iT (by rw [glE]; exact hw) ⟨hs.k 1 0, iT (by rw [glE]; exact hw) (e390 K w hw hK _ _ _)⟩)⟩
  have e275 : ∀ (K : GS → Prop) (w : Int64), ¬ w = 0 → K (sl m 98 (y 1 0) w) → ∀ a1 a2 a3 : Int32, w_M_alter_275 t (y 1 0) (fun X => K X) (nI (s j)) (nI (tp f 54 2)) a1 a2 a3 (sl m 98 (y 1 0) w) := fun K w hw hK a1 a2 a3 => ⟨hs.k 1 0, iT (by rw [glE]; exact hw) (e303 K w hw hK _ _ _)⟩
  have e173 : ∀ (K : GS → Prop) (w : Int64), ¬ w = 0 → K (sl m 98 (y 1 0) w) → ∀ a1 : Int32, w_M_alter_173 t (y 1 0) (fun X => K X) (nI (s j)) (nI (tp f 54 2)) a1 (sl m 98 (y 1 0) w) := fun K w hw hK a1 => by
    have e191 : ∀ a2 : Int32, w_M_alter_191 t (y 1 0) (fun X => K X) (nI (s j)) (nI (tp f 54 2)) a1 a2 (sl m 98 (y 1 0) w) := fun a2 => ⟨hs.k 1 0, M_get (p := 34) (n := 4) hs (hmE w) P.hf (mmE w) (by omega) (by omega) (fun v2 _ => iT (by rw [glE]; exact hw) ⟨hs.k 1 0, iT (by rw [glE]; exact hw) (e275 K w hw hK _ _ _)⟩)⟩
    exact ⟨hs.k 1 0, M_at (c := 5) hs (hmE w) x.1 (by omega) (iN ⟨fun _ => e191 _, fun _ => e191 _⟩)⟩
  have ne : ¬ ¬ gl m 98 (y 1 0) = (0 : Int64) := fun q => q P.e
  by_cases fx : fixd f
  · obtain ⟨G4, eG4⟩ : ∃ X, X = bgC y G (tad t 6) (y 5 j) (some (tad t u)) (gi G 69 (y 0 0)) := ⟨_, rfl⟩
    have cc4 : cC y G G4 := by rw [eG4]; exact cC.rf.bg
    have cst : ∀ K : GS → Option Nat → Prop, w_S_stageLength t G4 (y 0 0) (y 5 j) (some (tad t u)) (fun G5 x6 => w_str_isEmpty t x6 (fun v7 => (if v7 = 0 then (w_S_alter_61 t (y 0 0) (fun X x => K X x) (some (y 5 j)) (some (tad t u)) x6 G5) else (w_S_stageMode t G5 (y 0 0) (y 5 j) (some (tad t u)) (fun G8 x9 => w_S_alter_61 t (y 0 0) (fun X x => K X x) (some (y 5 j)) (some (tad t u)) x9 G8))))) → w_S_alter t G (y 0 0) (y 14 k) (fun X x => K X x) := fun K hK => ⟨hs.k 14 k hvk, hs.k 0 0, S_fixed hs hz P.hf P.mc hT (fun _ => iT rfl ⟨y 4 0, hz.1.2.2.1, hs.k 4 0, y 5 j, g48, by
      rw [g50, g48]
      exact S_begin hs (by rw [← eG4]; exact hK)⟩) (fun q => absurd fx q)⟩
    have m145 : ∀ K : GS → Prop, (if (l6 &&& (1 : Int32)) = 0 then (w_M_alter_173 t (y 1 0) (fun X => K X) (nI (s j)) (nI (tp f 54 2)) l6 m) else (w_M_checkLength t m (y 1 0) (nI (s j)) (fun G2 => w_M_alter_173 t (y 1 0) (fun X => K X) (nI (s j)) (nI (tp f 54 2)) l6 G2))) → w_M_alter t m (y 1 0) (nI (s j)) (fun X => K X) := fun K hK => mst K (fun _ => ⟨hs.k 1 0, M_given hs hm P.hf P.mm (by omega) (by omega) hb1 hb2 hb3 hb4 hb5 (by rw [← el6]; exact iF ne hK)⟩) (fun q => absurd fx q)
    rcases stL Q (by omega) with ⟨e, he, he2, hg, cE, mE⟩ | ⟨o1, og1, cY, mY, oY⟩
    · exact HR.cerr P hZ cc4 he he2 (fun K hK => cst K (cE G4 cc4 _ (isEn he he2 (iT rfl (c61e he he2 hK))))) (fun K hK => m145 K (iF (fun w => hg (hb1.mp (v1.mp w))) (mE _ (e173 K _ (er0 e he he2) hK l6))))
    have m173 : ∀ K : GS → Prop, w_M_alter_191 t (y 1 0) (fun X => K X) (nI (s j)) (nI (tp f 54 2)) l6 own m → w_M_alter t m (y 1 0) (nI (s j)) (fun X => K X) := fun K hK => m145 K (by
      have h173 : w_M_alter_173 t (y 1 0) (fun X => K X) (nI (s j)) (nI (tp f 54 2)) l6 m := ⟨hs.k 1 0, M_at (c := 5) hs hm x.1 (by omega) (by
        rw [foo, h99]
        refine iN ⟨fun w => ?_, fun w => ?_⟩
        · rw [ow1 ((nI_eq (by omega) (by omega)).mp w)] at hK; exact hK
        · rw [ow0 (fun q => w (by rw [q]))] at hK; exact hK)⟩
      by_cases w : (l6 &&& 1) = 0
      · exact iT w h173
      · exact iF w (mY (fun q => w (v1.mpr (hb1.mpr q))) _ h173))
    obtain ⟨X1, eX1⟩ : ∃ X, X = x1C y G4 o1 := ⟨_, rfl⟩
    have cc1 : cC y G X1 := by rw [eX1]; exact cC_x1 cc4
    have c1 : ∀ K : GS → Option Nat → Prop, w_S_stageMode t X1 (y 0 0) (y 5 j) (some (tad t u)) (fun G8 x9 => w_S_alter_61 t (y 0 0) (fun X x => K X x) (some (y 5 j)) (some (tad t u)) x9 G8) → w_S_alter t G (y 0 0) (y 14 k) (fun X x => K X x) := fun K hK => cst K (cY G4 cc4 _ (isE2 (iF (by decide) (by rw [← eX1]; exact hK))))
    rcases stM (l3 := nI (tp f 54 2)) Q (by omega) hoo eoo (v2.trans hb2) ow1 ow0 with ⟨e, he, he2, cE, mE⟩ | ⟨o2', og2, cY2, mY2, oY2⟩
    · exact HR.cerr P hZ cc1 he he2 (fun K hK => c1 K (cE X1 cc1 _ (c61e he he2 hK))) (fun K hK => m173 K (mE _ (e275 K _ (er0 e he he2) hK _ _ _)))
    obtain ⟨X2, eX2⟩ : ∃ X, X = x2C y X1 o2' := ⟨_, rfl⟩
    have cc2 : cC y G X2 := by rw [eX2]; exact cC_x2 cc1
    have c2 : ∀ K : GS → Option Nat → Prop, w_S_stageMtime t X2 (y 0 0) (y 5 j) (some (tad t u)) (fun G3 x4 => w_S_alter_77 t (y 0 0) (fun X x => K X x) (some (y 5 j)) (some (tad t u)) x4 G3) → w_S_alter t G (y 0 0) (y 14 k) (fun X x => K X x) := fun K hK => c1 K (cY2 X1 cc1 _ (isE2 (iF (by decide) ⟨hs.k 0 0, y 5 j, rfl, by rw [← eX2]; exact hK⟩)))
    rcases stT (l3 := nI (tp f 54 2)) (l8 := nI (nm f 34 4)) Q (by omega) hoo eoo (v3.trans hb3) ow1 ow0 with ⟨e, he, he2, cE, mE⟩ | ⟨o5', og5, cY5, mY5, oY5⟩
    · exact HR.cerr P hZ cc2 he he2 (fun K hK => c2 K (cE X2 cc2 _ (c77e he he2 hK))) (fun K hK => m173 K (mY2 _ (mE _ (e303 K _ (er0 e he he2) hK _ _ _))))
    obtain ⟨X3, eX3⟩ : ∃ X, X = x5C y X2 o5' := ⟨_, rfl⟩
    have cc3 : cC y G X3 := by rw [eX3]; exact cC_x5 cc2
    have c3 : ∀ K : GS → Option Nat → Prop, w_S_stageGroup t X3 (y 0 0) (y 5 j) (some (tad t u)) (fun G3 x4 => w_S_alter_93 t (y 0 0) (fun X x => K X x) (some (y 5 j)) (some (tad t u)) x4 G3) → w_S_alter t G (y 0 0) (y 14 k) (fun X x => K X x) := fun K hK => c2 K (cY5 X2 cc2 _ (isE2 (iF (by decide) ⟨hs.k 0 0, y 5 j, rfl, by rw [← eX3]; exact hK⟩)))
    rcases stG (l8 := nI (nm f 34 4)) Q hT hin hoo eoo (v4.trans hb4) ow1 ow0 with ⟨e, he, he2, cE, mE⟩ | ⟨o3', og3, cY3, mY3, oY3⟩
    · exact HR.cerr P hZ cc3 he he2 (fun K hK => c3 K (cE X3 cc3 _ (c93e he he2 hK))) (fun K hK => m173 K (mY2 _ (mY5 _ (mE _ (e390 K _ (er0 e he he2) hK _ _ _)))))
    obtain ⟨X4, eX4⟩ : ∃ X, X = x3C t y X3 o3' := ⟨_, rfl⟩
    have cc5 : cC y G X4 := by rw [eX4]; exact cC_x3 cc3
    have c4 : ∀ K : GS → Option Nat → Prop, w_S_stageName t X4 (y 0 0) (y 5 j) (some (tad t u)) (fun G3 x4 => w_S_alter_109 t (y 0 0) (fun X x => K X x) x4 G3) → w_S_alter t G (y 0 0) (y 14 k) (fun X x => K X x) := fun K hK => c3 K (cY3 X3 cc3 _ (isE2 (iF (by decide) ⟨hs.k 0 0, y 5 j, rfl, by rw [← eX4]; exact hK⟩)))
    rcases stN (l6 := l6) (l8 := nI (nm f 34 4)) (l9 := uI (unm f (tp f 54 2))) Q hT hin (v5.trans hb5) with ⟨e, he, he2, cE, mE⟩ | ⟨hm', h8, cY4, mY4, oY4⟩
    · exact HR.cerr P hZ cc5 he he2 (fun K hK => c4 K (cE X4 cc5 _ (c109e he he2 hK))) (fun K hK => m173 K (mY2 _ (mY5 _ (mY3 _ (mE _ (e412 K _ (er0 e he he2) hK _ _ _))))))
    obtain ⟨X5, eX5⟩ : ∃ X, X = x4C y X4 f (nm f 54 2) := ⟨_, rfl⟩
    have cc : cC y G X5 := by rw [eX5]; exact cC_x4 cc5
    have m412 : ∀ K : GS → Prop, w_M_alter_412 t (y 1 0) (fun X => K X) (nI (s j)) l6 (nI (nm f 34 4)) (uI (unm f (tp f 54 2))) m → w_M_alter t m (y 1 0) (nI (s j)) (fun X => K X) := fun K hK => m173 K (mY2 _ (mY5 _ (mY3 _ (mY4 _ hK))))
    have hv4 := @bgC_v y G (tad t 6) (y 5 j) (some (tad t u)) (gi G 69 (y 0 0))
    obtain ⟨w25, w26, w27, w28, w29, w30, w32, w17, wI, wR⟩ := xAll (t := t) (f := f) (y := y) (X0 := G4) (by rw [eG4]; simp [bgC, giS, giR]) (by rw [eG4]; simp [bgC, giS, giR]) (by rw [eG4]; simp [bgC, giS, giR]) (by rw [eG4]; simp [bgC, grS, grR]) (by rw [eG4]; simp [bgC, giS, giR]) o1 o2' o5' o3' (nm f 54 2)
    rw [← eX1, ← eX2, ← eX3, ← eX4, ← eX5] at w25 w26 w27 w28 w29 w30 w32 w17 wI wR
    have hzX := cc.fz hs hz
    -- whether there is anything to do
    have cdo : ∀ K : GS → Option Nat → Prop, (l6 = 0 → K X5 (some (tks t 2))) → (¬ l6 = 0 → w_S_carryOut t X5 (y 0 0) (nI z) (fun G5 => K G5 (some (tks t 2)))) → w_S_alter t G (y 0 0) (y 14 k) (fun X x => K X x) := fun K k0 k1 => c4 K (cY4 X4 cc5 _ (by
      rw [← eX5]
      refine isE2 (iF (by decide) ⟨hs.k 0 0, y 4 0, hzX.1.2.2.1, hs.k 4 0, hs.k 4 0, ?_⟩)
      have e37 : gi X5 37 (y 8 0) = nI z := (cc.1 37 _ (by omega)).trans P.mc.1
      have go : ¬ l6 = 0 → (if (1 : Int32) = 0 then K X5 (some (tks t 2)) else (∃ a4, (gr X5 66 (y 0 0)) = some a4 ∧ tk t a4 = 5 ∧ w_S_carryOut t X5 (y 0 0) (gi X5 37 a4) (fun G5 => K G5 (some (tks t 2))))) := fun w => iF (by decide) ⟨y 8 0, hzX.1.2.2.2.1, hs.k 8 0, by rw [e37]; exact k1 w⟩
      rw [w25, w26, w28, w30, w32]
      by_cases q1 : o1 = none
      · refine iF (by rw [q1]; decide) ?_
        by_cases q2 : o2' = none
        · refine iF (by rw [if_pos q2]; simp) ?_
          by_cases q5 : o5' = none
          · refine iF (by rw [if_pos q5]; simp) ?_
            by_cases q3 : o3' = none
            · refine iF (by rw [q3]; simp) ?_
              by_cases q4 : nm f 54 2 = 0
              · refine iT (by rw [q4]; decide) (iT rfl (k0 (v0.mpr ⟨hb1.mpr (og1.mp q1), hb2.mpr (og2.mp q2), hb3.mpr (og5.mp q5), hb4.mpr (og3.mp q3), hb5.mpr q4⟩)))
              · exact iF (nI_nle (by omega) (by omega)) (go fun w => q4 (hb5.mp (v0.mp w).2.2.2.2))
            · cases o3' with
              | none => exact absurd rfl q3
              | some v => exact iT (by simp) (go fun w => q3 (og3.mpr (hb4.mp (v0.mp w).2.2.2.1)))
          · exact iT (by rw [if_neg q5]; decide) (go fun w => q5 (og5.mpr (hb3.mp (v0.mp w).2.2.1)))
        · exact iT (by rw [if_neg q2]; decide) (go fun w => q2 (og2.mpr (hb2.mp (v0.mp w).2.1)))
      · cases o1 with
        | none => exact absurd rfl q1
        | some l => exact iT (nI_pos' (by have := (oY l rfl).2.1; omega)) (go fun w => q1 (og1.mpr (hb1.mp (v0.mp w).1)))))
    by_cases n6 : l6 = 0
    · have I5 := hZ.cc P.r cc
      have P5 : Pre t y b c z f X5 m := P.to I5.of ((cc.1 19 _ (by omega)).trans P.r) (cc.kk hs) kM.rf P.hb
      exact HR.step (G1 := X5) (m1 := m) (F1 := fun K => K X5 (some (tks t 2))) (H1 := fun K => K m) (HR.ok P5 (fun K hK => hK) (fun K hK => hK)) P.hc (cc.e hs) (cc.kk hs) kM.rf (fun K hK => cdo K (fun _ => hK) (fun q => absurd n6 q)) (fun K hK => m412 K ⟨hs.k 1 0, iF ne (iF (fun w => w n6) hK)⟩)
    · obtain ⟨m3, em3⟩ : ∃ X, X = aw m (y 30 71) (mix (ai m (y 30 70)) (ai m (y 30 71)) 1743) := ⟨_, rfl⟩
      have c3' : cM5 y m m3 := by rw [em3]; exact cM5.rf.aw (Or.inr rfl)
      obtain ⟨P5, eP5⟩ : ∃ P5, P5 = aT5 (aT4 (aT3 (aT2 (aT1 (ai m (y 30 70)) (s j) l0 (gi m 78 (y 1 0)) u o1) (s j) o2') (s j) o3') (s j) (s hm') (gi m 78 (y 1 0)) u (nm f 54 2) (fun i => f (56 + i))) (s j) o5' := ⟨_, rfl⟩
      obtain ⟨m5, em5⟩ : ∃ X, X = w70 y m3 P5 := ⟨_, rfl⟩
      have cm : cM5 y m m5 := by rw [em5]; exact c3'.aw (Or.inl rfl)
      have c70 : ai m5 (y 30 70) = P5 := by rw [em5]; exact w70_70
      have h71 : ∀ i, i < 1743 → ai m5 (y 30 71) i = ai m (y 30 70) i := fun i hi => by
        rw [em5, w70_o (hs.ne (by omega)), em3, aw_at]
        show (if i < 1743 then _ else _) = _; rw [if_pos hi]
      have mgo : ∀ K : GS → Prop, w_M_commit t m5 (y 1 0) (nI z) (fun G1 _ => K G1) → w_M_alter t m (y 1 0) (nI (s j)) (fun X => K X) := fun K hK => m412 K (M_applied Q z62 hin lb le n6 (o1 := o1) (o2 := o2') (o3 := o3') (o5 := o5') (hm := hm') (v1.trans (hb1.trans og1.symm)) (v2.trans (hb2.trans og2.symm)) (v3.trans (hb3.trans og5.symm)) (v4.trans (hb4.trans og3.symm)) (v5.trans hb5) (fun l hl => ⟨(oY l hl).1, (oY l hl).2.1⟩) (fun v hv => (oY2 v hv).1) (fun v hv => by rw [(oY3 v hv).2]; rfl) (fun v hv => oY5 v hv) h8 (fun q => ⟨(oY4 q).1, (oY4 q).2.1, (oY4 q).2.2.1⟩) em3 eP5 (by rw [← em5]; exact hK))
      have tm : gi G 69 (y 0 0) = gi m 78 (y 1 0) := hZ.2.2.2.1.2.2.1
      have hT5 : TrR t y X5 (ai m (y 30 70)) n r s np := hTr.to (cc.agT hs)
      have tb5 : tBl y X5 n r = tBl y G n r := tBl_eq (fun a => by rw [cc.1 2 a (by omega)]) (fun a => cc.2.1 7 a (by omega)) (fun a => cc.1 12 a (by omega))
      have hS : Stg t y X5 (ai m5 (y 30 70)) n r np np := by
        rw [c70, eP5, ← tm]
        refine stg_al hT5 hnp hs hj hu (by rw [wR 21 (by omega), eG4]; exact hv4.1) ⟨by rw [wR 22 (by omega), eG4]; exact hv4.2.1, by rw [wR 23 (by omega), eG4]; exact hv4.2.2, by rw [wI 24 (by omega), eG4]; exact bgC_24⟩ lb ((cc.1 12 _ (by omega)).trans le) o1 w25 (fun l hl => ?_) o2' w26 (fun v hv => ⟨w27 v hv, by rw [cc.1 2 _ (by omega)]; exact (oY2 v hv).2⟩) o3' w30 (fun v hv => (oY3 v hv).1) w32 h8 (fun hl => ?_) o5' w28 w29
        · obtain ⟨a1, a2, a3, a4⟩ := oY l hl
          refine ⟨a2, by rw [cc.1 2 _ (by omega)]; exact a3, ?_⟩
          rw [tb5]; exact a4 l0 lb le
        · obtain ⟨a1, a2, a3, a4⟩ := oY4 hl
          refine ⟨a2, (cc.2.1 7 _ (by omega)).trans a3, fun q hq => ⟨P.hf.2.2.1 _, w17 hl q hq⟩, fun i hi hne => ?_⟩
          have := hTr.y20 hi
          rw [cc.2.1 7 _ (by omega), cc.2.1 7 _ (by omega), cc.1 10 _ (by omega), ((cc.agT hs).2.1 _ this).1]
          exact a4 i hi hne
      rcases carryH hZ P.r cc cm h71 hS (zz := z) (by omega) (Nat.le_refl _) hZ.2.2.2.2.2.2.2.2.2.1 with D | ⟨G2, n', r', s', U, -⟩
      · exact HR.cdn D eS.rf (j := 2) (by omega) hs xC.rf (fun K run hK => cdo K (fun q => absurd q n6) (fun _ => run _ hK)) (fun K run hK => mgo K (run _ hK))
      · have e74 : gi m5 74 (y 1 0) = nI (np - 1) := (cm.1 _ _).trans hZ.2.2.2.2.2.2.2.2.1
        refine HR.cup P U eS.rf kC.rf kM.rf P.hb (F1 := fun K => K G2 (some (tks t 2))) (H1 := fun K => K (cmY y m5 z)) (fun P2 => ?_) (fun K run hK => cdo K (fun q => absurd q n6) (fun _ => run _ hK)) (fun K run hK => mgo K (run _ hK))
        exact HR.ok P2 (fun K hK => hK) (fun K hK => by rw [U.same e74] at hK; exact hK)
  · refine HR.er0 P (j := 25) (by omega) (by omega) (fun K hK => ⟨hs.k 14 k hvk, hs.k 0 0, S_fixed hs hz P.hf P.mc hT (fun q => absurd q fx) (fun _ => iF (by decide) hK)⟩) (fun K hK => mst K (fun q => absurd q fx) (fun _ => ⟨hs.k 1 0, M_err (K := fun X => w_M_alter_145 t (y 1 0) (fun X => K X) (nI (s j)) (nI (tp f 54 2)) X) (v := lN (er 25)) (by decide +kernel) ⟨hs.k 1 0, M_given hs (hmE _) P.hf (mmE _) (by omega) (by omega) hb1 hb2 hb3 hb4 hb5 (iT ?_ (e173 K _ (er0 25 (by omega) (by omega)) hK _))⟩⟩))
    rw [glE]; exact er0 25 (by omega) (by omega)
end ALX
