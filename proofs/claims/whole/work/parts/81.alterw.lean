/-! alter: carried out (by hand) -/
section ALW
variable {t : TY} {y : LYT} {b c z k j u : Nat} {f : Nat → Nat} {G m X : GS} {n np : Nat} {r s : Nat → Nat}
/-- all staged: what the change holds -/
theorem xAll {X0 : GS} (h25 : gi X0 25 (y 4 0) = -1) (h26 : gi X0 26 (y 4 0) = 0) (h28 : gi X0 28 (y 4 0) = 0) (h30 : gr X0 30 (y 4 0) = none) (h32 : gi X0 32 (y 4 0) = 0) (o1 : Option Nat) (o2 o5 : Option Int32) (o3 : Option Nat) (l : Nat) : gi (x4C y (x3C t y (x5C y (x2C y (x1C y X0 o1) o2) o5) o3) f l) 25 (y 4 0) = oI o1 ∧ gi (x4C y (x3C t y (x5C y (x2C y (x1C y X0 o1) o2) o5) o3) f l) 26 (y 4 0) = (if o2 = none then 0 else 1) ∧ (∀ v, o2 = some v → gi (x4C y (x3C t y (x5C y (x2C y (x1C y X0 o1) o2) o5) o3) f l) 27 (y 4 0) = v) ∧ gi (x4C y (x3C t y (x5C y (x2C y (x1C y X0 o1) o2) o5) o3) f l) 28 (y 4 0) = (if o5 = none then 0 else 1) ∧ (∀ v, o5 = some v → gi (x4C y (x3C t y (x5C y (x2C y (x1C y X0 o1) o2) o5) o3) f l) 29 (y 4 0) = v) ∧ gr (x4C y (x3C t y (x5C y (x2C y (x1C y X0 o1) o2) o5) o3) f l) 30 (y 4 0) = o3.map (tad t) ∧ gi (x4C y (x3C t y (x5C y (x2C y (x1C y X0 o1) o2) o5) o3) f l) 32 (y 4 0) = nI l ∧ (0 < l → ∀ i, i < l → ai (x4C y (x3C t y (x5C y (x2C y (x1C y X0 o1) o2) o5) o3) f l) (y 17 0) i = sb (f (56 + i))) ∧ (∀ g, g < 25 → gi (x4C y (x3C t y (x5C y (x2C y (x1C y X0 o1) o2) o5) o3) f l) g (y 4 0) = gi X0 g (y 4 0)) ∧ (∀ g, g < 30 → gr (x4C y (x3C t y (x5C y (x2C y (x1C y X0 o1) o2) o5) o3) f l) g (y 4 0) = gr X0 g (y 4 0)) := by
  have A1 : ∀ g, g ≠ 25 → gi (x1C y X0 o1) g (y 4 0) = gi X0 g (y 4 0) := fun g hg => by cases o1 with
    | none => rfl
    | some v => exact gi_ne hg
  have A1' : gi (x1C y X0 o1) 25 (y 4 0) = oI o1 := by cases o1 with
    | none => exact h25
    | some v => exact gi_at
  have R1 : ∀ g, gr (x1C y X0 o1) g (y 4 0) = gr X0 g (y 4 0) := fun g => by cases o1 <;> rfl
  obtain ⟨X1, e1⟩ : ∃ X1, X1 = x1C y X0 o1 := ⟨_, rfl⟩
  rw [← e1] at A1 A1' R1 ⊢
  have A2 : ∀ g, g ≠ 26 → g ≠ 27 → gi (x2C y X1 o2) g (y 4 0) = gi X1 g (y 4 0) := fun g h1 h2 => by cases o2 with
    | none => rfl
    | some v => exact (gi_ne h2).trans (gi_ne h1)
  have A2' : gi (x2C y X1 o2) 26 (y 4 0) = (if o2 = none then 0 else 1) := by cases o2 with
    | none => rw [if_pos rfl]; exact (A1 26 (by omega)).trans h26
    | some v => rw [if_neg (by simp)]; exact (gi_ne (by omega)).trans gi_at
  have A2'' : ∀ v, o2 = some v → gi (x2C y X1 o2) 27 (y 4 0) = v := fun v hv => by subst hv; exact gi_at
  have R2 : ∀ g, gr (x2C y X1 o2) g (y 4 0) = gr X1 g (y 4 0) := fun g => by cases o2 <;> rfl
  obtain ⟨X2, e2⟩ : ∃ X2, X2 = x2C y X1 o2 := ⟨_, rfl⟩
  rw [← e2] at A2 A2' A2'' R2 ⊢
  have A5 : ∀ g, g ≠ 28 → g ≠ 29 → gi (x5C y X2 o5) g (y 4 0) = gi X2 g (y 4 0) := fun g h1 h2 => by cases o5 with
    | none => rfl
    | some v => exact (gi_ne h2).trans (gi_ne h1)
  have A5' : gi (x5C y X2 o5) 28 (y 4 0) = (if o5 = none then 0 else 1) := by cases o5 with
    | none => rw [if_pos rfl]; exact (A2 28 (by omega) (by omega)).trans ((A1 28 (by omega)).trans h28)
    | some v => rw [if_neg (by simp)]; exact (gi_ne (by omega)).trans gi_at
  have A5'' : ∀ v, o5 = some v → gi (x5C y X2 o5) 29 (y 4 0) = v := fun v hv => by subst hv; exact gi_at
  have R5 : ∀ g, gr (x5C y X2 o5) g (y 4 0) = gr X2 g (y 4 0) := fun g => by cases o5 <;> rfl
  obtain ⟨X3, e3⟩ : ∃ X3, X3 = x5C y X2 o5 := ⟨_, rfl⟩
  rw [← e3] at A5 A5' A5'' R5 ⊢
  have A3 : ∀ g, gi (x3C t y X3 o3) g (y 4 0) = gi X3 g (y 4 0) := fun g => by cases o3 <;> rfl
  have R3 : ∀ g, g ≠ 30 → gr (x3C t y X3 o3) g (y 4 0) = gr X3 g (y 4 0) := fun g hg => by cases o3 with
    | none => rfl
    | some v => exact gr_ne hg
  have R3' : gr (x3C t y X3 o3) 30 (y 4 0) = o3.map (tad t) := by cases o3 with
    | none => exact (R5 30).trans ((R2 30).trans ((R1 30).trans h30))
    | some v => exact gr_at
  obtain ⟨X4, e4⟩ : ∃ X4, X4 = x3C t y X3 o3 := ⟨_, rfl⟩
  rw [← e4] at A3 R3 R3' ⊢
  have A4 : ∀ g, g ≠ 32 → gi (x4C y X4 f l) g (y 4 0) = gi X4 g (y 4 0) := fun g hg => by
    unfold x4C
    by_cases q : l = 0
    · rw [if_pos q]
    · rw [if_neg q]; exact gi_ne hg
  have A4' : gi (x4C y X4 f l) 32 (y 4 0) = nI l := by
    unfold x4C
    by_cases q : l = 0
    · rw [if_pos q, A3, A5 _ (by omega) (by omega), A2 _ (by omega) (by omega), A1 _ (by omega), h32, q]; rfl
    · rw [if_neg q]; exact gi_at
  have R4 : ∀ g, gr (x4C y X4 f l) g (y 4 0) = gr X4 g (y 4 0) := fun g => by
    unfold x4C
    by_cases q : l = 0
    · rw [if_pos q]
    · rw [if_neg q]; rfl
  refine ⟨?_, ?_, fun v hv => ?_, ?_, fun v hv => ?_, ?_, A4', fun hl i hi => ?_, fun g hg => ?_, fun g hg => ?_⟩
  · rw [A4 _ (by omega), A3, A5 _ (by omega) (by omega), A2 _ (by omega) (by omega)]; exact A1'
  · rw [A4 _ (by omega), A3, A5 _ (by omega) (by omega)]; exact A2'
  · rw [A4 _ (by omega), A3, A5 _ (by omega) (by omega)]; exact A2'' v hv
  · rw [A4 _ (by omega), A3]; exact A5'
  · rw [A4 _ (by omega), A3]; exact A5'' v hv
  · rw [R4]; exact R3'
  · unfold x4C
    rw [if_neg (by omega)]
    show ai (aw X4 (y 17 0) (fun i => if i < l then sb (f (56 + i)) else ai X4 (y 17 0) i)) (y 17 0) i = _
    rw [aw_at]; exact if_pos hi
  · rw [A4 _ (by omega), A3, A5 _ (by omega) (by omega), A2 _ (by omega) (by omega), A1 _ (by omega)]
  · rw [R4, R3 _ (by omega), R5, R2, R1]
/-- the reference's alteration of its cells -/
theorem M_applied (Q : FP t y b c z f G m n r s np k j u) (hz : 62 ≤ z) (hin : tp f 54 4 ≤ z) {l6 l8 l9 : Int32} {l0 : Nat} (lb : l0 ≤ 64) (le : gi G 12 (y 5 j) = nI l0) (n6 : ¬ l6 = 0) {o1 o3 : Option Nat} {o2 o5 : Option Int32} {hm : Nat} (g1 : (l6 &&& 1) = 0 ↔ o1 = none) (g2 : (l6 &&& 2) = 0 ↔ o2 = none) (g4 : (l6 &&& 4) = 0 ↔ o5 = none) (g8 : (l6 &&& 8) = 0 ↔ o3 = none) (g16 : (l6 &&& 16) = 0 ↔ nm f 54 2 = 0) (v1 : ∀ l, o1 = some l → nm f 46 8 = l ∧ l ≤ 64) (v2 : ∀ v, o2 = some v → v = l8) (v3 : ∀ v, o3 = some v → l9 = nI v) (v5 : ∀ v, o5 = some v → v = nI (nm f 42 4)) (hl8 : nm f 54 2 ≤ 8) (hhm : 0 < nm f 54 2 → j ≠ 0 ∧ lvN n r hm ∧ gr G 7 (y 5 j) = some (y 5 hm)) {m3 : GS} (em3 : m3 = aw m (y 30 71) (mix (ai m (y 30 70)) (ai m (y 30 71)) 1743)) {P5 : Nat → Int32} (eP : P5 = aT5 (aT4 (aT3 (aT2 (aT1 (ai m (y 30 70)) (s j) l0 (gi m 78 (y 1 0)) u o1) (s j) o2) (s j) o3) (s j) (s hm) (gi m 78 (y 1 0)) u (nm f 54 2) (fun i => f (56 + i))) (s j) o5) {K : GS → Prop} (hK : w_M_commit t (w70 y m3 P5) (y 1 0) (nI z) (fun G1 _ => K G1)) : w_M_alter_412 t (y 1 0) K (nI (s j)) l6 l8 l9 m := by
  obtain ⟨P, hZ, hk, hus, hj, hu, g48, g50, h99, f90, f51⟩ := id Q
  have hs := P.s
  have hnp := Q.np31
  have hTr := Q.tr
  have x := hTr.nd hj
  have in0 : 54 + 2 + nm f 54 2 ≤ z := tp_in hin (i := 0) (by omega)
  have t18 : ai m (y 30 70) (83 * s j + 18) = nI l0 := by
    obtain ⟨-, -, -, -, -, -, -, -, -, ⟨l2, g2, w1, w2, w3, -⟩⟩ := x.2.2
    rw [w3, ← le, w2]
  have c3 : cM5 y m m3 := by rw [em3]; exact cM5.rf.aw (Or.inr rfl)
  have t3 : ai m3 (y 30 70) = ai m (y 30 70) := by rw [em3]; exact aw_ne (hs.ne (by omega))
  have hm3 := c3.fz hs P.hm
  have mm3 : MsM y m3 z f := P.mm.k (c3.kk hs)
  have e99 : ∀ T', gi (w70 y m3 T') 99 (y 1 0) = nI u := fun T' => (c3.1 _ _).trans h99
  have e78 : gi m3 78 (y 1 0) = gi m 78 (y 1 0) := c3.1 _ _
  have zT : ∀ T', FZ y (w70 y m3 T') := fun T' => w70_z hs hm3
  -- from the end to the start
  have h547 : w_M_alter_547 t (y 1 0) K (w70 y m3 P5) := ⟨hs.k 1 0, by
    have e95 : gi (w70 y m3 P5) 95 (y 1 0) = nI z := mm3.1
    rw [e95]; exact hK⟩
  obtain ⟨T4, eT4⟩ : ∃ T4, T4 = aT4 (aT3 (aT2 (aT1 (ai m (y 30 70)) (s j) l0 (gi m 78 (y 1 0)) u o1) (s j) o2) (s j) o3) (s j) (s hm) (gi m 78 (y 1 0)) u (nm f 54 2) (fun i => f (56 + i)) := ⟨_, rfl⟩
  rw [← eT4] at eP
  have h526 : w_M_alter_526 t (y 1 0) K (nI (s j)) l6 (w70 y m3 T4) := by
    cases o5 with
    | none => exact iT (g4.mpr rfl) (by rw [show P5 = T4 from eP] at h547; exact h547)
    | some v =>
      refine iF (fun w => absurd (g4.mp w) (by simp)) ⟨hs.k 1 0, M_get (p := 42) (n := 4) hs (zT _) P.hf (w70_m hs mm3) (by omega) (by omega) (M_set (c := 4) hs (zT _) x.1 (by omega) ?_)⟩
      rw [w70_s, lN_i, ← v5 v rfl]
      rw [show P5 = cS T4 (s j) 4 v from eP] at h547; exact h547
  obtain ⟨T3, eT3⟩ : ∃ T3, T3 = aT3 (aT2 (aT1 (ai m (y 30 70)) (s j) l0 (gi m 78 (y 1 0)) u o1) (s j) o2) (s j) o3 := ⟨_, rfl⟩
  rw [← eT3] at eT4
  have q3 : eqc (ai m (y 30 70)) T3 := by rw [eT3]; exact eqc.rf.a1.a2.a3
  have h484 : w_M_alter_484 t (y 1 0) K (nI (s j)) l6 (w70 y m3 T3) := by
    by_cases q : nm f 54 2 = 0
    · have : T4 = T3 := by rw [eT4]; unfold aT4; rw [if_pos q]
      rw [this] at h526
      exact iT (g16.mpr q) (iT (g16.mpr q) h526)
    · obtain ⟨hj0, hh, e7⟩ := hhm (by omega)
      have e4 : T4 = cG (nmT T3 (s j) (nm f 54 2) (fun i => f (56 + i))) (s hm) (gi m 78 (y 1 0)) u := by rw [eT4]; unfold aT4; rw [if_neg q]
      have n16 : ¬ (l6 &&& 16) = 0 := fun w => q (g16.mp w)
      refine iF n16 ⟨hs.k 1 0, M_rename (q := 54) hs hm3 P.hf mm3 x.1 in0 hl8 ?_⟩
      refine iF n16 ⟨hs.k 1 0, M_at (c := 8) hs (zT _) x.1 (by omega) ?_⟩
      have qn : eqc (ai m (y 30 70)) (nmT T3 (s j) (nm f 54 2) (fun i => f (54 + 2 + i))) := q3.nm hl8
      obtain ⟨d, hd, e7', e8, -⟩ := hTr.home hj hj0
      have : d = hm := y5 hs (by have := hTr.le hd; omega) (by have := hTr.le hh; omega) (Option.some.inj (e7'.symm.trans e7))
      subst this
      have xh := hTr.nd hh
      rw [w70_70, (qn _ x.1).2.2, e8]
      refine M_find hs (zT _) xh.1 (by rw [w70_70, (qn _ xh.1).1]; exact xh.2.2.1) (by rw [w70_70, (qn _ xh.1).2.1]; exact xh.2.2.2.1) (fun q' hq' z1 z2 => hTr.uniq hnp hh hq' (by rw [← (qn q' hq').1]; rw [w70_70] at z1; exact z1) (by rw [← (qn q' hq').2.1]; rw [w70_70] at z2; exact z2)) ?_
      rw [e99]
      refine M_changes hs (zT _) xh.1 ?_
      rw [w70_ch, e78]
      rw [e4] at h526
      exact h526
  obtain ⟨T2, eT2⟩ : ∃ T2, T2 = aT2 (aT1 (ai m (y 30 70)) (s j) l0 (gi m 78 (y 1 0)) u o1) (s j) o2 := ⟨_, rfl⟩
  rw [← eT2] at eT3
  have h467 : w_M_alter_467 t (y 1 0) K (nI (s j)) l6 l9 (w70 y m3 T2) := by
    cases o3 with
    | none => exact iT (g8.mpr rfl) (by rw [show T3 = T2 from eT3] at h484; exact h484)
    | some v =>
      refine iF (fun w => absurd (g8.mp w) (by simp)) ⟨hs.k 1 0, M_set (c := 6) hs (zT _) x.1 (by omega) ?_⟩
      rw [w70_s, v3 v rfl]
      rw [show T3 = cS T2 (s j) 6 (nI v) from eT3] at h484; exact h484
  obtain ⟨T1, eT1⟩ : ∃ T1, T1 = aT1 (ai m (y 30 70)) (s j) l0 (gi m 78 (y 1 0)) u o1 := ⟨_, rfl⟩
  rw [← eT1] at eT2
  have h452 : w_M_alter_452 t (y 1 0) K (nI (s j)) l6 l8 l9 (w70 y m3 T1) := by
    cases o2 with
    | none => exact iT (g2.mpr rfl) (by rw [show T2 = T1 from eT2] at h467; exact h467)
    | some v =>
      refine iF (fun w => absurd (g2.mp w) (by simp)) ⟨hs.k 1 0, M_set (c := 3) hs (zT _) x.1 (by omega) ?_⟩
      rw [w70_s, ← v2 v rfl]
      rw [show T2 = cS T1 (s j) 3 v from eT2] at h467
      exact h467
  refine ⟨hs.k 1 0, iF (fun w => w P.e) (iT n6 (M_begin hs P.hm ?_))⟩
  rw [← em3]
  have e70 : w70 y m3 (ai m (y 30 70)) = m3 := by rw [← t3]; exact w70_self
  cases o1 with
  | none =>
    refine iT (g1.mpr rfl) ?_
    rw [show T1 = ai m (y 30 70) from eT1, e70] at h452
    exact h452
  | some l =>
    obtain ⟨w1, w2⟩ := v1 l rfl
    refine iF (fun w => absurd (g1.mp w) (by simp)) (M_get (p := 46) (n := 8) hs hm3 P.hf mm3 (by omega) (by omega) ?_)
    rw [w1, lN_i, ← e70]
    refine M_resize hs hm3 x.1 w2 lb t18 ((c3.1 _ _).trans h99) ?_
    rw [e78]
    rw [eT1] at h452
    exact h452
end ALW
