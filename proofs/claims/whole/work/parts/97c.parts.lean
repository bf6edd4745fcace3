/-! the constructors: connections and the tree (by hand) -/
theorem giA' {G : GS} {f a b j : Nat} {v : Int32} : gi (ais G a j v) f b = gi G f b := rfl
theorem grA' {G : GS} {f a b j : Nat} {v : Int32} : gr (ais G a j v) f b = gr G f b := rfl
section PRT
variable {t t' : TY} {G G' : GS} {X : Nat → Prop} {a : Nat} {g : Nat × Nat}
/-- X has no cell of a part -/
def okX (t : TY) (X : Nat → Prop) : Prop := ∀ b k n g, inT t b k n g → k ≠ 9 → k ≠ 10 → k ≠ 55 → ¬ X b
/-- a new connection -/
def LnI (t : TY) (G : GS) (a inp out fa nw nm ct : Nat) (F : Nat → Nat) (g : Nat × Nat) : Prop := inT t a 8 0 g ∧ inT t inp 51 160 (a, 1) ∧ inT t out 51 256 (a, 2) ∧ inT t fa 56 6 (a, 3) ∧ NdI t G nw nm ct (a, 4) ∧ (∀ q, q < 6 → FiP t G a fa F q) ∧ (gr G 55 a = some inp ∧ gr G 57 a = some out ∧ gr G 62 a = some fa) ∧ gi G 56 a = 0 ∧ gi G 58 a = 0 ∧ gi G 59 a = 128 ∧ gi G 60 a = 0 ∧ gi G 61 a = 0
theorem FiP.to {a0 arr q : Nat} {F : Nat → Nat} {n : Nat} (h : FiP t G a0 arr F q) (p : xE t t' G G' X) (ha : inT t arr 56 n g) (hX : okX t X) : FiP t' G' a0 arr F q := by
  obtain ⟨h1, h2, h3⟩ := h
  have s := p.2.2 _ h1.1 (hX _ _ _ _ h1 (by omega) (by omega) (by omega))
  have s' := p.2.2 _ ha.1 (hX _ _ _ _ ha (by omega) (by omega) (by omega))
  exact ⟨p.inT h1, (s.1 46).1.trans h2, (s'.2 q).2.trans h3⟩
theorem LnI.to {inp out fa nw nm ct : Nat} {F : Nat → Nat} (h : LnI t G a inp out fa nw nm ct F g) (p : xE t t' G G' X) (hX : okX t X) : LnI t' G' a inp out fa nw nm ct F g := by
  obtain ⟨h1, h2, h3, h4, h5, h6, ⟨h7, h8, h9⟩, h10, h11, h12, h13, h14⟩ := h
  have s := p.2.2 _ h1.1 (hX _ _ _ _ h1 (by omega) (by omega) (by omega))
  exact ⟨p.inT h1, p.inT h2, p.inT h3, p.inT h4, h5.to p (fun b k n g q w => hX b k n g q (by omega) (by omega) (by omega)), fun q hq => (h6 q hq).to p h4 hX, ⟨(s.1 55).2.trans h7, (s.1 57).2.trans h8, (s.1 62).2.trans h9⟩, (s.1 56).1.trans h10, (s.1 58).1.trans h11, (s.1 59).1.trans h12, (s.1 60).1.trans h13, (s.1 61).1.trans h14⟩
theorem i_Link {K : TY → GS → Prop} (ha : inT t a 8 0 g) (hz : zA G a) (kk : ∀ t' G' inp out fa nw nm ct F, xE t t' G G' (oA a) → LnI t' G' a inp out fa nw nm ct F g → K t' G') : w_Link_init t G a K := by
  intro inp hinp t3 e3 G4 e4
  have x4 : xE t t3 G G4 (oA a) := by rw [e3, e4]; exact xE.new hinp
  refine ⟨(x4.inT ha).2.1, fun G11 e11 out hout t14 e14 G15 e15 G23 e23 G25 e25 fa hfa t28 e28 G29 e29 G38 e38 nw hnw t41 e41 G42 e42 => ?_⟩
  have x11 : xE t t3 G G11 (oA a) := by rw [e11]; exact x4.sr oA_at
  have y25 : xE t3 t14 G11 G25 (oA a) := by rw [e25, e23, e15, e14]; exact ((xE.new hout).sr oA_at).si oA_at
  have y38 : xE t14 t28 G25 G38 (oA a) := by rw [e38, e29, e28]; exact (xE.new hfa).sr oA_at
  have x25 := x11.tr y25
  have x38 := x25.tr y38
  have iinp : inT t3 inp 51 160 (a, 1) := by rw [e3]; exact inT.new
  have iout : inT t14 out 51 256 (a, 2) := by rw [e14]; exact inT.new
  have ifa : inT t28 fa 56 6 (a, 3) := by rw [e28]; exact inT.new
  have inpa : inp ≠ a := fun q => hinp (q ▸ ha.1)
  have outa : out ≠ a := fun q => hout (q ▸ (x11.2.1 a ha.1).1)
  have faa : fa ≠ a := fun q => hfa (q ▸ (x25.2.1 a ha.1).1)
  rw [e41, e42]
  refine i_Node inT.new zA.new (fun t51 G52 nm ct x51 N _ => ?_)
  have z51 : xE t28 t51 G38 G52 (fun b => b = a ∨ b = fa) := xE.fresh hnw x51
  have z51' : xE t28 t51 G38 G52 (fun _ => False) := xE.fresh hnw x51
  have r38 : (gr G38 55 a = some inp ∧ gr G38 57 a = some out ∧ gr G38 62 a = some fa) ∧ gi G38 56 a = 0 ∧ gi G38 58 a = 0 ∧ gi G38 59 a = 128 ∧ gi G38 60 a = 0 ∧ gi G38 61 a = 0 := by
    rw [e38, e29, e25, e23, e15, e11, e4]
    refine ⟨⟨?_, ?_, ?_⟩, ?_, ?_, ?_, ?_, ?_⟩ <;> simp [giS, giR, giZ, grS, grR, grZ, inpa.symm, outa.symm, faa.symm, (hz.1 56).1, (hz.1 58).1, (hz.1 60).1, (hz.1 61).1]
  have ha28 := x38.inT ha
  have s51 := z51'.2.2 a ha28.1 (fun w => w)
  refine i_fids (t := t51) (G := G52) (g := g) (ga := (a, 3)) (fun t' G' F xF hF => ?_) 6 0 t51 G52 (fun _ => 0) rfl xE.rf (z51.inT ha28) ((s51.1 62).2.trans r38.1.2.2) (z51.inT ifa) (fun q hq => absurd hq (by omega))
  have xF' : xE t51 t' G52 G' (fun b => b = a ∨ b = fa) := xF.mono (fun b _ w => Or.inr w)
  have fin : xE t t' G G' (oA a) := (((x38.mono (Z := fun b => b = a ∨ b = fa) (fun b _ w => Or.inl w)).tr z51).tr xF').mono (fun b hb w => by
    rcases w with w | w
    · exact w
    · exact absurd (w ▸ (x25.2.1 b hb).1) hfa)
  have fne : ∀ b k n g, inT t51 b k n g → k ≠ 56 → ¬ oA fa b := fun b k n g h hk w => by
    have := h.2.1
    rw [show b = fa from w, (z51.inT ifa).2.1] at this
    exact hk this.symm
  have sF := xF.2.2 a (z51.inT ha28).1 (fne _ _ _ _ (z51.inT ha28) (by omega))
  obtain ⟨⟨r1, r2, r3⟩, r4, r5, r6, r7, r8⟩ := r38
  exact kk t' G' inp out fa nw nm ct F fin ⟨xF.inT (z51.inT ha28), xF.inT (z51.inT ((y38.inT (y25.inT iinp)))), xF.inT (z51.inT (y38.inT iout)), xF.inT (z51.inT ifa), N.to xF (fun b k n g h w => fne b k n g h (by omega)), hF, ⟨((sF.1 55).2.trans (s51.1 55).2).trans r1, ((sF.1 57).2.trans (s51.1 57).2).trans r2, ((sF.1 62).2.trans (s51.1 62).2).trans r3⟩, ((sF.1 56).1.trans (s51.1 56).1).trans r4, ((sF.1 58).1.trans (s51.1 58).1).trans r5, ((sF.1 59).1.trans (s51.1 59).1).trans r6, ((sF.1 60).1.trans (s51.1 60).1).trans r7, ((sF.1 61).1.trans (s51.1 61).1).trans r8⟩
/-- the root as it stands at the start -/
def RtI (t : TY) (G : GS) (a nm ct : Nat) (g : Nat × Nat) : Prop := inT t a 1 0 g ∧ inT t nm 51 8 (a, 1) ∧ inT t ct 51 64 (a, 2) ∧ (∀ f, gi G f a = if f = 2 then -2147483139 else if f = 10 then 1 else 0) ∧ (gr G 4 a = some (tad t 0) ∧ gr G 5 a = some (tad t 0) ∧ gr G 6 a = some (tad t 0) ∧ gr G 7 a = none ∧ gr G 9 a = some nm ∧ gr G 11 a = some ct) ∧ ai G nm 0 = 47 ∧ ∀ j, ai G ct j = 0
/-- the new tree -/
def TrI (t : TY) (G : GS) (a root rn rc arr : Nat) (P : Nat → Nat × Nat × Nat) (g : Nat × Nat) : Prop := inT t a 2 0 g ∧ RtI t G root rn rc (a, 1) ∧ inT t arr 54 20 (a, 2) ∧ (gr G 13 a = some root ∧ gr G 14 a = some arr ∧ gi G 15 a = 0 ∧ gi G 16 a = 1) ∧ ∀ q, q < 20 → NdP t G a arr P q
theorem RtI.to {nm ct : Nat} (h : RtI t G a nm ct g) (p : xE t t' G G' X) (hX : ∀ b k n g, inT t b k n g → k = 1 ∨ k = 51 → ¬ X b) : RtI t' G' a nm ct g := by
  obtain ⟨a1, b1, c1, d1, ⟨e1, e2, e3, e4, e5, e6⟩, f1, g1⟩ := h
  have sa := p.2.2 a a1.1 (hX _ _ _ _ a1 (Or.inl rfl))
  have sn := p.2.2 nm b1.1 (hX _ _ _ _ b1 (Or.inr rfl))
  have sc := p.2.2 ct c1.1 (hX _ _ _ _ c1 (Or.inr rfl))
  have r : ∀ f, gr G' f a = gr G f a := fun f => (sa.1 f).2
  exact ⟨p.inT a1, p.inT b1, p.inT c1, fun f => (sa.1 f).1.trans (d1 f), ⟨by rw [r, tad_e p.1]; exact e1, by rw [r, tad_e p.1]; exact e2, by rw [r, tad_e p.1]; exact e3, by rw [r]; exact e4, by rw [r]; exact e5, by rw [r]; exact e6⟩, (sn.2 0).1.trans f1, fun j => (sc.2 j).1.trans (g1 j)⟩
theorem TrI.to {root rn rc arr : Nat} {P : Nat → Nat × Nat × Nat} (h : TrI t G a root rn rc arr P g) (p : xE t t' G G' X) (hX : okX t X) : TrI t' G' a root rn rc arr P g := by
  obtain ⟨h1, h2, h3, ⟨h4, h5, h6, h7⟩, h8⟩ := h
  have s := p.2.2 _ h1.1 (hX _ _ _ _ h1 (by omega) (by omega) (by omega))
  have s' := p.2.2 _ h3.1 (hX _ _ _ _ h3 (by omega) (by omega) (by omega))
  exact ⟨p.inT h1, h2.to p (fun b k n g q w => hX b k n g q (by omega) (by omega) (by omega)), p.inT h3, ⟨(s.1 13).2.trans h4, (s.1 14).2.trans h5, (s.1 15).1.trans h6, (s.1 16).1.trans h7⟩, fun q hq => ⟨(h8 q hq).1.to p (fun b k n g q w => hX b k n g q (by omega) (by omega) (by omega)), (s'.2 q).2.trans (h8 q hq).2⟩⟩
theorem i_Tree {K : TY → GS → Prop} (ha : inT t a 2 0 g) (hz : zA G a) (kk : ∀ t' G' root rn rc arr P, xE t t' G G' (oA a) → TrI t' G' a root rn rc arr P g → K t' G') : w_Tree_init t G a K := by
  intro root hroot t3 e3 G4 e4
  rw [e3, e4]
  refine i_Node inT.new zA.new (fun t9 G10 rn rc x9 N hrn => ?_)
  have z9 : xE t t9 G G10 (oA a) := xE.fresh hroot x9
  have z9' : xE t t9 G G10 (fun _ => False) := xE.fresh hroot x9
  have ha9 := z9.inT ha
  have s9 := z9'.2.2 a ha.1 (fun w => w)
  refine ⟨ha9.2.1, fun G17 e17 arr harr t20 e20 G21 e21 G29 e29 G31 e31 => ?_⟩
  obtain ⟨N1, N2, N3, N4, ⟨n4, n5, n6, n7, n9, n11⟩, N6, N7⟩ := id N
  have ra : root ≠ a := N1.ne ha9 (by omega)
  have rra : rn ≠ a := N2.ne ha9 (by omega)
  have rca : rc ≠ a := N3.ne ha9 (by omega)
  have rnr : rn ≠ root := N2.ne N1 (by omega)
  have rcr : rc ≠ root := N3.ne N1 (by omega)
  have rcn : rc ≠ rn := fun q => by
    have h1 := N3.2.2.1
    rw [q, N2.2.2.1] at h1
    omega
  have aa : arr ≠ a := fun q => harr (q ▸ ha9.1)
  have ar' : arr ≠ root := fun q => harr (q ▸ N1.1)
  have an : arr ≠ rn := fun q => harr (q ▸ N2.1)
  have ac : arr ≠ rc := fun q => harr (q ▸ N3.1)
  have iarr : inT t20 arr 54 20 (a, 2) := by rw [e20]; exact inT.new
  have y31 : xE t9 t20 G10 G31 (oA a) := by rw [e31, e29, e21, e17, e20]; exact (((xE.rf.sr oA_at).nw harr).sr oA_at).si oA_at
  have r31 : gr G31 13 a = some root := by rw [e31, e29, e21, e17]; simp [grS, grR, grZ, aa.symm]
  have R20 := y31.inT N1
  have n20 := y31.inT N2
  refine ⟨root, r31, R20.2.1, fun G35 e35 => ⟨root, by rw [e35]; exact r31, R20.2.1, fun G39 e39 => ⟨root, by rw [e39, e35]; exact r31, R20.2.1, rn, ?_, n20.2.1, by rw [n20.2.2.1]; exact vp_lt (n := 0) (N := 8) (by omega), fun G45 e45 => ⟨root, ?_, R20.2.1, fun G49 e49 => ?_⟩⟩⟩⟩
  · rw [e39, e35, e31, e29, e21, e17]
    simp [grS, grR, grZ, ar'.symm, ra]
    exact n9
  · rw [e45, e39, e35]; exact r31
  have e45 : G45 = ais G39 rn 0 47 := e45
  have y49 : xE t9 t20 G10 G49 (fun b => b = a ∨ b = root ∨ b = rn) := by
    rw [e49, e45, e39, e35]
    exact ((((y31.mono (Z := fun b => b = a ∨ b = root ∨ b = rn) (fun b _ w => Or.inl w)).si (Or.inr (Or.inl rfl))).si (Or.inr (Or.inl rfl))).ais (Or.inr (Or.inr rfl))).si (Or.inr (Or.inl rfl))
  have RI : RtI t20 G49 root rn rc (a, 1) := by
    have td : tad t20 0 = tad t9 0 := tad_e y31.1 0
    refine ⟨y31.inT N1, n20, y31.inT N3, fun f => ?_, ⟨?_, ?_, ?_, ?_, ?_, ?_⟩, ?_, fun j => ?_⟩
    · rw [e49, e45, e39, e35, e31, e29, e21, e17]
      simp only [giS, giR, giZ, giA', ra, ar'.symm, and_false, and_true, if_false, N4]
      by_cases f10 : f = 10
      · simp [f10]
      · by_cases f2 : f = 2
        · simp [f2]
        · by_cases f0 : f = 0
          · simp [f0]
          · simp [f10, f2, f0]
    · rw [td, e49, e45, e39, e35, e31, e29, e21, e17]; simp [grS, grR, grZ, grA', ra, ar'.symm]; exact n4
    · rw [td, e49, e45, e39, e35, e31, e29, e21, e17]; simp [grS, grR, grZ, grA', ra, ar'.symm]; exact n5
    · rw [td, e49, e45, e39, e35, e31, e29, e21, e17]; simp [grS, grR, grZ, grA', ra, ar'.symm]; exact n6
    · rw [e49, e45, e39, e35, e31, e29, e21, e17]; simp [grS, grR, grZ, grA', ra, ar'.symm]; exact n7
    · rw [e49, e45, e39, e35, e31, e29, e21, e17]; simp [grS, grR, grZ, grA', ra, ar'.symm]; exact n9
    · rw [e49, e45, e39, e35, e31, e29, e21, e17]; simp [grS, grR, grZ, grA', ra, ar'.symm]; exact n11
    · rw [e49, e45]; simp [aiS', aiA]
    · rw [e49, e45, e39, e35, e31, e29, e21, e17]; simp [aiS', aiR', aiZ, aiA, rcn, ac.symm]; exact N7 j
  have f49 : gr G49 13 a = some root ∧ gr G49 14 a = some arr ∧ gi G49 15 a = 0 ∧ gi G49 16 a = 1 := by
    rw [e49, e45, e39, e35, e31, e29, e21, e17]
    refine ⟨?_, ?_, ?_, ?_⟩ <;> simp [giS, giR, giZ, giA', grS, grR, grZ, grA', aa.symm, ra.symm]
    exact (s9.1 15).1.trans (hz.1 15).1
  have ha20 := y31.inT ha9
  refine i_pool (t := t20) (G := G49) (g := g) (ga := (a, 2)) (fun t' G' P xP hP => ?_) 20 0 t20 G49 (fun _ => (0, 0, 0)) rfl xE.rf ha20 f49.2.1 iarr (fun q hq => absurd hq (by omega))
  have fne : ∀ b k n g, inT t20 b k n g → k ≠ 54 → ¬ oA arr b := fun b k n g h hk w => by
    have := h.2.1
    rw [show b = arr from w, iarr.2.1] at this
    exact hk this.symm
  have sP := xP.2.2 a ha20.1 (fne _ _ _ _ ha20 (by omega))
  refine kk t' G' root rn rc arr P ?_ ⟨xP.inT ha20, RI.to xP (fun b k n g h w => fne b k n g h (by omega)), xP.inT iarr, ⟨(sP.1 13).2.trans f49.1, (sP.1 14).2.trans f49.2.1, (sP.1 15).1.trans f49.2.2.1, (sP.1 16).1.trans f49.2.2.2⟩, hP⟩
  refine ⟨xP.1.trans (y49.1.trans z9.1), fun b hb => ?_, fun b hb nb => ?_⟩
  · have a1 := z9.2.1 b hb
    have a2 := y49.2.1 b a1.1
    have a3 := xP.2.1 b a2.1
    exact ⟨a3.1, a3.2.1.trans (a2.2.1.trans a1.2.1), a3.2.2.1.trans (a2.2.2.1.trans a1.2.2.1), a3.2.2.2.trans (a2.2.2.2.trans a1.2.2.2)⟩
  · have a1 := z9.2.1 b hb
    have b2 : ¬ (b = a ∨ b = root ∨ b = rn) := fun w => by
      rcases w with w | w | w
      · exact nb w
      · exact hroot (w ▸ hb)
      · exact hrn (dm_ad (w ▸ hb))
    have b3 : ¬ oA arr b := fun w => harr ((show b = arr from w) ▸ a1.1)
    exact ((z9.2.2 b hb nb).tr (y49.2.2 b a1.1 b2)).tr (xP.2.2 b (y49.2.1 b a1.1).1 b3)
end PRT
