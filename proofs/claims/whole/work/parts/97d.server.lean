/-! the constructors: the server (by hand) -/
section SER
variable {t t' : TY} {G G' : GS} {X : Nat → Prop} {a : Nat} {g : Nat × Nat}
def LgI (t : TY) (G : GS) (a : Nat) (g : Nat × Nat) : Prop := inT t a 3 0 g ∧ ∀ f, gi G f a = if f = 18 then -1 else if f = 19 then 1 else 0
def ChI (t : TY) (G : GS) (a c1 c2 : Nat) (g : Nat × Nat) : Prop := inT t a 4 0 g ∧ inT t c1 51 8 (a, 1) ∧ inT t c2 51 64 (a, 2) ∧ gr G 31 a = some c1 ∧ gr G 33 a = some c2
def MsI (t : TY) (G : GS) (a m1 m2 m3 : Nat) (g : Nat × Nat) : Prop := inT t a 5 0 g ∧ inT t m1 51 128 (a, 1) ∧ inT t m2 50 4 (a, 2) ∧ inT t m3 50 4 (a, 3) ∧ gr G 36 a = some m1 ∧ gr G 40 a = some m2 ∧ gr G 41 a = some m3
def AnI (t : TY) (G : GS) (a b1 : Nat) (g : Nat × Nat) : Prop := inT t a 6 0 g ∧ inT t b1 51 128 (a, 1) ∧ gr G 44 a = some b1
theorem LgI.to (h : LgI t G a g) (p : xE t t' G G' X) (hX : okX t X) : LgI t' G' a g := by
  have s := p.2.2 _ h.1.1 (hX _ _ _ _ h.1 (by omega) (by omega) (by omega))
  exact ⟨p.inT h.1, fun f => (s.1 f).1.trans (h.2 f)⟩
theorem ChI.to {c1 c2 : Nat} (h : ChI t G a c1 c2 g) (p : xE t t' G G' X) (hX : okX t X) : ChI t' G' a c1 c2 g := by
  obtain ⟨h1, h2, h3, h4, h5⟩ := h
  have s := p.2.2 _ h1.1 (hX _ _ _ _ h1 (by omega) (by omega) (by omega))
  exact ⟨p.inT h1, p.inT h2, p.inT h3, (s.1 31).2.trans h4, (s.1 33).2.trans h5⟩
theorem MsI.to {m1 m2 m3 : Nat} (h : MsI t G a m1 m2 m3 g) (p : xE t t' G G' X) (hX : okX t X) : MsI t' G' a m1 m2 m3 g := by
  obtain ⟨h1, h2, h3, h4, h5, h6, h7⟩ := h
  have s := p.2.2 _ h1.1 (hX _ _ _ _ h1 (by omega) (by omega) (by omega))
  exact ⟨p.inT h1, p.inT h2, p.inT h3, p.inT h4, (s.1 36).2.trans h5, (s.1 40).2.trans h6, (s.1 41).2.trans h7⟩
theorem AnI.to {b1 : Nat} (h : AnI t G a b1 g) (p : xE t t' G G' X) (hX : okX t X) : AnI t' G' a b1 g := by
  obtain ⟨h1, h2, h3⟩ := h
  have s := p.2.2 _ h1.1 (hX _ _ _ _ h1 (by omega) (by omega) (by omega))
  exact ⟨p.inT h1, p.inT h2, (s.1 44).2.trans h3⟩
theorem i_Log {K : TY → GS → Prop} (ha : inT t a 3 0 g) (hz : zA G a) (kk : ∀ G', xE t t G G' (oA a) → LgI t G' a g → K t G') : w_Log_init t G a K := by
  refine ⟨ha.2.1, fun G3 e3 G5 e5 => kk G5 (by rw [e5, e3]; exact (xE.rf.si oA_at).si oA_at) ⟨ha, fun f => ?_⟩⟩
  rw [e5, e3]
  simp only [giS, and_true, (hz.1 f).1]
  by_cases f19 : f = 19
  · simp [f19]
  · simp [f19]
theorem i_Change {K : TY → GS → Prop} (ha : inT t a 4 0 g) (kk : ∀ t' G' c1 c2, xE t t' G G' (oA a) → ChI t' G' a c1 c2 g → K t' G') : w_Change_init t G a K := by
  refine ⟨ha.2.1, fun G3 e3 G5 e5 c1 h1 t8 e8 G9 e9 G16 e16 c2 h2 t19 e19 G20 e20 G28 e28 => ?_⟩
  have x16 : xE t t8 G G16 (oA a) := by rw [e16, e9, e5, e3, e8]; exact (((xE.rf.sr oA_at).sr oA_at).nw h1).sr oA_at
  have y28 : xE t8 t19 G16 G28 (oA a) := by rw [e28, e20, e19]; exact (xE.new h2).sr oA_at
  have i1 : inT t8 c1 51 8 (a, 1) := by rw [e8]; exact inT.new
  have i2 : inT t19 c2 51 64 (a, 2) := by rw [e19]; exact inT.new
  have n1 : c1 ≠ a := fun q => h1 (q ▸ ha.1)
  have n2 : c2 ≠ a := fun q => h2 (q ▸ (x16.2.1 a ha.1).1)
  refine kk t19 G28 c1 c2 (x16.tr y28) ⟨(x16.tr y28).inT ha, y28.inT i1, i2, ?_, ?_⟩
  · rw [e28, e20, e16]; simp [grR, grZ, n2.symm]
  · rw [e28]; simp [grR]
theorem i_Message {K : TY → GS → Prop} (ha : inT t a 5 0 g) (kk : ∀ t' G' m1 m2 m3, xE t t' G G' (oA a) → MsI t' G' a m1 m2 m3 g → K t' G') : w_Message_init t G a K := by
  intro m1 h1 t3 e3 G4 e4
  have x4 : xE t t3 G G4 (oA a) := by rw [e4, e3]; exact xE.new h1
  refine ⟨(x4.inT ha).2.1, fun G11 e11 m2 h2 t14 e14 G15 e15 G23 e23 m3 h3 t26 e26 G27 e27 G36 e36 => ?_⟩
  have x11 : xE t t3 G G11 (oA a) := by rw [e11]; exact x4.sr oA_at
  have y23 : xE t3 t14 G11 G23 (oA a) := by rw [e23, e15, e14]; exact (xE.new h2).sr oA_at
  have y36 : xE t14 t26 G23 G36 (oA a) := by rw [e36, e27, e26]; exact (xE.new h3).sr oA_at
  have x23 := x11.tr y23
  have i1 : inT t3 m1 51 128 (a, 1) := by rw [e3]; exact inT.new
  have i2 : inT t14 m2 50 4 (a, 2) := by rw [e14]; exact inT.new
  have i3 : inT t26 m3 50 4 (a, 3) := by rw [e26]; exact inT.new
  have n2 : m2 ≠ a := fun q => h2 (q ▸ (x11.2.1 a ha.1).1)
  have n3 : m3 ≠ a := fun q => h3 (q ▸ (x23.2.1 a ha.1).1)
  refine kk t26 G36 m1 m2 m3 (x23.tr y36) ⟨(x23.tr y36).inT ha, y36.inT (y23.inT i1), y36.inT i2, i3, ?_, ?_, ?_⟩
  · rw [e36, e27, e23, e15, e11]; simp [grR, grZ, n2.symm, n3.symm]
  · rw [e36, e27, e23]; simp [grR, grZ, n3.symm]
  · rw [e36]; simp [grR]
theorem i_Answer {K : TY → GS → Prop} (ha : inT t a 6 0 g) (kk : ∀ t' G' b1, xE t t' G G' (oA a) → AnI t' G' a b1 g → K t' G') : w_Answer_init t G a K := by
  intro b1 h1 t3 e3 G4 e4
  have x4 : xE t t3 G G4 (oA a) := by rw [e4, e3]; exact xE.new h1
  refine ⟨(x4.inT ha).2.1, fun G11 e11 => kk t3 G11 b1 (by rw [e11]; exact x4.sr oA_at) ⟨x4.inT ha, by rw [e3]; exact inT.new, by rw [e11]; simp [grR]⟩⟩
/-- what a connection is made of -/
abbrev LnS : Type := Nat × Nat × Nat × Nat × Nat × Nat × Nat × (Nat → Nat)
abbrev LnS.lk (s : LnS) : Nat := s.1
abbrev LnS.inp (s : LnS) : Nat := s.2.1
abbrev LnS.out (s : LnS) : Nat := s.2.2.1
abbrev LnS.fa (s : LnS) : Nat := s.2.2.2.1
abbrev LnS.nw (s : LnS) : Nat := s.2.2.2.2.1
abbrev LnS.nm (s : LnS) : Nat := s.2.2.2.2.2.1
abbrev LnS.ct (s : LnS) : Nat := s.2.2.2.2.2.2.1
abbrev LnS.F (s : LnS) : Nat → Nat := s.2.2.2.2.2.2.2
def LnP (t : TY) (G : GS) (a0 la : Nat) (L : Nat → LnS) (q : Nat) : Prop := LnI t G (L q).lk (L q).inp (L q).out (L q).fa (L q).nw (L q).nm (L q).ct (L q).F (a0, 100 + q) ∧ ar G la q = some (L q).lk
theorem i_links {a0 la : Nat} {ga : Nat × Nat} {K : TY → GS → Prop} (kk : ∀ t' G' L, xE t t' G G' (oA la) → (∀ q, q < 2 → LnP t' G' a0 la L q) → K t' G') : ∀ (n i : Nat) (t1 : TY) (G1 : GS) (L : Nat → LnS), i + n = 2 → xE t t1 G G1 (oA la) → inT t1 a0 9 0 g → gr G1 68 a0 = some la → inT t1 la 55 2 ga → (∀ q, q < i → LnP t1 G1 a0 la L q) → w_S_init_69 a0 K n i t1 G1 := by
  intro n
  induction n with
  | zero => intro i t1 G1 P hi x _ _ _ hP; exact kk t1 G1 P x (fun q hq => hP q (by omega))
  | succ n ih =>
    intro i t1 G1 L hi x h0 h68 hla hP
    refine ⟨h0.2.1, fun a2 ha2 t4 e4 G5 e5 => ?_⟩
    rw [e4, e5]
    refine i_Link inT.new zA.new (fun t11 G12 inp out fa nw nm ct F x11 N => ?_)
    have xf : xE t1 t11 G1 G12 (oA la) := xE.fresh ha2 x11
    have xf' : xE t1 t11 G1 G12 (fun _ => False) := xE.fresh ha2 x11
    have sla := xf'.2.2 la hla.1 (fun w => w)
    have s0 := xf'.2.2 a0 h0.1 (fun w => w)
    have h11 := xf.inT hla
    refine ⟨la, h68, h11.2.1, by rw [h11.2.2.1]; exact vp_lt (N := 2) (by omega), fun G21 e21 => ?_⟩
    rw [nI_clamp (by omega)] at e21
    have y21 : xE t11 t11 G12 G21 (oA la) := by rw [e21]; exact xE.rf.ars oA_at
    have x21 : xE t1 t11 G1 G21 (oA la) := xf.tr y21
    have ok : ∀ t, inT t la 55 2 ga → okX t (oA la) := fun t hl b k n g hb _ _ h55 w => by
      have := hb.2.1
      rw [show b = la from w, hl.2.1] at this
      omega
    refine ih (i + 1) t11 G21 (fun q => if q = i then ⟨a2, inp, out, fa, nw, nm, ct, F⟩ else L q) (by omega) (x.tr x21) (xf.inT h0) ?_ h11 (fun q hq => ?_)
    · rw [e21]
      show gr G12 68 a0 = _
      rw [(s0.1 68).2]; exact h68
    · by_cases e : q = i
      · have eP : (fun q => if q = i then (⟨a2, inp, out, fa, nw, nm, ct, F⟩ : LnS) else L q) q = ⟨a2, inp, out, fa, nw, nm, ct, F⟩ := if_pos e
        unfold LnP
        rw [eP, e]
        exact ⟨N.to y21 (ok _ h11), by rw [e21, arA, if_pos ⟨rfl, rfl⟩]⟩
      · obtain ⟨M, m2⟩ := hP q (by omega)
        have eP : (fun q => if q = i then (⟨a2, inp, out, fa, nw, nm, ct, F⟩ : LnS) else L q) q = L q := if_neg e
        unfold LnP
        rw [eP]
        refine ⟨M.to x21 (ok _ hla), ?_⟩
        rw [e21, arA, if_neg (fun w => e w.2), (sla.2 q).2]; exact m2
/-- the server's parts -/
abbrev SvS : Type := Nat × Nat × Nat × Nat × Nat × (Nat → Nat × Nat × Nat) × Nat × Nat × Nat × Nat × Nat × Nat × Nat × Nat × Nat × Nat × Nat × (Nat → LnS)
abbrev SvS.tr (s : SvS) : Nat := s.1
abbrev SvS.root (s : SvS) : Nat := s.2.1
abbrev SvS.rn (s : SvS) : Nat := s.2.2.1
abbrev SvS.rc (s : SvS) : Nat := s.2.2.2.1
abbrev SvS.arr (s : SvS) : Nat := s.2.2.2.2.1
abbrev SvS.P (s : SvS) : Nat → Nat × Nat × Nat := s.2.2.2.2.2.1
abbrev SvS.lg (s : SvS) : Nat := s.2.2.2.2.2.2.1
abbrev SvS.ch (s : SvS) : Nat := s.2.2.2.2.2.2.2.1
abbrev SvS.c1 (s : SvS) : Nat := s.2.2.2.2.2.2.2.2.1
abbrev SvS.c2 (s : SvS) : Nat := s.2.2.2.2.2.2.2.2.2.1
abbrev SvS.ms (s : SvS) : Nat := s.2.2.2.2.2.2.2.2.2.2.1
abbrev SvS.m1 (s : SvS) : Nat := s.2.2.2.2.2.2.2.2.2.2.2.1
abbrev SvS.m2 (s : SvS) : Nat := s.2.2.2.2.2.2.2.2.2.2.2.2.1
abbrev SvS.m3 (s : SvS) : Nat := s.2.2.2.2.2.2.2.2.2.2.2.2.2.1
abbrev SvS.an (s : SvS) : Nat := s.2.2.2.2.2.2.2.2.2.2.2.2.2.2.1
abbrev SvS.b1 (s : SvS) : Nat := s.2.2.2.2.2.2.2.2.2.2.2.2.2.2.2.1
abbrev SvS.la (s : SvS) : Nat := s.2.2.2.2.2.2.2.2.2.2.2.2.2.2.2.2.1
abbrev SvS.L (s : SvS) : Nat → LnS := s.2.2.2.2.2.2.2.2.2.2.2.2.2.2.2.2.2
def SvI (t : TY) (G : GS) (a : Nat) (s : SvS) (g : Nat × Nat) : Prop := inT t a 9 0 g ∧ TrI t G s.tr s.root s.rn s.rc s.arr s.P (a, 1) ∧ LgI t G s.lg (a, 2) ∧ ChI t G s.ch s.c1 s.c2 (a, 3) ∧ MsI t G s.ms s.m1 s.m2 s.m3 (a, 4) ∧ AnI t G s.an s.b1 (a, 5) ∧ inT t s.la 55 2 (a, 6) ∧ (∀ q, q < 2 → LnP t G a s.la s.L q) ∧ (gr G 63 a = some s.tr ∧ gr G 64 a = some s.lg ∧ gr G 65 a = some s.ch ∧ gr G 66 a = some s.ms ∧ gr G 67 a = some s.an ∧ gr G 68 a = some s.la) ∧ gi G 69 a = 0
theorem i_S {K : TY → GS → Prop} (ha : inT t a 9 0 g) (hz : zA G a) (kk : ∀ t' G' s, xE t t' G G' (oA a) → SvI t' G' a s g → K t' G') : w_S_init t G a K := by
  have ok9 : ∀ t, inT t a 9 0 g → okX t (oA a) := fun t hl b k n g hb h9 _ _ w => by
    have := hb.2.1
    rw [show b = a from w, hl.2.1] at this
    omega
  have okF : ∀ t, okX t (fun _ => False) := fun t b k n g _ _ _ _ w => w
  intro tr htr t3 e3 G4 e4
  rw [e3, e4]
  refine i_Tree inT.new zA.new (fun t9 G10 root rn rc arr P x9 T => ?_)
  have f9 : xE t t9 G G10 (fun _ => False) := xE.fresh htr x9
  have a9 := f9.inT ha
  have s9 := f9.2.2 a ha.1 (fun w => w)
  refine ⟨a9.2.1, fun G17 e17 lg hlg t20 e20 G21 e21 => ?_⟩
  have T17 : TrI t9 G17 tr root rn rc arr P (a, 1) := T.to (X := oA a) (by rw [e17]; exact xE.rf.sr oA_at) (ok9 _ a9)
  have g17 : gr G17 63 a = some tr ∧ gi G17 69 a = 0 := ⟨by rw [e17]; simp [grR], by rw [e17]; exact (s9.1 69).1.trans (hz.1 69).1⟩
  rw [e20, e21]
  refine i_Log inT.new zA.new (fun G29 x29 LG => ?_)
  have f29 : xE t9 (adT t9 lg 3 0 (a, 2)) G17 G29 (fun _ => False) := xE.fresh hlg x29
  have a29 := f29.inT a9
  have s29 := f29.2.2 a a9.1 (fun w => w)
  intro G37 e37 ch hch t40 e40 G41 e41
  have w37 : xE (adT t9 lg 3 0 (a, 2)) (adT t9 lg 3 0 (a, 2)) G29 G37 (oA a) := by rw [e37]; exact xE.rf.sr oA_at
  have T37 := (T17.to f29 (okF _)).to w37 (ok9 _ a29)
  have L37 := LG.to w37 (ok9 _ a29)
  have g37 : gr G37 63 a = some tr ∧ gr G37 64 a = some lg ∧ gi G37 69 a = 0 := ⟨by rw [e37]; simp [grR]; exact (s29.1 63).2.trans g17.1, by rw [e37]; simp [grR], by rw [e37]; exact (s29.1 69).1.trans g17.2⟩
  rw [e40, e41]
  refine i_Change inT.new (fun t49 G50 c1 c2 x50 C => ?_)
  have f50 : xE (adT t9 lg 3 0 (a, 2)) t49 G37 G50 (fun _ => False) := xE.fresh hch x50
  have a50 := f50.inT a29
  have s50 := f50.2.2 a a29.1 (fun w => w)
  intro G59 e59 ms hms t62 e62 G63 e63
  have w59 : xE t49 t49 G50 G59 (oA a) := by rw [e59]; exact xE.rf.sr oA_at
  have T59 := (T37.to f50 (okF _)).to w59 (ok9 _ a50)
  have L59 := (L37.to f50 (okF _)).to w59 (ok9 _ a50)
  have C59 := C.to w59 (ok9 _ a50)
  have g59 : gr G59 63 a = some tr ∧ gr G59 64 a = some lg ∧ gr G59 65 a = some ch ∧ gi G59 69 a = 0 := ⟨by rw [e59]; simp [grR]; exact (s50.1 63).2.trans g37.1, by rw [e59]; simp [grR]; exact (s50.1 64).2.trans g37.2.1, by rw [e59]; simp [grR], by rw [e59]; exact (s50.1 69).1.trans g37.2.2⟩
  rw [e62, e63]
  refine i_Message inT.new (fun t72 G73 m1 m2 m3 x73 M => ?_)
  have f73 : xE t49 t72 G59 G73 (fun _ => False) := xE.fresh hms x73
  have a73 := f73.inT a50
  have s73 := f73.2.2 a a50.1 (fun w => w)
  intro G83 e83 an han t86 e86 G87 e87
  have w83 : xE t72 t72 G73 G83 (oA a) := by rw [e83]; exact xE.rf.sr oA_at
  have T83 := (T59.to f73 (okF _)).to w83 (ok9 _ a73)
  have L83 := (L59.to f73 (okF _)).to w83 (ok9 _ a73)
  have C83 := (C59.to f73 (okF _)).to w83 (ok9 _ a73)
  have M83 := M.to w83 (ok9 _ a73)
  have g83 : gr G83 63 a = some tr ∧ gr G83 64 a = some lg ∧ gr G83 65 a = some ch ∧ gr G83 66 a = some ms ∧ gi G83 69 a = 0 := ⟨by rw [e83]; simp [grR]; exact (s73.1 63).2.trans g59.1, by rw [e83]; simp [grR]; exact (s73.1 64).2.trans g59.2.1, by rw [e83]; simp [grR]; exact (s73.1 65).2.trans g59.2.2.1, by rw [e83]; simp [grR], by rw [e83]; exact (s73.1 69).1.trans g59.2.2.2⟩
  rw [e86, e87]
  refine i_Answer inT.new (fun t97 G98 b1 x98 A => ?_)
  have f98 : xE t72 t97 G83 G98 (fun _ => False) := xE.fresh han x98
  have a98 := f98.inT a73
  have s98 := f98.2.2 a a73.1 (fun w => w)
  intro G109 e109 la hla t112 e112 G113 e113 G125 e125
  have w109 : xE t97 t112 G98 G125 (oA a) := by rw [e125, e113, e109, e112]; exact ((xE.rf.sr oA_at).nw hla).sr oA_at
  have laa : la ≠ a := fun q => hla (q ▸ a98.1)
  have T125 := (T83.to f98 (okF _)).to w109 (ok9 _ a98)
  have L125 := (L83.to f98 (okF _)).to w109 (ok9 _ a98)
  have C125 := (C83.to f98 (okF _)).to w109 (ok9 _ a98)
  have M125 := (M83.to f98 (okF _)).to w109 (ok9 _ a98)
  have A125 := A.to w109 (ok9 _ a98)
  have g125 : gr G125 63 a = some tr ∧ gr G125 64 a = some lg ∧ gr G125 65 a = some ch ∧ gr G125 66 a = some ms ∧ gr G125 67 a = some an ∧ gr G125 68 a = some la ∧ gi G125 69 a = 0 := by
    rw [e125, e113, e109]
    refine ⟨?_, ?_, ?_, ?_, ?_, ?_, ?_⟩ <;> simp [giR, giZ, grR, grZ, laa.symm]
    · exact (s98.1 63).2.trans g83.1
    · exact (s98.1 64).2.trans g83.2.1
    · exact (s98.1 65).2.trans g83.2.2.1
    · exact (s98.1 66).2.trans g83.2.2.2.1
    · exact (s98.1 69).1.trans g83.2.2.2.2
  have a125 := w109.inT a98
  have ila : inT t112 la 55 2 (a, 6) := by rw [e112]; exact inT.new
  refine i_links (t := t112) (G := G125) (g := g) (ga := (a, 6)) (fun t' G' L xL hL => ?_) 2 0 t112 G125 (fun _ => ⟨0, 0, 0, 0, 0, 0, 0, fun _ => 0⟩) rfl xE.rf a125 g125.2.2.2.2.2.1 ila (fun q hq => absurd hq (by omega))
  have okL : okX t112 (oA la) := fun b k n g hb _ _ h55 w => by
    have := hb.2.1
    rw [show b = la from w, ila.2.1] at this
    omega
  have sL := xL.2.2 a a125.1 (fun w => laa (show a = la from w).symm)
  have all : xE t t112 G G125 (oA a) := by
    have q1 : xE t t9 G G17 (oA a) := by rw [e17]; exact (f9.mono (fun _ _ w => absurd w (fun h => h))).sr oA_at
    have q2 : xE t9 (adT t9 lg 3 0 (a, 2)) G17 G37 (oA a) := (f29.mono (fun _ _ w => absurd w (fun h => h))).tr w37
    have q3 : xE (adT t9 lg 3 0 (a, 2)) t49 G37 G59 (oA a) := (f50.mono (fun _ _ w => absurd w (fun h => h))).tr w59
    have q4 : xE t49 t72 G59 G83 (oA a) := (f73.mono (fun _ _ w => absurd w (fun h => h))).tr w83
    have q5 : xE t72 t112 G83 G125 (oA a) := (f98.mono (fun _ _ w => absurd w (fun h => h))).tr w109
    exact (((q1.tr q2).tr q3).tr q4).tr q5
  refine kk t' G' ⟨tr, root, rn, rc, arr, P, lg, ch, c1, c2, ms, m1, m2, m3, an, b1, la, L⟩ ?_ ⟨xL.inT a125, T125.to xL okL, L125.to xL okL, C125.to xL okL, M125.to xL okL, A125.to xL okL, xL.inT ila, hL, ⟨(sL.1 63).2.trans g125.1, (sL.1 64).2.trans g125.2.1, (sL.1 65).2.trans g125.2.2.1, (sL.1 66).2.trans g125.2.2.2.1, (sL.1 67).2.trans g125.2.2.2.2.1, (sL.1 68).2.trans g125.2.2.2.2.2.1⟩, (sL.1 69).1.trans g125.2.2.2.2.2.2⟩
  refine ⟨xL.1.trans all.1, fun b hb => ?_, fun b hb nb => (all.2.2 b hb nb).tr (xL.2.2 b (all.2.1 b hb).1 (fun w => ?_))⟩
  · have a1 := all.2.1 b hb
    have a2 := xL.2.1 b a1.1
    exact ⟨a2.1, a2.2.1.trans a1.2.1, a2.2.2.1.trans a1.2.2.1, a2.2.2.2.trans a1.2.2.2⟩
  · have w : b = la := w
    have q1 := (f98.2.1 b ((f73.2.1 b ((f50.2.1 b ((f29.2.1 b (f9.2.1 b hb).1).1)).1)).1)).1
    exact hla (w ▸ q1)
end SER
