/-! the constructors: cells (by hand) -/
/-- one address is as it was -/
def sB (G G' : GS) (b : Nat) : Prop := (∀ f, gi G' f b = gi G f b ∧ gr G' f b = gr G f b) ∧ ∀ j, ai G' b j = ai G b j ∧ ar G' b j = ar G b j
/-- the types grow; all but X is as it was -/
def xE (t t' : TY) (G G' : GS) (X : Nat → Prop) : Prop := t'.2 = t.2 ∧ (∀ b, b ∈ tdom t → b ∈ tdom t' ∧ tk t' b = tk t b ∧ tn t' b = tn t b ∧ tg t' b = tg t b) ∧ ∀ b, b ∈ tdom t → ¬ X b → sB G G' b
/-- nothing is in an address -/
def zA (G : GS) (a : Nat) : Prop := (∀ f, gi G f a = 0 ∧ gr G f a = none) ∧ ∀ j, ai G a j = 0 ∧ ar G a j = none
/-- one address alone -/
def oA (a : Nat) : Nat → Prop := fun b => b = a
section CEL
variable {t t' t'' : TY} {G G' G'' : GS} {X Z : Nat → Prop} {a b k n : Nat} {g : Nat × Nat}
theorem oA_at : oA a a := rfl
theorem sB.rf : sB G G b := ⟨fun _ => ⟨rfl, rfl⟩, fun _ => ⟨rfl, rfl⟩⟩
theorem sB.tr (p : sB G G' b) (q : sB G' G'' b) : sB G G'' b := ⟨fun f => ⟨(q.1 f).1.trans (p.1 f).1, (q.1 f).2.trans (p.1 f).2⟩, fun j => ⟨(q.2 j).1.trans (p.2 j).1, (q.2 j).2.trans (p.2 j).2⟩⟩
theorem xE.rf : xE t t G G X := ⟨rfl, fun _ h => ⟨h, rfl, rfl, rfl⟩, fun _ _ _ => sB.rf⟩
theorem xE.tr (p : xE t t' G G' X) (q : xE t' t'' G' G'' X) : xE t t'' G G'' X := ⟨q.1.trans p.1, fun b h => by
  have a1 := p.2.1 b h
  have a2 := q.2.1 b a1.1
  exact ⟨a2.1, a2.2.1.trans a1.2.1, a2.2.2.1.trans a1.2.2.1, a2.2.2.2.trans a1.2.2.2⟩, fun b h n => (p.2.2 b h n).tr (q.2.2 b (p.2.1 b h).1 n)⟩
theorem xE.mono (p : xE t t' G G' X) (h : ∀ b, b ∈ tdom t → X b → Z b) : xE t t' G G' Z := ⟨p.1, p.2.1, fun b hb n => p.2.2 b hb (fun w => n (h b hb w))⟩
theorem dm_ad (h : b ∈ tdom t) : b ∈ tdom (adT t a k n g) := List.mem_append_left _ h
theorem dm_at : a ∈ tdom (adT t a k n g) := List.mem_append_right _ (List.mem_singleton.mpr rfl)
theorem xE.new (ha : a ∉ tdom t) : xE t (adT t a k n g) G (zG G a) X := ⟨rfl, fun b h => by
  have e : b ≠ a := fun q => ha (q ▸ h)
  exact ⟨dm_ad h, if_neg e, if_neg e, if_neg e⟩, fun b h _ => by
  have e : b ≠ a := fun q => ha (q ▸ h)
  exact ⟨fun f => ⟨if_neg e, if_neg e⟩, fun j => ⟨if_neg e, if_neg e⟩⟩⟩
theorem zA.new : zA (zG G a) a := ⟨fun f => ⟨if_pos rfl, if_pos rfl⟩, fun j => ⟨if_pos rfl, if_pos rfl⟩⟩
theorem arA {G : GS} {f a g b : Nat} {x : Option Nat} : ar (ars G f a x) g b = if g = f ∧ b = a then x else ar G g b := rfl
theorem sB.si (e : b ≠ a) {f : Nat} {v : Int32} : sB G (si G f a v) b := ⟨fun f' => ⟨gi_na e, rfl⟩, fun _ => ⟨rfl, rfl⟩⟩
theorem sB.sr (e : b ≠ a) {f : Nat} {v : Option Nat} : sB G (sr G f a v) b := ⟨fun f' => ⟨rfl, by rw [grR, if_neg (fun q => e q.2)]⟩, fun _ => ⟨rfl, rfl⟩⟩
theorem sB.ais (e : b ≠ a) {j : Nat} {v : Int32} : sB G (ais G a j v) b := ⟨fun f' => ⟨rfl, rfl⟩, fun j' => ⟨by rw [ai_nb e], rfl⟩⟩
theorem sB.ars (e : b ≠ a) {j : Nat} {v : Option Nat} : sB G (ars G a j v) b := ⟨fun f' => ⟨rfl, rfl⟩, fun j' => ⟨rfl, by rw [arA, if_neg (fun q => e q.1)]⟩⟩
theorem xE.st (p : xE t t' G G' X) (h : ∀ b, ¬ X b → sB G' G'' b) : xE t t' G G'' X := p.tr ⟨rfl, fun _ h => ⟨h, rfl, rfl, rfl⟩, fun b _ n => h b n⟩
theorem xE.si (p : xE t t' G G' X) {f : Nat} {v : Int32} (h : X a) : xE t t' G (si G' f a v) X := p.st fun b n => sB.si fun q => n (by rw [q]; exact h)
theorem xE.sr (p : xE t t' G G' X) {f : Nat} {v : Option Nat} (h : X a) : xE t t' G (sr G' f a v) X := p.st fun b n => sB.sr fun q => n (by rw [q]; exact h)
theorem xE.ais (p : xE t t' G G' X) {j : Nat} {v : Int32} (h : X a) : xE t t' G (ais G' a j v) X := p.st fun b n => sB.ais fun q => n (by rw [q]; exact h)
theorem xE.ars (p : xE t t' G G' X) {j : Nat} {v : Option Nat} (h : X a) : xE t t' G (ars G' a j v) X := p.st fun b n => sB.ars fun q => n (by rw [q]; exact h)
theorem giZ {f : Nat} : gi (zG G a) f b = if b = a then 0 else gi G f b := rfl
theorem grZ {f : Nat} : gr (zG G a) f b = if b = a then none else gr G f b := rfl
theorem aiZ {j : Nat} : ai (zG G a) b j = if b = a then 0 else ai G b j := rfl
theorem arZ {j : Nat} : ar (zG G a) b j = if b = a then none else ar G b j := rfl
theorem aiS' {f j : Nat} {v : Int32} : ai (si G f a v) b j = ai G b j := rfl
theorem aiR' {f j : Nat} {v : Option Nat} : ai (sr G f a v) b j = ai G b j := rfl
theorem xE.nw (p : xE t t' G G' X) (ha : a ∉ tdom t') : xE t (adT t' a k n g) G (zG G' a) X := p.tr (xE.new ha)
theorem xE.fresh (ha : a ∉ tdom t) (h : xE (adT t a k n g) t' (zG G a) G' (oA a)) : xE t t' G G' Z := by
  have x := xE.new (G := G) (X := fun _ => False) (k := k) (n := n) (g := g) ha
  refine ⟨h.1, fun b hb => ?_, fun b hb _ => (x.2.2 b hb (fun w => w)).tr (h.2.2 b (dm_ad hb) (fun q => ha ((show b = a from q) ▸ hb)))⟩
  have a1 := x.2.1 b hb
  have a2 := h.2.1 b a1.1
  exact ⟨a2.1, a2.2.1.trans a1.2.1, a2.2.2.1.trans a1.2.2.1, a2.2.2.2.trans a1.2.2.2⟩
theorem tad_e (h : t'.2 = t.2) (i : Nat) : tad t' i = tad t i := by unfold tad; rw [h]
/-- a cell that is there -/
def inT (t : TY) (a k n : Nat) (g : Nat × Nat) : Prop := a ∈ tdom t ∧ tk t a = k ∧ tn t a = n ∧ tg t a = g
theorem inT.new : inT (adT t a k n g) a k n g := ⟨dm_at, if_pos rfl, if_pos rfl, if_pos rfl⟩
theorem xE.inT (p : xE t t' G G' X) (h : inT t a k n g) : inT t' a k n g := by
  have s := p.2.1 a h.1
  exact ⟨s.1, s.2.1.trans h.2.1, s.2.2.1.trans h.2.2.1, s.2.2.2.trans h.2.2.2⟩
theorem inT.ne {b k' n' : Nat} {g' : Nat × Nat} (h : inT t a k n g) (h' : inT t b k' n' g') (e : k ≠ k') : a ≠ b := fun q => e (by rw [← h.2.1, ← h'.2.1, q])
/-- a new node -/
def NdI (t : TY) (G : GS) (a nm ct : Nat) (g : Nat × Nat) : Prop := inT t a 1 0 g ∧ inT t nm 51 8 (a, 1) ∧ inT t ct 51 64 (a, 2) ∧ (∀ f, gi G f a = if f = 0 then -1 else 0) ∧ (gr G 4 a = some (tad t 0) ∧ gr G 5 a = some (tad t 0) ∧ gr G 6 a = some (tad t 0) ∧ gr G 7 a = none ∧ gr G 9 a = some nm ∧ gr G 11 a = some ct) ∧ (∀ j, ai G nm j = 0) ∧ ∀ j, ai G ct j = 0
theorem NdI.to {nm ct : Nat} (h : NdI t G a nm ct g) (p : xE t t' G G' X) (hX : ∀ b k n g, inT t b k n g → k = 1 ∨ k = 51 → ¬ X b) : NdI t' G' a nm ct g := by
  obtain ⟨a1, b1, c1, d1, ⟨e1, e2, e3, e4, e5, e6⟩, f1, g1⟩ := h
  have sa := p.2.2 a a1.1 (hX _ _ _ _ a1 (Or.inl rfl))
  have sn := p.2.2 nm b1.1 (hX _ _ _ _ b1 (Or.inr rfl))
  have sc := p.2.2 ct c1.1 (hX _ _ _ _ c1 (Or.inr rfl))
  have r : ∀ f, gr G' f a = gr G f a := fun f => (sa.1 f).2
  exact ⟨p.inT a1, p.inT b1, p.inT c1, fun f => (sa.1 f).1.trans (d1 f), ⟨by rw [r, tad_e p.1]; exact e1, by rw [r, tad_e p.1]; exact e2, by rw [r, tad_e p.1]; exact e3, by rw [r]; exact e4, by rw [r]; exact e5, by rw [r]; exact e6⟩, fun j => (sn.2 j).1.trans (f1 j), fun j => (sc.2 j).1.trans (g1 j)⟩
theorem i_Node {K : TY → GS → Prop} (ha : inT t a 1 0 g) (hz : zA G a) (kk : ∀ t' G' nm ct, xE t t' G G' (oA a) → NdI t' G' a nm ct g → nm ∉ tdom t → K t' G') : w_Node_init t G a K := by
  refine ⟨ha.2.1, fun G3 e3 G5 e5 G7 e7 G9 e9 nm hnm t12 e12 G13 e13 G20 e20 ct hct t23 e23 G24 e24 G32 e32 => ?_⟩
  have x9 : xE t t G G9 (oA a) := by
    rw [e9, e7, e5, e3]
    exact (((xE.rf.si oA_at).sr oA_at).sr oA_at).sr oA_at
  have x20 : xE t t12 G G20 (oA a) := by rw [e20, e13, e12]; exact (x9.nw hnm).sr oA_at
  have x32 : xE t t23 G G32 (oA a) := by rw [e32, e24, e23]; exact (x20.nw hct).sr oA_at
  have nma : nm ≠ a := fun q => hnm (q ▸ ha.1)
  have i12 : inT t12 nm 51 8 (a, 1) := by rw [e12]; exact inT.new
  have cta : ct ≠ a := fun q => hct (q ▸ (x20.2.1 a ha.1).1)
  have ctn : ct ≠ nm := fun q => hct (q ▸ i12.1)
  have y32 : xE t12 t23 G20 G32 (oA a) := by rw [e32, e24, e23]; exact (xE.rf.nw hct).sr oA_at
  have i23 : inT t23 nm 51 8 (a, 1) := y32.inT i12
  have j23 : inT t23 ct 51 64 (a, 2) := by rw [e23]; exact inT.new
  have td : tad t23 0 = tad t 0 := tad_e x32.1 0
  refine kk t23 G32 nm ct x32 ⟨x32.inT ha, i23, j23, fun f => ?_, ⟨?_, ?_, ?_, ?_, ?_, ?_⟩, fun j => ?_, fun j => ?_⟩ hnm
  · rw [e32, e24, e20, e13, e9, e7, e5, e3]
    simp [giS, giR, giZ, nma.symm, cta.symm, (hz.1 f).1]
  · rw [td, e32, e24, e20, e13, e9, e7, e5, e3]; simp [grS, grR, grZ, nma.symm, cta.symm]
  · rw [td, e32, e24, e20, e13, e9, e7, e5, e3]; simp [grS, grR, grZ, nma.symm, cta.symm]
  · rw [td, e32, e24, e20, e13, e9, e7, e5, e3]; simp [grS, grR, grZ, nma.symm, cta.symm]
  · rw [e32, e24, e20, e13, e9, e7, e5, e3]; simp [grS, grR, grZ, nma.symm, cta.symm, (hz.1 7).2]
  · rw [e32, e24, e20, e13, e9, e7, e5, e3]; simp [grS, grR, grZ, nma.symm, cta.symm]
  · rw [e32, e24, e20, e13, e9, e7, e5, e3]; simp [grS, grR, grZ, nma.symm, cta.symm]
  · rw [e32, e24, e20, e13]; simp [aiS', aiR', aiZ]
  · rw [e32, e24]; simp [aiS', aiR', aiZ]
/-- a pool node -/
def NdP (t : TY) (G : GS) (a0 arr : Nat) (P : Nat → Nat × Nat × Nat) (q : Nat) : Prop := NdI t G (P q).1 (P q).2.1 (P q).2.2 (a0, 100 + q) ∧ ar G arr q = some (P q).1
theorem i_pool {a0 arr : Nat} {ga : Nat × Nat} {K : TY → GS → Prop} (kk : ∀ t' G' P, xE t t' G G' (oA arr) → (∀ q, q < 20 → NdP t' G' a0 arr P q) → K t' G') : ∀ (n i : Nat) (t1 : TY) (G1 : GS) (P : Nat → Nat × Nat × Nat), i + n = 20 → xE t t1 G G1 (oA arr) → inT t1 a0 2 0 g → gr G1 14 a0 = some arr → inT t1 arr 54 20 ga → (∀ q, q < i → NdP t1 G1 a0 arr P q) → w_Tree_init_67 a0 K n i t1 G1 := by
  intro n
  induction n with
  | zero => intro i t1 G1 P hi x _ _ _ hP; exact kk t1 G1 P x (fun q hq => hP q (by omega))
  | succ n ih =>
    intro i t1 G1 P hi x h0 h14 harr hP
    refine ⟨h0.2.1, fun a2 ha2 t4 e4 G5 e5 => ?_⟩
    rw [e4, e5]
    refine i_Node inT.new zA.new (fun t11 G12 nm ct x11 N _ => ?_)
    have xf : xE t1 t11 G1 G12 (oA arr) := xE.fresh ha2 x11
    have xf' : xE t1 t11 G1 G12 (fun _ => False) := xE.fresh ha2 x11
    have sarr := xf'.2.2 arr harr.1 (fun w => w)
    have s0 := xf'.2.2 a0 h0.1 (fun w => w)
    have h11 := xf.inT harr
    refine ⟨arr, h14, h11.2.1, by rw [h11.2.2.1]; exact vp_lt (N := 20) (by omega), fun G21 e21 => ?_⟩
    rw [nI_clamp (by omega)] at e21
    have y21 : xE t11 t11 G12 G21 (oA arr) := by rw [e21]; exact xE.rf.ars oA_at
    have x21 : xE t1 t11 G1 G21 (oA arr) := xf.tr y21
    refine ih (i + 1) t11 G21 (fun q => if q = i then (a2, nm, ct) else P q) (by omega) (x.tr x21) (xf.inT h0) ?_ h11 (fun q hq => ?_)
    · rw [e21]
      show gr G12 14 a0 = _
      rw [(s0.1 14).2]; exact h14
    · by_cases e : q = i
      · have eP : (fun q => if q = i then (a2, nm, ct) else P q) q = (a2, nm, ct) := if_pos e
        unfold NdP
        rw [eP, e]
        refine ⟨N.to y21 (fun b k n g hb hk w => ?_), ?_⟩
        · have := hb.2.1
          rw [show b = arr from w, h11.2.1] at this
          omega
        · rw [e21, arA, if_pos ⟨rfl, rfl⟩]
      · obtain ⟨M, m2⟩ := hP q (by omega)
        have eP : (fun q => if q = i then (a2, nm, ct) else P q) q = P q := if_neg e
        unfold NdP
        rw [eP]
        refine ⟨M.to x21 (fun b k n g hb hk w => ?_), ?_⟩
        · have := hb.2.1
          rw [show b = arr from w, harr.2.1] at this
          omega
        · rw [e21, arA, if_neg (fun w => e w.2), (sarr.2 q).2]; exact m2
/-- a fid -/
def FiP (t : TY) (G : GS) (a0 arr : Nat) (F : Nat → Nat) (q : Nat) : Prop := inT t (F q) 7 0 (a0, 100 + q) ∧ gi G 46 (F q) = 0 ∧ ar G arr q = some (F q)
theorem i_fids {a0 arr b1 : Nat} {ga : Nat × Nat} {K : TY → GS → Prop} (kk : ∀ t' G' F, xE t t' G G' (oA arr) → (∀ q, q < 6 → FiP t' G' a0 arr F q) → K t' G') : ∀ (n i : Nat) (t1 : TY) (G1 : GS) (F : Nat → Nat), i + n = 6 → xE t t1 G G1 (oA arr) → inT t1 a0 8 0 g → gr G1 62 a0 = some arr → inT t1 arr 56 6 ga → (∀ q, q < i → FiP t1 G1 a0 arr F q) → w_Link_init_48 a0 b1 K n i t1 G1 := by
  intro n
  induction n with
  | zero => intro i t1 G1 P hi x _ _ _ hP; exact kk t1 G1 P x (fun q hq => hP q (by omega))
  | succ n ih =>
    intro i t1 G1 F hi x h0 h62 harr hP
    refine ⟨h0.2.1, fun a2 ha2 t4 e4 G5 e5 => ?_⟩
    rw [e4, e5]
    refine ⟨if_pos rfl, fun G3 e3 G6 e6 G7 e7 => ?_⟩
    have x7 : xE (adT t1 a2 7 0 (a0, 100 + i)) (adT t1 a2 7 0 (a0, 100 + i)) (zG G1 a2) G7 (oA a2) := by rw [e7, e6, e3]; exact ((xE.rf.sr oA_at).si oA_at).sr oA_at
    have xf : xE t1 (adT t1 a2 7 0 (a0, 100 + i)) G1 G7 (oA arr) := xE.fresh ha2 x7
    have xf' : xE t1 (adT t1 a2 7 0 (a0, 100 + i)) G1 G7 (fun _ => False) := xE.fresh ha2 x7
    have sarr := xf'.2.2 arr harr.1 (fun w => w)
    have s0 := xf'.2.2 a0 h0.1 (fun w => w)
    have h11 := xf.inT harr
    refine ⟨arr, h62, h11.2.1, by rw [h11.2.2.1]; exact vp_lt (N := 6) (by omega), fun G21 e21 => ?_⟩
    rw [nI_clamp (by omega)] at e21
    have y21 : xE (adT t1 a2 7 0 (a0, 100 + i)) (adT t1 a2 7 0 (a0, 100 + i)) G7 G21 (oA arr) := by rw [e21]; exact xE.rf.ars oA_at
    have x21 := xf.tr y21
    refine ih (i + 1) _ G21 (fun q => if q = i then a2 else F q) (by omega) (x.tr x21) (xf.inT h0) ?_ h11 (fun q hq => ?_)
    · rw [e21]
      show gr G7 62 a0 = _
      rw [(s0.1 62).2]; exact h62
    · by_cases e : q = i
      · have eP : (fun q => if q = i then a2 else F q) q = a2 := if_pos e
        unfold FiP
        rw [eP, e]
        refine ⟨inT.new, ?_, ?_⟩
        · rw [e21]
          show gi G7 46 a2 = 0
          rw [e7, e6, e3]
          simp [giS, giR, giZ]
        · rw [e21, arA, if_pos ⟨rfl, rfl⟩]
      · obtain ⟨M, m1, m2⟩ := hP q (by omega)
        have eP : (fun q => if q = i then a2 else F q) q = F q := if_neg e
        unfold FiP
        rw [eP]
        refine ⟨x21.inT M, ?_, ?_⟩
        · rw [e21]
          show gi G7 46 (F q) = 0
          rw [((xf'.2.2 (F q) M.1 (fun w => w)).1 46).1]; exact m1
        · rw [e21, arA, if_neg (fun w => e w.2), (sarr.2 q).2]; exact m2
end CEL
