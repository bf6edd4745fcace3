/-! the form of a message (by hand) -/
/-- where the i-th text from p on begins -/
def tp (f : Nat → Nat) (p : Nat) : Nat → Nat
  | 0 => p
  | i + 1 => tp f p i + 2 + nm f (tp f p i) 2
theorem tp_le {f : Nat → Nat} {p : Nat} : ∀ {i : Nat}, p + 2 * i ≤ tp f p i
  | 0 => by show p + 0 ≤ p; omega
  | i + 1 => by
    have := @tp_le f p i
    show p + 2 * (i + 1) ≤ tp f p i + 2 + nm f (tp f p i) 2
    omega
theorem tp_lt {f : Nat → Nat} (hf : ∀ k, f k < 256) {p : Nat} : ∀ {i : Nat}, tp f p i ≤ p + 65537 * i
  | 0 => by show p ≤ p + 0; omega
  | i + 1 => by
    have h1 := @tp_lt f hf p i
    have h2 : nm f (tp f p i) 2 < 256 ^ 2 := nm_lt hf
    show tp f p i + 2 + nm f (tp f p i) 2 ≤ _
    omega
theorem tp_mono {f : Nat → Nat} {p i : Nat} : ∀ {d : Nat}, tp f p i + 2 * d ≤ tp f p (i + d)
  | 0 => by show tp f p i + 0 ≤ tp f p i; omega
  | d + 1 => by
    have := @tp_mono f p i d
    show tp f p i + 2 * (d + 1) ≤ tp f p (i + d) + 2 + nm f (tp f p (i + d)) 2
    omega
/-- only the message's and the answer's parts differ -/
def xC (y : LYT) (G G' : GS) : Prop := (∀ f a, f < 36 ∨ 45 < f → gi G' f a = gi G f a) ∧ (∀ f a, gl G' f a = gl G f a) ∧ (∀ f a, gr G' f a = gr G f a) ∧ (∀ b, b ≠ y 19 0 → b ≠ y 20 0 → b ≠ y 21 0 → b ≠ y 22 0 → ai G' b = ai G b) ∧ (∀ b, al G' b = al G b) ∧ ∀ b, ar G' b = ar G b
def xM (y : LYT) (m m' : GS) : Prop := (∀ f a, f < 95 → gi m' f a = gi m f a) ∧ (∀ f a, f < 98 → gl m' f a = gl m f a) ∧ (∀ f a, gr m' f a = gr m f a) ∧ (∀ b, b ≠ y 30 94 → b ≠ y 30 96 → ai m' b = ai m b) ∧ (∀ b, al m' b = al m b) ∧ ∀ b, ar m' b = ar m b
section FORM
variable {t : TY} {y : LYT} {G G' G1 m m' m1 : GS} {b : Nat}
theorem xC.rf : xC y G G := ⟨fun _ _ _ => rfl, fun _ _ => rfl, fun _ _ => rfl, fun _ _ _ _ _ => rfl, fun _ => rfl, fun _ => rfl⟩
theorem xM.rf : xM y m m := ⟨fun _ _ _ => rfl, fun _ _ _ => rfl, fun _ _ => rfl, fun _ _ _ => rfl, fun _ => rfl, fun _ => rfl⟩
theorem xC.tr (a : xC y G G1) (c : xC y G1 G') : xC y G G' := ⟨fun f x h => (c.1 f x h).trans (a.1 f x h), fun f x => (c.2.1 f x).trans (a.2.1 f x), fun f x => (c.2.2.1 f x).trans (a.2.2.1 f x), fun x h1 h2 h3 h4 => (c.2.2.2.1 x h1 h2 h3 h4).trans (a.2.2.2.1 x h1 h2 h3 h4), fun x => (c.2.2.2.2.1 x).trans (a.2.2.2.2.1 x), fun x => (c.2.2.2.2.2 x).trans (a.2.2.2.2.2 x)⟩
theorem xM.tr (a : xM y m m1) (c : xM y m1 m') : xM y m m' := ⟨fun f x h => (c.1 f x h).trans (a.1 f x h), fun f x h => (c.2.1 f x h).trans (a.2.1 f x h), fun f x => (c.2.2.1 f x).trans (a.2.2.1 f x), fun x h1 h2 => (c.2.2.2.1 x h1 h2).trans (a.2.2.2.1 x h1 h2), fun x => (c.2.2.2.2.1 x).trans (a.2.2.2.2.1 x), fun x => (c.2.2.2.2.2 x).trans (a.2.2.2.2.2 x)⟩
theorem xC.si (a : xC y G G1) {f c : Nat} {x : Int32} (h : 36 ≤ f ∧ f ≤ 45 := by omega) : xC y G (si G1 f c x) := a.tr ⟨fun g d q => gi_ne (by omega), fun _ _ => rfl, fun _ _ => rfl, fun _ _ _ _ _ => rfl, fun _ => rfl, fun _ => rfl⟩
theorem xC.aw (a : xC y G G1) {k : Nat} {x : Nat → Int32} (h : k = 19 ∨ k = 20 ∨ k = 21 ∨ k = 22 := by omega) : xC y G (aw G1 (y k 0) x) := a.tr ⟨fun _ _ _ => rfl, fun _ _ => rfl, fun _ _ => rfl, fun b h1 h2 h3 h4 => aw_ne (by rcases h with rfl | rfl | rfl | rfl <;> assumption), fun _ => rfl, fun _ => rfl⟩
theorem xM.si (a : xM y m m1) {f c : Nat} {x : Int32} (h : 95 ≤ f := by omega) : xM y m (si m1 f c x) := a.tr ⟨fun g d q => gi_ne (by omega), fun _ _ _ => rfl, fun _ _ => rfl, fun _ _ _ => rfl, fun _ => rfl, fun _ => rfl⟩
theorem xM.sl (a : xM y m m1) {f c : Nat} {x : Int64} (h : 98 ≤ f := by omega) : xM y m (sl m1 f c x) := a.tr ⟨fun g d q => rfl, fun _ _ _ => gl_ne (by omega), fun _ _ => rfl, fun _ _ _ => rfl, fun _ => rfl, fun _ => rfl⟩
theorem xM.aw (a : xM y m m1) {k : Nat} {x : Nat → Int32} (h : k = 94 ∨ k = 96 := by omega) : xM y m (aw m1 (y 30 k) x) := a.tr ⟨fun _ _ _ => rfl, fun _ _ _ => rfl, fun _ _ => rfl, fun b h1 h2 => aw_ne (by rcases h with rfl | rfl <;> assumption), fun _ => rfl, fun _ => rfl⟩
theorem xC.cP (a : xC y G G1) {A : Nat → Int32} {l : Nat} : xC y G (cP y G1 A l) := (a.aw (k := 22)).si (f := 45)
theorem xM.mP (a : xM y m m1) {A : Nat → Int32} {l : Nat} : xM y m (mP y m1 A l) := (a.aw (k := 96)).si (f := 97)
theorem xC.z (a : xC y G G1) (hs : SH t y) (hz : FZ y G) : FZ y G1 := hz.to hs (sZ.of a.2.2.1 a.2.2.2.2.2)
theorem xM.z (a : xM y m m1) (hs : SH t y) (hz : FZ y m) : FZ y m1 := hz.to hs (sZ.of a.2.2.1 a.2.2.2.2.2)
theorem xC.a (a : xC y G G1) (hs : SH t y) {k i : Nat} (hk : k < 19 ∨ 22 < k) (hv : yV k i = true) : ai G1 (y k i) = ai G (y k i) := a.2.2.2.1 _ (hs.ne (by omega) hv rfl) (hs.ne (by omega) hv rfl) (hs.ne (by omega) hv rfl) (hs.ne (by omega) hv rfl)
theorem xM.a (a : xM y m m1) (hs : SH t y) {i : Nat} (h1 : i ≠ 94) (h2 : i ≠ 96) (hv : yV 30 i = true) : ai m1 (y 30 i) = ai m (y 30 i) := a.2.2.2.1 _ (hs.ne (by omega) hv rfl) (hs.ne (by omega) hv rfl)
theorem xC.eS (a : xC y G G1) (hs : SH t y) : eS y G G1 := ⟨fun f h => ⟨a.1 f _ (by omega), a.2.1 f _, a.2.2.1 f _⟩, fun f hf => ⟨a.a hs (by omega) hf, a.2.2.2.2.1 _⟩⟩
theorem xC.agT (a : xC y G G1) (hs : SH t y) : agT y G G1 := ⟨fun f c hf => ⟨a.1 f c (by omega), a.2.2.1 f c⟩, fun i hi => ⟨a.a hs (by omega) (by simp [yV, hi]), a.a hs (by omega) (by simp [yV, hi])⟩, a.2.2.2.2.2⟩
theorem xC.agC (a : xC y G G1) (hs : SH t y) : agC y G G1 := ⟨a.agT hs, fun f c h1 h2 => ⟨a.1 f c (by omega), a.2.2.1 f c⟩, a.a hs (by omega) rfl, a.a hs (by omega) rfl⟩
theorem xC.agF (a : xC y G G1) {k : Nat} : agF y G G1 k := fun f h1 h2 => ⟨a.1 f _ (by omega), a.2.1 f _, a.2.2.1 f _⟩
theorem xM.agFm (a : xM y m m1) (hs : SH t y) {k : Nat} : agFm y m m1 k := fun f h1 h2 => ⟨congrFun (a.a hs (by omega) (by omega) (by simp [yV]; omega)) k, congrFun (a.2.2.2.2.1 _) k⟩
theorem xC.agL (a : xC y G G1) (hs : SH t y) {c : Nat} (hc : c < 2) : agL y G G1 c := ⟨fun f h1 h2 => a.1 f _ (by omega), a.a hs (by omega) (by simp [yV, hc]), a.a hs (by omega) (by simp [yV, hc])⟩
theorem xM.agLm (a : xM y m m1) (hs : SH t y) {c : Nat} : agLm y m m1 c := ⟨fun k _ => congrFun (a.a hs (by omega) (by omega) rfl) _, fun k _ => congrFun (a.a hs (by omega) (by omega) rfl) _, fun f hf => congrFun (a.a hs (by omega) (by omega) (by simp [yV]; omega)) _⟩
theorem InvY.x (h : InvY t y b G m) (a : xC y G G1) (c : xM y m m1) : InvY t y b G1 m1 := by
  obtain ⟨hs, -, -, ⟨s1, s2, s3, s4, s5, s6⟩, -⟩ := id h
  refine h.to (Nat.le_refl _) (sZ.of a.2.2.1 a.2.2.2.2.2) (sZ.of c.2.2.1 c.2.2.2.2.2) ?_ (a.agC hs) (fun q hq => ⟨a.agL hs hq, c.agLm hs⟩) (fun k _ => ⟨a.agF, c.agFm hs⟩) (a.1 19 _ (by omega)) (a.1 20 _ (by omega)) (c.1 74 _ (by omega)) (c.a hs (by omega) (by omega) rfl) (c.a hs (by omega) (by omega) rfl)
  unfold ScR
  rw [a.1 17 _ (by omega), a.1 18 _ (by omega), a.1 19 _ (by omega), a.1 20 _ (by omega), a.1 69 _ (by omega), c.1 73 _ (by omega), c.1 75 _ (by omega), c.1 76 _ (by omega), c.1 77 _ (by omega), c.1 78 _ (by omega)]
  exact ⟨s1, s2, s3, s4, s5, s6⟩
/-- the message with its texts found -/
def txA (f : Nat → Nat) (p : Nat) (X : Nat → Int32) (i : Nat) : Nat → Int32 := fun k => if k < i then nI (tp f p k + 2) else X k
def txL (f : Nat → Nat) (p : Nat) (X : Nat → Int32) (i : Nat) : Nat → Int32 := fun k => if k < i then nI (nm f (tp f p k) 2) else X k
def spI (y : LYT) (G : GS) (f : Nat → Nat) (p i : Nat) : GS := aw (aw G (y 20 0) (txA f p (ai G (y 20 0)) i)) (y 21 0) (txL f p (ai G (y 21 0)) i)
def spS (y : LYT) (G : GS) (f : Nat → Nat) (p c : Nat) : GS := si (si (spI y G f p c) 42 (y 8 0) (nI c)) 43 (y 8 0) (nI (tp f p c))
theorem spI_x {f : Nat → Nat} {p i : Nat} : xC y G (spI y G f p i) := (xC.rf.aw (k := 20)).aw (k := 21)
theorem spS_x {f : Nat → Nat} {p i : Nat} : xC y G (spS y G f p i) := (spI_x.si (f := 42)).si (f := 43)
theorem MsC.x {z : Nat} {f : Nat → Nat} (h : MsC y G z f) (e : gi G1 37 (y 8 0) = gi G 37 (y 8 0)) (e2 : ai G1 (y 19 0) = ai G (y 19 0)) : MsC y G1 z f := ⟨e.trans h.1, fun k hk => by rw [e2]; exact h.2 k hk⟩
theorem S_split (hs : SH t y) (hz : FZ y G) {z : Nat} {f : Nat → Nat} (hf : MsF z f) (h : MsC y G z f) {p c : Nat} (hp : p ≤ 100) (hc : c ≤ 4) {K : GS → Int32 → Prop} (k : K (spS y G f p c) (if tp f p c ≤ z then 1 else 0)) : w_Message_splitTexts t G (y 8 0) (nI p) (nI c) K := by
  have hb : ∀ i, i ≤ 4 → tp f p i < 2 ^ 20 := fun i hi => by have := @tp_lt f hf.2.2.1 p i; omega
  refine iT (nI_le (b := 4) hc (by decide)) ?_
  have n2021 : y 20 0 ≠ y 21 0 := hs.ne (by omega)
  have n2120 : y 21 0 ≠ y 20 0 := hs.ne (by omega)
  have key := pk_loop (fun q i (_ : Unit) => w_Message_splitTexts_12 t (y 8 0) K q (nI c) (nI (tp f p i)) (nI i) (spI y G f p i)) (fun _ _ => True) c 0 () (by omega) trivial (fun q _ _ => ?_) (fun q i _ hi _ ih => ?_)
  · obtain ⟨q, hq⟩ := key
    refine ⟨q, ?_⟩
    have e : spI y G f p 0 = G := by
      unfold spI
      rw [show txA f p (ai G (y 20 0)) 0 = ai G (y 20 0) from funext fun k => if_neg (by omega), show txL f p (ai G (y 21 0)) 0 = ai G (y 21 0) from funext fun k => if_neg (by omega), aw_self, aw_self]
    rw [e] at hq
    exact hq
  · refine iT (Int32.le_refl _) ⟨hs.k 8 0, ?_⟩
    intro G1 e1 G2 e2
    subst e1 e2
    have g37 : gi (spS y G f p c) 37 (y 8 0) = nI z := by
      unfold spS; rw [gi_ne (by omega), gi_ne (by omega)]; exact h.1
    show if gi (spS y G f p c) 37 (y 8 0) < nI (tp f p c) then _ else _
    rw [g37]
    have hz128 := hf.2.1
    by_cases q : tp f p c ≤ z
    · rw [if_pos q] at k
      exact iF (nI_nlt q (by omega)) k
    · rw [if_neg q] at k
      exact iT (nI_lt (by omega) (by have := hb c hc; omega)) k
  · have hbi := hb i (by omega)
    have hn : nm f (tp f p i) 2 < 256 ^ 2 := nm_lt hf.2.2.1
    have hzI : FZ y (spI y G f p i) := spI_x.z hs hz
    refine iF (nI_ge hi (by omega)) ⟨hs.k 8 0, y 20 0, hzI.2.2.1.2.1, hs.k 20 0, by rw [hs.n 20 0]; exact vp_lt (N := 4) (by omega), ?_⟩
    intro G4 e4
    rw [nI_clamp (by omega)] at e4
    have x4 : ∀ a, a ≠ y 20 0 → a ≠ y 21 0 → ai G4 a = ai G a := fun a q1 q2 => by rw [e4, ai_nb q1]; unfold spI; rw [aw_ne q2, aw_ne q1]
    have g4 : ∀ fl a, gi G4 fl a = gi G fl a := fun fl a => by rw [e4]; rfl
    have r4 : ∀ fl a, gr G4 fl a = gr G fl a := fun fl a => by rw [e4]; rfl
    have hz4 : FZ y G4 := hz.to hs (sZ.of r4 (fun a => by rw [e4]; rfl))
    refine S_number (n := 2) hs hz4 hf (h.x (g4 _ _) (x4 _ (hs.ne (by omega)) (hs.ne (by omega)))) (by omega) (by omega) ?_
    refine ⟨y 21 0, hz4.2.2.1.2.2.1, hs.k 21 0, by rw [hs.n 21 0]; exact vp_lt (N := 4) (by omega), ?_⟩
    intro G7 e7
    rw [nI_clamp (by omega), lN_i] at e7
    refine ⟨y 21 0, by rw [e7]; exact hz4.2.2.1.2.2.1, hs.k 21 0, by rw [hs.n 21 0]; exact vp_lt (N := 4) (by omega), ?_⟩
    intro v9 e9 v10 e10
    have e11 : ai G7 (y 21 0) i = nI (nm f (tp f p i) 2) := by rw [e7, ai_at]
    rw [nI_clamp (by omega), e11, show (2 : Int32) = nI 2 from rfl, nI_add, nI_add] at e9
    rw [nI_1] at e10
    have e9 : v9 = nI (tp f p (i + 1)) := by rw [e9]; show _ = nI (tp f p i + 2 + nm f (tp f p i) 2); congr 1; omega
    have e12 : G7 = spI y G f p (i + 1) := by
      rw [e7, e4, show nI (tp f p i) + 2 = nI (tp f p i + 2) from by rw [show (2 : Int32) = nI 2 from rfl, nI_add]]
      unfold spI
      have c1 : ∀ (X : GS) (F : Nat → Int32) (j : Nat) (v : Int32), ais (aw X (y 21 0) F) (y 20 0) j v = aw (ais X (y 20 0) j v) (y 21 0) F := fun X F j v => by
        show (X.1, X.2.1, X.2.2.1, _, X.2.2.2.2) = (X.1, X.2.1, X.2.2.1, _, X.2.2.2.2)
        congr 4
        funext a
        by_cases q : a = y 21 0
        · subst q
          funext k
          show (if y 21 0 = y 20 0 ∧ k = j then v else (if y 21 0 = y 21 0 then F else _) k) = (if y 21 0 = y 21 0 then F else _) k
          rw [if_neg (fun z => n2120 z.1), if_pos rfl, if_pos rfl]
        · funext k
          show (if a = y 20 0 ∧ k = j then v else (if a = y 21 0 then F else ai X a) k) = (if a = y 21 0 then F else ai (ais X (y 20 0) j v) a) k
          rw [if_neg q, if_neg q]; rfl
      rw [c1, aw_ais, aw_ais]
      have a1 : (fun k => if k = i then nI (tp f p i + 2) else txA f p (ai G (y 20 0)) i k) = txA f p (ai G (y 20 0)) (i + 1) := funext fun k => by
        unfold txA
        by_cases q : k = i
        · rw [if_pos q, if_pos (by omega), q]
        · rw [if_neg q]
          by_cases q2 : k < i
          · rw [if_pos q2, if_pos (by omega)]
          · rw [if_neg q2, if_neg (by omega)]
      have a2 : (fun k => if k = i then nI (nm f (tp f p i) 2) else txL f p (ai G (y 21 0)) i k) = txL f p (ai G (y 21 0)) (i + 1) := funext fun k => by
        unfold txL
        by_cases q : k = i
        · rw [if_pos q, if_pos (by omega), q]
        · rw [if_neg q]
          by_cases q2 : k < i
          · rw [if_pos q2, if_pos (by omega)]
          · rw [if_neg q2, if_neg (by omega)]
      rw [a1, a2]
    subst e9 e10
    rw [e12]
    exact ih () trivial
/-- the texts are known -/
def TxC (y : LYT) (G : GS) (f : Nat → Nat) (p c : Nat) : Prop := (∀ i, i < c → ai G (y 20 0) i = nI (tp f p i + 2) ∧ ai G (y 21 0) i = nI (nm f (tp f p i) 2)) ∧ gi G 42 (y 8 0) = nI c ∧ gi G 43 (y 8 0) = nI (tp f p c)
theorem spS_t (hs : SH t y) {f : Nat → Nat} {p c : Nat} : TxC y (spS y G f p c) f p c := by
  have n2120 : y 20 0 ≠ y 21 0 := hs.ne (by omega)
  refine ⟨fun i hi => ⟨?_, ?_⟩, ?_, gi_at⟩
  · show ai (spI y G f p c) (y 20 0) i = _
    unfold spI; rw [aw_ne n2120, aw_at]; exact if_pos hi
  · show ai (spI y G f p c) (y 21 0) i = _
    unfold spI; rw [aw_at]; exact if_pos hi
  · unfold spS; rw [gi_ne (by omega), gi_at]
theorem M_behind (hs : SH t y) (hz : FZ y m) {z : Nat} {f : Nat → Nat} (hf : MsF z f) (h : MsM y m z f) {p : Nat} (hp : p < 2 ^ 20) {K : Int32 → Prop} (k : K (if p + 2 + nm f p 2 ≤ z then nI (p + 2 + nm f p 2) else -1)) : w_M_behind t m (y 1 0) (nI p) (nI z) K := by
  have hz128 := hf.2.1
  have hn : nm f p 2 < 256 ^ 2 := nm_lt hf.2.2.1
  have e2 : nI p + 2 = nI (p + 2) := by rw [show (2 : Int32) = nI 2 from rfl, nI_add]
  refine iF (nI_pos (by omega)) ?_
  rw [e2]
  by_cases q : p + 2 ≤ z
  · refine iT (nI_le q (by omega)) ⟨hs.k 1 0, M_get (n := 2) hs hz hf h q (by omega) ?_⟩
    intro v2 e
    rw [lN_i, nI_add] at e
    subst e
    by_cases q2 : p + 2 + nm f p 2 ≤ z
    · rw [if_pos q2] at k; exact iT (nI_le q2 (by omega)) k
    · rw [if_neg q2] at k; exact iF (nI_ge (by omega) (by omega)) k
  · rw [if_neg (by omega)] at k
    exact iF (nI_ge (by omega) (by omega)) k
theorem M_behindN {x : Int32} {K : Int32 → Prop} (k : K (-1)) : w_M_behind t m (y 1 0) (-1) x K := iT (by decide) k
/-- i texts on: the place, or -1 -/
def bh (f : Nat → Nat) (z p i : Nat) : Int32 := if tp f p i ≤ z then nI (tp f p i) else -1
theorem M_bh (hs : SH t y) (hz : FZ y m) {z : Nat} {f : Nat → Nat} (hf : MsF z f) (h : MsM y m z f) {p i : Nat} (hp : p ≤ 100) (hi : i < 4) {K : Int32 → Prop} (k : K (bh f z p (i + 1))) : w_M_behind t m (y 1 0) (bh f z p i) (nI z) K := by
  have hb := @tp_lt f hf.2.2.1 p i
  have hm := @tp_mono f p i 1
  unfold bh at k ⊢
  by_cases q : tp f p i ≤ z
  · rw [if_pos q]; exact M_behind hs hz hf h (by omega) k
  · rw [if_neg q]
    rw [if_neg (by omega)] at k
    exact M_behindN k
theorem bh_0 {f : Nat → Nat} {z p : Nat} (h : p ≤ z) : bh f z p 0 = nI p := if_pos h
/-- it ends where the message ends -/
theorem bh_z {f : Nat → Nat} (hf : ∀ k, f k < 256) {z p i : Nat} (hp : p ≤ 100) (hi : i ≤ 4) (hz : z ≤ 128) : bh f z p i = nI z ↔ tp f p i = z := by
  have hb := @tp_lt f hf p i
  unfold bh
  by_cases q : tp f p i ≤ z
  · rw [if_pos q]; exact nI_eq (by omega) (by omega)
  · rw [if_neg q]
    refine ⟨fun e => ?_, fun e => by omega⟩
    exact absurd (show nI z < 0 by rw [← e]; decide) (nI_pos (by omega))
end FORM
