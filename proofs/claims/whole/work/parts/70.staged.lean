/-! altered nodes: what stands ready (by hand) -/
/-- what a step of an alteration leaves -/
def KP (y : LYT) (X X' : GS) : Prop := frT y X X' ∧ (∀ a, gi X' 0 a = gi X 0 a) ∧ (∀ a, gr X' 7 a = gr X 7 a) ∧ (∀ a, gi X' 10 a = gi X 10 a) ∧ ∀ i, i < 23 → ai X' (y 6 i) = ai X (y 6 i)
/-- whose change it is -/
def CH (t : TY) (y : LYT) (X : GS) (d u : Nat) (tm : Int32) : Prop := gr X 22 (y 4 0) = some (y 5 d) ∧ gr X 23 (y 4 0) = some (tad t u) ∧ gi X 24 (y 4 0) = tm
def oI (o : Option Nat) : Int32 := match o with
  | some l => nI l
  | none => -1
def aT1 (T : Nat → Int32) (c l0 : Nat) (tm : Int32) (u : Nat) (o : Option Nat) : Nat → Int32 := match o with
  | some l => cG (ctT T c l (fun i => if l0 ≤ i ∧ i < l then 0 else T (83 * c + 19 + i))) c tm u
  | none => T
def aT2 (T : Nat → Int32) (c : Nat) (o : Option Int32) : Nat → Int32 := match o with
  | some v => cS T c 3 v
  | none => T
def aT3 (T : Nat → Int32) (c : Nat) (o : Option Nat) : Nat → Int32 := match o with
  | some v => cS T c 6 (nI v)
  | none => T
def aT4 (T : Nat → Int32) (c h : Nat) (tm : Int32) (u : Nat) (l : Nat) (g : Nat → Nat) : Nat → Int32 := if l = 0 then T else cG (nmT T c l g) h tm u
def aT5 (T : Nat → Int32) (c : Nat) (o : Option Int32) : Nat → Int32 := match o with
  | some v => cS T c 4 v
  | none => T
section STGA
variable {t : TY} {y : LYT} {G G1 X X1 X2 : GS} {T : Nat → Int32} {n np d u l0 : Nat} {r s : Nat → Nat} {tm : Int32}
theorem KP.rf : KP y X X := ⟨frT.rf, fun _ => rfl, fun _ => rfl, fun _ => rfl, fun _ _ => rfl⟩
theorem KP.tr (a : KP y X X1) (c : KP y X1 X2) : KP y X X2 := ⟨a.1.tr c.1, fun x => (c.2.1 x).trans (a.2.1 x), fun x => (c.2.2.1 x).trans (a.2.2.1 x), fun x => (c.2.2.2.1 x).trans (a.2.2.2.1 x), fun i hi => (c.2.2.2.2 i hi).trans (a.2.2.2.2 i hi)⟩
theorem CH.fr (h : CH t y X d u tm) (a : frT y X X1) : CH t y X1 d u tm := ⟨(a.1 22 _ (by omega)).2.trans h.1, (a.1 23 _ (by omega)).2.trans h.2.1, (a.1 24 _ (by omega)).1.trans h.2.2⟩
theorem frT.si {f v : Nat} {x : Int32} (h : f ≤ 16) : frT y X (si X f v x) := ⟨fun g a hg => ⟨gi_ne (by omega), rfl⟩, fun _ _ => rfl, fun _ => rfl, fun _ _ => rfl, fun _ => ⟨rfl, rfl, rfl, rfl⟩, fun _ _ => rfl⟩
theorem frT.sr5 {v : Nat} {x : Option Nat} : frT y X (sr X 5 v x) := ⟨fun g a hg => ⟨rfl, gr_ne (by omega)⟩, fun _ _ => rfl, fun _ => rfl, fun _ _ => rfl, fun _ => ⟨gr_ne (by omega), gr_ne (by omega), gr_ne (by omega), gr_ne (by omega)⟩, fun _ _ => rfl⟩
theorem frT.aw7 {v : Nat} {A : Nat → Int32} (hv : v < 23) : frT y X (aw X (y 7 v) A) := ⟨fun g a hg => ⟨rfl, rfl⟩, fun _ _ => rfl, fun _ => rfl, fun b q => aw_ne (q v hv).2, fun _ => ⟨rfl, rfl, rfl, rfl⟩, fun _ _ => rfl⟩
theorem frT.aw6 {v : Nat} {A : Nat → Int32} (hv : v < 23) : frT y X (aw X (y 6 v) A) := ⟨fun g a hg => ⟨rfl, rfl⟩, fun _ _ => rfl, fun _ => rfl, fun b q => aw_ne (q v hv).1, fun _ => ⟨rfl, rfl, rfl, rfl⟩, fun _ _ => rfl⟩
theorem KP.ct (hs : SH t y) {l : Nat} {A : Nat → Int32} (hd : d < 23) : KP y X (ctC y X d l A) := ⟨(frT.aw7 hd).tr (frT.si (by omega)), fun a => gi_ne (by omega), fun _ => rfl, fun a => gi_ne (by omega), fun i hi => aw_ne (hs.ne (by omega) (by simp [yV, hi]) (by simp [yV, hd]))⟩
theorem KP.ch {a : Nat} {ou : Option Nat} : KP y X (chB X a ou tm) := ⟨frT.ch, fun _ => chB_i (by omega) (by omega), fun _ => chB_r (Or.inl (by omega)), fun _ => chB_i (by omega) (by omega), fun _ _ => rfl⟩
/-- content of a node: the bytes that a new length leaves -/
theorem TrR.cut (h : TrR t y X T n r s np) (hd : lvN n r d) {l : Nat} (hl : l ≤ 64) (hl0 : l0 ≤ 64) (e12 : gi X 12 (y 5 d) = nI l0) : (∀ k, k < l → ∃ v, v < 256 ∧ (if l ≤ k ∧ k < l0 then 0 else ai X (y 7 d) k) = sb v ∧ (if l0 ≤ k ∧ k < l then 0 else T (83 * s d + 19 + k)) = nI v) ∧ ∀ k, l ≤ k → k < 64 → (if l ≤ k ∧ k < l0 then 0 else ai X (y 7 d) k) = 0 := by
  obtain ⟨la, x1, x2, x3⟩ := h.2.2.2.2.2.2.2.2.2.2.2.2.2.2.2.2 d (h.le hd)
  obtain ⟨-, -, -, -, -, -, -, -, -, ⟨l2, g2, w1, w2, w3, w4, w5⟩⟩ := (h.nd hd).2.2
  have e2 : l2 = la := (nI_eq (by omega) (by omega)).mp (w2.symm.trans x2)
  have e3 : la = l0 := (nI_eq (by omega) (by omega)).mp (x2.symm.trans e12)
  subst e2
  subst e3
  refine ⟨fun k hk => ?_, fun k h1 h2 => ?_⟩
  · rw [if_neg (by omega)]
    by_cases q : k < l2
    · rw [if_neg (by omega)]
      exact ⟨g2 k, (w4 k q).1, (w4 k q).2, w5 k q⟩
    · rw [if_pos (by omega)]
      exact ⟨0, by omega, x3 k (by omega) (by omega), rfl⟩
  · by_cases q : l ≤ k ∧ k < l2
    · rw [if_pos q]
    · rw [if_neg q]; exact x3 k (by omega) h2
/-- length -/
theorem al1 (h : TrR t y X T n r s np) (hb : np < 2 ^ 31) (hs : SH t y) (hz : FZ y X) (hd : lvN n r d) (hu : u < 3) (c : CH t y X d u tm) (hl0 : l0 ≤ 64) (e12 : gi X 12 (y 5 d) = nI l0) (o : Option Nat) (e25 : gi X 25 (y 4 0) = oI o) (ho : ∀ l, o = some l → l ≤ 64 ∧ ¬ gi X 2 (y 5 d) < 0 ∧ tBl y X n r + (l + 15) / 16 ≤ 24 + (l0 + 15) / 16) : ∃ X', KP y X X' ∧ (∀ a, gi X' 2 a = gi X 2 a) ∧ TrR t y X' (aT1 T (s d) l0 tm u o) n r s np ∧ ∀ K : GS → Prop, w_Change_alter_33 t (y 4 0) K X' → w_Change_alter t X (y 4 0) K := by
  have hd20 := h.le hd
  cases o with
  | none => exact ⟨X, KP.rf, fun _ => rfl, h, fun K hK => ⟨hs.k 4 0, iT (by rw [e25]; decide) hK⟩⟩
  | some l =>
    obtain ⟨hl, hn, hr⟩ := ho l rfl
    have e25 : gi X 25 (y 4 0) = nI l := e25
    obtain ⟨c1, c2⟩ := h.cut hd hl hl0 e12
    have tb := h.tct hs hd hn (A := fun i => if l ≤ i ∧ i < l0 then 0 else ai X (y 7 d) i) hl hl0 e12
    have h1 := h.ct hb hs hd (A := fun i => if l ≤ i ∧ i < l0 then 0 else ai X (y 7 d) i) (B := fun i => if l0 ≤ i ∧ i < l then 0 else T (83 * s d + 19 + i)) hl c1 c2 (by omega)
    have k1 : KP y X (ctC y X d l (fun i => if l ≤ i ∧ i < l0 then 0 else ai X (y 7 d) i)) := KP.ct hs (by omega)
    have h2 := h1.chg (tm := tm) hb hs hd hu
    refine ⟨_, k1.tr (KP.ch (a := y 5 d) (ou := some (tad t u)) (tm := tm)), fun a => (chB_i (by omega) (by omega)).trans (gi_ne (by omega)), h2, fun K hK => ⟨hs.k 4 0, iF (by rw [e25]; exact nI_pos (by omega)) ⟨y 5 d, c.1, hs.k 5 d (by simp [yV]; omega), ?_⟩⟩⟩
    rw [e25]
    refine S_resize hs hz (by omega) hl hl0 e12 ?_
    have c' := c.fr k1.1
    refine ⟨y 5 d, c'.1, hs.k 5 d (by simp [yV]; omega), ?_⟩
    rw [c'.2.1, c'.2.2]
    exact S_changeBy hs (by omega) hK
/-- mode -/
theorem al2 (h : TrR t y X T n r s np) (hb : np < 2 ^ 31) (hs : SH t y) (hd : lvN n r d) (c : CH t y X d u tm) (o : Option Int32) (e26 : gi X 26 (y 4 0) = if o = none then 0 else 1) (ho : ∀ v, o = some v → gi X 27 (y 4 0) = v ∧ (v < 0 ↔ gi X 2 (y 5 d) < 0)) : ∃ X', KP y X X' ∧ (∀ a, gi X' 2 a < 0 → gi X 2 a < 0) ∧ TrR t y X' (aT2 T (s d) o) n r s np ∧ ∀ K : GS → Prop, w_Change_alter_51 t (y 4 0) K X' → w_Change_alter_33 t (y 4 0) K X := by
  have hd20 := h.le hd
  cases o with
  | none => exact ⟨X, KP.rf, fun _ w => w, h, fun K hK => ⟨hs.k 4 0, iT (by rw [e26, if_pos rfl]) hK⟩⟩
  | some v =>
    obtain ⟨e27, hv⟩ := ho v rfl
    refine ⟨_, ⟨frT.si (f := 2) (by omega), fun a => gi_ne (by omega), fun _ => rfl, fun a => gi_ne (by omega), fun _ _ => rfl⟩, fun a w => ?_, h.md hb hs hd hv, fun K hK => ⟨hs.k 4 0, iF (by rw [e26, if_neg (by simp)]; decide) ⟨y 5 d, c.1, hs.k 5 d (by simp [yV]; omega), fun G2 e2 => ?_⟩⟩⟩
    · by_cases q : a = y 5 d
      · rw [q, gi_at] at w; rw [q]; exact hv.mp w
      · rw [gi_na q] at w; exact w
    rw [e27] at e2
    subst e2; exact hK
/-- group -/
theorem al3 (h : TrR t y X T n r s np) (hb : np < 2 ^ 31) (hs : SH t y) (hd : lvN n r d) (c : CH t y X d u tm) (o : Option Nat) (e30 : gr X 30 (y 4 0) = o.map (tad t)) (ho : ∀ v, o = some v → v < 3) : ∃ X', KP y X X' ∧ (∀ a, gi X' 2 a = gi X 2 a) ∧ TrR t y X' (aT3 T (s d) o) n r s np ∧ ∀ K : GS → Prop, w_Change_alter_69 t (y 4 0) K X' → w_Change_alter_51 t (y 4 0) K X := by
  have hd20 := h.le hd
  cases o with
  | none => exact ⟨X, KP.rf, fun _ => rfl, h, fun K hK => ⟨hs.k 4 0, iT e30 hK⟩⟩
  | some v =>
    have e30 : gr X 30 (y 4 0) = some (tad t v) := e30
    refine ⟨_, ⟨frT.sr5, fun a => rfl, fun _ => gr_ne (by omega), fun a => rfl, fun _ _ => rfl⟩, fun _ => rfl, h.gp hb hs hd (ho v rfl), fun K hK => ⟨hs.k 4 0, iF (by rw [e30]; simp) ⟨y 5 d, c.1, hs.k 5 d (by simp [yV]; omega), fun G2 e2 => ?_⟩⟩⟩
    rw [e30] at e2
    subst e2; exact hK
/-- name -/
theorem al4 (h : TrR t y X T n r s np) (hb : np < 2 ^ 31) (hs : SH t y) (hz : FZ y X) (hd : lvN n r d) (hu : u < 3) (c : CH t y X d u tm) {l hm : Nat} {g : Nat → Nat} (e32 : gi X 32 (y 4 0) = nI l) (hl : l ≤ 8) (ho : 0 < l → lvN n r hm ∧ gr X 7 (y 5 d) = some (y 5 hm) ∧ (∀ k, k < l → g k < 256 ∧ ai X (y 17 0) k = sb (g k)) ∧ ∀ i, i < n → r i ≠ d → gr X 7 (y 5 (r i)) = gr X 7 (y 5 d) → ¬ (gi X 10 (y 5 (r i)) = nI l ∧ ∀ k, k < l → ai X (y 6 (r i)) k = sb (g k))) : ∃ X', frT y X X' ∧ (∀ a, gi X' 0 a = gi X 0 a ∧ gi X' 2 a = gi X 2 a) ∧ TrR t y X' (aT4 T (s d) (s hm) tm u l g) n r s np ∧ ∀ K : GS → Prop, w_Change_alter_119 t (y 4 0) K X' → w_Change_alter_69 t (y 4 0) K X := by
  have hd20 := h.le hd
  by_cases q : l = 0
  · subst q
    exact ⟨X, frT.rf, fun _ => ⟨rfl, rfl⟩, by unfold aT4; rw [if_pos rfl]; exact h, fun K hK => ⟨hs.k 4 0, iT (by rw [e32]; decide) hK⟩⟩
  · obtain ⟨hh, e7, hg, hU⟩ := ho (by omega)
    have hh20 := h.le hh
    have h1 := h.rn hb hs hd (A := fun i => if i < l then sb (g i) else ai X (y 6 d) i) (g := g) hl (fun k hk => ⟨(hg k hk).1, if_pos hk⟩) hU
    have f1 : frT y X (nmC y X d l (fun i => if i < l then sb (g i) else ai X (y 6 d) i)) := (frT.aw6 (by omega)).tr (frT.si (by omega))
    have h2 := h1.chg (tm := tm) hb hs hh hu
    refine ⟨_, f1.tr (frT.ch (a := y 5 hm) (ou := some (tad t u)) (tm := tm)), fun a => ⟨(chB_i (by omega) (by omega)).trans (gi_ne (by omega)), (chB_i (by omega) (by omega)).trans (gi_ne (by omega))⟩, by unfold aT4; rw [if_neg q]; exact h2, fun K hK => ⟨hs.k 4 0, iF (by rw [e32]; exact nI_nle (by omega) (by omega)) ⟨y 5 d, c.1, hs.k 5 d (by simp [yV]; omega), iF (by rw [e7]; simp) ⟨y 17 0, hz.2.1.2.2.1, ?_⟩⟩⟩⟩
    rw [e32]
    refine S_rename hs hz (by omega) hl (fun k hk => (hg k hk).2) ?_
    have c' := c.fr f1
    refine ⟨y 5 d, c'.1, hs.k 5 d (by simp [yV]; omega), y 5 hm, e7, hs.k 5 hm (by simp [yV]; omega), ?_⟩
    rw [c'.2.1, c'.2.2]
    exact S_changeBy hs (by omega) hK
/-- time -/
theorem al5 (h : TrR t y X T n r s np) (hb : np < 2 ^ 31) (hs : SH t y) (hd : lvN n r d) (c : CH t y X d u tm) (o : Option Int32) (e28 : gi X 28 (y 4 0) = if o = none then 0 else 1) (ho : ∀ v, o = some v → gi X 29 (y 4 0) = v) : ∃ X', frT y X X' ∧ (∀ a, gi X' 0 a = gi X 0 a ∧ gi X' 2 a = gi X 2 a) ∧ TrR t y X' (aT5 T (s d) o) n r s np ∧ ∀ K : GS → Prop, K X' → w_Change_alter_119 t (y 4 0) K X := by
  have hd20 := h.le hd
  cases o with
  | none => exact ⟨X, frT.rf, fun _ => ⟨rfl, rfl⟩, h, fun K hK => ⟨hs.k 4 0, iT (by rw [e28, if_pos rfl]) hK⟩⟩
  | some v =>
    refine ⟨_, frT.si (f := 3) (by omega), fun a => ⟨gi_ne (by omega), gi_ne (by omega)⟩, h.mt hb hs hd (v := v), fun K hK => ⟨hs.k 4 0, iF (by rw [e28, if_neg (by simp)]; decide) ⟨y 5 d, c.1, hs.k 5 d (by simp [yV]; omega), fun G2 e2 => ?_⟩⟩⟩
    rw [ho v rfl] at e2
    subst e2; exact hK
/-- an alteration stands ready -/
theorem stg_al (h : TrR t y G T n r s np) (hb : np < 2 ^ 31) (hs : SH t y) (hd : lvN n r d) (hu : u < 3) (k21 : gr G 21 (y 4 0) = some (tad t 6)) (c : CH t y G d u tm) (hl0 : l0 ≤ 64) (e12 : gi G 12 (y 5 d) = nI l0) (o1 : Option Nat) (e25 : gi G 25 (y 4 0) = oI o1) (ho1 : ∀ l, o1 = some l → l ≤ 64 ∧ ¬ gi G 2 (y 5 d) < 0 ∧ tBl y G n r + (l + 15) / 16 ≤ 24 + (l0 + 15) / 16) (o2 : Option Int32) (e26 : gi G 26 (y 4 0) = if o2 = none then 0 else 1) (ho2 : ∀ v, o2 = some v → gi G 27 (y 4 0) = v ∧ (v < 0 ↔ gi G 2 (y 5 d) < 0)) (o3 : Option Nat) (e30 : gr G 30 (y 4 0) = o3.map (tad t)) (ho3 : ∀ v, o3 = some v → v < 3) {l hm : Nat} {g : Nat → Nat} (e32 : gi G 32 (y 4 0) = nI l) (hl : l ≤ 8) (ho4 : 0 < l → lvN n r hm ∧ gr G 7 (y 5 d) = some (y 5 hm) ∧ (∀ k, k < l → g k < 256 ∧ ai G (y 17 0) k = sb (g k)) ∧ ∀ i, i < n → r i ≠ d → gr G 7 (y 5 (r i)) = gr G 7 (y 5 d) → ¬ (gi G 10 (y 5 (r i)) = nI l ∧ ∀ k, k < l → ai G (y 6 (r i)) k = sb (g k))) (o5 : Option Int32) (e28 : gi G 28 (y 4 0) = if o5 = none then 0 else 1) (ho5 : ∀ v, o5 = some v → gi G 29 (y 4 0) = v) : Stg t y G (aT5 (aT4 (aT3 (aT2 (aT1 T (s d) l0 tm u o1) (s d) o2) (s d) o3) (s d) (s hm) tm u l g) (s d) o5) n r np np := by
  intro G1 a hz
  have h1 := h.to a.1
  have gI : ∀ f b, 21 ≤ f → f ≤ 35 → gi G1 f b = gi G f b := fun f b q1 q2 => (a.2.1 f b q1 q2).1
  have gR : ∀ f b, 21 ≤ f → f ≤ 35 → gr G1 f b = gr G f b := fun f b q1 q2 => (a.2.1 f b q1 q2).2
  have tI : ∀ f b, f ≤ 16 → gi G1 f b = gi G f b := fun f b q => (a.1.1 f b q).1
  have tR : ∀ f b, f ≤ 16 → gr G1 f b = gr G f b := fun f b q => (a.1.1 f b q).2
  have tb : tBl y G1 n r = tBl y G n r := tBl_eq (fun b => by rw [tI 2 b (by omega)]) (fun b => tR 7 b (by omega)) (fun b => tI 12 b (by omega))
  have c1 : CH t y G1 d u tm := ⟨(gR _ _ (by omega) (by omega)).trans c.1, (gR _ _ (by omega) (by omega)).trans c.2.1, (gI _ _ (by omega) (by omega)).trans c.2.2⟩
  obtain ⟨X1, p1, p2, p3, p4⟩ := al1 h1 hb hs hz hd hu c1 hl0 ((tI _ _ (by omega)).trans e12) o1 ((gI _ _ (by omega) (by omega)).trans e25) (fun l hl => by rw [tI 2 _ (by omega), tb]; exact ho1 l hl)
  have cc1 := c1.fr p1.1
  obtain ⟨X2, q1, q2, q3, q4⟩ := al2 p3 hb hs hd cc1 o2 (by rw [(p1.1.1 26 _ (by omega)).1, gI _ _ (by omega) (by omega)]; exact e26) (fun v hv => by rw [(p1.1.1 27 _ (by omega)).1, gI _ _ (by omega) (by omega), p2, tI 2 _ (by omega)]; exact ho2 v hv)
  have k2 := p1.tr q1
  have cc2 := cc1.fr q1.1
  obtain ⟨X3, r1, r2, r3, r4⟩ := al3 q3 hb hs hd cc2 o3 (by rw [(k2.1.1 30 _ (by omega)).2, gR _ _ (by omega) (by omega)]; exact e30) ho3
  have k3 := k2.tr r1
  have cc3 := cc2.fr r1.1
  have a17 : ai X3 (y 17 0) = ai G (y 17 0) := by
    rw [k3.1.2.2.2.1 _ (fun i hi => ⟨hs.ne (by omega) rfl (by simp [yV, hi]), hs.ne (by omega) rfl (by simp [yV, hi])⟩)]
    exact a.2.2.1
  obtain ⟨X4, s1, s2, s3, s4⟩ := al4 r3 hb hs (frT.fz hs hz k3.1) hd hu cc3 (l := l) (hm := hm) (g := g) (by rw [(k3.1.1 32 _ (by omega)).1, gI _ _ (by omega) (by omega)]; exact e32) hl (fun hl0 => by
    obtain ⟨w1, w2, w3, w4⟩ := ho4 hl0
    refine ⟨w1, by rw [k3.2.2.1, tR 7 _ (by omega)]; exact w2, fun k hk => by rw [a17]; exact w3 k hk, fun i hi hne => ?_⟩
    have := h.y20 hi
    rw [k3.2.2.1, k3.2.2.1, k3.2.2.2.1, k3.2.2.2.2 _ this, tR 7 _ (by omega), tR 7 _ (by omega), tI 10 _ (by omega), (a.1.2.1 _ this).1]
    exact w4 i hi hne)
  have f4 := k3.1.tr s1
  have cc4 := cc3.fr s1
  obtain ⟨X5, u1, u2, u3, u4⟩ := al5 s3 hb hs hd cc4 o5 (by rw [(f4.1 28 _ (by omega)).1, gI _ _ (by omega) (by omega)]; exact e28) (fun v hv => by rw [(f4.1 29 _ (by omega)).1, gI _ _ (by omega) (by omega)]; exact ho5 v hv)
  refine ⟨X5, ⟨f4.tr u1, n, r, s, u3, Or.inl rfl, fun j p hj hp e => ?_⟩, fun K hK => ?_⟩
  · rw [(u2 _).1, (s2 _).1, k3.2.1] at e
    refine ⟨e, fun w => w, fun w => w, fun w => ?_⟩
    rw [(u2 _).2, (s2 _).2, r2] at w
    have := q2 _ w
    rw [p2] at this; exact this
  · have g21 : gr G1 21 (y 4 0) = some (tad t 6) := (gR _ _ (by omega) (by omega)).trans k21
    exact ⟨hs.k 4 0, iT (by rw [c1.1]; simp) (iT (by rw [g21]; exact tdK hs (i := 3) (j := 0) (by omega) (by omega) (by omega)) (iT (by rw [g21]; exact tdK hs (i := 3) (j := 1) (by omega) (by omega) (by omega)) (iF (fun w => w g21) (p4 _ (q4 _ (r4 _ (s4 _ (u4 _ hK))))))))⟩
end STGA
