/-! steps of the handlers: a fid, a connection, a change (by hand) -/
/-- only this fid's part differs -/
def fC (y : LYT) (k : Nat) (G G' : GS) : Prop := (∀ f a, ¬ (46 ≤ f ∧ f ≤ 54 ∧ a = y 14 k) → gi G' f a = gi G f a ∧ gl G' f a = gl G f a ∧ gr G' f a = gr G f a) ∧ (∀ b, ai G' b = ai G b) ∧ (∀ b, al G' b = al G b) ∧ ∀ b, ar G' b = ar G b
def fM (y : LYT) (k : Nat) (m m' : GS) : Prop := (∀ f a, gi m' f a = gi m f a) ∧ (∀ f a, gl m' f a = gl m f a) ∧ (∀ f a, gr m' f a = gr m f a) ∧ (∀ b, ar m' b = ar m b) ∧ (∀ b, (∀ f, 86 ≤ f → f ≤ 93 → b ≠ y 30 f) → ai m' b = ai m b) ∧ ∀ f i, 86 ≤ f → f ≤ 93 → i ≠ k → ai m' (y 30 f) i = ai m (y 30 f) i ∧ al m' (y 30 f) i = al m (y 30 f) i
/-- only the change's part differs; .. only the tree's cells and what was put aside -/
def cC (y : LYT) (G G' : GS) : Prop := (∀ f a, f < 21 ∨ 35 < f → gi G' f a = gi G f a) ∧ (∀ f a, f < 21 ∨ 30 < f → gr G' f a = gr G f a) ∧ (∀ f a, gl G' f a = gl G f a) ∧ (∀ b, b ≠ y 17 0 → b ≠ y 18 0 → ai G' b = ai G b) ∧ (∀ b, al G' b = al G b) ∧ ∀ b, ar G' b = ar G b
def cM5 (y : LYT) (m m' : GS) : Prop := (∀ f a, gi m' f a = gi m f a) ∧ (∀ f a, gl m' f a = gl m f a) ∧ (∀ f a, gr m' f a = gr m f a) ∧ (∀ b, ar m' b = ar m b) ∧ (∀ b, al m' b = al m b) ∧ ∀ b, b ≠ y 30 70 → b ≠ y 30 71 → ai m' b = ai m b
/-- only the connections' parts differ -/
def lC (y : LYT) (G G' : GS) : Prop := (∀ f a, f < 56 ∨ 61 < f → gi G' f a = gi G f a) ∧ (∀ f a, gl G' f a = gl G f a) ∧ (∀ f a, gr G' f a = gr G f a) ∧ (∀ b, (∀ c, c < 2 → b ≠ y 11 c ∧ b ≠ y 12 c) → ai G' b = ai G b) ∧ (∀ b, al G' b = al G b) ∧ ∀ b, ar G' b = ar G b
def lM (y : LYT) (m m' : GS) : Prop := (∀ f a, gi m' f a = gi m f a) ∧ (∀ f a, gl m' f a = gl m f a) ∧ (∀ f a, gr m' f a = gr m f a) ∧ (∀ b, ar m' b = ar m b) ∧ (∀ b, al m' b = al m b) ∧ ∀ b, (∀ f, 79 ≤ f → f ≤ 85 → b ≠ y 30 f) → ai m' b = ai m b
section STEPS
variable {t : TY} {y : LYT} {b b' c z : Nat} {f : Nat → Nat} {G G1 G' m m1 m' : GS} {n np k : Nat} {r s : Nat → Nat}
theorem y14 (hs : SH t y) {k k' : Nat} (h : k < 12) (h' : k' < 12) (e : y 14 k = y 14 k') : k = k' := ((hs.2.1 14 k 14 k' (by simp [yV]; omega) (by simp [yV]; omega)).mp e).2
theorem fC.rf : fC y k G G := ⟨fun _ _ _ => ⟨rfl, rfl, rfl⟩, fun _ => rfl, fun _ => rfl, fun _ => rfl⟩
theorem fC.tr (a : fC y k G G1) (d : fC y k G1 G') : fC y k G G' := ⟨fun f x h => ⟨(d.1 f x h).1.trans (a.1 f x h).1, (d.1 f x h).2.1.trans (a.1 f x h).2.1, (d.1 f x h).2.2.trans (a.1 f x h).2.2⟩, fun x => (d.2.1 x).trans (a.2.1 x), fun x => (d.2.2.1 x).trans (a.2.2.1 x), fun x => (d.2.2.2 x).trans (a.2.2.2 x)⟩
theorem fC.si (a : fC y k G G1) {f : Nat} {v : Int32} (h : 46 ≤ f ∧ f ≤ 54 := by omega) : fC y k G (si G1 f (y 14 k) v) := a.tr ⟨fun g x q => ⟨if_neg (fun w => q ⟨by omega, by omega, w.2⟩), rfl, rfl⟩, fun _ => rfl, fun _ => rfl, fun _ => rfl⟩
theorem fC.sl (a : fC y k G G1) {f : Nat} {v : Int64} (h : 46 ≤ f ∧ f ≤ 54 := by omega) : fC y k G (sl G1 f (y 14 k) v) := a.tr ⟨fun g x q => ⟨rfl, if_neg (fun w => q ⟨by omega, by omega, w.2⟩), rfl⟩, fun _ => rfl, fun _ => rfl, fun _ => rfl⟩
theorem fC.sr (a : fC y k G G1) {f : Nat} {v : Option Nat} (h : 46 ≤ f ∧ f ≤ 54 := by omega) : fC y k G (sr G1 f (y 14 k) v) := a.tr ⟨fun g x q => ⟨rfl, rfl, if_neg (fun w => q ⟨by omega, by omega, w.2⟩)⟩, fun _ => rfl, fun _ => rfl, fun _ => rfl⟩
theorem fM.rf : fM y k m m := ⟨fun _ _ => rfl, fun _ _ => rfl, fun _ _ => rfl, fun _ => rfl, fun _ _ => rfl, fun _ _ _ _ _ => ⟨rfl, rfl⟩⟩
theorem fM.tr (a : fM y k m m1) (d : fM y k m1 m') : fM y k m m' := ⟨fun f x => (d.1 f x).trans (a.1 f x), fun f x => (d.2.1 f x).trans (a.2.1 f x), fun f x => (d.2.2.1 f x).trans (a.2.2.1 f x), fun x => (d.2.2.2.1 x).trans (a.2.2.2.1 x), fun x h => (d.2.2.2.2.1 x h).trans (a.2.2.2.2.1 x h), fun f i h1 h2 h3 => ⟨(d.2.2.2.2.2 f i h1 h2 h3).1.trans (a.2.2.2.2.2 f i h1 h2 h3).1, (d.2.2.2.2.2 f i h1 h2 h3).2.trans (a.2.2.2.2.2 f i h1 h2 h3).2⟩⟩
theorem fM.ais (a : fM y k m m1) {f : Nat} {v : Int32} (h : 86 ≤ f ∧ f ≤ 93 := by omega) : fM y k m (ais m1 (y 30 f) k v) := a.tr ⟨fun _ _ => rfl, fun _ _ => rfl, fun _ _ => rfl, fun _ => rfl, fun x q => ai_nb (q f h.1 h.2), fun g i _ _ q => ⟨ai_nj q, rfl⟩⟩
theorem fM.als (a : fM y k m m1) {f : Nat} {v : Int64} (h : 86 ≤ f ∧ f ≤ 93 := by omega) : fM y k m (als m1 (y 30 f) k v) := a.tr ⟨fun _ _ => rfl, fun _ _ => rfl, fun _ _ => rfl, fun _ => rfl, fun x q => rfl, fun g i _ _ q => ⟨rfl, al_nj q⟩⟩
theorem fC.kk (a : fC y k G G1) : kC y G G1 := ⟨fun f x h1 h2 => (a.1 f x (by omega)).1, fun _ _ _ => a.2.1 _, fun c _ => ⟨(a.1 56 _ (by omega)).1, p58 (a.1 58 _ (by omega)).1 (a.1 61 _ (by omega)).1⟩⟩
theorem fM.kk (a : fM y k m m1) (hs : SH t y) : kM y m m1 := ⟨fun f _ => ⟨a.1 f _, a.2.1 f _⟩, a.2.2.2.2.1 _ (fun f h1 h2 => hs.ne (by omega) rfl (yV30 (by omega))), a.2.2.2.2.1 _ (fun f h1 h2 => hs.ne (by omega) rfl (yV30 (by omega)))⟩
theorem fC.e (a : fC y k G G1) : eS y G G1 := ⟨fun f h => a.1 f _ (by omega), fun f _ => ⟨a.2.1 _, a.2.2.1 _⟩⟩
theorem fC.fz (a : fC y k G G1) (hs : SH t y) (hz : FZ y G) : FZ y G1 := by
  have g : ∀ f x, f < 46 ∨ 54 < f → gr G1 f x = gr G f x := fun f x q => (a.1 f x (by omega)).2.2
  exact hz.to hs ⟨fun x => ⟨g _ _ (by omega), g _ _ (by omega), g _ _ (by omega), g _ _ (by omega), g _ _ (by omega), g _ _ (by omega), g _ _ (by omega), g _ _ (by omega), g _ _ (by omega), g _ _ (by omega), g _ _ (by omega), g _ _ (by omega), g _ _ (by omega), g _ _ (by omega), g _ _ (by omega), g _ _ (by omega), g _ _ (by omega), g _ _ (by omega), g _ _ (by omega)⟩, fun f x hv => g f x (by simp [yV] at hv; omega), fun b _ => a.2.2.2 b⟩
theorem fM.fz (a : fM y k m m1) (hs : SH t y) (hz : FZ y m) : FZ y m1 := hz.to hs (sZ.of a.2.2.1 a.2.2.2.1)
theorem fM.ma (a : fM y k m m1) (hs : SH t y) {f : Nat} (hv : yV 30 f = true) (h : f < 86 ∨ 93 < f) : ai m1 (y 30 f) = ai m (y 30 f) := a.2.2.2.2.1 _ (fun g h1 h2 => hs.ne (by omega) hv (yV30 (by omega)))
theorem fC.agC (a : fC y k G G1) : agC y G G1 := ⟨⟨fun f x h => ⟨(a.1 f x (by omega)).1, (a.1 f x (by omega)).2.2⟩, fun i _ => ⟨a.2.1 _, a.2.1 _⟩, a.2.2.2⟩, fun f x h1 h2 => ⟨(a.1 f x (by omega)).1, (a.1 f x (by omega)).2.2⟩, a.2.1 _, a.2.1 _⟩
/-- one fid has changed in both -/
theorem InvZ.fid (h : InvZ t y b G m n r s np) (hk : k < 12) (a : fC y k G G') (c : fM y k m m') (hu : FuR y G' m' k) (hF : FdR t y G' m' n r np k) : InvZ t y b G' m' n r s np := by
  obtain ⟨hs, hz, hm, ⟨s1, s2, s3, s4, s5, s6⟩, hl, hu0, hT, hF0, h74, hnp, hst⟩ := h
  have g : ∀ f x, f < 46 ∨ 54 < f → gi G' f x = gi G f x := fun f x q => (a.1 f x (by omega)).1
  have oC : ∀ k', k' < 12 → k' ≠ k → agF y G G' k' := fun k' h1 h2 f _ _ => a.1 f _ (fun w => h2 (y14 hs h1 hk w.2.2))
  have oM : ∀ k', k' ≠ k → agFm y m m' k' := fun k' h2 f h3 h4 => c.2.2.2.2.2 f k' h3 h4 h2
  refine ⟨hs, a.fz hs hz, c.fz hs hm, ⟨?_, ?_, ?_, ?_, ?_, ?_⟩, fun q hq => ?_, fun k' hk' => ?_, ?_, fun k' hk' => ?_, ?_, hnp, fun q1 q2 => ?_⟩
  · rw [g _ _ (by omega), c.1]; exact s1
  · rw [g _ _ (by omega), c.1]; exact s2
  · rw [g _ _ (by omega), c.1]; exact s3
  · rw [g _ _ (by omega), c.1]; exact s4
  · rw [g _ _ (by omega)]; exact s5
  · rw [g _ _ (by omega), g _ _ (by omega), c.1]; exact s6
  · exact (hl q hq).to ⟨fun f h1 h2 => g f _ (by omega), a.2.1 _, a.2.1 _⟩ ⟨fun i _ => by rw [c.ma hs rfl (by omega)], fun i _ => by rw [c.ma hs rfl (by omega)], fun f hf => by rw [c.ma hs (by simp [yV]; omega) (by omega)]⟩ (fun w => by rw [g _ _ (by omega)] at w; exact w)
  · by_cases q : k' = k
    · rw [q]; exact hu
    · exact (hu0 k' hk').to (oC k' hk' q) (oM k' q) (fun w => by rw [g _ _ (by omega)] at w; exact w)
  · rw [c.ma hs rfl (by omega)]; exact hT.to a.agC.1
  · by_cases q : k' = k
    · rw [q]; exact hF
    · exact (hF0 k' hk').to (oC k' hk' q) (oM k' q) (fun j => ⟨g 0 _ (by omega), g 2 _ (by omega)⟩)
  · rw [c.1]; exact h74
  · rw [g _ _ (by omega)] at q1 q2
    obtain ⟨nq, h⟩ := hst q1 q2
    exact ⟨nq, by rw [c.ma hs rfl (by omega)]; exact h.to a.agC⟩
theorem Pre.fid (P : Pre t y b c z f G m) (h : InvZ t y b G m n r s np) (hk : k < 12) (a : fC y k G G') (d : fM y k m m') (hu : FuR y G' m' k) (hF : FdR t y G' m' n r np k) : Pre t y b c z f G' m' := P.to ((h.fid hk a d hu hF).of) ((a.1 19 _ (by omega)).1.trans P.r) a.kk (d.kk P.s) P.hb
/-- a connection has changed in both -/
theorem InvY.lk (h : InvY t y b G m) (a : lC y G G') (d : lM y m m') (hl : ∀ c, c < 2 → LkR y G' m' c) : InvY t y b G' m' := by
  obtain ⟨hs, hz, hm, ⟨s1, s2, s3, s4, s5, s6⟩, -, hu0, n, r, s, np, hT, hF0, h74, hnp, hst⟩ := h
  have A : ∀ k i, k ≠ 11 → k ≠ 12 → yV k i = true → ai G' (y k i) = ai G (y k i) := fun k i h1 h2 hv => a.2.2.2.1 _ (fun c hc => ⟨hs.ne (by omega) hv (by simp [yV, hc]), hs.ne (by omega) hv (by simp [yV, hc])⟩)
  have M : ∀ f, yV 30 f = true → f < 79 ∨ 85 < f → ai m' (y 30 f) = ai m (y 30 f) := fun f hv q => d.2.2.2.2.2 _ (fun g h1 h2 => hs.ne (by omega) hv (yV30 (by omega)))
  have aT : agT y G G' := ⟨fun f x h => ⟨a.1 f x (by omega), a.2.2.1 f x⟩, fun i hi => ⟨A 6 i (by omega) (by omega) (by simp [yV, hi]), A 7 i (by omega) (by omega) (by simp [yV, hi])⟩, a.2.2.2.2.2⟩
  have aF : ∀ k, agF y G G' k := fun k f h1 h2 => ⟨a.1 f _ (by omega), a.2.1 f _, a.2.2.1 f _⟩
  have aFm : ∀ k, agFm y m m' k := fun k f h1 h2 => ⟨congrFun (M f (yV30 (by omega)) (by omega)) k, congrFun (d.2.2.2.2.1 _) k⟩
  refine ⟨hs, hz.to hs (sZ.of a.2.2.1 a.2.2.2.2.2), hm.to hs (sZ.of d.2.2.1 d.2.2.2.1), ⟨?_, ?_, ?_, ?_, ?_, ?_⟩, hl, fun k hk => ?_, n, r, s, np, ?_, fun k hk => ?_, ?_, hnp, fun q1 q2 => ?_⟩
  · rw [a.1 _ _ (by omega), d.1]; exact s1
  · rw [a.1 _ _ (by omega), d.1]; exact s2
  · rw [a.1 _ _ (by omega), d.1]; exact s3
  · rw [a.1 _ _ (by omega), d.1]; exact s4
  · rw [a.1 _ _ (by omega)]; exact s5
  · rw [a.1 _ _ (by omega), a.1 _ _ (by omega), d.1]; exact s6
  · exact (hu0 k hk).to (aF k) (aFm k) (fun w => by rw [a.1 _ _ (by omega)] at w; exact w)
  · rw [M 70 rfl (by omega)]; exact hT.to aT
  · exact (hF0 k hk).to (aF k) (aFm k) (fun j => ⟨a.1 0 _ (by omega), a.1 2 _ (by omega)⟩)
  · rw [d.1]; exact h74
  · rw [a.1 _ _ (by omega)] at q1 q2
    obtain ⟨nq, h⟩ := hst q1 q2
    exact ⟨nq, by rw [M 72 rfl (by omega)]; exact h.to ⟨aT, fun f x h1 h2 => ⟨a.1 f x (by omega), a.2.2.1 f x⟩, A 17 0 (by omega) (by omega) rfl, A 18 0 (by omega) (by omega) rfl⟩⟩
theorem lC.rf : lC y G G := ⟨fun _ _ _ => rfl, fun _ _ => rfl, fun _ _ => rfl, fun _ _ => rfl, fun _ => rfl, fun _ => rfl⟩
theorem lC.tr (a : lC y G G1) (d : lC y G1 G') : lC y G G' := ⟨fun f x h => (d.1 f x h).trans (a.1 f x h), fun f x => (d.2.1 f x).trans (a.2.1 f x), fun f x => (d.2.2.1 f x).trans (a.2.2.1 f x), fun x h => (d.2.2.2.1 x h).trans (a.2.2.2.1 x h), fun x => (d.2.2.2.2.1 x).trans (a.2.2.2.2.1 x), fun x => (d.2.2.2.2.2 x).trans (a.2.2.2.2.2 x)⟩
theorem lC.si (a : lC y G G1) {f x : Nat} {v : Int32} (h : 56 ≤ f ∧ f ≤ 61 := by omega) : lC y G (si G1 f x v) := a.tr ⟨fun g d q => gi_ne (by omega), fun _ _ => rfl, fun _ _ => rfl, fun _ _ => rfl, fun _ => rfl, fun _ => rfl⟩
theorem lC.aw (a : lC y G G1) {k c : Nat} {v : Nat → Int32} (h : k = 11 ∨ k = 12) (hc : c < 2) : lC y G (aw G1 (y k c) v) := a.tr ⟨fun g d q => rfl, fun _ _ => rfl, fun _ _ => rfl, fun b q => aw_ne (by rcases h with rfl | rfl; exact (q c hc).1; exact (q c hc).2), fun _ => rfl, fun _ => rfl⟩
theorem lM.rf : lM y m m := ⟨fun _ _ => rfl, fun _ _ => rfl, fun _ _ => rfl, fun _ => rfl, fun _ => rfl, fun _ _ => rfl⟩
theorem lM.tr (a : lM y m m1) (d : lM y m1 m') : lM y m m' := ⟨fun f x => (d.1 f x).trans (a.1 f x), fun f x => (d.2.1 f x).trans (a.2.1 f x), fun f x => (d.2.2.1 f x).trans (a.2.2.1 f x), fun x => (d.2.2.2.1 x).trans (a.2.2.2.1 x), fun x => (d.2.2.2.2.1 x).trans (a.2.2.2.2.1 x), fun x h => (d.2.2.2.2.2 x h).trans (a.2.2.2.2.2 x h)⟩
theorem lM.ais (a : lM y m m1) {f k : Nat} {v : Int32} (h : 79 ≤ f ∧ f ≤ 85 := by omega) : lM y m (ais m1 (y 30 f) k v) := a.tr ⟨fun _ _ => rfl, fun _ _ => rfl, fun _ _ => rfl, fun _ => rfl, fun _ => rfl, fun b q => ai_nb (q f h.1 h.2)⟩
theorem lM.aw (a : lM y m m1) {f : Nat} {v : Nat → Int32} (h : 79 ≤ f ∧ f ≤ 85 := by omega) : lM y m (aw m1 (y 30 f) v) := a.tr ⟨fun _ _ => rfl, fun _ _ => rfl, fun _ _ => rfl, fun _ => rfl, fun _ => rfl, fun b q => aw_ne (q f h.1 h.2)⟩
theorem lC.e (a : lC y G G1) (hs : SH t y) : eS y G G1 := ⟨fun f h => ⟨a.1 f _ (by omega), a.2.1 f _, a.2.2.1 f _⟩, fun f hv => ⟨a.2.2.2.1 _ (fun c hc => ⟨hs.ne (by omega) hv (by simp [yV, hc]), hs.ne (by omega) hv (by simp [yV, hc])⟩), a.2.2.2.2.1 _⟩⟩
theorem lM.kk (a : lM y m m1) (hs : SH t y) : kM y m m1 := ⟨fun f _ => ⟨a.1 f _, a.2.1 f _⟩, a.2.2.2.2.2 _ (fun f h1 h2 => hs.ne (by omega) rfl (yV30 (by omega))), a.2.2.2.2.2 _ (fun f h1 h2 => hs.ne (by omega) rfl (yV30 (by omega)))⟩
/-- a change stands ready in both -/
theorem cC.kk (a : cC y G G1) (hs : SH t y) : kC y G G1 := ⟨fun f x h1 h2 => a.1 f x (by omega), fun k h1 h2 => a.2.2.2.1 _ (hs.ne (by omega) (by rcases (show k = 19 ∨ k = 20 ∨ k = 21 ∨ k = 22 by omega) with rfl | rfl | rfl | rfl <;> rfl) rfl) (hs.ne (by omega) (by rcases (show k = 19 ∨ k = 20 ∨ k = 21 ∨ k = 22 by omega) with rfl | rfl | rfl | rfl <;> rfl) rfl), fun c _ => ⟨a.1 56 _ (by omega), p58 (a.1 58 _ (by omega)) (a.1 61 _ (by omega))⟩⟩
theorem cC.e (a : cC y G G1) (hs : SH t y) : eS y G G1 := ⟨fun f h => ⟨a.1 f _ (by omega), a.2.2.1 f _, a.2.1 f _ (by omega)⟩, fun f hv => ⟨a.2.2.2.1 _ (hs.ne (by omega) hv rfl) (hs.ne (by omega) hv rfl), a.2.2.2.2.1 _⟩⟩
theorem cC.fz (a : cC y G G1) (hs : SH t y) (hz : FZ y G) : FZ y G1 := by
  have g : ∀ f x, f < 21 ∨ 30 < f → gr G1 f x = gr G f x := a.2.1
  exact hz.to hs ⟨fun x => ⟨g _ _ (by omega), g _ _ (by omega), g _ _ (by omega), g _ _ (by omega), g _ _ (by omega), g _ _ (by omega), g _ _ (by omega), g _ _ (by omega), g _ _ (by omega), g _ _ (by omega), g _ _ (by omega), g _ _ (by omega), g _ _ (by omega), g _ _ (by omega), g _ _ (by omega), g _ _ (by omega), g _ _ (by omega), g _ _ (by omega), g _ _ (by omega)⟩, fun f x hv => g f x (by simp [yV] at hv; omega), fun b _ => a.2.2.2.2.2 b⟩
theorem cC.agT (a : cC y G G1) (hs : SH t y) : agT y G G1 := ⟨fun f x h => ⟨a.1 f x (by omega), a.2.1 f x (by omega)⟩, fun i hi => ⟨a.2.2.2.1 _ (hs.ne (by omega) (by simp [yV, hi]) rfl) (hs.ne (by omega) (by simp [yV, hi]) rfl), a.2.2.2.1 _ (hs.ne (by omega) (by simp [yV, hi]) rfl) (hs.ne (by omega) (by simp [yV, hi]) rfl)⟩, a.2.2.2.2.2⟩
theorem cM5.kk (a : cM5 y m m1) (hs : SH t y) : kM y m m1 := ⟨fun f _ => ⟨a.1 f _, a.2.1 f _⟩, a.2.2.2.2.2 _ (hs.ne (by omega)) (hs.ne (by omega)), a.2.2.2.2.2 _ (hs.ne (by omega)) (hs.ne (by omega))⟩
theorem cC.rf : cC y G G := ⟨fun _ _ _ => rfl, fun _ _ _ => rfl, fun _ _ => rfl, fun _ _ _ => rfl, fun _ => rfl, fun _ => rfl⟩
theorem cC.tr (a : cC y G G1) (d : cC y G1 G') : cC y G G' := ⟨fun f x h => (d.1 f x h).trans (a.1 f x h), fun f x h => (d.2.1 f x h).trans (a.2.1 f x h), fun f x => (d.2.2.1 f x).trans (a.2.2.1 f x), fun x h1 h2 => (d.2.2.2.1 x h1 h2).trans (a.2.2.2.1 x h1 h2), fun x => (d.2.2.2.2.1 x).trans (a.2.2.2.2.1 x), fun x => (d.2.2.2.2.2 x).trans (a.2.2.2.2.2 x)⟩
theorem cC.si (a : cC y G G1) {f x : Nat} {v : Int32} (h : 21 ≤ f ∧ f ≤ 35 := by omega) : cC y G (si G1 f x v) := a.tr ⟨fun g d q => gi_ne (by omega), fun _ _ _ => rfl, fun _ _ => rfl, fun _ _ _ => rfl, fun _ => rfl, fun _ => rfl⟩
theorem cC.sr (a : cC y G G1) {f x : Nat} {v : Option Nat} (h : 21 ≤ f ∧ f ≤ 30 := by omega) : cC y G (sr G1 f x v) := a.tr ⟨fun _ _ _ => rfl, fun g d q => gr_ne (by omega), fun _ _ => rfl, fun _ _ _ => rfl, fun _ => rfl, fun _ => rfl⟩
theorem cC.aw (a : cC y G G1) {k : Nat} {v : Nat → Int32} (h : k = 17 ∨ k = 18) : cC y G (aw G1 (y k 0) v) := a.tr ⟨fun _ _ _ => rfl, fun _ _ _ => rfl, fun _ _ => rfl, fun b h1 h2 => aw_ne (by rcases h with rfl | rfl <;> assumption), fun _ => rfl, fun _ => rfl⟩
theorem cC.bg (a : cC y G G1) {kd x : Nat} {ou : Option Nat} {tm : Int32} : cC y G (bgC y G1 kd x ou tm) := ((((((((a.sr (f := 21)).sr (f := 22)).sr (f := 23)).si (f := 24)).si (f := 25)).si (f := 26)).si (f := 28)).sr (f := 30)).si (f := 32)
theorem cM5.rf : cM5 y m m := ⟨fun _ _ => rfl, fun _ _ => rfl, fun _ _ => rfl, fun _ => rfl, fun _ => rfl, fun _ _ _ => rfl⟩
theorem cM5.tr (a : cM5 y m m1) (d : cM5 y m1 m') : cM5 y m m' := ⟨fun f x => (d.1 f x).trans (a.1 f x), fun f x => (d.2.1 f x).trans (a.2.1 f x), fun f x => (d.2.2.1 f x).trans (a.2.2.1 f x), fun x => (d.2.2.2.1 x).trans (a.2.2.2.1 x), fun x => (d.2.2.2.2.1 x).trans (a.2.2.2.2.1 x), fun x h1 h2 => (d.2.2.2.2.2 x h1 h2).trans (a.2.2.2.2.2 x h1 h2)⟩
theorem cM5.aw (a : cM5 y m m1) {f : Nat} {v : Nat → Int32} (h : f = 70 ∨ f = 71) : cM5 y m (aw m1 (y 30 f) v) := a.tr ⟨fun _ _ => rfl, fun _ _ => rfl, fun _ _ => rfl, fun _ => rfl, fun _ => rfl, fun b h1 h2 => aw_ne (by rcases h with rfl | rfl <;> assumption)⟩
theorem cM5.ais (a : cM5 y m m1) {i : Nat} {v : Int32} : cM5 y m (ais m1 (y 30 70) i v) := a.tr ⟨fun _ _ => rfl, fun _ _ => rfl, fun _ _ => rfl, fun _ => rfl, fun _ => rfl, fun b h1 _ => ai_nb h1⟩
theorem cM5.fz (a : cM5 y m m1) (hs : SH t y) (hz : FZ y m) : FZ y m1 := hz.to hs (sZ.of a.2.2.1 a.2.2.2.1)
theorem preC {nq : Nat} {G7 m5 : GS} (h : InvZ t y b G m n r s np) (hrun : gi G 19 (y 3 0) = 1) (a : cC y G G7) (c : cM5 y m m5) (h71 : ∀ i, i < 1743 → ai m5 (y 30 71) i = ai m (y 30 70) i) (hS : Stg t y G7 (ai m5 (y 30 70)) n r np nq) : PreC t y b G7 m5 (ai m (y 30 70)) (ai m5 (y 30 70)) n r s np nq := by
  obtain ⟨hs, hz, hm, ⟨s1, s2, s3, s4, s5, s6⟩, hl, hu0, hT, hF0, h74, hnp, -⟩ := h
  have g : ∀ f x, f < 21 ∨ 35 < f → gi G7 f x = gi G f x := a.1
  have A : ∀ k i, k ≠ 17 → k ≠ 18 → yV k i = true → ai G7 (y k i) = ai G (y k i) := fun k i h1 h2 hv => a.2.2.2.1 _ (hs.ne (by omega) hv rfl) (hs.ne (by omega) hv rfl)
  have M : ∀ f, yV 30 f = true → f ≠ 70 → f ≠ 71 → ai m5 (y 30 f) = ai m (y 30 f) := fun f hv q1 q2 => c.2.2.2.2.2 _ (hs.ne (by omega) hv rfl) (hs.ne (by omega) hv rfl)
  have aF : ∀ k, agF y G G7 k := fun k f h1 h2 => ⟨g f _ (by omega), a.2.2.1 f _, a.2.1 f _ (by omega)⟩
  have aFm : ∀ k, agFm y m m5 k := fun k f h1 h2 => ⟨congrFun (M f (yV30 (by omega)) (by omega) (by omega)) k, congrFun (c.2.2.2.2.1 _) k⟩
  refine ⟨hs, a.fz hs hz, c.fz hs hm, ⟨?_, ?_, ?_, ?_, ?_, ?_⟩, (g 19 _ (by omega)).trans hrun, fun q hq => ?_, fun k hk => ?_, hT.to (a.agT hs), fun k hk => ?_, ?_, hnp, hS, fun _ _ => rfl, h71⟩
  · rw [g _ _ (by omega), c.1]; exact s1
  · rw [g _ _ (by omega), c.1]; exact s2
  · rw [g _ _ (by omega), c.1]; exact s3
  · rw [g _ _ (by omega), c.1]; exact s4
  · rw [g _ _ (by omega)]; exact s5
  · rw [g _ _ (by omega), g _ _ (by omega), c.1]; exact s6
  · exact (hl q hq).to ⟨fun f h1 h2 => g f _ (by omega), A 11 q (by omega) (by omega) (by simp [yV, hq]), A 12 q (by omega) (by omega) (by simp [yV, hq])⟩ ⟨fun i _ => by rw [M 79 rfl (by omega) (by omega)], fun i _ => by rw [M 81 rfl (by omega) (by omega)], fun f hf => by rw [M f (by simp [yV]; omega) (by omega) (by omega)]⟩ (fun w => by rw [g _ _ (by omega)] at w; exact w)
  · exact (hu0 k hk).to (aF k) (aFm k) (fun w => by rw [g _ _ (by omega)] at w; exact w)
  · exact (hF0 k hk).to (aF k) (aFm k) (fun j => ⟨g 0 _ (by omega), g 2 _ (by omega)⟩)
  · rw [c.1]; exact h74
/-- an admitted change: what holds behind it -/
theorem carryI2 {T P : Nat → Int32} {n n' np nq zz : Nat} {r s r' s' : Nat → Nat} (h : PreC t y b G m T P n r s np nq) {G2 : GS} (hf : frT y (adY y G zz) G2) (hT' : TrR t y G2 P n' r' s' nq) (hq : np ≤ nq) (hb' : nq ≤ b') (hc : ∀ j p, j ≤ 20 → p < np → gi G2 0 (y 5 j) = nI p → gi (adY y G zz) 0 (y 5 j) = nI p ∧ (lvN n r j → lvN n' r' j) ∧ (lvN n' r' j → lvN n r j) ∧ (gi G2 2 (y 5 j) < 0 → gi (adY y G zz) 2 (y 5 j) < 0)) : InvZ t y b' G2 (si (cmY y m zz) 74 (y 1 0) (nI (nq - 1))) n' r' s' nq ∧ gi G2 19 (y 3 0) = 1 := by
  obtain ⟨hs, hz, hm, ⟨s1, s2, s3, s4, s5, s6⟩, hrun, hl, hu, hT, hF, h74, hnp, hS, hP, hB⟩ := h
  have ado : ∀ f a, f ≠ 17 → f ≠ 18 → gi (adY y G zz) f a = gi G f a := fun f a q1 q2 => by unfold adY; rw [gi_ne q1, gi_ne q2]
  have a17 : gi (adY y G zz) 17 (y 3 0) = gi G 17 (y 3 0) + (nI (lgB zz) + 2) := gi_at
  have a18 : gi (adY y G zz) 18 (y 3 0) = -1 := by unfold adY; rw [gi_ne (by omega), gi_at]
  have g2 : ∀ f a, 16 < f → f ≠ 17 → f ≠ 18 → gi G2 f a = gi G f a := fun f a q0 q1 q2 => (hf.1 f a q0).1.trans (ado f a q1 q2)
  have mo : ∀ f a, f ≠ 76 → f ≠ 77 → f ≠ 74 → gi (si (cmY y m zz) 74 (y 1 0) (nI (nq - 1))) f a = gi m f a := fun f a q1 q2 q3 => by rw [gi_ne q3]; unfold cmY; rw [gi_ne q2, gi_ne q1]
  have m77 : gi (si (cmY y m zz) 74 (y 1 0) (nI (nq - 1))) 77 (y 1 0) = gi m 77 (y 1 0) + (nI (lgB zz) + 2) := by rw [gi_ne (by omega)]; exact gi_at
  have m76 : gi (si (cmY y m zz) 74 (y 1 0) (nI (nq - 1))) 76 (y 1 0) = -1 := by rw [gi_ne (by omega)]; unfold cmY; rw [gi_ne (by omega), gi_at]
  have down : gi m 75 (y 1 0) = 0 ∧ gi G 20 (y 3 0) = 0 := by
    rcases s6 with ⟨-, q2, q3⟩ | ⟨q, -⟩
    · exact ⟨q2, q3⟩
    · rw [hrun] at q; exact absurd q (by decide)
  have hza : FZ y (adY y G zz) := hz.to hs (sZ.of (fun _ _ => rfl) (fun _ => rfl))
  have hz2 : FZ y G2 := hza.to hs ⟨fun a => ⟨(hf.1 63 a (by omega)).2, (hf.1 64 a (by omega)).2, (hf.1 65 a (by omega)).2, (hf.1 66 a (by omega)).2, (hf.1 67 a (by omega)).2, (hf.1 68 a (by omega)).2, (hf.2.2.2.2.1 a).2.2.1, (hf.2.2.2.2.1 a).2.2.2, (hf.1 31 a (by omega)).2, (hf.1 33 a (by omega)).2, (hf.1 36 a (by omega)).2, (hf.1 40 a (by omega)).2, (hf.1 41 a (by omega)).2, (hf.1 44 a (by omega)).2, (hf.2.2.2.2.1 a).1, (hf.2.2.2.2.1 a).2.1, (hf.1 55 a (by omega)).2, (hf.1 57 a (by omega)).2, (hf.1 62 a (by omega)).2⟩, fun f a hv => (hf.1 f a (by simp [yV] at hv; omega)).2, hf.2.2.2.2.2⟩
  have x19 : gi G2 19 (y 3 0) = 1 := (g2 19 _ (by omega) (by omega) (by omega)).trans hrun
  refine ⟨⟨hs, hz2, hm.to hs (sZ.of (fun _ _ => rfl) (fun _ => rfl)), ⟨?_, ?_, ?_, ?_, ?_, Or.inl ⟨x19, ?_, ?_⟩⟩, fun c hc' => ?_, fun k hk => ?_, ?_, fun k hk => ?_, gi_at, hb', fun q => ?_⟩, x19⟩
  · rw [(hf.1 17 _ (by omega)).1, a17, m77, s1]
  · rw [(hf.1 18 _ (by omega)).1, a18, m76]
  · rw [g2 69 _ (by omega) (by omega) (by omega), mo 78 _ (by omega) (by omega) (by omega)]; exact s3
  · rw [g2 20 _ (by omega) (by omega) (by omega), mo 73 _ (by omega) (by omega) (by omega)]; exact s4
  · rw [g2 20 _ (by omega) (by omega) (by omega)]; exact s5
  · rw [mo 75 _ (by omega) (by omega) (by omega)]; exact down.1
  · rw [g2 20 _ (by omega) (by omega) (by omega)]; exact down.2
  · have aw1 : ∀ q, q = 11 ∨ q = 12 → ai G2 (y q c) = ai G (y q c) := fun q hq => (hf.2.2.2.1 _ (fun i hi => by
      rcases hq with rfl | rfl
      · exact ⟨hs.ne (by omega) (by simp [yV, hc']) (by simp [yV, hi]), hs.ne (by omega) (by simp [yV, hc']) (by simp [yV, hi])⟩
      · exact ⟨hs.ne (by omega) (by simp [yV, hc']) (by simp [yV, hi]), hs.ne (by omega) (by simp [yV, hc']) (by simp [yV, hi])⟩))
    exact (hl c hc').to ⟨fun f h1 h2 => g2 f _ (by omega) (by omega) (by omega), aw1 11 (Or.inl rfl), aw1 12 (Or.inr rfl)⟩ ⟨fun _ _ => rfl, fun _ _ => rfl, fun _ _ => rfl⟩ (fun q => by rw [x19] at q; exact absurd q (by decide))
  · exact (hu k hk).to (fun f h1 h2 => ⟨g2 f _ (by omega) (by omega) (by omega), (hf.2.1 f _), (hf.1 f _ (by omega)).2⟩) (fun f h1 h2 => ⟨rfl, rfl⟩) (fun q => by rw [x19] at q; exact absurd q (by decide))
  · exact hT'.cells hP
  · have h1 : FdR t y (adY y G zz) (si (cmY y m zz) 74 (y 1 0) (nI (nq - 1))) n r np k := (hF k hk).to (fun f h1 h2 => ⟨ado f _ (by omega) (by omega), rfl, rfl⟩) (fun f h1 h2 => ⟨rfl, rfl⟩) (fun j => ⟨ado 0 _ (by omega) (by omega), ado 2 _ (by omega) (by omega)⟩)
    exact h1.rn hf hq (fun j hj => hT'.le hj) hc
  · rw [x19] at q; exact absurd q (by decide)
/-- a change goes through the log, or both go down -/
def Dn (t : TY) (y : LYT) (b zz : Nat) (G G7 m5 : GS) : Prop := InvY t y b (gdN y G7 zz) (cmN y m5 zz) ∧ eS y G (gdN y G7 zz) ∧ gi (gdN y G7 zz) 19 (y 3 0) = 0 ∧ (∀ K : GS → Prop, K (gdN y G7 zz) → w_S_carryOut t G7 (y 0 0) (nI zz) K) ∧ (∀ K : GS → Int32 → Prop, K (cmN y m5 zz) 0 → w_M_commit t m5 (y 1 0) (nI zz) K) ∧ ¬ gi G7 18 (y 3 0) < 0 ∧ gi G7 18 (y 3 0) < nI (lgB zz) + 2
def Up (t : TY) (y : LYT) (b zz : Nat) (G G7 m m5 G2 : GS) (n' : Nat) (r' s' : Nat → Nat) (np nq : Nat) : Prop := InvZ t y b G2 (si (cmY y m5 zz) 74 (y 1 0) (nI (nq - 1))) n' r' s' nq ∧ gi G2 19 (y 3 0) = 1 ∧ frT y (adY y G7 zz) G2 ∧ eS y G G2 ∧ kC y G G2 ∧ kM y m (si (cmY y m5 zz) 74 (y 1 0) (nI (nq - 1))) ∧ (∀ K : GS → Prop, K G2 → w_S_carryOut t G7 (y 0 0) (nI zz) K) ∧ (∀ K : GS → Int32 → Prop, K (cmY y m5 zz) 1 → w_M_commit t m5 (y 1 0) (nI zz) K) ∧ (nq = np ∨ (nq = np + 1 ∧ ∃ j, lvN n' r' j ∧ gi G2 0 (y 5 j) = nI np)) ∧ (gi G7 18 (y 3 0) < 0 ∨ ¬ gi G7 18 (y 3 0) < nI (lgB zz) + 2)
theorem carryH {nq zz : Nat} {G7 m5 : GS} (h : InvZ t y b G m n r s np) (hrun : gi G 19 (y 3 0) = 1) (a : cC y G G7) (c : cM5 y m m5) (h71 : ∀ i, i < 1743 → ai m5 (y 30 71) i = ai m (y 30 70) i) (hS : Stg t y G7 (ai m5 (y 30 70)) n r np nq) (hzz : zz < 2 ^ 30) (hb : b ≤ b') (hq : nq ≤ b') : Dn t y b' zz G G7 m5 ∨ ∃ G2 n' r' s', Up t y b' zz G G7 m m5 G2 n' r' s' np nq ∧ ∀ j, j ≤ 20 → ∀ p, p < np → gi G2 0 (y 5 j) = nI p → gi G 0 (y 5 j) = nI p ∧ (lvN n r j → lvN n' r' j) ∧ (lvN n' r' j → lvN n r j) := by
  have hs := h.1
  have pre := preC h hrun a c h71 hS
  by_cases hcut : gi G7 18 (y 3 0) < 0 ∨ ¬ gi G7 18 (y 3 0) < nI (lgB zz) + 2
  · obtain ⟨G2, hR, rS, rM⟩ := carryY pre hzz hcut
    obtain ⟨hf, n', r', s', hT', hn, hc⟩ := hR
    obtain ⟨hI, x19⟩ := carryI2 pre hf hT' (by rcases hn with w | w <;> omega) hq hc
    refine Or.inr ⟨G2, n', r', s', ⟨hI, x19, hf, (a.e hs).ad.fr hs hf, (a.kk hs).ad.fr hs hf, (c.kk hs).cm.si (f := 74) (by omega), rS, rM, hn, hcut⟩, fun j hj p hp e => ?_⟩
    obtain ⟨w1, w2, w3, -⟩ := hc j p hj hp e
    refine ⟨?_, w2, w3⟩
    have ado : gi (adY y G7 zz) 0 (y 5 j) = gi G7 0 (y 5 j) := by unfold adY; rw [gi_ne (by omega), gi_ne (by omega)]
    rw [← a.1 0 _ (by omega), ← ado]; exact w1
  · obtain ⟨hInv, rS, rM⟩ := carryN pre hzz (fun z => hcut (Or.inl z)) (Classical.byContradiction fun z => hcut (Or.inr z))
    exact Or.inl ⟨hInv.up hb, (a.e hs).gd, gd19, rS, rM, fun z => hcut (Or.inl z), Classical.byContradiction fun z => hcut (Or.inr z)⟩
theorem Up.same {zz : Nat} {G7 m5 G2 : GS} {n' : Nat} {r' s' : Nat → Nat} (h : Up t y b zz G G7 m m5 G2 n' r' s' np np) (h74 : gi m5 74 (y 1 0) = nI (np - 1)) : si (cmY y m5 zz) 74 (y 1 0) (nI (np - 1)) = cmY y m5 zz := by
  have : gi (cmY y m5 zz) 74 (y 1 0) = nI (np - 1) := by unfold cmY; rw [gi_ne (by omega), gi_ne (by omega)]; exact h74
  rw [← this, si_self]
/-- while down no fid's part matters -/
theorem InvY.dead (h : InvY t y b G m) (h0 : gi G 19 (y 3 0) = 0) (a : ∀ f x, gi m' f x = gi m f x) (r2 : ∀ f x, gr m' f x = gr m f x) (r3 : ∀ x, ar m' x = ar m x) (e : ∀ f, yV 30 f = true → f < 87 ∨ 93 < f → ai m' (y 30 f) = ai m (y 30 f)) : InvY t y b G m' := by
  obtain ⟨hs, hz, hm, ⟨s1, s2, s3, s4, s5, s6⟩, hl, hu, n, r, s, np, hT, hF, h74, hnp, hst⟩ := h
  refine ⟨hs, hz, hm.to hs (sZ.of r2 r3), ⟨by rw [a]; exact s1, by rw [a]; exact s2, by rw [a]; exact s3, by rw [a]; exact s4, s5, by rw [a]; exact s6⟩, fun c hc => (hl c hc).to agL.rf ⟨fun i _ => by rw [e 79 rfl (by omega)], fun i _ => by rw [e 81 rfl (by omega)], fun f hf => by rw [e f (by simp [yV]; omega) (by omega)]⟩ (fun w => w), fun k hk => ?_, n, r, s, np, by rw [e 70 rfl (by omega)]; exact hT, fun k hk w => ?_, by rw [a]; exact h74, hnp, fun q1 q2 => by rw [e 72 rfl (by omega)]; exact hst q1 q2⟩
  · unfold FuR; rw [e 86 rfl (by omega)]; exact hu k hk
  · rw [(hu k hk).2.2 h0] at w; exact absurd w (by decide)
end STEPS
