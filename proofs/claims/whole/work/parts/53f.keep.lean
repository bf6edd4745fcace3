/-! what is left as it was of message and answer (by hand) -/
theorem p58 {a b c d : Int32} (h : a = b) (k : c = d) : (a, c) = (b, d) := by rw [h, k]
/-- what a step leaves of message and answer -/
def kC (y : LYT) (G G1 : GS) : Prop := (∀ f a, 36 ≤ f → f ≤ 45 → gi G1 f a = gi G f a) ∧ (∀ k, 19 ≤ k → k ≤ 22 → ai G1 (y k 0) = ai G (y k 0)) ∧ ∀ c, c < 2 → gi G1 56 (y 10 c) = gi G 56 (y 10 c) ∧ (gi G1 58 (y 10 c), gi G1 61 (y 10 c)) = (gi G 58 (y 10 c), gi G 61 (y 10 c))
def kM (y : LYT) (m m1 : GS) : Prop := (∀ f, 95 ≤ f → gi m1 f (y 1 0) = gi m f (y 1 0) ∧ gl m1 f (y 1 0) = gl m f (y 1 0)) ∧ ai m1 (y 30 94) = ai m (y 30 94) ∧ ai m1 (y 30 96) = ai m (y 30 96)
section KEEP
variable {t : TY} {y : LYT} {G m G1 m1 : GS}
theorem kC.rf : kC y G G := ⟨fun _ _ _ _ => rfl, fun _ _ _ => rfl, fun _ _ => ⟨rfl, rfl⟩⟩
theorem kM.rf : kM y m m := ⟨fun _ _ => ⟨rfl, rfl⟩, rfl, rfl⟩
theorem kC.tr {G2 : GS} (a : kC y G G1) (d : kC y G1 G2) : kC y G G2 := ⟨fun f x h1 h2 => (d.1 f x h1 h2).trans (a.1 f x h1 h2), fun k h1 h2 => (d.2.1 k h1 h2).trans (a.2.1 k h1 h2), fun c hc => ⟨(d.2.2 c hc).1.trans (a.2.2 c hc).1, (d.2.2 c hc).2.trans (a.2.2 c hc).2⟩⟩
theorem kM.tr {m2 : GS} (a : kM y m m1) (d : kM y m1 m2) : kM y m m2 := ⟨fun f h => ⟨(d.1 f h).1.trans (a.1 f h).1, (d.1 f h).2.trans (a.1 f h).2⟩, d.2.1.trans a.2.1, d.2.2.trans a.2.2⟩
theorem kC.si (a : kC y G G1) {f x : Nat} {v : Int32} (h : f < 36 ∨ 45 < f) (h2 : f ≠ 56) (h3 : f ≠ 58) (h4 : f ≠ 61 := by omega) : kC y G (si G1 f x v) := a.tr ⟨fun g d q1 q2 => gi_ne (by omega), fun _ _ _ => rfl, fun c _ => ⟨gi_ne (by omega), p58 (gi_ne (by omega)) (gi_ne (by omega))⟩⟩
theorem kC.sl (a : kC y G G1) {f x : Nat} {v : Int64} : kC y G (sl G1 f x v) := a.tr ⟨fun _ _ _ _ => rfl, fun _ _ _ => rfl, fun _ _ => ⟨rfl, rfl⟩⟩
theorem kC.sr (a : kC y G G1) {f x : Nat} {v : Option Nat} : kC y G (sr G1 f x v) := a.tr ⟨fun _ _ _ _ => rfl, fun _ _ _ => rfl, fun _ _ => ⟨rfl, rfl⟩⟩
theorem kM.si (a : kM y m m1) {f : Nat} {v : Int32} (h : f < 95) : kM y m (si m1 f (y 1 0) v) := a.tr ⟨fun g q => ⟨gi_ne (by omega), rfl⟩, rfl, rfl⟩
theorem kM.ais (a : kM y m m1) (hs : SH t y) {f k : Nat} {v : Int32} (h1 : f ≠ 94) (h2 : f ≠ 96) (hv : yV 30 f = true) : kM y m (ais m1 (y 30 f) k v) := a.tr ⟨fun g q => ⟨rfl, rfl⟩, ai_nb (hs.ne (by omega) rfl hv), ai_nb (hs.ne (by omega) rfl hv)⟩
theorem kM.aw (a : kM y m m1) (hs : SH t y) {f : Nat} {v : Nat → Int32} (h1 : f ≠ 94) (h2 : f ≠ 96) (hv : yV 30 f = true) : kM y m (aw m1 (y 30 f) v) := a.tr ⟨fun g q => ⟨rfl, rfl⟩, aw_ne (hs.ne (by omega) rfl hv), aw_ne (hs.ne (by omega) rfl hv)⟩
theorem kM.als (a : kM y m m1) {x k : Nat} {v : Int64} : kM y m (als m1 x k v) := a.tr ⟨fun g q => ⟨rfl, rfl⟩, rfl, rfl⟩
theorem kC.fr (a : kC y G G1) (hs : SH t y) {G2 : GS} (h : frT y G1 G2) : kC y G G2 := a.tr ⟨fun f x h1 h2 => (h.1 f x (by omega)).1, fun k h1 h2 => h.2.2.2.1 _ (fun i hi => ⟨hs.ne (by omega) (by rcases (show k = 19 ∨ k = 20 ∨ k = 21 ∨ k = 22 by omega) with rfl | rfl | rfl | rfl <;> rfl) (by simp [yV, hi]), hs.ne (by omega) (by rcases (show k = 19 ∨ k = 20 ∨ k = 21 ∨ k = 22 by omega) with rfl | rfl | rfl | rfl <;> rfl) (by simp [yV, hi])⟩), fun c _ => ⟨(h.1 56 _ (by omega)).1, p58 (h.1 58 _ (by omega)).1 (h.1 61 _ (by omega)).1⟩⟩
theorem kC.ad (a : kC y G G1) {z : Nat} : kC y G (adY y G1 z) := (a.si (f := 18) (by omega) (by omega) (by omega)).si (f := 17) (by omega) (by omega) (by omega)
theorem kM.cm (a : kM y m m1) {z : Nat} : kM y m (cmY y m1 z) := (a.si (f := 76) (by omega)).si (f := 77) (by omega)
theorem gd19 {z : Nat} : gi (gdN y G z) 19 (y 3 0) = 0 := by
  unfold gdN
  rw [rsL_o (by omega) (Or.inl (by omega)), rsL_o (by omega) (Or.inl (by omega))]
  exact gi_at
end KEEP
