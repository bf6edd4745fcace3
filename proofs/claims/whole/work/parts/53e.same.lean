/-! the class leaves the reference's part alone; two states become one (by hand) -/
def eS (y : LYT) (G G' : GS) : Prop := (∀ f, 70 ≤ f → gi G' f (y 1 0) = gi G f (y 1 0) ∧ gl G' f (y 1 0) = gl G f (y 1 0) ∧ gr G' f (y 1 0) = gr G f (y 1 0)) ∧ ∀ f, yV 30 f = true → ai G' (y 30 f) = ai G (y 30 f) ∧ al G' (y 30 f) = al G (y 30 f)
section SAME
variable {t : TY} {y : LYT} {G G' G1 G2 m H : GS} {b : Nat}
theorem eS.rf : eS y G G := ⟨fun _ _ => ⟨rfl, rfl, rfl⟩, fun _ _ => ⟨rfl, rfl⟩⟩
theorem eS.tr (a : eS y G G1) (d : eS y G1 G2) : eS y G G2 := ⟨fun f h => ⟨(d.1 f h).1.trans (a.1 f h).1, (d.1 f h).2.1.trans (a.1 f h).2.1, (d.1 f h).2.2.trans (a.1 f h).2.2⟩, fun f h => ⟨(d.2 f h).1.trans (a.2 f h).1, (d.2 f h).2.trans (a.2 f h).2⟩⟩
theorem eS.si (e : eS y G G1) {f a : Nat} {x : Int32} (h : f < 70 := by omega) : eS y G (si G1 f a x) := e.tr ⟨fun g hg => ⟨gi_ne (by omega), rfl, rfl⟩, fun _ _ => ⟨rfl, rfl⟩⟩
theorem eS.sl (e : eS y G G1) {f a : Nat} {x : Int64} (h : f < 70 := by omega) : eS y G (sl G1 f a x) := e.tr ⟨fun g hg => ⟨rfl, gl_ne (by omega), rfl⟩, fun _ _ => ⟨rfl, rfl⟩⟩
theorem eS.sr (e : eS y G G1) {f a : Nat} {x : Option Nat} (h : f < 70 := by omega) : eS y G (sr G1 f a x) := e.tr ⟨fun g hg => ⟨rfl, rfl, gr_ne (by omega)⟩, fun _ _ => ⟨rfl, rfl⟩⟩
theorem eS.ais (e : eS y G G1) (hs : SH t y) {k i j : Nat} {x : Int32} (hk : k ≠ 30) (hv : yV k i = true) : eS y G (ais G1 (y k i) j x) := e.tr ⟨fun _ _ => ⟨rfl, rfl, rfl⟩, fun f hf => ⟨ai_nb (hs.ne (by omega) hf hv), rfl⟩⟩
theorem eS.ars (e : eS y G G1) {a j : Nat} {x : Option Nat} : eS y G (ars G1 a j x) := e.tr ⟨fun _ _ => ⟨rfl, rfl, rfl⟩, fun _ _ => ⟨rfl, rfl⟩⟩
theorem eS.aw (e : eS y G G1) (hs : SH t y) {k i : Nat} {x : Nat → Int32} (hk : k ≠ 30) (hv : yV k i = true) : eS y G (aw G1 (y k i) x) := e.tr ⟨fun _ _ => ⟨rfl, rfl, rfl⟩, fun f hf => ⟨aw_ne (hs.ne (by omega) hf hv), rfl⟩⟩
theorem eS.fr (e : eS y G G1) (hs : SH t y) (h : frT y G1 G2) : eS y G G2 := e.tr ⟨fun f hf => ⟨(h.1 f _ (by omega)).1, h.2.1 f _, (h.1 f _ (by omega)).2⟩, fun f hf => ⟨h.2.2.2.1 _ (fun i hi => ⟨hs.ne (by omega) hf (by simp [yV, hi]), hs.ne (by omega) hf (by simp [yV, hi])⟩), h.2.2.1 _⟩⟩
theorem eS.rs (e : eS y G G1) {c : Nat} : eS y G (rsL y G1 c) := e.tr ⟨fun f hf => ⟨rsL_o (by omega) (Or.inl (by omega)), rsL_r.2.1 f _, rsL_r.1 f _⟩, fun f _ => ⟨rsL_r.2.2.1 _, rsL_r.2.2.2.1 _⟩⟩
theorem eS.gd (e : eS y G G1) {z : Nat} : eS y G (gdN y G1 z) := ((((e.si (f := 18)).si (f := 17)).si (f := 20)).si (f := 19)).rs.rs
theorem eS.ad (e : eS y G G1) {z : Nat} : eS y G (adY y G1 z) := (e.si (f := 18)).si (f := 17)
theorem yV30 {f : Nat} (h : (70 ≤ f ∧ f ≤ 72) ∨ (79 ≤ f ∧ f ≤ 94) ∨ f = 96) : yV 30 f = true := by simp [yV]; omega
theorem eS.eM (e : eS y G G') (hz : FZ y G) : eM (y 1 0) G G' := ⟨e.1, fun f a hf ha => by
  have := hz.m f (yV30 hf)
  rw [ha] at this
  rw [Option.some.inj this]
  exact e.2 f (yV30 hf)⟩
/-- two states become one: H has the class's part of G and the reference's of m -/
theorem InvY.one (h : InvY t y b G m) (e : eM (y 1 0) m H) (c : cM (y 1 0) G H) : InvY t y b H H := by
  obtain ⟨hs, hz, hm, ⟨s1, s2, s3, s4, s5, s6⟩, hl, hu, n, r, s, np, hT, hF, h74, hnp, hS⟩ := h
  have gC : ∀ f a, f < 70 → gi H f a = gi G f a := fun f a q => (c.1 f a (Or.inr q)).1
  have lC : ∀ f a, f < 70 → gl H f a = gl G f a := fun f a q => (c.1 f a (Or.inr q)).2
  have aC : ∀ k i, k ≠ 30 → yV k i = true → ai H (y k i) = ai G (y k i) := fun k i hk hv => (c.2.2.1 _ (fun f hf z => by
    rw [hz.m f (yV30 hf)] at z
    exact hs.ne (show ¬ (30 = k ∧ f = i) by omega) (yV30 hf) hv (Option.some.inj z))).1
  have gM : ∀ f, 70 ≤ f → gi H f (y 1 0) = gi m f (y 1 0) := fun f q => (e.1 f q).1
  have aM : ∀ f, ((70 ≤ f ∧ f ≤ 72) ∨ (79 ≤ f ∧ f ≤ 94) ∨ f = 96) → ai H (y 30 f) = ai m (y 30 f) ∧ al H (y 30 f) = al m (y 30 f) := fun f q => e.2 f _ q (hm.m f (yV30 q))
  have hzH : FZ y H := hz.to hs (sZ.of c.2.1 c.2.2.2)
  have aT : agT y G H := ⟨fun f a hf => ⟨gC f a (by omega), c.2.1 f a⟩, fun i hi => ⟨aC 6 i (by omega) (by simp [yV, hi]), aC 7 i (by omega) (by simp [yV, hi])⟩, c.2.2.2⟩
  have e19 := gC 19 (y 3 0) (by omega)
  have e20 := gC 20 (y 3 0) (by omega)
  have aF : ∀ k, agF y G H k := fun k f q1 q2 => ⟨gC f _ (by omega), lC f _ (by omega), c.2.1 f _⟩
  have aFm : ∀ k, agFm y m H k := fun k f q1 q2 => ⟨congrFun (aM f (by omega)).1 k, congrFun (aM f (by omega)).2 k⟩
  refine ⟨hs, hzH, hzH, ⟨?_, ?_, ?_, ?_, ?_, ?_⟩, fun q hq => (hl q hq).to ⟨fun f q1 q2 => gC f _ (by omega), aC 11 q (by omega) (by simp [yV, hq]), aC 12 q (by omega) (by simp [yV, hq])⟩ ⟨fun k _ => congrFun (aM 79 (by omega)).1 _, fun k _ => congrFun (aM 81 (by omega)).1 _, fun f hf => congrFun (aM f (by omega)).1 _⟩ (fun z => by rw [e19] at z; exact z), fun k hk => (hu k hk).to (aF k) (aFm k) (fun z => by rw [e19] at z; exact z), n, r, s, np, ?_, fun k hk => (hF k hk).to (aF k) (aFm k) (fun j => ⟨gC 0 _ (by omega), gC 2 _ (by omega)⟩), ?_, hnp, ?_⟩
  · rw [gC 17 _ (by omega), gM 77 (by omega)]; exact s1
  · rw [gC 18 _ (by omega), gM 76 (by omega)]; exact s2
  · rw [gC 69 _ (by omega), gM 78 (by omega)]; exact s3
  · rw [e20, gM 73 (by omega)]; exact s4
  · rw [e20]; exact s5
  · rw [e19, e20, gM 75 (by omega)]; exact s6
  · rw [(aM 70 (by omega)).1]; exact hT.to aT
  · rw [gM 74 (by omega)]; exact h74
  · rw [e19, e20, (aM 72 (by omega)).1]
    exact fun q1 q2 => (hS q1 q2).imp fun _ z => z.to ⟨aT, fun f a q1 q2 => ⟨gC f a (by omega), c.2.1 f a⟩, aC 17 0 (by omega) rfl, aC 18 0 (by omega) rfl⟩
/-- a connection is made fresh in both -/
theorem InvY.hang (h : InvY t y b G m) {c : Nat} (hc : c < 2) : InvY t y b (rsL y G c) (frM y m c) := by
  obtain ⟨hs, hz, hm, ⟨s1, s2, s3, s4, s5, s6⟩, hl, hu, n, r, s, np, hT, hF, h74, hnp, hS⟩ := h
  have gO : ∀ f a, f ≠ 46 → (f < 56 ∨ f = 57 ∨ 61 < f) → gi (rsL y G c) f a = gi G f a := fun f a q1 q2 => rsL_o q1 (Or.inl q2)
  have e19 := gO 19 (y 3 0) (by omega) (by omega)
  have e20 := gO 20 (y 3 0) (by omega) (by omega)
  have mO : ∀ f, yV 30 f = true → f ≠ 80 → f ≠ 82 → f ≠ 83 → f ≠ 84 → f ≠ 85 → f ≠ 86 → ai (frM y m c) (y 30 f) = ai m (y 30 f) := fun f hv q1 q2 q3 q4 q5 q6 => frM_o hs (fun g hg => hs.ne (by omega) hv (by simp [yV]; omega))
  have aT : agT y G (rsL y G c) := ⟨fun f a hf => ⟨gO f a (by omega) (by omega), rsL_r.1 f a⟩, fun i _ => ⟨rsL_r.2.2.1 _, rsL_r.2.2.1 _⟩, rsL_r.2.2.2.2⟩
  have aF : ∀ k, k < 12 → (k < 6 * c ∨ 6 * c + 6 ≤ k) → agF y G (rsL y G c) k := fun k hk hr f q1 q2 => ⟨by
    by_cases q : f = 46
    · subst q; exact rsL_46 (fun i hi => hs.ne (by omega) (by simp [yV, hk]) (by simp [yV]; omega))
    · exact gO f _ q (by omega), rsL_r.2.1 _ _, rsL_r.1 _ _⟩
  have aFm : ∀ k, k < 12 → (k < 6 * c ∨ 6 * c + 6 ≤ k) → agFm y m (frM y m c) k := fun k hk hr f q1 q2 => ⟨by
    by_cases q : f = 86
    · subst q; rw [frM_86]; exact if_neg (by omega)
    · rw [mO f (by simp [yV]; omega) (by omega) (by omega) (by omega) (by omega) (by omega) q], rfl⟩
  refine ⟨hs, hz.rs hs, hm.fr hs, ⟨?_, ?_, ?_, ?_, ?_, ?_⟩, fun q hq => ?_, fun k hk => ?_, n, r, s, np, ?_, fun k hk => ?_, h74, hnp, ?_⟩
  · rw [gO 17 _ (by omega) (by omega)]; exact s1
  · rw [gO 18 _ (by omega) (by omega)]; exact s2
  · rw [gO 69 _ (by omega) (by omega)]; exact s3
  · rw [e20]; exact s4
  · rw [e20]; exact s5
  · rw [e19, e20]; exact s6
  · by_cases z : q = c
    · subst z
      obtain ⟨a1, a2, a3, a4, a5⟩ := @rsL_c y G q
      obtain ⟨b1, b2, b3, b4, b5⟩ := @frM_c t y m hs q q
      rw [if_pos rfl] at b1 b2 b3 b4 b5
      exact ⟨0, 0, 128, fun _ => 0, fun _ => 0, by omega, by omega, by omega, by omega, a1, b1, fun k hk => by omega, fun k hk => by omega, a2, b2, fun k hk => by omega, fun k hk => by omega, a3, b3, Or.inl a4, by rw [b4, a4], Or.inl a5, by rw [b5, a5], fun z => ⟨rfl, rfl⟩, fun _ => ⟨rfl, rfl, a5⟩⟩
    · have ne : y 10 q ≠ y 10 c := hs.ne (by omega) (by simp [yV, hq]) (by simp [yV, hc])
      obtain ⟨b1, b2, b3, b4, b5⟩ := @frM_c t y m hs c q
      rw [if_neg z] at b1 b2 b3 b4 b5
      refine (hl q hq).to ⟨fun f q1 q2 => rsL_o (by omega) (Or.inr ne), rsL_r.2.2.1 _, rsL_r.2.2.1 _⟩ ⟨fun k _ => by rw [mO 79 rfl (by omega) (by omega) (by omega) (by omega) (by omega) (by omega)], fun k _ => by rw [mO 81 rfl (by omega) (by omega) (by omega) (by omega) (by omega) (by omega)], fun f hf => ?_⟩ (fun z => by rw [e19] at z; exact z)
      rcases hf with rfl | rfl | rfl | rfl | rfl
      · exact b1
      · exact b2
      · exact b3
      · exact b4
      · exact b5
  · by_cases z : k < 6 * c ∨ 6 * c + 6 ≤ k
    · exact (hu k hk).to (aF k hk z) (aFm k hk z) (fun z => by rw [e19] at z; exact z)
    · have g0 : gi (rsL y G c) 46 (y 14 k) = 0 := by
        have := @rsL_u y G c (k - 6 * c) (by omega)
        rw [show 6 * c + (k - 6 * c) = k by omega] at this; exact this
      exact ⟨Or.inl g0, by rw [frM_86, g0]; exact if_pos (by omega), fun _ => g0⟩
  · rw [mO 70 rfl (by omega) (by omega) (by omega) (by omega) (by omega) (by omega)]; exact hT.to aT
  · by_cases z : k < 6 * c ∨ 6 * c + 6 ≤ k
    · exact (hF k hk).to (aF k hk z) (aFm k hk z) (fun j => ⟨gO 0 _ (by omega) (by omega), gO 2 _ (by omega) (by omega)⟩)
    · intro q
      have g0 : gi (rsL y G c) 46 (y 14 k) = 0 := by
        have := @rsL_u y G c (k - 6 * c) (by omega)
        rw [show 6 * c + (k - 6 * c) = k by omega] at this; exact this
      rw [g0] at q; exact absurd q (by decide)
  · rw [e19, e20, mO 72 rfl (by omega) (by omega) (by omega) (by omega) (by omega) (by omega)]
    exact fun q1 q2 => (hS q1 q2).imp fun _ z => z.to ⟨aT, fun f a q1 q2 => ⟨gO f a (by omega) (by omega), rsL_r.1 f a⟩, rsL_r.2.2.1 _, rsL_r.2.2.1 _⟩
end SAME
