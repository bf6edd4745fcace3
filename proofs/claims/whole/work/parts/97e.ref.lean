/-! the constructors: the reference (by hand) -/
/-- which array a field of the reference holds -/
def mI (f : Nat) : Nat := if f ≤ 72 then f - 69 else if f ≤ 94 then f - 75 else 20
/-- the root's cells -/
def c0 (j : Nat) : Int32 := if j = 0 then 1 else if j = 3 then -2147483139 else if j = 8 then -1 else if j = 9 then 1 else if j = 10 then 47 else 0
section REF
variable {t0 t : TY} {G0 G : GS} {a a1 k n i f : Nat} {g : Nat × Nat} {A : Nat → Nat} {D : List Nat} {v : Int32}
def MdA (t0 t : TY) (G0 G : GS) (a : Nat) (g : Nat × Nat) (A : Nat → Nat) (D : List Nat) (v : Int32) : Prop := xE t0 t G0 G (oA a) ∧ inT t a 10 0 g ∧ (∀ f, f ∈ D → inT t (A f) (yK 30 f) (yL 30 f) (a, mI f) ∧ gr G f a = some (A f) ∧ ∀ j, ai G (A f) j = 0) ∧ ∀ f, gi G f a = if f = 76 then v else 0
theorem MdA.step (s : MdA t0 t G0 G a g A D v) (hk : yK 30 f = k) (hn : yL 30 f = n) (hi : mI f = i) (h1 : a1 ∉ tdom t) (nd : ¬ f ∈ D) : MdA t0 (adT t a1 k n (a, i)) G0 (sr (zG G a1) f a (some a1)) a g (fun q => if q = f then a1 else A q) (f :: D) v := by
  obtain ⟨x, ha, hD, hg⟩ := s
  have n1 : a1 ≠ a := fun q => h1 (q ▸ ha.1)
  have y : xE t (adT t a1 k n (a, i)) G (sr (zG G a1) f a (some a1)) (oA a) := (xE.new h1).sr oA_at
  refine ⟨x.tr y, y.inT ha, fun q hq => ?_, fun q => ?_⟩
  · by_cases e : q = f
    · have eA : (fun q => if q = f then a1 else A q) q = a1 := if_pos e
      rw [eA, e]
      refine ⟨by rw [hk, hn, hi]; exact inT.new, by simp [grR], fun j => ?_⟩
      show ai (zG G a1) a1 j = 0
      simp [aiZ]
    · have eA : (fun q => if q = f then a1 else A q) q = A q := if_neg e
      have hq : q ∈ D := by
        rcases List.mem_cons.mp hq with w | w
        · exact absurd w e
        · exact w
      obtain ⟨b1, b2, b3⟩ := hD q hq
      rw [eA]
      have na : A q ≠ a1 := fun w => h1 (w ▸ b1.1)
      refine ⟨y.inT b1, by simp [grR, grZ, e, n1.symm]; exact b2, fun j => ?_⟩
      show ai (zG G a1) (A q) j = 0
      rw [aiZ, if_neg na]; exact b3 j
  · show gi (zG G a1) q a = _
    rw [giZ, if_neg n1.symm]; exact hg q
theorem MdA.s76 (s : MdA t0 t G0 G a g A D v) {w : Int32} : MdA t0 t G0 (si G 76 a w) a g A D w := by
  obtain ⟨x, ha, hD, hg⟩ := s
  refine ⟨x.si oA_at, ha, hD, fun q => ?_⟩
  rw [giS, hg q]
  by_cases e : q = 76
  · simp [e]
  · simp [e]
def MdI (t : TY) (G : GS) (a : Nat) (A : Nat → Nat) (g : Nat × Nat) : Prop := inT t a 10 0 g ∧ (∀ f, yV 30 f = true → inT t (A f) (yK 30 f) (yL 30 f) (a, mI f) ∧ gr G f a = some (A f) ∧ (f ≠ 70 → ∀ j, ai G (A f) j = 0)) ∧ (∀ j, ai G (A 70) j = c0 j) ∧ ∀ f, gi G f a = if f = 76 then -1 else 0
theorem inj_mI : ∀ f, f < 97 → ∀ f', f' < 97 → yV 30 f = true → yV 30 f' = true → mI f = mI f' → f = f' := by decide +kernel
theorem yV_lt (h : yV 30 f = true) : f < 97 := by simp [yV] at h; omega
theorem all30 : ∀ f, f < 97 → yV 30 f = true → f ∈ [96, 94, 93, 92, 91, 90, 89, 88, 87, 86, 85, 84, 83, 82, 81, 80, 79, 72, 71, 70] := by decide +kernel
theorem i_M {K : TY → GS → Prop} (ha : inT t a 10 0 g) (hz : zA G a) (kk : ∀ t' G' A, xE t t' G G' (oA a) → MdI t' G' a A g → w_M_fresh t' G' a (0 : Int32) (fun G433 => w_M_fresh t' G433 a (1 : Int32) (fun G434 => K t' G434))) : w_M_init t G a K := by
  have s0 : MdA t t G G a g (fun _ => 0) [] 0 := ⟨xE.rf, ha, fun f h => absurd h (by simp), fun f => by rw [(hz.1 f).1]; simp⟩
  intro b1 h1 t1 e1 Y1 f1
  have k1 : tk t1 a = 10 := by
    rw [e1]
    show (if a = b1 then 50 else tk t a) = 10
    have n1 : a ≠ b1 := fun q => h1 (q ▸ ha.1)
    rw [if_neg n1]; exact ha.2.1
  refine ⟨k1, fun X1 g1 b2 h2 t2 e2 Y2 f2 X2 g2 b3 h3 t3 e3 Y3 f3 X3 g3 X3' g3' b4 h4 t4 e4 Y4 f4 X4 g4 b5 h5 t5 e5 Y5 f5 X5 g5 b6 h6 t6 e6 Y6 f6 X6 g6 b7 h7 t7 e7 Y7 f7 X7 g7 b8 h8 t8 e8 Y8 f8 X8 g8 b9 h9 t9 e9 Y9 f9 X9 g9 b10 h10 t10 e10 Y10 f10 X10 g10 b11 h11 t11 e11 Y11 f11 X11 g11 b12 h12 t12 e12 Y12 f12 X12 g12 b13 h13 t13 e13 Y13 f13 X13 g13 b14 h14 t14 e14 Y14 f14 X14 g14 b15 h15 t15 e15 Y15 f15 X15 g15 b16 h16 t16 e16 Y16 f16 X16 g16 b17 h17 t17 e17 Y17 f17 X17 g17 b18 h18 t18 e18 Y18 f18 X18 g18 b19 h19 t19 e19 Y19 f19 X19 g19 b20 h20 t20 e20 Y20 f20 X20 g20 => ?_⟩
  have q1 := (s0).step (f := 70) (k := 50) (n := 1743) (i := 1) rfl rfl rfl h1 (by decide)
  rw [← e1, ← f1, ← g1] at q1
  have q2 := (q1).step (f := 71) (k := 50) (n := 1743) (i := 2) rfl rfl rfl h2 (by decide)
  rw [← e2, ← f2, ← g2] at q2
  have q3 := (q2).step (f := 72) (k := 50) (n := 1743) (i := 3) rfl rfl rfl h3 (by decide)
  rw [← e3, ← f3, ← g3] at q3
  have q3' := q3.s76 (w := -1)
  rw [← g3'] at q3'
  have q4 := (q3').step (f := 79) (k := 50) (n := 320) (i := 4) rfl rfl rfl h4 (by decide)
  rw [← e4, ← f4, ← g4] at q4
  have q5 := (q4).step (f := 80) (k := 50) (n := 2) (i := 5) rfl rfl rfl h5 (by decide)
  rw [← e5, ← f5, ← g5] at q5
  have q6 := (q5).step (f := 81) (k := 50) (n := 512) (i := 6) rfl rfl rfl h6 (by decide)
  rw [← e6, ← f6, ← g6] at q6
  have q7 := (q6).step (f := 82) (k := 50) (n := 2) (i := 7) rfl rfl rfl h7 (by decide)
  rw [← e7, ← f7, ← g7] at q7
  have q8 := (q7).step (f := 83) (k := 50) (n := 2) (i := 8) rfl rfl rfl h8 (by decide)
  rw [← e8, ← f8, ← g8] at q8
  have q9 := (q8).step (f := 84) (k := 52) (n := 2) (i := 9) rfl rfl rfl h9 (by decide)
  rw [← e9, ← f9, ← g9] at q9
  have q10 := (q9).step (f := 85) (k := 52) (n := 2) (i := 10) rfl rfl rfl h10 (by decide)
  rw [← e10, ← f10, ← g10] at q10
  have q11 := (q10).step (f := 86) (k := 52) (n := 12) (i := 11) rfl rfl rfl h11 (by decide)
  rw [← e11, ← f11, ← g11] at q11
  have q12 := (q11).step (f := 87) (k := 53) (n := 12) (i := 12) rfl rfl rfl h12 (by decide)
  rw [← e12, ← f12, ← g12] at q12
  have q13 := (q12).step (f := 88) (k := 50) (n := 12) (i := 13) rfl rfl rfl h13 (by decide)
  rw [← e13, ← f13, ← g13] at q13
  have q14 := (q13).step (f := 89) (k := 50) (n := 12) (i := 14) rfl rfl rfl h14 (by decide)
  rw [← e14, ← f14, ← g14] at q14
  have q15 := (q14).step (f := 90) (k := 50) (n := 12) (i := 15) rfl rfl rfl h15 (by decide)
  rw [← e15, ← f15, ← g15] at q15
  have q16 := (q15).step (f := 91) (k := 52) (n := 12) (i := 16) rfl rfl rfl h16 (by decide)
  rw [← e16, ← f16, ← g16] at q16
  have q17 := (q16).step (f := 92) (k := 53) (n := 12) (i := 17) rfl rfl rfl h17 (by decide)
  rw [← e17, ← f17, ← g17] at q17
  have q18 := (q17).step (f := 93) (k := 50) (n := 12) (i := 18) rfl rfl rfl h18 (by decide)
  rw [← e18, ← f18, ← g18] at q18
  have q19 := (q18).step (f := 94) (k := 50) (n := 128) (i := 19) rfl rfl rfl h19 (by decide)
  rw [← e19, ← f19, ← g19] at q19
  have q20 := (q19).step (f := 96) (k := 50) (n := 160) (i := 20) rfl rfl rfl h20 (by decide)
  rw [← e20, ← f20, ← g20] at q20
  obtain ⟨B, ⟨x, hai, hD, hg⟩, B70⟩ : ∃ B, MdA t t20 G X20 a g B [96, 94, 93, 92, 91, 90, 89, 88, 87, 86, 85, 84, 83, 82, 81, 80, 79, 72, 71, 70] (-1) ∧ B 70 = b1 := ⟨_, q20, rfl⟩
  obtain ⟨d1, d2, d3⟩ := hD 70 (by decide)
  have vi : ∀ i, i < 1743 → vp_in (nI i) (tn t20 (B 70)) := fun i hi => by rw [d1.2.2.1]; exact vp_lt (N := 1743) hi
  refine ⟨B 70, d2, d1.2.1, vi 0 (by omega), fun Z1 z1 => ⟨B 70, by rw [z1]; exact d2, d1.2.1, vi 3 (by omega), fun Z2 z2 => ⟨B 70, by rw [z2, z1]; exact d2, d1.2.1, vi 8 (by omega), fun Z3 z3 => ⟨B 70, by rw [z3, z2, z1]; exact d2, d1.2.1, vi 9 (by omega), fun Z4 z4 => ⟨B 70, by rw [z4, z3, z2, z1]; exact d2, d1.2.1, vi 10 (by omega), fun Z5 z5 => ?_⟩⟩⟩⟩⟩
  have z1 : Z1 = ais X20 (B 70) 0 1 := z1
  have z2 : Z2 = ais Z1 (B 70) 3 (-2147483139) := z2
  have z3 : Z3 = ais Z2 (B 70) 8 (-1) := z3
  have z4 : Z4 = ais Z3 (B 70) 9 1 := z4
  have z5 : Z5 = ais Z4 (B 70) 10 47 := z5
  refine kk t20 Z5 B ?_ ⟨hai, fun f hf => ?_, fun j => ?_, fun f => ?_⟩
  · refine ⟨x.1, x.2.1, fun b hb nb => (x.2.2 b hb nb).tr ?_⟩
    have n1 : b ≠ B 70 := fun q => h1 (by rw [← B70, ← q]; exact hb)
    rw [z5, z4, z3, z2, z1]
    exact ((((sB.ais n1).tr (sB.ais n1)).tr (sB.ais n1)).tr (sB.ais n1)).tr (sB.ais n1)
  · obtain ⟨c1, c2, c3⟩ := hD f (all30 f (yV_lt hf) hf)
    refine ⟨c1, by rw [z5, z4, z3, z2, z1]; exact c2, fun n70 j => ?_⟩
    have ne : B f ≠ B 70 := fun w => by
      have h1 := c1.2.2.2
      rw [w, d1.2.2.2] at h1
      exact n70 (inj_mI f (yV_lt hf) 70 (by omega) hf rfl (Prod.mk.inj h1).2.symm)
    rw [z5, z4, z3, z2, z1]
    simp [aiA, ne]
    exact c3 j
  · rw [z5, z4, z3, z2, z1]
    unfold c0
    simp only [aiA, true_and, d3]
    by_cases a0 : j = 0
    · simp [a0]
    by_cases a3 : j = 3
    · simp [a3]
    by_cases a8 : j = 8
    · simp [a8]
    by_cases a9 : j = 9
    · simp [a9]
    by_cases a10 : j = 10
    · simp [a10]
    simp [a0, a3, a8, a9, a10]
  · rw [z5, z4, z3, z2, z1]; exact hg f
end REF
