/-! the start (by hand) -/
section STA
variable {t t' : TY} {G G' : GS} {X : Nat → Prop} {a b : Nat} {s : SvS} {A : Nat → Nat} {y : LYT}
theorem aw_ar {m : GS} {x q : Nat} {v : Nat → Int32} : ar (aw m x v) q = ar m q := rfl
theorem ais_ar {m : GS} {x q j : Nat} {v : Int32} : ar (ais m x j v) q = ar m q := rfl
theorem fr_ar {m : GS} {c x : Nat} : ar (frM y m c) x = ar m x := by
  unfold frM
  rw [aw_ar, ais_ar, ais_ar, ais_ar, ais_ar, ais_ar]
theorem aw_gr {m : GS} {x f q : Nat} {v : Nat → Int32} : gr (aw m x v) f q = gr m f q := rfl
theorem aw_gi {m : GS} {x f q : Nat} {v : Nat → Int32} : gi (aw m x v) f q = gi m f q := rfl
theorem fr_gr {m : GS} {c f x : Nat} : gr (frM y m c) f x = gr m f x := by
  unfold frM
  rw [aw_gr, grA', grA', grA', grA', grA']
theorem fr_gi {m : GS} {c f x : Nat} : gi (frM y m c) f x = gi m f x := by
  unfold frM
  rw [aw_gi, giA', giA', giA', giA', giA']
theorem SvI.to (h : SvI t G a s (0, 1)) (p : xE t t' G G' (fun _ => False)) : SvI t' G' a s (0, 1) := by
  have ok : okX t (fun _ => False) := fun b k n g _ _ _ _ w => w
  obtain ⟨h0, T, L1, C, M, An, hla, hL, ⟨r1, r2, r3, r4, r5, r6⟩, r7⟩ := h
  have s0 := p.2.2 a h0.1 (fun w => w)
  have sl := p.2.2 s.la hla.1 (fun w => w)
  exact ⟨p.inT h0, T.to p ok, L1.to p ok, C.to p ok, M.to p ok, An.to p ok, p.inT hla, fun q hq => ⟨(hL q hq).1.to p ok, (sl.2 q).2.trans (hL q hq).2⟩, ⟨(s0.1 63).2.trans r1, (s0.1 64).2.trans r2, (s0.1 65).2.trans r3, (s0.1 66).2.trans r4, (s0.1 67).2.trans r5, (s0.1 68).2.trans r6⟩, (s0.1 69).1.trans r7⟩
theorem inv_of (S : SvI t G a s (0, 1)) (M : MdI t G b A (0, 2)) (ey : y = yOf a b s A) (hd : tdOK t) : InvY t y 1 (frM y (frM y G 0) 1) (frM y (frM y G 0) 1) := by
  have hs : SH t y := sh_of (cellT S M ey) hd
  have hz : FZ y G := fz_of S M ey
  obtain ⟨h0, ⟨T1, T2, T3, ⟨T4, T4', T15, T16⟩, T5⟩, ⟨L1, L2⟩, -, -, -, hla, hL, -, r69⟩ := S
  obtain ⟨m0, m1, m70, mg⟩ := M
  have y00 : y 0 0 = a := by rw [ey]; rfl
  have y10 : y 1 0 = b := by rw [ey]; rfl
  have y20 : y 2 0 = s.tr := by rw [ey]; rfl
  have y30 : y 3 0 = s.lg := by rw [ey]; rfl
  have yA : ∀ f, y 30 f = A f := fun f => by rw [ey]; rfl
  have y50 : y 5 0 = s.root := by rw [ey]; rfl
  have y60 : y 6 0 = s.rn := by rw [ey]; rfl
  have y70 : y 7 0 = s.rc := by rw [ey]; rfl
  have y16 : y 16 0 = s.arr := by rw [ey]; rfl
  have yP : ∀ i, i < 20 → y 5 (i + 1) = (s.P i).1 ∧ y 7 (i + 1) = (s.P i).2.2 := fun i hi => by
    rw [ey]
    show (if i + 1 = 0 then s.root else if i + 1 ≤ 20 then (s.P (i + 1 - 1)).1 else (s.L (i + 1 - 21)).nw) = (s.P i).1 ∧ (if i + 1 = 0 then s.rc else if i + 1 ≤ 20 then (s.P (i + 1 - 1)).2.2 else (s.L (i + 1 - 21)).ct) = (s.P i).2.2
    rw [if_neg (by omega), if_pos (by omega), if_neg (by omega), if_pos (by omega), show i + 1 - 1 = i by omega]
    exact ⟨rfl, rfl⟩
  have yL' : ∀ c, y 10 c = (s.L c).lk := fun c => by rw [ey]; rfl
  have yF : ∀ k, y 14 k = (s.L (k / 6)).F (k % 6) := fun k => by rw [ey]; rfl
  obtain ⟨Z, eZ⟩ : ∃ Z, Z = frM y (frM y G 0) 1 := ⟨_, rfl⟩
  rw [← eZ]
  have gI : ∀ f x, gi Z f x = gi G f x := fun f x => by rw [eZ, fr_gi, fr_gi]
  have gR : ∀ f x, gr Z f x = gr G f x := fun f x => by rw [eZ, fr_gr, fr_gr]
  have aR : ∀ x, ar Z x = ar G x := fun x => by rw [eZ, fr_ar, fr_ar]
  have aO : ∀ x, (∀ f, f = 80 ∨ f = 82 ∨ f = 83 ∨ f = 84 ∨ f = 85 ∨ f = 86 → x ≠ y 30 f) → ai Z x = ai G x := fun x h => by rw [eZ, frM_o hs h, frM_o hs h]
  have aK : ∀ k i, yV k i = true → k ≠ 30 → ai Z (y k i) = ai G (y k i) := fun k i hv hk => aO _ (fun f hf => hs.ne (by omega) hv (yV30 (by omega)))
  have a70 : ai Z (y 30 70) = c0 := by
    rw [aO _ (fun f hf => hs.ne (by omega) rfl (yV30 (by omega)))]
    rw [yA]; exact funext m70
  have zr : ∀ f, yV 30 f = true → f ≠ 70 → ∀ j, ai G (y 30 f) j = 0 := fun f hf h j => by rw [yA]; exact (m1 f hf).2.2 h j
  have fc : ∀ c, c < 2 → ai Z (y 30 80) c = 0 ∧ ai Z (y 30 82) c = 0 ∧ ai Z (y 30 83) c = 128 ∧ ai Z (y 30 84) c = 0 ∧ ai Z (y 30 85) c = 0 := fun c hc => by
    obtain ⟨p1, p2, p3, p4, p5⟩ := frM_c (m := frM y G 0) hs (c := 1) (c' := c)
    obtain ⟨o1, o2, o3, o4, o5⟩ := frM_c (m := G) hs (c := 0) (c' := c)
    rw [eZ, p1, p2, p3, p4, p5, o1, o2, o3, o4, o5]
    rcases (show c = 0 ∨ c = 1 by omega) with rfl | rfl
    · simp
    · simp
  have f86 : ∀ k, k < 12 → ai Z (y 30 86) k = 0 := fun k hk => by
    rw [eZ, frM_86, frM_86]
    show (if 6 * 1 ≤ k ∧ k < 6 * 1 + 6 then 0 else if 6 * 0 ≤ k ∧ k < 6 * 0 + 6 then 0 else ai G (y 30 86) k) = 0
    rw [zr 86 rfl (by omega) k]
    simp
  have hzZ : FZ y Z := hz.to hs (sZ.of gR aR)
  have lg : ∀ f, gi Z f (y 3 0) = if f = 18 then -1 else if f = 19 then 1 else 0 := fun f => by rw [gI, y30]; exact L2 f
  have mg' : ∀ f, gi Z f (y 1 0) = if f = 76 then -1 else 0 := fun f => by rw [gI, y10]; exact mg f
  have g46 : ∀ k, k < 12 → gi Z 46 (y 14 k) = 0 := fun k hk => by
    rw [gI, yF]
    exact ((hL (k / 6) (by omega)).1.2.2.2.2.2.1 (k % 6) (by omega)).2.1
  obtain ⟨R1, R2, R3, R4, ⟨R5, R6, R7, R8, R9, R10⟩, R11, R12⟩ := T2
  have rg : ∀ f, gi Z f (y 5 0) = if f = 2 then -2147483139 else if f = 10 then 1 else 0 := fun f => by rw [gI, y50]; exact R4 f
  have pg : ∀ i, i < 20 → ∀ f, gi Z f (y 5 (i + 1)) = if f = 0 then -1 else 0 := fun i hi f => by rw [gI, (yP i hi).1]; exact (T5 i hi).1.2.2.2.1 f
  have p7 : ∀ j, j ≤ 20 → ∀ k, ai Z (y 7 j) k = 0 := fun j hj k => by
    rw [aK 7 j (by simp [yV]; omega) (by omega)]
    rcases (show j = 0 ∨ ∃ i, i < 20 ∧ j = i + 1 from by
      by_cases q : j = 0
      · exact Or.inl q
      · exact Or.inr ⟨j - 1, by omega, by omega⟩) with rfl | ⟨i, hi, rfl⟩
    · rw [y70]; exact R12 k
    · rw [(yP i hi).2]; exact (T5 i hi).1.2.2.2.2.2.2 k
  refine ⟨hs, hzZ, hzZ, ⟨?_, ?_, ?_, ?_, ?_, Or.inl ⟨?_, ?_, ?_⟩⟩, fun c hc => ?_, fun k hk => ⟨?_, ?_, fun w => ?_⟩, 0, fun i => i + 1, fun _ => 0, 1, ⟨by omega, ?_, by omega, ?_, fun i hi => ⟨?_, show 1 ≤ i + 1 by omega, show i + 1 ≤ 20 by omega⟩, fun i i' _ _ e => by have e : i + 1 = i' + 1 := e; omega, ⟨fun _ => 0, fun i hi => absurd hi (by omega), fun i i' _ hi => absurd hi (by omega)⟩, fun i _ hi => ?_, ?_, rfl, fun j hj => ?_, fun k hk => ?_, ⟨?_, ?_, ?_⟩, fun i hi => absurd hi (by omega), fun j hj => ?_, fun i _ hi => absurd hi (by omega), fun j hj => ⟨0, by omega, ?_, fun k _ _ => p7 j hj k⟩⟩, fun k hk w => ?_, ?_, by omega, fun w => ?_⟩
  · rw [lg, mg']; simp
  · rw [lg, mg']; simp
  · rw [mg', gI, y00, r69]; simp
  · rw [lg, mg']; simp
  · rw [lg]; simp; exact Or.inl rfl
  · rw [lg]; simp
  · rw [mg']; simp
  · rw [lg]; simp
  · obtain ⟨⟨l1, l2, l3, l4, l5, l6, l7, l8, l9, l10, l11, l12⟩, -⟩ := hL c hc
    obtain ⟨f1, f2, f3, f4, f5⟩ := fc c hc
    rw [← yL' c] at l8 l9 l10 l11 l12
    refine ⟨0, 0, 128, fun _ => 0, fun _ => 0, by omega, by omega, by omega, by omega, by rw [gI]; exact l8, f1, fun k hk => absurd hk (by omega), fun k hk => absurd hk (by omega), by rw [gI]; exact l9, f2, fun k hk => absurd hk (by omega), fun k hk => absurd hk (by omega), by rw [gI]; exact l10, f3, by rw [gI, l11]; exact Or.inl rfl, by rw [gI, l11]; exact f4, by rw [gI, l12]; exact Or.inl rfl, by rw [gI, l12]; exact f5, fun _ => ⟨rfl, rfl⟩, fun _ => ⟨rfl, rfl, by rw [gI, l12]⟩⟩
  · rw [g46 k hk]; exact Or.inl rfl
  · rw [g46 k hk]; exact f86 k hk
  · exact g46 k hk
  · rw [gI, y20]; exact T15
  · rw [gI, y20]; exact T16
  · rw [aR, y16, (yP i hi).1]; exact (T5 i hi).2
  · rw [pg i hi]; simp
  · rw [rg]; simp
  · have j0 : j = 0 := by
      rcases hj with w | ⟨i, hi, -⟩
      · exact w
      · omega
    rw [j0]
    refine ⟨show 0 < 21 by omega, fun w => absurd rfl w, ?_⟩
    rw [a70]
    have t0 : tad t 0 = tad t 0 := rfl
    refine ⟨rfl, by rw [rg]; rfl, by rw [rg]; rfl, by rw [rg]; rfl, by rw [rg]; rfl, ⟨0, by omega, by rw [gR, y50]; exact R5, rfl⟩, ⟨0, by omega, by rw [gR, y50]; exact R6, rfl⟩, ⟨0, by omega, by rw [gR, y50]; exact R7, rfl⟩, ⟨1, fun _ => 47, by omega, by rw [rg]; rfl, rfl, fun k hk => ⟨show 47 < 256 by omega, ?_⟩, fun k hk => ?_⟩, ⟨0, fun _ => 0, by omega, by rw [rg]; rfl, rfl, fun k hk => absurd hk (by omega), fun k hk => absurd hk (by omega)⟩⟩
    · rw [show k = 0 by omega, aK 6 0 rfl (by omega), y60, R11]; rfl
    · rw [show k = 0 by omega]; rfl
  · by_cases e : k = 0
    · exact Or.inr ⟨0, Or.inl rfl, e.symm⟩
    · left
      rw [a70]; unfold c0
      rw [if_neg (by omega), if_neg (by omega), if_neg (by omega), if_neg (by omega), if_neg (by omega)]
  · rw [gR, y50]; exact R8
  · rw [a70]; rfl
  · show cBl y Z 0 _ 0 + 0 ≤ 24
    unfold cBl
    rw [if_pos (by rw [rg]; decide)]
    show (0 + 3) / 4 + 0 ≤ 24
    omega
  · have j0 : j = 0 := by
      rcases hj with w | ⟨i, hi, -⟩
      · exact w
      · omega
    rw [j0, rg]; rfl
  · rcases (show j = 0 ∨ ∃ i, i < 20 ∧ j = i + 1 from by
      by_cases q : j = 0
      · exact Or.inl q
      · exact Or.inr ⟨j - 1, by omega, by omega⟩) with rfl | ⟨i, hi, rfl⟩
    · rw [rg]; rfl
    · rw [pg i hi]; rfl
  · rw [g46 k hk] at w; exact absurd w (by decide)
  · rw [mg']; rfl
  · rw [lg] at w; exact absurd w (by decide)
theorem o_start : Ob_start InvW := fun x G a hd => by
  refine i_S inT.new zA.new (fun t1 G1 s xS SV b hb => ?_)
  refine i_M inT.new zA.new (fun t2 G2 A xM MD => ?_)
  have f2 : xE t1 t2 G1 G2 (fun _ => False) := xE.fresh hb xM
  have SV2 := SV.to f2
  have hd2 : tdOK t2 := by
    have e : t2.2 = x := f2.1.trans xS.1
    have e2 : (t00 x).2 = x := rfl
    have et : ∀ i, tad t2 i = tad (t00 x) i := fun i => tad_e (by rw [e, e2]) i
    refine ⟨fun i j hi hj q => hd.1 i j hi hj (by rw [← et, ← et]; exact q), fun i j hi hj q => hd.2 i j hi hj (by rw [← et, ← et]; exact q)⟩
  obtain ⟨y, ey⟩ : ∃ y, y = yOf a b s A := ⟨_, rfl⟩
  have hs := sh_of (cellT SV2 MD ey) hd2
  have hz := fz_of SV2 MD ey
  have y10 : y 1 0 = b := by rw [ey]; rfl
  have y00 : y 0 0 = a := by rw [ey]; rfl
  have I := inv_of SV2 MD ey hd2
  rw [← y10]
  refine M_fresh (c := 0) hs hz (by omega) ?_
  refine M_fresh (c := 1) hs (hz.to hs (sZ.of (fun _ _ => fr_gr) (fun _ => fr_ar))) (by omega) ?_
  exact ⟨y, y00, rfl, I⟩
end STA
