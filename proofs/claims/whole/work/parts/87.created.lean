/-! a creation stands ready (by hand) -/
/-- the new node's cells -/
def crT (T : Nat → Int32) (k0 np : Nat) (md tm : Int32) (u og : Nat) (pd : Int32) (l : Nat) (g : Nat → Nat) : Nat → Int32 := nmT (cS (cS (cS (cS (cS (cS (cS (cS (fun k => if 83 * k0 ≤ k ∧ k < 83 * k0 + 83 then 0 else T k) k0 0 1) k0 1 (nI np)) k0 3 md) k0 4 tm) k0 5 (nI u)) k0 6 (nI og)) k0 7 (nI u)) k0 8 pd) k0 l g
theorem crT_o {T : Nat → Int32} {k0 np u og l : Nat} {md tm pd : Int32} {g : Nat → Nat} (hl : l ≤ 8) {k : Nat} (h : ¬ (83 * k0 ≤ k ∧ k < 83 * k0 + 83)) : crT T k0 np md tm u og pd l g k = T k := by
  unfold crT nmT
  rw [if_neg (by omega), if_neg (by omega), cS_ne (by omega), cS_ne (by omega), cS_ne (by omega), cS_ne (by omega), cS_ne (by omega), cS_ne (by omega), cS_ne (by omega), cS_ne (by omega)]
  exact if_neg h
theorem crT_v {T : Nat → Int32} {k0 np u og l : Nat} {md tm pd : Int32} {g : Nat → Nat} (hl : l ≤ 8) : crT T k0 np md tm u og pd l g (83 * k0) = 1 ∧ crT T k0 np md tm u og pd l g (83 * k0 + 1) = nI np ∧ crT T k0 np md tm u og pd l g (83 * k0 + 2) = 0 ∧ crT T k0 np md tm u og pd l g (83 * k0 + 3) = md ∧ crT T k0 np md tm u og pd l g (83 * k0 + 4) = tm ∧ crT T k0 np md tm u og pd l g (83 * k0 + 5) = nI u ∧ crT T k0 np md tm u og pd l g (83 * k0 + 6) = nI og ∧ crT T k0 np md tm u og pd l g (83 * k0 + 7) = nI u ∧ crT T k0 np md tm u og pd l g (83 * k0 + 8) = pd ∧ crT T k0 np md tm u og pd l g (83 * k0 + 9) = nI l ∧ (∀ i, i < l → crT T k0 np md tm u og pd l g (83 * k0 + 10 + i) = nI (g i)) ∧ crT T k0 np md tm u og pd l g (83 * k0 + 18) = 0 := by
  have n9 : ∀ c, c < 9 → ∀ T1 : Nat → Int32, nmT T1 k0 l g (83 * k0 + c) = T1 (83 * k0 + c) := fun c hc T1 => by
    unfold nmT; rw [if_neg (by omega), if_neg (by omega)]
  unfold crT
  refine ⟨?_, ?_, ?_, ?_, ?_, ?_, ?_, ?_, ?_, ?_, fun i hi => ?_, ?_⟩
  · rw [show 83 * k0 = 83 * k0 + 0 by omega, n9 0 (by omega), cS_ne (by omega), cS_ne (by omega), cS_ne (by omega), cS_ne (by omega), cS_ne (by omega), cS_ne (by omega), cS_ne (by omega), cS_at]
  · rw [n9 1 (by omega), cS_ne (by omega), cS_ne (by omega), cS_ne (by omega), cS_ne (by omega), cS_ne (by omega), cS_ne (by omega), cS_at]
  · rw [n9 2 (by omega), cS_ne (by omega), cS_ne (by omega), cS_ne (by omega), cS_ne (by omega), cS_ne (by omega), cS_ne (by omega), cS_ne (by omega), cS_ne (by omega)]
    exact if_pos (by omega)
  · rw [n9 3 (by omega), cS_ne (by omega), cS_ne (by omega), cS_ne (by omega), cS_ne (by omega), cS_ne (by omega), cS_at]
  · rw [n9 4 (by omega), cS_ne (by omega), cS_ne (by omega), cS_ne (by omega), cS_ne (by omega), cS_at]
  · rw [n9 5 (by omega), cS_ne (by omega), cS_ne (by omega), cS_ne (by omega), cS_at]
  · rw [n9 6 (by omega), cS_ne (by omega), cS_ne (by omega), cS_at]
  · rw [n9 7 (by omega), cS_ne (by omega), cS_at]
  · rw [n9 8 (by omega), cS_at]
  · unfold nmT; rw [if_pos rfl]
  · unfold nmT; rw [if_neg (by omega), if_pos (by omega), show 83 * k0 + 10 + i - (83 * k0 + 10) = i by omega]
  · have : ∀ T1 : Nat → Int32, nmT T1 k0 l g (83 * k0 + 18) = T1 (83 * k0 + 18) := fun T1 => by unfold nmT; rw [if_neg (by omega), if_neg (by omega)]
    rw [this, cS_ne (by omega), cS_ne (by omega), cS_ne (by omega), cS_ne (by omega), cS_ne (by omega), cS_ne (by omega), cS_ne (by omega), cS_ne (by omega)]
    exact if_pos (by omega)
section CRT
variable {t : TY} {y : LYT} {G m : GS} {T : Nat → Int32} {n np d u l0 k0 : Nat} {r s : Nat → Nat} {tm md : Int32}
/-- the class's new node -/
def crX (y : LYT) (G : GS) (n np N D : Nat) (md tm : Int32) (ou og : Option Nat) : GS := si (sr (sr (sr (si (si (si (si (sr (si (si (si G 15 (y 2 0) (nI (n + 1))) 0 N (nI np)) 16 (y 2 0) (nI (np + 1))) 7 N (some D)) 8 D (gi G 8 D + 1)) 1 N 0) 2 N md) 3 N tm) 4 N ou) 5 N og) 6 N ou) 8 N 0
theorem crX_o {N D : Nat} {ou og : Option Nat} {f a : Nat} (h : a ≠ N) (h8 : ¬ (f = 8 ∧ a = D)) (h2 : ¬ (a = y 2 0 ∧ (f = 15 ∨ f = 16))) : gi (crX y G n np N D md tm ou og) f a = gi G f a := by
  have n16 : ¬ (f = 16 ∧ a = y 2 0) := fun w => h2 ⟨w.2, Or.inr w.1⟩
  have n15 : ¬ (f = 15 ∧ a = y 2 0) := fun w => h2 ⟨w.2, Or.inl w.1⟩
  simp [crX, giS, giR, h, h8, n16, n15]
theorem crX_r {N D : Nat} {ou og : Option Nat} {f a : Nat} (h : a ≠ N) : gr (crX y G n np N D md tm ou og) f a = gr G f a := by
  simp [crX, grS, grR, h]
theorem frT.cr {N D : Nat} {ou og : Option Nat} : frT y G (crX y G n np N D md tm ou og) := by
  refine ⟨fun f a hf => ⟨?_, ?_⟩, fun _ _ => rfl, fun _ => rfl, fun _ _ => rfl, fun a => ⟨?_, ?_, ?_, ?_⟩, fun _ _ => rfl⟩
  · have h1 : f ≠ 0 := by omega
    have h2 : f ≠ 1 := by omega
    have h3 : f ≠ 2 := by omega
    have h4 : f ≠ 3 := by omega
    have h5 : f ≠ 8 := by omega
    have h6 : f ≠ 15 := by omega
    have h7 : f ≠ 16 := by omega
    simp [crX, giS, giR, h1, h2, h3, h4, h5, h6, h7]
  · have h1 : f ≠ 4 := by omega
    have h2 : f ≠ 5 := by omega
    have h3 : f ≠ 6 := by omega
    have h4 : f ≠ 7 := by omega
    simp [crX, grS, grR, h1, h2, h3, h4]
  · simp [crX, grS, grR]
  · simp [crX, grS, grR]
  · simp [crX, grS, grR]
  · simp [crX, grS, grR]
theorem stg_cr (h : TrR t y G T n r s np) (hb : np + 1 < 2 ^ 31) (hs : SH t y) (hn : n < 20) (hd : lvN n r d) (hdir : gi G 2 (y 5 d) < 0) (hu : u < 3) (k21 : gr G 21 (y 4 0) = some (tad t 3)) (c : CH t y G d u tm) (e27 : gi G 27 (y 4 0) = md) {l og : Nat} {g : Nat → Nat} (e32 : gi G 32 (y 4 0) = nI l) (hl : l ≤ 8) (hg : ∀ k, k < l → g k < 256 ∧ ai G (y 17 0) k = sb (g k)) (hog : og < 3) (eog : gr G 5 (y 5 d) = some (tad t og)) (hk1 : 1 ≤ k0) (hk0 : k0 < 21) (hfree : T (83 * k0) = 0) (hU : ∀ i, i < n → gr G 7 (y 5 (r i)) = some (y 5 d) → ¬ (gi G 10 (y 5 (r i)) = nI l ∧ ∀ k, k < l → ai G (y 6 (r i)) k = sb (g k))) (hr : tBl y G n r + (cnt (fun i => decide (gr G 7 (y 5 (r i)) = some (y 5 d))) n + 4) / 4 ≤ 24 + (cnt (fun i => decide (gr G 7 (y 5 (r i)) = some (y 5 d))) n + 3) / 4) : Stg t y G (cG (crT T k0 np md tm u og (gi G 0 (y 5 d)) l g) (s d) tm u) n r np (np + 1) := by
  intro G1 a hz
  have h1 := h.to a.1
  have gI : ∀ f b, 21 ≤ f → f ≤ 35 → gi G1 f b = gi G f b := fun f b q1 q2 => (a.2.1 f b q1 q2).1
  have gR : ∀ f b, 21 ≤ f → f ≤ 35 → gr G1 f b = gr G f b := fun f b q1 q2 => (a.2.1 f b q1 q2).2
  have tI : ∀ f b, f ≤ 16 → gi G1 f b = gi G f b := fun f b q => (a.1.1 f b q).1
  have tR : ∀ f b, f ≤ 16 → gr G1 f b = gr G f b := fun f b q => (a.1.1 f b q).2
  have c1 : CH t y G1 d u tm := ⟨(gR _ _ (by omega) (by omega)).trans c.1, (gR _ _ (by omega) (by omega)).trans c.2.1, (gI _ _ (by omega) (by omega)).trans c.2.2⟩
  have tb : tBl y G1 n r = tBl y G n r := tBl_eq (fun b => by rw [tI 2 b (by omega)]) (fun b => tR 7 b (by omega)) (fun b => tI 12 b (by omega))
  obtain ⟨rn1, rn20, rnl⟩ := h1.spn hn
  have hd20 := h1.le hd
  have hdr := rnl d hd
  have nND : y 5 d ≠ y 5 (r n) := fun e => hdr (y5 hs (by omega) (by omega) e)
  have n2N : y 2 0 ≠ y 5 (r n) := hs.ne (by omega) rfl (by simp [yV]; omega)
  have n2D : y 5 d ≠ y 2 0 := hs.ne (by omega) (by simp [yV]; omega) rfl
  have hvN : yV 5 (r n) = true := by simp [yV]; omega
  have hvD : yV 5 d = true := by simp [yV]; omega
  have a17 : ai G1 (y 17 0) = ai G (y 17 0) := a.2.2.1
  have eog1 : gr G1 5 (y 5 d) = some (tad t og) := (tR 5 _ (by omega)).trans eog
  have hdir1 : gi G1 2 (y 5 d) < 0 := by rw [tI 2 _ (by omega)]; exact hdir
  obtain ⟨lx, x1, x2, x3⟩ := h1.2.2.2.2.2.2.2.2.2.2.2.2.2.2.2.2 (r n) rn20
  obtain ⟨X, eX⟩ : ∃ X, X = crX y G1 n np (y 5 (r n)) (y 5 d) md tm (some (tad t u)) (some (tad t og)) := ⟨_, rfl⟩
  have fX : frT y G1 X := by rw [eX]; exact frT.cr
  have zX := frT.fz hs hz fX
  have X12 : gi X 12 (y 5 (r n)) = nI lx := by rw [eX]; simp [crX, giS, giR]; exact x2
  have aX : ∀ b, ai X b = ai G1 b := fun b => by rw [eX]; rfl
  obtain ⟨Y, eY⟩ : ∃ Y, Y = ctC y X (r n) 0 (fun i => if 0 ≤ i ∧ i < lx then 0 else ai X (y 7 (r n)) i) := ⟨_, rfl⟩
  have fY : frT y X Y := by rw [eY]; exact (frT.aw7 (by omega)).tr (frT.si (by omega))
  have zY := frT.fz hs zX fY
  obtain ⟨E, eE⟩ : ∃ E, E = nmC y Y (r n) l (fun i => if i < l then sb (g i) else ai Y (y 6 (r n)) i) := ⟨_, rfl⟩
  have fE : frT y Y E := by rw [eE]; exact (frT.aw6 (by omega)).tr (frT.si (by omega))
  have f1 : frT y G1 E := (fX.tr fY).tr fE
  -- what E holds
  have gE : ∀ f b, f ≠ 10 → f ≠ 12 → gi E f b = gi X f b := fun f b q1 q2 => by
    rw [eE]
    show gi (nmC y Y (r n) l (fun i => if i < l then sb (g i) else ai Y (y 6 (r n)) i)) f b = _
    unfold nmC
    rw [gi_ne q1]
    show gi Y f b = _
    rw [eY]
    unfold ctC
    rw [gi_ne q2]; rfl
  have gEn : ∀ f b, b ≠ y 5 (r n) → gi E f b = gi X f b := fun f b q => by
    rw [eE]
    unfold nmC
    rw [gi_na q]
    show gi Y f b = _
    rw [eY]
    unfold ctC
    rw [gi_na q]; rfl
  have rE : ∀ f b, gr E f b = gr X f b := fun f b => by rw [eE, eY]; rfl
  have v6 : ∀ i, i < 23 → yV 6 i = true := fun i hi => by simp [yV, hi]
  have v7 : ∀ i, i < 23 → yV 7 i = true := fun i hi => by simp [yV, hi]
  have a6Y : ∀ i, i < 23 → ai Y (y 6 i) = ai G1 (y 6 i) := fun i hi => by
    rw [eY]
    show ai (aw X (y 7 (r n)) _) (y 6 i) = _
    rw [aw_ne (hs.ne (by omega) (v6 i hi) (v7 _ (by omega))), aX]
  have a6E : ai E (y 6 (r n)) = fun i => if i < l then sb (g i) else ai Y (y 6 (r n)) i := by rw [eE]; exact aw_at
  have a6o : ∀ i, i < 23 → i ≠ r n → ai E (y 6 i) = ai G1 (y 6 i) := fun i hi q => by
    rw [eE]
    show ai (aw Y (y 6 (r n)) _) (y 6 i) = _
    rw [aw_ne (hs.ne (by omega) (v6 i hi) (v6 _ (by omega))), a6Y i hi]
  have a7E : ∀ i, i < 23 → ai E (y 7 i) = ai Y (y 7 i) := fun i hi => by
    rw [eE]
    show ai (aw Y (y 6 (r n)) _) (y 7 i) = _
    rw [aw_ne (hs.ne (by omega) (v7 i hi) (v6 _ (by omega)))]
  have a7o : ∀ i, i < 23 → i ≠ r n → ai Y (y 7 i) = ai G1 (y 7 i) := fun i hi q => by
    rw [eY]
    show ai (aw X (y 7 (r n)) _) (y 7 i) = _
    rw [aw_ne (hs.ne (by omega) (v7 i hi) (v7 _ (by omega))), aX]
  have a7n : ai Y (y 7 (r n)) = fun i => if 0 ≤ i ∧ i < lx then 0 else ai X (y 7 (r n)) i := by rw [eY]; exact aw_at
  have E10 : gi E 10 (y 5 (r n)) = nI l := by rw [eE]; exact gi_at
  have E12 : gi E 12 (y 5 (r n)) = nI 0 := by
    rw [eE]
    unfold nmC
    rw [gi_ne (by omega)]
    show gi Y 12 (y 5 (r n)) = _
    rw [eY]; exact gi_at
  have eN : ∀ f, f ≠ 10 → f ≠ 12 → gi E f (y 5 (r n)) = gi X f (y 5 (r n)) := fun f q1 q2 => gE f _ q1 q2
  have X0 : gi X 0 (y 5 (r n)) = nI np := by rw [eX]; simp [crX, giS, giR]
  have X1 : gi X 1 (y 5 (r n)) = 0 := by rw [eX]; simp [crX, giS, giR]
  have X2 : gi X 2 (y 5 (r n)) = md := by rw [eX]; simp [crX, giS, giR]
  have X3 : gi X 3 (y 5 (r n)) = tm := by rw [eX]; simp [crX, giS, giR]
  have X8 : gi X 8 (y 5 (r n)) = 0 := by rw [eX]; simp [crX, giS, giR]
  have X4 : gr X 4 (y 5 (r n)) = some (tad t u) := by rw [eX]; simp [crX, grS, grR]
  have X5 : gr X 5 (y 5 (r n)) = some (tad t og) := by rw [eX]; simp [crX, grS, grR]
  have X6 : gr X 6 (y 5 (r n)) = some (tad t u) := by rw [eX]; simp [crX, grS, grR]
  have X7 : gr X 7 (y 5 (r n)) = some (y 5 d) := by rw [eX]; simp [crX, grS, grR]
  have X15 : gi X 15 (y 2 0) = nI (n + 1) := by rw [eX]; simp [crX, giS, giR, n2N, n2D.symm]
  have X16 : gi X 16 (y 2 0) = nI (np + 1) := by rw [eX]; simp [crX, giS, giR, n2N, n2D.symm]
  have X8d : gi X 8 (y 5 d) = gi G1 8 (y 5 d) + 1 := by rw [eX]; simp [crX, giS, giR, nND]
  have Xo : ∀ f b, b ≠ y 5 (r n) → ¬ (f = 8 ∧ b = y 5 d) → ¬ (b = y 2 0 ∧ (f = 15 ∨ f = 16)) → gi X f b = gi G1 f b := fun f b q1 q2 q3 => by rw [eX]; exact crX_o q1 q2 q3
  have Xr : ∀ f b, b ≠ y 5 (r n) → gr X f b = gr G1 f b := fun f b q => by rw [eX]; exact crX_r q
  have rin : ∀ i, i < n → r i ≠ r n ∧ r i ≤ 20 := fun i hi => ⟨rnl _ (Or.inr ⟨i, hi, rfl⟩), h1.le (Or.inr ⟨i, hi, rfl⟩)⟩
  have y5i : ∀ j, j ≤ 20 → j ≠ r n → y 5 j ≠ y 5 (r n) := fun j hj q e => q (y5 hs (by omega) (by omega) e)
  obtain ⟨t0, t1, t2, t3, t4, t5, t6, t7, t8, t9, t10, t18⟩ := crT_v (T := T) (k0 := k0) (np := np) (u := u) (og := og) (md := md) (tm := tm) (pd := gi G 0 (y 5 d)) (g := g) hl
  have cntE : cnt (fun i => decide (gr G1 7 (y 5 (r i)) = some (y 5 d))) n = cnt (fun i => decide (gr G 7 (y 5 (r i)) = some (y 5 d))) n := cnt_congr fun i _ => by rw [tR 7 _ (by omega)]
  have tadd := h1.tadd (G' := E) hs hn hd hdir1 (fun j hj q => ⟨by rw [gEn 2 _ (y5i j hj q), Xo 2 _ (y5i j hj q) (by omega) (by omega)], by rw [gEn 12 _ (y5i j hj q), Xo 12 _ (y5i j hj q) (by omega) (by omega)]⟩) (by rw [rE]; exact X7) (fun i hi => by rw [rE, Xr 7 _ (y5i _ (rin i hi).2 (rin i hi).1)]) E12
  rw [cntE, tb] at tadd
  have hA := h1.add (G' := E) (T' := crT T k0 np md tm u og (gi G 0 (y 5 d)) l g) (d := d) (k0 := k0) hs hn hd hdir1 hk1 hk0 hfree (fun f b _ q1 q2 q3 => by rw [gEn f b q1]; exact Xo f b q1 q2 q3) (fun f b _ q => by rw [rE]; exact Xr f b q) (by rw [gEn 15 _ n2N]; exact X15) (by rw [gEn 16 _ n2N]; exact X16) (by rw [eN 0 (by omega) (by omega)]; exact X0) (by rw [rE]; exact X7) (by rw [eN 8 (by omega) (by omega)]; exact X8) (by rw [gEn 8 _ nND]; exact X8d) (fun i hi q => ⟨a6o i hi q, by rw [a7E i hi, a7o i hi q]⟩) (fun b => by rw [eE, eY, eX]; rfl) (fun k q => crT_o hl q) (by rw [t8, tI 0 _ (by omega)]) ⟨t0, by rw [t1, eN 0 (by omega) (by omega), X0], by rw [t2, eN 1 (by omega) (by omega), X1], by rw [t3, eN 2 (by omega) (by omega), X2], by rw [t4, eN 3 (by omega) (by omega), X3], ⟨u, hu, by rw [rE]; exact X4, t5⟩, ⟨og, hog, by rw [rE]; exact X5, t6⟩, ⟨u, hu, by rw [rE]; exact X6, t7⟩, ⟨l, g, hl, E10, t9, fun k hk => ⟨(hg k hk).1, by rw [a6E]; exact if_pos hk⟩, t10⟩, ⟨0, fun _ => 0, by omega, E12, t18, fun k hk => absurd hk (by omega), fun k hk => absurd hk (by omega)⟩⟩ (fun i hi e7 => by
    have q := rin i hi
    rw [tR 7 _ (by omega)] at e7
    have := hU i hi e7
    have e10 : gi E 10 (y 5 (r i)) = gi G 10 (y 5 (r i)) := by rw [gEn 10 _ (y5i _ q.2 q.1), Xo 10 _ (y5i _ q.2 q.1) (by omega) (by omega), tI 10 _ (by omega)]
    have e6 : ai E (y 6 (r i)) = ai G (y 6 (r i)) := by rw [a6o _ (by omega) q.1, (a.1.2.1 _ (by omega)).1]
    constructor
    · intro ⟨w1, w2⟩
      rw [e10, E10] at w1
      refine this ⟨w1, fun k hk => ?_⟩
      have := w2 k (by rw [e10, w1, nI_clamp (by omega)]; exact hk)
      rw [e6, a6E] at this
      exact this.trans (if_pos hk)
    · intro ⟨w1, w2⟩
      rw [e10, E10] at w1
      refine this ⟨w1.symm, fun k hk => ?_⟩
      have := w2 k (by rw [E10, nI_clamp (by omega)]; exact hk)
      rw [e6, a6E] at this
      exact this.symm.trans (if_pos hk)) ⟨0, by omega, E12, fun k _ hk => by
    rw [a7E _ (by omega), a7n]
    show (if 0 ≤ k ∧ k < lx then 0 else ai X (y 7 (r n)) k) = 0
    by_cases q : k < lx
    · rw [if_pos ⟨by omega, q⟩]
    · rw [if_neg (by omega), aX]; exact x3 k (by omega) hk⟩ (by omega)
  have hd' : lvN (n + 1) r d := by
    rcases hd with w | ⟨i, hi, w⟩
    · exact Or.inl w
    · exact Or.inr ⟨i, by omega, w⟩
  have hC := hA.chg (tm := tm) (by omega) hs hd' hu
  rw [show (if d = r n then k0 else s d) = s d from if_neg hdr] at hC
  refine ⟨chB E (y 5 d) (some (tad t u)) tm, ⟨f1.tr frT.ch, n + 1, r, fun q => if q = r n then k0 else s q, hC, Or.inr ⟨rfl, r n, Or.inr ⟨n, by omega, rfl⟩, ?_⟩, fun j p hj hp e => ?_⟩, fun K hK => ?_⟩
  · rw [chB_i (by omega) (by omega), eN 0 (by omega) (by omega)]; exact X0
  · rw [chB_i (by omega) (by omega)] at e
    by_cases q : j = r n
    · exfalso
      rw [q, eN 0 (by omega) (by omega), X0] at e
      have := (nI_eq (by omega) (by omega)).mp e
      omega
    · rw [gEn 0 _ (y5i j hj q), Xo 0 _ (y5i j hj q) (by omega) (by omega)] at e
      refine ⟨e, fun w => ?_, fun w => ?_, fun w => ?_⟩
      · rcases w with w | ⟨i, hi, w⟩
        · exact Or.inl w
        · exact Or.inr ⟨i, by omega, w⟩
      · rcases w with w | ⟨i, hi, w⟩
        · exact Or.inl w
        · by_cases qi : i = n
          · rw [qi] at w; exact absurd w.symm q
          · exact Or.inr ⟨i, by omega, w⟩
      · rw [chB_i (by omega) (by omega), gEn 2 _ (y5i j hj q), Xo 2 _ (y5i j hj q) (by omega) (by omega)] at w; exact w
  · have g21 : gr G1 21 (y 4 0) = some (tad t 3) := (gR _ _ (by omega) (by omega)).trans k21
    refine ⟨hs.k 4 0, iT (by rw [c1.1]; simp) (iF (fun w => w g21) ⟨hs.k 4 0, hs.k 2 0, y 5 d, c1.1, hs.k 2 0, ?_⟩)⟩
    have e15 : gi G1 15 (y 2 0) = nI n := h1.2.1
    have eaN : ar G1 (y 16 0) n = some (y 5 (r n)) := (h1.2.2.2.2.1 n hn).1
    rw [e15]
    refine iT (nI_lt (b := 20) hn (by decide)) ⟨y 16 0, hz.2.1.2.1, hs.k 16 0, by rw [hs.n 16 0]; exact vp_lt (N := 20) hn, fun A2 eA2 => ⟨y 5 (r n), by rw [nI_clamp (by omega)]; exact eaN, hs.k 5 _ hvN, fun A4 eA4 A5 eA5 A6 eA6 => ⟨hs.k 5 d hvD, fun A7 eA7 => ?_⟩⟩⟩
    rw [nI_1] at eA2
    have q16 : gi A2 16 (y 2 0) = nI np := by rw [eA2, gi_ne (by omega)]; exact h1.2.2.2.1
    rw [q16] at eA4
    have q16' : gi A4 16 (y 2 0) = nI np := by rw [eA4, gi_ne (by omega)]; exact q16
    rw [q16', nI_1] at eA5
    have q8 : gi A6 8 (y 5 d) = gi G1 8 (y 5 d) := by
      rw [eA6]
      show gi A5 8 (y 5 d) = _
      rw [eA5, gi_ne (by omega), eA4, gi_ne (by omega), eA2, gi_ne (by omega)]
    rw [q8] at eA7
    rw [nI_clamp (by omega), eaN]
    refine iT (by simp) ⟨y 5 (r n), rfl, hs.k 5 _ hvN, fun B5 eB5 B6 eB6 B7 eB7 B8 eB8 => ?_⟩
    have f7 : ∀ f b, 16 < f → gi A7 f b = gi G1 f b := fun f b q => by rw [eA7, gi_ne (by omega), eA6]; show gi A5 f b = _; rw [eA5, gi_ne (by omega), eA4, gi_ne (by omega), eA2, gi_ne (by omega)]
    have r7 : ∀ f b, f ≠ 7 → gr A7 f b = gr G1 f b := fun f b q => by rw [eA7]; show gr A6 f b = _; rw [eA6, gr_ne q, eA5, eA4, eA2]; rfl
    have w27 : gi B5 27 (y 4 0) = md := by rw [eB5, gi_ne (by omega), f7 27 _ (by omega), gI _ _ (by omega) (by omega)]; exact e27
    rw [w27] at eB6
    have w24 : gi B6 24 (y 4 0) = tm := by rw [eB6, gi_ne (by omega), eB5, gi_ne (by omega), f7 24 _ (by omega)]; exact c1.2.2
    rw [w24] at eB7
    have w23 : gr B7 23 (y 4 0) = some (tad t u) := by rw [eB7, eB6, eB5]; exact (r7 23 _ (by omega)).trans c1.2.1
    rw [w23] at eB8
    have w22 : gr B8 22 (y 4 0) = some (y 5 d) := by rw [eB8, gr_ne (by omega), eB7, eB6, eB5]; exact (r7 22 _ (by omega)).trans c1.1
    refine ⟨y 5 d, w22, hs.k 5 d hvD, fun B10 eB10 B11 eB11 B12 eB12 => ?_⟩
    have w5 : gr B8 5 (y 5 d) = some (tad t og) := by rw [eB8, gr_ne (by omega), eB7, eB6, eB5]; exact (r7 5 _ (by omega)).trans eog1
    rw [w5] at eB10
    have w23' : gr B10 23 (y 4 0) = some (tad t u) := by rw [eB10, gr_ne (by omega), eB8, gr_ne (by omega)]; exact w23
    rw [w23'] at eB11
    have eB : B12 = X := by rw [eB12, eB11, eB10, eB8, eB7, eB6, eB5, eA7, eA6, eA5, eA4, eA2, eX]; rfl
    rw [eB]
    refine S_resize (l := 0) hs zX (by omega) (by omega) x1 X12 ?_
    rw [← eY]
    refine ⟨y 17 0, zY.2.1.2.2.1, ?_⟩
    have c' : CH t y Y d u tm := c1.fr (fX.tr fY)
    have e32' : gi Y 32 (y 4 0) = nI l := by rw [((fX.tr fY).1 32 _ (by omega)).1, gI _ _ (by omega) (by omega)]; exact e32
    rw [e32']
    refine S_rename hs zY (by omega) hl (g := g) (fun k hk => ?_) ?_
    · rw [(fX.tr fY).2.2.2.1 _ (fun i hi => ⟨hs.ne (by omega) rfl (v6 i hi), hs.ne (by omega) rfl (v7 i hi)⟩), a17]
      exact (hg k hk).2
    · rw [← eE]
      have c'' : CH t y E d u tm := c'.fr fE
      refine ⟨y 5 d, c''.1, hs.k 5 d hvD, ?_⟩
      rw [c''.2.1, c''.2.2]
      exact S_changeBy hs (by omega) hK
end CRT
