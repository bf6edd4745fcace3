/-! a message is taken (by hand) -/
section TKG
variable {t : TY} {y : LYT} {b c n o z S : Nat} {f h : Nat → Nat} {G m : GS}
/-- the message's bytes -/
def msF (f : Nat → Nat) (S : Nat) : Nat → Nat := fun k => if k < S then f k else 0
theorem msF_F (h7 : 7 ≤ S) (h8 : S ≤ 128) (hf : ∀ k, k < S → f k < 256) : MsF S (msF f S) := ⟨h7, h8, fun k => by
  unfold msF; split
  · exact hf k (by omega)
  · omega, fun k hk => if_neg (by omega)⟩
def tkA (y : LYT) (G : GS) (c S : Nat) : GS := aw (si G 37 (y 8 0) (nI S)) (y 19 0) (va_cpy (ai G (y 11 c)) (ai G (y 19 0)) 0 0 S)
def tkB (y : LYT) (G : GS) (c S n : Nat) : GS := si (aw (tkA y G c S) (y 11 c) (va_cpy (ai G (y 11 c)) (ai G (y 11 c)) S 0 (n - S))) 56 (y 10 c) (nI (n - S))
def tkC (y : LYT) (G : GS) (c S n : Nat) (f : Nat → Nat) : GS := si (si (si (tkB y G c S n) 38 (y 8 0) (nI (msF f S 4))) 39 (y 8 0) (nI (nm (msF f S) 5 2))) 42 (y 8 0) 0
theorem tkA_x : xC y G (tkA y G c S) := (xC.rf.si (f := 37)).aw (k := 19)
theorem tkB_l (hc : c < 2) : lC y (tkA y G c S) (tkB y G c S n) := (lC.rf.aw (k := 11) (Or.inl rfl) hc).si (f := 56)
theorem tkC_x : xC y (tkB y G c S n) (tkC y G c S n f) := ((xC.rf.si (f := 38)).si (f := 39)).si (f := 42)
theorem S_takeFrom (hs : SH t y) (hz : FZ y G) (hc : c < 2) (v : LkV y G m c n o z f h) (hS : S = nm f 0 4) (h7 : 7 ≤ S) (hSz : S ≤ z) (hSn : S ≤ n) {K : GS → Prop} (k : K (tkC y G c S n f)) : w_Message_takeFrom t G (y 8 0) (y 10 c) K := by
  obtain ⟨n1, o1, z1, z2, e56, e80, bc, bm, e58, e82, oc, om, e59, e83, -⟩ := v
  have hv : yV 10 c = true := by simp [yV, hc]
  have hv1 : yV 11 c = true := by simp [yV, hc]
  have n11 : y 11 c ≠ y 19 0 := hs.ne (by omega) hv1 rfl
  have hF := msF_F (f := f) h7 (by omega) (fun k hk => (bc k (by omega)).1)
  have zA : FZ y (tkA y G c S) := tkA_x.z hs hz
  have zB : FZ y (tkB y G c S n) := zA.to hs (sZ.of (fun _ _ => rfl) (fun _ => rfl))
  have a19 : ai (tkB y G c S n) (y 19 0) = va_cpy (ai G (y 11 c)) (ai G (y 19 0)) 0 0 S := by
    show ai (aw (tkA y G c S) (y 11 c) _) (y 19 0) = _
    rw [aw_ne n11.symm]
    exact aw_at
  have mB : MsC y (tkB y G c S n) S (msF f S) := ⟨by
    show gi (si (aw (tkA y G c S) (y 11 c) _) 56 (y 10 c) (nI (n - S))) 37 (y 8 0) = _
    rw [gi_ne (by omega)]
    exact gi_at, fun k hk => by
    rw [a19, pk_cpy_in (by omega) (by omega), (bc _ (by omega)).2]
    unfold msF; rw [if_pos hk]
    rw [show 0 + (k - 0) = k by omega]⟩
  refine ⟨hs.k 10 c hv, S_first hs hz hc (fun i hi => bc i (by omega)) ⟨hs.k 8 0, fun X eX => ?_⟩⟩
  rw [← hS, min128 (by omega), if_pos (by omega)] at eX
  rw [eX]
  have zX : FZ y (si G 37 (y 8 0) (nI S)) := hz.to hs (sZ.of (fun _ _ => rfl) (fun _ => rfl))
  have e37 : gi (si G 37 (y 8 0) (nI S)) 37 (y 8 0) = nI S := gi_at
  rw [e37]
  refine ⟨y 11 c, (zX.2.2.2.2.1 c hc).1, y 19 0, zX.2.2.1.1, hs.k 11 c hv1, hs.k 19 0, ⟨by decide, by decide, nI_pos (by omega), ?_, ?_⟩, fun Y eY => ?_⟩
  · rw [hs.n 11 c hv1, nI_clamp (by omega)]; show 0 + S ≤ 160; omega
  · rw [hs.n 19 0, nI_clamp (by omega)]; show 0 + S ≤ 128; omega
  have eY : Y = tkA y G c S := by
    rw [eY]; unfold acB tkA
    rw [nI_clamp (by omega)]; rfl
  rw [eY]
  have e37A : gi (tkA y G c S) 37 (y 8 0) = nI S := gi_at
  have e56A : gi (tkA y G c S) 56 (y 10 c) = nI n := (tkA_x.1 56 _ (by omega)).trans e56
  have a11A : ai (tkA y G c S) (y 11 c) = ai G (y 11 c) := aw_ne n11
  rw [e37A]
  refine ⟨hs.k 10 c hv, y 11 c, (zA.2.2.2.2.1 c hc).1, hs.k 11 c hv1, ?_, fun Z eZ W eW => ?_⟩
  · rw [e56A, pk_sub hSn]
    refine ⟨nI_pos (by omega), by decide, nI_pos (by omega), ?_, ?_⟩
    · rw [hs.n 11 c hv1, nI_clamp (by omega), nI_clamp (by omega)]; show S + (n - S) ≤ 160; omega
    · rw [hs.n 11 c hv1, nI_clamp (by omega)]; show 0 + (n - S) ≤ 160; omega
  have eZ : Z = aw (tkA y G c S) (y 11 c) (va_cpy (ai G (y 11 c)) (ai G (y 11 c)) S 0 (n - S)) := by
    rw [eZ, e56A, pk_sub hSn]; unfold acB
    rw [nI_clamp (by omega), nI_clamp (by omega), a11A]; rfl
  have eW : W = tkB y G c S n := by
    have : gi Z 56 (y 10 c) = nI n := by rw [eZ]; exact e56A
    rw [eW, this, pk_sub hSn, eZ]; rfl
  rw [eW]
  refine S_number (p := 4) (n := 1) hs zB hF mB (by omega) (by omega) (fun X8 e8 => ?_)
  rw [lN_i, nm_1] at e8
  have z8 : FZ y X8 := by rw [e8]; exact zB.to hs (sZ.of (fun _ _ => rfl) (fun _ => rfl))
  have m8 : MsC y X8 S (msF f S) := by rw [e8]; exact mB.x (gi_ne (by omega)) rfl
  refine S_number (p := 5) (n := 2) hs z8 hF m8 (by omega) (by omega) (fun X10 e10 X11 e11 => ?_)
  rw [lN_i] at e10
  rw [e11, e10, e8]
  exact k
/-- the reference's -/
def tkM (y : LYT) (m : GS) (S : Nat) (f : Nat → Nat) : GS := aw (si m 95 (y 1 0) (nI S)) (y 30 94) (fun k => if k < S then nI (f k) else ai m (y 30 94) k)
def tkN (y : LYT) (m : GS) (c S n : Nat) (f : Nat → Nat) : GS := aw (ais (tkM y m S f) (y 30 80) c (nI (n - S))) (y 30 79) (fun k => if 160 * c ≤ k ∧ k < 160 * c + (n - S) then nI (f (S + (k - 160 * c))) else ai m (y 30 79) k)
theorem tkM_x : xM y m (tkM y m S f) := (xM.rf.si (f := 95)).aw (k := 94)
theorem tkN_l : lM y (tkM y m S f) (tkN y m c S n f) := (lM.rf.ais (f := 80)).aw (f := 79)
theorem M_taken (hs : SH t y) (hm : FZ y m) (hc : c < 2) (v : LkV y G m c n o z f h) (h7 : 7 ≤ S) (hSz : S ≤ z) (hSn : S ≤ n) {K : GS → Prop} {r2 : Int32 → Int32 → GS → Prop} {l2 : Int32} (k : w_M_reply t (tkN y m c S n f) (y 1 0) (nI c) (fun G2 => ∀ v3 : Int32, v3 = (l2 + (1 : Int32)) → r2 (nI c) v3 G2)) : ∃ q, w_M_serve_182 t (y 1 0) K r2 q (nI c) l2 (0 : Int32) (si m 95 (y 1 0) (nI S)) := by
  obtain ⟨n1, o1, z1, z2, e56, e80, bc, bm, e58, e82, oc, om, e59, e83, -⟩ := v
  have e160 : ∀ i, (160 : Int32) * nI c + nI i = nI (160 * c + i) := fun i => by rw [show (160 : Int32) = nI 160 from rfl, pk_mul, nI_add]
  have n94 : y 30 94 ≠ y 30 80 := hs.ne (by omega)
  have n79 : y 30 79 ≠ y 30 80 := hs.ne (by omega)
  have n9479 : y 30 94 ≠ y 30 79 := hs.ne (by omega)
  -- the rest moves down
  have rest : ∃ q, w_M_serve_233 t (y 1 0) K r2 q (nI c) l2 (0 : Int32) (ais (tkM y m S f) (y 30 80) c (nI (n - S))) := by
    obtain ⟨X, eX⟩ : ∃ X, X = ais (tkM y m S f) (y 30 80) c (nI (n - S)) := ⟨_, rfl⟩
    have hX : FZ y X := by rw [eX]; exact hm.to hs (sZ.of (fun _ _ => rfl) (fun _ => rfl))
    have x79 : ai X (y 30 79) = ai m (y 30 79) := by
      rw [eX, ai_nb n79]
      exact aw_ne n9479.symm
    have x80 : ai X (y 30 80) c = nI (n - S) := by rw [eX]; exact ai_at
    have x95 : gi X 95 (y 1 0) = nI S := by rw [eX]; exact gi_at
    rw [← eX]
    have key := pk_loop (fun q i (_ : Unit) => w_M_serve_233 t (y 1 0) K r2 q (nI c) l2 (nI i) (aw X (y 30 79) (fun k => if 160 * c ≤ k ∧ k < 160 * c + i then nI (f (S + (k - 160 * c))) else ai m (y 30 79) k))) (fun _ _ => True) (n - S) 0 () (by omega) trivial (fun q _ _ => ?_) (fun q i _ hi _ ih => ?_)
    · obtain ⟨q, hq⟩ := key
      refine ⟨q, ?_⟩
      have hq : w_M_serve_233 t (y 1 0) K r2 q (nI c) l2 (nI 0) (aw X (y 30 79) (fun k => if 160 * c ≤ k ∧ k < 160 * c + 0 then nI (f (S + (k - 160 * c))) else ai m (y 30 79) k)) := hq
      have e0 : (fun k => if 160 * c ≤ k ∧ k < 160 * c + 0 then nI (f (S + (k - 160 * c))) else ai m (y 30 79) k) = ai X (y 30 79) := by rw [x79]; exact funext fun k => if_neg (by omega)
      rw [e0, aw_self] at hq
      exact hq
    · have hY : FZ y (aw X (y 30 79) (fun k => if 160 * c ≤ k ∧ k < 160 * c + (n - S) then nI (f (S + (k - 160 * c))) else ai m (y 30 79) k)) := hX.to hs (sZ.of (fun _ _ => rfl) (fun _ => rfl))
      refine ⟨hs.k 1 0, y 30 80, hY.m 80, hs.k 30 80, by rw [hs.n 30 80]; exact vp_lt (N := 2) hc, ?_⟩
      rw [aw_ne n79.symm, nI_clamp (by omega), x80]
      refine iT (Int32.le_refl _) ?_
      have e : aw X (y 30 79) (fun k => if 160 * c ≤ k ∧ k < 160 * c + (n - S) then nI (f (S + (k - 160 * c))) else ai m (y 30 79) k) = tkN y m c S n f := by rw [eX]; rfl
      rw [e]; exact k
    · have hY : FZ y (aw X (y 30 79) (fun k => if 160 * c ≤ k ∧ k < 160 * c + i then nI (f (S + (k - 160 * c))) else ai m (y 30 79) k)) := hX.to hs (sZ.of (fun _ _ => rfl) (fun _ => rfl))
      refine ⟨hs.k 1 0, y 30 80, hY.m 80, hs.k 30 80, by rw [hs.n 30 80]; exact vp_lt (N := 2) hc, ?_⟩
      have g95 : gi (aw X (y 30 79) (fun k => if 160 * c ≤ k ∧ k < 160 * c + i then nI (f (S + (k - 160 * c))) else ai m (y 30 79) k)) 95 (y 1 0) = nI S := x95
      rw [aw_ne n79.symm, nI_clamp (by omega), x80, g95, e160, e160, nI_add]
      refine iF (nI_ge hi (by omega)) ⟨y 30 79, hY.m 79, hs.k 30 79, by rw [hs.n 30 79]; exact vp_lt (N := 320) (by omega), by rw [hs.n 30 79]; exact vp_lt (N := 320) (by omega), fun Z eZ v6 e6 => ?_⟩
      rw [nI_clamp (by omega), nI_clamp (by omega), aw_at, aw_ais] at eZ
      rw [nI_1] at e6
      rw [e6, eZ]
      have e1 : (fun k => if k = 160 * c + i then (if 160 * c ≤ 160 * c + S + i ∧ 160 * c + S + i < 160 * c + i then nI (f (S + (160 * c + S + i - 160 * c))) else ai m (y 30 79) (160 * c + S + i)) else if 160 * c ≤ k ∧ k < 160 * c + i then nI (f (S + (k - 160 * c))) else ai m (y 30 79) k) = (fun k => if 160 * c ≤ k ∧ k < 160 * c + (i + 1) then nI (f (S + (k - 160 * c))) else ai m (y 30 79) k) := funext fun k => by
        by_cases q : k = 160 * c + i
        · rw [if_pos q, if_neg (by omega), if_pos (by omega), show 160 * c + S + i = 160 * c + (S + i) by omega, (bm (S + i) (by omega)).2, show S + (k - 160 * c) = S + i by omega]
        · rw [if_neg q]
          by_cases q2 : 160 * c ≤ k ∧ k < 160 * c + i
          · rw [if_pos q2, if_pos (by omega)]
          · rw [if_neg q2, if_neg (by omega)]
      have := ih () trivial
      rw [← e1] at this
      exact this
  have key := pk_loop (fun q i (_ : Unit) => w_M_serve_182 t (y 1 0) K r2 q (nI c) l2 (nI i) (aw (si m 95 (y 1 0) (nI S)) (y 30 94) (fun k => if k < i then nI (f k) else ai m (y 30 94) k))) (fun _ _ => True) S 0 () (by omega) trivial (fun q _ _ => ?_) (fun q i _ hi _ ih => ?_)
  · obtain ⟨q, hq⟩ := key
    refine ⟨q, ?_⟩
    have hq : w_M_serve_182 t (y 1 0) K r2 q (nI c) l2 (nI 0) (aw (si m 95 (y 1 0) (nI S)) (y 30 94) (fun k => if k < 0 then nI (f k) else ai m (y 30 94) k)) := hq
    have e0 : (fun k => if k < 0 then nI (f k) else ai m (y 30 94) k) = ai (si m 95 (y 1 0) (nI S)) (y 30 94) := funext fun k => if_neg (by omega)
    rw [e0, aw_self] at hq
    exact hq
  · have hY : FZ y (tkM y m S f) := tkM_x.z hs hm
    refine ⟨hs.k 1 0, ?_⟩
    show if gi (tkM y m S f) 95 (y 1 0) ≤ nI S then _ else _
    have g95 : gi (tkM y m S f) 95 (y 1 0) = nI S := gi_at
    rw [g95]
    refine iT (Int32.le_refl _) ⟨y 30 80, hY.m 80, hs.k 30 80, by rw [hs.n 30 80]; exact vp_lt (N := 2) hc, fun X eX => ?_⟩
    have a80 : ai (tkM y m S f) (y 30 80) c = nI n := by
      show ai (aw _ (y 30 94) _) (y 30 80) c = _
      rw [aw_ne n94.symm]; exact e80
    have eX : X = ais (tkM y m S f) (y 30 80) c (nI (n - S)) := by
      rw [eX, nI_clamp (by omega)]
      show ais (tkM y m S f) (y 30 80) c (ai (tkM y m S f) (y 30 80) c - gi (tkM y m S f) 95 (y 1 0)) = _
      rw [a80, g95, pk_sub hSn]
    rw [eX]
    exact rest
  · have hY : FZ y (aw (si m 95 (y 1 0) (nI S)) (y 30 94) (fun k => if k < i then nI (f k) else ai m (y 30 94) k)) := hm.to hs (sZ.of (fun _ _ => rfl) (fun _ => rfl))
    refine ⟨hs.k 1 0, ?_⟩
    have g95 : gi (aw (si m 95 (y 1 0) (nI S)) (y 30 94) (fun k => if k < i then nI (f k) else ai m (y 30 94) k)) 95 (y 1 0) = nI S := gi_at
    rw [g95, e160]
    refine iF (nI_ge hi (by omega)) ⟨y 30 79, hY.m 79, hs.k 30 79, by rw [hs.n 30 79]; exact vp_lt (N := 320) (by omega), y 30 94, hY.m 94, hs.k 30 94, by rw [hs.n 30 94]; exact vp_lt (N := 128) (by omega), fun Z eZ v6 e6 => ?_⟩
    rw [nI_clamp (by omega), nI_clamp (by omega), aw_ne n9479.symm, aw_ais] at eZ
    have e79 : ai (si m 95 (y 1 0) (nI S)) (y 30 79) (160 * c + i) = nI (f i) := (bm i (by omega)).2
    rw [e79] at eZ
    rw [nI_1] at e6
    rw [e6, eZ]
    have e1 : (fun k => if k = i then nI (f i) else if k < i then nI (f k) else ai m (y 30 94) k) = (fun k => if k < i + 1 then nI (f k) else ai m (y 30 94) k) := funext fun k => by
      by_cases q : k = i
      · rw [if_pos q, if_pos (by omega), q]
      · rw [if_neg q]
        by_cases q2 : k < i
        · rw [if_pos q2, if_pos (by omega)]
        · rw [if_neg q2, if_neg (by omega)]
    rw [e1]
    exact ih () trivial
end TKG
