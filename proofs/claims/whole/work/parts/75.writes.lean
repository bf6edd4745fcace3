/-! what is written: bytes copied, room, what stands ready (by hand) -/
theorem ltS : ∀ a, a < 25 → ∀ b, b < 8 → ∀ c, c < 21 → (lN a < lN b - lN c ↔ a + c < b) := by decide +kernel
theorem neg64 : ∀ w, w < 128 → 64 < w → (64 : Int64) - lN w < 0 := by decide +kernel
theorem le64 {o w : Nat} (ho : o < 2 ^ 63) (hw : w < 128) : lN o ≤ (64 : Int64) - lN w ↔ o + w ≤ 64 := by
  by_cases q : w ≤ 64
  · rw [show (64 : Int64) = lN 64 from rfl, lN_sub q, pk_lLE ho (by omega)]; omega
  · have n := neg64 w hw (by omega)
    refine ⟨fun h => ?_, fun h => by omega⟩
    rw [Int64.lt_iff_toInt_lt] at n
    rw [Int64.le_iff_toInt_le, pk_lT ho] at h
    have h0 : (0 : Int64).toInt = 0 := by decide
    omega
section WRT
variable {t : TY} {y : LYT} {G m : GS} {T : Nat → Int32} {n np z d u l0 : Nat} {r s f : Nat → Nat} {tm : Int32}
/-- bytes of the message into the change -/
theorem S_copy (hs : SH t y) (hz : FZ y G) (hf : MsF z f) (h : MsC y G z f) {p w q N : Nat} (hq : q = 17 ∨ q = 18) (hN : yL q 0 = N) (hw : w ≤ N) (hN2 : N ≤ 64) (hp : p ≤ 1000000) {K : GS → Int32 → Prop} (k : K (aw G (y q 0) (fun i => if i < w then sb (f (p + i)) else ai G (y q 0) i)) (nI w)) : w_Message_copyBytes t G (y 8 0) (nI p) (nI w) (y q 0) K := by
  have hv : yV q 0 = true := by rcases hq with rfl | rfl <;> rfl
  have hk : tk t (y q 0) = 51 := (hs.k q 0 hv).trans (by rcases hq with rfl | rfl <;> rfl)
  have hn : tn t (y q 0) = N := (hs.n q 0 hv).trans hN
  refine ⟨hk, fun v1 e1 => ?_⟩
  have e1 : v1 = nI w := by
    rw [e1, hn]; unfold imin
    rw [if_neg (nI_nlt hw (by omega))]
  subst e1
  have key := pk_loop (fun x i (_ : Unit) => w_Message_copyBytes_11 t (y 8 0) K x (nI p) (y q 0) (nI w) (nI i) (aw G (y q 0) (fun k => if k < i then sb (f (p + k)) else ai G (y q 0) k))) (fun _ _ => True) w 0 () (by omega) trivial (fun x _ _ => iT (Int32.le_refl _) k) (fun x i _ hi _ ih => ?_)
  · obtain ⟨x, hx⟩ := key
    refine ⟨x, ?_⟩
    have e0 : (fun k => if k < 0 then sb (f (p + k)) else ai G (y q 0) k) = ai G (y q 0) := funext fun k => if_neg (by omega)
    have hx : w_Message_copyBytes_11 t (y 8 0) K x (nI p) (y q 0) (nI w) (nI 0) (aw G (y q 0) (fun k => if k < 0 then sb (f (p + k)) else ai G (y q 0) k)) := hx
    rw [e0, aw_self] at hx
    exact hx
  · have hzX : FZ y (aw G (y q 0) (fun k => if k < i then sb (f (p + k)) else ai G (y q 0) k)) := hz.to hs (sZ.of (fun _ _ => rfl) (fun _ => rfl))
    have mX : MsC y (aw G (y q 0) (fun k => if k < i then sb (f (p + k)) else ai G (y q 0) k)) z f := h.x rfl (aw_ne (hs.ne (by omega) rfl hv))
    refine iF (nI_ge hi (by omega)) ⟨hs.k 8 0, ?_⟩
    rw [nI_add]
    refine S_number (n := 1) hs hzX hf mX (by omega) (by omega) ⟨hk, by rw [hn]; exact vp_lt (by omega) (by omega), ?_⟩
    intro G2 e2 v3 e3
    rw [nm_1, nI_clamp (by omega), lN_i] at e2
    have e4 : vp_nar .byte (nI (f (p + i))).toInt8.toInt32 = sb (f (p + i)) := nb_sb (f (p + i))
    rw [e4, aw_ais] at e2
    rw [nI_1] at e3
    subst e2 e3
    have e5 : (fun k => if k = i then sb (f (p + i)) else if k < i then sb (f (p + k)) else ai G (y q 0) k) = (fun k => if k < i + 1 then sb (f (p + k)) else ai G (y q 0) k) := funext fun k => by
      by_cases w1 : k = i
      · rw [if_pos w1, if_pos (by omega), w1]
      · rw [if_neg w1]
        by_cases w2 : k < i
        · rw [if_pos w2, if_pos (by omega)]
        · rw [if_neg w2, if_neg (by omega)]
    rw [e5]
    exact ih () trivial
/-- is there room for so much content -/
theorem S_room (h : TrR t y G T n r s np) (hb : np < 2 ^ 31) (hs : SH t y) (hz : FZ y G) (hd : lvN n r d) (hn : ¬ gi G 2 (y 5 d) < 0) (hl0 : l0 ≤ 64) (e12 : gi G 12 (y 5 d) = nI l0) {q : Nat} (hq : q < 2 ^ 62) {K : Int32 → Prop} (k1 : q ≤ 64 → tBl y G n r + (q + 15) / 16 ≤ 24 + (l0 + 15) / 16 → K 1) (k0 : ¬ (q ≤ 64 ∧ tBl y G n r + (q + 15) / 16 ≤ 24 + (l0 + 15) / 16) → K 0) : w_Tree_hasRoomForContent t G (y 2 0) (y 5 d) (lN q) K := by
  have hd20 := h.le hd
  have b24 := h.b24
  by_cases w : q ≤ 64
  · refine iT ((pk_lLE (b := 64) (by omega) (by decide)).mpr w) ⟨hs.k 5 d (by simp [yV]; omega), S_blocks hs (by omega) ?_⟩
    rw [if_neg hn, e12, show (15 : Int32) = nI 15 from rfl, show (16 : Int32) = nI 16 from rfl, nI_add, pk_div (by omega) (by omega) (by omega)]
    intro v2 e2
    rw [show (15 : Int64) = lN 15 from rfl, show (16 : Int64) = lN 16 from rfl, lN_add, pk_lDiv (by omega) (by omega) (by omega), nI_l (by omega)] at e2
    subst e2
    refine ⟨hs.k 2 0, h.spare hb hs hz ?_⟩
    rw [pk_sub b24, nI_l (by omega)]
    have := ltS (24 - tBl y G n r) (by omega) ((q + 15) / 16) (by omega) ((l0 + 15) / 16) (by omega)
    by_cases w2 : 24 - tBl y G n r + (l0 + 15) / 16 < (q + 15) / 16
    · exact iT (this.mpr w2) (k0 fun x => by omega)
    · exact iF (fun x => w2 (this.mp x)) (k1 w (by omega))
  · exact iF (fun x => w ((pk_lLE (b := 64) (by omega) (by decide)).mp x)) (k0 fun x => w x.1)
/-- the cells of a written content -/
def wrB (T : Nat → Int32) (c l0 o w : Nat) (g : Nat → Nat) : Nat → Int32 := fun k => if o ≤ k ∧ k < o + w then nI (g (k - o)) else if l0 ≤ k ∧ k < o then 0 else T (83 * c + 19 + k)
def mxL (a b : Nat) : Nat := if a < b then b else a
/-- a written content stands ready -/
theorem stg_wr (h : TrR t y G T n r s np) (hb : np < 2 ^ 31) (hs : SH t y) (hd : lvN n r d) (hu : u < 3) (k21 : gr G 21 (y 4 0) = some (tad t 4)) (c : CH t y G d u tm) (hl0 : l0 ≤ 64) (e12 : gi G 12 (y 5 d) = nI l0) {o w : Nat} {g : Nat → Nat} (e34 : gi G 34 (y 4 0) = nI o) (e35 : gi G 35 (y 4 0) = nI w) (how : o + w ≤ 64) (hg : ∀ k, k < w → g k < 256 ∧ ai G (y 18 0) k = sb (g k)) (hn : ¬ gi G 2 (y 5 d) < 0) (hr : tBl y G n r + (mxL l0 (o + w) + 15) / 16 ≤ 24 + (l0 + 15) / 16) : Stg t y G (cG (ctT T (s d) (mxL l0 (o + w)) (wrB T (s d) l0 o w g)) (s d) tm u) n r np np := by
  intro G1 a hz
  have h1 := h.to a.1
  have gI : ∀ f b, 21 ≤ f → f ≤ 35 → gi G1 f b = gi G f b := fun f b q1 q2 => (a.2.1 f b q1 q2).1
  have gR : ∀ f b, 21 ≤ f → f ≤ 35 → gr G1 f b = gr G f b := fun f b q1 q2 => (a.2.1 f b q1 q2).2
  have tI : ∀ f b, f ≤ 16 → gi G1 f b = gi G f b := fun f b q => (a.1.1 f b q).1
  have tb : tBl y G1 n r = tBl y G n r := tBl_eq (fun b => by rw [tI 2 b (by omega)]) (fun b => (a.1.1 7 b (by omega)).2) (fun b => tI 12 b (by omega))
  have c1 : CH t y G1 d u tm := ⟨(gR _ _ (by omega) (by omega)).trans c.1, (gR _ _ (by omega) (by omega)).trans c.2.1, (gI _ _ (by omega) (by omega)).trans c.2.2⟩
  have hd20 := h.le hd
  have hv7 : yV 7 d = true := by simp [yV]; omega
  have e12' : gi G1 12 (y 5 d) = nI l0 := (tI _ _ (by omega)).trans e12
  have hn' : ¬ gi G1 2 (y 5 d) < 0 := by rw [tI 2 _ (by omega)]; exact hn
  have a18 : ai G1 (y 18 0) = ai G (y 18 0) := a.2.2.2
  have hL : mxL l0 (o + w) ≤ 64 := by unfold mxL; split <;> omega
  obtain ⟨la, x1, x2, x3⟩ := h1.2.2.2.2.2.2.2.2.2.2.2.2.2.2.2.2 d hd20
  obtain ⟨-, -, -, -, -, -, -, -, -, ⟨l2, g2, w1, w2, w3, w4, w5⟩⟩ := (h1.nd hd).2.2
  have e2 : l2 = la := (nI_eq (by omega) (by omega)).mp (w2.symm.trans x2)
  have e3 : la = l0 := (nI_eq (by omega) (by omega)).mp (x2.symm.trans e12')
  subst e2
  subst e3
  have tct := h1.tct hs hd hn' (A := va_cpy (ai G1 (y 18 0)) (ai G1 (y 7 d)) 0 o w) hL hl0 e12'
  have hct := h1.ct hb hs hd (l := mxL l2 (o + w)) (A := va_cpy (ai G1 (y 18 0)) (ai G1 (y 7 d)) 0 o w) (B := wrB T (s d) l2 o w g) hL (fun k hk => by
    unfold wrB
    by_cases q : o ≤ k ∧ k < o + w
    · rw [pk_cpy_in q.1 q.2, if_pos q, a18, Nat.zero_add]
      have := hg (k - o) (by omega)
      exact ⟨g (k - o), this.1, this.2, rfl⟩
    · rw [pk_cpy_out (by omega), if_neg q]
      by_cases q2 : k < l2
      · rw [if_neg (by omega)]
        exact ⟨g2 k, (w4 k q2).1, (w4 k q2).2, w5 k q2⟩
      · have : k < o := by unfold mxL at hk; split at hk <;> omega
        rw [if_pos (by omega)]
        exact ⟨0, by omega, x3 k (by omega) (by omega), rfl⟩) (fun k q1 q2 => by
    have : l2 ≤ k ∧ o + w ≤ k := by unfold mxL at q1; split at q1 <;> omega
    rw [pk_cpy_out (by omega)]
    exact x3 k this.1 q2) (by rw [tb] at tct; omega)
  have hch := hct.chg (tm := tm) hb hs hd hu
  have f1 : frT y G1 (ctC y G1 d (mxL l2 (o + w)) (va_cpy (ai G1 (y 18 0)) (ai G1 (y 7 d)) 0 o w)) := (frT.aw7 (by omega)).tr (frT.si (by omega))
  refine ⟨_, ⟨f1.tr (frT.ch (a := y 5 d) (ou := some (tad t u)) (tm := tm)), n, r, s, hch, Or.inl rfl, fun j p hj hp e => ?_⟩, fun K hK => ?_⟩
  · rw [chB_i (by omega) (by omega)] at e
    have : gi (ctC y G1 d (mxL l2 (o + w)) (va_cpy (ai G1 (y 18 0)) (ai G1 (y 7 d)) 0 o w)) 0 (y 5 j) = gi G1 0 (y 5 j) := gi_ne (by omega)
    rw [this] at e
    refine ⟨e, fun w => w, fun w => w, fun w' => ?_⟩
    rw [chB_i (by omega) (by omega)] at w'
    have : gi (ctC y G1 d (mxL l2 (o + w)) (va_cpy (ai G1 (y 18 0)) (ai G1 (y 7 d)) 0 o w)) 2 (y 5 j) = gi G1 2 (y 5 j) := gi_ne (by omega)
    rw [this] at w'; exact w'
  · have g21 : gr G1 21 (y 4 0) = some (tad t 4) := (gR _ _ (by omega) (by omega)).trans k21
    have hvd : tk t (y 5 d) = 1 := hs.k 5 d (by simp [yV]; omega)
    refine ⟨hs.k 4 0, iT (by rw [c1.1]; simp) (iT (by rw [g21]; exact tdK hs (i := 1) (j := 0) (by omega) (by omega) (by omega)) (iF (fun w => w g21) ⟨y 5 d, c1.1, hvd, y 18 0, hz.2.1.2.2.2, hvd, y 7 d, (hz.2.2.2.1 d (by omega)).2, hs.k 18 0, hs.k 7 d hv7, ?_, ?_⟩))⟩
    · rw [gI _ _ (by omega) (by omega), gI _ _ (by omega) (by omega), e34, e35, hs.n 18 0, hs.n 7 d hv7]
      refine ⟨by decide, nI_pos (by omega), nI_pos (by omega), ?_, ?_⟩
      · rw [nI_clamp (by omega)]; show 0 + w ≤ 64; omega
      · rw [nI_clamp (by omega), nI_clamp (by omega)]; show o + w ≤ 64; omega
    · intro G2 eG2 G3 eG3
      rw [gI _ _ (by omega) (by omega), gI _ _ (by omega) (by omega), e34, e35] at eG2
      rw [gI _ _ (by omega) (by omega), gI _ _ (by omega) (by omega), e34, e35] at eG3
      have eG2 : G2 = aw G1 (y 7 d) (va_cpy (ai G1 (y 18 0)) (ai G1 (y 7 d)) 0 o w) := by
        rw [eG2]; unfold acB
        rw [nI_clamp (by omega), nI_clamp (by omega)]; rfl
      have e12'' : gi G2 12 (y 5 d) = nI l2 := by rw [eG2]; exact e12'
      have emx : imax (nI l2) (nI o + nI w) = nI (mxL l2 (o + w)) := by
        unfold imax mxL
        rw [nI_add]
        by_cases q : l2 < o + w
        · rw [if_pos (nI_lt q (by omega)), if_pos q]
        · rw [if_neg (nI_nlt (by omega) (by omega)), if_neg q]
      rw [e12'', emx, eG2] at eG3
      subst eG3
      have c' := c1.fr f1
      refine ⟨y 5 d, c'.1, hvd, ?_⟩
      have r23 : gr (si (aw G1 (y 7 d) (va_cpy (ai G1 (y 18 0)) (ai G1 (y 7 d)) 0 o w)) 12 (y 5 d) (nI (mxL l2 (o + w)))) 23 (y 4 0) = some (tad t u) := c'.2.1
      have r24 : gi (si (aw G1 (y 7 d) (va_cpy (ai G1 (y 18 0)) (ai G1 (y 7 d)) 0 o w)) 12 (y 5 d) (nI (mxL l2 (o + w)))) 24 (y 4 0) = tm := c'.2.2
      rw [r23, r24]
      exact S_changeBy hs (by omega) hK
end WRT
