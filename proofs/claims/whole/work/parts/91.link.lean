/-! the connections' bytes (by hand) -/
/-- a connection, its numbers and bytes named -/
def LkV (y : LYT) (G m : GS) (c n o z : Nat) (f h : Nat → Nat) : Prop := n ≤ 160 ∧ o ≤ 256 ∧ 96 ≤ z ∧ z ≤ 128
  ∧ gi G 56 (y 10 c) = nI n ∧ ai m (y 30 80) c = nI n ∧ bC G (y 11 c) n f ∧ bM m (y 30 79) (160 * c) n f
  ∧ gi G 58 (y 10 c) = nI o ∧ ai m (y 30 82) c = nI o ∧ bC G (y 12 c) o h ∧ bM m (y 30 81) (256 * c) o h
  ∧ gi G 59 (y 10 c) = nI z ∧ ai m (y 30 83) c = nI z
  ∧ isB (gi G 60 (y 10 c)) ∧ ai m (y 30 84) c = gi G 60 (y 10 c) ∧ isB (gi G 61 (y 10 c)) ∧ ai m (y 30 85) c = gi G 61 (y 10 c)
  ∧ (gi G 61 (y 10 c) = 1 → n = 0 ∧ o = 0) ∧ (gi G 19 (y 3 0) = 0 → n = 0 ∧ o = 0 ∧ gi G 61 (y 10 c) = 0)
theorem ais_self {G : GS} {a i : Nat} {x : Int32} (h : ai G a i = x) : ais G a i x = G := by
  have e : ais G a i x = aw G a (fun k => if k = i then x else ai G a k) := by rw [← aw_ais, aw_self]
  rw [e]
  have : (fun k => if k = i then x else ai G a k) = ai G a := funext fun k => by
    by_cases q : k = i
    · rw [if_pos q, q, h]
    · rw [if_neg q]
  rw [this, aw_self]
section LNK
variable {t : TY} {y : LYT} {b c n o z : Nat} {f h : Nat → Nat} {G G' m m' : GS}
theorem LkR.v (q : LkR y G m c) : ∃ n o z f h, LkV y G m c n o z f h := q
theorem LkV.r (q : LkV y G m c n o z f h) : LkR y G m c := ⟨n, o, z, f, h, q⟩
theorem nm4 : nm f 0 4 = f 0 + f 1 * 256 + f 2 * 65536 + f 3 * 16777216 := by
  show (((0 * 256 + f 3) * 256 + f 2) * 256 + f 1) * 256 + f 0 = _
  omega
theorem S_first (hs : SH t y) (hz : FZ y G) (hc : c < 2) (hb : ∀ k, k < 4 → f k < 256 ∧ ai G (y 11 c) k = sb (f k)) {K : Int64 → Prop} (k : K (lN (nm f 0 4))) : w_Link_firstSize t G (y 10 c) K := by
  have hv : yV 10 c = true := by simp [yV, hc]
  have hv1 : yV 11 c = true := by simp [yV, hc]
  have h0 := hb 0 (by omega)
  have h1 := hb 1 (by omega)
  have h2 := hb 2 (by omega)
  have h3 := hb 3 (by omega)
  have vi : ∀ i, i < 4 → vp_in (nI i) (tn t (y 11 c)) := fun i hi => by rw [hs.n 11 c hv1]; exact vp_lt (N := 160) (by omega)
  refine ⟨hs.k 10 c hv, y 11 c, (hz.2.2.2.2.1 c hc).1, hs.k 11 c hv1, vi 0 (by omega), vi 1 (by omega), vi 2 (by omega), vi 3 (by omega), ?_⟩
  have e : (((((ai G (y 11 c) 0).toInt64 &&& (255 : Int64)) ||| (((ai G (y 11 c) 1).toInt64 &&& (255 : Int64)) <<< ((8 : Int32).toInt64 &&& 63))) ||| (((ai G (y 11 c) 2).toInt64 &&& (255 : Int64)) <<< ((16 : Int32).toInt64 &&& 63))) ||| (((ai G (y 11 c) 3).toInt64 &&& (255 : Int64)) <<< ((24 : Int32).toInt64 &&& 63))) = lN (nm f 0 4) := by
    rw [h0.2, h1.2, h2.2, h3.2, sb_andl _ h0.1, sb_andl _ h1.1, sb_andl _ h2.1, sb_andl _ h3.1]
    have e8 : lN (f 1) <<< ((8 : Int32).toInt64 &&& 63) = lN (f 1 * 256) := wb_shl (f 1) (k := 8) (by decide)
    have e16 : lN (f 2) <<< ((16 : Int32).toInt64 &&& 63) = lN (f 2 * 65536) := wb_shl (f 2) (k := 16) (by decide)
    have e24 : lN (f 3) <<< ((24 : Int32).toInt64 &&& 63) = lN (f 3 * 16777216) := wb_shl (f 3) (k := 24) (by decide)
    rw [e8, e16, e24, g_or' (k := 8) rfl h0.1 (by omega), g_or' (k := 16) (p := 65536) rfl (by omega) (by omega), g_or' (k := 24) (p := 16777216) rfl (by omega) (by omega), nm4]
  have k' := k
  rw [← e] at k'
  exact k'
/-- the reference's first look -/
theorem M_first0 (hs : SH t y) (hm : FZ y m) (hc : c < 2) (e : ai m (y 30 80) c = nI n) (hn : n < 4) {K : GS → Prop} {r2 : Int32 → Int32 → GS → Prop} {l2 : Int32} (k : w_M_serve_70 t (y 1 0) K r2 (nI c) l2 0 m) : ∃ q, w_M_serve_29 t (y 1 0) K r2 q (nI c) l2 (0 : Int64) (3 : Int32) m := by
  refine ⟨1, ?_⟩
  unfold w_M_serve_29
  refine iF (by decide) ⟨hs.k 1 0, y 30 80, hm.m 80, hs.k 30 80, by rw [hs.n 30 80]; exact vp_lt (N := 2) hc, ?_⟩
  rw [nI_clamp (by omega), e]
  exact iT (nI_le (b := 3) (by omega) (by decide)) k
theorem M_first (hs : SH t y) (hm : FZ y m) (hc : c < 2) (e : ai m (y 30 80) c = nI n) (hn : 4 ≤ n) (hn2 : n ≤ 160) (hb : bM m (y 30 79) (160 * c) n f) {K : GS → Prop} {r2 : Int32 → Int32 → GS → Prop} {l2 : Int32} (k : w_M_serve_70 t (y 1 0) K r2 (nI c) l2 (lN (nm f 0 4)) m) : ∃ q, w_M_serve_29 t (y 1 0) K r2 q (nI c) l2 (0 : Int64) (3 : Int32) m := by
  have step : ∀ i, i < 4 → ∀ q, w_M_serve_29 t (y 1 0) K r2 q (nI c) l2 (lN (nm f i (4 - i))) (nI i + (-1)) m → w_M_serve_29 t (y 1 0) K r2 (q + 1) (nI c) l2 (lN (nm f (i + 1) (4 - (i + 1)))) (nI i) m := fun i hi q h => by
    have e160 : (160 : Int32) * nI c + nI i = nI (160 * c + i) := by rw [show (160 : Int32) = nI 160 from rfl, pk_mul, nI_add]
    refine iF (nI_pos (by omega)) ⟨hs.k 1 0, y 30 80, hm.m 80, hs.k 30 80, by rw [hs.n 30 80]; exact vp_lt (N := 2) hc, ?_⟩
    rw [nI_clamp (by omega), e]
    refine iF (nI_ge (a := 3) (by omega) (by omega)) ⟨y 30 79, hm.m 79, hs.k 30 79, by rw [hs.n 30 79, e160]; exact vp_lt (N := 320) (by omega), ?_⟩
    rw [e160, nI_clamp (by omega), (hb i (by omega)).2, nI_l (by have := (hb i (by omega)).1; omega)]
    intro v3 e3 v4 e4
    have b1 : ∀ j, j < 4 → f j < 256 := fun j hj => (hb j (by omega)).1
    have e5 : nm f i (4 - i) = nm f (i + 1) (4 - (i + 1)) * 256 + f i := by rw [show 4 - i = 4 - (i + 1) + 1 by omega]; rfl
    have hlt : nm f (i + 1) (4 - (i + 1)) * 256 + f i < 2 ^ 64 := by
      rw [← e5]
      have : nm f i (4 - i) = nm (fun k => if k < 4 then f k else 0) i (4 - i) := nm_eq (fun k h1 h2 => by rw [if_pos (by omega)])
      rw [this]
      exact nm_l (fun k => by
        show (if k < 4 then f k else 0) < 256
        split
        · exact b1 k (by omega)
        · omega) (by omega)
    rw [sh8 (b1 i hi) hlt, ← e5] at e3
    rw [e3, e4]
    exact h
  refine ⟨5, ?_⟩
  have s3 := step 3 (by omega) 4
  have s2 := step 2 (by omega) 3
  have s1 := step 1 (by omega) 2
  have s0 := step 0 (by omega) 1
  refine s3 (s2 (s1 (s0 ?_)))
  unfold w_M_serve_29
  exact iT (by decide) k
/-- the class's look for a wrong size -/
theorem S_sized (hs : SH t y) (hz : FZ y G) (hc : c < 2) (v : LkV y G m c n o z f h) {K : GS → Prop} (h1 : n < 4 ∨ (7 ≤ nm f 0 4 ∧ nm f 0 4 ≤ z)) (k : K G) : w_S_breakIfMissized t G (y 0 0) (y 10 c) K := by
  have hv : yV 10 c = true := by simp [yV, hc]
  obtain ⟨n1, o1, z1, z2, e56, e80, bc, bm, e58, e82, oc, om, e59, e83, -⟩ := v
  refine ⟨hs.k 10 c hv, hs.k 10 c hv, ?_⟩
  rw [e56]
  by_cases q : n < 4
  · exact iT (nI_lt (b := 4) q (by decide)) (iF (by simp) k)
  · have h1 : 7 ≤ nm f 0 4 ∧ nm f 0 4 ≤ z := by rcases h1 with w | w; exact absurd w q; exact w
    refine iF (nI_nlt (b := 4) (by omega) (by omega)) (S_first hs hz hc (fun i hi => bc i (by omega)) (iF (fun w => ?_) (S_first hs hz hc (fun i hi => bc i (by omega)) ?_)))
    · have := (pk_lLT (b := 7) (by omega) (by decide)).mp w; omega
    · rw [e59, nI_l (by omega)]
      exact iT ((pk_lLE (by omega) (by omega)).mpr h1.2) (iF (by simp) k)
theorem S_missized (hs : SH t y) (hz : FZ y G) (hc : c < 2) (v : LkV y G m c n o z f h) {K : GS → Prop} (h1 : 4 ≤ n) (h2 : ¬ (7 ≤ nm f 0 4 ∧ nm f 0 4 ≤ z)) (k : w_S_releaseAll t G (y 0 0) (y 10 c) (fun G2 => ∃ a3, (gr G2 64 (y 0 0)) = some a3 ∧ tk t a3 = 3 ∧ (if (gi G2 19 a3) = 0 then (K G2) else (w_Link_breakOff t G2 (y 10 c) (fun G4 => K G4))))) : w_S_breakIfMissized t G (y 0 0) (y 10 c) K := by
  have hv : yV 10 c = true := by simp [yV, hc]
  obtain ⟨n1, o1, z1, z2, e56, e80, bc, bm, e58, e82, oc, om, e59, e83, -⟩ := v
  have b4 : nm f 0 4 < 2 ^ 32 := by
    rw [nm4]
    have := (bc 0 (by omega)).1
    have := (bc 1 (by omega)).1
    have := (bc 2 (by omega)).1
    have := (bc 3 (by omega)).1
    omega
  refine ⟨hs.k 10 c hv, hs.k 10 c hv, ?_⟩
  rw [e56]
  refine iF (nI_nlt (b := 4) (by omega) (by omega)) (S_first hs hz hc (fun i hi => bc i (by omega)) ?_)
  by_cases q : nm f 0 4 < 7
  · exact iT ((pk_lLT (b := 7) (by omega) (by decide)).mpr q) (iT (by decide) ⟨hs.k 0 0, k⟩)
  · refine iF (fun w => q ((pk_lLT (b := 7) (by omega) (by decide)).mp w)) (S_first hs hz hc (fun i hi => bc i (by omega)) ?_)
    rw [e59, nI_l (by omega)]
    exact iF (fun w => h2 ⟨by omega, (pk_lLE (by omega) (by omega)).mp w⟩) (iT (by decide) ⟨hs.k 0 0, k⟩)
/-- a broken connection -/
def brC (y : LYT) (G : GS) (c : Nat) : GS := si (si (si G 56 (y 10 c) 0) 58 (y 10 c) 0) 61 (y 10 c) 1
def brM (y : LYT) (m : GS) (c : Nat) (v : Int32) : GS := ais (ais (ais m (y 30 85) c v) (y 30 80) c 0) (y 30 82) c 0
theorem S_breakOff (hs : SH t y) (hc : c < 2) {K : GS → Prop} (k : K (brC y G c)) : w_Link_breakOff t G (y 10 c) K := ⟨hs.k 10 c (by simp [yV, hc]), fun X eX Y eY Z eZ => by subst eX; subst eY; subst eZ; exact k⟩
theorem M_122 (hs : SH t y) (hm : FZ y m) (hc : c < 2) {v : Int32} (hv : v = 0 ∨ v = 1) {K : GS → Prop} (k : K (brM y m c v)) : w_M_serve_122 t (y 1 0) K (nI c) (gr m 85 (y 1 0)) (nI c) v m := by
  have vi : ∀ f, yV 30 f = true → yL 30 f = 2 → vp_in (nI c) (tn t (y 30 f)) := fun f h1 h2 => by rw [hs.n 30 f h1, h2]; exact vp_lt (N := 2) hc
  have nb : vp_nar .boolean v = v := by rcases hv with rfl | rfl <;> decide
  refine ⟨y 30 85, hm.m 85, hs.k 30 85, vi 85 rfl rfl, fun X eX => ?_⟩
  rw [nI_clamp (by omega), nb] at eX
  have hX : FZ y X := by rw [eX]; exact hm.to hs (sZ.of (fun _ _ => rfl) (fun _ => rfl))
  refine ⟨hs.k 1 0, y 30 80, hX.m 80, hs.k 30 80, vi 80 rfl rfl, fun Y eY => ?_⟩
  rw [nI_clamp (by omega)] at eY
  have hY : FZ y Y := by rw [eY]; exact hX.to hs (sZ.of (fun _ _ => rfl) (fun _ => rfl))
  refine ⟨y 30 82, hY.m 82, hs.k 30 82, vi 82 rfl rfl, fun Z eZ => ?_⟩
  rw [nI_clamp (by omega), eY, eX] at eZ
  rw [eZ]; exact k
/-- two connections: one changed -/
theorem InvY.lk1 (I : InvY t y b G m) (hc : c < 2) (a : lC y G G') (d : lM y m m') (hn : LkR y G' m' c) (ho : ∀ q, q < 2 → q ≠ c → (∀ f, 56 ≤ f → f ≤ 61 → gi G' f (y 10 q) = gi G f (y 10 q)) ∧ ai G' (y 11 q) = ai G (y 11 q) ∧ ai G' (y 12 q) = ai G (y 12 q) ∧ (∀ f, 79 ≤ f → f ≤ 85 → f ≠ 79 → f ≠ 81 → ai m' (y 30 f) q = ai m (y 30 f) q) ∧ (∀ k, k < 160 → ai m' (y 30 79) (160 * q + k) = ai m (y 30 79) (160 * q + k)) ∧ (∀ k, k < 256 → ai m' (y 30 81) (256 * q + k) = ai m (y 30 81) (256 * q + k))) : InvY t y b G' m' := by
  refine I.lk a d fun q hq => ?_
  by_cases e : q = c
  · rw [e]; exact hn
  · obtain ⟨w1, w2, w3, w4, w5, w6⟩ := ho q hq e
    obtain ⟨n, o, z, f, h, q1, q2, q3, q4, q5, q6, q7, q8, q9, q10, q11, q12, q13, q14, q15, q16, q17, q18, q19, q20⟩ := I.2.2.2.2.1 q hq
    have i : ∀ f, 56 ≤ f → f ≤ 61 → gi G' f (y 10 q) = gi G f (y 10 q) := w1
    refine ⟨n, o, z, f, h, q1, q2, q3, q4, by rw [i 56 (by omega) (by omega)]; exact q5, by rw [w4 80 (by omega) (by omega) (by omega) (by omega)]; exact q6, fun k hk => by rw [w2]; exact q7 k hk, fun k hk => by rw [w5 k (by omega)]; exact q8 k hk, by rw [i 58 (by omega) (by omega)]; exact q9, by rw [w4 82 (by omega) (by omega) (by omega) (by omega)]; exact q10, fun k hk => by rw [w3]; exact q11 k hk, fun k hk => by rw [w6 k (by omega)]; exact q12 k hk, by rw [i 59 (by omega) (by omega)]; exact q13, by rw [w4 83 (by omega) (by omega) (by omega) (by omega)]; exact q14, by rw [i 60 (by omega) (by omega)]; exact q15, by rw [w4 84 (by omega) (by omega) (by omega) (by omega), i 60 (by omega) (by omega)]; exact q16, by rw [i 61 (by omega) (by omega)]; exact q17, by rw [w4 85 (by omega) (by omega) (by omega) (by omega), i 61 (by omega) (by omega)]; exact q18, fun e => q19 (by rw [i 61 (by omega) (by omega)] at e; exact e), fun e => ?_⟩
    rw [a.1 19 _ (by omega)] at e
    have := q20 e
    exact ⟨this.1, this.2.1, by rw [i 61 (by omega) (by omega)]; exact this.2.2⟩
theorem brM_d (hs : SH t y) (hc : c < 2) {v : Int32} : lM y m (brM y m c v) := ((lM.rf.ais (f := 85)).ais (f := 80)).ais (f := 82)
theorem brC_c : lC y G (brC y G c) := ((lC.rf.si (f := 56)).si (f := 58)).si (f := 61)
theorem InvY.br (I : InvY t y b G m) (hc : c < 2) (hrun : gi G 19 (y 3 0) = 1) : InvY t y b (brC y G c) (brM y m c 1) := by
  have hs := I.1
  have y10 : ∀ q, q < 2 → q ≠ c → y 10 q ≠ y 10 c := fun q hq e w => e ((hs.2.1 10 q 10 c (by simp [yV, hq]) (by simp [yV, hc])).mp w).2
  have mn : ∀ f f', 79 ≤ f → f ≤ 85 → 79 ≤ f' → f' ≤ 85 → (y 30 f = y 30 f' ↔ f = f') := fun f f' h1 h2 h3 h4 => ⟨fun e => ((hs.2.1 30 f 30 f' (yV30 (by omega)) (yV30 (by omega))).mp e).2, fun e => by rw [e]⟩
  refine I.lk1 hc brC_c (brM_d hs hc) ?_ (fun q hq e => ⟨fun f h1 h2 => ?_, rfl, rfl, fun f h1 h2 _ _ => ?_, fun k hk => ?_, fun k hk => ?_⟩)
  · obtain ⟨n, o, z, f, h, q1, q2, q3, q4, q5, q6, q7, q8, q9, q10, q11, q12, q13, q14, q15, q16, q17, q18, q19, q20⟩ := I.2.2.2.2.1 c hc
    have g19 : gi (brC y G c) 19 (y 3 0) = 1 := (brC_c.1 19 _ (by omega)).trans hrun
    refine ⟨0, 0, z, f, h, by omega, by omega, q3, q4, by simp [brC, giS]; rfl, by simp [brM, aiA, mn]; rfl, fun k hk => absurd hk (by omega), fun k hk => absurd hk (by omega), by simp [brC, giS]; rfl, by simp [brM, aiA, mn]; rfl, fun k hk => absurd hk (by omega), fun k hk => absurd hk (by omega), by simp [brC, giS]; exact q13, by simp [brM, aiA, mn]; exact q14, by simp [brC, giS]; exact q15, by simp [brC, brM, giS, aiA, mn]; exact q16, by simp [brC, giS]; exact Or.inr rfl, by simp [brC, brM, giS, aiA, mn], fun _ => ⟨rfl, rfl⟩, fun e => ?_⟩
    rw [g19] at e
    exact absurd e (by decide)
  · simp [brC, giS, y10 q hq e]
  · simp [brM, aiA, e]
  · simp [brM, aiA, mn]
  · simp [brM, aiA, mn]
end LNK
