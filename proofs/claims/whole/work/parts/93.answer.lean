/-! an answer goes out (by hand) -/
section ANS
variable {t : TY} {y : LYT} {b c n o z S l : Nat} {f h F : Nat → Nat} {G m X Y : GS}
theorem M_gets (hs : SH t y) (hz : FZ y m) {z : Nat} {f : Nat → Nat} (hf : MsF z f) (g2 : ∀ k, k < z → ai m (y 30 94) k = nI (f k)) {p n : Nat} (hp : p + n ≤ z) (hn : n ≤ 8) {K : Int64 → Prop} (k : K (lN (nm f p n))) : w_M_get t m (y 1 0) (nI p) (nI n) K := by
  obtain ⟨h1, h2, h3, h4⟩ := hf
  have key : ∀ i, i ≤ n → w_M_get_7 t m (y 1 0) K (i + 1) (nI p) (lN (nm f (p + i) (n - i))) (nI i - 1) := fun i => by
    induction i with
    | zero =>
      intro _
      unfold w_M_get_7
      exact iT (show nI 0 - 1 < 0 by decide) k
    | succ i ih =>
      intro hi
      have ih := ih (by omega)
      have e2 : nI i + (-1) = nI i - 1 := by
        cases i with
        | zero => decide
        | succ q => rw [pk_m1, nI_pred]
      have e3 : nm f (p + i) (n - i) = nm f (p + (i + 1)) (n - (i + 1)) * 256 + f (p + i) := by
        rw [show n - i = n - (i + 1) + 1 by omega]; rfl
      have e4 : nm f (p + (i + 1)) (n - (i + 1)) * 256 + f (p + i) < 2 ^ 64 := by rw [← e3]; exact nm_l h3 (by omega)
      rw [nI_pred]
      refine iF (nI_pos (by omega)) ⟨hs.k 1 0, y 30 94, hz.m 94, hs.k 30 94, by rw [hs.n 30 94, nI_add]; exact vp_lt (N := 128) (by omega), ?_⟩
      intro v1 e5 v2 e6
      rw [nI_add, nI_clamp (by omega), g2 _ (by omega), nI_l (by have := h3 (p + i); omega), sh8 (h3 _) e4, ← e3] at e5
      rw [e2] at e6
      subst e5 e6
      exact ih
  intro v1 e1
  subst e1
  refine ⟨n + 1, ?_⟩
  have := key n (Nat.le_refl _)
  rw [Nat.sub_self] at this
  exact this
/-- bytes that both hold -/
theorem bytes_of {a a' q : Nat} (hh : ∀ k, k < n → ∃ v, v < 256 ∧ ai X a k = sb v ∧ ai Y a' (q + k) = nI v) : ∃ h, bC X a n h ∧ bM Y a' q n h := by
  refine ⟨fun k => (ai Y a' (q + k)).toNatClampNeg, fun k hk => ?_, fun k hk => ?_⟩
  · obtain ⟨v, v1, v2, v3⟩ := hh k hk
    show (ai Y a' (q + k)).toNatClampNeg < 256 ∧ _ = sb (ai Y a' (q + k)).toNatClampNeg
    rw [v3, nI_clamp (by omega)]
    exact ⟨v1, v2⟩
  · obtain ⟨v, v1, v2, v3⟩ := hh k hk
    show (ai Y a' (q + k)).toNatClampNeg < 256 ∧ _ = nI (ai Y a' (q + k)).toNatClampNeg
    rw [v3, nI_clamp (by omega)]
    exact ⟨v1, rfl⟩
theorem nmB (hf : ∀ k, F k < 256) {p i : Nat} (hi : i < 2) : nm F p 2 / 256 ^ i % 256 = F (p + i) := nm_at hf hi
theorem fin_core (I : InvY t y b X Y) (hrun : gi X 19 (y 3 0) = 1) (hc : c < 2) (h7 : 7 ≤ l) (hl : l ≤ 128) (h45 : gi X 45 (y 9 0) = nI l) (h97 : gi Y 97 (y 1 0) = nI l) {w : Nat} (hw : w < 2 ^ 31) (A4 : ai X (y 22 0) 4 = sb (w % 256)) (A5 : ai X (y 22 0) 5 = sb (F 5)) (A6 : ai X (y 22 0) 6 = sb (F 6)) (h7l : ∀ k, 7 ≤ k → k < l → ∃ v, v < 256 ∧ ai X (y 22 0) k = sb v ∧ ai Y (y 30 96) k = nI v) (hF : MsF S F) (h94 : ∀ k, k < S → ai Y (y 30 94) k = nI (F k)) (h58 : gi X 58 (y 10 c) = nI o) (ho : o ≤ 128) (h61 : gi X 61 (y 10 c) = 0) : ∃ X' Y', InvY t y b X' Y' ∧ eS y X X' ∧ gi X' 19 (y 3 0) = 1 ∧ gi X' 56 (y 10 c) = gi X 56 (y 10 c) ∧ (∀ K : GS → Prop, K X' → w_Answer_finish_27 t (y 9 0) K (y 10 c) X) ∧ (∀ K : GS → Prop, K Y' → w_M_reply_59 t (y 1 0) K (nI c) (nI w) Y) := by
  have hs := I.1
  have hz := I.2.1
  have hm := I.2.2.1
  have hv : yV 10 c = true := by simp [yV, hc]
  have hv2 : yV 12 c = true := by simp [yV, hc]
  have n22 : y 12 c ≠ y 22 0 := hs.ne (by omega) hv2 rfl
  have m81 : y 30 81 ≠ y 30 96 := hs.ne (by omega)
  have m82 : y 30 82 ≠ y 30 96 := hs.ne (by omega)
  have m8 : y 30 82 ≠ y 30 81 := hs.ne (by omega)
  have hS7 := hF.1
  obtain ⟨A', eA⟩ : ∃ A', A' = pB sb (ai X (y 22 0)) 0 l 4 := ⟨_, rfl⟩
  obtain ⟨B', eB⟩ : ∃ B', B' = pB nI (pB nI (pB nI (ai Y (y 30 96)) 0 l 4) 4 w 1) 5 (nm F 5 2) 2 := ⟨_, rfl⟩
  obtain ⟨X1, eX1⟩ : ∃ Z, Z = aw X (y 22 0) A' := ⟨_, rfl⟩
  obtain ⟨X3, eX3⟩ : ∃ Z, Z = si (aw X1 (y 12 c) (va_cpy A' (ai X (y 12 c)) 0 o l)) 58 (y 10 c) (nI (o + l)) := ⟨_, rfl⟩
  obtain ⟨Y1, eY1⟩ : ∃ Z, Z = mP y Y B' 7 := ⟨_, rfl⟩
  obtain ⟨Y3, eY3⟩ : ∃ Z, Z = ais (aw Y1 (y 30 81) (fun k => if 256 * c + o ≤ k ∧ k < 256 * c + o + l then B' (k - (256 * c + o)) else ai Y (y 30 81) k)) (y 30 82) c (nI (o + l)) := ⟨_, rfl⟩
  have x1 : xC y X X1 := by rw [eX1]; exact xC.rf.aw (k := 22)
  have y1 : xM y Y Y1 := by rw [eY1]; exact xM.rf.mP
  have l3 : lC y X1 X3 := by rw [eX3]; exact (lC.rf.aw (k := 12) (Or.inr rfl) hc).si (f := 58)
  have d3 : lM y Y1 Y3 := by rw [eY3]; exact (lM.rf.aw (f := 81)).ais (f := 82)
  have I1 := I.x x1 y1
  have hz1 := I1.2.1
  have hm1 := I1.2.2.1
  -- the bytes
  have AB : ∀ k, k < l → ∃ v, v < 256 ∧ A' k = sb v ∧ B' k = nI v := fun k hk => by
    rw [eA, eB]
    unfold pB
    by_cases q4 : k < 4
    · refine ⟨l / 256 ^ (k - 0) % 256, Nat.mod_lt _ (by omega), ?_, ?_⟩
      · rw [if_pos (by omega)]
      · rw [if_neg (by omega), if_neg (by omega), if_pos (by omega)]
    by_cases e4 : k = 4
    · refine ⟨w % 256, Nat.mod_lt _ (by omega), ?_, ?_⟩
      · rw [if_neg (by omega), e4]; exact A4
      · rw [if_neg (by omega), if_pos (by omega), e4]
        show nI (w / 256 ^ 0 % 256) = _
        rw [Nat.pow_zero, Nat.div_one]
    by_cases e5 : k = 5
    · refine ⟨F 5, hF.2.2.1 5, ?_, ?_⟩
      · rw [if_neg (by omega), e5]; exact A5
      · rw [if_pos (by omega), e5, nmB hF.2.2.1 (by omega)]
    by_cases e6 : k = 6
    · refine ⟨F 6, hF.2.2.1 6, ?_, ?_⟩
      · rw [if_neg (by omega), e6]; exact A6
      · rw [if_pos (by omega), e6, nmB hF.2.2.1 (by omega)]
    · obtain ⟨v, v1, v2, v3⟩ := h7l k (by omega) hk
      refine ⟨v, v1, ?_, ?_⟩
      · rw [if_neg (by omega)]; exact v2
      · rw [if_neg (by omega), if_neg (by omega), if_neg (by omega)]; exact v3
  have a12 : ai X1 (y 12 c) = ai X (y 12 c) := by rw [eX1]; exact aw_ne n22
  have b81 : ai Y1 (y 30 81) = ai Y (y 30 81) := by rw [eY1]; exact mP_a m81
  have b82 : ai Y1 (y 30 82) = ai Y (y 30 82) := by rw [eY1]; exact mP_a m82
  have y10 : ∀ q, q < 2 → q ≠ c → y 10 q ≠ y 10 c := fun q hq e w => e ((hs.2.1 10 q 10 c (by simp [yV, hq]) (by simp [yV, hc])).mp w).2
  have y12 : ∀ q, q < 2 → q ≠ c → y 12 q ≠ y 12 c := fun q hq e w => e ((hs.2.1 12 q 12 c (by simp [yV, hq]) (by simp [yV, hc])).mp w).2
  obtain ⟨n, o', z, f, h, q1, q2, q3, q4, q5, q6, q7, q8, q9, q10, q11, q12, q13, q14, q15, q16, q17, q18, q19, q20⟩ := I.2.2.2.2.1 c hc
  have eo : o' = o := (nI_eq (by omega) (by omega)).mp (q9.symm.trans h58)
  subst eo
  have M : ∀ g, 79 ≤ g → g ≤ 85 → g ≠ 81 → g ≠ 82 → ai Y3 (y 30 g) = ai Y (y 30 g) := fun g h1 h2 h3 h4 => by
    rw [eY3, ai_nb (fun w => h4 ((hs.2.1 30 g 30 82 (yV30 (by omega)) rfl).mp w).2), aw_ne (fun w => h3 ((hs.2.1 30 g 30 81 (yV30 (by omega)) rfl).mp w).2), eY1]
    exact mP_a (fun w => by have := ((hs.2.1 30 g 30 96 (yV30 (by omega)) rfl).mp w).2; omega)
  have g3 : ∀ g, g ≠ 58 → gi X3 g (y 10 c) = gi X g (y 10 c) := fun g h1 => by
    rw [eX3, gi_ne h1, eX1]; rfl
  have g19 : gi X3 19 (y 3 0) = 1 := by rw [eX3, gi_ne (by omega), eX1]; exact hrun
  have e58 : gi X3 58 (y 10 c) = nI (o' + l) := by rw [eX3]; exact gi_at
  have e12 : ai X3 (y 12 c) = va_cpy A' (ai X (y 12 c)) 0 o' l := by rw [eX3]; exact aw_at
  have e11 : ai X3 (y 11 c) = ai X (y 11 c) := by
    rw [eX3]
    show ai (aw X1 (y 12 c) _) (y 11 c) = _
    rw [aw_ne (hs.ne (by omega) (by simp [yV, hc]) hv2), eX1]
    exact aw_ne (hs.ne (by omega) (by simp [yV, hc]) rfl)
  have e81 : ai Y3 (y 30 81) = (fun k => if 256 * c + o' ≤ k ∧ k < 256 * c + o' + l then B' (k - (256 * c + o')) else ai Y (y 30 81) k) := by
    rw [eY3, ai_nb m8.symm]; exact aw_at
  obtain ⟨h', hb1, hb2⟩ := bytes_of (X := X3) (Y := Y3) (a := y 12 c) (a' := y 30 81) (q := 256 * c) (n := o' + l) (fun k hk => by
    rw [e12, e81]
    by_cases w : k < o'
    · refine ⟨h k, (q11 k w).1, ?_, ?_⟩
      · rw [pk_cpy_out (Or.inl w)]; exact (q11 k w).2
      · show (if _ then _ else _) = _
        rw [if_neg (by omega)]; exact (q12 k w).2
    · obtain ⟨v, v1, v2, v3⟩ := AB (k - o') (by omega)
      refine ⟨v, v1, ?_, ?_⟩
      · rw [pk_cpy_in (by omega) hk, show 0 + (k - o') = k - o' by omega]; exact v2
      · show (if _ then _ else _) = _
        rw [if_pos (by omega), show 256 * c + k - (256 * c + o') = k - o' by omega]; exact v3)
  have I3 : InvY t y b X3 Y3 := by
    have q61 : gi X 61 (y 10 c) = 1 → n = 0 ∧ o' + l = 0 := fun e => absurd (h61.symm.trans e) (by decide)
    · refine I1.lk1 hc l3 d3 ⟨n, o' + l, z, f, h', q1, by omega, q3, q4, by rw [g3 56 (by omega)]; exact q5, by rw [M 80 (by omega) (by omega) (by omega) (by omega)]; exact q6, fun k hk => by rw [e11]; exact q7 k hk, fun k hk => by rw [M 79 (by omega) (by omega) (by omega) (by omega)]; exact q8 k hk, e58, by rw [eY3]; exact ai_at, hb1, hb2, by rw [g3 59 (by omega)]; exact q13, by rw [M 83 (by omega) (by omega) (by omega) (by omega)]; exact q14, by rw [g3 60 (by omega)]; exact q15, by rw [M 84 (by omega) (by omega) (by omega) (by omega), g3 60 (by omega)]; exact q16, by rw [g3 61 (by omega)]; exact q17, by rw [M 85 (by omega) (by omega) (by omega) (by omega), g3 61 (by omega)]; exact q18, fun e => q61 (by rw [g3 61 (by omega)] at e; exact e), fun e => by rw [g19] at e; exact absurd e (by decide)⟩ (fun q hq e => ⟨fun g h1 h2 => ?_, ?_, ?_, fun g h1 h2 h3 h4 => ?_, fun k hk => ?_, fun k hk => ?_⟩)
      · rw [eX3, gi_na (y10 q hq e)]; rfl
      · rw [eX3]
        exact aw_ne (hs.ne (by omega) (by simp [yV, hq]) hv2)
      · rw [eX3]
        exact aw_ne (y12 q hq e)
      · by_cases w : g = 82
        · rw [eY3, w, ai_nj e, aw_ne m8]
        · rw [M g h1 h2 h4 w, y1.a hs (by omega) (by omega) (yV30 (by omega))]
      · rw [M 79 (by omega) (by omega) (by omega) (by omega), y1.a hs (by omega) (by omega) rfl]
      · rw [e81, b81]
        show (if _ then _ else _) = _
        rw [if_neg (by omega)]
  refine ⟨X3, Y3, I3, (x1.eS hs).tr (l3.e hs), g19, g3 56 (by omega), fun K hK => ?_, fun K hK => ?_⟩
  · -- the class
    refine ⟨hs.k 9 0, ?_⟩
    rw [h45, nI_l (by omega)]
    refine S_set (p := 0) (v := l) (n := 4) hs hz (by omega) (by omega) (by omega) ?_
    rw [← eA, ← eX1]
    refine ⟨hs.k 10 c hv, y 12 c, (hz1.2.2.2.2.1 c hc).2.1, hs.k 12 c hv2, ?_⟩
    have f58 : gi X1 58 (y 10 c) = nI o' := by rw [eX1]; exact h58
    have f45 : gi X1 45 (y 9 0) = nI l := by rw [eX1]; exact h45
    rw [f58, f45, hs.n 12 c hv2, nI_add]
    refine iF (nI_nlt (b := o' + l) (a := 256) (by omega) (by decide)) ⟨y 22 0, hz1.2.2.1.2.2.2, hs.k 22 0, ⟨by decide, nI_pos (by omega), nI_pos (by omega), ?_, ?_⟩, fun Z eZ W eW => ?_⟩
    · rw [hs.n 22 0, nI_clamp (by omega)]; show 0 + l ≤ 128; omega
    · rw [nI_clamp (by omega), nI_clamp (by omega)]; show o' + l ≤ 256; omega
    have eZ : Z = aw X1 (y 12 c) (va_cpy A' (ai X (y 12 c)) 0 o' l) := by
      rw [eZ]; unfold acB
      rw [nI_clamp (by omega), nI_clamp (by omega), a12]
      have : ai X1 (y 22 0) = A' := by rw [eX1]; exact aw_at
      rw [this]; rfl
    have z58 : gi Z 58 (y 10 c) = nI o' := by rw [eZ]; exact f58
    have z45 : gi Z 45 (y 9 0) = nI l := by rw [eZ]; exact f45
    rw [z58, z45, nI_add, eZ, ← eX3] at eW
    rw [eW]; exact hK
  · -- the reference
    refine ⟨hs.k 1 0, fun v1 e1 G2 e2 => ?_⟩
    rw [h97] at e1
    have e2 : G2 = mP y Y (ai Y (y 30 96)) 0 := by unfold mP; rw [aw_self]; exact e2
    rw [e1, e2, nI_l (by omega), nI_l hw]
    refine M_put (v := l) (n := 4) hs hm (by omega) (by omega) (by omega) ?_
    refine M_put (v := w) (n := 1) hs hm (by omega) (by omega) (by omega) ?_
    refine M_gets (p := 5) (n := 2) hs (mP_z hs hm) hF (fun k hk => by rw [mP_a (hs.ne (by omega))]; exact h94 k hk) (by omega) (by omega) ?_
    refine M_put (v := nm F 5 2) (n := 2) hs hm (nm_l hF.2.2.1 (by omega)) (by omega) (by omega) ?_
    show ∃ n, w_M_reply_97 t (y 1 0) K n (nI c) (nI l) 0 (mP y Y (pB nI (pB nI (pB nI (ai Y (y 30 96)) 0 l 4) 4 w 1) 5 (nm F 5 2) 2) 7)
    rw [← eB, ← eY1]
    have e256 : ∀ i, (256 : Int32) * nI c + nI o' + nI i = nI (256 * c + o' + i) := fun i => by rw [show (256 : Int32) = nI 256 from rfl, pk_mul, nI_add, nI_add]
    have y96 : ai Y1 (y 30 96) = B' := by rw [eY1]; exact mP_A
    have key := pk_loop (fun q i (_ : Unit) => w_M_reply_97 t (y 1 0) K q (nI c) (nI l) (nI i) (aw Y1 (y 30 81) (fun k => if 256 * c + o' ≤ k ∧ k < 256 * c + o' + i then B' (k - (256 * c + o')) else ai Y (y 30 81) k))) (fun _ _ => True) l 0 () (by omega) trivial (fun q _ _ => ?_) (fun q i _ hi _ ih => ?_)
    · obtain ⟨q, hq⟩ := key
      refine ⟨q, ?_⟩
      have hq : w_M_reply_97 t (y 1 0) K q (nI c) (nI l) (nI 0) (aw Y1 (y 30 81) (fun k => if 256 * c + o' ≤ k ∧ k < 256 * c + o' + 0 then B' (k - (256 * c + o')) else ai Y (y 30 81) k)) := hq
      have e0 : (fun k => if 256 * c + o' ≤ k ∧ k < 256 * c + o' + 0 then B' (k - (256 * c + o')) else ai Y (y 30 81) k) = ai Y1 (y 30 81) := by rw [b81]; exact funext fun k => if_neg (by omega)
      rw [e0, aw_self] at hq
      exact hq
    · have hZ : FZ y (aw Y1 (y 30 81) (fun k => if 256 * c + o' ≤ k ∧ k < 256 * c + o' + l then B' (k - (256 * c + o')) else ai Y (y 30 81) k)) := hm1.to hs (sZ.of (fun _ _ => rfl) (fun _ => rfl))
      refine iT (Int32.le_refl _) ⟨hs.k 1 0, y 30 82, hZ.m 82, hs.k 30 82, by rw [hs.n 30 82]; exact vp_lt (N := 2) hc, fun Z eZ => ?_⟩
      rw [nI_clamp (by omega), aw_ne m8, b82, q10, nI_add, ← eY3] at eZ
      rw [eZ]; exact hK
    · have hZ : FZ y (aw Y1 (y 30 81) (fun k => if 256 * c + o' ≤ k ∧ k < 256 * c + o' + i then B' (k - (256 * c + o')) else ai Y (y 30 81) k)) := hm1.to hs (sZ.of (fun _ _ => rfl) (fun _ => rfl))
      refine iF (nI_ge hi (by omega)) ⟨hs.k 1 0, y 30 82, hZ.m 82, hs.k 30 82, by rw [hs.n 30 82]; exact vp_lt (N := 2) hc, y 30 96, hZ.m 96, hs.k 30 96, by rw [hs.n 30 96]; exact vp_lt (N := 160) (by omega), y 30 81, hZ.m 81, hs.k 30 81, ?_, fun Z eZ v7 e7 => ?_⟩
      · rw [nI_clamp (by omega), aw_ne m8, b82, q10, e256, hs.n 30 81]; exact vp_lt (N := 512) (by omega)
      · rw [nI_clamp (n := c) (by omega), aw_ne m8, b82, q10, e256, nI_clamp (by omega), nI_clamp (by omega), aw_ne m81.symm, y96, aw_ais] at eZ
        rw [nI_1] at e7
        rw [e7, eZ]
        have e1 : (fun k => if k = 256 * c + o' + i then B' i else if 256 * c + o' ≤ k ∧ k < 256 * c + o' + i then B' (k - (256 * c + o')) else ai Y (y 30 81) k) = (fun k => if 256 * c + o' ≤ k ∧ k < 256 * c + o' + (i + 1) then B' (k - (256 * c + o')) else ai Y (y 30 81) k) := funext fun k => by
          by_cases q : k = 256 * c + o' + i
          · rw [if_pos q, if_pos (by omega), show k - (256 * c + o') = i by omega]
          · rw [if_neg q]
            by_cases q2 : 256 * c + o' ≤ k ∧ k < 256 * c + o' + i
            · rw [if_pos q2, if_pos (by omega)]
            · rw [if_neg q2, if_neg (by omega)]
        rw [e1]
        exact ih () trivial
end ANS
