/-! write (by hand) -/
section WRM
variable {t : TY} {y : LYT} {b c z k j u : Nat} {f : Nat → Nat} {G m : GS} {T : Nat → Int32} {n np : Nat} {r s : Nat → Nat}
/-- the reference writes into its cells -/
theorem M_wr1 (hs : SH t y) (hm : FZ y m) (hf : MsF z f) (h : MsM y m z f) {c o w l0 : Nat} (hc : c < 21) (hl0 : l0 ≤ 64) (how : o + w ≤ 64) (hw : 23 + w ≤ z) (e18 : T (83 * c + 18) = nI l0) {K : GS → Prop} (k : w_M_write_225 t (y 1 0) K (nI c) (nI w) (w70 y m (ctT T c (mxL l0 (o + w)) (wrB T c l0 o w (fun i => f (23 + i)))))) : ∃ q, w_M_write_135 t (y 1 0) K q (nI c) (nI w) (nI o) (nI l0) (w70 y m T) := by
  have hz := hf.2.1
  obtain ⟨e, he⟩ : ∃ e, e = if l0 ≤ o then o else l0 := ⟨_, rfl⟩
  have e64 : e ≤ 64 := by rw [he]; split <;> omega
  obtain ⟨Z, eZ⟩ : ∃ Z : Nat → Nat → Int32, Z = fun i k => if 83 * c + 19 + l0 ≤ k ∧ k < 83 * c + 19 + i then 0 else T k := ⟨_, rfl⟩
  have Zk : ∀ i k, Z i k = if 83 * c + 19 + l0 ≤ k ∧ k < 83 * c + 19 + i then 0 else T k := fun i k => by rw [eZ]
  -- the copy
  have copy : ∃ q, w_M_write_162 t (y 1 0) K q (nI c) (nI w) (nI o) (nI 0) (w70 y m (Z e)) := by
    have key := pk_loop (fun q i (_ : Unit) => w_M_write_162 t (y 1 0) K q (nI c) (nI w) (nI o) (nI i) (w70 y m (fun k => if 83 * c + 19 + o ≤ k ∧ k < 83 * c + 19 + o + i then nI (f (23 + (k - (83 * c + 19 + o)))) else Z e k))) (fun _ _ => True) w 0 () (by omega) trivial (fun q _ _ => ?_) (fun q i _ hi _ ih => ?_)
    · obtain ⟨q, hq⟩ := key
      refine ⟨q, ?_⟩
      have e0 : (fun k => if 83 * c + 19 + o ≤ k ∧ k < 83 * c + 19 + o + 0 then nI (f (23 + (k - (83 * c + 19 + o)))) else Z e k) = Z e := funext fun k => if_neg (by omega)
      have hq : w_M_write_162 t (y 1 0) K q (nI c) (nI w) (nI o) (nI 0) (w70 y m (fun k => if 83 * c + 19 + o ≤ k ∧ k < 83 * c + 19 + o + 0 then nI (f (23 + (k - (83 * c + 19 + o)))) else Z e k)) := hq
      rw [e0] at hq
      exact hq
    · refine iT (Int32.le_refl _) ⟨hs.k 1 0, M_at (c := 18) hs (w70_z hs hm) hc (by omega) ?_⟩
      have c18 : (if 83 * c + 19 + o ≤ 83 * c + 18 ∧ 83 * c + 18 < 83 * c + 19 + o + w then nI (f (23 + (83 * c + 18 - (83 * c + 19 + o)))) else Z e (83 * c + 18)) = nI l0 := by
        rw [if_neg (by omega), Zk, if_neg (by omega)]; exact e18
      rw [w70_70, c18, nI_add]
      have cell : ∀ q, ¬ q = 83 * c + 18 → (if 83 * c + 19 + o ≤ q ∧ q < 83 * c + 19 + o + w then nI (f (23 + (q - (83 * c + 19 + o)))) else Z e q) = if 83 * c + 19 ≤ q ∧ q < 83 * c + 83 then wrB T c l0 o w (fun i => f (23 + i)) (q - (83 * c + 19)) else T q := fun q hq => by
        unfold wrB
        by_cases a1 : 83 * c + 19 + o ≤ q ∧ q < 83 * c + 19 + o + w
        · rw [if_pos a1, if_pos (by omega), if_pos (by omega), show q - (83 * c + 19) - o = q - (83 * c + 19 + o) by omega]
        · rw [if_neg a1, Zk]
          by_cases a2 : 83 * c + 19 ≤ q ∧ q < 83 * c + 83
          · rw [if_pos a2, if_neg (show ¬ (o ≤ q - (83 * c + 19) ∧ q - (83 * c + 19) < o + w) by omega)]
            by_cases a3 : l0 ≤ q - (83 * c + 19) ∧ q - (83 * c + 19) < o
            · have : l0 ≤ o := by omega
              rw [he, if_pos this, if_pos (by omega), if_pos a3]
            · rw [if_neg a3, show 83 * c + 19 + (q - (83 * c + 19)) = q by omega]
              by_cases a4 : l0 ≤ o
              · rw [he, if_pos a4, if_neg (by omega)]
              · rw [he, if_neg a4, if_neg (by omega)]
          · rw [if_neg a2, if_neg (by omega)]
      by_cases q : o + w ≤ l0
      · refine iT (nI_le q (by omega)) ?_
        have : (fun k => if 83 * c + 19 + o ≤ k ∧ k < 83 * c + 19 + o + w then nI (f (23 + (k - (83 * c + 19 + o)))) else Z e k) = ctT T c (mxL l0 (o + w)) (wrB T c l0 o w (fun i => f (23 + i))) := funext fun q' => by
          unfold ctT mxL
          rw [if_neg (show ¬ l0 < o + w by omega)]
          by_cases a : q' = 83 * c + 18
          · rw [if_pos a, a]; exact c18
          · rw [if_neg a]; exact cell q' a
        rw [this]; exact k
      · refine iF (nI_ge (by omega) (by omega)) (M_set (c := 18) hs (w70_z hs hm) hc (by omega) ?_)
        rw [w70_s]
        have : cS (fun k => if 83 * c + 19 + o ≤ k ∧ k < 83 * c + 19 + o + w then nI (f (23 + (k - (83 * c + 19 + o)))) else Z e k) c 18 (nI (o + w)) = ctT T c (mxL l0 (o + w)) (wrB T c l0 o w (fun i => f (23 + i))) := funext fun q' => by
          unfold ctT mxL
          rw [if_pos (show l0 < o + w by omega)]
          show (if q' = 83 * c + 18 then nI (o + w) else (if 83 * c + 19 + o ≤ q' ∧ q' < 83 * c + 19 + o + w then nI (f (23 + (q' - (83 * c + 19 + o)))) else Z e q')) = _
          by_cases a : q' = 83 * c + 18
          · rw [if_pos a, if_pos a]
          · rw [if_neg a, if_neg a]; exact cell q' a
        rw [this]; exact k
    · refine iF (nI_ge hi (by omega)) ⟨hs.k 1 0, y 30 94, (w70_z hs hm).m 94, hs.k 30 94, by rw [hs.n 30 94, show (23 : Int32) + nI i = nI (23 + i) from nI_add 23 i]; exact vp_lt (N := 128) (by omega), ?_⟩
      rw [show (23 : Int32) + nI i = nI (23 + i) from nI_add 23 i, nI_clamp (by omega), w70_o (hs.ne (by omega)), h.2 _ (by omega), show (19 : Int32) + nI o + nI i = nI (19 + o + i) by rw [show (19 : Int32) + nI o = nI (19 + o) from nI_add 19 o, nI_add]]
      refine M_set (c := 19 + o + i) hs (w70_z hs hm) hc (by omega) ?_
      rw [w70_s]
      intro v5 e5
      rw [nI_1] at e5
      subst e5
      have e1 : cS (fun k => if 83 * c + 19 + o ≤ k ∧ k < 83 * c + 19 + o + i then nI (f (23 + (k - (83 * c + 19 + o)))) else Z e k) c (19 + o + i) (nI (f (23 + i))) = (fun k => if 83 * c + 19 + o ≤ k ∧ k < 83 * c + 19 + o + (i + 1) then nI (f (23 + (k - (83 * c + 19 + o)))) else Z e k) := funext fun q => by
        show (if q = 83 * c + (19 + o + i) then nI (f (23 + i)) else (if 83 * c + 19 + o ≤ q ∧ q < 83 * c + 19 + o + i then nI (f (23 + (q - (83 * c + 19 + o)))) else Z e q)) = _
        by_cases a : q = 83 * c + (19 + o + i)
        · rw [if_pos a, if_pos (by omega), show q - (83 * c + 19 + o) = i by omega]
        · rw [if_neg a]
          by_cases a2 : 83 * c + 19 + o ≤ q ∧ q < 83 * c + 19 + o + i
          · rw [if_pos a2, if_pos (by omega)]
          · rw [if_neg a2, if_neg (by omega)]
      rw [e1]
      exact ih () trivial
  have key := pk_loop (fun q i (_ : Unit) => w_M_write_135 t (y 1 0) K q (nI c) (nI w) (nI o) (nI i) (w70 y m (Z i))) (fun i _ => l0 ≤ i) e l0 () (by rw [he]; split <;> omega) (Nat.le_refl _) (fun q _ _ => iT (nI_le (by rw [he]; split <;> omega) (by omega)) copy) (fun q i _ hi hli ih => ?_)
  · obtain ⟨q, hq⟩ := key
    refine ⟨q, ?_⟩
    have e0 : Z l0 = T := funext fun k => by rw [Zk, if_neg (by omega)]
    have hq : w_M_write_135 t (y 1 0) K q (nI c) (nI w) (nI o) (nI l0) (w70 y m (Z l0)) := hq
    rw [e0] at hq
    exact hq
  · have hio : i < o := by
      rw [he] at hi
      by_cases q : l0 ≤ o
      · rw [if_pos q] at hi; exact hi
      · rw [if_neg q] at hi; omega
    refine iF (nI_ge hio (by omega)) ⟨hs.k 1 0, ?_⟩
    rw [show (19 : Int32) + nI i = nI (19 + i) from nI_add 19 i]
    refine M_set (c := 19 + i) hs (w70_z hs hm) hc (by omega) ?_
    rw [w70_s]
    intro v2 e2
    rw [nI_1] at e2
    subst e2
    have e1 : cS (Z i) c (19 + i) 0 = Z (i + 1) := funext fun q => by
      show (if q = 83 * c + (19 + i) then 0 else Z i q) = _
      rw [Zk, Zk]
      by_cases a : q = 83 * c + (19 + i)
      · rw [if_pos a, if_pos (by omega)]
      · rw [if_neg a]
        by_cases a2 : 83 * c + 19 + l0 ≤ q ∧ q < 83 * c + 19 + i
        · rw [if_pos a2, if_pos (by omega)]
        · rw [if_neg a2, if_neg (by omega)]
    rw [e1]
    exact ih () (by omega)
/-- cells that were put back -/
theorem InvY.put (h : InvY t y b G m) {m' : GS} (c : cM5 y m m') (e : ∀ k, k < 1743 → ai m' (y 30 70) k = ai m (y 30 70) k) : InvY t y b G m' := by
  obtain ⟨hs, hz, hm, ⟨s1, s2, s3, s4, s5, s6⟩, hl, hu, n, r, s, np, hT, hF, h74, hnp, hst⟩ := h
  have M : ∀ f, yV 30 f = true → f ≠ 70 → f ≠ 71 → ai m' (y 30 f) = ai m (y 30 f) := fun f hv q1 q2 => c.2.2.2.2.2 _ (hs.ne (by omega) hv rfl) (hs.ne (by omega) hv rfl)
  have aFm : ∀ k, agFm y m m' k := fun k f h1 h2 => ⟨congrFun (M f (yV30 (by omega)) (by omega) (by omega)) k, congrFun (c.2.2.2.2.1 _) k⟩
  refine ⟨hs, hz, c.fz hs hm, ⟨by rw [c.1]; exact s1, by rw [c.1]; exact s2, by rw [c.1]; exact s3, by rw [c.1]; exact s4, s5, by rw [c.1]; exact s6⟩, fun q hq => (hl q hq).to agL.rf ⟨fun i _ => by rw [M 79 rfl (by omega) (by omega)], fun i _ => by rw [M 81 rfl (by omega) (by omega)], fun f hf => by rw [M f (by simp [yV]; omega) (by omega) (by omega)]⟩ (fun w => w), fun k hk => (hu k hk).to agF.rf (aFm k) (fun w => w), n, r, s, np, hT.cells e, fun k hk => (hF k hk).to agF.rf (aFm k) (fun _ => ⟨rfl, rfl⟩), by rw [c.1]; exact h74, hnp, fun q1 q2 => by rw [M 72 rfl (by omega) (by omega)]; exact hst q1 q2⟩
/-- an error behind a change that was put back -/
theorem HR.back (P : Pre t y b c z f G m) {m5 : GS} (c5 : cM5 y m m5) (h71 : ∀ i, i < 1743 → ai m5 (y 30 71) i = ai m (y 30 70) i) {e : Nat} (he : e < 29) (he2 : e ≠ 2) {F : (GS → Option Nat → Prop) → Prop} {H : (GS → Prop) → Prop} (hF : ∀ K : GS → Option Nat → Prop, K G (some (tks t e)) → F K) (hH : ∀ K : GS → Prop, K (sl (aw m5 (y 30 70) (mix (ai m5 (y 30 71)) (ai m5 (y 30 70)) 1743)) 98 (y 1 0) (lN (er e))) → H K) : HR t y b c G m F H := by
  have cB : cM5 y m (aw m5 (y 30 70) (mix (ai m5 (y 30 71)) (ai m5 (y 30 70)) 1743)) := c5.aw (Or.inl rfl)
  have I := P.i.put cB (fun k hk => by
    rw [aw_at]
    show (if k < 1743 then _ else _) = _
    rw [if_pos hk]; exact h71 k hk)
  exact ⟨G, _, e, he, I.x xC.rf (xM.rf.sl (f := 98)), eS.rf, hF, hH, fun _ => ⟨fun _ _ _ => rfl, (cB.kk P.s).2.1, gl_at, rfl, rfl, fun w => absurd w he2⟩⟩
theorem h_written (Q : FP t y b c z f G m n r s np k j u) {w o : Nat} (hw : w + 23 = z) (hw0 : 0 < w) (how : o + w ≤ 64) (hn : ¬ gi G 2 (y 5 j) < 0) : HR t y b c G m (fun K => w_S_write_69 t (y 0 0) (fun X x => K X x) (y 14 k) (nI w) (some (y 5 j)) (lN o) G) (fun K => w_M_write_103 t (y 1 0) (fun X => K X) (nI (s j)) (lN o) (nI w) m) := by
  obtain ⟨P, hZ, hk, hus, hj, hu, g48, g50, h99, f90, f51⟩ := id Q
  have hs := P.s
  have hz := P.g
  have hm := P.hm
  have hnp := Q.np31
  have hTr := Q.tr
  have x := hTr.nd hj
  have hj20 := hTr.le hj
  have hz128 := P.hf.2.1
  have hvj : yV 5 j = true := by simp [yV]; omega
  have hvk : yV 14 k = true := by simp [yV, hk]
  have b24 := hTr.b24
  obtain ⟨l0, lb, le, -⟩ := hTr.2.2.2.2.2.2.2.2.2.2.2.2.2.2.2.2 j hj20
  have t18 : ai m (y 30 70) (83 * s j + 18) = nI l0 := by
    obtain ⟨-, -, -, -, -, -, -, -, -, ⟨l2, g2, w1, w2, w3, -⟩⟩ := x.2.2
    rw [w3, ← le, w2]
  have nO : ¬ lN o < (0 : Int64) := fun q => by have := (pk_lLT (a := o) (b := 0) (by omega) (by decide)).mp q; omega
  have nO2 : ¬ (64 : Int64) < lN o := fun q => by have := (pk_lLT (a := 64) (b := o) (by decide) (by omega)).mp q; omega
  have eow : lN o + (nI w).toInt64 = lN (o + w) := by rw [nI_l (by omega), lN_add]
  have nw : ¬ nI w ≤ 0 := nI_nle hw0 (by omega)
  -- the reference up to the blocks
  obtain ⟨m3, em3⟩ : ∃ X, X = aw m (y 30 71) (mix (ai m (y 30 70)) (ai m (y 30 71)) 1743) := ⟨_, rfl⟩
  have c3 : cM5 y m m3 := by rw [em3]; exact cM5.rf.aw (Or.inr rfl)
  have t3 : ai m3 (y 30 70) = ai m (y 30 70) := by rw [em3]; exact aw_ne (hs.ne (by omega))
  have hm3 := c3.fz hs hm
  have mm3 : MsM y m3 z f := P.mm.k (c3.kk hs)
  obtain ⟨L, eL⟩ : ∃ L, L = mxL l0 (o + w) := ⟨_, rfl⟩
  have hL : L ≤ 64 := by rw [eL]; unfold mxL; split <;> omega
  obtain ⟨P', eP⟩ : ∃ X, X = cG (ctT (ai m (y 30 70)) (s j) L (wrB (ai m (y 30 70)) (s j) l0 o w (fun i => f (23 + i)))) (s j) (gi m 78 (y 1 0)) u := ⟨_, rfl⟩
  obtain ⟨m5, em5⟩ : ∃ X, X = w70 y m3 P' := ⟨_, rfl⟩
  have cm : cM5 y m m5 := by rw [em5]; exact c3.aw (Or.inl rfl)
  have hm5 := cm.fz hs hm
  have c70 : ai m5 (y 30 70) = P' := by rw [em5]; exact w70_70
  have h71 : ∀ i, i < 1743 → ai m5 (y 30 71) i = ai m (y 30 70) i := fun i hi => by
    rw [em5, w70_o (hs.ne (by omega)), em3, aw_at]
    show (if i < 1743 then _ else _) = _; rw [if_pos hi]
  have mgo : ∀ K : GS → Prop, (if nI (tBl y G n r + (L + 15) / 16 - (l0 + 15) / 16) ≤ 24 then (w_M_commit t m5 (y 1 0) (nI z) (fun G3 v4 => (if ¬ v4 = 0 then (w_M_write_267 t (y 1 0) (fun X => K X) (nI w) G3) else (K G3)))) else (w_M_back t m5 (y 1 0) (fun G5 => ∀ G6, G6 = sl G5 98 (y 1 0) (1819047270 : Int64) → K G6))) → w_M_write_103 t (y 1 0) (fun X => K X) (nI (s j)) (lN o) (nI w) m := fun K hK => by
    refine ⟨hs.k 1 0, iT P.e (iF nw (M_begin hs hm ?_))⟩
    rw [← em3]
    intro v2 e2
    rw [lN_i] at e2
    subst e2
    refine M_at (c := 18) hs hm3 x.1 (by omega) ?_
    rw [t3, t18]
    have e70 : w70 y m3 (ai m (y 30 70)) = m3 := by rw [← t3]; exact w70_self
    rw [← e70]
    refine M_wr1 hs hm3 P.hf mm3 x.1 lb how (by omega) t18 ?_
    rw [← eL]
    refine ⟨hs.k 1 0, ?_⟩
    have e9 : gi (w70 y m3 (ctT (ai m (y 30 70)) (s j) L (wrB (ai m (y 30 70)) (s j) l0 o w (fun i => f (23 + i))))) 99 (y 1 0) = nI u := (c3.1 _ _).trans h99
    rw [e9]
    refine M_changes hs (w70_z hs hm3) x.1 ?_
    have e78 : gi m3 78 (y 1 0) = gi m 78 (y 1 0) := c3.1 _ _
    rw [w70_ch, e78, ← eP, ← em5]
    have e95 : gi m5 95 (y 1 0) = nI z := (cm.1 _ _).trans P.mm.1
    refine hTr.mct hnp hs hm5 (d := j) (l := L) (l0 := l0) hj hn hL lb le (fun q hq => ?_) ?_ ?_ ?_ ?_
    · rw [c70, eP, cG_ne (by omega) (by omega) (by omega)]
      unfold ctT; rw [if_neg (by omega), if_neg (by omega)]
    · rw [c70, eP, cG_ne (by omega) (by omega) (by omega)]
      unfold ctT; rw [if_neg (by omega), if_neg (by omega)]
    · rw [c70, eP, cG_ne (by omega) (by omega) (by omega)]
      unfold ctT; rw [if_neg (by omega), if_neg (by omega)]
    · rw [c70, eP, cG_ne (by omega) (by omega) (by omega)]
      unfold ctT; rw [if_pos rfl]
    · show if nI (tBl y G n r + (L + 15) / 16 - (l0 + 15) / 16) ≤ 24 then w_M_commit t m5 (y 1 0) (gi m5 95 (y 1 0)) _ else _
      rw [e95]; exact hK
  have roomEq : (o + w ≤ 64 ∧ tBl y G n r + (o + w + 15) / 16 ≤ 24 + (l0 + 15) / 16) ↔ tBl y G n r + (L + 15) / 16 - (l0 + 15) / 16 ≤ 24 := by
    rw [eL]; unfold mxL
    split <;> omega
  have cst : ∀ (K : GS → Option Nat → Prop), (tBl y G n r + (L + 15) / 16 - (l0 + 15) / 16 ≤ 24 → (tk t (y 14 k) = 7 ∧ ∃ a4, (gr G 65 (y 0 0)) = some a4 ∧ tk t a4 = 4 ∧ w_Change_begin t G a4 (some (tad t 4)) (y 5 j) (gr G 50 (y 14 k)) (gi G 69 (y 0 0)) (fun G5 => ∃ a6, (gr G5 65 (y 0 0)) = some a6 ∧ tk t a6 = 4 ∧ ∀ G7, G7 = si G5 34 a6 (lN o).toInt32 → ∃ a8, (gr G7 65 (y 0 0)) = some a8 ∧ tk t a8 = 4 ∧ ∃ a9, (gr G7 66 (y 0 0)) = some a9 ∧ tk t a9 = 5 ∧ ∃ a10, (gr G7 33 a8) = some a10 ∧ w_Message_copyBytes t G7 a9 (23 : Int32) (nI w) a10 (fun G11 v12 => ∀ G13, G13 = si G11 35 a8 v12 → ∃ a14, (gr G13 66 (y 0 0)) = some a14 ∧ tk t a14 = 5 ∧ w_S_carryOut t G13 (y 0 0) (gi G13 37 a14) (fun G15 => w_S_write_171 t (y 0 0) (fun X x => K X x) (nI w) G15))))) → (¬ tBl y G n r + (L + 15) / 16 - (l0 + 15) / 16 ≤ 24 → K G (some (tks t 23))) → w_S_write_69 t (y 0 0) (fun X x => K X x) (y 14 k) (nI w) (some (y 5 j)) (lN o) G := fun K h1 h0 => by
    refine iF nO (iF nO2 ⟨hs.k 0 0, y 2 0, hz.1.1, hs.k 2 0, y 5 j, rfl, ?_⟩)
    rw [eow]
    exact S_room hTr hnp hs hz hj hn lb le (by omega) (fun a1 a2 => iT (by decide) (h1 (roomEq.mp ⟨a1, a2⟩))) (fun a => iF (by simp) (h0 fun q => a (roomEq.mpr q)))
  by_cases room : tBl y G n r + (L + 15) / 16 - (l0 + 15) / 16 ≤ 24
  · obtain ⟨G5, eG5⟩ : ∃ X, X = bgC y G (tad t 4) (y 5 j) (some (tad t u)) (gi G 69 (y 0 0)) := ⟨_, rfl⟩
    obtain ⟨G6, eG6⟩ : ∃ X, X = si G5 34 (y 4 0) (nI o) := ⟨_, rfl⟩
    obtain ⟨G8, eG8⟩ : ∃ X, X = aw G6 (y 18 0) (fun i => if i < w then sb (f (23 + i)) else ai G6 (y 18 0) i) := ⟨_, rfl⟩
    obtain ⟨G7, eG7⟩ : ∃ X, X = si G8 35 (y 4 0) (nI w) := ⟨_, rfl⟩
    have cc6 : cC y G G6 := by rw [eG6, eG5]; exact cC.rf.bg.si (f := 34)
    have cc : cC y G G7 := by rw [eG7, eG8]; exact (cc6.aw (Or.inr rfl)).si (f := 35)
    have hz6 := cc6.fz hs hz
    have hz7 := cc.fz hs hz
    have gR : ∀ f a, gr G7 f a = gr G5 f a := fun f a => by rw [eG7, eG8, eG6]; rfl
    have gI : ∀ f a, f ≠ 34 → f ≠ 35 → gi G7 f a = gi G5 f a := fun f a q1 q2 => by
      rw [eG7, gi_ne q2, eG8]
      show gi G6 f a = _
      rw [eG6, gi_ne q1]
    have e34 : gi G7 34 (y 4 0) = nI o := by
      rw [eG7, gi_ne (by omega), eG8]
      show gi G6 34 (y 4 0) = _
      rw [eG6, gi_at]
    have hv7 := @bgC_v y G (tad t 4) (y 5 j) (some (tad t u)) (gi G 69 (y 0 0))
    have hT7 : TrR t y G7 (ai m (y 30 70)) n r s np := hTr.to (cc.agT hs)
    have tm : gi G 69 (y 0 0) = gi m 78 (y 1 0) := hZ.2.2.2.1.2.2.1
    have tb7 : tBl y G7 n r = tBl y G n r := tBl_eq (fun a => by rw [cc.1 2 a (by omega)]) (fun a => cc.2.1 7 a (by omega)) (fun a => cc.1 12 a (by omega))
    have hS : Stg t y G7 (ai m5 (y 30 70)) n r np np := by
      rw [c70, eP, ← tm, eL]
      refine stg_wr hT7 hnp hs hj hu (by rw [gR, eG5]; exact hv7.1) ⟨by rw [gR, eG5]; exact hv7.2.1, by rw [gR, eG5]; exact hv7.2.2, by rw [gI _ _ (by omega) (by omega), eG5]; exact bgC_24⟩ lb ((cc.1 12 _ (by omega)).trans le) e34 (by rw [eG7]; exact gi_at) how (fun q hq => ⟨P.hf.2.2.1 _, ?_⟩) (by rw [cc.1 2 _ (by omega)]; exact hn) ?_
      · rw [eG7]
        show ai G8 (y 18 0) q = _
        rw [eG8, aw_at]; exact if_pos hq
      · rw [tb7, ← eL]
        omega
    have e37 : gi G7 37 (y 8 0) = nI z := (cc.1 37 _ (by omega)).trans P.mc.1
    have cgo : ∀ K : GS → Option Nat → Prop, w_S_carryOut t G7 (y 0 0) (nI z) (fun X => w_S_write_171 t (y 0 0) (fun X x => K X x) (nI w) X) → w_S_write_69 t (y 0 0) (fun X x => K X x) (y 14 k) (nI w) (some (y 5 j)) (lN o) G := fun K hK => cst K (fun _ => ⟨hs.k 14 k hvk, y 4 0, hz.1.2.2.1, hs.k 4 0, by
      rw [g50]
      refine S_begin hs ?_
      rw [← eG5]
      refine ⟨y 4 0, by rw [← gR]; exact hz7.1.2.2.1, hs.k 4 0, fun X eX => ?_⟩
      rw [lN_i, ← eG6] at eX
      subst eX
      refine ⟨y 4 0, hz6.1.2.2.1, hs.k 4 0, y 8 0, hz6.1.2.2.2.1, hs.k 8 0, y 18 0, hz6.2.1.2.2.2, S_copy (p := 23) (q := 18) (N := 64) hs hz6 P.hf (P.mc.k (cc6.kk hs)) (Or.inr rfl) rfl (by omega) (by omega) (by omega) ?_⟩
      rw [← eG8]
      intro X eX
      rw [← eG7] at eX
      subst eX
      exact ⟨y 8 0, hz7.1.2.2.2.1, hs.k 8 0, by rw [e37]; exact hK⟩⟩) (fun q => absurd room q)
    have c24 : nI (tBl y G n r + (L + 15) / 16 - (l0 + 15) / 16) ≤ 24 := nI_le (b := 24) room (by decide)
    rcases carryH hZ P.r cc cm h71 hS (zz := z) (by omega) (Nat.le_refl _) hZ.2.2.2.2.2.2.2.2.2.1 with D | ⟨G2, n', r', s', U, -⟩
    · have hzd := D.1.2.1
      have e45d : gi (gdN y G7 z) 45 (y 9 0) = nI 7 := by
        unfold gdN
        rw [rsL_o (by omega) (Or.inl (by omega)), rsL_o (by omega) (Or.inl (by omega))]
        unfold adN
        rw [gi_ne (by omega), gi_ne (by omega), gi_ne (by omega), gi_ne (by omega)]
        exact (cc.1 45 _ (by omega)).trans P.lc
      obtain ⟨A2, h2⟩ := S_putx (n := 4) (t := t) hs hzd (ai (gdN y G7 z) (y 22 0)) 7 (nI w).toInt64 (by omega) (by omega)
      rw [cP_self e45d] at h2
      exact HR.cdn D eS.rf (j := 2) (by omega) hs xC.rf.cP (fun K run hK => cgo K (run _ ⟨hs.k 0 0, y 9 0, hzd.1.2.2.2.2.1, hs.k 9 0, h2 _ hK⟩)) (fun K run hK => mgo K (iT c24 (run _ (iF (by simp) hK))))
    · have e74 : gi m5 74 (y 1 0) = nI (np - 1) := (cm.1 _ _).trans hZ.2.2.2.2.2.2.2.2.1
      refine HR.cup P U eS.rf kC.rf kM.rf P.hb (F1 := fun K => w_Answer_put t G2 (y 9 0) (nI w).toInt64 (4 : Int32) (fun X => K X (some (tks t 2)))) (H1 := fun K => w_M_put t (cmY y m5 z) (y 1 0) (nI w).toInt64 (4 : Int32) K) (fun P2 => ?_) (fun K run hK => cgo K (run _ ⟨hs.k 0 0, y 9 0, U.1.2.1.1.2.2.2.2.1, hs.k 9 0, hK⟩)) (fun K run hK => mgo K (iT c24 (run _ (iT (by decide) ⟨hs.k 1 0, hK⟩))))
      have sm := U.same e74
      rw [sm] at P2 ⊢
      exact HR.pw P2 (Pw.put (n := 4) hs P2.g P2.hm (nI w).toInt64 (by omega) (f := fun X K => w_Answer_put t X (y 9 0) (nI w).toInt64 (4 : Int32) K) (g := fun X K => w_M_put t X (y 1 0) (nI w).toInt64 (4 : Int32) K) (fun _ _ _ q => q) (fun _ _ _ q => q)) (by omega) (fun K hK => hK) (fun K hK => hK)
  · have c24 : ¬ nI (tBl y G n r + (L + 15) / 16 - (l0 + 15) / 16) ≤ 24 := nI_ge (a := 24) (by omega) (by omega)
    refine HR.back P cm h71 (e := 23) (by omega) (by omega) (fun K hK => cst K (fun q => absurd q room) (fun _ => hK)) (fun K hK => mgo K (iF c24 (M_back hs hm5 (fun X eX => ?_))))
    have e23 : lN (er 23) = 1819047270 := by decide +kernel
    rw [← e23] at eX
    subst eX
    exact hK
theorem h_write (Q : FP t y b c z f G m n r s np k j u) (h4 : f 4 = 118) : HR t y b c G m (fun K => w_S_write t G (y 0 0) (y 14 k) (fun X x => K X x)) (fun K => w_M_write t m (y 1 0) (nI k) (nI (s j)) (fun X => K X)) := by
  obtain ⟨P, hZ, hk, hus, hj, hu, g48, g50, h99, f90, f51⟩ := id Q
  have hs := P.s
  have hz := P.g
  have hm := P.hm
  have hTr := Q.tr
  have x := hTr.nd hj
  have hj20 := hTr.le hj
  have hz128 := P.hf.2.1
  have wf := (wf118 h4).mp P.w
  have hvj : yV 5 j = true := by simp [yV]; omega
  have hvk : yV 14 k = true := by simp [yV, hk]
  have cl : (nI k).toNatClampNeg = k := nI_clamp (by omega)
  obtain ⟨w, ew⟩ : ∃ w, w = nm f 19 4 := ⟨_, rfl⟩
  rw [← ew] at wf
  have n8 : nm f 11 8 < 2 ^ 64 := nm_l P.hf.2.2.1 (by omega)
  obtain ⟨l0, lb, le, -⟩ := hTr.2.2.2.2.2.2.2.2.2.2.2.2.2.2.2.2 j hj20
  have t18 : ai m (y 30 70) (83 * s j + 18) = nI l0 := by
    obtain ⟨-, -, -, -, -, -, -, -, -, ⟨l2, g2, w1, w2, w3, -⟩⟩ := x.2.2
    rw [w3, ← le, w2]
  have m3 : ai m (y 30 70) (83 * s j + 3) = gi G 2 (y 5 j) := x.2.2.2.2.2.1
  -- where it is to be written
  obtain ⟨S, eS1, eS0⟩ : ∃ S : Int64, ((gi G 2 (y 5 j) &&& 1073741824) = 0 → S = lN (nm f 11 8)) ∧ (¬ (gi G 2 (y 5 j) &&& 1073741824) = 0 → S = lN l0) := by
    by_cases q : (gi G 2 (y 5 j) &&& 1073741824) = 0
    · exact ⟨_, fun _ => rfl, fun n => absurd q n⟩
    · exact ⟨_, fun n => absurd n q, fun _ => rfl⟩
  have m32 : ∀ K : GS → Prop, (if (gi G 51 (y 14 k)) = (1 : Int32) then (w_M_write_73 t (y 1 0) (fun X => K X) (nI (s j)) S (nI w) m) else ((if (gi G 51 (y 14 k)) = (2 : Int32) then (w_M_write_73 t (y 1 0) (fun X => K X) (nI (s j)) S (nI w) m) else (∀ G4, G4 = sl m 98 (y 1 0) (1852141679 : Int64) → w_M_write_103 t (y 1 0) (fun X => K X) (nI (s j)) S (nI w) G4)))) → w_M_write t m (y 1 0) (nI k) (nI (s j)) (fun X => K X) := fun K hK => by
    have h32 : w_M_write_32 t (y 1 0) (fun X => K X) (nI k) (nI (s j)) S m := ⟨hs.k 1 0, P.get (p := 19) (n := 4) (by omega) (by omega) (fun v2 e2 => by
      rw [lN_i, ← ew] at e2
      subst e2
      refine ⟨y 30 90, hm.m 90, hs.k 30 90, by rw [hs.n 30 90]; exact vp_lt (N := 12) hk, ?_⟩
      rw [cl, f90]; exact hK)⟩
    refine ⟨hs.k 1 0, M_at (c := 3) hs hm x.1 (by omega) ?_⟩
    rw [m3]
    refine iS ⟨fun q => P.get (p := 11) (n := 8) (by omega) (by omega) ?_, fun q => M_at (c := 18) hs hm x.1 (by omega) ?_⟩
    · rw [eS1 q] at h32; exact h32
    · rw [t18, nI_l (by omega)]; rw [eS0 q] at h32; exact h32
  have c20 : ∀ K : GS → Option Nat → Prop, (if nI w ≤ 0 then (w_S_write_171 t (y 0 0) (fun X x => K X x) (nI w) G) else w_S_write_69 t (y 0 0) (fun X x => K X x) (y 14 k) (nI w) (some (y 5 j)) S G) → w_S_write_20 t (y 0 0) (fun X x => K X x) (y 14 k) G := fun K hK => ⟨hs.k 0 0, y 8 0, hz.1.2.2.2.1, hs.k 8 0, fun v2 e2 => by
    have e2 : v2 = nI w := by
      rw [e2, P.mc.1, show (23 : Int32) = nI 23 from rfl, pk_sub (by omega), show z - 23 = w by omega]
    subst e2
    by_cases q : nI w ≤ 0
    · rw [if_pos q] at hK; exact iT q hK
    · rw [if_neg q] at hK
      refine iF q ⟨hs.k 14 k hvk, y 5 j, g48, hs.k 5 j hvj, hs.k 5 j hvj, ?_⟩
      rw [g48, le]
      refine iS ⟨fun q => iT rfl (P.num (p := 11) (n := 8) (by omega) (by omega) ?_), fun q => iF (by decide) ?_⟩
      · rw [eS1 q] at hK; exact hK
      · rw [nI_l (by omega)]; rw [eS0 q] at hK; exact hK⟩
  have e103 : ∀ (K : GS → Prop) (e : Nat) (w' : Int64), lN (er e) = w' → ¬ w' = 0 → K (sl m 98 (y 1 0) (lN (er e))) → ∀ X, X = sl m 98 (y 1 0) w' → w_M_write_103 t (y 1 0) (fun X => K X) (nI (s j)) S (nI w) X := fun K e w' ew hw hK X eX => by
    rw [← ew] at eX
    subst eX
    exact ⟨hs.k 1 0, iF (by rw [gl_at, ew]; exact hw) hK⟩
  by_cases md : gi G 51 (y 14 k) = 1 ∨ gi G 51 (y 14 k) = 2
  · have hn : ¬ gi G 2 (y 5 j) < 0 := by
      rcases f51 with q | ⟨o, ho, q, q2⟩
      · exfalso; rcases md with m' | m' <;> rw [q] at m' <;> exact absurd m' (by decide)
      · refine q2 (fun o0 => ?_)
        rw [o0] at q
        rcases md with m' | m' <;> rw [q] at m' <;> exact absurd m' (by decide)
    refine HR.mono (F1 := fun K => w_S_write_20 t (y 0 0) (fun X x => K X x) (y 14 k) G) (H1 := fun K => w_M_write_73 t (y 1 0) (fun X => K X) (nI (s j)) S (nI w) m) ?_ (fun K hK => ⟨hs.k 14 k hvk, by
      rcases md with m' | m'
      · exact iT m' hK
      · exact iF (by rw [m']; decide) (iT m' hK)⟩) (fun K hK => m32 K (by
      rcases md with m' | m'
      · exact iT m' hK
      · exact iF (by rw [m']; decide) (iT m' hK)))
    by_cases w0 : w = 0
    · have nw : nI w ≤ 0 := by rw [w0]; decide
      refine HR.mono (F1 := fun K => w_Answer_put t G (y 9 0) (nI w).toInt64 (4 : Int32) (fun X => K X (some (tks t 2)))) (H1 := fun K => w_M_put t m (y 1 0) (nI w).toInt64 (4 : Int32) K) (HR.pw P (Pw.put (n := 4) hs hz hm (nI w).toInt64 (by omega) (f := fun X K => w_Answer_put t X (y 9 0) (nI w).toInt64 (4 : Int32) K) (g := fun X K => w_M_put t X (y 1 0) (nI w).toInt64 (4 : Int32) K) (fun _ _ _ q => q) (fun _ _ _ q => q)) (by omega) (fun K hK => hK) (fun K hK => hK)) (fun K hK => c20 K (by rw [if_pos nw]; exact ⟨hs.k 0 0, y 9 0, hz.1.2.2.2.2.1, hs.k 9 0, hK⟩)) (fun K hK => iT nw ⟨hs.k 1 0, iT P.e (iT nw ⟨hs.k 1 0, hK⟩)⟩)
    · have nw : ¬ nI w ≤ 0 := nI_nle (by omega) (by omega)
      refine HR.mono (F1 := fun K => w_S_write_69 t (y 0 0) (fun X x => K X x) (y 14 k) (nI w) (some (y 5 j)) S G) (H1 := fun K => w_M_write_73 t (y 1 0) (fun X => K X) (nI (s j)) S (nI w) m) ?_ (fun K hK => c20 K (by rw [if_neg nw]; exact hK)) (fun K hK => hK)
      by_cases sg : S < 0
      · exact HR.er0 P (j := 23) (by omega) (by omega) (fun K hK => iT sg hK) (fun K hK => iF nw (iT sg ⟨hs.k 1 0, e103 K 23 _ (by decide +kernel) (by decide) hK⟩))
      obtain ⟨o, ho, rfl⟩ := pk_lOf sg
      have e64 : lN o ≤ (64 : Int64) - (nI w).toInt64 ↔ o + w ≤ 64 := by rw [nI_l (by omega)]; exact le64 ho (by omega)
      by_cases how : o + w ≤ 64
      · exact (h_written Q (by omega) (by omega) how hn).mono (fun K hK => hK) (fun K hK => iF nw (iF sg (iT (e64.mpr how) hK)))
      · refine HR.er0 P (j := 23) (by omega) (by omega) (fun K hK => iF sg ?_) (fun K hK => iF nw (iF sg (iF (fun q => how (e64.mp q)) ⟨hs.k 1 0, e103 K 23 _ (by decide +kernel) (by decide) hK⟩)))
        by_cases q64 : 64 < o
        · exact iT ((pk_lLT (a := 64) (b := o) (by decide) ho).mpr q64) hK
        · refine iF (fun q => q64 ((pk_lLT (a := 64) (b := o) (by decide) ho).mp q)) ⟨hs.k 0 0, y 2 0, hz.1.1, hs.k 2 0, y 5 j, rfl, ?_⟩
          rw [nI_l (by omega), lN_add]
          exact S_room hTr Q.np31 hs hz hj hn lb le (by omega) (fun a1 _ => absurd a1 how) (fun _ => iF (by simp) hK)
  · have n1 : ¬ gi G 51 (y 14 k) = 1 := fun q => md (Or.inl q)
    have n2 : ¬ gi G 51 (y 14 k) = 2 := fun q => md (Or.inr q)
    exact HR.er0 P (j := 13) (by omega) (by omega) (fun K hK => ⟨hs.k 14 k hvk, iF n1 (iF n2 hK)⟩) (fun K hK => m32 K (iF n1 (iF n2 (e103 K 13 _ (by decide +kernel) (by decide) hK))))
end WRM
