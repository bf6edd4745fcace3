/-! runs that alter a node, and blocks (by hand) -/
theorem cnt_congr {P Q : Nat → Bool} : ∀ {n : Nat}, (∀ i, i < n → P i = Q i) → cnt P n = cnt Q n
  | 0, _ => rfl
  | n + 1, h => by
    show cnt P n + (if P n = true then 1 else 0) = cnt Q n + (if Q n = true then 1 else 0)
    rw [cnt_congr (fun i hi => h i (by omega)), h n (by omega)]
theorem sm_upd {w : Nat → Nat} {a v n : Nat} (ha : a < n) : sm (fun q => if q = a then v else w q) n + w a = sm w n + v := by
  rw [sm_take (w := fun q => if q = a then v else w q) ha, sm_take (w := w) ha]
  have : sm (fun i => if i = a then 0 else (if i = a then v else w i)) n = sm (fun i => if i = a then 0 else w i) n := sm_congr fun i _ => by
    by_cases q : i = a
    · rw [if_pos q, if_pos q]
    · rw [if_neg q, if_neg q, if_neg q]
  rw [this]
  show _ + (if a = a then v else w a) + w a = _
  rw [if_pos rfl]; omega
theorem mBl_eq {T T' : Nat → Int32} {q : Nat} (h3 : T' (83 * q + 3) = T (83 * q + 3)) (h18 : T' (83 * q + 18) = T (83 * q + 18)) (h1 : T' (83 * q + 1) = T (83 * q + 1)) (h0 : ∀ e, e < 20 → T' (83 * (e + 1)) = T (83 * (e + 1)) ∧ T' (83 * (e + 1) + 8) = T (83 * (e + 1) + 8)) : mBl T' q = mBl T q := by
  unfold mBl
  rw [h3, h18, h1, cnt_congr (n := 20) (P := fun e => decide (T' (83 * (e + 1)) = 1 ∧ T' (83 * (e + 1) + 8) = T (83 * q + 1))) (Q := fun e => decide (T (83 * (e + 1)) = 1 ∧ T (83 * (e + 1) + 8) = T (83 * q + 1))) (fun e he => by rw [(h0 e he).1, (h0 e he).2])]
section RUNS
variable {t : TY} {y : LYT} {G m : GS} {T : Nat → Int32} {n np z : Nat} {r s f : Nat → Nat}
theorem TrR.wts (h : TrR t y G T n r s np) (hb : np < 2 ^ 31) (hs : SH t y) : ∃ w : Nat → Nat, (∀ q, q < 21 → w q ≤ 20 ∧ (T (83 * q) = 1 → mBl T q = nI (w q)) ∧ (¬ T (83 * q) = 1 → w q = 0)) ∧ sm w 21 = tBl y G n r ∧ ∀ j, lvN n r j → w (s j) = cBl y G n r j := by
  have hw : ∀ j, lvN n r j → (if T (83 * s j) = 1 then (mBl T (s j)).toNatClampNeg else 0) = cBl y G n r j := fun j hj => by
    have hbl := h.bl hb hs hj
    rw [if_pos (h.nd hj).2.2.1, hbl.2.1, nI_clamp (by omega)]
  refine ⟨fun q => if T (83 * q) = 1 then (mBl T q).toNatClampNeg else 0, fun q hq => ⟨?_, fun ht => ?_, fun ht => if_neg ht⟩, ?_, hw⟩
  · by_cases ht : T (83 * q) = 1
    · obtain ⟨j, hj, rfl⟩ := h.slot hq ht
      show (if _ then _ else _) ≤ 20
      rw [hw j hj]; exact (h.bl hb hs hj).1
    · show (if _ then _ else _) ≤ 20
      rw [if_neg ht]; omega
  · obtain ⟨j, hj, rfl⟩ := h.slot hq ht
    show _ = nI (if _ then _ else _)
    rw [hw j hj]; exact (h.bl hb hs hj).2.1
  · rw [h.sum hb _ (fun q hq ht => if_neg ht)]
    have e0 : (if T (83 * 0) = 1 then (mBl T 0).toNatClampNeg else 0) = cBl y G n r 0 := by have := hw 0 lv0; rw [h.2.2.2.2.2.2.2.2.2.1] at this; exact this
    rw [e0, sm_congr (fun i hi => hw _ (h.in hi))]; rfl
/-- a node's length changes: the blocks of all -/
theorem TrR.tct (h : TrR t y G T n r s np) (hs : SH t y) {d l l0 : Nat} (hd : lvN n r d) (hn : ¬ gi G 2 (y 5 d) < 0) {A : Nat → Int32} (hl : l ≤ 64) (hl0 : l0 ≤ 64) (e12 : gi G 12 (y 5 d) = nI l0) : tBl y (ctC y G d l A) n r + (l0 + 15) / 16 = tBl y G n r + (l + 15) / 16 := by
  have hd20 := h.le hd
  have g2 : ∀ a, gi (ctC y G d l A) 2 a = gi G 2 a := fun a => gi_ne (by omega)
  have g7 : ∀ a, gr (ctC y G d l A) 7 a = gr G 7 a := fun a => rfl
  have o : ∀ j, j ≤ 20 → j ≠ d → cBl y (ctC y G d l A) n r j = cBl y G n r j := fun j hj q => by
    unfold cBl
    have : gi (ctC y G d l A) 12 (y 5 j) = gi G 12 (y 5 j) := gi_na (fun w => q (y5 hs (by omega) (by omega) w))
    rw [g2, this]; rfl
  have cd : cBl y (ctC y G d l A) n r d = (l + 15) / 16 := by
    unfold cBl
    rw [g2, if_neg hn]
    have : gi (ctC y G d l A) 12 (y 5 d) = nI l := gi_at
    rw [this, nI_clamp (by omega)]
  have cd0 : cBl y G n r d = (l0 + 15) / 16 := by
    unfold cBl
    rw [if_neg hn, e12, nI_clamp (by omega)]
  have r20 : ∀ i, i < n → r i ≤ 20 ∧ 1 ≤ r i := fun i hi => by
    have := h.1
    have := h.2.2.2.2.1 i (by omega)
    omega
  unfold tBl
  rcases hd with rfl | ⟨i0, hi0, rfl⟩
  · rw [cd, cd0, sm_congr (w := fun i => cBl y (ctC y G 0 l A) n r (r i)) (v := fun i => cBl y G n r (r i)) (fun i hi => o _ (r20 i hi).1 (by have := r20 i hi; omega))]
    omega
  · rw [o 0 (by omega) (by have := r20 i0 hi0; omega)]
    have e1 : sm (fun i => cBl y (ctC y G (r i0) l A) n r (r i)) n = sm (fun i => if i = i0 then (l + 15) / 16 else cBl y G n r (r i)) n := sm_congr fun i hi => by
      by_cases q : i = i0
      · show cBl y (ctC y G (r i0) l A) n r (r i) = _
        rw [if_pos q, q, cd]
      · show cBl y (ctC y G (r i0) l A) n r (r i) = _
        rw [if_neg q, o _ (r20 i hi).1 (fun w => q (h.2.2.2.2.2.1 i i0 (by have := h.1; omega) (by have := h.1; omega) w))]
    have e2 := sm_upd (w := fun i => cBl y G n r (r i)) (a := i0) (v := (l + 15) / 16) hi0
    rw [e1]
    rw [cd0] at e2
    omega
/-- .. as the reference counts them -/
theorem TrR.mct (h : TrR t y G T n r s np) (hb : np < 2 ^ 31) (hs : SH t y) (hm : FZ y m) {d l l0 : Nat} (hd : lvN n r d) (hn : ¬ gi G 2 (y 5 d) < 0) (hl : l ≤ 64) (hl0 : l0 ≤ 64) (e12 : gi G 12 (y 5 d) = nI l0) (t1 : ∀ k, ¬ (83 * s d + 2 ≤ k ∧ k < 83 * s d + 83) → ai m (y 30 70) k = T k) (t3 : ai m (y 30 70) (83 * s d + 3) = T (83 * s d + 3)) (t8 : ai m (y 30 70) (83 * s d + 8) = T (83 * s d + 8)) (t18 : ai m (y 30 70) (83 * s d + 18) = nI l) {K : Int32 → Prop} (k : K (nI (tBl y G n r + (l + 15) / 16 - (l0 + 15) / 16))) : w_M_blocks t m (y 1 0) K := by
  obtain ⟨w, w1, w2, w3⟩ := h.wts hb hs
  have x := h.nd hd
  have cd0 : w (s d) = (l0 + 15) / 16 := by
    rw [w3 d hd]; unfold cBl
    rw [if_neg hn, e12, nI_clamp (by omega)]
  have e0 : ∀ q, q < 21 → ai m (y 30 70) (83 * q) = T (83 * q) := fun q hq => t1 _ (by omega)
  have e8 : ∀ q, q < 21 → ai m (y 30 70) (83 * q + 8) = T (83 * q + 8) := fun q hq => by
    by_cases w : q = s d
    · rw [w]; exact t8
    · exact t1 _ (by omega)
  refine M_blocks (w := fun q => if q = s d then (l + 15) / 16 else w q) hs hm (fun q hq => ⟨?_, fun ht => ?_, fun ht => ?_⟩) ?_
  · show (if q = s d then (l + 15) / 16 else w q) ≤ 20
    split
    · omega
    · exact (w1 q hq).1
  · show _ = nI (if q = s d then (l + 15) / 16 else w q)
    by_cases e : q = s d
    · rw [if_pos e, e]
      unfold mBl
      rw [t3, x.2.2.2.2.2.1, if_neg hn, t18, show (15 : Int32) = nI 15 from rfl, show (16 : Int32) = nI 16 from rfl, nI_add, pk_div (by omega) (by omega) (by omega)]
    · rw [if_neg e, mBl_eq (T := T) (t1 _ (by omega)) (t1 _ (by omega)) (t1 _ (by omega)) (fun e he => ⟨e0 _ (by omega), e8 _ (by omega)⟩)]
      exact (w1 q hq).2.1 (by rw [← e0 q hq]; exact ht)
  · show (if q = s d then (l + 15) / 16 else w q) = 0
    rw [if_neg (fun e => ht (by rw [e, e0 _ x.1]; exact x.2.2.1))]
    exact (w1 q hq).2.2 (fun e => ht (by rw [e0 q hq]; exact e))
  · have := sm_upd (w := w) (a := s d) (v := (l + 15) / 16) x.1
    rw [cd0, w2] at this
    rw [show sm (fun q => if q = s d then (l + 15) / 16 else w q) 21 = tBl y G n r + (l + 15) / 16 - (l0 + 15) / 16 by omega]
    exact k
theorem nb_0 : vp_nar .byte (0 : Int32) = 0 := by decide
/-- the class's resize -/
theorem S_resize (hs : SH t y) (hz : FZ y G) {d l l0 : Nat} (hd : d < 23) (hl : l ≤ 64) (hl0 : l0 ≤ 64) (e12 : gi G 12 (y 5 d) = nI l0) {K : GS → Prop} (k : K (ctC y G d l (fun i => if l ≤ i ∧ i < l0 then 0 else ai G (y 7 d) i))) : w_Node_resize t G (y 5 d) (nI l) K := by
  have hv : yV 5 d = true := by simp [yV, hd]
  have hv7 : yV 7 d = true := by simp [yV, hd]
  obtain ⟨e, he⟩ : ∃ e, e = if l ≤ l0 then l0 else l := ⟨_, rfl⟩
  have key := pk_loop (fun q i (_ : Unit) => w_Node_resize_2 t (y 5 d) K q (nI l) (nI i) (aw G (y 7 d) (fun k => if l ≤ k ∧ k < i then 0 else ai G (y 7 d) k))) (fun i _ => l ≤ i) e l () (by rw [he]; split <;> omega) (Nat.le_refl _) (fun q _ _ => ?_) (fun q i _ hi hli ih => ?_)
  · obtain ⟨q, hq⟩ := key
    refine ⟨q, ?_⟩
    have e0 : (fun k => if l ≤ k ∧ k < l then (0 : Int32) else ai G (y 7 d) k) = ai G (y 7 d) := funext fun k => if_neg (by omega)
    have hq : w_Node_resize_2 t (y 5 d) K q (nI l) (nI l) (aw G (y 7 d) (fun k => if l ≤ k ∧ k < l then 0 else ai G (y 7 d) k)) := hq
    rw [e0, aw_self] at hq
    exact hq
  · refine ⟨hs.k 5 d hv, ?_⟩
    show if gi G 12 (y 5 d) ≤ nI e then _ else _
    rw [e12]
    have e64 : e ≤ 64 := by rw [he]; split <;> omega
    refine iT (nI_le (by rw [he]; split <;> omega) (by omega)) ?_
    intro X eX
    subst eX
    have e1 : (fun k => if l ≤ k ∧ k < e then (0 : Int32) else ai G (y 7 d) k) = (fun i => if l ≤ i ∧ i < l0 then 0 else ai G (y 7 d) i) := funext fun k => by
      by_cases q : l ≤ l0
      · rw [he, if_pos q]
      · rw [he, if_neg q, if_neg (by omega), if_neg (by omega)]
    rw [e1]; exact k
  · have hil : i < l0 := by
      rw [he] at hi
      by_cases q : l ≤ l0
      · rw [if_pos q] at hi; exact hi
      · rw [if_neg q] at hi
        omega
    refine ⟨hs.k 5 d hv, ?_⟩
    show if gi G 12 (y 5 d) ≤ nI i then _ else _
    rw [e12]
    refine iF (nI_ge hil (by omega)) ⟨y 7 d, (hz.2.2.2.1 d hd).2, hs.k 7 d hv7, by rw [hs.n 7 d hv7]; exact vp_lt (N := 64) (by omega), ?_⟩
    intro X eX v4 e4
    rw [nI_clamp (by omega), nb_0, aw_ais] at eX
    rw [nI_1] at e4
    subst eX e4
    have e1 : (fun k => if k = i then (0 : Int32) else if l ≤ k ∧ k < i then 0 else ai G (y 7 d) k) = (fun k => if l ≤ k ∧ k < i + 1 then 0 else ai G (y 7 d) k) := funext fun k => by
      by_cases q : k = i
      · rw [if_pos q]
        by_cases q2 : l ≤ k ∧ k < i + 1
        · rw [if_pos q2]
        · exact absurd ⟨by omega, by omega⟩ q2
      · rw [if_neg q]
        by_cases q2 : l ≤ k ∧ k < i
        · rw [if_pos q2, if_pos (by omega)]
        · rw [if_neg q2, if_neg (by omega)]
    rw [e1]
    exact ih () (by omega)
/-- the reference's cells as a whole -/
def w70 (y : LYT) (m : GS) (T : Nat → Int32) : GS := aw m (y 30 70) T
theorem w70_s {c v : Nat} {x : Int32} : ais (w70 y m T) (y 30 70) (83 * c + v) x = w70 y m (cS T c v x) := by
  unfold w70
  rw [aw_ais]; rfl
theorem w70_70 : ai (w70 y m T) (y 30 70) = T := aw_at
theorem w70_o {a : Nat} (h : a ≠ y 30 70) : ai (w70 y m T) a = ai m a := aw_ne h
theorem w70_self : w70 y m (ai m (y 30 70)) = m := aw_self
theorem w70_z (hs : SH t y) (hm : FZ y m) : FZ y (w70 y m T) := hm.to hs (sZ.of (fun _ _ => rfl) (fun _ => rfl))
theorem w70_ch {c u : Nat} : chM y (w70 y m T) c u = w70 y m (cG T c (gi m 78 (y 1 0)) u) := by
  unfold chM
  rw [w70_70, w70_s]
  show ais (ais (w70 y m (cS T c 2 (T (83 * c + 2) + 1))) (y 30 70) (83 * c + 4) (gi m 78 (y 1 0))) (y 30 70) (83 * c + 7) (nI u) = _
  rw [w70_s, w70_s]; rfl
theorem w70_m (hs : SH t y) (h : MsM y m z f) : MsM y (w70 y m T) z f := ⟨h.1, fun k hk => by rw [w70_o (hs.ne (by omega))]; exact h.2 k hk⟩
/-- the reference's resize -/
theorem M_resize (hs : SH t y) (hm : FZ y m) {c l l0 u : Nat} (hc : c < 21) (hl : l ≤ 64) (hl0 : l0 ≤ 64) (e18 : T (83 * c + 18) = nI l0) (h99 : gi m 99 (y 1 0) = nI u) {K : GS → Prop} (k : K (w70 y m (cG (ctT T c l (fun i => if l0 ≤ i ∧ i < l then 0 else T (83 * c + 19 + i))) c (gi m 78 (y 1 0)) u))) : w_M_resize t (w70 y m T) (y 1 0) (nI c) (nI l) K := by
  refine ⟨hs.k 1 0, M_at (c := 18) hs (w70_z hs hm) hc (by omega) ?_⟩
  rw [w70_70, e18]
  obtain ⟨e, he⟩ : ∃ e, e = if l0 ≤ l then l else l0 := ⟨_, rfl⟩
  have e64 : e ≤ 64 := by rw [he]; split <;> omega
  have key := pk_loop (fun q i (_ : Unit) => w_M_resize_8 t (y 1 0) K q (nI c) (nI l) (nI i) (w70 y m (fun k => if 83 * c + 19 + l0 ≤ k ∧ k < 83 * c + 19 + i then 0 else T k))) (fun i _ => l0 ≤ i) e l0 () (by rw [he]; split <;> omega) (Nat.le_refl _) (fun q _ _ => ?_) (fun q i _ hi hli ih => ?_)
  · obtain ⟨q, hq⟩ := key
    refine ⟨q, ?_⟩
    have e0 : (fun k => if 83 * c + 19 + l0 ≤ k ∧ k < 83 * c + 19 + l0 then (0 : Int32) else T k) = T := funext fun k => if_neg (by omega)
    have hq : w_M_resize_8 t (y 1 0) K q (nI c) (nI l) (nI l0) (w70 y m (fun k => if 83 * c + 19 + l0 ≤ k ∧ k < 83 * c + 19 + l0 then 0 else T k)) := hq
    rw [e0] at hq
    exact hq
  · refine iT (nI_le (by rw [he]; split <;> omega) (by omega)) ⟨hs.k 1 0, M_set (c := 18) hs (w70_z hs hm) hc (by omega) ?_⟩
    rw [w70_s]
    have e9 : gi (w70 y m (cS (fun k => if 83 * c + 19 + l0 ≤ k ∧ k < 83 * c + 19 + e then 0 else T k) c 18 (nI l))) 99 (y 1 0) = nI u := h99
    rw [e9]
    refine M_changes hs (w70_z hs hm) hc ?_
    rw [w70_ch]
    have e1 : cS (fun k => if 83 * c + 19 + l0 ≤ k ∧ k < 83 * c + 19 + e then 0 else T k) c 18 (nI l) = ctT T c l (fun i => if l0 ≤ i ∧ i < l then 0 else T (83 * c + 19 + i)) := funext fun k => by
      show (if k = 83 * c + 18 then nI l else (if 83 * c + 19 + l0 ≤ k ∧ k < 83 * c + 19 + e then 0 else T k)) = (if k = 83 * c + 18 then nI l else if 83 * c + 19 ≤ k ∧ k < 83 * c + 83 then (if l0 ≤ k - (83 * c + 19) ∧ k - (83 * c + 19) < l then 0 else T (83 * c + 19 + (k - (83 * c + 19)))) else T k)
      by_cases q : k = 83 * c + 18
      · rw [if_pos q, if_pos q]
      · rw [if_neg q, if_neg q]
        by_cases q2 : 83 * c + 19 ≤ k ∧ k < 83 * c + 83
        · rw [if_pos q2]
          by_cases q3 : 83 * c + 19 + l0 ≤ k ∧ k < 83 * c + 19 + e
          · have : l0 ≤ l := Classical.byContradiction fun w => by rw [he, if_neg w] at q3; omega
            rw [he, if_pos this] at q3
            rw [he, if_pos this, if_pos q3, if_pos (by omega)]
          · rw [if_neg q3]
            by_cases q4 : l0 ≤ k - (83 * c + 19) ∧ k - (83 * c + 19) < l
            · exfalso; rw [he, if_pos (by omega)] at q3; omega
            · rw [if_neg q4, show 83 * c + 19 + (k - (83 * c + 19)) = k by omega]
        · rw [if_neg q2, if_neg (by omega)]
    rw [e1]; exact k
  · have hil : i < l := by
      rw [he] at hi
      by_cases q : l0 ≤ l
      · rw [if_pos q] at hi; exact hi
      · rw [if_neg q] at hi; omega
    refine iF (nI_ge hil (by omega)) ⟨hs.k 1 0, ?_⟩
    rw [show (19 : Int32) + nI i = nI (19 + i) from nI_add 19 i]
    refine M_set (c := 19 + i) hs (w70_z hs hm) hc (by omega) ?_
    rw [w70_s]
    intro v4 e4
    rw [nI_1] at e4
    subst e4
    have e1 : cS (fun k => if 83 * c + 19 + l0 ≤ k ∧ k < 83 * c + 19 + i then 0 else T k) c (19 + i) 0 = (fun k => if 83 * c + 19 + l0 ≤ k ∧ k < 83 * c + 19 + (i + 1) then 0 else T k) := funext fun k => by
      show (if k = 83 * c + (19 + i) then 0 else (if 83 * c + 19 + l0 ≤ k ∧ k < 83 * c + 19 + i then 0 else T k)) = (if 83 * c + 19 + l0 ≤ k ∧ k < 83 * c + 19 + (i + 1) then 0 else T k)
      by_cases q : k = 83 * c + (19 + i)
      · rw [if_pos q, if_pos (by omega)]
      · rw [if_neg q]
        by_cases q2 : 83 * c + 19 + l0 ≤ k ∧ k < 83 * c + 19 + i
        · rw [if_pos q2, if_pos (by omega)]
        · rw [if_neg q2, if_neg (by omega)]
    rw [e1]
    exact ih () (by omega)
/-- the class's rename -/
theorem S_rename (hs : SH t y) (hz : FZ y G) {d l : Nat} (hd : d < 23) (hl : l ≤ 8) {g : Nat → Nat} (hg : ∀ k, k < l → ai G (y 17 0) k = sb (g k)) {K : GS → Prop} (k : K (nmC y G d l (fun i => if i < l then sb (g i) else ai G (y 6 d) i))) : w_Node_rename t G (y 5 d) (y 17 0) (nI l) K := by
  have hv : yV 5 d = true := by simp [yV, hd]
  have hv6 : yV 6 d = true := by simp [yV, hd]
  have n176 : y 17 0 ≠ y 6 d := hs.ne (by omega) rfl hv6
  refine ⟨hs.k 5 d hv, ?_⟩
  intro G1 e1
  have key := pk_loop (fun q i (_ : Unit) => w_Node_rename_7 t (y 5 d) K q (y 17 0) (nI l) (nI i) (nmC y G d i (fun k => if k < i then sb (g k) else ai G (y 6 d) k))) (fun _ _ => True) l 0 () (by omega) trivial (fun q _ _ => iT (Int32.le_refl _) k) (fun q i _ hi _ ih => ?_)
  · obtain ⟨q, hq⟩ := key
    refine ⟨q, ?_⟩
    have e0 : (fun k => if k < 0 then sb (g k) else ai G (y 6 d) k) = ai G (y 6 d) := funext fun k => if_neg (by omega)
    have hq : w_Node_rename_7 t (y 5 d) K q (y 17 0) (nI l) (nI 0) (nmC y G d 0 (fun k => if k < 0 then sb (g k) else ai G (y 6 d) k)) := hq
    unfold nmC at hq
    rw [e0, aw_self] at hq
    rw [e1]
    exact hq
  · have hzX : FZ y (nmC y G d i (fun k => if k < i then sb (g k) else ai G (y 6 d) k)) := hz.to hs (sZ.of (fun _ _ => rfl) (fun _ => rfl))
    refine iF (nI_ge hi (by omega)) (iF (nI_ge (b := 8) (by omega) (by decide)) ⟨hs.k 5 d hv, hs.k 17 0, by rw [hs.n 17 0]; exact vp_lt (N := 8) (by omega), y 6 d, (hzX.2.2.2.1 d hd).1, hs.k 6 d hv6, by rw [hs.n 6 d hv6]; exact vp_lt (N := 8) (by omega), ?_⟩)
    intro G2 e2 G3 e3 v4 e4
    have a17 : ai (nmC y G d i (fun k => if k < i then sb (g k) else ai G (y 6 d) k)) (y 17 0) i = sb (g i) := by
      rw [← hg i hi]
      exact congrFun (aw_ne n176) i
    rw [nI_clamp (by omega), a17, nb_sb] at e2
    have e5 : gi G2 10 (y 5 d) = nI i := by rw [e2]; exact gi_at
    rw [e5, nI_1] at e3
    rw [nI_1] at e4
    subst e4
    have e6 : G3 = nmC y G d (i + 1) (fun k => if k < i + 1 then sb (g k) else ai G (y 6 d) k) := by
      rw [e3, e2]
      show si (si (ais (aw G (y 6 d) (fun k => if k < i then sb (g k) else ai G (y 6 d) k)) (y 6 d) i (sb (g i))) 10 (y 5 d) (nI i)) 10 (y 5 d) (nI (i + 1)) = _
      rw [si_si, aw_ais]
      unfold nmC
      congr 2
      funext k
      by_cases q : k = i
      · rw [if_pos q, if_pos (by omega), q]
      · rw [if_neg q]
        by_cases q2 : k < i
        · rw [if_pos q2, if_pos (by omega)]
        · rw [if_neg q2, if_neg (by omega)]
    rw [e6]
    exact ih () trivial
/-- the reference's rename -/
theorem M_rename (hs : SH t y) (hm : FZ y m) (hf : MsF z f) (h : MsM y m z f) {c q : Nat} (hc : c < 21) (hq : q + 2 + nm f q 2 ≤ z) (hl : nm f q 2 ≤ 8) {K : GS → Prop} (k : K (w70 y m (nmT T c (nm f q 2) (fun i => f (q + 2 + i))))) : w_M_rename t (w70 y m T) (y 1 0) (nI c) (nI q) K := by
  have hz := hf.2.1
  refine ⟨hs.k 1 0, M_get (n := 2) hs (w70_z hs hm) hf (w70_m hs h) (by omega) (by omega) ?_⟩
  intro v2 e
  rw [lN_i] at e
  subst e
  refine M_set (c := 9) hs (w70_z hs hm) hc (by omega) ?_
  rw [w70_s]
  have key := pk_loop (fun x i (_ : Unit) => w_M_rename_19 t (y 1 0) K x (nI c) (nI q) (nI (nm f q 2)) (nI i) (w70 y m (fun k => if k = 83 * c + 9 then nI (nm f q 2) else if 83 * c + 10 ≤ k ∧ k < 83 * c + 10 + i then nI (f (q + 2 + (k - (83 * c + 10)))) else T k))) (fun _ _ => True) (nm f q 2) 0 () (by omega) trivial (fun x _ _ => iT (Int32.le_refl _) k) (fun x i _ hi _ ih => ?_)
  · obtain ⟨x, hx⟩ := key
    refine ⟨x, ?_⟩
    have e0 : (fun k => if k = 83 * c + 9 then nI (nm f q 2) else if 83 * c + 10 ≤ k ∧ k < 83 * c + 10 + 0 then nI (f (q + 2 + (k - (83 * c + 10)))) else T k) = cS T c 9 (nI (nm f q 2)) := funext fun k => by
      show (if k = 83 * c + 9 then nI (nm f q 2) else if 83 * c + 10 ≤ k ∧ k < 83 * c + 10 + 0 then nI (f (q + 2 + (k - (83 * c + 10)))) else T k) = (if k = 83 * c + 9 then nI (nm f q 2) else T k)
      by_cases w : k = 83 * c + 9
      · rw [if_pos w, if_pos w]
      · rw [if_neg w, if_neg w, if_neg (by omega)]
    have hx : w_M_rename_19 t (y 1 0) K x (nI c) (nI q) (nI (nm f q 2)) (nI 0) (w70 y m (fun k => if k = 83 * c + 9 then nI (nm f q 2) else if 83 * c + 10 ≤ k ∧ k < 83 * c + 10 + 0 then nI (f (q + 2 + (k - (83 * c + 10)))) else T k)) := hx
    rw [e0] at hx
    exact hx
  · have ei : nI q + 2 + nI i = nI (q + 2 + i) := by rw [show nI q + 2 = nI (q + 2) from nI_add q 2, nI_add]
    refine iF (nI_ge hi (by omega)) ⟨hs.k 1 0, y 30 94, (w70_z hs hm).m 94, hs.k 30 94, by rw [hs.n 30 94, ei]; exact vp_lt (N := 128) (by omega), ?_⟩
    rw [ei, nI_clamp (by omega), w70_o (hs.ne (by omega)), h.2 _ (by omega), show (10 : Int32) + nI i = nI (10 + i) from nI_add 10 i]
    refine M_set (c := 10 + i) hs (w70_z hs hm) hc (by omega) ?_
    rw [w70_s]
    intro v3 e3
    rw [nI_1] at e3
    subst e3
    have e1 : cS (fun k => if k = 83 * c + 9 then nI (nm f q 2) else if 83 * c + 10 ≤ k ∧ k < 83 * c + 10 + i then nI (f (q + 2 + (k - (83 * c + 10)))) else T k) c (10 + i) (nI (f (q + 2 + i))) = (fun k => if k = 83 * c + 9 then nI (nm f q 2) else if 83 * c + 10 ≤ k ∧ k < 83 * c + 10 + (i + 1) then nI (f (q + 2 + (k - (83 * c + 10)))) else T k) := funext fun k => by
      show (if k = 83 * c + (10 + i) then nI (f (q + 2 + i)) else (if k = 83 * c + 9 then nI (nm f q 2) else if 83 * c + 10 ≤ k ∧ k < 83 * c + 10 + i then nI (f (q + 2 + (k - (83 * c + 10)))) else T k)) = (if k = 83 * c + 9 then nI (nm f q 2) else if 83 * c + 10 ≤ k ∧ k < 83 * c + 10 + (i + 1) then nI (f (q + 2 + (k - (83 * c + 10)))) else T k)
      by_cases w : k = 83 * c + (10 + i)
      · rw [if_pos w, if_neg (by omega), if_pos (by omega), show k - (83 * c + 10) = i by omega]
      · rw [if_neg w]
        by_cases w2 : k = 83 * c + 9
        · rw [if_pos w2, if_pos w2]
        · rw [if_neg w2, if_neg w2]
          by_cases w3 : 83 * c + 10 ≤ k ∧ k < 83 * c + 10 + i
          · rw [if_pos w3, if_pos (by omega)]
          · rw [if_neg w3, if_neg (by omega)]
    rw [e1]
    exact ih () trivial
end RUNS
