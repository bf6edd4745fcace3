/-! a node's stat (by hand) -/
theorem sb_low : ∀ w, w < 256 → (sb w).toInt64 = lN (if w < 128 then w else 18446744073709551360 + w) := by decide +kernel
section STAT
variable {t : TY} {y : LYT} {G m : GS}
theorem S_isDirectory (hs : SH t y) {X : GS} {j : Nat} (hj : j < 23) {K : Int32 → Prop} (k : K (if gi X 2 (y 5 j) < 0 then 1 else 0)) : w_Node_isDirectory t X (y 5 j) K := by
  refine ⟨hs.k 5 j (by simp [yV, hj]), iS ⟨fun q => ?_, fun q => ?_⟩⟩
  · rw [if_neg ((dir_bit _).mp q)] at k; exact k
  · rw [if_pos (Classical.byContradiction fun z => q ((dir_bit _).mpr z))] at k; exact k
/-- both put one byte that the class keeps with a sign -/
theorem Pw.byte (hs : SH t y) (hz : FZ y G) (hm : FZ y m) {w : Nat} (hw : w < 256) {f g : GS → (GS → Prop) → Prop} (hf : ∀ A l K, w_Answer_put t (cP y G A l) (y 9 0) (sb w).toInt64 (1 : Int32) K → f (cP y G A l) K) (hg : ∀ B l K, w_M_put t (mP y m B l) (y 1 0) (nI w).toInt64 (1 : Int32) K → g (mP y m B l) K) : Pw y G m 1 f g := fun A B l hl => by
  have hv : (if w < 128 then w else 18446744073709551360 + w) < 2 ^ 64 := by split <;> omega
  have hm8 : (if w < 128 then w else 18446744073709551360 + w) % 256 = w := by split <;> omega
  refine ⟨pB sb A l (if w < 128 then w else 18446744073709551360 + w) 1, pB nI B l w 1, fun k hk => ⟨if_neg (by omega), if_neg (by omega)⟩, fun k h1 h2 => ⟨w, hw, ?_, ?_⟩, fun K hK => hf _ _ _ ?_, fun K hK => hg _ _ _ ?_⟩
  · refine (if_pos ⟨h1, h2⟩).trans ?_
    rw [show k - l = 0 by omega, Nat.pow_zero, Nat.div_one, hm8]
  · refine (if_pos ⟨h1, h2⟩).trans ?_
    rw [show k - l = 0 by omega, Nat.pow_zero, Nat.div_one, Nat.mod_eq_of_lt hw]
  · rw [sb_low w hw]; exact S_put (n := 1) hs hz hv (by omega) hl hK
  · rw [nI_l (by omega)]; exact M_put (n := 1) hs hm (by omega) (by omega) hl hK
theorem M_nameOf {X : GS} {u : Nat} (hu : u < 3) {K : Int64 → Prop} (k : K (lN (er (ttl u)))) : w_M_nameOf t X (nI u) K := by
  rcases (show u = 0 ∨ u = 1 ∨ u = 2 by omega) with rfl | rfl | rfl
  · exact iF (by decide) k
  · exact iT (by decide) (iF (by decide) k)
  · exact iT (by decide) (iT (by decide) k)
theorem ttl29 {u : Nat} (hu : u < 3) : ttl u < 29 := by unfold ttl; omega
theorem M_lenOf {X : GS} {u : Nat} (hu : u < 3) {K : Int32 → Prop} (k : K (nI (slen (ttl u)))) : w_M_lengthOf t X (lN (er (ttl u))) K := by
  obtain ⟨a, b, c⟩ := str7 (ttl u) (ttl29 hu)
  exact M_lengthOf a b c k
/-- how long a stat is -/
def stz (l u0 u1 u2 : Nat) : Nat := 49 + l + slen (ttl u0) + slen (ttl u1) + slen (ttl u2)
theorem stz_e (l u0 u1 u2 : Nat) : ((((49 : Int32) + nI l) + nI (slen (ttl u0))) + nI (slen (ttl u1))) + nI (slen (ttl u2)) = nI (stz l u0 u1 u2) := by
  rw [show (49 : Int32) = nI 49 from rfl, nI_add, nI_add, nI_add, nI_add]; rfl
/-- what a stat tells of a node -/
def NdS (t : TY) (y : LYT) (G m : GS) (j n l u0 u1 u2 : Nat) : Prop := l ≤ 8 ∧ u0 < 3 ∧ u1 < 3 ∧ u2 < 3 ∧ gi G 10 (y 5 j) = nI l ∧ ai m (y 30 70) (83 * n + 9) = nI l ∧ gr G 4 (y 5 j) = some (tad t u0) ∧ gr G 5 (y 5 j) = some (tad t u1) ∧ gr G 6 (y 5 j) = some (tad t u2) ∧ ai m (y 30 70) (83 * n + 5) = nI u0 ∧ ai m (y 30 70) (83 * n + 6) = nI u1 ∧ ai m (y 30 70) (83 * n + 7) = nI u2 ∧ ∀ k, k < l → ∃ w, w < 256 ∧ ai G (y 6 j) k = sb w ∧ ai m (y 30 70) (83 * n + 10 + k) = nI w
theorem NdR.st {j n : Nat} (h : NdR t y G (ai m (y 30 70)) j n) : ∃ l u0 u1 u2, NdS t y G m j n l u0 u1 u2 := by
  obtain ⟨-, -, -, -, -, ⟨u0, h0, a0, b0⟩, ⟨u1, h1, a1, b1⟩, ⟨u2, h2, a2, b2⟩, ⟨l, f, hl, c1, c2, c3, c4⟩, -⟩ := h
  exact ⟨l, u0, u1, u2, hl, h0, h1, h2, c1, c2, a0, a1, a2, b0, b1, b2, fun k hk => ⟨f k, (c3 k hk).1, (c3 k hk).2, c4 k hk⟩⟩
theorem stz_le {l u0 u1 u2 : Nat} (hl : l ≤ 8) (h0 : u0 < 3) (h1 : u1 < 3) (h2 : u2 < 3) : 51 ≤ stz l u0 u1 u2 ∧ stz l u0 u1 u2 ≤ 66 := by
  have : ∀ u, u < 3 → 2 ≤ slen (ttl u) ∧ slen (ttl u) ≤ 3 := by decide
  have a := this u0 h0
  have b := this u1 h1
  have c := this u2 h2
  unfold stz
  omega
theorem S_statSize (hs : SH t y) {X : GS} {j l u0 u1 u2 : Nat} (hj : j < 23) (h0 : u0 < 3) (h1 : u1 < 3) (h2 : u2 < 3) (e : gi X 10 (y 5 j) = nI l) (e0 : gr X 4 (y 5 j) = some (tad t u0)) (e1 : gr X 5 (y 5 j) = some (tad t u1)) (e2 : gr X 6 (y 5 j) = some (tad t u2)) {K : Int32 → Prop} (k : K (nI (stz l u0 u1 u2))) : w_Node_statSize t X (y 5 j) K := by
  refine ⟨hs.k 5 j (by simp [yV, hj]), u0, h0, e0, ttl u0, ttl29 h0, rfl, u1, h1, e1, ttl u1, ttl29 h1, rfl, u2, h2, e2, ttl u2, ttl29 h2, rfl, ?_⟩
  rw [e]; exact (congrArg K (stz_e l u0 u1 u2)).mpr k
theorem M_statSize (hs : SH t y) {X : GS} (hz : FZ y X) {n l u0 u1 u2 : Nat} (hn : n < 21) (h0 : u0 < 3) (h1 : u1 < 3) (h2 : u2 < 3) (e : ai X (y 30 70) (83 * n + 9) = nI l) (e0 : ai X (y 30 70) (83 * n + 5) = nI u0) (e1 : ai X (y 30 70) (83 * n + 6) = nI u1) (e2 : ai X (y 30 70) (83 * n + 7) = nI u2) {K : Int32 → Prop} (k : K (nI (stz l u0 u1 u2))) : w_M_statSize t X (y 1 0) (nI n) K := by
  refine ⟨hs.k 1 0, M_at (c := 9) hs hz hn (by omega) (M_at (c := 5) hs hz hn (by omega) ?_)⟩
  rw [e0]
  refine M_nameOf h0 (M_lenOf h0 (M_at (c := 6) hs hz hn (by omega) ?_))
  rw [e1]
  refine M_nameOf h1 (M_lenOf h1 (M_at (c := 7) hs hz hn (by omega) ?_))
  rw [e2]
  refine M_nameOf h2 (M_lenOf h2 ?_)
  rw [e, stz_e]; exact k
/-- both put a node's stat -/
theorem Pw.stat (hs : SH t y) (hz : FZ y G) (hm : FZ y m) {j n l u0 u1 u2 : Nat} (hj : j < 23) (hn : n < 21) (hd : NdR t y G (ai m (y 30 70)) j n) (hS : NdS t y G m j n l u0 u1 u2) : Pw y G m (stz l u0 u1 u2) (fun X K => w_Answer_putStat t X (y 9 0) (y 5 j) K) (fun X K => w_M_stat t X (y 1 0) (nI n) K) := by
  have hq := Pw.qid hs hz hm hj hn hd
  obtain ⟨-, d1, d2, d3, d4, -, -, -, -, ⟨ln, fn, hln, n1, n2, -, -⟩⟩ := id hd
  obtain ⟨hl, h0, h1, h2, el, ml, g0, g1, g2, m0, m1, m2, hnm⟩ := hS
  have kj : tk t (y 5 j) = 1 := hs.k 5 j (by simp [yV, hj])
  have k9 : tk t (y 9 0) = 6 := hs.k 9 0
  have k1 : tk t (y 1 0) = 10 := hs.k 1 0
  have mA : ∀ B l c, ai (mP y m B l) (y 30 70) c = ai m (y 30 70) c := fun B l c => by rw [cP_70 hs]
  have cA : ∀ A l, ai (cP y G A l) (y 6 j) = ai G (y 6 j) := fun A l => cP_a (hs.ne (by omega) (by simp [yV, hj]) rfl)
  -- the three names at the end
  let fT : GS → (GS → Prop) → Prop := fun G5 K => ∃ u6, u6 < 3 ∧ (gr G5 4 (y 5 j)) = some (tad t u6) ∧ w_Answer_putText t G5 (y 9 0) (some (tks t (ttl u6))) (fun G7 => ∃ u8, u8 < 3 ∧ (gr G7 5 (y 5 j)) = some (tad t u8) ∧ w_Answer_putText t G7 (y 9 0) (some (tks t (ttl u8))) (fun G9 => ∃ u10, u10 < 3 ∧ (gr G9 6 (y 5 j)) = some (tad t u10) ∧ w_Answer_putText t G9 (y 9 0) (some (tks t (ttl u10))) (fun G11 => K G11)))
  let gT : GS → (GS → Prop) → Prop := fun G K => w_M_at t G (y 1 0) (nI n) (5 : Int32) (fun v2 => w_M_nameOf t G v2 (fun v3 => w_M_say t G (y 1 0) v3 (fun G4 => w_M_at t G4 (y 1 0) (nI n) (6 : Int32) (fun v5 => w_M_nameOf t G4 v5 (fun v6 => w_M_say t G4 (y 1 0) v6 (fun G7 => w_M_at t G7 (y 1 0) (nI n) (7 : Int32) (fun v8 => w_M_nameOf t G7 v8 (fun v9 => w_M_say t G7 (y 1 0) v9 (fun G10 => K G10)))))))))
  have hT : Pw y G m ((2 + slen (ttl u0)) + ((2 + slen (ttl u1)) + (2 + slen (ttl u2)))) fT gT := by
    refine (Pw.text hs hz hm (ttl29 h0) (f := fun X K => ∃ u6, u6 < 3 ∧ (gr X 4 (y 5 j)) = some (tad t u6) ∧ w_Answer_putText t X (y 9 0) (some (tks t (ttl u6))) K) (g := fun X K => w_M_at t X (y 1 0) (nI n) (5 : Int32) (fun v2 => w_M_nameOf t X v2 (fun v3 => w_M_say t X (y 1 0) v3 K))) (fun A l K q => ⟨u0, h0, g0, q⟩) (fun B l K q => M_at (c := 5) hs (mP_z hs hm) hn (by omega) (by rw [mA, m0]; exact M_nameOf h0 q))).seq ((Pw.text hs hz hm (ttl29 h1) (f := fun X K => ∃ u6, u6 < 3 ∧ (gr X 5 (y 5 j)) = some (tad t u6) ∧ w_Answer_putText t X (y 9 0) (some (tks t (ttl u6))) K) (g := fun X K => w_M_at t X (y 1 0) (nI n) (6 : Int32) (fun v2 => w_M_nameOf t X v2 (fun v3 => w_M_say t X (y 1 0) v3 K))) (fun A l K q => ⟨u1, h1, g1, q⟩) (fun B l K q => M_at (c := 6) hs (mP_z hs hm) hn (by omega) (by rw [mA, m1]; exact M_nameOf h1 q))).seq (Pw.text hs hz hm (ttl29 h2) (f := fun X K => ∃ u6, u6 < 3 ∧ (gr X 6 (y 5 j)) = some (tad t u6) ∧ w_Answer_putText t X (y 9 0) (some (tks t (ttl u6))) K) (g := fun X K => w_M_at t X (y 1 0) (nI n) (7 : Int32) (fun v2 => w_M_nameOf t X v2 (fun v3 => w_M_say t X (y 1 0) v3 K))) (fun A l K q => ⟨u2, h2, g2, q⟩) (fun B l K q => M_at (c := 7) hs (mP_z hs hm) hn (by omega) (by rw [mA, m2]; exact M_nameOf h2 q))))
  -- the name's bytes from the i-th on
  have hN : ∀ d i, d + i = l → Pw y G m (d + ((2 + slen (ttl u0)) + ((2 + slen (ttl u1)) + (2 + slen (ttl u2))))) (fun X K => w_Answer_putBytes_3 t (y 9 0) (fun G5 => fT G5 K) (d + 1) (y 6 j) (0 : Int32) (nI l) (nI i) X) (fun X K => w_M_stat_102 t (y 1 0) K (d + 1) (nI n) (nI i) X) := fun d => by
    induction d with
    | zero =>
      intro i hi
      have : i = l := by omega
      subst this
      rw [Nat.zero_add]
      refine hT.mono (fun A l' K q => iT (Int32.le_refl _) q) (fun B l' K q => ⟨k1, M_at (c := 9) hs (mP_z hs hm) hn (by omega) ?_⟩)
      rw [mA, ml]
      exact iT (Int32.le_refl _) q
    | succ d ih =>
      intro i hi
      obtain ⟨w, hw, w1, w2⟩ := hnm i (by omega)
      rw [show d + 1 + ((2 + slen (ttl u0)) + ((2 + slen (ttl u1)) + (2 + slen (ttl u2)))) = 1 + (d + ((2 + slen (ttl u0)) + ((2 + slen (ttl u1)) + (2 + slen (ttl u2))))) by omega]
      refine ((Pw.byte hs hz hm hw (f := fun X K => w_Answer_put t X (y 9 0) (sb w).toInt64 (1 : Int32) K) (g := fun X K => w_M_put t X (y 1 0) (nI w).toInt64 (1 : Int32) K) (fun A l K q => q) (fun B l K q => q)).seq (ih (i + 1) (by omega))).mono (fun A l' K q => ?_) (fun B l' K q => ?_)
      · refine iF (nI_ge (by omega) (by omega)) ⟨hs.k 6 j (by simp [yV, hj]), ?_⟩
        rw [hs.n 6 j (by simp [yV, hj]), show (0 : Int32) + nI i = nI i by rw [show (0 : Int32) = nI 0 from rfl, nI_add, Nat.zero_add]]
        refine iF (nI_ge (b := 8) (by omega) (by decide)) ⟨vp_lt (N := 8) (by omega), k9, ?_⟩
        rw [nI_clamp (by omega), cA, w1]
        simp only [nI_1, forall_eq]
        exact q
      · refine ⟨k1, M_at (c := 9) hs (mP_z hs hm) hn (by omega) ?_⟩
        rw [mA, ml]
        refine iF (nI_ge (by omega) (by omega)) ?_
        rw [show (10 : Int32) + nI i = nI (10 + i) by rw [show (10 : Int32) = nI 10 from rfl, nI_add]]
        refine M_at (c := 10 + i) hs (mP_z hs hm) hn (by omega) ?_
        rw [mA, show 83 * n + (10 + i) = 83 * n + 10 + i by omega, w2]
        simp only [nI_1, forall_eq]
        exact q
  -- behind the length
  have hR := (Pw.put (n := 2) hs hz hm (nI l).toInt64 (by omega) (f := fun X K => tk t (y 5 j) = 1 ∧ tk t (y 9 0) = 6 ∧ w_Answer_put t X (y 9 0) ((gi X 10 (y 5 j)).toInt64) (2 : Int32) K) (g := fun X K => tk t (y 1 0) = 10 ∧ w_M_at t X (y 1 0) (nI n) (9 : Int32) (fun v3 => w_M_put t X (y 1 0) v3.toInt64 (2 : Int32) K)) (fun A l' K q => ⟨kj, k9, by rw [cP_i (by omega), el]; exact q⟩) (fun B l' K q => ⟨k1, M_at (c := 9) hs (mP_z hs hm) hn (by omega) (by rw [mA, ml]; exact q)⟩)).seq ((hN l 0 (by omega)).mono (f' := fun X K => ∃ a4, (gr X 9 (y 5 j)) = some a4 ∧ w_Answer_putBytes t X (y 9 0) a4 (0 : Int32) (gi X 10 (y 5 j)) (fun G5 => fT G5 K)) (g' := fun X K => ∃ n', w_M_stat_102 t (y 1 0) K n' (nI n) (0 : Int32) X) (fun A l' K q => ⟨y 6 j, (hz.2.2.2.1 j hj).1, l + 1, by rw [cP_i (by omega), el]; exact q⟩) (fun B l' K q => ⟨l + 1, q⟩))
  -- the length: 0 of a directory
  have hL := ((Pw.put (n := 8) hs hz hm (if gi G 2 (y 5 j) < 0 then 0 else (gi G 12 (y 5 j)).toInt64) (by omega) (f := fun X K => w_Answer_put t X (y 9 0) (if gi G 2 (y 5 j) < 0 then 0 else (gi G 12 (y 5 j)).toInt64) (8 : Int32) K) (g := fun X K => w_M_put t X (y 1 0) (if gi G 2 (y 5 j) < 0 then 0 else (gi G 12 (y 5 j)).toInt64) (8 : Int32) K) (fun A l K q => q) (fun B l K q => q)).seq hR).mono (f' := fun X K => w_Node_isDirectory t X (y 5 j) (fun v8 => (if v8 = 0 then (w_Answer_putStat_71 t (y 9 0) K (y 5 j) (some (y 9 0)) ((gi X 12 (y 5 j)).toInt64) X) else (w_Answer_putStat_71 t (y 9 0) K (y 5 j) (some (y 9 0)) (0 : Int64) X)))) (g' := fun X K => w_M_isDirectory t X (y 1 0) (nI n) (fun v11 => (if v11 = 0 then (w_M_at t X (y 1 0) (nI n) (18 : Int32) (fun v12 => w_M_stat_82 t (y 1 0) K (nI n) (some (y 1 0)) v12.toInt64 X)) else (w_M_stat_82 t (y 1 0) K (nI n) (some (y 1 0)) (0 : Int64) X)))) (fun A l' K q => ?_) (fun B l' K q => ?_)
  · rw [show stz l u0 u1 u2 = 2 + (6 + (13 + (4 + (4 + (4 + (8 + (2 + (l + ((2 + slen (ttl u0)) + ((2 + slen (ttl u1)) + (2 + slen (ttl u2))))))))))) ) by unfold stz; omega]
    refine ((Pw.put (n := 2) hs hz hm ((nI (stz l u0 u1 u2) - (2 : Int32)).toInt64) (by omega) (f := fun X K => w_Node_statSize t X (y 5 j) (fun v1 => tk t (y 9 0) = 6 ∧ w_Answer_put t X (y 9 0) ((v1 - (2 : Int32)).toInt64) (2 : Int32) K)) (g := fun X K => w_M_statSize t X (y 1 0) (nI n) (fun v1 => w_M_put t X (y 1 0) ((v1 - (2 : Int32)).toInt64) (2 : Int32) K)) (fun A l' K q => S_statSize (X := cP y G A l') hs hj h0 h1 h2 (by rw [cP_i (by omega)]; exact el) g0 g1 g2 ⟨k9, q⟩) (fun B l' K q => M_statSize hs (mP_z hs hm) hn h0 h1 h2 (by rw [mA]; exact ml) (by rw [mA]; exact m0) (by rw [mA]; exact m1) (by rw [mA]; exact m2) q)).seq ((Pw.put (n := 6) hs hz hm (0 : Int64) (by omega) (f := fun X K => w_Answer_put t X (y 9 0) (0 : Int64) (6 : Int32) K) (g := fun X K => w_M_put t X (y 1 0) (0 : Int64) (6 : Int32) K) (fun A l K q => q) (fun B l K q => q)).seq (hq.seq ((Pw.put (n := 4) hs hz hm ((gi G 2 (y 5 j)).toInt64) (by omega) (f := fun X K => w_Answer_put t X (y 9 0) ((gi X 2 (y 5 j)).toInt64) (4 : Int32) K) (g := fun X K => w_M_at t X (y 1 0) (nI n) (3 : Int32) (fun v5 => w_M_put t X (y 1 0) v5.toInt64 (4 : Int32) K)) (fun A l K q => by rw [cP_i (by omega)]; exact q) (fun B l K q => M_at (c := 3) hs (mP_z hs hm) hn (by omega) (by rw [mA, d3]; exact q))).seq ((Pw.put (n := 4) hs hz hm ((gi G 3 (y 5 j)).toInt64) (by omega) (f := fun X K => w_Answer_put t X (y 9 0) ((gi X 3 (y 5 j)).toInt64) (4 : Int32) K) (g := fun X K => w_M_at t X (y 1 0) (nI n) (4 : Int32) (fun v5 => w_M_put t X (y 1 0) v5.toInt64 (4 : Int32) K)) (fun A l K q => by rw [cP_i (by omega)]; exact q) (fun B l K q => M_at (c := 4) hs (mP_z hs hm) hn (by omega) (by rw [mA, d4]; exact q))).seq ((Pw.put (n := 4) hs hz hm ((gi G 3 (y 5 j)).toInt64) (by omega) (f := fun X K => w_Answer_put t X (y 9 0) ((gi X 3 (y 5 j)).toInt64) (4 : Int32) K) (g := fun X K => w_M_at t X (y 1 0) (nI n) (4 : Int32) (fun v5 => w_M_put t X (y 1 0) v5.toInt64 (4 : Int32) K)) (fun A l K q => by rw [cP_i (by omega)]; exact q) (fun B l K q => M_at (c := 4) hs (mP_z hs hm) hn (by omega) (by rw [mA, d4]; exact q))).seq hL)))))).mono (fun A l' K q => ⟨kj, q⟩) (fun B l' K q => ⟨k1, q⟩)
  · refine S_isDirectory hs hj ?_
    rw [cP_i (by omega)]
    by_cases z : gi G 2 (y 5 j) < 0
    · rw [if_pos z] at q ⊢
      exact iF (by decide) ⟨y 9 0, rfl, k9, q⟩
    · rw [if_neg z] at q ⊢
      refine iT rfl ⟨y 9 0, rfl, k9, ?_⟩
      rw [cP_i (by omega)]; exact q
  · refine M_isDir hs (mP_z hs hm) hn ?_
    rw [mA, d3]
    by_cases z : gi G 2 (y 5 j) < 0
    · rw [if_pos z] at q ⊢
      exact iF (by decide) ⟨y 1 0, rfl, k1, q⟩
    · rw [if_neg z] at q ⊢
      refine iT rfl (M_at (c := 18) hs (mP_z hs hm) hn (by omega) ?_)
      rw [mA, n2]
      rw [n1] at q
      exact ⟨y 1 0, rfl, k1, q⟩
end STAT
