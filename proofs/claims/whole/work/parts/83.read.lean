/-! read: content (by hand) -/
section RDC
variable {t : TY} {y : LYT} {b c z k j u : Nat} {f : Nat → Nat} {G m : GS} {n np : Nat} {r s : Nat → Nat}
theorem si_comm {G : GS} {f a g b : Nat} {x z : Int32} (h : f ≠ g) : si (si G f a x) g b z = si (si G g b z) f a x := by
  show (_, _) = (_, _)
  congr 1
  funext p q
  show (if p = g ∧ q = b then z else (if p = f ∧ q = a then x else gi G p q)) = (if p = f ∧ q = a then x else (if p = g ∧ q = b then z else gi G p q))
  by_cases w1 : p = g ∧ q = b
  · rw [if_pos w1, if_neg (by omega), if_pos w1]
  · rw [if_neg w1, if_neg w1]
/-- the count comes last in the reference -/
theorem M_218 (hs : SH t y) (hm : FZ y m) {B : Nat → Int32} {l : Nat} (h1 : 11 ≤ l) (h2 : l ≤ 128) {K : GS → Prop} (k : K (mP y m (pB nI B 7 (l - 11) 4) l)) : w_M_read_218 t (y 1 0) K (mP y m B l) := by
  refine ⟨hs.k 1 0, fun v1 e1 G2 e2 => ?_⟩
  rw [mP_l] at e1
  subst e1
  have e2 : G2 = mP y m B 7 := by rw [e2]; unfold mP; rw [si_si]; rfl
  subst e2
  rw [show (11 : Int32) = nI 11 from rfl, pk_sub h1, nI_l (by omega)]
  refine M_put (n := 4) hs hm (by omega) (by omega) (by omega) (fun G4 e4 => ?_)
  have e4 : G4 = mP y m (pB nI B 7 (l - 11) 4) l := by rw [e4]; unfold mP; rw [si_si]
  rw [e4]; exact k
/-- how much may be read -/
def rdN (v ms : Nat) : Nat := if ms - 11 ≤ v then ms - 11 else v
theorem rd_c {v ms : Nat} (hv : v < 2 ^ 32) (h1 : 96 ≤ ms) (h2 : ms ≤ 128) : (lmin (lN v) ((nI ms - (11 : Int32)).toInt64)).toInt32 = nI (rdN v ms) := by
  rw [show (11 : Int32) = nI 11 from rfl, pk_sub (by omega), nI_l (by omega)]
  unfold lmin rdN
  by_cases q : ms - 11 < v
  · rw [if_pos ((pk_lLT (by omega) (by omega)).mpr q), if_pos (by omega), lN_i]
  · rw [if_neg (fun w => q ((pk_lLT (by omega) (by omega)).mp w))]
    by_cases q2 : ms - 11 ≤ v
    · rw [if_pos q2, show v = ms - 11 by omega, lN_i]
    · rw [if_neg q2, lN_i]
/-- bytes of the content, from the i-th on -/
theorem bytes_both (hs : SH t y) (hz : FZ y G) (hm : FZ y m) {T : Nat → Int32} (eT : T = ai m (y 30 70)) {d x o w l0 : Nat} {l8 : Nat} (hd : d < 23) (hx : x < 21) (e18 : T (83 * x + 18) = nI l0) (hl0 : l0 ≤ 64) (hl8 : l8 ≤ 128) (how : o + w ≤ l0) (hend : o + w = l0 ∨ w = l8) (hw8 : w ≤ l8) (hb : ∀ i, i < w → ∃ v, v < 256 ∧ ai G (y 7 d) (o + i) = sb v ∧ T (83 * x + (19 + (o + i))) = nI v) : ∀ (e i : Nat) (A B : Nat → Int32) (l : Nat), i + e = w → l + e ≤ 128 → ∃ A' B', (∀ q, q < l → A' q = A q ∧ B' q = B q) ∧ (∀ q, l ≤ q → q < l + e → ∃ v, v < 256 ∧ A' q = sb v ∧ B' q = nI v) ∧ (∀ K : GS → Prop, K (cP y G A' (l + e)) → ∃ q, w_Answer_putBytes_3 t (y 9 0) K q (y 7 d) (nI o) (nI w) (nI i) (cP y G A l)) ∧ (∀ K : GS → Prop, w_M_read_218 t (y 1 0) K (mP y m B' (l + e)) → ∃ q, w_M_read_171 t (y 1 0) K q (nI x) (lN o) (nI l8) (nI (o + i)) (mP y m B l)) ∧ (e = 0 → B' = B)
  | 0, i, A, B, l, hi, hl => by
    obtain rfl : i = w := by omega
    refine ⟨A, B, fun _ _ => ⟨rfl, rfl⟩, fun q h1 h2 => by omega, fun K hK => ⟨1, iT (Int32.le_refl _) hK⟩, fun K hK => ⟨1, hs.k 1 0, M_at (c := 18) hs (mP_z hs hm) hx (by omega) ?_⟩, fun _ => rfl⟩
    rw [cP_70 hs, ← eT, e18, nI_l (n := l8) (by omega), lN_add, nI_l (n := o + i) (by omega)]
    rcases hend with q | q
    · exact iT (nI_le (by omega) (by omega)) hK
    · by_cases q2 : l0 ≤ o + i
      · exact iT (nI_le q2 (by omega)) hK
      · exact iF (nI_ge (by omega) (by omega)) (iT ((pk_lLE (by omega) (by omega)).mpr (by omega)) hK)
  | e + 1, i, A, B, l, hi, hl => by
    have hv7 : yV 7 d = true := by simp [yV, hd]
    obtain ⟨v, hv, a1, a2⟩ := hb i (by omega)
    obtain ⟨A1, B1, p1, p2, p3, p4⟩ := Pw.byte (t := t) hs hz hm hv (f := fun X K => w_Answer_put t X (y 9 0) (sb v).toInt64 (1 : Int32) K) (g := fun X K => w_M_put t X (y 1 0) (nI v).toInt64 (1 : Int32) K) (fun _ _ _ q => q) (fun _ _ _ q => q) A B l (by omega)
    obtain ⟨A2, B2, q1, q2, q3, q4, -⟩ := bytes_both hs hz hm eT hd hx e18 hl0 hl8 how hend hw8 hb e (i + 1) A1 B1 (l + 1) (by omega) (by omega)
    rw [show l + 1 + e = l + (e + 1) by omega] at q2 q3 q4
    refine ⟨A2, B2, fun q hq => ⟨(q1 q (by omega)).1.trans (p1 q hq).1, (q1 q (by omega)).2.trans (p1 q hq).2⟩, fun q h1 h2 => ?_, fun K hK => ?_, fun K hK => ?_, fun w => absurd w (by omega)⟩
    · by_cases w' : q < l + 1
      · obtain ⟨v', b1, b2, b3⟩ := p2 q h1 w'
        exact ⟨v', b1, (q1 q w').1.trans b2, (q1 q w').2.trans b3⟩
      · exact q2 q (by omega) h2
    · obtain ⟨q, hq⟩ := q3 K hK
      refine ⟨q + 1, iF (nI_ge (by omega) (by omega)) ⟨hs.k 7 d hv7, ?_⟩⟩
      rw [nI_add, hs.n 7 d hv7]
      refine iF (nI_ge (b := 64) (by omega) (by decide)) ⟨vp_lt (N := 64) (by omega), hs.k 9 0, ?_⟩
      rw [nI_clamp (by omega), cP_a (hs.ne (by omega) hv7 rfl), a1]
      refine p3 _ (fun v2 e2 => ?_)
      rw [nI_1] at e2
      subst e2; exact hq
    · obtain ⟨q, hq⟩ := q4 K hK
      refine ⟨q + 1, hs.k 1 0, M_at (c := 18) hs (mP_z hs hm) hx (by omega) ?_⟩
      rw [cP_70 hs, ← eT, e18, nI_l (n := l8) (by omega), lN_add, nI_l (n := o + i) (by omega)]
      refine iF (nI_ge (by omega) (by omega)) (iF (fun w' => by have := (pk_lLE (by omega) (by omega)).mp w'; omega) ?_)
      rw [show (19 : Int32) + nI (o + i) = nI (19 + (o + i)) from nI_add 19 (o + i)]
      refine M_at (c := 19 + (o + i)) hs (mP_z hs hm) hx (by omega) ?_
      rw [cP_70 hs, ← eT, a2]
      refine p4 _ (fun v4 e4 => ?_)
      rw [nI_1] at e4
      subst e4; exact hq
theorem h_content (Q : FP t y b c z f G m n r s np k j u) (h4 : f 4 = 116) (hn : ¬ gi G 2 (y 5 j) < 0) {l8 : Nat} (hl8 : l8 ≤ 117) : HR t y b c G m (fun K => w_S_readContent t G (y 0 0) (y 5 j) (lN (nm f 11 8)) (nI l8) (fun X => K X (some (tks t 2)))) (fun K => w_M_read_89 t (y 1 0) (fun X => K X) (nI k) (nI (s j)) (lN (nm f 11 8)) (nI l8) m) := by
  obtain ⟨P, hZ, hk, hus, hj, hu, g48, g50, h99, f90, f51⟩ := id Q
  have hs := P.s
  have hz := P.g
  have hm := P.hm
  have hTr := Q.tr
  have x := hTr.nd hj
  have hj20 := hTr.le hj
  have hvj : yV 5 j = true := by simp [yV]; omega
  have f3 : ai m (y 30 70) (83 * s j + 3) = gi G 2 (y 5 j) := x.2.2.2.2.2.1
  obtain ⟨-, -, -, -, -, -, -, -, -, ⟨l0, g0, lb, le, t18, w4, w5⟩⟩ := x.2.2
  have n8 : nm f 11 8 < 2 ^ 64 := nm_l P.hf.2.2.1 (by omega)
  -- one way for both: o, w
  have go : ∀ o w, o + w ≤ l0 → (o + w = l0 ∨ w = l8) → w ≤ l8 → (∀ K : GS → Prop, w_S_readContent_25 t (y 0 0) K (y 5 j) (nI l8) (nI o) G → w_S_readContent t G (y 0 0) (y 5 j) (lN (nm f 11 8)) (nI l8) K) → imin (nI l8) (nI l0 - nI o) = nI w → (∀ (K : GS → Prop) (B : Nat → Int32), (w = 0 → w_M_read_218 t (y 1 0) (fun X => K X) (mP y m B 11)) → (0 < w → ∃ q, w_M_read_171 t (y 1 0) (fun X => K X) q (nI (s j)) (lN o) (nI l8) (nI o) (mP y m B 11)) → (if lN (nm f 11 8) < (0 : Int64) then (w_M_read_218 t (y 1 0) (fun X => K X) (mP y m B 11)) else (if (nI l0).toInt64 ≤ lN (nm f 11 8) then (w_M_read_218 t (y 1 0) (fun X => K X) (mP y m B 11)) else (∀ v4 : Int32, v4 = (lN (nm f 11 8)).toInt32 → ∃ q, w_M_read_171 t (y 1 0) (fun X => K X) q (nI (s j)) (lN (nm f 11 8)) (nI l8) v4 (mP y m B 11))))) → HR t y b c G m (fun K => w_S_readContent t G (y 0 0) (y 5 j) (lN (nm f 11 8)) (nI l8) (fun X => K X (some (tks t 2)))) (fun K => w_M_read_89 t (y 1 0) (fun X => K X) (nI k) (nI (s j)) (lN (nm f 11 8)) (nI l8) m) := fun o w how hend hw8 hc himn hM => by
    obtain ⟨A', B', p1, p2, p3, p4, p5⟩ := bytes_both (t := t) hs hz hm (T := ai m (y 30 70)) rfl (d := j) (x := s j) (o := o) (w := w) (l0 := l0) (l8 := l8) (by omega) x.1 t18 lb (by omega) how hend hw8 (fun i hi => by
      have := w5 (o + i) (by omega)
      rw [show 83 * s j + 19 + (o + i) = 83 * s j + (19 + (o + i)) by omega] at this
      exact ⟨g0 (o + i), (w4 _ (by omega)).1, (w4 _ (by omega)).2, this⟩) w 0 (pB sb (ai G (y 22 0)) 7 w 4) (pB nI (ai m (y 30 96)) 7 0 4) 11 (by omega) (by omega)
    refine ⟨cP y G A' (11 + w), mP y m (pB nI B' 7 (11 + w - 11) 4) (11 + w), 2, by omega, P.i.x xC.rf.cP xM.rf.mP, (xC.rf.cP).eS hs, fun K hK => hc _ ⟨hs.k 5 j hvj, fun v1 e1 => ?_⟩, fun K hK => ⟨hs.k 1 0, ?_⟩, fun _ => ⟨fun q h1 h2 => ?_, mP_a (hs.ne (by omega)), by rw [er2]; exact P.e, cP_i (by omega), p58 (cP_i (by omega)) (cP_i (by omega)), fun _ => ⟨11 + w, by omega, by omega, cP_l, mP_l, fun q h1 h2 => ?_⟩⟩⟩
    · rw [le, himn] at e1
      subst e1
      refine ⟨hs.k 0 0, y 9 0, hz.1.2.2.2.2.1, hs.k 9 0, ?_⟩
      rw [nI_l (by omega)]
      have := S_put (t := t) (G := G) (A := ai G (y 22 0)) (l := 7) (v := w) (n := 4) hs hz (by omega) (by omega) (by omega) (K := fun G3 => ∃ a4, (gr G3 67 (y 0 0)) = some a4 ∧ tk t a4 = 6 ∧ ∃ a5, (gr G3 11 (y 5 j)) = some a5 ∧ w_Answer_putBytes t G3 a4 a5 (nI o) (nI w) (fun G6 => K G6 (some (tks t 2)))) ⟨y 9 0, (cP_z hs hz).1.2.2.2.2.1, hs.k 9 0, y 7 j, ((cP_z hs hz).2.2.2.1 j (by omega)).2, p3 _ hK⟩
      rw [cP_self P.lc] at this
      exact this
    · have := M_put (t := t) (m := m) (A := ai m (y 30 96)) (l := 7) (v := 0) (n := 4) hs hm (by omega) (by omega) (by omega) (K := fun G1 => w_M_isDirectory t G1 (y 1 0) (nI (s j)) (fun v2 => (if v2 = 0 then ((if lN (nm f 11 8) < (0 : Int64) then (w_M_read_218 t (y 1 0) (fun X => K X) G1) else (w_M_at t G1 (y 1 0) (nI (s j)) (18 : Int32) (fun v3 => (if v3.toInt64 ≤ lN (nm f 11 8) then (w_M_read_218 t (y 1 0) (fun X => K X) G1) else (∀ v4 : Int32, v4 = (lN (nm f 11 8)).toInt32 → ∃ n, w_M_read_171 t (y 1 0) (fun X => K X) n (nI (s j)) (lN (nm f 11 8)) (nI l8) v4 G1)))))) else ((if lN (nm f 11 8) = (0 : Int64) then (w_M_read_132 t (y 1 0) (fun X => K X) (nI k) (nI (s j)) (lN (nm f 11 8)) (nI l8) G1) else (∃ a5, (gr G1 92 (y 1 0)) = some a5 ∧ tk t a5 = 53 ∧ vp_in (nI k) (tn t a5) ∧ (if lN (nm f 11 8) = (al G1 a5 (nI k).toNatClampNeg) then (w_M_read_132 t (y 1 0) (fun X => K X) (nI k) (nI (s j)) (lN (nm f 11 8)) (nI l8) G1) else (∀ G6, G6 = sl G1 98 (y 1 0) (127979076609647 : Int64) → w_M_read_218 t (y 1 0) (fun X => K X) G6)))))))) (M_isDir hs (mP_z hs hm) x.1 (by
          rw [cP_70 hs, f3, if_neg hn]
          refine iT rfl ?_
          have h := hM K (pB nI (ai m (y 30 96)) 7 0 4) (fun w0 => by
            rw [← p5 w0]
            rw [w0] at hK
            exact M_218 hs hm (by omega) (by omega) hK) (fun wp => p4 _ (M_218 hs hm (by omega) (by omega) hK))
          by_cases q : lN (nm f 11 8) < (0 : Int64)
          · rw [if_pos q] at h; exact iT q h
          · rw [if_neg q] at h
            refine iF q (M_at (c := 18) hs (mP_z hs hm) x.1 (by omega) ?_)
            rw [cP_70 hs, t18]; exact h))
      rw [mP_self P.lm] at this
      exact this
    · rw [cP_A]
      exact (p1 q (by omega)).1.trans (if_neg (by omega))
    · rw [cP_A, mP_A]
      by_cases q11 : q < 11
      · refine ⟨w / 256 ^ (q - 7) % 256, Nat.mod_lt _ (by omega), ?_, ?_⟩
        · exact (p1 q q11).1.trans (if_pos (by omega))
        · rw [show 11 + w - 11 = w by omega]; exact if_pos (by omega)
      · obtain ⟨v, b1, b2, b3⟩ := p2 q (by omega) h2
        exact ⟨v, b1, b2, (if_neg (by omega)).trans b3⟩
  have im0 : ∀ a : Nat, a < 2 ^ 31 → imin (nI a) (nI l0 - nI l0) = nI 0 := fun a ha => by
    rw [pk_sub (Nat.le_refl _), Nat.sub_self]
    unfold imin
    by_cases q : nI 0 < nI a
    · rw [if_pos q]
    · rw [if_neg q]
      have : a = 0 := Classical.byContradiction fun w => q (nI_lt (by omega) ha)
      rw [this]
  have c16 : ∀ K : GS → Prop, w_S_readContent_25 t (y 0 0) K (y 5 j) (nI l8) (nI l0) G → w_S_readContent_16 t (y 0 0) K (y 5 j) (nI l8) G := fun K hK => ⟨hs.k 5 j hvj, by rw [le]; exact hK⟩
  by_cases sg : lN (nm f 11 8) < (0 : Int64)
  · exact go l0 0 (by omega) (Or.inl rfl) (by omega) (fun K hK => iT sg (c16 K hK)) (im0 l8 (by omega)) (fun K B h0 _ => iT sg (h0 rfl))
  obtain ⟨o, ho, eo⟩ := pk_lOf sg
  rw [eo] at sg go ⊢
  have cl0 : (nI l0).toInt64 = lN l0 := nI_l (by omega)
  by_cases q : o ≤ l0
  · have c25 : ∀ K : GS → Prop, w_S_readContent_25 t (y 0 0) K (y 5 j) (nI l8) (nI o) G → w_S_readContent t G (y 0 0) (y 5 j) (lN o) (nI l8) K := fun K hK => iF sg ⟨hs.k 5 j hvj, iT (by rw [le, cl0]; exact (pk_lLE ho (by omega)).mpr q) (by rw [lN_i]; exact hK)⟩
    by_cases q2 : l8 ≤ l0 - o
    · refine go o l8 (by omega) (Or.inr rfl) (Nat.le_refl _) c25 ?_ (fun K B h0 h1 => iF sg ?_)
      · rw [pk_sub q]; unfold imin; rw [if_neg (nI_nlt q2 (by omega))]
      · rw [cl0]
        by_cases q3 : l0 ≤ o
        · exact iT ((pk_lLE (by omega) ho).mpr q3) (h0 (by omega))
        · refine iF (fun w => q3 ((pk_lLE (by omega) ho).mp w)) (fun v4 e4 => ?_)
          rw [lN_i] at e4
          subst e4
          by_cases q4 : l8 = 0
          · have h0 := h0 q4
            refine ⟨1, hs.k 1 0, M_at (c := 18) hs (mP_z hs hm) x.1 (by omega) ?_⟩
            rw [cP_70 hs, t18, nI_l (n := l8) (by omega), lN_add, nI_l (n := o) (by omega)]
            exact iF (nI_ge (by omega) (by omega)) (iT ((pk_lLE (by omega) (by omega)).mpr (by omega)) h0)
          · exact h1 (by omega)
    · refine go o (l0 - o) (by omega) (Or.inl (by omega)) (by omega) c25 ?_ (fun K B h0 h1 => iF sg ?_)
      · rw [pk_sub q]; unfold imin; rw [if_pos (nI_lt (by omega) (by omega))]
      · rw [cl0]
        by_cases q3 : l0 ≤ o
        · exact iT ((pk_lLE (by omega) ho).mpr q3) (h0 (by omega))
        · refine iF (fun w => q3 ((pk_lLE (by omega) ho).mp w)) (fun v4 e4 => ?_)
          rw [lN_i] at e4
          subst e4
          exact h1 (by omega)
  · exact go l0 0 (by omega) (Or.inl rfl) (by omega) (fun K hK => iF sg ⟨hs.k 5 j hvj, iF (fun w => q (by rw [le, cl0] at w; exact (pk_lLE ho (by omega)).mp w)) (c16 K hK)⟩) (im0 l8 (by omega)) (fun K B h0 _ => iF sg (iT (by rw [cl0]; exact (pk_lLE (by omega) ho).mpr (by omega)) (h0 rfl)))
end RDC
