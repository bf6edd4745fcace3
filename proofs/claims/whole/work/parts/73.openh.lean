/-! the message that opens a fid (by hand) -/
section OPX
variable {t : TY} {y : LYT} {b c z k j u : Nat} {f : Nat → Nat} {G m : GS} {n np : Nat} {r s : Nat → Nat}
/-- qid and a zero -/
theorem Pw.qid4 (hs : SH t y) (hz : FZ y G) (hm : FZ y m) {d x : Nat} (hd : d < 23) (hx : x < 21) (h : NdR t y G (ai m (y 30 70)) d x) : Pw y G m (13 + 4) (fun X K => w_Answer_putQid t X (y 9 0) (y 5 d) (fun G3 => ∃ a4, (gr G3 67 (y 0 0)) = some a4 ∧ tk t a4 = 6 ∧ w_Answer_put t G3 a4 (0 : Int64) (4 : Int32) K)) (fun X K => w_M_qid t X (y 1 0) (nI x) (fun X' => w_M_put t X' (y 1 0) (0 : Int64) (4 : Int32) K)) :=
  Pw.seq (f1 := fun X K => w_Answer_putQid t X (y 9 0) (y 5 d) K) (g1 := fun X K => w_M_qid t X (y 1 0) (nI x) K) (f2 := fun X K => ∃ a4, (gr X 67 (y 0 0)) = some a4 ∧ tk t a4 = 6 ∧ w_Answer_put t X a4 (0 : Int64) (4 : Int32) K) (g2 := fun X K => w_M_put t X (y 1 0) (0 : Int64) (4 : Int32) K) (Pw.qid hs hz hm hd hx h) (Pw.a9 (t := t) (F := fun X a K => w_Answer_put t X a (0 : Int64) (4 : Int32) K) hs hz (Pw.put (n := 4) hs hz hm 0 (by omega) (fun _ _ _ q => q) (fun _ _ _ q => q)))
theorem h_opened (Q : FP t y b c z f G m n r s np k j u) (h51 : gi G 51 (y 14 k) = -1) {o : Nat} (ho : o < 256) {l4 : Int32} (hl4 : (nI o &&& 16) = 0 → l4 = 0) (hl4' : ¬ (nI o &&& 16) = 0 → l4 = 1) (hnd : ¬ nI o = 0 → ¬ gi G 2 (y 5 j) < 0) : HR t y b c G m (fun K => w_S_open_115 t (y 0 0) K (y 14 k) (nI o) (some (y 5 j)) G) (fun K => w_M_reach_313 t (y 1 0) K (nI k) (nI (s j)) (nI o) l4 m) := by
  obtain ⟨P, hZ, hk, hus, hj, hu, g48, g50, h99, f90, f51⟩ := id Q
  have hs := P.s
  have hm := P.hm
  have hnp := Q.np31
  have hTr := Q.tr
  have x := hTr.nd hj
  have hj20 := hTr.le hj
  have hvj : yV 5 j = true := by simp [yV]; omega
  have hvk : yV 14 k = true := by simp [yV, hk]
  obtain ⟨w1, w2⟩ := fid_opened hZ hk hus h51 ho (fun w j' e => by
    have : j' = j ∨ y 5 j' = y 5 j := Or.inr (Option.some.inj (e.symm.trans g48))
    rcases this with q | q
    · rw [q]; exact hnd (fun n => w (by rw [show o = 0 from (nI_eq (b := 0) (by omega) (by decide)).mp n]))
    · rw [q]; exact hnd (fun n => w (by rw [show o = 0 from (nI_eq (b := 0) (by omega) (by decide)).mp n])))
  obtain ⟨G1, eG1⟩ : ∃ X, X = opC y G k (nI o) := ⟨_, rfl⟩
  obtain ⟨m1, em1⟩ : ∃ X, X = opM y m k (nI o) := ⟨_, rfl⟩
  rw [← eG1, ← em1] at w1 w2
  have fc : fC y k G G1 := by rw [eG1]; exact opC_f
  have fm : fM y k m m1 := by rw [em1]; exact opM_f
  have Z1 := hZ.fid hk fc fm w1 w2
  have P1 : Pre t y b c z f G1 m1 := P.fid hZ hk fc fm w1 w2
  have T1 : TrR t y G1 (ai m (y 30 70)) n r s np := hTr.to fc.agC.1
  have e70 : ai m1 (y 30 70) = ai m (y 30 70) := fm.ma hs rfl (by omega)
  have g2 : gi G1 2 (y 5 j) = gi G 2 (y 5 j) := (fc.1 2 _ (by omega)).1
  have m3 : ai m (y 30 70) (83 * s j + 3) = gi G 2 (y 5 j) := x.2.2.2.2.2.1
  -- the plain way
  have plain : ((nI o &&& 16) = 0 ∨ ¬ (gi G 2 (y 5 j) &&& 1073741824) = 0) → HR t y b c G m (fun K => w_S_open_115 t (y 0 0) K (y 14 k) (nI o) (some (y 5 j)) G) (fun K => w_M_reach_313 t (y 1 0) K (nI k) (nI (s j)) (nI o) l4 m) := fun hw => by
    have N1 : NdR t y G1 (ai m1 (y 30 70)) j (s j) := by rw [e70]; exact (T1.nd hj).2.2
    refine HR.step (G1 := G1) (m1 := m1) (F1 := fun K => w_Answer_putQid t G1 (y 9 0) (y 5 j) (fun G3 => ∃ a4, (gr G3 67 (y 0 0)) = some a4 ∧ tk t a4 = 6 ∧ w_Answer_put t G3 a4 (0 : Int64) (4 : Int32) (fun X => K X (some (tks t 2))))) (H1 := fun K => w_M_qid t m1 (y 1 0) (nI (s j)) (fun X' => w_M_put t X' (y 1 0) (0 : Int64) (4 : Int32) K)) (HR.pw P1 (Pw.qid4 hs P1.g P1.hm (by omega) x.1 N1) (by omega) (fun K hK => hK) (fun K hK => hK)) P.hc fc.e fc.kk (fm.kk hs) (fun K hK => ⟨hs.k 14 k hvk, S_fidOpen hs hk ?_⟩) (fun K hK => ⟨hs.k 1 0, iT P.e ?_⟩)
    · rw [← eG1]
      have h175 : w_S_open_175 t (y 0 0) K (some (y 5 j)) G1 := ⟨hs.k 0 0, y 9 0, P1.g.1.2.2.2.2.1, hs.k 9 0, y 5 j, rfl, hK⟩
      by_cases q : (nI o &&& 16) = 0
      · exact iT q h175
      · have hw : ¬ (gi G 2 (y 5 j) &&& 1073741824) = 0 := by rcases hw with w | w; exact absurd w q; exact w
        exact iF q ⟨y 5 j, rfl, hs.k 5 j hvj, hs.k 5 j hvj, iF (by rw [g2]; exact hw) (iT (by decide) h175)⟩
    · have h374 : w_M_reach_374 t (y 1 0) K (nI k) (nI (s j)) (nI o) m := ⟨hs.k 1 0, M_fidOpen hs hm hk (by rw [← em1]; exact hK)⟩
      by_cases q : (nI o &&& 16) = 0
      · exact iT (hl4 q) h374
      · have hw : ¬ (gi G 2 (y 5 j) &&& 1073741824) = 0 := by rcases hw with w | w; exact absurd w q; exact w
        exact iF (by rw [hl4' q]; decide) (M_at (c := 3) hs hm x.1 (by omega) (by rw [m3]; exact iT hw h374))
  by_cases q16 : (nI o &&& 16) = 0
  · exact plain (Or.inl q16)
  by_cases qap : (gi G 2 (y 5 j) &&& 1073741824) = 0
  · -- the content is cut away
    have hn := hnd (fun n => q16 (by rw [n]; rfl))
    obtain ⟨l0, lb, le, -⟩ := hTr.2.2.2.2.2.2.2.2.2.2.2.2.2.2.2.2 j hj20
    have t18 : ai m (y 30 70) (83 * s j + 18) = nI l0 := by
      obtain ⟨-, -, -, -, -, -, -, -, -, ⟨l2, g2, w1, w2, w3, -⟩⟩ := x.2.2
      rw [w3, ← le, w2]
    have run1 : gi G1 19 (y 3 0) = 1 := P1.r
    have hz1 := P1.g
    have c50 : gr G1 50 (y 14 k) = some (tad t u) := by rw [eG1]; exact g50
    obtain ⟨G5, eG5⟩ : ∃ X, X = bgC y G1 (tad t 6) (y 5 j) (some (tad t u)) (gi G1 69 (y 0 0)) := ⟨_, rfl⟩
    obtain ⟨G7, eG7⟩ : ∃ X, X = si G5 25 (y 4 0) 0 := ⟨_, rfl⟩
    have cc : cC y G1 G7 := by rw [eG7, eG5]; exact cC.rf.bg.si (f := 25)
    obtain ⟨m3', em3⟩ : ∃ X, X = aw m (y 30 71) (mix (ai m (y 30 70)) (ai m (y 30 71)) 1743) := ⟨_, rfl⟩
    have c3 : cM5 y m m3' := by rw [em3]; exact cM5.rf.aw (Or.inr rfl)
    have t3 : ai m3' (y 30 70) = ai m (y 30 70) := by rw [em3]; exact aw_ne (hs.ne (by omega))
    have hm3 := c3.fz hs hm
    obtain ⟨m5, em5⟩ : ∃ X, X = chM y (ais m3' (y 30 70) (83 * s j + 18) 0) (s j) u := ⟨_, rfl⟩
    have cm : cM5 y m m5 := by rw [em5]; exact c3.ais.ais.ais.ais
    have tm : gi G1 69 (y 0 0) = gi m 78 (y 1 0) := ((fc.1 69 _ (by omega)).1).trans hZ.2.2.2.1.2.2.1
    have P5 : ai m5 (y 30 70) = cG (cS (ai m (y 30 70)) (s j) 18 0) (s j) (gi G1 69 (y 0 0)) u := by
      rw [em5, chM_70, ais_cS, t3, tm, em3]; rfl
    have e5 : ctT (ai m (y 30 70)) (s j) 0 (fun i => if l0 ≤ i ∧ i < 0 then 0 else ai m (y 30 70) (83 * s j + 19 + i)) = cS (ai m (y 30 70)) (s j) 18 0 := funext fun q => by
      show (if q = 83 * s j + 18 then nI 0 else if 83 * s j + 19 ≤ q ∧ q < 83 * s j + 83 then (if l0 ≤ q - (83 * s j + 19) ∧ q - (83 * s j + 19) < 0 then 0 else ai m (y 30 70) (83 * s j + 19 + (q - (83 * s j + 19)))) else ai m (y 30 70) q) = (if q = 83 * s j + 18 then 0 else ai m (y 30 70) q)
      by_cases w : q = 83 * s j + 18
      · rw [if_pos w, if_pos w]; rfl
      · rw [if_neg w, if_neg w]
        by_cases w2 : 83 * s j + 19 ≤ q ∧ q < 83 * s j + 83
        · rw [if_pos w2, if_neg (by omega), show 83 * s j + 19 + (q - (83 * s j + 19)) = q by omega]
        · rw [if_neg w2]
    have o5 : ai (opM y m5 k (nI o)) (y 30 70) = ai m5 (y 30 70) := (opM_f (k := k)).ma hs rfl (by omega)
    have o71 : ai (opM y m5 k (nI o)) (y 30 71) = ai m5 (y 30 71) := (opM_f (k := k)).ma hs rfl (by omega)
    have h71 : ∀ i, i < 1743 → ai (opM y m5 k (nI o)) (y 30 71) i = ai m1 (y 30 70) i := fun i hi => by
      have : ai m5 (y 30 71) = mix (ai m (y 30 70)) (ai m (y 30 71)) 1743 := by rw [em5, chM_o (hs.ne (by omega)), ai_nb (hs.ne (by omega)), em3, aw_at]
      rw [o71, e70, this]; show (if i < 1743 then _ else _) = _; rw [if_pos hi]
    have hv7 := @bgC_v y G1 (tad t 6) (y 5 j) (some (tad t u)) (gi G1 69 (y 0 0))
    have gR : ∀ f a, gr G7 f a = gr G5 f a := fun f a => by rw [eG7]; rfl
    have gI : ∀ f a, f ≠ 25 → gi G7 f a = gi G5 f a := fun f a q => by rw [eG7]; exact gi_ne q
    have hT7 : TrR t y G7 (ai m (y 30 70)) n r s np := T1.to (cc.agT hs)
    have x19 : gi G7 19 (y 3 0) = gi G1 19 (y 3 0) := cc.1 19 _ (by omega)
    have hS : Stg t y G7 (ai (opM y m5 k (nI o)) (y 30 70)) n r np np := by
      rw [o5, P5, ← e5]
      exact stg_al hT7 hnp hs hj hu (by rw [gR, eG5]; exact hv7.1) ⟨by rw [gR, eG5]; exact hv7.2.1, by rw [gR, eG5]; exact hv7.2.2, by rw [gI _ _ (by omega), eG5]; exact bgC_24⟩ lb ((cc.1 12 _ (by omega)).trans (((fc.1 12 _ (by omega)).1).trans le)) (some 0) (by rw [eG7]; exact gi_at) (fun l hl => by
        obtain rfl : 0 = l := Option.some.inj hl
        refine ⟨by omega, by rw [cc.1 2 _ (by omega), g2]; exact hn, ?_⟩
        have := hT7.b24
        omega) none (by rw [gI _ _ (by omega), eG5, if_pos rfl]; simp [bgC, giS, giR]) (fun v hv => absurd hv (by simp)) none (by rw [gR, eG5]; simp [bgC, grS, grR]) (fun v hv => absurd hv (by simp)) (l := 0) (hm := 0) (g := fun _ => 0) (by rw [gI _ _ (by omega), eG5]; simp [bgC, giS, giR]; rfl) (by omega) (fun h => absurd h (by omega)) none (by rw [gI _ _ (by omega), eG5, if_pos rfl]; simp [bgC, giS, giR]) (fun v hv => absurd hv (by simp))
    have hz128 := P.hf.2.1
    have e37 : gi G7 37 (y 8 0) = nI z := (cc.1 37 _ (by omega)).trans P1.mc.1
    have e95 : gi m5 95 (y 1 0) = nI z := (cm.1 _ _).trans P.mm.1
    have hz7 := cc.fz hs hz1
    have e45 : gi G7 45 (y 9 0) = nI 7 := (cc.1 45 _ (by omega)).trans P1.lc
    have cgo : ∀ K : GS → Option Nat → Prop, w_S_carryOut t G7 (y 0 0) (nI z) (fun X => w_S_open_175 t (y 0 0) K (some (y 5 j)) X) → w_S_open_115 t (y 0 0) K (y 14 k) (nI o) (some (y 5 j)) G := fun K hK => ⟨hs.k 14 k hvk, S_fidOpen hs hk (by
      rw [← eG1]
      refine iF q16 ⟨y 5 j, rfl, hs.k 5 j hvj, hs.k 5 j hvj, iT (by rw [g2]; exact qap) (iF (by simp) ⟨hs.k 0 0, y 4 0, hz1.1.2.2.1, hs.k 4 0, ?_⟩)⟩
      rw [c50]
      refine S_begin hs ?_
      rw [← eG5]
      refine ⟨y 4 0, by rw [← gR]; exact hz7.1.2.2.1, hs.k 4 0, fun X eX => ?_⟩
      rw [← eG7] at eX
      subst eX
      exact ⟨y 8 0, hz7.1.2.2.2.1, hs.k 8 0, by rw [e37]; exact hK⟩)⟩
    have mgo : ∀ K : GS → Prop, w_M_commit t m5 (y 1 0) (nI z) (fun X v6 => (if ¬ v6 = 0 then (w_M_reach_374 t (y 1 0) K (nI k) (nI (s j)) (nI o) X) else (K X))) → w_M_reach_313 t (y 1 0) K (nI k) (nI (s j)) (nI o) l4 m := fun K hK => by
      refine ⟨hs.k 1 0, iT P.e (iF (by rw [hl4' q16]; decide) (M_at (c := 3) hs hm x.1 (by omega) ?_))⟩
      rw [m3]
      refine iF (fun w => w qap) (M_begin hs hm ?_)
      rw [← em3]
      refine M_set (c := 18) hs hm3 x.1 (by omega) ?_
      have e99 : gi (ais m3' (y 30 70) (83 * s j + 18) 0) 99 (y 1 0) = nI u := (c3.1 _ _).trans h99
      rw [e99]
      refine M_changes hs ?_ x.1 ?_
      · exact hm3.to hs (sZ.of (fun _ _ => rfl) (fun _ => rfl))
      · rw [← em5]
        show w_M_commit t m5 (y 1 0) (gi m5 95 (y 1 0)) _
        rw [e95]
        exact hK
    have s76 : gi G7 18 (y 3 0) = gi m5 76 (y 1 0) := by
      rw [cc.1 18 _ (by omega), (fc.1 18 _ (by omega)).1, cm.1]; exact hZ.2.2.2.1.2.1
    have hm5 := cm.fz hs hm
    have cm' : cM5 y m1 (opM y m5 k (nI o)) := by rw [em1]; exact cM5_op cm
    rcases carryH Z1 run1 cc cm' h71 hS (zz := z) (by omega) (Nat.le_refl _) Z1.2.2.2.2.2.2.2.2.2.1 with ⟨d1, d2, d3, d4, -, d6, d7⟩ | ⟨G2, n', r', s', U, hc⟩
    · have hzd := d1.2.1
      have e45d : gi (gdN y G7 z) 45 (y 9 0) = nI 7 := by
        unfold gdN
        rw [rsL_o (by omega) (Or.inl (by omega)), rsL_o (by omega) (Or.inl (by omega))]
        unfold adN
        rw [gi_ne (by omega), gi_ne (by omega), gi_ne (by omega), gi_ne (by omega)]
        exact e45
      obtain ⟨X, xx, rX⟩ := S_qid4 (t := t) hs hzd e45d (d := j) (by omega)
      have om := oM_cmN (zz := z) (opM_o (y := y) (m := m5) (k := k) (v := nI o)).sy hs
      have dI : InvY t y b (gdN y G7 z) (cmN y m5 z) := d1.dead d3 om.1 om.2.1 om.2.2.1 (fun f hv h => om.ar' hs hv h)
      refine HR.down (j := 2) (by omega) (dI.x xx xM.rf) ((fc.e.tr d2).tr (xx.eS hs)) ((xx.1 19 _ (by omega)).trans d3) (fun K hK => cgo K (d4 _ ⟨hs.k 0 0, y 9 0, hzd.1.2.2.2.2.1, hs.k 9 0, y 5 j, rfl, rX _ hK⟩)) (fun K hK => mgo K (M_commitN hs hm5 (by omega) (by rw [← s76]; exact d6) (by rw [← s76]; exact d7) (iF (by simp) hK)))
    · have e74 : gi (opM y m5 k (nI o)) 74 (y 1 0) = nI (np - 1) := (cm.1 74 _).trans hZ.2.2.2.2.2.2.2.2.1
      have sm := U.same e74
      obtain ⟨u1, u2, u3, u4, u5, u6, u7, -, -, u10⟩ := U
      rw [sm] at u1 u6
      have P2 := P1.to u1.of u2 u5 u6 P.hb
      have T2 := u1.2.2.2.2.2.2.1
      have c70 : ai (cmY y (opM y m5 k (nI o)) z) (y 30 70) = ai m5 (y 30 70) := o5
      have q0 : ai (cmY y (opM y m5 k (nI o)) z) (y 30 70) (83 * s j) = 1 := by
        rw [c70, P5, cG_ne (by omega) (by omega) (by omega), cS_ne (by omega)]; exact x.2.2.1
      have q1 : ai (cmY y (opM y m5 k (nI o)) z) (y 30 70) (83 * s j + 1) = ai m (y 30 70) (83 * s j + 1) := by
        rw [c70, P5, cG_ne (by omega) (by omega) (by omega), cS_ne (by omega)]
      obtain ⟨lj, sj⟩ := keep_slot T1 T2 hnp (fun j hj p hp e => hc j hj p hp e) hj q0 q1
      have N2 := (T2.nd lj).2.2
      rw [sj] at N2
      refine HR.step (G1 := G2) (m1 := cmY y (opM y m5 k (nI o)) z) (F1 := fun K => w_Answer_putQid t G2 (y 9 0) (y 5 j) (fun G3 => ∃ a4, (gr G3 67 (y 0 0)) = some a4 ∧ tk t a4 = 6 ∧ w_Answer_put t G3 a4 (0 : Int64) (4 : Int32) (fun X => K X (some (tks t 2))))) (H1 := fun K => w_M_qid t (cmY y (opM y m5 k (nI o)) z) (y 1 0) (nI (s j)) (fun X' => w_M_put t X' (y 1 0) (0 : Int64) (4 : Int32) K)) (HR.pw P2 (Pw.qid4 hs P2.g P2.hm (by omega) x.1 N2) (by omega) (fun K hK => hK) (fun K hK => hK)) P.hc (fc.e.tr u4) (fc.kk.tr u5) ((fm.kk hs).tr u6) (fun K hK => cgo K (u7 _ ⟨hs.k 0 0, y 9 0, P2.g.1.2.2.2.2.1, hs.k 9 0, y 5 j, rfl, hK⟩)) (fun K hK => mgo K (M_commitY hs (by omega) (by rw [← s76]; exact u10) (iT (by decide) ⟨hs.k 1 0, M_fidOpen hs ?_ hk hK⟩)))
      exact hm5.to hs (sZ.of (fun _ _ => rfl) (fun _ => rfl))
  · exact plain (Or.inr qap)
end OPX
