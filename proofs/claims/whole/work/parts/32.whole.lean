/-- the constants of each enum are apart -/
def tdOK (t : TY) : Prop := (∀ i j, i < 3 → j < 3 → tad t i = tad t j → i = j) ∧ ∀ i j, i < 4 → j < 4 → tad t (i + 3) = tad t (j + 3) → i = j
/-- what is owed of the two constructors -/
def Ob_start (Inv : TY → Nat → Nat → Nat → GS → Prop) : Prop := ∀ (x : TC) (G : GS) (a : Nat), tdOK (t00 x) → w_S_init (adT (t00 x) a 9 0 (0, 1)) (zG G a) a (fun t1 G1 => ∀ b, b ∉ tdom t1 → w_M_init (adT t1 b 10 0 (0, 2)) (zG G1 b) b (fun t2 G2 => Inv t2 a b 0 G2))
set_option maxRecDepth 100000 in
set_option maxHeartbeats 4000000 in
theorem whole_of (Inv : TY → Nat → Nat → Nat → GS → Prop) (h0 : Ob_start Inv) (h1 : ∀ t S M, Obl t S M (Inv t S M)) {p : Program} {e : Env} {s : State} {m : MethodId} {below : List Frame} {meth : Method} {c : Code} (l : Launch) {b L : Nat} {xs : Nat → Int32} (hL : L ≤ 2560) (C0 : lw_At p s m meth c b L xs) : W p l e room_1 s m #[Value.ref b] below meth c s.heap [] 0 0 (lw_Z below #[Value.ref b] s) (entryFrame m ([Value.ref b] : List Value).toArray 4) := by
  obtain ⟨hexec, hcode, hret, hml, hown, hts, hX, hbl, hlocks, hgv⟩ := C0
  obtain ⟨x, hK, hsz⟩ := start_of hts (flat_of_before _ hgv)
  obtain ⟨G, -⟩ : ∃ G : GS, G = G := ⟨(fun _ _ => 0, fun _ _ => 0, fun _ _ => none, fun _ _ => 0, fun _ _ => 0, fun _ _ => none), rfl⟩
  have X : kX p s m #[Value.ref b] meth c code 4 "TreeServerLaw" (t00 x) := ⟨hexec, hcode, hml, hown, fun w h => hts w (List.mem_filter.mp h).1, hlocks, hK⟩
  have hZ : kZ (t00 x) false s G s.heap [] := ⟨⟨fun k q hq => (by cases hq), ⟨fun i j p q hp => (by cases hp), fun k q hq => (by cases hq)⟩, fun a j ha => absurd ha (by show ¬ (0 : Nat) = 51; decide)⟩, va_S.rf, fun h => (by cases h)⟩
  have hl := lv_entry ([.ref b]) (n := 4) (by simp [lg_sl, rf_cat, cat_i, cat_l, cat_r])
  rw [lg_entry_eq]
  refine (show kV (0, 0) p l e room_1 s m #[Value.ref b] below meth c (lw_Z below #[Value.ref b] s) 4 (t00 x) false 0 [(0, va_rf (some b))] [] G from ?_) s.heap [] _ hl hZ
  refine qn_9 (0, 1) (pc := 0) X rfl d_law_0 x_20 x_21 x_1 (by decide) (fun a na => ?_)
  have e1 := te.ad X.h.2.1.1 na 9 0 (0, 1)
  have X1 := X.te e1
  have ka : tk (adT (t00 x) a 9 0 (0, 1)) a = 9 := tk_ad
  have hwp := h0 x G a ⟨fun i j hi hj => hK.2.2.1.2 i j hi hj, fun i j hi hj => hK.2.2.2.1.2 i j hi hj⟩
  obtain ⟨t1, e_t1⟩ : ∃ z, z = adT (t00 x) a 9 0 (0, 1) := ⟨_, rfl⟩
  rw [← e_t1] at hwp e1 X1 ka ⊢
  refine kV.ce (cs' := (1, 7)) rfl ?_
  refine qw_dup (pc := 3) X1 d_law_3 rfl ?_
  refine kV.st (st' := [.ref a, va_rf (some a)]) rfl ?_
  refine qcI (n := 0) (As := []) (rest := [va_rf (some a)]) (pc := 4) X1 rfl (c_S_init l t1 (zG G a) a _) (cwI_of X1 x_24 x_22 x_23 x_1 rfl (by decide +kernel) (by decide)) rfl rfl (by simp [rf_cat, cat_i, cat_l, cat_r]) d_law_4 (by decide) hwp (fun t2 G2 e2 hwp => ?_)
  have X2 := X1.te e2
  have ka2 := e2.k ka X1.h.2.1.1 (by decide)
  refine kV.ce (cs' := (103, 3321)) rfl ?_
  refine qw_astore_n (i := 1) (lv' := [(1, va_rf (some a)), (0, va_rf (some b))]) (pc := 7) X2 d_law_7 rfl (by decide) (by simp [rf_cat, cat_i, cat_l, cat_r]) ?_
  refine qn_10 (0, 2) (pc := 8) X2 rfl d_law_8 x_979 x_980 x_13 (by decide) (fun q nq => ?_)
  have hwp := hwp q nq
  have e3 := te.ad X2.h.2.1.1 nq 10 0 (0, 2)
  have X3 := X2.te e3
  have kq : tk (adT t2 q 10 0 (0, 2)) q = 10 := tk_ad
  obtain ⟨t3, e_t3⟩ : ∃ z, z = adT t2 q 10 0 (0, 2) := ⟨_, rfl⟩
  rw [← e_t3] at hwp e3 X3 kq ⊢
  have ka3 := e3.k ka2 X2.h.2.1.1 (by decide)
  refine kV.ce (cs' := (104, 3351)) rfl ?_
  refine qw_dup (pc := 11) X3 d_law_11 rfl ?_
  refine kV.st (st' := [.ref q, va_rf (some q)]) rfl ?_
  refine qcI (n := 0) (As := []) (rest := [va_rf (some q)]) (pc := 12) X3 rfl (c_M_init l t3 (zG G2 q) q _) (cwI_of X3 x_983 x_981 x_982 x_13 rfl (by decide +kernel) (by decide)) rfl rfl (by simp [rf_cat, cat_i, cat_l, cat_r]) d_law_12 (by decide) hwp (fun t4 G4 e4 hI => ?_)
  have X4 := X3.te e4
  have ka4 := e4.k ka3 X3.h.2.1.1 (by decide)
  have kq4 := e4.k kq X3.h.2.1.1 (by decide)
  refine kV.ce (cs' := (124, 9806)) rfl ?_
  refine qw_astore_n (i := 2) (lv' := [(2, va_rf (some q)), (1, va_rf (some a)), (0, va_rf (some b))]) (pc := 15) X4 d_law_15 rfl (by decide) (by simp [rf_cat, cat_i, cat_l, cat_r]) ?_
  refine qw_iconst (v := 0) (pc := 16) X4 d_law_16 rfl ?_
  refine qw_istore_n (i := 3) (lv' := [(3, .int 0), (2, va_rf (some q)), (1, va_rf (some a)), (0, va_rf (some b))]) (pc := 17) X4 d_law_17 rfl (by decide) (by simp [rf_cat, cat_i, cat_l, cat_r]) ?_
  have hsz4 : tsz t4 = s.heap.size := by
    unfold tsz at hsz ⊢
    rw [e4.1, e3.1, e2.1, e1.1]
    exact hsz
  have hA : ¬ tA t4 b := by
    unfold tA
    rw [hsz4]
    omega
  exact kV.sub [3, 2, 1, 0] rfl (k_law_loop X4 (by decide) hX hbl hA hsz4 hret hlocks ka4 kq4 hL (h1 t4 a q) L 0 G4 (Nat.zero_le _) (Nat.le_refl _) hI)
