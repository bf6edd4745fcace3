/-! create: the change (by hand) -/
theorem and_pos {a b : Int32} (h : ¬ a < 0) : ¬ (a &&& b) < 0 := by
  have e0 : (0 &&& (-2147483648 : Int32)) = 0 := by decide
  have h1 : (a &&& (-2147483648 : Int32)) = 0 := by
    rw [← e0]; exact (dirS a 0).mpr ⟨fun q => absurd q h, fun q => absurd q (by decide)⟩
  have h2 : ((a &&& b) &&& (-2147483648 : Int32)) = 0 := by
    rw [Int32.and_assoc, Int32.and_comm b, ← Int32.and_assoc, h1]; exact Int32.zero_and
  rw [← e0] at h2
  intro q
  exact absurd (((dirS (a &&& b) 0).mp h2).mp q) (by decide)
section CRE
variable {t : TY} {y : LYT} {b c z k j u : Nat} {f : Nat → Nat} {G m : GS} {n np : Nat} {r s : Nat → Nat}
/-- the newest node is the one with the last path -/
theorem TrR.newest {T : Nat → Int32} (h : TrR t y G T n r s (np + 1)) (hb : np + 1 < 2 ^ 31) (hp : 1 ≤ np) (hs : SH t y) (hz : FZ y G) (hj : lvN n r j) (e : gi G 0 (y 5 j) = nI np) {K : Option Nat → Prop} (k : K (some (y 5 j))) : w_Tree_newest t G (y 2 0) K := by
  rcases hj with rfl | ⟨i, hi, rfl⟩
  · have := h.2.2.2.2.2.2.2.2.1
    rw [e] at this
    have := (nI_eq (b := 0) (by omega) (by omega)).mp this
    omega
  · obtain ⟨p, p1, p2⟩ := h.2.2.2.2.2.2.1
    have hn := h.1
    have ep := (p1 i hi).1
    rw [e] at ep
    have ep := (nI_eq (by omega) (by have := (p1 i hi).2.2; omega)).mp ep
    have hl : i = n - 1 := Classical.byContradiction fun q => by
      have := p2 i (n - 1) (by omega) (by omega)
      have := (p1 (n - 1) (by omega)).2.2
      omega
    have a := (h.2.2.2.2.1 i (by omega)).1
    refine ⟨hs.k 2 0, ?_⟩
    rw [h.2.1, show (1 : Int32) = nI 1 from rfl, pk_sub (by omega), nI_clamp (by omega), ← hl]
    refine iF (nI_nle (by omega) (by omega)) ⟨y 16 0, hz.2.1.2.1, hs.k 16 0, by rw [hs.n 16 0]; exact vp_lt (N := 20) (by omega), ?_⟩
    rw [a]; exact k
/-- a text is copied -/
theorem S_copyText (hs : SH t y) (hz : FZ y G) (hf : MsF z f) (h : MsC y G z f) {q N p i C : Nat} (hT : TxC y G f p C) (hi : i < C) (hC : C ≤ 4) (hq : q = 17 ∨ q = 18) (hN : yL q 0 = N) (hw : nm f (tp f p i) 2 ≤ N) (hN2 : N ≤ 64) (hp : tp f p i + 2 ≤ 1000000) {K : GS → Int32 → Prop} (k : K (aw G (y q 0) (fun e => if e < nm f (tp f p i) 2 then sb (f (tp f p i + 2 + e)) else ai G (y q 0) e)) (nI (nm f (tp f p i) 2))) : w_Message_copyText t G (y 8 0) (nI i) (y q 0) K := by
  refine ⟨hs.k 8 0, y 20 0, hz.2.2.1.2.1, hs.k 20 0, by rw [hs.n 20 0]; exact vp_lt (N := 4) (by omega), y 21 0, hz.2.2.1.2.2.1, hs.k 21 0, by rw [hs.n 21 0]; exact vp_lt (N := 4) (by omega), ?_⟩
  rw [nI_clamp (by omega), (hT.1 i hi).1, (hT.1 i hi).2]
  exact S_copy hs hz hf h hq hN hw hN2 hp k
theorem h_created (Q : FP t y b c z f G m n r s np k j u) (hb1 : b + 1 < 2 ^ 20) (hT : TxC y G f 11 1) (hin : 13 + nm f 11 2 ≤ z) (hl : nm f 11 2 ≤ 8) (hdir : gi G 2 (y 5 j) < 0) (hno : ∀ i, i < n → ¬ isEnt y G f 11 j (r i)) {o : Nat} (ho : o < 256) {v3 l5 : Int32} (hO : ¬ nI o = 0 → 0 ≤ v3) (h5 : 0 ≤ v3 → l5 = 0) (h5' : ¬ 0 ≤ v3 → l5 = 1) : HR t y (b + 1) c G m (fun K => w_Tree_hasRoomForEntry t G (y 2 0) (y 5 j) (fun v6 => (if ¬ v6 = 0 then (∃ a7, (gr G 65 (y 0 0)) = some a7 ∧ tk t a7 = 4 ∧ w_Change_begin t G a7 (some (tad t 3)) (y 5 j) (gr G 50 (y 14 k)) (gi G 69 (y 0 0)) (fun G8 => (if l5 = 0 then (w_S_create_214 t (y 0 0) (fun X x => K X x) (y 14 k) (some (y 5 j)) (nI o) (gr G8 65 (y 0 0)) v3 (-439 : Int32) G8) else (w_S_create_214 t (y 0 0) (fun X x => K X x) (y 14 k) (some (y 5 j)) (nI o) (gr G8 65 (y 0 0)) v3 (-512 : Int32) G8)))) else (K G (some (tks t 23)))))) (fun K => w_M_create_163 t (y 1 0) (fun X => K X) (nI k) (nI (s j)) v3 (nI o) m) := by
  obtain ⟨P, hZ, hk, hus, hj, hu, g48, g50, h99, f90, f51⟩ := id Q
  have hs := P.s
  have hz := P.g
  have hm := P.hm
  have hnp := Q.np31
  have hTr := Q.tr
  have x := hTr.nd hj
  have hj20 := hTr.le hj
  have hz128 := P.hf.2.1
  have hnpb : np ≤ b := hZ.2.2.2.2.2.2.2.2.2.1
  have hvj : yV 5 j = true := by simp [yV]; omega
  have hvk : yV 14 k = true := by simp [yV, hk]
  have b24 := hTr.b24
  have np1 := hTr.2.2.1
  have hc20 : enC y G n r j ≤ 20 := Nat.le_trans cnt_le hTr.1
  obtain ⟨gg, oo, hgg, hoo, egg, eoo, fgg, foo, f3⟩ := x.2.2.may
  have s1 : ai m (y 30 70) (83 * s j + 1) = gi G 0 (y 5 j) := x.2.2.2.1
  obtain ⟨k0, k01, k021, k0n, k0f, k0p⟩ := hTr.fs hnp
  obtain ⟨m3, em3⟩ : ∃ X, X = aw m (y 30 71) (mix (ai m (y 30 70)) (ai m (y 30 71)) 1743) := ⟨_, rfl⟩
  have c3 : cM5 y m m3 := by rw [em3]; exact cM5.rf.aw (Or.inr rfl)
  have t3 : ai m3 (y 30 70) = ai m (y 30 70) := by rw [em3]; exact aw_ne (hs.ne (by omega))
  have hm3 := c3.fz hs hm
  have mm3 : MsM y m3 z f := P.mm.k (c3.kk hs)
  have h713 : ∀ i, i < 1743 → ai m3 (y 30 71) i = ai m (y 30 70) i := fun i hi => by
    rw [em3, aw_at]
    show (if i < 1743 then _ else _) = _; rw [if_pos hi]
  have e23 : lN (er 23) = 1819047270 := by decide +kernel
  have m200 : ∀ K : GS → Prop, (if (21 : Int32) ≤ nI k0 then (w_M_create_220 t (y 1 0) (fun X => K X) (nI k) (nI o) (nI k0) m3) else (w_M_grow t m3 (y 1 0) (nI k0) (nI (s j)) v3 (fun G2 => w_M_create_220 t (y 1 0) (fun X => K X) (nI k) (nI o) (nI k0) G2))) → w_M_create_163 t (y 1 0) (fun X => K X) (nI k) (nI (s j)) v3 (nI o) m := fun K hK => ⟨hs.k 1 0, iT P.e (M_slot hs hm k01 k021 k0p k0f ⟨hs.k 1 0, M_begin hs hm (by rw [← em3]; exact hK)⟩)⟩
  by_cases hn : n < 20
  · have k0l := k0n.mpr hn
    have hne : s j ≠ k0 := fun e => by
      have := x.2.2.1
      rw [e, k0f k0l] at this
      exact absurd this (by decide)
    obtain ⟨md, emd⟩ : ∃ X, X = v3 &&& ((if 0 ≤ v3 then (-439 : Int32) else -512) ||| gi G 2 (y 5 j)) := ⟨_, rfl⟩
    obtain ⟨tm, etm⟩ : ∃ X, X = gi m 78 (y 1 0) := ⟨_, rfl⟩
    obtain ⟨C, eC⟩ : ∃ X, X = crT (ai m (y 30 70)) k0 np md tm u gg (gi G 0 (y 5 j)) (nm f 11 2) (fun i => f (13 + i)) := ⟨_, rfl⟩
    obtain ⟨P', eP⟩ : ∃ X, X = cG C (s j) tm u := ⟨_, rfl⟩
    obtain ⟨m5, em5⟩ : ∃ X, X = w70 y m3 P' := ⟨_, rfl⟩
    have cm : cM5 y m m5 := by rw [em5]; exact c3.aw (Or.inl rfl)
    have hm5 := cm.fz hs hm
    have c70 : ai m5 (y 30 70) = P' := by rw [em5]; exact w70_70
    have h71 : ∀ i, i < 1743 → ai m5 (y 30 71) i = ai m (y 30 70) i := fun i hi => by
      rw [em5, w70_o (hs.ne (by omega))]; exact h713 i hi
    have e74 : gi m 74 (y 1 0) = nI (np - 1) := hZ.2.2.2.2.2.2.2.2.1
    have e741 : gi m3 74 (y 1 0) + 1 = nI np := by rw [c3.1, e74, nI_1, show np - 1 + 1 = np by omega]
    have n21 : ¬ nI k0 = (21 : Int32) := fun q => by have := (nI_eq (b := 21) (by omega) (by decide)).mp q; omega
    have e95 : gi m5 95 (y 1 0) = nI z := (cm.1 _ _).trans P.mm.1
    have m220 : ∀ K : GS → Prop, (if nI (tBl y G n r + (enC y G n r j + 4) / 4 - (enC y G n r j + 3) / 4) ≤ (24 : Int32) then (w_M_commit t m5 (y 1 0) (nI z) (fun G2 v3 => (if ¬ v3 = 0 then (∀ G4, G4 = si G2 74 (y 1 0) ((gi G2 74 (y 1 0)) + (1 : Int32)) → w_M_point t G4 (y 1 0) (nI k) (nI k0) (gi G4 99 (y 1 0)) (fun G5 => w_M_open t G5 (y 1 0) (nI k) (nI o) (fun G6 => w_M_qid t G6 (y 1 0) (nI k0) (fun G7 => w_M_put t G7 (y 1 0) (0 : Int64) (4 : Int32) (fun G8 => K G8))))) else (K G2)))) else (w_M_create_236 t (y 1 0) (fun X => K X) m5)) → w_M_create_163 t (y 1 0) (fun X => K X) (nI k) (nI (s j)) v3 (nI o) m := fun K hK => by
      refine m200 K (iF (nI_ge (b := 21) k0l (by decide)) ?_)
      have e70 : w70 y m3 (ai m (y 30 70)) = m3 := by rw [← t3]; exact w70_self
      rw [← e70]
      refine M_grow (np := np) (u := u) (og := gg) hs hm3 P.hf mm3 k0l x.1 hne e741 ((c3.1 _ _).trans h99) fgg hin hl ?_
      rw [f3, s1, ← emd, c3.1 78, ← etm, ← eC, ← eP, ← em5]
      refine iF n21 ⟨hs.k 1 0, hTr.madd (md := md) (tm := tm) (u := u) (og := gg) (l := nm f 11 2) (g := fun i => f (13 + i)) hnp hs hm5 hj hdir k01 k0l (k0f k0l) hl (by rw [c70, eP, eC, s1]) ?_⟩
      rw [e95]
      exact hK
    obtain ⟨G5, eG5⟩ : ∃ X, X = bgC y G (tad t 3) (y 5 j) (some (tad t u)) (gi G 69 (y 0 0)) := ⟨_, rfl⟩
    obtain ⟨G6, eG6⟩ : ∃ X, X = si G5 27 (y 4 0) md := ⟨_, rfl⟩
    obtain ⟨G8, eG8⟩ : ∃ X, X = aw G6 (y 17 0) (fun i => if i < nm f 11 2 then sb (f (13 + i)) else ai G6 (y 17 0) i) := ⟨_, rfl⟩
    obtain ⟨G7, eG7⟩ : ∃ X, X = si G8 32 (y 4 0) (nI (nm f 11 2)) := ⟨_, rfl⟩
    have cc5 : cC y G G5 := by rw [eG5]; exact cC.rf.bg
    have cc6 : cC y G G6 := by rw [eG6]; exact cc5.si (f := 27)
    have cc : cC y G G7 := by rw [eG7, eG8]; exact (cc6.aw (Or.inl rfl)).si (f := 32)
    have hz5 := cc5.fz hs hz
    have hz6 := cc6.fz hs hz
    have hz7 := cc.fz hs hz
    have e37 : gi G7 37 (y 8 0) = nI z := (cc.1 37 _ (by omega)).trans P.mc.1
    have cgo : ∀ K : GS → Option Nat → Prop, tBl y G n r + (enC y G n r j + 4) / 4 ≤ 24 + (enC y G n r j + 3) / 4 → w_S_carryOut t G7 (y 0 0) (nI z) (fun G11 => ∃ a12, (gr G11 64 (y 0 0)) = some a12 ∧ tk t a12 = 3 ∧ (if (gi G11 19 a12) = 0 then (K G11 (some (tks t 2))) else (w_S_answerCreated t G11 (y 0 0) (y 14 k) (nI o) (fun G13 => K G13 (some (tks t 2)))))) → w_Tree_hasRoomForEntry t G (y 2 0) (y 5 j) (fun v6 => (if ¬ v6 = 0 then (∃ a7, (gr G 65 (y 0 0)) = some a7 ∧ tk t a7 = 4 ∧ w_Change_begin t G a7 (some (tad t 3)) (y 5 j) (gr G 50 (y 14 k)) (gi G 69 (y 0 0)) (fun G8 => (if l5 = 0 then (w_S_create_214 t (y 0 0) (fun X x => K X x) (y 14 k) (some (y 5 j)) (nI o) (gr G8 65 (y 0 0)) v3 (-439 : Int32) G8) else (w_S_create_214 t (y 0 0) (fun X x => K X x) (y 14 k) (some (y 5 j)) (nI o) (gr G8 65 (y 0 0)) v3 (-512 : Int32) G8)))) else (K G (some (tks t 23))))) := fun K hr hK => by
      refine S_roomE hTr hnp hs hz hj hdir (fun _ _ => iT (by decide) ⟨y 4 0, hz.1.2.2.1, hs.k 4 0, ?_⟩) (fun q => absurd ⟨hn, hr⟩ q)
      rw [g50]
      refine S_begin hs ?_
      rw [← eG5]
      have g214 : ∀ v4 : Int32, v4 = (if 0 ≤ v3 then (-439 : Int32) else -512) → w_S_create_214 t (y 0 0) (fun X x => K X x) (y 14 k) (some (y 5 j)) (nI o) (gr G5 65 (y 0 0)) v3 v4 G5 := fun v4 e4 => by
        refine ⟨y 5 j, rfl, hs.k 5 j hvj, y 4 0, hz5.1.2.2.1, hs.k 4 0, fun X eX => ?_⟩
        rw [e4, cc5.1 2 _ (by omega), ← emd, ← eG6] at eX
        rw [eX]
        refine ⟨hs.k 0 0, y 4 0, hz6.1.2.2.1, hs.k 4 0, y 8 0, hz6.1.2.2.2.1, hs.k 8 0, y 17 0, hz6.2.1.2.2.1, S_copyText (i := 0) (q := 17) (N := 8) hs hz6 P.hf (P.mc.k (cc6.kk hs)) (hT.k (cc6.kk hs)) (by omega) (by omega) (Or.inl rfl) rfl hl (by omega) (show 11 + 2 ≤ 1000000 by omega) ?_⟩
        show ∀ X, X = si (aw G6 (y 17 0) (fun i => if i < nm f 11 2 then sb (f (13 + i)) else ai G6 (y 17 0) i)) 32 (y 4 0) (nI (nm f 11 2)) → _
        rw [← eG8, ← eG7]
        intro X eX
        rw [eX]
        exact ⟨y 8 0, hz7.1.2.2.2.1, hs.k 8 0, by rw [e37]; exact hK⟩
      by_cases w : 0 ≤ v3
      · exact iT (h5 w) (g214 _ (if_pos w).symm)
      · exact iF (by rw [h5' w]; decide) (g214 _ (if_neg w).symm)
    by_cases room : tBl y G n r + (enC y G n r j + 4) / 4 ≤ 24 + (enC y G n r j + 3) / 4
    · have c24 : nI (tBl y G n r + (enC y G n r j + 4) / 4 - (enC y G n r j + 3) / 4) ≤ 24 := nI_le (b := 24) (by omega) (by decide)
      have gR : ∀ f a, gr G7 f a = gr G5 f a := fun f a => by rw [eG7, eG8, eG6]; rfl
      have gI : ∀ f a, f ≠ 27 → f ≠ 32 → gi G7 f a = gi G5 f a := fun f a q1 q2 => by
        rw [eG7, gi_ne q2, eG8]
        show gi G6 f a = _
        rw [eG6, gi_ne q1]
      have e27 : gi G7 27 (y 4 0) = md := by
        rw [eG7, gi_ne (by omega), eG8]
        show gi G6 27 (y 4 0) = _
        rw [eG6, gi_at]
      have hv7 := @bgC_v y G (tad t 3) (y 5 j) (some (tad t u)) (gi G 69 (y 0 0))
      have hT7 : TrR t y G7 (ai m (y 30 70)) n r s np := hTr.to (cc.agT hs)
      have etm' : gi G 69 (y 0 0) = tm := by rw [etm]; exact hZ.2.2.2.1.2.2.1
      have tb7 : tBl y G7 n r = tBl y G n r := tBl_eq (fun a => by rw [cc.1 2 a (by omega)]) (fun a => cc.2.1 7 a (by omega)) (fun a => cc.1 12 a (by omega))
      have en7 : enC y G7 n r j = enC y G n r j := cnt_congr fun i _ => by rw [cc.2.1 7 _ (by omega)]
      have g07 : gi G7 0 (y 5 j) = gi G 0 (y 5 j) := cc.1 0 _ (by omega)
      have hS : Stg t y G7 (ai m5 (y 30 70)) n r np (np + 1) := by
        rw [c70, eP, eC, ← g07]
        refine stg_cr hT7 (by omega) hs hn hj (by rw [cc.1 2 _ (by omega)]; exact hdir) hu (by rw [gR, eG5]; exact hv7.1) ⟨by rw [gR, eG5]; exact hv7.2.1, by rw [gR, eG5]; exact hv7.2.2, by rw [gI _ _ (by omega) (by omega), eG5, ← etm']; exact bgC_24⟩ e27 (by rw [eG7]; exact gi_at) hl (fun q hq => ⟨P.hf.2.2.1 _, ?_⟩) hgg ((cc.2.1 5 _ (by omega)).trans egg) k01 k0l (k0f k0l) (fun i hi e7 q => ?_) (show tBl y G7 n r + (enC y G7 n r j + 4) / 4 ≤ 24 + (enC y G7 n r j + 3) / 4 by rw [tb7, en7]; exact room)
        · rw [eG7]
          show ai G8 (y 17 0) q = _
          rw [eG8, aw_at]; exact if_pos hq
        · rw [cc.2.1 7 _ (by omega)] at e7
          have hr20 := hTr.le (hTr.in hi)
          have a6 : ai G7 (y 6 (r i)) = ai G (y 6 (r i)) := cc.2.2.2.1 _ (hs.ne (by omega) (by simp [yV]; omega) rfl) (hs.ne (by omega) (by simp [yV]; omega) rfl)
          rw [cc.1 10 _ (by omega), a6] at q
          exact hno i hi ⟨e7, q.1, q.2⟩
      rcases carryH (b' := b + 1) hZ P.r cc cm h71 hS (zz := z) (by omega) (by omega) (by omega) with D | ⟨G2, n', r', s', U, -⟩
      · have hzd := D.1.2.1
        exact HR.cdn D eS.rf (j := 2) (by omega) hs xC.rf (fun K run hK => cgo K room (run _ ⟨y 3 0, hzd.1.2.1, hs.k 3 0, iT D.2.2.1 hK⟩)) (fun K run hK => m220 K (iT c24 (run _ (iF (by simp) hK))))
      · obtain ⟨M1, eM1⟩ : ∃ X, X = si (cmY y m5 z) 74 (y 1 0) (nI (np + 1 - 1)) := ⟨_, rfl⟩
        have Z2 : InvZ t y (b + 1) G2 M1 n' r' s' (np + 1) := by rw [eM1]; exact U.1
        have T2 : TrR t y G2 (ai M1 (y 30 70)) n' r' s' (np + 1) := Z2.2.2.2.2.2.2.1
        have hz2 := Z2.2.1
        have hM1 := Z2.2.2.1
        have c70' : ai M1 (y 30 70) = P' := by rw [eM1, ← c70]; rfl
        have h991 : gi M1 99 (y 1 0) = nI u := by
          rw [eM1]
          exact ((U.2.2.2.2.2.1).1 99 (by omega)).1.trans h99
        obtain ⟨jn, ljn, ejn⟩ : ∃ jn, lvN n' r' jn ∧ gi G2 0 (y 5 jn) = nI np := by
          rcases U.2.2.2.2.2.2.2.2.1 with q | ⟨-, jn, a1, a2⟩
          · omega
          · exact ⟨jn, a1, a2⟩
        obtain ⟨t0, t1, t2, t3', t4, t5, t6, t7, t8, t9, t10, t18⟩ := crT_v (T := ai m (y 30 70)) (k0 := k0) (np := np) (u := u) (og := gg) (md := md) (tm := tm) (pd := gi G 0 (y 5 j)) (g := fun i => f (13 + i)) hl
        have ck : ∀ q, q < 83 → P' (83 * k0 + q) = C (83 * k0 + q) := fun q hq => by rw [eP, cG_ne (by omega) (by omega) (by omega)]
        have p0 : P' (83 * k0) = 1 := by rw [show 83 * k0 = 83 * k0 + 0 by omega, ck 0 (by omega), eC]; exact t0
        have p1 : P' (83 * k0 + 1) = nI np := by rw [ck 1 (by omega), eC]; exact t1
        have p3 : P' (83 * k0 + 3) = md := by rw [ck 3 (by omega), eC]; exact t3'
        obtain ⟨j2, lj2, sj2⟩ := T2.slot k0l (by rw [c70']; exact p0)
        have x2 := T2.nd lj2
        have ej2 : j2 = jn := T2.pinj (by omega) lj2 ljn (by
          have := x2.2.2.2.1
          rw [sj2, c70', p1] at this
          rw [← this, ejn])
        rw [ej2] at x2 sj2
        have jn20 := T2.le ljn
        have fr2 : frT y (adY y G7 z) G2 := U.2.2.1
        have r46 : gi G2 46 (y 14 k) = 1 := by
          rw [(fr2.1 46 _ (by omega)).1]
          exact (cc.1 46 _ (by omega)).trans hus
        have r50 : gr G2 50 (y 14 k) = some (tad t u) := by
          rw [(fr2.1 50 _ (by omega)).2]
          exact (cc.2.1 50 _ (by omega)).trans g50
        obtain ⟨v, -, -, -, v1, v2, v3', -⟩ := Z2.2.2.2.2.2.2.2.1 k hk r46
        obtain ⟨w1, w2⟩ := fid_placed (m0 := M1) (k := k) (j := jn) (u := u) (v := v) Z2 (by omega) U.2.1 ljn hu v1 (((Z2.2.2.2.2.2.1 k hk).2.1).trans r46) v3'
        obtain ⟨G3, eG3⟩ : ∃ X, X = plC y G2 k (lN v) (y 5 jn) (gi G2 0 (y 5 jn)) (some (tad t u)) := ⟨_, rfl⟩
        obtain ⟨M3, eM3⟩ : ∃ X, X = ptM y M1 k (ai M1 (y 30 70) (83 * s' jn + 1)) (nI u) := ⟨_, rfl⟩
        rw [← eG3, ← eM3] at w1 w2
        have fc : fC y k G2 G3 := by rw [eG3]; exact plC_f
        have fm : fM y k M1 M3 := by rw [eM3]; exact ptM_f fM.rf
        have Z3 := Z2.fid hk fc fm w1 w2
        have md2 : gi G2 2 (y 5 jn) = md := by
          have := x2.2.2.2.2.2.1
          rw [sj2, c70', p3] at this
          exact this.symm
        obtain ⟨w3, w4⟩ := fid_opened Z3 hk (by rw [eG3]; simp [plC, giS, giL, giR]) (by rw [eG3]; simp [plC, giS, giL, giR]) ho (fun w j' e => by
          have e48 : gr G3 48 (y 14 k) = some (y 5 jn) := by rw [eG3]; simp [plC, grS, grL, grR]
          rw [e48] at e
          rw [← Option.some.inj e, (fc.1 2 _ (by omega)).1, md2, emd]
          exact and_pos (fun q => absurd (hO (fun n => w (by rw [show o = 0 from (nI_eq (b := 0) (by omega) (by decide)).mp n]))) (Int32.not_le.mpr q)))
        obtain ⟨G4, eG4⟩ : ∃ X, X = opC y G3 k (nI o) := ⟨_, rfl⟩
        obtain ⟨M4, eM4⟩ : ∃ X, X = opM y M3 k (nI o) := ⟨_, rfl⟩
        rw [← eG4, ← eM4] at w3 w4
        have fc4 : fC y k G2 G4 := fc.tr (by rw [eG4]; exact opC_f)
        have fm4 : fM y k M1 M4 := fm.tr (by rw [eM4]; exact opM_f)
        have Z4 := Z3.fid hk (by rw [eG4]; exact opC_f) (by rw [eM4]; exact opM_f) w3 w4
        have T4 : TrR t y G4 (ai M4 (y 30 70)) n' r' s' (np + 1) := Z4.2.2.2.2.2.2.1
        have N4 := (T4.nd ljn).2.2
        rw [sj2] at N4
        refine HR.cup P U eS.rf kC.rf kM.rf hb1 (F1 := fun K => w_S_answerCreated t G2 (y 0 0) (y 14 k) (nI o) (fun X => K X (some (tks t 2)))) (H1 := fun K => w_M_point t M1 (y 1 0) (nI k) (nI k0) (nI u) (fun G5 => w_M_open t G5 (y 1 0) (nI k) (nI o) (fun G6 => w_M_qid t G6 (y 1 0) (nI k0) (fun G7 => w_M_put t G7 (y 1 0) (0 : Int64) (4 : Int32) (fun G8 => K G8))))) (fun P2 => ?_) (fun K run hK => cgo K room (run _ ⟨y 3 0, U.1.2.1.1.2.1, hs.k 3 0, iF (by rw [U.2.1]; decide) hK⟩)) (fun K run hK => m220 K (iT c24 (run _ (iT (by decide) (fun X eX => ?_)))))
        · rw [← eM1] at P2 ⊢
          have P4 : Pre t y (b + 1) c z f G4 M4 := P2.to Z4.of ((fc4.1 19 _ (by omega)).1.trans P2.r) fc4.kk (fm4.kk hs) P2.hb
          refine HR.step (G1 := G4) (m1 := M4) (F1 := fun K => w_Answer_putQid t G4 (y 9 0) (y 5 jn) (fun G3 => ∃ a4, (gr G3 67 (y 0 0)) = some a4 ∧ tk t a4 = 6 ∧ w_Answer_put t G3 a4 (0 : Int64) (4 : Int32) (fun X => K X (some (tks t 2))))) (H1 := fun K => w_M_qid t M4 (y 1 0) (nI k0) (fun X' => w_M_put t X' (y 1 0) (0 : Int64) (4 : Int32) K)) (HR.pw P4 (Pw.qid4 hs P4.g P4.hm (by omega) k0l N4) (by omega) (fun K hK => hK) (fun K hK => hK)) P.hc fc4.e fc4.kk (fm4.kk hs) (fun K hK => ?_) (fun K hK => ?_)
          · refine ⟨hs.k 0 0, y 2 0, hz2.1.1, hs.k 2 0, T2.newest (by omega) np1 hs hz2 ljn ejn ⟨hs.k 14 k hvk, y 5 jn, rfl, ?_⟩⟩
            rw [v2, r50]
            refine S_place hs hk (by omega) ?_
            rw [← eG3]
            refine S_fidOpen hs hk ?_
            rw [← eG4]
            exact ⟨y 9 0, P4.g.1.2.2.2.2.1, hs.k 9 0, hK⟩
          · refine M_point hs hM1 hk k0l ?_
            rw [sj2] at eM3
            rw [← eM3]
            refine M_fidOpen hs (fm.fz hs hM1) hk ?_
            rw [← eM4]
            exact hK
        · have e74' : gi (cmY y m5 z) 74 (y 1 0) + 1 = nI (np + 1 - 1) := by
            have : gi (cmY y m5 z) 74 (y 1 0) = nI (np - 1) := by
              unfold cmY
              rw [gi_ne (by omega), gi_ne (by omega)]
              exact (cm.1 _ _).trans e74
            rw [this, nI_1, show np - 1 + 1 = np + 1 - 1 by omega]
          rw [e74', ← eM1] at eX
          subst eX
          rw [h991]
          exact hK
    · have c24 : ¬ nI (tBl y G n r + (enC y G n r j + 4) / 4 - (enC y G n r j + 3) / 4) ≤ 24 := nI_ge (a := 24) (by omega) (by omega)
      refine HR.up (HR.back P cm h71 (e := 23) (by omega) (by omega) (fun K hK => S_roomE hTr hnp hs hz hj hdir (fun _ q => absurd q room) (fun _ => iF (by simp) hK)) (fun K hK => m220 K (iF c24 ⟨hs.k 1 0, M_back hs hm5 (fun X eX => ?_)⟩))) (by omega)
      rw [← e23] at eX
      subst eX
      exact hK
  · have e21 : k0 = 21 := by
      have : ¬ k0 < 21 := fun q => hn (k0n.mp q)
      omega
    refine HR.up (HR.back P c3 h713 (e := 23) (by omega) (by omega) (fun K hK => S_roomE hTr hnp hs hz hj hdir (fun q _ => absurd q hn) (fun _ => iF (by simp) hK)) (fun K hK => m200 K ?_)) (by omega)
    rw [e21]
    refine iT (by decide) (iT rfl ⟨hs.k 1 0, M_back hs hm3 (fun X eX => ?_)⟩)
    rw [← e23] at eX
    subst eX
    exact hK
end CRE
