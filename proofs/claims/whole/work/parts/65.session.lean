/-! version, auth, flush, attach (by hand) -/
section SESS
variable {t : TY} {y : LYT} {b c z : Nat} {f : Nat → Nat} {G m : GS}
theorem InvY.ver (h : InvY t y b G m) (hc : c < 2) {zz : Nat} {v : Int32} (h1 : 96 ≤ zz) (h2 : zz ≤ 128) (hv : isB v) : InvY t y b (si (si G 59 (y 10 c) (nI zz)) 60 (y 10 c) v) (ais (ais m (y 30 83) c (nI zz)) (y 30 84) c v) := by
  have hs := h.1
  refine h.lk ((lC.rf.si (f := 59)).si (f := 60)) ((lM.rf.ais (f := 83)).ais (f := 84)) (fun q hq => ?_)
  have A : ∀ f, yV 30 f = true → f ≠ 83 → f ≠ 84 → ai (ais (ais m (y 30 83) c (nI zz)) (y 30 84) c v) (y 30 f) = ai m (y 30 f) := fun f hv q1 q2 => by rw [ai_nb (hs.ne (by omega) hv rfl), ai_nb (hs.ne (by omega) hv rfl)]
  by_cases e : q = c
  · subst e
    obtain ⟨n, o, z, f, h', x1, x2, x3, x4, x5, x6, x7, x8, x9, x10, x11, x12, x13, x14, x15, x16, x17, x18, x19, x20⟩ := h.2.2.2.2.1 q hq
    have g : ∀ f a, f ≠ 59 → f ≠ 60 → gi (si (si G 59 (y 10 q) (nI zz)) 60 (y 10 q) v) f a = gi G f a := fun f a q1 q2 => by rw [gi_ne q2, gi_ne q1]
    refine ⟨n, o, zz, f, h', x1, x2, h1, h2, by rw [g _ _ (by omega) (by omega)]; exact x5, by rw [A 80 rfl (by omega) (by omega)]; exact x6, x7, by unfold bM; rw [A 79 rfl (by omega) (by omega)]; exact x8, by rw [g _ _ (by omega) (by omega)]; exact x9, by rw [A 82 rfl (by omega) (by omega)]; exact x10, x11, by unfold bM; rw [A 81 rfl (by omega) (by omega)]; exact x12, by rw [gi_ne (by omega), gi_at], by rw [ai_na (hs.ne (by omega)), ai_at], by rw [gi_at]; exact hv, by rw [ai_at, gi_at], by rw [g _ _ (by omega) (by omega)]; exact x17, by rw [A 85 rfl (by omega) (by omega), g _ _ (by omega) (by omega)]; exact x18, by rw [g _ _ (by omega) (by omega)]; exact x19, by rw [g _ _ (by omega) (by omega), g _ _ (by omega) (by omega)]; exact x20⟩
  · refine (h.2.2.2.2.1 q hq).to ⟨fun f _ _ => ?_, rfl, rfl⟩ ⟨fun i _ => by rw [A 79 rfl (by omega) (by omega)], fun i _ => by rw [A 81 rfl (by omega) (by omega)], fun f hf => by rw [ai_nj e, ai_nj e]⟩ (fun w => by rw [gi_ne (by omega), gi_ne (by omega)] at w; exact w)
    have hne : y 10 q ≠ y 10 c := hs.ne (by omega) (by simp [yV, hq]) (by simp [yV, hc])
    rw [gi_na hne, gi_na hne]
/-- the version's text begins with 9P2000 -/
def vr (f : Nat → Nat) : Int32 := if 6 ≤ nm f 11 2 ∧ nm f 13 6 = er 5 then 1 else 0
theorem vr_B : isB (vr f) := by unfold vr; split; exact Or.inr rfl; exact Or.inl rfl
theorem Pw.a9 (hs : SH t y) (hz : FZ y G) {n : Nat} {F : GS → Nat → (GS → Prop) → Prop} {g : GS → (GS → Prop) → Prop} (h : Pw y G m n (fun X K => F X (y 9 0) K) g) : Pw y G m n (fun X K => ∃ a, gr X 67 (y 0 0) = some a ∧ tk t a = 6 ∧ F X a K) g := h.mono (fun A l K q => ⟨y 9 0, (cP_z hs hz).1.2.2.2.2.1, hs.k 9 0, q⟩) (fun _ _ _ q => q)
theorem min128 {v : Nat} (hv : v < 2 ^ 32) : (lmin (lN v) 128).toInt32 = nI (if v ≤ 128 then v else 128) := by
  unfold lmin
  by_cases q : v ≤ 128
  · have w : ¬ (128 : Int64) < lN v := fun w => by have := (pk_lLT (a := 128) (b := v) (by decide) (by omega)).mp w; omega
    rw [if_neg w, if_pos q, lN_i]
  · have w : (128 : Int64) < lN v := (pk_lLT (a := 128) (b := v) (by decide) (by omega)).mpr (by omega)
    rw [if_pos w, if_neg q]; rfl
theorem h_agree (P : Pre t y b c z f G m) (h4 : f 4 = 100) (hv : 96 ≤ nm f 7 4) : HR t y b c G m (fun K => w_S_agree t G (y 0 0) (y 10 c) (fun X => K X (some (tks t 2)))) (fun K => if lN (nm f 7 4) ≤ 128 then w_M_version_58 t (y 1 0) K (nI c) (gr m 83 (y 1 0)) (nI c) (lN (nm f 7 4)).toInt32 m else w_M_version_58 t (y 1 0) K (nI c) (gr m 83 (y 1 0)) (nI c) (128 : Int32) m) := by
  have hs := P.s
  have hc := P.hc
  have hvc : yV 10 c = true := by simp [yV, hc]
  have n32 : nm f 7 4 < 2 ^ 32 := nm_lt P.hf.2.2.1
  have wf := (wf100 h4).mp P.w
  have hz128 := P.hf.2.1
  have eL : 11 + 2 + nm f 11 2 = z := wf
  have hT := P.x (Or.inl h4)
  have e1 : txP f = 11 := by unfold txP; rw [if_neg (by omega), if_neg (by omega), if_neg (by omega)]
  have e2 : txN f = 1 := by unfold txN; rw [if_pos (Or.inl h4)]
  rw [e1, e2] at hT
  obtain ⟨zz, ezz⟩ : ∃ zz, zz = if nm f 7 4 ≤ 128 then nm f 7 4 else 128 := ⟨_, rfl⟩
  have z1 : 96 ≤ zz := by rw [ezz]; split <;> omega
  have z2 : zz ≤ 128 := by rw [ezz]; split <;> omega
  obtain ⟨G7, eG7⟩ : ∃ X, X = si (si G 59 (y 10 c) (nI zz)) 60 (y 10 c) (vr f) := ⟨_, rfl⟩
  obtain ⟨m7, em7⟩ : ∃ X, X = ais (ais m (y 30 83) c (nI zz)) (y 30 84) c (vr f) := ⟨_, rfl⟩
  have I7 : InvY t y b G7 m7 := by rw [eG7, em7]; exact P.i.ver hc z1 z2 vr_B
  have k4 : kC y G (si G 59 (y 10 c) (nI zz)) := kC.rf.si (f := 59) (by omega) (by omega) (by omega)
  have k7 : kC y G G7 := by rw [eG7]; exact k4.si (f := 60) (by omega) (by omega) (by omega)
  have q7 : kM y m m7 := by rw [em7]; exact (kM.rf.ais hs (f := 83) (by omega) (by omega) rfl).ais hs (f := 84) (by omega) (by omega) rfl
  have P7 : Pre t y b c z f G7 m7 := P.to I7 (by rw [eG7, gi_ne (by omega), gi_ne (by omega)]; exact P.r) k7 q7 P.hb
  have e60 : gi G7 60 (y 10 c) = vr f := by rw [eG7, gi_at]
  have e59 : gi G7 59 (y 10 c) = nI zz := by rw [eG7, gi_ne (by omega), gi_at]
  have a83 : ai m7 (y 30 83) c = nI zz := by rw [em7, ai_na (hs.ne (by omega)), ai_at]
  have a84 : ai m7 (y 30 84) c = vr f := by rw [em7, ai_at]
  have hz7 := P7.g
  have hm7 := P7.hm
  obtain ⟨j, hj, ej⟩ : ∃ j, j < 29 ∧ ((vr f = 0 ∧ j = 6) ∨ (¬ vr f = 0 ∧ j = 5)) := by
    by_cases q : vr f = 0
    · exact ⟨6, by omega, Or.inl ⟨q, rfl⟩⟩
    · exact ⟨5, by omega, Or.inr ⟨q, rfl⟩⟩
  have er5 : lN (er 5) = 52983525167161 := by decide +kernel
  have er6 : lN (er 6) = 31093567915781749 := by decide +kernel
  have s57 : slen j ≤ 7 := (str7 j hj).1
  refine HR.step (G1 := G7) (m1 := m7) (F1 := fun K => w_Answer_put t G7 (y 9 0) ((gi G7 59 (y 10 c)).toInt64) (4 : Int32) (fun G9 => (if (gi G9 60 (y 10 c)) = 0 then (w_S_agree_80 t (y 0 0) (fun X => K X (some (tks t 2))) (gr G9 67 (y 0 0)) (some (tks t 6)) G9) else (w_S_agree_80 t (y 0 0) (fun X => K X (some (tks t 2))) (gr G9 67 (y 0 0)) (some (tks t 5)) G9)))) (H1 := fun K => w_M_put t m7 (y 1 0) ((ai m7 (y 30 83) c).toInt64) (4 : Int32) (fun G4 => ∃ a5, (gr G4 84 (y 1 0)) = some a5 ∧ tk t a5 = 52 ∧ vp_in (nI c) (tn t a5) ∧ (if (ai G4 a5 (nI c).toNatClampNeg) = 0 then (w_M_version_130 t (y 1 0) K (some (y 1 0)) (31093567915781749 : Int64) G4) else (w_M_version_130 t (y 1 0) K (some (y 1 0)) (52983525167161 : Int64) G4)))) ?_ hc (by rw [eG7]; exact (eS.rf.si (f := 59)).si (f := 60)) k7 q7 (fun K hK => ?_) (fun K hK => ?_)
  · rw [e59, a83]
    refine HR.pw P7 (n := 4 + (2 + slen j)) (u := fun X K => w_Answer_put t X (y 9 0) ((nI zz).toInt64) (4 : Int32) (fun G9 => (if (gi G9 60 (y 10 c)) = 0 then (w_S_agree_80 t (y 0 0) K (gr G9 67 (y 0 0)) (some (tks t 6)) G9) else (w_S_agree_80 t (y 0 0) K (gr G9 67 (y 0 0)) (some (tks t 5)) G9)))) (v := fun X K => w_M_put t X (y 1 0) ((nI zz).toInt64) (4 : Int32) (fun G4 => ∃ a5, (gr G4 84 (y 1 0)) = some a5 ∧ tk t a5 = 52 ∧ vp_in (nI c) (tn t a5) ∧ (if (ai G4 a5 (nI c).toNatClampNeg) = 0 then (w_M_version_130 t (y 1 0) K (some (y 1 0)) (31093567915781749 : Int64) G4) else (w_M_version_130 t (y 1 0) K (some (y 1 0)) (52983525167161 : Int64) G4)))) ?_ (by omega) (fun K hK => hK) (fun K hK => hK)
    refine Pw.seq (f1 := fun X K => w_Answer_put t X (y 9 0) ((nI zz).toInt64) (4 : Int32) K) (g1 := fun X K => w_M_put t X (y 1 0) ((nI zz).toInt64) (4 : Int32) K) (f2 := fun G9 K => (if (gi G9 60 (y 10 c)) = 0 then (w_S_agree_80 t (y 0 0) K (gr G9 67 (y 0 0)) (some (tks t 6)) G9) else (w_S_agree_80 t (y 0 0) K (gr G9 67 (y 0 0)) (some (tks t 5)) G9))) (g2 := fun G4 K => ∃ a5, (gr G4 84 (y 1 0)) = some a5 ∧ tk t a5 = 52 ∧ vp_in (nI c) (tn t a5) ∧ (if (ai G4 a5 (nI c).toNatClampNeg) = 0 then (w_M_version_130 t (y 1 0) K (some (y 1 0)) (31093567915781749 : Int64) G4) else (w_M_version_130 t (y 1 0) K (some (y 1 0)) (52983525167161 : Int64) G4))) (Pw.put (n := 4) hs hz7 hm7 _ (by omega) (fun _ _ _ q => q) (fun _ _ _ q => q)) (Pw.text hs hz7 hm7 hj (fun A l K q => ?_) (fun B l K q => ?_))
    · have gA : gi (cP y G7 A l) 60 (y 10 c) = vr f := (cP_i (by omega)).trans e60
      rw [gA]
      rcases ej with ⟨w, rfl⟩ | ⟨w, rfl⟩
      · exact iT w ⟨y 9 0, (cP_z hs hz7).1.2.2.2.2.1, hs.k 9 0, q⟩
      · exact iF w ⟨y 9 0, (cP_z hs hz7).1.2.2.2.2.1, hs.k 9 0, q⟩
    · refine ⟨y 30 84, (mP_z hs hm7).m 84, hs.k 30 84, by rw [hs.n 30 84]; exact vp_lt (N := 2) hc, ?_⟩
      rw [nI_clamp (by omega), mP_a (hs.ne (by omega)), a84]
      rcases ej with ⟨w, rfl⟩ | ⟨w, rfl⟩
      · refine iT w ⟨y 1 0, rfl, hs.k 1 0, ?_⟩
        rw [← er6]; exact q
      · refine iF w ⟨y 1 0, rfl, hs.k 1 0, ?_⟩
        rw [← er5]; exact q
  · refine ⟨hs.k 0 0, y 3 0, P.g.1.2.1, hs.k 3 0, iT (by rw [P.r]; decide) ⟨y 8 0, P.g.1.2.2.2.1, hs.k 8 0, P.num (p := 7) (n := 4) (by omega) (by omega) ⟨hs.k 10 c hvc, ?_⟩⟩⟩
    intro G4 e4
    rw [min128 n32, ← ezz] at e4
    subst e4
    have hz4 : FZ y (si G 59 (y 10 c) (nI zz)) := P.g.to hs (sZ.of (fun _ _ => rfl) (fun _ => rfl))
    refine ⟨y 8 0, hz4.1.2.2.2.1, hs.k 8 0, ?_⟩
    have fin : ∀ v6 : Int32, v6 = vr f → ∀ X, X = si (si G 59 (y 10 c) (nI zz)) 60 (y 10 c) v6 → ∃ a8, (gr X 67 (y 0 0)) = some a8 ∧ tk t a8 = 6 ∧ w_Answer_put t X a8 ((gi X 59 (y 10 c)).toInt64) (4 : Int32) (fun G9 => (if (gi G9 60 (y 10 c)) = 0 then (w_S_agree_80 t (y 0 0) (fun X => K X (some (tks t 2))) (gr G9 67 (y 0 0)) (some (tks t 6)) G9) else (w_S_agree_80 t (y 0 0) (fun X => K X (some (tks t 2))) (gr G9 67 (y 0 0)) (some (tks t 5)) G9))) := fun v6 e6 X eX => by
      rw [e6, ← eG7] at eX
      subst eX
      exact ⟨y 9 0, hz7.1.2.2.2.2.1, hs.k 9 0, hK⟩
    refine S_textBegins (p := 11) (c := 1) (i := 0) (j := 5) hs hz4 P.hf (P.mc.k k4) (hT.k k4) (by omega) (by omega) (by omega) (by omega) (fun w1 w2 => fin 1 ?_) (fun w => fin 0 ?_)
    · unfold vr; rw [if_pos ⟨w1, w2⟩]
    · unfold vr; rw [if_neg (show ¬ (6 ≤ nm f 11 2 ∧ nm f 13 6 = er 5) from w)]
  · have go : w_M_version_58 t (y 1 0) K (nI c) (gr m 83 (y 1 0)) (nI c) (nI zz) m := by
      have hv83 : tn t (y 30 83) = 2 := hs.n 30 83
      refine ⟨y 30 83, P.hm.m 83, hs.k 30 83, by rw [hv83]; exact vp_lt (N := 2) hc, ?_⟩
      intro m2 e2
      rw [nI_clamp (by omega)] at e2
      have q2 : kM y m m2 := by rw [e2]; exact kM.rf.ais hs (f := 83) (by omega) (by omega) rfl
      have hm2 : FZ y m2 := P.hm.to hs (sZ.of (fun _ _ => by rw [e2]; rfl) (fun _ => by rw [e2]; rfl))
      have mm2 := P.mm.k q2
      have fin : ∀ s2 : Int32, s2 = vr f → w_M_version_98 t (y 1 0) K (nI c) (gr m2 84 (y 1 0)) (nI c) s2 m2 := fun s2 es => by
        refine ⟨y 30 84, hm2.m 84, hs.k 30 84, by rw [hs.n 30 84]; exact vp_lt (N := 2) hc, ?_⟩
        intro X eX
        have nb : vp_nar .boolean s2 = vr f := by
          rw [es]; rcases @vr_B f with w | w <;> rw [w]; exact nb0; exact nb1
        rw [nI_clamp (by omega), nb, e2, ← em7] at eX
        subst eX
        refine ⟨hs.k 1 0, y 30 83, hm7.m 83, hs.k 30 83, by rw [hv83]; exact vp_lt (N := 2) hc, ?_⟩
        rw [nI_clamp (by omega)]
        have hK := hK
        simp only [nI_clamp (show c < 2 ^ 31 by omega)] at hK
        exact hK
      refine ⟨hs.k 1 0, M_get (p := 11) (n := 2) hs hm2 P.hf mm2 (by omega) (by omega) ?_⟩
      by_cases w : nm f 11 2 < 6
      · refine iT ((pk_lLT (b := 6) (by omega) (by decide)).mpr w) (fin 0 ?_)
        unfold vr; rw [if_neg (fun q => by have := q.1; omega)]
      · refine iF (fun x => w ((pk_lLT (b := 6) (by omega) (by decide)).mp x)) (M_get (p := 13) (n := 6) hs hm2 P.hf mm2 (by omega) (by omega) ?_)
        have n6 : nm f 13 6 < 256 ^ 6 := nm_lt P.hf.2.2.1
        have e6 : er 5 < 2 ^ 63 := by decide +kernel
        rw [← er5]
        refine iN ⟨fun x => fin 1 ?_, fun x => fin 0 ?_⟩
        · unfold vr; rw [if_pos ⟨by omega, (pk_lEQ (by omega) e6).mp x⟩]
        · unfold vr; rw [if_neg (fun q => x (by rw [q.2]))]
    by_cases w : nm f 7 4 ≤ 128
    · rw [if_pos w] at ezz
      rw [ezz] at go
      refine iT ((pk_lLE (b := 128) (by omega) (by decide)).mpr w) ?_
      rw [lN_i]; exact go
    · rw [if_neg w] at ezz
      rw [ezz] at go
      exact iF (fun x => w ((pk_lLE (b := 128) (by omega) (by decide)).mp x)) go
theorem InvY.ud (h : InvY t y b G m) : (gi G 19 (y 3 0) = 1 ∧ gi m 75 (y 1 0) = 0) ∨ (gi G 19 (y 3 0) = 0 ∧ gi m 75 (y 1 0) = 1) := by
  rcases h.2.2.2.1.2.2.2.2.2 with ⟨a, b, -⟩ | ⟨a, b⟩
  · exact Or.inl ⟨a, b⟩
  · exact Or.inr ⟨a, b⟩
theorem h_version (P : Pre t y b c z f G m) (h4 : f 4 = 100) : HR t y b c G m (fun K => w_Message_number t G (y 8 0) (7 : Int32) (4 : Int32) (fun v3 => (if (96 : Int64) ≤ v3 then (w_S_releaseAll t G (y 0 0) (y 10 c) (fun G4 => w_S_agree t G4 (y 0 0) (y 10 c) (fun G5 => K G5 (some (tks t 2))))) else (K G (some (tks t 4)))))) (fun K => w_M_version t m (y 1 0) (nI c) K) := by
  have hs := P.s
  have n32 : nm f 7 4 < 2 ^ 32 := nm_lt P.hf.2.2.1
  have wf := (wf100 h4).mp P.w
  have hz13 : 13 ≤ z := by have e : 11 + 2 + nm f 11 2 = z := wf; omega
  by_cases q : 96 ≤ nm f 7 4
  · have q64 : (96 : Int64) ≤ lN (nm f 7 4) := (pk_lLE (a := 96) (by decide) (by omega)).mpr q
    obtain ⟨G', m', h', x, kk, rS, rM⟩ := relAllY P.hc (by have := P.hb; omega) P.i
    have cgo : ∀ K : GS → Option Nat → Prop, w_S_agree t G' (y 0 0) (y 10 c) (fun G5 => K G5 (some (tks t 2))) → w_Message_number t G (y 8 0) (7 : Int32) (4 : Int32) (fun v3 => (if (96 : Int64) ≤ v3 then (w_S_releaseAll t G (y 0 0) (y 10 c) (fun G4 => w_S_agree t G4 (y 0 0) (y 10 c) (fun G5 => K G5 (some (tks t 2))))) else (K G (some (tks t 4))))) := fun K hK => P.num (p := 7) (n := 4) (by omega) (by omega) (iT q64 (rS _ hK))
    rcases h'.ud with ⟨u1, u2⟩ | ⟨u1, u2⟩
    · obtain ⟨-, k1, k2⟩ := kk u1
      have P' := P.to h' u1 k1 k2 P.hb
      exact (h_agree P' h4 q).step P.hc x k1 k2 cgo (fun K hK => ⟨hs.k 1 0, P.get (p := 7) (n := 4) (by omega) (by omega) (iT q64 (rM _ (iT u2 hK)))⟩)
    · exact HR.down (j := 2) (by omega) h' x u1 (fun K hK => cgo K ⟨hs.k 0 0, y 3 0, h'.2.1.1.2.1, hs.k 3 0, iF (by rw [u1]; decide) hK⟩) (fun K hK => ⟨hs.k 1 0, P.get (p := 7) (n := 4) (by omega) (by omega) (iT q64 (rM _ (iF (by rw [u2]; decide) hK)))⟩)
  · have q64 : ¬ (96 : Int64) ≤ lN (nm f 7 4) := fun w => q ((pk_lLE (a := 96) (by decide) (by omega)).mp w)
    refine HR.er0 P (j := 4) (by omega) (by omega) (fun K hK => P.num (p := 7) (n := 4) (by omega) (by omega) (iF q64 hK)) (fun K hK => ⟨hs.k 1 0, P.get (p := 7) (n := 4) (by omega) (by omega) (iF q64 (fun X eX => ?_))⟩)
    have e4 : lN (er 4) = 435845428077 := by decide +kernel
    rw [e4] at hK
    subst eX
    exact hK
end SESS
/-! fids that are placed (by hand) -/
def plC (y : LYT) (G : GS) (k : Nat) (v : Int64) (a : Nat) (p : Int32) (ou : Option Nat) : GS := si (sl (si (si (sr (si (sr (sl (si G 46 (y 14 k) 1) 47 (y 14 k) v) 48 (y 14 k) (some a)) 49 (y 14 k) p) 50 (y 14 k) ou) 51 (y 14 k) (-1)) 52 (y 14 k) 0) 53 (y 14 k) 0) 54 (y 14 k) 0
def ptM (y : LYT) (m : GS) (k : Nat) (p u : Int32) : GS := ais (als (ais (ais (ais (ais m (y 30 88) k p) (y 30 89) k u) (y 30 90) k (-1)) (y 30 91) k 0) (y 30 92) k 0) (y 30 93) k 0
section PLACE
theorem giS {G : GS} {f a g b : Nat} {x : Int32} : gi (si G f a x) g b = if g = f ∧ b = a then x else gi G g b := rfl
theorem giL {G : GS} {f a g b : Nat} {x : Int64} : gi (sl G f a x) g b = gi G g b := rfl
theorem giR {G : GS} {f a g b : Nat} {x : Option Nat} : gi (sr G f a x) g b = gi G g b := rfl
theorem glS {G : GS} {f a g b : Nat} {x : Int32} : gl (si G f a x) g b = gl G g b := rfl
theorem glL {G : GS} {f a g b : Nat} {x : Int64} : gl (sl G f a x) g b = if g = f ∧ b = a then x else gl G g b := rfl
theorem glR {G : GS} {f a g b : Nat} {x : Option Nat} : gl (sr G f a x) g b = gl G g b := rfl
theorem grS {G : GS} {f a g b : Nat} {x : Int32} : gr (si G f a x) g b = gr G g b := rfl
theorem grL {G : GS} {f a g b : Nat} {x : Int64} : gr (sl G f a x) g b = gr G g b := rfl
theorem grR {G : GS} {f a g b : Nat} {x : Option Nat} : gr (sr G f a x) g b = if g = f ∧ b = a then x else gr G g b := rfl
theorem aiA {G : GS} {f a g b : Nat} {x : Int32} : ai (ais G f a x) g b = if g = f ∧ b = a then x else ai G g b := rfl
theorem aiB {G : GS} {f a g b : Nat} {x : Int64} : ai (als G f a x) g b = ai G g b := rfl
theorem alA {G : GS} {f a g b : Nat} {x : Int32} : al (ais G f a x) g b = al G g b := rfl
theorem alB {G : GS} {f a g b : Nat} {x : Int64} : al (als G f a x) g b = if g = f ∧ b = a then x else al G g b := rfl
variable {t : TY} {y : LYT} {b c z k : Nat} {f : Nat → Nat} {G m m0 : GS} {n np : Nat} {r s : Nat → Nat}
theorem plC_f {v : Int64} {a : Nat} {p : Int32} {ou : Option Nat} : fC y k G (plC y G k v a p ou) := ((((((((fC.rf.si (f := 46)).sl (f := 47)).sr (f := 48)).si (f := 49)).sr (f := 50)).si (f := 51)).si (f := 52)).sl (f := 53)).si (f := 54)
theorem ptM_f (h : fM y k m m0) {p u : Int32} : fM y k m (ptM y m0 k p u) := (((((h.ais (f := 88)).ais (f := 89)).ais (f := 90)).ais (f := 91)).als (f := 92)).ais (f := 93)
theorem S_place (hs : SH t y) (hk : k < 12) {j : Nat} (hj : j < 23) {v : Int64} {ou : Option Nat} {K : GS → Prop} (h : K (plC y G k v (y 5 j) (gi G 0 (y 5 j)) ou)) : w_Fid_place t G (y 14 k) v (y 5 j) ou K := by
  refine ⟨hs.k 14 k (by simp [yV, hk]), fun G1 e1 G2 e2 G3 e3 => ⟨hs.k 5 j (by simp [yV, hj]), fun G4 e4 G5 e5 G6 e6 G7 e7 G8 e8 G9 e9 => ?_⟩⟩
  have e0 : gi G3 0 (y 5 j) = gi G 0 (y 5 j) := by rw [e3, e2, e1]; simp [giS, giL, giR]
  rw [e0] at e4
  subst e1 e2 e3 e4 e5 e6 e7 e8 e9
  exact h
theorem M_point (hs : SH t y) (hm : FZ y m) (hk : k < 12) {x : Nat} (hx : x < 21) {u : Int32} {K : GS → Prop} (h : K (ptM y m k (ai m (y 30 70) (83 * x + 1)) u)) : w_M_point t m (y 1 0) (nI k) (nI x) u K := by
  have cl : (nI k).toNatClampNeg = k := nI_clamp (by omega)
  have v12 : vp_in (nI k) 12 := vp_lt (N := 12) hk
  refine ⟨hs.k 1 0, M_at (c := 1) hs hm hx (by omega) ⟨y 30 88, hm.m 88, hs.k 30 88, by rw [hs.n 30 88]; exact v12, fun G3 e3 => ?_⟩⟩
  have z3 : FZ y G3 := hm.to hs (sZ.of (fun _ _ => by rw [e3]; rfl) (fun _ => by rw [e3]; rfl))
  refine ⟨y 30 89, z3.m 89, hs.k 30 89, by rw [hs.n 30 89]; exact v12, fun G5 e5 => ?_⟩
  have z5 : FZ y G5 := z3.to hs (sZ.of (fun _ _ => by rw [e5]; rfl) (fun _ => by rw [e5]; rfl))
  refine ⟨y 30 90, z5.m 90, hs.k 30 90, by rw [hs.n 30 90]; exact v12, fun G7 e7 => ?_⟩
  have z7 : FZ y G7 := z5.to hs (sZ.of (fun _ _ => by rw [e7]; rfl) (fun _ => by rw [e7]; rfl))
  refine ⟨y 30 91, z7.m 91, hs.k 30 91, by rw [hs.n 30 91]; exact v12, fun G9 e9 => ?_⟩
  have z9 : FZ y G9 := z7.to hs (sZ.of (fun _ _ => by rw [e9]; rfl) (fun _ => by rw [e9]; rfl))
  refine ⟨y 30 92, z9.m 92, hs.k 30 92, by rw [hs.n 30 92]; exact v12, fun G11 e11 => ?_⟩
  have z11 : FZ y G11 := z9.to hs (sZ.of (fun _ _ => by rw [e11]; rfl) (fun _ => by rw [e11]; rfl))
  refine ⟨y 30 93, z11.m 93, hs.k 30 93, by rw [hs.n 30 93]; exact v12, fun G13 e13 => ?_⟩
  rw [cl] at e3 e5 e7 e9 e11 e13
  rw [nb0] at e9
  subst e3 e5 e7 e9 e11 e13
  exact h
theorem M_make (hs : SH t y) (hm : FZ y m) (hc : c < 2) {i : Nat} (hi : i < 6) (hl : ∀ q, q < i → ¬ ai m (y 30 86) (6 * c + q) = 0) (hu : ai m (y 30 86) (6 * c + i) = 0) {x : Nat} (hx : x < 21) {v : Int64} {u : Int32} {K : GS → Prop} (h : K (ptM y (als (ais m (y 30 86) (6 * c + i) 1) (y 30 87) (6 * c + i) v) (6 * c + i) (ai m (y 30 70) (83 * x + 1)) u)) : w_M_make t m (y 1 0) (nI c) v (nI x) u K := by
  intro w hw
  rw [e6c] at hw
  subst hw
  refine pk_loop (fun q i (_ : Unit) => w_M_make_6 t (y 1 0) K q v (nI x) u (nI (6 * c + i)) m) (fun _ _ => True) i 0 () (by omega) trivial (fun q _ _ => ?_) (fun q j _ hj _ ih => ?_)
  · refine ⟨hs.k 1 0, y 30 86, hm.m 86, hs.k 30 86, by rw [hs.n 30 86]; exact vp_lt (N := 12) (by omega), ?_⟩
    rw [nI_clamp (by omega)]
    refine iT hu (fun G2 e2 => ?_)
    have z2 : FZ y G2 := hm.to hs (sZ.of (fun _ _ => by rw [e2]; rfl) (fun _ => by rw [e2]; rfl))
    refine ⟨y 30 87, z2.m 87, hs.k 30 87, by rw [hs.n 30 87]; exact vp_lt (N := 12) (by omega), fun G4 e4 => ?_⟩
    have z4 : FZ y G4 := z2.to hs (sZ.of (fun _ _ => by rw [e4]; rfl) (fun _ => by rw [e4]; rfl))
    rw [nb1] at e2
    have t4 : ai G4 (y 30 70) = ai m (y 30 70) := by rw [e4, e2]; exact ai_nb (hs.ne (by omega))
    refine M_point hs z4 (by omega) hx ?_
    rw [t4]
    subst e2 e4
    exact h
  · have ih := ih () trivial
    refine ⟨hs.k 1 0, y 30 86, hm.m 86, hs.k 30 86, by rw [hs.n 30 86]; exact vp_lt (N := 12) (by omega), ?_⟩
    rw [nI_clamp (by omega)]
    refine iF (hl j hj) ?_
    intro w hw; subst hw; rw [nI_1]; exact ih
/-- a fid is placed in both -/
theorem fid_placed (h : InvZ t y b G m n r s np) (hb : np < 2 ^ 31) (hrun : gi G 19 (y 3 0) = 1) {j u v : Nat} (hj : lvN n r j) (hu : u < 3) (hv : v < 2 ^ 32) (e86 : ai m0 (y 30 86) k = 1) (e87 : al m0 (y 30 87) k = lN v) : FuR y (plC y G k (lN v) (y 5 j) (gi G 0 (y 5 j)) (some (tad t u))) (ptM y m0 k (ai m (y 30 70) (83 * s j + 1)) (nI u)) k ∧ FdR t y (plC y G k (lN v) (y 5 j) (gi G 0 (y 5 j)) (some (tad t u))) (ptM y m0 k (ai m (y 30 70) (83 * s j + 1)) (nI u)) n r np k := by
  obtain ⟨hs, -, -, -, -, -, hT, -⟩ := h
  obtain ⟨p, hp, ep, -⟩ := hT.pth hj
  have N := (hT.nd hj).2.2.2.1
  obtain ⟨X, eX⟩ : ∃ X, X = plC y G k (lN v) (y 5 j) (gi G 0 (y 5 j)) (some (tad t u)) := ⟨_, rfl⟩
  obtain ⟨Z, eZ⟩ : ∃ Z, Z = ptM y m0 k (ai m (y 30 70) (83 * s j + 1)) (nI u) := ⟨_, rfl⟩
  rw [← eX, ← eZ]
  have hy : ∀ f f', 86 ≤ f → f ≤ 93 → 86 ≤ f' → f' ≤ 93 → (y 30 f = y 30 f' ↔ f = f') := fun f f' h1 h2 h3 h4 => ⟨fun e => ((hs.2.1 30 f 30 f' (yV30 (by omega)) (yV30 (by omega))).mp e).2, fun e => by rw [e]⟩
  have c46 : gi X 46 (y 14 k) = 1 := by rw [eX]; simp [plC, giS, giL, giR]
  have c49 : gi X 49 (y 14 k) = nI p := by rw [eX, ← ep]; simp [plC, giS, giL, giR]
  have c51 : gi X 51 (y 14 k) = -1 := by rw [eX]; simp [plC, giS, giL, giR]
  have c52 : gi X 52 (y 14 k) = 0 := by rw [eX]; simp [plC, giS, giL, giR]
  have c54 : gi X 54 (y 14 k) = 0 := by rw [eX]; simp [plC, giS, giL, giR]
  have c47 : gl X 47 (y 14 k) = lN v := by rw [eX]; simp [plC, glS, glL, glR]
  have c53 : gl X 53 (y 14 k) = 0 := by rw [eX]; simp [plC, glS, glL, glR]
  have c48 : gr X 48 (y 14 k) = some (y 5 j) := by rw [eX]; simp [plC, grS, grL, grR]
  have c50 : gr X 50 (y 14 k) = some (tad t u) := by rw [eX]; simp [plC, grS, grL, grR]
  have c19 : gi X 19 (y 3 0) = 1 := by rw [eX]; exact ((plC_f).1 19 _ (by omega)).1.trans hrun
  have c0 : ∀ a, gi X 0 a = gi G 0 a := fun a => by rw [eX]; exact ((plC_f).1 0 _ (by omega)).1
  have m86 : ai Z (y 30 86) k = 1 := by rw [eZ]; simp [ptM, aiA, aiB, hy, e86]
  have m88 : ai Z (y 30 88) k = nI p := by rw [eZ, ← ep, ← N]; simp [ptM, aiA, aiB, hy]
  have m89 : ai Z (y 30 89) k = nI u := by rw [eZ]; simp [ptM, aiA, aiB, hy]
  have m90 : ai Z (y 30 90) k = -1 := by rw [eZ]; simp [ptM, aiA, aiB, hy]
  have m91 : ai Z (y 30 91) k = 0 := by rw [eZ]; simp [ptM, aiA, aiB, hy]
  have m93 : ai Z (y 30 93) k = 0 := by rw [eZ]; simp [ptM, aiA, aiB, hy]
  have m92 : al Z (y 30 92) k = 0 := by rw [eZ]; simp [ptM, alA, alB, hy]
  have m87 : al Z (y 30 87) k = lN v := by rw [eZ, ← e87]; simp [ptM, alA, alB, hy]
  refine ⟨⟨by rw [c46]; exact Or.inr rfl, by rw [m86, c46], fun w => by rw [c19] at w; exact absurd w (by decide)⟩, fun _ => ⟨v, p, j, u, hv, c47, m87, c48, hT.le hj, c49, m88, hp, fun _ => hj, fun j' hj' e => ?_, hu, c50, m89, by rw [m90, c51], Or.inl c51, by rw [c52]; exact Or.inl rfl, by rw [m91, c52], by rw [m92, c53], by rw [m93, c54], fun _ => ⟨c53, c54⟩⟩⟩
  rw [c0, ← ep] at e
  exact hT.pinj hb hj' hj e
end PLACE
section ATT
variable {t : TY} {y : LYT} {b c z : Nat} {f : Nat → Nat} {G m : GS}
theorem M_err {a0 : Nat} {v w : Int64} (h : v = w) {K : GS → Prop} (k : K (sl m 98 a0 v)) : ∀ X, X = sl m 98 a0 w → K X := fun X e => by rw [e, ← h]; exact k
theorem h_attach (P : Pre t y b c z f G m) (h4 : f 4 = 104) : HR t y b c G m (fun K => w_S_attach t G (y 0 0) (y 10 c) (fun X x => K X x)) (fun K => w_M_attach t m (y 1 0) (nI c) (fun X => K X)) := by
  have hs := P.s
  have hc := P.hc
  have hz := P.g
  have hm := P.hm
  have hvc : yV 10 c = true := by simp [yV, hc]
  have n32 : nm f 7 4 < 2 ^ 32 := nm_lt P.hf.2.2.1
  have n32' : nm f 11 4 < 2 ^ 32 := nm_lt P.hf.2.2.1
  have wf := (wf104 h4).mp P.w
  have hT := P.x (Or.inr (Or.inr (Or.inl h4)))
  have e1 : txP f = 15 := by unfold txP; rw [if_pos h4]
  have e2 : txN f = 2 := by unfold txN; rw [if_neg (by omega), if_neg (by omega), if_neg (by omega)]
  rw [e1, e2] at hT
  have in0 : 15 + 2 + nm f 15 2 ≤ z := tp_in (p := 15) (c := 2) (i := 0) (by omega) (by omega)
  have E : ∀ j, j < 29 → j ≠ 2 → ∀ w : Int64, lN (er j) = w → ¬ w = 0 → ∀ K : GS → Prop, K (sl m 98 (y 1 0) (lN (er j))) → ∀ l2 X, X = sl m 98 (y 1 0) w → w_M_attach_87 t (y 1 0) (fun X => K X) (nI c) l2 X := fun j _ _ w ew hw K hK l2 X eX => by
    rw [← ew] at eX
    subst eX
    exact ⟨hs.k 1 0, iF (by rw [gl_at, ew]; exact hw) hK⟩
  have cst : ∀ K : GS → Option Nat → Prop, w_Link_find t G (y 10 c) (lN (nm f 7 4)) (fun x3 => (if x3 = none then (w_Link_spareFid t G (y 10 c) (fun x4 => (if ¬ x4 = none then (w_Message_number t G (y 8 0) (11 : Int32) (4 : Int32) (fun v5 => (if v5 = (4294967295 : Int64) then (w_Message_userNamed t G (y 8 0) (0 : Int32) (fun x6 => (if ¬ x6 = none then (∃ a7, (gr G 63 (y 0 0)) = some a7 ∧ tk t a7 = 2 ∧ ∃ a8, x4 = some a8 ∧ tk t a8 = 7 ∧ ∃ a9, (gr G 13 a7) = some a9 ∧ w_Fid_place t G a8 (lN (nm f 7 4)) a9 x6 (fun G10 => ∃ a11, (gr G10 63 (y 0 0)) = some a11 ∧ tk t a11 = 2 ∧ ∃ a12, (gr G10 67 (y 0 0)) = some a12 ∧ tk t a12 = 6 ∧ ∃ a13, (gr G10 13 a11) = some a13 ∧ w_Answer_putQid t G10 a12 a13 (fun G14 => K G14 (some (tks t 2))))) else (K G (some (tks t 10)))))) else (K G (some (tks t 7)))))) else (K G (some (tks t 9)))))) else (K G (some (tks t 8))))) → w_S_attach t G (y 0 0) (y 10 c) (fun X x => K X x) := fun K hK => ⟨hs.k 0 0, y 8 0, hz.1.2.2.2.1, hs.k 8 0, P.num (p := 7) (n := 4) (by omega) (by omega) ⟨hs.k 10 c hvc, hK⟩⟩
  have mst : ∀ K : GS → Prop, w_M_fid t m (y 1 0) (nI c) (lN (nm f 7 4)) (fun v3 => (if v3 < 0 then (w_M_many t m (y 1 0) (nI c) (fun v4 => (if ¬ v4 = (6 : Int32) then (w_M_get t m (y 1 0) (11 : Int32) (4 : Int32) (fun v5 => (if v5 = (4294967295 : Int64) then ((if 0 ≤ uI (unm f 15) then (w_M_attach_87 t (y 1 0) (fun X => K X) (nI c) (uI (unm f 15)) m) else (∀ G6, G6 = sl m 98 (y 1 0) (1919251317 : Int64) → w_M_attach_87 t (y 1 0) (fun X => K X) (nI c) (uI (unm f 15)) G6))) else (∀ G7, G7 = sl m 98 (y 1 0) (1752462689 : Int64) → w_M_attach_87 t (y 1 0) (fun X => K X) (nI c) (uI (unm f 15)) G7)))) else (∀ G8, G8 = sl m 98 (y 1 0) (1935960422 : Int64) → w_M_attach_87 t (y 1 0) (fun X => K X) (nI c) (uI (unm f 15)) G8)))) else (∀ G9, G9 = sl m 98 (y 1 0) (435728772713 : Int64) → w_M_attach_87 t (y 1 0) (fun X => K X) (nI c) (uI (unm f 15)) G9))) → w_M_attach t m (y 1 0) (nI c) (fun X => K X) := fun K hK => ⟨hs.k 1 0, M_userAt (q := 15) hs hm P.hf P.mm in0 (P.get (p := 7) (n := 4) (by omega) (by omega) hK)⟩
  rcases fid_or G y c (lN (nm f 7 4)) with ⟨i, hi, hl, hu, hv⟩ | hno
  · refine HR.er0 P (j := 8) (by omega) (by omega) (fun K hK => cst K (S_findY hs hz hc hi hl hu hv (iF (by simp) hK))) (fun K hK => mst K ?_)
    obtain ⟨q1, q2⟩ := P.i.fu (k := 6 * c + i) (by omega)
    refine M_fidY hs hm hc hi (fun k hk => P.i.fn (by omega) (hl k hk)) (by rw [q1]; exact hu) (by rw [(q2 hu).2]; exact hv) (iF (nI_pos (by omega)) (E 8 (by omega) (by omega) _ (by decide +kernel) (by decide) K hK _))
  have mfid : ∀ K' : Int32 → Prop, K' (-1) → w_M_fid t m (y 1 0) (nI c) (lN (nm f 7 4)) K' := fun K' hK => M_fidN hs hm hc (fun k hk => P.i.fn (by omega) (hno k hk)) hK
  rcases spare_or G y c with ⟨i, hi, hl, hu⟩ | hfull
  · have many : ¬ cnt (fun i => decide (¬ ai m (y 30 86) (6 * c + i) = 0)) 6 = 6 := fun w => (P.i.many hc).mp w i hi hu
    have c6 := @cnt_le (fun i => decide (¬ ai m (y 30 86) (6 * c + i) = 0)) 6
    have mmany : ∀ K' : Int32 → Prop, (∀ v4 : Int32, ¬ v4 = 6 → K' v4) → w_M_many t m (y 1 0) (nI c) K' := fun K' hK => M_many hs hm hc (hK _ (fun w => many ((nI_eq (b := 6) (by omega) (by decide)).mp w)))
    by_cases ha : nm f 11 4 = 4294967295
    · have ha' : lN (nm f 11 4) = (4294967295 : Int64) := by rw [ha]; rfl
      cases eu : unm f 15 with
      | none =>
        refine HR.er0 P (j := 10) (by omega) (by omega) (fun K hK => cst K (S_findN hs hz hc hno (iT rfl (S_spareY hs hz hc hi hl hu (iT (by simp) (P.num (p := 11) (n := 4) (by omega) (by omega) (iT ha' (S_userNamed (p := 15) (i := 0) (c := 2) hs hz P.hf P.mc hT (by omega) (by omega) (by omega) ?_)))))))) (fun K hK => mst K (mfid _ (iT (by decide) (mmany _ fun v4 h6 => iT h6 (P.get (p := 11) (n := 4) (by omega) (by omega) (iT ha' ?_))))))
        · show (if ¬ Option.map (tad t) (unm f 15) = none then _ else _)
          rw [eu]; exact iF (by simp) hK
        · rw [eu]
          exact iF (by decide) (E 10 (by omega) (by omega) _ (by decide +kernel) (by decide) K hK _)
      | some u =>
        have hu3 := unm_lt eu
        obtain ⟨n, r, s, np, hZ⟩ := P.i.z
        have hnp : np < 2 ^ 31 := by have := hZ.2.2.2.2.2.2.2.2.2.1; have := P.hb; omega
        have hTr := hZ.2.2.2.2.2.2.1
        have s0 : s 0 = 0 := hTr.2.2.2.2.2.2.2.2.2.1
        have hk12 : 6 * c + i < 12 := by omega
        obtain ⟨m0, em0⟩ : ∃ X, X = als (ais m (y 30 86) (6 * c + i) 1) (y 30 87) (6 * c + i) (lN (nm f 7 4)) := ⟨_, rfl⟩
        have f0 : fM y (6 * c + i) m m0 := by rw [em0]; exact (fM.rf.ais (f := 86)).als (f := 87)
        obtain ⟨w1, w2⟩ := fid_placed (m0 := m0) (k := 6 * c + i) (j := 0) (u := u) (v := nm f 7 4) hZ hnp P.r lv0 hu3 n32 (by rw [em0]; exact ai_at) (by rw [em0]; exact al_at)
        obtain ⟨G1, eG1⟩ : ∃ X, X = plC y G (6 * c + i) (lN (nm f 7 4)) (y 5 0) (gi G 0 (y 5 0)) (some (tad t u)) := ⟨_, rfl⟩
        obtain ⟨m1, em1⟩ : ∃ X, X = ptM y m0 (6 * c + i) (ai m (y 30 70) (83 * s 0 + 1)) (nI u) := ⟨_, rfl⟩
        rw [← eG1, ← em1] at w1 w2
        have fc : fC y (6 * c + i) G G1 := by rw [eG1]; exact plC_f
        have fm : fM y (6 * c + i) m m1 := by rw [em1]; exact ptM_f f0
        have P1 := P.fid hZ hk12 fc fm w1 w2
        have hT1 : TrR t y G1 (ai m1 (y 30 70)) n r s np := by rw [fm.ma hs rfl (by omega)]; exact hTr.to fc.agC.1
        have N := (hT1.nd lv0).2.2
        rw [s0] at N
        refine HR.step (G1 := G1) (m1 := m1) (F1 := fun K => w_Answer_putQid t G1 (y 9 0) (y 5 0) (fun X => K X (some (tks t 2)))) (H1 := fun K => w_M_qid t m1 (y 1 0) (nI 0) K) (HR.pw P1 (Pw.qid hs P1.g P1.hm (by omega) (by omega) N) (by omega) (fun K hK => hK) (fun K hK => hK)) hc fc.e fc.kk (fm.kk hs) (fun K hK => cst K (S_findN hs hz hc hno (iT rfl (S_spareY hs hz hc hi hl hu (iT (by simp) (P.num (p := 11) (n := 4) (by omega) (by omega) (iT ha' (S_userNamed (p := 15) (i := 0) (c := 2) hs hz P.hf P.mc hT (by omega) (by omega) (by omega) ?_)))))))) (fun K hK => mst K (mfid _ (iT (by decide) (mmany _ fun v4 h6 => iT h6 (P.get (p := 11) (n := 4) (by omega) (by omega) (iT ha' ?_))))))
        · have eu' : Option.map (tad t) (unm f (tp f 15 0)) = some (tad t u) := by show Option.map (tad t) (unm f 15) = _; rw [eu]; rfl
          rw [eu']
          refine iT (by simp) ⟨y 2 0, hz.1.1, hs.k 2 0, y 14 (6 * c + i), rfl, hs.k 14 _ (by simp [yV]; omega), y 5 0, hz.2.1.1, S_place hs hk12 (by omega) ?_⟩
          rw [← eG1]
          exact ⟨y 2 0, P1.g.1.1, hs.k 2 0, y 9 0, P1.g.1.2.2.2.2.1, hs.k 9 0, y 5 0, P1.g.2.1.1, hK⟩
        · rw [eu]
          refine iT (nI_pos' (by omega)) ⟨hs.k 1 0, iT P.e (P.get (p := 7) (n := 4) (by omega) (by omega) (M_make (x := 0) hs hm hc hi (fun q hq => by rw [(P.i.fu (k := 6 * c + q) (by omega)).1]; exact hl q hq) (by rw [(P.i.fu (k := 6 * c + i) (by omega)).1]; exact hu) (by omega) ?_))⟩
          rw [s0] at em1
          show w_M_qid t (ptM y (als (ais m (y 30 86) (6 * c + i) 1) (y 30 87) (6 * c + i) (lN (nm f 7 4))) (6 * c + i) (ai m (y 30 70) (83 * 0 + 1)) (nI u)) (y 1 0) (nI 0) _
          rw [← em0, ← em1]
          exact hK
    · have ha' : ¬ lN (nm f 11 4) = (4294967295 : Int64) := fun w => ha ((pk_lEQ (b := 4294967295) (by omega) (by decide)).mp w)
      exact HR.er0 P (j := 7) (by omega) (by omega) (fun K hK => cst K (S_findN hs hz hc hno (iT rfl (S_spareY hs hz hc hi hl hu (iT (by simp) (P.num (p := 11) (n := 4) (by omega) (by omega) (iF ha' hK))))))) (fun K hK => mst K (mfid _ (iT (by decide) (mmany _ fun v4 h6 => iT h6 (P.get (p := 11) (n := 4) (by omega) (by omega) (iF ha' (E 7 (by omega) (by omega) _ (by decide +kernel) (by decide) K hK _)))))))
  · have many := (P.i.many hc).mpr hfull
    exact HR.er0 P (j := 9) (by omega) (by omega) (fun K hK => cst K (S_findN hs hz hc hno (iT rfl (S_spareN hs hz hc hfull (iF (by simp) hK))))) (fun K hK => mst K (mfid _ (iT (by decide) (M_many hs hm hc (iF (fun w => w (by rw [many]; rfl)) (E 9 (by omega) (by omega) _ (by decide +kernel) (by decide) K hK _))))))
end ATT
