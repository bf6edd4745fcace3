/-! one message (by hand) -/
/-- a message was taken, and its answer begun -/
def Prm (t : TY) (y : LYT) (b c z : Nat) (f : Nat → Nat) (G m : GS) : Prop := InvY t y b G m ∧ c < 2 ∧ gi G 19 (y 3 0) = 1 ∧ MsF z f ∧ MsC y G z f ∧ MsM y m z f ∧ gi G 38 (y 8 0) = nI (f 4) ∧ gl m 98 (y 1 0) = 0 ∧ gi G 45 (y 9 0) = nI 7 ∧ gi m 97 (y 1 0) = nI 7
section MSG
variable {t : TY} {y : LYT} {b c z : Nat} {f : Nat → Nat} {G m G1 : GS} {F F1 : (GS → Option Nat → Prop) → Prop} {H H1 : (GS → Prop) → Prop}
theorem HR.stepT (h : HR t y b c G1 m F1 H1) (hs : SH t y) (x : xT y G G1) (hF : ∀ K, F1 K → F K) (hH : ∀ K, H1 K → H K) : HR t y b c G m F H := by
  obtain ⟨G', m', j, hj, hi, he, r1, r2, r⟩ := h
  refine ⟨G', m', j, hj, hi, (x.1.eS hs).tr he, fun K hK => hF _ (r1 K hK), fun K hK => hH _ (r2 K hK), fun q => ?_⟩
  obtain ⟨a1, a2, a3, a4, a5, a6⟩ := r q
  exact ⟨fun k h1 h2 => by rw [a1 k h1 h2, x.2.2.2], a2, a3, a4.trans (x.1.1 56 _ (by omega)), a5.trans (p58 (x.1.1 58 _ (by omega)) (x.1.1 61 _ (by omega))), a6⟩
theorem h_msg (P : Prm t y b c z f G m) (hb1 : b + 1 < 2 ^ 20) : HR t y (b + 1) c G m (fun K => w_S_firstRefusal t G (y 0 0) (y 10 c) (fun G7 x8 => w_str_isEmpty t x8 (fun v9 => (if v9 = 0 then (K G7 x8) else (∃ a10, (gr G7 66 (y 0 0)) = some a10 ∧ tk t a10 = 5 ∧ (if (112 : Int32) ≤ (gi G7 38 a10) then (w_S_handleWithFid t G7 (y 0 0) (y 10 c) (fun X x => K X x)) else (w_S_handleSession t G7 (y 0 0) (y 10 c) (fun X x => K X x)))))))) (fun K => w_M_handle t m (y 1 0) (nI c) (fun X => K X)) := by
  obtain ⟨hI, hc, hrun, hf, mc, mm, h38, h98, h45, h97⟩ := P
  have hs := hI.1
  have hz := hI.2.1
  have hm := hI.2.2.1
  have hvc : yV 10 c = true := by simp [yV, hc]
  have f256 := hf.2.2.1 4
  have hz7 := hf.1
  have cst : ∀ K : GS → Option Nat → Prop, (if ¬ kn (nI (f 4)) = 0 then (w_Message_isWellFormed t G (y 8 0) (fun G3 v4 => (if ¬ v4 = 0 then (tk t (y 10 c) = 8 ∧ (if ¬ (gi G3 60 (y 10 c)) = 0 then (K G3 (some (tks t 2))) else (∃ a5, (gr G3 66 (y 0 0)) = some a5 ∧ tk t a5 = 5 ∧ (if ¬ (gi G3 38 a5) = (100 : Int32) then (K G3 (some (tks t 3))) else (K G3 (some (tks t 2))))))) else (K G3 (some (tks t 1)))))) else (K G (some (tks t 0)))) → w_S_firstRefusal t G (y 0 0) (y 10 c) K := fun K hK => ⟨hs.k 0 0, y 8 0, hz.1.2.2.2.1, hs.k 8 0, S_known hs (by rw [h38]; exact hK)⟩
  have mst : ∀ K : GS → Prop, (if ¬ kn (nI (f 4)) = 0 then (w_M_formed t m (y 1 0) (nI (f 4)) (fun v4 => (if ¬ v4 = 0 then ((if nI (f 4) = (100 : Int32) then (w_M_handle_67 t (y 1 0) (fun X => K X) (nI c) (nI (f 4)) m) else (∃ a5, (gr m 84 (y 1 0)) = some a5 ∧ tk t a5 = 52 ∧ vp_in (nI c) (tn t a5) ∧ (if ¬ (ai m a5 (nI c).toNatClampNeg) = 0 then (w_M_handle_67 t (y 1 0) (fun X => K X) (nI c) (nI (f 4)) m) else (∀ G6, G6 = sl m 98 (y 1 0) (31084746137298294 : Int64) → K G6))))) else (∀ G7, G7 = sl m 98 (y 1 0) (1836216166 : Int64) → K G7)))) else (∀ G8, G8 = sl m 98 (y 1 0) (1701869940 : Int64) → K G8)) → w_M_handle t m (y 1 0) (nI c) (fun X => K X) := fun K hK => by
    refine ⟨hs.k 1 0, y 30 94, hm.m 94, hs.k 30 94, by rw [hs.n 30 94]; exact vp_lt (n := 4) (N := 128) (by omega), fun v2 e2 => ?_⟩
    have e2 : v2 = nI (f 4) := by rw [e2]; exact mm.2 4 (by omega)
    rw [e2]
    exact M_known hK
  -- errors
  have err : ∀ (e : Nat) (w : Int64) (G1 : GS), e < 29 → e ≠ 2 → lN (er e) = w → xT y G G1 → (∀ K : GS → Option Nat → Prop, K G1 (some (tks t e)) → w_S_firstRefusal t G (y 0 0) (y 10 c) K) → (∀ K : GS → Prop, (∀ X, X = sl m 98 (y 1 0) w → K X) → w_M_handle t m (y 1 0) (nI c) (fun X => K X)) → HR t y (b + 1) c G m (fun K => w_S_firstRefusal t G (y 0 0) (y 10 c) (fun G7 x8 => w_str_isEmpty t x8 (fun v9 => (if v9 = 0 then (K G7 x8) else (∃ a10, (gr G7 66 (y 0 0)) = some a10 ∧ tk t a10 = 5 ∧ (if (112 : Int32) ≤ (gi G7 38 a10) then (w_S_handleWithFid t G7 (y 0 0) (y 10 c) (fun X x => K X x)) else (w_S_handleSession t G7 (y 0 0) (y 10 c) (fun X x => K X x)))))))) (fun K => w_M_handle t m (y 1 0) (nI c) (fun X => K X)) := fun e w G1 he he2 ew x hF hH => by
    refine HR.up (b := b) ⟨G1, sl m 98 (y 1 0) (lN (er e)), e, he, hI.x x.1 (xM.rf.sl (f := 98)), x.1.eS hs, fun K hK => hF _ (isEn he he2 (iT rfl hK)), fun K hK => hH K (M_err ew hK), fun _ => ⟨fun k _ _ => by rw [x.2.2.2], rfl, gl_at, x.1.1 56 _ (by omega), p58 (x.1.1 58 _ (by omega)) (x.1.1 61 _ (by omega)), fun q => absurd q he2⟩⟩ (by omega)
  rcases kn_01 (nI (f 4)) with kz | k1
  · exact err 0 _ G (by omega) (by omega) (by decide +kernel) xT.rf (fun K hK => cst K (iF (fun w => w kz) hK)) (fun K hK => mst K (iF (fun w => w kz) hK))
  have kne : ¬ kn (nI (f 4)) = 0 := by rw [k1]; decide
  have types := kn_1 (f 4) f256 k1
  obtain ⟨G3, v4, x, w1, w0, run⟩ := S_formed hs hz hf mc h38 k1
  by_cases wf : wfm f z
  · obtain ⟨ev, hT⟩ := w1 wf
    have hz3 := x.1.z hs hz
    obtain ⟨_, _, _, _, _, -, -, -, -, -, -, -, -, -, -, -, -, -, -, lB, l84, -⟩ := hI.2.2.2.2.1 c hc
    have e60 : gi G3 60 (y 10 c) = gi G 60 (y 10 c) := x.1.1 60 _ (by omega)
    have e38 : gi G3 38 (y 8 0) = nI (f 4) := (x.2.1 38 _ (by omega)).trans h38
    have q4 : ∀ v, v < 256 → (nI (f 4) = nI v ↔ f 4 = v) := fun v hv => nI_eq (by omega) (by omega)
    by_cases ok : gi G 60 (y 10 c) = 1 ∨ f 4 = 100
    · have P3 : Pre t y b c z f G3 m := ⟨hI.x x.1 xM.rf, hc, (x.1.1 19 _ (by omega)).trans hrun, hf, mc.x (x.2.1 37 _ (by omega)) x.2.2.1, mm, e38, h98, (x.2.1 45 _ (by omega)).trans h45, h97, wf, hT, by omega⟩
      have c2 : ∀ K : GS → Option Nat → Prop, K G3 (some (tks t 2)) → w_S_firstRefusal t G (y 0 0) (y 10 c) K := fun K hK => cst K (iT kne (run _ (by
        rw [ev]
        refine iT (by decide) ⟨hs.k 10 c hvc, ?_⟩
        rw [e60]
        by_cases q : gi G 60 (y 10 c) = 1
        · exact iT (by rw [q]; decide) hK
        · have q0 : gi G 60 (y 10 c) = 0 := by rcases lB with a | a; exact a; exact absurd a q
          have q100 : f 4 = 100 := by rcases ok with a | a; exact absurd a q; exact a
          refine iF (fun w => w q0) ⟨y 8 0, hz3.1.2.2.2.1, hs.k 8 0, ?_⟩
          rw [e38, q100]
          exact iF (fun w => w rfl) hK)))
      have m2 : ∀ K : GS → Prop, w_M_handle_67 t (y 1 0) (fun X => K X) (nI c) (nI (f 4)) m → w_M_handle t m (y 1 0) (nI c) (fun X => K X) := fun K hK => mst K (iT kne (M_formed hs hm hf mm k1 (fun _ => iT (by decide) (by
        by_cases q100 : f 4 = 100
        · exact iT (by rw [q100]; rfl) hK
        · have q : gi G 60 (y 10 c) = 1 := by rcases ok with a | a; exact a; exact absurd a q100
          refine iF (fun w => q100 ((q4 100 (by omega)).mp w)) ⟨y 30 84, hm.m 84, hs.k 30 84, by rw [hs.n 30 84]; exact vp_lt (N := 2) hc, ?_⟩
          rw [nI_clamp (by omega), l84, q]
          exact iT (by decide) hK)) (fun w => absurd wf w)))
      have cd : ∀ K : GS → Option Nat → Prop, (if (112 : Int32) ≤ nI (f 4) then (w_S_handleWithFid t G3 (y 0 0) (y 10 c) (fun X x => K X x)) else (w_S_handleSession t G3 (y 0 0) (y 10 c) (fun X x => K X x))) → w_S_firstRefusal t G (y 0 0) (y 10 c) (fun G7 x8 => w_str_isEmpty t x8 (fun v9 => (if v9 = 0 then (K G7 x8) else (∃ a10, (gr G7 66 (y 0 0)) = some a10 ∧ tk t a10 = 5 ∧ (if (112 : Int32) ≤ (gi G7 38 a10) then (w_S_handleWithFid t G7 (y 0 0) (y 10 c) (fun X x => K X x)) else (w_S_handleSession t G7 (y 0 0) (y 10 c) (fun X x => K X x))))))) := fun K hK => c2 _ (isE2 (iF (by decide) ⟨y 8 0, hz3.1.2.2.2.1, hs.k 8 0, by rw [e38]; exact hK⟩))
      have ss : ∀ K : GS → Option Nat → Prop, f 4 < 112 → (if nI (f 4) = (100 : Int32) then (w_Message_number t G3 (y 8 0) (7 : Int32) (4 : Int32) (fun v3 => (if (96 : Int64) ≤ v3 then (w_S_releaseAll t G3 (y 0 0) (y 10 c) (fun G4 => w_S_agree t G4 (y 0 0) (y 10 c) (fun G5 => K G5 (some (tks t 2))))) else (K G3 (some (tks t 4)))))) else if nI (f 4) = (102 : Int32) then (K G3 (some (tks t 7))) else if nI (f 4) = (104 : Int32) then (w_S_attach t G3 (y 0 0) (y 10 c) (fun G6 x7 => K G6 x7)) else if nI (f 4) = (110 : Int32) then (w_S_walk t G3 (y 0 0) (y 10 c) (fun G8 x9 => K G8 x9)) else (K G3 (some (tks t 2)))) → w_S_firstRefusal t G (y 0 0) (y 10 c) (fun G7 x8 => w_str_isEmpty t x8 (fun v9 => (if v9 = 0 then (K G7 x8) else (∃ a10, (gr G7 66 (y 0 0)) = some a10 ∧ tk t a10 = 5 ∧ (if (112 : Int32) ≤ (gi G7 38 a10) then (w_S_handleWithFid t G7 (y 0 0) (y 10 c) (fun X x => K X x)) else (w_S_handleSession t G7 (y 0 0) (y 10 c) (fun X x => K X x))))))) := fun K hl hK => cd K (iF (nI_ge (b := 112) hl (by decide)) ⟨hs.k 0 0, y 8 0, hz3.1.2.2.2.1, hs.k 8 0, fun v2 e2 => by rw [e2, e38]; exact hK⟩)
      by_cases e1 : f 4 = 100
      · refine HR.up (HR.stepT (h_version P3 e1) hs x (fun K hK => ss K (by omega) (iT (by rw [e1]; rfl) hK)) (fun K hK => m2 K (iF (fun w => w (by rw [e1]; rfl)) ⟨hs.k 1 0, hK⟩))) (by omega)
      have n1 : ¬ nI (f 4) = (100 : Int32) := fun w => e1 ((q4 100 (by omega)).mp w)
      by_cases e2 : f 4 = 102
      · have e7 : lN (er 7) = 1752462689 := by decide +kernel
        refine HR.up (HR.stepT (F1 := fun K => K G3 (some (tks t 7))) (H1 := fun K => ∀ X, X = sl m 98 (y 1 0) (1752462689 : Int64) → K X) (HR.er0 P3 (j := 7) (by omega) (by omega) (fun K hK => hK) (fun K hK => M_err e7 hK)) hs x (fun K hK => ss K (by omega) (iF n1 (iT (by rw [e2]; rfl) hK))) (fun K hK => m2 K (iT n1 (iF (fun w => w (by rw [e2]; rfl)) ⟨hs.k 1 0, hK⟩)))) (by omega)
      have n2 : ¬ nI (f 4) = (102 : Int32) := fun w => e2 ((q4 102 (by omega)).mp w)
      by_cases e3 : f 4 = 104
      · refine HR.up (HR.stepT (h_attach P3 e3) hs x (fun K hK => ss K (by omega) (iF n1 (iF n2 (iT (by rw [e3]; rfl) hK)))) (fun K hK => m2 K (iT n1 (iT n2 (iF (fun w => w (by rw [e3]; rfl)) ⟨hs.k 1 0, hK⟩))))) (by omega)
      have n3 : ¬ nI (f 4) = (104 : Int32) := fun w => e3 ((q4 104 (by omega)).mp w)
      by_cases e4 : f 4 = 108
      · have n110 : ¬ nI (f 4) = (110 : Int32) := fun w => by have := (q4 110 (by omega)).mp w; omega
        refine HR.up (HR.stepT (F1 := fun K => K G3 (some (tks t 2))) (H1 := fun K => K m) (HR.ok P3 (fun K hK => hK) (fun K hK => hK)) hs x (fun K hK => ss K (by omega) (iF n1 (iF n2 (iF n3 (iF n110 hK))))) (fun K hK => m2 K (iT n1 (iT n2 (iT n3 (iT (by rw [e4]; rfl) hK)))))) (by omega)
      have n4 : ¬ nI (f 4) = (108 : Int32) := fun w => e4 ((q4 108 (by omega)).mp w)
      by_cases e5 : f 4 = 110
      · refine HR.up (HR.stepT (h_walk P3 e5) hs x (fun K hK => ss K (by omega) (iF n1 (iF n2 (iF n3 (iT (by rw [e5]; rfl) hK))))) (fun K hK => m2 K (iT n1 (iT n2 (iT n3 (iF n4 ⟨hs.k 1 0, by rw [e5]; exact hK⟩)))))) (by omega)
      have z11 : 11 ≤ z := by
        rcases types with e | e | e | e | e | e | e | e | e | e | e | e | e
        · omega
        · omega
        · omega
        · omega
        · omega
        · have := (wf112 e).mp wf; omega
        · have := (wf114 e).mp wf
          have := @tp_le f 11 1
          omega
        · have := (wf116 e).mp wf; omega
        · have := (wf118 e).mp wf; omega
        · have := (wf120 e).mp wf; omega
        · have := (wf122 e).mp wf; omega
        · have := (wf124 e).mp wf; omega
        · have := ((wf126 e).mp wf).1; omega
      exact HR.stepT (h_fid P3 hb1 (by omega) z11) hs x (fun K hK => cd K (iT (nI_le (a := 112) (by omega) (by omega)) hK)) (fun K hK => m2 K (iT n1 (iT n2 (iT n3 (iF n4 ⟨hs.k 1 0, hK⟩)))))
    · have q0 : gi G 60 (y 10 c) = 0 := by
        rcases lB with a | a
        · exact a
        · exact absurd (Or.inl a) ok
      have q100 : ¬ f 4 = 100 := fun a => ok (Or.inr a)
      have n100 : ¬ nI (f 4) = (100 : Int32) := fun w => q100 ((q4 100 (by omega)).mp w)
      refine err 3 31084746137298294 G3 (by omega) (by omega) (by decide +kernel) x (fun K hK => cst K (iT kne (run _ ?_))) (fun K hK => mst K (iT kne (M_formed hs hm hf mm k1 (fun _ => iT (by decide) (iF n100 ⟨y 30 84, hm.m 84, hs.k 30 84, by rw [hs.n 30 84]; exact vp_lt (N := 2) hc, ?_⟩)) (fun w => absurd wf w))))
      · rw [ev]
        refine iT (by decide) ⟨hs.k 10 c hvc, ?_⟩
        rw [e60]
        refine iF (fun w => w q0) ⟨y 8 0, hz3.1.2.2.2.1, hs.k 8 0, ?_⟩
        rw [e38]
        exact iT n100 hK
      · rw [nI_clamp (by omega), l84, q0]
        exact iF (by simp) hK
  · exact err 1 _ G3 (by omega) (by omega) (by decide +kernel) x (fun K hK => cst K (iT kne (run _ (by rw [w0 wf]; exact iF (by simp) hK)))) (fun K hK => mst K (iT kne (M_formed hs hm hf mm k1 (fun w => absurd w wf) (fun _ => iF (by simp) hK))))
end MSG
