/-! a change is carried out, or cut (by hand) -/
section CARRY
variable {t : TY} {y : LYT} {G m : GS} {T P : Nat → Int32} {n np nq b : Nat} {r s : Nat → Nat}
def cm3 (y : LYT) (m : GS) (z : Nat) : GS := si (si (si m 76 (y 1 0) (-1)) 77 (y 1 0) (gi m 77 (y 1 0) + gi m 76 (y 1 0))) 73 (y 1 0) (if gi m 76 (y 1 0) = nI (lgB z) + 1 then 1 else 0)
def cm6 (y : LYT) (m : GS) (z : Nat) : GS := si (aw (aw (cm3 y m z) (y 30 72) (mix (ai m (y 30 70)) (ai m (y 30 72)) 1743)) (y 30 70) (mix (ai m (y 30 71)) (ai m (y 30 70)) 1743)) 75 (y 1 0) 1
def cmN (y : LYT) (m : GS) (z : Nat) : GS := frM y (frM y (cm6 y m z) 0) 1
theorem FZ.fr (hs : SH t y) (hz : FZ y m) {c : Nat} : FZ y (frM y m c) := hz.to hs (sZ.of (fun _ _ => rfl) (fun _ => rfl))
theorem M_commitN (hs : SH t y) (hz : FZ y m) {z : Nat} (hzz : z < 2 ^ 30) (h1 : ¬ gi m 76 (y 1 0) < 0) (h2 : gi m 76 (y 1 0) < nI (lgB z) + 2) {K : GS → Int32 → Prop} (k : K (cmN y m z) 0) : w_M_commit t m (y 1 0) (nI z) K := by
  intro v1 e1
  refine ⟨hs.k 1 0, ?_⟩
  intro v2 e2 G3 e3
  rw [lgB_e hzz] at e1
  subst e1 e2 e3
  refine iF h1 (iT h2 ?_)
  intro G4 e4
  rw [gi_ne (by omega)] at e4
  have go : w_M_commit_66 t (y 1 0) K (some (y 1 0)) (if gi m 76 (y 1 0) = nI (lgB z) + 1 then 1 else 0) G4 := by
    refine ⟨y 1 0, rfl, hs.k 1 0, by split; exact Or.inr rfl; exact Or.inl rfl, fun G2 e2 => ?_⟩
    have eG : G2 = cm3 y m z := by rw [e2, e4]; rfl
    have hz3 : FZ y G2 := hz.to hs (sZ.of (fun f a => by rw [e2, e4]; rfl) (fun b => by rw [e2, e4]; rfl))
    refine M_copy (m := G2) (a := y 30 70) (b := y 30 72) (K := fun G' => w_M_back t G' (y 1 0) (fun G1 => ∀ G2, G2 = si G1 75 (y 1 0) (1 : Int32) → w_M_fresh t G2 (y 1 0) (0 : Int32) (fun G3 => w_M_fresh t G3 (y 1 0) (1 : Int32) (fun G4 => K G4 (0 : Int32))))) (w := w_M_commit_72 t (y 1 0) K) (hs.ne (by omega)) (fun q G' _ hk => ?_) (fun q i G' hi hg hk => ?_) ?_
    · unfold w_M_commit_72
      exact iT (by decide) ⟨hs.k 1 0, hk⟩
    · refine iF (show ¬ nI 1743 ≤ nI i from nI_ge hi (by decide)) ⟨hs.k 1 0, y 30 70, by rw [hg]; exact hz3.m 70, hs.k 30 70, by rw [hs.n 30 70]; exact vp_lt (N := 1743) hi, y 30 72, by rw [hg]; exact hz3.m 72, hs.k 30 72, by rw [hs.n 30 72]; exact vp_lt (N := 1743) hi, ?_⟩
      intro A eA v hv
      subst eA hv
      rw [nI_clamp (by omega)]
      exact hk
    · refine M_back (m := aw G2 (y 30 72) (mix (ai G2 (y 30 70)) (ai G2 (y 30 72)) 1743)) hs (hz3.to hs (sZ.of (fun _ _ => rfl) (fun _ => rfl))) ?_
      intro B eB
      have eB2 : B = cm6 y m z := by
        rw [eB, eG, aw_ne (hs.ne (by omega)), aw_ne (hs.ne (by omega))]; rfl
      have hzB : FZ y B := hz3.to hs (sZ.of (fun f a => by rw [eB]; rfl) (fun b => by rw [eB]; rfl))
      refine M_fresh (c := 0) hs hzB (by omega) (M_fresh (c := 1) hs (hzB.fr hs) (by omega) ?_)
      rw [eB2]; exact k
  refine iN ⟨fun q => ?_, fun q => ?_⟩
  · rw [if_pos q] at go; exact go
  · rw [if_neg q] at go; exact go
/-- a change stands ready in the class, and lies in the reference's cells -/
def PreC (t : TY) (y : LYT) (b : Nat) (G m : GS) (T P : Nat → Int32) (n : Nat) (r s : Nat → Nat) (np nq : Nat) : Prop := SH t y ∧ FZ y G ∧ FZ y m ∧ ScR y G m ∧ gi G 19 (y 3 0) = 1 ∧ (∀ c, c < 2 → LkR y G m c) ∧ (∀ k, k < 12 → FuR y G m k) ∧ TrR t y G T n r s np ∧ (∀ k, k < 12 → FdR t y G m n r np k) ∧ gi m 74 (y 1 0) = nI (np - 1) ∧ np ≤ b ∧ Stg t y G P n r np nq ∧ (∀ k, k < 1743 → ai m (y 30 70) k = P k) ∧ ∀ k, k < 1743 → ai m (y 30 71) k = T k
theorem Stg.cells {P' : Nat → Int32} (h : Stg t y G P n r np nq) (e : ∀ k, k < 1743 → P' k = P k) : Stg t y G P' n r np nq := fun G1 a hz => by
  obtain ⟨G2, ⟨hf, n', r', s', hT, h1, h2⟩, run⟩ := h G1 a hz
  exact ⟨G2, ⟨hf, n', r', s', hT.cells e, h1, h2⟩, run⟩
def gdN (y : LYT) (G : GS) (z : Nat) : GS := rsL y (rsL y (adN y G z) 0) 1
/-- the change is cut: both go down -/
theorem carryN (h : PreC t y b G m T P n r s np nq) {z : Nat} (hzz : z < 2 ^ 30) (h1 : ¬ gi G 18 (y 3 0) < 0) (h2 : gi G 18 (y 3 0) < nI (lgB z) + 2) : InvY t y b (gdN y G z) (cmN y m z) ∧ (∀ K : GS → Prop, K (gdN y G z) → w_S_carryOut t G (y 0 0) (nI z) K) ∧ (∀ K : GS → Int32 → Prop, K (cmN y m z) 0 → w_M_commit t m (y 1 0) (nI z) K) := by
  obtain ⟨hs, hz, hm, ⟨s1, s2, s3, s4, s5, -⟩, s6, hl, hu, hT, hF, h74, hnp, hS, hP, hB⟩ := h
  have adr : ∀ f a, gr (adN y G z) f a = gr G f a := fun _ _ => rfl
  have hza : FZ y (adN y G z) := hz.to hs (sZ.of (fun _ _ => rfl) (fun _ => rfl))
  have ado : ∀ f a, f ≠ 17 → f ≠ 18 → f ≠ 19 → f ≠ 20 → gi (adN y G z) f a = gi G f a := fun f a q1 q2 q3 q4 => by
    unfold adN; rw [gi_ne q3, gi_ne q4, gi_ne q1, gi_ne q2]
  have gd3 : ∀ f a, f ≠ 46 → (f < 56 ∨ f = 57 ∨ 61 < f) → gi (gdN y G z) f a = gi (adN y G z) f a := fun f a q1 q2 => by
    unfold gdN; rw [rsL_o q1 (Or.inl q2), rsL_o q1 (Or.inl q2)]
  have g19 : gi (gdN y G z) 19 (y 3 0) = 0 := by rw [gd3 19 _ (by omega) (by omega)]; unfold adN; rw [gi_at]
  have g20 : gi (gdN y G z) 20 (y 3 0) = if gi G 18 (y 3 0) = nI (lgB z) + 1 then 1 else 0 := by rw [gd3 20 _ (by omega) (by omega)]; unfold adN; rw [gi_ne (by omega), gi_at]
  have g17 : gi (gdN y G z) 17 (y 3 0) = gi G 17 (y 3 0) + gi G 18 (y 3 0) := by rw [gd3 17 _ (by omega) (by omega)]; unfold adN; rw [gi_ne (by omega), gi_ne (by omega), gi_at]
  have g18 : gi (gdN y G z) 18 (y 3 0) = -1 := by rw [gd3 18 _ (by omega) (by omega)]; unfold adN; rw [gi_ne (by omega), gi_ne (by omega), gi_ne (by omega), gi_at]
  have gO : ∀ f a, f ≠ 17 → f ≠ 18 → f ≠ 19 → f ≠ 20 → f ≠ 46 → (f < 56 ∨ f = 57 ∨ 61 < f) → gi (gdN y G z) f a = gi G f a := fun f a q1 q2 q3 q4 q5 q6 => (gd3 f a q5 q6).trans (ado f a q1 q2 q3 q4)
  have gr_ : ∀ f a, gr (gdN y G z) f a = gr G f a := fun f a => (rsL_r.1 f a).trans (rsL_r.1 f a)
  have ga_ : ∀ a, ai (gdN y G z) a = ai G a := fun a => (rsL_r.2.2.1 a).trans (rsL_r.2.2.1 a)
  have gar : ∀ a, ar (gdN y G z) a = ar G a := fun a => (rsL_r.2.2.2.2 a).trans (rsL_r.2.2.2.2 a)
  have gu : ∀ k, k < 12 → gi (gdN y G z) 46 (y 14 k) = 0 := fun k hk => by
    unfold gdN
    by_cases q : k < 6
    · rw [rsL_46 (fun i hi => hs.ne (by omega) (by simp [yV]; omega) (by simp [yV]; omega))]
      have := rsL_u (y := y) (G := adN y G z) (c := 0) q
      rw [show 6 * 0 + k = k by omega] at this; exact this
    · have := rsL_u (y := y) (G := rsL y (adN y G z) 0) (c := 1) (k := k - 6) (by omega)
      rw [show 6 * 1 + (k - 6) = k by omega] at this; exact this
  have gl_ : ∀ c, c < 2 → gi (gdN y G z) 56 (y 10 c) = 0 ∧ gi (gdN y G z) 58 (y 10 c) = 0 ∧ gi (gdN y G z) 59 (y 10 c) = 128 ∧ gi (gdN y G z) 60 (y 10 c) = 0 ∧ gi (gdN y G z) 61 (y 10 c) = 0 := fun c hc => by
    unfold gdN
    rcases (show c = 0 ∨ c = 1 by omega) with rfl | rfl
    · have ne : y 10 0 ≠ y 10 1 := hs.ne (by omega)
      rw [rsL_o (by omega) (Or.inr ne), rsL_o (by omega) (Or.inr ne), rsL_o (by omega) (Or.inr ne), rsL_o (by omega) (Or.inr ne), rsL_o (by omega) (Or.inr ne)]
      exact rsL_c
    · exact rsL_c
  -- the reference
  have cg : ∀ f a, gi (cmN y m z) f a = gi (cm6 y m z) f a := fun _ _ => rfl
  have mO : ∀ f a, f ≠ 73 → f ≠ 75 → f ≠ 76 → f ≠ 77 → gi (cmN y m z) f a = gi m f a := fun f a q1 q2 q3 q4 => by
    rw [cg]
    show gi (si (cm3 y m z) 75 (y 1 0) 1) f a = _
    unfold cm3
    rw [gi_ne q2, gi_ne q1, gi_ne q4, gi_ne q3]
  have m75 : gi (cmN y m z) 75 (y 1 0) = 1 := by rw [cg]; exact gi_at
  have m73 : gi (cmN y m z) 73 (y 1 0) = if gi m 76 (y 1 0) = nI (lgB z) + 1 then 1 else 0 := by
    rw [cg]
    show gi (si (cm3 y m z) 75 (y 1 0) 1) 73 _ = _
    unfold cm3
    rw [gi_ne (by omega), gi_at]
  have m77 : gi (cmN y m z) 77 (y 1 0) = gi m 77 (y 1 0) + gi m 76 (y 1 0) := by
    rw [cg]
    show gi (si (cm3 y m z) 75 (y 1 0) 1) 77 _ = _
    unfold cm3
    rw [gi_ne (by omega), gi_ne (by omega), gi_at]
  have m76 : gi (cmN y m z) 76 (y 1 0) = -1 := by
    rw [cg]
    show gi (si (cm3 y m z) 75 (y 1 0) 1) 76 _ = _
    unfold cm3
    rw [gi_ne (by omega), gi_ne (by omega), gi_ne (by omega), gi_at]
  have nf : ∀ f, f = 80 ∨ f = 82 ∨ f = 83 ∨ f = 84 ∨ f = 85 ∨ f = 86 → y 30 70 ≠ y 30 f := fun f hf => hs.ne (by omega) rfl (by simp [yV]; omega)
  have nf2 : ∀ f, f = 80 ∨ f = 82 ∨ f = 83 ∨ f = 84 ∨ f = 85 ∨ f = 86 → y 30 72 ≠ y 30 f := fun f hf => hs.ne (by omega) rfl (by simp [yV]; omega)
  have t70 : ∀ k, k < 1743 → ai (cmN y m z) (y 30 70) k = T k := fun k hk => by
    unfold cmN
    rw [frM_o hs nf, frM_o hs nf]
    show ai (aw _ (y 30 70) _) (y 30 70) k = _
    rw [aw_at]; show (if k < 1743 then _ else _) = _; rw [if_pos hk]; exact hB k hk
  have t72 : ∀ k, k < 1743 → ai (cmN y m z) (y 30 72) k = P k := fun k hk => by
    unfold cmN
    rw [frM_o hs nf2, frM_o hs nf2]
    show ai (aw (aw (cm3 y m z) (y 30 72) _) (y 30 70) _) (y 30 72) k = _
    rw [aw_ne (hs.ne (by omega)), aw_at]; show (if k < 1743 then _ else _) = _; rw [if_pos hk]; exact hP k hk
  have mu : ∀ k, k < 12 → ai (cmN y m z) (y 30 86) k = 0 := fun k hk => by
    unfold cmN
    rw [frM_86, frM_86]
    unfold fzU
    by_cases q : 6 * 1 ≤ k ∧ k < 6 * 1 + 6
    · rw [if_pos q]
    · rw [if_neg q, if_pos (by omega)]
  have ml : ∀ c, c < 2 → ai (cmN y m z) (y 30 80) c = 0 ∧ ai (cmN y m z) (y 30 82) c = 0 ∧ ai (cmN y m z) (y 30 83) c = 128 ∧ ai (cmN y m z) (y 30 84) c = 0 ∧ ai (cmN y m z) (y 30 85) c = 0 := fun c hc => by
    unfold cmN
    obtain ⟨a1, a2, a3, a4, a5⟩ := @frM_c t y (frM y (cm6 y m z) 0) hs 1 c
    obtain ⟨b1, b2, b3, b4, b5⟩ := @frM_c t y (cm6 y m z) hs 0 c
    rw [a1, a2, a3, a4, a5, b1, b2, b3, b4, b5]
    rcases (show c = 0 ∨ c = 1 by omega) with rfl | rfl
    · simp
    · simp
  refine ⟨⟨hs, hz.to hs (sZ.of gr_ gar), hm.to hs (sZ.of (fun _ _ => rfl) (fun _ => rfl)), ⟨?_, ?_, ?_, ?_, ?_, Or.inr ⟨g19, m75⟩⟩, fun c hc => ?_, fun k hk => ?_, n, r, s, np, ?_, fun k hk => ?_, ?_, hnp, fun _ _ => ?_⟩, fun K k => ?_, fun K k => ?_⟩
  · rw [g17, m77, s1, s2]
  · rw [g18, m76]
  · rw [gO 69 _ (by omega) (by omega) (by omega) (by omega) (by omega) (by omega), mO 78 _ (by omega) (by omega) (by omega) (by omega)]; exact s3
  · rw [g20, m73, s2]
  · rw [g20]; split
    · exact Or.inr rfl
    · exact Or.inl rfl
  · obtain ⟨a1, a2, a3, a4, a5⟩ := gl_ c hc
    obtain ⟨b1, b2, b3, b4, b5⟩ := ml c hc
    exact ⟨0, 0, 128, fun _ => 0, fun _ => 0, by omega, by omega, by omega, by omega, a1, b1, fun k hk => by omega, fun k hk => by omega, a2, b2, fun k hk => by omega, fun k hk => by omega, a3, b3, Or.inl a4, by rw [b4, a4], Or.inl a5, by rw [b5, a5], fun z => ⟨rfl, rfl⟩, fun _ => ⟨rfl, rfl, a5⟩⟩
  · exact ⟨Or.inl (gu k hk), by rw [mu k hk, gu k hk], fun _ => gu k hk⟩
  · exact (hT.to ⟨fun f a hf => ⟨gO f a (by omega) (by omega) (by omega) (by omega) (by omega) (by omega), gr_ f a⟩, fun i _ => ⟨ga_ _, ga_ _⟩, gar⟩).cells t70
  · intro q; rw [gu k hk] at q; exact absurd q (by decide)
  · rw [mO 74 _ (by omega) (by omega) (by omega) (by omega)]; exact h74
  · refine ⟨nq, (hS.to ⟨⟨fun f a hf => ⟨gO f a (by omega) (by omega) (by omega) (by omega) (by omega) (by omega), gr_ f a⟩, fun i _ => ⟨ga_ _, ga_ _⟩, gar⟩, fun f a q1 q2 => ⟨gO f a (by omega) (by omega) (by omega) (by omega) (by omega) (by omega), gr_ f a⟩, ga_ _, ga_ _⟩).cells t72⟩
  · refine ⟨hs.k 0 0, y 3 0, hz.1.2.1, hs.k 3 0, S_admits hs hzz (fun q => ?_) (fun _ _ => iT rfl (S_goDown hs hza k))⟩
    rcases q with q | q
    · exact absurd q h1
    · exact absurd h2 q
  · exact M_commitN hs hm hzz (by rw [← s2]; exact h1) (by rw [← s2]; exact h2) k
/-- the change is admitted: the class runs it -/
theorem carryY (h : PreC t y b G m T P n r s np nq) {z : Nat} (hzz : z < 2 ^ 30) (h1 : gi G 18 (y 3 0) < 0 ∨ ¬ gi G 18 (y 3 0) < nI (lgB z) + 2) : ∃ G2, Rn t y (adY y G z) G2 P n r np nq ∧ (∀ K : GS → Prop, K G2 → w_S_carryOut t G (y 0 0) (nI z) K) ∧ (∀ K : GS → Int32 → Prop, K (cmY y m z) 1 → w_M_commit t m (y 1 0) (nI z) K) := by
  obtain ⟨hs, hz, hm, ⟨s1, s2, s3, s4, s5, -⟩, s6, hl, hu, hT, hF, h74, hnp, hS, hP, hB⟩ := h
  have hza : FZ y (adY y G z) := hz.to hs (sZ.of (fun _ _ => rfl) (fun _ => rfl))
  have ado : ∀ f a, f ≠ 17 → f ≠ 18 → gi (adY y G z) f a = gi G f a := fun f a q1 q2 => by unfold adY; rw [gi_ne q1, gi_ne q2]
  obtain ⟨G2, hR, run⟩ := hS (adY y G z) ⟨⟨fun f a hf => ⟨ado f a (by omega) (by omega), rfl⟩, fun i _ => ⟨rfl, rfl⟩, fun _ => rfl⟩, fun f a q1 q2 => ⟨ado f a (by omega) (by omega), rfl⟩, rfl, rfl⟩ hza
  refine ⟨G2, hR, fun K k => ⟨hs.k 0 0, y 3 0, hz.1.2.1, hs.k 3 0, S_admits hs hzz (fun q => iF (by decide) ⟨y 4 0, hza.1.2.2.1, hs.k 4 0, y 2 0, hza.1.1, run _ k⟩) (fun q1 q2 => ?_)⟩, fun K k => M_commitY hs hzz (by rw [← s2]; exact h1) k⟩
  rcases h1 with h | h
  · exact absurd h q1
  · exact absurd q2 h
end CARRY
