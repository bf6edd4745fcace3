/-! a fid is released (by hand) -/
section REL
variable {t : TY} {y : LYT} {G m : GS} {b : Nat}
/-- the same, with the tree's numbers named -/
def InvZ (t : TY) (y : LYT) (b : Nat) (G m : GS) (n : Nat) (r s : Nat → Nat) (np : Nat) : Prop := SH t y ∧ FZ y G ∧ FZ y m ∧ ScR y G m ∧ (∀ c, c < 2 → LkR y G m c) ∧ (∀ k, k < 12 → FuR y G m k) ∧ TrR t y G (ai m (y 30 70)) n r s np ∧ (∀ k, k < 12 → FdR t y G m n r np k) ∧ gi m 74 (y 1 0) = nI (np - 1) ∧ np ≤ b ∧ (gi G 19 (y 3 0) = 0 → gi G 20 (y 3 0) = 1 → ∃ nq, Stg t y G (ai m (y 30 72)) n r np nq)
theorem InvZ.of {n : Nat} {r s : Nat → Nat} {np : Nat} (h : InvZ t y b G m n r s np) : InvY t y b G m := by
  obtain ⟨a1, a2, a3, a4, a5, a6, a7⟩ := h
  exact ⟨a1, a2, a3, a4, a5, a6, n, r, s, np, a7⟩
theorem InvY.z (h : InvY t y b G m) : ∃ (n : Nat) (r s : Nat → Nat) (np : Nat), InvZ t y b G m n r s np := by
  obtain ⟨a1, a2, a3, a4, a5, a6, n, r, s, np, a7⟩ := h
  exact ⟨n, r, s, np, a1, a2, a3, a4, a5, a6, a7⟩
theorem InvZ.unuse {n : Nat} {r s : Nat → Nat} {np : Nat} (h : InvZ t y b G m n r s np) {k : Nat} (hk : k < 12) : InvZ t y b (si G 46 (y 14 k) 0) (ais m (y 30 86) k 0) n r s np := by
  obtain ⟨hs, hz, hm, ⟨s1, s2, s3, s4, s5, s6⟩, hl, hu, hT, hF, h74, hnp, hS⟩ := h
  have g : ∀ {f a : Nat}, f ≠ 46 → gi (si G 46 (y 14 k) 0) f a = gi G f a := fun q => gi_ne q
  have mA : ∀ {f : Nat}, yV 30 f = true → f ≠ 86 → ai (ais m (y 30 86) k 0) (y 30 f) = ai m (y 30 f) := fun hv q => ai_nb (hs.ne (by omega) hv rfl)
  have agT' : agT y G (si G 46 (y 14 k) 0) := ⟨fun f a hf => ⟨g (by omega), rfl⟩, fun i _ => ⟨rfl, rfl⟩, fun _ => rfl⟩
  refine ⟨hs, hz.to hs (sZ.of (fun _ _ => rfl) (fun _ => rfl)), hm.to hs (sZ.of (fun _ _ => rfl) (fun _ => rfl)), ⟨?_, ?_, ?_, ?_, ?_, ?_⟩, fun c hc => ?_, fun k' hk' => ?_, ?_, fun k' hk' => ?_, h74, hnp, ?_⟩
  · rw [g (by omega)]; exact s1
  · rw [g (by omega)]; exact s2
  · rw [g (by omega)]; exact s3
  · rw [g (by omega)]; exact s4
  · rw [g (by omega)]; exact s5
  · rw [g (by omega), g (by omega)]; exact s6
  · refine (hl c hc).to ⟨fun f h1 h2 => g (by omega), rfl, rfl⟩ ⟨fun q _ => by rw [mA rfl (by omega)], fun q _ => by rw [mA rfl (by omega)], fun f hf => ?_⟩ (fun z => by rw [g (by omega)] at z; exact z)
    rcases hf with rfl | rfl | rfl | rfl | rfl <;> rw [mA rfl (by omega)]
  · by_cases q : k' = k
    · subst q
      exact ⟨Or.inl gi_at, by rw [ai_at, gi_at], fun _ => gi_at⟩
    · have ne : y 14 k' ≠ y 14 k := hs.ne (by omega) (by simp [yV, hk']) (by simp [yV, hk])
      refine (hu k' hk').to (fun f h1 h2 => ⟨gi_na ne, rfl, rfl⟩) (fun f h1 h2 => ⟨?_, rfl⟩) (fun z => by rw [g (by omega)] at z; exact z)
      by_cases qf : f = 86
      · subst qf; exact ai_nj q
      · rw [mA (by simp [yV]; omega) qf]
  · rw [mA rfl (by omega)]; exact hT.to agT'
  · by_cases q : k' = k
    · subst q; intro z; rw [gi_at] at z; exact absurd z (by decide)
    · have ne : y 14 k' ≠ y 14 k := hs.ne (by omega) (by simp [yV, hk']) (by simp [yV, hk])
      refine (hF k' hk').to (fun f h1 h2 => ⟨gi_na ne, rfl, rfl⟩) (fun f h1 h2 => ⟨?_, rfl⟩) (fun j => ⟨g (by omega), g (by omega)⟩)
      by_cases qf : f = 86
      · subst qf; exact ai_nj q
      · rw [mA (by simp [yV]; omega) qf]
  · rw [g (by omega), g (by omega), mA rfl (by omega)]
    exact fun z1 z2 => (hS z1 z2).imp (fun _ h => h.to ⟨agT', fun f a h1 h2 => ⟨g (by omega), rfl⟩, rfl, rfl⟩)
/-- what begin makes of the change -/
def bgC (y : LYT) (G : GS) (kd : Nat) (a : Nat) (ou : Option Nat) (tm : Int32) : GS := si (sr (si (si (si (si (sr (sr (sr G 21 (y 4 0) (some kd)) 22 (y 4 0) (some a)) 23 (y 4 0) ou) 24 (y 4 0) tm) 25 (y 4 0) (-1)) 26 (y 4 0) 0) 28 (y 4 0) 0) 30 (y 4 0) none) 32 (y 4 0) 0
theorem S_begin (hs : SH t y) {kd a : Nat} {ou : Option Nat} {tm : Int32} {K : GS → Prop} (k : K (bgC y G kd a ou tm)) : w_Change_begin t G (y 4 0) (some kd) a ou tm K := by
  refine ⟨hs.k 4 0, ?_⟩
  intro G1 e1 G2 e2 G3 e3 G4 e4 G5 e5 G6 e6 G7 e7 G8 e8 G9 e9
  subst e1 e2 e3 e4 e5 e6 e7 e8 e9
  exact k
theorem eS.bg {G0 : GS} (e : eS y G0 G) {kd a : Nat} {ou : Option Nat} {tm : Int32} : eS y G0 (bgC y G kd a ou tm) := ((((((((e.sr (f := 21)).sr (f := 22)).sr (f := 23)).si (f := 24)).si (f := 25)).si (f := 26)).si (f := 28)).sr (f := 30)).si (f := 32)
theorem kC.bg {G0 : GS} (e : kC y G0 G) {kd a : Nat} {ou : Option Nat} {tm : Int32} : kC y G0 (bgC y G kd a ou tm) := ((((((e.sr (f := 21)).sr (f := 22)).sr (f := 23)).si (f := 24) (by omega) (by omega) (by omega)).si (f := 25) (by omega) (by omega) (by omega)).si (f := 26) (by omega) (by omega) (by omega)).si (f := 28) (by omega) (by omega) (by omega) |>.sr (f := 30) |>.si (f := 32) (by omega) (by omega) (by omega)
theorem bgC_i {f b kd a : Nat} {ou : Option Nat} {tm : Int32} (h : f < 24 ∨ 32 < f) : gi (bgC y G kd a ou tm) f b = gi G f b := by
  unfold bgC
  show gi (si (si (si (si (si G 24 (y 4 0) tm) 25 (y 4 0) (-1)) 26 (y 4 0) 0) 28 (y 4 0) 0) 32 (y 4 0) 0) f b = _
  rw [gi_ne (by omega), gi_ne (by omega), gi_ne (by omega), gi_ne (by omega), gi_ne (by omega)]
theorem bgC_24 {kd a : Nat} {ou : Option Nat} {tm : Int32} : gi (bgC y G kd a ou tm) 24 (y 4 0) = tm := by
  unfold bgC
  show gi (si (si (si (si (si G 24 (y 4 0) tm) 25 (y 4 0) (-1)) 26 (y 4 0) 0) 28 (y 4 0) 0) 32 (y 4 0) 0) 24 (y 4 0) = _
  rw [gi_ne (by omega), gi_ne (by omega), gi_ne (by omega), gi_ne (by omega), gi_at]
theorem bgC_r {f b kd a : Nat} {ou : Option Nat} {tm : Int32} (h : f < 21 ∨ 30 < f) : gr (bgC y G kd a ou tm) f b = gr G f b := by
  unfold bgC
  show gr (sr (sr (sr (sr G 21 (y 4 0) (some kd)) 22 (y 4 0) (some a)) 23 (y 4 0) ou) 30 (y 4 0) none) f b = _
  rw [gr_ne (by omega), gr_ne (by omega), gr_ne (by omega), gr_ne (by omega)]
theorem bgC_v {kd a : Nat} {ou : Option Nat} {tm : Int32} : gr (bgC y G kd a ou tm) 21 (y 4 0) = some kd ∧ gr (bgC y G kd a ou tm) 22 (y 4 0) = some a ∧ gr (bgC y G kd a ou tm) 23 (y 4 0) = ou := by
  unfold bgC
  refine ⟨?_, ?_, ?_⟩
  · show gr (sr (sr (sr (sr G 21 (y 4 0) (some kd)) 22 (y 4 0) (some a)) 23 (y 4 0) ou) 30 (y 4 0) none) 21 (y 4 0) = _
    rw [gr_ne (by omega), gr_ne (by omega), gr_ne (by omega), gr_at]
  · show gr (sr (sr (sr (sr G 21 (y 4 0) (some kd)) 22 (y 4 0) (some a)) 23 (y 4 0) ou) 30 (y 4 0) none) 22 (y 4 0) = _
    rw [gr_ne (by omega), gr_ne (by omega), gr_at]
  · show gr (sr (sr (sr (sr G 21 (y 4 0) (some kd)) 22 (y 4 0) (some a)) 23 (y 4 0) ou) 30 (y 4 0) none) 23 (y 4 0) = _
    rw [gr_ne (by omega), gr_at]
/-- what the reference's changes make of the state -/
def chM (y : LYT) (m : GS) (n u : Nat) : GS := ais (ais (ais m (y 30 70) (83 * n + 2) (ai m (y 30 70) (83 * n + 2) + 1)) (y 30 70) (83 * n + 4) (gi m 78 (y 1 0))) (y 30 70) (83 * n + 7) (nI u)
theorem M_changes (hs : SH t y) (hz : FZ y m) {n u : Nat} (hn : n < 21) {K : GS → Prop} (k : K (chM y m n u)) : w_M_changes t m (y 1 0) (nI n) (nI u) K := by
  have z : ∀ {m' : GS}, (∀ f a, gr m' f a = gr m f a) → (∀ b, ar m' b = ar m b) → FZ y m' := fun h1 h2 => hz.to hs (sZ.of h1 h2)
  refine ⟨hs.k 1 0, M_at (c := 2) hs hz hn (by omega) (M_set (c := 2) hs hz hn (by omega) ?_)⟩
  refine M_set (c := 4) hs ?_ hn (by omega) ?_
  · exact z (fun _ _ => rfl) (fun _ => rfl)
  · refine M_set (c := 7) hs ?_ hn (by omega) ?_
    · exact z (fun _ _ => rfl) (fun _ => rfl)
    · exact k
theorem ais_cS {m : GS} {n c : Nat} {x : Int32} : ai (ais m (y 30 70) (83 * n + c) x) (y 30 70) = cS (ai m (y 30 70)) n c x := funext fun k => by
  unfold cS
  by_cases q : k = 83 * n + c
  · rw [if_pos q, q, ai_at]
  · rw [if_neg q, ai_nj q]
theorem chM_70 {n u : Nat} : ai (chM y m n u) (y 30 70) = cG (ai m (y 30 70)) n (gi m 78 (y 1 0)) u := by
  unfold chM cG
  rw [ais_cS, ais_cS, ais_cS]
theorem kM.ch {m0 : GS} (a : kM y m0 m) (hs : SH t y) {n u : Nat} : kM y m0 (chM y m n u) := ((a.ais hs (f := 70) (by omega) (by omega) rfl).ais hs (f := 70) (by omega) (by omega) rfl).ais hs (f := 70) (by omega) (by omega) rfl
theorem chM_o {n u : Nat} {a : Nat} (h : a ≠ y 30 70) : ai (chM y m n u) a = ai m a := by
  unfold chM
  rw [ai_nb h, ai_nb h, ai_nb h]
/-- an admitted change that makes no node: what holds behind it -/
theorem carryI {T P : Nat → Int32} {n np z : Nat} {r s : Nat → Nat} (h : PreC t y b G m T P n r s np np) {G2 : GS} (hR : Rn t y (adY y G z) G2 P n r np np) : InvY t y b G2 (cmY y m z) := by
  obtain ⟨hs, hz, hm, ⟨s1, s2, s3, s4, s5, s6⟩, hrun, hl, hu, hT, hF, h74, hnp, hS, hP, hB⟩ := h
  obtain ⟨hf, n', r', s', hT', -, hc⟩ := hR
  have ado : ∀ f a, f ≠ 17 → f ≠ 18 → gi (adY y G z) f a = gi G f a := fun f a q1 q2 => by unfold adY; rw [gi_ne q1, gi_ne q2]
  have a17 : gi (adY y G z) 17 (y 3 0) = gi G 17 (y 3 0) + (nI (lgB z) + 2) := gi_at
  have a18 : gi (adY y G z) 18 (y 3 0) = -1 := by unfold adY; rw [gi_ne (by omega), gi_at]
  have g2 : ∀ f a, 16 < f → f ≠ 17 → f ≠ 18 → gi G2 f a = gi G f a := fun f a q0 q1 q2 => (hf.1 f a q0).1.trans (ado f a q1 q2)
  have mo : ∀ f a, f ≠ 76 → f ≠ 77 → gi (cmY y m z) f a = gi m f a := fun f a q1 q2 => by unfold cmY; rw [gi_ne q2, gi_ne q1]
  have m77 : gi (cmY y m z) 77 (y 1 0) = gi m 77 (y 1 0) + (nI (lgB z) + 2) := gi_at
  have m76 : gi (cmY y m z) 76 (y 1 0) = -1 := by unfold cmY; rw [gi_ne (by omega), gi_at]
  have down : gi m 75 (y 1 0) = 0 ∧ gi G 20 (y 3 0) = 0 := by
    rcases s6 with ⟨-, q2, q3⟩ | ⟨q, -⟩
    · exact ⟨q2, q3⟩
    · rw [hrun] at q; exact absurd q (by decide)
  have hza : FZ y (adY y G z) := hz.to hs (sZ.of (fun _ _ => rfl) (fun _ => rfl))
  have hz2 : FZ y G2 := hza.to hs ⟨fun a => ⟨(hf.1 63 a (by omega)).2, (hf.1 64 a (by omega)).2, (hf.1 65 a (by omega)).2, (hf.1 66 a (by omega)).2, (hf.1 67 a (by omega)).2, (hf.1 68 a (by omega)).2, (hf.2.2.2.2.1 a).2.2.1, (hf.2.2.2.2.1 a).2.2.2, (hf.1 31 a (by omega)).2, (hf.1 33 a (by omega)).2, (hf.1 36 a (by omega)).2, (hf.1 40 a (by omega)).2, (hf.1 41 a (by omega)).2, (hf.1 44 a (by omega)).2, (hf.2.2.2.2.1 a).1, (hf.2.2.2.2.1 a).2.1, (hf.1 55 a (by omega)).2, (hf.1 57 a (by omega)).2, (hf.1 62 a (by omega)).2⟩, fun f a hv => (hf.1 f a (by simp [yV] at hv; omega)).2, hf.2.2.2.2.2⟩
  have x19 : gi G2 19 (y 3 0) = 1 := (g2 19 _ (by omega) (by omega) (by omega)).trans hrun
  refine ⟨hs, hz2, hm.to hs (sZ.of (fun _ _ => rfl) (fun _ => rfl)), ⟨?_, ?_, ?_, ?_, ?_, Or.inl ⟨x19, ?_, ?_⟩⟩, fun c hc' => ?_, fun k hk => ?_, n', r', s', np, ?_, fun k hk => ?_, ?_, hnp, fun q => ?_⟩
  · rw [(hf.1 17 _ (by omega)).1, a17, m77, s1]
  · rw [(hf.1 18 _ (by omega)).1, a18, m76]
  · rw [g2 69 _ (by omega) (by omega) (by omega), mo 78 _ (by omega) (by omega)]; exact s3
  · rw [g2 20 _ (by omega) (by omega) (by omega), mo 73 _ (by omega) (by omega)]; exact s4
  · rw [g2 20 _ (by omega) (by omega) (by omega)]; exact s5
  · rw [mo 75 _ (by omega) (by omega)]; exact down.1
  · rw [g2 20 _ (by omega) (by omega) (by omega)]; exact down.2
  · have aw1 : ∀ q, q = 11 ∨ q = 12 → ai G2 (y q c) = ai G (y q c) := fun q hq => (hf.2.2.2.1 _ (fun i hi => by
      rcases hq with rfl | rfl
      · exact ⟨hs.ne (by omega) (by simp [yV, hc']) (by simp [yV, hi]), hs.ne (by omega) (by simp [yV, hc']) (by simp [yV, hi])⟩
      · exact ⟨hs.ne (by omega) (by simp [yV, hc']) (by simp [yV, hi]), hs.ne (by omega) (by simp [yV, hc']) (by simp [yV, hi])⟩))
    exact (hl c hc').to ⟨fun f h1 h2 => g2 f _ (by omega) (by omega) (by omega), aw1 11 (Or.inl rfl), aw1 12 (Or.inr rfl)⟩ ⟨fun _ _ => rfl, fun _ _ => rfl, fun _ _ => rfl⟩ (fun q => by rw [x19] at q; exact absurd q (by decide))
  · exact (hu k hk).to (fun f h1 h2 => ⟨g2 f _ (by omega) (by omega) (by omega), (hf.2.1 f _), (hf.1 f _ (by omega)).2⟩) (fun f h1 h2 => ⟨rfl, rfl⟩) (fun q => by rw [x19] at q; exact absurd q (by decide))
  · exact hT'.cells hP
  · have h1 : FdR t y (adY y G z) (cmY y m z) n r np k := (hF k hk).to (fun f h1 h2 => ⟨ado f _ (by omega) (by omega), rfl, rfl⟩) (fun f h1 h2 => ⟨rfl, rfl⟩) (fun j => ⟨ado 0 _ (by omega) (by omega), ado 2 _ (by omega) (by omega)⟩)
    exact h1.rn hf (Nat.le_refl _) (fun j hj => hT'.le hj) hc
  · rw [mo 74 _ (by omega) (by omega)]; exact h74
  · rw [x19] at q; exact absurd q (by decide)
theorem TrR.nokids {T : Nat → Int32} {n np : Nat} {r s : Nat → Nat} (h : TrR t y G T n r s np) (hs : SH t y) {j : Nat} (hj : lvN n r j) (hd : ¬ gi G 2 (y 5 j) < 0) : cnt (fun i => decide (gr G 7 (y 5 (r i)) = some (y 5 j))) n = 0 := by
  rw [cnt_sm]
  refine sm_zero (fun i hi => if_neg ?_)
  simp only [decide_eq_true_eq]
  intro e
  obtain ⟨j', x1, x2, -, x4⟩ := h.2.2.2.2.2.2.2.2.2.2.2.2.2.1 i hi
  have : j' = j := y5 hs (by have := h.le x1; omega) (by have := h.le hj; omega) (Option.some.inj (x2.symm.trans e))
  rw [this] at x4
  exact hd x4
/-- one fid is released -/
theorem rel1 (h : InvY t y b G m) (hb : b < 2 ^ 31) (hrun : gi G 19 (y 3 0) = 1) {k : Nat} (hk : k < 12) (hus : gi G 46 (y 14 k) = 1) : ∃ G' m', InvY t y b G' m' ∧ eS y G G' ∧ (gi G' 19 (y 3 0) = 1 → kC y G G' ∧ kM y m m') ∧ (∀ K : GS → Prop, K G' → w_S_stageRelease t G (y 0 0) (y 14 k) (fun G1 v => if v = 0 then K G1 else w_S_carryOut t G1 (y 0 0) (16 : Int32) K)) ∧ (∀ K : GS → Prop, K m' → w_M_release t m (y 1 0) (nI k) K) := by
  obtain ⟨n, r, s, np, h⟩ := h.z
  have hI := h.unuse hk
  obtain ⟨hs, hz, hm, hsc, -, -, hT0, hF0, h74, hnp, -⟩ := h
  have hvk : yV 14 k = true := by simp [yV, hk]
  obtain ⟨v, p, j, u, a1, a2, a3, a4, a5, a6, a7, a8, a9, a10, a11, a12, a13, -, -, a16, a17, -, -, -⟩ := hF0 k hk hus
  obtain ⟨G1, eG1⟩ : ∃ z, z = si G 46 (y 14 k) 0 := ⟨_, rfl⟩
  obtain ⟨m2, em2⟩ : ∃ z, z = ais m (y 30 86) k 0 := ⟨_, rfl⟩
  rw [← eG1, ← em2] at hI
  have hvj : yV 5 j = true := by simp [yV]; omega
  have cl : (nI k).toNatClampNeg = k := nI_clamp (by omega)
  have g1 : ∀ f a, f ≠ 46 → gi G1 f a = gi G f a := fun f a q => by rw [eG1]; exact gi_ne q
  have r1 : ∀ f a, gr G1 f a = gr G f a := fun f a => by rw [eG1]; rfl
  have mA : ∀ f, yV 30 f = true → f ≠ 86 → ai m2 (y 30 f) = ai m (y 30 f) := fun f hv q => by rw [em2]; exact ai_nb (hs.ne (by omega) hv rfl)
  have mg : ∀ f a, gi m2 f a = gi m f a := fun f a => by rw [em2]; rfl
  obtain ⟨-, hz1, hm2, hsc1, hl1, hu1, hT, hF, h74', -, -⟩ := id hI
  have hnp31 : np < 2 ^ 31 := by omega
  have p31 : p < 2 ^ 31 := by omega
  -- the reference up to where it looks for the node
  have mpre : ∀ (K : GS → Prop) (v4 : Int32), (∀ K' : Int32 → Prop, K' v4 → w_M_find t m2 (y 1 0) (nI p) K') → (if gi G 52 (y 14 k) = 0 then K m2 else (if v4 < 1 then K m2 else w_M_isDirectory t m2 (y 1 0) v4 (fun v6 => if v6 = 0 then w_M_release_48 t (y 1 0) K (nI k) v4 m2 else w_M_entries t m2 (y 1 0) v4 (fun v7 => if 0 < v7 then K m2 else w_M_release_48 t (y 1 0) K (nI k) v4 m2)))) → w_M_release t m (y 1 0) (nI k) K := fun K v4 hf hB => by
    refine ⟨hs.k 1 0, y 30 86, hm.m 86, hs.k 30 86, by rw [hs.n 30 86]; exact vp_lt (N := 12) hk, ?_⟩
    intro A eA
    rw [cl, nb0, ← em2] at eA
    subst eA
    refine ⟨y 30 88, hm2.m 88, hs.k 30 88, by rw [hs.n 30 88]; exact vp_lt (N := 12) hk, ?_⟩
    rw [cl, mA 88 rfl (by omega), a7]
    refine hf _ ⟨y 30 91, hm2.m 91, hs.k 30 91, by rw [hs.n 30 91]; exact vp_lt (N := 12) hk, ?_⟩
    rw [mA 91 rfl (by omega), a17]
    exact hB
  -- the class up to where it looks at removes
  have cpre : ∀ C : GS → Int32 → Prop, (if gi G 52 (y 14 k) = 0 then C G1 0 else (if gi G 0 (y 5 j) = nI p then (if gr G 7 (y 5 j) = none then C G1 0 else (if 0 < gi G 8 (y 5 j) then C G1 0 else (∃ a4, gr G 7 (y 5 j) = some a4 ∧ tk t a4 = 1 ∧ w_Node_lets t G1 a4 (some (tad t u)) (2 : Int32) (fun v5 => (if ¬ v5 = 0 then (w_Change_begin t G1 (y 4 0) (some (tad t 5)) (y 5 j) (some (tad t u)) (gi G 69 (y 0 0)) (fun G7 => C G7 (1 : Int32))) else (C G1 (0 : Int32))))))) else C G1 0)) → w_S_stageRelease t G (y 0 0) (y 14 k) C := fun C hC => by
    refine ⟨hs.k 14 k hvk, ?_⟩
    intro A eA
    rw [← eG1] at eA
    rw [eA]
    rw [g1 52 _ (by omega)]
    refine ite_lift hC (fun h => h) (fun h => ?_)
    refine ⟨hs.k 14 k hvk, y 5 j, by rw [r1]; exact a4, hs.k 5 j hvj, ?_⟩
    rw [g1 0 _ (by omega), g1 49 _ (by omega), a6]
    refine ite_lift h (fun h => ?_) (fun h => ?_)
    · refine iF (by simp) ⟨y 5 j, by rw [r1]; exact a4, hs.k 5 j hvj, ?_⟩
      rw [r1]
      refine ite_lift h (fun h => h) (fun h => ?_)
      rw [g1 8 _ (by omega)]
      refine ite_lift h (fun h => h) (fun h => ?_)
      obtain ⟨a4', b1, b2, b3⟩ := h
      refine ⟨a4', b1, b2, ?_⟩
      rw [r1, a12]
      -- the same but for the ways to the change
      rw [g1 69 _ (by omega)]
      have : (fun v5 : Int32 => (if ¬ v5 = 0 then (w_Change_begin t G1 (y 4 0) (some (tad t 5)) (y 5 j) (some (tad t u)) (gi G 69 (y 0 0)) (fun G7 => C G7 (1 : Int32))) else (C G1 (0 : Int32)))) = (fun v5 => (if ¬ v5 = 0 then (tk t (y 0 0) = 9 ∧ ∃ a6, gr G1 65 (y 0 0) = some a6 ∧ tk t a6 = 4 ∧ w_Change_begin t G1 a6 (some (tad t 5)) (y 5 j) (some (tad t u)) (gi G 69 (y 0 0)) (fun G7 => C G7 (1 : Int32))) else (C G1 (0 : Int32)))) := by
        funext v5
        have e1 : (tk t (y 0 0) = 9 ∧ ∃ a6, gr G1 65 (y 0 0) = some a6 ∧ tk t a6 = 4 ∧ w_Change_begin t G1 a6 (some (tad t 5)) (y 5 j) (some (tad t u)) (gi G 69 (y 0 0)) (fun G7 => C G7 (1 : Int32))) = w_Change_begin t G1 (y 4 0) (some (tad t 5)) (y 5 j) (some (tad t u)) (gi G 69 (y 0 0)) (fun G7 => C G7 (1 : Int32)) := propext ⟨fun ⟨_, a6, x1, _, x3⟩ => by
          have : a6 = y 4 0 := Option.some.inj (x1.symm.trans hz1.1.2.2.1)
          subst this; exact x3, fun x => ⟨hs.k 0 0, y 4 0, hz1.1.2.2.1, hs.k 4 0, x⟩⟩
        rw [e1]
      rw [this] at b3
      exact b3
    · exact iT (by decide) h
  -- where nothing is to be changed
  have quit : (∀ C : GS → Int32 → Prop, C G1 0 → w_S_stageRelease t G (y 0 0) (y 14 k) C) → (∀ K : GS → Prop, K m2 → w_M_release t m (y 1 0) (nI k) K) → ∃ G' m', InvY t y b G' m' ∧ eS y G G' ∧ (gi G' 19 (y 3 0) = 1 → kC y G G' ∧ kM y m m') ∧ (∀ K : GS → Prop, K G' → w_S_stageRelease t G (y 0 0) (y 14 k) (fun G1 v => if v = 0 then K G1 else w_S_carryOut t G1 (y 0 0) (16 : Int32) K)) ∧ (∀ K : GS → Prop, K m' → w_M_release t m (y 1 0) (nI k) K) := fun q1 q2 => ⟨G1, m2, hI.of, eG1 ▸ eS.rf.si, fun _ => ⟨eG1 ▸ kC.rf.si (by omega) (by omega) (by omega), em2 ▸ kM.rf.ais hs (f := 86) (by omega) (by omega) rfl⟩, fun K hK => q1 _ (iT rfl hK), q2⟩
  by_cases hgone : gi G 0 (y 5 j) = nI p
  · have hj := a9 hgone
    have x := hT.nd hj
    have fnd : ∀ K' : Int32 → Prop, K' (nI (s j)) → w_M_find t m2 (y 1 0) (nI p) K' := fun K' hK => M_find hs hm2 x.1 x.2.2.1 (by rw [x.2.2.2.1, g1 0 _ (by omega)]; exact hgone) (fun q hq z1 z2 => hT.uniq hnp31 hj hq z1 (by rw [z2, g1 0 _ (by omega)]; exact hgone.symm)) hK
    by_cases hrm : gi G 52 (y 14 k) = 0
    · exact quit (fun C hC => cpre C (iT hrm hC)) (fun K hK => mpre K _ fnd (iT hrm hK))
    by_cases h0 : j = 0
    · subst h0
      have e7 : gr G 7 (y 5 0) = none := hT0.2.2.2.2.2.2.2.2.2.2.2.2.1.1
      have s0 : s 0 = 0 := hT.2.2.2.2.2.2.2.2.2.1
      exact quit (fun C hC => cpre C (iF hrm (iT hgone (iT e7 hC)))) (fun K hK => mpre K _ fnd (iF hrm (iT (by rw [s0]; decide) hK)))
    have s1 := x.2.1 h0
    have nlt : ¬ nI (s j) < 1 := nI_nlt (b := 1) s1 (by omega)
    obtain ⟨d, hd, e7, e8, hdd⟩ := hT0.home hj h0
    have e71 : gr G1 7 (y 5 j) = some (y 5 d) := (r1 7 _).trans e7
    have hd20 := hT0.le hd
    have h16 := hT0.2.2.2.2.2.2.2.2.2.2.2.2.2.2.1 j hj
    have hce : cnt (fun i => decide (gr G1 7 (y 5 (r i)) = some (y 5 j))) n = cnt (fun i => decide (gr G 7 (y 5 (r i)) = some (y 5 j))) n := by simp only [r1]
    have hcl : cnt (fun i => decide (gr G 7 (y 5 (r i)) = some (y 5 j))) n ≤ 20 := Nat.le_trans cnt_le hT0.1
    have ment : ∀ K' : Int32 → Prop, K' (nI (cnt (fun i => decide (gr G 7 (y 5 (r i)) = some (y 5 j))) n)) → w_M_entries t m2 (y 1 0) (nI (s j)) K' := fun K' hK => M_entries hs hm2 x.1 (by rw [hT.ents hnp31 hj hs, hce]; exact hK)
    by_cases hent : 0 < gi G 8 (y 5 j)
    · refine quit (fun C hC => cpre C (iF hrm (iT hgone (iF (by rw [e7]; simp) (iT hent hC))))) (fun K hK => mpre K _ fnd (iF hrm (iF nlt (M_isDir hs hm2 x.1 ?_))))
      have hdir : gi G 2 (y 5 j) < 0 := Classical.byContradiction fun q => by
        rw [h16, hT0.nokids hs hj q] at hent
        exact absurd hent (by decide)
      rw [x.2.2.2.2.2.1, g1 2 _ (by omega), if_pos hdir]
      exact iF (by decide) (ment _ (iT (by rw [← h16]; exact hent) hK))
    have hc0 : cnt (fun i => decide (gr G 7 (y 5 (r i)) = some (y 5 j))) n = 0 := by
      rw [h16] at hent
      exact Classical.byContradiction fun q => hent (nI_lt (a := 0) (by omega) (by omega))
    -- behind the entries
    have mrel : ∀ K : GS → Prop, w_M_release_48 t (y 1 0) K (nI k) (nI (s j)) m2 → w_M_release t m (y 1 0) (nI k) K := fun K hK => mpre K _ fnd (iF hrm (iF nlt (M_isDir hs hm2 x.1 (by
      by_cases q : ai m2 (y 30 70) (83 * s j + 3) < 0
      · rw [if_pos q]; exact iF (by decide) (ment _ (iF (by rw [hc0]; decide) hK))
      · rw [if_neg q]; exact iT rfl hK))))
    obtain ⟨gg, oo, hgg, hoo, egg, eoo, -, -, -⟩ := (hT.nd hd).2.2.may
    have e89 : ai m2 (y 30 89) k = nI u := by rw [mA 89 rfl (by omega)]; exact a13
    by_cases hok : mOk (gi G1 2 (y 5 d)) 2 u gg oo
    · obtain ⟨G7, eG7⟩ : ∃ z, z = bgC y G1 (tad t 5) (y 5 j) (some (tad t u)) (gi G 69 (y 0 0)) := ⟨_, rfl⟩
      obtain ⟨m3, em3⟩ : ∃ z, z = aw m2 (y 30 71) (mix (ai m2 (y 30 70)) (ai m2 (y 30 71)) 1743) := ⟨_, rfl⟩
      obtain ⟨m5, em5⟩ : ∃ z, z = chM y (ais m3 (y 30 70) (83 * s j + 0) 0) (s d) u := ⟨_, rfl⟩
      have i7 : ∀ f a, f < 24 ∨ 32 < f → gi G7 f a = gi G1 f a := fun f a q => by rw [eG7]; exact bgC_i q
      have r7 : ∀ f a, f < 21 ∨ 30 < f → gr G7 f a = gr G1 f a := fun f a q => by rw [eG7]; exact bgC_r q
      have l7 : ∀ f a, gl G7 f a = gl G1 f a := fun f a => by rw [eG7]; rfl
      have A7 : ∀ a, ai G7 a = ai G1 a := fun a => by rw [eG7]; rfl
      have R7 : ∀ a, ar G7 a = ar G1 a := fun a => by rw [eG7]; rfl
      have agT7 : agT y G1 G7 := ⟨fun f a hf => ⟨i7 f a (by omega), r7 f a (by omega)⟩, fun i _ => ⟨A7 _, A7 _⟩, R7⟩
      have t3 : ai m3 (y 30 70) = ai m2 (y 30 70) := by rw [em3]; exact aw_ne (hs.ne (by omega))
      have hm3 : FZ y m3 := hm2.to hs (sZ.of (fun f a => by rw [em3]; rfl) (fun a => by rw [em3]; rfl))
      have g5 : ∀ f a, gi m5 f a = gi m2 f a := fun f a => by rw [em5, em3]; rfl
      have l5 : ∀ a, al m5 a = al m2 a := fun a => by rw [em5, em3]; rfl
      have A5 : ∀ a, a ≠ y 30 70 → a ≠ y 30 71 → ai m5 a = ai m2 a := fun a q1 q2 => by rw [em5, chM_o q1, ai_nb q1, em3, aw_ne q2]
      have hm5 : FZ y m5 := hm2.to hs (sZ.of (fun f a => by rw [em5, em3]; rfl) (fun a => by rw [em5, em3]; rfl))
      have mA5 : ∀ f, yV 30 f = true → f ≠ 70 → f ≠ 71 → ai m5 (y 30 f) = ai m2 (y 30 f) := fun f hv q1 q2 => A5 _ (hs.ne (by omega) hv rfl) (hs.ne (by omega) hv rfl)
      obtain ⟨s1', s2', s3', s4', s5', s6'⟩ := hsc1
      have tm : gi G 69 (y 0 0) = gi m2 78 (y 1 0) := by rw [← g1 69 _ (by omega)]; exact s3'
      have P5 : ai m5 (y 30 70) = cG (cS (ai m2 (y 30 70)) (s j) 0 0) (s d) (gi G 69 (y 0 0)) u := by
        rw [em5, chM_70, ais_cS, t3, tm, em3]; rfl
      obtain ⟨i0, hi0, ei0⟩ : ∃ i0, i0 < n ∧ r i0 = j := by
        rcases hj with z | z
        · exact absurd z h0
        · exact z
      have hT7 : TrR t y G7 (ai m2 (y 30 70)) n r s np := hT.to agT7
      have hv7 := @bgC_v y G1 (tad t 5) (y 5 j) (some (tad t u)) (gi G 69 (y 0 0))
      have pre : PreC t y b G7 m5 (ai m2 (y 30 70)) (cG (cS (ai m2 (y 30 70)) (s j) 0 0) (s d) (gi G 69 (y 0 0)) u) n r s np np := by
        have x19 : gi G7 19 (y 3 0) = gi G1 19 (y 3 0) := i7 19 _ (by omega)
        refine ⟨hs, hz1.to hs ⟨fun a => ⟨r7 _ _ (by omega), r7 _ _ (by omega), r7 _ _ (by omega), r7 _ _ (by omega), r7 _ _ (by omega), r7 _ _ (by omega), r7 _ _ (by omega), r7 _ _ (by omega), r7 _ _ (by omega), r7 _ _ (by omega), r7 _ _ (by omega), r7 _ _ (by omega), r7 _ _ (by omega), r7 _ _ (by omega), r7 _ _ (by omega), r7 _ _ (by omega), r7 _ _ (by omega), r7 _ _ (by omega), r7 _ _ (by omega)⟩, fun f a hv => r7 f a (by simp [yV] at hv; omega), fun a _ => R7 a⟩, hm5, ⟨?_, ?_, ?_, ?_, ?_, ?_⟩, ?_, fun c hc => ?_, fun k' hk' => ?_, hT7, fun k' hk' => ?_, ?_, hnp, ?_, fun q _ => by rw [P5], fun q hq => ?_⟩
        · rw [i7 17 _ (by omega), g5]; exact s1'
        · rw [i7 18 _ (by omega), g5]; exact s2'
        · rw [i7 69 _ (by omega), g5]; exact s3'
        · rw [i7 20 _ (by omega), g5]; exact s4'
        · rw [i7 20 _ (by omega)]; exact s5'
        · rw [x19, i7 20 _ (by omega), g5]; exact s6'
        · rw [x19, g1 19 _ (by omega)]; exact hrun
        · refine (hl1 c hc).to ⟨fun f q1 q2 => i7 f _ (by omega), A7 _, A7 _⟩ ⟨fun q _ => by rw [mA5 79 rfl (by omega) (by omega)], fun q _ => by rw [mA5 81 rfl (by omega) (by omega)], fun f hf => ?_⟩ (fun z => by rw [x19] at z; exact z)
          rcases hf with rfl | rfl | rfl | rfl | rfl <;> rw [mA5 _ rfl (by omega) (by omega)]
        · exact (hu1 k' hk').to (fun f q1 q2 => ⟨i7 f _ (by omega), l7 f _, r7 f _ (by omega)⟩) (fun f q1 q2 => ⟨by rw [mA5 f (by simp [yV]; omega) (by omega) (by omega)], by rw [l5]⟩) (fun z => by rw [x19] at z; exact z)
        · exact (hF k' hk').to (fun f q1 q2 => ⟨i7 f _ (by omega), l7 f _, r7 f _ (by omega)⟩) (fun f q1 q2 => ⟨by rw [mA5 f (by simp [yV]; omega) (by omega) (by omega)], by rw [l5]⟩) (fun j => ⟨i7 0 _ (by omega), i7 2 _ (by omega)⟩)
        · rw [g5]; exact h74'
        · subst ei0
          refine stg_rm hT7 hnp31 hs hi0 hd a11 ((r7 7 _ (by omega)).trans e71) ?_ (by rw [eG7]; exact hv7.1) (by rw [eG7]; exact hv7.2.1) (by rw [eG7]; exact hv7.2.2) (by rw [eG7]; exact bgC_24)
          have : ∀ i, gr G7 7 (y 5 (r i)) = gr G 7 (y 5 (r i)) := fun i => (r7 7 _ (by omega)).trans (r1 7 _)
          simp only [this]; exact hc0
        · have : ai m5 (y 30 71) = mix (ai m2 (y 30 70)) (ai m2 (y 30 71)) 1743 := by rw [em5, chM_o (hs.ne (by omega)), ai_nb (hs.ne (by omega)), em3, aw_at]
          rw [this]; show (if q < 1743 then _ else _) = _; rw [if_pos hq]
      -- how both come to the log
      have cgo : ∀ K : GS → Prop, w_S_carryOut t G7 (y 0 0) (16 : Int32) K → w_S_stageRelease t G (y 0 0) (y 14 k) (fun G1 v => if v = 0 then K G1 else w_S_carryOut t G1 (y 0 0) (16 : Int32) K) := fun K hK => cpre _ (iF hrm (iT hgone (iF (by rw [e7]; simp) (iF hent ⟨y 5 d, e7, hs.k 5 d (by simp [yV]; omega), S_lets hs (by omega) a11 hgg hoo egg eoo (fun _ => iT (by decide) (S_begin hs (iF (by decide) (by rw [← eG7]; exact hK)))) (fun q => absurd hok q)⟩))))
      have mgo : ∀ K : GS → Prop, w_M_commit t m5 (y 1 0) (16 : Int32) (fun G6 _ => K G6) → w_M_release t m (y 1 0) (nI k) K := fun K hK => by
        refine mrel K ⟨hs.k 1 0, y 30 89, hm2.m 89, hs.k 30 89, by rw [hs.n 30 89]; exact vp_lt (N := 12) hk, ?_⟩
        rw [cl, e89]
        refine hT.mayIn hnp31 hs hm2 a11 hj h0 hd e71 hgg hoo egg eoo (fun _ => iT (by decide) (M_begin hs hm2 ?_)) (fun q => absurd hok q)
        rw [← em3]
        have e893 : ai m3 (y 30 89) k = nI u := by rw [em3, aw_ne (hs.ne (by omega))]; exact e89
        refine ⟨y 30 89, hm3.m 89, hs.k 30 89, by rw [hs.n 30 89]; exact vp_lt (N := 12) hk, ?_⟩
        rw [e893]
        refine ⟨hs.k 1 0, M_at (c := 8) hs hm3 x.1 (by omega) ?_⟩
        have xd := hT.nd hd
        have e81 : ai m2 (y 30 70) (83 * s j + 8) = gi G1 0 (y 5 d) := by rw [mA 70 rfl (by omega), g1 0 _ (by omega)]; exact e8
        rw [t3, e81]
        refine M_find hs hm3 xd.1 (by rw [t3]; exact xd.2.2.1) (by rw [t3]; exact xd.2.2.2.1) (fun q hq z1 z2 => hT.uniq hnp31 hd hq (by rw [← t3]; exact z1) (by rw [← t3]; exact z2)) ?_
        refine M_set (c := 0) hs hm3 x.1 (by omega) ?_
        refine M_changes hs ?_ xd.1 ?_
        · exact hm3.to hs (sZ.of (fun _ _ => rfl) (fun _ => rfl))
        · rw [← em5]
          exact hK
      have eS7 : eS y G G7 := by rw [eG7, eG1]; exact eS.rf.si.bg
      have kC7 : kC y G G7 := by rw [eG7, eG1]; exact (kC.rf.si (by omega) (by omega) (by omega)).bg
      have kM5 : kM y m m5 := by rw [em5, em3, em2]; exact (((kM.rf.ais hs (f := 86) (by omega) (by omega) rfl).aw hs (f := 71) (by omega) (by omega) rfl).ais hs (f := 70) (by omega) (by omega) rfl).ch hs
      by_cases hcut : gi G7 18 (y 3 0) < 0 ∨ ¬ gi G7 18 (y 3 0) < nI (lgB 16) + 2
      · obtain ⟨G2, hR, rS, rM⟩ := carryY pre (z := 16) (by decide) hcut
        exact ⟨G2, cmY y m5 16, carryI pre hR, eS7.ad.fr hs hR.1, fun _ => ⟨kC7.ad.fr hs hR.1, kM5.cm⟩, fun K hK => cgo K (rS K hK), fun K hK => mgo K (rM _ hK)⟩
      · obtain ⟨hInv, rS, rM⟩ := carryN pre (z := 16) (by decide) (fun z => hcut (Or.inl z)) (Classical.byContradiction fun z => hcut (Or.inr z))
        exact ⟨gdN y G7 16, cmN y m5 16, hInv, eS7.gd, fun z => by rw [gd19] at z; exact absurd z (by decide), fun K hK => cgo K (rS K hK), fun K hK => mgo K (rM _ hK)⟩
    · refine quit (fun C hC => cpre C (iF hrm (iT hgone (iF (by rw [e7]; simp) (iF hent ⟨y 5 d, e7, hs.k 5 d (by simp [yV]; omega), S_lets hs (by omega) a11 hgg hoo egg eoo (fun q => absurd q hok) (fun _ => iF (by simp) hC)⟩))))) (fun K hK => mrel K ⟨hs.k 1 0, y 30 89, hm2.m 89, hs.k 30 89, by rw [hs.n 30 89]; exact vp_lt (N := 12) hk, ?_⟩)
      rw [cl, e89]
      exact hT.mayIn hnp31 hs hm2 a11 hj h0 hd e71 hgg hoo egg eoo (fun q => absurd q hok) (fun _ => iF (by simp) hK)
  · have nofnd : ∀ K' : Int32 → Prop, K' (-1) → w_M_find t m2 (y 1 0) (nI p) K' := fun K' hK => M_findNo hs hm2 (fun q hq z1 z2 => by
      obtain ⟨j', hj', rfl⟩ := hT.slot hq z1
      have := (hT.nd hj').2.2.2.1
      rw [z2, g1 0 _ (by omega)] at this
      have e := a10 j' hj' this.symm
      subst e
      exact hgone this.symm) hK
    exact quit (fun C hC => cpre C (by
      by_cases hrm : gi G 52 (y 14 k) = 0
      · exact iT hrm hC
      · exact iF hrm (iF hgone hC))) (fun K hK => mpre K _ nofnd (by
      by_cases hrm : gi G 52 (y 14 k) = 0
      · exact iT hrm hK
      · exact iF hrm (iT (by decide) hK)))
end REL
