/-! whole arrays; restart (by hand) -/
def aw (G : GS) (a : Nat) (f : Nat → Int32) : GS := (G.1, G.2.1, G.2.2.1, fun c => if c = a then f else ai G c, G.2.2.2.2)
theorem aw_at {G : GS} {a : Nat} {f : Nat → Int32} : ai (aw G a f) a = f := if_pos rfl
theorem aw_ne {G : GS} {a b : Nat} {f : Nat → Int32} (h : b ≠ a) : ai (aw G a f) b = ai G b := if_neg h
theorem aw_ais {G : GS} {a j : Nat} {x : Int32} {f : Nat → Int32} : ais (aw G a f) a j x = aw G a (fun k => if k = j then x else f k) := by
  have : u2 (fun c => if c = a then f else ai G c) a j x = (fun c => if c = a then (fun k => if k = j then x else f k) else ai G c) := by
    funext c k
    unfold u2
    by_cases q : c = a
    · subst q
      by_cases q2 : k = j
      · rw [if_pos ⟨rfl, q2⟩, if_pos rfl, if_pos q2]
      · rw [if_neg (fun z => q2 z.2), if_pos rfl, if_neg q2]
        show (if c = c then f else ai G c) k = f k
        rw [if_pos rfl]
    · rw [if_neg (fun z => q z.1), if_neg q]
      show (if c = a then f else ai G c) k = ai G c k
      rw [if_neg q]
  show (G.1, G.2.1, G.2.2.1, u2 (fun c => if c = a then f else ai G c) a j x, G.2.2.2.2) = _
  rw [this]; rfl
theorem aw_self {G : GS} {a : Nat} : aw G a (ai G a) = G := by
  have : (fun c => if c = a then ai G a else ai G c) = (fun c => ai G c) := by
    funext c
    by_cases q : c = a
    · rw [if_pos q, q]
    · rw [if_neg q]
  show (G.1, G.2.1, G.2.2.1, (fun c => if c = a then ai G a else ai G c), G.2.2.2.2) = G
  rw [this]; rfl
theorem si_self {G : GS} {f a : Nat} : si G f a (gi G f a) = G := by
  have : u2 G.1 f a (gi G f a) = G.1 := by
    funext g b
    unfold u2
    by_cases q : g = f ∧ b = a
    · rw [if_pos q, q.1, q.2]; rfl
    · rw [if_neg q]
  show (u2 G.1 f a (gi G f a), G.2) = G
  rw [this]
theorem si_si {G : GS} {f a : Nat} {x z : Int32} : si (si G f a x) f a z = si G f a z := by
  have : u2 (u2 G.1 f a x) f a z = u2 G.1 f a z := by
    funext g b
    unfold u2
    by_cases q : g = f ∧ b = a
    · rw [if_pos q, if_pos q]
    · rw [if_neg q, if_neg q, if_neg q]
  show (u2 (u2 G.1 f a x) f a z, G.2) = (u2 G.1 f a z, G.2)
  rw [this]
/-- the first i cells out of another array -/
def mix (f g : Nat → Int32) (i : Nat) : Nat → Int32 := fun k => if k < i then f k else g k
theorem mix_0 {f g : Nat → Int32} : mix f g 0 = g := funext fun k => if_neg (by omega)
theorem mix_s {f g : Nat → Int32} {i : Nat} : (fun k => if k = i then f i else mix f g i k) = mix f g (i + 1) := by
  funext k
  unfold mix
  by_cases q : k = i
  · subst q; rw [if_pos rfl, if_pos (by omega)]
  · rw [if_neg q]
    by_cases q2 : k < i
    · rw [if_pos q2, if_pos (by omega)]
    · rw [if_neg q2, if_neg (by omega)]
theorem TrR.cells {t : TY} {y : LYT} {G : GS} {T T' : Nat → Int32} {n np : Nat} {r s : Nat → Nat} (h : TrR t y G T n r s np) (e : ∀ k, k < 1743 → T' k = T k) : TrR t y G T' n r s np := by
  obtain ⟨h1, h2, h3, h4, h5, h6, h7, h9, h10, h11, h12, h13, h14, h15, h16, h17, h18⟩ := h
  have hle : ∀ j, lvN n r j → s j < 21 := fun j hj => (h12 j hj).1
  refine ⟨h1, h2, h3, h4, h5, h6, h7, h9, h10, h11, fun j hj => ?_, fun k hk => ?_, ?_, fun i hi => ?_, h16, h17, h18⟩
  · obtain ⟨x1, x2, a1, a2, a3, a4, a5, a6, a7, a8, ⟨l, f, b1, b2, b3, b4, b5⟩, ⟨l', f', c1, c2, c3, c4, c5⟩⟩ := h12 j hj
    refine ⟨x1, x2, ?_⟩
    unfold NdR
    rw [e _ (by omega), e _ (by omega), e _ (by omega), e _ (by omega), e _ (by omega), e _ (by omega), e _ (by omega), e _ (by omega), e _ (by omega), e _ (by omega)]
    exact ⟨a1, a2, a3, a4, a5, a6, a7, a8, ⟨l, f, b1, b2, b3, b4, fun k hk => by rw [e _ (by omega)]; exact b5 k hk⟩, ⟨l', f', c1, c2, c3, c4, fun k hk => by rw [e _ (by omega)]; exact c5 k hk⟩⟩
  · rw [e _ (by omega)]; exact h13 k hk
  · rw [e 8 (by omega)]; exact h14
  · obtain ⟨j, x1, x2, x3, x4⟩ := h15 i hi
    have := hle (r i) (Or.inr ⟨i, hi, rfl⟩)
    exact ⟨j, x1, x2, by rw [e _ (by omega)]; exact x3, x4⟩
section RST
variable {t : TY} {y : LYT} {G m : GS}
theorem sZ.of {G' : GS} (h : ∀ f a, gr G' f a = gr G f a) (h2 : ∀ b, ar G' b = ar G b) : sZ y G G' := ⟨fun a => ⟨h _ _, h _ _, h _ _, h _ _, h _ _, h _ _, h _ _, h _ _, h _ _, h _ _, h _ _, h _ _, h _ _, h _ _, h _ _, h _ _, h _ _, h _ _, h _ _⟩, fun f a _ => h f a, fun b _ => h2 b⟩
/-- the copying loops of the reference -/
theorem M_copy {a b : Nat} {K : GS → Prop} {w : Nat → Int32 → GS → Prop} (hab : a ≠ b) (hx : ∀ n G', (∀ f x, gr G' f x = gr m f x) → K G' → w (n + 1) 1743 G')
    (hs : ∀ n i G', i < 1743 → (∀ f x, gr G' f x = gr m f x) → w n (nI i + 1) (ais G' b i (ai G' a i)) → w (n + 1) (nI i) G') (h : K (aw m b (mix (ai m a) (ai m b) 1743))) : ∃ n, w n 0 m := by
  have := pk_loop (fun n i (_ : Unit) => w n (nI i) (aw m b (mix (ai m a) (ai m b) i))) (fun _ _ => True) 1743 0 () (by omega) trivial (fun n _ _ => hx n _ (fun _ _ => rfl) h) (fun n i _ hi _ ih => by
    refine hs n i _ hi (fun _ _ => rfl) ?_
    rw [aw_ne hab, aw_ais, mix_s, nI_1]
    exact ih () trivial)
  obtain ⟨n, hn⟩ := this
  refine ⟨n, ?_⟩
  have e : aw m b (mix (ai m a) (ai m b) 0) = m := by rw [mix_0]; exact aw_self
  have hn : w n (nI 0) (aw m b (mix (ai m a) (ai m b) 0)) := hn
  rw [e] at hn
  exact hn
theorem M_begin (hs : SH t y) (hz : FZ y m) {K : GS → Prop} (h : K (aw m (y 30 71) (mix (ai m (y 30 70)) (ai m (y 30 71)) 1743))) : w_M_begin t m (y 1 0) K := by
  refine M_copy (a := y 30 70) (b := y 30 71) (K := K) (w := w_M_begin_2 t (y 1 0) K) (hs.ne (by omega)) (fun n G' _ hk => ?_) (fun n i G' hi hg hk => ?_) h
  · unfold w_M_begin_2
    exact iT (by decide) hk
  · refine iF (show ¬ nI 1743 ≤ nI i from nI_ge hi (by decide)) ⟨hs.k 1 0, y 30 70, by rw [hg]; exact hz.m 70, hs.k 30 70, by rw [hs.n 30 70]; exact vp_lt (N := 1743) hi, y 30 71, by rw [hg]; exact hz.m 71, hs.k 30 71, by rw [hs.n 30 71]; exact vp_lt (N := 1743) hi, ?_⟩
    intro G3 e v hv
    subst e hv
    rw [nI_clamp (by omega)]
    exact hk
theorem M_back (hs : SH t y) (hz : FZ y m) {K : GS → Prop} (h : K (aw m (y 30 70) (mix (ai m (y 30 71)) (ai m (y 30 70)) 1743))) : w_M_back t m (y 1 0) K := by
  refine M_copy (a := y 30 71) (b := y 30 70) (K := K) (w := w_M_back_2 t (y 1 0) K) (hs.ne (by omega)) (fun n G' _ hk => ?_) (fun n i G' hi hg hk => ?_) h
  · unfold w_M_back_2
    exact iT (by decide) hk
  · refine iF (show ¬ nI 1743 ≤ nI i from nI_ge hi (by decide)) ⟨hs.k 1 0, y 30 71, by rw [hg]; exact hz.m 71, hs.k 30 71, by rw [hs.n 30 71]; exact vp_lt (N := 1743) hi, y 30 70, by rw [hg]; exact hz.m 70, hs.k 30 70, by rw [hs.n 30 70]; exact vp_lt (N := 1743) hi, ?_⟩
    intro G3 e v hv
    subst e hv
    rw [nI_clamp (by omega)]
    exact hk
/-- count: the highest path of the cells, if it is higher -/
theorem M_count {q0 B : Nat} {P : Nat → Nat} (hs : SH t y) (hz : FZ y m) (h0 : gi m 74 (y 1 0) = nI q0) (hq : q0 ≤ B) (hB : B < 2 ^ 31) (hp : ∀ k, k < 21 → ai m (y 30 70) (83 * k) = 1 → ai m (y 30 70) (83 * k + 1) = nI (P k) ∧ P k ≤ B) (hx : B = q0 ∨ ∃ k, k < 21 ∧ ai m (y 30 70) (83 * k) = 1 ∧ P k = B) {K : GS → Prop} (h : K (si m 74 (y 1 0) (nI B))) : w_M_count t m (y 1 0) K := by
  have hzq : ∀ q, FZ y (si m 74 (y 1 0) (nI q)) := fun q => hz.to hs (sZ.of (fun _ _ => rfl) (fun _ => rfl))
  have := pk_loop (fun n i (q : Nat) => w_M_count_2 t (y 1 0) K n (nI i) (si m 74 (y 1 0) (nI q))) (fun i q => q0 ≤ q ∧ q ≤ B ∧ ∀ k, k < i → ai m (y 30 70) (83 * k) = 1 → P k ≤ q) 21 0 q0 (by omega) ⟨Nat.le_refl _, hq, fun k hk => by omega⟩ (fun n q hI => ?_) (fun n i q hi hI ih => ?_)
  · obtain ⟨n, hn⟩ := this
    refine ⟨n, ?_⟩
    have hn : w_M_count_2 t (y 1 0) K n (nI 0) (si m 74 (y 1 0) (nI q0)) := hn
    rw [← h0, si_self] at hn
    exact hn
  · show w_M_count_2 t (y 1 0) K (n + 1) (nI 21) (si m 74 (y 1 0) (nI q))
    unfold w_M_count_2
    refine iT (show (21 : Int32) ≤ nI 21 by decide) ?_
    have : q = B := by
      rcases hx with rfl | ⟨k, hk, h1, rfl⟩
      · omega
      · have := hI.2.2 k hk h1; omega
    rw [this]; exact h
  · refine iF (show ¬ nI 21 ≤ nI i from nI_ge hi (by decide)) ⟨hs.k 1 0, M_at0 hs (hzq q) hi (iN ⟨fun z => ?_, fun z => ?_⟩)⟩
    · have z : ai m (y 30 70) (83 * i) = 1 := z
      obtain ⟨p1, p2⟩ := hp i hi z
      refine M_at (c := 1) hs (hzq q) hi (by omega) ?_
      have e1 : ai (si m 74 (y 1 0) (nI q)) (y 30 70) (83 * i + 1) = nI (P i) := p1
      rw [e1, gi_at]
      refine iS (pk_le (P i) q (fun hle => ?_) (fun hlt => ?_) rfl rfl (by omega) (by omega))
      · intro v hv; subst hv; rw [nI_1]
        exact ih q ⟨hI.1, hI.2.1, fun k hk hk1 => by
          by_cases qk : k = i
          · rw [qk]; exact hle
          · exact hI.2.2 k (by omega) hk1⟩
      · refine M_at (c := 1) hs (hzq q) hi (by omega) ?_
        rw [e1]
        intro G6 e6 v hv
        subst e6 hv
        rw [nI_1, si_si]
        exact ih (P i) ⟨by omega, p2, fun k hk hk1 => by
          by_cases qk : k = i
          · rw [qk]; exact Nat.le_refl _
          · have := hI.2.2 k (by omega) hk1; omega⟩
    · intro v hv; subst hv; rw [nI_1]
      exact ih q ⟨hI.1, hI.2.1, fun k hk hk1 => by
        by_cases qk : k = i
        · rw [qk] at hk1; exact absurd hk1 z
        · exact hI.2.2 k (by omega) hk1⟩
/-- restart -/
theorem o_restart {S M : Nat} : Ob_restart t S M (InvW t S M) := fun j G hj ⟨y, h1, h2, h⟩ => by
  subst h1 h2
  have hup : InvW t (y 0 0) (y 1 0) (j + 5) G := ⟨y, rfl, rfl, h.up (by omega)⟩
  obtain ⟨hs, hz, -, ⟨s1, s2, s3, s4, s5, s6⟩, hl, hu, n, r, s, np, hT, hF, h74, hnp, hS⟩ := h
  refine ⟨hs.k 0 0, y 3 0, hz.1.2.1, hs.k 3 0, ?_⟩
  rcases s6 with ⟨q1, q2, q3⟩ | ⟨q1, q2⟩
  · refine iF (by rw [q1]; decide) ⟨hs.k 1 0, iF (by rw [q2]; decide) ⟨rfl, hup⟩⟩
  · refine iT q1 ?_
    -- behind the change, if there is one: class and reference go up again
    have fin : ∀ (G2 : GS) (n' : Nat) (r' s' : Nat → Nat) (np' : Nat), frT y G G2 → TrR t y G2 (if gi G 20 (y 3 0) = 0 then ai G (y 30 70) else ai G (y 30 72)) n' r' s' np' → (np' = np ∨ (np' = np + 1 ∧ ¬ gi G 20 (y 3 0) = 0 ∧ ∃ j, lvN n' r' j ∧ gi G2 0 (y 5 j) = nI np)) → w_S_restart_33 t (y 0 0) (fun G1 r1 => w_M_restart t G1 (y 1 0) (fun G2 r2 => r1 = r2 ∧ InvW t (y 0 0) (y 1 0) (j + 5) G2)) G2 := by
      intro G2 n' r' s' np' hf hT' hnp'
      have hz2 : FZ y G2 := hz.to hs ⟨fun a => ⟨(hf.1 63 a (by omega)).2, (hf.1 64 a (by omega)).2, (hf.1 65 a (by omega)).2, (hf.1 66 a (by omega)).2, (hf.1 67 a (by omega)).2, (hf.1 68 a (by omega)).2, (hf.2.2.2.2.1 a).2.2.1, (hf.2.2.2.2.1 a).2.2.2, (hf.1 31 a (by omega)).2, (hf.1 33 a (by omega)).2, (hf.1 36 a (by omega)).2, (hf.1 40 a (by omega)).2, (hf.1 41 a (by omega)).2, (hf.1 44 a (by omega)).2, (hf.2.2.2.2.1 a).1, (hf.2.2.2.2.1 a).2.1, (hf.1 55 a (by omega)).2, (hf.1 57 a (by omega)).2, (hf.1 62 a (by omega)).2⟩, fun f a hv => (hf.1 f a (by simp [yV] at hv; omega)).2, hf.2.2.2.2.2⟩
      refine ⟨hs.k 0 0, y 3 0, hz2.1.2.1, hs.k 3 0, hs.k 3 0, ?_⟩
      intro A1 e1 A2 e2 A3 e3
      refine ⟨hs.k 1 0, ?_⟩
      -- the class's end state A3
      have g3 : ∀ f a, f ≠ 17 → f ≠ 19 → f ≠ 20 → gi A3 f a = gi G2 f a := fun f a h1 h2 h3 => by rw [e3, gi_ne h2, e2, gi_ne h3, e1, gi_ne h1]
      have r3 : ∀ f a, gr A3 f a = gr G2 f a := fun f a => by rw [e3, e2, e1]; rfl
      have l3 : ∀ f a, gl A3 f a = gl G2 f a := fun f a => by rw [e3, e2, e1]; rfl
      have a3 : ∀ b, ai A3 b = ai G2 b := fun b => by rw [e3, e2, e1]; rfl
      have b3 : ∀ b, al A3 b = al G2 b := fun b => by rw [e3, e2, e1]; rfl
      have c3 : ∀ b, ar A3 b = ar G2 b := fun b => by rw [e3, e2, e1]; rfl
      have mA : ∀ f, yV 30 f = true → ai G2 (y 30 f) = ai G (y 30 f) := fun f hv => hf.2.2.2.1 _ (fun i hi => ⟨hs.ne (by omega) hv (by simp [yV, hi]), hs.ne (by omega) hv (by simp [yV, hi])⟩)
      have e75 : gi A3 75 (y 1 0) = gi G 75 (y 1 0) := (g3 75 _ (by omega) (by omega) (by omega)).trans (hf.1 75 _ (by omega)).1
      refine iT (by rw [e75, q2]; decide) ?_
      intro B1 f1 B2 f2
      have hzA : FZ y A3 := hz2.to hs (sZ.of r3 c3)
      have hzB : FZ y B2 := hzA.to hs (sZ.of (fun f a => by rw [f2, f1]; rfl) (fun b => by rw [f2, f1]; rfl))
      have gB : ∀ f a, f ≠ 75 → f ≠ 77 → gi B2 f a = gi A3 f a := fun f a h1 h2 => by rw [f2, gi_ne h2, f1, gi_ne h1]
      have e73 : gi B2 73 (y 1 0) = gi G 20 (y 3 0) := by rw [gB 73 _ (by omega) (by omega), g3 73 _ (by omega) (by omega) (by omega), (hf.1 73 _ (by omega)).1, s4]
      have e74 : gi B2 74 (y 1 0) = nI (np - 1) := by rw [gB 74 _ (by omega) (by omega), g3 74 _ (by omega) (by omega) (by omega), (hf.1 74 _ (by omega)).1, h74]
      -- the end: C is B2 with the tree's cells and the paths
      have done : ∀ C : GS, (∀ f a, f ≠ 74 → gi C f a = gi B2 f a) → gi C 74 (y 1 0) = nI (np' - 1) → (∀ f a, gr C f a = gr B2 f a) → (∀ f a, gl C f a = gl B2 f a) → (∀ b, b ≠ y 30 70 → ai C b = ai B2 b) → (∀ b, al C b = al B2 b) → (∀ b, ar C b = ar B2 b) → (∀ k, k < 1743 → ai C (y 30 70) k = (if gi G 20 (y 3 0) = 0 then ai G (y 30 70) else ai G (y 30 72)) k) → w_M_restart_69 t (y 1 0) (fun G2 r2 => (1 : Int32) = r2 ∧ InvW t (y 0 0) (y 1 0) (j + 5) G2) C := by
        intro C k1 k2 k3 k4 k5 k6 k7 k8
        refine ⟨hs.k 1 0, fun E eE => ⟨rfl, y, rfl, rfl, ?_⟩⟩
        have E1 : ∀ f a, f ≠ 73 → f ≠ 74 → f ≠ 75 → f ≠ 77 → f ≠ 17 → f ≠ 19 → f ≠ 20 → gi E f a = gi G2 f a := fun f a z1 z2 z3 z4 z5 z6 z7 => by rw [eE, gi_ne z1, k1 f a z2, gB f a z3 z4, g3 f a z5 z6 z7]
        have E2 : ∀ f a, gr E f a = gr G2 f a := fun f a => by rw [eE]; exact (k3 f a).trans (by rw [f2, f1]; exact r3 f a)
        have E3 : ∀ f a, gl E f a = gl G2 f a := fun f a => by rw [eE]; exact (k4 f a).trans (by rw [f2, f1]; exact l3 f a)
        have E4 : ∀ b, b ≠ y 30 70 → ai E b = ai G2 b := fun b hb => by rw [eE]; exact (k5 b hb).trans (by rw [f2, f1]; exact a3 b)
        have E5 : ∀ b, al E b = al G2 b := fun b => by rw [eE]; exact (k6 b).trans (by rw [f2, f1]; exact b3 b)
        have E6 : ∀ b, ar E b = ar G2 b := fun b => by rw [eE]; exact (k7 b).trans (by rw [f2, f1]; exact c3 b)
        have x19 : gi E 19 (y 3 0) = 1 := by rw [eE, gi_ne (by omega), k1 _ _ (by omega), gB _ _ (by omega) (by omega), e3, gi_at]
        have x20 : gi E 20 (y 3 0) = 0 := by rw [eE, gi_ne (by omega), k1 _ _ (by omega), gB _ _ (by omega) (by omega), e3, gi_ne (by omega), e2, gi_at]
        have x73 : gi E 73 (y 1 0) = 0 := by rw [eE, gi_at]
        have x75 : gi E 75 (y 1 0) = 0 := by rw [eE, gi_ne (by omega), k1 _ _ (by omega), f2, gi_ne (by omega), f1, gi_at]
        have x17 : gi E 17 (y 3 0) = gi G 17 (y 3 0) + 1 := by rw [eE, gi_ne (by omega), k1 _ _ (by omega), gB _ _ (by omega) (by omega), e3, gi_ne (by omega), e2, gi_ne (by omega), e1, gi_at, (hf.1 17 _ (by omega)).1]
        have x77 : gi E 77 (y 1 0) = gi G 77 (y 1 0) + 1 := by rw [eE, gi_ne (by omega), k1 _ _ (by omega), f2, gi_at, f1, gi_ne (by omega), g3 _ _ (by omega) (by omega) (by omega), (hf.1 77 _ (by omega)).1]
        have xo : ∀ f a, 16 < f → f ≠ 73 → f ≠ 74 → f ≠ 75 → f ≠ 77 → f ≠ 17 → f ≠ 19 → f ≠ 20 → gi E f a = gi G f a := fun f a z0 z1 z2 z3 z4 z5 z6 z7 => (E1 f a z1 z2 z3 z4 z5 z6 z7).trans (hf.1 f a z0).1
        have xa : ∀ b, b ≠ y 30 70 → (∀ i, i < 23 → b ≠ y 6 i ∧ b ≠ y 7 i) → ai E b = ai G b := fun b h1 h2 => (E4 b h1).trans (hf.2.2.2.1 b h2)
        have hzE : FZ y E := hz2.to hs (sZ.of E2 E6)
        have agE : agT y G2 E := ⟨fun f a hf' => ⟨E1 f a (by omega) (by omega) (by omega) (by omega) (by omega) (by omega) (by omega), E2 f a⟩, fun i hi => ⟨E4 _ (hs.ne (by omega) (by simp [yV, hi]) rfl), E4 _ (hs.ne (by omega) (by simp [yV, hi]) rfl)⟩, E6⟩
        have x70 : ∀ k, k < 1743 → ai E (y 30 70) k = (if gi G 20 (y 3 0) = 0 then ai G (y 30 70) else ai G (y 30 72)) k := fun k hk => by rw [eE]; exact k8 k hk
        have xm : ∀ f, yV 30 f = true → f ≠ 70 → ai E (y 30 f) = ai G (y 30 f) := fun f hv hne => (E4 _ (hs.ne (by omega) hv rfl)).trans (mA f hv)
        refine ⟨hs, hzE, hzE, ⟨?_, ?_, ?_, ?_, ?_, Or.inl ⟨x19, x75, x20⟩⟩, fun c hc => ?_, fun k hk => ?_, n', r', s', np', ?_, fun k hk => ?_, ?_, ?_, fun z => ?_⟩
        · rw [x17, x77, s1]
        · rw [xo 18 _ (by omega) (by omega) (by omega) (by omega) (by omega) (by omega) (by omega) (by omega), xo 76 _ (by omega) (by omega) (by omega) (by omega) (by omega) (by omega) (by omega) (by omega)]; exact s2
        · rw [xo 69 _ (by omega) (by omega) (by omega) (by omega) (by omega) (by omega) (by omega) (by omega), xo 78 _ (by omega) (by omega) (by omega) (by omega) (by omega) (by omega) (by omega) (by omega)]; exact s3
        · rw [x20, x73]
        · exact Or.inl x20
        · refine (hl c hc).to ⟨fun f h1 h2 => xo f _ (by omega) (by omega) (by omega) (by omega) (by omega) (by omega) (by omega) (by omega), xa _ (hs.ne (by omega) (by simp [yV, hc]) rfl) (fun i hi => ⟨hs.ne (by omega) (by simp [yV, hc]) (by simp [yV, hi]), hs.ne (by omega) (by simp [yV, hc]) (by simp [yV, hi])⟩), xa _ (hs.ne (by omega) (by simp [yV, hc]) rfl) (fun i hi => ⟨hs.ne (by omega) (by simp [yV, hc]) (by simp [yV, hi]), hs.ne (by omega) (by simp [yV, hc]) (by simp [yV, hi])⟩)⟩ ⟨fun k _ => by rw [xm 79 rfl (by omega)], fun k _ => by rw [xm 81 rfl (by omega)], fun f hf' => ?_⟩ (fun z => by rw [x19] at z; exact absurd z (by decide))
          rcases hf' with rfl | rfl | rfl | rfl | rfl <;> rw [xm _ rfl (by omega)]
        · refine (hu k hk).to (fun f h1 h2 => ⟨xo f _ (by omega) (by omega) (by omega) (by omega) (by omega) (by omega) (by omega) (by omega), (E3 f _).trans (hf.2.1 f _), (E2 f _).trans (hf.1 f _ (by omega)).2⟩) (fun f h1 h2 => ⟨by rw [xm f (by simp [yV]; omega) (by omega)], by rw [E5, hf.2.2.1]⟩) (fun z => by rw [x19] at z; exact absurd z (by decide))
        · exact (hT'.to agE).cells x70
        · intro z
          have := (hu k hk).2.2 q1
          rw [xo 46 _ (by omega) (by omega) (by omega) (by omega) (by omega) (by omega) (by omega) (by omega), this] at z
          exact absurd z (by decide)
        · rw [eE, gi_ne (by omega)]; exact k2
        · rcases hnp' with rfl | ⟨rfl, -⟩ <;> omega
        · rw [x19] at z; exact absurd z (by decide)
      by_cases qc : gi G 20 (y 3 0) = 0
      · refine iT (by rw [e73]; exact qc) ⟨hs.k 1 0, iT (by rw [e73]; exact qc) ?_⟩
        have en : np' = np := by rcases hnp' with e | ⟨-, e, -⟩; exact e; exact absurd qc e
        refine done B2 (fun _ _ _ => rfl) (by rw [e74, en]) (fun _ _ => rfl) (fun _ _ => rfl) (fun _ _ => rfl) (fun _ => rfl) (fun _ => rfl) (fun k hk => ?_)
        rw [if_pos qc, f2, f1]
        show ai A3 (y 30 70) k = _
        rw [a3, mA 70 rfl]
      · refine iF (by rw [e73]; exact qc) ?_
        refine M_copy (m := B2) (a := y 30 72) (b := y 30 70) (K := w_M_restart_58 t (y 1 0) (fun G2 r2 => (1 : Int32) = r2 ∧ InvW t (y 0 0) (y 1 0) (j + 5) G2)) (w := w_M_restart_33 t (y 1 0) (fun G2 r2 => (1 : Int32) = r2 ∧ InvW t (y 0 0) (y 1 0) (j + 5) G2)) (hs.ne (by omega)) (fun n G' _ hk => ?_) (fun n i G' hi hg hk => ?_) ?_
        · unfold w_M_restart_33
          exact iT (by decide) hk
        · refine iF (show ¬ nI 1743 ≤ nI i from nI_ge hi (by decide)) ⟨hs.k 1 0, y 30 72, by rw [hg]; exact hzB.m 72, hs.k 30 72, by rw [hs.n 30 72]; exact vp_lt (N := 1743) hi, y 30 70, by rw [hg]; exact hzB.m 70, hs.k 30 70, by rw [hs.n 30 70]; exact vp_lt (N := 1743) hi, ?_⟩
          intro G3 e v hv
          subst e hv
          rw [nI_clamp (by omega)]
          exact hk
        · refine ⟨hs.k 1 0, iF (show ¬ gi B2 73 (y 1 0) = 0 by rw [e73]; exact qc) ?_⟩
          have c72 : ai B2 (y 30 72) = ai G (y 30 72) := by rw [f2, f1]; show ai A3 (y 30 72) = _; rw [a3, mA 72 rfl]
          have c70 : ∀ k, k < 1743 → ai (aw B2 (y 30 70) (mix (ai B2 (y 30 72)) (ai B2 (y 30 70)) 1743)) (y 30 70) k = ai G (y 30 72) k := fun k hk => by
            rw [aw_at]; show (if k < 1743 then _ else _) = _; rw [if_pos hk, c72]
          have hT2 : TrR t y G2 (ai (aw B2 (y 30 70) (mix (ai B2 (y 30 72)) (ai B2 (y 30 70)) 1743)) (y 30 70)) n' r' s' np' := by
            rw [if_neg qc] at hT'
            exact hT'.cells c70
          have hbnd : np' < 2 ^ 31 := by rcases hnp' with rfl | ⟨rfl, -⟩ <;> omega
          refine M_count (m := aw B2 (y 30 70) (mix (ai B2 (y 30 72)) (ai B2 (y 30 70)) 1743)) (q0 := np - 1) (B := np' - 1) (P := fun k => (ai (aw B2 (y 30 70) (mix (ai B2 (y 30 72)) (ai B2 (y 30 70)) 1743)) (y 30 70) (83 * k + 1)).toNatClampNeg) hs (hzB.to hs (sZ.of (fun _ _ => rfl) (fun _ => rfl))) e74 (by rcases hnp' with rfl | ⟨rfl, -⟩ <;> omega) (by omega) (fun k hk ht => ?_) ?_ ?_
          · obtain ⟨jj, hjj, rfl⟩ := hT2.slot hk ht
            obtain ⟨p, p1, p2, -⟩ := hT2.pth hjj
            have := (hT2.nd hjj).2.2.2.1
            rw [this, p2, nI_clamp (by omega)]
            exact ⟨rfl, by omega⟩
          · rcases hnp' with rfl | ⟨rfl, -, jj, hjj, ep⟩
            · exact Or.inl rfl
            · right
              obtain ⟨x1, -, x3⟩ := hT2.nd hjj
              refine ⟨s' jj, x1, x3.1, ?_⟩
              show (ai _ (y 30 70) (83 * s' jj + 1)).toNatClampNeg = _
              rw [x3.2.1, ep, nI_clamp (by omega)]
              omega
          · refine done _ (fun f a hf' => gi_ne hf') gi_at (fun _ _ => rfl) (fun _ _ => rfl) (fun b hb => aw_ne hb) (fun _ => rfl) (fun _ => rfl) (fun k hk => ?_)
            rw [if_neg qc]
            exact c70 k hk
    by_cases qc : gi G 20 (y 3 0) = 0
    · refine iT qc (fin G n r s np ⟨fun _ _ _ => ⟨rfl, rfl⟩, fun _ _ => rfl, fun _ => rfl, fun _ _ => rfl, fun _ => ⟨rfl, rfl, rfl, rfl⟩, fun _ _ => rfl⟩ (by rw [if_pos qc]; exact hT) (Or.inl rfl))
    · refine iF qc ⟨y 4 0, hz.1.2.2.1, hs.k 4 0, y 2 0, hz.1.1, ?_⟩
      have q20 : gi G 20 (y 3 0) = 1 := by rcases s5 with z | z; exact absurd z qc; exact z
      obtain ⟨nq, hSt⟩ := hS q1 q20
      obtain ⟨G2, hR, run⟩ := hSt G agC.rf hz
      refine run _ ?_
      obtain ⟨hf, n', r', s', a, b, -⟩ := hR
      exact fin G2 n' r' s' nq hf (by rw [if_neg qc]; exact a) (by rcases b with b | ⟨b1, b2⟩; exact Or.inl b; exact Or.inr ⟨b1, qc, b2⟩)
end RST
