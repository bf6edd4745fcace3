/-! going down (by hand) -/
theorem nb0 : vp_nar .boolean (0 : Int32) = 0 := by decide
theorem nb1 : vp_nar .boolean (1 : Int32) = 1 := by decide
section DOWN
variable {t : TY} {y : LYT} {G m : GS}
/-- the fids' marks of one connection cleared, the first i of them -/
def fzU (U : Nat → Int32) (c i : Nat) : Nat → Int32 := fun k => if 6 * c ≤ k ∧ k < 6 * c + i then 0 else U k
/-- fresh -/
def frM (y : LYT) (m : GS) (c : Nat) : GS := aw (ais (ais (ais (ais (ais m (y 30 80) c 0) (y 30 82) c 0) (y 30 83) c 128) (y 30 84) c 0) (y 30 85) c 0) (y 30 86) (fzU (ai m (y 30 86)) c 6)
theorem M_fresh (hs : SH t y) (hz : FZ y m) {c : Nat} (hc : c < 2) {K : GS → Prop} (k : K (frM y m c)) : w_M_fresh t m (y 1 0) (nI c) K := by
  have cl : (nI c).toNatClampNeg = c := nI_clamp (by omega)
  refine ⟨hs.k 1 0, y 30 80, hz.m 80, hs.k 30 80, by rw [hs.n 30 80]; exact vp_lt hc, ?_⟩
  intro G2 e2
  rw [cl] at e2
  refine ⟨y 30 82, by rw [e2]; exact hz.m 82, hs.k 30 82, by rw [hs.n 30 82]; exact vp_lt hc, ?_⟩
  intro G4 e4
  rw [cl] at e4
  refine ⟨y 30 83, by rw [e4, e2]; exact hz.m 83, hs.k 30 83, by rw [hs.n 30 83]; exact vp_lt hc, ?_⟩
  intro G6 e6
  rw [cl] at e6
  refine ⟨y 30 84, by rw [e6, e4, e2]; exact hz.m 84, hs.k 30 84, by rw [hs.n 30 84]; exact vp_lt hc, ?_⟩
  intro G8 e8
  rw [cl, nb0] at e8
  refine ⟨y 30 85, by rw [e8, e6, e4, e2]; exact hz.m 85, hs.k 30 85, by rw [hs.n 30 85]; exact vp_lt hc, ?_⟩
  intro G10 e10 v11 e11
  rw [cl, nb0] at e10
  have e6c : (6 : Int32) * nI c = nI (6 * c) := by rw [show (6 : Int32) = nI 6 from rfl, pk_mul]
  have e12 : (6 : Int32) * nI c + 6 = nI (6 * c + 6) := by rw [e6c, show (6 : Int32) = nI 6 from rfl, nI_add]
  rw [e6c] at e11
  subst e2 e4 e6 e8 e11
  have u86 : ai G10 (y 30 86) = ai m (y 30 86) := by
    rw [e10, ai_nb (hs.ne (by omega)), ai_nb (hs.ne (by omega)), ai_nb (hs.ne (by omega)), ai_nb (hs.ne (by omega)), ai_nb (hs.ne (by omega))]
  have key := pk_loop (fun q i (_ : Unit) => w_M_fresh_42 t (y 1 0) K q (nI c) (nI (6 * c + i)) (aw G10 (y 30 86) (fzU (ai m (y 30 86)) c i))) (fun _ _ => True) 6 0 () (by omega) trivial (fun q _ _ => ?_) (fun q i _ hi _ ih => ?_)
  · obtain ⟨q, hq⟩ := key
    refine ⟨q, ?_⟩
    have hq : w_M_fresh_42 t (y 1 0) K q (nI c) (nI (6 * c + 0)) (aw G10 (y 30 86) (fzU (ai m (y 30 86)) c 0)) := hq
    have e : fzU (ai m (y 30 86)) c 0 = ai G10 (y 30 86) := by rw [u86]; exact funext fun k => if_neg (by omega)
    rw [e, aw_self] at hq
    exact hq
  · refine iT (by rw [e12]; exact Int32.le_refl _) ?_
    rw [e10]
    exact k
  · refine iF (by rw [e12]; exact nI_ge (by omega) (by omega)) ⟨hs.k 1 0, y 30 86, by rw [e10]; exact hz.m 86, hs.k 30 86, by rw [hs.n 30 86]; exact vp_lt (N := 12) (by omega), ?_⟩
    intro G2 e2 v3 e3
    rw [nI_clamp (by omega), nb0, aw_ais] at e2
    subst e2 e3
    have e : (fun k => if k = 6 * c + i then (0 : Int32) else fzU (ai m (y 30 86)) c i k) = fzU (ai m (y 30 86)) c (i + 1) := funext fun k => by
      unfold fzU
      by_cases z : k = 6 * c + i
      · rw [if_pos z, if_pos (by omega)]
      · rw [if_neg z]
        by_cases z2 : 6 * c ≤ k ∧ k < 6 * c + i
        · rw [if_pos z2, if_pos (by omega)]
        · rw [if_neg z2, if_neg (by omega)]
    rw [e, nI_1]
    exact ih () trivial
/-- what fresh leaves alone, and what it sets -/
theorem frM_o (hs : SH t y) {c b : Nat} (h : ∀ f, f = 80 ∨ f = 82 ∨ f = 83 ∨ f = 84 ∨ f = 85 ∨ f = 86 → b ≠ y 30 f) : ai (frM y m c) b = ai m b := by
  unfold frM
  rw [aw_ne (h 86 (by omega)), ai_nb (h 85 (by omega)), ai_nb (h 84 (by omega)), ai_nb (h 83 (by omega)), ai_nb (h 82 (by omega)), ai_nb (h 80 (by omega))]
theorem frM_86 {c : Nat} : ai (frM y m c) (y 30 86) = fzU (ai m (y 30 86)) c 6 := aw_at
theorem frM_c (hs : SH t y) {c c' : Nat} : (ai (frM y m c) (y 30 80) c' = if c' = c then 0 else ai m (y 30 80) c') ∧ (ai (frM y m c) (y 30 82) c' = if c' = c then 0 else ai m (y 30 82) c') ∧ (ai (frM y m c) (y 30 83) c' = if c' = c then 128 else ai m (y 30 83) c') ∧ (ai (frM y m c) (y 30 84) c' = if c' = c then 0 else ai m (y 30 84) c') ∧ (ai (frM y m c) (y 30 85) c' = if c' = c then 0 else ai m (y 30 85) c') := by
  have at_ : ∀ (G : GS) (a : Nat) (x : Int32), ai (ais G a c x) a c' = if c' = c then x else ai G a c' := fun G a x => by
    by_cases q : c' = c
    · subst q; rw [ai_at, if_pos rfl]
    · rw [ai_nj q, if_neg q]
  unfold frM
  refine ⟨?_, ?_, ?_, ?_, ?_⟩
  · rw [aw_ne (hs.ne (by omega)), ai_nb (hs.ne (by omega)), ai_nb (hs.ne (by omega)), ai_nb (hs.ne (by omega)), ai_nb (hs.ne (by omega)), at_]
  · rw [aw_ne (hs.ne (by omega)), ai_nb (hs.ne (by omega)), ai_nb (hs.ne (by omega)), ai_nb (hs.ne (by omega)), at_, ai_nb (hs.ne (by omega))]
  · rw [aw_ne (hs.ne (by omega)), ai_nb (hs.ne (by omega)), ai_nb (hs.ne (by omega)), at_, ai_nb (hs.ne (by omega)), ai_nb (hs.ne (by omega))]
  · rw [aw_ne (hs.ne (by omega)), ai_nb (hs.ne (by omega)), at_, ai_nb (hs.ne (by omega)), ai_nb (hs.ne (by omega)), ai_nb (hs.ne (by omega))]
  · rw [aw_ne (hs.ne (by omega)), at_, ai_nb (hs.ne (by omega)), ai_nb (hs.ne (by omega)), ai_nb (hs.ne (by omega)), ai_nb (hs.ne (by omega))]
/-- the class: reset -/
def rsF (y : LYT) (c : Nat) (G : GS) : Nat → GS
  | 0 => G
  | i + 1 => si (rsF y c G i) 46 (y 14 (6 * c + i)) 0
def rsL (y : LYT) (G : GS) (c : Nat) : GS := rsF y c (si (si (si (si (si G 56 (y 10 c) 0) 58 (y 10 c) 0) 59 (y 10 c) 128) 60 (y 10 c) 0) 61 (y 10 c) 0) 6
theorem rsF_r {c : Nat} : ∀ {i : Nat}, (∀ f a, gr (rsF y c G i) f a = gr G f a) ∧ (∀ f a, gl (rsF y c G i) f a = gl G f a) ∧ (∀ b, ai (rsF y c G i) b = ai G b) ∧ (∀ b, al (rsF y c G i) b = al G b) ∧ (∀ b, ar (rsF y c G i) b = ar G b)
  | 0 => ⟨fun _ _ => rfl, fun _ _ => rfl, fun _ => rfl, fun _ => rfl, fun _ => rfl⟩
  | i + 1 => by
    obtain ⟨a, b, c', d, e⟩ := @rsF_r c i
    exact ⟨fun f x => a f x, fun f x => b f x, fun x => c' x, fun x => d x, fun x => e x⟩
theorem rsF_o {c f a : Nat} (h : f ≠ 46) : ∀ {i : Nat}, gi (rsF y c G i) f a = gi G f a
  | 0 => rfl
  | i + 1 => (gi_ne h).trans (rsF_o h)
theorem rsF_n {c f a : Nat} : ∀ {i : Nat}, (∀ k, k < i → a ≠ y 14 (6 * c + k)) → gi (rsF y c G i) f a = gi G f a
  | 0, _ => rfl
  | i + 1, h => (gi_na (h i (by omega))).trans (rsF_n (fun k hk => h k (by omega)))
theorem rsF_i {c : Nat} : ∀ {i k : Nat}, k < i → gi (rsF y c G i) 46 (y 14 (6 * c + k)) = 0
  | i + 1, k, h => by
    by_cases q : y 14 (6 * c + k) = y 14 (6 * c + i)
    · show gi (si _ 46 (y 14 (6 * c + i)) 0) 46 (y 14 (6 * c + k)) = 0
      rw [q, gi_at]
    · show gi (si _ 46 (y 14 (6 * c + i)) 0) 46 (y 14 (6 * c + k)) = 0
      rw [gi_na q]
      exact rsF_i (by
        by_cases z : k = i
        · subst z; exact absurd rfl q
        · omega)
theorem S_reset (hs : SH t y) (hz : FZ y G) {c : Nat} (hc : c < 2) {K : GS → Prop} (k : K (rsL y G c)) : w_Link_reset t G (y 10 c) K := by
  have hv : yV 10 c = true := by simp [yV, hc]
  have hv13 : yV 13 c = true := by simp [yV, hc]
  refine ⟨hs.k 10 c hv, ?_⟩
  intro G1 e1 G2 e2 G3 e3 G4 e4 G5 e5
  subst e1 e2 e3 e4
  refine pk_loop (fun q i (_ : Unit) => w_Link_reset_29 t (y 10 c) K q (nI i) (rsF y c G5 i)) (fun _ _ => True) 6 0 () (by omega) trivial (fun q _ _ => ?_) (fun q i _ hi _ ih => ?_)
  · show w_Link_reset_29 t (y 10 c) K (q + 1) (nI 6) (rsF y c G5 6)
    unfold w_Link_reset_29
    refine iT (show (6 : Int32) ≤ nI 6 by decide) ?_
    rw [e5]; exact k
  · have hvk : yV 14 (6 * c + i) = true := by simp [yV]; omega
    refine iF (show ¬ nI 6 ≤ nI i from nI_ge hi (by decide)) ⟨hs.k 10 c hv, y 13 c, by rw [rsF_r.1, e5]; exact (hz.2.2.2.2.1 c hc).2.2.1, hs.k 13 c hv13, by rw [hs.n 13 c hv13]; exact vp_lt (N := 6) hi, y 14 (6 * c + i), by rw [nI_clamp (by omega), rsF_r.2.2.2.2, e5]; exact (hz.2.2.2.2.1 c hc).2.2.2.2 i hi, hs.k 14 _ hvk, ?_⟩
    intro G3 e3 v4 e4
    subst e3 e4
    rw [nI_1]
    exact ih () trivial
/-- what reset leaves alone, and what it sets -/
theorem rsL_r {c : Nat} : (∀ f a, gr (rsL y G c) f a = gr G f a) ∧ (∀ f a, gl (rsL y G c) f a = gl G f a) ∧ (∀ b, ai (rsL y G c) b = ai G b) ∧ (∀ b, al (rsL y G c) b = al G b) ∧ (∀ b, ar (rsL y G c) b = ar G b) := by
  obtain ⟨a, b, c', d, e⟩ := @rsF_r y (si (si (si (si (si G 56 (y 10 c) 0) 58 (y 10 c) 0) 59 (y 10 c) 128) 60 (y 10 c) 0) 61 (y 10 c) 0) c 6
  exact ⟨fun f x => a f x, fun f x => b f x, fun x => c' x, fun x => d x, fun x => e x⟩
theorem rsL_o {c f a : Nat} (h : f ≠ 46) (h2 : (f < 56 ∨ f = 57 ∨ 61 < f) ∨ a ≠ y 10 c) : gi (rsL y G c) f a = gi G f a := by
  unfold rsL
  rw [rsF_o h]
  rcases h2 with h2 | h2
  · rw [gi_ne (by omega), gi_ne (by omega), gi_ne (by omega), gi_ne (by omega), gi_ne (by omega)]
  · rw [gi_na h2, gi_na h2, gi_na h2, gi_na h2, gi_na h2]
theorem rsL_46 {c a : Nat} (h : ∀ k, k < 6 → a ≠ y 14 (6 * c + k)) : gi (rsL y G c) 46 a = gi G 46 a := by
  unfold rsL
  rw [rsF_n h, gi_ne (by omega), gi_ne (by omega), gi_ne (by omega), gi_ne (by omega), gi_ne (by omega)]
theorem rsL_u {c k : Nat} (h : k < 6) : gi (rsL y G c) 46 (y 14 (6 * c + k)) = 0 := rsF_i h
theorem rsL_c {c : Nat} : gi (rsL y G c) 56 (y 10 c) = 0 ∧ gi (rsL y G c) 58 (y 10 c) = 0 ∧ gi (rsL y G c) 59 (y 10 c) = 128 ∧ gi (rsL y G c) 60 (y 10 c) = 0 ∧ gi (rsL y G c) 61 (y 10 c) = 0 := by
  unfold rsL
  refine ⟨?_, ?_, ?_, ?_, ?_⟩
  · rw [rsF_o (by omega), gi_ne (by omega), gi_ne (by omega), gi_ne (by omega), gi_ne (by omega), gi_at]
  · rw [rsF_o (by omega), gi_ne (by omega), gi_ne (by omega), gi_ne (by omega), gi_at]
  · rw [rsF_o (by omega), gi_ne (by omega), gi_ne (by omega), gi_at]
  · rw [rsF_o (by omega), gi_ne (by omega), gi_at]
  · rw [rsF_o (by omega), gi_at]
theorem FZ.rs (hs : SH t y) (hz : FZ y G) {c : Nat} : FZ y (rsL y G c) := hz.to hs (sZ.of rsL_r.1 rsL_r.2.2.2.2)
theorem S_goDown (hs : SH t y) (hz : FZ y G) {K : GS → Prop} (k : K (rsL y (rsL y G 0) 1)) : w_S_goDown t G (y 0 0) K := by
  refine ⟨3, ?_⟩
  have step : ∀ (G' : GS) (c q : Nat), c < 2 → FZ y G' → w_S_goDown_2 t (y 0 0) K q (nI c + 1) (rsL y G' c) → w_S_goDown_2 t (y 0 0) K (q + 1) (nI c) G' := fun G' c q hc hz' h => by
    refine iF (show ¬ nI 2 ≤ nI c from nI_ge hc (by decide)) ⟨hs.k 0 0, y 15 0, hz'.1.2.2.2.2.2, hs.k 15 0, by rw [hs.n 15 0]; exact vp_lt (N := 2) hc, y 10 c, by rw [nI_clamp (by omega)]; exact (hz'.2.2.2.2.1 c hc).2.2.2.1, hs.k 10 c (by simp [yV, hc]), S_reset hs hz' hc ?_⟩
    intro v hv; subst hv; exact h
  refine step G 0 2 (by omega) hz (step _ 1 1 (by omega) (hz.rs hs) ?_)
  unfold w_S_goDown_2
  exact iT (by decide) k
end DOWN
