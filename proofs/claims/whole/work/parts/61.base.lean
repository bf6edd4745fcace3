/-! what a handler starts from, and what it comes to (by hand) -/
/-- a message is being handled -/
def Pre (t : TY) (y : LYT) (b c z : Nat) (f : Nat → Nat) (G m : GS) : Prop := InvY t y b G m ∧ c < 2 ∧ gi G 19 (y 3 0) = 1 ∧ MsF z f ∧ MsC y G z f ∧ MsM y m z f ∧ gi G 38 (y 8 0) = nI (f 4) ∧ gl m 98 (y 1 0) = 0 ∧ gi G 45 (y 9 0) = nI 7 ∧ gi m 97 (y 1 0) = nI 7 ∧ wfm f z ∧ (txH f → TxC y G f (txP f) (txN f)) ∧ b < 2 ^ 20
/-- what comes of it: both down, or an answer or error alike -/
def HR (t : TY) (y : LYT) (b c : Nat) (G m : GS) (F : (GS → Option Nat → Prop) → Prop) (H : (GS → Prop) → Prop) : Prop := ∃ G' m' j, j < 29 ∧ InvY t y b G' m' ∧ eS y G G' ∧ (∀ K : GS → Option Nat → Prop, K G' (some (tks t j)) → F K) ∧ (∀ K : GS → Prop, K m' → H K) ∧ (gi G' 19 (y 3 0) = 1 →
  (∀ k, 4 ≤ k → k < 7 → ai G' (y 22 0) k = ai G (y 22 0) k) ∧ ai m' (y 30 94) = ai m (y 30 94) ∧ gl m' 98 (y 1 0) = lN (er j) ∧ gi G' 56 (y 10 c) = gi G 56 (y 10 c) ∧ (gi G' 58 (y 10 c), gi G' 61 (y 10 c)) = (gi G 58 (y 10 c), gi G 61 (y 10 c))
  ∧ (j = 2 → ∃ l, 7 ≤ l ∧ l ≤ 128 ∧ gi G' 45 (y 9 0) = nI l ∧ gi m' 97 (y 1 0) = nI l ∧ ∀ k, 7 ≤ k → k < l → ∃ v, v < 256 ∧ ai G' (y 22 0) k = sb v ∧ ai m' (y 30 96) k = nI v))
section BASE
variable {t : TY} {y : LYT} {b b' c z : Nat} {f : Nat → Nat} {G m G1 m1 : GS} {F F1 : (GS → Option Nat → Prop) → Prop} {H H1 : (GS → Prop) → Prop}
theorem Pre.i (h : Pre t y b c z f G m) : InvY t y b G m := h.1
theorem Pre.s (h : Pre t y b c z f G m) : SH t y := h.1.1
theorem Pre.g (h : Pre t y b c z f G m) : FZ y G := h.1.2.1
theorem Pre.hm (h : Pre t y b c z f G m) : FZ y m := h.1.2.2.1
theorem Pre.hc (h : Pre t y b c z f G m) : c < 2 := h.2.1
theorem Pre.r (h : Pre t y b c z f G m) : gi G 19 (y 3 0) = 1 := h.2.2.1
theorem Pre.hf (h : Pre t y b c z f G m) : MsF z f := h.2.2.2.1
theorem Pre.mc (h : Pre t y b c z f G m) : MsC y G z f := h.2.2.2.2.1
theorem Pre.mm (h : Pre t y b c z f G m) : MsM y m z f := h.2.2.2.2.2.1
theorem Pre.ty (h : Pre t y b c z f G m) : gi G 38 (y 8 0) = nI (f 4) := h.2.2.2.2.2.2.1
theorem Pre.e (h : Pre t y b c z f G m) : gl m 98 (y 1 0) = 0 := h.2.2.2.2.2.2.2.1
theorem Pre.lc (h : Pre t y b c z f G m) : gi G 45 (y 9 0) = nI 7 := h.2.2.2.2.2.2.2.2.1
theorem Pre.lm (h : Pre t y b c z f G m) : gi m 97 (y 1 0) = nI 7 := h.2.2.2.2.2.2.2.2.2.1
theorem Pre.w (h : Pre t y b c z f G m) : wfm f z := h.2.2.2.2.2.2.2.2.2.2.1
theorem Pre.x (h : Pre t y b c z f G m) : txH f → TxC y G f (txP f) (txN f) := h.2.2.2.2.2.2.2.2.2.2.2.1
theorem Pre.hb (h : Pre t y b c z f G m) : b < 2 ^ 20 := h.2.2.2.2.2.2.2.2.2.2.2.2
theorem Pre.up (h : Pre t y b c z f G m) : gi m 75 (y 1 0) = 0 := by
  obtain ⟨-, -, -, -, -, s6⟩ := h.1.2.2.2.1
  rcases s6 with ⟨-, q, -⟩ | ⟨q, -⟩
  · exact q
  · rw [h.r] at q; exact absurd q (by decide)
theorem MsM.k (h : MsM y m z f) (k : kM y m m1) : MsM y m1 z f := ⟨((k.1 95 (by omega)).1).trans h.1, fun i hi => by rw [k.2.1]; exact h.2 i hi⟩
theorem MsC.k (h : MsC y G z f) (k : kC y G G1) : MsC y G1 z f := h.x (k.1 37 _ (by omega) (by omega)) (k.2.1 19 (by omega) (by omega))
theorem TxC.k {p n : Nat} (h : TxC y G f p n) (k : kC y G G1) : TxC y G1 f p n := by
  unfold TxC
  rw [k.2.1 20 (by omega) (by omega), k.2.1 21 (by omega) (by omega), k.1 42 _ (by omega) (by omega), k.1 43 _ (by omega) (by omega)]
  exact h
theorem Pre.to (h : Pre t y b c z f G m) (hi : InvY t y b' G1 m1) (hr : gi G1 19 (y 3 0) = 1) (k : kC y G G1) (q : kM y m m1) (hb : b' < 2 ^ 20) : Pre t y b' c z f G1 m1 := ⟨hi, h.hc, hr, h.hf, h.mc.k k, h.mm.k q, (k.1 38 _ (by omega) (by omega)).trans h.ty, ((q.1 98 (by omega)).2).trans h.e, (k.1 45 _ (by omega) (by omega)).trans h.lc, ((q.1 97 (by omega)).1).trans h.lm, h.w, fun x => (h.x x).k k, hb⟩
/-- the reference keeps who it is -/
theorem Pre.who (h : Pre t y b c z f G m) {v : Int32} : Pre t y b c z f G (si m 99 (y 1 0) v) := ⟨h.i.x xC.rf (xM.rf.si (f := 99)), h.hc, h.r, h.hf, h.mc, ⟨(gi_ne (by omega)).trans h.mm.1, h.mm.2⟩, h.ty, h.e, h.lc, (gi_ne (by omega)).trans h.lm, h.w, h.x, h.hb⟩
theorem HR.up (h : HR t y b c G m F H) (hb : b ≤ b') : HR t y b' c G m F H := by
  obtain ⟨G', m', j, hj, hi, r⟩ := h
  exact ⟨G', m', j, hj, hi.up hb, r⟩
theorem HR.mono (h : HR t y b c G m F1 H1) (hF : ∀ K, F1 K → F K) (hH : ∀ K, H1 K → H K) : HR t y b c G m F H := by
  obtain ⟨G', m', j, hj, hi, he, r1, r2, r⟩ := h
  exact ⟨G', m', j, hj, hi, he, fun K k => hF K (r1 K k), fun K k => hH K (r2 K k), r⟩
theorem HR.step (h : HR t y b c G1 m1 F1 H1) (hc : c < 2) (e : eS y G G1) (k : kC y G G1) (q : kM y m m1) (hF : ∀ K, F1 K → F K) (hH : ∀ K, H1 K → H K) : HR t y b c G m F H := by
  obtain ⟨G', m', j, hj, hi, he, r1, r2, r⟩ := h
  refine ⟨G', m', j, hj, hi, e.tr he, fun K k => hF K (r1 K k), fun K k => hH K (r2 K k), fun z => ?_⟩
  obtain ⟨a1, a2, a3, a4, a5, a6⟩ := r z
  exact ⟨fun i h1 h2 => by rw [a1 i h1 h2, k.2.1 22 (by omega) (by omega)], a2.trans q.2.1, a3, a4.trans (k.2.2 c hc).1, a5.trans (k.2.2 c hc).2, a6⟩
/-- the reference looks at who it is first -/
theorem HR.who {v : Int32} (h : HR t y b c G (si m 99 (y 1 0) v) F H) : HR t y b c G m F H := by
  obtain ⟨G', m', j, hj, hi, he, r1, r2, r⟩ := h
  exact ⟨G', m', j, hj, hi, he, r1, r2, r⟩
/-- both go down -/
theorem HR.down {j : Nat} (hj : j < 29) (hi : InvY t y b G1 m1) (e : eS y G G1) (h0 : gi G1 19 (y 3 0) = 0) (hF : ∀ K : GS → Option Nat → Prop, K G1 (some (tks t j)) → F K) (hH : ∀ K : GS → Prop, K m1 → H K) : HR t y b c G m F H := ⟨G1, m1, j, hj, hi, e, hF, hH, fun z => by rw [h0] at z; exact absurd z (by decide)⟩
/-- an error -/
theorem HR.err (P : Pre t y b c z f G m) {j : Nat} (hj : j < 29) (h2 : j ≠ 2) (x : xC y G G1) (h4 : ∀ k, 4 ≤ k → k < 7 → ai G1 (y 22 0) k = ai G (y 22 0) k) (w : xM y m m1) (hm : ai m1 (y 30 94) = ai m (y 30 94)) (he : gl m1 98 (y 1 0) = lN (er j)) (hF : ∀ K : GS → Option Nat → Prop, K G1 (some (tks t j)) → F K) (hH : ∀ K : GS → Prop, K m1 → H K) : HR t y b c G m F H := ⟨G1, m1, j, hj, P.i.x x w, x.eS P.s, hF, hH, fun _ => ⟨h4, hm, he, x.1 56 _ (by omega), p58 (x.1 58 _ (by omega)) (x.1 61 _ (by omega)), fun q => absurd q h2⟩⟩
theorem HR.er0 (P : Pre t y b c z f G m) {j : Nat} (hj : j < 29) (h2 : j ≠ 2) (hF : ∀ K : GS → Option Nat → Prop, K G (some (tks t j)) → F K) (hH : ∀ K : GS → Prop, K (sl m 98 (y 1 0) (lN (er j))) → H K) : HR t y b c G m F H := HR.err P hj h2 xC.rf (fun _ _ _ => rfl) (xM.rf.sl (f := 98)) rfl gl_at hF hH
/-- an answer -/
theorem HR.pw (P : Pre t y b c z f G m) {n : Nat} {u v : GS → (GS → Prop) → Prop} (p : Pw y G m n u v) (hn : n ≤ 121) (hF : ∀ K : GS → Option Nat → Prop, u G (fun X => K X (some (tks t 2))) → F K) (hH : ∀ K : GS → Prop, v m K → H K) : HR t y b c G m F H := by
  obtain ⟨A, B, p1, p2, p3, p4⟩ := p (ai G (y 22 0)) (ai m (y 30 96)) 7 (by omega)
  rw [cP_self P.lc] at p3
  rw [mP_self P.lm] at p4
  refine ⟨cP y G A (7 + n), mP y m B (7 + n), 2, by omega, P.i.x xC.rf.cP xM.rf.mP, (xC.rf.cP).eS P.s, fun K k => hF K (p3 _ k), fun K k => hH K (p4 _ k), fun _ => ⟨fun k h1 h2 => by rw [cP_A]; exact (p1 k h2).1, mP_a (P.s.ne (by omega)), P.e, cP_i (by omega), p58 (cP_i (by omega)) (cP_i (by omega)), fun _ => ⟨7 + n, by omega, by omega, cP_l, mP_l, fun k h1 h2 => ?_⟩⟩⟩
  rw [cP_A, mP_A]
  exact p2 k h1 h2
theorem HR.ok (P : Pre t y b c z f G m) (hF : ∀ K : GS → Option Nat → Prop, K G (some (tks t 2)) → F K) (hH : ∀ K : GS → Prop, K m → H K) : HR t y b c G m F H := ⟨G, m, 2, by omega, P.i, eS.rf, hF, hH, fun _ => ⟨fun _ _ _ => rfl, rfl, P.e, rfl, rfl, fun _ => ⟨7, by omega, by omega, P.lc, P.lm, fun k h1 h2 => by omega⟩⟩⟩
/-- numbers of the message -/
theorem Pre.num (P : Pre t y b c z f G m) {p n : Nat} (hp : p + n < 2 ^ 31) (hn : n ≤ 8) {K : Int64 → Prop} (k : K (lN (nm f p n))) : w_Message_number t G (y 8 0) (nI p) (nI n) K := S_number P.s P.g P.hf P.mc hp hn k
theorem Pre.get (P : Pre t y b c z f G m) {p n : Nat} (hp : p + n ≤ z) (hn : n ≤ 8) {K : Int64 → Prop} (k : K (lN (nm f p n))) : w_M_get t m (y 1 0) (nI p) (nI n) K := M_get P.s P.hm P.hf P.mm hp hn k
end BASE
/-! fids by their number (by hand) -/
section FIDS
variable {t : TY} {y : LYT} {G m : GS}
theorem S_findY (hs : SH t y) (hz : FZ y G) {c i : Nat} {v : Int64} (hc : c < 2) (hi : i < 6) (hl : ∀ k, k < i → gi G 46 (y 14 (6 * c + k)) = 0 ∨ ¬ gl G 47 (y 14 (6 * c + k)) = v) (hu : ¬ gi G 46 (y 14 (6 * c + i)) = 0) (hv : gl G 47 (y 14 (6 * c + i)) = v) {K : Option Nat → Prop} (k : K (some (y 14 (6 * c + i)))) : w_Link_find t G (y 10 c) v K := by
  have hv10 : yV 10 c = true := by simp [yV, hc]
  have hv13 : yV 13 c = true := by simp [yV, hc]
  have ar_ : ∀ q, q < 6 → ar G (y 13 c) (nI q).toNatClampNeg = some (y 14 (6 * c + q)) := fun q hq => by rw [nI_clamp (by omega)]; exact (hz.2.2.2.2.1 c hc).2.2.2.2 q hq
  refine pk_loop (fun q i (_ : Unit) => w_Link_find_2 t G (y 10 c) K q v (nI i)) (fun _ _ => True) i 0 () (by omega) trivial (fun q _ _ => ?_) (fun q j _ hj _ ih => ?_)
  · refine iF (show ¬ nI 6 ≤ nI i from nI_ge hi (by decide)) ⟨hs.k 10 c hv10, y 13 c, (hz.2.2.2.2.1 c hc).2.2.1, hs.k 13 c hv13, by rw [hs.n 13 c hv13]; exact vp_lt (N := 6) hi, y 14 (6 * c + i), ar_ i hi, hs.k 14 _ (by simp [yV]; omega), iF hu (iF (fun n => n hv) ?_)⟩
    rw [ar_ i hi]; exact k
  · have ih := ih () trivial
    refine iF (show ¬ nI 6 ≤ nI j from nI_ge (by omega) (by decide)) ⟨hs.k 10 c hv10, y 13 c, (hz.2.2.2.2.1 c hc).2.2.1, hs.k 13 c hv13, by rw [hs.n 13 c hv13]; exact vp_lt (N := 6) (by omega), y 14 (6 * c + j), ar_ j (by omega), hs.k 14 _ (by simp [yV]; omega), iS ⟨fun u => ?_, fun u => iT (by rcases hl j hj with z | z; exact absurd z u; exact z) ?_⟩⟩
    · intro w hw; subst hw; rw [nI_1]; exact ih
    · intro w hw; subst hw; rw [nI_1]; exact ih
theorem S_findN (hs : SH t y) (hz : FZ y G) {c : Nat} {v : Int64} (hc : c < 2) (hl : ∀ k, k < 6 → gi G 46 (y 14 (6 * c + k)) = 0 ∨ ¬ gl G 47 (y 14 (6 * c + k)) = v) {K : Option Nat → Prop} (k : K none) : w_Link_find t G (y 10 c) v K := by
  have hv10 : yV 10 c = true := by simp [yV, hc]
  have hv13 : yV 13 c = true := by simp [yV, hc]
  refine pk_loop (fun q i (_ : Unit) => w_Link_find_2 t G (y 10 c) K q v (nI i)) (fun _ _ => True) 6 0 () (by omega) trivial (fun q _ _ => ?_) (fun q j _ hj _ ih => ?_)
  · show w_Link_find_2 t G (y 10 c) K (q + 1) v (nI 6)
    unfold w_Link_find_2
    exact iT (show (6 : Int32) ≤ nI 6 by decide) k
  · have ih := ih () trivial
    refine iF (show ¬ nI 6 ≤ nI j from nI_ge (by omega) (by decide)) ⟨hs.k 10 c hv10, y 13 c, (hz.2.2.2.2.1 c hc).2.2.1, hs.k 13 c hv13, by rw [hs.n 13 c hv13]; exact vp_lt (N := 6) (by omega), y 14 (6 * c + j), by rw [nI_clamp (by omega)]; exact (hz.2.2.2.2.1 c hc).2.2.2.2 j hj, hs.k 14 _ (by simp [yV]; omega), iS ⟨fun u => ?_, fun u => iT (by rcases hl j hj with z | z; exact absurd z u; exact z) ?_⟩⟩
    · intro w hw; subst hw; rw [nI_1]; exact ih
    · intro w hw; subst hw; rw [nI_1]; exact ih
theorem e6c (c : Nat) : (6 : Int32) * nI c = nI (6 * c) := by rw [show (6 : Int32) = nI 6 from rfl, pk_mul]
theorem e6c6 (c : Nat) : (6 : Int32) * nI c + 6 = nI (6 * c + 6) := by rw [e6c, show (6 : Int32) = nI 6 from rfl, nI_add]
theorem M_fidY (hs : SH t y) (hz : FZ y m) {c i : Nat} {v : Int64} (hc : c < 2) (hi : i < 6) (hl : ∀ k, k < i → ai m (y 30 86) (6 * c + k) = 0 ∨ ¬ al m (y 30 87) (6 * c + k) = v) (hu : ¬ ai m (y 30 86) (6 * c + i) = 0) (hv : al m (y 30 87) (6 * c + i) = v) {K : Int32 → Prop} (k : K (nI (6 * c + i))) : w_M_fid t m (y 1 0) (nI c) v K := by
  intro w hw
  rw [e6c] at hw
  subst hw
  refine pk_loop (fun q i (_ : Unit) => w_M_fid_6 t m (y 1 0) K q (nI c) v (nI (6 * c + i))) (fun _ _ => True) i 0 () (by omega) trivial (fun q _ _ => ?_) (fun q j _ hj _ ih => ?_)
  · refine iF (by rw [e6c6]; exact nI_ge (by omega) (by omega)) ⟨hs.k 1 0, y 30 86, hz.m 86, hs.k 30 86, by rw [hs.n 30 86]; exact vp_lt (N := 12) (by omega), ?_⟩
    rw [nI_clamp (by omega)]
    refine iF hu ⟨y 30 87, hz.m 87, hs.k 30 87, by rw [hs.n 30 87]; exact vp_lt (N := 12) (by omega), iF (fun n => n hv) k⟩
  · have ih := ih () trivial
    refine iF (by rw [e6c6]; exact nI_ge (by omega) (by omega)) ⟨hs.k 1 0, y 30 86, hz.m 86, hs.k 30 86, by rw [hs.n 30 86]; exact vp_lt (N := 12) (by omega), ?_⟩
    rw [nI_clamp (by omega)]
    refine iS ⟨fun u => ?_, fun u => ⟨y 30 87, hz.m 87, hs.k 30 87, by rw [hs.n 30 87]; exact vp_lt (N := 12) (by omega), iT (by rcases hl j hj with z | z; exact absurd z u; exact z) ?_⟩⟩
    · intro w hw; subst hw; rw [nI_1]; exact ih
    · intro w hw; subst hw; rw [nI_1]; exact ih
theorem M_fidN (hs : SH t y) (hz : FZ y m) {c : Nat} {v : Int64} (hc : c < 2) (hl : ∀ k, k < 6 → ai m (y 30 86) (6 * c + k) = 0 ∨ ¬ al m (y 30 87) (6 * c + k) = v) {K : Int32 → Prop} (k : K (-1)) : w_M_fid t m (y 1 0) (nI c) v K := by
  intro w hw
  rw [e6c] at hw
  subst hw
  refine pk_loop (fun q i (_ : Unit) => w_M_fid_6 t m (y 1 0) K q (nI c) v (nI (6 * c + i))) (fun _ _ => True) 6 0 () (by omega) trivial (fun q _ _ => ?_) (fun q j _ hj _ ih => ?_)
  · exact iT (by rw [e6c6]; exact Int32.le_refl _) k
  · have ih := ih () trivial
    refine iF (by rw [e6c6]; exact nI_ge (by omega) (by omega)) ⟨hs.k 1 0, y 30 86, hz.m 86, hs.k 30 86, by rw [hs.n 30 86]; exact vp_lt (N := 12) (by omega), ?_⟩
    rw [nI_clamp (by omega)]
    refine iS ⟨fun u => ?_, fun u => ⟨y 30 87, hz.m 87, hs.k 30 87, by rw [hs.n 30 87]; exact vp_lt (N := 12) (by omega), iT (by rcases hl j hj with z | z; exact absurd z u; exact z) ?_⟩⟩
    · intro w hw; subst hw; rw [nI_1]; exact ih
    · intro w hw; subst hw; rw [nI_1]; exact ih
theorem S_spareY (hs : SH t y) (hz : FZ y G) {c i : Nat} (hc : c < 2) (hi : i < 6) (hl : ∀ k, k < i → ¬ gi G 46 (y 14 (6 * c + k)) = 0) (hu : gi G 46 (y 14 (6 * c + i)) = 0) {K : Option Nat → Prop} (k : K (some (y 14 (6 * c + i)))) : w_Link_spareFid t G (y 10 c) K := by
  have hv10 : yV 10 c = true := by simp [yV, hc]
  have hv13 : yV 13 c = true := by simp [yV, hc]
  have ar_ : ∀ q, q < 6 → ar G (y 13 c) (nI q).toNatClampNeg = some (y 14 (6 * c + q)) := fun q hq => by rw [nI_clamp (by omega)]; exact (hz.2.2.2.2.1 c hc).2.2.2.2 q hq
  refine pk_loop (fun q i (_ : Unit) => w_Link_spareFid_2 t G (y 10 c) K q (nI i)) (fun _ _ => True) i 0 () (by omega) trivial (fun q _ _ => ?_) (fun q j _ hj _ ih => ?_)
  · refine iF (show ¬ nI 6 ≤ nI i from nI_ge hi (by decide)) ⟨hs.k 10 c hv10, y 13 c, (hz.2.2.2.2.1 c hc).2.2.1, hs.k 13 c hv13, by rw [hs.n 13 c hv13]; exact vp_lt (N := 6) hi, y 14 (6 * c + i), ar_ i hi, hs.k 14 _ (by simp [yV]; omega), iF (fun n => n hu) ?_⟩
    rw [ar_ i hi]; exact k
  · have ih := ih () trivial
    refine iF (show ¬ nI 6 ≤ nI j from nI_ge (by omega) (by decide)) ⟨hs.k 10 c hv10, y 13 c, (hz.2.2.2.2.1 c hc).2.2.1, hs.k 13 c hv13, by rw [hs.n 13 c hv13]; exact vp_lt (N := 6) (by omega), y 14 (6 * c + j), ar_ j (by omega), hs.k 14 _ (by simp [yV]; omega), iT (hl j hj) ?_⟩
    intro w hw; subst hw; rw [nI_1]; exact ih
theorem S_spareN (hs : SH t y) (hz : FZ y G) {c : Nat} (hc : c < 2) (hl : ∀ k, k < 6 → ¬ gi G 46 (y 14 (6 * c + k)) = 0) {K : Option Nat → Prop} (k : K none) : w_Link_spareFid t G (y 10 c) K := by
  have hv10 : yV 10 c = true := by simp [yV, hc]
  have hv13 : yV 13 c = true := by simp [yV, hc]
  refine pk_loop (fun q i (_ : Unit) => w_Link_spareFid_2 t G (y 10 c) K q (nI i)) (fun _ _ => True) 6 0 () (by omega) trivial (fun q _ _ => ?_) (fun q j _ hj _ ih => ?_)
  · show w_Link_spareFid_2 t G (y 10 c) K (q + 1) (nI 6)
    unfold w_Link_spareFid_2
    exact iT (show (6 : Int32) ≤ nI 6 by decide) k
  · have ih := ih () trivial
    refine iF (show ¬ nI 6 ≤ nI j from nI_ge (by omega) (by decide)) ⟨hs.k 10 c hv10, y 13 c, (hz.2.2.2.2.1 c hc).2.2.1, hs.k 13 c hv13, by rw [hs.n 13 c hv13]; exact vp_lt (N := 6) (by omega), y 14 (6 * c + j), by rw [nI_clamp (by omega)]; exact (hz.2.2.2.2.1 c hc).2.2.2.2 j hj, hs.k 14 _ (by simp [yV]; omega), iT (hl j hj) ?_⟩
    intro w hw; subst hw; rw [nI_1]; exact ih
theorem M_many (hs : SH t y) (hz : FZ y m) {c : Nat} (hc : c < 2) {K : Int32 → Prop} (k : K (nI (cnt (fun i => decide (¬ ai m (y 30 86) (6 * c + i) = 0)) 6))) : w_M_many t m (y 1 0) (nI c) K := by
  intro w hw
  rw [e6c] at hw
  subst hw
  have key := pk_loop (fun n i (b : Nat) => w_M_many_7 t m (y 1 0) K n (nI c) (nI b) (nI (6 * c + i))) (fun i b => b = cnt (fun i => decide (¬ ai m (y 30 86) (6 * c + i) = 0)) i) 6 0 0 (by omega) rfl ?_ ?_
  · exact key
  · intro n b hb
    refine iT (by rw [e6c6]; exact Int32.le_refl _) ?_
    rw [hb]; exact k
  · intro n i b hi hb ih
    refine iF (by rw [e6c6]; exact nI_ge (by omega) (by omega)) ⟨hs.k 1 0, y 30 86, hz.m 86, hs.k 30 86, by rw [hs.n 30 86]; exact vp_lt (N := 12) (by omega), ?_⟩
    rw [nI_clamp (by omega)]
    refine iS ⟨fun q => ?_, fun q => ?_⟩
    · intro v hv
      subst hv
      refine (show w_M_many_7 t m (y 1 0) _ n (nI c) (nI b) (nI (6 * c + i) + 1) from ?_)
      rw [nI_1]
      exact ih b (by rw [hb]; exact cnt_f (by simp [q]))
    · intro v hv
      subst hv
      refine (show w_M_many_7 t m (y 1 0) _ n (nI c) (nI b + 1) (nI (6 * c + i) + 1) from ?_)
      rw [nI_1, nI_1]
      exact ih (b + 1) (by rw [hb]; exact cnt_t (by simp [q]))
/-- a number's fid, or none: the first one -/
theorem fid_or (G : GS) (y : LYT) (c : Nat) (v : Int64) : (∃ i, i < 6 ∧ (∀ k, k < i → gi G 46 (y 14 (6 * c + k)) = 0 ∨ ¬ gl G 47 (y 14 (6 * c + k)) = v) ∧ ¬ gi G 46 (y 14 (6 * c + i)) = 0 ∧ gl G 47 (y 14 (6 * c + i)) = v) ∨ ∀ k, k < 6 → gi G 46 (y 14 (6 * c + k)) = 0 ∨ ¬ gl G 47 (y 14 (6 * c + k)) = v := by
  by_cases h : ∃ k, k < 6 ∧ ¬ gi G 46 (y 14 (6 * c + k)) = 0 ∧ gl G 47 (y 14 (6 * c + k)) = v
  · obtain ⟨k, ⟨h1, h2, h3⟩, h4⟩ := pk_least _ h
    refine Or.inl ⟨k, h1, fun q hq => ?_, h2, h3⟩
    by_cases z : gi G 46 (y 14 (6 * c + q)) = 0
    · exact Or.inl z
    · exact Or.inr fun w => h4 q hq ⟨by omega, z, w⟩
  · refine Or.inr fun k hk => ?_
    by_cases z : gi G 46 (y 14 (6 * c + k)) = 0
    · exact Or.inl z
    · exact Or.inr fun w => h ⟨k, hk, z, w⟩
theorem spare_or (G : GS) (y : LYT) (c : Nat) : (∃ i, i < 6 ∧ (∀ k, k < i → ¬ gi G 46 (y 14 (6 * c + k)) = 0) ∧ gi G 46 (y 14 (6 * c + i)) = 0) ∨ ∀ k, k < 6 → ¬ gi G 46 (y 14 (6 * c + k)) = 0 := by
  by_cases h : ∃ k, k < 6 ∧ gi G 46 (y 14 (6 * c + k)) = 0
  · obtain ⟨k, ⟨h1, h2⟩, h4⟩ := pk_least _ h
    exact Or.inl ⟨k, h1, fun q hq w => h4 q hq ⟨by omega, w⟩, h2⟩
  · exact Or.inr fun k hk w => h ⟨k, hk, w⟩
theorem cnt_all {P : Nat → Bool} : ∀ {n : Nat}, (∀ i, i < n → P i = true) → cnt P n = n
  | 0, _ => rfl
  | n + 1, h => by rw [← cnt_t (h n (by omega)), cnt_all (fun i hi => h i (by omega))]
theorem cnt_less {P : Nat → Bool} {k : Nat} (hP : ¬ P k = true) : ∀ {n : Nat}, k < n → cnt P n < n
  | n + 1, h => by
    by_cases q : k = n
    · subst q
      rw [← cnt_f hP]
      have := @cnt_le P k
      omega
    · have := @cnt_less P k hP n (by omega)
      show cnt P n + _ < n + 1
      split <;> omega
/-- class and reference have the same fids -/
theorem InvY.fu {b : Nat} (h : InvY t y b G m) {k : Nat} (hk : k < 12) : ai m (y 30 86) k = gi G 46 (y 14 k) ∧ (¬ gi G 46 (y 14 k) = 0 → gi G 46 (y 14 k) = 1 ∧ al m (y 30 87) k = gl G 47 (y 14 k)) := by
  obtain ⟨-, -, -, -, -, hu, n, r, s, np, -, hF, -⟩ := h
  refine ⟨(hu k hk).2.1, fun hne => ?_⟩
  have : gi G 46 (y 14 k) = 1 := by rcases (hu k hk).1 with z | z; exact absurd z hne; exact z
  obtain ⟨v, p, j, u, -, a2, a3, -⟩ := hF k hk this
  exact ⟨this, by rw [a3, a2]⟩
theorem InvY.fn {b : Nat} (h : InvY t y b G m) {k : Nat} {v : Int64} (hk : k < 12) (q : gi G 46 (y 14 k) = 0 ∨ ¬ gl G 47 (y 14 k) = v) : ai m (y 30 86) k = 0 ∨ ¬ al m (y 30 87) k = v := by
  obtain ⟨a, b⟩ := h.fu hk
  by_cases z : gi G 46 (y 14 k) = 0
  · exact Or.inl (a.trans z)
  · rcases q with q | q
    · exact absurd q z
    · right; rw [(b z).2]; exact q
theorem InvY.many {b : Nat} (h : InvY t y b G m) {c : Nat} (hc : c < 2) : cnt (fun i => decide (¬ ai m (y 30 86) (6 * c + i) = 0)) 6 = 6 ↔ ∀ k, k < 6 → ¬ gi G 46 (y 14 (6 * c + k)) = 0 := by
  constructor
  · intro e k hk z
    have := @cnt_less (fun i => decide (¬ ai m (y 30 86) (6 * c + i) = 0)) k (by simp [(h.fu (k := 6 * c + k) (by omega)).1, z]) 6 hk
    omega
  · intro e
    exact cnt_all (fun i hi => by simp [(h.fu (k := 6 * c + i) (by omega)).1, e i hi])
end FIDS
