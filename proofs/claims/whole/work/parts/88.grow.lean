/-! create: the room, the slot, the cells (by hand) -/
theorem sm_first {w : Nat → Nat} (h : ∀ q, w q = 0 ∨ w q = 1) : ∀ N, (sm w N < N ∧ ∃ k, k < N ∧ w k = 0 ∧ ∀ q, q < k → w q = 1) ∨ (sm w N = N ∧ ∀ q, q < N → w q = 1)
  | 0 => Or.inr ⟨rfl, fun q hq => absurd hq (by omega)⟩
  | N + 1 => by
    rcases sm_first h N with ⟨a, k, k1, k2, k3⟩ | ⟨a, k3⟩
    · refine Or.inl ⟨?_, k, by omega, k2, k3⟩
      show sm w N + w N < N + 1
      rcases h N with e | e <;> omega
    · rcases h N with e | e
      · refine Or.inl ⟨?_, N, by omega, e, k3⟩
        show sm w N + w N < N + 1
        omega
      · refine Or.inr ⟨?_, fun q hq => ?_⟩
        · show sm w N + w N = N + 1
          omega
        · by_cases x : q = N
          · rw [x]; exact e
          · exact k3 q (by omega)
theorem cnt_put {P Q : Nat → Bool} {a : Nat} (h : ∀ i, i ≠ a → Q i = P i) (hp : P a = false) (hq : Q a = true) : ∀ {n : Nat}, a < n → cnt Q n = cnt P n + 1
  | n + 1, hn => by
    by_cases x : a = n
    · subst x
      rw [← cnt_t hq, ← cnt_f (by rw [hp]; simp), cnt_congr (fun i hi => h i (by omega))]
    · have ih := cnt_put h hp hq (n := n) (by omega)
      show cnt Q n + (if Q n = true then 1 else 0) = cnt P n + (if P n = true then 1 else 0) + 1
      rw [h n (fun e => x e.symm), ih]; omega
section GROW
variable {t : TY} {y : LYT} {G m : GS} {T : Nat → Int32} {n np d u z k0 : Nat} {r s f : Nat → Nat} {tm md : Int32}
abbrev enC (y : LYT) (G : GS) (n : Nat) (r : Nat → Nat) (d : Nat) : Nat := cnt (fun i => decide (gr G 7 (y 5 (r i)) = some (y 5 d))) n
/-- the class's room for an entry -/
theorem S_roomE (h : TrR t y G T n r s np) (hb : np < 2 ^ 31) (hs : SH t y) (hz : FZ y G) (hd : lvN n r d) (hdir : gi G 2 (y 5 d) < 0) {K : Int32 → Prop} (k1 : n < 20 → tBl y G n r + (enC y G n r d + 4) / 4 ≤ 24 + (enC y G n r d + 3) / 4 → K 1) (k0 : ¬ (n < 20 ∧ tBl y G n r + (enC y G n r d + 4) / 4 ≤ 24 + (enC y G n r d + 3) / 4) → K 0) : w_Tree_hasRoomForEntry t G (y 2 0) (y 5 d) K := by
  have hd20 := h.le hd
  have b24 := h.b24
  have hn := h.1
  have hc : enC y G n r d ≤ 20 := Nat.le_trans cnt_le h.1
  have e8 : gi G 8 (y 5 d) = nI (enC y G n r d) := h.2.2.2.2.2.2.2.2.2.2.2.2.2.2.1 d hd
  refine ⟨hs.k 5 d (by simp [yV]; omega), S_blocks hs (by omega) ?_⟩
  rw [if_pos hdir, e8, show (3 : Int32) = nI 3 from rfl, show (4 : Int32) = nI 4 from rfl, nI_add, nI_add, pk_div (by omega) (by omega) (by omega), pk_div (by omega) (by omega) (by omega), pk_sub (by omega), h.2.1]
  intro v2 e2
  subst e2
  refine ⟨hs.k 2 0, ?_⟩
  by_cases w : n < 20
  · refine iF (nI_ge (b := 20) w (by decide)) (h.spare hb hs hz ?_)
    rw [pk_sub b24]
    by_cases w2 : 24 - tBl y G n r < (enC y G n r d + 4) / 4 - (enC y G n r d + 3) / 4
    · exact iT (nI_lt w2 (by omega)) (k0 fun q => by omega)
    · exact iF (nI_nlt (by omega) (by omega)) (k1 w (by omega))
  · exact iT (nI_le (a := 20) (by omega) (by omega)) (k0 fun q => w q.1)
/-- a free slot -/
theorem TrR.fs (h : TrR t y G T n r s np) (hb : np < 2 ^ 31) : ∃ k0, 1 ≤ k0 ∧ k0 ≤ 21 ∧ (k0 < 21 ↔ n < 20) ∧ (k0 < 21 → T (83 * k0) = 0) ∧ ∀ q, 1 ≤ q → q < k0 → T (83 * q) = 1 := by
  have hn := h.1
  have key := h.sum1 hb (fun k => if T (83 * (k + 1)) = 1 then 1 else 0) (fun k _ q => if_neg q)
  have e1 : sm (fun i => (fun k => if T (83 * (k + 1)) = 1 then 1 else 0) (s (r i) - 1)) n = n := by
    rw [sm_congr (v := fun _ => 1) (fun i hi => ?_), sm_one]
    have x := h.nd (h.in hi)
    have h1 := x.2.1 (by have := (h.2.2.2.2.1 i (by omega)).2.1; omega)
    show (if T (83 * (s (r i) - 1 + 1)) = 1 then 1 else 0) = 1
    rw [show s (r i) - 1 + 1 = s (r i) by omega, if_pos x.2.2.1]
  rw [e1] at key
  rcases sm_first (w := fun k => if T (83 * (k + 1)) = 1 then 1 else 0) (fun q => by
    show (if T (83 * (q + 1)) = 1 then 1 else 0) = 0 ∨ (if T (83 * (q + 1)) = 1 then 1 else 0) = 1
    split
    · exact Or.inr rfl
    · exact Or.inl rfl) 20 with ⟨a, k, k1, k2, k3⟩ | ⟨a, k3⟩
  · refine ⟨k + 1, by omega, by omega, ⟨fun _ => by omega, fun _ => by omega⟩, fun _ => ?_, fun q q1 q2 => ?_⟩
    · have : ¬ T (83 * (k + 1)) = 1 := fun e => by
        have k2 : (if T (83 * (k + 1)) = 1 then 1 else 0) = 0 := k2
        rw [if_pos e] at k2; omega
      rcases h.2.2.2.2.2.2.2.2.2.2.2.1 (k + 1) (by omega) with e | ⟨j, hj, e⟩
      · exact e
      · exact absurd (by rw [← e]; exact (h.nd hj).2.2.1) this
    · have k3 : (if T (83 * (q - 1 + 1)) = 1 then 1 else 0) = 1 := k3 (q - 1) (by omega)
      rw [show q - 1 + 1 = q by omega] at k3
      exact Classical.byContradiction fun e => by rw [if_neg e] at k3; omega
  · refine ⟨21, by omega, by omega, ⟨fun _ => by omega, fun _ => by omega⟩, fun _ => by omega, fun q q1 q2 => ?_⟩
    have k3 : (if T (83 * (q - 1 + 1)) = 1 then 1 else 0) = 1 := k3 (q - 1) (by omega)
    rw [show q - 1 + 1 = q by omega] at k3
    exact Classical.byContradiction fun e => by rw [if_neg e] at k3; omega
/-- the reference looks for it -/
theorem M_slot (hs : SH t y) (hm : FZ y m) (h1 : 1 ≤ k0) (hk : k0 ≤ 21) (hp : ∀ q, 1 ≤ q → q < k0 → ai m (y 30 70) (83 * q) = 1) (h0 : k0 < 21 → ai m (y 30 70) (83 * k0) = 0) {K : GS → Prop} {l1 l2 l4 l5 : Int32} (k : w_M_create_200 t (y 1 0) K l1 l2 l4 l5 (nI k0) m) : ∃ n, w_M_create_176 t (y 1 0) K n l1 l2 l4 l5 (1 : Int32) m := by
  refine pk_loop (fun q i (_ : Unit) => w_M_create_176 t (y 1 0) K q l1 l2 l4 l5 (nI i) m) (fun i _ => 1 ≤ i) k0 1 () h1 (Nat.le_refl _) (fun q _ _ => ?_) (fun q i _ hi hli ih => ?_)
  · by_cases w : k0 < 21
    · refine iF (nI_ge (b := 21) w (by decide)) ⟨hs.k 1 0, M_at0 hs hm w ?_⟩
      rw [h0 w]
      exact iT (by decide) k
    · exact iT (nI_le (a := 21) (by omega) (by omega)) k
  · refine iF (nI_ge (b := 21) (by omega) (by decide)) ⟨hs.k 1 0, M_at0 hs hm (by omega) ?_⟩
    rw [hp i hli hi]
    refine iF (by simp) fun v2 e2 => ?_
    rw [nI_1] at e2
    subst e2
    exact ih () (by omega)
/-- the new node's cells as the reference sets them -/
theorem M_grow (hs : SH t y) (hm : FZ y m) (hf : MsF z f) (hM : MsM y m z f) {sd og : Nat} {v3 : Int32} (hk : k0 < 21) (hsd : sd < 21) (hne : sd ≠ k0) (h74 : gi m 74 (y 1 0) + 1 = nI np) (h99 : gi m 99 (y 1 0) = nI u) (e6 : T (83 * sd + 6) = nI og) (hq : 13 + nm f 11 2 ≤ z) (hl : nm f 11 2 ≤ 8) {K : GS → Prop} (k : K (w70 y m (cG (crT T k0 np (v3 &&& ((if 0 ≤ v3 then (-439 : Int32) else -512) ||| T (83 * sd + 3))) (gi m 78 (y 1 0)) u og (T (83 * sd + 1)) (nm f 11 2) (fun i => f (13 + i))) sd (gi m 78 (y 1 0)) u))) : w_M_grow t (w70 y m T) (y 1 0) (nI k0) (nI sd) v3 K := by
  have hZ : ∀ X, FZ y (w70 y m X) := fun X => w70_z hs hm
  have base : ∀ X : Nat → Int32, X = (fun k => if 83 * k0 ≤ k ∧ k < 83 * k0 + 83 then 0 else T k) → ∀ q, w_M_grow_3 t (y 1 0) K (q + 1) (nI k0) (nI sd) v3 (nI 83) (w70 y m X) := fun X eX q => by
    unfold w_M_grow_3
    refine iT (show (83 : Int32) ≤ nI 83 by decide) ⟨hs.k 1 0, M_set (c := 0) hs (hZ _) hk (by omega) ?_⟩
    rw [w70_s]
    refine M_set (c := 1) hs (hZ _) hk (by omega) ?_
    rw [w70_s]
    have e74 : gi (w70 y m (cS X k0 0 1)) 74 (y 1 0) + 1 = nI np := h74
    rw [e74]
    obtain ⟨Y, eY⟩ : ∃ Y, Y = cS (cS X k0 0 1) k0 1 (nI np) := ⟨_, rfl⟩
    rw [← eY]
    have Yo : ∀ c, c < 83 → Y (83 * sd + c) = T (83 * sd + c) := fun c hc => by
      rw [eY, cS_ne (by omega), cS_ne (by omega), eX]
      exact if_neg (by omega)
    have g60 : ∀ v4 : Int32, v4 = (if 0 ≤ v3 then (-439 : Int32) else -512) → w_M_grow_60 t (y 1 0) K (nI k0) (nI sd) (some (y 1 0)) (nI k0) (3 : Int32) v3 v4 (w70 y m Y) := fun v4 e4 => by
      refine ⟨hs.k 1 0, M_at (c := 3) hs (hZ _) hsd (by omega) ⟨y 1 0, rfl, hs.k 1 0, M_set (c := 3) hs (hZ _) hk (by omega) ?_⟩⟩
      rw [w70_s, w70_70, Yo 3 (by omega), e4]
      refine M_set (c := 4) hs (hZ _) hk (by omega) ?_
      rw [w70_s]
      refine M_set (c := 5) hs (hZ _) hk (by omega) ?_
      rw [w70_s]
      refine M_at (c := 6) hs (hZ _) hsd (by omega) ?_
      refine M_set (c := 6) hs (hZ _) hk (by omega) ?_
      rw [w70_s, w70_70]
      refine M_set (c := 7) hs (hZ _) hk (by omega) ?_
      rw [w70_s]
      refine M_at (c := 1) hs (hZ _) hsd (by omega) ?_
      refine M_set (c := 8) hs (hZ _) hk (by omega) ?_
      rw [w70_s, w70_70]
      refine M_rename (q := 11) hs hm hf hM hk (by omega) hl ?_
      have i9 : ∀ X, gi (w70 y m X) 99 (y 1 0) = nI u := fun X => h99
      have i8 : ∀ X, gi (w70 y m X) 78 (y 1 0) = gi m 78 (y 1 0) := fun X => rfl
      simp only [i9, i8]
      refine M_changes hs (hZ _) hsd ?_
      rw [w70_ch]
      rw [cS_ne (by omega), cS_ne (by omega), cS_ne (by omega), cS_ne (by omega), cS_ne (by omega), cS_ne (by omega), cS_ne (by omega), cS_ne (by omega), Yo 1 (by omega), Yo 6 (by omega), e6, eY, eX]
      exact k
    by_cases w : 0 ≤ v3
    · exact iT w (g60 _ (if_pos w).symm)
    · exact iF w (g60 _ (if_neg w).symm)
  have key := pk_loop (fun q i (_ : Unit) => w_M_grow_3 t (y 1 0) K q (nI k0) (nI sd) v3 (nI i) (w70 y m (fun k => if 83 * k0 ≤ k ∧ k < 83 * k0 + i then 0 else T k))) (fun _ _ => True) 83 0 () (by omega) trivial (fun q _ _ => base _ rfl q) (fun q i _ hi _ ih => ?_)
  · obtain ⟨q, hq⟩ := key
    refine ⟨q, ?_⟩
    have e0 : (fun k => if 83 * k0 ≤ k ∧ k < 83 * k0 + 0 then (0 : Int32) else T k) = T := funext fun k => if_neg (by omega)
    have hq : w_M_grow_3 t (y 1 0) K q (nI k0) (nI sd) v3 (nI 0) (w70 y m (fun k => if 83 * k0 ≤ k ∧ k < 83 * k0 + 0 then 0 else T k)) := hq
    rw [e0] at hq
    exact hq
  · refine iF (nI_ge (b := 83) hi (by decide)) ⟨hs.k 1 0, M_set (c := i) hs (hZ _) hk (by omega) ?_⟩
    rw [w70_s]
    intro v4 e4
    rw [nI_1] at e4
    subst e4
    have e1 : cS (fun k => if 83 * k0 ≤ k ∧ k < 83 * k0 + i then (0 : Int32) else T k) k0 i 0 = (fun k => if 83 * k0 ≤ k ∧ k < 83 * k0 + (i + 1) then 0 else T k) := funext fun k => by
      show (if k = 83 * k0 + i then 0 else (if 83 * k0 ≤ k ∧ k < 83 * k0 + i then (0 : Int32) else T k)) = _
      by_cases a : k = 83 * k0 + i
      · rw [if_pos a, if_pos (by omega)]
      · rw [if_neg a]
        by_cases a2 : 83 * k0 ≤ k ∧ k < 83 * k0 + i
        · rw [if_pos a2, if_pos (by omega)]
        · rw [if_neg a2, if_neg (by omega)]
    rw [e1]
    exact ih () trivial
/-- the blocks of the new cells -/
theorem TrR.madd (h : TrR t y G T n r s np) (hb : np < 2 ^ 31) (hs : SH t y) (hm : FZ y m) (hd : lvN n r d) (hdir : gi G 2 (y 5 d) < 0) (hk1 : 1 ≤ k0) (hk0 : k0 < 21) (hfree : T (83 * k0) = 0) {og l : Nat} {g : Nat → Nat} (hl : l ≤ 8) (c70 : ai m (y 30 70) = cG (crT T k0 np md tm u og (T (83 * s d + 1)) l g) (s d) tm u) {K : Int32 → Prop} (k : K (nI (tBl y G n r + (enC y G n r d + 4) / 4 - (enC y G n r d + 3) / 4))) : w_M_blocks t m (y 1 0) K := by
  obtain ⟨w, w1, w2, w3⟩ := h.wts hb hs
  have x := h.nd hd
  have hc : enC y G n r d ≤ 20 := Nat.le_trans cnt_le h.1
  have hne : s d ≠ k0 := fun e => by
    have := x.2.2.1
    rw [e, hfree] at this
    exact absurd this (by decide)
  obtain ⟨t0, t1, t2, t3, t4, t5, t6, t7, t8, t9, t10, t18⟩ := crT_v (T := T) (k0 := k0) (np := np) (u := u) (og := og) (md := md) (tm := tm) (pd := T (83 * s d + 1)) (g := g) hl
  have co : ∀ q c, q < 21 → q ≠ k0 → c < 83 → c ≠ 2 → c ≠ 4 → c ≠ 7 → ai m (y 30 70) (83 * q + c) = T (83 * q + c) := fun q c hq hqk hc a2 a4 a7 => by
    rw [c70, cG_ne (by omega) (by omega) (by omega)]
    exact crT_o hl (by omega)
  have ck : ∀ c, c < 83 → ai m (y 30 70) (83 * k0 + c) = crT T k0 np md tm u og (T (83 * s d + 1)) l g (83 * k0 + c) := fun c hc => by
    rw [c70, cG_ne (by omega) (by omega) (by omega)]
  have cd0 : w (s d) = (enC y G n r d + 3) / 4 := by
    rw [w3 d hd]; unfold cBl
    rw [if_pos hdir]
  have wk : w k0 = 0 := (w1 k0 hk0).2.2 (by rw [hfree]; decide)
  -- one slot's look at an entry
  have ent : ∀ e, e < 20 → ∀ v : Int32, (¬ (e + 1 = k0 ∧ v = T (83 * s d + 1))) → (decide (ai m (y 30 70) (83 * (e + 1)) = 1 ∧ ai m (y 30 70) (83 * (e + 1) + 8) = v)) = decide (T (83 * (e + 1)) = 1 ∧ T (83 * (e + 1) + 8) = v) := fun e he v hv => by
    by_cases a : e + 1 = k0
    · rw [a, ck 8 (by omega), t8, hfree]
      have n1 : ¬ T (83 * s d + 1) = v := fun q => hv ⟨a, q.symm⟩
      simp [n1]
    · have := co (e + 1) 0 (by omega) a (by omega) (by omega) (by omega) (by omega)
      rw [show 83 * (e + 1) + 0 = 83 * (e + 1) by omega] at this
      rw [this, co (e + 1) 8 (by omega) a (by omega) (by omega) (by omega) (by omega)]
  refine M_blocks (w := fun q => if q = s d then (enC y G n r d + 4) / 4 else w q) hs hm (fun q hq => ⟨?_, fun ht => ?_, fun ht => ?_⟩) ?_
  · show (if q = s d then (enC y G n r d + 4) / 4 else w q) ≤ 20
    split
    · omega
    · exact (w1 q hq).1
  · show _ = nI (if q = s d then (enC y G n r d + 4) / 4 else w q)
    by_cases e : q = s d
    · rw [if_pos e, e]
      unfold mBl
      rw [co (s d) 3 x.1 hne (by omega) (by omega) (by omega) (by omega), co (s d) 1 x.1 hne (by omega) (by omega) (by omega) (by omega), x.2.2.2.2.2.1, if_pos hdir]
      have e2 := cnt_put (P := fun e => decide (T (83 * (e + 1)) = 1 ∧ T (83 * (e + 1) + 8) = T (83 * s d + 1))) (Q := fun e => decide (e < 20 ∧ ai m (y 30 70) (83 * (e + 1)) = 1 ∧ ai m (y 30 70) (83 * (e + 1) + 8) = T (83 * s d + 1) ∨ 20 ≤ e ∧ T (83 * (e + 1)) = 1 ∧ T (83 * (e + 1) + 8) = T (83 * s d + 1))) (a := k0 - 1) (n := 20) (fun i hi => by
        by_cases q : i < 20
        · have := ent i q (T (83 * s d + 1)) (fun w => hi (by omega))
          have n20 : ¬ 20 ≤ i := by omega
          simp only [q, n20, true_and, false_and, or_false]
          exact this
        · have n20 : 20 ≤ i := by omega
          simp only [q, n20, true_and, false_and, false_or]) (by
        show decide (T (83 * (k0 - 1 + 1)) = 1 ∧ _) = false
        rw [show k0 - 1 + 1 = k0 by omega, hfree]
        simp) (by
        show decide (k0 - 1 < 20 ∧ ai m (y 30 70) (83 * (k0 - 1 + 1)) = 1 ∧ ai m (y 30 70) (83 * (k0 - 1 + 1) + 8) = T (83 * s d + 1) ∨ _) = true
        have c0 := ck 0 (by omega)
        rw [show 83 * k0 + 0 = 83 * k0 by omega, t0] at c0
        rw [show k0 - 1 + 1 = k0 by omega, ck 8 (by omega), t8, c0]
        have : k0 - 1 < 20 := by omega
        simp [this]) (by omega)
      rw [h.ents hb hd hs] at e2
      rw [cnt_congr (Q := fun e => decide (e < 20 ∧ ai m (y 30 70) (83 * (e + 1)) = 1 ∧ ai m (y 30 70) (83 * (e + 1) + 8) = T (83 * s d + 1) ∨ 20 ≤ e ∧ T (83 * (e + 1)) = 1 ∧ T (83 * (e + 1) + 8) = T (83 * s d + 1))) (fun i hi => by
        have n20 : ¬ 20 ≤ i := by omega
        simp only [hi, n20, true_and, false_and, or_false]), e2]
      show (nI (enC y G n r d + 1) + 3) / 4 = _
      rw [show (3 : Int32) = nI 3 from rfl, show (4 : Int32) = nI 4 from rfl, nI_add, pk_div (by omega) (by omega) (by omega)]
    · rw [if_neg e]
      by_cases e' : q = k0
      · rw [e', wk]
        unfold mBl
        rw [ck 3 (by omega), t3, ck 18 (by omega), t18, ck 1 (by omega), t1]
        have e0 : cnt (fun e => decide (ai m (y 30 70) (83 * (e + 1)) = 1 ∧ ai m (y 30 70) (83 * (e + 1) + 8) = nI np)) 20 = 0 := by
          rw [cnt_sm]
          refine sm_zero fun i hi => if_neg fun w => ?_
          have w := of_decide_eq_true w
          by_cases a : i + 1 = k0
          · rw [a, ck 8 (by omega), t8, x.2.2.2.1] at w
            obtain ⟨p, hp, ep, -⟩ := h.pth hd
            rw [ep] at w
            have := (nI_eq (by omega) hb).mp w.2
            omega
          · have c0 := co (i + 1) 0 (by omega) a (by omega) (by omega) (by omega) (by omega)
            rw [show 83 * (i + 1) + 0 = 83 * (i + 1) by omega] at c0
            rw [c0, co (i + 1) 8 (by omega) a (by omega) (by omega) (by omega) (by omega)] at w
            obtain ⟨j, hj, ej⟩ := h.slot (by omega) w.1
            have j0 : j ≠ 0 := fun q => by rw [q, h.2.2.2.2.2.2.2.2.2.1] at ej; omega
            obtain ⟨j', hj', -, e8, -⟩ := h.home hj j0
            rw [← ej, e8] at w
            obtain ⟨p, hp, ep, -⟩ := h.pth hj'
            rw [ep] at w
            have := (nI_eq (by omega) hb).mp w.2
            omega
        rw [e0]
        split <;> decide
      · have c0 := co q 0 hq e' (by omega) (by omega) (by omega) (by omega)
        rw [show 83 * q + 0 = 83 * q by omega] at c0
        rw [c0] at ht
        rw [← (w1 q hq).2.1 ht]
        unfold mBl
        rw [co q 3 hq e' (by omega) (by omega) (by omega) (by omega), co q 18 hq e' (by omega) (by omega) (by omega) (by omega), co q 1 hq e' (by omega) (by omega) (by omega) (by omega)]
        rw [cnt_congr (fun i hi => ent i hi (T (83 * q + 1)) fun w => ?_)]
        obtain ⟨j, hj, ej⟩ := h.slot hq ht
        have w2 := w.2
        rw [← ej, (h.nd hj).2.2.2.1, x.2.2.2.1] at w2
        exact e (by rw [← ej, h.pinj hb hj hd w2])
  · show (if q = s d then (enC y G n r d + 4) / 4 else w q) = 0
    by_cases e' : q = k0
    · exfalso
      have c0 := ck 0 (by omega)
      rw [show 83 * k0 + 0 = 83 * k0 by omega, t0] at c0
      exact ht (by rw [e']; exact c0)
    · have c0 := co q 0 hq e' (by omega) (by omega) (by omega) (by omega)
      rw [show 83 * q + 0 = 83 * q by omega] at c0
      rw [c0] at ht
      rw [if_neg (fun e => ht (by rw [e]; exact x.2.2.1))]
      exact (w1 q hq).2.2 ht
  · have := sm_upd (w := w) (a := s d) (v := (enC y G n r d + 4) / 4) x.1
    rw [cd0, w2] at this
    rw [show sm (fun q => if q = s d then (enC y G n r d + 4) / 4 else w q) 21 = tBl y G n r + (enC y G n r d + 4) / 4 - (enC y G n r d + 3) / 4 by omega]
    exact k
end GROW
