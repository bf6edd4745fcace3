/-! sums, and the reference's cells (by hand) -/
theorem sm_zero {w : Nat → Nat} : ∀ {n : Nat}, (∀ i, i < n → w i = 0) → sm w n = 0
  | 0, _ => rfl
  | n + 1, h => by show sm w n + w n = 0; rw [sm_zero (fun i hi => h i (by omega)), h n (by omega)]
theorem sm_take {w : Nat → Nat} {k : Nat} : ∀ {n : Nat}, k < n → sm w n = sm (fun i => if i = k then 0 else w i) n + w k
  | n + 1, h => by
    show sm w n + w n = sm _ n + (if n = k then 0 else w n) + w k
    by_cases q : n = k
    · subst q
      rw [if_pos rfl]
      have : sm w n = sm (fun i => if i = n then 0 else w i) n := sm_congr (fun i hi => by rw [if_neg (by omega)])
      omega
    · rw [if_neg q]
      have := sm_take (w := w) (k := k) (n := n) (by omega)
      omega
theorem sm_bij {N : Nat} : ∀ (n : Nat) (f : Nat → Nat) (w : Nat → Nat), (∀ i, i < n → f i < N) → (∀ i i', i < n → i' < n → f i = f i' → i = i') → (∀ k, k < N → w k ≠ 0 → ∃ i, i < n ∧ f i = k) → sm w N = sm (fun i => w (f i)) n
  | 0, f, w, _, _, h3 => sm_zero (fun k hk => by
      by_cases q : w k = 0
      · exact q
      · obtain ⟨i, hi, -⟩ := h3 k hk q
        omega)
  | n + 1, f, w, h1, h2, h3 => by
    rw [sm_take (h1 n (by omega))]
    show _ = sm (fun i => w (f i)) n + w (f n)
    congr 1
    rw [sm_bij n f (fun i => if i = f n then 0 else w i) (fun i hi => h1 i (by omega)) (fun i i' hi hi' => h2 i i' (by omega) (by omega)) (fun k hk hw => ?_)]
    · exact sm_congr (fun i hi => if_neg (fun e => by have := h2 i n (by omega) (by omega) e; omega))
    · by_cases q : k = f n
      · exact absurd (if_pos q) hw
      · rw [if_neg q] at hw
        obtain ⟨i, hi, e⟩ := h3 k hk hw
        refine ⟨i, ?_, e⟩
        by_cases qi : i = n
        · subst qi; exact absurd e.symm q
        · omega
theorem cnt_sm {P : Nat → Bool} : ∀ {n : Nat}, cnt P n = sm (fun i => if P i = true then 1 else 0) n
  | 0 => rfl
  | n + 1 => by show cnt P n + _ = sm _ n + _; rw [cnt_sm]
theorem cnt_le {P : Nat → Bool} : ∀ {n : Nat}, cnt P n ≤ n
  | 0 => Nat.le_refl _
  | n + 1 => by show cnt P n + _ ≤ _; have := @cnt_le P n; split <;> omega
theorem sm_le {w : Nat → Nat} {m : Nat} (h : ∀ i, w i ≤ m) : ∀ {n : Nat}, sm w n ≤ m * n
  | 0 => Nat.zero_le _
  | n + 1 => by show sm w n + w n ≤ m * (n + 1); have := @sm_le w m h n; have := h n; rw [Nat.mul_succ]; omega
section CELLS
variable {t : TY} {y : LYT} {G : GS}
theorem e83 (n c : Nat) : (83 : Int32) * nI n + nI c = nI (83 * n + c) := by rw [show (83 : Int32) = nI 83 from rfl, pk_mul, nI_add]
theorem M_at {n c : Nat} (hs : SH t y) (hz : FZ y G) (hn : n < 21) (hc : c < 83) {K : Int32 → Prop} (h : K (ai G (y 30 70) (83 * n + c))) : w_M_at t G (y 1 0) (nI n) (nI c) K := by
  refine ⟨hs.k 1 0, y 30 70, hz.m 70, hs.k 30 70, ?_, ?_⟩
  · rw [e83, hs.n 30 70]; exact vp_lt (N := 1743) (by omega)
  · rw [e83, nI_clamp (by omega)]; exact h
theorem M_at0 {n : Nat} (hs : SH t y) (hz : FZ y G) (hn : n < 21) {K : Int32 → Prop} (h : K (ai G (y 30 70) (83 * n))) : w_M_at t G (y 1 0) (nI n) 0 K := M_at (c := 0) hs hz hn (by omega) h
theorem M_set {n c : Nat} {v : Int32} (hs : SH t y) (hz : FZ y G) (hn : n < 21) (hc : c < 83) {K : GS → Prop} (h : K (ais G (y 30 70) (83 * n + c) v)) : w_M_set t G (y 1 0) (nI n) (nI c) v K := by
  refine ⟨hs.k 1 0, y 30 70, hz.m 70, hs.k 30 70, ?_, fun G2 e => ?_⟩
  · rw [e83, hs.n 30 70]; exact vp_lt (N := 1743) (by omega)
  · rw [e83, nI_clamp (by omega)] at e; rw [e]; exact h
theorem M_isDir {n : Nat} (hs : SH t y) (hz : FZ y G) (hn : n < 21) {K : Int32 → Prop} (h : K (if ai G (y 30 70) (83 * n + 3) < 0 then 1 else 0)) : w_M_isDirectory t G (y 1 0) (nI n) K := by
  refine ⟨hs.k 1 0, M_at (c := 3) hs hz hn (by omega) ?_⟩
  by_cases q : ai G (y 30 70) (83 * n + 3) < 0
  · rw [if_pos q] at h; exact iF (Int32.not_le.mpr q) h
  · rw [if_neg q] at h; exact iT (Int32.not_lt.mp q) h
theorem M_find {p : Int32} {n : Nat} (hs : SH t y) (hz : FZ y G) (hn : n < 21) (h1 : ai G (y 30 70) (83 * n) = 1) (h2 : ai G (y 30 70) (83 * n + 1) = p) (hu : ∀ m, m < 21 → ai G (y 30 70) (83 * m) = 1 → ai G (y 30 70) (83 * m + 1) = p → m = n) {K : Int32 → Prop} (h : K (nI n)) : w_M_find t G (y 1 0) p K := by
  refine pk_loop (fun k i (_ : Unit) => w_M_find_2 t G (y 1 0) K k p (nI i)) (fun _ _ => True) n 0 () (by omega) trivial (fun k _ _ => ?_) (fun k i _ hi _ ih => ?_)
  · refine iF (show ¬ nI 21 ≤ nI n from nI_ge hn (by decide)) ⟨hs.k 1 0, M_at0 hs hz hn (iF (by simp [h1]) (M_at (c := 1) hs hz hn (by omega) (iF (by simp [h2]) h)))⟩
  · refine iF (show ¬ nI 21 ≤ nI i from nI_ge (by omega) (by decide)) ⟨hs.k 1 0, M_at0 hs hz (by omega) (iN ⟨fun q => ?_, fun q => ?_⟩)⟩
    · refine M_at (c := 1) hs hz (by omega) (by omega) (iN ⟨fun q2 => ?_, fun q2 => ?_⟩)
      · exact absurd (hu i (by omega) q q2) (by omega)
      · intro v hv; subst hv; have := ih () trivial; rw [← nI_1] at this; exact this
    · intro v hv; subst hv; have := ih () trivial; rw [← nI_1] at this; exact this
theorem M_findNo {p : Int32} (hs : SH t y) (hz : FZ y G) (hu : ∀ m, m < 21 → ai G (y 30 70) (83 * m) = 1 → ai G (y 30 70) (83 * m + 1) ≠ p) {K : Int32 → Prop} (h : K (-1)) : w_M_find t G (y 1 0) p K := by
  refine pk_loop (fun k i (_ : Unit) => w_M_find_2 t G (y 1 0) K k p (nI i)) (fun _ _ => True) 21 0 () (by omega) trivial (fun k _ _ => ?_) (fun k i _ hi _ ih => ?_)
  · show w_M_find_2 t G (y 1 0) K (k + 1) p (nI 21)
    unfold w_M_find_2
    exact iT (show (21 : Int32) ≤ nI 21 by decide) h
  · refine iF (show ¬ nI 21 ≤ nI i from nI_ge (by omega) (by decide)) ⟨hs.k 1 0, M_at0 hs hz (by omega) (iN ⟨fun q => ?_, fun q => ?_⟩)⟩
    · refine M_at (c := 1) hs hz (by omega) (by omega) (iN ⟨fun q2 => ?_, fun q2 => ?_⟩)
      · exact absurd q2 (hu i (by omega) q)
      · intro v hv; subst hv; have := ih () trivial; rw [← nI_1] at this; exact this
    · intro v hv; subst hv; have := ih () trivial; rw [← nI_1] at this; exact this
/-- entries: how many slots from 1 on have slot n's path as their home -/
theorem M_entries {n : Nat} (hs : SH t y) (hz : FZ y G) (hn : n < 21) {K : Int32 → Prop} (h : K (nI (cnt (fun e => decide (ai G (y 30 70) (83 * (e + 1)) = 1 ∧ ai G (y 30 70) (83 * (e + 1) + 8) = ai G (y 30 70) (83 * n + 1))) 20))) : w_M_entries t G (y 1 0) (nI n) K := by
  refine pk_loop (fun k i (a : Nat) => w_M_entries_4 t G (y 1 0) K k (nI n) (nI a) (nI (i + 1))) (fun i a => a = cnt (fun e => decide (ai G (y 30 70) (83 * (e + 1)) = 1 ∧ ai G (y 30 70) (83 * (e + 1) + 8) = ai G (y 30 70) (83 * n + 1))) i) 20 0 0 (by omega) rfl (fun k a ha => ?_) (fun k i a hi ha ih => ?_)
  · show w_M_entries_4 t G (y 1 0) K (k + 1) (nI n) (nI a) (nI 21)
    unfold w_M_entries_4
    refine iT (show (21 : Int32) ≤ nI 21 by decide) ?_
    rw [ha]; exact h
  · have no : ∀ (hq : ¬ (ai G (y 30 70) (83 * (i + 1)) = 1 ∧ ai G (y 30 70) (83 * (i + 1) + 8) = ai G (y 30 70) (83 * n + 1))), w_M_entries_42 t G (y 1 0) K (w_M_entries_4 t G (y 1 0) K k) (nI n) (nI a) (nI (i + 1)) := fun hq v hv => by
      subst hv
      have := ih a (by rw [ha]; exact cnt_f (by simp only [decide_eq_true_eq]; exact hq))
      rw [← nI_1] at this
      exact this
    refine iF (show ¬ nI 21 ≤ nI (i + 1) from nI_ge (by omega) (by decide)) ⟨hs.k 1 0, M_at0 hs hz (by omega) (iN ⟨fun q => ?_, fun q => ?_⟩)⟩
    · refine M_at (c := 8) hs hz (by omega) (by omega) (M_at (c := 1) hs hz hn (by omega) (iN ⟨fun q2 => ?_, fun q2 => ?_⟩))
      · intro v hv
        subst hv
        have := ih (a + 1) (by rw [ha]; exact cnt_t (by simp only [decide_eq_true_eq]; exact ⟨q, q2⟩))
        rw [← nI_1 a, ← nI_1 (i + 1)] at this
        exact this
      · exact no (fun z => q2 z.2)
    · exact no (fun z => q z.1)
/-- what a slot takes of blocks -/
def mBl (T : Nat → Int32) (n : Nat) : Int32 := if T (83 * n + 3) < 0 then (nI (cnt (fun e => decide (T (83 * (e + 1)) = 1 ∧ T (83 * (e + 1) + 8) = T (83 * n + 1))) 20) + 3) / 4 else (T (83 * n + 18) + 15) / 16
/-- blocks: given what each slot takes as a number -/
theorem M_blocks {w : Nat → Nat} (hs : SH t y) (hz : FZ y G) (hw : ∀ n, n < 21 → w n ≤ 20 ∧ (ai G (y 30 70) (83 * n) = 1 → mBl (ai G (y 30 70)) n = nI (w n)) ∧ (¬ ai G (y 30 70) (83 * n) = 1 → w n = 0)) {K : Int32 → Prop} (h : K (nI (sm w 21))) : w_M_blocks t G (y 1 0) K := by
  refine pk_loop (fun k i (a : Nat) => w_M_blocks_4 t G (y 1 0) K k (nI a) (nI i)) (fun i a => a = sm w i) 21 0 0 (by omega) rfl (fun k a ha => ?_) (fun k i a hi ha ih => ?_)
  · show w_M_blocks_4 t G (y 1 0) K (k + 1) (nI a) (nI 21)
    unfold w_M_blocks_4
    refine iT (show (21 : Int32) ≤ nI 21 by decide) ?_
    rw [ha]; exact h
  · obtain ⟨w1, w2, w3⟩ := hw i hi
    have nx : w_M_blocks_4 t G (y 1 0) K k (nI a + nI (w i)) (nI i + 1) := by
      have := ih (a + w i) (by rw [ha]; rfl)
      rw [← nI_1, ← nI_add] at this
      exact this
    refine iF (show ¬ nI 21 ≤ nI i from nI_ge hi (by decide)) ⟨hs.k 1 0, M_at0 hs hz hi (iN ⟨fun q => ?_, fun q => ?_⟩)⟩
    · have e := w2 q
      unfold mBl at e
      refine M_isDir hs hz hi ?_
      by_cases q2 : ai G (y 30 70) (83 * i + 3) < 0
      · rw [if_pos q2] at e ⊢
        refine iF (by decide) (M_entries hs hz hi ?_)
        intro v hv v2 hv2
        subst hv hv2
        rw [e]
        exact nx
      · rw [if_neg q2] at e ⊢
        refine iT rfl (M_at (c := 18) hs hz hi (by omega) ?_)
        intro v hv v2 hv2
        subst hv hv2
        rw [e]
        exact nx
    · intro v hv
      subst hv
      rw [w3 q] at nx
      have : nI a + nI 0 = nI a := nI_add a 0
      rw [this] at nx
      exact nx
end CELLS
