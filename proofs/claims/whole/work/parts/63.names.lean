/-! names in the tree (by hand) -/
/-- the node has the text's name; .. and lies in the directory -/
def hasNm (y : LYT) (G : GS) (f : Nat → Nat) (q j : Nat) : Prop := gi G 10 (y 5 j) = nI (nm f q 2) ∧ ∀ k, k < nm f q 2 → ai G (y 6 j) k = sb (f (q + 2 + k))
def isEnt (y : LYT) (G : GS) (f : Nat → Nat) (q d j : Nat) : Prop := gr G 7 (y 5 j) = some (y 5 d) ∧ hasNm y G f q j
/-- the slot holds a node of that name in the directory's slot -/
def isHit (T : Nat → Int32) (f : Nat → Nat) (q sd k : Nat) : Prop := T (83 * k) = 1 ∧ T (83 * k + 8) = T (83 * sd + 1) ∧ T (83 * k + 9) = nI (nm f q 2) ∧ ∀ e, e < nm f q 2 → T (83 * k + (10 + e)) = nI (f (q + 2 + e))
section NAMES
variable {t : TY} {y : LYT} {G m : GS} {z : Nat} {f : Nat → Nat}
theorem S_textIsName (hs : SH t y) (hz : FZ y G) (hf : MsF z f) (h : MsC y G z f) {p c i j l : Nat} (hT : TxC y G f p c) (hi : i < c) (hc : c ≤ 4) (hin : tp f p i + 2 + nm f (tp f p i) 2 ≤ z) (hj : j < 23) (hl : l ≤ 8) (el : gi G 10 (y 5 j) = nI l) {K : Int32 → Prop} (k1 : hasNm y G f (tp f p i) j → K 1) (k0 : ¬ hasNm y G f (tp f p i) j → K 0) : w_Message_textIsName t G (y 8 0) (nI i) (y 5 j) K := by
  obtain ⟨x1, x2⟩ := hT.1 i hi
  have h128 := hf.2.1
  have hvj : yV 5 j = true := by simp [yV, hj]
  have hv6 : yV 6 j = true := by simp [yV, hj]
  refine ⟨hs.k 8 0, y 21 0, hz.2.2.1.2.2.1, hs.k 21 0, by rw [hs.n 21 0]; exact vp_lt (N := 4) (by omega), hs.k 5 j hvj, ?_⟩
  rw [nI_clamp (by omega), x2]
  by_cases e : nI (nm f (tp f p i) 2) = gi G 10 (y 5 j)
  · refine iT e ?_
    have eL : nm f (tp f p i) 2 = l := (nI_eq (by omega) (by omega)).mp (e.trans el)
    have step : ∀ (q k : Nat), k < nm f (tp f p i) 2 → (ai G (y 6 j) k = sb (f (tp f p i + 2 + k)) → w_Message_textIsName_17 t G (y 8 0) K q (nI i) (y 5 j) (nI (k + 1))) → (¬ ai G (y 6 j) k = sb (f (tp f p i + 2 + k)) → K 0) → w_Message_textIsName_17 t G (y 8 0) K (q + 1) (nI i) (y 5 j) (nI k) := fun q k hk a b => by
      refine ⟨hs.k 5 j hvj, ?_⟩
      rw [← e]
      refine iF (nI_ge hk (by omega)) ⟨hs.k 8 0, y 20 0, hz.2.2.1.2.1, hs.k 20 0, by rw [hs.n 20 0]; exact vp_lt (N := 4) (by omega), ?_⟩
      intro v2 e2
      rw [nI_clamp (by omega), x1, nI_add] at e2
      subst e2
      rw [h.1]
      refine iF (nI_ge (by omega) (by omega)) ⟨y 19 0, hz.2.2.1.1, hs.k 19 0, by rw [hs.n 19 0]; exact vp_lt (N := 128) (by omega), y 6 j, (hz.2.2.2.1 j hj).1, hs.k 6 j hv6, by rw [hs.n 6 j hv6]; exact vp_lt (N := 8) (by omega), ?_⟩
      rw [nI_clamp (by omega), nI_clamp (by omega), h.2 _ (by omega)]
      by_cases w : ai G (y 6 j) k = sb (f (tp f p i + 2 + k))
      · refine iT w.symm ?_
        intro v hv; subst hv; rw [nI_1]; exact a w
      · exact iF (fun x => w x.symm) (b w)
    by_cases g : ∀ k, k < nm f (tp f p i) 2 → ai G (y 6 j) k = sb (f (tp f p i + 2 + k))
    · exact pk_loop (fun q k (_ : Unit) => w_Message_textIsName_17 t G (y 8 0) K q (nI i) (y 5 j) (nI k)) (fun _ _ => True) (nm f (tp f p i) 2) 0 () (by omega) trivial (fun q _ _ => ⟨hs.k 5 j hvj, iT (by rw [← e]; exact Int32.le_refl _) (k1 ⟨e.symm, g⟩)⟩) (fun q k _ hk _ ih => step q k hk (fun _ => ih () trivial) (fun w => absurd (g k hk) w))
    · have : ∃ k, k < nm f (tp f p i) 2 ∧ ¬ ai G (y 6 j) k = sb (f (tp f p i + 2 + k)) := Classical.byContradiction fun n => g fun k hk => Classical.byContradiction fun w => n ⟨k, hk, w⟩
      obtain ⟨k, ⟨e1, e2⟩, e3⟩ := pk_least _ this
      exact pk_loop (fun q k (_ : Unit) => w_Message_textIsName_17 t G (y 8 0) K q (nI i) (y 5 j) (nI k)) (fun _ _ => True) k 0 () (by omega) trivial (fun q _ _ => step q k e1 (fun w => absurd w e2) (fun _ => k0 fun w => e2 (w.2 k e1))) (fun q k' _ hk _ ih => step q k' (by omega) (fun _ => ih () trivial) (fun w => absurd ⟨by omega, w⟩ (e3 k' hk)))
  · exact iF e (k0 fun w => e w.1.symm)
variable {T : Nat → Int32} {n np : Nat} {r s : Nat → Nat}
theorem NdR.nl {j k : Nat} (h : NdR t y G T j k) : ∃ l, l ≤ 8 ∧ gi G 10 (y 5 j) = nI l := by
  obtain ⟨-, -, -, -, -, -, -, -, ⟨l, g, a1, a2, -⟩, -⟩ := h
  exact ⟨l, a1, a2⟩
theorem TrR.y20 (h : TrR t y G T n r s np) {i : Nat} (hi : i < n) : r i < 23 := by
  have := h.1
  have := (h.2.2.2.2.1 i (by omega)).2.2
  omega
theorem S_entry1 (h : TrR t y G T n r s np) (hs : SH t y) (hz : FZ y G) (hf : MsF z f) (hM : MsC y G z f) {p c x d : Nat} (hT : TxC y G f p c) (hx : x < c) (hc : c ≤ 4) (hin : tp f p x + 2 + nm f (tp f p x) 2 ≤ z) {K : Option Nat → Prop} {q i : Nat} (hi : i < n) (a : isEnt y G f (tp f p x) d (r i) → K (some (y 5 (r i)))) (b : ¬ isEnt y G f (tp f p x) d (r i) → w_Tree_entry_3 t G (y 2 0) K q (y 5 d) (y 8 0) (nI x) (nI (i + 1))) : w_Tree_entry_3 t G (y 2 0) K (q + 1) (y 5 d) (y 8 0) (nI x) (nI i) := by
  have hn := h.1
  have hr := h.y20 hi
  obtain ⟨l, hl, el⟩ := (h.nd (h.in hi)).2.2.nl
  refine ⟨hs.k 2 0, ?_⟩
  rw [h.2.1]
  have nx : ¬ isEnt y G f (tp f p x) d (r i) → ∀ v3 : Int32, v3 = nI i + 1 → w_Tree_entry_3 t G (y 2 0) K q (y 5 d) (y 8 0) (nI x) v3 := fun w v3 e => by subst e; rw [nI_1]; exact b w
  have ea : ar G (y 16 0) (nI i).toNatClampNeg = some (y 5 (r i)) := by rw [nI_clamp (by omega)]; exact (h.2.2.2.2.1 i (by omega)).1
  refine iF (nI_ge hi (by omega)) ⟨y 16 0, hz.2.1.2.1, hs.k 16 0, by rw [hs.n 16 0]; exact vp_lt (N := 20) (by omega), y 5 (r i), ea, hs.k 5 _ (by simp [yV, hr]), iN ⟨fun e => ⟨hs.k 8 0, ?_⟩, fun e => nx fun w => e w.1⟩⟩
  refine S_textIsName hs hz hf hM hT hx hc hin hr hl el (fun w => iF (by decide) ?_) (fun w => iT rfl (nx fun w' => w w'.2))
  rw [ea]
  exact a ⟨e, w⟩
theorem S_entryY (h : TrR t y G T n r s np) (hs : SH t y) (hz : FZ y G) (hf : MsF z f) (hM : MsC y G z f) {p c x d : Nat} (hT : TxC y G f p c) (hx : x < c) (hc : c ≤ 4) (hin : tp f p x + 2 + nm f (tp f p x) 2 ≤ z) {K : Option Nat → Prop} {i : Nat} (hi : i < n) (he : isEnt y G f (tp f p x) d (r i)) (hl : ∀ k, k < i → ¬ isEnt y G f (tp f p x) d (r k)) (k : K (some (y 5 (r i)))) : w_Tree_entry t G (y 2 0) (y 5 d) (y 8 0) (nI x) K :=
  pk_loop (fun q k (_ : Unit) => w_Tree_entry_3 t G (y 2 0) K q (y 5 d) (y 8 0) (nI x) (nI k)) (fun _ _ => True) i 0 () (by omega) trivial (fun q _ _ => S_entry1 h hs hz hf hM hT hx hc hin hi (fun _ => k) (fun w => absurd he w)) (fun q k' _ hk _ ih => S_entry1 h hs hz hf hM hT hx hc hin (by omega) (fun w => absurd w (hl k' hk)) (fun _ => ih () trivial))
theorem S_entryN (h : TrR t y G T n r s np) (hs : SH t y) (hz : FZ y G) (hf : MsF z f) (hM : MsC y G z f) {p c x d : Nat} (hT : TxC y G f p c) (hx : x < c) (hc : c ≤ 4) (hin : tp f p x + 2 + nm f (tp f p x) 2 ≤ z) {K : Option Nat → Prop} (hl : ∀ k, k < n → ¬ isEnt y G f (tp f p x) d (r k)) (k : K none) : w_Tree_entry t G (y 2 0) (y 5 d) (y 8 0) (nI x) K :=
  pk_loop (fun q k (_ : Unit) => w_Tree_entry_3 t G (y 2 0) K q (y 5 d) (y 8 0) (nI x) (nI k)) (fun _ _ => True) n 0 () (by omega) trivial (fun q _ _ => ⟨hs.k 2 0, iT (by rw [h.2.1]; exact Int32.le_refl _) k⟩) (fun q k' _ hk _ ih => S_entry1 h hs hz hf hM hT hx hc hin (by omega) (fun w => absurd w (hl k' hk)) (fun _ => ih () trivial))
theorem ent_or (y : LYT) (G : GS) (f : Nat → Nat) (q d n : Nat) (r : Nat → Nat) : (∃ i, i < n ∧ isEnt y G f q d (r i) ∧ ∀ k, k < i → ¬ isEnt y G f q d (r k)) ∨ ∀ k, k < n → ¬ isEnt y G f q d (r k) := by
  by_cases h : ∃ k, k < n ∧ isEnt y G f q d (r k)
  · obtain ⟨k, ⟨h1, h2⟩, h4⟩ := pk_least _ h
    exact Or.inl ⟨k, h1, h2, fun q hq w => h4 q hq ⟨by omega, w⟩⟩
  · exact Or.inr fun k hk w => h ⟨k, hk, w⟩
/-- a hit is an entry -/
theorem TrR.hit (h : TrR t y G T n r s np) (hb : np < 2 ^ 31) (hs : SH t y) (hf : ∀ k, f k < 256) {q d k : Nat} (hd : lvN n r d) (h1 : 1 ≤ k) (hk : k < 21) : isHit T f q (s d) k ↔ ∃ i, i < n ∧ s (r i) = k ∧ isEnt y G f q d (r i) := by
  have e0 : s 0 = 0 := h.2.2.2.2.2.2.2.2.2.1
  have ed := (h.nd hd).2.2.2.1
  have hL : nm f q 2 < 256 ^ 2 := nm_lt hf
  have key : ∀ i, i < n → (isHit T f q (s d) (s (r i)) ↔ isEnt y G f q d (r i)) := fun i hi => by
    have hj := h.in hi
    have hr := h.2.2.2.2.1 i (by have := h.1; omega)
    obtain ⟨j', hj', e7, e8, -⟩ := h.home hj (by omega)
    obtain ⟨-, -, N⟩ := h.nd hj
    obtain ⟨N0, -, -, -, -, -, -, -, ⟨l, g, a1, a2, a3, a4, a5⟩, -⟩ := id N
    constructor
    · intro ⟨b1, b2, b3, b4⟩
      rw [e8, ed] at b2
      have : j' = d := h.pinj hb hj' hd b2
      subst this
      rw [a3] at b3
      have eL : l = nm f q 2 := (nI_eq (by omega) (by omega)).mp b3
      subst eL
      refine ⟨e7, a2, fun k hk => ?_⟩
      have := b4 k hk
      rw [show 83 * s (r i) + (10 + k) = 83 * s (r i) + 10 + k by omega, a5 k hk] at this
      have := (nI_eq (by have := (a4 k hk).1; omega) (by have := hf (q + 2 + k); omega)).mp this
      rw [(a4 k hk).2, this]
    · intro ⟨b1, b2, b3⟩
      have : j' = d := y5 hs (by have := h.le hj'; omega) (by have := h.le hd; omega) (Option.some.inj (e7.symm.trans b1))
      subst this
      have eL : l = nm f q 2 := (nI_eq (by omega) (by omega)).mp (a2.symm.trans b2)
      subst eL
      refine ⟨N0, by rw [e8, ed], a3, fun k hk => ?_⟩
      have := b3 k hk
      rw [(a4 k hk).2] at this
      rw [show 83 * s (r i) + (10 + k) = 83 * s (r i) + 10 + k by omega, a5 k hk, sb_inj (a4 k hk).1 (hf _) this]
  constructor
  · intro w
    obtain ⟨j, hj, rfl⟩ := h.slot hk w.1
    rcases hj with rfl | ⟨i, hi, rfl⟩
    · omega
    · exact ⟨i, hi, rfl, (key i hi).mp w⟩
  · intro ⟨i, hi, e, w⟩
    subst e
    exact (key i hi).mpr w
theorem TrR.c9 (h : TrR t y G T n r s np) {k : Nat} (hk : k < 21) (h1 : T (83 * k) = 1) : ∃ l, l ≤ 8 ∧ T (83 * k + 9) = nI l := by
  obtain ⟨j, hj, rfl⟩ := h.slot hk h1
  obtain ⟨-, -, -, -, -, -, -, -, -, -, ⟨l, g, a1, -, a3, -⟩, -⟩ := h.nd hj
  exact ⟨l, a1, a3⟩
/-- one slot of the search -/
theorem M_named1 (hs : SH t y) (hm : FZ y m) (hf : MsF z f) (h : MsM y m z f) {q sd k : Nat} (hq : q + 2 + nm f q 2 ≤ z) (hsd : sd < 21) (hk : k < 21) (h9 : ai m (y 30 70) (83 * k) = 1 → ∃ l, l ≤ 8 ∧ ai m (y 30 70) (83 * k + 9) = nI l) {K : Int32 → Prop} {x : Nat} (a : isHit (ai m (y 30 70)) f q sd k → K (nI k)) (b : ¬ isHit (ai m (y 30 70)) f q sd k → w_M_named_11 t m (y 1 0) K x (nI sd) (nI q) (nI (nm f q 2)) (nI (k + 1))) : w_M_named_11 t m (y 1 0) K (x + 1) (nI sd) (nI q) (nI (nm f q 2)) (nI k) := by
  have hz := hf.2.1
  have no : ¬ isHit (ai m (y 30 70)) f q sd k → w_M_named_62 t m (y 1 0) K (w_M_named_11 t m (y 1 0) K x) (nI sd) (nI q) (nI (nm f q 2)) (nI k) := fun w => by
    have n117 : w_M_named_117 t m (y 1 0) K (w_M_named_11 t m (y 1 0) K x) (nI sd) (nI q) (nI (nm f q 2)) (nI k) 0 := iT rfl (fun v hv => by subst hv; rw [nI_1]; exact b w)
    exact ⟨1, iS ⟨fun _ => n117, fun _ => iT rfl n117⟩⟩
  refine iF (show ¬ nI 21 ≤ nI k from nI_ge hk (by decide)) ⟨hs.k 1 0, M_at0 hs hm hk (iN ⟨fun e1 => ?_, fun e1 => no fun w => e1 w.1⟩)⟩
  refine M_at (c := 8) hs hm hk (by omega) (M_at (c := 1) hs hm hsd (by omega) (iN ⟨fun e8 => ?_, fun e8 => no fun w => e8 w.2.1⟩))
  refine M_at (c := 9) hs hm hk (by omega) (iN ⟨fun e9 => ?_, fun e9 => no fun w => e9 w.2.2.1⟩)
  obtain ⟨l, hl, el⟩ := h9 e1
  have eL : l = nm f q 2 := (nI_eq (by omega) (by omega)).mp (el.symm.trans e9)
  have step : ∀ (v e : Nat), e < nm f q 2 → (ai m (y 30 70) (83 * k + (10 + e)) = nI (f (q + 2 + e)) → w_M_named_68 t m (y 1 0) K (w_M_named_11 t m (y 1 0) K x) v (nI sd) (nI q) (nI (nm f q 2)) (nI k) 1 (nI (e + 1))) → (¬ ai m (y 30 70) (83 * k + (10 + e)) = nI (f (q + 2 + e)) → w_M_named_68 t m (y 1 0) K (w_M_named_11 t m (y 1 0) K x) v (nI sd) (nI q) (nI (nm f q 2)) (nI k) 0 (nI (e + 1))) → w_M_named_68 t m (y 1 0) K (w_M_named_11 t m (y 1 0) K x) (v + 1) (nI sd) (nI q) (nI (nm f q 2)) (nI k) 1 (nI e) := fun v e he c0 c1 => by
    refine iF (nI_ge he (by omega)) (iF (by decide) ⟨hs.k 1 0, ?_⟩)
    rw [show (10 : Int32) + nI e = nI (10 + e) from nI_add 10 e]
    refine M_at (c := 10 + e) hs hm hk (by omega) ?_
    have ei : nI q + 2 + nI e = nI (q + 2 + e) := by rw [show nI q + 2 = nI (q + 2) from nI_add q 2, nI_add]
    refine ⟨y 30 94, hm.m 94, hs.k 30 94, by rw [hs.n 30 94, ei]; exact vp_lt (N := 128) (by omega), ?_⟩
    rw [ei, nI_clamp (by omega), h.2 _ (by omega)]
    refine iN ⟨fun w => ?_, fun w => ?_⟩
    · intro v1 e1; subst e1; rw [nI_1]; exact c0 w
    · intro v1 e1; subst e1; rw [nI_1]; exact c1 w
  by_cases g : ∀ e, e < nm f q 2 → ai m (y 30 70) (83 * k + (10 + e)) = nI (f (q + 2 + e))
  · exact pk_loop (fun v e (_ : Unit) => w_M_named_68 t m (y 1 0) K (w_M_named_11 t m (y 1 0) K x) v (nI sd) (nI q) (nI (nm f q 2)) (nI k) 1 (nI e)) (fun _ _ => True) (nm f q 2) 0 () (by omega) trivial (fun v _ _ => iT (Int32.le_refl _) (iF (by decide) (a ⟨e1, e8, e9, g⟩))) (fun v e _ he _ ih => step v e he (fun _ => ih () trivial) (fun w => absurd (g e he) w))
  · have : ∃ e, e < nm f q 2 ∧ ¬ ai m (y 30 70) (83 * k + (10 + e)) = nI (f (q + 2 + e)) := Classical.byContradiction fun n => g fun k hk => Classical.byContradiction fun w => n ⟨k, hk, w⟩
    obtain ⟨e, ⟨w1, w2⟩, w3⟩ := pk_least _ this
    have n117 : w_M_named_117 t m (y 1 0) K (w_M_named_11 t m (y 1 0) K x) (nI sd) (nI q) (nI (nm f q 2)) (nI k) 0 := iT rfl (fun v hv => by subst hv; rw [nI_1]; exact b fun w => w2 (w.2.2.2 e w1))
    obtain ⟨v, hv⟩ := pk_loop (fun v e (_ : Unit) => w_M_named_68 t m (y 1 0) K (w_M_named_11 t m (y 1 0) K x) (v + 1) (nI sd) (nI q) (nI (nm f q 2)) (nI k) 1 (nI e)) (fun _ _ => True) e 0 () (by omega) trivial (fun v _ _ => step (v + 1) e w1 (fun w => absurd w w2) (fun _ => iS ⟨fun _ => n117, fun _ => iT rfl n117⟩)) (fun v e' _ he _ ih => step (v + 1) e' (by omega) (fun _ => ih () trivial) (fun w => absurd ⟨by omega, w⟩ (w3 e' he)))
    exact ⟨v + 1, hv⟩
theorem M_namedY (hT : TrR t y G (ai m (y 30 70)) n r s np) (hb : np < 2 ^ 31) (hs : SH t y) (hm : FZ y m) (hf : MsF z f) (h : MsM y m z f) {q d : Nat} (hq : q + 2 + nm f q 2 ≤ z) (hd : lvN n r d) {i : Nat} (hi : i < n) (he : isEnt y G f q d (r i)) {K : Int32 → Prop} (k : K (nI (s (r i)))) : w_M_named t m (y 1 0) (nI (s d)) (nI q) K := by
  have x := hT.nd (hT.in hi)
  have hr := hT.2.2.2.2.1 i (by have := hT.1; omega)
  have s1 := x.2.1 (by omega)
  refine ⟨hs.k 1 0, M_get (n := 2) hs hm hf h (by omega) (by omega) ?_⟩
  intro v2 e
  rw [lN_i] at e
  subst e
  have go := fun (v k : Nat) (hk : k < 21) => @M_named1 t y m z f hs hm hf h q (s d) k hq (hT.nd hd).1 hk (hT.c9 hk) K v
  refine pk_loop (fun v k (_ : Unit) => w_M_named_11 t m (y 1 0) K v (nI (s d)) (nI q) (nI (nm f q 2)) (nI k)) (fun k _ => 1 ≤ k) (s (r i)) 1 () (by omega) (by omega) (fun v _ _ => go v _ x.1 (fun _ => k) (fun w => absurd ((hT.hit hb hs hf.2.2.1 hd s1 x.1).mpr ⟨i, hi, rfl, he⟩) w)) (fun v k' _ hk h1 ih => go v _ (by omega) (fun w => ?_) (fun _ => ih () (by omega)))
  obtain ⟨i', hi', e', he'⟩ := (hT.hit hb hs hf.2.2.1 hd h1 (by omega)).mp w
  have : i' = i := hT.2.2.2.2.2.2.2.2.2.2.2.2.2.2.2.1 i' i hi' hi (he'.1.trans he.1.symm) ⟨he'.2.1.trans he.2.1.symm, fun e he2 => by
    have hL : nm f q 2 ≤ 128 := by have := hf.2.1; omega
    rw [he'.2.1, nI_clamp (by omega)] at he2
    rw [he'.2.2 e he2, he.2.2 e he2]⟩
  subst this
  omega
theorem M_namedN (hT : TrR t y G (ai m (y 30 70)) n r s np) (hb : np < 2 ^ 31) (hs : SH t y) (hm : FZ y m) (hf : MsF z f) (h : MsM y m z f) {q d : Nat} (hq : q + 2 + nm f q 2 ≤ z) (hd : lvN n r d) (he : ∀ i, i < n → ¬ isEnt y G f q d (r i)) {K : Int32 → Prop} (k : K (-1)) : w_M_named t m (y 1 0) (nI (s d)) (nI q) K := by
  refine ⟨hs.k 1 0, M_get (n := 2) hs hm hf h (by omega) (by omega) ?_⟩
  intro v2 e
  rw [lN_i] at e
  subst e
  have go := fun (v k : Nat) (hk : k < 21) => @M_named1 t y m z f hs hm hf h q (s d) k hq (hT.nd hd).1 hk (hT.c9 hk) K v
  refine pk_loop (fun v k (_ : Unit) => w_M_named_11 t m (y 1 0) K v (nI (s d)) (nI q) (nI (nm f q 2)) (nI k)) (fun k _ => 1 ≤ k) 21 1 () (by omega) (by omega) (fun v _ _ => ?_) (fun v k' _ hk h1 ih => go v _ (by omega) (fun w => ?_) (fun _ => ih () (by omega)))
  · show w_M_named_11 t m (y 1 0) K (v + 1) (nI (s d)) (nI q) (nI (nm f q 2)) (nI 21)
    unfold w_M_named_11
    exact iT (show (21 : Int32) ≤ nI 21 by decide) k
  · obtain ⟨i', hi', e', he'⟩ := (hT.hit hb hs hf.2.2.1 hd h1 (by omega)).mp w
    exact absurd he' (he i' hi')
end NAMES
