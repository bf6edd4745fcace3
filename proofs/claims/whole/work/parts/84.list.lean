/-! read: the entries of a directory (by hand) -/
section LST
variable {t : TY} {y : LYT} {b c z k j u : Nat} {f : Nat → Nat} {G m : GS} {n np : Nat} {r s : Nat → Nat}
/-- a slot with an entry behind the mark -/
def hitE (T : Nat → Int32) (sd : Nat) (μ : Int32) (q : Nat) : Prop := T (83 * q) = 1 ∧ T (83 * q + 8) = T (83 * sd + 1) ∧ ¬ T (83 * q + 1) ≤ μ
theorem M_entry (hs : SH t y) (hm : FZ y m) {sd : Nat} {μ : Int32} (hsd : sd < 21) {p : Nat → Nat} (hp : ∀ q, q < 21 → hitE (ai m (y 30 70)) sd μ q → ai m (y 30 70) (83 * q + 1) = nI (p q) ∧ p q < 2 ^ 31) {K : Int32 → Prop} (h : ∀ b : Option Nat, (b = none → ∀ q, 1 ≤ q → q < 21 → ¬ hitE (ai m (y 30 70)) sd μ q) → (∀ q, b = some q → 1 ≤ q ∧ q < 21 ∧ hitE (ai m (y 30 70)) sd μ q ∧ ∀ q', 1 ≤ q' → q' < 21 → hitE (ai m (y 30 70)) sd μ q' → p q ≤ p q') → K (uI b)) : w_M_entry t m (y 1 0) (nI sd) μ K := by
  refine pk_loop (fun x i (b : Option Nat) => w_M_entry_5 t m (y 1 0) K x (nI sd) μ (uI b) (nI i)) (fun i b => 1 ≤ i ∧ (b = none → ∀ q, 1 ≤ q → q < i → ¬ hitE (ai m (y 30 70)) sd μ q) ∧ (∀ q, b = some q → 1 ≤ q ∧ q < i ∧ hitE (ai m (y 30 70)) sd μ q ∧ ∀ q', 1 ≤ q' → q' < i → hitE (ai m (y 30 70)) sd μ q' → p q ≤ p q')) 21 1 none (by omega) ⟨by omega, fun _ q h1 h2 => by omega, fun q hq => absurd hq (by simp)⟩ (fun x b hI => ?_) (fun x i b hi hI ih => ?_)
  · show w_M_entry_5 t m (y 1 0) K (x + 1) (nI sd) μ (uI b) (nI 21)
    unfold w_M_entry_5
    exact iT (show (21 : Int32) ≤ nI 21 by decide) (h b hI.2.1 hI.2.2)
  · obtain ⟨i1, hN, hS⟩ := hI
    have nx : ∀ (b' : Option Nat), ((b' = none → ∀ q, 1 ≤ q → q < i + 1 → ¬ hitE (ai m (y 30 70)) sd μ q) ∧ (∀ q, b' = some q → 1 ≤ q ∧ q < i + 1 ∧ hitE (ai m (y 30 70)) sd μ q ∧ ∀ q', 1 ≤ q' → q' < i + 1 → hitE (ai m (y 30 70)) sd μ q' → p q ≤ p q')) → ∀ v : Int32, v = nI i + 1 → w_M_entry_5 t m (y 1 0) K x (nI sd) μ (uI b') v := fun b' hb' v e => by
      subst e; rw [nI_1]; exact ih b' ⟨by omega, hb'⟩
    have no : ¬ hitE (ai m (y 30 70)) sd μ i → w_M_entry_55 t m (y 1 0) K (w_M_entry_5 t m (y 1 0) K x) (nI sd) μ (uI b) (nI i) := fun w => (show w_M_entry_56 t m (y 1 0) K (w_M_entry_5 t m (y 1 0) K x) (nI sd) μ (uI b) (nI i) 0 from iT rfl (nx b ⟨fun e q h1 h2 => by
      by_cases q' : q = i
      · rw [q']; exact w
      · exact hN e q h1 (by omega), fun q e => by
      obtain ⟨a1, a2, a3, a4⟩ := hS q e
      refine ⟨a1, by omega, a3, fun q' h1 h2 h3 => ?_⟩
      by_cases w' : q' = i
      · rw [w'] at h3; exact absurd h3 w
      · exact a4 q' h1 (by omega) h3⟩))
    refine iF (show ¬ nI 21 ≤ nI i from nI_ge hi (by decide)) ⟨hs.k 1 0, M_at0 hs hm hi (iN ⟨fun e1 => ?_, fun e1 => no fun w => e1 w.1⟩)⟩
    refine M_at (c := 8) hs hm hi (by omega) (M_at (c := 1) hs hm hsd (by omega) (iN ⟨fun e8 => ?_, fun e8 => no fun w => e8 w.2.1⟩))
    refine M_at (c := 1) hs hm hi (by omega) (iS ⟨fun e9 => no fun w => w.2.2 e9, fun e9 => ?_⟩)
    have hit : hitE (ai m (y 30 70)) sd μ i := ⟨e1, e8, e9⟩
    obtain ⟨pi, pi31⟩ := hp i hi hit
    have tk' : ∀ b', (∀ q', 1 ≤ q' → q' < i + 1 → hitE (ai m (y 30 70)) sd μ q' → p b' ≤ p q') → 1 ≤ b' → b' < i + 1 → hitE (ai m (y 30 70)) sd μ b' → ∀ v : Int32, v = nI i + 1 → w_M_entry_5 t m (y 1 0) K x (nI sd) μ (uI (some b')) v := fun b' hm' h1 h2 h3 => nx (some b') ⟨fun e => absurd e (by simp), fun q e => by
      obtain rfl := Option.some.inj e
      exact ⟨h1, h2, h3, hm'⟩⟩
    refine iF (by decide) ?_
    cases b with
    | none =>
      refine iT (by decide) (tk' i (fun q' h1 h2 h3 => ?_) i1 (by omega) hit)
      by_cases w : q' = i
      · rw [w]; exact Nat.le_refl _
      · exact absurd h3 (hN rfl q' h1 (by omega))
    | some q =>
      obtain ⟨a1, a2, a3, a4⟩ := hS q rfl
      obtain ⟨pq, pq31⟩ := hp q (by omega) a3
      refine iF (nI_pos (by omega)) ⟨hs.k 1 0, M_at (c := 1) hs hm hi (by omega) ?_⟩
      refine M_at (n := q) (c := 1) hs hm (by omega) (by omega) ?_
      rw [pi, pq]
      by_cases w : p q ≤ p i
      · refine iT (nI_le w pi31) (tk' q (fun q' h1 h2 h3 => ?_) a1 (by omega) a3)
        by_cases w' : q' = i
        · rw [w']; exact w
        · exact a4 q' h1 (by omega) h3
      · refine iF (nI_ge (by omega) pq31) (tk' i (fun q' h1 h2 h3 => ?_) i1 (by omega) hit)
        by_cases w' : q' = i
        · rw [w']; exact Nat.le_refl _
        · have := a4 q' h1 (by omega) h3
          omega
theorem TrR.hitI (h : TrR t y G (ai m (y 30 70)) n r s np) (hb : np < 2 ^ 31) (hs : SH t y) {d q : Nat} {μ : Int32} (hd : lvN n r d) (h1 : 1 ≤ q) (hq : q < 21) : hitE (ai m (y 30 70)) (s d) μ q ↔ ∃ i, i < n ∧ s (r i) = q ∧ gr G 7 (y 5 (r i)) = some (y 5 d) ∧ ¬ gi G 0 (y 5 (r i)) ≤ μ := by
  have e0 : s 0 = 0 := h.2.2.2.2.2.2.2.2.2.1
  have ed := (h.nd hd).2.2.2.1
  have key : ∀ i, i < n → (hitE (ai m (y 30 70)) (s d) μ (s (r i)) ↔ (gr G 7 (y 5 (r i)) = some (y 5 d) ∧ ¬ gi G 0 (y 5 (r i)) ≤ μ)) := fun i hi => by
    have hj := h.in hi
    have hr := h.2.2.2.2.1 i (by have := h.1; omega)
    obtain ⟨j', hj', e7, e8, -⟩ := h.home hj (by omega)
    have N := (h.nd hj).2.2
    unfold hitE
    rw [e8, ed, N.2.1]
    constructor
    · intro ⟨b1, b2, b3⟩
      have : j' = d := h.pinj hb hj' hd b2
      subst this
      exact ⟨e7, b3⟩
    · intro ⟨b1, b2⟩
      have : j' = d := y5 hs (by have := h.le hj'; omega) (by have := h.le hd; omega) (Option.some.inj (e7.symm.trans b1))
      subst this
      exact ⟨N.1, rfl, b2⟩
  constructor
  · intro w
    obtain ⟨j, hj, rfl⟩ := h.slot hq w.1
    rcases hj with rfl | ⟨i, hi, rfl⟩
    · omega
    · exact ⟨i, hi, rfl, (key i hi).mp w⟩
  · intro ⟨i, hi, e, w⟩
    subst e
    exact (key i hi).mpr w
end LST
