/-! staged removal; the log (by hand) -/
section STG
variable {t : TY} {y : LYT} {G m : GS} {T : Nat → Int32} {n np : Nat} {r s : Nat → Nat}
theorem tdK (hs : SH t y) {i j : Nat} (hi : i < 4) (hj : j < 4) (hn : i ≠ j) : some (tad t (i + 3)) ≠ some (tad t (j + 3)) := fun e => hn (hs.2.2.2 i j hi hj (Option.some.inj e))
theorem frT.rm (hs : SH t y) {i0 j0 d : Nat} : frT y G (rmN y G n i0 j0 d) := by
  refine ⟨fun f a hf => ⟨?_, gr_ne (by omega)⟩, fun f a => rfl, fun b => rfl, fun b _ => rfl, fun a => ⟨gr_ne (by omega), gr_ne (by omega), gr_ne (by omega), gr_ne (by omega)⟩, fun b hb => rw_ne hb⟩
  show gi (si (si (si (rw_ G (y 16 0) _) 15 (y 2 0) (nI (n - 1))) 8 (y 5 d) (gi G 8 (y 5 d) - 1)) 0 (y 5 j0) (-1)) f a = _
  rw [gi_ne (by omega), gi_ne (by omega), gi_ne (by omega)]; rfl
theorem frT.ch {a : Nat} {ou : Option Nat} {tm : Int32} : frT y G (chB G a ou tm) := ⟨fun f b hf => ⟨chB_i (by omega) (by omega), chB_r (Or.inl (by omega))⟩, fun f b => rfl, fun b => rfl, fun b _ => rfl, fun b => ⟨chB_r (Or.inl (by omega)), chB_r (Or.inl (by omega)), chB_r (Or.inl (by omega)), chB_r (Or.inl (by omega))⟩, fun b _ => rfl⟩
theorem frT.tr {G1 G2 : GS} (a : frT y G G1) (b : frT y G1 G2) : frT y G G2 := ⟨fun f x h => ⟨(b.1 f x h).1.trans (a.1 f x h).1, (b.1 f x h).2.trans (a.1 f x h).2⟩, fun f x => (b.2.1 f x).trans (a.2.1 f x), fun x => (b.2.2.1 x).trans (a.2.2.1 x), fun x h => (b.2.2.2.1 x h).trans (a.2.2.2.1 x h), fun x => ⟨((b.2.2.2.2.1 x).1).trans (a.2.2.2.2.1 x).1, ((b.2.2.2.2.1 x).2.1).trans (a.2.2.2.2.1 x).2.1, ((b.2.2.2.2.1 x).2.2.1).trans (a.2.2.2.2.1 x).2.2.1, ((b.2.2.2.2.1 x).2.2.2).trans (a.2.2.2.2.1 x).2.2.2⟩, fun x h => (b.2.2.2.2.2 x h).trans (a.2.2.2.2.2 x h)⟩
/-- a removal stands ready -/
theorem stg_rm (h : TrR t y G T n r s np) (hb : np < 2 ^ 31) (hs : SH t y) {i0 d u : Nat} {tm : Int32} (hi0 : i0 < n) (hd : lvN n r d) (hu : u < 3) (e7 : gr G 7 (y 5 (r i0)) = some (y 5 d)) (he : cnt (fun i => decide (gr G 7 (y 5 (r i)) = some (y 5 (r i0)))) n = 0)
    (k21 : gr G 21 (y 4 0) = some (tad t 5)) (k22 : gr G 22 (y 4 0) = some (y 5 (r i0))) (k23 : gr G 23 (y 4 0) = some (tad t u)) (k24 : gi G 24 (y 4 0) = tm) : Stg t y G (cG (cS T (s (r i0)) 0 0) (s d) tm u) n r np np := by
  intro G1 a hz
  have h1 := h.to a.1
  have e7' : gr G1 7 (y 5 (r i0)) = some (y 5 d) := (a.1.1 7 _ (by omega)).2.trans e7
  have he' : cnt (fun i => decide (gr G1 7 (y 5 (r i)) = some (y 5 (r i0)))) n = 0 := by
    have : ∀ i, gr G1 7 (y 5 (r i)) = gr G 7 (y 5 (r i)) := fun i => (a.1.1 7 _ (by omega)).2
    simp only [this]; exact he
  have g21 : gr G1 21 (y 4 0) = some (tad t 5) := (a.2.1 21 _ (by omega) (by omega)).2.trans k21
  have g22 : gr G1 22 (y 4 0) = some (y 5 (r i0)) := (a.2.1 22 _ (by omega) (by omega)).2.trans k22
  have g23 : gr G1 23 (y 4 0) = some (tad t u) := (a.2.1 23 _ (by omega) (by omega)).2.trans k23
  have g24 : gi G1 24 (y 4 0) = tm := (a.2.1 24 _ (by omega) (by omega)).1.trans k24
  obtain ⟨hD, hlv⟩ := h1.del hb hs hi0 hd e7' he'
  have hn20 := h1.1
  have hr0 := h1.2.2.2.2.1 i0 (by omega)
  have hd20 := h1.le hd
  have hdne : d ≠ r i0 := fun z => by
    subst z
    have hc : cnt (fun i => decide (gr G1 7 (y 5 (r i)) = some (y 5 (r i0)))) (i0 + 1) ≤ cnt (fun i => decide (gr G1 7 (y 5 (r i)) = some (y 5 (r i0)))) n := by
      have mono : ∀ b, i0 + 1 ≤ b → cnt (fun i => decide (gr G1 7 (y 5 (r i)) = some (y 5 (r i0)))) (i0 + 1) ≤ cnt (fun i => decide (gr G1 7 (y 5 (r i)) = some (y 5 (r i0)))) b := fun b hb => by
        induction b with
        | zero => omega
        | succ b ih =>
          by_cases q : i0 = b
          · subst q; exact Nat.le_refl _
          · exact Nat.le_trans (ih (by omega)) (Nat.le_add_right _ _)
      exact mono n (by omega)
    rw [← cnt_t (by simp only [decide_eq_true_eq]; exact e7')] at hc
    omega
  have hdl : lvN (n - 1) (rmR r n i0) d := (hlv d).mpr ⟨hd, hdne⟩
  have hC := hD.chg (tm := tm) hb hs hdl hu
  refine ⟨chB (rmN y G1 n i0 (r i0) d) (y 5 d) (some (tad t u)) tm, ⟨(frT.rm hs).tr frT.ch, n - 1, rmR r n i0, s, hC, Or.inl rfl, fun j p hj hp e => ?_⟩, fun K k => ?_⟩
  · rw [chB_i (by omega) (by omega)] at e
    by_cases q : j = r i0
    · subst q
      have : gi (rmN y G1 n i0 (r i0) d) 0 (y 5 (r i0)) = -1 := gi_at
      rw [this] at e
      have : (nI p).toInt = (p : Int) := nI_toInt (by omega)
      rw [← e] at this
      have h9 : (-1 : Int32).toInt = -1 := by decide
      omega
    · have hy : y 5 j ≠ y 5 (r i0) := fun z => q (y5 hs (by omega) (by omega) z)
      have : gi (rmN y G1 n i0 (r i0) d) 0 (y 5 j) = gi G1 0 (y 5 j) := by
        show gi (si (si (si (rw_ G1 (y 16 0) _) 15 (y 2 0) (nI (n - 1))) 8 (y 5 d) (gi G1 8 (y 5 d) - 1)) 0 (y 5 (r i0)) (-1)) 0 (y 5 j) = _
        rw [gi_na hy, gi_ne (by omega), gi_ne (by omega)]; rfl
      rw [this] at e
      refine ⟨e, fun z => (hlv j).mpr ⟨z, q⟩, fun z => ((hlv j).mp z).1, fun z => ?_⟩
      rw [chB_i (by omega) (by omega)] at z
      have g2 : gi (rmN y G1 n i0 (r i0) d) 2 (y 5 j) = gi G1 2 (y 5 j) := by
        show gi (si (si (si (rw_ G1 (y 16 0) (fun k => if k = n - 1 then some (y 5 (r i0)) else shf (ar G1 (y 16 0)) i0 n k)) 15 (y 2 0) (nI (n - 1))) 8 (y 5 d) (gi G1 8 (y 5 d) - 1)) 0 (y 5 (r i0)) (-1)) 2 (y 5 j) = _
        rw [gi_ne (by omega), gi_ne (by omega), gi_ne (by omega)]; rfl
      rw [g2] at z; exact z
  · refine ⟨hs.k 4 0, iT (by rw [g22]; simp) (iT (by rw [g21]; exact tdK hs (i := 2) (j := 0) (by omega) (by omega) (by omega)) (iT (by rw [g21]; exact tdK hs (i := 2) (j := 1) (by omega) (by omega) (by omega)) (iT (by rw [g21]; exact tdK hs (i := 2) (j := 3) (by omega) (by omega) (by omega)) ⟨y 5 (r i0), g22, hs.k 5 _ (by simp [yV]; omega), iF (by rw [e7']; simp) ⟨hs.k 2 0, y 5 d, e7', ?_⟩⟩)))⟩
    refine h1.remove hs hz hi0 hd20 ⟨hs.k 5 _ (by simp [yV]; omega), ?_⟩
    have q23 : gr (rmN y G1 n i0 (r i0) d) 23 (y 4 0) = some (tad t u) := (gr_ne (by omega)).trans g23
    have q24 : gi (rmN y G1 n i0 (r i0) d) 24 (y 4 0) = tm := ((frT.rm hs).1 24 _ (by omega)).1.trans g24
    rw [q23, q24]
    exact S_changeBy hs (by omega) k
/-- what a size takes of blocks in the log -/
def lgB (z : Nat) : Nat := (z + 15) / 16
theorem lgB_e {z : Nat} (hz : z < 2 ^ 30) : (nI z + 15) / 16 = nI (lgB z) := by
  unfold lgB
  rw [show (15 : Int32) = nI 15 from rfl, show (16 : Int32) = nI 16 from rfl, nI_add, pk_div (by omega) (by omega) (by omega)]
/-- the state behind an admitted change -/
def adY (y : LYT) (G : GS) (z : Nat) : GS := si (si G 18 (y 3 0) (-1)) 17 (y 3 0) (gi G 17 (y 3 0) + (nI (lgB z) + 2))
/-- .. behind one that was cut -/
def adN (y : LYT) (G : GS) (z : Nat) : GS := si (si (si (si G 18 (y 3 0) (-1)) 17 (y 3 0) (gi G 17 (y 3 0) + gi G 18 (y 3 0))) 20 (y 3 0) (if gi G 18 (y 3 0) = nI (lgB z) + 1 then 1 else 0)) 19 (y 3 0) 0
theorem S_admits (hs : SH t y) {z : Nat} (hz : z < 2 ^ 30) {K : GS → Int32 → Prop} (k1 : (gi G 18 (y 3 0) < 0 ∨ ¬ gi G 18 (y 3 0) < nI (lgB z) + 2) → K (adY y G z) 1) (k0 : ¬ gi G 18 (y 3 0) < 0 → gi G 18 (y 3 0) < nI (lgB z) + 2 → K (adN y G z) 0) : w_Log_admits t G (y 3 0) (nI z) K := by
  intro v1 e1 v2 e2
  refine ⟨hs.k 3 0, ?_⟩
  intro v3 e3 G4 e4
  rw [lgB_e hz] at e1
  subst e1 e2 e3 e4
  have yes : (gi G 18 (y 3 0) < 0 ∨ ¬ gi G 18 (y 3 0) < nI (lgB z) + 2) → w_Log_admits_34 t (y 3 0) K (nI (lgB z) + 2) (si G 18 (y 3 0) (-1)) := fun h => ⟨hs.k 3 0, fun G1 e => by rw [gi_ne (by omega)] at e; subst e; exact k1 h⟩
  refine iS ⟨fun h => yes (Or.inl h), fun h => iS ⟨fun h2 => ?_, fun h2 => yes (Or.inr h2)⟩⟩
  intro G5 e5
  rw [gi_ne (by omega)] at e5
  subst e5
  refine iN ⟨fun q => ?_, fun q => ?_⟩
  · refine ⟨y 3 0, rfl, hs.k 3 0, Or.inr rfl, fun G2 e2 => ⟨hs.k 3 0, fun G3 e3 => ?_⟩⟩
    subst e2 e3
    have := k0 h h2
    unfold adN at this
    rw [if_pos q] at this
    exact this
  · refine ⟨y 3 0, rfl, hs.k 3 0, Or.inl rfl, fun G2 e2 => ⟨hs.k 3 0, fun G3 e3 => ?_⟩⟩
    subst e2 e3
    have := k0 h h2
    unfold adN at this
    rw [if_neg q] at this
    exact this
/-- the reference: admitted -/
def cmY (y : LYT) (m : GS) (z : Nat) : GS := si (si m 76 (y 1 0) (-1)) 77 (y 1 0) (gi m 77 (y 1 0) + (nI (lgB z) + 2))
theorem M_commitY (hs : SH t y) {z : Nat} (hz : z < 2 ^ 30) (h : gi m 76 (y 1 0) < 0 ∨ ¬ gi m 76 (y 1 0) < nI (lgB z) + 2) {K : GS → Int32 → Prop} (k : K (cmY y m z) 1) : w_M_commit t m (y 1 0) (nI z) K := by
  intro v1 e1
  refine ⟨hs.k 1 0, ?_⟩
  intro v2 e2 G3 e3
  rw [lgB_e hz] at e1
  subst e1 e2 e3
  have yes : w_M_commit_29 t (y 1 0) K (nI (lgB z)) (si m 76 (y 1 0) (-1)) := ⟨hs.k 1 0, fun G1 e => by rw [gi_ne (by omega)] at e; subst e; exact k⟩
  refine iS ⟨fun _ => yes, fun h1 => iS ⟨fun h2 => ?_, fun _ => yes⟩⟩
  rcases h with h | h
  · exact absurd h h1
  · exact absurd h2 h
end STG
