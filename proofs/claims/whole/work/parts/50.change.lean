/-! changes of the tree: a node changes; a node goes (by hand) -/
def cS (T : Nat → Int32) (n c : Nat) (v : Int32) : Nat → Int32 := fun k => if k = 83 * n + c then v else T k
def cG (T : Nat → Int32) (n : Nat) (tm : Int32) (u : Nat) : Nat → Int32 := cS (cS (cS T n 2 (T (83 * n + 2) + 1)) n 4 tm) n 7 (nI u)
theorem cS_ne {T : Nat → Int32} {n c k : Nat} {v : Int32} (h : k ≠ 83 * n + c) : cS T n c v k = T k := if_neg h
theorem cS_at {T : Nat → Int32} {n c : Nat} {v : Int32} : cS T n c v (83 * n + c) = v := if_pos rfl
theorem cG_ne {T : Nat → Int32} {n k u : Nat} {tm : Int32} (h2 : k ≠ 83 * n + 2) (h4 : k ≠ 83 * n + 4) (h7 : k ≠ 83 * n + 7) : cG T n tm u k = T k := by unfold cG; rw [cS_ne h7, cS_ne h4, cS_ne h2]
theorem cG_2 {T : Nat → Int32} {n u : Nat} {tm : Int32} : cG T n tm u (83 * n + 2) = T (83 * n + 2) + 1 := by unfold cG; rw [cS_ne (by omega), cS_ne (by omega), cS_at]
theorem cG_4 {T : Nat → Int32} {n u : Nat} {tm : Int32} : cG T n tm u (83 * n + 4) = tm := by unfold cG; rw [cS_ne (by omega), cS_at]
theorem cG_7 {T : Nat → Int32} {n u : Nat} {tm : Int32} : cG T n tm u (83 * n + 7) = nI u := cS_at
/-- what changeBy makes of the state -/
def chB (G : GS) (a : Nat) (ou : Option Nat) (tm : Int32) : GS := sr (si (si G 1 a (gi G 1 a + 1)) 3 a tm) 6 a ou
theorem S_changeBy {t : TY} {y : LYT} {G : GS} (hs : SH t y) {j : Nat} (hj : j < 23) {ou : Option Nat} {tm : Int32} {K : GS → Prop} (h : K (chB G (y 5 j) ou tm)) : w_Node_changeBy t G (y 5 j) ou tm K := ⟨hs.k 5 j (by simp [yV, hj]), fun G1 e1 G2 e2 G3 e3 => by subst e1 e2 e3; exact h⟩
theorem chB_i {G : GS} {a f b : Nat} {ou : Option Nat} {tm : Int32} (h : f ≠ 1) (h3 : f ≠ 3) : gi (chB G a ou tm) f b = gi G f b := (gi_ne h3).trans (gi_ne h)
theorem chB_n {G : GS} {a f b : Nat} {ou : Option Nat} {tm : Int32} (h : b ≠ a) : gi (chB G a ou tm) f b = gi G f b := (gi_na h).trans (gi_na h)
theorem chB_1 {G : GS} {a : Nat} {ou : Option Nat} {tm : Int32} : gi (chB G a ou tm) 1 a = gi G 1 a + 1 := by
  show gi (si (si G 1 a (gi G 1 a + 1)) 3 a tm) 1 a = _
  rw [gi_ne (by omega), gi_at]
theorem chB_3 {G : GS} {a : Nat} {ou : Option Nat} {tm : Int32} : gi (chB G a ou tm) 3 a = tm := gi_at
theorem chB_r {G : GS} {a f b : Nat} {ou : Option Nat} {tm : Int32} (h : f ≠ 6 ∨ b ≠ a) : gr (chB G a ou tm) f b = gr G f b := by
  rcases h with h | h
  · exact gr_ne h
  · exact gr_na h
theorem chB_6 {G : GS} {a : Nat} {ou : Option Nat} {tm : Int32} : gr (chB G a ou tm) 6 a = ou := gr_at
section CHG
variable {t : TY} {y : LYT} {G : GS} {T : Nat → Int32} {n np : Nat} {r s : Nat → Nat}
theorem y5 (hs : SH t y) {j j' : Nat} (h : j ≤ 22) (h' : j' ≤ 22) (e : y 5 j = y 5 j') : j = j' := ((hs.2.1 5 j 5 j' (by simp [yV]; omega) (by simp [yV]; omega)).mp e).2
/-- a node of the tree changes -/
theorem TrR.chg (h : TrR t y G T n r s np) (hb : np < 2 ^ 31) (hs : SH t y) {d u : Nat} {tm : Int32} (hd : lvN n r d) (hu : u < 3) : TrR t y (chB G (y 5 d) (some (tad t u)) tm) (cG T (s d) tm u) n r s np := by
  have hle : ∀ j, lvN n r j → j ≤ 20 := fun j hj => h.le hj
  have hsl : ∀ j, lvN n r j → s j < 21 := fun j hj => (h.nd hj).1
  have sinj : ∀ j, lvN n r j → j ≠ d → s j ≠ s d := fun j hj hn e => hn (h.sinj hb hj hd e)
  have yne : ∀ j, lvN n r j → j ≠ d → y 5 j ≠ y 5 d := fun j hj hn e => hn (y5 hs (by have := hle j hj; omega) (by have := hle d hd; omega) e)
  have hd21 := hsl d hd
  obtain ⟨h1, h2, h3, h4, h5, h6, ⟨p, h7, h8⟩, h9, h10, h11, h12, h13, h14, h15, h16, h17, h18⟩ := h
  refine ⟨h1, (chB_i (by omega) (by omega)).trans h2, h3, (chB_i (by omega) (by omega)).trans h4, h5, h6, ⟨p, fun i hi => ⟨(chB_i (by omega) (by omega)).trans (h7 i hi).1, (h7 i hi).2⟩, h8⟩, fun i hi hi2 => (chB_i (by omega) (by omega)).trans (h9 i hi hi2), (chB_i (by omega) (by omega)).trans h10, h11, fun j hj => ?_, fun k hk => ?_, ?_, fun i hi => ?_, fun j hj => ?_, fun i i' hi hi' e1 e2 => ?_, fun j hj => ?_⟩
  · obtain ⟨x1, x2, a1, a2, a3, a4, a5, a6, a7, a8, ⟨l, f, b1, b2, b3, b4, b5⟩, ⟨l', f', c1, c2, c3, c4, c5⟩⟩ := h12 j hj
    refine ⟨x1, x2, ?_⟩
    by_cases q : j = d
    · subst q
      refine ⟨(cG_ne (by omega) (by omega) (by omega)).trans a1, ?_, ?_, ?_, ?_, ?_, ?_, ?_, ⟨l, f, b1, (chB_i (by omega) (by omega)).trans b2, (cG_ne (by omega) (by omega) (by omega)).trans b3, b4, fun k hk => (cG_ne (by omega) (by omega) (by omega)).trans (b5 k hk)⟩, ⟨l', f', c1, (chB_i (by omega) (by omega)).trans c2, (cG_ne (by omega) (by omega) (by omega)).trans c3, c4, fun k hk => (cG_ne (by omega) (by omega) (by omega)).trans (c5 k hk)⟩⟩
      · rw [cG_ne (by omega) (by omega) (by omega), chB_i (by omega) (by omega)]; exact a2
      · rw [cG_2, chB_1, a3]
      · rw [cG_ne (by omega) (by omega) (by omega), chB_i (by omega) (by omega)]; exact a4
      · rw [cG_4, chB_3]
      · rw [cG_ne (by omega) (by omega) (by omega), chB_r (Or.inl (by omega))]; exact a6
      · rw [cG_ne (by omega) (by omega) (by omega), chB_r (Or.inl (by omega))]; exact a7
      · exact ⟨u, hu, chB_6, cG_7⟩
    · have z := sinj j hj q
      have w := yne j hj q
      refine ⟨(cG_ne (by omega) (by omega) (by omega)).trans a1, ?_, ?_, ?_, ?_, ?_, ?_, ?_, ⟨l, f, b1, (chB_n w).trans b2, (cG_ne (by omega) (by omega) (by omega)).trans b3, b4, fun k hk => (cG_ne (by omega) (by omega) (by omega)).trans (b5 k hk)⟩, ⟨l', f', c1, (chB_n w).trans c2, (cG_ne (by omega) (by omega) (by omega)).trans c3, c4, fun k hk => (cG_ne (by omega) (by omega) (by omega)).trans (c5 k hk)⟩⟩
      · rw [cG_ne (by omega) (by omega) (by omega), chB_n w]; exact a2
      · rw [cG_ne (by omega) (by omega) (by omega), chB_n w]; exact a3
      · rw [cG_ne (by omega) (by omega) (by omega), chB_n w]; exact a4
      · rw [cG_ne (by omega) (by omega) (by omega), chB_n w]; exact a5
      · rw [cG_ne (by omega) (by omega) (by omega), chB_r (Or.inr w)]; exact a6
      · rw [cG_ne (by omega) (by omega) (by omega), chB_r (Or.inr w)]; exact a7
      · rw [cG_ne (by omega) (by omega) (by omega), chB_r (Or.inr w)]; exact a8
  · rw [cG_ne (by omega) (by omega) (by omega)]; exact h13 k hk
  · rw [cG_ne (by omega) (by omega) (by omega), chB_r (Or.inl (by omega)), tBl_eq (fun a => by rw [chB_i (by omega) (by omega)]) (fun a => chB_r (Or.inl (by omega))) (fun a => chB_i (by omega) (by omega))]; exact h14
  · obtain ⟨j, x1, x2, x3, x4⟩ := h15 i hi
    have := hsl (r i) (Or.inr ⟨i, hi, rfl⟩)
    exact ⟨j, x1, (chB_r (Or.inl (by omega))).trans x2, by rw [cG_ne (by omega) (by omega) (by omega), chB_i (by omega) (by omega)]; exact x3, by rw [chB_i (by omega) (by omega)]; exact x4⟩
  · rw [chB_i (by omega) (by omega)]
    have : ∀ i, gr (chB G (y 5 d) (some (tad t u)) tm) 7 (y 5 (r i)) = gr G 7 (y 5 (r i)) := fun i => chB_r (Or.inl (by omega))
    simp only [this]
    exact h16 j hj
  · rw [chB_r (Or.inl (by omega)), chB_r (Or.inl (by omega))] at e1
    obtain ⟨z1, z2⟩ := e2
    rw [chB_i (by omega) (by omega), chB_i (by omega) (by omega)] at z1
    rw [chB_i (by omega) (by omega)] at z2
    exact h17 i i' hi hi' e1 ⟨z1, z2⟩
  · obtain ⟨l, x1, x2, x3⟩ := h18 j hj
    exact ⟨l, x1, (chB_i (by omega) (by omega)).trans x2, x3⟩
/-- the array of references as a whole -/
def rw_ (G : GS) (a : Nat) (f : Nat → Option Nat) : GS := (G.1, G.2.1, G.2.2.1, G.2.2.2.1, G.2.2.2.2.1, fun c => if c = a then f else ar G c)
theorem rw_at {G : GS} {a : Nat} {f : Nat → Option Nat} : ar (rw_ G a f) a = f := if_pos rfl
theorem rw_ne {G : GS} {a b : Nat} {f : Nat → Option Nat} (h : b ≠ a) : ar (rw_ G a f) b = ar G b := if_neg h
theorem rw_ars {G : GS} {a j : Nat} {x : Option Nat} {f : Nat → Option Nat} : ars (rw_ G a f) a j x = rw_ G a (fun k => if k = j then x else f k) := by
  have : u2 (fun c => if c = a then f else ar G c) a j x = (fun c => if c = a then (fun k => if k = j then x else f k) else ar G c) := by
    funext c k
    unfold u2
    by_cases q : c = a
    · subst q
      by_cases q2 : k = j
      · rw [if_pos ⟨rfl, q2⟩, if_pos rfl, if_pos q2]
      · rw [if_neg (fun z => q2 z.2), if_pos rfl, if_neg q2]
        show (if c = c then f else ar G c) k = f k
        rw [if_pos rfl]
    · rw [if_neg (fun z => q z.1), if_neg q]
      show (if c = a then f else ar G c) k = ar G c k
      rw [if_neg q]
  show (G.1, G.2.1, G.2.2.1, G.2.2.2.1, G.2.2.2.2.1, u2 (fun c => if c = a then f else ar G c) a j x) = _
  rw [this]; rfl
theorem rw_self {G : GS} {a : Nat} : rw_ G a (ar G a) = G := by
  have : (fun c => if c = a then ar G a else ar G c) = (fun c => ar G c) := by
    funext c
    by_cases q : c = a
    · rw [if_pos q, q]
    · rw [if_neg q]
  show (G.1, G.2.1, G.2.2.1, G.2.2.2.1, G.2.2.2.2.1, (fun c => if c = a then ar G a else ar G c)) = G
  rw [this]; rfl
/-- the array with place i0 closed up, as far as i -/
def shf (A : Nat → Option Nat) (i0 i : Nat) : Nat → Option Nat := fun k => if i0 ≤ k ∧ k + 1 < i then A (k + 1) else A k
/-- what remove makes of the state -/
def rmN (y : LYT) (G : GS) (n i0 j0 d : Nat) : GS := sr (si (si (si (rw_ G (y 16 0) (fun k => if k = n - 1 then some (y 5 j0) else shf (ar G (y 16 0)) i0 n k)) 15 (y 2 0) (nI (n - 1))) 8 (y 5 d) (gi G 8 (y 5 d) - 1)) 0 (y 5 j0) (-1)) 7 (y 5 j0) none
theorem TrR.remove (h : TrR t y G T n r s np) (hs : SH t y) (hz : FZ y G) {i0 d : Nat} (hi0 : i0 < n) (hd : d ≤ 20) {K : GS → Prop} (k : K (rmN y G n i0 (r i0) d)) : w_Tree_remove t G (y 2 0) (y 5 (r i0)) (y 5 d) K := by
  obtain ⟨h1, h2, h3, h4, h5, h6, -⟩ := h
  have hr0 := h5 i0 (by omega)
  have hv : yV 5 (r i0) = true := by simp [yV]; omega
  have hvd : yV 5 d = true := by simp [yV]; omega
  have key := pk_loop (fun q i (_ : Unit) => w_Tree_remove_5 t (y 2 0) K q (y 5 (r i0)) (y 5 d) (nI (if i ≤ i0 then i else i - 1)) (nI i) (rw_ G (y 16 0) (shf (ar G (y 16 0)) i0 i))) (fun _ _ => True) n 0 () (by omega) trivial (fun q _ _ => ?_) (fun q i _ hi _ ih => ?_)
  · obtain ⟨q, hq⟩ := key
    refine ⟨q, ?_⟩
    have hq : w_Tree_remove_5 t (y 2 0) K q (y 5 (r i0)) (y 5 d) (nI (if 0 ≤ i0 then 0 else 0 - 1)) (nI 0) (rw_ G (y 16 0) (shf (ar G (y 16 0)) i0 0)) := hq
    have e : shf (ar G (y 16 0)) i0 0 = ar G (y 16 0) := funext fun k => if_neg (by omega)
    rw [if_pos (Nat.zero_le _), e, rw_self] at hq
    exact hq
  · rw [if_neg (by omega)]
    have e15 : gi (rw_ G (y 16 0) (shf (ar G (y 16 0)) i0 n)) 15 (y 2 0) = nI n := h2
    refine ⟨hs.k 2 0, ?_⟩
    rw [e15]
    refine iT (Int32.le_refl _) (iF (nI_ge (by omega) (by omega)) ⟨y 16 0, hz.2.1.2.1, hs.k 16 0, by rw [hs.n 16 0]; exact vp_lt (N := 20) (by omega), hs.k 5 _ hv, ?_⟩)
    intro G2 e2 G3 e3
    refine ⟨hs.k 5 d hvd, ?_⟩
    intro G4 e4 G5 e5 G6 e6
    rw [nI_clamp (by omega), rw_ars] at e2
    subst e2 e3 e4 e5 e6
    rw [gi_ne (by omega)]
    exact k
  · have e15 : gi (rw_ G (y 16 0) (shf (ar G (y 16 0)) i0 i)) 15 (y 2 0) = nI n := h2
    have hri := h5 i (by omega)
    have ei : ar (rw_ G (y 16 0) (shf (ar G (y 16 0)) i0 i)) (y 16 0) i = some (y 5 (r i)) := by
      rw [rw_at]; show (if i0 ≤ i ∧ i + 1 < i then _ else _) = _; rw [if_neg (by omega)]; exact hri.1
    refine ⟨hs.k 2 0, ?_⟩
    rw [e15]
    refine iF (nI_ge hi (by omega)) ⟨y 16 0, hz.2.1.2.1, hs.k 16 0, by rw [hs.n 16 0]; exact vp_lt (N := 20) (by omega), ?_⟩
    rw [nI_clamp (by omega), ei]
    refine iS ⟨fun q => ?_, fun q => ?_⟩
    · have ii : i = i0 := h6 i i0 (by omega) (by omega) (y5 hs (by omega) (by omega) (Option.some.inj q))
      intro v hv; subst hv
      have := ih () trivial
      have e : shf (ar G (y 16 0)) i0 (i + 1) = shf (ar G (y 16 0)) i0 i := funext fun k => by unfold shf; rw [if_neg (by omega), if_neg (by omega)]
      rw [e, if_neg (by omega), ← nI_1 i, Nat.add_sub_cancel] at this
      rw [if_pos (by omega)]
      exact this
    · have ii : i ≠ i0 := fun e => q (by rw [e])
      refine ⟨by rw [hs.n 16 0]; exact vp_lt (N := 20) (by split <;> omega), y 5 (r i), rfl, hs.k 5 _ (by simp [yV]; omega), ?_⟩
      intro G10 e10 v11 h11 v12 h12
      subst h11 h12
      rw [nI_clamp (by split <;> omega), rw_ars] at e10
      subst e10
      have := ih () trivial
      by_cases qi : i ≤ i0
      · have e : (fun k => if k = i then some (y 5 (r i)) else shf (ar G (y 16 0)) i0 i k) = shf (ar G (y 16 0)) i0 (i + 1) := funext fun k => by
          by_cases z : k = i
          · subst z; rw [if_pos rfl]; unfold shf; rw [if_neg (by omega)]; exact hri.1.symm
          · rw [if_neg z]; unfold shf
            by_cases z2 : i0 ≤ k ∧ k + 1 < i
            · rw [if_pos z2, if_pos (by omega)]
            · rw [if_neg z2, if_neg (by omega)]
        rw [if_pos qi, e, nI_1]
        rw [if_pos (by omega)] at this
        exact this
      · have e : (fun k => if k = i - 1 then some (y 5 (r i)) else shf (ar G (y 16 0)) i0 i k) = shf (ar G (y 16 0)) i0 (i + 1) := funext fun k => by
          by_cases z : k = i - 1
          · subst z; rw [if_pos rfl]; unfold shf; rw [if_pos (by omega), show i - 1 + 1 = i by omega]; exact hri.1.symm
          · rw [if_neg z]; unfold shf
            by_cases z2 : i0 ≤ k ∧ k + 1 < i
            · rw [if_pos z2, if_pos (by omega)]
            · rw [if_neg z2, if_neg (by omega)]
        rw [if_neg qi, e, nI_1, nI_1, show i - 1 + 1 = i by omega]
        rw [if_neg (by omega), Nat.add_sub_cancel] at this
        exact this
/-- the numbers behind remove -/
def rmR (r : Nat → Nat) (n i0 : Nat) : Nat → Nat := fun i => if i = n - 1 then r i0 else if i0 ≤ i ∧ i + 1 < n then r (i + 1) else r i
/-- place i behind remove was place .. before -/
def rmI (i0 i : Nat) : Nat := if i0 ≤ i then i + 1 else i
theorem rmR_lt {r : Nat → Nat} {n i0 i : Nat} (hi0 : i0 < n) (hi : i < n - 1) : rmR r n i0 i = r (rmI i0 i) ∧ rmI i0 i < n ∧ rmI i0 i ≠ i0 := by
  unfold rmR rmI
  rw [if_neg (by omega)]
  by_cases q : i0 ≤ i
  · rw [if_pos ⟨q, by omega⟩, if_pos q]; exact ⟨rfl, by omega, by omega⟩
  · rw [if_neg (fun z => q z.1), if_neg q]; exact ⟨rfl, by omega, by omega⟩
theorem rmI_of {n i0 i : Nat} (hi0 : i0 < n) (hi : i < n) (hne : i ≠ i0) : ∃ k, k < n - 1 ∧ rmI i0 k = i := by
  by_cases q : i < i0
  · exact ⟨i, by omega, if_neg (by omega)⟩
  · exact ⟨i - 1, by omega, by unfold rmI; rw [if_pos (by omega)]; omega⟩
theorem cnt_rm {P : Nat → Bool} {i0 : Nat} : ∀ {n : Nat}, i0 < n → cnt P n = cnt (fun i => P (rmI i0 i)) (n - 1) + (if P i0 = true then 1 else 0)
  | n + 1, h => by
    show cnt P n + _ = _
    by_cases q : i0 = n
    · subst q
      have : cnt P i0 = cnt (fun i => P (rmI i0 i)) (i0 + 1 - 1) := by
        have e : ∀ k, k ≤ i0 → cnt P k = cnt (fun i => P (rmI i0 i)) k := by
          intro k
          induction k with
          | zero => intro _; rfl
          | succ k ih => intro hk; show cnt P k + (if P k = true then 1 else 0) = cnt _ k + (if P (rmI i0 k) = true then 1 else 0); rw [ih (by omega), show rmI i0 k = k from if_neg (by omega)]
        exact e i0 (Nat.le_refl _)
      rw [this]
    · have ih := cnt_rm (P := P) (i0 := i0) (n := n) (by omega)
      have e : cnt (fun i => P (rmI i0 i)) (n + 1 - 1) = cnt (fun i => P (rmI i0 i)) (n - 1) + (if P n = true then 1 else 0) := by
        obtain ⟨k, rfl⟩ : ∃ k, n = k + 1 := ⟨n - 1, by omega⟩
        show cnt _ k + (if P (rmI i0 k) = true then 1 else 0) = _
        rw [show rmI i0 k = k + 1 from if_pos (by omega)]; rfl
      rw [e]; omega
theorem sm_rm {w : Nat → Nat} {i0 : Nat} : ∀ {n : Nat}, i0 < n → sm w n = sm (fun i => w (rmI i0 i)) (n - 1) + w i0
  | n + 1, h => by
    show sm w n + w n = _
    by_cases q : i0 = n
    · subst q
      have : sm w i0 = sm (fun i => w (rmI i0 i)) (i0 + 1 - 1) := sm_congr fun i hi => by rw [show rmI i0 i = i from if_neg (by omega)]
      rw [this]
    · have ih := sm_rm (w := w) (i0 := i0) (n := n) (by omega)
      have e : sm (fun i => w (rmI i0 i)) (n + 1 - 1) = sm (fun i => w (rmI i0 i)) (n - 1) + w n := by
        obtain ⟨k, rfl⟩ : ∃ k, n = k + 1 := ⟨n - 1, by omega⟩
        show sm _ k + w (rmI i0 k) = _
        rw [show rmI i0 k = k + 1 from if_pos (by omega)]; rfl
      rw [e]; omega
theorem sm_mono {w v : Nat → Nat} : ∀ {n : Nat}, (∀ i, i < n → w i ≤ v i) → sm w n ≤ sm v n
  | 0, _ => Nat.le_refl _
  | n + 1, h => by
    have := sm_mono (w := w) (v := v) (n := n) (fun i hi => h i (by omega))
    have := h n (by omega)
    show sm w n + w n ≤ sm v n + v n
    omega
/-- a node without entries goes -/
theorem TrR.del (h : TrR t y G T n r s np) (hb : np < 2 ^ 31) (hs : SH t y) {i0 d : Nat} (hi0 : i0 < n) (hd : lvN n r d) (e7 : gr G 7 (y 5 (r i0)) = some (y 5 d)) (he : cnt (fun i => decide (gr G 7 (y 5 (r i)) = some (y 5 (r i0)))) n = 0) : TrR t y (rmN y G n i0 (r i0) d) (cS T (s (r i0)) 0 0) (n - 1) (rmR r n i0) s np ∧ (∀ j, lvN (n - 1) (rmR r n i0) j ↔ (lvN n r j ∧ j ≠ r i0)) := by
  have hl0 : lvN n r (r i0) := h.in hi0
  have hle : ∀ j, lvN n r j → j ≤ 20 := fun j hj => h.le hj
  have hnd := fun j (hj : lvN n r j) => h.nd hj
  have sinj : ∀ j, lvN n r j → j ≠ r i0 → s j ≠ s (r i0) := fun j hj hn e => hn (h.sinj hb hj hl0 e)
  have h0' : s (r i0) < 21 := (hnd _ hl0).1
  obtain ⟨h1, h2, h3, h4, h5, h6, ⟨p, h7, h8⟩, h9, h10, h11, h12, h13, h14, h15, h16, h17, h18⟩ := h
  have hr : ∀ i, i < 20 → 1 ≤ r i ∧ r i ≤ 20 := fun i hi => (h5 i hi).2
  have hlv : ∀ j, lvN (n - 1) (rmR r n i0) j ↔ (lvN n r j ∧ j ≠ r i0) := fun j => by
    constructor
    · rintro (rfl | ⟨i, hi, rfl⟩)
      · exact ⟨Or.inl rfl, by have := hr i0 (by omega); omega⟩
      · obtain ⟨a, b, c⟩ := rmR_lt (r := r) hi0 hi
        rw [a]
        exact ⟨Or.inr ⟨_, b, rfl⟩, fun z => c (h6 _ _ (by omega) (by omega) z)⟩
    · rintro ⟨rfl | ⟨i, hi, rfl⟩, hne⟩
      · exact Or.inl rfl
      · obtain ⟨k, hk, rfl⟩ := rmI_of hi0 hi (fun z => hne (by rw [z]))
        exact Or.inr ⟨k, hk, (rmR_lt hi0 hk).1⟩
  -- what the state holds
  have yne : ∀ j, j ≤ 20 → j ≠ r i0 → y 5 j ≠ y 5 (r i0) := fun j hj hn e => hn (y5 hs (by omega) (by have := hr i0 (by omega); omega) e)
  have y2 : ∀ j, j ≤ 20 → y 5 j ≠ y 2 0 := fun j hj => hs.ne (by omega) (by simp [yV]; omega) rfl
  have hd20 := hle d hd
  have hr0 := hr i0 (by omega)
  obtain ⟨E, eE⟩ : ∃ E, E = rmN y G n i0 (r i0) d := ⟨_, rfl⟩
  rw [← eE]
  have gI : ∀ f j, j ≤ 20 → f ≠ 0 → f ≠ 8 → gi E f (y 5 j) = gi G f (y 5 j) := fun f j hj q0 q8 => by
    rw [eE]
    show gi (si (si (si (rw_ G (y 16 0) (fun k => if k = n - 1 then some (y 5 (r i0)) else shf (ar G (y 16 0)) i0 n k)) 15 (y 2 0) (nI (n - 1))) 8 (y 5 d) (gi G 8 (y 5 d) - 1)) 0 (y 5 (r i0)) (-1)) f (y 5 j) = _
    rw [gi_ne q0, gi_ne q8, gi_na (y2 j hj)]; rfl
  have g0 : ∀ j, j ≤ 20 → j ≠ r i0 → gi E 0 (y 5 j) = gi G 0 (y 5 j) := fun j hj hn => by
    rw [eE]
    show gi (si (si (si (rw_ G (y 16 0) (fun k => if k = n - 1 then some (y 5 (r i0)) else shf (ar G (y 16 0)) i0 n k)) 15 (y 2 0) (nI (n - 1))) 8 (y 5 d) (gi G 8 (y 5 d) - 1)) 0 (y 5 (r i0)) (-1)) 0 (y 5 j) = _
    rw [gi_na (yne j hj hn), gi_ne (by omega), gi_ne (by omega)]; rfl
  have g00 : gi E 0 (y 5 (r i0)) = -1 := by
    rw [eE]
    show gi (si (si (si (rw_ G (y 16 0) (fun k => if k = n - 1 then some (y 5 (r i0)) else shf (ar G (y 16 0)) i0 n k)) 15 (y 2 0) (nI (n - 1))) 8 (y 5 d) (gi G 8 (y 5 d) - 1)) 0 (y 5 (r i0)) (-1)) 0 (y 5 (r i0)) = _
    rw [gi_at]
  have g8 : ∀ j, j ≤ 20 → j ≠ d → gi E 8 (y 5 j) = gi G 8 (y 5 j) := fun j hj hn => by
    rw [eE]
    show gi (si (si (si (rw_ G (y 16 0) (fun k => if k = n - 1 then some (y 5 (r i0)) else shf (ar G (y 16 0)) i0 n k)) 15 (y 2 0) (nI (n - 1))) 8 (y 5 d) (gi G 8 (y 5 d) - 1)) 0 (y 5 (r i0)) (-1)) 8 (y 5 j) = _
    rw [gi_ne (by omega), gi_na (fun e => hn (y5 hs (by omega) (by omega) e)), gi_ne (by omega)]; rfl
  have g8d : gi E 8 (y 5 d) = gi G 8 (y 5 d) - 1 := by
    rw [eE]
    show gi (si (si (si (rw_ G (y 16 0) (fun k => if k = n - 1 then some (y 5 (r i0)) else shf (ar G (y 16 0)) i0 n k)) 15 (y 2 0) (nI (n - 1))) 8 (y 5 d) (gi G 8 (y 5 d) - 1)) 0 (y 5 (r i0)) (-1)) 8 (y 5 d) = _
    rw [gi_ne (by omega), gi_at]
  have rO : ∀ f a, f ≠ 7 → gr E f a = gr G f a := fun f a q => by rw [eE]; exact gr_ne q
  have r7 : ∀ j, j ≤ 20 → j ≠ r i0 → gr E 7 (y 5 j) = gr G 7 (y 5 j) := fun j hj hn => by rw [eE]; exact gr_na (yne j hj hn)
  have g15 : gi E 15 (y 2 0) = nI (n - 1) := by
    rw [eE]
    show gi (si (si (si (rw_ G (y 16 0) (fun k => if k = n - 1 then some (y 5 (r i0)) else shf (ar G (y 16 0)) i0 n k)) 15 (y 2 0) (nI (n - 1))) 8 (y 5 d) (gi G 8 (y 5 d) - 1)) 0 (y 5 (r i0)) (-1)) 15 (y 2 0) = _
    rw [gi_ne (by omega), gi_ne (by omega), gi_at]
  have g16 : gi E 16 (y 2 0) = gi G 16 (y 2 0) := by
    rw [eE]
    show gi (si (si (si (rw_ G (y 16 0) (fun k => if k = n - 1 then some (y 5 (r i0)) else shf (ar G (y 16 0)) i0 n k)) 15 (y 2 0) (nI (n - 1))) 8 (y 5 d) (gi G 8 (y 5 d) - 1)) 0 (y 5 (r i0)) (-1)) 16 (y 2 0) = _
    rw [gi_ne (by omega), gi_ne (by omega), gi_ne (by omega)]; rfl
  have aE : ∀ b, ai E b = ai G b := fun b => by rw [eE]; rfl
  have arE : ar E (y 16 0) = fun k => if k = n - 1 then some (y 5 (r i0)) else shf (ar G (y 16 0)) i0 n k := by rw [eE]; exact rw_at
  have kids : ∀ i, i < n → gr G 7 (y 5 (r i)) ≠ some (y 5 (r i0)) := fun i hi e => by
    have : ∀ k, k ≤ n → cnt (fun i => decide (gr G 7 (y 5 (r i)) = some (y 5 (r i0)))) k = 0 := fun k hk => by
      have mono : ∀ a b, a ≤ b → cnt (fun i => decide (gr G 7 (y 5 (r i)) = some (y 5 (r i0)))) a ≤ cnt (fun i => decide (gr G 7 (y 5 (r i)) = some (y 5 (r i0)))) b := fun a b hab => by
        induction b with
        | zero => have : a = 0 := by omega
                  subst this; exact Nat.le_refl _
        | succ b ih =>
          by_cases q : a = b + 1
          · subst q; exact Nat.le_refl _
          · exact Nat.le_trans (ih (by omega)) (Nat.le_add_right _ _)
      have := mono k n hk; omega
    have z := this (i + 1) (by omega)
    rw [← cnt_t (by simp only [decide_eq_true_eq]; exact e)] at z
    omega
  refine ⟨⟨by omega, g15, h3, g16.trans h4, fun i hi => ?_, fun i i' hi hi' e => ?_, ⟨fun i => p (rmI i0 i), fun i hi => ?_, fun i i' hi hi' => ?_⟩, fun i hi hi2 => ?_, ?_, h11, fun j hj => ?_, fun k hk => ?_, ?_, fun i hi => ?_, fun j hj => ?_, fun i i' hi hi' e1 e2 => ?_, fun j hj => ?_⟩, hlv⟩
  · rw [arE]
    show (if i = n - 1 then some (y 5 (r i0)) else shf (ar G (y 16 0)) i0 n i) = some (y 5 (rmR r n i0 i)) ∧ _
    unfold rmR shf
    by_cases q : i = n - 1
    · rw [if_pos q, if_pos q]; exact ⟨rfl, hr0⟩
    · rw [if_neg q, if_neg q]
      by_cases q2 : i0 ≤ i ∧ i + 1 < n
      · rw [if_pos q2, if_pos q2]; exact h5 (i + 1) (by omega)
      · rw [if_neg q2, if_neg q2]; exact h5 i hi
  · -- a permutation still
    have f : ∀ k, k < 20 → rmR r n i0 k = r (if k = n - 1 then i0 else if i0 ≤ k ∧ k + 1 < n then k + 1 else k) := fun k hk => by
      unfold rmR
      by_cases q : k = n - 1
      · rw [if_pos q, if_pos q]
      · rw [if_neg q, if_neg q]
        by_cases q2 : i0 ≤ k ∧ k + 1 < n
        · rw [if_pos q2, if_pos q2]
        · rw [if_neg q2, if_neg q2]
    rw [f i hi, f i' hi'] at e
    have gb : ∀ k, k < 20 → (if k = n - 1 then i0 else if i0 ≤ k ∧ k + 1 < n then k + 1 else k) < 20 := fun k hk => by
      split
      · omega
      · split <;> omega
    have this := h6 _ _ (gb i hi) (gb i' hi') e
    revert this
    split <;> split <;> (try split) <;> (try split) <;> intro this <;> omega
  · obtain ⟨a, b, c⟩ := rmR_lt (r := r) hi0 hi
    have hne : r (rmI i0 i) ≠ r i0 := fun z => c (h6 _ _ (by omega) (by omega) z)
    rw [a, g0 _ (hr _ (by omega)).2 hne]
    exact h7 _ b
  · have a := (rmR_lt (r := r) hi0 (show i < n - 1 by omega)).2.1
    have b := (rmR_lt (r := r) hi0 hi').2.1
    exact h8 _ _ (by unfold rmI; split <;> split <;> omega) b
  · by_cases q : i = n - 1
    · have : rmR r n i0 i = r i0 := if_pos q
      rw [this]; exact g00
    · have : rmR r n i0 i = r i := by unfold rmR; rw [if_neg q, if_neg (by omega)]
      have hne : r i ≠ r i0 := fun z => by have := h6 i i0 (by omega) (by omega) z; omega
      rw [this, g0 _ (hr i hi2).2 hne]
      exact h9 i (by omega) hi2
  · rw [g0 0 (by omega) (by omega)]; exact h10
  · obtain ⟨hj1, hne⟩ := (hlv j).mp hj
    have hj20 := hle j hj1
    have z := sinj j hj1 hne
    obtain ⟨x1, x2, a1, a2, a3, a4, a5, a6, a7, a8, ⟨l, f, b1, b2, b3, b4, b5⟩, ⟨l', f', c1, c2, c3, c4, c5⟩⟩ := h12 j hj1
    refine ⟨x1, x2, (cS_ne (by omega)).trans a1, ?_, ?_, ?_, ?_, ?_, ?_, ?_, ⟨l, f, b1, (gI _ j hj20 (by omega) (by omega)).trans b2, (cS_ne (by omega)).trans b3, fun k hk => by rw [aE]; exact b4 k hk, fun k hk => (cS_ne (by omega)).trans (b5 k hk)⟩, ⟨l', f', c1, (gI _ j hj20 (by omega) (by omega)).trans c2, (cS_ne (by omega)).trans c3, fun k hk => by rw [aE]; exact c4 k hk, fun k hk => (cS_ne (by omega)).trans (c5 k hk)⟩⟩
    · rw [cS_ne (by omega), g0 j hj20 hne]; exact a2
    · rw [cS_ne (by omega), gI _ j hj20 (by omega) (by omega)]; exact a3
    · rw [cS_ne (by omega), gI _ j hj20 (by omega) (by omega)]; exact a4
    · rw [cS_ne (by omega), gI _ j hj20 (by omega) (by omega)]; exact a5
    · rw [cS_ne (by omega), rO _ _ (by omega)]; exact a6
    · rw [cS_ne (by omega), rO _ _ (by omega)]; exact a7
    · rw [cS_ne (by omega), rO _ _ (by omega)]; exact a8
  · by_cases q : k = s (r i0)
    · left; subst q; exact cS_at
    · rw [cS_ne (by omega)]
      rcases h13 k hk with z | ⟨j, hj, z⟩
      · exact Or.inl z
      · exact Or.inr ⟨j, (hlv j).mpr ⟨hj, fun e => q (by rw [← z, e])⟩, z⟩
  · have := (hnd _ hl0).2.1 (by omega)
    rw [r7 0 (by omega) (by omega), cS_ne (by omega)]
    refine ⟨h14.1, h14.2.1, Nat.le_trans ?_ h14.2.2⟩
    have cl : ∀ j, j ≤ 20 → cBl y E (n - 1) (rmR r n i0) j ≤ cBl y G n r j := fun j hj => by
      unfold cBl
      rw [gI 2 j hj (by omega) (by omega), gI 12 j hj (by omega) (by omega)]
      have cc : cnt (fun i => decide (gr E 7 (y 5 (rmR r n i0 i)) = some (y 5 j))) (n - 1) ≤ cnt (fun i => decide (gr G 7 (y 5 (r i)) = some (y 5 j))) n := by
        rw [cnt_rm (P := fun i => decide (gr G 7 (y 5 (r i)) = some (y 5 j))) hi0]
        have : cnt (fun i => decide (gr E 7 (y 5 (rmR r n i0 i)) = some (y 5 j))) (n - 1) = cnt (fun i => decide (gr G 7 (y 5 (r (rmI i0 i))) = some (y 5 j))) (n - 1) := by
          rw [cnt_sm, cnt_sm]
          refine sm_congr fun i hi => ?_
          obtain ⟨a, b, c⟩ := rmR_lt (r := r) hi0 hi
          have hne : r (rmI i0 i) ≠ r i0 := fun z => c (h6 _ _ (by omega) (by omega) z)
          rw [a, r7 _ (hr _ (by omega)).2 hne]
        omega
      by_cases q : gi G 2 (y 5 j) < 0
      · rw [if_pos q, if_pos q]; omega
      · rw [if_neg q, if_neg q]; exact Nat.le_refl _
    unfold tBl
    rw [sm_rm (w := fun i => cBl y G n r (r i)) hi0]
    have c0 := cl 0 (by omega)
    have cs : sm (fun i => cBl y E (n - 1) (rmR r n i0) (rmR r n i0 i)) (n - 1) ≤ sm (fun i => cBl y G n r (r (rmI i0 i))) (n - 1) := sm_mono fun i hi => by
      obtain ⟨a, b, -⟩ := rmR_lt (r := r) hi0 hi
      rw [a]
      exact cl _ (hr _ (by omega)).2
    omega
  · obtain ⟨a, b, c⟩ := rmR_lt (r := r) hi0 hi
    have hne : r (rmI i0 i) ≠ r i0 := fun z => c (h6 _ _ (by omega) (by omega) z)
    have hri20 := (hr (rmI i0 i) (by omega)).2
    obtain ⟨j, x1, x2, x3, x4⟩ := h15 _ b
    have hjne : j ≠ r i0 := fun z => kids _ b (by rw [x2, z])
    have hj20 := hle j x1
    have hsn := (hnd (r (rmI i0 i)) (Or.inr ⟨_, b, rfl⟩)).1
    have hss := sinj (r (rmI i0 i)) (Or.inr ⟨_, b, rfl⟩) hne
    rw [a]
    refine ⟨j, (hlv j).mpr ⟨x1, hjne⟩, ?_, ?_, ?_⟩
    · rw [r7 _ hri20 hne]; exact x2
    · rw [cS_ne (by omega), g0 j hj20 hjne]; exact x3
    · rw [gI _ j hj20 (by omega) (by omega)]; exact x4
  · obtain ⟨hj1, hne⟩ := (hlv j).mp hj
    have hj20 := hle j hj1
    have old := h16 j hj1
    have ce : cnt (fun i => decide (gr E 7 (y 5 (rmR r n i0 i)) = some (y 5 j))) (n - 1) = cnt (fun i => decide (gr G 7 (y 5 (r (rmI i0 i))) = some (y 5 j))) (n - 1) := by
      rw [cnt_sm, cnt_sm]
      refine sm_congr (fun i hi => ?_)
      obtain ⟨a, b, c⟩ := rmR_lt (r := r) hi0 hi
      rw [a, r7 _ (hr _ (by omega)).2 (fun z => c (h6 _ _ (by omega) (by omega) z))]
    have cr := cnt_rm (P := fun i => decide (gr G 7 (y 5 (r i)) = some (y 5 j))) hi0
    rw [ce]
    by_cases q : j = d
    · subst q
      rw [g8d, old, cr, if_pos (by simp only [decide_eq_true_eq]; exact e7)]
      exact nI_pred _
    · rw [g8 j hj20 q, old, cr, if_neg (by simp only [decide_eq_true_eq]; rw [e7]; exact fun z => q (y5 hs (by omega) (by omega) (Option.some.inj z)).symm)]
      rfl
  · obtain ⟨a, b, c⟩ := rmR_lt (r := r) hi0 hi
    obtain ⟨a', b', c'⟩ := rmR_lt (r := r) hi0 hi'
    have n1 : r (rmI i0 i) ≠ r i0 := fun z => c (h6 _ _ (by omega) (by omega) z)
    have n2 : r (rmI i0 i') ≠ r i0 := fun z => c' (h6 _ _ (by omega) (by omega) z)
    have m1 := (hr (rmI i0 i) (by omega)).2
    have m2 := (hr (rmI i0 i') (by omega)).2
    rw [a, a', r7 _ m1 n1, r7 _ m2 n2] at e1
    rw [a, a'] at e2
    obtain ⟨z1, z2⟩ := e2
    rw [gI _ _ m1 (by omega) (by omega), gI _ _ m2 (by omega) (by omega)] at z1
    rw [gI _ _ m1 (by omega) (by omega)] at z2
    have := h17 _ _ b b' e1 ⟨z1, fun k hk => by have := z2 k hk; rw [aE, aE] at this; exact this⟩
    unfold rmI at this
    split at this <;> split at this <;> omega
  · obtain ⟨l, x1, x2, x3⟩ := h18 j hj
    exact ⟨l, x1, (gI _ j hj (by omega) (by omega)).trans x2, fun k hk hk2 => by rw [aE]; exact x3 k hk hk2⟩
end CHG
