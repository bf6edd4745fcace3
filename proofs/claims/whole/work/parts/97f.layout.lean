/-! the constructors: the layout (by hand) -/
/-- the layout out of the parts -/
def yOf (a b : Nat) (s : SvS) (A : Nat → Nat) : LYT := fun k i => match k with
  | 0 => a | 1 => b | 2 => s.tr | 3 => s.lg | 4 => s.ch
  | 5 => if i = 0 then s.root else if i ≤ 20 then (s.P (i - 1)).1 else (s.L (i - 21)).nw
  | 6 => if i = 0 then s.rn else if i ≤ 20 then (s.P (i - 1)).2.1 else (s.L (i - 21)).nm
  | 7 => if i = 0 then s.rc else if i ≤ 20 then (s.P (i - 1)).2.2 else (s.L (i - 21)).ct
  | 8 => s.ms | 9 => s.an | 10 => (s.L i).lk | 11 => (s.L i).inp | 12 => (s.L i).out | 13 => (s.L i).fa
  | 14 => (s.L (i / 6)).F (i % 6)
  | 15 => s.la | 16 => s.arr | 17 => s.c1 | 18 => s.c2 | 19 => s.m1 | 20 => s.m2 | 21 => s.m3 | 22 => s.b1
  | 30 => A i
  | _ => 0
/-- the places' tags -/
def yT (y : LYT) (k i : Nat) : Nat × Nat := match k with
  | 0 => (0, 1) | 1 => (0, 2) | 2 => (y 0 0, 1) | 3 => (y 0 0, 2) | 4 => (y 0 0, 3)
  | 5 => if i = 0 then (y 2 0, 1) else if i ≤ 20 then (y 2 0, 100 + (i - 1)) else (y 10 (i - 21), 4)
  | 6 => (y 5 i, 1) | 7 => (y 5 i, 2)
  | 8 => (y 0 0, 4) | 9 => (y 0 0, 5) | 10 => (y 0 0, 100 + i) | 11 => (y 10 i, 1) | 12 => (y 10 i, 2) | 13 => (y 10 i, 3)
  | 14 => (y 10 (i / 6), 100 + i % 6)
  | 15 => (y 0 0, 6) | 16 => (y 2 0, 2) | 17 => (y 4 0, 1) | 18 => (y 4 0, 2) | 19 => (y 8 0, 1) | 20 => (y 8 0, 2) | 21 => (y 8 0, 3) | 22 => (y 9 0, 1)
  | 30 => (y 1 0, mI i)
  | _ => (0, 0)
def iK (t : TY) (a : Nat) : Nat := if tk t a = 9 then 0 else if tk t a = 10 then 1 else if tk t a = 2 then 2 else if tk t a = 3 then 3 else if tk t a = 4 then 4 else if tk t a = 1 then 5 else if tk t a = 5 then 8 else if tk t a = 6 then 9 else if tk t a = 8 then 10 else if tk t a = 56 then 13 else if tk t a = 7 then 14 else if tk t a = 55 then 15 else if tk t a = 54 then 16 else if tk t (tg t a).1 = 1 then 5 + (tg t a).2 else if tk t (tg t a).1 = 8 then 10 + (tg t a).2 else if tk t (tg t a).1 = 4 then 16 + (tg t a).2 else if tk t (tg t a).1 = 5 then 18 + (tg t a).2 else if tk t (tg t a).1 = 6 then 22 else 30
theorem yV_or {k i : Nat} (h : yV k i = true) : (k = 5 ∧ i < 23) ∨ (k = 6 ∧ i < 23) ∨ (k = 7 ∧ i < 23) ∨ (k = 10 ∧ i < 2) ∨ (k = 11 ∧ i < 2) ∨ (k = 12 ∧ i < 2) ∨ (k = 13 ∧ i < 2) ∨ (k = 14 ∧ i < 12) ∨ (k = 30 ∧ yV 30 i = true) ∨ (i = 0 ∧ (k = 0 ∨ k = 1 ∨ k = 2 ∨ k = 3 ∨ k = 4 ∨ k = 8 ∨ k = 9 ∨ k = 15 ∨ k = 16 ∨ k = 17 ∨ k = 18 ∨ k = 19 ∨ k = 20 ∨ k = 21 ∨ k = 22)) := by
  by_cases h5 : k = 5
  · subst h5; simp [yV] at h; omega
  by_cases h6 : k = 6
  · subst h6; simp [yV] at h; omega
  by_cases h7 : k = 7
  · subst h7; simp [yV] at h; omega
  by_cases h10 : k = 10
  · subst h10; simp [yV] at h; omega
  by_cases h11 : k = 11
  · subst h11; simp [yV] at h; omega
  by_cases h12 : k = 12
  · subst h12; simp [yV] at h; omega
  by_cases h13 : k = 13
  · subst h13; simp [yV] at h; omega
  by_cases h14 : k = 14
  · subst h14; simp [yV] at h; omega
  by_cases h30 : k = 30
  · subst h30; exact Or.inr (Or.inr (Or.inr (Or.inr (Or.inr (Or.inr (Or.inr (Or.inr (Or.inl ⟨rfl, h⟩))))))))
  · have : decide (k < 23 ∧ i = 0) = true := by
      unfold yV at h
      split at h <;> first | omega | exact h
    have := of_decide_eq_true this
    omega
section LYO
variable {t : TY} {G : GS} {a b : Nat} {s : SvS} {A : Nat → Nat} {y : LYT}
theorem cellT (S : SvI t G a s (0, 1)) (M : MdI t G b A (0, 2)) (ey : y = yOf a b s A) : ∀ k i, yV k i = true → inT t (y k i) (yK k i) (yL k i) (yT y k i) := by
  obtain ⟨h0, ⟨T1, T2, T3, T4, T5⟩, L1, ⟨C1, C2, C3, -⟩, ⟨M1, M2, M3, M4, -⟩, ⟨A1, A2, -⟩, hla, hL, -⟩ := S
  obtain ⟨m0, m1, -⟩ := M
  subst ey
  intro k i hv
  rcases yV_or hv with ⟨rfl, hi⟩ | ⟨rfl, hi⟩ | ⟨rfl, hi⟩ | ⟨rfl, hi⟩ | ⟨rfl, hi⟩ | ⟨rfl, hi⟩ | ⟨rfl, hi⟩ | ⟨rfl, hi⟩ | ⟨rfl, hi⟩ | ⟨rfl, h⟩
  · show inT t (if i = 0 then s.root else if i ≤ 20 then (s.P (i - 1)).1 else (s.L (i - 21)).nw) 1 0 (if i = 0 then (s.tr, 1) else if i ≤ 20 then (s.tr, 100 + (i - 1)) else ((s.L (i - 21)).lk, 4))
    by_cases e0 : i = 0
    · rw [if_pos e0, if_pos e0]; exact T2.1
    · rw [if_neg e0, if_neg e0]
      by_cases e1 : i ≤ 20
      · rw [if_pos e1, if_pos e1]; exact (T5 (i - 1) (by omega)).1.1
      · rw [if_neg e1, if_neg e1]; exact (hL (i - 21) (by omega)).1.2.2.2.2.1.1
  · show inT t (if i = 0 then s.rn else if i ≤ 20 then (s.P (i - 1)).2.1 else (s.L (i - 21)).nm) 51 8 ((if i = 0 then s.root else if i ≤ 20 then (s.P (i - 1)).1 else (s.L (i - 21)).nw), 1)
    by_cases e0 : i = 0
    · rw [if_pos e0, if_pos e0]; exact T2.2.1
    · rw [if_neg e0, if_neg e0]
      by_cases e1 : i ≤ 20
      · rw [if_pos e1, if_pos e1]; exact (T5 (i - 1) (by omega)).1.2.1
      · rw [if_neg e1, if_neg e1]; exact (hL (i - 21) (by omega)).1.2.2.2.2.1.2.1
  · show inT t (if i = 0 then s.rc else if i ≤ 20 then (s.P (i - 1)).2.2 else (s.L (i - 21)).ct) 51 64 ((if i = 0 then s.root else if i ≤ 20 then (s.P (i - 1)).1 else (s.L (i - 21)).nw), 2)
    by_cases e0 : i = 0
    · rw [if_pos e0, if_pos e0]; exact T2.2.2.1
    · rw [if_neg e0, if_neg e0]
      by_cases e1 : i ≤ 20
      · rw [if_pos e1, if_pos e1]; exact (T5 (i - 1) (by omega)).1.2.2.1
      · rw [if_neg e1, if_neg e1]; exact (hL (i - 21) (by omega)).1.2.2.2.2.1.2.2.1
  · exact (hL i hi).1.1
  · exact (hL i hi).1.2.1
  · exact (hL i hi).1.2.2.1
  · exact (hL i hi).1.2.2.2.1
  · exact ((hL (i / 6) (by omega)).1.2.2.2.2.2.1 (i % 6) (by omega)).1
  · exact (m1 i hi).1
  · rcases h with rfl | rfl | rfl | rfl | rfl | rfl | rfl | rfl | rfl | rfl | rfl | rfl | rfl | rfl | rfl
    · exact h0
    · exact m0
    · exact T1
    · exact L1.1
    · exact C1
    · exact M1
    · exact A1
    · exact hla
    · exact T3
    · exact C2
    · exact C3
    · exact M2
    · exact M3
    · exact M4
    · exact A2
theorem sh_of (c : ∀ k i, yV k i = true → inT t (y k i) (yK k i) (yL k i) (yT y k i)) (hd : tdOK t) : SH t y := by
  have ik : ∀ k i, yV k i = true → iK t (y k i) = k := fun k i hv => by
    have h := c k i hv
    obtain ⟨-, hk, -, hg⟩ := h
    rcases yV_or hv with ⟨rfl, hi⟩ | ⟨rfl, hi⟩ | ⟨rfl, hi⟩ | ⟨rfl, hi⟩ | ⟨rfl, hi⟩ | ⟨rfl, hi⟩ | ⟨rfl, hi⟩ | ⟨rfl, hi⟩ | ⟨rfl, hi⟩ | ⟨rfl, h⟩
    · have hk : tk t (y 5 i) = 1 := hk
      simp [iK, hk]
    · have hk : tk t (y 6 i) = 51 := hk
      have hg : tg t (y 6 i) = (y 5 i, 1) := hg
      have ho : tk t (y 5 i) = 1 := (c 5 i (by simp [yV, hi])).2.1
      simp [iK, hk, hg, ho]
    · have hk : tk t (y 7 i) = 51 := hk
      have hg : tg t (y 7 i) = (y 5 i, 2) := hg
      have ho : tk t (y 5 i) = 1 := (c 5 i (by simp [yV, hi])).2.1
      simp [iK, hk, hg, ho]
    · have hk : tk t (y 10 i) = 8 := hk
      simp [iK, hk]
    · have hk : tk t (y 11 i) = 51 := hk
      have hg : tg t (y 11 i) = (y 10 i, 1) := hg
      have ho : tk t (y 10 i) = 8 := (c 10 i (by simp [yV, hi])).2.1
      simp [iK, hk, hg, ho]
    · have hk : tk t (y 12 i) = 51 := hk
      have hg : tg t (y 12 i) = (y 10 i, 2) := hg
      have ho : tk t (y 10 i) = 8 := (c 10 i (by simp [yV, hi])).2.1
      simp [iK, hk, hg, ho]
    · have hk : tk t (y 13 i) = 56 := hk
      simp [iK, hk]
    · have hk : tk t (y 14 i) = 7 := hk
      simp [iK, hk]
    · have hk : tk t (y 30 i) = if i = 84 ∨ i = 85 ∨ i = 86 ∨ i = 91 then 52 else if i = 87 ∨ i = 92 then 53 else 50 := hk
      have hg : tg t (y 30 i) = (y 1 0, mI i) := hg
      have ho : tk t (y 1 0) = 10 := (c 1 0 rfl).2.1
      have hk' : tk t (y 30 i) = 50 ∨ tk t (y 30 i) = 52 ∨ tk t (y 30 i) = 53 := by
        rw [hk]
        split
        · exact Or.inr (Or.inl rfl)
        · split
          · exact Or.inr (Or.inr rfl)
          · exact Or.inl rfl
      rcases hk' with hk | hk | hk <;> simp [iK, hk, hg, ho]
    · rcases h with rfl | rfl | rfl | rfl | rfl | rfl | rfl | rfl | rfl | rfl | rfl | rfl | rfl | rfl | rfl
      · have hk : tk t (y 0 0) = 9 := hk
        simp [iK, hk]
      · have hk : tk t (y 1 0) = 10 := hk
        simp [iK, hk]
      · have hk : tk t (y 2 0) = 2 := hk
        simp [iK, hk]
      · have hk : tk t (y 3 0) = 3 := hk
        simp [iK, hk]
      · have hk : tk t (y 4 0) = 4 := hk
        simp [iK, hk]
      · have hk : tk t (y 8 0) = 5 := hk
        simp [iK, hk]
      · have hk : tk t (y 9 0) = 6 := hk
        simp [iK, hk]
      · have hk : tk t (y 15 0) = 55 := hk
        simp [iK, hk]
      · have hk : tk t (y 16 0) = 54 := hk
        simp [iK, hk]
      · have hk : tk t (y 17 0) = 51 := hk
        have hg : tg t (y 17 0) = (y 4 0, 1) := hg
        have ho : tk t (y 4 0) = 4 := (c 4 0 rfl).2.1
        simp [iK, hk, hg, ho]
      · have hk : tk t (y 18 0) = 51 := hk
        have hg : tg t (y 18 0) = (y 4 0, 2) := hg
        have ho : tk t (y 4 0) = 4 := (c 4 0 rfl).2.1
        simp [iK, hk, hg, ho]
      · have hk : tk t (y 19 0) = 51 := hk
        have hg : tg t (y 19 0) = (y 8 0, 1) := hg
        have ho : tk t (y 8 0) = 5 := (c 8 0 rfl).2.1
        simp [iK, hk, hg, ho]
      · have hk : tk t (y 20 0) = 50 := hk
        have hg : tg t (y 20 0) = (y 8 0, 2) := hg
        have ho : tk t (y 8 0) = 5 := (c 8 0 rfl).2.1
        simp [iK, hk, hg, ho]
      · have hk : tk t (y 21 0) = 50 := hk
        have hg : tg t (y 21 0) = (y 8 0, 3) := hg
        have ho : tk t (y 8 0) = 5 := (c 8 0 rfl).2.1
        simp [iK, hk, hg, ho]
      · have hk : tk t (y 22 0) = 51 := hk
        have hg : tg t (y 22 0) = (y 9 0, 1) := hg
        have ho : tk t (y 9 0) = 6 := (c 9 0 rfl).2.1
        simp [iK, hk, hg, ho]
  have tge : ∀ k i k' i', yV k i = true → yV k' i' = true → y k i = y k' i' → yT y k i = yT y k' i' := fun k i k' i' h h' e => by rw [← (c k i h).2.2.2, ← (c k' i' h').2.2.2, e]
  have i10 : ∀ i i', i < 2 → i' < 2 → y 10 i = y 10 i' → i = i' := fun i i' h h' e => by
    have q : (y 0 0, 100 + i) = (y 0 0, 100 + i') := tge 10 i 10 i' (by simp [yV, h]) (by simp [yV, h']) e
    have := (Prod.mk.inj q).2
    omega
  have n2 : ∀ i, i < 2 → y 2 0 ≠ y 10 i := fun i h e => by
    have h1 : tk t (y 2 0) = 2 := (c 2 0 rfl).2.1
    have h2 : tk t (y 10 i) = 8 := (c 10 i (by simp [yV, h])).2.1
    rw [e, h2] at h1
    omega
  have i5 : ∀ i i', i < 23 → i' < 23 → y 5 i = y 5 i' → i = i' := fun i i' h h' e => by
    have q : (if i = 0 then (y 2 0, 1) else if i ≤ 20 then (y 2 0, 100 + (i - 1)) else (y 10 (i - 21), 4)) = (if i' = 0 then (y 2 0, 1) else if i' ≤ 20 then (y 2 0, 100 + (i' - 1)) else (y 10 (i' - 21), 4)) := tge 5 i 5 i' (by simp [yV, h]) (by simp [yV, h']) e
    by_cases a0 : i = 0
    · by_cases b0 : i' = 0
      · omega
      · by_cases b1 : i' ≤ 20
        · rw [if_pos a0, if_neg b0, if_pos b1] at q
          have := (Prod.mk.inj q).2; omega
        · rw [if_pos a0, if_neg b0, if_neg b1] at q
          have := (Prod.mk.inj q).2; omega
    · by_cases a1 : i ≤ 20
      · by_cases b0 : i' = 0
        · rw [if_neg a0, if_pos a1, if_pos b0] at q
          have := (Prod.mk.inj q).2; omega
        · by_cases b1 : i' ≤ 20
          · rw [if_neg a0, if_pos a1, if_neg b0, if_pos b1] at q
            have := (Prod.mk.inj q).2; omega
          · rw [if_neg a0, if_pos a1, if_neg b0, if_neg b1] at q
            exact absurd (Prod.mk.inj q).1 (n2 _ (by omega))
      · by_cases b0 : i' = 0
        · rw [if_neg a0, if_neg a1, if_pos b0] at q
          have := (Prod.mk.inj q).2; omega
        · by_cases b1 : i' ≤ 20
          · rw [if_neg a0, if_neg a1, if_neg b0, if_pos b1] at q
            exact absurd (Prod.mk.inj q).1.symm (n2 _ (by omega))
          · rw [if_neg a0, if_neg a1, if_neg b0, if_neg b1] at q
            have := i10 _ _ (by omega) (by omega) (Prod.mk.inj q).1
            omega
  refine ⟨fun k i hv => ⟨(c k i hv).2.1, (c k i hv).2.2.1⟩, fun k i k' i' hv hv' => ⟨fun e => ?_, fun e => by rw [e.1, e.2]⟩, hd⟩
  have ek : k = k' := by rw [← ik k i hv, ← ik k' i' hv', e]
  subst ek
  refine ⟨rfl, ?_⟩
  have q := tge k i k i' hv hv' e
  rcases yV_or hv with ⟨rfl, hi⟩ | ⟨rfl, hi⟩ | ⟨rfl, hi⟩ | ⟨rfl, hi⟩ | ⟨rfl, hi⟩ | ⟨rfl, hi⟩ | ⟨rfl, hi⟩ | ⟨rfl, hi⟩ | ⟨rfl, hi⟩ | ⟨rfl, h⟩
  · exact i5 i i' hi (by simp [yV] at hv'; exact hv') e
  · exact i5 i i' hi (by simp [yV] at hv'; exact hv') (Prod.mk.inj q).1
  · exact i5 i i' hi (by simp [yV] at hv'; exact hv') (Prod.mk.inj q).1
  · exact i10 i i' hi (by simp [yV] at hv'; exact hv') e
  · exact i10 i i' hi (by simp [yV] at hv'; exact hv') (Prod.mk.inj q).1
  · exact i10 i i' hi (by simp [yV] at hv'; exact hv') (Prod.mk.inj q).1
  · exact i10 i i' hi (by simp [yV] at hv'; exact hv') (Prod.mk.inj q).1
  · have hi' : i' < 12 := by simp [yV] at hv'; exact hv'
    have h1 := i10 (i / 6) (i' / 6) (by omega) (by omega) (Prod.mk.inj q).1
    have h2 : 100 + i % 6 = 100 + i' % 6 := (Prod.mk.inj q).2
    omega
  · exact inj_mI i (yV_lt hi) i' (yV_lt hv') hi hv' (Prod.mk.inj q).2
  · rcases yV_or hv' with w | w | w | w | w | w | w | w | w | w
    all_goals omega
theorem fz_of (S : SvI t G a s (0, 1)) (M : MdI t G b A (0, 2)) (ey : y = yOf a b s A) : FZ y G := by
  obtain ⟨h0, ⟨T1, T2, T3, ⟨T4, T4', -⟩, T5⟩, L1, ⟨C1, C2, C3, C4, C5⟩, ⟨M1, M2, M3, M4, M5, M6, M7⟩, ⟨A1, A2, A3⟩, hla, hL, ⟨r1, r2, r3, r4, r5, r6⟩, -⟩ := S
  obtain ⟨m0, m1, -⟩ := M
  subst ey
  refine ⟨⟨r1, r2, r3, r4, r5, r6⟩, ⟨T4, T4', C4, C5⟩, ⟨M5, M6, M7, A3⟩, fun i hi => ?_, fun c hc => ?_, fun f hf => (m1 f hf).2.1⟩
  · show gr G 9 (if i = 0 then s.root else if i ≤ 20 then (s.P (i - 1)).1 else (s.L (i - 21)).nw) = some (if i = 0 then s.rn else if i ≤ 20 then (s.P (i - 1)).2.1 else (s.L (i - 21)).nm) ∧ gr G 11 (if i = 0 then s.root else if i ≤ 20 then (s.P (i - 1)).1 else (s.L (i - 21)).nw) = some (if i = 0 then s.rc else if i ≤ 20 then (s.P (i - 1)).2.2 else (s.L (i - 21)).ct)
    by_cases e0 : i = 0
    · rw [if_pos e0, if_pos e0, if_pos e0]; exact ⟨T2.2.2.2.2.1.2.2.2.2.1, T2.2.2.2.2.1.2.2.2.2.2⟩
    · rw [if_neg e0, if_neg e0, if_neg e0]
      by_cases e1 : i ≤ 20
      · rw [if_pos e1, if_pos e1, if_pos e1]
        have := (T5 (i - 1) (by omega)).1.2.2.2.2.1
        exact ⟨this.2.2.2.2.1, this.2.2.2.2.2⟩
      · rw [if_neg e1, if_neg e1, if_neg e1]
        have := (hL (i - 21) (by omega)).1.2.2.2.2.1.2.2.2.2.1
        exact ⟨this.2.2.2.2.1, this.2.2.2.2.2⟩
  · obtain ⟨⟨l1, l2, l3, l4, l5, l6, ⟨l7, l8, l9⟩, -⟩, la⟩ := hL c hc
    refine ⟨l7, l8, l9, la, fun i hi => ?_⟩
    show ar G (s.L c).fa i = some ((s.L ((6 * c + i) / 6)).F ((6 * c + i) % 6))
    rw [show (6 * c + i) / 6 = c by omega, show (6 * c + i) % 6 = i by omega]
    exact (l6 i hi).2.2
end LYO
