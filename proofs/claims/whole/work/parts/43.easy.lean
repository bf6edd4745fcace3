/-! the calls that only look (by hand) -/
theorem SH.k {t : TY} {y : LYT} (h : SH t y) (k i : Nat) (hv : yV k i = true := by rfl) : tk t (y k i) = yK k i := (h.1 k i hv).1
theorem SH.n {t : TY} {y : LYT} (h : SH t y) (k i : Nat) (hv : yV k i = true := by rfl) : tn t (y k i) = yL k i := (h.1 k i hv).2
theorem SH.ne {t : TY} {y : LYT} (h : SH t y) {k i k' i' : Nat} (hn : ¬ (k = k' ∧ i = i')) (hv : yV k i = true := by rfl) (hv' : yV k' i' = true := by rfl) : y k i ≠ y k' i' := fun e => hn ((h.2.1 k i k' i' hv hv').mp e)
theorem FZ.m {y : LYT} {G : GS} (h : FZ y G) (f : Nat) (hv : yV 30 f = true := by rfl) : gr G f (y 1 0) = some (y 30 f) := h.2.2.2.2.2 f hv
theorem vp_lt {n N : Nat} (h : n < N) (hN : N < 2 ^ 31 := by decide) : vp_in (nI n) N := vp_in_nI h hN
/-- a connection's number: one of two, or none -/
theorem conn (x : Int32) : (x < 0 ∨ (¬ x < 0 ∧ ¬ x < 2 ∧ ¬ x = 0 ∧ ¬ x = 1)) ∨ ∃ c, c < 2 ∧ x = nI c := by
  by_cases h0 : x < 0
  · exact Or.inl (Or.inl h0)
  · by_cases h2 : x < 2
    · right
      obtain ⟨j, hj, rfl⟩ := nI_of h0
      exact ⟨j, (nI_ltI hj (by decide)).mp h2, rfl⟩
    · left; right
      refine ⟨h0, h2, fun e => h2 (by rw [e]; decide), fun e => h2 (by rw [e]; decide)⟩
section EASY
variable {t : TY} {y : LYT} {G : GS}
theorem S_linkOf {c : Nat} (hs : SH t y) (hz : FZ y G) (hc : c < 2) {K : Option Nat → Prop} (h : K (some (y 10 c))) : w_S_linkOf t G (y 0 0) (nI c) K := by
  unfold w_S_linkOf
  refine iF (nI_pos (by omega)) (iT (nI_lt (b := 2) hc (by decide)) ?_)
  refine ⟨hs.k 0 0, y 15 0, hz.1.2.2.2.2.2, hs.k 15 0, ?_, ?_⟩
  · rw [hs.n 15 0]; exact vp_lt hc
  · rw [nI_clamp (by omega), (hz.2.2.2.2.1 c hc).2.2.2.1]; exact h
theorem S_linkNo {x : Int32} (hx : x < 0 ∨ (¬ x < 0 ∧ ¬ x < 2 ∧ ¬ x = 0 ∧ ¬ x = 1)) {K : Option Nat → Prop} (h : K none) : w_S_linkOf t G (y 0 0) x K := by
  unfold w_S_linkOf
  rcases hx with q | ⟨q1, q2, -, -⟩
  · rw [if_pos q]; exact h
  · rw [if_neg q1, if_neg q2]; exact h
theorem M_isC {c : Nat} (hc : c < 2) {K : Int32 → Prop} (h : K 1) : w_M_isConnection t G (nI c) K := by
  unfold w_M_isConnection
  rcases (show c = 0 ∨ c = 1 by omega) with rfl | rfl
  · rw [if_pos (show nI 0 = 0 from rfl)]; exact h
  · rw [if_neg (by decide), if_neg (by decide)]; exact h
theorem M_isNo {x : Int32} (hx : x < 0 ∨ (¬ x < 0 ∧ ¬ x < 2 ∧ ¬ x = 0 ∧ ¬ x = 1)) {K : Int32 → Prop} (h : K 0) : w_M_isConnection t G x K := by
  unfold w_M_isConnection
  have : ¬ x = 0 ∧ ¬ x = 1 := by
    rcases hx with q | ⟨-, -, q3, q4⟩
    · exact ⟨fun e => by rw [e] at q; exact absurd q (by decide), fun e => by rw [e] at q; exact absurd q (by decide)⟩
    · exact ⟨q3, q4⟩
  rw [if_neg this.1, if_pos this.2]; exact h
/-- waiting -/
theorem e_waiting (hs : SH t y) (hz : FZ y G) (hl : ∀ c, c < 2 → LkR y G G c) (x : Int32) : w_S_waiting t G (y 0 0) x (fun r1 => w_M_waiting t G (y 1 0) x (fun r2 => r1 = r2)) := by
  refine ⟨hs.k 0 0, ?_⟩
  rcases conn x with hx | ⟨c, hc, rfl⟩
  · refine S_linkNo hx ?_
    rw [if_neg (by simp)]
    refine M_isNo hx ?_
    rw [if_pos rfl]
  · obtain ⟨n, m, z, f, h, -, -, -, -, -, -, -, -, e1, e2, -⟩ := hl c hc
    have hv : yV 10 c = true := by simp [yV, hc]
    refine S_linkOf hs hz hc ?_
    rw [if_pos (by simp)]
    refine ⟨_, rfl, hs.k 10 c hv, ?_⟩
    refine M_isC hc ?_
    rw [if_neg (by decide)]
    refine ⟨hs.k 1 0, y 30 82, hz.m 82, hs.k 30 82, by rw [hs.n 30 82]; exact vp_lt hc, ?_⟩
    rw [nI_clamp (by omega), e1, e2]
/-- status -/
theorem e_status (hs : SH t y) (hz : FZ y G) (hl : ∀ c, c < 2 → LkR y G G c) (x : Int32) : w_S_status t G (y 0 0) x (fun r1 => w_M_status t G (y 1 0) x (fun r2 => r1 = r2)) := by
  refine ⟨hs.k 0 0, ?_⟩
  rcases conn x with hx | ⟨c, hc, rfl⟩
  · refine S_linkNo hx ?_
    rw [if_neg (by simp)]
    refine M_isNo hx ?_
    rw [if_neg (by simp)]
  · obtain ⟨n, m, z, f, h, -, -, -, -, -, -, -, -, -, -, -, -, -, -, -, e1, -, e2, -⟩ := hl c hc
    have hv : yV 10 c = true := by simp [yV, hc]
    refine S_linkOf hs hz hc ?_
    rw [if_pos (by simp)]
    refine ⟨_, rfl, hs.k 10 c hv, ?_⟩
    have hM : ∀ (a b : Int32) (r : Int32), gi G 61 (y 10 c) = a → gi G 60 (y 10 c) = b → r = (if a = 0 then (if b = 0 then 0 else 1) else 2) → w_M_status t G (y 1 0) (nI c) (fun r2 => r = r2) := by
      intro a b r ha hb hr
      refine M_isC hc ?_
      rw [if_pos (by decide)]
      refine ⟨hs.k 1 0, y 30 85, hz.m 85, hs.k 30 85, by rw [hs.n 30 85]; exact vp_lt hc, ?_⟩
      rw [nI_clamp (by omega), e2, ha]
      by_cases q : a = 0
      · rw [if_pos q] at hr ⊢
        refine ⟨y 30 84, hz.m 84, hs.k 30 84, by rw [hs.n 30 84]; exact vp_lt hc, ?_⟩
        rw [e1, hb]
        by_cases q2 : b = 0
        · rw [if_pos q2] at hr ⊢; exact hr
        · rw [if_neg q2] at hr ⊢; exact hr
      · rw [if_neg q] at hr ⊢; exact hr
    split
    · next q => split
                · next q2 => exact hM _ _ _ rfl rfl (by rw [if_pos q, if_pos q2])
                · next q2 => exact hM _ _ _ rfl rfl (by rw [if_pos q, if_neg q2])
    · next q => exact hM _ _ _ rfl rfl (by rw [if_neg q])
/-- up, writes -/
theorem e_up (hs : SH t y) (hz : FZ y G) (h : ScR y G G) : w_S_up t G (y 0 0) (fun r1 => w_M_up t G (y 1 0) (fun r2 => r1 = r2)) := by
  obtain ⟨-, -, -, -, -, q⟩ := h
  refine ⟨hs.k 0 0, y 3 0, hz.1.2.1, hs.k 3 0, ?_, hs.k 1 0, ?_⟩
  · rcases q with ⟨q, -⟩ | ⟨q, -⟩
    · exact Or.inr q
    · exact Or.inl q
  · rcases q with ⟨q, q2, -⟩ | ⟨q, q2⟩
    · rw [if_neg (by rw [q2]; decide)]; exact q
    · rw [if_pos (by rw [q2]; decide)]; exact q
theorem e_writes (hs : SH t y) (hz : FZ y G) (h : ScR y G G) : w_S_writes t G (y 0 0) (fun r1 => w_M_writes t G (y 1 0) (fun r2 => r1 = r2)) :=
  ⟨hs.k 0 0, y 3 0, hz.1.2.1, hs.k 3 0, hs.k 1 0, h.1⟩
end EASY
