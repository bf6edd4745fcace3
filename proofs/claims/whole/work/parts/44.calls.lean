theorem cnt_t {P : Nat → Bool} {n : Nat} (h : P n = true) : cnt P n + 1 = cnt P (n + 1) := by show _ = cnt P n + _; rw [if_pos h]
theorem cnt_f {P : Nat → Bool} {n : Nat} (h : ¬ P n = true) : cnt P n = cnt P (n + 1) := by show _ = cnt P n + _; rw [if_neg h]; rfl
section CALLS
variable {t : TY} {y : LYT} {G G' : GS}
theorem InvY.to {m m' : GS} {b b' : Nat} (h : InvY t y b G m) (hb : b ≤ b') (z : sZ y G G') (z' : sZ y m m') (sc : ScR y G' m') (c : agC y G G') (l : ∀ c, c < 2 → agL y G G' c ∧ agLm y m m' c) (f : ∀ k, k < 12 → agF y G G' k ∧ agFm y m m' k) (e19 : gi G' 19 (y 3 0) = gi G 19 (y 3 0)) (e20 : gi G' 20 (y 3 0) = gi G 20 (y 3 0)) (e74 : gi m' 74 (y 1 0) = gi m 74 (y 1 0)) (e70 : ai m' (y 30 70) = ai m (y 30 70)) (e72 : ai m' (y 30 72) = ai m (y 30 72)) : InvY t y b' G' m' := by
  obtain ⟨hs, hz, hm, -, hl, hu, n, r, s, np, hT, hF, h74, hnp, hS⟩ := h
  refine ⟨hs, hz.to hs z, hm.to hs z', sc, fun q hq => (hl q hq).to (l q hq).1 (l q hq).2 (fun z => e19 ▸ z), fun k hk => (hu k hk).to (f k hk).1 (f k hk).2 (fun z => e19 ▸ z), n, r, s, np, ?_, fun k hk => (hF k hk).to (f k hk).1 (f k hk).2 (fun j => ⟨(c.1.1 0 _ (by omega)).1, (c.1.1 2 _ (by omega)).1⟩), by rw [e74]; exact h74, Nat.le_trans hnp hb, ?_⟩
  · rw [e70]; exact hT.to c.1
  · rw [e19, e20, e72]; exact fun a b => (hS a b).imp (fun _ h => h.to c)
theorem sZ.rf : sZ y G G := ⟨fun a => ⟨rfl, rfl, rfl, rfl, rfl, rfl, rfl, rfl, rfl, rfl, rfl, rfl, rfl, rfl, rfl, rfl, rfl, rfl, rfl⟩, fun _ _ _ => rfl, fun _ _ => rfl⟩
theorem InvY.up {m : GS} {b b' : Nat} (h : InvY t y b G m) (hb : b ≤ b') : InvY t y b' G m := h.to hb sZ.rf sZ.rf h.2.2.2.1 agC.rf (fun _ _ => ⟨agL.rf, agLm.rf⟩) (fun _ _ => ⟨agF.rf, agFm.rf⟩) rfl rfl rfl rfl rfl
theorem o_mono {S M : Nat} : ∀ j G, InvW t S M j G → InvW t S M (j + 5) G := fun j G ⟨y, h1, h2, h⟩ => ⟨y, h1, h2, h.up (by omega)⟩
theorem o_waiting {S M : Nat} : Ob_waiting t S M (InvW t S M) := fun j G x _ ⟨y, h1, h2, h⟩ => by subst h1 h2; exact e_waiting h.1 h.2.1 h.2.2.2.2.1 x
theorem o_status {S M : Nat} : Ob_status t S M (InvW t S M) := fun j G x _ ⟨y, h1, h2, h⟩ => by subst h1 h2; exact e_status h.1 h.2.1 h.2.2.2.2.1 x
theorem o_up {S M : Nat} : Ob_up t S M (InvW t S M) := fun j G _ ⟨y, h1, h2, h⟩ => by subst h1 h2; exact e_up h.1 h.2.1 h.2.2.2.1
theorem o_writes {S M : Nat} : Ob_writes t S M (InvW t S M) := fun j G _ ⟨y, h1, h2, h⟩ => by subst h1 h2; exact e_writes h.1 h.2.1 h.2.2.2.1
theorem o_clock {S M : Nat} : Ob_clock t S M (InvW t S M) := fun j G x _ ⟨y, h1, h2, h⟩ => by
  subst h1 h2
  refine ⟨h.1.k 0 0, fun G1 e1 => ⟨h.1.k 1 0, fun G2 e2 => ⟨y, rfl, rfl, ?_⟩⟩⟩
  subst e1 e2
  obtain ⟨s1, s2, s3, s4, s5, s6⟩ := h.2.2.2.1
  -- the two writes at once
  refine h.to (by omega) ⟨fun a => ⟨rfl, rfl, rfl, rfl, rfl, rfl, rfl, rfl, rfl, rfl, rfl, rfl, rfl, rfl, rfl, rfl, rfl, rfl, rfl⟩, fun _ _ _ => rfl, fun _ _ => rfl⟩ ⟨fun a => ⟨rfl, rfl, rfl, rfl, rfl, rfl, rfl, rfl, rfl, rfl, rfl, rfl, rfl, rfl, rfl, rfl, rfl, rfl, rfl⟩, fun _ _ _ => rfl, fun _ _ => rfl⟩ ?_ ?_ ?_ ?_ ?_ ?_ ?_ rfl rfl
  · refine ⟨?_, ?_, ?_, ?_, ?_, ?_⟩
    · rw [gi_ne (by omega), gi_ne (by omega), gi_ne (by omega), gi_ne (by omega)]; exact s1
    · rw [gi_ne (by omega), gi_ne (by omega), gi_ne (by omega), gi_ne (by omega)]; exact s2
    · rw [gi_ne (by omega), gi_at, gi_at]
    · rw [gi_ne (by omega), gi_ne (by omega), gi_ne (by omega), gi_ne (by omega)]; exact s4
    · rw [gi_ne (by omega), gi_ne (by omega)]; exact s5
    · rw [gi_ne (by omega), gi_ne (by omega), gi_ne (by omega), gi_ne (by omega), gi_ne (by omega), gi_ne (by omega)]; exact s6
  · exact ⟨⟨fun q b hq => ⟨(gi_ne (by omega)).trans (gi_ne (by omega)), rfl⟩, fun i _ => ⟨rfl, rfl⟩, fun b => rfl⟩, fun q b h1 h2 => ⟨(gi_ne (by omega)).trans (gi_ne (by omega)), rfl⟩, rfl, rfl⟩
  · exact fun c hc => ⟨⟨fun q h1 h2 => (gi_ne (by omega)).trans (gi_ne (by omega)), rfl, rfl⟩, fun _ _ => rfl, fun _ _ => rfl, fun _ _ => rfl⟩
  · exact fun k hk => ⟨fun q h1 h2 => ⟨(gi_ne (by omega)).trans (gi_ne (by omega)), rfl, rfl⟩, fun _ _ _ => ⟨rfl, rfl⟩⟩
  · exact (gi_ne (by omega)).trans (gi_ne (by omega))
  · exact (gi_ne (by omega)).trans (gi_ne (by omega))
  · exact (gi_ne (by omega)).trans (gi_ne (by omega))
theorem o_cut {S M : Nat} : Ob_cut t S M (InvW t S M) := fun j G x _ ⟨y, h1, h2, h⟩ => by
  subst h1 h2
  obtain ⟨s1, s2, s3, s4, s5, s6⟩ := h.2.2.2.1
  have hup : InvW t (y 0 0) (y 1 0) (j + 5) G := ⟨y, rfl, rfl, h.up (by omega)⟩
  by_cases hx : x < 0
  · exact iT hx (iT hx ⟨rfl, hup⟩)
  · refine iF hx ⟨h.1.k 0 0, y 3 0, h.2.1.1.2.1, h.1.k 3 0, ?_⟩
    rcases s6 with ⟨q1, q2, q3⟩ | ⟨q1, q2⟩
    · refine iT (by rw [q1]; decide) (fun G1 e1 => iF hx ⟨h.1.k 1 0, ?_⟩)
      subst e1
      have e75 : gi (si G 18 (y 3 0) x) 75 (y 1 0) = gi G 75 (y 1 0) := gi_ne (by omega)
      refine iT (by rw [e75]; exact q2) (fun G2 e2 => ⟨rfl, y, rfl, rfl, ?_⟩)
      subst e2
      refine h.to (by omega) ⟨fun a => ⟨rfl, rfl, rfl, rfl, rfl, rfl, rfl, rfl, rfl, rfl, rfl, rfl, rfl, rfl, rfl, rfl, rfl, rfl, rfl⟩, fun _ _ _ => rfl, fun _ _ => rfl⟩ ⟨fun a => ⟨rfl, rfl, rfl, rfl, rfl, rfl, rfl, rfl, rfl, rfl, rfl, rfl, rfl, rfl, rfl, rfl, rfl, rfl, rfl⟩, fun _ _ _ => rfl, fun _ _ => rfl⟩ ?_ ?_ ?_ ?_ ?_ ?_ ?_ rfl rfl
      · refine ⟨?_, ?_, ?_, ?_, ?_, Or.inl ⟨?_, ?_, ?_⟩⟩
        · rw [gi_ne (by omega), gi_ne (by omega), gi_ne (by omega), gi_ne (by omega)]; exact s1
        · rw [gi_ne (by omega), gi_at, gi_at]
        · rw [gi_ne (by omega), gi_ne (by omega), gi_ne (by omega), gi_ne (by omega)]; exact s3
        · rw [gi_ne (by omega), gi_ne (by omega), gi_ne (by omega), gi_ne (by omega)]; exact s4
        · rw [gi_ne (by omega), gi_ne (by omega)]; exact s5
        · rw [gi_ne (by omega), gi_ne (by omega)]; exact q1
        · rw [gi_ne (by omega), gi_ne (by omega)]; exact q2
        · rw [gi_ne (by omega), gi_ne (by omega)]; exact q3
      · exact ⟨⟨fun q b hq => ⟨(gi_ne (by omega)).trans (gi_ne (by omega)), rfl⟩, fun i _ => ⟨rfl, rfl⟩, fun b => rfl⟩, fun q b h1 h2 => ⟨(gi_ne (by omega)).trans (gi_ne (by omega)), rfl⟩, rfl, rfl⟩
      · exact fun c hc => ⟨⟨fun q h1 h2 => (gi_ne (by omega)).trans (gi_ne (by omega)), rfl, rfl⟩, fun _ _ => rfl, fun _ _ => rfl, fun _ _ => rfl⟩
      · exact fun k hk => ⟨fun q h1 h2 => ⟨(gi_ne (by omega)).trans (gi_ne (by omega)), rfl, rfl⟩, fun _ _ _ => ⟨rfl, rfl⟩⟩
      · exact (gi_ne (by omega)).trans (gi_ne (by omega))
      · exact (gi_ne (by omega)).trans (gi_ne (by omega))
      · exact (gi_ne (by omega)).trans (gi_ne (by omega))
    · exact iF (by rw [q1]; decide) (iF hx ⟨h.1.k 1 0, iF (by rw [q2]; decide) ⟨rfl, hup⟩⟩)
/-- how many fids of a connection are used -/
theorem o_fids {S M : Nat} : Ob_fids t S M (InvW t S M) := fun j G x _ ⟨y, h1, h2, h⟩ => by
  subst h1 h2
  obtain ⟨hs, hz, -, -, -, hu, -⟩ := h
  refine ⟨hs.k 0 0, ?_⟩
  rcases conn x with hx | ⟨c, hc, rfl⟩
  · refine S_linkNo hx (iF (by simp) (M_isNo hx (iT rfl rfl)))
  · have hv : yV 10 c = true := by simp [yV, hc]
    have hv13 : yV 13 c = true := by simp [yV, hc]
    refine S_linkOf hs hz hc (iT (by simp) ⟨_, rfl, hs.k 10 c hv, ?_⟩)
    let U : Nat → Bool := fun i => decide (¬ gi G 46 (y 14 (6 * c + i)) = 0)
    refine pk_loop (fun n i (a : Nat) => w_Link_countFids_4 t G (y 10 c) _ n (nI a) (nI i)) (fun i a => a = cnt U i) 6 0 0 (by omega) rfl ?_ ?_
    · intro n a ha
      show w_Link_countFids_4 t G (y 10 c) _ (n + 1) (nI a) (nI 6)
      unfold w_Link_countFids_4
      refine iT (show (6 : Int32) ≤ nI 6 by decide) (M_isC hc (iF (by decide) ⟨hs.k 1 0, ?_⟩))
      intro v hv
      subst hv
      have e6 : (6 : Int32) * nI c = nI (6 * c) := by rw [show (6 : Int32) = nI 6 from rfl, pk_mul]
      rw [e6]
      have e12 : (6 : Int32) * nI c + 6 = nI (6 * c + 6) := by rw [e6, show (6 : Int32) = nI 6 from rfl, nI_add]
      have key := pk_loop (fun n i (b : Nat) => w_M_many_7 t G (y 1 0) (fun v2 => nI a = v2) n (nI c) (nI b) (nI (6 * c + i))) (fun i b => b = cnt U i) 6 0 0 (by omega) rfl ?_ ?_
      · exact key
      · intro n b hb
        refine iT (by rw [e12]; exact nI_le (by omega) (by omega)) ?_
        rw [ha, hb]
      · intro n i b hi hb ih
        refine iF (by rw [e12]; exact nI_ge (by omega) (by omega)) ⟨hs.k 1 0, y 30 86, hz.m 86, hs.k 30 86, by rw [hs.n 30 86]; exact vp_lt (N := 12) (by omega), ?_⟩
        rw [nI_clamp (by omega), (hu (6 * c + i) (by omega)).2.1]
        refine iS ⟨fun q => ?_, fun q => ?_⟩
        · intro v hv
          subst hv
          refine (show w_M_many_7 t G (y 1 0) _ n (nI c) (nI b) (nI (6 * c + i) + 1) from ?_)
          rw [nI_1]
          exact ih b (by rw [hb]; exact cnt_f (by simp [U, q]))
        · intro v hv
          subst hv
          refine (show w_M_many_7 t G (y 1 0) _ n (nI c) (nI b + 1) (nI (6 * c + i) + 1) from ?_)
          rw [nI_1, nI_1]
          exact ih (b + 1) (by rw [hb]; exact cnt_t (by simp [U, q]))
    · intro n i a hi ha ih
      have hvk : yV 14 (6 * c + i) = true := by simp [yV]; omega
      refine iF (show ¬ nI 6 ≤ nI i from nI_ge (by omega) (by decide)) ⟨hs.k 10 c hv, y 13 c, (hz.2.2.2.2.1 c hc).2.2.1, hs.k 13 c hv13, by rw [hs.n 13 c hv13]; exact vp_lt (N := 6) hi, y 14 (6 * c + i), by rw [nI_clamp (by omega)]; exact (hz.2.2.2.2.1 c hc).2.2.2.2 i hi, hs.k 14 _ hvk, ?_⟩
      refine iS ⟨fun q => ?_, fun q => ?_⟩
      · intro v hv
        subst hv
        refine (show w_Link_countFids_4 t G (y 10 c) _ n (nI a) (nI i + 1) from ?_)
        rw [nI_1]
        exact ih a (by rw [ha]; exact cnt_f (by simp [U, q]))
      · intro v hv v2 hv2
        subst hv hv2
        refine (show w_Link_countFids_4 t G (y 10 c) _ n (nI a + 1) (nI i + 1) from ?_)
        rw [nI_1, nI_1]
        exact ih (a + 1) (by rw [ha]; exact cnt_t (by simp [U, q]))
end CALLS
