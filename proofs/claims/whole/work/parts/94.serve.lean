/-! serve (by hand) -/
/-- what reply does behind the message's handling -/
def rpT (t : TY) (y : LYT) (c : Nat) (K : GS → Prop) (G3 : GS) : Prop := (if (gi G3 75 (y 1 0)) = 0 then (∃ a4, (gr G3 94 (y 1 0)) = some a4 ∧ tk t a4 = 50 ∧ vp_in (4 : Int32) (tn t a4) ∧ ∀ v5 : Int32, v5 = ((ai G3 a4 (4 : Int32).toNatClampNeg) + (1 : Int32)) → (if (gl G3 98 (y 1 0)) = (0 : Int64) then (w_M_reply_59 t (y 1 0) K (nI c) v5 G3) else (∀ G6, G6 = si G3 97 (y 1 0) (7 : Int32) → w_M_say t G6 (y 1 0) (gl G6 98 (y 1 0)) (fun G7 => w_M_reply_59 t (y 1 0) K (nI c) (107 : Int32) G7)))) else (K G3))
theorem er_0 : ∀ j, j < 29 → lN (er j) = 0 → j = 2 := by decide +kernel
section SRV
variable {t : TY} {y : LYT} {b c n o z S j : Nat} {f h F : Nat → Nat} {G m : GS}
theorem begun (I : InvY t y b G m) (hc : c < 2) (hrun : gi G 19 (y 3 0) = 1) (v : LkV y G m c n o z f h) (hS : S = nm f 0 4) (h7 : 7 ≤ S) (hSz : S ≤ z) (hSn : S ≤ n) : ∃ G6 m6, Prm t y b c S (msF f S) G6 m6 ∧ eS y G G6 ∧ gi G6 56 (y 10 c) = nI (n - S) ∧ gi G6 58 (y 10 c) = nI o ∧ gi G6 61 (y 10 c) = 0 ∧ ai G6 (y 22 0) 4 = sb ((msF f S 4 + 1) % 256) ∧ ai G6 (y 22 0) 5 = sb (msF f S 5) ∧ ai G6 (y 22 0) 6 = sb (msF f S 6) ∧ (∀ K : GS → Prop, K G6 → w_Message_takeFrom t G (y 8 0) (y 10 c) (fun G3 => ∃ a4, (gr G3 66 (y 0 0)) = some a4 ∧ tk t a4 = 5 ∧ ∃ a5, (gr G3 67 (y 0 0)) = some a5 ∧ tk t a5 = 6 ∧ w_Answer_begin t G3 a5 ((gi G3 38 a4) + (1 : Int32)) (gi G3 39 a4) K)) ∧ (∀ (K : GS → Prop) (r2 : Int32 → Int32 → GS → Prop) (l2 : Int32), w_M_handle t m6 (y 1 0) (nI c) (rpT t y c (fun G2 => ∀ v3 : Int32, v3 = (l2 + (1 : Int32)) → r2 (nI c) v3 G2)) → ∃ q, w_M_serve_182 t (y 1 0) K r2 q (nI c) l2 (0 : Int32) (si m 95 (y 1 0) (nI S))) := by
  have hs := I.1
  have hz := I.2.1
  have hm := I.2.2.1
  obtain ⟨q1, q2, q3, q4, q5, q6, q7, q8, q9, q10, q11, q12, q13, q14, q15, q16, q17, q18, q19, q20⟩ := id v
  have hF := msF_F (f := f) h7 (by omega) (fun k hk => (q7 k (by omega)).1)
  have hv : yV 10 c = true := by simp [yV, hc]
  have hv1 : yV 11 c = true := by simp [yV, hc]
  have e61 : gi G 61 (y 10 c) = 0 := by
    rcases q17 with a | a
    · exact a
    · have := (q19 a).1; omega
  -- the states
  have xA : xC y G (tkA y G c S) := tkA_x
  have wM : xM y m (tkM y m S f) := tkM_x
  have lB : lC y (tkA y G c S) (tkB y G c S n) := tkB_l hc
  have IA := I.x xA wM
  have n11 : y 11 c ≠ y 19 0 := hs.ne (by omega) hv1 rfl
  have n79 : y 30 79 ≠ y 30 80 := hs.ne (by omega)
  have y10 : ∀ q, q < 2 → q ≠ c → y 10 q ≠ y 10 c := fun q hq e w => e ((hs.2.1 10 q 10 c (by simp [yV, hq]) (by simp [yV, hc])).mp w).2
  have y11 : ∀ q, q < 2 → q ≠ c → y 11 q ≠ y 11 c := fun q hq e w => e ((hs.2.1 11 q 11 c (by simp [yV, hq]) (by simp [yV, hc])).mp w).2
  have gB : ∀ g, g < 36 ∨ 45 < g → g ≠ 56 → gi (tkB y G c S n) g (y 10 c) = gi G g (y 10 c) := fun g h1 h2 => by
    show gi (si (aw (tkA y G c S) (y 11 c) _) 56 (y 10 c) (nI (n - S))) g (y 10 c) = _
    rw [gi_ne h2]
    exact xA.1 g _ h1
  have M : ∀ g, 79 ≤ g → g ≤ 85 → g ≠ 79 → g ≠ 80 → ai (tkN y m c S n f) (y 30 g) = ai m (y 30 g) := fun g h1 h2 h3 h4 => by
    show ai (aw (ais (tkM y m S f) (y 30 80) c (nI (n - S))) (y 30 79) _) (y 30 g) = _
    rw [aw_ne (fun w => h3 ((hs.2.1 30 g 30 79 (yV30 (by omega)) rfl).mp w).2), ai_nb (fun w => h4 ((hs.2.1 30 g 30 80 (yV30 (by omega)) rfl).mp w).2)]
    exact wM.a hs (by omega) (by omega) (yV30 (by omega))
  have g19 : gi (tkB y G c S n) 19 (y 3 0) = 1 := (lB.1 19 _ (by omega)).trans ((xA.1 19 _ (by omega)).trans hrun)
  have a11 : ai (tkB y G c S n) (y 11 c) = va_cpy (ai G (y 11 c)) (ai G (y 11 c)) S 0 (n - S) := aw_at
  have a12 : ai (tkB y G c S n) (y 12 c) = ai G (y 12 c) := by
    show ai (aw (tkA y G c S) (y 11 c) _) (y 12 c) = _
    rw [aw_ne (hs.ne (by omega) (by simp [yV, hc]) hv1)]
    exact xA.a hs (by omega) (by simp [yV, hc])
  have b79 : ai (tkN y m c S n f) (y 30 79) = (fun k => if 160 * c ≤ k ∧ k < 160 * c + (n - S) then nI (f (S + (k - 160 * c))) else ai m (y 30 79) k) := aw_at
  have b80 : ai (tkN y m c S n f) (y 30 80) c = nI (n - S) := by
    show ai (aw (ais (tkM y m S f) (y 30 80) c (nI (n - S))) (y 30 79) _) (y 30 80) c = _
    rw [aw_ne n79.symm]; exact ai_at
  have IB : InvY t y b (tkB y G c S n) (tkN y m c S n f) := by
    refine IA.lk1 hc lB tkN_l ⟨n - S, o, z, fun k => f (S + k), h, by omega, q2, q3, q4, gi_at, b80, fun k hk => ?_, fun k hk => ?_, by rw [gB 58 (by omega) (by omega)]; exact q9, by rw [M 82 (by omega) (by omega) (by omega) (by omega)]; exact q10, fun k hk => by rw [a12]; exact q11 k hk, fun k hk => by rw [M 81 (by omega) (by omega) (by omega) (by omega)]; exact q12 k hk, by rw [gB 59 (by omega) (by omega)]; exact q13, by rw [M 83 (by omega) (by omega) (by omega) (by omega)]; exact q14, by rw [gB 60 (by omega) (by omega)]; exact q15, by rw [M 84 (by omega) (by omega) (by omega) (by omega), gB 60 (by omega) (by omega)]; exact q16, by rw [gB 61 (by omega) (by omega)]; exact q17, by rw [M 85 (by omega) (by omega) (by omega) (by omega), gB 61 (by omega) (by omega)]; exact q18, fun e => by rw [gB 61 (by omega) (by omega), e61] at e; exact absurd e (by decide), fun e => by rw [g19] at e; exact absurd e (by decide)⟩ (fun q hq e => ⟨fun g h1 h2 => ?_, ?_, ?_, fun g h1 h2 h3 h4 => ?_, fun k hk => ?_, fun k hk => ?_⟩)
    · rw [a11, pk_cpy_in (by omega) (by omega), show S + (k - 0) = S + k by omega]
      exact q7 _ (by omega)
    · rw [b79]
      show f (S + k) < 256 ∧ (if _ then _ else _) = _
      rw [if_pos (by omega), show 160 * c + k - 160 * c = k by omega]
      exact ⟨(q7 _ (by omega)).1, rfl⟩
    · exact gi_na (y10 q hq e)
    · exact aw_ne (y11 q hq e)
    · exact aw_ne (hs.ne (by omega) (by simp [yV, hq]) hv1)
    · by_cases w : g = 80
      · rw [w]
        show ai (aw (ais (tkM y m S f) (y 30 80) c (nI (n - S))) (y 30 79) _) (y 30 80) q = _
        rw [aw_ne n79.symm, ai_nj e]
      · rw [M g h1 h2 h3 w, wM.a hs (by omega) (by omega) (yV30 (by omega))]
    · rw [b79]
      show (if _ then _ else _) = _
      rw [if_neg (by omega), wM.a hs (by omega) (by omega) rfl]
    · rw [M 81 (by omega) (by omega) (by omega) (by omega), wM.a hs (by omega) (by omega) rfl]
  obtain ⟨C, eC⟩ : ∃ X, X = tkC y G c S n f := ⟨_, rfl⟩
  have xC' : xC y (tkB y G c S n) C := by rw [eC]; exact tkC_x
  obtain ⟨A, eA⟩ : ∃ A, A = pB sb (pB sb (ai C (y 22 0)) 4 (msF f S 4 + 1) 1) 5 (nm (msF f S) 5 2) 2 := ⟨_, rfl⟩
  obtain ⟨G6, eG6⟩ : ∃ X, X = cP y C A 7 := ⟨_, rfl⟩
  have x6 : xC y (tkB y G c S n) G6 := by rw [eG6]; exact xC'.cP
  obtain ⟨m6, em6⟩ : ∃ X, X = sl (si (tkN y m c S n f) 97 (y 1 0) 7) 98 (y 1 0) 0 := ⟨_, rfl⟩
  have w6 : xM y (tkN y m c S n f) m6 := by rw [em6]; exact (xM.rf.si (f := 97)).sl (f := 98)
  have hzC : FZ y C := xC'.z hs IB.2.1
  have c38 : gi C 38 (y 8 0) = nI (msF f S 4) := by rw [eC]; unfold tkC; rw [gi_ne (by omega), gi_ne (by omega)]; exact gi_at
  have c39 : gi C 39 (y 8 0) = nI (nm (msF f S) 5 2) := by rw [eC]; unfold tkC; rw [gi_ne (by omega)]; exact gi_at
  have c37 : gi C 37 (y 8 0) = nI S := by
    rw [eC]; unfold tkC; rw [gi_ne (by omega), gi_ne (by omega), gi_ne (by omega)]
    show gi (si (aw (tkA y G c S) (y 11 c) _) 56 (y 10 c) (nI (n - S))) 37 (y 8 0) = _
    rw [gi_ne (by omega)]; exact gi_at
  have c19 : ai C (y 19 0) = va_cpy (ai G (y 11 c)) (ai G (y 19 0)) 0 0 S := by
    rw [eC]
    show ai (aw (tkA y G c S) (y 11 c) _) (y 19 0) = _
    rw [aw_ne n11.symm]; exact aw_at
  have f4 := hF.2.2.1 4
  have nm16 : nm (msF f S) 5 2 < 65536 := nm_lt hF.2.2.1
  refine ⟨G6, m6, ⟨IB.x x6 w6, hc, (x6.1 19 _ (by omega)).trans g19, hF, ⟨by rw [eG6, cP_i (by omega)]; exact c37, fun k hk => ?_⟩, ⟨?_, fun k hk => ?_⟩, by rw [eG6, cP_i (by omega)]; exact c38, by rw [em6]; exact gl_at, by rw [eG6]; exact cP_l, by rw [em6]; exact gi_at⟩, ((xA.eS hs).tr (lB.e hs)).tr (x6.eS hs), (x6.1 56 _ (by omega)).trans gi_at, (x6.1 58 _ (by omega)).trans ((gB 58 (by omega) (by omega)).trans q9), (x6.1 61 _ (by omega)).trans ((gB 61 (by omega) (by omega)).trans e61), ?_, ?_, ?_, fun K hK => ?_, fun K r2 l2 hK => ?_⟩
  · rw [eG6, cP_a (hs.ne (by omega)), c19, pk_cpy_in (by omega) (by omega), (q7 _ (by omega)).2, show 0 + (k - 0) = k by omega]
    unfold msF; rw [if_pos hk]
  · rw [em6]
    show gi (si (tkN y m c S n f) 97 (y 1 0) 7) 95 (y 1 0) = _
    rw [gi_ne (by omega)]; exact gi_at
  · rw [em6]
    show ai (tkN y m c S n f) (y 30 94) k = _
    show ai (aw (ais (tkM y m S f) (y 30 80) c (nI (n - S))) (y 30 79) _) (y 30 94) k = _
    rw [aw_ne (hs.ne (by omega)), ai_nb (hs.ne (by omega))]
    show ai (aw (si m 95 (y 1 0) (nI S)) (y 30 94) _) (y 30 94) k = _
    rw [aw_at]
    show (if k < S then nI (f k) else _) = _
    rw [if_pos hk]; unfold msF; rw [if_pos hk]
  · rw [eG6, cP_A, eA]; unfold pB
    rw [if_neg (by omega), if_pos (by omega)]
    show sb ((msF f S 4 + 1) / 256 ^ 0 % 256) = _
    rw [Nat.pow_zero, Nat.div_one]
  · rw [eG6, cP_A, eA]; unfold pB
    rw [if_pos (by omega), nmB hF.2.2.1 (by omega)]
  · rw [eG6, cP_A, eA]; unfold pB
    rw [if_pos (by omega), nmB hF.2.2.1 (by omega)]
  · refine S_takeFrom hs hz hc v hS h7 hSz hSn ?_
    rw [← eC]
    refine ⟨y 8 0, hzC.1.2.2.2.1, hs.k 8 0, y 9 0, hzC.1.2.2.2.2.1, hs.k 9 0, hs.k 9 0, fun X eX => ?_⟩
    have eX : X = cP y C (ai C (y 22 0)) 4 := by unfold cP; rw [aw_self]; exact eX
    rw [eX, c38, c39, nI_1, nI_l (by omega), nI_l (by omega)]
    refine S_put (v := msF f S 4 + 1) (n := 1) hs hzC (by omega) (by omega) (by omega) ?_
    refine S_put (v := nm (msF f S) 5 2) (n := 2) hs hzC (by omega) (by omega) (by omega) ?_
    show K (cP y C (pB sb (pB sb (ai C (y 22 0)) 4 (msF f S 4 + 1) 1) 5 (nm (msF f S) 5 2) 2) 7)
    rw [← eA, ← eG6]
    exact hK
  · refine M_taken hs hm hc v h7 hSz hSn ⟨hs.k 1 0, fun X eX Z eZ => ?_⟩
    rw [eX, ← em6] at eZ
    rw [eZ]
    exact hK
/-- the answer -/
theorem fin (I : InvY t y b G m) (hrun : gi G 19 (y 3 0) = 1) (hc : c < 2) (hj : j < 29) (hF : MsF S F) (A4 : ai G (y 22 0) 4 = sb ((F 4 + 1) % 256)) (A5 : ai G (y 22 0) 5 = sb (F 5)) (A6 : ai G (y 22 0) 6 = sb (F 6)) (h94 : ∀ k, k < S → ai m (y 30 94) k = nI (F k)) (h98 : gl m 98 (y 1 0) = lN (er j)) (h58 : gi G 58 (y 10 c) = nI o) (ho : o ≤ 128) (h61 : gi G 61 (y 10 c) = 0) (h2 : j = 2 → ∃ l, 7 ≤ l ∧ l ≤ 128 ∧ gi G 45 (y 9 0) = nI l ∧ gi m 97 (y 1 0) = nI l ∧ ∀ k, 7 ≤ k → k < l → ∃ v, v < 256 ∧ ai G (y 22 0) k = sb v ∧ ai m (y 30 96) k = nI v) : ∃ X' Y', InvY t y b X' Y' ∧ eS y G X' ∧ gi X' 19 (y 3 0) = 1 ∧ gi X' 56 (y 10 c) = gi G 56 (y 10 c) ∧ (∀ K : GS → Prop, K X' → w_Answer_finish t G (y 9 0) (some (tks t j)) (y 10 c) K) ∧ (∀ K : GS → Prop, K Y' → rpT t y c K m) := by
  have hs := I.1
  have hz := I.2.1
  have hm := I.2.2.1
  have hS7 := hF.1
  have f4 := hF.2.2.1 4
  have up : gi m 75 (y 1 0) = 0 := by
    rcases I.ud with ⟨-, a⟩ | ⟨a, -⟩
    · exact a
    · rw [hrun] at a; exact absurd a (by decide)
  have tl : ∀ K : GS → Prop, (if (gl m 98 (y 1 0)) = (0 : Int64) then (w_M_reply_59 t (y 1 0) K (nI c) (nI (F 4 + 1)) m) else (∀ G6, G6 = si m 97 (y 1 0) (7 : Int32) → w_M_say t G6 (y 1 0) (gl G6 98 (y 1 0)) (fun G7 => w_M_reply_59 t (y 1 0) K (nI c) (107 : Int32) G7))) → rpT t y c K m := fun K hK => iT up ⟨y 30 94, hm.m 94, hs.k 30 94, by rw [hs.n 30 94]; exact vp_lt (n := 4) (N := 128) (by omega), fun v5 e5 => by
    have e5 : v5 = nI (F 4 + 1) := by
      rw [e5, ← nI_1]
      show ai m (y 30 94) 4 + 1 = _
      rw [h94 4 (by omega)]
    rw [e5]; exact hK⟩
  by_cases e2 : j = 2
  · subst e2
    obtain ⟨l, l7, l128, h45, h97, hb⟩ := h2 rfl
    obtain ⟨X', Y', J, es, r19, r56, rC, rM⟩ := fin_core I hrun hc l7 l128 h45 h97 (w := F 4 + 1) (by omega) A4 A5 A6 hb hF h94 h58 ho h61
    refine ⟨X', Y', J, es, r19, r56, fun K hK => isE2 (iT (by decide) (rC K hK)), fun K hK => tl K (iT (by rw [h98]; exact er2) (rM K hK))⟩
  · obtain ⟨s7, s1, s2⟩ := str7 j hj
    obtain ⟨A0, eA0⟩ : ∃ A, A = pB sb (ai G (y 22 0)) 4 107 1 := ⟨_, rfl⟩
    obtain ⟨A, B, p1, p2, p3, p4⟩ := Pw.text (G := G) (m := m) (j := j) hs hz hm hj (f := fun X K => w_Answer_putText t X (y 9 0) (some (tks t j)) K) (g := fun X K => w_M_say t X (y 1 0) (lN (er j)) K) (fun _ _ _ q => q) (fun _ _ _ q => q) A0 (ai m (y 30 96)) 7 (by omega)
    obtain ⟨X, eX⟩ : ∃ X, X = cP y G A (7 + (2 + slen j)) := ⟨_, rfl⟩
    obtain ⟨Y, eY⟩ : ∃ Y, Y = mP y m B (7 + (2 + slen j)) := ⟨_, rfl⟩
    have x : xC y G X := by rw [eX]; exact xC.rf.cP
    have w : xM y m Y := by rw [eY]; exact xM.rf.mP
    have b4 : ∀ k, k < 7 → A k = A0 k := fun k hk => (p1 k hk).1
    obtain ⟨X', Y', J, es, r19, r56, rC, rM⟩ := fin_core (I.x x w) ((x.1 19 _ (by omega)).trans hrun) hc (l := 7 + (2 + slen j)) (by omega) (by omega) (by rw [eX]; exact cP_l) (by rw [eY]; exact mP_l) (w := 107) (by omega) (by
      rw [eX, cP_A, b4 4 (by omega), eA0]; unfold pB
      rw [if_pos (by omega)]) (F := F) (by
      rw [eX, cP_A, b4 5 (by omega), eA0]; unfold pB
      rw [if_neg (by omega)]; exact A5) (by
      rw [eX, cP_A, b4 6 (by omega), eA0]; unfold pB
      rw [if_neg (by omega)]; exact A6) (fun k q1 q2 => by
      rw [eX, eY, cP_A, mP_A]; exact p2 k q1 q2) hF (fun k hk => by rw [eY, mP_a (hs.ne (by omega))]; exact h94 k hk) ((x.1 58 _ (by omega)).trans h58) ho ((x.1 61 _ (by omega)).trans h61)
    refine ⟨X', Y', J, (x.eS hs).tr es, r19, r56.trans (x.1 56 _ (by omega)), fun K hK => isEn hj e2 (iF (by simp) ⟨hs.k 9 0, S_set (p := 4) (v := 107) (n := 1) hs hz (by omega) (by omega) (by omega) (fun Z eZ => ?_)⟩), fun K hK => tl K (iF ?_ (fun Z eZ => ?_))⟩
    · rw [← eA0] at eZ
      have eZ : Z = cP y G A0 7 := eZ
      rw [eZ]
      refine p3 _ ?_
      rw [← eX]; exact rC K hK
    · rw [h98]
      intro q
      exact absurd (er_0 j hj q) e2
    · have eZ : Z = mP y m (ai m (y 30 96)) 7 := by unfold mP; rw [aw_self]; exact eZ
      have e98 : gl Z 98 (y 1 0) = lN (er j) := by rw [eZ]; exact h98
      rw [e98, eZ]
      refine p4 _ ?_
      rw [← eY]; exact rM K hK
end SRV
