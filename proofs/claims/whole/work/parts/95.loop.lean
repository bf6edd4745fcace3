/-! serve: the loop (by hand) -/
section LOP
variable {t : TY} {y : LYT} {b c n o z S : Nat} {f h : Nat → Nat} {G m : GS}
theorem S_hasN (hs : SH t y) (hz : FZ y G) (hc : c < 2) (v : LkV y G m c n o z f h) (hh : 128 < o ∨ n < 7 ∨ n < nm f 0 4) {K : Int32 → Prop} (k : K 0) : w_Link_hasMessageToHandle t G (y 10 c) K := by
  obtain ⟨q1, q2, q3, q4, q5, q6, q7, q8, q9, -⟩ := v
  have hv : yV 10 c = true := by simp [yV, hc]
  refine ⟨hs.k 10 c hv, ?_⟩
  rw [q9, q5]
  by_cases w : 128 < o
  · exact iT (nI_lt (a := 128) w (by omega)) k
  refine iF (nI_nlt (a := 128) (by omega) (by decide)) ?_
  by_cases w2 : n < 7
  · exact iT (nI_lt (b := 7) w2 (by decide)) k
  have b4 : nm f 0 4 < 2 ^ 32 := by
    rw [nm4]
    have := (q7 0 (by omega)).1
    have := (q7 1 (by omega)).1
    have := (q7 2 (by omega)).1
    have := (q7 3 (by omega)).1
    omega
  refine iF (nI_nlt (b := 7) (by omega) (by omega)) (S_first hs hz hc (fun i hi => q7 i (by omega)) ?_)
  rw [nI_l (by omega)]
  exact iT ((pk_lLT (by omega) (by omega)).mpr (by omega)) k
theorem S_hasY (hs : SH t y) (hz : FZ y G) (hc : c < 2) (v : LkV y G m c n o z f h) (ho : o ≤ 128) (h7 : 7 ≤ n) (hS : nm f 0 4 ≤ n) {K : Int32 → Prop} (k : K 1) : w_Link_hasMessageToHandle t G (y 10 c) K := by
  obtain ⟨q1, q2, q3, q4, q5, q6, q7, q8, q9, -⟩ := v
  have hv : yV 10 c = true := by simp [yV, hc]
  refine ⟨hs.k 10 c hv, ?_⟩
  rw [q9, q5]
  refine iF (nI_nlt (a := 128) (by omega) (by decide)) (iF (nI_nlt (b := 7) (by omega) (by omega)) (S_first hs hz hc (fun i hi => q7 i (by omega)) ?_))
  rw [nI_l (by omega)]
  exact iF (fun w => by have := (pk_lLT (by omega) (by omega)).mp w; omega) k
/-- nothing to do: the class -/
theorem S_rest (hs : SH t y) (hz : FZ y G) (hc : c < 2) (v : LkV y G m c n o z f h) (hh : 128 < o ∨ n < 7 ∨ n < nm f 0 4) {q i : Nat} (hi : i < 160) {K : GS → Prop} (k : K G) : w_S_serve_7 t (y 0 0) K (q + 1) (y 10 c) (nI i) G := iF (nI_ge (b := 160) hi (by decide)) ⟨hs.k 10 c (by simp [yV, hc]), S_hasN hs hz hc v hh (iT rfl k)⟩
theorem M_138N (hs : SH t y) (hm : FZ y m) (hc : c < 2) (v : LkV y G m c n o z f h) {l3 : Int64} (hh : 128 < o ∨ n < 4 ∨ ¬ l3 ≤ lN n) {K : GS → Prop} {r2 : Int32 → Int32 → GS → Prop} {l2 : Int32} (k : K m) : w_M_serve_138 t (y 1 0) K r2 (nI c) l2 l3 m := by
  obtain ⟨q1, q2, q3, q4, q5, q6, q7, q8, q9, q10, -⟩ := v
  refine ⟨hs.k 1 0, y 30 82, hm.m 82, hs.k 30 82, by rw [hs.n 30 82]; exact vp_lt (N := 2) hc, ?_⟩
  rw [nI_clamp (by omega), q10]
  by_cases w : 128 < o
  · exact iT (nI_lt (a := 128) w (by omega)) k
  refine iF (nI_nlt (a := 128) (by omega) (by decide)) ⟨y 30 80, hm.m 80, hs.k 30 80, by rw [hs.n 30 80]; exact vp_lt (N := 2) hc, ?_⟩
  rw [q6]
  by_cases w2 : n < 4
  · exact iT (nI_lt (b := 4) w2 (by decide)) k
  refine iF (nI_nlt (b := 4) (by omega) (by omega)) ?_
  rw [nI_l (by omega)]
  exact iF (by rcases hh with a | a | a; exact absurd a w; exact absurd a w2; exact a) k
theorem serveL (hc : c < 2) : ∀ (e b i : Nat) (G m : GS), InvY t y b G m → i + e ≤ 99 → b + e < 2 ^ 20 → (∀ n, gi G 56 (y 10 c) = nI n → n ≤ 160 → n ≤ 7 * e + 6) → ∃ G' m', InvY t y (b + e) G' m' ∧ eS y G G' ∧ (∀ K C : GS → Prop, (∀ G1, w_S_serve_7 t (y 0 0) K (e + 1) (y 10 c) (nI i) G1 → C G1) → K G' → w_S_breakIfMissized t G (y 0 0) (y 10 c) C) ∧ (∀ K : GS → Prop, K m' → w_M_serve_2 t (y 1 0) K (e + 1) (nI c) (nI i) m) := by
  intro e
  induction e with
  | zero => ?_
  | succ e ih => ?_
  all_goals
    intro b i G m I hie hbe hn
    have hs := I.1
    have hz := I.2.1
    have hm := I.2.2.1
    have hv : yV 10 c = true := by simp [yV, hc]
    obtain ⟨n, o, z, f, h, v⟩ := (I.2.2.2.2.1 c hc).v
    obtain ⟨q1, q2, q3, q4, q5, q6, q7, q8, q9, q10, q11, q12, q13, q14, q15, q16, q17, q18, q19, q20⟩ := id v
    have hn' := hn n q5 q1
    have v2 : ∀ g, yV 30 g = true → yL 30 g = 2 → vp_in (nI c) (tn t (y 30 g)) := fun g h1 h2 => by rw [hs.n 30 g h1, h2]; exact vp_lt (N := 2) hc
    have cl : (nI c).toNatClampNeg = c := nI_clamp (by omega)
    rcases I.ud with ⟨run, up⟩ | ⟨dn, up⟩
    rotate_left
    · have n0 := (q20 dn).1
      exact ⟨G, m, I.up (by omega), eS.rf, fun K C hC hK => S_sized hs hz hc v (by omega) (hC _ (S_rest hs hz hc v (by omega) (by omega) hK)), fun K hK => iF (nI_ge (b := 100) (by omega) (by decide)) ⟨hs.k 1 0, iT (by rw [up]; decide) hK⟩⟩
    have m29 : ∀ (K : GS → Prop) (q : Nat), gi G 61 (y 10 c) = 0 → (∃ x, w_M_serve_29 t (y 1 0) K (w_M_serve_2 t (y 1 0) K q) x (nI c) (nI i) (0 : Int64) (3 : Int32) m) → w_M_serve_2 t (y 1 0) K (q + 1) (nI c) (nI i) m := fun K q e0 hK => by
      refine iF (nI_ge (b := 100) (by omega) (by decide)) ⟨hs.k 1 0, iF (fun w => w up) ⟨y 30 85, hm.m 85, hs.k 30 85, v2 85 rfl rfl, ?_⟩⟩
      rw [cl, q18, e0]
      exact iF (by simp) hK
    rcases q17 with e0 | e1
    rotate_left
    · have n0 := (q19 e1).1
      refine ⟨G, m, I.up (by omega), eS.rf, fun K C hC hK => S_sized hs hz hc v (by omega) (hC _ (S_rest hs hz hc v (by omega) (by omega) hK)), fun K hK => iF (nI_ge (b := 100) (by omega) (by decide)) ⟨hs.k 1 0, iF (fun w => w up) ⟨y 30 85, hm.m 85, hs.k 30 85, v2 85 rfl rfl, ?_⟩⟩⟩
      rw [cl, q18, e1]
      exact iT (by decide) hK
    by_cases n4 : n < 4
    · refine ⟨G, m, I.up (by omega), eS.rf, fun K C hC hK => S_sized hs hz hc v (by omega) (hC _ (S_rest hs hz hc v (by omega) (by omega) hK)), fun K hK => m29 K _ e0 (M_first0 hs hm hc q6 n4 ⟨hs.k 1 0, y 30 80, hm.m 80, hs.k 30 80, v2 80 rfl rfl, ?_⟩)⟩
      rw [cl, q6]
      exact iT (nI_le (b := 3) (by omega) (by decide)) (M_138N hs hm hc v (by omega) hK)
    have b4 : nm f 0 4 < 2 ^ 32 := by
      rw [nm4]
      have := (q7 0 (by omega)).1
      have := (q7 1 (by omega)).1
      have := (q7 2 (by omega)).1
      have := (q7 3 (by omega)).1
      omega
    by_cases sz : 7 ≤ nm f 0 4 ∧ nm f 0 4 ≤ z
    rotate_left
    · -- broken off
      obtain ⟨G', m', J, es, keep, rS, rM⟩ := relAllY (c := c) hc (by omega) I
      have hz' := J.2.1
      have hm' := J.2.2.1
      have m100 : ∀ (K : GS → Prop) (q : Nat), w_M_serve_100 t (y 1 0) K (nI c) m → w_M_serve_2 t (y 1 0) K (q + 1) (nI c) (nI i) m := fun K q hK => m29 K q e0 (M_first hs hm hc q6 (by omega) q1 q8 ⟨hs.k 1 0, y 30 80, hm.m 80, hs.k 30 80, v2 80 rfl rfl, by
        rw [cl, q6]
        refine iF (nI_ge (a := 3) (by omega) (by omega)) ?_
        by_cases w : nm f 0 4 < 7
        · exact iT ((pk_lLT (b := 7) (by omega) (by decide)).mpr w) hK
        · refine iF (fun w' => w ((pk_lLT (b := 7) (by omega) (by decide)).mp w')) ⟨y 30 83, hm.m 83, hs.k 30 83, v2 83 rfl rfl, ?_⟩
          rw [q14, nI_l (by omega)]
          exact iF (fun w' => sz ⟨by omega, (pk_lLE (by omega) (by omega)).mp w'⟩) hK⟩)
      rcases J.ud with ⟨run', up'⟩ | ⟨dn', up'⟩
      · have JB := J.br hc run'
        obtain ⟨n', o', z', f', h', v'⟩ := (JB.2.2.2.2.1 c hc).v
        have n0 : n' = 0 := by
          have e56 : gi (brC y G' c) 56 (y 10 c) = nI 0 := by simp [brC, giS]; rfl
          exact (nI_eq (by have := v'.1; omega) (by omega)).mp (v'.2.2.2.2.1.symm.trans e56)
        refine ⟨brC y G' c, brM y m' c 1, JB.up (by omega), es.tr (brC_c.e hs), fun K C hC hK => S_missized hs hz hc v (by omega) sz (rS _ ⟨y 3 0, hz'.1.2.1, hs.k 3 0, iF (by rw [run']; decide) (S_breakOff hs hc (hC _ (S_rest hs JB.2.1 hc v' (by omega) (by omega) hK)))⟩), fun K hK => m100 K _ ⟨hs.k 1 0, rM _ (iF (fun w => w up') (M_122 hs hm' hc (Or.inr rfl) hK))⟩⟩
      · obtain ⟨n', o', z', f', h', v'⟩ := (J.2.2.2.2.1 c hc).v
        obtain ⟨a1, a2, a3, a4, a5, a6, a7, a8, a9, a10, a11, a12, a13, a14, a15, a16, a17, a18, a19, a20⟩ := id v'
        obtain ⟨n0, o0, g61⟩ := a20 dn'
        have self : brM y m' c 0 = m' := by
          have e1 : ais m' (y 30 85) c 0 = m' := ais_self (by rw [a18, g61])
          have e2 : ais m' (y 30 80) c 0 = m' := ais_self (by rw [a6, n0]; rfl)
          have e3 : ais m' (y 30 82) c 0 = m' := ais_self (by rw [a10, o0]; rfl)
          unfold brM
          rw [e1, e2, e3]
        refine ⟨G', m', J.up (by omega), es, fun K C hC hK => S_missized hs hz hc v (by omega) sz (rS _ ⟨y 3 0, hz'.1.2.1, hs.k 3 0, iT dn' (hC _ (S_rest hs hz' hc v' (by omega) (by omega) hK))⟩), fun K hK => m100 K _ ⟨hs.k 1 0, rM _ (iT (by rw [up']; decide) (M_122 hs hm' hc (Or.inl rfl) (by rw [self]; exact hK)))⟩⟩
    have m138 : ∀ (K : GS → Prop) (q : Nat), w_M_serve_138 t (y 1 0) K (w_M_serve_2 t (y 1 0) K q) (nI c) (nI i) (lN (nm f 0 4)) m → w_M_serve_2 t (y 1 0) K (q + 1) (nI c) (nI i) m := fun K q hK => m29 K q e0 (M_first hs hm hc q6 (by omega) q1 q8 ⟨hs.k 1 0, y 30 80, hm.m 80, hs.k 30 80, v2 80 rfl rfl, by
      rw [cl, q6]
      refine iF (nI_ge (a := 3) (by omega) (by omega)) (iF (fun w' => by have := (pk_lLT (b := 7) (by omega) (by decide)).mp w'; omega) ⟨y 30 83, hm.m 83, hs.k 30 83, v2 83 rfl rfl, ?_⟩)
      rw [q14, nI_l (by omega)]
      exact iT ((pk_lLE (by omega) (by omega)).mpr sz.2) hK⟩)
    by_cases go : o ≤ 128 ∧ nm f 0 4 ≤ n
    rotate_left
    · exact ⟨G, m, I.up (by omega), eS.rf, fun K C hC hK => S_sized hs hz hc v (Or.inr sz) (hC _ (S_rest hs hz hc v (by omega) (by omega) hK)), fun K hK => m138 K _ (M_138N hs hm hc v (by
        by_cases w : 128 < o
        · exact Or.inl w
        · exact Or.inr (Or.inr (fun w' => go ⟨by omega, (pk_lLE (by omega) (by omega)).mp w'⟩))) hK)⟩
  · omega
  · -- a message
    obtain ⟨S, hS⟩ : ∃ S, S = nm f 0 4 := ⟨_, rfl⟩
    rw [← hS] at sz go
    obtain ⟨G6, m6, P6, es6, g56, g58, g61, A4, A5, A6, rT, rN⟩ := begun I hc run v hS sz.1 sz.2 go.2
    obtain ⟨G', m', j, hj, J, es, r1, r2, tl⟩ := h_msg P6 (by omega)
    obtain ⟨hI6, -, -, hF, -, mm6, -⟩ := P6
    have hz' := J.2.1
    have cgo : ∀ K C : GS → Prop, (∀ G1, w_S_serve_7 t (y 0 0) K (e + 1 + 1) (y 10 c) (nI i) G1 → C G1) → w_S_serve_91 t (y 0 0) K (w_S_serve_7 t (y 0 0) K (e + 1)) (y 10 c) (nI i) (some (tks t j)) G' → w_S_breakIfMissized t G (y 0 0) (y 10 c) C := fun K C hC hK => S_sized hs hz hc v (Or.inr (by rw [← hS]; exact sz)) (hC _ (iF (nI_ge (b := 160) (by omega) (by decide)) ⟨hs.k 10 c hv, S_hasY hs hz hc v go.1 (by omega) (by rw [← hS]; exact go.2) (iF (by decide) ⟨hs.k 0 0, y 8 0, hz.1.2.2.2.1, hs.k 8 0, rT _ (r1 (fun X x => w_S_serve_91 t (y 0 0) K (w_S_serve_7 t (y 0 0) K (e + 1)) (y 10 c) (nI i) x X) hK)⟩)⟩))
    have mgo : ∀ K : GS → Prop, rpT t y c (fun G2 => ∀ v3 : Int32, v3 = (nI i + (1 : Int32)) → w_M_serve_2 t (y 1 0) K (e + 1) (nI c) v3 G2) m' → w_M_serve_2 t (y 1 0) K (e + 1 + 1) (nI c) (nI i) m := fun K hK => m138 K _ (by
      refine ⟨hs.k 1 0, y 30 82, hm.m 82, hs.k 30 82, v2 82 rfl rfl, ?_⟩
      rw [cl, q10]
      refine iF (nI_nlt (a := 128) (by omega) (by decide)) ⟨y 30 80, hm.m 80, hs.k 30 80, v2 80 rfl rfl, ?_⟩
      rw [q6]
      refine iF (nI_nlt (b := 4) (by omega) (by omega)) ?_
      rw [nI_l (by omega), ← hS]
      refine iT ((pk_lLE (by omega) (by omega)).mpr go.2) (fun X eX => ?_)
      rw [lN_i] at eX
      rw [eX]
      exact rN K _ _ (r2 _ hK))
    rcases J.ud with ⟨run', up'⟩ | ⟨dn', up'⟩
    · obtain ⟨t1, t2, t3, t4, t5, t6⟩ := tl run'
      have t58 : gi G' 58 (y 10 c) = gi G6 58 (y 10 c) := congrArg Prod.fst t5
      have t61 : gi G' 61 (y 10 c) = gi G6 61 (y 10 c) := congrArg Prod.snd t5
      obtain ⟨X', Y', L, esX, x19, x56, rC, rM⟩ := fin (F := msF f S) (S := S) (o := o) J run' hc hj hF (by rw [t1 4 (by omega) (by omega)]; exact A4) (by rw [t1 5 (by omega) (by omega)]; exact A5) (by rw [t1 6 (by omega) (by omega)]; exact A6) (fun k hk => by rw [t2]; exact mm6.2 k hk) t3 (t58.trans g58) go.1 (t61.trans g61) t6
      obtain ⟨G9, m9, N, es9, c9, d9⟩ := ih (b + 1) (i + 1) X' Y' L (by omega) (by omega) (fun n' e' h' => by
        have := x56.trans (t4.trans g56)
        rw [e'] at this
        have := (nI_eq (by omega) (by omega)).mp this
        omega)
      refine ⟨G9, m9, by rw [show b + (e + 1) = b + 1 + e by omega]; exact N, ((es6.tr es).tr esX).tr es9, fun K C hC hK => cgo K C hC ⟨hs.k 0 0, y 3 0, hz'.1.2.1, hs.k 3 0, iF (by rw [run']; decide) ⟨y 9 0, hz'.1.2.2.2.2.1, hs.k 9 0, rC _ ⟨hs.k 0 0, ?_⟩⟩⟩, fun K hK => mgo K (rM _ (fun v3 e3 => ?_))⟩
      · exact c9 K _ (fun G1 h1 v2 e2 => by rw [e2, nI_1]; exact h1) hK
      · rw [e3, nI_1]; exact d9 K hK
    · obtain ⟨G9, m9, N, es9, c9, d9⟩ := ih (b + 1) (i + 1) G' m' J (by omega) (by omega) (fun n' e' h' => by
        obtain ⟨n'', o'', z'', f'', h'', v''⟩ := (J.2.2.2.2.1 c hc).v
        have n0 := (v''.2.2.2.2.2.2.2.2.2.2.2.2.2.2.2.2.2.2.2 dn').1
        have := (nI_eq (by omega) (by have := v''.1; omega)).mp (e'.symm.trans v''.2.2.2.2.1)
        omega)
      refine ⟨G9, m9, by rw [show b + (e + 1) = b + 1 + e by omega]; exact N, (es6.tr es).tr es9, fun K C hC hK => cgo K C hC ⟨hs.k 0 0, y 3 0, hz'.1.2.1, hs.k 3 0, iT dn' ⟨hs.k 0 0, ?_⟩⟩, fun K hK => mgo K (iF (by rw [up']; decide) (fun v3 e3 => ?_))⟩
      · exact c9 K _ (fun G1 h1 v2 e2 => by rw [e2, nI_1]; exact h1) hK
      · rw [e3, nI_1]; exact d9 K hK
end LOP
