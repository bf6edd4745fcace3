/-! walk (by hand) -/
theorem slen0 : ∀ j, j < 29 → j ≠ 2 → slen j ≠ 0 := by decide +kernel
section WALKB
variable {t : TY} {y : LYT} {b c z k : Nat} {f : Nat → Nat} {G G1 m m1 : GS} {n np : Nat} {r s : Nat → Nat}
theorem isE2 {K : Int32 → Prop} (k : K 1) : w_str_isEmpty t (some (tks t 2)) K := ⟨2, by omega, rfl, by rw [if_pos (by decide)]; exact k⟩
theorem isEn {j : Nat} (hj : j < 29) (h2 : j ≠ 2) {K : Int32 → Prop} (k : K 0) : w_str_isEmpty t (some (tks t j)) K := ⟨j, hj, rfl, by rw [if_neg (slen0 j hj h2)]; exact k⟩
/-- bytes set in the answer -/
theorem S_set (hs : SH t y) (hz : FZ y G) {p v n : Nat} (hv : v < 2 ^ 64) (hn : n ≤ 8) (hl : p + n ≤ 128) {K : GS → Prop} (k : K (aw G (y 22 0) (pB sb (ai G (y 22 0)) p v n))) : w_Answer_set t G (y 9 0) (nI p) (lN v) (nI n) K := by
  have key := pk_loop (fun q i (_ : Unit) => w_Answer_set_3 t (y 9 0) K q (nI p) (lN v) (nI n) (nI i) (aw G (y 22 0) (pB sb (ai G (y 22 0)) p v i))) (fun _ _ => True) n 0 () (by omega) trivial (fun q _ _ => ?_) (fun q i _ hi _ ih => ?_)
  · obtain ⟨q, hq⟩ := key
    refine ⟨q, ?_⟩
    have hq : w_Answer_set_3 t (y 9 0) K q (nI p) (lN v) (nI n) (nI 0) (aw G (y 22 0) (pB sb (ai G (y 22 0)) p v 0)) := hq
    rw [pB_0, aw_self] at hq
    exact hq
  · exact iT (Int32.le_refl _) k
  · have hzA : FZ y (aw G (y 22 0) (pB sb (ai G (y 22 0)) p v i)) := hz.to hs (sZ.of (fun _ _ => rfl) (fun _ => rfl))
    refine iF (nI_ge hi (by omega)) ⟨hs.k 9 0, y 22 0, hzA.2.2.1.2.2.2, hs.k 22 0, ?_⟩
    rw [nI_add, hs.n 22 0]
    refine iF (nI_ge (b := 128) (by omega) (by decide)) ⟨vp_lt (N := 128) (by omega), ?_⟩
    intro G2 e2 v3 e3
    rw [nI_clamp (by omega), byC hv (by omega), aw_ais, pB_s] at e2
    rw [nI_1] at e3
    subst e2 e3
    exact ih () trivial
theorem xC_si (a : xC y G G1) {f x : Nat} {v : Int32} : xC y (si G f x v) (si G1 f x v) := ⟨fun g d q => by rw [giS, giS, a.1 g d q], a.2.1, a.2.2.1, a.2.2.2.1, a.2.2.2.2.1, a.2.2.2.2.2⟩
theorem xC_sl (a : xC y G G1) {f x : Nat} {v : Int64} : xC y (sl G f x v) (sl G1 f x v) := ⟨a.1, fun g d => by rw [glL, glL, a.2.1 g d], a.2.2.1, a.2.2.2.1, a.2.2.2.2.1, a.2.2.2.2.2⟩
theorem xC_sr (a : xC y G G1) {f x : Nat} {v : Option Nat} : xC y (sr G f x v) (sr G1 f x v) := ⟨a.1, a.2.1, fun g d => by rw [grR, grR, a.2.2.1 g d], a.2.2.2.1, a.2.2.2.2.1, a.2.2.2.2.2⟩
theorem xC_pl (a : xC y G G1) {v : Int64} {x : Nat} {p : Int32} {ou : Option Nat} : xC y (plC y G k v x p ou) (plC y G1 k v x p ou) := xC_si (xC_sl (xC_si (xC_si (xC_sr (xC_si (xC_sr (xC_sl (xC_si a))))))))
theorem xM_ais (a : xM y m m1) {x i : Nat} {v : Int32} : xM y (ais m x i v) (ais m1 x i v) := ⟨a.1, a.2.1, a.2.2.1, fun b h1 h2 => funext fun j => by rw [aiA, aiA, congrFun (a.2.2.2.1 b h1 h2) j], a.2.2.2.2.1, a.2.2.2.2.2⟩
theorem xM_als (a : xM y m m1) {x i : Nat} {v : Int64} : xM y (als m x i v) (als m1 x i v) := ⟨a.1, a.2.1, a.2.2.1, a.2.2.2.1, fun b => funext fun j => by rw [alB, alB, congrFun (a.2.2.2.2.1 b) j], a.2.2.2.2.2⟩
theorem xM_pt (a : xM y m m1) {p u : Int32} : xM y (ptM y m k p u) (ptM y m1 k p u) := xM_ais (xM_als (xM_ais (xM_ais (xM_ais (xM_ais a)))))
/-- what is known of a fid in use -/
theorem fid_state (h : InvZ t y b G m n r s np) (hb : np < 2 ^ 31) (hk : k < 12) (hus : gi G 46 (y 14 k) = 1) : ∃ j u, u < 3 ∧ gr G 50 (y 14 k) = some (tad t u) ∧ ai m (y 30 89) k = nI u ∧ gr G 48 (y 14 k) = some (y 5 j) ∧ j ≤ 20 ∧ ((lvN n r j ∧ (∀ K : Int32 → Prop, K 0 → w_Fid_isGone t G (y 14 k) K) ∧ (∀ K : Int32 → Prop, K (nI (s j)) → w_M_find t m (y 1 0) (ai m (y 30 88) k) K)) ∨ ((∀ K : Int32 → Prop, K 1 → w_Fid_isGone t G (y 14 k) K) ∧ ∀ K : Int32 → Prop, K (-1) → w_M_find t m (y 1 0) (ai m (y 30 88) k) K)) := by
  obtain ⟨hs, hz, hm, -, -, -, hT, hF, -⟩ := h
  obtain ⟨v, p, j, u, a1, a2, a3, a4, a5, a6, a7, a8, a9, a10, a11, a12, a13, -⟩ := hF k hk hus
  refine ⟨j, u, a11, a12, a13, a4, a5, ?_⟩
  have hvk : yV 14 k = true := by simp [yV, hk]
  have hvj : yV 5 j = true := by simp [yV]; omega
  rw [a7]
  by_cases g : gi G 0 (y 5 j) = nI p
  · have hj := a9 g
    have x := hT.nd hj
    exact Or.inl ⟨hj, fun K hK => ⟨hs.k 14 k hvk, y 5 j, a4, hs.k 5 j hvj, iT (by rw [a6]; exact g) hK⟩, fun K hK => M_find hs hm x.1 x.2.2.1 (x.2.2.2.1.trans g) (fun q hq z1 z2 => hT.uniq hb hj hq z1 (z2.trans g.symm)) hK⟩
  · refine Or.inr ⟨fun K hK => ⟨hs.k 14 k hvk, y 5 j, a4, hs.k 5 j hvj, iF (by rw [a6]; exact g) hK⟩, fun K hK => M_findNo hs hm (fun q hq z1 z2 => ?_) hK⟩
    obtain ⟨j', hj', rfl⟩ := hT.slot hq z1
    have := (hT.nd hj').2.2.2.1
    rw [z2] at this
    have e := a10 j' hj' this.symm
    subst e
    exact g this.symm
/-- the reference's next node -/
def mNx (t : TY) (y : LYT) (m : GS) (sd q : Nat) (K : Int32 → Prop) : Prop := w_M_isDots t m (y 1 0) (nI q) (fun v3 => (if v3 = 0 then (w_M_named t m (y 1 0) (nI sd) (nI q) K) else ((if ¬ nI sd = 0 then (w_M_at t m (y 1 0) (nI sd) (8 : Int32) (fun v5 => w_M_find t m (y 1 0) v5 K)) else (K 0)))))
/-- the way of one name -/
theorem walk1 (hb : np < 2 ^ 31) (hs : SH t y) (hz : FZ y G) (hm : FZ y m) (hTr : TrR t y G (ai m (y 30 70)) n r s np) (hf : MsF z f) (mc : MsC y G z f) (mm : MsM y m z f) {N i d : Nat} (hT : TxC y G f 17 N) (hN : N ≤ 4) (hi : i < N) (hin : tp f 17 N ≤ z) (hd : lvN n r d) : (∃ d', lvN n r d' ∧ (∀ K : Option Nat → Prop, K (some (y 5 d')) → w_S_nextNode t G (y 0 0) (y 5 d) (nI i) K) ∧ (∀ K : Int32 → Prop, K (nI (s d')) → mNx t y m (s d) (tp f 17 i) K)) ∨ ((∀ K : Option Nat → Prop, K none → w_S_nextNode t G (y 0 0) (y 5 d) (nI i) K) ∧ (∀ K : Int32 → Prop, K (-1) → mNx t y m (s d) (tp f 17 i) K)) := by
  have x := hTr.nd hd
  have hd20 := hTr.le hd
  have hvd : yV 5 d = true := by simp [yV]; omega
  have inI := tp_in hin hi
  obtain ⟨x1, x2⟩ := hT.1 i hi
  have s16 : slen 16 = 2 := by decide
  have hL : nm f (tp f 17 i) 2 ≤ 128 := by have := hf.2.1; omega
  have cpre : ∀ K : Option Nat → Prop, (isDd f (tp f 17 i) → if ¬ (gr G 7 (y 5 d)) = none then K (gr G 7 (y 5 d)) else K (some (y 5 d))) → (¬ isDd f (tp f 17 i) → w_Tree_entry t G (y 2 0) (y 5 d) (y 8 0) (nI i) K) → w_S_nextNode t G (y 0 0) (y 5 d) (nI i) K := fun K kd ke => by
    have e48 : ¬ isDd f (tp f 17 i) → w_S_nextNode_48 t G (y 0 0) K (y 5 d) (nI i) := fun w => ⟨hs.k 0 0, y 2 0, hz.1.1, hs.k 2 0, y 8 0, hz.1.2.2.2.1, ke w⟩
    refine ⟨hs.k 0 0, y 8 0, hz.1.2.2.2.1, hs.k 8 0, y 21 0, hz.2.2.1.2.2.1, hs.k 21 0, by rw [hs.n 21 0]; exact vp_lt (N := 4) (by omega), 16, by omega, rfl, ?_⟩
    rw [nI_clamp (by omega), x2]
    refine iN ⟨fun e => ?_, fun e => e48 fun w => e (by rw [w.1, s16])⟩
    have e := (nI_eq (by omega) (by omega)).mp e
    refine S_textBegins hs hz hf mc hT (by omega) hi hN (by omega) (fun _ w => iF (by decide) ⟨hs.k 5 d hvd, kd ((isDd_e hf.2.2.1).mp ⟨e, w⟩)⟩) (fun w => iT rfl (e48 fun q => w ⟨by omega, ((isDd_e hf.2.2.1).mpr q).2⟩))
  by_cases dd : isDd f (tp f 17 i)
  · have mpre : ∀ K : Int32 → Prop, (if ¬ nI (s d) = 0 then (w_M_at t m (y 1 0) (nI (s d)) (8 : Int32) (fun v5 => w_M_find t m (y 1 0) v5 K)) else K 0) → mNx t y m (s d) (tp f 17 i) K := fun K hK => M_isDots hs hm hf mm inI (fun _ => iF (by decide) hK) (fun w => absurd dd w)
    by_cases h0 : d = 0
    · subst h0
      have e7 : gr G 7 (y 5 0) = none := hTr.2.2.2.2.2.2.2.2.2.2.2.2.1.1
      have s0 : s 0 = 0 := hTr.2.2.2.2.2.2.2.2.2.1
      exact Or.inl ⟨0, lv0, fun K hK => cpre K (fun _ => iF (by rw [e7]; simp) hK) (fun w => absurd dd w), fun K hK => mpre K (iF (by rw [s0]; simp [nI_0]) (by rw [s0] at hK; exact hK))⟩
    · obtain ⟨j', hj', e7, e8, -⟩ := hTr.home hd h0
      have xj := hTr.nd hj'
      refine Or.inl ⟨j', hj', fun K hK => cpre K (fun _ => iT (by rw [e7]; simp) (by rw [e7]; exact hK)) (fun w => absurd dd w), fun K hK => mpre K (iT (nI_ne0 (x.2.1 h0) (by omega)) (M_at (c := 8) hs hm x.1 (by omega) ?_))⟩
      rw [e8]
      exact M_find hs hm xj.1 xj.2.2.1 xj.2.2.2.1 (fun q hq z1 z2 => hTr.uniq hb hj' hq z1 z2) hK
  · rcases ent_or y G f (tp f 17 i) d n r with ⟨e, he, w1, w2⟩ | w
    · exact Or.inl ⟨r e, hTr.in he, fun K hK => cpre K (fun q => absurd q dd) (fun _ => S_entryY hTr hs hz hf mc hT hi hN inI he w1 w2 hK), fun K hK => M_isDots hs hm hf mm inI (fun q => absurd q dd) (fun _ => iT rfl (M_namedY hTr hb hs hm hf mm inI hd he w1 hK))⟩
    · exact Or.inr ⟨fun K hK => cpre K (fun q => absurd q dd) (fun _ => S_entryN hTr hs hz hf mc hT hi hN inI w hK), fun K hK => M_isDots hs hm hf mm inI (fun q => absurd q dd) (fun _ => iT rfl (M_namedN hTr hb hs hm hf mm inI hd w hK))⟩
end WALKB
/-- the answers' bytes so far -/
def AB (y : LYT) (G : GS) (A B : Nat → Int32) (l : Nat) : Prop := (∀ x, x < 7 → A x = ai G (y 22 0) x) ∧ B 8 = nI 0 ∧ ∀ x, 7 ≤ x → x < l → ∃ v, v < 256 ∧ A x = sb v ∧ B x = nI v
section WALKL
variable {t : TY} {y : LYT} {b c z k k' : Nat} {f : Nat → Nat} {G m : GS} {n np : Nat} {r s : Nat → Nat}
theorem er2 : lN (er 2) = 0 := by decide +kernel
/-- an error on the way -/
theorem walkE (P : Pre t y b c z f G m) {N i e d u v' : Nat} {sm : Int32} {w : Int64} {ev : Int64} (h4 : f 4 = 110) (hT : TxC y G f 17 N) (hN : N ≤ 4) (hi : i < N) {A B : Nat → Int32} (ab : AB y G A B (9 + 13 * i)) (he : e < 29) (he2 : e ≠ 2) (ee : lN (er e) = ev) (e0 : ¬ ev = 0) {F : (GS → Option Nat → Prop) → Prop} {H : (GS → Prop) → Prop} {oc : Option Nat} {q : Int32}
    (hF : ∀ K : GS → Option Nat → Prop, (∀ v2 : Int32, v2 = nI i + 1 → ∃ q, w_S_walkNames_31 t (y 0 0) K q (y 14 k') w (some (tad t u)) oc (nI i) (some (tks t e)) v2 (cP y G A (9 + 13 * i))) → F K)
    (hH : ∀ K : GS → Prop, (∀ v3 : Int32, v3 = nI i + 1 → ∃ x, w_M_walk_133 t (y 1 0) K x (nI c) (nI k) (lN v') sm (nI N) (nI d) q (nI i) v3 (sl (mP y m B (9 + 13 * i)) 98 (y 1 0) ev)) → H K) : HR t y b c G m F H := by
  have hs := P.s
  have hzX : FZ y (cP y G A (9 + 13 * i)) := cP_z hs P.g
  have e42 : gi (cP y G A (9 + 13 * i)) 42 (y 8 0) = nI N := (cP_i (by omega)).trans hT.2.1
  obtain ⟨G', eG'⟩ : ∃ X, X = aw (cP y G A (9 + 13 * i)) (y 22 0) (pB sb A 7 i 2) := ⟨_, rfl⟩
  have xc : xC y G G' := by rw [eG']; exact (xC.rf.cP).aw (k := 22)
  have bts : ai G' (y 22 0) = pB sb A 7 i 2 := by rw [eG']; exact aw_at
  have b46 : ∀ x, 4 ≤ x → x < 7 → ai G' (y 22 0) x = ai G (y 22 0) x := fun x _ h2 => by rw [bts]; exact (if_neg (by omega)).trans (ab.1 x h2)
  have cls : ∀ K : GS → Option Nat → Prop, (if ¬ nI i = 0 then K G' (some (tks t 2)) else K G' (some (tks t e))) → F K := fun K hK => hF K fun v2 e2 => ⟨1, by
    have h125 : w_S_walkNames_125 t (y 0 0) K (y 14 k') w (some (tad t u)) oc (nI i) (some (tks t e)) (cP y G A (9 + 13 * i)) := isEn he he2 (iT rfl ⟨hs.k 0 0, y 9 0, hzX.1.2.2.2.2.1, hs.k 9 0, by
      rw [nI_l (by omega)]
      refine S_set (p := 7) (n := 2) hs hzX (by omega) (by omega) (by omega) ?_
      rw [cP_A, ← eG']
      exact hK⟩)
    refine ⟨hs.k 0 0, y 8 0, hzX.1.2.2.2.1, hs.k 8 0, iS ⟨fun _ => h125, fun _ => isEn he he2 (iT rfl h125)⟩⟩⟩
  obtain ⟨m1, em1⟩ : ∃ X, X = sl (mP y m B (9 + 13 * i)) 98 (y 1 0) ev := ⟨_, rfl⟩
  have hm1 : FZ y m1 := P.hm.to hs (sZ.of (fun _ _ => by rw [em1]; rfl) (fun _ => by rw [em1]; rfl))
  obtain ⟨m2, em2⟩ : ∃ X, X = ais m1 (y 30 96) 7 (nI i) := ⟨_, rfl⟩
  have xm1 : xM y m m1 := by rw [em1]; exact (xM.rf.mP).sl (f := 98)
  have xm2 : xM y m m2 := by
    rw [em2]
    exact xm1.tr ⟨fun _ _ _ => rfl, fun _ _ _ => rfl, fun _ _ => rfl, fun b _ h2 => ai_nb h2, fun _ => rfl, fun _ => rfl⟩
  have a94 : ai m2 (y 30 94) = ai m (y 30 94) := by rw [em2, ai_nb (hs.ne (by omega)), em1]; exact mP_a (l := 9 + 13 * i) (hs.ne (by omega))
  have g98 : gl m2 98 (y 1 0) = ev := by rw [em2, em1]; exact gl_at
  have g97 : gi m2 97 (y 1 0) = nI (9 + 13 * i) := by rw [em2, em1]; exact mP_l
  have a96 : ∀ x, ai m2 (y 30 96) x = if x = 7 then nI i else B x := fun x => by
    rw [em2]
    by_cases q : x = 7
    · rw [q, if_pos rfl]; exact ai_at
    · rw [if_neg q, ai_nj q, em1]; exact congrFun (mP_A (l := 9 + 13 * i)) x
  have mdl : ∀ K : GS → Prop, (if nI i ≤ 0 then K m2 else K (sl m2 98 (y 1 0) 0)) → H K := fun K hK => hH K fun v3 e3 => ⟨1, by
    rw [← em1]
    have h300 : w_M_walk_300 t (y 1 0) K (nI c) (nI k) (lN v') sm (nI N) (nI d) (nI i) m1 := by
      refine ⟨hs.k 1 0, y 30 96, hm1.m 96, hs.k 30 96, by rw [hs.n 30 96]; exact vp_lt (n := 7) (N := 160) (by omega), fun X eX => ?_⟩
      have eX : X = m2 := by rw [eX, em2]; rfl
      subst eX
      refine iS ⟨fun q => ⟨hs.k 1 0, ?_⟩, fun q X eX => ⟨hs.k 1 0, ?_⟩⟩
      · rw [if_pos q] at hK
        exact iT (by rw [g98]; exact e0) hK
      · rw [if_neg q] at hK
        subst eX
        exact iF (fun w => w gl_at) (iF (nI_ge hi (by omega)) hK)
    refine iS ⟨fun _ => h300, fun _ => ⟨hs.k 1 0, iT ?_ h300⟩⟩
    rw [em1]
    show ¬ gl (sl (mP y m B (9 + 13 * i)) 98 (y 1 0) ev) 98 (y 1 0) = 0
    rw [gl_at]; exact e0⟩
  by_cases q : i = 0
  · subst q
    exact HR.err P he he2 xc b46 xm2 a94 (by rw [g98, ee]) (fun K hK => cls K (iF (by simp [nI_0]) hK)) (fun K hK => mdl K (iT (by decide) hK))
  · refine ⟨G', sl m2 98 (y 1 0) 0, 2, by omega, P.i.x xc (xm2.sl (f := 98)), xc.eS hs, fun K hK => cls K (iT (nI_ne0 (by omega) (by omega)) hK), fun K hK => mdl K (iF (nI_nle (by omega) (by omega)) hK), fun _ => ⟨b46, a94, by rw [er2]; exact gl_at, xc.1 56 _ (by omega), p58 (xc.1 58 _ (by omega)) (xc.1 61 _ (by omega)), fun _ => ⟨9 + 13 * i, by omega, by omega, by rw [eG']; exact cP_l, g97, fun x h1 h2 => ?_⟩⟩⟩
    show ∃ v, v < 256 ∧ ai G' (y 22 0) x = sb v ∧ ai m2 (y 30 96) x = nI v
    rw [bts, a96]
    by_cases q7 : x = 7
    · subst q7
      refine ⟨i, by omega, ?_, if_pos rfl⟩
      show (if 7 ≤ 7 ∧ 7 < 7 + 2 then sb (i / 256 ^ (7 - 7) % 256) else _) = _
      rw [if_pos (by omega), Nat.sub_self, Nat.pow_zero, Nat.div_one, Nat.mod_eq_of_lt (by omega)]
    · rw [if_neg q7]
      by_cases q8 : x = 8
      · subst q8
        refine ⟨0, by omega, ?_, ab.2.1⟩
        show (if 7 ≤ 8 ∧ 8 < 7 + 2 then sb (i / 256 ^ (8 - 7) % 256) else _) = _
        rw [if_pos (by omega), show (8 - 7) = 1 by omega, Nat.pow_one, Nat.div_eq_of_lt (by omega)]
      · obtain ⟨v, v1, v2, v3⟩ := ab.2.2 x h1 h2
        exact ⟨v, v1, by rw [← v2]; exact if_neg (by omega), v3⟩
/-- all names have been walked -/
theorem walkZ (P : Pre t y b c z f G m) (hZ : InvZ t y b G m n r s np) {N d u v' : Nat} {sm : Int32} (hT : TxC y G f 17 N) (hN : N ≤ 4) {A B : Nat → Int32} (ab : AB y G A B (9 + 13 * N)) (hd : lvN n r d) (hu : u < 3) (h99 : gi m 99 (y 1 0) = nI u) (hk' : k' < 12) (hv' : v' < 2 ^ 32) (op : GS → GS) (o1 : ∀ Y, xM y m Y → xM y (op m) (op Y)) (o2 : ∀ Y, fM y k' Y (op Y)) (o3 : ai (op m) (y 30 86) k' = 1) (o4 : al (op m) (y 30 87) k' = lN v') (o5 : ∀ Y, xM y m Y → ∀ K : GS → Prop, K (ptM y (op Y) k' (ai m (y 30 70) (83 * s d + 1)) (nI u)) → (if sm = 0 then w_M_make t Y (y 1 0) (nI c) (lN v') (nI (s d)) (nI u) K else w_M_point t Y (y 1 0) (nI k) (nI (s d)) (nI u) K)) : HR t y b c G m (fun K => ∃ q, w_S_walkNames_31 t (y 0 0) K q (y 14 k') (lN v') (some (tad t u)) (some (y 5 d)) (nI N) (some (tks t 2)) (nI N) (cP y G A (9 + 13 * N))) (fun K => ∃ q, w_M_walk_133 t (y 1 0) K q (nI c) (nI k) (lN v') sm (nI N) (nI (s d)) (nI (tp f 17 N)) (nI N) (nI N) (mP y m B (9 + 13 * N))) := by
  have hs := P.s
  have hzX : FZ y (cP y G A (9 + 13 * N)) := cP_z hs P.g
  have e42 : gi (cP y G A (9 + 13 * N)) 42 (y 8 0) = nI N := (cP_i (by omega)).trans hT.2.1
  have hnp : np < 2 ^ 31 := by have := hZ.2.2.2.2.2.2.2.2.2.1; have := P.hb; omega
  have hTr := hZ.2.2.2.2.2.2.1
  have hd20 := hTr.le hd
  obtain ⟨w1, w2⟩ := fid_placed (m0 := op m) (k := k') (j := d) (u := u) (v := v') hZ hnp P.r hd hu hv' o3 o4
  have J := (hZ.fid hk' plC_f (ptM_f (o2 m)) w1 w2).of
  obtain ⟨G1, eG1⟩ : ∃ X, X = plC y (cP y G A (9 + 13 * N)) k' (lN v') (y 5 d) (gi G 0 (y 5 d)) (some (tad t u)) := ⟨_, rfl⟩
  have f1 : fC y k' (cP y G A (9 + 13 * N)) G1 := by rw [eG1]; exact plC_f
  have hz1 : FZ y G1 := f1.fz hs hzX
  have a1 : ai G1 (y 22 0) = A := (f1.2.1 _).trans cP_A
  obtain ⟨G', eG'⟩ : ∃ X, X = aw G1 (y 22 0) (pB sb A 7 N 2) := ⟨_, rfl⟩
  have xc : xC y (plC y G k' (lN v') (y 5 d) (gi G 0 (y 5 d)) (some (tad t u))) G' := by rw [eG', eG1]; exact (xC_pl (xC.rf.cP)).aw (k := 22)
  have bts : ai G' (y 22 0) = pB sb A 7 N 2 := by rw [eG']; exact aw_at
  have b46 : ∀ x, 4 ≤ x → x < 7 → ai G' (y 22 0) x = ai G (y 22 0) x := fun x _ h2 => by rw [bts]; exact (if_neg (by omega)).trans (ab.1 x h2)
  have g' : ∀ f x, f < 45 ∨ 54 < f → gi G' f x = gi G f x := fun f x q => by
    rw [eG']
    exact ((f1.1 f x (by omega)).1).trans (cP_i (by omega))
  have e45 : gi G' 45 (y 9 0) = nI (9 + 13 * N) := by
    rw [eG']
    exact ((f1.1 45 _ (by omega)).1).trans cP_l
  have es : eS y G G' := by
    rw [eG']
    exact (((xC.rf.cP).eS hs).tr f1.e).aw hs (by omega) rfl
  have cls : ∀ K : GS → Option Nat → Prop, K G' (some (tks t 2)) → ∃ q, w_S_walkNames_31 t (y 0 0) K q (y 14 k') (lN v') (some (tad t u)) (some (y 5 d)) (nI N) (some (tks t 2)) (nI N) (cP y G A (9 + 13 * N)) := fun K hK => ⟨1, hs.k 0 0, y 8 0, hzX.1.2.2.2.1, hs.k 8 0, iT (by rw [e42]; exact Int32.le_refl _) (isE2 (iF (by decide) ⟨hs.k 14 k' (by simp [yV, hk']), y 5 d, rfl, S_place hs hk' (by omega) (by
    have e0 : gi (cP y G A (9 + 13 * N)) 0 (y 5 d) = gi G 0 (y 5 d) := cP_i (by omega)
    rw [e0, ← eG1]
    refine ⟨hs.k 0 0, y 9 0, hz1.1.2.2.2.2.1, hs.k 9 0, ?_⟩
    rw [nI_l (by omega)]
    refine S_set (p := 7) (n := 2) hs hz1 (by omega) (by omega) (by omega) ?_
    rw [a1, ← eG']
    exact iS ⟨fun _ => hK, fun _ => hK⟩)⟩))⟩
  obtain ⟨m1, em1⟩ : ∃ X, X = mP y m B (9 + 13 * N) := ⟨_, rfl⟩
  have hm1 : FZ y m1 := P.hm.to hs (sZ.of (fun _ _ => by rw [em1]; rfl) (fun _ => by rw [em1]; rfl))
  obtain ⟨m2, em2⟩ : ∃ X, X = ais m1 (y 30 96) 7 (nI N) := ⟨_, rfl⟩
  have xm2 : xM y m m2 := by
    rw [em2, em1]
    exact (xM.rf.mP).tr ⟨fun _ _ _ => rfl, fun _ _ _ => rfl, fun _ _ => rfl, fun b _ h2 => ai_nb h2, fun _ => rfl, fun _ => rfl⟩
  obtain ⟨Y, eY⟩ : ∃ X, X = if nI N ≤ 0 then m2 else sl m2 98 (y 1 0) 0 := ⟨_, rfl⟩
  have YY : xM y m Y ∧ ai Y (y 30 94) = ai m (y 30 94) ∧ gl Y 98 (y 1 0) = 0 ∧ gi Y 97 (y 1 0) = nI (9 + 13 * N) ∧ ai Y (y 30 96) = ai m2 (y 30 96) ∧ gi Y 99 (y 1 0) = nI u := by
    have c94 : ai m2 (y 30 94) = ai m (y 30 94) := by rw [em2, ai_nb (hs.ne (by omega)), em1]; exact mP_a (l := 9 + 13 * N) (hs.ne (by omega))
    have c98 : gl m2 98 (y 1 0) = 0 := by rw [em2, em1]; exact P.e
    have c97 : gi m2 97 (y 1 0) = nI (9 + 13 * N) := by rw [em2, em1]; exact mP_l
    have c99 : gi m2 99 (y 1 0) = nI u := by rw [em2, em1]; exact (mP_i (y := y) (A := B) (l := 9 + 13 * N) (by omega)).trans h99
    by_cases q : nI N ≤ 0
    · rw [if_pos q] at eY; rw [eY]; exact ⟨xm2, c94, c98, c97, rfl, c99⟩
    · rw [if_neg q] at eY; rw [eY]; exact ⟨xm2.sl (f := 98), c94, gl_at, c97, rfl, c99⟩
  obtain ⟨y1, y2, y3, y4, y5', y6⟩ := YY
  have a96 : ∀ x, ai m2 (y 30 96) x = if x = 7 then nI N else B x := fun x => by
    rw [em2]
    by_cases q : x = 7
    · rw [q, if_pos rfl]; exact ai_at
    · rw [if_neg q, ai_nj q, em1]; exact congrFun (mP_A (l := 9 + 13 * N)) x
  obtain ⟨m', em'⟩ : ∃ X, X = ptM y (op Y) k' (ai m (y 30 70) (83 * s d + 1)) (nI u) := ⟨_, rfl⟩
  have fm' : fM y k' Y m' := by rw [em']; exact ptM_f (o2 Y)
  have mdl : ∀ K : GS → Prop, K m' → ∃ q, w_M_walk_133 t (y 1 0) K q (nI c) (nI k) (lN v') sm (nI N) (nI (s d)) (nI (tp f 17 N)) (nI N) (nI N) (mP y m B (9 + 13 * N)) := fun K hK => ⟨1, iT (Int32.le_refl _) (by
    rw [← em1]
    refine ⟨hs.k 1 0, y 30 96, hm1.m 96, hs.k 30 96, by rw [hs.n 30 96]; exact vp_lt (n := 7) (N := 160) (by omega), fun X eX => ?_⟩
    have eX : X = m2 := by rw [eX, em2]; rfl
    subst eX
    have h319 : w_M_walk_319 t (y 1 0) K (nI c) (nI k) (lN v') sm (nI N) (nI (s d)) (nI N) Y := by
      refine ⟨hs.k 1 0, iF (fun w => w y3) (iT (Int32.le_refl _) ?_)⟩
      rw [y6]
      exact o5 Y y1 _ (by rw [← em']; exact hK)
    refine iS ⟨fun q => ?_, fun q X eX => ?_⟩
    · rw [if_pos q] at eY; rw [← eY]; exact h319
    · rw [if_neg q] at eY; rw [eX, ← eY]; exact h319)⟩
  refine ⟨G', m', 2, by omega, J.x xc (by rw [em']; exact xM_pt (o1 Y y1)), es, cls, mdl, fun _ => ⟨b46, (fm'.ma hs rfl (by omega)).trans y2, by rw [er2]; exact (fm'.2.1 _ _).trans y3, g' 56 _ (by omega), p58 (g' 58 _ (by omega)) (g' 61 _ (by omega)), fun _ => ⟨9 + 13 * N, by omega, by omega, e45, (fm'.1 _ _).trans y4, fun x h1 h2 => ?_⟩⟩⟩
  rw [bts, fm'.ma hs rfl (by omega), y5', a96]
  by_cases q7 : x = 7
  · subst q7
    refine ⟨N, by omega, ?_, if_pos rfl⟩
    show (if 7 ≤ 7 ∧ 7 < 7 + 2 then sb (N / 256 ^ (7 - 7) % 256) else _) = _
    rw [if_pos (by omega), Nat.sub_self, Nat.pow_zero, Nat.div_one, Nat.mod_eq_of_lt (by omega)]
  · rw [if_neg q7]
    by_cases q8 : x = 8
    · subst q8
      refine ⟨0, by omega, ?_, ab.2.1⟩
      show (if 7 ≤ 8 ∧ 8 < 7 + 2 then sb (N / 256 ^ (8 - 7) % 256) else _) = _
      rw [if_pos (by omega), show (8 - 7) = 1 by omega, Nat.pow_one, Nat.div_eq_of_lt (by omega)]
    · obtain ⟨v, v1, v2, v3⟩ := ab.2.2 x h1 h2
      exact ⟨v, v1, by rw [← v2]; exact if_neg (by omega), v3⟩
theorem walkL (P : Pre t y b c z f G m) (hZ : InvZ t y b G m n r s np) {N u v' : Nat} {sm : Int32} (h4 : f 4 = 110) (hT : TxC y G f 17 N) (hN : N ≤ 4) (hin : tp f 17 N ≤ z) (hu : u < 3) (h99 : gi m 99 (y 1 0) = nI u) (hk' : k' < 12) (hv' : v' < 2 ^ 32) (op : GS → GS) (o1 : ∀ Y, xM y m Y → xM y (op m) (op Y)) (o2 : ∀ Y, fM y k' Y (op Y)) (o3 : ai (op m) (y 30 86) k' = 1) (o4 : al (op m) (y 30 87) k' = lN v') (o5 : ∀ Y d, xM y m Y → lvN n r d → ∀ K : GS → Prop, K (ptM y (op Y) k' (ai m (y 30 70) (83 * s d + 1)) (nI u)) → (if sm = 0 then w_M_make t Y (y 1 0) (nI c) (lN v') (nI (s d)) (nI u) K else w_M_point t Y (y 1 0) (nI k) (nI (s d)) (nI u) K)) : ∀ (e i d : Nat) (A B : Nat → Int32), i + e = N → AB y G A B (9 + 13 * i) → lvN n r d → HR t y b c G m (fun K => ∃ q, w_S_walkNames_31 t (y 0 0) K q (y 14 k') (lN v') (some (tad t u)) (some (y 5 d)) (nI i) (some (tks t 2)) (nI i) (cP y G A (9 + 13 * i))) (fun K => ∃ q, w_M_walk_133 t (y 1 0) K q (nI c) (nI k) (lN v') sm (nI N) (nI (s d)) (nI (tp f 17 i)) (nI i) (nI i) (mP y m B (9 + 13 * i)))
  | 0, i, d, A, B, hi, ab, hd => by
    obtain rfl : i = N := by omega
    exact walkZ P hZ hT hN ab hd hu h99 hk' hv' op o1 o2 o3 o4 (fun Y w K hK => o5 Y d w hd K hK)
  | e + 1, i, d, A, B, hi, ab, hd => by
    have hiN : i < N := by omega
    have hs := P.s
    have hnp : np < 2 ^ 31 := by have := hZ.2.2.2.2.2.2.2.2.2.1; have := P.hb; omega
    have hTr := hZ.2.2.2.2.2.2.1
    have hzX : FZ y (cP y G A (9 + 13 * i)) := cP_z hs P.g
    have hmX : FZ y (mP y m B (9 + 13 * i)) := mP_z hs P.hm
    have e70 : ai (mP y m B (9 + 13 * i)) (y 30 70) = ai m (y 30 70) := cP_70 hs
    have TrX : TrR t y (cP y G A (9 + 13 * i)) (ai (mP y m B (9 + 13 * i)) (y 30 70)) n r s np := by rw [e70]; exact hTr.to ((xC.rf.cP).agT hs)
    have mcX : MsC y (cP y G A (9 + 13 * i)) z f := P.mc.x (cP_i (by omega)) (cP_a (hs.ne (by omega)))
    have mmX : MsM y (mP y m B (9 + 13 * i)) z f := ⟨(mP_i (by omega)).trans P.mm.1, fun k hk => by rw [mP_a (hs.ne (by omega))]; exact P.mm.2 k hk⟩
    have hTX : TxC y (cP y G A (9 + 13 * i)) f 17 N := by
      unfold TxC
      rw [cP_a (hs.ne (by omega)), cP_a (hs.ne (by omega)), cP_i (by omega), cP_i (by omega)]
      exact hT
    have e42 := hTX.2.1
    have x := TrX.nd hd
    have hd20 := hTr.le hd
    have hvd : yV 5 d = true := by simp [yV]; omega
    obtain ⟨gg, oo, hgg, hoo, egg, eoo, fgg, foo, f3⟩ := x.2.2.may
    have c99 : gi (mP y m B (9 + 13 * i)) 99 (y 1 0) = nI u := (mP_i (by omega)).trans h99
    have c98 : gl (mP y m B (9 + 13 * i)) 98 (y 1 0) = 0 := P.e
    have g2 : gi (cP y G A (9 + 13 * i)) 2 (y 5 d) = gi G 2 (y 5 d) := cP_i (by omega)
    have e14 : lN (er 14) = 7498084 := by decide +kernel
    have e15 : lN (er 15) = 1836213616 := by decide +kernel
    have e17 : lN (er 17) = 500068347758 := by decide +kernel
    -- both up to the refusal of a step
    have cst : ∀ (K : GS → Option Nat → Prop) (q : Nat), w_S_stepRefusal t (cP y G A (9 + 13 * i)) (y 5 d) (some (tad t u)) (fun x4 => w_str_isEmpty t x4 (fun v5 => (if v5 = 0 then (w_S_walkNames_80 t (y 0 0) K (w_S_walkNames_31 t (y 0 0) K q) (y 14 k') (lN v') (some (tad t u)) (some (y 5 d)) (nI i) x4 (nI i) none (cP y G A (9 + 13 * i))) else (w_S_nextNode t (cP y G A (9 + 13 * i)) (y 0 0) (y 5 d) (nI i) (fun x6 => w_S_walkNames_80 t (y 0 0) K (w_S_walkNames_31 t (y 0 0) K q) (y 14 k') (lN v') (some (tad t u)) (some (y 5 d)) (nI i) x4 (nI i) x6 (cP y G A (9 + 13 * i))))))) → w_S_walkNames_31 t (y 0 0) K (q + 1) (y 14 k') (lN v') (some (tad t u)) (some (y 5 d)) (nI i) (some (tks t 2)) (nI i) (cP y G A (9 + 13 * i)) := fun K q hK => ⟨hs.k 0 0, y 8 0, hzX.1.2.2.2.1, hs.k 8 0, iF (by rw [e42]; exact nI_ge hiN (by omega)) (isE2 (iF (by decide) ⟨y 5 d, rfl, hK⟩))⟩
    have cref : ∀ (K : GS → Option Nat → Prop) (e : Nat), e < 29 → e ≠ 2 → (∀ C : Option Nat → Prop, C (some (tks t e)) → w_S_stepRefusal t (cP y G A (9 + 13 * i)) (y 5 d) (some (tad t u)) C) → (∀ v2 : Int32, v2 = nI i + 1 → ∃ q, w_S_walkNames_31 t (y 0 0) K q (y 14 k') (lN v') (some (tad t u)) (some (y 5 d)) (nI i) (some (tks t e)) v2 (cP y G A (9 + 13 * i))) → ∃ q, w_S_walkNames_31 t (y 0 0) K q (y 14 k') (lN v') (some (tad t u)) (some (y 5 d)) (nI i) (some (tks t 2)) (nI i) (cP y G A (9 + 13 * i)) := fun K e he he2 hr hK => by
      obtain ⟨q, hq⟩ := hK _ rfl
      exact ⟨q + 1, cst K q (hr _ (isEn he he2 (iT rfl (iT rfl (isEn he he2 (iT rfl (fun v2 e2 => by subst e2; exact hq)))))))⟩
    have mst : ∀ (K : GS → Prop) (q : Nat), (if gi G 2 (y 5 d) < 0 then (w_M_may t (mP y m B (9 + 13 * i)) (y 1 0) (nI (s d)) (nI u) (1 : Int32) (fun v2 => (if ¬ v2 = 0 then mNx t y (mP y m B (9 + 13 * i)) (s d) (tp f 17 i) (fun v => w_M_walk_217 t (y 1 0) K (w_M_walk_133 t (y 1 0) K q) (nI c) (nI k) (lN v') sm (nI N) (nI (s d)) (nI (tp f 17 i)) (nI i) (nI i) v (mP y m B (9 + 13 * i))) else (w_M_walk_172 t (y 1 0) K (w_M_walk_133 t (y 1 0) K q) (nI c) (nI k) (lN v') sm (nI N) (nI (s d)) (nI (tp f 17 i)) (nI i) (nI i) (mP y m B (9 + 13 * i)))))) else (w_M_walk_172 t (y 1 0) K (w_M_walk_133 t (y 1 0) K q) (nI c) (nI k) (lN v') sm (nI N) (nI (s d)) (nI (tp f 17 i)) (nI i) (nI i) (mP y m B (9 + 13 * i)))) → w_M_walk_133 t (y 1 0) K (q + 1) (nI c) (nI k) (lN v') sm (nI N) (nI (s d)) (nI (tp f 17 i)) (nI i) (nI i) (mP y m B (9 + 13 * i)) := fun K q hK => iF (nI_ge hiN (by omega)) ⟨hs.k 1 0, iF (fun w => w c98) (M_isDir hs hmX x.1 (by
      rw [f3, g2]
      by_cases w : gi G 2 (y 5 d) < 0
      · rw [if_pos w] at hK
        rw [if_pos w]
        refine iF (by decide) ?_
        rw [c99]
        exact hK
      · rw [if_neg w] at hK
        rw [if_neg w]
        exact iT rfl hK))⟩
    have okm : mOk (ai (mP y m B (9 + 13 * i)) (y 30 70) (83 * s d + 3)) 1 u gg oo ↔ mOk (gi G 2 (y 5 d)) 1 u gg oo := by rw [f3, g2]
    have okc : mOk (gi (cP y G A (9 + 13 * i)) 2 (y 5 d)) 1 u gg oo ↔ mOk (gi G 2 (y 5 d)) 1 u gg oo := by rw [g2]
    have mref : ∀ (K : GS → Prop) (ev : Int64), (¬ gi G 2 (y 5 d) < 0 → ev = 7498084) → (gi G 2 (y 5 d) < 0 → ¬ mOk (gi G 2 (y 5 d)) 1 u gg oo → ev = 1836213616) → (gi G 2 (y 5 d) < 0 → mOk (gi G 2 (y 5 d)) 1 u gg oo → ev = 500068347758) → ∀ q, w_M_walk_133 t (y 1 0) K q (nI c) (nI k) (lN v') sm (nI N) (nI (s d)) (nI (tp f 17 i)) (nI i) (nI i + 1) (sl (mP y m B (9 + 13 * i)) 98 (y 1 0) ev) → w_M_walk_217 t (y 1 0) K (w_M_walk_133 t (y 1 0) K q) (nI c) (nI k) (lN v') sm (nI N) (nI (s d)) (nI (tp f 17 i)) (nI i) (nI i) (-1) (mP y m B (9 + 13 * i)) := fun K ev v1 v2 v3 q hK => by
      have h263 : w_M_walk_263 t (y 1 0) K (w_M_walk_133 t (y 1 0) K q) (nI c) (nI k) (lN v') sm (nI N) (nI (s d)) (nI (tp f 17 i)) (nI i) (nI i) (some (y 1 0)) ev (mP y m B (9 + 13 * i)) := ⟨y 1 0, rfl, hs.k 1 0, fun X eX v3 e3 => by subst eX e3; exact hK⟩
      refine iF (show ¬ (0 : Int32) ≤ -1 by decide) ⟨hs.k 1 0, M_isDir hs hmX x.1 ?_⟩
      rw [f3, g2]
      by_cases w : gi G 2 (y 5 d) < 0
      · rw [if_pos w]
        refine iT (by decide) ?_
        rw [c99]
        refine M_may hs hmX x.1 hu hgg hoo fgg foo (fun ok => iT (by decide) ?_) (fun ok => iF (by simp) ?_)
        · rw [← v3 w (okm.mp ok)]; exact h263
        · rw [← v2 w (fun n => ok (okm.mpr n))]; exact h263
      · rw [if_neg w]
        refine iF (by simp) ?_
        rw [← v1 w]; exact h263
    by_cases w : gi G 2 (y 5 d) < 0
    · by_cases ok : mOk (gi G 2 (y 5 d)) 1 u gg oo
      · have cok : ∀ C : Option Nat → Prop, C (some (tks t 2)) → w_S_stepRefusal t (cP y G A (9 + 13 * i)) (y 5 d) (some (tad t u)) C := fun C hC => ⟨hs.k 5 d hvd, S_isDirectory hs (by omega) (by rw [g2, if_pos w]; exact iT (by decide) (S_lets hs (by omega) hu hgg hoo egg eoo (fun _ => iF (by decide) hC) (fun n => absurd (okc.mpr ok) n)))⟩
        have mok : ∀ (K : GS → Prop) (q : Nat), mNx t y (mP y m B (9 + 13 * i)) (s d) (tp f 17 i) (fun v => w_M_walk_217 t (y 1 0) K (w_M_walk_133 t (y 1 0) K q) (nI c) (nI k) (lN v') sm (nI N) (nI (s d)) (nI (tp f 17 i)) (nI i) (nI i) v (mP y m B (9 + 13 * i))) → w_M_walk_133 t (y 1 0) K (q + 1) (nI c) (nI k) (lN v') sm (nI N) (nI (s d)) (nI (tp f 17 i)) (nI i) (nI i) (mP y m B (9 + 13 * i)) := fun K q hK => mst K q (by rw [if_pos w]; exact M_may hs hmX x.1 hu hgg hoo fgg foo (fun _ => iT (by decide) hK) (fun n => absurd (okm.mpr ok) n))
        rcases walk1 hnp hs hzX hmX TrX P.hf mcX mmX hTX hN hiN hin hd with ⟨d', hd', cN, mN⟩ | ⟨cN, mN⟩
        · have x' := TrX.nd hd'
          have hd'20 := hTr.le hd'
          obtain ⟨A', B', p1, p2, p3, p4⟩ := Pw.qid hs P.g P.hm (j := d') (n := s d') (by omega) x'.1 (by
            have N' := (hTr.nd hd').2.2
            exact N') A B (9 + 13 * i) (by omega)
          rw [show 9 + 13 * i + 13 = 9 + 13 * (i + 1) by omega] at p2 p3 p4
          have ih := walkL P hZ h4 hT hN hin hu h99 hk' hv' op o1 o2 o3 o4 o5 e (i + 1) d' A' B' (by omega) ⟨fun x hx => (p1 x (by omega)).1.trans (ab.1 x hx), (p1 8 (by omega)).2.trans ab.2.1, fun x h1 h2 => by
            by_cases q : x < 9 + 13 * i
            · obtain ⟨v, a1, a2, a3⟩ := ab.2.2 x h1 q
              exact ⟨v, a1, (p1 x q).1.trans a2, (p1 x q).2.trans a3⟩
            · exact p2 x (by omega) (by omega)⟩ hd'
          refine ih.mono (fun K hK => ?_) (fun K hK => ?_)
          · obtain ⟨q, hq⟩ := hK
            refine ⟨q + 1, cst K q (cok _ (isE2 (iF (by decide) (cN _ (iF (by simp) ⟨hs.k 0 0, y 9 0, hzX.1.2.2.2.2.1, hs.k 9 0, y 5 d', rfl, p3 _ ?_⟩)))))⟩
            intro v7 e7 v8 e8
            rw [nI_1] at e7 e8
            subst e7 e8
            exact hq
          · obtain ⟨q, hq⟩ := hK
            refine ⟨q + 1, mok K q (mN _ (iT (nI_pos' (by omega)) ⟨hs.k 1 0, p4 _ ?_⟩))⟩
            intro v2 e2
            have mm' : MsM y (mP y m B' (9 + 13 * (i + 1))) z f := ⟨(mP_i (by omega)).trans P.mm.1, fun k hk => by rw [mP_a (hs.ne (by omega))]; exact P.mm.2 k hk⟩
            have e95 : gi (mP y m B' (9 + 13 * (i + 1))) 95 (y 1 0) = nI z := mm'.1
            rw [e95]
            have inI := tp_in hin hiN
            have hz128 := P.hf.2.1
            refine M_behind hs (mP_z hs P.hm) P.hf mm' (by omega) ?_
            rw [if_pos inI]
            intro v4 e4
            rw [nI_1] at e2 e4
            subst e2 e4
            exact hq
        · refine walkE P (e := 17) (oc := some (y 5 d)) (q := nI (tp f 17 i)) (d := s d) (sm := sm) (v' := v') (w := lN v') (u := u) (k := k) (k' := k') h4 hT hN hiN ab (by omega) (by omega) e17 (by decide) (fun K hK => ?_) (fun K hK => ?_)
          · obtain ⟨q, hq⟩ := hK _ rfl
            exact ⟨q + 1, cst K q (cok _ (isE2 (iF (by decide) (cN _ (iT rfl (isE2 (iF (by decide) (fun v3 e3 => by subst e3; exact hq))))))))⟩
          · obtain ⟨q, hq⟩ := hK _ rfl
            exact ⟨q + 1, mok K q (mN _ (mref K _ (fun n => absurd w n) (fun _ n => absurd ok n) (fun _ _ => rfl) q hq))⟩
      · refine walkE P (e := 15) (oc := some (y 5 d)) (q := nI (tp f 17 i)) (d := s d) (sm := sm) (v' := v') (w := lN v') (u := u) (k := k) (k' := k') h4 hT hN hiN ab (by omega) (by omega) e15 (by decide) (fun K hK => cref K 15 (by omega) (by omega) (fun C hC => ⟨hs.k 5 d hvd, S_isDirectory hs (by omega) (by rw [g2, if_pos w]; exact iT (by decide) (S_lets hs (by omega) hu hgg hoo egg eoo (fun n => absurd (okc.mp n) ok) (fun _ => iT rfl hC)))⟩) hK) (fun K hK => ?_)
        obtain ⟨q, hq⟩ := hK _ rfl
        exact ⟨q + 1, mst K q (by rw [if_pos w]; exact M_may hs hmX x.1 hu hgg hoo fgg foo (fun n => absurd (okm.mp n) ok) (fun _ => iF (by simp) (mref K _ (fun n => absurd w n) (fun _ _ => rfl) (fun _ n => absurd n ok) q hq)))⟩
    · refine walkE P (e := 14) (oc := some (y 5 d)) (q := nI (tp f 17 i)) (d := s d) (sm := sm) (v' := v') (w := lN v') (u := u) (k := k) (k' := k') h4 hT hN hiN ab (by omega) (by omega) e14 (by decide) (fun K hK => cref K 14 (by omega) (by omega) (fun C hC => ⟨hs.k 5 d hvd, S_isDirectory hs (by omega) (by rw [g2, if_neg w]; exact iF (by simp) hC)⟩) hK) (fun K hK => ?_)
      obtain ⟨q, hq⟩ := hK _ rfl
      exact ⟨q + 1, mst K q (by rw [if_neg w]; exact mref K _ (fun _ => rfl) (fun n => absurd n w) (fun n => absurd n w) q hq)⟩
end WALKL
section WALKH
variable {t : TY} {y : LYT} {b c z : Nat} {f : Nat → Nat} {G m : GS}
theorem InvZ.np31 {n np : Nat} {r s : Nat → Nat} (h : InvZ t y b G m n r s np) (hb : b < 2 ^ 20) : np < 2 ^ 31 := by have := h.2.2.2.2.2.2.2.2.2.1; omega
theorem h_walk (P : Pre t y b c z f G m) (h4 : f 4 = 110) : HR t y b c G m (fun K => w_S_walk t G (y 0 0) (y 10 c) (fun X x => K X x)) (fun K => w_M_withFid t m (y 1 0) (nI c) (nI 110) (fun X => K X)) := by
  have hs := P.s
  have hc := P.hc
  have hz := P.g
  have hm := P.hm
  have hvc : yV 10 c = true := by simp [yV, hc]
  have n32 : nm f 7 4 < 2 ^ 32 := nm_lt P.hf.2.2.1
  have n32' : nm f 11 4 < 2 ^ 32 := nm_lt P.hf.2.2.1
  obtain ⟨hN, wf⟩ := (wf110 h4).mp P.w
  have hT := P.x (Or.inr (Or.inr (Or.inr (Or.inl h4))))
  have e1 : txP f = 17 := by unfold txP; rw [if_neg (by omega), if_pos h4]
  have e2 : txN f = nm f 15 2 := by unfold txN; rw [if_neg (by omega), if_pos h4]
  rw [e1, e2] at hT
  have z17 : 17 ≤ z := by have := @tp_le f 17 (nm f 15 2); omega
  obtain ⟨n, r, s, np, hZ⟩ := P.i.z
  have hnp := hZ.np31 P.hb
  rcases fid_or G y c (lN (nm f 7 4)) with ⟨i, hi, hl, hu, hv⟩ | hno
  · have hk12 : 6 * c + i < 12 := by omega
    obtain ⟨q1, q2⟩ := P.i.fu (k := 6 * c + i) hk12
    have hus := (q2 hu).1
    have cfd : ∀ K : Option Nat → Prop, K (some (y 14 (6 * c + i))) → w_Link_find t G (y 10 c) (lN (nm f 7 4)) K := fun K hK => S_findY hs hz hc hi hl hu hv hK
    have mfd : ∀ K : Int32 → Prop, K (nI (6 * c + i)) → w_M_fid t m (y 1 0) (nI c) (lN (nm f 7 4)) K := fun K hK => M_fidY hs hm hc hi (fun k hk => P.i.fn (by omega) (hl k hk)) (by rw [q1]; exact hu) (by rw [(q2 hu).2]; exact hv) hK
    obtain ⟨j, u, hu3, g50, a89, g48, hj20, hcase⟩ := fid_state hZ hnp hk12 hus
    have hv14 : yV 14 (6 * c + i) = true := by simp [yV]; omega
    have cst : ∀ K : GS → Option Nat → Prop, (w_Fid_isGone t G (y 14 (6 * c + i)) (fun v5 => (if v5 = 0 then ((if (gi G 51 (y 14 (6 * c + i))) = (-1 : Int32) then (w_Message_number t G (y 8 0) (11 : Int32) (4 : Int32) (fun v6 => (if v6 = lN (nm f 7 4) then (w_S_walk_101 t (y 0 0) (fun X x => K X x) (some (y 14 (6 * c + i))) v6 (some (y 14 (6 * c + i))) G) else (w_Link_find t G (y 10 c) v6 (fun x7 => (if x7 = none then (w_Link_spareFid t G (y 10 c) (fun x8 => (if ¬ x8 = none then (w_S_walk_101 t (y 0 0) (fun X x => K X x) (some (y 14 (6 * c + i))) v6 x8 G) else (K G (some (tks t 9)))))) else (K G (some (tks t 8))))))))) else (K G (some (tks t 13))))) else (K G (some (tks t 12)))))) → w_S_walk t G (y 0 0) (y 10 c) (fun X x => K X x) := fun K hK => ⟨hs.k 0 0, y 8 0, hz.1.2.2.2.1, hs.k 8 0, P.num (p := 7) (n := 4) (by omega) (by omega) ⟨hs.k 10 c hvc, cfd _ (iT (by simp) ⟨y 14 (6 * c + i), rfl, hs.k 14 _ hv14, hK⟩)⟩⟩
    have mst : ∀ (K : GS → Prop) (v4 : Int32), (∀ K' : Int32 → Prop, K' v4 → w_M_find t m (y 1 0) (ai m (y 30 88) (6 * c + i)) K') → (if 0 ≤ v4 then (w_M_walk t (si m 99 (y 1 0) (nI u)) (y 1 0) (nI c) (nI (6 * c + i)) v4 (fun X => K X)) else (∀ X, X = sl m 98 (y 1 0) (1701736295 : Int64) → K X)) → w_M_withFid t m (y 1 0) (nI c) (nI 110) (fun X => K X) := fun K v4 hf hK => by
      refine ⟨hs.k 1 0, P.get (p := 7) (n := 4) (by omega) (by omega) (mfd _ (iT (nI_pos' (by omega)) ⟨y 30 88, hm.m 88, hs.k 30 88, by rw [hs.n 30 88]; exact vp_lt (N := 12) hk12, ?_⟩))⟩
      rw [nI_clamp (by omega)]
      refine hf _ (iT (nI_pos' (by omega)) (iT (by decide) (iT (by decide) ?_)))
      by_cases w : 0 ≤ v4
      · rw [if_pos w] at hK
        refine iT w ⟨hs.k 1 0, y 30 89, hm.m 89, hs.k 30 89, by rw [hs.n 30 89]; exact vp_lt (N := 12) hk12, fun X eX => ?_⟩
        rw [nI_clamp (by omega), a89] at eX
        subst eX
        exact iF (by decide) hK
      · rw [if_neg w] at hK
        exact iF w ⟨hs.k 1 0, hK⟩
    rcases hcase with ⟨hj, cg, mg⟩ | ⟨cg, mg⟩
    · have mst2 : ∀ K : GS → Prop, w_M_walk t (si m 99 (y 1 0) (nI u)) (y 1 0) (nI c) (nI (6 * c + i)) (nI (s j)) (fun X => K X) → w_M_withFid t m (y 1 0) (nI c) (nI 110) (fun X => K X) := fun K hK => mst K _ mg (iT (nI_pos' (by have := (hZ.2.2.2.2.2.2.1.nd hj).1; omega)) hK)
      have P9 := P.who (v := nI u)
      have Z9 : InvZ t y b G (si m 99 (y 1 0) (nI u)) n r s np := by
        obtain ⟨z1, z2, z3, z4, z5, z6, z7, z8, z9, z10, z11⟩ := hZ
        exact ⟨z1, z2, P9.hm, ⟨z4.1, z4.2.1, z4.2.2.1, z4.2.2.2.1, z4.2.2.2.2.1, z4.2.2.2.2.2⟩, z5, z6, z7, z8, z9, z10, z11⟩
      have hm9 := P9.hm
      have vk : vp_in (nI (6 * c + i)) 12 := vp_lt (N := 12) hk12
      obtain ⟨v0, p0, j0, u0, -, f47, f87, -, -, -, -, -, -, -, -, -, -, f90, f51, -⟩ := hZ.2.2.2.2.2.2.2.1 _ hk12 hus
      have f87' : al m (y 30 87) (6 * c + i) = lN (nm f 7 4) := by rw [f87, ← f47]; exact hv
      refine HR.who (v := nI u) ?_
      -- the reference up to its first look at the fid
      have m26 : ∀ (K : GS → Prop) (s0 : Int32), (nm f 11 4 = nm f 7 4 → s0 = 1) → (¬ nm f 11 4 = nm f 7 4 → s0 = 0) → w_M_walk_26 t (y 1 0) (fun X => K X) (nI c) (nI (6 * c + i)) (nI (s j)) (lN (nm f 11 4)) s0 (si m 99 (y 1 0) (nI u)) → w_M_walk t (si m 99 (y 1 0) (nI u)) (y 1 0) (nI c) (nI (6 * c + i)) (nI (s j)) (fun X => K X) := fun K s0 h1 h2 hK => by
        refine ⟨hs.k 1 0, P9.get (p := 11) (n := 4) (by omega) (by omega) ⟨y 30 87, hm9.m 87, hs.k 30 87, by rw [hs.n 30 87]; exact vk, ?_⟩⟩
        rw [nI_clamp (by omega)]
        show if ¬ lN (nm f 11 4) = al m (y 30 87) (6 * c + i) then _ else _
        rw [f87']
        refine iN ⟨fun w => ?_, fun w => ?_⟩
        · rw [← h1 ((pk_lEQ (by omega) (by omega)).mp w)]; exact hK
        · rw [← h2 (fun q => w (by rw [q]))]; exact hK
      obtain ⟨s0, hs1, hs0⟩ : ∃ s0 : Int32, (nm f 11 4 = nm f 7 4 → s0 = 1) ∧ (¬ nm f 11 4 = nm f 7 4 → s0 = 0) := by
        by_cases w : nm f 11 4 = nm f 7 4
        · exact ⟨1, fun _ => rfl, fun n => absurd w n⟩
        · exact ⟨0, fun n => absurd n w, fun _ => rfl⟩
      have e94 : ∀ (K : GS → Prop) (e : Nat) (w : Int64), lN (er e) = w → ¬ w = 0 → K (sl (si m 99 (y 1 0) (nI u)) 98 (y 1 0) (lN (er e))) → ∀ X, X = sl (si m 99 (y 1 0) (nI u)) 98 (y 1 0) w → w_M_walk_94 t (y 1 0) (fun X => K X) (nI c) (nI (6 * c + i)) (nI (s j)) (lN (nm f 11 4)) s0 X := fun K e w ew hw hK X eX => by
        rw [← ew] at eX
        subst eX
        exact ⟨hs.k 1 0, iF (by rw [gl_at, ew]; exact hw) hK⟩
      have m26b : ∀ K : GS → Prop, (if ai m (y 30 90) (6 * c + i) < 0 then ((if ¬ s0 = 0 then (w_M_walk_72 t (y 1 0) (fun X => K X) (nI c) (nI (6 * c + i)) (nI (s j)) (lN (nm f 11 4)) s0 (si m 99 (y 1 0) (nI u))) else (w_M_fid t (si m 99 (y 1 0) (nI u)) (y 1 0) (nI c) (lN (nm f 11 4)) (fun v2 => (if v2 < 0 then (w_M_walk_72 t (y 1 0) (fun X => K X) (nI c) (nI (6 * c + i)) (nI (s j)) (lN (nm f 11 4)) s0 (si m 99 (y 1 0) (nI u))) else (∀ G3, G3 = sl (si m 99 (y 1 0) (nI u)) 98 (y 1 0) (435728772713 : Int64) → w_M_walk_94 t (y 1 0) (fun X => K X) (nI c) (nI (6 * c + i)) (nI (s j)) (lN (nm f 11 4)) s0 G3)))))) else (∀ G4, G4 = sl (si m 99 (y 1 0) (nI u)) 98 (y 1 0) (1852141679 : Int64) → w_M_walk_94 t (y 1 0) (fun X => K X) (nI c) (nI (6 * c + i)) (nI (s j)) (lN (nm f 11 4)) s0 G4)) → w_M_withFid t m (y 1 0) (nI c) (nI 110) (fun X => K X) := fun K hK => mst2 K (m26 K s0 hs1 hs0 ⟨hs.k 1 0, y 30 90, hm9.m 90, hs.k 30 90, by rw [hs.n 30 90]; exact vk, by
        rw [nI_clamp (by omega)]
        exact hK⟩)
      refine HR.mono (F1 := fun K => (if (gi G 51 (y 14 (6 * c + i))) = (-1 : Int32) then (w_Message_number t G (y 8 0) (11 : Int32) (4 : Int32) (fun v6 => (if v6 = lN (nm f 7 4) then (w_S_walk_101 t (y 0 0) (fun X x => K X x) (some (y 14 (6 * c + i))) v6 (some (y 14 (6 * c + i))) G) else (w_Link_find t G (y 10 c) v6 (fun x7 => (if x7 = none then (w_Link_spareFid t G (y 10 c) (fun x8 => (if ¬ x8 = none then (w_S_walk_101 t (y 0 0) (fun X x => K X x) (some (y 14 (6 * c + i))) v6 x8 G) else (K G (some (tks t 9)))))) else (K G (some (tks t 8))))))))) else (K G (some (tks t 13))))) ?_ (fun K hK => cst K (cg _ (iT rfl hK))) m26b
      by_cases op51 : gi G 51 (y 14 (6 * c + i)) = -1
      · have n90 : ai m (y 30 90) (6 * c + i) < 0 := by rw [f90, op51]; decide
        have start : ∀ (k' : Nat), k' < 12 → HR t y b c G (si m 99 (y 1 0) (nI u)) (fun K => ∃ q, w_S_walkNames_31 t (y 0 0) K q (y 14 k') (lN (nm f 11 4)) (some (tad t u)) (some (y 5 j)) (nI 0) (some (tks t 2)) (nI 0) (cP y G (pB sb (ai G (y 22 0)) 7 0 2) (9 + 13 * 0))) (fun K => ∃ q, w_M_walk_133 t (y 1 0) K q (nI c) (nI (6 * c + i)) (lN (nm f 11 4)) s0 (nI (nm f 15 2)) (nI (s j)) (nI (tp f 17 0)) (nI 0) (nI 0) (mP y (si m 99 (y 1 0) (nI u)) (pB nI (ai (si m 99 (y 1 0) (nI u)) (y 30 96)) 7 0 2) (9 + 13 * 0))) → HR t y b c G (si m 99 (y 1 0) (nI u)) (fun K => w_S_walk_101 t (y 0 0) (fun X x => K X x) (some (y 14 (6 * c + i))) (lN (nm f 11 4)) (some (y 14 k')) G) (fun K => w_M_walk_94 t (y 1 0) (fun X => K X) (nI c) (nI (6 * c + i)) (nI (s j)) (lN (nm f 11 4)) s0 (si m 99 (y 1 0) (nI u))) := fun k' hk' h => by
          refine h.mono (fun K hK => ⟨hs.k 0 0, y 14 (6 * c + i), rfl, y 14 k', rfl, hs.k 14 _ hv14, hs.k 0 0, y 9 0, hz.1.2.2.2.2.1, hs.k 9 0, ?_⟩) (fun K hK => ⟨hs.k 1 0, iT P9.e (P9.get (p := 15) (n := 2) (by omega) (by omega) ?_)⟩)
          · rw [g50, g48]
            have := S_put (t := t) (G := G) (A := ai G (y 22 0)) (l := 7) (v := 0) (n := 2) hs hz (by omega) (by omega) (by omega) (K := fun G2 => ∃ n, w_S_walkNames_31 t (y 0 0) (fun X x => K X x) n (y 14 k') (lN (nm f 11 4)) (some (tad t u)) (some (y 5 j)) (0 : Int32) (some (tks t 2)) (0 : Int32) G2) hK
            rw [cP_self P.lc] at this
            exact this
          · intro v2 e2
            rw [lN_i] at e2
            subst e2
            have := M_put (t := t) (m := si m 99 (y 1 0) (nI u)) (A := ai (si m 99 (y 1 0) (nI u)) (y 30 96)) (l := 7) (v := 0) (n := 2) hs hm9 (by omega) (by omega) (by omega) (K := fun G3 => ∃ n, w_M_walk_133 t (y 1 0) (fun X => K X) n (nI c) (nI (6 * c + i)) (lN (nm f 11 4)) s0 (nI (nm f 15 2)) (nI (s j)) (17 : Int32) (0 : Int32) (0 : Int32) G3) hK
            rw [mP_self P9.lm] at this
            exact this
        have ab : AB y G (pB sb (ai G (y 22 0)) 7 0 2) (pB nI (ai (si m 99 (y 1 0) (nI u)) (y 30 96)) 7 0 2) (9 + 13 * 0) := ⟨fun x hx => if_neg (by omega), if_pos (by omega), fun x h1 h2 => ⟨0 / 256 ^ (x - 7) % 256, Nat.mod_lt _ (by omega), if_pos (by omega), if_pos (by omega)⟩⟩
        have hTr := Z9.2.2.2.2.2.2.1
        by_cases same : nm f 11 4 = nm f 7 4
        · have L := walkL (sm := s0) (k := 6 * c + i) (k' := 6 * c + i) P9 Z9 h4 hT hN (by omega) hu3 gi_at hk12 n32' (fun Y => Y) (fun Y h => h) (fun Y => fM.rf) (q1.trans hus) (by rw [same]; exact f87') (fun Y d hx hd K hK => iF (by rw [hs1 same]; decide) (M_point hs (hx.z hs hm9) hk12 (hTr.nd hd).1 (by rw [hx.a hs (by omega) (by omega) rfl]; exact hK))) (nm f 15 2) 0 j _ _ (by omega) ab hj
          refine (start _ hk12 L).mono (fun K hK => iT op51 (P.num (p := 11) (n := 4) (by omega) (by omega) (iT (by rw [same]) hK))) (fun K hK => iT n90 (iT (by rw [hs1 same]; decide) (iT (by rw [hs1 same]; decide) hK)))
        · have ns : ¬ lN (nm f 11 4) = lN (nm f 7 4) := fun w => same ((pk_lEQ (by omega) (by omega)).mp w)
          have s00 := hs0 same
          rcases fid_or G y c (lN (nm f 11 4)) with ⟨i2, hi2, hl2, hu2, hv2⟩ | hno2
          · obtain ⟨p1, p2⟩ := P.i.fu (k := 6 * c + i2) (by omega)
            exact HR.er0 P9 (j := 8) (by omega) (by omega) (fun K hK => iT op51 (P.num (p := 11) (n := 4) (by omega) (by omega) (iF ns (S_findY hs hz hc hi2 hl2 hu2 hv2 (iF (by simp) hK))))) (fun K hK => iT n90 (iF (fun n => n s00) (M_fidY hs hm9 hc hi2 (fun k hk => P.i.fn (by omega) (hl2 k hk)) (by rw [show ai (si m 99 (y 1 0) (nI u)) (y 30 86) (6 * c + i2) = gi G 46 (y 14 (6 * c + i2)) from p1]; exact hu2) (by rw [show al (si m 99 (y 1 0) (nI u)) (y 30 87) (6 * c + i2) = gl G 47 (y 14 (6 * c + i2)) from (p2 hu2).2]; exact hv2) (iF (nI_pos (by omega)) (e94 K 8 _ (by decide +kernel) (by decide) hK)))))
          · have mno : ∀ K' : Int32 → Prop, K' (-1) → w_M_fid t (si m 99 (y 1 0) (nI u)) (y 1 0) (nI c) (lN (nm f 11 4)) K' := fun K' hK => M_fidN hs hm9 hc (fun k hk => P.i.fn (by omega) (hno2 k hk)) hK
            rcases spare_or G y c with ⟨i2, hi2, hl2, hu2⟩ | hfull
            · have many : ¬ cnt (fun i => decide (¬ ai m (y 30 86) (6 * c + i) = 0)) 6 = 6 := fun w => (P.i.many hc).mp w i2 hi2 hu2
              have c6 := @cnt_le (fun i => decide (¬ ai m (y 30 86) (6 * c + i) = 0)) 6
              have L := walkL (sm := s0) (k := 6 * c + i) (k' := 6 * c + i2) P9 Z9 h4 hT hN (by omega) hu3 gi_at (by omega) n32' (fun Y => als (ais Y (y 30 86) (6 * c + i2) 1) (y 30 87) (6 * c + i2) (lN (nm f 11 4))) (fun Y h => xM_als (xM_ais h)) (fun Y => (fM.rf.ais (f := 86)).als (f := 87)) ai_at al_at (fun Y d hx hd K hK => iT s00 (M_make hs (hx.z hs hm9) hc hi2 (fun q hq => by rw [hx.a hs (by omega) (by omega) rfl]; show ¬ ai m (y 30 86) (6 * c + q) = 0; rw [(P.i.fu (k := 6 * c + q) (by omega)).1]; exact hl2 q hq) (by rw [hx.a hs (by omega) (by omega) rfl]; show ai m (y 30 86) (6 * c + i2) = 0; rw [(P.i.fu (k := 6 * c + i2) (by omega)).1]; exact hu2) (hTr.nd hd).1 (by rw [hx.a hs (by omega) (by omega) rfl]; exact hK))) (nm f 15 2) 0 j _ _ (by omega) ab hj
              exact (start _ (by omega) L).mono (fun K hK => iT op51 (P.num (p := 11) (n := 4) (by omega) (by omega) (iF ns (S_findN hs hz hc hno2 (iT rfl (S_spareY hs hz hc hi2 hl2 hu2 (iT (by simp) hK))))))) (fun K hK => iT n90 (iF (fun n => n s00) (mno _ (iT (by decide) (iF (fun n => n s00) ⟨hs.k 1 0, M_many hs hm9 hc (iT (fun w => many ((nI_eq (b := 6) (by omega) (by decide)).mp w)) hK)⟩)))))
            · have many := (P.i.many hc).mpr hfull
              exact HR.er0 P9 (j := 9) (by omega) (by omega) (fun K hK => iT op51 (P.num (p := 11) (n := 4) (by omega) (by omega) (iF ns (S_findN hs hz hc hno2 (iT rfl (S_spareN hs hz hc hfull (iF (by simp) hK))))))) (fun K hK => iT n90 (iF (fun n => n s00) (mno _ (iT (by decide) (iF (fun n => n s00) ⟨hs.k 1 0, M_many hs hm9 hc (iF (fun w => w (by
                show nI (cnt (fun i => decide (¬ ai m (y 30 86) (6 * c + i) = 0)) 6) = 6
                rw [many]; rfl)) (e94 K 9 _ (by decide +kernel) (by decide) hK))⟩)))))
      · have n90 : ¬ ai m (y 30 90) (6 * c + i) < 0 := by
          rcases f51 with w | ⟨o, ho, w, -⟩
          · exact absurd w op51
          · rw [f90, w]; exact nI_pos (by omega)
        exact HR.er0 P9 (j := 13) (by omega) (by omega) (fun K hK => iF op51 hK) (fun K hK => iF n90 (e94 K 13 _ (by decide +kernel) (by decide) hK))
    · refine HR.er0 P (j := 12) (by omega) (by omega) (fun K hK => cst K (cg _ (iF (by decide) hK))) (fun K hK => mst K _ mg (iF (by decide) (fun X eX => ?_)))
      have e12 : lN (er 12) = 1701736295 := by decide +kernel
      rw [← e12] at eX
      subst eX; exact hK
  · refine HR.er0 P (j := 11) (by omega) (by omega) (fun K hK => ⟨hs.k 0 0, y 8 0, hz.1.2.2.2.1, hs.k 8 0, P.num (p := 7) (n := 4) (by omega) (by omega) ⟨hs.k 10 c hvc, S_findN hs hz hc hno (iF (by simp) hK)⟩⟩) (fun K hK => ⟨hs.k 1 0, P.get (p := 7) (n := 4) (by omega) (by omega) (M_fidN hs hm hc (fun k hk => P.i.fn (by omega) (hno k hk)) (iF (by decide) (iF (by decide) ⟨hs.k 1 0, fun X eX => ?_⟩)))⟩)
    have e11 : lN (er 11) = 6580582 := by decide +kernel
    rw [← e11] at eX
    subst eX; exact hK
end WALKH
