/-! walk (by hand) -/
theorem slen0 : ∀ j, j < 29 → j ≠ 2 → slen j ≠ 0 := by decide +kernel
section WALKB
variable {t : TY} {y : LYT} {b c z k : Nat} {f : Nat → Nat} {G G1 m m1 : GS} {n np : Nat} {r s : Nat → Nat}
theorem isE2 {K : Int32 → Prop} (k : K 1) : w_str_isEmpty t (some (tks t 2)) K := ⟨2, by omega, rfl, by rw [if_pos (by decide)]; exact k⟩
theorem isEn {j : Nat} (hj : j < 29) (h2 : j ≠ 2) {K : Int32 → Prop} (k : K 0) : w_str_isEmpty t (some (tks t j)) K := ⟨j, hj, rfl, by rw [if_neg (slen0 j hj h2)]; exact k⟩
/-- bytes set in the answer -/
theorem S_set (hs : SH t y) (hz : FZ y G) {p v n : Nat} (hv : v < 2 ^ 64) (hn : n ≤ 8) (hl : p + n ≤ 128) {K : GS → Prop} (k : K (aw G (y 22 0) (pB sb (ai G (y 22 0)) p v n))) : w_Answer_set t G (y 9 0) (nI p) (lN v) (nI n) K := by
  have key := pk_loop (fun q i (_ : Unit) => w_Answer_set_3 t (y 9 0) K q (nI p) (lN v) (nI n) (nI i) (aw G (y 22 0) (pB sb (ai G (y 22 0)) p v i))) (fun _ _ => True) n 0 () (by omega) trivial (fun q _ _ => ?_) (fun q i _ hi _ ih => ?_)
  · obtain ⟨q, hq⟩ := key
    refine ⟨q, ?_⟩
    have hq : w_Answer_set_3 t (y 9 0) K q (nI p) (lN v) (nI n) (nI 0) (aw G (y 22 0) (pB sb (ai G (y 22 0)) p v 0)) := hq
    rw [pB_0, aw_self] at hq
    exact hq
  · exact iT (Int32.le_refl _) k
  · have hzA : FZ y (aw G (y 22 0) (pB sb (ai G (y 22 0)) p v i)) := hz.to hs (sZ.of (fun _ _ => rfl) (fun _ => rfl))
    refine iF (nI_ge hi (by omega)) ⟨hs.k 9 0, y 22 0, hzA.2.2.1.2.2.2, hs.k 22 0, ?_⟩
    rw [nI_add, hs.n 22 0]
    refine iF (nI_ge (b := 128) (by omega) (by decide)) ⟨vp_lt (N := 128) (by omega), ?_⟩
    intro G2 e2 v3 e3
    rw [nI_clamp (by omega), byC hv (by omega), aw_ais, pB_s] at e2
    rw [nI_1] at e3
    subst e2 e3
    exact ih () trivial
theorem xC.csi (a : xC y G G1) {f x : Nat} {v : Int32} : xC y (si G f x v) (si G1 f x v) := ⟨fun g d q => by show (if _ then _ else _) = (if _ then _ else _); rw [a.1 g d q], a.2.1, a.2.2.1, a.2.2.2.1, a.2.2.2.2.1, a.2.2.2.2.2⟩
theorem xC.csl (a : xC y G G1) {f x : Nat} {v : Int64} : xC y (sl G f x v) (sl G1 f x v) := ⟨a.1, fun g d => by show (if _ then _ else _) = (if _ then _ else _); rw [a.2.1 g d], a.2.2.1, a.2.2.2.1, a.2.2.2.2.1, a.2.2.2.2.2⟩
theorem xC.csr (a : xC y G G1) {f x : Nat} {v : Option Nat} : xC y (sr G f x v) (sr G1 f x v) := ⟨a.1, a.2.1, fun g d => by show (if _ then _ else _) = (if _ then _ else _); rw [a.2.2.1 g d], a.2.2.2.1, a.2.2.2.2.1, a.2.2.2.2.2⟩
theorem xC.pl (a : xC y G G1) {v : Int64} {x : Nat} {p : Int32} {ou : Option Nat} : xC y (plC y G k v x p ou) (plC y G1 k v x p ou) := a.csi.csl.csr.csi.csr.csi.csi.csl.csi
theorem xM.cais (a : xM y m m1) {x i : Nat} {v : Int32} : xM y (ais m x i v) (ais m1 x i v) := ⟨a.1, a.2.1, a.2.2.1, fun b h1 h2 => funext fun j => by show (if _ then _ else _) = (if _ then _ else _); rw [congrFun (a.2.2.2.1 b h1 h2) j], a.2.2.2.2.1, a.2.2.2.2.2⟩
theorem xM.cals (a : xM y m m1) {x i : Nat} {v : Int64} : xM y (als m x i v) (als m1 x i v) := ⟨a.1, a.2.1, a.2.2.1, a.2.2.2.1, fun b => funext fun j => by show (if _ then _ else _) = (if _ then _ else _); rw [congrFun (a.2.2.2.2.1 b) j], a.2.2.2.2.2⟩
theorem xM.pt (a : xM y m m1) {p u : Int32} : xM y (ptM y m k p u) (ptM y m1 k p u) := a.cais.cais.cais.cais.cals.cais
/-- what is known of a fid in use -/
theorem fid_state (h : InvZ t y b G m n r s np) (hb : np < 2 ^ 31) (hk : k < 12) (hus : gi G 46 (y 14 k) = 1) : ∃ j u, u < 3 ∧ gr G 50 (y 14 k) = some (tad t u) ∧ ai m (y 30 89) k = nI u ∧ gr G 48 (y 14 k) = some (y 5 j) ∧ j ≤ 20 ∧ ((lvN n r j ∧ (∀ K : Int32 → Prop, K 0 → w_Fid_isGone t G (y 14 k) K) ∧ (∀ K : Int32 → Prop, K (nI (s j)) → w_M_find t m (y 1 0) (ai m (y 30 88) k) K)) ∨ ((∀ K : Int32 → Prop, K 1 → w_Fid_isGone t G (y 14 k) K) ∧ ∀ K : Int32 → Prop, K (-1) → w_M_find t m (y 1 0) (ai m (y 30 88) k) K)) := by
  obtain ⟨hs, hz, hm, -, -, -, hT, hF, -⟩ := h
  obtain ⟨v, p, j, u, a1, a2, a3, a4, a5, a6, a7, a8, a9, a10, a11, a12, a13, -⟩ := hF k hk hus
  refine ⟨j, u, a11, a12, a13, a4, a5, ?_⟩
  have hvk : yV 14 k = true := by simp [yV, hk]
  have hvj : yV 5 j = true := by simp [yV]; omega
  rw [a7]
  by_cases g : gi G 0 (y 5 j) = nI p
  · have hj := a9 g
    have x := hT.nd hj
    exact Or.inl ⟨hj, fun K hK => ⟨hs.k 14 k hvk, y 5 j, a4, hs.k 5 j hvj, iT (by rw [a6]; exact g) hK⟩, fun K hK => M_find hs hm x.1 x.2.2.1 (x.2.2.2.1.trans g) (fun q hq z1 z2 => hT.uniq hb hj hq z1 (z2.trans g.symm)) hK⟩
  · refine Or.inr ⟨fun K hK => ⟨hs.k 14 k hvk, y 5 j, a4, hs.k 5 j hvj, iF (by rw [a6]; exact g) hK⟩, fun K hK => M_findNo hs hm (fun q hq z1 z2 => ?_) hK⟩
    obtain ⟨j', hj', rfl⟩ := hT.slot hq z1
    have := (hT.nd hj').2.2.2.1
    rw [z2] at this
    have e := a10 j' hj' this.symm
    subst e
    exact g this.symm
/-- the way of one name -/
theorem walk1 (hb : np < 2 ^ 31) (hs : SH t y) (hz : FZ y G) (hm : FZ y m) (hTr : TrR t y G (ai m (y 30 70)) n r s np) (hf : MsF z f) (mc : MsC y G z f) (mm : MsM y m z f) {N i d : Nat} (hT : TxC y G f 17 N) (hN : N ≤ 4) (hi : i < N) (hin : tp f 17 N ≤ z) (hd : lvN n r d) : (∃ d', lvN n r d' ∧ (∀ K : Option Nat → Prop, K (some (y 5 d')) → w_S_nextNode t G (y 0 0) (y 5 d) (nI i) K) ∧ (∀ K : Int32 → Prop, K (nI (s d')) → w_M_isDots t m (y 1 0) (nI (tp f 17 i)) (fun v3 => (if v3 = 0 then (w_M_named t m (y 1 0) (nI (s d)) (nI (tp f 17 i)) K) else ((if ¬ nI (s d) = 0 then (w_M_at t m (y 1 0) (nI (s d)) (8 : Int32) (fun v5 => w_M_find t m (y 1 0) v5 K)) else K 0))))) ∨ ((∀ K : Option Nat → Prop, K none → w_S_nextNode t G (y 0 0) (y 5 d) (nI i) K) ∧ (∀ K : Int32 → Prop, K (-1) → w_M_isDots t m (y 1 0) (nI (tp f 17 i)) (fun v3 => (if v3 = 0 then (w_M_named t m (y 1 0) (nI (s d)) (nI (tp f 17 i)) K) else ((if ¬ nI (s d) = 0 then (w_M_at t m (y 1 0) (nI (s d)) (8 : Int32) (fun v5 => w_M_find t m (y 1 0) v5 K)) else K 0))))) := by
  have x := hTr.nd hd
  have hd20 := hTr.le hd
  have hvd : yV 5 d = true := by simp [yV]; omega
  have inI := tp_in hin hi
  obtain ⟨x1, x2⟩ := hT.1 i hi
  have s16 : slen 16 = 2 := by decide
  have hL : nm f (tp f 17 i) 2 ≤ 128 := by have := hf.2.1; omega
  have cpre : ∀ K : Option Nat → Prop, (isDd f (tp f 17 i) → if ¬ (gr G 7 (y 5 d)) = none then K (gr G 7 (y 5 d)) else K (some (y 5 d))) → (¬ isDd f (tp f 17 i) → w_Tree_entry t G (y 2 0) (y 5 d) (y 8 0) (nI i) K) → w_S_nextNode t G (y 0 0) (y 5 d) (nI i) K := fun K kd ke => by
    have e48 : ¬ isDd f (tp f 17 i) → w_S_nextNode_48 t G (y 0 0) K (y 5 d) (nI i) := fun w => ⟨hs.k 0 0, y 2 0, hz.1.1, hs.k 2 0, y 8 0, hz.1.2.2.2.1, ke w⟩
    refine ⟨hs.k 0 0, y 8 0, hz.1.2.2.2.1, hs.k 8 0, y 21 0, hz.2.2.1.2.2.1, hs.k 21 0, by rw [hs.n 21 0]; exact vp_lt (N := 4) (by omega), 16, by omega, rfl, ?_⟩
    rw [nI_clamp (by omega), x2]
    refine iN ⟨fun e => ?_, fun e => e48 fun w => e (by rw [w.1, s16])⟩
    have e := (nI_eq (by omega) (by omega)).mp e
    refine S_textBegins hs hz hf mc hT (by omega) hi hN (by omega) (fun _ w => iF (by decide) ⟨hs.k 5 d hvd, kd ((isDd_e hf.2.2.1).mp ⟨e, w⟩)⟩) (fun w => iT rfl (e48 fun q => w ⟨by omega, ((isDd_e hf.2.2.1).mpr q).2⟩))
  by_cases dd : isDd f (tp f 17 i)
  · have mpre : ∀ K : Int32 → Prop, (if ¬ nI (s d) = 0 then (w_M_at t m (y 1 0) (nI (s d)) (8 : Int32) (fun v5 => w_M_find t m (y 1 0) v5 K)) else K 0) → w_M_isDots t m (y 1 0) (nI (tp f 17 i)) (fun v3 => (if v3 = 0 then (w_M_named t m (y 1 0) (nI (s d)) (nI (tp f 17 i)) K) else ((if ¬ nI (s d) = 0 then (w_M_at t m (y 1 0) (nI (s d)) (8 : Int32) (fun v5 => w_M_find t m (y 1 0) v5 K)) else K 0)))) := fun K hK => M_isDots hs hm hf mm inI (fun _ => iF (by decide) hK) (fun w => absurd dd w)
    by_cases h0 : d = 0
    · subst h0
      have e7 : gr G 7 (y 5 0) = none := hTr.2.2.2.2.2.2.2.2.2.2.2.2.1.1
      have s0 : s 0 = 0 := hTr.2.2.2.2.2.2.2.2.2.1
      exact Or.inl ⟨0, lv0, fun K hK => cpre K (fun _ => iF (by rw [e7]; simp) hK) (fun w => absurd dd w), fun K hK => mpre K (iF (by rw [s0]; simp [nI_0]) (by rw [s0] at hK; exact hK))⟩
    · obtain ⟨j', hj', e7, e8, -⟩ := hTr.home hd h0
      have xj := hTr.nd hj'
      refine Or.inl ⟨j', hj', fun K hK => cpre K (fun _ => iT (by rw [e7]; simp) (by rw [e7]; exact hK)) (fun w => absurd dd w), fun K hK => mpre K (iT (nI_ne0 (x.2.1 h0) (by omega)) (M_at (c := 8) hs hm x.1 (by omega) ?_))⟩
      rw [e8]
      exact M_find hs hm xj.1 xj.2.2.1 xj.2.2.2.1 (fun q hq z1 z2 => hTr.uniq hb hj' hq z1 z2) hK
  · rcases ent_or y G f (tp f 17 i) d n r with ⟨e, he, w1, w2⟩ | w
    · exact Or.inl ⟨r e, hTr.in he, fun K hK => cpre K (fun q => absurd q dd) (fun _ => S_entryY hTr hs hz hf mc hT hi hN inI he w1 w2 hK), fun K hK => M_isDots hs hm hf mm inI (fun q => absurd q dd) (fun _ => iT rfl (M_namedY hTr hb hs hm hf mm inI hd he w1 hK))⟩
    · exact Or.inr ⟨fun K hK => cpre K (fun q => absurd q dd) (fun _ => S_entryN hTr hs hz hf mc hT hi hN inI w hK), fun K hK => M_isDots hs hm hf mm inI (fun q => absurd q dd) (fun _ => iT rfl (M_namedN hTr hb hs hm hf mm inI hd w hK))⟩
end WALKB
/-- the answers' bytes so far -/
def AB (y : LYT) (G : GS) (A B : Nat → Int32) (l : Nat) : Prop := (∀ x, x < 7 → A x = ai G (y 22 0) x) ∧ B 8 = nI 0 ∧ ∀ x, 7 ≤ x → x < l → ∃ v, v < 256 ∧ A x = sb v ∧ B x = nI v
section WALKL
variable {t : TY} {y : LYT} {b c z k k' : Nat} {f : Nat → Nat} {G m : GS} {n np : Nat} {r s : Nat → Nat}
theorem er2 : lN (er 2) = 0 := by decide +kernel
/-- an error on the way -/
theorem walkE (P : Pre t y b c z f G m) {N i e d u v' : Nat} {sm : Int32} {w : Int64} {ev : Int64} (h4 : f 4 = 110) (hT : TxC y G f 17 N) (hN : N ≤ 4) (hi : i < N) {A B : Nat → Int32} (ab : AB y G A B (9 + 13 * i)) (he : e < 29) (he2 : e ≠ 2) (ee : lN (er e) = ev) (e0 : ¬ ev = 0) {F : (GS → Option Nat → Prop) → Prop} {H : (GS → Prop) → Prop} {oc : Option Nat} {q : Int32}
    (hF : ∀ K : GS → Option Nat → Prop, (∀ v2 : Int32, v2 = nI i + 1 → ∃ q, w_S_walkNames_31 t (y 0 0) K q (y 14 k') w (some (tad t u)) oc (nI i) (some (tks t e)) v2 (cP y G A (9 + 13 * i))) → F K)
    (hH : ∀ K : GS → Prop, (∀ v3 : Int32, v3 = nI i + 1 → ∃ x, w_M_walk_133 t (y 1 0) K x (nI c) (nI k) (lN v') sm (nI N) (nI d) q (nI i) v3 (sl (mP y m B (9 + 13 * i)) 98 (y 1 0) ev)) → H K) : HR t y b c G m F H := by
  have hs := P.s
  have hzX : FZ y (cP y G A (9 + 13 * i)) := cP_z hs P.g
  have e42 : gi (cP y G A (9 + 13 * i)) 42 (y 8 0) = nI N := (cP_i (by omega)).trans hT.2.1
  obtain ⟨G', eG'⟩ : ∃ X, X = aw (cP y G A (9 + 13 * i)) (y 22 0) (pB sb A 7 i 2) := ⟨_, rfl⟩
  have xc : xC y G G' := by rw [eG']; exact (xC.rf.cP).aw (k := 22)
  have bts : ai G' (y 22 0) = pB sb A 7 i 2 := by rw [eG']; exact aw_at
  have b46 : ∀ x, 4 ≤ x → x < 7 → ai G' (y 22 0) x = ai G (y 22 0) x := fun x _ h2 => by rw [bts]; exact (if_neg (by omega)).trans (ab.1 x h2)
  have cls : ∀ K : GS → Option Nat → Prop, (if ¬ nI i = 0 then K G' (some (tks t 2)) else K G' (some (tks t e))) → F K := fun K hK => hF K fun v2 e2 => ⟨1, by
    have h125 : w_S_walkNames_125 t (y 0 0) K (y 14 k') w (some (tad t u)) oc (nI i) (some (tks t e)) (cP y G A (9 + 13 * i)) := isEn he he2 (iT rfl ⟨hs.k 0 0, y 9 0, hzX.1.2.2.2.2.1, hs.k 9 0, by
      rw [nI_l (by omega)]
      refine S_set (p := 7) (n := 2) hs hzX (by omega) (by omega) (by omega) ?_
      rw [cP_A, ← eG']
      exact hK⟩)
    refine ⟨hs.k 0 0, y 8 0, hzX.1.2.2.2.1, hs.k 8 0, iS ⟨fun _ => h125, fun _ => isEn he he2 (iT rfl h125)⟩⟩⟩
  obtain ⟨m1, em1⟩ : ∃ X, X = sl (mP y m B (9 + 13 * i)) 98 (y 1 0) ev := ⟨_, rfl⟩
  have hm1 : FZ y m1 := P.hm.to hs (sZ.of (fun _ _ => by rw [em1]; rfl) (fun _ => by rw [em1]; rfl))
  obtain ⟨m2, em2⟩ : ∃ X, X = ais m1 (y 30 96) 7 (nI i) := ⟨_, rfl⟩
  have xm1 : xM y m m1 := by rw [em1]; exact (xM.rf.mP).sl (f := 98)
  have xm2 : xM y m m2 := by
    rw [em2]
    exact xm1.tr ⟨fun _ _ _ => rfl, fun _ _ _ => rfl, fun _ _ => rfl, fun b _ h2 => ai_nb h2, fun _ => rfl, fun _ => rfl⟩
  have a94 : ai m2 (y 30 94) = ai m (y 30 94) := by rw [em2, ai_nb (hs.ne (by omega)), em1]; exact mP_a (hs.ne (by omega))
  have g98 : gl m2 98 (y 1 0) = ev := by rw [em2, em1]; exact gl_at
  have g97 : gi m2 97 (y 1 0) = nI (9 + 13 * i) := by rw [em2, em1]; exact mP_l
  have a96 : ∀ x, ai m2 (y 30 96) x = if x = 7 then nI i else B x := fun x => by
    rw [em2]
    by_cases q : x = 7
    · rw [q, if_pos rfl]; exact ai_at
    · rw [if_neg q, ai_nj q, em1]; exact congrFun mP_A x
  have mdl : ∀ K : GS → Prop, (if nI i ≤ 0 then K m2 else K (sl m2 98 (y 1 0) 0)) → H K := fun K hK => hH K fun v3 e3 => ⟨1, by
    rw [← em1]
    have h300 : w_M_walk_300 t (y 1 0) K (nI c) (nI k) (lN v') sm (nI N) (nI d) (nI i) m1 := by
      refine ⟨hs.k 1 0, y 30 96, hm1.m 96, hs.k 30 96, by rw [hs.n 30 96]; exact vp_lt (n := 7) (N := 160) (by omega), fun X eX => ?_⟩
      have eX : X = m2 := by rw [eX, em2]; rfl
      subst eX
      refine iS ⟨fun q => ⟨hs.k 1 0, ?_⟩, fun q X eX => ⟨hs.k 1 0, ?_⟩⟩
      · rw [if_pos q] at hK
        exact iT (by rw [g98]; exact e0) hK
      · rw [if_neg q] at hK
        subst eX
        exact iF (fun w => w gl_at) (iF (nI_ge hi (by omega)) hK)
    refine iS ⟨fun _ => h300, fun _ => ⟨hs.k 1 0, iT ?_ h300⟩⟩
    rw [em1]
    show ¬ gl (sl (mP y m B (9 + 13 * i)) 98 (y 1 0) ev) 98 (y 1 0) = 0
    rw [gl_at]; exact e0⟩
  by_cases q : i = 0
  · subst q
    exact HR.err P he he2 xc b46 xm2 a94 (by rw [g98, ee]) (fun K hK => cls K (iF (by simp [nI_0]) hK)) (fun K hK => mdl K (iT (by decide) hK))
  · refine ⟨G', sl m2 98 (y 1 0) 0, 2, by omega, P.i.x xc (xm2.sl (f := 98)), xc.eS hs, fun K hK => cls K (iT (nI_ne0 (by omega) (by omega)) hK), fun K hK => mdl K (iF (nI_nle (by omega) (by omega)) hK), fun _ => ⟨b46, a94, by rw [er2]; exact gl_at, xc.1 56 _ (by omega), xc.1 58 _ (by omega), fun _ => ⟨9 + 13 * i, by omega, by omega, by rw [eG']; exact cP_l, g97, fun x h1 h2 => ?_⟩⟩⟩
    show ∃ v, v < 256 ∧ ai G' (y 22 0) x = sb v ∧ ai m2 (y 30 96) x = nI v
    rw [bts, a96]
    by_cases q7 : x = 7
    · subst q7
      refine ⟨i, by omega, ?_, if_pos rfl⟩
      show (if 7 ≤ 7 ∧ 7 < 7 + 2 then sb (i / 256 ^ (7 - 7) % 256) else _) = _
      rw [if_pos (by omega), Nat.sub_self, Nat.pow_zero, Nat.div_one, Nat.mod_eq_of_lt (by omega)]
    · rw [if_neg q7]
      by_cases q8 : x = 8
      · subst q8
        refine ⟨0, by omega, ?_, ab.2.1⟩
        show (if 7 ≤ 8 ∧ 8 < 7 + 2 then sb (i / 256 ^ (8 - 7) % 256) else _) = _
        rw [if_pos (by omega), show (8 - 7) = 1 by omega, Nat.pow_one, Nat.div_eq_of_lt (by omega)]
      · obtain ⟨v, v1, v2, v3⟩ := ab.2.2 x h1 h2
        exact ⟨v, v1, by rw [← v2]; exact if_neg (by omega), v3⟩
end WALKL
