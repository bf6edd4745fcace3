/-! all fids of a connection are released; hangup (by hand) -/
/-- the used fid with the lowest number among the first i -/
def lst (y : LYT) (G : GS) (c : Nat) : Nat → Option Nat
  | 0 => none
  | i + 1 => if gi G 46 (y 14 (6 * c + i)) = 0 then lst y G c i else match lst y G c i with
    | none => some i
    | some q => if gl G 47 (y 14 (6 * c + q)) ≤ gl G 47 (y 14 (6 * c + i)) then some q else some i
section HANG
variable {t : TY} {y : LYT} {G m : GS} {b : Nat}
theorem lst_in {c : Nat} : ∀ {i q : Nat}, lst y G c i = some q → q < i ∧ ¬ gi G 46 (y 14 (6 * c + q)) = 0
  | i + 1, q, h => by
    unfold lst at h
    by_cases u : gi G 46 (y 14 (6 * c + i)) = 0
    · rw [if_pos u] at h
      have := lst_in h
      exact ⟨by omega, this.2⟩
    · rw [if_neg u] at h
      cases e : lst y G c i with
      | none => rw [e] at h; cases h; exact ⟨by omega, u⟩
      | some q' =>
        rw [e] at h
        dsimp only at h
        by_cases z : gl G 47 (y 14 (6 * c + q')) ≤ gl G 47 (y 14 (6 * c + i))
        · rw [if_pos z] at h; cases h
          have := lst_in e
          exact ⟨by omega, this.2⟩
        · rw [if_neg z] at h; cases h; exact ⟨by omega, u⟩
theorem lst_no {c : Nat} : ∀ {i : Nat}, lst y G c i = none → ∀ q, q < i → gi G 46 (y 14 (6 * c + q)) = 0
  | i + 1, h, q, hq => by
    unfold lst at h
    by_cases u : gi G 46 (y 14 (6 * c + i)) = 0
    · rw [if_pos u] at h
      by_cases z : q = i
      · rw [z]; exact u
      · exact lst_no h q (by omega)
    · rw [if_neg u] at h
      cases e : lst y G c i with
      | none => rw [e] at h; cases h
      | some q' =>
        rw [e] at h
        dsimp only at h
        by_cases z : gl G 47 (y 14 (6 * c + q')) ≤ gl G 47 (y 14 (6 * c + i))
        · rw [if_pos z] at h; cases h
        · rw [if_neg z] at h; cases h
/-- the class's lowest fid -/
theorem S_lowest (hs : SH t y) (hz : FZ y G) {c : Nat} (hc : c < 2) {K : Option Nat → Prop} (k : K ((lst y G c 6).map (fun i => y 14 (6 * c + i)))) : w_Link_lowestFid t G (y 10 c) K := by
  have hv : yV 10 c = true := by simp [yV, hc]
  have hv13 : yV 13 c = true := by simp [yV, hc]
  refine pk_loop (fun q i (_ : Unit) => w_Link_lowestFid_4 t G (y 10 c) K q ((lst y G c i).map (fun i => y 14 (6 * c + i))) (nI i)) (fun _ _ => True) 6 0 () (by omega) trivial (fun q _ _ => ?_) (fun q i _ hi _ ih => ?_)
  · show w_Link_lowestFid_4 t G (y 10 c) K (q + 1) _ (nI 6)
    unfold w_Link_lowestFid_4
    exact iT (show (6 : Int32) ≤ nI 6 by decide) k
  · have hvk : yV 14 (6 * c + i) = true := by simp [yV]; omega
    have ih := ih () trivial
    have ar_ : ar G (y 13 c) (nI i).toNatClampNeg = some (y 14 (6 * c + i)) := by rw [nI_clamp (by omega)]; exact (hz.2.2.2.2.1 c hc).2.2.2.2 i hi
    refine iF (show ¬ nI 6 ≤ nI i from nI_ge hi (by decide)) ⟨hs.k 10 c hv, y 13 c, (hz.2.2.2.2.1 c hc).2.2.1, hs.k 13 c hv13, by rw [hs.n 13 c hv13]; exact vp_lt (N := 6) hi, y 14 (6 * c + i), ar_, hs.k 14 _ hvk, ?_⟩
    have hstep : lst y G c (i + 1) = (if gi G 46 (y 14 (6 * c + i)) = 0 then lst y G c i else match lst y G c i with | none => some i | some q => if gl G 47 (y 14 (6 * c + q)) ≤ gl G 47 (y 14 (6 * c + i)) then some q else some i) := rfl
    rw [hstep] at ih
    refine iS ⟨fun u => ?_, fun u => ?_⟩
    · intro v hv; subst hv
      rw [if_pos u] at ih
      rw [nI_1]; exact ih
    · rw [if_neg u] at ih
      cases e : lst y G c i with
      | none =>
        rw [e] at ih
        refine iT rfl ?_
        intro v hv; subst hv
        rw [nI_1, ar_]; exact ih
      | some q' =>
        rw [e] at ih
        dsimp only at ih
        have hq := (lst_in e).1
        refine iF (by simp) ⟨y 14 (6 * c + q'), rfl, hs.k 14 _ (by simp [yV]; omega), iS ⟨fun z => ?_, fun z => ?_⟩⟩
        · intro v hv; subst hv
          rw [if_pos z] at ih
          rw [nI_1]; exact ih
        · intro v hv; subst hv
          rw [if_neg z] at ih
          rw [nI_1, ar_]; exact ih
/-- what the reference keeps of it -/
def lsM (c : Nat) (o : Option Nat) : Int32 := match o with
  | none => -1
  | some q => nI (6 * c + q)
/-- the reference's lowest fid -/
theorem M_lowest (hs : SH t y) (hm : FZ y m) {c : Nat} (hc : c < 2) (hu : ∀ k, k < 12 → ai m (y 30 86) k = gi G 46 (y 14 k)) (hn : ∀ k, k < 12 → ¬ gi G 46 (y 14 k) = 0 → al m (y 30 87) k = gl G 47 (y 14 k)) {K : GS → Prop} {r2 : Int32 → Int32 → GS → Prop} {l2 : Int32} (k : if lsM c (lst y G c 6) < 0 then (∀ v1 : Int32, v1 = (l2 + (1 : Int32)) → r2 (nI c) v1 m) else (w_M_release t m (y 1 0) (lsM c (lst y G c 6)) (fun G2 => ∀ v3 : Int32, v3 = (l2 + (1 : Int32)) → r2 (nI c) v3 G2))) : ∃ q, w_M_releaseAll_23 t (y 1 0) K r2 q (nI c) l2 (-1 : Int32) ((6 : Int32) * nI c) m := by
  have e6c : (6 : Int32) * nI c = nI (6 * c) := by rw [show (6 : Int32) = nI 6 from rfl, pk_mul]
  have e12 : (6 : Int32) * nI c + 6 = nI (6 * c + 6) := by rw [e6c, show (6 : Int32) = nI 6 from rfl, nI_add]
  have key := pk_loop (fun q i (_ : Unit) => w_M_releaseAll_23 t (y 1 0) K r2 q (nI c) l2 (lsM c (lst y G c i)) (nI (6 * c + i)) m) (fun _ _ => True) 6 0 () (by omega) trivial (fun q _ _ => ?_) (fun q i _ hi _ ih => ?_)
  · obtain ⟨q, hq⟩ := key
    refine ⟨q, ?_⟩
    rw [e6c]; exact hq
  · refine iT (by rw [e12]; exact Int32.le_refl _) ?_
    exact ite_lift k (fun h => h) (fun h => ⟨hs.k 1 0, h⟩)
  · have ih := ih () trivial
    have hk12 : 6 * c + i < 12 := by omega
    refine iF (by rw [e12]; exact nI_ge (by omega) (by omega)) ⟨hs.k 1 0, y 30 86, hm.m 86, hs.k 30 86, by rw [hs.n 30 86]; exact vp_lt (N := 12) hk12, ?_⟩
    have hstep : lst y G c (i + 1) = (if gi G 46 (y 14 (6 * c + i)) = 0 then lst y G c i else match lst y G c i with | none => some i | some q => if gl G 47 (y 14 (6 * c + q)) ≤ gl G 47 (y 14 (6 * c + i)) then some q else some i) := rfl
    rw [hstep] at ih
    rw [nI_clamp (by omega), hu _ hk12]
    refine iS ⟨fun u => ?_, fun u => ?_⟩
    · rw [if_pos u] at ih
      intro v hv; subst hv
      rw [nI_1]; exact ih
    · rw [if_neg u] at ih
      cases e : lst y G c i with
      | none =>
        rw [e] at ih
        refine iT (show (-1 : Int32) < 0 by decide) ?_
        intro v hv; subst hv
        rw [nI_1]; exact ih
      | some q' =>
        rw [e] at ih
        dsimp only at ih
        have hq := lst_in e
        have hq12 : 6 * c + q' < 12 := by omega
        refine iF (show ¬ nI (6 * c + q') < 0 from nI_pos (by omega)) ⟨y 30 87, hm.m 87, hs.k 30 87, by rw [hs.n 30 87]; exact vp_lt (N := 12) hk12, by rw [hs.n 30 87]; exact vp_lt (N := 12) hq12, ?_⟩
        show if al m (y 30 87) (nI (6 * c + q')).toNatClampNeg ≤ _ then _ else _
        rw [nI_clamp (by omega), hn _ hq12 hq.2, hn _ hk12 u]
        refine iS ⟨fun z => ?_, fun z => ?_⟩
        · rw [if_pos z] at ih
          intro v hv; subst hv
          rw [nI_1]; exact ih
        · rw [if_neg z] at ih
          intro v hv; subst hv
          rw [nI_1]; exact ih
/-- a connection without fids: the reference's turns do nothing -/
theorem M_relNone (hs : SH t y) (hm : FZ y m) {c : Nat} (hc : c < 2) (hu : ∀ k, k < 12 → ai m (y 30 86) k = gi G 46 (y 14 k)) (hn : ∀ k, k < 12 → ¬ gi G 46 (y 14 k) = 0 → al m (y 30 87) k = gl G 47 (y 14 k)) (h0 : lst y G c 6 = none) {K : GS → Prop} (k : K m) : ∀ q, q ≤ 6 → w_M_releaseAll_2 t (y 1 0) K (q + 1) (nI c) (nI (6 - q)) m
  | 0, _ => by unfold w_M_releaseAll_2; exact iT (by decide) k
  | q + 1, hq => by
    refine iF (show ¬ nI 6 ≤ nI (6 - (q + 1)) from nI_ge (by omega) (by decide)) ⟨hs.k 1 0, iN ⟨fun _ => ?_, fun _ => k⟩⟩
    intro v hv; subst hv
    refine M_lowest hs hm hc hu hn ?_
    rw [h0]
    refine iT (show (-1 : Int32) < 0 by decide) ?_
    intro v1 hv1; subst hv1
    rw [nI_1, show 6 - (q + 1) + 1 = 6 - q by omega]
    exact M_relNone hs hm hc hu hn h0 k q (by omega)
/-- releaseAll, the turns that are left -/
theorem relAll {c : Nat} (hc : c < 2) (hb : b < 2 ^ 31) : ∀ (q : Nat) (G m : GS), q ≤ 6 → InvY t y b G m → ∃ G' m', InvY t y b G' m' ∧ eS y G G' ∧ (gi G' 19 (y 3 0) = 1 → gi G 19 (y 3 0) = 1 ∧ kC y G G' ∧ kM y m m') ∧ (∀ K : GS → Prop, K G' → w_S_releaseAll_2 t (y 0 0) K (q + 1) (y 10 c) (nI (6 - q)) G) ∧ (∀ K : GS → Prop, K m' → w_M_releaseAll_2 t (y 1 0) K (q + 1) (nI c) (nI (6 - q)) m)
  | 0, G, m, _, h => ⟨G, m, h, eS.rf, fun z => ⟨z, kC.rf, kM.rf⟩, fun K k => by unfold w_S_releaseAll_2; exact iT (by decide) k, fun K k => by unfold w_M_releaseAll_2; exact iT (by decide) k⟩
  | q + 1, G, m, hq, h => by
    obtain ⟨hs, hz, hm, ⟨-, -, -, -, -, s6⟩, -, hu, n, r, s, np, -, hF, -⟩ := id h
    have hv : yV 10 c = true := by simp [yV, hc]
    have hu' : ∀ k, k < 12 → ai m (y 30 86) k = gi G 46 (y 14 k) := fun k hk => (hu k hk).2.1
    have hn' : ∀ k, k < 12 → ¬ gi G 46 (y 14 k) = 0 → al m (y 30 87) k = gl G 47 (y 14 k) := fun k hk hne => by
      have : gi G 46 (y 14 k) = 1 := by rcases (hu k hk).1 with z | z; exact absurd z hne; exact z
      obtain ⟨v, p, j, u, -, a2, a3, -⟩ := hF k hk this
      rw [a3, a2]
    have nlt : ¬ nI 6 ≤ nI (6 - (q + 1)) := nI_ge (by omega) (by decide)
    have cnone : lst y G c 6 = none → ∀ K : GS → Prop, K G → w_S_releaseAll_2 t (y 0 0) K (q + 1 + 1) (y 10 c) (nI (6 - (q + 1))) G := fun h0 K k => iF nlt ⟨hs.k 10 c hv, S_lowest hs hz hc (by rw [h0]; exact iF (by simp) k)⟩
    cases e : lst y G c 6 with
    | none => exact ⟨G, m, h, eS.rf, fun z => ⟨z, kC.rf, kM.rf⟩, cnone e, fun K k => M_relNone hs hm hc hu' hn' e k (q + 1) hq⟩
    | some i =>
      have hi := lst_in e
      have hk12 : 6 * c + i < 12 := by omega
      have hus : gi G 46 (y 14 (6 * c + i)) = 1 := by rcases (hu _ hk12).1 with z | z; exact absurd z hi.2; exact z
      have hrun : gi G 19 (y 3 0) = 1 := by
        rcases s6 with ⟨z, -⟩ | ⟨z, -⟩
        · exact z
        · exact absurd ((hu _ hk12).2.2 z) hi.2
      have h75 : gi m 75 (y 1 0) = 0 := by
        rcases s6 with ⟨-, z, -⟩ | ⟨z, -⟩
        · exact z
        · rw [hrun] at z; exact absurd z (by decide)
      obtain ⟨G1, m1, h1, x1, k1, rS, rM⟩ := rel1 h hb hrun hk12 hus
      obtain ⟨G', m', h', x2, k2, tS, tM⟩ := relAll hc hb q G1 m1 (by omega) h1
      refine ⟨G', m', h', x1.tr x2, fun z => ?_, fun K k => iF nlt ⟨hs.k 10 c hv, S_lowest hs hz hc ?_⟩, fun K k => iF nlt ⟨hs.k 1 0, iF (by rw [h75]; simp) ?_⟩⟩
      · obtain ⟨w, c1, c2⟩ := k2 z
        exact ⟨hrun, (k1 w).1.tr c1, (k1 w).2.tr c2⟩
      · rw [e]
        refine iT (by simp) ⟨hs.k 0 0, y 14 (6 * c + i), rfl, ?_⟩
        refine rS (fun G3 => ∀ v5 : Int32, v5 = (nI (6 - (q + 1)) + (1 : Int32)) → w_S_releaseAll_2 t (y 0 0) K (q + 1) (y 10 c) v5 G3) ?_
        intro v hv'; subst hv'
        rw [nI_1, show 6 - (q + 1) + 1 = 6 - q by omega]
        exact tS K k
      · intro v hv'; subst hv'
        refine M_lowest hs hm hc hu' hn' ?_
        rw [e]
        refine iF (show ¬ nI (6 * c + i) < 0 from nI_pos (by omega)) (rM _ ?_)
        intro v hv'; subst hv'
        rw [nI_1, show 6 - (q + 1) + 1 = 6 - q by omega]
        exact tM K k
theorem relAllY {c : Nat} (hc : c < 2) (hb : b < 2 ^ 31) (h : InvY t y b G m) : ∃ G' m', InvY t y b G' m' ∧ eS y G G' ∧ (gi G' 19 (y 3 0) = 1 → gi G 19 (y 3 0) = 1 ∧ kC y G G' ∧ kM y m m') ∧ (∀ K : GS → Prop, K G' → w_S_releaseAll t G (y 0 0) (y 10 c) K) ∧ (∀ K : GS → Prop, K m' → w_M_releaseAll t m (y 1 0) (nI c) K) := by
  obtain ⟨G', m', h', x, kk, a, d⟩ := relAll hc hb 6 G m (Nat.le_refl _) h
  exact ⟨G', m', h', x, kk, fun K k => ⟨7, a K k⟩, fun K k => ⟨7, d K k⟩⟩
theorem o_hangup {S M : Nat} : Ob_hangup t S M (InvW t S M) := fun j G x hj ⟨y, h1, h2, h⟩ => by
  subst h1 h2
  obtain ⟨hs, hz, -, ⟨-, -, -, -, -, s6⟩, -⟩ := id h
  have hup : InvW t (y 0 0) (y 1 0) (j + 5) G := ⟨y, rfl, rfl, h.up (by omega)⟩
  refine ⟨hs.k 0 0, ?_⟩
  rcases conn x with hx | ⟨c, hc, rfl⟩
  · exact S_linkNo hx (iT rfl (M_isNo hx (iT rfl ⟨rfl, hup⟩)))
  · refine S_linkOf hs hz hc (iF (by simp) ⟨y 3 0, hz.1.2.1, hs.k 3 0, ?_⟩)
    rcases s6 with ⟨q1, q2, q3⟩ | ⟨q1, q2⟩
    · refine iT (by rw [q1]; decide) ⟨y 10 c, rfl, ?_⟩
      obtain ⟨G', m', h', x, -, rS, rM⟩ := relAllY hc (by omega) h
      refine rS _ ⟨hs.k 10 c (by simp [yV, hc]), S_reset hs h'.2.1 hc ?_⟩
      have run : w_M_hangup t G (y 1 0) (nI c) (fun X v => X = frM y m' c ∧ v = 1) := M_isC hc (iF (by decide) ⟨hs.k 1 0, iT q2 (rM _ (M_fresh hs h'.2.2.1 hc ⟨rfl, rfl⟩))⟩)
      exact f_M_hangup (x.rs.eM hz) (fun A H v eA cH hA => by
        obtain ⟨e1, e2⟩ := hA
        subst e1
        exact ⟨e2.symm, y, rfl, rfl, ((h'.hang hc).one eA cH).up (by omega)⟩) run
    · exact iF (by rw [q1]; decide) (M_isC hc (iF (by decide) ⟨hs.k 1 0, iF (by rw [q2]; decide) ⟨rfl, hup⟩⟩))
end HANG
