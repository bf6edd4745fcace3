/-! read: the listing, turn by turn (by hand) -/
def bpr (T : Nat → Int32) (sd : Nat) (μ : Int32) (b : Option Nat) : Prop := (b = none → ∀ q, 1 ≤ q → q < 21 → ¬ hitE T sd μ q) ∧ ∀ q, b = some q → 1 ≤ q ∧ q < 21 ∧ hitE T sd μ q ∧ ∀ q', 1 ≤ q' → q' < 21 → hitE T sd μ q' → (T (83 * q + 1)).toNatClampNeg ≤ (T (83 * q' + 1)).toNatClampNeg
section LSL
variable {t : TY} {y : LYT} {b c z k j u : Nat} {f : Nat → Nat} {G m : GS} {n np : Nat} {r s : Nat → Nat}
theorem cP_54 {a l : Nat} {A : Nat → Int32} {μ v : Int32} : si (cP y (si G 54 a μ) A l) 54 a v = cP y (si G 54 a v) A l := by
  unfold cP
  rw [si_comm (by omega)]
  show si (aw (si (si G 54 a μ) 54 a v) (y 22 0) A) 45 (y 9 0) (nI l) = _
  rw [si_si]
theorem ais_ais {a i : Nat} {x v : Int32} : ais (ais m a i x) a i v = ais m a i v := by
  show (m.1, m.2.1, m.2.2.1, _, m.2.2.2.2) = (m.1, m.2.1, m.2.2.1, _, m.2.2.2.2)
  congr 4
  funext p q
  show (if p = a ∧ q = i then v else (if p = a ∧ q = i then x else ai m p q)) = (if p = a ∧ q = i then v else ai m p q)
  by_cases w : p = a ∧ q = i
  · rw [if_pos w, if_pos w]
  · rw [if_neg w, if_neg w, if_neg w]
theorem ais_aw {a c i : Nat} {v : Int32} {B : Nat → Int32} (h : a ≠ c) : ais (aw m c B) a i v = aw (ais m a i v) c B := by
  show (m.1, m.2.1, m.2.2.1, _, m.2.2.2.2) = (m.1, m.2.1, m.2.2.1, _, m.2.2.2.2)
  congr 4
  funext p
  by_cases w : p = c
  · subst w
    funext q
    show (if p = a ∧ q = i then v else (if p = p then B else ai m p) q) = (if p = p then B else _) q
    rw [if_neg (fun z => h z.1.symm), if_pos rfl, if_pos rfl]
  · funext q
    show (if p = a ∧ q = i then v else (if p = c then B else ai m p) q) = (if p = c then B else ai (ais m a i v) p) q
    rw [if_neg w, if_neg w]; rfl
theorem mP_93 (hs : SH t y) {l : Nat} {B : Nat → Int32} {μ v : Int32} : ais (mP y (ais m (y 30 93) k μ) B l) (y 30 93) k v = mP y (ais m (y 30 93) k v) B l := by
  unfold mP
  show si (ais (aw (ais m (y 30 93) k μ) (y 30 96) B) (y 30 93) k v) 97 (y 1 0) (nI l) = _
  rw [ais_aw (hs.ne (by omega)), ais_ais]
theorem listL (Q : FP t y b c z f G m n r s np k j u) {o : Int64} {L8 : Nat} (hL8 : L8 ≤ 117) : ∀ (e i : Nat) (μ : Int32) (A B : Nat → Int32) (l : Nat), i + e = n → (∀ i', i' < i → gr G 7 (y 5 (r i')) = some (y 5 j) → gi G 0 (y 5 (r i')) ≤ μ) → 11 ≤ l → l ≤ 11 + L8 → ∃ (μ' : Int32) (A' B' : Nat → Int32) (l' : Nat), l ≤ l' ∧ l' ≤ 11 + L8 ∧ (∀ q, q < l → A' q = A q ∧ B' q = B q) ∧ (∀ q, l ≤ q → q < l' → ∃ v, v < 256 ∧ A' q = sb v ∧ B' q = nI v) ∧ (∀ K : GS → Option Nat → Prop, w_S_readEntries_144 t (y 0 0) K (y 14 k) o (nI (l' - 11)) (cP y (si G 54 (y 14 k) μ') A' l') → ∃ q, w_S_readEntries_45 t (y 0 0) K q (y 14 k) o (nI L8) (nI (l - 11)) (nI i) (cP y (si G 54 (y 14 k) μ) A l)) ∧ (∀ K : GS → Prop, w_M_list_85 t (y 1 0) K (nI k) o (mP y (ais m (y 30 93) k μ') B' l') → ∃ q, ∀ bb, bpr (ai m (y 30 70)) (s j) μ bb → w_M_list_26 t (y 1 0) K q (nI k) (nI (s j)) o (nI L8) (uI bb) (mP y (ais m (y 30 93) k μ) B l)) := by
  obtain ⟨P, hZ, hk, hus, hj, hu, g48, g50, h99, f90, f51⟩ := id Q
  have hs := P.s
  have hz := P.g
  have hm := P.hm
  have hnp := Q.np31
  have hTr := Q.tr
  have xj := hTr.nd hj
  have hn20 := hTr.1
  have hvk : yV 14 k = true := by simp [yV, hk]
  obtain ⟨pp, hp7, hp8⟩ := hTr.2.2.2.2.2.2.1
  have cl : (nI k).toNatClampNeg = k := nI_clamp (by omega)
  intro e
  induction e with
  | zero =>
    intro i μ A B l hi hc h1 h2
    obtain rfl : i = n := by omega
    have zX : FZ y (cP y (si G 54 (y 14 k) μ) A l) := hz.to hs (sZ.of (fun _ _ => rfl) (fun _ => rfl))
    refine ⟨μ, A, B, l, Nat.le_refl _, h2, fun _ _ => ⟨rfl, rfl⟩, fun q h1 h2 => by omega, fun K hK => ⟨1, hs.k 0 0, y 2 0, zX.1.1, hs.k 2 0, iT ?_ hK⟩, fun K hK => ⟨1, fun bb hbb => ?_⟩⟩
    · show gi (cP y (si G 54 (y 14 k) μ) A l) 15 (y 2 0) ≤ nI i
      rw [cP_i (by omega), gi_ne (by omega), hTr.2.1]; exact Int32.le_refl _
    · cases bb with
      | none =>
        unfold w_M_list_26
        exact iT (show uI none < 0 by decide) hK
      | some q =>
        obtain ⟨a1, a2, a3, -⟩ := hbb.2 q rfl
        obtain ⟨i', hi', -, b1, b2⟩ := (hTr.hitI hnp hs hj a1 a2).mp a3
        exact absurd (hc i' hi' b1) b2
  | succ e ih =>
    intro i μ A B l hi hc h1 h2
    have hin : i < n := by omega
    have hr23 := hTr.y20 hin
    have hvr : yV 5 (r i) = true := by simp [yV, hr23]
    have zX : FZ y (cP y (si G 54 (y 14 k) μ) A l) := hz.to hs (sZ.of (fun _ _ => rfl) (fun _ => rfl))
    have gX : ∀ g a, g ≠ 45 → g ≠ 54 → gi (cP y (si G 54 (y 14 k) μ) A l) g a = gi G g a := fun g a q1 q2 => by rw [cP_i q1, gi_ne q2]
    have g54 : gi (cP y (si G 54 (y 14 k) μ) A l) 54 (y 14 k) = μ := by rw [cP_i (by omega), gi_at]
    have ea : ar (cP y (si G 54 (y 14 k) μ) A l) (y 16 0) (nI i).toNatClampNeg = some (y 5 (r i)) := by rw [nI_clamp (by omega)]; exact (hTr.2.2.2.2.1 i (by omega)).1
    -- the class up to the node
    have cst : ∀ (K : GS → Option Nat → Prop) (q : Nat), (if ¬ (gr G 7 (y 5 (r i))) = some (y 5 j) then (∀ v4 : Int32, v4 = (nI i + (1 : Int32)) → w_S_readEntries_45 t (y 0 0) K q (y 14 k) o (nI L8) (nI (l - 11)) v4 (cP y (si G 54 (y 14 k) μ) A l)) else ((if (gi G 0 (y 5 (r i))) ≤ μ then (∀ v5 : Int32, v5 = (nI i + (1 : Int32)) → w_S_readEntries_45 t (y 0 0) K q (y 14 k) o (nI L8) (nI (l - 11)) v5 (cP y (si G 54 (y 14 k) μ) A l)) else (w_Node_statSize t (cP y (si G 54 (y 14 k) μ) A l) (y 5 (r i)) (fun v6 => (if (nI (l - 11) + v6) ≤ nI L8 then (∃ a7, (gr (cP y (si G 54 (y 14 k) μ) A l) 67 (y 0 0)) = some a7 ∧ tk t a7 = 6 ∧ w_Answer_putStat t (cP y (si G 54 (y 14 k) μ) A l) a7 (y 5 (r i)) (fun G8 => ∀ v9 : Int32, v9 = (nI (l - 11) + v6) → ∀ G10, G10 = si G8 54 (y 14 k) (gi G8 0 (y 5 (r i))) → ∀ v11 : Int32, v11 = (nI i + (1 : Int32)) → w_S_readEntries_45 t (y 0 0) K q (y 14 k) o (nI L8) v9 v11 G10)) else (w_S_readEntries_144 t (y 0 0) K (y 14 k) o (nI (l - 11)) (cP y (si G 54 (y 14 k) μ) A l))))))) ) → w_S_readEntries_45 t (y 0 0) K (q + 1) (y 14 k) o (nI L8) (nI (l - 11)) (nI i) (cP y (si G 54 (y 14 k) μ) A l) := fun K q hK => by
      refine ⟨hs.k 0 0, y 2 0, zX.1.1, hs.k 2 0, ?_⟩
      rw [gX 15 _ (by omega) (by omega), hTr.2.1]
      refine iF (nI_ge hin (by omega)) ⟨y 16 0, zX.2.1.2.1, hs.k 16 0, by rw [hs.n 16 0]; exact vp_lt (N := 20) (by omega), y 5 (r i), ea, hs.k 5 _ hvr, hs.k 14 k hvk, ?_⟩
      have e48 : gr (cP y (si G 54 (y 14 k) μ) A l) 48 (y 14 k) = some (y 5 j) := g48
      rw [e48, gX 0 _ (by omega) (by omega), g54]
      exact hK
    by_cases el : gr G 7 (y 5 (r i)) = some (y 5 j) ∧ ¬ gi G 0 (y 5 (r i)) ≤ μ
    · have hri := hTr.in hin
      have xi := hTr.nd hri
      have hr0 := (hTr.2.2.2.2.1 i (by omega)).2.1
      have si1 := xi.2.1 (by omega)
      have hitI : hitE (ai m (y 30 70)) (s j) μ (s (r i)) := (hTr.hitI hnp hs hj si1 xi.1).mpr ⟨i, hin, rfl, el⟩
      have bb1 : ∀ bb, bpr (ai m (y 30 70)) (s j) μ bb → bb = some (s (r i)) := fun bb hbb => by
        cases bb with
        | none => exact absurd hitI (hbb.1 rfl _ si1 xi.1)
        | some q =>
          obtain ⟨a1, a2, a3, a4⟩ := hbb.2 q rfl
          obtain ⟨i', hi', e', b1, b2⟩ := (hTr.hitI hnp hs hj a1 a2).mp a3
          have hle := a4 _ si1 xi.1 hitI
          have xi' := hTr.nd (hTr.in hi')
          rw [← e', xi'.2.2.2.1, xi.2.2.2.1, (hp7 i' hi').1, (hp7 i hin).1, nI_clamp (by have := (hp7 i' hi').2.2; omega), nI_clamp (by have := (hp7 i hin).2.2; omega)] at hle
          have : i' = i := by
            by_cases w1 : i' < i
            · exact absurd (hc i' w1 b1) b2
            · by_cases w2 : i < i'
              · have := hp8 i i' w2 hi'; omega
              · omega
          rw [← e', this]
      obtain ⟨ln, u0, u1, u2, hS⟩ := xi.2.2.st
      obtain ⟨l8', q0, q1, q2, c1, c2, c3, c4, c5, c6, c7, c8, c9⟩ := id hS
      obtain ⟨z1, z2⟩ := stz_le l8' q0 q1 q2
      have zM : FZ y (mP y (ais m (y 30 93) k μ) B l) := hm.to hs (sZ.of (fun _ _ => rfl) (fun _ => rfl))
      have a70 : ai (mP y (ais m (y 30 93) k μ) B l) (y 30 70) = ai m (y 30 70) := by rw [cP_70 hs]; exact ai_nb (hs.ne (by omega))
      have b70 : ai (ais m (y 30 93) k μ) (y 30 70) = ai m (y 30 70) := ai_nb (hs.ne (by omega))
      have csz : ∀ K : Int32 → Prop, K (nI (stz ln u0 u1 u2)) → w_Node_statSize t (cP y (si G 54 (y 14 k) μ) A l) (y 5 (r i)) K := fun K hK => S_statSize hs hr23 q0 q1 q2 ((gX 10 _ (by omega) (by omega)).trans c1) c3 c4 c5 hK
      have msz : ∀ K : Int32 → Prop, K (nI (stz ln u0 u1 u2)) → w_M_statSize t (mP y (ais m (y 30 93) k μ) B l) (y 1 0) (nI (s (r i))) K := fun K hK => M_statSize hs zM xi.1 q0 q1 q2 (by rw [a70]; exact c2) (by rw [a70]; exact c6) (by rw [a70]; exact c7) (by rw [a70]; exact c8) hK
      have e97 : gi (mP y (ais m (y 30 93) k μ) B l) 97 (y 1 0) = nI l := mP_l
      by_cases fit : l - 11 + stz ln u0 u1 u2 ≤ L8
      · have zG : FZ y (si G 54 (y 14 k) μ) := hz.to hs (sZ.of (fun _ _ => rfl) (fun _ => rfl))
        have zm : FZ y (ais m (y 30 93) k μ) := hm.to hs (sZ.of (fun _ _ => rfl) (fun _ => rfl))
        have aT : agT y G (si G 54 (y 14 k) μ) := ⟨fun g a hg => ⟨gi_ne (by omega), rfl⟩, fun _ _ => ⟨rfl, rfl⟩, fun _ => rfl⟩
        have ND : NdR t y (si G 54 (y 14 k) μ) (ai (ais m (y 30 93) k μ) (y 30 70)) (r i) (s (r i)) := by rw [b70]; exact xi.2.2.to (hTr.le hri) aT
        have NS : NdS t y (si G 54 (y 14 k) μ) (ais m (y 30 93) k μ) (r i) (s (r i)) ln u0 u1 u2 := by
          unfold NdS
          rw [gi_ne (by omega), b70]
          exact hS
        obtain ⟨A1, B1, p1, p2, p3, p4⟩ := Pw.stat hs zG zm hr23 xi.1 ND NS A B l (by omega)
        obtain ⟨μ', A', B', l', r1, r2, r3, r4, r5, r6⟩ := ih (i + 1) (gi G 0 (y 5 (r i))) A1 B1 (l + stz ln u0 u1 u2) (by omega) (fun i' hi' hch => by
          by_cases w : i' = i
          · rw [w]; exact Int32.le_refl _
          · rw [(hp7 i' (by omega)).1, (hp7 i hin).1]
            have := hp8 i' i (by omega) hin
            exact nI_le (by omega) (by have := (hp7 i hin).2.2; omega)) (by omega) (by omega)
        refine ⟨μ', A', B', l', by omega, r2, fun q hq => ⟨(r3 q (by omega)).1.trans (p1 q hq).1, (r3 q (by omega)).2.trans (p1 q hq).2⟩, fun q w1 w2 => ?_, fun K hK => ?_, fun K hK => ?_⟩
        · by_cases w : q < l + stz ln u0 u1 u2
          · obtain ⟨v, d1, d2, d3⟩ := p2 q w1 w
            exact ⟨v, d1, (r3 q w).1.trans d2, (r3 q w).2.trans d3⟩
          · exact r4 q (by omega) w2
        · obtain ⟨q, hq⟩ := r5 K hK
          refine ⟨q + 1, cst K q (iF (fun w => w el.1) (iF el.2 (csz _ ?_)))⟩
          rw [nI_add]
          refine iT (nI_le fit (by omega)) ⟨y 9 0, zX.1.2.2.2.2.1, hs.k 9 0, p3 _ (fun v9 e9 G10 e10 v11 e11 => ?_)⟩
          have g0 : gi (cP y (si G 54 (y 14 k) μ) A1 (l + stz ln u0 u1 u2)) 0 (y 5 (r i)) = gi G 0 (y 5 (r i)) := by rw [cP_i (by omega), gi_ne (by omega)]
          rw [g0, cP_54] at e10
          rw [nI_1] at e11
          rw [show l + stz ln u0 u1 u2 - 11 = l - 11 + stz ln u0 u1 u2 by omega] at hq
          subst e9 e10 e11
          exact hq
        · obtain ⟨q, hq⟩ := r6 K hK
          refine ⟨q + 1, fun bb hbb => ?_⟩
          rw [bb1 bb hbb]
          refine iF (nI_pos (by omega)) ⟨hs.k 1 0, msz _ ?_⟩
          rw [e97, show (11 : Int32) = nI 11 from rfl, pk_sub (by omega), nI_add]
          refine iF (nI_nlt fit (by omega)) (p4 _ ?_)
          have zM1 : FZ y (mP y (ais m (y 30 93) k μ) B1 (l + stz ln u0 u1 u2)) := hm.to hs (sZ.of (fun _ _ => rfl) (fun _ => rfl))
          have a71 : ai (mP y (ais m (y 30 93) k μ) B1 (l + stz ln u0 u1 u2)) (y 30 70) = ai m (y 30 70) := by rw [cP_70 hs]; exact b70
          refine M_at (c := 1) hs zM1 xi.1 (by omega) ⟨y 30 93, zM1.m 93, hs.k 30 93, by rw [hs.n 30 93]; exact vp_lt (N := 12) hk, fun G5 e5 => ?_⟩
          rw [cl, a71, xi.2.2.2.1, mP_93 hs] at e5
          subst e5
          have zM2 : FZ y (mP y (ais m (y 30 93) k (gi G 0 (y 5 (r i)))) B1 (l + stz ln u0 u1 u2)) := hm.to hs (sZ.of (fun _ _ => rfl) (fun _ => rfl))
          refine ⟨y 30 93, zM2.m 93, hs.k 30 93, by rw [hs.n 30 93]; exact vp_lt (N := 12) hk, ?_⟩
          have a93 : ai (mP y (ais m (y 30 93) k (gi G 0 (y 5 (r i)))) B1 (l + stz ln u0 u1 u2)) (y 30 93) k = gi G 0 (y 5 (r i)) := by rw [mP_a (hs.ne (by omega)), ai_at]
          have a72 : ai (mP y (ais m (y 30 93) k (gi G 0 (y 5 (r i)))) B1 (l + stz ln u0 u1 u2)) (y 30 70) = ai m (y 30 70) := by rw [cP_70 hs]; exact ai_nb (hs.ne (by omega))
          rw [cl, a93]
          refine M_entry (p := fun q => (ai m (y 30 70) (83 * q + 1)).toNatClampNeg) hs zM2 xj.1 (fun q hq' hit => ?_) (fun bb b1 b2 => hq bb ⟨?_, ?_⟩)
          · rw [a72] at hit ⊢
            by_cases w : q = 0
            · subst w
              exfalso
              have e8 := hit.2.1
              have t8 : ai m (y 30 70) 8 = -1 := hTr.2.2.2.2.2.2.2.2.2.2.2.2.1.2.1
              rw [show 83 * 0 + 8 = 8 from rfl, t8, xj.2.2.2.1] at e8
              obtain ⟨pj, hpj, ej, -⟩ := hTr.pth hj
              rw [ej] at e8
              exact absurd (show nI pj < 0 by rw [← e8]; decide) (nI_pos (by omega))
            · obtain ⟨i', hi', e', -, -⟩ := (hTr.hitI hnp hs hj (by omega) hq').mp hit
              have xi' := hTr.nd (hTr.in hi')
              have lt := (hp7 i' hi').2.2
              rw [← e', xi'.2.2.2.1, (hp7 i' hi').1, nI_clamp (by omega)]
              exact ⟨rfl, by omega⟩
          · rw [a72] at b1; exact b1
          · rw [a72] at b2; exact b2
      · refine ⟨μ, A, B, l, Nat.le_refl _, h2, fun _ _ => ⟨rfl, rfl⟩, fun q w1 w2 => by omega, fun K hK => ⟨1, cst K 0 (iF (fun w => w el.1) (iF el.2 (csz _ ?_)))⟩, fun K hK => ⟨1, fun bb hbb => ?_⟩⟩
        · rw [nI_add]
          exact iF (nI_ge (by omega) (by omega)) hK
        · rw [bb1 bb hbb]
          refine iF (nI_pos (by omega)) ⟨hs.k 1 0, msz _ ?_⟩
          rw [e97, show (11 : Int32) = nI 11 from rfl, pk_sub (by omega), nI_add]
          exact iT (nI_lt (by omega) (by omega)) hK
    · obtain ⟨μ', A', B', l', r1, r2, r3, r4, r5, r6⟩ := ih (i + 1) μ A B l (by omega) (fun i' hi' hch => by
        by_cases w : i' = i
        · rw [w]; rw [w] at hch
          exact Classical.byContradiction fun q => el ⟨hch, q⟩
        · exact hc i' (by omega) hch) h1 h2
      refine ⟨μ', A', B', l', r1, r2, r3, r4, fun K hK => ?_, r6⟩
      obtain ⟨q, hq⟩ := r5 K hK
      refine ⟨q + 1, cst K q ?_⟩
      have nx : ∀ v4 : Int32, v4 = nI i + 1 → w_S_readEntries_45 t (y 0 0) K q (y 14 k) o (nI L8) (nI (l - 11)) v4 (cP y (si G 54 (y 14 k) μ) A l) := fun v4 e4 => by rw [nI_1] at e4; subst e4; exact hq
      by_cases w : gr G 7 (y 5 (r i)) = some (y 5 j)
      · exact iF (fun q => q w) (iT (Classical.byContradiction fun q => el ⟨w, q⟩) nx)
      · exact iT w nx
end LSL
section LSH
variable {t : TY} {y : LYT} {b c z k j u : Nat} {f : Nat → Nat} {G m : GS} {n np : Nat} {r s : Nat → Nat}
/-- a fid's marks change in both -/
theorem fid_marks (h : InvZ t y b G m n r s np) (hk : k < 12) (h51 : ¬ gi G 51 (y 14 k) = -1) {μ : Int32} {o : Int64} : FuR y (sl (si G 54 (y 14 k) μ) 53 (y 14 k) o) (als (ais m (y 30 93) k μ) (y 30 92) k o) k ∧ FdR t y (sl (si G 54 (y 14 k) μ) 53 (y 14 k) o) (als (ais m (y 30 93) k μ) (y 30 92) k o) n r np k := by
  obtain ⟨hs, -, -, -, -, hU, hT, hF, -⟩ := h
  obtain ⟨u1, u2, u3⟩ := hU k hk
  have c : ∀ g a, g ≠ 54 → gi (sl (si G 54 (y 14 k) μ) 53 (y 14 k) o) g a = gi G g a := fun g a q => gi_ne q
  have c54 : gi (sl (si G 54 (y 14 k) μ) 53 (y 14 k) o) 54 (y 14 k) = μ := gi_at
  have c53 : gl (sl (si G 54 (y 14 k) μ) 53 (y 14 k) o) 53 (y 14 k) = o := gl_at
  have c47 : gl (sl (si G 54 (y 14 k) μ) 53 (y 14 k) o) 47 (y 14 k) = gl G 47 (y 14 k) := gl_ne (by omega)
  have M : ∀ g, yV 30 g = true → g ≠ 93 → ai (als (ais m (y 30 93) k μ) (y 30 92) k o) (y 30 g) k = ai m (y 30 g) k := fun g hv q => ai_na (hs.ne (by omega) hv rfl)
  have m93 : ai (als (ais m (y 30 93) k μ) (y 30 92) k o) (y 30 93) k = μ := ai_at
  have m92 : al (als (ais m (y 30 93) k μ) (y 30 92) k o) (y 30 92) k = o := al_at
  have m87 : al (als (ais m (y 30 93) k μ) (y 30 92) k o) (y 30 87) k = al m (y 30 87) k := congrFun (al_nb (hs.ne (by omega))) k
  refine ⟨⟨by rw [c _ _ (by omega)]; exact u1, by rw [M 86 rfl (by omega), c _ _ (by omega)]; exact u2, by rw [c _ _ (by omega), c _ _ (by omega)]; exact u3⟩, fun w => ?_⟩
  rw [c _ _ (by omega)] at w
  obtain ⟨v, p, j, u, a1, a2, a3, a4, a5, a6, a7, a8, a9, a10, a11, a12, a13, a14, a15, a16, a17, a18, a19, a20⟩ := hF k hk w
  refine ⟨v, p, j, u, a1, by rw [c47]; exact a2, by rw [m87]; exact a3, a4, a5, by rw [c _ _ (by omega)]; exact a6, by rw [M 88 rfl (by omega)]; exact a7, a8, by rw [c _ _ (by omega)]; exact a9, fun j' hj' => by rw [c _ _ (by omega)]; exact a10 j' hj', a11, a12, by rw [M 89 rfl (by omega)]; exact a13, by rw [M 90 rfl (by omega), c _ _ (by omega)]; exact a14, by rw [c _ _ (by omega), c _ _ (by omega), c _ _ (by omega)]; exact a15, by rw [c _ _ (by omega)]; exact a16, by rw [M 91 rfl (by omega), c _ _ (by omega)]; exact a17, by rw [m92, c53], by rw [m93, c54], fun q => ?_⟩
  rw [c _ _ (by omega)] at q
  exact absurd q h51
theorem h_entries (Q : FP t y b c z f G m n r s np k j u) (hn : gi G 2 (y 5 j) < 0) (h51 : ¬ gi G 51 (y 14 k) = -1) {l8 : Nat} (hl8 : l8 ≤ 117) : HR t y b c G m (fun K => w_S_readEntries t G (y 0 0) (y 14 k) (lN (nm f 11 8)) (nI l8) (fun X x => K X x)) (fun K => w_M_read_89 t (y 1 0) (fun X => K X) (nI k) (nI (s j)) (lN (nm f 11 8)) (nI l8) m) := by
  obtain ⟨P, hZ, hk, hus, hj, hu, g48, g50, h99, f90, f51⟩ := id Q
  have hs := P.s
  have hz := P.g
  have hm := P.hm
  have hnp := Q.np31
  have hTr := Q.tr
  have x := hTr.nd hj
  have hvk : yV 14 k = true := by simp [yV, hk]
  have cl : (nI k).toNatClampNeg = k := nI_clamp (by omega)
  have f3 : ai m (y 30 70) (83 * s j + 3) = gi G 2 (y 5 j) := x.2.2.2.2.2.1
  obtain ⟨pp, hp7, hp8⟩ := hTr.2.2.2.2.2.2.1
  obtain ⟨v0, p0, j0, u0, -, -, -, -, -, -, -, -, -, -, -, -, -, -, -, -, -, f92, f93, -⟩ := hZ.2.2.2.2.2.2.2.1 k hk hus
  obtain ⟨O, eO⟩ : ∃ O, O = lN (nm f 11 8) := ⟨_, rfl⟩
  rw [← eO]
  obtain ⟨B0, eB0⟩ : ∃ B, B = pB nI (ai m (y 30 96)) 7 0 4 := ⟨_, rfl⟩
  -- the reference up to its look at the offset
  have mst : ∀ K : GS → Prop, (if O = (0 : Int64) then (w_M_read_132 t (y 1 0) (fun X => K X) (nI k) (nI (s j)) O (nI l8) (mP y m B0 11)) else (if O = gl G 53 (y 14 k) then (w_M_read_132 t (y 1 0) (fun X => K X) (nI k) (nI (s j)) O (nI l8) (mP y m B0 11)) else (∀ G6, G6 = sl (mP y m B0 11) 98 (y 1 0) (127979076609647 : Int64) → w_M_read_218 t (y 1 0) (fun X => K X) G6))) → w_M_read_89 t (y 1 0) (fun X => K X) (nI k) (nI (s j)) O (nI l8) m := fun K hK => ⟨hs.k 1 0, by
    have := M_put (t := t) (m := m) (A := ai m (y 30 96)) (l := 7) (v := 0) (n := 4) hs hm (by omega) (by omega) (by omega) (K := fun G1 => w_M_isDirectory t G1 (y 1 0) (nI (s j)) (fun v2 => (if v2 = 0 then ((if O < (0 : Int64) then (w_M_read_218 t (y 1 0) (fun X => K X) G1) else (w_M_at t G1 (y 1 0) (nI (s j)) (18 : Int32) (fun v3 => (if v3.toInt64 ≤ O then (w_M_read_218 t (y 1 0) (fun X => K X) G1) else (∀ v4 : Int32, v4 = O.toInt32 → ∃ n, w_M_read_171 t (y 1 0) (fun X => K X) n (nI (s j)) O (nI l8) v4 G1)))))) else ((if O = (0 : Int64) then (w_M_read_132 t (y 1 0) (fun X => K X) (nI k) (nI (s j)) O (nI l8) G1) else (∃ a5, (gr G1 92 (y 1 0)) = some a5 ∧ tk t a5 = 53 ∧ vp_in (nI k) (tn t a5) ∧ (if O = (al G1 a5 (nI k).toNatClampNeg) then (w_M_read_132 t (y 1 0) (fun X => K X) (nI k) (nI (s j)) O (nI l8) G1) else (∀ G6, G6 = sl G1 98 (y 1 0) (127979076609647 : Int64) → w_M_read_218 t (y 1 0) (fun X => K X) G6)))))))) (M_isDir hs (mP_z hs hm) x.1 (by
        rw [cP_70 hs, f3, if_pos hn, ← eB0]
        refine iF (by decide) ?_
        by_cases q : O = 0
        · rw [if_pos q] at hK; exact iT q hK
        · rw [if_neg q] at hK
          refine iF q ⟨y 30 92, (mP_z hs hm).m 92, hs.k 30 92, by rw [hs.n 30 92]; exact vp_lt (N := 12) hk, ?_⟩
          have a92 : al (mP y m B0 11) (y 30 92) (nI k).toNatClampNeg = gl G 53 (y 14 k) := by rw [cl]; exact f92
          rw [a92]; exact hK))
    rw [mP_self P.lm] at this
    exact this⟩
  by_cases ok : O = 0 ∨ O = gl G 53 (y 14 k)
  · -- the mark to start from
    obtain ⟨μ0, hμ0, hμ1⟩ : ∃ μ0 : Int32, (O = 0 → μ0 = 0) ∧ (¬ O = 0 → μ0 = gi G 54 (y 14 k)) := by
      by_cases q : O = 0
      · exact ⟨0, fun _ => rfl, fun n => absurd q n⟩
      · exact ⟨_, fun n => absurd n q, fun _ => rfl⟩
    obtain ⟨A0, eA0⟩ : ∃ A, A = pB sb (ai G (y 22 0)) 7 0 4 := ⟨_, rfl⟩
    obtain ⟨μ', A', B', l', r1, r2, r3, r4, r5, r6⟩ := listL Q (o := O) (L8 := l8) hl8 n 0 μ0 A0 B0 11 (by omega) (fun i' hi' => by omega) (by omega) (by omega)
    have eO' : O + (nI (l' - 11)).toInt64 = O + (nI l').toInt64 - 11 := by
      rw [nI_l (by omega), nI_l (by omega), ← lN_sub (show 11 ≤ l' by omega), show (11 : Int64) = lN 11 from rfl, Int64.sub_eq_add_neg, Int64.sub_eq_add_neg, Int64.add_assoc]
    obtain ⟨w1, w2⟩ := fid_marks (k := k) hZ hk h51 (μ := μ') (o := O + (nI (l' - 11)).toInt64)
    have fc : fC y k G (sl (si G 54 (y 14 k) μ') 53 (y 14 k) (O + (nI (l' - 11)).toInt64)) := (fC.rf.si (f := 54)).sl (f := 53)
    have fm : fM y k m (als (ais m (y 30 93) k μ') (y 30 92) k (O + (nI (l' - 11)).toInt64)) := (fM.rf.ais (f := 93)).als (f := 92)
    have J := (hZ.fid hk fc fm w1 w2).of
    obtain ⟨G', eG'⟩ : ∃ X, X = sl (aw (cP y (si G 54 (y 14 k) μ') A' l') (y 22 0) (pB sb A' 7 (l' - 11) 4)) 53 (y 14 k) (O + (nI (l' - 11)).toInt64) := ⟨_, rfl⟩
    obtain ⟨m', em'⟩ : ∃ X, X = mP y (als (ais m (y 30 93) k μ') (y 30 92) k (O + (nI (l' - 11)).toInt64)) (pB nI B' 7 (l' - 11) 4) l' := ⟨_, rfl⟩
    have xc : xC y (sl (si G 54 (y 14 k) μ') 53 (y 14 k) (O + (nI (l' - 11)).toInt64)) G' := by rw [eG']; exact xC_sl ((xC.rf.cP).aw (k := 22))
    have xm : xM y (als (ais m (y 30 93) k μ') (y 30 92) k (O + (nI (l' - 11)).toInt64)) m' := by rw [em']; exact xM.rf.mP
    have bts : ai G' (y 22 0) = pB sb A' 7 (l' - 11) 4 := by rw [eG']; exact aw_at
    have gG : ∀ g a, g ≠ 45 → g ≠ 54 → gi G' g a = gi G g a := fun g a q1 q2 => by
      rw [eG']
      show gi (cP y (si G 54 (y 14 k) μ') A' l') g a = _
      rw [cP_i q1, gi_ne q2]
    have zX : FZ y (cP y (si G 54 (y 14 k) μ') A' l') := hz.to hs (sZ.of (fun _ _ => rfl) (fun _ => rfl))
    -- the class
    have c144 : ∀ K : GS → Option Nat → Prop, K G' (some (tks t 2)) → w_S_readEntries_144 t (y 0 0) K (y 14 k) O (nI (l' - 11)) (cP y (si G 54 (y 14 k) μ') A' l') := fun K hK => by
      refine ⟨hs.k 0 0, y 9 0, zX.1.2.2.2.2.1, hs.k 9 0, ?_⟩
      rw [nI_l (n := l' - 11) (by omega)]
      refine S_set (p := 7) (n := 4) hs zX (by omega) (by omega) (by omega) ⟨hs.k 14 k hvk, fun G3 e3 => ?_⟩
      rw [cP_A, ← nI_l (n := l' - 11) (by omega), ← eG'] at e3
      subst e3; exact hK
    have c30 : ∀ (X : GS), X = si G 54 (y 14 k) μ0 → ∀ K : GS → Option Nat → Prop, K G' (some (tks t 2)) → w_S_readEntries_30 t (y 0 0) K (y 14 k) O (nI l8) X := fun X eX K hK => by
      have zX0 : FZ y X := by rw [eX]; exact hz.to hs (sZ.of (fun _ _ => rfl) (fun _ => rfl))
      have e45 : gi X 45 (y 9 0) = nI 7 := by rw [eX, gi_ne (by omega)]; exact P.lc
      refine ⟨hs.k 0 0, y 9 0, zX0.1.2.2.2.2.1, hs.k 9 0, ?_⟩
      have := S_put (t := t) (G := X) (A := ai X (y 22 0)) (l := 7) (v := 0) (n := 4) hs zX0 (by omega) (by omega) (by omega) (K := fun G2 => ∃ n, w_S_readEntries_45 t (y 0 0) K n (y 14 k) O (nI l8) (0 : Int32) (0 : Int32) G2) (by
        have := r5 K (c144 K hK)
        rw [eA0] at this
        rw [eX]
        exact this)
      rw [cP_self e45] at this
      exact this
    have cls : ∀ K : GS → Option Nat → Prop, K G' (some (tks t 2)) → w_S_readEntries t G (y 0 0) (y 14 k) O (nI l8) (fun X x => K X x) := fun K hK => by
      by_cases q : O = 0
      · exact iT q (iF (fun w => w q) ⟨hs.k 14 k hvk, fun G1 e1 => c30 G1 (by rw [e1, hμ0 q]) K hK⟩)
      · have q2 : O = gl G 53 (y 14 k) := by rcases ok with w | w; exact absurd w q; exact w
        refine iF q ⟨hs.k 14 k hvk, iT q2 (iT q (c30 G ?_ K hK))⟩
        rw [hμ1 q, si_self]
    -- the reference
    have m85 : ∀ K : GS → Prop, K m' → w_M_list_85 t (y 1 0) (fun G1 => w_M_read_218 t (y 1 0) (fun X => K X) G1) (nI k) O (mP y (ais m (y 30 93) k μ') B' l') := fun K hK => by
      have zM : FZ y (mP y (ais m (y 30 93) k μ') B' l') := hm.to hs (sZ.of (fun _ _ => rfl) (fun _ => rfl))
      refine ⟨hs.k 1 0, y 30 92, zM.m 92, hs.k 30 92, by rw [hs.n 30 92]; exact vp_lt (N := 12) hk, fun G2 e2 => ?_⟩
      rw [cl, mP_l, ← eO'] at e2
      have e2 : G2 = mP y (als (ais m (y 30 93) k μ') (y 30 92) k (O + (nI (l' - 11)).toInt64)) B' l' := e2
      rw [e2]
      refine M_218 hs ?_ (by omega) (by omega) (by rw [← em']; exact hK)
      exact hm.to hs (sZ.of (fun _ _ => rfl) (fun _ => rfl))
    have m13 : ∀ (Y : GS), Y = mP y (ais m (y 30 93) k μ0) B0 11 → ∀ K : GS → Prop, K m' → w_M_list_13 t (y 1 0) (fun G1 => w_M_read_218 t (y 1 0) (fun X => K X) G1) (nI k) (nI (s j)) O (nI l8) Y := fun Y eY K hK => by
      have zY : FZ y Y := by rw [eY]; exact hm.to hs (sZ.of (fun _ _ => rfl) (fun _ => rfl))
      have a93 : ai Y (y 30 93) k = μ0 := by rw [eY, mP_a (hs.ne (by omega)), ai_at]
      have a70 : ai Y (y 30 70) = ai m (y 30 70) := by rw [eY, cP_70 hs]; exact ai_nb (hs.ne (by omega))
      refine ⟨hs.k 1 0, y 30 93, zY.m 93, hs.k 30 93, by rw [hs.n 30 93]; exact vp_lt (N := 12) hk, ?_⟩
      rw [cl, a93]
      obtain ⟨q, hq⟩ := r6 _ (m85 K hK)
      refine M_entry (p := fun q => (ai m (y 30 70) (83 * q + 1)).toNatClampNeg) hs zY x.1 (fun q hq' hit => ?_) (fun bb b1 b2 => ⟨q, ?_⟩)
      · rw [a70] at hit ⊢
        by_cases w : q = 0
        · subst w
          exfalso
          have e8 := hit.2.1
          have t8 : ai m (y 30 70) 8 = -1 := hTr.2.2.2.2.2.2.2.2.2.2.2.2.1.2.1
          rw [show 83 * 0 + 8 = 8 from rfl, t8, x.2.2.2.1] at e8
          obtain ⟨pj, hpj, ej, -⟩ := hTr.pth hj
          rw [ej] at e8
          exact absurd (show nI pj < 0 by rw [← e8]; decide) (nI_pos (by omega))
        · obtain ⟨i', hi', e', -, -⟩ := (hTr.hitI hnp hs hj (by omega) hq').mp hit
          have xi' := hTr.nd (hTr.in hi')
          have lt := (hp7 i' hi').2.2
          rw [← e', xi'.2.2.2.1, (hp7 i' hi').1, nI_clamp (by omega)]
          exact ⟨rfl, by omega⟩
      · rw [a70] at b1 b2
        have := hq bb ⟨b1, b2⟩
        rw [← eY] at this
        exact this
    have self93 : ais m (y 30 93) k (ai m (y 30 93) k) = m := by
      show (m.1, m.2.1, m.2.2.1, _, m.2.2.2.2) = m
      have : (fun p q => if p = y 30 93 ∧ q = k then ai m (y 30 93) k else ai m p q) = ai m := by
        funext p q
        by_cases w : p = y 30 93 ∧ q = k
        · rw [if_pos w, w.1, w.2]
        · rw [if_neg w]
      have e : (m.1, m.2.1, m.2.2.1, (fun p q => if p = y 30 93 ∧ q = k then ai m (y 30 93) k else ai m p q), m.2.2.2.2) = m := by rw [this]; rfl
      exact e
    have m132 : ∀ K : GS → Prop, K m' → w_M_read_132 t (y 1 0) (fun X => K X) (nI k) (nI (s j)) O (nI l8) (mP y m B0 11) := fun K hK => by
      refine ⟨hs.k 1 0, ?_⟩
      by_cases q : O = 0
      · refine iF (fun w => w q) ⟨hs.k 1 0, y 30 93, (mP_z hs hm).m 93, hs.k 30 93, by rw [hs.n 30 93]; exact vp_lt (N := 12) hk, fun G2 e2 => m13 G2 ?_ K hK⟩
        rw [e2, cl, hμ0 q]
        unfold mP
        show si (ais (aw m (y 30 96) B0) (y 30 93) k 0) 97 (y 1 0) (nI 11) = _
        rw [ais_aw (hs.ne (by omega))]
      · refine iT q (m13 _ ?_ K hK)
        rw [hμ1 q, ← f93, self93]
    refine ⟨G', m', 2, by omega, J.x xc xm, fc.e.tr (xc.eS hs), cls, fun K hK => mst K ?_, fun _ => ⟨fun q h1 h2 => ?_, ?_, ?_, gG 56 _ (by omega) (by omega), p58 (gG 58 _ (by omega) (by omega)) (gG 61 _ (by omega) (by omega)), fun _ => ⟨l', by omega, by omega, ?_, by rw [em']; exact mP_l, fun q h1 h2 => ?_⟩⟩⟩
    · by_cases q : O = 0
      · rw [if_pos q]; exact m132 K hK
      · have q2 : O = gl G 53 (y 14 k) := by rcases ok with w | w; exact absurd w q; exact w
        rw [if_neg q, if_pos q2]; exact m132 K hK
    · rw [bts]
      refine (if_neg (by omega)).trans ((r3 q (by omega)).1.trans ?_)
      rw [eA0]; exact if_neg (by omega)
    · rw [em', mP_a (hs.ne (by omega))]; exact ai_nb (hs.ne (by omega))
    · rw [em', er2]; exact P.e
    · rw [eG']; exact cP_l
    · rw [bts, em', mP_A]
      by_cases q11 : q < 11
      · exact ⟨(l' - 11) / 256 ^ (q - 7) % 256, Nat.mod_lt _ (by omega), if_pos (by omega), if_pos (by omega)⟩
      · obtain ⟨v, b1, b2, b3⟩ := r4 q (by omega) h2
        exact ⟨v, b1, (if_neg (by omega)).trans b2, (if_neg (by omega)).trans b3⟩
  · have n1 : ¬ O = 0 := fun w => ok (Or.inl w)
    have n2 : ¬ O = gl G 53 (y 14 k) := fun w => ok (Or.inr w)
    refine HR.err P (j := 24) (by omega) (by omega) (G1 := G) (m1 := mP y (sl m 98 (y 1 0) (lN (er 24))) (pB nI B0 7 (11 - 11) 4) 11) xC.rf (fun _ _ _ => rfl) ((xM.rf.sl (f := 98)).mP) (mP_a (hs.ne (by omega))) gl_at (fun K hK => iF n1 ⟨hs.k 14 k hvk, iF n2 hK⟩) (fun K hK => mst K ?_)
    rw [if_neg n1, if_neg n2]
    intro G6 e6
    have e24 : lN (er 24) = 127979076609647 := by decide +kernel
    have e6 : G6 = mP y (sl m 98 (y 1 0) (lN (er 24))) B0 11 := by rw [e6, e24]; rfl
    rw [e6]
    refine M_218 hs ?_ (by omega) (by omega) hK
    exact hm.to hs (sZ.of (fun _ _ => rfl) (fun _ => rfl))
theorem h_read (Q : FP t y b c z f G m n r s np k j u) (h4 : f 4 = 116) : HR t y b c G m (fun K => w_S_read t G (y 0 0) (y 14 k) (gi G 59 (y 10 c)) (fun X x => K X x)) (fun K => w_M_read t m (y 1 0) (nI c) (nI k) (nI (s j)) (fun X => K X)) := by
  obtain ⟨P, hZ, hk, hus, hj, hu, g48, g50, h99, f90, f51⟩ := id Q
  have hs := P.s
  have hz := P.g
  have hm := P.hm
  have hTr := Q.tr
  have x := hTr.nd hj
  have hj20 := hTr.le hj
  have hvj : yV 5 j = true := by simp [yV]; omega
  have hvk : yV 14 k = true := by simp [yV, hk]
  have z23 := (wf116 h4).mp P.w
  have cl : (nI k).toNatClampNeg = k := nI_clamp (by omega)
  have n32 : nm f 19 4 < 2 ^ 32 := nm_lt P.hf.2.2.1
  obtain ⟨i0, o0, ms, -, -, -, -, ms1, ms2, -, -, -, -, -, -, -, -, e59, e83, -⟩ := hZ.2.2.2.2.1 c P.hc
  have l117 : rdN (nm f 19 4) ms ≤ 117 := by unfold rdN; split <;> omega
  have mst : ∀ K : GS → Prop, w_M_read_50 t (y 1 0) (fun X => K X) (nI k) (nI (s j)) (lN (nm f 11 8)) (nI (rdN (nm f 19 4) ms)) m → w_M_read t m (y 1 0) (nI c) (nI k) (nI (s j)) (fun X => K X) := fun K hK => by
    refine ⟨hs.k 1 0, P.get (p := 11) (n := 8) (by omega) (by omega) (P.get (p := 19) (n := 4) (by omega) (by omega) ⟨y 30 83, hm.m 83, hs.k 30 83, by rw [hs.n 30 83]; exact vp_lt (N := 2) P.hc, ?_⟩)⟩
    rw [nI_clamp (by have := P.hc; omega), e83, show (11 : Int32) = nI 11 from rfl, pk_sub (by omega), nI_l (n := ms - 11) (by omega)]
    unfold rdN at hK
    by_cases q : ms - 11 ≤ nm f 19 4
    · rw [if_pos q] at hK
      exact iT ((pk_lLE (by omega) (by omega)).mpr q) hK
    · rw [if_neg q] at hK
      refine iF (fun w => q ((pk_lLE (by omega) (by omega)).mp w)) ?_
      rw [lN_i]; exact hK
  have m50 : ∀ K : GS → Prop, (if (gi G 51 (y 14 k)) = 0 then (w_M_read_89 t (y 1 0) (fun X => K X) (nI k) (nI (s j)) (lN (nm f 11 8)) (nI (rdN (nm f 19 4) ms)) m) else ((if (gi G 51 (y 14 k)) = (2 : Int32) then (w_M_read_89 t (y 1 0) (fun X => K X) (nI k) (nI (s j)) (lN (nm f 11 8)) (nI (rdN (nm f 19 4) ms)) m) else ((if (gi G 51 (y 14 k)) = (3 : Int32) then (w_M_read_89 t (y 1 0) (fun X => K X) (nI k) (nI (s j)) (lN (nm f 11 8)) (nI (rdN (nm f 19 4) ms)) m) else (∀ G2, G2 = sl m 98 (y 1 0) (1852141679 : Int64) → K G2)))))) → w_M_read t m (y 1 0) (nI c) (nI k) (nI (s j)) (fun X => K X) := fun K hK => mst K ⟨hs.k 1 0, y 30 90, hm.m 90, hs.k 30 90, by rw [hs.n 30 90]; exact vp_lt (N := 12) hk, by rw [cl, f90]; exact hK⟩
  by_cases bad : gi G 51 (y 14 k) = -1 ∨ gi G 51 (y 14 k) = 1
  · refine HR.er0 P (j := 13) (by omega) (by omega) (fun K hK => ⟨hs.k 14 k hvk, ?_⟩) (fun K hK => m50 K ?_)
    · rcases bad with w | w
      · exact iT w hK
      · exact iF (by rw [w]; decide) (iF (fun q => q w) hK)
    · have e : ∀ X, X = sl m 98 (y 1 0) (1852141679 : Int64) → K X := M_err (v := lN (er 13)) (by decide +kernel) hK
      rcases bad with w | w
      · rw [w]; exact iF (by decide) (iF (by decide) (iF (by decide) e))
      · rw [w]; exact iF (by decide) (iF (by decide) (iF (by decide) e))
  · have n1 : ¬ gi G 51 (y 14 k) = -1 := fun w => bad (Or.inl w)
    have n2 : ¬ gi G 51 (y 14 k) = 1 := fun w => bad (Or.inr w)
    have main : HR t y b c G m (fun K => w_Node_isDirectory t G (y 5 j) (fun v6 => (if v6 = 0 then (w_S_readContent t G (y 0 0) (y 5 j) (lN (nm f 11 8)) (nI (rdN (nm f 19 4) ms)) (fun G7 => K G7 (some (tks t 2)))) else (w_S_readEntries t G (y 0 0) (y 14 k) (lN (nm f 11 8)) (nI (rdN (nm f 19 4) ms)) (fun G8 x9 => K G8 x9))))) (fun K => w_M_read_89 t (y 1 0) (fun X => K X) (nI k) (nI (s j)) (lN (nm f 11 8)) (nI (rdN (nm f 19 4) ms)) m) := by
      by_cases dd : gi G 2 (y 5 j) < 0
      · exact (h_entries Q dd n1 l117).mono (fun K hK => S_isDirectory hs (by omega) (by rw [if_pos dd]; exact iF (by decide) hK)) (fun K hK => hK)
      · exact (h_content Q h4 dd l117).mono (fun K hK => S_isDirectory hs (by omega) (by rw [if_neg dd]; exact iT rfl hK)) (fun K hK => hK)
    refine main.mono (fun K hK => ⟨hs.k 14 k hvk, iF n1 (iT n2 ⟨hs.k 0 0, y 8 0, hz.1.2.2.2.1, hs.k 8 0, P.num (p := 11) (n := 8) (by omega) (by omega) (P.num (p := 19) (n := 4) (by omega) (by omega) (fun v4 e4 => ?_))⟩)⟩) (fun K hK => m50 K ?_)
    · rw [e59, rd_c n32 ms1 ms2] at e4
      subst e4
      exact ⟨y 5 j, g48, hs.k 5 j hvj, hK⟩
    · rcases f51 with w | ⟨o, ho, w, -⟩
      · exact absurd w n1
      · rcases (show o = 0 ∨ o = 1 ∨ o = 2 ∨ o = 3 by omega) with rfl | rfl | rfl | rfl
        · exact iT w hK
        · exact absurd w n2
        · rw [w]; exact iF (by decide) (iT rfl hK)
        · rw [w]; exact iF (by decide) (iF (by decide) (iT rfl hK))
end LSH
