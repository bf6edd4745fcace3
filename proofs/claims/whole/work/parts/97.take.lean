/-! take (by hand) -/
section TAE
variable {t : TY} {y : LYT} {b c n o z p : Nat} {f h : Nat → Nat} {G m : GS}
theorem nm_snoc : ∀ {n q : Nat}, nm h q (n + 1) = nm h q n + h (q + n) * 256 ^ n
  | 0, q => by show 0 * 256 + h q = 0 + h (q + 0) * 256 ^ 0; simp
  | n + 1, q => by
    have ih := @nm_snoc n (q + 1)
    show nm h (q + 1) (n + 1) * 256 + h q = nm h (q + 1) n * 256 + h q + h (q + (n + 1)) * 256 ^ (n + 1)
    rw [ih, show q + 1 + n = q + (n + 1) by omega, Nat.pow_succ, Nat.add_mul, Nat.mul_assoc]
    omega
theorem nm_lt' : ∀ {n q : Nat}, (∀ k, k < n → h (q + k) < 256) → nm h q n < 256 ^ n
  | 0, q, _ => by show 0 < 256 ^ 0; decide
  | n + 1, q, hh => by
    have ih := @nm_lt' n q (fun k hk => hh k (by omega))
    have h1 := hh n (by omega)
    rw [nm_snoc, Nat.pow_succ]
    have : h (q + n) * 256 ^ n ≤ 255 * 256 ^ n := Nat.mul_le_mul_right _ (by omega)
    omega
/-- output is taken -/
def toC (y : LYT) (G : GS) (c o p : Nat) : GS := si (aw G (y 12 c) (va_cpy (ai G (y 12 c)) (ai G (y 12 c)) p 0 (o - p))) 58 (y 10 c) (nI (o - p))
def toM (y : LYT) (m : GS) (c o p : Nat) (h : Nat → Nat) : GS := aw (ais m (y 30 82) c (nI (o - p))) (y 30 81) (fun k => if 256 * c ≤ k ∧ k < 256 * c + (o - p) then nI (h (p + (k - 256 * c))) else ai m (y 30 81) k)
theorem toC_c (hc : c < 2) : lC y G (toC y G c o p) := (lC.rf.aw (k := 12) (Or.inr rfl) hc).si (f := 58)
theorem toM_c : lM y m (toM y m c o p h) := (lM.rf.ais (f := 82)).aw (f := 81)
theorem S_taken (hs : SH t y) (hz : FZ y G) (hc : c < 2) (e58 : gi G 58 (y 10 c) = nI o) (ho : o ≤ 256) (hb : bC G (y 12 c) o h) (hp : p = if o < 8 then o else 8) {K : GS → Int64 → Prop} (k : K (toC y G c o p) (lN (nm h 0 p))) : w_Link_takeOutput t G (y 10 c) K := by
  have hv0 : yV 10 c = true := by simp [yV, hc]
  have hv1 : yV 12 c = true := by simp [yV, hc]
  have p8 : p ≤ 8 := by rw [hp]; split <;> omega
  have po : p ≤ o := by rw [hp]; split <;> omega
  refine ⟨hs.k 10 c hv0, fun v1 e1 => ?_⟩
  have e1 : v1 = nI p := by
    rw [e1, e58, hp]; unfold imin
    by_cases q : o < 8
    · have w : nI o < (8 : Int32) := nI_lt (b := 8) q (by decide)
      rw [if_pos w, if_pos q]
    · have w : ¬ nI o < (8 : Int32) := nI_nlt (b := 8) (by omega) (by omega)
      rw [if_neg w, if_neg q]; rfl
  rw [e1]
  refine pk_loop (fun q i (_ : Unit) => w_Link_takeOutput_15 t (y 10 c) K q (nI p) (lN (nm h 0 i)) (nI i) G) (fun _ _ => True) p 0 () (by omega) trivial (fun q _ _ => ?_) (fun q i _ hi _ ih => ?_)
  · refine iT (Int32.le_refl _) ⟨hs.k 10 c hv0, y 12 c, (hz.2.2.2.2.1 c hc).2.1, hs.k 12 c hv1, ?_, fun X eX Z eZ => ?_⟩
    · rw [e58, pk_sub po]
      refine ⟨nI_pos (by omega), by decide, nI_pos (by omega), ?_, ?_⟩
      · rw [hs.n 12 c hv1, nI_clamp (by omega), nI_clamp (by omega)]; show p + (o - p) ≤ 256; omega
      · rw [hs.n 12 c hv1, nI_clamp (by omega)]; show 0 + (o - p) ≤ 256; omega
    · have eX : X = aw G (y 12 c) (va_cpy (ai G (y 12 c)) (ai G (y 12 c)) p 0 (o - p)) := by
        rw [eX, e58, pk_sub po]; unfold acB
        rw [nI_clamp (by omega), nI_clamp (by omega)]; rfl
      have x58 : gi X 58 (y 10 c) = nI o := by rw [eX]; exact e58
      rw [x58, pk_sub po, eX] at eZ
      rw [eZ]; exact k
  · refine iF (nI_ge hi (by omega)) ⟨hs.k 10 c hv0, y 12 c, (hz.2.2.2.2.1 c hc).2.1, hs.k 12 c hv1, by rw [hs.n 12 c hv1]; exact vp_lt (N := 256) (by omega), fun v5 e5 v6 e6 => ?_⟩
    have hbi := hb i (by omega)
    have lt1 : nm h 0 i < 256 ^ i := nm_lt' (fun k hk => by rw [Nat.zero_add]; exact (hb k (by omega)).1)
    have lt2 : nm h 0 (i + 1) < 256 ^ (i + 1) := nm_lt' (fun k hk => by rw [Nat.zero_add]; exact (hb k (by omega)).1)
    have lt3 : 256 ^ (i + 1) ≤ 2 ^ 64 := p256 (by omega)
    have sn : nm h 0 (i + 1) = nm h 0 i + h i * 256 ^ i := by rw [nm_snoc, Nat.zero_add]
    rw [nI_clamp (by omega), hbi.2, sb_andl _ hbi.1, mul8, wb_shl _ (by omega), pw8, g_or' (pw8 i) lt1 (by rw [← sn]; omega), ← sn] at e5
    rw [nI_1] at e6
    rw [e5, e6]
    exact ih () trivial
theorem M_tk (hs : SH t y) (hm : FZ y m) (hc : c < 2) (e82 : ai m (y 30 82) c = nI o) (ho : o ≤ 256) (hb : bM m (y 30 81) (256 * c) o h) (p8 : p ≤ 8) (po : p ≤ o) {K : GS → Int64 → Prop} (k : w_M_serve t (toM y m c o p h) (y 1 0) (nI c) (fun G2 => K G2 (lN (nm h 0 p)))) : w_M_take_31 t (y 1 0) K (nI c) (nI p) m := by
  have n81 : y 30 81 ≠ y 30 82 := hs.ne (by omega)
  have e256 : ∀ i, (256 : Int32) * nI c + nI i = nI (256 * c + i) := fun i => by rw [show (256 : Int32) = nI 256 from rfl, pk_mul, nI_add]
  -- the rest moves down
  have rest : ∃ q, w_M_take_83 t (y 1 0) K q (nI c) (nI p) (lN (nm h 0 p)) (0 : Int32) (ais m (y 30 82) c (nI (o - p))) := by
    obtain ⟨X, eX⟩ : ∃ X, X = ais m (y 30 82) c (nI (o - p)) := ⟨_, rfl⟩
    have hX : FZ y X := by rw [eX]; exact hm.to hs (sZ.of (fun _ _ => rfl) (fun _ => rfl))
    have x81 : ai X (y 30 81) = ai m (y 30 81) := by rw [eX, ai_nb n81]
    have x82 : ai X (y 30 82) c = nI (o - p) := by rw [eX]; exact ai_at
    rw [← eX]
    have key := pk_loop (fun q i (_ : Unit) => w_M_take_83 t (y 1 0) K q (nI c) (nI p) (lN (nm h 0 p)) (nI i) (aw X (y 30 81) (fun k => if 256 * c ≤ k ∧ k < 256 * c + i then nI (h (p + (k - 256 * c))) else ai m (y 30 81) k))) (fun _ _ => True) (o - p) 0 () (by omega) trivial (fun q _ _ => ?_) (fun q i _ hi _ ih => ?_)
    · obtain ⟨q, hq⟩ := key
      refine ⟨q, ?_⟩
      have hq : w_M_take_83 t (y 1 0) K q (nI c) (nI p) (lN (nm h 0 p)) (nI 0) (aw X (y 30 81) (fun k => if 256 * c ≤ k ∧ k < 256 * c + 0 then nI (h (p + (k - 256 * c))) else ai m (y 30 81) k)) := hq
      have e0 : (fun k => if 256 * c ≤ k ∧ k < 256 * c + 0 then nI (h (p + (k - 256 * c))) else ai m (y 30 81) k) = ai X (y 30 81) := by rw [x81]; exact funext fun k => if_neg (by omega)
      rw [e0, aw_self] at hq
      exact hq
    · have hY : FZ y (aw X (y 30 81) (fun k => if 256 * c ≤ k ∧ k < 256 * c + (o - p) then nI (h (p + (k - 256 * c))) else ai m (y 30 81) k)) := hX.to hs (sZ.of (fun _ _ => rfl) (fun _ => rfl))
      refine ⟨hs.k 1 0, y 30 82, hY.m 82, hs.k 30 82, by rw [hs.n 30 82]; exact vp_lt (N := 2) hc, ?_⟩
      rw [aw_ne n81.symm, nI_clamp (by omega), x82]
      refine iT (Int32.le_refl _) ?_
      rw [eX]
      exact k
    · have hY : FZ y (aw X (y 30 81) (fun k => if 256 * c ≤ k ∧ k < 256 * c + i then nI (h (p + (k - 256 * c))) else ai m (y 30 81) k)) := hX.to hs (sZ.of (fun _ _ => rfl) (fun _ => rfl))
      refine ⟨hs.k 1 0, y 30 82, hY.m 82, hs.k 30 82, by rw [hs.n 30 82]; exact vp_lt (N := 2) hc, ?_⟩
      rw [aw_ne n81.symm, nI_clamp (by omega), x82, e256, e256, nI_add]
      refine iF (nI_ge hi (by omega)) ⟨y 30 81, hY.m 81, hs.k 30 81, by rw [hs.n 30 81]; exact vp_lt (N := 512) (by omega), by rw [hs.n 30 81]; exact vp_lt (N := 512) (by omega), fun Z eZ v6 e6 => ?_⟩
      rw [nI_clamp (by omega), nI_clamp (by omega), aw_at, aw_ais] at eZ
      rw [nI_1] at e6
      rw [e6, eZ]
      have e1 : (fun k => if k = 256 * c + i then (if 256 * c ≤ 256 * c + p + i ∧ 256 * c + p + i < 256 * c + i then nI (h (p + (256 * c + p + i - 256 * c))) else ai m (y 30 81) (256 * c + p + i)) else if 256 * c ≤ k ∧ k < 256 * c + i then nI (h (p + (k - 256 * c))) else ai m (y 30 81) k) = (fun k => if 256 * c ≤ k ∧ k < 256 * c + (i + 1) then nI (h (p + (k - 256 * c))) else ai m (y 30 81) k) := funext fun k => by
        by_cases q : k = 256 * c + i
        · rw [if_pos q, if_neg (by omega), if_pos (by omega), show 256 * c + p + i = 256 * c + (p + i) by omega, (hb (p + i) (by omega)).2, show p + (k - 256 * c) = p + i by omega]
        · rw [if_neg q]
          by_cases q2 : 256 * c ≤ k ∧ k < 256 * c + i
          · rw [if_pos q2, if_pos (by omega)]
          · rw [if_neg q2, if_neg (by omega)]
      have := ih () trivial
      rw [← e1] at this
      exact this
  intro v1 e1
  rw [e1]
  have key : ∀ i, i ≤ p → w_M_take_39 t (y 1 0) K (i + 1) (nI c) (nI p) (lN (nm h i (p - i))) (nI i - 1) m := fun i => by
    induction i with
    | zero =>
      intro _
      unfold w_M_take_39
      refine iT (show nI 0 - 1 < 0 by decide) ⟨hs.k 1 0, y 30 82, hm.m 82, hs.k 30 82, by rw [hs.n 30 82]; exact vp_lt (N := 2) hc, fun Z eZ => ?_⟩
      rw [nI_clamp (by omega), e82, pk_sub po] at eZ
      rw [eZ]
      exact rest
    | succ i ih =>
      intro hi
      have ih := ih (by omega)
      have e2 : nI i + (-1) = nI i - 1 := by
        cases i with
        | zero => decide
        | succ q => rw [pk_m1, nI_pred]
      have e3 : nm h i (p - i) = nm h (i + 1) (p - (i + 1)) * 256 + h i := by
        rw [show p - i = p - (i + 1) + 1 by omega]; rfl
      have hbi := hb i (by omega)
      have e4 : nm h (i + 1) (p - (i + 1)) * 256 + h i < 2 ^ 64 := by
        rw [← e3]
        exact Nat.lt_of_lt_of_le (nm_lt' (fun k hk => (hb _ (by omega)).1)) (p256 (by omega))
      rw [nI_pred]
      refine iF (nI_pos (by omega)) ⟨hs.k 1 0, y 30 81, hm.m 81, hs.k 30 81, by rw [hs.n 30 81, e256]; exact vp_lt (N := 512) (by omega), ?_⟩
      intro v4 e5 v5 e6
      rw [e256, nI_clamp (by omega), hbi.2, nI_l (by omega), sh8 hbi.1 e4, ← e3] at e5
      rw [e2] at e6
      rw [e5, e6]
      exact ih
  refine ⟨p + 1, ?_⟩
  have := key p (Nat.le_refl _)
  rw [Nat.sub_self] at this
  exact this
theorem InvY.tk (I : InvY t y b G m) (hc : c < 2) (lv : LkV y G m c n o z f h) (po : p ≤ o) : InvY t y b (toC y G c o p) (toM y m c o p h) := by
  have hs := I.1
  obtain ⟨q1, q2, q3, q4, q5, q6, q7, q8, q9, q10, q11, q12, q13, q14, q15, q16, q17, q18, q19, q20⟩ := lv
  have hv1 : yV 12 c = true := by simp [yV, hc]
  have n81 : y 30 81 ≠ y 30 82 := hs.ne (by omega)
  have y10 : ∀ q, q < 2 → q ≠ c → y 10 q ≠ y 10 c := fun q hq e w => e ((hs.2.1 10 q 10 c (by simp [yV, hq]) (by simp [yV, hc])).mp w).2
  have y12 : ∀ q, q < 2 → q ≠ c → y 12 q ≠ y 12 c := fun q hq e w => e ((hs.2.1 12 q 12 c (by simp [yV, hq]) (by simp [yV, hc])).mp w).2
  have g : ∀ g, g ≠ 58 → gi (toC y G c o p) g (y 10 c) = gi G g (y 10 c) := fun g h => gi_ne h
  have g19 : gi (toC y G c o p) 19 (y 3 0) = gi G 19 (y 3 0) := (toC_c hc).1 19 _ (by omega)
  have M : ∀ g, 79 ≤ g → g ≤ 85 → g ≠ 81 → g ≠ 82 → ai (toM y m c o p h) (y 30 g) = ai m (y 30 g) := fun g h1 h2 h3 h4 => by
    unfold toM
    rw [aw_ne (fun w => h3 ((hs.2.1 30 g 30 81 (yV30 (by omega)) rfl).mp w).2), ai_nb (fun w => h4 ((hs.2.1 30 g 30 82 (yV30 (by omega)) rfl).mp w).2)]
  have a12 : ai (toC y G c o p) (y 12 c) = va_cpy (ai G (y 12 c)) (ai G (y 12 c)) p 0 (o - p) := aw_at
  have a11 : ∀ q, q < 2 → ai (toC y G c o p) (y 11 q) = ai G (y 11 q) := fun q hq => aw_ne (hs.ne (by omega) (by simp [yV, hq]) hv1)
  have b81 : ai (toM y m c o p h) (y 30 81) = (fun k => if 256 * c ≤ k ∧ k < 256 * c + (o - p) then nI (h (p + (k - 256 * c))) else ai m (y 30 81) k) := aw_at
  have b82 : ai (toM y m c o p h) (y 30 82) c = nI (o - p) := by
    unfold toM
    rw [aw_ne n81.symm]; exact ai_at
  refine I.lk1 hc (toC_c hc) toM_c ⟨n, o - p, z, f, fun k => h (p + k), q1, by omega, q3, q4, by rw [g 56 (by omega)]; exact q5, by rw [M 80 (by omega) (by omega) (by omega) (by omega)]; exact q6, fun k hk => by rw [a11 c hc]; exact q7 k hk, fun k hk => by rw [M 79 (by omega) (by omega) (by omega) (by omega)]; exact q8 k hk, gi_at, b82, fun k hk => ?_, fun k hk => ?_, by rw [g 59 (by omega)]; exact q13, by rw [M 83 (by omega) (by omega) (by omega) (by omega)]; exact q14, by rw [g 60 (by omega)]; exact q15, by rw [M 84 (by omega) (by omega) (by omega) (by omega), g 60 (by omega)]; exact q16, by rw [g 61 (by omega)]; exact q17, by rw [M 85 (by omega) (by omega) (by omega) (by omega), g 61 (by omega)]; exact q18, fun e => by rw [g 61 (by omega)] at e; have := q19 e; exact ⟨this.1, by omega⟩, fun e => by rw [g19] at e; have := q20 e; exact ⟨this.1, by omega, by rw [g 61 (by omega)]; exact this.2.2⟩⟩ (fun q hq e => ⟨fun g h1 h2 => gi_na (y10 q hq e), a11 q hq, aw_ne (y12 q hq e), fun g h1 h2 h3 h4 => ?_, fun k hk => ?_, fun k hk => ?_⟩)
  · rw [a12, pk_cpy_in (by omega) (by omega), show p + (k - 0) = p + k by omega]
    exact q11 _ (by omega)
  · rw [b81]
    show h (p + k) < 256 ∧ (if _ then _ else _) = nI (h (p + k))
    rw [if_pos (by omega), show 256 * c + k - 256 * c = k by omega]
    exact ⟨(q11 _ (by omega)).1, rfl⟩
  · by_cases w : g = 82
    · rw [w]
      unfold toM
      rw [aw_ne n81.symm, ai_nj e]
    · rw [M g h1 h2 h4 w]
  · rw [M 79 (by omega) (by omega) (by omega) (by omega)]
  · rw [b81]
    show (if _ then _ else _) = _
    rw [if_neg (by omega)]
theorem o_take {S M : Nat} : Ob_take t S M (InvW t S M) := fun j G x hj ⟨y, h1, h2, I⟩ => by
  subst h1 h2
  have hs := I.1
  have hz := I.2.1
  have hup : InvW t (y 0 0) (y 1 0) (j + 5) G := ⟨y, rfl, rfl, I.up (by omega)⟩
  refine ⟨hs.k 0 0, ?_⟩
  rcases conn x with hx | ⟨c, hc, rfl⟩
  · exact S_linkNo hx (iF (by simp) (M_isNo hx (iF (by simp) ⟨rfl, hup⟩)))
  have hv0 : yV 10 c = true := by simp [yV, hc]
  have cl : (nI c).toNatClampNeg = c := nI_clamp (by omega)
  obtain ⟨n, o, z, f, h, lv⟩ := (I.2.2.2.2.1 c hc).v
  obtain ⟨q1, q2, q3, q4, q5, q6, q7, q8, q9, q10, q11, q12, q13, q14, q15, q16, q17, q18, q19, q20⟩ := id lv
  obtain ⟨p, hp⟩ : ∃ p, p = if o < 8 then o else 8 := ⟨_, rfl⟩
  have p8 : p ≤ 8 := by rw [hp]; split <;> omega
  have po : p ≤ o := by rw [hp]; split <;> omega
  refine S_linkOf hs hz hc (iT (by simp) ⟨y 10 c, rfl, hs.k 10 c hv0, S_taken hs hz hc q9 q2 q11 hp ?_⟩)
  have I2 : InvY t y (1 + 40 * j) (toC y G c o p) (toM y G c o p h) := I.tk hc lv po
  obtain ⟨G', m', J, es, rS, rM⟩ := h_serve (t := t) (y := y) hc I2 (by omega)
  refine rS _ ?_
  have run' : w_M_take t G (y 1 0) (nI c) (fun X r => X = m' ∧ r = lN (nm h 0 p)) := M_isC hc (iT (by decide) ⟨hs.k 1 0, y 30 82, hz.m 82, hs.k 30 82, by rw [hs.n 30 82]; exact vp_lt (N := 2) hc, by
    rw [cl, q10]
    have t31 := M_tk (K := fun X r => X = m' ∧ r = lN (nm h 0 p)) hs hz hc q10 q2 q12 p8 po (rM _ ⟨rfl, rfl⟩)
    by_cases w : o < 8
    · rw [if_pos w] at hp
      rw [hp] at t31
      refine iF (nI_ge (b := 8) w (by decide)) ?_
      rw [hp]; exact t31
    · rw [if_neg w] at hp
      rw [hp] at t31
      refine iT (nI_le (a := 8) (by omega) (by omega)) ?_
      rw [hp]; exact t31⟩)
  exact f_M_take ((((toC_c (o := o) (p := p) hc).e hs).tr es).eM hz) (fun A H r eA cH hA => by
    obtain ⟨e1, e2⟩ := hA
    subst e1
    exact ⟨e2.symm, y, rfl, rfl, (J.one eA cH).up (by omega)⟩) run'
end TAE
