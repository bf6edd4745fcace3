/-! feed (by hand) -/
section FEE
variable {t : TY} {y : LYT} {b c n o z w v : Nat} {f h : Nat → Nat} {G m : GS}
theorem h_serve (hc : c < 2) (I : InvY t y b G m) (hb : b + 22 < 2 ^ 20) : ∃ G' m', InvY t y (b + 22) G' m' ∧ eS y G G' ∧ (∀ K : GS → Prop, K G' → w_S_serve t G (y 0 0) (y 10 c) K) ∧ (∀ K : GS → Prop, K m' → w_M_serve t m (y 1 0) (nI c) K) := by
  obtain ⟨G', m', J, es, rS, rM⟩ := serveL (t := t) (y := y) hc 22 b 0 G m I (by omega) hb (fun n _ h => by omega)
  exact ⟨G', m', J, es, fun K hK => ⟨I.1.k 0 0, rS K _ (fun G1 h1 => ⟨23, h1⟩) hK⟩, fun K hK => ⟨23, rM K hK⟩⟩
/-- bytes are appended -/
def apC (y : LYT) (G : GS) (c n v w : Nat) : GS := si (aw G (y 11 c) (fun k => if n ≤ k ∧ k < n + w then sb (v / 256 ^ (k - n) % 256) else ai G (y 11 c) k)) 56 (y 10 c) (nI (n + w))
def apM (y : LYT) (m : GS) (c n v w : Nat) : GS := ais (aw m (y 30 79) (fun k => if 160 * c + n ≤ k ∧ k < 160 * c + n + w then nI (v / 256 ^ (k - (160 * c + n)) % 256) else ai m (y 30 79) k)) (y 30 80) c (nI (n + w))
theorem apC_c (hc : c < 2) : lC y G (apC y G c n v w) := (lC.rf.aw (k := 11) (Or.inl rfl) hc).si (f := 56)
theorem apM_c : lM y m (apM y m c n v w) := (lM.rf.aw (f := 79)).ais (f := 80)
theorem S_append (hs : SH t y) (hz : FZ y G) (hc : c < 2) (e56 : gi G 56 (y 10 c) = nI n) (hv : v < 2 ^ 64) (hw : w ≤ 8) (hn : n + w ≤ 160) {K : GS → Prop} (k : K (apC y G c n v w)) : w_Link_append t G (y 10 c) (lN v) (nI w) K := by
  have hv0 : yV 10 c = true := by simp [yV, hc]
  have hv1 : yV 11 c = true := by simp [yV, hc]
  have key := pk_loop (fun q i (_ : Unit) => w_Link_append_3 t (y 10 c) K q (lN v) (nI w) (nI i) (apC y G c n v i)) (fun _ _ => True) w 0 () (by omega) trivial (fun q _ _ => iT (Int32.le_refl _) k) (fun q i _ hi _ ih => ?_)
  · obtain ⟨q, hq⟩ := key
    refine ⟨q, ?_⟩
    have hq : w_Link_append_3 t (y 10 c) K q (lN v) (nI w) (nI 0) (apC y G c n v 0) := hq
    have e0 : apC y G c n v 0 = G := by
      unfold apC
      have : (fun k => if n ≤ k ∧ k < n + 0 then sb (v / 256 ^ (k - n) % 256) else ai G (y 11 c) k) = ai G (y 11 c) := funext fun k => if_neg (by omega)
      rw [this, aw_self, Nat.add_zero, ← e56, si_self]
    rw [e0] at hq
    exact hq
  · have zX : FZ y (apC y G c n v i) := hz.to hs (sZ.of (fun _ _ => rfl) (fun _ => rfl))
    have g56 : gi (apC y G c n v i) 56 (y 10 c) = nI (n + i) := gi_at
    refine iF (nI_ge hi (by omega)) ⟨hs.k 10 c hv0, ?_⟩
    rw [g56]
    refine iF (nI_ge (b := 160) (by omega) (by decide)) ⟨y 11 c, (zX.2.2.2.2.1 c hc).1, hs.k 11 c hv1, by rw [hs.n 11 c hv1]; exact vp_lt (N := 160) (by omega), fun X eX Z eZ v4 e4 => ?_⟩
    rw [nI_clamp (by omega), byC hv (by omega)] at eX
    have g56X : gi X 56 (y 10 c) = nI (n + i) := by rw [eX]; exact g56
    rw [g56X, nI_1] at eZ
    rw [nI_1] at e4
    have eZ : Z = apC y G c n v (i + 1) := by
      rw [eZ, eX]
      unfold apC
      show si (si (ais (aw G (y 11 c) _) (y 11 c) (n + i) (sb (v / 256 ^ i % 256))) 56 (y 10 c) (nI (n + i))) 56 (y 10 c) (nI (n + i + 1)) = _
      rw [si_si, aw_ais, show n + i + 1 = n + (i + 1) by omega]
      congr 2
      funext k
      by_cases q : k = n + i
      · rw [if_pos q, if_pos (by omega), show k - n = i by omega]
      · rw [if_neg q]
        by_cases q2 : n ≤ k ∧ k < n + i
        · rw [if_pos q2, if_pos (by omega)]
        · rw [if_neg q2, if_neg (by omega)]
    rw [eZ, e4]
    exact ih () trivial
theorem M_append (hs : SH t y) (hm : FZ y m) (hc : c < 2) (e80 : ai m (y 30 80) c = nI n) (hv : v < 2 ^ 64) (hw : w ≤ 8) (hn : n + w ≤ 160) {K : GS → Int32 → Prop} (k : w_M_serve t (apM y m c n v w) (y 1 0) (nI c) (fun G3 => K G3 1)) : ∃ q, w_M_feed_56 t (y 1 0) K q (nI c) (lN v) (nI w) (0 : Int32) m := by
  have n79 : y 30 79 ≠ y 30 80 := hs.ne (by omega)
  have e160 : ∀ i, (160 : Int32) * nI c + nI n + nI i = nI (160 * c + n + i) := fun i => by rw [show (160 : Int32) = nI 160 from rfl, pk_mul, nI_add, nI_add]
  have key := pk_loop (fun q i (_ : Unit) => w_M_feed_56 t (y 1 0) K q (nI c) (lN v) (nI w) (nI i) (aw m (y 30 79) (fun k => if 160 * c + n ≤ k ∧ k < 160 * c + n + i then nI (v / 256 ^ (k - (160 * c + n)) % 256) else ai m (y 30 79) k))) (fun _ _ => True) w 0 () (by omega) trivial (fun q _ _ => ?_) (fun q i _ hi _ ih => ?_)
  · obtain ⟨q, hq⟩ := key
    refine ⟨q, ?_⟩
    have hq : w_M_feed_56 t (y 1 0) K q (nI c) (lN v) (nI w) (nI 0) (aw m (y 30 79) (fun k => if 160 * c + n ≤ k ∧ k < 160 * c + n + 0 then nI (v / 256 ^ (k - (160 * c + n)) % 256) else ai m (y 30 79) k)) := hq
    have e0 : (fun k => if 160 * c + n ≤ k ∧ k < 160 * c + n + 0 then nI (v / 256 ^ (k - (160 * c + n)) % 256) else ai m (y 30 79) k) = ai m (y 30 79) := funext fun k => if_neg (by omega)
    rw [e0, aw_self] at hq
    exact hq
  · have hX : FZ y (aw m (y 30 79) (fun k => if 160 * c + n ≤ k ∧ k < 160 * c + n + w then nI (v / 256 ^ (k - (160 * c + n)) % 256) else ai m (y 30 79) k)) := hm.to hs (sZ.of (fun _ _ => rfl) (fun _ => rfl))
    refine iT (Int32.le_refl _) ⟨hs.k 1 0, y 30 80, hX.m 80, hs.k 30 80, by rw [hs.n 30 80]; exact vp_lt (N := 2) hc, fun Z eZ => ?_⟩
    rw [nI_clamp (by omega), aw_ne n79.symm, e80, nI_add] at eZ
    rw [eZ]
    exact k
  · have hX : FZ y (aw m (y 30 79) (fun k => if 160 * c + n ≤ k ∧ k < 160 * c + n + i then nI (v / 256 ^ (k - (160 * c + n)) % 256) else ai m (y 30 79) k)) := hm.to hs (sZ.of (fun _ _ => rfl) (fun _ => rfl))
    refine iF (nI_ge hi (by omega)) ⟨hs.k 1 0, y 30 80, hX.m 80, hs.k 30 80, by rw [hs.n 30 80]; exact vp_lt (N := 2) hc, y 30 79, hX.m 79, hs.k 30 79, ?_, fun Z eZ v7 e7 => ?_⟩
    · rw [nI_clamp (by omega), aw_ne n79.symm, e80, e160, hs.n 30 79]; exact vp_lt (N := 320) (by omega)
    · rw [nI_clamp (n := c) (by omega), aw_ne n79.symm, e80, e160, nI_clamp (by omega), byM hv (by omega), aw_ais] at eZ
      rw [nI_1] at e7
      rw [e7, eZ]
      have e1 : (fun k => if k = 160 * c + n + i then nI (v / 256 ^ i % 256) else if 160 * c + n ≤ k ∧ k < 160 * c + n + i then nI (v / 256 ^ (k - (160 * c + n)) % 256) else ai m (y 30 79) k) = (fun k => if 160 * c + n ≤ k ∧ k < 160 * c + n + (i + 1) then nI (v / 256 ^ (k - (160 * c + n)) % 256) else ai m (y 30 79) k) := funext fun k => by
        by_cases q : k = 160 * c + n + i
        · rw [if_pos q, if_pos (by omega), show k - (160 * c + n) = i by omega]
        · rw [if_neg q]
          by_cases q2 : 160 * c + n ≤ k ∧ k < 160 * c + n + i
          · rw [if_pos q2, if_pos (by omega)]
          · rw [if_neg q2, if_neg (by omega)]
      rw [e1]
      exact ih () trivial
theorem InvY.ap (I : InvY t y b G m) (hc : c < 2) (hrun : gi G 19 (y 3 0) = 1) (lv : LkV y G m c n o z f h) (h61 : gi G 61 (y 10 c) = 0) (hn : n + w ≤ 160) : InvY t y b (apC y G c n v w) (apM y m c n v w) := by
  have hs := I.1
  obtain ⟨q1, q2, q3, q4, q5, q6, q7, q8, q9, q10, q11, q12, q13, q14, q15, q16, q17, q18, q19, q20⟩ := lv
  have hv1 : yV 11 c = true := by simp [yV, hc]
  have n79 : y 30 79 ≠ y 30 80 := hs.ne (by omega)
  have y10 : ∀ q, q < 2 → q ≠ c → y 10 q ≠ y 10 c := fun q hq e w => e ((hs.2.1 10 q 10 c (by simp [yV, hq]) (by simp [yV, hc])).mp w).2
  have y11 : ∀ q, q < 2 → q ≠ c → y 11 q ≠ y 11 c := fun q hq e w => e ((hs.2.1 11 q 11 c (by simp [yV, hq]) (by simp [yV, hc])).mp w).2
  have g : ∀ g, g ≠ 56 → gi (apC y G c n v w) g (y 10 c) = gi G g (y 10 c) := fun g h => gi_ne h
  have g19 : gi (apC y G c n v w) 19 (y 3 0) = 1 := ((apC_c hc).1 19 _ (by omega)).trans hrun
  have M : ∀ g, 79 ≤ g → g ≤ 85 → g ≠ 79 → g ≠ 80 → ai (apM y m c n v w) (y 30 g) = ai m (y 30 g) := fun g h1 h2 h3 h4 => by
    unfold apM
    rw [ai_nb (fun w => h4 ((hs.2.1 30 g 30 80 (yV30 (by omega)) rfl).mp w).2), aw_ne (fun w => h3 ((hs.2.1 30 g 30 79 (yV30 (by omega)) rfl).mp w).2)]
  have a11 : ai (apC y G c n v w) (y 11 c) = (fun k => if n ≤ k ∧ k < n + w then sb (v / 256 ^ (k - n) % 256) else ai G (y 11 c) k) := aw_at
  have a12 : ∀ q, q < 2 → ai (apC y G c n v w) (y 12 q) = ai G (y 12 q) := fun q hq => aw_ne (hs.ne (by omega) (by simp [yV, hq]) hv1)
  have b79 : ai (apM y m c n v w) (y 30 79) = (fun k => if 160 * c + n ≤ k ∧ k < 160 * c + n + w then nI (v / 256 ^ (k - (160 * c + n)) % 256) else ai m (y 30 79) k) := by
    unfold apM
    rw [ai_nb n79]; exact aw_at
  refine I.lk1 hc (apC_c hc) apM_c ⟨n + w, o, z, fun k => if k < n then f k else v / 256 ^ (k - n) % 256, h, hn, q2, q3, q4, gi_at, ai_at, fun k hk => ?_, fun k hk => ?_, by rw [g 58 (by omega)]; exact q9, by rw [M 82 (by omega) (by omega) (by omega) (by omega)]; exact q10, fun k hk => by rw [a12 c hc]; exact q11 k hk, fun k hk => by rw [M 81 (by omega) (by omega) (by omega) (by omega)]; exact q12 k hk, by rw [g 59 (by omega)]; exact q13, by rw [M 83 (by omega) (by omega) (by omega) (by omega)]; exact q14, by rw [g 60 (by omega)]; exact q15, by rw [M 84 (by omega) (by omega) (by omega) (by omega), g 60 (by omega)]; exact q16, by rw [g 61 (by omega)]; exact q17, by rw [M 85 (by omega) (by omega) (by omega) (by omega), g 61 (by omega)]; exact q18, fun e => by rw [g 61 (by omega), h61] at e; exact absurd e (by decide), fun e => by rw [g19] at e; exact absurd e (by decide)⟩ (fun q hq e => ⟨fun g h1 h2 => gi_na (y10 q hq e), aw_ne (y11 q hq e), a12 q hq, fun g h1 h2 h3 h4 => ?_, fun k hk => ?_, fun k hk => ?_⟩)
  · rw [a11]
    show (if k < n then f k else v / 256 ^ (k - n) % 256) < 256 ∧ (if _ then _ else _) = sb (if k < n then f k else v / 256 ^ (k - n) % 256)
    by_cases q : k < n
    · rw [if_pos q, if_neg (by omega)]; exact q7 k q
    · rw [if_neg q, if_pos (by omega)]; exact ⟨Nat.mod_lt _ (by omega), rfl⟩
  · rw [b79]
    show (if k < n then f k else v / 256 ^ (k - n) % 256) < 256 ∧ (if _ then _ else _) = nI (if k < n then f k else v / 256 ^ (k - n) % 256)
    by_cases q : k < n
    · rw [if_pos q, if_neg (by omega)]; exact q8 k q
    · rw [if_neg q, if_pos (by omega), show 160 * c + k - (160 * c + n) = k - n by omega]; exact ⟨Nat.mod_lt _ (by omega), rfl⟩
  · by_cases w : g = 80
    · rw [w]
      unfold apM
      rw [ai_nj e, aw_ne n79.symm]
    · rw [M g h1 h2 h3 w]
  · rw [b79]
    show (if _ then _ else _) = _
    rw [if_neg (by omega)]
  · rw [M 81 (by omega) (by omega) (by omega) (by omega)]
theorem o_feed {S M : Nat} : Ob_feed t S M (InvW t S M) := fun j G x x1 x2 hj ⟨y, h1, h2, I⟩ => by
  subst h1 h2
  have hs := I.1
  have hz := I.2.1
  have hup : InvW t (y 0 0) (y 1 0) (j + 5) G := ⟨y, rfl, rfl, I.up (by omega)⟩
  refine ⟨hs.k 0 0, ?_⟩
  rcases conn x with hx | ⟨c, hc, rfl⟩
  · exact S_linkNo hx (iT rfl (M_isNo hx (iT rfl ⟨rfl, hup⟩)))
  have hv0 : yV 10 c = true := by simp [yV, hc]
  have cl : (nI c).toNatClampNeg = c := nI_clamp (by omega)
  refine S_linkOf hs hz hc (iF (by simp) ⟨y 3 0, hz.1.2.1, hs.k 3 0, ?_⟩)
  have v2 : ∀ g, yV 30 g = true → yL 30 g = 2 → vp_in (nI c) (tn t (y 30 g)) := fun g h1 h2 => by rw [hs.n 30 g h1, h2]; exact vp_lt (N := 2) hc
  by_cases w1 : x2 < 1
  · have no : w_M_feed t G (y 1 0) (nI c) x1 x2 (fun G2 r2 => (0 : Int32) = r2 ∧ InvW t (y 0 0) (y 1 0) (j + 5) G2) := M_isC hc (iF (by decide) (iT w1 ⟨rfl, hup⟩))
    exact iS ⟨fun _ => no, fun _ => iT w1 no⟩
  by_cases w8 : 8 < x2
  · have no : w_M_feed t G (y 1 0) (nI c) x1 x2 (fun G2 r2 => (0 : Int32) = r2 ∧ InvW t (y 0 0) (y 1 0) (j + 5) G2) := M_isC hc (iF (by decide) (iF w1 (iT w8 ⟨rfl, hup⟩)))
    exact iS ⟨fun _ => no, fun _ => iF w1 (iT w8 no)⟩
  obtain ⟨w, hw31, rfl⟩ := nI_of (x := x2) (fun q => w1 (Int32.lt_trans q (by decide)))
  have hw8 : w ≤ 8 := Nat.not_lt.mp (fun q => w8 (nI_lt (a := 8) q hw31))
  obtain ⟨v, hv, rfl⟩ := wb_of x1
  obtain ⟨n, o, z, f, h, lv⟩ := (I.2.2.2.2.1 c hc).v
  obtain ⟨q1, q2, q3, q4, q5, q6, q7, q8, q9, q10, q11, q12, q13, q14, q15, q16, q17, q18, q19, q20⟩ := id lv
  have mst : ∀ K : GS → Int32 → Prop, (if ¬ (gi G 75 (y 1 0)) = 0 then (K G (0 : Int32)) else ((if ¬ gi G 61 (y 10 c) = 0 then (K G (0 : Int32)) else ((if nI n + nI w ≤ (160 : Int32) then (∃ n, w_M_feed_56 t (y 1 0) K n (nI c) (lN v) (nI w) (0 : Int32) G) else (K G (0 : Int32))))))) → w_M_feed t G (y 1 0) (nI c) (lN v) (nI w) K := fun K hK => M_isC hc (iF (by decide) (iF w1 (iF w8 ⟨hs.k 1 0, by
    by_cases a : gi G 75 (y 1 0) = 0
    · rw [if_neg (fun q => q a)] at hK
      refine iF (fun q => q a) ⟨y 30 85, hz.m 85, hs.k 30 85, v2 85 rfl rfl, ?_⟩
      rw [cl, q18]
      by_cases a2 : gi G 61 (y 10 c) = 0
      · rw [if_neg (fun q => q a2)] at hK
        refine iF (fun q => q a2) ⟨y 30 80, hz.m 80, hs.k 30 80, v2 80 rfl rfl, ?_⟩
        rw [q6]
        exact hK
      · rw [if_pos a2] at hK
        exact iT a2 hK
    · rw [if_pos a] at hK
      exact iT a hK⟩)))
  rcases I.ud with ⟨run, up⟩ | ⟨dn, up⟩
  rotate_left
  · exact iT dn (mst _ (iT (by rw [up]; decide) ⟨rfl, hup⟩))
  refine iF (by rw [run]; decide) (iF w1 (iF w8 ⟨y 10 c, rfl, hs.k 10 c hv0, hs.k 10 c hv0, ?_⟩))
  rcases q17 with e0 | e1
  rotate_left
  · exact iT (by rw [e1]; decide) (iF (by simp) (mst _ (iF (fun q => q up) (iT (by rw [e1]; decide) ⟨rfl, hup⟩))))
  rw [q5]
  refine iF (fun q => q e0) ?_
  by_cases room : n + w ≤ 160
  rotate_left
  · exact iT (by rw [nI_add]; exact nI_lt (a := 160) (by omega) (by omega)) (iF (by simp) (mst _ (iF (fun q => q up) (iF (fun q => q e0) (iF (by rw [nI_add]; exact nI_ge (a := 160) (by omega) (by omega)) ⟨rfl, hup⟩)))))
  refine iF (by rw [nI_add]; exact nI_nlt (a := 160) (by omega) (by decide)) (iT (by decide) (S_append hs hz hc q5 hv hw8 room ?_))
  have I2 : InvY t y (1 + 40 * j) (apC y G c n v w) (apM y G c n v w) := I.ap hc run lv e0 room
  obtain ⟨G', m', J, es, rS, rM⟩ := h_serve (t := t) (y := y) hc I2 (by omega)
  refine rS _ ?_
  have run' : w_M_feed t G (y 1 0) (nI c) (lN v) (nI w) (fun X r => X = m' ∧ r = 1) := mst _ (iF (fun q => q up) (iF (fun q => q e0) (iT (by rw [nI_add]; exact nI_le (b := 160) room (by decide)) (M_append hs hz hc q6 hv hw8 room (rM _ ⟨rfl, rfl⟩)))))
  exact f_M_feed ((((apC_c (n := n) (v := v) (w := w) hc).e hs).tr es).eM hz) (fun A H r eA cH hA => by
    obtain ⟨e1, e2⟩ := hA
    subst e1
    exact ⟨e2.symm, y, rfl, rfl, (J.one eA cH).up (by omega)⟩) run'
end FEE
