theorem va_pl_app {L : List Nat} {f : Nat → va_E} {a : Nat} : va_pl (L ++ [a]) f = va_pl L f ++ [(a, f a)] := by unfold va_pl; rw [List.map_append]; rfl
theorem va_pl_in {L : List Nat} {f g : Nat → va_E} (h : ∀ b ∈ L, f b = g b) : va_pl L f = va_pl L g := by
  unfold va_pl
  exact List.map_congr_left (fun b hb => by rw [h b hb])
theorem mE_congr2 {t t' : TY} {G G' : GS} {b : Nat} (hk : tk t' b = tk t b) (hn : tn t' b = tn t b) (hc : ∀ k, tcA t' k = tcA t k) (h1 : ∀ f, gi G' f b = gi G f b) (h2 : ∀ f, gl G' f b = gl G f b) (h3 : ∀ f, gr G' f b = gr G f b) (h4 : ai G' b = ai G b) (h5 : al G' b = al G b) (h6 : ar G' b = ar G b) : mE t' G' b = mE t G b := by
  unfold mE
  simp only [hk, hn, hc, h1, h2, h3, h4, h5, h6]
theorem tk_ad {t : TY} {a k n : Nat} {g : Nat × Nat} : tk (adT t a k n g) a = k := if_pos rfl
theorem tn_ad {t : TY} {a k n : Nat} {g : Nat × Nat} : tn (adT t a k n g) a = n := if_pos rfl
theorem tg_ad {t : TY} {a k n : Nat} {g : Nat × Nat} : tg (adT t a k n g) a = g := if_pos rfl
theorem tk_ne {t : TY} {a k n b : Nat} {g : Nat × Nat} (h : b ≠ a) : tk (adT t a k n g) b = tk t b := if_neg h
theorem tn_ne {t : TY} {a k n b : Nat} {g : Nat × Nat} (h : b ≠ a) : tn (adT t a k n g) b = tn t b := if_neg h
theorem tg_ne {t : TY} {a k n b : Nat} {g : Nat × Nat} (h : b ≠ a) : tg (adT t a k n g) b = tg t b := if_neg h
theorem td_ad {t : TY} {a k n : Nat} {g : Nat × Nat} : tdom (adT t a k n g) = tdom t ++ [a] := rfl
theorem gi_z {G : GS} {f a : Nat} : gi (zG G a) f a = 0 := if_pos rfl
theorem gl_z {G : GS} {f a : Nat} : gl (zG G a) f a = 0 := if_pos rfl
theorem gr_z {G : GS} {f a : Nat} : gr (zG G a) f a = none := if_pos rfl
theorem ai_z {G : GS} {a : Nat} : ai (zG G a) a = fun _ => 0 := funext fun _ => if_pos rfl
theorem al_z {G : GS} {a : Nat} : al (zG G a) a = fun _ => 0 := funext fun _ => if_pos rfl
theorem ar_z {G : GS} {a : Nat} : ar (zG G a) a = fun _ => none := funext fun _ => if_pos rfl
theorem gi_zne {G : GS} {f a b : Nat} (h : b ≠ a) : gi (zG G a) f b = gi G f b := if_neg h
theorem gl_zne {G : GS} {f a b : Nat} (h : b ≠ a) : gl (zG G a) f b = gl G f b := if_neg h
theorem gr_zne {G : GS} {f a b : Nat} (h : b ≠ a) : gr (zG G a) f b = gr G f b := if_neg h
theorem ai_zne {G : GS} {a b : Nat} (h : b ≠ a) : ai (zG G a) b = ai G b := funext fun _ => if_neg h
theorem al_zne {G : GS} {a b : Nat} (h : b ≠ a) : al (zG G a) b = al G b := funext fun _ => if_neg h
theorem ar_zne {G : GS} {a b : Nat} (h : b ≠ a) : ar (zG G a) b = ar G b := funext fun _ => if_neg h
theorem HB.new {t : TY} {G : GS} {H H1 : Heap} {a k n : Nat} {g : Nat × Nat} {e : va_E} (h : HB t G H) (hP : va_P (tD t) mcl (va_pl (tdom t) (mE t G) ++ [(a, e)]) H1) (hD : va_D (tA t) (va_pl (tdom t) (mE t G) ++ [(a, e)])) (he : mE (adT t a k n g) (zG G a) a = e) : a ∉ tdom t ∧ HB (adT t a k n g) (zG G a) H1 := by
  have hna : a ∉ tdom t := fun ha => by
    obtain ⟨i, hi⟩ := h.get ha
    have hl := (List.getElem?_eq_some_iff.mp hi).1
    have h1 : (va_pl (tdom t) (mE t G) ++ [(a, e)])[i]? = some (a, mE t G a) := by rw [List.getElem?_append_left hl]; exact hi
    have h2 : (va_pl (tdom t) (mE t G) ++ [(a, e)])[(va_pl (tdom t) (mE t G)).length]? = some (a, e) := by rw [List.getElem?_append_right (Nat.le_refl _), Nat.sub_self]; rfl
    have := hD.1 _ _ _ _ h1 h2 rfl
    omega
  have hpl : va_pl (tdom t) (mE t G) ++ [(a, e)] = va_pl (tdom (adT t a k n g)) (mE (adT t a k n g) (zG G a)) := by
    rw [td_ad, va_pl_app, he]
    congr 1
    apply va_pl_in
    intro b hb
    have hne : b ≠ a := fun q => hna (q ▸ hb)
    exact (mE_congr2 (tk_ne hne) (tn_ne hne) (fun _ => rfl) (fun f => gi_zne hne) (fun f => gl_zne hne) (fun f => gr_zne hne) (ai_zne hne) (al_zne hne) (ar_zne hne)).symm
  rw [hpl] at hP hD
  refine ⟨hna, hP, hD, fun b j hb => ?_⟩
  by_cases q : b = a
  · subst q
    rw [ai_z]
    rfl
  · rw [ai_zne q]
    exact h.2.2 b j (by rw [tk_ne q] at hb; exact hb)
/-- the constants are the same, and what has a kind is there -/
def te (t t' : TY) : Prop := t'.2 = t.2 ∧ (∀ a, tk t' a ≠ 0 → a ∈ tdom t') ∧ ∀ b, b ∈ tdom t → b ∈ tdom t' ∧ tk t' b = tk t b ∧ tn t' b = tn t b ∧ tg t' b = tg t b
theorem HK.te {t t' : TY} {s : State} (h : HK t s) (e : te t t') : HK t' s := by
  obtain ⟨⟨d, k, n, g⟩, x⟩ := t
  obtain ⟨⟨d', k', n', g'⟩, x'⟩ := t'
  obtain ⟨e1, e2, -⟩ := e
  have e1 : x' = x := e1
  subst e1
  exact ⟨h.1, ⟨e2, h.2.1.2⟩, h.2.2⟩
theorem te.rf {t : TY} (h : ∀ a, tk t a ≠ 0 → a ∈ tdom t) : te t t := ⟨rfl, h, fun b hb => ⟨hb, rfl, rfl, rfl⟩⟩
theorem te.ad {t : TY} (h : ∀ a, tk t a ≠ 0 → a ∈ tdom t) {a : Nat} (ha : a ∉ tdom t) (k n : Nat) (g : Nat × Nat) : te t (adT t a k n g) := ⟨rfl, fun b hb => by
  rw [td_ad]
  by_cases q : b = a
  · subst q; exact List.mem_append_right _ List.mem_cons_self
  · rw [tk_ne q] at hb; exact List.mem_append_left _ (h b hb), fun b hb => by
  have q : b ≠ a := fun q => ha (q ▸ hb)
  exact ⟨List.mem_append_left _ hb, tk_ne q, tn_ne q, tg_ne q⟩⟩
theorem te.trans {t t1 t2 : TY} (h1 : te t t1) (h2 : te t1 t2) : te t t2 := ⟨h2.1.trans h1.1, h2.2.1, fun b hb => by
  obtain ⟨a1, a2, a3, a4⟩ := h1.2.2 b hb
  obtain ⟨c1, c2, c3, c4⟩ := h2.2.2 b a1
  exact ⟨c1, c2.trans a2, c3.trans a3, c4.trans a4⟩⟩
theorem te.k {t t' : TY} (e : te t t') {b k : Nat} (hk : tk t b = k) (hd : ∀ a, tk t a ≠ 0 → a ∈ tdom t) (h0 : k ≠ 0) : tk t' b = k := (e.2.2 b (hd b (by rw [hk]; exact h0))).2.1.trans hk
theorem te.n {t t' : TY} (e : te t t') {b k : Nat} (hk : tk t b = k) (hd : ∀ a, tk t a ≠ 0 → a ∈ tdom t) (h0 : k ≠ 0) : tn t' b = tn t b := (e.2.2 b (hd b (by rw [hk]; exact h0))).2.2.1
theorem tA_te {t t' : TY} (e : te t t') : tA t' = tA t := by unfold tA tsz; rw [e.1]
section KM
variable {p : Program} {l : Launch} {e : Env} {R : Room} {s : State} {m : MethodId} {args : Array Value} {below : List Frame} {meth : Method} {c : Code} {Q : State → Prop}
variable {cc : ByteArray} {nL : Nat} {own : String} {t : TY} {pu : Bool} {G : GS} {pc : Nat} {lv lv' : List (Nat × Value)} {rest : List Value} {cs : Nat × Nat}
theorem kX.te {t' : TY} (X : kX p s m args meth c cc nL own t) (e : te t t') : kX p s m args meth c cc nL own t' := ⟨X.1, X.2.1, X.2.2.1, X.2.2.2.1, X.2.2.2.2.1, X.2.2.2.2.2.1, X.h.te e⟩
theorem kX.ad (X : kX p s m args meth c cc nL own t) {a : Nat} (ha : a ∉ tdom t) (k n : Nat) (g : Nat × Nat) : kX p s m args meth c cc nL own (adT t a k n g) := X.te (te.ad X.h.2.1.1 ha k n g)
theorem kV.ce {cs' : Nat × Nat} (h : cs = cs') (k : kV cs' p l e R s m args below meth c Q nL t pu pc lv rest G) : kV cs p l e R s m args below meth c Q nL t pu pc lv rest G := h ▸ k
theorem kX.A (X : kX p s m args meth c cc nL own t) : ∀ q, s.heap.size ≤ q → tA t q := fun q h => Nat.le_trans X.h.2.1.2 h
theorem mE_ad1 {a n : Nat} {g : Nat × Nat} : mE (adT t a 1 n g) (zG G a) a = .inr (0, [.int 0, .int 0, .int 0, .int 0, va_rf none, va_rf none, va_rf none, va_rf none, .int 0, va_rf none, .int 0, va_rf none, .int 0]) := by
  rw [mE_1 tk_ad]
  simp only [gi_z, gl_z, gr_z]
theorem dfK0 : ∀ j, j < 13 → defaultValue (yK0 j) = vp_V [.int 0, .int 0, .int 0, .int 0, va_rf none, va_rf none, va_rf none, va_rf none, .int 0, va_rf none, .int 0, va_rf none, .int 0] j := by decide +kernel
theorem qn_1 {idx : Nat} (g : Nat × Nat) (X : kX p s m args meth c cc nL own t) (hpu : pu = false) (hd : decode cc pc = .ok (.new idx, 3)) (hcl : Cond.classLink own idx "TreeServer$Node" ∈ GW) (hins : Cond.instantiable "TreeServer$Node" 13 ∈ GW) (hini : Cond.initialized "TreeServer$Node" ∈ GW) (hcs : cs.1 + 1 ≤ R.cells ∧ cs.2 + 13 ≤ R.slots) (k : ∀ a, a ∉ tdom t → kV (cs.1 + 1, cs.2 + 13) p l e R s m args below meth c Q nL (adT t a 1 0 g) pu (pc + 3) lv (va_rf (some a) :: rest) (zG G a)) : kV cs p l e R s m args below meth c Q nL t pu pc lv rest G := fun H locs ls hl hz => by
  refine va_new (D := tD t) (cl := mcl) (tys := mty t) (ws := va_pl (tdom t) (mE t G)) (A := tA t) (H0 := s.heap) (ci := 0) (fs := [.int 0, .int 0, .int 0, .int 0, va_rf none, va_rf none, va_rf none, va_rf none, .int 0, va_rf none, .int 0, va_rf none, .int 0]) (C := RK0) (T := TK0) (N := 13) X.1 X.2.1 X.ws (fun w h => GW_in (inK0 w h) (inG0 w h)) yK0 yK0_ok X.o (X.w hcl) (X.w hins) (X.w hini) X.k hz.1.1 hz.1.2.1 hz.2.1 X.A rfl (by intro j hj; exact dfK0 j hj) hcs.1 hcs.2 hd (fun q H1 hP hD hS => ?_)
  obtain ⟨hna, hB⟩ := hz.1.new (g := g) (k := 1) (n := 0) hP hD mE_ad1
  exact k q hna H1 locs ls hl ⟨hB, hS, fun h => by rw [hpu] at h; cases h⟩
theorem mE_ad2 {a n : Nat} {g : Nat × Nat} : mE (adT t a 2 n g) (zG G a) a = .inr (1, [va_rf none, va_rf none, .int 0, .int 0]) := by
  rw [mE_2 tk_ad]
  simp only [gi_z, gl_z, gr_z]
theorem dfK1 : ∀ j, j < 4 → defaultValue (yK1 j) = vp_V [va_rf none, va_rf none, .int 0, .int 0] j := by decide +kernel
theorem qn_2 {idx : Nat} (g : Nat × Nat) (X : kX p s m args meth c cc nL own t) (hpu : pu = false) (hd : decode cc pc = .ok (.new idx, 3)) (hcl : Cond.classLink own idx "TreeServer$Tree" ∈ GW) (hins : Cond.instantiable "TreeServer$Tree" 4 ∈ GW) (hini : Cond.initialized "TreeServer$Tree" ∈ GW) (hcs : cs.1 + 1 ≤ R.cells ∧ cs.2 + 4 ≤ R.slots) (k : ∀ a, a ∉ tdom t → kV (cs.1 + 1, cs.2 + 4) p l e R s m args below meth c Q nL (adT t a 2 0 g) pu (pc + 3) lv (va_rf (some a) :: rest) (zG G a)) : kV cs p l e R s m args below meth c Q nL t pu pc lv rest G := fun H locs ls hl hz => by
  refine va_new (D := tD t) (cl := mcl) (tys := mty t) (ws := va_pl (tdom t) (mE t G)) (A := tA t) (H0 := s.heap) (ci := 1) (fs := [va_rf none, va_rf none, .int 0, .int 0]) (C := RK1) (T := TK1) (N := 4) X.1 X.2.1 X.ws (fun w h => GW_in (inK1 w h) (inG1 w h)) yK1 yK1_ok X.o (X.w hcl) (X.w hins) (X.w hini) X.k hz.1.1 hz.1.2.1 hz.2.1 X.A rfl (by intro j hj; exact dfK1 j hj) hcs.1 hcs.2 hd (fun q H1 hP hD hS => ?_)
  obtain ⟨hna, hB⟩ := hz.1.new (g := g) (k := 2) (n := 0) hP hD mE_ad2
  exact k q hna H1 locs ls hl ⟨hB, hS, fun h => by rw [hpu] at h; cases h⟩
theorem mE_ad3 {a n : Nat} {g : Nat × Nat} : mE (adT t a 3 n g) (zG G a) a = .inr (2, [.int 0, .int 0, .int 0, .int 0]) := by
  rw [mE_3 tk_ad]
  simp only [gi_z, gl_z, gr_z]
theorem dfK2 : ∀ j, j < 4 → defaultValue (yK2 j) = vp_V [.int 0, .int 0, .int 0, .int 0] j := by decide +kernel
theorem qn_3 {idx : Nat} (g : Nat × Nat) (X : kX p s m args meth c cc nL own t) (hpu : pu = false) (hd : decode cc pc = .ok (.new idx, 3)) (hcl : Cond.classLink own idx "TreeServer$Log" ∈ GW) (hins : Cond.instantiable "TreeServer$Log" 4 ∈ GW) (hini : Cond.initialized "TreeServer$Log" ∈ GW) (hcs : cs.1 + 1 ≤ R.cells ∧ cs.2 + 4 ≤ R.slots) (k : ∀ a, a ∉ tdom t → kV (cs.1 + 1, cs.2 + 4) p l e R s m args below meth c Q nL (adT t a 3 0 g) pu (pc + 3) lv (va_rf (some a) :: rest) (zG G a)) : kV cs p l e R s m args below meth c Q nL t pu pc lv rest G := fun H locs ls hl hz => by
  refine va_new (D := tD t) (cl := mcl) (tys := mty t) (ws := va_pl (tdom t) (mE t G)) (A := tA t) (H0 := s.heap) (ci := 2) (fs := [.int 0, .int 0, .int 0, .int 0]) (C := RK2) (T := TK2) (N := 4) X.1 X.2.1 X.ws (fun w h => GW_in (inK2 w h) (inG2 w h)) yK2 yK2_ok X.o (X.w hcl) (X.w hins) (X.w hini) X.k hz.1.1 hz.1.2.1 hz.2.1 X.A rfl (by intro j hj; exact dfK2 j hj) hcs.1 hcs.2 hd (fun q H1 hP hD hS => ?_)
  obtain ⟨hna, hB⟩ := hz.1.new (g := g) (k := 3) (n := 0) hP hD mE_ad3
  exact k q hna H1 locs ls hl ⟨hB, hS, fun h => by rw [hpu] at h; cases h⟩
theorem mE_ad4 {a n : Nat} {g : Nat × Nat} : mE (adT t a 4 n g) (zG G a) a = .inr (3, [va_rf none, va_rf none, va_rf none, .int 0, .int 0, .int 0, .int 0, .int 0, .int 0, va_rf none, va_rf none, .int 0, va_rf none, .int 0, .int 0]) := by
  rw [mE_4 tk_ad]
  simp only [gi_z, gl_z, gr_z]
theorem dfK3 : ∀ j, j < 15 → defaultValue (yK3 j) = vp_V [va_rf none, va_rf none, va_rf none, .int 0, .int 0, .int 0, .int 0, .int 0, .int 0, va_rf none, va_rf none, .int 0, va_rf none, .int 0, .int 0] j := by decide +kernel
theorem qn_4 {idx : Nat} (g : Nat × Nat) (X : kX p s m args meth c cc nL own t) (hpu : pu = false) (hd : decode cc pc = .ok (.new idx, 3)) (hcl : Cond.classLink own idx "TreeServer$Change" ∈ GW) (hins : Cond.instantiable "TreeServer$Change" 15 ∈ GW) (hini : Cond.initialized "TreeServer$Change" ∈ GW) (hcs : cs.1 + 1 ≤ R.cells ∧ cs.2 + 15 ≤ R.slots) (k : ∀ a, a ∉ tdom t → kV (cs.1 + 1, cs.2 + 15) p l e R s m args below meth c Q nL (adT t a 4 0 g) pu (pc + 3) lv (va_rf (some a) :: rest) (zG G a)) : kV cs p l e R s m args below meth c Q nL t pu pc lv rest G := fun H locs ls hl hz => by
  refine va_new (D := tD t) (cl := mcl) (tys := mty t) (ws := va_pl (tdom t) (mE t G)) (A := tA t) (H0 := s.heap) (ci := 3) (fs := [va_rf none, va_rf none, va_rf none, .int 0, .int 0, .int 0, .int 0, .int 0, .int 0, va_rf none, va_rf none, .int 0, va_rf none, .int 0, .int 0]) (C := RK3) (T := TK3) (N := 15) X.1 X.2.1 X.ws (fun w h => GW_in (inK3 w h) (inG3 w h)) yK3 yK3_ok X.o (X.w hcl) (X.w hins) (X.w hini) X.k hz.1.1 hz.1.2.1 hz.2.1 X.A rfl (by intro j hj; exact dfK3 j hj) hcs.1 hcs.2 hd (fun q H1 hP hD hS => ?_)
  obtain ⟨hna, hB⟩ := hz.1.new (g := g) (k := 4) (n := 0) hP hD mE_ad4
  exact k q hna H1 locs ls hl ⟨hB, hS, fun h => by rw [hpu] at h; cases h⟩
theorem mE_ad5 {a n : Nat} {g : Nat × Nat} : mE (adT t a 5 n g) (zG G a) a = .inr (4, [va_rf none, .int 0, .int 0, .int 0, va_rf none, va_rf none, .int 0, .int 0]) := by
  rw [mE_5 tk_ad]
  simp only [gi_z, gl_z, gr_z]
theorem dfK4 : ∀ j, j < 8 → defaultValue (yK4 j) = vp_V [va_rf none, .int 0, .int 0, .int 0, va_rf none, va_rf none, .int 0, .int 0] j := by decide +kernel
theorem qn_5 {idx : Nat} (g : Nat × Nat) (X : kX p s m args meth c cc nL own t) (hpu : pu = false) (hd : decode cc pc = .ok (.new idx, 3)) (hcl : Cond.classLink own idx "TreeServer$Message" ∈ GW) (hins : Cond.instantiable "TreeServer$Message" 8 ∈ GW) (hini : Cond.initialized "TreeServer$Message" ∈ GW) (hcs : cs.1 + 1 ≤ R.cells ∧ cs.2 + 8 ≤ R.slots) (k : ∀ a, a ∉ tdom t → kV (cs.1 + 1, cs.2 + 8) p l e R s m args below meth c Q nL (adT t a 5 0 g) pu (pc + 3) lv (va_rf (some a) :: rest) (zG G a)) : kV cs p l e R s m args below meth c Q nL t pu pc lv rest G := fun H locs ls hl hz => by
  refine va_new (D := tD t) (cl := mcl) (tys := mty t) (ws := va_pl (tdom t) (mE t G)) (A := tA t) (H0 := s.heap) (ci := 4) (fs := [va_rf none, .int 0, .int 0, .int 0, va_rf none, va_rf none, .int 0, .int 0]) (C := RK4) (T := TK4) (N := 8) X.1 X.2.1 X.ws (fun w h => GW_in (inK4 w h) (inG4 w h)) yK4 yK4_ok X.o (X.w hcl) (X.w hins) (X.w hini) X.k hz.1.1 hz.1.2.1 hz.2.1 X.A rfl (by intro j hj; exact dfK4 j hj) hcs.1 hcs.2 hd (fun q H1 hP hD hS => ?_)
  obtain ⟨hna, hB⟩ := hz.1.new (g := g) (k := 5) (n := 0) hP hD mE_ad5
  exact k q hna H1 locs ls hl ⟨hB, hS, fun h => by rw [hpu] at h; cases h⟩
theorem mE_ad6 {a n : Nat} {g : Nat × Nat} : mE (adT t a 6 n g) (zG G a) a = .inr (5, [va_rf none, .int 0]) := by
  rw [mE_6 tk_ad]
  simp only [gi_z, gl_z, gr_z]
theorem dfK5 : ∀ j, j < 2 → defaultValue (yK5 j) = vp_V [va_rf none, .int 0] j := by decide +kernel
theorem qn_6 {idx : Nat} (g : Nat × Nat) (X : kX p s m args meth c cc nL own t) (hpu : pu = false) (hd : decode cc pc = .ok (.new idx, 3)) (hcl : Cond.classLink own idx "TreeServer$Answer" ∈ GW) (hins : Cond.instantiable "TreeServer$Answer" 2 ∈ GW) (hini : Cond.initialized "TreeServer$Answer" ∈ GW) (hcs : cs.1 + 1 ≤ R.cells ∧ cs.2 + 2 ≤ R.slots) (k : ∀ a, a ∉ tdom t → kV (cs.1 + 1, cs.2 + 2) p l e R s m args below meth c Q nL (adT t a 6 0 g) pu (pc + 3) lv (va_rf (some a) :: rest) (zG G a)) : kV cs p l e R s m args below meth c Q nL t pu pc lv rest G := fun H locs ls hl hz => by
  refine va_new (D := tD t) (cl := mcl) (tys := mty t) (ws := va_pl (tdom t) (mE t G)) (A := tA t) (H0 := s.heap) (ci := 5) (fs := [va_rf none, .int 0]) (C := RK5) (T := TK5) (N := 2) X.1 X.2.1 X.ws (fun w h => GW_in (inK5 w h) (inG5 w h)) yK5 yK5_ok X.o (X.w hcl) (X.w hins) (X.w hini) X.k hz.1.1 hz.1.2.1 hz.2.1 X.A rfl (by intro j hj; exact dfK5 j hj) hcs.1 hcs.2 hd (fun q H1 hP hD hS => ?_)
  obtain ⟨hna, hB⟩ := hz.1.new (g := g) (k := 6) (n := 0) hP hD mE_ad6
  exact k q hna H1 locs ls hl ⟨hB, hS, fun h => by rw [hpu] at h; cases h⟩
theorem mE_ad7 {a n : Nat} {g : Nat × Nat} : mE (adT t a 7 n g) (zG G a) a = .inr (6, [.int 0, .long 0, va_rf none, .int 0, va_rf none, .int 0, .int 0, .long 0, .int 0]) := by
  rw [mE_7 tk_ad]
  simp only [gi_z, gl_z, gr_z]
theorem dfK6 : ∀ j, j < 9 → defaultValue (yK6 j) = vp_V [.int 0, .long 0, va_rf none, .int 0, va_rf none, .int 0, .int 0, .long 0, .int 0] j := by decide +kernel
theorem qn_7 {idx : Nat} (g : Nat × Nat) (X : kX p s m args meth c cc nL own t) (hpu : pu = false) (hd : decode cc pc = .ok (.new idx, 3)) (hcl : Cond.classLink own idx "TreeServer$Fid" ∈ GW) (hins : Cond.instantiable "TreeServer$Fid" 9 ∈ GW) (hini : Cond.initialized "TreeServer$Fid" ∈ GW) (hcs : cs.1 + 1 ≤ R.cells ∧ cs.2 + 9 ≤ R.slots) (k : ∀ a, a ∉ tdom t → kV (cs.1 + 1, cs.2 + 9) p l e R s m args below meth c Q nL (adT t a 7 0 g) pu (pc + 3) lv (va_rf (some a) :: rest) (zG G a)) : kV cs p l e R s m args below meth c Q nL t pu pc lv rest G := fun H locs ls hl hz => by
  refine va_new (D := tD t) (cl := mcl) (tys := mty t) (ws := va_pl (tdom t) (mE t G)) (A := tA t) (H0 := s.heap) (ci := 6) (fs := [.int 0, .long 0, va_rf none, .int 0, va_rf none, .int 0, .int 0, .long 0, .int 0]) (C := RK6) (T := TK6) (N := 9) X.1 X.2.1 X.ws (fun w h => GW_in (inK6 w h) (inG6 w h)) yK6 yK6_ok X.o (X.w hcl) (X.w hins) (X.w hini) X.k hz.1.1 hz.1.2.1 hz.2.1 X.A rfl (by intro j hj; exact dfK6 j hj) hcs.1 hcs.2 hd (fun q H1 hP hD hS => ?_)
  obtain ⟨hna, hB⟩ := hz.1.new (g := g) (k := 7) (n := 0) hP hD mE_ad7
  exact k q hna H1 locs ls hl ⟨hB, hS, fun h => by rw [hpu] at h; cases h⟩
theorem mE_ad8 {a n : Nat} {g : Nat × Nat} : mE (adT t a 8 n g) (zG G a) a = .inr (7, [va_rf none, .int 0, va_rf none, .int 0, .int 0, .int 0, .int 0, va_rf none]) := by
  rw [mE_8 tk_ad]
  simp only [gi_z, gl_z, gr_z]
theorem dfK7 : ∀ j, j < 8 → defaultValue (yK7 j) = vp_V [va_rf none, .int 0, va_rf none, .int 0, .int 0, .int 0, .int 0, va_rf none] j := by decide +kernel
theorem qn_8 {idx : Nat} (g : Nat × Nat) (X : kX p s m args meth c cc nL own t) (hpu : pu = false) (hd : decode cc pc = .ok (.new idx, 3)) (hcl : Cond.classLink own idx "TreeServer$Link" ∈ GW) (hins : Cond.instantiable "TreeServer$Link" 8 ∈ GW) (hini : Cond.initialized "TreeServer$Link" ∈ GW) (hcs : cs.1 + 1 ≤ R.cells ∧ cs.2 + 8 ≤ R.slots) (k : ∀ a, a ∉ tdom t → kV (cs.1 + 1, cs.2 + 8) p l e R s m args below meth c Q nL (adT t a 8 0 g) pu (pc + 3) lv (va_rf (some a) :: rest) (zG G a)) : kV cs p l e R s m args below meth c Q nL t pu pc lv rest G := fun H locs ls hl hz => by
  refine va_new (D := tD t) (cl := mcl) (tys := mty t) (ws := va_pl (tdom t) (mE t G)) (A := tA t) (H0 := s.heap) (ci := 7) (fs := [va_rf none, .int 0, va_rf none, .int 0, .int 0, .int 0, .int 0, va_rf none]) (C := RK7) (T := TK7) (N := 8) X.1 X.2.1 X.ws (fun w h => GW_in (inK7 w h) (inG7 w h)) yK7 yK7_ok X.o (X.w hcl) (X.w hins) (X.w hini) X.k hz.1.1 hz.1.2.1 hz.2.1 X.A rfl (by intro j hj; exact dfK7 j hj) hcs.1 hcs.2 hd (fun q H1 hP hD hS => ?_)
  obtain ⟨hna, hB⟩ := hz.1.new (g := g) (k := 8) (n := 0) hP hD mE_ad8
  exact k q hna H1 locs ls hl ⟨hB, hS, fun h => by rw [hpu] at h; cases h⟩
theorem mE_ad9 {a n : Nat} {g : Nat × Nat} : mE (adT t a 9 n g) (zG G a) a = .inr (8, [va_rf none, va_rf none, va_rf none, va_rf none, va_rf none, va_rf none, .int 0]) := by
  rw [mE_9 tk_ad]
  simp only [gi_z, gl_z, gr_z]
theorem dfK8 : ∀ j, j < 7 → defaultValue (yK8 j) = vp_V [va_rf none, va_rf none, va_rf none, va_rf none, va_rf none, va_rf none, .int 0] j := by decide +kernel
theorem qn_9 {idx : Nat} (g : Nat × Nat) (X : kX p s m args meth c cc nL own t) (hpu : pu = false) (hd : decode cc pc = .ok (.new idx, 3)) (hcl : Cond.classLink own idx "TreeServer" ∈ GW) (hins : Cond.instantiable "TreeServer" 7 ∈ GW) (hini : Cond.initialized "TreeServer" ∈ GW) (hcs : cs.1 + 1 ≤ R.cells ∧ cs.2 + 7 ≤ R.slots) (k : ∀ a, a ∉ tdom t → kV (cs.1 + 1, cs.2 + 7) p l e R s m args below meth c Q nL (adT t a 9 0 g) pu (pc + 3) lv (va_rf (some a) :: rest) (zG G a)) : kV cs p l e R s m args below meth c Q nL t pu pc lv rest G := fun H locs ls hl hz => by
  refine va_new (D := tD t) (cl := mcl) (tys := mty t) (ws := va_pl (tdom t) (mE t G)) (A := tA t) (H0 := s.heap) (ci := 8) (fs := [va_rf none, va_rf none, va_rf none, va_rf none, va_rf none, va_rf none, .int 0]) (C := RK8) (T := TK8) (N := 7) X.1 X.2.1 X.ws (fun w h => GW_in (inK8 w h) (inG8 w h)) yK8 yK8_ok X.o (X.w hcl) (X.w hins) (X.w hini) X.k hz.1.1 hz.1.2.1 hz.2.1 X.A rfl (by intro j hj; exact dfK8 j hj) hcs.1 hcs.2 hd (fun q H1 hP hD hS => ?_)
  obtain ⟨hna, hB⟩ := hz.1.new (g := g) (k := 9) (n := 0) hP hD mE_ad9
  exact k q hna H1 locs ls hl ⟨hB, hS, fun h => by rw [hpu] at h; cases h⟩
theorem mE_ad10 {a n : Nat} {g : Nat × Nat} : mE (adT t a 10 n g) (zG G a) a = .inr (9, [va_rf none, va_rf none, va_rf none, .int 0, .int 0, .int 0, .int 0, .int 0, .int 0, va_rf none, va_rf none, va_rf none, va_rf none, va_rf none, va_rf none, va_rf none, va_rf none, va_rf none, va_rf none, va_rf none, va_rf none, va_rf none, va_rf none, va_rf none, va_rf none, .int 0, va_rf none, .int 0, .long 0, .int 0]) := by
  rw [mE_10 tk_ad]
  simp only [gi_z, gl_z, gr_z]
theorem dfK9 : ∀ j, j < 30 → defaultValue (yK9 j) = vp_V [va_rf none, va_rf none, va_rf none, .int 0, .int 0, .int 0, .int 0, .int 0, .int 0, va_rf none, va_rf none, va_rf none, va_rf none, va_rf none, va_rf none, va_rf none, va_rf none, va_rf none, va_rf none, va_rf none, va_rf none, va_rf none, va_rf none, va_rf none, va_rf none, .int 0, va_rf none, .int 0, .long 0, .int 0] j := by decide +kernel
theorem qn_10 {idx : Nat} (g : Nat × Nat) (X : kX p s m args meth c cc nL own t) (hpu : pu = false) (hd : decode cc pc = .ok (.new idx, 3)) (hcl : Cond.classLink own idx "TreeServerModel" ∈ GW) (hins : Cond.instantiable "TreeServerModel" 30 ∈ GW) (hini : Cond.initialized "TreeServerModel" ∈ GW) (hcs : cs.1 + 1 ≤ R.cells ∧ cs.2 + 30 ≤ R.slots) (k : ∀ a, a ∉ tdom t → kV (cs.1 + 1, cs.2 + 30) p l e R s m args below meth c Q nL (adT t a 10 0 g) pu (pc + 3) lv (va_rf (some a) :: rest) (zG G a)) : kV cs p l e R s m args below meth c Q nL t pu pc lv rest G := fun H locs ls hl hz => by
  refine va_new (D := tD t) (cl := mcl) (tys := mty t) (ws := va_pl (tdom t) (mE t G)) (A := tA t) (H0 := s.heap) (ci := 9) (fs := [va_rf none, va_rf none, va_rf none, .int 0, .int 0, .int 0, .int 0, .int 0, .int 0, va_rf none, va_rf none, va_rf none, va_rf none, va_rf none, va_rf none, va_rf none, va_rf none, va_rf none, va_rf none, va_rf none, va_rf none, va_rf none, va_rf none, va_rf none, va_rf none, .int 0, va_rf none, .int 0, .long 0, .int 0]) (C := RK9) (T := TK9) (N := 30) X.1 X.2.1 X.ws (fun w h => GW_in (inK9 w h) (inG9 w h)) yK9 yK9_ok X.o (X.w hcl) (X.w hins) (X.w hini) X.k hz.1.1 hz.1.2.1 hz.2.1 X.A rfl (by intro j hj; exact dfK9 j hj) hcs.1 hcs.2 hd (fun q H1 hP hD hS => ?_)
  obtain ⟨hna, hB⟩ := hz.1.new (g := g) (k := 10) (n := 0) hP hD mE_ad10
  exact k q hna H1 locs ls hl ⟨hB, hS, fun h => by rw [hpu] at h; cases h⟩
theorem mE_ad50 {a n : Nat} {g : Nat × Nat} : mE (adT t a 50 n g) (zG G a) a = .inl (tcA t 50, n, .inl (fun _ => 0)) := by
  rw [mE_50 tk_ad, ai_z, tn_ad]
  rfl
theorem qn_50 {n : Int32} (N : Nat) (g : Nat × Nat) (X : kX p s m args meth c cc nL own t) (hpu : pu = false) (hd : decode cc pc = .ok (.newarray .int, 2)) (hcl : Cond.arrayClass .int ∈ GW) (hn : ¬ n < 0 ∧ n.toNatClampNeg = N ∧ N * componentBytes .int ≤ 536870912) (hcs : cs.1 + 1 ≤ R.cells ∧ cs.2 + N ≤ R.slots) (k : ∀ a, a ∉ tdom t → kV (cs.1 + 1, cs.2 + N) p l e R s m args below meth c Q nL (adT t a 50 N g) pu (pc + 2) lv (va_rf (some a) :: rest) (zG G a)) : kV cs p l e R s m args below meth c Q nL t pu pc lv (.int n :: rest) G := fun H locs ls hl hz => by
  refine va_newa (atype := .int) (D := tD t) (cl := mcl) (tys := mty t) (ws := va_pl (tdom t) (mE t G)) (A := tA t) (H0 := s.heap) (ty := .int) (N' := N) (a0 := (N, .inl (fun _ => 0))) X.1 X.2.1 (X.w hcl) rfl X.k hz.1.1 hz.1.2.1 hz.2.1 X.A (fun cA => rfl) hn.1 hn.2.1 hn.2.2 hcs.1 hcs.2 hd (fun q cA H1 hK hP hD hS => ?_)
  have e1 := (hK.2 0 (tcA t 50, .int) rfl).2
  have e2 := (hK.2 7 (cA, .int) rfl).2
  have e3 : cA = tcA t 50 := Option.some.inj (Eq.trans (Eq.symm e2) e1)
  rw [e3] at hP hD
  obtain ⟨hna, hB⟩ := hz.1.new (g := g) (k := 50) (n := N) hP hD mE_ad50
  exact k q hna H1 locs ls hl ⟨hB, hS, fun h => by rw [hpu] at h; cases h⟩
theorem mE_ad51 {a n : Nat} {g : Nat × Nat} : mE (adT t a 51 n g) (zG G a) a = .inl (tcA t 51, n, .inl (fun _ => 0)) := by
  rw [mE_51 tk_ad, ai_z, tn_ad]
  rfl
theorem qn_51 {n : Int32} (N : Nat) (g : Nat × Nat) (X : kX p s m args meth c cc nL own t) (hpu : pu = false) (hd : decode cc pc = .ok (.newarray .byte, 2)) (hcl : Cond.arrayClass .byte ∈ GW) (hn : ¬ n < 0 ∧ n.toNatClampNeg = N ∧ N * componentBytes .byte ≤ 536870912) (hcs : cs.1 + 1 ≤ R.cells ∧ cs.2 + N ≤ R.slots) (k : ∀ a, a ∉ tdom t → kV (cs.1 + 1, cs.2 + N) p l e R s m args below meth c Q nL (adT t a 51 N g) pu (pc + 2) lv (va_rf (some a) :: rest) (zG G a)) : kV cs p l e R s m args below meth c Q nL t pu pc lv (.int n :: rest) G := fun H locs ls hl hz => by
  refine va_newa (atype := .byte) (D := tD t) (cl := mcl) (tys := mty t) (ws := va_pl (tdom t) (mE t G)) (A := tA t) (H0 := s.heap) (ty := .byte) (N' := N) (a0 := (N, .inl (fun _ => 0))) X.1 X.2.1 (X.w hcl) rfl X.k hz.1.1 hz.1.2.1 hz.2.1 X.A (fun cA => rfl) hn.1 hn.2.1 hn.2.2 hcs.1 hcs.2 hd (fun q cA H1 hK hP hD hS => ?_)
  have e1 := (hK.2 1 (tcA t 51, .byte) rfl).2
  have e2 := (hK.2 7 (cA, .byte) rfl).2
  have e3 : cA = tcA t 51 := Option.some.inj (Eq.trans (Eq.symm e2) e1)
  rw [e3] at hP hD
  obtain ⟨hna, hB⟩ := hz.1.new (g := g) (k := 51) (n := N) hP hD mE_ad51
  exact k q hna H1 locs ls hl ⟨hB, hS, fun h => by rw [hpu] at h; cases h⟩
theorem mE_ad52 {a n : Nat} {g : Nat × Nat} : mE (adT t a 52 n g) (zG G a) a = .inl (tcA t 52, n, .inl (fun _ => 0)) := by
  rw [mE_52 tk_ad, ai_z, tn_ad]
  rfl
theorem qn_52 {n : Int32} (N : Nat) (g : Nat × Nat) (X : kX p s m args meth c cc nL own t) (hpu : pu = false) (hd : decode cc pc = .ok (.newarray .boolean, 2)) (hcl : Cond.arrayClass .boolean ∈ GW) (hn : ¬ n < 0 ∧ n.toNatClampNeg = N ∧ N * componentBytes .boolean ≤ 536870912) (hcs : cs.1 + 1 ≤ R.cells ∧ cs.2 + N ≤ R.slots) (k : ∀ a, a ∉ tdom t → kV (cs.1 + 1, cs.2 + N) p l e R s m args below meth c Q nL (adT t a 52 N g) pu (pc + 2) lv (va_rf (some a) :: rest) (zG G a)) : kV cs p l e R s m args below meth c Q nL t pu pc lv (.int n :: rest) G := fun H locs ls hl hz => by
  refine va_newa (atype := .boolean) (D := tD t) (cl := mcl) (tys := mty t) (ws := va_pl (tdom t) (mE t G)) (A := tA t) (H0 := s.heap) (ty := .boolean) (N' := N) (a0 := (N, .inl (fun _ => 0))) X.1 X.2.1 (X.w hcl) rfl X.k hz.1.1 hz.1.2.1 hz.2.1 X.A (fun cA => rfl) hn.1 hn.2.1 hn.2.2 hcs.1 hcs.2 hd (fun q cA H1 hK hP hD hS => ?_)
  have e1 := (hK.2 2 (tcA t 52, .boolean) rfl).2
  have e2 := (hK.2 7 (cA, .boolean) rfl).2
  have e3 : cA = tcA t 52 := Option.some.inj (Eq.trans (Eq.symm e2) e1)
  rw [e3] at hP hD
  obtain ⟨hna, hB⟩ := hz.1.new (g := g) (k := 52) (n := N) hP hD mE_ad52
  exact k q hna H1 locs ls hl ⟨hB, hS, fun h => by rw [hpu] at h; cases h⟩
theorem mE_ad53 {a n : Nat} {g : Nat × Nat} : mE (adT t a 53 n g) (zG G a) a = .inl (tcA t 53, n, .inr (.inl (fun _ => 0))) := by
  rw [mE_53 tk_ad, al_z, tn_ad]
  rfl
theorem qn_53 {n : Int32} (N : Nat) (g : Nat × Nat) (X : kX p s m args meth c cc nL own t) (hpu : pu = false) (hd : decode cc pc = .ok (.newarray .long, 2)) (hcl : Cond.arrayClass .long ∈ GW) (hn : ¬ n < 0 ∧ n.toNatClampNeg = N ∧ N * componentBytes .long ≤ 536870912) (hcs : cs.1 + 1 ≤ R.cells ∧ cs.2 + N ≤ R.slots) (k : ∀ a, a ∉ tdom t → kV (cs.1 + 1, cs.2 + N) p l e R s m args below meth c Q nL (adT t a 53 N g) pu (pc + 2) lv (va_rf (some a) :: rest) (zG G a)) : kV cs p l e R s m args below meth c Q nL t pu pc lv (.int n :: rest) G := fun H locs ls hl hz => by
  refine va_newa (atype := .long) (D := tD t) (cl := mcl) (tys := mty t) (ws := va_pl (tdom t) (mE t G)) (A := tA t) (H0 := s.heap) (ty := .long) (N' := N) (a0 := (N, .inr (.inl (fun _ => 0)))) X.1 X.2.1 (X.w hcl) rfl X.k hz.1.1 hz.1.2.1 hz.2.1 X.A (fun cA => rfl) hn.1 hn.2.1 hn.2.2 hcs.1 hcs.2 hd (fun q cA H1 hK hP hD hS => ?_)
  have e1 := (hK.2 3 (tcA t 53, .long) rfl).2
  have e2 := (hK.2 7 (cA, .long) rfl).2
  have e3 : cA = tcA t 53 := Option.some.inj (Eq.trans (Eq.symm e2) e1)
  rw [e3] at hP hD
  obtain ⟨hna, hB⟩ := hz.1.new (g := g) (k := 53) (n := N) hP hD mE_ad53
  exact k q hna H1 locs ls hl ⟨hB, hS, fun h => by rw [hpu] at h; cases h⟩
theorem mE_ad54 {a n : Nat} {g : Nat × Nat} : mE (adT t a 54 n g) (zG G a) a = .inl (tcA t 54, n, .inr (.inr (.inr (.inr (fun _ => none))))) := by
  rw [mE_54 tk_ad, ar_z, tn_ad]
  rfl
theorem qn_54 {idx : Nat} {n : Int32} (N : Nat) (g : Nat × Nat) (X : kX p s m args meth c cc nL own t) (hpu : pu = false) (hd : decode cc pc = .ok (.anewarray idx, 3)) (hcl : Cond.classLink own idx "TreeServer$Node" ∈ GW) (hn : ¬ n < 0 ∧ n.toNatClampNeg = N ∧ N * 4 ≤ 536870912) (hcs : cs.1 + 1 ≤ R.cells ∧ cs.2 + N ≤ R.slots) (k : ∀ a, a ∉ tdom t → kV (cs.1 + 1, cs.2 + N) p l e R s m args below meth c Q nL (adT t a 54 N g) pu (pc + 3) lv (va_rf (some a) :: rest) (zG G a)) : kV cs p l e R s m args below meth c Q nL t pu pc lv (.int n :: rest) G := fun H locs ls hl hz => by
  refine va_newq (D := tD t) (cl := mcl) (tys := mty t) (ws := va_pl (tdom t) (mE t G)) (A := tA t) (H0 := s.heap) (C := "TreeServer$Node") (N' := N) X.1 X.2.1 X.o (X.w hcl) X.h.2.2.2.2.2.2.2.2.2.2.1.1 X.k hz.1.1 hz.1.2.1 hz.2.1 X.A hn.1 hn.2.1 hn.2.2 hcs.1 hcs.2 hd (fun q cA H1 hK hP hD hS => ?_)
  obtain ⟨kA, comp, f1, f2, f3, e1⟩ := (hK.2 4 (tcA t 54, .object "TreeServer$Node") rfl).2
  obtain ⟨kA', comp', f1', f2', f3', e2⟩ := (hK.2 7 (cA, .object "TreeServer$Node") rfl).2
  have e3 : cA = tcA t 54 := Option.some.inj (Eq.trans (Eq.symm e2) e1)
  rw [e3] at hP hD
  obtain ⟨hna, hB⟩ := hz.1.new (g := g) (k := 54) (n := N) hP hD mE_ad54
  exact k q hna H1 locs ls hl ⟨hB, hS, fun h => by rw [hpu] at h; cases h⟩
theorem mE_ad55 {a n : Nat} {g : Nat × Nat} : mE (adT t a 55 n g) (zG G a) a = .inl (tcA t 55, n, .inr (.inr (.inr (.inr (fun _ => none))))) := by
  rw [mE_55 tk_ad, ar_z, tn_ad]
  rfl
theorem qn_55 {idx : Nat} {n : Int32} (N : Nat) (g : Nat × Nat) (X : kX p s m args meth c cc nL own t) (hpu : pu = false) (hd : decode cc pc = .ok (.anewarray idx, 3)) (hcl : Cond.classLink own idx "TreeServer$Link" ∈ GW) (hn : ¬ n < 0 ∧ n.toNatClampNeg = N ∧ N * 4 ≤ 536870912) (hcs : cs.1 + 1 ≤ R.cells ∧ cs.2 + N ≤ R.slots) (k : ∀ a, a ∉ tdom t → kV (cs.1 + 1, cs.2 + N) p l e R s m args below meth c Q nL (adT t a 55 N g) pu (pc + 3) lv (va_rf (some a) :: rest) (zG G a)) : kV cs p l e R s m args below meth c Q nL t pu pc lv (.int n :: rest) G := fun H locs ls hl hz => by
  refine va_newq (D := tD t) (cl := mcl) (tys := mty t) (ws := va_pl (tdom t) (mE t G)) (A := tA t) (H0 := s.heap) (C := "TreeServer$Link") (N' := N) X.1 X.2.1 X.o (X.w hcl) X.h.2.2.2.2.2.2.2.2.2.2.1.2.1 X.k hz.1.1 hz.1.2.1 hz.2.1 X.A hn.1 hn.2.1 hn.2.2 hcs.1 hcs.2 hd (fun q cA H1 hK hP hD hS => ?_)
  obtain ⟨kA, comp, f1, f2, f3, e1⟩ := (hK.2 5 (tcA t 55, .object "TreeServer$Link") rfl).2
  obtain ⟨kA', comp', f1', f2', f3', e2⟩ := (hK.2 7 (cA, .object "TreeServer$Link") rfl).2
  have e3 : cA = tcA t 55 := Option.some.inj (Eq.trans (Eq.symm e2) e1)
  rw [e3] at hP hD
  obtain ⟨hna, hB⟩ := hz.1.new (g := g) (k := 55) (n := N) hP hD mE_ad55
  exact k q hna H1 locs ls hl ⟨hB, hS, fun h => by rw [hpu] at h; cases h⟩
theorem mE_ad56 {a n : Nat} {g : Nat × Nat} : mE (adT t a 56 n g) (zG G a) a = .inl (tcA t 56, n, .inr (.inr (.inr (.inr (fun _ => none))))) := by
  rw [mE_56 tk_ad, ar_z, tn_ad]
  rfl
theorem qn_56 {idx : Nat} {n : Int32} (N : Nat) (g : Nat × Nat) (X : kX p s m args meth c cc nL own t) (hpu : pu = false) (hd : decode cc pc = .ok (.anewarray idx, 3)) (hcl : Cond.classLink own idx "TreeServer$Fid" ∈ GW) (hn : ¬ n < 0 ∧ n.toNatClampNeg = N ∧ N * 4 ≤ 536870912) (hcs : cs.1 + 1 ≤ R.cells ∧ cs.2 + N ≤ R.slots) (k : ∀ a, a ∉ tdom t → kV (cs.1 + 1, cs.2 + N) p l e R s m args below meth c Q nL (adT t a 56 N g) pu (pc + 3) lv (va_rf (some a) :: rest) (zG G a)) : kV cs p l e R s m args below meth c Q nL t pu pc lv (.int n :: rest) G := fun H locs ls hl hz => by
  refine va_newq (D := tD t) (cl := mcl) (tys := mty t) (ws := va_pl (tdom t) (mE t G)) (A := tA t) (H0 := s.heap) (C := "TreeServer$Fid") (N' := N) X.1 X.2.1 X.o (X.w hcl) X.h.2.2.2.2.2.2.2.2.2.2.1.2.2 X.k hz.1.1 hz.1.2.1 hz.2.1 X.A hn.1 hn.2.1 hn.2.2 hcs.1 hcs.2 hd (fun q cA H1 hK hP hD hS => ?_)
  obtain ⟨kA, comp, f1, f2, f3, e1⟩ := (hK.2 6 (tcA t 56, .object "TreeServer$Fid") rfl).2
  obtain ⟨kA', comp', f1', f2', f3', e2⟩ := (hK.2 7 (cA, .object "TreeServer$Fid") rfl).2
  have e3 : cA = tcA t 56 := Option.some.inj (Eq.trans (Eq.symm e2) e1)
  rw [e3] at hP hD
  obtain ⟨hna, hB⟩ := hz.1.new (g := g) (k := 56) (n := N) hP hD mE_ad56
  exact k q hna H1 locs ls hl ⟨hB, hS, fun h => by rw [hpu] at h; cases h⟩
theorem q_objInit {idx : Nat} {r : Option Nat} {a : Nat} (X : kX p s m args meth c cc nL own t) (hd : decode cc pc = .ok (.invokespecial idx, 3)) (hw : Cond.methodLink own idx Lib.objectInit ∈ GW) (hi : Cond.instanceMethod Lib.objectInit ∈ GW) (hc : Cond.code Lib.objectInit ⟨#[0xb1]⟩ 1 none ∈ GW) (hr : r = some a) (hf : 1 ≤ R.frames) (hlo : (rest.map fun v => v.category).sum + 12 ≤ R.locals) (k : kV cs p l e R s m args below meth c Q nL t pu (pc + 3) lv rest G) : kV cs p l e R s m args below meth c Q nL t pu pc lv (va_rf r :: rest) G := fun H locs ls hl hz => by
  subst hr
  exact W.objInit X.1 X.2.1 X.o (X.w hw) (X.w hi) (X.w hc) rfl (X.2.2.1.symm ▸ hl.1) rfl hd hf (by rw [show 2 * (F0 m pc ls (va_rf (some a) :: rest)).monitorRoom = 0 from rfl, Nat.zero_add]; exact hlo) (k H locs ls hl hz)
theorem qf_9 {a idx : Nat} {r : Option Nat} {x : Nat} (X : kX p s m args meth c cc nL "TreeServer$Node" t) (hpu : pu = false) (hmn : meth.name = "<init>") (hd : decode cc pc = .ok (.putfield idx, 3)) (hw : Cond.fieldLink "TreeServer$Node" idx "TreeServer$Node" "name" "[B" ∈ GW) (hr : r = some a) (hk : tk t a = 1) (k : kV cs p l e R s m args below meth c Q nL t pu (pc + 3) lv rest (sr G 9 a (some x))) : kV cs p l e R s m args below meth c Q nL t pu pc lv (va_rf (some x) :: va_rf r :: rest) G := by
  subst hr
  intro H locs ls hl hz
  have ha := X.d hk (by decide)
  obtain ⟨q0, hq⟩ := hz.1.get ha
  have hq' := hq
  rw [mE_1 hk] at hq'
  refine va_putF (D := tD t) (cl := mcl) (tys := mty t) (ws := va_pl (tdom t) (mE t G)) (A := tA t) (H0 := s.heap) (ci := 0) (C := RK0) (T := TK0) (N := 13) (v := va_rf (some x)) (ty := .array .byte) X.1 X.2.1 X.ws (fun w h => GW_in (inK0 w h) (inG0 w h)) yK0 yK0_ok nmK0 X.o X.k hz.1.1 hz.1.2.1 hz.2.1 q0 hq' rfl 9 (by decide) (X.w hw) (fun _ h => h) rfl hmn rfl (by decide +kernel) rfl rfl (Nat.le_of_ble_eq_true rfl) hd (fun H1 locs1 hP hD hS => ?_)
  exact k H1 locs1 ls hl ⟨hz.1.set ha hq (by rw [mE_1 hk]; simp [gi, gl, gr, sr, u2]) (fun b hb => mE_sr hb) hP hD (fun b j h => hz.1.2.2 b j h), hS, fun h => by rw [hpu] at h; cases h⟩
theorem qf_11 {a idx : Nat} {r : Option Nat} {x : Nat} (X : kX p s m args meth c cc nL "TreeServer$Node" t) (hpu : pu = false) (hmn : meth.name = "<init>") (hd : decode cc pc = .ok (.putfield idx, 3)) (hw : Cond.fieldLink "TreeServer$Node" idx "TreeServer$Node" "content" "[B" ∈ GW) (hr : r = some a) (hk : tk t a = 1) (k : kV cs p l e R s m args below meth c Q nL t pu (pc + 3) lv rest (sr G 11 a (some x))) : kV cs p l e R s m args below meth c Q nL t pu pc lv (va_rf (some x) :: va_rf r :: rest) G := by
  subst hr
  intro H locs ls hl hz
  have ha := X.d hk (by decide)
  obtain ⟨q0, hq⟩ := hz.1.get ha
  have hq' := hq
  rw [mE_1 hk] at hq'
  refine va_putF (D := tD t) (cl := mcl) (tys := mty t) (ws := va_pl (tdom t) (mE t G)) (A := tA t) (H0 := s.heap) (ci := 0) (C := RK0) (T := TK0) (N := 13) (v := va_rf (some x)) (ty := .array .byte) X.1 X.2.1 X.ws (fun w h => GW_in (inK0 w h) (inG0 w h)) yK0 yK0_ok nmK0 X.o X.k hz.1.1 hz.1.2.1 hz.2.1 q0 hq' rfl 11 (by decide) (X.w hw) (fun _ h => h) rfl hmn rfl (by decide +kernel) rfl rfl (Nat.le_of_ble_eq_true rfl) hd (fun H1 locs1 hP hD hS => ?_)
  exact k H1 locs1 ls hl ⟨hz.1.set ha hq (by rw [mE_1 hk]; simp [gi, gl, gr, sr, u2]) (fun b hb => mE_sr hb) hP hD (fun b j h => hz.1.2.2 b j h), hS, fun h => by rw [hpu] at h; cases h⟩
theorem qf_13 {a idx : Nat} {r : Option Nat} {x : Nat} (X : kX p s m args meth c cc nL "TreeServer$Tree" t) (hpu : pu = false) (hmn : meth.name = "<init>") (hd : decode cc pc = .ok (.putfield idx, 3)) (hw : Cond.fieldLink "TreeServer$Tree" idx "TreeServer$Tree" "root" "LTreeServer$Node;" ∈ GW) (hr : r = some a) (hk : tk t a = 2) (k : kV cs p l e R s m args below meth c Q nL t pu (pc + 3) lv rest (sr G 13 a (some x))) : kV cs p l e R s m args below meth c Q nL t pu pc lv (va_rf (some x) :: va_rf r :: rest) G := by
  subst hr
  intro H locs ls hl hz
  have ha := X.d hk (by decide)
  obtain ⟨q0, hq⟩ := hz.1.get ha
  have hq' := hq
  rw [mE_2 hk] at hq'
  refine va_putF (D := tD t) (cl := mcl) (tys := mty t) (ws := va_pl (tdom t) (mE t G)) (A := tA t) (H0 := s.heap) (ci := 1) (C := RK1) (T := TK1) (N := 4) (v := va_rf (some x)) (ty := .object "TreeServer$Node") X.1 X.2.1 X.ws (fun w h => GW_in (inK1 w h) (inG1 w h)) yK1 yK1_ok nmK1 X.o X.k hz.1.1 hz.1.2.1 hz.2.1 q0 hq' rfl 0 (by decide) (X.w hw) (fun _ h => h) rfl hmn rfl (by decide +kernel) rfl rfl (Nat.le_of_ble_eq_true rfl) hd (fun H1 locs1 hP hD hS => ?_)
  exact k H1 locs1 ls hl ⟨hz.1.set ha hq (by rw [mE_2 hk]; simp [gi, gl, gr, sr, u2]) (fun b hb => mE_sr hb) hP hD (fun b j h => hz.1.2.2 b j h), hS, fun h => by rw [hpu] at h; cases h⟩
theorem qf_14 {a idx : Nat} {r : Option Nat} {x : Nat} (X : kX p s m args meth c cc nL "TreeServer$Tree" t) (hpu : pu = false) (hmn : meth.name = "<init>") (hd : decode cc pc = .ok (.putfield idx, 3)) (hw : Cond.fieldLink "TreeServer$Tree" idx "TreeServer$Tree" "nodes" "[LTreeServer$Node;" ∈ GW) (hr : r = some a) (hk : tk t a = 2) (k : kV cs p l e R s m args below meth c Q nL t pu (pc + 3) lv rest (sr G 14 a (some x))) : kV cs p l e R s m args below meth c Q nL t pu pc lv (va_rf (some x) :: va_rf r :: rest) G := by
  subst hr
  intro H locs ls hl hz
  have ha := X.d hk (by decide)
  obtain ⟨q0, hq⟩ := hz.1.get ha
  have hq' := hq
  rw [mE_2 hk] at hq'
  refine va_putF (D := tD t) (cl := mcl) (tys := mty t) (ws := va_pl (tdom t) (mE t G)) (A := tA t) (H0 := s.heap) (ci := 1) (C := RK1) (T := TK1) (N := 4) (v := va_rf (some x)) (ty := .array (.object "TreeServer$Node")) X.1 X.2.1 X.ws (fun w h => GW_in (inK1 w h) (inG1 w h)) yK1 yK1_ok nmK1 X.o X.k hz.1.1 hz.1.2.1 hz.2.1 q0 hq' rfl 1 (by decide) (X.w hw) (fun _ h => h) rfl hmn rfl (by decide +kernel) rfl rfl (Nat.le_of_ble_eq_true rfl) hd (fun H1 locs1 hP hD hS => ?_)
  exact k H1 locs1 ls hl ⟨hz.1.set ha hq (by rw [mE_2 hk]; simp [gi, gl, gr, sr, u2]) (fun b hb => mE_sr hb) hP hD (fun b j h => hz.1.2.2 b j h), hS, fun h => by rw [hpu] at h; cases h⟩
theorem qf_31 {a idx : Nat} {r : Option Nat} {x : Nat} (X : kX p s m args meth c cc nL "TreeServer$Change" t) (hpu : pu = false) (hmn : meth.name = "<init>") (hd : decode cc pc = .ok (.putfield idx, 3)) (hw : Cond.fieldLink "TreeServer$Change" idx "TreeServer$Change" "name" "[B" ∈ GW) (hr : r = some a) (hk : tk t a = 4) (k : kV cs p l e R s m args below meth c Q nL t pu (pc + 3) lv rest (sr G 31 a (some x))) : kV cs p l e R s m args below meth c Q nL t pu pc lv (va_rf (some x) :: va_rf r :: rest) G := by
  subst hr
  intro H locs ls hl hz
  have ha := X.d hk (by decide)
  obtain ⟨q0, hq⟩ := hz.1.get ha
  have hq' := hq
  rw [mE_4 hk] at hq'
  refine va_putF (D := tD t) (cl := mcl) (tys := mty t) (ws := va_pl (tdom t) (mE t G)) (A := tA t) (H0 := s.heap) (ci := 3) (C := RK3) (T := TK3) (N := 15) (v := va_rf (some x)) (ty := .array .byte) X.1 X.2.1 X.ws (fun w h => GW_in (inK3 w h) (inG3 w h)) yK3 yK3_ok nmK3 X.o X.k hz.1.1 hz.1.2.1 hz.2.1 q0 hq' rfl 10 (by decide) (X.w hw) (fun _ h => h) rfl hmn rfl (by decide +kernel) rfl rfl (Nat.le_of_ble_eq_true rfl) hd (fun H1 locs1 hP hD hS => ?_)
  exact k H1 locs1 ls hl ⟨hz.1.set ha hq (by rw [mE_4 hk]; simp [gi, gl, gr, sr, u2]) (fun b hb => mE_sr hb) hP hD (fun b j h => hz.1.2.2 b j h), hS, fun h => by rw [hpu] at h; cases h⟩
theorem qf_33 {a idx : Nat} {r : Option Nat} {x : Nat} (X : kX p s m args meth c cc nL "TreeServer$Change" t) (hpu : pu = false) (hmn : meth.name = "<init>") (hd : decode cc pc = .ok (.putfield idx, 3)) (hw : Cond.fieldLink "TreeServer$Change" idx "TreeServer$Change" "bytes" "[B" ∈ GW) (hr : r = some a) (hk : tk t a = 4) (k : kV cs p l e R s m args below meth c Q nL t pu (pc + 3) lv rest (sr G 33 a (some x))) : kV cs p l e R s m args below meth c Q nL t pu pc lv (va_rf (some x) :: va_rf r :: rest) G := by
  subst hr
  intro H locs ls hl hz
  have ha := X.d hk (by decide)
  obtain ⟨q0, hq⟩ := hz.1.get ha
  have hq' := hq
  rw [mE_4 hk] at hq'
  refine va_putF (D := tD t) (cl := mcl) (tys := mty t) (ws := va_pl (tdom t) (mE t G)) (A := tA t) (H0 := s.heap) (ci := 3) (C := RK3) (T := TK3) (N := 15) (v := va_rf (some x)) (ty := .array .byte) X.1 X.2.1 X.ws (fun w h => GW_in (inK3 w h) (inG3 w h)) yK3 yK3_ok nmK3 X.o X.k hz.1.1 hz.1.2.1 hz.2.1 q0 hq' rfl 12 (by decide) (X.w hw) (fun _ h => h) rfl hmn rfl (by decide +kernel) rfl rfl (Nat.le_of_ble_eq_true rfl) hd (fun H1 locs1 hP hD hS => ?_)
  exact k H1 locs1 ls hl ⟨hz.1.set ha hq (by rw [mE_4 hk]; simp [gi, gl, gr, sr, u2]) (fun b hb => mE_sr hb) hP hD (fun b j h => hz.1.2.2 b j h), hS, fun h => by rw [hpu] at h; cases h⟩
theorem qf_36 {a idx : Nat} {r : Option Nat} {x : Nat} (X : kX p s m args meth c cc nL "TreeServer$Message" t) (hpu : pu = false) (hmn : meth.name = "<init>") (hd : decode cc pc = .ok (.putfield idx, 3)) (hw : Cond.fieldLink "TreeServer$Message" idx "TreeServer$Message" "bytes" "[B" ∈ GW) (hr : r = some a) (hk : tk t a = 5) (k : kV cs p l e R s m args below meth c Q nL t pu (pc + 3) lv rest (sr G 36 a (some x))) : kV cs p l e R s m args below meth c Q nL t pu pc lv (va_rf (some x) :: va_rf r :: rest) G := by
  subst hr
  intro H locs ls hl hz
  have ha := X.d hk (by decide)
  obtain ⟨q0, hq⟩ := hz.1.get ha
  have hq' := hq
  rw [mE_5 hk] at hq'
  refine va_putF (D := tD t) (cl := mcl) (tys := mty t) (ws := va_pl (tdom t) (mE t G)) (A := tA t) (H0 := s.heap) (ci := 4) (C := RK4) (T := TK4) (N := 8) (v := va_rf (some x)) (ty := .array .byte) X.1 X.2.1 X.ws (fun w h => GW_in (inK4 w h) (inG4 w h)) yK4 yK4_ok nmK4 X.o X.k hz.1.1 hz.1.2.1 hz.2.1 q0 hq' rfl 0 (by decide) (X.w hw) (fun _ h => h) rfl hmn rfl (by decide +kernel) rfl rfl (Nat.le_of_ble_eq_true rfl) hd (fun H1 locs1 hP hD hS => ?_)
  exact k H1 locs1 ls hl ⟨hz.1.set ha hq (by rw [mE_5 hk]; simp [gi, gl, gr, sr, u2]) (fun b hb => mE_sr hb) hP hD (fun b j h => hz.1.2.2 b j h), hS, fun h => by rw [hpu] at h; cases h⟩
theorem qf_40 {a idx : Nat} {r : Option Nat} {x : Nat} (X : kX p s m args meth c cc nL "TreeServer$Message" t) (hpu : pu = false) (hmn : meth.name = "<init>") (hd : decode cc pc = .ok (.putfield idx, 3)) (hw : Cond.fieldLink "TreeServer$Message" idx "TreeServer$Message" "textAt" "[I" ∈ GW) (hr : r = some a) (hk : tk t a = 5) (k : kV cs p l e R s m args below meth c Q nL t pu (pc + 3) lv rest (sr G 40 a (some x))) : kV cs p l e R s m args below meth c Q nL t pu pc lv (va_rf (some x) :: va_rf r :: rest) G := by
  subst hr
  intro H locs ls hl hz
  have ha := X.d hk (by decide)
  obtain ⟨q0, hq⟩ := hz.1.get ha
  have hq' := hq
  rw [mE_5 hk] at hq'
  refine va_putF (D := tD t) (cl := mcl) (tys := mty t) (ws := va_pl (tdom t) (mE t G)) (A := tA t) (H0 := s.heap) (ci := 4) (C := RK4) (T := TK4) (N := 8) (v := va_rf (some x)) (ty := .array .int) X.1 X.2.1 X.ws (fun w h => GW_in (inK4 w h) (inG4 w h)) yK4 yK4_ok nmK4 X.o X.k hz.1.1 hz.1.2.1 hz.2.1 q0 hq' rfl 4 (by decide) (X.w hw) (fun _ h => h) rfl hmn rfl (by decide +kernel) rfl rfl (Nat.le_of_ble_eq_true rfl) hd (fun H1 locs1 hP hD hS => ?_)
  exact k H1 locs1 ls hl ⟨hz.1.set ha hq (by rw [mE_5 hk]; simp [gi, gl, gr, sr, u2]) (fun b hb => mE_sr hb) hP hD (fun b j h => hz.1.2.2 b j h), hS, fun h => by rw [hpu] at h; cases h⟩
theorem qf_41 {a idx : Nat} {r : Option Nat} {x : Nat} (X : kX p s m args meth c cc nL "TreeServer$Message" t) (hpu : pu = false) (hmn : meth.name = "<init>") (hd : decode cc pc = .ok (.putfield idx, 3)) (hw : Cond.fieldLink "TreeServer$Message" idx "TreeServer$Message" "textLength" "[I" ∈ GW) (hr : r = some a) (hk : tk t a = 5) (k : kV cs p l e R s m args below meth c Q nL t pu (pc + 3) lv rest (sr G 41 a (some x))) : kV cs p l e R s m args below meth c Q nL t pu pc lv (va_rf (some x) :: va_rf r :: rest) G := by
  subst hr
  intro H locs ls hl hz
  have ha := X.d hk (by decide)
  obtain ⟨q0, hq⟩ := hz.1.get ha
  have hq' := hq
  rw [mE_5 hk] at hq'
  refine va_putF (D := tD t) (cl := mcl) (tys := mty t) (ws := va_pl (tdom t) (mE t G)) (A := tA t) (H0 := s.heap) (ci := 4) (C := RK4) (T := TK4) (N := 8) (v := va_rf (some x)) (ty := .array .int) X.1 X.2.1 X.ws (fun w h => GW_in (inK4 w h) (inG4 w h)) yK4 yK4_ok nmK4 X.o X.k hz.1.1 hz.1.2.1 hz.2.1 q0 hq' rfl 5 (by decide) (X.w hw) (fun _ h => h) rfl hmn rfl (by decide +kernel) rfl rfl (Nat.le_of_ble_eq_true rfl) hd (fun H1 locs1 hP hD hS => ?_)
  exact k H1 locs1 ls hl ⟨hz.1.set ha hq (by rw [mE_5 hk]; simp [gi, gl, gr, sr, u2]) (fun b hb => mE_sr hb) hP hD (fun b j h => hz.1.2.2 b j h), hS, fun h => by rw [hpu] at h; cases h⟩
theorem qf_44 {a idx : Nat} {r : Option Nat} {x : Nat} (X : kX p s m args meth c cc nL "TreeServer$Answer" t) (hpu : pu = false) (hmn : meth.name = "<init>") (hd : decode cc pc = .ok (.putfield idx, 3)) (hw : Cond.fieldLink "TreeServer$Answer" idx "TreeServer$Answer" "bytes" "[B" ∈ GW) (hr : r = some a) (hk : tk t a = 6) (k : kV cs p l e R s m args below meth c Q nL t pu (pc + 3) lv rest (sr G 44 a (some x))) : kV cs p l e R s m args below meth c Q nL t pu pc lv (va_rf (some x) :: va_rf r :: rest) G := by
  subst hr
  intro H locs ls hl hz
  have ha := X.d hk (by decide)
  obtain ⟨q0, hq⟩ := hz.1.get ha
  have hq' := hq
  rw [mE_6 hk] at hq'
  refine va_putF (D := tD t) (cl := mcl) (tys := mty t) (ws := va_pl (tdom t) (mE t G)) (A := tA t) (H0 := s.heap) (ci := 5) (C := RK5) (T := TK5) (N := 2) (v := va_rf (some x)) (ty := .array .byte) X.1 X.2.1 X.ws (fun w h => GW_in (inK5 w h) (inG5 w h)) yK5 yK5_ok nmK5 X.o X.k hz.1.1 hz.1.2.1 hz.2.1 q0 hq' rfl 0 (by decide) (X.w hw) (fun _ h => h) rfl hmn rfl (by decide +kernel) rfl rfl (Nat.le_of_ble_eq_true rfl) hd (fun H1 locs1 hP hD hS => ?_)
  exact k H1 locs1 ls hl ⟨hz.1.set ha hq (by rw [mE_6 hk]; simp [gi, gl, gr, sr, u2]) (fun b hb => mE_sr hb) hP hD (fun b j h => hz.1.2.2 b j h), hS, fun h => by rw [hpu] at h; cases h⟩
theorem qf_55 {a idx : Nat} {r : Option Nat} {x : Nat} (X : kX p s m args meth c cc nL "TreeServer$Link" t) (hpu : pu = false) (hmn : meth.name = "<init>") (hd : decode cc pc = .ok (.putfield idx, 3)) (hw : Cond.fieldLink "TreeServer$Link" idx "TreeServer$Link" "input" "[B" ∈ GW) (hr : r = some a) (hk : tk t a = 8) (k : kV cs p l e R s m args below meth c Q nL t pu (pc + 3) lv rest (sr G 55 a (some x))) : kV cs p l e R s m args below meth c Q nL t pu pc lv (va_rf (some x) :: va_rf r :: rest) G := by
  subst hr
  intro H locs ls hl hz
  have ha := X.d hk (by decide)
  obtain ⟨q0, hq⟩ := hz.1.get ha
  have hq' := hq
  rw [mE_8 hk] at hq'
  refine va_putF (D := tD t) (cl := mcl) (tys := mty t) (ws := va_pl (tdom t) (mE t G)) (A := tA t) (H0 := s.heap) (ci := 7) (C := RK7) (T := TK7) (N := 8) (v := va_rf (some x)) (ty := .array .byte) X.1 X.2.1 X.ws (fun w h => GW_in (inK7 w h) (inG7 w h)) yK7 yK7_ok nmK7 X.o X.k hz.1.1 hz.1.2.1 hz.2.1 q0 hq' rfl 0 (by decide) (X.w hw) (fun _ h => h) rfl hmn rfl (by decide +kernel) rfl rfl (Nat.le_of_ble_eq_true rfl) hd (fun H1 locs1 hP hD hS => ?_)
  exact k H1 locs1 ls hl ⟨hz.1.set ha hq (by rw [mE_8 hk]; simp [gi, gl, gr, sr, u2]) (fun b hb => mE_sr hb) hP hD (fun b j h => hz.1.2.2 b j h), hS, fun h => by rw [hpu] at h; cases h⟩
theorem qf_57 {a idx : Nat} {r : Option Nat} {x : Nat} (X : kX p s m args meth c cc nL "TreeServer$Link" t) (hpu : pu = false) (hmn : meth.name = "<init>") (hd : decode cc pc = .ok (.putfield idx, 3)) (hw : Cond.fieldLink "TreeServer$Link" idx "TreeServer$Link" "output" "[B" ∈ GW) (hr : r = some a) (hk : tk t a = 8) (k : kV cs p l e R s m args below meth c Q nL t pu (pc + 3) lv rest (sr G 57 a (some x))) : kV cs p l e R s m args below meth c Q nL t pu pc lv (va_rf (some x) :: va_rf r :: rest) G := by
  subst hr
  intro H locs ls hl hz
  have ha := X.d hk (by decide)
  obtain ⟨q0, hq⟩ := hz.1.get ha
  have hq' := hq
  rw [mE_8 hk] at hq'
  refine va_putF (D := tD t) (cl := mcl) (tys := mty t) (ws := va_pl (tdom t) (mE t G)) (A := tA t) (H0 := s.heap) (ci := 7) (C := RK7) (T := TK7) (N := 8) (v := va_rf (some x)) (ty := .array .byte) X.1 X.2.1 X.ws (fun w h => GW_in (inK7 w h) (inG7 w h)) yK7 yK7_ok nmK7 X.o X.k hz.1.1 hz.1.2.1 hz.2.1 q0 hq' rfl 2 (by decide) (X.w hw) (fun _ h => h) rfl hmn rfl (by decide +kernel) rfl rfl (Nat.le_of_ble_eq_true rfl) hd (fun H1 locs1 hP hD hS => ?_)
  exact k H1 locs1 ls hl ⟨hz.1.set ha hq (by rw [mE_8 hk]; simp [gi, gl, gr, sr, u2]) (fun b hb => mE_sr hb) hP hD (fun b j h => hz.1.2.2 b j h), hS, fun h => by rw [hpu] at h; cases h⟩
theorem qf_62 {a idx : Nat} {r : Option Nat} {x : Nat} (X : kX p s m args meth c cc nL "TreeServer$Link" t) (hpu : pu = false) (hmn : meth.name = "<init>") (hd : decode cc pc = .ok (.putfield idx, 3)) (hw : Cond.fieldLink "TreeServer$Link" idx "TreeServer$Link" "fids" "[LTreeServer$Fid;" ∈ GW) (hr : r = some a) (hk : tk t a = 8) (k : kV cs p l e R s m args below meth c Q nL t pu (pc + 3) lv rest (sr G 62 a (some x))) : kV cs p l e R s m args below meth c Q nL t pu pc lv (va_rf (some x) :: va_rf r :: rest) G := by
  subst hr
  intro H locs ls hl hz
  have ha := X.d hk (by decide)
  obtain ⟨q0, hq⟩ := hz.1.get ha
  have hq' := hq
  rw [mE_8 hk] at hq'
  refine va_putF (D := tD t) (cl := mcl) (tys := mty t) (ws := va_pl (tdom t) (mE t G)) (A := tA t) (H0 := s.heap) (ci := 7) (C := RK7) (T := TK7) (N := 8) (v := va_rf (some x)) (ty := .array (.object "TreeServer$Fid")) X.1 X.2.1 X.ws (fun w h => GW_in (inK7 w h) (inG7 w h)) yK7 yK7_ok nmK7 X.o X.k hz.1.1 hz.1.2.1 hz.2.1 q0 hq' rfl 7 (by decide) (X.w hw) (fun _ h => h) rfl hmn rfl (by decide +kernel) rfl rfl (Nat.le_of_ble_eq_true rfl) hd (fun H1 locs1 hP hD hS => ?_)
  exact k H1 locs1 ls hl ⟨hz.1.set ha hq (by rw [mE_8 hk]; simp [gi, gl, gr, sr, u2]) (fun b hb => mE_sr hb) hP hD (fun b j h => hz.1.2.2 b j h), hS, fun h => by rw [hpu] at h; cases h⟩
theorem qf_63 {a idx : Nat} {r : Option Nat} {x : Nat} (X : kX p s m args meth c cc nL "TreeServer" t) (hpu : pu = false) (hmn : meth.name = "<init>") (hd : decode cc pc = .ok (.putfield idx, 3)) (hw : Cond.fieldLink "TreeServer" idx "TreeServer" "tree" "LTreeServer$Tree;" ∈ GW) (hr : r = some a) (hk : tk t a = 9) (k : kV cs p l e R s m args below meth c Q nL t pu (pc + 3) lv rest (sr G 63 a (some x))) : kV cs p l e R s m args below meth c Q nL t pu pc lv (va_rf (some x) :: va_rf r :: rest) G := by
  subst hr
  intro H locs ls hl hz
  have ha := X.d hk (by decide)
  obtain ⟨q0, hq⟩ := hz.1.get ha
  have hq' := hq
  rw [mE_9 hk] at hq'
  refine va_putF (D := tD t) (cl := mcl) (tys := mty t) (ws := va_pl (tdom t) (mE t G)) (A := tA t) (H0 := s.heap) (ci := 8) (C := RK8) (T := TK8) (N := 7) (v := va_rf (some x)) (ty := .object "TreeServer$Tree") X.1 X.2.1 X.ws (fun w h => GW_in (inK8 w h) (inG8 w h)) yK8 yK8_ok nmK8 X.o X.k hz.1.1 hz.1.2.1 hz.2.1 q0 hq' rfl 0 (by decide) (X.w hw) (fun _ h => h) rfl hmn rfl (by decide +kernel) rfl rfl (Nat.le_of_ble_eq_true rfl) hd (fun H1 locs1 hP hD hS => ?_)
  exact k H1 locs1 ls hl ⟨hz.1.set ha hq (by rw [mE_9 hk]; simp [gi, gl, gr, sr, u2]) (fun b hb => mE_sr hb) hP hD (fun b j h => hz.1.2.2 b j h), hS, fun h => by rw [hpu] at h; cases h⟩
theorem qf_64 {a idx : Nat} {r : Option Nat} {x : Nat} (X : kX p s m args meth c cc nL "TreeServer" t) (hpu : pu = false) (hmn : meth.name = "<init>") (hd : decode cc pc = .ok (.putfield idx, 3)) (hw : Cond.fieldLink "TreeServer" idx "TreeServer" "log" "LTreeServer$Log;" ∈ GW) (hr : r = some a) (hk : tk t a = 9) (k : kV cs p l e R s m args below meth c Q nL t pu (pc + 3) lv rest (sr G 64 a (some x))) : kV cs p l e R s m args below meth c Q nL t pu pc lv (va_rf (some x) :: va_rf r :: rest) G := by
  subst hr
  intro H locs ls hl hz
  have ha := X.d hk (by decide)
  obtain ⟨q0, hq⟩ := hz.1.get ha
  have hq' := hq
  rw [mE_9 hk] at hq'
  refine va_putF (D := tD t) (cl := mcl) (tys := mty t) (ws := va_pl (tdom t) (mE t G)) (A := tA t) (H0 := s.heap) (ci := 8) (C := RK8) (T := TK8) (N := 7) (v := va_rf (some x)) (ty := .object "TreeServer$Log") X.1 X.2.1 X.ws (fun w h => GW_in (inK8 w h) (inG8 w h)) yK8 yK8_ok nmK8 X.o X.k hz.1.1 hz.1.2.1 hz.2.1 q0 hq' rfl 1 (by decide) (X.w hw) (fun _ h => h) rfl hmn rfl (by decide +kernel) rfl rfl (Nat.le_of_ble_eq_true rfl) hd (fun H1 locs1 hP hD hS => ?_)
  exact k H1 locs1 ls hl ⟨hz.1.set ha hq (by rw [mE_9 hk]; simp [gi, gl, gr, sr, u2]) (fun b hb => mE_sr hb) hP hD (fun b j h => hz.1.2.2 b j h), hS, fun h => by rw [hpu] at h; cases h⟩
theorem qf_65 {a idx : Nat} {r : Option Nat} {x : Nat} (X : kX p s m args meth c cc nL "TreeServer" t) (hpu : pu = false) (hmn : meth.name = "<init>") (hd : decode cc pc = .ok (.putfield idx, 3)) (hw : Cond.fieldLink "TreeServer" idx "TreeServer" "change" "LTreeServer$Change;" ∈ GW) (hr : r = some a) (hk : tk t a = 9) (k : kV cs p l e R s m args below meth c Q nL t pu (pc + 3) lv rest (sr G 65 a (some x))) : kV cs p l e R s m args below meth c Q nL t pu pc lv (va_rf (some x) :: va_rf r :: rest) G := by
  subst hr
  intro H locs ls hl hz
  have ha := X.d hk (by decide)
  obtain ⟨q0, hq⟩ := hz.1.get ha
  have hq' := hq
  rw [mE_9 hk] at hq'
  refine va_putF (D := tD t) (cl := mcl) (tys := mty t) (ws := va_pl (tdom t) (mE t G)) (A := tA t) (H0 := s.heap) (ci := 8) (C := RK8) (T := TK8) (N := 7) (v := va_rf (some x)) (ty := .object "TreeServer$Change") X.1 X.2.1 X.ws (fun w h => GW_in (inK8 w h) (inG8 w h)) yK8 yK8_ok nmK8 X.o X.k hz.1.1 hz.1.2.1 hz.2.1 q0 hq' rfl 2 (by decide) (X.w hw) (fun _ h => h) rfl hmn rfl (by decide +kernel) rfl rfl (Nat.le_of_ble_eq_true rfl) hd (fun H1 locs1 hP hD hS => ?_)
  exact k H1 locs1 ls hl ⟨hz.1.set ha hq (by rw [mE_9 hk]; simp [gi, gl, gr, sr, u2]) (fun b hb => mE_sr hb) hP hD (fun b j h => hz.1.2.2 b j h), hS, fun h => by rw [hpu] at h; cases h⟩
theorem qf_66 {a idx : Nat} {r : Option Nat} {x : Nat} (X : kX p s m args meth c cc nL "TreeServer" t) (hpu : pu = false) (hmn : meth.name = "<init>") (hd : decode cc pc = .ok (.putfield idx, 3)) (hw : Cond.fieldLink "TreeServer" idx "TreeServer" "message" "LTreeServer$Message;" ∈ GW) (hr : r = some a) (hk : tk t a = 9) (k : kV cs p l e R s m args below meth c Q nL t pu (pc + 3) lv rest (sr G 66 a (some x))) : kV cs p l e R s m args below meth c Q nL t pu pc lv (va_rf (some x) :: va_rf r :: rest) G := by
  subst hr
  intro H locs ls hl hz
  have ha := X.d hk (by decide)
  obtain ⟨q0, hq⟩ := hz.1.get ha
  have hq' := hq
  rw [mE_9 hk] at hq'
  refine va_putF (D := tD t) (cl := mcl) (tys := mty t) (ws := va_pl (tdom t) (mE t G)) (A := tA t) (H0 := s.heap) (ci := 8) (C := RK8) (T := TK8) (N := 7) (v := va_rf (some x)) (ty := .object "TreeServer$Message") X.1 X.2.1 X.ws (fun w h => GW_in (inK8 w h) (inG8 w h)) yK8 yK8_ok nmK8 X.o X.k hz.1.1 hz.1.2.1 hz.2.1 q0 hq' rfl 3 (by decide) (X.w hw) (fun _ h => h) rfl hmn rfl (by decide +kernel) rfl rfl (Nat.le_of_ble_eq_true rfl) hd (fun H1 locs1 hP hD hS => ?_)
  exact k H1 locs1 ls hl ⟨hz.1.set ha hq (by rw [mE_9 hk]; simp [gi, gl, gr, sr, u2]) (fun b hb => mE_sr hb) hP hD (fun b j h => hz.1.2.2 b j h), hS, fun h => by rw [hpu] at h; cases h⟩
theorem qf_67 {a idx : Nat} {r : Option Nat} {x : Nat} (X : kX p s m args meth c cc nL "TreeServer" t) (hpu : pu = false) (hmn : meth.name = "<init>") (hd : decode cc pc = .ok (.putfield idx, 3)) (hw : Cond.fieldLink "TreeServer" idx "TreeServer" "answer" "LTreeServer$Answer;" ∈ GW) (hr : r = some a) (hk : tk t a = 9) (k : kV cs p l e R s m args below meth c Q nL t pu (pc + 3) lv rest (sr G 67 a (some x))) : kV cs p l e R s m args below meth c Q nL t pu pc lv (va_rf (some x) :: va_rf r :: rest) G := by
  subst hr
  intro H locs ls hl hz
  have ha := X.d hk (by decide)
  obtain ⟨q0, hq⟩ := hz.1.get ha
  have hq' := hq
  rw [mE_9 hk] at hq'
  refine va_putF (D := tD t) (cl := mcl) (tys := mty t) (ws := va_pl (tdom t) (mE t G)) (A := tA t) (H0 := s.heap) (ci := 8) (C := RK8) (T := TK8) (N := 7) (v := va_rf (some x)) (ty := .object "TreeServer$Answer") X.1 X.2.1 X.ws (fun w h => GW_in (inK8 w h) (inG8 w h)) yK8 yK8_ok nmK8 X.o X.k hz.1.1 hz.1.2.1 hz.2.1 q0 hq' rfl 4 (by decide) (X.w hw) (fun _ h => h) rfl hmn rfl (by decide +kernel) rfl rfl (Nat.le_of_ble_eq_true rfl) hd (fun H1 locs1 hP hD hS => ?_)
  exact k H1 locs1 ls hl ⟨hz.1.set ha hq (by rw [mE_9 hk]; simp [gi, gl, gr, sr, u2]) (fun b hb => mE_sr hb) hP hD (fun b j h => hz.1.2.2 b j h), hS, fun h => by rw [hpu] at h; cases h⟩
theorem qf_68 {a idx : Nat} {r : Option Nat} {x : Nat} (X : kX p s m args meth c cc nL "TreeServer" t) (hpu : pu = false) (hmn : meth.name = "<init>") (hd : decode cc pc = .ok (.putfield idx, 3)) (hw : Cond.fieldLink "TreeServer" idx "TreeServer" "links" "[LTreeServer$Link;" ∈ GW) (hr : r = some a) (hk : tk t a = 9) (k : kV cs p l e R s m args below meth c Q nL t pu (pc + 3) lv rest (sr G 68 a (some x))) : kV cs p l e R s m args below meth c Q nL t pu pc lv (va_rf (some x) :: va_rf r :: rest) G := by
  subst hr
  intro H locs ls hl hz
  have ha := X.d hk (by decide)
  obtain ⟨q0, hq⟩ := hz.1.get ha
  have hq' := hq
  rw [mE_9 hk] at hq'
  refine va_putF (D := tD t) (cl := mcl) (tys := mty t) (ws := va_pl (tdom t) (mE t G)) (A := tA t) (H0 := s.heap) (ci := 8) (C := RK8) (T := TK8) (N := 7) (v := va_rf (some x)) (ty := .array (.object "TreeServer$Link")) X.1 X.2.1 X.ws (fun w h => GW_in (inK8 w h) (inG8 w h)) yK8 yK8_ok nmK8 X.o X.k hz.1.1 hz.1.2.1 hz.2.1 q0 hq' rfl 5 (by decide) (X.w hw) (fun _ h => h) rfl hmn rfl (by decide +kernel) rfl rfl (Nat.le_of_ble_eq_true rfl) hd (fun H1 locs1 hP hD hS => ?_)
  exact k H1 locs1 ls hl ⟨hz.1.set ha hq (by rw [mE_9 hk]; simp [gi, gl, gr, sr, u2]) (fun b hb => mE_sr hb) hP hD (fun b j h => hz.1.2.2 b j h), hS, fun h => by rw [hpu] at h; cases h⟩
theorem qf_70 {a idx : Nat} {r : Option Nat} {x : Nat} (X : kX p s m args meth c cc nL "TreeServerModel" t) (hpu : pu = false) (hmn : meth.name = "<init>") (hd : decode cc pc = .ok (.putfield idx, 3)) (hw : Cond.fieldLink "TreeServerModel" idx "TreeServerModel" "tree" "[I" ∈ GW) (hr : r = some a) (hk : tk t a = 10) (k : kV cs p l e R s m args below meth c Q nL t pu (pc + 3) lv rest (sr G 70 a (some x))) : kV cs p l e R s m args below meth c Q nL t pu pc lv (va_rf (some x) :: va_rf r :: rest) G := by
  subst hr
  intro H locs ls hl hz
  have ha := X.d hk (by decide)
  obtain ⟨q0, hq⟩ := hz.1.get ha
  have hq' := hq
  rw [mE_10 hk] at hq'
  refine va_putF (D := tD t) (cl := mcl) (tys := mty t) (ws := va_pl (tdom t) (mE t G)) (A := tA t) (H0 := s.heap) (ci := 9) (C := RK9) (T := TK9) (N := 30) (v := va_rf (some x)) (ty := .array .int) X.1 X.2.1 X.ws (fun w h => GW_in (inK9 w h) (inG9 w h)) yK9 yK9_ok nmK9 X.o X.k hz.1.1 hz.1.2.1 hz.2.1 q0 hq' rfl 0 (by decide) (X.w hw) (fun _ h => h) rfl hmn rfl (by decide +kernel) rfl rfl (Nat.le_of_ble_eq_true rfl) hd (fun H1 locs1 hP hD hS => ?_)
  exact k H1 locs1 ls hl ⟨hz.1.set ha hq (by rw [mE_10 hk]; simp [gi, gl, gr, sr, u2]) (fun b hb => mE_sr hb) hP hD (fun b j h => hz.1.2.2 b j h), hS, fun h => by rw [hpu] at h; cases h⟩
theorem qf_71 {a idx : Nat} {r : Option Nat} {x : Nat} (X : kX p s m args meth c cc nL "TreeServerModel" t) (hpu : pu = false) (hmn : meth.name = "<init>") (hd : decode cc pc = .ok (.putfield idx, 3)) (hw : Cond.fieldLink "TreeServerModel" idx "TreeServerModel" "before" "[I" ∈ GW) (hr : r = some a) (hk : tk t a = 10) (k : kV cs p l e R s m args below meth c Q nL t pu (pc + 3) lv rest (sr G 71 a (some x))) : kV cs p l e R s m args below meth c Q nL t pu pc lv (va_rf (some x) :: va_rf r :: rest) G := by
  subst hr
  intro H locs ls hl hz
  have ha := X.d hk (by decide)
  obtain ⟨q0, hq⟩ := hz.1.get ha
  have hq' := hq
  rw [mE_10 hk] at hq'
  refine va_putF (D := tD t) (cl := mcl) (tys := mty t) (ws := va_pl (tdom t) (mE t G)) (A := tA t) (H0 := s.heap) (ci := 9) (C := RK9) (T := TK9) (N := 30) (v := va_rf (some x)) (ty := .array .int) X.1 X.2.1 X.ws (fun w h => GW_in (inK9 w h) (inG9 w h)) yK9 yK9_ok nmK9 X.o X.k hz.1.1 hz.1.2.1 hz.2.1 q0 hq' rfl 1 (by decide) (X.w hw) (fun _ h => h) rfl hmn rfl (by decide +kernel) rfl rfl (Nat.le_of_ble_eq_true rfl) hd (fun H1 locs1 hP hD hS => ?_)
  exact k H1 locs1 ls hl ⟨hz.1.set ha hq (by rw [mE_10 hk]; simp [gi, gl, gr, sr, u2]) (fun b hb => mE_sr hb) hP hD (fun b j h => hz.1.2.2 b j h), hS, fun h => by rw [hpu] at h; cases h⟩
theorem qf_72 {a idx : Nat} {r : Option Nat} {x : Nat} (X : kX p s m args meth c cc nL "TreeServerModel" t) (hpu : pu = false) (hmn : meth.name = "<init>") (hd : decode cc pc = .ok (.putfield idx, 3)) (hw : Cond.fieldLink "TreeServerModel" idx "TreeServerModel" "pending" "[I" ∈ GW) (hr : r = some a) (hk : tk t a = 10) (k : kV cs p l e R s m args below meth c Q nL t pu (pc + 3) lv rest (sr G 72 a (some x))) : kV cs p l e R s m args below meth c Q nL t pu pc lv (va_rf (some x) :: va_rf r :: rest) G := by
  subst hr
  intro H locs ls hl hz
  have ha := X.d hk (by decide)
  obtain ⟨q0, hq⟩ := hz.1.get ha
  have hq' := hq
  rw [mE_10 hk] at hq'
  refine va_putF (D := tD t) (cl := mcl) (tys := mty t) (ws := va_pl (tdom t) (mE t G)) (A := tA t) (H0 := s.heap) (ci := 9) (C := RK9) (T := TK9) (N := 30) (v := va_rf (some x)) (ty := .array .int) X.1 X.2.1 X.ws (fun w h => GW_in (inK9 w h) (inG9 w h)) yK9 yK9_ok nmK9 X.o X.k hz.1.1 hz.1.2.1 hz.2.1 q0 hq' rfl 2 (by decide) (X.w hw) (fun _ h => h) rfl hmn rfl (by decide +kernel) rfl rfl (Nat.le_of_ble_eq_true rfl) hd (fun H1 locs1 hP hD hS => ?_)
  exact k H1 locs1 ls hl ⟨hz.1.set ha hq (by rw [mE_10 hk]; simp [gi, gl, gr, sr, u2]) (fun b hb => mE_sr hb) hP hD (fun b j h => hz.1.2.2 b j h), hS, fun h => by rw [hpu] at h; cases h⟩
theorem qf_79 {a idx : Nat} {r : Option Nat} {x : Nat} (X : kX p s m args meth c cc nL "TreeServerModel" t) (hpu : pu = false) (hmn : meth.name = "<init>") (hd : decode cc pc = .ok (.putfield idx, 3)) (hw : Cond.fieldLink "TreeServerModel" idx "TreeServerModel" "input" "[I" ∈ GW) (hr : r = some a) (hk : tk t a = 10) (k : kV cs p l e R s m args below meth c Q nL t pu (pc + 3) lv rest (sr G 79 a (some x))) : kV cs p l e R s m args below meth c Q nL t pu pc lv (va_rf (some x) :: va_rf r :: rest) G := by
  subst hr
  intro H locs ls hl hz
  have ha := X.d hk (by decide)
  obtain ⟨q0, hq⟩ := hz.1.get ha
  have hq' := hq
  rw [mE_10 hk] at hq'
  refine va_putF (D := tD t) (cl := mcl) (tys := mty t) (ws := va_pl (tdom t) (mE t G)) (A := tA t) (H0 := s.heap) (ci := 9) (C := RK9) (T := TK9) (N := 30) (v := va_rf (some x)) (ty := .array .int) X.1 X.2.1 X.ws (fun w h => GW_in (inK9 w h) (inG9 w h)) yK9 yK9_ok nmK9 X.o X.k hz.1.1 hz.1.2.1 hz.2.1 q0 hq' rfl 9 (by decide) (X.w hw) (fun _ h => h) rfl hmn rfl (by decide +kernel) rfl rfl (Nat.le_of_ble_eq_true rfl) hd (fun H1 locs1 hP hD hS => ?_)
  exact k H1 locs1 ls hl ⟨hz.1.set ha hq (by rw [mE_10 hk]; simp [gi, gl, gr, sr, u2]) (fun b hb => mE_sr hb) hP hD (fun b j h => hz.1.2.2 b j h), hS, fun h => by rw [hpu] at h; cases h⟩
theorem qf_80 {a idx : Nat} {r : Option Nat} {x : Nat} (X : kX p s m args meth c cc nL "TreeServerModel" t) (hpu : pu = false) (hmn : meth.name = "<init>") (hd : decode cc pc = .ok (.putfield idx, 3)) (hw : Cond.fieldLink "TreeServerModel" idx "TreeServerModel" "inSize" "[I" ∈ GW) (hr : r = some a) (hk : tk t a = 10) (k : kV cs p l e R s m args below meth c Q nL t pu (pc + 3) lv rest (sr G 80 a (some x))) : kV cs p l e R s m args below meth c Q nL t pu pc lv (va_rf (some x) :: va_rf r :: rest) G := by
  subst hr
  intro H locs ls hl hz
  have ha := X.d hk (by decide)
  obtain ⟨q0, hq⟩ := hz.1.get ha
  have hq' := hq
  rw [mE_10 hk] at hq'
  refine va_putF (D := tD t) (cl := mcl) (tys := mty t) (ws := va_pl (tdom t) (mE t G)) (A := tA t) (H0 := s.heap) (ci := 9) (C := RK9) (T := TK9) (N := 30) (v := va_rf (some x)) (ty := .array .int) X.1 X.2.1 X.ws (fun w h => GW_in (inK9 w h) (inG9 w h)) yK9 yK9_ok nmK9 X.o X.k hz.1.1 hz.1.2.1 hz.2.1 q0 hq' rfl 10 (by decide) (X.w hw) (fun _ h => h) rfl hmn rfl (by decide +kernel) rfl rfl (Nat.le_of_ble_eq_true rfl) hd (fun H1 locs1 hP hD hS => ?_)
  exact k H1 locs1 ls hl ⟨hz.1.set ha hq (by rw [mE_10 hk]; simp [gi, gl, gr, sr, u2]) (fun b hb => mE_sr hb) hP hD (fun b j h => hz.1.2.2 b j h), hS, fun h => by rw [hpu] at h; cases h⟩
theorem qf_81 {a idx : Nat} {r : Option Nat} {x : Nat} (X : kX p s m args meth c cc nL "TreeServerModel" t) (hpu : pu = false) (hmn : meth.name = "<init>") (hd : decode cc pc = .ok (.putfield idx, 3)) (hw : Cond.fieldLink "TreeServerModel" idx "TreeServerModel" "output" "[I" ∈ GW) (hr : r = some a) (hk : tk t a = 10) (k : kV cs p l e R s m args below meth c Q nL t pu (pc + 3) lv rest (sr G 81 a (some x))) : kV cs p l e R s m args below meth c Q nL t pu pc lv (va_rf (some x) :: va_rf r :: rest) G := by
  subst hr
  intro H locs ls hl hz
  have ha := X.d hk (by decide)
  obtain ⟨q0, hq⟩ := hz.1.get ha
  have hq' := hq
  rw [mE_10 hk] at hq'
  refine va_putF (D := tD t) (cl := mcl) (tys := mty t) (ws := va_pl (tdom t) (mE t G)) (A := tA t) (H0 := s.heap) (ci := 9) (C := RK9) (T := TK9) (N := 30) (v := va_rf (some x)) (ty := .array .int) X.1 X.2.1 X.ws (fun w h => GW_in (inK9 w h) (inG9 w h)) yK9 yK9_ok nmK9 X.o X.k hz.1.1 hz.1.2.1 hz.2.1 q0 hq' rfl 11 (by decide) (X.w hw) (fun _ h => h) rfl hmn rfl (by decide +kernel) rfl rfl (Nat.le_of_ble_eq_true rfl) hd (fun H1 locs1 hP hD hS => ?_)
  exact k H1 locs1 ls hl ⟨hz.1.set ha hq (by rw [mE_10 hk]; simp [gi, gl, gr, sr, u2]) (fun b hb => mE_sr hb) hP hD (fun b j h => hz.1.2.2 b j h), hS, fun h => by rw [hpu] at h; cases h⟩
theorem qf_82 {a idx : Nat} {r : Option Nat} {x : Nat} (X : kX p s m args meth c cc nL "TreeServerModel" t) (hpu : pu = false) (hmn : meth.name = "<init>") (hd : decode cc pc = .ok (.putfield idx, 3)) (hw : Cond.fieldLink "TreeServerModel" idx "TreeServerModel" "outSize" "[I" ∈ GW) (hr : r = some a) (hk : tk t a = 10) (k : kV cs p l e R s m args below meth c Q nL t pu (pc + 3) lv rest (sr G 82 a (some x))) : kV cs p l e R s m args below meth c Q nL t pu pc lv (va_rf (some x) :: va_rf r :: rest) G := by
  subst hr
  intro H locs ls hl hz
  have ha := X.d hk (by decide)
  obtain ⟨q0, hq⟩ := hz.1.get ha
  have hq' := hq
  rw [mE_10 hk] at hq'
  refine va_putF (D := tD t) (cl := mcl) (tys := mty t) (ws := va_pl (tdom t) (mE t G)) (A := tA t) (H0 := s.heap) (ci := 9) (C := RK9) (T := TK9) (N := 30) (v := va_rf (some x)) (ty := .array .int) X.1 X.2.1 X.ws (fun w h => GW_in (inK9 w h) (inG9 w h)) yK9 yK9_ok nmK9 X.o X.k hz.1.1 hz.1.2.1 hz.2.1 q0 hq' rfl 12 (by decide) (X.w hw) (fun _ h => h) rfl hmn rfl (by decide +kernel) rfl rfl (Nat.le_of_ble_eq_true rfl) hd (fun H1 locs1 hP hD hS => ?_)
  exact k H1 locs1 ls hl ⟨hz.1.set ha hq (by rw [mE_10 hk]; simp [gi, gl, gr, sr, u2]) (fun b hb => mE_sr hb) hP hD (fun b j h => hz.1.2.2 b j h), hS, fun h => by rw [hpu] at h; cases h⟩
theorem qf_83 {a idx : Nat} {r : Option Nat} {x : Nat} (X : kX p s m args meth c cc nL "TreeServerModel" t) (hpu : pu = false) (hmn : meth.name = "<init>") (hd : decode cc pc = .ok (.putfield idx, 3)) (hw : Cond.fieldLink "TreeServerModel" idx "TreeServerModel" "msize" "[I" ∈ GW) (hr : r = some a) (hk : tk t a = 10) (k : kV cs p l e R s m args below meth c Q nL t pu (pc + 3) lv rest (sr G 83 a (some x))) : kV cs p l e R s m args below meth c Q nL t pu pc lv (va_rf (some x) :: va_rf r :: rest) G := by
  subst hr
  intro H locs ls hl hz
  have ha := X.d hk (by decide)
  obtain ⟨q0, hq⟩ := hz.1.get ha
  have hq' := hq
  rw [mE_10 hk] at hq'
  refine va_putF (D := tD t) (cl := mcl) (tys := mty t) (ws := va_pl (tdom t) (mE t G)) (A := tA t) (H0 := s.heap) (ci := 9) (C := RK9) (T := TK9) (N := 30) (v := va_rf (some x)) (ty := .array .int) X.1 X.2.1 X.ws (fun w h => GW_in (inK9 w h) (inG9 w h)) yK9 yK9_ok nmK9 X.o X.k hz.1.1 hz.1.2.1 hz.2.1 q0 hq' rfl 13 (by decide) (X.w hw) (fun _ h => h) rfl hmn rfl (by decide +kernel) rfl rfl (Nat.le_of_ble_eq_true rfl) hd (fun H1 locs1 hP hD hS => ?_)
  exact k H1 locs1 ls hl ⟨hz.1.set ha hq (by rw [mE_10 hk]; simp [gi, gl, gr, sr, u2]) (fun b hb => mE_sr hb) hP hD (fun b j h => hz.1.2.2 b j h), hS, fun h => by rw [hpu] at h; cases h⟩
theorem qf_84 {a idx : Nat} {r : Option Nat} {x : Nat} (X : kX p s m args meth c cc nL "TreeServerModel" t) (hpu : pu = false) (hmn : meth.name = "<init>") (hd : decode cc pc = .ok (.putfield idx, 3)) (hw : Cond.fieldLink "TreeServerModel" idx "TreeServerModel" "agreed" "[Z" ∈ GW) (hr : r = some a) (hk : tk t a = 10) (k : kV cs p l e R s m args below meth c Q nL t pu (pc + 3) lv rest (sr G 84 a (some x))) : kV cs p l e R s m args below meth c Q nL t pu pc lv (va_rf (some x) :: va_rf r :: rest) G := by
  subst hr
  intro H locs ls hl hz
  have ha := X.d hk (by decide)
  obtain ⟨q0, hq⟩ := hz.1.get ha
  have hq' := hq
  rw [mE_10 hk] at hq'
  refine va_putF (D := tD t) (cl := mcl) (tys := mty t) (ws := va_pl (tdom t) (mE t G)) (A := tA t) (H0 := s.heap) (ci := 9) (C := RK9) (T := TK9) (N := 30) (v := va_rf (some x)) (ty := .array .boolean) X.1 X.2.1 X.ws (fun w h => GW_in (inK9 w h) (inG9 w h)) yK9 yK9_ok nmK9 X.o X.k hz.1.1 hz.1.2.1 hz.2.1 q0 hq' rfl 14 (by decide) (X.w hw) (fun _ h => h) rfl hmn rfl (by decide +kernel) rfl rfl (Nat.le_of_ble_eq_true rfl) hd (fun H1 locs1 hP hD hS => ?_)
  exact k H1 locs1 ls hl ⟨hz.1.set ha hq (by rw [mE_10 hk]; simp [gi, gl, gr, sr, u2]) (fun b hb => mE_sr hb) hP hD (fun b j h => hz.1.2.2 b j h), hS, fun h => by rw [hpu] at h; cases h⟩
theorem qf_85 {a idx : Nat} {r : Option Nat} {x : Nat} (X : kX p s m args meth c cc nL "TreeServerModel" t) (hpu : pu = false) (hmn : meth.name = "<init>") (hd : decode cc pc = .ok (.putfield idx, 3)) (hw : Cond.fieldLink "TreeServerModel" idx "TreeServerModel" "broken" "[Z" ∈ GW) (hr : r = some a) (hk : tk t a = 10) (k : kV cs p l e R s m args below meth c Q nL t pu (pc + 3) lv rest (sr G 85 a (some x))) : kV cs p l e R s m args below meth c Q nL t pu pc lv (va_rf (some x) :: va_rf r :: rest) G := by
  subst hr
  intro H locs ls hl hz
  have ha := X.d hk (by decide)
  obtain ⟨q0, hq⟩ := hz.1.get ha
  have hq' := hq
  rw [mE_10 hk] at hq'
  refine va_putF (D := tD t) (cl := mcl) (tys := mty t) (ws := va_pl (tdom t) (mE t G)) (A := tA t) (H0 := s.heap) (ci := 9) (C := RK9) (T := TK9) (N := 30) (v := va_rf (some x)) (ty := .array .boolean) X.1 X.2.1 X.ws (fun w h => GW_in (inK9 w h) (inG9 w h)) yK9 yK9_ok nmK9 X.o X.k hz.1.1 hz.1.2.1 hz.2.1 q0 hq' rfl 15 (by decide) (X.w hw) (fun _ h => h) rfl hmn rfl (by decide +kernel) rfl rfl (Nat.le_of_ble_eq_true rfl) hd (fun H1 locs1 hP hD hS => ?_)
  exact k H1 locs1 ls hl ⟨hz.1.set ha hq (by rw [mE_10 hk]; simp [gi, gl, gr, sr, u2]) (fun b hb => mE_sr hb) hP hD (fun b j h => hz.1.2.2 b j h), hS, fun h => by rw [hpu] at h; cases h⟩
theorem qf_86 {a idx : Nat} {r : Option Nat} {x : Nat} (X : kX p s m args meth c cc nL "TreeServerModel" t) (hpu : pu = false) (hmn : meth.name = "<init>") (hd : decode cc pc = .ok (.putfield idx, 3)) (hw : Cond.fieldLink "TreeServerModel" idx "TreeServerModel" "used" "[Z" ∈ GW) (hr : r = some a) (hk : tk t a = 10) (k : kV cs p l e R s m args below meth c Q nL t pu (pc + 3) lv rest (sr G 86 a (some x))) : kV cs p l e R s m args below meth c Q nL t pu pc lv (va_rf (some x) :: va_rf r :: rest) G := by
  subst hr
  intro H locs ls hl hz
  have ha := X.d hk (by decide)
  obtain ⟨q0, hq⟩ := hz.1.get ha
  have hq' := hq
  rw [mE_10 hk] at hq'
  refine va_putF (D := tD t) (cl := mcl) (tys := mty t) (ws := va_pl (tdom t) (mE t G)) (A := tA t) (H0 := s.heap) (ci := 9) (C := RK9) (T := TK9) (N := 30) (v := va_rf (some x)) (ty := .array .boolean) X.1 X.2.1 X.ws (fun w h => GW_in (inK9 w h) (inG9 w h)) yK9 yK9_ok nmK9 X.o X.k hz.1.1 hz.1.2.1 hz.2.1 q0 hq' rfl 16 (by decide) (X.w hw) (fun _ h => h) rfl hmn rfl (by decide +kernel) rfl rfl (Nat.le_of_ble_eq_true rfl) hd (fun H1 locs1 hP hD hS => ?_)
  exact k H1 locs1 ls hl ⟨hz.1.set ha hq (by rw [mE_10 hk]; simp [gi, gl, gr, sr, u2]) (fun b hb => mE_sr hb) hP hD (fun b j h => hz.1.2.2 b j h), hS, fun h => by rw [hpu] at h; cases h⟩
theorem qf_87 {a idx : Nat} {r : Option Nat} {x : Nat} (X : kX p s m args meth c cc nL "TreeServerModel" t) (hpu : pu = false) (hmn : meth.name = "<init>") (hd : decode cc pc = .ok (.putfield idx, 3)) (hw : Cond.fieldLink "TreeServerModel" idx "TreeServerModel" "number" "[J" ∈ GW) (hr : r = some a) (hk : tk t a = 10) (k : kV cs p l e R s m args below meth c Q nL t pu (pc + 3) lv rest (sr G 87 a (some x))) : kV cs p l e R s m args below meth c Q nL t pu pc lv (va_rf (some x) :: va_rf r :: rest) G := by
  subst hr
  intro H locs ls hl hz
  have ha := X.d hk (by decide)
  obtain ⟨q0, hq⟩ := hz.1.get ha
  have hq' := hq
  rw [mE_10 hk] at hq'
  refine va_putF (D := tD t) (cl := mcl) (tys := mty t) (ws := va_pl (tdom t) (mE t G)) (A := tA t) (H0 := s.heap) (ci := 9) (C := RK9) (T := TK9) (N := 30) (v := va_rf (some x)) (ty := .array .long) X.1 X.2.1 X.ws (fun w h => GW_in (inK9 w h) (inG9 w h)) yK9 yK9_ok nmK9 X.o X.k hz.1.1 hz.1.2.1 hz.2.1 q0 hq' rfl 17 (by decide) (X.w hw) (fun _ h => h) rfl hmn rfl (by decide +kernel) rfl rfl (Nat.le_of_ble_eq_true rfl) hd (fun H1 locs1 hP hD hS => ?_)
  exact k H1 locs1 ls hl ⟨hz.1.set ha hq (by rw [mE_10 hk]; simp [gi, gl, gr, sr, u2]) (fun b hb => mE_sr hb) hP hD (fun b j h => hz.1.2.2 b j h), hS, fun h => by rw [hpu] at h; cases h⟩
theorem qf_88 {a idx : Nat} {r : Option Nat} {x : Nat} (X : kX p s m args meth c cc nL "TreeServerModel" t) (hpu : pu = false) (hmn : meth.name = "<init>") (hd : decode cc pc = .ok (.putfield idx, 3)) (hw : Cond.fieldLink "TreeServerModel" idx "TreeServerModel" "node" "[I" ∈ GW) (hr : r = some a) (hk : tk t a = 10) (k : kV cs p l e R s m args below meth c Q nL t pu (pc + 3) lv rest (sr G 88 a (some x))) : kV cs p l e R s m args below meth c Q nL t pu pc lv (va_rf (some x) :: va_rf r :: rest) G := by
  subst hr
  intro H locs ls hl hz
  have ha := X.d hk (by decide)
  obtain ⟨q0, hq⟩ := hz.1.get ha
  have hq' := hq
  rw [mE_10 hk] at hq'
  refine va_putF (D := tD t) (cl := mcl) (tys := mty t) (ws := va_pl (tdom t) (mE t G)) (A := tA t) (H0 := s.heap) (ci := 9) (C := RK9) (T := TK9) (N := 30) (v := va_rf (some x)) (ty := .array .int) X.1 X.2.1 X.ws (fun w h => GW_in (inK9 w h) (inG9 w h)) yK9 yK9_ok nmK9 X.o X.k hz.1.1 hz.1.2.1 hz.2.1 q0 hq' rfl 18 (by decide) (X.w hw) (fun _ h => h) rfl hmn rfl (by decide +kernel) rfl rfl (Nat.le_of_ble_eq_true rfl) hd (fun H1 locs1 hP hD hS => ?_)
  exact k H1 locs1 ls hl ⟨hz.1.set ha hq (by rw [mE_10 hk]; simp [gi, gl, gr, sr, u2]) (fun b hb => mE_sr hb) hP hD (fun b j h => hz.1.2.2 b j h), hS, fun h => by rw [hpu] at h; cases h⟩
theorem qf_89 {a idx : Nat} {r : Option Nat} {x : Nat} (X : kX p s m args meth c cc nL "TreeServerModel" t) (hpu : pu = false) (hmn : meth.name = "<init>") (hd : decode cc pc = .ok (.putfield idx, 3)) (hw : Cond.fieldLink "TreeServerModel" idx "TreeServerModel" "user" "[I" ∈ GW) (hr : r = some a) (hk : tk t a = 10) (k : kV cs p l e R s m args below meth c Q nL t pu (pc + 3) lv rest (sr G 89 a (some x))) : kV cs p l e R s m args below meth c Q nL t pu pc lv (va_rf (some x) :: va_rf r :: rest) G := by
  subst hr
  intro H locs ls hl hz
  have ha := X.d hk (by decide)
  obtain ⟨q0, hq⟩ := hz.1.get ha
  have hq' := hq
  rw [mE_10 hk] at hq'
  refine va_putF (D := tD t) (cl := mcl) (tys := mty t) (ws := va_pl (tdom t) (mE t G)) (A := tA t) (H0 := s.heap) (ci := 9) (C := RK9) (T := TK9) (N := 30) (v := va_rf (some x)) (ty := .array .int) X.1 X.2.1 X.ws (fun w h => GW_in (inK9 w h) (inG9 w h)) yK9 yK9_ok nmK9 X.o X.k hz.1.1 hz.1.2.1 hz.2.1 q0 hq' rfl 19 (by decide) (X.w hw) (fun _ h => h) rfl hmn rfl (by decide +kernel) rfl rfl (Nat.le_of_ble_eq_true rfl) hd (fun H1 locs1 hP hD hS => ?_)
  exact k H1 locs1 ls hl ⟨hz.1.set ha hq (by rw [mE_10 hk]; simp [gi, gl, gr, sr, u2]) (fun b hb => mE_sr hb) hP hD (fun b j h => hz.1.2.2 b j h), hS, fun h => by rw [hpu] at h; cases h⟩
theorem qf_90 {a idx : Nat} {r : Option Nat} {x : Nat} (X : kX p s m args meth c cc nL "TreeServerModel" t) (hpu : pu = false) (hmn : meth.name = "<init>") (hd : decode cc pc = .ok (.putfield idx, 3)) (hw : Cond.fieldLink "TreeServerModel" idx "TreeServerModel" "mode" "[I" ∈ GW) (hr : r = some a) (hk : tk t a = 10) (k : kV cs p l e R s m args below meth c Q nL t pu (pc + 3) lv rest (sr G 90 a (some x))) : kV cs p l e R s m args below meth c Q nL t pu pc lv (va_rf (some x) :: va_rf r :: rest) G := by
  subst hr
  intro H locs ls hl hz
  have ha := X.d hk (by decide)
  obtain ⟨q0, hq⟩ := hz.1.get ha
  have hq' := hq
  rw [mE_10 hk] at hq'
  refine va_putF (D := tD t) (cl := mcl) (tys := mty t) (ws := va_pl (tdom t) (mE t G)) (A := tA t) (H0 := s.heap) (ci := 9) (C := RK9) (T := TK9) (N := 30) (v := va_rf (some x)) (ty := .array .int) X.1 X.2.1 X.ws (fun w h => GW_in (inK9 w h) (inG9 w h)) yK9 yK9_ok nmK9 X.o X.k hz.1.1 hz.1.2.1 hz.2.1 q0 hq' rfl 20 (by decide) (X.w hw) (fun _ h => h) rfl hmn rfl (by decide +kernel) rfl rfl (Nat.le_of_ble_eq_true rfl) hd (fun H1 locs1 hP hD hS => ?_)
  exact k H1 locs1 ls hl ⟨hz.1.set ha hq (by rw [mE_10 hk]; simp [gi, gl, gr, sr, u2]) (fun b hb => mE_sr hb) hP hD (fun b j h => hz.1.2.2 b j h), hS, fun h => by rw [hpu] at h; cases h⟩
theorem qf_91 {a idx : Nat} {r : Option Nat} {x : Nat} (X : kX p s m args meth c cc nL "TreeServerModel" t) (hpu : pu = false) (hmn : meth.name = "<init>") (hd : decode cc pc = .ok (.putfield idx, 3)) (hw : Cond.fieldLink "TreeServerModel" idx "TreeServerModel" "removes" "[Z" ∈ GW) (hr : r = some a) (hk : tk t a = 10) (k : kV cs p l e R s m args below meth c Q nL t pu (pc + 3) lv rest (sr G 91 a (some x))) : kV cs p l e R s m args below meth c Q nL t pu pc lv (va_rf (some x) :: va_rf r :: rest) G := by
  subst hr
  intro H locs ls hl hz
  have ha := X.d hk (by decide)
  obtain ⟨q0, hq⟩ := hz.1.get ha
  have hq' := hq
  rw [mE_10 hk] at hq'
  refine va_putF (D := tD t) (cl := mcl) (tys := mty t) (ws := va_pl (tdom t) (mE t G)) (A := tA t) (H0 := s.heap) (ci := 9) (C := RK9) (T := TK9) (N := 30) (v := va_rf (some x)) (ty := .array .boolean) X.1 X.2.1 X.ws (fun w h => GW_in (inK9 w h) (inG9 w h)) yK9 yK9_ok nmK9 X.o X.k hz.1.1 hz.1.2.1 hz.2.1 q0 hq' rfl 21 (by decide) (X.w hw) (fun _ h => h) rfl hmn rfl (by decide +kernel) rfl rfl (Nat.le_of_ble_eq_true rfl) hd (fun H1 locs1 hP hD hS => ?_)
  exact k H1 locs1 ls hl ⟨hz.1.set ha hq (by rw [mE_10 hk]; simp [gi, gl, gr, sr, u2]) (fun b hb => mE_sr hb) hP hD (fun b j h => hz.1.2.2 b j h), hS, fun h => by rw [hpu] at h; cases h⟩
theorem qf_92 {a idx : Nat} {r : Option Nat} {x : Nat} (X : kX p s m args meth c cc nL "TreeServerModel" t) (hpu : pu = false) (hmn : meth.name = "<init>") (hd : decode cc pc = .ok (.putfield idx, 3)) (hw : Cond.fieldLink "TreeServerModel" idx "TreeServerModel" "readTo" "[J" ∈ GW) (hr : r = some a) (hk : tk t a = 10) (k : kV cs p l e R s m args below meth c Q nL t pu (pc + 3) lv rest (sr G 92 a (some x))) : kV cs p l e R s m args below meth c Q nL t pu pc lv (va_rf (some x) :: va_rf r :: rest) G := by
  subst hr
  intro H locs ls hl hz
  have ha := X.d hk (by decide)
  obtain ⟨q0, hq⟩ := hz.1.get ha
  have hq' := hq
  rw [mE_10 hk] at hq'
  refine va_putF (D := tD t) (cl := mcl) (tys := mty t) (ws := va_pl (tdom t) (mE t G)) (A := tA t) (H0 := s.heap) (ci := 9) (C := RK9) (T := TK9) (N := 30) (v := va_rf (some x)) (ty := .array .long) X.1 X.2.1 X.ws (fun w h => GW_in (inK9 w h) (inG9 w h)) yK9 yK9_ok nmK9 X.o X.k hz.1.1 hz.1.2.1 hz.2.1 q0 hq' rfl 22 (by decide) (X.w hw) (fun _ h => h) rfl hmn rfl (by decide +kernel) rfl rfl (Nat.le_of_ble_eq_true rfl) hd (fun H1 locs1 hP hD hS => ?_)
  exact k H1 locs1 ls hl ⟨hz.1.set ha hq (by rw [mE_10 hk]; simp [gi, gl, gr, sr, u2]) (fun b hb => mE_sr hb) hP hD (fun b j h => hz.1.2.2 b j h), hS, fun h => by rw [hpu] at h; cases h⟩
theorem qf_93 {a idx : Nat} {r : Option Nat} {x : Nat} (X : kX p s m args meth c cc nL "TreeServerModel" t) (hpu : pu = false) (hmn : meth.name = "<init>") (hd : decode cc pc = .ok (.putfield idx, 3)) (hw : Cond.fieldLink "TreeServerModel" idx "TreeServerModel" "readLast" "[I" ∈ GW) (hr : r = some a) (hk : tk t a = 10) (k : kV cs p l e R s m args below meth c Q nL t pu (pc + 3) lv rest (sr G 93 a (some x))) : kV cs p l e R s m args below meth c Q nL t pu pc lv (va_rf (some x) :: va_rf r :: rest) G := by
  subst hr
  intro H locs ls hl hz
  have ha := X.d hk (by decide)
  obtain ⟨q0, hq⟩ := hz.1.get ha
  have hq' := hq
  rw [mE_10 hk] at hq'
  refine va_putF (D := tD t) (cl := mcl) (tys := mty t) (ws := va_pl (tdom t) (mE t G)) (A := tA t) (H0 := s.heap) (ci := 9) (C := RK9) (T := TK9) (N := 30) (v := va_rf (some x)) (ty := .array .int) X.1 X.2.1 X.ws (fun w h => GW_in (inK9 w h) (inG9 w h)) yK9 yK9_ok nmK9 X.o X.k hz.1.1 hz.1.2.1 hz.2.1 q0 hq' rfl 23 (by decide) (X.w hw) (fun _ h => h) rfl hmn rfl (by decide +kernel) rfl rfl (Nat.le_of_ble_eq_true rfl) hd (fun H1 locs1 hP hD hS => ?_)
  exact k H1 locs1 ls hl ⟨hz.1.set ha hq (by rw [mE_10 hk]; simp [gi, gl, gr, sr, u2]) (fun b hb => mE_sr hb) hP hD (fun b j h => hz.1.2.2 b j h), hS, fun h => by rw [hpu] at h; cases h⟩
theorem qf_94 {a idx : Nat} {r : Option Nat} {x : Nat} (X : kX p s m args meth c cc nL "TreeServerModel" t) (hpu : pu = false) (hmn : meth.name = "<init>") (hd : decode cc pc = .ok (.putfield idx, 3)) (hw : Cond.fieldLink "TreeServerModel" idx "TreeServerModel" "message" "[I" ∈ GW) (hr : r = some a) (hk : tk t a = 10) (k : kV cs p l e R s m args below meth c Q nL t pu (pc + 3) lv rest (sr G 94 a (some x))) : kV cs p l e R s m args below meth c Q nL t pu pc lv (va_rf (some x) :: va_rf r :: rest) G := by
  subst hr
  intro H locs ls hl hz
  have ha := X.d hk (by decide)
  obtain ⟨q0, hq⟩ := hz.1.get ha
  have hq' := hq
  rw [mE_10 hk] at hq'
  refine va_putF (D := tD t) (cl := mcl) (tys := mty t) (ws := va_pl (tdom t) (mE t G)) (A := tA t) (H0 := s.heap) (ci := 9) (C := RK9) (T := TK9) (N := 30) (v := va_rf (some x)) (ty := .array .int) X.1 X.2.1 X.ws (fun w h => GW_in (inK9 w h) (inG9 w h)) yK9 yK9_ok nmK9 X.o X.k hz.1.1 hz.1.2.1 hz.2.1 q0 hq' rfl 24 (by decide) (X.w hw) (fun _ h => h) rfl hmn rfl (by decide +kernel) rfl rfl (Nat.le_of_ble_eq_true rfl) hd (fun H1 locs1 hP hD hS => ?_)
  exact k H1 locs1 ls hl ⟨hz.1.set ha hq (by rw [mE_10 hk]; simp [gi, gl, gr, sr, u2]) (fun b hb => mE_sr hb) hP hD (fun b j h => hz.1.2.2 b j h), hS, fun h => by rw [hpu] at h; cases h⟩
theorem qf_96 {a idx : Nat} {r : Option Nat} {x : Nat} (X : kX p s m args meth c cc nL "TreeServerModel" t) (hpu : pu = false) (hmn : meth.name = "<init>") (hd : decode cc pc = .ok (.putfield idx, 3)) (hw : Cond.fieldLink "TreeServerModel" idx "TreeServerModel" "answer" "[I" ∈ GW) (hr : r = some a) (hk : tk t a = 10) (k : kV cs p l e R s m args below meth c Q nL t pu (pc + 3) lv rest (sr G 96 a (some x))) : kV cs p l e R s m args below meth c Q nL t pu pc lv (va_rf (some x) :: va_rf r :: rest) G := by
  subst hr
  intro H locs ls hl hz
  have ha := X.d hk (by decide)
  obtain ⟨q0, hq⟩ := hz.1.get ha
  have hq' := hq
  rw [mE_10 hk] at hq'
  refine va_putF (D := tD t) (cl := mcl) (tys := mty t) (ws := va_pl (tdom t) (mE t G)) (A := tA t) (H0 := s.heap) (ci := 9) (C := RK9) (T := TK9) (N := 30) (v := va_rf (some x)) (ty := .array .int) X.1 X.2.1 X.ws (fun w h => GW_in (inK9 w h) (inG9 w h)) yK9 yK9_ok nmK9 X.o X.k hz.1.1 hz.1.2.1 hz.2.1 q0 hq' rfl 26 (by decide) (X.w hw) (fun _ h => h) rfl hmn rfl (by decide +kernel) rfl rfl (Nat.le_of_ble_eq_true rfl) hd (fun H1 locs1 hP hD hS => ?_)
  exact k H1 locs1 ls hl ⟨hz.1.set ha hq (by rw [mE_10 hk]; simp [gi, gl, gr, sr, u2]) (fun b hb => mE_sr hb) hP hD (fun b j h => hz.1.2.2 b j h), hS, fun h => by rw [hpu] at h; cases h⟩
theorem qcI {y : MethodName} {bytes : ByteArray} {maxL n idx b mc ms : Nat} {rm : Room} {As st : List Value} {wp : Prop} {K : TY → GS → Prop} (X : kX p s m args meth c cc nL own t) (hpu : pu = false) (hM : Met l y (Cond.code y bytes maxL none :: GW) rm (va_Pc (.ref b :: As) (fun U => HB t G U.heap ∧ HK t U ∧ wp)) (va_Qv (fun u : TY × GS => te t u.1 ∧ K u.1 u.2) (fun u T => HB u.1 u.2 T.heap) (tA t)) mc ms (tA t)) (cw : CallB R s args own idx y bytes maxL none (Cond.code y bytes maxL none :: GW) rm mc ms n ∧ y.name = "<init>" ∧ (Cond.instanceMethod y).before args s = true) (hn : As.length = n) (hst : st = As.reverse ++ .ref b :: rest) (hroom : (rest.map fun v => v.category).sum ≤ 8) (hd : decode cc pc = .ok (.invokespecial idx, 3)) (hcs : cs.1 + mc ≤ R.cells ∧ cs.2 + ms ≤ R.slots) (hwp : wp) (k : ∀ (t' : TY) (u : GS), te t t' → K t' u → kV (cs.1 + mc, cs.2 + ms) p l e R s m args below meth c Q nL t' pu (pc + 3) lv rest u) : kV cs p l e R s m args below meth c Q nL t pu pc lv st G := by
  subst hst
  intro H locs ls hl hz
  refine va_callv (S := TY × GS) (va_runI (As := As) (rest := rest) (Ts := GW) ⟨X.1, X.2.1, X.2.2.1, X.o, X.ws⟩ hM cw ⟨HP_blind, fun U hU hW => ⟨rfl, by rw [hU]; exact hz.1, X.h.to hz.2.1 hU hW, hwp⟩⟩ rfl hn hl.1 rfl (lv_room hroom) hd hcs) hz.2.1 (fun q _ h => h) (fun q h => h) (fun u T H1 locs1 hT hvm hp hB hz1 hk1 hS1 => ?_)
  rw [hT] at hB
  exact k u.1 u.2 hp.1 hp.2 H1 locs1 ls hl ⟨hB, by rw [tA_te hp.1]; exact hS1, fun h => by rw [hpu] at h; cases h⟩
theorem qcN {y : MethodName} {bytes : ByteArray} {maxL n idx b mc ms : Nat} {rm : Room} {As st : List Value} {wp : Prop} {K : TY → GS → Prop} (X : kX p s m args meth c cc nL own t) (hpu : pu = false) (hM : Met l y (Cond.code y bytes maxL none :: GW) rm (va_Pc (.ref b :: As) (fun U => HB t G U.heap ∧ HK t U ∧ wp)) (va_Qv (fun u : TY × GS => te t u.1 ∧ K u.1 u.2) (fun u T => HB u.1 u.2 T.heap) (tA t)) mc ms (tA t)) (cw : va_CN R s args own idx y "TreeServer" bytes maxL none (Cond.code y bytes maxL none :: GW) rm mc ms n ∧ y.name = "<init>" ∧ (Cond.instanceMethod y).before args s = true) (hn : As.length = n) (hst : st = As.reverse ++ .ref b :: rest) (hroom : (rest.map fun v => v.category).sum ≤ 8) (hd : decode cc pc = .ok (.invokespecial idx, 3)) (hcs : cs.1 + mc ≤ R.cells ∧ cs.2 + ms ≤ R.slots) (hwp : wp) (k : ∀ (t' : TY) (u : GS), te t t' → K t' u → kV (cs.1 + mc, cs.2 + ms) p l e R s m args below meth c Q nL t' pu (pc + 3) lv rest u) : kV cs p l e R s m args below meth c Q nL t pu pc lv st G := by
  subst hst
  intro H locs ls hl hz
  refine va_callv (S := TY × GS) (va_runIN (host := "TreeServer") (As := As) (rest := rest) (Ts := GW) ⟨X.1, X.2.1, X.2.2.1, X.o, X.ws⟩ hM cw ⟨HP_blind, fun U hU hW => ⟨rfl, by rw [hU]; exact hz.1, X.h.to hz.2.1 hU hW, hwp⟩⟩ rfl hn hl.1 rfl (lv_room hroom) hd hcs) hz.2.1 (fun q _ h => h) (fun q h => h) (fun u T H1 locs1 hT hvm hp hB hz1 hk1 hS1 => ?_)
  rw [hT] at hB
  exact k u.1 u.2 hp.1 hp.2 H1 locs1 ls hl ⟨hB, by rw [tA_te hp.1]; exact hS1, fun h => by rw [hpu] at h; cases h⟩
theorem cwI_of {y : MethodName} {bytes : ByteArray} {maxL n idx : Nat} {rm : Room} (X : kX p s m args meth c cc nL own t) (hc : Cond.code y bytes maxL none ∈ GW) (hl : Cond.methodLink own idx y ∈ GW) (hi : Cond.instanceMethod y ∈ GW) (hini : Cond.initialized y.cls ∈ GW) (hy : y.name = "<init>")
    (hd : y.cls ≠ "java/lang/invoke/MethodHandle" ∧ y.cls ≠ "java/lang/invoke/VarHandle" ∧ (parseMethodDescriptor y.desc).map (fun d => d.parameters.length) = some n) (hR : rm.frames + 1 ≤ R.frames ∧ 8 + (maxL + 11) + rm.locals ≤ R.locals) : CallB R s args own idx y bytes maxL none (Cond.code y bytes maxL none :: GW) rm rm.cells rm.slots n ∧ y.name = "<init>" ∧ (Cond.instanceMethod y).before args s = true :=
  cwI n X.ws (GW_call hc) rfl rfl rfl (X.w hini) (X.w hl) (X.w hi) hy hd hR
theorem cwN_of {y : MethodName} {bytes : ByteArray} {maxL n idx : Nat} {rm : Room} (X : kX p s m args meth c cc nL own t) (hc : Cond.code y bytes maxL none ∈ GW) (hl : (own, idx, y) ∈ nestL) (hi : Cond.instanceMethod y ∈ GW) (hini : Cond.initialized y.cls ∈ GW) (hy : y.name = "<init>")
    (hd : y.cls ≠ "java/lang/invoke/MethodHandle" ∧ y.cls ≠ "java/lang/invoke/VarHandle" ∧ (parseMethodDescriptor y.desc).map (fun d => d.parameters.length) = some n) (hR : rm.frames + 1 ≤ R.frames ∧ 8 + (maxL + 11) + rm.locals ≤ R.locals) : va_CN R s args own idx y "TreeServer" bytes maxL none (Cond.code y bytes maxL none :: GW) rm rm.cells rm.slots n ∧ y.name = "<init>" ∧ (Cond.instanceMethod y).before args s = true :=
  ⟨va_cnB n X.ws (GW_call hc) rfl rfl rfl (X.h.2.2.2.2.2.2.2.2.2.2.2 _ hl) (X.w hini) hd hR, hy, X.w hi⟩
/-- a constructor's end: t0 is its start's types -/
theorem qr_init {t0 : TY} {K : TY → GS → Prop} (X : kX p s m args meth c cc nL own t) (hr : meth.sig.returnType = none) (hd : decode cc pc = .ok (.return_, 1)) (e0 : te t0 t) (hk : K t G) : kV cs p l e R s m args below meth c (MQ below (va_Qv (fun u : TY × GS => te t0 u.1 ∧ K u.1 u.2) (fun u T => HB u.1 u.2 T.heap) (tA t0)) args s cs.1 cs.2 (tA t0)) nL t pu pc lv [] G := fun H locs ls hl hz => by
  have hS : va_S (tA t0) s.heap H locs := by rw [← tA_te e0]; exact hz.2.1
  exact W.vret X.1 X.2.1 hr (fun T hT hW => ⟨⟨(t, G), rfl, ⟨e0, hk⟩, by show HB t G T.heap; rw [hT]; exact hz.1⟩, hS.F hT⟩) hS.2.2 hd X.2.2.2.2.2.1
end KM
