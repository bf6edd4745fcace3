/-! texts of a message: strings, users, names (by hand) -/
theorem nm_1 {f : Nat → Nat} {p : Nat} : nm f p 1 = f p := by show 0 * 256 + f p = f p; omega
theorem nm_2 {f : Nat → Nat} {p : Nat} : nm f p 2 = f (p + 1) * 256 + f p := by show (0 * 256 + f (p + 1)) * 256 + f p = _; omega
theorem nm_at {f : Nat → Nat} (hf : ∀ k, f k < 256) : ∀ {n p i : Nat}, i < n → nm f p n / 256 ^ i % 256 = f (p + i)
  | n + 1, p, 0, _ => by
    show (nm f (p + 1) n * 256 + f p) / 256 ^ 0 % 256 = f p
    have := hf p
    rw [Nat.pow_zero, Nat.div_one]; omega
  | n + 1, p, i + 1, h => by
    have ih := @nm_at f hf n (p + 1) i (by omega)
    show (nm f (p + 1) n * 256 + f p) / 256 ^ (i + 1) % 256 = f (p + (i + 1))
    rw [Nat.pow_succ, Nat.mul_comm (256 ^ i) 256, ← Nat.div_div_eq_div_mul]
    have e : (nm f (p + 1) n * 256 + f p) / 256 = nm f (p + 1) n := by have := hf p; omega
    rw [e, ih, show p + 1 + i = p + (i + 1) by omega]
theorem nm_val {f : Nat → Nat} (hf : ∀ k, f k < 256) {n p v : Nat} (hv : v < 256 ^ n) : nm f p n = v ↔ ∀ i, i < n → f (p + i) = v / 256 ^ i % 256 := by
  constructor
  · intro h i hi; rw [← h, nm_at hf hi]
  · intro h
    induction n generalizing p v with
    | zero =>
      have : v = 0 := by simpa using hv
      rw [this]; rfl
    | succ n ih =>
      have h0 := h 0 (by omega)
      rw [Nat.pow_zero, Nat.div_one, Nat.add_zero] at h0
      have hv' : v / 256 < 256 ^ n := by rw [Nat.pow_succ] at hv; omega
      have := @ih (p + 1) (v / 256) hv' (fun i hi => by
        rw [show p + 1 + i = p + (i + 1) by omega, h (i + 1) (by omega), Nat.pow_succ, Nat.mul_comm (256 ^ i) 256, Nat.div_div_eq_div_mul])
      show nm f (p + 1) n * 256 + f p = v
      rw [this, h0]; omega
theorem tp_in {f : Nat → Nat} {p c z i : Nat} (h : tp f p c ≤ z) (hi : i < c) : tp f p i + 2 + nm f (tp f p i) 2 ≤ z := by
  have := @tp_mono f p (i + 1) (c - (i + 1))
  rw [show i + 1 + (c - (i + 1)) = c by omega] at this
  have e : tp f p (i + 1) = tp f p i + 2 + nm f (tp f p i) 2 := rfl
  omega
/-- the text is a user's name -/
abbrev isUs (f : Nat → Nat) (q u : Nat) : Prop := nm f q 2 = slen (ttl u) ∧ nm f (q + 2) (slen (ttl u)) = er (ttl u)
def unm (f : Nat → Nat) (q : Nat) : Option Nat := if isUs f q 0 then some 0 else if isUs f q 1 then some 1 else if isUs f q 2 then some 2 else none
def uI (o : Option Nat) : Int32 := match o with
  | some u => nI u
  | none => -1
theorem unm_lt {f : Nat → Nat} {q u : Nat} (h : unm f q = some u) : u < 3 := by
  unfold unm at h
  split at h
  · injection h with h; omega
  · split at h
    · injection h with h; omega
    · split at h
      · injection h with h; omega
      · exact absurd h (by simp)
/-- a name that fits -/
def gdC (v : Nat) : Prop := 33 ≤ v ∧ v ≤ 126 ∧ v ≠ 47
def nft (f : Nat → Nat) (q : Nat) : Prop := 1 ≤ nm f q 2 ∧ nm f q 2 ≤ 8 ∧ (∀ k, k < nm f q 2 → gdC (f (q + 2 + k))) ∧ (nm f q 2 ≤ 2 → ∃ k, k < nm f q 2 ∧ f (q + 2 + k) ≠ 46)
/-- the text is .. -/
def isDd (f : Nat → Nat) (q : Nat) : Prop := nm f q 2 = 2 ∧ f (q + 2) = 46 ∧ f (q + 3) = 46
section TEXTS
variable {t : TY} {y : LYT} {G m : GS} {z : Nat} {f : Nat → Nat}
theorem S_textBegins (hs : SH t y) (hz : FZ y G) (hf : MsF z f) (h : MsC y G z f) {p c i j : Nat} (hT : TxC y G f p c) (hp : p ≤ 100) (hi : i < c) (hc : c ≤ 4) (hj : j < 29) {K : Int32 → Prop} (k1 : slen j ≤ nm f (tp f p i) 2 → nm f (tp f p i + 2) (slen j) = er j → K 1) (k0 : ¬ (slen j ≤ nm f (tp f p i) 2 ∧ nm f (tp f p i + 2) (slen j) = er j) → K 0) : w_Message_textBegins t G (y 8 0) (nI i) (some (tks t j)) K := by
  obtain ⟨x1, x2⟩ := hT.1 i hi
  have hb := @tp_lt f hf.2.2.1 p i
  obtain ⟨s7, s1, -⟩ := str7 j hj
  have hL : nm f (tp f p i) 2 < 256 ^ 2 := nm_lt hf.2.2.1
  refine ⟨hs.k 8 0, y 21 0, hz.2.2.1.2.2.1, hs.k 21 0, by rw [hs.n 21 0]; exact vp_lt (N := 4) (by omega), j, hj, rfl, ?_⟩
  rw [nI_clamp (by omega), x2]
  have step : ∀ (q k : Nat), k < slen j → (f (tp f p i + 2 + k) = er j / 256 ^ k % 256 → w_Message_textBegins_17 t G (y 8 0) K q (nI i) (some (tks t j)) (nI (k + 1))) → (¬ f (tp f p i + 2 + k) = er j / 256 ^ k % 256 → K 0) → w_Message_textBegins_17 t G (y 8 0) K (q + 1) (nI i) (some (tks t j)) (nI k) := fun q k hk a b => by
    refine ⟨j, hj, rfl, iF (nI_ge hk (by omega)) ⟨hs.k 8 0, y 20 0, hz.2.2.1.2.1, hs.k 20 0, by rw [hs.n 20 0]; exact vp_lt (N := 4) (by omega), ?_⟩⟩
    rw [nI_clamp (by omega), x1, nI_add]
    refine S_number (n := 1) hs hz hf h (by omega) (by omega) ⟨j, hj, rfl, vp_lt hk (by omega), ?_⟩
    have h256 := hf.2.2.1 (tp f p i + 2 + k)
    have h2 : er j / 256 ^ k % 256 < 256 := Nat.mod_lt _ (by omega)
    rw [nm_1, nI_clamp (by omega), strC j hj k (by omega) hk]
    show (if lN (f (tp f p i + 2 + k)) = (nI (er j / 256 ^ k % 256)).toInt64 then _ else _)
    rw [nI_l (by omega)]
    by_cases e : f (tp f p i + 2 + k) = er j / 256 ^ k % 256
    · refine iT (by rw [e]) ?_
      intro w hw; subst hw; rw [nI_1]; exact a e
    · exact iF (fun w => e ((pk_lEQ (by omega) (by omega)).mp w)) (b e)
  by_cases q : slen j ≤ nm f (tp f p i) 2
  · refine iT (nI_le q (by omega)) ?_
    by_cases e : nm f (tp f p i + 2) (slen j) = er j
    · have he := (nm_val hf.2.2.1 s1).mp e
      exact pk_loop (fun q k (_ : Unit) => w_Message_textBegins_17 t G (y 8 0) K q (nI i) (some (tks t j)) (nI k)) (fun _ _ => True) (slen j) 0 () (by omega) trivial (fun _ _ _ => ⟨j, hj, rfl, iT (Int32.le_refl _) (k1 q e)⟩) (fun q k _ hk _ ih => step q k hk (fun _ => ih () trivial) (fun w => absurd (he k hk) w))
    · have : ∃ k, k < slen j ∧ ¬ f (tp f p i + 2 + k) = er j / 256 ^ k % 256 := Classical.byContradiction fun n => e ((nm_val hf.2.2.1 s1).mpr fun k hk => Classical.byContradiction fun w => n ⟨k, hk, w⟩)
      obtain ⟨k, ⟨e1, e2⟩, e3⟩ := pk_least _ this
      exact pk_loop (fun q k (_ : Unit) => w_Message_textBegins_17 t G (y 8 0) K q (nI i) (some (tks t j)) (nI k)) (fun _ _ => True) k 0 () (by omega) trivial (fun q _ _ => step q k e1 (fun w => absurd w e2) (fun _ => k0 (fun w => e w.2))) (fun q k' _ hk _ ih => step q k' (by omega) (fun _ => ih () trivial) (fun w => absurd ⟨by omega, w⟩ (e3 k' hk)))
  · exact iF (nI_ge (by omega) (by omega)) (k0 fun w => q w.1)
theorem S_userNamed (hs : SH t y) (hz : FZ y G) (hf : MsF z f) (h : MsC y G z f) {p c i : Nat} (hT : TxC y G f p c) (hp : p ≤ 100) (hi : i < c) (hc : c ≤ 4) {K : Option Nat → Prop} (k : K ((unm f (tp f p i)).map (tad t))) : w_Message_userNamed t G (y 8 0) (nI i) K := by
  obtain ⟨x1, x2⟩ := hT.1 i hi
  have hL : nm f (tp f p i) 2 < 256 ^ 2 := nm_lt hf.2.2.1
  have step : ∀ q u, u < 3 → (isUs f (tp f p i) u → K (some (tad t u))) → (¬ isUs f (tp f p i) u → w_Message_userNamed_2 t G (y 8 0) K q (nI i) (nI (u + 1))) → w_Message_userNamed_2 t G (y 8 0) K (q + 1) (nI i) (nI u) := fun q u hu a b => by
    have s7 := (str7 (ttl u) (ttl29 hu)).1
    have cl : (nI u).toNatClampNeg = u := nI_clamp (by omega)
    refine iF (show ¬ nI 3 ≤ nI u from nI_ge hu (by decide)) ⟨vp_lt hu, u, hu, by rw [cl], hs.k 8 0, y 21 0, hz.2.2.1.2.2.1, hs.k 21 0, by rw [hs.n 21 0]; exact vp_lt (N := 4) (by omega), ttl u, ttl29 hu, rfl, ?_⟩
    rw [nI_clamp (by omega), x2, cl]
    have nx : ¬ isUs f (tp f p i) u → ∀ v4 : Int32, v4 = nI u + 1 → w_Message_userNamed_2 t G (y 8 0) K q (nI i) v4 := fun n v4 e => by subst e; rw [nI_1]; exact b n
    refine iN ⟨fun e => ?_, fun e => nx (fun w => e (by rw [w.1]))⟩
    have e := (nI_eq (by omega) (by omega)).mp e
    refine S_textBegins hs hz hf h hT hp hi hc (ttl29 hu) (fun _ e2 => ?_) (fun n => iT rfl (nx fun w => n ⟨by omega, w.2⟩))
    exact iF (by decide) ⟨vp_lt hu, a ⟨e, e2⟩⟩
  refine ⟨4, step 3 0 (by omega) (fun e => ?_) (fun n0 => step 2 1 (by omega) (fun e => ?_) (fun n1 => step 1 2 (by omega) (fun e => ?_) (fun n2 => ?_)))⟩
  · unfold unm at k; rw [if_pos e] at k; exact k
  · unfold unm at k; rw [if_neg n0, if_pos e] at k; exact k
  · unfold unm at k; rw [if_neg n0, if_neg n1, if_pos e] at k; exact k
  · unfold unm at k; rw [if_neg n0, if_neg n1, if_neg n2] at k
    unfold w_Message_userNamed_2
    exact iT (by decide) k
theorem M_userAt (hs : SH t y) (hm : FZ y m) (hf : MsF z f) (h : MsM y m z f) {q : Nat} (hq : q + 2 + nm f q 2 ≤ z) {K : Int32 → Prop} (k : K (uI (unm f q))) : w_M_userAt t m (y 1 0) (nI q) K := by
  have hz := hf.2.1
  have s0 : slen (ttl 0) = 3 := by decide
  have s1 : slen (ttl 1) = 3 := by decide
  have s2 : slen (ttl 2) = 2 := by decide
  have e0 : er (ttl 0) = 7237217 := by decide +kernel
  have e1 : er (ttl 1) = 6451042 := by decide +kernel
  have e2 : er (ttl 2) = 31075 := by decide +kernel
  have key : ∀ v, v < 2 ^ 62 → ((nm f q 2 = 3 → v = nm f (q + 2) 3) ∧ (nm f q 2 = 2 → v = nm f (q + 2) 2)) → w_M_userAt_30 t m (y 1 0) K (nI (nm f q 2)) (lN v) := fun v hv ⟨c3, c2⟩ => by
    unfold unm isUs at k
    rw [s0, s1, s2, e0, e1, e2] at k
    have l65 : ¬ (nm f q 2 = 3 ∧ nm f (q + 2) 3 = 7237217) → ¬ (nm f q 2 = 3 ∧ nm f (q + 2) 3 = 6451042) → w_M_userAt_65 t m (y 1 0) K (nI (nm f q 2)) (lN v) := fun n0 n1 => by
      rw [if_neg n0, if_neg n1] at k
      by_cases q2 : nm f q 2 = 2 ∧ nm f (q + 2) 2 = 31075
      · rw [if_pos q2] at k
        have : v = 31075 := (c2 q2.1).trans q2.2
        subst this
        rw [q2.1]
        unfold w_M_userAt_65
        exact iF (fun n => n rfl) (iF (fun n => n rfl) k)
      · rw [if_neg q2] at k
        refine iN ⟨fun a => iN ⟨fun b => absurd ⟨?_, ?_⟩ q2, fun _ => k⟩, fun _ => k⟩
        · exact (nI_eq (a := nm f q 2) (b := 2) (by omega) (by omega)).mp b
        · have b := (nI_eq (a := nm f q 2) (b := 2) (by omega) (by omega)).mp b
          have a := (pk_lEQ (a := v) (b := 31075) (by omega) (by decide)).mp a
          rw [← c2 b]; exact a
    have l48 : ¬ (nm f q 2 = 3 ∧ nm f (q + 2) 3 = 7237217) → w_M_userAt_48 t m (y 1 0) K (nI (nm f q 2)) (lN v) := fun n0 => by
      by_cases q1 : nm f q 2 = 3 ∧ nm f (q + 2) 3 = 6451042
      · rw [if_neg n0, if_pos q1] at k
        have : v = 6451042 := (c3 q1.1).trans q1.2
        subst this
        rw [q1.1]
        unfold w_M_userAt_48
        exact iF (fun n => n rfl) (iF (fun n => n rfl) k)
      · refine iN ⟨fun a => iN ⟨fun b => absurd ⟨?_, ?_⟩ q1, fun _ => l65 n0 q1⟩, fun _ => l65 n0 q1⟩
        · exact (nI_eq (a := nm f q 2) (b := 3) (by omega) (by omega)).mp b
        · have b := (nI_eq (a := nm f q 2) (b := 3) (by omega) (by omega)).mp b
          have a := (pk_lEQ (a := v) (b := 6451042) (by omega) (by decide)).mp a
          rw [← c3 b]; exact a
    by_cases q0 : nm f q 2 = 3 ∧ nm f (q + 2) 3 = 7237217
    · rw [if_pos q0] at k
      have : v = 7237217 := (c3 q0.1).trans q0.2
      subst this
      rw [q0.1]
      unfold w_M_userAt_30
      exact iF (fun n => n rfl) (iF (fun n => n rfl) k)
    · refine iN ⟨fun a => iN ⟨fun b => absurd ⟨?_, ?_⟩ q0, fun _ => l48 q0⟩, fun _ => l48 q0⟩
      · exact (nI_eq (a := nm f q 2) (b := 3) (by omega) (by omega)).mp b
      · have b := (nI_eq (a := nm f q 2) (b := 3) (by omega) (by omega)).mp b
        have a := (pk_lEQ (a := v) (b := 7237217) (by omega) (by decide)).mp a
        rw [← c3 b]; exact a
  refine ⟨hs.k 1 0, M_get (n := 2) hs hm hf h (by omega) (by omega) ?_⟩
  intro v2 e
  rw [lN_i] at e
  subst e
  by_cases a : nm f q 2 < 1
  · exact iT (nI_lt (b := 1) a (by decide)) (key 0 (by decide) ⟨fun w => by omega, fun w => by omega⟩)
  · refine iF (nI_nlt (b := 1) (by omega) (by omega)) ?_
    by_cases b : nm f q 2 ≤ 3
    · refine iT (nI_le (b := 3) b (by decide)) ?_
      rw [show nI q + 2 = nI (q + 2) from nI_add q 2]
      refine M_get hs hm hf h (by omega) (by omega) (key _ ?_ ⟨fun w => by rw [w], fun w => by rw [w]⟩)
      exact Nat.lt_of_lt_of_le (nm_lt hf.2.2.1) (Nat.le_trans (Nat.pow_le_pow_right (by decide) b) (by decide))
    · exact iF (nI_ge (b := nm f q 2) (a := 3) (by omega) (by omega)) (key 0 (by decide) ⟨fun w => by omega, fun w => by omega⟩)
/-- names that fit: the class -/
theorem S_nameFits (hs : SH t y) (hz : FZ y G) (hf : MsF z f) (h : MsC y G z f) {p c i : Nat} (hT : TxC y G f p c) (hp : p ≤ 100) (hi : i < c) (hc : c ≤ 4) {K : Int32 → Prop} (k1 : nft f (tp f p i) → K 1) (k0 : ¬ nft f (tp f p i) → K 0) : w_Message_nameFits t G (y 8 0) (nI i) K := by
  obtain ⟨x1, x2⟩ := hT.1 i hi
  have hb := @tp_lt f hf.2.2.1 p i
  have hL : nm f (tp f p i) 2 < 256 ^ 2 := nm_lt hf.2.2.1
  refine ⟨hs.k 8 0, y 21 0, hz.2.2.1.2.2.1, hs.k 21 0, by rw [hs.n 21 0]; exact vp_lt (N := 4) (by omega), ?_⟩
  intro v2 e2
  rw [nI_clamp (by omega), x2] at e2
  subst e2
  by_cases a : nm f (tp f p i) 2 < 1
  · exact iT (nI_lt (b := 1) a (by decide)) (k0 fun w => by have := w.1; omega)
  refine iF (nI_nlt (b := 1) (by omega) (by omega)) ?_
  by_cases b : nm f (tp f p i) 2 ≤ 8
  · refine iT (nI_le (b := 8) b (by decide)) ?_
    have step : ∀ (q k d : Nat), k < nm f (tp f p i) 2 → (gdC (f (tp f p i + 2 + k)) → w_Message_nameFits_25 t G (y 8 0) K q (nI i) (nI (nm f (tp f p i) 2)) (nI (d + if f (tp f p i + 2 + k) = 46 then 1 else 0)) (nI (k + 1))) → (¬ gdC (f (tp f p i + 2 + k)) → K 0) → w_Message_nameFits_25 t G (y 8 0) K (q + 1) (nI i) (nI (nm f (tp f p i) 2)) (nI d) (nI k) := fun q k d hk a0 b0 => by
      refine iF (nI_ge hk (by omega)) ⟨hs.k 8 0, y 20 0, hz.2.2.1.2.1, hs.k 20 0, by rw [hs.n 20 0]; exact vp_lt (N := 4) (by omega), ?_⟩
      rw [nI_clamp (by omega), x1, nI_add]
      refine S_number (n := 1) hs hz hf h (by omega) (by omega) ?_
      rw [nm_1]
      have h256 := hf.2.2.1 (tp f p i + 2 + k)
      by_cases q1 : f (tp f p i + 2 + k) < 33
      · exact iT ((pk_lLT (b := 33) (by omega) (by decide)).mpr q1) (b0 fun w => by have := w.1; omega)
      refine iF (fun w => q1 ((pk_lLT (b := 33) (by omega) (by decide)).mp w)) ?_
      by_cases q2 : 126 < f (tp f p i + 2 + k)
      · exact iT ((pk_lLT (a := 126) (by decide) (by omega)).mpr q2) (b0 fun w => by have := w.2.1; omega)
      refine iF (fun w => q2 ((pk_lLT (a := 126) (by decide) (by omega)).mp w)) ?_
      by_cases q3 : f (tp f p i + 2 + k) = 47
      · exact iF (fun w => w (by rw [q3]; rfl)) (b0 fun w => w.2.2 q3)
      refine iT (fun w => q3 ((pk_lEQ (b := 47) (by omega) (by decide)).mp w)) ?_
      have A := a0 ⟨by omega, by omega, q3⟩
      by_cases q4 : f (tp f p i + 2 + k) = 46
      · refine iF (fun w => w (by rw [q4]; rfl)) ?_
        rw [if_pos q4] at A
        intro v1 e1 v2 e2
        rw [nI_1] at e1 e2
        subst e1 e2; exact A
      · refine iT (fun w => q4 ((pk_lEQ (b := 46) (by omega) (by decide)).mp w)) ?_
        rw [if_neg q4] at A
        intro v1 e1 v2 e2
        rw [show nI d + 0 = nI (d + 0) from nI_add d 0] at e1
        rw [nI_1] at e2
        subst e1 e2; exact A
    have cs : ∀ k, cnt (fun e => decide (f (tp f p i + 2 + e) = 46)) k + (if f (tp f p i + 2 + k) = 46 then 1 else 0) = cnt (fun e => decide (f (tp f p i + 2 + e) = 46)) (k + 1) := fun k => by
      show _ = cnt _ k + _
      simp only [decide_eq_true_eq]
    by_cases g : ∀ k, k < nm f (tp f p i) 2 → gdC (f (tp f p i + 2 + k))
    · refine pk_loop (fun q k (_ : Unit) => w_Message_nameFits_25 t G (y 8 0) K q (nI i) (nI (nm f (tp f p i) 2)) (nI (cnt (fun e => decide (f (tp f p i + 2 + e) = 46)) k)) (nI k)) (fun _ _ => True) (nm f (tp f p i) 2) 0 () (by omega) trivial (fun q _ _ => ?_) (fun q k _ hk _ ih => step q k _ hk (fun _ => by rw [cs]; exact ih () trivial) (fun w => absurd (g k hk) w))
      refine iT (Int32.le_refl _) ?_
      by_cases q2 : 2 < nm f (tp f p i) 2
      · exact iT (nI_lt (a := 2) q2 (by omega)) (k1 ⟨by omega, b, g, fun w => by omega⟩)
      refine iF (nI_nlt (a := 2) (by omega) (by omega)) ?_
      have cl := @cnt_le (fun e => decide (f (tp f p i + 2 + e) = 46)) (nm f (tp f p i) 2)
      by_cases al : ∀ k, k < nm f (tp f p i) 2 → f (tp f p i + 2 + k) = 46
      · refine iT (nI_le ?_ (by omega)) (k0 fun w => ?_)
        · rw [cnt_all (fun k hk => by simp only [decide_eq_true_eq]; exact al k hk)]; exact Nat.le_refl _
        · obtain ⟨k, w1, w2⟩ := w.2.2.2 (by omega)
          exact w2 (al k w1)
      · have : ∃ k, k < nm f (tp f p i) 2 ∧ f (tp f p i + 2 + k) ≠ 46 := Classical.byContradiction fun n => al fun k hk => Classical.byContradiction fun w => n ⟨k, hk, w⟩
        obtain ⟨k, w1, w2⟩ := id this
        refine iF (nI_ge ?_ (by omega)) (k1 ⟨by omega, b, g, fun _ => this⟩)
        exact cnt_less (k := k) (by simp only [decide_eq_true_eq]; exact w2) w1
    · have : ∃ k, k < nm f (tp f p i) 2 ∧ ¬ gdC (f (tp f p i + 2 + k)) := Classical.byContradiction fun n => g fun k hk => Classical.byContradiction fun w => n ⟨k, hk, w⟩
      obtain ⟨k, ⟨e1, e2⟩, e3⟩ := pk_least _ this
      exact pk_loop (fun q k (_ : Unit) => w_Message_nameFits_25 t G (y 8 0) K q (nI i) (nI (nm f (tp f p i) 2)) (nI (cnt (fun e => decide (f (tp f p i + 2 + e) = 46)) k)) (nI k)) (fun _ _ => True) k 0 () (by omega) trivial (fun q _ _ => step q k _ e1 (fun w => absurd w e2) (fun _ => k0 fun w => e2 (w.2.2.1 k e1))) (fun q k' _ hk _ ih => step q k' _ (by omega) (fun _ => by rw [cs]; exact ih () trivial) (fun w => absurd ⟨by omega, w⟩ (e3 k' hk)))
  · exact iF (nI_ge (a := 8) (by omega) (by omega)) (k0 fun w => b w.2.1)
/-- a truth as a number -/
noncomputable def bI (P : Prop) : Int32 := @ite Int32 P (Classical.propDecidable P) 1 0
theorem bI_1 {P : Prop} (h : P) : bI P = 1 := by unfold bI; rw [if_pos h]
theorem bI_0 {P : Prop} (h : ¬ P) : bI P = 0 := by unfold bI; rw [if_neg h]
/-- .. and the reference -/
theorem M_fits (hs : SH t y) (hm : FZ y m) (hf : MsF z f) (h : MsM y m z f) {q : Nat} (hq : q + 2 + nm f q 2 ≤ z) {K : Int32 → Prop} (k1 : nft f q → K 1) (k0 : ¬ nft f q → K 0) : w_M_fits t m (y 1 0) (nI q) K := by
  have hz := hf.2.1
  refine ⟨hs.k 1 0, M_get (n := 2) hs hm hf h (by omega) (by omega) ?_⟩
  intro v2 e
  rw [lN_i] at e
  subst e
  by_cases a : nm f q 2 < 1
  · exact iT (nI_lt (b := 1) a (by decide)) (k0 fun w => by have := w.1; omega)
  refine iF (nI_nlt (b := 1) (by omega) (by omega)) ?_
  by_cases b : nm f q 2 ≤ 8
  · refine iT (nI_le (b := 8) b (by decide)) ?_
    have main : ∃ n, w_M_fits_38 t m (y 1 0) K n (nI q) (nI (nm f q 2)) (bI (∀ k, k < 0 → gdC (f (q + 2 + k)))) (bI (nm f q 2 ≤ 2 ∧ ∀ k, k < 0 → f (q + 2 + k) = 46)) (nI 0) := by
      refine pk_loop (fun n i (_ : Unit) => w_M_fits_38 t m (y 1 0) K n (nI q) (nI (nm f q 2)) (bI (∀ k, k < i → gdC (f (q + 2 + k)))) (bI (nm f q 2 ≤ 2 ∧ ∀ k, k < i → f (q + 2 + k) = 46)) (nI i)) (fun _ _ => True) (nm f q 2) 0 () (by omega) trivial (fun n _ _ => ?_) (fun n i _ hi _ ih => ?_)
      · refine iT (Int32.le_refl _) ?_
        by_cases g : ∀ k, k < nm f q 2 → gdC (f (q + 2 + k))
        · rw [bI_1 g]
          refine iF (by decide) ?_
          by_cases d : nm f q 2 ≤ 2 ∧ ∀ k, k < nm f q 2 → f (q + 2 + k) = 46
          · rw [bI_1 d]
            refine iT (by decide) (k0 fun w => ?_)
            obtain ⟨k, w1, w2⟩ := w.2.2.2 d.1
            exact w2 (d.2 k w1)
          · rw [bI_0 d]
            exact iF (by decide) (k1 ⟨by omega, b, g, fun w => Classical.byContradiction fun n => d ⟨w, fun k hk => Classical.byContradiction fun w' => n ⟨k, hk, w'⟩⟩⟩)
        · rw [bI_0 g]
          exact iT rfl (k0 fun w => g w.2.2.1)
      · have ih := ih () trivial
        have h256 := hf.2.2.1 (q + 2 + i)
        have ei : nI q + 2 + nI i = nI (q + 2 + i) := by rw [show nI q + 2 = nI (q + 2) from nI_add q 2, nI_add]
        refine iF (nI_ge hi (by omega)) ⟨hs.k 1 0, y 30 94, hm.m 94, hs.k 30 94, by rw [hs.n 30 94, ei]; exact vp_lt (N := 128) (by omega), ?_⟩
        intro v2 e2
        rw [ei, nI_clamp (by omega), h.2 _ (by omega)] at e2
        subst e2
        -- behind the good characters' flag
        have l87 : w_M_fits_87 t m (y 1 0) K (w_M_fits_38 t m (y 1 0) K n) (nI q) (nI (nm f q 2)) (bI (nm f q 2 ≤ 2 ∧ ∀ k, k < i → f (q + 2 + k) = 46)) (nI i) (nI (f (q + 2 + i))) (bI (∀ k, k < i + 1 → gdC (f (q + 2 + k)))) := by
          have fin : ∀ s0, s0 = bI (nm f q 2 ≤ 2 ∧ ∀ k, k < i + 1 → f (q + 2 + k) = 46) → w_M_fits_105 t m (y 1 0) K (w_M_fits_38 t m (y 1 0) K n) (nI q) (nI (nm f q 2)) (bI (∀ k, k < i + 1 → gdC (f (q + 2 + k)))) (nI i) s0 := fun s0 e0 v1 e1 => by
            rw [nI_1] at e1
            subst e0 e1
            exact ih
          by_cases d : nm f q 2 ≤ 2 ∧ ∀ k, k < i → f (q + 2 + k) = 46
          · rw [bI_1 d]
            refine iF (by decide) ?_
            by_cases d2 : f (q + 2 + i) = 46
            · refine iF (fun w => w (by rw [d2]; rfl)) (fin 1 (bI_1 ⟨d.1, fun k hk => ?_⟩).symm)
              by_cases q2 : k = i
              · rw [q2]; exact d2
              · exact d.2 k (by omega)
            · refine iT (fun w => d2 ((nI_eq (b := 46) (by omega) (by decide)).mp w)) (fin 0 (bI_0 fun w => d2 (w.2 i (by omega))).symm)
          · rw [bI_0 d]
            exact iT rfl (fin 0 (bI_0 fun w => d ⟨w.1, fun k hk => w.2 k (by omega)⟩).symm)
        have bad : ¬ (∀ k, k < i + 1 → gdC (f (q + 2 + k))) → w_M_fits_86 t m (y 1 0) K (w_M_fits_38 t m (y 1 0) K n) (nI q) (nI (nm f q 2)) (bI (nm f q 2 ≤ 2 ∧ ∀ k, k < i → f (q + 2 + k) = 46)) (nI i) (nI (f (q + 2 + i))) := fun w => by
          rw [bI_0 w] at l87; exact l87
        by_cases g : ∀ k, k < i → gdC (f (q + 2 + k))
        · rw [bI_1 g]
          refine iF (by decide) ?_
          by_cases q1 : f (q + 2 + i) ≤ 32
          · exact iT (nI_le (b := 32) q1 (by decide)) (bad fun w => by have := (w i (by omega)).1; omega)
          refine iF (nI_ge (a := 32) (by omega) (by omega)) ?_
          by_cases q2 : 127 ≤ f (q + 2 + i)
          · exact iT (nI_le (a := 127) q2 (by omega)) (bad fun w => by have := (w i (by omega)).2.1; omega)
          refine iF (nI_ge (b := 127) (by omega) (by decide)) ?_
          by_cases q3 : f (q + 2 + i) = 47
          · exact iT (by rw [q3]; rfl) (bad fun w => (w i (by omega)).2.2 q3)
          refine iF (fun w => q3 ((nI_eq (b := 47) (by omega) (by decide)).mp w)) ?_
          rw [bI_1 (fun k hk => by
            by_cases q4 : k = i
            · rw [q4]; exact ⟨by omega, by omega, q3⟩
            · exact g k (by omega))] at l87
          exact l87
        · rw [bI_0 g]
          exact iT rfl (bad fun w => g fun k hk => w k (by omega))
    rw [bI_1 (fun k hk => absurd hk (by omega))] at main
    by_cases b3 : 3 ≤ nm f q 2
    · rw [bI_0 (fun w => by have := w.1; omega)] at main
      exact iT (nI_le (a := 3) b3 (by omega)) main
    · rw [bI_1 ⟨by omega, fun k hk => absurd hk (by omega)⟩] at main
      exact iF (nI_ge (b := 3) (by omega) (by decide)) main
  · exact iF (nI_ge (a := 8) (by omega) (by omega)) (k0 fun w => b w.2.1)
theorem isDd_e (hf : ∀ k, f k < 256) {q : Nat} : (nm f q 2 = slen 16 ∧ nm f (q + 2) (slen 16) = er 16) ↔ isDd f q := by
  have e1 : slen 16 = 2 := by decide
  have e2 : er 16 = 11822 := by decide +kernel
  have h1 := hf (q + 2)
  have h2 := hf (q + 2 + 1)
  rw [e1, e2, @nm_2 f (q + 2)]
  unfold isDd
  rw [show q + 3 = q + 2 + 1 from rfl]
  omega
theorem M_isDots (hs : SH t y) (hm : FZ y m) (hf : MsF z f) (h : MsM y m z f) {q : Nat} (hq : q + 2 + nm f q 2 ≤ z) {K : Int32 → Prop} (k1 : isDd f q → K 1) (k0 : ¬ isDd f q → K 0) : w_M_isDots t m (y 1 0) (nI q) K := by
  have hz := hf.2.1
  have hL : nm f q 2 < 256 ^ 2 := nm_lt hf.2.2.1
  refine ⟨hs.k 1 0, M_get (n := 2) hs hm hf h (by omega) (by omega) ?_⟩
  refine iN ⟨fun e => ?_, fun e => k0 fun w => e (by rw [w.1]; rfl)⟩
  have e := (pk_lEQ (b := 2) (by omega) (by decide)).mp e
  have b2 := hf.2.2.1 (q + 2)
  have b3 := hf.2.2.1 (q + 3)
  have e2 : nI q + 2 = nI (q + 2) := nI_add q 2
  have e3 : nI q + 3 = nI (q + 3) := nI_add q 3
  refine ⟨y 30 94, hm.m 94, hs.k 30 94, by rw [hs.n 30 94, e2]; exact vp_lt (N := 128) (by omega), ?_⟩
  rw [e2, nI_clamp (by omega), h.2 _ (by omega)]
  refine iN ⟨fun a => ⟨by rw [hs.n 30 94, e3]; exact vp_lt (N := 128) (by omega), ?_⟩, fun a => k0 fun w => a (by rw [w.2.1]; rfl)⟩
  rw [e3, nI_clamp (by omega), h.2 _ (by omega)]
  exact iN ⟨fun b => k1 ⟨e, (nI_eq (b := 46) (by omega) (by decide)).mp a, (nI_eq (b := 46) (by omega) (by decide)).mp b⟩, fun b => k0 fun w => b (by rw [w.2.2]; rfl)⟩
end TEXTS
