/-! the reference's runs look at its own part alone (printed) -/
def eM (a0 : Nat) (G H : GS) : Prop := (∀ f, 70 ≤ f → gi H f a0 = gi G f a0 ∧ gl H f a0 = gl G f a0 ∧ gr H f a0 = gr G f a0) ∧ ∀ f a, ((70 ≤ f ∧ f ≤ 72) ∨ (79 ≤ f ∧ f ≤ 94) ∨ f = 96) → gr G f a0 = some a → ai H a = ai G a ∧ al H a = al G a
def cM (a0 : Nat) (H H' : GS) : Prop := (∀ f a, (a ≠ a0 ∨ f < 70) → gi H' f a = gi H f a ∧ gl H' f a = gl H f a) ∧ (∀ f a, gr H' f a = gr H f a) ∧ (∀ b, (∀ f, ((70 ≤ f ∧ f ≤ 72) ∨ (79 ≤ f ∧ f ≤ 94) ∨ f = 96) → gr H f a0 ≠ some b) → ai H' b = ai H b ∧ al H' b = al H b) ∧ ∀ b, ar H' b = ar H b
theorem cM.rf {a0 : Nat} {H : GS} : cM a0 H H := ⟨fun _ _ _ => ⟨rfl, rfl⟩, fun _ _ => rfl, fun _ _ => ⟨rfl, rfl⟩, fun _ => rfl⟩
theorem cM.tr {a0 : Nat} {H H1 H2 : GS} (a : cM a0 H H1) (b : cM a0 H1 H2) : cM a0 H H2 := ⟨fun f x h => ⟨(b.1 f x h).1.trans (a.1 f x h).1, (b.1 f x h).2.trans (a.1 f x h).2⟩, fun f x => (b.2.1 f x).trans (a.2.1 f x), fun x h => ⟨((b.2.2.1 x (fun f hf => by rw [a.2.1]; exact h f hf)).1).trans (a.2.2.1 x h).1, ((b.2.2.1 x (fun f hf => by rw [a.2.1]; exact h f hf)).2).trans (a.2.2.1 x h).2⟩, fun x => (b.2.2.2 x).trans (a.2.2.2 x)⟩
theorem eM.simp {a0 : Nat} {G H : GS} (e : eM a0 G H) : (∀ f, 70 ≤ f → gi H f a0 = gi G f a0) ∧ (∀ f, 70 ≤ f → gl H f a0 = gl G f a0) ∧ (∀ f, 70 ≤ f → gr H f a0 = gr G f a0) := ⟨fun f h => (e.1 f h).1, fun f h => (e.1 f h).2.1, fun f h => (e.1 f h).2.2⟩
theorem eM.si {a0 : Nat} {G H : GS} (e : eM a0 G H) {f : Nat} {x : Int32} (_ : 70 ≤ f) : eM a0 (si G f a0 x) (si H f a0 x) := ⟨fun g hg => ⟨by
  by_cases q : g = f
  · subst q; rw [gi_at, gi_at]
  · rw [gi_ne q, gi_ne q]; exact (e.1 g hg).1, (e.1 g hg).2.1, (e.1 g hg).2.2⟩, fun g a hg h => e.2 g a hg h⟩
theorem eM.sl {a0 : Nat} {G H : GS} (e : eM a0 G H) {f : Nat} {x : Int64} (_ : 70 ≤ f) : eM a0 (sl G f a0 x) (sl H f a0 x) := ⟨fun g hg => ⟨(e.1 g hg).1, by
  by_cases q : g = f
  · subst q; rw [gl_at, gl_at]
  · rw [gl_ne q, gl_ne q]; exact (e.1 g hg).2.1, (e.1 g hg).2.2⟩, fun g a hg h => e.2 g a hg h⟩
theorem eM.ais {a0 : Nat} {G H : GS} (e : eM a0 G H) {a j : Nat} {x : Int32} : eM a0 (ais G a j x) (ais H a j x) := ⟨fun g hg => e.1 g hg, fun g b hg h => ⟨by
  have := (e.2 g b hg h).1
  funext k
  show (if b = a ∧ k = j then x else ai H b k) = (if b = a ∧ k = j then x else ai G b k)
  rw [this], (e.2 g b hg h).2⟩⟩
theorem eM.als {a0 : Nat} {G H : GS} (e : eM a0 G H) {a j : Nat} {x : Int64} : eM a0 (als G a j x) (als H a j x) := ⟨fun g hg => e.1 g hg, fun g b hg h => ⟨(e.2 g b hg h).1, by
  have := (e.2 g b hg h).2
  funext k
  show (if b = a ∧ k = j then x else al H b k) = (if b = a ∧ k = j then x else al G b k)
  rw [this]⟩⟩
theorem cM.si {a0 : Nat} {H H' : GS} (c : cM a0 H H') {f : Nat} {x : Int32} (hf : 70 ≤ f := by omega) : cM a0 H (si H' f a0 x) := ⟨fun g a h => ⟨(h.elim (fun h => gi_na h) (fun h => gi_ne (by omega))).trans (c.1 g a h).1, (c.1 g a h).2⟩, c.2.1, c.2.2.1, c.2.2.2⟩
theorem cM.sl {a0 : Nat} {H H' : GS} (c : cM a0 H H') {f : Nat} {x : Int64} (hf : 70 ≤ f := by omega) : cM a0 H (sl H' f a0 x) := ⟨fun g a h => ⟨(c.1 g a h).1, (h.elim (fun h => gl_na h) (fun h => gl_ne (by omega))).trans (c.1 g a h).2⟩, c.2.1, c.2.2.1, c.2.2.2⟩
theorem cM.ais {a0 : Nat} {H H' : GS} (c : cM a0 H H') {a j : Nat} {x : Int32} (h : ∃ f, ((70 ≤ f ∧ f ≤ 72) ∨ (79 ≤ f ∧ f ≤ 94) ∨ f = 96) ∧ gr H' f a0 = some a) : cM a0 H (ais H' a j x) := ⟨c.1, c.2.1, fun b hb => ⟨(ai_nb (fun q => by obtain ⟨f, hf, z⟩ := h; rw [c.2.1, ← q] at z; exact hb f hf z)).trans (c.2.2.1 b hb).1, (c.2.2.1 b hb).2⟩, c.2.2.2⟩
theorem cM.als {a0 : Nat} {H H' : GS} (c : cM a0 H H') {a j : Nat} {x : Int64} (h : ∃ f, ((70 ≤ f ∧ f ≤ 72) ∨ (79 ≤ f ∧ f ≤ 94) ∨ f = 96) ∧ gr H' f a0 = some a) : cM a0 H (als H' a j x) := ⟨c.1, c.2.1, fun b hb => ⟨(c.2.2.1 b hb).1, (al_nb (fun q => by obtain ⟨f, hf, z⟩ := h; rw [c.2.1, ← q] at z; exact hb f hf z)).trans (c.2.2.1 b hb).2⟩, c.2.2.2⟩
theorem ex_lift {α : Type} {P A B : α → Prop} (h : ∃ a, P a ∧ A a) (f : ∀ a, P a → A a → B a) : ∃ a, P a ∧ B a := by obtain ⟨a, p, q⟩ := h; exact ⟨a, p, f a p q⟩
theorem and_lift {P A B : Prop} (h : P ∧ A) (f : A → B) : P ∧ B := ⟨h.1, f h.2⟩
theorem all_lift {α : Type} {x z : α} {A B : α → Prop} (h : ∀ a, a = x → A a) (f : ∀ b, b = z → A x → B b) : ∀ b, b = z → B b := fun b e => f b e (h x rfl)
theorem bind_lift {α : Type} {x : α} {A B : α → Prop} (h : ∀ a, a = x → A a) (f : ∀ a, A a → B a) : ∀ a, a = x → B a := fun a e => f a (h a e)
theorem ite_lift {c : Prop} {i j : Decidable c} {A B A' B' : Prop} (h : @ite Prop c i A B) (f : A → A') (g : B → B') : @ite Prop c j A' B' := by
  by_cases q : c
  · rw [if_pos q] at h ⊢; exact f h
  · rw [if_neg q] at h ⊢; exact g h
set_option maxHeartbeats 4000000 in
theorem f_M_fresh_42 {t : TY} {a0 : Nat} {G H H0 : GS} {K K' : GS → Prop} (e : eM a0 G H) (c : cM a0 H0 H) (hk : ∀ (G' H' : GS), eM a0 G' H' → cM a0 H0 H' → K G' → K' H') : ∀ (n : Nat) {l1 : Int32} {l2 : Int32}, w_M_fresh_42 t a0 K n l1 l2 G → w_M_fresh_42 t a0 K' n l1 l2 H := by
  intro n
  induction n generalizing G H with
  | zero => intro l1 l2 h; exact h.elim
  | succ n ih =>
    intro l1 l2 h
    have hr42 : ∀ (x0 : Int32) (x1 : Int32) (G H : GS), eM a0 G H → cM a0 H0 H → w_M_fresh_42 t a0 K n x0 x1 G → w_M_fresh_42 t a0 K' n x0 x1 H := fun _ _ G H e c h => ih e c h
    unfold w_M_fresh_42 at h ⊢
    have z1 := eM.simp e
    try simp (disch := omega) only [z1]
    try dsimp only at h ⊢
    refine ite_lift h (fun h => ?_) (fun h => ?_)
    · try simp (disch := omega) only [z1]
      exact hk _ _ e c h
    · try simp (disch := omega) only [z1]
      refine and_lift h (fun h => ?_)
      refine ex_lift h (fun a1 q2 h => ?_)
      try simp only [((e).2 86 a1 (by omega) q2).1, ((e).2 86 a1 (by omega) q2).2]
      refine and_lift h (fun h => ?_)
      refine and_lift h (fun h => ?_)
      refine all_lift h (fun H2 eH2 h => ?_)
      obtain ⟨G2, eG2⟩ : ∃ z, z = ais G a1 l2.toNatClampNeg (vp_nar .boolean (0 : Int32)) := ⟨_, rfl⟩
      rw [← eG2] at h
      have e3 : eM a0 G2 H2 := by rw [eG2, eH2]; exact eM.ais e
      have c4 : cM a0 H0 H2 := by rw [eH2]; exact cM.ais c ⟨86, by omega, (((e).1 86 (by omega)).2.2).trans q2⟩
      have kG2 : ∀ f a, ((70 ≤ f ∧ f ≤ 72) ∨ (79 ≤ f ∧ f ≤ 94) ∨ f = 96) → gr G f a0 = some a → gr G2 f a0 = some a := by intro f a _ z; rw [eG2]; exact z
      have q5 := kG2 86 a1 (by omega) q2
      have z6 := eM.simp e3
      try simp (disch := omega) only [z6]
      try simp only [((e3).2 86 a1 (by omega) q5).1, ((e3).2 86 a1 (by omega) q5).2]
      refine bind_lift h (fun v3 h => ?_)
      exact hr42 _ _ _ _ e3 c4 h
set_option maxHeartbeats 4000000 in
theorem f_M_fresh {t : TY} {a0 : Nat} {G H : GS} {K K' : GS → Prop} (e : eM a0 G H) (hk : ∀ (G' H' : GS), eM a0 G' H' → cM a0 H H' → K G' → K' H') {p1 : Int32} (h : w_M_fresh t G a0 p1 K) : w_M_fresh t H a0 p1 K' := by
  obtain ⟨H0, eH0⟩ : ∃ z, z = H := ⟨_, rfl⟩
  have c : cM a0 H0 H := by rw [eH0]; exact cM.rf
  have hk : ∀ (G' H' : GS), eM a0 G' H' → cM a0 H0 H' → K G' → K' H' := by rw [eH0]; exact hk
  unfold w_M_fresh at h ⊢
  have z1 := eM.simp e
  try simp (disch := omega) only [z1]
  refine and_lift h (fun h => ?_)
  refine ex_lift h (fun a1 q2 h => ?_)
  try simp only [((e).2 80 a1 (by omega) q2).1, ((e).2 80 a1 (by omega) q2).2]
  refine and_lift h (fun h => ?_)
  refine and_lift h (fun h => ?_)
  refine all_lift h (fun H2 eH2 h => ?_)
  obtain ⟨G2, eG2⟩ : ∃ z, z = ais G a1 p1.toNatClampNeg (0 : Int32) := ⟨_, rfl⟩
  rw [← eG2] at h
  have e3 : eM a0 G2 H2 := by rw [eG2, eH2]; exact eM.ais e
  have c4 : cM a0 H0 H2 := by rw [eH2]; exact cM.ais c ⟨80, by omega, (((e).1 80 (by omega)).2.2).trans q2⟩
  have kG2 : ∀ f a, ((70 ≤ f ∧ f ≤ 72) ∨ (79 ≤ f ∧ f ≤ 94) ∨ f = 96) → gr G f a0 = some a → gr G2 f a0 = some a := by intro f a _ z; rw [eG2]; exact z
  have q5 := kG2 80 a1 (by omega) q2
  have z6 := eM.simp e3
  try simp (disch := omega) only [z6]
  try simp only [((e3).2 80 a1 (by omega) q5).1, ((e3).2 80 a1 (by omega) q5).2]
  refine ex_lift h (fun a3 q7 h => ?_)
  try simp only [((e3).2 82 a3 (by omega) q7).1, ((e3).2 82 a3 (by omega) q7).2]
  refine and_lift h (fun h => ?_)
  refine and_lift h (fun h => ?_)
  refine all_lift h (fun H4 eH4 h => ?_)
  obtain ⟨G4, eG4⟩ : ∃ z, z = ais G2 a3 p1.toNatClampNeg (0 : Int32) := ⟨_, rfl⟩
  rw [← eG4] at h
  have e8 : eM a0 G4 H4 := by rw [eG4, eH4]; exact eM.ais e3
  have c9 : cM a0 H0 H4 := by rw [eH4]; exact cM.ais c4 ⟨82, by omega, (((e3).1 82 (by omega)).2.2).trans q7⟩
  have kG4 : ∀ f a, ((70 ≤ f ∧ f ≤ 72) ∨ (79 ≤ f ∧ f ≤ 94) ∨ f = 96) → gr G2 f a0 = some a → gr G4 f a0 = some a := by intro f a _ z; rw [eG4]; exact z
  have q10 := kG4 80 a1 (by omega) q5
  have q11 := kG4 82 a3 (by omega) q7
  have z12 := eM.simp e8
  try simp (disch := omega) only [z12]
  try simp only [((e8).2 80 a1 (by omega) q10).1, ((e8).2 80 a1 (by omega) q10).2, ((e8).2 82 a3 (by omega) q11).1, ((e8).2 82 a3 (by omega) q11).2]
  refine ex_lift h (fun a5 q13 h => ?_)
  try simp only [((e8).2 83 a5 (by omega) q13).1, ((e8).2 83 a5 (by omega) q13).2]
  refine and_lift h (fun h => ?_)
  refine and_lift h (fun h => ?_)
  refine all_lift h (fun H6 eH6 h => ?_)
  obtain ⟨G6, eG6⟩ : ∃ z, z = ais G4 a5 p1.toNatClampNeg (128 : Int32) := ⟨_, rfl⟩
  rw [← eG6] at h
  have e14 : eM a0 G6 H6 := by rw [eG6, eH6]; exact eM.ais e8
  have c15 : cM a0 H0 H6 := by rw [eH6]; exact cM.ais c9 ⟨83, by omega, (((e8).1 83 (by omega)).2.2).trans q13⟩
  have kG6 : ∀ f a, ((70 ≤ f ∧ f ≤ 72) ∨ (79 ≤ f ∧ f ≤ 94) ∨ f = 96) → gr G4 f a0 = some a → gr G6 f a0 = some a := by intro f a _ z; rw [eG6]; exact z
  have q16 := kG6 80 a1 (by omega) q10
  have q17 := kG6 82 a3 (by omega) q11
  have q18 := kG6 83 a5 (by omega) q13
  have z19 := eM.simp e14
  try simp (disch := omega) only [z19]
  try simp only [((e14).2 80 a1 (by omega) q16).1, ((e14).2 80 a1 (by omega) q16).2, ((e14).2 82 a3 (by omega) q17).1, ((e14).2 82 a3 (by omega) q17).2, ((e14).2 83 a5 (by omega) q18).1, ((e14).2 83 a5 (by omega) q18).2]
  refine ex_lift h (fun a7 q20 h => ?_)
  try simp only [((e14).2 84 a7 (by omega) q20).1, ((e14).2 84 a7 (by omega) q20).2]
  refine and_lift h (fun h => ?_)
  refine and_lift h (fun h => ?_)
  refine all_lift h (fun H8 eH8 h => ?_)
  obtain ⟨G8, eG8⟩ : ∃ z, z = ais G6 a7 p1.toNatClampNeg (vp_nar .boolean (0 : Int32)) := ⟨_, rfl⟩
  rw [← eG8] at h
  have e21 : eM a0 G8 H8 := by rw [eG8, eH8]; exact eM.ais e14
  have c22 : cM a0 H0 H8 := by rw [eH8]; exact cM.ais c15 ⟨84, by omega, (((e14).1 84 (by omega)).2.2).trans q20⟩
  have kG8 : ∀ f a, ((70 ≤ f ∧ f ≤ 72) ∨ (79 ≤ f ∧ f ≤ 94) ∨ f = 96) → gr G6 f a0 = some a → gr G8 f a0 = some a := by intro f a _ z; rw [eG8]; exact z
  have q23 := kG8 80 a1 (by omega) q16
  have q24 := kG8 82 a3 (by omega) q17
  have q25 := kG8 83 a5 (by omega) q18
  have q26 := kG8 84 a7 (by omega) q20
  have z27 := eM.simp e21
  try simp (disch := omega) only [z27]
  try simp only [((e21).2 80 a1 (by omega) q23).1, ((e21).2 80 a1 (by omega) q23).2, ((e21).2 82 a3 (by omega) q24).1, ((e21).2 82 a3 (by omega) q24).2, ((e21).2 83 a5 (by omega) q25).1, ((e21).2 83 a5 (by omega) q25).2, ((e21).2 84 a7 (by omega) q26).1, ((e21).2 84 a7 (by omega) q26).2]
  refine ex_lift h (fun a9 q28 h => ?_)
  try simp only [((e21).2 85 a9 (by omega) q28).1, ((e21).2 85 a9 (by omega) q28).2]
  refine and_lift h (fun h => ?_)
  refine and_lift h (fun h => ?_)
  refine all_lift h (fun H10 eH10 h => ?_)
  obtain ⟨G10, eG10⟩ : ∃ z, z = ais G8 a9 p1.toNatClampNeg (vp_nar .boolean (0 : Int32)) := ⟨_, rfl⟩
  rw [← eG10] at h
  have e29 : eM a0 G10 H10 := by rw [eG10, eH10]; exact eM.ais e21
  have c30 : cM a0 H0 H10 := by rw [eH10]; exact cM.ais c22 ⟨85, by omega, (((e21).1 85 (by omega)).2.2).trans q28⟩
  have kG10 : ∀ f a, ((70 ≤ f ∧ f ≤ 72) ∨ (79 ≤ f ∧ f ≤ 94) ∨ f = 96) → gr G8 f a0 = some a → gr G10 f a0 = some a := by intro f a _ z; rw [eG10]; exact z
  have q31 := kG10 80 a1 (by omega) q23
  have q32 := kG10 82 a3 (by omega) q24
  have q33 := kG10 83 a5 (by omega) q25
  have q34 := kG10 84 a7 (by omega) q26
  have q35 := kG10 85 a9 (by omega) q28
  have z36 := eM.simp e29
  try simp (disch := omega) only [z36]
  try simp only [((e29).2 80 a1 (by omega) q31).1, ((e29).2 80 a1 (by omega) q31).2, ((e29).2 82 a3 (by omega) q32).1, ((e29).2 82 a3 (by omega) q32).2, ((e29).2 83 a5 (by omega) q33).1, ((e29).2 83 a5 (by omega) q33).2, ((e29).2 84 a7 (by omega) q34).1, ((e29).2 84 a7 (by omega) q34).2, ((e29).2 85 a9 (by omega) q35).1, ((e29).2 85 a9 (by omega) q35).2]
  refine bind_lift h (fun v11 h => ?_)
  obtain ⟨n, h⟩ := h
  refine ⟨n, ?_⟩
  exact f_M_fresh_42 e29 c30 hk _  h
set_option maxHeartbeats 4000000 in
theorem f_M_at {t : TY} {a0 : Nat} {G H : GS} {K K' : Int32 → Prop} (e : eM a0 G H) (hk : ∀ v : Int32, K v → K' v) {p1 : Int32} {p2 : Int32} (h : w_M_at t G a0 p1 p2 K) : w_M_at t H a0 p1 p2 K' := by
  skip
  skip
  skip
  unfold w_M_at at h ⊢
  have z1 := eM.simp e
  try simp (disch := omega) only [z1]
  refine and_lift h (fun h => ?_)
  refine ex_lift h (fun a1 q2 h => ?_)
  try simp only [((e).2 70 a1 (by omega) q2).1, ((e).2 70 a1 (by omega) q2).2]
  refine and_lift h (fun h => ?_)
  refine and_lift h (fun h => ?_)
  exact hk _ h
set_option maxHeartbeats 4000000 in
theorem f_M_set {t : TY} {a0 : Nat} {G H : GS} {K K' : GS → Prop} (e : eM a0 G H) (hk : ∀ (G' H' : GS), eM a0 G' H' → cM a0 H H' → K G' → K' H') {p1 : Int32} {p2 : Int32} {p3 : Int32} (h : w_M_set t G a0 p1 p2 p3 K) : w_M_set t H a0 p1 p2 p3 K' := by
  obtain ⟨H0, eH0⟩ : ∃ z, z = H := ⟨_, rfl⟩
  have c : cM a0 H0 H := by rw [eH0]; exact cM.rf
  have hk : ∀ (G' H' : GS), eM a0 G' H' → cM a0 H0 H' → K G' → K' H' := by rw [eH0]; exact hk
  unfold w_M_set at h ⊢
  have z1 := eM.simp e
  try simp (disch := omega) only [z1]
  refine and_lift h (fun h => ?_)
  refine ex_lift h (fun a1 q2 h => ?_)
  try simp only [((e).2 70 a1 (by omega) q2).1, ((e).2 70 a1 (by omega) q2).2]
  refine and_lift h (fun h => ?_)
  refine and_lift h (fun h => ?_)
  refine all_lift h (fun H2 eH2 h => ?_)
  obtain ⟨G2, eG2⟩ : ∃ z, z = ais G a1 (((83 : Int32) * p1) + p2).toNatClampNeg p3 := ⟨_, rfl⟩
  rw [← eG2] at h
  have e3 : eM a0 G2 H2 := by rw [eG2, eH2]; exact eM.ais e
  have c4 : cM a0 H0 H2 := by rw [eH2]; exact cM.ais c ⟨70, by omega, (((e).1 70 (by omega)).2.2).trans q2⟩
  have kG2 : ∀ f a, ((70 ≤ f ∧ f ≤ 72) ∨ (79 ≤ f ∧ f ≤ 94) ∨ f = 96) → gr G f a0 = some a → gr G2 f a0 = some a := by intro f a _ z; rw [eG2]; exact z
  have q5 := kG2 70 a1 (by omega) q2
  have z6 := eM.simp e3
  try simp (disch := omega) only [z6]
  try simp only [((e3).2 70 a1 (by omega) q5).1, ((e3).2 70 a1 (by omega) q5).2]
  exact hk _ _ e3 c4 h
set_option maxHeartbeats 4000000 in
theorem f_M_find_2 {t : TY} {a0 : Nat} {G H : GS} {K K' : Int32 → Prop} (e : eM a0 G H) (hk : ∀ v : Int32, K v → K' v) : ∀ (n : Nat) {l1 : Int32} {l2 : Int32}, w_M_find_2 t G a0 K n l1 l2 → w_M_find_2 t H a0 K' n l1 l2 := by
  intro n
  induction n with
  | zero => intro l1 l2 h; exact h.elim
  | succ n ih =>
    intro l1 l2 h
    have hr2 : ∀ (x0 : Int32) (x1 : Int32), w_M_find_2 t G a0 K n x0 x1 → w_M_find_2 t H a0 K' n x0 x1 := fun _ _ h => ih h
    unfold w_M_find_2 at h ⊢
    have z1 := eM.simp e
    try simp (disch := omega) only [z1]
    try dsimp only at h ⊢
    refine ite_lift h (fun h => ?_) (fun h => ?_)
    · try simp (disch := omega) only [z1]
      exact hk _ h
    · try simp (disch := omega) only [z1]
      refine and_lift h (fun h => ?_)
      refine f_M_at e (fun v1 h => ?_) h
      refine ite_lift h (fun h => ?_) (fun h => ?_)
      · try simp (disch := omega) only [z1]
        refine bind_lift h (fun v2 h => ?_)
        exact hr2 _ _ h
      · try simp (disch := omega) only [z1]
        refine f_M_at e (fun v3 h => ?_) h
        refine ite_lift h (fun h => ?_) (fun h => ?_)
        · try simp (disch := omega) only [z1]
          refine bind_lift h (fun v4 h => ?_)
          exact hr2 _ _ h
        · try simp (disch := omega) only [z1]
          exact hk _ h
set_option maxHeartbeats 4000000 in
theorem f_M_find {t : TY} {a0 : Nat} {G H : GS} {K K' : Int32 → Prop} (e : eM a0 G H) (hk : ∀ v : Int32, K v → K' v) {p1 : Int32} (h : w_M_find t G a0 p1 K) : w_M_find t H a0 p1 K' := by
  skip
  skip
  skip
  unfold w_M_find at h ⊢
  have z1 := eM.simp e
  try simp (disch := omega) only [z1]
  obtain ⟨n, h⟩ := h
  refine ⟨n, ?_⟩
  exact f_M_find_2 e hk _  h
set_option maxHeartbeats 4000000 in
theorem f_M_isDirectory {t : TY} {a0 : Nat} {G H : GS} {K K' : Int32 → Prop} (e : eM a0 G H) (hk : ∀ v : Int32, K v → K' v) {p1 : Int32} (h : w_M_isDirectory t G a0 p1 K) : w_M_isDirectory t H a0 p1 K' := by
  skip
  skip
  skip
  unfold w_M_isDirectory at h ⊢
  have z1 := eM.simp e
  try simp (disch := omega) only [z1]
  refine and_lift h (fun h => ?_)
  refine f_M_at e (fun v1 h => ?_) h
  refine ite_lift h (fun h => ?_) (fun h => ?_)
  · try simp (disch := omega) only [z1]
    exact hk _ h
  · try simp (disch := omega) only [z1]
    exact hk _ h
set_option maxHeartbeats 4000000 in
theorem f_M_entry_56 {t : TY} {a0 : Nat} {G H : GS} {K K' : Int32 → Prop} {r5 R5 : Int32 → Int32 → Int32 → Int32 → Prop} (e : eM a0 G H) (hk : ∀ v : Int32, K v → K' v) (hr5 : ∀ (x0 : Int32) (x1 : Int32) (x2 : Int32) (x3 : Int32), r5 x0 x1 x2 x3 → R5 x0 x1 x2 x3) {l1 : Int32} {l2 : Int32} {l3 : Int32} {l4 : Int32} {s0 : Int32} (h : w_M_entry_56 t G a0 K r5 l1 l2 l3 l4 s0) : w_M_entry_56 t H a0 K' R5 l1 l2 l3 l4 s0 := by
  unfold w_M_entry_56 at h ⊢
  have z1 := eM.simp e
  try simp (disch := omega) only [z1]
  refine ite_lift h (fun h => ?_) (fun h => ?_)
  · try simp (disch := omega) only [z1]
    refine bind_lift h (fun v1 h => ?_)
    exact hr5 _ _ _ _ h
  · try simp (disch := omega) only [z1]
    refine ite_lift h (fun h => ?_) (fun h => ?_)
    · try simp (disch := omega) only [z1]
      refine bind_lift h (fun v2 h => ?_)
      exact hr5 _ _ _ _ h
    · try simp (disch := omega) only [z1]
      refine and_lift h (fun h => ?_)
      refine f_M_at e (fun v3 h => ?_) h
      refine f_M_at e (fun v4 h => ?_) h
      refine ite_lift h (fun h => ?_) (fun h => ?_)
      · try simp (disch := omega) only [z1]
        refine bind_lift h (fun v5 h => ?_)
        exact hr5 _ _ _ _ h
      · try simp (disch := omega) only [z1]
        refine bind_lift h (fun v6 h => ?_)
        exact hr5 _ _ _ _ h
set_option maxHeartbeats 4000000 in
theorem f_M_entry_55 {t : TY} {a0 : Nat} {G H : GS} {K K' : Int32 → Prop} {r5 R5 : Int32 → Int32 → Int32 → Int32 → Prop} (e : eM a0 G H) (hk : ∀ v : Int32, K v → K' v) (hr5 : ∀ (x0 : Int32) (x1 : Int32) (x2 : Int32) (x3 : Int32), r5 x0 x1 x2 x3 → R5 x0 x1 x2 x3) {l1 : Int32} {l2 : Int32} {l3 : Int32} {l4 : Int32} (h : w_M_entry_55 t G a0 K r5 l1 l2 l3 l4) : w_M_entry_55 t H a0 K' R5 l1 l2 l3 l4 := by
  unfold w_M_entry_55 at h ⊢
  have z1 := eM.simp e
  try simp (disch := omega) only [z1]
  exact f_M_entry_56 e hk hr5  h
set_option maxHeartbeats 4000000 in
theorem f_M_entry_5 {t : TY} {a0 : Nat} {G H : GS} {K K' : Int32 → Prop} (e : eM a0 G H) (hk : ∀ v : Int32, K v → K' v) : ∀ (n : Nat) {l1 : Int32} {l2 : Int32} {l3 : Int32} {l4 : Int32}, w_M_entry_5 t G a0 K n l1 l2 l3 l4 → w_M_entry_5 t H a0 K' n l1 l2 l3 l4 := by
  intro n
  induction n with
  | zero => intro l1 l2 l3 l4 h; exact h.elim
  | succ n ih =>
    intro l1 l2 l3 l4 h
    have hr5 : ∀ (x0 : Int32) (x1 : Int32) (x2 : Int32) (x3 : Int32), w_M_entry_5 t G a0 K n x0 x1 x2 x3 → w_M_entry_5 t H a0 K' n x0 x1 x2 x3 := fun _ _ _ _ h => ih h
    unfold w_M_entry_5 at h ⊢
    have z1 := eM.simp e
    try simp (disch := omega) only [z1]
    try dsimp only at h ⊢
    refine ite_lift h (fun h => ?_) (fun h => ?_)
    · try simp (disch := omega) only [z1]
      exact hk _ h
    · try simp (disch := omega) only [z1]
      refine and_lift h (fun h => ?_)
      refine f_M_at e (fun v1 h => ?_) h
      refine ite_lift h (fun h => ?_) (fun h => ?_)
      · try simp (disch := omega) only [z1]
        exact f_M_entry_55 e hk hr5  h
      · try simp (disch := omega) only [z1]
        refine f_M_at e (fun v2 h => ?_) h
        refine f_M_at e (fun v3 h => ?_) h
        refine ite_lift h (fun h => ?_) (fun h => ?_)
        · try simp (disch := omega) only [z1]
          exact f_M_entry_55 e hk hr5  h
        · try simp (disch := omega) only [z1]
          refine f_M_at e (fun v4 h => ?_) h
          refine ite_lift h (fun h => ?_) (fun h => ?_)
          · try simp (disch := omega) only [z1]
            exact f_M_entry_55 e hk hr5  h
          · try simp (disch := omega) only [z1]
            exact f_M_entry_56 e hk hr5  h
set_option maxHeartbeats 4000000 in
theorem f_M_entry {t : TY} {a0 : Nat} {G H : GS} {K K' : Int32 → Prop} (e : eM a0 G H) (hk : ∀ v : Int32, K v → K' v) {p1 : Int32} {p2 : Int32} (h : w_M_entry t G a0 p1 p2 K) : w_M_entry t H a0 p1 p2 K' := by
  skip
  skip
  skip
  unfold w_M_entry at h ⊢
  have z1 := eM.simp e
  try simp (disch := omega) only [z1]
  obtain ⟨n, h⟩ := h
  refine ⟨n, ?_⟩
  exact f_M_entry_5 e hk _  h
set_option maxHeartbeats 4000000 in
theorem f_M_entries_43 {t : TY} {a0 : Nat} {G H : GS} {K K' : Int32 → Prop} {r4 R4 : Int32 → Int32 → Int32 → Prop} (e : eM a0 G H) (hk : ∀ v : Int32, K v → K' v) (hr4 : ∀ (x0 : Int32) (x1 : Int32) (x2 : Int32), r4 x0 x1 x2 → R4 x0 x1 x2) {l1 : Int32} {l3 : Int32} {s0 : Int32} (h : w_M_entries_43 t G a0 K r4 l1 l3 s0) : w_M_entries_43 t H a0 K' R4 l1 l3 s0 := by
  unfold w_M_entries_43 at h ⊢
  have z1 := eM.simp e
  try simp (disch := omega) only [z1]
  refine bind_lift h (fun v1 h => ?_)
  exact hr4 _ _ _ h
set_option maxHeartbeats 4000000 in
theorem f_M_entries_42 {t : TY} {a0 : Nat} {G H : GS} {K K' : Int32 → Prop} {r4 R4 : Int32 → Int32 → Int32 → Prop} (e : eM a0 G H) (hk : ∀ v : Int32, K v → K' v) (hr4 : ∀ (x0 : Int32) (x1 : Int32) (x2 : Int32), r4 x0 x1 x2 → R4 x0 x1 x2) {l1 : Int32} {l2 : Int32} {l3 : Int32} (h : w_M_entries_42 t G a0 K r4 l1 l2 l3) : w_M_entries_42 t H a0 K' R4 l1 l2 l3 := by
  unfold w_M_entries_42 at h ⊢
  have z1 := eM.simp e
  try simp (disch := omega) only [z1]
  exact f_M_entries_43 e hk hr4  h
set_option maxHeartbeats 4000000 in
theorem f_M_entries_4 {t : TY} {a0 : Nat} {G H : GS} {K K' : Int32 → Prop} (e : eM a0 G H) (hk : ∀ v : Int32, K v → K' v) : ∀ (n : Nat) {l1 : Int32} {l2 : Int32} {l3 : Int32}, w_M_entries_4 t G a0 K n l1 l2 l3 → w_M_entries_4 t H a0 K' n l1 l2 l3 := by
  intro n
  induction n with
  | zero => intro l1 l2 l3 h; exact h.elim
  | succ n ih =>
    intro l1 l2 l3 h
    have hr4 : ∀ (x0 : Int32) (x1 : Int32) (x2 : Int32), w_M_entries_4 t G a0 K n x0 x1 x2 → w_M_entries_4 t H a0 K' n x0 x1 x2 := fun _ _ _ h => ih h
    unfold w_M_entries_4 at h ⊢
    have z1 := eM.simp e
    try simp (disch := omega) only [z1]
    try dsimp only at h ⊢
    refine ite_lift h (fun h => ?_) (fun h => ?_)
    · try simp (disch := omega) only [z1]
      exact hk _ h
    · try simp (disch := omega) only [z1]
      refine and_lift h (fun h => ?_)
      refine f_M_at e (fun v1 h => ?_) h
      refine ite_lift h (fun h => ?_) (fun h => ?_)
      · try simp (disch := omega) only [z1]
        exact f_M_entries_42 e hk hr4  h
      · try simp (disch := omega) only [z1]
        refine f_M_at e (fun v2 h => ?_) h
        refine f_M_at e (fun v3 h => ?_) h
        refine ite_lift h (fun h => ?_) (fun h => ?_)
        · try simp (disch := omega) only [z1]
          exact f_M_entries_42 e hk hr4  h
        · try simp (disch := omega) only [z1]
          exact f_M_entries_43 e hk hr4  h
set_option maxHeartbeats 4000000 in
theorem f_M_entries {t : TY} {a0 : Nat} {G H : GS} {K K' : Int32 → Prop} (e : eM a0 G H) (hk : ∀ v : Int32, K v → K' v) {p1 : Int32} (h : w_M_entries t G a0 p1 K) : w_M_entries t H a0 p1 K' := by
  skip
  skip
  skip
  unfold w_M_entries at h ⊢
  have z1 := eM.simp e
  try simp (disch := omega) only [z1]
  obtain ⟨n, h⟩ := h
  refine ⟨n, ?_⟩
  exact f_M_entries_4 e hk _  h
set_option maxHeartbeats 4000000 in
theorem f_M_get_7 {t : TY} {a0 : Nat} {G H : GS} {K K' : Int64 → Prop} (e : eM a0 G H) (hk : ∀ v : Int64, K v → K' v) : ∀ (n : Nat) {l1 : Int32} {l3 : Int64} {l5 : Int32}, w_M_get_7 t G a0 K n l1 l3 l5 → w_M_get_7 t H a0 K' n l1 l3 l5 := by
  intro n
  induction n with
  | zero => intro l1 l3 l5 h; exact h.elim
  | succ n ih =>
    intro l1 l3 l5 h
    have hr7 : ∀ (x0 : Int32) (x1 : Int64) (x2 : Int32), w_M_get_7 t G a0 K n x0 x1 x2 → w_M_get_7 t H a0 K' n x0 x1 x2 := fun _ _ _ h => ih h
    unfold w_M_get_7 at h ⊢
    have z1 := eM.simp e
    try simp (disch := omega) only [z1]
    try dsimp only at h ⊢
    refine ite_lift h (fun h => ?_) (fun h => ?_)
    · try simp (disch := omega) only [z1]
      exact hk _ h
    · try simp (disch := omega) only [z1]
      refine and_lift h (fun h => ?_)
      refine ex_lift h (fun a1 q2 h => ?_)
      try simp only [((e).2 94 a1 (by omega) q2).1, ((e).2 94 a1 (by omega) q2).2]
      refine and_lift h (fun h => ?_)
      refine and_lift h (fun h => ?_)
      refine bind_lift h (fun v2 h => ?_)
      refine bind_lift h (fun v3 h => ?_)
      exact hr7 _ _ _ h
set_option maxHeartbeats 4000000 in
theorem f_M_get {t : TY} {a0 : Nat} {G H : GS} {K K' : Int64 → Prop} (e : eM a0 G H) (hk : ∀ v : Int64, K v → K' v) {p1 : Int32} {p2 : Int32} (h : w_M_get t G a0 p1 p2 K) : w_M_get t H a0 p1 p2 K' := by
  skip
  skip
  skip
  unfold w_M_get at h ⊢
  have z1 := eM.simp e
  try simp (disch := omega) only [z1]
  refine bind_lift h (fun v1 h => ?_)
  obtain ⟨n, h⟩ := h
  refine ⟨n, ?_⟩
  exact f_M_get_7 e hk _  h
set_option maxHeartbeats 4000000 in
theorem f_M_named_117 {t : TY} {a0 : Nat} {G H : GS} {K K' : Int32 → Prop} {r11 R11 : Int32 → Int32 → Int32 → Int32 → Prop} (e : eM a0 G H) (hk : ∀ v : Int32, K v → K' v) (hr11 : ∀ (x0 : Int32) (x1 : Int32) (x2 : Int32) (x3 : Int32), r11 x0 x1 x2 x3 → R11 x0 x1 x2 x3) {l1 : Int32} {l2 : Int32} {l3 : Int32} {l4 : Int32} {l5 : Int32} (h : w_M_named_117 t G a0 K r11 l1 l2 l3 l4 l5) : w_M_named_117 t H a0 K' R11 l1 l2 l3 l4 l5 := by
  unfold w_M_named_117 at h ⊢
  have z1 := eM.simp e
  try simp (disch := omega) only [z1]
  refine ite_lift h (fun h => ?_) (fun h => ?_)
  · try simp (disch := omega) only [z1]
    refine bind_lift h (fun v1 h => ?_)
    exact hr11 _ _ _ _ h
  · try simp (disch := omega) only [z1]
    exact hk _ h
set_option maxHeartbeats 4000000 in
theorem f_M_named_109 {t : TY} {a0 : Nat} {G H : GS} {K K' : Int32 → Prop} {r11 R11 : Int32 → Int32 → Int32 → Int32 → Prop} {r68 R68 : Int32 → Int32 → Int32 → Int32 → Int32 → Int32 → Prop} (e : eM a0 G H) (hk : ∀ v : Int32, K v → K' v) (hr11 : ∀ (x0 : Int32) (x1 : Int32) (x2 : Int32) (x3 : Int32), r11 x0 x1 x2 x3 → R11 x0 x1 x2 x3) (hr68 : ∀ (x0 : Int32) (x1 : Int32) (x2 : Int32) (x3 : Int32) (x4 : Int32) (x5 : Int32), r68 x0 x1 x2 x3 x4 x5 → R68 x0 x1 x2 x3 x4 x5) {l1 : Int32} {l2 : Int32} {l3 : Int32} {l4 : Int32} {l6 : Int32} {s0 : Int32} (h : w_M_named_109 t G a0 K r11 r68 l1 l2 l3 l4 l6 s0) : w_M_named_109 t H a0 K' R11 R68 l1 l2 l3 l4 l6 s0 := by
  unfold w_M_named_109 at h ⊢
  have z1 := eM.simp e
  try simp (disch := omega) only [z1]
  refine bind_lift h (fun v1 h => ?_)
  exact hr68 _ _ _ _ _ _ h
set_option maxHeartbeats 4000000 in
theorem f_M_named_68 {t : TY} {a0 : Nat} {G H : GS} {K K' : Int32 → Prop} {r11 R11 : Int32 → Int32 → Int32 → Int32 → Prop} (e : eM a0 G H) (hk : ∀ v : Int32, K v → K' v) (hr11 : ∀ (x0 : Int32) (x1 : Int32) (x2 : Int32) (x3 : Int32), r11 x0 x1 x2 x3 → R11 x0 x1 x2 x3) : ∀ (n : Nat) {l1 : Int32} {l2 : Int32} {l3 : Int32} {l4 : Int32} {l5 : Int32} {l6 : Int32}, w_M_named_68 t G a0 K r11 n l1 l2 l3 l4 l5 l6 → w_M_named_68 t H a0 K' R11 n l1 l2 l3 l4 l5 l6 := by
  intro n
  induction n with
  | zero => intro l1 l2 l3 l4 l5 l6 h; exact h.elim
  | succ n ih =>
    intro l1 l2 l3 l4 l5 l6 h
    have hr68 : ∀ (x0 : Int32) (x1 : Int32) (x2 : Int32) (x3 : Int32) (x4 : Int32) (x5 : Int32), w_M_named_68 t G a0 K r11 n x0 x1 x2 x3 x4 x5 → w_M_named_68 t H a0 K' R11 n x0 x1 x2 x3 x4 x5 := fun _ _ _ _ _ _ h => ih h
    unfold w_M_named_68 at h ⊢
    have z1 := eM.simp e
    try simp (disch := omega) only [z1]
    try dsimp only at h ⊢
    refine ite_lift h (fun h => ?_) (fun h => ?_)
    · try simp (disch := omega) only [z1]
      exact f_M_named_117 e hk hr11  h
    · try simp (disch := omega) only [z1]
      refine ite_lift h (fun h => ?_) (fun h => ?_)
      · try simp (disch := omega) only [z1]
        exact f_M_named_117 e hk hr11  h
      · try simp (disch := omega) only [z1]
        refine and_lift h (fun h => ?_)
        refine f_M_at e (fun v1 h => ?_) h
        refine ex_lift h (fun a2 q2 h => ?_)
        try simp only [((e).2 94 a2 (by omega) q2).1, ((e).2 94 a2 (by omega) q2).2]
        refine and_lift h (fun h => ?_)
        refine and_lift h (fun h => ?_)
        refine ite_lift h (fun h => ?_) (fun h => ?_)
        · try simp (disch := omega) only [z1]
          try simp only [((e).2 94 a2 (by omega) q2).1, ((e).2 94 a2 (by omega) q2).2]
          exact f_M_named_109 e hk hr11 hr68  h
        · try simp (disch := omega) only [z1]
          try simp only [((e).2 94 a2 (by omega) q2).1, ((e).2 94 a2 (by omega) q2).2]
          exact f_M_named_109 e hk hr11 hr68  h
set_option maxHeartbeats 4000000 in
theorem f_M_named_63 {t : TY} {a0 : Nat} {G H : GS} {K K' : Int32 → Prop} {r11 R11 : Int32 → Int32 → Int32 → Int32 → Prop} (e : eM a0 G H) (hk : ∀ v : Int32, K v → K' v) (hr11 : ∀ (x0 : Int32) (x1 : Int32) (x2 : Int32) (x3 : Int32), r11 x0 x1 x2 x3 → R11 x0 x1 x2 x3) {l1 : Int32} {l2 : Int32} {l3 : Int32} {l4 : Int32} {s0 : Int32} (h : w_M_named_63 t G a0 K r11 l1 l2 l3 l4 s0) : w_M_named_63 t H a0 K' R11 l1 l2 l3 l4 s0 := by
  unfold w_M_named_63 at h ⊢
  have z1 := eM.simp e
  try simp (disch := omega) only [z1]
  obtain ⟨n, h⟩ := h
  refine ⟨n, ?_⟩
  exact f_M_named_68 e hk hr11 _  h
set_option maxHeartbeats 4000000 in
theorem f_M_named_62 {t : TY} {a0 : Nat} {G H : GS} {K K' : Int32 → Prop} {r11 R11 : Int32 → Int32 → Int32 → Int32 → Prop} (e : eM a0 G H) (hk : ∀ v : Int32, K v → K' v) (hr11 : ∀ (x0 : Int32) (x1 : Int32) (x2 : Int32) (x3 : Int32), r11 x0 x1 x2 x3 → R11 x0 x1 x2 x3) {l1 : Int32} {l2 : Int32} {l3 : Int32} {l4 : Int32} (h : w_M_named_62 t G a0 K r11 l1 l2 l3 l4) : w_M_named_62 t H a0 K' R11 l1 l2 l3 l4 := by
  unfold w_M_named_62 at h ⊢
  have z1 := eM.simp e
  try simp (disch := omega) only [z1]
  exact f_M_named_63 e hk hr11  h
set_option maxHeartbeats 4000000 in
theorem f_M_named_11 {t : TY} {a0 : Nat} {G H : GS} {K K' : Int32 → Prop} (e : eM a0 G H) (hk : ∀ v : Int32, K v → K' v) : ∀ (n : Nat) {l1 : Int32} {l2 : Int32} {l3 : Int32} {l4 : Int32}, w_M_named_11 t G a0 K n l1 l2 l3 l4 → w_M_named_11 t H a0 K' n l1 l2 l3 l4 := by
  intro n
  induction n with
  | zero => intro l1 l2 l3 l4 h; exact h.elim
  | succ n ih =>
    intro l1 l2 l3 l4 h
    have hr11 : ∀ (x0 : Int32) (x1 : Int32) (x2 : Int32) (x3 : Int32), w_M_named_11 t G a0 K n x0 x1 x2 x3 → w_M_named_11 t H a0 K' n x0 x1 x2 x3 := fun _ _ _ _ h => ih h
    unfold w_M_named_11 at h ⊢
    have z1 := eM.simp e
    try simp (disch := omega) only [z1]
    try dsimp only at h ⊢
    refine ite_lift h (fun h => ?_) (fun h => ?_)
    · try simp (disch := omega) only [z1]
      exact hk _ h
    · try simp (disch := omega) only [z1]
      refine and_lift h (fun h => ?_)
      refine f_M_at e (fun v1 h => ?_) h
      refine ite_lift h (fun h => ?_) (fun h => ?_)
      · try simp (disch := omega) only [z1]
        exact f_M_named_62 e hk hr11  h
      · try simp (disch := omega) only [z1]
        refine f_M_at e (fun v2 h => ?_) h
        refine f_M_at e (fun v3 h => ?_) h
        refine ite_lift h (fun h => ?_) (fun h => ?_)
        · try simp (disch := omega) only [z1]
          exact f_M_named_62 e hk hr11  h
        · try simp (disch := omega) only [z1]
          refine f_M_at e (fun v4 h => ?_) h
          refine ite_lift h (fun h => ?_) (fun h => ?_)
          · try simp (disch := omega) only [z1]
            exact f_M_named_62 e hk hr11  h
          · try simp (disch := omega) only [z1]
            exact f_M_named_63 e hk hr11  h
set_option maxHeartbeats 4000000 in
theorem f_M_named {t : TY} {a0 : Nat} {G H : GS} {K K' : Int32 → Prop} (e : eM a0 G H) (hk : ∀ v : Int32, K v → K' v) {p1 : Int32} {p2 : Int32} (h : w_M_named t G a0 p1 p2 K) : w_M_named t H a0 p1 p2 K' := by
  skip
  skip
  skip
  unfold w_M_named at h ⊢
  have z1 := eM.simp e
  try simp (disch := omega) only [z1]
  refine and_lift h (fun h => ?_)
  refine f_M_get e (fun v1 h => ?_) h
  refine bind_lift h (fun v2 h => ?_)
  obtain ⟨n, h⟩ := h
  refine ⟨n, ?_⟩
  exact f_M_named_11 e hk _  h
set_option maxHeartbeats 4000000 in
theorem f_M_may_62 {t : TY} {a0 : Nat} {G H : GS} {K K' : Int32 → Prop} (e : eM a0 G H) (hk : ∀ v : Int32, K v → K' v) {l1 : Int32} {l2 : Int32} {l3 : Int32} {l4 : Int32} (h : w_M_may_62 t G a0 K l1 l2 l3 l4) : w_M_may_62 t H a0 K' l1 l2 l3 l4 := by
  unfold w_M_may_62 at h ⊢
  have z1 := eM.simp e
  try simp (disch := omega) only [z1]
  refine and_lift h (fun h => ?_)
  refine f_M_at e (fun v1 h => ?_) h
  refine ite_lift h (fun h => ?_) (fun h => ?_)
  · try simp (disch := omega) only [z1]
    exact hk _ h
  · try simp (disch := omega) only [z1]
    refine ite_lift h (fun h => ?_) (fun h => ?_)
    · try simp (disch := omega) only [z1]
      exact hk _ h
    · try simp (disch := omega) only [z1]
      exact hk _ h
set_option maxHeartbeats 4000000 in
theorem f_M_may_39 {t : TY} {a0 : Nat} {G H : GS} {K K' : Int32 → Prop} (e : eM a0 G H) (hk : ∀ v : Int32, K v → K' v) {l1 : Int32} {l2 : Int32} {l3 : Int32} {l4 : Int32} {s0 : Int32} (h : w_M_may_39 t G a0 K l1 l2 l3 l4 s0) : w_M_may_39 t H a0 K' l1 l2 l3 l4 s0 := by
  unfold w_M_may_39 at h ⊢
  have z1 := eM.simp e
  try simp (disch := omega) only [z1]
  refine ite_lift h (fun h => ?_) (fun h => ?_)
  · try simp (disch := omega) only [z1]
    exact hk _ h
  · try simp (disch := omega) only [z1]
    refine ite_lift h (fun h => ?_) (fun h => ?_)
    · try simp (disch := omega) only [z1]
      exact f_M_may_62 e hk  h
    · try simp (disch := omega) only [z1]
      refine ite_lift h (fun h => ?_) (fun h => ?_)
      · try simp (disch := omega) only [z1]
        exact hk _ h
      · try simp (disch := omega) only [z1]
        exact f_M_may_62 e hk  h
set_option maxHeartbeats 4000000 in
theorem f_M_may_34 {t : TY} {a0 : Nat} {G H : GS} {K K' : Int32 → Prop} (e : eM a0 G H) (hk : ∀ v : Int32, K v → K' v) {l1 : Int32} {l2 : Int32} {l3 : Int32} {l4 : Int32} (h : w_M_may_34 t G a0 K l1 l2 l3 l4) : w_M_may_34 t H a0 K' l1 l2 l3 l4 := by
  unfold w_M_may_34 at h ⊢
  have z1 := eM.simp e
  try simp (disch := omega) only [z1]
  exact f_M_may_39 e hk  h
set_option maxHeartbeats 4000000 in
theorem f_M_may_38 {t : TY} {a0 : Nat} {G H : GS} {K K' : Int32 → Prop} (e : eM a0 G H) (hk : ∀ v : Int32, K v → K' v) {l1 : Int32} {l2 : Int32} {l3 : Int32} {l4 : Int32} (h : w_M_may_38 t G a0 K l1 l2 l3 l4) : w_M_may_38 t H a0 K' l1 l2 l3 l4 := by
  unfold w_M_may_38 at h ⊢
  have z1 := eM.simp e
  try simp (disch := omega) only [z1]
  exact f_M_may_39 e hk  h
set_option maxHeartbeats 4000000 in
theorem f_M_may {t : TY} {a0 : Nat} {G H : GS} {K K' : Int32 → Prop} (e : eM a0 G H) (hk : ∀ v : Int32, K v → K' v) {p1 : Int32} {p2 : Int32} {p3 : Int32} (h : w_M_may t G a0 p1 p2 p3 K) : w_M_may t H a0 p1 p2 p3 K' := by
  skip
  skip
  skip
  unfold w_M_may at h ⊢
  have z1 := eM.simp e
  try simp (disch := omega) only [z1]
  refine and_lift h (fun h => ?_)
  refine f_M_at e (fun v1 h => ?_) h
  refine f_M_at e (fun v2 h => ?_) h
  refine ite_lift h (fun h => ?_) (fun h => ?_)
  · try simp (disch := omega) only [z1]
    exact f_M_may_34 e hk  h
  · try simp (disch := omega) only [z1]
    refine ite_lift h (fun h => ?_) (fun h => ?_)
    · try simp (disch := omega) only [z1]
      exact f_M_may_38 e hk  h
    · try simp (disch := omega) only [z1]
      refine f_M_at e (fun v3 h => ?_) h
      refine ite_lift h (fun h => ?_) (fun h => ?_)
      · try simp (disch := omega) only [z1]
        exact f_M_may_38 e hk  h
      · try simp (disch := omega) only [z1]
        exact f_M_may_34 e hk  h
set_option maxHeartbeats 4000000 in
theorem f_M_mayIn {t : TY} {a0 : Nat} {G H : GS} {K K' : Int32 → Prop} (e : eM a0 G H) (hk : ∀ v : Int32, K v → K' v) {p1 : Int32} {p2 : Int32} (h : w_M_mayIn t G a0 p1 p2 K) : w_M_mayIn t H a0 p1 p2 K' := by
  skip
  skip
  skip
  unfold w_M_mayIn at h ⊢
  have z1 := eM.simp e
  try simp (disch := omega) only [z1]
  refine ite_lift h (fun h => ?_) (fun h => ?_)
  · try simp (disch := omega) only [z1]
    exact hk _ h
  · try simp (disch := omega) only [z1]
    refine and_lift h (fun h => ?_)
    refine f_M_at e (fun v1 h => ?_) h
    refine f_M_find e (fun v2 h => ?_) h
    refine f_M_may e (fun v3 h => ?_) h
    refine ite_lift h (fun h => ?_) (fun h => ?_)
    · try simp (disch := omega) only [z1]
      exact hk _ h
    · try simp (disch := omega) only [z1]
      exact hk _ h
set_option maxHeartbeats 4000000 in
theorem f_M_blocks_4 {t : TY} {a0 : Nat} {G H : GS} {K K' : Int32 → Prop} (e : eM a0 G H) (hk : ∀ v : Int32, K v → K' v) : ∀ (n : Nat) {l1 : Int32} {l2 : Int32}, w_M_blocks_4 t G a0 K n l1 l2 → w_M_blocks_4 t H a0 K' n l1 l2 := by
  intro n
  induction n with
  | zero => intro l1 l2 h; exact h.elim
  | succ n ih =>
    intro l1 l2 h
    have hr4 : ∀ (x0 : Int32) (x1 : Int32), w_M_blocks_4 t G a0 K n x0 x1 → w_M_blocks_4 t H a0 K' n x0 x1 := fun _ _ h => ih h
    unfold w_M_blocks_4 at h ⊢
    have z1 := eM.simp e
    try simp (disch := omega) only [z1]
    try dsimp only at h ⊢
    refine ite_lift h (fun h => ?_) (fun h => ?_)
    · try simp (disch := omega) only [z1]
      exact hk _ h
    · try simp (disch := omega) only [z1]
      refine and_lift h (fun h => ?_)
      refine f_M_at e (fun v1 h => ?_) h
      refine ite_lift h (fun h => ?_) (fun h => ?_)
      · try simp (disch := omega) only [z1]
        refine bind_lift h (fun v2 h => ?_)
        exact hr4 _ _ h
      · try simp (disch := omega) only [z1]
        refine f_M_isDirectory e (fun v3 h => ?_) h
        refine ite_lift h (fun h => ?_) (fun h => ?_)
        · try simp (disch := omega) only [z1]
          refine f_M_at e (fun v4 h => ?_) h
          refine bind_lift h (fun v5 h => ?_)
          refine bind_lift h (fun v6 h => ?_)
          exact hr4 _ _ h
        · try simp (disch := omega) only [z1]
          refine f_M_entries e (fun v7 h => ?_) h
          refine bind_lift h (fun v8 h => ?_)
          refine bind_lift h (fun v9 h => ?_)
          exact hr4 _ _ h
set_option maxHeartbeats 4000000 in
theorem f_M_blocks {t : TY} {a0 : Nat} {G H : GS} {K K' : Int32 → Prop} (e : eM a0 G H) (hk : ∀ v : Int32, K v → K' v) (h : w_M_blocks t G a0 K) : w_M_blocks t H a0 K' := by
  skip
  skip
  skip
  unfold w_M_blocks at h ⊢
  have z1 := eM.simp e
  try simp (disch := omega) only [z1]
  obtain ⟨n, h⟩ := h
  refine ⟨n, ?_⟩
  exact f_M_blocks_4 e hk _  h
set_option maxHeartbeats 4000000 in
theorem f_M_changes {t : TY} {a0 : Nat} {G H : GS} {K K' : GS → Prop} (e : eM a0 G H) (hk : ∀ (G' H' : GS), eM a0 G' H' → cM a0 H H' → K G' → K' H') {p1 : Int32} {p2 : Int32} (h : w_M_changes t G a0 p1 p2 K) : w_M_changes t H a0 p1 p2 K' := by
  obtain ⟨H0, eH0⟩ : ∃ z, z = H := ⟨_, rfl⟩
  have c : cM a0 H0 H := by rw [eH0]; exact cM.rf
  have hk : ∀ (G' H' : GS), eM a0 G' H' → cM a0 H0 H' → K G' → K' H' := by rw [eH0]; exact hk
  unfold w_M_changes at h ⊢
  have z1 := eM.simp e
  try simp (disch := omega) only [z1]
  refine and_lift h (fun h => ?_)
  refine f_M_at e (fun v1 h => ?_) h
  refine f_M_set e (fun G2 H2 e2 c3 h => ?_) h
  have c3 := (c).tr c3
  have z4 := eM.simp e2
  try simp (disch := omega) only [z4]
  refine f_M_set e2 (fun G3 H3 e5 c6 h => ?_) h
  have c6 := (c3).tr c6
  have z7 := eM.simp e5
  try simp (disch := omega) only [z7]
  refine f_M_set e5 (fun G4 H4 e8 c9 h => ?_) h
  have c9 := (c6).tr c9
  have z10 := eM.simp e8
  try simp (disch := omega) only [z10]
  exact hk _ _ e8 c9 h
set_option maxHeartbeats 4000000 in
theorem f_M_cutOut {t : TY} {a0 : Nat} {G H : GS} {K K' : GS → Prop} (e : eM a0 G H) (hk : ∀ (G' H' : GS), eM a0 G' H' → cM a0 H H' → K G' → K' H') {p1 : Int32} {p2 : Int32} (h : w_M_cutOut t G a0 p1 p2 K) : w_M_cutOut t H a0 p1 p2 K' := by
  obtain ⟨H0, eH0⟩ : ∃ z, z = H := ⟨_, rfl⟩
  have c : cM a0 H0 H := by rw [eH0]; exact cM.rf
  have hk : ∀ (G' H' : GS), eM a0 G' H' → cM a0 H0 H' → K G' → K' H' := by rw [eH0]; exact hk
  unfold w_M_cutOut at h ⊢
  have z1 := eM.simp e
  try simp (disch := omega) only [z1]
  refine and_lift h (fun h => ?_)
  refine f_M_at e (fun v1 h => ?_) h
  refine f_M_find e (fun v2 h => ?_) h
  refine f_M_set e (fun G3 H3 e2 c3 h => ?_) h
  have c3 := (c).tr c3
  have z4 := eM.simp e2
  try simp (disch := omega) only [z4]
  refine f_M_changes e2 (fun G4 H4 e5 c6 h => ?_) h
  have c6 := (c3).tr c6
  have z7 := eM.simp e5
  try simp (disch := omega) only [z7]
  exact hk _ _ e5 c6 h
set_option maxHeartbeats 4000000 in
theorem f_M_begin_2 {t : TY} {a0 : Nat} {G H H0 : GS} {K K' : GS → Prop} (e : eM a0 G H) (c : cM a0 H0 H) (hk : ∀ (G' H' : GS), eM a0 G' H' → cM a0 H0 H' → K G' → K' H') : ∀ (n : Nat) {l1 : Int32}, w_M_begin_2 t a0 K n l1 G → w_M_begin_2 t a0 K' n l1 H := by
  intro n
  induction n generalizing G H with
  | zero => intro l1 h; exact h.elim
  | succ n ih =>
    intro l1 h
    have hr2 : ∀ (x0 : Int32) (G H : GS), eM a0 G H → cM a0 H0 H → w_M_begin_2 t a0 K n x0 G → w_M_begin_2 t a0 K' n x0 H := fun _ G H e c h => ih e c h
    unfold w_M_begin_2 at h ⊢
    have z1 := eM.simp e
    try simp (disch := omega) only [z1]
    try dsimp only at h ⊢
    refine ite_lift h (fun h => ?_) (fun h => ?_)
    · try simp (disch := omega) only [z1]
      exact hk _ _ e c h
    · try simp (disch := omega) only [z1]
      refine and_lift h (fun h => ?_)
      refine ex_lift h (fun a1 q2 h => ?_)
      try simp only [((e).2 70 a1 (by omega) q2).1, ((e).2 70 a1 (by omega) q2).2]
      refine and_lift h (fun h => ?_)
      refine and_lift h (fun h => ?_)
      refine ex_lift h (fun a2 q3 h => ?_)
      try simp only [((e).2 71 a2 (by omega) q3).1, ((e).2 71 a2 (by omega) q3).2]
      refine and_lift h (fun h => ?_)
      refine and_lift h (fun h => ?_)
      refine all_lift h (fun H3 eH3 h => ?_)
      obtain ⟨G3, eG3⟩ : ∃ z, z = ais G a2 l1.toNatClampNeg (ai G a1 l1.toNatClampNeg) := ⟨_, rfl⟩
      rw [← eG3] at h
      have e4 : eM a0 G3 H3 := by rw [eG3, eH3]; exact eM.ais e
      have c5 : cM a0 H0 H3 := by rw [eH3]; exact cM.ais c ⟨71, by omega, (((e).1 71 (by omega)).2.2).trans q3⟩
      have kG3 : ∀ f a, ((70 ≤ f ∧ f ≤ 72) ∨ (79 ≤ f ∧ f ≤ 94) ∨ f = 96) → gr G f a0 = some a → gr G3 f a0 = some a := by intro f a _ z; rw [eG3]; exact z
      have q6 := kG3 70 a1 (by omega) q2
      have q7 := kG3 71 a2 (by omega) q3
      have z8 := eM.simp e4
      try simp (disch := omega) only [z8]
      try simp only [((e4).2 70 a1 (by omega) q6).1, ((e4).2 70 a1 (by omega) q6).2, ((e4).2 71 a2 (by omega) q7).1, ((e4).2 71 a2 (by omega) q7).2]
      refine bind_lift h (fun v4 h => ?_)
      exact hr2 _ _ _ e4 c5 h
set_option maxHeartbeats 4000000 in
theorem f_M_begin {t : TY} {a0 : Nat} {G H : GS} {K K' : GS → Prop} (e : eM a0 G H) (hk : ∀ (G' H' : GS), eM a0 G' H' → cM a0 H H' → K G' → K' H') (h : w_M_begin t G a0 K) : w_M_begin t H a0 K' := by
  obtain ⟨H0, eH0⟩ : ∃ z, z = H := ⟨_, rfl⟩
  have c : cM a0 H0 H := by rw [eH0]; exact cM.rf
  have hk : ∀ (G' H' : GS), eM a0 G' H' → cM a0 H0 H' → K G' → K' H' := by rw [eH0]; exact hk
  unfold w_M_begin at h ⊢
  have z1 := eM.simp e
  try simp (disch := omega) only [z1]
  obtain ⟨n, h⟩ := h
  refine ⟨n, ?_⟩
  exact f_M_begin_2 e c hk _  h
set_option maxHeartbeats 4000000 in
theorem f_M_back_2 {t : TY} {a0 : Nat} {G H H0 : GS} {K K' : GS → Prop} (e : eM a0 G H) (c : cM a0 H0 H) (hk : ∀ (G' H' : GS), eM a0 G' H' → cM a0 H0 H' → K G' → K' H') : ∀ (n : Nat) {l1 : Int32}, w_M_back_2 t a0 K n l1 G → w_M_back_2 t a0 K' n l1 H := by
  intro n
  induction n generalizing G H with
  | zero => intro l1 h; exact h.elim
  | succ n ih =>
    intro l1 h
    have hr2 : ∀ (x0 : Int32) (G H : GS), eM a0 G H → cM a0 H0 H → w_M_back_2 t a0 K n x0 G → w_M_back_2 t a0 K' n x0 H := fun _ G H e c h => ih e c h
    unfold w_M_back_2 at h ⊢
    have z1 := eM.simp e
    try simp (disch := omega) only [z1]
    try dsimp only at h ⊢
    refine ite_lift h (fun h => ?_) (fun h => ?_)
    · try simp (disch := omega) only [z1]
      exact hk _ _ e c h
    · try simp (disch := omega) only [z1]
      refine and_lift h (fun h => ?_)
      refine ex_lift h (fun a1 q2 h => ?_)
      try simp only [((e).2 71 a1 (by omega) q2).1, ((e).2 71 a1 (by omega) q2).2]
      refine and_lift h (fun h => ?_)
      refine and_lift h (fun h => ?_)
      refine ex_lift h (fun a2 q3 h => ?_)
      try simp only [((e).2 70 a2 (by omega) q3).1, ((e).2 70 a2 (by omega) q3).2]
      refine and_lift h (fun h => ?_)
      refine and_lift h (fun h => ?_)
      refine all_lift h (fun H3 eH3 h => ?_)
      obtain ⟨G3, eG3⟩ : ∃ z, z = ais G a2 l1.toNatClampNeg (ai G a1 l1.toNatClampNeg) := ⟨_, rfl⟩
      rw [← eG3] at h
      have e4 : eM a0 G3 H3 := by rw [eG3, eH3]; exact eM.ais e
      have c5 : cM a0 H0 H3 := by rw [eH3]; exact cM.ais c ⟨70, by omega, (((e).1 70 (by omega)).2.2).trans q3⟩
      have kG3 : ∀ f a, ((70 ≤ f ∧ f ≤ 72) ∨ (79 ≤ f ∧ f ≤ 94) ∨ f = 96) → gr G f a0 = some a → gr G3 f a0 = some a := by intro f a _ z; rw [eG3]; exact z
      have q6 := kG3 71 a1 (by omega) q2
      have q7 := kG3 70 a2 (by omega) q3
      have z8 := eM.simp e4
      try simp (disch := omega) only [z8]
      try simp only [((e4).2 71 a1 (by omega) q6).1, ((e4).2 71 a1 (by omega) q6).2, ((e4).2 70 a2 (by omega) q7).1, ((e4).2 70 a2 (by omega) q7).2]
      refine bind_lift h (fun v4 h => ?_)
      exact hr2 _ _ _ e4 c5 h
set_option maxHeartbeats 4000000 in
theorem f_M_back {t : TY} {a0 : Nat} {G H : GS} {K K' : GS → Prop} (e : eM a0 G H) (hk : ∀ (G' H' : GS), eM a0 G' H' → cM a0 H H' → K G' → K' H') (h : w_M_back t G a0 K) : w_M_back t H a0 K' := by
  obtain ⟨H0, eH0⟩ : ∃ z, z = H := ⟨_, rfl⟩
  have c : cM a0 H0 H := by rw [eH0]; exact cM.rf
  have hk : ∀ (G' H' : GS), eM a0 G' H' → cM a0 H0 H' → K G' → K' H' := by rw [eH0]; exact hk
  unfold w_M_back at h ⊢
  have z1 := eM.simp e
  try simp (disch := omega) only [z1]
  obtain ⟨n, h⟩ := h
  refine ⟨n, ?_⟩
  exact f_M_back_2 e c hk _  h
set_option maxHeartbeats 4000000 in
theorem f_M_commit_29 {t : TY} {a0 : Nat} {G H H0 : GS} {K K' : GS → Int32 → Prop} (e : eM a0 G H) (c : cM a0 H0 H) (hk : ∀ (G' H' : GS) (v : Int32), eM a0 G' H' → cM a0 H0 H' → K G' v → K' H' v) {l2 : Int32} (h : w_M_commit_29 t a0 K l2 G) : w_M_commit_29 t a0 K' l2 H := by
  unfold w_M_commit_29 at h ⊢
  have z1 := eM.simp e
  try simp (disch := omega) only [z1]
  refine and_lift h (fun h => ?_)
  refine all_lift h (fun H1 eH1 h => ?_)
  obtain ⟨G1, eG1⟩ : ∃ z, z = si G 77 a0 ((gi G 77 a0) + (l2 + (2 : Int32))) := ⟨_, rfl⟩
  rw [← eG1] at h
  have e2 : eM a0 G1 H1 := by rw [eG1, eH1]; exact eM.si e (by omega)
  have c3 : cM a0 H0 H1 := by rw [eH1]; exact cM.si c
  have kG1 : ∀ f a, ((70 ≤ f ∧ f ≤ 72) ∨ (79 ≤ f ∧ f ≤ 94) ∨ f = 96) → gr G f a0 = some a → gr G1 f a0 = some a := by intro f a _ z; rw [eG1]; exact z
  have z4 := eM.simp e2
  try simp (disch := omega) only [z4]
  exact hk _ _ _ e2 c3 h
set_option maxHeartbeats 4000000 in
theorem f_M_commit_72 {t : TY} {a0 : Nat} {G H H0 : GS} {K K' : GS → Int32 → Prop} (e : eM a0 G H) (c : cM a0 H0 H) (hk : ∀ (G' H' : GS) (v : Int32), eM a0 G' H' → cM a0 H0 H' → K G' v → K' H' v) : ∀ (n : Nat) {l4 : Int32}, w_M_commit_72 t a0 K n l4 G → w_M_commit_72 t a0 K' n l4 H := by
  intro n
  induction n generalizing G H with
  | zero => intro l4 h; exact h.elim
  | succ n ih =>
    intro l4 h
    have hr72 : ∀ (x0 : Int32) (G H : GS), eM a0 G H → cM a0 H0 H → w_M_commit_72 t a0 K n x0 G → w_M_commit_72 t a0 K' n x0 H := fun _ G H e c h => ih e c h
    unfold w_M_commit_72 at h ⊢
    have z1 := eM.simp e
    try simp (disch := omega) only [z1]
    try dsimp only at h ⊢
    refine ite_lift h (fun h => ?_) (fun h => ?_)
    · try simp (disch := omega) only [z1]
      refine and_lift h (fun h => ?_)
      refine f_M_back e (fun G1 H1 e2 c3 h => ?_) h
      have c3 := (c).tr c3
      have z4 := eM.simp e2
      try simp (disch := omega) only [z4]
      refine all_lift h (fun H2 eH2 h => ?_)
      obtain ⟨G2, eG2⟩ : ∃ z, z = si G1 75 a0 (1 : Int32) := ⟨_, rfl⟩
      rw [← eG2] at h
      have e5 : eM a0 G2 H2 := by rw [eG2, eH2]; exact eM.si e2 (by omega)
      have c6 : cM a0 H0 H2 := by rw [eH2]; exact cM.si c3
      have kG2 : ∀ f a, ((70 ≤ f ∧ f ≤ 72) ∨ (79 ≤ f ∧ f ≤ 94) ∨ f = 96) → gr G1 f a0 = some a → gr G2 f a0 = some a := by intro f a _ z; rw [eG2]; exact z
      have z7 := eM.simp e5
      try simp (disch := omega) only [z7]
      refine f_M_fresh e5 (fun G3 H3 e8 c9 h => ?_) h
      have c9 := (c6).tr c9
      have z10 := eM.simp e8
      try simp (disch := omega) only [z10]
      refine f_M_fresh e8 (fun G4 H4 e11 c12 h => ?_) h
      have c12 := (c9).tr c12
      have z13 := eM.simp e11
      try simp (disch := omega) only [z13]
      exact hk _ _ _ e11 c12 h
    · try simp (disch := omega) only [z1]
      refine and_lift h (fun h => ?_)
      refine ex_lift h (fun a5 q14 h => ?_)
      try simp only [((e).2 70 a5 (by omega) q14).1, ((e).2 70 a5 (by omega) q14).2]
      refine and_lift h (fun h => ?_)
      refine and_lift h (fun h => ?_)
      refine ex_lift h (fun a6 q15 h => ?_)
      try simp only [((e).2 72 a6 (by omega) q15).1, ((e).2 72 a6 (by omega) q15).2]
      refine and_lift h (fun h => ?_)
      refine and_lift h (fun h => ?_)
      refine all_lift h (fun H7 eH7 h => ?_)
      obtain ⟨G7, eG7⟩ : ∃ z, z = ais G a6 l4.toNatClampNeg (ai G a5 l4.toNatClampNeg) := ⟨_, rfl⟩
      rw [← eG7] at h
      have e16 : eM a0 G7 H7 := by rw [eG7, eH7]; exact eM.ais e
      have c17 : cM a0 H0 H7 := by rw [eH7]; exact cM.ais c ⟨72, by omega, (((e).1 72 (by omega)).2.2).trans q15⟩
      have kG7 : ∀ f a, ((70 ≤ f ∧ f ≤ 72) ∨ (79 ≤ f ∧ f ≤ 94) ∨ f = 96) → gr G f a0 = some a → gr G7 f a0 = some a := by intro f a _ z; rw [eG7]; exact z
      have q18 := kG7 70 a5 (by omega) q14
      have q19 := kG7 72 a6 (by omega) q15
      have z20 := eM.simp e16
      try simp (disch := omega) only [z20]
      try simp only [((e16).2 70 a5 (by omega) q18).1, ((e16).2 70 a5 (by omega) q18).2, ((e16).2 72 a6 (by omega) q19).1, ((e16).2 72 a6 (by omega) q19).2]
      refine bind_lift h (fun v8 h => ?_)
      exact hr72 _ _ _ e16 c17 h
set_option maxHeartbeats 4000000 in
theorem f_M_commit_66 {t : TY} {a0 : Nat} {G H H0 : GS} {K K' : GS → Int32 → Prop} (e : eM a0 G H) (c : cM a0 H0 H) (hk : ∀ (G' H' : GS) (v : Int32), eM a0 G' H' → cM a0 H0 H' → K G' v → K' H' v) {s0 : Option Nat} {s1 : Int32} (hs0 : s0 = some a0) (h : w_M_commit_66 t a0 K s0 s1 G) : w_M_commit_66 t a0 K' s0 s1 H := by
  unfold w_M_commit_66 at h ⊢
  have z1 := eM.simp e
  try simp (disch := omega) only [z1]
  refine ex_lift h (fun a1 q2 h => ?_)
  have z3 : a0 = a1 := Option.some.inj (hs0.symm.trans q2)
  subst z3
  refine and_lift h (fun h => ?_)
  refine and_lift h (fun h => ?_)
  refine all_lift h (fun H2 eH2 h => ?_)
  obtain ⟨G2, eG2⟩ : ∃ z, z = si G 73 a0 s1 := ⟨_, rfl⟩
  rw [← eG2] at h
  have e4 : eM a0 G2 H2 := by rw [eG2, eH2]; exact eM.si e (by omega)
  have c5 : cM a0 H0 H2 := by rw [eH2]; exact cM.si c
  have kG2 : ∀ f a, ((70 ≤ f ∧ f ≤ 72) ∨ (79 ≤ f ∧ f ≤ 94) ∨ f = 96) → gr G f a0 = some a → gr G2 f a0 = some a := by intro f a _ z; rw [eG2]; exact z
  have z6 := eM.simp e4
  try simp (disch := omega) only [z6]
  obtain ⟨n, h⟩ := h
  refine ⟨n, ?_⟩
  exact f_M_commit_72 e4 c5 hk _  h
set_option maxHeartbeats 4000000 in
theorem f_M_commit {t : TY} {a0 : Nat} {G H : GS} {K K' : GS → Int32 → Prop} (e : eM a0 G H) (hk : ∀ (G' H' : GS) (v : Int32), eM a0 G' H' → cM a0 H H' → K G' v → K' H' v) {p1 : Int32} (h : w_M_commit t G a0 p1 K) : w_M_commit t H a0 p1 K' := by
  obtain ⟨H0, eH0⟩ : ∃ z, z = H := ⟨_, rfl⟩
  have c : cM a0 H0 H := by rw [eH0]; exact cM.rf
  have hk : ∀ (G' H' : GS) (v : Int32), eM a0 G' H' → cM a0 H0 H' → K G' v → K' H' v := by rw [eH0]; exact hk
  unfold w_M_commit at h ⊢
  have z1 := eM.simp e
  try simp (disch := omega) only [z1]
  refine bind_lift h (fun v1 h => ?_)
  refine and_lift h (fun h => ?_)
  refine bind_lift h (fun v2 h => ?_)
  refine all_lift h (fun H3 eH3 h => ?_)
  obtain ⟨G3, eG3⟩ : ∃ z, z = si G 76 a0 (-1 : Int32) := ⟨_, rfl⟩
  rw [← eG3] at h
  have e2 : eM a0 G3 H3 := by rw [eG3, eH3]; exact eM.si e (by omega)
  have c3 : cM a0 H0 H3 := by rw [eH3]; exact cM.si c
  have kG3 : ∀ f a, ((70 ≤ f ∧ f ≤ 72) ∨ (79 ≤ f ∧ f ≤ 94) ∨ f = 96) → gr G f a0 = some a → gr G3 f a0 = some a := by intro f a _ z; rw [eG3]; exact z
  have z4 := eM.simp e2
  try simp (disch := omega) only [z4]
  refine ite_lift h (fun h => ?_) (fun h => ?_)
  · try simp (disch := omega) only [z4]
    exact f_M_commit_29 e2 c3 hk  h
  · try simp (disch := omega) only [z4]
    refine ite_lift h (fun h => ?_) (fun h => ?_)
    · try simp (disch := omega) only [z4]
      refine all_lift h (fun H4 eH4 h => ?_)
      obtain ⟨G4, eG4⟩ : ∃ z, z = si G3 77 a0 ((gi G3 77 a0) + v2) := ⟨_, rfl⟩
      rw [← eG4] at h
      have e5 : eM a0 G4 H4 := by rw [eG4, eH4]; exact eM.si e2 (by omega)
      have c6 : cM a0 H0 H4 := by rw [eH4]; exact cM.si c3
      have kG4 : ∀ f a, ((70 ≤ f ∧ f ≤ 72) ∨ (79 ≤ f ∧ f ≤ 94) ∨ f = 96) → gr G3 f a0 = some a → gr G4 f a0 = some a := by intro f a _ z; rw [eG4]; exact z
      have z7 := eM.simp e5
      try simp (disch := omega) only [z7]
      refine ite_lift h (fun h => ?_) (fun h => ?_)
      · try simp (disch := omega) only [z7]
        exact f_M_commit_66 e5 c6 hk  rfl h
      · try simp (disch := omega) only [z7]
        exact f_M_commit_66 e5 c6 hk  rfl h
    · try simp (disch := omega) only [z4]
      exact f_M_commit_29 e2 c3 hk  h
set_option maxHeartbeats 4000000 in
theorem f_M_put_3 {t : TY} {a0 : Nat} {G H H0 : GS} {K K' : GS → Prop} (e : eM a0 G H) (c : cM a0 H0 H) (hk : ∀ (G' H' : GS), eM a0 G' H' → cM a0 H0 H' → K G' → K' H') : ∀ (n : Nat) {l1 : Int64} {l3 : Int32} {l4 : Int32}, w_M_put_3 t a0 K n l1 l3 l4 G → w_M_put_3 t a0 K' n l1 l3 l4 H := by
  intro n
  induction n generalizing G H with
  | zero => intro l1 l3 l4 h; exact h.elim
  | succ n ih =>
    intro l1 l3 l4 h
    have hr3 : ∀ (x0 : Int64) (x1 : Int32) (x2 : Int32) (G H : GS), eM a0 G H → cM a0 H0 H → w_M_put_3 t a0 K n x0 x1 x2 G → w_M_put_3 t a0 K' n x0 x1 x2 H := fun _ _ _ G H e c h => ih e c h
    unfold w_M_put_3 at h ⊢
    have z1 := eM.simp e
    try simp (disch := omega) only [z1]
    try dsimp only at h ⊢
    refine ite_lift h (fun h => ?_) (fun h => ?_)
    · try simp (disch := omega) only [z1]
      exact hk _ _ e c h
    · try simp (disch := omega) only [z1]
      refine and_lift h (fun h => ?_)
      refine ex_lift h (fun a1 q2 h => ?_)
      try simp only [((e).2 96 a1 (by omega) q2).1, ((e).2 96 a1 (by omega) q2).2]
      refine and_lift h (fun h => ?_)
      refine and_lift h (fun h => ?_)
      refine all_lift h (fun H2 eH2 h => ?_)
      obtain ⟨G2, eG2⟩ : ∃ z, z = ais G a1 (gi G 97 a0).toNatClampNeg (((l1 >>> (((8 : Int32) * l4).toInt64 &&& 63)) &&& (255 : Int64)).toInt32) := ⟨_, rfl⟩
      rw [← eG2] at h
      have e3 : eM a0 G2 H2 := by rw [eG2, eH2]; exact eM.ais e
      have c4 : cM a0 H0 H2 := by rw [eH2]; exact cM.ais c ⟨96, by omega, (((e).1 96 (by omega)).2.2).trans q2⟩
      have kG2 : ∀ f a, ((70 ≤ f ∧ f ≤ 72) ∨ (79 ≤ f ∧ f ≤ 94) ∨ f = 96) → gr G f a0 = some a → gr G2 f a0 = some a := by intro f a _ z; rw [eG2]; exact z
      have q5 := kG2 96 a1 (by omega) q2
      have z6 := eM.simp e3
      try simp (disch := omega) only [z6]
      try simp only [((e3).2 96 a1 (by omega) q5).1, ((e3).2 96 a1 (by omega) q5).2]
      refine all_lift h (fun H3 eH3 h => ?_)
      obtain ⟨G3, eG3⟩ : ∃ z, z = si G2 97 a0 ((gi G2 97 a0) + (1 : Int32)) := ⟨_, rfl⟩
      rw [← eG3] at h
      have e7 : eM a0 G3 H3 := by rw [eG3, eH3]; exact eM.si e3 (by omega)
      have c8 : cM a0 H0 H3 := by rw [eH3]; exact cM.si c4
      have kG3 : ∀ f a, ((70 ≤ f ∧ f ≤ 72) ∨ (79 ≤ f ∧ f ≤ 94) ∨ f = 96) → gr G2 f a0 = some a → gr G3 f a0 = some a := by intro f a _ z; rw [eG3]; exact z
      have q9 := kG3 96 a1 (by omega) q5
      have z10 := eM.simp e7
      try simp (disch := omega) only [z10]
      try simp only [((e7).2 96 a1 (by omega) q9).1, ((e7).2 96 a1 (by omega) q9).2]
      refine bind_lift h (fun v4 h => ?_)
      exact hr3 _ _ _ _ _ e7 c8 h
set_option maxHeartbeats 4000000 in
theorem f_M_put {t : TY} {a0 : Nat} {G H : GS} {K K' : GS → Prop} (e : eM a0 G H) (hk : ∀ (G' H' : GS), eM a0 G' H' → cM a0 H H' → K G' → K' H') {p1 : Int64} {p3 : Int32} (h : w_M_put t G a0 p1 p3 K) : w_M_put t H a0 p1 p3 K' := by
  obtain ⟨H0, eH0⟩ : ∃ z, z = H := ⟨_, rfl⟩
  have c : cM a0 H0 H := by rw [eH0]; exact cM.rf
  have hk : ∀ (G' H' : GS), eM a0 G' H' → cM a0 H0 H' → K G' → K' H' := by rw [eH0]; exact hk
  unfold w_M_put at h ⊢
  have z1 := eM.simp e
  try simp (disch := omega) only [z1]
  obtain ⟨n, h⟩ := h
  refine ⟨n, ?_⟩
  exact f_M_put_3 e c hk _  h
set_option maxHeartbeats 4000000 in
theorem f_M_lengthOf_4 {t : TY} {a0 : Nat} {G H : GS} {K K' : Int32 → Prop} (e : eM a0 G H) (hk : ∀ v : Int32, K v → K' v) : ∀ (n : Nat) {l2 : Int32} {l3 : Int64}, w_M_lengthOf_4 t G K n l2 l3 → w_M_lengthOf_4 t H K' n l2 l3 := by
  intro n
  induction n with
  | zero => intro l2 l3 h; exact h.elim
  | succ n ih =>
    intro l2 l3 h
    have hr4 : ∀ (x0 : Int32) (x1 : Int64), w_M_lengthOf_4 t G K n x0 x1 → w_M_lengthOf_4 t H K' n x0 x1 := fun _ _ h => ih h
    unfold w_M_lengthOf_4 at h ⊢
    have z1 := eM.simp e
    try simp (disch := omega) only [z1]
    try dsimp only at h ⊢
    refine ite_lift h (fun h => ?_) (fun h => ?_)
    · try simp (disch := omega) only [z1]
      exact hk _ h
    · try simp (disch := omega) only [z1]
      refine bind_lift h (fun v1 h => ?_)
      refine bind_lift h (fun v2 h => ?_)
      exact hr4 _ _ h
set_option maxHeartbeats 4000000 in
theorem f_M_lengthOf {t : TY} {a0 : Nat} {G H : GS} {K K' : Int32 → Prop} (e : eM a0 G H) (hk : ∀ v : Int32, K v → K' v) {p0 : Int64} (h : w_M_lengthOf t G p0 K) : w_M_lengthOf t H p0 K' := by
  skip
  skip
  skip
  unfold w_M_lengthOf at h ⊢
  have z1 := eM.simp e
  try simp (disch := omega) only [z1]
  obtain ⟨n, h⟩ := h
  refine ⟨n, ?_⟩
  exact f_M_lengthOf_4 e hk _  h
set_option maxHeartbeats 4000000 in
theorem f_M_say {t : TY} {a0 : Nat} {G H : GS} {K K' : GS → Prop} (e : eM a0 G H) (hk : ∀ (G' H' : GS), eM a0 G' H' → cM a0 H H' → K G' → K' H') {p1 : Int64} (h : w_M_say t G a0 p1 K) : w_M_say t H a0 p1 K' := by
  obtain ⟨H0, eH0⟩ : ∃ z, z = H := ⟨_, rfl⟩
  have c : cM a0 H0 H := by rw [eH0]; exact cM.rf
  have hk : ∀ (G' H' : GS), eM a0 G' H' → cM a0 H0 H' → K G' → K' H' := by rw [eH0]; exact hk
  unfold w_M_say at h ⊢
  have z1 := eM.simp e
  try simp (disch := omega) only [z1]
  refine f_M_lengthOf e (fun v1 h => ?_) h
  refine and_lift h (fun h => ?_)
  refine f_M_put e (fun G2 H2 e2 c3 h => ?_) h
  have c3 := (c).tr c3
  have z4 := eM.simp e2
  try simp (disch := omega) only [z4]
  refine f_M_put e2 (fun G3 H3 e5 c6 h => ?_) h
  have c6 := (c3).tr c6
  have z7 := eM.simp e5
  try simp (disch := omega) only [z7]
  exact hk _ _ e5 c6 h
set_option maxHeartbeats 4000000 in
theorem f_M_nameOf {t : TY} {a0 : Nat} {G H : GS} {K K' : Int64 → Prop} (e : eM a0 G H) (hk : ∀ v : Int64, K v → K' v) {p0 : Int32} (h : w_M_nameOf t G p0 K) : w_M_nameOf t H p0 K' := by
  skip
  skip
  skip
  unfold w_M_nameOf at h ⊢
  have z1 := eM.simp e
  try simp (disch := omega) only [z1]
  refine ite_lift h (fun h => ?_) (fun h => ?_)
  · try simp (disch := omega) only [z1]
    refine ite_lift h (fun h => ?_) (fun h => ?_)
    · try simp (disch := omega) only [z1]
      exact hk _ h
    · try simp (disch := omega) only [z1]
      exact hk _ h
  · try simp (disch := omega) only [z1]
    exact hk _ h
set_option maxHeartbeats 4000000 in
theorem f_M_userAt_65 {t : TY} {a0 : Nat} {G H : GS} {K K' : Int32 → Prop} (e : eM a0 G H) (hk : ∀ v : Int32, K v → K' v) {l2 : Int32} {l3 : Int64} (h : w_M_userAt_65 t G a0 K l2 l3) : w_M_userAt_65 t H a0 K' l2 l3 := by
  unfold w_M_userAt_65 at h ⊢
  have z1 := eM.simp e
  try simp (disch := omega) only [z1]
  refine ite_lift h (fun h => ?_) (fun h => ?_)
  · try simp (disch := omega) only [z1]
    exact hk _ h
  · try simp (disch := omega) only [z1]
    refine ite_lift h (fun h => ?_) (fun h => ?_)
    · try simp (disch := omega) only [z1]
      exact hk _ h
    · try simp (disch := omega) only [z1]
      exact hk _ h
set_option maxHeartbeats 4000000 in
theorem f_M_userAt_48 {t : TY} {a0 : Nat} {G H : GS} {K K' : Int32 → Prop} (e : eM a0 G H) (hk : ∀ v : Int32, K v → K' v) {l2 : Int32} {l3 : Int64} (h : w_M_userAt_48 t G a0 K l2 l3) : w_M_userAt_48 t H a0 K' l2 l3 := by
  unfold w_M_userAt_48 at h ⊢
  have z1 := eM.simp e
  try simp (disch := omega) only [z1]
  refine ite_lift h (fun h => ?_) (fun h => ?_)
  · try simp (disch := omega) only [z1]
    exact f_M_userAt_65 e hk  h
  · try simp (disch := omega) only [z1]
    refine ite_lift h (fun h => ?_) (fun h => ?_)
    · try simp (disch := omega) only [z1]
      exact f_M_userAt_65 e hk  h
    · try simp (disch := omega) only [z1]
      exact hk _ h
set_option maxHeartbeats 4000000 in
theorem f_M_userAt_30 {t : TY} {a0 : Nat} {G H : GS} {K K' : Int32 → Prop} (e : eM a0 G H) (hk : ∀ v : Int32, K v → K' v) {l2 : Int32} {s0 : Int64} (h : w_M_userAt_30 t G a0 K l2 s0) : w_M_userAt_30 t H a0 K' l2 s0 := by
  unfold w_M_userAt_30 at h ⊢
  have z1 := eM.simp e
  try simp (disch := omega) only [z1]
  refine ite_lift h (fun h => ?_) (fun h => ?_)
  · try simp (disch := omega) only [z1]
    exact f_M_userAt_48 e hk  h
  · try simp (disch := omega) only [z1]
    refine ite_lift h (fun h => ?_) (fun h => ?_)
    · try simp (disch := omega) only [z1]
      exact f_M_userAt_48 e hk  h
    · try simp (disch := omega) only [z1]
      exact hk _ h
set_option maxHeartbeats 4000000 in
theorem f_M_userAt_18 {t : TY} {a0 : Nat} {G H : GS} {K K' : Int32 → Prop} (e : eM a0 G H) (hk : ∀ v : Int32, K v → K' v) {l2 : Int32} (h : w_M_userAt_18 t G a0 K l2) : w_M_userAt_18 t H a0 K' l2 := by
  unfold w_M_userAt_18 at h ⊢
  have z1 := eM.simp e
  try simp (disch := omega) only [z1]
  exact f_M_userAt_30 e hk  h
set_option maxHeartbeats 4000000 in
theorem f_M_userAt {t : TY} {a0 : Nat} {G H : GS} {K K' : Int32 → Prop} (e : eM a0 G H) (hk : ∀ v : Int32, K v → K' v) {p1 : Int32} (h : w_M_userAt t G a0 p1 K) : w_M_userAt t H a0 p1 K' := by
  skip
  skip
  skip
  unfold w_M_userAt at h ⊢
  have z1 := eM.simp e
  try simp (disch := omega) only [z1]
  refine and_lift h (fun h => ?_)
  refine f_M_get e (fun v1 h => ?_) h
  refine bind_lift h (fun v2 h => ?_)
  refine ite_lift h (fun h => ?_) (fun h => ?_)
  · try simp (disch := omega) only [z1]
    exact f_M_userAt_18 e hk  h
  · try simp (disch := omega) only [z1]
    refine ite_lift h (fun h => ?_) (fun h => ?_)
    · try simp (disch := omega) only [z1]
      refine f_M_get e (fun v3 h => ?_) h
      exact f_M_userAt_30 e hk  h
    · try simp (disch := omega) only [z1]
      exact f_M_userAt_18 e hk  h
set_option maxHeartbeats 4000000 in
theorem f_M_behind {t : TY} {a0 : Nat} {G H : GS} {K K' : Int32 → Prop} (e : eM a0 G H) (hk : ∀ v : Int32, K v → K' v) {p1 : Int32} {p2 : Int32} (h : w_M_behind t G a0 p1 p2 K) : w_M_behind t H a0 p1 p2 K' := by
  skip
  skip
  skip
  unfold w_M_behind at h ⊢
  have z1 := eM.simp e
  try simp (disch := omega) only [z1]
  refine ite_lift h (fun h => ?_) (fun h => ?_)
  · try simp (disch := omega) only [z1]
    exact hk _ h
  · try simp (disch := omega) only [z1]
    refine ite_lift h (fun h => ?_) (fun h => ?_)
    · try simp (disch := omega) only [z1]
      refine and_lift h (fun h => ?_)
      refine f_M_get e (fun v1 h => ?_) h
      refine bind_lift h (fun v2 h => ?_)
      refine ite_lift h (fun h => ?_) (fun h => ?_)
      · try simp (disch := omega) only [z1]
        exact hk _ h
      · try simp (disch := omega) only [z1]
        exact hk _ h
    · try simp (disch := omega) only [z1]
      exact hk _ h
set_option maxHeartbeats 4000000 in
theorem f_M_fits_105 {t : TY} {a0 : Nat} {G H : GS} {K K' : Int32 → Prop} {r38 R38 : Int32 → Int32 → Int32 → Int32 → Int32 → Prop} (e : eM a0 G H) (hk : ∀ v : Int32, K v → K' v) (hr38 : ∀ (x0 : Int32) (x1 : Int32) (x2 : Int32) (x3 : Int32) (x4 : Int32), r38 x0 x1 x2 x3 x4 → R38 x0 x1 x2 x3 x4) {l1 : Int32} {l2 : Int32} {l3 : Int32} {l5 : Int32} {s0 : Int32} (h : w_M_fits_105 t G a0 K r38 l1 l2 l3 l5 s0) : w_M_fits_105 t H a0 K' R38 l1 l2 l3 l5 s0 := by
  unfold w_M_fits_105 at h ⊢
  have z1 := eM.simp e
  try simp (disch := omega) only [z1]
  refine bind_lift h (fun v1 h => ?_)
  exact hr38 _ _ _ _ _ h
set_option maxHeartbeats 4000000 in
theorem f_M_fits_104 {t : TY} {a0 : Nat} {G H : GS} {K K' : Int32 → Prop} {r38 R38 : Int32 → Int32 → Int32 → Int32 → Int32 → Prop} (e : eM a0 G H) (hk : ∀ v : Int32, K v → K' v) (hr38 : ∀ (x0 : Int32) (x1 : Int32) (x2 : Int32) (x3 : Int32) (x4 : Int32), r38 x0 x1 x2 x3 x4 → R38 x0 x1 x2 x3 x4) {l1 : Int32} {l2 : Int32} {l3 : Int32} {l5 : Int32} (h : w_M_fits_104 t G a0 K r38 l1 l2 l3 l5) : w_M_fits_104 t H a0 K' R38 l1 l2 l3 l5 := by
  unfold w_M_fits_104 at h ⊢
  have z1 := eM.simp e
  try simp (disch := omega) only [z1]
  exact f_M_fits_105 e hk hr38  h
set_option maxHeartbeats 4000000 in
theorem f_M_fits_87 {t : TY} {a0 : Nat} {G H : GS} {K K' : Int32 → Prop} {r38 R38 : Int32 → Int32 → Int32 → Int32 → Int32 → Prop} (e : eM a0 G H) (hk : ∀ v : Int32, K v → K' v) (hr38 : ∀ (x0 : Int32) (x1 : Int32) (x2 : Int32) (x3 : Int32) (x4 : Int32), r38 x0 x1 x2 x3 x4 → R38 x0 x1 x2 x3 x4) {l1 : Int32} {l2 : Int32} {l4 : Int32} {l5 : Int32} {l6 : Int32} {s0 : Int32} (h : w_M_fits_87 t G a0 K r38 l1 l2 l4 l5 l6 s0) : w_M_fits_87 t H a0 K' R38 l1 l2 l4 l5 l6 s0 := by
  unfold w_M_fits_87 at h ⊢
  have z1 := eM.simp e
  try simp (disch := omega) only [z1]
  refine ite_lift h (fun h => ?_) (fun h => ?_)
  · try simp (disch := omega) only [z1]
    exact f_M_fits_104 e hk hr38  h
  · try simp (disch := omega) only [z1]
    refine ite_lift h (fun h => ?_) (fun h => ?_)
    · try simp (disch := omega) only [z1]
      exact f_M_fits_104 e hk hr38  h
    · try simp (disch := omega) only [z1]
      exact f_M_fits_105 e hk hr38  h
set_option maxHeartbeats 4000000 in
theorem f_M_fits_86 {t : TY} {a0 : Nat} {G H : GS} {K K' : Int32 → Prop} {r38 R38 : Int32 → Int32 → Int32 → Int32 → Int32 → Prop} (e : eM a0 G H) (hk : ∀ v : Int32, K v → K' v) (hr38 : ∀ (x0 : Int32) (x1 : Int32) (x2 : Int32) (x3 : Int32) (x4 : Int32), r38 x0 x1 x2 x3 x4 → R38 x0 x1 x2 x3 x4) {l1 : Int32} {l2 : Int32} {l4 : Int32} {l5 : Int32} {l6 : Int32} (h : w_M_fits_86 t G a0 K r38 l1 l2 l4 l5 l6) : w_M_fits_86 t H a0 K' R38 l1 l2 l4 l5 l6 := by
  unfold w_M_fits_86 at h ⊢
  have z1 := eM.simp e
  try simp (disch := omega) only [z1]
  exact f_M_fits_87 e hk hr38  h
set_option maxHeartbeats 4000000 in
theorem f_M_fits_38 {t : TY} {a0 : Nat} {G H : GS} {K K' : Int32 → Prop} (e : eM a0 G H) (hk : ∀ v : Int32, K v → K' v) : ∀ (n : Nat) {l1 : Int32} {l2 : Int32} {l3 : Int32} {l4 : Int32} {l5 : Int32}, w_M_fits_38 t G a0 K n l1 l2 l3 l4 l5 → w_M_fits_38 t H a0 K' n l1 l2 l3 l4 l5 := by
  intro n
  induction n with
  | zero => intro l1 l2 l3 l4 l5 h; exact h.elim
  | succ n ih =>
    intro l1 l2 l3 l4 l5 h
    have hr38 : ∀ (x0 : Int32) (x1 : Int32) (x2 : Int32) (x3 : Int32) (x4 : Int32), w_M_fits_38 t G a0 K n x0 x1 x2 x3 x4 → w_M_fits_38 t H a0 K' n x0 x1 x2 x3 x4 := fun _ _ _ _ _ h => ih h
    unfold w_M_fits_38 at h ⊢
    have z1 := eM.simp e
    try simp (disch := omega) only [z1]
    try dsimp only at h ⊢
    refine ite_lift h (fun h => ?_) (fun h => ?_)
    · try simp (disch := omega) only [z1]
      refine ite_lift h (fun h => ?_) (fun h => ?_)
      · try simp (disch := omega) only [z1]
        exact hk _ h
      · try simp (disch := omega) only [z1]
        refine ite_lift h (fun h => ?_) (fun h => ?_)
        · try simp (disch := omega) only [z1]
          exact hk _ h
        · try simp (disch := omega) only [z1]
          exact hk _ h
    · try simp (disch := omega) only [z1]
      refine and_lift h (fun h => ?_)
      refine ex_lift h (fun a1 q2 h => ?_)
      try simp only [((e).2 94 a1 (by omega) q2).1, ((e).2 94 a1 (by omega) q2).2]
      refine and_lift h (fun h => ?_)
      refine and_lift h (fun h => ?_)
      refine bind_lift h (fun v2 h => ?_)
      refine ite_lift h (fun h => ?_) (fun h => ?_)
      · try simp (disch := omega) only [z1]
        try simp only [((e).2 94 a1 (by omega) q2).1, ((e).2 94 a1 (by omega) q2).2]
        exact f_M_fits_86 e hk hr38  h
      · try simp (disch := omega) only [z1]
        try simp only [((e).2 94 a1 (by omega) q2).1, ((e).2 94 a1 (by omega) q2).2]
        refine ite_lift h (fun h => ?_) (fun h => ?_)
        · try simp (disch := omega) only [z1]
          try simp only [((e).2 94 a1 (by omega) q2).1, ((e).2 94 a1 (by omega) q2).2]
          exact f_M_fits_86 e hk hr38  h
        · try simp (disch := omega) only [z1]
          try simp only [((e).2 94 a1 (by omega) q2).1, ((e).2 94 a1 (by omega) q2).2]
          refine ite_lift h (fun h => ?_) (fun h => ?_)
          · try simp (disch := omega) only [z1]
            try simp only [((e).2 94 a1 (by omega) q2).1, ((e).2 94 a1 (by omega) q2).2]
            exact f_M_fits_86 e hk hr38  h
          · try simp (disch := omega) only [z1]
            try simp only [((e).2 94 a1 (by omega) q2).1, ((e).2 94 a1 (by omega) q2).2]
            refine ite_lift h (fun h => ?_) (fun h => ?_)
            · try simp (disch := omega) only [z1]
              try simp only [((e).2 94 a1 (by omega) q2).1, ((e).2 94 a1 (by omega) q2).2]
              exact f_M_fits_86 e hk hr38  h
            · try simp (disch := omega) only [z1]
              try simp only [((e).2 94 a1 (by omega) q2).1, ((e).2 94 a1 (by omega) q2).2]
              exact f_M_fits_87 e hk hr38  h
set_option maxHeartbeats 4000000 in
theorem f_M_fits_33 {t : TY} {a0 : Nat} {G H : GS} {K K' : Int32 → Prop} (e : eM a0 G H) (hk : ∀ v : Int32, K v → K' v) {l1 : Int32} {l2 : Int32} {l3 : Int32} {s0 : Int32} (h : w_M_fits_33 t G a0 K l1 l2 l3 s0) : w_M_fits_33 t H a0 K' l1 l2 l3 s0 := by
  unfold w_M_fits_33 at h ⊢
  have z1 := eM.simp e
  try simp (disch := omega) only [z1]
  obtain ⟨n, h⟩ := h
  refine ⟨n, ?_⟩
  exact f_M_fits_38 e hk _  h
set_option maxHeartbeats 4000000 in
theorem f_M_fits {t : TY} {a0 : Nat} {G H : GS} {K K' : Int32 → Prop} (e : eM a0 G H) (hk : ∀ v : Int32, K v → K' v) {p1 : Int32} (h : w_M_fits t G a0 p1 K) : w_M_fits t H a0 p1 K' := by
  skip
  skip
  skip
  unfold w_M_fits at h ⊢
  have z1 := eM.simp e
  try simp (disch := omega) only [z1]
  refine and_lift h (fun h => ?_)
  refine f_M_get e (fun v1 h => ?_) h
  refine bind_lift h (fun v2 h => ?_)
  refine ite_lift h (fun h => ?_) (fun h => ?_)
  · try simp (disch := omega) only [z1]
    exact hk _ h
  · try simp (disch := omega) only [z1]
    refine ite_lift h (fun h => ?_) (fun h => ?_)
    · try simp (disch := omega) only [z1]
      refine ite_lift h (fun h => ?_) (fun h => ?_)
      · try simp (disch := omega) only [z1]
        exact f_M_fits_33 e hk  h
      · try simp (disch := omega) only [z1]
        exact f_M_fits_33 e hk  h
    · try simp (disch := omega) only [z1]
      exact hk _ h
set_option maxHeartbeats 4000000 in
theorem f_M_isDots {t : TY} {a0 : Nat} {G H : GS} {K K' : Int32 → Prop} (e : eM a0 G H) (hk : ∀ v : Int32, K v → K' v) {p1 : Int32} (h : w_M_isDots t G a0 p1 K) : w_M_isDots t H a0 p1 K' := by
  skip
  skip
  skip
  unfold w_M_isDots at h ⊢
  have z1 := eM.simp e
  try simp (disch := omega) only [z1]
  refine and_lift h (fun h => ?_)
  refine f_M_get e (fun v1 h => ?_) h
  refine ite_lift h (fun h => ?_) (fun h => ?_)
  · try simp (disch := omega) only [z1]
    exact hk _ h
  · try simp (disch := omega) only [z1]
    refine ex_lift h (fun a2 q2 h => ?_)
    try simp only [((e).2 94 a2 (by omega) q2).1, ((e).2 94 a2 (by omega) q2).2]
    refine and_lift h (fun h => ?_)
    refine and_lift h (fun h => ?_)
    refine ite_lift h (fun h => ?_) (fun h => ?_)
    · try simp (disch := omega) only [z1]
      try simp only [((e).2 94 a2 (by omega) q2).1, ((e).2 94 a2 (by omega) q2).2]
      exact hk _ h
    · try simp (disch := omega) only [z1]
      try simp only [((e).2 94 a2 (by omega) q2).1, ((e).2 94 a2 (by omega) q2).2]
      refine and_lift h (fun h => ?_)
      refine ite_lift h (fun h => ?_) (fun h => ?_)
      · try simp (disch := omega) only [z1]
        try simp only [((e).2 94 a2 (by omega) q2).1, ((e).2 94 a2 (by omega) q2).2]
        exact hk _ h
      · try simp (disch := omega) only [z1]
        try simp only [((e).2 94 a2 (by omega) q2).1, ((e).2 94 a2 (by omega) q2).2]
        exact hk _ h
set_option maxHeartbeats 4000000 in
theorem f_M_qid {t : TY} {a0 : Nat} {G H : GS} {K K' : GS → Prop} (e : eM a0 G H) (hk : ∀ (G' H' : GS), eM a0 G' H' → cM a0 H H' → K G' → K' H') {p1 : Int32} (h : w_M_qid t G a0 p1 K) : w_M_qid t H a0 p1 K' := by
  obtain ⟨H0, eH0⟩ : ∃ z, z = H := ⟨_, rfl⟩
  have c : cM a0 H0 H := by rw [eH0]; exact cM.rf
  have hk : ∀ (G' H' : GS), eM a0 G' H' → cM a0 H0 H' → K G' → K' H' := by rw [eH0]; exact hk
  unfold w_M_qid at h ⊢
  have z1 := eM.simp e
  try simp (disch := omega) only [z1]
  refine and_lift h (fun h => ?_)
  refine f_M_at e (fun v1 h => ?_) h
  refine f_M_put e (fun G2 H2 e2 c3 h => ?_) h
  have c3 := (c).tr c3
  have z4 := eM.simp e2
  try simp (disch := omega) only [z4]
  refine f_M_at e2 (fun v3 h => ?_) h
  refine f_M_put e2 (fun G4 H4 e5 c6 h => ?_) h
  have c6 := (c3).tr c6
  have z7 := eM.simp e5
  try simp (disch := omega) only [z7]
  refine f_M_at e5 (fun v5 h => ?_) h
  refine f_M_put e5 (fun G6 H6 e8 c9 h => ?_) h
  have c9 := (c6).tr c9
  have z10 := eM.simp e8
  try simp (disch := omega) only [z10]
  exact hk _ _ e8 c9 h
set_option maxHeartbeats 4000000 in
theorem f_M_statSize {t : TY} {a0 : Nat} {G H : GS} {K K' : Int32 → Prop} (e : eM a0 G H) (hk : ∀ v : Int32, K v → K' v) {p1 : Int32} (h : w_M_statSize t G a0 p1 K) : w_M_statSize t H a0 p1 K' := by
  skip
  skip
  skip
  unfold w_M_statSize at h ⊢
  have z1 := eM.simp e
  try simp (disch := omega) only [z1]
  refine and_lift h (fun h => ?_)
  refine f_M_at e (fun v1 h => ?_) h
  refine f_M_at e (fun v2 h => ?_) h
  refine f_M_nameOf e (fun v3 h => ?_) h
  refine f_M_lengthOf e (fun v4 h => ?_) h
  refine f_M_at e (fun v5 h => ?_) h
  refine f_M_nameOf e (fun v6 h => ?_) h
  refine f_M_lengthOf e (fun v7 h => ?_) h
  refine f_M_at e (fun v8 h => ?_) h
  refine f_M_nameOf e (fun v9 h => ?_) h
  refine f_M_lengthOf e (fun v10 h => ?_) h
  exact hk _ h
set_option maxHeartbeats 4000000 in
theorem f_M_stat_102 {t : TY} {a0 : Nat} {G H H0 : GS} {K K' : GS → Prop} (e : eM a0 G H) (c : cM a0 H0 H) (hk : ∀ (G' H' : GS), eM a0 G' H' → cM a0 H0 H' → K G' → K' H') : ∀ (n : Nat) {l1 : Int32} {l2 : Int32}, w_M_stat_102 t a0 K n l1 l2 G → w_M_stat_102 t a0 K' n l1 l2 H := by
  intro n
  induction n generalizing G H with
  | zero => intro l1 l2 h; exact h.elim
  | succ n ih =>
    intro l1 l2 h
    have hr102 : ∀ (x0 : Int32) (x1 : Int32) (G H : GS), eM a0 G H → cM a0 H0 H → w_M_stat_102 t a0 K n x0 x1 G → w_M_stat_102 t a0 K' n x0 x1 H := fun _ _ G H e c h => ih e c h
    unfold w_M_stat_102 at h ⊢
    have z1 := eM.simp e
    try simp (disch := omega) only [z1]
    try dsimp only at h ⊢
    refine and_lift h (fun h => ?_)
    refine f_M_at e (fun v1 h => ?_) h
    refine ite_lift h (fun h => ?_) (fun h => ?_)
    · try simp (disch := omega) only [z1]
      refine f_M_at e (fun v2 h => ?_) h
      refine f_M_nameOf e (fun v3 h => ?_) h
      refine f_M_say e (fun G4 H4 e2 c3 h => ?_) h
      have c3 := (c).tr c3
      have z4 := eM.simp e2
      try simp (disch := omega) only [z4]
      refine f_M_at e2 (fun v5 h => ?_) h
      refine f_M_nameOf e2 (fun v6 h => ?_) h
      refine f_M_say e2 (fun G7 H7 e5 c6 h => ?_) h
      have c6 := (c3).tr c6
      have z7 := eM.simp e5
      try simp (disch := omega) only [z7]
      refine f_M_at e5 (fun v8 h => ?_) h
      refine f_M_nameOf e5 (fun v9 h => ?_) h
      refine f_M_say e5 (fun G10 H10 e8 c9 h => ?_) h
      have c9 := (c6).tr c9
      have z10 := eM.simp e8
      try simp (disch := omega) only [z10]
      exact hk _ _ e8 c9 h
    · try simp (disch := omega) only [z1]
      refine f_M_at e (fun v11 h => ?_) h
      refine f_M_put e (fun G12 H12 e11 c12 h => ?_) h
      have c12 := (c).tr c12
      have z13 := eM.simp e11
      try simp (disch := omega) only [z13]
      refine bind_lift h (fun v13 h => ?_)
      exact hr102 _ _ _ _ e11 c12 h
set_option maxHeartbeats 4000000 in
theorem f_M_stat_82 {t : TY} {a0 : Nat} {G H H0 : GS} {K K' : GS → Prop} (e : eM a0 G H) (c : cM a0 H0 H) (hk : ∀ (G' H' : GS), eM a0 G' H' → cM a0 H0 H' → K G' → K' H') {l1 : Int32} {s0 : Option Nat} {s1 : Int64} (hs0 : s0 = some a0) (h : w_M_stat_82 t a0 K l1 s0 s1 G) : w_M_stat_82 t a0 K' l1 s0 s1 H := by
  unfold w_M_stat_82 at h ⊢
  have z1 := eM.simp e
  try simp (disch := omega) only [z1]
  refine ex_lift h (fun a1 q2 h => ?_)
  have z3 : a0 = a1 := Option.some.inj (hs0.symm.trans q2)
  subst z3
  refine and_lift h (fun h => ?_)
  refine f_M_put e (fun G2 H2 e4 c5 h => ?_) h
  have c5 := (c).tr c5
  have z6 := eM.simp e4
  try simp (disch := omega) only [z6]
  refine and_lift h (fun h => ?_)
  refine f_M_at e4 (fun v3 h => ?_) h
  refine f_M_put e4 (fun G4 H4 e7 c8 h => ?_) h
  have c8 := (c5).tr c8
  have z9 := eM.simp e7
  try simp (disch := omega) only [z9]
  obtain ⟨n, h⟩ := h
  refine ⟨n, ?_⟩
  exact f_M_stat_102 e7 c8 hk _  h
set_option maxHeartbeats 4000000 in
theorem f_M_stat {t : TY} {a0 : Nat} {G H : GS} {K K' : GS → Prop} (e : eM a0 G H) (hk : ∀ (G' H' : GS), eM a0 G' H' → cM a0 H H' → K G' → K' H') {p1 : Int32} (h : w_M_stat t G a0 p1 K) : w_M_stat t H a0 p1 K' := by
  obtain ⟨H0, eH0⟩ : ∃ z, z = H := ⟨_, rfl⟩
  have c : cM a0 H0 H := by rw [eH0]; exact cM.rf
  have hk : ∀ (G' H' : GS), eM a0 G' H' → cM a0 H0 H' → K G' → K' H' := by rw [eH0]; exact hk
  unfold w_M_stat at h ⊢
  have z1 := eM.simp e
  try simp (disch := omega) only [z1]
  refine and_lift h (fun h => ?_)
  refine f_M_statSize e (fun v1 h => ?_) h
  refine f_M_put e (fun G2 H2 e2 c3 h => ?_) h
  have c3 := (c).tr c3
  have z4 := eM.simp e2
  try simp (disch := omega) only [z4]
  refine f_M_put e2 (fun G3 H3 e5 c6 h => ?_) h
  have c6 := (c3).tr c6
  have z7 := eM.simp e5
  try simp (disch := omega) only [z7]
  refine f_M_qid e5 (fun G4 H4 e8 c9 h => ?_) h
  have c9 := (c6).tr c9
  have z10 := eM.simp e8
  try simp (disch := omega) only [z10]
  refine f_M_at e8 (fun v5 h => ?_) h
  refine f_M_put e8 (fun G6 H6 e11 c12 h => ?_) h
  have c12 := (c9).tr c12
  have z13 := eM.simp e11
  try simp (disch := omega) only [z13]
  refine f_M_at e11 (fun v7 h => ?_) h
  refine f_M_put e11 (fun G8 H8 e14 c15 h => ?_) h
  have c15 := (c12).tr c15
  have z16 := eM.simp e14
  try simp (disch := omega) only [z16]
  refine f_M_at e14 (fun v9 h => ?_) h
  refine f_M_put e14 (fun G10 H10 e17 c18 h => ?_) h
  have c18 := (c15).tr c18
  have z19 := eM.simp e17
  try simp (disch := omega) only [z19]
  refine f_M_isDirectory e17 (fun v11 h => ?_) h
  refine ite_lift h (fun h => ?_) (fun h => ?_)
  · try simp (disch := omega) only [z19]
    refine f_M_at e17 (fun v12 h => ?_) h
    exact f_M_stat_82 e17 c18 hk  rfl h
  · try simp (disch := omega) only [z19]
    exact f_M_stat_82 e17 c18 hk  rfl h
set_option maxHeartbeats 4000000 in
theorem f_M_fid_6 {t : TY} {a0 : Nat} {G H : GS} {K K' : Int32 → Prop} (e : eM a0 G H) (hk : ∀ v : Int32, K v → K' v) : ∀ (n : Nat) {l1 : Int32} {l2 : Int64} {l4 : Int32}, w_M_fid_6 t G a0 K n l1 l2 l4 → w_M_fid_6 t H a0 K' n l1 l2 l4 := by
  intro n
  induction n with
  | zero => intro l1 l2 l4 h; exact h.elim
  | succ n ih =>
    intro l1 l2 l4 h
    have hr6 : ∀ (x0 : Int32) (x1 : Int64) (x2 : Int32), w_M_fid_6 t G a0 K n x0 x1 x2 → w_M_fid_6 t H a0 K' n x0 x1 x2 := fun _ _ _ h => ih h
    unfold w_M_fid_6 at h ⊢
    have z1 := eM.simp e
    try simp (disch := omega) only [z1]
    try dsimp only at h ⊢
    refine ite_lift h (fun h => ?_) (fun h => ?_)
    · try simp (disch := omega) only [z1]
      exact hk _ h
    · try simp (disch := omega) only [z1]
      refine and_lift h (fun h => ?_)
      refine ex_lift h (fun a1 q2 h => ?_)
      try simp only [((e).2 86 a1 (by omega) q2).1, ((e).2 86 a1 (by omega) q2).2]
      refine and_lift h (fun h => ?_)
      refine and_lift h (fun h => ?_)
      refine ite_lift h (fun h => ?_) (fun h => ?_)
      · try simp (disch := omega) only [z1]
        try simp only [((e).2 86 a1 (by omega) q2).1, ((e).2 86 a1 (by omega) q2).2]
        refine bind_lift h (fun v2 h => ?_)
        exact hr6 _ _ _ h
      · try simp (disch := omega) only [z1]
        try simp only [((e).2 86 a1 (by omega) q2).1, ((e).2 86 a1 (by omega) q2).2]
        refine ex_lift h (fun a3 q3 h => ?_)
        try simp only [((e).2 87 a3 (by omega) q3).1, ((e).2 87 a3 (by omega) q3).2]
        refine and_lift h (fun h => ?_)
        refine and_lift h (fun h => ?_)
        refine ite_lift h (fun h => ?_) (fun h => ?_)
        · try simp (disch := omega) only [z1]
          try simp only [((e).2 86 a1 (by omega) q2).1, ((e).2 86 a1 (by omega) q2).2, ((e).2 87 a3 (by omega) q3).1, ((e).2 87 a3 (by omega) q3).2]
          refine bind_lift h (fun v4 h => ?_)
          exact hr6 _ _ _ h
        · try simp (disch := omega) only [z1]
          try simp only [((e).2 86 a1 (by omega) q2).1, ((e).2 86 a1 (by omega) q2).2, ((e).2 87 a3 (by omega) q3).1, ((e).2 87 a3 (by omega) q3).2]
          exact hk _ h
set_option maxHeartbeats 4000000 in
theorem f_M_fid {t : TY} {a0 : Nat} {G H : GS} {K K' : Int32 → Prop} (e : eM a0 G H) (hk : ∀ v : Int32, K v → K' v) {p1 : Int32} {p2 : Int64} (h : w_M_fid t G a0 p1 p2 K) : w_M_fid t H a0 p1 p2 K' := by
  skip
  skip
  skip
  unfold w_M_fid at h ⊢
  have z1 := eM.simp e
  try simp (disch := omega) only [z1]
  refine bind_lift h (fun v1 h => ?_)
  obtain ⟨n, h⟩ := h
  refine ⟨n, ?_⟩
  exact f_M_fid_6 e hk _  h
set_option maxHeartbeats 4000000 in
theorem f_M_many_34 {t : TY} {a0 : Nat} {G H : GS} {K K' : Int32 → Prop} {r7 R7 : Int32 → Int32 → Int32 → Prop} (e : eM a0 G H) (hk : ∀ v : Int32, K v → K' v) (hr7 : ∀ (x0 : Int32) (x1 : Int32) (x2 : Int32), r7 x0 x1 x2 → R7 x0 x1 x2) {l1 : Int32} {l3 : Int32} {s0 : Int32} (h : w_M_many_34 t G a0 K r7 l1 l3 s0) : w_M_many_34 t H a0 K' R7 l1 l3 s0 := by
  unfold w_M_many_34 at h ⊢
  have z1 := eM.simp e
  try simp (disch := omega) only [z1]
  refine bind_lift h (fun v1 h => ?_)
  exact hr7 _ _ _ h
set_option maxHeartbeats 4000000 in
theorem f_M_many_7 {t : TY} {a0 : Nat} {G H : GS} {K K' : Int32 → Prop} (e : eM a0 G H) (hk : ∀ v : Int32, K v → K' v) : ∀ (n : Nat) {l1 : Int32} {l2 : Int32} {l3 : Int32}, w_M_many_7 t G a0 K n l1 l2 l3 → w_M_many_7 t H a0 K' n l1 l2 l3 := by
  intro n
  induction n with
  | zero => intro l1 l2 l3 h; exact h.elim
  | succ n ih =>
    intro l1 l2 l3 h
    have hr7 : ∀ (x0 : Int32) (x1 : Int32) (x2 : Int32), w_M_many_7 t G a0 K n x0 x1 x2 → w_M_many_7 t H a0 K' n x0 x1 x2 := fun _ _ _ h => ih h
    unfold w_M_many_7 at h ⊢
    have z1 := eM.simp e
    try simp (disch := omega) only [z1]
    try dsimp only at h ⊢
    refine ite_lift h (fun h => ?_) (fun h => ?_)
    · try simp (disch := omega) only [z1]
      exact hk _ h
    · try simp (disch := omega) only [z1]
      refine and_lift h (fun h => ?_)
      refine ex_lift h (fun a1 q2 h => ?_)
      try simp only [((e).2 86 a1 (by omega) q2).1, ((e).2 86 a1 (by omega) q2).2]
      refine and_lift h (fun h => ?_)
      refine and_lift h (fun h => ?_)
      refine ite_lift h (fun h => ?_) (fun h => ?_)
      · try simp (disch := omega) only [z1]
        try simp only [((e).2 86 a1 (by omega) q2).1, ((e).2 86 a1 (by omega) q2).2]
        exact f_M_many_34 e hk hr7  h
      · try simp (disch := omega) only [z1]
        try simp only [((e).2 86 a1 (by omega) q2).1, ((e).2 86 a1 (by omega) q2).2]
        exact f_M_many_34 e hk hr7  h
set_option maxHeartbeats 4000000 in
theorem f_M_many {t : TY} {a0 : Nat} {G H : GS} {K K' : Int32 → Prop} (e : eM a0 G H) (hk : ∀ v : Int32, K v → K' v) {p1 : Int32} (h : w_M_many t G a0 p1 K) : w_M_many t H a0 p1 K' := by
  skip
  skip
  skip
  unfold w_M_many at h ⊢
  have z1 := eM.simp e
  try simp (disch := omega) only [z1]
  refine bind_lift h (fun v1 h => ?_)
  obtain ⟨n, h⟩ := h
  refine ⟨n, ?_⟩
  exact f_M_many_7 e hk _  h
set_option maxHeartbeats 4000000 in
theorem f_M_point {t : TY} {a0 : Nat} {G H : GS} {K K' : GS → Prop} (e : eM a0 G H) (hk : ∀ (G' H' : GS), eM a0 G' H' → cM a0 H H' → K G' → K' H') {p1 : Int32} {p2 : Int32} {p3 : Int32} (h : w_M_point t G a0 p1 p2 p3 K) : w_M_point t H a0 p1 p2 p3 K' := by
  obtain ⟨H0, eH0⟩ : ∃ z, z = H := ⟨_, rfl⟩
  have c : cM a0 H0 H := by rw [eH0]; exact cM.rf
  have hk : ∀ (G' H' : GS), eM a0 G' H' → cM a0 H0 H' → K G' → K' H' := by rw [eH0]; exact hk
  unfold w_M_point at h ⊢
  have z1 := eM.simp e
  try simp (disch := omega) only [z1]
  refine and_lift h (fun h => ?_)
  refine f_M_at e (fun v1 h => ?_) h
  refine ex_lift h (fun a2 q2 h => ?_)
  try simp only [((e).2 88 a2 (by omega) q2).1, ((e).2 88 a2 (by omega) q2).2]
  refine and_lift h (fun h => ?_)
  refine and_lift h (fun h => ?_)
  refine all_lift h (fun H3 eH3 h => ?_)
  obtain ⟨G3, eG3⟩ : ∃ z, z = ais G a2 p1.toNatClampNeg v1 := ⟨_, rfl⟩
  rw [← eG3] at h
  have e3 : eM a0 G3 H3 := by rw [eG3, eH3]; exact eM.ais e
  have c4 : cM a0 H0 H3 := by rw [eH3]; exact cM.ais c ⟨88, by omega, (((e).1 88 (by omega)).2.2).trans q2⟩
  have kG3 : ∀ f a, ((70 ≤ f ∧ f ≤ 72) ∨ (79 ≤ f ∧ f ≤ 94) ∨ f = 96) → gr G f a0 = some a → gr G3 f a0 = some a := by intro f a _ z; rw [eG3]; exact z
  have q5 := kG3 88 a2 (by omega) q2
  have z6 := eM.simp e3
  try simp (disch := omega) only [z6]
  try simp only [((e3).2 88 a2 (by omega) q5).1, ((e3).2 88 a2 (by omega) q5).2]
  refine ex_lift h (fun a4 q7 h => ?_)
  try simp only [((e3).2 89 a4 (by omega) q7).1, ((e3).2 89 a4 (by omega) q7).2]
  refine and_lift h (fun h => ?_)
  refine and_lift h (fun h => ?_)
  refine all_lift h (fun H5 eH5 h => ?_)
  obtain ⟨G5, eG5⟩ : ∃ z, z = ais G3 a4 p1.toNatClampNeg p3 := ⟨_, rfl⟩
  rw [← eG5] at h
  have e8 : eM a0 G5 H5 := by rw [eG5, eH5]; exact eM.ais e3
  have c9 : cM a0 H0 H5 := by rw [eH5]; exact cM.ais c4 ⟨89, by omega, (((e3).1 89 (by omega)).2.2).trans q7⟩
  have kG5 : ∀ f a, ((70 ≤ f ∧ f ≤ 72) ∨ (79 ≤ f ∧ f ≤ 94) ∨ f = 96) → gr G3 f a0 = some a → gr G5 f a0 = some a := by intro f a _ z; rw [eG5]; exact z
  have q10 := kG5 88 a2 (by omega) q5
  have q11 := kG5 89 a4 (by omega) q7
  have z12 := eM.simp e8
  try simp (disch := omega) only [z12]
  try simp only [((e8).2 88 a2 (by omega) q10).1, ((e8).2 88 a2 (by omega) q10).2, ((e8).2 89 a4 (by omega) q11).1, ((e8).2 89 a4 (by omega) q11).2]
  refine ex_lift h (fun a6 q13 h => ?_)
  try simp only [((e8).2 90 a6 (by omega) q13).1, ((e8).2 90 a6 (by omega) q13).2]
  refine and_lift h (fun h => ?_)
  refine and_lift h (fun h => ?_)
  refine all_lift h (fun H7 eH7 h => ?_)
  obtain ⟨G7, eG7⟩ : ∃ z, z = ais G5 a6 p1.toNatClampNeg (-1 : Int32) := ⟨_, rfl⟩
  rw [← eG7] at h
  have e14 : eM a0 G7 H7 := by rw [eG7, eH7]; exact eM.ais e8
  have c15 : cM a0 H0 H7 := by rw [eH7]; exact cM.ais c9 ⟨90, by omega, (((e8).1 90 (by omega)).2.2).trans q13⟩
  have kG7 : ∀ f a, ((70 ≤ f ∧ f ≤ 72) ∨ (79 ≤ f ∧ f ≤ 94) ∨ f = 96) → gr G5 f a0 = some a → gr G7 f a0 = some a := by intro f a _ z; rw [eG7]; exact z
  have q16 := kG7 88 a2 (by omega) q10
  have q17 := kG7 89 a4 (by omega) q11
  have q18 := kG7 90 a6 (by omega) q13
  have z19 := eM.simp e14
  try simp (disch := omega) only [z19]
  try simp only [((e14).2 88 a2 (by omega) q16).1, ((e14).2 88 a2 (by omega) q16).2, ((e14).2 89 a4 (by omega) q17).1, ((e14).2 89 a4 (by omega) q17).2, ((e14).2 90 a6 (by omega) q18).1, ((e14).2 90 a6 (by omega) q18).2]
  refine ex_lift h (fun a8 q20 h => ?_)
  try simp only [((e14).2 91 a8 (by omega) q20).1, ((e14).2 91 a8 (by omega) q20).2]
  refine and_lift h (fun h => ?_)
  refine and_lift h (fun h => ?_)
  refine all_lift h (fun H9 eH9 h => ?_)
  obtain ⟨G9, eG9⟩ : ∃ z, z = ais G7 a8 p1.toNatClampNeg (vp_nar .boolean (0 : Int32)) := ⟨_, rfl⟩
  rw [← eG9] at h
  have e21 : eM a0 G9 H9 := by rw [eG9, eH9]; exact eM.ais e14
  have c22 : cM a0 H0 H9 := by rw [eH9]; exact cM.ais c15 ⟨91, by omega, (((e14).1 91 (by omega)).2.2).trans q20⟩
  have kG9 : ∀ f a, ((70 ≤ f ∧ f ≤ 72) ∨ (79 ≤ f ∧ f ≤ 94) ∨ f = 96) → gr G7 f a0 = some a → gr G9 f a0 = some a := by intro f a _ z; rw [eG9]; exact z
  have q23 := kG9 88 a2 (by omega) q16
  have q24 := kG9 89 a4 (by omega) q17
  have q25 := kG9 90 a6 (by omega) q18
  have q26 := kG9 91 a8 (by omega) q20
  have z27 := eM.simp e21
  try simp (disch := omega) only [z27]
  try simp only [((e21).2 88 a2 (by omega) q23).1, ((e21).2 88 a2 (by omega) q23).2, ((e21).2 89 a4 (by omega) q24).1, ((e21).2 89 a4 (by omega) q24).2, ((e21).2 90 a6 (by omega) q25).1, ((e21).2 90 a6 (by omega) q25).2, ((e21).2 91 a8 (by omega) q26).1, ((e21).2 91 a8 (by omega) q26).2]
  refine ex_lift h (fun a10 q28 h => ?_)
  try simp only [((e21).2 92 a10 (by omega) q28).1, ((e21).2 92 a10 (by omega) q28).2]
  refine and_lift h (fun h => ?_)
  refine and_lift h (fun h => ?_)
  refine all_lift h (fun H11 eH11 h => ?_)
  obtain ⟨G11, eG11⟩ : ∃ z, z = als G9 a10 p1.toNatClampNeg (0 : Int64) := ⟨_, rfl⟩
  rw [← eG11] at h
  have e29 : eM a0 G11 H11 := by rw [eG11, eH11]; exact eM.als e21
  have c30 : cM a0 H0 H11 := by rw [eH11]; exact cM.als c22 ⟨92, by omega, (((e21).1 92 (by omega)).2.2).trans q28⟩
  have kG11 : ∀ f a, ((70 ≤ f ∧ f ≤ 72) ∨ (79 ≤ f ∧ f ≤ 94) ∨ f = 96) → gr G9 f a0 = some a → gr G11 f a0 = some a := by intro f a _ z; rw [eG11]; exact z
  have q31 := kG11 88 a2 (by omega) q23
  have q32 := kG11 89 a4 (by omega) q24
  have q33 := kG11 90 a6 (by omega) q25
  have q34 := kG11 91 a8 (by omega) q26
  have q35 := kG11 92 a10 (by omega) q28
  have z36 := eM.simp e29
  try simp (disch := omega) only [z36]
  try simp only [((e29).2 88 a2 (by omega) q31).1, ((e29).2 88 a2 (by omega) q31).2, ((e29).2 89 a4 (by omega) q32).1, ((e29).2 89 a4 (by omega) q32).2, ((e29).2 90 a6 (by omega) q33).1, ((e29).2 90 a6 (by omega) q33).2, ((e29).2 91 a8 (by omega) q34).1, ((e29).2 91 a8 (by omega) q34).2, ((e29).2 92 a10 (by omega) q35).1, ((e29).2 92 a10 (by omega) q35).2]
  refine ex_lift h (fun a12 q37 h => ?_)
  try simp only [((e29).2 93 a12 (by omega) q37).1, ((e29).2 93 a12 (by omega) q37).2]
  refine and_lift h (fun h => ?_)
  refine and_lift h (fun h => ?_)
  refine all_lift h (fun H13 eH13 h => ?_)
  obtain ⟨G13, eG13⟩ : ∃ z, z = ais G11 a12 p1.toNatClampNeg (0 : Int32) := ⟨_, rfl⟩
  rw [← eG13] at h
  have e38 : eM a0 G13 H13 := by rw [eG13, eH13]; exact eM.ais e29
  have c39 : cM a0 H0 H13 := by rw [eH13]; exact cM.ais c30 ⟨93, by omega, (((e29).1 93 (by omega)).2.2).trans q37⟩
  have kG13 : ∀ f a, ((70 ≤ f ∧ f ≤ 72) ∨ (79 ≤ f ∧ f ≤ 94) ∨ f = 96) → gr G11 f a0 = some a → gr G13 f a0 = some a := by intro f a _ z; rw [eG13]; exact z
  have q40 := kG13 88 a2 (by omega) q31
  have q41 := kG13 89 a4 (by omega) q32
  have q42 := kG13 90 a6 (by omega) q33
  have q43 := kG13 91 a8 (by omega) q34
  have q44 := kG13 92 a10 (by omega) q35
  have q45 := kG13 93 a12 (by omega) q37
  have z46 := eM.simp e38
  try simp (disch := omega) only [z46]
  try simp only [((e38).2 88 a2 (by omega) q40).1, ((e38).2 88 a2 (by omega) q40).2, ((e38).2 89 a4 (by omega) q41).1, ((e38).2 89 a4 (by omega) q41).2, ((e38).2 90 a6 (by omega) q42).1, ((e38).2 90 a6 (by omega) q42).2, ((e38).2 91 a8 (by omega) q43).1, ((e38).2 91 a8 (by omega) q43).2, ((e38).2 92 a10 (by omega) q44).1, ((e38).2 92 a10 (by omega) q44).2, ((e38).2 93 a12 (by omega) q45).1, ((e38).2 93 a12 (by omega) q45).2]
  exact hk _ _ e38 c39 h
set_option maxHeartbeats 4000000 in
theorem f_M_make_6 {t : TY} {a0 : Nat} {G H H0 : GS} {K K' : GS → Prop} (e : eM a0 G H) (c : cM a0 H0 H) (hk : ∀ (G' H' : GS), eM a0 G' H' → cM a0 H0 H' → K G' → K' H') : ∀ (n : Nat) {l2 : Int64} {l4 : Int32} {l5 : Int32} {l6 : Int32}, w_M_make_6 t a0 K n l2 l4 l5 l6 G → w_M_make_6 t a0 K' n l2 l4 l5 l6 H := by
  intro n
  induction n generalizing G H with
  | zero => intro l2 l4 l5 l6 h; exact h.elim
  | succ n ih =>
    intro l2 l4 l5 l6 h
    have hr6 : ∀ (x0 : Int64) (x1 : Int32) (x2 : Int32) (x3 : Int32) (G H : GS), eM a0 G H → cM a0 H0 H → w_M_make_6 t a0 K n x0 x1 x2 x3 G → w_M_make_6 t a0 K' n x0 x1 x2 x3 H := fun _ _ _ _ G H e c h => ih e c h
    unfold w_M_make_6 at h ⊢
    have z1 := eM.simp e
    try simp (disch := omega) only [z1]
    try dsimp only at h ⊢
    refine and_lift h (fun h => ?_)
    refine ex_lift h (fun a1 q2 h => ?_)
    try simp only [((e).2 86 a1 (by omega) q2).1, ((e).2 86 a1 (by omega) q2).2]
    refine and_lift h (fun h => ?_)
    refine and_lift h (fun h => ?_)
    refine ite_lift h (fun h => ?_) (fun h => ?_)
    · try simp (disch := omega) only [z1]
      try simp only [((e).2 86 a1 (by omega) q2).1, ((e).2 86 a1 (by omega) q2).2]
      refine all_lift h (fun H2 eH2 h => ?_)
      obtain ⟨G2, eG2⟩ : ∃ z, z = ais G a1 l6.toNatClampNeg (vp_nar .boolean (1 : Int32)) := ⟨_, rfl⟩
      rw [← eG2] at h
      have e3 : eM a0 G2 H2 := by rw [eG2, eH2]; exact eM.ais e
      have c4 : cM a0 H0 H2 := by rw [eH2]; exact cM.ais c ⟨86, by omega, (((e).1 86 (by omega)).2.2).trans q2⟩
      have kG2 : ∀ f a, ((70 ≤ f ∧ f ≤ 72) ∨ (79 ≤ f ∧ f ≤ 94) ∨ f = 96) → gr G f a0 = some a → gr G2 f a0 = some a := by intro f a _ z; rw [eG2]; exact z
      have q5 := kG2 86 a1 (by omega) q2
      have z6 := eM.simp e3
      try simp (disch := omega) only [z6]
      try simp only [((e3).2 86 a1 (by omega) q5).1, ((e3).2 86 a1 (by omega) q5).2]
      refine ex_lift h (fun a3 q7 h => ?_)
      try simp only [((e3).2 87 a3 (by omega) q7).1, ((e3).2 87 a3 (by omega) q7).2]
      refine and_lift h (fun h => ?_)
      refine and_lift h (fun h => ?_)
      refine all_lift h (fun H4 eH4 h => ?_)
      obtain ⟨G4, eG4⟩ : ∃ z, z = als G2 a3 l6.toNatClampNeg l2 := ⟨_, rfl⟩
      rw [← eG4] at h
      have e8 : eM a0 G4 H4 := by rw [eG4, eH4]; exact eM.als e3
      have c9 : cM a0 H0 H4 := by rw [eH4]; exact cM.als c4 ⟨87, by omega, (((e3).1 87 (by omega)).2.2).trans q7⟩
      have kG4 : ∀ f a, ((70 ≤ f ∧ f ≤ 72) ∨ (79 ≤ f ∧ f ≤ 94) ∨ f = 96) → gr G2 f a0 = some a → gr G4 f a0 = some a := by intro f a _ z; rw [eG4]; exact z
      have q10 := kG4 86 a1 (by omega) q5
      have q11 := kG4 87 a3 (by omega) q7
      have z12 := eM.simp e8
      try simp (disch := omega) only [z12]
      try simp only [((e8).2 86 a1 (by omega) q10).1, ((e8).2 86 a1 (by omega) q10).2, ((e8).2 87 a3 (by omega) q11).1, ((e8).2 87 a3 (by omega) q11).2]
      refine f_M_point e8 (fun G5 H5 e13 c14 h => ?_) h
      have c14 := (c9).tr c14
      have z15 := eM.simp e13
      try simp (disch := omega) only [z15]
      exact hk _ _ e13 c14 h
    · try simp (disch := omega) only [z1]
      try simp only [((e).2 86 a1 (by omega) q2).1, ((e).2 86 a1 (by omega) q2).2]
      refine bind_lift h (fun v6 h => ?_)
      exact hr6 _ _ _ _ _ _ e c h
set_option maxHeartbeats 4000000 in
theorem f_M_make {t : TY} {a0 : Nat} {G H : GS} {K K' : GS → Prop} (e : eM a0 G H) (hk : ∀ (G' H' : GS), eM a0 G' H' → cM a0 H H' → K G' → K' H') {p1 : Int32} {p2 : Int64} {p4 : Int32} {p5 : Int32} (h : w_M_make t G a0 p1 p2 p4 p5 K) : w_M_make t H a0 p1 p2 p4 p5 K' := by
  obtain ⟨H0, eH0⟩ : ∃ z, z = H := ⟨_, rfl⟩
  have c : cM a0 H0 H := by rw [eH0]; exact cM.rf
  have hk : ∀ (G' H' : GS), eM a0 G' H' → cM a0 H0 H' → K G' → K' H' := by rw [eH0]; exact hk
  unfold w_M_make at h ⊢
  have z1 := eM.simp e
  try simp (disch := omega) only [z1]
  refine bind_lift h (fun v1 h => ?_)
  obtain ⟨n, h⟩ := h
  refine ⟨n, ?_⟩
  exact f_M_make_6 e c hk _  h
set_option maxHeartbeats 4000000 in
theorem f_M_open_26 {t : TY} {a0 : Nat} {G H H0 : GS} {K K' : GS → Prop} (e : eM a0 G H) (c : cM a0 H0 H) (hk : ∀ (G' H' : GS), eM a0 G' H' → cM a0 H0 H' → K G' → K' H') {l1 : Int32} {s0 : Option Nat} {s1 : Int32} {s2 : Int32} (hs0 : ∃ f, ((70 ≤ f ∧ f ≤ 72) ∨ (79 ≤ f ∧ f ≤ 94) ∨ f = 96) ∧ s0 = gr G f a0) (h : w_M_open_26 t a0 K l1 s0 s1 s2 G) : w_M_open_26 t a0 K' l1 s0 s1 s2 H := by
  unfold w_M_open_26 at h ⊢
  have z1 := eM.simp e
  try simp (disch := omega) only [z1]
  refine ex_lift h (fun a1 q2 h => ?_)
  obtain ⟨f3, hf3, ef3⟩ := hs0
  have q4 := ef3.symm.trans q2
  try simp only [((e).2 f3 a1 (by omega) q4).1, ((e).2 f3 a1 (by omega) q4).2]
  refine and_lift h (fun h => ?_)
  refine and_lift h (fun h => ?_)
  refine all_lift h (fun H2 eH2 h => ?_)
  obtain ⟨G2, eG2⟩ : ∃ z, z = ais G a1 s1.toNatClampNeg (vp_nar .boolean s2) := ⟨_, rfl⟩
  rw [← eG2] at h
  have e5 : eM a0 G2 H2 := by rw [eG2, eH2]; exact eM.ais e
  have c6 : cM a0 H0 H2 := by rw [eH2]; exact cM.ais c ⟨f3, by omega, (((e).1 f3 (by omega)).2.2).trans q4⟩
  have kG2 : ∀ f a, ((70 ≤ f ∧ f ≤ 72) ∨ (79 ≤ f ∧ f ≤ 94) ∨ f = 96) → gr G f a0 = some a → gr G2 f a0 = some a := by intro f a _ z; rw [eG2]; exact z
  have q7 := kG2 f3 a1 (by omega) q4
  have z8 := eM.simp e5
  try simp (disch := omega) only [z8]
  try simp only [((e5).2 f3 a1 (by omega) q7).1, ((e5).2 f3 a1 (by omega) q7).2]
  refine and_lift h (fun h => ?_)
  refine ex_lift h (fun a3 q9 h => ?_)
  try simp only [((e5).2 92 a3 (by omega) q9).1, ((e5).2 92 a3 (by omega) q9).2]
  refine and_lift h (fun h => ?_)
  refine and_lift h (fun h => ?_)
  refine all_lift h (fun H4 eH4 h => ?_)
  obtain ⟨G4, eG4⟩ : ∃ z, z = als G2 a3 l1.toNatClampNeg (0 : Int64) := ⟨_, rfl⟩
  rw [← eG4] at h
  have e10 : eM a0 G4 H4 := by rw [eG4, eH4]; exact eM.als e5
  have c11 : cM a0 H0 H4 := by rw [eH4]; exact cM.als c6 ⟨92, by omega, (((e5).1 92 (by omega)).2.2).trans q9⟩
  have kG4 : ∀ f a, ((70 ≤ f ∧ f ≤ 72) ∨ (79 ≤ f ∧ f ≤ 94) ∨ f = 96) → gr G2 f a0 = some a → gr G4 f a0 = some a := by intro f a _ z; rw [eG4]; exact z
  have q12 := kG4 f3 a1 (by omega) q7
  have q13 := kG4 92 a3 (by omega) q9
  have z14 := eM.simp e10
  try simp (disch := omega) only [z14]
  try simp only [((e10).2 f3 a1 (by omega) q12).1, ((e10).2 f3 a1 (by omega) q12).2, ((e10).2 92 a3 (by omega) q13).1, ((e10).2 92 a3 (by omega) q13).2]
  refine ex_lift h (fun a5 q15 h => ?_)
  try simp only [((e10).2 93 a5 (by omega) q15).1, ((e10).2 93 a5 (by omega) q15).2]
  refine and_lift h (fun h => ?_)
  refine and_lift h (fun h => ?_)
  refine all_lift h (fun H6 eH6 h => ?_)
  obtain ⟨G6, eG6⟩ : ∃ z, z = ais G4 a5 l1.toNatClampNeg (0 : Int32) := ⟨_, rfl⟩
  rw [← eG6] at h
  have e16 : eM a0 G6 H6 := by rw [eG6, eH6]; exact eM.ais e10
  have c17 : cM a0 H0 H6 := by rw [eH6]; exact cM.ais c11 ⟨93, by omega, (((e10).1 93 (by omega)).2.2).trans q15⟩
  have kG6 : ∀ f a, ((70 ≤ f ∧ f ≤ 72) ∨ (79 ≤ f ∧ f ≤ 94) ∨ f = 96) → gr G4 f a0 = some a → gr G6 f a0 = some a := by intro f a _ z; rw [eG6]; exact z
  have q18 := kG6 f3 a1 (by omega) q12
  have q19 := kG6 92 a3 (by omega) q13
  have q20 := kG6 93 a5 (by omega) q15
  have z21 := eM.simp e16
  try simp (disch := omega) only [z21]
  try simp only [((e16).2 f3 a1 (by omega) q18).1, ((e16).2 f3 a1 (by omega) q18).2, ((e16).2 92 a3 (by omega) q19).1, ((e16).2 92 a3 (by omega) q19).2, ((e16).2 93 a5 (by omega) q20).1, ((e16).2 93 a5 (by omega) q20).2]
  exact hk _ _ e16 c17 h
set_option maxHeartbeats 4000000 in
theorem f_M_open {t : TY} {a0 : Nat} {G H : GS} {K K' : GS → Prop} (e : eM a0 G H) (hk : ∀ (G' H' : GS), eM a0 G' H' → cM a0 H H' → K G' → K' H') {p1 : Int32} {p2 : Int32} (h : w_M_open t G a0 p1 p2 K) : w_M_open t H a0 p1 p2 K' := by
  obtain ⟨H0, eH0⟩ : ∃ z, z = H := ⟨_, rfl⟩
  have c : cM a0 H0 H := by rw [eH0]; exact cM.rf
  have hk : ∀ (G' H' : GS), eM a0 G' H' → cM a0 H0 H' → K G' → K' H' := by rw [eH0]; exact hk
  unfold w_M_open at h ⊢
  have z1 := eM.simp e
  try simp (disch := omega) only [z1]
  refine and_lift h (fun h => ?_)
  refine ex_lift h (fun a1 q2 h => ?_)
  try simp only [((e).2 90 a1 (by omega) q2).1, ((e).2 90 a1 (by omega) q2).2]
  refine and_lift h (fun h => ?_)
  refine and_lift h (fun h => ?_)
  refine all_lift h (fun H2 eH2 h => ?_)
  obtain ⟨G2, eG2⟩ : ∃ z, z = ais G a1 p1.toNatClampNeg (p2 &&& (3 : Int32)) := ⟨_, rfl⟩
  rw [← eG2] at h
  have e3 : eM a0 G2 H2 := by rw [eG2, eH2]; exact eM.ais e
  have c4 : cM a0 H0 H2 := by rw [eH2]; exact cM.ais c ⟨90, by omega, (((e).1 90 (by omega)).2.2).trans q2⟩
  have kG2 : ∀ f a, ((70 ≤ f ∧ f ≤ 72) ∨ (79 ≤ f ∧ f ≤ 94) ∨ f = 96) → gr G f a0 = some a → gr G2 f a0 = some a := by intro f a _ z; rw [eG2]; exact z
  have q5 := kG2 90 a1 (by omega) q2
  have z6 := eM.simp e3
  try simp (disch := omega) only [z6]
  try simp only [((e3).2 90 a1 (by omega) q5).1, ((e3).2 90 a1 (by omega) q5).2]
  refine ite_lift h (fun h => ?_) (fun h => ?_)
  · try simp (disch := omega) only [z6]
    try simp only [((e3).2 90 a1 (by omega) q5).1, ((e3).2 90 a1 (by omega) q5).2]
    exact f_M_open_26 e3 c4 hk  ⟨91, by omega, rfl⟩ h
  · try simp (disch := omega) only [z6]
    try simp only [((e3).2 90 a1 (by omega) q5).1, ((e3).2 90 a1 (by omega) q5).2]
    exact f_M_open_26 e3 c4 hk  ⟨91, by omega, rfl⟩ h
set_option maxHeartbeats 4000000 in
theorem f_M_release_48 {t : TY} {a0 : Nat} {G H H0 : GS} {K K' : GS → Prop} (e : eM a0 G H) (c : cM a0 H0 H) (hk : ∀ (G' H' : GS), eM a0 G' H' → cM a0 H0 H' → K G' → K' H') {l1 : Int32} {l2 : Int32} (h : w_M_release_48 t a0 K l1 l2 G) : w_M_release_48 t a0 K' l1 l2 H := by
  unfold w_M_release_48 at h ⊢
  have z1 := eM.simp e
  try simp (disch := omega) only [z1]
  refine and_lift h (fun h => ?_)
  refine ex_lift h (fun a1 q2 h => ?_)
  try simp only [((e).2 89 a1 (by omega) q2).1, ((e).2 89 a1 (by omega) q2).2]
  refine and_lift h (fun h => ?_)
  refine and_lift h (fun h => ?_)
  refine f_M_mayIn e (fun v2 h => ?_) h
  refine ite_lift h (fun h => ?_) (fun h => ?_)
  · try simp (disch := omega) only [z1]
    try simp only [((e).2 89 a1 (by omega) q2).1, ((e).2 89 a1 (by omega) q2).2]
    refine f_M_begin e (fun G3 H3 e3 c4 h => ?_) h
    have c4 := (c).tr c4
    have z5 := eM.simp e3
    try simp (disch := omega) only [z5]
    refine ex_lift h (fun a4 q6 h => ?_)
    try simp only [((e3).2 89 a4 (by omega) q6).1, ((e3).2 89 a4 (by omega) q6).2]
    refine and_lift h (fun h => ?_)
    refine and_lift h (fun h => ?_)
    refine f_M_cutOut e3 (fun G5 H5 e7 c8 h => ?_) h
    have c8 := (c4).tr c8
    have z9 := eM.simp e7
    try simp (disch := omega) only [z9]
    refine f_M_commit e7 (fun G6 H6 v7 e10 c11 h => ?_) h
    have c11 := (c8).tr c11
    have z12 := eM.simp e10
    try simp (disch := omega) only [z12]
    exact hk _ _ e10 c11 h
  · try simp (disch := omega) only [z1]
    try simp only [((e).2 89 a1 (by omega) q2).1, ((e).2 89 a1 (by omega) q2).2]
    exact hk _ _ e c h
set_option maxHeartbeats 4000000 in
theorem f_M_release {t : TY} {a0 : Nat} {G H : GS} {K K' : GS → Prop} (e : eM a0 G H) (hk : ∀ (G' H' : GS), eM a0 G' H' → cM a0 H H' → K G' → K' H') {p1 : Int32} (h : w_M_release t G a0 p1 K) : w_M_release t H a0 p1 K' := by
  obtain ⟨H0, eH0⟩ : ∃ z, z = H := ⟨_, rfl⟩
  have c : cM a0 H0 H := by rw [eH0]; exact cM.rf
  have hk : ∀ (G' H' : GS), eM a0 G' H' → cM a0 H0 H' → K G' → K' H' := by rw [eH0]; exact hk
  unfold w_M_release at h ⊢
  have z1 := eM.simp e
  try simp (disch := omega) only [z1]
  refine and_lift h (fun h => ?_)
  refine ex_lift h (fun a1 q2 h => ?_)
  try simp only [((e).2 86 a1 (by omega) q2).1, ((e).2 86 a1 (by omega) q2).2]
  refine and_lift h (fun h => ?_)
  refine and_lift h (fun h => ?_)
  refine all_lift h (fun H2 eH2 h => ?_)
  obtain ⟨G2, eG2⟩ : ∃ z, z = ais G a1 p1.toNatClampNeg (vp_nar .boolean (0 : Int32)) := ⟨_, rfl⟩
  rw [← eG2] at h
  have e3 : eM a0 G2 H2 := by rw [eG2, eH2]; exact eM.ais e
  have c4 : cM a0 H0 H2 := by rw [eH2]; exact cM.ais c ⟨86, by omega, (((e).1 86 (by omega)).2.2).trans q2⟩
  have kG2 : ∀ f a, ((70 ≤ f ∧ f ≤ 72) ∨ (79 ≤ f ∧ f ≤ 94) ∨ f = 96) → gr G f a0 = some a → gr G2 f a0 = some a := by intro f a _ z; rw [eG2]; exact z
  have q5 := kG2 86 a1 (by omega) q2
  have z6 := eM.simp e3
  try simp (disch := omega) only [z6]
  try simp only [((e3).2 86 a1 (by omega) q5).1, ((e3).2 86 a1 (by omega) q5).2]
  refine ex_lift h (fun a3 q7 h => ?_)
  try simp only [((e3).2 88 a3 (by omega) q7).1, ((e3).2 88 a3 (by omega) q7).2]
  refine and_lift h (fun h => ?_)
  refine and_lift h (fun h => ?_)
  refine f_M_find e3 (fun v4 h => ?_) h
  refine ex_lift h (fun a5 q8 h => ?_)
  try simp only [((e3).2 91 a5 (by omega) q8).1, ((e3).2 91 a5 (by omega) q8).2]
  refine and_lift h (fun h => ?_)
  refine and_lift h (fun h => ?_)
  refine ite_lift h (fun h => ?_) (fun h => ?_)
  · try simp (disch := omega) only [z6]
    try simp only [((e3).2 86 a1 (by omega) q5).1, ((e3).2 86 a1 (by omega) q5).2, ((e3).2 88 a3 (by omega) q7).1, ((e3).2 88 a3 (by omega) q7).2, ((e3).2 91 a5 (by omega) q8).1, ((e3).2 91 a5 (by omega) q8).2]
    exact hk _ _ e3 c4 h
  · try simp (disch := omega) only [z6]
    try simp only [((e3).2 86 a1 (by omega) q5).1, ((e3).2 86 a1 (by omega) q5).2, ((e3).2 88 a3 (by omega) q7).1, ((e3).2 88 a3 (by omega) q7).2, ((e3).2 91 a5 (by omega) q8).1, ((e3).2 91 a5 (by omega) q8).2]
    refine ite_lift h (fun h => ?_) (fun h => ?_)
    · try simp (disch := omega) only [z6]
      try simp only [((e3).2 86 a1 (by omega) q5).1, ((e3).2 86 a1 (by omega) q5).2, ((e3).2 88 a3 (by omega) q7).1, ((e3).2 88 a3 (by omega) q7).2, ((e3).2 91 a5 (by omega) q8).1, ((e3).2 91 a5 (by omega) q8).2]
      exact hk _ _ e3 c4 h
    · try simp (disch := omega) only [z6]
      try simp only [((e3).2 86 a1 (by omega) q5).1, ((e3).2 86 a1 (by omega) q5).2, ((e3).2 88 a3 (by omega) q7).1, ((e3).2 88 a3 (by omega) q7).2, ((e3).2 91 a5 (by omega) q8).1, ((e3).2 91 a5 (by omega) q8).2]
      refine f_M_isDirectory e3 (fun v6 h => ?_) h
      refine ite_lift h (fun h => ?_) (fun h => ?_)
      · try simp (disch := omega) only [z6]
        try simp only [((e3).2 86 a1 (by omega) q5).1, ((e3).2 86 a1 (by omega) q5).2, ((e3).2 88 a3 (by omega) q7).1, ((e3).2 88 a3 (by omega) q7).2, ((e3).2 91 a5 (by omega) q8).1, ((e3).2 91 a5 (by omega) q8).2]
        exact f_M_release_48 e3 c4 hk  h
      · try simp (disch := omega) only [z6]
        try simp only [((e3).2 86 a1 (by omega) q5).1, ((e3).2 86 a1 (by omega) q5).2, ((e3).2 88 a3 (by omega) q7).1, ((e3).2 88 a3 (by omega) q7).2, ((e3).2 91 a5 (by omega) q8).1, ((e3).2 91 a5 (by omega) q8).2]
        refine f_M_entries e3 (fun v7 h => ?_) h
        refine ite_lift h (fun h => ?_) (fun h => ?_)
        · try simp (disch := omega) only [z6]
          try simp only [((e3).2 86 a1 (by omega) q5).1, ((e3).2 86 a1 (by omega) q5).2, ((e3).2 88 a3 (by omega) q7).1, ((e3).2 88 a3 (by omega) q7).2, ((e3).2 91 a5 (by omega) q8).1, ((e3).2 91 a5 (by omega) q8).2]
          exact hk _ _ e3 c4 h
        · try simp (disch := omega) only [z6]
          try simp only [((e3).2 86 a1 (by omega) q5).1, ((e3).2 86 a1 (by omega) q5).2, ((e3).2 88 a3 (by omega) q7).1, ((e3).2 88 a3 (by omega) q7).2, ((e3).2 91 a5 (by omega) q8).1, ((e3).2 91 a5 (by omega) q8).2]
          exact f_M_release_48 e3 c4 hk  h
set_option maxHeartbeats 4000000 in
theorem f_M_releaseAll_72 {t : TY} {a0 : Nat} {G H H0 : GS} {K K' : GS → Prop} {r2 R2 : Int32 → Int32 → GS → Prop} {r23 R23 : Int32 → Int32 → Int32 → Int32 → GS → Prop} (e : eM a0 G H) (c : cM a0 H0 H) (hk : ∀ (G' H' : GS), eM a0 G' H' → cM a0 H0 H' → K G' → K' H') (hr2 : ∀ (x0 : Int32) (x1 : Int32) (G H : GS), eM a0 G H → cM a0 H0 H → r2 x0 x1 G → R2 x0 x1 H) (hr23 : ∀ (x0 : Int32) (x1 : Int32) (x2 : Int32) (x3 : Int32) (G H : GS), eM a0 G H → cM a0 H0 H → r23 x0 x1 x2 x3 G → R23 x0 x1 x2 x3 H) {l1 : Int32} {l2 : Int32} {l4 : Int32} {s0 : Int32} (h : w_M_releaseAll_72 t a0 K r2 r23 l1 l2 l4 s0 G) : w_M_releaseAll_72 t a0 K' R2 R23 l1 l2 l4 s0 H := by
  unfold w_M_releaseAll_72 at h ⊢
  have z1 := eM.simp e
  try simp (disch := omega) only [z1]
  refine bind_lift h (fun v1 h => ?_)
  exact hr23 _ _ _ _ _ _ e c h
set_option maxHeartbeats 4000000 in
theorem f_M_releaseAll_71 {t : TY} {a0 : Nat} {G H H0 : GS} {K K' : GS → Prop} {r2 R2 : Int32 → Int32 → GS → Prop} {r23 R23 : Int32 → Int32 → Int32 → Int32 → GS → Prop} (e : eM a0 G H) (c : cM a0 H0 H) (hk : ∀ (G' H' : GS), eM a0 G' H' → cM a0 H0 H' → K G' → K' H') (hr2 : ∀ (x0 : Int32) (x1 : Int32) (G H : GS), eM a0 G H → cM a0 H0 H → r2 x0 x1 G → R2 x0 x1 H) (hr23 : ∀ (x0 : Int32) (x1 : Int32) (x2 : Int32) (x3 : Int32) (G H : GS), eM a0 G H → cM a0 H0 H → r23 x0 x1 x2 x3 G → R23 x0 x1 x2 x3 H) {l1 : Int32} {l2 : Int32} {l3 : Int32} {l4 : Int32} (h : w_M_releaseAll_71 t a0 K r2 r23 l1 l2 l3 l4 G) : w_M_releaseAll_71 t a0 K' R2 R23 l1 l2 l3 l4 H := by
  unfold w_M_releaseAll_71 at h ⊢
  have z1 := eM.simp e
  try simp (disch := omega) only [z1]
  exact f_M_releaseAll_72 e c hk hr2 hr23  h
set_option maxHeartbeats 4000000 in
theorem f_M_releaseAll_66 {t : TY} {a0 : Nat} {G H H0 : GS} {K K' : GS → Prop} {r2 R2 : Int32 → Int32 → GS → Prop} {r23 R23 : Int32 → Int32 → Int32 → Int32 → GS → Prop} (e : eM a0 G H) (c : cM a0 H0 H) (hk : ∀ (G' H' : GS), eM a0 G' H' → cM a0 H0 H' → K G' → K' H') (hr2 : ∀ (x0 : Int32) (x1 : Int32) (G H : GS), eM a0 G H → cM a0 H0 H → r2 x0 x1 G → R2 x0 x1 H) (hr23 : ∀ (x0 : Int32) (x1 : Int32) (x2 : Int32) (x3 : Int32) (G H : GS), eM a0 G H → cM a0 H0 H → r23 x0 x1 x2 x3 G → R23 x0 x1 x2 x3 H) {l1 : Int32} {l2 : Int32} {l4 : Int32} (h : w_M_releaseAll_66 t a0 K r2 r23 l1 l2 l4 G) : w_M_releaseAll_66 t a0 K' R2 R23 l1 l2 l4 H := by
  unfold w_M_releaseAll_66 at h ⊢
  have z1 := eM.simp e
  try simp (disch := omega) only [z1]
  exact f_M_releaseAll_72 e c hk hr2 hr23  h
set_option maxHeartbeats 4000000 in
theorem f_M_releaseAll_23 {t : TY} {a0 : Nat} {G H H0 : GS} {K K' : GS → Prop} {r2 R2 : Int32 → Int32 → GS → Prop} (e : eM a0 G H) (c : cM a0 H0 H) (hk : ∀ (G' H' : GS), eM a0 G' H' → cM a0 H0 H' → K G' → K' H') (hr2 : ∀ (x0 : Int32) (x1 : Int32) (G H : GS), eM a0 G H → cM a0 H0 H → r2 x0 x1 G → R2 x0 x1 H) : ∀ (n : Nat) {l1 : Int32} {l2 : Int32} {l3 : Int32} {l4 : Int32}, w_M_releaseAll_23 t a0 K r2 n l1 l2 l3 l4 G → w_M_releaseAll_23 t a0 K' R2 n l1 l2 l3 l4 H := by
  intro n
  induction n generalizing G H with
  | zero => intro l1 l2 l3 l4 h; exact h.elim
  | succ n ih =>
    intro l1 l2 l3 l4 h
    have hr23 : ∀ (x0 : Int32) (x1 : Int32) (x2 : Int32) (x3 : Int32) (G H : GS), eM a0 G H → cM a0 H0 H → w_M_releaseAll_23 t a0 K r2 n x0 x1 x2 x3 G → w_M_releaseAll_23 t a0 K' R2 n x0 x1 x2 x3 H := fun _ _ _ _ G H e c h => ih e c h
    unfold w_M_releaseAll_23 at h ⊢
    have z1 := eM.simp e
    try simp (disch := omega) only [z1]
    try dsimp only at h ⊢
    refine ite_lift h (fun h => ?_) (fun h => ?_)
    · try simp (disch := omega) only [z1]
      refine ite_lift h (fun h => ?_) (fun h => ?_)
      · try simp (disch := omega) only [z1]
        refine bind_lift h (fun v1 h => ?_)
        exact hr2 _ _ _ _ e c h
      · try simp (disch := omega) only [z1]
        refine and_lift h (fun h => ?_)
        refine f_M_release e (fun G2 H2 e2 c3 h => ?_) h
        have c3 := (c).tr c3
        have z4 := eM.simp e2
        try simp (disch := omega) only [z4]
        refine bind_lift h (fun v3 h => ?_)
        exact hr2 _ _ _ _ e2 c3 h
    · try simp (disch := omega) only [z1]
      refine and_lift h (fun h => ?_)
      refine ex_lift h (fun a4 q5 h => ?_)
      try simp only [((e).2 86 a4 (by omega) q5).1, ((e).2 86 a4 (by omega) q5).2]
      refine and_lift h (fun h => ?_)
      refine and_lift h (fun h => ?_)
      refine ite_lift h (fun h => ?_) (fun h => ?_)
      · try simp (disch := omega) only [z1]
        try simp only [((e).2 86 a4 (by omega) q5).1, ((e).2 86 a4 (by omega) q5).2]
        exact f_M_releaseAll_71 e c hk hr2 hr23  h
      · try simp (disch := omega) only [z1]
        try simp only [((e).2 86 a4 (by omega) q5).1, ((e).2 86 a4 (by omega) q5).2]
        refine ite_lift h (fun h => ?_) (fun h => ?_)
        · try simp (disch := omega) only [z1]
          try simp only [((e).2 86 a4 (by omega) q5).1, ((e).2 86 a4 (by omega) q5).2]
          exact f_M_releaseAll_66 e c hk hr2 hr23  h
        · try simp (disch := omega) only [z1]
          try simp only [((e).2 86 a4 (by omega) q5).1, ((e).2 86 a4 (by omega) q5).2]
          refine ex_lift h (fun a5 q6 h => ?_)
          try simp only [((e).2 87 a5 (by omega) q6).1, ((e).2 87 a5 (by omega) q6).2]
          refine and_lift h (fun h => ?_)
          refine and_lift h (fun h => ?_)
          refine and_lift h (fun h => ?_)
          refine ite_lift h (fun h => ?_) (fun h => ?_)
          · try simp (disch := omega) only [z1]
            try simp only [((e).2 86 a4 (by omega) q5).1, ((e).2 86 a4 (by omega) q5).2, ((e).2 87 a5 (by omega) q6).1, ((e).2 87 a5 (by omega) q6).2]
            exact f_M_releaseAll_71 e c hk hr2 hr23  h
          · try simp (disch := omega) only [z1]
            try simp only [((e).2 86 a4 (by omega) q5).1, ((e).2 86 a4 (by omega) q5).2, ((e).2 87 a5 (by omega) q6).1, ((e).2 87 a5 (by omega) q6).2]
            exact f_M_releaseAll_66 e c hk hr2 hr23  h
set_option maxHeartbeats 4000000 in
theorem f_M_releaseAll_2 {t : TY} {a0 : Nat} {G H H0 : GS} {K K' : GS → Prop} (e : eM a0 G H) (c : cM a0 H0 H) (hk : ∀ (G' H' : GS), eM a0 G' H' → cM a0 H0 H' → K G' → K' H') : ∀ (n : Nat) {l1 : Int32} {l2 : Int32}, w_M_releaseAll_2 t a0 K n l1 l2 G → w_M_releaseAll_2 t a0 K' n l1 l2 H := by
  intro n
  induction n generalizing G H with
  | zero => intro l1 l2 h; exact h.elim
  | succ n ih =>
    intro l1 l2 h
    have hr2 : ∀ (x0 : Int32) (x1 : Int32) (G H : GS), eM a0 G H → cM a0 H0 H → w_M_releaseAll_2 t a0 K n x0 x1 G → w_M_releaseAll_2 t a0 K' n x0 x1 H := fun _ _ G H e c h => ih e c h
    unfold w_M_releaseAll_2 at h ⊢
    have z1 := eM.simp e
    try simp (disch := omega) only [z1]
    try dsimp only at h ⊢
    refine ite_lift h (fun h => ?_) (fun h => ?_)
    · try simp (disch := omega) only [z1]
      exact hk _ _ e c h
    · try simp (disch := omega) only [z1]
      refine and_lift h (fun h => ?_)
      refine ite_lift h (fun h => ?_) (fun h => ?_)
      · try simp (disch := omega) only [z1]
        exact hk _ _ e c h
      · try simp (disch := omega) only [z1]
        refine bind_lift h (fun v1 h => ?_)
        obtain ⟨n, h⟩ := h
        refine ⟨n, ?_⟩
        exact f_M_releaseAll_23 e c hk hr2 _  h
set_option maxHeartbeats 4000000 in
theorem f_M_releaseAll {t : TY} {a0 : Nat} {G H : GS} {K K' : GS → Prop} (e : eM a0 G H) (hk : ∀ (G' H' : GS), eM a0 G' H' → cM a0 H H' → K G' → K' H') {p1 : Int32} (h : w_M_releaseAll t G a0 p1 K) : w_M_releaseAll t H a0 p1 K' := by
  obtain ⟨H0, eH0⟩ : ∃ z, z = H := ⟨_, rfl⟩
  have c : cM a0 H0 H := by rw [eH0]; exact cM.rf
  have hk : ∀ (G' H' : GS), eM a0 G' H' → cM a0 H0 H' → K G' → K' H' := by rw [eH0]; exact hk
  unfold w_M_releaseAll at h ⊢
  have z1 := eM.simp e
  try simp (disch := omega) only [z1]
  obtain ⟨n, h⟩ := h
  refine ⟨n, ?_⟩
  exact f_M_releaseAll_2 e c hk _  h
set_option maxHeartbeats 4000000 in
theorem f_M_isType {t : TY} {a0 : Nat} {G H : GS} {K K' : Int32 → Prop} (e : eM a0 G H) (hk : ∀ v : Int32, K v → K' v) {p0 : Int32} (h : w_M_isType t G p0 K) : w_M_isType t H p0 K' := by
  skip
  skip
  skip
  unfold w_M_isType at h ⊢
  have z1 := eM.simp e
  try simp (disch := omega) only [z1]
  refine ite_lift h (fun h => ?_) (fun h => ?_)
  · try simp (disch := omega) only [z1]
    exact hk _ h
  · try simp (disch := omega) only [z1]
    refine ite_lift h (fun h => ?_) (fun h => ?_)
    · try simp (disch := omega) only [z1]
      exact hk _ h
    · try simp (disch := omega) only [z1]
      refine ite_lift h (fun h => ?_) (fun h => ?_)
      · try simp (disch := omega) only [z1]
        exact hk _ h
      · try simp (disch := omega) only [z1]
        refine ite_lift h (fun h => ?_) (fun h => ?_)
        · try simp (disch := omega) only [z1]
          exact hk _ h
        · try simp (disch := omega) only [z1]
          refine ite_lift h (fun h => ?_) (fun h => ?_)
          · try simp (disch := omega) only [z1]
            exact hk _ h
          · try simp (disch := omega) only [z1]
            refine ite_lift h (fun h => ?_) (fun h => ?_)
            · try simp (disch := omega) only [z1]
              exact hk _ h
            · try simp (disch := omega) only [z1]
              refine ite_lift h (fun h => ?_) (fun h => ?_)
              · try simp (disch := omega) only [z1]
                exact hk _ h
              · try simp (disch := omega) only [z1]
                exact hk _ h
set_option maxHeartbeats 4000000 in
theorem f_M_isStat_35 {t : TY} {a0 : Nat} {G H : GS} {K K' : Int32 → Prop} (e : eM a0 G H) (hk : ∀ v : Int32, K v → K' v) : ∀ (n : Nat) {l1 : Int32} {l2 : Int32}, w_M_isStat_35 t G a0 K n l1 l2 → w_M_isStat_35 t H a0 K' n l1 l2 := by
  intro n
  induction n with
  | zero => intro l1 l2 h; exact h.elim
  | succ n ih =>
    intro l1 l2 h
    have hr35 : ∀ (x0 : Int32) (x1 : Int32), w_M_isStat_35 t G a0 K n x0 x1 → w_M_isStat_35 t H a0 K' n x0 x1 := fun _ _ h => ih h
    unfold w_M_isStat_35 at h ⊢
    have z1 := eM.simp e
    try simp (disch := omega) only [z1]
    try dsimp only at h ⊢
    refine ite_lift h (fun h => ?_) (fun h => ?_)
    · try simp (disch := omega) only [z1]
      refine and_lift h (fun h => ?_)
      refine ite_lift h (fun h => ?_) (fun h => ?_)
      · try simp (disch := omega) only [z1]
        exact hk _ h
      · try simp (disch := omega) only [z1]
        exact hk _ h
    · try simp (disch := omega) only [z1]
      refine and_lift h (fun h => ?_)
      refine f_M_behind e (fun v1 h => ?_) h
      refine bind_lift h (fun v2 h => ?_)
      exact hr35 _ _ h
set_option maxHeartbeats 4000000 in
theorem f_M_isStat {t : TY} {a0 : Nat} {G H : GS} {K K' : Int32 → Prop} (e : eM a0 G H) (hk : ∀ v : Int32, K v → K' v) (h : w_M_isStat t G a0 K) : w_M_isStat t H a0 K' := by
  skip
  skip
  skip
  unfold w_M_isStat at h ⊢
  have z1 := eM.simp e
  try simp (disch := omega) only [z1]
  refine and_lift h (fun h => ?_)
  refine ite_lift h (fun h => ?_) (fun h => ?_)
  · try simp (disch := omega) only [z1]
    exact hk _ h
  · try simp (disch := omega) only [z1]
    refine f_M_get e (fun v1 h => ?_) h
    refine ite_lift h (fun h => ?_) (fun h => ?_)
    · try simp (disch := omega) only [z1]
      obtain ⟨n, h⟩ := h
      refine ⟨n, ?_⟩
      exact f_M_isStat_35 e hk _  h
    · try simp (disch := omega) only [z1]
      exact hk _ h
set_option maxHeartbeats 4000000 in
theorem f_M_isWalk_39 {t : TY} {a0 : Nat} {G H : GS} {K K' : Int32 → Prop} (e : eM a0 G H) (hk : ∀ v : Int32, K v → K' v) : ∀ (n : Nat) {l1 : Int32} {l2 : Int32} {l3 : Int32}, w_M_isWalk_39 t G a0 K n l1 l2 l3 → w_M_isWalk_39 t H a0 K' n l1 l2 l3 := by
  intro n
  induction n with
  | zero => intro l1 l2 l3 h; exact h.elim
  | succ n ih =>
    intro l1 l2 l3 h
    have hr39 : ∀ (x0 : Int32) (x1 : Int32) (x2 : Int32), w_M_isWalk_39 t G a0 K n x0 x1 x2 → w_M_isWalk_39 t H a0 K' n x0 x1 x2 := fun _ _ _ h => ih h
    unfold w_M_isWalk_39 at h ⊢
    have z1 := eM.simp e
    try simp (disch := omega) only [z1]
    try dsimp only at h ⊢
    refine ite_lift h (fun h => ?_) (fun h => ?_)
    · try simp (disch := omega) only [z1]
      refine and_lift h (fun h => ?_)
      refine ite_lift h (fun h => ?_) (fun h => ?_)
      · try simp (disch := omega) only [z1]
        exact hk _ h
      · try simp (disch := omega) only [z1]
        exact hk _ h
    · try simp (disch := omega) only [z1]
      refine and_lift h (fun h => ?_)
      refine f_M_behind e (fun v1 h => ?_) h
      refine bind_lift h (fun v2 h => ?_)
      exact hr39 _ _ _ h
set_option maxHeartbeats 4000000 in
theorem f_M_isWalk {t : TY} {a0 : Nat} {G H : GS} {K K' : Int32 → Prop} (e : eM a0 G H) (hk : ∀ v : Int32, K v → K' v) (h : w_M_isWalk t G a0 K) : w_M_isWalk t H a0 K' := by
  skip
  skip
  skip
  unfold w_M_isWalk at h ⊢
  have z1 := eM.simp e
  try simp (disch := omega) only [z1]
  refine and_lift h (fun h => ?_)
  refine ite_lift h (fun h => ?_) (fun h => ?_)
  · try simp (disch := omega) only [z1]
    exact hk _ h
  · try simp (disch := omega) only [z1]
    refine f_M_get e (fun v1 h => ?_) h
    refine ite_lift h (fun h => ?_) (fun h => ?_)
    · try simp (disch := omega) only [z1]
      refine f_M_get e (fun v2 h => ?_) h
      refine bind_lift h (fun v3 h => ?_)
      obtain ⟨n, h⟩ := h
      refine ⟨n, ?_⟩
      exact f_M_isWalk_39 e hk _  h
    · try simp (disch := omega) only [z1]
      exact hk _ h
set_option maxHeartbeats 4000000 in
theorem f_M_formed {t : TY} {a0 : Nat} {G H : GS} {K K' : Int32 → Prop} (e : eM a0 G H) (hk : ∀ v : Int32, K v → K' v) {p1 : Int32} (h : w_M_formed t G a0 p1 K) : w_M_formed t H a0 p1 K' := by
  skip
  skip
  skip
  unfold w_M_formed at h ⊢
  have z1 := eM.simp e
  try simp (disch := omega) only [z1]
  refine ite_lift h (fun h => ?_) (fun h => ?_)
  · try simp (disch := omega) only [z1]
    refine ite_lift h (fun h => ?_) (fun h => ?_)
    · try simp (disch := omega) only [z1]
      refine ite_lift h (fun h => ?_) (fun h => ?_)
      · try simp (disch := omega) only [z1]
        refine ite_lift h (fun h => ?_) (fun h => ?_)
        · try simp (disch := omega) only [z1]
          refine ite_lift h (fun h => ?_) (fun h => ?_)
          · try simp (disch := omega) only [z1]
            refine ite_lift h (fun h => ?_) (fun h => ?_)
            · try simp (disch := omega) only [z1]
              refine ite_lift h (fun h => ?_) (fun h => ?_)
              · try simp (disch := omega) only [z1]
                refine ite_lift h (fun h => ?_) (fun h => ?_)
                · try simp (disch := omega) only [z1]
                  refine ite_lift h (fun h => ?_) (fun h => ?_)
                  · try simp (disch := omega) only [z1]
                    refine ite_lift h (fun h => ?_) (fun h => ?_)
                    · try simp (disch := omega) only [z1]
                      refine and_lift h (fun h => ?_)
                      refine ite_lift h (fun h => ?_) (fun h => ?_)
                      · try simp (disch := omega) only [z1]
                        exact hk _ h
                      · try simp (disch := omega) only [z1]
                        exact hk _ h
                    · try simp (disch := omega) only [z1]
                      refine and_lift h (fun h => ?_)
                      refine f_M_isWalk e (fun v1 h => ?_) h
                      exact hk _ h
                  · try simp (disch := omega) only [z1]
                    refine and_lift h (fun h => ?_)
                    refine ite_lift h (fun h => ?_) (fun h => ?_)
                    · try simp (disch := omega) only [z1]
                      exact hk _ h
                    · try simp (disch := omega) only [z1]
                      refine f_M_get e (fun v2 h => ?_) h
                      refine ite_lift h (fun h => ?_) (fun h => ?_)
                      · try simp (disch := omega) only [z1]
                        exact hk _ h
                      · try simp (disch := omega) only [z1]
                        refine f_M_isStat e (fun v3 h => ?_) h
                        refine ite_lift h (fun h => ?_) (fun h => ?_)
                        · try simp (disch := omega) only [z1]
                          exact hk _ h
                        · try simp (disch := omega) only [z1]
                          exact hk _ h
                · try simp (disch := omega) only [z1]
                  refine and_lift h (fun h => ?_)
                  refine ite_lift h (fun h => ?_) (fun h => ?_)
                  · try simp (disch := omega) only [z1]
                    exact hk _ h
                  · try simp (disch := omega) only [z1]
                    refine f_M_behind e (fun v4 h => ?_) h
                    refine ite_lift h (fun h => ?_) (fun h => ?_)
                    · try simp (disch := omega) only [z1]
                      exact hk _ h
                    · try simp (disch := omega) only [z1]
                      exact hk _ h
              · try simp (disch := omega) only [z1]
                refine and_lift h (fun h => ?_)
                refine ite_lift h (fun h => ?_) (fun h => ?_)
                · try simp (disch := omega) only [z1]
                  exact hk _ h
                · try simp (disch := omega) only [z1]
                  refine f_M_get e (fun v5 h => ?_) h
                  refine ite_lift h (fun h => ?_) (fun h => ?_)
                  · try simp (disch := omega) only [z1]
                    exact hk _ h
                  · try simp (disch := omega) only [z1]
                    exact hk _ h
            · try simp (disch := omega) only [z1]
              refine and_lift h (fun h => ?_)
              refine ite_lift h (fun h => ?_) (fun h => ?_)
              · try simp (disch := omega) only [z1]
                exact hk _ h
              · try simp (disch := omega) only [z1]
                exact hk _ h
          · try simp (disch := omega) only [z1]
            refine and_lift h (fun h => ?_)
            refine ite_lift h (fun h => ?_) (fun h => ?_)
            · try simp (disch := omega) only [z1]
              exact hk _ h
            · try simp (disch := omega) only [z1]
              exact hk _ h
        · try simp (disch := omega) only [z1]
          refine and_lift h (fun h => ?_)
          refine ite_lift h (fun h => ?_) (fun h => ?_)
          · try simp (disch := omega) only [z1]
            exact hk _ h
          · try simp (disch := omega) only [z1]
            exact hk _ h
      · try simp (disch := omega) only [z1]
        refine and_lift h (fun h => ?_)
        refine ite_lift h (fun h => ?_) (fun h => ?_)
        · try simp (disch := omega) only [z1]
          exact hk _ h
        · try simp (disch := omega) only [z1]
          refine f_M_behind e (fun v6 h => ?_) h
          refine f_M_behind e (fun v7 h => ?_) h
          refine ite_lift h (fun h => ?_) (fun h => ?_)
          · try simp (disch := omega) only [z1]
            exact hk _ h
          · try simp (disch := omega) only [z1]
            exact hk _ h
    · try simp (disch := omega) only [z1]
      refine and_lift h (fun h => ?_)
      refine ite_lift h (fun h => ?_) (fun h => ?_)
      · try simp (disch := omega) only [z1]
        exact hk _ h
      · try simp (disch := omega) only [z1]
        refine f_M_behind e (fun v8 h => ?_) h
        refine f_M_behind e (fun v9 h => ?_) h
        refine ite_lift h (fun h => ?_) (fun h => ?_)
        · try simp (disch := omega) only [z1]
          exact hk _ h
        · try simp (disch := omega) only [z1]
          exact hk _ h
  · try simp (disch := omega) only [z1]
    refine and_lift h (fun h => ?_)
    refine ite_lift h (fun h => ?_) (fun h => ?_)
    · try simp (disch := omega) only [z1]
      exact hk _ h
    · try simp (disch := omega) only [z1]
      refine f_M_behind e (fun v10 h => ?_) h
      refine ite_lift h (fun h => ?_) (fun h => ?_)
      · try simp (disch := omega) only [z1]
        exact hk _ h
      · try simp (disch := omega) only [z1]
        exact hk _ h
set_option maxHeartbeats 4000000 in
theorem f_M_version_130 {t : TY} {a0 : Nat} {G H H0 : GS} {K K' : GS → Prop} (e : eM a0 G H) (c : cM a0 H0 H) (hk : ∀ (G' H' : GS), eM a0 G' H' → cM a0 H0 H' → K G' → K' H') {s0 : Option Nat} {s1 : Int64} (hs0 : s0 = some a0) (h : w_M_version_130 t a0 K s0 s1 G) : w_M_version_130 t a0 K' s0 s1 H := by
  unfold w_M_version_130 at h ⊢
  have z1 := eM.simp e
  try simp (disch := omega) only [z1]
  refine ex_lift h (fun a1 q2 h => ?_)
  have z3 : a0 = a1 := Option.some.inj (hs0.symm.trans q2)
  subst z3
  refine and_lift h (fun h => ?_)
  refine f_M_say e (fun G2 H2 e4 c5 h => ?_) h
  have c5 := (c).tr c5
  have z6 := eM.simp e4
  try simp (disch := omega) only [z6]
  exact hk _ _ e4 c5 h
set_option maxHeartbeats 4000000 in
theorem f_M_version_98 {t : TY} {a0 : Nat} {G H H0 : GS} {K K' : GS → Prop} (e : eM a0 G H) (c : cM a0 H0 H) (hk : ∀ (G' H' : GS), eM a0 G' H' → cM a0 H0 H' → K G' → K' H') {l1 : Int32} {s0 : Option Nat} {s1 : Int32} {s2 : Int32} (hs0 : ∃ f, ((70 ≤ f ∧ f ≤ 72) ∨ (79 ≤ f ∧ f ≤ 94) ∨ f = 96) ∧ s0 = gr G f a0) (h : w_M_version_98 t a0 K l1 s0 s1 s2 G) : w_M_version_98 t a0 K' l1 s0 s1 s2 H := by
  unfold w_M_version_98 at h ⊢
  have z1 := eM.simp e
  try simp (disch := omega) only [z1]
  refine ex_lift h (fun a1 q2 h => ?_)
  obtain ⟨f3, hf3, ef3⟩ := hs0
  have q4 := ef3.symm.trans q2
  try simp only [((e).2 f3 a1 (by omega) q4).1, ((e).2 f3 a1 (by omega) q4).2]
  refine and_lift h (fun h => ?_)
  refine and_lift h (fun h => ?_)
  refine all_lift h (fun H2 eH2 h => ?_)
  obtain ⟨G2, eG2⟩ : ∃ z, z = ais G a1 s1.toNatClampNeg (vp_nar .boolean s2) := ⟨_, rfl⟩
  rw [← eG2] at h
  have e5 : eM a0 G2 H2 := by rw [eG2, eH2]; exact eM.ais e
  have c6 : cM a0 H0 H2 := by rw [eH2]; exact cM.ais c ⟨f3, by omega, (((e).1 f3 (by omega)).2.2).trans q4⟩
  have kG2 : ∀ f a, ((70 ≤ f ∧ f ≤ 72) ∨ (79 ≤ f ∧ f ≤ 94) ∨ f = 96) → gr G f a0 = some a → gr G2 f a0 = some a := by intro f a _ z; rw [eG2]; exact z
  have q7 := kG2 f3 a1 (by omega) q4
  have z8 := eM.simp e5
  try simp (disch := omega) only [z8]
  try simp only [((e5).2 f3 a1 (by omega) q7).1, ((e5).2 f3 a1 (by omega) q7).2]
  refine and_lift h (fun h => ?_)
  refine ex_lift h (fun a3 q9 h => ?_)
  try simp only [((e5).2 83 a3 (by omega) q9).1, ((e5).2 83 a3 (by omega) q9).2]
  refine and_lift h (fun h => ?_)
  refine and_lift h (fun h => ?_)
  refine f_M_put e5 (fun G4 H4 e10 c11 h => ?_) h
  have c11 := (c6).tr c11
  have z12 := eM.simp e10
  try simp (disch := omega) only [z12]
  refine ex_lift h (fun a5 q13 h => ?_)
  try simp only [((e10).2 84 a5 (by omega) q13).1, ((e10).2 84 a5 (by omega) q13).2]
  refine and_lift h (fun h => ?_)
  refine and_lift h (fun h => ?_)
  refine ite_lift h (fun h => ?_) (fun h => ?_)
  · try simp (disch := omega) only [z12]
    try simp only [((e10).2 84 a5 (by omega) q13).1, ((e10).2 84 a5 (by omega) q13).2]
    exact f_M_version_130 e10 c11 hk  rfl h
  · try simp (disch := omega) only [z12]
    try simp only [((e10).2 84 a5 (by omega) q13).1, ((e10).2 84 a5 (by omega) q13).2]
    exact f_M_version_130 e10 c11 hk  rfl h
set_option maxHeartbeats 4000000 in
theorem f_M_version_97 {t : TY} {a0 : Nat} {G H H0 : GS} {K K' : GS → Prop} (e : eM a0 G H) (c : cM a0 H0 H) (hk : ∀ (G' H' : GS), eM a0 G' H' → cM a0 H0 H' → K G' → K' H') {l1 : Int32} {s0 : Option Nat} {s1 : Int32} (hs0 : ∃ f, ((70 ≤ f ∧ f ≤ 72) ∨ (79 ≤ f ∧ f ≤ 94) ∨ f = 96) ∧ s0 = gr G f a0) (h : w_M_version_97 t a0 K l1 s0 s1 G) : w_M_version_97 t a0 K' l1 s0 s1 H := by
  unfold w_M_version_97 at h ⊢
  have z1 := eM.simp e
  try simp (disch := omega) only [z1]
  exact f_M_version_98 e c hk  hs0 h
set_option maxHeartbeats 4000000 in
theorem f_M_version_58 {t : TY} {a0 : Nat} {G H H0 : GS} {K K' : GS → Prop} (e : eM a0 G H) (c : cM a0 H0 H) (hk : ∀ (G' H' : GS), eM a0 G' H' → cM a0 H0 H' → K G' → K' H') {l1 : Int32} {s0 : Option Nat} {s1 : Int32} {s2 : Int32} (hs0 : ∃ f, ((70 ≤ f ∧ f ≤ 72) ∨ (79 ≤ f ∧ f ≤ 94) ∨ f = 96) ∧ s0 = gr G f a0) (h : w_M_version_58 t a0 K l1 s0 s1 s2 G) : w_M_version_58 t a0 K' l1 s0 s1 s2 H := by
  unfold w_M_version_58 at h ⊢
  have z1 := eM.simp e
  try simp (disch := omega) only [z1]
  refine ex_lift h (fun a1 q2 h => ?_)
  obtain ⟨f3, hf3, ef3⟩ := hs0
  have q4 := ef3.symm.trans q2
  try simp only [((e).2 f3 a1 (by omega) q4).1, ((e).2 f3 a1 (by omega) q4).2]
  refine and_lift h (fun h => ?_)
  refine and_lift h (fun h => ?_)
  refine all_lift h (fun H2 eH2 h => ?_)
  obtain ⟨G2, eG2⟩ : ∃ z, z = ais G a1 s1.toNatClampNeg s2 := ⟨_, rfl⟩
  rw [← eG2] at h
  have e5 : eM a0 G2 H2 := by rw [eG2, eH2]; exact eM.ais e
  have c6 : cM a0 H0 H2 := by rw [eH2]; exact cM.ais c ⟨f3, by omega, (((e).1 f3 (by omega)).2.2).trans q4⟩
  have kG2 : ∀ f a, ((70 ≤ f ∧ f ≤ 72) ∨ (79 ≤ f ∧ f ≤ 94) ∨ f = 96) → gr G f a0 = some a → gr G2 f a0 = some a := by intro f a _ z; rw [eG2]; exact z
  have q7 := kG2 f3 a1 (by omega) q4
  have z8 := eM.simp e5
  try simp (disch := omega) only [z8]
  try simp only [((e5).2 f3 a1 (by omega) q7).1, ((e5).2 f3 a1 (by omega) q7).2]
  refine and_lift h (fun h => ?_)
  refine f_M_get e5 (fun v3 h => ?_) h
  refine ite_lift h (fun h => ?_) (fun h => ?_)
  · try simp (disch := omega) only [z8]
    try simp only [((e5).2 f3 a1 (by omega) q7).1, ((e5).2 f3 a1 (by omega) q7).2]
    exact f_M_version_97 e5 c6 hk  ⟨84, by omega, rfl⟩ h
  · try simp (disch := omega) only [z8]
    try simp only [((e5).2 f3 a1 (by omega) q7).1, ((e5).2 f3 a1 (by omega) q7).2]
    refine f_M_get e5 (fun v4 h => ?_) h
    refine ite_lift h (fun h => ?_) (fun h => ?_)
    · try simp (disch := omega) only [z8]
      try simp only [((e5).2 f3 a1 (by omega) q7).1, ((e5).2 f3 a1 (by omega) q7).2]
      exact f_M_version_97 e5 c6 hk  ⟨84, by omega, rfl⟩ h
    · try simp (disch := omega) only [z8]
      try simp only [((e5).2 f3 a1 (by omega) q7).1, ((e5).2 f3 a1 (by omega) q7).2]
      exact f_M_version_98 e5 c6 hk  ⟨84, by omega, rfl⟩ h
set_option maxHeartbeats 4000000 in
theorem f_M_version {t : TY} {a0 : Nat} {G H : GS} {K K' : GS → Prop} (e : eM a0 G H) (hk : ∀ (G' H' : GS), eM a0 G' H' → cM a0 H H' → K G' → K' H') {p1 : Int32} (h : w_M_version t G a0 p1 K) : w_M_version t H a0 p1 K' := by
  obtain ⟨H0, eH0⟩ : ∃ z, z = H := ⟨_, rfl⟩
  have c : cM a0 H0 H := by rw [eH0]; exact cM.rf
  have hk : ∀ (G' H' : GS), eM a0 G' H' → cM a0 H0 H' → K G' → K' H' := by rw [eH0]; exact hk
  unfold w_M_version at h ⊢
  have z1 := eM.simp e
  try simp (disch := omega) only [z1]
  refine and_lift h (fun h => ?_)
  refine f_M_get e (fun v1 h => ?_) h
  refine ite_lift h (fun h => ?_) (fun h => ?_)
  · try simp (disch := omega) only [z1]
    refine f_M_releaseAll e (fun G2 H2 e2 c3 h => ?_) h
    have c3 := (c).tr c3
    have z4 := eM.simp e2
    try simp (disch := omega) only [z4]
    refine ite_lift h (fun h => ?_) (fun h => ?_)
    · try simp (disch := omega) only [z4]
      refine ite_lift h (fun h => ?_) (fun h => ?_)
      · try simp (disch := omega) only [z4]
        exact f_M_version_58 e2 c3 hk  ⟨83, by omega, rfl⟩ h
      · try simp (disch := omega) only [z4]
        exact f_M_version_58 e2 c3 hk  ⟨83, by omega, rfl⟩ h
    · try simp (disch := omega) only [z4]
      exact hk _ _ e2 c3 h
  · try simp (disch := omega) only [z1]
    refine all_lift h (fun H3 eH3 h => ?_)
    obtain ⟨G3, eG3⟩ : ∃ z, z = sl G 98 a0 (435845428077 : Int64) := ⟨_, rfl⟩
    rw [← eG3] at h
    have e5 : eM a0 G3 H3 := by rw [eG3, eH3]; exact eM.sl e (by omega)
    have c6 : cM a0 H0 H3 := by rw [eH3]; exact cM.sl c
    have kG3 : ∀ f a, ((70 ≤ f ∧ f ≤ 72) ∨ (79 ≤ f ∧ f ≤ 94) ∨ f = 96) → gr G f a0 = some a → gr G3 f a0 = some a := by intro f a _ z; rw [eG3]; exact z
    have z7 := eM.simp e5
    try simp (disch := omega) only [z7]
    exact hk _ _ e5 c6 h
set_option maxHeartbeats 4000000 in
theorem f_M_attach_87 {t : TY} {a0 : Nat} {G H H0 : GS} {K K' : GS → Prop} (e : eM a0 G H) (c : cM a0 H0 H) (hk : ∀ (G' H' : GS), eM a0 G' H' → cM a0 H0 H' → K G' → K' H') {l1 : Int32} {l2 : Int32} (h : w_M_attach_87 t a0 K l1 l2 G) : w_M_attach_87 t a0 K' l1 l2 H := by
  unfold w_M_attach_87 at h ⊢
  have z1 := eM.simp e
  try simp (disch := omega) only [z1]
  refine and_lift h (fun h => ?_)
  refine ite_lift h (fun h => ?_) (fun h => ?_)
  · try simp (disch := omega) only [z1]
    refine f_M_get e (fun v1 h => ?_) h
    refine f_M_make e (fun G2 H2 e2 c3 h => ?_) h
    have c3 := (c).tr c3
    have z4 := eM.simp e2
    try simp (disch := omega) only [z4]
    refine f_M_qid e2 (fun G3 H3 e5 c6 h => ?_) h
    have c6 := (c3).tr c6
    have z7 := eM.simp e5
    try simp (disch := omega) only [z7]
    exact hk _ _ e5 c6 h
  · try simp (disch := omega) only [z1]
    exact hk _ _ e c h
set_option maxHeartbeats 4000000 in
theorem f_M_attach {t : TY} {a0 : Nat} {G H : GS} {K K' : GS → Prop} (e : eM a0 G H) (hk : ∀ (G' H' : GS), eM a0 G' H' → cM a0 H H' → K G' → K' H') {p1 : Int32} (h : w_M_attach t G a0 p1 K) : w_M_attach t H a0 p1 K' := by
  obtain ⟨H0, eH0⟩ : ∃ z, z = H := ⟨_, rfl⟩
  have c : cM a0 H0 H := by rw [eH0]; exact cM.rf
  have hk : ∀ (G' H' : GS), eM a0 G' H' → cM a0 H0 H' → K G' → K' H' := by rw [eH0]; exact hk
  unfold w_M_attach at h ⊢
  have z1 := eM.simp e
  try simp (disch := omega) only [z1]
  refine and_lift h (fun h => ?_)
  refine f_M_userAt e (fun v1 h => ?_) h
  refine f_M_get e (fun v2 h => ?_) h
  refine f_M_fid e (fun v3 h => ?_) h
  refine ite_lift h (fun h => ?_) (fun h => ?_)
  · try simp (disch := omega) only [z1]
    refine f_M_many e (fun v4 h => ?_) h
    refine ite_lift h (fun h => ?_) (fun h => ?_)
    · try simp (disch := omega) only [z1]
      refine f_M_get e (fun v5 h => ?_) h
      refine ite_lift h (fun h => ?_) (fun h => ?_)
      · try simp (disch := omega) only [z1]
        refine ite_lift h (fun h => ?_) (fun h => ?_)
        · try simp (disch := omega) only [z1]
          exact f_M_attach_87 e c hk  h
        · try simp (disch := omega) only [z1]
          refine all_lift h (fun H6 eH6 h => ?_)
          obtain ⟨G6, eG6⟩ : ∃ z, z = sl G 98 a0 (1919251317 : Int64) := ⟨_, rfl⟩
          rw [← eG6] at h
          have e2 : eM a0 G6 H6 := by rw [eG6, eH6]; exact eM.sl e (by omega)
          have c3 : cM a0 H0 H6 := by rw [eH6]; exact cM.sl c
          have kG6 : ∀ f a, ((70 ≤ f ∧ f ≤ 72) ∨ (79 ≤ f ∧ f ≤ 94) ∨ f = 96) → gr G f a0 = some a → gr G6 f a0 = some a := by intro f a _ z; rw [eG6]; exact z
          have z4 := eM.simp e2
          try simp (disch := omega) only [z4]
          exact f_M_attach_87 e2 c3 hk  h
      · try simp (disch := omega) only [z1]
        refine all_lift h (fun H7 eH7 h => ?_)
        obtain ⟨G7, eG7⟩ : ∃ z, z = sl G 98 a0 (1752462689 : Int64) := ⟨_, rfl⟩
        rw [← eG7] at h
        have e5 : eM a0 G7 H7 := by rw [eG7, eH7]; exact eM.sl e (by omega)
        have c6 : cM a0 H0 H7 := by rw [eH7]; exact cM.sl c
        have kG7 : ∀ f a, ((70 ≤ f ∧ f ≤ 72) ∨ (79 ≤ f ∧ f ≤ 94) ∨ f = 96) → gr G f a0 = some a → gr G7 f a0 = some a := by intro f a _ z; rw [eG7]; exact z
        have z7 := eM.simp e5
        try simp (disch := omega) only [z7]
        exact f_M_attach_87 e5 c6 hk  h
    · try simp (disch := omega) only [z1]
      refine all_lift h (fun H8 eH8 h => ?_)
      obtain ⟨G8, eG8⟩ : ∃ z, z = sl G 98 a0 (1935960422 : Int64) := ⟨_, rfl⟩
      rw [← eG8] at h
      have e8 : eM a0 G8 H8 := by rw [eG8, eH8]; exact eM.sl e (by omega)
      have c9 : cM a0 H0 H8 := by rw [eH8]; exact cM.sl c
      have kG8 : ∀ f a, ((70 ≤ f ∧ f ≤ 72) ∨ (79 ≤ f ∧ f ≤ 94) ∨ f = 96) → gr G f a0 = some a → gr G8 f a0 = some a := by intro f a _ z; rw [eG8]; exact z
      have z10 := eM.simp e8
      try simp (disch := omega) only [z10]
      exact f_M_attach_87 e8 c9 hk  h
  · try simp (disch := omega) only [z1]
    refine all_lift h (fun H9 eH9 h => ?_)
    obtain ⟨G9, eG9⟩ : ∃ z, z = sl G 98 a0 (435728772713 : Int64) := ⟨_, rfl⟩
    rw [← eG9] at h
    have e11 : eM a0 G9 H9 := by rw [eG9, eH9]; exact eM.sl e (by omega)
    have c12 : cM a0 H0 H9 := by rw [eH9]; exact cM.sl c
    have kG9 : ∀ f a, ((70 ≤ f ∧ f ≤ 72) ∨ (79 ≤ f ∧ f ≤ 94) ∨ f = 96) → gr G f a0 = some a → gr G9 f a0 = some a := by intro f a _ z; rw [eG9]; exact z
    have z13 := eM.simp e11
    try simp (disch := omega) only [z13]
    exact f_M_attach_87 e11 c12 hk  h
set_option maxHeartbeats 4000000 in
theorem f_M_remove_68 {t : TY} {a0 : Nat} {G H H0 : GS} {K K' : GS → Prop} (e : eM a0 G H) (c : cM a0 H0 H) (hk : ∀ (G' H' : GS), eM a0 G' H' → cM a0 H0 H' → K G' → K' H') {l1 : Int32} {l2 : Int32} (h : w_M_remove_68 t a0 K l1 l2 G) : w_M_remove_68 t a0 K' l1 l2 H := by
  unfold w_M_remove_68 at h ⊢
  have z1 := eM.simp e
  try simp (disch := omega) only [z1]
  refine and_lift h (fun h => ?_)
  refine ite_lift h (fun h => ?_) (fun h => ?_)
  · try simp (disch := omega) only [z1]
    refine f_M_begin e (fun G1 H1 e2 c3 h => ?_) h
    have c3 := (c).tr c3
    have z4 := eM.simp e2
    try simp (disch := omega) only [z4]
    refine ex_lift h (fun a2 q5 h => ?_)
    try simp only [((e2).2 89 a2 (by omega) q5).1, ((e2).2 89 a2 (by omega) q5).2]
    refine and_lift h (fun h => ?_)
    refine and_lift h (fun h => ?_)
    refine f_M_cutOut e2 (fun G3 H3 e6 c7 h => ?_) h
    have c7 := (c3).tr c7
    have z8 := eM.simp e6
    try simp (disch := omega) only [z8]
    refine f_M_commit e6 (fun G4 H4 v5 e9 c10 h => ?_) h
    have c10 := (c7).tr c10
    have z11 := eM.simp e9
    try simp (disch := omega) only [z11]
    exact hk _ _ e9 c10 h
  · try simp (disch := omega) only [z1]
    exact hk _ _ e c h
set_option maxHeartbeats 4000000 in
theorem f_M_remove {t : TY} {a0 : Nat} {G H : GS} {K K' : GS → Prop} (e : eM a0 G H) (hk : ∀ (G' H' : GS), eM a0 G' H' → cM a0 H H' → K G' → K' H') {p1 : Int32} {p2 : Int32} (h : w_M_remove t G a0 p1 p2 K) : w_M_remove t H a0 p1 p2 K' := by
  obtain ⟨H0, eH0⟩ : ∃ z, z = H := ⟨_, rfl⟩
  have c : cM a0 H0 H := by rw [eH0]; exact cM.rf
  have hk : ∀ (G' H' : GS), eM a0 G' H' → cM a0 H0 H' → K G' → K' H' := by rw [eH0]; exact hk
  unfold w_M_remove at h ⊢
  have z1 := eM.simp e
  try simp (disch := omega) only [z1]
  refine and_lift h (fun h => ?_)
  refine ex_lift h (fun a1 q2 h => ?_)
  try simp only [((e).2 86 a1 (by omega) q2).1, ((e).2 86 a1 (by omega) q2).2]
  refine and_lift h (fun h => ?_)
  refine and_lift h (fun h => ?_)
  refine all_lift h (fun H2 eH2 h => ?_)
  obtain ⟨G2, eG2⟩ : ∃ z, z = ais G a1 p1.toNatClampNeg (vp_nar .boolean (0 : Int32)) := ⟨_, rfl⟩
  rw [← eG2] at h
  have e3 : eM a0 G2 H2 := by rw [eG2, eH2]; exact eM.ais e
  have c4 : cM a0 H0 H2 := by rw [eH2]; exact cM.ais c ⟨86, by omega, (((e).1 86 (by omega)).2.2).trans q2⟩
  have kG2 : ∀ f a, ((70 ≤ f ∧ f ≤ 72) ∨ (79 ≤ f ∧ f ≤ 94) ∨ f = 96) → gr G f a0 = some a → gr G2 f a0 = some a := by intro f a _ z; rw [eG2]; exact z
  have q5 := kG2 86 a1 (by omega) q2
  have z6 := eM.simp e3
  try simp (disch := omega) only [z6]
  try simp only [((e3).2 86 a1 (by omega) q5).1, ((e3).2 86 a1 (by omega) q5).2]
  refine ite_lift h (fun h => ?_) (fun h => ?_)
  · try simp (disch := omega) only [z6]
    try simp only [((e3).2 86 a1 (by omega) q5).1, ((e3).2 86 a1 (by omega) q5).2]
    refine ex_lift h (fun a3 q7 h => ?_)
    try simp only [((e3).2 89 a3 (by omega) q7).1, ((e3).2 89 a3 (by omega) q7).2]
    refine and_lift h (fun h => ?_)
    refine and_lift h (fun h => ?_)
    refine f_M_mayIn e3 (fun v4 h => ?_) h
    refine ite_lift h (fun h => ?_) (fun h => ?_)
    · try simp (disch := omega) only [z6]
      try simp only [((e3).2 86 a1 (by omega) q5).1, ((e3).2 86 a1 (by omega) q5).2, ((e3).2 89 a3 (by omega) q7).1, ((e3).2 89 a3 (by omega) q7).2]
      refine f_M_isDirectory e3 (fun v5 h => ?_) h
      refine ite_lift h (fun h => ?_) (fun h => ?_)
      · try simp (disch := omega) only [z6]
        try simp only [((e3).2 86 a1 (by omega) q5).1, ((e3).2 86 a1 (by omega) q5).2, ((e3).2 89 a3 (by omega) q7).1, ((e3).2 89 a3 (by omega) q7).2]
        exact f_M_remove_68 e3 c4 hk  h
      · try simp (disch := omega) only [z6]
        try simp only [((e3).2 86 a1 (by omega) q5).1, ((e3).2 86 a1 (by omega) q5).2, ((e3).2 89 a3 (by omega) q7).1, ((e3).2 89 a3 (by omega) q7).2]
        refine f_M_entries e3 (fun v6 h => ?_) h
        refine ite_lift h (fun h => ?_) (fun h => ?_)
        · try simp (disch := omega) only [z6]
          try simp only [((e3).2 86 a1 (by omega) q5).1, ((e3).2 86 a1 (by omega) q5).2, ((e3).2 89 a3 (by omega) q7).1, ((e3).2 89 a3 (by omega) q7).2]
          exact f_M_remove_68 e3 c4 hk  h
        · try simp (disch := omega) only [z6]
          try simp only [((e3).2 86 a1 (by omega) q5).1, ((e3).2 86 a1 (by omega) q5).2, ((e3).2 89 a3 (by omega) q7).1, ((e3).2 89 a3 (by omega) q7).2]
          refine all_lift h (fun H7 eH7 h => ?_)
          obtain ⟨G7, eG7⟩ : ∃ z, z = sl G2 98 a0 (521644567909 : Int64) := ⟨_, rfl⟩
          rw [← eG7] at h
          have e8 : eM a0 G7 H7 := by rw [eG7, eH7]; exact eM.sl e3 (by omega)
          have c9 : cM a0 H0 H7 := by rw [eH7]; exact cM.sl c4
          have kG7 : ∀ f a, ((70 ≤ f ∧ f ≤ 72) ∨ (79 ≤ f ∧ f ≤ 94) ∨ f = 96) → gr G2 f a0 = some a → gr G7 f a0 = some a := by intro f a _ z; rw [eG7]; exact z
          have q10 := kG7 86 a1 (by omega) q5
          have q11 := kG7 89 a3 (by omega) q7
          have z12 := eM.simp e8
          try simp (disch := omega) only [z12]
          try simp only [((e8).2 86 a1 (by omega) q10).1, ((e8).2 86 a1 (by omega) q10).2, ((e8).2 89 a3 (by omega) q11).1, ((e8).2 89 a3 (by omega) q11).2]
          exact f_M_remove_68 e8 c9 hk  h
    · try simp (disch := omega) only [z6]
      try simp only [((e3).2 86 a1 (by omega) q5).1, ((e3).2 86 a1 (by omega) q5).2, ((e3).2 89 a3 (by omega) q7).1, ((e3).2 89 a3 (by omega) q7).2]
      refine all_lift h (fun H8 eH8 h => ?_)
      obtain ⟨G8, eG8⟩ : ∃ z, z = sl G2 98 a0 (1836213616 : Int64) := ⟨_, rfl⟩
      rw [← eG8] at h
      have e13 : eM a0 G8 H8 := by rw [eG8, eH8]; exact eM.sl e3 (by omega)
      have c14 : cM a0 H0 H8 := by rw [eH8]; exact cM.sl c4
      have kG8 : ∀ f a, ((70 ≤ f ∧ f ≤ 72) ∨ (79 ≤ f ∧ f ≤ 94) ∨ f = 96) → gr G2 f a0 = some a → gr G8 f a0 = some a := by intro f a _ z; rw [eG8]; exact z
      have q15 := kG8 86 a1 (by omega) q5
      have q16 := kG8 89 a3 (by omega) q7
      have z17 := eM.simp e13
      try simp (disch := omega) only [z17]
      try simp only [((e13).2 86 a1 (by omega) q15).1, ((e13).2 86 a1 (by omega) q15).2, ((e13).2 89 a3 (by omega) q16).1, ((e13).2 89 a3 (by omega) q16).2]
      exact f_M_remove_68 e13 c14 hk  h
  · try simp (disch := omega) only [z6]
    try simp only [((e3).2 86 a1 (by omega) q5).1, ((e3).2 86 a1 (by omega) q5).2]
    refine all_lift h (fun H9 eH9 h => ?_)
    obtain ⟨G9, eG9⟩ : ∃ z, z = sl G2 98 a0 (1701736295 : Int64) := ⟨_, rfl⟩
    rw [← eG9] at h
    have e18 : eM a0 G9 H9 := by rw [eG9, eH9]; exact eM.sl e3 (by omega)
    have c19 : cM a0 H0 H9 := by rw [eH9]; exact cM.sl c4
    have kG9 : ∀ f a, ((70 ≤ f ∧ f ≤ 72) ∨ (79 ≤ f ∧ f ≤ 94) ∨ f = 96) → gr G2 f a0 = some a → gr G9 f a0 = some a := by intro f a _ z; rw [eG9]; exact z
    have q20 := kG9 86 a1 (by omega) q5
    have z21 := eM.simp e18
    try simp (disch := omega) only [z21]
    try simp only [((e18).2 86 a1 (by omega) q20).1, ((e18).2 86 a1 (by omega) q20).2]
    exact f_M_remove_68 e18 c19 hk  h
set_option maxHeartbeats 4000000 in
theorem f_M_walk_319 {t : TY} {a0 : Nat} {G H H0 : GS} {K K' : GS → Prop} (e : eM a0 G H) (c : cM a0 H0 H) (hk : ∀ (G' H' : GS), eM a0 G' H' → cM a0 H0 H' → K G' → K' H') {l1 : Int32} {l2 : Int32} {l4 : Int64} {l6 : Int32} {l7 : Int32} {l8 : Int32} {l10 : Int32} (h : w_M_walk_319 t a0 K l1 l2 l4 l6 l7 l8 l10 G) : w_M_walk_319 t a0 K' l1 l2 l4 l6 l7 l8 l10 H := by
  unfold w_M_walk_319 at h ⊢
  have z1 := eM.simp e
  try simp (disch := omega) only [z1]
  refine and_lift h (fun h => ?_)
  refine ite_lift h (fun h => ?_) (fun h => ?_)
  · try simp (disch := omega) only [z1]
    exact hk _ _ e c h
  · try simp (disch := omega) only [z1]
    refine ite_lift h (fun h => ?_) (fun h => ?_)
    · try simp (disch := omega) only [z1]
      refine ite_lift h (fun h => ?_) (fun h => ?_)
      · try simp (disch := omega) only [z1]
        refine f_M_make e (fun G1 H1 e2 c3 h => ?_) h
        have c3 := (c).tr c3
        have z4 := eM.simp e2
        try simp (disch := omega) only [z4]
        exact hk _ _ e2 c3 h
      · try simp (disch := omega) only [z1]
        refine f_M_point e (fun G2 H2 e5 c6 h => ?_) h
        have c6 := (c).tr c6
        have z7 := eM.simp e5
        try simp (disch := omega) only [z7]
        exact hk _ _ e5 c6 h
    · try simp (disch := omega) only [z1]
      exact hk _ _ e c h
set_option maxHeartbeats 4000000 in
theorem f_M_walk_300 {t : TY} {a0 : Nat} {G H H0 : GS} {K K' : GS → Prop} (e : eM a0 G H) (c : cM a0 H0 H) (hk : ∀ (G' H' : GS), eM a0 G' H' → cM a0 H0 H' → K G' → K' H') {l1 : Int32} {l2 : Int32} {l4 : Int64} {l6 : Int32} {l7 : Int32} {l8 : Int32} {l10 : Int32} (h : w_M_walk_300 t a0 K l1 l2 l4 l6 l7 l8 l10 G) : w_M_walk_300 t a0 K' l1 l2 l4 l6 l7 l8 l10 H := by
  unfold w_M_walk_300 at h ⊢
  have z1 := eM.simp e
  try simp (disch := omega) only [z1]
  refine and_lift h (fun h => ?_)
  refine ex_lift h (fun a1 q2 h => ?_)
  try simp only [((e).2 96 a1 (by omega) q2).1, ((e).2 96 a1 (by omega) q2).2]
  refine and_lift h (fun h => ?_)
  refine and_lift h (fun h => ?_)
  refine all_lift h (fun H2 eH2 h => ?_)
  obtain ⟨G2, eG2⟩ : ∃ z, z = ais G a1 (7 : Int32).toNatClampNeg l10 := ⟨_, rfl⟩
  rw [← eG2] at h
  have e3 : eM a0 G2 H2 := by rw [eG2, eH2]; exact eM.ais e
  have c4 : cM a0 H0 H2 := by rw [eH2]; exact cM.ais c ⟨96, by omega, (((e).1 96 (by omega)).2.2).trans q2⟩
  have kG2 : ∀ f a, ((70 ≤ f ∧ f ≤ 72) ∨ (79 ≤ f ∧ f ≤ 94) ∨ f = 96) → gr G f a0 = some a → gr G2 f a0 = some a := by intro f a _ z; rw [eG2]; exact z
  have q5 := kG2 96 a1 (by omega) q2
  have z6 := eM.simp e3
  try simp (disch := omega) only [z6]
  try simp only [((e3).2 96 a1 (by omega) q5).1, ((e3).2 96 a1 (by omega) q5).2]
  refine ite_lift h (fun h => ?_) (fun h => ?_)
  · try simp (disch := omega) only [z6]
    try simp only [((e3).2 96 a1 (by omega) q5).1, ((e3).2 96 a1 (by omega) q5).2]
    exact f_M_walk_319 e3 c4 hk  h
  · try simp (disch := omega) only [z6]
    try simp only [((e3).2 96 a1 (by omega) q5).1, ((e3).2 96 a1 (by omega) q5).2]
    refine all_lift h (fun H3 eH3 h => ?_)
    obtain ⟨G3, eG3⟩ : ∃ z, z = sl G2 98 a0 (0 : Int64) := ⟨_, rfl⟩
    rw [← eG3] at h
    have e7 : eM a0 G3 H3 := by rw [eG3, eH3]; exact eM.sl e3 (by omega)
    have c8 : cM a0 H0 H3 := by rw [eH3]; exact cM.sl c4
    have kG3 : ∀ f a, ((70 ≤ f ∧ f ≤ 72) ∨ (79 ≤ f ∧ f ≤ 94) ∨ f = 96) → gr G2 f a0 = some a → gr G3 f a0 = some a := by intro f a _ z; rw [eG3]; exact z
    have q9 := kG3 96 a1 (by omega) q5
    have z10 := eM.simp e7
    try simp (disch := omega) only [z10]
    try simp only [((e7).2 96 a1 (by omega) q9).1, ((e7).2 96 a1 (by omega) q9).2]
    exact f_M_walk_319 e7 c8 hk  h
set_option maxHeartbeats 4000000 in
theorem f_M_walk_263 {t : TY} {a0 : Nat} {G H H0 : GS} {K K' : GS → Prop} {r133 R133 : Int32 → Int32 → Int64 → Int32 → Int32 → Int32 → Int32 → Int32 → Int32 → GS → Prop} (e : eM a0 G H) (c : cM a0 H0 H) (hk : ∀ (G' H' : GS), eM a0 G' H' → cM a0 H0 H' → K G' → K' H') (hr133 : ∀ (x0 : Int32) (x1 : Int32) (x2 : Int64) (x3 : Int32) (x4 : Int32) (x5 : Int32) (x6 : Int32) (x7 : Int32) (x8 : Int32) (G H : GS), eM a0 G H → cM a0 H0 H → r133 x0 x1 x2 x3 x4 x5 x6 x7 x8 G → R133 x0 x1 x2 x3 x4 x5 x6 x7 x8 H) {l1 : Int32} {l2 : Int32} {l4 : Int64} {l6 : Int32} {l7 : Int32} {l8 : Int32} {l9 : Int32} {l10 : Int32} {l11 : Int32} {s0 : Option Nat} {s1 : Int64} (hs0 : s0 = some a0) (h : w_M_walk_263 t a0 K r133 l1 l2 l4 l6 l7 l8 l9 l10 l11 s0 s1 G) : w_M_walk_263 t a0 K' R133 l1 l2 l4 l6 l7 l8 l9 l10 l11 s0 s1 H := by
  unfold w_M_walk_263 at h ⊢
  have z1 := eM.simp e
  try simp (disch := omega) only [z1]
  refine ex_lift h (fun a1 q2 h => ?_)
  have z3 : a0 = a1 := Option.some.inj (hs0.symm.trans q2)
  subst z3
  refine and_lift h (fun h => ?_)
  refine all_lift h (fun H2 eH2 h => ?_)
  obtain ⟨G2, eG2⟩ : ∃ z, z = sl G 98 a0 s1 := ⟨_, rfl⟩
  rw [← eG2] at h
  have e4 : eM a0 G2 H2 := by rw [eG2, eH2]; exact eM.sl e (by omega)
  have c5 : cM a0 H0 H2 := by rw [eH2]; exact cM.sl c
  have kG2 : ∀ f a, ((70 ≤ f ∧ f ≤ 72) ∨ (79 ≤ f ∧ f ≤ 94) ∨ f = 96) → gr G f a0 = some a → gr G2 f a0 = some a := by intro f a _ z; rw [eG2]; exact z
  have z6 := eM.simp e4
  try simp (disch := omega) only [z6]
  refine bind_lift h (fun v3 h => ?_)
  exact hr133 _ _ _ _ _ _ _ _ _ _ _ e4 c5 h
set_option maxHeartbeats 4000000 in
theorem f_M_walk_217 {t : TY} {a0 : Nat} {G H H0 : GS} {K K' : GS → Prop} {r133 R133 : Int32 → Int32 → Int64 → Int32 → Int32 → Int32 → Int32 → Int32 → Int32 → GS → Prop} (e : eM a0 G H) (c : cM a0 H0 H) (hk : ∀ (G' H' : GS), eM a0 G' H' → cM a0 H0 H' → K G' → K' H') (hr133 : ∀ (x0 : Int32) (x1 : Int32) (x2 : Int64) (x3 : Int32) (x4 : Int32) (x5 : Int32) (x6 : Int32) (x7 : Int32) (x8 : Int32) (G H : GS), eM a0 G H → cM a0 H0 H → r133 x0 x1 x2 x3 x4 x5 x6 x7 x8 G → R133 x0 x1 x2 x3 x4 x5 x6 x7 x8 H) {l1 : Int32} {l2 : Int32} {l4 : Int64} {l6 : Int32} {l7 : Int32} {l8 : Int32} {l9 : Int32} {l10 : Int32} {l11 : Int32} {s0 : Int32} (h : w_M_walk_217 t a0 K r133 l1 l2 l4 l6 l7 l8 l9 l10 l11 s0 G) : w_M_walk_217 t a0 K' R133 l1 l2 l4 l6 l7 l8 l9 l10 l11 s0 H := by
  unfold w_M_walk_217 at h ⊢
  have z1 := eM.simp e
  try simp (disch := omega) only [z1]
  refine ite_lift h (fun h => ?_) (fun h => ?_)
  · try simp (disch := omega) only [z1]
    refine and_lift h (fun h => ?_)
    refine f_M_qid e (fun G1 H1 e2 c3 h => ?_) h
    have c3 := (c).tr c3
    have z4 := eM.simp e2
    try simp (disch := omega) only [z4]
    refine bind_lift h (fun v2 h => ?_)
    refine f_M_behind e2 (fun v3 h => ?_) h
    refine bind_lift h (fun v4 h => ?_)
    exact hr133 _ _ _ _ _ _ _ _ _ _ _ e2 c3 h
  · try simp (disch := omega) only [z1]
    refine and_lift h (fun h => ?_)
    refine f_M_isDirectory e (fun v5 h => ?_) h
    refine ite_lift h (fun h => ?_) (fun h => ?_)
    · try simp (disch := omega) only [z1]
      refine f_M_may e (fun v6 h => ?_) h
      refine ite_lift h (fun h => ?_) (fun h => ?_)
      · try simp (disch := omega) only [z1]
        exact f_M_walk_263 e c hk hr133  rfl h
      · try simp (disch := omega) only [z1]
        exact f_M_walk_263 e c hk hr133  rfl h
    · try simp (disch := omega) only [z1]
      exact f_M_walk_263 e c hk hr133  rfl h
set_option maxHeartbeats 4000000 in
theorem f_M_walk_172 {t : TY} {a0 : Nat} {G H H0 : GS} {K K' : GS → Prop} {r133 R133 : Int32 → Int32 → Int64 → Int32 → Int32 → Int32 → Int32 → Int32 → Int32 → GS → Prop} (e : eM a0 G H) (c : cM a0 H0 H) (hk : ∀ (G' H' : GS), eM a0 G' H' → cM a0 H0 H' → K G' → K' H') (hr133 : ∀ (x0 : Int32) (x1 : Int32) (x2 : Int64) (x3 : Int32) (x4 : Int32) (x5 : Int32) (x6 : Int32) (x7 : Int32) (x8 : Int32) (G H : GS), eM a0 G H → cM a0 H0 H → r133 x0 x1 x2 x3 x4 x5 x6 x7 x8 G → R133 x0 x1 x2 x3 x4 x5 x6 x7 x8 H) {l1 : Int32} {l2 : Int32} {l4 : Int64} {l6 : Int32} {l7 : Int32} {l8 : Int32} {l9 : Int32} {l10 : Int32} {l11 : Int32} (h : w_M_walk_172 t a0 K r133 l1 l2 l4 l6 l7 l8 l9 l10 l11 G) : w_M_walk_172 t a0 K' R133 l1 l2 l4 l6 l7 l8 l9 l10 l11 H := by
  unfold w_M_walk_172 at h ⊢
  have z1 := eM.simp e
  try simp (disch := omega) only [z1]
  exact f_M_walk_217 e c hk hr133  h
set_option maxHeartbeats 4000000 in
theorem f_M_walk_133 {t : TY} {a0 : Nat} {G H H0 : GS} {K K' : GS → Prop} (e : eM a0 G H) (c : cM a0 H0 H) (hk : ∀ (G' H' : GS), eM a0 G' H' → cM a0 H0 H' → K G' → K' H') : ∀ (n : Nat) {l1 : Int32} {l2 : Int32} {l4 : Int64} {l6 : Int32} {l7 : Int32} {l8 : Int32} {l9 : Int32} {l10 : Int32} {l11 : Int32}, w_M_walk_133 t a0 K n l1 l2 l4 l6 l7 l8 l9 l10 l11 G → w_M_walk_133 t a0 K' n l1 l2 l4 l6 l7 l8 l9 l10 l11 H := by
  intro n
  induction n generalizing G H with
  | zero => intro l1 l2 l4 l6 l7 l8 l9 l10 l11 h; exact h.elim
  | succ n ih =>
    intro l1 l2 l4 l6 l7 l8 l9 l10 l11 h
    have hr133 : ∀ (x0 : Int32) (x1 : Int32) (x2 : Int64) (x3 : Int32) (x4 : Int32) (x5 : Int32) (x6 : Int32) (x7 : Int32) (x8 : Int32) (G H : GS), eM a0 G H → cM a0 H0 H → w_M_walk_133 t a0 K n x0 x1 x2 x3 x4 x5 x6 x7 x8 G → w_M_walk_133 t a0 K' n x0 x1 x2 x3 x4 x5 x6 x7 x8 H := fun _ _ _ _ _ _ _ _ _ G H e c h => ih e c h
    unfold w_M_walk_133 at h ⊢
    have z1 := eM.simp e
    try simp (disch := omega) only [z1]
    try dsimp only at h ⊢
    refine ite_lift h (fun h => ?_) (fun h => ?_)
    · try simp (disch := omega) only [z1]
      exact f_M_walk_300 e c hk  h
    · try simp (disch := omega) only [z1]
      refine and_lift h (fun h => ?_)
      refine ite_lift h (fun h => ?_) (fun h => ?_)
      · try simp (disch := omega) only [z1]
        exact f_M_walk_300 e c hk  h
      · try simp (disch := omega) only [z1]
        refine f_M_isDirectory e (fun v1 h => ?_) h
        refine ite_lift h (fun h => ?_) (fun h => ?_)
        · try simp (disch := omega) only [z1]
          exact f_M_walk_172 e c hk hr133  h
        · try simp (disch := omega) only [z1]
          refine f_M_may e (fun v2 h => ?_) h
          refine ite_lift h (fun h => ?_) (fun h => ?_)
          · try simp (disch := omega) only [z1]
            refine f_M_isDots e (fun v3 h => ?_) h
            refine ite_lift h (fun h => ?_) (fun h => ?_)
            · try simp (disch := omega) only [z1]
              refine f_M_named e (fun v4 h => ?_) h
              exact f_M_walk_217 e c hk hr133  h
            · try simp (disch := omega) only [z1]
              refine ite_lift h (fun h => ?_) (fun h => ?_)
              · try simp (disch := omega) only [z1]
                refine f_M_at e (fun v5 h => ?_) h
                refine f_M_find e (fun v6 h => ?_) h
                exact f_M_walk_217 e c hk hr133  h
              · try simp (disch := omega) only [z1]
                exact f_M_walk_217 e c hk hr133  h
          · try simp (disch := omega) only [z1]
            exact f_M_walk_172 e c hk hr133  h
set_option maxHeartbeats 4000000 in
theorem f_M_walk_94 {t : TY} {a0 : Nat} {G H H0 : GS} {K K' : GS → Prop} (e : eM a0 G H) (c : cM a0 H0 H) (hk : ∀ (G' H' : GS), eM a0 G' H' → cM a0 H0 H' → K G' → K' H') {l1 : Int32} {l2 : Int32} {l3 : Int32} {l4 : Int64} {l6 : Int32} (h : w_M_walk_94 t a0 K l1 l2 l3 l4 l6 G) : w_M_walk_94 t a0 K' l1 l2 l3 l4 l6 H := by
  unfold w_M_walk_94 at h ⊢
  have z1 := eM.simp e
  try simp (disch := omega) only [z1]
  refine and_lift h (fun h => ?_)
  refine ite_lift h (fun h => ?_) (fun h => ?_)
  · try simp (disch := omega) only [z1]
    refine f_M_get e (fun v1 h => ?_) h
    refine bind_lift h (fun v2 h => ?_)
    refine f_M_put e (fun G3 H3 e2 c3 h => ?_) h
    have c3 := (c).tr c3
    have z4 := eM.simp e2
    try simp (disch := omega) only [z4]
    obtain ⟨n, h⟩ := h
    refine ⟨n, ?_⟩
    exact f_M_walk_133 e2 c3 hk _  h
  · try simp (disch := omega) only [z1]
    exact hk _ _ e c h
set_option maxHeartbeats 4000000 in
theorem f_M_walk_72 {t : TY} {a0 : Nat} {G H H0 : GS} {K K' : GS → Prop} (e : eM a0 G H) (c : cM a0 H0 H) (hk : ∀ (G' H' : GS), eM a0 G' H' → cM a0 H0 H' → K G' → K' H') {l1 : Int32} {l2 : Int32} {l3 : Int32} {l4 : Int64} {l6 : Int32} (h : w_M_walk_72 t a0 K l1 l2 l3 l4 l6 G) : w_M_walk_72 t a0 K' l1 l2 l3 l4 l6 H := by
  unfold w_M_walk_72 at h ⊢
  have z1 := eM.simp e
  try simp (disch := omega) only [z1]
  refine ite_lift h (fun h => ?_) (fun h => ?_)
  · try simp (disch := omega) only [z1]
    exact f_M_walk_94 e c hk  h
  · try simp (disch := omega) only [z1]
    refine and_lift h (fun h => ?_)
    refine f_M_many e (fun v1 h => ?_) h
    refine ite_lift h (fun h => ?_) (fun h => ?_)
    · try simp (disch := omega) only [z1]
      exact f_M_walk_94 e c hk  h
    · try simp (disch := omega) only [z1]
      refine all_lift h (fun H2 eH2 h => ?_)
      obtain ⟨G2, eG2⟩ : ∃ z, z = sl G 98 a0 (1935960422 : Int64) := ⟨_, rfl⟩
      rw [← eG2] at h
      have e2 : eM a0 G2 H2 := by rw [eG2, eH2]; exact eM.sl e (by omega)
      have c3 : cM a0 H0 H2 := by rw [eH2]; exact cM.sl c
      have kG2 : ∀ f a, ((70 ≤ f ∧ f ≤ 72) ∨ (79 ≤ f ∧ f ≤ 94) ∨ f = 96) → gr G f a0 = some a → gr G2 f a0 = some a := by intro f a _ z; rw [eG2]; exact z
      have z4 := eM.simp e2
      try simp (disch := omega) only [z4]
      exact f_M_walk_94 e2 c3 hk  h
set_option maxHeartbeats 4000000 in
theorem f_M_walk_26 {t : TY} {a0 : Nat} {G H H0 : GS} {K K' : GS → Prop} (e : eM a0 G H) (c : cM a0 H0 H) (hk : ∀ (G' H' : GS), eM a0 G' H' → cM a0 H0 H' → K G' → K' H') {l1 : Int32} {l2 : Int32} {l3 : Int32} {l4 : Int64} {s0 : Int32} (h : w_M_walk_26 t a0 K l1 l2 l3 l4 s0 G) : w_M_walk_26 t a0 K' l1 l2 l3 l4 s0 H := by
  unfold w_M_walk_26 at h ⊢
  have z1 := eM.simp e
  try simp (disch := omega) only [z1]
  refine and_lift h (fun h => ?_)
  refine ex_lift h (fun a1 q2 h => ?_)
  try simp only [((e).2 90 a1 (by omega) q2).1, ((e).2 90 a1 (by omega) q2).2]
  refine and_lift h (fun h => ?_)
  refine and_lift h (fun h => ?_)
  refine ite_lift h (fun h => ?_) (fun h => ?_)
  · try simp (disch := omega) only [z1]
    try simp only [((e).2 90 a1 (by omega) q2).1, ((e).2 90 a1 (by omega) q2).2]
    refine ite_lift h (fun h => ?_) (fun h => ?_)
    · try simp (disch := omega) only [z1]
      try simp only [((e).2 90 a1 (by omega) q2).1, ((e).2 90 a1 (by omega) q2).2]
      exact f_M_walk_72 e c hk  h
    · try simp (disch := omega) only [z1]
      try simp only [((e).2 90 a1 (by omega) q2).1, ((e).2 90 a1 (by omega) q2).2]
      refine f_M_fid e (fun v2 h => ?_) h
      refine ite_lift h (fun h => ?_) (fun h => ?_)
      · try simp (disch := omega) only [z1]
        try simp only [((e).2 90 a1 (by omega) q2).1, ((e).2 90 a1 (by omega) q2).2]
        exact f_M_walk_72 e c hk  h
      · try simp (disch := omega) only [z1]
        try simp only [((e).2 90 a1 (by omega) q2).1, ((e).2 90 a1 (by omega) q2).2]
        refine all_lift h (fun H3 eH3 h => ?_)
        obtain ⟨G3, eG3⟩ : ∃ z, z = sl G 98 a0 (435728772713 : Int64) := ⟨_, rfl⟩
        rw [← eG3] at h
        have e3 : eM a0 G3 H3 := by rw [eG3, eH3]; exact eM.sl e (by omega)
        have c4 : cM a0 H0 H3 := by rw [eH3]; exact cM.sl c
        have kG3 : ∀ f a, ((70 ≤ f ∧ f ≤ 72) ∨ (79 ≤ f ∧ f ≤ 94) ∨ f = 96) → gr G f a0 = some a → gr G3 f a0 = some a := by intro f a _ z; rw [eG3]; exact z
        have q5 := kG3 90 a1 (by omega) q2
        have z6 := eM.simp e3
        try simp (disch := omega) only [z6]
        try simp only [((e3).2 90 a1 (by omega) q5).1, ((e3).2 90 a1 (by omega) q5).2]
        exact f_M_walk_94 e3 c4 hk  h
  · try simp (disch := omega) only [z1]
    try simp only [((e).2 90 a1 (by omega) q2).1, ((e).2 90 a1 (by omega) q2).2]
    refine all_lift h (fun H4 eH4 h => ?_)
    obtain ⟨G4, eG4⟩ : ∃ z, z = sl G 98 a0 (1852141679 : Int64) := ⟨_, rfl⟩
    rw [← eG4] at h
    have e7 : eM a0 G4 H4 := by rw [eG4, eH4]; exact eM.sl e (by omega)
    have c8 : cM a0 H0 H4 := by rw [eH4]; exact cM.sl c
    have kG4 : ∀ f a, ((70 ≤ f ∧ f ≤ 72) ∨ (79 ≤ f ∧ f ≤ 94) ∨ f = 96) → gr G f a0 = some a → gr G4 f a0 = some a := by intro f a _ z; rw [eG4]; exact z
    have q9 := kG4 90 a1 (by omega) q2
    have z10 := eM.simp e7
    try simp (disch := omega) only [z10]
    try simp only [((e7).2 90 a1 (by omega) q9).1, ((e7).2 90 a1 (by omega) q9).2]
    exact f_M_walk_94 e7 c8 hk  h
set_option maxHeartbeats 4000000 in
theorem f_M_walk {t : TY} {a0 : Nat} {G H : GS} {K K' : GS → Prop} (e : eM a0 G H) (hk : ∀ (G' H' : GS), eM a0 G' H' → cM a0 H H' → K G' → K' H') {p1 : Int32} {p2 : Int32} {p3 : Int32} (h : w_M_walk t G a0 p1 p2 p3 K) : w_M_walk t H a0 p1 p2 p3 K' := by
  obtain ⟨H0, eH0⟩ : ∃ z, z = H := ⟨_, rfl⟩
  have c : cM a0 H0 H := by rw [eH0]; exact cM.rf
  have hk : ∀ (G' H' : GS), eM a0 G' H' → cM a0 H0 H' → K G' → K' H' := by rw [eH0]; exact hk
  unfold w_M_walk at h ⊢
  have z1 := eM.simp e
  try simp (disch := omega) only [z1]
  refine and_lift h (fun h => ?_)
  refine f_M_get e (fun v1 h => ?_) h
  refine ex_lift h (fun a2 q2 h => ?_)
  try simp only [((e).2 87 a2 (by omega) q2).1, ((e).2 87 a2 (by omega) q2).2]
  refine and_lift h (fun h => ?_)
  refine and_lift h (fun h => ?_)
  refine ite_lift h (fun h => ?_) (fun h => ?_)
  · try simp (disch := omega) only [z1]
    try simp only [((e).2 87 a2 (by omega) q2).1, ((e).2 87 a2 (by omega) q2).2]
    exact f_M_walk_26 e c hk  h
  · try simp (disch := omega) only [z1]
    try simp only [((e).2 87 a2 (by omega) q2).1, ((e).2 87 a2 (by omega) q2).2]
    exact f_M_walk_26 e c hk  h
set_option maxHeartbeats 4000000 in
theorem f_M_reach_374 {t : TY} {a0 : Nat} {G H H0 : GS} {K K' : GS → Prop} (e : eM a0 G H) (c : cM a0 H0 H) (hk : ∀ (G' H' : GS), eM a0 G' H' → cM a0 H0 H' → K G' → K' H') {l1 : Int32} {l2 : Int32} {l3 : Int32} (h : w_M_reach_374 t a0 K l1 l2 l3 G) : w_M_reach_374 t a0 K' l1 l2 l3 H := by
  unfold w_M_reach_374 at h ⊢
  have z1 := eM.simp e
  try simp (disch := omega) only [z1]
  refine and_lift h (fun h => ?_)
  refine f_M_open e (fun G1 H1 e2 c3 h => ?_) h
  have c3 := (c).tr c3
  have z4 := eM.simp e2
  try simp (disch := omega) only [z4]
  refine f_M_qid e2 (fun G2 H2 e5 c6 h => ?_) h
  have c6 := (c3).tr c6
  have z7 := eM.simp e5
  try simp (disch := omega) only [z7]
  refine f_M_put e5 (fun G3 H3 e8 c9 h => ?_) h
  have c9 := (c6).tr c9
  have z10 := eM.simp e8
  try simp (disch := omega) only [z10]
  exact hk _ _ e8 c9 h
set_option maxHeartbeats 4000000 in
theorem f_M_reach_313 {t : TY} {a0 : Nat} {G H H0 : GS} {K K' : GS → Prop} (e : eM a0 G H) (c : cM a0 H0 H) (hk : ∀ (G' H' : GS), eM a0 G' H' → cM a0 H0 H' → K G' → K' H') {l1 : Int32} {l2 : Int32} {l3 : Int32} {l4 : Int32} (h : w_M_reach_313 t a0 K l1 l2 l3 l4 G) : w_M_reach_313 t a0 K' l1 l2 l3 l4 H := by
  unfold w_M_reach_313 at h ⊢
  have z1 := eM.simp e
  try simp (disch := omega) only [z1]
  refine and_lift h (fun h => ?_)
  refine ite_lift h (fun h => ?_) (fun h => ?_)
  · try simp (disch := omega) only [z1]
    refine ite_lift h (fun h => ?_) (fun h => ?_)
    · try simp (disch := omega) only [z1]
      exact f_M_reach_374 e c hk  h
    · try simp (disch := omega) only [z1]
      refine f_M_at e (fun v1 h => ?_) h
      refine ite_lift h (fun h => ?_) (fun h => ?_)
      · try simp (disch := omega) only [z1]
        exact f_M_reach_374 e c hk  h
      · try simp (disch := omega) only [z1]
        refine f_M_begin e (fun G2 H2 e2 c3 h => ?_) h
        have c3 := (c).tr c3
        have z4 := eM.simp e2
        try simp (disch := omega) only [z4]
        refine f_M_set e2 (fun G3 H3 e5 c6 h => ?_) h
        have c6 := (c3).tr c6
        have z7 := eM.simp e5
        try simp (disch := omega) only [z7]
        refine f_M_changes e5 (fun G4 H4 e8 c9 h => ?_) h
        have c9 := (c6).tr c9
        have z10 := eM.simp e8
        try simp (disch := omega) only [z10]
        refine f_M_commit e8 (fun G5 H5 v6 e11 c12 h => ?_) h
        have c12 := (c9).tr c12
        have z13 := eM.simp e11
        try simp (disch := omega) only [z13]
        refine ite_lift h (fun h => ?_) (fun h => ?_)
        · try simp (disch := omega) only [z13]
          exact f_M_reach_374 e11 c12 hk  h
        · try simp (disch := omega) only [z13]
          exact hk _ _ e11 c12 h
  · try simp (disch := omega) only [z1]
    exact hk _ _ e c h
set_option maxHeartbeats 4000000 in
theorem f_M_reach_288 {t : TY} {a0 : Nat} {G H H0 : GS} {K K' : GS → Prop} (e : eM a0 G H) (c : cM a0 H0 H) (hk : ∀ (G' H' : GS), eM a0 G' H' → cM a0 H0 H' → K G' → K' H') {l1 : Int32} {l2 : Int32} {l3 : Int32} {l4 : Int32} {l7 : Int32} (h : w_M_reach_288 t a0 K l1 l2 l3 l4 l7 G) : w_M_reach_288 t a0 K' l1 l2 l3 l4 l7 H := by
  unfold w_M_reach_288 at h ⊢
  have z1 := eM.simp e
  try simp (disch := omega) only [z1]
  refine and_lift h (fun h => ?_)
  refine f_M_at e (fun v1 h => ?_) h
  refine ite_lift h (fun h => ?_) (fun h => ?_)
  · try simp (disch := omega) only [z1]
    exact f_M_reach_313 e c hk  h
  · try simp (disch := omega) only [z1]
    refine ite_lift h (fun h => ?_) (fun h => ?_)
    · try simp (disch := omega) only [z1]
      exact f_M_reach_313 e c hk  h
    · try simp (disch := omega) only [z1]
      refine all_lift h (fun H2 eH2 h => ?_)
      obtain ⟨G2, eG2⟩ : ∃ z, z = sl G 98 a0 (1818458213 : Int64) := ⟨_, rfl⟩
      rw [← eG2] at h
      have e2 : eM a0 G2 H2 := by rw [eG2, eH2]; exact eM.sl e (by omega)
      have c3 : cM a0 H0 H2 := by rw [eH2]; exact cM.sl c
      have kG2 : ∀ f a, ((70 ≤ f ∧ f ≤ 72) ∨ (79 ≤ f ∧ f ≤ 94) ∨ f = 96) → gr G f a0 = some a → gr G2 f a0 = some a := by intro f a _ z; rw [eG2]; exact z
      have z4 := eM.simp e2
      try simp (disch := omega) only [z4]
      exact f_M_reach_313 e2 c3 hk  h
set_option maxHeartbeats 4000000 in
theorem f_M_reach_259 {t : TY} {a0 : Nat} {G H H0 : GS} {K K' : GS → Prop} (e : eM a0 G H) (c : cM a0 H0 H) (hk : ∀ (G' H' : GS), eM a0 G' H' → cM a0 H0 H' → K G' → K' H') {l1 : Int32} {l2 : Int32} {l3 : Int32} {l4 : Int32} {l7 : Int32} (h : w_M_reach_259 t a0 K l1 l2 l3 l4 l7 G) : w_M_reach_259 t a0 K' l1 l2 l3 l4 l7 H := by
  unfold w_M_reach_259 at h ⊢
  have z1 := eM.simp e
  try simp (disch := omega) only [z1]
  refine ite_lift h (fun h => ?_) (fun h => ?_)
  · try simp (disch := omega) only [z1]
    exact f_M_reach_288 e c hk  h
  · try simp (disch := omega) only [z1]
    refine and_lift h (fun h => ?_)
    refine f_M_mayIn e (fun v1 h => ?_) h
    refine ite_lift h (fun h => ?_) (fun h => ?_)
    · try simp (disch := omega) only [z1]
      exact f_M_reach_288 e c hk  h
    · try simp (disch := omega) only [z1]
      refine all_lift h (fun H2 eH2 h => ?_)
      obtain ⟨G2, eG2⟩ : ∃ z, z = sl G 98 a0 (1836213616 : Int64) := ⟨_, rfl⟩
      rw [← eG2] at h
      have e2 : eM a0 G2 H2 := by rw [eG2, eH2]; exact eM.sl e (by omega)
      have c3 : cM a0 H0 H2 := by rw [eH2]; exact cM.sl c
      have kG2 : ∀ f a, ((70 ≤ f ∧ f ≤ 72) ∨ (79 ≤ f ∧ f ≤ 94) ∨ f = 96) → gr G f a0 = some a → gr G2 f a0 = some a := by intro f a _ z; rw [eG2]; exact z
      have z4 := eM.simp e2
      try simp (disch := omega) only [z4]
      exact f_M_reach_313 e2 c3 hk  h
set_option maxHeartbeats 4000000 in
theorem f_M_reach_249 {t : TY} {a0 : Nat} {G H H0 : GS} {K K' : GS → Prop} (e : eM a0 G H) (c : cM a0 H0 H) (hk : ∀ (G' H' : GS), eM a0 G' H' → cM a0 H0 H' → K G' → K' H') {l1 : Int32} {l2 : Int32} {l3 : Int32} {l4 : Int32} (h : w_M_reach_249 t a0 K l1 l2 l3 l4 G) : w_M_reach_249 t a0 K' l1 l2 l3 l4 H := by
  unfold w_M_reach_249 at h ⊢
  have z1 := eM.simp e
  try simp (disch := omega) only [z1]
  refine and_lift h (fun h => ?_)
  refine all_lift h (fun H1 eH1 h => ?_)
  obtain ⟨G1, eG1⟩ : ∃ z, z = sl G 98 a0 (1836213616 : Int64) := ⟨_, rfl⟩
  rw [← eG1] at h
  have e2 : eM a0 G1 H1 := by rw [eG1, eH1]; exact eM.sl e (by omega)
  have c3 : cM a0 H0 H1 := by rw [eH1]; exact cM.sl c
  have kG1 : ∀ f a, ((70 ≤ f ∧ f ≤ 72) ∨ (79 ≤ f ∧ f ≤ 94) ∨ f = 96) → gr G f a0 = some a → gr G1 f a0 = some a := by intro f a _ z; rw [eG1]; exact z
  have z4 := eM.simp e2
  try simp (disch := omega) only [z4]
  exact f_M_reach_313 e2 c3 hk  h
set_option maxHeartbeats 4000000 in
theorem f_M_reach_229 {t : TY} {a0 : Nat} {G H H0 : GS} {K K' : GS → Prop} (e : eM a0 G H) (c : cM a0 H0 H) (hk : ∀ (G' H' : GS), eM a0 G' H' → cM a0 H0 H' → K G' → K' H') {l1 : Int32} {l2 : Int32} {l3 : Int32} {l4 : Int32} {l7 : Int32} (h : w_M_reach_229 t a0 K l1 l2 l3 l4 l7 G) : w_M_reach_229 t a0 K' l1 l2 l3 l4 l7 H := by
  unfold w_M_reach_229 at h ⊢
  have z1 := eM.simp e
  try simp (disch := omega) only [z1]
  refine ite_lift h (fun h => ?_) (fun h => ?_)
  · try simp (disch := omega) only [z1]
    exact f_M_reach_259 e c hk  h
  · try simp (disch := omega) only [z1]
    refine and_lift h (fun h => ?_)
    refine f_M_may e (fun v1 h => ?_) h
    refine ite_lift h (fun h => ?_) (fun h => ?_)
    · try simp (disch := omega) only [z1]
      exact f_M_reach_259 e c hk  h
    · try simp (disch := omega) only [z1]
      exact f_M_reach_249 e c hk  h
set_option maxHeartbeats 4000000 in
theorem f_M_reach_211 {t : TY} {a0 : Nat} {G H H0 : GS} {K K' : GS → Prop} (e : eM a0 G H) (c : cM a0 H0 H) (hk : ∀ (G' H' : GS), eM a0 G' H' → cM a0 H0 H' → K G' → K' H') {l1 : Int32} {l2 : Int32} {l3 : Int32} {l4 : Int32} {l6 : Int32} {l7 : Int32} (h : w_M_reach_211 t a0 K l1 l2 l3 l4 l6 l7 G) : w_M_reach_211 t a0 K' l1 l2 l3 l4 l6 l7 H := by
  unfold w_M_reach_211 at h ⊢
  have z1 := eM.simp e
  try simp (disch := omega) only [z1]
  refine ite_lift h (fun h => ?_) (fun h => ?_)
  · try simp (disch := omega) only [z1]
    exact f_M_reach_229 e c hk  h
  · try simp (disch := omega) only [z1]
    refine and_lift h (fun h => ?_)
    refine f_M_may e (fun v1 h => ?_) h
    refine ite_lift h (fun h => ?_) (fun h => ?_)
    · try simp (disch := omega) only [z1]
      exact f_M_reach_249 e c hk  h
    · try simp (disch := omega) only [z1]
      exact f_M_reach_229 e c hk  h
set_option maxHeartbeats 4000000 in
theorem f_M_reach_193 {t : TY} {a0 : Nat} {G H H0 : GS} {K K' : GS → Prop} (e : eM a0 G H) (c : cM a0 H0 H) (hk : ∀ (G' H' : GS), eM a0 G' H' → cM a0 H0 H' → K G' → K' H') {l1 : Int32} {l2 : Int32} {l3 : Int32} {l4 : Int32} {l5 : Int32} {l6 : Int32} {l7 : Int32} (h : w_M_reach_193 t a0 K l1 l2 l3 l4 l5 l6 l7 G) : w_M_reach_193 t a0 K' l1 l2 l3 l4 l5 l6 l7 H := by
  unfold w_M_reach_193 at h ⊢
  have z1 := eM.simp e
  try simp (disch := omega) only [z1]
  refine ite_lift h (fun h => ?_) (fun h => ?_)
  · try simp (disch := omega) only [z1]
    exact f_M_reach_211 e c hk  h
  · try simp (disch := omega) only [z1]
    refine and_lift h (fun h => ?_)
    refine f_M_may e (fun v1 h => ?_) h
    refine ite_lift h (fun h => ?_) (fun h => ?_)
    · try simp (disch := omega) only [z1]
      exact f_M_reach_249 e c hk  h
    · try simp (disch := omega) only [z1]
      exact f_M_reach_211 e c hk  h
set_option maxHeartbeats 4000000 in
theorem f_M_reach_127 {t : TY} {a0 : Nat} {G H H0 : GS} {K K' : GS → Prop} {r74 R74 : Int32 → Int32 → Int32 → Int32 → Int32 → Int32 → Int32 → Int32 → GS → Prop} (e : eM a0 G H) (c : cM a0 H0 H) (hk : ∀ (G' H' : GS), eM a0 G' H' → cM a0 H0 H' → K G' → K' H') (hr74 : ∀ (x0 : Int32) (x1 : Int32) (x2 : Int32) (x3 : Int32) (x4 : Int32) (x5 : Int32) (x6 : Int32) (x7 : Int32) (G H : GS), eM a0 G H → cM a0 H0 H → r74 x0 x1 x2 x3 x4 x5 x6 x7 G → R74 x0 x1 x2 x3 x4 x5 x6 x7 H) {l1 : Int32} {l2 : Int32} {l3 : Int32} {l4 : Int32} {l5 : Int32} {l6 : Int32} {l8 : Int32} {s0 : Int32} (h : w_M_reach_127 t a0 K r74 l1 l2 l3 l4 l5 l6 l8 s0 G) : w_M_reach_127 t a0 K' R74 l1 l2 l3 l4 l5 l6 l8 s0 H := by
  unfold w_M_reach_127 at h ⊢
  have z1 := eM.simp e
  try simp (disch := omega) only [z1]
  refine bind_lift h (fun v1 h => ?_)
  exact hr74 _ _ _ _ _ _ _ _ _ _ e c h
set_option maxHeartbeats 4000000 in
theorem f_M_reach_122 {t : TY} {a0 : Nat} {G H H0 : GS} {K K' : GS → Prop} {r74 R74 : Int32 → Int32 → Int32 → Int32 → Int32 → Int32 → Int32 → Int32 → GS → Prop} (e : eM a0 G H) (c : cM a0 H0 H) (hk : ∀ (G' H' : GS), eM a0 G' H' → cM a0 H0 H' → K G' → K' H') (hr74 : ∀ (x0 : Int32) (x1 : Int32) (x2 : Int32) (x3 : Int32) (x4 : Int32) (x5 : Int32) (x6 : Int32) (x7 : Int32) (G H : GS), eM a0 G H → cM a0 H0 H → r74 x0 x1 x2 x3 x4 x5 x6 x7 G → R74 x0 x1 x2 x3 x4 x5 x6 x7 H) {l1 : Int32} {l2 : Int32} {l3 : Int32} {l4 : Int32} {l5 : Int32} {l6 : Int32} {l8 : Int32} (h : w_M_reach_122 t a0 K r74 l1 l2 l3 l4 l5 l6 l8 G) : w_M_reach_122 t a0 K' R74 l1 l2 l3 l4 l5 l6 l8 H := by
  unfold w_M_reach_122 at h ⊢
  have z1 := eM.simp e
  try simp (disch := omega) only [z1]
  exact f_M_reach_127 e c hk hr74  h
set_option maxHeartbeats 4000000 in
theorem f_M_reach_126 {t : TY} {a0 : Nat} {G H H0 : GS} {K K' : GS → Prop} {r74 R74 : Int32 → Int32 → Int32 → Int32 → Int32 → Int32 → Int32 → Int32 → GS → Prop} (e : eM a0 G H) (c : cM a0 H0 H) (hk : ∀ (G' H' : GS), eM a0 G' H' → cM a0 H0 H' → K G' → K' H') (hr74 : ∀ (x0 : Int32) (x1 : Int32) (x2 : Int32) (x3 : Int32) (x4 : Int32) (x5 : Int32) (x6 : Int32) (x7 : Int32) (G H : GS), eM a0 G H → cM a0 H0 H → r74 x0 x1 x2 x3 x4 x5 x6 x7 G → R74 x0 x1 x2 x3 x4 x5 x6 x7 H) {l1 : Int32} {l2 : Int32} {l3 : Int32} {l4 : Int32} {l5 : Int32} {l6 : Int32} {l8 : Int32} (h : w_M_reach_126 t a0 K r74 l1 l2 l3 l4 l5 l6 l8 G) : w_M_reach_126 t a0 K' R74 l1 l2 l3 l4 l5 l6 l8 H := by
  unfold w_M_reach_126 at h ⊢
  have z1 := eM.simp e
  try simp (disch := omega) only [z1]
  exact f_M_reach_127 e c hk hr74  h
set_option maxHeartbeats 4000000 in
theorem f_M_reach_74 {t : TY} {a0 : Nat} {G H H0 : GS} {K K' : GS → Prop} (e : eM a0 G H) (c : cM a0 H0 H) (hk : ∀ (G' H' : GS), eM a0 G' H' → cM a0 H0 H' → K G' → K' H') : ∀ (n : Nat) {l1 : Int32} {l2 : Int32} {l3 : Int32} {l4 : Int32} {l5 : Int32} {l6 : Int32} {l7 : Int32} {l8 : Int32}, w_M_reach_74 t a0 K n l1 l2 l3 l4 l5 l6 l7 l8 G → w_M_reach_74 t a0 K' n l1 l2 l3 l4 l5 l6 l7 l8 H := by
  intro n
  induction n generalizing G H with
  | zero => intro l1 l2 l3 l4 l5 l6 l7 l8 h; exact h.elim
  | succ n ih =>
    intro l1 l2 l3 l4 l5 l6 l7 l8 h
    have hr74 : ∀ (x0 : Int32) (x1 : Int32) (x2 : Int32) (x3 : Int32) (x4 : Int32) (x5 : Int32) (x6 : Int32) (x7 : Int32) (G H : GS), eM a0 G H → cM a0 H0 H → w_M_reach_74 t a0 K n x0 x1 x2 x3 x4 x5 x6 x7 G → w_M_reach_74 t a0 K' n x0 x1 x2 x3 x4 x5 x6 x7 H := fun _ _ _ _ _ _ _ _ G H e c h => ih e c h
    unfold w_M_reach_74 at h ⊢
    have z1 := eM.simp e
    try simp (disch := omega) only [z1]
    try dsimp only at h ⊢
    refine ite_lift h (fun h => ?_) (fun h => ?_)
    · try simp (disch := omega) only [z1]
      refine and_lift h (fun h => ?_)
      refine ex_lift h (fun a1 q2 h => ?_)
      try simp only [((e).2 90 a1 (by omega) q2).1, ((e).2 90 a1 (by omega) q2).2]
      refine and_lift h (fun h => ?_)
      refine and_lift h (fun h => ?_)
      refine ite_lift h (fun h => ?_) (fun h => ?_)
      · try simp (disch := omega) only [z1]
        try simp only [((e).2 90 a1 (by omega) q2).1, ((e).2 90 a1 (by omega) q2).2]
        refine ite_lift h (fun h => ?_) (fun h => ?_)
        · try simp (disch := omega) only [z1]
          try simp only [((e).2 90 a1 (by omega) q2).1, ((e).2 90 a1 (by omega) q2).2]
          refine f_M_isDirectory e (fun v2 h => ?_) h
          refine ite_lift h (fun h => ?_) (fun h => ?_)
          · try simp (disch := omega) only [z1]
            try simp only [((e).2 90 a1 (by omega) q2).1, ((e).2 90 a1 (by omega) q2).2]
            exact f_M_reach_193 e c hk  h
          · try simp (disch := omega) only [z1]
            try simp only [((e).2 90 a1 (by omega) q2).1, ((e).2 90 a1 (by omega) q2).2]
            refine ite_lift h (fun h => ?_) (fun h => ?_)
            · try simp (disch := omega) only [z1]
              try simp only [((e).2 90 a1 (by omega) q2).1, ((e).2 90 a1 (by omega) q2).2]
              exact f_M_reach_193 e c hk  h
            · try simp (disch := omega) only [z1]
              try simp only [((e).2 90 a1 (by omega) q2).1, ((e).2 90 a1 (by omega) q2).2]
              refine all_lift h (fun H3 eH3 h => ?_)
              obtain ⟨G3, eG3⟩ : ∃ z, z = sl G 98 a0 (7498084 : Int64) := ⟨_, rfl⟩
              rw [← eG3] at h
              have e3 : eM a0 G3 H3 := by rw [eG3, eH3]; exact eM.sl e (by omega)
              have c4 : cM a0 H0 H3 := by rw [eH3]; exact cM.sl c
              have kG3 : ∀ f a, ((70 ≤ f ∧ f ≤ 72) ∨ (79 ≤ f ∧ f ≤ 94) ∨ f = 96) → gr G f a0 = some a → gr G3 f a0 = some a := by intro f a _ z; rw [eG3]; exact z
              have q5 := kG3 90 a1 (by omega) q2
              have z6 := eM.simp e3
              try simp (disch := omega) only [z6]
              try simp only [((e3).2 90 a1 (by omega) q5).1, ((e3).2 90 a1 (by omega) q5).2]
              exact f_M_reach_313 e3 c4 hk  h
        · try simp (disch := omega) only [z1]
          try simp only [((e).2 90 a1 (by omega) q2).1, ((e).2 90 a1 (by omega) q2).2]
          refine all_lift h (fun H4 eH4 h => ?_)
          obtain ⟨G4, eG4⟩ : ∃ z, z = sl G 98 a0 (1701080941 : Int64) := ⟨_, rfl⟩
          rw [← eG4] at h
          have e7 : eM a0 G4 H4 := by rw [eG4, eH4]; exact eM.sl e (by omega)
          have c8 : cM a0 H0 H4 := by rw [eH4]; exact cM.sl c
          have kG4 : ∀ f a, ((70 ≤ f ∧ f ≤ 72) ∨ (79 ≤ f ∧ f ≤ 94) ∨ f = 96) → gr G f a0 = some a → gr G4 f a0 = some a := by intro f a _ z; rw [eG4]; exact z
          have q9 := kG4 90 a1 (by omega) q2
          have z10 := eM.simp e7
          try simp (disch := omega) only [z10]
          try simp only [((e7).2 90 a1 (by omega) q9).1, ((e7).2 90 a1 (by omega) q9).2]
          exact f_M_reach_313 e7 c8 hk  h
      · try simp (disch := omega) only [z1]
        try simp only [((e).2 90 a1 (by omega) q2).1, ((e).2 90 a1 (by omega) q2).2]
        refine all_lift h (fun H5 eH5 h => ?_)
        obtain ⟨G5, eG5⟩ : ∃ z, z = sl G 98 a0 (1852141679 : Int64) := ⟨_, rfl⟩
        rw [← eG5] at h
        have e11 : eM a0 G5 H5 := by rw [eG5, eH5]; exact eM.sl e (by omega)
        have c12 : cM a0 H0 H5 := by rw [eH5]; exact cM.sl c
        have kG5 : ∀ f a, ((70 ≤ f ∧ f ≤ 72) ∨ (79 ≤ f ∧ f ≤ 94) ∨ f = 96) → gr G f a0 = some a → gr G5 f a0 = some a := by intro f a _ z; rw [eG5]; exact z
        have q13 := kG5 90 a1 (by omega) q2
        have z14 := eM.simp e11
        try simp (disch := omega) only [z14]
        try simp only [((e11).2 90 a1 (by omega) q13).1, ((e11).2 90 a1 (by omega) q13).2]
        exact f_M_reach_313 e11 c12 hk  h
    · try simp (disch := omega) only [z1]
      refine ite_lift h (fun h => ?_) (fun h => ?_)
      · try simp (disch := omega) only [z1]
        exact f_M_reach_122 e c hk hr74  h
      · try simp (disch := omega) only [z1]
        refine and_lift h (fun h => ?_)
        refine ex_lift h (fun a6 q15 h => ?_)
        try simp only [((e).2 86 a6 (by omega) q15).1, ((e).2 86 a6 (by omega) q15).2]
        refine and_lift h (fun h => ?_)
        refine and_lift h (fun h => ?_)
        refine ite_lift h (fun h => ?_) (fun h => ?_)
        · try simp (disch := omega) only [z1]
          try simp only [((e).2 86 a6 (by omega) q15).1, ((e).2 86 a6 (by omega) q15).2]
          exact f_M_reach_126 e c hk hr74  h
        · try simp (disch := omega) only [z1]
          try simp only [((e).2 86 a6 (by omega) q15).1, ((e).2 86 a6 (by omega) q15).2]
          refine ex_lift h (fun a7 q16 h => ?_)
          try simp only [((e).2 90 a7 (by omega) q16).1, ((e).2 90 a7 (by omega) q16).2]
          refine and_lift h (fun h => ?_)
          refine and_lift h (fun h => ?_)
          refine ite_lift h (fun h => ?_) (fun h => ?_)
          · try simp (disch := omega) only [z1]
            try simp only [((e).2 86 a6 (by omega) q15).1, ((e).2 86 a6 (by omega) q15).2, ((e).2 90 a7 (by omega) q16).1, ((e).2 90 a7 (by omega) q16).2]
            exact f_M_reach_126 e c hk hr74  h
          · try simp (disch := omega) only [z1]
            try simp only [((e).2 86 a6 (by omega) q15).1, ((e).2 86 a6 (by omega) q15).2, ((e).2 90 a7 (by omega) q16).1, ((e).2 90 a7 (by omega) q16).2]
            refine ex_lift h (fun a8 q17 h => ?_)
            try simp only [((e).2 88 a8 (by omega) q17).1, ((e).2 88 a8 (by omega) q17).2]
            refine and_lift h (fun h => ?_)
            refine and_lift h (fun h => ?_)
            refine f_M_at e (fun v9 h => ?_) h
            refine ite_lift h (fun h => ?_) (fun h => ?_)
            · try simp (disch := omega) only [z1]
              try simp only [((e).2 86 a6 (by omega) q15).1, ((e).2 86 a6 (by omega) q15).2, ((e).2 90 a7 (by omega) q16).1, ((e).2 90 a7 (by omega) q16).2, ((e).2 88 a8 (by omega) q17).1, ((e).2 88 a8 (by omega) q17).2]
              exact f_M_reach_126 e c hk hr74  h
            · try simp (disch := omega) only [z1]
              try simp only [((e).2 86 a6 (by omega) q15).1, ((e).2 86 a6 (by omega) q15).2, ((e).2 90 a7 (by omega) q16).1, ((e).2 90 a7 (by omega) q16).2, ((e).2 88 a8 (by omega) q17).1, ((e).2 88 a8 (by omega) q17).2]
              exact f_M_reach_122 e c hk hr74  h
set_option maxHeartbeats 4000000 in
theorem f_M_reach_66 {t : TY} {a0 : Nat} {G H H0 : GS} {K K' : GS → Prop} (e : eM a0 G H) (c : cM a0 H0 H) (hk : ∀ (G' H' : GS), eM a0 G' H' → cM a0 H0 H' → K G' → K' H') {l1 : Int32} {l2 : Int32} {l3 : Int32} {l4 : Int32} {l5 : Int32} {s0 : Int32} (h : w_M_reach_66 t a0 K l1 l2 l3 l4 l5 s0 G) : w_M_reach_66 t a0 K' l1 l2 l3 l4 l5 s0 H := by
  unfold w_M_reach_66 at h ⊢
  have z1 := eM.simp e
  try simp (disch := omega) only [z1]
  obtain ⟨n, h⟩ := h
  refine ⟨n, ?_⟩
  exact f_M_reach_74 e c hk _  h
set_option maxHeartbeats 4000000 in
theorem f_M_reach_61 {t : TY} {a0 : Nat} {G H H0 : GS} {K K' : GS → Prop} (e : eM a0 G H) (c : cM a0 H0 H) (hk : ∀ (G' H' : GS), eM a0 G' H' → cM a0 H0 H' → K G' → K' H') {l1 : Int32} {l2 : Int32} {l3 : Int32} {l4 : Int32} {l5 : Int32} (h : w_M_reach_61 t a0 K l1 l2 l3 l4 l5 G) : w_M_reach_61 t a0 K' l1 l2 l3 l4 l5 H := by
  unfold w_M_reach_61 at h ⊢
  have z1 := eM.simp e
  try simp (disch := omega) only [z1]
  exact f_M_reach_66 e c hk  h
set_option maxHeartbeats 4000000 in
theorem f_M_reach_40 {t : TY} {a0 : Nat} {G H H0 : GS} {K K' : GS → Prop} (e : eM a0 G H) (c : cM a0 H0 H) (hk : ∀ (G' H' : GS), eM a0 G' H' → cM a0 H0 H' → K G' → K' H') {l1 : Int32} {l2 : Int32} {l3 : Int32} {l4 : Int32} {s0 : Int32} (h : w_M_reach_40 t a0 K l1 l2 l3 l4 s0 G) : w_M_reach_40 t a0 K' l1 l2 l3 l4 s0 H := by
  unfold w_M_reach_40 at h ⊢
  have z1 := eM.simp e
  try simp (disch := omega) only [z1]
  refine ite_lift h (fun h => ?_) (fun h => ?_)
  · try simp (disch := omega) only [z1]
    exact f_M_reach_61 e c hk  h
  · try simp (disch := omega) only [z1]
    refine ite_lift h (fun h => ?_) (fun h => ?_)
    · try simp (disch := omega) only [z1]
      exact f_M_reach_61 e c hk  h
    · try simp (disch := omega) only [z1]
      refine ite_lift h (fun h => ?_) (fun h => ?_)
      · try simp (disch := omega) only [z1]
        exact f_M_reach_66 e c hk  h
      · try simp (disch := omega) only [z1]
        exact f_M_reach_61 e c hk  h
set_option maxHeartbeats 4000000 in
theorem f_M_reach_35 {t : TY} {a0 : Nat} {G H H0 : GS} {K K' : GS → Prop} (e : eM a0 G H) (c : cM a0 H0 H) (hk : ∀ (G' H' : GS), eM a0 G' H' → cM a0 H0 H' → K G' → K' H') {l1 : Int32} {l2 : Int32} {l3 : Int32} {l4 : Int32} (h : w_M_reach_35 t a0 K l1 l2 l3 l4 G) : w_M_reach_35 t a0 K' l1 l2 l3 l4 H := by
  unfold w_M_reach_35 at h ⊢
  have z1 := eM.simp e
  try simp (disch := omega) only [z1]
  exact f_M_reach_40 e c hk  h
set_option maxHeartbeats 4000000 in
theorem f_M_reach_20 {t : TY} {a0 : Nat} {G H H0 : GS} {K K' : GS → Prop} (e : eM a0 G H) (c : cM a0 H0 H) (hk : ∀ (G' H' : GS), eM a0 G' H' → cM a0 H0 H' → K G' → K' H') {l1 : Int32} {l2 : Int32} {l3 : Int32} {s0 : Int32} (h : w_M_reach_20 t a0 K l1 l2 l3 s0 G) : w_M_reach_20 t a0 K' l1 l2 l3 s0 H := by
  unfold w_M_reach_20 at h ⊢
  have z1 := eM.simp e
  try simp (disch := omega) only [z1]
  refine ite_lift h (fun h => ?_) (fun h => ?_)
  · try simp (disch := omega) only [z1]
    exact f_M_reach_35 e c hk  h
  · try simp (disch := omega) only [z1]
    refine ite_lift h (fun h => ?_) (fun h => ?_)
    · try simp (disch := omega) only [z1]
      exact f_M_reach_40 e c hk  h
    · try simp (disch := omega) only [z1]
      exact f_M_reach_35 e c hk  h
set_option maxHeartbeats 4000000 in
theorem f_M_reach {t : TY} {a0 : Nat} {G H : GS} {K K' : GS → Prop} (e : eM a0 G H) (hk : ∀ (G' H' : GS), eM a0 G' H' → cM a0 H H' → K G' → K' H') {p1 : Int32} {p2 : Int32} (h : w_M_reach t G a0 p1 p2 K) : w_M_reach t H a0 p1 p2 K' := by
  obtain ⟨H0, eH0⟩ : ∃ z, z = H := ⟨_, rfl⟩
  have c : cM a0 H0 H := by rw [eH0]; exact cM.rf
  have hk : ∀ (G' H' : GS), eM a0 G' H' → cM a0 H0 H' → K G' → K' H' := by rw [eH0]; exact hk
  unfold w_M_reach at h ⊢
  have z1 := eM.simp e
  try simp (disch := omega) only [z1]
  refine and_lift h (fun h => ?_)
  refine ex_lift h (fun a1 q2 h => ?_)
  try simp only [((e).2 94 a1 (by omega) q2).1, ((e).2 94 a1 (by omega) q2).2]
  refine and_lift h (fun h => ?_)
  refine and_lift h (fun h => ?_)
  refine bind_lift h (fun v2 h => ?_)
  refine ite_lift h (fun h => ?_) (fun h => ?_)
  · try simp (disch := omega) only [z1]
    try simp only [((e).2 94 a1 (by omega) q2).1, ((e).2 94 a1 (by omega) q2).2]
    exact f_M_reach_20 e c hk  h
  · try simp (disch := omega) only [z1]
    try simp only [((e).2 94 a1 (by omega) q2).1, ((e).2 94 a1 (by omega) q2).2]
    exact f_M_reach_20 e c hk  h
set_option maxHeartbeats 4000000 in
theorem f_M_rename_19 {t : TY} {a0 : Nat} {G H H0 : GS} {K K' : GS → Prop} (e : eM a0 G H) (c : cM a0 H0 H) (hk : ∀ (G' H' : GS), eM a0 G' H' → cM a0 H0 H' → K G' → K' H') : ∀ (n : Nat) {l1 : Int32} {l2 : Int32} {l3 : Int32} {l4 : Int32}, w_M_rename_19 t a0 K n l1 l2 l3 l4 G → w_M_rename_19 t a0 K' n l1 l2 l3 l4 H := by
  intro n
  induction n generalizing G H with
  | zero => intro l1 l2 l3 l4 h; exact h.elim
  | succ n ih =>
    intro l1 l2 l3 l4 h
    have hr19 : ∀ (x0 : Int32) (x1 : Int32) (x2 : Int32) (x3 : Int32) (G H : GS), eM a0 G H → cM a0 H0 H → w_M_rename_19 t a0 K n x0 x1 x2 x3 G → w_M_rename_19 t a0 K' n x0 x1 x2 x3 H := fun _ _ _ _ G H e c h => ih e c h
    unfold w_M_rename_19 at h ⊢
    have z1 := eM.simp e
    try simp (disch := omega) only [z1]
    try dsimp only at h ⊢
    refine ite_lift h (fun h => ?_) (fun h => ?_)
    · try simp (disch := omega) only [z1]
      exact hk _ _ e c h
    · try simp (disch := omega) only [z1]
      refine and_lift h (fun h => ?_)
      refine ex_lift h (fun a1 q2 h => ?_)
      try simp only [((e).2 94 a1 (by omega) q2).1, ((e).2 94 a1 (by omega) q2).2]
      refine and_lift h (fun h => ?_)
      refine and_lift h (fun h => ?_)
      refine f_M_set e (fun G2 H2 e3 c4 h => ?_) h
      have c4 := (c).tr c4
      have z5 := eM.simp e3
      try simp (disch := omega) only [z5]
      refine bind_lift h (fun v3 h => ?_)
      exact hr19 _ _ _ _ _ _ e3 c4 h
set_option maxHeartbeats 4000000 in
theorem f_M_rename {t : TY} {a0 : Nat} {G H : GS} {K K' : GS → Prop} (e : eM a0 G H) (hk : ∀ (G' H' : GS), eM a0 G' H' → cM a0 H H' → K G' → K' H') {p1 : Int32} {p2 : Int32} (h : w_M_rename t G a0 p1 p2 K) : w_M_rename t H a0 p1 p2 K' := by
  obtain ⟨H0, eH0⟩ : ∃ z, z = H := ⟨_, rfl⟩
  have c : cM a0 H0 H := by rw [eH0]; exact cM.rf
  have hk : ∀ (G' H' : GS), eM a0 G' H' → cM a0 H0 H' → K G' → K' H' := by rw [eH0]; exact hk
  unfold w_M_rename at h ⊢
  have z1 := eM.simp e
  try simp (disch := omega) only [z1]
  refine and_lift h (fun h => ?_)
  refine f_M_get e (fun v1 h => ?_) h
  refine bind_lift h (fun v2 h => ?_)
  refine f_M_set e (fun G3 H3 e2 c3 h => ?_) h
  have c3 := (c).tr c3
  have z4 := eM.simp e2
  try simp (disch := omega) only [z4]
  obtain ⟨n, h⟩ := h
  refine ⟨n, ?_⟩
  exact f_M_rename_19 e2 c3 hk _  h
set_option maxHeartbeats 4000000 in
theorem f_M_grow_60 {t : TY} {a0 : Nat} {G H H0 : GS} {K K' : GS → Prop} (e : eM a0 G H) (c : cM a0 H0 H) (hk : ∀ (G' H' : GS), eM a0 G' H' → cM a0 H0 H' → K G' → K' H') {l1 : Int32} {l2 : Int32} {s0 : Option Nat} {s1 : Int32} {s2 : Int32} {s3 : Int32} {s4 : Int32} (hs0 : s0 = some a0) (h : w_M_grow_60 t a0 K l1 l2 s0 s1 s2 s3 s4 G) : w_M_grow_60 t a0 K' l1 l2 s0 s1 s2 s3 s4 H := by
  unfold w_M_grow_60 at h ⊢
  have z1 := eM.simp e
  try simp (disch := omega) only [z1]
  refine and_lift h (fun h => ?_)
  refine f_M_at e (fun v1 h => ?_) h
  refine ex_lift h (fun a2 q2 h => ?_)
  have z3 : a0 = a2 := Option.some.inj (hs0.symm.trans q2)
  subst z3
  refine and_lift h (fun h => ?_)
  refine f_M_set e (fun G3 H3 e4 c5 h => ?_) h
  have c5 := (c).tr c5
  have z6 := eM.simp e4
  try simp (disch := omega) only [z6]
  refine f_M_set e4 (fun G4 H4 e7 c8 h => ?_) h
  have c8 := (c5).tr c8
  have z9 := eM.simp e7
  try simp (disch := omega) only [z9]
  refine f_M_set e7 (fun G5 H5 e10 c11 h => ?_) h
  have c11 := (c8).tr c11
  have z12 := eM.simp e10
  try simp (disch := omega) only [z12]
  refine f_M_at e10 (fun v6 h => ?_) h
  refine f_M_set e10 (fun G7 H7 e13 c14 h => ?_) h
  have c14 := (c11).tr c14
  have z15 := eM.simp e13
  try simp (disch := omega) only [z15]
  refine f_M_set e13 (fun G8 H8 e16 c17 h => ?_) h
  have c17 := (c14).tr c17
  have z18 := eM.simp e16
  try simp (disch := omega) only [z18]
  refine f_M_at e16 (fun v9 h => ?_) h
  refine f_M_set e16 (fun G10 H10 e19 c20 h => ?_) h
  have c20 := (c17).tr c20
  have z21 := eM.simp e19
  try simp (disch := omega) only [z21]
  refine f_M_rename e19 (fun G11 H11 e22 c23 h => ?_) h
  have c23 := (c20).tr c23
  have z24 := eM.simp e22
  try simp (disch := omega) only [z24]
  refine f_M_changes e22 (fun G12 H12 e25 c26 h => ?_) h
  have c26 := (c23).tr c26
  have z27 := eM.simp e25
  try simp (disch := omega) only [z27]
  exact hk _ _ e25 c26 h
set_option maxHeartbeats 4000000 in
theorem f_M_grow_3 {t : TY} {a0 : Nat} {G H H0 : GS} {K K' : GS → Prop} (e : eM a0 G H) (c : cM a0 H0 H) (hk : ∀ (G' H' : GS), eM a0 G' H' → cM a0 H0 H' → K G' → K' H') : ∀ (n : Nat) {l1 : Int32} {l2 : Int32} {l3 : Int32} {l4 : Int32}, w_M_grow_3 t a0 K n l1 l2 l3 l4 G → w_M_grow_3 t a0 K' n l1 l2 l3 l4 H := by
  intro n
  induction n generalizing G H with
  | zero => intro l1 l2 l3 l4 h; exact h.elim
  | succ n ih =>
    intro l1 l2 l3 l4 h
    have hr3 : ∀ (x0 : Int32) (x1 : Int32) (x2 : Int32) (x3 : Int32) (G H : GS), eM a0 G H → cM a0 H0 H → w_M_grow_3 t a0 K n x0 x1 x2 x3 G → w_M_grow_3 t a0 K' n x0 x1 x2 x3 H := fun _ _ _ _ G H e c h => ih e c h
    unfold w_M_grow_3 at h ⊢
    have z1 := eM.simp e
    try simp (disch := omega) only [z1]
    try dsimp only at h ⊢
    refine ite_lift h (fun h => ?_) (fun h => ?_)
    · try simp (disch := omega) only [z1]
      refine and_lift h (fun h => ?_)
      refine f_M_set e (fun G1 H1 e2 c3 h => ?_) h
      have c3 := (c).tr c3
      have z4 := eM.simp e2
      try simp (disch := omega) only [z4]
      refine f_M_set e2 (fun G2 H2 e5 c6 h => ?_) h
      have c6 := (c3).tr c6
      have z7 := eM.simp e5
      try simp (disch := omega) only [z7]
      refine ite_lift h (fun h => ?_) (fun h => ?_)
      · try simp (disch := omega) only [z7]
        exact f_M_grow_60 e5 c6 hk  rfl h
      · try simp (disch := omega) only [z7]
        exact f_M_grow_60 e5 c6 hk  rfl h
    · try simp (disch := omega) only [z1]
      refine and_lift h (fun h => ?_)
      refine f_M_set e (fun G3 H3 e8 c9 h => ?_) h
      have c9 := (c).tr c9
      have z10 := eM.simp e8
      try simp (disch := omega) only [z10]
      refine bind_lift h (fun v4 h => ?_)
      exact hr3 _ _ _ _ _ _ e8 c9 h
set_option maxHeartbeats 4000000 in
theorem f_M_grow {t : TY} {a0 : Nat} {G H : GS} {K K' : GS → Prop} (e : eM a0 G H) (hk : ∀ (G' H' : GS), eM a0 G' H' → cM a0 H H' → K G' → K' H') {p1 : Int32} {p2 : Int32} {p3 : Int32} (h : w_M_grow t G a0 p1 p2 p3 K) : w_M_grow t H a0 p1 p2 p3 K' := by
  obtain ⟨H0, eH0⟩ : ∃ z, z = H := ⟨_, rfl⟩
  have c : cM a0 H0 H := by rw [eH0]; exact cM.rf
  have hk : ∀ (G' H' : GS), eM a0 G' H' → cM a0 H0 H' → K G' → K' H' := by rw [eH0]; exact hk
  unfold w_M_grow at h ⊢
  have z1 := eM.simp e
  try simp (disch := omega) only [z1]
  obtain ⟨n, h⟩ := h
  refine ⟨n, ?_⟩
  exact f_M_grow_3 e c hk _  h
set_option maxHeartbeats 4000000 in
theorem f_M_create_236 {t : TY} {a0 : Nat} {G H H0 : GS} {K K' : GS → Prop} (e : eM a0 G H) (c : cM a0 H0 H) (hk : ∀ (G' H' : GS), eM a0 G' H' → cM a0 H0 H' → K G' → K' H') (h : w_M_create_236 t a0 K G) : w_M_create_236 t a0 K' H := by
  unfold w_M_create_236 at h ⊢
  have z1 := eM.simp e
  try simp (disch := omega) only [z1]
  refine and_lift h (fun h => ?_)
  refine f_M_back e (fun G1 H1 e2 c3 h => ?_) h
  have c3 := (c).tr c3
  have z4 := eM.simp e2
  try simp (disch := omega) only [z4]
  refine all_lift h (fun H2 eH2 h => ?_)
  obtain ⟨G2, eG2⟩ : ∃ z, z = sl G1 98 a0 (1819047270 : Int64) := ⟨_, rfl⟩
  rw [← eG2] at h
  have e5 : eM a0 G2 H2 := by rw [eG2, eH2]; exact eM.sl e2 (by omega)
  have c6 : cM a0 H0 H2 := by rw [eH2]; exact cM.sl c3
  have kG2 : ∀ f a, ((70 ≤ f ∧ f ≤ 72) ∨ (79 ≤ f ∧ f ≤ 94) ∨ f = 96) → gr G1 f a0 = some a → gr G2 f a0 = some a := by intro f a _ z; rw [eG2]; exact z
  have z7 := eM.simp e5
  try simp (disch := omega) only [z7]
  exact hk _ _ e5 c6 h
set_option maxHeartbeats 4000000 in
theorem f_M_create_220 {t : TY} {a0 : Nat} {G H H0 : GS} {K K' : GS → Prop} (e : eM a0 G H) (c : cM a0 H0 H) (hk : ∀ (G' H' : GS), eM a0 G' H' → cM a0 H0 H' → K G' → K' H') {l1 : Int32} {l5 : Int32} {l6 : Int32} (h : w_M_create_220 t a0 K l1 l5 l6 G) : w_M_create_220 t a0 K' l1 l5 l6 H := by
  unfold w_M_create_220 at h ⊢
  have z1 := eM.simp e
  try simp (disch := omega) only [z1]
  refine ite_lift h (fun h => ?_) (fun h => ?_)
  · try simp (disch := omega) only [z1]
    exact f_M_create_236 e c hk  h
  · try simp (disch := omega) only [z1]
    refine and_lift h (fun h => ?_)
    refine f_M_blocks e (fun v1 h => ?_) h
    refine ite_lift h (fun h => ?_) (fun h => ?_)
    · try simp (disch := omega) only [z1]
      refine f_M_commit e (fun G2 H2 v3 e2 c3 h => ?_) h
      have c3 := (c).tr c3
      have z4 := eM.simp e2
      try simp (disch := omega) only [z4]
      refine ite_lift h (fun h => ?_) (fun h => ?_)
      · try simp (disch := omega) only [z4]
        refine all_lift h (fun H4 eH4 h => ?_)
        obtain ⟨G4, eG4⟩ : ∃ z, z = si G2 74 a0 ((gi G2 74 a0) + (1 : Int32)) := ⟨_, rfl⟩
        rw [← eG4] at h
        have e5 : eM a0 G4 H4 := by rw [eG4, eH4]; exact eM.si e2 (by omega)
        have c6 : cM a0 H0 H4 := by rw [eH4]; exact cM.si c3
        have kG4 : ∀ f a, ((70 ≤ f ∧ f ≤ 72) ∨ (79 ≤ f ∧ f ≤ 94) ∨ f = 96) → gr G2 f a0 = some a → gr G4 f a0 = some a := by intro f a _ z; rw [eG4]; exact z
        have z7 := eM.simp e5
        try simp (disch := omega) only [z7]
        refine f_M_point e5 (fun G5 H5 e8 c9 h => ?_) h
        have c9 := (c6).tr c9
        have z10 := eM.simp e8
        try simp (disch := omega) only [z10]
        refine f_M_open e8 (fun G6 H6 e11 c12 h => ?_) h
        have c12 := (c9).tr c12
        have z13 := eM.simp e11
        try simp (disch := omega) only [z13]
        refine f_M_qid e11 (fun G7 H7 e14 c15 h => ?_) h
        have c15 := (c12).tr c15
        have z16 := eM.simp e14
        try simp (disch := omega) only [z16]
        refine f_M_put e14 (fun G8 H8 e17 c18 h => ?_) h
        have c18 := (c15).tr c18
        have z19 := eM.simp e17
        try simp (disch := omega) only [z19]
        exact hk _ _ e17 c18 h
      · try simp (disch := omega) only [z4]
        exact hk _ _ e2 c3 h
    · try simp (disch := omega) only [z1]
      exact f_M_create_236 e c hk  h
set_option maxHeartbeats 4000000 in
theorem f_M_create_200 {t : TY} {a0 : Nat} {G H H0 : GS} {K K' : GS → Prop} (e : eM a0 G H) (c : cM a0 H0 H) (hk : ∀ (G' H' : GS), eM a0 G' H' → cM a0 H0 H' → K G' → K' H') {l1 : Int32} {l2 : Int32} {l4 : Int32} {l5 : Int32} {l6 : Int32} (h : w_M_create_200 t a0 K l1 l2 l4 l5 l6 G) : w_M_create_200 t a0 K' l1 l2 l4 l5 l6 H := by
  unfold w_M_create_200 at h ⊢
  have z1 := eM.simp e
  try simp (disch := omega) only [z1]
  refine and_lift h (fun h => ?_)
  refine f_M_begin e (fun G1 H1 e2 c3 h => ?_) h
  have c3 := (c).tr c3
  have z4 := eM.simp e2
  try simp (disch := omega) only [z4]
  refine ite_lift h (fun h => ?_) (fun h => ?_)
  · try simp (disch := omega) only [z4]
    exact f_M_create_220 e2 c3 hk  h
  · try simp (disch := omega) only [z4]
    refine f_M_grow e2 (fun G2 H2 e5 c6 h => ?_) h
    have c6 := (c3).tr c6
    have z7 := eM.simp e5
    try simp (disch := omega) only [z7]
    exact f_M_create_220 e5 c6 hk  h
set_option maxHeartbeats 4000000 in
theorem f_M_create_176 {t : TY} {a0 : Nat} {G H H0 : GS} {K K' : GS → Prop} (e : eM a0 G H) (c : cM a0 H0 H) (hk : ∀ (G' H' : GS), eM a0 G' H' → cM a0 H0 H' → K G' → K' H') : ∀ (n : Nat) {l1 : Int32} {l2 : Int32} {l4 : Int32} {l5 : Int32} {l6 : Int32}, w_M_create_176 t a0 K n l1 l2 l4 l5 l6 G → w_M_create_176 t a0 K' n l1 l2 l4 l5 l6 H := by
  intro n
  induction n generalizing G H with
  | zero => intro l1 l2 l4 l5 l6 h; exact h.elim
  | succ n ih =>
    intro l1 l2 l4 l5 l6 h
    have hr176 : ∀ (x0 : Int32) (x1 : Int32) (x2 : Int32) (x3 : Int32) (x4 : Int32) (G H : GS), eM a0 G H → cM a0 H0 H → w_M_create_176 t a0 K n x0 x1 x2 x3 x4 G → w_M_create_176 t a0 K' n x0 x1 x2 x3 x4 H := fun _ _ _ _ _ G H e c h => ih e c h
    unfold w_M_create_176 at h ⊢
    have z1 := eM.simp e
    try simp (disch := omega) only [z1]
    try dsimp only at h ⊢
    refine ite_lift h (fun h => ?_) (fun h => ?_)
    · try simp (disch := omega) only [z1]
      exact f_M_create_200 e c hk  h
    · try simp (disch := omega) only [z1]
      refine and_lift h (fun h => ?_)
      refine f_M_at e (fun v1 h => ?_) h
      refine ite_lift h (fun h => ?_) (fun h => ?_)
      · try simp (disch := omega) only [z1]
        exact f_M_create_200 e c hk  h
      · try simp (disch := omega) only [z1]
        refine bind_lift h (fun v2 h => ?_)
        exact hr176 _ _ _ _ _ _ _ e c h
set_option maxHeartbeats 4000000 in
theorem f_M_create_163 {t : TY} {a0 : Nat} {G H H0 : GS} {K K' : GS → Prop} (e : eM a0 G H) (c : cM a0 H0 H) (hk : ∀ (G' H' : GS), eM a0 G' H' → cM a0 H0 H' → K G' → K' H') {l1 : Int32} {l2 : Int32} {l4 : Int32} {l5 : Int32} (h : w_M_create_163 t a0 K l1 l2 l4 l5 G) : w_M_create_163 t a0 K' l1 l2 l4 l5 H := by
  unfold w_M_create_163 at h ⊢
  have z1 := eM.simp e
  try simp (disch := omega) only [z1]
  refine and_lift h (fun h => ?_)
  refine ite_lift h (fun h => ?_) (fun h => ?_)
  · try simp (disch := omega) only [z1]
    obtain ⟨n, h⟩ := h
    refine ⟨n, ?_⟩
    exact f_M_create_176 e c hk _  h
  · try simp (disch := omega) only [z1]
    exact hk _ _ e c h
set_option maxHeartbeats 4000000 in
theorem f_M_create_113 {t : TY} {a0 : Nat} {G H H0 : GS} {K K' : GS → Prop} (e : eM a0 G H) (c : cM a0 H0 H) (hk : ∀ (G' H' : GS), eM a0 G' H' → cM a0 H0 H' → K G' → K' H') {l1 : Int32} {l2 : Int32} {l4 : Int32} {l5 : Int32} (h : w_M_create_113 t a0 K l1 l2 l4 l5 G) : w_M_create_113 t a0 K' l1 l2 l4 l5 H := by
  unfold w_M_create_113 at h ⊢
  have z1 := eM.simp e
  try simp (disch := omega) only [z1]
  refine and_lift h (fun h => ?_)
  refine all_lift h (fun H1 eH1 h => ?_)
  obtain ⟨G1, eG1⟩ : ∃ z, z = sl G 98 a0 (1701080941 : Int64) := ⟨_, rfl⟩
  rw [← eG1] at h
  have e2 : eM a0 G1 H1 := by rw [eG1, eH1]; exact eM.sl e (by omega)
  have c3 : cM a0 H0 H1 := by rw [eH1]; exact cM.sl c
  have kG1 : ∀ f a, ((70 ≤ f ∧ f ≤ 72) ∨ (79 ≤ f ∧ f ≤ 94) ∨ f = 96) → gr G f a0 = some a → gr G1 f a0 = some a := by intro f a _ z; rw [eG1]; exact z
  have z4 := eM.simp e2
  try simp (disch := omega) only [z4]
  exact f_M_create_163 e2 c3 hk  h
set_option maxHeartbeats 4000000 in
theorem f_M_create_123 {t : TY} {a0 : Nat} {G H H0 : GS} {K K' : GS → Prop} (e : eM a0 G H) (c : cM a0 H0 H) (hk : ∀ (G' H' : GS), eM a0 G' H' → cM a0 H0 H' → K G' → K' H') {l1 : Int32} {l2 : Int32} {l4 : Int32} {l5 : Int32} (h : w_M_create_123 t a0 K l1 l2 l4 l5 G) : w_M_create_123 t a0 K' l1 l2 l4 l5 H := by
  unfold w_M_create_123 at h ⊢
  have z1 := eM.simp e
  try simp (disch := omega) only [z1]
  refine and_lift h (fun h => ?_)
  refine f_M_may e (fun v1 h => ?_) h
  refine ite_lift h (fun h => ?_) (fun h => ?_)
  · try simp (disch := omega) only [z1]
    refine f_M_named e (fun v2 h => ?_) h
    refine ite_lift h (fun h => ?_) (fun h => ?_)
    · try simp (disch := omega) only [z1]
      exact f_M_create_163 e c hk  h
    · try simp (disch := omega) only [z1]
      refine all_lift h (fun H3 eH3 h => ?_)
      obtain ⟨G3, eG3⟩ : ∃ z, z = sl G 98 a0 (500152498277 : Int64) := ⟨_, rfl⟩
      rw [← eG3] at h
      have e2 : eM a0 G3 H3 := by rw [eG3, eH3]; exact eM.sl e (by omega)
      have c3 : cM a0 H0 H3 := by rw [eH3]; exact cM.sl c
      have kG3 : ∀ f a, ((70 ≤ f ∧ f ≤ 72) ∨ (79 ≤ f ∧ f ≤ 94) ∨ f = 96) → gr G f a0 = some a → gr G3 f a0 = some a := by intro f a _ z; rw [eG3]; exact z
      have z4 := eM.simp e2
      try simp (disch := omega) only [z4]
      exact f_M_create_163 e2 c3 hk  h
  · try simp (disch := omega) only [z1]
    refine all_lift h (fun H4 eH4 h => ?_)
    obtain ⟨G4, eG4⟩ : ∃ z, z = sl G 98 a0 (1836213616 : Int64) := ⟨_, rfl⟩
    rw [← eG4] at h
    have e5 : eM a0 G4 H4 := by rw [eG4, eH4]; exact eM.sl e (by omega)
    have c6 : cM a0 H0 H4 := by rw [eH4]; exact cM.sl c
    have kG4 : ∀ f a, ((70 ≤ f ∧ f ≤ 72) ∨ (79 ≤ f ∧ f ≤ 94) ∨ f = 96) → gr G f a0 = some a → gr G4 f a0 = some a := by intro f a _ z; rw [eG4]; exact z
    have z7 := eM.simp e5
    try simp (disch := omega) only [z7]
    exact f_M_create_163 e5 c6 hk  h
set_option maxHeartbeats 4000000 in
theorem f_M_create {t : TY} {a0 : Nat} {G H : GS} {K K' : GS → Prop} (e : eM a0 G H) (hk : ∀ (G' H' : GS), eM a0 G' H' → cM a0 H H' → K G' → K' H') {p1 : Int32} {p2 : Int32} (h : w_M_create t G a0 p1 p2 K) : w_M_create t H a0 p1 p2 K' := by
  obtain ⟨H0, eH0⟩ : ∃ z, z = H := ⟨_, rfl⟩
  have c : cM a0 H0 H := by rw [eH0]; exact cM.rf
  have hk : ∀ (G' H' : GS), eM a0 G' H' → cM a0 H0 H' → K G' → K' H' := by rw [eH0]; exact hk
  unfold w_M_create at h ⊢
  have z1 := eM.simp e
  try simp (disch := omega) only [z1]
  refine and_lift h (fun h => ?_)
  refine f_M_behind e (fun v1 h => ?_) h
  refine f_M_get e (fun v2 h => ?_) h
  refine bind_lift h (fun v3 h => ?_)
  refine ex_lift h (fun a4 q2 h => ?_)
  try simp only [((e).2 94 a4 (by omega) q2).1, ((e).2 94 a4 (by omega) q2).2]
  refine and_lift h (fun h => ?_)
  refine and_lift h (fun h => ?_)
  refine bind_lift h (fun v5 h => ?_)
  refine ex_lift h (fun a6 q3 h => ?_)
  try simp only [((e).2 90 a6 (by omega) q3).1, ((e).2 90 a6 (by omega) q3).2]
  refine and_lift h (fun h => ?_)
  refine and_lift h (fun h => ?_)
  refine ite_lift h (fun h => ?_) (fun h => ?_)
  · try simp (disch := omega) only [z1]
    try simp only [((e).2 94 a4 (by omega) q2).1, ((e).2 94 a4 (by omega) q2).2, ((e).2 90 a6 (by omega) q3).1, ((e).2 90 a6 (by omega) q3).2]
    refine f_M_isDirectory e (fun v7 h => ?_) h
    refine ite_lift h (fun h => ?_) (fun h => ?_)
    · try simp (disch := omega) only [z1]
      try simp only [((e).2 94 a4 (by omega) q2).1, ((e).2 94 a4 (by omega) q2).2, ((e).2 90 a6 (by omega) q3).1, ((e).2 90 a6 (by omega) q3).2]
      refine f_M_fits e (fun v8 h => ?_) h
      refine ite_lift h (fun h => ?_) (fun h => ?_)
      · try simp (disch := omega) only [z1]
        try simp only [((e).2 94 a4 (by omega) q2).1, ((e).2 94 a4 (by omega) q2).2, ((e).2 90 a6 (by omega) q3).1, ((e).2 90 a6 (by omega) q3).2]
        refine ite_lift h (fun h => ?_) (fun h => ?_)
        · try simp (disch := omega) only [z1]
          try simp only [((e).2 94 a4 (by omega) q2).1, ((e).2 94 a4 (by omega) q2).2, ((e).2 90 a6 (by omega) q3).1, ((e).2 90 a6 (by omega) q3).2]
          exact f_M_create_113 e c hk  h
        · try simp (disch := omega) only [z1]
          try simp only [((e).2 94 a4 (by omega) q2).1, ((e).2 94 a4 (by omega) q2).2, ((e).2 90 a6 (by omega) q3).1, ((e).2 90 a6 (by omega) q3).2]
          refine ite_lift h (fun h => ?_) (fun h => ?_)
          · try simp (disch := omega) only [z1]
            try simp only [((e).2 94 a4 (by omega) q2).1, ((e).2 94 a4 (by omega) q2).2, ((e).2 90 a6 (by omega) q3).1, ((e).2 90 a6 (by omega) q3).2]
            exact f_M_create_113 e c hk  h
          · try simp (disch := omega) only [z1]
            try simp only [((e).2 94 a4 (by omega) q2).1, ((e).2 94 a4 (by omega) q2).2, ((e).2 90 a6 (by omega) q3).1, ((e).2 90 a6 (by omega) q3).2]
            refine ite_lift h (fun h => ?_) (fun h => ?_)
            · try simp (disch := omega) only [z1]
              try simp only [((e).2 94 a4 (by omega) q2).1, ((e).2 94 a4 (by omega) q2).2, ((e).2 90 a6 (by omega) q3).1, ((e).2 90 a6 (by omega) q3).2]
              exact f_M_create_123 e c hk  h
            · try simp (disch := omega) only [z1]
              try simp only [((e).2 94 a4 (by omega) q2).1, ((e).2 94 a4 (by omega) q2).2, ((e).2 90 a6 (by omega) q3).1, ((e).2 90 a6 (by omega) q3).2]
              refine ite_lift h (fun h => ?_) (fun h => ?_)
              · try simp (disch := omega) only [z1]
                try simp only [((e).2 94 a4 (by omega) q2).1, ((e).2 94 a4 (by omega) q2).2, ((e).2 90 a6 (by omega) q3).1, ((e).2 90 a6 (by omega) q3).2]
                exact f_M_create_123 e c hk  h
              · try simp (disch := omega) only [z1]
                try simp only [((e).2 94 a4 (by omega) q2).1, ((e).2 94 a4 (by omega) q2).2, ((e).2 90 a6 (by omega) q3).1, ((e).2 90 a6 (by omega) q3).2]
                exact f_M_create_113 e c hk  h
      · try simp (disch := omega) only [z1]
        try simp only [((e).2 94 a4 (by omega) q2).1, ((e).2 94 a4 (by omega) q2).2, ((e).2 90 a6 (by omega) q3).1, ((e).2 90 a6 (by omega) q3).2]
        refine all_lift h (fun H9 eH9 h => ?_)
        obtain ⟨G9, eG9⟩ : ∃ z, z = sl G 98 a0 (1701667182 : Int64) := ⟨_, rfl⟩
        rw [← eG9] at h
        have e4 : eM a0 G9 H9 := by rw [eG9, eH9]; exact eM.sl e (by omega)
        have c5 : cM a0 H0 H9 := by rw [eH9]; exact cM.sl c
        have kG9 : ∀ f a, ((70 ≤ f ∧ f ≤ 72) ∨ (79 ≤ f ∧ f ≤ 94) ∨ f = 96) → gr G f a0 = some a → gr G9 f a0 = some a := by intro f a _ z; rw [eG9]; exact z
        have q6 := kG9 94 a4 (by omega) q2
        have q7 := kG9 90 a6 (by omega) q3
        have z8 := eM.simp e4
        try simp (disch := omega) only [z8]
        try simp only [((e4).2 94 a4 (by omega) q6).1, ((e4).2 94 a4 (by omega) q6).2, ((e4).2 90 a6 (by omega) q7).1, ((e4).2 90 a6 (by omega) q7).2]
        exact f_M_create_163 e4 c5 hk  h
    · try simp (disch := omega) only [z1]
      try simp only [((e).2 94 a4 (by omega) q2).1, ((e).2 94 a4 (by omega) q2).2, ((e).2 90 a6 (by omega) q3).1, ((e).2 90 a6 (by omega) q3).2]
      refine all_lift h (fun H10 eH10 h => ?_)
      obtain ⟨G10, eG10⟩ : ∃ z, z = sl G 98 a0 (7498084 : Int64) := ⟨_, rfl⟩
      rw [← eG10] at h
      have e9 : eM a0 G10 H10 := by rw [eG10, eH10]; exact eM.sl e (by omega)
      have c10 : cM a0 H0 H10 := by rw [eH10]; exact cM.sl c
      have kG10 : ∀ f a, ((70 ≤ f ∧ f ≤ 72) ∨ (79 ≤ f ∧ f ≤ 94) ∨ f = 96) → gr G f a0 = some a → gr G10 f a0 = some a := by intro f a _ z; rw [eG10]; exact z
      have q11 := kG10 94 a4 (by omega) q2
      have q12 := kG10 90 a6 (by omega) q3
      have z13 := eM.simp e9
      try simp (disch := omega) only [z13]
      try simp only [((e9).2 94 a4 (by omega) q11).1, ((e9).2 94 a4 (by omega) q11).2, ((e9).2 90 a6 (by omega) q12).1, ((e9).2 90 a6 (by omega) q12).2]
      exact f_M_create_163 e9 c10 hk  h
  · try simp (disch := omega) only [z1]
    try simp only [((e).2 94 a4 (by omega) q2).1, ((e).2 94 a4 (by omega) q2).2, ((e).2 90 a6 (by omega) q3).1, ((e).2 90 a6 (by omega) q3).2]
    refine all_lift h (fun H11 eH11 h => ?_)
    obtain ⟨G11, eG11⟩ : ∃ z, z = sl G 98 a0 (1852141679 : Int64) := ⟨_, rfl⟩
    rw [← eG11] at h
    have e14 : eM a0 G11 H11 := by rw [eG11, eH11]; exact eM.sl e (by omega)
    have c15 : cM a0 H0 H11 := by rw [eH11]; exact cM.sl c
    have kG11 : ∀ f a, ((70 ≤ f ∧ f ≤ 72) ∨ (79 ≤ f ∧ f ≤ 94) ∨ f = 96) → gr G f a0 = some a → gr G11 f a0 = some a := by intro f a _ z; rw [eG11]; exact z
    have q16 := kG11 94 a4 (by omega) q2
    have q17 := kG11 90 a6 (by omega) q3
    have z18 := eM.simp e14
    try simp (disch := omega) only [z18]
    try simp only [((e14).2 94 a4 (by omega) q16).1, ((e14).2 94 a4 (by omega) q16).2, ((e14).2 90 a6 (by omega) q17).1, ((e14).2 90 a6 (by omega) q17).2]
    exact f_M_create_163 e14 c15 hk  h
set_option maxHeartbeats 4000000 in
theorem f_M_list_85 {t : TY} {a0 : Nat} {G H H0 : GS} {K K' : GS → Prop} (e : eM a0 G H) (c : cM a0 H0 H) (hk : ∀ (G' H' : GS), eM a0 G' H' → cM a0 H0 H' → K G' → K' H') {l1 : Int32} {l3 : Int64} (h : w_M_list_85 t a0 K l1 l3 G) : w_M_list_85 t a0 K' l1 l3 H := by
  unfold w_M_list_85 at h ⊢
  have z1 := eM.simp e
  try simp (disch := omega) only [z1]
  refine and_lift h (fun h => ?_)
  refine ex_lift h (fun a1 q2 h => ?_)
  try simp only [((e).2 92 a1 (by omega) q2).1, ((e).2 92 a1 (by omega) q2).2]
  refine and_lift h (fun h => ?_)
  refine and_lift h (fun h => ?_)
  refine all_lift h (fun H2 eH2 h => ?_)
  obtain ⟨G2, eG2⟩ : ∃ z, z = als G a1 l1.toNatClampNeg ((l3 + (gi G 97 a0).toInt64) - (11 : Int64)) := ⟨_, rfl⟩
  rw [← eG2] at h
  have e3 : eM a0 G2 H2 := by rw [eG2, eH2]; exact eM.als e
  have c4 : cM a0 H0 H2 := by rw [eH2]; exact cM.als c ⟨92, by omega, (((e).1 92 (by omega)).2.2).trans q2⟩
  have kG2 : ∀ f a, ((70 ≤ f ∧ f ≤ 72) ∨ (79 ≤ f ∧ f ≤ 94) ∨ f = 96) → gr G f a0 = some a → gr G2 f a0 = some a := by intro f a _ z; rw [eG2]; exact z
  have q5 := kG2 92 a1 (by omega) q2
  have z6 := eM.simp e3
  try simp (disch := omega) only [z6]
  try simp only [((e3).2 92 a1 (by omega) q5).1, ((e3).2 92 a1 (by omega) q5).2]
  exact hk _ _ e3 c4 h
set_option maxHeartbeats 4000000 in
theorem f_M_list_26 {t : TY} {a0 : Nat} {G H H0 : GS} {K K' : GS → Prop} (e : eM a0 G H) (c : cM a0 H0 H) (hk : ∀ (G' H' : GS), eM a0 G' H' → cM a0 H0 H' → K G' → K' H') : ∀ (n : Nat) {l1 : Int32} {l2 : Int32} {l3 : Int64} {l5 : Int32} {l6 : Int32}, w_M_list_26 t a0 K n l1 l2 l3 l5 l6 G → w_M_list_26 t a0 K' n l1 l2 l3 l5 l6 H := by
  intro n
  induction n generalizing G H with
  | zero => intro l1 l2 l3 l5 l6 h; exact h.elim
  | succ n ih =>
    intro l1 l2 l3 l5 l6 h
    have hr26 : ∀ (x0 : Int32) (x1 : Int32) (x2 : Int64) (x3 : Int32) (x4 : Int32) (G H : GS), eM a0 G H → cM a0 H0 H → w_M_list_26 t a0 K n x0 x1 x2 x3 x4 G → w_M_list_26 t a0 K' n x0 x1 x2 x3 x4 H := fun _ _ _ _ _ G H e c h => ih e c h
    unfold w_M_list_26 at h ⊢
    have z1 := eM.simp e
    try simp (disch := omega) only [z1]
    try dsimp only at h ⊢
    refine ite_lift h (fun h => ?_) (fun h => ?_)
    · try simp (disch := omega) only [z1]
      exact f_M_list_85 e c hk  h
    · try simp (disch := omega) only [z1]
      refine and_lift h (fun h => ?_)
      refine f_M_statSize e (fun v1 h => ?_) h
      refine ite_lift h (fun h => ?_) (fun h => ?_)
      · try simp (disch := omega) only [z1]
        exact f_M_list_85 e c hk  h
      · try simp (disch := omega) only [z1]
        refine f_M_stat e (fun G2 H2 e2 c3 h => ?_) h
        have c3 := (c).tr c3
        have z4 := eM.simp e2
        try simp (disch := omega) only [z4]
        refine f_M_at e2 (fun v3 h => ?_) h
        refine ex_lift h (fun a4 q5 h => ?_)
        try simp only [((e2).2 93 a4 (by omega) q5).1, ((e2).2 93 a4 (by omega) q5).2]
        refine and_lift h (fun h => ?_)
        refine and_lift h (fun h => ?_)
        refine all_lift h (fun H5 eH5 h => ?_)
        obtain ⟨G5, eG5⟩ : ∃ z, z = ais G2 a4 l1.toNatClampNeg v3 := ⟨_, rfl⟩
        rw [← eG5] at h
        have e6 : eM a0 G5 H5 := by rw [eG5, eH5]; exact eM.ais e2
        have c7 : cM a0 H0 H5 := by rw [eH5]; exact cM.ais c3 ⟨93, by omega, (((e2).1 93 (by omega)).2.2).trans q5⟩
        have kG5 : ∀ f a, ((70 ≤ f ∧ f ≤ 72) ∨ (79 ≤ f ∧ f ≤ 94) ∨ f = 96) → gr G2 f a0 = some a → gr G5 f a0 = some a := by intro f a _ z; rw [eG5]; exact z
        have q8 := kG5 93 a4 (by omega) q5
        have z9 := eM.simp e6
        try simp (disch := omega) only [z9]
        try simp only [((e6).2 93 a4 (by omega) q8).1, ((e6).2 93 a4 (by omega) q8).2]
        refine ex_lift h (fun a6 q10 h => ?_)
        try simp only [((e6).2 93 a6 (by omega) q10).1, ((e6).2 93 a6 (by omega) q10).2]
        refine and_lift h (fun h => ?_)
        refine and_lift h (fun h => ?_)
        refine f_M_entry e6 (fun v7 h => ?_) h
        exact hr26 _ _ _ _ _ _ _ e6 c7 h
set_option maxHeartbeats 4000000 in
theorem f_M_list_13 {t : TY} {a0 : Nat} {G H H0 : GS} {K K' : GS → Prop} (e : eM a0 G H) (c : cM a0 H0 H) (hk : ∀ (G' H' : GS), eM a0 G' H' → cM a0 H0 H' → K G' → K' H') {l1 : Int32} {l2 : Int32} {l3 : Int64} {l5 : Int32} (h : w_M_list_13 t a0 K l1 l2 l3 l5 G) : w_M_list_13 t a0 K' l1 l2 l3 l5 H := by
  unfold w_M_list_13 at h ⊢
  have z1 := eM.simp e
  try simp (disch := omega) only [z1]
  refine and_lift h (fun h => ?_)
  refine ex_lift h (fun a1 q2 h => ?_)
  try simp only [((e).2 93 a1 (by omega) q2).1, ((e).2 93 a1 (by omega) q2).2]
  refine and_lift h (fun h => ?_)
  refine and_lift h (fun h => ?_)
  refine f_M_entry e (fun v2 h => ?_) h
  obtain ⟨n, h⟩ := h
  refine ⟨n, ?_⟩
  exact f_M_list_26 e c hk _  h
set_option maxHeartbeats 4000000 in
theorem f_M_list {t : TY} {a0 : Nat} {G H : GS} {K K' : GS → Prop} (e : eM a0 G H) (hk : ∀ (G' H' : GS), eM a0 G' H' → cM a0 H H' → K G' → K' H') {p1 : Int32} {p2 : Int32} {p3 : Int64} {p5 : Int32} (h : w_M_list t G a0 p1 p2 p3 p5 K) : w_M_list t H a0 p1 p2 p3 p5 K' := by
  obtain ⟨H0, eH0⟩ : ∃ z, z = H := ⟨_, rfl⟩
  have c : cM a0 H0 H := by rw [eH0]; exact cM.rf
  have hk : ∀ (G' H' : GS), eM a0 G' H' → cM a0 H0 H' → K G' → K' H' := by rw [eH0]; exact hk
  unfold w_M_list at h ⊢
  have z1 := eM.simp e
  try simp (disch := omega) only [z1]
  refine ite_lift h (fun h => ?_) (fun h => ?_)
  · try simp (disch := omega) only [z1]
    exact f_M_list_13 e c hk  h
  · try simp (disch := omega) only [z1]
    refine and_lift h (fun h => ?_)
    refine ex_lift h (fun a1 q2 h => ?_)
    try simp only [((e).2 93 a1 (by omega) q2).1, ((e).2 93 a1 (by omega) q2).2]
    refine and_lift h (fun h => ?_)
    refine and_lift h (fun h => ?_)
    refine all_lift h (fun H2 eH2 h => ?_)
    obtain ⟨G2, eG2⟩ : ∃ z, z = ais G a1 p1.toNatClampNeg (0 : Int32) := ⟨_, rfl⟩
    rw [← eG2] at h
    have e3 : eM a0 G2 H2 := by rw [eG2, eH2]; exact eM.ais e
    have c4 : cM a0 H0 H2 := by rw [eH2]; exact cM.ais c ⟨93, by omega, (((e).1 93 (by omega)).2.2).trans q2⟩
    have kG2 : ∀ f a, ((70 ≤ f ∧ f ≤ 72) ∨ (79 ≤ f ∧ f ≤ 94) ∨ f = 96) → gr G f a0 = some a → gr G2 f a0 = some a := by intro f a _ z; rw [eG2]; exact z
    have q5 := kG2 93 a1 (by omega) q2
    have z6 := eM.simp e3
    try simp (disch := omega) only [z6]
    try simp only [((e3).2 93 a1 (by omega) q5).1, ((e3).2 93 a1 (by omega) q5).2]
    exact f_M_list_13 e3 c4 hk  h
set_option maxHeartbeats 4000000 in
theorem f_M_read_218 {t : TY} {a0 : Nat} {G H H0 : GS} {K K' : GS → Prop} (e : eM a0 G H) (c : cM a0 H0 H) (hk : ∀ (G' H' : GS), eM a0 G' H' → cM a0 H0 H' → K G' → K' H') (h : w_M_read_218 t a0 K G) : w_M_read_218 t a0 K' H := by
  unfold w_M_read_218 at h ⊢
  have z1 := eM.simp e
  try simp (disch := omega) only [z1]
  refine and_lift h (fun h => ?_)
  refine bind_lift h (fun v1 h => ?_)
  refine all_lift h (fun H2 eH2 h => ?_)
  obtain ⟨G2, eG2⟩ : ∃ z, z = si G 97 a0 (7 : Int32) := ⟨_, rfl⟩
  rw [← eG2] at h
  have e2 : eM a0 G2 H2 := by rw [eG2, eH2]; exact eM.si e (by omega)
  have c3 : cM a0 H0 H2 := by rw [eH2]; exact cM.si c
  have kG2 : ∀ f a, ((70 ≤ f ∧ f ≤ 72) ∨ (79 ≤ f ∧ f ≤ 94) ∨ f = 96) → gr G f a0 = some a → gr G2 f a0 = some a := by intro f a _ z; rw [eG2]; exact z
  have z4 := eM.simp e2
  try simp (disch := omega) only [z4]
  refine f_M_put e2 (fun G3 H3 e5 c6 h => ?_) h
  have c6 := (c3).tr c6
  have z7 := eM.simp e5
  try simp (disch := omega) only [z7]
  refine all_lift h (fun H4 eH4 h => ?_)
  obtain ⟨G4, eG4⟩ : ∃ z, z = si G3 97 a0 v1 := ⟨_, rfl⟩
  rw [← eG4] at h
  have e8 : eM a0 G4 H4 := by rw [eG4, eH4]; exact eM.si e5 (by omega)
  have c9 : cM a0 H0 H4 := by rw [eH4]; exact cM.si c6
  have kG4 : ∀ f a, ((70 ≤ f ∧ f ≤ 72) ∨ (79 ≤ f ∧ f ≤ 94) ∨ f = 96) → gr G3 f a0 = some a → gr G4 f a0 = some a := by intro f a _ z; rw [eG4]; exact z
  have z10 := eM.simp e8
  try simp (disch := omega) only [z10]
  exact hk _ _ e8 c9 h
set_option maxHeartbeats 4000000 in
theorem f_M_read_171 {t : TY} {a0 : Nat} {G H H0 : GS} {K K' : GS → Prop} (e : eM a0 G H) (c : cM a0 H0 H) (hk : ∀ (G' H' : GS), eM a0 G' H' → cM a0 H0 H' → K G' → K' H') : ∀ (n : Nat) {l3 : Int32} {l4 : Int64} {l8 : Int32} {l9 : Int32}, w_M_read_171 t a0 K n l3 l4 l8 l9 G → w_M_read_171 t a0 K' n l3 l4 l8 l9 H := by
  intro n
  induction n generalizing G H with
  | zero => intro l3 l4 l8 l9 h; exact h.elim
  | succ n ih =>
    intro l3 l4 l8 l9 h
    have hr171 : ∀ (x0 : Int32) (x1 : Int64) (x2 : Int32) (x3 : Int32) (G H : GS), eM a0 G H → cM a0 H0 H → w_M_read_171 t a0 K n x0 x1 x2 x3 G → w_M_read_171 t a0 K' n x0 x1 x2 x3 H := fun _ _ _ _ G H e c h => ih e c h
    unfold w_M_read_171 at h ⊢
    have z1 := eM.simp e
    try simp (disch := omega) only [z1]
    try dsimp only at h ⊢
    refine and_lift h (fun h => ?_)
    refine f_M_at e (fun v1 h => ?_) h
    refine ite_lift h (fun h => ?_) (fun h => ?_)
    · try simp (disch := omega) only [z1]
      exact f_M_read_218 e c hk  h
    · try simp (disch := omega) only [z1]
      refine ite_lift h (fun h => ?_) (fun h => ?_)
      · try simp (disch := omega) only [z1]
        exact f_M_read_218 e c hk  h
      · try simp (disch := omega) only [z1]
        refine f_M_at e (fun v2 h => ?_) h
        refine f_M_put e (fun G3 H3 e2 c3 h => ?_) h
        have c3 := (c).tr c3
        have z4 := eM.simp e2
        try simp (disch := omega) only [z4]
        refine bind_lift h (fun v4 h => ?_)
        exact hr171 _ _ _ _ _ _ e2 c3 h
set_option maxHeartbeats 4000000 in
theorem f_M_read_132 {t : TY} {a0 : Nat} {G H H0 : GS} {K K' : GS → Prop} (e : eM a0 G H) (c : cM a0 H0 H) (hk : ∀ (G' H' : GS), eM a0 G' H' → cM a0 H0 H' → K G' → K' H') {l2 : Int32} {l3 : Int32} {l4 : Int64} {l8 : Int32} (h : w_M_read_132 t a0 K l2 l3 l4 l8 G) : w_M_read_132 t a0 K' l2 l3 l4 l8 H := by
  unfold w_M_read_132 at h ⊢
  have z1 := eM.simp e
  try simp (disch := omega) only [z1]
  refine and_lift h (fun h => ?_)
  refine f_M_list e (fun G1 H1 e2 c3 h => ?_) h
  have c3 := (c).tr c3
  have z4 := eM.simp e2
  try simp (disch := omega) only [z4]
  exact f_M_read_218 e2 c3 hk  h
set_option maxHeartbeats 4000000 in
theorem f_M_read_89 {t : TY} {a0 : Nat} {G H H0 : GS} {K K' : GS → Prop} (e : eM a0 G H) (c : cM a0 H0 H) (hk : ∀ (G' H' : GS), eM a0 G' H' → cM a0 H0 H' → K G' → K' H') {l2 : Int32} {l3 : Int32} {l4 : Int64} {l8 : Int32} (h : w_M_read_89 t a0 K l2 l3 l4 l8 G) : w_M_read_89 t a0 K' l2 l3 l4 l8 H := by
  unfold w_M_read_89 at h ⊢
  have z1 := eM.simp e
  try simp (disch := omega) only [z1]
  refine and_lift h (fun h => ?_)
  refine f_M_put e (fun G1 H1 e2 c3 h => ?_) h
  have c3 := (c).tr c3
  have z4 := eM.simp e2
  try simp (disch := omega) only [z4]
  refine f_M_isDirectory e2 (fun v2 h => ?_) h
  refine ite_lift h (fun h => ?_) (fun h => ?_)
  · try simp (disch := omega) only [z4]
    refine ite_lift h (fun h => ?_) (fun h => ?_)
    · try simp (disch := omega) only [z4]
      exact f_M_read_218 e2 c3 hk  h
    · try simp (disch := omega) only [z4]
      refine f_M_at e2 (fun v3 h => ?_) h
      refine ite_lift h (fun h => ?_) (fun h => ?_)
      · try simp (disch := omega) only [z4]
        exact f_M_read_218 e2 c3 hk  h
      · try simp (disch := omega) only [z4]
        refine bind_lift h (fun v4 h => ?_)
        obtain ⟨n, h⟩ := h
        refine ⟨n, ?_⟩
        exact f_M_read_171 e2 c3 hk _  h
  · try simp (disch := omega) only [z4]
    refine ite_lift h (fun h => ?_) (fun h => ?_)
    · try simp (disch := omega) only [z4]
      exact f_M_read_132 e2 c3 hk  h
    · try simp (disch := omega) only [z4]
      refine ex_lift h (fun a5 q5 h => ?_)
      try simp only [((e2).2 92 a5 (by omega) q5).1, ((e2).2 92 a5 (by omega) q5).2]
      refine and_lift h (fun h => ?_)
      refine and_lift h (fun h => ?_)
      refine ite_lift h (fun h => ?_) (fun h => ?_)
      · try simp (disch := omega) only [z4]
        try simp only [((e2).2 92 a5 (by omega) q5).1, ((e2).2 92 a5 (by omega) q5).2]
        exact f_M_read_132 e2 c3 hk  h
      · try simp (disch := omega) only [z4]
        try simp only [((e2).2 92 a5 (by omega) q5).1, ((e2).2 92 a5 (by omega) q5).2]
        refine all_lift h (fun H6 eH6 h => ?_)
        obtain ⟨G6, eG6⟩ : ∃ z, z = sl G1 98 a0 (127979076609647 : Int64) := ⟨_, rfl⟩
        rw [← eG6] at h
        have e6 : eM a0 G6 H6 := by rw [eG6, eH6]; exact eM.sl e2 (by omega)
        have c7 : cM a0 H0 H6 := by rw [eH6]; exact cM.sl c3
        have kG6 : ∀ f a, ((70 ≤ f ∧ f ≤ 72) ∨ (79 ≤ f ∧ f ≤ 94) ∨ f = 96) → gr G1 f a0 = some a → gr G6 f a0 = some a := by intro f a _ z; rw [eG6]; exact z
        have q8 := kG6 92 a5 (by omega) q5
        have z9 := eM.simp e6
        try simp (disch := omega) only [z9]
        try simp only [((e6).2 92 a5 (by omega) q8).1, ((e6).2 92 a5 (by omega) q8).2]
        exact f_M_read_218 e6 c7 hk  h
set_option maxHeartbeats 4000000 in
theorem f_M_read_50 {t : TY} {a0 : Nat} {G H H0 : GS} {K K' : GS → Prop} (e : eM a0 G H) (c : cM a0 H0 H) (hk : ∀ (G' H' : GS), eM a0 G' H' → cM a0 H0 H' → K G' → K' H') {l2 : Int32} {l3 : Int32} {l4 : Int64} {s0 : Int32} (h : w_M_read_50 t a0 K l2 l3 l4 s0 G) : w_M_read_50 t a0 K' l2 l3 l4 s0 H := by
  unfold w_M_read_50 at h ⊢
  have z1 := eM.simp e
  try simp (disch := omega) only [z1]
  refine and_lift h (fun h => ?_)
  refine ex_lift h (fun a1 q2 h => ?_)
  try simp only [((e).2 90 a1 (by omega) q2).1, ((e).2 90 a1 (by omega) q2).2]
  refine and_lift h (fun h => ?_)
  refine and_lift h (fun h => ?_)
  refine ite_lift h (fun h => ?_) (fun h => ?_)
  · try simp (disch := omega) only [z1]
    try simp only [((e).2 90 a1 (by omega) q2).1, ((e).2 90 a1 (by omega) q2).2]
    exact f_M_read_89 e c hk  h
  · try simp (disch := omega) only [z1]
    try simp only [((e).2 90 a1 (by omega) q2).1, ((e).2 90 a1 (by omega) q2).2]
    refine ite_lift h (fun h => ?_) (fun h => ?_)
    · try simp (disch := omega) only [z1]
      try simp only [((e).2 90 a1 (by omega) q2).1, ((e).2 90 a1 (by omega) q2).2]
      exact f_M_read_89 e c hk  h
    · try simp (disch := omega) only [z1]
      try simp only [((e).2 90 a1 (by omega) q2).1, ((e).2 90 a1 (by omega) q2).2]
      refine ite_lift h (fun h => ?_) (fun h => ?_)
      · try simp (disch := omega) only [z1]
        try simp only [((e).2 90 a1 (by omega) q2).1, ((e).2 90 a1 (by omega) q2).2]
        exact f_M_read_89 e c hk  h
      · try simp (disch := omega) only [z1]
        try simp only [((e).2 90 a1 (by omega) q2).1, ((e).2 90 a1 (by omega) q2).2]
        refine all_lift h (fun H2 eH2 h => ?_)
        obtain ⟨G2, eG2⟩ : ∃ z, z = sl G 98 a0 (1852141679 : Int64) := ⟨_, rfl⟩
        rw [← eG2] at h
        have e3 : eM a0 G2 H2 := by rw [eG2, eH2]; exact eM.sl e (by omega)
        have c4 : cM a0 H0 H2 := by rw [eH2]; exact cM.sl c
        have kG2 : ∀ f a, ((70 ≤ f ∧ f ≤ 72) ∨ (79 ≤ f ∧ f ≤ 94) ∨ f = 96) → gr G f a0 = some a → gr G2 f a0 = some a := by intro f a _ z; rw [eG2]; exact z
        have q5 := kG2 90 a1 (by omega) q2
        have z6 := eM.simp e3
        try simp (disch := omega) only [z6]
        try simp only [((e3).2 90 a1 (by omega) q5).1, ((e3).2 90 a1 (by omega) q5).2]
        exact hk _ _ e3 c4 h
set_option maxHeartbeats 4000000 in
theorem f_M_read {t : TY} {a0 : Nat} {G H : GS} {K K' : GS → Prop} (e : eM a0 G H) (hk : ∀ (G' H' : GS), eM a0 G' H' → cM a0 H H' → K G' → K' H') {p1 : Int32} {p2 : Int32} {p3 : Int32} (h : w_M_read t G a0 p1 p2 p3 K) : w_M_read t H a0 p1 p2 p3 K' := by
  obtain ⟨H0, eH0⟩ : ∃ z, z = H := ⟨_, rfl⟩
  have c : cM a0 H0 H := by rw [eH0]; exact cM.rf
  have hk : ∀ (G' H' : GS), eM a0 G' H' → cM a0 H0 H' → K G' → K' H' := by rw [eH0]; exact hk
  unfold w_M_read at h ⊢
  have z1 := eM.simp e
  try simp (disch := omega) only [z1]
  refine and_lift h (fun h => ?_)
  refine f_M_get e (fun v1 h => ?_) h
  refine f_M_get e (fun v2 h => ?_) h
  refine ex_lift h (fun a3 q2 h => ?_)
  try simp only [((e).2 83 a3 (by omega) q2).1, ((e).2 83 a3 (by omega) q2).2]
  refine and_lift h (fun h => ?_)
  refine and_lift h (fun h => ?_)
  refine ite_lift h (fun h => ?_) (fun h => ?_)
  · try simp (disch := omega) only [z1]
    try simp only [((e).2 83 a3 (by omega) q2).1, ((e).2 83 a3 (by omega) q2).2]
    exact f_M_read_50 e c hk  h
  · try simp (disch := omega) only [z1]
    try simp only [((e).2 83 a3 (by omega) q2).1, ((e).2 83 a3 (by omega) q2).2]
    exact f_M_read_50 e c hk  h
set_option maxHeartbeats 4000000 in
theorem f_M_write_267 {t : TY} {a0 : Nat} {G H H0 : GS} {K K' : GS → Prop} (e : eM a0 G H) (c : cM a0 H0 H) (hk : ∀ (G' H' : GS), eM a0 G' H' → cM a0 H0 H' → K G' → K' H') {l5 : Int32} (h : w_M_write_267 t a0 K l5 G) : w_M_write_267 t a0 K' l5 H := by
  unfold w_M_write_267 at h ⊢
  have z1 := eM.simp e
  try simp (disch := omega) only [z1]
  refine and_lift h (fun h => ?_)
  refine f_M_put e (fun G1 H1 e2 c3 h => ?_) h
  have c3 := (c).tr c3
  have z4 := eM.simp e2
  try simp (disch := omega) only [z4]
  exact hk _ _ e2 c3 h
set_option maxHeartbeats 4000000 in
theorem f_M_write_225 {t : TY} {a0 : Nat} {G H H0 : GS} {K K' : GS → Prop} (e : eM a0 G H) (c : cM a0 H0 H) (hk : ∀ (G' H' : GS), eM a0 G' H' → cM a0 H0 H' → K G' → K' H') {l2 : Int32} {l5 : Int32} (h : w_M_write_225 t a0 K l2 l5 G) : w_M_write_225 t a0 K' l2 l5 H := by
  unfold w_M_write_225 at h ⊢
  have z1 := eM.simp e
  try simp (disch := omega) only [z1]
  refine and_lift h (fun h => ?_)
  refine f_M_changes e (fun G1 H1 e2 c3 h => ?_) h
  have c3 := (c).tr c3
  have z4 := eM.simp e2
  try simp (disch := omega) only [z4]
  refine f_M_blocks e2 (fun v2 h => ?_) h
  refine ite_lift h (fun h => ?_) (fun h => ?_)
  · try simp (disch := omega) only [z4]
    refine f_M_commit e2 (fun G3 H3 v4 e5 c6 h => ?_) h
    have c6 := (c3).tr c6
    have z7 := eM.simp e5
    try simp (disch := omega) only [z7]
    refine ite_lift h (fun h => ?_) (fun h => ?_)
    · try simp (disch := omega) only [z7]
      exact f_M_write_267 e5 c6 hk  h
    · try simp (disch := omega) only [z7]
      exact hk _ _ e5 c6 h
  · try simp (disch := omega) only [z4]
    refine f_M_back e2 (fun G5 H5 e8 c9 h => ?_) h
    have c9 := (c3).tr c9
    have z10 := eM.simp e8
    try simp (disch := omega) only [z10]
    refine all_lift h (fun H6 eH6 h => ?_)
    obtain ⟨G6, eG6⟩ : ∃ z, z = sl G5 98 a0 (1819047270 : Int64) := ⟨_, rfl⟩
    rw [← eG6] at h
    have e11 : eM a0 G6 H6 := by rw [eG6, eH6]; exact eM.sl e8 (by omega)
    have c12 : cM a0 H0 H6 := by rw [eH6]; exact cM.sl c9
    have kG6 : ∀ f a, ((70 ≤ f ∧ f ≤ 72) ∨ (79 ≤ f ∧ f ≤ 94) ∨ f = 96) → gr G5 f a0 = some a → gr G6 f a0 = some a := by intro f a _ z; rw [eG6]; exact z
    have z13 := eM.simp e11
    try simp (disch := omega) only [z13]
    exact hk _ _ e11 c12 h
set_option maxHeartbeats 4000000 in
theorem f_M_write_162 {t : TY} {a0 : Nat} {G H H0 : GS} {K K' : GS → Prop} (e : eM a0 G H) (c : cM a0 H0 H) (hk : ∀ (G' H' : GS), eM a0 G' H' → cM a0 H0 H' → K G' → K' H') : ∀ (n : Nat) {l2 : Int32} {l5 : Int32} {l6 : Int32} {l7 : Int32}, w_M_write_162 t a0 K n l2 l5 l6 l7 G → w_M_write_162 t a0 K' n l2 l5 l6 l7 H := by
  intro n
  induction n generalizing G H with
  | zero => intro l2 l5 l6 l7 h; exact h.elim
  | succ n ih =>
    intro l2 l5 l6 l7 h
    have hr162 : ∀ (x0 : Int32) (x1 : Int32) (x2 : Int32) (x3 : Int32) (G H : GS), eM a0 G H → cM a0 H0 H → w_M_write_162 t a0 K n x0 x1 x2 x3 G → w_M_write_162 t a0 K' n x0 x1 x2 x3 H := fun _ _ _ _ G H e c h => ih e c h
    unfold w_M_write_162 at h ⊢
    have z1 := eM.simp e
    try simp (disch := omega) only [z1]
    try dsimp only at h ⊢
    refine ite_lift h (fun h => ?_) (fun h => ?_)
    · try simp (disch := omega) only [z1]
      refine and_lift h (fun h => ?_)
      refine f_M_at e (fun v1 h => ?_) h
      refine ite_lift h (fun h => ?_) (fun h => ?_)
      · try simp (disch := omega) only [z1]
        exact f_M_write_225 e c hk  h
      · try simp (disch := omega) only [z1]
        refine f_M_set e (fun G2 H2 e2 c3 h => ?_) h
        have c3 := (c).tr c3
        have z4 := eM.simp e2
        try simp (disch := omega) only [z4]
        exact f_M_write_225 e2 c3 hk  h
    · try simp (disch := omega) only [z1]
      refine and_lift h (fun h => ?_)
      refine ex_lift h (fun a3 q5 h => ?_)
      try simp only [((e).2 94 a3 (by omega) q5).1, ((e).2 94 a3 (by omega) q5).2]
      refine and_lift h (fun h => ?_)
      refine and_lift h (fun h => ?_)
      refine f_M_set e (fun G4 H4 e6 c7 h => ?_) h
      have c7 := (c).tr c7
      have z8 := eM.simp e6
      try simp (disch := omega) only [z8]
      refine bind_lift h (fun v5 h => ?_)
      exact hr162 _ _ _ _ _ _ e6 c7 h
set_option maxHeartbeats 4000000 in
theorem f_M_write_135 {t : TY} {a0 : Nat} {G H H0 : GS} {K K' : GS → Prop} (e : eM a0 G H) (c : cM a0 H0 H) (hk : ∀ (G' H' : GS), eM a0 G' H' → cM a0 H0 H' → K G' → K' H') : ∀ (n : Nat) {l2 : Int32} {l5 : Int32} {l6 : Int32} {l7 : Int32}, w_M_write_135 t a0 K n l2 l5 l6 l7 G → w_M_write_135 t a0 K' n l2 l5 l6 l7 H := by
  intro n
  induction n generalizing G H with
  | zero => intro l2 l5 l6 l7 h; exact h.elim
  | succ n ih =>
    intro l2 l5 l6 l7 h
    have hr135 : ∀ (x0 : Int32) (x1 : Int32) (x2 : Int32) (x3 : Int32) (G H : GS), eM a0 G H → cM a0 H0 H → w_M_write_135 t a0 K n x0 x1 x2 x3 G → w_M_write_135 t a0 K' n x0 x1 x2 x3 H := fun _ _ _ _ G H e c h => ih e c h
    unfold w_M_write_135 at h ⊢
    have z1 := eM.simp e
    try simp (disch := omega) only [z1]
    try dsimp only at h ⊢
    refine ite_lift h (fun h => ?_) (fun h => ?_)
    · try simp (disch := omega) only [z1]
      obtain ⟨n, h⟩ := h
      refine ⟨n, ?_⟩
      exact f_M_write_162 e c hk _  h
    · try simp (disch := omega) only [z1]
      refine and_lift h (fun h => ?_)
      refine f_M_set e (fun G1 H1 e2 c3 h => ?_) h
      have c3 := (c).tr c3
      have z4 := eM.simp e2
      try simp (disch := omega) only [z4]
      refine bind_lift h (fun v2 h => ?_)
      exact hr135 _ _ _ _ _ _ e2 c3 h
set_option maxHeartbeats 4000000 in
theorem f_M_write_103 {t : TY} {a0 : Nat} {G H H0 : GS} {K K' : GS → Prop} (e : eM a0 G H) (c : cM a0 H0 H) (hk : ∀ (G' H' : GS), eM a0 G' H' → cM a0 H0 H' → K G' → K' H') {l2 : Int32} {l3 : Int64} {l5 : Int32} (h : w_M_write_103 t a0 K l2 l3 l5 G) : w_M_write_103 t a0 K' l2 l3 l5 H := by
  unfold w_M_write_103 at h ⊢
  have z1 := eM.simp e
  try simp (disch := omega) only [z1]
  refine and_lift h (fun h => ?_)
  refine ite_lift h (fun h => ?_) (fun h => ?_)
  · try simp (disch := omega) only [z1]
    refine ite_lift h (fun h => ?_) (fun h => ?_)
    · try simp (disch := omega) only [z1]
      exact f_M_write_267 e c hk  h
    · try simp (disch := omega) only [z1]
      refine f_M_begin e (fun G1 H1 e2 c3 h => ?_) h
      have c3 := (c).tr c3
      have z4 := eM.simp e2
      try simp (disch := omega) only [z4]
      refine bind_lift h (fun v2 h => ?_)
      refine f_M_at e2 (fun v3 h => ?_) h
      obtain ⟨n, h⟩ := h
      refine ⟨n, ?_⟩
      exact f_M_write_135 e2 c3 hk _  h
  · try simp (disch := omega) only [z1]
    exact hk _ _ e c h
set_option maxHeartbeats 4000000 in
theorem f_M_write_96 {t : TY} {a0 : Nat} {G H H0 : GS} {K K' : GS → Prop} (e : eM a0 G H) (c : cM a0 H0 H) (hk : ∀ (G' H' : GS), eM a0 G' H' → cM a0 H0 H' → K G' → K' H') {l2 : Int32} {l3 : Int64} {l5 : Int32} (h : w_M_write_96 t a0 K l2 l3 l5 G) : w_M_write_96 t a0 K' l2 l3 l5 H := by
  unfold w_M_write_96 at h ⊢
  have z1 := eM.simp e
  try simp (disch := omega) only [z1]
  refine and_lift h (fun h => ?_)
  refine all_lift h (fun H1 eH1 h => ?_)
  obtain ⟨G1, eG1⟩ : ∃ z, z = sl G 98 a0 (1819047270 : Int64) := ⟨_, rfl⟩
  rw [← eG1] at h
  have e2 : eM a0 G1 H1 := by rw [eG1, eH1]; exact eM.sl e (by omega)
  have c3 : cM a0 H0 H1 := by rw [eH1]; exact cM.sl c
  have kG1 : ∀ f a, ((70 ≤ f ∧ f ≤ 72) ∨ (79 ≤ f ∧ f ≤ 94) ∨ f = 96) → gr G f a0 = some a → gr G1 f a0 = some a := by intro f a _ z; rw [eG1]; exact z
  have z4 := eM.simp e2
  try simp (disch := omega) only [z4]
  exact f_M_write_103 e2 c3 hk  h
set_option maxHeartbeats 4000000 in
theorem f_M_write_73 {t : TY} {a0 : Nat} {G H H0 : GS} {K K' : GS → Prop} (e : eM a0 G H) (c : cM a0 H0 H) (hk : ∀ (G' H' : GS), eM a0 G' H' → cM a0 H0 H' → K G' → K' H') {l2 : Int32} {l3 : Int64} {l5 : Int32} (h : w_M_write_73 t a0 K l2 l3 l5 G) : w_M_write_73 t a0 K' l2 l3 l5 H := by
  unfold w_M_write_73 at h ⊢
  have z1 := eM.simp e
  try simp (disch := omega) only [z1]
  refine ite_lift h (fun h => ?_) (fun h => ?_)
  · try simp (disch := omega) only [z1]
    exact f_M_write_103 e c hk  h
  · try simp (disch := omega) only [z1]
    refine ite_lift h (fun h => ?_) (fun h => ?_)
    · try simp (disch := omega) only [z1]
      exact f_M_write_96 e c hk  h
    · try simp (disch := omega) only [z1]
      refine ite_lift h (fun h => ?_) (fun h => ?_)
      · try simp (disch := omega) only [z1]
        exact f_M_write_103 e c hk  h
      · try simp (disch := omega) only [z1]
        exact f_M_write_96 e c hk  h
set_option maxHeartbeats 4000000 in
theorem f_M_write_32 {t : TY} {a0 : Nat} {G H H0 : GS} {K K' : GS → Prop} (e : eM a0 G H) (c : cM a0 H0 H) (hk : ∀ (G' H' : GS), eM a0 G' H' → cM a0 H0 H' → K G' → K' H') {l1 : Int32} {l2 : Int32} {s0 : Int64} (h : w_M_write_32 t a0 K l1 l2 s0 G) : w_M_write_32 t a0 K' l1 l2 s0 H := by
  unfold w_M_write_32 at h ⊢
  have z1 := eM.simp e
  try simp (disch := omega) only [z1]
  refine and_lift h (fun h => ?_)
  refine f_M_get e (fun v1 h => ?_) h
  refine bind_lift h (fun v2 h => ?_)
  refine ex_lift h (fun a3 q2 h => ?_)
  try simp only [((e).2 90 a3 (by omega) q2).1, ((e).2 90 a3 (by omega) q2).2]
  refine and_lift h (fun h => ?_)
  refine and_lift h (fun h => ?_)
  refine ite_lift h (fun h => ?_) (fun h => ?_)
  · try simp (disch := omega) only [z1]
    try simp only [((e).2 90 a3 (by omega) q2).1, ((e).2 90 a3 (by omega) q2).2]
    exact f_M_write_73 e c hk  h
  · try simp (disch := omega) only [z1]
    try simp only [((e).2 90 a3 (by omega) q2).1, ((e).2 90 a3 (by omega) q2).2]
    refine ite_lift h (fun h => ?_) (fun h => ?_)
    · try simp (disch := omega) only [z1]
      try simp only [((e).2 90 a3 (by omega) q2).1, ((e).2 90 a3 (by omega) q2).2]
      exact f_M_write_73 e c hk  h
    · try simp (disch := omega) only [z1]
      try simp only [((e).2 90 a3 (by omega) q2).1, ((e).2 90 a3 (by omega) q2).2]
      refine all_lift h (fun H4 eH4 h => ?_)
      obtain ⟨G4, eG4⟩ : ∃ z, z = sl G 98 a0 (1852141679 : Int64) := ⟨_, rfl⟩
      rw [← eG4] at h
      have e3 : eM a0 G4 H4 := by rw [eG4, eH4]; exact eM.sl e (by omega)
      have c4 : cM a0 H0 H4 := by rw [eH4]; exact cM.sl c
      have kG4 : ∀ f a, ((70 ≤ f ∧ f ≤ 72) ∨ (79 ≤ f ∧ f ≤ 94) ∨ f = 96) → gr G f a0 = some a → gr G4 f a0 = some a := by intro f a _ z; rw [eG4]; exact z
      have q5 := kG4 90 a3 (by omega) q2
      have z6 := eM.simp e3
      try simp (disch := omega) only [z6]
      try simp only [((e3).2 90 a3 (by omega) q5).1, ((e3).2 90 a3 (by omega) q5).2]
      exact f_M_write_103 e3 c4 hk  h
set_option maxHeartbeats 4000000 in
theorem f_M_write {t : TY} {a0 : Nat} {G H : GS} {K K' : GS → Prop} (e : eM a0 G H) (hk : ∀ (G' H' : GS), eM a0 G' H' → cM a0 H H' → K G' → K' H') {p1 : Int32} {p2 : Int32} (h : w_M_write t G a0 p1 p2 K) : w_M_write t H a0 p1 p2 K' := by
  obtain ⟨H0, eH0⟩ : ∃ z, z = H := ⟨_, rfl⟩
  have c : cM a0 H0 H := by rw [eH0]; exact cM.rf
  have hk : ∀ (G' H' : GS), eM a0 G' H' → cM a0 H0 H' → K G' → K' H' := by rw [eH0]; exact hk
  unfold w_M_write at h ⊢
  have z1 := eM.simp e
  try simp (disch := omega) only [z1]
  refine and_lift h (fun h => ?_)
  refine f_M_at e (fun v1 h => ?_) h
  refine ite_lift h (fun h => ?_) (fun h => ?_)
  · try simp (disch := omega) only [z1]
    refine f_M_get e (fun v2 h => ?_) h
    exact f_M_write_32 e c hk  h
  · try simp (disch := omega) only [z1]
    refine f_M_at e (fun v3 h => ?_) h
    exact f_M_write_32 e c hk  h
set_option maxHeartbeats 4000000 in
theorem f_M_show {t : TY} {a0 : Nat} {G H : GS} {K K' : GS → Prop} (e : eM a0 G H) (hk : ∀ (G' H' : GS), eM a0 G' H' → cM a0 H H' → K G' → K' H') {p1 : Int32} (h : w_M_show t G a0 p1 K) : w_M_show t H a0 p1 K' := by
  obtain ⟨H0, eH0⟩ : ∃ z, z = H := ⟨_, rfl⟩
  have c : cM a0 H0 H := by rw [eH0]; exact cM.rf
  have hk : ∀ (G' H' : GS), eM a0 G' H' → cM a0 H0 H' → K G' → K' H' := by rw [eH0]; exact hk
  unfold w_M_show at h ⊢
  have z1 := eM.simp e
  try simp (disch := omega) only [z1]
  refine and_lift h (fun h => ?_)
  refine f_M_statSize e (fun v1 h => ?_) h
  refine f_M_put e (fun G2 H2 e2 c3 h => ?_) h
  have c3 := (c).tr c3
  have z4 := eM.simp e2
  try simp (disch := omega) only [z4]
  refine f_M_stat e2 (fun G3 H3 e5 c6 h => ?_) h
  have c6 := (c3).tr c6
  have z7 := eM.simp e5
  try simp (disch := omega) only [z7]
  exact hk _ _ e5 c6 h
set_option maxHeartbeats 4000000 in
theorem f_M_given_84 {t : TY} {a0 : Nat} {G H : GS} {K K' : Int32 → Prop} (e : eM a0 G H) (hk : ∀ v : Int32, K v → K' v) {s0 : Int32} (h : w_M_given_84 t G a0 K s0) : w_M_given_84 t H a0 K' s0 := by
  unfold w_M_given_84 at h ⊢
  have z1 := eM.simp e
  try simp (disch := omega) only [z1]
  refine and_lift h (fun h => ?_)
  refine f_M_get e (fun v1 h => ?_) h
  refine ite_lift h (fun h => ?_) (fun h => ?_)
  · try simp (disch := omega) only [z1]
    exact hk _ h
  · try simp (disch := omega) only [z1]
    exact hk _ h
set_option maxHeartbeats 4000000 in
theorem f_M_given_64 {t : TY} {a0 : Nat} {G H : GS} {K K' : Int32 → Prop} (e : eM a0 G H) (hk : ∀ v : Int32, K v → K' v) {l1 : Int32} {s0 : Int32} (h : w_M_given_64 t G a0 K l1 s0) : w_M_given_64 t H a0 K' l1 s0 := by
  unfold w_M_given_64 at h ⊢
  have z1 := eM.simp e
  try simp (disch := omega) only [z1]
  refine and_lift h (fun h => ?_)
  refine f_M_get e (fun v1 h => ?_) h
  refine ite_lift h (fun h => ?_) (fun h => ?_)
  · try simp (disch := omega) only [z1]
    exact f_M_given_84 e hk  h
  · try simp (disch := omega) only [z1]
    exact f_M_given_84 e hk  h
set_option maxHeartbeats 4000000 in
theorem f_M_given_42 {t : TY} {a0 : Nat} {G H : GS} {K K' : Int32 → Prop} (e : eM a0 G H) (hk : ∀ v : Int32, K v → K' v) {l1 : Int32} {s0 : Int32} (h : w_M_given_42 t G a0 K l1 s0) : w_M_given_42 t H a0 K' l1 s0 := by
  unfold w_M_given_42 at h ⊢
  have z1 := eM.simp e
  try simp (disch := omega) only [z1]
  refine and_lift h (fun h => ?_)
  refine f_M_get e (fun v1 h => ?_) h
  refine ite_lift h (fun h => ?_) (fun h => ?_)
  · try simp (disch := omega) only [z1]
    exact f_M_given_64 e hk  h
  · try simp (disch := omega) only [z1]
    exact f_M_given_64 e hk  h
set_option maxHeartbeats 4000000 in
theorem f_M_given_20 {t : TY} {a0 : Nat} {G H : GS} {K K' : Int32 → Prop} (e : eM a0 G H) (hk : ∀ v : Int32, K v → K' v) {l1 : Int32} {s0 : Int32} (h : w_M_given_20 t G a0 K l1 s0) : w_M_given_20 t H a0 K' l1 s0 := by
  unfold w_M_given_20 at h ⊢
  have z1 := eM.simp e
  try simp (disch := omega) only [z1]
  refine and_lift h (fun h => ?_)
  refine f_M_get e (fun v1 h => ?_) h
  refine ite_lift h (fun h => ?_) (fun h => ?_)
  · try simp (disch := omega) only [z1]
    exact f_M_given_42 e hk  h
  · try simp (disch := omega) only [z1]
    exact f_M_given_42 e hk  h
set_option maxHeartbeats 4000000 in
theorem f_M_given {t : TY} {a0 : Nat} {G H : GS} {K K' : Int32 → Prop} (e : eM a0 G H) (hk : ∀ v : Int32, K v → K' v) {p1 : Int32} (h : w_M_given t G a0 p1 K) : w_M_given t H a0 p1 K' := by
  skip
  skip
  skip
  unfold w_M_given at h ⊢
  have z1 := eM.simp e
  try simp (disch := omega) only [z1]
  refine and_lift h (fun h => ?_)
  refine f_M_get e (fun v1 h => ?_) h
  refine ite_lift h (fun h => ?_) (fun h => ?_)
  · try simp (disch := omega) only [z1]
    exact f_M_given_20 e hk  h
  · try simp (disch := omega) only [z1]
    exact f_M_given_20 e hk  h
set_option maxHeartbeats 4000000 in
theorem f_M_checkLength_100 {t : TY} {a0 : Nat} {G H H0 : GS} {K K' : GS → Prop} (e : eM a0 G H) (c : cM a0 H0 H) (hk : ∀ (G' H' : GS), eM a0 G' H' → cM a0 H0 H' → K G' → K' H') (h : w_M_checkLength_100 t a0 K G) : w_M_checkLength_100 t a0 K' H := by
  unfold w_M_checkLength_100 at h ⊢
  have z1 := eM.simp e
  try simp (disch := omega) only [z1]
  refine and_lift h (fun h => ?_)
  refine all_lift h (fun H1 eH1 h => ?_)
  obtain ⟨G1, eG1⟩ : ∃ z, z = sl G 98 a0 (1819047270 : Int64) := ⟨_, rfl⟩
  rw [← eG1] at h
  have e2 : eM a0 G1 H1 := by rw [eG1, eH1]; exact eM.sl e (by omega)
  have c3 : cM a0 H0 H1 := by rw [eH1]; exact cM.sl c
  have kG1 : ∀ f a, ((70 ≤ f ∧ f ≤ 72) ∨ (79 ≤ f ∧ f ≤ 94) ∨ f = 96) → gr G f a0 = some a → gr G1 f a0 = some a := by intro f a _ z; rw [eG1]; exact z
  have z4 := eM.simp e2
  try simp (disch := omega) only [z4]
  exact hk _ _ e2 c3 h
set_option maxHeartbeats 4000000 in
theorem f_M_checkLength {t : TY} {a0 : Nat} {G H : GS} {K K' : GS → Prop} (e : eM a0 G H) (hk : ∀ (G' H' : GS), eM a0 G' H' → cM a0 H H' → K G' → K' H') {p1 : Int32} (h : w_M_checkLength t G a0 p1 K) : w_M_checkLength t H a0 p1 K' := by
  obtain ⟨H0, eH0⟩ : ∃ z, z = H := ⟨_, rfl⟩
  have c : cM a0 H0 H := by rw [eH0]; exact cM.rf
  have hk : ∀ (G' H' : GS), eM a0 G' H' → cM a0 H0 H' → K G' → K' H' := by rw [eH0]; exact hk
  unfold w_M_checkLength at h ⊢
  have z1 := eM.simp e
  try simp (disch := omega) only [z1]
  refine and_lift h (fun h => ?_)
  refine f_M_get e (fun v1 h => ?_) h
  refine f_M_isDirectory e (fun v2 h => ?_) h
  refine ite_lift h (fun h => ?_) (fun h => ?_)
  · try simp (disch := omega) only [z1]
    refine f_M_may e (fun v3 h => ?_) h
    refine ite_lift h (fun h => ?_) (fun h => ?_)
    · try simp (disch := omega) only [z1]
      refine ite_lift h (fun h => ?_) (fun h => ?_)
      · try simp (disch := omega) only [z1]
        exact f_M_checkLength_100 e c hk  h
      · try simp (disch := omega) only [z1]
        refine ite_lift h (fun h => ?_) (fun h => ?_)
        · try simp (disch := omega) only [z1]
          exact f_M_checkLength_100 e c hk  h
        · try simp (disch := omega) only [z1]
          refine f_M_blocks e (fun v4 h => ?_) h
          refine f_M_at e (fun v5 h => ?_) h
          refine ite_lift h (fun h => ?_) (fun h => ?_)
          · try simp (disch := omega) only [z1]
            exact hk _ _ e c h
          · try simp (disch := omega) only [z1]
            exact f_M_checkLength_100 e c hk  h
    · try simp (disch := omega) only [z1]
      refine all_lift h (fun H6 eH6 h => ?_)
      obtain ⟨G6, eG6⟩ : ∃ z, z = sl G 98 a0 (1836213616 : Int64) := ⟨_, rfl⟩
      rw [← eG6] at h
      have e2 : eM a0 G6 H6 := by rw [eG6, eH6]; exact eM.sl e (by omega)
      have c3 : cM a0 H0 H6 := by rw [eH6]; exact cM.sl c
      have kG6 : ∀ f a, ((70 ≤ f ∧ f ≤ 72) ∨ (79 ≤ f ∧ f ≤ 94) ∨ f = 96) → gr G f a0 = some a → gr G6 f a0 = some a := by intro f a _ z; rw [eG6]; exact z
      have z4 := eM.simp e2
      try simp (disch := omega) only [z4]
      exact hk _ _ e2 c3 h
  · try simp (disch := omega) only [z1]
    refine all_lift h (fun H7 eH7 h => ?_)
    obtain ⟨G7, eG7⟩ : ∃ z, z = sl G 98 a0 (1952543859 : Int64) := ⟨_, rfl⟩
    rw [← eG7] at h
    have e5 : eM a0 G7 H7 := by rw [eG7, eH7]; exact eM.sl e (by omega)
    have c6 : cM a0 H0 H7 := by rw [eH7]; exact cM.sl c
    have kG7 : ∀ f a, ((70 ≤ f ∧ f ≤ 72) ∨ (79 ≤ f ∧ f ≤ 94) ∨ f = 96) → gr G f a0 = some a → gr G7 f a0 = some a := by intro f a _ z; rw [eG7]; exact z
    have z7 := eM.simp e5
    try simp (disch := omega) only [z7]
    exact hk _ _ e5 c6 h
set_option maxHeartbeats 4000000 in
theorem f_M_checkName_19 {t : TY} {a0 : Nat} {G H H0 : GS} {K K' : GS → Prop} (e : eM a0 G H) (c : cM a0 H0 H) (hk : ∀ (G' H' : GS), eM a0 G' H' → cM a0 H0 H' → K G' → K' H') {l1 : Int32} {s0 : Int32} (h : w_M_checkName_19 t a0 K l1 s0 G) : w_M_checkName_19 t a0 K' l1 s0 H := by
  unfold w_M_checkName_19 at h ⊢
  have z1 := eM.simp e
  try simp (disch := omega) only [z1]
  refine ite_lift h (fun h => ?_) (fun h => ?_)
  · try simp (disch := omega) only [z1]
    refine and_lift h (fun h => ?_)
    refine f_M_fits e (fun v1 h => ?_) h
    refine ite_lift h (fun h => ?_) (fun h => ?_)
    · try simp (disch := omega) only [z1]
      refine f_M_may e (fun v2 h => ?_) h
      refine ite_lift h (fun h => ?_) (fun h => ?_)
      · try simp (disch := omega) only [z1]
        refine f_M_named e (fun v3 h => ?_) h
        refine ite_lift h (fun h => ?_) (fun h => ?_)
        · try simp (disch := omega) only [z1]
          exact hk _ _ e c h
        · try simp (disch := omega) only [z1]
          refine f_M_named e (fun v4 h => ?_) h
          refine ite_lift h (fun h => ?_) (fun h => ?_)
          · try simp (disch := omega) only [z1]
            exact hk _ _ e c h
          · try simp (disch := omega) only [z1]
            refine all_lift h (fun H5 eH5 h => ?_)
            obtain ⟨G5, eG5⟩ : ∃ z, z = sl G 98 a0 (500152498277 : Int64) := ⟨_, rfl⟩
            rw [← eG5] at h
            have e2 : eM a0 G5 H5 := by rw [eG5, eH5]; exact eM.sl e (by omega)
            have c3 : cM a0 H0 H5 := by rw [eH5]; exact cM.sl c
            have kG5 : ∀ f a, ((70 ≤ f ∧ f ≤ 72) ∨ (79 ≤ f ∧ f ≤ 94) ∨ f = 96) → gr G f a0 = some a → gr G5 f a0 = some a := by intro f a _ z; rw [eG5]; exact z
            have z4 := eM.simp e2
            try simp (disch := omega) only [z4]
            exact hk _ _ e2 c3 h
      · try simp (disch := omega) only [z1]
        refine all_lift h (fun H6 eH6 h => ?_)
        obtain ⟨G6, eG6⟩ : ∃ z, z = sl G 98 a0 (1836213616 : Int64) := ⟨_, rfl⟩
        rw [← eG6] at h
        have e5 : eM a0 G6 H6 := by rw [eG6, eH6]; exact eM.sl e (by omega)
        have c6 : cM a0 H0 H6 := by rw [eH6]; exact cM.sl c
        have kG6 : ∀ f a, ((70 ≤ f ∧ f ≤ 72) ∨ (79 ≤ f ∧ f ≤ 94) ∨ f = 96) → gr G f a0 = some a → gr G6 f a0 = some a := by intro f a _ z; rw [eG6]; exact z
        have z7 := eM.simp e5
        try simp (disch := omega) only [z7]
        exact hk _ _ e5 c6 h
    · try simp (disch := omega) only [z1]
      refine all_lift h (fun H7 eH7 h => ?_)
      obtain ⟨G7, eG7⟩ : ∃ z, z = sl G 98 a0 (1701667182 : Int64) := ⟨_, rfl⟩
      rw [← eG7] at h
      have e8 : eM a0 G7 H7 := by rw [eG7, eH7]; exact eM.sl e (by omega)
      have c9 : cM a0 H0 H7 := by rw [eH7]; exact cM.sl c
      have kG7 : ∀ f a, ((70 ≤ f ∧ f ≤ 72) ∨ (79 ≤ f ∧ f ≤ 94) ∨ f = 96) → gr G f a0 = some a → gr G7 f a0 = some a := by intro f a _ z; rw [eG7]; exact z
      have z10 := eM.simp e8
      try simp (disch := omega) only [z10]
      exact hk _ _ e8 c9 h
  · try simp (disch := omega) only [z1]
    refine and_lift h (fun h => ?_)
    refine all_lift h (fun H8 eH8 h => ?_)
    obtain ⟨G8, eG8⟩ : ∃ z, z = sl G 98 a0 (1836213616 : Int64) := ⟨_, rfl⟩
    rw [← eG8] at h
    have e11 : eM a0 G8 H8 := by rw [eG8, eH8]; exact eM.sl e (by omega)
    have c12 : cM a0 H0 H8 := by rw [eH8]; exact cM.sl c
    have kG8 : ∀ f a, ((70 ≤ f ∧ f ≤ 72) ∨ (79 ≤ f ∧ f ≤ 94) ∨ f = 96) → gr G f a0 = some a → gr G8 f a0 = some a := by intro f a _ z; rw [eG8]; exact z
    have z13 := eM.simp e11
    try simp (disch := omega) only [z13]
    exact hk _ _ e11 c12 h
set_option maxHeartbeats 4000000 in
theorem f_M_checkName {t : TY} {a0 : Nat} {G H : GS} {K K' : GS → Prop} (e : eM a0 G H) (hk : ∀ (G' H' : GS), eM a0 G' H' → cM a0 H H' → K G' → K' H') {p1 : Int32} (h : w_M_checkName t G a0 p1 K) : w_M_checkName t H a0 p1 K' := by
  obtain ⟨H0, eH0⟩ : ∃ z, z = H := ⟨_, rfl⟩
  have c : cM a0 H0 H := by rw [eH0]; exact cM.rf
  have hk : ∀ (G' H' : GS), eM a0 G' H' → cM a0 H0 H' → K G' → K' H' := by rw [eH0]; exact hk
  unfold w_M_checkName at h ⊢
  have z1 := eM.simp e
  try simp (disch := omega) only [z1]
  refine ite_lift h (fun h => ?_) (fun h => ?_)
  · try simp (disch := omega) only [z1]
    refine and_lift h (fun h => ?_)
    refine f_M_at e (fun v1 h => ?_) h
    refine f_M_find e (fun v2 h => ?_) h
    exact f_M_checkName_19 e c hk  h
  · try simp (disch := omega) only [z1]
    exact f_M_checkName_19 e c hk  h
set_option maxHeartbeats 4000000 in
theorem f_M_resize_8 {t : TY} {a0 : Nat} {G H H0 : GS} {K K' : GS → Prop} (e : eM a0 G H) (c : cM a0 H0 H) (hk : ∀ (G' H' : GS), eM a0 G' H' → cM a0 H0 H' → K G' → K' H') : ∀ (n : Nat) {l1 : Int32} {l2 : Int32} {l3 : Int32}, w_M_resize_8 t a0 K n l1 l2 l3 G → w_M_resize_8 t a0 K' n l1 l2 l3 H := by
  intro n
  induction n generalizing G H with
  | zero => intro l1 l2 l3 h; exact h.elim
  | succ n ih =>
    intro l1 l2 l3 h
    have hr8 : ∀ (x0 : Int32) (x1 : Int32) (x2 : Int32) (G H : GS), eM a0 G H → cM a0 H0 H → w_M_resize_8 t a0 K n x0 x1 x2 G → w_M_resize_8 t a0 K' n x0 x1 x2 H := fun _ _ _ G H e c h => ih e c h
    unfold w_M_resize_8 at h ⊢
    have z1 := eM.simp e
    try simp (disch := omega) only [z1]
    try dsimp only at h ⊢
    refine ite_lift h (fun h => ?_) (fun h => ?_)
    · try simp (disch := omega) only [z1]
      refine and_lift h (fun h => ?_)
      refine f_M_set e (fun G1 H1 e2 c3 h => ?_) h
      have c3 := (c).tr c3
      have z4 := eM.simp e2
      try simp (disch := omega) only [z4]
      refine f_M_changes e2 (fun G2 H2 e5 c6 h => ?_) h
      have c6 := (c3).tr c6
      have z7 := eM.simp e5
      try simp (disch := omega) only [z7]
      exact hk _ _ e5 c6 h
    · try simp (disch := omega) only [z1]
      refine and_lift h (fun h => ?_)
      refine f_M_set e (fun G3 H3 e8 c9 h => ?_) h
      have c9 := (c).tr c9
      have z10 := eM.simp e8
      try simp (disch := omega) only [z10]
      refine bind_lift h (fun v4 h => ?_)
      exact hr8 _ _ _ _ _ e8 c9 h
set_option maxHeartbeats 4000000 in
theorem f_M_resize {t : TY} {a0 : Nat} {G H : GS} {K K' : GS → Prop} (e : eM a0 G H) (hk : ∀ (G' H' : GS), eM a0 G' H' → cM a0 H H' → K G' → K' H') {p1 : Int32} {p2 : Int32} (h : w_M_resize t G a0 p1 p2 K) : w_M_resize t H a0 p1 p2 K' := by
  obtain ⟨H0, eH0⟩ : ∃ z, z = H := ⟨_, rfl⟩
  have c : cM a0 H0 H := by rw [eH0]; exact cM.rf
  have hk : ∀ (G' H' : GS), eM a0 G' H' → cM a0 H0 H' → K G' → K' H' := by rw [eH0]; exact hk
  unfold w_M_resize at h ⊢
  have z1 := eM.simp e
  try simp (disch := omega) only [z1]
  refine and_lift h (fun h => ?_)
  refine f_M_at e (fun v1 h => ?_) h
  obtain ⟨n, h⟩ := h
  refine ⟨n, ?_⟩
  exact f_M_resize_8 e c hk _  h
set_option maxHeartbeats 4000000 in
theorem f_M_alter_547 {t : TY} {a0 : Nat} {G H H0 : GS} {K K' : GS → Prop} (e : eM a0 G H) (c : cM a0 H0 H) (hk : ∀ (G' H' : GS), eM a0 G' H' → cM a0 H0 H' → K G' → K' H') (h : w_M_alter_547 t a0 K G) : w_M_alter_547 t a0 K' H := by
  unfold w_M_alter_547 at h ⊢
  have z1 := eM.simp e
  try simp (disch := omega) only [z1]
  refine and_lift h (fun h => ?_)
  refine f_M_commit e (fun G1 H1 v2 e2 c3 h => ?_) h
  have c3 := (c).tr c3
  have z4 := eM.simp e2
  try simp (disch := omega) only [z4]
  exact hk _ _ e2 c3 h
set_option maxHeartbeats 4000000 in
theorem f_M_alter_526 {t : TY} {a0 : Nat} {G H H0 : GS} {K K' : GS → Prop} (e : eM a0 G H) (c : cM a0 H0 H) (hk : ∀ (G' H' : GS), eM a0 G' H' → cM a0 H0 H' → K G' → K' H') {l1 : Int32} {l6 : Int32} (h : w_M_alter_526 t a0 K l1 l6 G) : w_M_alter_526 t a0 K' l1 l6 H := by
  unfold w_M_alter_526 at h ⊢
  have z1 := eM.simp e
  try simp (disch := omega) only [z1]
  refine ite_lift h (fun h => ?_) (fun h => ?_)
  · try simp (disch := omega) only [z1]
    exact f_M_alter_547 e c hk  h
  · try simp (disch := omega) only [z1]
    refine and_lift h (fun h => ?_)
    refine f_M_get e (fun v1 h => ?_) h
    refine f_M_set e (fun G2 H2 e2 c3 h => ?_) h
    have c3 := (c).tr c3
    have z4 := eM.simp e2
    try simp (disch := omega) only [z4]
    exact f_M_alter_547 e2 c3 hk  h
set_option maxHeartbeats 4000000 in
theorem f_M_alter_499 {t : TY} {a0 : Nat} {G H H0 : GS} {K K' : GS → Prop} (e : eM a0 G H) (c : cM a0 H0 H) (hk : ∀ (G' H' : GS), eM a0 G' H' → cM a0 H0 H' → K G' → K' H') {l1 : Int32} {l6 : Int32} (h : w_M_alter_499 t a0 K l1 l6 G) : w_M_alter_499 t a0 K' l1 l6 H := by
  unfold w_M_alter_499 at h ⊢
  have z1 := eM.simp e
  try simp (disch := omega) only [z1]
  refine ite_lift h (fun h => ?_) (fun h => ?_)
  · try simp (disch := omega) only [z1]
    exact f_M_alter_526 e c hk  h
  · try simp (disch := omega) only [z1]
    refine and_lift h (fun h => ?_)
    refine f_M_at e (fun v1 h => ?_) h
    refine f_M_find e (fun v2 h => ?_) h
    refine f_M_changes e (fun G3 H3 e2 c3 h => ?_) h
    have c3 := (c).tr c3
    have z4 := eM.simp e2
    try simp (disch := omega) only [z4]
    exact f_M_alter_526 e2 c3 hk  h
set_option maxHeartbeats 4000000 in
theorem f_M_alter_484 {t : TY} {a0 : Nat} {G H H0 : GS} {K K' : GS → Prop} (e : eM a0 G H) (c : cM a0 H0 H) (hk : ∀ (G' H' : GS), eM a0 G' H' → cM a0 H0 H' → K G' → K' H') {l1 : Int32} {l6 : Int32} (h : w_M_alter_484 t a0 K l1 l6 G) : w_M_alter_484 t a0 K' l1 l6 H := by
  unfold w_M_alter_484 at h ⊢
  have z1 := eM.simp e
  try simp (disch := omega) only [z1]
  refine ite_lift h (fun h => ?_) (fun h => ?_)
  · try simp (disch := omega) only [z1]
    exact f_M_alter_499 e c hk  h
  · try simp (disch := omega) only [z1]
    refine and_lift h (fun h => ?_)
    refine f_M_rename e (fun G1 H1 e2 c3 h => ?_) h
    have c3 := (c).tr c3
    have z4 := eM.simp e2
    try simp (disch := omega) only [z4]
    exact f_M_alter_499 e2 c3 hk  h
set_option maxHeartbeats 4000000 in
theorem f_M_alter_467 {t : TY} {a0 : Nat} {G H H0 : GS} {K K' : GS → Prop} (e : eM a0 G H) (c : cM a0 H0 H) (hk : ∀ (G' H' : GS), eM a0 G' H' → cM a0 H0 H' → K G' → K' H') {l1 : Int32} {l6 : Int32} {l9 : Int32} (h : w_M_alter_467 t a0 K l1 l6 l9 G) : w_M_alter_467 t a0 K' l1 l6 l9 H := by
  unfold w_M_alter_467 at h ⊢
  have z1 := eM.simp e
  try simp (disch := omega) only [z1]
  refine ite_lift h (fun h => ?_) (fun h => ?_)
  · try simp (disch := omega) only [z1]
    exact f_M_alter_484 e c hk  h
  · try simp (disch := omega) only [z1]
    refine and_lift h (fun h => ?_)
    refine f_M_set e (fun G1 H1 e2 c3 h => ?_) h
    have c3 := (c).tr c3
    have z4 := eM.simp e2
    try simp (disch := omega) only [z4]
    exact f_M_alter_484 e2 c3 hk  h
set_option maxHeartbeats 4000000 in
theorem f_M_alter_452 {t : TY} {a0 : Nat} {G H H0 : GS} {K K' : GS → Prop} (e : eM a0 G H) (c : cM a0 H0 H) (hk : ∀ (G' H' : GS), eM a0 G' H' → cM a0 H0 H' → K G' → K' H') {l1 : Int32} {l6 : Int32} {l8 : Int32} {l9 : Int32} (h : w_M_alter_452 t a0 K l1 l6 l8 l9 G) : w_M_alter_452 t a0 K' l1 l6 l8 l9 H := by
  unfold w_M_alter_452 at h ⊢
  have z1 := eM.simp e
  try simp (disch := omega) only [z1]
  refine ite_lift h (fun h => ?_) (fun h => ?_)
  · try simp (disch := omega) only [z1]
    exact f_M_alter_467 e c hk  h
  · try simp (disch := omega) only [z1]
    refine and_lift h (fun h => ?_)
    refine f_M_set e (fun G1 H1 e2 c3 h => ?_) h
    have c3 := (c).tr c3
    have z4 := eM.simp e2
    try simp (disch := omega) only [z4]
    exact f_M_alter_467 e2 c3 hk  h
set_option maxHeartbeats 4000000 in
theorem f_M_alter_412 {t : TY} {a0 : Nat} {G H H0 : GS} {K K' : GS → Prop} (e : eM a0 G H) (c : cM a0 H0 H) (hk : ∀ (G' H' : GS), eM a0 G' H' → cM a0 H0 H' → K G' → K' H') {l1 : Int32} {l6 : Int32} {l8 : Int32} {l9 : Int32} (h : w_M_alter_412 t a0 K l1 l6 l8 l9 G) : w_M_alter_412 t a0 K' l1 l6 l8 l9 H := by
  unfold w_M_alter_412 at h ⊢
  have z1 := eM.simp e
  try simp (disch := omega) only [z1]
  refine and_lift h (fun h => ?_)
  refine ite_lift h (fun h => ?_) (fun h => ?_)
  · try simp (disch := omega) only [z1]
    exact hk _ _ e c h
  · try simp (disch := omega) only [z1]
    refine ite_lift h (fun h => ?_) (fun h => ?_)
    · try simp (disch := omega) only [z1]
      refine f_M_begin e (fun G1 H1 e2 c3 h => ?_) h
      have c3 := (c).tr c3
      have z4 := eM.simp e2
      try simp (disch := omega) only [z4]
      refine ite_lift h (fun h => ?_) (fun h => ?_)
      · try simp (disch := omega) only [z4]
        exact f_M_alter_452 e2 c3 hk  h
      · try simp (disch := omega) only [z4]
        refine f_M_get e2 (fun v2 h => ?_) h
        refine f_M_resize e2 (fun G3 H3 e5 c6 h => ?_) h
        have c6 := (c3).tr c6
        have z7 := eM.simp e5
        try simp (disch := omega) only [z7]
        exact f_M_alter_452 e5 c6 hk  h
    · try simp (disch := omega) only [z1]
      exact hk _ _ e c h
set_option maxHeartbeats 4000000 in
theorem f_M_alter_390 {t : TY} {a0 : Nat} {G H H0 : GS} {K K' : GS → Prop} (e : eM a0 G H) (c : cM a0 H0 H) (hk : ∀ (G' H' : GS), eM a0 G' H' → cM a0 H0 H' → K G' → K' H') {l1 : Int32} {l6 : Int32} {l8 : Int32} {l9 : Int32} (h : w_M_alter_390 t a0 K l1 l6 l8 l9 G) : w_M_alter_390 t a0 K' l1 l6 l8 l9 H := by
  unfold w_M_alter_390 at h ⊢
  have z1 := eM.simp e
  try simp (disch := omega) only [z1]
  refine and_lift h (fun h => ?_)
  refine ite_lift h (fun h => ?_) (fun h => ?_)
  · try simp (disch := omega) only [z1]
    exact f_M_alter_412 e c hk  h
  · try simp (disch := omega) only [z1]
    refine ite_lift h (fun h => ?_) (fun h => ?_)
    · try simp (disch := omega) only [z1]
      exact f_M_alter_412 e c hk  h
    · try simp (disch := omega) only [z1]
      refine f_M_checkName e (fun G1 H1 e2 c3 h => ?_) h
      have c3 := (c).tr c3
      have z4 := eM.simp e2
      try simp (disch := omega) only [z4]
      exact f_M_alter_412 e2 c3 hk  h
set_option maxHeartbeats 4000000 in
theorem f_M_alter_383 {t : TY} {a0 : Nat} {G H H0 : GS} {K K' : GS → Prop} (e : eM a0 G H) (c : cM a0 H0 H) (hk : ∀ (G' H' : GS), eM a0 G' H' → cM a0 H0 H' → K G' → K' H') {l1 : Int32} {l6 : Int32} {l8 : Int32} {l9 : Int32} (h : w_M_alter_383 t a0 K l1 l6 l8 l9 G) : w_M_alter_383 t a0 K' l1 l6 l8 l9 H := by
  unfold w_M_alter_383 at h ⊢
  have z1 := eM.simp e
  try simp (disch := omega) only [z1]
  refine and_lift h (fun h => ?_)
  refine all_lift h (fun H1 eH1 h => ?_)
  obtain ⟨G1, eG1⟩ : ∃ z, z = sl G 98 a0 (1836213616 : Int64) := ⟨_, rfl⟩
  rw [← eG1] at h
  have e2 : eM a0 G1 H1 := by rw [eG1, eH1]; exact eM.sl e (by omega)
  have c3 : cM a0 H0 H1 := by rw [eH1]; exact cM.sl c
  have kG1 : ∀ f a, ((70 ≤ f ∧ f ≤ 72) ∨ (79 ≤ f ∧ f ≤ 94) ∨ f = 96) → gr G f a0 = some a → gr G1 f a0 = some a := by intro f a _ z; rw [eG1]; exact z
  have z4 := eM.simp e2
  try simp (disch := omega) only [z4]
  exact f_M_alter_390 e2 c3 hk  h
set_option maxHeartbeats 4000000 in
theorem f_M_alter_339 {t : TY} {a0 : Nat} {G H H0 : GS} {K K' : GS → Prop} (e : eM a0 G H) (c : cM a0 H0 H) (hk : ∀ (G' H' : GS), eM a0 G' H' → cM a0 H0 H' → K G' → K' H') {l1 : Int32} {l6 : Int32} {l7 : Int32} {l8 : Int32} {l9 : Int32} (h : w_M_alter_339 t a0 K l1 l6 l7 l8 l9 G) : w_M_alter_339 t a0 K' l1 l6 l7 l8 l9 H := by
  unfold w_M_alter_339 at h ⊢
  have z1 := eM.simp e
  try simp (disch := omega) only [z1]
  refine and_lift h (fun h => ?_)
  refine ite_lift h (fun h => ?_) (fun h => ?_)
  · try simp (disch := omega) only [z1]
    exact f_M_alter_390 e c hk  h
  · try simp (disch := omega) only [z1]
    refine ite_lift h (fun h => ?_) (fun h => ?_)
    · try simp (disch := omega) only [z1]
      exact f_M_alter_390 e c hk  h
    · try simp (disch := omega) only [z1]
      refine ite_lift h (fun h => ?_) (fun h => ?_)
      · try simp (disch := omega) only [z1]
        exact f_M_alter_383 e c hk  h
      · try simp (disch := omega) only [z1]
        refine ite_lift h (fun h => ?_) (fun h => ?_)
        · try simp (disch := omega) only [z1]
          exact f_M_alter_390 e c hk  h
        · try simp (disch := omega) only [z1]
          refine ite_lift h (fun h => ?_) (fun h => ?_)
          · try simp (disch := omega) only [z1]
            exact f_M_alter_383 e c hk  h
          · try simp (disch := omega) only [z1]
            refine ite_lift h (fun h => ?_) (fun h => ?_)
            · try simp (disch := omega) only [z1]
              exact f_M_alter_390 e c hk  h
            · try simp (disch := omega) only [z1]
              exact f_M_alter_383 e c hk  h
set_option maxHeartbeats 4000000 in
theorem f_M_alter_303 {t : TY} {a0 : Nat} {G H H0 : GS} {K K' : GS → Prop} (e : eM a0 G H) (c : cM a0 H0 H) (hk : ∀ (G' H' : GS), eM a0 G' H' → cM a0 H0 H' → K G' → K' H') {l1 : Int32} {l3 : Int32} {l6 : Int32} {l7 : Int32} {l8 : Int32} (h : w_M_alter_303 t a0 K l1 l3 l6 l7 l8 G) : w_M_alter_303 t a0 K' l1 l3 l6 l7 l8 H := by
  unfold w_M_alter_303 at h ⊢
  have z1 := eM.simp e
  try simp (disch := omega) only [z1]
  refine and_lift h (fun h => ?_)
  refine f_M_userAt e (fun v1 h => ?_) h
  refine ite_lift h (fun h => ?_) (fun h => ?_)
  · try simp (disch := omega) only [z1]
    exact f_M_alter_339 e c hk  h
  · try simp (disch := omega) only [z1]
    refine ite_lift h (fun h => ?_) (fun h => ?_)
    · try simp (disch := omega) only [z1]
      exact f_M_alter_339 e c hk  h
    · try simp (disch := omega) only [z1]
      refine ite_lift h (fun h => ?_) (fun h => ?_)
      · try simp (disch := omega) only [z1]
        exact f_M_alter_339 e c hk  h
      · try simp (disch := omega) only [z1]
        refine all_lift h (fun H2 eH2 h => ?_)
        obtain ⟨G2, eG2⟩ : ∃ z, z = sl G 98 a0 (1919251317 : Int64) := ⟨_, rfl⟩
        rw [← eG2] at h
        have e2 : eM a0 G2 H2 := by rw [eG2, eH2]; exact eM.sl e (by omega)
        have c3 : cM a0 H0 H2 := by rw [eH2]; exact cM.sl c
        have kG2 : ∀ f a, ((70 ≤ f ∧ f ≤ 72) ∨ (79 ≤ f ∧ f ≤ 94) ∨ f = 96) → gr G f a0 = some a → gr G2 f a0 = some a := by intro f a _ z; rw [eG2]; exact z
        have z4 := eM.simp e2
        try simp (disch := omega) only [z4]
        exact f_M_alter_339 e2 c3 hk  h
set_option maxHeartbeats 4000000 in
theorem f_M_alter_275 {t : TY} {a0 : Nat} {G H H0 : GS} {K K' : GS → Prop} (e : eM a0 G H) (c : cM a0 H0 H) (hk : ∀ (G' H' : GS), eM a0 G' H' → cM a0 H0 H' → K G' → K' H') {l1 : Int32} {l3 : Int32} {l6 : Int32} {l7 : Int32} {l8 : Int32} (h : w_M_alter_275 t a0 K l1 l3 l6 l7 l8 G) : w_M_alter_275 t a0 K' l1 l3 l6 l7 l8 H := by
  unfold w_M_alter_275 at h ⊢
  have z1 := eM.simp e
  try simp (disch := omega) only [z1]
  refine and_lift h (fun h => ?_)
  refine ite_lift h (fun h => ?_) (fun h => ?_)
  · try simp (disch := omega) only [z1]
    exact f_M_alter_303 e c hk  h
  · try simp (disch := omega) only [z1]
    refine ite_lift h (fun h => ?_) (fun h => ?_)
    · try simp (disch := omega) only [z1]
      exact f_M_alter_303 e c hk  h
    · try simp (disch := omega) only [z1]
      refine ite_lift h (fun h => ?_) (fun h => ?_)
      · try simp (disch := omega) only [z1]
        exact f_M_alter_303 e c hk  h
      · try simp (disch := omega) only [z1]
        refine all_lift h (fun H1 eH1 h => ?_)
        obtain ⟨G1, eG1⟩ : ∃ z, z = sl G 98 a0 (1836213616 : Int64) := ⟨_, rfl⟩
        rw [← eG1] at h
        have e2 : eM a0 G1 H1 := by rw [eG1, eH1]; exact eM.sl e (by omega)
        have c3 : cM a0 H0 H1 := by rw [eH1]; exact cM.sl c
        have kG1 : ∀ f a, ((70 ≤ f ∧ f ≤ 72) ∨ (79 ≤ f ∧ f ≤ 94) ∨ f = 96) → gr G f a0 = some a → gr G1 f a0 = some a := by intro f a _ z; rw [eG1]; exact z
        have z4 := eM.simp e2
        try simp (disch := omega) only [z4]
        exact f_M_alter_303 e2 c3 hk  h
set_option maxHeartbeats 4000000 in
theorem f_M_alter_268 {t : TY} {a0 : Nat} {G H H0 : GS} {K K' : GS → Prop} (e : eM a0 G H) (c : cM a0 H0 H) (hk : ∀ (G' H' : GS), eM a0 G' H' → cM a0 H0 H' → K G' → K' H') {l1 : Int32} {l3 : Int32} {l6 : Int32} {l7 : Int32} {l8 : Int32} (h : w_M_alter_268 t a0 K l1 l3 l6 l7 l8 G) : w_M_alter_268 t a0 K' l1 l3 l6 l7 l8 H := by
  unfold w_M_alter_268 at h ⊢
  have z1 := eM.simp e
  try simp (disch := omega) only [z1]
  refine and_lift h (fun h => ?_)
  refine all_lift h (fun H1 eH1 h => ?_)
  obtain ⟨G1, eG1⟩ : ∃ z, z = sl G 98 a0 (1701080941 : Int64) := ⟨_, rfl⟩
  rw [← eG1] at h
  have e2 : eM a0 G1 H1 := by rw [eG1, eH1]; exact eM.sl e (by omega)
  have c3 : cM a0 H0 H1 := by rw [eH1]; exact cM.sl c
  have kG1 : ∀ f a, ((70 ≤ f ∧ f ≤ 72) ∨ (79 ≤ f ∧ f ≤ 94) ∨ f = 96) → gr G f a0 = some a → gr G1 f a0 = some a := by intro f a _ z; rw [eG1]; exact z
  have z4 := eM.simp e2
  try simp (disch := omega) only [z4]
  exact f_M_alter_275 e2 c3 hk  h
set_option maxHeartbeats 4000000 in
theorem f_M_alter_231 {t : TY} {a0 : Nat} {G H H0 : GS} {K K' : GS → Prop} (e : eM a0 G H) (c : cM a0 H0 H) (hk : ∀ (G' H' : GS), eM a0 G' H' → cM a0 H0 H' → K G' → K' H') {l1 : Int32} {l3 : Int32} {l6 : Int32} {l7 : Int32} {l8 : Int32} (h : w_M_alter_231 t a0 K l1 l3 l6 l7 l8 G) : w_M_alter_231 t a0 K' l1 l3 l6 l7 l8 H := by
  unfold w_M_alter_231 at h ⊢
  have z1 := eM.simp e
  try simp (disch := omega) only [z1]
  refine and_lift h (fun h => ?_)
  refine ite_lift h (fun h => ?_) (fun h => ?_)
  · try simp (disch := omega) only [z1]
    exact f_M_alter_275 e c hk  h
  · try simp (disch := omega) only [z1]
    refine ite_lift h (fun h => ?_) (fun h => ?_)
    · try simp (disch := omega) only [z1]
      exact f_M_alter_275 e c hk  h
    · try simp (disch := omega) only [z1]
      refine ite_lift h (fun h => ?_) (fun h => ?_)
      · try simp (disch := omega) only [z1]
        exact f_M_alter_268 e c hk  h
      · try simp (disch := omega) only [z1]
        refine f_M_at e (fun v1 h => ?_) h
        refine ite_lift h (fun h => ?_) (fun h => ?_)
        · try simp (disch := omega) only [z1]
          exact f_M_alter_275 e c hk  h
        · try simp (disch := omega) only [z1]
          exact f_M_alter_268 e c hk  h
set_option maxHeartbeats 4000000 in
theorem f_M_alter_191 {t : TY} {a0 : Nat} {G H H0 : GS} {K K' : GS → Prop} (e : eM a0 G H) (c : cM a0 H0 H) (hk : ∀ (G' H' : GS), eM a0 G' H' → cM a0 H0 H' → K G' → K' H') {l1 : Int32} {l3 : Int32} {l6 : Int32} {s0 : Int32} (h : w_M_alter_191 t a0 K l1 l3 l6 s0 G) : w_M_alter_191 t a0 K' l1 l3 l6 s0 H := by
  unfold w_M_alter_191 at h ⊢
  have z1 := eM.simp e
  try simp (disch := omega) only [z1]
  refine and_lift h (fun h => ?_)
  refine f_M_get e (fun v1 h => ?_) h
  refine bind_lift h (fun v2 h => ?_)
  refine ite_lift h (fun h => ?_) (fun h => ?_)
  · try simp (disch := omega) only [z1]
    exact f_M_alter_231 e c hk  h
  · try simp (disch := omega) only [z1]
    refine ite_lift h (fun h => ?_) (fun h => ?_)
    · try simp (disch := omega) only [z1]
      exact f_M_alter_231 e c hk  h
    · try simp (disch := omega) only [z1]
      refine ite_lift h (fun h => ?_) (fun h => ?_)
      · try simp (disch := omega) only [z1]
        exact f_M_alter_231 e c hk  h
      · try simp (disch := omega) only [z1]
        refine all_lift h (fun H3 eH3 h => ?_)
        obtain ⟨G3, eG3⟩ : ∃ z, z = sl G 98 a0 (1836213616 : Int64) := ⟨_, rfl⟩
        rw [← eG3] at h
        have e2 : eM a0 G3 H3 := by rw [eG3, eH3]; exact eM.sl e (by omega)
        have c3 : cM a0 H0 H3 := by rw [eH3]; exact cM.sl c
        have kG3 : ∀ f a, ((70 ≤ f ∧ f ≤ 72) ∨ (79 ≤ f ∧ f ≤ 94) ∨ f = 96) → gr G f a0 = some a → gr G3 f a0 = some a := by intro f a _ z; rw [eG3]; exact z
        have z4 := eM.simp e2
        try simp (disch := omega) only [z4]
        exact f_M_alter_231 e2 c3 hk  h
set_option maxHeartbeats 4000000 in
theorem f_M_alter_173 {t : TY} {a0 : Nat} {G H H0 : GS} {K K' : GS → Prop} (e : eM a0 G H) (c : cM a0 H0 H) (hk : ∀ (G' H' : GS), eM a0 G' H' → cM a0 H0 H' → K G' → K' H') {l1 : Int32} {l3 : Int32} {l6 : Int32} (h : w_M_alter_173 t a0 K l1 l3 l6 G) : w_M_alter_173 t a0 K' l1 l3 l6 H := by
  unfold w_M_alter_173 at h ⊢
  have z1 := eM.simp e
  try simp (disch := omega) only [z1]
  refine and_lift h (fun h => ?_)
  refine f_M_at e (fun v1 h => ?_) h
  refine ite_lift h (fun h => ?_) (fun h => ?_)
  · try simp (disch := omega) only [z1]
    exact f_M_alter_191 e c hk  h
  · try simp (disch := omega) only [z1]
    exact f_M_alter_191 e c hk  h
set_option maxHeartbeats 4000000 in
theorem f_M_alter_145 {t : TY} {a0 : Nat} {G H H0 : GS} {K K' : GS → Prop} (e : eM a0 G H) (c : cM a0 H0 H) (hk : ∀ (G' H' : GS), eM a0 G' H' → cM a0 H0 H' → K G' → K' H') {l1 : Int32} {l3 : Int32} (h : w_M_alter_145 t a0 K l1 l3 G) : w_M_alter_145 t a0 K' l1 l3 H := by
  unfold w_M_alter_145 at h ⊢
  have z1 := eM.simp e
  try simp (disch := omega) only [z1]
  refine and_lift h (fun h => ?_)
  refine f_M_given e (fun v1 h => ?_) h
  refine ite_lift h (fun h => ?_) (fun h => ?_)
  · try simp (disch := omega) only [z1]
    exact f_M_alter_173 e c hk  h
  · try simp (disch := omega) only [z1]
    refine ite_lift h (fun h => ?_) (fun h => ?_)
    · try simp (disch := omega) only [z1]
      exact f_M_alter_173 e c hk  h
    · try simp (disch := omega) only [z1]
      refine f_M_checkLength e (fun G2 H2 e2 c3 h => ?_) h
      have c3 := (c).tr c3
      have z4 := eM.simp e2
      try simp (disch := omega) only [z4]
      exact f_M_alter_173 e2 c3 hk  h
set_option maxHeartbeats 4000000 in
theorem f_M_alter_138 {t : TY} {a0 : Nat} {G H H0 : GS} {K K' : GS → Prop} (e : eM a0 G H) (c : cM a0 H0 H) (hk : ∀ (G' H' : GS), eM a0 G' H' → cM a0 H0 H' → K G' → K' H') {l1 : Int32} {l3 : Int32} (h : w_M_alter_138 t a0 K l1 l3 G) : w_M_alter_138 t a0 K' l1 l3 H := by
  unfold w_M_alter_138 at h ⊢
  have z1 := eM.simp e
  try simp (disch := omega) only [z1]
  refine and_lift h (fun h => ?_)
  refine all_lift h (fun H1 eH1 h => ?_)
  obtain ⟨G1, eG1⟩ : ∃ z, z = sl G 98 a0 (1952543859 : Int64) := ⟨_, rfl⟩
  rw [← eG1] at h
  have e2 : eM a0 G1 H1 := by rw [eG1, eH1]; exact eM.sl e (by omega)
  have c3 : cM a0 H0 H1 := by rw [eH1]; exact cM.sl c
  have kG1 : ∀ f a, ((70 ≤ f ∧ f ≤ 72) ∨ (79 ≤ f ∧ f ≤ 94) ∨ f = 96) → gr G f a0 = some a → gr G1 f a0 = some a := by intro f a _ z; rw [eG1]; exact z
  have z4 := eM.simp e2
  try simp (disch := omega) only [z4]
  exact f_M_alter_145 e2 c3 hk  h
set_option maxHeartbeats 4000000 in
theorem f_M_alter_108 {t : TY} {a0 : Nat} {G H H0 : GS} {K K' : GS → Prop} (e : eM a0 G H) (c : cM a0 H0 H) (hk : ∀ (G' H' : GS), eM a0 G' H' → cM a0 H0 H' → K G' → K' H') {l1 : Int32} {l2 : Int32} {l3 : Int32} {l4 : Int32} {s0 : Int32} (h : w_M_alter_108 t a0 K l1 l2 l3 l4 s0 G) : w_M_alter_108 t a0 K' l1 l2 l3 l4 s0 H := by
  unfold w_M_alter_108 at h ⊢
  have z1 := eM.simp e
  try simp (disch := omega) only [z1]
  refine ite_lift h (fun h => ?_) (fun h => ?_)
  · try simp (disch := omega) only [z1]
    exact f_M_alter_138 e c hk  h
  · try simp (disch := omega) only [z1]
    refine and_lift h (fun h => ?_)
    refine f_M_get e (fun v1 h => ?_) h
    refine ite_lift h (fun h => ?_) (fun h => ?_)
    · try simp (disch := omega) only [z1]
      exact f_M_alter_138 e c hk  h
    · try simp (disch := omega) only [z1]
      refine f_M_get e (fun v2 h => ?_) h
      refine ite_lift h (fun h => ?_) (fun h => ?_)
      · try simp (disch := omega) only [z1]
        exact f_M_alter_145 e c hk  h
      · try simp (disch := omega) only [z1]
        exact f_M_alter_138 e c hk  h
set_option maxHeartbeats 4000000 in
theorem f_M_alter_103 {t : TY} {a0 : Nat} {G H H0 : GS} {K K' : GS → Prop} (e : eM a0 G H) (c : cM a0 H0 H) (hk : ∀ (G' H' : GS), eM a0 G' H' → cM a0 H0 H' → K G' → K' H') {l1 : Int32} {l2 : Int32} {l3 : Int32} {l4 : Int32} (h : w_M_alter_103 t a0 K l1 l2 l3 l4 G) : w_M_alter_103 t a0 K' l1 l2 l3 l4 H := by
  unfold w_M_alter_103 at h ⊢
  have z1 := eM.simp e
  try simp (disch := omega) only [z1]
  exact f_M_alter_108 e c hk  h
set_option maxHeartbeats 4000000 in
theorem f_M_alter {t : TY} {a0 : Nat} {G H : GS} {K K' : GS → Prop} (e : eM a0 G H) (hk : ∀ (G' H' : GS), eM a0 G' H' → cM a0 H H' → K G' → K' H') {p1 : Int32} (h : w_M_alter t G a0 p1 K) : w_M_alter t H a0 p1 K' := by
  obtain ⟨H0, eH0⟩ : ∃ z, z = H := ⟨_, rfl⟩
  have c : cM a0 H0 H := by rw [eH0]; exact cM.rf
  have hk : ∀ (G' H' : GS), eM a0 G' H' → cM a0 H0 H' → K G' → K' H' := by rw [eH0]; exact hk
  unfold w_M_alter at h ⊢
  have z1 := eM.simp e
  try simp (disch := omega) only [z1]
  refine and_lift h (fun h => ?_)
  refine f_M_behind e (fun v1 h => ?_) h
  refine f_M_behind e (fun v2 h => ?_) h
  refine f_M_behind e (fun v3 h => ?_) h
  refine f_M_get e (fun v4 h => ?_) h
  refine ite_lift h (fun h => ?_) (fun h => ?_)
  · try simp (disch := omega) only [z1]
    exact f_M_alter_103 e c hk  h
  · try simp (disch := omega) only [z1]
    refine f_M_get e (fun v5 h => ?_) h
    refine ite_lift h (fun h => ?_) (fun h => ?_)
    · try simp (disch := omega) only [z1]
      exact f_M_alter_103 e c hk  h
    · try simp (disch := omega) only [z1]
      refine f_M_get e (fun v6 h => ?_) h
      refine ite_lift h (fun h => ?_) (fun h => ?_)
      · try simp (disch := omega) only [z1]
        exact f_M_alter_103 e c hk  h
      · try simp (disch := omega) only [z1]
        refine f_M_get e (fun v7 h => ?_) h
        refine ite_lift h (fun h => ?_) (fun h => ?_)
        · try simp (disch := omega) only [z1]
          exact f_M_alter_103 e c hk  h
        · try simp (disch := omega) only [z1]
          refine f_M_get e (fun v8 h => ?_) h
          refine ite_lift h (fun h => ?_) (fun h => ?_)
          · try simp (disch := omega) only [z1]
            exact f_M_alter_108 e c hk  h
          · try simp (disch := omega) only [z1]
            exact f_M_alter_103 e c hk  h
set_option maxHeartbeats 4000000 in
theorem f_M_withFid_31 {t : TY} {a0 : Nat} {G H H0 : GS} {K K' : GS → Prop} (e : eM a0 G H) (c : cM a0 H0 H) (hk : ∀ (G' H' : GS), eM a0 G' H' → cM a0 H0 H' → K G' → K' H') {l1 : Int32} {l2 : Int32} {l3 : Int32} {s0 : Int32} (h : w_M_withFid_31 t a0 K l1 l2 l3 s0 G) : w_M_withFid_31 t a0 K' l1 l2 l3 s0 H := by
  unfold w_M_withFid_31 at h ⊢
  have z1 := eM.simp e
  try simp (disch := omega) only [z1]
  refine ite_lift h (fun h => ?_) (fun h => ?_)
  · try simp (disch := omega) only [z1]
    refine ite_lift h (fun h => ?_) (fun h => ?_)
    · try simp (disch := omega) only [z1]
      refine ite_lift h (fun h => ?_) (fun h => ?_)
      · try simp (disch := omega) only [z1]
        refine ite_lift h (fun h => ?_) (fun h => ?_)
        · try simp (disch := omega) only [z1]
          refine and_lift h (fun h => ?_)
          refine ex_lift h (fun a1 q2 h => ?_)
          try simp only [((e).2 89 a1 (by omega) q2).1, ((e).2 89 a1 (by omega) q2).2]
          refine and_lift h (fun h => ?_)
          refine and_lift h (fun h => ?_)
          refine all_lift h (fun H2 eH2 h => ?_)
          obtain ⟨G2, eG2⟩ : ∃ z, z = si G 99 a0 (ai G a1 l3.toNatClampNeg) := ⟨_, rfl⟩
          rw [← eG2] at h
          have e3 : eM a0 G2 H2 := by rw [eG2, eH2]; exact eM.si e (by omega)
          have c4 : cM a0 H0 H2 := by rw [eH2]; exact cM.si c
          have kG2 : ∀ f a, ((70 ≤ f ∧ f ≤ 72) ∨ (79 ≤ f ∧ f ≤ 94) ∨ f = 96) → gr G f a0 = some a → gr G2 f a0 = some a := by intro f a _ z; rw [eG2]; exact z
          have q5 := kG2 89 a1 (by omega) q2
          have z6 := eM.simp e3
          try simp (disch := omega) only [z6]
          try simp only [((e3).2 89 a1 (by omega) q5).1, ((e3).2 89 a1 (by omega) q5).2]
          refine ite_lift h (fun h => ?_) (fun h => ?_)
          · try simp (disch := omega) only [z6]
            try simp only [((e3).2 89 a1 (by omega) q5).1, ((e3).2 89 a1 (by omega) q5).2]
            refine ite_lift h (fun h => ?_) (fun h => ?_)
            · try simp (disch := omega) only [z6]
              try simp only [((e3).2 89 a1 (by omega) q5).1, ((e3).2 89 a1 (by omega) q5).2]
              refine ite_lift h (fun h => ?_) (fun h => ?_)
              · try simp (disch := omega) only [z6]
                try simp only [((e3).2 89 a1 (by omega) q5).1, ((e3).2 89 a1 (by omega) q5).2]
                refine ite_lift h (fun h => ?_) (fun h => ?_)
                · try simp (disch := omega) only [z6]
                  try simp only [((e3).2 89 a1 (by omega) q5).1, ((e3).2 89 a1 (by omega) q5).2]
                  refine ite_lift h (fun h => ?_) (fun h => ?_)
                  · try simp (disch := omega) only [z6]
                    try simp only [((e3).2 89 a1 (by omega) q5).1, ((e3).2 89 a1 (by omega) q5).2]
                    refine ite_lift h (fun h => ?_) (fun h => ?_)
                    · try simp (disch := omega) only [z6]
                      try simp only [((e3).2 89 a1 (by omega) q5).1, ((e3).2 89 a1 (by omega) q5).2]
                      refine f_M_alter e3 (fun G3 H3 e7 c8 h => ?_) h
                      have c8 := (c4).tr c8
                      have z9 := eM.simp e7
                      try simp (disch := omega) only [z9]
                      exact hk _ _ e7 c8 h
                    · try simp (disch := omega) only [z6]
                      try simp only [((e3).2 89 a1 (by omega) q5).1, ((e3).2 89 a1 (by omega) q5).2]
                      refine f_M_show e3 (fun G4 H4 e10 c11 h => ?_) h
                      have c11 := (c4).tr c11
                      have z12 := eM.simp e10
                      try simp (disch := omega) only [z12]
                      exact hk _ _ e10 c11 h
                  · try simp (disch := omega) only [z6]
                    try simp only [((e3).2 89 a1 (by omega) q5).1, ((e3).2 89 a1 (by omega) q5).2]
                    refine f_M_write e3 (fun G5 H5 e13 c14 h => ?_) h
                    have c14 := (c4).tr c14
                    have z15 := eM.simp e13
                    try simp (disch := omega) only [z15]
                    exact hk _ _ e13 c14 h
                · try simp (disch := omega) only [z6]
                  try simp only [((e3).2 89 a1 (by omega) q5).1, ((e3).2 89 a1 (by omega) q5).2]
                  refine f_M_read e3 (fun G6 H6 e16 c17 h => ?_) h
                  have c17 := (c4).tr c17
                  have z18 := eM.simp e16
                  try simp (disch := omega) only [z18]
                  exact hk _ _ e16 c17 h
              · try simp (disch := omega) only [z6]
                try simp only [((e3).2 89 a1 (by omega) q5).1, ((e3).2 89 a1 (by omega) q5).2]
                refine f_M_create e3 (fun G7 H7 e19 c20 h => ?_) h
                have c20 := (c4).tr c20
                have z21 := eM.simp e19
                try simp (disch := omega) only [z21]
                exact hk _ _ e19 c20 h
            · try simp (disch := omega) only [z6]
              try simp only [((e3).2 89 a1 (by omega) q5).1, ((e3).2 89 a1 (by omega) q5).2]
              refine f_M_reach e3 (fun G8 H8 e22 c23 h => ?_) h
              have c23 := (c4).tr c23
              have z24 := eM.simp e22
              try simp (disch := omega) only [z24]
              exact hk _ _ e22 c23 h
          · try simp (disch := omega) only [z6]
            try simp only [((e3).2 89 a1 (by omega) q5).1, ((e3).2 89 a1 (by omega) q5).2]
            refine f_M_walk e3 (fun G9 H9 e25 c26 h => ?_) h
            have c26 := (c4).tr c26
            have z27 := eM.simp e25
            try simp (disch := omega) only [z27]
            exact hk _ _ e25 c26 h
        · try simp (disch := omega) only [z1]
          refine and_lift h (fun h => ?_)
          refine all_lift h (fun H10 eH10 h => ?_)
          obtain ⟨G10, eG10⟩ : ∃ z, z = sl G 98 a0 (1701736295 : Int64) := ⟨_, rfl⟩
          rw [← eG10] at h
          have e28 : eM a0 G10 H10 := by rw [eG10, eH10]; exact eM.sl e (by omega)
          have c29 : cM a0 H0 H10 := by rw [eH10]; exact cM.sl c
          have kG10 : ∀ f a, ((70 ≤ f ∧ f ≤ 72) ∨ (79 ≤ f ∧ f ≤ 94) ∨ f = 96) → gr G f a0 = some a → gr G10 f a0 = some a := by intro f a _ z; rw [eG10]; exact z
          have z30 := eM.simp e28
          try simp (disch := omega) only [z30]
          exact hk _ _ e28 c29 h
      · try simp (disch := omega) only [z1]
        refine and_lift h (fun h => ?_)
        refine f_M_remove e (fun G11 H11 e31 c32 h => ?_) h
        have c32 := (c).tr c32
        have z33 := eM.simp e31
        try simp (disch := omega) only [z33]
        exact hk _ _ e31 c32 h
    · try simp (disch := omega) only [z1]
      refine and_lift h (fun h => ?_)
      refine f_M_release e (fun G12 H12 e34 c35 h => ?_) h
      have c35 := (c).tr c35
      have z36 := eM.simp e34
      try simp (disch := omega) only [z36]
      exact hk _ _ e34 c35 h
  · try simp (disch := omega) only [z1]
    refine and_lift h (fun h => ?_)
    refine all_lift h (fun H13 eH13 h => ?_)
    obtain ⟨G13, eG13⟩ : ∃ z, z = sl G 98 a0 (6580582 : Int64) := ⟨_, rfl⟩
    rw [← eG13] at h
    have e37 : eM a0 G13 H13 := by rw [eG13, eH13]; exact eM.sl e (by omega)
    have c38 : cM a0 H0 H13 := by rw [eH13]; exact cM.sl c
    have kG13 : ∀ f a, ((70 ≤ f ∧ f ≤ 72) ∨ (79 ≤ f ∧ f ≤ 94) ∨ f = 96) → gr G f a0 = some a → gr G13 f a0 = some a := by intro f a _ z; rw [eG13]; exact z
    have z39 := eM.simp e37
    try simp (disch := omega) only [z39]
    exact hk _ _ e37 c38 h
set_option maxHeartbeats 4000000 in
theorem f_M_withFid {t : TY} {a0 : Nat} {G H : GS} {K K' : GS → Prop} (e : eM a0 G H) (hk : ∀ (G' H' : GS), eM a0 G' H' → cM a0 H H' → K G' → K' H') {p1 : Int32} {p2 : Int32} (h : w_M_withFid t G a0 p1 p2 K) : w_M_withFid t H a0 p1 p2 K' := by
  obtain ⟨H0, eH0⟩ : ∃ z, z = H := ⟨_, rfl⟩
  have c : cM a0 H0 H := by rw [eH0]; exact cM.rf
  have hk : ∀ (G' H' : GS), eM a0 G' H' → cM a0 H0 H' → K G' → K' H' := by rw [eH0]; exact hk
  unfold w_M_withFid at h ⊢
  have z1 := eM.simp e
  try simp (disch := omega) only [z1]
  refine and_lift h (fun h => ?_)
  refine f_M_get e (fun v1 h => ?_) h
  refine f_M_fid e (fun v2 h => ?_) h
  refine ite_lift h (fun h => ?_) (fun h => ?_)
  · try simp (disch := omega) only [z1]
    refine ex_lift h (fun a3 q2 h => ?_)
    try simp only [((e).2 88 a3 (by omega) q2).1, ((e).2 88 a3 (by omega) q2).2]
    refine and_lift h (fun h => ?_)
    refine and_lift h (fun h => ?_)
    refine f_M_find e (fun v4 h => ?_) h
    exact f_M_withFid_31 e c hk  h
  · try simp (disch := omega) only [z1]
    exact f_M_withFid_31 e c hk  h
set_option maxHeartbeats 4000000 in
theorem f_M_handle_67 {t : TY} {a0 : Nat} {G H H0 : GS} {K K' : GS → Prop} (e : eM a0 G H) (c : cM a0 H0 H) (hk : ∀ (G' H' : GS), eM a0 G' H' → cM a0 H0 H' → K G' → K' H') {l1 : Int32} {l2 : Int32} (h : w_M_handle_67 t a0 K l1 l2 G) : w_M_handle_67 t a0 K' l1 l2 H := by
  unfold w_M_handle_67 at h ⊢
  have z1 := eM.simp e
  try simp (disch := omega) only [z1]
  refine ite_lift h (fun h => ?_) (fun h => ?_)
  · try simp (disch := omega) only [z1]
    refine ite_lift h (fun h => ?_) (fun h => ?_)
    · try simp (disch := omega) only [z1]
      refine ite_lift h (fun h => ?_) (fun h => ?_)
      · try simp (disch := omega) only [z1]
        refine ite_lift h (fun h => ?_) (fun h => ?_)
        · try simp (disch := omega) only [z1]
          exact hk _ _ e c h
        · try simp (disch := omega) only [z1]
          refine and_lift h (fun h => ?_)
          refine f_M_withFid e (fun G1 H1 e2 c3 h => ?_) h
          have c3 := (c).tr c3
          have z4 := eM.simp e2
          try simp (disch := omega) only [z4]
          exact hk _ _ e2 c3 h
      · try simp (disch := omega) only [z1]
        refine and_lift h (fun h => ?_)
        refine f_M_attach e (fun G2 H2 e5 c6 h => ?_) h
        have c6 := (c).tr c6
        have z7 := eM.simp e5
        try simp (disch := omega) only [z7]
        exact hk _ _ e5 c6 h
    · try simp (disch := omega) only [z1]
      refine and_lift h (fun h => ?_)
      refine all_lift h (fun H3 eH3 h => ?_)
      obtain ⟨G3, eG3⟩ : ∃ z, z = sl G 98 a0 (1752462689 : Int64) := ⟨_, rfl⟩
      rw [← eG3] at h
      have e8 : eM a0 G3 H3 := by rw [eG3, eH3]; exact eM.sl e (by omega)
      have c9 : cM a0 H0 H3 := by rw [eH3]; exact cM.sl c
      have kG3 : ∀ f a, ((70 ≤ f ∧ f ≤ 72) ∨ (79 ≤ f ∧ f ≤ 94) ∨ f = 96) → gr G f a0 = some a → gr G3 f a0 = some a := by intro f a _ z; rw [eG3]; exact z
      have z10 := eM.simp e8
      try simp (disch := omega) only [z10]
      exact hk _ _ e8 c9 h
  · try simp (disch := omega) only [z1]
    refine and_lift h (fun h => ?_)
    refine f_M_version e (fun G4 H4 e11 c12 h => ?_) h
    have c12 := (c).tr c12
    have z13 := eM.simp e11
    try simp (disch := omega) only [z13]
    exact hk _ _ e11 c12 h
set_option maxHeartbeats 4000000 in
theorem f_M_handle {t : TY} {a0 : Nat} {G H : GS} {K K' : GS → Prop} (e : eM a0 G H) (hk : ∀ (G' H' : GS), eM a0 G' H' → cM a0 H H' → K G' → K' H') {p1 : Int32} (h : w_M_handle t G a0 p1 K) : w_M_handle t H a0 p1 K' := by
  obtain ⟨H0, eH0⟩ : ∃ z, z = H := ⟨_, rfl⟩
  have c : cM a0 H0 H := by rw [eH0]; exact cM.rf
  have hk : ∀ (G' H' : GS), eM a0 G' H' → cM a0 H0 H' → K G' → K' H' := by rw [eH0]; exact hk
  unfold w_M_handle at h ⊢
  have z1 := eM.simp e
  try simp (disch := omega) only [z1]
  refine and_lift h (fun h => ?_)
  refine ex_lift h (fun a1 q2 h => ?_)
  try simp only [((e).2 94 a1 (by omega) q2).1, ((e).2 94 a1 (by omega) q2).2]
  refine and_lift h (fun h => ?_)
  refine and_lift h (fun h => ?_)
  refine bind_lift h (fun v2 h => ?_)
  refine f_M_isType e (fun v3 h => ?_) h
  refine ite_lift h (fun h => ?_) (fun h => ?_)
  · try simp (disch := omega) only [z1]
    try simp only [((e).2 94 a1 (by omega) q2).1, ((e).2 94 a1 (by omega) q2).2]
    refine f_M_formed e (fun v4 h => ?_) h
    refine ite_lift h (fun h => ?_) (fun h => ?_)
    · try simp (disch := omega) only [z1]
      try simp only [((e).2 94 a1 (by omega) q2).1, ((e).2 94 a1 (by omega) q2).2]
      refine ite_lift h (fun h => ?_) (fun h => ?_)
      · try simp (disch := omega) only [z1]
        try simp only [((e).2 94 a1 (by omega) q2).1, ((e).2 94 a1 (by omega) q2).2]
        exact f_M_handle_67 e c hk  h
      · try simp (disch := omega) only [z1]
        try simp only [((e).2 94 a1 (by omega) q2).1, ((e).2 94 a1 (by omega) q2).2]
        refine ex_lift h (fun a5 q3 h => ?_)
        try simp only [((e).2 84 a5 (by omega) q3).1, ((e).2 84 a5 (by omega) q3).2]
        refine and_lift h (fun h => ?_)
        refine and_lift h (fun h => ?_)
        refine ite_lift h (fun h => ?_) (fun h => ?_)
        · try simp (disch := omega) only [z1]
          try simp only [((e).2 94 a1 (by omega) q2).1, ((e).2 94 a1 (by omega) q2).2, ((e).2 84 a5 (by omega) q3).1, ((e).2 84 a5 (by omega) q3).2]
          exact f_M_handle_67 e c hk  h
        · try simp (disch := omega) only [z1]
          try simp only [((e).2 94 a1 (by omega) q2).1, ((e).2 94 a1 (by omega) q2).2, ((e).2 84 a5 (by omega) q3).1, ((e).2 84 a5 (by omega) q3).2]
          refine all_lift h (fun H6 eH6 h => ?_)
          obtain ⟨G6, eG6⟩ : ∃ z, z = sl G 98 a0 (31084746137298294 : Int64) := ⟨_, rfl⟩
          rw [← eG6] at h
          have e4 : eM a0 G6 H6 := by rw [eG6, eH6]; exact eM.sl e (by omega)
          have c5 : cM a0 H0 H6 := by rw [eH6]; exact cM.sl c
          have kG6 : ∀ f a, ((70 ≤ f ∧ f ≤ 72) ∨ (79 ≤ f ∧ f ≤ 94) ∨ f = 96) → gr G f a0 = some a → gr G6 f a0 = some a := by intro f a _ z; rw [eG6]; exact z
          have q6 := kG6 94 a1 (by omega) q2
          have q7 := kG6 84 a5 (by omega) q3
          have z8 := eM.simp e4
          try simp (disch := omega) only [z8]
          try simp only [((e4).2 94 a1 (by omega) q6).1, ((e4).2 94 a1 (by omega) q6).2, ((e4).2 84 a5 (by omega) q7).1, ((e4).2 84 a5 (by omega) q7).2]
          exact hk _ _ e4 c5 h
    · try simp (disch := omega) only [z1]
      try simp only [((e).2 94 a1 (by omega) q2).1, ((e).2 94 a1 (by omega) q2).2]
      refine all_lift h (fun H7 eH7 h => ?_)
      obtain ⟨G7, eG7⟩ : ∃ z, z = sl G 98 a0 (1836216166 : Int64) := ⟨_, rfl⟩
      rw [← eG7] at h
      have e9 : eM a0 G7 H7 := by rw [eG7, eH7]; exact eM.sl e (by omega)
      have c10 : cM a0 H0 H7 := by rw [eH7]; exact cM.sl c
      have kG7 : ∀ f a, ((70 ≤ f ∧ f ≤ 72) ∨ (79 ≤ f ∧ f ≤ 94) ∨ f = 96) → gr G f a0 = some a → gr G7 f a0 = some a := by intro f a _ z; rw [eG7]; exact z
      have q11 := kG7 94 a1 (by omega) q2
      have z12 := eM.simp e9
      try simp (disch := omega) only [z12]
      try simp only [((e9).2 94 a1 (by omega) q11).1, ((e9).2 94 a1 (by omega) q11).2]
      exact hk _ _ e9 c10 h
  · try simp (disch := omega) only [z1]
    try simp only [((e).2 94 a1 (by omega) q2).1, ((e).2 94 a1 (by omega) q2).2]
    refine all_lift h (fun H8 eH8 h => ?_)
    obtain ⟨G8, eG8⟩ : ∃ z, z = sl G 98 a0 (1701869940 : Int64) := ⟨_, rfl⟩
    rw [← eG8] at h
    have e13 : eM a0 G8 H8 := by rw [eG8, eH8]; exact eM.sl e (by omega)
    have c14 : cM a0 H0 H8 := by rw [eH8]; exact cM.sl c
    have kG8 : ∀ f a, ((70 ≤ f ∧ f ≤ 72) ∨ (79 ≤ f ∧ f ≤ 94) ∨ f = 96) → gr G f a0 = some a → gr G8 f a0 = some a := by intro f a _ z; rw [eG8]; exact z
    have q15 := kG8 94 a1 (by omega) q2
    have z16 := eM.simp e13
    try simp (disch := omega) only [z16]
    try simp only [((e13).2 94 a1 (by omega) q15).1, ((e13).2 94 a1 (by omega) q15).2]
    exact hk _ _ e13 c14 h
set_option maxHeartbeats 4000000 in
theorem f_M_reply_97 {t : TY} {a0 : Nat} {G H H0 : GS} {K K' : GS → Prop} (e : eM a0 G H) (c : cM a0 H0 H) (hk : ∀ (G' H' : GS), eM a0 G' H' → cM a0 H0 H' → K G' → K' H') : ∀ (n : Nat) {l1 : Int32} {l3 : Int32} {l4 : Int32}, w_M_reply_97 t a0 K n l1 l3 l4 G → w_M_reply_97 t a0 K' n l1 l3 l4 H := by
  intro n
  induction n generalizing G H with
  | zero => intro l1 l3 l4 h; exact h.elim
  | succ n ih =>
    intro l1 l3 l4 h
    have hr97 : ∀ (x0 : Int32) (x1 : Int32) (x2 : Int32) (G H : GS), eM a0 G H → cM a0 H0 H → w_M_reply_97 t a0 K n x0 x1 x2 G → w_M_reply_97 t a0 K' n x0 x1 x2 H := fun _ _ _ G H e c h => ih e c h
    unfold w_M_reply_97 at h ⊢
    have z1 := eM.simp e
    try simp (disch := omega) only [z1]
    try dsimp only at h ⊢
    refine ite_lift h (fun h => ?_) (fun h => ?_)
    · try simp (disch := omega) only [z1]
      refine and_lift h (fun h => ?_)
      refine ex_lift h (fun a1 q2 h => ?_)
      try simp only [((e).2 82 a1 (by omega) q2).1, ((e).2 82 a1 (by omega) q2).2]
      refine and_lift h (fun h => ?_)
      refine and_lift h (fun h => ?_)
      refine all_lift h (fun H2 eH2 h => ?_)
      obtain ⟨G2, eG2⟩ : ∃ z, z = ais G a1 l1.toNatClampNeg ((ai G a1 l1.toNatClampNeg) + l3) := ⟨_, rfl⟩
      rw [← eG2] at h
      have e3 : eM a0 G2 H2 := by rw [eG2, eH2]; exact eM.ais e
      have c4 : cM a0 H0 H2 := by rw [eH2]; exact cM.ais c ⟨82, by omega, (((e).1 82 (by omega)).2.2).trans q2⟩
      have kG2 : ∀ f a, ((70 ≤ f ∧ f ≤ 72) ∨ (79 ≤ f ∧ f ≤ 94) ∨ f = 96) → gr G f a0 = some a → gr G2 f a0 = some a := by intro f a _ z; rw [eG2]; exact z
      have q5 := kG2 82 a1 (by omega) q2
      have z6 := eM.simp e3
      try simp (disch := omega) only [z6]
      try simp only [((e3).2 82 a1 (by omega) q5).1, ((e3).2 82 a1 (by omega) q5).2]
      exact hk _ _ e3 c4 h
    · try simp (disch := omega) only [z1]
      refine and_lift h (fun h => ?_)
      refine ex_lift h (fun a3 q7 h => ?_)
      try simp only [((e).2 82 a3 (by omega) q7).1, ((e).2 82 a3 (by omega) q7).2]
      refine and_lift h (fun h => ?_)
      refine and_lift h (fun h => ?_)
      refine ex_lift h (fun a4 q8 h => ?_)
      try simp only [((e).2 96 a4 (by omega) q8).1, ((e).2 96 a4 (by omega) q8).2]
      refine and_lift h (fun h => ?_)
      refine and_lift h (fun h => ?_)
      refine ex_lift h (fun a5 q9 h => ?_)
      try simp only [((e).2 81 a5 (by omega) q9).1, ((e).2 81 a5 (by omega) q9).2]
      refine and_lift h (fun h => ?_)
      refine and_lift h (fun h => ?_)
      refine all_lift h (fun H6 eH6 h => ?_)
      obtain ⟨G6, eG6⟩ : ∃ z, z = ais G a5 ((((256 : Int32) * l1) + (ai G a3 l1.toNatClampNeg)) + l4).toNatClampNeg (ai G a4 l4.toNatClampNeg) := ⟨_, rfl⟩
      rw [← eG6] at h
      have e10 : eM a0 G6 H6 := by rw [eG6, eH6]; exact eM.ais e
      have c11 : cM a0 H0 H6 := by rw [eH6]; exact cM.ais c ⟨81, by omega, (((e).1 81 (by omega)).2.2).trans q9⟩
      have kG6 : ∀ f a, ((70 ≤ f ∧ f ≤ 72) ∨ (79 ≤ f ∧ f ≤ 94) ∨ f = 96) → gr G f a0 = some a → gr G6 f a0 = some a := by intro f a _ z; rw [eG6]; exact z
      have q12 := kG6 82 a3 (by omega) q7
      have q13 := kG6 96 a4 (by omega) q8
      have q14 := kG6 81 a5 (by omega) q9
      have z15 := eM.simp e10
      try simp (disch := omega) only [z15]
      try simp only [((e10).2 82 a3 (by omega) q12).1, ((e10).2 82 a3 (by omega) q12).2, ((e10).2 96 a4 (by omega) q13).1, ((e10).2 96 a4 (by omega) q13).2, ((e10).2 81 a5 (by omega) q14).1, ((e10).2 81 a5 (by omega) q14).2]
      refine bind_lift h (fun v7 h => ?_)
      exact hr97 _ _ _ _ _ e10 c11 h
set_option maxHeartbeats 4000000 in
theorem f_M_reply_59 {t : TY} {a0 : Nat} {G H H0 : GS} {K K' : GS → Prop} (e : eM a0 G H) (c : cM a0 H0 H) (hk : ∀ (G' H' : GS), eM a0 G' H' → cM a0 H0 H' → K G' → K' H') {l1 : Int32} {l2 : Int32} (h : w_M_reply_59 t a0 K l1 l2 G) : w_M_reply_59 t a0 K' l1 l2 H := by
  unfold w_M_reply_59 at h ⊢
  have z1 := eM.simp e
  try simp (disch := omega) only [z1]
  refine and_lift h (fun h => ?_)
  refine bind_lift h (fun v1 h => ?_)
  refine all_lift h (fun H2 eH2 h => ?_)
  obtain ⟨G2, eG2⟩ : ∃ z, z = si G 97 a0 (0 : Int32) := ⟨_, rfl⟩
  rw [← eG2] at h
  have e2 : eM a0 G2 H2 := by rw [eG2, eH2]; exact eM.si e (by omega)
  have c3 : cM a0 H0 H2 := by rw [eH2]; exact cM.si c
  have kG2 : ∀ f a, ((70 ≤ f ∧ f ≤ 72) ∨ (79 ≤ f ∧ f ≤ 94) ∨ f = 96) → gr G f a0 = some a → gr G2 f a0 = some a := by intro f a _ z; rw [eG2]; exact z
  have z4 := eM.simp e2
  try simp (disch := omega) only [z4]
  refine f_M_put e2 (fun G3 H3 e5 c6 h => ?_) h
  have c6 := (c3).tr c6
  have z7 := eM.simp e5
  try simp (disch := omega) only [z7]
  refine f_M_put e5 (fun G4 H4 e8 c9 h => ?_) h
  have c9 := (c6).tr c9
  have z10 := eM.simp e8
  try simp (disch := omega) only [z10]
  refine f_M_get e8 (fun v5 h => ?_) h
  refine f_M_put e8 (fun G6 H6 e11 c12 h => ?_) h
  have c12 := (c9).tr c12
  have z13 := eM.simp e11
  try simp (disch := omega) only [z13]
  obtain ⟨n, h⟩ := h
  refine ⟨n, ?_⟩
  exact f_M_reply_97 e11 c12 hk _  h
set_option maxHeartbeats 4000000 in
theorem f_M_reply {t : TY} {a0 : Nat} {G H : GS} {K K' : GS → Prop} (e : eM a0 G H) (hk : ∀ (G' H' : GS), eM a0 G' H' → cM a0 H H' → K G' → K' H') {p1 : Int32} (h : w_M_reply t G a0 p1 K) : w_M_reply t H a0 p1 K' := by
  obtain ⟨H0, eH0⟩ : ∃ z, z = H := ⟨_, rfl⟩
  have c : cM a0 H0 H := by rw [eH0]; exact cM.rf
  have hk : ∀ (G' H' : GS), eM a0 G' H' → cM a0 H0 H' → K G' → K' H' := by rw [eH0]; exact hk
  unfold w_M_reply at h ⊢
  have z1 := eM.simp e
  try simp (disch := omega) only [z1]
  refine and_lift h (fun h => ?_)
  refine all_lift h (fun H1 eH1 h => ?_)
  obtain ⟨G1, eG1⟩ : ∃ z, z = si G 97 a0 (7 : Int32) := ⟨_, rfl⟩
  rw [← eG1] at h
  have e2 : eM a0 G1 H1 := by rw [eG1, eH1]; exact eM.si e (by omega)
  have c3 : cM a0 H0 H1 := by rw [eH1]; exact cM.si c
  have kG1 : ∀ f a, ((70 ≤ f ∧ f ≤ 72) ∨ (79 ≤ f ∧ f ≤ 94) ∨ f = 96) → gr G f a0 = some a → gr G1 f a0 = some a := by intro f a _ z; rw [eG1]; exact z
  have z4 := eM.simp e2
  try simp (disch := omega) only [z4]
  refine all_lift h (fun H2 eH2 h => ?_)
  obtain ⟨G2, eG2⟩ : ∃ z, z = sl G1 98 a0 (0 : Int64) := ⟨_, rfl⟩
  rw [← eG2] at h
  have e5 : eM a0 G2 H2 := by rw [eG2, eH2]; exact eM.sl e2 (by omega)
  have c6 : cM a0 H0 H2 := by rw [eH2]; exact cM.sl c3
  have kG2 : ∀ f a, ((70 ≤ f ∧ f ≤ 72) ∨ (79 ≤ f ∧ f ≤ 94) ∨ f = 96) → gr G1 f a0 = some a → gr G2 f a0 = some a := by intro f a _ z; rw [eG2]; exact z
  have z7 := eM.simp e5
  try simp (disch := omega) only [z7]
  refine f_M_handle e5 (fun G3 H3 e8 c9 h => ?_) h
  have c9 := (c6).tr c9
  have z10 := eM.simp e8
  try simp (disch := omega) only [z10]
  refine ite_lift h (fun h => ?_) (fun h => ?_)
  · try simp (disch := omega) only [z10]
    refine ex_lift h (fun a4 q11 h => ?_)
    try simp only [((e8).2 94 a4 (by omega) q11).1, ((e8).2 94 a4 (by omega) q11).2]
    refine and_lift h (fun h => ?_)
    refine and_lift h (fun h => ?_)
    refine bind_lift h (fun v5 h => ?_)
    refine ite_lift h (fun h => ?_) (fun h => ?_)
    · try simp (disch := omega) only [z10]
      try simp only [((e8).2 94 a4 (by omega) q11).1, ((e8).2 94 a4 (by omega) q11).2]
      exact f_M_reply_59 e8 c9 hk  h
    · try simp (disch := omega) only [z10]
      try simp only [((e8).2 94 a4 (by omega) q11).1, ((e8).2 94 a4 (by omega) q11).2]
      refine all_lift h (fun H6 eH6 h => ?_)
      obtain ⟨G6, eG6⟩ : ∃ z, z = si G3 97 a0 (7 : Int32) := ⟨_, rfl⟩
      rw [← eG6] at h
      have e12 : eM a0 G6 H6 := by rw [eG6, eH6]; exact eM.si e8 (by omega)
      have c13 : cM a0 H0 H6 := by rw [eH6]; exact cM.si c9
      have kG6 : ∀ f a, ((70 ≤ f ∧ f ≤ 72) ∨ (79 ≤ f ∧ f ≤ 94) ∨ f = 96) → gr G3 f a0 = some a → gr G6 f a0 = some a := by intro f a _ z; rw [eG6]; exact z
      have q14 := kG6 94 a4 (by omega) q11
      have z15 := eM.simp e12
      try simp (disch := omega) only [z15]
      try simp only [((e12).2 94 a4 (by omega) q14).1, ((e12).2 94 a4 (by omega) q14).2]
      refine f_M_say e12 (fun G7 H7 e16 c17 h => ?_) h
      have c17 := (c13).tr c17
      have z18 := eM.simp e16
      try simp (disch := omega) only [z18]
      exact f_M_reply_59 e16 c17 hk  h
  · try simp (disch := omega) only [z10]
    exact hk _ _ e8 c9 h
set_option maxHeartbeats 4000000 in
theorem f_M_serve_233 {t : TY} {a0 : Nat} {G H H0 : GS} {K K' : GS → Prop} {r2 R2 : Int32 → Int32 → GS → Prop} (e : eM a0 G H) (c : cM a0 H0 H) (hk : ∀ (G' H' : GS), eM a0 G' H' → cM a0 H0 H' → K G' → K' H') (hr2 : ∀ (x0 : Int32) (x1 : Int32) (G H : GS), eM a0 G H → cM a0 H0 H → r2 x0 x1 G → R2 x0 x1 H) : ∀ (n : Nat) {l1 : Int32} {l2 : Int32} {l5 : Int32}, w_M_serve_233 t a0 K r2 n l1 l2 l5 G → w_M_serve_233 t a0 K' R2 n l1 l2 l5 H := by
  intro n
  induction n generalizing G H with
  | zero => intro l1 l2 l5 h; exact h.elim
  | succ n ih =>
    intro l1 l2 l5 h
    have hr233 : ∀ (x0 : Int32) (x1 : Int32) (x2 : Int32) (G H : GS), eM a0 G H → cM a0 H0 H → w_M_serve_233 t a0 K r2 n x0 x1 x2 G → w_M_serve_233 t a0 K' R2 n x0 x1 x2 H := fun _ _ _ G H e c h => ih e c h
    unfold w_M_serve_233 at h ⊢
    have z1 := eM.simp e
    try simp (disch := omega) only [z1]
    try dsimp only at h ⊢
    refine and_lift h (fun h => ?_)
    refine ex_lift h (fun a1 q2 h => ?_)
    try simp only [((e).2 80 a1 (by omega) q2).1, ((e).2 80 a1 (by omega) q2).2]
    refine and_lift h (fun h => ?_)
    refine and_lift h (fun h => ?_)
    refine ite_lift h (fun h => ?_) (fun h => ?_)
    · try simp (disch := omega) only [z1]
      try simp only [((e).2 80 a1 (by omega) q2).1, ((e).2 80 a1 (by omega) q2).2]
      refine f_M_reply e (fun G2 H2 e3 c4 h => ?_) h
      have c4 := (c).tr c4
      have z5 := eM.simp e3
      try simp (disch := omega) only [z5]
      refine bind_lift h (fun v3 h => ?_)
      exact hr2 _ _ _ _ e3 c4 h
    · try simp (disch := omega) only [z1]
      try simp only [((e).2 80 a1 (by omega) q2).1, ((e).2 80 a1 (by omega) q2).2]
      refine ex_lift h (fun a4 q6 h => ?_)
      try simp only [((e).2 79 a4 (by omega) q6).1, ((e).2 79 a4 (by omega) q6).2]
      refine and_lift h (fun h => ?_)
      refine and_lift h (fun h => ?_)
      refine and_lift h (fun h => ?_)
      refine all_lift h (fun H5 eH5 h => ?_)
      obtain ⟨G5, eG5⟩ : ∃ z, z = ais G a4 (((160 : Int32) * l1) + l5).toNatClampNeg (ai G a4 ((((160 : Int32) * l1) + (gi G 95 a0)) + l5).toNatClampNeg) := ⟨_, rfl⟩
      rw [← eG5] at h
      have e7 : eM a0 G5 H5 := by rw [eG5, eH5]; exact eM.ais e
      have c8 : cM a0 H0 H5 := by rw [eH5]; exact cM.ais c ⟨79, by omega, (((e).1 79 (by omega)).2.2).trans q6⟩
      have kG5 : ∀ f a, ((70 ≤ f ∧ f ≤ 72) ∨ (79 ≤ f ∧ f ≤ 94) ∨ f = 96) → gr G f a0 = some a → gr G5 f a0 = some a := by intro f a _ z; rw [eG5]; exact z
      have q9 := kG5 80 a1 (by omega) q2
      have q10 := kG5 79 a4 (by omega) q6
      have z11 := eM.simp e7
      try simp (disch := omega) only [z11]
      try simp only [((e7).2 80 a1 (by omega) q9).1, ((e7).2 80 a1 (by omega) q9).2, ((e7).2 79 a4 (by omega) q10).1, ((e7).2 79 a4 (by omega) q10).2]
      refine bind_lift h (fun v6 h => ?_)
      exact hr233 _ _ _ _ _ e7 c8 h
set_option maxHeartbeats 4000000 in
theorem f_M_serve_182 {t : TY} {a0 : Nat} {G H H0 : GS} {K K' : GS → Prop} {r2 R2 : Int32 → Int32 → GS → Prop} (e : eM a0 G H) (c : cM a0 H0 H) (hk : ∀ (G' H' : GS), eM a0 G' H' → cM a0 H0 H' → K G' → K' H') (hr2 : ∀ (x0 : Int32) (x1 : Int32) (G H : GS), eM a0 G H → cM a0 H0 H → r2 x0 x1 G → R2 x0 x1 H) : ∀ (n : Nat) {l1 : Int32} {l2 : Int32} {l5 : Int32}, w_M_serve_182 t a0 K r2 n l1 l2 l5 G → w_M_serve_182 t a0 K' R2 n l1 l2 l5 H := by
  intro n
  induction n generalizing G H with
  | zero => intro l1 l2 l5 h; exact h.elim
  | succ n ih =>
    intro l1 l2 l5 h
    have hr182 : ∀ (x0 : Int32) (x1 : Int32) (x2 : Int32) (G H : GS), eM a0 G H → cM a0 H0 H → w_M_serve_182 t a0 K r2 n x0 x1 x2 G → w_M_serve_182 t a0 K' R2 n x0 x1 x2 H := fun _ _ _ G H e c h => ih e c h
    unfold w_M_serve_182 at h ⊢
    have z1 := eM.simp e
    try simp (disch := omega) only [z1]
    try dsimp only at h ⊢
    refine and_lift h (fun h => ?_)
    refine ite_lift h (fun h => ?_) (fun h => ?_)
    · try simp (disch := omega) only [z1]
      refine ex_lift h (fun a1 q2 h => ?_)
      try simp only [((e).2 80 a1 (by omega) q2).1, ((e).2 80 a1 (by omega) q2).2]
      refine and_lift h (fun h => ?_)
      refine and_lift h (fun h => ?_)
      refine all_lift h (fun H2 eH2 h => ?_)
      obtain ⟨G2, eG2⟩ : ∃ z, z = ais G a1 l1.toNatClampNeg ((ai G a1 l1.toNatClampNeg) - (gi G 95 a0)) := ⟨_, rfl⟩
      rw [← eG2] at h
      have e3 : eM a0 G2 H2 := by rw [eG2, eH2]; exact eM.ais e
      have c4 : cM a0 H0 H2 := by rw [eH2]; exact cM.ais c ⟨80, by omega, (((e).1 80 (by omega)).2.2).trans q2⟩
      have kG2 : ∀ f a, ((70 ≤ f ∧ f ≤ 72) ∨ (79 ≤ f ∧ f ≤ 94) ∨ f = 96) → gr G f a0 = some a → gr G2 f a0 = some a := by intro f a _ z; rw [eG2]; exact z
      have q5 := kG2 80 a1 (by omega) q2
      have z6 := eM.simp e3
      try simp (disch := omega) only [z6]
      try simp only [((e3).2 80 a1 (by omega) q5).1, ((e3).2 80 a1 (by omega) q5).2]
      obtain ⟨n, h⟩ := h
      refine ⟨n, ?_⟩
      exact f_M_serve_233 e3 c4 hk hr2 _  h
    · try simp (disch := omega) only [z1]
      refine ex_lift h (fun a3 q7 h => ?_)
      try simp only [((e).2 79 a3 (by omega) q7).1, ((e).2 79 a3 (by omega) q7).2]
      refine and_lift h (fun h => ?_)
      refine and_lift h (fun h => ?_)
      refine ex_lift h (fun a4 q8 h => ?_)
      try simp only [((e).2 94 a4 (by omega) q8).1, ((e).2 94 a4 (by omega) q8).2]
      refine and_lift h (fun h => ?_)
      refine and_lift h (fun h => ?_)
      refine all_lift h (fun H5 eH5 h => ?_)
      obtain ⟨G5, eG5⟩ : ∃ z, z = ais G a4 l5.toNatClampNeg (ai G a3 (((160 : Int32) * l1) + l5).toNatClampNeg) := ⟨_, rfl⟩
      rw [← eG5] at h
      have e9 : eM a0 G5 H5 := by rw [eG5, eH5]; exact eM.ais e
      have c10 : cM a0 H0 H5 := by rw [eH5]; exact cM.ais c ⟨94, by omega, (((e).1 94 (by omega)).2.2).trans q8⟩
      have kG5 : ∀ f a, ((70 ≤ f ∧ f ≤ 72) ∨ (79 ≤ f ∧ f ≤ 94) ∨ f = 96) → gr G f a0 = some a → gr G5 f a0 = some a := by intro f a _ z; rw [eG5]; exact z
      have q11 := kG5 79 a3 (by omega) q7
      have q12 := kG5 94 a4 (by omega) q8
      have z13 := eM.simp e9
      try simp (disch := omega) only [z13]
      try simp only [((e9).2 79 a3 (by omega) q11).1, ((e9).2 79 a3 (by omega) q11).2, ((e9).2 94 a4 (by omega) q12).1, ((e9).2 94 a4 (by omega) q12).2]
      refine bind_lift h (fun v6 h => ?_)
      exact hr182 _ _ _ _ _ e9 c10 h
set_option maxHeartbeats 4000000 in
theorem f_M_serve_138 {t : TY} {a0 : Nat} {G H H0 : GS} {K K' : GS → Prop} {r2 R2 : Int32 → Int32 → GS → Prop} (e : eM a0 G H) (c : cM a0 H0 H) (hk : ∀ (G' H' : GS), eM a0 G' H' → cM a0 H0 H' → K G' → K' H') (hr2 : ∀ (x0 : Int32) (x1 : Int32) (G H : GS), eM a0 G H → cM a0 H0 H → r2 x0 x1 G → R2 x0 x1 H) {l1 : Int32} {l2 : Int32} {l3 : Int64} (h : w_M_serve_138 t a0 K r2 l1 l2 l3 G) : w_M_serve_138 t a0 K' R2 l1 l2 l3 H := by
  unfold w_M_serve_138 at h ⊢
  have z1 := eM.simp e
  try simp (disch := omega) only [z1]
  refine and_lift h (fun h => ?_)
  refine ex_lift h (fun a1 q2 h => ?_)
  try simp only [((e).2 82 a1 (by omega) q2).1, ((e).2 82 a1 (by omega) q2).2]
  refine and_lift h (fun h => ?_)
  refine and_lift h (fun h => ?_)
  refine ite_lift h (fun h => ?_) (fun h => ?_)
  · try simp (disch := omega) only [z1]
    try simp only [((e).2 82 a1 (by omega) q2).1, ((e).2 82 a1 (by omega) q2).2]
    exact hk _ _ e c h
  · try simp (disch := omega) only [z1]
    try simp only [((e).2 82 a1 (by omega) q2).1, ((e).2 82 a1 (by omega) q2).2]
    refine ex_lift h (fun a2 q3 h => ?_)
    try simp only [((e).2 80 a2 (by omega) q3).1, ((e).2 80 a2 (by omega) q3).2]
    refine and_lift h (fun h => ?_)
    refine and_lift h (fun h => ?_)
    refine ite_lift h (fun h => ?_) (fun h => ?_)
    · try simp (disch := omega) only [z1]
      try simp only [((e).2 82 a1 (by omega) q2).1, ((e).2 82 a1 (by omega) q2).2, ((e).2 80 a2 (by omega) q3).1, ((e).2 80 a2 (by omega) q3).2]
      exact hk _ _ e c h
    · try simp (disch := omega) only [z1]
      try simp only [((e).2 82 a1 (by omega) q2).1, ((e).2 82 a1 (by omega) q2).2, ((e).2 80 a2 (by omega) q3).1, ((e).2 80 a2 (by omega) q3).2]
      refine ite_lift h (fun h => ?_) (fun h => ?_)
      · try simp (disch := omega) only [z1]
        try simp only [((e).2 82 a1 (by omega) q2).1, ((e).2 82 a1 (by omega) q2).2, ((e).2 80 a2 (by omega) q3).1, ((e).2 80 a2 (by omega) q3).2]
        refine all_lift h (fun H3 eH3 h => ?_)
        obtain ⟨G3, eG3⟩ : ∃ z, z = si G 95 a0 l3.toInt32 := ⟨_, rfl⟩
        rw [← eG3] at h
        have e4 : eM a0 G3 H3 := by rw [eG3, eH3]; exact eM.si e (by omega)
        have c5 : cM a0 H0 H3 := by rw [eH3]; exact cM.si c
        have kG3 : ∀ f a, ((70 ≤ f ∧ f ≤ 72) ∨ (79 ≤ f ∧ f ≤ 94) ∨ f = 96) → gr G f a0 = some a → gr G3 f a0 = some a := by intro f a _ z; rw [eG3]; exact z
        have q6 := kG3 82 a1 (by omega) q2
        have q7 := kG3 80 a2 (by omega) q3
        have z8 := eM.simp e4
        try simp (disch := omega) only [z8]
        try simp only [((e4).2 82 a1 (by omega) q6).1, ((e4).2 82 a1 (by omega) q6).2, ((e4).2 80 a2 (by omega) q7).1, ((e4).2 80 a2 (by omega) q7).2]
        obtain ⟨n, h⟩ := h
        refine ⟨n, ?_⟩
        exact f_M_serve_182 e4 c5 hk hr2 _  h
      · try simp (disch := omega) only [z1]
        try simp only [((e).2 82 a1 (by omega) q2).1, ((e).2 82 a1 (by omega) q2).2, ((e).2 80 a2 (by omega) q3).1, ((e).2 80 a2 (by omega) q3).2]
        exact hk _ _ e c h
set_option maxHeartbeats 4000000 in
theorem f_M_serve_122 {t : TY} {a0 : Nat} {G H H0 : GS} {K K' : GS → Prop} (e : eM a0 G H) (c : cM a0 H0 H) (hk : ∀ (G' H' : GS), eM a0 G' H' → cM a0 H0 H' → K G' → K' H') {l1 : Int32} {s0 : Option Nat} {s1 : Int32} {s2 : Int32} (hs0 : ∃ f, ((70 ≤ f ∧ f ≤ 72) ∨ (79 ≤ f ∧ f ≤ 94) ∨ f = 96) ∧ s0 = gr G f a0) (h : w_M_serve_122 t a0 K l1 s0 s1 s2 G) : w_M_serve_122 t a0 K' l1 s0 s1 s2 H := by
  unfold w_M_serve_122 at h ⊢
  have z1 := eM.simp e
  try simp (disch := omega) only [z1]
  refine ex_lift h (fun a1 q2 h => ?_)
  obtain ⟨f3, hf3, ef3⟩ := hs0
  have q4 := ef3.symm.trans q2
  try simp only [((e).2 f3 a1 (by omega) q4).1, ((e).2 f3 a1 (by omega) q4).2]
  refine and_lift h (fun h => ?_)
  refine and_lift h (fun h => ?_)
  refine all_lift h (fun H2 eH2 h => ?_)
  obtain ⟨G2, eG2⟩ : ∃ z, z = ais G a1 s1.toNatClampNeg (vp_nar .boolean s2) := ⟨_, rfl⟩
  rw [← eG2] at h
  have e5 : eM a0 G2 H2 := by rw [eG2, eH2]; exact eM.ais e
  have c6 : cM a0 H0 H2 := by rw [eH2]; exact cM.ais c ⟨f3, by omega, (((e).1 f3 (by omega)).2.2).trans q4⟩
  have kG2 : ∀ f a, ((70 ≤ f ∧ f ≤ 72) ∨ (79 ≤ f ∧ f ≤ 94) ∨ f = 96) → gr G f a0 = some a → gr G2 f a0 = some a := by intro f a _ z; rw [eG2]; exact z
  have q7 := kG2 f3 a1 (by omega) q4
  have z8 := eM.simp e5
  try simp (disch := omega) only [z8]
  try simp only [((e5).2 f3 a1 (by omega) q7).1, ((e5).2 f3 a1 (by omega) q7).2]
  refine and_lift h (fun h => ?_)
  refine ex_lift h (fun a3 q9 h => ?_)
  try simp only [((e5).2 80 a3 (by omega) q9).1, ((e5).2 80 a3 (by omega) q9).2]
  refine and_lift h (fun h => ?_)
  refine and_lift h (fun h => ?_)
  refine all_lift h (fun H4 eH4 h => ?_)
  obtain ⟨G4, eG4⟩ : ∃ z, z = ais G2 a3 l1.toNatClampNeg (0 : Int32) := ⟨_, rfl⟩
  rw [← eG4] at h
  have e10 : eM a0 G4 H4 := by rw [eG4, eH4]; exact eM.ais e5
  have c11 : cM a0 H0 H4 := by rw [eH4]; exact cM.ais c6 ⟨80, by omega, (((e5).1 80 (by omega)).2.2).trans q9⟩
  have kG4 : ∀ f a, ((70 ≤ f ∧ f ≤ 72) ∨ (79 ≤ f ∧ f ≤ 94) ∨ f = 96) → gr G2 f a0 = some a → gr G4 f a0 = some a := by intro f a _ z; rw [eG4]; exact z
  have q12 := kG4 f3 a1 (by omega) q7
  have q13 := kG4 80 a3 (by omega) q9
  have z14 := eM.simp e10
  try simp (disch := omega) only [z14]
  try simp only [((e10).2 f3 a1 (by omega) q12).1, ((e10).2 f3 a1 (by omega) q12).2, ((e10).2 80 a3 (by omega) q13).1, ((e10).2 80 a3 (by omega) q13).2]
  refine ex_lift h (fun a5 q15 h => ?_)
  try simp only [((e10).2 82 a5 (by omega) q15).1, ((e10).2 82 a5 (by omega) q15).2]
  refine and_lift h (fun h => ?_)
  refine and_lift h (fun h => ?_)
  refine all_lift h (fun H6 eH6 h => ?_)
  obtain ⟨G6, eG6⟩ : ∃ z, z = ais G4 a5 l1.toNatClampNeg (0 : Int32) := ⟨_, rfl⟩
  rw [← eG6] at h
  have e16 : eM a0 G6 H6 := by rw [eG6, eH6]; exact eM.ais e10
  have c17 : cM a0 H0 H6 := by rw [eH6]; exact cM.ais c11 ⟨82, by omega, (((e10).1 82 (by omega)).2.2).trans q15⟩
  have kG6 : ∀ f a, ((70 ≤ f ∧ f ≤ 72) ∨ (79 ≤ f ∧ f ≤ 94) ∨ f = 96) → gr G4 f a0 = some a → gr G6 f a0 = some a := by intro f a _ z; rw [eG6]; exact z
  have q18 := kG6 f3 a1 (by omega) q12
  have q19 := kG6 80 a3 (by omega) q13
  have q20 := kG6 82 a5 (by omega) q15
  have z21 := eM.simp e16
  try simp (disch := omega) only [z21]
  try simp only [((e16).2 f3 a1 (by omega) q18).1, ((e16).2 f3 a1 (by omega) q18).2, ((e16).2 80 a3 (by omega) q19).1, ((e16).2 80 a3 (by omega) q19).2, ((e16).2 82 a5 (by omega) q20).1, ((e16).2 82 a5 (by omega) q20).2]
  exact hk _ _ e16 c17 h
set_option maxHeartbeats 4000000 in
theorem f_M_serve_100 {t : TY} {a0 : Nat} {G H H0 : GS} {K K' : GS → Prop} (e : eM a0 G H) (c : cM a0 H0 H) (hk : ∀ (G' H' : GS), eM a0 G' H' → cM a0 H0 H' → K G' → K' H') {l1 : Int32} (h : w_M_serve_100 t a0 K l1 G) : w_M_serve_100 t a0 K' l1 H := by
  unfold w_M_serve_100 at h ⊢
  have z1 := eM.simp e
  try simp (disch := omega) only [z1]
  refine and_lift h (fun h => ?_)
  refine f_M_releaseAll e (fun G1 H1 e2 c3 h => ?_) h
  have c3 := (c).tr c3
  have z4 := eM.simp e2
  try simp (disch := omega) only [z4]
  refine ite_lift h (fun h => ?_) (fun h => ?_)
  · try simp (disch := omega) only [z4]
    exact f_M_serve_122 e2 c3 hk  ⟨85, by omega, rfl⟩ h
  · try simp (disch := omega) only [z4]
    exact f_M_serve_122 e2 c3 hk  ⟨85, by omega, rfl⟩ h
set_option maxHeartbeats 4000000 in
theorem f_M_serve_70 {t : TY} {a0 : Nat} {G H H0 : GS} {K K' : GS → Prop} {r2 R2 : Int32 → Int32 → GS → Prop} (e : eM a0 G H) (c : cM a0 H0 H) (hk : ∀ (G' H' : GS), eM a0 G' H' → cM a0 H0 H' → K G' → K' H') (hr2 : ∀ (x0 : Int32) (x1 : Int32) (G H : GS), eM a0 G H → cM a0 H0 H → r2 x0 x1 G → R2 x0 x1 H) {l1 : Int32} {l2 : Int32} {l3 : Int64} (h : w_M_serve_70 t a0 K r2 l1 l2 l3 G) : w_M_serve_70 t a0 K' R2 l1 l2 l3 H := by
  unfold w_M_serve_70 at h ⊢
  have z1 := eM.simp e
  try simp (disch := omega) only [z1]
  refine and_lift h (fun h => ?_)
  refine ex_lift h (fun a1 q2 h => ?_)
  try simp only [((e).2 80 a1 (by omega) q2).1, ((e).2 80 a1 (by omega) q2).2]
  refine and_lift h (fun h => ?_)
  refine and_lift h (fun h => ?_)
  refine ite_lift h (fun h => ?_) (fun h => ?_)
  · try simp (disch := omega) only [z1]
    try simp only [((e).2 80 a1 (by omega) q2).1, ((e).2 80 a1 (by omega) q2).2]
    exact f_M_serve_138 e c hk hr2  h
  · try simp (disch := omega) only [z1]
    try simp only [((e).2 80 a1 (by omega) q2).1, ((e).2 80 a1 (by omega) q2).2]
    refine ite_lift h (fun h => ?_) (fun h => ?_)
    · try simp (disch := omega) only [z1]
      try simp only [((e).2 80 a1 (by omega) q2).1, ((e).2 80 a1 (by omega) q2).2]
      exact f_M_serve_100 e c hk  h
    · try simp (disch := omega) only [z1]
      try simp only [((e).2 80 a1 (by omega) q2).1, ((e).2 80 a1 (by omega) q2).2]
      refine ex_lift h (fun a2 q3 h => ?_)
      try simp only [((e).2 83 a2 (by omega) q3).1, ((e).2 83 a2 (by omega) q3).2]
      refine and_lift h (fun h => ?_)
      refine and_lift h (fun h => ?_)
      refine ite_lift h (fun h => ?_) (fun h => ?_)
      · try simp (disch := omega) only [z1]
        try simp only [((e).2 80 a1 (by omega) q2).1, ((e).2 80 a1 (by omega) q2).2, ((e).2 83 a2 (by omega) q3).1, ((e).2 83 a2 (by omega) q3).2]
        exact f_M_serve_138 e c hk hr2  h
      · try simp (disch := omega) only [z1]
        try simp only [((e).2 80 a1 (by omega) q2).1, ((e).2 80 a1 (by omega) q2).2, ((e).2 83 a2 (by omega) q3).1, ((e).2 83 a2 (by omega) q3).2]
        exact f_M_serve_100 e c hk  h
set_option maxHeartbeats 4000000 in
theorem f_M_serve_29 {t : TY} {a0 : Nat} {G H H0 : GS} {K K' : GS → Prop} {r2 R2 : Int32 → Int32 → GS → Prop} (e : eM a0 G H) (c : cM a0 H0 H) (hk : ∀ (G' H' : GS), eM a0 G' H' → cM a0 H0 H' → K G' → K' H') (hr2 : ∀ (x0 : Int32) (x1 : Int32) (G H : GS), eM a0 G H → cM a0 H0 H → r2 x0 x1 G → R2 x0 x1 H) : ∀ (n : Nat) {l1 : Int32} {l2 : Int32} {l3 : Int64} {l5 : Int32}, w_M_serve_29 t a0 K r2 n l1 l2 l3 l5 G → w_M_serve_29 t a0 K' R2 n l1 l2 l3 l5 H := by
  intro n
  induction n generalizing G H with
  | zero => intro l1 l2 l3 l5 h; exact h.elim
  | succ n ih =>
    intro l1 l2 l3 l5 h
    have hr29 : ∀ (x0 : Int32) (x1 : Int32) (x2 : Int64) (x3 : Int32) (G H : GS), eM a0 G H → cM a0 H0 H → w_M_serve_29 t a0 K r2 n x0 x1 x2 x3 G → w_M_serve_29 t a0 K' R2 n x0 x1 x2 x3 H := fun _ _ _ _ G H e c h => ih e c h
    unfold w_M_serve_29 at h ⊢
    have z1 := eM.simp e
    try simp (disch := omega) only [z1]
    try dsimp only at h ⊢
    refine ite_lift h (fun h => ?_) (fun h => ?_)
    · try simp (disch := omega) only [z1]
      exact f_M_serve_70 e c hk hr2  h
    · try simp (disch := omega) only [z1]
      refine and_lift h (fun h => ?_)
      refine ex_lift h (fun a1 q2 h => ?_)
      try simp only [((e).2 80 a1 (by omega) q2).1, ((e).2 80 a1 (by omega) q2).2]
      refine and_lift h (fun h => ?_)
      refine and_lift h (fun h => ?_)
      refine ite_lift h (fun h => ?_) (fun h => ?_)
      · try simp (disch := omega) only [z1]
        try simp only [((e).2 80 a1 (by omega) q2).1, ((e).2 80 a1 (by omega) q2).2]
        exact f_M_serve_70 e c hk hr2  h
      · try simp (disch := omega) only [z1]
        try simp only [((e).2 80 a1 (by omega) q2).1, ((e).2 80 a1 (by omega) q2).2]
        refine ex_lift h (fun a2 q3 h => ?_)
        try simp only [((e).2 79 a2 (by omega) q3).1, ((e).2 79 a2 (by omega) q3).2]
        refine and_lift h (fun h => ?_)
        refine and_lift h (fun h => ?_)
        refine bind_lift h (fun v3 h => ?_)
        refine bind_lift h (fun v4 h => ?_)
        exact hr29 _ _ _ _ _ _ e c h
set_option maxHeartbeats 4000000 in
theorem f_M_serve_2 {t : TY} {a0 : Nat} {G H H0 : GS} {K K' : GS → Prop} (e : eM a0 G H) (c : cM a0 H0 H) (hk : ∀ (G' H' : GS), eM a0 G' H' → cM a0 H0 H' → K G' → K' H') : ∀ (n : Nat) {l1 : Int32} {l2 : Int32}, w_M_serve_2 t a0 K n l1 l2 G → w_M_serve_2 t a0 K' n l1 l2 H := by
  intro n
  induction n generalizing G H with
  | zero => intro l1 l2 h; exact h.elim
  | succ n ih =>
    intro l1 l2 h
    have hr2 : ∀ (x0 : Int32) (x1 : Int32) (G H : GS), eM a0 G H → cM a0 H0 H → w_M_serve_2 t a0 K n x0 x1 G → w_M_serve_2 t a0 K' n x0 x1 H := fun _ _ G H e c h => ih e c h
    unfold w_M_serve_2 at h ⊢
    have z1 := eM.simp e
    try simp (disch := omega) only [z1]
    try dsimp only at h ⊢
    refine ite_lift h (fun h => ?_) (fun h => ?_)
    · try simp (disch := omega) only [z1]
      exact hk _ _ e c h
    · try simp (disch := omega) only [z1]
      refine and_lift h (fun h => ?_)
      refine ite_lift h (fun h => ?_) (fun h => ?_)
      · try simp (disch := omega) only [z1]
        exact hk _ _ e c h
      · try simp (disch := omega) only [z1]
        refine ex_lift h (fun a1 q2 h => ?_)
        try simp only [((e).2 85 a1 (by omega) q2).1, ((e).2 85 a1 (by omega) q2).2]
        refine and_lift h (fun h => ?_)
        refine and_lift h (fun h => ?_)
        refine ite_lift h (fun h => ?_) (fun h => ?_)
        · try simp (disch := omega) only [z1]
          try simp only [((e).2 85 a1 (by omega) q2).1, ((e).2 85 a1 (by omega) q2).2]
          exact hk _ _ e c h
        · try simp (disch := omega) only [z1]
          try simp only [((e).2 85 a1 (by omega) q2).1, ((e).2 85 a1 (by omega) q2).2]
          obtain ⟨n, h⟩ := h
          refine ⟨n, ?_⟩
          exact f_M_serve_29 e c hk hr2 _  h
set_option maxHeartbeats 4000000 in
theorem f_M_serve {t : TY} {a0 : Nat} {G H : GS} {K K' : GS → Prop} (e : eM a0 G H) (hk : ∀ (G' H' : GS), eM a0 G' H' → cM a0 H H' → K G' → K' H') {p1 : Int32} (h : w_M_serve t G a0 p1 K) : w_M_serve t H a0 p1 K' := by
  obtain ⟨H0, eH0⟩ : ∃ z, z = H := ⟨_, rfl⟩
  have c : cM a0 H0 H := by rw [eH0]; exact cM.rf
  have hk : ∀ (G' H' : GS), eM a0 G' H' → cM a0 H0 H' → K G' → K' H' := by rw [eH0]; exact hk
  unfold w_M_serve at h ⊢
  have z1 := eM.simp e
  try simp (disch := omega) only [z1]
  obtain ⟨n, h⟩ := h
  refine ⟨n, ?_⟩
  exact f_M_serve_2 e c hk _  h
set_option maxHeartbeats 4000000 in
theorem f_M_isConnection {t : TY} {a0 : Nat} {G H : GS} {K K' : Int32 → Prop} (e : eM a0 G H) (hk : ∀ v : Int32, K v → K' v) {p0 : Int32} (h : w_M_isConnection t G p0 K) : w_M_isConnection t H p0 K' := by
  skip
  skip
  skip
  unfold w_M_isConnection at h ⊢
  have z1 := eM.simp e
  try simp (disch := omega) only [z1]
  refine ite_lift h (fun h => ?_) (fun h => ?_)
  · try simp (disch := omega) only [z1]
    exact hk _ h
  · try simp (disch := omega) only [z1]
    refine ite_lift h (fun h => ?_) (fun h => ?_)
    · try simp (disch := omega) only [z1]
      exact hk _ h
    · try simp (disch := omega) only [z1]
      exact hk _ h
set_option maxHeartbeats 4000000 in
theorem f_M_feed_56 {t : TY} {a0 : Nat} {G H H0 : GS} {K K' : GS → Int32 → Prop} (e : eM a0 G H) (c : cM a0 H0 H) (hk : ∀ (G' H' : GS) (v : Int32), eM a0 G' H' → cM a0 H0 H' → K G' v → K' H' v) : ∀ (n : Nat) {l1 : Int32} {l2 : Int64} {l4 : Int32} {l5 : Int32}, w_M_feed_56 t a0 K n l1 l2 l4 l5 G → w_M_feed_56 t a0 K' n l1 l2 l4 l5 H := by
  intro n
  induction n generalizing G H with
  | zero => intro l1 l2 l4 l5 h; exact h.elim
  | succ n ih =>
    intro l1 l2 l4 l5 h
    have hr56 : ∀ (x0 : Int32) (x1 : Int64) (x2 : Int32) (x3 : Int32) (G H : GS), eM a0 G H → cM a0 H0 H → w_M_feed_56 t a0 K n x0 x1 x2 x3 G → w_M_feed_56 t a0 K' n x0 x1 x2 x3 H := fun _ _ _ _ G H e c h => ih e c h
    unfold w_M_feed_56 at h ⊢
    have z1 := eM.simp e
    try simp (disch := omega) only [z1]
    try dsimp only at h ⊢
    refine ite_lift h (fun h => ?_) (fun h => ?_)
    · try simp (disch := omega) only [z1]
      refine and_lift h (fun h => ?_)
      refine ex_lift h (fun a1 q2 h => ?_)
      try simp only [((e).2 80 a1 (by omega) q2).1, ((e).2 80 a1 (by omega) q2).2]
      refine and_lift h (fun h => ?_)
      refine and_lift h (fun h => ?_)
      refine all_lift h (fun H2 eH2 h => ?_)
      obtain ⟨G2, eG2⟩ : ∃ z, z = ais G a1 l1.toNatClampNeg ((ai G a1 l1.toNatClampNeg) + l4) := ⟨_, rfl⟩
      rw [← eG2] at h
      have e3 : eM a0 G2 H2 := by rw [eG2, eH2]; exact eM.ais e
      have c4 : cM a0 H0 H2 := by rw [eH2]; exact cM.ais c ⟨80, by omega, (((e).1 80 (by omega)).2.2).trans q2⟩
      have kG2 : ∀ f a, ((70 ≤ f ∧ f ≤ 72) ∨ (79 ≤ f ∧ f ≤ 94) ∨ f = 96) → gr G f a0 = some a → gr G2 f a0 = some a := by intro f a _ z; rw [eG2]; exact z
      have q5 := kG2 80 a1 (by omega) q2
      have z6 := eM.simp e3
      try simp (disch := omega) only [z6]
      try simp only [((e3).2 80 a1 (by omega) q5).1, ((e3).2 80 a1 (by omega) q5).2]
      refine f_M_serve e3 (fun G3 H3 e7 c8 h => ?_) h
      have c8 := (c4).tr c8
      have z9 := eM.simp e7
      try simp (disch := omega) only [z9]
      exact hk _ _ _ e7 c8 h
    · try simp (disch := omega) only [z1]
      refine and_lift h (fun h => ?_)
      refine ex_lift h (fun a4 q10 h => ?_)
      try simp only [((e).2 80 a4 (by omega) q10).1, ((e).2 80 a4 (by omega) q10).2]
      refine and_lift h (fun h => ?_)
      refine and_lift h (fun h => ?_)
      refine ex_lift h (fun a5 q11 h => ?_)
      try simp only [((e).2 79 a5 (by omega) q11).1, ((e).2 79 a5 (by omega) q11).2]
      refine and_lift h (fun h => ?_)
      refine and_lift h (fun h => ?_)
      refine all_lift h (fun H6 eH6 h => ?_)
      obtain ⟨G6, eG6⟩ : ∃ z, z = ais G a5 ((((160 : Int32) * l1) + (ai G a4 l1.toNatClampNeg)) + l5).toNatClampNeg (((l2 >>> (((8 : Int32) * l5).toInt64 &&& 63)) &&& (255 : Int64)).toInt32) := ⟨_, rfl⟩
      rw [← eG6] at h
      have e12 : eM a0 G6 H6 := by rw [eG6, eH6]; exact eM.ais e
      have c13 : cM a0 H0 H6 := by rw [eH6]; exact cM.ais c ⟨79, by omega, (((e).1 79 (by omega)).2.2).trans q11⟩
      have kG6 : ∀ f a, ((70 ≤ f ∧ f ≤ 72) ∨ (79 ≤ f ∧ f ≤ 94) ∨ f = 96) → gr G f a0 = some a → gr G6 f a0 = some a := by intro f a _ z; rw [eG6]; exact z
      have q14 := kG6 80 a4 (by omega) q10
      have q15 := kG6 79 a5 (by omega) q11
      have z16 := eM.simp e12
      try simp (disch := omega) only [z16]
      try simp only [((e12).2 80 a4 (by omega) q14).1, ((e12).2 80 a4 (by omega) q14).2, ((e12).2 79 a5 (by omega) q15).1, ((e12).2 79 a5 (by omega) q15).2]
      refine bind_lift h (fun v7 h => ?_)
      exact hr56 _ _ _ _ _ _ e12 c13 h
set_option maxHeartbeats 4000000 in
theorem f_M_feed {t : TY} {a0 : Nat} {G H : GS} {K K' : GS → Int32 → Prop} (e : eM a0 G H) (hk : ∀ (G' H' : GS) (v : Int32), eM a0 G' H' → cM a0 H H' → K G' v → K' H' v) {p1 : Int32} {p2 : Int64} {p4 : Int32} (h : w_M_feed t G a0 p1 p2 p4 K) : w_M_feed t H a0 p1 p2 p4 K' := by
  obtain ⟨H0, eH0⟩ : ∃ z, z = H := ⟨_, rfl⟩
  have c : cM a0 H0 H := by rw [eH0]; exact cM.rf
  have hk : ∀ (G' H' : GS) (v : Int32), eM a0 G' H' → cM a0 H0 H' → K G' v → K' H' v := by rw [eH0]; exact hk
  unfold w_M_feed at h ⊢
  have z1 := eM.simp e
  try simp (disch := omega) only [z1]
  refine f_M_isConnection e (fun v1 h => ?_) h
  refine ite_lift h (fun h => ?_) (fun h => ?_)
  · try simp (disch := omega) only [z1]
    exact hk _ _ _ e c h
  · try simp (disch := omega) only [z1]
    refine ite_lift h (fun h => ?_) (fun h => ?_)
    · try simp (disch := omega) only [z1]
      exact hk _ _ _ e c h
    · try simp (disch := omega) only [z1]
      refine ite_lift h (fun h => ?_) (fun h => ?_)
      · try simp (disch := omega) only [z1]
        exact hk _ _ _ e c h
      · try simp (disch := omega) only [z1]
        refine and_lift h (fun h => ?_)
        refine ite_lift h (fun h => ?_) (fun h => ?_)
        · try simp (disch := omega) only [z1]
          exact hk _ _ _ e c h
        · try simp (disch := omega) only [z1]
          refine ex_lift h (fun a2 q2 h => ?_)
          try simp only [((e).2 85 a2 (by omega) q2).1, ((e).2 85 a2 (by omega) q2).2]
          refine and_lift h (fun h => ?_)
          refine and_lift h (fun h => ?_)
          refine ite_lift h (fun h => ?_) (fun h => ?_)
          · try simp (disch := omega) only [z1]
            try simp only [((e).2 85 a2 (by omega) q2).1, ((e).2 85 a2 (by omega) q2).2]
            exact hk _ _ _ e c h
          · try simp (disch := omega) only [z1]
            try simp only [((e).2 85 a2 (by omega) q2).1, ((e).2 85 a2 (by omega) q2).2]
            refine ex_lift h (fun a3 q3 h => ?_)
            try simp only [((e).2 80 a3 (by omega) q3).1, ((e).2 80 a3 (by omega) q3).2]
            refine and_lift h (fun h => ?_)
            refine and_lift h (fun h => ?_)
            refine ite_lift h (fun h => ?_) (fun h => ?_)
            · try simp (disch := omega) only [z1]
              try simp only [((e).2 85 a2 (by omega) q2).1, ((e).2 85 a2 (by omega) q2).2, ((e).2 80 a3 (by omega) q3).1, ((e).2 80 a3 (by omega) q3).2]
              obtain ⟨n, h⟩ := h
              refine ⟨n, ?_⟩
              exact f_M_feed_56 e c hk _  h
            · try simp (disch := omega) only [z1]
              try simp only [((e).2 85 a2 (by omega) q2).1, ((e).2 85 a2 (by omega) q2).2, ((e).2 80 a3 (by omega) q3).1, ((e).2 80 a3 (by omega) q3).2]
              exact hk _ _ _ e c h
set_option maxHeartbeats 4000000 in
theorem f_M_waiting {t : TY} {a0 : Nat} {G H : GS} {K K' : Int32 → Prop} (e : eM a0 G H) (hk : ∀ v : Int32, K v → K' v) {p1 : Int32} (h : w_M_waiting t G a0 p1 K) : w_M_waiting t H a0 p1 K' := by
  skip
  skip
  skip
  unfold w_M_waiting at h ⊢
  have z1 := eM.simp e
  try simp (disch := omega) only [z1]
  refine f_M_isConnection e (fun v1 h => ?_) h
  refine ite_lift h (fun h => ?_) (fun h => ?_)
  · try simp (disch := omega) only [z1]
    exact hk _ h
  · try simp (disch := omega) only [z1]
    refine and_lift h (fun h => ?_)
    refine ex_lift h (fun a2 q2 h => ?_)
    try simp only [((e).2 82 a2 (by omega) q2).1, ((e).2 82 a2 (by omega) q2).2]
    refine and_lift h (fun h => ?_)
    refine and_lift h (fun h => ?_)
    exact hk _ h
set_option maxHeartbeats 4000000 in
theorem f_M_take_83 {t : TY} {a0 : Nat} {G H H0 : GS} {K K' : GS → Int64 → Prop} (e : eM a0 G H) (c : cM a0 H0 H) (hk : ∀ (G' H' : GS) (v : Int64), eM a0 G' H' → cM a0 H0 H' → K G' v → K' H' v) : ∀ (n : Nat) {l1 : Int32} {l2 : Int32} {l3 : Int64} {l5 : Int32}, w_M_take_83 t a0 K n l1 l2 l3 l5 G → w_M_take_83 t a0 K' n l1 l2 l3 l5 H := by
  intro n
  induction n generalizing G H with
  | zero => intro l1 l2 l3 l5 h; exact h.elim
  | succ n ih =>
    intro l1 l2 l3 l5 h
    have hr83 : ∀ (x0 : Int32) (x1 : Int32) (x2 : Int64) (x3 : Int32) (G H : GS), eM a0 G H → cM a0 H0 H → w_M_take_83 t a0 K n x0 x1 x2 x3 G → w_M_take_83 t a0 K' n x0 x1 x2 x3 H := fun _ _ _ _ G H e c h => ih e c h
    unfold w_M_take_83 at h ⊢
    have z1 := eM.simp e
    try simp (disch := omega) only [z1]
    try dsimp only at h ⊢
    refine and_lift h (fun h => ?_)
    refine ex_lift h (fun a1 q2 h => ?_)
    try simp only [((e).2 82 a1 (by omega) q2).1, ((e).2 82 a1 (by omega) q2).2]
    refine and_lift h (fun h => ?_)
    refine and_lift h (fun h => ?_)
    refine ite_lift h (fun h => ?_) (fun h => ?_)
    · try simp (disch := omega) only [z1]
      try simp only [((e).2 82 a1 (by omega) q2).1, ((e).2 82 a1 (by omega) q2).2]
      refine f_M_serve e (fun G2 H2 e3 c4 h => ?_) h
      have c4 := (c).tr c4
      have z5 := eM.simp e3
      try simp (disch := omega) only [z5]
      exact hk _ _ _ e3 c4 h
    · try simp (disch := omega) only [z1]
      try simp only [((e).2 82 a1 (by omega) q2).1, ((e).2 82 a1 (by omega) q2).2]
      refine ex_lift h (fun a3 q6 h => ?_)
      try simp only [((e).2 81 a3 (by omega) q6).1, ((e).2 81 a3 (by omega) q6).2]
      refine and_lift h (fun h => ?_)
      refine and_lift h (fun h => ?_)
      refine and_lift h (fun h => ?_)
      refine all_lift h (fun H4 eH4 h => ?_)
      obtain ⟨G4, eG4⟩ : ∃ z, z = ais G a3 (((256 : Int32) * l1) + l5).toNatClampNeg (ai G a3 ((((256 : Int32) * l1) + l2) + l5).toNatClampNeg) := ⟨_, rfl⟩
      rw [← eG4] at h
      have e7 : eM a0 G4 H4 := by rw [eG4, eH4]; exact eM.ais e
      have c8 : cM a0 H0 H4 := by rw [eH4]; exact cM.ais c ⟨81, by omega, (((e).1 81 (by omega)).2.2).trans q6⟩
      have kG4 : ∀ f a, ((70 ≤ f ∧ f ≤ 72) ∨ (79 ≤ f ∧ f ≤ 94) ∨ f = 96) → gr G f a0 = some a → gr G4 f a0 = some a := by intro f a _ z; rw [eG4]; exact z
      have q9 := kG4 82 a1 (by omega) q2
      have q10 := kG4 81 a3 (by omega) q6
      have z11 := eM.simp e7
      try simp (disch := omega) only [z11]
      try simp only [((e7).2 82 a1 (by omega) q9).1, ((e7).2 82 a1 (by omega) q9).2, ((e7).2 81 a3 (by omega) q10).1, ((e7).2 81 a3 (by omega) q10).2]
      refine bind_lift h (fun v5 h => ?_)
      exact hr83 _ _ _ _ _ _ e7 c8 h
set_option maxHeartbeats 4000000 in
theorem f_M_take_39 {t : TY} {a0 : Nat} {G H H0 : GS} {K K' : GS → Int64 → Prop} (e : eM a0 G H) (c : cM a0 H0 H) (hk : ∀ (G' H' : GS) (v : Int64), eM a0 G' H' → cM a0 H0 H' → K G' v → K' H' v) : ∀ (n : Nat) {l1 : Int32} {l2 : Int32} {l3 : Int64} {l5 : Int32}, w_M_take_39 t a0 K n l1 l2 l3 l5 G → w_M_take_39 t a0 K' n l1 l2 l3 l5 H := by
  intro n
  induction n generalizing G H with
  | zero => intro l1 l2 l3 l5 h; exact h.elim
  | succ n ih =>
    intro l1 l2 l3 l5 h
    have hr39 : ∀ (x0 : Int32) (x1 : Int32) (x2 : Int64) (x3 : Int32) (G H : GS), eM a0 G H → cM a0 H0 H → w_M_take_39 t a0 K n x0 x1 x2 x3 G → w_M_take_39 t a0 K' n x0 x1 x2 x3 H := fun _ _ _ _ G H e c h => ih e c h
    unfold w_M_take_39 at h ⊢
    have z1 := eM.simp e
    try simp (disch := omega) only [z1]
    try dsimp only at h ⊢
    refine ite_lift h (fun h => ?_) (fun h => ?_)
    · try simp (disch := omega) only [z1]
      refine and_lift h (fun h => ?_)
      refine ex_lift h (fun a1 q2 h => ?_)
      try simp only [((e).2 82 a1 (by omega) q2).1, ((e).2 82 a1 (by omega) q2).2]
      refine and_lift h (fun h => ?_)
      refine and_lift h (fun h => ?_)
      refine all_lift h (fun H2 eH2 h => ?_)
      obtain ⟨G2, eG2⟩ : ∃ z, z = ais G a1 l1.toNatClampNeg ((ai G a1 l1.toNatClampNeg) - l2) := ⟨_, rfl⟩
      rw [← eG2] at h
      have e3 : eM a0 G2 H2 := by rw [eG2, eH2]; exact eM.ais e
      have c4 : cM a0 H0 H2 := by rw [eH2]; exact cM.ais c ⟨82, by omega, (((e).1 82 (by omega)).2.2).trans q2⟩
      have kG2 : ∀ f a, ((70 ≤ f ∧ f ≤ 72) ∨ (79 ≤ f ∧ f ≤ 94) ∨ f = 96) → gr G f a0 = some a → gr G2 f a0 = some a := by intro f a _ z; rw [eG2]; exact z
      have q5 := kG2 82 a1 (by omega) q2
      have z6 := eM.simp e3
      try simp (disch := omega) only [z6]
      try simp only [((e3).2 82 a1 (by omega) q5).1, ((e3).2 82 a1 (by omega) q5).2]
      obtain ⟨n, h⟩ := h
      refine ⟨n, ?_⟩
      exact f_M_take_83 e3 c4 hk _  h
    · try simp (disch := omega) only [z1]
      refine and_lift h (fun h => ?_)
      refine ex_lift h (fun a3 q7 h => ?_)
      try simp only [((e).2 81 a3 (by omega) q7).1, ((e).2 81 a3 (by omega) q7).2]
      refine and_lift h (fun h => ?_)
      refine and_lift h (fun h => ?_)
      refine bind_lift h (fun v4 h => ?_)
      refine bind_lift h (fun v5 h => ?_)
      exact hr39 _ _ _ _ _ _ e c h
set_option maxHeartbeats 4000000 in
theorem f_M_take_31 {t : TY} {a0 : Nat} {G H H0 : GS} {K K' : GS → Int64 → Prop} (e : eM a0 G H) (c : cM a0 H0 H) (hk : ∀ (G' H' : GS) (v : Int64), eM a0 G' H' → cM a0 H0 H' → K G' v → K' H' v) {l1 : Int32} {s0 : Int32} (h : w_M_take_31 t a0 K l1 s0 G) : w_M_take_31 t a0 K' l1 s0 H := by
  unfold w_M_take_31 at h ⊢
  have z1 := eM.simp e
  try simp (disch := omega) only [z1]
  refine bind_lift h (fun v1 h => ?_)
  obtain ⟨n, h⟩ := h
  refine ⟨n, ?_⟩
  exact f_M_take_39 e c hk _  h
set_option maxHeartbeats 4000000 in
theorem f_M_take {t : TY} {a0 : Nat} {G H : GS} {K K' : GS → Int64 → Prop} (e : eM a0 G H) (hk : ∀ (G' H' : GS) (v : Int64), eM a0 G' H' → cM a0 H H' → K G' v → K' H' v) {p1 : Int32} (h : w_M_take t G a0 p1 K) : w_M_take t H a0 p1 K' := by
  obtain ⟨H0, eH0⟩ : ∃ z, z = H := ⟨_, rfl⟩
  have c : cM a0 H0 H := by rw [eH0]; exact cM.rf
  have hk : ∀ (G' H' : GS) (v : Int64), eM a0 G' H' → cM a0 H0 H' → K G' v → K' H' v := by rw [eH0]; exact hk
  unfold w_M_take at h ⊢
  have z1 := eM.simp e
  try simp (disch := omega) only [z1]
  refine f_M_isConnection e (fun v1 h => ?_) h
  refine ite_lift h (fun h => ?_) (fun h => ?_)
  · try simp (disch := omega) only [z1]
    refine and_lift h (fun h => ?_)
    refine ex_lift h (fun a2 q2 h => ?_)
    try simp only [((e).2 82 a2 (by omega) q2).1, ((e).2 82 a2 (by omega) q2).2]
    refine and_lift h (fun h => ?_)
    refine and_lift h (fun h => ?_)
    refine ite_lift h (fun h => ?_) (fun h => ?_)
    · try simp (disch := omega) only [z1]
      try simp only [((e).2 82 a2 (by omega) q2).1, ((e).2 82 a2 (by omega) q2).2]
      exact f_M_take_31 e c hk  h
    · try simp (disch := omega) only [z1]
      try simp only [((e).2 82 a2 (by omega) q2).1, ((e).2 82 a2 (by omega) q2).2]
      exact f_M_take_31 e c hk  h
  · try simp (disch := omega) only [z1]
    exact hk _ _ _ e c h
set_option maxHeartbeats 4000000 in
theorem f_M_hangup {t : TY} {a0 : Nat} {G H : GS} {K K' : GS → Int32 → Prop} (e : eM a0 G H) (hk : ∀ (G' H' : GS) (v : Int32), eM a0 G' H' → cM a0 H H' → K G' v → K' H' v) {p1 : Int32} (h : w_M_hangup t G a0 p1 K) : w_M_hangup t H a0 p1 K' := by
  obtain ⟨H0, eH0⟩ : ∃ z, z = H := ⟨_, rfl⟩
  have c : cM a0 H0 H := by rw [eH0]; exact cM.rf
  have hk : ∀ (G' H' : GS) (v : Int32), eM a0 G' H' → cM a0 H0 H' → K G' v → K' H' v := by rw [eH0]; exact hk
  unfold w_M_hangup at h ⊢
  have z1 := eM.simp e
  try simp (disch := omega) only [z1]
  refine f_M_isConnection e (fun v1 h => ?_) h
  refine ite_lift h (fun h => ?_) (fun h => ?_)
  · try simp (disch := omega) only [z1]
    exact hk _ _ _ e c h
  · try simp (disch := omega) only [z1]
    refine and_lift h (fun h => ?_)
    refine ite_lift h (fun h => ?_) (fun h => ?_)
    · try simp (disch := omega) only [z1]
      refine f_M_releaseAll e (fun G2 H2 e2 c3 h => ?_) h
      have c3 := (c).tr c3
      have z4 := eM.simp e2
      try simp (disch := omega) only [z4]
      refine f_M_fresh e2 (fun G3 H3 e5 c6 h => ?_) h
      have c6 := (c3).tr c6
      have z7 := eM.simp e5
      try simp (disch := omega) only [z7]
      exact hk _ _ _ e5 c6 h
    · try simp (disch := omega) only [z1]
      exact hk _ _ _ e c h
set_option maxHeartbeats 4000000 in
theorem f_M_status {t : TY} {a0 : Nat} {G H : GS} {K K' : Int32 → Prop} (e : eM a0 G H) (hk : ∀ v : Int32, K v → K' v) {p1 : Int32} (h : w_M_status t G a0 p1 K) : w_M_status t H a0 p1 K' := by
  skip
  skip
  skip
  unfold w_M_status at h ⊢
  have z1 := eM.simp e
  try simp (disch := omega) only [z1]
  refine f_M_isConnection e (fun v1 h => ?_) h
  refine ite_lift h (fun h => ?_) (fun h => ?_)
  · try simp (disch := omega) only [z1]
    refine and_lift h (fun h => ?_)
    refine ex_lift h (fun a2 q2 h => ?_)
    try simp only [((e).2 85 a2 (by omega) q2).1, ((e).2 85 a2 (by omega) q2).2]
    refine and_lift h (fun h => ?_)
    refine and_lift h (fun h => ?_)
    refine ite_lift h (fun h => ?_) (fun h => ?_)
    · try simp (disch := omega) only [z1]
      try simp only [((e).2 85 a2 (by omega) q2).1, ((e).2 85 a2 (by omega) q2).2]
      refine ex_lift h (fun a3 q3 h => ?_)
      try simp only [((e).2 84 a3 (by omega) q3).1, ((e).2 84 a3 (by omega) q3).2]
      refine and_lift h (fun h => ?_)
      refine and_lift h (fun h => ?_)
      refine ite_lift h (fun h => ?_) (fun h => ?_)
      · try simp (disch := omega) only [z1]
        try simp only [((e).2 85 a2 (by omega) q2).1, ((e).2 85 a2 (by omega) q2).2, ((e).2 84 a3 (by omega) q3).1, ((e).2 84 a3 (by omega) q3).2]
        exact hk _ h
      · try simp (disch := omega) only [z1]
        try simp only [((e).2 85 a2 (by omega) q2).1, ((e).2 85 a2 (by omega) q2).2, ((e).2 84 a3 (by omega) q3).1, ((e).2 84 a3 (by omega) q3).2]
        exact hk _ h
    · try simp (disch := omega) only [z1]
      try simp only [((e).2 85 a2 (by omega) q2).1, ((e).2 85 a2 (by omega) q2).2]
      exact hk _ h
  · try simp (disch := omega) only [z1]
    exact hk _ h
set_option maxHeartbeats 4000000 in
theorem f_M_fids {t : TY} {a0 : Nat} {G H : GS} {K K' : Int32 → Prop} (e : eM a0 G H) (hk : ∀ v : Int32, K v → K' v) {p1 : Int32} (h : w_M_fids t G a0 p1 K) : w_M_fids t H a0 p1 K' := by
  skip
  skip
  skip
  unfold w_M_fids at h ⊢
  have z1 := eM.simp e
  try simp (disch := omega) only [z1]
  refine f_M_isConnection e (fun v1 h => ?_) h
  refine ite_lift h (fun h => ?_) (fun h => ?_)
  · try simp (disch := omega) only [z1]
    exact hk _ h
  · try simp (disch := omega) only [z1]
    refine and_lift h (fun h => ?_)
    refine f_M_many e (fun v2 h => ?_) h
    exact hk _ h
set_option maxHeartbeats 4000000 in
theorem f_M_clock {t : TY} {a0 : Nat} {G H : GS} {K K' : GS → Prop} (e : eM a0 G H) (hk : ∀ (G' H' : GS), eM a0 G' H' → cM a0 H H' → K G' → K' H') {p1 : Int32} (h : w_M_clock t G a0 p1 K) : w_M_clock t H a0 p1 K' := by
  obtain ⟨H0, eH0⟩ : ∃ z, z = H := ⟨_, rfl⟩
  have c : cM a0 H0 H := by rw [eH0]; exact cM.rf
  have hk : ∀ (G' H' : GS), eM a0 G' H' → cM a0 H0 H' → K G' → K' H' := by rw [eH0]; exact hk
  unfold w_M_clock at h ⊢
  have z1 := eM.simp e
  try simp (disch := omega) only [z1]
  refine and_lift h (fun h => ?_)
  refine all_lift h (fun H1 eH1 h => ?_)
  obtain ⟨G1, eG1⟩ : ∃ z, z = si G 78 a0 p1 := ⟨_, rfl⟩
  rw [← eG1] at h
  have e2 : eM a0 G1 H1 := by rw [eG1, eH1]; exact eM.si e (by omega)
  have c3 : cM a0 H0 H1 := by rw [eH1]; exact cM.si c
  have kG1 : ∀ f a, ((70 ≤ f ∧ f ≤ 72) ∨ (79 ≤ f ∧ f ≤ 94) ∨ f = 96) → gr G f a0 = some a → gr G1 f a0 = some a := by intro f a _ z; rw [eG1]; exact z
  have z4 := eM.simp e2
  try simp (disch := omega) only [z4]
  exact hk _ _ e2 c3 h
set_option maxHeartbeats 4000000 in
theorem f_M_cut {t : TY} {a0 : Nat} {G H : GS} {K K' : GS → Int32 → Prop} (e : eM a0 G H) (hk : ∀ (G' H' : GS) (v : Int32), eM a0 G' H' → cM a0 H H' → K G' v → K' H' v) {p1 : Int32} (h : w_M_cut t G a0 p1 K) : w_M_cut t H a0 p1 K' := by
  obtain ⟨H0, eH0⟩ : ∃ z, z = H := ⟨_, rfl⟩
  have c : cM a0 H0 H := by rw [eH0]; exact cM.rf
  have hk : ∀ (G' H' : GS) (v : Int32), eM a0 G' H' → cM a0 H0 H' → K G' v → K' H' v := by rw [eH0]; exact hk
  unfold w_M_cut at h ⊢
  have z1 := eM.simp e
  try simp (disch := omega) only [z1]
  refine ite_lift h (fun h => ?_) (fun h => ?_)
  · try simp (disch := omega) only [z1]
    exact hk _ _ _ e c h
  · try simp (disch := omega) only [z1]
    refine and_lift h (fun h => ?_)
    refine ite_lift h (fun h => ?_) (fun h => ?_)
    · try simp (disch := omega) only [z1]
      refine all_lift h (fun H1 eH1 h => ?_)
      obtain ⟨G1, eG1⟩ : ∃ z, z = si G 76 a0 p1 := ⟨_, rfl⟩
      rw [← eG1] at h
      have e2 : eM a0 G1 H1 := by rw [eG1, eH1]; exact eM.si e (by omega)
      have c3 : cM a0 H0 H1 := by rw [eH1]; exact cM.si c
      have kG1 : ∀ f a, ((70 ≤ f ∧ f ≤ 72) ∨ (79 ≤ f ∧ f ≤ 94) ∨ f = 96) → gr G f a0 = some a → gr G1 f a0 = some a := by intro f a _ z; rw [eG1]; exact z
      have z4 := eM.simp e2
      try simp (disch := omega) only [z4]
      exact hk _ _ _ e2 c3 h
    · try simp (disch := omega) only [z1]
      exact hk _ _ _ e c h
set_option maxHeartbeats 4000000 in
theorem f_M_count_2 {t : TY} {a0 : Nat} {G H H0 : GS} {K K' : GS → Prop} (e : eM a0 G H) (c : cM a0 H0 H) (hk : ∀ (G' H' : GS), eM a0 G' H' → cM a0 H0 H' → K G' → K' H') : ∀ (n : Nat) {l1 : Int32}, w_M_count_2 t a0 K n l1 G → w_M_count_2 t a0 K' n l1 H := by
  intro n
  induction n generalizing G H with
  | zero => intro l1 h; exact h.elim
  | succ n ih =>
    intro l1 h
    have hr2 : ∀ (x0 : Int32) (G H : GS), eM a0 G H → cM a0 H0 H → w_M_count_2 t a0 K n x0 G → w_M_count_2 t a0 K' n x0 H := fun _ G H e c h => ih e c h
    unfold w_M_count_2 at h ⊢
    have z1 := eM.simp e
    try simp (disch := omega) only [z1]
    try dsimp only at h ⊢
    refine ite_lift h (fun h => ?_) (fun h => ?_)
    · try simp (disch := omega) only [z1]
      exact hk _ _ e c h
    · try simp (disch := omega) only [z1]
      refine and_lift h (fun h => ?_)
      refine f_M_at e (fun v1 h => ?_) h
      refine ite_lift h (fun h => ?_) (fun h => ?_)
      · try simp (disch := omega) only [z1]
        refine bind_lift h (fun v2 h => ?_)
        exact hr2 _ _ _ e c h
      · try simp (disch := omega) only [z1]
        refine f_M_at e (fun v3 h => ?_) h
        refine ite_lift h (fun h => ?_) (fun h => ?_)
        · try simp (disch := omega) only [z1]
          refine bind_lift h (fun v4 h => ?_)
          exact hr2 _ _ _ e c h
        · try simp (disch := omega) only [z1]
          refine f_M_at e (fun v5 h => ?_) h
          refine all_lift h (fun H6 eH6 h => ?_)
          obtain ⟨G6, eG6⟩ : ∃ z, z = si G 74 a0 v5 := ⟨_, rfl⟩
          rw [← eG6] at h
          have e2 : eM a0 G6 H6 := by rw [eG6, eH6]; exact eM.si e (by omega)
          have c3 : cM a0 H0 H6 := by rw [eH6]; exact cM.si c
          have kG6 : ∀ f a, ((70 ≤ f ∧ f ≤ 72) ∨ (79 ≤ f ∧ f ≤ 94) ∨ f = 96) → gr G f a0 = some a → gr G6 f a0 = some a := by intro f a _ z; rw [eG6]; exact z
          have z4 := eM.simp e2
          try simp (disch := omega) only [z4]
          refine bind_lift h (fun v7 h => ?_)
          exact hr2 _ _ _ e2 c3 h
set_option maxHeartbeats 4000000 in
theorem f_M_count {t : TY} {a0 : Nat} {G H : GS} {K K' : GS → Prop} (e : eM a0 G H) (hk : ∀ (G' H' : GS), eM a0 G' H' → cM a0 H H' → K G' → K' H') (h : w_M_count t G a0 K) : w_M_count t H a0 K' := by
  obtain ⟨H0, eH0⟩ : ∃ z, z = H := ⟨_, rfl⟩
  have c : cM a0 H0 H := by rw [eH0]; exact cM.rf
  have hk : ∀ (G' H' : GS), eM a0 G' H' → cM a0 H0 H' → K G' → K' H' := by rw [eH0]; exact hk
  unfold w_M_count at h ⊢
  have z1 := eM.simp e
  try simp (disch := omega) only [z1]
  obtain ⟨n, h⟩ := h
  refine ⟨n, ?_⟩
  exact f_M_count_2 e c hk _  h
set_option maxHeartbeats 4000000 in
theorem f_M_restart_69 {t : TY} {a0 : Nat} {G H H0 : GS} {K K' : GS → Int32 → Prop} (e : eM a0 G H) (c : cM a0 H0 H) (hk : ∀ (G' H' : GS) (v : Int32), eM a0 G' H' → cM a0 H0 H' → K G' v → K' H' v) (h : w_M_restart_69 t a0 K G) : w_M_restart_69 t a0 K' H := by
  unfold w_M_restart_69 at h ⊢
  have z1 := eM.simp e
  try simp (disch := omega) only [z1]
  refine and_lift h (fun h => ?_)
  refine all_lift h (fun H1 eH1 h => ?_)
  obtain ⟨G1, eG1⟩ : ∃ z, z = si G 73 a0 (0 : Int32) := ⟨_, rfl⟩
  rw [← eG1] at h
  have e2 : eM a0 G1 H1 := by rw [eG1, eH1]; exact eM.si e (by omega)
  have c3 : cM a0 H0 H1 := by rw [eH1]; exact cM.si c
  have kG1 : ∀ f a, ((70 ≤ f ∧ f ≤ 72) ∨ (79 ≤ f ∧ f ≤ 94) ∨ f = 96) → gr G f a0 = some a → gr G1 f a0 = some a := by intro f a _ z; rw [eG1]; exact z
  have z4 := eM.simp e2
  try simp (disch := omega) only [z4]
  exact hk _ _ _ e2 c3 h
set_option maxHeartbeats 4000000 in
theorem f_M_restart_58 {t : TY} {a0 : Nat} {G H H0 : GS} {K K' : GS → Int32 → Prop} (e : eM a0 G H) (c : cM a0 H0 H) (hk : ∀ (G' H' : GS) (v : Int32), eM a0 G' H' → cM a0 H0 H' → K G' v → K' H' v) (h : w_M_restart_58 t a0 K G) : w_M_restart_58 t a0 K' H := by
  unfold w_M_restart_58 at h ⊢
  have z1 := eM.simp e
  try simp (disch := omega) only [z1]
  refine and_lift h (fun h => ?_)
  refine ite_lift h (fun h => ?_) (fun h => ?_)
  · try simp (disch := omega) only [z1]
    exact f_M_restart_69 e c hk  h
  · try simp (disch := omega) only [z1]
    refine f_M_count e (fun G1 H1 e2 c3 h => ?_) h
    have c3 := (c).tr c3
    have z4 := eM.simp e2
    try simp (disch := omega) only [z4]
    exact f_M_restart_69 e2 c3 hk  h
set_option maxHeartbeats 4000000 in
theorem f_M_restart_33 {t : TY} {a0 : Nat} {G H H0 : GS} {K K' : GS → Int32 → Prop} (e : eM a0 G H) (c : cM a0 H0 H) (hk : ∀ (G' H' : GS) (v : Int32), eM a0 G' H' → cM a0 H0 H' → K G' v → K' H' v) : ∀ (n : Nat) {l1 : Int32}, w_M_restart_33 t a0 K n l1 G → w_M_restart_33 t a0 K' n l1 H := by
  intro n
  induction n generalizing G H with
  | zero => intro l1 h; exact h.elim
  | succ n ih =>
    intro l1 h
    have hr33 : ∀ (x0 : Int32) (G H : GS), eM a0 G H → cM a0 H0 H → w_M_restart_33 t a0 K n x0 G → w_M_restart_33 t a0 K' n x0 H := fun _ G H e c h => ih e c h
    unfold w_M_restart_33 at h ⊢
    have z1 := eM.simp e
    try simp (disch := omega) only [z1]
    try dsimp only at h ⊢
    refine ite_lift h (fun h => ?_) (fun h => ?_)
    · try simp (disch := omega) only [z1]
      exact f_M_restart_58 e c hk  h
    · try simp (disch := omega) only [z1]
      refine and_lift h (fun h => ?_)
      refine ex_lift h (fun a1 q2 h => ?_)
      try simp only [((e).2 72 a1 (by omega) q2).1, ((e).2 72 a1 (by omega) q2).2]
      refine and_lift h (fun h => ?_)
      refine and_lift h (fun h => ?_)
      refine ex_lift h (fun a2 q3 h => ?_)
      try simp only [((e).2 70 a2 (by omega) q3).1, ((e).2 70 a2 (by omega) q3).2]
      refine and_lift h (fun h => ?_)
      refine and_lift h (fun h => ?_)
      refine all_lift h (fun H3 eH3 h => ?_)
      obtain ⟨G3, eG3⟩ : ∃ z, z = ais G a2 l1.toNatClampNeg (ai G a1 l1.toNatClampNeg) := ⟨_, rfl⟩
      rw [← eG3] at h
      have e4 : eM a0 G3 H3 := by rw [eG3, eH3]; exact eM.ais e
      have c5 : cM a0 H0 H3 := by rw [eH3]; exact cM.ais c ⟨70, by omega, (((e).1 70 (by omega)).2.2).trans q3⟩
      have kG3 : ∀ f a, ((70 ≤ f ∧ f ≤ 72) ∨ (79 ≤ f ∧ f ≤ 94) ∨ f = 96) → gr G f a0 = some a → gr G3 f a0 = some a := by intro f a _ z; rw [eG3]; exact z
      have q6 := kG3 72 a1 (by omega) q2
      have q7 := kG3 70 a2 (by omega) q3
      have z8 := eM.simp e4
      try simp (disch := omega) only [z8]
      try simp only [((e4).2 72 a1 (by omega) q6).1, ((e4).2 72 a1 (by omega) q6).2, ((e4).2 70 a2 (by omega) q7).1, ((e4).2 70 a2 (by omega) q7).2]
      refine bind_lift h (fun v4 h => ?_)
      exact hr33 _ _ _ e4 c5 h
set_option maxHeartbeats 4000000 in
theorem f_M_restart {t : TY} {a0 : Nat} {G H : GS} {K K' : GS → Int32 → Prop} (e : eM a0 G H) (hk : ∀ (G' H' : GS) (v : Int32), eM a0 G' H' → cM a0 H H' → K G' v → K' H' v) (h : w_M_restart t G a0 K) : w_M_restart t H a0 K' := by
  obtain ⟨H0, eH0⟩ : ∃ z, z = H := ⟨_, rfl⟩
  have c : cM a0 H0 H := by rw [eH0]; exact cM.rf
  have hk : ∀ (G' H' : GS) (v : Int32), eM a0 G' H' → cM a0 H0 H' → K G' v → K' H' v := by rw [eH0]; exact hk
  unfold w_M_restart at h ⊢
  have z1 := eM.simp e
  try simp (disch := omega) only [z1]
  refine and_lift h (fun h => ?_)
  refine ite_lift h (fun h => ?_) (fun h => ?_)
  · try simp (disch := omega) only [z1]
    refine all_lift h (fun H1 eH1 h => ?_)
    obtain ⟨G1, eG1⟩ : ∃ z, z = si G 75 a0 (0 : Int32) := ⟨_, rfl⟩
    rw [← eG1] at h
    have e2 : eM a0 G1 H1 := by rw [eG1, eH1]; exact eM.si e (by omega)
    have c3 : cM a0 H0 H1 := by rw [eH1]; exact cM.si c
    have kG1 : ∀ f a, ((70 ≤ f ∧ f ≤ 72) ∨ (79 ≤ f ∧ f ≤ 94) ∨ f = 96) → gr G f a0 = some a → gr G1 f a0 = some a := by intro f a _ z; rw [eG1]; exact z
    have z4 := eM.simp e2
    try simp (disch := omega) only [z4]
    refine all_lift h (fun H2 eH2 h => ?_)
    obtain ⟨G2, eG2⟩ : ∃ z, z = si G1 77 a0 ((gi G1 77 a0) + (1 : Int32)) := ⟨_, rfl⟩
    rw [← eG2] at h
    have e5 : eM a0 G2 H2 := by rw [eG2, eH2]; exact eM.si e2 (by omega)
    have c6 : cM a0 H0 H2 := by rw [eH2]; exact cM.si c3
    have kG2 : ∀ f a, ((70 ≤ f ∧ f ≤ 72) ∨ (79 ≤ f ∧ f ≤ 94) ∨ f = 96) → gr G1 f a0 = some a → gr G2 f a0 = some a := by intro f a _ z; rw [eG2]; exact z
    have z7 := eM.simp e5
    try simp (disch := omega) only [z7]
    refine ite_lift h (fun h => ?_) (fun h => ?_)
    · try simp (disch := omega) only [z7]
      exact f_M_restart_58 e5 c6 hk  h
    · try simp (disch := omega) only [z7]
      obtain ⟨n, h⟩ := h
      refine ⟨n, ?_⟩
      exact f_M_restart_33 e5 c6 hk _  h
  · try simp (disch := omega) only [z1]
    exact hk _ _ _ e c h
set_option maxHeartbeats 4000000 in
theorem f_M_up {t : TY} {a0 : Nat} {G H : GS} {K K' : Int32 → Prop} (e : eM a0 G H) (hk : ∀ v : Int32, K v → K' v) (h : w_M_up t G a0 K) : w_M_up t H a0 K' := by
  skip
  skip
  skip
  unfold w_M_up at h ⊢
  have z1 := eM.simp e
  try simp (disch := omega) only [z1]
  refine and_lift h (fun h => ?_)
  refine ite_lift h (fun h => ?_) (fun h => ?_)
  · try simp (disch := omega) only [z1]
    exact hk _ h
  · try simp (disch := omega) only [z1]
    exact hk _ h
set_option maxHeartbeats 4000000 in
theorem f_M_nodes_4 {t : TY} {a0 : Nat} {G H : GS} {K K' : Int32 → Prop} (e : eM a0 G H) (hk : ∀ v : Int32, K v → K' v) : ∀ (n : Nat) {l1 : Int32} {l2 : Int32}, w_M_nodes_4 t G a0 K n l1 l2 → w_M_nodes_4 t H a0 K' n l1 l2 := by
  intro n
  induction n with
  | zero => intro l1 l2 h; exact h.elim
  | succ n ih =>
    intro l1 l2 h
    have hr4 : ∀ (x0 : Int32) (x1 : Int32), w_M_nodes_4 t G a0 K n x0 x1 → w_M_nodes_4 t H a0 K' n x0 x1 := fun _ _ h => ih h
    unfold w_M_nodes_4 at h ⊢
    have z1 := eM.simp e
    try simp (disch := omega) only [z1]
    try dsimp only at h ⊢
    refine ite_lift h (fun h => ?_) (fun h => ?_)
    · try simp (disch := omega) only [z1]
      exact hk _ h
    · try simp (disch := omega) only [z1]
      refine and_lift h (fun h => ?_)
      refine f_M_at e (fun v1 h => ?_) h
      refine bind_lift h (fun v2 h => ?_)
      refine bind_lift h (fun v3 h => ?_)
      exact hr4 _ _ h
set_option maxHeartbeats 4000000 in
theorem f_M_nodes {t : TY} {a0 : Nat} {G H : GS} {K K' : Int32 → Prop} (e : eM a0 G H) (hk : ∀ v : Int32, K v → K' v) (h : w_M_nodes t G a0 K) : w_M_nodes t H a0 K' := by
  skip
  skip
  skip
  unfold w_M_nodes at h ⊢
  have z1 := eM.simp e
  try simp (disch := omega) only [z1]
  obtain ⟨n, h⟩ := h
  refine ⟨n, ?_⟩
  exact f_M_nodes_4 e hk _  h
set_option maxHeartbeats 4000000 in
theorem f_M_free {t : TY} {a0 : Nat} {G H : GS} {K K' : Int32 → Prop} (e : eM a0 G H) (hk : ∀ v : Int32, K v → K' v) (h : w_M_free t G a0 K) : w_M_free t H a0 K' := by
  skip
  skip
  skip
  unfold w_M_free at h ⊢
  have z1 := eM.simp e
  try simp (disch := omega) only [z1]
  refine and_lift h (fun h => ?_)
  refine f_M_blocks e (fun v1 h => ?_) h
  exact hk _ h
set_option maxHeartbeats 4000000 in
theorem f_M_writes {t : TY} {a0 : Nat} {G H : GS} {K K' : Int32 → Prop} (e : eM a0 G H) (hk : ∀ v : Int32, K v → K' v) (h : w_M_writes t G a0 K) : w_M_writes t H a0 K' := by
  skip
  skip
  skip
  unfold w_M_writes at h ⊢
  have z1 := eM.simp e
  try simp (disch := omega) only [z1]
  refine and_lift h (fun h => ?_)
  exact hk _ h
