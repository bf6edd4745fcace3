theorem u2_eq {α : Type} (F : Nat → Nat → α) (f a : Nat) (x : α) (g b : Nat) : u2 F f a x g b = if g = f ∧ b = a then x else F g b := rfl
/-- what a place holds behind a write -/
theorem GS_ : (∀ (G : GS) (f a : Nat) (x : Int32) (g b : Nat), gi (si G f a x) g b = if g = f ∧ b = a then x else gi G g b)
  ∧ (∀ (G : GS) (f a : Nat) (x : Int64) (g b : Nat), gi (sl G f a x) g b = gi G g b)
  ∧ (∀ (G : GS) (f a : Nat) (x : Option Nat) (g b : Nat), gi (sr G f a x) g b = gi G g b)
  ∧ (∀ (G : GS) (a j : Nat) (x : Int32) (g b : Nat), gi (ais G a j x) g b = gi G g b)
  ∧ (∀ (G : GS) (a j : Nat) (x : Int64) (g b : Nat), gi (als G a j x) g b = gi G g b)
  ∧ (∀ (G : GS) (a j : Nat) (x : Option Nat) (g b : Nat), gi (ars G a j x) g b = gi G g b)
  ∧ (∀ (G : GS) (f a : Nat) (x : Int32) (g b : Nat), gl (si G f a x) g b = gl G g b)
  ∧ (∀ (G : GS) (f a : Nat) (x : Int64) (g b : Nat), gl (sl G f a x) g b = if g = f ∧ b = a then x else gl G g b)
  ∧ (∀ (G : GS) (f a : Nat) (x : Option Nat) (g b : Nat), gl (sr G f a x) g b = gl G g b)
  ∧ (∀ (G : GS) (a j : Nat) (x : Int32) (g b : Nat), gl (ais G a j x) g b = gl G g b)
  ∧ (∀ (G : GS) (a j : Nat) (x : Int64) (g b : Nat), gl (als G a j x) g b = gl G g b)
  ∧ (∀ (G : GS) (a j : Nat) (x : Option Nat) (g b : Nat), gl (ars G a j x) g b = gl G g b)
  ∧ (∀ (G : GS) (f a : Nat) (x : Int32) (g b : Nat), gr (si G f a x) g b = gr G g b)
  ∧ (∀ (G : GS) (f a : Nat) (x : Int64) (g b : Nat), gr (sl G f a x) g b = gr G g b)
  ∧ (∀ (G : GS) (f a : Nat) (x : Option Nat) (g b : Nat), gr (sr G f a x) g b = if g = f ∧ b = a then x else gr G g b)
  ∧ (∀ (G : GS) (a j : Nat) (x : Int32) (g b : Nat), gr (ais G a j x) g b = gr G g b)
  ∧ (∀ (G : GS) (a j : Nat) (x : Int64) (g b : Nat), gr (als G a j x) g b = gr G g b)
  ∧ (∀ (G : GS) (a j : Nat) (x : Option Nat) (g b : Nat), gr (ars G a j x) g b = gr G g b)
  ∧ (∀ (G : GS) (f a : Nat) (x : Int32) (g b : Nat), ai (si G f a x) g b = ai G g b)
  ∧ (∀ (G : GS) (f a : Nat) (x : Int64) (g b : Nat), ai (sl G f a x) g b = ai G g b)
  ∧ (∀ (G : GS) (f a : Nat) (x : Option Nat) (g b : Nat), ai (sr G f a x) g b = ai G g b)
  ∧ (∀ (G : GS) (a j : Nat) (x : Int32) (g b : Nat), ai (ais G a j x) g b = if g = a ∧ b = j then x else ai G g b)
  ∧ (∀ (G : GS) (a j : Nat) (x : Int64) (g b : Nat), ai (als G a j x) g b = ai G g b)
  ∧ (∀ (G : GS) (a j : Nat) (x : Option Nat) (g b : Nat), ai (ars G a j x) g b = ai G g b)
  ∧ (∀ (G : GS) (f a : Nat) (x : Int32) (g b : Nat), al (si G f a x) g b = al G g b)
  ∧ (∀ (G : GS) (f a : Nat) (x : Int64) (g b : Nat), al (sl G f a x) g b = al G g b)
  ∧ (∀ (G : GS) (f a : Nat) (x : Option Nat) (g b : Nat), al (sr G f a x) g b = al G g b)
  ∧ (∀ (G : GS) (a j : Nat) (x : Int32) (g b : Nat), al (ais G a j x) g b = al G g b)
  ∧ (∀ (G : GS) (a j : Nat) (x : Int64) (g b : Nat), al (als G a j x) g b = if g = a ∧ b = j then x else al G g b)
  ∧ (∀ (G : GS) (a j : Nat) (x : Option Nat) (g b : Nat), al (ars G a j x) g b = al G g b)
  ∧ (∀ (G : GS) (f a : Nat) (x : Int32) (g b : Nat), ar (si G f a x) g b = ar G g b)
  ∧ (∀ (G : GS) (f a : Nat) (x : Int64) (g b : Nat), ar (sl G f a x) g b = ar G g b)
  ∧ (∀ (G : GS) (f a : Nat) (x : Option Nat) (g b : Nat), ar (sr G f a x) g b = ar G g b)
  ∧ (∀ (G : GS) (a j : Nat) (x : Int32) (g b : Nat), ar (ais G a j x) g b = ar G g b)
  ∧ (∀ (G : GS) (a j : Nat) (x : Int64) (g b : Nat), ar (als G a j x) g b = ar G g b)
  ∧ (∀ (G : GS) (a j : Nat) (x : Option Nat) (g b : Nat), ar (ars G a j x) g b = if g = a ∧ b = j then x else ar G g b) :=
  ⟨fun _ _ _ _ _ _ => rfl, fun _ _ _ _ _ _ => rfl, fun _ _ _ _ _ _ => rfl, fun _ _ _ _ _ _ => rfl, fun _ _ _ _ _ _ => rfl, fun _ _ _ _ _ _ => rfl, fun _ _ _ _ _ _ => rfl, fun _ _ _ _ _ _ => rfl, fun _ _ _ _ _ _ => rfl, fun _ _ _ _ _ _ => rfl, fun _ _ _ _ _ _ => rfl, fun _ _ _ _ _ _ => rfl, fun _ _ _ _ _ _ => rfl, fun _ _ _ _ _ _ => rfl, fun _ _ _ _ _ _ => rfl, fun _ _ _ _ _ _ => rfl, fun _ _ _ _ _ _ => rfl, fun _ _ _ _ _ _ => rfl, fun _ _ _ _ _ _ => rfl, fun _ _ _ _ _ _ => rfl, fun _ _ _ _ _ _ => rfl, fun _ _ _ _ _ _ => rfl, fun _ _ _ _ _ _ => rfl, fun _ _ _ _ _ _ => rfl, fun _ _ _ _ _ _ => rfl, fun _ _ _ _ _ _ => rfl, fun _ _ _ _ _ _ => rfl, fun _ _ _ _ _ _ => rfl, fun _ _ _ _ _ _ => rfl, fun _ _ _ _ _ _ => rfl, fun _ _ _ _ _ _ => rfl, fun _ _ _ _ _ _ => rfl, fun _ _ _ _ _ _ => rfl, fun _ _ _ _ _ _ => rfl, fun _ _ _ _ _ _ => rfl, fun _ _ _ _ _ _ => rfl⟩
theorem iT {c : Prop} {i : Decidable c} {A B : Prop} (h : c) (a : A) : @ite Prop c i A B := by rw [if_pos h]; exact a
theorem iF {c : Prop} {i : Decidable c} {A B : Prop} (h : ¬ c) (b : B) : @ite Prop c i A B := by rw [if_neg h]; exact b
theorem iS {c : Prop} {i : Decidable c} {A B : Prop} (h : (c → A) ∧ (¬ c → B)) : @ite Prop c i A B := by
  by_cases q : c
  · rw [if_pos q]; exact h.1 q
  · rw [if_neg q]; exact h.2 q
theorem iN {c : Prop} {i : Decidable (¬ c)} {A B : Prop} (h : (c → B) ∧ (¬ c → A)) : @ite Prop (¬ c) i A B := by
  by_cases q : c
  · rw [if_neg (not_not_intro q)]; exact h.1 q
  · rw [if_pos q]; exact h.2 q
theorem gi_ne {G : GS} {f g a b : Nat} {x : Int32} (h : g ≠ f) : gi (si G f a x) g b = gi G g b := if_neg (fun q => h q.1)
theorem gi_na {G : GS} {f g a b : Nat} {x : Int32} (h : b ≠ a) : gi (si G f a x) g b = gi G g b := if_neg (fun q => h q.2)
theorem gi_at {G : GS} {f a : Nat} {x : Int32} : gi (si G f a x) f a = x := if_pos ⟨rfl, rfl⟩
theorem gl_ne {G : GS} {f g a b : Nat} {x : Int64} (h : g ≠ f) : gl (sl G f a x) g b = gl G g b := if_neg (fun q => h q.1)
theorem gl_na {G : GS} {f g a b : Nat} {x : Int64} (h : b ≠ a) : gl (sl G f a x) g b = gl G g b := if_neg (fun q => h q.2)
theorem gl_at {G : GS} {f a : Nat} {x : Int64} : gl (sl G f a x) f a = x := if_pos ⟨rfl, rfl⟩
theorem gr_ne {G : GS} {f g a b : Nat} {x : Option Nat} (h : g ≠ f) : gr (sr G f a x) g b = gr G g b := if_neg (fun q => h q.1)
theorem gr_na {G : GS} {f g a b : Nat} {x : Option Nat} (h : b ≠ a) : gr (sr G f a x) g b = gr G g b := if_neg (fun q => h q.2)
theorem gr_at {G : GS} {f a : Nat} {x : Option Nat} : gr (sr G f a x) f a = x := if_pos ⟨rfl, rfl⟩
theorem ai_na {G : GS} {a b j k : Nat} {x : Int32} (h : b ≠ a) : ai (ais G a j x) b k = ai G b k := if_neg (fun q => h q.1)
theorem ai_nb {G : GS} {a b j : Nat} {x : Int32} (h : b ≠ a) : ai (ais G a j x) b = ai G b := funext fun _ => if_neg (fun q => h q.1)
theorem ai_nj {G : GS} {a b j k : Nat} {x : Int32} (h : k ≠ j) : ai (ais G a j x) b k = ai G b k := if_neg (fun q => h q.2)
theorem ai_at {G : GS} {a j : Nat} {x : Int32} : ai (ais G a j x) a j = x := if_pos ⟨rfl, rfl⟩
theorem al_nb {G : GS} {a b j : Nat} {x : Int64} (h : b ≠ a) : al (als G a j x) b = al G b := funext fun _ => if_neg (fun q => h q.1)
theorem al_nj {G : GS} {a b j k : Nat} {x : Int64} (h : k ≠ j) : al (als G a j x) b k = al G b k := if_neg (fun q => h q.2)
theorem al_at {G : GS} {a j : Nat} {x : Int64} : al (als G a j x) a j = x := if_pos ⟨rfl, rfl⟩
theorem ar_nb {G : GS} {a b j : Nat} {x : Option Nat} (h : b ≠ a) : ar (ars G a j x) b = ar G b := funext fun _ => if_neg (fun q => h q.1)
theorem ar_nj {G : GS} {a b j k : Nat} {x : Option Nat} (h : k ≠ j) : ar (ars G a j x) b k = ar G b k := if_neg (fun q => h q.2)
theorem ar_at {G : GS} {a j : Nat} {x : Option Nat} : ar (ars G a j x) a j = x := if_pos ⟨rfl, rfl⟩
