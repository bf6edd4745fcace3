theorem ite_t {c : Prop} {i : Decidable c} {A B : Prop} (h : c) (w : @ite Prop c i A B) : A := by rw [if_pos h] at w; exact w
theorem ite_f {c : Prop} {i : Decidable c} {A B : Prop} (h : ¬ c) (w : @ite Prop c i A B) : B := by rw [if_neg h] at w; exact w
