theorem ite_t {c : Prop} {i : Decidable c} {A B : Prop} (h : c) (w : @ite Prop c i A B) : A := by rw [if_pos h] at w; exact w
theorem ite_f {c : Prop} {i : Decidable c} {A B : Prop} (h : ¬ c) (w : @ite Prop c i A B) : B := by rw [if_neg h] at w; exact w
theorem cat_i (x : Int32) : (Value.int x).category = 1 := rfl
theorem cat_l (x : Int64) : (Value.long x).category = 2 := rfl
theorem cat_r (x : Nat) : (Value.ref x).category = 1 := rfl
