theorem TB {w : Cond} {i : Nat} (h : tables_1[i]? = some w) : w ∈ lw_tbl := List.mem_append_right _ (List.mem_of_getElem? h)
def sown (i : Nat) : String := (["TreeServer", "TreeServer", "TreeServer", "TreeServer", "TreeServer", "TreeServer", "TreeServer", "TreeServer", "TreeServer", "TreeServer", "TreeServer", "TreeServer", "TreeServer", "TreeServer", "TreeServer", "TreeServer", "TreeServer", "TreeServer", "TreeServer", "TreeServer", "TreeServer", "TreeServer", "TreeServer", "TreeServer", "TreeServer", "TreeServer", "TreeServer$User", "TreeServer$User", "TreeServer$User"] : List String).getD i ""
def sall (i : Nat) : Nat := ([168, 172, 174, 176, 184, 300, 309, 189, 315, 320, 328, 201, 215, 343, 368, 370, 376, 359, 523, 385, 403, 425, 429, 434, 485, 528, 37, 43, 46] : List Nat).getD i 0
def tmS (i : Nat) : Term := .string (sown i) (sall i)
set_option maxRecDepth 100000 in
theorem ss_ex : ∀ i, i < 29 → Cond.exactly (tmS i) "java/lang/String" ∈ flatC (Jvm.Cond.and given_1 narrow_1) := by decide +kernel
set_option maxRecDepth 100000 in
theorem ss_co : ∀ i, i < 29 → Cond.eq (.field (tmS i) "java/lang/String" "coder" "B") (.int 0) ∈ flatC (Jvm.Cond.and given_1 narrow_1) := by decide +kernel
set_option maxRecDepth 100000 in
theorem ss_ar : ∀ i, i < 29 → Cond.arrayOf (.field (tmS i) "java/lang/String" "value" "[B") .byte ∈ flatC (Jvm.Cond.and given_1 narrow_1) := by decide +kernel
set_option maxRecDepth 100000 in
theorem ss_le : ∀ i, i < 29 → Cond.eq (.length (.field (tmS i) "java/lang/String" "value" "[B")) (.int (Int32.ofNat (slens.getD i 0))) ∈ flatC (Jvm.Cond.and given_1 narrow_1) := by decide +kernel
set_option maxRecDepth 100000 in
theorem ss_el : ∀ i, i < 29 → ∀ j, j < slens.getD i 0 → Cond.eq (.elem (.field (tmS i) "java/lang/String" "value" "[B") (.int (Int32.ofNat j))) (.int ((sbyts.getD i []).getD j 0)) ∈ flatC (Jvm.Cond.and given_1 narrow_1) := by decide +kernel
theorem kS_of {args : Array Value} {s : State} {A : Nat → Prop} (h : ∀ c ∈ flatC (Jvm.Cond.and given_1 narrow_1), c.before args s = true) (hA : ∀ a : Nat, a < s.heap.size → ¬ A a) : ∃ adK adV : Nat → Nat, kS 29 slens sbyts adK adV A s s.heap ∧ ∀ i : Nat, i < 29 → (tmS i).eval args s none [] s = some (.ref (adK i)) := by
  have h0 : ∀ i : Nat, ∃ q : Nat × Nat, i < 29 → (tmS i).eval args s none [] s = some (.ref q.1) ∧ va_O "java/lang/String" q.1 A s s.heap ∧ va_OF "java/lang/String" "coder" "B" (.int 0) q.1 A s s.heap ∧ va_OF "java/lang/String" "value" "[B" (.ref q.2) q.1 A s s.heap ∧ va_T .byte q.2 (slens.getD i 0) (fun j => .int ((sbyts.getD i []).getD j 0)) A s s.heap := by
    intro i
    by_cases hi : i < 29
    · obtain ⟨a, c, cA, kA, q1, q2, q3, q4, q5, q6, -⟩ := Cond.exactly_spec (args := args) (first := s) (o := none) (s := s) (idx := []) (t := tmS i) (cls := "java/lang/String") (h _ (ss_ex i hi))
      obtain ⟨t, ht, hT⟩ := va_Tof (f := fun j => .int ((sbyts.getD i []).getD j 0)) (A := A) (slen_small i hi) (h _ (ss_ar i hi)) (va_eqt (h _ (ss_le i hi))) (fun j hj => va_eqt (h _ (ss_el i hi j hj))) hA
      exact ⟨(a, t), fun _ => ⟨q1, ⟨cA, q3, q5, by rw [q6]; exact q2, hA a (Array.getElem?_eq_some_iff.mp q3).1⟩, vk_OFof q1 (va_eqt (h _ (ss_co i hi))) hA, vk_OFof q1 ht hA, hT⟩⟩
    · exact ⟨(0, 0), fun h => absurd h hi⟩
  obtain ⟨ad, had⟩ := Classical.axiomOfChoice h0
  exact ⟨fun i => (ad i).1, fun i => (ad i).2, ⟨fun i hi => (had i hi).2, trivial⟩, fun i hi => (had i hi).1⟩
def nmU : List String := ["ANN", "BOB", "CY"]
set_option maxRecDepth 100000 in
theorem eU_ex : ∀ i, i < 3 → Cond.exactly (.static "TreeServer$User" (nmU.getD i "") "LTreeServer$User;") "TreeServer$User" ∈ flatC (Jvm.Cond.and given_1 narrow_1) := by decide +kernel
set_option maxRecDepth 100000 in
theorem eU_ne : ∀ i, i < 3 → ∀ j, j < 3 → i ≠ j → Cond.not (.eq (.static "TreeServer$User" (nmU.getD i "") "LTreeServer$User;") (.static "TreeServer$User" (nmU.getD j "") "LTreeServer$User;")) ∈ flatC (Jvm.Cond.and given_1 narrow_1) ∨ Cond.not (.eq (.static "TreeServer$User" (nmU.getD j "") "LTreeServer$User;") (.static "TreeServer$User" (nmU.getD i "") "LTreeServer$User;")) ∈ flatC (Jvm.Cond.and given_1 narrow_1) := by decide +kernel
set_option maxRecDepth 100000 in
theorem eU_ls : ∀ i, i < 3 → Cond.laysStatic "TreeServer$User" (nmU.getD i "") "LTreeServer$User;" ∈ tables_1 := by decide +kernel
theorem eU_of {args : Array Value} {s : State} {A : Nat → Prop} (h : ∀ c ∈ flatC (Jvm.Cond.and given_1 narrow_1), c.before args s = true) (hts : ∀ w ∈ lw_tbl, w.before args s = true) (hA : ∀ a : Nat, a < s.heap.size → ¬ A a) : ∃ ad : Nat → Nat, va_En "TreeServer$User" "LTreeServer$User;" ["ANN", "BOB", "CY"] [] ad A s s.heap ∧ ∀ i, i < 3 → (Term.static "TreeServer$User" (nmU.getD i "") "LTreeServer$User;").eval args s none [] s = some (.ref (ad i)) :=
  va_Enof2 (nm := ["ANN", "BOB", "CY"]) (F := []) (fun i hi => hts _ (List.mem_append_right _ (eU_ls i hi))) (hts _ (TB (w := (Jvm.Cond.initialized "TreeServer$User")) (i := 5) (by decide +kernel))) (fun i hi => h _ (eU_ex i hi)) (fun q hq => by cases hq) (fun i j hi hj hn => (eU_ne i hi j hj hn).elim (fun q => Or.inl (h _ q)) (fun q => Or.inr (h _ q))) hA
def nmK : List String := ["CREATE", "WRITE", "REMOVE", "ALTER"]
set_option maxRecDepth 100000 in
theorem eK_ex : ∀ i, i < 4 → Cond.exactly (.static "TreeServer$Kind" (nmK.getD i "") "LTreeServer$Kind;") "TreeServer$Kind" ∈ flatC (Jvm.Cond.and given_1 narrow_1) := by decide +kernel
set_option maxRecDepth 100000 in
theorem eK_ne : ∀ i, i < 4 → ∀ j, j < 4 → i ≠ j → Cond.not (.eq (.static "TreeServer$Kind" (nmK.getD i "") "LTreeServer$Kind;") (.static "TreeServer$Kind" (nmK.getD j "") "LTreeServer$Kind;")) ∈ flatC (Jvm.Cond.and given_1 narrow_1) ∨ Cond.not (.eq (.static "TreeServer$Kind" (nmK.getD j "") "LTreeServer$Kind;") (.static "TreeServer$Kind" (nmK.getD i "") "LTreeServer$Kind;")) ∈ flatC (Jvm.Cond.and given_1 narrow_1) := by decide +kernel
set_option maxRecDepth 100000 in
theorem eK_ls : ∀ i, i < 4 → Cond.laysStatic "TreeServer$Kind" (nmK.getD i "") "LTreeServer$Kind;" ∈ tables_1 := by decide +kernel
theorem eK_of {args : Array Value} {s : State} {A : Nat → Prop} (h : ∀ c ∈ flatC (Jvm.Cond.and given_1 narrow_1), c.before args s = true) (hts : ∀ w ∈ lw_tbl, w.before args s = true) (hA : ∀ a : Nat, a < s.heap.size → ¬ A a) : ∃ ad : Nat → Nat, va_En "TreeServer$Kind" "LTreeServer$Kind;" ["CREATE", "WRITE", "REMOVE", "ALTER"] [] ad A s s.heap ∧ ∀ i, i < 4 → (Term.static "TreeServer$Kind" (nmK.getD i "") "LTreeServer$Kind;").eval args s none [] s = some (.ref (ad i)) :=
  va_Enof2 (nm := ["CREATE", "WRITE", "REMOVE", "ALTER"]) (F := []) (fun i hi => hts _ (List.mem_append_right _ (eK_ls i hi))) (hts _ (TB (w := (Jvm.Cond.initialized "TreeServer$Kind")) (i := 8) (by decide +kernel))) (fun i hi => h _ (eK_ex i hi)) (fun q hq => by cases hq) (fun i j hi hj hn => (eK_ne i hi j hj hn).elim (fun q => Or.inl (h _ q)) (fun q => Or.inr (h _ q))) hA
set_option maxRecDepth 100000 in
theorem eT_eq : ∀ i, i < 3 → Cond.eq (.field (.static "TreeServer$User" (nmU.getD i "") "LTreeServer$User;") "TreeServer$User" "title" "Ljava/lang/String;") (tmS (26 + i)) ∈ flatC (Jvm.Cond.and given_1 narrow_1) := by decide +kernel
set_option maxRecDepth 100000 in
theorem eA_eq : ∀ i, i < 3 → Cond.eq (.elem (.static "TreeServer" "USERS" "[LTreeServer$User;") (.int (Int32.ofNat i))) (.static "TreeServer$User" (nmU.getD i "") "LTreeServer$User;") ∈ flatC (Jvm.Cond.and given_1 narrow_1) := by decide +kernel
set_option maxRecDepth 100000 in
theorem sR_ok : ∀ j, j < 26 → Cond.stringRef "TreeServer" (sidx j) (stxt j) ∈ tables_1 ∧ tmS j = .string "TreeServer" (sidx j) := by decide +kernel
set_option maxRecDepth 100000 in
theorem nest_ok : ∀ q ∈ nestL, Cond.methodLinkNest q.1 q.2.1 q.2.2 "TreeServer" ∈ tables_1 := by decide +kernel
theorem kK_of {args : Array Value} {s : State} (hts : ∀ w ∈ lw_tbl, w.before args s = true) : ∃ (D : va_G) (cA : Nat → ClassId), va_K D mcl [(cA 50, .int), (cA 51, .byte), (cA 52, .boolean), (cA 53, .long), (cA 54, .object "TreeServer$Node"), (cA 55, .object "TreeServer$Link"), (cA 56, .object "TreeServer$Fid")] s := by
  obtain ⟨c0, i0, k0⟩ := u_known (C := RK0) (T := TK0) (N := 13) (n := 13) hts inK0 (hts _ (TB (w := (Jvm.Cond.instantiable "TreeServer$Node" (13 : Nat))) (i := 35) (by decide +kernel)))
  obtain ⟨c1, i1, k1⟩ := u_known (C := RK1) (T := TK1) (N := 4) (n := 4) hts inK1 (hts _ (TB (w := (Jvm.Cond.instantiable "TreeServer$Tree" (4 : Nat))) (i := 29) (by decide +kernel)))
  obtain ⟨c2, i2, k2⟩ := u_known (C := RK2) (T := TK2) (N := 4) (n := 4) hts inK2 (hts _ (TB (w := (Jvm.Cond.instantiable "TreeServer$Log" (4 : Nat))) (i := 136) (by decide +kernel)))
  obtain ⟨c3, i3, k3⟩ := u_known (C := RK3) (T := TK3) (N := 15) (n := 15) hts inK3 (hts _ (TB (w := (Jvm.Cond.instantiable "TreeServer$Change" (15 : Nat))) (i := 159) (by decide +kernel)))
  obtain ⟨c4, i4, k4⟩ := u_known (C := RK4) (T := TK4) (N := 8) (n := 8) hts inK4 (hts _ (TB (w := (Jvm.Cond.instantiable "TreeServer$Message" (8 : Nat))) (i := 225) (by decide +kernel)))
  obtain ⟨c5, i5, k5⟩ := u_known (C := RK5) (T := TK5) (N := 2) (n := 2) hts inK5 (hts _ (TB (w := (Jvm.Cond.instantiable "TreeServer$Answer" (2 : Nat))) (i := 263) (by decide +kernel)))
  obtain ⟨c6, i6, k6⟩ := u_known (C := RK6) (T := TK6) (N := 9) (n := 9) hts inK6 (hts _ (TB (w := (Jvm.Cond.instantiable "TreeServer$Fid" (9 : Nat))) (i := 286) (by decide +kernel)))
  obtain ⟨c7, i7, k7⟩ := u_known (C := RK7) (T := TK7) (N := 8) (n := 8) hts inK7 (hts _ (TB (w := (Jvm.Cond.instantiable "TreeServer$Link" (8 : Nat))) (i := 277) (by decide +kernel)))
  obtain ⟨c8, i8, k8⟩ := u_known (C := RK8) (T := TK8) (N := 7) (n := 7) hts inK8 (hts _ (TB (w := (Jvm.Cond.instantiable "TreeServer" (7 : Nat))) (i := 21) (by decide +kernel)))
  obtain ⟨c9, i9, k9⟩ := u_known (C := RK9) (T := TK9) (N := 30) (n := 30) hts inK9 (hts _ (TB (w := (Jvm.Cond.instantiable "TreeServerModel" (30 : Nat))) (i := 980) (by decide +kernel)))
  obtain ⟨a50, x50, y50, f50, g50, h50⟩ := Cond.arrayClass_spec (args := args) (first := s) (o := none) (s := s) (idx := []) (type := .int) (hts _ (TB (w := (Jvm.Cond.arrayClass Jvm.ClassFile.FieldType.int)) (i := 261) (by decide +kernel)))
  obtain ⟨a51, x51, y51, f51, g51, h51⟩ := Cond.arrayClass_spec (args := args) (first := s) (o := none) (s := s) (idx := []) (type := .byte) (hts _ (TB (w := (Jvm.Cond.arrayClass Jvm.ClassFile.FieldType.byte)) (i := 116) (by decide +kernel)))
  obtain ⟨a52, x52, y52, f52, g52, h52⟩ := Cond.arrayClass_spec (args := args) (first := s) (o := none) (s := s) (idx := []) (type := .boolean) (hts _ (TB (w := (Jvm.Cond.arrayClass Jvm.ClassFile.FieldType.boolean)) (i := 1081) (by decide +kernel)))
  obtain ⟨a53, x53, y53, f53, g53, h53⟩ := Cond.arrayClass_spec (args := args) (first := s) (o := none) (s := s) (idx := []) (type := .long) (hts _ (TB (w := (Jvm.Cond.arrayClass Jvm.ClassFile.FieldType.long)) (i := 1082) (by decide +kernel)))
  obtain ⟨y54, a54, x54, e54, -, g54, h54, f54⟩ := Cond.arrayOver_spec (args := args) (first := s) (o := none) (s := s) (idx := []) (n := "TreeServer$Node") (hts _ (TB (w := (Jvm.Cond.arrayOver (Jvm.ClassFile.FieldType.object "TreeServer$Node"))) (i := 117) (by decide +kernel)))
  obtain ⟨y55, a55, x55, e55, -, g55, h55, f55⟩ := Cond.arrayOver_spec (args := args) (first := s) (o := none) (s := s) (idx := []) (n := "TreeServer$Link") (hts _ (TB (w := (Jvm.Cond.arrayOver (Jvm.ClassFile.FieldType.object "TreeServer$Link"))) (i := 276) (by decide +kernel)))
  obtain ⟨y56, a56, x56, e56, -, g56, h56, f56⟩ := Cond.arrayOver_spec (args := args) (first := s) (o := none) (s := s) (idx := []) (n := "TreeServer$Fid") (hts _ (TB (w := (Jvm.Cond.arrayOver (Jvm.ClassFile.FieldType.object "TreeServer$Fid"))) (i := 283) (by decide +kernel)))
  refine ⟨(fun c => [c0, c1, c2, c3, c4, c5, c6, c7, c8, c9].getD c 0, fun c => [i0, i1, i2, i3, i4, i5, i6, i7, i8, i9].getD c (fun _ => 0)), fun k => [a50, a51, a52, a53, a54, a55, a56].getD (k - 50) 0, fun c q hq => ?_, fun k q hk => ?_⟩
  · rcases c with _ | _ | _ | _ | _ | _ | _ | _ | _ | _ | c
    · obtain rfl := Option.some.inj hq
      exact k0
    · obtain rfl := Option.some.inj hq
      exact k1
    · obtain rfl := Option.some.inj hq
      exact k2
    · obtain rfl := Option.some.inj hq
      exact k3
    · obtain rfl := Option.some.inj hq
      exact k4
    · obtain rfl := Option.some.inj hq
      exact k5
    · obtain rfl := Option.some.inj hq
      exact k6
    · obtain rfl := Option.some.inj hq
      exact k7
    · obtain rfl := Option.some.inj hq
      exact k8
    · obtain rfl := Option.some.inj hq
      exact k9
    · cases hq
  · rcases k with _ | _ | _ | _ | _ | _ | _ | k
    · obtain rfl := Option.some.inj hk
      exact ⟨fun n z => ⟨fun k h => (by cases h), x50, g50, y50, h50⟩, f50⟩
    · obtain rfl := Option.some.inj hk
      exact ⟨fun n z => ⟨fun k h => (by cases h), x51, g51, y51, h51⟩, f51⟩
    · obtain rfl := Option.some.inj hk
      exact ⟨fun n z => ⟨fun k h => (by cases h), x52, g52, y52, h52⟩, f52⟩
    · obtain rfl := Option.some.inj hk
      exact ⟨fun n z => ⟨fun k h => (by cases h), x53, g53, y53, h53⟩, f53⟩
    · obtain rfl := Option.some.inj hk
      exact ⟨fun n z => ⟨fun k h => (by cases h), x54, g54, y54, h54⟩, x54, y54, g54, h54, e54, f54⟩
    · obtain rfl := Option.some.inj hk
      exact ⟨fun n z => ⟨fun k h => (by cases h), x55, g55, y55, h55⟩, x55, y55, g55, h55, e55, f55⟩
    · obtain rfl := Option.some.inj hk
      exact ⟨fun n z => ⟨fun k h => (by cases h), x56, g56, y56, h56⟩, x56, y56, g56, h56, e56, f56⟩
    · cases hk
/-- the types at the law's start: nothing of ours is there -/
def t00 (x : TC) : TY := (([], fun _ => 0, fun _ => 0, fun _ => (0, 0)), x)
set_option maxHeartbeats 4000000 in
theorem start_of {args : Array Value} {s : State} (hts : ∀ w ∈ lw_tbl, w.before args s = true) (h : ∀ c ∈ flatC (Jvm.Cond.and given_1 narrow_1), c.before args s = true) : ∃ x : TC, HK (t00 x) s ∧ tsz (t00 x) = s.heap.size := by
  have hA : ∀ a : Nat, a < s.heap.size → ¬ (fun q => s.heap.size ≤ q) a := fun a ha q => absurd ha (Nat.not_lt.mpr q)
  obtain ⟨D, cA, hK⟩ := kK_of hts
  obtain ⟨adK, adV, hS, hSe⟩ := kS_of (A := fun q => s.heap.size ≤ q) h hA
  obtain ⟨uA, hU, hUe⟩ := eU_of (A := fun q => s.heap.size ≤ q) h hts hA
  obtain ⟨kA, hKd, hKe⟩ := eK_of (A := fun q => s.heap.size ≤ q) h hts hA
  obtain ⟨us, hus, hT⟩ := va_Tof (args := args) (s := s) (tm := .static "TreeServer" "USERS" "[LTreeServer$User;") (ty := .object "TreeServer$User") (N := 3) (f := fun i => .ref (uA i)) (A := fun q => s.heap.size ≤ q) (by decide) (h _ (by decide +kernel)) (va_eqt (h _ (by decide +kernel))) (fun j hj => va_eqv (h _ (eA_eq j hj)) (hUe j hj)) hA
  obtain ⟨v, hv, hr⟩ := Cond.isRef_spec (args := args) (first := s) (o := none) (s := s) (idx := []) (t := .static "jdk/internal/util/Preconditions" "SIOOBE_FORMATTER" "Ljava/util/function/BiFunction;") (h _ (by decide +kernel))
  refine ⟨((adK, adV, fun i => if i < 3 then uA i else kA (i - 3), us), (D, cA), s.heap.size), ⟨hK, ⟨fun a ha => absurd rfl ha, Nat.le_refl _⟩, ?_, ?_, ?_, hS, ?_, ⟨?_, ?_, ?_⟩, ?_, ?_, ⟨?_, ?_, ?_⟩, ?_⟩, rfl⟩
  · refine ⟨fun i hi => ?_, fun i j hi hj e => ?_⟩
    · have := hU.1 i hi
      have e : tad (t00 ((adK, adV, fun i => if i < 3 then uA i else kA (i - 3), us), (D, cA), s.heap.size)) i = uA i := if_pos hi
      rw [e]; exact this
    · have e1 : tad (t00 ((adK, adV, fun i => if i < 3 then uA i else kA (i - 3), us), (D, cA), s.heap.size)) i = uA i := if_pos hi
      have e2 : tad (t00 ((adK, adV, fun i => if i < 3 then uA i else kA (i - 3), us), (D, cA), s.heap.size)) j = uA j := if_pos hj
      rw [e1, e2] at e
      exact hU.2 i j hi hj e
  · refine ⟨fun i hi => ?_, fun i j hi hj e => ?_⟩
    · have := hKd.1 i hi
      have e : tad (t00 ((adK, adV, fun i => if i < 3 then uA i else kA (i - 3), us), (D, cA), s.heap.size)) (i + 3) = kA i := by
        show (if i + 3 < 3 then uA (i + 3) else kA (i + 3 - 3)) = kA i
        rw [if_neg (by omega), Nat.add_sub_cancel]
      show va_Z _ _ _ (.ref (tad _ (i + 3))) _ _ _ ∧ va_O _ (tad _ (i + 3)) _ _ _ ∧ _
      rw [e]; exact ⟨this.1, this.2.1, fun q hq => by cases hq⟩
    · have e1 : tad (t00 ((adK, adV, fun i => if i < 3 then uA i else kA (i - 3), us), (D, cA), s.heap.size)) (i + 3) = kA i := by
        show (if i + 3 < 3 then uA (i + 3) else kA (i + 3 - 3)) = kA i
        rw [if_neg (by omega), Nat.add_sub_cancel]
      have e2 : tad (t00 ((adK, adV, fun i => if i < 3 then uA i else kA (i - 3), us), (D, cA), s.heap.size)) (j + 3) = kA j := by
        show (if j + 3 < 3 then uA (j + 3) else kA (j + 3 - 3)) = kA j
        rw [if_neg (by omega), Nat.add_sub_cancel]
      have e : tad (t00 ((adK, adV, fun i => if i < 3 then uA i else kA (i - 3), us), (D, cA), s.heap.size)) (i + 3) = tad (t00 ((adK, adV, fun i => if i < 3 then uA i else kA (i - 3), us), (D, cA), s.heap.size)) (j + 3) := e
      rw [e1, e2] at e
      exact hKd.2 i j hi hj e
  · intro i hi
    have e : tad (t00 ((adK, adV, fun i => if i < 3 then uA i else kA (i - 3), us), (D, cA), s.heap.size)) i = uA i := if_pos hi
    rw [e]
    exact vk_OFof (hUe i hi) (va_eqv (h _ (eT_eq i hi)) (hSe (26 + i) (by omega))) hA
  · intro j hj
    have q := sR_ok j hj
    exact vk_R.of (hts _ (List.mem_append_right _ q.1)) (by rw [← q.2]; exact hSe j (by omega))
  · exact va_Zref (hts _ (TB (w := (Jvm.Cond.laysStatic "TreeServer" "USERS" "[LTreeServer$User;")) (i := 669) (by decide +kernel))) (hts _ (TB (w := (Jvm.Cond.initialized "TreeServer")) (i := 1) (by decide +kernel))) hus hA
  · obtain ⟨cell, h1, h2, h3, h4, h5, h6, h7⟩ := hT
    refine ⟨cell, h1, h2, h3, h4, h5, fun j hj => ?_, h7⟩
    have e : tad (t00 ((adK, adV, fun i => if i < 3 then uA i else kA (i - 3), us), (D, cA), s.heap.size)) j = uA j := if_pos hj
    show cell.slots[j]? = some (.ref (tad _ j))
    rw [e]; exact h6 j hj
  · exact va_Nw.of rfl (hts _ (TB (w := (Jvm.Cond.fieldLinkNest "TreeServer$Message" (93 : Nat) "TreeServer" "USERS" "[LTreeServer$User;" "TreeServer")) (i := 668) (by decide +kernel)))
  · exact va_Zof (hts _ (TB (w := (Jvm.Cond.laysStatic "java/lang/String" "COMPACT_STRINGS" "Z")) (i := 601) (by decide +kernel))) (hts _ (TB (w := (Jvm.Cond.initialized "java/lang/String")) (i := 16) (by decide +kernel))) (va_eqi (h _ (by decide +kernel))) hA
  · cases v with
    | null => exact ⟨none, va_Zof (hts _ (TB (w := (Jvm.Cond.laysStatic "jdk/internal/util/Preconditions" "SIOOBE_FORMATTER" "Ljava/util/function/BiFunction;")) (i := 617) (by decide +kernel))) (hts _ (TB (w := (Jvm.Cond.initialized "jdk/internal/util/Preconditions")) (i := 18) (by decide +kernel))) hv hA⟩
    | ref a => exact ⟨some a, va_Zof (hts _ (TB (w := (Jvm.Cond.laysStatic "jdk/internal/util/Preconditions" "SIOOBE_FORMATTER" "Ljava/util/function/BiFunction;")) (i := 617) (by decide +kernel))) (hts _ (TB (w := (Jvm.Cond.initialized "jdk/internal/util/Preconditions")) (i := 18) (by decide +kernel))) hv hA⟩
    | _ => cases hr
  · exact va_AO.of (hts _ (TB (w := (Jvm.Cond.arrayOver (Jvm.ClassFile.FieldType.object "TreeServer$Node"))) (i := 117) (by decide +kernel)))
  · exact va_AO.of (hts _ (TB (w := (Jvm.Cond.arrayOver (Jvm.ClassFile.FieldType.object "TreeServer$Link"))) (i := 276) (by decide +kernel)))
  · exact va_AO.of (hts _ (TB (w := (Jvm.Cond.arrayOver (Jvm.ClassFile.FieldType.object "TreeServer$Fid"))) (i := 283) (by decide +kernel)))
  · exact fun q hq => va_Nw.of rfl (hts _ (List.mem_append_right _ (nest_ok q hq)))
