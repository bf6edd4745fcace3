/-! which messages are well formed (by hand) -/
def kn (x : Int32) : Int32 := if x = 100 then 1 else if x = 102 then 1 else if x = 104 then 1 else if x = 108 then 1 else if x < 110 then 0 else if 126 < x then 0 else if ¬ (x - x / 2 * 2) = 0 then 0 else 1
theorem kn_01 (x : Int32) : kn x = 0 ∨ kn x = 1 := by
  unfold kn
  repeat' split
  all_goals first | exact Or.inl rfl | exact Or.inr rfl
theorem kn_1 : ∀ a, a < 256 → kn (nI a) = 1 → a = 100 ∨ a = 102 ∨ a = 104 ∨ a = 108 ∨ a = 110 ∨ a = 112 ∨ a = 114 ∨ a = 116 ∨ a = 118 ∨ a = 120 ∨ a = 122 ∨ a = 124 ∨ a = 126 := by decide +kernel
def wfm (f : Nat → Nat) (z : Nat) : Prop := if f 4 = 100 then tp f 11 1 = z else if f 4 = 102 then tp f 11 2 = z else if f 4 = 104 then tp f 15 2 = z else if f 4 = 108 then z = 9 else if f 4 = 110 then nm f 15 2 ≤ 4 ∧ tp f 17 (nm f 15 2) = z else if f 4 = 112 then z = 12 else if f 4 = 114 then tp f 11 1 + 5 = z else if f 4 = 116 then z = 23 else if f 4 = 118 then nm f 19 4 + 23 = z else if f 4 = 126 then nm f 11 2 + 13 = z ∧ nm f 13 2 + 15 = z ∧ tp f 54 4 = z else z = 11
section WF
variable {f : Nat → Nat} {z : Nat}
theorem wf100 (e : f 4 = 100) : wfm f z ↔ tp f 11 1 = z := by unfold wfm; rw [if_pos e]
theorem wf102 (e : f 4 = 102) : wfm f z ↔ tp f 11 2 = z := by unfold wfm; rw [if_neg (by rw [e]; decide), if_pos e]
theorem wf104 (e : f 4 = 104) : wfm f z ↔ tp f 15 2 = z := by unfold wfm; rw [if_neg (by rw [e]; decide), if_neg (by rw [e]; decide), if_pos e]
theorem wf108 (e : f 4 = 108) : wfm f z ↔ z = 9 := by unfold wfm; rw [if_neg (by rw [e]; decide), if_neg (by rw [e]; decide), if_neg (by rw [e]; decide), if_pos e]
theorem wf110 (e : f 4 = 110) : wfm f z ↔ (nm f 15 2 ≤ 4 ∧ tp f 17 (nm f 15 2) = z) := by unfold wfm; rw [if_neg (by rw [e]; decide), if_neg (by rw [e]; decide), if_neg (by rw [e]; decide), if_neg (by rw [e]; decide), if_pos e]
theorem wf112 (e : f 4 = 112) : wfm f z ↔ z = 12 := by unfold wfm; rw [if_neg (by rw [e]; decide), if_neg (by rw [e]; decide), if_neg (by rw [e]; decide), if_neg (by rw [e]; decide), if_neg (by rw [e]; decide), if_pos e]
theorem wf114 (e : f 4 = 114) : wfm f z ↔ tp f 11 1 + 5 = z := by unfold wfm; rw [if_neg (by rw [e]; decide), if_neg (by rw [e]; decide), if_neg (by rw [e]; decide), if_neg (by rw [e]; decide), if_neg (by rw [e]; decide), if_neg (by rw [e]; decide), if_pos e]
theorem wf116 (e : f 4 = 116) : wfm f z ↔ z = 23 := by unfold wfm; rw [if_neg (by rw [e]; decide), if_neg (by rw [e]; decide), if_neg (by rw [e]; decide), if_neg (by rw [e]; decide), if_neg (by rw [e]; decide), if_neg (by rw [e]; decide), if_neg (by rw [e]; decide), if_pos e]
theorem wf118 (e : f 4 = 118) : wfm f z ↔ nm f 19 4 + 23 = z := by unfold wfm; rw [if_neg (by rw [e]; decide), if_neg (by rw [e]; decide), if_neg (by rw [e]; decide), if_neg (by rw [e]; decide), if_neg (by rw [e]; decide), if_neg (by rw [e]; decide), if_neg (by rw [e]; decide), if_neg (by rw [e]; decide), if_pos e]
theorem wf120 (e : f 4 = 120) : wfm f z ↔ z = 11 := by unfold wfm; rw [if_neg (by rw [e]; decide), if_neg (by rw [e]; decide), if_neg (by rw [e]; decide), if_neg (by rw [e]; decide), if_neg (by rw [e]; decide), if_neg (by rw [e]; decide), if_neg (by rw [e]; decide), if_neg (by rw [e]; decide), if_neg (by rw [e]; decide), if_neg (by rw [e]; decide)]
theorem wf122 (e : f 4 = 122) : wfm f z ↔ z = 11 := by unfold wfm; rw [if_neg (by rw [e]; decide), if_neg (by rw [e]; decide), if_neg (by rw [e]; decide), if_neg (by rw [e]; decide), if_neg (by rw [e]; decide), if_neg (by rw [e]; decide), if_neg (by rw [e]; decide), if_neg (by rw [e]; decide), if_neg (by rw [e]; decide), if_neg (by rw [e]; decide)]
theorem wf124 (e : f 4 = 124) : wfm f z ↔ z = 11 := by unfold wfm; rw [if_neg (by rw [e]; decide), if_neg (by rw [e]; decide), if_neg (by rw [e]; decide), if_neg (by rw [e]; decide), if_neg (by rw [e]; decide), if_neg (by rw [e]; decide), if_neg (by rw [e]; decide), if_neg (by rw [e]; decide), if_neg (by rw [e]; decide), if_neg (by rw [e]; decide)]
theorem wf126 (e : f 4 = 126) : wfm f z ↔ (nm f 11 2 + 13 = z ∧ nm f 13 2 + 15 = z ∧ tp f 54 4 = z) := by unfold wfm; rw [if_neg (by rw [e]; decide), if_neg (by rw [e]; decide), if_neg (by rw [e]; decide), if_neg (by rw [e]; decide), if_neg (by rw [e]; decide), if_neg (by rw [e]; decide), if_neg (by rw [e]; decide), if_neg (by rw [e]; decide), if_neg (by rw [e]; decide), if_pos e]
end WF
/-- where the texts begin and how many they are -/
def txP (f : Nat → Nat) : Nat := if f 4 = 104 then 15 else if f 4 = 110 then 17 else if f 4 = 126 then 54 else 11
def txN (f : Nat → Nat) : Nat := if f 4 = 100 ∨ f 4 = 114 then 1 else if f 4 = 110 then nm f 15 2 else if f 4 = 126 then 4 else 2
def txH (f : Nat → Nat) : Prop := f 4 = 100 ∨ f 4 = 102 ∨ f 4 = 104 ∨ f 4 = 110 ∨ f 4 = 114 ∨ f 4 = 126
/-- only the texts differ -/
def xT (y : LYT) (G G' : GS) : Prop := xC y G G' ∧ (∀ f a, f ≤ 41 ∨ 44 ≤ f → gi G' f a = gi G f a) ∧ ai G' (y 19 0) = ai G (y 19 0) ∧ ai G' (y 22 0) = ai G (y 22 0)
theorem sub_eq {a z d : Nat} (ha : a < 2 ^ 62) (hz : z < 2 ^ 30) (hd : d < 2 ^ 30) : lN a = (nI z - nI d).toInt64 ↔ a + d = z := by
  have e1 : (lN a).toInt = (a : Int) := pk_lT (by omega)
  have e2 : ((nI z - nI d).toInt64).toInt = (z : Int) - d := by rw [Int32.toInt_toInt64, pk_sub_toInt hz hd]
  constructor
  · intro h
    rw [h, e2] at e1
    omega
  · intro h
    apply Int64.toInt_inj.mp
    rw [e1, e2]
    omega
section FORMED
variable {t : TY} {y : LYT} {G m : GS}
theorem xT.rf : xT y G G := ⟨xC.rf, fun _ _ _ => rfl, rfl, rfl⟩
theorem spS_xT (hs : SH t y) {f : Nat → Nat} {p c : Nat} : xT y G (spS y G f p c) := ⟨spS_x, fun g a h => by unfold spS; rw [gi_ne (by omega), gi_ne (by omega)]; rfl, by
  show ai (spI y G f p c) (y 19 0) = _
  unfold spI; rw [aw_ne (hs.ne (by omega)), aw_ne (hs.ne (by omega))], by
  show ai (spI y G f p c) (y 22 0) = _
  unfold spI; rw [aw_ne (hs.ne (by omega)), aw_ne (hs.ne (by omega))]⟩
theorem S_known (hs : SH t y) {K : Int32 → Prop} (k : K (kn (gi G 38 (y 8 0)))) : w_Message_hasKnownType t G (y 8 0) K := by
  refine ⟨hs.k 8 0, ?_⟩
  unfold kn at k
  generalize gi G 38 (y 8 0) = x at k ⊢
  by_cases a1 : x = 100
  · rw [if_pos a1] at k; exact iT a1 k
  refine iF a1 ?_; rw [if_neg a1] at k
  by_cases a2 : x = 102
  · rw [if_pos a2] at k; exact iT a2 k
  refine iF a2 ?_; rw [if_neg a2] at k
  by_cases a3 : x = 104
  · rw [if_pos a3] at k; exact iT a3 k
  refine iF a3 ?_; rw [if_neg a3] at k
  by_cases a4 : x = 108
  · rw [if_pos a4] at k; exact iF (fun q => q a4) k
  refine iT a4 ?_; rw [if_neg a4] at k
  by_cases a5 : x < 110
  · rw [if_pos a5] at k; exact iT a5 k
  refine iF a5 ?_; rw [if_neg a5] at k
  by_cases a6 : 126 < x
  · rw [if_pos a6] at k; exact iT a6 k
  refine iF a6 ?_; rw [if_neg a6] at k
  by_cases a7 : ¬ (x - x / 2 * 2) = 0
  · rw [if_pos a7] at k; exact iT a7 k
  · rw [if_neg a7] at k; exact iF a7 k
theorem M_known {x : Int32} {K : Int32 → Prop} (k : K (kn x)) : w_M_isType t m x K := by
  unfold kn at k
  unfold w_M_isType
  by_cases a1 : x = 100
  · rw [if_pos a1] at k; exact iT a1 k
  refine iF a1 ?_; rw [if_neg a1] at k
  by_cases a2 : x = 102
  · rw [if_pos a2] at k; exact iT a2 k
  refine iF a2 ?_; rw [if_neg a2] at k
  by_cases a3 : x = 104
  · rw [if_pos a3] at k; exact iT a3 k
  refine iF a3 ?_; rw [if_neg a3] at k
  by_cases a4 : x = 108
  · rw [if_pos a4] at k; exact iT a4 k
  refine iF a4 ?_; rw [if_neg a4] at k
  by_cases a5 : x < 110
  · rw [if_pos a5] at k; exact iT a5 k
  refine iF a5 ?_; rw [if_neg a5] at k
  by_cases a6 : 126 < x
  · rw [if_pos a6] at k; exact iT a6 k
  refine iF a6 ?_; rw [if_neg a6] at k
  by_cases a7 : ¬ (x - x / 2 * 2) = 0
  · rw [if_pos a7] at k; exact iT a7 k
  · rw [if_neg a7] at k; exact iF a7 k
/-- what the class finds of the form -/
def FmS (t : TY) (y : LYT) (G : GS) (f : Nat → Nat) (z : Nat) : Prop := ∃ G' v, xT y G G' ∧ (wfm f z → v = (1 : Int32) ∧ (txH f → TxC y G' f (txP f) (txN f))) ∧ (¬ wfm f z → v = 0) ∧ ∀ K : GS → Int32 → Prop, K G' v → w_Message_isWellFormed t G (y 8 0) K
theorem S_formed (hs : SH t y) (hz : FZ y G) {z : Nat} {f : Nat → Nat} (hf : MsF z f) (h : MsC y G z f) (h38 : gi G 38 (y 8 0) = nI (f 4)) (hk : kn (nI (f 4)) = 1) : FmS t y G f z := by
  have f4 := hf.2.2.1 4
  have hz7 := hf.1
  have hz128 := hf.2.1
  have g37 := h.1
  have ne : ∀ a, a < 256 → f 4 ≠ a → ¬ nI (f 4) = nI a := fun a ha hn e => hn ((nI_eq (by omega) (by omega)).mp e)
  -- texts from p on, c of them, and d bytes behind
  have tx : ∀ (p c d : Nat) (x : GS → Int32 → (GS → Int32 → Prop) → Prop), p ≤ 100 → c ≤ 4 → d ≤ 5 → (∀ (G2 : GS) (v3 : Int32) (K : GS → Int32 → Prop), xT y G G2 → TxC y G2 f p c → (tp f p c + d = z → v3 = 1 → K G2 1) → (¬ tp f p c + d = z → K G2 0) → (tp f p c ≤ z → v3 = 1) → (¬ tp f p c ≤ z → v3 = 0) → x G2 v3 K) → ∃ G' v, xT y G G' ∧ (tp f p c + d = z → v = (1 : Int32) ∧ TxC y G' f p c) ∧ (¬ tp f p c + d = z → v = 0) ∧ ∀ K : GS → Int32 → Prop, K G' v → w_Message_splitTexts t G (y 8 0) (nI p) (nI c) (fun G2 v3 => x G2 v3 K) := fun p c d x hp hc hd hx => by
    by_cases q : tp f p c + d = z
    · refine ⟨spS y G f p c, 1, spS_xT hs, fun _ => ⟨rfl, spS_t hs⟩, fun n => absurd q n, fun K hK => S_split hs hz hf h hp hc ?_⟩
      rw [if_pos (by omega)]
      exact hx _ _ _ (spS_xT hs) (spS_t hs) (fun _ _ => hK) (fun n => absurd q n) (fun _ => rfl) (fun n => absurd (by omega) n)
    · refine ⟨spS y G f p c, 0, spS_xT hs, fun n => absurd n q, fun _ => rfl, fun K hK => S_split hs hz hf h hp hc ?_⟩
      exact hx _ _ _ (spS_xT hs) (spS_t hs) (fun n _ => absurd n q) (fun _ => hK) (fun z => if_pos z) (fun z => if_neg z)
  -- the usual look behind the texts
  have us : ∀ (p c : Nat) (G2 : GS) (v3 : Int32) (K : GS → Int32 → Prop), c ≤ 4 → p ≤ 100 → xT y G G2 → TxC y G2 f p c → (tp f p c + 0 = z → v3 = 1 → K G2 1) → (¬ tp f p c + 0 = z → K G2 0) → (tp f p c ≤ z → v3 = 1) → (¬ tp f p c ≤ z → v3 = 0) → (if v3 = 0 then (K G2 (0 : Int32)) else ((if ¬ (gi G2 43 (y 8 0)) = (gi G2 37 (y 8 0)) then (K G2 (0 : Int32)) else (K G2 (1 : Int32))))) := fun p c G2 v3 K hc hp x tx k1 k0 v1 v0 => by
    have hb := @tp_lt f hf.2.2.1 p c
    by_cases q : tp f p c ≤ z
    · rw [v1 q]
      refine iF (by decide) ?_
      rw [tx.2.2, x.2.1 37 _ (by omega), g37]
      by_cases q2 : tp f p c = z
      · exact iF (fun n => n (by rw [q2])) (k1 q2 (v1 q))
      · exact iT (fun e => q2 ((nI_eq (by omega) (by omega)).mp e)) (k0 q2)
    · rw [v0 q]
      exact iT rfl (k0 (by omega))
  have sz : ∀ (n : Nat), n < 100 → (z = n ↔ nI z = nI n) := fun n hn => ((nI_eq (by omega) (by omega)).symm)
  -- a size alone
  have one : ∀ n : Nat, n < 100 → (wfm f z ↔ z = n) → (¬ txH f) → (∀ K : GS → Int32 → Prop, (if ¬ (gi G 37 (y 8 0)) = nI n then (K G (0 : Int32)) else (K G (1 : Int32))) → w_Message_isWellFormed t G (y 8 0) K) → FmS t y G f z := fun n hn hw ht hx => by
    by_cases q : z = n
    · exact ⟨G, 1, xT.rf, fun _ => ⟨rfl, fun n => absurd n ht⟩, fun n => absurd (hw.mpr q) n, fun K hK => hx K (iF (by rw [g37, q]; exact fun n => n rfl) hK)⟩
    · exact ⟨G, 0, xT.rf, fun n => absurd (hw.mp n) q, fun _ => rfl, fun K hK => hx K (iT (by rw [g37]; exact fun e => q ((sz n hn).mpr e)) hK)⟩
  -- texts alone
  have two : ∀ (p c : Nat), p ≤ 100 → c ≤ 4 → (wfm f z ↔ tp f p c = z) → txP f = p → txN f = c → (∀ K : GS → Int32 → Prop, w_Message_splitTexts t G (y 8 0) (nI p) (nI c) (fun G2 v3 => (if v3 = 0 then (K G2 (0 : Int32)) else ((if ¬ (gi G2 43 (y 8 0)) = (gi G2 37 (y 8 0)) then (K G2 (0 : Int32)) else (K G2 (1 : Int32)))))) → w_Message_isWellFormed t G (y 8 0) K) → FmS t y G f z := fun p c hp hc hw e1 e2 hx => by
    obtain ⟨G', v, x1, x2, x3, x4⟩ := tx p c 0 (fun G2 v3 K => (if v3 = 0 then (K G2 (0 : Int32)) else ((if ¬ (gi G2 43 (y 8 0)) = (gi G2 37 (y 8 0)) then (K G2 (0 : Int32)) else (K G2 (1 : Int32)))))) hp hc (by omega) (fun G2 v3 K a1 a2 a3 a4 a5 a6 => us p c G2 v3 K hc hp a1 a2 a3 a4 a5 a6)
    exact ⟨G', v, x1, fun q => ⟨(x2 (hw.mp q)).1, fun _ => by rw [e1, e2]; exact (x2 (hw.mp q)).2⟩, fun q => x3 (fun e => q (hw.mpr e)), fun K hK => hx K (x4 K hK)⟩
  have key : ∀ K : GS → Int32 → Prop, (∀ v1 : Int32, v1 = nI (f 4) → (if v1 = (100 : Int32) then (w_Message_splitTexts t G (y 8 0) (11 : Int32) (1 : Int32) (fun G2 v3 => (if v3 = 0 then (K G2 (0 : Int32)) else ((if ¬ (gi G2 43 (y 8 0)) = (gi G2 37 (y 8 0)) then (K G2 (0 : Int32)) else (K G2 (1 : Int32))))))) else if v1 = (102 : Int32) then (w_Message_splitTexts t G (y 8 0) (11 : Int32) (2 : Int32) (fun G4 v5 => (if v5 = 0 then (K G4 (0 : Int32)) else ((if ¬ (gi G4 43 (y 8 0)) = (gi G4 37 (y 8 0)) then (K G4 (0 : Int32)) else (K G4 (1 : Int32))))))) else if v1 = (104 : Int32) then (w_Message_splitTexts t G (y 8 0) (15 : Int32) (2 : Int32) (fun G6 v7 => (if v7 = 0 then (K G6 (0 : Int32)) else ((if ¬ (gi G6 43 (y 8 0)) = (gi G6 37 (y 8 0)) then (K G6 (0 : Int32)) else (K G6 (1 : Int32))))))) else if v1 = (108 : Int32) then ((if ¬ (gi G 37 (y 8 0)) = (9 : Int32) then (K G (0 : Int32)) else (K G (1 : Int32)))) else if v1 = (110 : Int32) then (w_Message_number t G (y 8 0) (15 : Int32) (2 : Int32) (fun v8 => w_Message_splitTexts t G (y 8 0) (17 : Int32) v8.toInt32 (fun G9 v10 => (if v10 = 0 then (K G9 (0 : Int32)) else ((if ¬ (gi G9 43 (y 8 0)) = (gi G9 37 (y 8 0)) then (K G9 (0 : Int32)) else (K G9 (1 : Int32)))))))) else if v1 = (112 : Int32) then ((if ¬ (gi G 37 (y 8 0)) = (12 : Int32) then (K G (0 : Int32)) else (K G (1 : Int32)))) else if v1 = (114 : Int32) then (w_Message_splitTexts t G (y 8 0) (11 : Int32) (1 : Int32) (fun G11 v12 => (if v12 = 0 then (K G11 (0 : Int32)) else ((if ¬ ((gi G11 43 (y 8 0)) + (5 : Int32)) = (gi G11 37 (y 8 0)) then (K G11 (0 : Int32)) else (K G11 (1 : Int32))))))) else if v1 = (116 : Int32) then ((if ¬ (gi G 37 (y 8 0)) = (23 : Int32) then (K G (0 : Int32)) else (K G (1 : Int32)))) else if v1 = (118 : Int32) then ((if (gi G 37 (y 8 0)) < (23 : Int32) then (K G (0 : Int32)) else (w_Message_number t G (y 8 0) (19 : Int32) (4 : Int32) (fun v13 => (if ¬ v13 = ((gi G 37 (y 8 0)) - (23 : Int32)).toInt64 then (K G (0 : Int32)) else (K G (1 : Int32))))))) else if v1 = (126 : Int32) then (w_Message_number t G (y 8 0) (11 : Int32) (2 : Int32) (fun v14 => (if ¬ v14 = ((gi G 37 (y 8 0)) - (13 : Int32)).toInt64 then (K G (0 : Int32)) else (w_Message_number t G (y 8 0) (13 : Int32) (2 : Int32) (fun v15 => (if ¬ v15 = (((gi G 37 (y 8 0)) - (13 : Int32)) - (2 : Int32)).toInt64 then (K G (0 : Int32)) else (w_Message_splitTexts t G (y 8 0) (54 : Int32) (4 : Int32) (fun G16 v17 => (if v17 = 0 then (K G16 (0 : Int32)) else ((if ¬ (gi G16 43 (y 8 0)) = (gi G16 37 (y 8 0)) then (K G16 (0 : Int32)) else (K G16 (1 : Int32))))))))))))) else (w_Message_isWellFormed_418 t (y 8 0) K G))) → w_Message_isWellFormed t G (y 8 0) K := fun K hK => ⟨hs.k 8 0, by rw [h38]; exact hK⟩
  rcases kn_1 _ f4 hk with e | e | e | e | e | e | e | e | e | e | e | e | e
  · exact two 11 1 (by omega) (by omega) (wf100 e) (by unfold txP; simp [e]) (by unfold txN; simp [e]) (fun K hK => key K (fun v1 e1 => by subst e1; rw [e]; exact iT rfl hK))
  · exact two 11 2 (by omega) (by omega) (wf102 e) (by unfold txP; simp [e]) (by unfold txN; simp [e]) (fun K hK => key K (fun v1 e1 => by subst e1; rw [e]; exact iF (by decide) (iT rfl hK)))
  · exact two 15 2 (by omega) (by omega) (wf104 e) (by unfold txP; simp [e]) (by unfold txN; simp [e]) (fun K hK => key K (fun v1 e1 => by subst e1; rw [e]; exact iF (by decide) (iF (by decide) (iT rfl hK))))
  · exact one 9 (by omega) (wf108 e) (by unfold txH; omega) (fun K hK => key K (fun v1 e1 => by subst e1; rw [e]; exact iF (by decide) (iF (by decide) (iF (by decide) (iT rfl hK)))))
  · have hn : nm f 15 2 < 256 ^ 2 := nm_lt hf.2.2.1
    by_cases q : nm f 15 2 ≤ 4
    · exact two 17 (nm f 15 2) (by omega) q ((wf110 e).trans ⟨fun w => w.2, fun w => ⟨q, w⟩⟩) (by unfold txP; simp [e]) (by unfold txN; simp [e]) (fun K hK => key K (fun v1 e1 => by
        subst e1; rw [e]
        refine iF (by decide) (iF (by decide) (iF (by decide) (iF (by decide) (iT rfl (S_number (p := 15) (n := 2) hs hz hf h (by omega) (by omega) ?_)))))
        rw [lN_i]; exact hK))
    · refine ⟨G, 0, xT.rf, fun w => absurd ((wf110 e).mp w).1 q, fun _ => rfl, fun K hK => key K (fun v1 e1 => ?_)⟩
      subst e1; rw [e]
      refine iF (by decide) (iF (by decide) (iF (by decide) (iF (by decide) (iT rfl (S_number (p := 15) (n := 2) hs hz hf h (by omega) (by omega) ?_)))))
      rw [lN_i]
      exact iF (nI_ge (a := 4) (by omega) (by omega)) hK
  · exact one 12 (by omega) (wf112 e) (by unfold txH; omega) (fun K hK => key K (fun v1 e1 => by subst e1; rw [e]; exact iF (by decide) (iF (by decide) (iF (by decide) (iF (by decide) (iF (by decide) (iT rfl hK)))))))
  · have hb := @tp_lt f hf.2.2.1 11 1
    obtain ⟨G', v, x1, x2, x3, x4⟩ := tx 11 1 5 (fun G11 v12 K => (if v12 = 0 then (K G11 (0 : Int32)) else ((if ¬ ((gi G11 43 (y 8 0)) + (5 : Int32)) = (gi G11 37 (y 8 0)) then (K G11 (0 : Int32)) else (K G11 (1 : Int32)))))) (by omega) (by omega) (by omega) (fun G2 v3 K a1 a2 a3 a4 a5 a6 => by
      by_cases q : tp f 11 1 ≤ z
      · rw [a5 q]
        refine iF (by decide) ?_
        rw [a2.2.2, a1.2.1 37 _ (by omega), g37, show nI (tp f 11 1) + 5 = nI (tp f 11 1 + 5) from by rw [show (5 : Int32) = nI 5 from rfl, nI_add]]
        by_cases q2 : tp f 11 1 + 5 = z
        · exact iF (fun n => n (by rw [q2])) (a3 q2 (a5 q))
        · exact iT (fun e => q2 ((nI_eq (by omega) (by omega)).mp e)) (a4 q2)
      · rw [a6 q]
        exact iT rfl (a4 (by omega)))
    have hw : wfm f z ↔ tp f 11 1 + 5 = z := wf114 e
    exact ⟨G', v, x1, fun q => ⟨(x2 (hw.mp q)).1, fun _ => by
      rw [show txP f = 11 by unfold txP; simp [e], show txN f = 1 by unfold txN; simp [e]]
      exact (x2 (hw.mp q)).2⟩, fun q => x3 (fun e => q (hw.mpr e)), fun K hK => key K (fun v1 e1 => by subst e1; rw [e]; exact iF (by decide) (iF (by decide) (iF (by decide) (iF (by decide) (iF (by decide) (iF (by decide) (iT rfl (x4 K hK))))))))⟩
  · exact one 23 (by omega) (wf116 e) (by unfold txH; omega) (fun K hK => key K (fun v1 e1 => by subst e1; rw [e]; exact iF (by decide) (iF (by decide) (iF (by decide) (iF (by decide) (iF (by decide) (iF (by decide) (iF (by decide) (iT rfl hK)))))))))
  · have hn : nm f 19 4 < 256 ^ 4 := nm_lt hf.2.2.1
    have hw : wfm f z ↔ nm f 19 4 + 23 = z := wf118 e
    have run : ∀ K : GS → Int32 → Prop, (wfm f z → K G 1) → (¬ wfm f z → K G 0) → w_Message_isWellFormed t G (y 8 0) K := fun K k1 k0 => key K (fun v1 e1 => by
      subst e1; rw [e]
      refine iF (by decide) (iF (by decide) (iF (by decide) (iF (by decide) (iF (by decide) (iF (by decide) (iF (by decide) (iF (by decide) (iT rfl ?_))))))))
      rw [g37]
      by_cases q : z < 23
      · exact iT (nI_lt q (by decide)) (k0 (fun w => by have := hw.mp w; omega))
      · refine iF (nI_nlt (b := 23) (by omega) (by omega)) (S_number (p := 19) (n := 4) hs hz hf h (by omega) (by omega) ?_)
        by_cases q2 : nm f 19 4 + 23 = z
        · exact iF (fun n => n ((sub_eq (d := 23) (by omega) (by omega) (by omega)).mpr q2)) (k1 (hw.mpr q2))
        · exact iT (fun n => q2 ((sub_eq (d := 23) (by omega) (by omega) (by omega)).mp n)) (k0 (fun w => q2 (hw.mp w))))
    by_cases q : wfm f z
    · exact ⟨G, 1, xT.rf, fun _ => ⟨rfl, fun n => absurd n (by unfold txH; omega)⟩, fun n => absurd q n, fun K hK => run K (fun _ => hK) (fun n => absurd q n)⟩
    · exact ⟨G, 0, xT.rf, fun n => absurd n q, fun _ => rfl, fun K hK => run K (fun n => absurd n q) (fun _ => hK)⟩
  · exact one 11 (by omega) (wf120 e) (by unfold txH; omega) (fun K hK => key K (fun v1 e1 => by subst e1; rw [e]; exact iF (by decide) (iF (by decide) (iF (by decide) (iF (by decide) (iF (by decide) (iF (by decide) (iF (by decide) (iF (by decide) (iF (by decide) (iF (by decide) ⟨hs.k 8 0, hK⟩)))))))))))
  · exact one 11 (by omega) (wf122 e) (by unfold txH; omega) (fun K hK => key K (fun v1 e1 => by subst e1; rw [e]; exact iF (by decide) (iF (by decide) (iF (by decide) (iF (by decide) (iF (by decide) (iF (by decide) (iF (by decide) (iF (by decide) (iF (by decide) (iF (by decide) ⟨hs.k 8 0, hK⟩)))))))))))
  · exact one 11 (by omega) (wf124 e) (by unfold txH; omega) (fun K hK => key K (fun v1 e1 => by subst e1; rw [e]; exact iF (by decide) (iF (by decide) (iF (by decide) (iF (by decide) (iF (by decide) (iF (by decide) (iF (by decide) (iF (by decide) (iF (by decide) (iF (by decide) ⟨hs.k 8 0, hK⟩)))))))))))
  · have hn1 : nm f 11 2 < 256 ^ 2 := nm_lt hf.2.2.1
    have hn2 : nm f 13 2 < 256 ^ 2 := nm_lt hf.2.2.1
    have e15 : nI z - 13 - 2 = nI z - nI 15 := sub_nI (nI z) 13 2
    have go : ∀ K : GS → Int32 → Prop, (nm f 11 2 + 13 = z → nm f 13 2 + 15 = z → w_Message_splitTexts t G (y 8 0) (54 : Int32) (4 : Int32) (fun G16 v17 => (if v17 = 0 then (K G16 (0 : Int32)) else ((if ¬ (gi G16 43 (y 8 0)) = (gi G16 37 (y 8 0)) then (K G16 (0 : Int32)) else (K G16 (1 : Int32))))))) → (¬ (nm f 11 2 + 13 = z ∧ nm f 13 2 + 15 = z) → K G 0) → w_Message_isWellFormed t G (y 8 0) K := fun K k1 k0 => key K (fun v1 e1 => by
      subst e1; rw [e]
      refine iF (by decide) (iF (by decide) (iF (by decide) (iF (by decide) (iF (by decide) (iF (by decide) (iF (by decide) (iF (by decide) (iF (by decide) (iT rfl (S_number (p := 11) (n := 2) hs hz hf h (by omega) (by omega) ?_))))))))))
      rw [g37]
      by_cases q1 : nm f 11 2 + 13 = z
      · refine iF (fun n => n ((sub_eq (d := 13) (by omega) (by omega) (by omega)).mpr q1)) (S_number (p := 13) (n := 2) hs hz hf h (by omega) (by omega) ?_)
        rw [e15]
        by_cases q2 : nm f 13 2 + 15 = z
        · exact iF (fun n => n ((sub_eq (by omega) (by omega) (by omega)).mpr q2)) (k1 q1 q2)
        · exact iT (fun n => q2 ((sub_eq (by omega) (by omega) (by omega)).mp n)) (k0 (fun w => q2 w.2))
      · exact iT (fun n => q1 ((sub_eq (d := 13) (by omega) (by omega) (by omega)).mp n)) (k0 (fun w => q1 w.1)))
    by_cases q : nm f 11 2 + 13 = z ∧ nm f 13 2 + 15 = z
    · exact two 54 4 (by omega) (by omega) ((wf126 e).trans ⟨fun w => w.2.2, fun w => ⟨q.1, q.2, w⟩⟩) (by unfold txP; simp [e]) (by unfold txN; simp [e]) (fun K hK => go K (fun _ _ => hK) (fun n => absurd q n))
    · exact ⟨G, 0, xT.rf, fun w => absurd ⟨((wf126 e).mp w).1, ((wf126 e).mp w).2.1⟩ q, fun _ => rfl, fun K hK => go K (fun a1 a2 => absurd ⟨a1, a2⟩ q) (fun _ => hK)⟩
/-- what the reference finds of it -/
theorem M_formed (hs : SH t y) (hz : FZ y m) {z : Nat} {f : Nat → Nat} (hf : MsF z f) (h : MsM y m z f) (hk : kn (nI (f 4)) = 1) {K : Int32 → Prop} (k1 : wfm f z → K 1) (k0 : ¬ wfm f z → K 0) : w_M_formed t m (y 1 0) (nI (f 4)) K := by
  have f4 := hf.2.2.1 4
  have hz7 := hf.1
  have hz128 := hf.2.1
  have g95 := h.1
  have one : ∀ n : Nat, n < 100 → (wfm f z ↔ z = n) → (tk t (y 1 0) = 10 ∧ (if ¬ (gi m 95 (y 1 0)) = nI n then (K (0 : Int32)) else (K (1 : Int32)))) := fun n hn hw => by
    refine ⟨hs.k 1 0, ?_⟩
    rw [g95]
    by_cases q : z = n
    · exact iF (by rw [q]; exact fun n => n rfl) (k1 (hw.mpr q))
    · exact iT (fun e => q ((nI_eq (by omega) (by omega)).mp e)) (k0 (fun w => q (hw.mp w)))
  -- the end of texts
  have fin : ∀ (p c : Nat), p ≤ 100 → c ≤ 4 → (wfm f z ↔ tp f p c = z) → (if ¬ bh f z p c = nI z then (K (0 : Int32)) else (K (1 : Int32))) := fun p c hp hc hw => by
    by_cases q : tp f p c = z
    · exact iF (fun n => n ((bh_z hf.2.2.1 hp hc hz128).mpr q)) (k1 (hw.mpr q))
    · exact iT (fun e => q ((bh_z hf.2.2.1 hp hc hz128).mp e)) (k0 (fun w => q (hw.mp w)))
  unfold w_M_formed
  rcases kn_1 _ f4 hk with e | e | e | e | e | e | e | e | e | e | e | e | e
  · have hw : wfm f z ↔ tp f 11 1 = z := wf100 e
    have hl := @tp_le f 11 1
    rw [e, g95]
    refine iF (by decide) ⟨hs.k 1 0, ?_⟩
    by_cases q : z ≤ 10
    · exact iT (nI_le q (by decide)) (k0 (fun w => by have := hw.mp w; omega))
    · refine iF (nI_ge (b := z) (a := 10) (by omega) (by omega)) ?_
      have : (11 : Int32) = bh f z 11 0 := (bh_0 (p := 11) (by omega)).symm
      rw [this]
      exact M_bh hs hz hf h (by omega) (by omega) (fin 11 1 (by omega) (by omega) hw)
  · have hw : wfm f z ↔ tp f 11 2 = z := wf102 e
    have hl := @tp_le f 11 2
    rw [e, g95]
    refine iT (by decide) (iF (by decide) ⟨hs.k 1 0, ?_⟩)
    by_cases q : z ≤ 10
    · exact iT (nI_le q (by decide)) (k0 (fun w => by have := hw.mp w; omega))
    · refine iF (nI_ge (b := z) (a := 10) (by omega) (by omega)) ?_
      have : (11 : Int32) = bh f z 11 0 := (bh_0 (p := 11) (by omega)).symm
      rw [this]
      exact M_bh hs hz hf h (by omega) (by omega) (M_bh hs hz hf h (by omega) (by omega) (fin 11 2 (by omega) (by omega) hw))
  · have hw : wfm f z ↔ tp f 15 2 = z := wf104 e
    have hl := @tp_le f 15 2
    rw [e, g95]
    refine iT (by decide) (iT (by decide) (iF (by decide) ⟨hs.k 1 0, ?_⟩))
    by_cases q : z ≤ 14
    · exact iT (nI_le q (by decide)) (k0 (fun w => by have := hw.mp w; omega))
    · refine iF (nI_ge (b := z) (a := 14) (by omega) (by omega)) ?_
      have : (15 : Int32) = bh f z 15 0 := (bh_0 (p := 15) (by omega)).symm
      rw [this]
      exact M_bh hs hz hf h (by omega) (by omega) (M_bh hs hz hf h (by omega) (by omega) (fin 15 2 (by omega) (by omega) hw))
  · rw [e]; exact iT (by decide) (iT (by decide) (iT (by decide) (iF (by decide) (one 9 (by omega) (wf108 e)))))
  · rw [e]
    refine iT (by decide) (iT (by decide) (iT (by decide) (iT (by decide) (iT (by decide) (iT (by decide) (iT (by decide) (iT (by decide) (iT (by decide) (iF (by decide) ⟨hs.k 1 0, hs.k 1 0, ?_⟩)))))))))
    rw [g95]
    have hn : nm f 15 2 < 256 ^ 2 := nm_lt hf.2.2.1
    by_cases q : z < 17
    · refine iT (nI_lt q (by decide)) (k0 ?_)
      intro w
      have w := (wf110 e).mp w
      have hl := @tp_le f 17 (nm f 15 2)
      omega
    · refine iF (nI_nlt (b := 17) (by omega) (by omega)) (M_get (p := 15) (n := 2) hs hz hf h (by omega) (by omega) ?_)
      by_cases q2 : nm f 15 2 ≤ 4
      · refine iT ((pk_lLE (b := 4) (by omega) (by decide)).mpr q2) (M_get (p := 15) (n := 2) hs hz hf h (by omega) (by omega) ?_)
        intro v3 e3
        rw [lN_i] at e3
        subst e3
        have hw : wfm f z ↔ tp f 17 (nm f 15 2) = z := (wf110 e).trans ⟨fun w => w.2, fun w => ⟨q2, w⟩⟩
        have key := pk_loop (fun q i (_ : Unit) => w_M_isWalk_39 t m (y 1 0) (fun v1 => K v1) q (nI (nm f 15 2)) (bh f z 17 i) (nI i)) (fun _ _ => True) (nm f 15 2) 0 () (by omega) trivial (fun q _ _ => ?_) (fun q i _ hi _ ih => ?_)
        · obtain ⟨n, hn⟩ := key
          refine ⟨n, ?_⟩
          rw [bh_0 (by omega)] at hn
          exact hn
        · refine iT (Int32.le_refl _) ⟨hs.k 1 0, ?_⟩
          rw [g95]
          exact fin 17 (nm f 15 2) (by omega) q2 hw
        · refine iF (nI_ge hi (by omega)) ⟨hs.k 1 0, ?_⟩
          rw [g95]
          refine M_bh hs hz hf h (by omega) (by omega) ?_
          intro v2 e2
          rw [nI_1] at e2
          subst e2
          exact ih () trivial
      · refine iF (fun n => q2 ((pk_lLE (b := 4) (by omega) (by decide)).mp n)) (k0 ?_)
        intro w
        exact q2 ((wf110 e).mp w).1
  · rw [e]; exact iT (by decide) (iT (by decide) (iT (by decide) (iT (by decide) (iF (by decide) (one 12 (by omega) (wf112 e))))))
  · have hw : wfm f z ↔ tp f 11 1 + 5 = z := wf114 e
    have hl := @tp_le f 11 1
    have hb := @tp_lt f hf.2.2.1 11 1
    rw [e, g95]
    refine iT (by decide) (iT (by decide) (iT (by decide) (iT (by decide) (iT (by decide) (iT (by decide) (iT (by decide) (iF (by decide) ⟨hs.k 1 0, ?_⟩)))))))
    by_cases q : z ≤ 10
    · exact iT (nI_le q (by decide)) (k0 (fun w => by have := hw.mp w; omega))
    · refine iF (nI_ge (b := z) (a := 10) (by omega) (by omega)) ?_
      have : (11 : Int32) = bh f z 11 0 := (bh_0 (p := 11) (by omega)).symm
      rw [this]
      refine M_bh hs hz hf h (by omega) (by omega) ?_
      have e1 : bh f z 11 1 + 5 = nI z ↔ tp f 11 1 + 5 = z := by
        unfold bh
        by_cases q2 : tp f 11 1 ≤ z
        · rw [if_pos q2, show nI (tp f 11 1) + 5 = nI (tp f 11 1 + 5) from by rw [show (5 : Int32) = nI 5 from rfl, nI_add]]
          exact nI_eq (by omega) (by omega)
        · rw [if_neg q2, show (-1 : Int32) + 5 = nI 4 by decide, nI_eq (by omega) (by omega)]
          omega
      by_cases q2 : tp f 11 1 + 5 = z
      · exact iF (fun n => n (e1.mpr q2)) (k1 (hw.mpr q2))
      · exact iT (fun n => q2 (e1.mp n)) (k0 (fun w => q2 (hw.mp w)))
  · rw [e]; exact iT (by decide) (iT (by decide) (iT (by decide) (iT (by decide) (iT (by decide) (iF (by decide) (one 23 (by omega) (wf116 e)))))))
  · have hn : nm f 19 4 < 256 ^ 4 := nm_lt hf.2.2.1
    have hw : wfm f z ↔ nm f 19 4 + 23 = z := wf118 e
    rw [e, g95]
    refine iT (by decide) (iT (by decide) (iT (by decide) (iT (by decide) (iT (by decide) (iT (by decide) (iF (by decide) ⟨hs.k 1 0, ?_⟩))))))
    by_cases q : z ≤ 22
    · exact iT (nI_le q (by decide)) (k0 (fun w => by have := hw.mp w; omega))
    · refine iF (nI_ge (b := z) (a := 22) (by omega) (by omega)) (M_get (p := 19) (n := 4) hs hz hf h (by omega) (by omega) ?_)
      by_cases q2 : nm f 19 4 + 23 = z
      · exact iF (fun n => n ((sub_eq (d := 23) (by omega) (by omega) (by omega)).mpr q2)) (k1 (hw.mpr q2))
      · exact iT (fun n => q2 ((sub_eq (d := 23) (by omega) (by omega) (by omega)).mp n)) (k0 (fun w => q2 (hw.mp w)))
  · rw [e]; exact iT (by decide) (iT (by decide) (iT (by decide) (iT (by decide) (iT (by decide) (iT (by decide) (iT (by decide) (iT (by decide) (iT (by decide) (iT (by decide) (one 11 (by omega) (wf120 e)))))))))))
  · rw [e]; exact iT (by decide) (iT (by decide) (iT (by decide) (iT (by decide) (iT (by decide) (iT (by decide) (iT (by decide) (iT (by decide) (iT (by decide) (iT (by decide) (one 11 (by omega) (wf122 e)))))))))))
  · rw [e]; exact iT (by decide) (iT (by decide) (iT (by decide) (iT (by decide) (iT (by decide) (iT (by decide) (iT (by decide) (iT (by decide) (iT (by decide) (iT (by decide) (one 11 (by omega) (wf124 e)))))))))))
  · have hn1 : nm f 11 2 < 256 ^ 2 := nm_lt hf.2.2.1
    have hn2 : nm f 13 2 < 256 ^ 2 := nm_lt hf.2.2.1
    have hl := @tp_le f 54 4
    rw [e, g95]
    refine iT (by decide) (iT (by decide) (iT (by decide) (iT (by decide) (iT (by decide) (iT (by decide) (iT (by decide) (iT (by decide) (iF (by decide) ⟨hs.k 1 0, ?_⟩))))))))
    by_cases q : z ≤ 12
    · exact iT (nI_le q (by decide)) (k0 (fun w => by have := (wf126 e).mp w; omega))
    · refine iF (nI_ge (b := z) (a := 12) (by omega) (by omega)) (M_get (p := 11) (n := 2) hs hz hf h (by omega) (by omega) ?_)
      by_cases q2 : nm f 11 2 + 13 = z
      · refine iF (fun n => n ((sub_eq (d := 13) (by omega) (by omega) (by omega)).mpr q2)) ⟨hs.k 1 0, ?_⟩
        rw [g95]
        by_cases q3 : z < 56
        · exact iT (nI_lt q3 (by decide)) (iT rfl (k0 (fun w => by have := (wf126 e).mp w; omega)))
        · refine iF (nI_nlt (b := 56) (by omega) (by omega)) (M_get (p := 13) (n := 2) hs hz hf h (by omega) (by omega) ?_)
          by_cases q4 : nm f 13 2 + 15 = z
          · refine iT ((sub_eq (d := 15) (by omega) (by omega) (by omega)).mpr q4) ?_
            have hw : wfm f z ↔ tp f 54 4 = z := (wf126 e).trans ⟨fun w => w.2.2, fun w => ⟨q2, q4, w⟩⟩
            have key := pk_loop (fun q i (_ : Unit) => w_M_isStat_35 t m (y 1 0) (fun v3 => (if v3 = 0 then (K (0 : Int32)) else (K (1 : Int32)))) q (bh f z 54 i) (nI i)) (fun _ _ => True) 4 0 () (by omega) trivial (fun q _ _ => ?_) (fun q i _ hi _ ih => ?_)
            · obtain ⟨n, hn⟩ := key
              refine ⟨n, ?_⟩
              rw [bh_0 (by omega)] at hn
              exact hn
            · show w_M_isStat_35 t m (y 1 0) _ (q + 1) (bh f z 54 4) (nI 4)
              unfold w_M_isStat_35
              refine iT (show (4 : Int32) ≤ nI 4 by decide) ⟨hs.k 1 0, ?_⟩
              rw [g95]
              refine ite_lift (fin 54 4 (by omega) (by omega) hw) (fun k => iT rfl k) (fun k => iF (by decide) k)
            · refine iF (nI_ge (b := 4) hi (by omega)) ⟨hs.k 1 0, ?_⟩
              rw [g95]
              refine M_bh hs hz hf h (by omega) (by omega) ?_
              intro v2 e2
              rw [nI_1] at e2
              subst e2
              exact ih () trivial
          · exact iF (fun n => q4 ((sub_eq (d := 15) (by omega) (by omega) (by omega)).mp n)) (iT rfl (k0 (fun w => by have := (wf126 e).mp w; omega)))
      · exact iT (fun n => q2 ((sub_eq (d := 13) (by omega) (by omega) (by omega)).mp n)) (k0 (fun w => by have := (wf126 e).mp w; omega))
end FORMED
