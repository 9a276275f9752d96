/-! the mathematics of filters: an instruction is (operation, distance if yes, distance if no, number) -/
abbrev fx_Ins : Type := Nat × Nat × Nat × Int32
abbrev fx_Prg : Type := List fx_Ins
def fx_O (L : fx_Prg) (i : Nat) : Nat := (L.getD i (0, 0, 0, 0)).1
def fx_Y (L : fx_Prg) (i : Nat) : Nat := (L.getD i (0, 0, 0, 0)).2.1
def fx_N (L : fx_Prg) (i : Nat) : Nat := (L.getD i (0, 0, 0, 0)).2.2.1
def fx_K (L : fx_Prg) (i : Nat) : Int32 := (L.getD i (0, 0, 0, 0)).2.2.2
/-- a filter as it can be -/
def fx_ok (L : fx_Prg) : Prop := L.length ≤ 40 ∧ ∀ i, i < L.length → fx_O L i < 32 ∧ fx_Y L i < 256 ∧ fx_N L i < 256
/-- four rows that hold a filter -/
def fx_rep (L : fx_Prg) (o y n k : Nat → Int32) : Prop := ∀ i, i < L.length → o i = nI (fx_O L i) ∧ y i = nI (fx_Y L i) ∧ n i = nI (fx_N L i) ∧ k i = fx_K L i
/-- what breaks rule r at i -/
def fx_brP (L : fx_Prg) (r i : Nat) : Prop := match r with
  | 2 => (fx_O L i = 0 ∨ fx_O L i = 2 ∨ fx_O L i = 5 ∨ fx_O L i = 8 ∨ fx_O L i = 9) ∧ ((fx_K L i).toInt < 0 ∨ 16 ≤ (fx_K L i).toInt)
  | 3 => fx_O L i = 13 ∧ (fx_K L i).toInt = 0
  | 4 => (fx_O L i = 17 ∨ fx_O L i = 18) ∧ ((fx_K L i).toInt < 0 ∨ 31 < (fx_K L i).toInt)
  | 5 => (fx_O L i = 25 ∧ ((fx_K L i).toInt < 0 ∨ ((L.length - 1 - i : Nat) : Int) ≤ (fx_K L i).toInt)) ∨ (25 < fx_O L i ∧ fx_O L i < 31 ∧ (L.length - 1 - i ≤ fx_Y L i ∨ L.length - 1 - i ≤ fx_N L i))
  | 6 => i = L.length - 1 ∧ fx_O L i ≠ 31
  | _ => False
noncomputable def fx_br (L : fx_Prg) (r i : Nat) : Bool := @decide (fx_brP L r i) (Classical.propDecidable _)
theorem fx_br_t {L : fx_Prg} {r i : Nat} : fx_br L r i = true ↔ fx_brP L r i := by unfold fx_br; exact @decide_eq_true_iff _ (Classical.propDecidable _)
theorem fx_br_f {L : fx_Prg} {r i : Nat} : fx_br L r i = false ↔ ¬ fx_brP L r i := by unfold fx_br; exact @decide_eq_false_iff_not _ (Classical.propDecidable _)
/-- where i leads -/
def fx_to (L : fx_Prg) (i j : Nat) : Bool :=
  if fx_O L i = 25 then j == i + 1 + (fx_K L i).toNatClampNeg else if 25 < fx_O L i then (j == i + 1 + fx_Y L i || j == i + 1 + fx_N L i) else j == i + 1
/-- a way that hasn't stored to cell k comes to j, by steps from below i -/
def fx_cm (L : fx_Prg) (k : Int32) : Nat → Nat → Bool
  | 0, j => j == 0
  | i + 1, j => fx_cm L k i j || (fx_cm L k i i && !(fx_O L i == 31) && !((fx_O L i == 8 || fx_O L i == 9) && decide (fx_K L i = k)) && fx_to L i j)
def fx_early (L : fx_Prg) (i : Nat) : Bool := (fx_O L i == 2 || fx_O L i == 5) && fx_cm L (fx_K L i) i i
/-- the least place below n with p -/
def fx_fst (p : Nat → Bool) (n : Nat) : Option Nat := (List.range n).find? p
theorem fx_fst_some {p : Nat → Bool} {n i : Nat} (hi : i < n) (hp : p i = true) (h : ∀ j, j < i → p j = false) : fx_fst p n = some i := by
  unfold fx_fst
  rw [List.find?_range_eq_some]
  exact ⟨hp, List.mem_range.mpr hi, fun j hj => by rw [h j hj]; rfl⟩
theorem fx_fst_none {p : Nat → Bool} {n : Nat} (h : ∀ j, j < n → p j = false) : fx_fst p n = none := by
  unfold fx_fst
  rw [List.find?_range_eq_none]
  exact fun j hj => by rw [h j hj]; rfl
theorem fx_fst_of_some {p : Nat → Bool} {n i : Nat} (h : fx_fst p n = some i) : i < n ∧ p i = true ∧ ∀ j, j < i → p j = false := by
  unfold fx_fst at h
  rw [List.find?_range_eq_some] at h
  exact ⟨List.mem_range.mp h.2.1, h.1, fun j hj => by have := h.2.2 j hj; simpa using this⟩
theorem fx_fst_of_none {p : Nat → Bool} {n : Nat} (h : fx_fst p n = none) : ∀ j, j < n → p j = false := by
  unfold fx_fst at h
  rw [List.find?_range_eq_none] at h
  exact fun j hj => by have := h j hj; simpa using this
/-- the place of the first breach of rule r -/
noncomputable def fx_at (L : fx_Prg) (r : Nat) : Option Nat := if r = 1 then (if L.length = 0 then some 0 else none) else if r = 7 then fx_fst (fx_early L) L.length else fx_fst (fx_br L r) L.length
/-- the check: 0, or the rule and eight times the place -/
noncomputable def fx_chkF (L : fx_Prg) : Nat → Nat → Nat
  | 0, _ => 0
  | n + 1, r => match fx_at L r with
    | some i => r + 8 * i
    | none => fx_chkF L n (r + 1)
noncomputable def fx_chk (L : fx_Prg) : Nat := fx_chkF L 7 1
/-! a run -/
def fx_pl (x : Int32) : Int64 := x.toInt64 &&& 4294967295
def fx_dv (a k : Int32) : Int32 := (fx_pl a / fx_pl k).toInt32
def fx_val (o : Nat) (a k x : Int32) : Int32 :=
  if o = 10 then a + k else if o = 11 then a - k else if o = 12 then a * k else if o = 13 then fx_dv a k else if o = 14 then a &&& k else if o = 15 then a ||| k else if o = 16 then a ^^^ k
  else if o = 17 then a <<< (k &&& 31) else if o = 18 then (a.toUInt32 >>> (k.toUInt32 &&& Int32.toUInt32 31)).toInt32
  else if o = 19 then a + x else if o = 20 then a - x else if o = 21 then a * x else if o = 22 then fx_dv a x else if o = 23 then a &&& x else -a
def fx_ask (o : Nat) (a k x : Int32) : Bool :=
  if o = 26 then decide (a = k) else if o = 27 then decide (fx_pl k < fx_pl a) else if o = 28 then decide (fx_pl k ≤ fx_pl a) else if o = 29 then !decide (a &&& k = 0) else decide (a = x)
def fx_a (o : Nat) (a x k : Int32) (cs w : Nat → Int32) (n : Nat) : Int32 :=
  if o = 0 then w k.toNatClampNeg else if o = 1 then k else if o = 2 then cs k.toNatClampNeg else if o = 3 then nI n else if o = 7 then x else if 10 ≤ o ∧ o < 25 then fx_val o a k x else a
def fx_x (o : Nat) (a x k : Int32) (cs : Nat → Int32) : Int32 :=
  if o = 4 then k else if o = 5 then cs k.toNatClampNeg else if o = 6 then a else x
def fx_c (o : Nat) (a x k : Int32) (cs : Nat → Int32) : Nat → Int32 :=
  if o = 8 then upd cs k.toNatClampNeg a else if o = 9 then upd cs k.toNatClampNeg x else cs
def fx_d (L : fx_Prg) (i : Nat) (a x : Int32) : Nat :=
  if fx_O L i < 25 then 0 else if fx_O L i = 25 then (fx_K L i).toNatClampNeg else if fx_ask (fx_O L i) a (fx_K L i) x then fx_Y L i else fx_N L i
/-- the run: turns left, A, X, cells, place, turns done: the verdict and how many were done -/
def fx_run (L : fx_Prg) (w : Nat → Int32) : Nat → Int32 → Int32 → (Nat → Int32) → Nat → Nat → Int32 × Nat
  | 0, _, _, _, _, c => (0, c)
  | n + 1, a, x, cs, i, c => if i < L.length then
      (if fx_O L i = 31 then (if fx_Y L i = 0 then fx_K L i else a, c + 1)
      else if fx_O L i = 22 ∧ x = 0 then (0, c + 1)
      else fx_run L w n (fx_a (fx_O L i) a x (fx_K L i) cs w L.length) (fx_x (fx_O L i) a x (fx_K L i) cs) (fx_c (fx_O L i) a x (fx_K L i) cs) (i + 1 + fx_d L i a x) (c + 1))
    else (0, c)
def fx_do (L : fx_Prg) (w : Nat → Int32) : Int32 × Nat := fx_run L w 40 0 0 (fun _ => 0) 0 0
/-- rules: call, argument, mask, value -/
abbrev fx_Rule : Type := Int32 × Int32 × Int32 × Int32
def fx_one (q : fx_Rule) : fx_Prg := if q.2.1 = -1 then [(0, 0, 0, 0), (26, 0, 1, q.1), (31, 0, 0, 1006632960)]
  else [(0, 0, 0, 0), (26, 0, 4, q.1), (0, 0, 0, 4 + q.2.1), (14, 0, 0, q.2.2.1), (26, 0, 1, q.2.2.2), (31, 0, 0, 1006632960)]
def fx_cmp (rs : List fx_Rule) (v : Int32) : fx_Prg := rs.flatMap fx_one ++ [(31, 0, 0, v)]
