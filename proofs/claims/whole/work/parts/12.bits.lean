/-! the check of early reads: masks against ways -/
def fx_mt (g : Nat → Int32) (t : Nat) (cs : Int32) : Nat → Int32 := fun j => if j = t then g j &&& cs else g j
def fx_ps (L : fx_Prg) (i : Nat) (g : Nat → Int32) (cs : Int32) : Nat → Int32 := fun j => if fx_O L i ≠ 31 ∧ fx_to L i j = true then g j &&& cs else g j
theorem fx_to_lt {L : fx_Prg} {i j : Nat} (h : fx_O L i < 25) : fx_to L i j = true ↔ j = i + 1 := by
  unfold fx_to
  rw [if_neg (by omega), if_neg (by omega)]
  simp
theorem fx_to_25 {L : fx_Prg} {i j : Nat} (h : fx_O L i = 25) : fx_to L i j = true ↔ j = i + 1 + (fx_K L i).toNatClampNeg := by
  unfold fx_to
  rw [if_pos h]
  simp
theorem fx_to_gt {L : fx_Prg} {i j : Nat} (h : 25 < fx_O L i) : fx_to L i j = true ↔ (j = i + 1 + fx_Y L i ∨ j = i + 1 + fx_N L i) := by
  unfold fx_to
  rw [if_neg (by omega), if_pos h]
  simp
def fx_bits (L : fx_Prg) (i : Nat) (g : Nat → Int32) : Prop := ∀ j, j < 40 → ∀ b, b < 16 → (g j).toBitVec.getLsbD b = !(fx_cm L (nI b) i j)
theorem fx_ones : ∀ b, b < 16 → (nI 65535).toBitVec.getLsbD b = true := by decide +kernel
theorem fx_bits0 (L : fx_Prg) : fx_bits L 0 (upd (fun _ => nI 65535) 0 (nI 0)) := by
  intro j hj b hb
  unfold upd fx_cm
  by_cases e : j = 0
  · subst e
    simp [nI]
  · rw [if_neg e, fx_ones b hb]
    simp [e]
def fx_cell (k : Int32) : Int32 := nI 1 <<< ((k &&& nI 15) &&& 31)
theorem fx_cell_bv : ∀ k, k < 16 → (fx_cell (nI k)).toBitVec = BitVec.twoPow 32 k := by decide +kernel
theorem fx_cell_bit {k b : Nat} (hk : k < 16) (hb : b < 16) : (fx_cell (nI k)).toBitVec.getLsbD b = decide (b = k) := by
  rw [fx_cell_bv k hk, BitVec.getLsbD_twoPow]
  by_cases e : b = k
  · subst e
    simp
    omega
  · have e' : ¬ k = b := fun h => e h.symm
    simp [e, e']
theorem fx_cell_and {x : Int32} {k : Nat} (hk : k < 16) : x &&& fx_cell (nI k) = 0 ↔ x.toBitVec.getLsbD k = false := by
  rw [← Int32.toBitVec_inj, Int32.toBitVec_and, fx_cell_bv k hk, BitVec.and_twoPow]
  cases h : x.toBitVec.getLsbD k
  · simp
  · simp only [if_true, Bool.true_eq_false, iff_false]
    intro h2
    have h3 := congrArg (fun z => BitVec.getLsbD z k) h2
    simp [BitVec.getLsbD_twoPow] at h3
    omega
theorem fx_bits_step {L : fx_Prg} {i : Nat} {g : Nat → Int32} {cs : Int32} (h : fx_bits L i g) (hcs : ∀ b, b < 16 → cs.toBitVec.getLsbD b = (!(fx_cm L (nI b) i i) || ((fx_O L i == 8 || fx_O L i == 9) && decide (fx_K L i = nI b)))) : fx_bits L (i + 1) (fx_ps L i g cs) := by
  intro j hj b hb
  have h1 := h j hj b hb
  have h2 := hcs b hb
  unfold fx_ps
  rw [fx_cm]
  by_cases e : fx_O L i ≠ 31 ∧ fx_to L i j = true
  · rw [if_pos e, Int32.toBitVec_and, BitVec.getLsbD_and, h1, h2, e.2]
    have e1 : (fx_O L i == 31) = false := by simpa using e.1
    rw [e1]
    cases fx_cm L (nI b) i j <;> cases fx_cm L (nI b) i i <;> cases ((fx_O L i == 8 || fx_O L i == 9) && decide (fx_K L i = nI b)) <;> rfl
  · rw [if_neg e, h1]
    have e2 : ((!(fx_O L i == 31)) && fx_to L i j) = false := by
      cases hq : fx_to L i j
      · simp
      · by_cases e3 : fx_O L i = 31
        · simp [e3]
        · exact absurd ⟨e3, hq⟩ e
    have e4 : (fx_cm L (nI b) i i && !(fx_O L i == 31) && !((fx_O L i == 8 || fx_O L i == 9) && decide (fx_K L i = nI b)) && fx_to L i j) = false := by
      revert e2
      cases fx_cm L (nI b) i i <;> cases (fx_O L i == 31) <;> cases ((fx_O L i == 8 || fx_O L i == 9) && decide (fx_K L i = nI b)) <;> cases fx_to L i j <;> simp
    rw [e4]
    simp
theorem fx_bits_no {L : fx_Prg} {i : Nat} {g : Nat → Int32} (h : fx_bits L i g) (hi : i < 40) (ho : ¬ (fx_O L i = 8 ∨ fx_O L i = 9)) : fx_bits L (i + 1) (fx_ps L i g (g i)) := by
  refine fx_bits_step h (fun b hb => ?_)
  rw [h i hi b hb]
  have e : (fx_O L i == 8 || fx_O L i == 9) = false := by
    simp
    omega
  rw [e]
  simp
theorem fx_bits_st {L : fx_Prg} {i k : Nat} {g : Nat → Int32} (h : fx_bits L i g) (hi : i < 40) (ho : fx_O L i = 8 ∨ fx_O L i = 9) (hk : k < 16) (hK : fx_K L i = nI k) : fx_bits L (i + 1) (fx_ps L i g (g i ||| fx_cell (fx_K L i))) := by
  refine fx_bits_step h (fun b hb => ?_)
  rw [Int32.toBitVec_or, BitVec.getLsbD_or, h i hi b hb, hK, fx_cell_bit hk hb]
  have e : (fx_O L i == 8 || fx_O L i == 9) = true := by
    simp
    omega
  rw [e]
  have e2 : (nI k = nI b) ↔ (b = k) := by
    rw [nI_eq (by omega) (by omega)]
    omega
  simp [e2]
/-- no rule from 2 to 6 is broken -/
def fx_good (L : fx_Prg) : Prop := ∀ t, 2 ≤ t → t ≤ 6 → ∀ i, i < L.length → ¬ fx_brP L t i
theorem fx_at_no {L : fx_Prg} {t : Nat} (h2 : 2 ≤ t) (h6 : t ≤ 6) (h : fx_at L t = none) : ∀ i, i < L.length → ¬ fx_brP L t i := by
  unfold fx_at at h
  rw [if_neg (by omega), if_neg (by omega)] at h
  exact fun i hi => fx_br_f.mp (fx_fst_of_none h i hi)
theorem fx_chk_none {L : fx_Prg} (h : ∀ t, 1 ≤ t → t ≤ 7 → fx_at L t = none) : fx_chk L = 0 := by
  simp [fx_chk, fx_chkF, h]
theorem fx_chk_some {L : fx_Prg} {r i : Nat} (h1 : 1 ≤ r) (h7 : r ≤ 7) (hs : fx_at L r = some i) (hn : ∀ t, 1 ≤ t → t < r → fx_at L t = none) : fx_chk L = r + 8 * i := by
  rcases (show r = 1 ∨ r = 2 ∨ r = 3 ∨ r = 4 ∨ r = 5 ∨ r = 6 ∨ r = 7 by omega) with rfl | rfl | rfl | rfl | rfl | rfl | rfl <;> simp [fx_chk, fx_chkF, hs, hn]
/-- reading the check's number -/
theorem fx_chk_cases (L : fx_Prg) : (fx_chk L = 0 ∧ ∀ t, 1 ≤ t → t ≤ 7 → fx_at L t = none) ∨ ∃ r i, 1 ≤ r ∧ r ≤ 7 ∧ fx_at L r = some i ∧ (∀ t, 1 ≤ t → t < r → fx_at L t = none) ∧ fx_chk L = r + 8 * i := by
  have key : ∀ r, r ≤ 7 → (∀ t, 1 ≤ t → t ≤ r → fx_at L t = none) ∨ ∃ q i, 1 ≤ q ∧ q ≤ 7 ∧ fx_at L q = some i ∧ (∀ t, 1 ≤ t → t < q → fx_at L t = none) := by
    intro r
    induction r with
    | zero => exact fun _ => Or.inl (fun t h1 h2 => by omega)
    | succ r ih =>
      intro hr
      rcases ih (by omega) with h | h
      · cases hq : fx_at L (r + 1) with
        | none =>
          refine Or.inl (fun t h1 h2 => ?_)
          by_cases e : t = r + 1
          · rw [e]; exact hq
          · exact h t h1 (by omega)
        | some i => exact Or.inr ⟨r + 1, i, by omega, hr, hq, fun t h1 h2 => h t h1 (by omega)⟩
      · exact Or.inr h
  rcases key 7 (by omega) with h | ⟨q, i, h1, h2, h3, h4⟩
  · exact Or.inl ⟨fx_chk_none h, h⟩
  · exact Or.inr ⟨q, i, h1, h2, h3, h4, fx_chk_some h1 h2 h3 h4⟩
