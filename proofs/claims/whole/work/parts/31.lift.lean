/-! contracts in a wider world -/
section LF
variable {l : Launch} {y : MethodName} {wsy : List Cond} {rm : Room} {D : va_G} {cl : List vw_C} {tys : List (ClassId × FieldType)} {av : List Value} {w wb wr : va_W} {sz mc ms : Nat}
theorem lf_sub {A : Nat → Prop} {ws ws' : va_W} {H : Heap} {is : List Nat} (hn : va_nd is = true) (hs : is.map (fun i => ws[i]?) = ws'.map some) (hP : va_P D cl ws H) (hD : va_D A ws) : va_P D cl ws' H ∧ va_D A ws' := by
  refine ⟨hP.sub is ?_, hD.sub is hn hs⟩
  have h := congrArg (List.filterMap id) hs
  rw [List.filterMap_map, List.filterMap_map] at h
  simpa using h
theorem lf_free {isC : List Nat} (hC : isC.map (fun i => wb[i]?) = w.map some) : ∀ q, va_A w sz q → va_A wb sz q := by
  intro q h
  rcases h with ⟨k, e, h⟩ | h
  · have h1 : (isC.map (fun i => wb[i]?))[k]? = some (some (q, e)) := by rw [hC, List.getElem?_map, h]; rfl
    rw [List.getElem?_map] at h1
    cases hi : isC[k]? with
    | none => rw [hi] at h1; cases h1
    | some i => rw [hi] at h1; exact Or.inl ⟨i, e, Option.some.inj h1⟩
  · exact Or.inr h
theorem lf_join {isC isR : List Nat} (hC : isC.map (fun i => wb[i]?) = w.map some) (hR : isR.map (fun i => wb[i]?) = wr.map some) (hn : va_nd isR = true) (hdis : ∀ i ∈ isR, i ∉ isC) {st t : State} {w1 : va_W} (hB : fs_B D cl tys wb sz st) (hF : va_F (va_A w sz) st t) (hE : fs_E D cl tys (va_A w sz) w1 t) : va_P D cl (wr ++ w1) t.heap ∧ va_D (va_A wb sz) (wr ++ w1) := by
  obtain ⟨hsz, hP, hK, hD⟩ := hB
  subst hsz
  exact va_join (wc := w) hP (hD.self (sz := st.heap.size)) isC isR hC hR hn hdis hF.2 (lf_free hC) hE.1 hE.2.2
/-- an int -/
theorem lf_I {S S2 : Type} {post : Int32 → S → Prop} {w1 : S → va_W} {post2 : Int32 → S2 → Prop} {w2 : S2 → va_W} (h : fs_I l y wsy rm D cl tys av w sz post w1 mc ms) (isC isR : List Nat) (hC : isC.map (fun i => wb[i]?) = w.map some) (hR : isR.map (fun i => wb[i]?) = wr.map some) (hn : va_nd isR = true) (hdis : ∀ i ∈ isR, i ∉ isC) (hnc : va_nd isC = true)
    (pm : List Nat) (hpm : va_nd pm = true) (hp : ∀ r u, post r u → ∃ z, post2 r z ∧ pm.map (fun i => (wr ++ w1 u)[i]?) = (w2 z).map some) : fs_I l y wsy rm D cl tys av wb sz post2 w2 mc ms := by
  unfold fs_I Met at h ⊢
  refine MetFree.mono h (fun a s q => ⟨q.1, q.2.1, (lf_sub hnc hC q.2.2.1 q.2.2.2.2).1, q.2.2.2.1, (lf_sub hnc hC q.2.2.1 q.2.2.2.2).2⟩) (fun _ _ _ _ _ h => h) (fun a s o t hB hQ => ?_)
  obtain ⟨⟨⟨r, u, rfl, hpo, hE⟩, hF⟩, L, hL, hf⟩ := hQ
  obtain ⟨z, hz, hm⟩ := hp r u hpo
  obtain ⟨hP1, hD1⟩ := lf_join hC hR hn hdis hB.2 hF hE
  obtain ⟨hP2, hD2⟩ := lf_sub hpm hm hP1 hD1
  exact ⟨⟨⟨r, z, rfl, hz, hP2, hE.2.1, hD2⟩, hF.1, fun q h1 h2 => hF.2 q h1 (fun h3 => h2 (lf_free hC q h3))⟩, L, hL, fun q hq => lf_free hC _ (hf q hq)⟩
/-- a throw -/
theorem lf_T {X : State → Prop} {CX : String} {S S2 : Type} {w1 : S → va_W} {w2 : S2 → va_W} (h : th_T l y wsy rm D cl tys X av w sz CX w1 mc ms) (isC isR : List Nat) (hC : isC.map (fun i => wb[i]?) = w.map some) (hR : isR.map (fun i => wb[i]?) = wr.map some) (hn : va_nd isR = true) (hdis : ∀ i ∈ isR, i ∉ isC) (hnc : va_nd isC = true)
    (pm : List Nat) (hpm : va_nd pm = true) (g : S → S2) (hp : ∀ u, pm.map (fun i => (wr ++ w1 u)[i]?) = (w2 (g u)).map some) : th_T l y wsy rm D cl tys X av wb sz CX w2 mc ms := by
  unfold th_T th_M at h ⊢
  refine MetFree.mono h (fun a s q => ⟨q.1, ⟨q.2.1.1, (lf_sub hnc hC q.2.1.2.1 q.2.1.2.2.2).1, q.2.1.2.2.1, (lf_sub hnc hC q.2.1.2.1 q.2.1.2.2.2).2⟩, q.2.2⟩) (fun _ _ _ _ _ h => h) (fun a s o t hB hQ => ?_)
  obtain ⟨x, rfl, ⟨⟨u, hE⟩, hF, hc⟩, hW, L, hL, hf⟩ := hQ
  obtain ⟨hP1, hD1⟩ := lf_join hC hR hn hdis hB.2.1 hF hE
  obtain ⟨hP2, hD2⟩ := lf_sub hpm (hp u) hP1 hD1
  exact ⟨x, rfl, ⟨⟨g u, hP2, hE.2.1, hD2⟩, ⟨hF.1, fun q h1 h2 => hF.2 q h1 (fun h3 => h2 (lf_free hC q h3))⟩, hc⟩, hW, L, hL, fun q hq => lf_free hC _ (hf q hq)⟩
end LF
/-! what the calls do, on both sides: (the filters 0 to 3 and the stack's 4 to 7, how many are stacked, the words, the rules, the steps) -/
abbrev fx_A : Type := (Nat → fx_Prg) × Nat × (Nat → Int32) × List fx_Rule × Int32
def fx_AI (A : fx_A) : Prop := (∀ f, fx_ok (A.1 f)) ∧ A.2.1 ≤ 4 ∧ (∀ t, t < A.2.1 → fx_chk (A.1 (4 + t)) = 0) ∧ A.2.2.2.1.length ≤ 8 ∧ ∀ q ∈ A.2.2.2.1, -1 ≤ q.2.1.toInt ∧ q.2.1.toInt < 12
def fx_ix (n : Nat) (f : Int32) : Option Nat := if 0 ≤ f.toInt ∧ f.toInt < n then some f.toInt.toNat else none
def fx_u {α : Type} (F : Nat → α) (j : Nat) (g : α) : Nat → α := fun f => if f = j then g else F f
theorem fx_u_at {α : Type} (F : Nat → α) (j : Nat) (g : α) : fx_u F j g j = g := by simp [fx_u]
theorem fx_u_ne {α : Type} {F : Nat → α} {j f : Nat} {g : α} (h : f ≠ j) : fx_u F j g f = F f := by simp [fx_u, h]
theorem fx_ix_some {n j : Nat} {f : Int32} (h : fx_ix n f = some j) : j < n ∧ f = nI j := by
  unfold fx_ix at h
  split at h
  · rename_i hc
    have e := Option.some.inj h
    have h31 := f.toInt_lt
    refine ⟨by omega, Int32.toInt_inj.mp ?_⟩
    rw [nI_toInt (by omega)]
    omega
  · cases h
theorem fx_ix_none {n : Nat} {f : Int32} (hn : n < 2 ^ 31) (h : fx_ix n f = none) : ∀ j, j < n → f ≠ nI j := by
  unfold fx_ix at h
  split at h
  · cases h
  · rename_i hc
    intro j hj e
    subst e
    rw [nI_toInt (by omega)] at hc
    omega
theorem fx_ix_in {n j : Nat} (hn : n < 2 ^ 31) (h : j < n) : fx_ix n (nI j) = some j := by
  unfold fx_ix
  rw [nI_toInt (by omega), if_pos (by omega)]
  simp
def fa_add (A : fx_A) (f o y n k : Int32) : Int32 × fx_A := match fx_ix 4 f, fx_ix 32 o, fx_ix 256 y, fx_ix 256 n with
  | some j, some vo, some vy, some vn => if (A.1 j).length < 40 then (nI (A.1 j).length, fx_u A.1 j (A.1 j ++ [(vo, vy, vn, k)]), A.2) else (-2, A)
  | _, _, _, _ => (-1, A)
def fa_clear (A : fx_A) (f : Int32) : Int32 × fx_A := match fx_ix 4 f with
  | some j => (nI (A.1 j).length, fx_u A.1 j [], A.2)
  | none => (-1, A)
def fa_size (A : fx_A) (f : Int32) : Int32 × fx_A := match fx_ix 4 f with
  | some j => (nI (A.1 j).length, A)
  | none => (-1, A)
def fa_shape (A : fx_A) (f i : Int32) : Int32 × fx_A := match fx_ix 4 f with
  | some j => (match fx_ix (A.1 j).length i with
    | some t => (nI (fx_O (A.1 j) t + 32 * (fx_Y (A.1 j) t) + 8192 * (fx_N (A.1 j) t)), A)
    | none => (-1, A))
  | none => (-1, A)
def fa_number (A : fx_A) (f i : Int32) : Int32 × fx_A := match fx_ix 4 f with
  | some j => (match fx_ix (A.1 j).length i with
    | some t => (fx_K (A.1 j) t, A)
    | none => (nI 0, A))
  | none => (nI 0, A)
noncomputable def fa_fault (A : fx_A) (f : Int32) : Int32 × fx_A := match fx_ix 4 f with
  | some j => (nI (fx_chk (A.1 j) % 8), A)
  | none => (-1, A)
noncomputable def fa_place (A : fx_A) (f : Int32) : Int32 × fx_A := match fx_ix 4 f with
  | some j => (fx_plc (A.1 j), A)
  | none => (-1, A)
def fa_set (A : fx_A) (i v : Int32) : Int32 × fx_A := match fx_ix 16 i with
  | some t => (A.2.2.1 t, A.1, A.2.1, upd A.2.2.1 t v, A.2.2.2)
  | none => (nI 0, A)
def fa_steps (A : fx_A) : Int32 × fx_A := (A.2.2.2.2, A)
def fa_rule (A : fx_A) (c a m v : Int32) : Int32 × fx_A := if -1 ≤ a.toInt ∧ a.toInt < 12 then (if A.2.2.2.1.length < 8 then (nI (A.2.2.2.1.length + 1), A.1, A.2.1, A.2.2.1, A.2.2.2.1 ++ [(c, a, m, v)], A.2.2.2.2) else (-2, A)) else (-1, A)
def fa_forget (A : fx_A) : Int32 × fx_A := (nI A.2.2.2.1.length, A.1, A.2.1, A.2.2.1, [], A.2.2.2.2)
def fa_compile (A : fx_A) (f v : Int32) : Int32 × fx_A := match fx_ix 4 f with
  | some j => if (A.2.2.2.1.flatMap fx_one).length ≤ 39 then (nI (fx_cmp A.2.2.2.1 v).length, fx_u A.1 j (fx_cmp A.2.2.2.1 v), A.2) else (-2, A)
  | none => (-1, A)
def fa_judge (A : fx_A) : Int32 × fx_A := (fx_jdg (fun t => (fx_do (A.1 (4 + t)) A.2.2.1).1) A.2.1, if A.2.1 = 0 then A else (A.1, A.2.1, A.2.2.1, A.2.2.2.1, nI (fx_do (A.1 4) A.2.2.1).2))
/-- how it ended, the answer, the state -/
noncomputable def fa_test (A : fx_A) (f : Int32) : Int32 × Int32 × fx_A := match fx_ix 4 f with
  | some j => if fx_chk (A.1 j) = 0 then (nI 0, (fx_do (A.1 j) A.2.2.1).1, A.1, A.2.1, A.2.2.1, A.2.2.2.1, nI (fx_do (A.1 j) A.2.2.1).2) else (nI 2, nI 0, A)
  | none => (nI 1, nI 0, A)
noncomputable def fa_install (A : fx_A) (f : Int32) : Int32 × Int32 × fx_A := match fx_ix 4 f with
  | some j => if fx_chk (A.1 j) = 0 then (if A.2.1 < 4 then (nI 0, nI (A.2.1 + 1), fx_u A.1 (4 + A.2.1) (A.1 j), A.2.1 + 1, A.2.2) else (nI 3, nI 0, A)) else (nI 2, nI 0, A)
  | none => (nI 1, nI 0, A)
/-! they keep what must hold -/
theorem fx_oks_u {Ls : Nat → fx_Prg} (h : ∀ f, fx_ok (Ls f)) {j : Nat} {L : fx_Prg} (hL : fx_ok L) : ∀ f, fx_ok (fx_u Ls j L f) := by
  intro f
  unfold fx_u
  split
  · exact hL
  · exact h f
theorem fx_ok_nil : fx_ok [] := ⟨by simp, fun i hi => absurd hi (by simp)⟩
theorem fx_ok_list {L : fx_Prg} (h : L.length ≤ 40) (hm : ∀ x ∈ L, x.1 < 32 ∧ x.2.1 < 256 ∧ x.2.2.1 < 256) : fx_ok L := by
  refine ⟨h, fun i hi => ?_⟩
  have e : L.getD i (0, 0, 0, 0) = L[i] := by simp [List.getD, hi]
  unfold fx_O fx_Y fx_N
  rw [e]
  exact hm _ (List.getElem_mem hi)
theorem fx_ok_cmp {rs : List fx_Rule} {v : Int32} (h : (rs.flatMap fx_one).length ≤ 39) : fx_ok (fx_cmp rs v) := by
  refine fx_ok_list ?_ (fun x hx => ?_)
  · unfold fx_cmp
    rw [List.length_append]
    simp only [List.length_cons, List.length_nil]
    omega
  · unfold fx_cmp at hx
    rcases List.mem_append.mp hx with hx | hx
    · obtain ⟨q, -, hq⟩ := List.mem_flatMap.mp hx
      unfold fx_one at hq
      split at hq <;> simp at hq <;> rcases hq with rfl | rfl | rfl | rfl | rfl | rfl <;> refine ⟨?_, ?_, ?_⟩ <;> show _ < _ <;> simp
    · simp at hx
      subst hx
      refine ⟨?_, ?_, ?_⟩ <;> show _ < _ <;> simp
theorem fx_AI_u {A : fx_A} (h : fx_AI A) {j : Nat} (hj : j < 4) {L : fx_Prg} (hL : fx_ok L) : fx_AI (fx_u A.1 j L, A.2) := by
  obtain ⟨h1, h2, h3, h4, h5⟩ := h
  refine ⟨fx_oks_u h1 hL, h2, fun t ht => ?_, h4, h5⟩
  show fx_chk (fx_u A.1 j L (4 + t)) = 0
  rw [fx_u_ne (by omega)]
  exact h3 t ht
theorem fi_add {A : fx_A} (h : fx_AI A) (f o y n k : Int32) : fx_AI (fa_add A f o y n k).2 := by
  unfold fa_add
  split
  · rename_i j vo vy vn e1 e2 e3 e4
    split
    · rename_i hl
      exact fx_AI_u h (fx_ix_some e1).1 (fx_ok_app (h.1 j) hl (fx_ix_some e2).1 (fx_ix_some e3).1 (fx_ix_some e4).1)
    · exact h
  · exact h
theorem fi_clear {A : fx_A} (h : fx_AI A) (f : Int32) : fx_AI (fa_clear A f).2 := by
  unfold fa_clear
  split
  · rename_i j e
    exact fx_AI_u h (fx_ix_some e).1 fx_ok_nil
  · exact h
theorem fi_set {A : fx_A} (h : fx_AI A) (i v : Int32) : fx_AI (fa_set A i v).2 := by
  unfold fa_set
  split <;> exact h
theorem fi_rule {A : fx_A} (h : fx_AI A) (c a m v : Int32) : fx_AI (fa_rule A c a m v).2 := by
  unfold fa_rule
  split
  · rename_i hc
    split
    · rename_i hl
      obtain ⟨h1, h2, h3, h4, h5⟩ := h
      refine ⟨h1, h2, h3, ?_, fun q hq => ?_⟩
      · show (A.2.2.2.1 ++ [(c, a, m, v)]).length ≤ 8
        rw [List.length_append]
        simp only [List.length_cons, List.length_nil]
        omega
      · rcases List.mem_append.mp hq with hq | hq
        · exact h5 q hq
        · rw [List.mem_singleton] at hq
          subst hq
          exact hc
    · exact h
  · exact h
theorem fi_forget {A : fx_A} (h : fx_AI A) : fx_AI (fa_forget A).2 := ⟨h.1, h.2.1, h.2.2.1, Nat.zero_le 8, fun q hq => by cases hq⟩
theorem fi_compile {A : fx_A} (h : fx_AI A) (f v : Int32) : fx_AI (fa_compile A f v).2 := by
  unfold fa_compile
  split
  · rename_i j e
    split
    · rename_i hl
      exact fx_AI_u h (fx_ix_some e).1 (fx_ok_cmp hl)
    · exact h
  · exact h
theorem fi_judge {A : fx_A} (h : fx_AI A) : fx_AI (fa_judge A).2 := by
  unfold fa_judge
  by_cases e : A.2.1 = 0
  · simp only [e, if_true]
    exact h
  · simp only [e, if_false]
    exact h
theorem fi_test {A : fx_A} (h : fx_AI A) (f : Int32) : fx_AI (fa_test A f).2.2 := by
  unfold fa_test
  split
  · split <;> exact h
  · exact h
theorem fi_install {A : fx_A} (h : fx_AI A) (f : Int32) : fx_AI (fa_install A f).2.2 := by
  unfold fa_install
  split
  · rename_i j e
    split
    · rename_i hc
      split
      · rename_i hs
        obtain ⟨h1, h2, h3, h4, h5⟩ := h
        refine ⟨fx_oks_u h1 (h1 j), by show A.2.1 + 1 ≤ 4; omega, fun t ht => ?_, h4, h5⟩
        have ht : t < A.2.1 + 1 := ht
        show fx_chk (fx_u A.1 (4 + A.2.1) (A.1 j) (4 + t)) = 0
        by_cases e2 : t = A.2.1
        · subst e2
          rw [fx_u_at]
          exact hc
        · rw [fx_u_ne (by omega)]
          exact h3 t (by omega)
      · exact h
    · exact h
  · exact h
/-! the two sides hold it -/
/-- the class: stacked, words, rules, steps, lengths, rows of the filters, rows of the rules, the rest -/
abbrev fx_J : Type := Nat × (Nat → Int32) × Nat × Int32 × (Nat → Nat) × (Nat → Nat → Int32) × (Nat → Nat → Int32) × (Nat → Nat → Int32) × (Nat → Nat → Int32) × (Nat → Int32) × (Nat → Int32) × (Nat → Int32) × (Nat → Int32) × (Nat → Int32) × Int32 × Int32 × (Nat → Int32)
def fx_cr (A : fx_A) (J : fx_J) : Prop := match J with
  | (stk, w, cnt, dn, ln, Fo, Fy, Fn, Fk, gc, ga, gm, gv, _, _, _, _) => stk = A.2.1 ∧ w = A.2.2.1 ∧ cnt = A.2.2.2.1.length ∧ dn = A.2.2.2.2 ∧ ln = (fun f => (A.1 f).length) ∧ (∀ f, f < 8 → fx_rep (A.1 f) (Fo f) (Fy f) (Fn f) (Fk f)) ∧ fx_rrep A.2.2.2.1 gc ga gm gv
/-- the model: stacked, words, rules, steps, how the last call ended, the rows of all filters, sizes, rows of the rules, the rest -/
abbrev fx_M : Type := Nat × (Nat → Int32) × Nat × Int32 × Int32 × (Nat → Int32) × (Nat → Int32) × (Nat → Int32) × (Nat → Int32) × (Nat → Int32) × (Nat → Int32) × (Nat → Int32) × (Nat → Int32) × (Nat → Int32) × (Nat → Int32) × (Nat → Int32)
def fx_mr (A : fx_A) (M : fx_M) : Prop := match M with
  | (stk, w, cnt, stp, _, fo, fy, fn, fk, zs, gc, ga, gm, gv, _, _) => stk = A.2.1 ∧ w = A.2.2.1 ∧ cnt = A.2.2.2.1.length ∧ stp = A.2.2.2.2 ∧ (∀ f, f < 8 → zs f = nI (A.1 f).length ∧ fx_rep (A.1 f) (fun i => fo (40 * f + i)) (fun i => fy (40 * f + i)) (fun i => fn (40 * f + i)) (fun i => fk (40 * f + i))) ∧ fx_rrep A.2.2.2.1 gc ga gm gv
theorem fx_ln_u (Ls : Nat → fx_Prg) (j : Nat) (L : fx_Prg) {n : Nat} (hn : n = L.length) : fx_u (fun f => (Ls f).length) j n = fun f => (fx_u Ls j L f).length := by
  funext f
  unfold fx_u
  split
  · exact hn
  · rfl
theorem fx_reps_u {Ls : Nat → fx_Prg} {Fo Fy Fn Fk : Nat → Nat → Int32} (h : ∀ f, f < 8 → fx_rep (Ls f) (Fo f) (Fy f) (Fn f) (Fk f)) (j : Nat) {L : fx_Prg} {o y n k : Nat → Int32} (hL : fx_rep L o y n k) : ∀ f, f < 8 → fx_rep (fx_u Ls j L f) (fx_u Fo j o f) (fx_u Fy j y f) (fx_u Fn j n f) (fx_u Fk j k f) := by
  intro f hf
  unfold fx_u
  by_cases e : f = j
  · simp only [e, if_true]
    exact hL
  · simp only [e, if_false]
    exact h f hf
theorem fx_rrep_app {rs : List fx_Rule} {gc ga gm gv : Nat → Int32} (h : fx_rrep rs gc ga gm gv) (c a m v : Int32) : fx_rrep (rs ++ [(c, a, m, v)]) (upd gc rs.length c) (upd ga rs.length a) (upd gm rs.length m) (upd gv rs.length v) := by
  intro i hi
  rw [List.length_append] at hi
  simp only [List.length_cons, List.length_nil] at hi
  unfold upd
  by_cases e : i = rs.length
  · subst e
    simp
  · rw [List.getElem?_append_left (by omega), h i (by omega)]
    simp [e]
theorem fx_rrep_nil (gc ga gm gv : Nat → Int32) : fx_rrep [] gc ga gm gv := fun i hi => absurd hi (by simp)
theorem fx_rrep_arg {rs : List fx_Rule} {gc ga gm gv : Nat → Int32} (h : fx_rrep rs gc ga gm gv) (ha : ∀ q ∈ rs, -1 ≤ q.2.1.toInt ∧ q.2.1.toInt < 12) : ∀ r, r < rs.length → -1 ≤ (ga r).toInt := by
  intro r hr
  exact (ha _ (List.mem_of_getElem? (h r hr))).1
/-- the model's rows, one filter of them changed -/
theorem fx_mreps_u {Ls : Nat → fx_Prg} {fo fy fn fk zs fo' fy' fn' fk' zs' : Nat → Int32} (hok : ∀ f, fx_ok (Ls f)) (h : ∀ f, f < 8 → zs f = nI (Ls f).length ∧ fx_rep (Ls f) (fun i => fo (40 * f + i)) (fun i => fy (40 * f + i)) (fun i => fn (40 * f + i)) (fun i => fk (40 * f + i))) (j : Nat) {L : fx_Prg} (hs : fx_same j fo fy fn fk zs fo' fy' fn' fk' zs') (hz : zs' j = nI L.length) (hL : fx_rep L (fun i => fo' (40 * j + i)) (fun i => fy' (40 * j + i)) (fun i => fn' (40 * j + i)) (fun i => fk' (40 * j + i))) :
    ∀ f, f < 8 → zs' f = nI (fx_u Ls j L f).length ∧ fx_rep (fx_u Ls j L f) (fun i => fo' (40 * f + i)) (fun i => fy' (40 * f + i)) (fun i => fn' (40 * f + i)) (fun i => fk' (40 * f + i)) := by
  intro f hf
  by_cases e : f = j
  · subst e
    rw [fx_u_at]
    exact ⟨hz, hL⟩
  · rw [fx_u_ne e]
    exact ⟨(hs.2 f e).trans (h f hf).1, fx_rep_same hs e (hok f).1 (h f hf).2⟩
theorem fx_cr_mk {Ls : Nat → fx_Prg} {stk cnt : Nat} {w : Nat → Int32} {rs : List fx_Rule} {dn : Int32} {ln : Nat → Nat} {Fo Fy Fn Fk : Nat → Nat → Int32} {gc ga gm gv g cs : Nat → Int32} {ma mx : Int32} (hc : cnt = rs.length) (h1 : ln = fun f => (Ls f).length) (h2 : ∀ f, f < 8 → fx_rep (Ls f) (Fo f) (Fy f) (Fn f) (Fk f)) (h3 : fx_rrep rs gc ga gm gv) : fx_cr (Ls, stk, w, rs, dn) (stk, w, cnt, dn, ln, Fo, Fy, Fn, Fk, gc, ga, gm, gv, g, ma, mx, cs) := by
  unfold fx_cr
  exact ⟨rfl, rfl, hc, rfl, h1, h2, h3⟩
theorem fx_mr_mk {Ls : Nat → fx_Prg} {stk cnt : Nat} {w : Nat → Int32} {rs : List fx_Rule} {stp thr : Int32} {fo fy fn fk zs gc ga gm gv cs cm : Nat → Int32} (hc : cnt = rs.length) (h2 : ∀ f, f < 8 → zs f = nI (Ls f).length ∧ fx_rep (Ls f) (fun i => fo (40 * f + i)) (fun i => fy (40 * f + i)) (fun i => fn (40 * f + i)) (fun i => fk (40 * f + i))) (h3 : fx_rrep rs gc ga gm gv) : fx_mr (Ls, stk, w, rs, stp) (stk, w, cnt, stp, thr, fo, fy, fn, fk, zs, gc, ga, gm, gv, cs, cm) := by
  unfold fx_mr
  exact ⟨rfl, rfl, hc, rfl, h2, h3⟩
theorem fa_add_X {A : fx_A} {f o y n k : Int32} (hbad : ¬ ((∃ j, j < 4 ∧ f = nI j) ∧ 0 ≤ o.toInt ∧ o.toInt ≤ 31 ∧ (∃ j, j < 256 ∧ y = nI j) ∧ (∃ j, j < 256 ∧ n = nI j))) : fa_add A f o y n k = (-1, A) := by
  unfold fa_add
  split
  · rename_i j vo vy vn e1 e2 e3 e4
    have h2 := fx_ix_some e2
    refine absurd ⟨⟨j, fx_ix_some e1⟩, ?_, ?_, ⟨vy, fx_ix_some e3⟩, ⟨vn, fx_ix_some e4⟩⟩ hbad
    · rw [h2.2, nI_toInt (by omega)]
      omega
    · rw [h2.2, nI_toInt (by omega)]
      omega
  · rfl
theorem fa_add_N {A : fx_A} {j vo vy vn : Nat} {k : Int32} (hj : j < 4) (ho : vo < 32) (hy : vy < 256) (hn : vn < 256) : fa_add A (nI j) (nI vo) (nI vy) (nI vn) k = if (A.1 j).length < 40 then (nI (A.1 j).length, fx_u A.1 j (A.1 j ++ [(vo, vy, vn, k)]), A.2) else (-2, A) := by
  unfold fa_add
  rw [fx_ix_in (by decide) hj, fx_ix_in (by decide) ho, fx_ix_in (by decide) hy, fx_ix_in (by decide) hn]
theorem fx_of_int {x : Int32} {n : Nat} (hn : n < 2 ^ 31) (h0 : 0 ≤ x.toInt) (h : x.toInt ≤ n) : ∃ j, j ≤ n ∧ x = nI j := by
  refine ⟨x.toInt.toNat, by omega, Int32.toInt_inj.mp ?_⟩
  rw [nI_toInt (by omega)]
  omega
