/-! what is thrown, and how it is caught -/
section TH1
variable {p : Program} {l : Launch} {e : Env} {R : Room} {s : State} {m : MethodId} {args : Array Value} {below : List Frame} {meth : Method} {c : Code} {T : State} {locs : List Loc} {cells slots : Nat}
/-- a walk begun anew where it stands -/
theorem th_rebase (X : Stand p l e R s m args below meth c T locs cells slots) {k n : Nat} (hc : cells + k ≤ R.cells) (hs : slots + n ≤ R.slots) : Stand p l e { R with cells := k, slots := n } (T.setFrames (.invoking m args :: below)) m args below meth c T [] 0 0 := by
  obtain ⟨g₀, hfr⟩ := X.frames_eq
  have hcur : T.cur < T.threads.size := State.cur_lt_of_frames hfr
  have hfr' : (T.setFrames (.invoking m args :: below)).frames = .invoking m args :: below := State.frames_setFrames _ hcur
  have hmeth' : T.vm.method? m = some meth := X.method'
  obtain ⟨t, ht, -⟩ := State.frames_cons hfr
  obtain ⟨t', ht', -⟩ := State.frames_cons hfr'
  refine ⟨X.admits, X.cas, X.clock, hfr', ?_, ?_, hmeth', X.code, X.here, X.tail, State.WarmedH.refl (T.setFrames (.invoking m args :: below)), (by rw [State.stackLimits_setFrames]), (by rw [State.stackBytes_setFrames]), ?_⟩
  · have h := X.room
    have hlu : (T.setFrames (.invoking m args :: below)).localsInUse = s.localsInUse := by
      rw [State.localsInUse_invoking hfr' hmeth' X.code, State.localsInUse_invoking X.frames X.method X.code]
    have hfl : (T.setFrames (.invoking m args :: below)).frames.length = s.frames.length := by rw [hfr', X.frames]
    have h1 := X.cellsAbove hc
    have h2 := X.slotsAbove hs
    have h3 := X.book
    have h4 : e.platform.stackLimits (T.setFrames (.invoking m args :: below)).me = e.platform.stackLimits s.me := by rw [State.stackLimits_setFrames]; exact X.limits
    have h5 : (T.setFrames (.invoking m args :: below)).me.stackBytes = s.me.stackBytes := by rw [State.stackBytes_setFrames]; exact X.bytes
    simp only [State.hasRoom, Bool.and_eq_true, decide_eq_true_eq] at h ⊢
    rw [hlu, hfl, h4, h5]
    exact ⟨⟨⟨h.1.1.1, h1⟩, h2⟩, h3⟩
  · have h := X.hears
    have hal := X.warmed.alike
    unfold State.hears at h ⊢
    cases below with
    | nil => simpa [State.setFrames, hal.method?] using h
    | cons b r =>
      cases b <;> simpa [State.setFrames, State.code?_eq, hal.method?] using h
  · have h := (State.sameButNew.refl (T.setFrames (.invoking m args :: below)) ht').setFrames T.frames (by simpa [State.setFrames] using hcur)
    rw [State.setFrames_setFrames, State.setFrames_self ht] at h
    exact h
end TH1
def th_Q (below : List Frame) (Qt : Array Value → State → Nat → State → Prop) (a : Array Value) (s : State) (mc ms : Nat) (free : Nat → Prop) : State → Prop := fun t =>
  ∃ x, t.status = .running ∧ Ended t below (.threw x) ∧ Qt a s x t ∧ s.WarmedH t.vm ∧ ∃ L, s.sameButNew ({ t with vm := s.vm } : State) L mc ms ∧ ∀ q ∈ L, free q.base
theorem th_same {s t : State} {k n : Nat} (h : s.sameButNew t [] k n) : ∀ q, q < s.heap.size → t.heap[q]? = s.heap[q]? := by
  intro q hq
  obtain ⟨c', h1, h2, h3, h4⟩ := h.2.2.2.2.2 q s.heap[q] (Array.getElem?_eq_getElem hq)
  rw [h1, Array.getElem?_eq_getElem hq]
  have e : c'.slots = s.heap[q].slots := Array.ext_getElem? (fun i => h4 i (by simp))
  rw [h2, e]
section TH2
variable {p : Program} {l : Launch} {e : Env} {R : Room} {s : State} {m : MethodId} {args : Array Value} {below : List Frame} {meth : Method} {c : Code} {H : Heap} {locs : List Loc} {cells slots : Nat}
variable {cc : ByteArray} {pc : Nat} {ls : Array Slot}
/-- new X(); dup; its constructor; athrow -/
theorem th_new {own C : String} {ic0 ic : Nat} {names : List String} {Qt : Array Value → State → Nat → State → Prop} {free : Nat → Prop} (hexec : p.tables.exec = Jvm.exec) (hb : c.code = cc) (hml : c.maxLocals = ls.size) (hexc : c.exceptionTable.isEmpty = true) (hlocks : meth.locks = false) (htr : l.stackTraces = false) (hown : s.vm.findClass own = some m.cls)
    (hclink : (Cond.classLink own ic0 C).before args s = true) (hins : (Cond.instantiable C 6).before args s = true) (hini : (Cond.initialized C).before args s = true) (hfit : Bundle.fit C = true) (hnames : ∀ n ∈ names, Bundle.fit n = true)
    (hat : ∀ U : State, s.WarmedH U.vm → U.heap = H → ∀ a ∈ Bundle.ownAtoms0 own ic C names, a.before args U = true)
    (hd0 : decode cc pc = .ok (.new ic0, 3)) (hd1 : decode cc (pc + 3) = .ok (.dup, 1)) (hd2 : decode cc (pc + 3 + 1) = .ok (.invokespecial ic, 3)) (hd3 : decode cc (pc + 3 + 1 + 3) = .ok (.athrow, 1))
    (hcells : cells + 1 ≤ R.cells) (hslots : slots + 6 ≤ R.slots) (hfr : names.length + 3 < R.frames) (hlo : 1 + (13 * (names.length + 1) + 41) ≤ R.locals)
    (hq : ∀ (U : State) (ce : Cell), s.WarmedH U.vm → H.size ≤ U.heap.size → (∀ q, q < H.size → U.heap[q]? = H[q]?) → U.heap[H.size]? = some ce → U.vm.findClass C = some ce.cls → ce.vm = .none → Qt args s H.size U) (hf : ∀ q ∈ locs, free q.base) :
    W p l e R s m args below meth c H locs cells slots (th_Q below Qt args s (cells + 1) (slots + 6) free) (F0 m pc ls []) := by
  intro T hT X
  have X' := th_rebase X hcells hslots
  have hTh : (T.setFrames (.invoking m args :: below)).heap = H := hT
  have hWs : s.WarmedH (T.setFrames (.invoking m args :: below)).vm := X.warmed
  have hown' : (T.setFrames (.invoking m args :: below)).vm.findClass own = some m.cls := by
    show T.vm.findClass own = some m.cls
    rw [X.warmed.alike.findClass]
    exact hown
  have hat' := hat _ hWs hTh
  have htr' : e.platform.stackTraces = false := by
    rw [X.admits.platform]
    exact htr
  have key : W p l e { R with cells := 1, slots := 6 } (T.setFrames (.invoking m args :: below)) m args below meth c H [] 0 0 (fun t => t.status = .running ∧ Ended t below (.threw H.size) ∧ (T.setFrames (.invoking m args :: below)).WarmedH t.vm ∧ (T.setFrames (.invoking m args :: below)).sameButNew ({ t with vm := (T.setFrames (.invoking m args :: below)).vm } : State) [] (0 + 1) (0 + 6) ∧ ∃ ce, t.heap[H.size]? = some ce ∧ Bundle.OwnCell args (T.setFrames (.invoking m args :: below)) C H.size .null ce) (F0 m pc ls []) := by
    refine W.newc hexec hb hown' (word_at hWs (Or.inl rfl) hclink) (word_at hWs (Or.inl rfl) hins) (word_at hWs (Or.inl rfl) hini) rfl hd0 (Nat.le_refl _) (Nat.le_refl _) (fun cC kC f1 f2 f3 f4 => ?_)
    refine lv_dup hexec hb hd1 rfl ?_
    intro T2 hT2 X2
    obtain ⟨U, st, h1, h2, h3, h4, ce, h5, h6⟩ := X2.ctorThrow0 hexec htr' hown' hfit hnames hat' (fun x hx => by cases hx) f1 f2 (a := H.size) (by rw [hT2, Array.getElem?_push_size]) (by rw [hTh]; exact Nat.le_refl _) (g := F0 m (pc + 3 + 1) ls [.ref H.size, .ref H.size]) rfl hml.symm rfl rfl (rest := []) rfl (by rw [hb]; exact hd2) (by rw [hb]; exact hd3) (fun x hx => by
      rw [Array.isEmpty_iff] at hexc
      rw [hexc] at hx
      cases hx) hfr (by show 2 * 0 + (1 + 0) + _ ≤ R.locals; omega) hlocks
    exact ⟨U, st, h1, h2, h3, h4, ce, h5, h6⟩
  obtain ⟨t, st, h1, h2, h3, h4, ce, h5, h6⟩ := key T hT X'
  have hsm : T.sameButNew ({ t with vm := T.vm } : State) [] (0 + 1) (0 + 6) := by
    obtain ⟨e1, r⟩ := h4
    exact ⟨by rw [State.setFrames_setFrames] at e1; exact e1, r⟩
  have hW9 : s.WarmedH t.vm := State.WarmedH.trans X.warmed h3
  have hsz : H.size ≤ t.heap.size := by
    have := h4.2.1
    rw [hTh] at this
    exact this
  refine ⟨t, st, H.size, h1, h2, ?_, hW9, locs, ?_, hf⟩
  · refine hq t ce hW9 hsz (fun q hq2 => ?_) h5 ?_ h6.vm
    · have := th_same h4 q (by rw [hTh]; exact hq2)
      rw [hTh] at this
      exact this
    · rw [h3.alike.findClass]
      exact h6.cls
  · have h := X.same.trans (hsm.setVm s.vm)
    rw [List.append_nil] at h
    exact h
end TH2
/-- the words that a throw asks, of the law's own start -/
def th_ok : Cond → Bool
  | .castable _ _ => true
  | .laysStatic _ _ _ => true
  | .isRef (.static _ _ _) => true
  | .declares _ => true
  | w => goodWord w
/-- as at the law's start: the tables warmer, the cells of then as they were -/
def th_X (s0 : State) (U : State) : Prop := s0.WarmedH U.vm ∧ s0.heap.size ≤ U.heap.size ∧ ∀ a, a < s0.heap.size → U.heap[a]? = s0.heap[a]?
theorem th_isRef {C n d : String} {s0 U : State} {A A' : Array Value} (hX : th_X s0 U) (h : (Cond.isRef (.static C n d)).before A s0 = true) : (Cond.isRef (.static C n d)).before A' U = true := by
  have h1 : (Cond.isRef (.static C n d)).holds A (s0.setVm U.vm) none (s0.setVm U.vm) [] = true := by
    have e1 := Cond.value_setVm (args := A) (o := none) hX.1.alike (.isRef (.static C n d)) [] rfl
    unfold Cond.before Cond.holds at h
    unfold Cond.holds
    rw [e1]
    exact h
  have e2 : (Term.static C n d).eval A' U none [] U = (Term.static C n d).eval A (s0.setVm U.vm) none [] (s0.setVm U.vm) ∨ (Term.static C n d).eval A (s0.setVm U.vm) none [] (s0.setVm U.vm) = none := by
    cases hi : (s0.setVm U.vm).fieldFound? C n d with
    | none =>
      right
      simp [Term.eval, State.fieldNamed?, hi]
    | some w =>
      obtain ⟨cf, k, i, f⟩ := w
      have hi2 : U.fieldFound? C n d = some (cf, k, i, f) := hi
      by_cases hst : f.isStatic = true
      · cases hsta : k.statics with
        | none =>
          right
          simp [Term.eval, State.fieldNamed?, hi, hst, hsta]
        | some a =>
          cases hcell : (s0.setVm U.vm).heap[a]? with
          | none =>
            right
            have hc2 : s0.heap[a]? = none := hcell
            simp [Term.eval, State.fieldNamed?, hi, hst, hsta, hc2]
          | some cell =>
            left
            have hlt : a < s0.heap.size := (Array.getElem?_eq_some_iff.mp hcell).1
            have hc2 : U.heap[a]? = some cell := (hX.2.2 a hlt).trans hcell
            have hc3 : s0.heap[a]? = some cell := hcell
            simp [Term.eval, State.fieldNamed?, hi, hi2, hst, hsta, hc2, hc3]
      · right
        simp [Term.eval, State.fieldNamed?, hi, hst]
  unfold Cond.before Cond.holds
  unfold Cond.holds at h1
  simp only [Cond.value] at h1 ⊢
  rcases e2 with e2 | e2
  · rw [e2]
    exact h1
  · rw [e2] at h1
    simp at h1
theorem th_atom {w : Cond} (hw : th_ok w = true) {s0 U : State} {A A' : Array Value} (hX : th_X s0 U) (h : w.before A s0 = true) : w.before A' U = true := by
  unfold th_ok at hw
  split at hw
  · exact (va_Nw.warmC hX.1 (va_Nw.of rfl h)).use rfl
  · rename_i x y z
    obtain ⟨c, k, i, f, a, cell, hc, hi, hst, ha, hcell, hs, hcls, hlt, hty⟩ := Cond.laysStatic_spec (Cond.laysStatic_setVm hX.1.alike h)
    have hlt2 : a < s0.heap.size := (Array.getElem?_eq_some_iff.mp hcell).1
    exact Cond.laysStatic_of (s := U) hc hi hst ha ((hX.2.2 a hlt2).trans hcell) hs hcls hlt hty
  · exact th_isRef hX h
  · exact (va_Nw.warmD hX.1 (va_Nw.of rfl h)).use rfl
  · exact word_at hX.1 (good_of_word hw) h
