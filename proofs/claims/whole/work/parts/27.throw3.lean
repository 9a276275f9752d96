def th_P {S : Type} (D : va_G) (cl : List vw_C) (tys : List (ClassId × FieldType)) (w : va_W) (sz : Nat) (CX : String) (w1 : S → va_W) : Array Value → State → Nat → State → Prop := fun _ st x t =>
  (∃ u : S, fs_E D cl tys (va_A w sz) (w1 u) t) ∧ va_F (va_A w sz) st t ∧ ∃ ce, t.heap[x]? = some ce ∧ t.vm.findClass CX = some ce.cls ∧ ce.vm = .none
def th_T (l : Launch) (y : MethodName) (ws : List Cond) (rm : Room) (D : va_G) (cl : List vw_C) (tys : List (ClassId × FieldType)) (X : State → Prop) (av : List Value) (w : va_W) (sz : Nat) (CX : String) {S : Type} (w1 : S → va_W) (mc ms : Nat) : Prop :=
  th_M l y ws rm (va_Pc av (fun U => fs_B D cl tys w sz U ∧ X U)) (th_P D cl tys w sz CX w1) mc ms (va_A w sz)
theorem th_head {l : Launch} {y : MethodName} {rm : Room} {D : va_G} {cl : List vw_C} {tys : List (ClassId × FieldType)} {X : State → Prop} {av : List Value} {w : va_W} {sz : Nat} {Qt : Array Value → State → Nat → State → Prop} {mc ms : Nat} {cc : ByteArray} {maxL : Nat} {ret : Option FieldType}
    (hy : plainName y.cls = true) (hav : (lg_sl av).length ≤ maxL)
    (body : ∀ (p : Program) (e : Env) (s : State) (m : MethodId) (below : List Frame) (meth : Method) (c : Code) (A : Nat → Prop) (ls : Array Slot), c.exceptionTable.isEmpty = true → X s → p.tables.exec = Jvm.exec → c.code = cc → meth.sig.returnType = ret → (∀ w ∈ fs_T, w.before av.toArray s = true) → s.vm.findClass y.cls = some m.cls → meth.locks = false → meth.name = y.name → c.maxLocals = maxL → va_K D cl tys s → va_P D cl w s.heap → va_D A w → va_S A s.heap s.heap [] → (∀ q, s.heap.size ≤ q → A q) → va_A w sz = A → s.heap.size = sz → lv_has ls maxL (lv_args 0 av) →
      W p l e rm s m av.toArray below meth c s.heap [] 0 0 (th_Q below Qt av.toArray s mc ms (va_A w sz)) (F0 m 0 ls [])) :
    th_M l y (Cond.code y cc maxL ret :: fs_T) rm (va_Pc av (fun U => fs_B D cl tys w sz U ∧ X U)) Qt mc ms (va_A w sz) := by
  refine MetFree.of_bodyS (code := cc) (maxLocals := maxL) (ret := ret) hy ?_ ?_
  · intro args s m h hn
    obtain ⟨meth, c, h1, h2, h3, h4, h5, h6, -, -⟩ := Cond.code_spec hn (atoms_spec (ws := Cond.code y cc maxL ret :: fs_T) h _ List.mem_cons_self)
    exact ⟨meth, c, h1, h2, h3, h4, h5, h6⟩
  · intro p e s m args below meth c s₁ B hml hv _
    obtain ⟨rfl, ⟨hsz, hP, hK, hD0⟩, hX⟩ := hv
    have hts := atoms_spec (ws := Cond.code y cc maxL ret :: fs_T) B.pre
    have hexc := B.noHandlers (hts _ List.mem_cons_self)
    have hown : s.vm.findClass y.cls = some m.cls := findClass_of_methodNamed B.named
    have hin : meth.name = y.name := (name_of_methodNamed B.named B.method).1
    have hl := lv_entry av (n := maxL) hav
    have hh0 : s₁.heap = s.heap := by rw [B.state]; rfl
    have K := body p e s m below meth c (va_A w sz) _ hexc hX B.exec B.bytes B.returns (fun w h => hts w (List.mem_cons_of_mem _ h)) hown B.notSynchronized hin hml hK hP (hD0.self (sz := sz)) va_S.rf (fun q h => Or.inr (hsz ▸ h)) rfl hsz hl
    rw [← lg_entry_eq] at K
    obtain ⟨t, a1, x, b1, b2, b3, b4, b5⟩ := K s₁ hh0 (Stand.of_body B)
    exact ⟨t, .threw x, a1, b1, b2, x, rfl, b3, b4, b5⟩
theorem th_Xgo {s0 s U : State} {A : Nat → Prop} {H : Heap} {locs : List Loc} (hX : th_X s0 s) (hS : va_S A s.heap H locs) (hnew : ∀ q, A q → s0.heap.size ≤ q) (hW : s.WarmedH U.vm) (hU : U.heap = H) : th_X s0 U := by
  refine ⟨State.WarmedH.trans hX.1 hW, by rw [hU]; exact Nat.le_trans hX.2.1 hS.1, fun a ha => ?_⟩
  rw [hU, hS.2.1 a (Nat.lt_of_lt_of_le ha hX.2.1) (fun h => absurd (hnew a h) (by omega))]
  exact hX.2.2 a ha
theorem th_Xb {s0 : State} (U : State) (g : JFrame) (mk : MethodId) (a : Array Value) (h : th_X s0 U) : th_X s0 (U.calling g mk a) := h
section TH4
variable {p : Program} {l : Launch} {e : Env} {R : Room} {s : State} {m : MethodId} {args : Array Value} {below : List Frame} {meth : Method} {c : Code} {H : Heap} {locs : List Loc} {cells slots : Nat}
variable {cc : ByteArray} {pc : Nat} {ls : Array Slot} {rest st0 : List Value} {D : va_G} {cl : List vw_C} {A : Nat → Prop} {tys : List (ClassId × FieldType)} {ws : va_W} {w wc wr : va_W} {sz mc ms : Nat}
/-- a new exception is made and thrown, the world as it stands -/
theorem th_raise {S : Type} {w1 : S → va_W} {own C : String} {ic0 ic : Nat} {names : List String} {s0 : State} {a0 : Array Value} (hexec : p.tables.exec = Jvm.exec) (hb : c.code = cc) (hml : c.maxLocals = ls.size) (hexc : c.exceptionTable.isEmpty = true) (hlocks : meth.locks = false) (htr : l.stackTraces = false) (hown : s.vm.findClass own = some m.cls)
    (hclink : (Cond.classLink own ic0 C).before args s = true) (hins : (Cond.instantiable C 6).before args s = true) (hini : (Cond.initialized C).before args s = true) (hfit : Bundle.fit C = true) (hnames : ∀ n ∈ names, Bundle.fit n = true)
    (h0 : ∀ a ∈ Bundle.ownAtoms0 own ic C names, a.before a0 s0 = true) (hok : (Bundle.ownAtoms0 own ic C names).all th_ok = true) (hX : th_X s0 s) (hnew : ∀ q, A q → s0.heap.size ≤ q)
    (hd0 : decode cc pc = .ok (.new ic0, 3)) (hd1 : decode cc (pc + 3) = .ok (.dup, 1)) (hd2 : decode cc (pc + 3 + 1) = .ok (.invokespecial ic, 3)) (hd3 : decode cc (pc + 3 + 1 + 3) = .ok (.athrow, 1))
    (hcells : cells + 1 ≤ R.cells) (hslots : slots + 6 ≤ R.slots) (hfr : names.length + 3 < R.frames) (hlo : 1 + (13 * (names.length + 1) + 41) ≤ R.locals)
    (hA : va_A w sz = A) (hK : va_K D cl tys s) (hS : va_S A s.heap H locs) (u : S) (hP : va_P D cl (w1 u) H) (hD : va_D A (w1 u)) :
    W p l e R s m args below meth c H locs cells slots (th_Q below (th_P D cl tys w sz C w1) args s (cells + 1) (slots + 6) (va_A w sz)) (F0 m pc ls []) := by
  subst hA
  refine th_new hexec hb hml hexc hlocks htr hown hclink hins hini hfit hnames (fun U hW hU a ha => th_atom (List.all_eq_true.mp hok a ha) (th_Xgo hX hS hnew hW hU) (h0 a ha)) hd0 hd1 hd2 hd3 hcells hslots hfr hlo (fun U ce hW hz hk hc hcls hvm => ?_) hS.2.2
  refine ⟨⟨u, hP.kept (fun k q hq => hk q.1 (hP k q hq).lt), va_K.moved hW.alike hK, hD⟩, ⟨Nat.le_trans hS.1 hz, fun q h1 h2 => ?_⟩, ce, hc, hcls, hvm⟩
  rw [hk q (Nat.lt_of_lt_of_le h1 hS.1)]
  exact hS.2.1 q h1 h2
variable {y : MethodName} {bytes : ByteArray} {maxL nL n index : Nat} {ret : Option FieldType} {wsy : List Cond} {rm : Room} {Pc : Array Value → State → Prop} {Ts : List Cond} {own C CX : String} {b : Addr} {As : List Value}
/-- what comes out of a call that throws -/
theorem th_out {S : Type} {w1 : S → va_W} {T : State} (X : Stand p l e R s m args below meth c T locs cells slots) (hT : T.heap = H) (isC isR : List Nat) (hP : va_P D cl ws H) (hD : va_D A ws) (hS : va_S A s.heap H locs) (hA : ∀ q, s.heap.size ≤ q → A q) (hC : isC.map (fun i => ws[i]?) = wc.map some) (hR : isR.map (fun i => ws[i]?) = wr.map some) (hn : va_nd isR = true) (hdis : ∀ i ∈ isR, i ∉ isC) (hnc : va_nd isC = true)
    (FX : CallFix p m c cc nL s args Ts own) (hM : th_M l y wsy rm Pc (th_P D cl tys wc H.size CX w1) mc ms (va_A wc H.size)) (cw : CallW R s args own C index y bytes maxL ret wsy rm mc ms n) (hp : va_P D cl wc H → va_D A wc → PreV s H C b Pc As)
    (hna : As.length = n) (hsize : ls.size = nL) (hstack : st0 = As.reverse ++ .ref b :: rest) (hW : (rest.map fun v => v.category).sum ≤ 8) (hdg : decode cc pc = .ok (.invokevirtual index, 3)) (hf : cells + mc ≤ R.cells ∧ slots + ms ≤ R.slots) :
    ∃ (x : Nat) (u : S) (T' : State) (locs1 : List Loc) (ce : Cell), Stand p l e R s m args below meth c T' locs1 (cells + mc) (slots + ms) ∧ va_P D cl (wr ++ w1 u) T'.heap ∧ va_D A (wr ++ w1 u) ∧ va_S A s.heap T'.heap locs1 ∧ T'.heap[x]? = some ce ∧ T'.vm.findClass CX = some ce.cls ∧ ce.vm = .none ∧
      ∀ target, Steps p.tables e below ((T'.setTop (F0 m pc ls rest)).pushFrame (.throwing x)) target → Steps p.tables e below (T.setTop (F0 m pc ls st0)) target := by
  have hF := va_free (wc := wc) hD hS hA isC hC
  have hPc : va_P D cl wc H := hP.sub isC (by
    have h := congrArg (List.filterMap id) hC
    rw [List.filterMap_map, List.filterMap_map] at h
    simpa using h)
  obtain ⟨x, st, t, T', L, hst, ⟨⟨u, hP1, hK1, hD1⟩, ⟨hz, hk⟩, ce, hc1, hc2, hc3⟩, X', hL, e1, e2, hsteps⟩ := th_callV (g := F0 m pc ls st0) (rest := rest) (b := b) (As := As) X hT FX hM cw (hp hPc (hD.sub isC hnc hC)) rfl hna hsize hstack (by show 2 * 0 + _ ≤ 8; omega) hdg hf
  rw [hst] at hz hk
  obtain ⟨hP2, hD2⟩ := va_join (wr := wr) (w1 := w1 u) hP hD isC isR hC hR hn hdis hk hF hP1 hD1
  refine ⟨x, u, T', locs ++ L, ce, X', by rw [e1]; exact hP2, hD2, ⟨Nat.le_trans hS.1 (by rw [e1]; exact hz), fun q h1 h2 => ?_, fun q hq => ?_⟩, by rw [e1]; exact hc1, by rw [e2]; exact hc2, hc3, hsteps⟩
  · rw [e1, hk q (Nat.lt_of_lt_of_le h1 hS.1) (fun z => h2 (hF q z))]
    exact hS.2.1 q h1 h2
  · rcases List.mem_append.mp hq with h | h
    · exact hS.2.2 q h
    · exact hF _ (hL q h)
/-- the caller is left too -/
theorem th_prop {S S2 : Type} {w1 : S → va_W} {w2 : S2 → va_W} (hexc : c.exceptionTable.isEmpty = true) (hlocks : meth.locks = false) (hAe : va_A w sz = A) (hK : va_K D cl tys s) (isC isR : List Nat) (hP : va_P D cl ws H) (hD : va_D A ws) (hS : va_S A s.heap H locs) (hA : ∀ q, s.heap.size ≤ q → A q) (hC : isC.map (fun i => ws[i]?) = wc.map some) (hR : isR.map (fun i => ws[i]?) = wr.map some) (hn : va_nd isR = true) (hdis : ∀ i ∈ isR, i ∉ isC) (hnc : va_nd isC = true)
    (FX : CallFix p m c cc nL s args Ts own) (hM : th_M l y wsy rm Pc (th_P D cl tys wc H.size CX w1) mc ms (va_A wc H.size)) (cw : CallW R s args own C index y bytes maxL ret wsy rm mc ms n) (hp : va_P D cl wc H → va_D A wc → PreV s H C b Pc As)
    (hna : As.length = n) (hsize : ls.size = nL) (hstack : st0 = As.reverse ++ .ref b :: rest) (hW : (rest.map fun v => v.category).sum ≤ 8) (hdg : decode cc pc = .ok (.invokevirtual index, 3)) (hf : cells + mc ≤ R.cells ∧ slots + ms ≤ R.slots)
    (kk : ∀ (u : S) (H1 : Heap), va_P D cl (wr ++ w1 u) H1 → va_D A (wr ++ w1 u) → ∃ u2, va_P D cl (w2 u2) H1 ∧ va_D A (w2 u2)) :
    W p l e R s m args below meth c H locs cells slots (th_Q below (th_P D cl tys w sz CX w2) args s (cells + mc) (slots + ms) (va_A w sz)) (F0 m pc ls st0) := by
  intro T hT X
  subst hAe
  obtain ⟨x, u, T', locs1, ce, X', hP2, hD2, hS2, c1, c2, c3, hsteps⟩ := th_out X hT isC isR hP hD hS hA hC hR hn hdis hnc FX hM cw hp hna hsize hstack hW hdg hf
  obtain ⟨hwalk, hrun, hended, hWm, hsame⟩ := X'.leaveThrown x (g := F0 m pc ls rest) rfl rfl rfl (fun z hz => by
    rw [Array.isEmpty_iff] at hexc
    rw [hexc] at hz
    cases hz) hlocks
  obtain ⟨u2, hP3, hD3⟩ := kk u T'.heap hP2 hD2
  exact ⟨_, hsteps _ hwalk, x, hrun, hended, ⟨⟨u2, hP3, va_K.moved hWm.alike hK, hD3⟩, ⟨hS2.1, hS2.2.1⟩, ce, c1, c2, c3⟩, hWm, locs1, hsame, hS2.2.2⟩
end TH4
