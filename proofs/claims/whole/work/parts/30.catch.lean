/-- contracts of methods with handlers -/
def fs_IW (l : Launch) (y : MethodName) (cw : Cond) (rm : Room) (D : va_G) (cl : List vw_C) (tys : List (ClassId × FieldType)) (X : State → Prop) (av : List Value) (w : va_W) (sz : Nat) {S : Type} (post : Int32 → S → Prop) (w1 : S → va_W) (mc ms : Nat) : Prop :=
  Met l y (cw :: fs_T) rm (va_Pc av (fun U => fs_B D cl tys w sz U ∧ X U)) (va_Qi post (fun u t => fs_E D cl tys (va_A w sz) (w1 u) t) (va_A w sz)) mc ms (va_A w sz)
theorem th_headW {l : Launch} {y : MethodName} {rm : Room} {D : va_G} {cl : List vw_C} {tys : List (ClassId × FieldType)} {X : State → Prop} {av : List Value} {w : va_W} {sz : Nat} {Qc : Array Value → State → Outcome → State → Prop} {mc ms : Nat} {cc : ByteArray} {maxL : Nat} {ret : Option FieldType} {hs : List (Nat × Nat × Nat × Nat)}
    (hy : plainName y.cls = true) (hav : (lg_sl av).length ≤ maxL)
    (body : ∀ (p : Program) (e : Env) (s : State) (m : MethodId) (below : List Frame) (meth : Method) (c : Code) (A : Nat → Prop) (ls : Array Slot), c.exceptionTable.toList.map (fun h => (h.startPc, h.endPc, h.handlerPc, h.catchType)) = hs → X s → p.tables.exec = Jvm.exec → c.code = cc → meth.sig.returnType = ret → (∀ w ∈ fs_T, w.before av.toArray s = true) → s.vm.findClass y.cls = some m.cls → meth.locks = false → c.maxLocals = maxL → va_K D cl tys s → va_P D cl w s.heap → va_D A w → va_S A s.heap s.heap [] → (∀ q, s.heap.size ≤ q → A q) → va_A w sz = A → s.heap.size = sz → lv_has ls maxL (lv_args 0 av) →
      W p l e rm s m av.toArray below meth c s.heap [] 0 0 (MQ below Qc av.toArray s mc ms (va_A w sz)) (F0 m 0 ls [])) :
    Met l y (Cond.codeWith y cc maxL ret hs :: fs_T) rm (va_Pc av (fun U => fs_B D cl tys w sz U ∧ X U)) Qc mc ms (va_A w sz) := by
  refine MetFree.of_bodyS (code := cc) (maxLocals := maxL) (ret := ret) hy ?_ ?_
  · intro args s m h hn
    obtain ⟨m', meth, c, h0, h1, h2, h3, h4, -, h5, h6, -⟩ := Cond.codeWith_spec (atoms_spec (ws := Cond.codeWith y cc maxL ret hs :: fs_T) h _ List.mem_cons_self)
    cases Option.some.inj (hn.symm.trans h0)
    exact ⟨meth, c, h1, h2, h3, h4, h5, h6⟩
  · intro p e s m args below meth c s₁ B hml hv _
    obtain ⟨rfl, ⟨hsz, hP, hK, hD0⟩, hX⟩ := hv
    have hts := atoms_spec (ws := Cond.codeWith y cc maxL ret hs :: fs_T) B.pre
    obtain ⟨m', meth', c', h0, h1, h2, -, -, htab, -, -, -⟩ := Cond.codeWith_spec (hts _ List.mem_cons_self)
    cases Option.some.inj (B.named.symm.trans h0)
    cases Option.some.inj (B.method.symm.trans h1)
    cases Option.some.inj ((Stand.of_body B).code.symm.trans h2)
    have hown : s.vm.findClass y.cls = some m.cls := findClass_of_methodNamed B.named
    have hl := lv_entry av (n := maxL) hav
    have hh0 : s₁.heap = s.heap := by rw [B.state]; rfl
    have K := body p e s m below meth c (va_A w sz) _ htab hX B.exec B.bytes B.returns (fun w h => hts w (List.mem_cons_of_mem _ h)) hown B.notSynchronized hml hK hP (hD0.self (sz := sz)) va_S.rf (fun q h => Or.inr (hsz ▸ h)) rfl hsz hl
    rw [← lg_entry_eq] at K
    obtain ⟨t, a1, o, b1, b2, b3⟩ := K s₁ hh0 (Stand.of_body B)
    exact ⟨t, o, a1, b1, b2, ⟨b3.1, b3.2⟩⟩
section TH5
variable {p : Program} {l : Launch} {e : Env} {R : Room} {s : State} {m : MethodId} {args : Array Value} {below : List Frame} {meth : Method} {c : Code} {H : Heap} {locs : List Loc} {cells slots : Nat} {Q : State → Prop}
variable {cc : ByteArray} {pc : Nat} {ls : Array Slot} {rest st0 : List Value} {D : va_G} {cl : List vw_C} {A : Nat → Prop} {tys : List (ClassId × FieldType)} {ws : va_W} {w wc wr : va_W} {sz mc ms : Nat}
variable {y : MethodName} {bytes : ByteArray} {maxL nL n index : Nat} {ret : Option FieldType} {wsy : List Cond} {rm : Room} {Pc : Array Value → State → Prop} {Qc : Array Value → State → Outcome → State → Prop} {free : Addr → Prop} {Ts : List Cond} {own C CX : String} {b : Addr} {As : List Value} {g : JFrame} {hs : List (Nat × Nat × Nat × Nat)}
theorem th_runS (FX : CallFix p m c cc nL s args Ts own) (hM : Met l y wsy rm Pc Qc mc ms free) (hrc : rm.cells = mc) (hrs : rm.slots = ms) (hfr : rm.frames + 1 ≤ R.frames) (hlo : 8 + (maxL + 11) + rm.locals ≤ R.locals) (hws : ∀ w ∈ wsy, ∀ (a' : Array Value) (U : State), s.WarmedH U.vm → w.before a' U = true) (hcode : (Cond.codeWith y bytes maxL ret hs).before args s = true) (hini : (Cond.initialized y.cls).before args s = true) (hy : y.cls ≠ "java/lang/invoke/MethodHandle" ∧ y.cls ≠ "java/lang/invoke/VarHandle") (hlen : (parseMethodDescriptor y.desc).map (fun d => d.parameters.length) = some n) (hlink : (Cond.methodLink own index y).before args s = true) (hstat : (Cond.static y).before args s = true) (hp : PreS s H Pc As)
    (hg : g.method = m) (hn : As.length = n) (hsize : g.locals.size = nL) (hstack : g.stack = As.reverse ++ rest) (hW : 2 * g.monitorRoom + (rest.map fun v => v.category).sum ≤ 8) (hdg : decode cc g.pc = .ok (.invokestatic index, 3)) (hf : cells + mc ≤ R.cells ∧ slots + ms ≤ R.slots) :
    va_Run p l e R s m args below meth c H locs cells slots mc ms g rest (Qc As.toArray) (free) := by
  intro T hT X
  obtain ⟨hx, hb, hml, ho, -⟩ := FX
  obtain ⟨mk, methM, cM, hnamed, hmethM, hcM, -, hlM, -, -, -, hsigM⟩ := Cond.codeWith_spec hcode
  have hstatic : methM.isStatic = true := Cond.static_spec hnamed hmethM hstat
  obtain ⟨kP, hkP, -⟩ := className_of_methodNamed hnamed
  have hinitP : kP.init = .initialized := Cond.initialized_spec (findClass_of_methodNamed hnamed) hkP hini
  have hdg' : decode c.code g.pc = .ok (.invokestatic index, 3) := by rw [hb]; exact hdg
  have hlen' : As.length = methM.sig.parameters.length := by
    rw [hsigM] at hlen
    exact hn.trans (Option.some.inj hlen).symm
  obtain ⟨vm₁, X₁, hstep₁⟩ := X.invokestatic hx ho hlink hnamed hmethM hstatic hkP hinitP hy (g := g) hg (argsL := As) (rest := rest) hlen' hstack hdg'
  have hnU : (T.setVm vm₁).methodNamed? y = some mk := X₁.named hnamed
  obtain ⟨kY, hkY, -⟩ := className_of_methodNamed hnU
  have hinitY : kY.init = .initialized := Cond.initialized_spec (args := args) (first := T.setVm vm₁) (o := none) (idx := []) (findClass_of_methodNamed hnU) hkY (word_at (a' := args) X₁.warmed (Or.inl rfl) hini)
  have hmU : (T.setVm vm₁).vm.method? mk = some methM := by rw [X₁.warmed.alike.method?]; exact hmethM
  have h : At (T.setVm vm₁) ({ g with stack := rest } : JFrame).method c below := by
    show At (T.setVm vm₁) g.method c below
    rw [hg]
    exact X₁.here
  have happ : (headSpec wsy rm).appliesLoose y e.platform ((T.setVm vm₁).calling { g with stack := rest } mk As.toArray) = true :=
    Spec.appliesLoose_calling (g := { g with stack := rest }) h hdg' hnU hkY hinitY
      (X₁.room_calling (g := { g with stack := rest }) (R' := rm) (hsize.trans hml.symm) hmU hcM hfr (by rw [hlM]; show 2 * g.monitorRoom + (rest.map fun v => v.category).sum + (maxL + 11) + rm.locals ≤ R.locals; omega) (by rw [hrc]; exact hf.1) (by rw [hrs]; exact hf.2)) (atoms_intro (fun w hw => hws w hw _ _ X₁.warmed))
  obtain ⟨mid, hmid⟩ := h.above
  have hfr2 : ((T.setVm vm₁).setTop { g with stack := rest }).frames = (.java { g with stack := rest } :: mid) ++ below := by rw [State.frames_setTop' _ h.top, hmid]; rfl
  obtain ⟨o, t, hsteps, -, hend, hQ, L, ⟨⟨v, rfl⟩, hW2, hsame⟩, hL⟩ := Steps.callFree hM p X₁.admits X₁.cas X₁.clock (acts := []) hfr2 happ (hp.1 _ _ _ _ (hp.2 (T.setVm vm₁) hT X₁.warmed)) trivial
  rw [State.frames_setTop' _ h.top, X₁.tail] at hend
  obtain ⟨T', X', hW3, hsm, ht⟩ := X₁.outOf (g := { g with stack := rest }) hg hdg' hend hW2 hsame
  refine ⟨v, ((T.setVm vm₁).setTop { g with stack := rest }).pushFrame (.invoking mk As.toArray), t, T', L, hT, X', hL, ?_, ?_, hQ, fun target h => hstep₁ _ fun acts => ?_⟩
  · rw [ht]; rfl
  · rw [ht]; rfl
  · rw [doInvoke_state]
    exact hsteps.trans (by rw [ht]; exact h)
/-- the callee throws, a handler of the method's own takes it -/
theorem th_catch {S : Type} {w1 : S → va_W} {hpc : Nat} (hK : va_K D cl tys s) (isC isR : List Nat) (hP : va_P D cl ws H) (hD : va_D A ws) (hS : va_S A s.heap H locs) (hA : ∀ q, s.heap.size ≤ q → A q) (hC : isC.map (fun i => ws[i]?) = wc.map some) (hR : isR.map (fun i => ws[i]?) = wr.map some) (hn : va_nd isR = true) (hdis : ∀ i ∈ isR, i ∉ isC) (hnc : va_nd isC = true)
    (FX : CallFix p m c cc nL s args Ts own) (hM : th_M l y wsy rm Pc (th_P D cl tys wc H.size CX w1) mc ms (va_A wc H.size)) (cw : CallW R s args own C index y bytes maxL ret wsy rm mc ms n) (hp : va_P D cl wc H → va_D A wc → PreV s H C b Pc As)
    (hna : As.length = n) (hsize : ls.size = nL) (hstack : st0 = As.reverse ++ .ref b :: rest) (hW : (rest.map fun v => v.category).sum ≤ 8) (hdg : decode cc pc = .ok (.invokevirtual index, 3)) (hf : cells + mc ≤ R.cells ∧ slots + ms ≤ R.slots)
    (hfind : ∀ (S : State) (x : Nat) (ce : Cell), l.admits e → s.WarmedH S.vm → S.heap[x]? = some ce → S.vm.findClass CX = some ce.cls → ce.vm = .none → ∃ v' : Vm, s.WarmedH v' ∧ ∀ (Q : Handler → Pre) (E : CtlPost) (d : Bool) (acts : List Action), wp (findHandler.go (F0 m pc ls rest) x c.exceptionTable.toList) Q E e d acts S ↔ Q (.found hpc) d acts (S.setVm v'))
    (kk : ∀ (u : S) (x : Nat) (H1 : Heap) (locs1 : List Loc), va_P D cl (wr ++ w1 u) H1 → va_D A (wr ++ w1 u) → va_S A s.heap H1 locs1 → W p l e R s m args below meth c H1 locs1 (cells + mc) (slots + ms) Q (F0 m hpc ls [.ref x])) : W p l e R s m args below meth c H locs cells slots Q (F0 m pc ls st0) := by
  intro T hT X
  obtain ⟨x, u, T', locs1, ce, X', hP2, hD2, hS2, c1, c2, c3, hsteps⟩ := th_out X hT isC isR hP hD hS hA hC hR hn hdis hnc FX hM cw hp hna hsize hstack hW hdg hf
  obtain ⟨v', hWv, hfd⟩ := hfind ((T'.setTop (F0 m pc ls rest)).pushFrame (.throwing x)) x ce X'.admits (by rw [Stand.throwing_vm]; exact X'.warmed) (by rw [Stand.throwing_heap]; exact c1) (by rw [Stand.throwing_vm]; exact c2) c3
  obtain ⟨t, a1, b1⟩ := kk u x T'.heap locs1 hP2 hD2 hS2 (T'.setVm v') rfl (X'.noted hWv)
  refine ⟨t, hsteps t (th_caught X'.here (v' := v') (pc := hpc) (fun Q E d acts => ?_) a1), b1⟩
  rw [Jvm.W.findHandler_eq (by rw [Stand.throwing_vm]; exact X'.method') X'.code]
  exact hfd Q E d acts
end TH5
